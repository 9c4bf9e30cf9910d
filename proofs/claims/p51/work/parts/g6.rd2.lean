abbrev cX7_readBlock : ByteArray := prog_9_method_5_code
def yX7_readBlock : MethodName := ⟨RX7, "readBlock", "()V"⟩
abbrev cX7_readCall : ByteArray := prog_9_method_17_code
def yX7_readCall : MethodName := ⟨RX7, "readCall", "(JI)I"⟩
abbrev cX7_readIf : ByteArray := prog_9_method_8_code
def yX7_readIf : MethodName := ⟨RX7, "readIf", "()V"⟩
abbrev cX7_readOperand : ByteArray := prog_9_method_12_code
def yX7_readOperand : MethodName := ⟨RX7, "readOperand", "(I)I"⟩
abbrev cX7_readSigned : ByteArray := prog_9_method_15_code
def yX7_readSigned : MethodName := ⟨RX7, "readSigned", "()I"⟩
abbrev cX7_readShortCut : ByteArray := prog_9_method_13_code
def yX7_readShortCut : MethodName := ⟨RX7, "readShortCut", "(I)I"⟩
abbrev cX7_readSingle : ByteArray := prog_9_method_16_code
def yX7_readSingle : MethodName := ⟨RX7, "readSingle", "()I"⟩
abbrev cX7_readStatement : ByteArray := prog_9_method_6_code
def yX7_readStatement : MethodName := ⟨RX7, "readStatement", "()V"⟩
abbrev cX7_readTest : ByteArray := prog_9_method_11_code
def yX7_readTest : MethodName := ⟨RX7, "readTest", "(I)I"⟩
abbrev cX7_readWhile : ByteArray := prog_9_method_9_code
def yX7_readWhile : MethodName := ⟨RX7, "readWhile", "()V"⟩
theorem dX7_readBlock_0 : decode cX7_readBlock 0 = .ok (.aload_n 0, 1) := by decide +kernel
theorem dX7_readBlock_1 : decode cX7_readBlock 1 = .ok (.getfield 92, 3) := by decide +kernel
theorem dX7_readBlock_4 : decode cX7_readBlock 4 = .ok (.istore_n 1, 1) := by decide +kernel
theorem dX7_readBlock_5 : decode cX7_readBlock 5 = .ok (.aload_n 0, 1) := by decide +kernel
theorem dX7_readBlock_6 : decode cX7_readBlock 6 = .ok (.bipush 123, 2) := by decide +kernel
theorem dX7_readBlock_8 : decode cX7_readBlock 8 = .ok (.invokevirtual 98, 3) := by decide +kernel
theorem dX7_readBlock_11 : decode cX7_readBlock 11 = .ok (.iconst 0, 1) := by decide +kernel
theorem dX7_readBlock_12 : decode cX7_readBlock 12 = .ok (.istore_n 2, 1) := by decide +kernel
theorem dX7_readBlock_13 : decode cX7_readBlock 13 = .ok (.iload_n 2, 1) := by decide +kernel
theorem dX7_readBlock_14 : decode cX7_readBlock 14 = .ok (.sipush 600, 3) := by decide +kernel
theorem dX7_readBlock_17 : decode cX7_readBlock 17 = .ok (.if_icmp .gt 25, 3) := by decide +kernel
theorem dX7_readBlock_20 : decode cX7_readBlock 20 = .ok (.aload_n 0, 1) := by decide +kernel
theorem dX7_readBlock_21 : decode cX7_readBlock 21 = .ok (.getfield 37, 3) := by decide +kernel
theorem dX7_readBlock_24 : decode cX7_readBlock 24 = .ok (.getfield 71, 3) := by decide +kernel
theorem dX7_readBlock_27 : decode cX7_readBlock 27 = .ok (.bipush 125, 2) := by decide +kernel
theorem dX7_readBlock_29 : decode cX7_readBlock 29 = .ok (.if_icmp .eq 13, 3) := by decide +kernel
theorem dX7_readBlock_32 : decode cX7_readBlock 32 = .ok (.aload_n 0, 1) := by decide +kernel
theorem dX7_readBlock_33 : decode cX7_readBlock 33 = .ok (.invokevirtual 153, 3) := by decide +kernel
theorem dX7_readBlock_36 : decode cX7_readBlock 36 = .ok (.iinc 2 1, 3) := by decide +kernel
theorem dX7_readBlock_39 : decode cX7_readBlock 39 = .ok (.goto (-26), 3) := by decide +kernel
theorem dX7_readBlock_42 : decode cX7_readBlock 42 = .ok (.aload_n 0, 1) := by decide +kernel
theorem dX7_readBlock_43 : decode cX7_readBlock 43 = .ok (.bipush 125, 2) := by decide +kernel
theorem dX7_readBlock_45 : decode cX7_readBlock 45 = .ok (.invokevirtual 98, 3) := by decide +kernel
theorem dX7_readBlock_48 : decode cX7_readBlock 48 = .ok (.aload_n 0, 1) := by decide +kernel
theorem dX7_readBlock_49 : decode cX7_readBlock 49 = .ok (.iload_n 1, 1) := by decide +kernel
theorem dX7_readBlock_50 : decode cX7_readBlock 50 = .ok (.putfield 92, 3) := by decide +kernel
theorem dX7_readBlock_53 : decode cX7_readBlock 53 = .ok (.return_, 1) := by decide +kernel
theorem dX7_readCall_0 : decode cX7_readCall 0 = .ok (.aload_n 0, 1) := by decide +kernel
theorem dX7_readCall_1 : decode cX7_readCall 1 = .ok (.getfield 41, 3) := by decide +kernel
theorem dX7_readCall_4 : decode cX7_readCall 4 = .ok (.getfield 130, 3) := by decide +kernel
theorem dX7_readCall_7 : decode cX7_readCall 7 = .ok (.istore 4, 2) := by decide +kernel
theorem dX7_readCall_9 : decode cX7_readCall 9 = .ok (.iconst 0, 1) := by decide +kernel
theorem dX7_readCall_10 : decode cX7_readCall 10 = .ok (.istore 5, 2) := by decide +kernel
theorem dX7_readCall_12 : decode cX7_readCall 12 = .ok (.iconst 0, 1) := by decide +kernel
theorem dX7_readCall_13 : decode cX7_readCall 13 = .ok (.istore 6, 2) := by decide +kernel
theorem dX7_readCall_15 : decode cX7_readCall 15 = .ok (.aload_n 0, 1) := by decide +kernel
theorem dX7_readCall_16 : decode cX7_readCall 16 = .ok (.bipush 40, 2) := by decide +kernel
theorem dX7_readCall_18 : decode cX7_readCall 18 = .ok (.invokevirtual 98, 3) := by decide +kernel
theorem dX7_readCall_21 : decode cX7_readCall 21 = .ok (.iload 6, 2) := by decide +kernel
theorem dX7_readCall_23 : decode cX7_readCall 23 = .ok (.iconst 4, 1) := by decide +kernel
theorem dX7_readCall_24 : decode cX7_readCall 24 = .ok (.if_icmp .gt 54, 3) := by decide +kernel
theorem dX7_readCall_27 : decode cX7_readCall 27 = .ok (.aload_n 0, 1) := by decide +kernel
theorem dX7_readCall_28 : decode cX7_readCall 28 = .ok (.getfield 37, 3) := by decide +kernel
theorem dX7_readCall_31 : decode cX7_readCall 31 = .ok (.getfield 71, 3) := by decide +kernel
theorem dX7_readCall_34 : decode cX7_readCall 34 = .ok (.bipush 41, 2) := by decide +kernel
theorem dX7_readCall_36 : decode cX7_readCall 36 = .ok (.if_icmp .eq 42, 3) := by decide +kernel
theorem dX7_readCall_39 : decode cX7_readCall 39 = .ok (.iload 6, 2) := by decide +kernel
theorem dX7_readCall_41 : decode cX7_readCall 41 = .ok (.ifCond .le 9, 3) := by decide +kernel
theorem dX7_readCall_44 : decode cX7_readCall 44 = .ok (.aload_n 0, 1) := by decide +kernel
theorem dX7_readCall_45 : decode cX7_readCall 45 = .ok (.bipush 44, 2) := by decide +kernel
theorem dX7_readCall_47 : decode cX7_readCall 47 = .ok (.invokevirtual 98, 3) := by decide +kernel
theorem dX7_readCall_50 : decode cX7_readCall 50 = .ok (.iload 6, 2) := by decide +kernel
theorem dX7_readCall_52 : decode cX7_readCall 52 = .ok (.iconst 4, 1) := by decide +kernel
theorem dX7_readCall_53 : decode cX7_readCall 53 = .ok (.if_icmp .ne 7, 3) := by decide +kernel
theorem dX7_readCall_56 : decode cX7_readCall 56 = .ok (.aload_n 0, 1) := by decide +kernel
theorem dX7_readCall_60 : decode cX7_readCall 60 = .ok (.iload 5, 2) := by decide +kernel
theorem dX7_readCall_62 : decode cX7_readCall 62 = .ok (.aload_n 0, 1) := by decide +kernel
theorem dX7_readCall_63 : decode cX7_readCall 63 = .ok (.iconst 0, 1) := by decide +kernel
theorem dX7_readCall_64 : decode cX7_readCall 64 = .ok (.invokevirtual 160, 3) := by decide +kernel
theorem dX7_readCall_67 : decode cX7_readCall 67 = .ok (.invokestatic 205, 3) := by decide +kernel
theorem dX7_readCall_70 : decode cX7_readCall 70 = .ok (.istore 5, 2) := by decide +kernel
theorem dX7_readCall_72 : decode cX7_readCall 72 = .ok (.iinc 6 1, 3) := by decide +kernel
theorem dX7_readCall_75 : decode cX7_readCall 75 = .ok (.goto (-54), 3) := by decide +kernel
theorem dX7_readCall_78 : decode cX7_readCall 78 = .ok (.aload_n 0, 1) := by decide +kernel
theorem dX7_readCall_79 : decode cX7_readCall 79 = .ok (.bipush 41, 2) := by decide +kernel
theorem dX7_readCall_81 : decode cX7_readCall 81 = .ok (.invokevirtual 98, 3) := by decide +kernel
theorem dX7_readCall_84 : decode cX7_readCall 84 = .ok (.iload 6, 2) := by decide +kernel
theorem dX7_readCall_86 : decode cX7_readCall 86 = .ok (.istore 7, 2) := by decide +kernel
theorem dX7_readCall_88 : decode cX7_readCall 88 = .ok (.iload 7, 2) := by decide +kernel
theorem dX7_readCall_90 : decode cX7_readCall 90 = .ok (.ifCond .le 21, 3) := by decide +kernel
theorem dX7_readCall_93 : decode cX7_readCall 93 = .ok (.aload_n 0, 1) := by decide +kernel
theorem dX7_readCall_94 : decode cX7_readCall 94 = .ok (.getfield 41, 3) := by decide +kernel
theorem dX7_readCall_97 : decode cX7_readCall 97 = .ok (.bipush 19, 2) := by decide +kernel
theorem dX7_readCall_99 : decode cX7_readCall 99 = .ok (.iload 7, 2) := by decide +kernel
theorem dX7_readCall_101 : decode cX7_readCall 101 = .ok (.iconst 0, 1) := by decide +kernel
theorem dX7_readCall_102 : decode cX7_readCall 102 = .ok (.invokevirtual 139, 3) := by decide +kernel
theorem dX7_readCall_105 : decode cX7_readCall 105 = .ok (.iinc 7 (-1), 3) := by decide +kernel
theorem dX7_readCall_108 : decode cX7_readCall 108 = .ok (.goto (-20), 3) := by decide +kernel
theorem dX7_readCall_111 : decode cX7_readCall 111 = .ok (.aload_n 0, 1) := by decide +kernel
theorem dX7_readCall_112 : decode cX7_readCall 112 = .ok (.lload_n 1, 1) := by decide +kernel
theorem dX7_readCall_113 : decode cX7_readCall 113 = .ok (.iload_n 3, 1) := by decide +kernel
theorem dX7_readCall_114 : decode cX7_readCall 114 = .ok (.iload 6, 2) := by decide +kernel
theorem dX7_readCall_116 : decode cX7_readCall 116 = .ok (.invokevirtual 229, 3) := by decide +kernel
theorem dX7_readCall_119 : decode cX7_readCall 119 = .ok (.aload_n 0, 1) := by decide +kernel
theorem dX7_readCall_120 : decode cX7_readCall 120 = .ok (.getfield 41, 3) := by decide +kernel
theorem dX7_readCall_123 : decode cX7_readCall 123 = .ok (.bipush 20, 2) := by decide +kernel
theorem dX7_readCall_125 : decode cX7_readCall 125 = .ok (.iconst 0, 1) := by decide +kernel
theorem dX7_readCall_126 : decode cX7_readCall 126 = .ok (.iconst 0, 1) := by decide +kernel
theorem dX7_readCall_127 : decode cX7_readCall 127 = .ok (.invokevirtual 139, 3) := by decide +kernel
theorem dX7_readCall_130 : decode cX7_readCall 130 = .ok (.aload_n 0, 1) := by decide +kernel
theorem dX7_readCall_131 : decode cX7_readCall 131 = .ok (.getfield 41, 3) := by decide +kernel
theorem dX7_readCall_134 : decode cX7_readCall 134 = .ok (.iload 4, 2) := by decide +kernel
theorem dX7_readCall_136 : decode cX7_readCall 136 = .ok (.invokevirtual 180, 3) := by decide +kernel
theorem dX7_readCall_139 : decode cX7_readCall 139 = .ok (.aload_n 0, 1) := by decide +kernel
theorem dX7_readCall_140 : decode cX7_readCall 140 = .ok (.iload 5, 2) := by decide +kernel
theorem dX7_readCall_142 : decode cX7_readCall 142 = .ok (.iload_n 3, 1) := by decide +kernel
theorem dX7_readCall_143 : decode cX7_readCall 143 = .ok (.invokevirtual 211, 3) := by decide +kernel
theorem dX7_readCall_146 : decode cX7_readCall 146 = .ok (.ireturn, 1) := by decide +kernel
theorem dX7_readIf_0 : decode cX7_readIf 0 = .ok (.aload_n 0, 1) := by decide +kernel
theorem dX7_readIf_1 : decode cX7_readIf 1 = .ok (.bipush 8, 2) := by decide +kernel
theorem dX7_readIf_3 : decode cX7_readIf 3 = .ok (.invokevirtual 98, 3) := by decide +kernel
theorem dX7_readIf_6 : decode cX7_readIf 6 = .ok (.aload_n 0, 1) := by decide +kernel
theorem dX7_readIf_7 : decode cX7_readIf 7 = .ok (.iconst 0, 1) := by decide +kernel
theorem dX7_readIf_8 : decode cX7_readIf 8 = .ok (.invokevirtual 160, 3) := by decide +kernel
theorem dX7_readIf_11 : decode cX7_readIf 11 = .ok (.pop, 1) := by decide +kernel
theorem dX7_readIf_12 : decode cX7_readIf 12 = .ok (.aload_n 0, 1) := by decide +kernel
theorem dX7_readIf_13 : decode cX7_readIf 13 = .ok (.getfield 41, 3) := by decide +kernel
theorem dX7_readIf_16 : decode cX7_readIf 16 = .ok (.invokevirtual 183, 3) := by decide +kernel
theorem dX7_readIf_19 : decode cX7_readIf 19 = .ok (.istore_n 1, 1) := by decide +kernel
theorem dX7_readIf_20 : decode cX7_readIf 20 = .ok (.aload_n 0, 1) := by decide +kernel
theorem dX7_readIf_21 : decode cX7_readIf 21 = .ok (.getfield 41, 3) := by decide +kernel
theorem dX7_readIf_24 : decode cX7_readIf 24 = .ok (.bipush 33, 2) := by decide +kernel
theorem dX7_readIf_26 : decode cX7_readIf 26 = .ok (.iload_n 1, 1) := by decide +kernel
theorem dX7_readIf_27 : decode cX7_readIf 27 = .ok (.iconst 0, 1) := by decide +kernel
theorem dX7_readIf_28 : decode cX7_readIf 28 = .ok (.invokevirtual 139, 3) := by decide +kernel
theorem dX7_readIf_31 : decode cX7_readIf 31 = .ok (.aload_n 0, 1) := by decide +kernel
theorem dX7_readIf_32 : decode cX7_readIf 32 = .ok (.invokevirtual 136, 3) := by decide +kernel
theorem dX7_readIf_35 : decode cX7_readIf 35 = .ok (.aload_n 0, 1) := by decide +kernel
theorem dX7_readIf_36 : decode cX7_readIf 36 = .ok (.getfield 37, 3) := by decide +kernel
theorem dX7_readIf_39 : decode cX7_readIf 39 = .ok (.getfield 71, 3) := by decide +kernel
theorem dX7_readIf_42 : decode cX7_readIf 42 = .ok (.bipush 6, 2) := by decide +kernel
theorem dX7_readIf_44 : decode cX7_readIf 44 = .ok (.if_icmp .ne 51, 3) := by decide +kernel
theorem dX7_readIf_47 : decode cX7_readIf 47 = .ok (.aload_n 0, 1) := by decide +kernel
theorem dX7_readIf_48 : decode cX7_readIf 48 = .ok (.bipush 6, 2) := by decide +kernel
theorem dX7_readIf_50 : decode cX7_readIf 50 = .ok (.invokevirtual 98, 3) := by decide +kernel
theorem dX7_readIf_53 : decode cX7_readIf 53 = .ok (.aload_n 0, 1) := by decide +kernel
theorem dX7_readIf_54 : decode cX7_readIf 54 = .ok (.getfield 41, 3) := by decide +kernel
theorem dX7_readIf_57 : decode cX7_readIf 57 = .ok (.invokevirtual 183, 3) := by decide +kernel
theorem dX7_readIf_60 : decode cX7_readIf 60 = .ok (.istore_n 2, 1) := by decide +kernel
theorem dX7_readIf_61 : decode cX7_readIf 61 = .ok (.aload_n 0, 1) := by decide +kernel
theorem dX7_readIf_62 : decode cX7_readIf 62 = .ok (.getfield 41, 3) := by decide +kernel
theorem dX7_readIf_65 : decode cX7_readIf 65 = .ok (.bipush 22, 2) := by decide +kernel
theorem dX7_readIf_67 : decode cX7_readIf 67 = .ok (.iload_n 2, 1) := by decide +kernel
theorem dX7_readIf_68 : decode cX7_readIf 68 = .ok (.iconst 0, 1) := by decide +kernel
theorem dX7_readIf_69 : decode cX7_readIf 69 = .ok (.invokevirtual 139, 3) := by decide +kernel
theorem dX7_readIf_72 : decode cX7_readIf 72 = .ok (.aload_n 0, 1) := by decide +kernel
theorem dX7_readIf_73 : decode cX7_readIf 73 = .ok (.getfield 41, 3) := by decide +kernel
theorem dX7_readIf_76 : decode cX7_readIf 76 = .ok (.iload_n 1, 1) := by decide +kernel
theorem dX7_readIf_77 : decode cX7_readIf 77 = .ok (.invokevirtual 187, 3) := by decide +kernel
theorem dX7_readIf_80 : decode cX7_readIf 80 = .ok (.aload_n 0, 1) := by decide +kernel
theorem dX7_readIf_81 : decode cX7_readIf 81 = .ok (.invokevirtual 136, 3) := by decide +kernel
theorem dX7_readIf_84 : decode cX7_readIf 84 = .ok (.aload_n 0, 1) := by decide +kernel
theorem dX7_readIf_85 : decode cX7_readIf 85 = .ok (.getfield 41, 3) := by decide +kernel
theorem dX7_readIf_88 : decode cX7_readIf 88 = .ok (.iload_n 2, 1) := by decide +kernel
theorem dX7_readIf_89 : decode cX7_readIf 89 = .ok (.invokevirtual 187, 3) := by decide +kernel
theorem dX7_readIf_92 : decode cX7_readIf 92 = .ok (.goto 11, 3) := by decide +kernel
theorem dX7_readIf_95 : decode cX7_readIf 95 = .ok (.aload_n 0, 1) := by decide +kernel
theorem dX7_readIf_96 : decode cX7_readIf 96 = .ok (.getfield 41, 3) := by decide +kernel
theorem dX7_readIf_99 : decode cX7_readIf 99 = .ok (.iload_n 1, 1) := by decide +kernel
theorem dX7_readIf_100 : decode cX7_readIf 100 = .ok (.invokevirtual 187, 3) := by decide +kernel
theorem dX7_readIf_103 : decode cX7_readIf 103 = .ok (.return_, 1) := by decide +kernel
theorem dX7_readOperand_0 : decode cX7_readOperand 0 = .ok (.iload_n 1, 1) := by decide +kernel
theorem dX7_readOperand_1 : decode cX7_readOperand 1 = .ok (.iconst 4, 1) := by decide +kernel
theorem dX7_readOperand_2 : decode cX7_readOperand 2 = .ok (.if_icmp .ne 10, 3) := by decide +kernel
theorem dX7_readOperand_5 : decode cX7_readOperand 5 = .ok (.aload_n 0, 1) := by decide +kernel
theorem dX7_readOperand_6 : decode cX7_readOperand 6 = .ok (.invokevirtual 214, 3) := by decide +kernel
theorem dX7_readOperand_9 : decode cX7_readOperand 9 = .ok (.goto 10, 3) := by decide +kernel
theorem dX7_readOperand_12 : decode cX7_readOperand 12 = .ok (.aload_n 0, 1) := by decide +kernel
theorem dX7_readOperand_13 : decode cX7_readOperand 13 = .ok (.iload_n 1, 1) := by decide +kernel
theorem dX7_readOperand_14 : decode cX7_readOperand 14 = .ok (.iconst 1, 1) := by decide +kernel
theorem dX7_readOperand_15 : decode cX7_readOperand 15 = .ok (.iadd, 1) := by decide +kernel
theorem dX7_readOperand_16 : decode cX7_readOperand 16 = .ok (.invokevirtual 160, 3) := by decide +kernel
theorem dX7_readOperand_19 : decode cX7_readOperand 19 = .ok (.ireturn, 1) := by decide +kernel
theorem dX7_readShortCut_0 : decode cX7_readShortCut 0 = .ok (.aload_n 0, 1) := by decide +kernel
theorem dX7_readShortCut_1 : decode cX7_readShortCut 1 = .ok (.getfield 41, 3) := by decide +kernel
theorem dX7_readShortCut_4 : decode cX7_readShortCut 4 = .ok (.aload_n 0, 1) := by decide +kernel
theorem dX7_readShortCut_5 : decode cX7_readShortCut 5 = .ok (.getfield 89, 3) := by decide +kernel
theorem dX7_readShortCut_8 : decode cX7_readShortCut 8 = .ok (.invokevirtual 217, 3) := by decide +kernel
theorem dX7_readShortCut_11 : decode cX7_readShortCut 11 = .ok (.istore_n 2, 1) := by decide +kernel
theorem dX7_readShortCut_12 : decode cX7_readShortCut 12 = .ok (.aload_n 0, 1) := by decide +kernel
theorem dX7_readShortCut_13 : decode cX7_readShortCut 13 = .ok (.getfield 41, 3) := by decide +kernel
theorem dX7_readShortCut_16 : decode cX7_readShortCut 16 = .ok (.invokevirtual 183, 3) := by decide +kernel
theorem dX7_readShortCut_19 : decode cX7_readShortCut 19 = .ok (.istore_n 3, 1) := by decide +kernel
theorem dX7_readShortCut_20 : decode cX7_readShortCut 20 = .ok (.aload_n 0, 1) := by decide +kernel
theorem dX7_readShortCut_21 : decode cX7_readShortCut 21 = .ok (.invokevirtual 220, 3) := by decide +kernel
theorem dX7_readShortCut_24 : decode cX7_readShortCut 24 = .ok (.aload_n 0, 1) := by decide +kernel
theorem dX7_readShortCut_25 : decode cX7_readShortCut 25 = .ok (.getfield 41, 3) := by decide +kernel
theorem dX7_readShortCut_28 : decode cX7_readShortCut 28 = .ok (.bipush 32, 2) := by decide +kernel
theorem dX7_readShortCut_30 : decode cX7_readShortCut 30 = .ok (.iload_n 2, 1) := by decide +kernel
theorem dX7_readShortCut_31 : decode cX7_readShortCut 31 = .ok (.iconst 0, 1) := by decide +kernel
theorem dX7_readShortCut_32 : decode cX7_readShortCut 32 = .ok (.invokevirtual 139, 3) := by decide +kernel
theorem dX7_readShortCut_35 : decode cX7_readShortCut 35 = .ok (.aload_n 0, 1) := by decide +kernel
theorem dX7_readShortCut_36 : decode cX7_readShortCut 36 = .ok (.getfield 41, 3) := by decide +kernel
theorem dX7_readShortCut_39 : decode cX7_readShortCut 39 = .ok (.iload_n 1, 1) := by decide +kernel
theorem dX7_readShortCut_40 : decode cX7_readShortCut 40 = .ok (.ifCond .ne 8, 3) := by decide +kernel
theorem dX7_readShortCut_43 : decode cX7_readShortCut 43 = .ok (.bipush 34, 2) := by decide +kernel
theorem dX7_readShortCut_45 : decode cX7_readShortCut 45 = .ok (.goto 5, 3) := by decide +kernel
theorem dX7_readShortCut_48 : decode cX7_readShortCut 48 = .ok (.bipush 33, 2) := by decide +kernel
theorem dX7_readShortCut_50 : decode cX7_readShortCut 50 = .ok (.iload_n 3, 1) := by decide +kernel
theorem dX7_readShortCut_51 : decode cX7_readShortCut 51 = .ok (.iconst 0, 1) := by decide +kernel
theorem dX7_readShortCut_52 : decode cX7_readShortCut 52 = .ok (.invokevirtual 139, 3) := by decide +kernel
theorem dX7_readShortCut_55 : decode cX7_readShortCut 55 = .ok (.aload_n 0, 1) := by decide +kernel
theorem dX7_readShortCut_56 : decode cX7_readShortCut 56 = .ok (.iload_n 1, 1) := by decide +kernel
theorem dX7_readShortCut_57 : decode cX7_readShortCut 57 = .ok (.invokevirtual 193, 3) := by decide +kernel
theorem dX7_readShortCut_60 : decode cX7_readShortCut 60 = .ok (.istore 4, 2) := by decide +kernel
theorem dX7_readShortCut_62 : decode cX7_readShortCut 62 = .ok (.aload_n 0, 1) := by decide +kernel
theorem dX7_readShortCut_63 : decode cX7_readShortCut 63 = .ok (.invokevirtual 220, 3) := by decide +kernel
theorem dX7_readShortCut_66 : decode cX7_readShortCut 66 = .ok (.aload_n 0, 1) := by decide +kernel
theorem dX7_readShortCut_67 : decode cX7_readShortCut 67 = .ok (.getfield 41, 3) := by decide +kernel
theorem dX7_readShortCut_70 : decode cX7_readShortCut 70 = .ok (.bipush 31, 2) := by decide +kernel
theorem dX7_readShortCut_72 : decode cX7_readShortCut 72 = .ok (.iload_n 2, 1) := by decide +kernel
theorem dX7_readShortCut_73 : decode cX7_readShortCut 73 = .ok (.iconst 0, 1) := by decide +kernel
theorem dX7_readShortCut_74 : decode cX7_readShortCut 74 = .ok (.invokevirtual 139, 3) := by decide +kernel
theorem dX7_readShortCut_77 : decode cX7_readShortCut 77 = .ok (.aload_n 0, 1) := by decide +kernel
theorem dX7_readShortCut_78 : decode cX7_readShortCut 78 = .ok (.getfield 41, 3) := by decide +kernel
theorem dX7_readShortCut_81 : decode cX7_readShortCut 81 = .ok (.iload_n 3, 1) := by decide +kernel
theorem dX7_readShortCut_82 : decode cX7_readShortCut 82 = .ok (.invokevirtual 187, 3) := by decide +kernel
theorem dX7_readShortCut_85 : decode cX7_readShortCut 85 = .ok (.aload_n 0, 1) := by decide +kernel
theorem dX7_readShortCut_86 : decode cX7_readShortCut 86 = .ok (.getfield 41, 3) := by decide +kernel
theorem dX7_readShortCut_89 : decode cX7_readShortCut 89 = .ok (.bipush 30, 2) := by decide +kernel
theorem dX7_readShortCut_91 : decode cX7_readShortCut 91 = .ok (.iload_n 2, 1) := by decide +kernel
theorem dX7_readShortCut_92 : decode cX7_readShortCut 92 = .ok (.iconst 0, 1) := by decide +kernel
theorem dX7_readShortCut_93 : decode cX7_readShortCut 93 = .ok (.invokevirtual 139, 3) := by decide +kernel
theorem dX7_readShortCut_96 : decode cX7_readShortCut 96 = .ok (.iload 4, 2) := by decide +kernel
theorem dX7_readShortCut_98 : decode cX7_readShortCut 98 = .ok (.ireturn, 1) := by decide +kernel
theorem dX7_readSigned_0 : decode cX7_readSigned 0 = .ok (.aload_n 0, 1) := by decide +kernel
theorem dX7_readSigned_1 : decode cX7_readSigned 1 = .ok (.getfield 37, 3) := by decide +kernel
theorem dX7_readSigned_4 : decode cX7_readSigned 4 = .ok (.getfield 71, 3) := by decide +kernel
theorem dX7_readSigned_7 : decode cX7_readSigned 7 = .ok (.istore_n 1, 1) := by decide +kernel
theorem dX7_readSigned_8 : decode cX7_readSigned 8 = .ok (.aload_n 0, 1) := by decide +kernel
theorem dX7_readSigned_9 : decode cX7_readSigned 9 = .ok (.getfield 37, 3) := by decide +kernel
theorem dX7_readSigned_12 : decode cX7_readSigned 12 = .ok (.getfield 80, 3) := by decide +kernel
theorem dX7_readSigned_15 : decode cX7_readSigned 15 = .ok (.istore_n 2, 1) := by decide +kernel
theorem dX7_readSigned_16 : decode cX7_readSigned 16 = .ok (.iload_n 1, 1) := by decide +kernel
theorem dX7_readSigned_17 : decode cX7_readSigned 17 = .ok (.bipush 45, 2) := by decide +kernel
theorem dX7_readSigned_19 : decode cX7_readSigned 19 = .ok (.if_icmp .ne 42, 3) := by decide +kernel
theorem dX7_readSigned_22 : decode cX7_readSigned 22 = .ok (.aload_n 0, 1) := by decide +kernel
theorem dX7_readSigned_23 : decode cX7_readSigned 23 = .ok (.getfield 37, 3) := by decide +kernel
theorem dX7_readSigned_26 : decode cX7_readSigned 26 = .ok (.invokevirtual 190, 3) := by decide +kernel
theorem dX7_readSigned_29 : decode cX7_readSigned 29 = .ok (.aload_n 0, 1) := by decide +kernel
theorem dX7_readSigned_30 : decode cX7_readSigned 30 = .ok (.getfield 41, 3) := by decide +kernel
theorem dX7_readSigned_33 : decode cX7_readSigned 33 = .ok (.iconst 0, 1) := by decide +kernel
theorem dX7_readSigned_34 : decode cX7_readSigned 34 = .ok (.iconst 0, 1) := by decide +kernel
theorem dX7_readSigned_35 : decode cX7_readSigned 35 = .ok (.iconst 1, 1) := by decide +kernel
theorem dX7_readSigned_36 : decode cX7_readSigned 36 = .ok (.invokevirtual 139, 3) := by decide +kernel
theorem dX7_readSigned_39 : decode cX7_readSigned 39 = .ok (.aload_n 0, 1) := by decide +kernel
theorem dX7_readSigned_40 : decode cX7_readSigned 40 = .ok (.invokevirtual 223, 3) := by decide +kernel
theorem dX7_readSigned_43 : decode cX7_readSigned 43 = .ok (.istore_n 3, 1) := by decide +kernel
theorem dX7_readSigned_44 : decode cX7_readSigned 44 = .ok (.aload_n 0, 1) := by decide +kernel
theorem dX7_readSigned_45 : decode cX7_readSigned 45 = .ok (.getfield 41, 3) := by decide +kernel
theorem dX7_readSigned_48 : decode cX7_readSigned 48 = .ok (.iconst 2, 1) := by decide +kernel
theorem dX7_readSigned_49 : decode cX7_readSigned 49 = .ok (.iconst 0, 1) := by decide +kernel
theorem dX7_readSigned_50 : decode cX7_readSigned 50 = .ok (.iconst 0, 1) := by decide +kernel
theorem dX7_readSigned_51 : decode cX7_readSigned 51 = .ok (.invokevirtual 139, 3) := by decide +kernel
theorem dX7_readSigned_54 : decode cX7_readSigned 54 = .ok (.aload_n 0, 1) := by decide +kernel
theorem dX7_readSigned_55 : decode cX7_readSigned 55 = .ok (.iload_n 3, 1) := by decide +kernel
theorem dX7_readSigned_56 : decode cX7_readSigned 56 = .ok (.iload_n 2, 1) := by decide +kernel
theorem dX7_readSigned_57 : decode cX7_readSigned 57 = .ok (.invokevirtual 211, 3) := by decide +kernel
theorem dX7_readSigned_60 : decode cX7_readSigned 60 = .ok (.ireturn, 1) := by decide +kernel
theorem dX7_readSigned_61 : decode cX7_readSigned 61 = .ok (.iload_n 1, 1) := by decide +kernel
theorem dX7_readSigned_62 : decode cX7_readSigned 62 = .ok (.bipush 33, 2) := by decide +kernel
theorem dX7_readSigned_64 : decode cX7_readSigned 64 = .ok (.if_icmp .ne 61, 3) := by decide +kernel
theorem dX7_readSigned_67 : decode cX7_readSigned 67 = .ok (.aload_n 0, 1) := by decide +kernel
theorem dX7_readSigned_68 : decode cX7_readSigned 68 = .ok (.getfield 37, 3) := by decide +kernel
theorem dX7_readSigned_71 : decode cX7_readSigned 71 = .ok (.invokevirtual 190, 3) := by decide +kernel
theorem dX7_readSigned_74 : decode cX7_readSigned 74 = .ok (.aload_n 0, 1) := by decide +kernel
theorem dX7_readSigned_75 : decode cX7_readSigned 75 = .ok (.getfield 41, 3) := by decide +kernel
theorem dX7_readSigned_78 : decode cX7_readSigned 78 = .ok (.getfield 130, 3) := by decide +kernel
theorem dX7_readSigned_81 : decode cX7_readSigned 81 = .ok (.istore_n 3, 1) := by decide +kernel
theorem dX7_readSigned_82 : decode cX7_readSigned 82 = .ok (.aload_n 0, 1) := by decide +kernel
theorem dX7_readSigned_83 : decode cX7_readSigned 83 = .ok (.invokevirtual 223, 3) := by decide +kernel
theorem dX7_readSigned_86 : decode cX7_readSigned 86 = .ok (.istore 4, 2) := by decide +kernel
theorem dX7_readSigned_88 : decode cX7_readSigned 88 = .ok (.aload_n 0, 1) := by decide +kernel
theorem dX7_readSigned_89 : decode cX7_readSigned 89 = .ok (.getfield 41, 3) := by decide +kernel
theorem dX7_readSigned_92 : decode cX7_readSigned 92 = .ok (.iload_n 3, 1) := by decide +kernel
theorem dX7_readSigned_93 : decode cX7_readSigned 93 = .ok (.invokevirtual 180, 3) := by decide +kernel
theorem dX7_readSigned_96 : decode cX7_readSigned 96 = .ok (.aload_n 0, 1) := by decide +kernel
theorem dX7_readSigned_97 : decode cX7_readSigned 97 = .ok (.getfield 41, 3) := by decide +kernel
theorem dX7_readSigned_100 : decode cX7_readSigned 100 = .ok (.iconst 0, 1) := by decide +kernel
theorem dX7_readSigned_101 : decode cX7_readSigned 101 = .ok (.iconst 0, 1) := by decide +kernel
theorem dX7_readSigned_102 : decode cX7_readSigned 102 = .ok (.iconst 0, 1) := by decide +kernel
theorem dX7_readSigned_103 : decode cX7_readSigned 103 = .ok (.invokevirtual 139, 3) := by decide +kernel
theorem dX7_readSigned_106 : decode cX7_readSigned 106 = .ok (.aload_n 0, 1) := by decide +kernel
theorem dX7_readSigned_107 : decode cX7_readSigned 107 = .ok (.getfield 41, 3) := by decide +kernel
theorem dX7_readSigned_110 : decode cX7_readSigned 110 = .ok (.bipush 15, 2) := by decide +kernel
theorem dX7_readSigned_112 : decode cX7_readSigned 112 = .ok (.iconst 0, 1) := by decide +kernel
theorem dX7_readSigned_113 : decode cX7_readSigned 113 = .ok (.iconst 0, 1) := by decide +kernel
theorem dX7_readSigned_114 : decode cX7_readSigned 114 = .ok (.invokevirtual 139, 3) := by decide +kernel
theorem dX7_readSigned_117 : decode cX7_readSigned 117 = .ok (.aload_n 0, 1) := by decide +kernel
theorem dX7_readSigned_118 : decode cX7_readSigned 118 = .ok (.iload 4, 2) := by decide +kernel
theorem dX7_readSigned_120 : decode cX7_readSigned 120 = .ok (.iload_n 2, 1) := by decide +kernel
theorem dX7_readSigned_121 : decode cX7_readSigned 121 = .ok (.invokevirtual 211, 3) := by decide +kernel
theorem dX7_readSigned_124 : decode cX7_readSigned 124 = .ok (.ireturn, 1) := by decide +kernel
theorem dX7_readSigned_125 : decode cX7_readSigned 125 = .ok (.aload_n 0, 1) := by decide +kernel
theorem dX7_readSigned_126 : decode cX7_readSigned 126 = .ok (.invokevirtual 223, 3) := by decide +kernel
theorem dX7_readSigned_129 : decode cX7_readSigned 129 = .ok (.ireturn, 1) := by decide +kernel
theorem dX7_readSingle_0 : decode cX7_readSingle 0 = .ok (.aload_n 0, 1) := by decide +kernel
theorem dX7_readSingle_1 : decode cX7_readSingle 1 = .ok (.getfield 37, 3) := by decide +kernel
theorem dX7_readSingle_4 : decode cX7_readSingle 4 = .ok (.getfield 80, 3) := by decide +kernel
theorem dX7_readSingle_7 : decode cX7_readSingle 7 = .ok (.istore_n 1, 1) := by decide +kernel
theorem dX7_readSingle_8 : decode cX7_readSingle 8 = .ok (.iconst 1, 1) := by decide +kernel
theorem dX7_readSingle_9 : decode cX7_readSingle 9 = .ok (.istore_n 2, 1) := by decide +kernel
theorem dX7_readSingle_10 : decode cX7_readSingle 10 = .ok (.aload_n 0, 1) := by decide +kernel
theorem dX7_readSingle_11 : decode cX7_readSingle 11 = .ok (.getfield 37, 3) := by decide +kernel
theorem dX7_readSingle_14 : decode cX7_readSingle 14 = .ok (.getfield 71, 3) := by decide +kernel
theorem dX7_readSingle_17 : decode cX7_readSingle 17 = .ok (.iconst 2, 1) := by decide +kernel
theorem dX7_readSingle_18 : decode cX7_readSingle 18 = .ok (.if_icmp .ne 29, 3) := by decide +kernel
theorem dX7_readSingle_21 : decode cX7_readSingle 21 = .ok (.aload_n 0, 1) := by decide +kernel
theorem dX7_readSingle_22 : decode cX7_readSingle 22 = .ok (.getfield 41, 3) := by decide +kernel
theorem dX7_readSingle_25 : decode cX7_readSingle 25 = .ok (.iconst 0, 1) := by decide +kernel
theorem dX7_readSingle_26 : decode cX7_readSingle 26 = .ok (.aload_n 0, 1) := by decide +kernel
theorem dX7_readSingle_27 : decode cX7_readSingle 27 = .ok (.getfield 37, 3) := by decide +kernel
theorem dX7_readSingle_30 : decode cX7_readSingle 30 = .ok (.getfield 226, 3) := by decide +kernel
theorem dX7_readSingle_33 : decode cX7_readSingle 33 = .ok (.iconst 1, 1) := by decide +kernel
theorem dX7_readSingle_34 : decode cX7_readSingle 34 = .ok (.invokevirtual 139, 3) := by decide +kernel
theorem dX7_readSingle_37 : decode cX7_readSingle 37 = .ok (.aload_n 0, 1) := by decide +kernel
theorem dX7_readSingle_38 : decode cX7_readSingle 38 = .ok (.getfield 37, 3) := by decide +kernel
theorem dX7_readSingle_41 : decode cX7_readSingle 41 = .ok (.invokevirtual 190, 3) := by decide +kernel
theorem dX7_readSingle_44 : decode cX7_readSingle 44 = .ok (.goto 155, 3) := by decide +kernel
theorem dX7_readSingle_47 : decode cX7_readSingle 47 = .ok (.aload_n 0, 1) := by decide +kernel
theorem dX7_readSingle_48 : decode cX7_readSingle 48 = .ok (.getfield 37, 3) := by decide +kernel
theorem dX7_readSingle_51 : decode cX7_readSingle 51 = .ok (.getfield 71, 3) := by decide +kernel
theorem dX7_readSingle_54 : decode cX7_readSingle 54 = .ok (.iconst 3, 1) := by decide +kernel
theorem dX7_readSingle_55 : decode cX7_readSingle 55 = .ok (.if_icmp .ne 59, 3) := by decide +kernel
theorem dX7_readSingle_58 : decode cX7_readSingle 58 = .ok (.aload_n 0, 1) := by decide +kernel
theorem dX7_readSingle_59 : decode cX7_readSingle 59 = .ok (.getfield 37, 3) := by decide +kernel
theorem dX7_readSingle_62 : decode cX7_readSingle 62 = .ok (.getfield 101, 3) := by decide +kernel
theorem dX7_readSingle_65 : decode cX7_readSingle 65 = .ok (.lstore_n 3, 1) := by decide +kernel
theorem dX7_readSingle_66 : decode cX7_readSingle 66 = .ok (.aload_n 0, 1) := by decide +kernel
theorem dX7_readSingle_67 : decode cX7_readSingle 67 = .ok (.getfield 37, 3) := by decide +kernel
theorem dX7_readSingle_70 : decode cX7_readSingle 70 = .ok (.invokevirtual 190, 3) := by decide +kernel
theorem dX7_readSingle_73 : decode cX7_readSingle 73 = .ok (.aload_n 0, 1) := by decide +kernel
theorem dX7_readSingle_74 : decode cX7_readSingle 74 = .ok (.getfield 37, 3) := by decide +kernel
theorem dX7_readSingle_77 : decode cX7_readSingle 77 = .ok (.getfield 71, 3) := by decide +kernel
theorem dX7_readSingle_80 : decode cX7_readSingle 80 = .ok (.bipush 40, 2) := by decide +kernel
theorem dX7_readSingle_82 : decode cX7_readSingle 82 = .ok (.if_icmp .ne 13, 3) := by decide +kernel
theorem dX7_readSingle_85 : decode cX7_readSingle 85 = .ok (.aload_n 0, 1) := by decide +kernel
theorem dX7_readSingle_86 : decode cX7_readSingle 86 = .ok (.lload_n 3, 1) := by decide +kernel
theorem dX7_readSingle_87 : decode cX7_readSingle 87 = .ok (.iload_n 1, 1) := by decide +kernel
theorem dX7_readSingle_88 : decode cX7_readSingle 88 = .ok (.invokevirtual 164, 3) := by decide +kernel
theorem dX7_readSingle_91 : decode cX7_readSingle 91 = .ok (.istore_n 2, 1) := by decide +kernel
theorem dX7_readSingle_92 : decode cX7_readSingle 92 = .ok (.goto 19, 3) := by decide +kernel
theorem dX7_readSingle_95 : decode cX7_readSingle 95 = .ok (.aload_n 0, 1) := by decide +kernel
theorem dX7_readSingle_96 : decode cX7_readSingle 96 = .ok (.getfield 41, 3) := by decide +kernel
theorem dX7_readSingle_99 : decode cX7_readSingle 99 = .ok (.bipush 30, 2) := by decide +kernel
theorem dX7_readSingle_101 : decode cX7_readSingle 101 = .ok (.aload_n 0, 1) := by decide +kernel
theorem dX7_readSingle_102 : decode cX7_readSingle 102 = .ok (.lload_n 3, 1) := by decide +kernel
theorem dX7_readSingle_103 : decode cX7_readSingle 103 = .ok (.iload_n 1, 1) := by decide +kernel
theorem dX7_readSingle_104 : decode cX7_readSingle 104 = .ok (.invokevirtual 167, 3) := by decide +kernel
theorem dX7_readSingle_107 : decode cX7_readSingle 107 = .ok (.iconst 1, 1) := by decide +kernel
theorem dX7_readSingle_108 : decode cX7_readSingle 108 = .ok (.invokevirtual 139, 3) := by decide +kernel
theorem dX7_readSingle_111 : decode cX7_readSingle 111 = .ok (.goto 88, 3) := by decide +kernel
theorem dX7_readSingle_114 : decode cX7_readSingle 114 = .ok (.aload_n 0, 1) := by decide +kernel
theorem dX7_readSingle_115 : decode cX7_readSingle 115 = .ok (.getfield 37, 3) := by decide +kernel
theorem dX7_readSingle_118 : decode cX7_readSingle 118 = .ok (.getfield 71, 3) := by decide +kernel
theorem dX7_readSingle_121 : decode cX7_readSingle 121 = .ok (.bipush 91, 2) := by decide +kernel
theorem dX7_readSingle_123 : decode cX7_readSingle 123 = .ok (.if_icmp .ne 58, 3) := by decide +kernel
theorem dX7_readSingle_126 : decode cX7_readSingle 126 = .ok (.aload_n 0, 1) := by decide +kernel
theorem dX7_readSingle_127 : decode cX7_readSingle 127 = .ok (.bipush 91, 2) := by decide +kernel
theorem dX7_readSingle_129 : decode cX7_readSingle 129 = .ok (.invokevirtual 98, 3) := by decide +kernel
theorem dX7_readSingle_132 : decode cX7_readSingle 132 = .ok (.aload_n 0, 1) := by decide +kernel
theorem dX7_readSingle_133 : decode cX7_readSingle 133 = .ok (.getfield 41, 3) := by decide +kernel
theorem dX7_readSingle_136 : decode cX7_readSingle 136 = .ok (.getfield 130, 3) := by decide +kernel
theorem dX7_readSingle_139 : decode cX7_readSingle 139 = .ok (.istore_n 3, 1) := by decide +kernel
theorem dX7_readSingle_140 : decode cX7_readSingle 140 = .ok (.aload_n 0, 1) := by decide +kernel
theorem dX7_readSingle_141 : decode cX7_readSingle 141 = .ok (.iconst 0, 1) := by decide +kernel
theorem dX7_readSingle_142 : decode cX7_readSingle 142 = .ok (.invokevirtual 160, 3) := by decide +kernel
theorem dX7_readSingle_145 : decode cX7_readSingle 145 = .ok (.istore_n 2, 1) := by decide +kernel
theorem dX7_readSingle_146 : decode cX7_readSingle 146 = .ok (.aload_n 0, 1) := by decide +kernel
theorem dX7_readSingle_147 : decode cX7_readSingle 147 = .ok (.getfield 41, 3) := by decide +kernel
theorem dX7_readSingle_150 : decode cX7_readSingle 150 = .ok (.iload_n 3, 1) := by decide +kernel
theorem dX7_readSingle_151 : decode cX7_readSingle 151 = .ok (.invokevirtual 180, 3) := by decide +kernel
theorem dX7_readSingle_154 : decode cX7_readSingle 154 = .ok (.aload_n 0, 1) := by decide +kernel
theorem dX7_readSingle_155 : decode cX7_readSingle 155 = .ok (.bipush 93, 2) := by decide +kernel
theorem dX7_readSingle_157 : decode cX7_readSingle 157 = .ok (.invokevirtual 98, 3) := by decide +kernel
theorem dX7_readSingle_160 : decode cX7_readSingle 160 = .ok (.aload_n 0, 1) := by decide +kernel
theorem dX7_readSingle_161 : decode cX7_readSingle 161 = .ok (.getfield 41, 3) := by decide +kernel
theorem dX7_readSingle_164 : decode cX7_readSingle 164 = .ok (.bipush 17, 2) := by decide +kernel
theorem dX7_readSingle_166 : decode cX7_readSingle 166 = .ok (.iconst 0, 1) := by decide +kernel
theorem dX7_readSingle_167 : decode cX7_readSingle 167 = .ok (.iconst 0, 1) := by decide +kernel
theorem dX7_readSingle_168 : decode cX7_readSingle 168 = .ok (.invokevirtual 139, 3) := by decide +kernel
theorem dX7_readSingle_171 : decode cX7_readSingle 171 = .ok (.aload_n 0, 1) := by decide +kernel
theorem dX7_readSingle_172 : decode cX7_readSingle 172 = .ok (.iload_n 2, 1) := by decide +kernel
theorem dX7_readSingle_173 : decode cX7_readSingle 173 = .ok (.iload_n 1, 1) := by decide +kernel
theorem dX7_readSingle_174 : decode cX7_readSingle 174 = .ok (.invokevirtual 211, 3) := by decide +kernel
theorem dX7_readSingle_177 : decode cX7_readSingle 177 = .ok (.istore_n 2, 1) := by decide +kernel
theorem dX7_readSingle_178 : decode cX7_readSingle 178 = .ok (.goto 21, 3) := by decide +kernel
theorem dX7_readSingle_181 : decode cX7_readSingle 181 = .ok (.aload_n 0, 1) := by decide +kernel
theorem dX7_readSingle_182 : decode cX7_readSingle 182 = .ok (.bipush 40, 2) := by decide +kernel
theorem dX7_readSingle_184 : decode cX7_readSingle 184 = .ok (.invokevirtual 98, 3) := by decide +kernel
theorem dX7_readSingle_187 : decode cX7_readSingle 187 = .ok (.aload_n 0, 1) := by decide +kernel
theorem dX7_readSingle_188 : decode cX7_readSingle 188 = .ok (.iconst 0, 1) := by decide +kernel
theorem dX7_readSingle_189 : decode cX7_readSingle 189 = .ok (.invokevirtual 160, 3) := by decide +kernel
theorem dX7_readSingle_192 : decode cX7_readSingle 192 = .ok (.istore_n 2, 1) := by decide +kernel
theorem dX7_readSingle_193 : decode cX7_readSingle 193 = .ok (.aload_n 0, 1) := by decide +kernel
theorem dX7_readSingle_194 : decode cX7_readSingle 194 = .ok (.bipush 41, 2) := by decide +kernel
theorem dX7_readSingle_196 : decode cX7_readSingle 196 = .ok (.invokevirtual 98, 3) := by decide +kernel
theorem dX7_readSingle_199 : decode cX7_readSingle 199 = .ok (.iload_n 2, 1) := by decide +kernel
theorem dX7_readSingle_200 : decode cX7_readSingle 200 = .ok (.ireturn, 1) := by decide +kernel
theorem dX7_readStatement_0 : decode cX7_readStatement 0 = .ok (.aload_n 0, 1) := by decide +kernel
theorem dX7_readStatement_1 : decode cX7_readStatement 1 = .ok (.getfield 41, 3) := by decide +kernel
theorem dX7_readStatement_4 : decode cX7_readStatement 4 = .ok (.getfield 130, 3) := by decide +kernel
theorem dX7_readStatement_7 : decode cX7_readStatement 7 = .ok (.istore_n 1, 1) := by decide +kernel
theorem dX7_readStatement_8 : decode cX7_readStatement 8 = .ok (.aload_n 0, 1) := by decide +kernel
theorem dX7_readStatement_9 : decode cX7_readStatement 9 = .ok (.getfield 37, 3) := by decide +kernel
theorem dX7_readStatement_12 : decode cX7_readStatement 12 = .ok (.getfield 71, 3) := by decide +kernel
theorem dX7_readStatement_15 : decode cX7_readStatement 15 = .ok (.lookupswitch 327 #[(3, 108), (4, 305), (5, 316), (8, 291), (9, 259), (10, 73), (11, 298), (91, 209)], 73) := by decide +kernel
theorem dX7_readStatement_88 : decode cX7_readStatement 88 = .ok (.aload_n 0, 1) := by decide +kernel
theorem dX7_readStatement_89 : decode cX7_readStatement 89 = .ok (.invokevirtual 156, 3) := by decide +kernel
theorem dX7_readStatement_92 : decode cX7_readStatement 92 = .ok (.lstore_n 2, 1) := by decide +kernel
theorem dX7_readStatement_93 : decode cX7_readStatement 93 = .ok (.aload_n 0, 1) := by decide +kernel
theorem dX7_readStatement_94 : decode cX7_readStatement 94 = .ok (.iconst 0, 1) := by decide +kernel
theorem dX7_readStatement_95 : decode cX7_readStatement 95 = .ok (.invokevirtual 160, 3) := by decide +kernel
theorem dX7_readStatement_98 : decode cX7_readStatement 98 = .ok (.pop, 1) := by decide +kernel
theorem dX7_readStatement_99 : decode cX7_readStatement 99 = .ok (.aload_n 0, 1) := by decide +kernel
theorem dX7_readStatement_100 : decode cX7_readStatement 100 = .ok (.getfield 41, 3) := by decide +kernel
theorem dX7_readStatement_103 : decode cX7_readStatement 103 = .ok (.bipush 31, 2) := by decide +kernel
theorem dX7_readStatement_105 : decode cX7_readStatement 105 = .ok (.aload_n 0, 1) := by decide +kernel
theorem dX7_readStatement_106 : decode cX7_readStatement 106 = .ok (.lload_n 2, 1) := by decide +kernel
theorem dX7_readStatement_107 : decode cX7_readStatement 107 = .ok (.invokevirtual 150, 3) := by decide +kernel
theorem dX7_readStatement_110 : decode cX7_readStatement 110 = .ok (.iconst 0, 1) := by decide +kernel
theorem dX7_readStatement_111 : decode cX7_readStatement 111 = .ok (.invokevirtual 139, 3) := by decide +kernel
theorem dX7_readStatement_114 : decode cX7_readStatement 114 = .ok (.aload_n 0, 1) := by decide +kernel
theorem dX7_readStatement_115 : decode cX7_readStatement 115 = .ok (.bipush 59, 2) := by decide +kernel
theorem dX7_readStatement_117 : decode cX7_readStatement 117 = .ok (.invokevirtual 98, 3) := by decide +kernel
theorem dX7_readStatement_120 : decode cX7_readStatement 120 = .ok (.goto 226, 3) := by decide +kernel
theorem dX7_readStatement_123 : decode cX7_readStatement 123 = .ok (.aload_n 0, 1) := by decide +kernel
theorem dX7_readStatement_124 : decode cX7_readStatement 124 = .ok (.getfield 37, 3) := by decide +kernel
theorem dX7_readStatement_127 : decode cX7_readStatement 127 = .ok (.getfield 101, 3) := by decide +kernel
theorem dX7_readStatement_130 : decode cX7_readStatement 130 = .ok (.lstore 4, 2) := by decide +kernel
theorem dX7_readStatement_132 : decode cX7_readStatement 132 = .ok (.aload_n 0, 1) := by decide +kernel
theorem dX7_readStatement_133 : decode cX7_readStatement 133 = .ok (.getfield 37, 3) := by decide +kernel
theorem dX7_readStatement_136 : decode cX7_readStatement 136 = .ok (.getfield 80, 3) := by decide +kernel
theorem dX7_readStatement_139 : decode cX7_readStatement 139 = .ok (.istore 6, 2) := by decide +kernel
theorem dX7_readStatement_141 : decode cX7_readStatement 141 = .ok (.aload_n 0, 1) := by decide +kernel
theorem dX7_readStatement_142 : decode cX7_readStatement 142 = .ok (.iconst 3, 1) := by decide +kernel
theorem dX7_readStatement_143 : decode cX7_readStatement 143 = .ok (.invokevirtual 98, 3) := by decide +kernel
theorem dX7_readStatement_146 : decode cX7_readStatement 146 = .ok (.aload_n 0, 1) := by decide +kernel
theorem dX7_readStatement_147 : decode cX7_readStatement 147 = .ok (.getfield 37, 3) := by decide +kernel
theorem dX7_readStatement_150 : decode cX7_readStatement 150 = .ok (.getfield 71, 3) := by decide +kernel
theorem dX7_readStatement_153 : decode cX7_readStatement 153 = .ok (.bipush 40, 2) := by decide +kernel
theorem dX7_readStatement_155 : decode cX7_readStatement 155 = .ok (.if_icmp .ne 26, 3) := by decide +kernel
theorem dX7_readStatement_158 : decode cX7_readStatement 158 = .ok (.aload_n 0, 1) := by decide +kernel
theorem dX7_readStatement_159 : decode cX7_readStatement 159 = .ok (.lload 4, 2) := by decide +kernel
theorem dX7_readStatement_161 : decode cX7_readStatement 161 = .ok (.iload 6, 2) := by decide +kernel
theorem dX7_readStatement_163 : decode cX7_readStatement 163 = .ok (.invokevirtual 164, 3) := by decide +kernel
theorem dX7_readStatement_166 : decode cX7_readStatement 166 = .ok (.pop, 1) := by decide +kernel
theorem dX7_readStatement_167 : decode cX7_readStatement 167 = .ok (.aload_n 0, 1) := by decide +kernel
theorem dX7_readStatement_168 : decode cX7_readStatement 168 = .ok (.getfield 41, 3) := by decide +kernel
theorem dX7_readStatement_171 : decode cX7_readStatement 171 = .ok (.bipush 36, 2) := by decide +kernel
theorem dX7_readStatement_173 : decode cX7_readStatement 173 = .ok (.iconst 0, 1) := by decide +kernel
theorem dX7_readStatement_174 : decode cX7_readStatement 174 = .ok (.iconst 0, 1) := by decide +kernel
theorem dX7_readStatement_175 : decode cX7_readStatement 175 = .ok (.invokevirtual 139, 3) := by decide +kernel
theorem dX7_readStatement_178 : decode cX7_readStatement 178 = .ok (.goto 37, 3) := by decide +kernel
theorem dX7_readStatement_181 : decode cX7_readStatement 181 = .ok (.aload_n 0, 1) := by decide +kernel
theorem dX7_readStatement_182 : decode cX7_readStatement 182 = .ok (.bipush 61, 2) := by decide +kernel
theorem dX7_readStatement_184 : decode cX7_readStatement 184 = .ok (.invokevirtual 98, 3) := by decide +kernel
theorem dX7_readStatement_187 : decode cX7_readStatement 187 = .ok (.aload_n 0, 1) := by decide +kernel
theorem dX7_readStatement_188 : decode cX7_readStatement 188 = .ok (.lload 4, 2) := by decide +kernel
theorem dX7_readStatement_190 : decode cX7_readStatement 190 = .ok (.iload 6, 2) := by decide +kernel
theorem dX7_readStatement_192 : decode cX7_readStatement 192 = .ok (.invokevirtual 167, 3) := by decide +kernel
theorem dX7_readStatement_195 : decode cX7_readStatement 195 = .ok (.istore 7, 2) := by decide +kernel
theorem dX7_readStatement_197 : decode cX7_readStatement 197 = .ok (.aload_n 0, 1) := by decide +kernel
theorem dX7_readStatement_198 : decode cX7_readStatement 198 = .ok (.iconst 0, 1) := by decide +kernel
theorem dX7_readStatement_199 : decode cX7_readStatement 199 = .ok (.invokevirtual 160, 3) := by decide +kernel
theorem dX7_readStatement_202 : decode cX7_readStatement 202 = .ok (.pop, 1) := by decide +kernel
theorem dX7_readStatement_203 : decode cX7_readStatement 203 = .ok (.aload_n 0, 1) := by decide +kernel
theorem dX7_readStatement_204 : decode cX7_readStatement 204 = .ok (.getfield 41, 3) := by decide +kernel
theorem dX7_readStatement_207 : decode cX7_readStatement 207 = .ok (.bipush 31, 2) := by decide +kernel
theorem dX7_readStatement_209 : decode cX7_readStatement 209 = .ok (.iload 7, 2) := by decide +kernel
theorem dX7_readStatement_211 : decode cX7_readStatement 211 = .ok (.iconst 0, 1) := by decide +kernel
theorem dX7_readStatement_212 : decode cX7_readStatement 212 = .ok (.invokevirtual 139, 3) := by decide +kernel
theorem dX7_readStatement_215 : decode cX7_readStatement 215 = .ok (.aload_n 0, 1) := by decide +kernel
theorem dX7_readStatement_216 : decode cX7_readStatement 216 = .ok (.bipush 59, 2) := by decide +kernel
theorem dX7_readStatement_218 : decode cX7_readStatement 218 = .ok (.invokevirtual 98, 3) := by decide +kernel
theorem dX7_readStatement_221 : decode cX7_readStatement 221 = .ok (.goto 125, 3) := by decide +kernel
theorem dX7_readStatement_224 : decode cX7_readStatement 224 = .ok (.aload_n 0, 1) := by decide +kernel
theorem dX7_readStatement_225 : decode cX7_readStatement 225 = .ok (.bipush 91, 2) := by decide +kernel
theorem dX7_readStatement_227 : decode cX7_readStatement 227 = .ok (.invokevirtual 98, 3) := by decide +kernel
theorem dX7_readStatement_230 : decode cX7_readStatement 230 = .ok (.aload_n 0, 1) := by decide +kernel
theorem dX7_readStatement_231 : decode cX7_readStatement 231 = .ok (.iconst 0, 1) := by decide +kernel
theorem dX7_readStatement_232 : decode cX7_readStatement 232 = .ok (.invokevirtual 160, 3) := by decide +kernel
theorem dX7_readStatement_235 : decode cX7_readStatement 235 = .ok (.pop, 1) := by decide +kernel
theorem dX7_readStatement_236 : decode cX7_readStatement 236 = .ok (.aload_n 0, 1) := by decide +kernel
theorem dX7_readStatement_237 : decode cX7_readStatement 237 = .ok (.bipush 93, 2) := by decide +kernel
theorem dX7_readStatement_239 : decode cX7_readStatement 239 = .ok (.invokevirtual 98, 3) := by decide +kernel
theorem dX7_readStatement_242 : decode cX7_readStatement 242 = .ok (.aload_n 0, 1) := by decide +kernel
theorem dX7_readStatement_243 : decode cX7_readStatement 243 = .ok (.bipush 61, 2) := by decide +kernel
theorem dX7_readStatement_245 : decode cX7_readStatement 245 = .ok (.invokevirtual 98, 3) := by decide +kernel
theorem dX7_readStatement_248 : decode cX7_readStatement 248 = .ok (.aload_n 0, 1) := by decide +kernel
theorem dX7_readStatement_249 : decode cX7_readStatement 249 = .ok (.iconst 0, 1) := by decide +kernel
theorem dX7_readStatement_250 : decode cX7_readStatement 250 = .ok (.invokevirtual 160, 3) := by decide +kernel
theorem dX7_readStatement_253 : decode cX7_readStatement 253 = .ok (.pop, 1) := by decide +kernel
theorem dX7_readStatement_254 : decode cX7_readStatement 254 = .ok (.aload_n 0, 1) := by decide +kernel
theorem dX7_readStatement_255 : decode cX7_readStatement 255 = .ok (.getfield 41, 3) := by decide +kernel
theorem dX7_readStatement_258 : decode cX7_readStatement 258 = .ok (.bipush 18, 2) := by decide +kernel
theorem dX7_readStatement_260 : decode cX7_readStatement 260 = .ok (.iconst 0, 1) := by decide +kernel
theorem dX7_readStatement_261 : decode cX7_readStatement 261 = .ok (.iconst 0, 1) := by decide +kernel
theorem dX7_readStatement_262 : decode cX7_readStatement 262 = .ok (.invokevirtual 139, 3) := by decide +kernel
theorem dX7_readStatement_265 : decode cX7_readStatement 265 = .ok (.aload_n 0, 1) := by decide +kernel
theorem dX7_readStatement_266 : decode cX7_readStatement 266 = .ok (.bipush 59, 2) := by decide +kernel
theorem dX7_readStatement_268 : decode cX7_readStatement 268 = .ok (.invokevirtual 98, 3) := by decide +kernel
theorem dX7_readStatement_271 : decode cX7_readStatement 271 = .ok (.goto 75, 3) := by decide +kernel
theorem dX7_readStatement_274 : decode cX7_readStatement 274 = .ok (.aload_n 0, 1) := by decide +kernel
theorem dX7_readStatement_275 : decode cX7_readStatement 275 = .ok (.bipush 9, 2) := by decide +kernel
theorem dX7_readStatement_277 : decode cX7_readStatement 277 = .ok (.invokevirtual 98, 3) := by decide +kernel
theorem dX7_readStatement_280 : decode cX7_readStatement 280 = .ok (.aload_n 0, 1) := by decide +kernel
theorem dX7_readStatement_281 : decode cX7_readStatement 281 = .ok (.iconst 0, 1) := by decide +kernel
theorem dX7_readStatement_282 : decode cX7_readStatement 282 = .ok (.invokevirtual 160, 3) := by decide +kernel
theorem dX7_readStatement_285 : decode cX7_readStatement 285 = .ok (.pop, 1) := by decide +kernel
theorem dX7_readStatement_286 : decode cX7_readStatement 286 = .ok (.aload_n 0, 1) := by decide +kernel
theorem dX7_readStatement_287 : decode cX7_readStatement 287 = .ok (.getfield 41, 3) := by decide +kernel
theorem dX7_readStatement_290 : decode cX7_readStatement 290 = .ok (.bipush 24, 2) := by decide +kernel
theorem dX7_readStatement_292 : decode cX7_readStatement 292 = .ok (.iconst 0, 1) := by decide +kernel
theorem dX7_readStatement_293 : decode cX7_readStatement 293 = .ok (.iconst 0, 1) := by decide +kernel
theorem dX7_readStatement_294 : decode cX7_readStatement 294 = .ok (.invokevirtual 139, 3) := by decide +kernel
theorem dX7_readStatement_297 : decode cX7_readStatement 297 = .ok (.aload_n 0, 1) := by decide +kernel
theorem dX7_readStatement_298 : decode cX7_readStatement 298 = .ok (.bipush 59, 2) := by decide +kernel
theorem dX7_readStatement_300 : decode cX7_readStatement 300 = .ok (.invokevirtual 98, 3) := by decide +kernel
theorem dX7_readStatement_303 : decode cX7_readStatement 303 = .ok (.goto 43, 3) := by decide +kernel
theorem dX7_readStatement_306 : decode cX7_readStatement 306 = .ok (.aload_n 0, 1) := by decide +kernel
theorem dX7_readStatement_307 : decode cX7_readStatement 307 = .ok (.invokevirtual 170, 3) := by decide +kernel
theorem dX7_readStatement_310 : decode cX7_readStatement 310 = .ok (.goto 36, 3) := by decide +kernel
theorem dX7_readStatement_313 : decode cX7_readStatement 313 = .ok (.aload_n 0, 1) := by decide +kernel
theorem dX7_readStatement_314 : decode cX7_readStatement 314 = .ok (.invokevirtual 173, 3) := by decide +kernel
theorem dX7_readStatement_317 : decode cX7_readStatement 317 = .ok (.goto 29, 3) := by decide +kernel
theorem dX7_readStatement_320 : decode cX7_readStatement 320 = .ok (.aload_n 0, 1) := by decide +kernel
theorem dX7_readStatement_321 : decode cX7_readStatement 321 = .ok (.aload_n 0, 1) := by decide +kernel
theorem dX7_readStatement_322 : decode cX7_readStatement 322 = .ok (.getfield 22, 3) := by decide +kernel
theorem dX7_readStatement_325 : decode cX7_readStatement 325 = .ok (.invokevirtual 176, 3) := by decide +kernel
theorem dX7_readStatement_328 : decode cX7_readStatement 328 = .ok (.goto 18, 3) := by decide +kernel
theorem dX7_readStatement_331 : decode cX7_readStatement 331 = .ok (.aload_n 0, 1) := by decide +kernel
theorem dX7_readStatement_332 : decode cX7_readStatement 332 = .ok (.aload_n 0, 1) := by decide +kernel
theorem dX7_readStatement_333 : decode cX7_readStatement 333 = .ok (.getfield 19, 3) := by decide +kernel
theorem dX7_readStatement_336 : decode cX7_readStatement 336 = .ok (.invokevirtual 176, 3) := by decide +kernel
theorem dX7_readStatement_339 : decode cX7_readStatement 339 = .ok (.goto 7, 3) := by decide +kernel
theorem dX7_readStatement_342 : decode cX7_readStatement 342 = .ok (.aload_n 0, 1) := by decide +kernel
theorem dX7_readStatement_346 : decode cX7_readStatement 346 = .ok (.aload_n 0, 1) := by decide +kernel
theorem dX7_readStatement_347 : decode cX7_readStatement 347 = .ok (.getfield 41, 3) := by decide +kernel
theorem dX7_readStatement_350 : decode cX7_readStatement 350 = .ok (.iload_n 1, 1) := by decide +kernel
theorem dX7_readStatement_351 : decode cX7_readStatement 351 = .ok (.invokevirtual 180, 3) := by decide +kernel
theorem dX7_readStatement_354 : decode cX7_readStatement 354 = .ok (.return_, 1) := by decide +kernel
theorem dX7_readTest_0 : decode cX7_readTest 0 = .ok (.aload_n 0, 1) := by decide +kernel
theorem dX7_readTest_1 : decode cX7_readTest 1 = .ok (.getfield 41, 3) := by decide +kernel
theorem dX7_readTest_4 : decode cX7_readTest 4 = .ok (.getfield 130, 3) := by decide +kernel
theorem dX7_readTest_7 : decode cX7_readTest 7 = .ok (.istore_n 2, 1) := by decide +kernel
theorem dX7_readTest_8 : decode cX7_readTest 8 = .ok (.aload_n 0, 1) := by decide +kernel
theorem dX7_readTest_9 : decode cX7_readTest 9 = .ok (.iload_n 1, 1) := by decide +kernel
theorem dX7_readTest_10 : decode cX7_readTest 10 = .ok (.invokevirtual 193, 3) := by decide +kernel
theorem dX7_readTest_13 : decode cX7_readTest 13 = .ok (.istore_n 3, 1) := by decide +kernel
theorem dX7_readTest_14 : decode cX7_readTest 14 = .ok (.iconst 0, 1) := by decide +kernel
theorem dX7_readTest_15 : decode cX7_readTest 15 = .ok (.istore 4, 2) := by decide +kernel
theorem dX7_readTest_17 : decode cX7_readTest 17 = .ok (.iload 4, 2) := by decide +kernel
theorem dX7_readTest_19 : decode cX7_readTest 19 = .ok (.sipush 600, 3) := by decide +kernel
theorem dX7_readTest_22 : decode cX7_readTest 22 = .ok (.if_icmp .ge 113, 3) := by decide +kernel
theorem dX7_readTest_25 : decode cX7_readTest 25 = .ok (.aload_n 0, 1) := by decide +kernel
theorem dX7_readTest_26 : decode cX7_readTest 26 = .ok (.getfield 37, 3) := by decide +kernel
theorem dX7_readTest_29 : decode cX7_readTest 29 = .ok (.getfield 71, 3) := by decide +kernel
theorem dX7_readTest_32 : decode cX7_readTest 32 = .ok (.invokestatic 196, 3) := by decide +kernel
theorem dX7_readTest_35 : decode cX7_readTest 35 = .ok (.iload_n 1, 1) := by decide +kernel
theorem dX7_readTest_36 : decode cX7_readTest 36 = .ok (.if_icmp .ne 99, 3) := by decide +kernel
theorem dX7_readTest_39 : decode cX7_readTest 39 = .ok (.aload_n 0, 1) := by decide +kernel
theorem dX7_readTest_40 : decode cX7_readTest 40 = .ok (.getfield 37, 3) := by decide +kernel
theorem dX7_readTest_43 : decode cX7_readTest 43 = .ok (.getfield 71, 3) := by decide +kernel
theorem dX7_readTest_46 : decode cX7_readTest 46 = .ok (.istore 5, 2) := by decide +kernel
theorem dX7_readTest_48 : decode cX7_readTest 48 = .ok (.aload_n 0, 1) := by decide +kernel
theorem dX7_readTest_49 : decode cX7_readTest 49 = .ok (.getfield 37, 3) := by decide +kernel
theorem dX7_readTest_52 : decode cX7_readTest 52 = .ok (.getfield 80, 3) := by decide +kernel
theorem dX7_readTest_55 : decode cX7_readTest 55 = .ok (.istore 6, 2) := by decide +kernel
theorem dX7_readTest_57 : decode cX7_readTest 57 = .ok (.aload_n 0, 1) := by decide +kernel
theorem dX7_readTest_58 : decode cX7_readTest 58 = .ok (.getfield 37, 3) := by decide +kernel
theorem dX7_readTest_61 : decode cX7_readTest 61 = .ok (.invokevirtual 190, 3) := by decide +kernel
theorem dX7_readTest_64 : decode cX7_readTest 64 = .ok (.aload_n 0, 1) := by decide +kernel
theorem dX7_readTest_65 : decode cX7_readTest 65 = .ok (.getfield 41, 3) := by decide +kernel
theorem dX7_readTest_68 : decode cX7_readTest 68 = .ok (.iload_n 2, 1) := by decide +kernel
theorem dX7_readTest_69 : decode cX7_readTest 69 = .ok (.invokevirtual 180, 3) := by decide +kernel
theorem dX7_readTest_72 : decode cX7_readTest 72 = .ok (.iload_n 1, 1) := by decide +kernel
theorem dX7_readTest_73 : decode cX7_readTest 73 = .ok (.iconst 2, 1) := by decide +kernel
theorem dX7_readTest_74 : decode cX7_readTest 74 = .ok (.if_icmp .ge 13, 3) := by decide +kernel
theorem dX7_readTest_77 : decode cX7_readTest 77 = .ok (.aload_n 0, 1) := by decide +kernel
theorem dX7_readTest_78 : decode cX7_readTest 78 = .ok (.iload_n 1, 1) := by decide +kernel
theorem dX7_readTest_79 : decode cX7_readTest 79 = .ok (.invokevirtual 199, 3) := by decide +kernel
theorem dX7_readTest_82 : decode cX7_readTest 82 = .ok (.istore 7, 2) := by decide +kernel
theorem dX7_readTest_84 : decode cX7_readTest 84 = .ok (.goto 24, 3) := by decide +kernel
theorem dX7_readTest_87 : decode cX7_readTest 87 = .ok (.aload_n 0, 1) := by decide +kernel
theorem dX7_readTest_88 : decode cX7_readTest 88 = .ok (.iload_n 1, 1) := by decide +kernel
theorem dX7_readTest_89 : decode cX7_readTest 89 = .ok (.invokevirtual 193, 3) := by decide +kernel
theorem dX7_readTest_92 : decode cX7_readTest 92 = .ok (.istore 7, 2) := by decide +kernel
theorem dX7_readTest_94 : decode cX7_readTest 94 = .ok (.aload_n 0, 1) := by decide +kernel
theorem dX7_readTest_95 : decode cX7_readTest 95 = .ok (.getfield 41, 3) := by decide +kernel
theorem dX7_readTest_98 : decode cX7_readTest 98 = .ok (.iload 5, 2) := by decide +kernel
theorem dX7_readTest_100 : decode cX7_readTest 100 = .ok (.invokestatic 202, 3) := by decide +kernel
theorem dX7_readTest_103 : decode cX7_readTest 103 = .ok (.iconst 0, 1) := by decide +kernel
theorem dX7_readTest_104 : decode cX7_readTest 104 = .ok (.iconst 0, 1) := by decide +kernel
theorem dX7_readTest_105 : decode cX7_readTest 105 = .ok (.invokevirtual 139, 3) := by decide +kernel
theorem dX7_readTest_108 : decode cX7_readTest 108 = .ok (.aload_n 0, 1) := by decide +kernel
theorem dX7_readTest_109 : decode cX7_readTest 109 = .ok (.iload_n 3, 1) := by decide +kernel
theorem dX7_readTest_110 : decode cX7_readTest 110 = .ok (.iload 7, 2) := by decide +kernel
theorem dX7_readTest_112 : decode cX7_readTest 112 = .ok (.invokestatic 205, 3) := by decide +kernel
theorem dX7_readTest_115 : decode cX7_readTest 115 = .ok (.iload 6, 2) := by decide +kernel
theorem dX7_readTest_117 : decode cX7_readTest 117 = .ok (.invokevirtual 211, 3) := by decide +kernel
theorem dX7_readTest_120 : decode cX7_readTest 120 = .ok (.istore_n 3, 1) := by decide +kernel
theorem dX7_readTest_121 : decode cX7_readTest 121 = .ok (.iload_n 1, 1) := by decide +kernel
theorem dX7_readTest_122 : decode cX7_readTest 122 = .ok (.iconst 2, 1) := by decide +kernel
theorem dX7_readTest_123 : decode cX7_readTest 123 = .ok (.if_icmp .ne 6, 3) := by decide +kernel
theorem dX7_readTest_126 : decode cX7_readTest 126 = .ok (.goto 9, 3) := by decide +kernel
theorem dX7_readTest_129 : decode cX7_readTest 129 = .ok (.iinc 4 1, 3) := by decide +kernel
theorem dX7_readTest_132 : decode cX7_readTest 132 = .ok (.goto (-115), 3) := by decide +kernel
theorem dX7_readTest_135 : decode cX7_readTest 135 = .ok (.iload_n 3, 1) := by decide +kernel
theorem dX7_readTest_136 : decode cX7_readTest 136 = .ok (.ireturn, 1) := by decide +kernel
theorem dX7_readWhile_0 : decode cX7_readWhile 0 = .ok (.aload_n 0, 1) := by decide +kernel
theorem dX7_readWhile_1 : decode cX7_readWhile 1 = .ok (.bipush 11, 2) := by decide +kernel
theorem dX7_readWhile_3 : decode cX7_readWhile 3 = .ok (.invokevirtual 98, 3) := by decide +kernel
theorem dX7_readWhile_6 : decode cX7_readWhile 6 = .ok (.aload_n 0, 1) := by decide +kernel
theorem dX7_readWhile_7 : decode cX7_readWhile 7 = .ok (.getfield 41, 3) := by decide +kernel
theorem dX7_readWhile_10 : decode cX7_readWhile 10 = .ok (.bipush 37, 2) := by decide +kernel
theorem dX7_readWhile_12 : decode cX7_readWhile 12 = .ok (.iconst 0, 1) := by decide +kernel
theorem dX7_readWhile_13 : decode cX7_readWhile 13 = .ok (.iconst 0, 1) := by decide +kernel
theorem dX7_readWhile_14 : decode cX7_readWhile 14 = .ok (.invokevirtual 139, 3) := by decide +kernel
theorem dX7_readWhile_17 : decode cX7_readWhile 17 = .ok (.aload_n 0, 1) := by decide +kernel
theorem dX7_readWhile_18 : decode cX7_readWhile 18 = .ok (.getfield 41, 3) := by decide +kernel
theorem dX7_readWhile_21 : decode cX7_readWhile 21 = .ok (.invokevirtual 183, 3) := by decide +kernel
theorem dX7_readWhile_24 : decode cX7_readWhile 24 = .ok (.istore_n 1, 1) := by decide +kernel
theorem dX7_readWhile_25 : decode cX7_readWhile 25 = .ok (.aload_n 0, 1) := by decide +kernel
theorem dX7_readWhile_26 : decode cX7_readWhile 26 = .ok (.getfield 41, 3) := by decide +kernel
theorem dX7_readWhile_29 : decode cX7_readWhile 29 = .ok (.invokevirtual 183, 3) := by decide +kernel
theorem dX7_readWhile_32 : decode cX7_readWhile 32 = .ok (.istore_n 2, 1) := by decide +kernel
theorem dX7_readWhile_33 : decode cX7_readWhile 33 = .ok (.aload_n 0, 1) := by decide +kernel
theorem dX7_readWhile_34 : decode cX7_readWhile 34 = .ok (.getfield 41, 3) := by decide +kernel
theorem dX7_readWhile_37 : decode cX7_readWhile 37 = .ok (.iload_n 1, 1) := by decide +kernel
theorem dX7_readWhile_38 : decode cX7_readWhile 38 = .ok (.invokevirtual 187, 3) := by decide +kernel
theorem dX7_readWhile_41 : decode cX7_readWhile 41 = .ok (.aload_n 0, 1) := by decide +kernel
theorem dX7_readWhile_42 : decode cX7_readWhile 42 = .ok (.iconst 0, 1) := by decide +kernel
theorem dX7_readWhile_43 : decode cX7_readWhile 43 = .ok (.invokevirtual 160, 3) := by decide +kernel
theorem dX7_readWhile_46 : decode cX7_readWhile 46 = .ok (.pop, 1) := by decide +kernel
theorem dX7_readWhile_47 : decode cX7_readWhile 47 = .ok (.aload_n 0, 1) := by decide +kernel
theorem dX7_readWhile_48 : decode cX7_readWhile 48 = .ok (.getfield 41, 3) := by decide +kernel
theorem dX7_readWhile_51 : decode cX7_readWhile 51 = .ok (.bipush 33, 2) := by decide +kernel
theorem dX7_readWhile_53 : decode cX7_readWhile 53 = .ok (.iload_n 2, 1) := by decide +kernel
theorem dX7_readWhile_54 : decode cX7_readWhile 54 = .ok (.iconst 0, 1) := by decide +kernel
theorem dX7_readWhile_55 : decode cX7_readWhile 55 = .ok (.invokevirtual 139, 3) := by decide +kernel
theorem dX7_readWhile_58 : decode cX7_readWhile 58 = .ok (.aload_n 0, 1) := by decide +kernel
theorem dX7_readWhile_59 : decode cX7_readWhile 59 = .ok (.getfield 95, 3) := by decide +kernel
theorem dX7_readWhile_62 : decode cX7_readWhile 62 = .ok (.bipush 8, 2) := by decide +kernel
theorem dX7_readWhile_64 : decode cX7_readWhile 64 = .ok (.if_icmp .ge 23, 3) := by decide +kernel
theorem dX7_readWhile_67 : decode cX7_readWhile 67 = .ok (.aload_n 0, 1) := by decide +kernel
theorem dX7_readWhile_68 : decode cX7_readWhile 68 = .ok (.getfield 19, 3) := by decide +kernel
theorem dX7_readWhile_71 : decode cX7_readWhile 71 = .ok (.aload_n 0, 1) := by decide +kernel
theorem dX7_readWhile_72 : decode cX7_readWhile 72 = .ok (.getfield 95, 3) := by decide +kernel
theorem dX7_readWhile_75 : decode cX7_readWhile 75 = .ok (.iload_n 1, 1) := by decide +kernel
theorem dX7_readWhile_76 : decode cX7_readWhile 76 = .ok (.iastore, 1) := by decide +kernel
theorem dX7_readWhile_77 : decode cX7_readWhile 77 = .ok (.aload_n 0, 1) := by decide +kernel
theorem dX7_readWhile_78 : decode cX7_readWhile 78 = .ok (.getfield 22, 3) := by decide +kernel
theorem dX7_readWhile_81 : decode cX7_readWhile 81 = .ok (.aload_n 0, 1) := by decide +kernel
theorem dX7_readWhile_82 : decode cX7_readWhile 82 = .ok (.getfield 95, 3) := by decide +kernel
theorem dX7_readWhile_85 : decode cX7_readWhile 85 = .ok (.iload_n 2, 1) := by decide +kernel
theorem dX7_readWhile_86 : decode cX7_readWhile 86 = .ok (.iastore, 1) := by decide +kernel
theorem dX7_readWhile_87 : decode cX7_readWhile 87 = .ok (.aload_n 0, 1) := by decide +kernel
theorem dX7_readWhile_88 : decode cX7_readWhile 88 = .ok (.dup, 1) := by decide +kernel
theorem dX7_readWhile_89 : decode cX7_readWhile 89 = .ok (.getfield 95, 3) := by decide +kernel
theorem dX7_readWhile_92 : decode cX7_readWhile 92 = .ok (.iconst 1, 1) := by decide +kernel
theorem dX7_readWhile_93 : decode cX7_readWhile 93 = .ok (.iadd, 1) := by decide +kernel
theorem dX7_readWhile_94 : decode cX7_readWhile 94 = .ok (.putfield 95, 3) := by decide +kernel
theorem dX7_readWhile_97 : decode cX7_readWhile 97 = .ok (.aload_n 0, 1) := by decide +kernel
theorem dX7_readWhile_98 : decode cX7_readWhile 98 = .ok (.invokevirtual 136, 3) := by decide +kernel
theorem dX7_readWhile_101 : decode cX7_readWhile 101 = .ok (.aload_n 0, 1) := by decide +kernel
theorem dX7_readWhile_102 : decode cX7_readWhile 102 = .ok (.dup, 1) := by decide +kernel
theorem dX7_readWhile_103 : decode cX7_readWhile 103 = .ok (.getfield 95, 3) := by decide +kernel
theorem dX7_readWhile_106 : decode cX7_readWhile 106 = .ok (.iconst 1, 1) := by decide +kernel
theorem dX7_readWhile_107 : decode cX7_readWhile 107 = .ok (.isub, 1) := by decide +kernel
theorem dX7_readWhile_108 : decode cX7_readWhile 108 = .ok (.putfield 95, 3) := by decide +kernel
theorem dX7_readWhile_111 : decode cX7_readWhile 111 = .ok (.aload_n 0, 1) := by decide +kernel
theorem dX7_readWhile_112 : decode cX7_readWhile 112 = .ok (.getfield 41, 3) := by decide +kernel
theorem dX7_readWhile_115 : decode cX7_readWhile 115 = .ok (.bipush 22, 2) := by decide +kernel
theorem dX7_readWhile_117 : decode cX7_readWhile 117 = .ok (.iload_n 1, 1) := by decide +kernel
theorem dX7_readWhile_118 : decode cX7_readWhile 118 = .ok (.iconst 0, 1) := by decide +kernel
theorem dX7_readWhile_119 : decode cX7_readWhile 119 = .ok (.invokevirtual 139, 3) := by decide +kernel
theorem dX7_readWhile_122 : decode cX7_readWhile 122 = .ok (.aload_n 0, 1) := by decide +kernel
theorem dX7_readWhile_123 : decode cX7_readWhile 123 = .ok (.getfield 41, 3) := by decide +kernel
theorem dX7_readWhile_126 : decode cX7_readWhile 126 = .ok (.iload_n 2, 1) := by decide +kernel
theorem dX7_readWhile_127 : decode cX7_readWhile 127 = .ok (.invokevirtual 187, 3) := by decide +kernel
theorem dX7_readWhile_130 : decode cX7_readWhile 130 = .ok (.return_, 1) := by decide +kernel
theorem qw72 : Cond.code yX6_newLabel cX6_newLabel 1 (Option.some Jvm.ClassFile.FieldType.int) ∈ gw := mq_5 (i := 151) rfl rfl
theorem qw73 : Cond.methodLink RX7 183 yX6_newLabel ∈ gw := mq_5 (i := 148) rfl rfl
theorem qw74 : Cond.instanceMethod yX6_newLabel ∈ gw := mq_5 (i := 149) rfl rfl
theorem qw75 : Cond.selects RX6 yX6_newLabel yX6_newLabel ∈ gw := mq_5 (i := 150) rfl rfl
theorem qw76 : Cond.code yX7_emitTruth cX7_emitTruth 1 (Option.none : Option Jvm.ClassFile.FieldType) ∈ gw := mq_5 (i := 155) rfl rfl
theorem qw77 : Cond.methodLink RX7 220 yX7_emitTruth ∈ gw := mq_5 (i := 152) rfl rfl
theorem qw78 : Cond.instanceMethod yX7_emitTruth ∈ gw := mq_5 (i := 154) rfl rfl
theorem qw79 : Cond.selects RX7 yX7_emitTruth yX7_emitTruth ∈ gw := mk_s (i := 1) rfl rfl
theorem qw80 : Cond.fieldLink RX7 226 "Gearbox$Tokens" "figure" "I" ∈ gw := mq_1 (i := 58) rfl rfl
theorem qw1393 : Cond.code yX7_readStatement cX7_readStatement 8 (Option.none : Option Jvm.ClassFile.FieldType) ∈ gw := mq_5 (i := 96) rfl rfl
theorem qw1394 : Cond.methodLink RX7 153 yX7_readStatement ∈ gw := mq_5 (i := 93) rfl rfl
theorem qw1395 : Cond.instanceMethod yX7_readStatement ∈ gw := mq_5 (i := 95) rfl rfl
theorem qw1396 : Cond.selects RX7 yX7_readStatement yX7_readStatement ∈ gw := mk_s (i := 140) rfl rfl
theorem qw1397 : Cond.code yX7_readCall cX7_readCall 8 (Option.some Jvm.ClassFile.FieldType.int) ∈ gw := mq_5 (i := 120) rfl rfl
theorem qw1398 : Cond.methodLink RX7 164 yX7_readCall ∈ gw := mq_5 (i := 117) rfl rfl
theorem qw1399 : Cond.instanceMethod yX7_readCall ∈ gw := mq_5 (i := 119) rfl rfl
theorem qw1400 : Cond.selects RX7 yX7_readCall yX7_readCall ∈ gw := mk_s (i := 130) rfl rfl
theorem qw1401 : Cond.code yX6_tick cX6_tick 2 (Option.none : Option Jvm.ClassFile.FieldType) ∈ gw := mq_5 (i := 129) rfl rfl
theorem qw1402 : Cond.methodLink RX7 180 yX6_tick ∈ gw := mq_5 (i := 126) rfl rfl
theorem qw1403 : Cond.instanceMethod yX6_tick ∈ gw := mq_5 (i := 127) rfl rfl
theorem qw1404 : Cond.selects RX6 yX6_tick yX6_tick ∈ gw := mq_5 (i := 128) rfl rfl
theorem qw1405 : Cond.code yX7_seenVariableOf cX7_seenVariableOf 5 (Option.some Jvm.ClassFile.FieldType.int) ∈ gw := mq_5 (i := 137) rfl rfl
theorem qw1406 : Cond.methodLink RX7 167 yX7_seenVariableOf ∈ gw := mq_5 (i := 134) rfl rfl
theorem qw1407 : Cond.instanceMethod yX7_seenVariableOf ∈ gw := mq_5 (i := 136) rfl rfl
theorem qw1408 : Cond.selects RX7 yX7_seenVariableOf yX7_seenVariableOf ∈ gw := mk_s (i := 144) rfl rfl
theorem qw1409 : Cond.code yX7_readTest cX7_readTest 8 (Option.some Jvm.ClassFile.FieldType.int) ∈ gw := mq_5 (i := 104) rfl rfl
theorem qw1410 : Cond.methodLink RX7 160 yX7_readTest ∈ gw := mq_5 (i := 101) rfl rfl
theorem qw1411 : Cond.instanceMethod yX7_readTest ∈ gw := mq_5 (i := 103) rfl rfl
theorem qw1412 : Cond.selects RX7 yX7_readTest yX7_readTest ∈ gw := mk_s (i := 141) rfl rfl
theorem qw1413 : Cond.code yX7_readLeave cX7_readLeave 2 (Option.none : Option Jvm.ClassFile.FieldType) ∈ gw := mq_5 (i := 172) rfl rfl
theorem qw1414 : Cond.methodLink RX7 176 yX7_readLeave ∈ gw := mq_5 (i := 169) rfl rfl
theorem qw1415 : Cond.instanceMethod yX7_readLeave ∈ gw := mq_5 (i := 171) rfl rfl
theorem qw1416 : Cond.selects RX7 yX7_readLeave yX7_readLeave ∈ gw := mk_s (i := 133) rfl rfl
theorem qw1417 : Cond.code yX7_readIf cX7_readIf 3 (Option.none : Option Jvm.ClassFile.FieldType) ∈ gw := mq_5 (i := 164) rfl rfl
theorem qw1418 : Cond.methodLink RX7 170 yX7_readIf ∈ gw := mq_5 (i := 161) rfl rfl
theorem qw1419 : Cond.instanceMethod yX7_readIf ∈ gw := mq_5 (i := 163) rfl rfl
theorem qw1420 : Cond.selects RX7 yX7_readIf yX7_readIf ∈ gw := mk_s (i := 132) rfl rfl
theorem qw1421 : Cond.code yX7_readNewName cX7_readNewName 4 (Option.some Jvm.ClassFile.FieldType.long) ∈ gw := mq_5 (i := 100) rfl rfl
theorem qw1422 : Cond.methodLink RX7 156 yX7_readNewName ∈ gw := mq_5 (i := 97) rfl rfl
theorem qw1423 : Cond.instanceMethod yX7_readNewName ∈ gw := mq_5 (i := 99) rfl rfl
theorem qw1424 : Cond.selects RX7 yX7_readNewName yX7_readNewName ∈ gw := mk_s (i := 134) rfl rfl
theorem qw1425 : Cond.code yX7_readWhile cX7_readWhile 3 (Option.none : Option Jvm.ClassFile.FieldType) ∈ gw := mq_5 (i := 168) rfl rfl
theorem qw1426 : Cond.methodLink RX7 173 yX7_readWhile ∈ gw := mq_5 (i := 165) rfl rfl
theorem qw1427 : Cond.instanceMethod yX7_readWhile ∈ gw := mq_5 (i := 167) rfl rfl
theorem qw1428 : Cond.selects RX7 yX7_readWhile yX7_readWhile ∈ gw := mk_s (i := 142) rfl rfl
theorem qw1429 : Cond.code yX7_readBlock cX7_readBlock 3 (Option.none : Option Jvm.ClassFile.FieldType) ∈ gw := mq_5 (i := 92) rfl rfl
theorem qw1430 : Cond.methodLink RX7 136 yX7_readBlock ∈ gw := mq_5 (i := 89) rfl rfl
theorem qw1431 : Cond.instanceMethod yX7_readBlock ∈ gw := mq_5 (i := 91) rfl rfl
theorem qw1432 : Cond.selects RX7 yX7_readBlock yX7_readBlock ∈ gw := mk_s (i := 129) rfl rfl
theorem qw1433 : Cond.code yX6_putLabel cX6_putLabel 2 (Option.none : Option Jvm.ClassFile.FieldType) ∈ gw := mq_5 (i := 159) rfl rfl
theorem qw1434 : Cond.methodLink RX7 187 yX6_putLabel ∈ gw := mq_5 (i := 156) rfl rfl
theorem qw1435 : Cond.instanceMethod yX6_putLabel ∈ gw := mq_5 (i := 157) rfl rfl
theorem qw1436 : Cond.selects RX6 yX6_putLabel yX6_putLabel ∈ gw := mq_5 (i := 158) rfl rfl
theorem qw1437 : Cond.code yX7_readOperand cX7_readOperand 2 (Option.some Jvm.ClassFile.FieldType.int) ∈ gw := mq_5 (i := 108) rfl rfl
theorem qw1438 : Cond.methodLink RX7 193 yX7_readOperand ∈ gw := mq_5 (i := 105) rfl rfl
theorem qw1439 : Cond.instanceMethod yX7_readOperand ∈ gw := mq_5 (i := 107) rfl rfl
theorem qw1440 : Cond.selects RX7 yX7_readOperand yX7_readOperand ∈ gw := mk_s (i := 135) rfl rfl
theorem qw1441 : Cond.code yX7_rowOf cX7_rowOf 2 (Option.some Jvm.ClassFile.FieldType.int) ∈ gw := mq_5 (i := 140) rfl rfl
theorem qw1442 : Cond.methodLink RX7 196 yX7_rowOf ∈ gw := mq_5 (i := 138) rfl rfl
theorem qw1443 : Cond.static yX7_rowOf ∈ gw := mq_5 (i := 139) rfl rfl
theorem qw1444 : Cond.methodLink RX7 205 yJ9_max_7cf53 ∈ gw := mq_5 (i := 121) rfl rfl
theorem qw1445 : Cond.code yX7_raise cX7_raise 3 (Option.some Jvm.ClassFile.FieldType.int) ∈ gw := mq_5 (i := 133) rfl rfl
theorem qw1446 : Cond.methodLink RX7 211 yX7_raise ∈ gw := mq_5 (i := 130) rfl rfl
theorem qw1447 : Cond.instanceMethod yX7_raise ∈ gw := mq_5 (i := 132) rfl rfl
theorem qw1448 : Cond.selects RX7 yX7_raise yX7_raise ∈ gw := mk_s (i := 128) rfl rfl
theorem qw1449 : Cond.code yX7_readShortCut cX7_readShortCut 5 (Option.some Jvm.ClassFile.FieldType.int) ∈ gw := mq_5 (i := 147) rfl rfl
theorem qw1450 : Cond.methodLink RX7 199 yX7_readShortCut ∈ gw := mq_5 (i := 144) rfl rfl
theorem qw1451 : Cond.instanceMethod yX7_readShortCut ∈ gw := mq_5 (i := 146) rfl rfl
theorem qw1452 : Cond.selects RX7 yX7_readShortCut yX7_readShortCut ∈ gw := mk_s (i := 137) rfl rfl
theorem qw1453 : Cond.code yX7_readSigned cX7_readSigned 5 (Option.some Jvm.ClassFile.FieldType.int) ∈ gw := mq_5 (i := 112) rfl rfl
theorem qw1454 : Cond.methodLink RX7 214 yX7_readSigned ∈ gw := mq_5 (i := 109) rfl rfl
theorem qw1455 : Cond.instanceMethod yX7_readSigned ∈ gw := mq_5 (i := 111) rfl rfl
theorem qw1456 : Cond.selects RX7 yX7_readSigned yX7_readSigned ∈ gw := mk_s (i := 138) rfl rfl
theorem qw1457 : Cond.code yX7_readSingle cX7_readSingle 5 (Option.some Jvm.ClassFile.FieldType.int) ∈ gw := mq_5 (i := 116) rfl rfl
theorem qw1458 : Cond.methodLink RX7 223 yX7_readSingle ∈ gw := mq_5 (i := 113) rfl rfl
theorem qw1459 : Cond.instanceMethod yX7_readSingle ∈ gw := mq_5 (i := 115) rfl rfl
theorem qw1460 : Cond.selects RX7 yX7_readSingle yX7_readSingle ∈ gw := mk_s (i := 139) rfl rfl
theorem qw1461 : Cond.code yX7_noteCall cX7_noteCall 5 (Option.none : Option Jvm.ClassFile.FieldType) ∈ gw := mq_5 (i := 125) rfl rfl
theorem qw1462 : Cond.methodLink RX7 229 yX7_noteCall ∈ gw := mq_5 (i := 122) rfl rfl
theorem qw1463 : Cond.instanceMethod yX7_noteCall ∈ gw := mq_5 (i := 124) rfl rfl
theorem qw1464 : Cond.selects RX7 yX7_noteCall yX7_noteCall ∈ gw := mk_s (i := 127) rfl rfl
set_option maxHeartbeats 16000000 in
set_option maxRecDepth 100000 in
theorem kX7_readBlock {zs : ZS} (l : Launch) (kk_readStatement : ST → SL → ST → SL → ST → SL → Option (ST × SL × ST × ST × SL)) (F9 L9 : Nat) (hkk_readStatement : ∀ {zs : ZS} (dC : Nat → ClassId) (dI : Nat → Nat → Nat) (p0a : Nat → Nat) (p0k : Nat → ClassId) (p0w : ST) (p0l : SL) (aK : Nat → Nat) (aV : Nat → Nat) (p0_2a : Nat → Nat) (p0_2k : Nat → ClassId) (p0_2w : ST) (p0_2l : SL) (p0_1a : Nat → Nat) (p0_1k : Nat → ClassId) (p0_1w : ST) (p0_1l : SL) (sz : Nat) (o : ST × SL × ST × ST × SL) (hrun : kk_readStatement p0w p0l p0_2w p0_2l p0_1w p0_1l = some o), Met l yX7_readStatement (wz yX7_readStatement cX7_readStatement 8 (Option.none : Option Jvm.ClassFile.FieldType)) ({ frames := F9, cells := 0, slots := 0, locals := L9 } : Room) (va_Pc [.ref (p0a 0)] (PRE (zA zs (st9 aK aV)) dC dI (List.flatten ([(oX7 (p0a 0) p0a p0k p0w p0l), (oX6 (p0a 3) p0_2a p0_2k p0_2w p0_2l), (oX10 (p0a 2) p0_1a p0_1k p0_1w p0_1l)] : List va_W)) (List.flatten ([(tX7 p0k), (tX6 p0_2k), (tX10 p0_1k)] : List (List (ClassId × FieldType)))) sz)) (va_Qv (fun (_ : Unit) => True) (fun _ t => POST dC dI (List.flatten ([(oX7 (p0a 0) p0a p0k (o.1) (o.2.1)), (oX6 (p0a 3) p0_2a p0_2k (o.2.2.1) p0_2l), (oX10 (p0a 2) p0_1a p0_1k (o.2.2.2.1) (o.2.2.2.2))] : List va_W)) (List.flatten ([(tX7 p0k), (tX6 p0_2k), (tX10 p0_1k)] : List (List (ClassId × FieldType)))) (va_A (List.flatten ([(oX7 (p0a 0) p0a p0k p0w p0l), (oX6 (p0a 3) p0_2a p0_2k p0_2w p0_2l), (oX10 (p0a 2) p0_1a p0_1k p0_1w p0_1l)] : List va_W)) sz) t) (va_A (List.flatten ([(oX7 (p0a 0) p0a p0k p0w p0l), (oX6 (p0a 3) p0_2a p0_2k p0_2w p0_2l), (oX10 (p0a 2) p0_1a p0_1k p0_1w p0_1l)] : List va_W)) sz)) 0 0 (va_A (List.flatten ([(oX7 (p0a 0) p0a p0k p0w p0l), (oX6 (p0a 3) p0_2a p0_2k p0_2w p0_2l), (oX10 (p0a 2) p0_1a p0_1k p0_1w p0_1l)] : List va_W)) sz)) (dC : Nat → ClassId) (dI : Nat → Nat → Nat) (p0a : Nat → Nat) (p0k : Nat → ClassId) (p0w : ST) (p0l : SL) (aK : Nat → Nat) (aV : Nat → Nat) (p0_2a : Nat → Nat) (p0_2k : Nat → ClassId) (p0_2w : ST) (p0_2l : SL) (p0_1a : Nat → Nat) (p0_1k : Nat → ClassId) (p0_1w : ST) (p0_1l : SL) (sz : Nat) (o : ST × SL × ST × ST × SL) (hrun : fX7_readBlock kk_readStatement p0w p0l p0_2w p0_2l p0_1w p0_1l = some o) : Met l yX7_readBlock (wz yX7_readBlock cX7_readBlock 3 (Option.none : Option Jvm.ClassFile.FieldType)) ({ frames := F9 + 8, cells := 0, slots := 0, locals := L9 + 400 } : Room) (va_Pc [.ref (p0a 0)] (PRE (zA zs (st9 aK aV)) dC dI (List.flatten ([(oX7 (p0a 0) p0a p0k p0w p0l), (oX6 (p0a 3) p0_2a p0_2k p0_2w p0_2l), (oX10 (p0a 2) p0_1a p0_1k p0_1w p0_1l)] : List va_W)) (List.flatten ([(tX7 p0k), (tX6 p0_2k), (tX10 p0_1k)] : List (List (ClassId × FieldType)))) sz)) (va_Qv (fun (_ : Unit) => True) (fun _ t => POST dC dI (List.flatten ([(oX7 (p0a 0) p0a p0k (o.1) (o.2.1)), (oX6 (p0a 3) p0_2a p0_2k (o.2.2.1) p0_2l), (oX10 (p0a 2) p0_1a p0_1k (o.2.2.2.1) (o.2.2.2.2))] : List va_W)) (List.flatten ([(tX7 p0k), (tX6 p0_2k), (tX10 p0_1k)] : List (List (ClassId × FieldType)))) (va_A (List.flatten ([(oX7 (p0a 0) p0a p0k p0w p0l), (oX6 (p0a 3) p0_2a p0_2k p0_2w p0_2l), (oX10 (p0a 2) p0_1a p0_1k p0_1w p0_1l)] : List va_W)) sz) t) (va_A (List.flatten ([(oX7 (p0a 0) p0a p0k p0w p0l), (oX6 (p0a 3) p0_2a p0_2k p0_2w p0_2l), (oX10 (p0a 2) p0_1a p0_1k p0_1w p0_1l)] : List va_W)) sz)) 0 0 (va_A (List.flatten ([(oX7 (p0a 0) p0a p0k p0w p0l), (oX6 (p0a 3) p0_2a p0_2k p0_2w p0_2l), (oX10 (p0a 2) p0_1a p0_1k p0_1w p0_1l)] : List va_W)) sz) := by
  refine Met.ofW (cc := cX7_readBlock) (maxL := 3) (ret := (Option.none : Option Jvm.ClassFile.FieldType)) (by decide) rfl ?_
  intro p e s m args below meth c s₁ B hml hv
  obtain ⟨rfl, hsz, hP, hK, hD0, hE⟩ := hv
  have hx := B.exec
  have hb := B.bytes
  have hr := B.returns
  have hts0 := atoms_spec (ws := wz yX7_readBlock cX7_readBlock 3 (Option.none : Option Jvm.ClassFile.FieldType)) B.pre
  have hts : ∀ w ∈ gw, w.before _ s = true := fun w h => hts0 w (List.mem_cons_of_mem _ h)
  have hown : s.vm.findClass RX7 = some m.cls := findClass_of_methodNamed B.named
  have hlocks := B.notSynchronized
  subst hsz
  have hD := hD0.self (sz := s.heap.size)
  refine gQ9 ?_
  intro Q hQ
  generalize hAe : va_A (List.flatten ([(oX7 (p0a 0) p0a p0k p0w p0l), (oX6 (p0a 3) p0_2a p0_2k p0_2w p0_2l), (oX10 (p0a 2) p0_1a p0_1k p0_1w p0_1l)] : List va_W)) s.heap.size = A at hD hE hQ
  have hA : ∀ q : Nat, s.heap.size ≤ q → A q := fun q h => by rw [← hAe]; exact Or.inr h
  have hro := ENV.ex hE
  have hro_st := hro.2
  replace hro := hro.1
  have hS : va_S A s.heap s.heap [] := va_S.rf
  have hP : va_P (dC, dI) cls (List.flatten ([(oX7 (p0a 0) p0a p0k p0w p0l), (oX6 (p0a 3) p0_2a p0_2k p0_2w p0_2l), (oX10 (p0a 2) p0_1a p0_1k p0_1w p0_1l)] : List va_W)) s.heap := hP
  have hl := lv_entry ([.ref (p0a 0)]) (n := 3) (Nat.le_of_ble_eq_true rfl)
  rw [lg_entry_eq]
  generalize (lg_sl ([.ref (p0a 0)]) ++ List.replicate (3 - (lg_sl ([.ref (p0a 0)])).length) Slot.unset).toArray = ls at hl ⊢
  have hl : lv_has ls 3 [(0, .ref (p0a 0))] := hl
  obtain ⟨H, hHe⟩ : ∃ H, H = s.heap := ⟨_, rfl⟩
  obtain ⟨locs, hle⟩ : ∃ locs : List Loc, locs = [] := ⟨_, rfl⟩
  rw [← hHe] at hP
  have hS : va_S A s.heap H locs := by rw [hHe, hle]; exact hS
  show W p l e ({ frames := F9 + 8, cells := 0, slots := 0, locals := L9 + 400 } : Room) s m ([.ref (p0a 0)] : List Value).toArray below meth c s.heap [] 0 0 Q (F0 m 0 ls [])
  rw [← hle]
  refine wH9 hHe ?_
  unfold fX7_readBlock at hrun
  refine lv_aload_n hx hb dX7_readBlock_0 rfl (lv_at hl 0 rfl) ?_
  refine va_get (D := (dC, dI)) (ci := 1) (v := .int (p0w 0 9)) (C := RX7) (T := TX7) (N := 18) hx hb hts i_X7 hown hK hP 0 rfl rfl 9 (by decide) (hts _ qw34) (fun _ h9 => h9) rfl dX7_readBlock_1 ?_
  refine lv_istore_n (lv' := [(1, .int (p0w 0 9)), (0, .ref (p0a 0))]) hx hb dX7_readBlock_4 rfl hl (by decide) rfl (fun ls hl => ?_)
  refine lv_aload_n hx hb dX7_readBlock_5 rfl (lv_at hl 1 rfl) ?_
  refine lv_bipush (v := 123) hx hb dX7_readBlock_6 (by decide) ?_
  obtain ⟨o_1, hc_1, hrun⟩ := bnd9 hrun
  have hPx : va_P (dC, dI) cls ((List.flatten ([(oX7 (p0a 0) p0a p0k p0w p0l), (oX10 (p0a 2) p0_1a p0_1k p0_1w p0_1l)] : List va_W)) ++ (List.flatten ([(oX6 (p0a 3) p0_2a p0_2k p0_2w p0_2l)] : List va_W))) H := vP_fa (vP_perm hP (bP (((List.Perm.refl _)).trans ((((((List.Perm.refl _)).cons _).trans (List.Perm.swap _ _ _))).cons _))))
  have hDx : va_D A ((List.flatten ([(oX7 (p0a 0) p0a p0k p0w p0l), (oX10 (p0a 2) p0_1a p0_1k p0_1w p0_1l)] : List va_W)) ++ (List.flatten ([(oX6 (p0a 3) p0_2a p0_2k p0_2w p0_2l)] : List va_W))) := vD_fa (vD_perm hD (bP (((List.Perm.refl _)).trans ((((((List.Perm.refl _)).cons _).trans (List.Perm.swap _ _ _))).cons _))))
  have hKx : va_K (dC, dI) cls ((List.flatten ([(tX7 p0k), (tX10 p0_1k)] : List (List (ClassId × FieldType)))) ++ (List.flatten ([(tX6 p0_2k)] : List (List (ClassId × FieldType))))) s := vK_fa (vK_perm hK (bP (((List.Perm.refl _)).trans ((((((List.Perm.refl _)).cons _).trans (List.Perm.swap _ _ _))).cons _))))
  have hPc := vP_l hPx
  have hDc := vD_l hDx
  have hKc := vK_l hKx
  have hFc := vfree hDx hS hA
  refine va_callv (va_runV (As := [.int 123]) (rest := []) ⟨hx, hb, hml, hown, hts⟩ (kX7_expect l dC dI (p0a := p0a) (p0k := p0k) (p0w := p0w) (p0l := p0l) (p1 := 123) (aK := aK) (aV := aV) (p0_1a := p0_1a) (p0_1k := p0_1k) (p0_1w := p0_1w) (p0_1l := p0_1l) (sz := _) (o := o_1) (hrun := hc_1)) (cwV 1 hts (gi_V qw1386 qw1387 qw1388 qw65 (gi_z qw1385)) rfl rfl rfl (by decide +kernel) ⟨rmF (Nat.le_of_ble_eq_true rfl), rmL (Nat.le_of_ble_eq_true rfl)⟩) ⟨PRE.blind, va_recv hKc hPc (ci := 1) (q0 := 0) rfl rfl, PRE.of (ENV.add hE st9_m hro_st) hS hFc hPc hKc hDc⟩ rfl rfl hl.1 rfl (lv_room (Nat.le_of_ble_eq_true rfl)) dX7_readBlock_8 ⟨(Nat.le_of_ble_eq_true rfl), (Nat.le_of_ble_eq_true rfl)⟩) hS (fun q _ h => hFc q h) hFc (fun u t H locs ht hvm hw hB hz1 hk1 hS => ?_)
  obtain ⟨b1, b2, b3⟩ := hB
  rw [ht] at b1
  obtain ⟨hP, hD, hK⟩ := JOINC (wc := (List.flatten ([(oX7 (p0a 0) p0a p0k p0w p0l), (oX10 (p0a 2) p0_1a p0_1k p0_1w p0_1l)] : List va_W))) (wr := (List.flatten ([(oX6 (p0a 3) p0_2a p0_2k p0_2w p0_2l)] : List va_W))) (w1 := (List.flatten ([(oX7 (p0a 0) p0a p0k (o_1.1) p0l), (oX10 (p0a 2) p0_1a p0_1k (o_1.2.1) (o_1.2.2))] : List va_W))) (t1 := (List.flatten ([(tX7 p0k), (tX10 p0_1k)] : List (List (ClassId × FieldType))))) hPx hDx hKx hk1 hFc b1 (va_K.moved hvm.symm b2) b3
  have hP : va_P (dC, dI) cls (List.flatten ([(oX7 (p0a 0) p0a p0k (o_1.1) p0l), (oX6 (p0a 3) p0_2a p0_2k p0_2w p0_2l), (oX10 (p0a 2) p0_1a p0_1k (o_1.2.1) (o_1.2.2))] : List va_W)) H := vP_perm (vP_fb hP) (bP (((List.Perm.refl _)).trans ((((((List.Perm.refl _)).cons _).trans (List.Perm.swap _ _ _))).cons _)))
  have hD : va_D A (List.flatten ([(oX7 (p0a 0) p0a p0k (o_1.1) p0l), (oX6 (p0a 3) p0_2a p0_2k p0_2w p0_2l), (oX10 (p0a 2) p0_1a p0_1k (o_1.2.1) (o_1.2.2))] : List va_W)) := vD_perm (vD_fb hD) (bP (((List.Perm.refl _)).trans ((((((List.Perm.refl _)).cons _).trans (List.Perm.swap _ _ _))).cons _)))
  have hK : va_K (dC, dI) cls (List.flatten ([(tX7 p0k), (tX6 p0_2k), (tX10 p0_1k)] : List (List (ClassId × FieldType)))) s := vK_perm (vK_fb hK) (bP (((List.Perm.refl _)).trans ((((((List.Perm.refl _)).cons _).trans (List.Perm.swap _ _ _))).cons _)))
  refine lv_iconst (v := 0) hx hb dX7_readBlock_11 (by decide) ?_
  refine lv_istore_n (lv' := [(2, .int 0), (1, .int (p0w 0 9)), (0, .ref (p0a 0))]) hx hb dX7_readBlock_12 rfl hl (by decide) rfl (fun ls hl => ?_)
  have L13 : ∀ (n_13 : Nat) (v2_13 : Int32) (p0w_13 : ST) (p0l_13 : SL) (p0_2w_13 : ST) (p0_1w_13 : ST) (p0_1l_13 : SL) (o13 : ST × SL × ST × ST × SL) (H : Heap) (locs : List Loc) (ls : Array Slot), (fX7_readBlock_L13 p0_2l kk_readStatement n_13) v2_13 p0w_13 p0l_13 p0_2w_13 p0_1w_13 p0_1l_13 = some o13 → va_P (dC, dI) cls (List.flatten ([(oX7 (p0a 0) p0a p0k p0w_13 p0l_13), (oX6 (p0a 3) p0_2a p0_2k p0_2w_13 p0_2l), (oX10 (p0a 2) p0_1a p0_1k p0_1w_13 p0_1l_13)] : List va_W)) H → va_D A (List.flatten ([(oX7 (p0a 0) p0a p0k p0w_13 p0l_13), (oX6 (p0a 3) p0_2a p0_2k p0_2w_13 p0_2l), (oX10 (p0a 2) p0_1a p0_1k p0_1w_13 p0_1l_13)] : List va_W)) → va_K (dC, dI) cls (List.flatten ([(tX7 p0k), (tX6 p0_2k), (tX10 p0_1k)] : List (List (ClassId × FieldType)))) s → va_S A s.heap H locs → lv_has ls 3 [(0, .ref (p0a 0)), (1, .int (p0w 0 9)), (2, .int v2_13)] → (∀ (H : Heap) (locs : List Loc) (ls : Array Slot), va_P (dC, dI) cls (List.flatten ([(oX7 (p0a 0) p0a p0k (o13.1) (o13.2.1)), (oX6 (p0a 3) p0_2a p0_2k (o13.2.2.1) p0_2l), (oX10 (p0a 2) p0_1a p0_1k (o13.2.2.2.1) (o13.2.2.2.2))] : List va_W)) H → va_D A (List.flatten ([(oX7 (p0a 0) p0a p0k (o13.1) (o13.2.1)), (oX6 (p0a 3) p0_2a p0_2k (o13.2.2.1) p0_2l), (oX10 (p0a 2) p0_1a p0_1k (o13.2.2.2.1) (o13.2.2.2.2))] : List va_W)) → va_K (dC, dI) cls (List.flatten ([(tX7 p0k), (tX6 p0_2k), (tX10 p0_1k)] : List (List (ClassId × FieldType)))) s → va_S A s.heap H locs → lv_has ls 3 [(0, .ref (p0a 0)), (1, .int (p0w 0 9))] → W p l e ({ frames := F9 + 8, cells := 0, slots := 0, locals := L9 + 400 } : Room) s m ([.ref (p0a 0)] : List Value).toArray below meth c H locs 0 0 Q (F0 m 42 ls [])) → W p l e ({ frames := F9 + 8, cells := 0, slots := 0, locals := L9 + 400 } : Room) s m ([.ref (p0a 0)] : List Value).toArray below meth c H locs 0 0 Q (F0 m 13 ls []) := by
    intro n_13
    induction n_13 with
    | zero => intro v2_13 p0w_13 p0l_13 p0_2w_13 p0_1w_13 p0_1l_13 o13 H locs ls hrun; exact (no9 rfl hrun).elim
    | succ n_13 IH13 =>
      intro v2_13 p0w_13 p0l_13 p0_2w_13 p0_1w_13 p0_1l_13 o13 H locs ls hrun hP hD hK hS hl hk13
      unfold fX7_readBlock_L13 at hrun
      refine lv_iload_n hx hb dX7_readBlock_13 rfl (lv_at hl 2 rfl) ?_
      refine lv_sipush (v := 600) hx hb dX7_readBlock_14 (by decide) ?_
      rcases br9 hrun with ⟨hc2, hrun⟩ | ⟨hc2, hrun⟩
      · refine lv_icmp_gt (tgt := 42) hx hb dX7_readBlock_17 (by decide) (fun _ => ?_) (fun c => absurd hc2 c)
        obtain rfl := (Option.some.inj hrun)
        exact hk13 _ _ _ hP hD hK hS (lv_sub hl [0, 1] rfl)
      · refine lv_icmp_gt (tgt := 42) hx hb dX7_readBlock_17 (by decide) (fun c => absurd c hc2) (fun _ => ?_)
        refine lv_aload_n hx hb dX7_readBlock_20 rfl (lv_at hl 0 rfl) ?_
        refine va_get (D := (dC, dI)) (ci := 1) (v := .ref (p0a 2)) (C := RX7) (T := TX7) (N := 18) hx hb hts i_X7 hown hK hP 0 rfl rfl 1 (by decide) (hts _ qw45) (fun _ h9 => h9) rfl dX7_readBlock_21 ?_
        refine va_get (D := (dC, dI)) (ci := 0) (v := .int (p0_1w_13 0 2)) (C := RX10) (T := TX10) (N := 8) hx hb hts i_X10 hown hK hP 20 rfl rfl 2 (by decide) (hts _ qw46) (fun _ h9 => h9) rfl dX7_readBlock_24 ?_
        refine lv_bipush (v := 125) hx hb dX7_readBlock_27 (by decide) ?_
        rcases br9 hrun with ⟨hc3, hrun⟩ | ⟨hc3, hrun⟩
        · refine lv_icmp_eq (tgt := 42) hx hb dX7_readBlock_29 (by decide) (fun _ => ?_) (fun c => absurd hc3 c)
          obtain rfl := (Option.some.inj hrun)
          exact hk13 _ _ _ hP hD hK hS (lv_sub hl [0, 1] rfl)
        · refine lv_icmp_eq (tgt := 42) hx hb dX7_readBlock_29 (by decide) (fun c => absurd c hc3) (fun _ => ?_)
          refine lv_aload_n hx hb dX7_readBlock_32 rfl (lv_at hl 0 rfl) ?_
          obtain ⟨o_4, hc_4, hrun⟩ := bnd9 hrun
          have hPx : va_P (dC, dI) cls ((List.flatten ([(oX7 (p0a 0) p0a p0k p0w_13 p0l_13), (oX6 (p0a 3) p0_2a p0_2k p0_2w_13 p0_2l), (oX10 (p0a 2) p0_1a p0_1k p0_1w_13 p0_1l_13)] : List va_W)) ++ (List.flatten ([] : List va_W))) H := vP_fa (vP_perm hP (bP (List.Perm.refl _)))
          have hDx : va_D A ((List.flatten ([(oX7 (p0a 0) p0a p0k p0w_13 p0l_13), (oX6 (p0a 3) p0_2a p0_2k p0_2w_13 p0_2l), (oX10 (p0a 2) p0_1a p0_1k p0_1w_13 p0_1l_13)] : List va_W)) ++ (List.flatten ([] : List va_W))) := vD_fa (vD_perm hD (bP (List.Perm.refl _)))
          have hKx : va_K (dC, dI) cls ((List.flatten ([(tX7 p0k), (tX6 p0_2k), (tX10 p0_1k)] : List (List (ClassId × FieldType)))) ++ (List.flatten ([] : List (List (ClassId × FieldType))))) s := vK_fa (vK_perm hK (bP (List.Perm.refl _)))
          have hPc := vP_l hPx
          have hDc := vD_l hDx
          have hKc := vK_l hKx
          have hFc := vfree hDx hS hA
          refine va_callv (va_runV (As := []) (rest := []) ⟨hx, hb, hml, hown, hts⟩ (hkk_readStatement dC dI (p0a := p0a) (p0k := p0k) (p0w := p0w_13) (p0l := p0l_13) (aK := aK) (aV := aV) (p0_2a := p0_2a) (p0_2k := p0_2k) (p0_2w := p0_2w_13) (p0_2l := p0_2l) (p0_1a := p0_1a) (p0_1k := p0_1k) (p0_1w := p0_1w_13) (p0_1l := p0_1l_13) (sz := _) (o := o_4) (hrun := hc_4)) (cwV 0 hts (gi_V qw1394 qw1395 qw1396 qw65 (gi_z qw1393)) rfl rfl rfl (by decide +kernel) ⟨rmF9, rmL9 (n := 27) (Nat.le_of_ble_eq_true rfl)⟩) ⟨PRE.blind, va_recv hKc hPc (ci := 1) (q0 := 0) rfl rfl, PRE.of (ENV.add hE st9_m hro_st) hS hFc hPc hKc hDc⟩ rfl rfl hl.1 rfl (lv_room (Nat.le_of_ble_eq_true rfl)) dX7_readBlock_33 ⟨(Nat.le_of_ble_eq_true rfl), (Nat.le_of_ble_eq_true rfl)⟩) hS (fun q _ h => hFc q h) hFc (fun u t H locs ht hvm hw hB hz1 hk1 hS => ?_)
          obtain ⟨b1, b2, b3⟩ := hB
          rw [ht] at b1
          obtain ⟨hP, hD, hK⟩ := JOINC (wc := (List.flatten ([(oX7 (p0a 0) p0a p0k p0w_13 p0l_13), (oX6 (p0a 3) p0_2a p0_2k p0_2w_13 p0_2l), (oX10 (p0a 2) p0_1a p0_1k p0_1w_13 p0_1l_13)] : List va_W))) (wr := (List.flatten ([] : List va_W))) (w1 := (List.flatten ([(oX7 (p0a 0) p0a p0k (o_4.1) (o_4.2.1)), (oX6 (p0a 3) p0_2a p0_2k (o_4.2.2.1) p0_2l), (oX10 (p0a 2) p0_1a p0_1k (o_4.2.2.2.1) (o_4.2.2.2.2))] : List va_W))) (t1 := (List.flatten ([(tX7 p0k), (tX6 p0_2k), (tX10 p0_1k)] : List (List (ClassId × FieldType))))) hPx hDx hKx hk1 hFc b1 (va_K.moved hvm.symm b2) b3
          have hP : va_P (dC, dI) cls (List.flatten ([(oX7 (p0a 0) p0a p0k (o_4.1) (o_4.2.1)), (oX6 (p0a 3) p0_2a p0_2k (o_4.2.2.1) p0_2l), (oX10 (p0a 2) p0_1a p0_1k (o_4.2.2.2.1) (o_4.2.2.2.2))] : List va_W)) H := vP_perm (vP_fb hP) (bP (List.Perm.refl _))
          have hD : va_D A (List.flatten ([(oX7 (p0a 0) p0a p0k (o_4.1) (o_4.2.1)), (oX6 (p0a 3) p0_2a p0_2k (o_4.2.2.1) p0_2l), (oX10 (p0a 2) p0_1a p0_1k (o_4.2.2.2.1) (o_4.2.2.2.2))] : List va_W)) := vD_perm (vD_fb hD) (bP (List.Perm.refl _))
          have hK : va_K (dC, dI) cls (List.flatten ([(tX7 p0k), (tX6 p0_2k), (tX10 p0_1k)] : List (List (ClassId × FieldType)))) s := vK_perm (vK_fb hK) (bP (List.Perm.refl _))
          refine lv_iinc (v := (v2_13 + 1)) (lv' := [(2, .int (v2_13 + 1)), (0, .ref (p0a 0)), (1, .int (p0w 0 9))]) hx hb dX7_readBlock_36 hl (k := 2) rfl rfl (by decide) rfl (fun ls hl => ?_)
          refine lv_goto (tgt := 13) hx hb dX7_readBlock_39 (by decide) ?_
          exact IH13 (v2_13 + 1) (o_4.1) (o_4.2.1) (o_4.2.2.1) (o_4.2.2.2.1) (o_4.2.2.2.2) o13 _ _ _ hrun hP hD hK hS (lv_sub hl [1, 2, 0] rfl) hk13
  obtain ⟨o13, hc13, hrun⟩ := bnd9 hrun
  refine L13 NF 0 (o_1.1) p0l p0_2w (o_1.2.1) (o_1.2.2) o13 _ _ _ hc13 hP hD hK hS (lv_sub hl [2, 1, 0] rfl) ?_
  intro H locs ls hP hD hK hS hl
  have hl := hl
  refine lv_aload_n hx hb dX7_readBlock_42 rfl (lv_at hl 0 rfl) ?_
  refine lv_bipush (v := 125) hx hb dX7_readBlock_43 (by decide) ?_
  obtain ⟨o_5, hc_5, hrun⟩ := bnd9 hrun
  have hPx : va_P (dC, dI) cls ((List.flatten ([(oX7 (p0a 0) p0a p0k (o13.1) (o13.2.1)), (oX10 (p0a 2) p0_1a p0_1k (o13.2.2.2.1) (o13.2.2.2.2))] : List va_W)) ++ (List.flatten ([(oX6 (p0a 3) p0_2a p0_2k (o13.2.2.1) p0_2l)] : List va_W))) H := vP_fa (vP_perm hP (bP (((List.Perm.refl _)).trans ((((((List.Perm.refl _)).cons _).trans (List.Perm.swap _ _ _))).cons _))))
  have hDx : va_D A ((List.flatten ([(oX7 (p0a 0) p0a p0k (o13.1) (o13.2.1)), (oX10 (p0a 2) p0_1a p0_1k (o13.2.2.2.1) (o13.2.2.2.2))] : List va_W)) ++ (List.flatten ([(oX6 (p0a 3) p0_2a p0_2k (o13.2.2.1) p0_2l)] : List va_W))) := vD_fa (vD_perm hD (bP (((List.Perm.refl _)).trans ((((((List.Perm.refl _)).cons _).trans (List.Perm.swap _ _ _))).cons _))))
  have hKx : va_K (dC, dI) cls ((List.flatten ([(tX7 p0k), (tX10 p0_1k)] : List (List (ClassId × FieldType)))) ++ (List.flatten ([(tX6 p0_2k)] : List (List (ClassId × FieldType))))) s := vK_fa (vK_perm hK (bP (((List.Perm.refl _)).trans ((((((List.Perm.refl _)).cons _).trans (List.Perm.swap _ _ _))).cons _))))
  have hPc := vP_l hPx
  have hDc := vD_l hDx
  have hKc := vK_l hKx
  have hFc := vfree hDx hS hA
  refine va_callv (va_runV (As := [.int 125]) (rest := []) ⟨hx, hb, hml, hown, hts⟩ (kX7_expect l dC dI (p0a := p0a) (p0k := p0k) (p0w := (o13.1)) (p0l := (o13.2.1)) (p1 := 125) (aK := aK) (aV := aV) (p0_1a := p0_1a) (p0_1k := p0_1k) (p0_1w := (o13.2.2.2.1)) (p0_1l := (o13.2.2.2.2)) (sz := _) (o := o_5) (hrun := hc_5)) (cwV 1 hts (gi_V qw1386 qw1387 qw1388 qw65 (gi_z qw1385)) rfl rfl rfl (by decide +kernel) ⟨rmF (Nat.le_of_ble_eq_true rfl), rmL (Nat.le_of_ble_eq_true rfl)⟩) ⟨PRE.blind, va_recv hKc hPc (ci := 1) (q0 := 0) rfl rfl, PRE.of (ENV.add hE st9_m hro_st) hS hFc hPc hKc hDc⟩ rfl rfl hl.1 rfl (lv_room (Nat.le_of_ble_eq_true rfl)) dX7_readBlock_45 ⟨(Nat.le_of_ble_eq_true rfl), (Nat.le_of_ble_eq_true rfl)⟩) hS (fun q _ h => hFc q h) hFc (fun u t H locs ht hvm hw hB hz1 hk1 hS => ?_)
  obtain ⟨b1, b2, b3⟩ := hB
  rw [ht] at b1
  obtain ⟨hP, hD, hK⟩ := JOINC (wc := (List.flatten ([(oX7 (p0a 0) p0a p0k (o13.1) (o13.2.1)), (oX10 (p0a 2) p0_1a p0_1k (o13.2.2.2.1) (o13.2.2.2.2))] : List va_W))) (wr := (List.flatten ([(oX6 (p0a 3) p0_2a p0_2k (o13.2.2.1) p0_2l)] : List va_W))) (w1 := (List.flatten ([(oX7 (p0a 0) p0a p0k (o_5.1) (o13.2.1)), (oX10 (p0a 2) p0_1a p0_1k (o_5.2.1) (o_5.2.2))] : List va_W))) (t1 := (List.flatten ([(tX7 p0k), (tX10 p0_1k)] : List (List (ClassId × FieldType))))) hPx hDx hKx hk1 hFc b1 (va_K.moved hvm.symm b2) b3
  have hP : va_P (dC, dI) cls (List.flatten ([(oX7 (p0a 0) p0a p0k (o_5.1) (o13.2.1)), (oX6 (p0a 3) p0_2a p0_2k (o13.2.2.1) p0_2l), (oX10 (p0a 2) p0_1a p0_1k (o_5.2.1) (o_5.2.2))] : List va_W)) H := vP_perm (vP_fb hP) (bP (((List.Perm.refl _)).trans ((((((List.Perm.refl _)).cons _).trans (List.Perm.swap _ _ _))).cons _)))
  have hD : va_D A (List.flatten ([(oX7 (p0a 0) p0a p0k (o_5.1) (o13.2.1)), (oX6 (p0a 3) p0_2a p0_2k (o13.2.2.1) p0_2l), (oX10 (p0a 2) p0_1a p0_1k (o_5.2.1) (o_5.2.2))] : List va_W)) := vD_perm (vD_fb hD) (bP (((List.Perm.refl _)).trans ((((((List.Perm.refl _)).cons _).trans (List.Perm.swap _ _ _))).cons _)))
  have hK : va_K (dC, dI) cls (List.flatten ([(tX7 p0k), (tX6 p0_2k), (tX10 p0_1k)] : List (List (ClassId × FieldType)))) s := vK_perm (vK_fb hK) (bP (((List.Perm.refl _)).trans ((((((List.Perm.refl _)).cons _).trans (List.Perm.swap _ _ _))).cons _)))
  refine lv_aload_n hx hb dX7_readBlock_48 rfl (lv_at hl 0 rfl) ?_
  refine lv_iload_n hx hb dX7_readBlock_49 rfl (lv_at hl 1 rfl) ?_
  refine va_put (D := (dC, dI)) (ci := 1) (v := .int (p0w 0 9)) (ty := .int) (C := RX7) (T := TX7) (N := 18) hx hb hts i_X7 tyX7 tyX7_ok nmX7 hown hK hP hD hS 0 rfl rfl 9 (by decide) (hts _ qw34) (fun _ h9 => h9) rfl (by decide +kernel) rfl rfl (Nat.le_of_ble_eq_true rfl) dX7_readBlock_50 (fun H locs hP hD hS => ?_)
  have hP : va_P (dC, dI) cls (List.flatten ([(oX7 (p0a 0) p0a p0k (upw (o_5.1) 0 9 (p0w 0 9)) (o13.2.1)), (oX6 (p0a 3) p0_2a p0_2k (o13.2.2.1) p0_2l), (oX10 (p0a 2) p0_1a p0_1k (o_5.2.1) (o_5.2.2))] : List va_W)) H := hP
  have hD : va_D A (List.flatten ([(oX7 (p0a 0) p0a p0k (upw (o_5.1) 0 9 (p0w 0 9)) (o13.2.1)), (oX6 (p0a 3) p0_2a p0_2k (o13.2.2.1) p0_2l), (oX10 (p0a 2) p0_1a p0_1k (o_5.2.1) (o_5.2.2))] : List va_W)) := hD
  obtain ⟨w6, ew6, hrun⟩ := let9 hrun
  rw [← ew6] at hP hD
  have ho9 : (w6, (o13.2.1), (o13.2.2.1), (o_5.2.1), (o_5.2.2)) = o := Option.some.inj hrun
  have hP9 : va_P (dC, dI) cls (List.flatten ([(oX7 (p0a 0) p0a p0k (o.1) (o.2.1)), (oX6 (p0a 3) p0_2a p0_2k (o.2.2.1) p0_2l), (oX10 (p0a 2) p0_1a p0_1k (o.2.2.2.1) (o.2.2.2.2))] : List va_W)) H := by first | exact hP | (rw [← ho9]; exact hP)
  have hD9 : va_D A (List.flatten ([(oX7 (p0a 0) p0a p0k (o.1) (o.2.1)), (oX6 (p0a 3) p0_2a p0_2k (o.2.2.1) p0_2l), (oX10 (p0a 2) p0_1a p0_1k (o.2.2.2.1) (o.2.2.2.2))] : List va_W)) := by first | exact hD | (rw [← ho9]; exact hD)
  subst hQ
  exact W.vret hx hb hr (fun t ht hW => ⟨⟨(), rfl, trivial, ⟨by rw [ht]; exact hP9, va_K.moved hW.alike hK, hD9⟩⟩, hS.F ht⟩) hS.2.2 dX7_readBlock_53
set_option maxHeartbeats 16000000 in
set_option maxRecDepth 100000 in
theorem kX7_readStatement {zs : ZS} (l : Launch) (kk_readCall : ST → SL → Int64 → Int32 → ST → SL → ST → SL → Option (Int32 × ST × SL × ST × ST × SL)) (kk_readTest : ST → SL → Int32 → ST → SL → ST → SL → Option (Int32 × ST × SL × ST × ST × SL)) (kk_readIf : ST → SL → ST → SL → ST → SL → Option (ST × SL × ST × ST × SL)) (kk_readWhile : ST → SL → ST → SL → ST → SL → Option (ST × SL × ST × ST × SL)) (F9 L9 : Nat) (hkk_readCall : ∀ {zs : ZS} (dC : Nat → ClassId) (dI : Nat → Nat → Nat) (p0a : Nat → Nat) (p0k : Nat → ClassId) (p0w : ST) (p0l : SL) (p1 : Int64) (p2 : Int32) (aK : Nat → Nat) (aV : Nat → Nat) (p0_2a : Nat → Nat) (p0_2k : Nat → ClassId) (p0_2w : ST) (p0_2l : SL) (p0_1a : Nat → Nat) (p0_1k : Nat → ClassId) (p0_1w : ST) (p0_1l : SL) (sz : Nat) (o : Int32 × ST × SL × ST × ST × SL) (hrun : kk_readCall p0w p0l p1 p2 p0_2w p0_2l p0_1w p0_1l = some o), Met l yX7_readCall (wz yX7_readCall cX7_readCall 8 (Option.some Jvm.ClassFile.FieldType.int)) ({ frames := F9, cells := 0, slots := 0, locals := L9 } : Room) (va_Pc [.ref (p0a 0), .long p1, .int p2] (PRE (zA zs (st9 aK aV)) dC dI (List.flatten ([(oX7 (p0a 0) p0a p0k p0w p0l), (oX6 (p0a 3) p0_2a p0_2k p0_2w p0_2l), (oX10 (p0a 2) p0_1a p0_1k p0_1w p0_1l)] : List va_W)) (List.flatten ([(tX7 p0k), (tX6 p0_2k), (tX10 p0_1k)] : List (List (ClassId × FieldType)))) sz)) (va_Qi (fun (r : Int32) (_ : Unit) => r = (o.1)) (fun _ t => POST dC dI (List.flatten ([(oX7 (p0a 0) p0a p0k (o.2.1) (o.2.2.1)), (oX6 (p0a 3) p0_2a p0_2k (o.2.2.2.1) p0_2l), (oX10 (p0a 2) p0_1a p0_1k (o.2.2.2.2.1) (o.2.2.2.2.2))] : List va_W)) (List.flatten ([(tX7 p0k), (tX6 p0_2k), (tX10 p0_1k)] : List (List (ClassId × FieldType)))) (va_A (List.flatten ([(oX7 (p0a 0) p0a p0k p0w p0l), (oX6 (p0a 3) p0_2a p0_2k p0_2w p0_2l), (oX10 (p0a 2) p0_1a p0_1k p0_1w p0_1l)] : List va_W)) sz) t) (va_A (List.flatten ([(oX7 (p0a 0) p0a p0k p0w p0l), (oX6 (p0a 3) p0_2a p0_2k p0_2w p0_2l), (oX10 (p0a 2) p0_1a p0_1k p0_1w p0_1l)] : List va_W)) sz)) 0 0 (va_A (List.flatten ([(oX7 (p0a 0) p0a p0k p0w p0l), (oX6 (p0a 3) p0_2a p0_2k p0_2w p0_2l), (oX10 (p0a 2) p0_1a p0_1k p0_1w p0_1l)] : List va_W)) sz)) (hkk_readTest : ∀ {zs : ZS} (dC : Nat → ClassId) (dI : Nat → Nat → Nat) (p0a : Nat → Nat) (p0k : Nat → ClassId) (p0w : ST) (p0l : SL) (p1 : Int32) (aK : Nat → Nat) (aV : Nat → Nat) (p0_2a : Nat → Nat) (p0_2k : Nat → ClassId) (p0_2w : ST) (p0_2l : SL) (p0_1a : Nat → Nat) (p0_1k : Nat → ClassId) (p0_1w : ST) (p0_1l : SL) (sz : Nat) (o : Int32 × ST × SL × ST × ST × SL) (hrun : kk_readTest p0w p0l p1 p0_2w p0_2l p0_1w p0_1l = some o), Met l yX7_readTest (wz yX7_readTest cX7_readTest 8 (Option.some Jvm.ClassFile.FieldType.int)) ({ frames := F9, cells := 0, slots := 0, locals := L9 } : Room) (va_Pc [.ref (p0a 0), .int p1] (PRE (zA zs (st9 aK aV)) dC dI (List.flatten ([(oX7 (p0a 0) p0a p0k p0w p0l), (oX6 (p0a 3) p0_2a p0_2k p0_2w p0_2l), (oX10 (p0a 2) p0_1a p0_1k p0_1w p0_1l)] : List va_W)) (List.flatten ([(tX7 p0k), (tX6 p0_2k), (tX10 p0_1k)] : List (List (ClassId × FieldType)))) sz)) (va_Qi (fun (r : Int32) (_ : Unit) => r = (o.1)) (fun _ t => POST dC dI (List.flatten ([(oX7 (p0a 0) p0a p0k (o.2.1) (o.2.2.1)), (oX6 (p0a 3) p0_2a p0_2k (o.2.2.2.1) p0_2l), (oX10 (p0a 2) p0_1a p0_1k (o.2.2.2.2.1) (o.2.2.2.2.2))] : List va_W)) (List.flatten ([(tX7 p0k), (tX6 p0_2k), (tX10 p0_1k)] : List (List (ClassId × FieldType)))) (va_A (List.flatten ([(oX7 (p0a 0) p0a p0k p0w p0l), (oX6 (p0a 3) p0_2a p0_2k p0_2w p0_2l), (oX10 (p0a 2) p0_1a p0_1k p0_1w p0_1l)] : List va_W)) sz) t) (va_A (List.flatten ([(oX7 (p0a 0) p0a p0k p0w p0l), (oX6 (p0a 3) p0_2a p0_2k p0_2w p0_2l), (oX10 (p0a 2) p0_1a p0_1k p0_1w p0_1l)] : List va_W)) sz)) 0 0 (va_A (List.flatten ([(oX7 (p0a 0) p0a p0k p0w p0l), (oX6 (p0a 3) p0_2a p0_2k p0_2w p0_2l), (oX10 (p0a 2) p0_1a p0_1k p0_1w p0_1l)] : List va_W)) sz)) (hkk_readIf : ∀ {zs : ZS} (dC : Nat → ClassId) (dI : Nat → Nat → Nat) (p0a : Nat → Nat) (p0k : Nat → ClassId) (p0w : ST) (p0l : SL) (aK : Nat → Nat) (aV : Nat → Nat) (p0_2a : Nat → Nat) (p0_2k : Nat → ClassId) (p0_2w : ST) (p0_2l : SL) (p0_1a : Nat → Nat) (p0_1k : Nat → ClassId) (p0_1w : ST) (p0_1l : SL) (sz : Nat) (o : ST × SL × ST × ST × SL) (hrun : kk_readIf p0w p0l p0_2w p0_2l p0_1w p0_1l = some o), Met l yX7_readIf (wz yX7_readIf cX7_readIf 3 (Option.none : Option Jvm.ClassFile.FieldType)) ({ frames := F9, cells := 0, slots := 0, locals := L9 } : Room) (va_Pc [.ref (p0a 0)] (PRE (zA zs (st9 aK aV)) dC dI (List.flatten ([(oX7 (p0a 0) p0a p0k p0w p0l), (oX6 (p0a 3) p0_2a p0_2k p0_2w p0_2l), (oX10 (p0a 2) p0_1a p0_1k p0_1w p0_1l)] : List va_W)) (List.flatten ([(tX7 p0k), (tX6 p0_2k), (tX10 p0_1k)] : List (List (ClassId × FieldType)))) sz)) (va_Qv (fun (_ : Unit) => True) (fun _ t => POST dC dI (List.flatten ([(oX7 (p0a 0) p0a p0k (o.1) (o.2.1)), (oX6 (p0a 3) p0_2a p0_2k (o.2.2.1) p0_2l), (oX10 (p0a 2) p0_1a p0_1k (o.2.2.2.1) (o.2.2.2.2))] : List va_W)) (List.flatten ([(tX7 p0k), (tX6 p0_2k), (tX10 p0_1k)] : List (List (ClassId × FieldType)))) (va_A (List.flatten ([(oX7 (p0a 0) p0a p0k p0w p0l), (oX6 (p0a 3) p0_2a p0_2k p0_2w p0_2l), (oX10 (p0a 2) p0_1a p0_1k p0_1w p0_1l)] : List va_W)) sz) t) (va_A (List.flatten ([(oX7 (p0a 0) p0a p0k p0w p0l), (oX6 (p0a 3) p0_2a p0_2k p0_2w p0_2l), (oX10 (p0a 2) p0_1a p0_1k p0_1w p0_1l)] : List va_W)) sz)) 0 0 (va_A (List.flatten ([(oX7 (p0a 0) p0a p0k p0w p0l), (oX6 (p0a 3) p0_2a p0_2k p0_2w p0_2l), (oX10 (p0a 2) p0_1a p0_1k p0_1w p0_1l)] : List va_W)) sz)) (hkk_readWhile : ∀ {zs : ZS} (dC : Nat → ClassId) (dI : Nat → Nat → Nat) (p0a : Nat → Nat) (p0k : Nat → ClassId) (p0w : ST) (p0l : SL) (aK : Nat → Nat) (aV : Nat → Nat) (p0_2a : Nat → Nat) (p0_2k : Nat → ClassId) (p0_2w : ST) (p0_2l : SL) (p0_1a : Nat → Nat) (p0_1k : Nat → ClassId) (p0_1w : ST) (p0_1l : SL) (sz : Nat) (o : ST × SL × ST × ST × SL) (hrun : kk_readWhile p0w p0l p0_2w p0_2l p0_1w p0_1l = some o), Met l yX7_readWhile (wz yX7_readWhile cX7_readWhile 3 (Option.none : Option Jvm.ClassFile.FieldType)) ({ frames := F9, cells := 0, slots := 0, locals := L9 } : Room) (va_Pc [.ref (p0a 0)] (PRE (zA zs (st9 aK aV)) dC dI (List.flatten ([(oX7 (p0a 0) p0a p0k p0w p0l), (oX6 (p0a 3) p0_2a p0_2k p0_2w p0_2l), (oX10 (p0a 2) p0_1a p0_1k p0_1w p0_1l)] : List va_W)) (List.flatten ([(tX7 p0k), (tX6 p0_2k), (tX10 p0_1k)] : List (List (ClassId × FieldType)))) sz)) (va_Qv (fun (_ : Unit) => True) (fun _ t => POST dC dI (List.flatten ([(oX7 (p0a 0) p0a p0k (o.1) (o.2.1)), (oX6 (p0a 3) p0_2a p0_2k (o.2.2.1) p0_2l), (oX10 (p0a 2) p0_1a p0_1k (o.2.2.2.1) (o.2.2.2.2))] : List va_W)) (List.flatten ([(tX7 p0k), (tX6 p0_2k), (tX10 p0_1k)] : List (List (ClassId × FieldType)))) (va_A (List.flatten ([(oX7 (p0a 0) p0a p0k p0w p0l), (oX6 (p0a 3) p0_2a p0_2k p0_2w p0_2l), (oX10 (p0a 2) p0_1a p0_1k p0_1w p0_1l)] : List va_W)) sz) t) (va_A (List.flatten ([(oX7 (p0a 0) p0a p0k p0w p0l), (oX6 (p0a 3) p0_2a p0_2k p0_2w p0_2l), (oX10 (p0a 2) p0_1a p0_1k p0_1w p0_1l)] : List va_W)) sz)) 0 0 (va_A (List.flatten ([(oX7 (p0a 0) p0a p0k p0w p0l), (oX6 (p0a 3) p0_2a p0_2k p0_2w p0_2l), (oX10 (p0a 2) p0_1a p0_1k p0_1w p0_1l)] : List va_W)) sz)) (dC : Nat → ClassId) (dI : Nat → Nat → Nat) (p0a : Nat → Nat) (p0k : Nat → ClassId) (p0w : ST) (p0l : SL) (aK : Nat → Nat) (aV : Nat → Nat) (p0_2a : Nat → Nat) (p0_2k : Nat → ClassId) (p0_2w : ST) (p0_2l : SL) (p0_1a : Nat → Nat) (p0_1k : Nat → ClassId) (p0_1w : ST) (p0_1l : SL) (sz : Nat) (o : ST × SL × ST × ST × SL) (hrun : fX7_readStatement kk_readCall kk_readTest kk_readIf kk_readWhile p0w p0l p0_2w p0_2l p0_1w p0_1l = some o) : Met l yX7_readStatement (wz yX7_readStatement cX7_readStatement 8 (Option.none : Option Jvm.ClassFile.FieldType)) ({ frames := F9 + 8, cells := 0, slots := 0, locals := L9 + 400 } : Room) (va_Pc [.ref (p0a 0)] (PRE (zA zs (st9 aK aV)) dC dI (List.flatten ([(oX7 (p0a 0) p0a p0k p0w p0l), (oX6 (p0a 3) p0_2a p0_2k p0_2w p0_2l), (oX10 (p0a 2) p0_1a p0_1k p0_1w p0_1l)] : List va_W)) (List.flatten ([(tX7 p0k), (tX6 p0_2k), (tX10 p0_1k)] : List (List (ClassId × FieldType)))) sz)) (va_Qv (fun (_ : Unit) => True) (fun _ t => POST dC dI (List.flatten ([(oX7 (p0a 0) p0a p0k (o.1) (o.2.1)), (oX6 (p0a 3) p0_2a p0_2k (o.2.2.1) p0_2l), (oX10 (p0a 2) p0_1a p0_1k (o.2.2.2.1) (o.2.2.2.2))] : List va_W)) (List.flatten ([(tX7 p0k), (tX6 p0_2k), (tX10 p0_1k)] : List (List (ClassId × FieldType)))) (va_A (List.flatten ([(oX7 (p0a 0) p0a p0k p0w p0l), (oX6 (p0a 3) p0_2a p0_2k p0_2w p0_2l), (oX10 (p0a 2) p0_1a p0_1k p0_1w p0_1l)] : List va_W)) sz) t) (va_A (List.flatten ([(oX7 (p0a 0) p0a p0k p0w p0l), (oX6 (p0a 3) p0_2a p0_2k p0_2w p0_2l), (oX10 (p0a 2) p0_1a p0_1k p0_1w p0_1l)] : List va_W)) sz)) 0 0 (va_A (List.flatten ([(oX7 (p0a 0) p0a p0k p0w p0l), (oX6 (p0a 3) p0_2a p0_2k p0_2w p0_2l), (oX10 (p0a 2) p0_1a p0_1k p0_1w p0_1l)] : List va_W)) sz) := by
  refine Met.ofW (cc := cX7_readStatement) (maxL := 8) (ret := (Option.none : Option Jvm.ClassFile.FieldType)) (by decide) rfl ?_
  intro p e s m args below meth c s₁ B hml hv
  obtain ⟨rfl, hsz, hP, hK, hD0, hE⟩ := hv
  have hx := B.exec
  have hb := B.bytes
  have hr := B.returns
  have hts0 := atoms_spec (ws := wz yX7_readStatement cX7_readStatement 8 (Option.none : Option Jvm.ClassFile.FieldType)) B.pre
  have hts : ∀ w ∈ gw, w.before _ s = true := fun w h => hts0 w (List.mem_cons_of_mem _ h)
  have hown : s.vm.findClass RX7 = some m.cls := findClass_of_methodNamed B.named
  have hlocks := B.notSynchronized
  subst hsz
  have hD := hD0.self (sz := s.heap.size)
  refine gQ9 ?_
  intro Q hQ
  generalize hAe : va_A (List.flatten ([(oX7 (p0a 0) p0a p0k p0w p0l), (oX6 (p0a 3) p0_2a p0_2k p0_2w p0_2l), (oX10 (p0a 2) p0_1a p0_1k p0_1w p0_1l)] : List va_W)) s.heap.size = A at hD hE hQ
  have hA : ∀ q : Nat, s.heap.size ≤ q → A q := fun q h => by rw [← hAe]; exact Or.inr h
  have hro := ENV.ex hE
  have hro_st := hro.2
  replace hro := hro.1
  have hS : va_S A s.heap s.heap [] := va_S.rf
  have hP : va_P (dC, dI) cls (List.flatten ([(oX7 (p0a 0) p0a p0k p0w p0l), (oX6 (p0a 3) p0_2a p0_2k p0_2w p0_2l), (oX10 (p0a 2) p0_1a p0_1k p0_1w p0_1l)] : List va_W)) s.heap := hP
  have hl := lv_entry ([.ref (p0a 0)]) (n := 8) (Nat.le_of_ble_eq_true rfl)
  rw [lg_entry_eq]
  generalize (lg_sl ([.ref (p0a 0)]) ++ List.replicate (8 - (lg_sl ([.ref (p0a 0)])).length) Slot.unset).toArray = ls at hl ⊢
  have hl : lv_has ls 8 [(0, .ref (p0a 0))] := hl
  obtain ⟨H, hHe⟩ : ∃ H, H = s.heap := ⟨_, rfl⟩
  obtain ⟨locs, hle⟩ : ∃ locs : List Loc, locs = [] := ⟨_, rfl⟩
  rw [← hHe] at hP
  have hS : va_S A s.heap H locs := by rw [hHe, hle]; exact hS
  show W p l e ({ frames := F9 + 8, cells := 0, slots := 0, locals := L9 + 400 } : Room) s m ([.ref (p0a 0)] : List Value).toArray below meth c s.heap [] 0 0 Q (F0 m 0 ls [])
  rw [← hle]
  refine wH9 hHe ?_
  unfold fX7_readStatement at hrun
  refine lv_aload_n hx hb dX7_readStatement_0 rfl (lv_at hl 0 rfl) ?_
  refine va_get (D := (dC, dI)) (ci := 1) (v := .ref (p0a 3)) (C := RX7) (T := TX7) (N := 18) hx hb hts i_X7 hown hK hP 0 rfl rfl 2 (by decide) (hts _ qw26) (fun _ h9 => h9) rfl dX7_readStatement_1 ?_
  refine va_get (D := (dC, dI)) (ci := 2) (v := .int (p0_2w 0 7)) (C := RX6) (T := TX6) (N := 13) hx hb hts i_X6 hown hK hP 9 rfl rfl 7 (by decide) (hts _ qw66) (fun _ h9 => h9) rfl dX7_readStatement_4 ?_
  refine lv_istore_n (lv' := [(1, .int (p0_2w 0 7)), (0, .ref (p0a 0))]) hx hb dX7_readStatement_7 rfl hl (by decide) rfl (fun ls hl => ?_)
  refine lv_aload_n hx hb dX7_readStatement_8 rfl (lv_at hl 1 rfl) ?_
  refine va_get (D := (dC, dI)) (ci := 1) (v := .ref (p0a 2)) (C := RX7) (T := TX7) (N := 18) hx hb hts i_X7 hown hK hP 0 rfl rfl 1 (by decide) (hts _ qw45) (fun _ h9 => h9) rfl dX7_readStatement_9 ?_
  refine va_get (D := (dC, dI)) (ci := 0) (v := .int (p0_1w 0 2)) (C := RX10) (T := TX10) (N := 8) hx hb hts i_X10 hown hK hP 20 rfl rfl 2 (by decide) (hts _ qw46) (fun _ h9 => h9) rfl dX7_readStatement_12 ?_
  have J346 : ∀ (p0w_346 : ST) (p0l_346 : SL) (p0_2w_346 : ST) (p0_1w_346 : ST) (p0_1l_346 : SL) (H : Heap) (locs : List Loc) (ls : Array Slot), (fX7_readStatement_J346 p0_2w p0w_346 p0l_346 p0_2w_346 p0_1w_346 p0_1l_346) = some o → va_P (dC, dI) cls (List.flatten ([(oX7 (p0a 0) p0a p0k p0w_346 p0l_346), (oX6 (p0a 3) p0_2a p0_2k p0_2w_346 p0_2l), (oX10 (p0a 2) p0_1a p0_1k p0_1w_346 p0_1l_346)] : List va_W)) H → va_D A (List.flatten ([(oX7 (p0a 0) p0a p0k p0w_346 p0l_346), (oX6 (p0a 3) p0_2a p0_2k p0_2w_346 p0_2l), (oX10 (p0a 2) p0_1a p0_1k p0_1w_346 p0_1l_346)] : List va_W)) → va_K (dC, dI) cls (List.flatten ([(tX7 p0k), (tX6 p0_2k), (tX10 p0_1k)] : List (List (ClassId × FieldType)))) s → va_S A s.heap H locs → lv_has ls 8 [(0, .ref (p0a 0)), (1, .int (p0_2w 0 7))] → W p l e ({ frames := F9 + 8, cells := 0, slots := 0, locals := L9 + 400 } : Room) s m ([.ref (p0a 0)] : List Value).toArray below meth c H locs 0 0 Q (F0 m 346 ls []) := by
    intro p0w_346 p0l_346 p0_2w_346 p0_1w_346 p0_1l_346 H locs ls hrun hP hD hK hS hl 
    unfold fX7_readStatement_J346 at hrun
    refine lv_aload_n hx hb dX7_readStatement_346 rfl (lv_at hl 0 rfl) ?_
    refine va_get (D := (dC, dI)) (ci := 1) (v := .ref (p0a 3)) (C := RX7) (T := TX7) (N := 18) hx hb hts i_X7 hown hK hP 0 rfl rfl 2 (by decide) (hts _ qw26) (fun _ h9 => h9) rfl dX7_readStatement_347 ?_
    refine lv_iload_n hx hb dX7_readStatement_350 rfl (lv_at hl 1 rfl) ?_
    obtain ⟨o_1, hc_1, hrun⟩ := bnd9 hrun
    have hPx : va_P (dC, dI) cls ((List.flatten ([(oX6 (p0a 3) p0_2a p0_2k p0_2w_346 p0_2l)] : List va_W)) ++ (List.flatten ([(oX7 (p0a 0) p0a p0k p0w_346 p0l_346), (oX10 (p0a 2) p0_1a p0_1k p0_1w_346 p0_1l_346)] : List va_W))) H := vP_fa (vP_perm hP (bP ((((List.Perm.refl _)).cons _).trans (List.Perm.swap _ _ _))))
    have hDx : va_D A ((List.flatten ([(oX6 (p0a 3) p0_2a p0_2k p0_2w_346 p0_2l)] : List va_W)) ++ (List.flatten ([(oX7 (p0a 0) p0a p0k p0w_346 p0l_346), (oX10 (p0a 2) p0_1a p0_1k p0_1w_346 p0_1l_346)] : List va_W))) := vD_fa (vD_perm hD (bP ((((List.Perm.refl _)).cons _).trans (List.Perm.swap _ _ _))))
    have hKx : va_K (dC, dI) cls ((List.flatten ([(tX6 p0_2k)] : List (List (ClassId × FieldType)))) ++ (List.flatten ([(tX7 p0k), (tX10 p0_1k)] : List (List (ClassId × FieldType))))) s := vK_fa (vK_perm hK (bP ((((List.Perm.refl _)).cons _).trans (List.Perm.swap _ _ _))))
    have hPc := vP_l hPx
    have hDc := vD_l hDx
    have hKc := vK_l hKx
    have hFc := vfree hDx hS hA
    refine va_callv (va_runV (As := [.int (p0_2w 0 7)]) (rest := []) ⟨hx, hb, hml, hown, hts⟩ (kX6_tick l dC dI (p0a := (st0 (p0a 3) p0_2a)) (p0k := p0_2k) (p0w := p0_2w_346) (p0l := p0_2l) (p1 := (p0_2w 0 7)) (sz := _) (o := o_1) (hrun := hc_1)) (cwV 1 hts (gi_V qw1402 qw1403 qw1404 qw33 (gi_z qw1401)) rfl rfl rfl (by decide +kernel) ⟨rmF (Nat.le_of_ble_eq_true rfl), rmL (Nat.le_of_ble_eq_true rfl)⟩) ⟨PRE.blind, va_recv hKc hPc (ci := 2) (q0 := 0) rfl rfl, PRE.of hE hS hFc hPc hKc hDc⟩ rfl rfl hl.1 rfl (lv_room (Nat.le_of_ble_eq_true rfl)) dX7_readStatement_351 ⟨(Nat.le_of_ble_eq_true rfl), (Nat.le_of_ble_eq_true rfl)⟩) hS (fun q _ h => hFc q h) hFc (fun u t H locs ht hvm hw hB hz1 hk1 hS => ?_)
    obtain ⟨b1, b2, b3⟩ := hB
    rw [ht] at b1
    obtain ⟨hP, hD, hK⟩ := JOINC (wc := (List.flatten ([(oX6 (p0a 3) p0_2a p0_2k p0_2w_346 p0_2l)] : List va_W))) (wr := (List.flatten ([(oX7 (p0a 0) p0a p0k p0w_346 p0l_346), (oX10 (p0a 2) p0_1a p0_1k p0_1w_346 p0_1l_346)] : List va_W))) (w1 := (List.flatten ([(oX6 (p0a 3) p0_2a p0_2k o_1 p0_2l)] : List va_W))) (t1 := (List.flatten ([(tX6 p0_2k)] : List (List (ClassId × FieldType))))) hPx hDx hKx hk1 hFc b1 (va_K.moved hvm.symm b2) b3
    have hP : va_P (dC, dI) cls (List.flatten ([(oX7 (p0a 0) p0a p0k p0w_346 p0l_346), (oX6 (p0a 3) p0_2a p0_2k o_1 p0_2l), (oX10 (p0a 2) p0_1a p0_1k p0_1w_346 p0_1l_346)] : List va_W)) H := vP_perm (vP_fb hP) (bP ((((List.Perm.refl _)).cons _).trans (List.Perm.swap _ _ _)))
    have hD : va_D A (List.flatten ([(oX7 (p0a 0) p0a p0k p0w_346 p0l_346), (oX6 (p0a 3) p0_2a p0_2k o_1 p0_2l), (oX10 (p0a 2) p0_1a p0_1k p0_1w_346 p0_1l_346)] : List va_W)) := vD_perm (vD_fb hD) (bP ((((List.Perm.refl _)).cons _).trans (List.Perm.swap _ _ _)))
    have hK : va_K (dC, dI) cls (List.flatten ([(tX7 p0k), (tX6 p0_2k), (tX10 p0_1k)] : List (List (ClassId × FieldType)))) s := vK_perm (vK_fb hK) (bP ((((List.Perm.refl _)).cons _).trans (List.Perm.swap _ _ _)))
    have ho9 : (p0w_346, p0l_346, o_1, p0_1w_346, p0_1l_346) = o := Option.some.inj hrun
    have hP9 : va_P (dC, dI) cls (List.flatten ([(oX7 (p0a 0) p0a p0k (o.1) (o.2.1)), (oX6 (p0a 3) p0_2a p0_2k (o.2.2.1) p0_2l), (oX10 (p0a 2) p0_1a p0_1k (o.2.2.2.1) (o.2.2.2.2))] : List va_W)) H := by first | exact hP | (rw [← ho9]; exact hP)
    have hD9 : va_D A (List.flatten ([(oX7 (p0a 0) p0a p0k (o.1) (o.2.1)), (oX6 (p0a 3) p0_2a p0_2k (o.2.2.1) p0_2l), (oX10 (p0a 2) p0_1a p0_1k (o.2.2.2.1) (o.2.2.2.2))] : List va_W)) := by first | exact hD | (rw [← ho9]; exact hD)
    subst hQ
    exact W.vret hx hb hr (fun t ht hW => ⟨⟨(), rfl, trivial, ⟨by rw [ht]; exact hP9, va_K.moved hW.alike hK, hD9⟩⟩, hS.F ht⟩) hS.2.2 dX7_readStatement_354
  rcases br9 hrun with ⟨hc2, hrun⟩ | ⟨hc2, hrun⟩
  · refine lv_lookup (off := 108) (tgt := 123) hx hb dX7_readStatement_15 (by decide) (by rw [hc2]; decide) (by decide) ?_
    refine lv_aload_n hx hb dX7_readStatement_123 rfl (lv_at hl 1 rfl) ?_
    refine va_get (D := (dC, dI)) (ci := 1) (v := .ref (p0a 2)) (C := RX7) (T := TX7) (N := 18) hx hb hts i_X7 hown hK hP 0 rfl rfl 1 (by decide) (hts _ qw45) (fun _ h9 => h9) rfl dX7_readStatement_124 ?_
    refine va_get (D := (dC, dI)) (ci := 0) (v := .long (p0_1l 0 5)) (C := RX10) (T := TX10) (N := 8) hx hb hts i_X10 hown hK hP 20 rfl rfl 5 (by decide) (hts _ qw70) (fun _ h9 => h9) rfl dX7_readStatement_127 ?_
    refine lv_lstore (lv' := [(4, .long (p0_1l 0 5)), (1, .int (p0_2w 0 7)), (0, .ref (p0a 0))]) hx hb dX7_readStatement_130 hl (by decide) rfl (fun ls hl => ?_)
    refine lv_aload_n hx hb dX7_readStatement_132 rfl (lv_at hl 2 rfl) ?_
    refine va_get (D := (dC, dI)) (ci := 1) (v := .ref (p0a 2)) (C := RX7) (T := TX7) (N := 18) hx hb hts i_X7 hown hK hP 0 rfl rfl 1 (by decide) (hts _ qw45) (fun _ h9 => h9) rfl dX7_readStatement_133 ?_
    refine va_get (D := (dC, dI)) (ci := 0) (v := .int (p0_1w 0 3)) (C := RX10) (T := TX10) (N := 8) hx hb hts i_X10 hown hK hP 20 rfl rfl 3 (by decide) (hts _ qw69) (fun _ h9 => h9) rfl dX7_readStatement_136 ?_
    refine lv_istore (lv' := [(6, .int (p0_1w 0 3)), (4, .long (p0_1l 0 5)), (1, .int (p0_2w 0 7)), (0, .ref (p0a 0))]) hx hb dX7_readStatement_139 hl (by decide) rfl (fun ls hl => ?_)
    refine lv_aload_n hx hb dX7_readStatement_141 rfl (lv_at hl 3 rfl) ?_
    refine lv_iconst (v := 3) hx hb dX7_readStatement_142 (by decide) ?_
    obtain ⟨o_3, hc_3, hrun⟩ := bnd9 hrun
    have hPx : va_P (dC, dI) cls ((List.flatten ([(oX7 (p0a 0) p0a p0k p0w p0l), (oX10 (p0a 2) p0_1a p0_1k p0_1w p0_1l)] : List va_W)) ++ (List.flatten ([(oX6 (p0a 3) p0_2a p0_2k p0_2w p0_2l)] : List va_W))) H := vP_fa (vP_perm hP (bP (((List.Perm.refl _)).trans ((((((List.Perm.refl _)).cons _).trans (List.Perm.swap _ _ _))).cons _))))
    have hDx : va_D A ((List.flatten ([(oX7 (p0a 0) p0a p0k p0w p0l), (oX10 (p0a 2) p0_1a p0_1k p0_1w p0_1l)] : List va_W)) ++ (List.flatten ([(oX6 (p0a 3) p0_2a p0_2k p0_2w p0_2l)] : List va_W))) := vD_fa (vD_perm hD (bP (((List.Perm.refl _)).trans ((((((List.Perm.refl _)).cons _).trans (List.Perm.swap _ _ _))).cons _))))
    have hKx : va_K (dC, dI) cls ((List.flatten ([(tX7 p0k), (tX10 p0_1k)] : List (List (ClassId × FieldType)))) ++ (List.flatten ([(tX6 p0_2k)] : List (List (ClassId × FieldType))))) s := vK_fa (vK_perm hK (bP (((List.Perm.refl _)).trans ((((((List.Perm.refl _)).cons _).trans (List.Perm.swap _ _ _))).cons _))))
    have hPc := vP_l hPx
    have hDc := vD_l hDx
    have hKc := vK_l hKx
    have hFc := vfree hDx hS hA
    refine va_callv (va_runV (As := [.int 3]) (rest := []) ⟨hx, hb, hml, hown, hts⟩ (kX7_expect l dC dI (p0a := p0a) (p0k := p0k) (p0w := p0w) (p0l := p0l) (p1 := 3) (aK := aK) (aV := aV) (p0_1a := p0_1a) (p0_1k := p0_1k) (p0_1w := p0_1w) (p0_1l := p0_1l) (sz := _) (o := o_3) (hrun := hc_3)) (cwV 1 hts (gi_V qw1386 qw1387 qw1388 qw65 (gi_z qw1385)) rfl rfl rfl (by decide +kernel) ⟨rmF (Nat.le_of_ble_eq_true rfl), rmL (Nat.le_of_ble_eq_true rfl)⟩) ⟨PRE.blind, va_recv hKc hPc (ci := 1) (q0 := 0) rfl rfl, PRE.of (ENV.add hE st9_m hro_st) hS hFc hPc hKc hDc⟩ rfl rfl hl.1 rfl (lv_room (Nat.le_of_ble_eq_true rfl)) dX7_readStatement_143 ⟨(Nat.le_of_ble_eq_true rfl), (Nat.le_of_ble_eq_true rfl)⟩) hS (fun q _ h => hFc q h) hFc (fun u t H locs ht hvm hw hB hz1 hk1 hS => ?_)
    obtain ⟨b1, b2, b3⟩ := hB
    rw [ht] at b1
    obtain ⟨hP, hD, hK⟩ := JOINC (wc := (List.flatten ([(oX7 (p0a 0) p0a p0k p0w p0l), (oX10 (p0a 2) p0_1a p0_1k p0_1w p0_1l)] : List va_W))) (wr := (List.flatten ([(oX6 (p0a 3) p0_2a p0_2k p0_2w p0_2l)] : List va_W))) (w1 := (List.flatten ([(oX7 (p0a 0) p0a p0k (o_3.1) p0l), (oX10 (p0a 2) p0_1a p0_1k (o_3.2.1) (o_3.2.2))] : List va_W))) (t1 := (List.flatten ([(tX7 p0k), (tX10 p0_1k)] : List (List (ClassId × FieldType))))) hPx hDx hKx hk1 hFc b1 (va_K.moved hvm.symm b2) b3
    have hP : va_P (dC, dI) cls (List.flatten ([(oX7 (p0a 0) p0a p0k (o_3.1) p0l), (oX6 (p0a 3) p0_2a p0_2k p0_2w p0_2l), (oX10 (p0a 2) p0_1a p0_1k (o_3.2.1) (o_3.2.2))] : List va_W)) H := vP_perm (vP_fb hP) (bP (((List.Perm.refl _)).trans ((((((List.Perm.refl _)).cons _).trans (List.Perm.swap _ _ _))).cons _)))
    have hD : va_D A (List.flatten ([(oX7 (p0a 0) p0a p0k (o_3.1) p0l), (oX6 (p0a 3) p0_2a p0_2k p0_2w p0_2l), (oX10 (p0a 2) p0_1a p0_1k (o_3.2.1) (o_3.2.2))] : List va_W)) := vD_perm (vD_fb hD) (bP (((List.Perm.refl _)).trans ((((((List.Perm.refl _)).cons _).trans (List.Perm.swap _ _ _))).cons _)))
    have hK : va_K (dC, dI) cls (List.flatten ([(tX7 p0k), (tX6 p0_2k), (tX10 p0_1k)] : List (List (ClassId × FieldType)))) s := vK_perm (vK_fb hK) (bP (((List.Perm.refl _)).trans ((((((List.Perm.refl _)).cons _).trans (List.Perm.swap _ _ _))).cons _)))
    refine lv_aload_n hx hb dX7_readStatement_146 rfl (lv_at hl 3 rfl) ?_
    refine va_get (D := (dC, dI)) (ci := 1) (v := .ref (p0a 2)) (C := RX7) (T := TX7) (N := 18) hx hb hts i_X7 hown hK hP 0 rfl rfl 1 (by decide) (hts _ qw45) (fun _ h9 => h9) rfl dX7_readStatement_147 ?_
    refine va_get (D := (dC, dI)) (ci := 0) (v := .int ((o_3.2.1) 0 2)) (C := RX10) (T := TX10) (N := 8) hx hb hts i_X10 hown hK hP 20 rfl rfl 2 (by decide) (hts _ qw46) (fun _ h9 => h9) rfl dX7_readStatement_150 ?_
    refine lv_bipush (v := 40) hx hb dX7_readStatement_153 (by decide) ?_
    have J215 : ∀ (p0w_215 : ST) (p0l_215 : SL) (p0_2w_215 : ST) (p0_1w_215 : ST) (p0_1l_215 : SL) (H : Heap) (locs : List Loc) (ls : Array Slot), (fX7_readStatement_J215 p0_2w p0w_215 p0l_215 p0_2w_215 p0_1w_215 p0_1l_215) = some o → va_P (dC, dI) cls (List.flatten ([(oX7 (p0a 0) p0a p0k p0w_215 p0l_215), (oX6 (p0a 3) p0_2a p0_2k p0_2w_215 p0_2l), (oX10 (p0a 2) p0_1a p0_1k p0_1w_215 p0_1l_215)] : List va_W)) H → va_D A (List.flatten ([(oX7 (p0a 0) p0a p0k p0w_215 p0l_215), (oX6 (p0a 3) p0_2a p0_2k p0_2w_215 p0_2l), (oX10 (p0a 2) p0_1a p0_1k p0_1w_215 p0_1l_215)] : List va_W)) → va_K (dC, dI) cls (List.flatten ([(tX7 p0k), (tX6 p0_2k), (tX10 p0_1k)] : List (List (ClassId × FieldType)))) s → va_S A s.heap H locs → lv_has ls 8 [(0, .ref (p0a 0)), (1, .int (p0_2w 0 7))] → W p l e ({ frames := F9 + 8, cells := 0, slots := 0, locals := L9 + 400 } : Room) s m ([.ref (p0a 0)] : List Value).toArray below meth c H locs 0 0 Q (F0 m 215 ls []) := by
      intro p0w_215 p0l_215 p0_2w_215 p0_1w_215 p0_1l_215 H locs ls hrun hP hD hK hS hl 
      unfold fX7_readStatement_J215 at hrun
      refine lv_aload_n hx hb dX7_readStatement_215 rfl (lv_at hl 0 rfl) ?_
      refine lv_bipush (v := 59) hx hb dX7_readStatement_216 (by decide) ?_
      obtain ⟨o_4, hc_4, hrun⟩ := bnd9 hrun
      have hPx : va_P (dC, dI) cls ((List.flatten ([(oX7 (p0a 0) p0a p0k p0w_215 p0l_215), (oX10 (p0a 2) p0_1a p0_1k p0_1w_215 p0_1l_215)] : List va_W)) ++ (List.flatten ([(oX6 (p0a 3) p0_2a p0_2k p0_2w_215 p0_2l)] : List va_W))) H := vP_fa (vP_perm hP (bP (((List.Perm.refl _)).trans ((((((List.Perm.refl _)).cons _).trans (List.Perm.swap _ _ _))).cons _))))
      have hDx : va_D A ((List.flatten ([(oX7 (p0a 0) p0a p0k p0w_215 p0l_215), (oX10 (p0a 2) p0_1a p0_1k p0_1w_215 p0_1l_215)] : List va_W)) ++ (List.flatten ([(oX6 (p0a 3) p0_2a p0_2k p0_2w_215 p0_2l)] : List va_W))) := vD_fa (vD_perm hD (bP (((List.Perm.refl _)).trans ((((((List.Perm.refl _)).cons _).trans (List.Perm.swap _ _ _))).cons _))))
      have hKx : va_K (dC, dI) cls ((List.flatten ([(tX7 p0k), (tX10 p0_1k)] : List (List (ClassId × FieldType)))) ++ (List.flatten ([(tX6 p0_2k)] : List (List (ClassId × FieldType))))) s := vK_fa (vK_perm hK (bP (((List.Perm.refl _)).trans ((((((List.Perm.refl _)).cons _).trans (List.Perm.swap _ _ _))).cons _))))
      have hPc := vP_l hPx
      have hDc := vD_l hDx
      have hKc := vK_l hKx
      have hFc := vfree hDx hS hA
      refine va_callv (va_runV (As := [.int 59]) (rest := []) ⟨hx, hb, hml, hown, hts⟩ (kX7_expect l dC dI (p0a := p0a) (p0k := p0k) (p0w := p0w_215) (p0l := p0l_215) (p1 := 59) (aK := aK) (aV := aV) (p0_1a := p0_1a) (p0_1k := p0_1k) (p0_1w := p0_1w_215) (p0_1l := p0_1l_215) (sz := _) (o := o_4) (hrun := hc_4)) (cwV 1 hts (gi_V qw1386 qw1387 qw1388 qw65 (gi_z qw1385)) rfl rfl rfl (by decide +kernel) ⟨rmF (Nat.le_of_ble_eq_true rfl), rmL (Nat.le_of_ble_eq_true rfl)⟩) ⟨PRE.blind, va_recv hKc hPc (ci := 1) (q0 := 0) rfl rfl, PRE.of (ENV.add hE st9_m hro_st) hS hFc hPc hKc hDc⟩ rfl rfl hl.1 rfl (lv_room (Nat.le_of_ble_eq_true rfl)) dX7_readStatement_218 ⟨(Nat.le_of_ble_eq_true rfl), (Nat.le_of_ble_eq_true rfl)⟩) hS (fun q _ h => hFc q h) hFc (fun u t H locs ht hvm hw hB hz1 hk1 hS => ?_)
      obtain ⟨b1, b2, b3⟩ := hB
      rw [ht] at b1
      obtain ⟨hP, hD, hK⟩ := JOINC (wc := (List.flatten ([(oX7 (p0a 0) p0a p0k p0w_215 p0l_215), (oX10 (p0a 2) p0_1a p0_1k p0_1w_215 p0_1l_215)] : List va_W))) (wr := (List.flatten ([(oX6 (p0a 3) p0_2a p0_2k p0_2w_215 p0_2l)] : List va_W))) (w1 := (List.flatten ([(oX7 (p0a 0) p0a p0k (o_4.1) p0l_215), (oX10 (p0a 2) p0_1a p0_1k (o_4.2.1) (o_4.2.2))] : List va_W))) (t1 := (List.flatten ([(tX7 p0k), (tX10 p0_1k)] : List (List (ClassId × FieldType))))) hPx hDx hKx hk1 hFc b1 (va_K.moved hvm.symm b2) b3
      have hP : va_P (dC, dI) cls (List.flatten ([(oX7 (p0a 0) p0a p0k (o_4.1) p0l_215), (oX6 (p0a 3) p0_2a p0_2k p0_2w_215 p0_2l), (oX10 (p0a 2) p0_1a p0_1k (o_4.2.1) (o_4.2.2))] : List va_W)) H := vP_perm (vP_fb hP) (bP (((List.Perm.refl _)).trans ((((((List.Perm.refl _)).cons _).trans (List.Perm.swap _ _ _))).cons _)))
      have hD : va_D A (List.flatten ([(oX7 (p0a 0) p0a p0k (o_4.1) p0l_215), (oX6 (p0a 3) p0_2a p0_2k p0_2w_215 p0_2l), (oX10 (p0a 2) p0_1a p0_1k (o_4.2.1) (o_4.2.2))] : List va_W)) := vD_perm (vD_fb hD) (bP (((List.Perm.refl _)).trans ((((((List.Perm.refl _)).cons _).trans (List.Perm.swap _ _ _))).cons _)))
      have hK : va_K (dC, dI) cls (List.flatten ([(tX7 p0k), (tX6 p0_2k), (tX10 p0_1k)] : List (List (ClassId × FieldType)))) s := vK_perm (vK_fb hK) (bP (((List.Perm.refl _)).trans ((((((List.Perm.refl _)).cons _).trans (List.Perm.swap _ _ _))).cons _)))
      refine lv_goto (tgt := 346) hx hb dX7_readStatement_221 (by decide) ?_
      exact J346 (o_4.1) p0l_215 p0_2w_215 (o_4.2.1) (o_4.2.2) _ _ _ hrun hP hD hK hS (lv_sub hl [0, 1] rfl)
    rcases br9 hrun with ⟨hc5, hrun⟩ | ⟨hc5, hrun⟩
    · refine lv_icmp_ne (tgt := 181) hx hb dX7_readStatement_155 (by decide) (fun c => absurd hc5 c) (fun _ => ?_)
      refine lv_aload_n hx hb dX7_readStatement_158 rfl (lv_at hl 3 rfl) ?_
      refine lv_lload hx hb dX7_readStatement_159 (lv_at hl 1 rfl) ?_
      refine lv_iload hx hb dX7_readStatement_161 (lv_at hl 0 rfl) ?_
      obtain ⟨o_6, hc_6, hrun⟩ := bnd9 hrun
      have hPx : va_P (dC, dI) cls ((List.flatten ([(oX7 (p0a 0) p0a p0k (o_3.1) p0l), (oX6 (p0a 3) p0_2a p0_2k p0_2w p0_2l), (oX10 (p0a 2) p0_1a p0_1k (o_3.2.1) (o_3.2.2))] : List va_W)) ++ (List.flatten ([] : List va_W))) H := vP_fa (vP_perm hP (bP (List.Perm.refl _)))
      have hDx : va_D A ((List.flatten ([(oX7 (p0a 0) p0a p0k (o_3.1) p0l), (oX6 (p0a 3) p0_2a p0_2k p0_2w p0_2l), (oX10 (p0a 2) p0_1a p0_1k (o_3.2.1) (o_3.2.2))] : List va_W)) ++ (List.flatten ([] : List va_W))) := vD_fa (vD_perm hD (bP (List.Perm.refl _)))
      have hKx : va_K (dC, dI) cls ((List.flatten ([(tX7 p0k), (tX6 p0_2k), (tX10 p0_1k)] : List (List (ClassId × FieldType)))) ++ (List.flatten ([] : List (List (ClassId × FieldType))))) s := vK_fa (vK_perm hK (bP (List.Perm.refl _)))
      have hPc := vP_l hPx
      have hDc := vD_l hDx
      have hKc := vK_l hKx
      have hFc := vfree hDx hS hA
      refine va_calli (va_runV (As := [.long (p0_1l 0 5), .int (p0_1w 0 3)]) (rest := []) ⟨hx, hb, hml, hown, hts⟩ (hkk_readCall dC dI (p0a := p0a) (p0k := p0k) (p0w := (o_3.1)) (p0l := p0l) (p1 := (p0_1l 0 5)) (p2 := (p0_1w 0 3)) (aK := aK) (aV := aV) (p0_2a := p0_2a) (p0_2k := p0_2k) (p0_2w := p0_2w) (p0_2l := p0_2l) (p0_1a := p0_1a) (p0_1k := p0_1k) (p0_1w := (o_3.2.1)) (p0_1l := (o_3.2.2)) (sz := _) (o := o_6) (hrun := hc_6)) (cwV 2 hts (gi_V qw1398 qw1399 qw1400 qw65 (gi_z qw1397)) rfl rfl rfl (by decide +kernel) ⟨rmF9, rmL9 (n := 27) (Nat.le_of_ble_eq_true rfl)⟩) ⟨PRE.blind, va_recv hKc hPc (ci := 1) (q0 := 0) rfl rfl, PRE.of (ENV.add hE st9_m hro_st) hS hFc hPc hKc hDc⟩ rfl rfl hl.1 rfl (lv_room (Nat.le_of_ble_eq_true rfl)) dX7_readStatement_163 ⟨(Nat.le_of_ble_eq_true rfl), (Nat.le_of_ble_eq_true rfl)⟩) hS (fun q _ h => hFc q h) hFc (fun r7 u t H locs ht hvm hw hB hz1 hk1 hS => ?_)
      obtain ⟨b1, b2, b3⟩ := hB
      rw [ht] at b1
      obtain ⟨hP, hD, hK⟩ := JOINC (wc := (List.flatten ([(oX7 (p0a 0) p0a p0k (o_3.1) p0l), (oX6 (p0a 3) p0_2a p0_2k p0_2w p0_2l), (oX10 (p0a 2) p0_1a p0_1k (o_3.2.1) (o_3.2.2))] : List va_W))) (wr := (List.flatten ([] : List va_W))) (w1 := (List.flatten ([(oX7 (p0a 0) p0a p0k (o_6.2.1) (o_6.2.2.1)), (oX6 (p0a 3) p0_2a p0_2k (o_6.2.2.2.1) p0_2l), (oX10 (p0a 2) p0_1a p0_1k (o_6.2.2.2.2.1) (o_6.2.2.2.2.2))] : List va_W))) (t1 := (List.flatten ([(tX7 p0k), (tX6 p0_2k), (tX10 p0_1k)] : List (List (ClassId × FieldType))))) hPx hDx hKx hk1 hFc b1 (va_K.moved hvm.symm b2) b3
      have hP : va_P (dC, dI) cls (List.flatten ([(oX7 (p0a 0) p0a p0k (o_6.2.1) (o_6.2.2.1)), (oX6 (p0a 3) p0_2a p0_2k (o_6.2.2.2.1) p0_2l), (oX10 (p0a 2) p0_1a p0_1k (o_6.2.2.2.2.1) (o_6.2.2.2.2.2))] : List va_W)) H := vP_perm (vP_fb hP) (bP (List.Perm.refl _))
      have hD : va_D A (List.flatten ([(oX7 (p0a 0) p0a p0k (o_6.2.1) (o_6.2.2.1)), (oX6 (p0a 3) p0_2a p0_2k (o_6.2.2.2.1) p0_2l), (oX10 (p0a 2) p0_1a p0_1k (o_6.2.2.2.2.1) (o_6.2.2.2.2.2))] : List va_W)) := vD_perm (vD_fb hD) (bP (List.Perm.refl _))
      have hK : va_K (dC, dI) cls (List.flatten ([(tX7 p0k), (tX6 p0_2k), (tX10 p0_1k)] : List (List (ClassId × FieldType)))) s := vK_perm (vK_fb hK) (bP (List.Perm.refl _))
      obtain rfl : r7 = (o_6.1) := hw
      refine lv_pop hx hb dX7_readStatement_166 rfl ?_
      refine lv_aload_n hx hb dX7_readStatement_167 rfl (lv_at hl 3 rfl) ?_
      refine va_get (D := (dC, dI)) (ci := 1) (v := .ref (p0a 3)) (C := RX7) (T := TX7) (N := 18) hx hb hts i_X7 hown hK hP 0 rfl rfl 2 (by decide) (hts _ qw26) (fun _ h9 => h9) rfl dX7_readStatement_168 ?_
      refine lv_bipush (v := 36) hx hb dX7_readStatement_171 (by decide) ?_
      refine lv_iconst (v := 0) hx hb dX7_readStatement_173 (by decide) ?_
      refine lv_iconst (v := 0) hx hb dX7_readStatement_174 (by decide) ?_
      obtain ⟨o_8, hc_8, hrun⟩ := bnd9 hrun
      have hPx : va_P (dC, dI) cls ((List.flatten ([(oX6 (p0a 3) p0_2a p0_2k (o_6.2.2.2.1) p0_2l)] : List va_W)) ++ (List.flatten ([(oX7 (p0a 0) p0a p0k (o_6.2.1) (o_6.2.2.1)), (oX10 (p0a 2) p0_1a p0_1k (o_6.2.2.2.2.1) (o_6.2.2.2.2.2))] : List va_W))) H := vP_fa (vP_perm hP (bP ((((List.Perm.refl _)).cons _).trans (List.Perm.swap _ _ _))))
      have hDx : va_D A ((List.flatten ([(oX6 (p0a 3) p0_2a p0_2k (o_6.2.2.2.1) p0_2l)] : List va_W)) ++ (List.flatten ([(oX7 (p0a 0) p0a p0k (o_6.2.1) (o_6.2.2.1)), (oX10 (p0a 2) p0_1a p0_1k (o_6.2.2.2.2.1) (o_6.2.2.2.2.2))] : List va_W))) := vD_fa (vD_perm hD (bP ((((List.Perm.refl _)).cons _).trans (List.Perm.swap _ _ _))))
      have hKx : va_K (dC, dI) cls ((List.flatten ([(tX6 p0_2k)] : List (List (ClassId × FieldType)))) ++ (List.flatten ([(tX7 p0k), (tX10 p0_1k)] : List (List (ClassId × FieldType))))) s := vK_fa (vK_perm hK (bP ((((List.Perm.refl _)).cons _).trans (List.Perm.swap _ _ _))))
      have hPc := vP_l hPx
      have hDc := vD_l hDx
      have hKc := vK_l hKx
      have hFc := vfree hDx hS hA
      refine va_callv (va_runV (As := [.int 36, .int 0, .int 0]) (rest := []) ⟨hx, hb, hml, hown, hts⟩ (kX6_emit l dC dI (p0a := (st0 (p0a 3) p0_2a)) (p0k := p0_2k) (p0w := (o_6.2.2.2.1)) (p0l := p0_2l) (p1 := 36) (p2 := 0) (p3 := 0) (sz := _) (o := o_8) (hrun := hc_8)) (cwV 3 hts (gi_V qw42 qw43 qw44 qw33 (gi_z qw41)) rfl rfl rfl (by decide +kernel) ⟨rmF (Nat.le_of_ble_eq_true rfl), rmL (Nat.le_of_ble_eq_true rfl)⟩) ⟨PRE.blind, va_recv hKc hPc (ci := 2) (q0 := 0) rfl rfl, PRE.of hE hS hFc hPc hKc hDc⟩ rfl rfl hl.1 rfl (lv_room (Nat.le_of_ble_eq_true rfl)) dX7_readStatement_175 ⟨(Nat.le_of_ble_eq_true rfl), (Nat.le_of_ble_eq_true rfl)⟩) hS (fun q _ h => hFc q h) hFc (fun u t H locs ht hvm hw hB hz1 hk1 hS => ?_)
      obtain ⟨b1, b2, b3⟩ := hB
      rw [ht] at b1
      obtain ⟨hP, hD, hK⟩ := JOINC (wc := (List.flatten ([(oX6 (p0a 3) p0_2a p0_2k (o_6.2.2.2.1) p0_2l)] : List va_W))) (wr := (List.flatten ([(oX7 (p0a 0) p0a p0k (o_6.2.1) (o_6.2.2.1)), (oX10 (p0a 2) p0_1a p0_1k (o_6.2.2.2.2.1) (o_6.2.2.2.2.2))] : List va_W))) (w1 := (List.flatten ([(oX6 (p0a 3) p0_2a p0_2k o_8 p0_2l)] : List va_W))) (t1 := (List.flatten ([(tX6 p0_2k)] : List (List (ClassId × FieldType))))) hPx hDx hKx hk1 hFc b1 (va_K.moved hvm.symm b2) b3
      have hP : va_P (dC, dI) cls (List.flatten ([(oX7 (p0a 0) p0a p0k (o_6.2.1) (o_6.2.2.1)), (oX6 (p0a 3) p0_2a p0_2k o_8 p0_2l), (oX10 (p0a 2) p0_1a p0_1k (o_6.2.2.2.2.1) (o_6.2.2.2.2.2))] : List va_W)) H := vP_perm (vP_fb hP) (bP ((((List.Perm.refl _)).cons _).trans (List.Perm.swap _ _ _)))
      have hD : va_D A (List.flatten ([(oX7 (p0a 0) p0a p0k (o_6.2.1) (o_6.2.2.1)), (oX6 (p0a 3) p0_2a p0_2k o_8 p0_2l), (oX10 (p0a 2) p0_1a p0_1k (o_6.2.2.2.2.1) (o_6.2.2.2.2.2))] : List va_W)) := vD_perm (vD_fb hD) (bP ((((List.Perm.refl _)).cons _).trans (List.Perm.swap _ _ _)))
      have hK : va_K (dC, dI) cls (List.flatten ([(tX7 p0k), (tX6 p0_2k), (tX10 p0_1k)] : List (List (ClassId × FieldType)))) s := vK_perm (vK_fb hK) (bP ((((List.Perm.refl _)).cons _).trans (List.Perm.swap _ _ _)))
      refine lv_goto (tgt := 215) hx hb dX7_readStatement_178 (by decide) ?_
      exact J215 (o_6.2.1) (o_6.2.2.1) o_8 (o_6.2.2.2.2.1) (o_6.2.2.2.2.2) _ _ _ hrun hP hD hK hS (lv_sub hl [3, 2] rfl)
    · refine lv_icmp_ne (tgt := 181) hx hb dX7_readStatement_155 (by decide) (fun _ => ?_) (fun c => absurd c hc5)
      refine lv_aload_n hx hb dX7_readStatement_181 rfl (lv_at hl 3 rfl) ?_
      refine lv_bipush (v := 61) hx hb dX7_readStatement_182 (by decide) ?_
      obtain ⟨o_9, hc_9, hrun⟩ := bnd9 hrun
      have hPx : va_P (dC, dI) cls ((List.flatten ([(oX7 (p0a 0) p0a p0k (o_3.1) p0l), (oX10 (p0a 2) p0_1a p0_1k (o_3.2.1) (o_3.2.2))] : List va_W)) ++ (List.flatten ([(oX6 (p0a 3) p0_2a p0_2k p0_2w p0_2l)] : List va_W))) H := vP_fa (vP_perm hP (bP (((List.Perm.refl _)).trans ((((((List.Perm.refl _)).cons _).trans (List.Perm.swap _ _ _))).cons _))))
      have hDx : va_D A ((List.flatten ([(oX7 (p0a 0) p0a p0k (o_3.1) p0l), (oX10 (p0a 2) p0_1a p0_1k (o_3.2.1) (o_3.2.2))] : List va_W)) ++ (List.flatten ([(oX6 (p0a 3) p0_2a p0_2k p0_2w p0_2l)] : List va_W))) := vD_fa (vD_perm hD (bP (((List.Perm.refl _)).trans ((((((List.Perm.refl _)).cons _).trans (List.Perm.swap _ _ _))).cons _))))
      have hKx : va_K (dC, dI) cls ((List.flatten ([(tX7 p0k), (tX10 p0_1k)] : List (List (ClassId × FieldType)))) ++ (List.flatten ([(tX6 p0_2k)] : List (List (ClassId × FieldType))))) s := vK_fa (vK_perm hK (bP (((List.Perm.refl _)).trans ((((((List.Perm.refl _)).cons _).trans (List.Perm.swap _ _ _))).cons _))))
      have hPc := vP_l hPx
      have hDc := vD_l hDx
      have hKc := vK_l hKx
      have hFc := vfree hDx hS hA
      refine va_callv (va_runV (As := [.int 61]) (rest := []) ⟨hx, hb, hml, hown, hts⟩ (kX7_expect l dC dI (p0a := p0a) (p0k := p0k) (p0w := (o_3.1)) (p0l := p0l) (p1 := 61) (aK := aK) (aV := aV) (p0_1a := p0_1a) (p0_1k := p0_1k) (p0_1w := (o_3.2.1)) (p0_1l := (o_3.2.2)) (sz := _) (o := o_9) (hrun := hc_9)) (cwV 1 hts (gi_V qw1386 qw1387 qw1388 qw65 (gi_z qw1385)) rfl rfl rfl (by decide +kernel) ⟨rmF (Nat.le_of_ble_eq_true rfl), rmL (Nat.le_of_ble_eq_true rfl)⟩) ⟨PRE.blind, va_recv hKc hPc (ci := 1) (q0 := 0) rfl rfl, PRE.of (ENV.add hE st9_m hro_st) hS hFc hPc hKc hDc⟩ rfl rfl hl.1 rfl (lv_room (Nat.le_of_ble_eq_true rfl)) dX7_readStatement_184 ⟨(Nat.le_of_ble_eq_true rfl), (Nat.le_of_ble_eq_true rfl)⟩) hS (fun q _ h => hFc q h) hFc (fun u t H locs ht hvm hw hB hz1 hk1 hS => ?_)
      obtain ⟨b1, b2, b3⟩ := hB
      rw [ht] at b1
      obtain ⟨hP, hD, hK⟩ := JOINC (wc := (List.flatten ([(oX7 (p0a 0) p0a p0k (o_3.1) p0l), (oX10 (p0a 2) p0_1a p0_1k (o_3.2.1) (o_3.2.2))] : List va_W))) (wr := (List.flatten ([(oX6 (p0a 3) p0_2a p0_2k p0_2w p0_2l)] : List va_W))) (w1 := (List.flatten ([(oX7 (p0a 0) p0a p0k (o_9.1) p0l), (oX10 (p0a 2) p0_1a p0_1k (o_9.2.1) (o_9.2.2))] : List va_W))) (t1 := (List.flatten ([(tX7 p0k), (tX10 p0_1k)] : List (List (ClassId × FieldType))))) hPx hDx hKx hk1 hFc b1 (va_K.moved hvm.symm b2) b3
      have hP : va_P (dC, dI) cls (List.flatten ([(oX7 (p0a 0) p0a p0k (o_9.1) p0l), (oX6 (p0a 3) p0_2a p0_2k p0_2w p0_2l), (oX10 (p0a 2) p0_1a p0_1k (o_9.2.1) (o_9.2.2))] : List va_W)) H := vP_perm (vP_fb hP) (bP (((List.Perm.refl _)).trans ((((((List.Perm.refl _)).cons _).trans (List.Perm.swap _ _ _))).cons _)))
      have hD : va_D A (List.flatten ([(oX7 (p0a 0) p0a p0k (o_9.1) p0l), (oX6 (p0a 3) p0_2a p0_2k p0_2w p0_2l), (oX10 (p0a 2) p0_1a p0_1k (o_9.2.1) (o_9.2.2))] : List va_W)) := vD_perm (vD_fb hD) (bP (((List.Perm.refl _)).trans ((((((List.Perm.refl _)).cons _).trans (List.Perm.swap _ _ _))).cons _)))
      have hK : va_K (dC, dI) cls (List.flatten ([(tX7 p0k), (tX6 p0_2k), (tX10 p0_1k)] : List (List (ClassId × FieldType)))) s := vK_perm (vK_fb hK) (bP (((List.Perm.refl _)).trans ((((((List.Perm.refl _)).cons _).trans (List.Perm.swap _ _ _))).cons _)))
      refine lv_aload_n hx hb dX7_readStatement_187 rfl (lv_at hl 3 rfl) ?_
      refine lv_lload hx hb dX7_readStatement_188 (lv_at hl 1 rfl) ?_
      refine lv_iload hx hb dX7_readStatement_190 (lv_at hl 0 rfl) ?_
      obtain ⟨o_10, hc_10, hrun⟩ := bnd9 hrun
      have hPx : va_P (dC, dI) cls ((List.flatten ([(oX7 (p0a 0) p0a p0k (o_9.1) p0l)] : List va_W)) ++ (List.flatten ([(oX6 (p0a 3) p0_2a p0_2k p0_2w p0_2l), (oX10 (p0a 2) p0_1a p0_1k (o_9.2.1) (o_9.2.2))] : List va_W))) H := vP_fa (vP_perm hP (bP (List.Perm.refl _)))
      have hDx : va_D A ((List.flatten ([(oX7 (p0a 0) p0a p0k (o_9.1) p0l)] : List va_W)) ++ (List.flatten ([(oX6 (p0a 3) p0_2a p0_2k p0_2w p0_2l), (oX10 (p0a 2) p0_1a p0_1k (o_9.2.1) (o_9.2.2))] : List va_W))) := vD_fa (vD_perm hD (bP (List.Perm.refl _)))
      have hKx : va_K (dC, dI) cls ((List.flatten ([(tX7 p0k)] : List (List (ClassId × FieldType)))) ++ (List.flatten ([(tX6 p0_2k), (tX10 p0_1k)] : List (List (ClassId × FieldType))))) s := vK_fa (vK_perm hK (bP (List.Perm.refl _)))
      have hPc := vP_l hPx
      have hDc := vD_l hDx
      have hKc := vK_l hKx
      have hFc := vfree hDx hS hA
      refine va_calli (va_runV (As := [.long (p0_1l 0 5), .int (p0_1w 0 3)]) (rest := []) ⟨hx, hb, hml, hown, hts⟩ (kX7_seenVariableOf l dC dI (p0a := p0a) (p0k := p0k) (p0w := (o_9.1)) (p0l := p0l) (p1 := (p0_1l 0 5)) (p2 := (p0_1w 0 3)) (sz := _) (o := o_10) (hrun := hc_10)) (cwV 2 hts (gi_V qw1406 qw1407 qw1408 qw65 (gi_z qw1405)) rfl rfl rfl (by decide +kernel) ⟨rmF (Nat.le_of_ble_eq_true rfl), rmL (Nat.le_of_ble_eq_true rfl)⟩) ⟨PRE.blind, va_recv hKc hPc (ci := 1) (q0 := 0) rfl rfl, PRE.of hE hS hFc hPc hKc hDc⟩ rfl rfl hl.1 rfl (lv_room (Nat.le_of_ble_eq_true rfl)) dX7_readStatement_192 ⟨(Nat.le_of_ble_eq_true rfl), (Nat.le_of_ble_eq_true rfl)⟩) hS (fun q _ h => hFc q h) hFc (fun r11 u t H locs ht hvm hw hB hz1 hk1 hS => ?_)
      obtain ⟨b1, b2, b3⟩ := hB
      rw [ht] at b1
      obtain ⟨hP, hD, hK⟩ := JOINC (wc := (List.flatten ([(oX7 (p0a 0) p0a p0k (o_9.1) p0l)] : List va_W))) (wr := (List.flatten ([(oX6 (p0a 3) p0_2a p0_2k p0_2w p0_2l), (oX10 (p0a 2) p0_1a p0_1k (o_9.2.1) (o_9.2.2))] : List va_W))) (w1 := (List.flatten ([(oX7 (p0a 0) p0a p0k (o_10.2) p0l)] : List va_W))) (t1 := (List.flatten ([(tX7 p0k)] : List (List (ClassId × FieldType))))) hPx hDx hKx hk1 hFc b1 (va_K.moved hvm.symm b2) b3
      have hP : va_P (dC, dI) cls (List.flatten ([(oX7 (p0a 0) p0a p0k (o_10.2) p0l), (oX6 (p0a 3) p0_2a p0_2k p0_2w p0_2l), (oX10 (p0a 2) p0_1a p0_1k (o_9.2.1) (o_9.2.2))] : List va_W)) H := vP_perm (vP_fb hP) (bP (List.Perm.refl _))
      have hD : va_D A (List.flatten ([(oX7 (p0a 0) p0a p0k (o_10.2) p0l), (oX6 (p0a 3) p0_2a p0_2k p0_2w p0_2l), (oX10 (p0a 2) p0_1a p0_1k (o_9.2.1) (o_9.2.2))] : List va_W)) := vD_perm (vD_fb hD) (bP (List.Perm.refl _))
      have hK : va_K (dC, dI) cls (List.flatten ([(tX7 p0k), (tX6 p0_2k), (tX10 p0_1k)] : List (List (ClassId × FieldType)))) s := vK_perm (vK_fb hK) (bP (List.Perm.refl _))
      obtain rfl : r11 = (o_10.1) := hw
      refine lv_istore (lv' := [(7, .int (o_10.1)), (6, .int (p0_1w 0 3)), (4, .long (p0_1l 0 5)), (1, .int (p0_2w 0 7)), (0, .ref (p0a 0))]) hx hb dX7_readStatement_195 hl (by decide) rfl (fun ls hl => ?_)
      refine lv_aload_n hx hb dX7_readStatement_197 rfl (lv_at hl 4 rfl) ?_
      refine lv_iconst (v := 0) hx hb dX7_readStatement_198 (by decide) ?_
      obtain ⟨o_12, hc_12, hrun⟩ := bnd9 hrun
      have hPx : va_P (dC, dI) cls ((List.flatten ([(oX7 (p0a 0) p0a p0k (o_10.2) p0l), (oX6 (p0a 3) p0_2a p0_2k p0_2w p0_2l), (oX10 (p0a 2) p0_1a p0_1k (o_9.2.1) (o_9.2.2))] : List va_W)) ++ (List.flatten ([] : List va_W))) H := vP_fa (vP_perm hP (bP (List.Perm.refl _)))
      have hDx : va_D A ((List.flatten ([(oX7 (p0a 0) p0a p0k (o_10.2) p0l), (oX6 (p0a 3) p0_2a p0_2k p0_2w p0_2l), (oX10 (p0a 2) p0_1a p0_1k (o_9.2.1) (o_9.2.2))] : List va_W)) ++ (List.flatten ([] : List va_W))) := vD_fa (vD_perm hD (bP (List.Perm.refl _)))
      have hKx : va_K (dC, dI) cls ((List.flatten ([(tX7 p0k), (tX6 p0_2k), (tX10 p0_1k)] : List (List (ClassId × FieldType)))) ++ (List.flatten ([] : List (List (ClassId × FieldType))))) s := vK_fa (vK_perm hK (bP (List.Perm.refl _)))
      have hPc := vP_l hPx
      have hDc := vD_l hDx
      have hKc := vK_l hKx
      have hFc := vfree hDx hS hA
      refine va_calli (va_runV (As := [.int 0]) (rest := []) ⟨hx, hb, hml, hown, hts⟩ (hkk_readTest dC dI (p0a := p0a) (p0k := p0k) (p0w := (o_10.2)) (p0l := p0l) (p1 := 0) (aK := aK) (aV := aV) (p0_2a := p0_2a) (p0_2k := p0_2k) (p0_2w := p0_2w) (p0_2l := p0_2l) (p0_1a := p0_1a) (p0_1k := p0_1k) (p0_1w := (o_9.2.1)) (p0_1l := (o_9.2.2)) (sz := _) (o := o_12) (hrun := hc_12)) (cwV 1 hts (gi_V qw1410 qw1411 qw1412 qw65 (gi_z qw1409)) rfl rfl rfl (by decide +kernel) ⟨rmF9, rmL9 (n := 27) (Nat.le_of_ble_eq_true rfl)⟩) ⟨PRE.blind, va_recv hKc hPc (ci := 1) (q0 := 0) rfl rfl, PRE.of (ENV.add hE st9_m hro_st) hS hFc hPc hKc hDc⟩ rfl rfl hl.1 rfl (lv_room (Nat.le_of_ble_eq_true rfl)) dX7_readStatement_199 ⟨(Nat.le_of_ble_eq_true rfl), (Nat.le_of_ble_eq_true rfl)⟩) hS (fun q _ h => hFc q h) hFc (fun r13 u t H locs ht hvm hw hB hz1 hk1 hS => ?_)
      obtain ⟨b1, b2, b3⟩ := hB
      rw [ht] at b1
      obtain ⟨hP, hD, hK⟩ := JOINC (wc := (List.flatten ([(oX7 (p0a 0) p0a p0k (o_10.2) p0l), (oX6 (p0a 3) p0_2a p0_2k p0_2w p0_2l), (oX10 (p0a 2) p0_1a p0_1k (o_9.2.1) (o_9.2.2))] : List va_W))) (wr := (List.flatten ([] : List va_W))) (w1 := (List.flatten ([(oX7 (p0a 0) p0a p0k (o_12.2.1) (o_12.2.2.1)), (oX6 (p0a 3) p0_2a p0_2k (o_12.2.2.2.1) p0_2l), (oX10 (p0a 2) p0_1a p0_1k (o_12.2.2.2.2.1) (o_12.2.2.2.2.2))] : List va_W))) (t1 := (List.flatten ([(tX7 p0k), (tX6 p0_2k), (tX10 p0_1k)] : List (List (ClassId × FieldType))))) hPx hDx hKx hk1 hFc b1 (va_K.moved hvm.symm b2) b3
      have hP : va_P (dC, dI) cls (List.flatten ([(oX7 (p0a 0) p0a p0k (o_12.2.1) (o_12.2.2.1)), (oX6 (p0a 3) p0_2a p0_2k (o_12.2.2.2.1) p0_2l), (oX10 (p0a 2) p0_1a p0_1k (o_12.2.2.2.2.1) (o_12.2.2.2.2.2))] : List va_W)) H := vP_perm (vP_fb hP) (bP (List.Perm.refl _))
      have hD : va_D A (List.flatten ([(oX7 (p0a 0) p0a p0k (o_12.2.1) (o_12.2.2.1)), (oX6 (p0a 3) p0_2a p0_2k (o_12.2.2.2.1) p0_2l), (oX10 (p0a 2) p0_1a p0_1k (o_12.2.2.2.2.1) (o_12.2.2.2.2.2))] : List va_W)) := vD_perm (vD_fb hD) (bP (List.Perm.refl _))
      have hK : va_K (dC, dI) cls (List.flatten ([(tX7 p0k), (tX6 p0_2k), (tX10 p0_1k)] : List (List (ClassId × FieldType)))) s := vK_perm (vK_fb hK) (bP (List.Perm.refl _))
      obtain rfl : r13 = (o_12.1) := hw
      refine lv_pop hx hb dX7_readStatement_202 rfl ?_
      refine lv_aload_n hx hb dX7_readStatement_203 rfl (lv_at hl 4 rfl) ?_
      refine va_get (D := (dC, dI)) (ci := 1) (v := .ref (p0a 3)) (C := RX7) (T := TX7) (N := 18) hx hb hts i_X7 hown hK hP 0 rfl rfl 2 (by decide) (hts _ qw26) (fun _ h9 => h9) rfl dX7_readStatement_204 ?_
      refine lv_bipush (v := 31) hx hb dX7_readStatement_207 (by decide) ?_
      refine lv_iload hx hb dX7_readStatement_209 (lv_at hl 0 rfl) ?_
      refine lv_iconst (v := 0) hx hb dX7_readStatement_211 (by decide) ?_
      obtain ⟨o_14, hc_14, hrun⟩ := bnd9 hrun
      have hPx : va_P (dC, dI) cls ((List.flatten ([(oX6 (p0a 3) p0_2a p0_2k (o_12.2.2.2.1) p0_2l)] : List va_W)) ++ (List.flatten ([(oX7 (p0a 0) p0a p0k (o_12.2.1) (o_12.2.2.1)), (oX10 (p0a 2) p0_1a p0_1k (o_12.2.2.2.2.1) (o_12.2.2.2.2.2))] : List va_W))) H := vP_fa (vP_perm hP (bP ((((List.Perm.refl _)).cons _).trans (List.Perm.swap _ _ _))))
      have hDx : va_D A ((List.flatten ([(oX6 (p0a 3) p0_2a p0_2k (o_12.2.2.2.1) p0_2l)] : List va_W)) ++ (List.flatten ([(oX7 (p0a 0) p0a p0k (o_12.2.1) (o_12.2.2.1)), (oX10 (p0a 2) p0_1a p0_1k (o_12.2.2.2.2.1) (o_12.2.2.2.2.2))] : List va_W))) := vD_fa (vD_perm hD (bP ((((List.Perm.refl _)).cons _).trans (List.Perm.swap _ _ _))))
      have hKx : va_K (dC, dI) cls ((List.flatten ([(tX6 p0_2k)] : List (List (ClassId × FieldType)))) ++ (List.flatten ([(tX7 p0k), (tX10 p0_1k)] : List (List (ClassId × FieldType))))) s := vK_fa (vK_perm hK (bP ((((List.Perm.refl _)).cons _).trans (List.Perm.swap _ _ _))))
      have hPc := vP_l hPx
      have hDc := vD_l hDx
      have hKc := vK_l hKx
      have hFc := vfree hDx hS hA
      refine va_callv (va_runV (As := [.int 31, .int (o_10.1), .int 0]) (rest := []) ⟨hx, hb, hml, hown, hts⟩ (kX6_emit l dC dI (p0a := (st0 (p0a 3) p0_2a)) (p0k := p0_2k) (p0w := (o_12.2.2.2.1)) (p0l := p0_2l) (p1 := 31) (p2 := (o_10.1)) (p3 := 0) (sz := _) (o := o_14) (hrun := hc_14)) (cwV 3 hts (gi_V qw42 qw43 qw44 qw33 (gi_z qw41)) rfl rfl rfl (by decide +kernel) ⟨rmF (Nat.le_of_ble_eq_true rfl), rmL (Nat.le_of_ble_eq_true rfl)⟩) ⟨PRE.blind, va_recv hKc hPc (ci := 2) (q0 := 0) rfl rfl, PRE.of hE hS hFc hPc hKc hDc⟩ rfl rfl hl.1 rfl (lv_room (Nat.le_of_ble_eq_true rfl)) dX7_readStatement_212 ⟨(Nat.le_of_ble_eq_true rfl), (Nat.le_of_ble_eq_true rfl)⟩) hS (fun q _ h => hFc q h) hFc (fun u t H locs ht hvm hw hB hz1 hk1 hS => ?_)
      obtain ⟨b1, b2, b3⟩ := hB
      rw [ht] at b1
      obtain ⟨hP, hD, hK⟩ := JOINC (wc := (List.flatten ([(oX6 (p0a 3) p0_2a p0_2k (o_12.2.2.2.1) p0_2l)] : List va_W))) (wr := (List.flatten ([(oX7 (p0a 0) p0a p0k (o_12.2.1) (o_12.2.2.1)), (oX10 (p0a 2) p0_1a p0_1k (o_12.2.2.2.2.1) (o_12.2.2.2.2.2))] : List va_W))) (w1 := (List.flatten ([(oX6 (p0a 3) p0_2a p0_2k o_14 p0_2l)] : List va_W))) (t1 := (List.flatten ([(tX6 p0_2k)] : List (List (ClassId × FieldType))))) hPx hDx hKx hk1 hFc b1 (va_K.moved hvm.symm b2) b3
      have hP : va_P (dC, dI) cls (List.flatten ([(oX7 (p0a 0) p0a p0k (o_12.2.1) (o_12.2.2.1)), (oX6 (p0a 3) p0_2a p0_2k o_14 p0_2l), (oX10 (p0a 2) p0_1a p0_1k (o_12.2.2.2.2.1) (o_12.2.2.2.2.2))] : List va_W)) H := vP_perm (vP_fb hP) (bP ((((List.Perm.refl _)).cons _).trans (List.Perm.swap _ _ _)))
      have hD : va_D A (List.flatten ([(oX7 (p0a 0) p0a p0k (o_12.2.1) (o_12.2.2.1)), (oX6 (p0a 3) p0_2a p0_2k o_14 p0_2l), (oX10 (p0a 2) p0_1a p0_1k (o_12.2.2.2.2.1) (o_12.2.2.2.2.2))] : List va_W)) := vD_perm (vD_fb hD) (bP ((((List.Perm.refl _)).cons _).trans (List.Perm.swap _ _ _)))
      have hK : va_K (dC, dI) cls (List.flatten ([(tX7 p0k), (tX6 p0_2k), (tX10 p0_1k)] : List (List (ClassId × FieldType)))) s := vK_perm (vK_fb hK) (bP ((((List.Perm.refl _)).cons _).trans (List.Perm.swap _ _ _)))
      exact J215 (o_12.2.1) (o_12.2.2.1) o_14 (o_12.2.2.2.2.1) (o_12.2.2.2.2.2) _ _ _ hrun hP hD hK hS (lv_sub hl [4, 3] rfl)
  rcases br9 hrun with ⟨hc15, hrun⟩ | ⟨hc15, hrun⟩
  · refine lv_lookup (off := 305) (tgt := 320) hx hb dX7_readStatement_15 (by decide) (by rw [hc15]; decide) (by decide) ?_
    refine lv_aload_n hx hb dX7_readStatement_320 rfl (lv_at hl 1 rfl) ?_
    refine lv_aload_n hx hb dX7_readStatement_321 rfl (lv_at hl 1 rfl) ?_
    refine va_get (D := (dC, dI)) (ci := 1) (v := .ref (p0a 12)) (C := RX7) (T := TX7) (N := 18) hx hb hts i_X7 hown hK hP 0 rfl rfl 11 (by decide) (hts _ qw1289) (fun _ h9 => h9) rfl dX7_readStatement_322 ?_
    obtain ⟨o_16, hc_16, hrun⟩ := bnd9 hrun
    have hPx : va_P (dC, dI) cls ((List.flatten ([(oX7 (p0a 0) p0a p0k p0w p0l), (oX10 (p0a 2) p0_1a p0_1k p0_1w p0_1l), (oX6 (p0a 3) p0_2a p0_2k p0_2w p0_2l)] : List va_W)) ++ (List.flatten ([] : List va_W))) H := vP_fa (vP_perm hP (bP (((List.Perm.refl _)).trans ((((((List.Perm.refl _)).cons _).trans (List.Perm.swap _ _ _))).cons _))))
    have hDx : va_D A ((List.flatten ([(oX7 (p0a 0) p0a p0k p0w p0l), (oX10 (p0a 2) p0_1a p0_1k p0_1w p0_1l), (oX6 (p0a 3) p0_2a p0_2k p0_2w p0_2l)] : List va_W)) ++ (List.flatten ([] : List va_W))) := vD_fa (vD_perm hD (bP (((List.Perm.refl _)).trans ((((((List.Perm.refl _)).cons _).trans (List.Perm.swap _ _ _))).cons _))))
    have hKx : va_K (dC, dI) cls ((List.flatten ([(tX7 p0k), (tX10 p0_1k), (tX6 p0_2k)] : List (List (ClassId × FieldType)))) ++ (List.flatten ([] : List (List (ClassId × FieldType))))) s := vK_fa (vK_perm hK (bP (((List.Perm.refl _)).trans ((((((List.Perm.refl _)).cons _).trans (List.Perm.swap _ _ _))).cons _))))
    have hPc := vP_l hPx
    have hDc := vD_l hDx
    have hKc := vK_l hKx
    have hFc := vfree hDx hS hA
    refine va_callv (va_runV (As := [.ref (p0a 12)]) (rest := []) ⟨hx, hb, hml, hown, hts⟩ (kX7_readLeave_a1_p0_11 l dC dI (p0a := p0a) (p0k := p0k) (p0w := p0w) (p0l := p0l) (aK := aK) (aV := aV) (p0_1a := p0_1a) (p0_1k := p0_1k) (p0_1w := p0_1w) (p0_1l := p0_1l) (p0_2a := p0_2a) (p0_2k := p0_2k) (p0_2w := p0_2w) (p0_2l := p0_2l) (sz := _) (o := o_16) (hrun := hc_16)) (cwV 1 hts (gi_V qw1414 qw1415 qw1416 qw65 (gi_z qw1413)) rfl rfl rfl (by decide +kernel) ⟨rmF (Nat.le_of_ble_eq_true rfl), rmL (Nat.le_of_ble_eq_true rfl)⟩) ⟨PRE.blind, va_recv hKc hPc (ci := 1) (q0 := 0) rfl rfl, PRE.of (ENV.add hE st9_m hro_st) hS hFc hPc hKc hDc⟩ rfl rfl hl.1 rfl (lv_room (Nat.le_of_ble_eq_true rfl)) dX7_readStatement_325 ⟨(Nat.le_of_ble_eq_true rfl), (Nat.le_of_ble_eq_true rfl)⟩) hS (fun q _ h => hFc q h) hFc (fun u t H locs ht hvm hw hB hz1 hk1 hS => ?_)
    obtain ⟨b1, b2, b3⟩ := hB
    rw [ht] at b1
    obtain ⟨hP, hD, hK⟩ := JOINC (wc := (List.flatten ([(oX7 (p0a 0) p0a p0k p0w p0l), (oX10 (p0a 2) p0_1a p0_1k p0_1w p0_1l), (oX6 (p0a 3) p0_2a p0_2k p0_2w p0_2l)] : List va_W))) (wr := (List.flatten ([] : List va_W))) (w1 := (List.flatten ([(oX7 (p0a 0) p0a p0k (o_16.1) p0l), (oX10 (p0a 2) p0_1a p0_1k (o_16.2.1) (o_16.2.2.1)), (oX6 (p0a 3) p0_2a p0_2k (o_16.2.2.2) p0_2l)] : List va_W))) (t1 := (List.flatten ([(tX7 p0k), (tX10 p0_1k), (tX6 p0_2k)] : List (List (ClassId × FieldType))))) hPx hDx hKx hk1 hFc b1 (va_K.moved hvm.symm b2) b3
    have hP : va_P (dC, dI) cls (List.flatten ([(oX7 (p0a 0) p0a p0k (o_16.1) p0l), (oX6 (p0a 3) p0_2a p0_2k (o_16.2.2.2) p0_2l), (oX10 (p0a 2) p0_1a p0_1k (o_16.2.1) (o_16.2.2.1))] : List va_W)) H := vP_perm (vP_fb hP) (bP (((List.Perm.refl _)).trans ((((((List.Perm.refl _)).cons _).trans (List.Perm.swap _ _ _))).cons _)))
    have hD : va_D A (List.flatten ([(oX7 (p0a 0) p0a p0k (o_16.1) p0l), (oX6 (p0a 3) p0_2a p0_2k (o_16.2.2.2) p0_2l), (oX10 (p0a 2) p0_1a p0_1k (o_16.2.1) (o_16.2.2.1))] : List va_W)) := vD_perm (vD_fb hD) (bP (((List.Perm.refl _)).trans ((((((List.Perm.refl _)).cons _).trans (List.Perm.swap _ _ _))).cons _)))
    have hK : va_K (dC, dI) cls (List.flatten ([(tX7 p0k), (tX6 p0_2k), (tX10 p0_1k)] : List (List (ClassId × FieldType)))) s := vK_perm (vK_fb hK) (bP (((List.Perm.refl _)).trans ((((((List.Perm.refl _)).cons _).trans (List.Perm.swap _ _ _))).cons _)))
    refine lv_goto (tgt := 346) hx hb dX7_readStatement_328 (by decide) ?_
    exact J346 (o_16.1) p0l (o_16.2.2.2) (o_16.2.1) (o_16.2.2.1) _ _ _ hrun hP hD hK hS (lv_sub hl [1, 0] rfl)
  rcases br9 hrun with ⟨hc17, hrun⟩ | ⟨hc17, hrun⟩
  · refine lv_lookup (off := 316) (tgt := 331) hx hb dX7_readStatement_15 (by decide) (by rw [hc17]; decide) (by decide) ?_
    refine lv_aload_n hx hb dX7_readStatement_331 rfl (lv_at hl 1 rfl) ?_
    refine lv_aload_n hx hb dX7_readStatement_332 rfl (lv_at hl 1 rfl) ?_
    refine va_get (D := (dC, dI)) (ci := 1) (v := .ref (p0a 11)) (C := RX7) (T := TX7) (N := 18) hx hb hts i_X7 hown hK hP 0 rfl rfl 10 (by decide) (hts _ qw1288) (fun _ h9 => h9) rfl dX7_readStatement_333 ?_
    obtain ⟨o_18, hc_18, hrun⟩ := bnd9 hrun
    have hPx : va_P (dC, dI) cls ((List.flatten ([(oX7 (p0a 0) p0a p0k p0w p0l), (oX10 (p0a 2) p0_1a p0_1k p0_1w p0_1l), (oX6 (p0a 3) p0_2a p0_2k p0_2w p0_2l)] : List va_W)) ++ (List.flatten ([] : List va_W))) H := vP_fa (vP_perm hP (bP (((List.Perm.refl _)).trans ((((((List.Perm.refl _)).cons _).trans (List.Perm.swap _ _ _))).cons _))))
    have hDx : va_D A ((List.flatten ([(oX7 (p0a 0) p0a p0k p0w p0l), (oX10 (p0a 2) p0_1a p0_1k p0_1w p0_1l), (oX6 (p0a 3) p0_2a p0_2k p0_2w p0_2l)] : List va_W)) ++ (List.flatten ([] : List va_W))) := vD_fa (vD_perm hD (bP (((List.Perm.refl _)).trans ((((((List.Perm.refl _)).cons _).trans (List.Perm.swap _ _ _))).cons _))))
    have hKx : va_K (dC, dI) cls ((List.flatten ([(tX7 p0k), (tX10 p0_1k), (tX6 p0_2k)] : List (List (ClassId × FieldType)))) ++ (List.flatten ([] : List (List (ClassId × FieldType))))) s := vK_fa (vK_perm hK (bP (((List.Perm.refl _)).trans ((((((List.Perm.refl _)).cons _).trans (List.Perm.swap _ _ _))).cons _))))
    have hPc := vP_l hPx
    have hDc := vD_l hDx
    have hKc := vK_l hKx
    have hFc := vfree hDx hS hA
    refine va_callv (va_runV (As := [.ref (p0a 11)]) (rest := []) ⟨hx, hb, hml, hown, hts⟩ (kX7_readLeave_a1_p0_10 l dC dI (p0a := p0a) (p0k := p0k) (p0w := p0w) (p0l := p0l) (aK := aK) (aV := aV) (p0_1a := p0_1a) (p0_1k := p0_1k) (p0_1w := p0_1w) (p0_1l := p0_1l) (p0_2a := p0_2a) (p0_2k := p0_2k) (p0_2w := p0_2w) (p0_2l := p0_2l) (sz := _) (o := o_18) (hrun := hc_18)) (cwV 1 hts (gi_V qw1414 qw1415 qw1416 qw65 (gi_z qw1413)) rfl rfl rfl (by decide +kernel) ⟨rmF (Nat.le_of_ble_eq_true rfl), rmL (Nat.le_of_ble_eq_true rfl)⟩) ⟨PRE.blind, va_recv hKc hPc (ci := 1) (q0 := 0) rfl rfl, PRE.of (ENV.add hE st9_m hro_st) hS hFc hPc hKc hDc⟩ rfl rfl hl.1 rfl (lv_room (Nat.le_of_ble_eq_true rfl)) dX7_readStatement_336 ⟨(Nat.le_of_ble_eq_true rfl), (Nat.le_of_ble_eq_true rfl)⟩) hS (fun q _ h => hFc q h) hFc (fun u t H locs ht hvm hw hB hz1 hk1 hS => ?_)
    obtain ⟨b1, b2, b3⟩ := hB
    rw [ht] at b1
    obtain ⟨hP, hD, hK⟩ := JOINC (wc := (List.flatten ([(oX7 (p0a 0) p0a p0k p0w p0l), (oX10 (p0a 2) p0_1a p0_1k p0_1w p0_1l), (oX6 (p0a 3) p0_2a p0_2k p0_2w p0_2l)] : List va_W))) (wr := (List.flatten ([] : List va_W))) (w1 := (List.flatten ([(oX7 (p0a 0) p0a p0k (o_18.1) p0l), (oX10 (p0a 2) p0_1a p0_1k (o_18.2.1) (o_18.2.2.1)), (oX6 (p0a 3) p0_2a p0_2k (o_18.2.2.2) p0_2l)] : List va_W))) (t1 := (List.flatten ([(tX7 p0k), (tX10 p0_1k), (tX6 p0_2k)] : List (List (ClassId × FieldType))))) hPx hDx hKx hk1 hFc b1 (va_K.moved hvm.symm b2) b3
    have hP : va_P (dC, dI) cls (List.flatten ([(oX7 (p0a 0) p0a p0k (o_18.1) p0l), (oX6 (p0a 3) p0_2a p0_2k (o_18.2.2.2) p0_2l), (oX10 (p0a 2) p0_1a p0_1k (o_18.2.1) (o_18.2.2.1))] : List va_W)) H := vP_perm (vP_fb hP) (bP (((List.Perm.refl _)).trans ((((((List.Perm.refl _)).cons _).trans (List.Perm.swap _ _ _))).cons _)))
    have hD : va_D A (List.flatten ([(oX7 (p0a 0) p0a p0k (o_18.1) p0l), (oX6 (p0a 3) p0_2a p0_2k (o_18.2.2.2) p0_2l), (oX10 (p0a 2) p0_1a p0_1k (o_18.2.1) (o_18.2.2.1))] : List va_W)) := vD_perm (vD_fb hD) (bP (((List.Perm.refl _)).trans ((((((List.Perm.refl _)).cons _).trans (List.Perm.swap _ _ _))).cons _)))
    have hK : va_K (dC, dI) cls (List.flatten ([(tX7 p0k), (tX6 p0_2k), (tX10 p0_1k)] : List (List (ClassId × FieldType)))) s := vK_perm (vK_fb hK) (bP (((List.Perm.refl _)).trans ((((((List.Perm.refl _)).cons _).trans (List.Perm.swap _ _ _))).cons _)))
    refine lv_goto (tgt := 346) hx hb dX7_readStatement_339 (by decide) ?_
    exact J346 (o_18.1) p0l (o_18.2.2.2) (o_18.2.1) (o_18.2.2.1) _ _ _ hrun hP hD hK hS (lv_sub hl [1, 0] rfl)
  rcases br9 hrun with ⟨hc19, hrun⟩ | ⟨hc19, hrun⟩
  · refine lv_lookup (off := 291) (tgt := 306) hx hb dX7_readStatement_15 (by decide) (by rw [hc19]; decide) (by decide) ?_
    refine lv_aload_n hx hb dX7_readStatement_306 rfl (lv_at hl 1 rfl) ?_
    obtain ⟨o_20, hc_20, hrun⟩ := bnd9 hrun
    have hPx : va_P (dC, dI) cls ((List.flatten ([(oX7 (p0a 0) p0a p0k p0w p0l), (oX6 (p0a 3) p0_2a p0_2k p0_2w p0_2l), (oX10 (p0a 2) p0_1a p0_1k p0_1w p0_1l)] : List va_W)) ++ (List.flatten ([] : List va_W))) H := vP_fa (vP_perm hP (bP (List.Perm.refl _)))
    have hDx : va_D A ((List.flatten ([(oX7 (p0a 0) p0a p0k p0w p0l), (oX6 (p0a 3) p0_2a p0_2k p0_2w p0_2l), (oX10 (p0a 2) p0_1a p0_1k p0_1w p0_1l)] : List va_W)) ++ (List.flatten ([] : List va_W))) := vD_fa (vD_perm hD (bP (List.Perm.refl _)))
    have hKx : va_K (dC, dI) cls ((List.flatten ([(tX7 p0k), (tX6 p0_2k), (tX10 p0_1k)] : List (List (ClassId × FieldType)))) ++ (List.flatten ([] : List (List (ClassId × FieldType))))) s := vK_fa (vK_perm hK (bP (List.Perm.refl _)))
    have hPc := vP_l hPx
    have hDc := vD_l hDx
    have hKc := vK_l hKx
    have hFc := vfree hDx hS hA
    refine va_callv (va_runV (As := []) (rest := []) ⟨hx, hb, hml, hown, hts⟩ (hkk_readIf dC dI (p0a := p0a) (p0k := p0k) (p0w := p0w) (p0l := p0l) (aK := aK) (aV := aV) (p0_2a := p0_2a) (p0_2k := p0_2k) (p0_2w := p0_2w) (p0_2l := p0_2l) (p0_1a := p0_1a) (p0_1k := p0_1k) (p0_1w := p0_1w) (p0_1l := p0_1l) (sz := _) (o := o_20) (hrun := hc_20)) (cwV 0 hts (gi_V qw1418 qw1419 qw1420 qw65 (gi_z qw1417)) rfl rfl rfl (by decide +kernel) ⟨rmF9, rmL9 (n := 22) (Nat.le_of_ble_eq_true rfl)⟩) ⟨PRE.blind, va_recv hKc hPc (ci := 1) (q0 := 0) rfl rfl, PRE.of (ENV.add hE st9_m hro_st) hS hFc hPc hKc hDc⟩ rfl rfl hl.1 rfl (lv_room (Nat.le_of_ble_eq_true rfl)) dX7_readStatement_307 ⟨(Nat.le_of_ble_eq_true rfl), (Nat.le_of_ble_eq_true rfl)⟩) hS (fun q _ h => hFc q h) hFc (fun u t H locs ht hvm hw hB hz1 hk1 hS => ?_)
    obtain ⟨b1, b2, b3⟩ := hB
    rw [ht] at b1
    obtain ⟨hP, hD, hK⟩ := JOINC (wc := (List.flatten ([(oX7 (p0a 0) p0a p0k p0w p0l), (oX6 (p0a 3) p0_2a p0_2k p0_2w p0_2l), (oX10 (p0a 2) p0_1a p0_1k p0_1w p0_1l)] : List va_W))) (wr := (List.flatten ([] : List va_W))) (w1 := (List.flatten ([(oX7 (p0a 0) p0a p0k (o_20.1) (o_20.2.1)), (oX6 (p0a 3) p0_2a p0_2k (o_20.2.2.1) p0_2l), (oX10 (p0a 2) p0_1a p0_1k (o_20.2.2.2.1) (o_20.2.2.2.2))] : List va_W))) (t1 := (List.flatten ([(tX7 p0k), (tX6 p0_2k), (tX10 p0_1k)] : List (List (ClassId × FieldType))))) hPx hDx hKx hk1 hFc b1 (va_K.moved hvm.symm b2) b3
    have hP : va_P (dC, dI) cls (List.flatten ([(oX7 (p0a 0) p0a p0k (o_20.1) (o_20.2.1)), (oX6 (p0a 3) p0_2a p0_2k (o_20.2.2.1) p0_2l), (oX10 (p0a 2) p0_1a p0_1k (o_20.2.2.2.1) (o_20.2.2.2.2))] : List va_W)) H := vP_perm (vP_fb hP) (bP (List.Perm.refl _))
    have hD : va_D A (List.flatten ([(oX7 (p0a 0) p0a p0k (o_20.1) (o_20.2.1)), (oX6 (p0a 3) p0_2a p0_2k (o_20.2.2.1) p0_2l), (oX10 (p0a 2) p0_1a p0_1k (o_20.2.2.2.1) (o_20.2.2.2.2))] : List va_W)) := vD_perm (vD_fb hD) (bP (List.Perm.refl _))
    have hK : va_K (dC, dI) cls (List.flatten ([(tX7 p0k), (tX6 p0_2k), (tX10 p0_1k)] : List (List (ClassId × FieldType)))) s := vK_perm (vK_fb hK) (bP (List.Perm.refl _))
    refine lv_goto (tgt := 346) hx hb dX7_readStatement_310 (by decide) ?_
    exact J346 (o_20.1) (o_20.2.1) (o_20.2.2.1) (o_20.2.2.2.1) (o_20.2.2.2.2) _ _ _ hrun hP hD hK hS (lv_sub hl [1, 0] rfl)
  rcases br9 hrun with ⟨hc21, hrun⟩ | ⟨hc21, hrun⟩
  · refine lv_lookup (off := 259) (tgt := 274) hx hb dX7_readStatement_15 (by decide) (by rw [hc21]; decide) (by decide) ?_
    refine lv_aload_n hx hb dX7_readStatement_274 rfl (lv_at hl 1 rfl) ?_
    refine lv_bipush (v := 9) hx hb dX7_readStatement_275 (by decide) ?_
    obtain ⟨o_22, hc_22, hrun⟩ := bnd9 hrun
    have hPx : va_P (dC, dI) cls ((List.flatten ([(oX7 (p0a 0) p0a p0k p0w p0l), (oX10 (p0a 2) p0_1a p0_1k p0_1w p0_1l)] : List va_W)) ++ (List.flatten ([(oX6 (p0a 3) p0_2a p0_2k p0_2w p0_2l)] : List va_W))) H := vP_fa (vP_perm hP (bP (((List.Perm.refl _)).trans ((((((List.Perm.refl _)).cons _).trans (List.Perm.swap _ _ _))).cons _))))
    have hDx : va_D A ((List.flatten ([(oX7 (p0a 0) p0a p0k p0w p0l), (oX10 (p0a 2) p0_1a p0_1k p0_1w p0_1l)] : List va_W)) ++ (List.flatten ([(oX6 (p0a 3) p0_2a p0_2k p0_2w p0_2l)] : List va_W))) := vD_fa (vD_perm hD (bP (((List.Perm.refl _)).trans ((((((List.Perm.refl _)).cons _).trans (List.Perm.swap _ _ _))).cons _))))
    have hKx : va_K (dC, dI) cls ((List.flatten ([(tX7 p0k), (tX10 p0_1k)] : List (List (ClassId × FieldType)))) ++ (List.flatten ([(tX6 p0_2k)] : List (List (ClassId × FieldType))))) s := vK_fa (vK_perm hK (bP (((List.Perm.refl _)).trans ((((((List.Perm.refl _)).cons _).trans (List.Perm.swap _ _ _))).cons _))))
    have hPc := vP_l hPx
    have hDc := vD_l hDx
    have hKc := vK_l hKx
    have hFc := vfree hDx hS hA
    refine va_callv (va_runV (As := [.int 9]) (rest := []) ⟨hx, hb, hml, hown, hts⟩ (kX7_expect l dC dI (p0a := p0a) (p0k := p0k) (p0w := p0w) (p0l := p0l) (p1 := 9) (aK := aK) (aV := aV) (p0_1a := p0_1a) (p0_1k := p0_1k) (p0_1w := p0_1w) (p0_1l := p0_1l) (sz := _) (o := o_22) (hrun := hc_22)) (cwV 1 hts (gi_V qw1386 qw1387 qw1388 qw65 (gi_z qw1385)) rfl rfl rfl (by decide +kernel) ⟨rmF (Nat.le_of_ble_eq_true rfl), rmL (Nat.le_of_ble_eq_true rfl)⟩) ⟨PRE.blind, va_recv hKc hPc (ci := 1) (q0 := 0) rfl rfl, PRE.of (ENV.add hE st9_m hro_st) hS hFc hPc hKc hDc⟩ rfl rfl hl.1 rfl (lv_room (Nat.le_of_ble_eq_true rfl)) dX7_readStatement_277 ⟨(Nat.le_of_ble_eq_true rfl), (Nat.le_of_ble_eq_true rfl)⟩) hS (fun q _ h => hFc q h) hFc (fun u t H locs ht hvm hw hB hz1 hk1 hS => ?_)
    obtain ⟨b1, b2, b3⟩ := hB
    rw [ht] at b1
    obtain ⟨hP, hD, hK⟩ := JOINC (wc := (List.flatten ([(oX7 (p0a 0) p0a p0k p0w p0l), (oX10 (p0a 2) p0_1a p0_1k p0_1w p0_1l)] : List va_W))) (wr := (List.flatten ([(oX6 (p0a 3) p0_2a p0_2k p0_2w p0_2l)] : List va_W))) (w1 := (List.flatten ([(oX7 (p0a 0) p0a p0k (o_22.1) p0l), (oX10 (p0a 2) p0_1a p0_1k (o_22.2.1) (o_22.2.2))] : List va_W))) (t1 := (List.flatten ([(tX7 p0k), (tX10 p0_1k)] : List (List (ClassId × FieldType))))) hPx hDx hKx hk1 hFc b1 (va_K.moved hvm.symm b2) b3
    have hP : va_P (dC, dI) cls (List.flatten ([(oX7 (p0a 0) p0a p0k (o_22.1) p0l), (oX6 (p0a 3) p0_2a p0_2k p0_2w p0_2l), (oX10 (p0a 2) p0_1a p0_1k (o_22.2.1) (o_22.2.2))] : List va_W)) H := vP_perm (vP_fb hP) (bP (((List.Perm.refl _)).trans ((((((List.Perm.refl _)).cons _).trans (List.Perm.swap _ _ _))).cons _)))
    have hD : va_D A (List.flatten ([(oX7 (p0a 0) p0a p0k (o_22.1) p0l), (oX6 (p0a 3) p0_2a p0_2k p0_2w p0_2l), (oX10 (p0a 2) p0_1a p0_1k (o_22.2.1) (o_22.2.2))] : List va_W)) := vD_perm (vD_fb hD) (bP (((List.Perm.refl _)).trans ((((((List.Perm.refl _)).cons _).trans (List.Perm.swap _ _ _))).cons _)))
    have hK : va_K (dC, dI) cls (List.flatten ([(tX7 p0k), (tX6 p0_2k), (tX10 p0_1k)] : List (List (ClassId × FieldType)))) s := vK_perm (vK_fb hK) (bP (((List.Perm.refl _)).trans ((((((List.Perm.refl _)).cons _).trans (List.Perm.swap _ _ _))).cons _)))
    refine lv_aload_n hx hb dX7_readStatement_280 rfl (lv_at hl 1 rfl) ?_
    refine lv_iconst (v := 0) hx hb dX7_readStatement_281 (by decide) ?_
    obtain ⟨o_23, hc_23, hrun⟩ := bnd9 hrun
    have hPx : va_P (dC, dI) cls ((List.flatten ([(oX7 (p0a 0) p0a p0k (o_22.1) p0l), (oX6 (p0a 3) p0_2a p0_2k p0_2w p0_2l), (oX10 (p0a 2) p0_1a p0_1k (o_22.2.1) (o_22.2.2))] : List va_W)) ++ (List.flatten ([] : List va_W))) H := vP_fa (vP_perm hP (bP (List.Perm.refl _)))
    have hDx : va_D A ((List.flatten ([(oX7 (p0a 0) p0a p0k (o_22.1) p0l), (oX6 (p0a 3) p0_2a p0_2k p0_2w p0_2l), (oX10 (p0a 2) p0_1a p0_1k (o_22.2.1) (o_22.2.2))] : List va_W)) ++ (List.flatten ([] : List va_W))) := vD_fa (vD_perm hD (bP (List.Perm.refl _)))
    have hKx : va_K (dC, dI) cls ((List.flatten ([(tX7 p0k), (tX6 p0_2k), (tX10 p0_1k)] : List (List (ClassId × FieldType)))) ++ (List.flatten ([] : List (List (ClassId × FieldType))))) s := vK_fa (vK_perm hK (bP (List.Perm.refl _)))
    have hPc := vP_l hPx
    have hDc := vD_l hDx
    have hKc := vK_l hKx
    have hFc := vfree hDx hS hA
    refine va_calli (va_runV (As := [.int 0]) (rest := []) ⟨hx, hb, hml, hown, hts⟩ (hkk_readTest dC dI (p0a := p0a) (p0k := p0k) (p0w := (o_22.1)) (p0l := p0l) (p1 := 0) (aK := aK) (aV := aV) (p0_2a := p0_2a) (p0_2k := p0_2k) (p0_2w := p0_2w) (p0_2l := p0_2l) (p0_1a := p0_1a) (p0_1k := p0_1k) (p0_1w := (o_22.2.1)) (p0_1l := (o_22.2.2)) (sz := _) (o := o_23) (hrun := hc_23)) (cwV 1 hts (gi_V qw1410 qw1411 qw1412 qw65 (gi_z qw1409)) rfl rfl rfl (by decide +kernel) ⟨rmF9, rmL9 (n := 27) (Nat.le_of_ble_eq_true rfl)⟩) ⟨PRE.blind, va_recv hKc hPc (ci := 1) (q0 := 0) rfl rfl, PRE.of (ENV.add hE st9_m hro_st) hS hFc hPc hKc hDc⟩ rfl rfl hl.1 rfl (lv_room (Nat.le_of_ble_eq_true rfl)) dX7_readStatement_282 ⟨(Nat.le_of_ble_eq_true rfl), (Nat.le_of_ble_eq_true rfl)⟩) hS (fun q _ h => hFc q h) hFc (fun r24 u t H locs ht hvm hw hB hz1 hk1 hS => ?_)
    obtain ⟨b1, b2, b3⟩ := hB
    rw [ht] at b1
    obtain ⟨hP, hD, hK⟩ := JOINC (wc := (List.flatten ([(oX7 (p0a 0) p0a p0k (o_22.1) p0l), (oX6 (p0a 3) p0_2a p0_2k p0_2w p0_2l), (oX10 (p0a 2) p0_1a p0_1k (o_22.2.1) (o_22.2.2))] : List va_W))) (wr := (List.flatten ([] : List va_W))) (w1 := (List.flatten ([(oX7 (p0a 0) p0a p0k (o_23.2.1) (o_23.2.2.1)), (oX6 (p0a 3) p0_2a p0_2k (o_23.2.2.2.1) p0_2l), (oX10 (p0a 2) p0_1a p0_1k (o_23.2.2.2.2.1) (o_23.2.2.2.2.2))] : List va_W))) (t1 := (List.flatten ([(tX7 p0k), (tX6 p0_2k), (tX10 p0_1k)] : List (List (ClassId × FieldType))))) hPx hDx hKx hk1 hFc b1 (va_K.moved hvm.symm b2) b3
    have hP : va_P (dC, dI) cls (List.flatten ([(oX7 (p0a 0) p0a p0k (o_23.2.1) (o_23.2.2.1)), (oX6 (p0a 3) p0_2a p0_2k (o_23.2.2.2.1) p0_2l), (oX10 (p0a 2) p0_1a p0_1k (o_23.2.2.2.2.1) (o_23.2.2.2.2.2))] : List va_W)) H := vP_perm (vP_fb hP) (bP (List.Perm.refl _))
    have hD : va_D A (List.flatten ([(oX7 (p0a 0) p0a p0k (o_23.2.1) (o_23.2.2.1)), (oX6 (p0a 3) p0_2a p0_2k (o_23.2.2.2.1) p0_2l), (oX10 (p0a 2) p0_1a p0_1k (o_23.2.2.2.2.1) (o_23.2.2.2.2.2))] : List va_W)) := vD_perm (vD_fb hD) (bP (List.Perm.refl _))
    have hK : va_K (dC, dI) cls (List.flatten ([(tX7 p0k), (tX6 p0_2k), (tX10 p0_1k)] : List (List (ClassId × FieldType)))) s := vK_perm (vK_fb hK) (bP (List.Perm.refl _))
    obtain rfl : r24 = (o_23.1) := hw
    refine lv_pop hx hb dX7_readStatement_285 rfl ?_
    refine lv_aload_n hx hb dX7_readStatement_286 rfl (lv_at hl 1 rfl) ?_
    refine va_get (D := (dC, dI)) (ci := 1) (v := .ref (p0a 3)) (C := RX7) (T := TX7) (N := 18) hx hb hts i_X7 hown hK hP 0 rfl rfl 2 (by decide) (hts _ qw26) (fun _ h9 => h9) rfl dX7_readStatement_287 ?_
    refine lv_bipush (v := 24) hx hb dX7_readStatement_290 (by decide) ?_
    refine lv_iconst (v := 0) hx hb dX7_readStatement_292 (by decide) ?_
    refine lv_iconst (v := 0) hx hb dX7_readStatement_293 (by decide) ?_
    obtain ⟨o_25, hc_25, hrun⟩ := bnd9 hrun
    have hPx : va_P (dC, dI) cls ((List.flatten ([(oX6 (p0a 3) p0_2a p0_2k (o_23.2.2.2.1) p0_2l)] : List va_W)) ++ (List.flatten ([(oX7 (p0a 0) p0a p0k (o_23.2.1) (o_23.2.2.1)), (oX10 (p0a 2) p0_1a p0_1k (o_23.2.2.2.2.1) (o_23.2.2.2.2.2))] : List va_W))) H := vP_fa (vP_perm hP (bP ((((List.Perm.refl _)).cons _).trans (List.Perm.swap _ _ _))))
    have hDx : va_D A ((List.flatten ([(oX6 (p0a 3) p0_2a p0_2k (o_23.2.2.2.1) p0_2l)] : List va_W)) ++ (List.flatten ([(oX7 (p0a 0) p0a p0k (o_23.2.1) (o_23.2.2.1)), (oX10 (p0a 2) p0_1a p0_1k (o_23.2.2.2.2.1) (o_23.2.2.2.2.2))] : List va_W))) := vD_fa (vD_perm hD (bP ((((List.Perm.refl _)).cons _).trans (List.Perm.swap _ _ _))))
    have hKx : va_K (dC, dI) cls ((List.flatten ([(tX6 p0_2k)] : List (List (ClassId × FieldType)))) ++ (List.flatten ([(tX7 p0k), (tX10 p0_1k)] : List (List (ClassId × FieldType))))) s := vK_fa (vK_perm hK (bP ((((List.Perm.refl _)).cons _).trans (List.Perm.swap _ _ _))))
    have hPc := vP_l hPx
    have hDc := vD_l hDx
    have hKc := vK_l hKx
    have hFc := vfree hDx hS hA
    refine va_callv (va_runV (As := [.int 24, .int 0, .int 0]) (rest := []) ⟨hx, hb, hml, hown, hts⟩ (kX6_emit l dC dI (p0a := (st0 (p0a 3) p0_2a)) (p0k := p0_2k) (p0w := (o_23.2.2.2.1)) (p0l := p0_2l) (p1 := 24) (p2 := 0) (p3 := 0) (sz := _) (o := o_25) (hrun := hc_25)) (cwV 3 hts (gi_V qw42 qw43 qw44 qw33 (gi_z qw41)) rfl rfl rfl (by decide +kernel) ⟨rmF (Nat.le_of_ble_eq_true rfl), rmL (Nat.le_of_ble_eq_true rfl)⟩) ⟨PRE.blind, va_recv hKc hPc (ci := 2) (q0 := 0) rfl rfl, PRE.of hE hS hFc hPc hKc hDc⟩ rfl rfl hl.1 rfl (lv_room (Nat.le_of_ble_eq_true rfl)) dX7_readStatement_294 ⟨(Nat.le_of_ble_eq_true rfl), (Nat.le_of_ble_eq_true rfl)⟩) hS (fun q _ h => hFc q h) hFc (fun u t H locs ht hvm hw hB hz1 hk1 hS => ?_)
    obtain ⟨b1, b2, b3⟩ := hB
    rw [ht] at b1
    obtain ⟨hP, hD, hK⟩ := JOINC (wc := (List.flatten ([(oX6 (p0a 3) p0_2a p0_2k (o_23.2.2.2.1) p0_2l)] : List va_W))) (wr := (List.flatten ([(oX7 (p0a 0) p0a p0k (o_23.2.1) (o_23.2.2.1)), (oX10 (p0a 2) p0_1a p0_1k (o_23.2.2.2.2.1) (o_23.2.2.2.2.2))] : List va_W))) (w1 := (List.flatten ([(oX6 (p0a 3) p0_2a p0_2k o_25 p0_2l)] : List va_W))) (t1 := (List.flatten ([(tX6 p0_2k)] : List (List (ClassId × FieldType))))) hPx hDx hKx hk1 hFc b1 (va_K.moved hvm.symm b2) b3
    have hP : va_P (dC, dI) cls (List.flatten ([(oX7 (p0a 0) p0a p0k (o_23.2.1) (o_23.2.2.1)), (oX6 (p0a 3) p0_2a p0_2k o_25 p0_2l), (oX10 (p0a 2) p0_1a p0_1k (o_23.2.2.2.2.1) (o_23.2.2.2.2.2))] : List va_W)) H := vP_perm (vP_fb hP) (bP ((((List.Perm.refl _)).cons _).trans (List.Perm.swap _ _ _)))
    have hD : va_D A (List.flatten ([(oX7 (p0a 0) p0a p0k (o_23.2.1) (o_23.2.2.1)), (oX6 (p0a 3) p0_2a p0_2k o_25 p0_2l), (oX10 (p0a 2) p0_1a p0_1k (o_23.2.2.2.2.1) (o_23.2.2.2.2.2))] : List va_W)) := vD_perm (vD_fb hD) (bP ((((List.Perm.refl _)).cons _).trans (List.Perm.swap _ _ _)))
    have hK : va_K (dC, dI) cls (List.flatten ([(tX7 p0k), (tX6 p0_2k), (tX10 p0_1k)] : List (List (ClassId × FieldType)))) s := vK_perm (vK_fb hK) (bP ((((List.Perm.refl _)).cons _).trans (List.Perm.swap _ _ _)))
    refine lv_aload_n hx hb dX7_readStatement_297 rfl (lv_at hl 1 rfl) ?_
    refine lv_bipush (v := 59) hx hb dX7_readStatement_298 (by decide) ?_
    obtain ⟨o_26, hc_26, hrun⟩ := bnd9 hrun
    have hPx : va_P (dC, dI) cls ((List.flatten ([(oX7 (p0a 0) p0a p0k (o_23.2.1) (o_23.2.2.1)), (oX10 (p0a 2) p0_1a p0_1k (o_23.2.2.2.2.1) (o_23.2.2.2.2.2))] : List va_W)) ++ (List.flatten ([(oX6 (p0a 3) p0_2a p0_2k o_25 p0_2l)] : List va_W))) H := vP_fa (vP_perm hP (bP (((List.Perm.refl _)).trans ((((((List.Perm.refl _)).cons _).trans (List.Perm.swap _ _ _))).cons _))))
    have hDx : va_D A ((List.flatten ([(oX7 (p0a 0) p0a p0k (o_23.2.1) (o_23.2.2.1)), (oX10 (p0a 2) p0_1a p0_1k (o_23.2.2.2.2.1) (o_23.2.2.2.2.2))] : List va_W)) ++ (List.flatten ([(oX6 (p0a 3) p0_2a p0_2k o_25 p0_2l)] : List va_W))) := vD_fa (vD_perm hD (bP (((List.Perm.refl _)).trans ((((((List.Perm.refl _)).cons _).trans (List.Perm.swap _ _ _))).cons _))))
    have hKx : va_K (dC, dI) cls ((List.flatten ([(tX7 p0k), (tX10 p0_1k)] : List (List (ClassId × FieldType)))) ++ (List.flatten ([(tX6 p0_2k)] : List (List (ClassId × FieldType))))) s := vK_fa (vK_perm hK (bP (((List.Perm.refl _)).trans ((((((List.Perm.refl _)).cons _).trans (List.Perm.swap _ _ _))).cons _))))
    have hPc := vP_l hPx
    have hDc := vD_l hDx
    have hKc := vK_l hKx
    have hFc := vfree hDx hS hA
    refine va_callv (va_runV (As := [.int 59]) (rest := []) ⟨hx, hb, hml, hown, hts⟩ (kX7_expect l dC dI (p0a := p0a) (p0k := p0k) (p0w := (o_23.2.1)) (p0l := (o_23.2.2.1)) (p1 := 59) (aK := aK) (aV := aV) (p0_1a := p0_1a) (p0_1k := p0_1k) (p0_1w := (o_23.2.2.2.2.1)) (p0_1l := (o_23.2.2.2.2.2)) (sz := _) (o := o_26) (hrun := hc_26)) (cwV 1 hts (gi_V qw1386 qw1387 qw1388 qw65 (gi_z qw1385)) rfl rfl rfl (by decide +kernel) ⟨rmF (Nat.le_of_ble_eq_true rfl), rmL (Nat.le_of_ble_eq_true rfl)⟩) ⟨PRE.blind, va_recv hKc hPc (ci := 1) (q0 := 0) rfl rfl, PRE.of (ENV.add hE st9_m hro_st) hS hFc hPc hKc hDc⟩ rfl rfl hl.1 rfl (lv_room (Nat.le_of_ble_eq_true rfl)) dX7_readStatement_300 ⟨(Nat.le_of_ble_eq_true rfl), (Nat.le_of_ble_eq_true rfl)⟩) hS (fun q _ h => hFc q h) hFc (fun u t H locs ht hvm hw hB hz1 hk1 hS => ?_)
    obtain ⟨b1, b2, b3⟩ := hB
    rw [ht] at b1
    obtain ⟨hP, hD, hK⟩ := JOINC (wc := (List.flatten ([(oX7 (p0a 0) p0a p0k (o_23.2.1) (o_23.2.2.1)), (oX10 (p0a 2) p0_1a p0_1k (o_23.2.2.2.2.1) (o_23.2.2.2.2.2))] : List va_W))) (wr := (List.flatten ([(oX6 (p0a 3) p0_2a p0_2k o_25 p0_2l)] : List va_W))) (w1 := (List.flatten ([(oX7 (p0a 0) p0a p0k (o_26.1) (o_23.2.2.1)), (oX10 (p0a 2) p0_1a p0_1k (o_26.2.1) (o_26.2.2))] : List va_W))) (t1 := (List.flatten ([(tX7 p0k), (tX10 p0_1k)] : List (List (ClassId × FieldType))))) hPx hDx hKx hk1 hFc b1 (va_K.moved hvm.symm b2) b3
    have hP : va_P (dC, dI) cls (List.flatten ([(oX7 (p0a 0) p0a p0k (o_26.1) (o_23.2.2.1)), (oX6 (p0a 3) p0_2a p0_2k o_25 p0_2l), (oX10 (p0a 2) p0_1a p0_1k (o_26.2.1) (o_26.2.2))] : List va_W)) H := vP_perm (vP_fb hP) (bP (((List.Perm.refl _)).trans ((((((List.Perm.refl _)).cons _).trans (List.Perm.swap _ _ _))).cons _)))
    have hD : va_D A (List.flatten ([(oX7 (p0a 0) p0a p0k (o_26.1) (o_23.2.2.1)), (oX6 (p0a 3) p0_2a p0_2k o_25 p0_2l), (oX10 (p0a 2) p0_1a p0_1k (o_26.2.1) (o_26.2.2))] : List va_W)) := vD_perm (vD_fb hD) (bP (((List.Perm.refl _)).trans ((((((List.Perm.refl _)).cons _).trans (List.Perm.swap _ _ _))).cons _)))
    have hK : va_K (dC, dI) cls (List.flatten ([(tX7 p0k), (tX6 p0_2k), (tX10 p0_1k)] : List (List (ClassId × FieldType)))) s := vK_perm (vK_fb hK) (bP (((List.Perm.refl _)).trans ((((((List.Perm.refl _)).cons _).trans (List.Perm.swap _ _ _))).cons _)))
    refine lv_goto (tgt := 346) hx hb dX7_readStatement_303 (by decide) ?_
    exact J346 (o_26.1) (o_23.2.2.1) o_25 (o_26.2.1) (o_26.2.2) _ _ _ hrun hP hD hK hS (lv_sub hl [1, 0] rfl)
  rcases br9 hrun with ⟨hc27, hrun⟩ | ⟨hc27, hrun⟩
  · refine lv_lookup (off := 73) (tgt := 88) hx hb dX7_readStatement_15 (by decide) (by rw [hc27]; decide) (by decide) ?_
    refine lv_aload_n hx hb dX7_readStatement_88 rfl (lv_at hl 1 rfl) ?_
    obtain ⟨o_28, hc_28, hrun⟩ := bnd9 hrun
    have hPx : va_P (dC, dI) cls ((List.flatten ([(oX7 (p0a 0) p0a p0k p0w p0l), (oX10 (p0a 2) p0_1a p0_1k p0_1w p0_1l)] : List va_W)) ++ (List.flatten ([(oX6 (p0a 3) p0_2a p0_2k p0_2w p0_2l)] : List va_W))) H := vP_fa (vP_perm hP (bP (((List.Perm.refl _)).trans ((((((List.Perm.refl _)).cons _).trans (List.Perm.swap _ _ _))).cons _))))
    have hDx : va_D A ((List.flatten ([(oX7 (p0a 0) p0a p0k p0w p0l), (oX10 (p0a 2) p0_1a p0_1k p0_1w p0_1l)] : List va_W)) ++ (List.flatten ([(oX6 (p0a 3) p0_2a p0_2k p0_2w p0_2l)] : List va_W))) := vD_fa (vD_perm hD (bP (((List.Perm.refl _)).trans ((((((List.Perm.refl _)).cons _).trans (List.Perm.swap _ _ _))).cons _))))
    have hKx : va_K (dC, dI) cls ((List.flatten ([(tX7 p0k), (tX10 p0_1k)] : List (List (ClassId × FieldType)))) ++ (List.flatten ([(tX6 p0_2k)] : List (List (ClassId × FieldType))))) s := vK_fa (vK_perm hK (bP (((List.Perm.refl _)).trans ((((((List.Perm.refl _)).cons _).trans (List.Perm.swap _ _ _))).cons _))))
    have hPc := vP_l hPx
    have hDc := vD_l hDx
    have hKc := vK_l hKx
    have hFc := vfree hDx hS hA
    refine va_calll (va_runV (As := []) (rest := []) ⟨hx, hb, hml, hown, hts⟩ (kX7_readNewName l dC dI (p0a := p0a) (p0k := p0k) (p0w := p0w) (p0l := p0l) (aK := aK) (aV := aV) (p0_1a := p0_1a) (p0_1k := p0_1k) (p0_1w := p0_1w) (p0_1l := p0_1l) (sz := _) (o := o_28) (hrun := hc_28)) (cwV 0 hts (gi_V qw1422 qw1423 qw1424 qw65 (gi_z qw1421)) rfl rfl rfl (by decide +kernel) ⟨rmF (Nat.le_of_ble_eq_true rfl), rmL (Nat.le_of_ble_eq_true rfl)⟩) ⟨PRE.blind, va_recv hKc hPc (ci := 1) (q0 := 0) rfl rfl, PRE.of (ENV.add hE st9_m hro_st) hS hFc hPc hKc hDc⟩ rfl rfl hl.1 rfl (lv_room (Nat.le_of_ble_eq_true rfl)) dX7_readStatement_89 ⟨(Nat.le_of_ble_eq_true rfl), (Nat.le_of_ble_eq_true rfl)⟩) hS (fun q _ h => hFc q h) hFc (fun r29 u t H locs ht hvm hw hB hz1 hk1 hS => ?_)
    obtain ⟨b1, b2, b3⟩ := hB
    rw [ht] at b1
    obtain ⟨hP, hD, hK⟩ := JOINC (wc := (List.flatten ([(oX7 (p0a 0) p0a p0k p0w p0l), (oX10 (p0a 2) p0_1a p0_1k p0_1w p0_1l)] : List va_W))) (wr := (List.flatten ([(oX6 (p0a 3) p0_2a p0_2k p0_2w p0_2l)] : List va_W))) (w1 := (List.flatten ([(oX7 (p0a 0) p0a p0k (o_28.2.1) p0l), (oX10 (p0a 2) p0_1a p0_1k (o_28.2.2.1) (o_28.2.2.2))] : List va_W))) (t1 := (List.flatten ([(tX7 p0k), (tX10 p0_1k)] : List (List (ClassId × FieldType))))) hPx hDx hKx hk1 hFc b1 (va_K.moved hvm.symm b2) b3
    have hP : va_P (dC, dI) cls (List.flatten ([(oX7 (p0a 0) p0a p0k (o_28.2.1) p0l), (oX6 (p0a 3) p0_2a p0_2k p0_2w p0_2l), (oX10 (p0a 2) p0_1a p0_1k (o_28.2.2.1) (o_28.2.2.2))] : List va_W)) H := vP_perm (vP_fb hP) (bP (((List.Perm.refl _)).trans ((((((List.Perm.refl _)).cons _).trans (List.Perm.swap _ _ _))).cons _)))
    have hD : va_D A (List.flatten ([(oX7 (p0a 0) p0a p0k (o_28.2.1) p0l), (oX6 (p0a 3) p0_2a p0_2k p0_2w p0_2l), (oX10 (p0a 2) p0_1a p0_1k (o_28.2.2.1) (o_28.2.2.2))] : List va_W)) := vD_perm (vD_fb hD) (bP (((List.Perm.refl _)).trans ((((((List.Perm.refl _)).cons _).trans (List.Perm.swap _ _ _))).cons _)))
    have hK : va_K (dC, dI) cls (List.flatten ([(tX7 p0k), (tX6 p0_2k), (tX10 p0_1k)] : List (List (ClassId × FieldType)))) s := vK_perm (vK_fb hK) (bP (((List.Perm.refl _)).trans ((((((List.Perm.refl _)).cons _).trans (List.Perm.swap _ _ _))).cons _)))
    obtain rfl : r29 = (o_28.1) := hw
    refine lv_lstore_n (lv' := [(2, .long (o_28.1)), (1, .int (p0_2w 0 7)), (0, .ref (p0a 0))]) hx hb dX7_readStatement_92 rfl hl (by decide) rfl (fun ls hl => ?_)
    refine lv_aload_n hx hb dX7_readStatement_93 rfl (lv_at hl 2 rfl) ?_
    refine lv_iconst (v := 0) hx hb dX7_readStatement_94 (by decide) ?_
    obtain ⟨o_30, hc_30, hrun⟩ := bnd9 hrun
    have hPx : va_P (dC, dI) cls ((List.flatten ([(oX7 (p0a 0) p0a p0k (o_28.2.1) p0l), (oX6 (p0a 3) p0_2a p0_2k p0_2w p0_2l), (oX10 (p0a 2) p0_1a p0_1k (o_28.2.2.1) (o_28.2.2.2))] : List va_W)) ++ (List.flatten ([] : List va_W))) H := vP_fa (vP_perm hP (bP (List.Perm.refl _)))
    have hDx : va_D A ((List.flatten ([(oX7 (p0a 0) p0a p0k (o_28.2.1) p0l), (oX6 (p0a 3) p0_2a p0_2k p0_2w p0_2l), (oX10 (p0a 2) p0_1a p0_1k (o_28.2.2.1) (o_28.2.2.2))] : List va_W)) ++ (List.flatten ([] : List va_W))) := vD_fa (vD_perm hD (bP (List.Perm.refl _)))
    have hKx : va_K (dC, dI) cls ((List.flatten ([(tX7 p0k), (tX6 p0_2k), (tX10 p0_1k)] : List (List (ClassId × FieldType)))) ++ (List.flatten ([] : List (List (ClassId × FieldType))))) s := vK_fa (vK_perm hK (bP (List.Perm.refl _)))
    have hPc := vP_l hPx
    have hDc := vD_l hDx
    have hKc := vK_l hKx
    have hFc := vfree hDx hS hA
    refine va_calli (va_runV (As := [.int 0]) (rest := []) ⟨hx, hb, hml, hown, hts⟩ (hkk_readTest dC dI (p0a := p0a) (p0k := p0k) (p0w := (o_28.2.1)) (p0l := p0l) (p1 := 0) (aK := aK) (aV := aV) (p0_2a := p0_2a) (p0_2k := p0_2k) (p0_2w := p0_2w) (p0_2l := p0_2l) (p0_1a := p0_1a) (p0_1k := p0_1k) (p0_1w := (o_28.2.2.1)) (p0_1l := (o_28.2.2.2)) (sz := _) (o := o_30) (hrun := hc_30)) (cwV 1 hts (gi_V qw1410 qw1411 qw1412 qw65 (gi_z qw1409)) rfl rfl rfl (by decide +kernel) ⟨rmF9, rmL9 (n := 27) (Nat.le_of_ble_eq_true rfl)⟩) ⟨PRE.blind, va_recv hKc hPc (ci := 1) (q0 := 0) rfl rfl, PRE.of (ENV.add hE st9_m hro_st) hS hFc hPc hKc hDc⟩ rfl rfl hl.1 rfl (lv_room (Nat.le_of_ble_eq_true rfl)) dX7_readStatement_95 ⟨(Nat.le_of_ble_eq_true rfl), (Nat.le_of_ble_eq_true rfl)⟩) hS (fun q _ h => hFc q h) hFc (fun r31 u t H locs ht hvm hw hB hz1 hk1 hS => ?_)
    obtain ⟨b1, b2, b3⟩ := hB
    rw [ht] at b1
    obtain ⟨hP, hD, hK⟩ := JOINC (wc := (List.flatten ([(oX7 (p0a 0) p0a p0k (o_28.2.1) p0l), (oX6 (p0a 3) p0_2a p0_2k p0_2w p0_2l), (oX10 (p0a 2) p0_1a p0_1k (o_28.2.2.1) (o_28.2.2.2))] : List va_W))) (wr := (List.flatten ([] : List va_W))) (w1 := (List.flatten ([(oX7 (p0a 0) p0a p0k (o_30.2.1) (o_30.2.2.1)), (oX6 (p0a 3) p0_2a p0_2k (o_30.2.2.2.1) p0_2l), (oX10 (p0a 2) p0_1a p0_1k (o_30.2.2.2.2.1) (o_30.2.2.2.2.2))] : List va_W))) (t1 := (List.flatten ([(tX7 p0k), (tX6 p0_2k), (tX10 p0_1k)] : List (List (ClassId × FieldType))))) hPx hDx hKx hk1 hFc b1 (va_K.moved hvm.symm b2) b3
    have hP : va_P (dC, dI) cls (List.flatten ([(oX7 (p0a 0) p0a p0k (o_30.2.1) (o_30.2.2.1)), (oX6 (p0a 3) p0_2a p0_2k (o_30.2.2.2.1) p0_2l), (oX10 (p0a 2) p0_1a p0_1k (o_30.2.2.2.2.1) (o_30.2.2.2.2.2))] : List va_W)) H := vP_perm (vP_fb hP) (bP (List.Perm.refl _))
    have hD : va_D A (List.flatten ([(oX7 (p0a 0) p0a p0k (o_30.2.1) (o_30.2.2.1)), (oX6 (p0a 3) p0_2a p0_2k (o_30.2.2.2.1) p0_2l), (oX10 (p0a 2) p0_1a p0_1k (o_30.2.2.2.2.1) (o_30.2.2.2.2.2))] : List va_W)) := vD_perm (vD_fb hD) (bP (List.Perm.refl _))
    have hK : va_K (dC, dI) cls (List.flatten ([(tX7 p0k), (tX6 p0_2k), (tX10 p0_1k)] : List (List (ClassId × FieldType)))) s := vK_perm (vK_fb hK) (bP (List.Perm.refl _))
    obtain rfl : r31 = (o_30.1) := hw
    refine lv_pop hx hb dX7_readStatement_98 rfl ?_
    refine lv_aload_n hx hb dX7_readStatement_99 rfl (lv_at hl 2 rfl) ?_
    refine va_get (D := (dC, dI)) (ci := 1) (v := .ref (p0a 3)) (C := RX7) (T := TX7) (N := 18) hx hb hts i_X7 hown hK hP 0 rfl rfl 2 (by decide) (hts _ qw26) (fun _ h9 => h9) rfl dX7_readStatement_100 ?_
    refine lv_bipush (v := 31) hx hb dX7_readStatement_103 (by decide) ?_
    refine lv_aload_n hx hb dX7_readStatement_105 rfl (lv_at hl 2 rfl) ?_
    refine lv_lload_n hx hb dX7_readStatement_106 rfl (lv_at hl 0 rfl) ?_
    obtain ⟨o_32, hc_32, hrun⟩ := bnd9 hrun
    have hPx : va_P (dC, dI) cls ((List.flatten ([(oX7 (p0a 0) p0a p0k (o_30.2.1) (o_30.2.2.1)), (oX6 (p0a 3) p0_2a p0_2k (o_30.2.2.2.1) p0_2l)] : List va_W)) ++ (List.flatten ([(oX10 (p0a 2) p0_1a p0_1k (o_30.2.2.2.2.1) (o_30.2.2.2.2.2))] : List va_W))) H := vP_fa (vP_perm hP (bP (List.Perm.refl _)))
    have hDx : va_D A ((List.flatten ([(oX7 (p0a 0) p0a p0k (o_30.2.1) (o_30.2.2.1)), (oX6 (p0a 3) p0_2a p0_2k (o_30.2.2.2.1) p0_2l)] : List va_W)) ++ (List.flatten ([(oX10 (p0a 2) p0_1a p0_1k (o_30.2.2.2.2.1) (o_30.2.2.2.2.2))] : List va_W))) := vD_fa (vD_perm hD (bP (List.Perm.refl _)))
    have hKx : va_K (dC, dI) cls ((List.flatten ([(tX7 p0k), (tX6 p0_2k)] : List (List (ClassId × FieldType)))) ++ (List.flatten ([(tX10 p0_1k)] : List (List (ClassId × FieldType))))) s := vK_fa (vK_perm hK (bP (List.Perm.refl _)))
    have hPc := vP_l hPx
    have hDc := vD_l hDx
    have hKc := vK_l hKx
    have hFc := vfree hDx hS hA
    refine va_calli (va_runV (As := [.long (o_28.1)]) (rest := [.int 31, .ref (p0a 3)]) ⟨hx, hb, hml, hown, hts⟩ (kX7_declare l dC dI (p0a := p0a) (p0k := p0k) (p0w := (o_30.2.1)) (p0l := (o_30.2.2.1)) (p1 := (o_28.1)) (p0_2a := p0_2a) (p0_2k := p0_2k) (p0_2w := (o_30.2.2.2.1)) (p0_2l := p0_2l) (sz := _) (o := o_32) (hrun := hc_32)) (cwV 1 hts (gi_V qw1390 qw1391 qw1392 qw65 (gi_z qw1389)) rfl rfl rfl (by decide +kernel) ⟨rmF (Nat.le_of_ble_eq_true rfl), rmL (Nat.le_of_ble_eq_true rfl)⟩) ⟨PRE.blind, va_recv hKc hPc (ci := 1) (q0 := 0) rfl rfl, PRE.of hE hS hFc hPc hKc hDc⟩ rfl rfl hl.1 rfl (lv_room (Nat.le_of_ble_eq_true rfl)) dX7_readStatement_107 ⟨(Nat.le_of_ble_eq_true rfl), (Nat.le_of_ble_eq_true rfl)⟩) hS (fun q _ h => hFc q h) hFc (fun r33 u t H locs ht hvm hw hB hz1 hk1 hS => ?_)
    obtain ⟨b1, b2, b3⟩ := hB
    rw [ht] at b1
    obtain ⟨hP, hD, hK⟩ := JOINC (wc := (List.flatten ([(oX7 (p0a 0) p0a p0k (o_30.2.1) (o_30.2.2.1)), (oX6 (p0a 3) p0_2a p0_2k (o_30.2.2.2.1) p0_2l)] : List va_W))) (wr := (List.flatten ([(oX10 (p0a 2) p0_1a p0_1k (o_30.2.2.2.2.1) (o_30.2.2.2.2.2))] : List va_W))) (w1 := (List.flatten ([(oX7 (p0a 0) p0a p0k (o_32.2.1) (o_32.2.2.1)), (oX6 (p0a 3) p0_2a p0_2k (o_32.2.2.2) p0_2l)] : List va_W))) (t1 := (List.flatten ([(tX7 p0k), (tX6 p0_2k)] : List (List (ClassId × FieldType))))) hPx hDx hKx hk1 hFc b1 (va_K.moved hvm.symm b2) b3
    have hP : va_P (dC, dI) cls (List.flatten ([(oX7 (p0a 0) p0a p0k (o_32.2.1) (o_32.2.2.1)), (oX6 (p0a 3) p0_2a p0_2k (o_32.2.2.2) p0_2l), (oX10 (p0a 2) p0_1a p0_1k (o_30.2.2.2.2.1) (o_30.2.2.2.2.2))] : List va_W)) H := vP_perm (vP_fb hP) (bP (List.Perm.refl _))
    have hD : va_D A (List.flatten ([(oX7 (p0a 0) p0a p0k (o_32.2.1) (o_32.2.2.1)), (oX6 (p0a 3) p0_2a p0_2k (o_32.2.2.2) p0_2l), (oX10 (p0a 2) p0_1a p0_1k (o_30.2.2.2.2.1) (o_30.2.2.2.2.2))] : List va_W)) := vD_perm (vD_fb hD) (bP (List.Perm.refl _))
    have hK : va_K (dC, dI) cls (List.flatten ([(tX7 p0k), (tX6 p0_2k), (tX10 p0_1k)] : List (List (ClassId × FieldType)))) s := vK_perm (vK_fb hK) (bP (List.Perm.refl _))
    obtain rfl : r33 = (o_32.1) := hw
    refine lv_iconst (v := 0) hx hb dX7_readStatement_110 (by decide) ?_
    obtain ⟨o_34, hc_34, hrun⟩ := bnd9 hrun
    have hPx : va_P (dC, dI) cls ((List.flatten ([(oX6 (p0a 3) p0_2a p0_2k (o_32.2.2.2) p0_2l)] : List va_W)) ++ (List.flatten ([(oX7 (p0a 0) p0a p0k (o_32.2.1) (o_32.2.2.1)), (oX10 (p0a 2) p0_1a p0_1k (o_30.2.2.2.2.1) (o_30.2.2.2.2.2))] : List va_W))) H := vP_fa (vP_perm hP (bP ((((List.Perm.refl _)).cons _).trans (List.Perm.swap _ _ _))))
    have hDx : va_D A ((List.flatten ([(oX6 (p0a 3) p0_2a p0_2k (o_32.2.2.2) p0_2l)] : List va_W)) ++ (List.flatten ([(oX7 (p0a 0) p0a p0k (o_32.2.1) (o_32.2.2.1)), (oX10 (p0a 2) p0_1a p0_1k (o_30.2.2.2.2.1) (o_30.2.2.2.2.2))] : List va_W))) := vD_fa (vD_perm hD (bP ((((List.Perm.refl _)).cons _).trans (List.Perm.swap _ _ _))))
    have hKx : va_K (dC, dI) cls ((List.flatten ([(tX6 p0_2k)] : List (List (ClassId × FieldType)))) ++ (List.flatten ([(tX7 p0k), (tX10 p0_1k)] : List (List (ClassId × FieldType))))) s := vK_fa (vK_perm hK (bP ((((List.Perm.refl _)).cons _).trans (List.Perm.swap _ _ _))))
    have hPc := vP_l hPx
    have hDc := vD_l hDx
    have hKc := vK_l hKx
    have hFc := vfree hDx hS hA
    refine va_callv (va_runV (As := [.int 31, .int (o_32.1), .int 0]) (rest := []) ⟨hx, hb, hml, hown, hts⟩ (kX6_emit l dC dI (p0a := (st0 (p0a 3) p0_2a)) (p0k := p0_2k) (p0w := (o_32.2.2.2)) (p0l := p0_2l) (p1 := 31) (p2 := (o_32.1)) (p3 := 0) (sz := _) (o := o_34) (hrun := hc_34)) (cwV 3 hts (gi_V qw42 qw43 qw44 qw33 (gi_z qw41)) rfl rfl rfl (by decide +kernel) ⟨rmF (Nat.le_of_ble_eq_true rfl), rmL (Nat.le_of_ble_eq_true rfl)⟩) ⟨PRE.blind, va_recv hKc hPc (ci := 2) (q0 := 0) rfl rfl, PRE.of hE hS hFc hPc hKc hDc⟩ rfl rfl hl.1 rfl (lv_room (Nat.le_of_ble_eq_true rfl)) dX7_readStatement_111 ⟨(Nat.le_of_ble_eq_true rfl), (Nat.le_of_ble_eq_true rfl)⟩) hS (fun q _ h => hFc q h) hFc (fun u t H locs ht hvm hw hB hz1 hk1 hS => ?_)
    obtain ⟨b1, b2, b3⟩ := hB
    rw [ht] at b1
    obtain ⟨hP, hD, hK⟩ := JOINC (wc := (List.flatten ([(oX6 (p0a 3) p0_2a p0_2k (o_32.2.2.2) p0_2l)] : List va_W))) (wr := (List.flatten ([(oX7 (p0a 0) p0a p0k (o_32.2.1) (o_32.2.2.1)), (oX10 (p0a 2) p0_1a p0_1k (o_30.2.2.2.2.1) (o_30.2.2.2.2.2))] : List va_W))) (w1 := (List.flatten ([(oX6 (p0a 3) p0_2a p0_2k o_34 p0_2l)] : List va_W))) (t1 := (List.flatten ([(tX6 p0_2k)] : List (List (ClassId × FieldType))))) hPx hDx hKx hk1 hFc b1 (va_K.moved hvm.symm b2) b3
    have hP : va_P (dC, dI) cls (List.flatten ([(oX7 (p0a 0) p0a p0k (o_32.2.1) (o_32.2.2.1)), (oX6 (p0a 3) p0_2a p0_2k o_34 p0_2l), (oX10 (p0a 2) p0_1a p0_1k (o_30.2.2.2.2.1) (o_30.2.2.2.2.2))] : List va_W)) H := vP_perm (vP_fb hP) (bP ((((List.Perm.refl _)).cons _).trans (List.Perm.swap _ _ _)))
    have hD : va_D A (List.flatten ([(oX7 (p0a 0) p0a p0k (o_32.2.1) (o_32.2.2.1)), (oX6 (p0a 3) p0_2a p0_2k o_34 p0_2l), (oX10 (p0a 2) p0_1a p0_1k (o_30.2.2.2.2.1) (o_30.2.2.2.2.2))] : List va_W)) := vD_perm (vD_fb hD) (bP ((((List.Perm.refl _)).cons _).trans (List.Perm.swap _ _ _)))
    have hK : va_K (dC, dI) cls (List.flatten ([(tX7 p0k), (tX6 p0_2k), (tX10 p0_1k)] : List (List (ClassId × FieldType)))) s := vK_perm (vK_fb hK) (bP ((((List.Perm.refl _)).cons _).trans (List.Perm.swap _ _ _)))
    refine lv_aload_n hx hb dX7_readStatement_114 rfl (lv_at hl 2 rfl) ?_
    refine lv_bipush (v := 59) hx hb dX7_readStatement_115 (by decide) ?_
    obtain ⟨o_35, hc_35, hrun⟩ := bnd9 hrun
    have hPx : va_P (dC, dI) cls ((List.flatten ([(oX7 (p0a 0) p0a p0k (o_32.2.1) (o_32.2.2.1)), (oX10 (p0a 2) p0_1a p0_1k (o_30.2.2.2.2.1) (o_30.2.2.2.2.2))] : List va_W)) ++ (List.flatten ([(oX6 (p0a 3) p0_2a p0_2k o_34 p0_2l)] : List va_W))) H := vP_fa (vP_perm hP (bP (((List.Perm.refl _)).trans ((((((List.Perm.refl _)).cons _).trans (List.Perm.swap _ _ _))).cons _))))
    have hDx : va_D A ((List.flatten ([(oX7 (p0a 0) p0a p0k (o_32.2.1) (o_32.2.2.1)), (oX10 (p0a 2) p0_1a p0_1k (o_30.2.2.2.2.1) (o_30.2.2.2.2.2))] : List va_W)) ++ (List.flatten ([(oX6 (p0a 3) p0_2a p0_2k o_34 p0_2l)] : List va_W))) := vD_fa (vD_perm hD (bP (((List.Perm.refl _)).trans ((((((List.Perm.refl _)).cons _).trans (List.Perm.swap _ _ _))).cons _))))
    have hKx : va_K (dC, dI) cls ((List.flatten ([(tX7 p0k), (tX10 p0_1k)] : List (List (ClassId × FieldType)))) ++ (List.flatten ([(tX6 p0_2k)] : List (List (ClassId × FieldType))))) s := vK_fa (vK_perm hK (bP (((List.Perm.refl _)).trans ((((((List.Perm.refl _)).cons _).trans (List.Perm.swap _ _ _))).cons _))))
    have hPc := vP_l hPx
    have hDc := vD_l hDx
    have hKc := vK_l hKx
    have hFc := vfree hDx hS hA
    refine va_callv (va_runV (As := [.int 59]) (rest := []) ⟨hx, hb, hml, hown, hts⟩ (kX7_expect l dC dI (p0a := p0a) (p0k := p0k) (p0w := (o_32.2.1)) (p0l := (o_32.2.2.1)) (p1 := 59) (aK := aK) (aV := aV) (p0_1a := p0_1a) (p0_1k := p0_1k) (p0_1w := (o_30.2.2.2.2.1)) (p0_1l := (o_30.2.2.2.2.2)) (sz := _) (o := o_35) (hrun := hc_35)) (cwV 1 hts (gi_V qw1386 qw1387 qw1388 qw65 (gi_z qw1385)) rfl rfl rfl (by decide +kernel) ⟨rmF (Nat.le_of_ble_eq_true rfl), rmL (Nat.le_of_ble_eq_true rfl)⟩) ⟨PRE.blind, va_recv hKc hPc (ci := 1) (q0 := 0) rfl rfl, PRE.of (ENV.add hE st9_m hro_st) hS hFc hPc hKc hDc⟩ rfl rfl hl.1 rfl (lv_room (Nat.le_of_ble_eq_true rfl)) dX7_readStatement_117 ⟨(Nat.le_of_ble_eq_true rfl), (Nat.le_of_ble_eq_true rfl)⟩) hS (fun q _ h => hFc q h) hFc (fun u t H locs ht hvm hw hB hz1 hk1 hS => ?_)
    obtain ⟨b1, b2, b3⟩ := hB
    rw [ht] at b1
    obtain ⟨hP, hD, hK⟩ := JOINC (wc := (List.flatten ([(oX7 (p0a 0) p0a p0k (o_32.2.1) (o_32.2.2.1)), (oX10 (p0a 2) p0_1a p0_1k (o_30.2.2.2.2.1) (o_30.2.2.2.2.2))] : List va_W))) (wr := (List.flatten ([(oX6 (p0a 3) p0_2a p0_2k o_34 p0_2l)] : List va_W))) (w1 := (List.flatten ([(oX7 (p0a 0) p0a p0k (o_35.1) (o_32.2.2.1)), (oX10 (p0a 2) p0_1a p0_1k (o_35.2.1) (o_35.2.2))] : List va_W))) (t1 := (List.flatten ([(tX7 p0k), (tX10 p0_1k)] : List (List (ClassId × FieldType))))) hPx hDx hKx hk1 hFc b1 (va_K.moved hvm.symm b2) b3
    have hP : va_P (dC, dI) cls (List.flatten ([(oX7 (p0a 0) p0a p0k (o_35.1) (o_32.2.2.1)), (oX6 (p0a 3) p0_2a p0_2k o_34 p0_2l), (oX10 (p0a 2) p0_1a p0_1k (o_35.2.1) (o_35.2.2))] : List va_W)) H := vP_perm (vP_fb hP) (bP (((List.Perm.refl _)).trans ((((((List.Perm.refl _)).cons _).trans (List.Perm.swap _ _ _))).cons _)))
    have hD : va_D A (List.flatten ([(oX7 (p0a 0) p0a p0k (o_35.1) (o_32.2.2.1)), (oX6 (p0a 3) p0_2a p0_2k o_34 p0_2l), (oX10 (p0a 2) p0_1a p0_1k (o_35.2.1) (o_35.2.2))] : List va_W)) := vD_perm (vD_fb hD) (bP (((List.Perm.refl _)).trans ((((((List.Perm.refl _)).cons _).trans (List.Perm.swap _ _ _))).cons _)))
    have hK : va_K (dC, dI) cls (List.flatten ([(tX7 p0k), (tX6 p0_2k), (tX10 p0_1k)] : List (List (ClassId × FieldType)))) s := vK_perm (vK_fb hK) (bP (((List.Perm.refl _)).trans ((((((List.Perm.refl _)).cons _).trans (List.Perm.swap _ _ _))).cons _)))
    refine lv_goto (tgt := 346) hx hb dX7_readStatement_120 (by decide) ?_
    exact J346 (o_35.1) (o_32.2.2.1) o_34 (o_35.2.1) (o_35.2.2) _ _ _ hrun hP hD hK hS (lv_sub hl [2, 1] rfl)
  rcases br9 hrun with ⟨hc36, hrun⟩ | ⟨hc36, hrun⟩
  · refine lv_lookup (off := 298) (tgt := 313) hx hb dX7_readStatement_15 (by decide) (by rw [hc36]; decide) (by decide) ?_
    refine lv_aload_n hx hb dX7_readStatement_313 rfl (lv_at hl 1 rfl) ?_
    obtain ⟨o_37, hc_37, hrun⟩ := bnd9 hrun
    have hPx : va_P (dC, dI) cls ((List.flatten ([(oX7 (p0a 0) p0a p0k p0w p0l), (oX6 (p0a 3) p0_2a p0_2k p0_2w p0_2l), (oX10 (p0a 2) p0_1a p0_1k p0_1w p0_1l)] : List va_W)) ++ (List.flatten ([] : List va_W))) H := vP_fa (vP_perm hP (bP (List.Perm.refl _)))
    have hDx : va_D A ((List.flatten ([(oX7 (p0a 0) p0a p0k p0w p0l), (oX6 (p0a 3) p0_2a p0_2k p0_2w p0_2l), (oX10 (p0a 2) p0_1a p0_1k p0_1w p0_1l)] : List va_W)) ++ (List.flatten ([] : List va_W))) := vD_fa (vD_perm hD (bP (List.Perm.refl _)))
    have hKx : va_K (dC, dI) cls ((List.flatten ([(tX7 p0k), (tX6 p0_2k), (tX10 p0_1k)] : List (List (ClassId × FieldType)))) ++ (List.flatten ([] : List (List (ClassId × FieldType))))) s := vK_fa (vK_perm hK (bP (List.Perm.refl _)))
    have hPc := vP_l hPx
    have hDc := vD_l hDx
    have hKc := vK_l hKx
    have hFc := vfree hDx hS hA
    refine va_callv (va_runV (As := []) (rest := []) ⟨hx, hb, hml, hown, hts⟩ (hkk_readWhile dC dI (p0a := p0a) (p0k := p0k) (p0w := p0w) (p0l := p0l) (aK := aK) (aV := aV) (p0_2a := p0_2a) (p0_2k := p0_2k) (p0_2w := p0_2w) (p0_2l := p0_2l) (p0_1a := p0_1a) (p0_1k := p0_1k) (p0_1w := p0_1w) (p0_1l := p0_1l) (sz := _) (o := o_37) (hrun := hc_37)) (cwV 0 hts (gi_V qw1426 qw1427 qw1428 qw65 (gi_z qw1425)) rfl rfl rfl (by decide +kernel) ⟨rmF9, rmL9 (n := 22) (Nat.le_of_ble_eq_true rfl)⟩) ⟨PRE.blind, va_recv hKc hPc (ci := 1) (q0 := 0) rfl rfl, PRE.of (ENV.add hE st9_m hro_st) hS hFc hPc hKc hDc⟩ rfl rfl hl.1 rfl (lv_room (Nat.le_of_ble_eq_true rfl)) dX7_readStatement_314 ⟨(Nat.le_of_ble_eq_true rfl), (Nat.le_of_ble_eq_true rfl)⟩) hS (fun q _ h => hFc q h) hFc (fun u t H locs ht hvm hw hB hz1 hk1 hS => ?_)
    obtain ⟨b1, b2, b3⟩ := hB
    rw [ht] at b1
    obtain ⟨hP, hD, hK⟩ := JOINC (wc := (List.flatten ([(oX7 (p0a 0) p0a p0k p0w p0l), (oX6 (p0a 3) p0_2a p0_2k p0_2w p0_2l), (oX10 (p0a 2) p0_1a p0_1k p0_1w p0_1l)] : List va_W))) (wr := (List.flatten ([] : List va_W))) (w1 := (List.flatten ([(oX7 (p0a 0) p0a p0k (o_37.1) (o_37.2.1)), (oX6 (p0a 3) p0_2a p0_2k (o_37.2.2.1) p0_2l), (oX10 (p0a 2) p0_1a p0_1k (o_37.2.2.2.1) (o_37.2.2.2.2))] : List va_W))) (t1 := (List.flatten ([(tX7 p0k), (tX6 p0_2k), (tX10 p0_1k)] : List (List (ClassId × FieldType))))) hPx hDx hKx hk1 hFc b1 (va_K.moved hvm.symm b2) b3
    have hP : va_P (dC, dI) cls (List.flatten ([(oX7 (p0a 0) p0a p0k (o_37.1) (o_37.2.1)), (oX6 (p0a 3) p0_2a p0_2k (o_37.2.2.1) p0_2l), (oX10 (p0a 2) p0_1a p0_1k (o_37.2.2.2.1) (o_37.2.2.2.2))] : List va_W)) H := vP_perm (vP_fb hP) (bP (List.Perm.refl _))
    have hD : va_D A (List.flatten ([(oX7 (p0a 0) p0a p0k (o_37.1) (o_37.2.1)), (oX6 (p0a 3) p0_2a p0_2k (o_37.2.2.1) p0_2l), (oX10 (p0a 2) p0_1a p0_1k (o_37.2.2.2.1) (o_37.2.2.2.2))] : List va_W)) := vD_perm (vD_fb hD) (bP (List.Perm.refl _))
    have hK : va_K (dC, dI) cls (List.flatten ([(tX7 p0k), (tX6 p0_2k), (tX10 p0_1k)] : List (List (ClassId × FieldType)))) s := vK_perm (vK_fb hK) (bP (List.Perm.refl _))
    refine lv_goto (tgt := 346) hx hb dX7_readStatement_317 (by decide) ?_
    exact J346 (o_37.1) (o_37.2.1) (o_37.2.2.1) (o_37.2.2.2.1) (o_37.2.2.2.2) _ _ _ hrun hP hD hK hS (lv_sub hl [1, 0] rfl)
  rcases br9 hrun with ⟨hc38, hrun⟩ | ⟨hc38, hrun⟩
  · refine lv_lookup (off := 209) (tgt := 224) hx hb dX7_readStatement_15 (by decide) (by rw [hc38]; decide) (by decide) ?_
    refine lv_aload_n hx hb dX7_readStatement_224 rfl (lv_at hl 1 rfl) ?_
    refine lv_bipush (v := 91) hx hb dX7_readStatement_225 (by decide) ?_
    obtain ⟨o_39, hc_39, hrun⟩ := bnd9 hrun
    have hPx : va_P (dC, dI) cls ((List.flatten ([(oX7 (p0a 0) p0a p0k p0w p0l), (oX10 (p0a 2) p0_1a p0_1k p0_1w p0_1l)] : List va_W)) ++ (List.flatten ([(oX6 (p0a 3) p0_2a p0_2k p0_2w p0_2l)] : List va_W))) H := vP_fa (vP_perm hP (bP (((List.Perm.refl _)).trans ((((((List.Perm.refl _)).cons _).trans (List.Perm.swap _ _ _))).cons _))))
    have hDx : va_D A ((List.flatten ([(oX7 (p0a 0) p0a p0k p0w p0l), (oX10 (p0a 2) p0_1a p0_1k p0_1w p0_1l)] : List va_W)) ++ (List.flatten ([(oX6 (p0a 3) p0_2a p0_2k p0_2w p0_2l)] : List va_W))) := vD_fa (vD_perm hD (bP (((List.Perm.refl _)).trans ((((((List.Perm.refl _)).cons _).trans (List.Perm.swap _ _ _))).cons _))))
    have hKx : va_K (dC, dI) cls ((List.flatten ([(tX7 p0k), (tX10 p0_1k)] : List (List (ClassId × FieldType)))) ++ (List.flatten ([(tX6 p0_2k)] : List (List (ClassId × FieldType))))) s := vK_fa (vK_perm hK (bP (((List.Perm.refl _)).trans ((((((List.Perm.refl _)).cons _).trans (List.Perm.swap _ _ _))).cons _))))
    have hPc := vP_l hPx
    have hDc := vD_l hDx
    have hKc := vK_l hKx
    have hFc := vfree hDx hS hA
    refine va_callv (va_runV (As := [.int 91]) (rest := []) ⟨hx, hb, hml, hown, hts⟩ (kX7_expect l dC dI (p0a := p0a) (p0k := p0k) (p0w := p0w) (p0l := p0l) (p1 := 91) (aK := aK) (aV := aV) (p0_1a := p0_1a) (p0_1k := p0_1k) (p0_1w := p0_1w) (p0_1l := p0_1l) (sz := _) (o := o_39) (hrun := hc_39)) (cwV 1 hts (gi_V qw1386 qw1387 qw1388 qw65 (gi_z qw1385)) rfl rfl rfl (by decide +kernel) ⟨rmF (Nat.le_of_ble_eq_true rfl), rmL (Nat.le_of_ble_eq_true rfl)⟩) ⟨PRE.blind, va_recv hKc hPc (ci := 1) (q0 := 0) rfl rfl, PRE.of (ENV.add hE st9_m hro_st) hS hFc hPc hKc hDc⟩ rfl rfl hl.1 rfl (lv_room (Nat.le_of_ble_eq_true rfl)) dX7_readStatement_227 ⟨(Nat.le_of_ble_eq_true rfl), (Nat.le_of_ble_eq_true rfl)⟩) hS (fun q _ h => hFc q h) hFc (fun u t H locs ht hvm hw hB hz1 hk1 hS => ?_)
    obtain ⟨b1, b2, b3⟩ := hB
    rw [ht] at b1
    obtain ⟨hP, hD, hK⟩ := JOINC (wc := (List.flatten ([(oX7 (p0a 0) p0a p0k p0w p0l), (oX10 (p0a 2) p0_1a p0_1k p0_1w p0_1l)] : List va_W))) (wr := (List.flatten ([(oX6 (p0a 3) p0_2a p0_2k p0_2w p0_2l)] : List va_W))) (w1 := (List.flatten ([(oX7 (p0a 0) p0a p0k (o_39.1) p0l), (oX10 (p0a 2) p0_1a p0_1k (o_39.2.1) (o_39.2.2))] : List va_W))) (t1 := (List.flatten ([(tX7 p0k), (tX10 p0_1k)] : List (List (ClassId × FieldType))))) hPx hDx hKx hk1 hFc b1 (va_K.moved hvm.symm b2) b3
    have hP : va_P (dC, dI) cls (List.flatten ([(oX7 (p0a 0) p0a p0k (o_39.1) p0l), (oX6 (p0a 3) p0_2a p0_2k p0_2w p0_2l), (oX10 (p0a 2) p0_1a p0_1k (o_39.2.1) (o_39.2.2))] : List va_W)) H := vP_perm (vP_fb hP) (bP (((List.Perm.refl _)).trans ((((((List.Perm.refl _)).cons _).trans (List.Perm.swap _ _ _))).cons _)))
    have hD : va_D A (List.flatten ([(oX7 (p0a 0) p0a p0k (o_39.1) p0l), (oX6 (p0a 3) p0_2a p0_2k p0_2w p0_2l), (oX10 (p0a 2) p0_1a p0_1k (o_39.2.1) (o_39.2.2))] : List va_W)) := vD_perm (vD_fb hD) (bP (((List.Perm.refl _)).trans ((((((List.Perm.refl _)).cons _).trans (List.Perm.swap _ _ _))).cons _)))
    have hK : va_K (dC, dI) cls (List.flatten ([(tX7 p0k), (tX6 p0_2k), (tX10 p0_1k)] : List (List (ClassId × FieldType)))) s := vK_perm (vK_fb hK) (bP (((List.Perm.refl _)).trans ((((((List.Perm.refl _)).cons _).trans (List.Perm.swap _ _ _))).cons _)))
    refine lv_aload_n hx hb dX7_readStatement_230 rfl (lv_at hl 1 rfl) ?_
    refine lv_iconst (v := 0) hx hb dX7_readStatement_231 (by decide) ?_
    obtain ⟨o_40, hc_40, hrun⟩ := bnd9 hrun
    have hPx : va_P (dC, dI) cls ((List.flatten ([(oX7 (p0a 0) p0a p0k (o_39.1) p0l), (oX6 (p0a 3) p0_2a p0_2k p0_2w p0_2l), (oX10 (p0a 2) p0_1a p0_1k (o_39.2.1) (o_39.2.2))] : List va_W)) ++ (List.flatten ([] : List va_W))) H := vP_fa (vP_perm hP (bP (List.Perm.refl _)))
    have hDx : va_D A ((List.flatten ([(oX7 (p0a 0) p0a p0k (o_39.1) p0l), (oX6 (p0a 3) p0_2a p0_2k p0_2w p0_2l), (oX10 (p0a 2) p0_1a p0_1k (o_39.2.1) (o_39.2.2))] : List va_W)) ++ (List.flatten ([] : List va_W))) := vD_fa (vD_perm hD (bP (List.Perm.refl _)))
    have hKx : va_K (dC, dI) cls ((List.flatten ([(tX7 p0k), (tX6 p0_2k), (tX10 p0_1k)] : List (List (ClassId × FieldType)))) ++ (List.flatten ([] : List (List (ClassId × FieldType))))) s := vK_fa (vK_perm hK (bP (List.Perm.refl _)))
    have hPc := vP_l hPx
    have hDc := vD_l hDx
    have hKc := vK_l hKx
    have hFc := vfree hDx hS hA
    refine va_calli (va_runV (As := [.int 0]) (rest := []) ⟨hx, hb, hml, hown, hts⟩ (hkk_readTest dC dI (p0a := p0a) (p0k := p0k) (p0w := (o_39.1)) (p0l := p0l) (p1 := 0) (aK := aK) (aV := aV) (p0_2a := p0_2a) (p0_2k := p0_2k) (p0_2w := p0_2w) (p0_2l := p0_2l) (p0_1a := p0_1a) (p0_1k := p0_1k) (p0_1w := (o_39.2.1)) (p0_1l := (o_39.2.2)) (sz := _) (o := o_40) (hrun := hc_40)) (cwV 1 hts (gi_V qw1410 qw1411 qw1412 qw65 (gi_z qw1409)) rfl rfl rfl (by decide +kernel) ⟨rmF9, rmL9 (n := 27) (Nat.le_of_ble_eq_true rfl)⟩) ⟨PRE.blind, va_recv hKc hPc (ci := 1) (q0 := 0) rfl rfl, PRE.of (ENV.add hE st9_m hro_st) hS hFc hPc hKc hDc⟩ rfl rfl hl.1 rfl (lv_room (Nat.le_of_ble_eq_true rfl)) dX7_readStatement_232 ⟨(Nat.le_of_ble_eq_true rfl), (Nat.le_of_ble_eq_true rfl)⟩) hS (fun q _ h => hFc q h) hFc (fun r41 u t H locs ht hvm hw hB hz1 hk1 hS => ?_)
    obtain ⟨b1, b2, b3⟩ := hB
    rw [ht] at b1
    obtain ⟨hP, hD, hK⟩ := JOINC (wc := (List.flatten ([(oX7 (p0a 0) p0a p0k (o_39.1) p0l), (oX6 (p0a 3) p0_2a p0_2k p0_2w p0_2l), (oX10 (p0a 2) p0_1a p0_1k (o_39.2.1) (o_39.2.2))] : List va_W))) (wr := (List.flatten ([] : List va_W))) (w1 := (List.flatten ([(oX7 (p0a 0) p0a p0k (o_40.2.1) (o_40.2.2.1)), (oX6 (p0a 3) p0_2a p0_2k (o_40.2.2.2.1) p0_2l), (oX10 (p0a 2) p0_1a p0_1k (o_40.2.2.2.2.1) (o_40.2.2.2.2.2))] : List va_W))) (t1 := (List.flatten ([(tX7 p0k), (tX6 p0_2k), (tX10 p0_1k)] : List (List (ClassId × FieldType))))) hPx hDx hKx hk1 hFc b1 (va_K.moved hvm.symm b2) b3
    have hP : va_P (dC, dI) cls (List.flatten ([(oX7 (p0a 0) p0a p0k (o_40.2.1) (o_40.2.2.1)), (oX6 (p0a 3) p0_2a p0_2k (o_40.2.2.2.1) p0_2l), (oX10 (p0a 2) p0_1a p0_1k (o_40.2.2.2.2.1) (o_40.2.2.2.2.2))] : List va_W)) H := vP_perm (vP_fb hP) (bP (List.Perm.refl _))
    have hD : va_D A (List.flatten ([(oX7 (p0a 0) p0a p0k (o_40.2.1) (o_40.2.2.1)), (oX6 (p0a 3) p0_2a p0_2k (o_40.2.2.2.1) p0_2l), (oX10 (p0a 2) p0_1a p0_1k (o_40.2.2.2.2.1) (o_40.2.2.2.2.2))] : List va_W)) := vD_perm (vD_fb hD) (bP (List.Perm.refl _))
    have hK : va_K (dC, dI) cls (List.flatten ([(tX7 p0k), (tX6 p0_2k), (tX10 p0_1k)] : List (List (ClassId × FieldType)))) s := vK_perm (vK_fb hK) (bP (List.Perm.refl _))
    obtain rfl : r41 = (o_40.1) := hw
    refine lv_pop hx hb dX7_readStatement_235 rfl ?_
    refine lv_aload_n hx hb dX7_readStatement_236 rfl (lv_at hl 1 rfl) ?_
    refine lv_bipush (v := 93) hx hb dX7_readStatement_237 (by decide) ?_
    obtain ⟨o_42, hc_42, hrun⟩ := bnd9 hrun
    have hPx : va_P (dC, dI) cls ((List.flatten ([(oX7 (p0a 0) p0a p0k (o_40.2.1) (o_40.2.2.1)), (oX10 (p0a 2) p0_1a p0_1k (o_40.2.2.2.2.1) (o_40.2.2.2.2.2))] : List va_W)) ++ (List.flatten ([(oX6 (p0a 3) p0_2a p0_2k (o_40.2.2.2.1) p0_2l)] : List va_W))) H := vP_fa (vP_perm hP (bP (((List.Perm.refl _)).trans ((((((List.Perm.refl _)).cons _).trans (List.Perm.swap _ _ _))).cons _))))
    have hDx : va_D A ((List.flatten ([(oX7 (p0a 0) p0a p0k (o_40.2.1) (o_40.2.2.1)), (oX10 (p0a 2) p0_1a p0_1k (o_40.2.2.2.2.1) (o_40.2.2.2.2.2))] : List va_W)) ++ (List.flatten ([(oX6 (p0a 3) p0_2a p0_2k (o_40.2.2.2.1) p0_2l)] : List va_W))) := vD_fa (vD_perm hD (bP (((List.Perm.refl _)).trans ((((((List.Perm.refl _)).cons _).trans (List.Perm.swap _ _ _))).cons _))))
    have hKx : va_K (dC, dI) cls ((List.flatten ([(tX7 p0k), (tX10 p0_1k)] : List (List (ClassId × FieldType)))) ++ (List.flatten ([(tX6 p0_2k)] : List (List (ClassId × FieldType))))) s := vK_fa (vK_perm hK (bP (((List.Perm.refl _)).trans ((((((List.Perm.refl _)).cons _).trans (List.Perm.swap _ _ _))).cons _))))
    have hPc := vP_l hPx
    have hDc := vD_l hDx
    have hKc := vK_l hKx
    have hFc := vfree hDx hS hA
    refine va_callv (va_runV (As := [.int 93]) (rest := []) ⟨hx, hb, hml, hown, hts⟩ (kX7_expect l dC dI (p0a := p0a) (p0k := p0k) (p0w := (o_40.2.1)) (p0l := (o_40.2.2.1)) (p1 := 93) (aK := aK) (aV := aV) (p0_1a := p0_1a) (p0_1k := p0_1k) (p0_1w := (o_40.2.2.2.2.1)) (p0_1l := (o_40.2.2.2.2.2)) (sz := _) (o := o_42) (hrun := hc_42)) (cwV 1 hts (gi_V qw1386 qw1387 qw1388 qw65 (gi_z qw1385)) rfl rfl rfl (by decide +kernel) ⟨rmF (Nat.le_of_ble_eq_true rfl), rmL (Nat.le_of_ble_eq_true rfl)⟩) ⟨PRE.blind, va_recv hKc hPc (ci := 1) (q0 := 0) rfl rfl, PRE.of (ENV.add hE st9_m hro_st) hS hFc hPc hKc hDc⟩ rfl rfl hl.1 rfl (lv_room (Nat.le_of_ble_eq_true rfl)) dX7_readStatement_239 ⟨(Nat.le_of_ble_eq_true rfl), (Nat.le_of_ble_eq_true rfl)⟩) hS (fun q _ h => hFc q h) hFc (fun u t H locs ht hvm hw hB hz1 hk1 hS => ?_)
    obtain ⟨b1, b2, b3⟩ := hB
    rw [ht] at b1
    obtain ⟨hP, hD, hK⟩ := JOINC (wc := (List.flatten ([(oX7 (p0a 0) p0a p0k (o_40.2.1) (o_40.2.2.1)), (oX10 (p0a 2) p0_1a p0_1k (o_40.2.2.2.2.1) (o_40.2.2.2.2.2))] : List va_W))) (wr := (List.flatten ([(oX6 (p0a 3) p0_2a p0_2k (o_40.2.2.2.1) p0_2l)] : List va_W))) (w1 := (List.flatten ([(oX7 (p0a 0) p0a p0k (o_42.1) (o_40.2.2.1)), (oX10 (p0a 2) p0_1a p0_1k (o_42.2.1) (o_42.2.2))] : List va_W))) (t1 := (List.flatten ([(tX7 p0k), (tX10 p0_1k)] : List (List (ClassId × FieldType))))) hPx hDx hKx hk1 hFc b1 (va_K.moved hvm.symm b2) b3
    have hP : va_P (dC, dI) cls (List.flatten ([(oX7 (p0a 0) p0a p0k (o_42.1) (o_40.2.2.1)), (oX6 (p0a 3) p0_2a p0_2k (o_40.2.2.2.1) p0_2l), (oX10 (p0a 2) p0_1a p0_1k (o_42.2.1) (o_42.2.2))] : List va_W)) H := vP_perm (vP_fb hP) (bP (((List.Perm.refl _)).trans ((((((List.Perm.refl _)).cons _).trans (List.Perm.swap _ _ _))).cons _)))
    have hD : va_D A (List.flatten ([(oX7 (p0a 0) p0a p0k (o_42.1) (o_40.2.2.1)), (oX6 (p0a 3) p0_2a p0_2k (o_40.2.2.2.1) p0_2l), (oX10 (p0a 2) p0_1a p0_1k (o_42.2.1) (o_42.2.2))] : List va_W)) := vD_perm (vD_fb hD) (bP (((List.Perm.refl _)).trans ((((((List.Perm.refl _)).cons _).trans (List.Perm.swap _ _ _))).cons _)))
    have hK : va_K (dC, dI) cls (List.flatten ([(tX7 p0k), (tX6 p0_2k), (tX10 p0_1k)] : List (List (ClassId × FieldType)))) s := vK_perm (vK_fb hK) (bP (((List.Perm.refl _)).trans ((((((List.Perm.refl _)).cons _).trans (List.Perm.swap _ _ _))).cons _)))
    refine lv_aload_n hx hb dX7_readStatement_242 rfl (lv_at hl 1 rfl) ?_
    refine lv_bipush (v := 61) hx hb dX7_readStatement_243 (by decide) ?_
    obtain ⟨o_43, hc_43, hrun⟩ := bnd9 hrun
    have hPx : va_P (dC, dI) cls ((List.flatten ([(oX7 (p0a 0) p0a p0k (o_42.1) (o_40.2.2.1)), (oX10 (p0a 2) p0_1a p0_1k (o_42.2.1) (o_42.2.2))] : List va_W)) ++ (List.flatten ([(oX6 (p0a 3) p0_2a p0_2k (o_40.2.2.2.1) p0_2l)] : List va_W))) H := vP_fa (vP_perm hP (bP (((List.Perm.refl _)).trans ((((((List.Perm.refl _)).cons _).trans (List.Perm.swap _ _ _))).cons _))))
    have hDx : va_D A ((List.flatten ([(oX7 (p0a 0) p0a p0k (o_42.1) (o_40.2.2.1)), (oX10 (p0a 2) p0_1a p0_1k (o_42.2.1) (o_42.2.2))] : List va_W)) ++ (List.flatten ([(oX6 (p0a 3) p0_2a p0_2k (o_40.2.2.2.1) p0_2l)] : List va_W))) := vD_fa (vD_perm hD (bP (((List.Perm.refl _)).trans ((((((List.Perm.refl _)).cons _).trans (List.Perm.swap _ _ _))).cons _))))
    have hKx : va_K (dC, dI) cls ((List.flatten ([(tX7 p0k), (tX10 p0_1k)] : List (List (ClassId × FieldType)))) ++ (List.flatten ([(tX6 p0_2k)] : List (List (ClassId × FieldType))))) s := vK_fa (vK_perm hK (bP (((List.Perm.refl _)).trans ((((((List.Perm.refl _)).cons _).trans (List.Perm.swap _ _ _))).cons _))))
    have hPc := vP_l hPx
    have hDc := vD_l hDx
    have hKc := vK_l hKx
    have hFc := vfree hDx hS hA
    refine va_callv (va_runV (As := [.int 61]) (rest := []) ⟨hx, hb, hml, hown, hts⟩ (kX7_expect l dC dI (p0a := p0a) (p0k := p0k) (p0w := (o_42.1)) (p0l := (o_40.2.2.1)) (p1 := 61) (aK := aK) (aV := aV) (p0_1a := p0_1a) (p0_1k := p0_1k) (p0_1w := (o_42.2.1)) (p0_1l := (o_42.2.2)) (sz := _) (o := o_43) (hrun := hc_43)) (cwV 1 hts (gi_V qw1386 qw1387 qw1388 qw65 (gi_z qw1385)) rfl rfl rfl (by decide +kernel) ⟨rmF (Nat.le_of_ble_eq_true rfl), rmL (Nat.le_of_ble_eq_true rfl)⟩) ⟨PRE.blind, va_recv hKc hPc (ci := 1) (q0 := 0) rfl rfl, PRE.of (ENV.add hE st9_m hro_st) hS hFc hPc hKc hDc⟩ rfl rfl hl.1 rfl (lv_room (Nat.le_of_ble_eq_true rfl)) dX7_readStatement_245 ⟨(Nat.le_of_ble_eq_true rfl), (Nat.le_of_ble_eq_true rfl)⟩) hS (fun q _ h => hFc q h) hFc (fun u t H locs ht hvm hw hB hz1 hk1 hS => ?_)
    obtain ⟨b1, b2, b3⟩ := hB
    rw [ht] at b1
    obtain ⟨hP, hD, hK⟩ := JOINC (wc := (List.flatten ([(oX7 (p0a 0) p0a p0k (o_42.1) (o_40.2.2.1)), (oX10 (p0a 2) p0_1a p0_1k (o_42.2.1) (o_42.2.2))] : List va_W))) (wr := (List.flatten ([(oX6 (p0a 3) p0_2a p0_2k (o_40.2.2.2.1) p0_2l)] : List va_W))) (w1 := (List.flatten ([(oX7 (p0a 0) p0a p0k (o_43.1) (o_40.2.2.1)), (oX10 (p0a 2) p0_1a p0_1k (o_43.2.1) (o_43.2.2))] : List va_W))) (t1 := (List.flatten ([(tX7 p0k), (tX10 p0_1k)] : List (List (ClassId × FieldType))))) hPx hDx hKx hk1 hFc b1 (va_K.moved hvm.symm b2) b3
    have hP : va_P (dC, dI) cls (List.flatten ([(oX7 (p0a 0) p0a p0k (o_43.1) (o_40.2.2.1)), (oX6 (p0a 3) p0_2a p0_2k (o_40.2.2.2.1) p0_2l), (oX10 (p0a 2) p0_1a p0_1k (o_43.2.1) (o_43.2.2))] : List va_W)) H := vP_perm (vP_fb hP) (bP (((List.Perm.refl _)).trans ((((((List.Perm.refl _)).cons _).trans (List.Perm.swap _ _ _))).cons _)))
    have hD : va_D A (List.flatten ([(oX7 (p0a 0) p0a p0k (o_43.1) (o_40.2.2.1)), (oX6 (p0a 3) p0_2a p0_2k (o_40.2.2.2.1) p0_2l), (oX10 (p0a 2) p0_1a p0_1k (o_43.2.1) (o_43.2.2))] : List va_W)) := vD_perm (vD_fb hD) (bP (((List.Perm.refl _)).trans ((((((List.Perm.refl _)).cons _).trans (List.Perm.swap _ _ _))).cons _)))
    have hK : va_K (dC, dI) cls (List.flatten ([(tX7 p0k), (tX6 p0_2k), (tX10 p0_1k)] : List (List (ClassId × FieldType)))) s := vK_perm (vK_fb hK) (bP (((List.Perm.refl _)).trans ((((((List.Perm.refl _)).cons _).trans (List.Perm.swap _ _ _))).cons _)))
    refine lv_aload_n hx hb dX7_readStatement_248 rfl (lv_at hl 1 rfl) ?_
    refine lv_iconst (v := 0) hx hb dX7_readStatement_249 (by decide) ?_
    obtain ⟨o_44, hc_44, hrun⟩ := bnd9 hrun
    have hPx : va_P (dC, dI) cls ((List.flatten ([(oX7 (p0a 0) p0a p0k (o_43.1) (o_40.2.2.1)), (oX6 (p0a 3) p0_2a p0_2k (o_40.2.2.2.1) p0_2l), (oX10 (p0a 2) p0_1a p0_1k (o_43.2.1) (o_43.2.2))] : List va_W)) ++ (List.flatten ([] : List va_W))) H := vP_fa (vP_perm hP (bP (List.Perm.refl _)))
    have hDx : va_D A ((List.flatten ([(oX7 (p0a 0) p0a p0k (o_43.1) (o_40.2.2.1)), (oX6 (p0a 3) p0_2a p0_2k (o_40.2.2.2.1) p0_2l), (oX10 (p0a 2) p0_1a p0_1k (o_43.2.1) (o_43.2.2))] : List va_W)) ++ (List.flatten ([] : List va_W))) := vD_fa (vD_perm hD (bP (List.Perm.refl _)))
    have hKx : va_K (dC, dI) cls ((List.flatten ([(tX7 p0k), (tX6 p0_2k), (tX10 p0_1k)] : List (List (ClassId × FieldType)))) ++ (List.flatten ([] : List (List (ClassId × FieldType))))) s := vK_fa (vK_perm hK (bP (List.Perm.refl _)))
    have hPc := vP_l hPx
    have hDc := vD_l hDx
    have hKc := vK_l hKx
    have hFc := vfree hDx hS hA
    refine va_calli (va_runV (As := [.int 0]) (rest := []) ⟨hx, hb, hml, hown, hts⟩ (hkk_readTest dC dI (p0a := p0a) (p0k := p0k) (p0w := (o_43.1)) (p0l := (o_40.2.2.1)) (p1 := 0) (aK := aK) (aV := aV) (p0_2a := p0_2a) (p0_2k := p0_2k) (p0_2w := (o_40.2.2.2.1)) (p0_2l := p0_2l) (p0_1a := p0_1a) (p0_1k := p0_1k) (p0_1w := (o_43.2.1)) (p0_1l := (o_43.2.2)) (sz := _) (o := o_44) (hrun := hc_44)) (cwV 1 hts (gi_V qw1410 qw1411 qw1412 qw65 (gi_z qw1409)) rfl rfl rfl (by decide +kernel) ⟨rmF9, rmL9 (n := 27) (Nat.le_of_ble_eq_true rfl)⟩) ⟨PRE.blind, va_recv hKc hPc (ci := 1) (q0 := 0) rfl rfl, PRE.of (ENV.add hE st9_m hro_st) hS hFc hPc hKc hDc⟩ rfl rfl hl.1 rfl (lv_room (Nat.le_of_ble_eq_true rfl)) dX7_readStatement_250 ⟨(Nat.le_of_ble_eq_true rfl), (Nat.le_of_ble_eq_true rfl)⟩) hS (fun q _ h => hFc q h) hFc (fun r45 u t H locs ht hvm hw hB hz1 hk1 hS => ?_)
    obtain ⟨b1, b2, b3⟩ := hB
    rw [ht] at b1
    obtain ⟨hP, hD, hK⟩ := JOINC (wc := (List.flatten ([(oX7 (p0a 0) p0a p0k (o_43.1) (o_40.2.2.1)), (oX6 (p0a 3) p0_2a p0_2k (o_40.2.2.2.1) p0_2l), (oX10 (p0a 2) p0_1a p0_1k (o_43.2.1) (o_43.2.2))] : List va_W))) (wr := (List.flatten ([] : List va_W))) (w1 := (List.flatten ([(oX7 (p0a 0) p0a p0k (o_44.2.1) (o_44.2.2.1)), (oX6 (p0a 3) p0_2a p0_2k (o_44.2.2.2.1) p0_2l), (oX10 (p0a 2) p0_1a p0_1k (o_44.2.2.2.2.1) (o_44.2.2.2.2.2))] : List va_W))) (t1 := (List.flatten ([(tX7 p0k), (tX6 p0_2k), (tX10 p0_1k)] : List (List (ClassId × FieldType))))) hPx hDx hKx hk1 hFc b1 (va_K.moved hvm.symm b2) b3
    have hP : va_P (dC, dI) cls (List.flatten ([(oX7 (p0a 0) p0a p0k (o_44.2.1) (o_44.2.2.1)), (oX6 (p0a 3) p0_2a p0_2k (o_44.2.2.2.1) p0_2l), (oX10 (p0a 2) p0_1a p0_1k (o_44.2.2.2.2.1) (o_44.2.2.2.2.2))] : List va_W)) H := vP_perm (vP_fb hP) (bP (List.Perm.refl _))
    have hD : va_D A (List.flatten ([(oX7 (p0a 0) p0a p0k (o_44.2.1) (o_44.2.2.1)), (oX6 (p0a 3) p0_2a p0_2k (o_44.2.2.2.1) p0_2l), (oX10 (p0a 2) p0_1a p0_1k (o_44.2.2.2.2.1) (o_44.2.2.2.2.2))] : List va_W)) := vD_perm (vD_fb hD) (bP (List.Perm.refl _))
    have hK : va_K (dC, dI) cls (List.flatten ([(tX7 p0k), (tX6 p0_2k), (tX10 p0_1k)] : List (List (ClassId × FieldType)))) s := vK_perm (vK_fb hK) (bP (List.Perm.refl _))
    obtain rfl : r45 = (o_44.1) := hw
    refine lv_pop hx hb dX7_readStatement_253 rfl ?_
    refine lv_aload_n hx hb dX7_readStatement_254 rfl (lv_at hl 1 rfl) ?_
    refine va_get (D := (dC, dI)) (ci := 1) (v := .ref (p0a 3)) (C := RX7) (T := TX7) (N := 18) hx hb hts i_X7 hown hK hP 0 rfl rfl 2 (by decide) (hts _ qw26) (fun _ h9 => h9) rfl dX7_readStatement_255 ?_
    refine lv_bipush (v := 18) hx hb dX7_readStatement_258 (by decide) ?_
    refine lv_iconst (v := 0) hx hb dX7_readStatement_260 (by decide) ?_
    refine lv_iconst (v := 0) hx hb dX7_readStatement_261 (by decide) ?_
    obtain ⟨o_46, hc_46, hrun⟩ := bnd9 hrun
    have hPx : va_P (dC, dI) cls ((List.flatten ([(oX6 (p0a 3) p0_2a p0_2k (o_44.2.2.2.1) p0_2l)] : List va_W)) ++ (List.flatten ([(oX7 (p0a 0) p0a p0k (o_44.2.1) (o_44.2.2.1)), (oX10 (p0a 2) p0_1a p0_1k (o_44.2.2.2.2.1) (o_44.2.2.2.2.2))] : List va_W))) H := vP_fa (vP_perm hP (bP ((((List.Perm.refl _)).cons _).trans (List.Perm.swap _ _ _))))
    have hDx : va_D A ((List.flatten ([(oX6 (p0a 3) p0_2a p0_2k (o_44.2.2.2.1) p0_2l)] : List va_W)) ++ (List.flatten ([(oX7 (p0a 0) p0a p0k (o_44.2.1) (o_44.2.2.1)), (oX10 (p0a 2) p0_1a p0_1k (o_44.2.2.2.2.1) (o_44.2.2.2.2.2))] : List va_W))) := vD_fa (vD_perm hD (bP ((((List.Perm.refl _)).cons _).trans (List.Perm.swap _ _ _))))
    have hKx : va_K (dC, dI) cls ((List.flatten ([(tX6 p0_2k)] : List (List (ClassId × FieldType)))) ++ (List.flatten ([(tX7 p0k), (tX10 p0_1k)] : List (List (ClassId × FieldType))))) s := vK_fa (vK_perm hK (bP ((((List.Perm.refl _)).cons _).trans (List.Perm.swap _ _ _))))
    have hPc := vP_l hPx
    have hDc := vD_l hDx
    have hKc := vK_l hKx
    have hFc := vfree hDx hS hA
    refine va_callv (va_runV (As := [.int 18, .int 0, .int 0]) (rest := []) ⟨hx, hb, hml, hown, hts⟩ (kX6_emit l dC dI (p0a := (st0 (p0a 3) p0_2a)) (p0k := p0_2k) (p0w := (o_44.2.2.2.1)) (p0l := p0_2l) (p1 := 18) (p2 := 0) (p3 := 0) (sz := _) (o := o_46) (hrun := hc_46)) (cwV 3 hts (gi_V qw42 qw43 qw44 qw33 (gi_z qw41)) rfl rfl rfl (by decide +kernel) ⟨rmF (Nat.le_of_ble_eq_true rfl), rmL (Nat.le_of_ble_eq_true rfl)⟩) ⟨PRE.blind, va_recv hKc hPc (ci := 2) (q0 := 0) rfl rfl, PRE.of hE hS hFc hPc hKc hDc⟩ rfl rfl hl.1 rfl (lv_room (Nat.le_of_ble_eq_true rfl)) dX7_readStatement_262 ⟨(Nat.le_of_ble_eq_true rfl), (Nat.le_of_ble_eq_true rfl)⟩) hS (fun q _ h => hFc q h) hFc (fun u t H locs ht hvm hw hB hz1 hk1 hS => ?_)
    obtain ⟨b1, b2, b3⟩ := hB
    rw [ht] at b1
    obtain ⟨hP, hD, hK⟩ := JOINC (wc := (List.flatten ([(oX6 (p0a 3) p0_2a p0_2k (o_44.2.2.2.1) p0_2l)] : List va_W))) (wr := (List.flatten ([(oX7 (p0a 0) p0a p0k (o_44.2.1) (o_44.2.2.1)), (oX10 (p0a 2) p0_1a p0_1k (o_44.2.2.2.2.1) (o_44.2.2.2.2.2))] : List va_W))) (w1 := (List.flatten ([(oX6 (p0a 3) p0_2a p0_2k o_46 p0_2l)] : List va_W))) (t1 := (List.flatten ([(tX6 p0_2k)] : List (List (ClassId × FieldType))))) hPx hDx hKx hk1 hFc b1 (va_K.moved hvm.symm b2) b3
    have hP : va_P (dC, dI) cls (List.flatten ([(oX7 (p0a 0) p0a p0k (o_44.2.1) (o_44.2.2.1)), (oX6 (p0a 3) p0_2a p0_2k o_46 p0_2l), (oX10 (p0a 2) p0_1a p0_1k (o_44.2.2.2.2.1) (o_44.2.2.2.2.2))] : List va_W)) H := vP_perm (vP_fb hP) (bP ((((List.Perm.refl _)).cons _).trans (List.Perm.swap _ _ _)))
    have hD : va_D A (List.flatten ([(oX7 (p0a 0) p0a p0k (o_44.2.1) (o_44.2.2.1)), (oX6 (p0a 3) p0_2a p0_2k o_46 p0_2l), (oX10 (p0a 2) p0_1a p0_1k (o_44.2.2.2.2.1) (o_44.2.2.2.2.2))] : List va_W)) := vD_perm (vD_fb hD) (bP ((((List.Perm.refl _)).cons _).trans (List.Perm.swap _ _ _)))
    have hK : va_K (dC, dI) cls (List.flatten ([(tX7 p0k), (tX6 p0_2k), (tX10 p0_1k)] : List (List (ClassId × FieldType)))) s := vK_perm (vK_fb hK) (bP ((((List.Perm.refl _)).cons _).trans (List.Perm.swap _ _ _)))
    refine lv_aload_n hx hb dX7_readStatement_265 rfl (lv_at hl 1 rfl) ?_
    refine lv_bipush (v := 59) hx hb dX7_readStatement_266 (by decide) ?_
    obtain ⟨o_47, hc_47, hrun⟩ := bnd9 hrun
    have hPx : va_P (dC, dI) cls ((List.flatten ([(oX7 (p0a 0) p0a p0k (o_44.2.1) (o_44.2.2.1)), (oX10 (p0a 2) p0_1a p0_1k (o_44.2.2.2.2.1) (o_44.2.2.2.2.2))] : List va_W)) ++ (List.flatten ([(oX6 (p0a 3) p0_2a p0_2k o_46 p0_2l)] : List va_W))) H := vP_fa (vP_perm hP (bP (((List.Perm.refl _)).trans ((((((List.Perm.refl _)).cons _).trans (List.Perm.swap _ _ _))).cons _))))
    have hDx : va_D A ((List.flatten ([(oX7 (p0a 0) p0a p0k (o_44.2.1) (o_44.2.2.1)), (oX10 (p0a 2) p0_1a p0_1k (o_44.2.2.2.2.1) (o_44.2.2.2.2.2))] : List va_W)) ++ (List.flatten ([(oX6 (p0a 3) p0_2a p0_2k o_46 p0_2l)] : List va_W))) := vD_fa (vD_perm hD (bP (((List.Perm.refl _)).trans ((((((List.Perm.refl _)).cons _).trans (List.Perm.swap _ _ _))).cons _))))
    have hKx : va_K (dC, dI) cls ((List.flatten ([(tX7 p0k), (tX10 p0_1k)] : List (List (ClassId × FieldType)))) ++ (List.flatten ([(tX6 p0_2k)] : List (List (ClassId × FieldType))))) s := vK_fa (vK_perm hK (bP (((List.Perm.refl _)).trans ((((((List.Perm.refl _)).cons _).trans (List.Perm.swap _ _ _))).cons _))))
    have hPc := vP_l hPx
    have hDc := vD_l hDx
    have hKc := vK_l hKx
    have hFc := vfree hDx hS hA
    refine va_callv (va_runV (As := [.int 59]) (rest := []) ⟨hx, hb, hml, hown, hts⟩ (kX7_expect l dC dI (p0a := p0a) (p0k := p0k) (p0w := (o_44.2.1)) (p0l := (o_44.2.2.1)) (p1 := 59) (aK := aK) (aV := aV) (p0_1a := p0_1a) (p0_1k := p0_1k) (p0_1w := (o_44.2.2.2.2.1)) (p0_1l := (o_44.2.2.2.2.2)) (sz := _) (o := o_47) (hrun := hc_47)) (cwV 1 hts (gi_V qw1386 qw1387 qw1388 qw65 (gi_z qw1385)) rfl rfl rfl (by decide +kernel) ⟨rmF (Nat.le_of_ble_eq_true rfl), rmL (Nat.le_of_ble_eq_true rfl)⟩) ⟨PRE.blind, va_recv hKc hPc (ci := 1) (q0 := 0) rfl rfl, PRE.of (ENV.add hE st9_m hro_st) hS hFc hPc hKc hDc⟩ rfl rfl hl.1 rfl (lv_room (Nat.le_of_ble_eq_true rfl)) dX7_readStatement_268 ⟨(Nat.le_of_ble_eq_true rfl), (Nat.le_of_ble_eq_true rfl)⟩) hS (fun q _ h => hFc q h) hFc (fun u t H locs ht hvm hw hB hz1 hk1 hS => ?_)
    obtain ⟨b1, b2, b3⟩ := hB
    rw [ht] at b1
    obtain ⟨hP, hD, hK⟩ := JOINC (wc := (List.flatten ([(oX7 (p0a 0) p0a p0k (o_44.2.1) (o_44.2.2.1)), (oX10 (p0a 2) p0_1a p0_1k (o_44.2.2.2.2.1) (o_44.2.2.2.2.2))] : List va_W))) (wr := (List.flatten ([(oX6 (p0a 3) p0_2a p0_2k o_46 p0_2l)] : List va_W))) (w1 := (List.flatten ([(oX7 (p0a 0) p0a p0k (o_47.1) (o_44.2.2.1)), (oX10 (p0a 2) p0_1a p0_1k (o_47.2.1) (o_47.2.2))] : List va_W))) (t1 := (List.flatten ([(tX7 p0k), (tX10 p0_1k)] : List (List (ClassId × FieldType))))) hPx hDx hKx hk1 hFc b1 (va_K.moved hvm.symm b2) b3
    have hP : va_P (dC, dI) cls (List.flatten ([(oX7 (p0a 0) p0a p0k (o_47.1) (o_44.2.2.1)), (oX6 (p0a 3) p0_2a p0_2k o_46 p0_2l), (oX10 (p0a 2) p0_1a p0_1k (o_47.2.1) (o_47.2.2))] : List va_W)) H := vP_perm (vP_fb hP) (bP (((List.Perm.refl _)).trans ((((((List.Perm.refl _)).cons _).trans (List.Perm.swap _ _ _))).cons _)))
    have hD : va_D A (List.flatten ([(oX7 (p0a 0) p0a p0k (o_47.1) (o_44.2.2.1)), (oX6 (p0a 3) p0_2a p0_2k o_46 p0_2l), (oX10 (p0a 2) p0_1a p0_1k (o_47.2.1) (o_47.2.2))] : List va_W)) := vD_perm (vD_fb hD) (bP (((List.Perm.refl _)).trans ((((((List.Perm.refl _)).cons _).trans (List.Perm.swap _ _ _))).cons _)))
    have hK : va_K (dC, dI) cls (List.flatten ([(tX7 p0k), (tX6 p0_2k), (tX10 p0_1k)] : List (List (ClassId × FieldType)))) s := vK_perm (vK_fb hK) (bP (((List.Perm.refl _)).trans ((((((List.Perm.refl _)).cons _).trans (List.Perm.swap _ _ _))).cons _)))
    refine lv_goto (tgt := 346) hx hb dX7_readStatement_271 (by decide) ?_
    exact J346 (o_47.1) (o_44.2.2.1) o_46 (o_47.2.1) (o_47.2.2) _ _ _ hrun hP hD hK hS (lv_sub hl [1, 0] rfl)
  refine lv_lookup (off := 327) (tgt := 342) hx hb dX7_readStatement_15 (by decide) (by rw [lv_osw hc2 (by decide), lv_osw hc15 (by decide), lv_osw hc17 (by decide), lv_osw hc19 (by decide), lv_osw hc21 (by decide), lv_osw hc27 (by decide), lv_osw hc36 (by decide), lv_osw hc38 (by decide)]; rfl) (by decide) ?_
  refine lv_aload_n hx hb dX7_readStatement_342 rfl (lv_at hl 1 rfl) ?_
  cases hrun
set_option maxHeartbeats 16000000 in
set_option maxRecDepth 100000 in
theorem kX7_readIf {zs : ZS} (l : Launch) (kk_readTest : ST → SL → Int32 → ST → SL → ST → SL → Option (Int32 × ST × SL × ST × ST × SL)) (kk_readBlock : ST → SL → ST → SL → ST → SL → Option (ST × SL × ST × ST × SL)) (F9 L9 : Nat) (hkk_readTest : ∀ {zs : ZS} (dC : Nat → ClassId) (dI : Nat → Nat → Nat) (p0a : Nat → Nat) (p0k : Nat → ClassId) (p0w : ST) (p0l : SL) (p1 : Int32) (aK : Nat → Nat) (aV : Nat → Nat) (p0_2a : Nat → Nat) (p0_2k : Nat → ClassId) (p0_2w : ST) (p0_2l : SL) (p0_1a : Nat → Nat) (p0_1k : Nat → ClassId) (p0_1w : ST) (p0_1l : SL) (sz : Nat) (o : Int32 × ST × SL × ST × ST × SL) (hrun : kk_readTest p0w p0l p1 p0_2w p0_2l p0_1w p0_1l = some o), Met l yX7_readTest (wz yX7_readTest cX7_readTest 8 (Option.some Jvm.ClassFile.FieldType.int)) ({ frames := F9, cells := 0, slots := 0, locals := L9 } : Room) (va_Pc [.ref (p0a 0), .int p1] (PRE (zA zs (st9 aK aV)) dC dI (List.flatten ([(oX7 (p0a 0) p0a p0k p0w p0l), (oX6 (p0a 3) p0_2a p0_2k p0_2w p0_2l), (oX10 (p0a 2) p0_1a p0_1k p0_1w p0_1l)] : List va_W)) (List.flatten ([(tX7 p0k), (tX6 p0_2k), (tX10 p0_1k)] : List (List (ClassId × FieldType)))) sz)) (va_Qi (fun (r : Int32) (_ : Unit) => r = (o.1)) (fun _ t => POST dC dI (List.flatten ([(oX7 (p0a 0) p0a p0k (o.2.1) (o.2.2.1)), (oX6 (p0a 3) p0_2a p0_2k (o.2.2.2.1) p0_2l), (oX10 (p0a 2) p0_1a p0_1k (o.2.2.2.2.1) (o.2.2.2.2.2))] : List va_W)) (List.flatten ([(tX7 p0k), (tX6 p0_2k), (tX10 p0_1k)] : List (List (ClassId × FieldType)))) (va_A (List.flatten ([(oX7 (p0a 0) p0a p0k p0w p0l), (oX6 (p0a 3) p0_2a p0_2k p0_2w p0_2l), (oX10 (p0a 2) p0_1a p0_1k p0_1w p0_1l)] : List va_W)) sz) t) (va_A (List.flatten ([(oX7 (p0a 0) p0a p0k p0w p0l), (oX6 (p0a 3) p0_2a p0_2k p0_2w p0_2l), (oX10 (p0a 2) p0_1a p0_1k p0_1w p0_1l)] : List va_W)) sz)) 0 0 (va_A (List.flatten ([(oX7 (p0a 0) p0a p0k p0w p0l), (oX6 (p0a 3) p0_2a p0_2k p0_2w p0_2l), (oX10 (p0a 2) p0_1a p0_1k p0_1w p0_1l)] : List va_W)) sz)) (hkk_readBlock : ∀ {zs : ZS} (dC : Nat → ClassId) (dI : Nat → Nat → Nat) (p0a : Nat → Nat) (p0k : Nat → ClassId) (p0w : ST) (p0l : SL) (aK : Nat → Nat) (aV : Nat → Nat) (p0_2a : Nat → Nat) (p0_2k : Nat → ClassId) (p0_2w : ST) (p0_2l : SL) (p0_1a : Nat → Nat) (p0_1k : Nat → ClassId) (p0_1w : ST) (p0_1l : SL) (sz : Nat) (o : ST × SL × ST × ST × SL) (hrun : kk_readBlock p0w p0l p0_2w p0_2l p0_1w p0_1l = some o), Met l yX7_readBlock (wz yX7_readBlock cX7_readBlock 3 (Option.none : Option Jvm.ClassFile.FieldType)) ({ frames := F9, cells := 0, slots := 0, locals := L9 } : Room) (va_Pc [.ref (p0a 0)] (PRE (zA zs (st9 aK aV)) dC dI (List.flatten ([(oX7 (p0a 0) p0a p0k p0w p0l), (oX6 (p0a 3) p0_2a p0_2k p0_2w p0_2l), (oX10 (p0a 2) p0_1a p0_1k p0_1w p0_1l)] : List va_W)) (List.flatten ([(tX7 p0k), (tX6 p0_2k), (tX10 p0_1k)] : List (List (ClassId × FieldType)))) sz)) (va_Qv (fun (_ : Unit) => True) (fun _ t => POST dC dI (List.flatten ([(oX7 (p0a 0) p0a p0k (o.1) (o.2.1)), (oX6 (p0a 3) p0_2a p0_2k (o.2.2.1) p0_2l), (oX10 (p0a 2) p0_1a p0_1k (o.2.2.2.1) (o.2.2.2.2))] : List va_W)) (List.flatten ([(tX7 p0k), (tX6 p0_2k), (tX10 p0_1k)] : List (List (ClassId × FieldType)))) (va_A (List.flatten ([(oX7 (p0a 0) p0a p0k p0w p0l), (oX6 (p0a 3) p0_2a p0_2k p0_2w p0_2l), (oX10 (p0a 2) p0_1a p0_1k p0_1w p0_1l)] : List va_W)) sz) t) (va_A (List.flatten ([(oX7 (p0a 0) p0a p0k p0w p0l), (oX6 (p0a 3) p0_2a p0_2k p0_2w p0_2l), (oX10 (p0a 2) p0_1a p0_1k p0_1w p0_1l)] : List va_W)) sz)) 0 0 (va_A (List.flatten ([(oX7 (p0a 0) p0a p0k p0w p0l), (oX6 (p0a 3) p0_2a p0_2k p0_2w p0_2l), (oX10 (p0a 2) p0_1a p0_1k p0_1w p0_1l)] : List va_W)) sz)) (dC : Nat → ClassId) (dI : Nat → Nat → Nat) (p0a : Nat → Nat) (p0k : Nat → ClassId) (p0w : ST) (p0l : SL) (aK : Nat → Nat) (aV : Nat → Nat) (p0_2a : Nat → Nat) (p0_2k : Nat → ClassId) (p0_2w : ST) (p0_2l : SL) (p0_1a : Nat → Nat) (p0_1k : Nat → ClassId) (p0_1w : ST) (p0_1l : SL) (sz : Nat) (o : ST × SL × ST × ST × SL) (hrun : fX7_readIf kk_readTest kk_readBlock p0w p0l p0_2w p0_2l p0_1w p0_1l = some o) : Met l yX7_readIf (wz yX7_readIf cX7_readIf 3 (Option.none : Option Jvm.ClassFile.FieldType)) ({ frames := F9 + 8, cells := 0, slots := 0, locals := L9 + 400 } : Room) (va_Pc [.ref (p0a 0)] (PRE (zA zs (st9 aK aV)) dC dI (List.flatten ([(oX7 (p0a 0) p0a p0k p0w p0l), (oX6 (p0a 3) p0_2a p0_2k p0_2w p0_2l), (oX10 (p0a 2) p0_1a p0_1k p0_1w p0_1l)] : List va_W)) (List.flatten ([(tX7 p0k), (tX6 p0_2k), (tX10 p0_1k)] : List (List (ClassId × FieldType)))) sz)) (va_Qv (fun (_ : Unit) => True) (fun _ t => POST dC dI (List.flatten ([(oX7 (p0a 0) p0a p0k (o.1) (o.2.1)), (oX6 (p0a 3) p0_2a p0_2k (o.2.2.1) p0_2l), (oX10 (p0a 2) p0_1a p0_1k (o.2.2.2.1) (o.2.2.2.2))] : List va_W)) (List.flatten ([(tX7 p0k), (tX6 p0_2k), (tX10 p0_1k)] : List (List (ClassId × FieldType)))) (va_A (List.flatten ([(oX7 (p0a 0) p0a p0k p0w p0l), (oX6 (p0a 3) p0_2a p0_2k p0_2w p0_2l), (oX10 (p0a 2) p0_1a p0_1k p0_1w p0_1l)] : List va_W)) sz) t) (va_A (List.flatten ([(oX7 (p0a 0) p0a p0k p0w p0l), (oX6 (p0a 3) p0_2a p0_2k p0_2w p0_2l), (oX10 (p0a 2) p0_1a p0_1k p0_1w p0_1l)] : List va_W)) sz)) 0 0 (va_A (List.flatten ([(oX7 (p0a 0) p0a p0k p0w p0l), (oX6 (p0a 3) p0_2a p0_2k p0_2w p0_2l), (oX10 (p0a 2) p0_1a p0_1k p0_1w p0_1l)] : List va_W)) sz) := by
  refine Met.ofW (cc := cX7_readIf) (maxL := 3) (ret := (Option.none : Option Jvm.ClassFile.FieldType)) (by decide) rfl ?_
  intro p e s m args below meth c s₁ B hml hv
  obtain ⟨rfl, hsz, hP, hK, hD0, hE⟩ := hv
  have hx := B.exec
  have hb := B.bytes
  have hr := B.returns
  have hts0 := atoms_spec (ws := wz yX7_readIf cX7_readIf 3 (Option.none : Option Jvm.ClassFile.FieldType)) B.pre
  have hts : ∀ w ∈ gw, w.before _ s = true := fun w h => hts0 w (List.mem_cons_of_mem _ h)
  have hown : s.vm.findClass RX7 = some m.cls := findClass_of_methodNamed B.named
  have hlocks := B.notSynchronized
  subst hsz
  have hD := hD0.self (sz := s.heap.size)
  refine gQ9 ?_
  intro Q hQ
  generalize hAe : va_A (List.flatten ([(oX7 (p0a 0) p0a p0k p0w p0l), (oX6 (p0a 3) p0_2a p0_2k p0_2w p0_2l), (oX10 (p0a 2) p0_1a p0_1k p0_1w p0_1l)] : List va_W)) s.heap.size = A at hD hE hQ
  have hA : ∀ q : Nat, s.heap.size ≤ q → A q := fun q h => by rw [← hAe]; exact Or.inr h
  have hro := ENV.ex hE
  have hro_st := hro.2
  replace hro := hro.1
  have hS : va_S A s.heap s.heap [] := va_S.rf
  have hP : va_P (dC, dI) cls (List.flatten ([(oX7 (p0a 0) p0a p0k p0w p0l), (oX6 (p0a 3) p0_2a p0_2k p0_2w p0_2l), (oX10 (p0a 2) p0_1a p0_1k p0_1w p0_1l)] : List va_W)) s.heap := hP
  have hl := lv_entry ([.ref (p0a 0)]) (n := 3) (Nat.le_of_ble_eq_true rfl)
  rw [lg_entry_eq]
  generalize (lg_sl ([.ref (p0a 0)]) ++ List.replicate (3 - (lg_sl ([.ref (p0a 0)])).length) Slot.unset).toArray = ls at hl ⊢
  have hl : lv_has ls 3 [(0, .ref (p0a 0))] := hl
  obtain ⟨H, hHe⟩ : ∃ H, H = s.heap := ⟨_, rfl⟩
  obtain ⟨locs, hle⟩ : ∃ locs : List Loc, locs = [] := ⟨_, rfl⟩
  rw [← hHe] at hP
  have hS : va_S A s.heap H locs := by rw [hHe, hle]; exact hS
  show W p l e ({ frames := F9 + 8, cells := 0, slots := 0, locals := L9 + 400 } : Room) s m ([.ref (p0a 0)] : List Value).toArray below meth c s.heap [] 0 0 Q (F0 m 0 ls [])
  rw [← hle]
  refine wH9 hHe ?_
  unfold fX7_readIf at hrun
  refine lv_aload_n hx hb dX7_readIf_0 rfl (lv_at hl 0 rfl) ?_
  refine lv_bipush (v := 8) hx hb dX7_readIf_1 (by decide) ?_
  obtain ⟨o_1, hc_1, hrun⟩ := bnd9 hrun
  have hPx : va_P (dC, dI) cls ((List.flatten ([(oX7 (p0a 0) p0a p0k p0w p0l), (oX10 (p0a 2) p0_1a p0_1k p0_1w p0_1l)] : List va_W)) ++ (List.flatten ([(oX6 (p0a 3) p0_2a p0_2k p0_2w p0_2l)] : List va_W))) H := vP_fa (vP_perm hP (bP (((List.Perm.refl _)).trans ((((((List.Perm.refl _)).cons _).trans (List.Perm.swap _ _ _))).cons _))))
  have hDx : va_D A ((List.flatten ([(oX7 (p0a 0) p0a p0k p0w p0l), (oX10 (p0a 2) p0_1a p0_1k p0_1w p0_1l)] : List va_W)) ++ (List.flatten ([(oX6 (p0a 3) p0_2a p0_2k p0_2w p0_2l)] : List va_W))) := vD_fa (vD_perm hD (bP (((List.Perm.refl _)).trans ((((((List.Perm.refl _)).cons _).trans (List.Perm.swap _ _ _))).cons _))))
  have hKx : va_K (dC, dI) cls ((List.flatten ([(tX7 p0k), (tX10 p0_1k)] : List (List (ClassId × FieldType)))) ++ (List.flatten ([(tX6 p0_2k)] : List (List (ClassId × FieldType))))) s := vK_fa (vK_perm hK (bP (((List.Perm.refl _)).trans ((((((List.Perm.refl _)).cons _).trans (List.Perm.swap _ _ _))).cons _))))
  have hPc := vP_l hPx
  have hDc := vD_l hDx
  have hKc := vK_l hKx
  have hFc := vfree hDx hS hA
  refine va_callv (va_runV (As := [.int 8]) (rest := []) ⟨hx, hb, hml, hown, hts⟩ (kX7_expect l dC dI (p0a := p0a) (p0k := p0k) (p0w := p0w) (p0l := p0l) (p1 := 8) (aK := aK) (aV := aV) (p0_1a := p0_1a) (p0_1k := p0_1k) (p0_1w := p0_1w) (p0_1l := p0_1l) (sz := _) (o := o_1) (hrun := hc_1)) (cwV 1 hts (gi_V qw1386 qw1387 qw1388 qw65 (gi_z qw1385)) rfl rfl rfl (by decide +kernel) ⟨rmF (Nat.le_of_ble_eq_true rfl), rmL (Nat.le_of_ble_eq_true rfl)⟩) ⟨PRE.blind, va_recv hKc hPc (ci := 1) (q0 := 0) rfl rfl, PRE.of (ENV.add hE st9_m hro_st) hS hFc hPc hKc hDc⟩ rfl rfl hl.1 rfl (lv_room (Nat.le_of_ble_eq_true rfl)) dX7_readIf_3 ⟨(Nat.le_of_ble_eq_true rfl), (Nat.le_of_ble_eq_true rfl)⟩) hS (fun q _ h => hFc q h) hFc (fun u t H locs ht hvm hw hB hz1 hk1 hS => ?_)
  obtain ⟨b1, b2, b3⟩ := hB
  rw [ht] at b1
  obtain ⟨hP, hD, hK⟩ := JOINC (wc := (List.flatten ([(oX7 (p0a 0) p0a p0k p0w p0l), (oX10 (p0a 2) p0_1a p0_1k p0_1w p0_1l)] : List va_W))) (wr := (List.flatten ([(oX6 (p0a 3) p0_2a p0_2k p0_2w p0_2l)] : List va_W))) (w1 := (List.flatten ([(oX7 (p0a 0) p0a p0k (o_1.1) p0l), (oX10 (p0a 2) p0_1a p0_1k (o_1.2.1) (o_1.2.2))] : List va_W))) (t1 := (List.flatten ([(tX7 p0k), (tX10 p0_1k)] : List (List (ClassId × FieldType))))) hPx hDx hKx hk1 hFc b1 (va_K.moved hvm.symm b2) b3
  have hP : va_P (dC, dI) cls (List.flatten ([(oX7 (p0a 0) p0a p0k (o_1.1) p0l), (oX6 (p0a 3) p0_2a p0_2k p0_2w p0_2l), (oX10 (p0a 2) p0_1a p0_1k (o_1.2.1) (o_1.2.2))] : List va_W)) H := vP_perm (vP_fb hP) (bP (((List.Perm.refl _)).trans ((((((List.Perm.refl _)).cons _).trans (List.Perm.swap _ _ _))).cons _)))
  have hD : va_D A (List.flatten ([(oX7 (p0a 0) p0a p0k (o_1.1) p0l), (oX6 (p0a 3) p0_2a p0_2k p0_2w p0_2l), (oX10 (p0a 2) p0_1a p0_1k (o_1.2.1) (o_1.2.2))] : List va_W)) := vD_perm (vD_fb hD) (bP (((List.Perm.refl _)).trans ((((((List.Perm.refl _)).cons _).trans (List.Perm.swap _ _ _))).cons _)))
  have hK : va_K (dC, dI) cls (List.flatten ([(tX7 p0k), (tX6 p0_2k), (tX10 p0_1k)] : List (List (ClassId × FieldType)))) s := vK_perm (vK_fb hK) (bP (((List.Perm.refl _)).trans ((((((List.Perm.refl _)).cons _).trans (List.Perm.swap _ _ _))).cons _)))
  refine lv_aload_n hx hb dX7_readIf_6 rfl (lv_at hl 0 rfl) ?_
  refine lv_iconst (v := 0) hx hb dX7_readIf_7 (by decide) ?_
  obtain ⟨o_2, hc_2, hrun⟩ := bnd9 hrun
  have hPx : va_P (dC, dI) cls ((List.flatten ([(oX7 (p0a 0) p0a p0k (o_1.1) p0l), (oX6 (p0a 3) p0_2a p0_2k p0_2w p0_2l), (oX10 (p0a 2) p0_1a p0_1k (o_1.2.1) (o_1.2.2))] : List va_W)) ++ (List.flatten ([] : List va_W))) H := vP_fa (vP_perm hP (bP (List.Perm.refl _)))
  have hDx : va_D A ((List.flatten ([(oX7 (p0a 0) p0a p0k (o_1.1) p0l), (oX6 (p0a 3) p0_2a p0_2k p0_2w p0_2l), (oX10 (p0a 2) p0_1a p0_1k (o_1.2.1) (o_1.2.2))] : List va_W)) ++ (List.flatten ([] : List va_W))) := vD_fa (vD_perm hD (bP (List.Perm.refl _)))
  have hKx : va_K (dC, dI) cls ((List.flatten ([(tX7 p0k), (tX6 p0_2k), (tX10 p0_1k)] : List (List (ClassId × FieldType)))) ++ (List.flatten ([] : List (List (ClassId × FieldType))))) s := vK_fa (vK_perm hK (bP (List.Perm.refl _)))
  have hPc := vP_l hPx
  have hDc := vD_l hDx
  have hKc := vK_l hKx
  have hFc := vfree hDx hS hA
  refine va_calli (va_runV (As := [.int 0]) (rest := []) ⟨hx, hb, hml, hown, hts⟩ (hkk_readTest dC dI (p0a := p0a) (p0k := p0k) (p0w := (o_1.1)) (p0l := p0l) (p1 := 0) (aK := aK) (aV := aV) (p0_2a := p0_2a) (p0_2k := p0_2k) (p0_2w := p0_2w) (p0_2l := p0_2l) (p0_1a := p0_1a) (p0_1k := p0_1k) (p0_1w := (o_1.2.1)) (p0_1l := (o_1.2.2)) (sz := _) (o := o_2) (hrun := hc_2)) (cwV 1 hts (gi_V qw1410 qw1411 qw1412 qw65 (gi_z qw1409)) rfl rfl rfl (by decide +kernel) ⟨rmF9, rmL9 (n := 27) (Nat.le_of_ble_eq_true rfl)⟩) ⟨PRE.blind, va_recv hKc hPc (ci := 1) (q0 := 0) rfl rfl, PRE.of (ENV.add hE st9_m hro_st) hS hFc hPc hKc hDc⟩ rfl rfl hl.1 rfl (lv_room (Nat.le_of_ble_eq_true rfl)) dX7_readIf_8 ⟨(Nat.le_of_ble_eq_true rfl), (Nat.le_of_ble_eq_true rfl)⟩) hS (fun q _ h => hFc q h) hFc (fun r3 u t H locs ht hvm hw hB hz1 hk1 hS => ?_)
  obtain ⟨b1, b2, b3⟩ := hB
  rw [ht] at b1
  obtain ⟨hP, hD, hK⟩ := JOINC (wc := (List.flatten ([(oX7 (p0a 0) p0a p0k (o_1.1) p0l), (oX6 (p0a 3) p0_2a p0_2k p0_2w p0_2l), (oX10 (p0a 2) p0_1a p0_1k (o_1.2.1) (o_1.2.2))] : List va_W))) (wr := (List.flatten ([] : List va_W))) (w1 := (List.flatten ([(oX7 (p0a 0) p0a p0k (o_2.2.1) (o_2.2.2.1)), (oX6 (p0a 3) p0_2a p0_2k (o_2.2.2.2.1) p0_2l), (oX10 (p0a 2) p0_1a p0_1k (o_2.2.2.2.2.1) (o_2.2.2.2.2.2))] : List va_W))) (t1 := (List.flatten ([(tX7 p0k), (tX6 p0_2k), (tX10 p0_1k)] : List (List (ClassId × FieldType))))) hPx hDx hKx hk1 hFc b1 (va_K.moved hvm.symm b2) b3
  have hP : va_P (dC, dI) cls (List.flatten ([(oX7 (p0a 0) p0a p0k (o_2.2.1) (o_2.2.2.1)), (oX6 (p0a 3) p0_2a p0_2k (o_2.2.2.2.1) p0_2l), (oX10 (p0a 2) p0_1a p0_1k (o_2.2.2.2.2.1) (o_2.2.2.2.2.2))] : List va_W)) H := vP_perm (vP_fb hP) (bP (List.Perm.refl _))
  have hD : va_D A (List.flatten ([(oX7 (p0a 0) p0a p0k (o_2.2.1) (o_2.2.2.1)), (oX6 (p0a 3) p0_2a p0_2k (o_2.2.2.2.1) p0_2l), (oX10 (p0a 2) p0_1a p0_1k (o_2.2.2.2.2.1) (o_2.2.2.2.2.2))] : List va_W)) := vD_perm (vD_fb hD) (bP (List.Perm.refl _))
  have hK : va_K (dC, dI) cls (List.flatten ([(tX7 p0k), (tX6 p0_2k), (tX10 p0_1k)] : List (List (ClassId × FieldType)))) s := vK_perm (vK_fb hK) (bP (List.Perm.refl _))
  obtain rfl : r3 = (o_2.1) := hw
  refine lv_pop hx hb dX7_readIf_11 rfl ?_
  refine lv_aload_n hx hb dX7_readIf_12 rfl (lv_at hl 0 rfl) ?_
  refine va_get (D := (dC, dI)) (ci := 1) (v := .ref (p0a 3)) (C := RX7) (T := TX7) (N := 18) hx hb hts i_X7 hown hK hP 0 rfl rfl 2 (by decide) (hts _ qw26) (fun _ h9 => h9) rfl dX7_readIf_13 ?_
  obtain ⟨o_4, hc_4, hrun⟩ := bnd9 hrun
  have hPx : va_P (dC, dI) cls ((List.flatten ([(oX6 (p0a 3) p0_2a p0_2k (o_2.2.2.2.1) p0_2l)] : List va_W)) ++ (List.flatten ([(oX7 (p0a 0) p0a p0k (o_2.2.1) (o_2.2.2.1)), (oX10 (p0a 2) p0_1a p0_1k (o_2.2.2.2.2.1) (o_2.2.2.2.2.2))] : List va_W))) H := vP_fa (vP_perm hP (bP ((((List.Perm.refl _)).cons _).trans (List.Perm.swap _ _ _))))
  have hDx : va_D A ((List.flatten ([(oX6 (p0a 3) p0_2a p0_2k (o_2.2.2.2.1) p0_2l)] : List va_W)) ++ (List.flatten ([(oX7 (p0a 0) p0a p0k (o_2.2.1) (o_2.2.2.1)), (oX10 (p0a 2) p0_1a p0_1k (o_2.2.2.2.2.1) (o_2.2.2.2.2.2))] : List va_W))) := vD_fa (vD_perm hD (bP ((((List.Perm.refl _)).cons _).trans (List.Perm.swap _ _ _))))
  have hKx : va_K (dC, dI) cls ((List.flatten ([(tX6 p0_2k)] : List (List (ClassId × FieldType)))) ++ (List.flatten ([(tX7 p0k), (tX10 p0_1k)] : List (List (ClassId × FieldType))))) s := vK_fa (vK_perm hK (bP ((((List.Perm.refl _)).cons _).trans (List.Perm.swap _ _ _))))
  have hPc := vP_l hPx
  have hDc := vD_l hDx
  have hKc := vK_l hKx
  have hFc := vfree hDx hS hA
  refine va_calli (va_runV (As := []) (rest := []) ⟨hx, hb, hml, hown, hts⟩ (kX6_newLabel l dC dI (p0a := (st0 (p0a 3) p0_2a)) (p0k := p0_2k) (p0w := (o_2.2.2.2.1)) (p0l := p0_2l) (sz := _) (o := o_4) (hrun := hc_4)) (cwV 0 hts (gi_V qw73 qw74 qw75 qw33 (gi_z qw72)) rfl rfl rfl (by decide +kernel) ⟨rmF (Nat.le_of_ble_eq_true rfl), rmL (Nat.le_of_ble_eq_true rfl)⟩) ⟨PRE.blind, va_recv hKc hPc (ci := 2) (q0 := 0) rfl rfl, PRE.of hE hS hFc hPc hKc hDc⟩ rfl rfl hl.1 rfl (lv_room (Nat.le_of_ble_eq_true rfl)) dX7_readIf_16 ⟨(Nat.le_of_ble_eq_true rfl), (Nat.le_of_ble_eq_true rfl)⟩) hS (fun q _ h => hFc q h) hFc (fun r5 u t H locs ht hvm hw hB hz1 hk1 hS => ?_)
  obtain ⟨b1, b2, b3⟩ := hB
  rw [ht] at b1
  obtain ⟨hP, hD, hK⟩ := JOINC (wc := (List.flatten ([(oX6 (p0a 3) p0_2a p0_2k (o_2.2.2.2.1) p0_2l)] : List va_W))) (wr := (List.flatten ([(oX7 (p0a 0) p0a p0k (o_2.2.1) (o_2.2.2.1)), (oX10 (p0a 2) p0_1a p0_1k (o_2.2.2.2.2.1) (o_2.2.2.2.2.2))] : List va_W))) (w1 := (List.flatten ([(oX6 (p0a 3) p0_2a p0_2k (o_4.2) p0_2l)] : List va_W))) (t1 := (List.flatten ([(tX6 p0_2k)] : List (List (ClassId × FieldType))))) hPx hDx hKx hk1 hFc b1 (va_K.moved hvm.symm b2) b3
  have hP : va_P (dC, dI) cls (List.flatten ([(oX7 (p0a 0) p0a p0k (o_2.2.1) (o_2.2.2.1)), (oX6 (p0a 3) p0_2a p0_2k (o_4.2) p0_2l), (oX10 (p0a 2) p0_1a p0_1k (o_2.2.2.2.2.1) (o_2.2.2.2.2.2))] : List va_W)) H := vP_perm (vP_fb hP) (bP ((((List.Perm.refl _)).cons _).trans (List.Perm.swap _ _ _)))
  have hD : va_D A (List.flatten ([(oX7 (p0a 0) p0a p0k (o_2.2.1) (o_2.2.2.1)), (oX6 (p0a 3) p0_2a p0_2k (o_4.2) p0_2l), (oX10 (p0a 2) p0_1a p0_1k (o_2.2.2.2.2.1) (o_2.2.2.2.2.2))] : List va_W)) := vD_perm (vD_fb hD) (bP ((((List.Perm.refl _)).cons _).trans (List.Perm.swap _ _ _)))
  have hK : va_K (dC, dI) cls (List.flatten ([(tX7 p0k), (tX6 p0_2k), (tX10 p0_1k)] : List (List (ClassId × FieldType)))) s := vK_perm (vK_fb hK) (bP ((((List.Perm.refl _)).cons _).trans (List.Perm.swap _ _ _)))
  obtain rfl : r5 = (o_4.1) := hw
  refine lv_istore_n (lv' := [(1, .int (o_4.1)), (0, .ref (p0a 0))]) hx hb dX7_readIf_19 rfl hl (by decide) rfl (fun ls hl => ?_)
  refine lv_aload_n hx hb dX7_readIf_20 rfl (lv_at hl 1 rfl) ?_
  refine va_get (D := (dC, dI)) (ci := 1) (v := .ref (p0a 3)) (C := RX7) (T := TX7) (N := 18) hx hb hts i_X7 hown hK hP 0 rfl rfl 2 (by decide) (hts _ qw26) (fun _ h9 => h9) rfl dX7_readIf_21 ?_
  refine lv_bipush (v := 33) hx hb dX7_readIf_24 (by decide) ?_
  refine lv_iload_n hx hb dX7_readIf_26 rfl (lv_at hl 0 rfl) ?_
  refine lv_iconst (v := 0) hx hb dX7_readIf_27 (by decide) ?_
  obtain ⟨o_6, hc_6, hrun⟩ := bnd9 hrun
  have hPx : va_P (dC, dI) cls ((List.flatten ([(oX6 (p0a 3) p0_2a p0_2k (o_4.2) p0_2l)] : List va_W)) ++ (List.flatten ([(oX7 (p0a 0) p0a p0k (o_2.2.1) (o_2.2.2.1)), (oX10 (p0a 2) p0_1a p0_1k (o_2.2.2.2.2.1) (o_2.2.2.2.2.2))] : List va_W))) H := vP_fa (vP_perm hP (bP ((((List.Perm.refl _)).cons _).trans (List.Perm.swap _ _ _))))
  have hDx : va_D A ((List.flatten ([(oX6 (p0a 3) p0_2a p0_2k (o_4.2) p0_2l)] : List va_W)) ++ (List.flatten ([(oX7 (p0a 0) p0a p0k (o_2.2.1) (o_2.2.2.1)), (oX10 (p0a 2) p0_1a p0_1k (o_2.2.2.2.2.1) (o_2.2.2.2.2.2))] : List va_W))) := vD_fa (vD_perm hD (bP ((((List.Perm.refl _)).cons _).trans (List.Perm.swap _ _ _))))
  have hKx : va_K (dC, dI) cls ((List.flatten ([(tX6 p0_2k)] : List (List (ClassId × FieldType)))) ++ (List.flatten ([(tX7 p0k), (tX10 p0_1k)] : List (List (ClassId × FieldType))))) s := vK_fa (vK_perm hK (bP ((((List.Perm.refl _)).cons _).trans (List.Perm.swap _ _ _))))
  have hPc := vP_l hPx
  have hDc := vD_l hDx
  have hKc := vK_l hKx
  have hFc := vfree hDx hS hA
  refine va_callv (va_runV (As := [.int 33, .int (o_4.1), .int 0]) (rest := []) ⟨hx, hb, hml, hown, hts⟩ (kX6_emit l dC dI (p0a := (st0 (p0a 3) p0_2a)) (p0k := p0_2k) (p0w := (o_4.2)) (p0l := p0_2l) (p1 := 33) (p2 := (o_4.1)) (p3 := 0) (sz := _) (o := o_6) (hrun := hc_6)) (cwV 3 hts (gi_V qw42 qw43 qw44 qw33 (gi_z qw41)) rfl rfl rfl (by decide +kernel) ⟨rmF (Nat.le_of_ble_eq_true rfl), rmL (Nat.le_of_ble_eq_true rfl)⟩) ⟨PRE.blind, va_recv hKc hPc (ci := 2) (q0 := 0) rfl rfl, PRE.of hE hS hFc hPc hKc hDc⟩ rfl rfl hl.1 rfl (lv_room (Nat.le_of_ble_eq_true rfl)) dX7_readIf_28 ⟨(Nat.le_of_ble_eq_true rfl), (Nat.le_of_ble_eq_true rfl)⟩) hS (fun q _ h => hFc q h) hFc (fun u t H locs ht hvm hw hB hz1 hk1 hS => ?_)
  obtain ⟨b1, b2, b3⟩ := hB
  rw [ht] at b1
  obtain ⟨hP, hD, hK⟩ := JOINC (wc := (List.flatten ([(oX6 (p0a 3) p0_2a p0_2k (o_4.2) p0_2l)] : List va_W))) (wr := (List.flatten ([(oX7 (p0a 0) p0a p0k (o_2.2.1) (o_2.2.2.1)), (oX10 (p0a 2) p0_1a p0_1k (o_2.2.2.2.2.1) (o_2.2.2.2.2.2))] : List va_W))) (w1 := (List.flatten ([(oX6 (p0a 3) p0_2a p0_2k o_6 p0_2l)] : List va_W))) (t1 := (List.flatten ([(tX6 p0_2k)] : List (List (ClassId × FieldType))))) hPx hDx hKx hk1 hFc b1 (va_K.moved hvm.symm b2) b3
  have hP : va_P (dC, dI) cls (List.flatten ([(oX7 (p0a 0) p0a p0k (o_2.2.1) (o_2.2.2.1)), (oX6 (p0a 3) p0_2a p0_2k o_6 p0_2l), (oX10 (p0a 2) p0_1a p0_1k (o_2.2.2.2.2.1) (o_2.2.2.2.2.2))] : List va_W)) H := vP_perm (vP_fb hP) (bP ((((List.Perm.refl _)).cons _).trans (List.Perm.swap _ _ _)))
  have hD : va_D A (List.flatten ([(oX7 (p0a 0) p0a p0k (o_2.2.1) (o_2.2.2.1)), (oX6 (p0a 3) p0_2a p0_2k o_6 p0_2l), (oX10 (p0a 2) p0_1a p0_1k (o_2.2.2.2.2.1) (o_2.2.2.2.2.2))] : List va_W)) := vD_perm (vD_fb hD) (bP ((((List.Perm.refl _)).cons _).trans (List.Perm.swap _ _ _)))
  have hK : va_K (dC, dI) cls (List.flatten ([(tX7 p0k), (tX6 p0_2k), (tX10 p0_1k)] : List (List (ClassId × FieldType)))) s := vK_perm (vK_fb hK) (bP ((((List.Perm.refl _)).cons _).trans (List.Perm.swap _ _ _)))
  refine lv_aload_n hx hb dX7_readIf_31 rfl (lv_at hl 1 rfl) ?_
  obtain ⟨o_7, hc_7, hrun⟩ := bnd9 hrun
  have hPx : va_P (dC, dI) cls ((List.flatten ([(oX7 (p0a 0) p0a p0k (o_2.2.1) (o_2.2.2.1)), (oX6 (p0a 3) p0_2a p0_2k o_6 p0_2l), (oX10 (p0a 2) p0_1a p0_1k (o_2.2.2.2.2.1) (o_2.2.2.2.2.2))] : List va_W)) ++ (List.flatten ([] : List va_W))) H := vP_fa (vP_perm hP (bP (List.Perm.refl _)))
  have hDx : va_D A ((List.flatten ([(oX7 (p0a 0) p0a p0k (o_2.2.1) (o_2.2.2.1)), (oX6 (p0a 3) p0_2a p0_2k o_6 p0_2l), (oX10 (p0a 2) p0_1a p0_1k (o_2.2.2.2.2.1) (o_2.2.2.2.2.2))] : List va_W)) ++ (List.flatten ([] : List va_W))) := vD_fa (vD_perm hD (bP (List.Perm.refl _)))
  have hKx : va_K (dC, dI) cls ((List.flatten ([(tX7 p0k), (tX6 p0_2k), (tX10 p0_1k)] : List (List (ClassId × FieldType)))) ++ (List.flatten ([] : List (List (ClassId × FieldType))))) s := vK_fa (vK_perm hK (bP (List.Perm.refl _)))
  have hPc := vP_l hPx
  have hDc := vD_l hDx
  have hKc := vK_l hKx
  have hFc := vfree hDx hS hA
  refine va_callv (va_runV (As := []) (rest := []) ⟨hx, hb, hml, hown, hts⟩ (hkk_readBlock dC dI (p0a := p0a) (p0k := p0k) (p0w := (o_2.2.1)) (p0l := (o_2.2.2.1)) (aK := aK) (aV := aV) (p0_2a := p0_2a) (p0_2k := p0_2k) (p0_2w := o_6) (p0_2l := p0_2l) (p0_1a := p0_1a) (p0_1k := p0_1k) (p0_1w := (o_2.2.2.2.2.1)) (p0_1l := (o_2.2.2.2.2.2)) (sz := _) (o := o_7) (hrun := hc_7)) (cwV 0 hts (gi_V qw1430 qw1431 qw1432 qw65 (gi_z qw1429)) rfl rfl rfl (by decide +kernel) ⟨rmF9, rmL9 (n := 22) (Nat.le_of_ble_eq_true rfl)⟩) ⟨PRE.blind, va_recv hKc hPc (ci := 1) (q0 := 0) rfl rfl, PRE.of (ENV.add hE st9_m hro_st) hS hFc hPc hKc hDc⟩ rfl rfl hl.1 rfl (lv_room (Nat.le_of_ble_eq_true rfl)) dX7_readIf_32 ⟨(Nat.le_of_ble_eq_true rfl), (Nat.le_of_ble_eq_true rfl)⟩) hS (fun q _ h => hFc q h) hFc (fun u t H locs ht hvm hw hB hz1 hk1 hS => ?_)
  obtain ⟨b1, b2, b3⟩ := hB
  rw [ht] at b1
  obtain ⟨hP, hD, hK⟩ := JOINC (wc := (List.flatten ([(oX7 (p0a 0) p0a p0k (o_2.2.1) (o_2.2.2.1)), (oX6 (p0a 3) p0_2a p0_2k o_6 p0_2l), (oX10 (p0a 2) p0_1a p0_1k (o_2.2.2.2.2.1) (o_2.2.2.2.2.2))] : List va_W))) (wr := (List.flatten ([] : List va_W))) (w1 := (List.flatten ([(oX7 (p0a 0) p0a p0k (o_7.1) (o_7.2.1)), (oX6 (p0a 3) p0_2a p0_2k (o_7.2.2.1) p0_2l), (oX10 (p0a 2) p0_1a p0_1k (o_7.2.2.2.1) (o_7.2.2.2.2))] : List va_W))) (t1 := (List.flatten ([(tX7 p0k), (tX6 p0_2k), (tX10 p0_1k)] : List (List (ClassId × FieldType))))) hPx hDx hKx hk1 hFc b1 (va_K.moved hvm.symm b2) b3
  have hP : va_P (dC, dI) cls (List.flatten ([(oX7 (p0a 0) p0a p0k (o_7.1) (o_7.2.1)), (oX6 (p0a 3) p0_2a p0_2k (o_7.2.2.1) p0_2l), (oX10 (p0a 2) p0_1a p0_1k (o_7.2.2.2.1) (o_7.2.2.2.2))] : List va_W)) H := vP_perm (vP_fb hP) (bP (List.Perm.refl _))
  have hD : va_D A (List.flatten ([(oX7 (p0a 0) p0a p0k (o_7.1) (o_7.2.1)), (oX6 (p0a 3) p0_2a p0_2k (o_7.2.2.1) p0_2l), (oX10 (p0a 2) p0_1a p0_1k (o_7.2.2.2.1) (o_7.2.2.2.2))] : List va_W)) := vD_perm (vD_fb hD) (bP (List.Perm.refl _))
  have hK : va_K (dC, dI) cls (List.flatten ([(tX7 p0k), (tX6 p0_2k), (tX10 p0_1k)] : List (List (ClassId × FieldType)))) s := vK_perm (vK_fb hK) (bP (List.Perm.refl _))
  refine lv_aload_n hx hb dX7_readIf_35 rfl (lv_at hl 1 rfl) ?_
  refine va_get (D := (dC, dI)) (ci := 1) (v := .ref (p0a 2)) (C := RX7) (T := TX7) (N := 18) hx hb hts i_X7 hown hK hP 0 rfl rfl 1 (by decide) (hts _ qw45) (fun _ h9 => h9) rfl dX7_readIf_36 ?_
  refine va_get (D := (dC, dI)) (ci := 0) (v := .int ((o_7.2.2.2.1) 0 2)) (C := RX10) (T := TX10) (N := 8) hx hb hts i_X10 hown hK hP 20 rfl rfl 2 (by decide) (hts _ qw46) (fun _ h9 => h9) rfl dX7_readIf_39 ?_
  refine lv_bipush (v := 6) hx hb dX7_readIf_42 (by decide) ?_
  have J103 : ∀ (p0w_103 : ST) (p0l_103 : SL) (p0_2w_103 : ST) (p0_1w_103 : ST) (p0_1l_103 : SL) (H : Heap) (locs : List Loc) (ls : Array Slot), (fX7_readIf_J103 p0w_103 p0l_103 p0_2w_103 p0_1w_103 p0_1l_103) = some o → va_P (dC, dI) cls (List.flatten ([(oX7 (p0a 0) p0a p0k p0w_103 p0l_103), (oX6 (p0a 3) p0_2a p0_2k p0_2w_103 p0_2l), (oX10 (p0a 2) p0_1a p0_1k p0_1w_103 p0_1l_103)] : List va_W)) H → va_D A (List.flatten ([(oX7 (p0a 0) p0a p0k p0w_103 p0l_103), (oX6 (p0a 3) p0_2a p0_2k p0_2w_103 p0_2l), (oX10 (p0a 2) p0_1a p0_1k p0_1w_103 p0_1l_103)] : List va_W)) → va_K (dC, dI) cls (List.flatten ([(tX7 p0k), (tX6 p0_2k), (tX10 p0_1k)] : List (List (ClassId × FieldType)))) s → va_S A s.heap H locs → lv_has ls 3 [] → W p l e ({ frames := F9 + 8, cells := 0, slots := 0, locals := L9 + 400 } : Room) s m ([.ref (p0a 0)] : List Value).toArray below meth c H locs 0 0 Q (F0 m 103 ls []) := by
    intro p0w_103 p0l_103 p0_2w_103 p0_1w_103 p0_1l_103 H locs ls hrun hP hD hK hS hl 
    unfold fX7_readIf_J103 at hrun
    have ho9 : (p0w_103, p0l_103, p0_2w_103, p0_1w_103, p0_1l_103) = o := Option.some.inj hrun
    have hP9 : va_P (dC, dI) cls (List.flatten ([(oX7 (p0a 0) p0a p0k (o.1) (o.2.1)), (oX6 (p0a 3) p0_2a p0_2k (o.2.2.1) p0_2l), (oX10 (p0a 2) p0_1a p0_1k (o.2.2.2.1) (o.2.2.2.2))] : List va_W)) H := by first | exact hP | (rw [← ho9]; exact hP)
    have hD9 : va_D A (List.flatten ([(oX7 (p0a 0) p0a p0k (o.1) (o.2.1)), (oX6 (p0a 3) p0_2a p0_2k (o.2.2.1) p0_2l), (oX10 (p0a 2) p0_1a p0_1k (o.2.2.2.1) (o.2.2.2.2))] : List va_W)) := by first | exact hD | (rw [← ho9]; exact hD)
    subst hQ
    exact W.vret hx hb hr (fun t ht hW => ⟨⟨(), rfl, trivial, ⟨by rw [ht]; exact hP9, va_K.moved hW.alike hK, hD9⟩⟩, hS.F ht⟩) hS.2.2 dX7_readIf_103
  rcases br9 hrun with ⟨hc8, hrun⟩ | ⟨hc8, hrun⟩
  · refine lv_icmp_ne (tgt := 95) hx hb dX7_readIf_44 (by decide) (fun c => absurd hc8 c) (fun _ => ?_)
    refine lv_aload_n hx hb dX7_readIf_47 rfl (lv_at hl 1 rfl) ?_
    refine lv_bipush (v := 6) hx hb dX7_readIf_48 (by decide) ?_
    obtain ⟨o_9, hc_9, hrun⟩ := bnd9 hrun
    have hPx : va_P (dC, dI) cls ((List.flatten ([(oX7 (p0a 0) p0a p0k (o_7.1) (o_7.2.1)), (oX10 (p0a 2) p0_1a p0_1k (o_7.2.2.2.1) (o_7.2.2.2.2))] : List va_W)) ++ (List.flatten ([(oX6 (p0a 3) p0_2a p0_2k (o_7.2.2.1) p0_2l)] : List va_W))) H := vP_fa (vP_perm hP (bP (((List.Perm.refl _)).trans ((((((List.Perm.refl _)).cons _).trans (List.Perm.swap _ _ _))).cons _))))
    have hDx : va_D A ((List.flatten ([(oX7 (p0a 0) p0a p0k (o_7.1) (o_7.2.1)), (oX10 (p0a 2) p0_1a p0_1k (o_7.2.2.2.1) (o_7.2.2.2.2))] : List va_W)) ++ (List.flatten ([(oX6 (p0a 3) p0_2a p0_2k (o_7.2.2.1) p0_2l)] : List va_W))) := vD_fa (vD_perm hD (bP (((List.Perm.refl _)).trans ((((((List.Perm.refl _)).cons _).trans (List.Perm.swap _ _ _))).cons _))))
    have hKx : va_K (dC, dI) cls ((List.flatten ([(tX7 p0k), (tX10 p0_1k)] : List (List (ClassId × FieldType)))) ++ (List.flatten ([(tX6 p0_2k)] : List (List (ClassId × FieldType))))) s := vK_fa (vK_perm hK (bP (((List.Perm.refl _)).trans ((((((List.Perm.refl _)).cons _).trans (List.Perm.swap _ _ _))).cons _))))
    have hPc := vP_l hPx
    have hDc := vD_l hDx
    have hKc := vK_l hKx
    have hFc := vfree hDx hS hA
    refine va_callv (va_runV (As := [.int 6]) (rest := []) ⟨hx, hb, hml, hown, hts⟩ (kX7_expect l dC dI (p0a := p0a) (p0k := p0k) (p0w := (o_7.1)) (p0l := (o_7.2.1)) (p1 := 6) (aK := aK) (aV := aV) (p0_1a := p0_1a) (p0_1k := p0_1k) (p0_1w := (o_7.2.2.2.1)) (p0_1l := (o_7.2.2.2.2)) (sz := _) (o := o_9) (hrun := hc_9)) (cwV 1 hts (gi_V qw1386 qw1387 qw1388 qw65 (gi_z qw1385)) rfl rfl rfl (by decide +kernel) ⟨rmF (Nat.le_of_ble_eq_true rfl), rmL (Nat.le_of_ble_eq_true rfl)⟩) ⟨PRE.blind, va_recv hKc hPc (ci := 1) (q0 := 0) rfl rfl, PRE.of (ENV.add hE st9_m hro_st) hS hFc hPc hKc hDc⟩ rfl rfl hl.1 rfl (lv_room (Nat.le_of_ble_eq_true rfl)) dX7_readIf_50 ⟨(Nat.le_of_ble_eq_true rfl), (Nat.le_of_ble_eq_true rfl)⟩) hS (fun q _ h => hFc q h) hFc (fun u t H locs ht hvm hw hB hz1 hk1 hS => ?_)
    obtain ⟨b1, b2, b3⟩ := hB
    rw [ht] at b1
    obtain ⟨hP, hD, hK⟩ := JOINC (wc := (List.flatten ([(oX7 (p0a 0) p0a p0k (o_7.1) (o_7.2.1)), (oX10 (p0a 2) p0_1a p0_1k (o_7.2.2.2.1) (o_7.2.2.2.2))] : List va_W))) (wr := (List.flatten ([(oX6 (p0a 3) p0_2a p0_2k (o_7.2.2.1) p0_2l)] : List va_W))) (w1 := (List.flatten ([(oX7 (p0a 0) p0a p0k (o_9.1) (o_7.2.1)), (oX10 (p0a 2) p0_1a p0_1k (o_9.2.1) (o_9.2.2))] : List va_W))) (t1 := (List.flatten ([(tX7 p0k), (tX10 p0_1k)] : List (List (ClassId × FieldType))))) hPx hDx hKx hk1 hFc b1 (va_K.moved hvm.symm b2) b3
    have hP : va_P (dC, dI) cls (List.flatten ([(oX7 (p0a 0) p0a p0k (o_9.1) (o_7.2.1)), (oX6 (p0a 3) p0_2a p0_2k (o_7.2.2.1) p0_2l), (oX10 (p0a 2) p0_1a p0_1k (o_9.2.1) (o_9.2.2))] : List va_W)) H := vP_perm (vP_fb hP) (bP (((List.Perm.refl _)).trans ((((((List.Perm.refl _)).cons _).trans (List.Perm.swap _ _ _))).cons _)))
    have hD : va_D A (List.flatten ([(oX7 (p0a 0) p0a p0k (o_9.1) (o_7.2.1)), (oX6 (p0a 3) p0_2a p0_2k (o_7.2.2.1) p0_2l), (oX10 (p0a 2) p0_1a p0_1k (o_9.2.1) (o_9.2.2))] : List va_W)) := vD_perm (vD_fb hD) (bP (((List.Perm.refl _)).trans ((((((List.Perm.refl _)).cons _).trans (List.Perm.swap _ _ _))).cons _)))
    have hK : va_K (dC, dI) cls (List.flatten ([(tX7 p0k), (tX6 p0_2k), (tX10 p0_1k)] : List (List (ClassId × FieldType)))) s := vK_perm (vK_fb hK) (bP (((List.Perm.refl _)).trans ((((((List.Perm.refl _)).cons _).trans (List.Perm.swap _ _ _))).cons _)))
    refine lv_aload_n hx hb dX7_readIf_53 rfl (lv_at hl 1 rfl) ?_
    refine va_get (D := (dC, dI)) (ci := 1) (v := .ref (p0a 3)) (C := RX7) (T := TX7) (N := 18) hx hb hts i_X7 hown hK hP 0 rfl rfl 2 (by decide) (hts _ qw26) (fun _ h9 => h9) rfl dX7_readIf_54 ?_
    obtain ⟨o_10, hc_10, hrun⟩ := bnd9 hrun
    have hPx : va_P (dC, dI) cls ((List.flatten ([(oX6 (p0a 3) p0_2a p0_2k (o_7.2.2.1) p0_2l)] : List va_W)) ++ (List.flatten ([(oX7 (p0a 0) p0a p0k (o_9.1) (o_7.2.1)), (oX10 (p0a 2) p0_1a p0_1k (o_9.2.1) (o_9.2.2))] : List va_W))) H := vP_fa (vP_perm hP (bP ((((List.Perm.refl _)).cons _).trans (List.Perm.swap _ _ _))))
    have hDx : va_D A ((List.flatten ([(oX6 (p0a 3) p0_2a p0_2k (o_7.2.2.1) p0_2l)] : List va_W)) ++ (List.flatten ([(oX7 (p0a 0) p0a p0k (o_9.1) (o_7.2.1)), (oX10 (p0a 2) p0_1a p0_1k (o_9.2.1) (o_9.2.2))] : List va_W))) := vD_fa (vD_perm hD (bP ((((List.Perm.refl _)).cons _).trans (List.Perm.swap _ _ _))))
    have hKx : va_K (dC, dI) cls ((List.flatten ([(tX6 p0_2k)] : List (List (ClassId × FieldType)))) ++ (List.flatten ([(tX7 p0k), (tX10 p0_1k)] : List (List (ClassId × FieldType))))) s := vK_fa (vK_perm hK (bP ((((List.Perm.refl _)).cons _).trans (List.Perm.swap _ _ _))))
    have hPc := vP_l hPx
    have hDc := vD_l hDx
    have hKc := vK_l hKx
    have hFc := vfree hDx hS hA
    refine va_calli (va_runV (As := []) (rest := []) ⟨hx, hb, hml, hown, hts⟩ (kX6_newLabel l dC dI (p0a := (st0 (p0a 3) p0_2a)) (p0k := p0_2k) (p0w := (o_7.2.2.1)) (p0l := p0_2l) (sz := _) (o := o_10) (hrun := hc_10)) (cwV 0 hts (gi_V qw73 qw74 qw75 qw33 (gi_z qw72)) rfl rfl rfl (by decide +kernel) ⟨rmF (Nat.le_of_ble_eq_true rfl), rmL (Nat.le_of_ble_eq_true rfl)⟩) ⟨PRE.blind, va_recv hKc hPc (ci := 2) (q0 := 0) rfl rfl, PRE.of hE hS hFc hPc hKc hDc⟩ rfl rfl hl.1 rfl (lv_room (Nat.le_of_ble_eq_true rfl)) dX7_readIf_57 ⟨(Nat.le_of_ble_eq_true rfl), (Nat.le_of_ble_eq_true rfl)⟩) hS (fun q _ h => hFc q h) hFc (fun r11 u t H locs ht hvm hw hB hz1 hk1 hS => ?_)
    obtain ⟨b1, b2, b3⟩ := hB
    rw [ht] at b1
    obtain ⟨hP, hD, hK⟩ := JOINC (wc := (List.flatten ([(oX6 (p0a 3) p0_2a p0_2k (o_7.2.2.1) p0_2l)] : List va_W))) (wr := (List.flatten ([(oX7 (p0a 0) p0a p0k (o_9.1) (o_7.2.1)), (oX10 (p0a 2) p0_1a p0_1k (o_9.2.1) (o_9.2.2))] : List va_W))) (w1 := (List.flatten ([(oX6 (p0a 3) p0_2a p0_2k (o_10.2) p0_2l)] : List va_W))) (t1 := (List.flatten ([(tX6 p0_2k)] : List (List (ClassId × FieldType))))) hPx hDx hKx hk1 hFc b1 (va_K.moved hvm.symm b2) b3
    have hP : va_P (dC, dI) cls (List.flatten ([(oX7 (p0a 0) p0a p0k (o_9.1) (o_7.2.1)), (oX6 (p0a 3) p0_2a p0_2k (o_10.2) p0_2l), (oX10 (p0a 2) p0_1a p0_1k (o_9.2.1) (o_9.2.2))] : List va_W)) H := vP_perm (vP_fb hP) (bP ((((List.Perm.refl _)).cons _).trans (List.Perm.swap _ _ _)))
    have hD : va_D A (List.flatten ([(oX7 (p0a 0) p0a p0k (o_9.1) (o_7.2.1)), (oX6 (p0a 3) p0_2a p0_2k (o_10.2) p0_2l), (oX10 (p0a 2) p0_1a p0_1k (o_9.2.1) (o_9.2.2))] : List va_W)) := vD_perm (vD_fb hD) (bP ((((List.Perm.refl _)).cons _).trans (List.Perm.swap _ _ _)))
    have hK : va_K (dC, dI) cls (List.flatten ([(tX7 p0k), (tX6 p0_2k), (tX10 p0_1k)] : List (List (ClassId × FieldType)))) s := vK_perm (vK_fb hK) (bP ((((List.Perm.refl _)).cons _).trans (List.Perm.swap _ _ _)))
    obtain rfl : r11 = (o_10.1) := hw
    refine lv_istore_n (lv' := [(2, .int (o_10.1)), (1, .int (o_4.1)), (0, .ref (p0a 0))]) hx hb dX7_readIf_60 rfl hl (by decide) rfl (fun ls hl => ?_)
    refine lv_aload_n hx hb dX7_readIf_61 rfl (lv_at hl 2 rfl) ?_
    refine va_get (D := (dC, dI)) (ci := 1) (v := .ref (p0a 3)) (C := RX7) (T := TX7) (N := 18) hx hb hts i_X7 hown hK hP 0 rfl rfl 2 (by decide) (hts _ qw26) (fun _ h9 => h9) rfl dX7_readIf_62 ?_
    refine lv_bipush (v := 22) hx hb dX7_readIf_65 (by decide) ?_
    refine lv_iload_n hx hb dX7_readIf_67 rfl (lv_at hl 0 rfl) ?_
    refine lv_iconst (v := 0) hx hb dX7_readIf_68 (by decide) ?_
    obtain ⟨o_12, hc_12, hrun⟩ := bnd9 hrun
    have hPx : va_P (dC, dI) cls ((List.flatten ([(oX6 (p0a 3) p0_2a p0_2k (o_10.2) p0_2l)] : List va_W)) ++ (List.flatten ([(oX7 (p0a 0) p0a p0k (o_9.1) (o_7.2.1)), (oX10 (p0a 2) p0_1a p0_1k (o_9.2.1) (o_9.2.2))] : List va_W))) H := vP_fa (vP_perm hP (bP ((((List.Perm.refl _)).cons _).trans (List.Perm.swap _ _ _))))
    have hDx : va_D A ((List.flatten ([(oX6 (p0a 3) p0_2a p0_2k (o_10.2) p0_2l)] : List va_W)) ++ (List.flatten ([(oX7 (p0a 0) p0a p0k (o_9.1) (o_7.2.1)), (oX10 (p0a 2) p0_1a p0_1k (o_9.2.1) (o_9.2.2))] : List va_W))) := vD_fa (vD_perm hD (bP ((((List.Perm.refl _)).cons _).trans (List.Perm.swap _ _ _))))
    have hKx : va_K (dC, dI) cls ((List.flatten ([(tX6 p0_2k)] : List (List (ClassId × FieldType)))) ++ (List.flatten ([(tX7 p0k), (tX10 p0_1k)] : List (List (ClassId × FieldType))))) s := vK_fa (vK_perm hK (bP ((((List.Perm.refl _)).cons _).trans (List.Perm.swap _ _ _))))
    have hPc := vP_l hPx
    have hDc := vD_l hDx
    have hKc := vK_l hKx
    have hFc := vfree hDx hS hA
    refine va_callv (va_runV (As := [.int 22, .int (o_10.1), .int 0]) (rest := []) ⟨hx, hb, hml, hown, hts⟩ (kX6_emit l dC dI (p0a := (st0 (p0a 3) p0_2a)) (p0k := p0_2k) (p0w := (o_10.2)) (p0l := p0_2l) (p1 := 22) (p2 := (o_10.1)) (p3 := 0) (sz := _) (o := o_12) (hrun := hc_12)) (cwV 3 hts (gi_V qw42 qw43 qw44 qw33 (gi_z qw41)) rfl rfl rfl (by decide +kernel) ⟨rmF (Nat.le_of_ble_eq_true rfl), rmL (Nat.le_of_ble_eq_true rfl)⟩) ⟨PRE.blind, va_recv hKc hPc (ci := 2) (q0 := 0) rfl rfl, PRE.of hE hS hFc hPc hKc hDc⟩ rfl rfl hl.1 rfl (lv_room (Nat.le_of_ble_eq_true rfl)) dX7_readIf_69 ⟨(Nat.le_of_ble_eq_true rfl), (Nat.le_of_ble_eq_true rfl)⟩) hS (fun q _ h => hFc q h) hFc (fun u t H locs ht hvm hw hB hz1 hk1 hS => ?_)
    obtain ⟨b1, b2, b3⟩ := hB
    rw [ht] at b1
    obtain ⟨hP, hD, hK⟩ := JOINC (wc := (List.flatten ([(oX6 (p0a 3) p0_2a p0_2k (o_10.2) p0_2l)] : List va_W))) (wr := (List.flatten ([(oX7 (p0a 0) p0a p0k (o_9.1) (o_7.2.1)), (oX10 (p0a 2) p0_1a p0_1k (o_9.2.1) (o_9.2.2))] : List va_W))) (w1 := (List.flatten ([(oX6 (p0a 3) p0_2a p0_2k o_12 p0_2l)] : List va_W))) (t1 := (List.flatten ([(tX6 p0_2k)] : List (List (ClassId × FieldType))))) hPx hDx hKx hk1 hFc b1 (va_K.moved hvm.symm b2) b3
    have hP : va_P (dC, dI) cls (List.flatten ([(oX7 (p0a 0) p0a p0k (o_9.1) (o_7.2.1)), (oX6 (p0a 3) p0_2a p0_2k o_12 p0_2l), (oX10 (p0a 2) p0_1a p0_1k (o_9.2.1) (o_9.2.2))] : List va_W)) H := vP_perm (vP_fb hP) (bP ((((List.Perm.refl _)).cons _).trans (List.Perm.swap _ _ _)))
    have hD : va_D A (List.flatten ([(oX7 (p0a 0) p0a p0k (o_9.1) (o_7.2.1)), (oX6 (p0a 3) p0_2a p0_2k o_12 p0_2l), (oX10 (p0a 2) p0_1a p0_1k (o_9.2.1) (o_9.2.2))] : List va_W)) := vD_perm (vD_fb hD) (bP ((((List.Perm.refl _)).cons _).trans (List.Perm.swap _ _ _)))
    have hK : va_K (dC, dI) cls (List.flatten ([(tX7 p0k), (tX6 p0_2k), (tX10 p0_1k)] : List (List (ClassId × FieldType)))) s := vK_perm (vK_fb hK) (bP ((((List.Perm.refl _)).cons _).trans (List.Perm.swap _ _ _)))
    refine lv_aload_n hx hb dX7_readIf_72 rfl (lv_at hl 2 rfl) ?_
    refine va_get (D := (dC, dI)) (ci := 1) (v := .ref (p0a 3)) (C := RX7) (T := TX7) (N := 18) hx hb hts i_X7 hown hK hP 0 rfl rfl 2 (by decide) (hts _ qw26) (fun _ h9 => h9) rfl dX7_readIf_73 ?_
    refine lv_iload_n hx hb dX7_readIf_76 rfl (lv_at hl 1 rfl) ?_
    obtain ⟨o_13, hc_13, hrun⟩ := bnd9 hrun
    have hPx : va_P (dC, dI) cls ((List.flatten ([(oX6 (p0a 3) p0_2a p0_2k o_12 p0_2l)] : List va_W)) ++ (List.flatten ([(oX7 (p0a 0) p0a p0k (o_9.1) (o_7.2.1)), (oX10 (p0a 2) p0_1a p0_1k (o_9.2.1) (o_9.2.2))] : List va_W))) H := vP_fa (vP_perm hP (bP ((((List.Perm.refl _)).cons _).trans (List.Perm.swap _ _ _))))
    have hDx : va_D A ((List.flatten ([(oX6 (p0a 3) p0_2a p0_2k o_12 p0_2l)] : List va_W)) ++ (List.flatten ([(oX7 (p0a 0) p0a p0k (o_9.1) (o_7.2.1)), (oX10 (p0a 2) p0_1a p0_1k (o_9.2.1) (o_9.2.2))] : List va_W))) := vD_fa (vD_perm hD (bP ((((List.Perm.refl _)).cons _).trans (List.Perm.swap _ _ _))))
    have hKx : va_K (dC, dI) cls ((List.flatten ([(tX6 p0_2k)] : List (List (ClassId × FieldType)))) ++ (List.flatten ([(tX7 p0k), (tX10 p0_1k)] : List (List (ClassId × FieldType))))) s := vK_fa (vK_perm hK (bP ((((List.Perm.refl _)).cons _).trans (List.Perm.swap _ _ _))))
    have hPc := vP_l hPx
    have hDc := vD_l hDx
    have hKc := vK_l hKx
    have hFc := vfree hDx hS hA
    refine va_callv (va_runV (As := [.int (o_4.1)]) (rest := []) ⟨hx, hb, hml, hown, hts⟩ (kX6_putLabel l dC dI (p0a := (st0 (p0a 3) p0_2a)) (p0k := p0_2k) (p0w := o_12) (p0l := p0_2l) (p1 := (o_4.1)) (sz := _) (o := o_13) (hrun := hc_13)) (cwV 1 hts (gi_V qw1434 qw1435 qw1436 qw33 (gi_z qw1433)) rfl rfl rfl (by decide +kernel) ⟨rmF (Nat.le_of_ble_eq_true rfl), rmL (Nat.le_of_ble_eq_true rfl)⟩) ⟨PRE.blind, va_recv hKc hPc (ci := 2) (q0 := 0) rfl rfl, PRE.of hE hS hFc hPc hKc hDc⟩ rfl rfl hl.1 rfl (lv_room (Nat.le_of_ble_eq_true rfl)) dX7_readIf_77 ⟨(Nat.le_of_ble_eq_true rfl), (Nat.le_of_ble_eq_true rfl)⟩) hS (fun q _ h => hFc q h) hFc (fun u t H locs ht hvm hw hB hz1 hk1 hS => ?_)
    obtain ⟨b1, b2, b3⟩ := hB
    rw [ht] at b1
    obtain ⟨hP, hD, hK⟩ := JOINC (wc := (List.flatten ([(oX6 (p0a 3) p0_2a p0_2k o_12 p0_2l)] : List va_W))) (wr := (List.flatten ([(oX7 (p0a 0) p0a p0k (o_9.1) (o_7.2.1)), (oX10 (p0a 2) p0_1a p0_1k (o_9.2.1) (o_9.2.2))] : List va_W))) (w1 := (List.flatten ([(oX6 (p0a 3) p0_2a p0_2k o_13 p0_2l)] : List va_W))) (t1 := (List.flatten ([(tX6 p0_2k)] : List (List (ClassId × FieldType))))) hPx hDx hKx hk1 hFc b1 (va_K.moved hvm.symm b2) b3
    have hP : va_P (dC, dI) cls (List.flatten ([(oX7 (p0a 0) p0a p0k (o_9.1) (o_7.2.1)), (oX6 (p0a 3) p0_2a p0_2k o_13 p0_2l), (oX10 (p0a 2) p0_1a p0_1k (o_9.2.1) (o_9.2.2))] : List va_W)) H := vP_perm (vP_fb hP) (bP ((((List.Perm.refl _)).cons _).trans (List.Perm.swap _ _ _)))
    have hD : va_D A (List.flatten ([(oX7 (p0a 0) p0a p0k (o_9.1) (o_7.2.1)), (oX6 (p0a 3) p0_2a p0_2k o_13 p0_2l), (oX10 (p0a 2) p0_1a p0_1k (o_9.2.1) (o_9.2.2))] : List va_W)) := vD_perm (vD_fb hD) (bP ((((List.Perm.refl _)).cons _).trans (List.Perm.swap _ _ _)))
    have hK : va_K (dC, dI) cls (List.flatten ([(tX7 p0k), (tX6 p0_2k), (tX10 p0_1k)] : List (List (ClassId × FieldType)))) s := vK_perm (vK_fb hK) (bP ((((List.Perm.refl _)).cons _).trans (List.Perm.swap _ _ _)))
    refine lv_aload_n hx hb dX7_readIf_80 rfl (lv_at hl 2 rfl) ?_
    obtain ⟨o_14, hc_14, hrun⟩ := bnd9 hrun
    have hPx : va_P (dC, dI) cls ((List.flatten ([(oX7 (p0a 0) p0a p0k (o_9.1) (o_7.2.1)), (oX6 (p0a 3) p0_2a p0_2k o_13 p0_2l), (oX10 (p0a 2) p0_1a p0_1k (o_9.2.1) (o_9.2.2))] : List va_W)) ++ (List.flatten ([] : List va_W))) H := vP_fa (vP_perm hP (bP (List.Perm.refl _)))
    have hDx : va_D A ((List.flatten ([(oX7 (p0a 0) p0a p0k (o_9.1) (o_7.2.1)), (oX6 (p0a 3) p0_2a p0_2k o_13 p0_2l), (oX10 (p0a 2) p0_1a p0_1k (o_9.2.1) (o_9.2.2))] : List va_W)) ++ (List.flatten ([] : List va_W))) := vD_fa (vD_perm hD (bP (List.Perm.refl _)))
    have hKx : va_K (dC, dI) cls ((List.flatten ([(tX7 p0k), (tX6 p0_2k), (tX10 p0_1k)] : List (List (ClassId × FieldType)))) ++ (List.flatten ([] : List (List (ClassId × FieldType))))) s := vK_fa (vK_perm hK (bP (List.Perm.refl _)))
    have hPc := vP_l hPx
    have hDc := vD_l hDx
    have hKc := vK_l hKx
    have hFc := vfree hDx hS hA
    refine va_callv (va_runV (As := []) (rest := []) ⟨hx, hb, hml, hown, hts⟩ (hkk_readBlock dC dI (p0a := p0a) (p0k := p0k) (p0w := (o_9.1)) (p0l := (o_7.2.1)) (aK := aK) (aV := aV) (p0_2a := p0_2a) (p0_2k := p0_2k) (p0_2w := o_13) (p0_2l := p0_2l) (p0_1a := p0_1a) (p0_1k := p0_1k) (p0_1w := (o_9.2.1)) (p0_1l := (o_9.2.2)) (sz := _) (o := o_14) (hrun := hc_14)) (cwV 0 hts (gi_V qw1430 qw1431 qw1432 qw65 (gi_z qw1429)) rfl rfl rfl (by decide +kernel) ⟨rmF9, rmL9 (n := 22) (Nat.le_of_ble_eq_true rfl)⟩) ⟨PRE.blind, va_recv hKc hPc (ci := 1) (q0 := 0) rfl rfl, PRE.of (ENV.add hE st9_m hro_st) hS hFc hPc hKc hDc⟩ rfl rfl hl.1 rfl (lv_room (Nat.le_of_ble_eq_true rfl)) dX7_readIf_81 ⟨(Nat.le_of_ble_eq_true rfl), (Nat.le_of_ble_eq_true rfl)⟩) hS (fun q _ h => hFc q h) hFc (fun u t H locs ht hvm hw hB hz1 hk1 hS => ?_)
    obtain ⟨b1, b2, b3⟩ := hB
    rw [ht] at b1
    obtain ⟨hP, hD, hK⟩ := JOINC (wc := (List.flatten ([(oX7 (p0a 0) p0a p0k (o_9.1) (o_7.2.1)), (oX6 (p0a 3) p0_2a p0_2k o_13 p0_2l), (oX10 (p0a 2) p0_1a p0_1k (o_9.2.1) (o_9.2.2))] : List va_W))) (wr := (List.flatten ([] : List va_W))) (w1 := (List.flatten ([(oX7 (p0a 0) p0a p0k (o_14.1) (o_14.2.1)), (oX6 (p0a 3) p0_2a p0_2k (o_14.2.2.1) p0_2l), (oX10 (p0a 2) p0_1a p0_1k (o_14.2.2.2.1) (o_14.2.2.2.2))] : List va_W))) (t1 := (List.flatten ([(tX7 p0k), (tX6 p0_2k), (tX10 p0_1k)] : List (List (ClassId × FieldType))))) hPx hDx hKx hk1 hFc b1 (va_K.moved hvm.symm b2) b3
    have hP : va_P (dC, dI) cls (List.flatten ([(oX7 (p0a 0) p0a p0k (o_14.1) (o_14.2.1)), (oX6 (p0a 3) p0_2a p0_2k (o_14.2.2.1) p0_2l), (oX10 (p0a 2) p0_1a p0_1k (o_14.2.2.2.1) (o_14.2.2.2.2))] : List va_W)) H := vP_perm (vP_fb hP) (bP (List.Perm.refl _))
    have hD : va_D A (List.flatten ([(oX7 (p0a 0) p0a p0k (o_14.1) (o_14.2.1)), (oX6 (p0a 3) p0_2a p0_2k (o_14.2.2.1) p0_2l), (oX10 (p0a 2) p0_1a p0_1k (o_14.2.2.2.1) (o_14.2.2.2.2))] : List va_W)) := vD_perm (vD_fb hD) (bP (List.Perm.refl _))
    have hK : va_K (dC, dI) cls (List.flatten ([(tX7 p0k), (tX6 p0_2k), (tX10 p0_1k)] : List (List (ClassId × FieldType)))) s := vK_perm (vK_fb hK) (bP (List.Perm.refl _))
    refine lv_aload_n hx hb dX7_readIf_84 rfl (lv_at hl 2 rfl) ?_
    refine va_get (D := (dC, dI)) (ci := 1) (v := .ref (p0a 3)) (C := RX7) (T := TX7) (N := 18) hx hb hts i_X7 hown hK hP 0 rfl rfl 2 (by decide) (hts _ qw26) (fun _ h9 => h9) rfl dX7_readIf_85 ?_
    refine lv_iload_n hx hb dX7_readIf_88 rfl (lv_at hl 0 rfl) ?_
    obtain ⟨o_15, hc_15, hrun⟩ := bnd9 hrun
    have hPx : va_P (dC, dI) cls ((List.flatten ([(oX6 (p0a 3) p0_2a p0_2k (o_14.2.2.1) p0_2l)] : List va_W)) ++ (List.flatten ([(oX7 (p0a 0) p0a p0k (o_14.1) (o_14.2.1)), (oX10 (p0a 2) p0_1a p0_1k (o_14.2.2.2.1) (o_14.2.2.2.2))] : List va_W))) H := vP_fa (vP_perm hP (bP ((((List.Perm.refl _)).cons _).trans (List.Perm.swap _ _ _))))
    have hDx : va_D A ((List.flatten ([(oX6 (p0a 3) p0_2a p0_2k (o_14.2.2.1) p0_2l)] : List va_W)) ++ (List.flatten ([(oX7 (p0a 0) p0a p0k (o_14.1) (o_14.2.1)), (oX10 (p0a 2) p0_1a p0_1k (o_14.2.2.2.1) (o_14.2.2.2.2))] : List va_W))) := vD_fa (vD_perm hD (bP ((((List.Perm.refl _)).cons _).trans (List.Perm.swap _ _ _))))
    have hKx : va_K (dC, dI) cls ((List.flatten ([(tX6 p0_2k)] : List (List (ClassId × FieldType)))) ++ (List.flatten ([(tX7 p0k), (tX10 p0_1k)] : List (List (ClassId × FieldType))))) s := vK_fa (vK_perm hK (bP ((((List.Perm.refl _)).cons _).trans (List.Perm.swap _ _ _))))
    have hPc := vP_l hPx
    have hDc := vD_l hDx
    have hKc := vK_l hKx
    have hFc := vfree hDx hS hA
    refine va_callv (va_runV (As := [.int (o_10.1)]) (rest := []) ⟨hx, hb, hml, hown, hts⟩ (kX6_putLabel l dC dI (p0a := (st0 (p0a 3) p0_2a)) (p0k := p0_2k) (p0w := (o_14.2.2.1)) (p0l := p0_2l) (p1 := (o_10.1)) (sz := _) (o := o_15) (hrun := hc_15)) (cwV 1 hts (gi_V qw1434 qw1435 qw1436 qw33 (gi_z qw1433)) rfl rfl rfl (by decide +kernel) ⟨rmF (Nat.le_of_ble_eq_true rfl), rmL (Nat.le_of_ble_eq_true rfl)⟩) ⟨PRE.blind, va_recv hKc hPc (ci := 2) (q0 := 0) rfl rfl, PRE.of hE hS hFc hPc hKc hDc⟩ rfl rfl hl.1 rfl (lv_room (Nat.le_of_ble_eq_true rfl)) dX7_readIf_89 ⟨(Nat.le_of_ble_eq_true rfl), (Nat.le_of_ble_eq_true rfl)⟩) hS (fun q _ h => hFc q h) hFc (fun u t H locs ht hvm hw hB hz1 hk1 hS => ?_)
    obtain ⟨b1, b2, b3⟩ := hB
    rw [ht] at b1
    obtain ⟨hP, hD, hK⟩ := JOINC (wc := (List.flatten ([(oX6 (p0a 3) p0_2a p0_2k (o_14.2.2.1) p0_2l)] : List va_W))) (wr := (List.flatten ([(oX7 (p0a 0) p0a p0k (o_14.1) (o_14.2.1)), (oX10 (p0a 2) p0_1a p0_1k (o_14.2.2.2.1) (o_14.2.2.2.2))] : List va_W))) (w1 := (List.flatten ([(oX6 (p0a 3) p0_2a p0_2k o_15 p0_2l)] : List va_W))) (t1 := (List.flatten ([(tX6 p0_2k)] : List (List (ClassId × FieldType))))) hPx hDx hKx hk1 hFc b1 (va_K.moved hvm.symm b2) b3
    have hP : va_P (dC, dI) cls (List.flatten ([(oX7 (p0a 0) p0a p0k (o_14.1) (o_14.2.1)), (oX6 (p0a 3) p0_2a p0_2k o_15 p0_2l), (oX10 (p0a 2) p0_1a p0_1k (o_14.2.2.2.1) (o_14.2.2.2.2))] : List va_W)) H := vP_perm (vP_fb hP) (bP ((((List.Perm.refl _)).cons _).trans (List.Perm.swap _ _ _)))
    have hD : va_D A (List.flatten ([(oX7 (p0a 0) p0a p0k (o_14.1) (o_14.2.1)), (oX6 (p0a 3) p0_2a p0_2k o_15 p0_2l), (oX10 (p0a 2) p0_1a p0_1k (o_14.2.2.2.1) (o_14.2.2.2.2))] : List va_W)) := vD_perm (vD_fb hD) (bP ((((List.Perm.refl _)).cons _).trans (List.Perm.swap _ _ _)))
    have hK : va_K (dC, dI) cls (List.flatten ([(tX7 p0k), (tX6 p0_2k), (tX10 p0_1k)] : List (List (ClassId × FieldType)))) s := vK_perm (vK_fb hK) (bP ((((List.Perm.refl _)).cons _).trans (List.Perm.swap _ _ _)))
    refine lv_goto (tgt := 103) hx hb dX7_readIf_92 (by decide) ?_
    exact J103 (o_14.1) (o_14.2.1) o_15 (o_14.2.2.2.1) (o_14.2.2.2.2) _ _ _ hrun hP hD hK hS (lv_sub hl [] rfl)
  · refine lv_icmp_ne (tgt := 95) hx hb dX7_readIf_44 (by decide) (fun _ => ?_) (fun c => absurd c hc8)
    refine lv_aload_n hx hb dX7_readIf_95 rfl (lv_at hl 1 rfl) ?_
    refine va_get (D := (dC, dI)) (ci := 1) (v := .ref (p0a 3)) (C := RX7) (T := TX7) (N := 18) hx hb hts i_X7 hown hK hP 0 rfl rfl 2 (by decide) (hts _ qw26) (fun _ h9 => h9) rfl dX7_readIf_96 ?_
    refine lv_iload_n hx hb dX7_readIf_99 rfl (lv_at hl 0 rfl) ?_
    obtain ⟨o_16, hc_16, hrun⟩ := bnd9 hrun
    have hPx : va_P (dC, dI) cls ((List.flatten ([(oX6 (p0a 3) p0_2a p0_2k (o_7.2.2.1) p0_2l)] : List va_W)) ++ (List.flatten ([(oX7 (p0a 0) p0a p0k (o_7.1) (o_7.2.1)), (oX10 (p0a 2) p0_1a p0_1k (o_7.2.2.2.1) (o_7.2.2.2.2))] : List va_W))) H := vP_fa (vP_perm hP (bP ((((List.Perm.refl _)).cons _).trans (List.Perm.swap _ _ _))))
    have hDx : va_D A ((List.flatten ([(oX6 (p0a 3) p0_2a p0_2k (o_7.2.2.1) p0_2l)] : List va_W)) ++ (List.flatten ([(oX7 (p0a 0) p0a p0k (o_7.1) (o_7.2.1)), (oX10 (p0a 2) p0_1a p0_1k (o_7.2.2.2.1) (o_7.2.2.2.2))] : List va_W))) := vD_fa (vD_perm hD (bP ((((List.Perm.refl _)).cons _).trans (List.Perm.swap _ _ _))))
    have hKx : va_K (dC, dI) cls ((List.flatten ([(tX6 p0_2k)] : List (List (ClassId × FieldType)))) ++ (List.flatten ([(tX7 p0k), (tX10 p0_1k)] : List (List (ClassId × FieldType))))) s := vK_fa (vK_perm hK (bP ((((List.Perm.refl _)).cons _).trans (List.Perm.swap _ _ _))))
    have hPc := vP_l hPx
    have hDc := vD_l hDx
    have hKc := vK_l hKx
    have hFc := vfree hDx hS hA
    refine va_callv (va_runV (As := [.int (o_4.1)]) (rest := []) ⟨hx, hb, hml, hown, hts⟩ (kX6_putLabel l dC dI (p0a := (st0 (p0a 3) p0_2a)) (p0k := p0_2k) (p0w := (o_7.2.2.1)) (p0l := p0_2l) (p1 := (o_4.1)) (sz := _) (o := o_16) (hrun := hc_16)) (cwV 1 hts (gi_V qw1434 qw1435 qw1436 qw33 (gi_z qw1433)) rfl rfl rfl (by decide +kernel) ⟨rmF (Nat.le_of_ble_eq_true rfl), rmL (Nat.le_of_ble_eq_true rfl)⟩) ⟨PRE.blind, va_recv hKc hPc (ci := 2) (q0 := 0) rfl rfl, PRE.of hE hS hFc hPc hKc hDc⟩ rfl rfl hl.1 rfl (lv_room (Nat.le_of_ble_eq_true rfl)) dX7_readIf_100 ⟨(Nat.le_of_ble_eq_true rfl), (Nat.le_of_ble_eq_true rfl)⟩) hS (fun q _ h => hFc q h) hFc (fun u t H locs ht hvm hw hB hz1 hk1 hS => ?_)
    obtain ⟨b1, b2, b3⟩ := hB
    rw [ht] at b1
    obtain ⟨hP, hD, hK⟩ := JOINC (wc := (List.flatten ([(oX6 (p0a 3) p0_2a p0_2k (o_7.2.2.1) p0_2l)] : List va_W))) (wr := (List.flatten ([(oX7 (p0a 0) p0a p0k (o_7.1) (o_7.2.1)), (oX10 (p0a 2) p0_1a p0_1k (o_7.2.2.2.1) (o_7.2.2.2.2))] : List va_W))) (w1 := (List.flatten ([(oX6 (p0a 3) p0_2a p0_2k o_16 p0_2l)] : List va_W))) (t1 := (List.flatten ([(tX6 p0_2k)] : List (List (ClassId × FieldType))))) hPx hDx hKx hk1 hFc b1 (va_K.moved hvm.symm b2) b3
    have hP : va_P (dC, dI) cls (List.flatten ([(oX7 (p0a 0) p0a p0k (o_7.1) (o_7.2.1)), (oX6 (p0a 3) p0_2a p0_2k o_16 p0_2l), (oX10 (p0a 2) p0_1a p0_1k (o_7.2.2.2.1) (o_7.2.2.2.2))] : List va_W)) H := vP_perm (vP_fb hP) (bP ((((List.Perm.refl _)).cons _).trans (List.Perm.swap _ _ _)))
    have hD : va_D A (List.flatten ([(oX7 (p0a 0) p0a p0k (o_7.1) (o_7.2.1)), (oX6 (p0a 3) p0_2a p0_2k o_16 p0_2l), (oX10 (p0a 2) p0_1a p0_1k (o_7.2.2.2.1) (o_7.2.2.2.2))] : List va_W)) := vD_perm (vD_fb hD) (bP ((((List.Perm.refl _)).cons _).trans (List.Perm.swap _ _ _)))
    have hK : va_K (dC, dI) cls (List.flatten ([(tX7 p0k), (tX6 p0_2k), (tX10 p0_1k)] : List (List (ClassId × FieldType)))) s := vK_perm (vK_fb hK) (bP ((((List.Perm.refl _)).cons _).trans (List.Perm.swap _ _ _)))
    exact J103 (o_7.1) (o_7.2.1) o_16 (o_7.2.2.2.1) (o_7.2.2.2.2) _ _ _ hrun hP hD hK hS (lv_sub hl [] rfl)
set_option maxHeartbeats 16000000 in
set_option maxRecDepth 100000 in
theorem kX7_readWhile {zs : ZS} (l : Launch) (kk_readTest : ST → SL → Int32 → ST → SL → ST → SL → Option (Int32 × ST × SL × ST × ST × SL)) (kk_readBlock : ST → SL → ST → SL → ST → SL → Option (ST × SL × ST × ST × SL)) (F9 L9 : Nat) (hkk_readTest : ∀ {zs : ZS} (dC : Nat → ClassId) (dI : Nat → Nat → Nat) (p0a : Nat → Nat) (p0k : Nat → ClassId) (p0w : ST) (p0l : SL) (p1 : Int32) (aK : Nat → Nat) (aV : Nat → Nat) (p0_2a : Nat → Nat) (p0_2k : Nat → ClassId) (p0_2w : ST) (p0_2l : SL) (p0_1a : Nat → Nat) (p0_1k : Nat → ClassId) (p0_1w : ST) (p0_1l : SL) (sz : Nat) (o : Int32 × ST × SL × ST × ST × SL) (hrun : kk_readTest p0w p0l p1 p0_2w p0_2l p0_1w p0_1l = some o), Met l yX7_readTest (wz yX7_readTest cX7_readTest 8 (Option.some Jvm.ClassFile.FieldType.int)) ({ frames := F9, cells := 0, slots := 0, locals := L9 } : Room) (va_Pc [.ref (p0a 0), .int p1] (PRE (zA zs (st9 aK aV)) dC dI (List.flatten ([(oX7 (p0a 0) p0a p0k p0w p0l), (oX6 (p0a 3) p0_2a p0_2k p0_2w p0_2l), (oX10 (p0a 2) p0_1a p0_1k p0_1w p0_1l)] : List va_W)) (List.flatten ([(tX7 p0k), (tX6 p0_2k), (tX10 p0_1k)] : List (List (ClassId × FieldType)))) sz)) (va_Qi (fun (r : Int32) (_ : Unit) => r = (o.1)) (fun _ t => POST dC dI (List.flatten ([(oX7 (p0a 0) p0a p0k (o.2.1) (o.2.2.1)), (oX6 (p0a 3) p0_2a p0_2k (o.2.2.2.1) p0_2l), (oX10 (p0a 2) p0_1a p0_1k (o.2.2.2.2.1) (o.2.2.2.2.2))] : List va_W)) (List.flatten ([(tX7 p0k), (tX6 p0_2k), (tX10 p0_1k)] : List (List (ClassId × FieldType)))) (va_A (List.flatten ([(oX7 (p0a 0) p0a p0k p0w p0l), (oX6 (p0a 3) p0_2a p0_2k p0_2w p0_2l), (oX10 (p0a 2) p0_1a p0_1k p0_1w p0_1l)] : List va_W)) sz) t) (va_A (List.flatten ([(oX7 (p0a 0) p0a p0k p0w p0l), (oX6 (p0a 3) p0_2a p0_2k p0_2w p0_2l), (oX10 (p0a 2) p0_1a p0_1k p0_1w p0_1l)] : List va_W)) sz)) 0 0 (va_A (List.flatten ([(oX7 (p0a 0) p0a p0k p0w p0l), (oX6 (p0a 3) p0_2a p0_2k p0_2w p0_2l), (oX10 (p0a 2) p0_1a p0_1k p0_1w p0_1l)] : List va_W)) sz)) (hkk_readBlock : ∀ {zs : ZS} (dC : Nat → ClassId) (dI : Nat → Nat → Nat) (p0a : Nat → Nat) (p0k : Nat → ClassId) (p0w : ST) (p0l : SL) (aK : Nat → Nat) (aV : Nat → Nat) (p0_2a : Nat → Nat) (p0_2k : Nat → ClassId) (p0_2w : ST) (p0_2l : SL) (p0_1a : Nat → Nat) (p0_1k : Nat → ClassId) (p0_1w : ST) (p0_1l : SL) (sz : Nat) (o : ST × SL × ST × ST × SL) (hrun : kk_readBlock p0w p0l p0_2w p0_2l p0_1w p0_1l = some o), Met l yX7_readBlock (wz yX7_readBlock cX7_readBlock 3 (Option.none : Option Jvm.ClassFile.FieldType)) ({ frames := F9, cells := 0, slots := 0, locals := L9 } : Room) (va_Pc [.ref (p0a 0)] (PRE (zA zs (st9 aK aV)) dC dI (List.flatten ([(oX7 (p0a 0) p0a p0k p0w p0l), (oX6 (p0a 3) p0_2a p0_2k p0_2w p0_2l), (oX10 (p0a 2) p0_1a p0_1k p0_1w p0_1l)] : List va_W)) (List.flatten ([(tX7 p0k), (tX6 p0_2k), (tX10 p0_1k)] : List (List (ClassId × FieldType)))) sz)) (va_Qv (fun (_ : Unit) => True) (fun _ t => POST dC dI (List.flatten ([(oX7 (p0a 0) p0a p0k (o.1) (o.2.1)), (oX6 (p0a 3) p0_2a p0_2k (o.2.2.1) p0_2l), (oX10 (p0a 2) p0_1a p0_1k (o.2.2.2.1) (o.2.2.2.2))] : List va_W)) (List.flatten ([(tX7 p0k), (tX6 p0_2k), (tX10 p0_1k)] : List (List (ClassId × FieldType)))) (va_A (List.flatten ([(oX7 (p0a 0) p0a p0k p0w p0l), (oX6 (p0a 3) p0_2a p0_2k p0_2w p0_2l), (oX10 (p0a 2) p0_1a p0_1k p0_1w p0_1l)] : List va_W)) sz) t) (va_A (List.flatten ([(oX7 (p0a 0) p0a p0k p0w p0l), (oX6 (p0a 3) p0_2a p0_2k p0_2w p0_2l), (oX10 (p0a 2) p0_1a p0_1k p0_1w p0_1l)] : List va_W)) sz)) 0 0 (va_A (List.flatten ([(oX7 (p0a 0) p0a p0k p0w p0l), (oX6 (p0a 3) p0_2a p0_2k p0_2w p0_2l), (oX10 (p0a 2) p0_1a p0_1k p0_1w p0_1l)] : List va_W)) sz)) (dC : Nat → ClassId) (dI : Nat → Nat → Nat) (p0a : Nat → Nat) (p0k : Nat → ClassId) (p0w : ST) (p0l : SL) (aK : Nat → Nat) (aV : Nat → Nat) (p0_2a : Nat → Nat) (p0_2k : Nat → ClassId) (p0_2w : ST) (p0_2l : SL) (p0_1a : Nat → Nat) (p0_1k : Nat → ClassId) (p0_1w : ST) (p0_1l : SL) (sz : Nat) (o : ST × SL × ST × ST × SL) (hrun : fX7_readWhile kk_readTest kk_readBlock p0w p0l p0_2w p0_2l p0_1w p0_1l = some o) : Met l yX7_readWhile (wz yX7_readWhile cX7_readWhile 3 (Option.none : Option Jvm.ClassFile.FieldType)) ({ frames := F9 + 8, cells := 0, slots := 0, locals := L9 + 400 } : Room) (va_Pc [.ref (p0a 0)] (PRE (zA zs (st9 aK aV)) dC dI (List.flatten ([(oX7 (p0a 0) p0a p0k p0w p0l), (oX6 (p0a 3) p0_2a p0_2k p0_2w p0_2l), (oX10 (p0a 2) p0_1a p0_1k p0_1w p0_1l)] : List va_W)) (List.flatten ([(tX7 p0k), (tX6 p0_2k), (tX10 p0_1k)] : List (List (ClassId × FieldType)))) sz)) (va_Qv (fun (_ : Unit) => True) (fun _ t => POST dC dI (List.flatten ([(oX7 (p0a 0) p0a p0k (o.1) (o.2.1)), (oX6 (p0a 3) p0_2a p0_2k (o.2.2.1) p0_2l), (oX10 (p0a 2) p0_1a p0_1k (o.2.2.2.1) (o.2.2.2.2))] : List va_W)) (List.flatten ([(tX7 p0k), (tX6 p0_2k), (tX10 p0_1k)] : List (List (ClassId × FieldType)))) (va_A (List.flatten ([(oX7 (p0a 0) p0a p0k p0w p0l), (oX6 (p0a 3) p0_2a p0_2k p0_2w p0_2l), (oX10 (p0a 2) p0_1a p0_1k p0_1w p0_1l)] : List va_W)) sz) t) (va_A (List.flatten ([(oX7 (p0a 0) p0a p0k p0w p0l), (oX6 (p0a 3) p0_2a p0_2k p0_2w p0_2l), (oX10 (p0a 2) p0_1a p0_1k p0_1w p0_1l)] : List va_W)) sz)) 0 0 (va_A (List.flatten ([(oX7 (p0a 0) p0a p0k p0w p0l), (oX6 (p0a 3) p0_2a p0_2k p0_2w p0_2l), (oX10 (p0a 2) p0_1a p0_1k p0_1w p0_1l)] : List va_W)) sz) := by
  refine Met.ofW (cc := cX7_readWhile) (maxL := 3) (ret := (Option.none : Option Jvm.ClassFile.FieldType)) (by decide) rfl ?_
  intro p e s m args below meth c s₁ B hml hv
  obtain ⟨rfl, hsz, hP, hK, hD0, hE⟩ := hv
  have hx := B.exec
  have hb := B.bytes
  have hr := B.returns
  have hts0 := atoms_spec (ws := wz yX7_readWhile cX7_readWhile 3 (Option.none : Option Jvm.ClassFile.FieldType)) B.pre
  have hts : ∀ w ∈ gw, w.before _ s = true := fun w h => hts0 w (List.mem_cons_of_mem _ h)
  have hown : s.vm.findClass RX7 = some m.cls := findClass_of_methodNamed B.named
  have hlocks := B.notSynchronized
  subst hsz
  have hD := hD0.self (sz := s.heap.size)
  refine gQ9 ?_
  intro Q hQ
  generalize hAe : va_A (List.flatten ([(oX7 (p0a 0) p0a p0k p0w p0l), (oX6 (p0a 3) p0_2a p0_2k p0_2w p0_2l), (oX10 (p0a 2) p0_1a p0_1k p0_1w p0_1l)] : List va_W)) s.heap.size = A at hD hE hQ
  have hA : ∀ q : Nat, s.heap.size ≤ q → A q := fun q h => by rw [← hAe]; exact Or.inr h
  have hro := ENV.ex hE
  have hro_st := hro.2
  replace hro := hro.1
  have hS : va_S A s.heap s.heap [] := va_S.rf
  have hP : va_P (dC, dI) cls (List.flatten ([(oX7 (p0a 0) p0a p0k p0w p0l), (oX6 (p0a 3) p0_2a p0_2k p0_2w p0_2l), (oX10 (p0a 2) p0_1a p0_1k p0_1w p0_1l)] : List va_W)) s.heap := hP
  have hl := lv_entry ([.ref (p0a 0)]) (n := 3) (Nat.le_of_ble_eq_true rfl)
  rw [lg_entry_eq]
  generalize (lg_sl ([.ref (p0a 0)]) ++ List.replicate (3 - (lg_sl ([.ref (p0a 0)])).length) Slot.unset).toArray = ls at hl ⊢
  have hl : lv_has ls 3 [(0, .ref (p0a 0))] := hl
  obtain ⟨H, hHe⟩ : ∃ H, H = s.heap := ⟨_, rfl⟩
  obtain ⟨locs, hle⟩ : ∃ locs : List Loc, locs = [] := ⟨_, rfl⟩
  rw [← hHe] at hP
  have hS : va_S A s.heap H locs := by rw [hHe, hle]; exact hS
  show W p l e ({ frames := F9 + 8, cells := 0, slots := 0, locals := L9 + 400 } : Room) s m ([.ref (p0a 0)] : List Value).toArray below meth c s.heap [] 0 0 Q (F0 m 0 ls [])
  rw [← hle]
  refine wH9 hHe ?_
  unfold fX7_readWhile at hrun
  refine lv_aload_n hx hb dX7_readWhile_0 rfl (lv_at hl 0 rfl) ?_
  refine lv_bipush (v := 11) hx hb dX7_readWhile_1 (by decide) ?_
  obtain ⟨o_1, hc_1, hrun⟩ := bnd9 hrun
  have hPx : va_P (dC, dI) cls ((List.flatten ([(oX7 (p0a 0) p0a p0k p0w p0l), (oX10 (p0a 2) p0_1a p0_1k p0_1w p0_1l)] : List va_W)) ++ (List.flatten ([(oX6 (p0a 3) p0_2a p0_2k p0_2w p0_2l)] : List va_W))) H := vP_fa (vP_perm hP (bP (((List.Perm.refl _)).trans ((((((List.Perm.refl _)).cons _).trans (List.Perm.swap _ _ _))).cons _))))
  have hDx : va_D A ((List.flatten ([(oX7 (p0a 0) p0a p0k p0w p0l), (oX10 (p0a 2) p0_1a p0_1k p0_1w p0_1l)] : List va_W)) ++ (List.flatten ([(oX6 (p0a 3) p0_2a p0_2k p0_2w p0_2l)] : List va_W))) := vD_fa (vD_perm hD (bP (((List.Perm.refl _)).trans ((((((List.Perm.refl _)).cons _).trans (List.Perm.swap _ _ _))).cons _))))
  have hKx : va_K (dC, dI) cls ((List.flatten ([(tX7 p0k), (tX10 p0_1k)] : List (List (ClassId × FieldType)))) ++ (List.flatten ([(tX6 p0_2k)] : List (List (ClassId × FieldType))))) s := vK_fa (vK_perm hK (bP (((List.Perm.refl _)).trans ((((((List.Perm.refl _)).cons _).trans (List.Perm.swap _ _ _))).cons _))))
  have hPc := vP_l hPx
  have hDc := vD_l hDx
  have hKc := vK_l hKx
  have hFc := vfree hDx hS hA
  refine va_callv (va_runV (As := [.int 11]) (rest := []) ⟨hx, hb, hml, hown, hts⟩ (kX7_expect l dC dI (p0a := p0a) (p0k := p0k) (p0w := p0w) (p0l := p0l) (p1 := 11) (aK := aK) (aV := aV) (p0_1a := p0_1a) (p0_1k := p0_1k) (p0_1w := p0_1w) (p0_1l := p0_1l) (sz := _) (o := o_1) (hrun := hc_1)) (cwV 1 hts (gi_V qw1386 qw1387 qw1388 qw65 (gi_z qw1385)) rfl rfl rfl (by decide +kernel) ⟨rmF (Nat.le_of_ble_eq_true rfl), rmL (Nat.le_of_ble_eq_true rfl)⟩) ⟨PRE.blind, va_recv hKc hPc (ci := 1) (q0 := 0) rfl rfl, PRE.of (ENV.add hE st9_m hro_st) hS hFc hPc hKc hDc⟩ rfl rfl hl.1 rfl (lv_room (Nat.le_of_ble_eq_true rfl)) dX7_readWhile_3 ⟨(Nat.le_of_ble_eq_true rfl), (Nat.le_of_ble_eq_true rfl)⟩) hS (fun q _ h => hFc q h) hFc (fun u t H locs ht hvm hw hB hz1 hk1 hS => ?_)
  obtain ⟨b1, b2, b3⟩ := hB
  rw [ht] at b1
  obtain ⟨hP, hD, hK⟩ := JOINC (wc := (List.flatten ([(oX7 (p0a 0) p0a p0k p0w p0l), (oX10 (p0a 2) p0_1a p0_1k p0_1w p0_1l)] : List va_W))) (wr := (List.flatten ([(oX6 (p0a 3) p0_2a p0_2k p0_2w p0_2l)] : List va_W))) (w1 := (List.flatten ([(oX7 (p0a 0) p0a p0k (o_1.1) p0l), (oX10 (p0a 2) p0_1a p0_1k (o_1.2.1) (o_1.2.2))] : List va_W))) (t1 := (List.flatten ([(tX7 p0k), (tX10 p0_1k)] : List (List (ClassId × FieldType))))) hPx hDx hKx hk1 hFc b1 (va_K.moved hvm.symm b2) b3
  have hP : va_P (dC, dI) cls (List.flatten ([(oX7 (p0a 0) p0a p0k (o_1.1) p0l), (oX6 (p0a 3) p0_2a p0_2k p0_2w p0_2l), (oX10 (p0a 2) p0_1a p0_1k (o_1.2.1) (o_1.2.2))] : List va_W)) H := vP_perm (vP_fb hP) (bP (((List.Perm.refl _)).trans ((((((List.Perm.refl _)).cons _).trans (List.Perm.swap _ _ _))).cons _)))
  have hD : va_D A (List.flatten ([(oX7 (p0a 0) p0a p0k (o_1.1) p0l), (oX6 (p0a 3) p0_2a p0_2k p0_2w p0_2l), (oX10 (p0a 2) p0_1a p0_1k (o_1.2.1) (o_1.2.2))] : List va_W)) := vD_perm (vD_fb hD) (bP (((List.Perm.refl _)).trans ((((((List.Perm.refl _)).cons _).trans (List.Perm.swap _ _ _))).cons _)))
  have hK : va_K (dC, dI) cls (List.flatten ([(tX7 p0k), (tX6 p0_2k), (tX10 p0_1k)] : List (List (ClassId × FieldType)))) s := vK_perm (vK_fb hK) (bP (((List.Perm.refl _)).trans ((((((List.Perm.refl _)).cons _).trans (List.Perm.swap _ _ _))).cons _)))
  refine lv_aload_n hx hb dX7_readWhile_6 rfl (lv_at hl 0 rfl) ?_
  refine va_get (D := (dC, dI)) (ci := 1) (v := .ref (p0a 3)) (C := RX7) (T := TX7) (N := 18) hx hb hts i_X7 hown hK hP 0 rfl rfl 2 (by decide) (hts _ qw26) (fun _ h9 => h9) rfl dX7_readWhile_7 ?_
  refine lv_bipush (v := 37) hx hb dX7_readWhile_10 (by decide) ?_
  refine lv_iconst (v := 0) hx hb dX7_readWhile_12 (by decide) ?_
  refine lv_iconst (v := 0) hx hb dX7_readWhile_13 (by decide) ?_
  obtain ⟨o_2, hc_2, hrun⟩ := bnd9 hrun
  have hPx : va_P (dC, dI) cls ((List.flatten ([(oX6 (p0a 3) p0_2a p0_2k p0_2w p0_2l)] : List va_W)) ++ (List.flatten ([(oX7 (p0a 0) p0a p0k (o_1.1) p0l), (oX10 (p0a 2) p0_1a p0_1k (o_1.2.1) (o_1.2.2))] : List va_W))) H := vP_fa (vP_perm hP (bP ((((List.Perm.refl _)).cons _).trans (List.Perm.swap _ _ _))))
  have hDx : va_D A ((List.flatten ([(oX6 (p0a 3) p0_2a p0_2k p0_2w p0_2l)] : List va_W)) ++ (List.flatten ([(oX7 (p0a 0) p0a p0k (o_1.1) p0l), (oX10 (p0a 2) p0_1a p0_1k (o_1.2.1) (o_1.2.2))] : List va_W))) := vD_fa (vD_perm hD (bP ((((List.Perm.refl _)).cons _).trans (List.Perm.swap _ _ _))))
  have hKx : va_K (dC, dI) cls ((List.flatten ([(tX6 p0_2k)] : List (List (ClassId × FieldType)))) ++ (List.flatten ([(tX7 p0k), (tX10 p0_1k)] : List (List (ClassId × FieldType))))) s := vK_fa (vK_perm hK (bP ((((List.Perm.refl _)).cons _).trans (List.Perm.swap _ _ _))))
  have hPc := vP_l hPx
  have hDc := vD_l hDx
  have hKc := vK_l hKx
  have hFc := vfree hDx hS hA
  refine va_callv (va_runV (As := [.int 37, .int 0, .int 0]) (rest := []) ⟨hx, hb, hml, hown, hts⟩ (kX6_emit l dC dI (p0a := (st0 (p0a 3) p0_2a)) (p0k := p0_2k) (p0w := p0_2w) (p0l := p0_2l) (p1 := 37) (p2 := 0) (p3 := 0) (sz := _) (o := o_2) (hrun := hc_2)) (cwV 3 hts (gi_V qw42 qw43 qw44 qw33 (gi_z qw41)) rfl rfl rfl (by decide +kernel) ⟨rmF (Nat.le_of_ble_eq_true rfl), rmL (Nat.le_of_ble_eq_true rfl)⟩) ⟨PRE.blind, va_recv hKc hPc (ci := 2) (q0 := 0) rfl rfl, PRE.of hE hS hFc hPc hKc hDc⟩ rfl rfl hl.1 rfl (lv_room (Nat.le_of_ble_eq_true rfl)) dX7_readWhile_14 ⟨(Nat.le_of_ble_eq_true rfl), (Nat.le_of_ble_eq_true rfl)⟩) hS (fun q _ h => hFc q h) hFc (fun u t H locs ht hvm hw hB hz1 hk1 hS => ?_)
  obtain ⟨b1, b2, b3⟩ := hB
  rw [ht] at b1
  obtain ⟨hP, hD, hK⟩ := JOINC (wc := (List.flatten ([(oX6 (p0a 3) p0_2a p0_2k p0_2w p0_2l)] : List va_W))) (wr := (List.flatten ([(oX7 (p0a 0) p0a p0k (o_1.1) p0l), (oX10 (p0a 2) p0_1a p0_1k (o_1.2.1) (o_1.2.2))] : List va_W))) (w1 := (List.flatten ([(oX6 (p0a 3) p0_2a p0_2k o_2 p0_2l)] : List va_W))) (t1 := (List.flatten ([(tX6 p0_2k)] : List (List (ClassId × FieldType))))) hPx hDx hKx hk1 hFc b1 (va_K.moved hvm.symm b2) b3
  have hP : va_P (dC, dI) cls (List.flatten ([(oX7 (p0a 0) p0a p0k (o_1.1) p0l), (oX6 (p0a 3) p0_2a p0_2k o_2 p0_2l), (oX10 (p0a 2) p0_1a p0_1k (o_1.2.1) (o_1.2.2))] : List va_W)) H := vP_perm (vP_fb hP) (bP ((((List.Perm.refl _)).cons _).trans (List.Perm.swap _ _ _)))
  have hD : va_D A (List.flatten ([(oX7 (p0a 0) p0a p0k (o_1.1) p0l), (oX6 (p0a 3) p0_2a p0_2k o_2 p0_2l), (oX10 (p0a 2) p0_1a p0_1k (o_1.2.1) (o_1.2.2))] : List va_W)) := vD_perm (vD_fb hD) (bP ((((List.Perm.refl _)).cons _).trans (List.Perm.swap _ _ _)))
  have hK : va_K (dC, dI) cls (List.flatten ([(tX7 p0k), (tX6 p0_2k), (tX10 p0_1k)] : List (List (ClassId × FieldType)))) s := vK_perm (vK_fb hK) (bP ((((List.Perm.refl _)).cons _).trans (List.Perm.swap _ _ _)))
  refine lv_aload_n hx hb dX7_readWhile_17 rfl (lv_at hl 0 rfl) ?_
  refine va_get (D := (dC, dI)) (ci := 1) (v := .ref (p0a 3)) (C := RX7) (T := TX7) (N := 18) hx hb hts i_X7 hown hK hP 0 rfl rfl 2 (by decide) (hts _ qw26) (fun _ h9 => h9) rfl dX7_readWhile_18 ?_
  obtain ⟨o_3, hc_3, hrun⟩ := bnd9 hrun
  have hPx : va_P (dC, dI) cls ((List.flatten ([(oX6 (p0a 3) p0_2a p0_2k o_2 p0_2l)] : List va_W)) ++ (List.flatten ([(oX7 (p0a 0) p0a p0k (o_1.1) p0l), (oX10 (p0a 2) p0_1a p0_1k (o_1.2.1) (o_1.2.2))] : List va_W))) H := vP_fa (vP_perm hP (bP ((((List.Perm.refl _)).cons _).trans (List.Perm.swap _ _ _))))
  have hDx : va_D A ((List.flatten ([(oX6 (p0a 3) p0_2a p0_2k o_2 p0_2l)] : List va_W)) ++ (List.flatten ([(oX7 (p0a 0) p0a p0k (o_1.1) p0l), (oX10 (p0a 2) p0_1a p0_1k (o_1.2.1) (o_1.2.2))] : List va_W))) := vD_fa (vD_perm hD (bP ((((List.Perm.refl _)).cons _).trans (List.Perm.swap _ _ _))))
  have hKx : va_K (dC, dI) cls ((List.flatten ([(tX6 p0_2k)] : List (List (ClassId × FieldType)))) ++ (List.flatten ([(tX7 p0k), (tX10 p0_1k)] : List (List (ClassId × FieldType))))) s := vK_fa (vK_perm hK (bP ((((List.Perm.refl _)).cons _).trans (List.Perm.swap _ _ _))))
  have hPc := vP_l hPx
  have hDc := vD_l hDx
  have hKc := vK_l hKx
  have hFc := vfree hDx hS hA
  refine va_calli (va_runV (As := []) (rest := []) ⟨hx, hb, hml, hown, hts⟩ (kX6_newLabel l dC dI (p0a := (st0 (p0a 3) p0_2a)) (p0k := p0_2k) (p0w := o_2) (p0l := p0_2l) (sz := _) (o := o_3) (hrun := hc_3)) (cwV 0 hts (gi_V qw73 qw74 qw75 qw33 (gi_z qw72)) rfl rfl rfl (by decide +kernel) ⟨rmF (Nat.le_of_ble_eq_true rfl), rmL (Nat.le_of_ble_eq_true rfl)⟩) ⟨PRE.blind, va_recv hKc hPc (ci := 2) (q0 := 0) rfl rfl, PRE.of hE hS hFc hPc hKc hDc⟩ rfl rfl hl.1 rfl (lv_room (Nat.le_of_ble_eq_true rfl)) dX7_readWhile_21 ⟨(Nat.le_of_ble_eq_true rfl), (Nat.le_of_ble_eq_true rfl)⟩) hS (fun q _ h => hFc q h) hFc (fun r4 u t H locs ht hvm hw hB hz1 hk1 hS => ?_)
  obtain ⟨b1, b2, b3⟩ := hB
  rw [ht] at b1
  obtain ⟨hP, hD, hK⟩ := JOINC (wc := (List.flatten ([(oX6 (p0a 3) p0_2a p0_2k o_2 p0_2l)] : List va_W))) (wr := (List.flatten ([(oX7 (p0a 0) p0a p0k (o_1.1) p0l), (oX10 (p0a 2) p0_1a p0_1k (o_1.2.1) (o_1.2.2))] : List va_W))) (w1 := (List.flatten ([(oX6 (p0a 3) p0_2a p0_2k (o_3.2) p0_2l)] : List va_W))) (t1 := (List.flatten ([(tX6 p0_2k)] : List (List (ClassId × FieldType))))) hPx hDx hKx hk1 hFc b1 (va_K.moved hvm.symm b2) b3
  have hP : va_P (dC, dI) cls (List.flatten ([(oX7 (p0a 0) p0a p0k (o_1.1) p0l), (oX6 (p0a 3) p0_2a p0_2k (o_3.2) p0_2l), (oX10 (p0a 2) p0_1a p0_1k (o_1.2.1) (o_1.2.2))] : List va_W)) H := vP_perm (vP_fb hP) (bP ((((List.Perm.refl _)).cons _).trans (List.Perm.swap _ _ _)))
  have hD : va_D A (List.flatten ([(oX7 (p0a 0) p0a p0k (o_1.1) p0l), (oX6 (p0a 3) p0_2a p0_2k (o_3.2) p0_2l), (oX10 (p0a 2) p0_1a p0_1k (o_1.2.1) (o_1.2.2))] : List va_W)) := vD_perm (vD_fb hD) (bP ((((List.Perm.refl _)).cons _).trans (List.Perm.swap _ _ _)))
  have hK : va_K (dC, dI) cls (List.flatten ([(tX7 p0k), (tX6 p0_2k), (tX10 p0_1k)] : List (List (ClassId × FieldType)))) s := vK_perm (vK_fb hK) (bP ((((List.Perm.refl _)).cons _).trans (List.Perm.swap _ _ _)))
  obtain rfl : r4 = (o_3.1) := hw
  refine lv_istore_n (lv' := [(1, .int (o_3.1)), (0, .ref (p0a 0))]) hx hb dX7_readWhile_24 rfl hl (by decide) rfl (fun ls hl => ?_)
  refine lv_aload_n hx hb dX7_readWhile_25 rfl (lv_at hl 1 rfl) ?_
  refine va_get (D := (dC, dI)) (ci := 1) (v := .ref (p0a 3)) (C := RX7) (T := TX7) (N := 18) hx hb hts i_X7 hown hK hP 0 rfl rfl 2 (by decide) (hts _ qw26) (fun _ h9 => h9) rfl dX7_readWhile_26 ?_
  obtain ⟨o_5, hc_5, hrun⟩ := bnd9 hrun
  have hPx : va_P (dC, dI) cls ((List.flatten ([(oX6 (p0a 3) p0_2a p0_2k (o_3.2) p0_2l)] : List va_W)) ++ (List.flatten ([(oX7 (p0a 0) p0a p0k (o_1.1) p0l), (oX10 (p0a 2) p0_1a p0_1k (o_1.2.1) (o_1.2.2))] : List va_W))) H := vP_fa (vP_perm hP (bP ((((List.Perm.refl _)).cons _).trans (List.Perm.swap _ _ _))))
  have hDx : va_D A ((List.flatten ([(oX6 (p0a 3) p0_2a p0_2k (o_3.2) p0_2l)] : List va_W)) ++ (List.flatten ([(oX7 (p0a 0) p0a p0k (o_1.1) p0l), (oX10 (p0a 2) p0_1a p0_1k (o_1.2.1) (o_1.2.2))] : List va_W))) := vD_fa (vD_perm hD (bP ((((List.Perm.refl _)).cons _).trans (List.Perm.swap _ _ _))))
  have hKx : va_K (dC, dI) cls ((List.flatten ([(tX6 p0_2k)] : List (List (ClassId × FieldType)))) ++ (List.flatten ([(tX7 p0k), (tX10 p0_1k)] : List (List (ClassId × FieldType))))) s := vK_fa (vK_perm hK (bP ((((List.Perm.refl _)).cons _).trans (List.Perm.swap _ _ _))))
  have hPc := vP_l hPx
  have hDc := vD_l hDx
  have hKc := vK_l hKx
  have hFc := vfree hDx hS hA
  refine va_calli (va_runV (As := []) (rest := []) ⟨hx, hb, hml, hown, hts⟩ (kX6_newLabel l dC dI (p0a := (st0 (p0a 3) p0_2a)) (p0k := p0_2k) (p0w := (o_3.2)) (p0l := p0_2l) (sz := _) (o := o_5) (hrun := hc_5)) (cwV 0 hts (gi_V qw73 qw74 qw75 qw33 (gi_z qw72)) rfl rfl rfl (by decide +kernel) ⟨rmF (Nat.le_of_ble_eq_true rfl), rmL (Nat.le_of_ble_eq_true rfl)⟩) ⟨PRE.blind, va_recv hKc hPc (ci := 2) (q0 := 0) rfl rfl, PRE.of hE hS hFc hPc hKc hDc⟩ rfl rfl hl.1 rfl (lv_room (Nat.le_of_ble_eq_true rfl)) dX7_readWhile_29 ⟨(Nat.le_of_ble_eq_true rfl), (Nat.le_of_ble_eq_true rfl)⟩) hS (fun q _ h => hFc q h) hFc (fun r6 u t H locs ht hvm hw hB hz1 hk1 hS => ?_)
  obtain ⟨b1, b2, b3⟩ := hB
  rw [ht] at b1
  obtain ⟨hP, hD, hK⟩ := JOINC (wc := (List.flatten ([(oX6 (p0a 3) p0_2a p0_2k (o_3.2) p0_2l)] : List va_W))) (wr := (List.flatten ([(oX7 (p0a 0) p0a p0k (o_1.1) p0l), (oX10 (p0a 2) p0_1a p0_1k (o_1.2.1) (o_1.2.2))] : List va_W))) (w1 := (List.flatten ([(oX6 (p0a 3) p0_2a p0_2k (o_5.2) p0_2l)] : List va_W))) (t1 := (List.flatten ([(tX6 p0_2k)] : List (List (ClassId × FieldType))))) hPx hDx hKx hk1 hFc b1 (va_K.moved hvm.symm b2) b3
  have hP : va_P (dC, dI) cls (List.flatten ([(oX7 (p0a 0) p0a p0k (o_1.1) p0l), (oX6 (p0a 3) p0_2a p0_2k (o_5.2) p0_2l), (oX10 (p0a 2) p0_1a p0_1k (o_1.2.1) (o_1.2.2))] : List va_W)) H := vP_perm (vP_fb hP) (bP ((((List.Perm.refl _)).cons _).trans (List.Perm.swap _ _ _)))
  have hD : va_D A (List.flatten ([(oX7 (p0a 0) p0a p0k (o_1.1) p0l), (oX6 (p0a 3) p0_2a p0_2k (o_5.2) p0_2l), (oX10 (p0a 2) p0_1a p0_1k (o_1.2.1) (o_1.2.2))] : List va_W)) := vD_perm (vD_fb hD) (bP ((((List.Perm.refl _)).cons _).trans (List.Perm.swap _ _ _)))
  have hK : va_K (dC, dI) cls (List.flatten ([(tX7 p0k), (tX6 p0_2k), (tX10 p0_1k)] : List (List (ClassId × FieldType)))) s := vK_perm (vK_fb hK) (bP ((((List.Perm.refl _)).cons _).trans (List.Perm.swap _ _ _)))
  obtain rfl : r6 = (o_5.1) := hw
  refine lv_istore_n (lv' := [(2, .int (o_5.1)), (1, .int (o_3.1)), (0, .ref (p0a 0))]) hx hb dX7_readWhile_32 rfl hl (by decide) rfl (fun ls hl => ?_)
  refine lv_aload_n hx hb dX7_readWhile_33 rfl (lv_at hl 2 rfl) ?_
  refine va_get (D := (dC, dI)) (ci := 1) (v := .ref (p0a 3)) (C := RX7) (T := TX7) (N := 18) hx hb hts i_X7 hown hK hP 0 rfl rfl 2 (by decide) (hts _ qw26) (fun _ h9 => h9) rfl dX7_readWhile_34 ?_
  refine lv_iload_n hx hb dX7_readWhile_37 rfl (lv_at hl 1 rfl) ?_
  obtain ⟨o_7, hc_7, hrun⟩ := bnd9 hrun
  have hPx : va_P (dC, dI) cls ((List.flatten ([(oX6 (p0a 3) p0_2a p0_2k (o_5.2) p0_2l)] : List va_W)) ++ (List.flatten ([(oX7 (p0a 0) p0a p0k (o_1.1) p0l), (oX10 (p0a 2) p0_1a p0_1k (o_1.2.1) (o_1.2.2))] : List va_W))) H := vP_fa (vP_perm hP (bP ((((List.Perm.refl _)).cons _).trans (List.Perm.swap _ _ _))))
  have hDx : va_D A ((List.flatten ([(oX6 (p0a 3) p0_2a p0_2k (o_5.2) p0_2l)] : List va_W)) ++ (List.flatten ([(oX7 (p0a 0) p0a p0k (o_1.1) p0l), (oX10 (p0a 2) p0_1a p0_1k (o_1.2.1) (o_1.2.2))] : List va_W))) := vD_fa (vD_perm hD (bP ((((List.Perm.refl _)).cons _).trans (List.Perm.swap _ _ _))))
  have hKx : va_K (dC, dI) cls ((List.flatten ([(tX6 p0_2k)] : List (List (ClassId × FieldType)))) ++ (List.flatten ([(tX7 p0k), (tX10 p0_1k)] : List (List (ClassId × FieldType))))) s := vK_fa (vK_perm hK (bP ((((List.Perm.refl _)).cons _).trans (List.Perm.swap _ _ _))))
  have hPc := vP_l hPx
  have hDc := vD_l hDx
  have hKc := vK_l hKx
  have hFc := vfree hDx hS hA
  refine va_callv (va_runV (As := [.int (o_3.1)]) (rest := []) ⟨hx, hb, hml, hown, hts⟩ (kX6_putLabel l dC dI (p0a := (st0 (p0a 3) p0_2a)) (p0k := p0_2k) (p0w := (o_5.2)) (p0l := p0_2l) (p1 := (o_3.1)) (sz := _) (o := o_7) (hrun := hc_7)) (cwV 1 hts (gi_V qw1434 qw1435 qw1436 qw33 (gi_z qw1433)) rfl rfl rfl (by decide +kernel) ⟨rmF (Nat.le_of_ble_eq_true rfl), rmL (Nat.le_of_ble_eq_true rfl)⟩) ⟨PRE.blind, va_recv hKc hPc (ci := 2) (q0 := 0) rfl rfl, PRE.of hE hS hFc hPc hKc hDc⟩ rfl rfl hl.1 rfl (lv_room (Nat.le_of_ble_eq_true rfl)) dX7_readWhile_38 ⟨(Nat.le_of_ble_eq_true rfl), (Nat.le_of_ble_eq_true rfl)⟩) hS (fun q _ h => hFc q h) hFc (fun u t H locs ht hvm hw hB hz1 hk1 hS => ?_)
  obtain ⟨b1, b2, b3⟩ := hB
  rw [ht] at b1
  obtain ⟨hP, hD, hK⟩ := JOINC (wc := (List.flatten ([(oX6 (p0a 3) p0_2a p0_2k (o_5.2) p0_2l)] : List va_W))) (wr := (List.flatten ([(oX7 (p0a 0) p0a p0k (o_1.1) p0l), (oX10 (p0a 2) p0_1a p0_1k (o_1.2.1) (o_1.2.2))] : List va_W))) (w1 := (List.flatten ([(oX6 (p0a 3) p0_2a p0_2k o_7 p0_2l)] : List va_W))) (t1 := (List.flatten ([(tX6 p0_2k)] : List (List (ClassId × FieldType))))) hPx hDx hKx hk1 hFc b1 (va_K.moved hvm.symm b2) b3
  have hP : va_P (dC, dI) cls (List.flatten ([(oX7 (p0a 0) p0a p0k (o_1.1) p0l), (oX6 (p0a 3) p0_2a p0_2k o_7 p0_2l), (oX10 (p0a 2) p0_1a p0_1k (o_1.2.1) (o_1.2.2))] : List va_W)) H := vP_perm (vP_fb hP) (bP ((((List.Perm.refl _)).cons _).trans (List.Perm.swap _ _ _)))
  have hD : va_D A (List.flatten ([(oX7 (p0a 0) p0a p0k (o_1.1) p0l), (oX6 (p0a 3) p0_2a p0_2k o_7 p0_2l), (oX10 (p0a 2) p0_1a p0_1k (o_1.2.1) (o_1.2.2))] : List va_W)) := vD_perm (vD_fb hD) (bP ((((List.Perm.refl _)).cons _).trans (List.Perm.swap _ _ _)))
  have hK : va_K (dC, dI) cls (List.flatten ([(tX7 p0k), (tX6 p0_2k), (tX10 p0_1k)] : List (List (ClassId × FieldType)))) s := vK_perm (vK_fb hK) (bP ((((List.Perm.refl _)).cons _).trans (List.Perm.swap _ _ _)))
  refine lv_aload_n hx hb dX7_readWhile_41 rfl (lv_at hl 2 rfl) ?_
  refine lv_iconst (v := 0) hx hb dX7_readWhile_42 (by decide) ?_
  obtain ⟨o_8, hc_8, hrun⟩ := bnd9 hrun
  have hPx : va_P (dC, dI) cls ((List.flatten ([(oX7 (p0a 0) p0a p0k (o_1.1) p0l), (oX6 (p0a 3) p0_2a p0_2k o_7 p0_2l), (oX10 (p0a 2) p0_1a p0_1k (o_1.2.1) (o_1.2.2))] : List va_W)) ++ (List.flatten ([] : List va_W))) H := vP_fa (vP_perm hP (bP (List.Perm.refl _)))
  have hDx : va_D A ((List.flatten ([(oX7 (p0a 0) p0a p0k (o_1.1) p0l), (oX6 (p0a 3) p0_2a p0_2k o_7 p0_2l), (oX10 (p0a 2) p0_1a p0_1k (o_1.2.1) (o_1.2.2))] : List va_W)) ++ (List.flatten ([] : List va_W))) := vD_fa (vD_perm hD (bP (List.Perm.refl _)))
  have hKx : va_K (dC, dI) cls ((List.flatten ([(tX7 p0k), (tX6 p0_2k), (tX10 p0_1k)] : List (List (ClassId × FieldType)))) ++ (List.flatten ([] : List (List (ClassId × FieldType))))) s := vK_fa (vK_perm hK (bP (List.Perm.refl _)))
  have hPc := vP_l hPx
  have hDc := vD_l hDx
  have hKc := vK_l hKx
  have hFc := vfree hDx hS hA
  refine va_calli (va_runV (As := [.int 0]) (rest := []) ⟨hx, hb, hml, hown, hts⟩ (hkk_readTest dC dI (p0a := p0a) (p0k := p0k) (p0w := (o_1.1)) (p0l := p0l) (p1 := 0) (aK := aK) (aV := aV) (p0_2a := p0_2a) (p0_2k := p0_2k) (p0_2w := o_7) (p0_2l := p0_2l) (p0_1a := p0_1a) (p0_1k := p0_1k) (p0_1w := (o_1.2.1)) (p0_1l := (o_1.2.2)) (sz := _) (o := o_8) (hrun := hc_8)) (cwV 1 hts (gi_V qw1410 qw1411 qw1412 qw65 (gi_z qw1409)) rfl rfl rfl (by decide +kernel) ⟨rmF9, rmL9 (n := 27) (Nat.le_of_ble_eq_true rfl)⟩) ⟨PRE.blind, va_recv hKc hPc (ci := 1) (q0 := 0) rfl rfl, PRE.of (ENV.add hE st9_m hro_st) hS hFc hPc hKc hDc⟩ rfl rfl hl.1 rfl (lv_room (Nat.le_of_ble_eq_true rfl)) dX7_readWhile_43 ⟨(Nat.le_of_ble_eq_true rfl), (Nat.le_of_ble_eq_true rfl)⟩) hS (fun q _ h => hFc q h) hFc (fun r9 u t H locs ht hvm hw hB hz1 hk1 hS => ?_)
  obtain ⟨b1, b2, b3⟩ := hB
  rw [ht] at b1
  obtain ⟨hP, hD, hK⟩ := JOINC (wc := (List.flatten ([(oX7 (p0a 0) p0a p0k (o_1.1) p0l), (oX6 (p0a 3) p0_2a p0_2k o_7 p0_2l), (oX10 (p0a 2) p0_1a p0_1k (o_1.2.1) (o_1.2.2))] : List va_W))) (wr := (List.flatten ([] : List va_W))) (w1 := (List.flatten ([(oX7 (p0a 0) p0a p0k (o_8.2.1) (o_8.2.2.1)), (oX6 (p0a 3) p0_2a p0_2k (o_8.2.2.2.1) p0_2l), (oX10 (p0a 2) p0_1a p0_1k (o_8.2.2.2.2.1) (o_8.2.2.2.2.2))] : List va_W))) (t1 := (List.flatten ([(tX7 p0k), (tX6 p0_2k), (tX10 p0_1k)] : List (List (ClassId × FieldType))))) hPx hDx hKx hk1 hFc b1 (va_K.moved hvm.symm b2) b3
  have hP : va_P (dC, dI) cls (List.flatten ([(oX7 (p0a 0) p0a p0k (o_8.2.1) (o_8.2.2.1)), (oX6 (p0a 3) p0_2a p0_2k (o_8.2.2.2.1) p0_2l), (oX10 (p0a 2) p0_1a p0_1k (o_8.2.2.2.2.1) (o_8.2.2.2.2.2))] : List va_W)) H := vP_perm (vP_fb hP) (bP (List.Perm.refl _))
  have hD : va_D A (List.flatten ([(oX7 (p0a 0) p0a p0k (o_8.2.1) (o_8.2.2.1)), (oX6 (p0a 3) p0_2a p0_2k (o_8.2.2.2.1) p0_2l), (oX10 (p0a 2) p0_1a p0_1k (o_8.2.2.2.2.1) (o_8.2.2.2.2.2))] : List va_W)) := vD_perm (vD_fb hD) (bP (List.Perm.refl _))
  have hK : va_K (dC, dI) cls (List.flatten ([(tX7 p0k), (tX6 p0_2k), (tX10 p0_1k)] : List (List (ClassId × FieldType)))) s := vK_perm (vK_fb hK) (bP (List.Perm.refl _))
  obtain rfl : r9 = (o_8.1) := hw
  refine lv_pop hx hb dX7_readWhile_46 rfl ?_
  refine lv_aload_n hx hb dX7_readWhile_47 rfl (lv_at hl 2 rfl) ?_
  refine va_get (D := (dC, dI)) (ci := 1) (v := .ref (p0a 3)) (C := RX7) (T := TX7) (N := 18) hx hb hts i_X7 hown hK hP 0 rfl rfl 2 (by decide) (hts _ qw26) (fun _ h9 => h9) rfl dX7_readWhile_48 ?_
  refine lv_bipush (v := 33) hx hb dX7_readWhile_51 (by decide) ?_
  refine lv_iload_n hx hb dX7_readWhile_53 rfl (lv_at hl 0 rfl) ?_
  refine lv_iconst (v := 0) hx hb dX7_readWhile_54 (by decide) ?_
  obtain ⟨o_10, hc_10, hrun⟩ := bnd9 hrun
  have hPx : va_P (dC, dI) cls ((List.flatten ([(oX6 (p0a 3) p0_2a p0_2k (o_8.2.2.2.1) p0_2l)] : List va_W)) ++ (List.flatten ([(oX7 (p0a 0) p0a p0k (o_8.2.1) (o_8.2.2.1)), (oX10 (p0a 2) p0_1a p0_1k (o_8.2.2.2.2.1) (o_8.2.2.2.2.2))] : List va_W))) H := vP_fa (vP_perm hP (bP ((((List.Perm.refl _)).cons _).trans (List.Perm.swap _ _ _))))
  have hDx : va_D A ((List.flatten ([(oX6 (p0a 3) p0_2a p0_2k (o_8.2.2.2.1) p0_2l)] : List va_W)) ++ (List.flatten ([(oX7 (p0a 0) p0a p0k (o_8.2.1) (o_8.2.2.1)), (oX10 (p0a 2) p0_1a p0_1k (o_8.2.2.2.2.1) (o_8.2.2.2.2.2))] : List va_W))) := vD_fa (vD_perm hD (bP ((((List.Perm.refl _)).cons _).trans (List.Perm.swap _ _ _))))
  have hKx : va_K (dC, dI) cls ((List.flatten ([(tX6 p0_2k)] : List (List (ClassId × FieldType)))) ++ (List.flatten ([(tX7 p0k), (tX10 p0_1k)] : List (List (ClassId × FieldType))))) s := vK_fa (vK_perm hK (bP ((((List.Perm.refl _)).cons _).trans (List.Perm.swap _ _ _))))
  have hPc := vP_l hPx
  have hDc := vD_l hDx
  have hKc := vK_l hKx
  have hFc := vfree hDx hS hA
  refine va_callv (va_runV (As := [.int 33, .int (o_5.1), .int 0]) (rest := []) ⟨hx, hb, hml, hown, hts⟩ (kX6_emit l dC dI (p0a := (st0 (p0a 3) p0_2a)) (p0k := p0_2k) (p0w := (o_8.2.2.2.1)) (p0l := p0_2l) (p1 := 33) (p2 := (o_5.1)) (p3 := 0) (sz := _) (o := o_10) (hrun := hc_10)) (cwV 3 hts (gi_V qw42 qw43 qw44 qw33 (gi_z qw41)) rfl rfl rfl (by decide +kernel) ⟨rmF (Nat.le_of_ble_eq_true rfl), rmL (Nat.le_of_ble_eq_true rfl)⟩) ⟨PRE.blind, va_recv hKc hPc (ci := 2) (q0 := 0) rfl rfl, PRE.of hE hS hFc hPc hKc hDc⟩ rfl rfl hl.1 rfl (lv_room (Nat.le_of_ble_eq_true rfl)) dX7_readWhile_55 ⟨(Nat.le_of_ble_eq_true rfl), (Nat.le_of_ble_eq_true rfl)⟩) hS (fun q _ h => hFc q h) hFc (fun u t H locs ht hvm hw hB hz1 hk1 hS => ?_)
  obtain ⟨b1, b2, b3⟩ := hB
  rw [ht] at b1
  obtain ⟨hP, hD, hK⟩ := JOINC (wc := (List.flatten ([(oX6 (p0a 3) p0_2a p0_2k (o_8.2.2.2.1) p0_2l)] : List va_W))) (wr := (List.flatten ([(oX7 (p0a 0) p0a p0k (o_8.2.1) (o_8.2.2.1)), (oX10 (p0a 2) p0_1a p0_1k (o_8.2.2.2.2.1) (o_8.2.2.2.2.2))] : List va_W))) (w1 := (List.flatten ([(oX6 (p0a 3) p0_2a p0_2k o_10 p0_2l)] : List va_W))) (t1 := (List.flatten ([(tX6 p0_2k)] : List (List (ClassId × FieldType))))) hPx hDx hKx hk1 hFc b1 (va_K.moved hvm.symm b2) b3
  have hP : va_P (dC, dI) cls (List.flatten ([(oX7 (p0a 0) p0a p0k (o_8.2.1) (o_8.2.2.1)), (oX6 (p0a 3) p0_2a p0_2k o_10 p0_2l), (oX10 (p0a 2) p0_1a p0_1k (o_8.2.2.2.2.1) (o_8.2.2.2.2.2))] : List va_W)) H := vP_perm (vP_fb hP) (bP ((((List.Perm.refl _)).cons _).trans (List.Perm.swap _ _ _)))
  have hD : va_D A (List.flatten ([(oX7 (p0a 0) p0a p0k (o_8.2.1) (o_8.2.2.1)), (oX6 (p0a 3) p0_2a p0_2k o_10 p0_2l), (oX10 (p0a 2) p0_1a p0_1k (o_8.2.2.2.2.1) (o_8.2.2.2.2.2))] : List va_W)) := vD_perm (vD_fb hD) (bP ((((List.Perm.refl _)).cons _).trans (List.Perm.swap _ _ _)))
  have hK : va_K (dC, dI) cls (List.flatten ([(tX7 p0k), (tX6 p0_2k), (tX10 p0_1k)] : List (List (ClassId × FieldType)))) s := vK_perm (vK_fb hK) (bP ((((List.Perm.refl _)).cons _).trans (List.Perm.swap _ _ _)))
  refine lv_aload_n hx hb dX7_readWhile_58 rfl (lv_at hl 2 rfl) ?_
  refine va_get (D := (dC, dI)) (ci := 1) (v := .int ((o_8.2.1) 0 12)) (C := RX7) (T := TX7) (N := 18) hx hb hts i_X7 hown hK hP 0 rfl rfl 12 (by decide) (hts _ qw68) (fun _ h9 => h9) rfl dX7_readWhile_59 ?_
  refine lv_bipush (v := 8) hx hb dX7_readWhile_62 (by decide) ?_
  have J87 : ∀ (p0w_87 : ST) (H : Heap) (locs : List Loc) (ls : Array Slot), (fX7_readWhile_J87 p0_2l o_3 o_5 o_8 o_10 kk_readBlock p0w_87) = some o → va_P (dC, dI) cls (List.flatten ([(oX7 (p0a 0) p0a p0k p0w_87 (o_8.2.2.1)), (oX6 (p0a 3) p0_2a p0_2k o_10 p0_2l), (oX10 (p0a 2) p0_1a p0_1k (o_8.2.2.2.2.1) (o_8.2.2.2.2.2))] : List va_W)) H → va_D A (List.flatten ([(oX7 (p0a 0) p0a p0k p0w_87 (o_8.2.2.1)), (oX6 (p0a 3) p0_2a p0_2k o_10 p0_2l), (oX10 (p0a 2) p0_1a p0_1k (o_8.2.2.2.2.1) (o_8.2.2.2.2.2))] : List va_W)) → va_K (dC, dI) cls (List.flatten ([(tX7 p0k), (tX6 p0_2k), (tX10 p0_1k)] : List (List (ClassId × FieldType)))) s → va_S A s.heap H locs → lv_has ls 3 [(0, .ref (p0a 0)), (1, .int (o_3.1)), (2, .int (o_5.1))] → W p l e ({ frames := F9 + 8, cells := 0, slots := 0, locals := L9 + 400 } : Room) s m ([.ref (p0a 0)] : List Value).toArray below meth c H locs 0 0 Q (F0 m 87 ls []) := by
    intro p0w_87 H locs ls hrun hP hD hK hS hl 
    unfold fX7_readWhile_J87 at hrun
    refine lv_aload_n hx hb dX7_readWhile_87 rfl (lv_at hl 0 rfl) ?_
    refine lv_dup hx hb dX7_readWhile_88 rfl ?_
    refine va_get (D := (dC, dI)) (ci := 1) (v := .int (p0w_87 0 12)) (C := RX7) (T := TX7) (N := 18) hx hb hts i_X7 hown hK hP 0 rfl rfl 12 (by decide) (hts _ qw68) (fun _ h9 => h9) rfl dX7_readWhile_89 ?_
    refine lv_iconst (v := 1) hx hb dX7_readWhile_92 (by decide) ?_
    refine lv_iadd hx hb dX7_readWhile_93 ?_
    refine va_put (D := (dC, dI)) (ci := 1) (v := .int ((p0w_87 0 12) + 1)) (ty := .int) (C := RX7) (T := TX7) (N := 18) hx hb hts i_X7 tyX7 tyX7_ok nmX7 hown hK hP hD hS 0 rfl rfl 12 (by decide) (hts _ qw68) (fun _ h9 => h9) rfl (by decide +kernel) rfl rfl (Nat.le_of_ble_eq_true rfl) dX7_readWhile_94 (fun H locs hP hD hS => ?_)
    have hP : va_P (dC, dI) cls (List.flatten ([(oX7 (p0a 0) p0a p0k (upw p0w_87 0 12 ((p0w_87 0 12) + 1)) (o_8.2.2.1)), (oX6 (p0a 3) p0_2a p0_2k o_10 p0_2l), (oX10 (p0a 2) p0_1a p0_1k (o_8.2.2.2.2.1) (o_8.2.2.2.2.2))] : List va_W)) H := hP
    have hD : va_D A (List.flatten ([(oX7 (p0a 0) p0a p0k (upw p0w_87 0 12 ((p0w_87 0 12) + 1)) (o_8.2.2.1)), (oX6 (p0a 3) p0_2a p0_2k o_10 p0_2l), (oX10 (p0a 2) p0_1a p0_1k (o_8.2.2.2.2.1) (o_8.2.2.2.2.2))] : List va_W)) := hD
    obtain ⟨w11, ew11, hrun⟩ := let9 hrun
    rw [← ew11] at hP hD
    refine lv_aload_n hx hb dX7_readWhile_97 rfl (lv_at hl 0 rfl) ?_
    obtain ⟨o_12, hc_12, hrun⟩ := bnd9 hrun
    have hPx : va_P (dC, dI) cls ((List.flatten ([(oX7 (p0a 0) p0a p0k w11 (o_8.2.2.1)), (oX6 (p0a 3) p0_2a p0_2k o_10 p0_2l), (oX10 (p0a 2) p0_1a p0_1k (o_8.2.2.2.2.1) (o_8.2.2.2.2.2))] : List va_W)) ++ (List.flatten ([] : List va_W))) H := vP_fa (vP_perm hP (bP (List.Perm.refl _)))
    have hDx : va_D A ((List.flatten ([(oX7 (p0a 0) p0a p0k w11 (o_8.2.2.1)), (oX6 (p0a 3) p0_2a p0_2k o_10 p0_2l), (oX10 (p0a 2) p0_1a p0_1k (o_8.2.2.2.2.1) (o_8.2.2.2.2.2))] : List va_W)) ++ (List.flatten ([] : List va_W))) := vD_fa (vD_perm hD (bP (List.Perm.refl _)))
    have hKx : va_K (dC, dI) cls ((List.flatten ([(tX7 p0k), (tX6 p0_2k), (tX10 p0_1k)] : List (List (ClassId × FieldType)))) ++ (List.flatten ([] : List (List (ClassId × FieldType))))) s := vK_fa (vK_perm hK (bP (List.Perm.refl _)))
    have hPc := vP_l hPx
    have hDc := vD_l hDx
    have hKc := vK_l hKx
    have hFc := vfree hDx hS hA
    refine va_callv (va_runV (As := []) (rest := []) ⟨hx, hb, hml, hown, hts⟩ (hkk_readBlock dC dI (p0a := p0a) (p0k := p0k) (p0w := w11) (p0l := (o_8.2.2.1)) (aK := aK) (aV := aV) (p0_2a := p0_2a) (p0_2k := p0_2k) (p0_2w := o_10) (p0_2l := p0_2l) (p0_1a := p0_1a) (p0_1k := p0_1k) (p0_1w := (o_8.2.2.2.2.1)) (p0_1l := (o_8.2.2.2.2.2)) (sz := _) (o := o_12) (hrun := hc_12)) (cwV 0 hts (gi_V qw1430 qw1431 qw1432 qw65 (gi_z qw1429)) rfl rfl rfl (by decide +kernel) ⟨rmF9, rmL9 (n := 22) (Nat.le_of_ble_eq_true rfl)⟩) ⟨PRE.blind, va_recv hKc hPc (ci := 1) (q0 := 0) rfl rfl, PRE.of (ENV.add hE st9_m hro_st) hS hFc hPc hKc hDc⟩ rfl rfl hl.1 rfl (lv_room (Nat.le_of_ble_eq_true rfl)) dX7_readWhile_98 ⟨(Nat.le_of_ble_eq_true rfl), (Nat.le_of_ble_eq_true rfl)⟩) hS (fun q _ h => hFc q h) hFc (fun u t H locs ht hvm hw hB hz1 hk1 hS => ?_)
    obtain ⟨b1, b2, b3⟩ := hB
    rw [ht] at b1
    obtain ⟨hP, hD, hK⟩ := JOINC (wc := (List.flatten ([(oX7 (p0a 0) p0a p0k w11 (o_8.2.2.1)), (oX6 (p0a 3) p0_2a p0_2k o_10 p0_2l), (oX10 (p0a 2) p0_1a p0_1k (o_8.2.2.2.2.1) (o_8.2.2.2.2.2))] : List va_W))) (wr := (List.flatten ([] : List va_W))) (w1 := (List.flatten ([(oX7 (p0a 0) p0a p0k (o_12.1) (o_12.2.1)), (oX6 (p0a 3) p0_2a p0_2k (o_12.2.2.1) p0_2l), (oX10 (p0a 2) p0_1a p0_1k (o_12.2.2.2.1) (o_12.2.2.2.2))] : List va_W))) (t1 := (List.flatten ([(tX7 p0k), (tX6 p0_2k), (tX10 p0_1k)] : List (List (ClassId × FieldType))))) hPx hDx hKx hk1 hFc b1 (va_K.moved hvm.symm b2) b3
    have hP : va_P (dC, dI) cls (List.flatten ([(oX7 (p0a 0) p0a p0k (o_12.1) (o_12.2.1)), (oX6 (p0a 3) p0_2a p0_2k (o_12.2.2.1) p0_2l), (oX10 (p0a 2) p0_1a p0_1k (o_12.2.2.2.1) (o_12.2.2.2.2))] : List va_W)) H := vP_perm (vP_fb hP) (bP (List.Perm.refl _))
    have hD : va_D A (List.flatten ([(oX7 (p0a 0) p0a p0k (o_12.1) (o_12.2.1)), (oX6 (p0a 3) p0_2a p0_2k (o_12.2.2.1) p0_2l), (oX10 (p0a 2) p0_1a p0_1k (o_12.2.2.2.1) (o_12.2.2.2.2))] : List va_W)) := vD_perm (vD_fb hD) (bP (List.Perm.refl _))
    have hK : va_K (dC, dI) cls (List.flatten ([(tX7 p0k), (tX6 p0_2k), (tX10 p0_1k)] : List (List (ClassId × FieldType)))) s := vK_perm (vK_fb hK) (bP (List.Perm.refl _))
    refine lv_aload_n hx hb dX7_readWhile_101 rfl (lv_at hl 0 rfl) ?_
    refine lv_dup hx hb dX7_readWhile_102 rfl ?_
    refine va_get (D := (dC, dI)) (ci := 1) (v := .int ((o_12.1) 0 12)) (C := RX7) (T := TX7) (N := 18) hx hb hts i_X7 hown hK hP 0 rfl rfl 12 (by decide) (hts _ qw68) (fun _ h9 => h9) rfl dX7_readWhile_103 ?_
    refine lv_iconst (v := 1) hx hb dX7_readWhile_106 (by decide) ?_
    refine lv_isub hx hb dX7_readWhile_107 ?_
    refine va_put (D := (dC, dI)) (ci := 1) (v := .int (((o_12.1) 0 12) - 1)) (ty := .int) (C := RX7) (T := TX7) (N := 18) hx hb hts i_X7 tyX7 tyX7_ok nmX7 hown hK hP hD hS 0 rfl rfl 12 (by decide) (hts _ qw68) (fun _ h9 => h9) rfl (by decide +kernel) rfl rfl (Nat.le_of_ble_eq_true rfl) dX7_readWhile_108 (fun H locs hP hD hS => ?_)
    have hP : va_P (dC, dI) cls (List.flatten ([(oX7 (p0a 0) p0a p0k (upw (o_12.1) 0 12 (((o_12.1) 0 12) - 1)) (o_12.2.1)), (oX6 (p0a 3) p0_2a p0_2k (o_12.2.2.1) p0_2l), (oX10 (p0a 2) p0_1a p0_1k (o_12.2.2.2.1) (o_12.2.2.2.2))] : List va_W)) H := hP
    have hD : va_D A (List.flatten ([(oX7 (p0a 0) p0a p0k (upw (o_12.1) 0 12 (((o_12.1) 0 12) - 1)) (o_12.2.1)), (oX6 (p0a 3) p0_2a p0_2k (o_12.2.2.1) p0_2l), (oX10 (p0a 2) p0_1a p0_1k (o_12.2.2.2.1) (o_12.2.2.2.2))] : List va_W)) := hD
    obtain ⟨w13, ew13, hrun⟩ := let9 hrun
    rw [← ew13] at hP hD
    refine lv_aload_n hx hb dX7_readWhile_111 rfl (lv_at hl 0 rfl) ?_
    refine va_get (D := (dC, dI)) (ci := 1) (v := .ref (p0a 3)) (C := RX7) (T := TX7) (N := 18) hx hb hts i_X7 hown hK hP 0 rfl rfl 2 (by decide) (hts _ qw26) (fun _ h9 => h9) rfl dX7_readWhile_112 ?_
    refine lv_bipush (v := 22) hx hb dX7_readWhile_115 (by decide) ?_
    refine lv_iload_n hx hb dX7_readWhile_117 rfl (lv_at hl 1 rfl) ?_
    refine lv_iconst (v := 0) hx hb dX7_readWhile_118 (by decide) ?_
    obtain ⟨o_14, hc_14, hrun⟩ := bnd9 hrun
    have hPx : va_P (dC, dI) cls ((List.flatten ([(oX6 (p0a 3) p0_2a p0_2k (o_12.2.2.1) p0_2l)] : List va_W)) ++ (List.flatten ([(oX7 (p0a 0) p0a p0k w13 (o_12.2.1)), (oX10 (p0a 2) p0_1a p0_1k (o_12.2.2.2.1) (o_12.2.2.2.2))] : List va_W))) H := vP_fa (vP_perm hP (bP ((((List.Perm.refl _)).cons _).trans (List.Perm.swap _ _ _))))
    have hDx : va_D A ((List.flatten ([(oX6 (p0a 3) p0_2a p0_2k (o_12.2.2.1) p0_2l)] : List va_W)) ++ (List.flatten ([(oX7 (p0a 0) p0a p0k w13 (o_12.2.1)), (oX10 (p0a 2) p0_1a p0_1k (o_12.2.2.2.1) (o_12.2.2.2.2))] : List va_W))) := vD_fa (vD_perm hD (bP ((((List.Perm.refl _)).cons _).trans (List.Perm.swap _ _ _))))
    have hKx : va_K (dC, dI) cls ((List.flatten ([(tX6 p0_2k)] : List (List (ClassId × FieldType)))) ++ (List.flatten ([(tX7 p0k), (tX10 p0_1k)] : List (List (ClassId × FieldType))))) s := vK_fa (vK_perm hK (bP ((((List.Perm.refl _)).cons _).trans (List.Perm.swap _ _ _))))
    have hPc := vP_l hPx
    have hDc := vD_l hDx
    have hKc := vK_l hKx
    have hFc := vfree hDx hS hA
    refine va_callv (va_runV (As := [.int 22, .int (o_3.1), .int 0]) (rest := []) ⟨hx, hb, hml, hown, hts⟩ (kX6_emit l dC dI (p0a := (st0 (p0a 3) p0_2a)) (p0k := p0_2k) (p0w := (o_12.2.2.1)) (p0l := p0_2l) (p1 := 22) (p2 := (o_3.1)) (p3 := 0) (sz := _) (o := o_14) (hrun := hc_14)) (cwV 3 hts (gi_V qw42 qw43 qw44 qw33 (gi_z qw41)) rfl rfl rfl (by decide +kernel) ⟨rmF (Nat.le_of_ble_eq_true rfl), rmL (Nat.le_of_ble_eq_true rfl)⟩) ⟨PRE.blind, va_recv hKc hPc (ci := 2) (q0 := 0) rfl rfl, PRE.of hE hS hFc hPc hKc hDc⟩ rfl rfl hl.1 rfl (lv_room (Nat.le_of_ble_eq_true rfl)) dX7_readWhile_119 ⟨(Nat.le_of_ble_eq_true rfl), (Nat.le_of_ble_eq_true rfl)⟩) hS (fun q _ h => hFc q h) hFc (fun u t H locs ht hvm hw hB hz1 hk1 hS => ?_)
    obtain ⟨b1, b2, b3⟩ := hB
    rw [ht] at b1
    obtain ⟨hP, hD, hK⟩ := JOINC (wc := (List.flatten ([(oX6 (p0a 3) p0_2a p0_2k (o_12.2.2.1) p0_2l)] : List va_W))) (wr := (List.flatten ([(oX7 (p0a 0) p0a p0k w13 (o_12.2.1)), (oX10 (p0a 2) p0_1a p0_1k (o_12.2.2.2.1) (o_12.2.2.2.2))] : List va_W))) (w1 := (List.flatten ([(oX6 (p0a 3) p0_2a p0_2k o_14 p0_2l)] : List va_W))) (t1 := (List.flatten ([(tX6 p0_2k)] : List (List (ClassId × FieldType))))) hPx hDx hKx hk1 hFc b1 (va_K.moved hvm.symm b2) b3
    have hP : va_P (dC, dI) cls (List.flatten ([(oX7 (p0a 0) p0a p0k w13 (o_12.2.1)), (oX6 (p0a 3) p0_2a p0_2k o_14 p0_2l), (oX10 (p0a 2) p0_1a p0_1k (o_12.2.2.2.1) (o_12.2.2.2.2))] : List va_W)) H := vP_perm (vP_fb hP) (bP ((((List.Perm.refl _)).cons _).trans (List.Perm.swap _ _ _)))
    have hD : va_D A (List.flatten ([(oX7 (p0a 0) p0a p0k w13 (o_12.2.1)), (oX6 (p0a 3) p0_2a p0_2k o_14 p0_2l), (oX10 (p0a 2) p0_1a p0_1k (o_12.2.2.2.1) (o_12.2.2.2.2))] : List va_W)) := vD_perm (vD_fb hD) (bP ((((List.Perm.refl _)).cons _).trans (List.Perm.swap _ _ _)))
    have hK : va_K (dC, dI) cls (List.flatten ([(tX7 p0k), (tX6 p0_2k), (tX10 p0_1k)] : List (List (ClassId × FieldType)))) s := vK_perm (vK_fb hK) (bP ((((List.Perm.refl _)).cons _).trans (List.Perm.swap _ _ _)))
    refine lv_aload_n hx hb dX7_readWhile_122 rfl (lv_at hl 0 rfl) ?_
    refine va_get (D := (dC, dI)) (ci := 1) (v := .ref (p0a 3)) (C := RX7) (T := TX7) (N := 18) hx hb hts i_X7 hown hK hP 0 rfl rfl 2 (by decide) (hts _ qw26) (fun _ h9 => h9) rfl dX7_readWhile_123 ?_
    refine lv_iload_n hx hb dX7_readWhile_126 rfl (lv_at hl 2 rfl) ?_
    obtain ⟨o_15, hc_15, hrun⟩ := bnd9 hrun
    have hPx : va_P (dC, dI) cls ((List.flatten ([(oX6 (p0a 3) p0_2a p0_2k o_14 p0_2l)] : List va_W)) ++ (List.flatten ([(oX7 (p0a 0) p0a p0k w13 (o_12.2.1)), (oX10 (p0a 2) p0_1a p0_1k (o_12.2.2.2.1) (o_12.2.2.2.2))] : List va_W))) H := vP_fa (vP_perm hP (bP ((((List.Perm.refl _)).cons _).trans (List.Perm.swap _ _ _))))
    have hDx : va_D A ((List.flatten ([(oX6 (p0a 3) p0_2a p0_2k o_14 p0_2l)] : List va_W)) ++ (List.flatten ([(oX7 (p0a 0) p0a p0k w13 (o_12.2.1)), (oX10 (p0a 2) p0_1a p0_1k (o_12.2.2.2.1) (o_12.2.2.2.2))] : List va_W))) := vD_fa (vD_perm hD (bP ((((List.Perm.refl _)).cons _).trans (List.Perm.swap _ _ _))))
    have hKx : va_K (dC, dI) cls ((List.flatten ([(tX6 p0_2k)] : List (List (ClassId × FieldType)))) ++ (List.flatten ([(tX7 p0k), (tX10 p0_1k)] : List (List (ClassId × FieldType))))) s := vK_fa (vK_perm hK (bP ((((List.Perm.refl _)).cons _).trans (List.Perm.swap _ _ _))))
    have hPc := vP_l hPx
    have hDc := vD_l hDx
    have hKc := vK_l hKx
    have hFc := vfree hDx hS hA
    refine va_callv (va_runV (As := [.int (o_5.1)]) (rest := []) ⟨hx, hb, hml, hown, hts⟩ (kX6_putLabel l dC dI (p0a := (st0 (p0a 3) p0_2a)) (p0k := p0_2k) (p0w := o_14) (p0l := p0_2l) (p1 := (o_5.1)) (sz := _) (o := o_15) (hrun := hc_15)) (cwV 1 hts (gi_V qw1434 qw1435 qw1436 qw33 (gi_z qw1433)) rfl rfl rfl (by decide +kernel) ⟨rmF (Nat.le_of_ble_eq_true rfl), rmL (Nat.le_of_ble_eq_true rfl)⟩) ⟨PRE.blind, va_recv hKc hPc (ci := 2) (q0 := 0) rfl rfl, PRE.of hE hS hFc hPc hKc hDc⟩ rfl rfl hl.1 rfl (lv_room (Nat.le_of_ble_eq_true rfl)) dX7_readWhile_127 ⟨(Nat.le_of_ble_eq_true rfl), (Nat.le_of_ble_eq_true rfl)⟩) hS (fun q _ h => hFc q h) hFc (fun u t H locs ht hvm hw hB hz1 hk1 hS => ?_)
    obtain ⟨b1, b2, b3⟩ := hB
    rw [ht] at b1
    obtain ⟨hP, hD, hK⟩ := JOINC (wc := (List.flatten ([(oX6 (p0a 3) p0_2a p0_2k o_14 p0_2l)] : List va_W))) (wr := (List.flatten ([(oX7 (p0a 0) p0a p0k w13 (o_12.2.1)), (oX10 (p0a 2) p0_1a p0_1k (o_12.2.2.2.1) (o_12.2.2.2.2))] : List va_W))) (w1 := (List.flatten ([(oX6 (p0a 3) p0_2a p0_2k o_15 p0_2l)] : List va_W))) (t1 := (List.flatten ([(tX6 p0_2k)] : List (List (ClassId × FieldType))))) hPx hDx hKx hk1 hFc b1 (va_K.moved hvm.symm b2) b3
    have hP : va_P (dC, dI) cls (List.flatten ([(oX7 (p0a 0) p0a p0k w13 (o_12.2.1)), (oX6 (p0a 3) p0_2a p0_2k o_15 p0_2l), (oX10 (p0a 2) p0_1a p0_1k (o_12.2.2.2.1) (o_12.2.2.2.2))] : List va_W)) H := vP_perm (vP_fb hP) (bP ((((List.Perm.refl _)).cons _).trans (List.Perm.swap _ _ _)))
    have hD : va_D A (List.flatten ([(oX7 (p0a 0) p0a p0k w13 (o_12.2.1)), (oX6 (p0a 3) p0_2a p0_2k o_15 p0_2l), (oX10 (p0a 2) p0_1a p0_1k (o_12.2.2.2.1) (o_12.2.2.2.2))] : List va_W)) := vD_perm (vD_fb hD) (bP ((((List.Perm.refl _)).cons _).trans (List.Perm.swap _ _ _)))
    have hK : va_K (dC, dI) cls (List.flatten ([(tX7 p0k), (tX6 p0_2k), (tX10 p0_1k)] : List (List (ClassId × FieldType)))) s := vK_perm (vK_fb hK) (bP ((((List.Perm.refl _)).cons _).trans (List.Perm.swap _ _ _)))
    have ho9 : (w13, (o_12.2.1), o_15, (o_12.2.2.2.1), (o_12.2.2.2.2)) = o := Option.some.inj hrun
    have hP9 : va_P (dC, dI) cls (List.flatten ([(oX7 (p0a 0) p0a p0k (o.1) (o.2.1)), (oX6 (p0a 3) p0_2a p0_2k (o.2.2.1) p0_2l), (oX10 (p0a 2) p0_1a p0_1k (o.2.2.2.1) (o.2.2.2.2))] : List va_W)) H := by first | exact hP | (rw [← ho9]; exact hP)
    have hD9 : va_D A (List.flatten ([(oX7 (p0a 0) p0a p0k (o.1) (o.2.1)), (oX6 (p0a 3) p0_2a p0_2k (o.2.2.1) p0_2l), (oX10 (p0a 2) p0_1a p0_1k (o.2.2.2.1) (o.2.2.2.2))] : List va_W)) := by first | exact hD | (rw [← ho9]; exact hD)
    subst hQ
    exact W.vret hx hb hr (fun t ht hW => ⟨⟨(), rfl, trivial, ⟨by rw [ht]; exact hP9, va_K.moved hW.alike hK, hD9⟩⟩, hS.F ht⟩) hS.2.2 dX7_readWhile_130
  rcases br9 hrun with ⟨hc16, hrun⟩ | ⟨hc16, hrun⟩
  · refine lv_icmp_ge (tgt := 87) hx hb dX7_readWhile_64 (by decide) (fun _ => ?_) (fun c => absurd hc16 c)
    exact J87 (o_8.2.1) _ _ _ hrun hP hD hK hS (lv_sub hl [2, 1, 0] rfl)
  · refine lv_icmp_ge (tgt := 87) hx hb dX7_readWhile_64 (by decide) (fun c => absurd c hc16) (fun _ => ?_)
    refine lv_aload_n hx hb dX7_readWhile_67 rfl (lv_at hl 2 rfl) ?_
    refine va_get (D := (dC, dI)) (ci := 1) (v := .ref (p0a 11)) (C := RX7) (T := TX7) (N := 18) hx hb hts i_X7 hown hK hP 0 rfl rfl 10 (by decide) (hts _ qw1288) (fun _ h9 => h9) rfl dX7_readWhile_68 ?_
    refine lv_aload_n hx hb dX7_readWhile_71 rfl (lv_at hl 2 rfl) ?_
    refine va_get (D := (dC, dI)) (ci := 1) (v := .int ((o_8.2.1) 0 12)) (C := RX7) (T := TX7) (N := 18) hx hb hts i_X7 hown hK hP 0 rfl rfl 12 (by decide) (hts _ qw68) (fun _ h9 => h9) rfl dX7_readWhile_72 ?_
    refine lv_iload_n hx hb dX7_readWhile_75 rfl (lv_at hl 1 rfl) ?_
    obtain ⟨hq17, hrun⟩ := chk9 hrun
    refine va_iast hx hb hK hP hD hS 3 2 rfl rfl (ixb_in hq17) dX7_readWhile_76 (fun H locs hP hD hS => ?_)
    have hP : va_P (dC, dI) cls (List.flatten ([(oX7 (p0a 0) p0a p0k (upw (o_8.2.1) 11 (nn ((o_8.2.1) 0 12)) (o_3.1)) (o_8.2.2.1)), (oX6 (p0a 3) p0_2a p0_2k o_10 p0_2l), (oX10 (p0a 2) p0_1a p0_1k (o_8.2.2.2.2.1) (o_8.2.2.2.2.2))] : List va_W)) H := hP
    have hD : va_D A (List.flatten ([(oX7 (p0a 0) p0a p0k (upw (o_8.2.1) 11 (nn ((o_8.2.1) 0 12)) (o_3.1)) (o_8.2.2.1)), (oX6 (p0a 3) p0_2a p0_2k o_10 p0_2l), (oX10 (p0a 2) p0_1a p0_1k (o_8.2.2.2.2.1) (o_8.2.2.2.2.2))] : List va_W)) := hD
    obtain ⟨w18, ew18, hrun⟩ := let9 hrun
    rw [← ew18] at hP hD
    refine lv_aload_n hx hb dX7_readWhile_77 rfl (lv_at hl 2 rfl) ?_
    refine va_get (D := (dC, dI)) (ci := 1) (v := .ref (p0a 12)) (C := RX7) (T := TX7) (N := 18) hx hb hts i_X7 hown hK hP 0 rfl rfl 11 (by decide) (hts _ qw1289) (fun _ h9 => h9) rfl dX7_readWhile_78 ?_
    refine lv_aload_n hx hb dX7_readWhile_81 rfl (lv_at hl 2 rfl) ?_
    refine va_get (D := (dC, dI)) (ci := 1) (v := .int (w18 0 12)) (C := RX7) (T := TX7) (N := 18) hx hb hts i_X7 hown hK hP 0 rfl rfl 12 (by decide) (hts _ qw68) (fun _ h9 => h9) rfl dX7_readWhile_82 ?_
    refine lv_iload_n hx hb dX7_readWhile_85 rfl (lv_at hl 0 rfl) ?_
    obtain ⟨hq19, hrun⟩ := chk9 hrun
    refine va_iast hx hb hK hP hD hS 4 3 rfl rfl (ixb_in hq19) dX7_readWhile_86 (fun H locs hP hD hS => ?_)
    have hP : va_P (dC, dI) cls (List.flatten ([(oX7 (p0a 0) p0a p0k (upw w18 12 (nn (w18 0 12)) (o_5.1)) (o_8.2.2.1)), (oX6 (p0a 3) p0_2a p0_2k o_10 p0_2l), (oX10 (p0a 2) p0_1a p0_1k (o_8.2.2.2.2.1) (o_8.2.2.2.2.2))] : List va_W)) H := hP
    have hD : va_D A (List.flatten ([(oX7 (p0a 0) p0a p0k (upw w18 12 (nn (w18 0 12)) (o_5.1)) (o_8.2.2.1)), (oX6 (p0a 3) p0_2a p0_2k o_10 p0_2l), (oX10 (p0a 2) p0_1a p0_1k (o_8.2.2.2.2.1) (o_8.2.2.2.2.2))] : List va_W)) := hD
    obtain ⟨w20, ew20, hrun⟩ := let9 hrun
    rw [← ew20] at hP hD
    exact J87 w20 _ _ _ hrun hP hD hK hS (lv_sub hl [2, 1, 0] rfl)
set_option maxHeartbeats 16000000 in
set_option maxRecDepth 100000 in
theorem kX7_readTest {zs : ZS} (l : Launch) (kk_readOperand : ST → SL → Int32 → ST → SL → ST → SL → Option (Int32 × ST × SL × ST × ST × SL)) (kk_readShortCut : ST → SL → Int32 → ST → SL → ST → SL → Option (Int32 × ST × SL × ST × ST × SL)) (F9 L9 : Nat) (hkk_readOperand : ∀ {zs : ZS} (dC : Nat → ClassId) (dI : Nat → Nat → Nat) (p0a : Nat → Nat) (p0k : Nat → ClassId) (p0w : ST) (p0l : SL) (p1 : Int32) (aK : Nat → Nat) (aV : Nat → Nat) (p0_2a : Nat → Nat) (p0_2k : Nat → ClassId) (p0_2w : ST) (p0_2l : SL) (p0_1a : Nat → Nat) (p0_1k : Nat → ClassId) (p0_1w : ST) (p0_1l : SL) (sz : Nat) (o : Int32 × ST × SL × ST × ST × SL) (hrun : kk_readOperand p0w p0l p1 p0_2w p0_2l p0_1w p0_1l = some o), Met l yX7_readOperand (wz yX7_readOperand cX7_readOperand 2 (Option.some Jvm.ClassFile.FieldType.int)) ({ frames := F9, cells := 0, slots := 0, locals := L9 } : Room) (va_Pc [.ref (p0a 0), .int p1] (PRE (zA zs (st9 aK aV)) dC dI (List.flatten ([(oX7 (p0a 0) p0a p0k p0w p0l), (oX6 (p0a 3) p0_2a p0_2k p0_2w p0_2l), (oX10 (p0a 2) p0_1a p0_1k p0_1w p0_1l)] : List va_W)) (List.flatten ([(tX7 p0k), (tX6 p0_2k), (tX10 p0_1k)] : List (List (ClassId × FieldType)))) sz)) (va_Qi (fun (r : Int32) (_ : Unit) => r = (o.1)) (fun _ t => POST dC dI (List.flatten ([(oX7 (p0a 0) p0a p0k (o.2.1) (o.2.2.1)), (oX6 (p0a 3) p0_2a p0_2k (o.2.2.2.1) p0_2l), (oX10 (p0a 2) p0_1a p0_1k (o.2.2.2.2.1) (o.2.2.2.2.2))] : List va_W)) (List.flatten ([(tX7 p0k), (tX6 p0_2k), (tX10 p0_1k)] : List (List (ClassId × FieldType)))) (va_A (List.flatten ([(oX7 (p0a 0) p0a p0k p0w p0l), (oX6 (p0a 3) p0_2a p0_2k p0_2w p0_2l), (oX10 (p0a 2) p0_1a p0_1k p0_1w p0_1l)] : List va_W)) sz) t) (va_A (List.flatten ([(oX7 (p0a 0) p0a p0k p0w p0l), (oX6 (p0a 3) p0_2a p0_2k p0_2w p0_2l), (oX10 (p0a 2) p0_1a p0_1k p0_1w p0_1l)] : List va_W)) sz)) 0 0 (va_A (List.flatten ([(oX7 (p0a 0) p0a p0k p0w p0l), (oX6 (p0a 3) p0_2a p0_2k p0_2w p0_2l), (oX10 (p0a 2) p0_1a p0_1k p0_1w p0_1l)] : List va_W)) sz)) (hkk_readShortCut : ∀ {zs : ZS} (dC : Nat → ClassId) (dI : Nat → Nat → Nat) (p0a : Nat → Nat) (p0k : Nat → ClassId) (p0w : ST) (p0l : SL) (p1 : Int32) (aK : Nat → Nat) (aV : Nat → Nat) (p0_2a : Nat → Nat) (p0_2k : Nat → ClassId) (p0_2w : ST) (p0_2l : SL) (p0_1a : Nat → Nat) (p0_1k : Nat → ClassId) (p0_1w : ST) (p0_1l : SL) (sz : Nat) (o : Int32 × ST × SL × ST × ST × SL) (hrun : kk_readShortCut p0w p0l p1 p0_2w p0_2l p0_1w p0_1l = some o), Met l yX7_readShortCut (wz yX7_readShortCut cX7_readShortCut 5 (Option.some Jvm.ClassFile.FieldType.int)) ({ frames := F9, cells := 0, slots := 0, locals := L9 } : Room) (va_Pc [.ref (p0a 0), .int p1] (PRE (zA zs (st9 aK aV)) dC dI (List.flatten ([(oX7 (p0a 0) p0a p0k p0w p0l), (oX6 (p0a 3) p0_2a p0_2k p0_2w p0_2l), (oX10 (p0a 2) p0_1a p0_1k p0_1w p0_1l)] : List va_W)) (List.flatten ([(tX7 p0k), (tX6 p0_2k), (tX10 p0_1k)] : List (List (ClassId × FieldType)))) sz)) (va_Qi (fun (r : Int32) (_ : Unit) => r = (o.1)) (fun _ t => POST dC dI (List.flatten ([(oX7 (p0a 0) p0a p0k (o.2.1) (o.2.2.1)), (oX6 (p0a 3) p0_2a p0_2k (o.2.2.2.1) p0_2l), (oX10 (p0a 2) p0_1a p0_1k (o.2.2.2.2.1) (o.2.2.2.2.2))] : List va_W)) (List.flatten ([(tX7 p0k), (tX6 p0_2k), (tX10 p0_1k)] : List (List (ClassId × FieldType)))) (va_A (List.flatten ([(oX7 (p0a 0) p0a p0k p0w p0l), (oX6 (p0a 3) p0_2a p0_2k p0_2w p0_2l), (oX10 (p0a 2) p0_1a p0_1k p0_1w p0_1l)] : List va_W)) sz) t) (va_A (List.flatten ([(oX7 (p0a 0) p0a p0k p0w p0l), (oX6 (p0a 3) p0_2a p0_2k p0_2w p0_2l), (oX10 (p0a 2) p0_1a p0_1k p0_1w p0_1l)] : List va_W)) sz)) 0 0 (va_A (List.flatten ([(oX7 (p0a 0) p0a p0k p0w p0l), (oX6 (p0a 3) p0_2a p0_2k p0_2w p0_2l), (oX10 (p0a 2) p0_1a p0_1k p0_1w p0_1l)] : List va_W)) sz)) (dC : Nat → ClassId) (dI : Nat → Nat → Nat) (p0a : Nat → Nat) (p0k : Nat → ClassId) (p0w : ST) (p0l : SL) (p1 : Int32) (aK : Nat → Nat) (aV : Nat → Nat) (p0_2a : Nat → Nat) (p0_2k : Nat → ClassId) (p0_2w : ST) (p0_2l : SL) (p0_1a : Nat → Nat) (p0_1k : Nat → ClassId) (p0_1w : ST) (p0_1l : SL) (sz : Nat) (o : Int32 × ST × SL × ST × ST × SL) (hrun : fX7_readTest kk_readOperand kk_readShortCut p0w p0l p1 p0_2w p0_2l p0_1w p0_1l = some o) : Met l yX7_readTest (wz yX7_readTest cX7_readTest 8 (Option.some Jvm.ClassFile.FieldType.int)) ({ frames := F9 + 8, cells := 0, slots := 0, locals := L9 + 400 } : Room) (va_Pc [.ref (p0a 0), .int p1] (PRE (zA zs (st9 aK aV)) dC dI (List.flatten ([(oX7 (p0a 0) p0a p0k p0w p0l), (oX6 (p0a 3) p0_2a p0_2k p0_2w p0_2l), (oX10 (p0a 2) p0_1a p0_1k p0_1w p0_1l)] : List va_W)) (List.flatten ([(tX7 p0k), (tX6 p0_2k), (tX10 p0_1k)] : List (List (ClassId × FieldType)))) sz)) (va_Qi (fun (r : Int32) (_ : Unit) => r = (o.1)) (fun _ t => POST dC dI (List.flatten ([(oX7 (p0a 0) p0a p0k (o.2.1) (o.2.2.1)), (oX6 (p0a 3) p0_2a p0_2k (o.2.2.2.1) p0_2l), (oX10 (p0a 2) p0_1a p0_1k (o.2.2.2.2.1) (o.2.2.2.2.2))] : List va_W)) (List.flatten ([(tX7 p0k), (tX6 p0_2k), (tX10 p0_1k)] : List (List (ClassId × FieldType)))) (va_A (List.flatten ([(oX7 (p0a 0) p0a p0k p0w p0l), (oX6 (p0a 3) p0_2a p0_2k p0_2w p0_2l), (oX10 (p0a 2) p0_1a p0_1k p0_1w p0_1l)] : List va_W)) sz) t) (va_A (List.flatten ([(oX7 (p0a 0) p0a p0k p0w p0l), (oX6 (p0a 3) p0_2a p0_2k p0_2w p0_2l), (oX10 (p0a 2) p0_1a p0_1k p0_1w p0_1l)] : List va_W)) sz)) 0 0 (va_A (List.flatten ([(oX7 (p0a 0) p0a p0k p0w p0l), (oX6 (p0a 3) p0_2a p0_2k p0_2w p0_2l), (oX10 (p0a 2) p0_1a p0_1k p0_1w p0_1l)] : List va_W)) sz) := by
  refine Met.ofW (cc := cX7_readTest) (maxL := 8) (ret := (Option.some Jvm.ClassFile.FieldType.int)) (by decide) rfl ?_
  intro p e s m args below meth c s₁ B hml hv
  obtain ⟨rfl, hsz, hP, hK, hD0, hE⟩ := hv
  have hx := B.exec
  have hb := B.bytes
  have hr := B.returns
  have hts0 := atoms_spec (ws := wz yX7_readTest cX7_readTest 8 (Option.some Jvm.ClassFile.FieldType.int)) B.pre
  have hts : ∀ w ∈ gw, w.before _ s = true := fun w h => hts0 w (List.mem_cons_of_mem _ h)
  have hown : s.vm.findClass RX7 = some m.cls := findClass_of_methodNamed B.named
  have hlocks := B.notSynchronized
  subst hsz
  have hD := hD0.self (sz := s.heap.size)
  refine gQ9 ?_
  intro Q hQ
  generalize hAe : va_A (List.flatten ([(oX7 (p0a 0) p0a p0k p0w p0l), (oX6 (p0a 3) p0_2a p0_2k p0_2w p0_2l), (oX10 (p0a 2) p0_1a p0_1k p0_1w p0_1l)] : List va_W)) s.heap.size = A at hD hE hQ
  have hA : ∀ q : Nat, s.heap.size ≤ q → A q := fun q h => by rw [← hAe]; exact Or.inr h
  have hro := ENV.ex hE
  have hro_st := hro.2
  replace hro := hro.1
  have hS : va_S A s.heap s.heap [] := va_S.rf
  have hP : va_P (dC, dI) cls (List.flatten ([(oX7 (p0a 0) p0a p0k p0w p0l), (oX6 (p0a 3) p0_2a p0_2k p0_2w p0_2l), (oX10 (p0a 2) p0_1a p0_1k p0_1w p0_1l)] : List va_W)) s.heap := hP
  have hl := lv_entry ([.ref (p0a 0), .int p1]) (n := 8) (Nat.le_of_ble_eq_true rfl)
  rw [lg_entry_eq]
  generalize (lg_sl ([.ref (p0a 0), .int p1]) ++ List.replicate (8 - (lg_sl ([.ref (p0a 0), .int p1])).length) Slot.unset).toArray = ls at hl ⊢
  have hl : lv_has ls 8 [(0, .ref (p0a 0)), (1, .int p1)] := hl
  obtain ⟨H, hHe⟩ : ∃ H, H = s.heap := ⟨_, rfl⟩
  obtain ⟨locs, hle⟩ : ∃ locs : List Loc, locs = [] := ⟨_, rfl⟩
  rw [← hHe] at hP
  have hS : va_S A s.heap H locs := by rw [hHe, hle]; exact hS
  show W p l e ({ frames := F9 + 8, cells := 0, slots := 0, locals := L9 + 400 } : Room) s m ([.ref (p0a 0), .int p1] : List Value).toArray below meth c s.heap [] 0 0 Q (F0 m 0 ls [])
  rw [← hle]
  refine wH9 hHe ?_
  unfold fX7_readTest at hrun
  refine lv_aload_n hx hb dX7_readTest_0 rfl (lv_at hl 0 rfl) ?_
  refine va_get (D := (dC, dI)) (ci := 1) (v := .ref (p0a 3)) (C := RX7) (T := TX7) (N := 18) hx hb hts i_X7 hown hK hP 0 rfl rfl 2 (by decide) (hts _ qw26) (fun _ h9 => h9) rfl dX7_readTest_1 ?_
  refine va_get (D := (dC, dI)) (ci := 2) (v := .int (p0_2w 0 7)) (C := RX6) (T := TX6) (N := 13) hx hb hts i_X6 hown hK hP 9 rfl rfl 7 (by decide) (hts _ qw66) (fun _ h9 => h9) rfl dX7_readTest_4 ?_
  refine lv_istore_n (lv' := [(2, .int (p0_2w 0 7)), (0, .ref (p0a 0)), (1, .int p1)]) hx hb dX7_readTest_7 rfl hl (by decide) rfl (fun ls hl => ?_)
  refine lv_aload_n hx hb dX7_readTest_8 rfl (lv_at hl 1 rfl) ?_
  refine lv_iload_n hx hb dX7_readTest_9 rfl (lv_at hl 2 rfl) ?_
  obtain ⟨o_1, hc_1, hrun⟩ := bnd9 hrun
  have hPx : va_P (dC, dI) cls ((List.flatten ([(oX7 (p0a 0) p0a p0k p0w p0l), (oX6 (p0a 3) p0_2a p0_2k p0_2w p0_2l), (oX10 (p0a 2) p0_1a p0_1k p0_1w p0_1l)] : List va_W)) ++ (List.flatten ([] : List va_W))) H := vP_fa (vP_perm hP (bP (List.Perm.refl _)))
  have hDx : va_D A ((List.flatten ([(oX7 (p0a 0) p0a p0k p0w p0l), (oX6 (p0a 3) p0_2a p0_2k p0_2w p0_2l), (oX10 (p0a 2) p0_1a p0_1k p0_1w p0_1l)] : List va_W)) ++ (List.flatten ([] : List va_W))) := vD_fa (vD_perm hD (bP (List.Perm.refl _)))
  have hKx : va_K (dC, dI) cls ((List.flatten ([(tX7 p0k), (tX6 p0_2k), (tX10 p0_1k)] : List (List (ClassId × FieldType)))) ++ (List.flatten ([] : List (List (ClassId × FieldType))))) s := vK_fa (vK_perm hK (bP (List.Perm.refl _)))
  have hPc := vP_l hPx
  have hDc := vD_l hDx
  have hKc := vK_l hKx
  have hFc := vfree hDx hS hA
  refine va_calli (va_runV (As := [.int p1]) (rest := []) ⟨hx, hb, hml, hown, hts⟩ (hkk_readOperand dC dI (p0a := p0a) (p0k := p0k) (p0w := p0w) (p0l := p0l) (p1 := p1) (aK := aK) (aV := aV) (p0_2a := p0_2a) (p0_2k := p0_2k) (p0_2w := p0_2w) (p0_2l := p0_2l) (p0_1a := p0_1a) (p0_1k := p0_1k) (p0_1w := p0_1w) (p0_1l := p0_1l) (sz := _) (o := o_1) (hrun := hc_1)) (cwV 1 hts (gi_V qw1438 qw1439 qw1440 qw65 (gi_z qw1437)) rfl rfl rfl (by decide +kernel) ⟨rmF9, rmL9 (n := 21) (Nat.le_of_ble_eq_true rfl)⟩) ⟨PRE.blind, va_recv hKc hPc (ci := 1) (q0 := 0) rfl rfl, PRE.of (ENV.add hE st9_m hro_st) hS hFc hPc hKc hDc⟩ rfl rfl hl.1 rfl (lv_room (Nat.le_of_ble_eq_true rfl)) dX7_readTest_10 ⟨(Nat.le_of_ble_eq_true rfl), (Nat.le_of_ble_eq_true rfl)⟩) hS (fun q _ h => hFc q h) hFc (fun r2 u t H locs ht hvm hw hB hz1 hk1 hS => ?_)
  obtain ⟨b1, b2, b3⟩ := hB
  rw [ht] at b1
  obtain ⟨hP, hD, hK⟩ := JOINC (wc := (List.flatten ([(oX7 (p0a 0) p0a p0k p0w p0l), (oX6 (p0a 3) p0_2a p0_2k p0_2w p0_2l), (oX10 (p0a 2) p0_1a p0_1k p0_1w p0_1l)] : List va_W))) (wr := (List.flatten ([] : List va_W))) (w1 := (List.flatten ([(oX7 (p0a 0) p0a p0k (o_1.2.1) (o_1.2.2.1)), (oX6 (p0a 3) p0_2a p0_2k (o_1.2.2.2.1) p0_2l), (oX10 (p0a 2) p0_1a p0_1k (o_1.2.2.2.2.1) (o_1.2.2.2.2.2))] : List va_W))) (t1 := (List.flatten ([(tX7 p0k), (tX6 p0_2k), (tX10 p0_1k)] : List (List (ClassId × FieldType))))) hPx hDx hKx hk1 hFc b1 (va_K.moved hvm.symm b2) b3
  have hP : va_P (dC, dI) cls (List.flatten ([(oX7 (p0a 0) p0a p0k (o_1.2.1) (o_1.2.2.1)), (oX6 (p0a 3) p0_2a p0_2k (o_1.2.2.2.1) p0_2l), (oX10 (p0a 2) p0_1a p0_1k (o_1.2.2.2.2.1) (o_1.2.2.2.2.2))] : List va_W)) H := vP_perm (vP_fb hP) (bP (List.Perm.refl _))
  have hD : va_D A (List.flatten ([(oX7 (p0a 0) p0a p0k (o_1.2.1) (o_1.2.2.1)), (oX6 (p0a 3) p0_2a p0_2k (o_1.2.2.2.1) p0_2l), (oX10 (p0a 2) p0_1a p0_1k (o_1.2.2.2.2.1) (o_1.2.2.2.2.2))] : List va_W)) := vD_perm (vD_fb hD) (bP (List.Perm.refl _))
  have hK : va_K (dC, dI) cls (List.flatten ([(tX7 p0k), (tX6 p0_2k), (tX10 p0_1k)] : List (List (ClassId × FieldType)))) s := vK_perm (vK_fb hK) (bP (List.Perm.refl _))
  obtain rfl : r2 = (o_1.1) := hw
  refine lv_istore_n (lv' := [(3, .int (o_1.1)), (2, .int (p0_2w 0 7)), (0, .ref (p0a 0)), (1, .int p1)]) hx hb dX7_readTest_13 rfl hl (by decide) rfl (fun ls hl => ?_)
  refine lv_iconst (v := 0) hx hb dX7_readTest_14 (by decide) ?_
  refine lv_istore (lv' := [(4, .int 0), (3, .int (o_1.1)), (2, .int (p0_2w 0 7)), (0, .ref (p0a 0)), (1, .int p1)]) hx hb dX7_readTest_15 hl (by decide) rfl (fun ls hl => ?_)
  have L17 : ∀ (n_17 : Nat) (v3_17 : Int32) (v4_17 : Int32) (p0w_17 : ST) (p0l_17 : SL) (p0_2w_17 : ST) (p0_1w_17 : ST) (p0_1l_17 : SL) (o17 : Int32 × ST × SL × ST × ST × SL) (H : Heap) (locs : List Loc) (ls : Array Slot), (fX7_readTest_L17 p1 p0_2w p0_2l kk_readOperand kk_readShortCut n_17) v3_17 v4_17 p0w_17 p0l_17 p0_2w_17 p0_1w_17 p0_1l_17 = some o17 → va_P (dC, dI) cls (List.flatten ([(oX7 (p0a 0) p0a p0k p0w_17 p0l_17), (oX6 (p0a 3) p0_2a p0_2k p0_2w_17 p0_2l), (oX10 (p0a 2) p0_1a p0_1k p0_1w_17 p0_1l_17)] : List va_W)) H → va_D A (List.flatten ([(oX7 (p0a 0) p0a p0k p0w_17 p0l_17), (oX6 (p0a 3) p0_2a p0_2k p0_2w_17 p0_2l), (oX10 (p0a 2) p0_1a p0_1k p0_1w_17 p0_1l_17)] : List va_W)) → va_K (dC, dI) cls (List.flatten ([(tX7 p0k), (tX6 p0_2k), (tX10 p0_1k)] : List (List (ClassId × FieldType)))) s → va_S A s.heap H locs → lv_has ls 8 [(0, .ref (p0a 0)), (1, .int p1), (2, .int (p0_2w 0 7)), (3, .int v3_17), (4, .int v4_17)] → (∀ (H : Heap) (locs : List Loc) (ls : Array Slot), va_P (dC, dI) cls (List.flatten ([(oX7 (p0a 0) p0a p0k (o17.2.1) (o17.2.2.1)), (oX6 (p0a 3) p0_2a p0_2k (o17.2.2.2.1) p0_2l), (oX10 (p0a 2) p0_1a p0_1k (o17.2.2.2.2.1) (o17.2.2.2.2.2))] : List va_W)) H → va_D A (List.flatten ([(oX7 (p0a 0) p0a p0k (o17.2.1) (o17.2.2.1)), (oX6 (p0a 3) p0_2a p0_2k (o17.2.2.2.1) p0_2l), (oX10 (p0a 2) p0_1a p0_1k (o17.2.2.2.2.1) (o17.2.2.2.2.2))] : List va_W)) → va_K (dC, dI) cls (List.flatten ([(tX7 p0k), (tX6 p0_2k), (tX10 p0_1k)] : List (List (ClassId × FieldType)))) s → va_S A s.heap H locs → lv_has ls 8 [(3, .int (o17.1))] → W p l e ({ frames := F9 + 8, cells := 0, slots := 0, locals := L9 + 400 } : Room) s m ([.ref (p0a 0), .int p1] : List Value).toArray below meth c H locs 0 0 Q (F0 m 135 ls [])) → W p l e ({ frames := F9 + 8, cells := 0, slots := 0, locals := L9 + 400 } : Room) s m ([.ref (p0a 0), .int p1] : List Value).toArray below meth c H locs 0 0 Q (F0 m 17 ls []) := by
    intro n_17
    induction n_17 with
    | zero => intro v3_17 v4_17 p0w_17 p0l_17 p0_2w_17 p0_1w_17 p0_1l_17 o17 H locs ls hrun; exact (no9 rfl hrun).elim
    | succ n_17 IH17 =>
      intro v3_17 v4_17 p0w_17 p0l_17 p0_2w_17 p0_1w_17 p0_1l_17 o17 H locs ls hrun hP hD hK hS hl hk17
      unfold fX7_readTest_L17 at hrun
      refine lv_iload hx hb dX7_readTest_17 (lv_at hl 4 rfl) ?_
      refine lv_sipush (v := 600) hx hb dX7_readTest_19 (by decide) ?_
      rcases br9 hrun with ⟨hc3, hrun⟩ | ⟨hc3, hrun⟩
      · refine lv_icmp_ge (tgt := 135) hx hb dX7_readTest_22 (by decide) (fun _ => ?_) (fun c => absurd hc3 c)
        obtain rfl := (Option.some.inj hrun)
        exact hk17 _ _ _ hP hD hK hS (lv_sub hl [3] rfl)
      · refine lv_icmp_ge (tgt := 135) hx hb dX7_readTest_22 (by decide) (fun c => absurd c hc3) (fun _ => ?_)
        refine lv_aload_n hx hb dX7_readTest_25 rfl (lv_at hl 0 rfl) ?_
        refine va_get (D := (dC, dI)) (ci := 1) (v := .ref (p0a 2)) (C := RX7) (T := TX7) (N := 18) hx hb hts i_X7 hown hK hP 0 rfl rfl 1 (by decide) (hts _ qw45) (fun _ h9 => h9) rfl dX7_readTest_26 ?_
        refine va_get (D := (dC, dI)) (ci := 0) (v := .int (p0_1w_17 0 2)) (C := RX10) (T := TX10) (N := 8) hx hb hts i_X10 hown hK hP 20 rfl rfl 2 (by decide) (hts _ qw46) (fun _ h9 => h9) rfl dX7_readTest_29 ?_
        obtain ⟨o_4, hc_4, hrun⟩ := bnd9 hrun
        have hPx : va_P (dC, dI) cls ((List.flatten ([] : List va_W)) ++ (List.flatten ([(oX7 (p0a 0) p0a p0k p0w_17 p0l_17), (oX6 (p0a 3) p0_2a p0_2k p0_2w_17 p0_2l), (oX10 (p0a 2) p0_1a p0_1k p0_1w_17 p0_1l_17)] : List va_W))) H := vP_fa (vP_perm hP (bP (List.Perm.refl _)))
        have hDx : va_D A ((List.flatten ([] : List va_W)) ++ (List.flatten ([(oX7 (p0a 0) p0a p0k p0w_17 p0l_17), (oX6 (p0a 3) p0_2a p0_2k p0_2w_17 p0_2l), (oX10 (p0a 2) p0_1a p0_1k p0_1w_17 p0_1l_17)] : List va_W))) := vD_fa (vD_perm hD (bP (List.Perm.refl _)))
        have hKx : va_K (dC, dI) cls ((List.flatten ([] : List (List (ClassId × FieldType)))) ++ (List.flatten ([(tX7 p0k), (tX6 p0_2k), (tX10 p0_1k)] : List (List (ClassId × FieldType))))) s := vK_fa (vK_perm hK (bP (List.Perm.refl _)))
        have hPc := vP_l hPx
        have hDc := vD_l hDx
        have hKc := vK_l hKx
        have hFc := vfree hDx hS hA
        refine va_calli (va_runS (As := [.int (p0_1w_17 0 2)]) (rest := []) ⟨hx, hb, hml, hown, hts⟩ (kX7_rowOf l dC dI (p0 := (p0_1w_17 0 2)) (sz := _) (o := o_4) (hrun := hc_4)) (va_cwS 1 hts (gi_S qw1442 qw1443 qw65 (gi_z qw1441)) rfl rfl rfl (by decide +kernel) ⟨rmF (Nat.le_of_ble_eq_true rfl), rmL (Nat.le_of_ble_eq_true rfl)⟩) ⟨PRE.blind, PRE.of hE hS hFc hPc hKc hDc⟩ rfl rfl hl.1 rfl (lv_room (Nat.le_of_ble_eq_true rfl)) dX7_readTest_32 ⟨(Nat.le_of_ble_eq_true rfl), (Nat.le_of_ble_eq_true rfl)⟩) hS (fun q _ h => hFc q h) hFc (fun r5 u t H locs ht hvm hw hB hz1 hk1 hS => ?_)
        obtain ⟨b1, b2, b3⟩ := hB
        rw [ht] at b1
        obtain ⟨hP, hD, hK⟩ := JOINC (wc := (List.flatten ([] : List va_W))) (wr := (List.flatten ([(oX7 (p0a 0) p0a p0k p0w_17 p0l_17), (oX6 (p0a 3) p0_2a p0_2k p0_2w_17 p0_2l), (oX10 (p0a 2) p0_1a p0_1k p0_1w_17 p0_1l_17)] : List va_W))) (w1 := (List.flatten ([] : List va_W))) (t1 := (List.flatten ([] : List (List (ClassId × FieldType))))) hPx hDx hKx hk1 hFc b1 (va_K.moved hvm.symm b2) b3
        have hP : va_P (dC, dI) cls (List.flatten ([(oX7 (p0a 0) p0a p0k p0w_17 p0l_17), (oX6 (p0a 3) p0_2a p0_2k p0_2w_17 p0_2l), (oX10 (p0a 2) p0_1a p0_1k p0_1w_17 p0_1l_17)] : List va_W)) H := vP_perm (vP_fb hP) (bP (List.Perm.refl _))
        have hD : va_D A (List.flatten ([(oX7 (p0a 0) p0a p0k p0w_17 p0l_17), (oX6 (p0a 3) p0_2a p0_2k p0_2w_17 p0_2l), (oX10 (p0a 2) p0_1a p0_1k p0_1w_17 p0_1l_17)] : List va_W)) := vD_perm (vD_fb hD) (bP (List.Perm.refl _))
        have hK : va_K (dC, dI) cls (List.flatten ([(tX7 p0k), (tX6 p0_2k), (tX10 p0_1k)] : List (List (ClassId × FieldType)))) s := vK_perm (vK_fb hK) (bP (List.Perm.refl _))
        obtain rfl : o_4 = r5 := hw.symm
        refine lv_iload_n hx hb dX7_readTest_35 rfl (lv_at hl 1 rfl) ?_
        rcases br9 hrun with ⟨hc6, hrun⟩ | ⟨hc6, hrun⟩
        · refine lv_icmp_ne (tgt := 135) hx hb dX7_readTest_36 (by decide) (fun c => absurd hc6 c) (fun _ => ?_)
          refine lv_aload_n hx hb dX7_readTest_39 rfl (lv_at hl 0 rfl) ?_
          refine va_get (D := (dC, dI)) (ci := 1) (v := .ref (p0a 2)) (C := RX7) (T := TX7) (N := 18) hx hb hts i_X7 hown hK hP 0 rfl rfl 1 (by decide) (hts _ qw45) (fun _ h9 => h9) rfl dX7_readTest_40 ?_
          refine va_get (D := (dC, dI)) (ci := 0) (v := .int (p0_1w_17 0 2)) (C := RX10) (T := TX10) (N := 8) hx hb hts i_X10 hown hK hP 20 rfl rfl 2 (by decide) (hts _ qw46) (fun _ h9 => h9) rfl dX7_readTest_43 ?_
          refine lv_istore (lv' := [(5, .int (p0_1w_17 0 2)), (0, .ref (p0a 0)), (1, .int p1), (2, .int (p0_2w 0 7)), (3, .int v3_17), (4, .int v4_17)]) hx hb dX7_readTest_46 hl (by decide) rfl (fun ls hl => ?_)
          refine lv_aload_n hx hb dX7_readTest_48 rfl (lv_at hl 1 rfl) ?_
          refine va_get (D := (dC, dI)) (ci := 1) (v := .ref (p0a 2)) (C := RX7) (T := TX7) (N := 18) hx hb hts i_X7 hown hK hP 0 rfl rfl 1 (by decide) (hts _ qw45) (fun _ h9 => h9) rfl dX7_readTest_49 ?_
          refine va_get (D := (dC, dI)) (ci := 0) (v := .int (p0_1w_17 0 3)) (C := RX10) (T := TX10) (N := 8) hx hb hts i_X10 hown hK hP 20 rfl rfl 3 (by decide) (hts _ qw69) (fun _ h9 => h9) rfl dX7_readTest_52 ?_
          refine lv_istore (lv' := [(6, .int (p0_1w_17 0 3)), (5, .int (p0_1w_17 0 2)), (0, .ref (p0a 0)), (1, .int p1), (2, .int (p0_2w 0 7)), (3, .int v3_17), (4, .int v4_17)]) hx hb dX7_readTest_55 hl (by decide) rfl (fun ls hl => ?_)
          refine lv_aload_n hx hb dX7_readTest_57 rfl (lv_at hl 2 rfl) ?_
          refine va_get (D := (dC, dI)) (ci := 1) (v := .ref (p0a 2)) (C := RX7) (T := TX7) (N := 18) hx hb hts i_X7 hown hK hP 0 rfl rfl 1 (by decide) (hts _ qw45) (fun _ h9 => h9) rfl dX7_readTest_58 ?_
          obtain ⟨o_7, hc_7, hrun⟩ := bnd9 hrun
          have hPx : va_P (dC, dI) cls ((List.flatten ([(oX10 (p0a 2) p0_1a p0_1k p0_1w_17 p0_1l_17)] : List va_W)) ++ (List.flatten ([(oX7 (p0a 0) p0a p0k p0w_17 p0l_17), (oX6 (p0a 3) p0_2a p0_2k p0_2w_17 p0_2l)] : List va_W))) H := vP_fa (vP_perm hP (bP (((((((List.Perm.refl _)).cons _).trans (List.Perm.swap _ _ _))).cons _).trans (List.Perm.swap _ _ _))))
          have hDx : va_D A ((List.flatten ([(oX10 (p0a 2) p0_1a p0_1k p0_1w_17 p0_1l_17)] : List va_W)) ++ (List.flatten ([(oX7 (p0a 0) p0a p0k p0w_17 p0l_17), (oX6 (p0a 3) p0_2a p0_2k p0_2w_17 p0_2l)] : List va_W))) := vD_fa (vD_perm hD (bP (((((((List.Perm.refl _)).cons _).trans (List.Perm.swap _ _ _))).cons _).trans (List.Perm.swap _ _ _))))
          have hKx : va_K (dC, dI) cls ((List.flatten ([(tX10 p0_1k)] : List (List (ClassId × FieldType)))) ++ (List.flatten ([(tX7 p0k), (tX6 p0_2k)] : List (List (ClassId × FieldType))))) s := vK_fa (vK_perm hK (bP (((((((List.Perm.refl _)).cons _).trans (List.Perm.swap _ _ _))).cons _).trans (List.Perm.swap _ _ _))))
          have hPc := vP_l hPx
          have hDc := vD_l hDx
          have hKc := vK_l hKx
          have hFc := vfree hDx hS hA
          refine va_callv (va_runV (As := []) (rest := []) ⟨hx, hb, hml, hown, hts⟩ (kX10_advance l dC dI (p0a := (st0 (p0a 2) p0_1a)) (p0k := p0_1k) (p0w := p0_1w_17) (p0l := p0_1l_17) (aK := aK) (aV := aV) (sz := _) (o := o_7) (hrun := hc_7)) (cwV 0 hts (gi_V qw1384 qw1382 qw1383 qw8 (gi_z qw1380)) rfl rfl rfl (by decide +kernel) ⟨rmF (Nat.le_of_ble_eq_true rfl), rmL (Nat.le_of_ble_eq_true rfl)⟩) ⟨PRE.blind, va_recv hKc hPc (ci := 0) (q0 := 0) rfl rfl, PRE.of (ENV.add hE st9_m hro_st) hS hFc hPc hKc hDc⟩ rfl rfl hl.1 rfl (lv_room (Nat.le_of_ble_eq_true rfl)) dX7_readTest_61 ⟨(Nat.le_of_ble_eq_true rfl), (Nat.le_of_ble_eq_true rfl)⟩) hS (fun q _ h => hFc q h) hFc (fun u t H locs ht hvm hw hB hz1 hk1 hS => ?_)
          obtain ⟨b1, b2, b3⟩ := hB
          rw [ht] at b1
          obtain ⟨hP, hD, hK⟩ := JOINC (wc := (List.flatten ([(oX10 (p0a 2) p0_1a p0_1k p0_1w_17 p0_1l_17)] : List va_W))) (wr := (List.flatten ([(oX7 (p0a 0) p0a p0k p0w_17 p0l_17), (oX6 (p0a 3) p0_2a p0_2k p0_2w_17 p0_2l)] : List va_W))) (w1 := (List.flatten ([(oX10 (p0a 2) p0_1a p0_1k (o_7.1) (o_7.2))] : List va_W))) (t1 := (List.flatten ([(tX10 p0_1k)] : List (List (ClassId × FieldType))))) hPx hDx hKx hk1 hFc b1 (va_K.moved hvm.symm b2) b3
          have hP : va_P (dC, dI) cls (List.flatten ([(oX7 (p0a 0) p0a p0k p0w_17 p0l_17), (oX6 (p0a 3) p0_2a p0_2k p0_2w_17 p0_2l), (oX10 (p0a 2) p0_1a p0_1k (o_7.1) (o_7.2))] : List va_W)) H := vP_perm (vP_fb hP) (bP ((((((List.Perm.refl _)).cons _).trans (List.Perm.swap _ _ _))).trans ((((((List.Perm.refl _)).cons _).trans (List.Perm.swap _ _ _))).cons _)))
          have hD : va_D A (List.flatten ([(oX7 (p0a 0) p0a p0k p0w_17 p0l_17), (oX6 (p0a 3) p0_2a p0_2k p0_2w_17 p0_2l), (oX10 (p0a 2) p0_1a p0_1k (o_7.1) (o_7.2))] : List va_W)) := vD_perm (vD_fb hD) (bP ((((((List.Perm.refl _)).cons _).trans (List.Perm.swap _ _ _))).trans ((((((List.Perm.refl _)).cons _).trans (List.Perm.swap _ _ _))).cons _)))
          have hK : va_K (dC, dI) cls (List.flatten ([(tX7 p0k), (tX6 p0_2k), (tX10 p0_1k)] : List (List (ClassId × FieldType)))) s := vK_perm (vK_fb hK) (bP ((((((List.Perm.refl _)).cons _).trans (List.Perm.swap _ _ _))).trans ((((((List.Perm.refl _)).cons _).trans (List.Perm.swap _ _ _))).cons _)))
          refine lv_aload_n hx hb dX7_readTest_64 rfl (lv_at hl 2 rfl) ?_
          refine va_get (D := (dC, dI)) (ci := 1) (v := .ref (p0a 3)) (C := RX7) (T := TX7) (N := 18) hx hb hts i_X7 hown hK hP 0 rfl rfl 2 (by decide) (hts _ qw26) (fun _ h9 => h9) rfl dX7_readTest_65 ?_
          refine lv_iload_n hx hb dX7_readTest_68 rfl (lv_at hl 4 rfl) ?_
          obtain ⟨o_8, hc_8, hrun⟩ := bnd9 hrun
          have hPx : va_P (dC, dI) cls ((List.flatten ([(oX6 (p0a 3) p0_2a p0_2k p0_2w_17 p0_2l)] : List va_W)) ++ (List.flatten ([(oX7 (p0a 0) p0a p0k p0w_17 p0l_17), (oX10 (p0a 2) p0_1a p0_1k (o_7.1) (o_7.2))] : List va_W))) H := vP_fa (vP_perm hP (bP ((((List.Perm.refl _)).cons _).trans (List.Perm.swap _ _ _))))
          have hDx : va_D A ((List.flatten ([(oX6 (p0a 3) p0_2a p0_2k p0_2w_17 p0_2l)] : List va_W)) ++ (List.flatten ([(oX7 (p0a 0) p0a p0k p0w_17 p0l_17), (oX10 (p0a 2) p0_1a p0_1k (o_7.1) (o_7.2))] : List va_W))) := vD_fa (vD_perm hD (bP ((((List.Perm.refl _)).cons _).trans (List.Perm.swap _ _ _))))
          have hKx : va_K (dC, dI) cls ((List.flatten ([(tX6 p0_2k)] : List (List (ClassId × FieldType)))) ++ (List.flatten ([(tX7 p0k), (tX10 p0_1k)] : List (List (ClassId × FieldType))))) s := vK_fa (vK_perm hK (bP ((((List.Perm.refl _)).cons _).trans (List.Perm.swap _ _ _))))
          have hPc := vP_l hPx
          have hDc := vD_l hDx
          have hKc := vK_l hKx
          have hFc := vfree hDx hS hA
          refine va_callv (va_runV (As := [.int (p0_2w 0 7)]) (rest := []) ⟨hx, hb, hml, hown, hts⟩ (kX6_tick l dC dI (p0a := (st0 (p0a 3) p0_2a)) (p0k := p0_2k) (p0w := p0_2w_17) (p0l := p0_2l) (p1 := (p0_2w 0 7)) (sz := _) (o := o_8) (hrun := hc_8)) (cwV 1 hts (gi_V qw1402 qw1403 qw1404 qw33 (gi_z qw1401)) rfl rfl rfl (by decide +kernel) ⟨rmF (Nat.le_of_ble_eq_true rfl), rmL (Nat.le_of_ble_eq_true rfl)⟩) ⟨PRE.blind, va_recv hKc hPc (ci := 2) (q0 := 0) rfl rfl, PRE.of hE hS hFc hPc hKc hDc⟩ rfl rfl hl.1 rfl (lv_room (Nat.le_of_ble_eq_true rfl)) dX7_readTest_69 ⟨(Nat.le_of_ble_eq_true rfl), (Nat.le_of_ble_eq_true rfl)⟩) hS (fun q _ h => hFc q h) hFc (fun u t H locs ht hvm hw hB hz1 hk1 hS => ?_)
          obtain ⟨b1, b2, b3⟩ := hB
          rw [ht] at b1
          obtain ⟨hP, hD, hK⟩ := JOINC (wc := (List.flatten ([(oX6 (p0a 3) p0_2a p0_2k p0_2w_17 p0_2l)] : List va_W))) (wr := (List.flatten ([(oX7 (p0a 0) p0a p0k p0w_17 p0l_17), (oX10 (p0a 2) p0_1a p0_1k (o_7.1) (o_7.2))] : List va_W))) (w1 := (List.flatten ([(oX6 (p0a 3) p0_2a p0_2k o_8 p0_2l)] : List va_W))) (t1 := (List.flatten ([(tX6 p0_2k)] : List (List (ClassId × FieldType))))) hPx hDx hKx hk1 hFc b1 (va_K.moved hvm.symm b2) b3
          have hP : va_P (dC, dI) cls (List.flatten ([(oX7 (p0a 0) p0a p0k p0w_17 p0l_17), (oX6 (p0a 3) p0_2a p0_2k o_8 p0_2l), (oX10 (p0a 2) p0_1a p0_1k (o_7.1) (o_7.2))] : List va_W)) H := vP_perm (vP_fb hP) (bP ((((List.Perm.refl _)).cons _).trans (List.Perm.swap _ _ _)))
          have hD : va_D A (List.flatten ([(oX7 (p0a 0) p0a p0k p0w_17 p0l_17), (oX6 (p0a 3) p0_2a p0_2k o_8 p0_2l), (oX10 (p0a 2) p0_1a p0_1k (o_7.1) (o_7.2))] : List va_W)) := vD_perm (vD_fb hD) (bP ((((List.Perm.refl _)).cons _).trans (List.Perm.swap _ _ _)))
          have hK : va_K (dC, dI) cls (List.flatten ([(tX7 p0k), (tX6 p0_2k), (tX10 p0_1k)] : List (List (ClassId × FieldType)))) s := vK_perm (vK_fb hK) (bP ((((List.Perm.refl _)).cons _).trans (List.Perm.swap _ _ _)))
          refine lv_iload_n hx hb dX7_readTest_72 rfl (lv_at hl 3 rfl) ?_
          refine lv_iconst (v := 2) hx hb dX7_readTest_73 (by decide) ?_
          have J108 : ∀ (v7_108 : Int32) (p0w_108 : ST) (p0l_108 : SL) (p0_2w_108 : ST) (p0_1w_108 : ST) (p0_1l_108 : SL) (H : Heap) (locs : List Loc) (ls : Array Slot), (fX7_readTest_J108 (fX7_readTest_L17 p1 p0_2w p0_2l kk_readOperand kk_readShortCut n_17) p1 v3_17 v4_17 p0_1w_17 v7_108 p0w_108 p0l_108 p0_2w_108 p0_1w_108 p0_1l_108) = some o17 → va_P (dC, dI) cls (List.flatten ([(oX7 (p0a 0) p0a p0k p0w_108 p0l_108), (oX6 (p0a 3) p0_2a p0_2k p0_2w_108 p0_2l), (oX10 (p0a 2) p0_1a p0_1k p0_1w_108 p0_1l_108)] : List va_W)) H → va_D A (List.flatten ([(oX7 (p0a 0) p0a p0k p0w_108 p0l_108), (oX6 (p0a 3) p0_2a p0_2k p0_2w_108 p0_2l), (oX10 (p0a 2) p0_1a p0_1k p0_1w_108 p0_1l_108)] : List va_W)) → va_K (dC, dI) cls (List.flatten ([(tX7 p0k), (tX6 p0_2k), (tX10 p0_1k)] : List (List (ClassId × FieldType)))) s → va_S A s.heap H locs → lv_has ls 8 [(0, .ref (p0a 0)), (1, .int p1), (2, .int (p0_2w 0 7)), (3, .int v3_17), (4, .int v4_17), (6, .int (p0_1w_17 0 3)), (7, .int v7_108)] → W p l e ({ frames := F9 + 8, cells := 0, slots := 0, locals := L9 + 400 } : Room) s m ([.ref (p0a 0), .int p1] : List Value).toArray below meth c H locs 0 0 Q (F0 m 108 ls []) := by
            intro v7_108 p0w_108 p0l_108 p0_2w_108 p0_1w_108 p0_1l_108 H locs ls hrun hP hD hK hS hl 
            unfold fX7_readTest_J108 at hrun
            refine lv_aload_n hx hb dX7_readTest_108 rfl (lv_at hl 0 rfl) ?_
            refine lv_iload_n hx hb dX7_readTest_109 rfl (lv_at hl 3 rfl) ?_
            refine lv_iload hx hb dX7_readTest_110 (lv_at hl 6 rfl) ?_
            refine va_mmax hx hb (hml.trans hl.1.symm) hown (hts _ qw1444) (hts _ qw359) (hts _ qw100) (hts _ qw360) (rmF (Nat.le_of_ble_eq_true rfl)) (rmL (Nat.le_of_ble_eq_true rfl)) (Nat.le_of_ble_eq_true rfl) (Nat.le_of_ble_eq_true rfl) dX7_readTest_112 ?_
            refine lv_iload hx hb dX7_readTest_115 (lv_at hl 5 rfl) ?_
            obtain ⟨o_9, hc_9, hrun⟩ := bnd9 hrun
            have hPx : va_P (dC, dI) cls ((List.flatten ([(oX7 (p0a 0) p0a p0k p0w_108 p0l_108)] : List va_W)) ++ (List.flatten ([(oX6 (p0a 3) p0_2a p0_2k p0_2w_108 p0_2l), (oX10 (p0a 2) p0_1a p0_1k p0_1w_108 p0_1l_108)] : List va_W))) H := vP_fa (vP_perm hP (bP (List.Perm.refl _)))
            have hDx : va_D A ((List.flatten ([(oX7 (p0a 0) p0a p0k p0w_108 p0l_108)] : List va_W)) ++ (List.flatten ([(oX6 (p0a 3) p0_2a p0_2k p0_2w_108 p0_2l), (oX10 (p0a 2) p0_1a p0_1k p0_1w_108 p0_1l_108)] : List va_W))) := vD_fa (vD_perm hD (bP (List.Perm.refl _)))
            have hKx : va_K (dC, dI) cls ((List.flatten ([(tX7 p0k)] : List (List (ClassId × FieldType)))) ++ (List.flatten ([(tX6 p0_2k), (tX10 p0_1k)] : List (List (ClassId × FieldType))))) s := vK_fa (vK_perm hK (bP (List.Perm.refl _)))
            have hPc := vP_l hPx
            have hDc := vD_l hDx
            have hKc := vK_l hKx
            have hFc := vfree hDx hS hA
            refine va_calli (va_runV (As := [.int (if v3_17 < v7_108 then v7_108 else v3_17), .int (p0_1w_17 0 3)]) (rest := []) ⟨hx, hb, hml, hown, hts⟩ (kX7_raise l dC dI (p0a := p0a) (p0k := p0k) (p0w := p0w_108) (p0l := p0l_108) (p1 := (if v3_17 < v7_108 then v7_108 else v3_17)) (p2 := (p0_1w_17 0 3)) (sz := _) (o := o_9) (hrun := hc_9)) (cwV 2 hts (gi_V qw1446 qw1447 qw1448 qw65 (gi_z qw1445)) rfl rfl rfl (by decide +kernel) ⟨rmF (Nat.le_of_ble_eq_true rfl), rmL (Nat.le_of_ble_eq_true rfl)⟩) ⟨PRE.blind, va_recv hKc hPc (ci := 1) (q0 := 0) rfl rfl, PRE.of hE hS hFc hPc hKc hDc⟩ rfl rfl hl.1 rfl (lv_room (Nat.le_of_ble_eq_true rfl)) dX7_readTest_117 ⟨(Nat.le_of_ble_eq_true rfl), (Nat.le_of_ble_eq_true rfl)⟩) hS (fun q _ h => hFc q h) hFc (fun r10 u t H locs ht hvm hw hB hz1 hk1 hS => ?_)
            obtain ⟨b1, b2, b3⟩ := hB
            rw [ht] at b1
            obtain ⟨hP, hD, hK⟩ := JOINC (wc := (List.flatten ([(oX7 (p0a 0) p0a p0k p0w_108 p0l_108)] : List va_W))) (wr := (List.flatten ([(oX6 (p0a 3) p0_2a p0_2k p0_2w_108 p0_2l), (oX10 (p0a 2) p0_1a p0_1k p0_1w_108 p0_1l_108)] : List va_W))) (w1 := (List.flatten ([(oX7 (p0a 0) p0a p0k (o_9.2) p0l_108)] : List va_W))) (t1 := (List.flatten ([(tX7 p0k)] : List (List (ClassId × FieldType))))) hPx hDx hKx hk1 hFc b1 (va_K.moved hvm.symm b2) b3
            have hP : va_P (dC, dI) cls (List.flatten ([(oX7 (p0a 0) p0a p0k (o_9.2) p0l_108), (oX6 (p0a 3) p0_2a p0_2k p0_2w_108 p0_2l), (oX10 (p0a 2) p0_1a p0_1k p0_1w_108 p0_1l_108)] : List va_W)) H := vP_perm (vP_fb hP) (bP (List.Perm.refl _))
            have hD : va_D A (List.flatten ([(oX7 (p0a 0) p0a p0k (o_9.2) p0l_108), (oX6 (p0a 3) p0_2a p0_2k p0_2w_108 p0_2l), (oX10 (p0a 2) p0_1a p0_1k p0_1w_108 p0_1l_108)] : List va_W)) := vD_perm (vD_fb hD) (bP (List.Perm.refl _))
            have hK : va_K (dC, dI) cls (List.flatten ([(tX7 p0k), (tX6 p0_2k), (tX10 p0_1k)] : List (List (ClassId × FieldType)))) s := vK_perm (vK_fb hK) (bP (List.Perm.refl _))
            obtain rfl : r10 = (o_9.1) := hw
            refine lv_istore_n (lv' := [(3, .int (o_9.1)), (0, .ref (p0a 0)), (1, .int p1), (2, .int (p0_2w 0 7)), (4, .int v4_17), (6, .int (p0_1w_17 0 3)), (7, .int v7_108)]) hx hb dX7_readTest_120 rfl hl (by decide) rfl (fun ls hl => ?_)
            refine lv_iload_n hx hb dX7_readTest_121 rfl (lv_at hl 2 rfl) ?_
            refine lv_iconst (v := 2) hx hb dX7_readTest_122 (by decide) ?_
            rcases br9 hrun with ⟨hc11, hrun⟩ | ⟨hc11, hrun⟩
            · refine lv_icmp_ne (tgt := 129) hx hb dX7_readTest_123 (by decide) (fun c => absurd hc11 c) (fun _ => ?_)
              refine lv_goto (tgt := 135) hx hb dX7_readTest_126 (by decide) ?_
              obtain rfl := (Option.some.inj hrun)
              exact hk17 _ _ _ hP hD hK hS (lv_sub hl [0] rfl)
            · refine lv_icmp_ne (tgt := 129) hx hb dX7_readTest_123 (by decide) (fun _ => ?_) (fun c => absurd c hc11)
              refine lv_iinc (v := (v4_17 + 1)) (lv' := [(4, .int (v4_17 + 1)), (3, .int (o_9.1)), (0, .ref (p0a 0)), (1, .int p1), (2, .int (p0_2w 0 7)), (6, .int (p0_1w_17 0 3)), (7, .int v7_108)]) hx hb dX7_readTest_129 hl (k := 4) rfl rfl (by decide) rfl (fun ls hl => ?_)
              refine lv_goto (tgt := 17) hx hb dX7_readTest_132 (by decide) ?_
              exact IH17 (o_9.1) (v4_17 + 1) (o_9.2) p0l_108 p0_2w_108 p0_1w_108 p0_1l_108 o17 _ _ _ hrun hP hD hK hS (lv_sub hl [2, 3, 4, 1, 0] rfl) hk17
          rcases br9 hrun with ⟨hc12, hrun⟩ | ⟨hc12, hrun⟩
          · refine lv_icmp_ge (tgt := 87) hx hb dX7_readTest_74 (by decide) (fun _ => ?_) (fun c => absurd hc12 c)
            refine lv_aload_n hx hb dX7_readTest_87 rfl (lv_at hl 2 rfl) ?_
            refine lv_iload_n hx hb dX7_readTest_88 rfl (lv_at hl 3 rfl) ?_
            obtain ⟨o_13, hc_13, hrun⟩ := bnd9 hrun
            have hPx : va_P (dC, dI) cls ((List.flatten ([(oX7 (p0a 0) p0a p0k p0w_17 p0l_17), (oX6 (p0a 3) p0_2a p0_2k o_8 p0_2l), (oX10 (p0a 2) p0_1a p0_1k (o_7.1) (o_7.2))] : List va_W)) ++ (List.flatten ([] : List va_W))) H := vP_fa (vP_perm hP (bP (List.Perm.refl _)))
            have hDx : va_D A ((List.flatten ([(oX7 (p0a 0) p0a p0k p0w_17 p0l_17), (oX6 (p0a 3) p0_2a p0_2k o_8 p0_2l), (oX10 (p0a 2) p0_1a p0_1k (o_7.1) (o_7.2))] : List va_W)) ++ (List.flatten ([] : List va_W))) := vD_fa (vD_perm hD (bP (List.Perm.refl _)))
            have hKx : va_K (dC, dI) cls ((List.flatten ([(tX7 p0k), (tX6 p0_2k), (tX10 p0_1k)] : List (List (ClassId × FieldType)))) ++ (List.flatten ([] : List (List (ClassId × FieldType))))) s := vK_fa (vK_perm hK (bP (List.Perm.refl _)))
            have hPc := vP_l hPx
            have hDc := vD_l hDx
            have hKc := vK_l hKx
            have hFc := vfree hDx hS hA
            refine va_calli (va_runV (As := [.int p1]) (rest := []) ⟨hx, hb, hml, hown, hts⟩ (hkk_readOperand dC dI (p0a := p0a) (p0k := p0k) (p0w := p0w_17) (p0l := p0l_17) (p1 := p1) (aK := aK) (aV := aV) (p0_2a := p0_2a) (p0_2k := p0_2k) (p0_2w := o_8) (p0_2l := p0_2l) (p0_1a := p0_1a) (p0_1k := p0_1k) (p0_1w := (o_7.1)) (p0_1l := (o_7.2)) (sz := _) (o := o_13) (hrun := hc_13)) (cwV 1 hts (gi_V qw1438 qw1439 qw1440 qw65 (gi_z qw1437)) rfl rfl rfl (by decide +kernel) ⟨rmF9, rmL9 (n := 21) (Nat.le_of_ble_eq_true rfl)⟩) ⟨PRE.blind, va_recv hKc hPc (ci := 1) (q0 := 0) rfl rfl, PRE.of (ENV.add hE st9_m hro_st) hS hFc hPc hKc hDc⟩ rfl rfl hl.1 rfl (lv_room (Nat.le_of_ble_eq_true rfl)) dX7_readTest_89 ⟨(Nat.le_of_ble_eq_true rfl), (Nat.le_of_ble_eq_true rfl)⟩) hS (fun q _ h => hFc q h) hFc (fun r14 u t H locs ht hvm hw hB hz1 hk1 hS => ?_)
            obtain ⟨b1, b2, b3⟩ := hB
            rw [ht] at b1
            obtain ⟨hP, hD, hK⟩ := JOINC (wc := (List.flatten ([(oX7 (p0a 0) p0a p0k p0w_17 p0l_17), (oX6 (p0a 3) p0_2a p0_2k o_8 p0_2l), (oX10 (p0a 2) p0_1a p0_1k (o_7.1) (o_7.2))] : List va_W))) (wr := (List.flatten ([] : List va_W))) (w1 := (List.flatten ([(oX7 (p0a 0) p0a p0k (o_13.2.1) (o_13.2.2.1)), (oX6 (p0a 3) p0_2a p0_2k (o_13.2.2.2.1) p0_2l), (oX10 (p0a 2) p0_1a p0_1k (o_13.2.2.2.2.1) (o_13.2.2.2.2.2))] : List va_W))) (t1 := (List.flatten ([(tX7 p0k), (tX6 p0_2k), (tX10 p0_1k)] : List (List (ClassId × FieldType))))) hPx hDx hKx hk1 hFc b1 (va_K.moved hvm.symm b2) b3
            have hP : va_P (dC, dI) cls (List.flatten ([(oX7 (p0a 0) p0a p0k (o_13.2.1) (o_13.2.2.1)), (oX6 (p0a 3) p0_2a p0_2k (o_13.2.2.2.1) p0_2l), (oX10 (p0a 2) p0_1a p0_1k (o_13.2.2.2.2.1) (o_13.2.2.2.2.2))] : List va_W)) H := vP_perm (vP_fb hP) (bP (List.Perm.refl _))
            have hD : va_D A (List.flatten ([(oX7 (p0a 0) p0a p0k (o_13.2.1) (o_13.2.2.1)), (oX6 (p0a 3) p0_2a p0_2k (o_13.2.2.2.1) p0_2l), (oX10 (p0a 2) p0_1a p0_1k (o_13.2.2.2.2.1) (o_13.2.2.2.2.2))] : List va_W)) := vD_perm (vD_fb hD) (bP (List.Perm.refl _))
            have hK : va_K (dC, dI) cls (List.flatten ([(tX7 p0k), (tX6 p0_2k), (tX10 p0_1k)] : List (List (ClassId × FieldType)))) s := vK_perm (vK_fb hK) (bP (List.Perm.refl _))
            obtain rfl : r14 = (o_13.1) := hw
            refine lv_istore (lv' := [(7, .int (o_13.1)), (6, .int (p0_1w_17 0 3)), (5, .int (p0_1w_17 0 2)), (0, .ref (p0a 0)), (1, .int p1), (2, .int (p0_2w 0 7)), (3, .int v3_17), (4, .int v4_17)]) hx hb dX7_readTest_92 hl (by decide) rfl (fun ls hl => ?_)
            refine lv_aload_n hx hb dX7_readTest_94 rfl (lv_at hl 3 rfl) ?_
            refine va_get (D := (dC, dI)) (ci := 1) (v := .ref (p0a 3)) (C := RX7) (T := TX7) (N := 18) hx hb hts i_X7 hown hK hP 0 rfl rfl 2 (by decide) (hts _ qw26) (fun _ h9 => h9) rfl dX7_readTest_95 ?_
            refine lv_iload hx hb dX7_readTest_98 (lv_at hl 2 rfl) ?_
            obtain ⟨o_15, hc_15, hrun⟩ := bnd9 hrun
            have hPx : va_P (dC, dI) cls ((List.flatten ([] : List va_W)) ++ (List.flatten ([(oX7 (p0a 0) p0a p0k (o_13.2.1) (o_13.2.2.1)), (oX6 (p0a 3) p0_2a p0_2k (o_13.2.2.2.1) p0_2l), (oX10 (p0a 2) p0_1a p0_1k (o_13.2.2.2.2.1) (o_13.2.2.2.2.2))] : List va_W))) H := vP_fa (vP_perm hP (bP (List.Perm.refl _)))
            have hDx : va_D A ((List.flatten ([] : List va_W)) ++ (List.flatten ([(oX7 (p0a 0) p0a p0k (o_13.2.1) (o_13.2.2.1)), (oX6 (p0a 3) p0_2a p0_2k (o_13.2.2.2.1) p0_2l), (oX10 (p0a 2) p0_1a p0_1k (o_13.2.2.2.2.1) (o_13.2.2.2.2.2))] : List va_W))) := vD_fa (vD_perm hD (bP (List.Perm.refl _)))
            have hKx : va_K (dC, dI) cls ((List.flatten ([] : List (List (ClassId × FieldType)))) ++ (List.flatten ([(tX7 p0k), (tX6 p0_2k), (tX10 p0_1k)] : List (List (ClassId × FieldType))))) s := vK_fa (vK_perm hK (bP (List.Perm.refl _)))
            have hPc := vP_l hPx
            have hDc := vD_l hDx
            have hKc := vK_l hKx
            have hFc := vfree hDx hS hA
            refine va_calli (va_runS (As := [.int (p0_1w_17 0 2)]) (rest := [.ref (p0a 3)]) ⟨hx, hb, hml, hown, hts⟩ (kX7_kindOfSign l dC dI (p0 := (p0_1w_17 0 2)) (sz := _) (o := o_15) (hrun := hc_15)) (va_cwS 1 hts (gi_S qw82 qw83 qw65 (gi_z qw81)) rfl rfl rfl (by decide +kernel) ⟨rmF (Nat.le_of_ble_eq_true rfl), rmL (Nat.le_of_ble_eq_true rfl)⟩) ⟨PRE.blind, PRE.of hE hS hFc hPc hKc hDc⟩ rfl rfl hl.1 rfl (lv_room (Nat.le_of_ble_eq_true rfl)) dX7_readTest_100 ⟨(Nat.le_of_ble_eq_true rfl), (Nat.le_of_ble_eq_true rfl)⟩) hS (fun q _ h => hFc q h) hFc (fun r16 u t H locs ht hvm hw hB hz1 hk1 hS => ?_)
            obtain ⟨b1, b2, b3⟩ := hB
            rw [ht] at b1
            obtain ⟨hP, hD, hK⟩ := JOINC (wc := (List.flatten ([] : List va_W))) (wr := (List.flatten ([(oX7 (p0a 0) p0a p0k (o_13.2.1) (o_13.2.2.1)), (oX6 (p0a 3) p0_2a p0_2k (o_13.2.2.2.1) p0_2l), (oX10 (p0a 2) p0_1a p0_1k (o_13.2.2.2.2.1) (o_13.2.2.2.2.2))] : List va_W))) (w1 := (List.flatten ([] : List va_W))) (t1 := (List.flatten ([] : List (List (ClassId × FieldType))))) hPx hDx hKx hk1 hFc b1 (va_K.moved hvm.symm b2) b3
            have hP : va_P (dC, dI) cls (List.flatten ([(oX7 (p0a 0) p0a p0k (o_13.2.1) (o_13.2.2.1)), (oX6 (p0a 3) p0_2a p0_2k (o_13.2.2.2.1) p0_2l), (oX10 (p0a 2) p0_1a p0_1k (o_13.2.2.2.2.1) (o_13.2.2.2.2.2))] : List va_W)) H := vP_perm (vP_fb hP) (bP (List.Perm.refl _))
            have hD : va_D A (List.flatten ([(oX7 (p0a 0) p0a p0k (o_13.2.1) (o_13.2.2.1)), (oX6 (p0a 3) p0_2a p0_2k (o_13.2.2.2.1) p0_2l), (oX10 (p0a 2) p0_1a p0_1k (o_13.2.2.2.2.1) (o_13.2.2.2.2.2))] : List va_W)) := vD_perm (vD_fb hD) (bP (List.Perm.refl _))
            have hK : va_K (dC, dI) cls (List.flatten ([(tX7 p0k), (tX6 p0_2k), (tX10 p0_1k)] : List (List (ClassId × FieldType)))) s := vK_perm (vK_fb hK) (bP (List.Perm.refl _))
            obtain rfl : o_15 = r16 := hw.symm
            refine lv_iconst (v := 0) hx hb dX7_readTest_103 (by decide) ?_
            refine lv_iconst (v := 0) hx hb dX7_readTest_104 (by decide) ?_
            obtain ⟨o_17, hc_17, hrun⟩ := bnd9 hrun
            have hPx : va_P (dC, dI) cls ((List.flatten ([(oX6 (p0a 3) p0_2a p0_2k (o_13.2.2.2.1) p0_2l)] : List va_W)) ++ (List.flatten ([(oX7 (p0a 0) p0a p0k (o_13.2.1) (o_13.2.2.1)), (oX10 (p0a 2) p0_1a p0_1k (o_13.2.2.2.2.1) (o_13.2.2.2.2.2))] : List va_W))) H := vP_fa (vP_perm hP (bP ((((List.Perm.refl _)).cons _).trans (List.Perm.swap _ _ _))))
            have hDx : va_D A ((List.flatten ([(oX6 (p0a 3) p0_2a p0_2k (o_13.2.2.2.1) p0_2l)] : List va_W)) ++ (List.flatten ([(oX7 (p0a 0) p0a p0k (o_13.2.1) (o_13.2.2.1)), (oX10 (p0a 2) p0_1a p0_1k (o_13.2.2.2.2.1) (o_13.2.2.2.2.2))] : List va_W))) := vD_fa (vD_perm hD (bP ((((List.Perm.refl _)).cons _).trans (List.Perm.swap _ _ _))))
            have hKx : va_K (dC, dI) cls ((List.flatten ([(tX6 p0_2k)] : List (List (ClassId × FieldType)))) ++ (List.flatten ([(tX7 p0k), (tX10 p0_1k)] : List (List (ClassId × FieldType))))) s := vK_fa (vK_perm hK (bP ((((List.Perm.refl _)).cons _).trans (List.Perm.swap _ _ _))))
            have hPc := vP_l hPx
            have hDc := vD_l hDx
            have hKc := vK_l hKx
            have hFc := vfree hDx hS hA
            refine va_callv (va_runV (As := [.int o_15, .int 0, .int 0]) (rest := []) ⟨hx, hb, hml, hown, hts⟩ (kX6_emit l dC dI (p0a := (st0 (p0a 3) p0_2a)) (p0k := p0_2k) (p0w := (o_13.2.2.2.1)) (p0l := p0_2l) (p1 := o_15) (p2 := 0) (p3 := 0) (sz := _) (o := o_17) (hrun := hc_17)) (cwV 3 hts (gi_V qw42 qw43 qw44 qw33 (gi_z qw41)) rfl rfl rfl (by decide +kernel) ⟨rmF (Nat.le_of_ble_eq_true rfl), rmL (Nat.le_of_ble_eq_true rfl)⟩) ⟨PRE.blind, va_recv hKc hPc (ci := 2) (q0 := 0) rfl rfl, PRE.of hE hS hFc hPc hKc hDc⟩ rfl rfl hl.1 rfl (lv_room (Nat.le_of_ble_eq_true rfl)) dX7_readTest_105 ⟨(Nat.le_of_ble_eq_true rfl), (Nat.le_of_ble_eq_true rfl)⟩) hS (fun q _ h => hFc q h) hFc (fun u t H locs ht hvm hw hB hz1 hk1 hS => ?_)
            obtain ⟨b1, b2, b3⟩ := hB
            rw [ht] at b1
            obtain ⟨hP, hD, hK⟩ := JOINC (wc := (List.flatten ([(oX6 (p0a 3) p0_2a p0_2k (o_13.2.2.2.1) p0_2l)] : List va_W))) (wr := (List.flatten ([(oX7 (p0a 0) p0a p0k (o_13.2.1) (o_13.2.2.1)), (oX10 (p0a 2) p0_1a p0_1k (o_13.2.2.2.2.1) (o_13.2.2.2.2.2))] : List va_W))) (w1 := (List.flatten ([(oX6 (p0a 3) p0_2a p0_2k o_17 p0_2l)] : List va_W))) (t1 := (List.flatten ([(tX6 p0_2k)] : List (List (ClassId × FieldType))))) hPx hDx hKx hk1 hFc b1 (va_K.moved hvm.symm b2) b3
            have hP : va_P (dC, dI) cls (List.flatten ([(oX7 (p0a 0) p0a p0k (o_13.2.1) (o_13.2.2.1)), (oX6 (p0a 3) p0_2a p0_2k o_17 p0_2l), (oX10 (p0a 2) p0_1a p0_1k (o_13.2.2.2.2.1) (o_13.2.2.2.2.2))] : List va_W)) H := vP_perm (vP_fb hP) (bP ((((List.Perm.refl _)).cons _).trans (List.Perm.swap _ _ _)))
            have hD : va_D A (List.flatten ([(oX7 (p0a 0) p0a p0k (o_13.2.1) (o_13.2.2.1)), (oX6 (p0a 3) p0_2a p0_2k o_17 p0_2l), (oX10 (p0a 2) p0_1a p0_1k (o_13.2.2.2.2.1) (o_13.2.2.2.2.2))] : List va_W)) := vD_perm (vD_fb hD) (bP ((((List.Perm.refl _)).cons _).trans (List.Perm.swap _ _ _)))
            have hK : va_K (dC, dI) cls (List.flatten ([(tX7 p0k), (tX6 p0_2k), (tX10 p0_1k)] : List (List (ClassId × FieldType)))) s := vK_perm (vK_fb hK) (bP ((((List.Perm.refl _)).cons _).trans (List.Perm.swap _ _ _)))
            exact J108 (o_13.1) (o_13.2.1) (o_13.2.2.1) o_17 (o_13.2.2.2.2.1) (o_13.2.2.2.2.2) _ _ _ hrun hP hD hK hS (lv_sub hl [3, 4, 5, 6, 7, 1, 0] rfl)
          · refine lv_icmp_ge (tgt := 87) hx hb dX7_readTest_74 (by decide) (fun c => absurd c hc12) (fun _ => ?_)
            refine lv_aload_n hx hb dX7_readTest_77 rfl (lv_at hl 2 rfl) ?_
            refine lv_iload_n hx hb dX7_readTest_78 rfl (lv_at hl 3 rfl) ?_
            obtain ⟨o_18, hc_18, hrun⟩ := bnd9 hrun
            have hPx : va_P (dC, dI) cls ((List.flatten ([(oX7 (p0a 0) p0a p0k p0w_17 p0l_17), (oX6 (p0a 3) p0_2a p0_2k o_8 p0_2l), (oX10 (p0a 2) p0_1a p0_1k (o_7.1) (o_7.2))] : List va_W)) ++ (List.flatten ([] : List va_W))) H := vP_fa (vP_perm hP (bP (List.Perm.refl _)))
            have hDx : va_D A ((List.flatten ([(oX7 (p0a 0) p0a p0k p0w_17 p0l_17), (oX6 (p0a 3) p0_2a p0_2k o_8 p0_2l), (oX10 (p0a 2) p0_1a p0_1k (o_7.1) (o_7.2))] : List va_W)) ++ (List.flatten ([] : List va_W))) := vD_fa (vD_perm hD (bP (List.Perm.refl _)))
            have hKx : va_K (dC, dI) cls ((List.flatten ([(tX7 p0k), (tX6 p0_2k), (tX10 p0_1k)] : List (List (ClassId × FieldType)))) ++ (List.flatten ([] : List (List (ClassId × FieldType))))) s := vK_fa (vK_perm hK (bP (List.Perm.refl _)))
            have hPc := vP_l hPx
            have hDc := vD_l hDx
            have hKc := vK_l hKx
            have hFc := vfree hDx hS hA
            refine va_calli (va_runV (As := [.int p1]) (rest := []) ⟨hx, hb, hml, hown, hts⟩ (hkk_readShortCut dC dI (p0a := p0a) (p0k := p0k) (p0w := p0w_17) (p0l := p0l_17) (p1 := p1) (aK := aK) (aV := aV) (p0_2a := p0_2a) (p0_2k := p0_2k) (p0_2w := o_8) (p0_2l := p0_2l) (p0_1a := p0_1a) (p0_1k := p0_1k) (p0_1w := (o_7.1)) (p0_1l := (o_7.2)) (sz := _) (o := o_18) (hrun := hc_18)) (cwV 1 hts (gi_V qw1450 qw1451 qw1452 qw65 (gi_z qw1449)) rfl rfl rfl (by decide +kernel) ⟨rmF9, rmL9 (n := 24) (Nat.le_of_ble_eq_true rfl)⟩) ⟨PRE.blind, va_recv hKc hPc (ci := 1) (q0 := 0) rfl rfl, PRE.of (ENV.add hE st9_m hro_st) hS hFc hPc hKc hDc⟩ rfl rfl hl.1 rfl (lv_room (Nat.le_of_ble_eq_true rfl)) dX7_readTest_79 ⟨(Nat.le_of_ble_eq_true rfl), (Nat.le_of_ble_eq_true rfl)⟩) hS (fun q _ h => hFc q h) hFc (fun r19 u t H locs ht hvm hw hB hz1 hk1 hS => ?_)
            obtain ⟨b1, b2, b3⟩ := hB
            rw [ht] at b1
            obtain ⟨hP, hD, hK⟩ := JOINC (wc := (List.flatten ([(oX7 (p0a 0) p0a p0k p0w_17 p0l_17), (oX6 (p0a 3) p0_2a p0_2k o_8 p0_2l), (oX10 (p0a 2) p0_1a p0_1k (o_7.1) (o_7.2))] : List va_W))) (wr := (List.flatten ([] : List va_W))) (w1 := (List.flatten ([(oX7 (p0a 0) p0a p0k (o_18.2.1) (o_18.2.2.1)), (oX6 (p0a 3) p0_2a p0_2k (o_18.2.2.2.1) p0_2l), (oX10 (p0a 2) p0_1a p0_1k (o_18.2.2.2.2.1) (o_18.2.2.2.2.2))] : List va_W))) (t1 := (List.flatten ([(tX7 p0k), (tX6 p0_2k), (tX10 p0_1k)] : List (List (ClassId × FieldType))))) hPx hDx hKx hk1 hFc b1 (va_K.moved hvm.symm b2) b3
            have hP : va_P (dC, dI) cls (List.flatten ([(oX7 (p0a 0) p0a p0k (o_18.2.1) (o_18.2.2.1)), (oX6 (p0a 3) p0_2a p0_2k (o_18.2.2.2.1) p0_2l), (oX10 (p0a 2) p0_1a p0_1k (o_18.2.2.2.2.1) (o_18.2.2.2.2.2))] : List va_W)) H := vP_perm (vP_fb hP) (bP (List.Perm.refl _))
            have hD : va_D A (List.flatten ([(oX7 (p0a 0) p0a p0k (o_18.2.1) (o_18.2.2.1)), (oX6 (p0a 3) p0_2a p0_2k (o_18.2.2.2.1) p0_2l), (oX10 (p0a 2) p0_1a p0_1k (o_18.2.2.2.2.1) (o_18.2.2.2.2.2))] : List va_W)) := vD_perm (vD_fb hD) (bP (List.Perm.refl _))
            have hK : va_K (dC, dI) cls (List.flatten ([(tX7 p0k), (tX6 p0_2k), (tX10 p0_1k)] : List (List (ClassId × FieldType)))) s := vK_perm (vK_fb hK) (bP (List.Perm.refl _))
            obtain rfl : r19 = (o_18.1) := hw
            refine lv_istore (lv' := [(7, .int (o_18.1)), (6, .int (p0_1w_17 0 3)), (5, .int (p0_1w_17 0 2)), (0, .ref (p0a 0)), (1, .int p1), (2, .int (p0_2w 0 7)), (3, .int v3_17), (4, .int v4_17)]) hx hb dX7_readTest_82 hl (by decide) rfl (fun ls hl => ?_)
            refine lv_goto (tgt := 108) hx hb dX7_readTest_84 (by decide) ?_
            exact J108 (o_18.1) (o_18.2.1) (o_18.2.2.1) (o_18.2.2.2.1) (o_18.2.2.2.2.1) (o_18.2.2.2.2.2) _ _ _ hrun hP hD hK hS (lv_sub hl [3, 4, 5, 6, 7, 1, 0] rfl)
        · refine lv_icmp_ne (tgt := 135) hx hb dX7_readTest_36 (by decide) (fun _ => ?_) (fun c => absurd c hc6)
          obtain rfl := (Option.some.inj hrun)
          exact hk17 _ _ _ hP hD hK hS (lv_sub hl [3] rfl)
  obtain ⟨o17, hc17, hrun⟩ := bnd9 hrun
  refine L17 NF (o_1.1) 0 (o_1.2.1) (o_1.2.2.1) (o_1.2.2.2.1) (o_1.2.2.2.2.1) (o_1.2.2.2.2.2) o17 _ _ _ hc17 hP hD hK hS (lv_sub hl [3, 4, 2, 1, 0] rfl) ?_
  intro H locs ls hP hD hK hS hl
  have hl := hl
  refine lv_iload_n hx hb dX7_readTest_135 rfl (lv_at hl 0 rfl) ?_
  have ho9 : ((o17.1), (o17.2.1), (o17.2.2.1), (o17.2.2.2.1), (o17.2.2.2.2.1), (o17.2.2.2.2.2)) = o := Option.some.inj hrun
  have hP9 : va_P (dC, dI) cls (List.flatten ([(oX7 (p0a 0) p0a p0k (o.2.1) (o.2.2.1)), (oX6 (p0a 3) p0_2a p0_2k (o.2.2.2.1) p0_2l), (oX10 (p0a 2) p0_1a p0_1k (o.2.2.2.2.1) (o.2.2.2.2.2))] : List va_W)) H := by first | exact hP | (rw [← ho9]; exact hP)
  have hD9 : va_D A (List.flatten ([(oX7 (p0a 0) p0a p0k (o.2.1) (o.2.2.1)), (oX6 (p0a 3) p0_2a p0_2k (o.2.2.2.1) p0_2l), (oX10 (p0a 2) p0_1a p0_1k (o.2.2.2.2.1) (o.2.2.2.2.2))] : List va_W)) := by first | exact hD | (rw [← ho9]; exact hD)
  subst hQ
  exact W.iret (v := (o17.1)) hx hb hr (fun t ht hW => ⟨⟨(o17.1), (), rfl, (by rw [← ho9]), ⟨by rw [ht]; exact hP9, va_K.moved hW.alike hK, hD9⟩⟩, hS.F ht⟩) hS.2.2 dX7_readTest_136
set_option maxHeartbeats 16000000 in
set_option maxRecDepth 100000 in
theorem kX7_readOperand {zs : ZS} (l : Launch) (kk_readSigned : ST → SL → ST → SL → ST → SL → Option (Int32 × ST × SL × ST × ST × SL)) (kk_readTest : ST → SL → Int32 → ST → SL → ST → SL → Option (Int32 × ST × SL × ST × ST × SL)) (F9 L9 : Nat) (hkk_readSigned : ∀ {zs : ZS} (dC : Nat → ClassId) (dI : Nat → Nat → Nat) (p0a : Nat → Nat) (p0k : Nat → ClassId) (p0w : ST) (p0l : SL) (aK : Nat → Nat) (aV : Nat → Nat) (p0_2a : Nat → Nat) (p0_2k : Nat → ClassId) (p0_2w : ST) (p0_2l : SL) (p0_1a : Nat → Nat) (p0_1k : Nat → ClassId) (p0_1w : ST) (p0_1l : SL) (sz : Nat) (o : Int32 × ST × SL × ST × ST × SL) (hrun : kk_readSigned p0w p0l p0_2w p0_2l p0_1w p0_1l = some o), Met l yX7_readSigned (wz yX7_readSigned cX7_readSigned 5 (Option.some Jvm.ClassFile.FieldType.int)) ({ frames := F9, cells := 0, slots := 0, locals := L9 } : Room) (va_Pc [.ref (p0a 0)] (PRE (zA zs (st9 aK aV)) dC dI (List.flatten ([(oX7 (p0a 0) p0a p0k p0w p0l), (oX6 (p0a 3) p0_2a p0_2k p0_2w p0_2l), (oX10 (p0a 2) p0_1a p0_1k p0_1w p0_1l)] : List va_W)) (List.flatten ([(tX7 p0k), (tX6 p0_2k), (tX10 p0_1k)] : List (List (ClassId × FieldType)))) sz)) (va_Qi (fun (r : Int32) (_ : Unit) => r = (o.1)) (fun _ t => POST dC dI (List.flatten ([(oX7 (p0a 0) p0a p0k (o.2.1) (o.2.2.1)), (oX6 (p0a 3) p0_2a p0_2k (o.2.2.2.1) p0_2l), (oX10 (p0a 2) p0_1a p0_1k (o.2.2.2.2.1) (o.2.2.2.2.2))] : List va_W)) (List.flatten ([(tX7 p0k), (tX6 p0_2k), (tX10 p0_1k)] : List (List (ClassId × FieldType)))) (va_A (List.flatten ([(oX7 (p0a 0) p0a p0k p0w p0l), (oX6 (p0a 3) p0_2a p0_2k p0_2w p0_2l), (oX10 (p0a 2) p0_1a p0_1k p0_1w p0_1l)] : List va_W)) sz) t) (va_A (List.flatten ([(oX7 (p0a 0) p0a p0k p0w p0l), (oX6 (p0a 3) p0_2a p0_2k p0_2w p0_2l), (oX10 (p0a 2) p0_1a p0_1k p0_1w p0_1l)] : List va_W)) sz)) 0 0 (va_A (List.flatten ([(oX7 (p0a 0) p0a p0k p0w p0l), (oX6 (p0a 3) p0_2a p0_2k p0_2w p0_2l), (oX10 (p0a 2) p0_1a p0_1k p0_1w p0_1l)] : List va_W)) sz)) (hkk_readTest : ∀ {zs : ZS} (dC : Nat → ClassId) (dI : Nat → Nat → Nat) (p0a : Nat → Nat) (p0k : Nat → ClassId) (p0w : ST) (p0l : SL) (p1 : Int32) (aK : Nat → Nat) (aV : Nat → Nat) (p0_2a : Nat → Nat) (p0_2k : Nat → ClassId) (p0_2w : ST) (p0_2l : SL) (p0_1a : Nat → Nat) (p0_1k : Nat → ClassId) (p0_1w : ST) (p0_1l : SL) (sz : Nat) (o : Int32 × ST × SL × ST × ST × SL) (hrun : kk_readTest p0w p0l p1 p0_2w p0_2l p0_1w p0_1l = some o), Met l yX7_readTest (wz yX7_readTest cX7_readTest 8 (Option.some Jvm.ClassFile.FieldType.int)) ({ frames := F9, cells := 0, slots := 0, locals := L9 } : Room) (va_Pc [.ref (p0a 0), .int p1] (PRE (zA zs (st9 aK aV)) dC dI (List.flatten ([(oX7 (p0a 0) p0a p0k p0w p0l), (oX6 (p0a 3) p0_2a p0_2k p0_2w p0_2l), (oX10 (p0a 2) p0_1a p0_1k p0_1w p0_1l)] : List va_W)) (List.flatten ([(tX7 p0k), (tX6 p0_2k), (tX10 p0_1k)] : List (List (ClassId × FieldType)))) sz)) (va_Qi (fun (r : Int32) (_ : Unit) => r = (o.1)) (fun _ t => POST dC dI (List.flatten ([(oX7 (p0a 0) p0a p0k (o.2.1) (o.2.2.1)), (oX6 (p0a 3) p0_2a p0_2k (o.2.2.2.1) p0_2l), (oX10 (p0a 2) p0_1a p0_1k (o.2.2.2.2.1) (o.2.2.2.2.2))] : List va_W)) (List.flatten ([(tX7 p0k), (tX6 p0_2k), (tX10 p0_1k)] : List (List (ClassId × FieldType)))) (va_A (List.flatten ([(oX7 (p0a 0) p0a p0k p0w p0l), (oX6 (p0a 3) p0_2a p0_2k p0_2w p0_2l), (oX10 (p0a 2) p0_1a p0_1k p0_1w p0_1l)] : List va_W)) sz) t) (va_A (List.flatten ([(oX7 (p0a 0) p0a p0k p0w p0l), (oX6 (p0a 3) p0_2a p0_2k p0_2w p0_2l), (oX10 (p0a 2) p0_1a p0_1k p0_1w p0_1l)] : List va_W)) sz)) 0 0 (va_A (List.flatten ([(oX7 (p0a 0) p0a p0k p0w p0l), (oX6 (p0a 3) p0_2a p0_2k p0_2w p0_2l), (oX10 (p0a 2) p0_1a p0_1k p0_1w p0_1l)] : List va_W)) sz)) (dC : Nat → ClassId) (dI : Nat → Nat → Nat) (p0a : Nat → Nat) (p0k : Nat → ClassId) (p0w : ST) (p0l : SL) (p1 : Int32) (aK : Nat → Nat) (aV : Nat → Nat) (p0_2a : Nat → Nat) (p0_2k : Nat → ClassId) (p0_2w : ST) (p0_2l : SL) (p0_1a : Nat → Nat) (p0_1k : Nat → ClassId) (p0_1w : ST) (p0_1l : SL) (sz : Nat) (o : Int32 × ST × SL × ST × ST × SL) (hrun : fX7_readOperand kk_readSigned kk_readTest p0w p0l p1 p0_2w p0_2l p0_1w p0_1l = some o) : Met l yX7_readOperand (wz yX7_readOperand cX7_readOperand 2 (Option.some Jvm.ClassFile.FieldType.int)) ({ frames := F9 + 8, cells := 0, slots := 0, locals := L9 + 400 } : Room) (va_Pc [.ref (p0a 0), .int p1] (PRE (zA zs (st9 aK aV)) dC dI (List.flatten ([(oX7 (p0a 0) p0a p0k p0w p0l), (oX6 (p0a 3) p0_2a p0_2k p0_2w p0_2l), (oX10 (p0a 2) p0_1a p0_1k p0_1w p0_1l)] : List va_W)) (List.flatten ([(tX7 p0k), (tX6 p0_2k), (tX10 p0_1k)] : List (List (ClassId × FieldType)))) sz)) (va_Qi (fun (r : Int32) (_ : Unit) => r = (o.1)) (fun _ t => POST dC dI (List.flatten ([(oX7 (p0a 0) p0a p0k (o.2.1) (o.2.2.1)), (oX6 (p0a 3) p0_2a p0_2k (o.2.2.2.1) p0_2l), (oX10 (p0a 2) p0_1a p0_1k (o.2.2.2.2.1) (o.2.2.2.2.2))] : List va_W)) (List.flatten ([(tX7 p0k), (tX6 p0_2k), (tX10 p0_1k)] : List (List (ClassId × FieldType)))) (va_A (List.flatten ([(oX7 (p0a 0) p0a p0k p0w p0l), (oX6 (p0a 3) p0_2a p0_2k p0_2w p0_2l), (oX10 (p0a 2) p0_1a p0_1k p0_1w p0_1l)] : List va_W)) sz) t) (va_A (List.flatten ([(oX7 (p0a 0) p0a p0k p0w p0l), (oX6 (p0a 3) p0_2a p0_2k p0_2w p0_2l), (oX10 (p0a 2) p0_1a p0_1k p0_1w p0_1l)] : List va_W)) sz)) 0 0 (va_A (List.flatten ([(oX7 (p0a 0) p0a p0k p0w p0l), (oX6 (p0a 3) p0_2a p0_2k p0_2w p0_2l), (oX10 (p0a 2) p0_1a p0_1k p0_1w p0_1l)] : List va_W)) sz) := by
  refine Met.ofW (cc := cX7_readOperand) (maxL := 2) (ret := (Option.some Jvm.ClassFile.FieldType.int)) (by decide) rfl ?_
  intro p e s m args below meth c s₁ B hml hv
  obtain ⟨rfl, hsz, hP, hK, hD0, hE⟩ := hv
  have hx := B.exec
  have hb := B.bytes
  have hr := B.returns
  have hts0 := atoms_spec (ws := wz yX7_readOperand cX7_readOperand 2 (Option.some Jvm.ClassFile.FieldType.int)) B.pre
  have hts : ∀ w ∈ gw, w.before _ s = true := fun w h => hts0 w (List.mem_cons_of_mem _ h)
  have hown : s.vm.findClass RX7 = some m.cls := findClass_of_methodNamed B.named
  have hlocks := B.notSynchronized
  subst hsz
  have hD := hD0.self (sz := s.heap.size)
  refine gQ9 ?_
  intro Q hQ
  generalize hAe : va_A (List.flatten ([(oX7 (p0a 0) p0a p0k p0w p0l), (oX6 (p0a 3) p0_2a p0_2k p0_2w p0_2l), (oX10 (p0a 2) p0_1a p0_1k p0_1w p0_1l)] : List va_W)) s.heap.size = A at hD hE hQ
  have hA : ∀ q : Nat, s.heap.size ≤ q → A q := fun q h => by rw [← hAe]; exact Or.inr h
  have hro := ENV.ex hE
  have hro_st := hro.2
  replace hro := hro.1
  have hS : va_S A s.heap s.heap [] := va_S.rf
  have hP : va_P (dC, dI) cls (List.flatten ([(oX7 (p0a 0) p0a p0k p0w p0l), (oX6 (p0a 3) p0_2a p0_2k p0_2w p0_2l), (oX10 (p0a 2) p0_1a p0_1k p0_1w p0_1l)] : List va_W)) s.heap := hP
  have hl := lv_entry ([.ref (p0a 0), .int p1]) (n := 2) (Nat.le_of_ble_eq_true rfl)
  rw [lg_entry_eq]
  generalize (lg_sl ([.ref (p0a 0), .int p1]) ++ List.replicate (2 - (lg_sl ([.ref (p0a 0), .int p1])).length) Slot.unset).toArray = ls at hl ⊢
  have hl : lv_has ls 2 [(0, .ref (p0a 0)), (1, .int p1)] := hl
  obtain ⟨H, hHe⟩ : ∃ H, H = s.heap := ⟨_, rfl⟩
  obtain ⟨locs, hle⟩ : ∃ locs : List Loc, locs = [] := ⟨_, rfl⟩
  rw [← hHe] at hP
  have hS : va_S A s.heap H locs := by rw [hHe, hle]; exact hS
  show W p l e ({ frames := F9 + 8, cells := 0, slots := 0, locals := L9 + 400 } : Room) s m ([.ref (p0a 0), .int p1] : List Value).toArray below meth c s.heap [] 0 0 Q (F0 m 0 ls [])
  rw [← hle]
  refine wH9 hHe ?_
  unfold fX7_readOperand at hrun
  refine lv_iload_n hx hb dX7_readOperand_0 rfl (lv_at hl 1 rfl) ?_
  refine lv_iconst (v := 4) hx hb dX7_readOperand_1 (by decide) ?_
  have J19 : ∀ (y0_19 : Int32) (p0w_19 : ST) (p0l_19 : SL) (p0_2w_19 : ST) (p0_1w_19 : ST) (p0_1l_19 : SL) (H : Heap) (locs : List Loc) (ls : Array Slot), (fX7_readOperand_J19 y0_19 p0w_19 p0l_19 p0_2w_19 p0_1w_19 p0_1l_19) = some o → va_P (dC, dI) cls (List.flatten ([(oX7 (p0a 0) p0a p0k p0w_19 p0l_19), (oX6 (p0a 3) p0_2a p0_2k p0_2w_19 p0_2l), (oX10 (p0a 2) p0_1a p0_1k p0_1w_19 p0_1l_19)] : List va_W)) H → va_D A (List.flatten ([(oX7 (p0a 0) p0a p0k p0w_19 p0l_19), (oX6 (p0a 3) p0_2a p0_2k p0_2w_19 p0_2l), (oX10 (p0a 2) p0_1a p0_1k p0_1w_19 p0_1l_19)] : List va_W)) → va_K (dC, dI) cls (List.flatten ([(tX7 p0k), (tX6 p0_2k), (tX10 p0_1k)] : List (List (ClassId × FieldType)))) s → va_S A s.heap H locs → lv_has ls 2 [] → W p l e ({ frames := F9 + 8, cells := 0, slots := 0, locals := L9 + 400 } : Room) s m ([.ref (p0a 0), .int p1] : List Value).toArray below meth c H locs 0 0 Q (F0 m 19 ls [.int y0_19]) := by
    intro y0_19 p0w_19 p0l_19 p0_2w_19 p0_1w_19 p0_1l_19 H locs ls hrun hP hD hK hS hl 
    unfold fX7_readOperand_J19 at hrun
    have ho9 : (y0_19, p0w_19, p0l_19, p0_2w_19, p0_1w_19, p0_1l_19) = o := Option.some.inj hrun
    have hP9 : va_P (dC, dI) cls (List.flatten ([(oX7 (p0a 0) p0a p0k (o.2.1) (o.2.2.1)), (oX6 (p0a 3) p0_2a p0_2k (o.2.2.2.1) p0_2l), (oX10 (p0a 2) p0_1a p0_1k (o.2.2.2.2.1) (o.2.2.2.2.2))] : List va_W)) H := by first | exact hP | (rw [← ho9]; exact hP)
    have hD9 : va_D A (List.flatten ([(oX7 (p0a 0) p0a p0k (o.2.1) (o.2.2.1)), (oX6 (p0a 3) p0_2a p0_2k (o.2.2.2.1) p0_2l), (oX10 (p0a 2) p0_1a p0_1k (o.2.2.2.2.1) (o.2.2.2.2.2))] : List va_W)) := by first | exact hD | (rw [← ho9]; exact hD)
    subst hQ
    exact W.iret (v := y0_19) hx hb hr (fun t ht hW => ⟨⟨y0_19, (), rfl, (by rw [← ho9]), ⟨by rw [ht]; exact hP9, va_K.moved hW.alike hK, hD9⟩⟩, hS.F ht⟩) hS.2.2 dX7_readOperand_19
  rcases br9 hrun with ⟨hc1, hrun⟩ | ⟨hc1, hrun⟩
  · refine lv_icmp_ne (tgt := 12) hx hb dX7_readOperand_2 (by decide) (fun c => absurd hc1 c) (fun _ => ?_)
    refine lv_aload_n hx hb dX7_readOperand_5 rfl (lv_at hl 0 rfl) ?_
    obtain ⟨o_2, hc_2, hrun⟩ := bnd9 hrun
    have hPx : va_P (dC, dI) cls ((List.flatten ([(oX7 (p0a 0) p0a p0k p0w p0l), (oX6 (p0a 3) p0_2a p0_2k p0_2w p0_2l), (oX10 (p0a 2) p0_1a p0_1k p0_1w p0_1l)] : List va_W)) ++ (List.flatten ([] : List va_W))) H := vP_fa (vP_perm hP (bP (List.Perm.refl _)))
    have hDx : va_D A ((List.flatten ([(oX7 (p0a 0) p0a p0k p0w p0l), (oX6 (p0a 3) p0_2a p0_2k p0_2w p0_2l), (oX10 (p0a 2) p0_1a p0_1k p0_1w p0_1l)] : List va_W)) ++ (List.flatten ([] : List va_W))) := vD_fa (vD_perm hD (bP (List.Perm.refl _)))
    have hKx : va_K (dC, dI) cls ((List.flatten ([(tX7 p0k), (tX6 p0_2k), (tX10 p0_1k)] : List (List (ClassId × FieldType)))) ++ (List.flatten ([] : List (List (ClassId × FieldType))))) s := vK_fa (vK_perm hK (bP (List.Perm.refl _)))
    have hPc := vP_l hPx
    have hDc := vD_l hDx
    have hKc := vK_l hKx
    have hFc := vfree hDx hS hA
    refine va_calli (va_runV (As := []) (rest := []) ⟨hx, hb, hml, hown, hts⟩ (hkk_readSigned dC dI (p0a := p0a) (p0k := p0k) (p0w := p0w) (p0l := p0l) (aK := aK) (aV := aV) (p0_2a := p0_2a) (p0_2k := p0_2k) (p0_2w := p0_2w) (p0_2l := p0_2l) (p0_1a := p0_1a) (p0_1k := p0_1k) (p0_1w := p0_1w) (p0_1l := p0_1l) (sz := _) (o := o_2) (hrun := hc_2)) (cwV 0 hts (gi_V qw1454 qw1455 qw1456 qw65 (gi_z qw1453)) rfl rfl rfl (by decide +kernel) ⟨rmF9, rmL9 (n := 24) (Nat.le_of_ble_eq_true rfl)⟩) ⟨PRE.blind, va_recv hKc hPc (ci := 1) (q0 := 0) rfl rfl, PRE.of (ENV.add hE st9_m hro_st) hS hFc hPc hKc hDc⟩ rfl rfl hl.1 rfl (lv_room (Nat.le_of_ble_eq_true rfl)) dX7_readOperand_6 ⟨(Nat.le_of_ble_eq_true rfl), (Nat.le_of_ble_eq_true rfl)⟩) hS (fun q _ h => hFc q h) hFc (fun r3 u t H locs ht hvm hw hB hz1 hk1 hS => ?_)
    obtain ⟨b1, b2, b3⟩ := hB
    rw [ht] at b1
    obtain ⟨hP, hD, hK⟩ := JOINC (wc := (List.flatten ([(oX7 (p0a 0) p0a p0k p0w p0l), (oX6 (p0a 3) p0_2a p0_2k p0_2w p0_2l), (oX10 (p0a 2) p0_1a p0_1k p0_1w p0_1l)] : List va_W))) (wr := (List.flatten ([] : List va_W))) (w1 := (List.flatten ([(oX7 (p0a 0) p0a p0k (o_2.2.1) (o_2.2.2.1)), (oX6 (p0a 3) p0_2a p0_2k (o_2.2.2.2.1) p0_2l), (oX10 (p0a 2) p0_1a p0_1k (o_2.2.2.2.2.1) (o_2.2.2.2.2.2))] : List va_W))) (t1 := (List.flatten ([(tX7 p0k), (tX6 p0_2k), (tX10 p0_1k)] : List (List (ClassId × FieldType))))) hPx hDx hKx hk1 hFc b1 (va_K.moved hvm.symm b2) b3
    have hP : va_P (dC, dI) cls (List.flatten ([(oX7 (p0a 0) p0a p0k (o_2.2.1) (o_2.2.2.1)), (oX6 (p0a 3) p0_2a p0_2k (o_2.2.2.2.1) p0_2l), (oX10 (p0a 2) p0_1a p0_1k (o_2.2.2.2.2.1) (o_2.2.2.2.2.2))] : List va_W)) H := vP_perm (vP_fb hP) (bP (List.Perm.refl _))
    have hD : va_D A (List.flatten ([(oX7 (p0a 0) p0a p0k (o_2.2.1) (o_2.2.2.1)), (oX6 (p0a 3) p0_2a p0_2k (o_2.2.2.2.1) p0_2l), (oX10 (p0a 2) p0_1a p0_1k (o_2.2.2.2.2.1) (o_2.2.2.2.2.2))] : List va_W)) := vD_perm (vD_fb hD) (bP (List.Perm.refl _))
    have hK : va_K (dC, dI) cls (List.flatten ([(tX7 p0k), (tX6 p0_2k), (tX10 p0_1k)] : List (List (ClassId × FieldType)))) s := vK_perm (vK_fb hK) (bP (List.Perm.refl _))
    obtain rfl : r3 = (o_2.1) := hw
    refine lv_goto (tgt := 19) hx hb dX7_readOperand_9 (by decide) ?_
    exact J19 (o_2.1) (o_2.2.1) (o_2.2.2.1) (o_2.2.2.2.1) (o_2.2.2.2.2.1) (o_2.2.2.2.2.2) _ _ _ hrun hP hD hK hS (lv_sub hl [] rfl)
  · refine lv_icmp_ne (tgt := 12) hx hb dX7_readOperand_2 (by decide) (fun _ => ?_) (fun c => absurd c hc1)
    refine lv_aload_n hx hb dX7_readOperand_12 rfl (lv_at hl 0 rfl) ?_
    refine lv_iload_n hx hb dX7_readOperand_13 rfl (lv_at hl 1 rfl) ?_
    refine lv_iconst (v := 1) hx hb dX7_readOperand_14 (by decide) ?_
    refine lv_iadd hx hb dX7_readOperand_15 ?_
    obtain ⟨o_4, hc_4, hrun⟩ := bnd9 hrun
    have hPx : va_P (dC, dI) cls ((List.flatten ([(oX7 (p0a 0) p0a p0k p0w p0l), (oX6 (p0a 3) p0_2a p0_2k p0_2w p0_2l), (oX10 (p0a 2) p0_1a p0_1k p0_1w p0_1l)] : List va_W)) ++ (List.flatten ([] : List va_W))) H := vP_fa (vP_perm hP (bP (List.Perm.refl _)))
    have hDx : va_D A ((List.flatten ([(oX7 (p0a 0) p0a p0k p0w p0l), (oX6 (p0a 3) p0_2a p0_2k p0_2w p0_2l), (oX10 (p0a 2) p0_1a p0_1k p0_1w p0_1l)] : List va_W)) ++ (List.flatten ([] : List va_W))) := vD_fa (vD_perm hD (bP (List.Perm.refl _)))
    have hKx : va_K (dC, dI) cls ((List.flatten ([(tX7 p0k), (tX6 p0_2k), (tX10 p0_1k)] : List (List (ClassId × FieldType)))) ++ (List.flatten ([] : List (List (ClassId × FieldType))))) s := vK_fa (vK_perm hK (bP (List.Perm.refl _)))
    have hPc := vP_l hPx
    have hDc := vD_l hDx
    have hKc := vK_l hKx
    have hFc := vfree hDx hS hA
    refine va_calli (va_runV (As := [.int (p1 + 1)]) (rest := []) ⟨hx, hb, hml, hown, hts⟩ (hkk_readTest dC dI (p0a := p0a) (p0k := p0k) (p0w := p0w) (p0l := p0l) (p1 := (p1 + 1)) (aK := aK) (aV := aV) (p0_2a := p0_2a) (p0_2k := p0_2k) (p0_2w := p0_2w) (p0_2l := p0_2l) (p0_1a := p0_1a) (p0_1k := p0_1k) (p0_1w := p0_1w) (p0_1l := p0_1l) (sz := _) (o := o_4) (hrun := hc_4)) (cwV 1 hts (gi_V qw1410 qw1411 qw1412 qw65 (gi_z qw1409)) rfl rfl rfl (by decide +kernel) ⟨rmF9, rmL9 (n := 27) (Nat.le_of_ble_eq_true rfl)⟩) ⟨PRE.blind, va_recv hKc hPc (ci := 1) (q0 := 0) rfl rfl, PRE.of (ENV.add hE st9_m hro_st) hS hFc hPc hKc hDc⟩ rfl rfl hl.1 rfl (lv_room (Nat.le_of_ble_eq_true rfl)) dX7_readOperand_16 ⟨(Nat.le_of_ble_eq_true rfl), (Nat.le_of_ble_eq_true rfl)⟩) hS (fun q _ h => hFc q h) hFc (fun r5 u t H locs ht hvm hw hB hz1 hk1 hS => ?_)
    obtain ⟨b1, b2, b3⟩ := hB
    rw [ht] at b1
    obtain ⟨hP, hD, hK⟩ := JOINC (wc := (List.flatten ([(oX7 (p0a 0) p0a p0k p0w p0l), (oX6 (p0a 3) p0_2a p0_2k p0_2w p0_2l), (oX10 (p0a 2) p0_1a p0_1k p0_1w p0_1l)] : List va_W))) (wr := (List.flatten ([] : List va_W))) (w1 := (List.flatten ([(oX7 (p0a 0) p0a p0k (o_4.2.1) (o_4.2.2.1)), (oX6 (p0a 3) p0_2a p0_2k (o_4.2.2.2.1) p0_2l), (oX10 (p0a 2) p0_1a p0_1k (o_4.2.2.2.2.1) (o_4.2.2.2.2.2))] : List va_W))) (t1 := (List.flatten ([(tX7 p0k), (tX6 p0_2k), (tX10 p0_1k)] : List (List (ClassId × FieldType))))) hPx hDx hKx hk1 hFc b1 (va_K.moved hvm.symm b2) b3
    have hP : va_P (dC, dI) cls (List.flatten ([(oX7 (p0a 0) p0a p0k (o_4.2.1) (o_4.2.2.1)), (oX6 (p0a 3) p0_2a p0_2k (o_4.2.2.2.1) p0_2l), (oX10 (p0a 2) p0_1a p0_1k (o_4.2.2.2.2.1) (o_4.2.2.2.2.2))] : List va_W)) H := vP_perm (vP_fb hP) (bP (List.Perm.refl _))
    have hD : va_D A (List.flatten ([(oX7 (p0a 0) p0a p0k (o_4.2.1) (o_4.2.2.1)), (oX6 (p0a 3) p0_2a p0_2k (o_4.2.2.2.1) p0_2l), (oX10 (p0a 2) p0_1a p0_1k (o_4.2.2.2.2.1) (o_4.2.2.2.2.2))] : List va_W)) := vD_perm (vD_fb hD) (bP (List.Perm.refl _))
    have hK : va_K (dC, dI) cls (List.flatten ([(tX7 p0k), (tX6 p0_2k), (tX10 p0_1k)] : List (List (ClassId × FieldType)))) s := vK_perm (vK_fb hK) (bP (List.Perm.refl _))
    obtain rfl : r5 = (o_4.1) := hw
    exact J19 (o_4.1) (o_4.2.1) (o_4.2.2.1) (o_4.2.2.2.1) (o_4.2.2.2.2.1) (o_4.2.2.2.2.2) _ _ _ hrun hP hD hK hS (lv_sub hl [] rfl)
set_option maxHeartbeats 16000000 in
set_option maxRecDepth 100000 in
theorem kX7_readShortCut {zs : ZS} (l : Launch) (kk_readOperand : ST → SL → Int32 → ST → SL → ST → SL → Option (Int32 × ST × SL × ST × ST × SL)) (F9 L9 : Nat) (hkk_readOperand : ∀ {zs : ZS} (dC : Nat → ClassId) (dI : Nat → Nat → Nat) (p0a : Nat → Nat) (p0k : Nat → ClassId) (p0w : ST) (p0l : SL) (p1 : Int32) (aK : Nat → Nat) (aV : Nat → Nat) (p0_2a : Nat → Nat) (p0_2k : Nat → ClassId) (p0_2w : ST) (p0_2l : SL) (p0_1a : Nat → Nat) (p0_1k : Nat → ClassId) (p0_1w : ST) (p0_1l : SL) (sz : Nat) (o : Int32 × ST × SL × ST × ST × SL) (hrun : kk_readOperand p0w p0l p1 p0_2w p0_2l p0_1w p0_1l = some o), Met l yX7_readOperand (wz yX7_readOperand cX7_readOperand 2 (Option.some Jvm.ClassFile.FieldType.int)) ({ frames := F9, cells := 0, slots := 0, locals := L9 } : Room) (va_Pc [.ref (p0a 0), .int p1] (PRE (zA zs (st9 aK aV)) dC dI (List.flatten ([(oX7 (p0a 0) p0a p0k p0w p0l), (oX6 (p0a 3) p0_2a p0_2k p0_2w p0_2l), (oX10 (p0a 2) p0_1a p0_1k p0_1w p0_1l)] : List va_W)) (List.flatten ([(tX7 p0k), (tX6 p0_2k), (tX10 p0_1k)] : List (List (ClassId × FieldType)))) sz)) (va_Qi (fun (r : Int32) (_ : Unit) => r = (o.1)) (fun _ t => POST dC dI (List.flatten ([(oX7 (p0a 0) p0a p0k (o.2.1) (o.2.2.1)), (oX6 (p0a 3) p0_2a p0_2k (o.2.2.2.1) p0_2l), (oX10 (p0a 2) p0_1a p0_1k (o.2.2.2.2.1) (o.2.2.2.2.2))] : List va_W)) (List.flatten ([(tX7 p0k), (tX6 p0_2k), (tX10 p0_1k)] : List (List (ClassId × FieldType)))) (va_A (List.flatten ([(oX7 (p0a 0) p0a p0k p0w p0l), (oX6 (p0a 3) p0_2a p0_2k p0_2w p0_2l), (oX10 (p0a 2) p0_1a p0_1k p0_1w p0_1l)] : List va_W)) sz) t) (va_A (List.flatten ([(oX7 (p0a 0) p0a p0k p0w p0l), (oX6 (p0a 3) p0_2a p0_2k p0_2w p0_2l), (oX10 (p0a 2) p0_1a p0_1k p0_1w p0_1l)] : List va_W)) sz)) 0 0 (va_A (List.flatten ([(oX7 (p0a 0) p0a p0k p0w p0l), (oX6 (p0a 3) p0_2a p0_2k p0_2w p0_2l), (oX10 (p0a 2) p0_1a p0_1k p0_1w p0_1l)] : List va_W)) sz)) (dC : Nat → ClassId) (dI : Nat → Nat → Nat) (p0a : Nat → Nat) (p0k : Nat → ClassId) (p0w : ST) (p0l : SL) (p1 : Int32) (aK : Nat → Nat) (aV : Nat → Nat) (p0_2a : Nat → Nat) (p0_2k : Nat → ClassId) (p0_2w : ST) (p0_2l : SL) (p0_1a : Nat → Nat) (p0_1k : Nat → ClassId) (p0_1w : ST) (p0_1l : SL) (sz : Nat) (o : Int32 × ST × SL × ST × ST × SL) (hrun : fX7_readShortCut kk_readOperand p0w p0l p1 p0_2w p0_2l p0_1w p0_1l = some o) : Met l yX7_readShortCut (wz yX7_readShortCut cX7_readShortCut 5 (Option.some Jvm.ClassFile.FieldType.int)) ({ frames := F9 + 8, cells := 0, slots := 0, locals := L9 + 400 } : Room) (va_Pc [.ref (p0a 0), .int p1] (PRE (zA zs (st9 aK aV)) dC dI (List.flatten ([(oX7 (p0a 0) p0a p0k p0w p0l), (oX6 (p0a 3) p0_2a p0_2k p0_2w p0_2l), (oX10 (p0a 2) p0_1a p0_1k p0_1w p0_1l)] : List va_W)) (List.flatten ([(tX7 p0k), (tX6 p0_2k), (tX10 p0_1k)] : List (List (ClassId × FieldType)))) sz)) (va_Qi (fun (r : Int32) (_ : Unit) => r = (o.1)) (fun _ t => POST dC dI (List.flatten ([(oX7 (p0a 0) p0a p0k (o.2.1) (o.2.2.1)), (oX6 (p0a 3) p0_2a p0_2k (o.2.2.2.1) p0_2l), (oX10 (p0a 2) p0_1a p0_1k (o.2.2.2.2.1) (o.2.2.2.2.2))] : List va_W)) (List.flatten ([(tX7 p0k), (tX6 p0_2k), (tX10 p0_1k)] : List (List (ClassId × FieldType)))) (va_A (List.flatten ([(oX7 (p0a 0) p0a p0k p0w p0l), (oX6 (p0a 3) p0_2a p0_2k p0_2w p0_2l), (oX10 (p0a 2) p0_1a p0_1k p0_1w p0_1l)] : List va_W)) sz) t) (va_A (List.flatten ([(oX7 (p0a 0) p0a p0k p0w p0l), (oX6 (p0a 3) p0_2a p0_2k p0_2w p0_2l), (oX10 (p0a 2) p0_1a p0_1k p0_1w p0_1l)] : List va_W)) sz)) 0 0 (va_A (List.flatten ([(oX7 (p0a 0) p0a p0k p0w p0l), (oX6 (p0a 3) p0_2a p0_2k p0_2w p0_2l), (oX10 (p0a 2) p0_1a p0_1k p0_1w p0_1l)] : List va_W)) sz) := by
  refine Met.ofW (cc := cX7_readShortCut) (maxL := 5) (ret := (Option.some Jvm.ClassFile.FieldType.int)) (by decide) rfl ?_
  intro p e s m args below meth c s₁ B hml hv
  obtain ⟨rfl, hsz, hP, hK, hD0, hE⟩ := hv
  have hx := B.exec
  have hb := B.bytes
  have hr := B.returns
  have hts0 := atoms_spec (ws := wz yX7_readShortCut cX7_readShortCut 5 (Option.some Jvm.ClassFile.FieldType.int)) B.pre
  have hts : ∀ w ∈ gw, w.before _ s = true := fun w h => hts0 w (List.mem_cons_of_mem _ h)
  have hown : s.vm.findClass RX7 = some m.cls := findClass_of_methodNamed B.named
  have hlocks := B.notSynchronized
  subst hsz
  have hD := hD0.self (sz := s.heap.size)
  refine gQ9 ?_
  intro Q hQ
  generalize hAe : va_A (List.flatten ([(oX7 (p0a 0) p0a p0k p0w p0l), (oX6 (p0a 3) p0_2a p0_2k p0_2w p0_2l), (oX10 (p0a 2) p0_1a p0_1k p0_1w p0_1l)] : List va_W)) s.heap.size = A at hD hE hQ
  have hA : ∀ q : Nat, s.heap.size ≤ q → A q := fun q h => by rw [← hAe]; exact Or.inr h
  have hro := ENV.ex hE
  have hro_st := hro.2
  replace hro := hro.1
  have hS : va_S A s.heap s.heap [] := va_S.rf
  have hP : va_P (dC, dI) cls (List.flatten ([(oX7 (p0a 0) p0a p0k p0w p0l), (oX6 (p0a 3) p0_2a p0_2k p0_2w p0_2l), (oX10 (p0a 2) p0_1a p0_1k p0_1w p0_1l)] : List va_W)) s.heap := hP
  have hl := lv_entry ([.ref (p0a 0), .int p1]) (n := 5) (Nat.le_of_ble_eq_true rfl)
  rw [lg_entry_eq]
  generalize (lg_sl ([.ref (p0a 0), .int p1]) ++ List.replicate (5 - (lg_sl ([.ref (p0a 0), .int p1])).length) Slot.unset).toArray = ls at hl ⊢
  have hl : lv_has ls 5 [(0, .ref (p0a 0)), (1, .int p1)] := hl
  obtain ⟨H, hHe⟩ : ∃ H, H = s.heap := ⟨_, rfl⟩
  obtain ⟨locs, hle⟩ : ∃ locs : List Loc, locs = [] := ⟨_, rfl⟩
  rw [← hHe] at hP
  have hS : va_S A s.heap H locs := by rw [hHe, hle]; exact hS
  show W p l e ({ frames := F9 + 8, cells := 0, slots := 0, locals := L9 + 400 } : Room) s m ([.ref (p0a 0), .int p1] : List Value).toArray below meth c s.heap [] 0 0 Q (F0 m 0 ls [])
  rw [← hle]
  refine wH9 hHe ?_
  unfold fX7_readShortCut at hrun
  refine lv_aload_n hx hb dX7_readShortCut_0 rfl (lv_at hl 0 rfl) ?_
  refine va_get (D := (dC, dI)) (ci := 1) (v := .ref (p0a 3)) (C := RX7) (T := TX7) (N := 18) hx hb hts i_X7 hown hK hP 0 rfl rfl 2 (by decide) (hts _ qw26) (fun _ h9 => h9) rfl dX7_readShortCut_1 ?_
  refine lv_aload_n hx hb dX7_readShortCut_4 rfl (lv_at hl 0 rfl) ?_
  refine va_get (D := (dC, dI)) (ci := 1) (v := .int (p0w 0 3)) (C := RX7) (T := TX7) (N := 18) hx hb hts i_X7 hown hK hP 0 rfl rfl 3 (by decide) (hts _ qw27) (fun _ h9 => h9) rfl dX7_readShortCut_5 ?_
  obtain ⟨o_1, hc_1, hrun⟩ := bnd9 hrun
  have hPx : va_P (dC, dI) cls ((List.flatten ([(oX6 (p0a 3) p0_2a p0_2k p0_2w p0_2l)] : List va_W)) ++ (List.flatten ([(oX7 (p0a 0) p0a p0k p0w p0l), (oX10 (p0a 2) p0_1a p0_1k p0_1w p0_1l)] : List va_W))) H := vP_fa (vP_perm hP (bP ((((List.Perm.refl _)).cons _).trans (List.Perm.swap _ _ _))))
  have hDx : va_D A ((List.flatten ([(oX6 (p0a 3) p0_2a p0_2k p0_2w p0_2l)] : List va_W)) ++ (List.flatten ([(oX7 (p0a 0) p0a p0k p0w p0l), (oX10 (p0a 2) p0_1a p0_1k p0_1w p0_1l)] : List va_W))) := vD_fa (vD_perm hD (bP ((((List.Perm.refl _)).cons _).trans (List.Perm.swap _ _ _))))
  have hKx : va_K (dC, dI) cls ((List.flatten ([(tX6 p0_2k)] : List (List (ClassId × FieldType)))) ++ (List.flatten ([(tX7 p0k), (tX10 p0_1k)] : List (List (ClassId × FieldType))))) s := vK_fa (vK_perm hK (bP ((((List.Perm.refl _)).cons _).trans (List.Perm.swap _ _ _))))
  have hPc := vP_l hPx
  have hDc := vD_l hDx
  have hKc := vK_l hKx
  have hFc := vfree hDx hS hA
  refine va_calli (va_runV (As := [.int (p0w 0 3)]) (rest := []) ⟨hx, hb, hml, hown, hts⟩ (kX6_newVariable l dC dI (p0a := (st0 (p0a 3) p0_2a)) (p0k := p0_2k) (p0w := p0_2w) (p0l := p0_2l) (p1 := (p0w 0 3)) (sz := _) (o := o_1) (hrun := hc_1)) (cwV 1 hts (gi_V qw30 qw31 qw32 qw33 (gi_z qw29)) rfl rfl rfl (by decide +kernel) ⟨rmF (Nat.le_of_ble_eq_true rfl), rmL (Nat.le_of_ble_eq_true rfl)⟩) ⟨PRE.blind, va_recv hKc hPc (ci := 2) (q0 := 0) rfl rfl, PRE.of hE hS hFc hPc hKc hDc⟩ rfl rfl hl.1 rfl (lv_room (Nat.le_of_ble_eq_true rfl)) dX7_readShortCut_8 ⟨(Nat.le_of_ble_eq_true rfl), (Nat.le_of_ble_eq_true rfl)⟩) hS (fun q _ h => hFc q h) hFc (fun r2 u t H locs ht hvm hw hB hz1 hk1 hS => ?_)
  obtain ⟨b1, b2, b3⟩ := hB
  rw [ht] at b1
  obtain ⟨hP, hD, hK⟩ := JOINC (wc := (List.flatten ([(oX6 (p0a 3) p0_2a p0_2k p0_2w p0_2l)] : List va_W))) (wr := (List.flatten ([(oX7 (p0a 0) p0a p0k p0w p0l), (oX10 (p0a 2) p0_1a p0_1k p0_1w p0_1l)] : List va_W))) (w1 := (List.flatten ([(oX6 (p0a 3) p0_2a p0_2k (o_1.2) p0_2l)] : List va_W))) (t1 := (List.flatten ([(tX6 p0_2k)] : List (List (ClassId × FieldType))))) hPx hDx hKx hk1 hFc b1 (va_K.moved hvm.symm b2) b3
  have hP : va_P (dC, dI) cls (List.flatten ([(oX7 (p0a 0) p0a p0k p0w p0l), (oX6 (p0a 3) p0_2a p0_2k (o_1.2) p0_2l), (oX10 (p0a 2) p0_1a p0_1k p0_1w p0_1l)] : List va_W)) H := vP_perm (vP_fb hP) (bP ((((List.Perm.refl _)).cons _).trans (List.Perm.swap _ _ _)))
  have hD : va_D A (List.flatten ([(oX7 (p0a 0) p0a p0k p0w p0l), (oX6 (p0a 3) p0_2a p0_2k (o_1.2) p0_2l), (oX10 (p0a 2) p0_1a p0_1k p0_1w p0_1l)] : List va_W)) := vD_perm (vD_fb hD) (bP ((((List.Perm.refl _)).cons _).trans (List.Perm.swap _ _ _)))
  have hK : va_K (dC, dI) cls (List.flatten ([(tX7 p0k), (tX6 p0_2k), (tX10 p0_1k)] : List (List (ClassId × FieldType)))) s := vK_perm (vK_fb hK) (bP ((((List.Perm.refl _)).cons _).trans (List.Perm.swap _ _ _)))
  obtain rfl : r2 = (o_1.1) := hw
  refine lv_istore_n (lv' := [(2, .int (o_1.1)), (0, .ref (p0a 0)), (1, .int p1)]) hx hb dX7_readShortCut_11 rfl hl (by decide) rfl (fun ls hl => ?_)
  refine lv_aload_n hx hb dX7_readShortCut_12 rfl (lv_at hl 1 rfl) ?_
  refine va_get (D := (dC, dI)) (ci := 1) (v := .ref (p0a 3)) (C := RX7) (T := TX7) (N := 18) hx hb hts i_X7 hown hK hP 0 rfl rfl 2 (by decide) (hts _ qw26) (fun _ h9 => h9) rfl dX7_readShortCut_13 ?_
  obtain ⟨o_3, hc_3, hrun⟩ := bnd9 hrun
  have hPx : va_P (dC, dI) cls ((List.flatten ([(oX6 (p0a 3) p0_2a p0_2k (o_1.2) p0_2l)] : List va_W)) ++ (List.flatten ([(oX7 (p0a 0) p0a p0k p0w p0l), (oX10 (p0a 2) p0_1a p0_1k p0_1w p0_1l)] : List va_W))) H := vP_fa (vP_perm hP (bP ((((List.Perm.refl _)).cons _).trans (List.Perm.swap _ _ _))))
  have hDx : va_D A ((List.flatten ([(oX6 (p0a 3) p0_2a p0_2k (o_1.2) p0_2l)] : List va_W)) ++ (List.flatten ([(oX7 (p0a 0) p0a p0k p0w p0l), (oX10 (p0a 2) p0_1a p0_1k p0_1w p0_1l)] : List va_W))) := vD_fa (vD_perm hD (bP ((((List.Perm.refl _)).cons _).trans (List.Perm.swap _ _ _))))
  have hKx : va_K (dC, dI) cls ((List.flatten ([(tX6 p0_2k)] : List (List (ClassId × FieldType)))) ++ (List.flatten ([(tX7 p0k), (tX10 p0_1k)] : List (List (ClassId × FieldType))))) s := vK_fa (vK_perm hK (bP ((((List.Perm.refl _)).cons _).trans (List.Perm.swap _ _ _))))
  have hPc := vP_l hPx
  have hDc := vD_l hDx
  have hKc := vK_l hKx
  have hFc := vfree hDx hS hA
  refine va_calli (va_runV (As := []) (rest := []) ⟨hx, hb, hml, hown, hts⟩ (kX6_newLabel l dC dI (p0a := (st0 (p0a 3) p0_2a)) (p0k := p0_2k) (p0w := (o_1.2)) (p0l := p0_2l) (sz := _) (o := o_3) (hrun := hc_3)) (cwV 0 hts (gi_V qw73 qw74 qw75 qw33 (gi_z qw72)) rfl rfl rfl (by decide +kernel) ⟨rmF (Nat.le_of_ble_eq_true rfl), rmL (Nat.le_of_ble_eq_true rfl)⟩) ⟨PRE.blind, va_recv hKc hPc (ci := 2) (q0 := 0) rfl rfl, PRE.of hE hS hFc hPc hKc hDc⟩ rfl rfl hl.1 rfl (lv_room (Nat.le_of_ble_eq_true rfl)) dX7_readShortCut_16 ⟨(Nat.le_of_ble_eq_true rfl), (Nat.le_of_ble_eq_true rfl)⟩) hS (fun q _ h => hFc q h) hFc (fun r4 u t H locs ht hvm hw hB hz1 hk1 hS => ?_)
  obtain ⟨b1, b2, b3⟩ := hB
  rw [ht] at b1
  obtain ⟨hP, hD, hK⟩ := JOINC (wc := (List.flatten ([(oX6 (p0a 3) p0_2a p0_2k (o_1.2) p0_2l)] : List va_W))) (wr := (List.flatten ([(oX7 (p0a 0) p0a p0k p0w p0l), (oX10 (p0a 2) p0_1a p0_1k p0_1w p0_1l)] : List va_W))) (w1 := (List.flatten ([(oX6 (p0a 3) p0_2a p0_2k (o_3.2) p0_2l)] : List va_W))) (t1 := (List.flatten ([(tX6 p0_2k)] : List (List (ClassId × FieldType))))) hPx hDx hKx hk1 hFc b1 (va_K.moved hvm.symm b2) b3
  have hP : va_P (dC, dI) cls (List.flatten ([(oX7 (p0a 0) p0a p0k p0w p0l), (oX6 (p0a 3) p0_2a p0_2k (o_3.2) p0_2l), (oX10 (p0a 2) p0_1a p0_1k p0_1w p0_1l)] : List va_W)) H := vP_perm (vP_fb hP) (bP ((((List.Perm.refl _)).cons _).trans (List.Perm.swap _ _ _)))
  have hD : va_D A (List.flatten ([(oX7 (p0a 0) p0a p0k p0w p0l), (oX6 (p0a 3) p0_2a p0_2k (o_3.2) p0_2l), (oX10 (p0a 2) p0_1a p0_1k p0_1w p0_1l)] : List va_W)) := vD_perm (vD_fb hD) (bP ((((List.Perm.refl _)).cons _).trans (List.Perm.swap _ _ _)))
  have hK : va_K (dC, dI) cls (List.flatten ([(tX7 p0k), (tX6 p0_2k), (tX10 p0_1k)] : List (List (ClassId × FieldType)))) s := vK_perm (vK_fb hK) (bP ((((List.Perm.refl _)).cons _).trans (List.Perm.swap _ _ _)))
  obtain rfl : r4 = (o_3.1) := hw
  refine lv_istore_n (lv' := [(3, .int (o_3.1)), (2, .int (o_1.1)), (0, .ref (p0a 0)), (1, .int p1)]) hx hb dX7_readShortCut_19 rfl hl (by decide) rfl (fun ls hl => ?_)
  refine lv_aload_n hx hb dX7_readShortCut_20 rfl (lv_at hl 2 rfl) ?_
  obtain ⟨o_5, hc_5, hrun⟩ := bnd9 hrun
  have hPx : va_P (dC, dI) cls ((List.flatten ([(oX7 (p0a 0) p0a p0k p0w p0l), (oX6 (p0a 3) p0_2a p0_2k (o_3.2) p0_2l)] : List va_W)) ++ (List.flatten ([(oX10 (p0a 2) p0_1a p0_1k p0_1w p0_1l)] : List va_W))) H := vP_fa (vP_perm hP (bP (List.Perm.refl _)))
  have hDx : va_D A ((List.flatten ([(oX7 (p0a 0) p0a p0k p0w p0l), (oX6 (p0a 3) p0_2a p0_2k (o_3.2) p0_2l)] : List va_W)) ++ (List.flatten ([(oX10 (p0a 2) p0_1a p0_1k p0_1w p0_1l)] : List va_W))) := vD_fa (vD_perm hD (bP (List.Perm.refl _)))
  have hKx : va_K (dC, dI) cls ((List.flatten ([(tX7 p0k), (tX6 p0_2k)] : List (List (ClassId × FieldType)))) ++ (List.flatten ([(tX10 p0_1k)] : List (List (ClassId × FieldType))))) s := vK_fa (vK_perm hK (bP (List.Perm.refl _)))
  have hPc := vP_l hPx
  have hDc := vD_l hDx
  have hKc := vK_l hKx
  have hFc := vfree hDx hS hA
  refine va_callv (va_runV (As := []) (rest := []) ⟨hx, hb, hml, hown, hts⟩ (kX7_emitTruth l dC dI (p0a := p0a) (p0k := p0k) (p0w := p0w) (p0l := p0l) (p0_2a := p0_2a) (p0_2k := p0_2k) (p0_2w := (o_3.2)) (p0_2l := p0_2l) (sz := _) (o := o_5) (hrun := hc_5)) (cwV 0 hts (gi_V qw77 qw78 qw79 qw65 (gi_z qw76)) rfl rfl rfl (by decide +kernel) ⟨rmF (Nat.le_of_ble_eq_true rfl), rmL (Nat.le_of_ble_eq_true rfl)⟩) ⟨PRE.blind, va_recv hKc hPc (ci := 1) (q0 := 0) rfl rfl, PRE.of hE hS hFc hPc hKc hDc⟩ rfl rfl hl.1 rfl (lv_room (Nat.le_of_ble_eq_true rfl)) dX7_readShortCut_21 ⟨(Nat.le_of_ble_eq_true rfl), (Nat.le_of_ble_eq_true rfl)⟩) hS (fun q _ h => hFc q h) hFc (fun u t H locs ht hvm hw hB hz1 hk1 hS => ?_)
  obtain ⟨b1, b2, b3⟩ := hB
  rw [ht] at b1
  obtain ⟨hP, hD, hK⟩ := JOINC (wc := (List.flatten ([(oX7 (p0a 0) p0a p0k p0w p0l), (oX6 (p0a 3) p0_2a p0_2k (o_3.2) p0_2l)] : List va_W))) (wr := (List.flatten ([(oX10 (p0a 2) p0_1a p0_1k p0_1w p0_1l)] : List va_W))) (w1 := (List.flatten ([(oX7 (p0a 0) p0a p0k p0w p0l), (oX6 (p0a 3) p0_2a p0_2k o_5 p0_2l)] : List va_W))) (t1 := (List.flatten ([(tX7 p0k), (tX6 p0_2k)] : List (List (ClassId × FieldType))))) hPx hDx hKx hk1 hFc b1 (va_K.moved hvm.symm b2) b3
  have hP : va_P (dC, dI) cls (List.flatten ([(oX7 (p0a 0) p0a p0k p0w p0l), (oX6 (p0a 3) p0_2a p0_2k o_5 p0_2l), (oX10 (p0a 2) p0_1a p0_1k p0_1w p0_1l)] : List va_W)) H := vP_perm (vP_fb hP) (bP (List.Perm.refl _))
  have hD : va_D A (List.flatten ([(oX7 (p0a 0) p0a p0k p0w p0l), (oX6 (p0a 3) p0_2a p0_2k o_5 p0_2l), (oX10 (p0a 2) p0_1a p0_1k p0_1w p0_1l)] : List va_W)) := vD_perm (vD_fb hD) (bP (List.Perm.refl _))
  have hK : va_K (dC, dI) cls (List.flatten ([(tX7 p0k), (tX6 p0_2k), (tX10 p0_1k)] : List (List (ClassId × FieldType)))) s := vK_perm (vK_fb hK) (bP (List.Perm.refl _))
  refine lv_aload_n hx hb dX7_readShortCut_24 rfl (lv_at hl 2 rfl) ?_
  refine va_get (D := (dC, dI)) (ci := 1) (v := .ref (p0a 3)) (C := RX7) (T := TX7) (N := 18) hx hb hts i_X7 hown hK hP 0 rfl rfl 2 (by decide) (hts _ qw26) (fun _ h9 => h9) rfl dX7_readShortCut_25 ?_
  refine lv_bipush (v := 32) hx hb dX7_readShortCut_28 (by decide) ?_
  refine lv_iload_n hx hb dX7_readShortCut_30 rfl (lv_at hl 1 rfl) ?_
  refine lv_iconst (v := 0) hx hb dX7_readShortCut_31 (by decide) ?_
  obtain ⟨o_6, hc_6, hrun⟩ := bnd9 hrun
  have hPx : va_P (dC, dI) cls ((List.flatten ([(oX6 (p0a 3) p0_2a p0_2k o_5 p0_2l)] : List va_W)) ++ (List.flatten ([(oX7 (p0a 0) p0a p0k p0w p0l), (oX10 (p0a 2) p0_1a p0_1k p0_1w p0_1l)] : List va_W))) H := vP_fa (vP_perm hP (bP ((((List.Perm.refl _)).cons _).trans (List.Perm.swap _ _ _))))
  have hDx : va_D A ((List.flatten ([(oX6 (p0a 3) p0_2a p0_2k o_5 p0_2l)] : List va_W)) ++ (List.flatten ([(oX7 (p0a 0) p0a p0k p0w p0l), (oX10 (p0a 2) p0_1a p0_1k p0_1w p0_1l)] : List va_W))) := vD_fa (vD_perm hD (bP ((((List.Perm.refl _)).cons _).trans (List.Perm.swap _ _ _))))
  have hKx : va_K (dC, dI) cls ((List.flatten ([(tX6 p0_2k)] : List (List (ClassId × FieldType)))) ++ (List.flatten ([(tX7 p0k), (tX10 p0_1k)] : List (List (ClassId × FieldType))))) s := vK_fa (vK_perm hK (bP ((((List.Perm.refl _)).cons _).trans (List.Perm.swap _ _ _))))
  have hPc := vP_l hPx
  have hDc := vD_l hDx
  have hKc := vK_l hKx
  have hFc := vfree hDx hS hA
  refine va_callv (va_runV (As := [.int 32, .int (o_1.1), .int 0]) (rest := []) ⟨hx, hb, hml, hown, hts⟩ (kX6_emit l dC dI (p0a := (st0 (p0a 3) p0_2a)) (p0k := p0_2k) (p0w := o_5) (p0l := p0_2l) (p1 := 32) (p2 := (o_1.1)) (p3 := 0) (sz := _) (o := o_6) (hrun := hc_6)) (cwV 3 hts (gi_V qw42 qw43 qw44 qw33 (gi_z qw41)) rfl rfl rfl (by decide +kernel) ⟨rmF (Nat.le_of_ble_eq_true rfl), rmL (Nat.le_of_ble_eq_true rfl)⟩) ⟨PRE.blind, va_recv hKc hPc (ci := 2) (q0 := 0) rfl rfl, PRE.of hE hS hFc hPc hKc hDc⟩ rfl rfl hl.1 rfl (lv_room (Nat.le_of_ble_eq_true rfl)) dX7_readShortCut_32 ⟨(Nat.le_of_ble_eq_true rfl), (Nat.le_of_ble_eq_true rfl)⟩) hS (fun q _ h => hFc q h) hFc (fun u t H locs ht hvm hw hB hz1 hk1 hS => ?_)
  obtain ⟨b1, b2, b3⟩ := hB
  rw [ht] at b1
  obtain ⟨hP, hD, hK⟩ := JOINC (wc := (List.flatten ([(oX6 (p0a 3) p0_2a p0_2k o_5 p0_2l)] : List va_W))) (wr := (List.flatten ([(oX7 (p0a 0) p0a p0k p0w p0l), (oX10 (p0a 2) p0_1a p0_1k p0_1w p0_1l)] : List va_W))) (w1 := (List.flatten ([(oX6 (p0a 3) p0_2a p0_2k o_6 p0_2l)] : List va_W))) (t1 := (List.flatten ([(tX6 p0_2k)] : List (List (ClassId × FieldType))))) hPx hDx hKx hk1 hFc b1 (va_K.moved hvm.symm b2) b3
  have hP : va_P (dC, dI) cls (List.flatten ([(oX7 (p0a 0) p0a p0k p0w p0l), (oX6 (p0a 3) p0_2a p0_2k o_6 p0_2l), (oX10 (p0a 2) p0_1a p0_1k p0_1w p0_1l)] : List va_W)) H := vP_perm (vP_fb hP) (bP ((((List.Perm.refl _)).cons _).trans (List.Perm.swap _ _ _)))
  have hD : va_D A (List.flatten ([(oX7 (p0a 0) p0a p0k p0w p0l), (oX6 (p0a 3) p0_2a p0_2k o_6 p0_2l), (oX10 (p0a 2) p0_1a p0_1k p0_1w p0_1l)] : List va_W)) := vD_perm (vD_fb hD) (bP ((((List.Perm.refl _)).cons _).trans (List.Perm.swap _ _ _)))
  have hK : va_K (dC, dI) cls (List.flatten ([(tX7 p0k), (tX6 p0_2k), (tX10 p0_1k)] : List (List (ClassId × FieldType)))) s := vK_perm (vK_fb hK) (bP ((((List.Perm.refl _)).cons _).trans (List.Perm.swap _ _ _)))
  refine lv_aload_n hx hb dX7_readShortCut_35 rfl (lv_at hl 2 rfl) ?_
  refine va_get (D := (dC, dI)) (ci := 1) (v := .ref (p0a 3)) (C := RX7) (T := TX7) (N := 18) hx hb hts i_X7 hown hK hP 0 rfl rfl 2 (by decide) (hts _ qw26) (fun _ h9 => h9) rfl dX7_readShortCut_36 ?_
  refine lv_iload_n hx hb dX7_readShortCut_39 rfl (lv_at hl 3 rfl) ?_
  have J50 : ∀ (y0_50 : Int32) (H : Heap) (locs : List Loc) (ls : Array Slot), (fX7_readShortCut_J50 p0w p0l p1 p0_2l p0_1w p0_1l o_1 o_3 o_6 kk_readOperand y0_50) = some o → va_P (dC, dI) cls (List.flatten ([(oX7 (p0a 0) p0a p0k p0w p0l), (oX6 (p0a 3) p0_2a p0_2k o_6 p0_2l), (oX10 (p0a 2) p0_1a p0_1k p0_1w p0_1l)] : List va_W)) H → va_D A (List.flatten ([(oX7 (p0a 0) p0a p0k p0w p0l), (oX6 (p0a 3) p0_2a p0_2k o_6 p0_2l), (oX10 (p0a 2) p0_1a p0_1k p0_1w p0_1l)] : List va_W)) → va_K (dC, dI) cls (List.flatten ([(tX7 p0k), (tX6 p0_2k), (tX10 p0_1k)] : List (List (ClassId × FieldType)))) s → va_S A s.heap H locs → lv_has ls 5 [(0, .ref (p0a 0)), (1, .int p1), (2, .int (o_1.1)), (3, .int (o_3.1))] → W p l e ({ frames := F9 + 8, cells := 0, slots := 0, locals := L9 + 400 } : Room) s m ([.ref (p0a 0), .int p1] : List Value).toArray below meth c H locs 0 0 Q (F0 m 50 ls [.int y0_50, .ref (p0a 3)]) := by
    intro y0_50 H locs ls hrun hP hD hK hS hl 
    unfold fX7_readShortCut_J50 at hrun
    refine lv_iload_n hx hb dX7_readShortCut_50 rfl (lv_at hl 3 rfl) ?_
    refine lv_iconst (v := 0) hx hb dX7_readShortCut_51 (by decide) ?_
    obtain ⟨o_7, hc_7, hrun⟩ := bnd9 hrun
    have hPx : va_P (dC, dI) cls ((List.flatten ([(oX6 (p0a 3) p0_2a p0_2k o_6 p0_2l)] : List va_W)) ++ (List.flatten ([(oX7 (p0a 0) p0a p0k p0w p0l), (oX10 (p0a 2) p0_1a p0_1k p0_1w p0_1l)] : List va_W))) H := vP_fa (vP_perm hP (bP ((((List.Perm.refl _)).cons _).trans (List.Perm.swap _ _ _))))
    have hDx : va_D A ((List.flatten ([(oX6 (p0a 3) p0_2a p0_2k o_6 p0_2l)] : List va_W)) ++ (List.flatten ([(oX7 (p0a 0) p0a p0k p0w p0l), (oX10 (p0a 2) p0_1a p0_1k p0_1w p0_1l)] : List va_W))) := vD_fa (vD_perm hD (bP ((((List.Perm.refl _)).cons _).trans (List.Perm.swap _ _ _))))
    have hKx : va_K (dC, dI) cls ((List.flatten ([(tX6 p0_2k)] : List (List (ClassId × FieldType)))) ++ (List.flatten ([(tX7 p0k), (tX10 p0_1k)] : List (List (ClassId × FieldType))))) s := vK_fa (vK_perm hK (bP ((((List.Perm.refl _)).cons _).trans (List.Perm.swap _ _ _))))
    have hPc := vP_l hPx
    have hDc := vD_l hDx
    have hKc := vK_l hKx
    have hFc := vfree hDx hS hA
    refine va_callv (va_runV (As := [.int y0_50, .int (o_3.1), .int 0]) (rest := []) ⟨hx, hb, hml, hown, hts⟩ (kX6_emit l dC dI (p0a := (st0 (p0a 3) p0_2a)) (p0k := p0_2k) (p0w := o_6) (p0l := p0_2l) (p1 := y0_50) (p2 := (o_3.1)) (p3 := 0) (sz := _) (o := o_7) (hrun := hc_7)) (cwV 3 hts (gi_V qw42 qw43 qw44 qw33 (gi_z qw41)) rfl rfl rfl (by decide +kernel) ⟨rmF (Nat.le_of_ble_eq_true rfl), rmL (Nat.le_of_ble_eq_true rfl)⟩) ⟨PRE.blind, va_recv hKc hPc (ci := 2) (q0 := 0) rfl rfl, PRE.of hE hS hFc hPc hKc hDc⟩ rfl rfl hl.1 rfl (lv_room (Nat.le_of_ble_eq_true rfl)) dX7_readShortCut_52 ⟨(Nat.le_of_ble_eq_true rfl), (Nat.le_of_ble_eq_true rfl)⟩) hS (fun q _ h => hFc q h) hFc (fun u t H locs ht hvm hw hB hz1 hk1 hS => ?_)
    obtain ⟨b1, b2, b3⟩ := hB
    rw [ht] at b1
    obtain ⟨hP, hD, hK⟩ := JOINC (wc := (List.flatten ([(oX6 (p0a 3) p0_2a p0_2k o_6 p0_2l)] : List va_W))) (wr := (List.flatten ([(oX7 (p0a 0) p0a p0k p0w p0l), (oX10 (p0a 2) p0_1a p0_1k p0_1w p0_1l)] : List va_W))) (w1 := (List.flatten ([(oX6 (p0a 3) p0_2a p0_2k o_7 p0_2l)] : List va_W))) (t1 := (List.flatten ([(tX6 p0_2k)] : List (List (ClassId × FieldType))))) hPx hDx hKx hk1 hFc b1 (va_K.moved hvm.symm b2) b3
    have hP : va_P (dC, dI) cls (List.flatten ([(oX7 (p0a 0) p0a p0k p0w p0l), (oX6 (p0a 3) p0_2a p0_2k o_7 p0_2l), (oX10 (p0a 2) p0_1a p0_1k p0_1w p0_1l)] : List va_W)) H := vP_perm (vP_fb hP) (bP ((((List.Perm.refl _)).cons _).trans (List.Perm.swap _ _ _)))
    have hD : va_D A (List.flatten ([(oX7 (p0a 0) p0a p0k p0w p0l), (oX6 (p0a 3) p0_2a p0_2k o_7 p0_2l), (oX10 (p0a 2) p0_1a p0_1k p0_1w p0_1l)] : List va_W)) := vD_perm (vD_fb hD) (bP ((((List.Perm.refl _)).cons _).trans (List.Perm.swap _ _ _)))
    have hK : va_K (dC, dI) cls (List.flatten ([(tX7 p0k), (tX6 p0_2k), (tX10 p0_1k)] : List (List (ClassId × FieldType)))) s := vK_perm (vK_fb hK) (bP ((((List.Perm.refl _)).cons _).trans (List.Perm.swap _ _ _)))
    refine lv_aload_n hx hb dX7_readShortCut_55 rfl (lv_at hl 0 rfl) ?_
    refine lv_iload_n hx hb dX7_readShortCut_56 rfl (lv_at hl 1 rfl) ?_
    obtain ⟨o_8, hc_8, hrun⟩ := bnd9 hrun
    have hPx : va_P (dC, dI) cls ((List.flatten ([(oX7 (p0a 0) p0a p0k p0w p0l), (oX6 (p0a 3) p0_2a p0_2k o_7 p0_2l), (oX10 (p0a 2) p0_1a p0_1k p0_1w p0_1l)] : List va_W)) ++ (List.flatten ([] : List va_W))) H := vP_fa (vP_perm hP (bP (List.Perm.refl _)))
    have hDx : va_D A ((List.flatten ([(oX7 (p0a 0) p0a p0k p0w p0l), (oX6 (p0a 3) p0_2a p0_2k o_7 p0_2l), (oX10 (p0a 2) p0_1a p0_1k p0_1w p0_1l)] : List va_W)) ++ (List.flatten ([] : List va_W))) := vD_fa (vD_perm hD (bP (List.Perm.refl _)))
    have hKx : va_K (dC, dI) cls ((List.flatten ([(tX7 p0k), (tX6 p0_2k), (tX10 p0_1k)] : List (List (ClassId × FieldType)))) ++ (List.flatten ([] : List (List (ClassId × FieldType))))) s := vK_fa (vK_perm hK (bP (List.Perm.refl _)))
    have hPc := vP_l hPx
    have hDc := vD_l hDx
    have hKc := vK_l hKx
    have hFc := vfree hDx hS hA
    refine va_calli (va_runV (As := [.int p1]) (rest := []) ⟨hx, hb, hml, hown, hts⟩ (hkk_readOperand dC dI (p0a := p0a) (p0k := p0k) (p0w := p0w) (p0l := p0l) (p1 := p1) (aK := aK) (aV := aV) (p0_2a := p0_2a) (p0_2k := p0_2k) (p0_2w := o_7) (p0_2l := p0_2l) (p0_1a := p0_1a) (p0_1k := p0_1k) (p0_1w := p0_1w) (p0_1l := p0_1l) (sz := _) (o := o_8) (hrun := hc_8)) (cwV 1 hts (gi_V qw1438 qw1439 qw1440 qw65 (gi_z qw1437)) rfl rfl rfl (by decide +kernel) ⟨rmF9, rmL9 (n := 21) (Nat.le_of_ble_eq_true rfl)⟩) ⟨PRE.blind, va_recv hKc hPc (ci := 1) (q0 := 0) rfl rfl, PRE.of (ENV.add hE st9_m hro_st) hS hFc hPc hKc hDc⟩ rfl rfl hl.1 rfl (lv_room (Nat.le_of_ble_eq_true rfl)) dX7_readShortCut_57 ⟨(Nat.le_of_ble_eq_true rfl), (Nat.le_of_ble_eq_true rfl)⟩) hS (fun q _ h => hFc q h) hFc (fun r9 u t H locs ht hvm hw hB hz1 hk1 hS => ?_)
    obtain ⟨b1, b2, b3⟩ := hB
    rw [ht] at b1
    obtain ⟨hP, hD, hK⟩ := JOINC (wc := (List.flatten ([(oX7 (p0a 0) p0a p0k p0w p0l), (oX6 (p0a 3) p0_2a p0_2k o_7 p0_2l), (oX10 (p0a 2) p0_1a p0_1k p0_1w p0_1l)] : List va_W))) (wr := (List.flatten ([] : List va_W))) (w1 := (List.flatten ([(oX7 (p0a 0) p0a p0k (o_8.2.1) (o_8.2.2.1)), (oX6 (p0a 3) p0_2a p0_2k (o_8.2.2.2.1) p0_2l), (oX10 (p0a 2) p0_1a p0_1k (o_8.2.2.2.2.1) (o_8.2.2.2.2.2))] : List va_W))) (t1 := (List.flatten ([(tX7 p0k), (tX6 p0_2k), (tX10 p0_1k)] : List (List (ClassId × FieldType))))) hPx hDx hKx hk1 hFc b1 (va_K.moved hvm.symm b2) b3
    have hP : va_P (dC, dI) cls (List.flatten ([(oX7 (p0a 0) p0a p0k (o_8.2.1) (o_8.2.2.1)), (oX6 (p0a 3) p0_2a p0_2k (o_8.2.2.2.1) p0_2l), (oX10 (p0a 2) p0_1a p0_1k (o_8.2.2.2.2.1) (o_8.2.2.2.2.2))] : List va_W)) H := vP_perm (vP_fb hP) (bP (List.Perm.refl _))
    have hD : va_D A (List.flatten ([(oX7 (p0a 0) p0a p0k (o_8.2.1) (o_8.2.2.1)), (oX6 (p0a 3) p0_2a p0_2k (o_8.2.2.2.1) p0_2l), (oX10 (p0a 2) p0_1a p0_1k (o_8.2.2.2.2.1) (o_8.2.2.2.2.2))] : List va_W)) := vD_perm (vD_fb hD) (bP (List.Perm.refl _))
    have hK : va_K (dC, dI) cls (List.flatten ([(tX7 p0k), (tX6 p0_2k), (tX10 p0_1k)] : List (List (ClassId × FieldType)))) s := vK_perm (vK_fb hK) (bP (List.Perm.refl _))
    obtain rfl : r9 = (o_8.1) := hw
    refine lv_istore (lv' := [(4, .int (o_8.1)), (0, .ref (p0a 0)), (1, .int p1), (2, .int (o_1.1)), (3, .int (o_3.1))]) hx hb dX7_readShortCut_60 hl (by decide) rfl (fun ls hl => ?_)
    refine lv_aload_n hx hb dX7_readShortCut_62 rfl (lv_at hl 1 rfl) ?_
    obtain ⟨o_10, hc_10, hrun⟩ := bnd9 hrun
    have hPx : va_P (dC, dI) cls ((List.flatten ([(oX7 (p0a 0) p0a p0k (o_8.2.1) (o_8.2.2.1)), (oX6 (p0a 3) p0_2a p0_2k (o_8.2.2.2.1) p0_2l)] : List va_W)) ++ (List.flatten ([(oX10 (p0a 2) p0_1a p0_1k (o_8.2.2.2.2.1) (o_8.2.2.2.2.2))] : List va_W))) H := vP_fa (vP_perm hP (bP (List.Perm.refl _)))
    have hDx : va_D A ((List.flatten ([(oX7 (p0a 0) p0a p0k (o_8.2.1) (o_8.2.2.1)), (oX6 (p0a 3) p0_2a p0_2k (o_8.2.2.2.1) p0_2l)] : List va_W)) ++ (List.flatten ([(oX10 (p0a 2) p0_1a p0_1k (o_8.2.2.2.2.1) (o_8.2.2.2.2.2))] : List va_W))) := vD_fa (vD_perm hD (bP (List.Perm.refl _)))
    have hKx : va_K (dC, dI) cls ((List.flatten ([(tX7 p0k), (tX6 p0_2k)] : List (List (ClassId × FieldType)))) ++ (List.flatten ([(tX10 p0_1k)] : List (List (ClassId × FieldType))))) s := vK_fa (vK_perm hK (bP (List.Perm.refl _)))
    have hPc := vP_l hPx
    have hDc := vD_l hDx
    have hKc := vK_l hKx
    have hFc := vfree hDx hS hA
    refine va_callv (va_runV (As := []) (rest := []) ⟨hx, hb, hml, hown, hts⟩ (kX7_emitTruth l dC dI (p0a := p0a) (p0k := p0k) (p0w := (o_8.2.1)) (p0l := (o_8.2.2.1)) (p0_2a := p0_2a) (p0_2k := p0_2k) (p0_2w := (o_8.2.2.2.1)) (p0_2l := p0_2l) (sz := _) (o := o_10) (hrun := hc_10)) (cwV 0 hts (gi_V qw77 qw78 qw79 qw65 (gi_z qw76)) rfl rfl rfl (by decide +kernel) ⟨rmF (Nat.le_of_ble_eq_true rfl), rmL (Nat.le_of_ble_eq_true rfl)⟩) ⟨PRE.blind, va_recv hKc hPc (ci := 1) (q0 := 0) rfl rfl, PRE.of hE hS hFc hPc hKc hDc⟩ rfl rfl hl.1 rfl (lv_room (Nat.le_of_ble_eq_true rfl)) dX7_readShortCut_63 ⟨(Nat.le_of_ble_eq_true rfl), (Nat.le_of_ble_eq_true rfl)⟩) hS (fun q _ h => hFc q h) hFc (fun u t H locs ht hvm hw hB hz1 hk1 hS => ?_)
    obtain ⟨b1, b2, b3⟩ := hB
    rw [ht] at b1
    obtain ⟨hP, hD, hK⟩ := JOINC (wc := (List.flatten ([(oX7 (p0a 0) p0a p0k (o_8.2.1) (o_8.2.2.1)), (oX6 (p0a 3) p0_2a p0_2k (o_8.2.2.2.1) p0_2l)] : List va_W))) (wr := (List.flatten ([(oX10 (p0a 2) p0_1a p0_1k (o_8.2.2.2.2.1) (o_8.2.2.2.2.2))] : List va_W))) (w1 := (List.flatten ([(oX7 (p0a 0) p0a p0k (o_8.2.1) (o_8.2.2.1)), (oX6 (p0a 3) p0_2a p0_2k o_10 p0_2l)] : List va_W))) (t1 := (List.flatten ([(tX7 p0k), (tX6 p0_2k)] : List (List (ClassId × FieldType))))) hPx hDx hKx hk1 hFc b1 (va_K.moved hvm.symm b2) b3
    have hP : va_P (dC, dI) cls (List.flatten ([(oX7 (p0a 0) p0a p0k (o_8.2.1) (o_8.2.2.1)), (oX6 (p0a 3) p0_2a p0_2k o_10 p0_2l), (oX10 (p0a 2) p0_1a p0_1k (o_8.2.2.2.2.1) (o_8.2.2.2.2.2))] : List va_W)) H := vP_perm (vP_fb hP) (bP (List.Perm.refl _))
    have hD : va_D A (List.flatten ([(oX7 (p0a 0) p0a p0k (o_8.2.1) (o_8.2.2.1)), (oX6 (p0a 3) p0_2a p0_2k o_10 p0_2l), (oX10 (p0a 2) p0_1a p0_1k (o_8.2.2.2.2.1) (o_8.2.2.2.2.2))] : List va_W)) := vD_perm (vD_fb hD) (bP (List.Perm.refl _))
    have hK : va_K (dC, dI) cls (List.flatten ([(tX7 p0k), (tX6 p0_2k), (tX10 p0_1k)] : List (List (ClassId × FieldType)))) s := vK_perm (vK_fb hK) (bP (List.Perm.refl _))
    refine lv_aload_n hx hb dX7_readShortCut_66 rfl (lv_at hl 1 rfl) ?_
    refine va_get (D := (dC, dI)) (ci := 1) (v := .ref (p0a 3)) (C := RX7) (T := TX7) (N := 18) hx hb hts i_X7 hown hK hP 0 rfl rfl 2 (by decide) (hts _ qw26) (fun _ h9 => h9) rfl dX7_readShortCut_67 ?_
    refine lv_bipush (v := 31) hx hb dX7_readShortCut_70 (by decide) ?_
    refine lv_iload_n hx hb dX7_readShortCut_72 rfl (lv_at hl 3 rfl) ?_
    refine lv_iconst (v := 0) hx hb dX7_readShortCut_73 (by decide) ?_
    obtain ⟨o_11, hc_11, hrun⟩ := bnd9 hrun
    have hPx : va_P (dC, dI) cls ((List.flatten ([(oX6 (p0a 3) p0_2a p0_2k o_10 p0_2l)] : List va_W)) ++ (List.flatten ([(oX7 (p0a 0) p0a p0k (o_8.2.1) (o_8.2.2.1)), (oX10 (p0a 2) p0_1a p0_1k (o_8.2.2.2.2.1) (o_8.2.2.2.2.2))] : List va_W))) H := vP_fa (vP_perm hP (bP ((((List.Perm.refl _)).cons _).trans (List.Perm.swap _ _ _))))
    have hDx : va_D A ((List.flatten ([(oX6 (p0a 3) p0_2a p0_2k o_10 p0_2l)] : List va_W)) ++ (List.flatten ([(oX7 (p0a 0) p0a p0k (o_8.2.1) (o_8.2.2.1)), (oX10 (p0a 2) p0_1a p0_1k (o_8.2.2.2.2.1) (o_8.2.2.2.2.2))] : List va_W))) := vD_fa (vD_perm hD (bP ((((List.Perm.refl _)).cons _).trans (List.Perm.swap _ _ _))))
    have hKx : va_K (dC, dI) cls ((List.flatten ([(tX6 p0_2k)] : List (List (ClassId × FieldType)))) ++ (List.flatten ([(tX7 p0k), (tX10 p0_1k)] : List (List (ClassId × FieldType))))) s := vK_fa (vK_perm hK (bP ((((List.Perm.refl _)).cons _).trans (List.Perm.swap _ _ _))))
    have hPc := vP_l hPx
    have hDc := vD_l hDx
    have hKc := vK_l hKx
    have hFc := vfree hDx hS hA
    refine va_callv (va_runV (As := [.int 31, .int (o_1.1), .int 0]) (rest := []) ⟨hx, hb, hml, hown, hts⟩ (kX6_emit l dC dI (p0a := (st0 (p0a 3) p0_2a)) (p0k := p0_2k) (p0w := o_10) (p0l := p0_2l) (p1 := 31) (p2 := (o_1.1)) (p3 := 0) (sz := _) (o := o_11) (hrun := hc_11)) (cwV 3 hts (gi_V qw42 qw43 qw44 qw33 (gi_z qw41)) rfl rfl rfl (by decide +kernel) ⟨rmF (Nat.le_of_ble_eq_true rfl), rmL (Nat.le_of_ble_eq_true rfl)⟩) ⟨PRE.blind, va_recv hKc hPc (ci := 2) (q0 := 0) rfl rfl, PRE.of hE hS hFc hPc hKc hDc⟩ rfl rfl hl.1 rfl (lv_room (Nat.le_of_ble_eq_true rfl)) dX7_readShortCut_74 ⟨(Nat.le_of_ble_eq_true rfl), (Nat.le_of_ble_eq_true rfl)⟩) hS (fun q _ h => hFc q h) hFc (fun u t H locs ht hvm hw hB hz1 hk1 hS => ?_)
    obtain ⟨b1, b2, b3⟩ := hB
    rw [ht] at b1
    obtain ⟨hP, hD, hK⟩ := JOINC (wc := (List.flatten ([(oX6 (p0a 3) p0_2a p0_2k o_10 p0_2l)] : List va_W))) (wr := (List.flatten ([(oX7 (p0a 0) p0a p0k (o_8.2.1) (o_8.2.2.1)), (oX10 (p0a 2) p0_1a p0_1k (o_8.2.2.2.2.1) (o_8.2.2.2.2.2))] : List va_W))) (w1 := (List.flatten ([(oX6 (p0a 3) p0_2a p0_2k o_11 p0_2l)] : List va_W))) (t1 := (List.flatten ([(tX6 p0_2k)] : List (List (ClassId × FieldType))))) hPx hDx hKx hk1 hFc b1 (va_K.moved hvm.symm b2) b3
    have hP : va_P (dC, dI) cls (List.flatten ([(oX7 (p0a 0) p0a p0k (o_8.2.1) (o_8.2.2.1)), (oX6 (p0a 3) p0_2a p0_2k o_11 p0_2l), (oX10 (p0a 2) p0_1a p0_1k (o_8.2.2.2.2.1) (o_8.2.2.2.2.2))] : List va_W)) H := vP_perm (vP_fb hP) (bP ((((List.Perm.refl _)).cons _).trans (List.Perm.swap _ _ _)))
    have hD : va_D A (List.flatten ([(oX7 (p0a 0) p0a p0k (o_8.2.1) (o_8.2.2.1)), (oX6 (p0a 3) p0_2a p0_2k o_11 p0_2l), (oX10 (p0a 2) p0_1a p0_1k (o_8.2.2.2.2.1) (o_8.2.2.2.2.2))] : List va_W)) := vD_perm (vD_fb hD) (bP ((((List.Perm.refl _)).cons _).trans (List.Perm.swap _ _ _)))
    have hK : va_K (dC, dI) cls (List.flatten ([(tX7 p0k), (tX6 p0_2k), (tX10 p0_1k)] : List (List (ClassId × FieldType)))) s := vK_perm (vK_fb hK) (bP ((((List.Perm.refl _)).cons _).trans (List.Perm.swap _ _ _)))
    refine lv_aload_n hx hb dX7_readShortCut_77 rfl (lv_at hl 1 rfl) ?_
    refine va_get (D := (dC, dI)) (ci := 1) (v := .ref (p0a 3)) (C := RX7) (T := TX7) (N := 18) hx hb hts i_X7 hown hK hP 0 rfl rfl 2 (by decide) (hts _ qw26) (fun _ h9 => h9) rfl dX7_readShortCut_78 ?_
    refine lv_iload_n hx hb dX7_readShortCut_81 rfl (lv_at hl 4 rfl) ?_
    obtain ⟨o_12, hc_12, hrun⟩ := bnd9 hrun
    have hPx : va_P (dC, dI) cls ((List.flatten ([(oX6 (p0a 3) p0_2a p0_2k o_11 p0_2l)] : List va_W)) ++ (List.flatten ([(oX7 (p0a 0) p0a p0k (o_8.2.1) (o_8.2.2.1)), (oX10 (p0a 2) p0_1a p0_1k (o_8.2.2.2.2.1) (o_8.2.2.2.2.2))] : List va_W))) H := vP_fa (vP_perm hP (bP ((((List.Perm.refl _)).cons _).trans (List.Perm.swap _ _ _))))
    have hDx : va_D A ((List.flatten ([(oX6 (p0a 3) p0_2a p0_2k o_11 p0_2l)] : List va_W)) ++ (List.flatten ([(oX7 (p0a 0) p0a p0k (o_8.2.1) (o_8.2.2.1)), (oX10 (p0a 2) p0_1a p0_1k (o_8.2.2.2.2.1) (o_8.2.2.2.2.2))] : List va_W))) := vD_fa (vD_perm hD (bP ((((List.Perm.refl _)).cons _).trans (List.Perm.swap _ _ _))))
    have hKx : va_K (dC, dI) cls ((List.flatten ([(tX6 p0_2k)] : List (List (ClassId × FieldType)))) ++ (List.flatten ([(tX7 p0k), (tX10 p0_1k)] : List (List (ClassId × FieldType))))) s := vK_fa (vK_perm hK (bP ((((List.Perm.refl _)).cons _).trans (List.Perm.swap _ _ _))))
    have hPc := vP_l hPx
    have hDc := vD_l hDx
    have hKc := vK_l hKx
    have hFc := vfree hDx hS hA
    refine va_callv (va_runV (As := [.int (o_3.1)]) (rest := []) ⟨hx, hb, hml, hown, hts⟩ (kX6_putLabel l dC dI (p0a := (st0 (p0a 3) p0_2a)) (p0k := p0_2k) (p0w := o_11) (p0l := p0_2l) (p1 := (o_3.1)) (sz := _) (o := o_12) (hrun := hc_12)) (cwV 1 hts (gi_V qw1434 qw1435 qw1436 qw33 (gi_z qw1433)) rfl rfl rfl (by decide +kernel) ⟨rmF (Nat.le_of_ble_eq_true rfl), rmL (Nat.le_of_ble_eq_true rfl)⟩) ⟨PRE.blind, va_recv hKc hPc (ci := 2) (q0 := 0) rfl rfl, PRE.of hE hS hFc hPc hKc hDc⟩ rfl rfl hl.1 rfl (lv_room (Nat.le_of_ble_eq_true rfl)) dX7_readShortCut_82 ⟨(Nat.le_of_ble_eq_true rfl), (Nat.le_of_ble_eq_true rfl)⟩) hS (fun q _ h => hFc q h) hFc (fun u t H locs ht hvm hw hB hz1 hk1 hS => ?_)
    obtain ⟨b1, b2, b3⟩ := hB
    rw [ht] at b1
    obtain ⟨hP, hD, hK⟩ := JOINC (wc := (List.flatten ([(oX6 (p0a 3) p0_2a p0_2k o_11 p0_2l)] : List va_W))) (wr := (List.flatten ([(oX7 (p0a 0) p0a p0k (o_8.2.1) (o_8.2.2.1)), (oX10 (p0a 2) p0_1a p0_1k (o_8.2.2.2.2.1) (o_8.2.2.2.2.2))] : List va_W))) (w1 := (List.flatten ([(oX6 (p0a 3) p0_2a p0_2k o_12 p0_2l)] : List va_W))) (t1 := (List.flatten ([(tX6 p0_2k)] : List (List (ClassId × FieldType))))) hPx hDx hKx hk1 hFc b1 (va_K.moved hvm.symm b2) b3
    have hP : va_P (dC, dI) cls (List.flatten ([(oX7 (p0a 0) p0a p0k (o_8.2.1) (o_8.2.2.1)), (oX6 (p0a 3) p0_2a p0_2k o_12 p0_2l), (oX10 (p0a 2) p0_1a p0_1k (o_8.2.2.2.2.1) (o_8.2.2.2.2.2))] : List va_W)) H := vP_perm (vP_fb hP) (bP ((((List.Perm.refl _)).cons _).trans (List.Perm.swap _ _ _)))
    have hD : va_D A (List.flatten ([(oX7 (p0a 0) p0a p0k (o_8.2.1) (o_8.2.2.1)), (oX6 (p0a 3) p0_2a p0_2k o_12 p0_2l), (oX10 (p0a 2) p0_1a p0_1k (o_8.2.2.2.2.1) (o_8.2.2.2.2.2))] : List va_W)) := vD_perm (vD_fb hD) (bP ((((List.Perm.refl _)).cons _).trans (List.Perm.swap _ _ _)))
    have hK : va_K (dC, dI) cls (List.flatten ([(tX7 p0k), (tX6 p0_2k), (tX10 p0_1k)] : List (List (ClassId × FieldType)))) s := vK_perm (vK_fb hK) (bP ((((List.Perm.refl _)).cons _).trans (List.Perm.swap _ _ _)))
    refine lv_aload_n hx hb dX7_readShortCut_85 rfl (lv_at hl 1 rfl) ?_
    refine va_get (D := (dC, dI)) (ci := 1) (v := .ref (p0a 3)) (C := RX7) (T := TX7) (N := 18) hx hb hts i_X7 hown hK hP 0 rfl rfl 2 (by decide) (hts _ qw26) (fun _ h9 => h9) rfl dX7_readShortCut_86 ?_
    refine lv_bipush (v := 30) hx hb dX7_readShortCut_89 (by decide) ?_
    refine lv_iload_n hx hb dX7_readShortCut_91 rfl (lv_at hl 3 rfl) ?_
    refine lv_iconst (v := 0) hx hb dX7_readShortCut_92 (by decide) ?_
    obtain ⟨o_13, hc_13, hrun⟩ := bnd9 hrun
    have hPx : va_P (dC, dI) cls ((List.flatten ([(oX6 (p0a 3) p0_2a p0_2k o_12 p0_2l)] : List va_W)) ++ (List.flatten ([(oX7 (p0a 0) p0a p0k (o_8.2.1) (o_8.2.2.1)), (oX10 (p0a 2) p0_1a p0_1k (o_8.2.2.2.2.1) (o_8.2.2.2.2.2))] : List va_W))) H := vP_fa (vP_perm hP (bP ((((List.Perm.refl _)).cons _).trans (List.Perm.swap _ _ _))))
    have hDx : va_D A ((List.flatten ([(oX6 (p0a 3) p0_2a p0_2k o_12 p0_2l)] : List va_W)) ++ (List.flatten ([(oX7 (p0a 0) p0a p0k (o_8.2.1) (o_8.2.2.1)), (oX10 (p0a 2) p0_1a p0_1k (o_8.2.2.2.2.1) (o_8.2.2.2.2.2))] : List va_W))) := vD_fa (vD_perm hD (bP ((((List.Perm.refl _)).cons _).trans (List.Perm.swap _ _ _))))
    have hKx : va_K (dC, dI) cls ((List.flatten ([(tX6 p0_2k)] : List (List (ClassId × FieldType)))) ++ (List.flatten ([(tX7 p0k), (tX10 p0_1k)] : List (List (ClassId × FieldType))))) s := vK_fa (vK_perm hK (bP ((((List.Perm.refl _)).cons _).trans (List.Perm.swap _ _ _))))
    have hPc := vP_l hPx
    have hDc := vD_l hDx
    have hKc := vK_l hKx
    have hFc := vfree hDx hS hA
    refine va_callv (va_runV (As := [.int 30, .int (o_1.1), .int 0]) (rest := []) ⟨hx, hb, hml, hown, hts⟩ (kX6_emit l dC dI (p0a := (st0 (p0a 3) p0_2a)) (p0k := p0_2k) (p0w := o_12) (p0l := p0_2l) (p1 := 30) (p2 := (o_1.1)) (p3 := 0) (sz := _) (o := o_13) (hrun := hc_13)) (cwV 3 hts (gi_V qw42 qw43 qw44 qw33 (gi_z qw41)) rfl rfl rfl (by decide +kernel) ⟨rmF (Nat.le_of_ble_eq_true rfl), rmL (Nat.le_of_ble_eq_true rfl)⟩) ⟨PRE.blind, va_recv hKc hPc (ci := 2) (q0 := 0) rfl rfl, PRE.of hE hS hFc hPc hKc hDc⟩ rfl rfl hl.1 rfl (lv_room (Nat.le_of_ble_eq_true rfl)) dX7_readShortCut_93 ⟨(Nat.le_of_ble_eq_true rfl), (Nat.le_of_ble_eq_true rfl)⟩) hS (fun q _ h => hFc q h) hFc (fun u t H locs ht hvm hw hB hz1 hk1 hS => ?_)
    obtain ⟨b1, b2, b3⟩ := hB
    rw [ht] at b1
    obtain ⟨hP, hD, hK⟩ := JOINC (wc := (List.flatten ([(oX6 (p0a 3) p0_2a p0_2k o_12 p0_2l)] : List va_W))) (wr := (List.flatten ([(oX7 (p0a 0) p0a p0k (o_8.2.1) (o_8.2.2.1)), (oX10 (p0a 2) p0_1a p0_1k (o_8.2.2.2.2.1) (o_8.2.2.2.2.2))] : List va_W))) (w1 := (List.flatten ([(oX6 (p0a 3) p0_2a p0_2k o_13 p0_2l)] : List va_W))) (t1 := (List.flatten ([(tX6 p0_2k)] : List (List (ClassId × FieldType))))) hPx hDx hKx hk1 hFc b1 (va_K.moved hvm.symm b2) b3
    have hP : va_P (dC, dI) cls (List.flatten ([(oX7 (p0a 0) p0a p0k (o_8.2.1) (o_8.2.2.1)), (oX6 (p0a 3) p0_2a p0_2k o_13 p0_2l), (oX10 (p0a 2) p0_1a p0_1k (o_8.2.2.2.2.1) (o_8.2.2.2.2.2))] : List va_W)) H := vP_perm (vP_fb hP) (bP ((((List.Perm.refl _)).cons _).trans (List.Perm.swap _ _ _)))
    have hD : va_D A (List.flatten ([(oX7 (p0a 0) p0a p0k (o_8.2.1) (o_8.2.2.1)), (oX6 (p0a 3) p0_2a p0_2k o_13 p0_2l), (oX10 (p0a 2) p0_1a p0_1k (o_8.2.2.2.2.1) (o_8.2.2.2.2.2))] : List va_W)) := vD_perm (vD_fb hD) (bP ((((List.Perm.refl _)).cons _).trans (List.Perm.swap _ _ _)))
    have hK : va_K (dC, dI) cls (List.flatten ([(tX7 p0k), (tX6 p0_2k), (tX10 p0_1k)] : List (List (ClassId × FieldType)))) s := vK_perm (vK_fb hK) (bP ((((List.Perm.refl _)).cons _).trans (List.Perm.swap _ _ _)))
    refine lv_iload hx hb dX7_readShortCut_96 (lv_at hl 0 rfl) ?_
    have ho9 : ((o_8.1), (o_8.2.1), (o_8.2.2.1), o_13, (o_8.2.2.2.2.1), (o_8.2.2.2.2.2)) = o := Option.some.inj hrun
    have hP9 : va_P (dC, dI) cls (List.flatten ([(oX7 (p0a 0) p0a p0k (o.2.1) (o.2.2.1)), (oX6 (p0a 3) p0_2a p0_2k (o.2.2.2.1) p0_2l), (oX10 (p0a 2) p0_1a p0_1k (o.2.2.2.2.1) (o.2.2.2.2.2))] : List va_W)) H := by first | exact hP | (rw [← ho9]; exact hP)
    have hD9 : va_D A (List.flatten ([(oX7 (p0a 0) p0a p0k (o.2.1) (o.2.2.1)), (oX6 (p0a 3) p0_2a p0_2k (o.2.2.2.1) p0_2l), (oX10 (p0a 2) p0_1a p0_1k (o.2.2.2.2.1) (o.2.2.2.2.2))] : List va_W)) := by first | exact hD | (rw [← ho9]; exact hD)
    subst hQ
    exact W.iret (v := (o_8.1)) hx hb hr (fun t ht hW => ⟨⟨(o_8.1), (), rfl, (by rw [← ho9]), ⟨by rw [ht]; exact hP9, va_K.moved hW.alike hK, hD9⟩⟩, hS.F ht⟩) hS.2.2 dX7_readShortCut_98
  rcases br9 hrun with ⟨hc14, hrun⟩ | ⟨hc14, hrun⟩
  · refine lv_if_ne (tgt := 48) hx hb dX7_readShortCut_40 (by decide) (fun c => absurd hc14 c) (fun _ => ?_)
    refine lv_bipush (v := 34) hx hb dX7_readShortCut_43 (by decide) ?_
    refine lv_goto (tgt := 50) hx hb dX7_readShortCut_45 (by decide) ?_
    exact J50 34 _ _ _ hrun hP hD hK hS (lv_sub hl [2, 3, 1, 0] rfl)
  · refine lv_if_ne (tgt := 48) hx hb dX7_readShortCut_40 (by decide) (fun _ => ?_) (fun c => absurd c hc14)
    refine lv_bipush (v := 33) hx hb dX7_readShortCut_48 (by decide) ?_
    exact J50 33 _ _ _ hrun hP hD hK hS (lv_sub hl [2, 3, 1, 0] rfl)
set_option maxHeartbeats 16000000 in
set_option maxRecDepth 100000 in
theorem kX7_readSigned {zs : ZS} (l : Launch) (kk_readSingle : ST → SL → ST → SL → ST → SL → Option (Int32 × ST × SL × ST × ST × SL)) (F9 L9 : Nat) (hkk_readSingle : ∀ {zs : ZS} (dC : Nat → ClassId) (dI : Nat → Nat → Nat) (p0a : Nat → Nat) (p0k : Nat → ClassId) (p0w : ST) (p0l : SL) (aK : Nat → Nat) (aV : Nat → Nat) (p0_2a : Nat → Nat) (p0_2k : Nat → ClassId) (p0_2w : ST) (p0_2l : SL) (p0_1a : Nat → Nat) (p0_1k : Nat → ClassId) (p0_1w : ST) (p0_1l : SL) (sz : Nat) (o : Int32 × ST × SL × ST × ST × SL) (hrun : kk_readSingle p0w p0l p0_2w p0_2l p0_1w p0_1l = some o), Met l yX7_readSingle (wz yX7_readSingle cX7_readSingle 5 (Option.some Jvm.ClassFile.FieldType.int)) ({ frames := F9, cells := 0, slots := 0, locals := L9 } : Room) (va_Pc [.ref (p0a 0)] (PRE (zA zs (st9 aK aV)) dC dI (List.flatten ([(oX7 (p0a 0) p0a p0k p0w p0l), (oX6 (p0a 3) p0_2a p0_2k p0_2w p0_2l), (oX10 (p0a 2) p0_1a p0_1k p0_1w p0_1l)] : List va_W)) (List.flatten ([(tX7 p0k), (tX6 p0_2k), (tX10 p0_1k)] : List (List (ClassId × FieldType)))) sz)) (va_Qi (fun (r : Int32) (_ : Unit) => r = (o.1)) (fun _ t => POST dC dI (List.flatten ([(oX7 (p0a 0) p0a p0k (o.2.1) (o.2.2.1)), (oX6 (p0a 3) p0_2a p0_2k (o.2.2.2.1) p0_2l), (oX10 (p0a 2) p0_1a p0_1k (o.2.2.2.2.1) (o.2.2.2.2.2))] : List va_W)) (List.flatten ([(tX7 p0k), (tX6 p0_2k), (tX10 p0_1k)] : List (List (ClassId × FieldType)))) (va_A (List.flatten ([(oX7 (p0a 0) p0a p0k p0w p0l), (oX6 (p0a 3) p0_2a p0_2k p0_2w p0_2l), (oX10 (p0a 2) p0_1a p0_1k p0_1w p0_1l)] : List va_W)) sz) t) (va_A (List.flatten ([(oX7 (p0a 0) p0a p0k p0w p0l), (oX6 (p0a 3) p0_2a p0_2k p0_2w p0_2l), (oX10 (p0a 2) p0_1a p0_1k p0_1w p0_1l)] : List va_W)) sz)) 0 0 (va_A (List.flatten ([(oX7 (p0a 0) p0a p0k p0w p0l), (oX6 (p0a 3) p0_2a p0_2k p0_2w p0_2l), (oX10 (p0a 2) p0_1a p0_1k p0_1w p0_1l)] : List va_W)) sz)) (dC : Nat → ClassId) (dI : Nat → Nat → Nat) (p0a : Nat → Nat) (p0k : Nat → ClassId) (p0w : ST) (p0l : SL) (aK : Nat → Nat) (aV : Nat → Nat) (p0_2a : Nat → Nat) (p0_2k : Nat → ClassId) (p0_2w : ST) (p0_2l : SL) (p0_1a : Nat → Nat) (p0_1k : Nat → ClassId) (p0_1w : ST) (p0_1l : SL) (sz : Nat) (o : Int32 × ST × SL × ST × ST × SL) (hrun : fX7_readSigned kk_readSingle p0w p0l p0_2w p0_2l p0_1w p0_1l = some o) : Met l yX7_readSigned (wz yX7_readSigned cX7_readSigned 5 (Option.some Jvm.ClassFile.FieldType.int)) ({ frames := F9 + 8, cells := 0, slots := 0, locals := L9 + 400 } : Room) (va_Pc [.ref (p0a 0)] (PRE (zA zs (st9 aK aV)) dC dI (List.flatten ([(oX7 (p0a 0) p0a p0k p0w p0l), (oX6 (p0a 3) p0_2a p0_2k p0_2w p0_2l), (oX10 (p0a 2) p0_1a p0_1k p0_1w p0_1l)] : List va_W)) (List.flatten ([(tX7 p0k), (tX6 p0_2k), (tX10 p0_1k)] : List (List (ClassId × FieldType)))) sz)) (va_Qi (fun (r : Int32) (_ : Unit) => r = (o.1)) (fun _ t => POST dC dI (List.flatten ([(oX7 (p0a 0) p0a p0k (o.2.1) (o.2.2.1)), (oX6 (p0a 3) p0_2a p0_2k (o.2.2.2.1) p0_2l), (oX10 (p0a 2) p0_1a p0_1k (o.2.2.2.2.1) (o.2.2.2.2.2))] : List va_W)) (List.flatten ([(tX7 p0k), (tX6 p0_2k), (tX10 p0_1k)] : List (List (ClassId × FieldType)))) (va_A (List.flatten ([(oX7 (p0a 0) p0a p0k p0w p0l), (oX6 (p0a 3) p0_2a p0_2k p0_2w p0_2l), (oX10 (p0a 2) p0_1a p0_1k p0_1w p0_1l)] : List va_W)) sz) t) (va_A (List.flatten ([(oX7 (p0a 0) p0a p0k p0w p0l), (oX6 (p0a 3) p0_2a p0_2k p0_2w p0_2l), (oX10 (p0a 2) p0_1a p0_1k p0_1w p0_1l)] : List va_W)) sz)) 0 0 (va_A (List.flatten ([(oX7 (p0a 0) p0a p0k p0w p0l), (oX6 (p0a 3) p0_2a p0_2k p0_2w p0_2l), (oX10 (p0a 2) p0_1a p0_1k p0_1w p0_1l)] : List va_W)) sz) := by
  refine Met.ofW (cc := cX7_readSigned) (maxL := 5) (ret := (Option.some Jvm.ClassFile.FieldType.int)) (by decide) rfl ?_
  intro p e s m args below meth c s₁ B hml hv
  obtain ⟨rfl, hsz, hP, hK, hD0, hE⟩ := hv
  have hx := B.exec
  have hb := B.bytes
  have hr := B.returns
  have hts0 := atoms_spec (ws := wz yX7_readSigned cX7_readSigned 5 (Option.some Jvm.ClassFile.FieldType.int)) B.pre
  have hts : ∀ w ∈ gw, w.before _ s = true := fun w h => hts0 w (List.mem_cons_of_mem _ h)
  have hown : s.vm.findClass RX7 = some m.cls := findClass_of_methodNamed B.named
  have hlocks := B.notSynchronized
  subst hsz
  have hD := hD0.self (sz := s.heap.size)
  refine gQ9 ?_
  intro Q hQ
  generalize hAe : va_A (List.flatten ([(oX7 (p0a 0) p0a p0k p0w p0l), (oX6 (p0a 3) p0_2a p0_2k p0_2w p0_2l), (oX10 (p0a 2) p0_1a p0_1k p0_1w p0_1l)] : List va_W)) s.heap.size = A at hD hE hQ
  have hA : ∀ q : Nat, s.heap.size ≤ q → A q := fun q h => by rw [← hAe]; exact Or.inr h
  have hro := ENV.ex hE
  have hro_st := hro.2
  replace hro := hro.1
  have hS : va_S A s.heap s.heap [] := va_S.rf
  have hP : va_P (dC, dI) cls (List.flatten ([(oX7 (p0a 0) p0a p0k p0w p0l), (oX6 (p0a 3) p0_2a p0_2k p0_2w p0_2l), (oX10 (p0a 2) p0_1a p0_1k p0_1w p0_1l)] : List va_W)) s.heap := hP
  have hl := lv_entry ([.ref (p0a 0)]) (n := 5) (Nat.le_of_ble_eq_true rfl)
  rw [lg_entry_eq]
  generalize (lg_sl ([.ref (p0a 0)]) ++ List.replicate (5 - (lg_sl ([.ref (p0a 0)])).length) Slot.unset).toArray = ls at hl ⊢
  have hl : lv_has ls 5 [(0, .ref (p0a 0))] := hl
  obtain ⟨H, hHe⟩ : ∃ H, H = s.heap := ⟨_, rfl⟩
  obtain ⟨locs, hle⟩ : ∃ locs : List Loc, locs = [] := ⟨_, rfl⟩
  rw [← hHe] at hP
  have hS : va_S A s.heap H locs := by rw [hHe, hle]; exact hS
  show W p l e ({ frames := F9 + 8, cells := 0, slots := 0, locals := L9 + 400 } : Room) s m ([.ref (p0a 0)] : List Value).toArray below meth c s.heap [] 0 0 Q (F0 m 0 ls [])
  rw [← hle]
  refine wH9 hHe ?_
  unfold fX7_readSigned at hrun
  refine lv_aload_n hx hb dX7_readSigned_0 rfl (lv_at hl 0 rfl) ?_
  refine va_get (D := (dC, dI)) (ci := 1) (v := .ref (p0a 2)) (C := RX7) (T := TX7) (N := 18) hx hb hts i_X7 hown hK hP 0 rfl rfl 1 (by decide) (hts _ qw45) (fun _ h9 => h9) rfl dX7_readSigned_1 ?_
  refine va_get (D := (dC, dI)) (ci := 0) (v := .int (p0_1w 0 2)) (C := RX10) (T := TX10) (N := 8) hx hb hts i_X10 hown hK hP 20 rfl rfl 2 (by decide) (hts _ qw46) (fun _ h9 => h9) rfl dX7_readSigned_4 ?_
  refine lv_istore_n (lv' := [(1, .int (p0_1w 0 2)), (0, .ref (p0a 0))]) hx hb dX7_readSigned_7 rfl hl (by decide) rfl (fun ls hl => ?_)
  refine lv_aload_n hx hb dX7_readSigned_8 rfl (lv_at hl 1 rfl) ?_
  refine va_get (D := (dC, dI)) (ci := 1) (v := .ref (p0a 2)) (C := RX7) (T := TX7) (N := 18) hx hb hts i_X7 hown hK hP 0 rfl rfl 1 (by decide) (hts _ qw45) (fun _ h9 => h9) rfl dX7_readSigned_9 ?_
  refine va_get (D := (dC, dI)) (ci := 0) (v := .int (p0_1w 0 3)) (C := RX10) (T := TX10) (N := 8) hx hb hts i_X10 hown hK hP 20 rfl rfl 3 (by decide) (hts _ qw69) (fun _ h9 => h9) rfl dX7_readSigned_12 ?_
  refine lv_istore_n (lv' := [(2, .int (p0_1w 0 3)), (1, .int (p0_1w 0 2)), (0, .ref (p0a 0))]) hx hb dX7_readSigned_15 rfl hl (by decide) rfl (fun ls hl => ?_)
  refine lv_iload_n hx hb dX7_readSigned_16 rfl (lv_at hl 1 rfl) ?_
  refine lv_bipush (v := 45) hx hb dX7_readSigned_17 (by decide) ?_
  rcases br9 hrun with ⟨hc1, hrun⟩ | ⟨hc1, hrun⟩
  · refine lv_icmp_ne (tgt := 61) hx hb dX7_readSigned_19 (by decide) (fun c => absurd hc1 c) (fun _ => ?_)
    refine lv_aload_n hx hb dX7_readSigned_22 rfl (lv_at hl 2 rfl) ?_
    refine va_get (D := (dC, dI)) (ci := 1) (v := .ref (p0a 2)) (C := RX7) (T := TX7) (N := 18) hx hb hts i_X7 hown hK hP 0 rfl rfl 1 (by decide) (hts _ qw45) (fun _ h9 => h9) rfl dX7_readSigned_23 ?_
    obtain ⟨o_2, hc_2, hrun⟩ := bnd9 hrun
    have hPx : va_P (dC, dI) cls ((List.flatten ([(oX10 (p0a 2) p0_1a p0_1k p0_1w p0_1l)] : List va_W)) ++ (List.flatten ([(oX7 (p0a 0) p0a p0k p0w p0l), (oX6 (p0a 3) p0_2a p0_2k p0_2w p0_2l)] : List va_W))) H := vP_fa (vP_perm hP (bP (((((((List.Perm.refl _)).cons _).trans (List.Perm.swap _ _ _))).cons _).trans (List.Perm.swap _ _ _))))
    have hDx : va_D A ((List.flatten ([(oX10 (p0a 2) p0_1a p0_1k p0_1w p0_1l)] : List va_W)) ++ (List.flatten ([(oX7 (p0a 0) p0a p0k p0w p0l), (oX6 (p0a 3) p0_2a p0_2k p0_2w p0_2l)] : List va_W))) := vD_fa (vD_perm hD (bP (((((((List.Perm.refl _)).cons _).trans (List.Perm.swap _ _ _))).cons _).trans (List.Perm.swap _ _ _))))
    have hKx : va_K (dC, dI) cls ((List.flatten ([(tX10 p0_1k)] : List (List (ClassId × FieldType)))) ++ (List.flatten ([(tX7 p0k), (tX6 p0_2k)] : List (List (ClassId × FieldType))))) s := vK_fa (vK_perm hK (bP (((((((List.Perm.refl _)).cons _).trans (List.Perm.swap _ _ _))).cons _).trans (List.Perm.swap _ _ _))))
    have hPc := vP_l hPx
    have hDc := vD_l hDx
    have hKc := vK_l hKx
    have hFc := vfree hDx hS hA
    refine va_callv (va_runV (As := []) (rest := []) ⟨hx, hb, hml, hown, hts⟩ (kX10_advance l dC dI (p0a := (st0 (p0a 2) p0_1a)) (p0k := p0_1k) (p0w := p0_1w) (p0l := p0_1l) (aK := aK) (aV := aV) (sz := _) (o := o_2) (hrun := hc_2)) (cwV 0 hts (gi_V qw1384 qw1382 qw1383 qw8 (gi_z qw1380)) rfl rfl rfl (by decide +kernel) ⟨rmF (Nat.le_of_ble_eq_true rfl), rmL (Nat.le_of_ble_eq_true rfl)⟩) ⟨PRE.blind, va_recv hKc hPc (ci := 0) (q0 := 0) rfl rfl, PRE.of (ENV.add hE st9_m hro_st) hS hFc hPc hKc hDc⟩ rfl rfl hl.1 rfl (lv_room (Nat.le_of_ble_eq_true rfl)) dX7_readSigned_26 ⟨(Nat.le_of_ble_eq_true rfl), (Nat.le_of_ble_eq_true rfl)⟩) hS (fun q _ h => hFc q h) hFc (fun u t H locs ht hvm hw hB hz1 hk1 hS => ?_)
    obtain ⟨b1, b2, b3⟩ := hB
    rw [ht] at b1
    obtain ⟨hP, hD, hK⟩ := JOINC (wc := (List.flatten ([(oX10 (p0a 2) p0_1a p0_1k p0_1w p0_1l)] : List va_W))) (wr := (List.flatten ([(oX7 (p0a 0) p0a p0k p0w p0l), (oX6 (p0a 3) p0_2a p0_2k p0_2w p0_2l)] : List va_W))) (w1 := (List.flatten ([(oX10 (p0a 2) p0_1a p0_1k (o_2.1) (o_2.2))] : List va_W))) (t1 := (List.flatten ([(tX10 p0_1k)] : List (List (ClassId × FieldType))))) hPx hDx hKx hk1 hFc b1 (va_K.moved hvm.symm b2) b3
    have hP : va_P (dC, dI) cls (List.flatten ([(oX7 (p0a 0) p0a p0k p0w p0l), (oX6 (p0a 3) p0_2a p0_2k p0_2w p0_2l), (oX10 (p0a 2) p0_1a p0_1k (o_2.1) (o_2.2))] : List va_W)) H := vP_perm (vP_fb hP) (bP ((((((List.Perm.refl _)).cons _).trans (List.Perm.swap _ _ _))).trans ((((((List.Perm.refl _)).cons _).trans (List.Perm.swap _ _ _))).cons _)))
    have hD : va_D A (List.flatten ([(oX7 (p0a 0) p0a p0k p0w p0l), (oX6 (p0a 3) p0_2a p0_2k p0_2w p0_2l), (oX10 (p0a 2) p0_1a p0_1k (o_2.1) (o_2.2))] : List va_W)) := vD_perm (vD_fb hD) (bP ((((((List.Perm.refl _)).cons _).trans (List.Perm.swap _ _ _))).trans ((((((List.Perm.refl _)).cons _).trans (List.Perm.swap _ _ _))).cons _)))
    have hK : va_K (dC, dI) cls (List.flatten ([(tX7 p0k), (tX6 p0_2k), (tX10 p0_1k)] : List (List (ClassId × FieldType)))) s := vK_perm (vK_fb hK) (bP ((((((List.Perm.refl _)).cons _).trans (List.Perm.swap _ _ _))).trans ((((((List.Perm.refl _)).cons _).trans (List.Perm.swap _ _ _))).cons _)))
    refine lv_aload_n hx hb dX7_readSigned_29 rfl (lv_at hl 2 rfl) ?_
    refine va_get (D := (dC, dI)) (ci := 1) (v := .ref (p0a 3)) (C := RX7) (T := TX7) (N := 18) hx hb hts i_X7 hown hK hP 0 rfl rfl 2 (by decide) (hts _ qw26) (fun _ h9 => h9) rfl dX7_readSigned_30 ?_
    refine lv_iconst (v := 0) hx hb dX7_readSigned_33 (by decide) ?_
    refine lv_iconst (v := 0) hx hb dX7_readSigned_34 (by decide) ?_
    refine lv_iconst (v := 1) hx hb dX7_readSigned_35 (by decide) ?_
    obtain ⟨o_3, hc_3, hrun⟩ := bnd9 hrun
    have hPx : va_P (dC, dI) cls ((List.flatten ([(oX6 (p0a 3) p0_2a p0_2k p0_2w p0_2l)] : List va_W)) ++ (List.flatten ([(oX7 (p0a 0) p0a p0k p0w p0l), (oX10 (p0a 2) p0_1a p0_1k (o_2.1) (o_2.2))] : List va_W))) H := vP_fa (vP_perm hP (bP ((((List.Perm.refl _)).cons _).trans (List.Perm.swap _ _ _))))
    have hDx : va_D A ((List.flatten ([(oX6 (p0a 3) p0_2a p0_2k p0_2w p0_2l)] : List va_W)) ++ (List.flatten ([(oX7 (p0a 0) p0a p0k p0w p0l), (oX10 (p0a 2) p0_1a p0_1k (o_2.1) (o_2.2))] : List va_W))) := vD_fa (vD_perm hD (bP ((((List.Perm.refl _)).cons _).trans (List.Perm.swap _ _ _))))
    have hKx : va_K (dC, dI) cls ((List.flatten ([(tX6 p0_2k)] : List (List (ClassId × FieldType)))) ++ (List.flatten ([(tX7 p0k), (tX10 p0_1k)] : List (List (ClassId × FieldType))))) s := vK_fa (vK_perm hK (bP ((((List.Perm.refl _)).cons _).trans (List.Perm.swap _ _ _))))
    have hPc := vP_l hPx
    have hDc := vD_l hDx
    have hKc := vK_l hKx
    have hFc := vfree hDx hS hA
    refine va_callv (va_runV (As := [.int 0, .int 0, .int 1]) (rest := []) ⟨hx, hb, hml, hown, hts⟩ (kX6_emit l dC dI (p0a := (st0 (p0a 3) p0_2a)) (p0k := p0_2k) (p0w := p0_2w) (p0l := p0_2l) (p1 := 0) (p2 := 0) (p3 := 1) (sz := _) (o := o_3) (hrun := hc_3)) (cwV 3 hts (gi_V qw42 qw43 qw44 qw33 (gi_z qw41)) rfl rfl rfl (by decide +kernel) ⟨rmF (Nat.le_of_ble_eq_true rfl), rmL (Nat.le_of_ble_eq_true rfl)⟩) ⟨PRE.blind, va_recv hKc hPc (ci := 2) (q0 := 0) rfl rfl, PRE.of hE hS hFc hPc hKc hDc⟩ rfl rfl hl.1 rfl (lv_room (Nat.le_of_ble_eq_true rfl)) dX7_readSigned_36 ⟨(Nat.le_of_ble_eq_true rfl), (Nat.le_of_ble_eq_true rfl)⟩) hS (fun q _ h => hFc q h) hFc (fun u t H locs ht hvm hw hB hz1 hk1 hS => ?_)
    obtain ⟨b1, b2, b3⟩ := hB
    rw [ht] at b1
    obtain ⟨hP, hD, hK⟩ := JOINC (wc := (List.flatten ([(oX6 (p0a 3) p0_2a p0_2k p0_2w p0_2l)] : List va_W))) (wr := (List.flatten ([(oX7 (p0a 0) p0a p0k p0w p0l), (oX10 (p0a 2) p0_1a p0_1k (o_2.1) (o_2.2))] : List va_W))) (w1 := (List.flatten ([(oX6 (p0a 3) p0_2a p0_2k o_3 p0_2l)] : List va_W))) (t1 := (List.flatten ([(tX6 p0_2k)] : List (List (ClassId × FieldType))))) hPx hDx hKx hk1 hFc b1 (va_K.moved hvm.symm b2) b3
    have hP : va_P (dC, dI) cls (List.flatten ([(oX7 (p0a 0) p0a p0k p0w p0l), (oX6 (p0a 3) p0_2a p0_2k o_3 p0_2l), (oX10 (p0a 2) p0_1a p0_1k (o_2.1) (o_2.2))] : List va_W)) H := vP_perm (vP_fb hP) (bP ((((List.Perm.refl _)).cons _).trans (List.Perm.swap _ _ _)))
    have hD : va_D A (List.flatten ([(oX7 (p0a 0) p0a p0k p0w p0l), (oX6 (p0a 3) p0_2a p0_2k o_3 p0_2l), (oX10 (p0a 2) p0_1a p0_1k (o_2.1) (o_2.2))] : List va_W)) := vD_perm (vD_fb hD) (bP ((((List.Perm.refl _)).cons _).trans (List.Perm.swap _ _ _)))
    have hK : va_K (dC, dI) cls (List.flatten ([(tX7 p0k), (tX6 p0_2k), (tX10 p0_1k)] : List (List (ClassId × FieldType)))) s := vK_perm (vK_fb hK) (bP ((((List.Perm.refl _)).cons _).trans (List.Perm.swap _ _ _)))
    refine lv_aload_n hx hb dX7_readSigned_39 rfl (lv_at hl 2 rfl) ?_
    obtain ⟨o_4, hc_4, hrun⟩ := bnd9 hrun
    have hPx : va_P (dC, dI) cls ((List.flatten ([(oX7 (p0a 0) p0a p0k p0w p0l), (oX6 (p0a 3) p0_2a p0_2k o_3 p0_2l), (oX10 (p0a 2) p0_1a p0_1k (o_2.1) (o_2.2))] : List va_W)) ++ (List.flatten ([] : List va_W))) H := vP_fa (vP_perm hP (bP (List.Perm.refl _)))
    have hDx : va_D A ((List.flatten ([(oX7 (p0a 0) p0a p0k p0w p0l), (oX6 (p0a 3) p0_2a p0_2k o_3 p0_2l), (oX10 (p0a 2) p0_1a p0_1k (o_2.1) (o_2.2))] : List va_W)) ++ (List.flatten ([] : List va_W))) := vD_fa (vD_perm hD (bP (List.Perm.refl _)))
    have hKx : va_K (dC, dI) cls ((List.flatten ([(tX7 p0k), (tX6 p0_2k), (tX10 p0_1k)] : List (List (ClassId × FieldType)))) ++ (List.flatten ([] : List (List (ClassId × FieldType))))) s := vK_fa (vK_perm hK (bP (List.Perm.refl _)))
    have hPc := vP_l hPx
    have hDc := vD_l hDx
    have hKc := vK_l hKx
    have hFc := vfree hDx hS hA
    refine va_calli (va_runV (As := []) (rest := []) ⟨hx, hb, hml, hown, hts⟩ (hkk_readSingle dC dI (p0a := p0a) (p0k := p0k) (p0w := p0w) (p0l := p0l) (aK := aK) (aV := aV) (p0_2a := p0_2a) (p0_2k := p0_2k) (p0_2w := o_3) (p0_2l := p0_2l) (p0_1a := p0_1a) (p0_1k := p0_1k) (p0_1w := (o_2.1)) (p0_1l := (o_2.2)) (sz := _) (o := o_4) (hrun := hc_4)) (cwV 0 hts (gi_V qw1458 qw1459 qw1460 qw65 (gi_z qw1457)) rfl rfl rfl (by decide +kernel) ⟨rmF9, rmL9 (n := 24) (Nat.le_of_ble_eq_true rfl)⟩) ⟨PRE.blind, va_recv hKc hPc (ci := 1) (q0 := 0) rfl rfl, PRE.of (ENV.add hE st9_m hro_st) hS hFc hPc hKc hDc⟩ rfl rfl hl.1 rfl (lv_room (Nat.le_of_ble_eq_true rfl)) dX7_readSigned_40 ⟨(Nat.le_of_ble_eq_true rfl), (Nat.le_of_ble_eq_true rfl)⟩) hS (fun q _ h => hFc q h) hFc (fun r5 u t H locs ht hvm hw hB hz1 hk1 hS => ?_)
    obtain ⟨b1, b2, b3⟩ := hB
    rw [ht] at b1
    obtain ⟨hP, hD, hK⟩ := JOINC (wc := (List.flatten ([(oX7 (p0a 0) p0a p0k p0w p0l), (oX6 (p0a 3) p0_2a p0_2k o_3 p0_2l), (oX10 (p0a 2) p0_1a p0_1k (o_2.1) (o_2.2))] : List va_W))) (wr := (List.flatten ([] : List va_W))) (w1 := (List.flatten ([(oX7 (p0a 0) p0a p0k (o_4.2.1) (o_4.2.2.1)), (oX6 (p0a 3) p0_2a p0_2k (o_4.2.2.2.1) p0_2l), (oX10 (p0a 2) p0_1a p0_1k (o_4.2.2.2.2.1) (o_4.2.2.2.2.2))] : List va_W))) (t1 := (List.flatten ([(tX7 p0k), (tX6 p0_2k), (tX10 p0_1k)] : List (List (ClassId × FieldType))))) hPx hDx hKx hk1 hFc b1 (va_K.moved hvm.symm b2) b3
    have hP : va_P (dC, dI) cls (List.flatten ([(oX7 (p0a 0) p0a p0k (o_4.2.1) (o_4.2.2.1)), (oX6 (p0a 3) p0_2a p0_2k (o_4.2.2.2.1) p0_2l), (oX10 (p0a 2) p0_1a p0_1k (o_4.2.2.2.2.1) (o_4.2.2.2.2.2))] : List va_W)) H := vP_perm (vP_fb hP) (bP (List.Perm.refl _))
    have hD : va_D A (List.flatten ([(oX7 (p0a 0) p0a p0k (o_4.2.1) (o_4.2.2.1)), (oX6 (p0a 3) p0_2a p0_2k (o_4.2.2.2.1) p0_2l), (oX10 (p0a 2) p0_1a p0_1k (o_4.2.2.2.2.1) (o_4.2.2.2.2.2))] : List va_W)) := vD_perm (vD_fb hD) (bP (List.Perm.refl _))
    have hK : va_K (dC, dI) cls (List.flatten ([(tX7 p0k), (tX6 p0_2k), (tX10 p0_1k)] : List (List (ClassId × FieldType)))) s := vK_perm (vK_fb hK) (bP (List.Perm.refl _))
    obtain rfl : r5 = (o_4.1) := hw
    refine lv_istore_n (lv' := [(3, .int (o_4.1)), (2, .int (p0_1w 0 3)), (1, .int (p0_1w 0 2)), (0, .ref (p0a 0))]) hx hb dX7_readSigned_43 rfl hl (by decide) rfl (fun ls hl => ?_)
    refine lv_aload_n hx hb dX7_readSigned_44 rfl (lv_at hl 3 rfl) ?_
    refine va_get (D := (dC, dI)) (ci := 1) (v := .ref (p0a 3)) (C := RX7) (T := TX7) (N := 18) hx hb hts i_X7 hown hK hP 0 rfl rfl 2 (by decide) (hts _ qw26) (fun _ h9 => h9) rfl dX7_readSigned_45 ?_
    refine lv_iconst (v := 2) hx hb dX7_readSigned_48 (by decide) ?_
    refine lv_iconst (v := 0) hx hb dX7_readSigned_49 (by decide) ?_
    refine lv_iconst (v := 0) hx hb dX7_readSigned_50 (by decide) ?_
    obtain ⟨o_6, hc_6, hrun⟩ := bnd9 hrun
    have hPx : va_P (dC, dI) cls ((List.flatten ([(oX6 (p0a 3) p0_2a p0_2k (o_4.2.2.2.1) p0_2l)] : List va_W)) ++ (List.flatten ([(oX7 (p0a 0) p0a p0k (o_4.2.1) (o_4.2.2.1)), (oX10 (p0a 2) p0_1a p0_1k (o_4.2.2.2.2.1) (o_4.2.2.2.2.2))] : List va_W))) H := vP_fa (vP_perm hP (bP ((((List.Perm.refl _)).cons _).trans (List.Perm.swap _ _ _))))
    have hDx : va_D A ((List.flatten ([(oX6 (p0a 3) p0_2a p0_2k (o_4.2.2.2.1) p0_2l)] : List va_W)) ++ (List.flatten ([(oX7 (p0a 0) p0a p0k (o_4.2.1) (o_4.2.2.1)), (oX10 (p0a 2) p0_1a p0_1k (o_4.2.2.2.2.1) (o_4.2.2.2.2.2))] : List va_W))) := vD_fa (vD_perm hD (bP ((((List.Perm.refl _)).cons _).trans (List.Perm.swap _ _ _))))
    have hKx : va_K (dC, dI) cls ((List.flatten ([(tX6 p0_2k)] : List (List (ClassId × FieldType)))) ++ (List.flatten ([(tX7 p0k), (tX10 p0_1k)] : List (List (ClassId × FieldType))))) s := vK_fa (vK_perm hK (bP ((((List.Perm.refl _)).cons _).trans (List.Perm.swap _ _ _))))
    have hPc := vP_l hPx
    have hDc := vD_l hDx
    have hKc := vK_l hKx
    have hFc := vfree hDx hS hA
    refine va_callv (va_runV (As := [.int 2, .int 0, .int 0]) (rest := []) ⟨hx, hb, hml, hown, hts⟩ (kX6_emit l dC dI (p0a := (st0 (p0a 3) p0_2a)) (p0k := p0_2k) (p0w := (o_4.2.2.2.1)) (p0l := p0_2l) (p1 := 2) (p2 := 0) (p3 := 0) (sz := _) (o := o_6) (hrun := hc_6)) (cwV 3 hts (gi_V qw42 qw43 qw44 qw33 (gi_z qw41)) rfl rfl rfl (by decide +kernel) ⟨rmF (Nat.le_of_ble_eq_true rfl), rmL (Nat.le_of_ble_eq_true rfl)⟩) ⟨PRE.blind, va_recv hKc hPc (ci := 2) (q0 := 0) rfl rfl, PRE.of hE hS hFc hPc hKc hDc⟩ rfl rfl hl.1 rfl (lv_room (Nat.le_of_ble_eq_true rfl)) dX7_readSigned_51 ⟨(Nat.le_of_ble_eq_true rfl), (Nat.le_of_ble_eq_true rfl)⟩) hS (fun q _ h => hFc q h) hFc (fun u t H locs ht hvm hw hB hz1 hk1 hS => ?_)
    obtain ⟨b1, b2, b3⟩ := hB
    rw [ht] at b1
    obtain ⟨hP, hD, hK⟩ := JOINC (wc := (List.flatten ([(oX6 (p0a 3) p0_2a p0_2k (o_4.2.2.2.1) p0_2l)] : List va_W))) (wr := (List.flatten ([(oX7 (p0a 0) p0a p0k (o_4.2.1) (o_4.2.2.1)), (oX10 (p0a 2) p0_1a p0_1k (o_4.2.2.2.2.1) (o_4.2.2.2.2.2))] : List va_W))) (w1 := (List.flatten ([(oX6 (p0a 3) p0_2a p0_2k o_6 p0_2l)] : List va_W))) (t1 := (List.flatten ([(tX6 p0_2k)] : List (List (ClassId × FieldType))))) hPx hDx hKx hk1 hFc b1 (va_K.moved hvm.symm b2) b3
    have hP : va_P (dC, dI) cls (List.flatten ([(oX7 (p0a 0) p0a p0k (o_4.2.1) (o_4.2.2.1)), (oX6 (p0a 3) p0_2a p0_2k o_6 p0_2l), (oX10 (p0a 2) p0_1a p0_1k (o_4.2.2.2.2.1) (o_4.2.2.2.2.2))] : List va_W)) H := vP_perm (vP_fb hP) (bP ((((List.Perm.refl _)).cons _).trans (List.Perm.swap _ _ _)))
    have hD : va_D A (List.flatten ([(oX7 (p0a 0) p0a p0k (o_4.2.1) (o_4.2.2.1)), (oX6 (p0a 3) p0_2a p0_2k o_6 p0_2l), (oX10 (p0a 2) p0_1a p0_1k (o_4.2.2.2.2.1) (o_4.2.2.2.2.2))] : List va_W)) := vD_perm (vD_fb hD) (bP ((((List.Perm.refl _)).cons _).trans (List.Perm.swap _ _ _)))
    have hK : va_K (dC, dI) cls (List.flatten ([(tX7 p0k), (tX6 p0_2k), (tX10 p0_1k)] : List (List (ClassId × FieldType)))) s := vK_perm (vK_fb hK) (bP ((((List.Perm.refl _)).cons _).trans (List.Perm.swap _ _ _)))
    refine lv_aload_n hx hb dX7_readSigned_54 rfl (lv_at hl 3 rfl) ?_
    refine lv_iload_n hx hb dX7_readSigned_55 rfl (lv_at hl 0 rfl) ?_
    refine lv_iload_n hx hb dX7_readSigned_56 rfl (lv_at hl 1 rfl) ?_
    obtain ⟨o_7, hc_7, hrun⟩ := bnd9 hrun
    have hPx : va_P (dC, dI) cls ((List.flatten ([(oX7 (p0a 0) p0a p0k (o_4.2.1) (o_4.2.2.1))] : List va_W)) ++ (List.flatten ([(oX6 (p0a 3) p0_2a p0_2k o_6 p0_2l), (oX10 (p0a 2) p0_1a p0_1k (o_4.2.2.2.2.1) (o_4.2.2.2.2.2))] : List va_W))) H := vP_fa (vP_perm hP (bP (List.Perm.refl _)))
    have hDx : va_D A ((List.flatten ([(oX7 (p0a 0) p0a p0k (o_4.2.1) (o_4.2.2.1))] : List va_W)) ++ (List.flatten ([(oX6 (p0a 3) p0_2a p0_2k o_6 p0_2l), (oX10 (p0a 2) p0_1a p0_1k (o_4.2.2.2.2.1) (o_4.2.2.2.2.2))] : List va_W))) := vD_fa (vD_perm hD (bP (List.Perm.refl _)))
    have hKx : va_K (dC, dI) cls ((List.flatten ([(tX7 p0k)] : List (List (ClassId × FieldType)))) ++ (List.flatten ([(tX6 p0_2k), (tX10 p0_1k)] : List (List (ClassId × FieldType))))) s := vK_fa (vK_perm hK (bP (List.Perm.refl _)))
    have hPc := vP_l hPx
    have hDc := vD_l hDx
    have hKc := vK_l hKx
    have hFc := vfree hDx hS hA
    refine va_calli (va_runV (As := [.int (o_4.1), .int (p0_1w 0 3)]) (rest := []) ⟨hx, hb, hml, hown, hts⟩ (kX7_raise l dC dI (p0a := p0a) (p0k := p0k) (p0w := (o_4.2.1)) (p0l := (o_4.2.2.1)) (p1 := (o_4.1)) (p2 := (p0_1w 0 3)) (sz := _) (o := o_7) (hrun := hc_7)) (cwV 2 hts (gi_V qw1446 qw1447 qw1448 qw65 (gi_z qw1445)) rfl rfl rfl (by decide +kernel) ⟨rmF (Nat.le_of_ble_eq_true rfl), rmL (Nat.le_of_ble_eq_true rfl)⟩) ⟨PRE.blind, va_recv hKc hPc (ci := 1) (q0 := 0) rfl rfl, PRE.of hE hS hFc hPc hKc hDc⟩ rfl rfl hl.1 rfl (lv_room (Nat.le_of_ble_eq_true rfl)) dX7_readSigned_57 ⟨(Nat.le_of_ble_eq_true rfl), (Nat.le_of_ble_eq_true rfl)⟩) hS (fun q _ h => hFc q h) hFc (fun r8 u t H locs ht hvm hw hB hz1 hk1 hS => ?_)
    obtain ⟨b1, b2, b3⟩ := hB
    rw [ht] at b1
    obtain ⟨hP, hD, hK⟩ := JOINC (wc := (List.flatten ([(oX7 (p0a 0) p0a p0k (o_4.2.1) (o_4.2.2.1))] : List va_W))) (wr := (List.flatten ([(oX6 (p0a 3) p0_2a p0_2k o_6 p0_2l), (oX10 (p0a 2) p0_1a p0_1k (o_4.2.2.2.2.1) (o_4.2.2.2.2.2))] : List va_W))) (w1 := (List.flatten ([(oX7 (p0a 0) p0a p0k (o_7.2) (o_4.2.2.1))] : List va_W))) (t1 := (List.flatten ([(tX7 p0k)] : List (List (ClassId × FieldType))))) hPx hDx hKx hk1 hFc b1 (va_K.moved hvm.symm b2) b3
    have hP : va_P (dC, dI) cls (List.flatten ([(oX7 (p0a 0) p0a p0k (o_7.2) (o_4.2.2.1)), (oX6 (p0a 3) p0_2a p0_2k o_6 p0_2l), (oX10 (p0a 2) p0_1a p0_1k (o_4.2.2.2.2.1) (o_4.2.2.2.2.2))] : List va_W)) H := vP_perm (vP_fb hP) (bP (List.Perm.refl _))
    have hD : va_D A (List.flatten ([(oX7 (p0a 0) p0a p0k (o_7.2) (o_4.2.2.1)), (oX6 (p0a 3) p0_2a p0_2k o_6 p0_2l), (oX10 (p0a 2) p0_1a p0_1k (o_4.2.2.2.2.1) (o_4.2.2.2.2.2))] : List va_W)) := vD_perm (vD_fb hD) (bP (List.Perm.refl _))
    have hK : va_K (dC, dI) cls (List.flatten ([(tX7 p0k), (tX6 p0_2k), (tX10 p0_1k)] : List (List (ClassId × FieldType)))) s := vK_perm (vK_fb hK) (bP (List.Perm.refl _))
    obtain rfl : r8 = (o_7.1) := hw
    have ho9 : ((o_7.1), (o_7.2), (o_4.2.2.1), o_6, (o_4.2.2.2.2.1), (o_4.2.2.2.2.2)) = o := Option.some.inj hrun
    have hP9 : va_P (dC, dI) cls (List.flatten ([(oX7 (p0a 0) p0a p0k (o.2.1) (o.2.2.1)), (oX6 (p0a 3) p0_2a p0_2k (o.2.2.2.1) p0_2l), (oX10 (p0a 2) p0_1a p0_1k (o.2.2.2.2.1) (o.2.2.2.2.2))] : List va_W)) H := by first | exact hP | (rw [← ho9]; exact hP)
    have hD9 : va_D A (List.flatten ([(oX7 (p0a 0) p0a p0k (o.2.1) (o.2.2.1)), (oX6 (p0a 3) p0_2a p0_2k (o.2.2.2.1) p0_2l), (oX10 (p0a 2) p0_1a p0_1k (o.2.2.2.2.1) (o.2.2.2.2.2))] : List va_W)) := by first | exact hD | (rw [← ho9]; exact hD)
    subst hQ
    exact W.iret (v := (o_7.1)) hx hb hr (fun t ht hW => ⟨⟨(o_7.1), (), rfl, (by rw [← ho9]), ⟨by rw [ht]; exact hP9, va_K.moved hW.alike hK, hD9⟩⟩, hS.F ht⟩) hS.2.2 dX7_readSigned_60
  · refine lv_icmp_ne (tgt := 61) hx hb dX7_readSigned_19 (by decide) (fun _ => ?_) (fun c => absurd c hc1)
    refine lv_iload_n hx hb dX7_readSigned_61 rfl (lv_at hl 1 rfl) ?_
    refine lv_bipush (v := 33) hx hb dX7_readSigned_62 (by decide) ?_
    rcases br9 hrun with ⟨hc9, hrun⟩ | ⟨hc9, hrun⟩
    · refine lv_icmp_ne (tgt := 125) hx hb dX7_readSigned_64 (by decide) (fun c => absurd hc9 c) (fun _ => ?_)
      refine lv_aload_n hx hb dX7_readSigned_67 rfl (lv_at hl 2 rfl) ?_
      refine va_get (D := (dC, dI)) (ci := 1) (v := .ref (p0a 2)) (C := RX7) (T := TX7) (N := 18) hx hb hts i_X7 hown hK hP 0 rfl rfl 1 (by decide) (hts _ qw45) (fun _ h9 => h9) rfl dX7_readSigned_68 ?_
      obtain ⟨o_10, hc_10, hrun⟩ := bnd9 hrun
      have hPx : va_P (dC, dI) cls ((List.flatten ([(oX10 (p0a 2) p0_1a p0_1k p0_1w p0_1l)] : List va_W)) ++ (List.flatten ([(oX7 (p0a 0) p0a p0k p0w p0l), (oX6 (p0a 3) p0_2a p0_2k p0_2w p0_2l)] : List va_W))) H := vP_fa (vP_perm hP (bP (((((((List.Perm.refl _)).cons _).trans (List.Perm.swap _ _ _))).cons _).trans (List.Perm.swap _ _ _))))
      have hDx : va_D A ((List.flatten ([(oX10 (p0a 2) p0_1a p0_1k p0_1w p0_1l)] : List va_W)) ++ (List.flatten ([(oX7 (p0a 0) p0a p0k p0w p0l), (oX6 (p0a 3) p0_2a p0_2k p0_2w p0_2l)] : List va_W))) := vD_fa (vD_perm hD (bP (((((((List.Perm.refl _)).cons _).trans (List.Perm.swap _ _ _))).cons _).trans (List.Perm.swap _ _ _))))
      have hKx : va_K (dC, dI) cls ((List.flatten ([(tX10 p0_1k)] : List (List (ClassId × FieldType)))) ++ (List.flatten ([(tX7 p0k), (tX6 p0_2k)] : List (List (ClassId × FieldType))))) s := vK_fa (vK_perm hK (bP (((((((List.Perm.refl _)).cons _).trans (List.Perm.swap _ _ _))).cons _).trans (List.Perm.swap _ _ _))))
      have hPc := vP_l hPx
      have hDc := vD_l hDx
      have hKc := vK_l hKx
      have hFc := vfree hDx hS hA
      refine va_callv (va_runV (As := []) (rest := []) ⟨hx, hb, hml, hown, hts⟩ (kX10_advance l dC dI (p0a := (st0 (p0a 2) p0_1a)) (p0k := p0_1k) (p0w := p0_1w) (p0l := p0_1l) (aK := aK) (aV := aV) (sz := _) (o := o_10) (hrun := hc_10)) (cwV 0 hts (gi_V qw1384 qw1382 qw1383 qw8 (gi_z qw1380)) rfl rfl rfl (by decide +kernel) ⟨rmF (Nat.le_of_ble_eq_true rfl), rmL (Nat.le_of_ble_eq_true rfl)⟩) ⟨PRE.blind, va_recv hKc hPc (ci := 0) (q0 := 0) rfl rfl, PRE.of (ENV.add hE st9_m hro_st) hS hFc hPc hKc hDc⟩ rfl rfl hl.1 rfl (lv_room (Nat.le_of_ble_eq_true rfl)) dX7_readSigned_71 ⟨(Nat.le_of_ble_eq_true rfl), (Nat.le_of_ble_eq_true rfl)⟩) hS (fun q _ h => hFc q h) hFc (fun u t H locs ht hvm hw hB hz1 hk1 hS => ?_)
      obtain ⟨b1, b2, b3⟩ := hB
      rw [ht] at b1
      obtain ⟨hP, hD, hK⟩ := JOINC (wc := (List.flatten ([(oX10 (p0a 2) p0_1a p0_1k p0_1w p0_1l)] : List va_W))) (wr := (List.flatten ([(oX7 (p0a 0) p0a p0k p0w p0l), (oX6 (p0a 3) p0_2a p0_2k p0_2w p0_2l)] : List va_W))) (w1 := (List.flatten ([(oX10 (p0a 2) p0_1a p0_1k (o_10.1) (o_10.2))] : List va_W))) (t1 := (List.flatten ([(tX10 p0_1k)] : List (List (ClassId × FieldType))))) hPx hDx hKx hk1 hFc b1 (va_K.moved hvm.symm b2) b3
      have hP : va_P (dC, dI) cls (List.flatten ([(oX7 (p0a 0) p0a p0k p0w p0l), (oX6 (p0a 3) p0_2a p0_2k p0_2w p0_2l), (oX10 (p0a 2) p0_1a p0_1k (o_10.1) (o_10.2))] : List va_W)) H := vP_perm (vP_fb hP) (bP ((((((List.Perm.refl _)).cons _).trans (List.Perm.swap _ _ _))).trans ((((((List.Perm.refl _)).cons _).trans (List.Perm.swap _ _ _))).cons _)))
      have hD : va_D A (List.flatten ([(oX7 (p0a 0) p0a p0k p0w p0l), (oX6 (p0a 3) p0_2a p0_2k p0_2w p0_2l), (oX10 (p0a 2) p0_1a p0_1k (o_10.1) (o_10.2))] : List va_W)) := vD_perm (vD_fb hD) (bP ((((((List.Perm.refl _)).cons _).trans (List.Perm.swap _ _ _))).trans ((((((List.Perm.refl _)).cons _).trans (List.Perm.swap _ _ _))).cons _)))
      have hK : va_K (dC, dI) cls (List.flatten ([(tX7 p0k), (tX6 p0_2k), (tX10 p0_1k)] : List (List (ClassId × FieldType)))) s := vK_perm (vK_fb hK) (bP ((((((List.Perm.refl _)).cons _).trans (List.Perm.swap _ _ _))).trans ((((((List.Perm.refl _)).cons _).trans (List.Perm.swap _ _ _))).cons _)))
      refine lv_aload_n hx hb dX7_readSigned_74 rfl (lv_at hl 2 rfl) ?_
      refine va_get (D := (dC, dI)) (ci := 1) (v := .ref (p0a 3)) (C := RX7) (T := TX7) (N := 18) hx hb hts i_X7 hown hK hP 0 rfl rfl 2 (by decide) (hts _ qw26) (fun _ h9 => h9) rfl dX7_readSigned_75 ?_
      refine va_get (D := (dC, dI)) (ci := 2) (v := .int (p0_2w 0 7)) (C := RX6) (T := TX6) (N := 13) hx hb hts i_X6 hown hK hP 9 rfl rfl 7 (by decide) (hts _ qw66) (fun _ h9 => h9) rfl dX7_readSigned_78 ?_
      refine lv_istore_n (lv' := [(3, .int (p0_2w 0 7)), (2, .int (p0_1w 0 3)), (1, .int (p0_1w 0 2)), (0, .ref (p0a 0))]) hx hb dX7_readSigned_81 rfl hl (by decide) rfl (fun ls hl => ?_)
      refine lv_aload_n hx hb dX7_readSigned_82 rfl (lv_at hl 3 rfl) ?_
      obtain ⟨o_11, hc_11, hrun⟩ := bnd9 hrun
      have hPx : va_P (dC, dI) cls ((List.flatten ([(oX7 (p0a 0) p0a p0k p0w p0l), (oX6 (p0a 3) p0_2a p0_2k p0_2w p0_2l), (oX10 (p0a 2) p0_1a p0_1k (o_10.1) (o_10.2))] : List va_W)) ++ (List.flatten ([] : List va_W))) H := vP_fa (vP_perm hP (bP (List.Perm.refl _)))
      have hDx : va_D A ((List.flatten ([(oX7 (p0a 0) p0a p0k p0w p0l), (oX6 (p0a 3) p0_2a p0_2k p0_2w p0_2l), (oX10 (p0a 2) p0_1a p0_1k (o_10.1) (o_10.2))] : List va_W)) ++ (List.flatten ([] : List va_W))) := vD_fa (vD_perm hD (bP (List.Perm.refl _)))
      have hKx : va_K (dC, dI) cls ((List.flatten ([(tX7 p0k), (tX6 p0_2k), (tX10 p0_1k)] : List (List (ClassId × FieldType)))) ++ (List.flatten ([] : List (List (ClassId × FieldType))))) s := vK_fa (vK_perm hK (bP (List.Perm.refl _)))
      have hPc := vP_l hPx
      have hDc := vD_l hDx
      have hKc := vK_l hKx
      have hFc := vfree hDx hS hA
      refine va_calli (va_runV (As := []) (rest := []) ⟨hx, hb, hml, hown, hts⟩ (hkk_readSingle dC dI (p0a := p0a) (p0k := p0k) (p0w := p0w) (p0l := p0l) (aK := aK) (aV := aV) (p0_2a := p0_2a) (p0_2k := p0_2k) (p0_2w := p0_2w) (p0_2l := p0_2l) (p0_1a := p0_1a) (p0_1k := p0_1k) (p0_1w := (o_10.1)) (p0_1l := (o_10.2)) (sz := _) (o := o_11) (hrun := hc_11)) (cwV 0 hts (gi_V qw1458 qw1459 qw1460 qw65 (gi_z qw1457)) rfl rfl rfl (by decide +kernel) ⟨rmF9, rmL9 (n := 24) (Nat.le_of_ble_eq_true rfl)⟩) ⟨PRE.blind, va_recv hKc hPc (ci := 1) (q0 := 0) rfl rfl, PRE.of (ENV.add hE st9_m hro_st) hS hFc hPc hKc hDc⟩ rfl rfl hl.1 rfl (lv_room (Nat.le_of_ble_eq_true rfl)) dX7_readSigned_83 ⟨(Nat.le_of_ble_eq_true rfl), (Nat.le_of_ble_eq_true rfl)⟩) hS (fun q _ h => hFc q h) hFc (fun r12 u t H locs ht hvm hw hB hz1 hk1 hS => ?_)
      obtain ⟨b1, b2, b3⟩ := hB
      rw [ht] at b1
      obtain ⟨hP, hD, hK⟩ := JOINC (wc := (List.flatten ([(oX7 (p0a 0) p0a p0k p0w p0l), (oX6 (p0a 3) p0_2a p0_2k p0_2w p0_2l), (oX10 (p0a 2) p0_1a p0_1k (o_10.1) (o_10.2))] : List va_W))) (wr := (List.flatten ([] : List va_W))) (w1 := (List.flatten ([(oX7 (p0a 0) p0a p0k (o_11.2.1) (o_11.2.2.1)), (oX6 (p0a 3) p0_2a p0_2k (o_11.2.2.2.1) p0_2l), (oX10 (p0a 2) p0_1a p0_1k (o_11.2.2.2.2.1) (o_11.2.2.2.2.2))] : List va_W))) (t1 := (List.flatten ([(tX7 p0k), (tX6 p0_2k), (tX10 p0_1k)] : List (List (ClassId × FieldType))))) hPx hDx hKx hk1 hFc b1 (va_K.moved hvm.symm b2) b3
      have hP : va_P (dC, dI) cls (List.flatten ([(oX7 (p0a 0) p0a p0k (o_11.2.1) (o_11.2.2.1)), (oX6 (p0a 3) p0_2a p0_2k (o_11.2.2.2.1) p0_2l), (oX10 (p0a 2) p0_1a p0_1k (o_11.2.2.2.2.1) (o_11.2.2.2.2.2))] : List va_W)) H := vP_perm (vP_fb hP) (bP (List.Perm.refl _))
      have hD : va_D A (List.flatten ([(oX7 (p0a 0) p0a p0k (o_11.2.1) (o_11.2.2.1)), (oX6 (p0a 3) p0_2a p0_2k (o_11.2.2.2.1) p0_2l), (oX10 (p0a 2) p0_1a p0_1k (o_11.2.2.2.2.1) (o_11.2.2.2.2.2))] : List va_W)) := vD_perm (vD_fb hD) (bP (List.Perm.refl _))
      have hK : va_K (dC, dI) cls (List.flatten ([(tX7 p0k), (tX6 p0_2k), (tX10 p0_1k)] : List (List (ClassId × FieldType)))) s := vK_perm (vK_fb hK) (bP (List.Perm.refl _))
      obtain rfl : r12 = (o_11.1) := hw
      refine lv_istore (lv' := [(4, .int (o_11.1)), (3, .int (p0_2w 0 7)), (2, .int (p0_1w 0 3)), (1, .int (p0_1w 0 2)), (0, .ref (p0a 0))]) hx hb dX7_readSigned_86 hl (by decide) rfl (fun ls hl => ?_)
      refine lv_aload_n hx hb dX7_readSigned_88 rfl (lv_at hl 4 rfl) ?_
      refine va_get (D := (dC, dI)) (ci := 1) (v := .ref (p0a 3)) (C := RX7) (T := TX7) (N := 18) hx hb hts i_X7 hown hK hP 0 rfl rfl 2 (by decide) (hts _ qw26) (fun _ h9 => h9) rfl dX7_readSigned_89 ?_
      refine lv_iload_n hx hb dX7_readSigned_92 rfl (lv_at hl 1 rfl) ?_
      obtain ⟨o_13, hc_13, hrun⟩ := bnd9 hrun
      have hPx : va_P (dC, dI) cls ((List.flatten ([(oX6 (p0a 3) p0_2a p0_2k (o_11.2.2.2.1) p0_2l)] : List va_W)) ++ (List.flatten ([(oX7 (p0a 0) p0a p0k (o_11.2.1) (o_11.2.2.1)), (oX10 (p0a 2) p0_1a p0_1k (o_11.2.2.2.2.1) (o_11.2.2.2.2.2))] : List va_W))) H := vP_fa (vP_perm hP (bP ((((List.Perm.refl _)).cons _).trans (List.Perm.swap _ _ _))))
      have hDx : va_D A ((List.flatten ([(oX6 (p0a 3) p0_2a p0_2k (o_11.2.2.2.1) p0_2l)] : List va_W)) ++ (List.flatten ([(oX7 (p0a 0) p0a p0k (o_11.2.1) (o_11.2.2.1)), (oX10 (p0a 2) p0_1a p0_1k (o_11.2.2.2.2.1) (o_11.2.2.2.2.2))] : List va_W))) := vD_fa (vD_perm hD (bP ((((List.Perm.refl _)).cons _).trans (List.Perm.swap _ _ _))))
      have hKx : va_K (dC, dI) cls ((List.flatten ([(tX6 p0_2k)] : List (List (ClassId × FieldType)))) ++ (List.flatten ([(tX7 p0k), (tX10 p0_1k)] : List (List (ClassId × FieldType))))) s := vK_fa (vK_perm hK (bP ((((List.Perm.refl _)).cons _).trans (List.Perm.swap _ _ _))))
      have hPc := vP_l hPx
      have hDc := vD_l hDx
      have hKc := vK_l hKx
      have hFc := vfree hDx hS hA
      refine va_callv (va_runV (As := [.int (p0_2w 0 7)]) (rest := []) ⟨hx, hb, hml, hown, hts⟩ (kX6_tick l dC dI (p0a := (st0 (p0a 3) p0_2a)) (p0k := p0_2k) (p0w := (o_11.2.2.2.1)) (p0l := p0_2l) (p1 := (p0_2w 0 7)) (sz := _) (o := o_13) (hrun := hc_13)) (cwV 1 hts (gi_V qw1402 qw1403 qw1404 qw33 (gi_z qw1401)) rfl rfl rfl (by decide +kernel) ⟨rmF (Nat.le_of_ble_eq_true rfl), rmL (Nat.le_of_ble_eq_true rfl)⟩) ⟨PRE.blind, va_recv hKc hPc (ci := 2) (q0 := 0) rfl rfl, PRE.of hE hS hFc hPc hKc hDc⟩ rfl rfl hl.1 rfl (lv_room (Nat.le_of_ble_eq_true rfl)) dX7_readSigned_93 ⟨(Nat.le_of_ble_eq_true rfl), (Nat.le_of_ble_eq_true rfl)⟩) hS (fun q _ h => hFc q h) hFc (fun u t H locs ht hvm hw hB hz1 hk1 hS => ?_)
      obtain ⟨b1, b2, b3⟩ := hB
      rw [ht] at b1
      obtain ⟨hP, hD, hK⟩ := JOINC (wc := (List.flatten ([(oX6 (p0a 3) p0_2a p0_2k (o_11.2.2.2.1) p0_2l)] : List va_W))) (wr := (List.flatten ([(oX7 (p0a 0) p0a p0k (o_11.2.1) (o_11.2.2.1)), (oX10 (p0a 2) p0_1a p0_1k (o_11.2.2.2.2.1) (o_11.2.2.2.2.2))] : List va_W))) (w1 := (List.flatten ([(oX6 (p0a 3) p0_2a p0_2k o_13 p0_2l)] : List va_W))) (t1 := (List.flatten ([(tX6 p0_2k)] : List (List (ClassId × FieldType))))) hPx hDx hKx hk1 hFc b1 (va_K.moved hvm.symm b2) b3
      have hP : va_P (dC, dI) cls (List.flatten ([(oX7 (p0a 0) p0a p0k (o_11.2.1) (o_11.2.2.1)), (oX6 (p0a 3) p0_2a p0_2k o_13 p0_2l), (oX10 (p0a 2) p0_1a p0_1k (o_11.2.2.2.2.1) (o_11.2.2.2.2.2))] : List va_W)) H := vP_perm (vP_fb hP) (bP ((((List.Perm.refl _)).cons _).trans (List.Perm.swap _ _ _)))
      have hD : va_D A (List.flatten ([(oX7 (p0a 0) p0a p0k (o_11.2.1) (o_11.2.2.1)), (oX6 (p0a 3) p0_2a p0_2k o_13 p0_2l), (oX10 (p0a 2) p0_1a p0_1k (o_11.2.2.2.2.1) (o_11.2.2.2.2.2))] : List va_W)) := vD_perm (vD_fb hD) (bP ((((List.Perm.refl _)).cons _).trans (List.Perm.swap _ _ _)))
      have hK : va_K (dC, dI) cls (List.flatten ([(tX7 p0k), (tX6 p0_2k), (tX10 p0_1k)] : List (List (ClassId × FieldType)))) s := vK_perm (vK_fb hK) (bP ((((List.Perm.refl _)).cons _).trans (List.Perm.swap _ _ _)))
      refine lv_aload_n hx hb dX7_readSigned_96 rfl (lv_at hl 4 rfl) ?_
      refine va_get (D := (dC, dI)) (ci := 1) (v := .ref (p0a 3)) (C := RX7) (T := TX7) (N := 18) hx hb hts i_X7 hown hK hP 0 rfl rfl 2 (by decide) (hts _ qw26) (fun _ h9 => h9) rfl dX7_readSigned_97 ?_
      refine lv_iconst (v := 0) hx hb dX7_readSigned_100 (by decide) ?_
      refine lv_iconst (v := 0) hx hb dX7_readSigned_101 (by decide) ?_
      refine lv_iconst (v := 0) hx hb dX7_readSigned_102 (by decide) ?_
      obtain ⟨o_14, hc_14, hrun⟩ := bnd9 hrun
      have hPx : va_P (dC, dI) cls ((List.flatten ([(oX6 (p0a 3) p0_2a p0_2k o_13 p0_2l)] : List va_W)) ++ (List.flatten ([(oX7 (p0a 0) p0a p0k (o_11.2.1) (o_11.2.2.1)), (oX10 (p0a 2) p0_1a p0_1k (o_11.2.2.2.2.1) (o_11.2.2.2.2.2))] : List va_W))) H := vP_fa (vP_perm hP (bP ((((List.Perm.refl _)).cons _).trans (List.Perm.swap _ _ _))))
      have hDx : va_D A ((List.flatten ([(oX6 (p0a 3) p0_2a p0_2k o_13 p0_2l)] : List va_W)) ++ (List.flatten ([(oX7 (p0a 0) p0a p0k (o_11.2.1) (o_11.2.2.1)), (oX10 (p0a 2) p0_1a p0_1k (o_11.2.2.2.2.1) (o_11.2.2.2.2.2))] : List va_W))) := vD_fa (vD_perm hD (bP ((((List.Perm.refl _)).cons _).trans (List.Perm.swap _ _ _))))
      have hKx : va_K (dC, dI) cls ((List.flatten ([(tX6 p0_2k)] : List (List (ClassId × FieldType)))) ++ (List.flatten ([(tX7 p0k), (tX10 p0_1k)] : List (List (ClassId × FieldType))))) s := vK_fa (vK_perm hK (bP ((((List.Perm.refl _)).cons _).trans (List.Perm.swap _ _ _))))
      have hPc := vP_l hPx
      have hDc := vD_l hDx
      have hKc := vK_l hKx
      have hFc := vfree hDx hS hA
      refine va_callv (va_runV (As := [.int 0, .int 0, .int 0]) (rest := []) ⟨hx, hb, hml, hown, hts⟩ (kX6_emit l dC dI (p0a := (st0 (p0a 3) p0_2a)) (p0k := p0_2k) (p0w := o_13) (p0l := p0_2l) (p1 := 0) (p2 := 0) (p3 := 0) (sz := _) (o := o_14) (hrun := hc_14)) (cwV 3 hts (gi_V qw42 qw43 qw44 qw33 (gi_z qw41)) rfl rfl rfl (by decide +kernel) ⟨rmF (Nat.le_of_ble_eq_true rfl), rmL (Nat.le_of_ble_eq_true rfl)⟩) ⟨PRE.blind, va_recv hKc hPc (ci := 2) (q0 := 0) rfl rfl, PRE.of hE hS hFc hPc hKc hDc⟩ rfl rfl hl.1 rfl (lv_room (Nat.le_of_ble_eq_true rfl)) dX7_readSigned_103 ⟨(Nat.le_of_ble_eq_true rfl), (Nat.le_of_ble_eq_true rfl)⟩) hS (fun q _ h => hFc q h) hFc (fun u t H locs ht hvm hw hB hz1 hk1 hS => ?_)
      obtain ⟨b1, b2, b3⟩ := hB
      rw [ht] at b1
      obtain ⟨hP, hD, hK⟩ := JOINC (wc := (List.flatten ([(oX6 (p0a 3) p0_2a p0_2k o_13 p0_2l)] : List va_W))) (wr := (List.flatten ([(oX7 (p0a 0) p0a p0k (o_11.2.1) (o_11.2.2.1)), (oX10 (p0a 2) p0_1a p0_1k (o_11.2.2.2.2.1) (o_11.2.2.2.2.2))] : List va_W))) (w1 := (List.flatten ([(oX6 (p0a 3) p0_2a p0_2k o_14 p0_2l)] : List va_W))) (t1 := (List.flatten ([(tX6 p0_2k)] : List (List (ClassId × FieldType))))) hPx hDx hKx hk1 hFc b1 (va_K.moved hvm.symm b2) b3
      have hP : va_P (dC, dI) cls (List.flatten ([(oX7 (p0a 0) p0a p0k (o_11.2.1) (o_11.2.2.1)), (oX6 (p0a 3) p0_2a p0_2k o_14 p0_2l), (oX10 (p0a 2) p0_1a p0_1k (o_11.2.2.2.2.1) (o_11.2.2.2.2.2))] : List va_W)) H := vP_perm (vP_fb hP) (bP ((((List.Perm.refl _)).cons _).trans (List.Perm.swap _ _ _)))
      have hD : va_D A (List.flatten ([(oX7 (p0a 0) p0a p0k (o_11.2.1) (o_11.2.2.1)), (oX6 (p0a 3) p0_2a p0_2k o_14 p0_2l), (oX10 (p0a 2) p0_1a p0_1k (o_11.2.2.2.2.1) (o_11.2.2.2.2.2))] : List va_W)) := vD_perm (vD_fb hD) (bP ((((List.Perm.refl _)).cons _).trans (List.Perm.swap _ _ _)))
      have hK : va_K (dC, dI) cls (List.flatten ([(tX7 p0k), (tX6 p0_2k), (tX10 p0_1k)] : List (List (ClassId × FieldType)))) s := vK_perm (vK_fb hK) (bP ((((List.Perm.refl _)).cons _).trans (List.Perm.swap _ _ _)))
      refine lv_aload_n hx hb dX7_readSigned_106 rfl (lv_at hl 4 rfl) ?_
      refine va_get (D := (dC, dI)) (ci := 1) (v := .ref (p0a 3)) (C := RX7) (T := TX7) (N := 18) hx hb hts i_X7 hown hK hP 0 rfl rfl 2 (by decide) (hts _ qw26) (fun _ h9 => h9) rfl dX7_readSigned_107 ?_
      refine lv_bipush (v := 15) hx hb dX7_readSigned_110 (by decide) ?_
      refine lv_iconst (v := 0) hx hb dX7_readSigned_112 (by decide) ?_
      refine lv_iconst (v := 0) hx hb dX7_readSigned_113 (by decide) ?_
      obtain ⟨o_15, hc_15, hrun⟩ := bnd9 hrun
      have hPx : va_P (dC, dI) cls ((List.flatten ([(oX6 (p0a 3) p0_2a p0_2k o_14 p0_2l)] : List va_W)) ++ (List.flatten ([(oX7 (p0a 0) p0a p0k (o_11.2.1) (o_11.2.2.1)), (oX10 (p0a 2) p0_1a p0_1k (o_11.2.2.2.2.1) (o_11.2.2.2.2.2))] : List va_W))) H := vP_fa (vP_perm hP (bP ((((List.Perm.refl _)).cons _).trans (List.Perm.swap _ _ _))))
      have hDx : va_D A ((List.flatten ([(oX6 (p0a 3) p0_2a p0_2k o_14 p0_2l)] : List va_W)) ++ (List.flatten ([(oX7 (p0a 0) p0a p0k (o_11.2.1) (o_11.2.2.1)), (oX10 (p0a 2) p0_1a p0_1k (o_11.2.2.2.2.1) (o_11.2.2.2.2.2))] : List va_W))) := vD_fa (vD_perm hD (bP ((((List.Perm.refl _)).cons _).trans (List.Perm.swap _ _ _))))
      have hKx : va_K (dC, dI) cls ((List.flatten ([(tX6 p0_2k)] : List (List (ClassId × FieldType)))) ++ (List.flatten ([(tX7 p0k), (tX10 p0_1k)] : List (List (ClassId × FieldType))))) s := vK_fa (vK_perm hK (bP ((((List.Perm.refl _)).cons _).trans (List.Perm.swap _ _ _))))
      have hPc := vP_l hPx
      have hDc := vD_l hDx
      have hKc := vK_l hKx
      have hFc := vfree hDx hS hA
      refine va_callv (va_runV (As := [.int 15, .int 0, .int 0]) (rest := []) ⟨hx, hb, hml, hown, hts⟩ (kX6_emit l dC dI (p0a := (st0 (p0a 3) p0_2a)) (p0k := p0_2k) (p0w := o_14) (p0l := p0_2l) (p1 := 15) (p2 := 0) (p3 := 0) (sz := _) (o := o_15) (hrun := hc_15)) (cwV 3 hts (gi_V qw42 qw43 qw44 qw33 (gi_z qw41)) rfl rfl rfl (by decide +kernel) ⟨rmF (Nat.le_of_ble_eq_true rfl), rmL (Nat.le_of_ble_eq_true rfl)⟩) ⟨PRE.blind, va_recv hKc hPc (ci := 2) (q0 := 0) rfl rfl, PRE.of hE hS hFc hPc hKc hDc⟩ rfl rfl hl.1 rfl (lv_room (Nat.le_of_ble_eq_true rfl)) dX7_readSigned_114 ⟨(Nat.le_of_ble_eq_true rfl), (Nat.le_of_ble_eq_true rfl)⟩) hS (fun q _ h => hFc q h) hFc (fun u t H locs ht hvm hw hB hz1 hk1 hS => ?_)
      obtain ⟨b1, b2, b3⟩ := hB
      rw [ht] at b1
      obtain ⟨hP, hD, hK⟩ := JOINC (wc := (List.flatten ([(oX6 (p0a 3) p0_2a p0_2k o_14 p0_2l)] : List va_W))) (wr := (List.flatten ([(oX7 (p0a 0) p0a p0k (o_11.2.1) (o_11.2.2.1)), (oX10 (p0a 2) p0_1a p0_1k (o_11.2.2.2.2.1) (o_11.2.2.2.2.2))] : List va_W))) (w1 := (List.flatten ([(oX6 (p0a 3) p0_2a p0_2k o_15 p0_2l)] : List va_W))) (t1 := (List.flatten ([(tX6 p0_2k)] : List (List (ClassId × FieldType))))) hPx hDx hKx hk1 hFc b1 (va_K.moved hvm.symm b2) b3
      have hP : va_P (dC, dI) cls (List.flatten ([(oX7 (p0a 0) p0a p0k (o_11.2.1) (o_11.2.2.1)), (oX6 (p0a 3) p0_2a p0_2k o_15 p0_2l), (oX10 (p0a 2) p0_1a p0_1k (o_11.2.2.2.2.1) (o_11.2.2.2.2.2))] : List va_W)) H := vP_perm (vP_fb hP) (bP ((((List.Perm.refl _)).cons _).trans (List.Perm.swap _ _ _)))
      have hD : va_D A (List.flatten ([(oX7 (p0a 0) p0a p0k (o_11.2.1) (o_11.2.2.1)), (oX6 (p0a 3) p0_2a p0_2k o_15 p0_2l), (oX10 (p0a 2) p0_1a p0_1k (o_11.2.2.2.2.1) (o_11.2.2.2.2.2))] : List va_W)) := vD_perm (vD_fb hD) (bP ((((List.Perm.refl _)).cons _).trans (List.Perm.swap _ _ _)))
      have hK : va_K (dC, dI) cls (List.flatten ([(tX7 p0k), (tX6 p0_2k), (tX10 p0_1k)] : List (List (ClassId × FieldType)))) s := vK_perm (vK_fb hK) (bP ((((List.Perm.refl _)).cons _).trans (List.Perm.swap _ _ _)))
      refine lv_aload_n hx hb dX7_readSigned_117 rfl (lv_at hl 4 rfl) ?_
      refine lv_iload hx hb dX7_readSigned_118 (lv_at hl 0 rfl) ?_
      refine lv_iload_n hx hb dX7_readSigned_120 rfl (lv_at hl 2 rfl) ?_
      obtain ⟨o_16, hc_16, hrun⟩ := bnd9 hrun
      have hPx : va_P (dC, dI) cls ((List.flatten ([(oX7 (p0a 0) p0a p0k (o_11.2.1) (o_11.2.2.1))] : List va_W)) ++ (List.flatten ([(oX6 (p0a 3) p0_2a p0_2k o_15 p0_2l), (oX10 (p0a 2) p0_1a p0_1k (o_11.2.2.2.2.1) (o_11.2.2.2.2.2))] : List va_W))) H := vP_fa (vP_perm hP (bP (List.Perm.refl _)))
      have hDx : va_D A ((List.flatten ([(oX7 (p0a 0) p0a p0k (o_11.2.1) (o_11.2.2.1))] : List va_W)) ++ (List.flatten ([(oX6 (p0a 3) p0_2a p0_2k o_15 p0_2l), (oX10 (p0a 2) p0_1a p0_1k (o_11.2.2.2.2.1) (o_11.2.2.2.2.2))] : List va_W))) := vD_fa (vD_perm hD (bP (List.Perm.refl _)))
      have hKx : va_K (dC, dI) cls ((List.flatten ([(tX7 p0k)] : List (List (ClassId × FieldType)))) ++ (List.flatten ([(tX6 p0_2k), (tX10 p0_1k)] : List (List (ClassId × FieldType))))) s := vK_fa (vK_perm hK (bP (List.Perm.refl _)))
      have hPc := vP_l hPx
      have hDc := vD_l hDx
      have hKc := vK_l hKx
      have hFc := vfree hDx hS hA
      refine va_calli (va_runV (As := [.int (o_11.1), .int (p0_1w 0 3)]) (rest := []) ⟨hx, hb, hml, hown, hts⟩ (kX7_raise l dC dI (p0a := p0a) (p0k := p0k) (p0w := (o_11.2.1)) (p0l := (o_11.2.2.1)) (p1 := (o_11.1)) (p2 := (p0_1w 0 3)) (sz := _) (o := o_16) (hrun := hc_16)) (cwV 2 hts (gi_V qw1446 qw1447 qw1448 qw65 (gi_z qw1445)) rfl rfl rfl (by decide +kernel) ⟨rmF (Nat.le_of_ble_eq_true rfl), rmL (Nat.le_of_ble_eq_true rfl)⟩) ⟨PRE.blind, va_recv hKc hPc (ci := 1) (q0 := 0) rfl rfl, PRE.of hE hS hFc hPc hKc hDc⟩ rfl rfl hl.1 rfl (lv_room (Nat.le_of_ble_eq_true rfl)) dX7_readSigned_121 ⟨(Nat.le_of_ble_eq_true rfl), (Nat.le_of_ble_eq_true rfl)⟩) hS (fun q _ h => hFc q h) hFc (fun r17 u t H locs ht hvm hw hB hz1 hk1 hS => ?_)
      obtain ⟨b1, b2, b3⟩ := hB
      rw [ht] at b1
      obtain ⟨hP, hD, hK⟩ := JOINC (wc := (List.flatten ([(oX7 (p0a 0) p0a p0k (o_11.2.1) (o_11.2.2.1))] : List va_W))) (wr := (List.flatten ([(oX6 (p0a 3) p0_2a p0_2k o_15 p0_2l), (oX10 (p0a 2) p0_1a p0_1k (o_11.2.2.2.2.1) (o_11.2.2.2.2.2))] : List va_W))) (w1 := (List.flatten ([(oX7 (p0a 0) p0a p0k (o_16.2) (o_11.2.2.1))] : List va_W))) (t1 := (List.flatten ([(tX7 p0k)] : List (List (ClassId × FieldType))))) hPx hDx hKx hk1 hFc b1 (va_K.moved hvm.symm b2) b3
      have hP : va_P (dC, dI) cls (List.flatten ([(oX7 (p0a 0) p0a p0k (o_16.2) (o_11.2.2.1)), (oX6 (p0a 3) p0_2a p0_2k o_15 p0_2l), (oX10 (p0a 2) p0_1a p0_1k (o_11.2.2.2.2.1) (o_11.2.2.2.2.2))] : List va_W)) H := vP_perm (vP_fb hP) (bP (List.Perm.refl _))
      have hD : va_D A (List.flatten ([(oX7 (p0a 0) p0a p0k (o_16.2) (o_11.2.2.1)), (oX6 (p0a 3) p0_2a p0_2k o_15 p0_2l), (oX10 (p0a 2) p0_1a p0_1k (o_11.2.2.2.2.1) (o_11.2.2.2.2.2))] : List va_W)) := vD_perm (vD_fb hD) (bP (List.Perm.refl _))
      have hK : va_K (dC, dI) cls (List.flatten ([(tX7 p0k), (tX6 p0_2k), (tX10 p0_1k)] : List (List (ClassId × FieldType)))) s := vK_perm (vK_fb hK) (bP (List.Perm.refl _))
      obtain rfl : r17 = (o_16.1) := hw
      have ho9 : ((o_16.1), (o_16.2), (o_11.2.2.1), o_15, (o_11.2.2.2.2.1), (o_11.2.2.2.2.2)) = o := Option.some.inj hrun
      have hP9 : va_P (dC, dI) cls (List.flatten ([(oX7 (p0a 0) p0a p0k (o.2.1) (o.2.2.1)), (oX6 (p0a 3) p0_2a p0_2k (o.2.2.2.1) p0_2l), (oX10 (p0a 2) p0_1a p0_1k (o.2.2.2.2.1) (o.2.2.2.2.2))] : List va_W)) H := by first | exact hP | (rw [← ho9]; exact hP)
      have hD9 : va_D A (List.flatten ([(oX7 (p0a 0) p0a p0k (o.2.1) (o.2.2.1)), (oX6 (p0a 3) p0_2a p0_2k (o.2.2.2.1) p0_2l), (oX10 (p0a 2) p0_1a p0_1k (o.2.2.2.2.1) (o.2.2.2.2.2))] : List va_W)) := by first | exact hD | (rw [← ho9]; exact hD)
      subst hQ
      exact W.iret (v := (o_16.1)) hx hb hr (fun t ht hW => ⟨⟨(o_16.1), (), rfl, (by rw [← ho9]), ⟨by rw [ht]; exact hP9, va_K.moved hW.alike hK, hD9⟩⟩, hS.F ht⟩) hS.2.2 dX7_readSigned_124
    · refine lv_icmp_ne (tgt := 125) hx hb dX7_readSigned_64 (by decide) (fun _ => ?_) (fun c => absurd c hc9)
      refine lv_aload_n hx hb dX7_readSigned_125 rfl (lv_at hl 2 rfl) ?_
      obtain ⟨o_18, hc_18, hrun⟩ := bnd9 hrun
      have hPx : va_P (dC, dI) cls ((List.flatten ([(oX7 (p0a 0) p0a p0k p0w p0l), (oX6 (p0a 3) p0_2a p0_2k p0_2w p0_2l), (oX10 (p0a 2) p0_1a p0_1k p0_1w p0_1l)] : List va_W)) ++ (List.flatten ([] : List va_W))) H := vP_fa (vP_perm hP (bP (List.Perm.refl _)))
      have hDx : va_D A ((List.flatten ([(oX7 (p0a 0) p0a p0k p0w p0l), (oX6 (p0a 3) p0_2a p0_2k p0_2w p0_2l), (oX10 (p0a 2) p0_1a p0_1k p0_1w p0_1l)] : List va_W)) ++ (List.flatten ([] : List va_W))) := vD_fa (vD_perm hD (bP (List.Perm.refl _)))
      have hKx : va_K (dC, dI) cls ((List.flatten ([(tX7 p0k), (tX6 p0_2k), (tX10 p0_1k)] : List (List (ClassId × FieldType)))) ++ (List.flatten ([] : List (List (ClassId × FieldType))))) s := vK_fa (vK_perm hK (bP (List.Perm.refl _)))
      have hPc := vP_l hPx
      have hDc := vD_l hDx
      have hKc := vK_l hKx
      have hFc := vfree hDx hS hA
      refine va_calli (va_runV (As := []) (rest := []) ⟨hx, hb, hml, hown, hts⟩ (hkk_readSingle dC dI (p0a := p0a) (p0k := p0k) (p0w := p0w) (p0l := p0l) (aK := aK) (aV := aV) (p0_2a := p0_2a) (p0_2k := p0_2k) (p0_2w := p0_2w) (p0_2l := p0_2l) (p0_1a := p0_1a) (p0_1k := p0_1k) (p0_1w := p0_1w) (p0_1l := p0_1l) (sz := _) (o := o_18) (hrun := hc_18)) (cwV 0 hts (gi_V qw1458 qw1459 qw1460 qw65 (gi_z qw1457)) rfl rfl rfl (by decide +kernel) ⟨rmF9, rmL9 (n := 24) (Nat.le_of_ble_eq_true rfl)⟩) ⟨PRE.blind, va_recv hKc hPc (ci := 1) (q0 := 0) rfl rfl, PRE.of (ENV.add hE st9_m hro_st) hS hFc hPc hKc hDc⟩ rfl rfl hl.1 rfl (lv_room (Nat.le_of_ble_eq_true rfl)) dX7_readSigned_126 ⟨(Nat.le_of_ble_eq_true rfl), (Nat.le_of_ble_eq_true rfl)⟩) hS (fun q _ h => hFc q h) hFc (fun r19 u t H locs ht hvm hw hB hz1 hk1 hS => ?_)
      obtain ⟨b1, b2, b3⟩ := hB
      rw [ht] at b1
      obtain ⟨hP, hD, hK⟩ := JOINC (wc := (List.flatten ([(oX7 (p0a 0) p0a p0k p0w p0l), (oX6 (p0a 3) p0_2a p0_2k p0_2w p0_2l), (oX10 (p0a 2) p0_1a p0_1k p0_1w p0_1l)] : List va_W))) (wr := (List.flatten ([] : List va_W))) (w1 := (List.flatten ([(oX7 (p0a 0) p0a p0k (o_18.2.1) (o_18.2.2.1)), (oX6 (p0a 3) p0_2a p0_2k (o_18.2.2.2.1) p0_2l), (oX10 (p0a 2) p0_1a p0_1k (o_18.2.2.2.2.1) (o_18.2.2.2.2.2))] : List va_W))) (t1 := (List.flatten ([(tX7 p0k), (tX6 p0_2k), (tX10 p0_1k)] : List (List (ClassId × FieldType))))) hPx hDx hKx hk1 hFc b1 (va_K.moved hvm.symm b2) b3
      have hP : va_P (dC, dI) cls (List.flatten ([(oX7 (p0a 0) p0a p0k (o_18.2.1) (o_18.2.2.1)), (oX6 (p0a 3) p0_2a p0_2k (o_18.2.2.2.1) p0_2l), (oX10 (p0a 2) p0_1a p0_1k (o_18.2.2.2.2.1) (o_18.2.2.2.2.2))] : List va_W)) H := vP_perm (vP_fb hP) (bP (List.Perm.refl _))
      have hD : va_D A (List.flatten ([(oX7 (p0a 0) p0a p0k (o_18.2.1) (o_18.2.2.1)), (oX6 (p0a 3) p0_2a p0_2k (o_18.2.2.2.1) p0_2l), (oX10 (p0a 2) p0_1a p0_1k (o_18.2.2.2.2.1) (o_18.2.2.2.2.2))] : List va_W)) := vD_perm (vD_fb hD) (bP (List.Perm.refl _))
      have hK : va_K (dC, dI) cls (List.flatten ([(tX7 p0k), (tX6 p0_2k), (tX10 p0_1k)] : List (List (ClassId × FieldType)))) s := vK_perm (vK_fb hK) (bP (List.Perm.refl _))
      obtain rfl : r19 = (o_18.1) := hw
      have ho9 : ((o_18.1), (o_18.2.1), (o_18.2.2.1), (o_18.2.2.2.1), (o_18.2.2.2.2.1), (o_18.2.2.2.2.2)) = o := Option.some.inj hrun
      have hP9 : va_P (dC, dI) cls (List.flatten ([(oX7 (p0a 0) p0a p0k (o.2.1) (o.2.2.1)), (oX6 (p0a 3) p0_2a p0_2k (o.2.2.2.1) p0_2l), (oX10 (p0a 2) p0_1a p0_1k (o.2.2.2.2.1) (o.2.2.2.2.2))] : List va_W)) H := by first | exact hP | (rw [← ho9]; exact hP)
      have hD9 : va_D A (List.flatten ([(oX7 (p0a 0) p0a p0k (o.2.1) (o.2.2.1)), (oX6 (p0a 3) p0_2a p0_2k (o.2.2.2.1) p0_2l), (oX10 (p0a 2) p0_1a p0_1k (o.2.2.2.2.1) (o.2.2.2.2.2))] : List va_W)) := by first | exact hD | (rw [← ho9]; exact hD)
      subst hQ
      exact W.iret (v := (o_18.1)) hx hb hr (fun t ht hW => ⟨⟨(o_18.1), (), rfl, (by rw [← ho9]), ⟨by rw [ht]; exact hP9, va_K.moved hW.alike hK, hD9⟩⟩, hS.F ht⟩) hS.2.2 dX7_readSigned_129
set_option maxHeartbeats 16000000 in
set_option maxRecDepth 100000 in
theorem kX7_readSingle {zs : ZS} (l : Launch) (kk_readCall : ST → SL → Int64 → Int32 → ST → SL → ST → SL → Option (Int32 × ST × SL × ST × ST × SL)) (kk_readTest : ST → SL → Int32 → ST → SL → ST → SL → Option (Int32 × ST × SL × ST × ST × SL)) (F9 L9 : Nat) (hkk_readCall : ∀ {zs : ZS} (dC : Nat → ClassId) (dI : Nat → Nat → Nat) (p0a : Nat → Nat) (p0k : Nat → ClassId) (p0w : ST) (p0l : SL) (p1 : Int64) (p2 : Int32) (aK : Nat → Nat) (aV : Nat → Nat) (p0_2a : Nat → Nat) (p0_2k : Nat → ClassId) (p0_2w : ST) (p0_2l : SL) (p0_1a : Nat → Nat) (p0_1k : Nat → ClassId) (p0_1w : ST) (p0_1l : SL) (sz : Nat) (o : Int32 × ST × SL × ST × ST × SL) (hrun : kk_readCall p0w p0l p1 p2 p0_2w p0_2l p0_1w p0_1l = some o), Met l yX7_readCall (wz yX7_readCall cX7_readCall 8 (Option.some Jvm.ClassFile.FieldType.int)) ({ frames := F9, cells := 0, slots := 0, locals := L9 } : Room) (va_Pc [.ref (p0a 0), .long p1, .int p2] (PRE (zA zs (st9 aK aV)) dC dI (List.flatten ([(oX7 (p0a 0) p0a p0k p0w p0l), (oX6 (p0a 3) p0_2a p0_2k p0_2w p0_2l), (oX10 (p0a 2) p0_1a p0_1k p0_1w p0_1l)] : List va_W)) (List.flatten ([(tX7 p0k), (tX6 p0_2k), (tX10 p0_1k)] : List (List (ClassId × FieldType)))) sz)) (va_Qi (fun (r : Int32) (_ : Unit) => r = (o.1)) (fun _ t => POST dC dI (List.flatten ([(oX7 (p0a 0) p0a p0k (o.2.1) (o.2.2.1)), (oX6 (p0a 3) p0_2a p0_2k (o.2.2.2.1) p0_2l), (oX10 (p0a 2) p0_1a p0_1k (o.2.2.2.2.1) (o.2.2.2.2.2))] : List va_W)) (List.flatten ([(tX7 p0k), (tX6 p0_2k), (tX10 p0_1k)] : List (List (ClassId × FieldType)))) (va_A (List.flatten ([(oX7 (p0a 0) p0a p0k p0w p0l), (oX6 (p0a 3) p0_2a p0_2k p0_2w p0_2l), (oX10 (p0a 2) p0_1a p0_1k p0_1w p0_1l)] : List va_W)) sz) t) (va_A (List.flatten ([(oX7 (p0a 0) p0a p0k p0w p0l), (oX6 (p0a 3) p0_2a p0_2k p0_2w p0_2l), (oX10 (p0a 2) p0_1a p0_1k p0_1w p0_1l)] : List va_W)) sz)) 0 0 (va_A (List.flatten ([(oX7 (p0a 0) p0a p0k p0w p0l), (oX6 (p0a 3) p0_2a p0_2k p0_2w p0_2l), (oX10 (p0a 2) p0_1a p0_1k p0_1w p0_1l)] : List va_W)) sz)) (hkk_readTest : ∀ {zs : ZS} (dC : Nat → ClassId) (dI : Nat → Nat → Nat) (p0a : Nat → Nat) (p0k : Nat → ClassId) (p0w : ST) (p0l : SL) (p1 : Int32) (aK : Nat → Nat) (aV : Nat → Nat) (p0_2a : Nat → Nat) (p0_2k : Nat → ClassId) (p0_2w : ST) (p0_2l : SL) (p0_1a : Nat → Nat) (p0_1k : Nat → ClassId) (p0_1w : ST) (p0_1l : SL) (sz : Nat) (o : Int32 × ST × SL × ST × ST × SL) (hrun : kk_readTest p0w p0l p1 p0_2w p0_2l p0_1w p0_1l = some o), Met l yX7_readTest (wz yX7_readTest cX7_readTest 8 (Option.some Jvm.ClassFile.FieldType.int)) ({ frames := F9, cells := 0, slots := 0, locals := L9 } : Room) (va_Pc [.ref (p0a 0), .int p1] (PRE (zA zs (st9 aK aV)) dC dI (List.flatten ([(oX7 (p0a 0) p0a p0k p0w p0l), (oX6 (p0a 3) p0_2a p0_2k p0_2w p0_2l), (oX10 (p0a 2) p0_1a p0_1k p0_1w p0_1l)] : List va_W)) (List.flatten ([(tX7 p0k), (tX6 p0_2k), (tX10 p0_1k)] : List (List (ClassId × FieldType)))) sz)) (va_Qi (fun (r : Int32) (_ : Unit) => r = (o.1)) (fun _ t => POST dC dI (List.flatten ([(oX7 (p0a 0) p0a p0k (o.2.1) (o.2.2.1)), (oX6 (p0a 3) p0_2a p0_2k (o.2.2.2.1) p0_2l), (oX10 (p0a 2) p0_1a p0_1k (o.2.2.2.2.1) (o.2.2.2.2.2))] : List va_W)) (List.flatten ([(tX7 p0k), (tX6 p0_2k), (tX10 p0_1k)] : List (List (ClassId × FieldType)))) (va_A (List.flatten ([(oX7 (p0a 0) p0a p0k p0w p0l), (oX6 (p0a 3) p0_2a p0_2k p0_2w p0_2l), (oX10 (p0a 2) p0_1a p0_1k p0_1w p0_1l)] : List va_W)) sz) t) (va_A (List.flatten ([(oX7 (p0a 0) p0a p0k p0w p0l), (oX6 (p0a 3) p0_2a p0_2k p0_2w p0_2l), (oX10 (p0a 2) p0_1a p0_1k p0_1w p0_1l)] : List va_W)) sz)) 0 0 (va_A (List.flatten ([(oX7 (p0a 0) p0a p0k p0w p0l), (oX6 (p0a 3) p0_2a p0_2k p0_2w p0_2l), (oX10 (p0a 2) p0_1a p0_1k p0_1w p0_1l)] : List va_W)) sz)) (dC : Nat → ClassId) (dI : Nat → Nat → Nat) (p0a : Nat → Nat) (p0k : Nat → ClassId) (p0w : ST) (p0l : SL) (aK : Nat → Nat) (aV : Nat → Nat) (p0_2a : Nat → Nat) (p0_2k : Nat → ClassId) (p0_2w : ST) (p0_2l : SL) (p0_1a : Nat → Nat) (p0_1k : Nat → ClassId) (p0_1w : ST) (p0_1l : SL) (sz : Nat) (o : Int32 × ST × SL × ST × ST × SL) (hrun : fX7_readSingle kk_readCall kk_readTest p0w p0l p0_2w p0_2l p0_1w p0_1l = some o) : Met l yX7_readSingle (wz yX7_readSingle cX7_readSingle 5 (Option.some Jvm.ClassFile.FieldType.int)) ({ frames := F9 + 8, cells := 0, slots := 0, locals := L9 + 400 } : Room) (va_Pc [.ref (p0a 0)] (PRE (zA zs (st9 aK aV)) dC dI (List.flatten ([(oX7 (p0a 0) p0a p0k p0w p0l), (oX6 (p0a 3) p0_2a p0_2k p0_2w p0_2l), (oX10 (p0a 2) p0_1a p0_1k p0_1w p0_1l)] : List va_W)) (List.flatten ([(tX7 p0k), (tX6 p0_2k), (tX10 p0_1k)] : List (List (ClassId × FieldType)))) sz)) (va_Qi (fun (r : Int32) (_ : Unit) => r = (o.1)) (fun _ t => POST dC dI (List.flatten ([(oX7 (p0a 0) p0a p0k (o.2.1) (o.2.2.1)), (oX6 (p0a 3) p0_2a p0_2k (o.2.2.2.1) p0_2l), (oX10 (p0a 2) p0_1a p0_1k (o.2.2.2.2.1) (o.2.2.2.2.2))] : List va_W)) (List.flatten ([(tX7 p0k), (tX6 p0_2k), (tX10 p0_1k)] : List (List (ClassId × FieldType)))) (va_A (List.flatten ([(oX7 (p0a 0) p0a p0k p0w p0l), (oX6 (p0a 3) p0_2a p0_2k p0_2w p0_2l), (oX10 (p0a 2) p0_1a p0_1k p0_1w p0_1l)] : List va_W)) sz) t) (va_A (List.flatten ([(oX7 (p0a 0) p0a p0k p0w p0l), (oX6 (p0a 3) p0_2a p0_2k p0_2w p0_2l), (oX10 (p0a 2) p0_1a p0_1k p0_1w p0_1l)] : List va_W)) sz)) 0 0 (va_A (List.flatten ([(oX7 (p0a 0) p0a p0k p0w p0l), (oX6 (p0a 3) p0_2a p0_2k p0_2w p0_2l), (oX10 (p0a 2) p0_1a p0_1k p0_1w p0_1l)] : List va_W)) sz) := by
  refine Met.ofW (cc := cX7_readSingle) (maxL := 5) (ret := (Option.some Jvm.ClassFile.FieldType.int)) (by decide) rfl ?_
  intro p e s m args below meth c s₁ B hml hv
  obtain ⟨rfl, hsz, hP, hK, hD0, hE⟩ := hv
  have hx := B.exec
  have hb := B.bytes
  have hr := B.returns
  have hts0 := atoms_spec (ws := wz yX7_readSingle cX7_readSingle 5 (Option.some Jvm.ClassFile.FieldType.int)) B.pre
  have hts : ∀ w ∈ gw, w.before _ s = true := fun w h => hts0 w (List.mem_cons_of_mem _ h)
  have hown : s.vm.findClass RX7 = some m.cls := findClass_of_methodNamed B.named
  have hlocks := B.notSynchronized
  subst hsz
  have hD := hD0.self (sz := s.heap.size)
  refine gQ9 ?_
  intro Q hQ
  generalize hAe : va_A (List.flatten ([(oX7 (p0a 0) p0a p0k p0w p0l), (oX6 (p0a 3) p0_2a p0_2k p0_2w p0_2l), (oX10 (p0a 2) p0_1a p0_1k p0_1w p0_1l)] : List va_W)) s.heap.size = A at hD hE hQ
  have hA : ∀ q : Nat, s.heap.size ≤ q → A q := fun q h => by rw [← hAe]; exact Or.inr h
  have hro := ENV.ex hE
  have hro_st := hro.2
  replace hro := hro.1
  have hS : va_S A s.heap s.heap [] := va_S.rf
  have hP : va_P (dC, dI) cls (List.flatten ([(oX7 (p0a 0) p0a p0k p0w p0l), (oX6 (p0a 3) p0_2a p0_2k p0_2w p0_2l), (oX10 (p0a 2) p0_1a p0_1k p0_1w p0_1l)] : List va_W)) s.heap := hP
  have hl := lv_entry ([.ref (p0a 0)]) (n := 5) (Nat.le_of_ble_eq_true rfl)
  rw [lg_entry_eq]
  generalize (lg_sl ([.ref (p0a 0)]) ++ List.replicate (5 - (lg_sl ([.ref (p0a 0)])).length) Slot.unset).toArray = ls at hl ⊢
  have hl : lv_has ls 5 [(0, .ref (p0a 0))] := hl
  obtain ⟨H, hHe⟩ : ∃ H, H = s.heap := ⟨_, rfl⟩
  obtain ⟨locs, hle⟩ : ∃ locs : List Loc, locs = [] := ⟨_, rfl⟩
  rw [← hHe] at hP
  have hS : va_S A s.heap H locs := by rw [hHe, hle]; exact hS
  show W p l e ({ frames := F9 + 8, cells := 0, slots := 0, locals := L9 + 400 } : Room) s m ([.ref (p0a 0)] : List Value).toArray below meth c s.heap [] 0 0 Q (F0 m 0 ls [])
  rw [← hle]
  refine wH9 hHe ?_
  unfold fX7_readSingle at hrun
  refine lv_aload_n hx hb dX7_readSingle_0 rfl (lv_at hl 0 rfl) ?_
  refine va_get (D := (dC, dI)) (ci := 1) (v := .ref (p0a 2)) (C := RX7) (T := TX7) (N := 18) hx hb hts i_X7 hown hK hP 0 rfl rfl 1 (by decide) (hts _ qw45) (fun _ h9 => h9) rfl dX7_readSingle_1 ?_
  refine va_get (D := (dC, dI)) (ci := 0) (v := .int (p0_1w 0 3)) (C := RX10) (T := TX10) (N := 8) hx hb hts i_X10 hown hK hP 20 rfl rfl 3 (by decide) (hts _ qw69) (fun _ h9 => h9) rfl dX7_readSingle_4 ?_
  refine lv_istore_n (lv' := [(1, .int (p0_1w 0 3)), (0, .ref (p0a 0))]) hx hb dX7_readSingle_7 rfl hl (by decide) rfl (fun ls hl => ?_)
  refine lv_iconst (v := 1) hx hb dX7_readSingle_8 (by decide) ?_
  refine lv_istore_n (lv' := [(2, .int 1), (1, .int (p0_1w 0 3)), (0, .ref (p0a 0))]) hx hb dX7_readSingle_9 rfl hl (by decide) rfl (fun ls hl => ?_)
  refine lv_aload_n hx hb dX7_readSingle_10 rfl (lv_at hl 2 rfl) ?_
  refine va_get (D := (dC, dI)) (ci := 1) (v := .ref (p0a 2)) (C := RX7) (T := TX7) (N := 18) hx hb hts i_X7 hown hK hP 0 rfl rfl 1 (by decide) (hts _ qw45) (fun _ h9 => h9) rfl dX7_readSingle_11 ?_
  refine va_get (D := (dC, dI)) (ci := 0) (v := .int (p0_1w 0 2)) (C := RX10) (T := TX10) (N := 8) hx hb hts i_X10 hown hK hP 20 rfl rfl 2 (by decide) (hts _ qw46) (fun _ h9 => h9) rfl dX7_readSingle_14 ?_
  refine lv_iconst (v := 2) hx hb dX7_readSingle_17 (by decide) ?_
  have J199 : ∀ (v2_199 : Int32) (p0w_199 : ST) (p0l_199 : SL) (p0_2w_199 : ST) (p0_1w_199 : ST) (p0_1l_199 : SL) (H : Heap) (locs : List Loc) (ls : Array Slot), (fX7_readSingle_J199 v2_199 p0w_199 p0l_199 p0_2w_199 p0_1w_199 p0_1l_199) = some o → va_P (dC, dI) cls (List.flatten ([(oX7 (p0a 0) p0a p0k p0w_199 p0l_199), (oX6 (p0a 3) p0_2a p0_2k p0_2w_199 p0_2l), (oX10 (p0a 2) p0_1a p0_1k p0_1w_199 p0_1l_199)] : List va_W)) H → va_D A (List.flatten ([(oX7 (p0a 0) p0a p0k p0w_199 p0l_199), (oX6 (p0a 3) p0_2a p0_2k p0_2w_199 p0_2l), (oX10 (p0a 2) p0_1a p0_1k p0_1w_199 p0_1l_199)] : List va_W)) → va_K (dC, dI) cls (List.flatten ([(tX7 p0k), (tX6 p0_2k), (tX10 p0_1k)] : List (List (ClassId × FieldType)))) s → va_S A s.heap H locs → lv_has ls 5 [(2, .int v2_199)] → W p l e ({ frames := F9 + 8, cells := 0, slots := 0, locals := L9 + 400 } : Room) s m ([.ref (p0a 0)] : List Value).toArray below meth c H locs 0 0 Q (F0 m 199 ls []) := by
    intro v2_199 p0w_199 p0l_199 p0_2w_199 p0_1w_199 p0_1l_199 H locs ls hrun hP hD hK hS hl 
    unfold fX7_readSingle_J199 at hrun
    refine lv_iload_n hx hb dX7_readSingle_199 rfl (lv_at hl 0 rfl) ?_
    have ho9 : (v2_199, p0w_199, p0l_199, p0_2w_199, p0_1w_199, p0_1l_199) = o := Option.some.inj hrun
    have hP9 : va_P (dC, dI) cls (List.flatten ([(oX7 (p0a 0) p0a p0k (o.2.1) (o.2.2.1)), (oX6 (p0a 3) p0_2a p0_2k (o.2.2.2.1) p0_2l), (oX10 (p0a 2) p0_1a p0_1k (o.2.2.2.2.1) (o.2.2.2.2.2))] : List va_W)) H := by first | exact hP | (rw [← ho9]; exact hP)
    have hD9 : va_D A (List.flatten ([(oX7 (p0a 0) p0a p0k (o.2.1) (o.2.2.1)), (oX6 (p0a 3) p0_2a p0_2k (o.2.2.2.1) p0_2l), (oX10 (p0a 2) p0_1a p0_1k (o.2.2.2.2.1) (o.2.2.2.2.2))] : List va_W)) := by first | exact hD | (rw [← ho9]; exact hD)
    subst hQ
    exact W.iret (v := v2_199) hx hb hr (fun t ht hW => ⟨⟨v2_199, (), rfl, (by rw [← ho9]), ⟨by rw [ht]; exact hP9, va_K.moved hW.alike hK, hD9⟩⟩, hS.F ht⟩) hS.2.2 dX7_readSingle_200
  rcases br9 hrun with ⟨hc1, hrun⟩ | ⟨hc1, hrun⟩
  · refine lv_icmp_ne (tgt := 47) hx hb dX7_readSingle_18 (by decide) (fun c => absurd hc1 c) (fun _ => ?_)
    refine lv_aload_n hx hb dX7_readSingle_21 rfl (lv_at hl 2 rfl) ?_
    refine va_get (D := (dC, dI)) (ci := 1) (v := .ref (p0a 3)) (C := RX7) (T := TX7) (N := 18) hx hb hts i_X7 hown hK hP 0 rfl rfl 2 (by decide) (hts _ qw26) (fun _ h9 => h9) rfl dX7_readSingle_22 ?_
    refine lv_iconst (v := 0) hx hb dX7_readSingle_25 (by decide) ?_
    refine lv_aload_n hx hb dX7_readSingle_26 rfl (lv_at hl 2 rfl) ?_
    refine va_get (D := (dC, dI)) (ci := 1) (v := .ref (p0a 2)) (C := RX7) (T := TX7) (N := 18) hx hb hts i_X7 hown hK hP 0 rfl rfl 1 (by decide) (hts _ qw45) (fun _ h9 => h9) rfl dX7_readSingle_27 ?_
    refine va_get (D := (dC, dI)) (ci := 0) (v := .int (p0_1w 0 4)) (C := RX10) (T := TX10) (N := 8) hx hb hts i_X10 hown hK hP 20 rfl rfl 4 (by decide) (hts _ qw80) (fun _ h9 => h9) rfl dX7_readSingle_30 ?_
    refine lv_iconst (v := 1) hx hb dX7_readSingle_33 (by decide) ?_
    obtain ⟨o_2, hc_2, hrun⟩ := bnd9 hrun
    have hPx : va_P (dC, dI) cls ((List.flatten ([(oX6 (p0a 3) p0_2a p0_2k p0_2w p0_2l)] : List va_W)) ++ (List.flatten ([(oX7 (p0a 0) p0a p0k p0w p0l), (oX10 (p0a 2) p0_1a p0_1k p0_1w p0_1l)] : List va_W))) H := vP_fa (vP_perm hP (bP ((((List.Perm.refl _)).cons _).trans (List.Perm.swap _ _ _))))
    have hDx : va_D A ((List.flatten ([(oX6 (p0a 3) p0_2a p0_2k p0_2w p0_2l)] : List va_W)) ++ (List.flatten ([(oX7 (p0a 0) p0a p0k p0w p0l), (oX10 (p0a 2) p0_1a p0_1k p0_1w p0_1l)] : List va_W))) := vD_fa (vD_perm hD (bP ((((List.Perm.refl _)).cons _).trans (List.Perm.swap _ _ _))))
    have hKx : va_K (dC, dI) cls ((List.flatten ([(tX6 p0_2k)] : List (List (ClassId × FieldType)))) ++ (List.flatten ([(tX7 p0k), (tX10 p0_1k)] : List (List (ClassId × FieldType))))) s := vK_fa (vK_perm hK (bP ((((List.Perm.refl _)).cons _).trans (List.Perm.swap _ _ _))))
    have hPc := vP_l hPx
    have hDc := vD_l hDx
    have hKc := vK_l hKx
    have hFc := vfree hDx hS hA
    refine va_callv (va_runV (As := [.int 0, .int (p0_1w 0 4), .int 1]) (rest := []) ⟨hx, hb, hml, hown, hts⟩ (kX6_emit l dC dI (p0a := (st0 (p0a 3) p0_2a)) (p0k := p0_2k) (p0w := p0_2w) (p0l := p0_2l) (p1 := 0) (p2 := (p0_1w 0 4)) (p3 := 1) (sz := _) (o := o_2) (hrun := hc_2)) (cwV 3 hts (gi_V qw42 qw43 qw44 qw33 (gi_z qw41)) rfl rfl rfl (by decide +kernel) ⟨rmF (Nat.le_of_ble_eq_true rfl), rmL (Nat.le_of_ble_eq_true rfl)⟩) ⟨PRE.blind, va_recv hKc hPc (ci := 2) (q0 := 0) rfl rfl, PRE.of hE hS hFc hPc hKc hDc⟩ rfl rfl hl.1 rfl (lv_room (Nat.le_of_ble_eq_true rfl)) dX7_readSingle_34 ⟨(Nat.le_of_ble_eq_true rfl), (Nat.le_of_ble_eq_true rfl)⟩) hS (fun q _ h => hFc q h) hFc (fun u t H locs ht hvm hw hB hz1 hk1 hS => ?_)
    obtain ⟨b1, b2, b3⟩ := hB
    rw [ht] at b1
    obtain ⟨hP, hD, hK⟩ := JOINC (wc := (List.flatten ([(oX6 (p0a 3) p0_2a p0_2k p0_2w p0_2l)] : List va_W))) (wr := (List.flatten ([(oX7 (p0a 0) p0a p0k p0w p0l), (oX10 (p0a 2) p0_1a p0_1k p0_1w p0_1l)] : List va_W))) (w1 := (List.flatten ([(oX6 (p0a 3) p0_2a p0_2k o_2 p0_2l)] : List va_W))) (t1 := (List.flatten ([(tX6 p0_2k)] : List (List (ClassId × FieldType))))) hPx hDx hKx hk1 hFc b1 (va_K.moved hvm.symm b2) b3
    have hP : va_P (dC, dI) cls (List.flatten ([(oX7 (p0a 0) p0a p0k p0w p0l), (oX6 (p0a 3) p0_2a p0_2k o_2 p0_2l), (oX10 (p0a 2) p0_1a p0_1k p0_1w p0_1l)] : List va_W)) H := vP_perm (vP_fb hP) (bP ((((List.Perm.refl _)).cons _).trans (List.Perm.swap _ _ _)))
    have hD : va_D A (List.flatten ([(oX7 (p0a 0) p0a p0k p0w p0l), (oX6 (p0a 3) p0_2a p0_2k o_2 p0_2l), (oX10 (p0a 2) p0_1a p0_1k p0_1w p0_1l)] : List va_W)) := vD_perm (vD_fb hD) (bP ((((List.Perm.refl _)).cons _).trans (List.Perm.swap _ _ _)))
    have hK : va_K (dC, dI) cls (List.flatten ([(tX7 p0k), (tX6 p0_2k), (tX10 p0_1k)] : List (List (ClassId × FieldType)))) s := vK_perm (vK_fb hK) (bP ((((List.Perm.refl _)).cons _).trans (List.Perm.swap _ _ _)))
    refine lv_aload_n hx hb dX7_readSingle_37 rfl (lv_at hl 2 rfl) ?_
    refine va_get (D := (dC, dI)) (ci := 1) (v := .ref (p0a 2)) (C := RX7) (T := TX7) (N := 18) hx hb hts i_X7 hown hK hP 0 rfl rfl 1 (by decide) (hts _ qw45) (fun _ h9 => h9) rfl dX7_readSingle_38 ?_
    obtain ⟨o_3, hc_3, hrun⟩ := bnd9 hrun
    have hPx : va_P (dC, dI) cls ((List.flatten ([(oX10 (p0a 2) p0_1a p0_1k p0_1w p0_1l)] : List va_W)) ++ (List.flatten ([(oX7 (p0a 0) p0a p0k p0w p0l), (oX6 (p0a 3) p0_2a p0_2k o_2 p0_2l)] : List va_W))) H := vP_fa (vP_perm hP (bP (((((((List.Perm.refl _)).cons _).trans (List.Perm.swap _ _ _))).cons _).trans (List.Perm.swap _ _ _))))
    have hDx : va_D A ((List.flatten ([(oX10 (p0a 2) p0_1a p0_1k p0_1w p0_1l)] : List va_W)) ++ (List.flatten ([(oX7 (p0a 0) p0a p0k p0w p0l), (oX6 (p0a 3) p0_2a p0_2k o_2 p0_2l)] : List va_W))) := vD_fa (vD_perm hD (bP (((((((List.Perm.refl _)).cons _).trans (List.Perm.swap _ _ _))).cons _).trans (List.Perm.swap _ _ _))))
    have hKx : va_K (dC, dI) cls ((List.flatten ([(tX10 p0_1k)] : List (List (ClassId × FieldType)))) ++ (List.flatten ([(tX7 p0k), (tX6 p0_2k)] : List (List (ClassId × FieldType))))) s := vK_fa (vK_perm hK (bP (((((((List.Perm.refl _)).cons _).trans (List.Perm.swap _ _ _))).cons _).trans (List.Perm.swap _ _ _))))
    have hPc := vP_l hPx
    have hDc := vD_l hDx
    have hKc := vK_l hKx
    have hFc := vfree hDx hS hA
    refine va_callv (va_runV (As := []) (rest := []) ⟨hx, hb, hml, hown, hts⟩ (kX10_advance l dC dI (p0a := (st0 (p0a 2) p0_1a)) (p0k := p0_1k) (p0w := p0_1w) (p0l := p0_1l) (aK := aK) (aV := aV) (sz := _) (o := o_3) (hrun := hc_3)) (cwV 0 hts (gi_V qw1384 qw1382 qw1383 qw8 (gi_z qw1380)) rfl rfl rfl (by decide +kernel) ⟨rmF (Nat.le_of_ble_eq_true rfl), rmL (Nat.le_of_ble_eq_true rfl)⟩) ⟨PRE.blind, va_recv hKc hPc (ci := 0) (q0 := 0) rfl rfl, PRE.of (ENV.add hE st9_m hro_st) hS hFc hPc hKc hDc⟩ rfl rfl hl.1 rfl (lv_room (Nat.le_of_ble_eq_true rfl)) dX7_readSingle_41 ⟨(Nat.le_of_ble_eq_true rfl), (Nat.le_of_ble_eq_true rfl)⟩) hS (fun q _ h => hFc q h) hFc (fun u t H locs ht hvm hw hB hz1 hk1 hS => ?_)
    obtain ⟨b1, b2, b3⟩ := hB
    rw [ht] at b1
    obtain ⟨hP, hD, hK⟩ := JOINC (wc := (List.flatten ([(oX10 (p0a 2) p0_1a p0_1k p0_1w p0_1l)] : List va_W))) (wr := (List.flatten ([(oX7 (p0a 0) p0a p0k p0w p0l), (oX6 (p0a 3) p0_2a p0_2k o_2 p0_2l)] : List va_W))) (w1 := (List.flatten ([(oX10 (p0a 2) p0_1a p0_1k (o_3.1) (o_3.2))] : List va_W))) (t1 := (List.flatten ([(tX10 p0_1k)] : List (List (ClassId × FieldType))))) hPx hDx hKx hk1 hFc b1 (va_K.moved hvm.symm b2) b3
    have hP : va_P (dC, dI) cls (List.flatten ([(oX7 (p0a 0) p0a p0k p0w p0l), (oX6 (p0a 3) p0_2a p0_2k o_2 p0_2l), (oX10 (p0a 2) p0_1a p0_1k (o_3.1) (o_3.2))] : List va_W)) H := vP_perm (vP_fb hP) (bP ((((((List.Perm.refl _)).cons _).trans (List.Perm.swap _ _ _))).trans ((((((List.Perm.refl _)).cons _).trans (List.Perm.swap _ _ _))).cons _)))
    have hD : va_D A (List.flatten ([(oX7 (p0a 0) p0a p0k p0w p0l), (oX6 (p0a 3) p0_2a p0_2k o_2 p0_2l), (oX10 (p0a 2) p0_1a p0_1k (o_3.1) (o_3.2))] : List va_W)) := vD_perm (vD_fb hD) (bP ((((((List.Perm.refl _)).cons _).trans (List.Perm.swap _ _ _))).trans ((((((List.Perm.refl _)).cons _).trans (List.Perm.swap _ _ _))).cons _)))
    have hK : va_K (dC, dI) cls (List.flatten ([(tX7 p0k), (tX6 p0_2k), (tX10 p0_1k)] : List (List (ClassId × FieldType)))) s := vK_perm (vK_fb hK) (bP ((((((List.Perm.refl _)).cons _).trans (List.Perm.swap _ _ _))).trans ((((((List.Perm.refl _)).cons _).trans (List.Perm.swap _ _ _))).cons _)))
    refine lv_goto (tgt := 199) hx hb dX7_readSingle_44 (by decide) ?_
    exact J199 1 p0w p0l o_2 (o_3.1) (o_3.2) _ _ _ hrun hP hD hK hS (lv_sub hl [0] rfl)
  · refine lv_icmp_ne (tgt := 47) hx hb dX7_readSingle_18 (by decide) (fun _ => ?_) (fun c => absurd c hc1)
    refine lv_aload_n hx hb dX7_readSingle_47 rfl (lv_at hl 2 rfl) ?_
    refine va_get (D := (dC, dI)) (ci := 1) (v := .ref (p0a 2)) (C := RX7) (T := TX7) (N := 18) hx hb hts i_X7 hown hK hP 0 rfl rfl 1 (by decide) (hts _ qw45) (fun _ h9 => h9) rfl dX7_readSingle_48 ?_
    refine va_get (D := (dC, dI)) (ci := 0) (v := .int (p0_1w 0 2)) (C := RX10) (T := TX10) (N := 8) hx hb hts i_X10 hown hK hP 20 rfl rfl 2 (by decide) (hts _ qw46) (fun _ h9 => h9) rfl dX7_readSingle_51 ?_
    refine lv_iconst (v := 3) hx hb dX7_readSingle_54 (by decide) ?_
    rcases br9 hrun with ⟨hc4, hrun⟩ | ⟨hc4, hrun⟩
    · refine lv_icmp_ne (tgt := 114) hx hb dX7_readSingle_55 (by decide) (fun c => absurd hc4 c) (fun _ => ?_)
      refine lv_aload_n hx hb dX7_readSingle_58 rfl (lv_at hl 2 rfl) ?_
      refine va_get (D := (dC, dI)) (ci := 1) (v := .ref (p0a 2)) (C := RX7) (T := TX7) (N := 18) hx hb hts i_X7 hown hK hP 0 rfl rfl 1 (by decide) (hts _ qw45) (fun _ h9 => h9) rfl dX7_readSingle_59 ?_
      refine va_get (D := (dC, dI)) (ci := 0) (v := .long (p0_1l 0 5)) (C := RX10) (T := TX10) (N := 8) hx hb hts i_X10 hown hK hP 20 rfl rfl 5 (by decide) (hts _ qw70) (fun _ h9 => h9) rfl dX7_readSingle_62 ?_
      refine lv_lstore_n (lv' := [(3, .long (p0_1l 0 5)), (2, .int 1), (1, .int (p0_1w 0 3)), (0, .ref (p0a 0))]) hx hb dX7_readSingle_65 rfl hl (by decide) rfl (fun ls hl => ?_)
      refine lv_aload_n hx hb dX7_readSingle_66 rfl (lv_at hl 3 rfl) ?_
      refine va_get (D := (dC, dI)) (ci := 1) (v := .ref (p0a 2)) (C := RX7) (T := TX7) (N := 18) hx hb hts i_X7 hown hK hP 0 rfl rfl 1 (by decide) (hts _ qw45) (fun _ h9 => h9) rfl dX7_readSingle_67 ?_
      obtain ⟨o_5, hc_5, hrun⟩ := bnd9 hrun
      have hPx : va_P (dC, dI) cls ((List.flatten ([(oX10 (p0a 2) p0_1a p0_1k p0_1w p0_1l)] : List va_W)) ++ (List.flatten ([(oX7 (p0a 0) p0a p0k p0w p0l), (oX6 (p0a 3) p0_2a p0_2k p0_2w p0_2l)] : List va_W))) H := vP_fa (vP_perm hP (bP (((((((List.Perm.refl _)).cons _).trans (List.Perm.swap _ _ _))).cons _).trans (List.Perm.swap _ _ _))))
      have hDx : va_D A ((List.flatten ([(oX10 (p0a 2) p0_1a p0_1k p0_1w p0_1l)] : List va_W)) ++ (List.flatten ([(oX7 (p0a 0) p0a p0k p0w p0l), (oX6 (p0a 3) p0_2a p0_2k p0_2w p0_2l)] : List va_W))) := vD_fa (vD_perm hD (bP (((((((List.Perm.refl _)).cons _).trans (List.Perm.swap _ _ _))).cons _).trans (List.Perm.swap _ _ _))))
      have hKx : va_K (dC, dI) cls ((List.flatten ([(tX10 p0_1k)] : List (List (ClassId × FieldType)))) ++ (List.flatten ([(tX7 p0k), (tX6 p0_2k)] : List (List (ClassId × FieldType))))) s := vK_fa (vK_perm hK (bP (((((((List.Perm.refl _)).cons _).trans (List.Perm.swap _ _ _))).cons _).trans (List.Perm.swap _ _ _))))
      have hPc := vP_l hPx
      have hDc := vD_l hDx
      have hKc := vK_l hKx
      have hFc := vfree hDx hS hA
      refine va_callv (va_runV (As := []) (rest := []) ⟨hx, hb, hml, hown, hts⟩ (kX10_advance l dC dI (p0a := (st0 (p0a 2) p0_1a)) (p0k := p0_1k) (p0w := p0_1w) (p0l := p0_1l) (aK := aK) (aV := aV) (sz := _) (o := o_5) (hrun := hc_5)) (cwV 0 hts (gi_V qw1384 qw1382 qw1383 qw8 (gi_z qw1380)) rfl rfl rfl (by decide +kernel) ⟨rmF (Nat.le_of_ble_eq_true rfl), rmL (Nat.le_of_ble_eq_true rfl)⟩) ⟨PRE.blind, va_recv hKc hPc (ci := 0) (q0 := 0) rfl rfl, PRE.of (ENV.add hE st9_m hro_st) hS hFc hPc hKc hDc⟩ rfl rfl hl.1 rfl (lv_room (Nat.le_of_ble_eq_true rfl)) dX7_readSingle_70 ⟨(Nat.le_of_ble_eq_true rfl), (Nat.le_of_ble_eq_true rfl)⟩) hS (fun q _ h => hFc q h) hFc (fun u t H locs ht hvm hw hB hz1 hk1 hS => ?_)
      obtain ⟨b1, b2, b3⟩ := hB
      rw [ht] at b1
      obtain ⟨hP, hD, hK⟩ := JOINC (wc := (List.flatten ([(oX10 (p0a 2) p0_1a p0_1k p0_1w p0_1l)] : List va_W))) (wr := (List.flatten ([(oX7 (p0a 0) p0a p0k p0w p0l), (oX6 (p0a 3) p0_2a p0_2k p0_2w p0_2l)] : List va_W))) (w1 := (List.flatten ([(oX10 (p0a 2) p0_1a p0_1k (o_5.1) (o_5.2))] : List va_W))) (t1 := (List.flatten ([(tX10 p0_1k)] : List (List (ClassId × FieldType))))) hPx hDx hKx hk1 hFc b1 (va_K.moved hvm.symm b2) b3
      have hP : va_P (dC, dI) cls (List.flatten ([(oX7 (p0a 0) p0a p0k p0w p0l), (oX6 (p0a 3) p0_2a p0_2k p0_2w p0_2l), (oX10 (p0a 2) p0_1a p0_1k (o_5.1) (o_5.2))] : List va_W)) H := vP_perm (vP_fb hP) (bP ((((((List.Perm.refl _)).cons _).trans (List.Perm.swap _ _ _))).trans ((((((List.Perm.refl _)).cons _).trans (List.Perm.swap _ _ _))).cons _)))
      have hD : va_D A (List.flatten ([(oX7 (p0a 0) p0a p0k p0w p0l), (oX6 (p0a 3) p0_2a p0_2k p0_2w p0_2l), (oX10 (p0a 2) p0_1a p0_1k (o_5.1) (o_5.2))] : List va_W)) := vD_perm (vD_fb hD) (bP ((((((List.Perm.refl _)).cons _).trans (List.Perm.swap _ _ _))).trans ((((((List.Perm.refl _)).cons _).trans (List.Perm.swap _ _ _))).cons _)))
      have hK : va_K (dC, dI) cls (List.flatten ([(tX7 p0k), (tX6 p0_2k), (tX10 p0_1k)] : List (List (ClassId × FieldType)))) s := vK_perm (vK_fb hK) (bP ((((((List.Perm.refl _)).cons _).trans (List.Perm.swap _ _ _))).trans ((((((List.Perm.refl _)).cons _).trans (List.Perm.swap _ _ _))).cons _)))
      refine lv_aload_n hx hb dX7_readSingle_73 rfl (lv_at hl 3 rfl) ?_
      refine va_get (D := (dC, dI)) (ci := 1) (v := .ref (p0a 2)) (C := RX7) (T := TX7) (N := 18) hx hb hts i_X7 hown hK hP 0 rfl rfl 1 (by decide) (hts _ qw45) (fun _ h9 => h9) rfl dX7_readSingle_74 ?_
      refine va_get (D := (dC, dI)) (ci := 0) (v := .int ((o_5.1) 0 2)) (C := RX10) (T := TX10) (N := 8) hx hb hts i_X10 hown hK hP 20 rfl rfl 2 (by decide) (hts _ qw46) (fun _ h9 => h9) rfl dX7_readSingle_77 ?_
      refine lv_bipush (v := 40) hx hb dX7_readSingle_80 (by decide) ?_
      have J111 : ∀ (v2_111 : Int32) (p0w_111 : ST) (p0l_111 : SL) (p0_2w_111 : ST) (p0_1w_111 : ST) (p0_1l_111 : SL) (H : Heap) (locs : List Loc) (ls : Array Slot), (fX7_readSingle_J111 v2_111 p0w_111 p0l_111 p0_2w_111 p0_1w_111 p0_1l_111) = some o → va_P (dC, dI) cls (List.flatten ([(oX7 (p0a 0) p0a p0k p0w_111 p0l_111), (oX6 (p0a 3) p0_2a p0_2k p0_2w_111 p0_2l), (oX10 (p0a 2) p0_1a p0_1k p0_1w_111 p0_1l_111)] : List va_W)) H → va_D A (List.flatten ([(oX7 (p0a 0) p0a p0k p0w_111 p0l_111), (oX6 (p0a 3) p0_2a p0_2k p0_2w_111 p0_2l), (oX10 (p0a 2) p0_1a p0_1k p0_1w_111 p0_1l_111)] : List va_W)) → va_K (dC, dI) cls (List.flatten ([(tX7 p0k), (tX6 p0_2k), (tX10 p0_1k)] : List (List (ClassId × FieldType)))) s → va_S A s.heap H locs → lv_has ls 5 [(2, .int v2_111)] → W p l e ({ frames := F9 + 8, cells := 0, slots := 0, locals := L9 + 400 } : Room) s m ([.ref (p0a 0)] : List Value).toArray below meth c H locs 0 0 Q (F0 m 111 ls []) := by
        intro v2_111 p0w_111 p0l_111 p0_2w_111 p0_1w_111 p0_1l_111 H locs ls hrun hP hD hK hS hl 
        unfold fX7_readSingle_J111 at hrun
        refine lv_goto (tgt := 199) hx hb dX7_readSingle_111 (by decide) ?_
        exact J199 v2_111 p0w_111 p0l_111 p0_2w_111 p0_1w_111 p0_1l_111 _ _ _ hrun hP hD hK hS (lv_sub hl [0] rfl)
      rcases br9 hrun with ⟨hc6, hrun⟩ | ⟨hc6, hrun⟩
      · refine lv_icmp_ne (tgt := 95) hx hb dX7_readSingle_82 (by decide) (fun c => absurd hc6 c) (fun _ => ?_)
        refine lv_aload_n hx hb dX7_readSingle_85 rfl (lv_at hl 3 rfl) ?_
        refine lv_lload_n hx hb dX7_readSingle_86 rfl (lv_at hl 0 rfl) ?_
        refine lv_iload_n hx hb dX7_readSingle_87 rfl (lv_at hl 2 rfl) ?_
        obtain ⟨o_7, hc_7, hrun⟩ := bnd9 hrun
        have hPx : va_P (dC, dI) cls ((List.flatten ([(oX7 (p0a 0) p0a p0k p0w p0l), (oX6 (p0a 3) p0_2a p0_2k p0_2w p0_2l), (oX10 (p0a 2) p0_1a p0_1k (o_5.1) (o_5.2))] : List va_W)) ++ (List.flatten ([] : List va_W))) H := vP_fa (vP_perm hP (bP (List.Perm.refl _)))
        have hDx : va_D A ((List.flatten ([(oX7 (p0a 0) p0a p0k p0w p0l), (oX6 (p0a 3) p0_2a p0_2k p0_2w p0_2l), (oX10 (p0a 2) p0_1a p0_1k (o_5.1) (o_5.2))] : List va_W)) ++ (List.flatten ([] : List va_W))) := vD_fa (vD_perm hD (bP (List.Perm.refl _)))
        have hKx : va_K (dC, dI) cls ((List.flatten ([(tX7 p0k), (tX6 p0_2k), (tX10 p0_1k)] : List (List (ClassId × FieldType)))) ++ (List.flatten ([] : List (List (ClassId × FieldType))))) s := vK_fa (vK_perm hK (bP (List.Perm.refl _)))
        have hPc := vP_l hPx
        have hDc := vD_l hDx
        have hKc := vK_l hKx
        have hFc := vfree hDx hS hA
        refine va_calli (va_runV (As := [.long (p0_1l 0 5), .int (p0_1w 0 3)]) (rest := []) ⟨hx, hb, hml, hown, hts⟩ (hkk_readCall dC dI (p0a := p0a) (p0k := p0k) (p0w := p0w) (p0l := p0l) (p1 := (p0_1l 0 5)) (p2 := (p0_1w 0 3)) (aK := aK) (aV := aV) (p0_2a := p0_2a) (p0_2k := p0_2k) (p0_2w := p0_2w) (p0_2l := p0_2l) (p0_1a := p0_1a) (p0_1k := p0_1k) (p0_1w := (o_5.1)) (p0_1l := (o_5.2)) (sz := _) (o := o_7) (hrun := hc_7)) (cwV 2 hts (gi_V qw1398 qw1399 qw1400 qw65 (gi_z qw1397)) rfl rfl rfl (by decide +kernel) ⟨rmF9, rmL9 (n := 27) (Nat.le_of_ble_eq_true rfl)⟩) ⟨PRE.blind, va_recv hKc hPc (ci := 1) (q0 := 0) rfl rfl, PRE.of (ENV.add hE st9_m hro_st) hS hFc hPc hKc hDc⟩ rfl rfl hl.1 rfl (lv_room (Nat.le_of_ble_eq_true rfl)) dX7_readSingle_88 ⟨(Nat.le_of_ble_eq_true rfl), (Nat.le_of_ble_eq_true rfl)⟩) hS (fun q _ h => hFc q h) hFc (fun r8 u t H locs ht hvm hw hB hz1 hk1 hS => ?_)
        obtain ⟨b1, b2, b3⟩ := hB
        rw [ht] at b1
        obtain ⟨hP, hD, hK⟩ := JOINC (wc := (List.flatten ([(oX7 (p0a 0) p0a p0k p0w p0l), (oX6 (p0a 3) p0_2a p0_2k p0_2w p0_2l), (oX10 (p0a 2) p0_1a p0_1k (o_5.1) (o_5.2))] : List va_W))) (wr := (List.flatten ([] : List va_W))) (w1 := (List.flatten ([(oX7 (p0a 0) p0a p0k (o_7.2.1) (o_7.2.2.1)), (oX6 (p0a 3) p0_2a p0_2k (o_7.2.2.2.1) p0_2l), (oX10 (p0a 2) p0_1a p0_1k (o_7.2.2.2.2.1) (o_7.2.2.2.2.2))] : List va_W))) (t1 := (List.flatten ([(tX7 p0k), (tX6 p0_2k), (tX10 p0_1k)] : List (List (ClassId × FieldType))))) hPx hDx hKx hk1 hFc b1 (va_K.moved hvm.symm b2) b3
        have hP : va_P (dC, dI) cls (List.flatten ([(oX7 (p0a 0) p0a p0k (o_7.2.1) (o_7.2.2.1)), (oX6 (p0a 3) p0_2a p0_2k (o_7.2.2.2.1) p0_2l), (oX10 (p0a 2) p0_1a p0_1k (o_7.2.2.2.2.1) (o_7.2.2.2.2.2))] : List va_W)) H := vP_perm (vP_fb hP) (bP (List.Perm.refl _))
        have hD : va_D A (List.flatten ([(oX7 (p0a 0) p0a p0k (o_7.2.1) (o_7.2.2.1)), (oX6 (p0a 3) p0_2a p0_2k (o_7.2.2.2.1) p0_2l), (oX10 (p0a 2) p0_1a p0_1k (o_7.2.2.2.2.1) (o_7.2.2.2.2.2))] : List va_W)) := vD_perm (vD_fb hD) (bP (List.Perm.refl _))
        have hK : va_K (dC, dI) cls (List.flatten ([(tX7 p0k), (tX6 p0_2k), (tX10 p0_1k)] : List (List (ClassId × FieldType)))) s := vK_perm (vK_fb hK) (bP (List.Perm.refl _))
        obtain rfl : r8 = (o_7.1) := hw
        refine lv_istore_n (lv' := [(2, .int (o_7.1)), (3, .long (p0_1l 0 5)), (1, .int (p0_1w 0 3)), (0, .ref (p0a 0))]) hx hb dX7_readSingle_91 rfl hl (by decide) rfl (fun ls hl => ?_)
        refine lv_goto (tgt := 111) hx hb dX7_readSingle_92 (by decide) ?_
        exact J111 (o_7.1) (o_7.2.1) (o_7.2.2.1) (o_7.2.2.2.1) (o_7.2.2.2.2.1) (o_7.2.2.2.2.2) _ _ _ hrun hP hD hK hS (lv_sub hl [0] rfl)
      · refine lv_icmp_ne (tgt := 95) hx hb dX7_readSingle_82 (by decide) (fun _ => ?_) (fun c => absurd c hc6)
        refine lv_aload_n hx hb dX7_readSingle_95 rfl (lv_at hl 3 rfl) ?_
        refine va_get (D := (dC, dI)) (ci := 1) (v := .ref (p0a 3)) (C := RX7) (T := TX7) (N := 18) hx hb hts i_X7 hown hK hP 0 rfl rfl 2 (by decide) (hts _ qw26) (fun _ h9 => h9) rfl dX7_readSingle_96 ?_
        refine lv_bipush (v := 30) hx hb dX7_readSingle_99 (by decide) ?_
        refine lv_aload_n hx hb dX7_readSingle_101 rfl (lv_at hl 3 rfl) ?_
        refine lv_lload_n hx hb dX7_readSingle_102 rfl (lv_at hl 0 rfl) ?_
        refine lv_iload_n hx hb dX7_readSingle_103 rfl (lv_at hl 2 rfl) ?_
        obtain ⟨o_9, hc_9, hrun⟩ := bnd9 hrun
        have hPx : va_P (dC, dI) cls ((List.flatten ([(oX7 (p0a 0) p0a p0k p0w p0l)] : List va_W)) ++ (List.flatten ([(oX6 (p0a 3) p0_2a p0_2k p0_2w p0_2l), (oX10 (p0a 2) p0_1a p0_1k (o_5.1) (o_5.2))] : List va_W))) H := vP_fa (vP_perm hP (bP (List.Perm.refl _)))
        have hDx : va_D A ((List.flatten ([(oX7 (p0a 0) p0a p0k p0w p0l)] : List va_W)) ++ (List.flatten ([(oX6 (p0a 3) p0_2a p0_2k p0_2w p0_2l), (oX10 (p0a 2) p0_1a p0_1k (o_5.1) (o_5.2))] : List va_W))) := vD_fa (vD_perm hD (bP (List.Perm.refl _)))
        have hKx : va_K (dC, dI) cls ((List.flatten ([(tX7 p0k)] : List (List (ClassId × FieldType)))) ++ (List.flatten ([(tX6 p0_2k), (tX10 p0_1k)] : List (List (ClassId × FieldType))))) s := vK_fa (vK_perm hK (bP (List.Perm.refl _)))
        have hPc := vP_l hPx
        have hDc := vD_l hDx
        have hKc := vK_l hKx
        have hFc := vfree hDx hS hA
        refine va_calli (va_runV (As := [.long (p0_1l 0 5), .int (p0_1w 0 3)]) (rest := [.int 30, .ref (p0a 3)]) ⟨hx, hb, hml, hown, hts⟩ (kX7_seenVariableOf l dC dI (p0a := p0a) (p0k := p0k) (p0w := p0w) (p0l := p0l) (p1 := (p0_1l 0 5)) (p2 := (p0_1w 0 3)) (sz := _) (o := o_9) (hrun := hc_9)) (cwV 2 hts (gi_V qw1406 qw1407 qw1408 qw65 (gi_z qw1405)) rfl rfl rfl (by decide +kernel) ⟨rmF (Nat.le_of_ble_eq_true rfl), rmL (Nat.le_of_ble_eq_true rfl)⟩) ⟨PRE.blind, va_recv hKc hPc (ci := 1) (q0 := 0) rfl rfl, PRE.of hE hS hFc hPc hKc hDc⟩ rfl rfl hl.1 rfl (lv_room (Nat.le_of_ble_eq_true rfl)) dX7_readSingle_104 ⟨(Nat.le_of_ble_eq_true rfl), (Nat.le_of_ble_eq_true rfl)⟩) hS (fun q _ h => hFc q h) hFc (fun r10 u t H locs ht hvm hw hB hz1 hk1 hS => ?_)
        obtain ⟨b1, b2, b3⟩ := hB
        rw [ht] at b1
        obtain ⟨hP, hD, hK⟩ := JOINC (wc := (List.flatten ([(oX7 (p0a 0) p0a p0k p0w p0l)] : List va_W))) (wr := (List.flatten ([(oX6 (p0a 3) p0_2a p0_2k p0_2w p0_2l), (oX10 (p0a 2) p0_1a p0_1k (o_5.1) (o_5.2))] : List va_W))) (w1 := (List.flatten ([(oX7 (p0a 0) p0a p0k (o_9.2) p0l)] : List va_W))) (t1 := (List.flatten ([(tX7 p0k)] : List (List (ClassId × FieldType))))) hPx hDx hKx hk1 hFc b1 (va_K.moved hvm.symm b2) b3
        have hP : va_P (dC, dI) cls (List.flatten ([(oX7 (p0a 0) p0a p0k (o_9.2) p0l), (oX6 (p0a 3) p0_2a p0_2k p0_2w p0_2l), (oX10 (p0a 2) p0_1a p0_1k (o_5.1) (o_5.2))] : List va_W)) H := vP_perm (vP_fb hP) (bP (List.Perm.refl _))
        have hD : va_D A (List.flatten ([(oX7 (p0a 0) p0a p0k (o_9.2) p0l), (oX6 (p0a 3) p0_2a p0_2k p0_2w p0_2l), (oX10 (p0a 2) p0_1a p0_1k (o_5.1) (o_5.2))] : List va_W)) := vD_perm (vD_fb hD) (bP (List.Perm.refl _))
        have hK : va_K (dC, dI) cls (List.flatten ([(tX7 p0k), (tX6 p0_2k), (tX10 p0_1k)] : List (List (ClassId × FieldType)))) s := vK_perm (vK_fb hK) (bP (List.Perm.refl _))
        obtain rfl : r10 = (o_9.1) := hw
        refine lv_iconst (v := 1) hx hb dX7_readSingle_107 (by decide) ?_
        obtain ⟨o_11, hc_11, hrun⟩ := bnd9 hrun
        have hPx : va_P (dC, dI) cls ((List.flatten ([(oX6 (p0a 3) p0_2a p0_2k p0_2w p0_2l)] : List va_W)) ++ (List.flatten ([(oX7 (p0a 0) p0a p0k (o_9.2) p0l), (oX10 (p0a 2) p0_1a p0_1k (o_5.1) (o_5.2))] : List va_W))) H := vP_fa (vP_perm hP (bP ((((List.Perm.refl _)).cons _).trans (List.Perm.swap _ _ _))))
        have hDx : va_D A ((List.flatten ([(oX6 (p0a 3) p0_2a p0_2k p0_2w p0_2l)] : List va_W)) ++ (List.flatten ([(oX7 (p0a 0) p0a p0k (o_9.2) p0l), (oX10 (p0a 2) p0_1a p0_1k (o_5.1) (o_5.2))] : List va_W))) := vD_fa (vD_perm hD (bP ((((List.Perm.refl _)).cons _).trans (List.Perm.swap _ _ _))))
        have hKx : va_K (dC, dI) cls ((List.flatten ([(tX6 p0_2k)] : List (List (ClassId × FieldType)))) ++ (List.flatten ([(tX7 p0k), (tX10 p0_1k)] : List (List (ClassId × FieldType))))) s := vK_fa (vK_perm hK (bP ((((List.Perm.refl _)).cons _).trans (List.Perm.swap _ _ _))))
        have hPc := vP_l hPx
        have hDc := vD_l hDx
        have hKc := vK_l hKx
        have hFc := vfree hDx hS hA
        refine va_callv (va_runV (As := [.int 30, .int (o_9.1), .int 1]) (rest := []) ⟨hx, hb, hml, hown, hts⟩ (kX6_emit l dC dI (p0a := (st0 (p0a 3) p0_2a)) (p0k := p0_2k) (p0w := p0_2w) (p0l := p0_2l) (p1 := 30) (p2 := (o_9.1)) (p3 := 1) (sz := _) (o := o_11) (hrun := hc_11)) (cwV 3 hts (gi_V qw42 qw43 qw44 qw33 (gi_z qw41)) rfl rfl rfl (by decide +kernel) ⟨rmF (Nat.le_of_ble_eq_true rfl), rmL (Nat.le_of_ble_eq_true rfl)⟩) ⟨PRE.blind, va_recv hKc hPc (ci := 2) (q0 := 0) rfl rfl, PRE.of hE hS hFc hPc hKc hDc⟩ rfl rfl hl.1 rfl (lv_room (Nat.le_of_ble_eq_true rfl)) dX7_readSingle_108 ⟨(Nat.le_of_ble_eq_true rfl), (Nat.le_of_ble_eq_true rfl)⟩) hS (fun q _ h => hFc q h) hFc (fun u t H locs ht hvm hw hB hz1 hk1 hS => ?_)
        obtain ⟨b1, b2, b3⟩ := hB
        rw [ht] at b1
        obtain ⟨hP, hD, hK⟩ := JOINC (wc := (List.flatten ([(oX6 (p0a 3) p0_2a p0_2k p0_2w p0_2l)] : List va_W))) (wr := (List.flatten ([(oX7 (p0a 0) p0a p0k (o_9.2) p0l), (oX10 (p0a 2) p0_1a p0_1k (o_5.1) (o_5.2))] : List va_W))) (w1 := (List.flatten ([(oX6 (p0a 3) p0_2a p0_2k o_11 p0_2l)] : List va_W))) (t1 := (List.flatten ([(tX6 p0_2k)] : List (List (ClassId × FieldType))))) hPx hDx hKx hk1 hFc b1 (va_K.moved hvm.symm b2) b3
        have hP : va_P (dC, dI) cls (List.flatten ([(oX7 (p0a 0) p0a p0k (o_9.2) p0l), (oX6 (p0a 3) p0_2a p0_2k o_11 p0_2l), (oX10 (p0a 2) p0_1a p0_1k (o_5.1) (o_5.2))] : List va_W)) H := vP_perm (vP_fb hP) (bP ((((List.Perm.refl _)).cons _).trans (List.Perm.swap _ _ _)))
        have hD : va_D A (List.flatten ([(oX7 (p0a 0) p0a p0k (o_9.2) p0l), (oX6 (p0a 3) p0_2a p0_2k o_11 p0_2l), (oX10 (p0a 2) p0_1a p0_1k (o_5.1) (o_5.2))] : List va_W)) := vD_perm (vD_fb hD) (bP ((((List.Perm.refl _)).cons _).trans (List.Perm.swap _ _ _)))
        have hK : va_K (dC, dI) cls (List.flatten ([(tX7 p0k), (tX6 p0_2k), (tX10 p0_1k)] : List (List (ClassId × FieldType)))) s := vK_perm (vK_fb hK) (bP ((((List.Perm.refl _)).cons _).trans (List.Perm.swap _ _ _)))
        exact J111 1 (o_9.2) p0l o_11 (o_5.1) (o_5.2) _ _ _ hrun hP hD hK hS (lv_sub hl [1] rfl)
    · refine lv_icmp_ne (tgt := 114) hx hb dX7_readSingle_55 (by decide) (fun _ => ?_) (fun c => absurd c hc4)
      refine lv_aload_n hx hb dX7_readSingle_114 rfl (lv_at hl 2 rfl) ?_
      refine va_get (D := (dC, dI)) (ci := 1) (v := .ref (p0a 2)) (C := RX7) (T := TX7) (N := 18) hx hb hts i_X7 hown hK hP 0 rfl rfl 1 (by decide) (hts _ qw45) (fun _ h9 => h9) rfl dX7_readSingle_115 ?_
      refine va_get (D := (dC, dI)) (ci := 0) (v := .int (p0_1w 0 2)) (C := RX10) (T := TX10) (N := 8) hx hb hts i_X10 hown hK hP 20 rfl rfl 2 (by decide) (hts _ qw46) (fun _ h9 => h9) rfl dX7_readSingle_118 ?_
      refine lv_bipush (v := 91) hx hb dX7_readSingle_121 (by decide) ?_
      rcases br9 hrun with ⟨hc12, hrun⟩ | ⟨hc12, hrun⟩
      · refine lv_icmp_ne (tgt := 181) hx hb dX7_readSingle_123 (by decide) (fun c => absurd hc12 c) (fun _ => ?_)
        refine lv_aload_n hx hb dX7_readSingle_126 rfl (lv_at hl 2 rfl) ?_
        refine lv_bipush (v := 91) hx hb dX7_readSingle_127 (by decide) ?_
        obtain ⟨o_13, hc_13, hrun⟩ := bnd9 hrun
        have hPx : va_P (dC, dI) cls ((List.flatten ([(oX7 (p0a 0) p0a p0k p0w p0l), (oX10 (p0a 2) p0_1a p0_1k p0_1w p0_1l)] : List va_W)) ++ (List.flatten ([(oX6 (p0a 3) p0_2a p0_2k p0_2w p0_2l)] : List va_W))) H := vP_fa (vP_perm hP (bP (((List.Perm.refl _)).trans ((((((List.Perm.refl _)).cons _).trans (List.Perm.swap _ _ _))).cons _))))
        have hDx : va_D A ((List.flatten ([(oX7 (p0a 0) p0a p0k p0w p0l), (oX10 (p0a 2) p0_1a p0_1k p0_1w p0_1l)] : List va_W)) ++ (List.flatten ([(oX6 (p0a 3) p0_2a p0_2k p0_2w p0_2l)] : List va_W))) := vD_fa (vD_perm hD (bP (((List.Perm.refl _)).trans ((((((List.Perm.refl _)).cons _).trans (List.Perm.swap _ _ _))).cons _))))
        have hKx : va_K (dC, dI) cls ((List.flatten ([(tX7 p0k), (tX10 p0_1k)] : List (List (ClassId × FieldType)))) ++ (List.flatten ([(tX6 p0_2k)] : List (List (ClassId × FieldType))))) s := vK_fa (vK_perm hK (bP (((List.Perm.refl _)).trans ((((((List.Perm.refl _)).cons _).trans (List.Perm.swap _ _ _))).cons _))))
        have hPc := vP_l hPx
        have hDc := vD_l hDx
        have hKc := vK_l hKx
        have hFc := vfree hDx hS hA
        refine va_callv (va_runV (As := [.int 91]) (rest := []) ⟨hx, hb, hml, hown, hts⟩ (kX7_expect l dC dI (p0a := p0a) (p0k := p0k) (p0w := p0w) (p0l := p0l) (p1 := 91) (aK := aK) (aV := aV) (p0_1a := p0_1a) (p0_1k := p0_1k) (p0_1w := p0_1w) (p0_1l := p0_1l) (sz := _) (o := o_13) (hrun := hc_13)) (cwV 1 hts (gi_V qw1386 qw1387 qw1388 qw65 (gi_z qw1385)) rfl rfl rfl (by decide +kernel) ⟨rmF (Nat.le_of_ble_eq_true rfl), rmL (Nat.le_of_ble_eq_true rfl)⟩) ⟨PRE.blind, va_recv hKc hPc (ci := 1) (q0 := 0) rfl rfl, PRE.of (ENV.add hE st9_m hro_st) hS hFc hPc hKc hDc⟩ rfl rfl hl.1 rfl (lv_room (Nat.le_of_ble_eq_true rfl)) dX7_readSingle_129 ⟨(Nat.le_of_ble_eq_true rfl), (Nat.le_of_ble_eq_true rfl)⟩) hS (fun q _ h => hFc q h) hFc (fun u t H locs ht hvm hw hB hz1 hk1 hS => ?_)
        obtain ⟨b1, b2, b3⟩ := hB
        rw [ht] at b1
        obtain ⟨hP, hD, hK⟩ := JOINC (wc := (List.flatten ([(oX7 (p0a 0) p0a p0k p0w p0l), (oX10 (p0a 2) p0_1a p0_1k p0_1w p0_1l)] : List va_W))) (wr := (List.flatten ([(oX6 (p0a 3) p0_2a p0_2k p0_2w p0_2l)] : List va_W))) (w1 := (List.flatten ([(oX7 (p0a 0) p0a p0k (o_13.1) p0l), (oX10 (p0a 2) p0_1a p0_1k (o_13.2.1) (o_13.2.2))] : List va_W))) (t1 := (List.flatten ([(tX7 p0k), (tX10 p0_1k)] : List (List (ClassId × FieldType))))) hPx hDx hKx hk1 hFc b1 (va_K.moved hvm.symm b2) b3
        have hP : va_P (dC, dI) cls (List.flatten ([(oX7 (p0a 0) p0a p0k (o_13.1) p0l), (oX6 (p0a 3) p0_2a p0_2k p0_2w p0_2l), (oX10 (p0a 2) p0_1a p0_1k (o_13.2.1) (o_13.2.2))] : List va_W)) H := vP_perm (vP_fb hP) (bP (((List.Perm.refl _)).trans ((((((List.Perm.refl _)).cons _).trans (List.Perm.swap _ _ _))).cons _)))
        have hD : va_D A (List.flatten ([(oX7 (p0a 0) p0a p0k (o_13.1) p0l), (oX6 (p0a 3) p0_2a p0_2k p0_2w p0_2l), (oX10 (p0a 2) p0_1a p0_1k (o_13.2.1) (o_13.2.2))] : List va_W)) := vD_perm (vD_fb hD) (bP (((List.Perm.refl _)).trans ((((((List.Perm.refl _)).cons _).trans (List.Perm.swap _ _ _))).cons _)))
        have hK : va_K (dC, dI) cls (List.flatten ([(tX7 p0k), (tX6 p0_2k), (tX10 p0_1k)] : List (List (ClassId × FieldType)))) s := vK_perm (vK_fb hK) (bP (((List.Perm.refl _)).trans ((((((List.Perm.refl _)).cons _).trans (List.Perm.swap _ _ _))).cons _)))
        refine lv_aload_n hx hb dX7_readSingle_132 rfl (lv_at hl 2 rfl) ?_
        refine va_get (D := (dC, dI)) (ci := 1) (v := .ref (p0a 3)) (C := RX7) (T := TX7) (N := 18) hx hb hts i_X7 hown hK hP 0 rfl rfl 2 (by decide) (hts _ qw26) (fun _ h9 => h9) rfl dX7_readSingle_133 ?_
        refine va_get (D := (dC, dI)) (ci := 2) (v := .int (p0_2w 0 7)) (C := RX6) (T := TX6) (N := 13) hx hb hts i_X6 hown hK hP 9 rfl rfl 7 (by decide) (hts _ qw66) (fun _ h9 => h9) rfl dX7_readSingle_136 ?_
        refine lv_istore_n (lv' := [(3, .int (p0_2w 0 7)), (2, .int 1), (1, .int (p0_1w 0 3)), (0, .ref (p0a 0))]) hx hb dX7_readSingle_139 rfl hl (by decide) rfl (fun ls hl => ?_)
        refine lv_aload_n hx hb dX7_readSingle_140 rfl (lv_at hl 3 rfl) ?_
        refine lv_iconst (v := 0) hx hb dX7_readSingle_141 (by decide) ?_
        obtain ⟨o_14, hc_14, hrun⟩ := bnd9 hrun
        have hPx : va_P (dC, dI) cls ((List.flatten ([(oX7 (p0a 0) p0a p0k (o_13.1) p0l), (oX6 (p0a 3) p0_2a p0_2k p0_2w p0_2l), (oX10 (p0a 2) p0_1a p0_1k (o_13.2.1) (o_13.2.2))] : List va_W)) ++ (List.flatten ([] : List va_W))) H := vP_fa (vP_perm hP (bP (List.Perm.refl _)))
        have hDx : va_D A ((List.flatten ([(oX7 (p0a 0) p0a p0k (o_13.1) p0l), (oX6 (p0a 3) p0_2a p0_2k p0_2w p0_2l), (oX10 (p0a 2) p0_1a p0_1k (o_13.2.1) (o_13.2.2))] : List va_W)) ++ (List.flatten ([] : List va_W))) := vD_fa (vD_perm hD (bP (List.Perm.refl _)))
        have hKx : va_K (dC, dI) cls ((List.flatten ([(tX7 p0k), (tX6 p0_2k), (tX10 p0_1k)] : List (List (ClassId × FieldType)))) ++ (List.flatten ([] : List (List (ClassId × FieldType))))) s := vK_fa (vK_perm hK (bP (List.Perm.refl _)))
        have hPc := vP_l hPx
        have hDc := vD_l hDx
        have hKc := vK_l hKx
        have hFc := vfree hDx hS hA
        refine va_calli (va_runV (As := [.int 0]) (rest := []) ⟨hx, hb, hml, hown, hts⟩ (hkk_readTest dC dI (p0a := p0a) (p0k := p0k) (p0w := (o_13.1)) (p0l := p0l) (p1 := 0) (aK := aK) (aV := aV) (p0_2a := p0_2a) (p0_2k := p0_2k) (p0_2w := p0_2w) (p0_2l := p0_2l) (p0_1a := p0_1a) (p0_1k := p0_1k) (p0_1w := (o_13.2.1)) (p0_1l := (o_13.2.2)) (sz := _) (o := o_14) (hrun := hc_14)) (cwV 1 hts (gi_V qw1410 qw1411 qw1412 qw65 (gi_z qw1409)) rfl rfl rfl (by decide +kernel) ⟨rmF9, rmL9 (n := 27) (Nat.le_of_ble_eq_true rfl)⟩) ⟨PRE.blind, va_recv hKc hPc (ci := 1) (q0 := 0) rfl rfl, PRE.of (ENV.add hE st9_m hro_st) hS hFc hPc hKc hDc⟩ rfl rfl hl.1 rfl (lv_room (Nat.le_of_ble_eq_true rfl)) dX7_readSingle_142 ⟨(Nat.le_of_ble_eq_true rfl), (Nat.le_of_ble_eq_true rfl)⟩) hS (fun q _ h => hFc q h) hFc (fun r15 u t H locs ht hvm hw hB hz1 hk1 hS => ?_)
        obtain ⟨b1, b2, b3⟩ := hB
        rw [ht] at b1
        obtain ⟨hP, hD, hK⟩ := JOINC (wc := (List.flatten ([(oX7 (p0a 0) p0a p0k (o_13.1) p0l), (oX6 (p0a 3) p0_2a p0_2k p0_2w p0_2l), (oX10 (p0a 2) p0_1a p0_1k (o_13.2.1) (o_13.2.2))] : List va_W))) (wr := (List.flatten ([] : List va_W))) (w1 := (List.flatten ([(oX7 (p0a 0) p0a p0k (o_14.2.1) (o_14.2.2.1)), (oX6 (p0a 3) p0_2a p0_2k (o_14.2.2.2.1) p0_2l), (oX10 (p0a 2) p0_1a p0_1k (o_14.2.2.2.2.1) (o_14.2.2.2.2.2))] : List va_W))) (t1 := (List.flatten ([(tX7 p0k), (tX6 p0_2k), (tX10 p0_1k)] : List (List (ClassId × FieldType))))) hPx hDx hKx hk1 hFc b1 (va_K.moved hvm.symm b2) b3
        have hP : va_P (dC, dI) cls (List.flatten ([(oX7 (p0a 0) p0a p0k (o_14.2.1) (o_14.2.2.1)), (oX6 (p0a 3) p0_2a p0_2k (o_14.2.2.2.1) p0_2l), (oX10 (p0a 2) p0_1a p0_1k (o_14.2.2.2.2.1) (o_14.2.2.2.2.2))] : List va_W)) H := vP_perm (vP_fb hP) (bP (List.Perm.refl _))
        have hD : va_D A (List.flatten ([(oX7 (p0a 0) p0a p0k (o_14.2.1) (o_14.2.2.1)), (oX6 (p0a 3) p0_2a p0_2k (o_14.2.2.2.1) p0_2l), (oX10 (p0a 2) p0_1a p0_1k (o_14.2.2.2.2.1) (o_14.2.2.2.2.2))] : List va_W)) := vD_perm (vD_fb hD) (bP (List.Perm.refl _))
        have hK : va_K (dC, dI) cls (List.flatten ([(tX7 p0k), (tX6 p0_2k), (tX10 p0_1k)] : List (List (ClassId × FieldType)))) s := vK_perm (vK_fb hK) (bP (List.Perm.refl _))
        obtain rfl : r15 = (o_14.1) := hw
        refine lv_istore_n (lv' := [(2, .int (o_14.1)), (3, .int (p0_2w 0 7)), (1, .int (p0_1w 0 3)), (0, .ref (p0a 0))]) hx hb dX7_readSingle_145 rfl hl (by decide) rfl (fun ls hl => ?_)
        refine lv_aload_n hx hb dX7_readSingle_146 rfl (lv_at hl 3 rfl) ?_
        refine va_get (D := (dC, dI)) (ci := 1) (v := .ref (p0a 3)) (C := RX7) (T := TX7) (N := 18) hx hb hts i_X7 hown hK hP 0 rfl rfl 2 (by decide) (hts _ qw26) (fun _ h9 => h9) rfl dX7_readSingle_147 ?_
        refine lv_iload_n hx hb dX7_readSingle_150 rfl (lv_at hl 1 rfl) ?_
        obtain ⟨o_16, hc_16, hrun⟩ := bnd9 hrun
        have hPx : va_P (dC, dI) cls ((List.flatten ([(oX6 (p0a 3) p0_2a p0_2k (o_14.2.2.2.1) p0_2l)] : List va_W)) ++ (List.flatten ([(oX7 (p0a 0) p0a p0k (o_14.2.1) (o_14.2.2.1)), (oX10 (p0a 2) p0_1a p0_1k (o_14.2.2.2.2.1) (o_14.2.2.2.2.2))] : List va_W))) H := vP_fa (vP_perm hP (bP ((((List.Perm.refl _)).cons _).trans (List.Perm.swap _ _ _))))
        have hDx : va_D A ((List.flatten ([(oX6 (p0a 3) p0_2a p0_2k (o_14.2.2.2.1) p0_2l)] : List va_W)) ++ (List.flatten ([(oX7 (p0a 0) p0a p0k (o_14.2.1) (o_14.2.2.1)), (oX10 (p0a 2) p0_1a p0_1k (o_14.2.2.2.2.1) (o_14.2.2.2.2.2))] : List va_W))) := vD_fa (vD_perm hD (bP ((((List.Perm.refl _)).cons _).trans (List.Perm.swap _ _ _))))
        have hKx : va_K (dC, dI) cls ((List.flatten ([(tX6 p0_2k)] : List (List (ClassId × FieldType)))) ++ (List.flatten ([(tX7 p0k), (tX10 p0_1k)] : List (List (ClassId × FieldType))))) s := vK_fa (vK_perm hK (bP ((((List.Perm.refl _)).cons _).trans (List.Perm.swap _ _ _))))
        have hPc := vP_l hPx
        have hDc := vD_l hDx
        have hKc := vK_l hKx
        have hFc := vfree hDx hS hA
        refine va_callv (va_runV (As := [.int (p0_2w 0 7)]) (rest := []) ⟨hx, hb, hml, hown, hts⟩ (kX6_tick l dC dI (p0a := (st0 (p0a 3) p0_2a)) (p0k := p0_2k) (p0w := (o_14.2.2.2.1)) (p0l := p0_2l) (p1 := (p0_2w 0 7)) (sz := _) (o := o_16) (hrun := hc_16)) (cwV 1 hts (gi_V qw1402 qw1403 qw1404 qw33 (gi_z qw1401)) rfl rfl rfl (by decide +kernel) ⟨rmF (Nat.le_of_ble_eq_true rfl), rmL (Nat.le_of_ble_eq_true rfl)⟩) ⟨PRE.blind, va_recv hKc hPc (ci := 2) (q0 := 0) rfl rfl, PRE.of hE hS hFc hPc hKc hDc⟩ rfl rfl hl.1 rfl (lv_room (Nat.le_of_ble_eq_true rfl)) dX7_readSingle_151 ⟨(Nat.le_of_ble_eq_true rfl), (Nat.le_of_ble_eq_true rfl)⟩) hS (fun q _ h => hFc q h) hFc (fun u t H locs ht hvm hw hB hz1 hk1 hS => ?_)
        obtain ⟨b1, b2, b3⟩ := hB
        rw [ht] at b1
        obtain ⟨hP, hD, hK⟩ := JOINC (wc := (List.flatten ([(oX6 (p0a 3) p0_2a p0_2k (o_14.2.2.2.1) p0_2l)] : List va_W))) (wr := (List.flatten ([(oX7 (p0a 0) p0a p0k (o_14.2.1) (o_14.2.2.1)), (oX10 (p0a 2) p0_1a p0_1k (o_14.2.2.2.2.1) (o_14.2.2.2.2.2))] : List va_W))) (w1 := (List.flatten ([(oX6 (p0a 3) p0_2a p0_2k o_16 p0_2l)] : List va_W))) (t1 := (List.flatten ([(tX6 p0_2k)] : List (List (ClassId × FieldType))))) hPx hDx hKx hk1 hFc b1 (va_K.moved hvm.symm b2) b3
        have hP : va_P (dC, dI) cls (List.flatten ([(oX7 (p0a 0) p0a p0k (o_14.2.1) (o_14.2.2.1)), (oX6 (p0a 3) p0_2a p0_2k o_16 p0_2l), (oX10 (p0a 2) p0_1a p0_1k (o_14.2.2.2.2.1) (o_14.2.2.2.2.2))] : List va_W)) H := vP_perm (vP_fb hP) (bP ((((List.Perm.refl _)).cons _).trans (List.Perm.swap _ _ _)))
        have hD : va_D A (List.flatten ([(oX7 (p0a 0) p0a p0k (o_14.2.1) (o_14.2.2.1)), (oX6 (p0a 3) p0_2a p0_2k o_16 p0_2l), (oX10 (p0a 2) p0_1a p0_1k (o_14.2.2.2.2.1) (o_14.2.2.2.2.2))] : List va_W)) := vD_perm (vD_fb hD) (bP ((((List.Perm.refl _)).cons _).trans (List.Perm.swap _ _ _)))
        have hK : va_K (dC, dI) cls (List.flatten ([(tX7 p0k), (tX6 p0_2k), (tX10 p0_1k)] : List (List (ClassId × FieldType)))) s := vK_perm (vK_fb hK) (bP ((((List.Perm.refl _)).cons _).trans (List.Perm.swap _ _ _)))
        refine lv_aload_n hx hb dX7_readSingle_154 rfl (lv_at hl 3 rfl) ?_
        refine lv_bipush (v := 93) hx hb dX7_readSingle_155 (by decide) ?_
        obtain ⟨o_17, hc_17, hrun⟩ := bnd9 hrun
        have hPx : va_P (dC, dI) cls ((List.flatten ([(oX7 (p0a 0) p0a p0k (o_14.2.1) (o_14.2.2.1)), (oX10 (p0a 2) p0_1a p0_1k (o_14.2.2.2.2.1) (o_14.2.2.2.2.2))] : List va_W)) ++ (List.flatten ([(oX6 (p0a 3) p0_2a p0_2k o_16 p0_2l)] : List va_W))) H := vP_fa (vP_perm hP (bP (((List.Perm.refl _)).trans ((((((List.Perm.refl _)).cons _).trans (List.Perm.swap _ _ _))).cons _))))
        have hDx : va_D A ((List.flatten ([(oX7 (p0a 0) p0a p0k (o_14.2.1) (o_14.2.2.1)), (oX10 (p0a 2) p0_1a p0_1k (o_14.2.2.2.2.1) (o_14.2.2.2.2.2))] : List va_W)) ++ (List.flatten ([(oX6 (p0a 3) p0_2a p0_2k o_16 p0_2l)] : List va_W))) := vD_fa (vD_perm hD (bP (((List.Perm.refl _)).trans ((((((List.Perm.refl _)).cons _).trans (List.Perm.swap _ _ _))).cons _))))
        have hKx : va_K (dC, dI) cls ((List.flatten ([(tX7 p0k), (tX10 p0_1k)] : List (List (ClassId × FieldType)))) ++ (List.flatten ([(tX6 p0_2k)] : List (List (ClassId × FieldType))))) s := vK_fa (vK_perm hK (bP (((List.Perm.refl _)).trans ((((((List.Perm.refl _)).cons _).trans (List.Perm.swap _ _ _))).cons _))))
        have hPc := vP_l hPx
        have hDc := vD_l hDx
        have hKc := vK_l hKx
        have hFc := vfree hDx hS hA
        refine va_callv (va_runV (As := [.int 93]) (rest := []) ⟨hx, hb, hml, hown, hts⟩ (kX7_expect l dC dI (p0a := p0a) (p0k := p0k) (p0w := (o_14.2.1)) (p0l := (o_14.2.2.1)) (p1 := 93) (aK := aK) (aV := aV) (p0_1a := p0_1a) (p0_1k := p0_1k) (p0_1w := (o_14.2.2.2.2.1)) (p0_1l := (o_14.2.2.2.2.2)) (sz := _) (o := o_17) (hrun := hc_17)) (cwV 1 hts (gi_V qw1386 qw1387 qw1388 qw65 (gi_z qw1385)) rfl rfl rfl (by decide +kernel) ⟨rmF (Nat.le_of_ble_eq_true rfl), rmL (Nat.le_of_ble_eq_true rfl)⟩) ⟨PRE.blind, va_recv hKc hPc (ci := 1) (q0 := 0) rfl rfl, PRE.of (ENV.add hE st9_m hro_st) hS hFc hPc hKc hDc⟩ rfl rfl hl.1 rfl (lv_room (Nat.le_of_ble_eq_true rfl)) dX7_readSingle_157 ⟨(Nat.le_of_ble_eq_true rfl), (Nat.le_of_ble_eq_true rfl)⟩) hS (fun q _ h => hFc q h) hFc (fun u t H locs ht hvm hw hB hz1 hk1 hS => ?_)
        obtain ⟨b1, b2, b3⟩ := hB
        rw [ht] at b1
        obtain ⟨hP, hD, hK⟩ := JOINC (wc := (List.flatten ([(oX7 (p0a 0) p0a p0k (o_14.2.1) (o_14.2.2.1)), (oX10 (p0a 2) p0_1a p0_1k (o_14.2.2.2.2.1) (o_14.2.2.2.2.2))] : List va_W))) (wr := (List.flatten ([(oX6 (p0a 3) p0_2a p0_2k o_16 p0_2l)] : List va_W))) (w1 := (List.flatten ([(oX7 (p0a 0) p0a p0k (o_17.1) (o_14.2.2.1)), (oX10 (p0a 2) p0_1a p0_1k (o_17.2.1) (o_17.2.2))] : List va_W))) (t1 := (List.flatten ([(tX7 p0k), (tX10 p0_1k)] : List (List (ClassId × FieldType))))) hPx hDx hKx hk1 hFc b1 (va_K.moved hvm.symm b2) b3
        have hP : va_P (dC, dI) cls (List.flatten ([(oX7 (p0a 0) p0a p0k (o_17.1) (o_14.2.2.1)), (oX6 (p0a 3) p0_2a p0_2k o_16 p0_2l), (oX10 (p0a 2) p0_1a p0_1k (o_17.2.1) (o_17.2.2))] : List va_W)) H := vP_perm (vP_fb hP) (bP (((List.Perm.refl _)).trans ((((((List.Perm.refl _)).cons _).trans (List.Perm.swap _ _ _))).cons _)))
        have hD : va_D A (List.flatten ([(oX7 (p0a 0) p0a p0k (o_17.1) (o_14.2.2.1)), (oX6 (p0a 3) p0_2a p0_2k o_16 p0_2l), (oX10 (p0a 2) p0_1a p0_1k (o_17.2.1) (o_17.2.2))] : List va_W)) := vD_perm (vD_fb hD) (bP (((List.Perm.refl _)).trans ((((((List.Perm.refl _)).cons _).trans (List.Perm.swap _ _ _))).cons _)))
        have hK : va_K (dC, dI) cls (List.flatten ([(tX7 p0k), (tX6 p0_2k), (tX10 p0_1k)] : List (List (ClassId × FieldType)))) s := vK_perm (vK_fb hK) (bP (((List.Perm.refl _)).trans ((((((List.Perm.refl _)).cons _).trans (List.Perm.swap _ _ _))).cons _)))
        refine lv_aload_n hx hb dX7_readSingle_160 rfl (lv_at hl 3 rfl) ?_
        refine va_get (D := (dC, dI)) (ci := 1) (v := .ref (p0a 3)) (C := RX7) (T := TX7) (N := 18) hx hb hts i_X7 hown hK hP 0 rfl rfl 2 (by decide) (hts _ qw26) (fun _ h9 => h9) rfl dX7_readSingle_161 ?_
        refine lv_bipush (v := 17) hx hb dX7_readSingle_164 (by decide) ?_
        refine lv_iconst (v := 0) hx hb dX7_readSingle_166 (by decide) ?_
        refine lv_iconst (v := 0) hx hb dX7_readSingle_167 (by decide) ?_
        obtain ⟨o_18, hc_18, hrun⟩ := bnd9 hrun
        have hPx : va_P (dC, dI) cls ((List.flatten ([(oX6 (p0a 3) p0_2a p0_2k o_16 p0_2l)] : List va_W)) ++ (List.flatten ([(oX7 (p0a 0) p0a p0k (o_17.1) (o_14.2.2.1)), (oX10 (p0a 2) p0_1a p0_1k (o_17.2.1) (o_17.2.2))] : List va_W))) H := vP_fa (vP_perm hP (bP ((((List.Perm.refl _)).cons _).trans (List.Perm.swap _ _ _))))
        have hDx : va_D A ((List.flatten ([(oX6 (p0a 3) p0_2a p0_2k o_16 p0_2l)] : List va_W)) ++ (List.flatten ([(oX7 (p0a 0) p0a p0k (o_17.1) (o_14.2.2.1)), (oX10 (p0a 2) p0_1a p0_1k (o_17.2.1) (o_17.2.2))] : List va_W))) := vD_fa (vD_perm hD (bP ((((List.Perm.refl _)).cons _).trans (List.Perm.swap _ _ _))))
        have hKx : va_K (dC, dI) cls ((List.flatten ([(tX6 p0_2k)] : List (List (ClassId × FieldType)))) ++ (List.flatten ([(tX7 p0k), (tX10 p0_1k)] : List (List (ClassId × FieldType))))) s := vK_fa (vK_perm hK (bP ((((List.Perm.refl _)).cons _).trans (List.Perm.swap _ _ _))))
        have hPc := vP_l hPx
        have hDc := vD_l hDx
        have hKc := vK_l hKx
        have hFc := vfree hDx hS hA
        refine va_callv (va_runV (As := [.int 17, .int 0, .int 0]) (rest := []) ⟨hx, hb, hml, hown, hts⟩ (kX6_emit l dC dI (p0a := (st0 (p0a 3) p0_2a)) (p0k := p0_2k) (p0w := o_16) (p0l := p0_2l) (p1 := 17) (p2 := 0) (p3 := 0) (sz := _) (o := o_18) (hrun := hc_18)) (cwV 3 hts (gi_V qw42 qw43 qw44 qw33 (gi_z qw41)) rfl rfl rfl (by decide +kernel) ⟨rmF (Nat.le_of_ble_eq_true rfl), rmL (Nat.le_of_ble_eq_true rfl)⟩) ⟨PRE.blind, va_recv hKc hPc (ci := 2) (q0 := 0) rfl rfl, PRE.of hE hS hFc hPc hKc hDc⟩ rfl rfl hl.1 rfl (lv_room (Nat.le_of_ble_eq_true rfl)) dX7_readSingle_168 ⟨(Nat.le_of_ble_eq_true rfl), (Nat.le_of_ble_eq_true rfl)⟩) hS (fun q _ h => hFc q h) hFc (fun u t H locs ht hvm hw hB hz1 hk1 hS => ?_)
        obtain ⟨b1, b2, b3⟩ := hB
        rw [ht] at b1
        obtain ⟨hP, hD, hK⟩ := JOINC (wc := (List.flatten ([(oX6 (p0a 3) p0_2a p0_2k o_16 p0_2l)] : List va_W))) (wr := (List.flatten ([(oX7 (p0a 0) p0a p0k (o_17.1) (o_14.2.2.1)), (oX10 (p0a 2) p0_1a p0_1k (o_17.2.1) (o_17.2.2))] : List va_W))) (w1 := (List.flatten ([(oX6 (p0a 3) p0_2a p0_2k o_18 p0_2l)] : List va_W))) (t1 := (List.flatten ([(tX6 p0_2k)] : List (List (ClassId × FieldType))))) hPx hDx hKx hk1 hFc b1 (va_K.moved hvm.symm b2) b3
        have hP : va_P (dC, dI) cls (List.flatten ([(oX7 (p0a 0) p0a p0k (o_17.1) (o_14.2.2.1)), (oX6 (p0a 3) p0_2a p0_2k o_18 p0_2l), (oX10 (p0a 2) p0_1a p0_1k (o_17.2.1) (o_17.2.2))] : List va_W)) H := vP_perm (vP_fb hP) (bP ((((List.Perm.refl _)).cons _).trans (List.Perm.swap _ _ _)))
        have hD : va_D A (List.flatten ([(oX7 (p0a 0) p0a p0k (o_17.1) (o_14.2.2.1)), (oX6 (p0a 3) p0_2a p0_2k o_18 p0_2l), (oX10 (p0a 2) p0_1a p0_1k (o_17.2.1) (o_17.2.2))] : List va_W)) := vD_perm (vD_fb hD) (bP ((((List.Perm.refl _)).cons _).trans (List.Perm.swap _ _ _)))
        have hK : va_K (dC, dI) cls (List.flatten ([(tX7 p0k), (tX6 p0_2k), (tX10 p0_1k)] : List (List (ClassId × FieldType)))) s := vK_perm (vK_fb hK) (bP ((((List.Perm.refl _)).cons _).trans (List.Perm.swap _ _ _)))
        refine lv_aload_n hx hb dX7_readSingle_171 rfl (lv_at hl 3 rfl) ?_
        refine lv_iload_n hx hb dX7_readSingle_172 rfl (lv_at hl 0 rfl) ?_
        refine lv_iload_n hx hb dX7_readSingle_173 rfl (lv_at hl 2 rfl) ?_
        obtain ⟨o_19, hc_19, hrun⟩ := bnd9 hrun
        have hPx : va_P (dC, dI) cls ((List.flatten ([(oX7 (p0a 0) p0a p0k (o_17.1) (o_14.2.2.1))] : List va_W)) ++ (List.flatten ([(oX6 (p0a 3) p0_2a p0_2k o_18 p0_2l), (oX10 (p0a 2) p0_1a p0_1k (o_17.2.1) (o_17.2.2))] : List va_W))) H := vP_fa (vP_perm hP (bP (List.Perm.refl _)))
        have hDx : va_D A ((List.flatten ([(oX7 (p0a 0) p0a p0k (o_17.1) (o_14.2.2.1))] : List va_W)) ++ (List.flatten ([(oX6 (p0a 3) p0_2a p0_2k o_18 p0_2l), (oX10 (p0a 2) p0_1a p0_1k (o_17.2.1) (o_17.2.2))] : List va_W))) := vD_fa (vD_perm hD (bP (List.Perm.refl _)))
        have hKx : va_K (dC, dI) cls ((List.flatten ([(tX7 p0k)] : List (List (ClassId × FieldType)))) ++ (List.flatten ([(tX6 p0_2k), (tX10 p0_1k)] : List (List (ClassId × FieldType))))) s := vK_fa (vK_perm hK (bP (List.Perm.refl _)))
        have hPc := vP_l hPx
        have hDc := vD_l hDx
        have hKc := vK_l hKx
        have hFc := vfree hDx hS hA
        refine va_calli (va_runV (As := [.int (o_14.1), .int (p0_1w 0 3)]) (rest := []) ⟨hx, hb, hml, hown, hts⟩ (kX7_raise l dC dI (p0a := p0a) (p0k := p0k) (p0w := (o_17.1)) (p0l := (o_14.2.2.1)) (p1 := (o_14.1)) (p2 := (p0_1w 0 3)) (sz := _) (o := o_19) (hrun := hc_19)) (cwV 2 hts (gi_V qw1446 qw1447 qw1448 qw65 (gi_z qw1445)) rfl rfl rfl (by decide +kernel) ⟨rmF (Nat.le_of_ble_eq_true rfl), rmL (Nat.le_of_ble_eq_true rfl)⟩) ⟨PRE.blind, va_recv hKc hPc (ci := 1) (q0 := 0) rfl rfl, PRE.of hE hS hFc hPc hKc hDc⟩ rfl rfl hl.1 rfl (lv_room (Nat.le_of_ble_eq_true rfl)) dX7_readSingle_174 ⟨(Nat.le_of_ble_eq_true rfl), (Nat.le_of_ble_eq_true rfl)⟩) hS (fun q _ h => hFc q h) hFc (fun r20 u t H locs ht hvm hw hB hz1 hk1 hS => ?_)
        obtain ⟨b1, b2, b3⟩ := hB
        rw [ht] at b1
        obtain ⟨hP, hD, hK⟩ := JOINC (wc := (List.flatten ([(oX7 (p0a 0) p0a p0k (o_17.1) (o_14.2.2.1))] : List va_W))) (wr := (List.flatten ([(oX6 (p0a 3) p0_2a p0_2k o_18 p0_2l), (oX10 (p0a 2) p0_1a p0_1k (o_17.2.1) (o_17.2.2))] : List va_W))) (w1 := (List.flatten ([(oX7 (p0a 0) p0a p0k (o_19.2) (o_14.2.2.1))] : List va_W))) (t1 := (List.flatten ([(tX7 p0k)] : List (List (ClassId × FieldType))))) hPx hDx hKx hk1 hFc b1 (va_K.moved hvm.symm b2) b3
        have hP : va_P (dC, dI) cls (List.flatten ([(oX7 (p0a 0) p0a p0k (o_19.2) (o_14.2.2.1)), (oX6 (p0a 3) p0_2a p0_2k o_18 p0_2l), (oX10 (p0a 2) p0_1a p0_1k (o_17.2.1) (o_17.2.2))] : List va_W)) H := vP_perm (vP_fb hP) (bP (List.Perm.refl _))
        have hD : va_D A (List.flatten ([(oX7 (p0a 0) p0a p0k (o_19.2) (o_14.2.2.1)), (oX6 (p0a 3) p0_2a p0_2k o_18 p0_2l), (oX10 (p0a 2) p0_1a p0_1k (o_17.2.1) (o_17.2.2))] : List va_W)) := vD_perm (vD_fb hD) (bP (List.Perm.refl _))
        have hK : va_K (dC, dI) cls (List.flatten ([(tX7 p0k), (tX6 p0_2k), (tX10 p0_1k)] : List (List (ClassId × FieldType)))) s := vK_perm (vK_fb hK) (bP (List.Perm.refl _))
        obtain rfl : r20 = (o_19.1) := hw
        refine lv_istore_n (lv' := [(2, .int (o_19.1)), (3, .int (p0_2w 0 7)), (1, .int (p0_1w 0 3)), (0, .ref (p0a 0))]) hx hb dX7_readSingle_177 rfl hl (by decide) rfl (fun ls hl => ?_)
        refine lv_goto (tgt := 199) hx hb dX7_readSingle_178 (by decide) ?_
        exact J199 (o_19.1) (o_19.2) (o_14.2.2.1) o_18 (o_17.2.1) (o_17.2.2) _ _ _ hrun hP hD hK hS (lv_sub hl [0] rfl)
      · refine lv_icmp_ne (tgt := 181) hx hb dX7_readSingle_123 (by decide) (fun _ => ?_) (fun c => absurd c hc12)
        refine lv_aload_n hx hb dX7_readSingle_181 rfl (lv_at hl 2 rfl) ?_
        refine lv_bipush (v := 40) hx hb dX7_readSingle_182 (by decide) ?_
        obtain ⟨o_21, hc_21, hrun⟩ := bnd9 hrun
        have hPx : va_P (dC, dI) cls ((List.flatten ([(oX7 (p0a 0) p0a p0k p0w p0l), (oX10 (p0a 2) p0_1a p0_1k p0_1w p0_1l)] : List va_W)) ++ (List.flatten ([(oX6 (p0a 3) p0_2a p0_2k p0_2w p0_2l)] : List va_W))) H := vP_fa (vP_perm hP (bP (((List.Perm.refl _)).trans ((((((List.Perm.refl _)).cons _).trans (List.Perm.swap _ _ _))).cons _))))
        have hDx : va_D A ((List.flatten ([(oX7 (p0a 0) p0a p0k p0w p0l), (oX10 (p0a 2) p0_1a p0_1k p0_1w p0_1l)] : List va_W)) ++ (List.flatten ([(oX6 (p0a 3) p0_2a p0_2k p0_2w p0_2l)] : List va_W))) := vD_fa (vD_perm hD (bP (((List.Perm.refl _)).trans ((((((List.Perm.refl _)).cons _).trans (List.Perm.swap _ _ _))).cons _))))
        have hKx : va_K (dC, dI) cls ((List.flatten ([(tX7 p0k), (tX10 p0_1k)] : List (List (ClassId × FieldType)))) ++ (List.flatten ([(tX6 p0_2k)] : List (List (ClassId × FieldType))))) s := vK_fa (vK_perm hK (bP (((List.Perm.refl _)).trans ((((((List.Perm.refl _)).cons _).trans (List.Perm.swap _ _ _))).cons _))))
        have hPc := vP_l hPx
        have hDc := vD_l hDx
        have hKc := vK_l hKx
        have hFc := vfree hDx hS hA
        refine va_callv (va_runV (As := [.int 40]) (rest := []) ⟨hx, hb, hml, hown, hts⟩ (kX7_expect l dC dI (p0a := p0a) (p0k := p0k) (p0w := p0w) (p0l := p0l) (p1 := 40) (aK := aK) (aV := aV) (p0_1a := p0_1a) (p0_1k := p0_1k) (p0_1w := p0_1w) (p0_1l := p0_1l) (sz := _) (o := o_21) (hrun := hc_21)) (cwV 1 hts (gi_V qw1386 qw1387 qw1388 qw65 (gi_z qw1385)) rfl rfl rfl (by decide +kernel) ⟨rmF (Nat.le_of_ble_eq_true rfl), rmL (Nat.le_of_ble_eq_true rfl)⟩) ⟨PRE.blind, va_recv hKc hPc (ci := 1) (q0 := 0) rfl rfl, PRE.of (ENV.add hE st9_m hro_st) hS hFc hPc hKc hDc⟩ rfl rfl hl.1 rfl (lv_room (Nat.le_of_ble_eq_true rfl)) dX7_readSingle_184 ⟨(Nat.le_of_ble_eq_true rfl), (Nat.le_of_ble_eq_true rfl)⟩) hS (fun q _ h => hFc q h) hFc (fun u t H locs ht hvm hw hB hz1 hk1 hS => ?_)
        obtain ⟨b1, b2, b3⟩ := hB
        rw [ht] at b1
        obtain ⟨hP, hD, hK⟩ := JOINC (wc := (List.flatten ([(oX7 (p0a 0) p0a p0k p0w p0l), (oX10 (p0a 2) p0_1a p0_1k p0_1w p0_1l)] : List va_W))) (wr := (List.flatten ([(oX6 (p0a 3) p0_2a p0_2k p0_2w p0_2l)] : List va_W))) (w1 := (List.flatten ([(oX7 (p0a 0) p0a p0k (o_21.1) p0l), (oX10 (p0a 2) p0_1a p0_1k (o_21.2.1) (o_21.2.2))] : List va_W))) (t1 := (List.flatten ([(tX7 p0k), (tX10 p0_1k)] : List (List (ClassId × FieldType))))) hPx hDx hKx hk1 hFc b1 (va_K.moved hvm.symm b2) b3
        have hP : va_P (dC, dI) cls (List.flatten ([(oX7 (p0a 0) p0a p0k (o_21.1) p0l), (oX6 (p0a 3) p0_2a p0_2k p0_2w p0_2l), (oX10 (p0a 2) p0_1a p0_1k (o_21.2.1) (o_21.2.2))] : List va_W)) H := vP_perm (vP_fb hP) (bP (((List.Perm.refl _)).trans ((((((List.Perm.refl _)).cons _).trans (List.Perm.swap _ _ _))).cons _)))
        have hD : va_D A (List.flatten ([(oX7 (p0a 0) p0a p0k (o_21.1) p0l), (oX6 (p0a 3) p0_2a p0_2k p0_2w p0_2l), (oX10 (p0a 2) p0_1a p0_1k (o_21.2.1) (o_21.2.2))] : List va_W)) := vD_perm (vD_fb hD) (bP (((List.Perm.refl _)).trans ((((((List.Perm.refl _)).cons _).trans (List.Perm.swap _ _ _))).cons _)))
        have hK : va_K (dC, dI) cls (List.flatten ([(tX7 p0k), (tX6 p0_2k), (tX10 p0_1k)] : List (List (ClassId × FieldType)))) s := vK_perm (vK_fb hK) (bP (((List.Perm.refl _)).trans ((((((List.Perm.refl _)).cons _).trans (List.Perm.swap _ _ _))).cons _)))
        refine lv_aload_n hx hb dX7_readSingle_187 rfl (lv_at hl 2 rfl) ?_
        refine lv_iconst (v := 0) hx hb dX7_readSingle_188 (by decide) ?_
        obtain ⟨o_22, hc_22, hrun⟩ := bnd9 hrun
        have hPx : va_P (dC, dI) cls ((List.flatten ([(oX7 (p0a 0) p0a p0k (o_21.1) p0l), (oX6 (p0a 3) p0_2a p0_2k p0_2w p0_2l), (oX10 (p0a 2) p0_1a p0_1k (o_21.2.1) (o_21.2.2))] : List va_W)) ++ (List.flatten ([] : List va_W))) H := vP_fa (vP_perm hP (bP (List.Perm.refl _)))
        have hDx : va_D A ((List.flatten ([(oX7 (p0a 0) p0a p0k (o_21.1) p0l), (oX6 (p0a 3) p0_2a p0_2k p0_2w p0_2l), (oX10 (p0a 2) p0_1a p0_1k (o_21.2.1) (o_21.2.2))] : List va_W)) ++ (List.flatten ([] : List va_W))) := vD_fa (vD_perm hD (bP (List.Perm.refl _)))
        have hKx : va_K (dC, dI) cls ((List.flatten ([(tX7 p0k), (tX6 p0_2k), (tX10 p0_1k)] : List (List (ClassId × FieldType)))) ++ (List.flatten ([] : List (List (ClassId × FieldType))))) s := vK_fa (vK_perm hK (bP (List.Perm.refl _)))
        have hPc := vP_l hPx
        have hDc := vD_l hDx
        have hKc := vK_l hKx
        have hFc := vfree hDx hS hA
        refine va_calli (va_runV (As := [.int 0]) (rest := []) ⟨hx, hb, hml, hown, hts⟩ (hkk_readTest dC dI (p0a := p0a) (p0k := p0k) (p0w := (o_21.1)) (p0l := p0l) (p1 := 0) (aK := aK) (aV := aV) (p0_2a := p0_2a) (p0_2k := p0_2k) (p0_2w := p0_2w) (p0_2l := p0_2l) (p0_1a := p0_1a) (p0_1k := p0_1k) (p0_1w := (o_21.2.1)) (p0_1l := (o_21.2.2)) (sz := _) (o := o_22) (hrun := hc_22)) (cwV 1 hts (gi_V qw1410 qw1411 qw1412 qw65 (gi_z qw1409)) rfl rfl rfl (by decide +kernel) ⟨rmF9, rmL9 (n := 27) (Nat.le_of_ble_eq_true rfl)⟩) ⟨PRE.blind, va_recv hKc hPc (ci := 1) (q0 := 0) rfl rfl, PRE.of (ENV.add hE st9_m hro_st) hS hFc hPc hKc hDc⟩ rfl rfl hl.1 rfl (lv_room (Nat.le_of_ble_eq_true rfl)) dX7_readSingle_189 ⟨(Nat.le_of_ble_eq_true rfl), (Nat.le_of_ble_eq_true rfl)⟩) hS (fun q _ h => hFc q h) hFc (fun r23 u t H locs ht hvm hw hB hz1 hk1 hS => ?_)
        obtain ⟨b1, b2, b3⟩ := hB
        rw [ht] at b1
        obtain ⟨hP, hD, hK⟩ := JOINC (wc := (List.flatten ([(oX7 (p0a 0) p0a p0k (o_21.1) p0l), (oX6 (p0a 3) p0_2a p0_2k p0_2w p0_2l), (oX10 (p0a 2) p0_1a p0_1k (o_21.2.1) (o_21.2.2))] : List va_W))) (wr := (List.flatten ([] : List va_W))) (w1 := (List.flatten ([(oX7 (p0a 0) p0a p0k (o_22.2.1) (o_22.2.2.1)), (oX6 (p0a 3) p0_2a p0_2k (o_22.2.2.2.1) p0_2l), (oX10 (p0a 2) p0_1a p0_1k (o_22.2.2.2.2.1) (o_22.2.2.2.2.2))] : List va_W))) (t1 := (List.flatten ([(tX7 p0k), (tX6 p0_2k), (tX10 p0_1k)] : List (List (ClassId × FieldType))))) hPx hDx hKx hk1 hFc b1 (va_K.moved hvm.symm b2) b3
        have hP : va_P (dC, dI) cls (List.flatten ([(oX7 (p0a 0) p0a p0k (o_22.2.1) (o_22.2.2.1)), (oX6 (p0a 3) p0_2a p0_2k (o_22.2.2.2.1) p0_2l), (oX10 (p0a 2) p0_1a p0_1k (o_22.2.2.2.2.1) (o_22.2.2.2.2.2))] : List va_W)) H := vP_perm (vP_fb hP) (bP (List.Perm.refl _))
        have hD : va_D A (List.flatten ([(oX7 (p0a 0) p0a p0k (o_22.2.1) (o_22.2.2.1)), (oX6 (p0a 3) p0_2a p0_2k (o_22.2.2.2.1) p0_2l), (oX10 (p0a 2) p0_1a p0_1k (o_22.2.2.2.2.1) (o_22.2.2.2.2.2))] : List va_W)) := vD_perm (vD_fb hD) (bP (List.Perm.refl _))
        have hK : va_K (dC, dI) cls (List.flatten ([(tX7 p0k), (tX6 p0_2k), (tX10 p0_1k)] : List (List (ClassId × FieldType)))) s := vK_perm (vK_fb hK) (bP (List.Perm.refl _))
        obtain rfl : r23 = (o_22.1) := hw
        refine lv_istore_n (lv' := [(2, .int (o_22.1)), (1, .int (p0_1w 0 3)), (0, .ref (p0a 0))]) hx hb dX7_readSingle_192 rfl hl (by decide) rfl (fun ls hl => ?_)
        refine lv_aload_n hx hb dX7_readSingle_193 rfl (lv_at hl 2 rfl) ?_
        refine lv_bipush (v := 41) hx hb dX7_readSingle_194 (by decide) ?_
        obtain ⟨o_24, hc_24, hrun⟩ := bnd9 hrun
        have hPx : va_P (dC, dI) cls ((List.flatten ([(oX7 (p0a 0) p0a p0k (o_22.2.1) (o_22.2.2.1)), (oX10 (p0a 2) p0_1a p0_1k (o_22.2.2.2.2.1) (o_22.2.2.2.2.2))] : List va_W)) ++ (List.flatten ([(oX6 (p0a 3) p0_2a p0_2k (o_22.2.2.2.1) p0_2l)] : List va_W))) H := vP_fa (vP_perm hP (bP (((List.Perm.refl _)).trans ((((((List.Perm.refl _)).cons _).trans (List.Perm.swap _ _ _))).cons _))))
        have hDx : va_D A ((List.flatten ([(oX7 (p0a 0) p0a p0k (o_22.2.1) (o_22.2.2.1)), (oX10 (p0a 2) p0_1a p0_1k (o_22.2.2.2.2.1) (o_22.2.2.2.2.2))] : List va_W)) ++ (List.flatten ([(oX6 (p0a 3) p0_2a p0_2k (o_22.2.2.2.1) p0_2l)] : List va_W))) := vD_fa (vD_perm hD (bP (((List.Perm.refl _)).trans ((((((List.Perm.refl _)).cons _).trans (List.Perm.swap _ _ _))).cons _))))
        have hKx : va_K (dC, dI) cls ((List.flatten ([(tX7 p0k), (tX10 p0_1k)] : List (List (ClassId × FieldType)))) ++ (List.flatten ([(tX6 p0_2k)] : List (List (ClassId × FieldType))))) s := vK_fa (vK_perm hK (bP (((List.Perm.refl _)).trans ((((((List.Perm.refl _)).cons _).trans (List.Perm.swap _ _ _))).cons _))))
        have hPc := vP_l hPx
        have hDc := vD_l hDx
        have hKc := vK_l hKx
        have hFc := vfree hDx hS hA
        refine va_callv (va_runV (As := [.int 41]) (rest := []) ⟨hx, hb, hml, hown, hts⟩ (kX7_expect l dC dI (p0a := p0a) (p0k := p0k) (p0w := (o_22.2.1)) (p0l := (o_22.2.2.1)) (p1 := 41) (aK := aK) (aV := aV) (p0_1a := p0_1a) (p0_1k := p0_1k) (p0_1w := (o_22.2.2.2.2.1)) (p0_1l := (o_22.2.2.2.2.2)) (sz := _) (o := o_24) (hrun := hc_24)) (cwV 1 hts (gi_V qw1386 qw1387 qw1388 qw65 (gi_z qw1385)) rfl rfl rfl (by decide +kernel) ⟨rmF (Nat.le_of_ble_eq_true rfl), rmL (Nat.le_of_ble_eq_true rfl)⟩) ⟨PRE.blind, va_recv hKc hPc (ci := 1) (q0 := 0) rfl rfl, PRE.of (ENV.add hE st9_m hro_st) hS hFc hPc hKc hDc⟩ rfl rfl hl.1 rfl (lv_room (Nat.le_of_ble_eq_true rfl)) dX7_readSingle_196 ⟨(Nat.le_of_ble_eq_true rfl), (Nat.le_of_ble_eq_true rfl)⟩) hS (fun q _ h => hFc q h) hFc (fun u t H locs ht hvm hw hB hz1 hk1 hS => ?_)
        obtain ⟨b1, b2, b3⟩ := hB
        rw [ht] at b1
        obtain ⟨hP, hD, hK⟩ := JOINC (wc := (List.flatten ([(oX7 (p0a 0) p0a p0k (o_22.2.1) (o_22.2.2.1)), (oX10 (p0a 2) p0_1a p0_1k (o_22.2.2.2.2.1) (o_22.2.2.2.2.2))] : List va_W))) (wr := (List.flatten ([(oX6 (p0a 3) p0_2a p0_2k (o_22.2.2.2.1) p0_2l)] : List va_W))) (w1 := (List.flatten ([(oX7 (p0a 0) p0a p0k (o_24.1) (o_22.2.2.1)), (oX10 (p0a 2) p0_1a p0_1k (o_24.2.1) (o_24.2.2))] : List va_W))) (t1 := (List.flatten ([(tX7 p0k), (tX10 p0_1k)] : List (List (ClassId × FieldType))))) hPx hDx hKx hk1 hFc b1 (va_K.moved hvm.symm b2) b3
        have hP : va_P (dC, dI) cls (List.flatten ([(oX7 (p0a 0) p0a p0k (o_24.1) (o_22.2.2.1)), (oX6 (p0a 3) p0_2a p0_2k (o_22.2.2.2.1) p0_2l), (oX10 (p0a 2) p0_1a p0_1k (o_24.2.1) (o_24.2.2))] : List va_W)) H := vP_perm (vP_fb hP) (bP (((List.Perm.refl _)).trans ((((((List.Perm.refl _)).cons _).trans (List.Perm.swap _ _ _))).cons _)))
        have hD : va_D A (List.flatten ([(oX7 (p0a 0) p0a p0k (o_24.1) (o_22.2.2.1)), (oX6 (p0a 3) p0_2a p0_2k (o_22.2.2.2.1) p0_2l), (oX10 (p0a 2) p0_1a p0_1k (o_24.2.1) (o_24.2.2))] : List va_W)) := vD_perm (vD_fb hD) (bP (((List.Perm.refl _)).trans ((((((List.Perm.refl _)).cons _).trans (List.Perm.swap _ _ _))).cons _)))
        have hK : va_K (dC, dI) cls (List.flatten ([(tX7 p0k), (tX6 p0_2k), (tX10 p0_1k)] : List (List (ClassId × FieldType)))) s := vK_perm (vK_fb hK) (bP (((List.Perm.refl _)).trans ((((((List.Perm.refl _)).cons _).trans (List.Perm.swap _ _ _))).cons _)))
        exact J199 (o_22.1) (o_24.1) (o_22.2.2.1) (o_22.2.2.2.1) (o_24.2.1) (o_24.2.2) _ _ _ hrun hP hD hK hS (lv_sub hl [0] rfl)
set_option maxHeartbeats 16000000 in
set_option maxRecDepth 100000 in
theorem kX7_readCall {zs : ZS} (l : Launch) (kk_readTest : ST → SL → Int32 → ST → SL → ST → SL → Option (Int32 × ST × SL × ST × ST × SL)) (F9 L9 : Nat) (hkk_readTest : ∀ {zs : ZS} (dC : Nat → ClassId) (dI : Nat → Nat → Nat) (p0a : Nat → Nat) (p0k : Nat → ClassId) (p0w : ST) (p0l : SL) (p1 : Int32) (aK : Nat → Nat) (aV : Nat → Nat) (p0_2a : Nat → Nat) (p0_2k : Nat → ClassId) (p0_2w : ST) (p0_2l : SL) (p0_1a : Nat → Nat) (p0_1k : Nat → ClassId) (p0_1w : ST) (p0_1l : SL) (sz : Nat) (o : Int32 × ST × SL × ST × ST × SL) (hrun : kk_readTest p0w p0l p1 p0_2w p0_2l p0_1w p0_1l = some o), Met l yX7_readTest (wz yX7_readTest cX7_readTest 8 (Option.some Jvm.ClassFile.FieldType.int)) ({ frames := F9, cells := 0, slots := 0, locals := L9 } : Room) (va_Pc [.ref (p0a 0), .int p1] (PRE (zA zs (st9 aK aV)) dC dI (List.flatten ([(oX7 (p0a 0) p0a p0k p0w p0l), (oX6 (p0a 3) p0_2a p0_2k p0_2w p0_2l), (oX10 (p0a 2) p0_1a p0_1k p0_1w p0_1l)] : List va_W)) (List.flatten ([(tX7 p0k), (tX6 p0_2k), (tX10 p0_1k)] : List (List (ClassId × FieldType)))) sz)) (va_Qi (fun (r : Int32) (_ : Unit) => r = (o.1)) (fun _ t => POST dC dI (List.flatten ([(oX7 (p0a 0) p0a p0k (o.2.1) (o.2.2.1)), (oX6 (p0a 3) p0_2a p0_2k (o.2.2.2.1) p0_2l), (oX10 (p0a 2) p0_1a p0_1k (o.2.2.2.2.1) (o.2.2.2.2.2))] : List va_W)) (List.flatten ([(tX7 p0k), (tX6 p0_2k), (tX10 p0_1k)] : List (List (ClassId × FieldType)))) (va_A (List.flatten ([(oX7 (p0a 0) p0a p0k p0w p0l), (oX6 (p0a 3) p0_2a p0_2k p0_2w p0_2l), (oX10 (p0a 2) p0_1a p0_1k p0_1w p0_1l)] : List va_W)) sz) t) (va_A (List.flatten ([(oX7 (p0a 0) p0a p0k p0w p0l), (oX6 (p0a 3) p0_2a p0_2k p0_2w p0_2l), (oX10 (p0a 2) p0_1a p0_1k p0_1w p0_1l)] : List va_W)) sz)) 0 0 (va_A (List.flatten ([(oX7 (p0a 0) p0a p0k p0w p0l), (oX6 (p0a 3) p0_2a p0_2k p0_2w p0_2l), (oX10 (p0a 2) p0_1a p0_1k p0_1w p0_1l)] : List va_W)) sz)) (dC : Nat → ClassId) (dI : Nat → Nat → Nat) (p0a : Nat → Nat) (p0k : Nat → ClassId) (p0w : ST) (p0l : SL) (p1 : Int64) (p2 : Int32) (aK : Nat → Nat) (aV : Nat → Nat) (p0_2a : Nat → Nat) (p0_2k : Nat → ClassId) (p0_2w : ST) (p0_2l : SL) (p0_1a : Nat → Nat) (p0_1k : Nat → ClassId) (p0_1w : ST) (p0_1l : SL) (sz : Nat) (o : Int32 × ST × SL × ST × ST × SL) (hrun : fX7_readCall kk_readTest p0w p0l p1 p2 p0_2w p0_2l p0_1w p0_1l = some o) : Met l yX7_readCall (wz yX7_readCall cX7_readCall 8 (Option.some Jvm.ClassFile.FieldType.int)) ({ frames := F9 + 8, cells := 0, slots := 0, locals := L9 + 400 } : Room) (va_Pc [.ref (p0a 0), .long p1, .int p2] (PRE (zA zs (st9 aK aV)) dC dI (List.flatten ([(oX7 (p0a 0) p0a p0k p0w p0l), (oX6 (p0a 3) p0_2a p0_2k p0_2w p0_2l), (oX10 (p0a 2) p0_1a p0_1k p0_1w p0_1l)] : List va_W)) (List.flatten ([(tX7 p0k), (tX6 p0_2k), (tX10 p0_1k)] : List (List (ClassId × FieldType)))) sz)) (va_Qi (fun (r : Int32) (_ : Unit) => r = (o.1)) (fun _ t => POST dC dI (List.flatten ([(oX7 (p0a 0) p0a p0k (o.2.1) (o.2.2.1)), (oX6 (p0a 3) p0_2a p0_2k (o.2.2.2.1) p0_2l), (oX10 (p0a 2) p0_1a p0_1k (o.2.2.2.2.1) (o.2.2.2.2.2))] : List va_W)) (List.flatten ([(tX7 p0k), (tX6 p0_2k), (tX10 p0_1k)] : List (List (ClassId × FieldType)))) (va_A (List.flatten ([(oX7 (p0a 0) p0a p0k p0w p0l), (oX6 (p0a 3) p0_2a p0_2k p0_2w p0_2l), (oX10 (p0a 2) p0_1a p0_1k p0_1w p0_1l)] : List va_W)) sz) t) (va_A (List.flatten ([(oX7 (p0a 0) p0a p0k p0w p0l), (oX6 (p0a 3) p0_2a p0_2k p0_2w p0_2l), (oX10 (p0a 2) p0_1a p0_1k p0_1w p0_1l)] : List va_W)) sz)) 0 0 (va_A (List.flatten ([(oX7 (p0a 0) p0a p0k p0w p0l), (oX6 (p0a 3) p0_2a p0_2k p0_2w p0_2l), (oX10 (p0a 2) p0_1a p0_1k p0_1w p0_1l)] : List va_W)) sz) := by
  refine Met.ofW (cc := cX7_readCall) (maxL := 8) (ret := (Option.some Jvm.ClassFile.FieldType.int)) (by decide) rfl ?_
  intro p e s m args below meth c s₁ B hml hv
  obtain ⟨rfl, hsz, hP, hK, hD0, hE⟩ := hv
  have hx := B.exec
  have hb := B.bytes
  have hr := B.returns
  have hts0 := atoms_spec (ws := wz yX7_readCall cX7_readCall 8 (Option.some Jvm.ClassFile.FieldType.int)) B.pre
  have hts : ∀ w ∈ gw, w.before _ s = true := fun w h => hts0 w (List.mem_cons_of_mem _ h)
  have hown : s.vm.findClass RX7 = some m.cls := findClass_of_methodNamed B.named
  have hlocks := B.notSynchronized
  subst hsz
  have hD := hD0.self (sz := s.heap.size)
  refine gQ9 ?_
  intro Q hQ
  generalize hAe : va_A (List.flatten ([(oX7 (p0a 0) p0a p0k p0w p0l), (oX6 (p0a 3) p0_2a p0_2k p0_2w p0_2l), (oX10 (p0a 2) p0_1a p0_1k p0_1w p0_1l)] : List va_W)) s.heap.size = A at hD hE hQ
  have hA : ∀ q : Nat, s.heap.size ≤ q → A q := fun q h => by rw [← hAe]; exact Or.inr h
  have hro := ENV.ex hE
  have hro_st := hro.2
  replace hro := hro.1
  have hS : va_S A s.heap s.heap [] := va_S.rf
  have hP : va_P (dC, dI) cls (List.flatten ([(oX7 (p0a 0) p0a p0k p0w p0l), (oX6 (p0a 3) p0_2a p0_2k p0_2w p0_2l), (oX10 (p0a 2) p0_1a p0_1k p0_1w p0_1l)] : List va_W)) s.heap := hP
  have hl := lv_entry ([.ref (p0a 0), .long p1, .int p2]) (n := 8) (Nat.le_of_ble_eq_true rfl)
  rw [lg_entry_eq]
  generalize (lg_sl ([.ref (p0a 0), .long p1, .int p2]) ++ List.replicate (8 - (lg_sl ([.ref (p0a 0), .long p1, .int p2])).length) Slot.unset).toArray = ls at hl ⊢
  have hl : lv_has ls 8 [(0, .ref (p0a 0)), (1, .long p1), (3, .int p2)] := hl
  obtain ⟨H, hHe⟩ : ∃ H, H = s.heap := ⟨_, rfl⟩
  obtain ⟨locs, hle⟩ : ∃ locs : List Loc, locs = [] := ⟨_, rfl⟩
  rw [← hHe] at hP
  have hS : va_S A s.heap H locs := by rw [hHe, hle]; exact hS
  show W p l e ({ frames := F9 + 8, cells := 0, slots := 0, locals := L9 + 400 } : Room) s m ([.ref (p0a 0), .long p1, .int p2] : List Value).toArray below meth c s.heap [] 0 0 Q (F0 m 0 ls [])
  rw [← hle]
  refine wH9 hHe ?_
  unfold fX7_readCall at hrun
  refine lv_aload_n hx hb dX7_readCall_0 rfl (lv_at hl 0 rfl) ?_
  refine va_get (D := (dC, dI)) (ci := 1) (v := .ref (p0a 3)) (C := RX7) (T := TX7) (N := 18) hx hb hts i_X7 hown hK hP 0 rfl rfl 2 (by decide) (hts _ qw26) (fun _ h9 => h9) rfl dX7_readCall_1 ?_
  refine va_get (D := (dC, dI)) (ci := 2) (v := .int (p0_2w 0 7)) (C := RX6) (T := TX6) (N := 13) hx hb hts i_X6 hown hK hP 9 rfl rfl 7 (by decide) (hts _ qw66) (fun _ h9 => h9) rfl dX7_readCall_4 ?_
  refine lv_istore (lv' := [(4, .int (p0_2w 0 7)), (0, .ref (p0a 0)), (1, .long p1), (3, .int p2)]) hx hb dX7_readCall_7 hl (by decide) rfl (fun ls hl => ?_)
  refine lv_iconst (v := 0) hx hb dX7_readCall_9 (by decide) ?_
  refine lv_istore (lv' := [(5, .int 0), (4, .int (p0_2w 0 7)), (0, .ref (p0a 0)), (1, .long p1), (3, .int p2)]) hx hb dX7_readCall_10 hl (by decide) rfl (fun ls hl => ?_)
  refine lv_iconst (v := 0) hx hb dX7_readCall_12 (by decide) ?_
  refine lv_istore (lv' := [(6, .int 0), (5, .int 0), (4, .int (p0_2w 0 7)), (0, .ref (p0a 0)), (1, .long p1), (3, .int p2)]) hx hb dX7_readCall_13 hl (by decide) rfl (fun ls hl => ?_)
  refine lv_aload_n hx hb dX7_readCall_15 rfl (lv_at hl 3 rfl) ?_
  refine lv_bipush (v := 40) hx hb dX7_readCall_16 (by decide) ?_
  obtain ⟨o_1, hc_1, hrun⟩ := bnd9 hrun
  have hPx : va_P (dC, dI) cls ((List.flatten ([(oX7 (p0a 0) p0a p0k p0w p0l), (oX10 (p0a 2) p0_1a p0_1k p0_1w p0_1l)] : List va_W)) ++ (List.flatten ([(oX6 (p0a 3) p0_2a p0_2k p0_2w p0_2l)] : List va_W))) H := vP_fa (vP_perm hP (bP (((List.Perm.refl _)).trans ((((((List.Perm.refl _)).cons _).trans (List.Perm.swap _ _ _))).cons _))))
  have hDx : va_D A ((List.flatten ([(oX7 (p0a 0) p0a p0k p0w p0l), (oX10 (p0a 2) p0_1a p0_1k p0_1w p0_1l)] : List va_W)) ++ (List.flatten ([(oX6 (p0a 3) p0_2a p0_2k p0_2w p0_2l)] : List va_W))) := vD_fa (vD_perm hD (bP (((List.Perm.refl _)).trans ((((((List.Perm.refl _)).cons _).trans (List.Perm.swap _ _ _))).cons _))))
  have hKx : va_K (dC, dI) cls ((List.flatten ([(tX7 p0k), (tX10 p0_1k)] : List (List (ClassId × FieldType)))) ++ (List.flatten ([(tX6 p0_2k)] : List (List (ClassId × FieldType))))) s := vK_fa (vK_perm hK (bP (((List.Perm.refl _)).trans ((((((List.Perm.refl _)).cons _).trans (List.Perm.swap _ _ _))).cons _))))
  have hPc := vP_l hPx
  have hDc := vD_l hDx
  have hKc := vK_l hKx
  have hFc := vfree hDx hS hA
  refine va_callv (va_runV (As := [.int 40]) (rest := []) ⟨hx, hb, hml, hown, hts⟩ (kX7_expect l dC dI (p0a := p0a) (p0k := p0k) (p0w := p0w) (p0l := p0l) (p1 := 40) (aK := aK) (aV := aV) (p0_1a := p0_1a) (p0_1k := p0_1k) (p0_1w := p0_1w) (p0_1l := p0_1l) (sz := _) (o := o_1) (hrun := hc_1)) (cwV 1 hts (gi_V qw1386 qw1387 qw1388 qw65 (gi_z qw1385)) rfl rfl rfl (by decide +kernel) ⟨rmF (Nat.le_of_ble_eq_true rfl), rmL (Nat.le_of_ble_eq_true rfl)⟩) ⟨PRE.blind, va_recv hKc hPc (ci := 1) (q0 := 0) rfl rfl, PRE.of (ENV.add hE st9_m hro_st) hS hFc hPc hKc hDc⟩ rfl rfl hl.1 rfl (lv_room (Nat.le_of_ble_eq_true rfl)) dX7_readCall_18 ⟨(Nat.le_of_ble_eq_true rfl), (Nat.le_of_ble_eq_true rfl)⟩) hS (fun q _ h => hFc q h) hFc (fun u t H locs ht hvm hw hB hz1 hk1 hS => ?_)
  obtain ⟨b1, b2, b3⟩ := hB
  rw [ht] at b1
  obtain ⟨hP, hD, hK⟩ := JOINC (wc := (List.flatten ([(oX7 (p0a 0) p0a p0k p0w p0l), (oX10 (p0a 2) p0_1a p0_1k p0_1w p0_1l)] : List va_W))) (wr := (List.flatten ([(oX6 (p0a 3) p0_2a p0_2k p0_2w p0_2l)] : List va_W))) (w1 := (List.flatten ([(oX7 (p0a 0) p0a p0k (o_1.1) p0l), (oX10 (p0a 2) p0_1a p0_1k (o_1.2.1) (o_1.2.2))] : List va_W))) (t1 := (List.flatten ([(tX7 p0k), (tX10 p0_1k)] : List (List (ClassId × FieldType))))) hPx hDx hKx hk1 hFc b1 (va_K.moved hvm.symm b2) b3
  have hP : va_P (dC, dI) cls (List.flatten ([(oX7 (p0a 0) p0a p0k (o_1.1) p0l), (oX6 (p0a 3) p0_2a p0_2k p0_2w p0_2l), (oX10 (p0a 2) p0_1a p0_1k (o_1.2.1) (o_1.2.2))] : List va_W)) H := vP_perm (vP_fb hP) (bP (((List.Perm.refl _)).trans ((((((List.Perm.refl _)).cons _).trans (List.Perm.swap _ _ _))).cons _)))
  have hD : va_D A (List.flatten ([(oX7 (p0a 0) p0a p0k (o_1.1) p0l), (oX6 (p0a 3) p0_2a p0_2k p0_2w p0_2l), (oX10 (p0a 2) p0_1a p0_1k (o_1.2.1) (o_1.2.2))] : List va_W)) := vD_perm (vD_fb hD) (bP (((List.Perm.refl _)).trans ((((((List.Perm.refl _)).cons _).trans (List.Perm.swap _ _ _))).cons _)))
  have hK : va_K (dC, dI) cls (List.flatten ([(tX7 p0k), (tX6 p0_2k), (tX10 p0_1k)] : List (List (ClassId × FieldType)))) s := vK_perm (vK_fb hK) (bP (((List.Perm.refl _)).trans ((((((List.Perm.refl _)).cons _).trans (List.Perm.swap _ _ _))).cons _)))
  have L21 : ∀ (n_21 : Nat) (v5_21 : Int32) (v6_21 : Int32) (p0w_21 : ST) (p0l_21 : SL) (p0_2w_21 : ST) (p0_1w_21 : ST) (p0_1l_21 : SL) (o21 : Int32 × Int32 × ST × SL × ST × ST × SL) (H : Heap) (locs : List Loc) (ls : Array Slot), (fX7_readCall_L21 p0_2l kk_readTest n_21) v5_21 v6_21 p0w_21 p0l_21 p0_2w_21 p0_1w_21 p0_1l_21 = some o21 → va_P (dC, dI) cls (List.flatten ([(oX7 (p0a 0) p0a p0k p0w_21 p0l_21), (oX6 (p0a 3) p0_2a p0_2k p0_2w_21 p0_2l), (oX10 (p0a 2) p0_1a p0_1k p0_1w_21 p0_1l_21)] : List va_W)) H → va_D A (List.flatten ([(oX7 (p0a 0) p0a p0k p0w_21 p0l_21), (oX6 (p0a 3) p0_2a p0_2k p0_2w_21 p0_2l), (oX10 (p0a 2) p0_1a p0_1k p0_1w_21 p0_1l_21)] : List va_W)) → va_K (dC, dI) cls (List.flatten ([(tX7 p0k), (tX6 p0_2k), (tX10 p0_1k)] : List (List (ClassId × FieldType)))) s → va_S A s.heap H locs → lv_has ls 8 [(0, .ref (p0a 0)), (1, .long p1), (3, .int p2), (4, .int (p0_2w 0 7)), (5, .int v5_21), (6, .int v6_21)] → (∀ (H : Heap) (locs : List Loc) (ls : Array Slot), va_P (dC, dI) cls (List.flatten ([(oX7 (p0a 0) p0a p0k (o21.2.2.1) (o21.2.2.2.1)), (oX6 (p0a 3) p0_2a p0_2k (o21.2.2.2.2.1) p0_2l), (oX10 (p0a 2) p0_1a p0_1k (o21.2.2.2.2.2.1) (o21.2.2.2.2.2.2))] : List va_W)) H → va_D A (List.flatten ([(oX7 (p0a 0) p0a p0k (o21.2.2.1) (o21.2.2.2.1)), (oX6 (p0a 3) p0_2a p0_2k (o21.2.2.2.2.1) p0_2l), (oX10 (p0a 2) p0_1a p0_1k (o21.2.2.2.2.2.1) (o21.2.2.2.2.2.2))] : List va_W)) → va_K (dC, dI) cls (List.flatten ([(tX7 p0k), (tX6 p0_2k), (tX10 p0_1k)] : List (List (ClassId × FieldType)))) s → va_S A s.heap H locs → lv_has ls 8 [(0, .ref (p0a 0)), (1, .long p1), (3, .int p2), (4, .int (p0_2w 0 7)), (5, .int (o21.1)), (6, .int (o21.2.1))] → W p l e ({ frames := F9 + 8, cells := 0, slots := 0, locals := L9 + 400 } : Room) s m ([.ref (p0a 0), .long p1, .int p2] : List Value).toArray below meth c H locs 0 0 Q (F0 m 78 ls [])) → W p l e ({ frames := F9 + 8, cells := 0, slots := 0, locals := L9 + 400 } : Room) s m ([.ref (p0a 0), .long p1, .int p2] : List Value).toArray below meth c H locs 0 0 Q (F0 m 21 ls []) := by
    intro n_21
    induction n_21 with
    | zero => intro v5_21 v6_21 p0w_21 p0l_21 p0_2w_21 p0_1w_21 p0_1l_21 o21 H locs ls hrun; exact (no9 rfl hrun).elim
    | succ n_21 IH21 =>
      intro v5_21 v6_21 p0w_21 p0l_21 p0_2w_21 p0_1w_21 p0_1l_21 o21 H locs ls hrun hP hD hK hS hl hk21
      unfold fX7_readCall_L21 at hrun
      refine lv_iload hx hb dX7_readCall_21 (lv_at hl 5 rfl) ?_
      refine lv_iconst (v := 4) hx hb dX7_readCall_23 (by decide) ?_
      rcases br9 hrun with ⟨hc2, hrun⟩ | ⟨hc2, hrun⟩
      · refine lv_icmp_gt (tgt := 78) hx hb dX7_readCall_24 (by decide) (fun _ => ?_) (fun c => absurd hc2 c)
        obtain rfl := (Option.some.inj hrun)
        exact hk21 _ _ _ hP hD hK hS (lv_sub hl [0, 1, 2, 3, 4, 5] rfl)
      · refine lv_icmp_gt (tgt := 78) hx hb dX7_readCall_24 (by decide) (fun c => absurd c hc2) (fun _ => ?_)
        refine lv_aload_n hx hb dX7_readCall_27 rfl (lv_at hl 0 rfl) ?_
        refine va_get (D := (dC, dI)) (ci := 1) (v := .ref (p0a 2)) (C := RX7) (T := TX7) (N := 18) hx hb hts i_X7 hown hK hP 0 rfl rfl 1 (by decide) (hts _ qw45) (fun _ h9 => h9) rfl dX7_readCall_28 ?_
        refine va_get (D := (dC, dI)) (ci := 0) (v := .int (p0_1w_21 0 2)) (C := RX10) (T := TX10) (N := 8) hx hb hts i_X10 hown hK hP 20 rfl rfl 2 (by decide) (hts _ qw46) (fun _ h9 => h9) rfl dX7_readCall_31 ?_
        refine lv_bipush (v := 41) hx hb dX7_readCall_34 (by decide) ?_
        rcases br9 hrun with ⟨hc3, hrun⟩ | ⟨hc3, hrun⟩
        · refine lv_icmp_eq (tgt := 78) hx hb dX7_readCall_36 (by decide) (fun _ => ?_) (fun c => absurd hc3 c)
          obtain rfl := (Option.some.inj hrun)
          exact hk21 _ _ _ hP hD hK hS (lv_sub hl [0, 1, 2, 3, 4, 5] rfl)
        · refine lv_icmp_eq (tgt := 78) hx hb dX7_readCall_36 (by decide) (fun c => absurd c hc3) (fun _ => ?_)
          refine lv_iload hx hb dX7_readCall_39 (lv_at hl 5 rfl) ?_
          have J50 : ∀ (p0w_50 : ST) (p0_1w_50 : ST) (p0_1l_50 : SL) (H : Heap) (locs : List Loc) (ls : Array Slot), (fX7_readCall_J50 (fX7_readCall_L21 p0_2l kk_readTest n_21) p0_2l v5_21 v6_21 p0l_21 p0_2w_21 kk_readTest p0w_50 p0_1w_50 p0_1l_50) = some o21 → va_P (dC, dI) cls (List.flatten ([(oX7 (p0a 0) p0a p0k p0w_50 p0l_21), (oX6 (p0a 3) p0_2a p0_2k p0_2w_21 p0_2l), (oX10 (p0a 2) p0_1a p0_1k p0_1w_50 p0_1l_50)] : List va_W)) H → va_D A (List.flatten ([(oX7 (p0a 0) p0a p0k p0w_50 p0l_21), (oX6 (p0a 3) p0_2a p0_2k p0_2w_21 p0_2l), (oX10 (p0a 2) p0_1a p0_1k p0_1w_50 p0_1l_50)] : List va_W)) → va_K (dC, dI) cls (List.flatten ([(tX7 p0k), (tX6 p0_2k), (tX10 p0_1k)] : List (List (ClassId × FieldType)))) s → va_S A s.heap H locs → lv_has ls 8 [(0, .ref (p0a 0)), (1, .long p1), (3, .int p2), (4, .int (p0_2w 0 7)), (5, .int v5_21), (6, .int v6_21)] → W p l e ({ frames := F9 + 8, cells := 0, slots := 0, locals := L9 + 400 } : Room) s m ([.ref (p0a 0), .long p1, .int p2] : List Value).toArray below meth c H locs 0 0 Q (F0 m 50 ls []) := by
            intro p0w_50 p0_1w_50 p0_1l_50 H locs ls hrun hP hD hK hS hl 
            unfold fX7_readCall_J50 at hrun
            refine lv_iload hx hb dX7_readCall_50 (lv_at hl 5 rfl) ?_
            refine lv_iconst (v := 4) hx hb dX7_readCall_52 (by decide) ?_
            have J60 : ∀ (H : Heap) (locs : List Loc) (ls : Array Slot), (fX7_readCall_J60 (fX7_readCall_L21 p0_2l kk_readTest n_21) p0_2l v5_21 v6_21 p0l_21 p0_2w_21 p0w_50 p0_1w_50 p0_1l_50 kk_readTest) = some o21 → va_P (dC, dI) cls (List.flatten ([(oX7 (p0a 0) p0a p0k p0w_50 p0l_21), (oX6 (p0a 3) p0_2a p0_2k p0_2w_21 p0_2l), (oX10 (p0a 2) p0_1a p0_1k p0_1w_50 p0_1l_50)] : List va_W)) H → va_D A (List.flatten ([(oX7 (p0a 0) p0a p0k p0w_50 p0l_21), (oX6 (p0a 3) p0_2a p0_2k p0_2w_21 p0_2l), (oX10 (p0a 2) p0_1a p0_1k p0_1w_50 p0_1l_50)] : List va_W)) → va_K (dC, dI) cls (List.flatten ([(tX7 p0k), (tX6 p0_2k), (tX10 p0_1k)] : List (List (ClassId × FieldType)))) s → va_S A s.heap H locs → lv_has ls 8 [(0, .ref (p0a 0)), (1, .long p1), (3, .int p2), (4, .int (p0_2w 0 7)), (5, .int v5_21), (6, .int v6_21)] → W p l e ({ frames := F9 + 8, cells := 0, slots := 0, locals := L9 + 400 } : Room) s m ([.ref (p0a 0), .long p1, .int p2] : List Value).toArray below meth c H locs 0 0 Q (F0 m 60 ls []) := by
              intro  H locs ls hrun hP hD hK hS hl 
              unfold fX7_readCall_J60 at hrun
              refine lv_iload hx hb dX7_readCall_60 (lv_at hl 4 rfl) ?_
              refine lv_aload_n hx hb dX7_readCall_62 rfl (lv_at hl 0 rfl) ?_
              refine lv_iconst (v := 0) hx hb dX7_readCall_63 (by decide) ?_
              obtain ⟨o_4, hc_4, hrun⟩ := bnd9 hrun
              have hPx : va_P (dC, dI) cls ((List.flatten ([(oX7 (p0a 0) p0a p0k p0w_50 p0l_21), (oX6 (p0a 3) p0_2a p0_2k p0_2w_21 p0_2l), (oX10 (p0a 2) p0_1a p0_1k p0_1w_50 p0_1l_50)] : List va_W)) ++ (List.flatten ([] : List va_W))) H := vP_fa (vP_perm hP (bP (List.Perm.refl _)))
              have hDx : va_D A ((List.flatten ([(oX7 (p0a 0) p0a p0k p0w_50 p0l_21), (oX6 (p0a 3) p0_2a p0_2k p0_2w_21 p0_2l), (oX10 (p0a 2) p0_1a p0_1k p0_1w_50 p0_1l_50)] : List va_W)) ++ (List.flatten ([] : List va_W))) := vD_fa (vD_perm hD (bP (List.Perm.refl _)))
              have hKx : va_K (dC, dI) cls ((List.flatten ([(tX7 p0k), (tX6 p0_2k), (tX10 p0_1k)] : List (List (ClassId × FieldType)))) ++ (List.flatten ([] : List (List (ClassId × FieldType))))) s := vK_fa (vK_perm hK (bP (List.Perm.refl _)))
              have hPc := vP_l hPx
              have hDc := vD_l hDx
              have hKc := vK_l hKx
              have hFc := vfree hDx hS hA
              refine va_calli (va_runV (As := [.int 0]) (rest := [.int v5_21]) ⟨hx, hb, hml, hown, hts⟩ (hkk_readTest dC dI (p0a := p0a) (p0k := p0k) (p0w := p0w_50) (p0l := p0l_21) (p1 := 0) (aK := aK) (aV := aV) (p0_2a := p0_2a) (p0_2k := p0_2k) (p0_2w := p0_2w_21) (p0_2l := p0_2l) (p0_1a := p0_1a) (p0_1k := p0_1k) (p0_1w := p0_1w_50) (p0_1l := p0_1l_50) (sz := _) (o := o_4) (hrun := hc_4)) (cwV 1 hts (gi_V qw1410 qw1411 qw1412 qw65 (gi_z qw1409)) rfl rfl rfl (by decide +kernel) ⟨rmF9, rmL9 (n := 27) (Nat.le_of_ble_eq_true rfl)⟩) ⟨PRE.blind, va_recv hKc hPc (ci := 1) (q0 := 0) rfl rfl, PRE.of (ENV.add hE st9_m hro_st) hS hFc hPc hKc hDc⟩ rfl rfl hl.1 rfl (lv_room (Nat.le_of_ble_eq_true rfl)) dX7_readCall_64 ⟨(Nat.le_of_ble_eq_true rfl), (Nat.le_of_ble_eq_true rfl)⟩) hS (fun q _ h => hFc q h) hFc (fun r5 u t H locs ht hvm hw hB hz1 hk1 hS => ?_)
              obtain ⟨b1, b2, b3⟩ := hB
              rw [ht] at b1
              obtain ⟨hP, hD, hK⟩ := JOINC (wc := (List.flatten ([(oX7 (p0a 0) p0a p0k p0w_50 p0l_21), (oX6 (p0a 3) p0_2a p0_2k p0_2w_21 p0_2l), (oX10 (p0a 2) p0_1a p0_1k p0_1w_50 p0_1l_50)] : List va_W))) (wr := (List.flatten ([] : List va_W))) (w1 := (List.flatten ([(oX7 (p0a 0) p0a p0k (o_4.2.1) (o_4.2.2.1)), (oX6 (p0a 3) p0_2a p0_2k (o_4.2.2.2.1) p0_2l), (oX10 (p0a 2) p0_1a p0_1k (o_4.2.2.2.2.1) (o_4.2.2.2.2.2))] : List va_W))) (t1 := (List.flatten ([(tX7 p0k), (tX6 p0_2k), (tX10 p0_1k)] : List (List (ClassId × FieldType))))) hPx hDx hKx hk1 hFc b1 (va_K.moved hvm.symm b2) b3
              have hP : va_P (dC, dI) cls (List.flatten ([(oX7 (p0a 0) p0a p0k (o_4.2.1) (o_4.2.2.1)), (oX6 (p0a 3) p0_2a p0_2k (o_4.2.2.2.1) p0_2l), (oX10 (p0a 2) p0_1a p0_1k (o_4.2.2.2.2.1) (o_4.2.2.2.2.2))] : List va_W)) H := vP_perm (vP_fb hP) (bP (List.Perm.refl _))
              have hD : va_D A (List.flatten ([(oX7 (p0a 0) p0a p0k (o_4.2.1) (o_4.2.2.1)), (oX6 (p0a 3) p0_2a p0_2k (o_4.2.2.2.1) p0_2l), (oX10 (p0a 2) p0_1a p0_1k (o_4.2.2.2.2.1) (o_4.2.2.2.2.2))] : List va_W)) := vD_perm (vD_fb hD) (bP (List.Perm.refl _))
              have hK : va_K (dC, dI) cls (List.flatten ([(tX7 p0k), (tX6 p0_2k), (tX10 p0_1k)] : List (List (ClassId × FieldType)))) s := vK_perm (vK_fb hK) (bP (List.Perm.refl _))
              obtain rfl : r5 = (o_4.1) := hw
              refine va_mmax hx hb (hml.trans hl.1.symm) hown (hts _ qw1444) (hts _ qw359) (hts _ qw100) (hts _ qw360) (rmF (Nat.le_of_ble_eq_true rfl)) (rmL (Nat.le_of_ble_eq_true rfl)) (Nat.le_of_ble_eq_true rfl) (Nat.le_of_ble_eq_true rfl) dX7_readCall_67 ?_
              refine lv_istore (lv' := [(5, .int (if v5_21 < (o_4.1) then (o_4.1) else v5_21)), (0, .ref (p0a 0)), (1, .long p1), (3, .int p2), (4, .int (p0_2w 0 7)), (6, .int v6_21)]) hx hb dX7_readCall_70 hl (by decide) rfl (fun ls hl => ?_)
              refine lv_iinc (v := (v6_21 + 1)) (lv' := [(6, .int (v6_21 + 1)), (5, .int (if v5_21 < (o_4.1) then (o_4.1) else v5_21)), (0, .ref (p0a 0)), (1, .long p1), (3, .int p2), (4, .int (p0_2w 0 7))]) hx hb dX7_readCall_72 hl (k := 5) rfl rfl (by decide) rfl (fun ls hl => ?_)
              refine lv_goto (tgt := 21) hx hb dX7_readCall_75 (by decide) ?_
              exact IH21 (if v5_21 < (o_4.1) then (o_4.1) else v5_21) (v6_21 + 1) (o_4.2.1) (o_4.2.2.1) (o_4.2.2.2.1) (o_4.2.2.2.2.1) (o_4.2.2.2.2.2) o21 _ _ _ hrun hP hD hK hS (lv_sub hl [2, 3, 4, 5, 1, 0] rfl) hk21
            rcases br9 hrun with ⟨hc6, hrun⟩ | ⟨hc6, hrun⟩
            · refine lv_icmp_ne (tgt := 60) hx hb dX7_readCall_53 (by decide) (fun c => absurd hc6 c) (fun _ => ?_)
              refine lv_aload_n hx hb dX7_readCall_56 rfl (lv_at hl 0 rfl) ?_
              cases hrun
            · refine lv_icmp_ne (tgt := 60) hx hb dX7_readCall_53 (by decide) (fun _ => ?_) (fun c => absurd c hc6)
              exact J60 _ _ _ hrun hP hD hK hS (lv_sub hl [0, 1, 2, 3, 4, 5] rfl)
          rcases br9 hrun with ⟨hc7, hrun⟩ | ⟨hc7, hrun⟩
          · refine lv_if_le (tgt := 50) hx hb dX7_readCall_41 (by decide) (fun _ => ?_) (fun c => absurd hc7 c)
            exact J50 p0w_21 p0_1w_21 p0_1l_21 _ _ _ hrun hP hD hK hS (lv_sub hl [0, 1, 2, 3, 4, 5] rfl)
          · refine lv_if_le (tgt := 50) hx hb dX7_readCall_41 (by decide) (fun c => absurd c hc7) (fun _ => ?_)
            refine lv_aload_n hx hb dX7_readCall_44 rfl (lv_at hl 0 rfl) ?_
            refine lv_bipush (v := 44) hx hb dX7_readCall_45 (by decide) ?_
            obtain ⟨o_8, hc_8, hrun⟩ := bnd9 hrun
            have hPx : va_P (dC, dI) cls ((List.flatten ([(oX7 (p0a 0) p0a p0k p0w_21 p0l_21), (oX10 (p0a 2) p0_1a p0_1k p0_1w_21 p0_1l_21)] : List va_W)) ++ (List.flatten ([(oX6 (p0a 3) p0_2a p0_2k p0_2w_21 p0_2l)] : List va_W))) H := vP_fa (vP_perm hP (bP (((List.Perm.refl _)).trans ((((((List.Perm.refl _)).cons _).trans (List.Perm.swap _ _ _))).cons _))))
            have hDx : va_D A ((List.flatten ([(oX7 (p0a 0) p0a p0k p0w_21 p0l_21), (oX10 (p0a 2) p0_1a p0_1k p0_1w_21 p0_1l_21)] : List va_W)) ++ (List.flatten ([(oX6 (p0a 3) p0_2a p0_2k p0_2w_21 p0_2l)] : List va_W))) := vD_fa (vD_perm hD (bP (((List.Perm.refl _)).trans ((((((List.Perm.refl _)).cons _).trans (List.Perm.swap _ _ _))).cons _))))
            have hKx : va_K (dC, dI) cls ((List.flatten ([(tX7 p0k), (tX10 p0_1k)] : List (List (ClassId × FieldType)))) ++ (List.flatten ([(tX6 p0_2k)] : List (List (ClassId × FieldType))))) s := vK_fa (vK_perm hK (bP (((List.Perm.refl _)).trans ((((((List.Perm.refl _)).cons _).trans (List.Perm.swap _ _ _))).cons _))))
            have hPc := vP_l hPx
            have hDc := vD_l hDx
            have hKc := vK_l hKx
            have hFc := vfree hDx hS hA
            refine va_callv (va_runV (As := [.int 44]) (rest := []) ⟨hx, hb, hml, hown, hts⟩ (kX7_expect l dC dI (p0a := p0a) (p0k := p0k) (p0w := p0w_21) (p0l := p0l_21) (p1 := 44) (aK := aK) (aV := aV) (p0_1a := p0_1a) (p0_1k := p0_1k) (p0_1w := p0_1w_21) (p0_1l := p0_1l_21) (sz := _) (o := o_8) (hrun := hc_8)) (cwV 1 hts (gi_V qw1386 qw1387 qw1388 qw65 (gi_z qw1385)) rfl rfl rfl (by decide +kernel) ⟨rmF (Nat.le_of_ble_eq_true rfl), rmL (Nat.le_of_ble_eq_true rfl)⟩) ⟨PRE.blind, va_recv hKc hPc (ci := 1) (q0 := 0) rfl rfl, PRE.of (ENV.add hE st9_m hro_st) hS hFc hPc hKc hDc⟩ rfl rfl hl.1 rfl (lv_room (Nat.le_of_ble_eq_true rfl)) dX7_readCall_47 ⟨(Nat.le_of_ble_eq_true rfl), (Nat.le_of_ble_eq_true rfl)⟩) hS (fun q _ h => hFc q h) hFc (fun u t H locs ht hvm hw hB hz1 hk1 hS => ?_)
            obtain ⟨b1, b2, b3⟩ := hB
            rw [ht] at b1
            obtain ⟨hP, hD, hK⟩ := JOINC (wc := (List.flatten ([(oX7 (p0a 0) p0a p0k p0w_21 p0l_21), (oX10 (p0a 2) p0_1a p0_1k p0_1w_21 p0_1l_21)] : List va_W))) (wr := (List.flatten ([(oX6 (p0a 3) p0_2a p0_2k p0_2w_21 p0_2l)] : List va_W))) (w1 := (List.flatten ([(oX7 (p0a 0) p0a p0k (o_8.1) p0l_21), (oX10 (p0a 2) p0_1a p0_1k (o_8.2.1) (o_8.2.2))] : List va_W))) (t1 := (List.flatten ([(tX7 p0k), (tX10 p0_1k)] : List (List (ClassId × FieldType))))) hPx hDx hKx hk1 hFc b1 (va_K.moved hvm.symm b2) b3
            have hP : va_P (dC, dI) cls (List.flatten ([(oX7 (p0a 0) p0a p0k (o_8.1) p0l_21), (oX6 (p0a 3) p0_2a p0_2k p0_2w_21 p0_2l), (oX10 (p0a 2) p0_1a p0_1k (o_8.2.1) (o_8.2.2))] : List va_W)) H := vP_perm (vP_fb hP) (bP (((List.Perm.refl _)).trans ((((((List.Perm.refl _)).cons _).trans (List.Perm.swap _ _ _))).cons _)))
            have hD : va_D A (List.flatten ([(oX7 (p0a 0) p0a p0k (o_8.1) p0l_21), (oX6 (p0a 3) p0_2a p0_2k p0_2w_21 p0_2l), (oX10 (p0a 2) p0_1a p0_1k (o_8.2.1) (o_8.2.2))] : List va_W)) := vD_perm (vD_fb hD) (bP (((List.Perm.refl _)).trans ((((((List.Perm.refl _)).cons _).trans (List.Perm.swap _ _ _))).cons _)))
            have hK : va_K (dC, dI) cls (List.flatten ([(tX7 p0k), (tX6 p0_2k), (tX10 p0_1k)] : List (List (ClassId × FieldType)))) s := vK_perm (vK_fb hK) (bP (((List.Perm.refl _)).trans ((((((List.Perm.refl _)).cons _).trans (List.Perm.swap _ _ _))).cons _)))
            exact J50 (o_8.1) (o_8.2.1) (o_8.2.2) _ _ _ hrun hP hD hK hS (lv_sub hl [0, 1, 2, 3, 4, 5] rfl)
  obtain ⟨o21, hc21, hrun⟩ := bnd9 hrun
  refine L21 NF 0 0 (o_1.1) p0l p0_2w (o_1.2.1) (o_1.2.2) o21 _ _ _ hc21 hP hD hK hS (lv_sub hl [3, 4, 5, 2, 1, 0] rfl) ?_
  intro H locs ls hP hD hK hS hl
  have hl := hl
  refine lv_aload_n hx hb dX7_readCall_78 rfl (lv_at hl 0 rfl) ?_
  refine lv_bipush (v := 41) hx hb dX7_readCall_79 (by decide) ?_
  obtain ⟨o_9, hc_9, hrun⟩ := bnd9 hrun
  have hPx : va_P (dC, dI) cls ((List.flatten ([(oX7 (p0a 0) p0a p0k (o21.2.2.1) (o21.2.2.2.1)), (oX10 (p0a 2) p0_1a p0_1k (o21.2.2.2.2.2.1) (o21.2.2.2.2.2.2))] : List va_W)) ++ (List.flatten ([(oX6 (p0a 3) p0_2a p0_2k (o21.2.2.2.2.1) p0_2l)] : List va_W))) H := vP_fa (vP_perm hP (bP (((List.Perm.refl _)).trans ((((((List.Perm.refl _)).cons _).trans (List.Perm.swap _ _ _))).cons _))))
  have hDx : va_D A ((List.flatten ([(oX7 (p0a 0) p0a p0k (o21.2.2.1) (o21.2.2.2.1)), (oX10 (p0a 2) p0_1a p0_1k (o21.2.2.2.2.2.1) (o21.2.2.2.2.2.2))] : List va_W)) ++ (List.flatten ([(oX6 (p0a 3) p0_2a p0_2k (o21.2.2.2.2.1) p0_2l)] : List va_W))) := vD_fa (vD_perm hD (bP (((List.Perm.refl _)).trans ((((((List.Perm.refl _)).cons _).trans (List.Perm.swap _ _ _))).cons _))))
  have hKx : va_K (dC, dI) cls ((List.flatten ([(tX7 p0k), (tX10 p0_1k)] : List (List (ClassId × FieldType)))) ++ (List.flatten ([(tX6 p0_2k)] : List (List (ClassId × FieldType))))) s := vK_fa (vK_perm hK (bP (((List.Perm.refl _)).trans ((((((List.Perm.refl _)).cons _).trans (List.Perm.swap _ _ _))).cons _))))
  have hPc := vP_l hPx
  have hDc := vD_l hDx
  have hKc := vK_l hKx
  have hFc := vfree hDx hS hA
  refine va_callv (va_runV (As := [.int 41]) (rest := []) ⟨hx, hb, hml, hown, hts⟩ (kX7_expect l dC dI (p0a := p0a) (p0k := p0k) (p0w := (o21.2.2.1)) (p0l := (o21.2.2.2.1)) (p1 := 41) (aK := aK) (aV := aV) (p0_1a := p0_1a) (p0_1k := p0_1k) (p0_1w := (o21.2.2.2.2.2.1)) (p0_1l := (o21.2.2.2.2.2.2)) (sz := _) (o := o_9) (hrun := hc_9)) (cwV 1 hts (gi_V qw1386 qw1387 qw1388 qw65 (gi_z qw1385)) rfl rfl rfl (by decide +kernel) ⟨rmF (Nat.le_of_ble_eq_true rfl), rmL (Nat.le_of_ble_eq_true rfl)⟩) ⟨PRE.blind, va_recv hKc hPc (ci := 1) (q0 := 0) rfl rfl, PRE.of (ENV.add hE st9_m hro_st) hS hFc hPc hKc hDc⟩ rfl rfl hl.1 rfl (lv_room (Nat.le_of_ble_eq_true rfl)) dX7_readCall_81 ⟨(Nat.le_of_ble_eq_true rfl), (Nat.le_of_ble_eq_true rfl)⟩) hS (fun q _ h => hFc q h) hFc (fun u t H locs ht hvm hw hB hz1 hk1 hS => ?_)
  obtain ⟨b1, b2, b3⟩ := hB
  rw [ht] at b1
  obtain ⟨hP, hD, hK⟩ := JOINC (wc := (List.flatten ([(oX7 (p0a 0) p0a p0k (o21.2.2.1) (o21.2.2.2.1)), (oX10 (p0a 2) p0_1a p0_1k (o21.2.2.2.2.2.1) (o21.2.2.2.2.2.2))] : List va_W))) (wr := (List.flatten ([(oX6 (p0a 3) p0_2a p0_2k (o21.2.2.2.2.1) p0_2l)] : List va_W))) (w1 := (List.flatten ([(oX7 (p0a 0) p0a p0k (o_9.1) (o21.2.2.2.1)), (oX10 (p0a 2) p0_1a p0_1k (o_9.2.1) (o_9.2.2))] : List va_W))) (t1 := (List.flatten ([(tX7 p0k), (tX10 p0_1k)] : List (List (ClassId × FieldType))))) hPx hDx hKx hk1 hFc b1 (va_K.moved hvm.symm b2) b3
  have hP : va_P (dC, dI) cls (List.flatten ([(oX7 (p0a 0) p0a p0k (o_9.1) (o21.2.2.2.1)), (oX6 (p0a 3) p0_2a p0_2k (o21.2.2.2.2.1) p0_2l), (oX10 (p0a 2) p0_1a p0_1k (o_9.2.1) (o_9.2.2))] : List va_W)) H := vP_perm (vP_fb hP) (bP (((List.Perm.refl _)).trans ((((((List.Perm.refl _)).cons _).trans (List.Perm.swap _ _ _))).cons _)))
  have hD : va_D A (List.flatten ([(oX7 (p0a 0) p0a p0k (o_9.1) (o21.2.2.2.1)), (oX6 (p0a 3) p0_2a p0_2k (o21.2.2.2.2.1) p0_2l), (oX10 (p0a 2) p0_1a p0_1k (o_9.2.1) (o_9.2.2))] : List va_W)) := vD_perm (vD_fb hD) (bP (((List.Perm.refl _)).trans ((((((List.Perm.refl _)).cons _).trans (List.Perm.swap _ _ _))).cons _)))
  have hK : va_K (dC, dI) cls (List.flatten ([(tX7 p0k), (tX6 p0_2k), (tX10 p0_1k)] : List (List (ClassId × FieldType)))) s := vK_perm (vK_fb hK) (bP (((List.Perm.refl _)).trans ((((((List.Perm.refl _)).cons _).trans (List.Perm.swap _ _ _))).cons _)))
  refine lv_iload hx hb dX7_readCall_84 (lv_at hl 5 rfl) ?_
  refine lv_istore (lv' := [(7, .int (o21.2.1)), (0, .ref (p0a 0)), (1, .long p1), (3, .int p2), (4, .int (p0_2w 0 7)), (5, .int (o21.1)), (6, .int (o21.2.1))]) hx hb dX7_readCall_86 hl (by decide) rfl (fun ls hl => ?_)
  have L88 : ∀ (n_88 : Nat) (v7_88 : Int32) (p0_2w_88 : ST) (o88 : ST) (H : Heap) (locs : List Loc) (ls : Array Slot), (fX7_readCall_L88 n_88) v7_88 p0_2w_88 = some o88 → va_P (dC, dI) cls (List.flatten ([(oX7 (p0a 0) p0a p0k (o_9.1) (o21.2.2.2.1)), (oX6 (p0a 3) p0_2a p0_2k p0_2w_88 p0_2l), (oX10 (p0a 2) p0_1a p0_1k (o_9.2.1) (o_9.2.2))] : List va_W)) H → va_D A (List.flatten ([(oX7 (p0a 0) p0a p0k (o_9.1) (o21.2.2.2.1)), (oX6 (p0a 3) p0_2a p0_2k p0_2w_88 p0_2l), (oX10 (p0a 2) p0_1a p0_1k (o_9.2.1) (o_9.2.2))] : List va_W)) → va_K (dC, dI) cls (List.flatten ([(tX7 p0k), (tX6 p0_2k), (tX10 p0_1k)] : List (List (ClassId × FieldType)))) s → va_S A s.heap H locs → lv_has ls 8 [(0, .ref (p0a 0)), (1, .long p1), (3, .int p2), (4, .int (p0_2w 0 7)), (5, .int (o21.1)), (6, .int (o21.2.1)), (7, .int v7_88)] → (∀ (H : Heap) (locs : List Loc) (ls : Array Slot), va_P (dC, dI) cls (List.flatten ([(oX7 (p0a 0) p0a p0k (o_9.1) (o21.2.2.2.1)), (oX6 (p0a 3) p0_2a p0_2k o88 p0_2l), (oX10 (p0a 2) p0_1a p0_1k (o_9.2.1) (o_9.2.2))] : List va_W)) H → va_D A (List.flatten ([(oX7 (p0a 0) p0a p0k (o_9.1) (o21.2.2.2.1)), (oX6 (p0a 3) p0_2a p0_2k o88 p0_2l), (oX10 (p0a 2) p0_1a p0_1k (o_9.2.1) (o_9.2.2))] : List va_W)) → va_K (dC, dI) cls (List.flatten ([(tX7 p0k), (tX6 p0_2k), (tX10 p0_1k)] : List (List (ClassId × FieldType)))) s → va_S A s.heap H locs → lv_has ls 8 [(0, .ref (p0a 0)), (1, .long p1), (3, .int p2), (4, .int (p0_2w 0 7)), (5, .int (o21.1)), (6, .int (o21.2.1))] → W p l e ({ frames := F9 + 8, cells := 0, slots := 0, locals := L9 + 400 } : Room) s m ([.ref (p0a 0), .long p1, .int p2] : List Value).toArray below meth c H locs 0 0 Q (F0 m 111 ls [])) → W p l e ({ frames := F9 + 8, cells := 0, slots := 0, locals := L9 + 400 } : Room) s m ([.ref (p0a 0), .long p1, .int p2] : List Value).toArray below meth c H locs 0 0 Q (F0 m 88 ls []) := by
    intro n_88
    induction n_88 with
    | zero => intro v7_88 p0_2w_88 o88 H locs ls hrun; exact (no9 rfl hrun).elim
    | succ n_88 IH88 =>
      intro v7_88 p0_2w_88 o88 H locs ls hrun hP hD hK hS hl hk88
      unfold fX7_readCall_L88 at hrun
      refine lv_iload hx hb dX7_readCall_88 (lv_at hl 6 rfl) ?_
      rcases br9 hrun with ⟨hc10, hrun⟩ | ⟨hc10, hrun⟩
      · refine lv_if_le (tgt := 111) hx hb dX7_readCall_90 (by decide) (fun _ => ?_) (fun c => absurd hc10 c)
        obtain rfl := (Option.some.inj hrun)
        exact hk88 _ _ _ hP hD hK hS (lv_sub hl [0, 1, 2, 3, 4, 5] rfl)
      · refine lv_if_le (tgt := 111) hx hb dX7_readCall_90 (by decide) (fun c => absurd c hc10) (fun _ => ?_)
        refine lv_aload_n hx hb dX7_readCall_93 rfl (lv_at hl 0 rfl) ?_
        refine va_get (D := (dC, dI)) (ci := 1) (v := .ref (p0a 3)) (C := RX7) (T := TX7) (N := 18) hx hb hts i_X7 hown hK hP 0 rfl rfl 2 (by decide) (hts _ qw26) (fun _ h9 => h9) rfl dX7_readCall_94 ?_
        refine lv_bipush (v := 19) hx hb dX7_readCall_97 (by decide) ?_
        refine lv_iload hx hb dX7_readCall_99 (lv_at hl 6 rfl) ?_
        refine lv_iconst (v := 0) hx hb dX7_readCall_101 (by decide) ?_
        obtain ⟨o_11, hc_11, hrun⟩ := bnd9 hrun
        have hPx : va_P (dC, dI) cls ((List.flatten ([(oX6 (p0a 3) p0_2a p0_2k p0_2w_88 p0_2l)] : List va_W)) ++ (List.flatten ([(oX7 (p0a 0) p0a p0k (o_9.1) (o21.2.2.2.1)), (oX10 (p0a 2) p0_1a p0_1k (o_9.2.1) (o_9.2.2))] : List va_W))) H := vP_fa (vP_perm hP (bP ((((List.Perm.refl _)).cons _).trans (List.Perm.swap _ _ _))))
        have hDx : va_D A ((List.flatten ([(oX6 (p0a 3) p0_2a p0_2k p0_2w_88 p0_2l)] : List va_W)) ++ (List.flatten ([(oX7 (p0a 0) p0a p0k (o_9.1) (o21.2.2.2.1)), (oX10 (p0a 2) p0_1a p0_1k (o_9.2.1) (o_9.2.2))] : List va_W))) := vD_fa (vD_perm hD (bP ((((List.Perm.refl _)).cons _).trans (List.Perm.swap _ _ _))))
        have hKx : va_K (dC, dI) cls ((List.flatten ([(tX6 p0_2k)] : List (List (ClassId × FieldType)))) ++ (List.flatten ([(tX7 p0k), (tX10 p0_1k)] : List (List (ClassId × FieldType))))) s := vK_fa (vK_perm hK (bP ((((List.Perm.refl _)).cons _).trans (List.Perm.swap _ _ _))))
        have hPc := vP_l hPx
        have hDc := vD_l hDx
        have hKc := vK_l hKx
        have hFc := vfree hDx hS hA
        refine va_callv (va_runV (As := [.int 19, .int v7_88, .int 0]) (rest := []) ⟨hx, hb, hml, hown, hts⟩ (kX6_emit l dC dI (p0a := (st0 (p0a 3) p0_2a)) (p0k := p0_2k) (p0w := p0_2w_88) (p0l := p0_2l) (p1 := 19) (p2 := v7_88) (p3 := 0) (sz := _) (o := o_11) (hrun := hc_11)) (cwV 3 hts (gi_V qw42 qw43 qw44 qw33 (gi_z qw41)) rfl rfl rfl (by decide +kernel) ⟨rmF (Nat.le_of_ble_eq_true rfl), rmL (Nat.le_of_ble_eq_true rfl)⟩) ⟨PRE.blind, va_recv hKc hPc (ci := 2) (q0 := 0) rfl rfl, PRE.of hE hS hFc hPc hKc hDc⟩ rfl rfl hl.1 rfl (lv_room (Nat.le_of_ble_eq_true rfl)) dX7_readCall_102 ⟨(Nat.le_of_ble_eq_true rfl), (Nat.le_of_ble_eq_true rfl)⟩) hS (fun q _ h => hFc q h) hFc (fun u t H locs ht hvm hw hB hz1 hk1 hS => ?_)
        obtain ⟨b1, b2, b3⟩ := hB
        rw [ht] at b1
        obtain ⟨hP, hD, hK⟩ := JOINC (wc := (List.flatten ([(oX6 (p0a 3) p0_2a p0_2k p0_2w_88 p0_2l)] : List va_W))) (wr := (List.flatten ([(oX7 (p0a 0) p0a p0k (o_9.1) (o21.2.2.2.1)), (oX10 (p0a 2) p0_1a p0_1k (o_9.2.1) (o_9.2.2))] : List va_W))) (w1 := (List.flatten ([(oX6 (p0a 3) p0_2a p0_2k o_11 p0_2l)] : List va_W))) (t1 := (List.flatten ([(tX6 p0_2k)] : List (List (ClassId × FieldType))))) hPx hDx hKx hk1 hFc b1 (va_K.moved hvm.symm b2) b3
        have hP : va_P (dC, dI) cls (List.flatten ([(oX7 (p0a 0) p0a p0k (o_9.1) (o21.2.2.2.1)), (oX6 (p0a 3) p0_2a p0_2k o_11 p0_2l), (oX10 (p0a 2) p0_1a p0_1k (o_9.2.1) (o_9.2.2))] : List va_W)) H := vP_perm (vP_fb hP) (bP ((((List.Perm.refl _)).cons _).trans (List.Perm.swap _ _ _)))
        have hD : va_D A (List.flatten ([(oX7 (p0a 0) p0a p0k (o_9.1) (o21.2.2.2.1)), (oX6 (p0a 3) p0_2a p0_2k o_11 p0_2l), (oX10 (p0a 2) p0_1a p0_1k (o_9.2.1) (o_9.2.2))] : List va_W)) := vD_perm (vD_fb hD) (bP ((((List.Perm.refl _)).cons _).trans (List.Perm.swap _ _ _)))
        have hK : va_K (dC, dI) cls (List.flatten ([(tX7 p0k), (tX6 p0_2k), (tX10 p0_1k)] : List (List (ClassId × FieldType)))) s := vK_perm (vK_fb hK) (bP ((((List.Perm.refl _)).cons _).trans (List.Perm.swap _ _ _)))
        refine lv_iinc (v := (v7_88 + (-1))) (lv' := [(7, .int (v7_88 + (-1))), (0, .ref (p0a 0)), (1, .long p1), (3, .int p2), (4, .int (p0_2w 0 7)), (5, .int (o21.1)), (6, .int (o21.2.1))]) hx hb dX7_readCall_105 hl (k := 6) rfl rfl (by decide) rfl (fun ls hl => ?_)
        refine lv_goto (tgt := 88) hx hb dX7_readCall_108 (by decide) ?_
        exact IH88 (v7_88 + (-1)) o_11 o88 _ _ _ hrun hP hD hK hS (lv_sub hl [1, 2, 3, 4, 5, 6, 0] rfl) hk88
  obtain ⟨o88, hc88, hrun⟩ := bnd9 hrun
  refine L88 NF (o21.2.1) (o21.2.2.2.2.1) o88 _ _ _ hc88 hP hD hK hS (lv_sub hl [1, 2, 3, 4, 5, 6, 0] rfl) ?_
  intro H locs ls hP hD hK hS hl
  have hl := hl
  refine lv_aload_n hx hb dX7_readCall_111 rfl (lv_at hl 0 rfl) ?_
  refine lv_lload_n hx hb dX7_readCall_112 rfl (lv_at hl 1 rfl) ?_
  refine lv_iload_n hx hb dX7_readCall_113 rfl (lv_at hl 2 rfl) ?_
  refine lv_iload hx hb dX7_readCall_114 (lv_at hl 5 rfl) ?_
  obtain ⟨o_12, hc_12, hrun⟩ := bnd9 hrun
  have hPx : va_P (dC, dI) cls ((List.flatten ([(oX7 (p0a 0) p0a p0k (o_9.1) (o21.2.2.2.1)), (oX6 (p0a 3) p0_2a p0_2k o88 p0_2l)] : List va_W)) ++ (List.flatten ([(oX10 (p0a 2) p0_1a p0_1k (o_9.2.1) (o_9.2.2))] : List va_W))) H := vP_fa (vP_perm hP (bP (List.Perm.refl _)))
  have hDx : va_D A ((List.flatten ([(oX7 (p0a 0) p0a p0k (o_9.1) (o21.2.2.2.1)), (oX6 (p0a 3) p0_2a p0_2k o88 p0_2l)] : List va_W)) ++ (List.flatten ([(oX10 (p0a 2) p0_1a p0_1k (o_9.2.1) (o_9.2.2))] : List va_W))) := vD_fa (vD_perm hD (bP (List.Perm.refl _)))
  have hKx : va_K (dC, dI) cls ((List.flatten ([(tX7 p0k), (tX6 p0_2k)] : List (List (ClassId × FieldType)))) ++ (List.flatten ([(tX10 p0_1k)] : List (List (ClassId × FieldType))))) s := vK_fa (vK_perm hK (bP (List.Perm.refl _)))
  have hPc := vP_l hPx
  have hDc := vD_l hDx
  have hKc := vK_l hKx
  have hFc := vfree hDx hS hA
  refine va_callv (va_runV (As := [.long p1, .int p2, .int (o21.2.1)]) (rest := []) ⟨hx, hb, hml, hown, hts⟩ (kX7_noteCall l dC dI (p0a := p0a) (p0k := p0k) (p0w := (o_9.1)) (p0l := (o21.2.2.2.1)) (p1 := p1) (p2 := p2) (p3 := (o21.2.1)) (p0_2a := p0_2a) (p0_2k := p0_2k) (p0_2w := o88) (p0_2l := p0_2l) (sz := _) (o := o_12) (hrun := hc_12)) (cwV 3 hts (gi_V qw1462 qw1463 qw1464 qw65 (gi_z qw1461)) rfl rfl rfl (by decide +kernel) ⟨rmF (Nat.le_of_ble_eq_true rfl), rmL (Nat.le_of_ble_eq_true rfl)⟩) ⟨PRE.blind, va_recv hKc hPc (ci := 1) (q0 := 0) rfl rfl, PRE.of hE hS hFc hPc hKc hDc⟩ rfl rfl hl.1 rfl (lv_room (Nat.le_of_ble_eq_true rfl)) dX7_readCall_116 ⟨(Nat.le_of_ble_eq_true rfl), (Nat.le_of_ble_eq_true rfl)⟩) hS (fun q _ h => hFc q h) hFc (fun u t H locs ht hvm hw hB hz1 hk1 hS => ?_)
  obtain ⟨b1, b2, b3⟩ := hB
  rw [ht] at b1
  obtain ⟨hP, hD, hK⟩ := JOINC (wc := (List.flatten ([(oX7 (p0a 0) p0a p0k (o_9.1) (o21.2.2.2.1)), (oX6 (p0a 3) p0_2a p0_2k o88 p0_2l)] : List va_W))) (wr := (List.flatten ([(oX10 (p0a 2) p0_1a p0_1k (o_9.2.1) (o_9.2.2))] : List va_W))) (w1 := (List.flatten ([(oX7 (p0a 0) p0a p0k (o_12.1) (o_12.2)), (oX6 (p0a 3) p0_2a p0_2k o88 p0_2l)] : List va_W))) (t1 := (List.flatten ([(tX7 p0k), (tX6 p0_2k)] : List (List (ClassId × FieldType))))) hPx hDx hKx hk1 hFc b1 (va_K.moved hvm.symm b2) b3
  have hP : va_P (dC, dI) cls (List.flatten ([(oX7 (p0a 0) p0a p0k (o_12.1) (o_12.2)), (oX6 (p0a 3) p0_2a p0_2k o88 p0_2l), (oX10 (p0a 2) p0_1a p0_1k (o_9.2.1) (o_9.2.2))] : List va_W)) H := vP_perm (vP_fb hP) (bP (List.Perm.refl _))
  have hD : va_D A (List.flatten ([(oX7 (p0a 0) p0a p0k (o_12.1) (o_12.2)), (oX6 (p0a 3) p0_2a p0_2k o88 p0_2l), (oX10 (p0a 2) p0_1a p0_1k (o_9.2.1) (o_9.2.2))] : List va_W)) := vD_perm (vD_fb hD) (bP (List.Perm.refl _))
  have hK : va_K (dC, dI) cls (List.flatten ([(tX7 p0k), (tX6 p0_2k), (tX10 p0_1k)] : List (List (ClassId × FieldType)))) s := vK_perm (vK_fb hK) (bP (List.Perm.refl _))
  refine lv_aload_n hx hb dX7_readCall_119 rfl (lv_at hl 0 rfl) ?_
  refine va_get (D := (dC, dI)) (ci := 1) (v := .ref (p0a 3)) (C := RX7) (T := TX7) (N := 18) hx hb hts i_X7 hown hK hP 0 rfl rfl 2 (by decide) (hts _ qw26) (fun _ h9 => h9) rfl dX7_readCall_120 ?_
  refine lv_bipush (v := 20) hx hb dX7_readCall_123 (by decide) ?_
  refine lv_iconst (v := 0) hx hb dX7_readCall_125 (by decide) ?_
  refine lv_iconst (v := 0) hx hb dX7_readCall_126 (by decide) ?_
  obtain ⟨o_13, hc_13, hrun⟩ := bnd9 hrun
  have hPx : va_P (dC, dI) cls ((List.flatten ([(oX6 (p0a 3) p0_2a p0_2k o88 p0_2l)] : List va_W)) ++ (List.flatten ([(oX7 (p0a 0) p0a p0k (o_12.1) (o_12.2)), (oX10 (p0a 2) p0_1a p0_1k (o_9.2.1) (o_9.2.2))] : List va_W))) H := vP_fa (vP_perm hP (bP ((((List.Perm.refl _)).cons _).trans (List.Perm.swap _ _ _))))
  have hDx : va_D A ((List.flatten ([(oX6 (p0a 3) p0_2a p0_2k o88 p0_2l)] : List va_W)) ++ (List.flatten ([(oX7 (p0a 0) p0a p0k (o_12.1) (o_12.2)), (oX10 (p0a 2) p0_1a p0_1k (o_9.2.1) (o_9.2.2))] : List va_W))) := vD_fa (vD_perm hD (bP ((((List.Perm.refl _)).cons _).trans (List.Perm.swap _ _ _))))
  have hKx : va_K (dC, dI) cls ((List.flatten ([(tX6 p0_2k)] : List (List (ClassId × FieldType)))) ++ (List.flatten ([(tX7 p0k), (tX10 p0_1k)] : List (List (ClassId × FieldType))))) s := vK_fa (vK_perm hK (bP ((((List.Perm.refl _)).cons _).trans (List.Perm.swap _ _ _))))
  have hPc := vP_l hPx
  have hDc := vD_l hDx
  have hKc := vK_l hKx
  have hFc := vfree hDx hS hA
  refine va_callv (va_runV (As := [.int 20, .int 0, .int 0]) (rest := []) ⟨hx, hb, hml, hown, hts⟩ (kX6_emit l dC dI (p0a := (st0 (p0a 3) p0_2a)) (p0k := p0_2k) (p0w := o88) (p0l := p0_2l) (p1 := 20) (p2 := 0) (p3 := 0) (sz := _) (o := o_13) (hrun := hc_13)) (cwV 3 hts (gi_V qw42 qw43 qw44 qw33 (gi_z qw41)) rfl rfl rfl (by decide +kernel) ⟨rmF (Nat.le_of_ble_eq_true rfl), rmL (Nat.le_of_ble_eq_true rfl)⟩) ⟨PRE.blind, va_recv hKc hPc (ci := 2) (q0 := 0) rfl rfl, PRE.of hE hS hFc hPc hKc hDc⟩ rfl rfl hl.1 rfl (lv_room (Nat.le_of_ble_eq_true rfl)) dX7_readCall_127 ⟨(Nat.le_of_ble_eq_true rfl), (Nat.le_of_ble_eq_true rfl)⟩) hS (fun q _ h => hFc q h) hFc (fun u t H locs ht hvm hw hB hz1 hk1 hS => ?_)
  obtain ⟨b1, b2, b3⟩ := hB
  rw [ht] at b1
  obtain ⟨hP, hD, hK⟩ := JOINC (wc := (List.flatten ([(oX6 (p0a 3) p0_2a p0_2k o88 p0_2l)] : List va_W))) (wr := (List.flatten ([(oX7 (p0a 0) p0a p0k (o_12.1) (o_12.2)), (oX10 (p0a 2) p0_1a p0_1k (o_9.2.1) (o_9.2.2))] : List va_W))) (w1 := (List.flatten ([(oX6 (p0a 3) p0_2a p0_2k o_13 p0_2l)] : List va_W))) (t1 := (List.flatten ([(tX6 p0_2k)] : List (List (ClassId × FieldType))))) hPx hDx hKx hk1 hFc b1 (va_K.moved hvm.symm b2) b3
  have hP : va_P (dC, dI) cls (List.flatten ([(oX7 (p0a 0) p0a p0k (o_12.1) (o_12.2)), (oX6 (p0a 3) p0_2a p0_2k o_13 p0_2l), (oX10 (p0a 2) p0_1a p0_1k (o_9.2.1) (o_9.2.2))] : List va_W)) H := vP_perm (vP_fb hP) (bP ((((List.Perm.refl _)).cons _).trans (List.Perm.swap _ _ _)))
  have hD : va_D A (List.flatten ([(oX7 (p0a 0) p0a p0k (o_12.1) (o_12.2)), (oX6 (p0a 3) p0_2a p0_2k o_13 p0_2l), (oX10 (p0a 2) p0_1a p0_1k (o_9.2.1) (o_9.2.2))] : List va_W)) := vD_perm (vD_fb hD) (bP ((((List.Perm.refl _)).cons _).trans (List.Perm.swap _ _ _)))
  have hK : va_K (dC, dI) cls (List.flatten ([(tX7 p0k), (tX6 p0_2k), (tX10 p0_1k)] : List (List (ClassId × FieldType)))) s := vK_perm (vK_fb hK) (bP ((((List.Perm.refl _)).cons _).trans (List.Perm.swap _ _ _)))
  refine lv_aload_n hx hb dX7_readCall_130 rfl (lv_at hl 0 rfl) ?_
  refine va_get (D := (dC, dI)) (ci := 1) (v := .ref (p0a 3)) (C := RX7) (T := TX7) (N := 18) hx hb hts i_X7 hown hK hP 0 rfl rfl 2 (by decide) (hts _ qw26) (fun _ h9 => h9) rfl dX7_readCall_131 ?_
  refine lv_iload hx hb dX7_readCall_134 (lv_at hl 3 rfl) ?_
  obtain ⟨o_14, hc_14, hrun⟩ := bnd9 hrun
  have hPx : va_P (dC, dI) cls ((List.flatten ([(oX6 (p0a 3) p0_2a p0_2k o_13 p0_2l)] : List va_W)) ++ (List.flatten ([(oX7 (p0a 0) p0a p0k (o_12.1) (o_12.2)), (oX10 (p0a 2) p0_1a p0_1k (o_9.2.1) (o_9.2.2))] : List va_W))) H := vP_fa (vP_perm hP (bP ((((List.Perm.refl _)).cons _).trans (List.Perm.swap _ _ _))))
  have hDx : va_D A ((List.flatten ([(oX6 (p0a 3) p0_2a p0_2k o_13 p0_2l)] : List va_W)) ++ (List.flatten ([(oX7 (p0a 0) p0a p0k (o_12.1) (o_12.2)), (oX10 (p0a 2) p0_1a p0_1k (o_9.2.1) (o_9.2.2))] : List va_W))) := vD_fa (vD_perm hD (bP ((((List.Perm.refl _)).cons _).trans (List.Perm.swap _ _ _))))
  have hKx : va_K (dC, dI) cls ((List.flatten ([(tX6 p0_2k)] : List (List (ClassId × FieldType)))) ++ (List.flatten ([(tX7 p0k), (tX10 p0_1k)] : List (List (ClassId × FieldType))))) s := vK_fa (vK_perm hK (bP ((((List.Perm.refl _)).cons _).trans (List.Perm.swap _ _ _))))
  have hPc := vP_l hPx
  have hDc := vD_l hDx
  have hKc := vK_l hKx
  have hFc := vfree hDx hS hA
  refine va_callv (va_runV (As := [.int (p0_2w 0 7)]) (rest := []) ⟨hx, hb, hml, hown, hts⟩ (kX6_tick l dC dI (p0a := (st0 (p0a 3) p0_2a)) (p0k := p0_2k) (p0w := o_13) (p0l := p0_2l) (p1 := (p0_2w 0 7)) (sz := _) (o := o_14) (hrun := hc_14)) (cwV 1 hts (gi_V qw1402 qw1403 qw1404 qw33 (gi_z qw1401)) rfl rfl rfl (by decide +kernel) ⟨rmF (Nat.le_of_ble_eq_true rfl), rmL (Nat.le_of_ble_eq_true rfl)⟩) ⟨PRE.blind, va_recv hKc hPc (ci := 2) (q0 := 0) rfl rfl, PRE.of hE hS hFc hPc hKc hDc⟩ rfl rfl hl.1 rfl (lv_room (Nat.le_of_ble_eq_true rfl)) dX7_readCall_136 ⟨(Nat.le_of_ble_eq_true rfl), (Nat.le_of_ble_eq_true rfl)⟩) hS (fun q _ h => hFc q h) hFc (fun u t H locs ht hvm hw hB hz1 hk1 hS => ?_)
  obtain ⟨b1, b2, b3⟩ := hB
  rw [ht] at b1
  obtain ⟨hP, hD, hK⟩ := JOINC (wc := (List.flatten ([(oX6 (p0a 3) p0_2a p0_2k o_13 p0_2l)] : List va_W))) (wr := (List.flatten ([(oX7 (p0a 0) p0a p0k (o_12.1) (o_12.2)), (oX10 (p0a 2) p0_1a p0_1k (o_9.2.1) (o_9.2.2))] : List va_W))) (w1 := (List.flatten ([(oX6 (p0a 3) p0_2a p0_2k o_14 p0_2l)] : List va_W))) (t1 := (List.flatten ([(tX6 p0_2k)] : List (List (ClassId × FieldType))))) hPx hDx hKx hk1 hFc b1 (va_K.moved hvm.symm b2) b3
  have hP : va_P (dC, dI) cls (List.flatten ([(oX7 (p0a 0) p0a p0k (o_12.1) (o_12.2)), (oX6 (p0a 3) p0_2a p0_2k o_14 p0_2l), (oX10 (p0a 2) p0_1a p0_1k (o_9.2.1) (o_9.2.2))] : List va_W)) H := vP_perm (vP_fb hP) (bP ((((List.Perm.refl _)).cons _).trans (List.Perm.swap _ _ _)))
  have hD : va_D A (List.flatten ([(oX7 (p0a 0) p0a p0k (o_12.1) (o_12.2)), (oX6 (p0a 3) p0_2a p0_2k o_14 p0_2l), (oX10 (p0a 2) p0_1a p0_1k (o_9.2.1) (o_9.2.2))] : List va_W)) := vD_perm (vD_fb hD) (bP ((((List.Perm.refl _)).cons _).trans (List.Perm.swap _ _ _)))
  have hK : va_K (dC, dI) cls (List.flatten ([(tX7 p0k), (tX6 p0_2k), (tX10 p0_1k)] : List (List (ClassId × FieldType)))) s := vK_perm (vK_fb hK) (bP ((((List.Perm.refl _)).cons _).trans (List.Perm.swap _ _ _)))
  refine lv_aload_n hx hb dX7_readCall_139 rfl (lv_at hl 0 rfl) ?_
  refine lv_iload hx hb dX7_readCall_140 (lv_at hl 4 rfl) ?_
  refine lv_iload_n hx hb dX7_readCall_142 rfl (lv_at hl 2 rfl) ?_
  obtain ⟨o_15, hc_15, hrun⟩ := bnd9 hrun
  have hPx : va_P (dC, dI) cls ((List.flatten ([(oX7 (p0a 0) p0a p0k (o_12.1) (o_12.2))] : List va_W)) ++ (List.flatten ([(oX6 (p0a 3) p0_2a p0_2k o_14 p0_2l), (oX10 (p0a 2) p0_1a p0_1k (o_9.2.1) (o_9.2.2))] : List va_W))) H := vP_fa (vP_perm hP (bP (List.Perm.refl _)))
  have hDx : va_D A ((List.flatten ([(oX7 (p0a 0) p0a p0k (o_12.1) (o_12.2))] : List va_W)) ++ (List.flatten ([(oX6 (p0a 3) p0_2a p0_2k o_14 p0_2l), (oX10 (p0a 2) p0_1a p0_1k (o_9.2.1) (o_9.2.2))] : List va_W))) := vD_fa (vD_perm hD (bP (List.Perm.refl _)))
  have hKx : va_K (dC, dI) cls ((List.flatten ([(tX7 p0k)] : List (List (ClassId × FieldType)))) ++ (List.flatten ([(tX6 p0_2k), (tX10 p0_1k)] : List (List (ClassId × FieldType))))) s := vK_fa (vK_perm hK (bP (List.Perm.refl _)))
  have hPc := vP_l hPx
  have hDc := vD_l hDx
  have hKc := vK_l hKx
  have hFc := vfree hDx hS hA
  refine va_calli (va_runV (As := [.int (o21.1), .int p2]) (rest := []) ⟨hx, hb, hml, hown, hts⟩ (kX7_raise l dC dI (p0a := p0a) (p0k := p0k) (p0w := (o_12.1)) (p0l := (o_12.2)) (p1 := (o21.1)) (p2 := p2) (sz := _) (o := o_15) (hrun := hc_15)) (cwV 2 hts (gi_V qw1446 qw1447 qw1448 qw65 (gi_z qw1445)) rfl rfl rfl (by decide +kernel) ⟨rmF (Nat.le_of_ble_eq_true rfl), rmL (Nat.le_of_ble_eq_true rfl)⟩) ⟨PRE.blind, va_recv hKc hPc (ci := 1) (q0 := 0) rfl rfl, PRE.of hE hS hFc hPc hKc hDc⟩ rfl rfl hl.1 rfl (lv_room (Nat.le_of_ble_eq_true rfl)) dX7_readCall_143 ⟨(Nat.le_of_ble_eq_true rfl), (Nat.le_of_ble_eq_true rfl)⟩) hS (fun q _ h => hFc q h) hFc (fun r16 u t H locs ht hvm hw hB hz1 hk1 hS => ?_)
  obtain ⟨b1, b2, b3⟩ := hB
  rw [ht] at b1
  obtain ⟨hP, hD, hK⟩ := JOINC (wc := (List.flatten ([(oX7 (p0a 0) p0a p0k (o_12.1) (o_12.2))] : List va_W))) (wr := (List.flatten ([(oX6 (p0a 3) p0_2a p0_2k o_14 p0_2l), (oX10 (p0a 2) p0_1a p0_1k (o_9.2.1) (o_9.2.2))] : List va_W))) (w1 := (List.flatten ([(oX7 (p0a 0) p0a p0k (o_15.2) (o_12.2))] : List va_W))) (t1 := (List.flatten ([(tX7 p0k)] : List (List (ClassId × FieldType))))) hPx hDx hKx hk1 hFc b1 (va_K.moved hvm.symm b2) b3
  have hP : va_P (dC, dI) cls (List.flatten ([(oX7 (p0a 0) p0a p0k (o_15.2) (o_12.2)), (oX6 (p0a 3) p0_2a p0_2k o_14 p0_2l), (oX10 (p0a 2) p0_1a p0_1k (o_9.2.1) (o_9.2.2))] : List va_W)) H := vP_perm (vP_fb hP) (bP (List.Perm.refl _))
  have hD : va_D A (List.flatten ([(oX7 (p0a 0) p0a p0k (o_15.2) (o_12.2)), (oX6 (p0a 3) p0_2a p0_2k o_14 p0_2l), (oX10 (p0a 2) p0_1a p0_1k (o_9.2.1) (o_9.2.2))] : List va_W)) := vD_perm (vD_fb hD) (bP (List.Perm.refl _))
  have hK : va_K (dC, dI) cls (List.flatten ([(tX7 p0k), (tX6 p0_2k), (tX10 p0_1k)] : List (List (ClassId × FieldType)))) s := vK_perm (vK_fb hK) (bP (List.Perm.refl _))
  obtain rfl : r16 = (o_15.1) := hw
  have ho9 : ((o_15.1), (o_15.2), (o_12.2), o_14, (o_9.2.1), (o_9.2.2)) = o := Option.some.inj hrun
  have hP9 : va_P (dC, dI) cls (List.flatten ([(oX7 (p0a 0) p0a p0k (o.2.1) (o.2.2.1)), (oX6 (p0a 3) p0_2a p0_2k (o.2.2.2.1) p0_2l), (oX10 (p0a 2) p0_1a p0_1k (o.2.2.2.2.1) (o.2.2.2.2.2))] : List va_W)) H := by first | exact hP | (rw [← ho9]; exact hP)
  have hD9 : va_D A (List.flatten ([(oX7 (p0a 0) p0a p0k (o.2.1) (o.2.2.1)), (oX6 (p0a 3) p0_2a p0_2k (o.2.2.2.1) p0_2l), (oX10 (p0a 2) p0_1a p0_1k (o.2.2.2.2.1) (o.2.2.2.2.2))] : List va_W)) := by first | exact hD | (rw [← ho9]; exact hD)
  subst hQ
  exact W.iret (v := (o_15.1)) hx hb hr (fun t ht hW => ⟨⟨(o_15.1), (), rfl, (by rw [← ho9]), ⟨by rw [ht]; exact hP9, va_K.moved hW.alike hK, hD9⟩⟩, hS.F ht⟩) hS.2.2 dX7_readCall_146
set_option maxHeartbeats 16000000 in
set_option maxRecDepth 100000 in
theorem rR_ok (l : Launch) : ∀ D : Nat,
  (∀ {zs : ZS} (dC : Nat → ClassId) (dI : Nat → Nat → Nat) (p0a : Nat → Nat) (p0k : Nat → ClassId) (p0w : ST) (p0l : SL) (aK : Nat → Nat) (aV : Nat → Nat) (p0_2a : Nat → Nat) (p0_2k : Nat → ClassId) (p0_2w : ST) (p0_2l : SL) (p0_1a : Nat → Nat) (p0_1k : Nat → ClassId) (p0_1w : ST) (p0_1l : SL) (sz : Nat) (o : ST × SL × ST × ST × SL) (hrun : ((rR D).1) p0w p0l p0_2w p0_2l p0_1w p0_1l = some o), Met l yX7_readBlock (wz yX7_readBlock cX7_readBlock 3 (Option.none : Option Jvm.ClassFile.FieldType)) ({ frames := 8 * D, cells := 0, slots := 0, locals := 400 * D } : Room) (va_Pc [.ref (p0a 0)] (PRE (zA zs (st9 aK aV)) dC dI (List.flatten ([(oX7 (p0a 0) p0a p0k p0w p0l), (oX6 (p0a 3) p0_2a p0_2k p0_2w p0_2l), (oX10 (p0a 2) p0_1a p0_1k p0_1w p0_1l)] : List va_W)) (List.flatten ([(tX7 p0k), (tX6 p0_2k), (tX10 p0_1k)] : List (List (ClassId × FieldType)))) sz)) (va_Qv (fun (_ : Unit) => True) (fun _ t => POST dC dI (List.flatten ([(oX7 (p0a 0) p0a p0k (o.1) (o.2.1)), (oX6 (p0a 3) p0_2a p0_2k (o.2.2.1) p0_2l), (oX10 (p0a 2) p0_1a p0_1k (o.2.2.2.1) (o.2.2.2.2))] : List va_W)) (List.flatten ([(tX7 p0k), (tX6 p0_2k), (tX10 p0_1k)] : List (List (ClassId × FieldType)))) (va_A (List.flatten ([(oX7 (p0a 0) p0a p0k p0w p0l), (oX6 (p0a 3) p0_2a p0_2k p0_2w p0_2l), (oX10 (p0a 2) p0_1a p0_1k p0_1w p0_1l)] : List va_W)) sz) t) (va_A (List.flatten ([(oX7 (p0a 0) p0a p0k p0w p0l), (oX6 (p0a 3) p0_2a p0_2k p0_2w p0_2l), (oX10 (p0a 2) p0_1a p0_1k p0_1w p0_1l)] : List va_W)) sz)) 0 0 (va_A (List.flatten ([(oX7 (p0a 0) p0a p0k p0w p0l), (oX6 (p0a 3) p0_2a p0_2k p0_2w p0_2l), (oX10 (p0a 2) p0_1a p0_1k p0_1w p0_1l)] : List va_W)) sz)) ∧
  (∀ {zs : ZS} (dC : Nat → ClassId) (dI : Nat → Nat → Nat) (p0a : Nat → Nat) (p0k : Nat → ClassId) (p0w : ST) (p0l : SL) (aK : Nat → Nat) (aV : Nat → Nat) (p0_2a : Nat → Nat) (p0_2k : Nat → ClassId) (p0_2w : ST) (p0_2l : SL) (p0_1a : Nat → Nat) (p0_1k : Nat → ClassId) (p0_1w : ST) (p0_1l : SL) (sz : Nat) (o : ST × SL × ST × ST × SL) (hrun : ((rR D).2.1) p0w p0l p0_2w p0_2l p0_1w p0_1l = some o), Met l yX7_readStatement (wz yX7_readStatement cX7_readStatement 8 (Option.none : Option Jvm.ClassFile.FieldType)) ({ frames := 8 * D, cells := 0, slots := 0, locals := 400 * D } : Room) (va_Pc [.ref (p0a 0)] (PRE (zA zs (st9 aK aV)) dC dI (List.flatten ([(oX7 (p0a 0) p0a p0k p0w p0l), (oX6 (p0a 3) p0_2a p0_2k p0_2w p0_2l), (oX10 (p0a 2) p0_1a p0_1k p0_1w p0_1l)] : List va_W)) (List.flatten ([(tX7 p0k), (tX6 p0_2k), (tX10 p0_1k)] : List (List (ClassId × FieldType)))) sz)) (va_Qv (fun (_ : Unit) => True) (fun _ t => POST dC dI (List.flatten ([(oX7 (p0a 0) p0a p0k (o.1) (o.2.1)), (oX6 (p0a 3) p0_2a p0_2k (o.2.2.1) p0_2l), (oX10 (p0a 2) p0_1a p0_1k (o.2.2.2.1) (o.2.2.2.2))] : List va_W)) (List.flatten ([(tX7 p0k), (tX6 p0_2k), (tX10 p0_1k)] : List (List (ClassId × FieldType)))) (va_A (List.flatten ([(oX7 (p0a 0) p0a p0k p0w p0l), (oX6 (p0a 3) p0_2a p0_2k p0_2w p0_2l), (oX10 (p0a 2) p0_1a p0_1k p0_1w p0_1l)] : List va_W)) sz) t) (va_A (List.flatten ([(oX7 (p0a 0) p0a p0k p0w p0l), (oX6 (p0a 3) p0_2a p0_2k p0_2w p0_2l), (oX10 (p0a 2) p0_1a p0_1k p0_1w p0_1l)] : List va_W)) sz)) 0 0 (va_A (List.flatten ([(oX7 (p0a 0) p0a p0k p0w p0l), (oX6 (p0a 3) p0_2a p0_2k p0_2w p0_2l), (oX10 (p0a 2) p0_1a p0_1k p0_1w p0_1l)] : List va_W)) sz)) ∧
  (∀ {zs : ZS} (dC : Nat → ClassId) (dI : Nat → Nat → Nat) (p0a : Nat → Nat) (p0k : Nat → ClassId) (p0w : ST) (p0l : SL) (aK : Nat → Nat) (aV : Nat → Nat) (p0_2a : Nat → Nat) (p0_2k : Nat → ClassId) (p0_2w : ST) (p0_2l : SL) (p0_1a : Nat → Nat) (p0_1k : Nat → ClassId) (p0_1w : ST) (p0_1l : SL) (sz : Nat) (o : ST × SL × ST × ST × SL) (hrun : ((rR D).2.2.1) p0w p0l p0_2w p0_2l p0_1w p0_1l = some o), Met l yX7_readIf (wz yX7_readIf cX7_readIf 3 (Option.none : Option Jvm.ClassFile.FieldType)) ({ frames := 8 * D, cells := 0, slots := 0, locals := 400 * D } : Room) (va_Pc [.ref (p0a 0)] (PRE (zA zs (st9 aK aV)) dC dI (List.flatten ([(oX7 (p0a 0) p0a p0k p0w p0l), (oX6 (p0a 3) p0_2a p0_2k p0_2w p0_2l), (oX10 (p0a 2) p0_1a p0_1k p0_1w p0_1l)] : List va_W)) (List.flatten ([(tX7 p0k), (tX6 p0_2k), (tX10 p0_1k)] : List (List (ClassId × FieldType)))) sz)) (va_Qv (fun (_ : Unit) => True) (fun _ t => POST dC dI (List.flatten ([(oX7 (p0a 0) p0a p0k (o.1) (o.2.1)), (oX6 (p0a 3) p0_2a p0_2k (o.2.2.1) p0_2l), (oX10 (p0a 2) p0_1a p0_1k (o.2.2.2.1) (o.2.2.2.2))] : List va_W)) (List.flatten ([(tX7 p0k), (tX6 p0_2k), (tX10 p0_1k)] : List (List (ClassId × FieldType)))) (va_A (List.flatten ([(oX7 (p0a 0) p0a p0k p0w p0l), (oX6 (p0a 3) p0_2a p0_2k p0_2w p0_2l), (oX10 (p0a 2) p0_1a p0_1k p0_1w p0_1l)] : List va_W)) sz) t) (va_A (List.flatten ([(oX7 (p0a 0) p0a p0k p0w p0l), (oX6 (p0a 3) p0_2a p0_2k p0_2w p0_2l), (oX10 (p0a 2) p0_1a p0_1k p0_1w p0_1l)] : List va_W)) sz)) 0 0 (va_A (List.flatten ([(oX7 (p0a 0) p0a p0k p0w p0l), (oX6 (p0a 3) p0_2a p0_2k p0_2w p0_2l), (oX10 (p0a 2) p0_1a p0_1k p0_1w p0_1l)] : List va_W)) sz)) ∧
  (∀ {zs : ZS} (dC : Nat → ClassId) (dI : Nat → Nat → Nat) (p0a : Nat → Nat) (p0k : Nat → ClassId) (p0w : ST) (p0l : SL) (aK : Nat → Nat) (aV : Nat → Nat) (p0_2a : Nat → Nat) (p0_2k : Nat → ClassId) (p0_2w : ST) (p0_2l : SL) (p0_1a : Nat → Nat) (p0_1k : Nat → ClassId) (p0_1w : ST) (p0_1l : SL) (sz : Nat) (o : ST × SL × ST × ST × SL) (hrun : ((rR D).2.2.2.1) p0w p0l p0_2w p0_2l p0_1w p0_1l = some o), Met l yX7_readWhile (wz yX7_readWhile cX7_readWhile 3 (Option.none : Option Jvm.ClassFile.FieldType)) ({ frames := 8 * D, cells := 0, slots := 0, locals := 400 * D } : Room) (va_Pc [.ref (p0a 0)] (PRE (zA zs (st9 aK aV)) dC dI (List.flatten ([(oX7 (p0a 0) p0a p0k p0w p0l), (oX6 (p0a 3) p0_2a p0_2k p0_2w p0_2l), (oX10 (p0a 2) p0_1a p0_1k p0_1w p0_1l)] : List va_W)) (List.flatten ([(tX7 p0k), (tX6 p0_2k), (tX10 p0_1k)] : List (List (ClassId × FieldType)))) sz)) (va_Qv (fun (_ : Unit) => True) (fun _ t => POST dC dI (List.flatten ([(oX7 (p0a 0) p0a p0k (o.1) (o.2.1)), (oX6 (p0a 3) p0_2a p0_2k (o.2.2.1) p0_2l), (oX10 (p0a 2) p0_1a p0_1k (o.2.2.2.1) (o.2.2.2.2))] : List va_W)) (List.flatten ([(tX7 p0k), (tX6 p0_2k), (tX10 p0_1k)] : List (List (ClassId × FieldType)))) (va_A (List.flatten ([(oX7 (p0a 0) p0a p0k p0w p0l), (oX6 (p0a 3) p0_2a p0_2k p0_2w p0_2l), (oX10 (p0a 2) p0_1a p0_1k p0_1w p0_1l)] : List va_W)) sz) t) (va_A (List.flatten ([(oX7 (p0a 0) p0a p0k p0w p0l), (oX6 (p0a 3) p0_2a p0_2k p0_2w p0_2l), (oX10 (p0a 2) p0_1a p0_1k p0_1w p0_1l)] : List va_W)) sz)) 0 0 (va_A (List.flatten ([(oX7 (p0a 0) p0a p0k p0w p0l), (oX6 (p0a 3) p0_2a p0_2k p0_2w p0_2l), (oX10 (p0a 2) p0_1a p0_1k p0_1w p0_1l)] : List va_W)) sz)) ∧
  (∀ {zs : ZS} (dC : Nat → ClassId) (dI : Nat → Nat → Nat) (p0a : Nat → Nat) (p0k : Nat → ClassId) (p0w : ST) (p0l : SL) (p1 : Int32) (aK : Nat → Nat) (aV : Nat → Nat) (p0_2a : Nat → Nat) (p0_2k : Nat → ClassId) (p0_2w : ST) (p0_2l : SL) (p0_1a : Nat → Nat) (p0_1k : Nat → ClassId) (p0_1w : ST) (p0_1l : SL) (sz : Nat) (o : Int32 × ST × SL × ST × ST × SL) (hrun : ((rR D).2.2.2.2.1) p0w p0l p1 p0_2w p0_2l p0_1w p0_1l = some o), Met l yX7_readTest (wz yX7_readTest cX7_readTest 8 (Option.some Jvm.ClassFile.FieldType.int)) ({ frames := 8 * D, cells := 0, slots := 0, locals := 400 * D } : Room) (va_Pc [.ref (p0a 0), .int p1] (PRE (zA zs (st9 aK aV)) dC dI (List.flatten ([(oX7 (p0a 0) p0a p0k p0w p0l), (oX6 (p0a 3) p0_2a p0_2k p0_2w p0_2l), (oX10 (p0a 2) p0_1a p0_1k p0_1w p0_1l)] : List va_W)) (List.flatten ([(tX7 p0k), (tX6 p0_2k), (tX10 p0_1k)] : List (List (ClassId × FieldType)))) sz)) (va_Qi (fun (r : Int32) (_ : Unit) => r = (o.1)) (fun _ t => POST dC dI (List.flatten ([(oX7 (p0a 0) p0a p0k (o.2.1) (o.2.2.1)), (oX6 (p0a 3) p0_2a p0_2k (o.2.2.2.1) p0_2l), (oX10 (p0a 2) p0_1a p0_1k (o.2.2.2.2.1) (o.2.2.2.2.2))] : List va_W)) (List.flatten ([(tX7 p0k), (tX6 p0_2k), (tX10 p0_1k)] : List (List (ClassId × FieldType)))) (va_A (List.flatten ([(oX7 (p0a 0) p0a p0k p0w p0l), (oX6 (p0a 3) p0_2a p0_2k p0_2w p0_2l), (oX10 (p0a 2) p0_1a p0_1k p0_1w p0_1l)] : List va_W)) sz) t) (va_A (List.flatten ([(oX7 (p0a 0) p0a p0k p0w p0l), (oX6 (p0a 3) p0_2a p0_2k p0_2w p0_2l), (oX10 (p0a 2) p0_1a p0_1k p0_1w p0_1l)] : List va_W)) sz)) 0 0 (va_A (List.flatten ([(oX7 (p0a 0) p0a p0k p0w p0l), (oX6 (p0a 3) p0_2a p0_2k p0_2w p0_2l), (oX10 (p0a 2) p0_1a p0_1k p0_1w p0_1l)] : List va_W)) sz)) ∧
  (∀ {zs : ZS} (dC : Nat → ClassId) (dI : Nat → Nat → Nat) (p0a : Nat → Nat) (p0k : Nat → ClassId) (p0w : ST) (p0l : SL) (p1 : Int32) (aK : Nat → Nat) (aV : Nat → Nat) (p0_2a : Nat → Nat) (p0_2k : Nat → ClassId) (p0_2w : ST) (p0_2l : SL) (p0_1a : Nat → Nat) (p0_1k : Nat → ClassId) (p0_1w : ST) (p0_1l : SL) (sz : Nat) (o : Int32 × ST × SL × ST × ST × SL) (hrun : ((rR D).2.2.2.2.2.1) p0w p0l p1 p0_2w p0_2l p0_1w p0_1l = some o), Met l yX7_readOperand (wz yX7_readOperand cX7_readOperand 2 (Option.some Jvm.ClassFile.FieldType.int)) ({ frames := 8 * D, cells := 0, slots := 0, locals := 400 * D } : Room) (va_Pc [.ref (p0a 0), .int p1] (PRE (zA zs (st9 aK aV)) dC dI (List.flatten ([(oX7 (p0a 0) p0a p0k p0w p0l), (oX6 (p0a 3) p0_2a p0_2k p0_2w p0_2l), (oX10 (p0a 2) p0_1a p0_1k p0_1w p0_1l)] : List va_W)) (List.flatten ([(tX7 p0k), (tX6 p0_2k), (tX10 p0_1k)] : List (List (ClassId × FieldType)))) sz)) (va_Qi (fun (r : Int32) (_ : Unit) => r = (o.1)) (fun _ t => POST dC dI (List.flatten ([(oX7 (p0a 0) p0a p0k (o.2.1) (o.2.2.1)), (oX6 (p0a 3) p0_2a p0_2k (o.2.2.2.1) p0_2l), (oX10 (p0a 2) p0_1a p0_1k (o.2.2.2.2.1) (o.2.2.2.2.2))] : List va_W)) (List.flatten ([(tX7 p0k), (tX6 p0_2k), (tX10 p0_1k)] : List (List (ClassId × FieldType)))) (va_A (List.flatten ([(oX7 (p0a 0) p0a p0k p0w p0l), (oX6 (p0a 3) p0_2a p0_2k p0_2w p0_2l), (oX10 (p0a 2) p0_1a p0_1k p0_1w p0_1l)] : List va_W)) sz) t) (va_A (List.flatten ([(oX7 (p0a 0) p0a p0k p0w p0l), (oX6 (p0a 3) p0_2a p0_2k p0_2w p0_2l), (oX10 (p0a 2) p0_1a p0_1k p0_1w p0_1l)] : List va_W)) sz)) 0 0 (va_A (List.flatten ([(oX7 (p0a 0) p0a p0k p0w p0l), (oX6 (p0a 3) p0_2a p0_2k p0_2w p0_2l), (oX10 (p0a 2) p0_1a p0_1k p0_1w p0_1l)] : List va_W)) sz)) ∧
  (∀ {zs : ZS} (dC : Nat → ClassId) (dI : Nat → Nat → Nat) (p0a : Nat → Nat) (p0k : Nat → ClassId) (p0w : ST) (p0l : SL) (p1 : Int32) (aK : Nat → Nat) (aV : Nat → Nat) (p0_2a : Nat → Nat) (p0_2k : Nat → ClassId) (p0_2w : ST) (p0_2l : SL) (p0_1a : Nat → Nat) (p0_1k : Nat → ClassId) (p0_1w : ST) (p0_1l : SL) (sz : Nat) (o : Int32 × ST × SL × ST × ST × SL) (hrun : ((rR D).2.2.2.2.2.2.1) p0w p0l p1 p0_2w p0_2l p0_1w p0_1l = some o), Met l yX7_readShortCut (wz yX7_readShortCut cX7_readShortCut 5 (Option.some Jvm.ClassFile.FieldType.int)) ({ frames := 8 * D, cells := 0, slots := 0, locals := 400 * D } : Room) (va_Pc [.ref (p0a 0), .int p1] (PRE (zA zs (st9 aK aV)) dC dI (List.flatten ([(oX7 (p0a 0) p0a p0k p0w p0l), (oX6 (p0a 3) p0_2a p0_2k p0_2w p0_2l), (oX10 (p0a 2) p0_1a p0_1k p0_1w p0_1l)] : List va_W)) (List.flatten ([(tX7 p0k), (tX6 p0_2k), (tX10 p0_1k)] : List (List (ClassId × FieldType)))) sz)) (va_Qi (fun (r : Int32) (_ : Unit) => r = (o.1)) (fun _ t => POST dC dI (List.flatten ([(oX7 (p0a 0) p0a p0k (o.2.1) (o.2.2.1)), (oX6 (p0a 3) p0_2a p0_2k (o.2.2.2.1) p0_2l), (oX10 (p0a 2) p0_1a p0_1k (o.2.2.2.2.1) (o.2.2.2.2.2))] : List va_W)) (List.flatten ([(tX7 p0k), (tX6 p0_2k), (tX10 p0_1k)] : List (List (ClassId × FieldType)))) (va_A (List.flatten ([(oX7 (p0a 0) p0a p0k p0w p0l), (oX6 (p0a 3) p0_2a p0_2k p0_2w p0_2l), (oX10 (p0a 2) p0_1a p0_1k p0_1w p0_1l)] : List va_W)) sz) t) (va_A (List.flatten ([(oX7 (p0a 0) p0a p0k p0w p0l), (oX6 (p0a 3) p0_2a p0_2k p0_2w p0_2l), (oX10 (p0a 2) p0_1a p0_1k p0_1w p0_1l)] : List va_W)) sz)) 0 0 (va_A (List.flatten ([(oX7 (p0a 0) p0a p0k p0w p0l), (oX6 (p0a 3) p0_2a p0_2k p0_2w p0_2l), (oX10 (p0a 2) p0_1a p0_1k p0_1w p0_1l)] : List va_W)) sz)) ∧
  (∀ {zs : ZS} (dC : Nat → ClassId) (dI : Nat → Nat → Nat) (p0a : Nat → Nat) (p0k : Nat → ClassId) (p0w : ST) (p0l : SL) (aK : Nat → Nat) (aV : Nat → Nat) (p0_2a : Nat → Nat) (p0_2k : Nat → ClassId) (p0_2w : ST) (p0_2l : SL) (p0_1a : Nat → Nat) (p0_1k : Nat → ClassId) (p0_1w : ST) (p0_1l : SL) (sz : Nat) (o : Int32 × ST × SL × ST × ST × SL) (hrun : ((rR D).2.2.2.2.2.2.2.1) p0w p0l p0_2w p0_2l p0_1w p0_1l = some o), Met l yX7_readSigned (wz yX7_readSigned cX7_readSigned 5 (Option.some Jvm.ClassFile.FieldType.int)) ({ frames := 8 * D, cells := 0, slots := 0, locals := 400 * D } : Room) (va_Pc [.ref (p0a 0)] (PRE (zA zs (st9 aK aV)) dC dI (List.flatten ([(oX7 (p0a 0) p0a p0k p0w p0l), (oX6 (p0a 3) p0_2a p0_2k p0_2w p0_2l), (oX10 (p0a 2) p0_1a p0_1k p0_1w p0_1l)] : List va_W)) (List.flatten ([(tX7 p0k), (tX6 p0_2k), (tX10 p0_1k)] : List (List (ClassId × FieldType)))) sz)) (va_Qi (fun (r : Int32) (_ : Unit) => r = (o.1)) (fun _ t => POST dC dI (List.flatten ([(oX7 (p0a 0) p0a p0k (o.2.1) (o.2.2.1)), (oX6 (p0a 3) p0_2a p0_2k (o.2.2.2.1) p0_2l), (oX10 (p0a 2) p0_1a p0_1k (o.2.2.2.2.1) (o.2.2.2.2.2))] : List va_W)) (List.flatten ([(tX7 p0k), (tX6 p0_2k), (tX10 p0_1k)] : List (List (ClassId × FieldType)))) (va_A (List.flatten ([(oX7 (p0a 0) p0a p0k p0w p0l), (oX6 (p0a 3) p0_2a p0_2k p0_2w p0_2l), (oX10 (p0a 2) p0_1a p0_1k p0_1w p0_1l)] : List va_W)) sz) t) (va_A (List.flatten ([(oX7 (p0a 0) p0a p0k p0w p0l), (oX6 (p0a 3) p0_2a p0_2k p0_2w p0_2l), (oX10 (p0a 2) p0_1a p0_1k p0_1w p0_1l)] : List va_W)) sz)) 0 0 (va_A (List.flatten ([(oX7 (p0a 0) p0a p0k p0w p0l), (oX6 (p0a 3) p0_2a p0_2k p0_2w p0_2l), (oX10 (p0a 2) p0_1a p0_1k p0_1w p0_1l)] : List va_W)) sz)) ∧
  (∀ {zs : ZS} (dC : Nat → ClassId) (dI : Nat → Nat → Nat) (p0a : Nat → Nat) (p0k : Nat → ClassId) (p0w : ST) (p0l : SL) (aK : Nat → Nat) (aV : Nat → Nat) (p0_2a : Nat → Nat) (p0_2k : Nat → ClassId) (p0_2w : ST) (p0_2l : SL) (p0_1a : Nat → Nat) (p0_1k : Nat → ClassId) (p0_1w : ST) (p0_1l : SL) (sz : Nat) (o : Int32 × ST × SL × ST × ST × SL) (hrun : ((rR D).2.2.2.2.2.2.2.2.1) p0w p0l p0_2w p0_2l p0_1w p0_1l = some o), Met l yX7_readSingle (wz yX7_readSingle cX7_readSingle 5 (Option.some Jvm.ClassFile.FieldType.int)) ({ frames := 8 * D, cells := 0, slots := 0, locals := 400 * D } : Room) (va_Pc [.ref (p0a 0)] (PRE (zA zs (st9 aK aV)) dC dI (List.flatten ([(oX7 (p0a 0) p0a p0k p0w p0l), (oX6 (p0a 3) p0_2a p0_2k p0_2w p0_2l), (oX10 (p0a 2) p0_1a p0_1k p0_1w p0_1l)] : List va_W)) (List.flatten ([(tX7 p0k), (tX6 p0_2k), (tX10 p0_1k)] : List (List (ClassId × FieldType)))) sz)) (va_Qi (fun (r : Int32) (_ : Unit) => r = (o.1)) (fun _ t => POST dC dI (List.flatten ([(oX7 (p0a 0) p0a p0k (o.2.1) (o.2.2.1)), (oX6 (p0a 3) p0_2a p0_2k (o.2.2.2.1) p0_2l), (oX10 (p0a 2) p0_1a p0_1k (o.2.2.2.2.1) (o.2.2.2.2.2))] : List va_W)) (List.flatten ([(tX7 p0k), (tX6 p0_2k), (tX10 p0_1k)] : List (List (ClassId × FieldType)))) (va_A (List.flatten ([(oX7 (p0a 0) p0a p0k p0w p0l), (oX6 (p0a 3) p0_2a p0_2k p0_2w p0_2l), (oX10 (p0a 2) p0_1a p0_1k p0_1w p0_1l)] : List va_W)) sz) t) (va_A (List.flatten ([(oX7 (p0a 0) p0a p0k p0w p0l), (oX6 (p0a 3) p0_2a p0_2k p0_2w p0_2l), (oX10 (p0a 2) p0_1a p0_1k p0_1w p0_1l)] : List va_W)) sz)) 0 0 (va_A (List.flatten ([(oX7 (p0a 0) p0a p0k p0w p0l), (oX6 (p0a 3) p0_2a p0_2k p0_2w p0_2l), (oX10 (p0a 2) p0_1a p0_1k p0_1w p0_1l)] : List va_W)) sz)) ∧
  (∀ {zs : ZS} (dC : Nat → ClassId) (dI : Nat → Nat → Nat) (p0a : Nat → Nat) (p0k : Nat → ClassId) (p0w : ST) (p0l : SL) (p1 : Int64) (p2 : Int32) (aK : Nat → Nat) (aV : Nat → Nat) (p0_2a : Nat → Nat) (p0_2k : Nat → ClassId) (p0_2w : ST) (p0_2l : SL) (p0_1a : Nat → Nat) (p0_1k : Nat → ClassId) (p0_1w : ST) (p0_1l : SL) (sz : Nat) (o : Int32 × ST × SL × ST × ST × SL) (hrun : ((rR D).2.2.2.2.2.2.2.2.2) p0w p0l p1 p2 p0_2w p0_2l p0_1w p0_1l = some o), Met l yX7_readCall (wz yX7_readCall cX7_readCall 8 (Option.some Jvm.ClassFile.FieldType.int)) ({ frames := 8 * D, cells := 0, slots := 0, locals := 400 * D } : Room) (va_Pc [.ref (p0a 0), .long p1, .int p2] (PRE (zA zs (st9 aK aV)) dC dI (List.flatten ([(oX7 (p0a 0) p0a p0k p0w p0l), (oX6 (p0a 3) p0_2a p0_2k p0_2w p0_2l), (oX10 (p0a 2) p0_1a p0_1k p0_1w p0_1l)] : List va_W)) (List.flatten ([(tX7 p0k), (tX6 p0_2k), (tX10 p0_1k)] : List (List (ClassId × FieldType)))) sz)) (va_Qi (fun (r : Int32) (_ : Unit) => r = (o.1)) (fun _ t => POST dC dI (List.flatten ([(oX7 (p0a 0) p0a p0k (o.2.1) (o.2.2.1)), (oX6 (p0a 3) p0_2a p0_2k (o.2.2.2.1) p0_2l), (oX10 (p0a 2) p0_1a p0_1k (o.2.2.2.2.1) (o.2.2.2.2.2))] : List va_W)) (List.flatten ([(tX7 p0k), (tX6 p0_2k), (tX10 p0_1k)] : List (List (ClassId × FieldType)))) (va_A (List.flatten ([(oX7 (p0a 0) p0a p0k p0w p0l), (oX6 (p0a 3) p0_2a p0_2k p0_2w p0_2l), (oX10 (p0a 2) p0_1a p0_1k p0_1w p0_1l)] : List va_W)) sz) t) (va_A (List.flatten ([(oX7 (p0a 0) p0a p0k p0w p0l), (oX6 (p0a 3) p0_2a p0_2k p0_2w p0_2l), (oX10 (p0a 2) p0_1a p0_1k p0_1w p0_1l)] : List va_W)) sz)) 0 0 (va_A (List.flatten ([(oX7 (p0a 0) p0a p0k p0w p0l), (oX6 (p0a 3) p0_2a p0_2k p0_2w p0_2l), (oX10 (p0a 2) p0_1a p0_1k p0_1w p0_1l)] : List va_W)) sz)) := by
  intro D
  induction D with
  | zero => exact ⟨fun {_} _ _ _ _ _ _ _ _ _ _ _ _ _ _ _ _ _ o hrun => (no9 rfl hrun).elim, fun {_} _ _ _ _ _ _ _ _ _ _ _ _ _ _ _ _ _ o hrun => (no9 rfl hrun).elim, fun {_} _ _ _ _ _ _ _ _ _ _ _ _ _ _ _ _ _ o hrun => (no9 rfl hrun).elim, fun {_} _ _ _ _ _ _ _ _ _ _ _ _ _ _ _ _ _ o hrun => (no9 rfl hrun).elim, fun {_} _ _ _ _ _ _ _ _ _ _ _ _ _ _ _ _ _ _ o hrun => (no9 rfl hrun).elim, fun {_} _ _ _ _ _ _ _ _ _ _ _ _ _ _ _ _ _ _ o hrun => (no9 rfl hrun).elim, fun {_} _ _ _ _ _ _ _ _ _ _ _ _ _ _ _ _ _ _ o hrun => (no9 rfl hrun).elim, fun {_} _ _ _ _ _ _ _ _ _ _ _ _ _ _ _ _ _ o hrun => (no9 rfl hrun).elim, fun {_} _ _ _ _ _ _ _ _ _ _ _ _ _ _ _ _ _ o hrun => (no9 rfl hrun).elim, fun {_} _ _ _ _ _ _ _ _ _ _ _ _ _ _ _ _ _ _ _ o hrun => (no9 rfl hrun).elim⟩
  | succ D ih =>
    obtain ⟨ih_readBlock, ih_readStatement, ih_readIf, ih_readWhile, ih_readTest, ih_readOperand, ih_readShortCut, ih_readSigned, ih_readSingle, ih_readCall⟩ := ih
    exact ⟨fun {zs} => kX7_readBlock l ((rR D).2.1) (8 * D) (400 * D) ih_readStatement,
      fun {zs} => kX7_readStatement l ((rR D).2.2.2.2.2.2.2.2.2) ((rR D).2.2.2.2.1) ((rR D).2.2.1) ((rR D).2.2.2.1) (8 * D) (400 * D) ih_readCall ih_readTest ih_readIf ih_readWhile,
      fun {zs} => kX7_readIf l ((rR D).2.2.2.2.1) ((rR D).1) (8 * D) (400 * D) ih_readTest ih_readBlock,
      fun {zs} => kX7_readWhile l ((rR D).2.2.2.2.1) ((rR D).1) (8 * D) (400 * D) ih_readTest ih_readBlock,
      fun {zs} => kX7_readTest l ((rR D).2.2.2.2.2.1) ((rR D).2.2.2.2.2.2.1) (8 * D) (400 * D) ih_readOperand ih_readShortCut,
      fun {zs} => kX7_readOperand l ((rR D).2.2.2.2.2.2.2.1) ((rR D).2.2.2.2.1) (8 * D) (400 * D) ih_readSigned ih_readTest,
      fun {zs} => kX7_readShortCut l ((rR D).2.2.2.2.2.1) (8 * D) (400 * D) ih_readOperand,
      fun {zs} => kX7_readSigned l ((rR D).2.2.2.2.2.2.2.2.1) (8 * D) (400 * D) ih_readSingle,
      fun {zs} => kX7_readSingle l ((rR D).2.2.2.2.2.2.2.2.2) ((rR D).2.2.2.2.1) (8 * D) (400 * D) ih_readCall ih_readTest,
      fun {zs} => kX7_readCall l ((rR D).2.2.2.2.1) (8 * D) (400 * D) ih_readTest⟩
