abbrev cX4_findBorders : ByteArray := prog_6_method_18_code
def yX4_findBorders : MethodName := ⟨RX4, "findBorders", "(LGearbox$Flow;)V"⟩
abbrev cJ7_fill_d0a16 : ByteArray := prog_48_method_101_code
def yJ7_fill_d0a16 : MethodName := ⟨RJ7, "fill", "([JJ)V"⟩
abbrev cX4_isIn : ByteArray := prog_6_method_20_code
def yX4_isIn : MethodName := ⟨RX4, "isIn", "(JI)Z"⟩
abbrev cX4_layBlocks : ByteArray := prog_6_method_10_code
def yX4_layBlocks : MethodName := ⟨RX4, "layBlocks", "(LGearbox$Program;LGearbox$Flow;)Z"⟩
abbrev cX4_reachPieces : ByteArray := prog_6_method_11_code
def yX4_reachPieces : MethodName := ⟨RX4, "reachPieces", "()I"⟩
abbrev cX4_reachOne : ByteArray := prog_6_method_12_code
def yX4_reachOne : MethodName := ⟨RX4, "reachOne", "(II)I"⟩
abbrev cX4_splitWay : ByteArray := prog_6_method_14_code
def yX4_splitWay : MethodName := ⟨RX4, "splitWay", "(LGearbox$Flow;I[I)Z"⟩
abbrev cX4_linkOperands : ByteArray := prog_6_method_6_code
def yX4_linkOperands : MethodName := ⟨RX4, "linkOperands", "(LGearbox$Program;I)V"⟩
abbrev cX11_usesRight : ByteArray := prog_1_method_68_code
def yX11_usesRight : MethodName := ⟨RX11, "usesRight", "(I)Z"⟩
abbrev cX11_isOperator : ByteArray := prog_1_method_65_code
def yX11_isOperator : MethodName := ⟨RX11, "isOperator", "(I)Z"⟩
abbrev cX4_waitingAt : ByteArray := prog_6_method_8_code
def yX4_waitingAt : MethodName := ⟨RX4, "waitingAt", "(I)I"⟩
abbrev cJ9_max_7cf53 : ByteArray := prog_39_method_65_code
def yJ9_max_7cf53 : MethodName := ⟨RJ9, "max", "(II)I"⟩
abbrev cX4_takesOne : ByteArray := prog_6_method_7_code
def yX4_takesOne : MethodName := ⟨RX4, "takesOne", "(I)Z"⟩
theorem dJ7_fill_d0a16_0 : decode cJ7_fill_d0a16 0 = .ok (.iconst 0, 1) := by decide +kernel
theorem dJ7_fill_d0a16_1 : decode cJ7_fill_d0a16 1 = .ok (.istore_n 3, 1) := by decide +kernel
theorem dJ7_fill_d0a16_2 : decode cJ7_fill_d0a16 2 = .ok (.aload_n 0, 1) := by decide +kernel
theorem dJ7_fill_d0a16_3 : decode cJ7_fill_d0a16 3 = .ok (.arraylength, 1) := by decide +kernel
theorem dJ7_fill_d0a16_4 : decode cJ7_fill_d0a16 4 = .ok (.istore 4, 2) := by decide +kernel
theorem dJ7_fill_d0a16_6 : decode cJ7_fill_d0a16 6 = .ok (.iload_n 3, 1) := by decide +kernel
theorem dJ7_fill_d0a16_7 : decode cJ7_fill_d0a16 7 = .ok (.iload 4, 2) := by decide +kernel
theorem dJ7_fill_d0a16_9 : decode cJ7_fill_d0a16 9 = .ok (.if_icmp .ge 13, 3) := by decide +kernel
theorem dJ7_fill_d0a16_12 : decode cJ7_fill_d0a16 12 = .ok (.aload_n 0, 1) := by decide +kernel
theorem dJ7_fill_d0a16_13 : decode cJ7_fill_d0a16 13 = .ok (.iload_n 3, 1) := by decide +kernel
theorem dJ7_fill_d0a16_14 : decode cJ7_fill_d0a16 14 = .ok (.lload_n 1, 1) := by decide +kernel
theorem dJ7_fill_d0a16_15 : decode cJ7_fill_d0a16 15 = .ok (.lastore, 1) := by decide +kernel
theorem dJ7_fill_d0a16_16 : decode cJ7_fill_d0a16 16 = .ok (.iinc 3 1, 3) := by decide +kernel
theorem dJ7_fill_d0a16_19 : decode cJ7_fill_d0a16 19 = .ok (.goto (-13), 3) := by decide +kernel
theorem dJ7_fill_d0a16_22 : decode cJ7_fill_d0a16 22 = .ok (.return_, 1) := by decide +kernel
theorem dX11_isOperator_0 : decode cX11_isOperator 0 = .ok (.iload_n 0, 1) := by decide +kernel
theorem dX11_isOperator_1 : decode cX11_isOperator 1 = .ok (.iconst 1, 1) := by decide +kernel
theorem dX11_isOperator_2 : decode cX11_isOperator 2 = .ok (.if_icmp .lt 13, 3) := by decide +kernel
theorem dX11_isOperator_5 : decode cX11_isOperator 5 = .ok (.iload_n 0, 1) := by decide +kernel
theorem dX11_isOperator_6 : decode cX11_isOperator 6 = .ok (.bipush 16, 2) := by decide +kernel
theorem dX11_isOperator_8 : decode cX11_isOperator 8 = .ok (.if_icmp .gt 7, 3) := by decide +kernel
theorem dX11_isOperator_11 : decode cX11_isOperator 11 = .ok (.iconst 1, 1) := by decide +kernel
theorem dX11_isOperator_12 : decode cX11_isOperator 12 = .ok (.goto 4, 3) := by decide +kernel
theorem dX11_isOperator_15 : decode cX11_isOperator 15 = .ok (.iconst 0, 1) := by decide +kernel
theorem dX11_isOperator_16 : decode cX11_isOperator 16 = .ok (.ireturn, 1) := by decide +kernel
theorem dX11_usesRight_0 : decode cX11_usesRight 0 = .ok (.iload_n 0, 1) := by decide +kernel
theorem dX11_usesRight_1 : decode cX11_usesRight 1 = .ok (.invokestatic 377, 3) := by decide +kernel
theorem dX11_usesRight_4 : decode cX11_usesRight 4 = .ok (.ifCond .ne 9, 3) := by decide +kernel
theorem dX11_usesRight_7 : decode cX11_usesRight 7 = .ok (.iload_n 0, 1) := by decide +kernel
theorem dX11_usesRight_8 : decode cX11_usesRight 8 = .ok (.bipush 18, 2) := by decide +kernel
theorem dX11_usesRight_10 : decode cX11_usesRight 10 = .ok (.if_icmp .ne 7, 3) := by decide +kernel
theorem dX11_usesRight_13 : decode cX11_usesRight 13 = .ok (.iconst 1, 1) := by decide +kernel
theorem dX11_usesRight_14 : decode cX11_usesRight 14 = .ok (.goto 4, 3) := by decide +kernel
theorem dX11_usesRight_17 : decode cX11_usesRight 17 = .ok (.iconst 0, 1) := by decide +kernel
theorem dX11_usesRight_18 : decode cX11_usesRight 18 = .ok (.ireturn, 1) := by decide +kernel
theorem dX4_findBorders_0 : decode cX4_findBorders 0 = .ok (.aload_n 0, 1) := by decide +kernel
theorem dX4_findBorders_1 : decode cX4_findBorders 1 = .ok (.getfield 58, 3) := by decide +kernel
theorem dX4_findBorders_4 : decode cX4_findBorders 4 = .ok (.lconst 0, 1) := by decide +kernel
theorem dX4_findBorders_5 : decode cX4_findBorders 5 = .ok (.invokestatic 205, 3) := by decide +kernel
theorem dX4_findBorders_8 : decode cX4_findBorders 8 = .ok (.iconst 0, 1) := by decide +kernel
theorem dX4_findBorders_9 : decode cX4_findBorders 9 = .ok (.istore_n 2, 1) := by decide +kernel
theorem dX4_findBorders_10 : decode cX4_findBorders 10 = .ok (.iload_n 2, 1) := by decide +kernel
theorem dX4_findBorders_11 : decode cX4_findBorders 11 = .ok (.aload_n 1, 1) := by decide +kernel
theorem dX4_findBorders_12 : decode cX4_findBorders 12 = .ok (.getfield 87, 3) := by decide +kernel
theorem dX4_findBorders_15 : decode cX4_findBorders 15 = .ok (.if_icmp .ge 100, 3) := by decide +kernel
theorem dX4_findBorders_18 : decode cX4_findBorders 18 = .ok (.iconst 0, 1) := by decide +kernel
theorem dX4_findBorders_19 : decode cX4_findBorders 19 = .ok (.istore_n 3, 1) := by decide +kernel
theorem dX4_findBorders_20 : decode cX4_findBorders 20 = .ok (.iload_n 3, 1) := by decide +kernel
theorem dX4_findBorders_21 : decode cX4_findBorders 21 = .ok (.aload_n 1, 1) := by decide +kernel
theorem dX4_findBorders_22 : decode cX4_findBorders 22 = .ok (.iload_n 2, 1) := by decide +kernel
theorem dX4_findBorders_23 : decode cX4_findBorders 23 = .ok (.invokevirtual 218, 3) := by decide +kernel
theorem dX4_findBorders_26 : decode cX4_findBorders 26 = .ok (.if_icmp .ge 83, 3) := by decide +kernel
theorem dX4_findBorders_29 : decode cX4_findBorders 29 = .ok (.aload_n 1, 1) := by decide +kernel
theorem dX4_findBorders_30 : decode cX4_findBorders 30 = .ok (.getfield 221, 3) := by decide +kernel
theorem dX4_findBorders_33 : decode cX4_findBorders 33 = .ok (.aload_n 1, 1) := by decide +kernel
theorem dX4_findBorders_34 : decode cX4_findBorders 34 = .ok (.iload_n 2, 1) := by decide +kernel
theorem dX4_findBorders_35 : decode cX4_findBorders 35 = .ok (.iload_n 3, 1) := by decide +kernel
theorem dX4_findBorders_36 : decode cX4_findBorders 36 = .ok (.invokevirtual 224, 3) := by decide +kernel
theorem dX4_findBorders_39 : decode cX4_findBorders 39 = .ok (.laload, 1) := by decide +kernel
theorem dX4_findBorders_40 : decode cX4_findBorders 40 = .ok (.lstore 4, 2) := by decide +kernel
theorem dX4_findBorders_42 : decode cX4_findBorders 42 = .ok (.iconst 0, 1) := by decide +kernel
theorem dX4_findBorders_43 : decode cX4_findBorders 43 = .ok (.istore 6, 2) := by decide +kernel
theorem dX4_findBorders_45 : decode cX4_findBorders 45 = .ok (.iload 6, 2) := by decide +kernel
theorem dX4_findBorders_47 : decode cX4_findBorders 47 = .ok (.aload_n 1, 1) := by decide +kernel
theorem dX4_findBorders_48 : decode cX4_findBorders 48 = .ok (.getfield 87, 3) := by decide +kernel
theorem dX4_findBorders_51 : decode cX4_findBorders 51 = .ok (.if_icmp .ge 52, 3) := by decide +kernel
theorem dX4_findBorders_54 : decode cX4_findBorders 54 = .ok (.lload 4, 2) := by decide +kernel
theorem dX4_findBorders_56 : decode cX4_findBorders 56 = .ok (.iload 6, 2) := by decide +kernel
theorem dX4_findBorders_58 : decode cX4_findBorders 58 = .ok (.invokestatic 214, 3) := by decide +kernel
theorem dX4_findBorders_61 : decode cX4_findBorders 61 = .ok (.ifCond .eq 36, 3) := by decide +kernel
theorem dX4_findBorders_64 : decode cX4_findBorders 64 = .ok (.iload 6, 2) := by decide +kernel
theorem dX4_findBorders_66 : decode cX4_findBorders 66 = .ok (.iload_n 2, 1) := by decide +kernel
theorem dX4_findBorders_67 : decode cX4_findBorders 67 = .ok (.if_icmp .eq 17, 3) := by decide +kernel
theorem dX4_findBorders_70 : decode cX4_findBorders 70 = .ok (.aload_n 1, 1) := by decide +kernel
theorem dX4_findBorders_71 : decode cX4_findBorders 71 = .ok (.getfield 221, 3) := by decide +kernel
theorem dX4_findBorders_74 : decode cX4_findBorders 74 = .ok (.iload_n 2, 1) := by decide +kernel
theorem dX4_findBorders_75 : decode cX4_findBorders 75 = .ok (.laload, 1) := by decide +kernel
theorem dX4_findBorders_76 : decode cX4_findBorders 76 = .ok (.iload 6, 2) := by decide +kernel
theorem dX4_findBorders_78 : decode cX4_findBorders 78 = .ok (.invokestatic 214, 3) := by decide +kernel
theorem dX4_findBorders_81 : decode cX4_findBorders 81 = .ok (.ifCond .ne 16, 3) := by decide +kernel
theorem dX4_findBorders_84 : decode cX4_findBorders 84 = .ok (.aload_n 0, 1) := by decide +kernel
theorem dX4_findBorders_85 : decode cX4_findBorders 85 = .ok (.getfield 58, 3) := by decide +kernel
theorem dX4_findBorders_88 : decode cX4_findBorders 88 = .ok (.iload 6, 2) := by decide +kernel
theorem dX4_findBorders_90 : decode cX4_findBorders 90 = .ok (.dup2, 1) := by decide +kernel
theorem dX4_findBorders_91 : decode cX4_findBorders 91 = .ok (.laload, 1) := by decide +kernel
theorem dX4_findBorders_92 : decode cX4_findBorders 92 = .ok (.lconst 1, 1) := by decide +kernel
theorem dX4_findBorders_93 : decode cX4_findBorders 93 = .ok (.iload_n 2, 1) := by decide +kernel
theorem dX4_findBorders_94 : decode cX4_findBorders 94 = .ok (.lshl, 1) := by decide +kernel
theorem dX4_findBorders_95 : decode cX4_findBorders 95 = .ok (.lor, 1) := by decide +kernel
theorem dX4_findBorders_96 : decode cX4_findBorders 96 = .ok (.lastore, 1) := by decide +kernel
theorem dX4_findBorders_97 : decode cX4_findBorders 97 = .ok (.iinc 6 1, 3) := by decide +kernel
theorem dX4_findBorders_100 : decode cX4_findBorders 100 = .ok (.goto (-55), 3) := by decide +kernel
theorem dX4_findBorders_103 : decode cX4_findBorders 103 = .ok (.iinc 3 1, 3) := by decide +kernel
theorem dX4_findBorders_106 : decode cX4_findBorders 106 = .ok (.goto (-86), 3) := by decide +kernel
theorem dX4_findBorders_109 : decode cX4_findBorders 109 = .ok (.iinc 2 1, 3) := by decide +kernel
theorem dX4_findBorders_112 : decode cX4_findBorders 112 = .ok (.goto (-102), 3) := by decide +kernel
theorem dX4_findBorders_115 : decode cX4_findBorders 115 = .ok (.return_, 1) := by decide +kernel
theorem dX4_isIn_0 : decode cX4_isIn 0 = .ok (.iload_n 2, 1) := by decide +kernel
theorem dX4_isIn_1 : decode cX4_isIn 1 = .ok (.ifCond .lt 15, 3) := by decide +kernel
theorem dX4_isIn_4 : decode cX4_isIn 4 = .ok (.lload_n 0, 1) := by decide +kernel
theorem dX4_isIn_5 : decode cX4_isIn 5 = .ok (.iload_n 2, 1) := by decide +kernel
theorem dX4_isIn_6 : decode cX4_isIn 6 = .ok (.invokestatic 214, 3) := by decide +kernel
theorem dX4_isIn_9 : decode cX4_isIn 9 = .ok (.ifCond .eq 7, 3) := by decide +kernel
theorem dX4_isIn_12 : decode cX4_isIn 12 = .ok (.iconst 1, 1) := by decide +kernel
theorem dX4_isIn_13 : decode cX4_isIn 13 = .ok (.goto 4, 3) := by decide +kernel
theorem dX4_isIn_16 : decode cX4_isIn 16 = .ok (.iconst 0, 1) := by decide +kernel
theorem dX4_isIn_17 : decode cX4_isIn 17 = .ok (.ireturn, 1) := by decide +kernel
theorem dX4_layBlocks_0 : decode cX4_layBlocks 0 = .ok (.aload_n 0, 1) := by decide +kernel
theorem dX4_layBlocks_1 : decode cX4_layBlocks 1 = .ok (.invokevirtual 172, 3) := by decide +kernel
theorem dX4_layBlocks_4 : decode cX4_layBlocks 4 = .ok (.istore_n 3, 1) := by decide +kernel
theorem dX4_layBlocks_5 : decode cX4_layBlocks 5 = .ok (.iload_n 3, 1) := by decide +kernel
theorem dX4_layBlocks_6 : decode cX4_layBlocks 6 = .ok (.bipush 60, 2) := by decide +kernel
theorem dX4_layBlocks_8 : decode cX4_layBlocks 8 = .ok (.if_icmp .le 5, 3) := by decide +kernel
theorem dX4_layBlocks_11 : decode cX4_layBlocks 11 = .ok (.iconst 0, 1) := by decide +kernel
theorem dX4_layBlocks_12 : decode cX4_layBlocks 12 = .ok (.ireturn, 1) := by decide +kernel
theorem dX4_layBlocks_13 : decode cX4_layBlocks 13 = .ok (.iconst 0, 1) := by decide +kernel
theorem dX4_layBlocks_14 : decode cX4_layBlocks 14 = .ok (.istore 4, 2) := by decide +kernel
theorem dX4_layBlocks_16 : decode cX4_layBlocks 16 = .ok (.iload 4, 2) := by decide +kernel
theorem dX4_layBlocks_18 : decode cX4_layBlocks 18 = .ok (.iload_n 3, 1) := by decide +kernel
theorem dX4_layBlocks_19 : decode cX4_layBlocks 19 = .ok (.if_icmp .ge 91, 3) := by decide +kernel
theorem dX4_layBlocks_22 : decode cX4_layBlocks 22 = .ok (.aload_n 0, 1) := by decide +kernel
theorem dX4_layBlocks_23 : decode cX4_layBlocks 23 = .ok (.getfield 45, 3) := by decide +kernel
theorem dX4_layBlocks_26 : decode cX4_layBlocks 26 = .ok (.iload 4, 2) := by decide +kernel
theorem dX4_layBlocks_28 : decode cX4_layBlocks 28 = .ok (.iaload, 1) := by decide +kernel
theorem dX4_layBlocks_29 : decode cX4_layBlocks 29 = .ok (.istore 5, 2) := by decide +kernel
theorem dX4_layBlocks_31 : decode cX4_layBlocks 31 = .ok (.aload_n 0, 1) := by decide +kernel
theorem dX4_layBlocks_32 : decode cX4_layBlocks 32 = .ok (.getfield 33, 3) := by decide +kernel
theorem dX4_layBlocks_35 : decode cX4_layBlocks 35 = .ok (.iload 5, 2) := by decide +kernel
theorem dX4_layBlocks_37 : decode cX4_layBlocks 37 = .ok (.iaload, 1) := by decide +kernel
theorem dX4_layBlocks_38 : decode cX4_layBlocks 38 = .ok (.ifCond .lt 8, 3) := by decide +kernel
theorem dX4_layBlocks_41 : decode cX4_layBlocks 41 = .ok (.bipush 23, 2) := by decide +kernel
theorem dX4_layBlocks_43 : decode cX4_layBlocks 43 = .ok (.goto 20, 3) := by decide +kernel
theorem dX4_layBlocks_46 : decode cX4_layBlocks 46 = .ok (.aload_n 0, 1) := by decide +kernel
theorem dX4_layBlocks_47 : decode cX4_layBlocks 47 = .ok (.getfield 30, 3) := by decide +kernel
theorem dX4_layBlocks_50 : decode cX4_layBlocks 50 = .ok (.iload 5, 2) := by decide +kernel
theorem dX4_layBlocks_52 : decode cX4_layBlocks 52 = .ok (.iaload, 1) := by decide +kernel
theorem dX4_layBlocks_53 : decode cX4_layBlocks 53 = .ok (.ifCond .lt 8, 3) := by decide +kernel
theorem dX4_layBlocks_56 : decode cX4_layBlocks 56 = .ok (.bipush 22, 2) := by decide +kernel
theorem dX4_layBlocks_58 : decode cX4_layBlocks 58 = .ok (.goto 5, 3) := by decide +kernel
theorem dX4_layBlocks_61 : decode cX4_layBlocks 61 = .ok (.bipush 24, 2) := by decide +kernel
theorem dX4_layBlocks_63 : decode cX4_layBlocks 63 = .ok (.istore 6, 2) := by decide +kernel
theorem dX4_layBlocks_65 : decode cX4_layBlocks 65 = .ok (.aload_n 0, 1) := by decide +kernel
theorem dX4_layBlocks_66 : decode cX4_layBlocks 66 = .ok (.getfield 48, 3) := by decide +kernel
theorem dX4_layBlocks_69 : decode cX4_layBlocks 69 = .ok (.iload 4, 2) := by decide +kernel
theorem dX4_layBlocks_71 : decode cX4_layBlocks 71 = .ok (.iload 5, 2) := by decide +kernel
theorem dX4_layBlocks_73 : decode cX4_layBlocks 73 = .ok (.iastore, 1) := by decide +kernel
theorem dX4_layBlocks_74 : decode cX4_layBlocks 74 = .ok (.aload_n 2, 1) := by decide +kernel
theorem dX4_layBlocks_75 : decode cX4_layBlocks 75 = .ok (.iload 6, 2) := by decide +kernel
theorem dX4_layBlocks_77 : decode cX4_layBlocks 77 = .ok (.iconst (-1), 1) := by decide +kernel
theorem dX4_layBlocks_78 : decode cX4_layBlocks 78 = .ok (.aload_n 0, 1) := by decide +kernel
theorem dX4_layBlocks_79 : decode cX4_layBlocks 79 = .ok (.aload_n 0, 1) := by decide +kernel
theorem dX4_layBlocks_80 : decode cX4_layBlocks 80 = .ok (.getfield 30, 3) := by decide +kernel
theorem dX4_layBlocks_83 : decode cX4_layBlocks 83 = .ok (.iload 5, 2) := by decide +kernel
theorem dX4_layBlocks_85 : decode cX4_layBlocks 85 = .ok (.iaload, 1) := by decide +kernel
theorem dX4_layBlocks_86 : decode cX4_layBlocks 86 = .ok (.invokevirtual 176, 3) := by decide +kernel
theorem dX4_layBlocks_89 : decode cX4_layBlocks 89 = .ok (.aload_n 0, 1) := by decide +kernel
theorem dX4_layBlocks_90 : decode cX4_layBlocks 90 = .ok (.aload_n 0, 1) := by decide +kernel
theorem dX4_layBlocks_91 : decode cX4_layBlocks 91 = .ok (.getfield 33, 3) := by decide +kernel
theorem dX4_layBlocks_94 : decode cX4_layBlocks 94 = .ok (.iload 5, 2) := by decide +kernel
theorem dX4_layBlocks_96 : decode cX4_layBlocks 96 = .ok (.iaload, 1) := by decide +kernel
theorem dX4_layBlocks_97 : decode cX4_layBlocks 97 = .ok (.invokevirtual 176, 3) := by decide +kernel
theorem dX4_layBlocks_100 : decode cX4_layBlocks 100 = .ok (.invokevirtual 179, 3) := by decide +kernel
theorem dX4_layBlocks_103 : decode cX4_layBlocks 103 = .ok (.pop, 1) := by decide +kernel
theorem dX4_layBlocks_104 : decode cX4_layBlocks 104 = .ok (.iinc 4 1, 3) := by decide +kernel
theorem dX4_layBlocks_107 : decode cX4_layBlocks 107 = .ok (.goto (-91), 3) := by decide +kernel
theorem dX4_layBlocks_110 : decode cX4_layBlocks 110 = .ok (.iconst 0, 1) := by decide +kernel
theorem dX4_layBlocks_111 : decode cX4_layBlocks 111 = .ok (.istore 4, 2) := by decide +kernel
theorem dX4_layBlocks_113 : decode cX4_layBlocks 113 = .ok (.iload 4, 2) := by decide +kernel
theorem dX4_layBlocks_115 : decode cX4_layBlocks 115 = .ok (.iload_n 3, 1) := by decide +kernel
theorem dX4_layBlocks_116 : decode cX4_layBlocks 116 = .ok (.if_icmp .ge 51, 3) := by decide +kernel
theorem dX4_layBlocks_119 : decode cX4_layBlocks 119 = .ok (.aload_n 2, 1) := by decide +kernel
theorem dX4_layBlocks_120 : decode cX4_layBlocks 120 = .ok (.getfield 183, 3) := by decide +kernel
theorem dX4_layBlocks_123 : decode cX4_layBlocks 123 = .ok (.iload 4, 2) := by decide +kernel
theorem dX4_layBlocks_125 : decode cX4_layBlocks 125 = .ok (.iaload, 1) := by decide +kernel
theorem dX4_layBlocks_126 : decode cX4_layBlocks 126 = .ok (.bipush 23, 2) := by decide +kernel
theorem dX4_layBlocks_128 : decode cX4_layBlocks 128 = .ok (.if_icmp .ne 33, 3) := by decide +kernel
theorem dX4_layBlocks_131 : decode cX4_layBlocks 131 = .ok (.aload_n 0, 1) := by decide +kernel
theorem dX4_layBlocks_132 : decode cX4_layBlocks 132 = .ok (.aload_n 2, 1) := by decide +kernel
theorem dX4_layBlocks_133 : decode cX4_layBlocks 133 = .ok (.iload 4, 2) := by decide +kernel
theorem dX4_layBlocks_135 : decode cX4_layBlocks 135 = .ok (.aload_n 2, 1) := by decide +kernel
theorem dX4_layBlocks_136 : decode cX4_layBlocks 136 = .ok (.getfield 186, 3) := by decide +kernel
theorem dX4_layBlocks_139 : decode cX4_layBlocks 139 = .ok (.invokevirtual 189, 3) := by decide +kernel
theorem dX4_layBlocks_142 : decode cX4_layBlocks 142 = .ok (.ifCond .eq 17, 3) := by decide +kernel
theorem dX4_layBlocks_145 : decode cX4_layBlocks 145 = .ok (.aload_n 0, 1) := by decide +kernel
theorem dX4_layBlocks_146 : decode cX4_layBlocks 146 = .ok (.aload_n 2, 1) := by decide +kernel
theorem dX4_layBlocks_147 : decode cX4_layBlocks 147 = .ok (.iload 4, 2) := by decide +kernel
theorem dX4_layBlocks_149 : decode cX4_layBlocks 149 = .ok (.aload_n 2, 1) := by decide +kernel
theorem dX4_layBlocks_150 : decode cX4_layBlocks 150 = .ok (.getfield 193, 3) := by decide +kernel
theorem dX4_layBlocks_153 : decode cX4_layBlocks 153 = .ok (.invokevirtual 189, 3) := by decide +kernel
theorem dX4_layBlocks_156 : decode cX4_layBlocks 156 = .ok (.ifCond .ne 5, 3) := by decide +kernel
theorem dX4_layBlocks_159 : decode cX4_layBlocks 159 = .ok (.iconst 0, 1) := by decide +kernel
theorem dX4_layBlocks_160 : decode cX4_layBlocks 160 = .ok (.ireturn, 1) := by decide +kernel
theorem dX4_layBlocks_161 : decode cX4_layBlocks 161 = .ok (.iinc 4 1, 3) := by decide +kernel
theorem dX4_layBlocks_164 : decode cX4_layBlocks 164 = .ok (.goto (-51), 3) := by decide +kernel
theorem dX4_layBlocks_167 : decode cX4_layBlocks 167 = .ok (.iconst 1, 1) := by decide +kernel
theorem dX4_layBlocks_168 : decode cX4_layBlocks 168 = .ok (.ireturn, 1) := by decide +kernel
theorem dX4_linkOperands_0 : decode cX4_linkOperands 0 = .ok (.iconst 0, 1) := by decide +kernel
theorem dX4_linkOperands_1 : decode cX4_linkOperands 1 = .ok (.istore_n 3, 1) := by decide +kernel
theorem dX4_linkOperands_2 : decode cX4_linkOperands 2 = .ok (.aload_n 1, 1) := by decide +kernel
theorem dX4_linkOperands_3 : decode cX4_linkOperands 3 = .ok (.getfield 133, 3) := by decide +kernel
theorem dX4_linkOperands_6 : decode cX4_linkOperands 6 = .ok (.iload_n 2, 1) := by decide +kernel
theorem dX4_linkOperands_7 : decode cX4_linkOperands 7 = .ok (.iaload, 1) := by decide +kernel
theorem dX4_linkOperands_8 : decode cX4_linkOperands 8 = .ok (.istore 4, 2) := by decide +kernel
theorem dX4_linkOperands_10 : decode cX4_linkOperands 10 = .ok (.iload 4, 2) := by decide +kernel
theorem dX4_linkOperands_12 : decode cX4_linkOperands 12 = .ok (.aload_n 1, 1) := by decide +kernel
theorem dX4_linkOperands_13 : decode cX4_linkOperands 13 = .ok (.getfield 136, 3) := by decide +kernel
theorem dX4_linkOperands_16 : decode cX4_linkOperands 16 = .ok (.iload_n 2, 1) := by decide +kernel
theorem dX4_linkOperands_17 : decode cX4_linkOperands 17 = .ok (.iaload, 1) := by decide +kernel
theorem dX4_linkOperands_18 : decode cX4_linkOperands 18 = .ok (.if_icmp .ge 238, 3) := by decide +kernel
theorem dX4_linkOperands_21 : decode cX4_linkOperands 21 = .ok (.aload_n 1, 1) := by decide +kernel
theorem dX4_linkOperands_22 : decode cX4_linkOperands 22 = .ok (.getfield 139, 3) := by decide +kernel
theorem dX4_linkOperands_25 : decode cX4_linkOperands 25 = .ok (.iload 4, 2) := by decide +kernel
theorem dX4_linkOperands_27 : decode cX4_linkOperands 27 = .ok (.iaload, 1) := by decide +kernel
theorem dX4_linkOperands_28 : decode cX4_linkOperands 28 = .ok (.istore 5, 2) := by decide +kernel
theorem dX4_linkOperands_30 : decode cX4_linkOperands 30 = .ok (.aload_n 0, 1) := by decide +kernel
theorem dX4_linkOperands_31 : decode cX4_linkOperands 31 = .ok (.getfield 9, 3) := by decide +kernel
theorem dX4_linkOperands_34 : decode cX4_linkOperands 34 = .ok (.iload 4, 2) := by decide +kernel
theorem dX4_linkOperands_36 : decode cX4_linkOperands 36 = .ok (.iconst (-1), 1) := by decide +kernel
theorem dX4_linkOperands_37 : decode cX4_linkOperands 37 = .ok (.iastore, 1) := by decide +kernel
theorem dX4_linkOperands_38 : decode cX4_linkOperands 38 = .ok (.aload_n 0, 1) := by decide +kernel
theorem dX4_linkOperands_39 : decode cX4_linkOperands 39 = .ok (.getfield 15, 3) := by decide +kernel
theorem dX4_linkOperands_42 : decode cX4_linkOperands 42 = .ok (.iload 4, 2) := by decide +kernel
theorem dX4_linkOperands_44 : decode cX4_linkOperands 44 = .ok (.iconst (-1), 1) := by decide +kernel
theorem dX4_linkOperands_45 : decode cX4_linkOperands 45 = .ok (.iastore, 1) := by decide +kernel
theorem dX4_linkOperands_46 : decode cX4_linkOperands 46 = .ok (.iload 5, 2) := by decide +kernel
theorem dX4_linkOperands_48 : decode cX4_linkOperands 48 = .ok (.invokestatic 149, 3) := by decide +kernel
theorem dX4_linkOperands_51 : decode cX4_linkOperands 51 = .ok (.ifCond .eq 37, 3) := by decide +kernel
theorem dX4_linkOperands_54 : decode cX4_linkOperands 54 = .ok (.aload_n 0, 1) := by decide +kernel
theorem dX4_linkOperands_55 : decode cX4_linkOperands 55 = .ok (.getfield 15, 3) := by decide +kernel
theorem dX4_linkOperands_58 : decode cX4_linkOperands 58 = .ok (.iload 4, 2) := by decide +kernel
theorem dX4_linkOperands_60 : decode cX4_linkOperands 60 = .ok (.aload_n 0, 1) := by decide +kernel
theorem dX4_linkOperands_61 : decode cX4_linkOperands 61 = .ok (.iload_n 3, 1) := by decide +kernel
theorem dX4_linkOperands_62 : decode cX4_linkOperands 62 = .ok (.iconst 1, 1) := by decide +kernel
theorem dX4_linkOperands_63 : decode cX4_linkOperands 63 = .ok (.isub, 1) := by decide +kernel
theorem dX4_linkOperands_64 : decode cX4_linkOperands 64 = .ok (.invokevirtual 153, 3) := by decide +kernel
theorem dX4_linkOperands_67 : decode cX4_linkOperands 67 = .ok (.iastore, 1) := by decide +kernel
theorem dX4_linkOperands_68 : decode cX4_linkOperands 68 = .ok (.aload_n 0, 1) := by decide +kernel
theorem dX4_linkOperands_69 : decode cX4_linkOperands 69 = .ok (.getfield 9, 3) := by decide +kernel
theorem dX4_linkOperands_72 : decode cX4_linkOperands 72 = .ok (.iload 4, 2) := by decide +kernel
theorem dX4_linkOperands_74 : decode cX4_linkOperands 74 = .ok (.aload_n 0, 1) := by decide +kernel
theorem dX4_linkOperands_75 : decode cX4_linkOperands 75 = .ok (.iload_n 3, 1) := by decide +kernel
theorem dX4_linkOperands_76 : decode cX4_linkOperands 76 = .ok (.iconst 2, 1) := by decide +kernel
theorem dX4_linkOperands_77 : decode cX4_linkOperands 77 = .ok (.isub, 1) := by decide +kernel
theorem dX4_linkOperands_78 : decode cX4_linkOperands 78 = .ok (.invokevirtual 153, 3) := by decide +kernel
theorem dX4_linkOperands_81 : decode cX4_linkOperands 81 = .ok (.iastore, 1) := by decide +kernel
theorem dX4_linkOperands_82 : decode cX4_linkOperands 82 = .ok (.iinc 3 (-2), 3) := by decide +kernel
theorem dX4_linkOperands_85 : decode cX4_linkOperands 85 = .ok (.goto 107, 3) := by decide +kernel
theorem dX4_linkOperands_88 : decode cX4_linkOperands 88 = .ok (.iload 5, 2) := by decide +kernel
theorem dX4_linkOperands_90 : decode cX4_linkOperands 90 = .ok (.bipush 19, 2) := by decide +kernel
theorem dX4_linkOperands_92 : decode cX4_linkOperands 92 = .ok (.if_icmp .ne 26, 3) := by decide +kernel
theorem dX4_linkOperands_95 : decode cX4_linkOperands 95 = .ok (.aload_n 0, 1) := by decide +kernel
theorem dX4_linkOperands_96 : decode cX4_linkOperands 96 = .ok (.getfield 9, 3) := by decide +kernel
theorem dX4_linkOperands_99 : decode cX4_linkOperands 99 = .ok (.iload 4, 2) := by decide +kernel
theorem dX4_linkOperands_101 : decode cX4_linkOperands 101 = .ok (.aload_n 0, 1) := by decide +kernel
theorem dX4_linkOperands_102 : decode cX4_linkOperands 102 = .ok (.iload_n 3, 1) := by decide +kernel
theorem dX4_linkOperands_103 : decode cX4_linkOperands 103 = .ok (.aload_n 1, 1) := by decide +kernel
theorem dX4_linkOperands_104 : decode cX4_linkOperands 104 = .ok (.getfield 146, 3) := by decide +kernel
theorem dX4_linkOperands_107 : decode cX4_linkOperands 107 = .ok (.iload 4, 2) := by decide +kernel
theorem dX4_linkOperands_109 : decode cX4_linkOperands 109 = .ok (.iaload, 1) := by decide +kernel
theorem dX4_linkOperands_110 : decode cX4_linkOperands 110 = .ok (.isub, 1) := by decide +kernel
theorem dX4_linkOperands_111 : decode cX4_linkOperands 111 = .ok (.invokevirtual 153, 3) := by decide +kernel
theorem dX4_linkOperands_114 : decode cX4_linkOperands 114 = .ok (.iastore, 1) := by decide +kernel
theorem dX4_linkOperands_115 : decode cX4_linkOperands 115 = .ok (.goto 77, 3) := by decide +kernel
theorem dX4_linkOperands_118 : decode cX4_linkOperands 118 = .ok (.iload 5, 2) := by decide +kernel
theorem dX4_linkOperands_120 : decode cX4_linkOperands 120 = .ok (.bipush 32, 2) := by decide +kernel
theorem dX4_linkOperands_122 : decode cX4_linkOperands 122 = .ok (.if_icmp .ne 20, 3) := by decide +kernel
theorem dX4_linkOperands_125 : decode cX4_linkOperands 125 = .ok (.aload_n 0, 1) := by decide +kernel
theorem dX4_linkOperands_126 : decode cX4_linkOperands 126 = .ok (.getfield 9, 3) := by decide +kernel
theorem dX4_linkOperands_129 : decode cX4_linkOperands 129 = .ok (.iload 4, 2) := by decide +kernel
theorem dX4_linkOperands_131 : decode cX4_linkOperands 131 = .ok (.aload_n 0, 1) := by decide +kernel
theorem dX4_linkOperands_132 : decode cX4_linkOperands 132 = .ok (.iload_n 3, 1) := by decide +kernel
theorem dX4_linkOperands_133 : decode cX4_linkOperands 133 = .ok (.iconst 1, 1) := by decide +kernel
theorem dX4_linkOperands_134 : decode cX4_linkOperands 134 = .ok (.isub, 1) := by decide +kernel
theorem dX4_linkOperands_135 : decode cX4_linkOperands 135 = .ok (.invokevirtual 153, 3) := by decide +kernel
theorem dX4_linkOperands_138 : decode cX4_linkOperands 138 = .ok (.iastore, 1) := by decide +kernel
theorem dX4_linkOperands_139 : decode cX4_linkOperands 139 = .ok (.goto 53, 3) := by decide +kernel
theorem dX4_linkOperands_142 : decode cX4_linkOperands 142 = .ok (.iload 5, 2) := by decide +kernel
theorem dX4_linkOperands_144 : decode cX4_linkOperands 144 = .ok (.invokestatic 157, 3) := by decide +kernel
theorem dX4_linkOperands_147 : decode cX4_linkOperands 147 = .ok (.ifCond .eq 23, 3) := by decide +kernel
theorem dX4_linkOperands_150 : decode cX4_linkOperands 150 = .ok (.aload_n 0, 1) := by decide +kernel
theorem dX4_linkOperands_151 : decode cX4_linkOperands 151 = .ok (.getfield 9, 3) := by decide +kernel
theorem dX4_linkOperands_154 : decode cX4_linkOperands 154 = .ok (.iload 4, 2) := by decide +kernel
theorem dX4_linkOperands_156 : decode cX4_linkOperands 156 = .ok (.aload_n 0, 1) := by decide +kernel
theorem dX4_linkOperands_157 : decode cX4_linkOperands 157 = .ok (.iload_n 3, 1) := by decide +kernel
theorem dX4_linkOperands_158 : decode cX4_linkOperands 158 = .ok (.iconst 1, 1) := by decide +kernel
theorem dX4_linkOperands_159 : decode cX4_linkOperands 159 = .ok (.isub, 1) := by decide +kernel
theorem dX4_linkOperands_160 : decode cX4_linkOperands 160 = .ok (.invokevirtual 153, 3) := by decide +kernel
theorem dX4_linkOperands_163 : decode cX4_linkOperands 163 = .ok (.iastore, 1) := by decide +kernel
theorem dX4_linkOperands_164 : decode cX4_linkOperands 164 = .ok (.iinc 3 (-1), 3) := by decide +kernel
theorem dX4_linkOperands_167 : decode cX4_linkOperands 167 = .ok (.goto 25, 3) := by decide +kernel
theorem dX4_linkOperands_170 : decode cX4_linkOperands 170 = .ok (.iload 5, 2) := by decide +kernel
theorem dX4_linkOperands_172 : decode cX4_linkOperands 172 = .ok (.bipush 20, 2) := by decide +kernel
theorem dX4_linkOperands_174 : decode cX4_linkOperands 174 = .ok (.if_icmp .ne 18, 3) := by decide +kernel
theorem dX4_linkOperands_177 : decode cX4_linkOperands 177 = .ok (.iload_n 3, 1) := by decide +kernel
theorem dX4_linkOperands_178 : decode cX4_linkOperands 178 = .ok (.aload_n 1, 1) := by decide +kernel
theorem dX4_linkOperands_179 : decode cX4_linkOperands 179 = .ok (.getfield 160, 3) := by decide +kernel
theorem dX4_linkOperands_182 : decode cX4_linkOperands 182 = .ok (.aload_n 1, 1) := by decide +kernel
theorem dX4_linkOperands_183 : decode cX4_linkOperands 183 = .ok (.getfield 146, 3) := by decide +kernel
theorem dX4_linkOperands_186 : decode cX4_linkOperands 186 = .ok (.iload 4, 2) := by decide +kernel
theorem dX4_linkOperands_188 : decode cX4_linkOperands 188 = .ok (.iaload, 1) := by decide +kernel
theorem dX4_linkOperands_189 : decode cX4_linkOperands 189 = .ok (.iaload, 1) := by decide +kernel
theorem dX4_linkOperands_190 : decode cX4_linkOperands 190 = .ok (.isub, 1) := by decide +kernel
theorem dX4_linkOperands_191 : decode cX4_linkOperands 191 = .ok (.istore_n 3, 1) := by decide +kernel
theorem dX4_linkOperands_192 : decode cX4_linkOperands 192 = .ok (.iload_n 3, 1) := by decide +kernel
theorem dX4_linkOperands_193 : decode cX4_linkOperands 193 = .ok (.iconst 0, 1) := by decide +kernel
theorem dX4_linkOperands_194 : decode cX4_linkOperands 194 = .ok (.invokestatic 163, 3) := by decide +kernel
theorem dX4_linkOperands_197 : decode cX4_linkOperands 197 = .ok (.istore_n 3, 1) := by decide +kernel
theorem dX4_linkOperands_198 : decode cX4_linkOperands 198 = .ok (.iload 5, 2) := by decide +kernel
theorem dX4_linkOperands_200 : decode cX4_linkOperands 200 = .ok (.invokestatic 169, 3) := by decide +kernel
theorem dX4_linkOperands_203 : decode cX4_linkOperands 203 = .ok (.ifCond .ne 29, 3) := by decide +kernel
theorem dX4_linkOperands_206 : decode cX4_linkOperands 206 = .ok (.iload 5, 2) := by decide +kernel
theorem dX4_linkOperands_208 : decode cX4_linkOperands 208 = .ok (.ifCond .eq 24, 3) := by decide +kernel
theorem dX4_linkOperands_211 : decode cX4_linkOperands 211 = .ok (.iload 5, 2) := by decide +kernel
theorem dX4_linkOperands_213 : decode cX4_linkOperands 213 = .ok (.bipush 17, 2) := by decide +kernel
theorem dX4_linkOperands_215 : decode cX4_linkOperands 215 = .ok (.if_icmp .eq 17, 3) := by decide +kernel
theorem dX4_linkOperands_218 : decode cX4_linkOperands 218 = .ok (.iload 5, 2) := by decide +kernel
theorem dX4_linkOperands_220 : decode cX4_linkOperands 220 = .ok (.bipush 20, 2) := by decide +kernel
theorem dX4_linkOperands_222 : decode cX4_linkOperands 222 = .ok (.if_icmp .eq 10, 3) := by decide +kernel
theorem dX4_linkOperands_225 : decode cX4_linkOperands 225 = .ok (.iload 5, 2) := by decide +kernel
theorem dX4_linkOperands_227 : decode cX4_linkOperands 227 = .ok (.bipush 30, 2) := by decide +kernel
theorem dX4_linkOperands_229 : decode cX4_linkOperands 229 = .ok (.if_icmp .ne 21, 3) := by decide +kernel
theorem dX4_linkOperands_232 : decode cX4_linkOperands 232 = .ok (.iload_n 3, 1) := by decide +kernel
theorem dX4_linkOperands_233 : decode cX4_linkOperands 233 = .ok (.sipush 512, 3) := by decide +kernel
theorem dX4_linkOperands_236 : decode cX4_linkOperands 236 = .ok (.if_icmp .ge 14, 3) := by decide +kernel
theorem dX4_linkOperands_239 : decode cX4_linkOperands 239 = .ok (.aload_n 0, 1) := by decide +kernel
theorem dX4_linkOperands_240 : decode cX4_linkOperands 240 = .ok (.getfield 21, 3) := by decide +kernel
theorem dX4_linkOperands_243 : decode cX4_linkOperands 243 = .ok (.iload_n 3, 1) := by decide +kernel
theorem dX4_linkOperands_244 : decode cX4_linkOperands 244 = .ok (.iload 4, 2) := by decide +kernel
theorem dX4_linkOperands_246 : decode cX4_linkOperands 246 = .ok (.iastore, 1) := by decide +kernel
theorem dX4_linkOperands_247 : decode cX4_linkOperands 247 = .ok (.iinc 3 1, 3) := by decide +kernel
theorem dX4_linkOperands_250 : decode cX4_linkOperands 250 = .ok (.iinc 4 1, 3) := by decide +kernel
theorem dX4_linkOperands_253 : decode cX4_linkOperands 253 = .ok (.goto (-243), 3) := by decide +kernel
theorem dX4_linkOperands_256 : decode cX4_linkOperands 256 = .ok (.return_, 1) := by decide +kernel
theorem dX4_reachOne_0 : decode cX4_reachOne 0 = .ok (.iload_n 1, 1) := by decide +kernel
theorem dX4_reachOne_1 : decode cX4_reachOne 1 = .ok (.ifCond .lt 11, 3) := by decide +kernel
theorem dX4_reachOne_4 : decode cX4_reachOne 4 = .ok (.iload_n 1, 1) := by decide +kernel
theorem dX4_reachOne_5 : decode cX4_reachOne 5 = .ok (.aload_n 0, 1) := by decide +kernel
theorem dX4_reachOne_6 : decode cX4_reachOne 6 = .ok (.getfield 130, 3) := by decide +kernel
theorem dX4_reachOne_9 : decode cX4_reachOne 9 = .ok (.if_icmp .lt 5, 3) := by decide +kernel
theorem dX4_reachOne_12 : decode cX4_reachOne 12 = .ok (.iload_n 2, 1) := by decide +kernel
theorem dX4_reachOne_13 : decode cX4_reachOne 13 = .ok (.ireturn, 1) := by decide +kernel
theorem dX4_reachOne_14 : decode cX4_reachOne 14 = .ok (.aload_n 0, 1) := by decide +kernel
theorem dX4_reachOne_15 : decode cX4_reachOne 15 = .ok (.getfield 36, 3) := by decide +kernel
theorem dX4_reachOne_18 : decode cX4_reachOne 18 = .ok (.iload_n 1, 1) := by decide +kernel
theorem dX4_reachOne_19 : decode cX4_reachOne 19 = .ok (.dup2, 1) := by decide +kernel
theorem dX4_reachOne_20 : decode cX4_reachOne 20 = .ok (.iaload, 1) := by decide +kernel
theorem dX4_reachOne_21 : decode cX4_reachOne 21 = .ok (.iconst 1, 1) := by decide +kernel
theorem dX4_reachOne_22 : decode cX4_reachOne 22 = .ok (.iadd, 1) := by decide +kernel
theorem dX4_reachOne_23 : decode cX4_reachOne 23 = .ok (.iastore, 1) := by decide +kernel
theorem dX4_reachOne_24 : decode cX4_reachOne 24 = .ok (.aload_n 0, 1) := by decide +kernel
theorem dX4_reachOne_25 : decode cX4_reachOne 25 = .ok (.getfield 39, 3) := by decide +kernel
theorem dX4_reachOne_28 : decode cX4_reachOne 28 = .ok (.iload_n 1, 1) := by decide +kernel
theorem dX4_reachOne_29 : decode cX4_reachOne 29 = .ok (.iaload, 1) := by decide +kernel
theorem dX4_reachOne_30 : decode cX4_reachOne 30 = .ok (.ifCond .lt 5, 3) := by decide +kernel
theorem dX4_reachOne_33 : decode cX4_reachOne 33 = .ok (.iload_n 2, 1) := by decide +kernel
theorem dX4_reachOne_34 : decode cX4_reachOne 34 = .ok (.ireturn, 1) := by decide +kernel
theorem dX4_reachOne_35 : decode cX4_reachOne 35 = .ok (.aload_n 0, 1) := by decide +kernel
theorem dX4_reachOne_36 : decode cX4_reachOne 36 = .ok (.getfield 39, 3) := by decide +kernel
theorem dX4_reachOne_39 : decode cX4_reachOne 39 = .ok (.iload_n 1, 1) := by decide +kernel
theorem dX4_reachOne_40 : decode cX4_reachOne 40 = .ok (.iload_n 2, 1) := by decide +kernel
theorem dX4_reachOne_41 : decode cX4_reachOne 41 = .ok (.iastore, 1) := by decide +kernel
theorem dX4_reachOne_42 : decode cX4_reachOne 42 = .ok (.aload_n 0, 1) := by decide +kernel
theorem dX4_reachOne_43 : decode cX4_reachOne 43 = .ok (.getfield 45, 3) := by decide +kernel
theorem dX4_reachOne_46 : decode cX4_reachOne 46 = .ok (.iload_n 2, 1) := by decide +kernel
theorem dX4_reachOne_47 : decode cX4_reachOne 47 = .ok (.iload_n 1, 1) := by decide +kernel
theorem dX4_reachOne_48 : decode cX4_reachOne 48 = .ok (.iastore, 1) := by decide +kernel
theorem dX4_reachOne_49 : decode cX4_reachOne 49 = .ok (.iload_n 2, 1) := by decide +kernel
theorem dX4_reachOne_50 : decode cX4_reachOne 50 = .ok (.iconst 1, 1) := by decide +kernel
theorem dX4_reachOne_51 : decode cX4_reachOne 51 = .ok (.iadd, 1) := by decide +kernel
theorem dX4_reachOne_52 : decode cX4_reachOne 52 = .ok (.ireturn, 1) := by decide +kernel
theorem dX4_reachPieces_0 : decode cX4_reachPieces 0 = .ok (.aload_n 0, 1) := by decide +kernel
theorem dX4_reachPieces_1 : decode cX4_reachPieces 1 = .ok (.getfield 39, 3) := by decide +kernel
theorem dX4_reachPieces_4 : decode cX4_reachPieces 4 = .ok (.iconst (-1), 1) := by decide +kernel
theorem dX4_reachPieces_5 : decode cX4_reachPieces 5 = .ok (.invokestatic 196, 3) := by decide +kernel
theorem dX4_reachPieces_8 : decode cX4_reachPieces 8 = .ok (.aload_n 0, 1) := by decide +kernel
theorem dX4_reachPieces_9 : decode cX4_reachPieces 9 = .ok (.getfield 36, 3) := by decide +kernel
theorem dX4_reachPieces_12 : decode cX4_reachPieces 12 = .ok (.iconst 0, 1) := by decide +kernel
theorem dX4_reachPieces_13 : decode cX4_reachPieces 13 = .ok (.invokestatic 196, 3) := by decide +kernel
theorem dX4_reachPieces_16 : decode cX4_reachPieces 16 = .ok (.iconst 1, 1) := by decide +kernel
theorem dX4_reachPieces_17 : decode cX4_reachPieces 17 = .ok (.istore_n 1, 1) := by decide +kernel
theorem dX4_reachPieces_18 : decode cX4_reachPieces 18 = .ok (.aload_n 0, 1) := by decide +kernel
theorem dX4_reachPieces_19 : decode cX4_reachPieces 19 = .ok (.getfield 45, 3) := by decide +kernel
theorem dX4_reachPieces_22 : decode cX4_reachPieces 22 = .ok (.iconst 0, 1) := by decide +kernel
theorem dX4_reachPieces_23 : decode cX4_reachPieces 23 = .ok (.iconst 0, 1) := by decide +kernel
theorem dX4_reachPieces_24 : decode cX4_reachPieces 24 = .ok (.iastore, 1) := by decide +kernel
theorem dX4_reachPieces_25 : decode cX4_reachPieces 25 = .ok (.aload_n 0, 1) := by decide +kernel
theorem dX4_reachPieces_26 : decode cX4_reachPieces 26 = .ok (.getfield 39, 3) := by decide +kernel
theorem dX4_reachPieces_29 : decode cX4_reachPieces 29 = .ok (.iconst 0, 1) := by decide +kernel
theorem dX4_reachPieces_30 : decode cX4_reachPieces 30 = .ok (.iconst 0, 1) := by decide +kernel
theorem dX4_reachPieces_31 : decode cX4_reachPieces 31 = .ok (.iastore, 1) := by decide +kernel
theorem dX4_reachPieces_32 : decode cX4_reachPieces 32 = .ok (.iconst 0, 1) := by decide +kernel
theorem dX4_reachPieces_33 : decode cX4_reachPieces 33 = .ok (.istore_n 2, 1) := by decide +kernel
theorem dX4_reachPieces_34 : decode cX4_reachPieces 34 = .ok (.iload_n 2, 1) := by decide +kernel
theorem dX4_reachPieces_35 : decode cX4_reachPieces 35 = .ok (.iload_n 1, 1) := by decide +kernel
theorem dX4_reachPieces_36 : decode cX4_reachPieces 36 = .ok (.if_icmp .ge 43, 3) := by decide +kernel
theorem dX4_reachPieces_39 : decode cX4_reachPieces 39 = .ok (.aload_n 0, 1) := by decide +kernel
theorem dX4_reachPieces_40 : decode cX4_reachPieces 40 = .ok (.aload_n 0, 1) := by decide +kernel
theorem dX4_reachPieces_41 : decode cX4_reachPieces 41 = .ok (.getfield 30, 3) := by decide +kernel
theorem dX4_reachPieces_44 : decode cX4_reachPieces 44 = .ok (.aload_n 0, 1) := by decide +kernel
theorem dX4_reachPieces_45 : decode cX4_reachPieces 45 = .ok (.getfield 45, 3) := by decide +kernel
theorem dX4_reachPieces_48 : decode cX4_reachPieces 48 = .ok (.iload_n 2, 1) := by decide +kernel
theorem dX4_reachPieces_49 : decode cX4_reachPieces 49 = .ok (.iaload, 1) := by decide +kernel
theorem dX4_reachPieces_50 : decode cX4_reachPieces 50 = .ok (.iaload, 1) := by decide +kernel
theorem dX4_reachPieces_51 : decode cX4_reachPieces 51 = .ok (.iload_n 1, 1) := by decide +kernel
theorem dX4_reachPieces_52 : decode cX4_reachPieces 52 = .ok (.invokevirtual 202, 3) := by decide +kernel
theorem dX4_reachPieces_55 : decode cX4_reachPieces 55 = .ok (.istore_n 1, 1) := by decide +kernel
theorem dX4_reachPieces_56 : decode cX4_reachPieces 56 = .ok (.aload_n 0, 1) := by decide +kernel
theorem dX4_reachPieces_57 : decode cX4_reachPieces 57 = .ok (.aload_n 0, 1) := by decide +kernel
theorem dX4_reachPieces_58 : decode cX4_reachPieces 58 = .ok (.getfield 33, 3) := by decide +kernel
theorem dX4_reachPieces_61 : decode cX4_reachPieces 61 = .ok (.aload_n 0, 1) := by decide +kernel
theorem dX4_reachPieces_62 : decode cX4_reachPieces 62 = .ok (.getfield 45, 3) := by decide +kernel
theorem dX4_reachPieces_65 : decode cX4_reachPieces 65 = .ok (.iload_n 2, 1) := by decide +kernel
theorem dX4_reachPieces_66 : decode cX4_reachPieces 66 = .ok (.iaload, 1) := by decide +kernel
theorem dX4_reachPieces_67 : decode cX4_reachPieces 67 = .ok (.iaload, 1) := by decide +kernel
theorem dX4_reachPieces_68 : decode cX4_reachPieces 68 = .ok (.iload_n 1, 1) := by decide +kernel
theorem dX4_reachPieces_69 : decode cX4_reachPieces 69 = .ok (.invokevirtual 202, 3) := by decide +kernel
theorem dX4_reachPieces_72 : decode cX4_reachPieces 72 = .ok (.istore_n 1, 1) := by decide +kernel
theorem dX4_reachPieces_73 : decode cX4_reachPieces 73 = .ok (.iinc 2 1, 3) := by decide +kernel
theorem dX4_reachPieces_76 : decode cX4_reachPieces 76 = .ok (.goto (-42), 3) := by decide +kernel
theorem dX4_reachPieces_79 : decode cX4_reachPieces 79 = .ok (.iload_n 1, 1) := by decide +kernel
theorem dX4_reachPieces_80 : decode cX4_reachPieces 80 = .ok (.ireturn, 1) := by decide +kernel
theorem dX4_splitWay_0 : decode cX4_splitWay 0 = .ok (.aload_n 3, 1) := by decide +kernel
theorem dX4_splitWay_1 : decode cX4_splitWay 1 = .ok (.iload_n 2, 1) := by decide +kernel
theorem dX4_splitWay_2 : decode cX4_splitWay 2 = .ok (.iaload, 1) := by decide +kernel
theorem dX4_splitWay_3 : decode cX4_splitWay 3 = .ok (.istore 4, 2) := by decide +kernel
theorem dX4_splitWay_5 : decode cX4_splitWay 5 = .ok (.iload 4, 2) := by decide +kernel
theorem dX4_splitWay_7 : decode cX4_splitWay 7 = .ok (.ifCond .lt 19, 3) := by decide +kernel
theorem dX4_splitWay_10 : decode cX4_splitWay 10 = .ok (.aload_n 0, 1) := by decide +kernel
theorem dX4_splitWay_11 : decode cX4_splitWay 11 = .ok (.getfield 36, 3) := by decide +kernel
theorem dX4_splitWay_14 : decode cX4_splitWay 14 = .ok (.aload_n 0, 1) := by decide +kernel
theorem dX4_splitWay_15 : decode cX4_splitWay 15 = .ok (.getfield 48, 3) := by decide +kernel
theorem dX4_splitWay_18 : decode cX4_splitWay 18 = .ok (.iload 4, 2) := by decide +kernel
theorem dX4_splitWay_20 : decode cX4_splitWay 20 = .ok (.iaload, 1) := by decide +kernel
theorem dX4_splitWay_21 : decode cX4_splitWay 21 = .ok (.iaload, 1) := by decide +kernel
theorem dX4_splitWay_22 : decode cX4_splitWay 22 = .ok (.iconst 2, 1) := by decide +kernel
theorem dX4_splitWay_23 : decode cX4_splitWay 23 = .ok (.if_icmp .ge 5, 3) := by decide +kernel
theorem dX4_splitWay_26 : decode cX4_splitWay 26 = .ok (.iconst 1, 1) := by decide +kernel
theorem dX4_splitWay_27 : decode cX4_splitWay 27 = .ok (.ireturn, 1) := by decide +kernel
theorem dX4_splitWay_28 : decode cX4_splitWay 28 = .ok (.aload_n 1, 1) := by decide +kernel
theorem dX4_splitWay_29 : decode cX4_splitWay 29 = .ok (.getfield 87, 3) := by decide +kernel
theorem dX4_splitWay_32 : decode cX4_splitWay 32 = .ok (.bipush 60, 2) := by decide +kernel
theorem dX4_splitWay_34 : decode cX4_splitWay 34 = .ok (.if_icmp .lt 5, 3) := by decide +kernel
theorem dX4_splitWay_37 : decode cX4_splitWay 37 = .ok (.iconst 0, 1) := by decide +kernel
theorem dX4_splitWay_38 : decode cX4_splitWay 38 = .ok (.ireturn, 1) := by decide +kernel
theorem dX4_splitWay_39 : decode cX4_splitWay 39 = .ok (.aload_n 0, 1) := by decide +kernel
theorem dX4_splitWay_40 : decode cX4_splitWay 40 = .ok (.getfield 48, 3) := by decide +kernel
theorem dX4_splitWay_43 : decode cX4_splitWay 43 = .ok (.aload_n 1, 1) := by decide +kernel
theorem dX4_splitWay_44 : decode cX4_splitWay 44 = .ok (.getfield 87, 3) := by decide +kernel
theorem dX4_splitWay_47 : decode cX4_splitWay 47 = .ok (.iconst (-1), 1) := by decide +kernel
theorem dX4_splitWay_48 : decode cX4_splitWay 48 = .ok (.iastore, 1) := by decide +kernel
theorem dX4_splitWay_49 : decode cX4_splitWay 49 = .ok (.aload_n 3, 1) := by decide +kernel
theorem dX4_splitWay_50 : decode cX4_splitWay 50 = .ok (.iload_n 2, 1) := by decide +kernel
theorem dX4_splitWay_51 : decode cX4_splitWay 51 = .ok (.aload_n 1, 1) := by decide +kernel
theorem dX4_splitWay_52 : decode cX4_splitWay 52 = .ok (.bipush 22, 2) := by decide +kernel
theorem dX4_splitWay_54 : decode cX4_splitWay 54 = .ok (.iconst (-1), 1) := by decide +kernel
theorem dX4_splitWay_55 : decode cX4_splitWay 55 = .ok (.iload 4, 2) := by decide +kernel
theorem dX4_splitWay_57 : decode cX4_splitWay 57 = .ok (.iconst (-1), 1) := by decide +kernel
theorem dX4_splitWay_58 : decode cX4_splitWay 58 = .ok (.invokevirtual 179, 3) := by decide +kernel
theorem dX4_splitWay_61 : decode cX4_splitWay 61 = .ok (.iastore, 1) := by decide +kernel
theorem dX4_splitWay_62 : decode cX4_splitWay 62 = .ok (.iconst 1, 1) := by decide +kernel
theorem dX4_splitWay_63 : decode cX4_splitWay 63 = .ok (.ireturn, 1) := by decide +kernel
theorem dX4_takesOne_0 : decode cX4_takesOne 0 = .ok (.iload_n 0, 1) := by decide +kernel
theorem dX4_takesOne_1 : decode cX4_takesOne 1 = .ok (.bipush 17, 2) := by decide +kernel
theorem dX4_takesOne_3 : decode cX4_takesOne 3 = .ok (.if_icmp .eq 33, 3) := by decide +kernel
theorem dX4_takesOne_6 : decode cX4_takesOne 6 = .ok (.iload_n 0, 1) := by decide +kernel
theorem dX4_takesOne_7 : decode cX4_takesOne 7 = .ok (.bipush 31, 2) := by decide +kernel
theorem dX4_takesOne_9 : decode cX4_takesOne 9 = .ok (.if_icmp .eq 27, 3) := by decide +kernel
theorem dX4_takesOne_12 : decode cX4_takesOne 12 = .ok (.iload_n 0, 1) := by decide +kernel
theorem dX4_takesOne_13 : decode cX4_takesOne 13 = .ok (.bipush 36, 2) := by decide +kernel
theorem dX4_takesOne_15 : decode cX4_takesOne 15 = .ok (.if_icmp .eq 21, 3) := by decide +kernel
theorem dX4_takesOne_18 : decode cX4_takesOne 18 = .ok (.iload_n 0, 1) := by decide +kernel
theorem dX4_takesOne_19 : decode cX4_takesOne 19 = .ok (.bipush 24, 2) := by decide +kernel
theorem dX4_takesOne_21 : decode cX4_takesOne 21 = .ok (.if_icmp .eq 15, 3) := by decide +kernel
theorem dX4_takesOne_24 : decode cX4_takesOne 24 = .ok (.iload_n 0, 1) := by decide +kernel
theorem dX4_takesOne_25 : decode cX4_takesOne 25 = .ok (.bipush 33, 2) := by decide +kernel
theorem dX4_takesOne_27 : decode cX4_takesOne 27 = .ok (.if_icmp .eq 9, 3) := by decide +kernel
theorem dX4_takesOne_30 : decode cX4_takesOne 30 = .ok (.iload_n 0, 1) := by decide +kernel
theorem dX4_takesOne_31 : decode cX4_takesOne 31 = .ok (.bipush 34, 2) := by decide +kernel
theorem dX4_takesOne_33 : decode cX4_takesOne 33 = .ok (.if_icmp .ne 7, 3) := by decide +kernel
theorem dX4_takesOne_36 : decode cX4_takesOne 36 = .ok (.iconst 1, 1) := by decide +kernel
theorem dX4_takesOne_37 : decode cX4_takesOne 37 = .ok (.goto 4, 3) := by decide +kernel
theorem dX4_takesOne_40 : decode cX4_takesOne 40 = .ok (.iconst 0, 1) := by decide +kernel
theorem dX4_takesOne_41 : decode cX4_takesOne 41 = .ok (.ireturn, 1) := by decide +kernel
theorem dX4_waitingAt_0 : decode cX4_waitingAt 0 = .ok (.iload_n 1, 1) := by decide +kernel
theorem dX4_waitingAt_1 : decode cX4_waitingAt 1 = .ok (.ifCond .lt 10, 3) := by decide +kernel
theorem dX4_waitingAt_4 : decode cX4_waitingAt 4 = .ok (.iload_n 1, 1) := by decide +kernel
theorem dX4_waitingAt_5 : decode cX4_waitingAt 5 = .ok (.sipush 512, 3) := by decide +kernel
theorem dX4_waitingAt_8 : decode cX4_waitingAt 8 = .ok (.if_icmp .lt 7, 3) := by decide +kernel
theorem dX4_waitingAt_11 : decode cX4_waitingAt 11 = .ok (.iconst (-1), 1) := by decide +kernel
theorem dX4_waitingAt_12 : decode cX4_waitingAt 12 = .ok (.goto 9, 3) := by decide +kernel
theorem dX4_waitingAt_15 : decode cX4_waitingAt 15 = .ok (.aload_n 0, 1) := by decide +kernel
theorem dX4_waitingAt_16 : decode cX4_waitingAt 16 = .ok (.getfield 21, 3) := by decide +kernel
theorem dX4_waitingAt_19 : decode cX4_waitingAt 19 = .ok (.iload_n 1, 1) := by decide +kernel
theorem dX4_waitingAt_20 : decode cX4_waitingAt 20 = .ok (.iaload, 1) := by decide +kernel
theorem dX4_waitingAt_21 : decode cX4_waitingAt 21 = .ok (.ireturn, 1) := by decide +kernel
theorem qw320 : Cond.fieldLink RX4 58 "Gearbox$Maker" "border" "[J" ∈ gw := mq_2 (i := 160) rfl rfl
theorem qw321 : Cond.code yJ7_fill_d0a16 cJ7_fill_d0a16 5 (Option.none : Option Jvm.ClassFile.FieldType) ∈ gw := mq_6 (i := 66) rfl rfl
theorem qw322 : Cond.methodLink RX4 205 yJ7_fill_d0a16 ∈ gw := mq_6 (i := 64) rfl rfl
theorem qw323 : Cond.static yJ7_fill_d0a16 ∈ gw := mq_6 (i := 65) rfl rfl
theorem qw324 : Cond.fieldLink RX4 221 "Gearbox$Flow" "dominators" "[J" ∈ gw := mq_2 (i := 50) rfl rfl
theorem qw325 : Cond.methodLink RX4 196 yJ7_fill_53178 ∈ gw := mq_5 (i := 224) rfl rfl
theorem qw326 : Cond.fieldLink RX4 36 "Gearbox$Maker" "pieceWays" "[I" ∈ gw := mq_2 (i := 153) rfl rfl
theorem qw327 : Cond.fieldLink RX4 45 "Gearbox$Maker" "found" "[I" ∈ gw := mq_2 (i := 156) rfl rfl
theorem qw328 : Cond.code yX4_reachOne cX4_reachOne 3 (Option.some Jvm.ClassFile.FieldType.int) ∈ gw := mq_5 (i := 230) rfl rfl
theorem qw329 : Cond.methodLink RX4 202 yX4_reachOne ∈ gw := mq_5 (i := 227) rfl rfl
theorem qw330 : Cond.instanceMethod yX4_reachOne ∈ gw := mq_5 (i := 229) rfl rfl
theorem qw331 : Cond.selects RX4 yX4_reachOne yX4_reachOne ∈ gw := mk_s (i := 14) rfl rfl
theorem qw332 : Cond.code yX4_reachPieces cX4_reachPieces 3 (Option.some Jvm.ClassFile.FieldType.int) ∈ gw := mq_5 (i := 223) rfl rfl
theorem qw333 : Cond.methodLink RX4 172 yX4_reachPieces ∈ gw := mq_5 (i := 220) rfl rfl
theorem qw334 : Cond.instanceMethod yX4_reachPieces ∈ gw := mq_5 (i := 222) rfl rfl
theorem qw335 : Cond.selects RX4 yX4_reachPieces yX4_reachPieces ∈ gw := mk_s (i := 15) rfl rfl
theorem qw336 : Cond.code yX4_blockOfPiece cX4_blockOfPiece 2 (Option.some Jvm.ClassFile.FieldType.int) ∈ gw := mq_5 (i := 234) rfl rfl
theorem qw337 : Cond.methodLink RX4 176 yX4_blockOfPiece ∈ gw := mq_5 (i := 231) rfl rfl
theorem qw338 : Cond.instanceMethod yX4_blockOfPiece ∈ gw := mq_5 (i := 233) rfl rfl
theorem qw339 : Cond.selects RX4 yX4_blockOfPiece yX4_blockOfPiece ∈ gw := mk_s (i := 16) rfl rfl
theorem qw340 : Cond.methodLink RX4 179 yX1_addBlock ∈ gw := mq_5 (i := 235) rfl rfl
theorem qw341 : Cond.fieldLink RX4 183 "Gearbox$Flow" "end" "[I" ∈ gw := mq_2 (i := 6) rfl rfl
theorem qw342 : Cond.fieldLink RX4 186 "Gearbox$Flow" "first" "[I" ∈ gw := mq_2 (i := 23) rfl rfl
theorem qw343 : Cond.code yX4_splitWay cX4_splitWay 5 (Option.some Jvm.ClassFile.FieldType.boolean) ∈ gw := mq_6 (i := 2) rfl rfl
theorem qw344 : Cond.methodLink RX4 189 yX4_splitWay ∈ gw := mq_5 (i := 239) rfl rfl
theorem qw345 : Cond.instanceMethod yX4_splitWay ∈ gw := mq_6 (i := 1) rfl rfl
theorem qw346 : Cond.selects RX4 yX4_splitWay yX4_splitWay ∈ gw := mk_s (i := 17) rfl rfl
theorem qw347 : Cond.fieldLink RX4 193 "Gearbox$Flow" "second" "[I" ∈ gw := mq_2 (i := 31) rfl rfl
theorem qw348 : Cond.code yX11_isOperator cX11_isOperator 1 (Option.some Jvm.ClassFile.FieldType.boolean) ∈ gw := mq_5 (i := 206) rfl rfl
theorem qw349 : Cond.methodLink RX11 377 yX11_isOperator ∈ gw := mq_5 (i := 204) rfl rfl
theorem qw350 : Cond.static yX11_isOperator ∈ gw := mq_5 (i := 205) rfl rfl
theorem qw351 : Cond.code yX11_usesRight cX11_usesRight 1 (Option.some Jvm.ClassFile.FieldType.boolean) ∈ gw := mq_5 (i := 203) rfl rfl
theorem qw352 : Cond.static yX11_usesRight ∈ gw := mq_5 (i := 202) rfl rfl
theorem qw353 : Cond.fieldLink RX4 21 "Gearbox$Maker" "waiting" "[I" ∈ gw := mq_2 (i := 147) rfl rfl
theorem qw354 : Cond.code yX4_waitingAt cX4_waitingAt 2 (Option.some Jvm.ClassFile.FieldType.int) ∈ gw := mq_5 (i := 210) rfl rfl
theorem qw355 : Cond.methodLink RX4 153 yX4_waitingAt ∈ gw := mq_5 (i := 207) rfl rfl
theorem qw356 : Cond.instanceMethod yX4_waitingAt ∈ gw := mq_5 (i := 209) rfl rfl
theorem qw357 : Cond.selects RX4 yX4_waitingAt yX4_waitingAt ∈ gw := mk_s (i := 18) rfl rfl
theorem qw358 : Cond.methodLink RX4 163 yJ9_max_7cf53 ∈ gw := mq_5 (i := 214) rfl rfl
theorem qw359 : Cond.static yJ9_max_7cf53 ∈ gw := mq_4 (i := 164) rfl rfl
theorem qw360 : Cond.code yJ9_max_7cf53 cJ9_max_7cf53 2 (Option.some Jvm.ClassFile.FieldType.int) ∈ gw := mq_4 (i := 165) rfl rfl
theorem qw361 : Cond.code yX4_takesOne cX4_takesOne 1 (Option.some Jvm.ClassFile.FieldType.boolean) ∈ gw := mq_5 (i := 213) rfl rfl
theorem qw362 : Cond.methodLink RX4 157 yX4_takesOne ∈ gw := mq_5 (i := 211) rfl rfl
theorem qw363 : Cond.static yX4_takesOne ∈ gw := mq_5 (i := 212) rfl rfl
theorem qw364 : Cond.fieldLink RX4 160 "Gearbox$Program" "parameters" "[I" ∈ gw := mq_3 (i := 162) rfl rfl
def fJ7_fill_d0a16_L6 (p0n : Nat) (p1 : Int64) : Nat → Int32 → RL → Option RL
  | 0 => fun _ _ => none
  | n_6 + 1 => fun v3_6 p0f_6 => (if (Int32.ofNat p0n) ≤ v3_6 then some p0f_6 else (if ixb v3_6 p0n = true then (lt9 (vp_updL p0f_6 (nn v3_6) p1) fun (f3 : RL) => ((fJ7_fill_d0a16_L6 p0n p1 n_6) (v3_6 + 1) f3)) else none))
def fJ7_fill_d0a16 (p0n : Nat) (p0f : RL) (p1 : Int64) : Option RL := ((fJ7_fill_d0a16_L6 p0n p1 NF 0 p0f).bind fun (o6 : RL) => some o6)
set_option maxHeartbeats 16000000 in
set_option maxRecDepth 100000 in
theorem kJ7_fill_d0a16 {zs : ZS} (l : Launch) (dC : Nat → ClassId) (dI : Nat → Nat → Nat) (p0a : Nat) (p0k : ClassId) (p0n : Nat) (p0f : RL) (p1 : Int64) (sz : Nat) (o : RL) (hrun : fJ7_fill_d0a16 p0n p0f p1 = some o) : Met l yJ7_fill_d0a16 (wz yJ7_fill_d0a16 cJ7_fill_d0a16 5 (Option.none : Option Jvm.ClassFile.FieldType)) ({ frames := 0, cells := 0, slots := 0, locals := 0 } : Room) (va_Pc [.ref p0a, .long p1] (PRE zs dC dI (List.flatten ([[(p0a, .inl (p0k, p0n, .inr (.inl p0f)))]] : List va_W)) (List.flatten ([[(p0k, .long)]] : List (List (ClassId × FieldType)))) sz)) (va_Qv (fun (_ : Unit) => True) (fun _ t => POST dC dI (List.flatten ([[(p0a, .inl (p0k, p0n, .inr (.inl o)))]] : List va_W)) (List.flatten ([[(p0k, .long)]] : List (List (ClassId × FieldType)))) (va_A (List.flatten ([[(p0a, .inl (p0k, p0n, .inr (.inl p0f)))]] : List va_W)) sz) t) (va_A (List.flatten ([[(p0a, .inl (p0k, p0n, .inr (.inl p0f)))]] : List va_W)) sz)) 0 0 (va_A (List.flatten ([[(p0a, .inl (p0k, p0n, .inr (.inl p0f)))]] : List va_W)) sz) := by
  refine Met.ofW (cc := cJ7_fill_d0a16) (maxL := 5) (ret := (Option.none : Option Jvm.ClassFile.FieldType)) (by decide) rfl ?_
  intro p e s m args below meth c s₁ B hml hv
  obtain ⟨rfl, hsz, hP, hK, hD0, hE⟩ := hv
  have hx := B.exec
  have hb := B.bytes
  have hr := B.returns
  have hts0 := atoms_spec (ws := wz yJ7_fill_d0a16 cJ7_fill_d0a16 5 (Option.none : Option Jvm.ClassFile.FieldType)) B.pre
  have hts : ∀ w ∈ gw, w.before _ s = true := fun w h => hts0 w (List.mem_cons_of_mem _ h)
  have hown : s.vm.findClass RJ7 = some m.cls := findClass_of_methodNamed B.named
  have hlocks := B.notSynchronized
  subst hsz
  have hD := hD0.self (sz := s.heap.size)
  refine gQ9 ?_
  intro Q hQ
  generalize hAe : va_A (List.flatten ([[(p0a, .inl (p0k, p0n, .inr (.inl p0f)))]] : List va_W)) s.heap.size = A at hD hE hQ
  have hA : ∀ q : Nat, s.heap.size ≤ q → A q := fun q h => by rw [← hAe]; exact Or.inr h
  have hS : va_S A s.heap s.heap [] := va_S.rf
  have hP : va_P (dC, dI) cls (List.flatten ([[(p0a, .inl (p0k, p0n, .inr (.inl p0f)))]] : List va_W)) s.heap := hP
  have hl := lv_entry ([.ref p0a, .long p1]) (n := 5) (Nat.le_of_ble_eq_true rfl)
  rw [lg_entry_eq]
  generalize (lg_sl ([.ref p0a, .long p1]) ++ List.replicate (5 - (lg_sl ([.ref p0a, .long p1])).length) Slot.unset).toArray = ls at hl ⊢
  have hl : lv_has ls 5 [(0, .ref p0a), (1, .long p1)] := hl
  obtain ⟨H, hHe⟩ : ∃ H, H = s.heap := ⟨_, rfl⟩
  obtain ⟨locs, hle⟩ : ∃ locs : List Loc, locs = [] := ⟨_, rfl⟩
  rw [← hHe] at hP
  have hS : va_S A s.heap H locs := by rw [hHe, hle]; exact hS
  show W p l e ({ frames := 0, cells := 0, slots := 0, locals := 0 } : Room) s m ([.ref p0a, .long p1] : List Value).toArray below meth c s.heap [] 0 0 Q (F0 m 0 ls [])
  rw [← hle]
  refine wH9 hHe ?_
  unfold fJ7_fill_d0a16 at hrun
  refine lv_iconst (v := 0) hx hb dJ7_fill_d0a16_0 (by decide) ?_
  refine lv_istore_n (lv' := [(3, .int 0), (0, .ref p0a), (1, .long p1)]) hx hb dJ7_fill_d0a16_1 rfl hl (by decide) rfl (fun ls hl => ?_)
  refine lv_aload_n hx hb dJ7_fill_d0a16_2 rfl (lv_at hl 1 rfl) ?_
  refine va_alen (v := (Int32.ofNat p0n)) hx hb hK hP 0 0 rfl rfl rfl dJ7_fill_d0a16_3 ?_
  refine lv_istore (lv' := [(4, .int (Int32.ofNat p0n)), (3, .int 0), (0, .ref p0a), (1, .long p1)]) hx hb dJ7_fill_d0a16_4 hl (by decide) rfl (fun ls hl => ?_)
  have L6 : ∀ (n_6 : Nat) (v3_6 : Int32) (p0f_6 : RL) (o6 : RL) (H : Heap) (locs : List Loc) (ls : Array Slot), (fJ7_fill_d0a16_L6 p0n p1 n_6) v3_6 p0f_6 = some o6 → va_P (dC, dI) cls (List.flatten ([[(p0a, .inl (p0k, p0n, .inr (.inl p0f_6)))]] : List va_W)) H → va_D A (List.flatten ([[(p0a, .inl (p0k, p0n, .inr (.inl p0f_6)))]] : List va_W)) → va_K (dC, dI) cls (List.flatten ([[(p0k, .long)]] : List (List (ClassId × FieldType)))) s → va_S A s.heap H locs → lv_has ls 5 [(0, .ref p0a), (1, .long p1), (3, .int v3_6), (4, .int (Int32.ofNat p0n))] → (∀ (H : Heap) (locs : List Loc) (ls : Array Slot), va_P (dC, dI) cls (List.flatten ([[(p0a, .inl (p0k, p0n, .inr (.inl o6)))]] : List va_W)) H → va_D A (List.flatten ([[(p0a, .inl (p0k, p0n, .inr (.inl o6)))]] : List va_W)) → va_K (dC, dI) cls (List.flatten ([[(p0k, .long)]] : List (List (ClassId × FieldType)))) s → va_S A s.heap H locs → lv_has ls 5 [] → W p l e ({ frames := 0, cells := 0, slots := 0, locals := 0 } : Room) s m ([.ref p0a, .long p1] : List Value).toArray below meth c H locs 0 0 Q (F0 m 22 ls [])) → W p l e ({ frames := 0, cells := 0, slots := 0, locals := 0 } : Room) s m ([.ref p0a, .long p1] : List Value).toArray below meth c H locs 0 0 Q (F0 m 6 ls []) := by
    intro n_6
    induction n_6 with
    | zero => intro v3_6 p0f_6 o6 H locs ls hrun; exact (no9 rfl hrun).elim
    | succ n_6 IH6 =>
      intro v3_6 p0f_6 o6 H locs ls hrun hP hD hK hS hl hk6
      unfold fJ7_fill_d0a16_L6 at hrun
      refine lv_iload_n hx hb dJ7_fill_d0a16_6 rfl (lv_at hl 2 rfl) ?_
      refine lv_iload hx hb dJ7_fill_d0a16_7 (lv_at hl 3 rfl) ?_
      rcases br9 hrun with ⟨hc1, hrun⟩ | ⟨hc1, hrun⟩
      · refine lv_icmp_ge (tgt := 22) hx hb dJ7_fill_d0a16_9 (by decide) (fun _ => ?_) (fun c => absurd hc1 c)
        obtain rfl := (Option.some.inj hrun)
        exact hk6 _ _ _ hP hD hK hS (lv_sub hl [] rfl)
      · refine lv_icmp_ge (tgt := 22) hx hb dJ7_fill_d0a16_9 (by decide) (fun c => absurd c hc1) (fun _ => ?_)
        refine lv_aload_n hx hb dJ7_fill_d0a16_12 rfl (lv_at hl 0 rfl) ?_
        refine lv_iload_n hx hb dJ7_fill_d0a16_13 rfl (lv_at hl 2 rfl) ?_
        refine lv_lload_n hx hb dJ7_fill_d0a16_14 rfl (lv_at hl 1 rfl) ?_
        obtain ⟨hq2, hrun⟩ := chk9 hrun
        refine va_last hx hb hK hP hD hS 0 0 rfl rfl (ixb_in hq2) dJ7_fill_d0a16_15 (fun H locs hP hD hS => ?_)
        have hP : va_P (dC, dI) cls (List.flatten ([[(p0a, .inl (p0k, p0n, .inr (.inl (vp_updL p0f_6 (nn v3_6) p1))))]] : List va_W)) H := hP
        have hD : va_D A (List.flatten ([[(p0a, .inl (p0k, p0n, .inr (.inl (vp_updL p0f_6 (nn v3_6) p1))))]] : List va_W)) := hD
        obtain ⟨f3, ef3, hrun⟩ := let9 hrun
        rw [← ef3] at hP hD
        refine lv_iinc (v := (v3_6 + 1)) (lv' := [(3, .int (v3_6 + 1)), (0, .ref p0a), (1, .long p1), (4, .int (Int32.ofNat p0n))]) hx hb dJ7_fill_d0a16_16 hl (k := 2) rfl rfl (by decide) rfl (fun ls hl => ?_)
        refine lv_goto (tgt := 6) hx hb dJ7_fill_d0a16_19 (by decide) ?_
        exact IH6 (v3_6 + 1) f3 o6 _ _ _ hrun hP hD hK hS (lv_sub hl [1, 2, 0, 3] rfl) hk6
  obtain ⟨o6, hc6, hrun⟩ := bnd9 hrun
  refine L6 NF 0 p0f o6 _ _ _ hc6 hP hD hK hS (lv_sub hl [2, 3, 1, 0] rfl) ?_
  intro H locs ls hP hD hK hS hl
  have hl := hl
  have ho9 : o6 = o := Option.some.inj hrun
  have hP9 : va_P (dC, dI) cls (List.flatten ([[(p0a, .inl (p0k, p0n, .inr (.inl o)))]] : List va_W)) H := by first | exact hP | (rw [← ho9]; exact hP)
  have hD9 : va_D A (List.flatten ([[(p0a, .inl (p0k, p0n, .inr (.inl o)))]] : List va_W)) := by first | exact hD | (rw [← ho9]; exact hD)
  subst hQ
  exact W.vret hx hb hr (fun t ht hW => ⟨⟨(), rfl, trivial, ⟨by rw [ht]; exact hP9, va_K.moved hW.alike hK, hD9⟩⟩, hS.F ht⟩) hS.2.2 dJ7_fill_d0a16_22
def fX4_findBorders_J97 (kk45 : Int32 → SL → Option SL) (v6_45 : Int32) (p0l_97 : SL) : Option SL := (kk45 (v6_45 + 1) p0l_97)
def fX4_findBorders_J84 (kk45 : Int32 → SL → Option SL) (v2_10 : Int32) (v6_45 : Int32) (p0l_45 : SL) : Option SL := (if ixb v6_45 60 = true then (if ixb v6_45 60 = true then (lt9 (upl p0l_45 18 (nn v6_45) ((p0l_45 18 (nn v6_45)) ||| (((1 : Int64) <<< ((v2_10 : Int32).toInt64 &&& 63))))) fun (l15 : SL) => (fX4_findBorders_J97 kk45 v6_45 l15)) else none) else none)
def fX4_findBorders_L45 (p1w : ST) (p1l : SL) (v2_10 : Int32) (o_6 : Int32) : Nat → Int32 → SL → Option SL
  | 0 => fun _ _ => none
  | n_45 + 1 => fun v6_45 p0l_45 => (if (p1w 0 0) ≤ v6_45 then some p0l_45 else ((fX11_holds (p1l 16 (nn o_6)) v6_45).bind fun (o_10 : Int32) => (if o_10 = 0 then (fX4_findBorders_J97 (fX4_findBorders_L45 p1w p1l v2_10 o_6 n_45) v6_45 p0l_45) else (if v6_45 = v2_10 then (fX4_findBorders_J84 (fX4_findBorders_L45 p1w p1l v2_10 o_6 n_45) v2_10 v6_45 p0l_45) else (if ixb v2_10 60 = true then ((fX11_holds (p1l 16 (nn v2_10)) v6_45).bind fun (o_18 : Int32) => (if o_18 = 0 then (fX4_findBorders_J84 (fX4_findBorders_L45 p1w p1l v2_10 o_6 n_45) v2_10 v6_45 p0l_45) else (fX4_findBorders_J97 (fX4_findBorders_L45 p1w p1l v2_10 o_6 n_45) v6_45 p0l_45))) else none)))))
def fX4_findBorders_L20 (p1w : ST) (p1l : SL) (v2_10 : Int32) : Nat → Int32 → SL → Option SL
  | 0 => fun _ _ => none
  | n_20 + 1 => fun v3_20 p0l_20 => ((fX1_waysTo p1w v2_10).bind fun (o_3 : Int32) => (if o_3 ≤ v3_20 then some p0l_20 else ((fX1_wayFrom p1w v2_10 v3_20).bind fun (o_6 : Int32) => (if ixb o_6 60 = true then ((fX4_findBorders_L45 p1w p1l v2_10 o_6 NF 0 p0l_20).bind fun (o45 : SL) => ((fX4_findBorders_L20 p1w p1l v2_10 n_20) (v3_20 + 1) o45)) else none))))
def fX4_findBorders_L10 (p1w : ST) (p1l : SL) : Nat → Int32 → SL → Option SL
  | 0 => fun _ _ => none
  | n_10 + 1 => fun v2_10 p0l_10 => (if (p1w 0 0) ≤ v2_10 then some p0l_10 else ((fX4_findBorders_L20 p1w p1l v2_10 NF 0 p0l_10).bind fun (o20 : SL) => ((fX4_findBorders_L10 p1w p1l n_10) (v2_10 + 1) o20)))
def fX4_findBorders (p0l : SL) (p1w : ST) (p1l : SL) : Option SL := ((fJ7_fill_d0a16 60 (p0l 18) 0).bind fun (o_1 : RL) => ((fX4_findBorders_L10 p1w p1l NF 0 (srl p0l 18 o_1)).bind fun (o10 : SL) => some o10))
set_option maxHeartbeats 16000000 in
set_option maxRecDepth 100000 in
theorem kX4_findBorders {zs : ZS} (l : Launch) (dC : Nat → ClassId) (dI : Nat → Nat → Nat) (p0a : Nat → Nat) (p0k : Nat → ClassId) (p0w : ST) (p0l : SL) (p1a : Nat → Nat) (p1k : Nat → ClassId) (p1n : Nat → Nat) (p1w : ST) (p1l : SL) (sz : Nat) (o : SL) (hrun : fX4_findBorders p0l p1w p1l = some o) : Met l yX4_findBorders (wz yX4_findBorders cX4_findBorders 7 (Option.none : Option Jvm.ClassFile.FieldType)) ({ frames := 1, cells := 0, slots := 0, locals := 24 } : Room) (va_Pc [.ref (p0a 0), .ref (p1a 0)] (PRE zs dC dI (List.flatten ([(oX4 (p0a 0) p0a p0k p0w p0l), (oX1 (p1a 0) p1a p1k p1n p1w p1l)] : List va_W)) (List.flatten ([(tX4 p0k), (tX1 p1k)] : List (List (ClassId × FieldType)))) sz)) (va_Qv (fun (_ : Unit) => True) (fun _ t => POST dC dI (List.flatten ([(oX4 (p0a 0) p0a p0k p0w o), (oX1 (p1a 0) p1a p1k p1n p1w p1l)] : List va_W)) (List.flatten ([(tX4 p0k), (tX1 p1k)] : List (List (ClassId × FieldType)))) (va_A (List.flatten ([(oX4 (p0a 0) p0a p0k p0w p0l), (oX1 (p1a 0) p1a p1k p1n p1w p1l)] : List va_W)) sz) t) (va_A (List.flatten ([(oX4 (p0a 0) p0a p0k p0w p0l), (oX1 (p1a 0) p1a p1k p1n p1w p1l)] : List va_W)) sz)) 0 0 (va_A (List.flatten ([(oX4 (p0a 0) p0a p0k p0w p0l), (oX1 (p1a 0) p1a p1k p1n p1w p1l)] : List va_W)) sz) := by
  refine Met.ofW (cc := cX4_findBorders) (maxL := 7) (ret := (Option.none : Option Jvm.ClassFile.FieldType)) (by decide) rfl ?_
  intro p e s m args below meth c s₁ B hml hv
  obtain ⟨rfl, hsz, hP, hK, hD0, hE⟩ := hv
  have hx := B.exec
  have hb := B.bytes
  have hr := B.returns
  have hts0 := atoms_spec (ws := wz yX4_findBorders cX4_findBorders 7 (Option.none : Option Jvm.ClassFile.FieldType)) B.pre
  have hts : ∀ w ∈ gw, w.before _ s = true := fun w h => hts0 w (List.mem_cons_of_mem _ h)
  have hown : s.vm.findClass RX4 = some m.cls := findClass_of_methodNamed B.named
  have hlocks := B.notSynchronized
  subst hsz
  have hD := hD0.self (sz := s.heap.size)
  refine gQ9 ?_
  intro Q hQ
  generalize hAe : va_A (List.flatten ([(oX4 (p0a 0) p0a p0k p0w p0l), (oX1 (p1a 0) p1a p1k p1n p1w p1l)] : List va_W)) s.heap.size = A at hD hE hQ
  have hA : ∀ q : Nat, s.heap.size ≤ q → A q := fun q h => by rw [← hAe]; exact Or.inr h
  have hS : va_S A s.heap s.heap [] := va_S.rf
  have hP : va_P (dC, dI) cls (List.flatten ([(oX4 (p0a 0) p0a p0k p0w p0l), (oX1 (p1a 0) p1a p1k p1n p1w p1l)] : List va_W)) s.heap := hP
  have hl := lv_entry ([.ref (p0a 0), .ref (p1a 0)]) (n := 7) (Nat.le_of_ble_eq_true rfl)
  rw [lg_entry_eq]
  generalize (lg_sl ([.ref (p0a 0), .ref (p1a 0)]) ++ List.replicate (7 - (lg_sl ([.ref (p0a 0), .ref (p1a 0)])).length) Slot.unset).toArray = ls at hl ⊢
  have hl : lv_has ls 7 [(0, .ref (p0a 0)), (1, .ref (p1a 0))] := hl
  obtain ⟨H, hHe⟩ : ∃ H, H = s.heap := ⟨_, rfl⟩
  obtain ⟨locs, hle⟩ : ∃ locs : List Loc, locs = [] := ⟨_, rfl⟩
  rw [← hHe] at hP
  have hS : va_S A s.heap H locs := by rw [hHe, hle]; exact hS
  show W p l e ({ frames := 1, cells := 0, slots := 0, locals := 24 } : Room) s m ([.ref (p0a 0), .ref (p1a 0)] : List Value).toArray below meth c s.heap [] 0 0 Q (F0 m 0 ls [])
  rw [← hle]
  refine wH9 hHe ?_
  unfold fX4_findBorders at hrun
  refine lv_aload_n hx hb dX4_findBorders_0 rfl (lv_at hl 0 rfl) ?_
  refine va_get (D := (dC, dI)) (ci := 6) (v := .ref (p0a 18)) (C := RX4) (T := TX4) (N := 20) hx hb hts i_X4 hown hK hP 0 rfl rfl 17 (by decide) (hts _ qw320) (fun _ h9 => h9) rfl dX4_findBorders_1 ?_
  refine lv_lconst (v := 0) hx hb dX4_findBorders_4 (by decide) ?_
  obtain ⟨o_1, hc_1, hrun⟩ := bnd9 hrun
  have hP2 : va_P (dC, dI) cls (List.flatten ([[((p0a 18), .inl ((p0k 18), 60, .inr (.inl (p0l 18))))], [((p0a 0), .inr (6, [.ref (p0a 1), .ref (p0a 2), .ref (p0a 3), .ref (p0a 4), .ref (p0a 5), .int (p0w 0 5), .ref (p0a 7), .ref (p0a 8), .ref (p0a 9), .ref (p0a 10), .ref (p0a 11), .ref (p0a 12), .ref (p0a 13), .ref (p0a 14), .ref (p0a 15), .ref (p0a 16), .ref (p0a 17), .ref (p0a 18), .ref (p0a 19), .ref (p0a 20)])), ((p0a 2), .inl ((p0k 2), 3200, .inl (p0w 2))), ((p0a 3), .inl ((p0k 3), 3200, .inl (p0w 3))), ((p0a 4), .inl ((p0k 4), 3200, .inl (p0w 4))), ((p0a 5), .inl ((p0k 5), 512, .inl (p0w 5))), ((p0a 7), .inl ((p0k 7), 640, .inl (p0w 7))), ((p0a 8), .inl ((p0k 8), 640, .inl (p0w 8))), ((p0a 9), .inl ((p0k 9), 640, .inl (p0w 9))), ((p0a 10), .inl ((p0k 10), 640, .inl (p0w 10))), ((p0a 11), .inl ((p0k 11), 640, .inl (p0w 11))), ((p0a 12), .inl ((p0k 12), 640, .inl (p0w 12))), ((p0a 13), .inl ((p0k 13), 640, .inl (p0w 13))), ((p0a 14), .inl ((p0k 14), 640, .inl (p0w 14))), ((p0a 15), .inl ((p0k 15), 60, .inl (p0w 15))), ((p0a 16), .inl ((p0k 16), 320, .inr (.inl (p0l 16)))), ((p0a 17), .inl ((p0k 17), 320, .inr (.inl (p0l 17)))), ((p0a 19), .inl ((p0k 19), 250, .inl (p0w 19))), ((p0a 20), .inl ((p0k 20), 19200, .inl (p0w 20)))], (oX1 (p1a 0) p1a p1k p1n p1w p1l)] : List va_W)) H := vP_perm hP ((bP (List.Perm.refl _)).trans (List.Perm.append_right _ (List.perm_middle (a := (((p0a 18), .inl ((p0k 18), 60, .inr (.inl (p0l 18)))) : Nat × va_E)) (l₁ := ([((p0a 0), .inr (6, [.ref (p0a 1), .ref (p0a 2), .ref (p0a 3), .ref (p0a 4), .ref (p0a 5), .int (p0w 0 5), .ref (p0a 7), .ref (p0a 8), .ref (p0a 9), .ref (p0a 10), .ref (p0a 11), .ref (p0a 12), .ref (p0a 13), .ref (p0a 14), .ref (p0a 15), .ref (p0a 16), .ref (p0a 17), .ref (p0a 18), .ref (p0a 19), .ref (p0a 20)])), ((p0a 2), .inl ((p0k 2), 3200, .inl (p0w 2))), ((p0a 3), .inl ((p0k 3), 3200, .inl (p0w 3))), ((p0a 4), .inl ((p0k 4), 3200, .inl (p0w 4))), ((p0a 5), .inl ((p0k 5), 512, .inl (p0w 5))), ((p0a 7), .inl ((p0k 7), 640, .inl (p0w 7))), ((p0a 8), .inl ((p0k 8), 640, .inl (p0w 8))), ((p0a 9), .inl ((p0k 9), 640, .inl (p0w 9))), ((p0a 10), .inl ((p0k 10), 640, .inl (p0w 10))), ((p0a 11), .inl ((p0k 11), 640, .inl (p0w 11))), ((p0a 12), .inl ((p0k 12), 640, .inl (p0w 12))), ((p0a 13), .inl ((p0k 13), 640, .inl (p0w 13))), ((p0a 14), .inl ((p0k 14), 640, .inl (p0w 14))), ((p0a 15), .inl ((p0k 15), 60, .inl (p0w 15))), ((p0a 16), .inl ((p0k 16), 320, .inr (.inl (p0l 16)))), ((p0a 17), .inl ((p0k 17), 320, .inr (.inl (p0l 17))))] : va_W)) (l₂ := ([((p0a 19), .inl ((p0k 19), 250, .inl (p0w 19))), ((p0a 20), .inl ((p0k 20), 19200, .inl (p0w 20)))] : va_W)))))
  have hD2 : va_D A (List.flatten ([[((p0a 18), .inl ((p0k 18), 60, .inr (.inl (p0l 18))))], [((p0a 0), .inr (6, [.ref (p0a 1), .ref (p0a 2), .ref (p0a 3), .ref (p0a 4), .ref (p0a 5), .int (p0w 0 5), .ref (p0a 7), .ref (p0a 8), .ref (p0a 9), .ref (p0a 10), .ref (p0a 11), .ref (p0a 12), .ref (p0a 13), .ref (p0a 14), .ref (p0a 15), .ref (p0a 16), .ref (p0a 17), .ref (p0a 18), .ref (p0a 19), .ref (p0a 20)])), ((p0a 2), .inl ((p0k 2), 3200, .inl (p0w 2))), ((p0a 3), .inl ((p0k 3), 3200, .inl (p0w 3))), ((p0a 4), .inl ((p0k 4), 3200, .inl (p0w 4))), ((p0a 5), .inl ((p0k 5), 512, .inl (p0w 5))), ((p0a 7), .inl ((p0k 7), 640, .inl (p0w 7))), ((p0a 8), .inl ((p0k 8), 640, .inl (p0w 8))), ((p0a 9), .inl ((p0k 9), 640, .inl (p0w 9))), ((p0a 10), .inl ((p0k 10), 640, .inl (p0w 10))), ((p0a 11), .inl ((p0k 11), 640, .inl (p0w 11))), ((p0a 12), .inl ((p0k 12), 640, .inl (p0w 12))), ((p0a 13), .inl ((p0k 13), 640, .inl (p0w 13))), ((p0a 14), .inl ((p0k 14), 640, .inl (p0w 14))), ((p0a 15), .inl ((p0k 15), 60, .inl (p0w 15))), ((p0a 16), .inl ((p0k 16), 320, .inr (.inl (p0l 16)))), ((p0a 17), .inl ((p0k 17), 320, .inr (.inl (p0l 17)))), ((p0a 19), .inl ((p0k 19), 250, .inl (p0w 19))), ((p0a 20), .inl ((p0k 20), 19200, .inl (p0w 20)))], (oX1 (p1a 0) p1a p1k p1n p1w p1l)] : List va_W)) := vD_perm hD ((bP (List.Perm.refl _)).trans (List.Perm.append_right _ (List.perm_middle (a := (((p0a 18), .inl ((p0k 18), 60, .inr (.inl (p0l 18)))) : Nat × va_E)) (l₁ := ([((p0a 0), .inr (6, [.ref (p0a 1), .ref (p0a 2), .ref (p0a 3), .ref (p0a 4), .ref (p0a 5), .int (p0w 0 5), .ref (p0a 7), .ref (p0a 8), .ref (p0a 9), .ref (p0a 10), .ref (p0a 11), .ref (p0a 12), .ref (p0a 13), .ref (p0a 14), .ref (p0a 15), .ref (p0a 16), .ref (p0a 17), .ref (p0a 18), .ref (p0a 19), .ref (p0a 20)])), ((p0a 2), .inl ((p0k 2), 3200, .inl (p0w 2))), ((p0a 3), .inl ((p0k 3), 3200, .inl (p0w 3))), ((p0a 4), .inl ((p0k 4), 3200, .inl (p0w 4))), ((p0a 5), .inl ((p0k 5), 512, .inl (p0w 5))), ((p0a 7), .inl ((p0k 7), 640, .inl (p0w 7))), ((p0a 8), .inl ((p0k 8), 640, .inl (p0w 8))), ((p0a 9), .inl ((p0k 9), 640, .inl (p0w 9))), ((p0a 10), .inl ((p0k 10), 640, .inl (p0w 10))), ((p0a 11), .inl ((p0k 11), 640, .inl (p0w 11))), ((p0a 12), .inl ((p0k 12), 640, .inl (p0w 12))), ((p0a 13), .inl ((p0k 13), 640, .inl (p0w 13))), ((p0a 14), .inl ((p0k 14), 640, .inl (p0w 14))), ((p0a 15), .inl ((p0k 15), 60, .inl (p0w 15))), ((p0a 16), .inl ((p0k 16), 320, .inr (.inl (p0l 16)))), ((p0a 17), .inl ((p0k 17), 320, .inr (.inl (p0l 17))))] : va_W)) (l₂ := ([((p0a 19), .inl ((p0k 19), 250, .inl (p0w 19))), ((p0a 20), .inl ((p0k 20), 19200, .inl (p0w 20)))] : va_W)))))
  have hK2 : va_K (dC, dI) cls (List.flatten ([[((p0k 18), .long)], [((p0k 2), .int), ((p0k 3), .int), ((p0k 4), .int), ((p0k 5), .int), ((p0k 7), .int), ((p0k 8), .int), ((p0k 9), .int), ((p0k 10), .int), ((p0k 11), .int), ((p0k 12), .int), ((p0k 13), .int), ((p0k 14), .int), ((p0k 15), .int), ((p0k 16), .long), ((p0k 17), .long), ((p0k 19), .int), ((p0k 20), .int)], (tX1 p1k)] : List (List (ClassId × FieldType)))) s := vK_perm hK ((bP (List.Perm.refl _)).trans (List.Perm.append_right _ (List.perm_middle (a := (((p0k 18), .long) : ClassId × FieldType)) (l₁ := ([((p0k 2), .int), ((p0k 3), .int), ((p0k 4), .int), ((p0k 5), .int), ((p0k 7), .int), ((p0k 8), .int), ((p0k 9), .int), ((p0k 10), .int), ((p0k 11), .int), ((p0k 12), .int), ((p0k 13), .int), ((p0k 14), .int), ((p0k 15), .int), ((p0k 16), .long), ((p0k 17), .long)] : List (ClassId × FieldType))) (l₂ := ([((p0k 19), .int), ((p0k 20), .int)] : List (ClassId × FieldType))))))
  have hPx : va_P (dC, dI) cls ((List.flatten ([[((p0a 18), .inl ((p0k 18), 60, .inr (.inl (p0l 18))))]] : List va_W)) ++ (List.flatten ([[((p0a 0), .inr (6, [.ref (p0a 1), .ref (p0a 2), .ref (p0a 3), .ref (p0a 4), .ref (p0a 5), .int (p0w 0 5), .ref (p0a 7), .ref (p0a 8), .ref (p0a 9), .ref (p0a 10), .ref (p0a 11), .ref (p0a 12), .ref (p0a 13), .ref (p0a 14), .ref (p0a 15), .ref (p0a 16), .ref (p0a 17), .ref (p0a 18), .ref (p0a 19), .ref (p0a 20)])), ((p0a 2), .inl ((p0k 2), 3200, .inl (p0w 2))), ((p0a 3), .inl ((p0k 3), 3200, .inl (p0w 3))), ((p0a 4), .inl ((p0k 4), 3200, .inl (p0w 4))), ((p0a 5), .inl ((p0k 5), 512, .inl (p0w 5))), ((p0a 7), .inl ((p0k 7), 640, .inl (p0w 7))), ((p0a 8), .inl ((p0k 8), 640, .inl (p0w 8))), ((p0a 9), .inl ((p0k 9), 640, .inl (p0w 9))), ((p0a 10), .inl ((p0k 10), 640, .inl (p0w 10))), ((p0a 11), .inl ((p0k 11), 640, .inl (p0w 11))), ((p0a 12), .inl ((p0k 12), 640, .inl (p0w 12))), ((p0a 13), .inl ((p0k 13), 640, .inl (p0w 13))), ((p0a 14), .inl ((p0k 14), 640, .inl (p0w 14))), ((p0a 15), .inl ((p0k 15), 60, .inl (p0w 15))), ((p0a 16), .inl ((p0k 16), 320, .inr (.inl (p0l 16)))), ((p0a 17), .inl ((p0k 17), 320, .inr (.inl (p0l 17)))), ((p0a 19), .inl ((p0k 19), 250, .inl (p0w 19))), ((p0a 20), .inl ((p0k 20), 19200, .inl (p0w 20)))], (oX1 (p1a 0) p1a p1k p1n p1w p1l)] : List va_W))) H := vP_fa (vP_perm hP2 (bP (List.Perm.refl _)))
  have hDx : va_D A ((List.flatten ([[((p0a 18), .inl ((p0k 18), 60, .inr (.inl (p0l 18))))]] : List va_W)) ++ (List.flatten ([[((p0a 0), .inr (6, [.ref (p0a 1), .ref (p0a 2), .ref (p0a 3), .ref (p0a 4), .ref (p0a 5), .int (p0w 0 5), .ref (p0a 7), .ref (p0a 8), .ref (p0a 9), .ref (p0a 10), .ref (p0a 11), .ref (p0a 12), .ref (p0a 13), .ref (p0a 14), .ref (p0a 15), .ref (p0a 16), .ref (p0a 17), .ref (p0a 18), .ref (p0a 19), .ref (p0a 20)])), ((p0a 2), .inl ((p0k 2), 3200, .inl (p0w 2))), ((p0a 3), .inl ((p0k 3), 3200, .inl (p0w 3))), ((p0a 4), .inl ((p0k 4), 3200, .inl (p0w 4))), ((p0a 5), .inl ((p0k 5), 512, .inl (p0w 5))), ((p0a 7), .inl ((p0k 7), 640, .inl (p0w 7))), ((p0a 8), .inl ((p0k 8), 640, .inl (p0w 8))), ((p0a 9), .inl ((p0k 9), 640, .inl (p0w 9))), ((p0a 10), .inl ((p0k 10), 640, .inl (p0w 10))), ((p0a 11), .inl ((p0k 11), 640, .inl (p0w 11))), ((p0a 12), .inl ((p0k 12), 640, .inl (p0w 12))), ((p0a 13), .inl ((p0k 13), 640, .inl (p0w 13))), ((p0a 14), .inl ((p0k 14), 640, .inl (p0w 14))), ((p0a 15), .inl ((p0k 15), 60, .inl (p0w 15))), ((p0a 16), .inl ((p0k 16), 320, .inr (.inl (p0l 16)))), ((p0a 17), .inl ((p0k 17), 320, .inr (.inl (p0l 17)))), ((p0a 19), .inl ((p0k 19), 250, .inl (p0w 19))), ((p0a 20), .inl ((p0k 20), 19200, .inl (p0w 20)))], (oX1 (p1a 0) p1a p1k p1n p1w p1l)] : List va_W))) := vD_fa (vD_perm hD2 (bP (List.Perm.refl _)))
  have hKx : va_K (dC, dI) cls ((List.flatten ([[((p0k 18), .long)]] : List (List (ClassId × FieldType)))) ++ (List.flatten ([[((p0k 2), .int), ((p0k 3), .int), ((p0k 4), .int), ((p0k 5), .int), ((p0k 7), .int), ((p0k 8), .int), ((p0k 9), .int), ((p0k 10), .int), ((p0k 11), .int), ((p0k 12), .int), ((p0k 13), .int), ((p0k 14), .int), ((p0k 15), .int), ((p0k 16), .long), ((p0k 17), .long), ((p0k 19), .int), ((p0k 20), .int)], (tX1 p1k)] : List (List (ClassId × FieldType))))) s := vK_fa (vK_perm hK2 (bP (List.Perm.refl _)))
  have hPc := vP_l hPx
  have hDc := vD_l hDx
  have hKc := vK_l hKx
  have hFc := vfree hDx hS hA
  refine va_callv (va_runS (As := [.ref (p0a 18), .long 0]) (rest := []) ⟨hx, hb, hml, hown, hts⟩ (kJ7_fill_d0a16 l dC dI (p0a := (p0a 18)) (p0k := (p0k 18)) (p0n := 60) (p0f := (p0l 18)) (p1 := 0) (sz := _) (o := o_1) (hrun := hc_1)) (va_cwS 2 hts (gi_S qw322 qw323 qw109 (gi_z qw321)) rfl rfl rfl (by decide +kernel) ⟨Nat.le_of_ble_eq_true rfl, Nat.le_of_ble_eq_true rfl⟩) ⟨PRE.blind, PRE.of hE hS hFc hPc hKc hDc⟩ rfl rfl hl.1 rfl (lv_room (Nat.le_of_ble_eq_true rfl)) dX4_findBorders_5 ⟨(Nat.le_of_ble_eq_true rfl), (Nat.le_of_ble_eq_true rfl)⟩) hS (fun q _ h => hFc q h) hFc (fun u t H locs ht hvm hw hB hz1 hk1 hS => ?_)
  obtain ⟨b1, b2, b3⟩ := hB
  rw [ht] at b1
  obtain ⟨hP, hD, hK⟩ := JOINC (wc := (List.flatten ([[((p0a 18), .inl ((p0k 18), 60, .inr (.inl (p0l 18))))]] : List va_W))) (wr := (List.flatten ([[((p0a 0), .inr (6, [.ref (p0a 1), .ref (p0a 2), .ref (p0a 3), .ref (p0a 4), .ref (p0a 5), .int (p0w 0 5), .ref (p0a 7), .ref (p0a 8), .ref (p0a 9), .ref (p0a 10), .ref (p0a 11), .ref (p0a 12), .ref (p0a 13), .ref (p0a 14), .ref (p0a 15), .ref (p0a 16), .ref (p0a 17), .ref (p0a 18), .ref (p0a 19), .ref (p0a 20)])), ((p0a 2), .inl ((p0k 2), 3200, .inl (p0w 2))), ((p0a 3), .inl ((p0k 3), 3200, .inl (p0w 3))), ((p0a 4), .inl ((p0k 4), 3200, .inl (p0w 4))), ((p0a 5), .inl ((p0k 5), 512, .inl (p0w 5))), ((p0a 7), .inl ((p0k 7), 640, .inl (p0w 7))), ((p0a 8), .inl ((p0k 8), 640, .inl (p0w 8))), ((p0a 9), .inl ((p0k 9), 640, .inl (p0w 9))), ((p0a 10), .inl ((p0k 10), 640, .inl (p0w 10))), ((p0a 11), .inl ((p0k 11), 640, .inl (p0w 11))), ((p0a 12), .inl ((p0k 12), 640, .inl (p0w 12))), ((p0a 13), .inl ((p0k 13), 640, .inl (p0w 13))), ((p0a 14), .inl ((p0k 14), 640, .inl (p0w 14))), ((p0a 15), .inl ((p0k 15), 60, .inl (p0w 15))), ((p0a 16), .inl ((p0k 16), 320, .inr (.inl (p0l 16)))), ((p0a 17), .inl ((p0k 17), 320, .inr (.inl (p0l 17)))), ((p0a 19), .inl ((p0k 19), 250, .inl (p0w 19))), ((p0a 20), .inl ((p0k 20), 19200, .inl (p0w 20)))], (oX1 (p1a 0) p1a p1k p1n p1w p1l)] : List va_W))) (w1 := (List.flatten ([[((p0a 18), .inl ((p0k 18), 60, .inr (.inl ((srl p0l 18 o_1) 18))))]] : List va_W))) (t1 := (List.flatten ([[((p0k 18), .long)]] : List (List (ClassId × FieldType))))) hPx hDx hKx hk1 hFc b1 (va_K.moved hvm.symm b2) b3
  have hP3 : va_P (dC, dI) cls (List.flatten ([(oX4 (p0a 0) p0a p0k p0w (srl p0l 18 o_1)), (oX1 (p1a 0) p1a p1k p1n p1w p1l)] : List va_W)) H := vP_perm (vP_fb hP) ((bP (List.Perm.refl _)).trans (List.Perm.append_right _ (List.perm_middle (a := (((p0a 18), .inl ((p0k 18), 60, .inr (.inl ((srl p0l 18 o_1) 18)))) : Nat × va_E)) (l₁ := ([((p0a 0), .inr (6, [.ref (p0a 1), .ref (p0a 2), .ref (p0a 3), .ref (p0a 4), .ref (p0a 5), .int (p0w 0 5), .ref (p0a 7), .ref (p0a 8), .ref (p0a 9), .ref (p0a 10), .ref (p0a 11), .ref (p0a 12), .ref (p0a 13), .ref (p0a 14), .ref (p0a 15), .ref (p0a 16), .ref (p0a 17), .ref (p0a 18), .ref (p0a 19), .ref (p0a 20)])), ((p0a 2), .inl ((p0k 2), 3200, .inl (p0w 2))), ((p0a 3), .inl ((p0k 3), 3200, .inl (p0w 3))), ((p0a 4), .inl ((p0k 4), 3200, .inl (p0w 4))), ((p0a 5), .inl ((p0k 5), 512, .inl (p0w 5))), ((p0a 7), .inl ((p0k 7), 640, .inl (p0w 7))), ((p0a 8), .inl ((p0k 8), 640, .inl (p0w 8))), ((p0a 9), .inl ((p0k 9), 640, .inl (p0w 9))), ((p0a 10), .inl ((p0k 10), 640, .inl (p0w 10))), ((p0a 11), .inl ((p0k 11), 640, .inl (p0w 11))), ((p0a 12), .inl ((p0k 12), 640, .inl (p0w 12))), ((p0a 13), .inl ((p0k 13), 640, .inl (p0w 13))), ((p0a 14), .inl ((p0k 14), 640, .inl (p0w 14))), ((p0a 15), .inl ((p0k 15), 60, .inl (p0w 15))), ((p0a 16), .inl ((p0k 16), 320, .inr (.inl ((srl p0l 18 o_1) 16)))), ((p0a 17), .inl ((p0k 17), 320, .inr (.inl ((srl p0l 18 o_1) 17))))] : va_W)) (l₂ := ([((p0a 19), .inl ((p0k 19), 250, .inl (p0w 19))), ((p0a 20), .inl ((p0k 20), 19200, .inl (p0w 20)))] : va_W))).symm))
  have hD3 : va_D A (List.flatten ([(oX4 (p0a 0) p0a p0k p0w (srl p0l 18 o_1)), (oX1 (p1a 0) p1a p1k p1n p1w p1l)] : List va_W)) := vD_perm (vD_fb hD) ((bP (List.Perm.refl _)).trans (List.Perm.append_right _ (List.perm_middle (a := (((p0a 18), .inl ((p0k 18), 60, .inr (.inl ((srl p0l 18 o_1) 18)))) : Nat × va_E)) (l₁ := ([((p0a 0), .inr (6, [.ref (p0a 1), .ref (p0a 2), .ref (p0a 3), .ref (p0a 4), .ref (p0a 5), .int (p0w 0 5), .ref (p0a 7), .ref (p0a 8), .ref (p0a 9), .ref (p0a 10), .ref (p0a 11), .ref (p0a 12), .ref (p0a 13), .ref (p0a 14), .ref (p0a 15), .ref (p0a 16), .ref (p0a 17), .ref (p0a 18), .ref (p0a 19), .ref (p0a 20)])), ((p0a 2), .inl ((p0k 2), 3200, .inl (p0w 2))), ((p0a 3), .inl ((p0k 3), 3200, .inl (p0w 3))), ((p0a 4), .inl ((p0k 4), 3200, .inl (p0w 4))), ((p0a 5), .inl ((p0k 5), 512, .inl (p0w 5))), ((p0a 7), .inl ((p0k 7), 640, .inl (p0w 7))), ((p0a 8), .inl ((p0k 8), 640, .inl (p0w 8))), ((p0a 9), .inl ((p0k 9), 640, .inl (p0w 9))), ((p0a 10), .inl ((p0k 10), 640, .inl (p0w 10))), ((p0a 11), .inl ((p0k 11), 640, .inl (p0w 11))), ((p0a 12), .inl ((p0k 12), 640, .inl (p0w 12))), ((p0a 13), .inl ((p0k 13), 640, .inl (p0w 13))), ((p0a 14), .inl ((p0k 14), 640, .inl (p0w 14))), ((p0a 15), .inl ((p0k 15), 60, .inl (p0w 15))), ((p0a 16), .inl ((p0k 16), 320, .inr (.inl ((srl p0l 18 o_1) 16)))), ((p0a 17), .inl ((p0k 17), 320, .inr (.inl ((srl p0l 18 o_1) 17))))] : va_W)) (l₂ := ([((p0a 19), .inl ((p0k 19), 250, .inl (p0w 19))), ((p0a 20), .inl ((p0k 20), 19200, .inl (p0w 20)))] : va_W))).symm))
  have hK3 : va_K (dC, dI) cls (List.flatten ([(tX4 p0k), (tX1 p1k)] : List (List (ClassId × FieldType)))) s := vK_perm (vK_fb hK) ((bP (List.Perm.refl _)).trans (List.Perm.append_right _ (List.perm_middle (a := (((p0k 18), .long) : ClassId × FieldType)) (l₁ := ([((p0k 2), .int), ((p0k 3), .int), ((p0k 4), .int), ((p0k 5), .int), ((p0k 7), .int), ((p0k 8), .int), ((p0k 9), .int), ((p0k 10), .int), ((p0k 11), .int), ((p0k 12), .int), ((p0k 13), .int), ((p0k 14), .int), ((p0k 15), .int), ((p0k 16), .long), ((p0k 17), .long)] : List (ClassId × FieldType))) (l₂ := ([((p0k 19), .int), ((p0k 20), .int)] : List (ClassId × FieldType)))).symm))
  have hP : va_P (dC, dI) cls (List.flatten ([(oX4 (p0a 0) p0a p0k p0w (srl p0l 18 o_1)), (oX1 (p1a 0) p1a p1k p1n p1w p1l)] : List va_W)) H := vP_perm hP3 (bP (List.Perm.refl _))
  have hD : va_D A (List.flatten ([(oX4 (p0a 0) p0a p0k p0w (srl p0l 18 o_1)), (oX1 (p1a 0) p1a p1k p1n p1w p1l)] : List va_W)) := vD_perm hD3 (bP (List.Perm.refl _))
  have hK : va_K (dC, dI) cls (List.flatten ([(tX4 p0k), (tX1 p1k)] : List (List (ClassId × FieldType)))) s := vK_perm hK3 (bP (List.Perm.refl _))
  refine lv_iconst (v := 0) hx hb dX4_findBorders_8 (by decide) ?_
  refine lv_istore_n (lv' := [(2, .int 0), (0, .ref (p0a 0)), (1, .ref (p1a 0))]) hx hb dX4_findBorders_9 rfl hl (by decide) rfl (fun ls hl => ?_)
  have L10 : ∀ (n_10 : Nat) (v2_10 : Int32) (p0l_10 : SL) (o10 : SL) (H : Heap) (locs : List Loc) (ls : Array Slot), (fX4_findBorders_L10 p1w p1l n_10) v2_10 p0l_10 = some o10 → va_P (dC, dI) cls (List.flatten ([(oX4 (p0a 0) p0a p0k p0w p0l_10), (oX1 (p1a 0) p1a p1k p1n p1w p1l)] : List va_W)) H → va_D A (List.flatten ([(oX4 (p0a 0) p0a p0k p0w p0l_10), (oX1 (p1a 0) p1a p1k p1n p1w p1l)] : List va_W)) → va_K (dC, dI) cls (List.flatten ([(tX4 p0k), (tX1 p1k)] : List (List (ClassId × FieldType)))) s → va_S A s.heap H locs → lv_has ls 7 [(0, .ref (p0a 0)), (1, .ref (p1a 0)), (2, .int v2_10)] → (∀ (H : Heap) (locs : List Loc) (ls : Array Slot), va_P (dC, dI) cls (List.flatten ([(oX4 (p0a 0) p0a p0k p0w o10), (oX1 (p1a 0) p1a p1k p1n p1w p1l)] : List va_W)) H → va_D A (List.flatten ([(oX4 (p0a 0) p0a p0k p0w o10), (oX1 (p1a 0) p1a p1k p1n p1w p1l)] : List va_W)) → va_K (dC, dI) cls (List.flatten ([(tX4 p0k), (tX1 p1k)] : List (List (ClassId × FieldType)))) s → va_S A s.heap H locs → lv_has ls 7 [] → W p l e ({ frames := 1, cells := 0, slots := 0, locals := 24 } : Room) s m ([.ref (p0a 0), .ref (p1a 0)] : List Value).toArray below meth c H locs 0 0 Q (F0 m 115 ls [])) → W p l e ({ frames := 1, cells := 0, slots := 0, locals := 24 } : Room) s m ([.ref (p0a 0), .ref (p1a 0)] : List Value).toArray below meth c H locs 0 0 Q (F0 m 10 ls []) := by
    intro n_10
    induction n_10 with
    | zero => intro v2_10 p0l_10 o10 H locs ls hrun; exact (no9 rfl hrun).elim
    | succ n_10 IH10 =>
      intro v2_10 p0l_10 o10 H locs ls hrun hP hD hK hS hl hk10
      unfold fX4_findBorders_L10 at hrun
      refine lv_iload_n hx hb dX4_findBorders_10 rfl (lv_at hl 2 rfl) ?_
      refine lv_aload_n hx hb dX4_findBorders_11 rfl (lv_at hl 1 rfl) ?_
      refine va_get (D := (dC, dI)) (ci := 4) (v := .int (p1w 0 0)) (C := RX1) (T := TX1) (N := 21) hx hb hts i_X1 hown hK hP 19 rfl rfl 0 (by decide) (hts _ qw313) (fun _ h9 => h9) rfl dX4_findBorders_12 ?_
      rcases br9 hrun with ⟨hc2, hrun⟩ | ⟨hc2, hrun⟩
      · refine lv_icmp_ge (tgt := 115) hx hb dX4_findBorders_15 (by decide) (fun _ => ?_) (fun c => absurd hc2 c)
        obtain rfl := (Option.some.inj hrun)
        exact hk10 _ _ _ hP hD hK hS (lv_sub hl [] rfl)
      · refine lv_icmp_ge (tgt := 115) hx hb dX4_findBorders_15 (by decide) (fun c => absurd c hc2) (fun _ => ?_)
        refine lv_iconst (v := 0) hx hb dX4_findBorders_18 (by decide) ?_
        refine lv_istore_n (lv' := [(3, .int 0), (0, .ref (p0a 0)), (1, .ref (p1a 0)), (2, .int v2_10)]) hx hb dX4_findBorders_19 rfl hl (by decide) rfl (fun ls hl => ?_)
        have L20 : ∀ (n_20 : Nat) (v3_20 : Int32) (p0l_20 : SL) (o20 : SL) (H : Heap) (locs : List Loc) (ls : Array Slot), (fX4_findBorders_L20 p1w p1l v2_10 n_20) v3_20 p0l_20 = some o20 → va_P (dC, dI) cls (List.flatten ([(oX4 (p0a 0) p0a p0k p0w p0l_20), (oX1 (p1a 0) p1a p1k p1n p1w p1l)] : List va_W)) H → va_D A (List.flatten ([(oX4 (p0a 0) p0a p0k p0w p0l_20), (oX1 (p1a 0) p1a p1k p1n p1w p1l)] : List va_W)) → va_K (dC, dI) cls (List.flatten ([(tX4 p0k), (tX1 p1k)] : List (List (ClassId × FieldType)))) s → va_S A s.heap H locs → lv_has ls 7 [(0, .ref (p0a 0)), (1, .ref (p1a 0)), (2, .int v2_10), (3, .int v3_20)] → (∀ (H : Heap) (locs : List Loc) (ls : Array Slot), va_P (dC, dI) cls (List.flatten ([(oX4 (p0a 0) p0a p0k p0w o20), (oX1 (p1a 0) p1a p1k p1n p1w p1l)] : List va_W)) H → va_D A (List.flatten ([(oX4 (p0a 0) p0a p0k p0w o20), (oX1 (p1a 0) p1a p1k p1n p1w p1l)] : List va_W)) → va_K (dC, dI) cls (List.flatten ([(tX4 p0k), (tX1 p1k)] : List (List (ClassId × FieldType)))) s → va_S A s.heap H locs → lv_has ls 7 [(0, .ref (p0a 0)), (1, .ref (p1a 0)), (2, .int v2_10)] → W p l e ({ frames := 1, cells := 0, slots := 0, locals := 24 } : Room) s m ([.ref (p0a 0), .ref (p1a 0)] : List Value).toArray below meth c H locs 0 0 Q (F0 m 109 ls [])) → W p l e ({ frames := 1, cells := 0, slots := 0, locals := 24 } : Room) s m ([.ref (p0a 0), .ref (p1a 0)] : List Value).toArray below meth c H locs 0 0 Q (F0 m 20 ls []) := by
          intro n_20
          induction n_20 with
          | zero => intro v3_20 p0l_20 o20 H locs ls hrun; exact (no9 rfl hrun).elim
          | succ n_20 IH20 =>
            intro v3_20 p0l_20 o20 H locs ls hrun hP hD hK hS hl hk20
            unfold fX4_findBorders_L20 at hrun
            refine lv_iload_n hx hb dX4_findBorders_20 rfl (lv_at hl 3 rfl) ?_
            refine lv_aload_n hx hb dX4_findBorders_21 rfl (lv_at hl 1 rfl) ?_
            refine lv_iload_n hx hb dX4_findBorders_22 rfl (lv_at hl 2 rfl) ?_
            obtain ⟨o_3, hc_3, hrun⟩ := bnd9 hrun
            have hPx : va_P (dC, dI) cls ((List.flatten ([(oX1 (p1a 0) p1a p1k p1n p1w p1l)] : List va_W)) ++ (List.flatten ([(oX4 (p0a 0) p0a p0k p0w p0l_20)] : List va_W))) H := vP_fa (vP_perm hP (bP ((((List.Perm.refl _)).cons _).trans (List.Perm.swap _ _ _))))
            have hDx : va_D A ((List.flatten ([(oX1 (p1a 0) p1a p1k p1n p1w p1l)] : List va_W)) ++ (List.flatten ([(oX4 (p0a 0) p0a p0k p0w p0l_20)] : List va_W))) := vD_fa (vD_perm hD (bP ((((List.Perm.refl _)).cons _).trans (List.Perm.swap _ _ _))))
            have hKx : va_K (dC, dI) cls ((List.flatten ([(tX1 p1k)] : List (List (ClassId × FieldType)))) ++ (List.flatten ([(tX4 p0k)] : List (List (ClassId × FieldType))))) s := vK_fa (vK_perm hK (bP ((((List.Perm.refl _)).cons _).trans (List.Perm.swap _ _ _))))
            have hPc := vP_l hPx
            have hDc := vD_l hDx
            have hKc := vK_l hKx
            have hFc := vfree hDx hS hA
            refine va_calli (va_runV (As := [.int v2_10]) (rest := [.int v3_20]) ⟨hx, hb, hml, hown, hts⟩ (kX1_waysTo l dC dI (p0a := p1a) (p0k := p1k) (p0n := p1n) (p0w := p1w) (p0l := p1l) (p1 := v2_10) (sz := _) (o := o_3) (hrun := hc_3)) (cwV 1 hts (gi_V qw314 qw185 qw186 qw126 (gi_z qw183)) rfl rfl rfl (by decide +kernel) ⟨Nat.le_of_ble_eq_true rfl, Nat.le_of_ble_eq_true rfl⟩) ⟨PRE.blind, va_recv hKc hPc (ci := 4) (q0 := 0) rfl rfl, PRE.of hE hS hFc hPc hKc hDc⟩ rfl rfl hl.1 rfl (lv_room (Nat.le_of_ble_eq_true rfl)) dX4_findBorders_23 ⟨(Nat.le_of_ble_eq_true rfl), (Nat.le_of_ble_eq_true rfl)⟩) hS (fun q _ h => hFc q h) hFc (fun r4 u t H locs ht hvm hw hB hz1 hk1 hS => ?_)
            obtain ⟨b1, b2, b3⟩ := hB
            rw [ht] at b1
            obtain ⟨hP, hD, hK⟩ := JOINC (wc := (List.flatten ([(oX1 (p1a 0) p1a p1k p1n p1w p1l)] : List va_W))) (wr := (List.flatten ([(oX4 (p0a 0) p0a p0k p0w p0l_20)] : List va_W))) (w1 := (List.flatten ([(oX1 (p1a 0) p1a p1k p1n p1w p1l)] : List va_W))) (t1 := (List.flatten ([(tX1 p1k)] : List (List (ClassId × FieldType))))) hPx hDx hKx hk1 hFc b1 (va_K.moved hvm.symm b2) b3
            have hP : va_P (dC, dI) cls (List.flatten ([(oX4 (p0a 0) p0a p0k p0w p0l_20), (oX1 (p1a 0) p1a p1k p1n p1w p1l)] : List va_W)) H := vP_perm (vP_fb hP) (bP ((((List.Perm.refl _)).cons _).trans (List.Perm.swap _ _ _)))
            have hD : va_D A (List.flatten ([(oX4 (p0a 0) p0a p0k p0w p0l_20), (oX1 (p1a 0) p1a p1k p1n p1w p1l)] : List va_W)) := vD_perm (vD_fb hD) (bP ((((List.Perm.refl _)).cons _).trans (List.Perm.swap _ _ _)))
            have hK : va_K (dC, dI) cls (List.flatten ([(tX4 p0k), (tX1 p1k)] : List (List (ClassId × FieldType)))) s := vK_perm (vK_fb hK) (bP ((((List.Perm.refl _)).cons _).trans (List.Perm.swap _ _ _)))
            obtain rfl : o_3 = r4 := hw.symm
            rcases br9 hrun with ⟨hc5, hrun⟩ | ⟨hc5, hrun⟩
            · refine lv_icmp_ge (tgt := 109) hx hb dX4_findBorders_26 (by decide) (fun _ => ?_) (fun c => absurd hc5 c)
              obtain rfl := (Option.some.inj hrun)
              exact hk20 _ _ _ hP hD hK hS (lv_sub hl [0, 1, 2] rfl)
            · refine lv_icmp_ge (tgt := 109) hx hb dX4_findBorders_26 (by decide) (fun c => absurd c hc5) (fun _ => ?_)
              refine lv_aload_n hx hb dX4_findBorders_29 rfl (lv_at hl 1 rfl) ?_
              refine va_get (D := (dC, dI)) (ci := 4) (v := .ref (p1a 16)) (C := RX1) (T := TX1) (N := 21) hx hb hts i_X1 hown hK hP 19 rfl rfl 15 (by decide) (hts _ qw324) (fun _ h9 => h9) rfl dX4_findBorders_30 ?_
              refine lv_aload_n hx hb dX4_findBorders_33 rfl (lv_at hl 1 rfl) ?_
              refine lv_iload_n hx hb dX4_findBorders_34 rfl (lv_at hl 2 rfl) ?_
              refine lv_iload_n hx hb dX4_findBorders_35 rfl (lv_at hl 3 rfl) ?_
              obtain ⟨o_6, hc_6, hrun⟩ := bnd9 hrun
              have hPx : va_P (dC, dI) cls ((List.flatten ([(oX1 (p1a 0) p1a p1k p1n p1w p1l)] : List va_W)) ++ (List.flatten ([(oX4 (p0a 0) p0a p0k p0w p0l_20)] : List va_W))) H := vP_fa (vP_perm hP (bP ((((List.Perm.refl _)).cons _).trans (List.Perm.swap _ _ _))))
              have hDx : va_D A ((List.flatten ([(oX1 (p1a 0) p1a p1k p1n p1w p1l)] : List va_W)) ++ (List.flatten ([(oX4 (p0a 0) p0a p0k p0w p0l_20)] : List va_W))) := vD_fa (vD_perm hD (bP ((((List.Perm.refl _)).cons _).trans (List.Perm.swap _ _ _))))
              have hKx : va_K (dC, dI) cls ((List.flatten ([(tX1 p1k)] : List (List (ClassId × FieldType)))) ++ (List.flatten ([(tX4 p0k)] : List (List (ClassId × FieldType))))) s := vK_fa (vK_perm hK (bP ((((List.Perm.refl _)).cons _).trans (List.Perm.swap _ _ _))))
              have hPc := vP_l hPx
              have hDc := vD_l hDx
              have hKc := vK_l hKx
              have hFc := vfree hDx hS hA
              refine va_calli (va_runV (As := [.int v2_10, .int v3_20]) (rest := [.ref (p1a 16)]) ⟨hx, hb, hml, hown, hts⟩ (kX1_wayFrom l dC dI (p0a := p1a) (p0k := p1k) (p0n := p1n) (p0w := p1w) (p0l := p1l) (p1 := v2_10) (p2 := v3_20) (sz := _) (o := o_6) (hrun := hc_6)) (cwV 2 hts (gi_V qw315 qw189 qw190 qw126 (gi_z qw187)) rfl rfl rfl (by decide +kernel) ⟨Nat.le_of_ble_eq_true rfl, Nat.le_of_ble_eq_true rfl⟩) ⟨PRE.blind, va_recv hKc hPc (ci := 4) (q0 := 0) rfl rfl, PRE.of hE hS hFc hPc hKc hDc⟩ rfl rfl hl.1 rfl (lv_room (Nat.le_of_ble_eq_true rfl)) dX4_findBorders_36 ⟨(Nat.le_of_ble_eq_true rfl), (Nat.le_of_ble_eq_true rfl)⟩) hS (fun q _ h => hFc q h) hFc (fun r7 u t H locs ht hvm hw hB hz1 hk1 hS => ?_)
              obtain ⟨b1, b2, b3⟩ := hB
              rw [ht] at b1
              obtain ⟨hP, hD, hK⟩ := JOINC (wc := (List.flatten ([(oX1 (p1a 0) p1a p1k p1n p1w p1l)] : List va_W))) (wr := (List.flatten ([(oX4 (p0a 0) p0a p0k p0w p0l_20)] : List va_W))) (w1 := (List.flatten ([(oX1 (p1a 0) p1a p1k p1n p1w p1l)] : List va_W))) (t1 := (List.flatten ([(tX1 p1k)] : List (List (ClassId × FieldType))))) hPx hDx hKx hk1 hFc b1 (va_K.moved hvm.symm b2) b3
              have hP : va_P (dC, dI) cls (List.flatten ([(oX4 (p0a 0) p0a p0k p0w p0l_20), (oX1 (p1a 0) p1a p1k p1n p1w p1l)] : List va_W)) H := vP_perm (vP_fb hP) (bP ((((List.Perm.refl _)).cons _).trans (List.Perm.swap _ _ _)))
              have hD : va_D A (List.flatten ([(oX4 (p0a 0) p0a p0k p0w p0l_20), (oX1 (p1a 0) p1a p1k p1n p1w p1l)] : List va_W)) := vD_perm (vD_fb hD) (bP ((((List.Perm.refl _)).cons _).trans (List.Perm.swap _ _ _)))
              have hK : va_K (dC, dI) cls (List.flatten ([(tX4 p0k), (tX1 p1k)] : List (List (ClassId × FieldType)))) s := vK_perm (vK_fb hK) (bP ((((List.Perm.refl _)).cons _).trans (List.Perm.swap _ _ _)))
              obtain rfl : o_6 = r7 := hw.symm
              obtain ⟨hq8, hrun⟩ := chk9 hrun
              refine va_lald hx hb hK hP 32 30 rfl rfl (ixb_in hq8) dX4_findBorders_39 ?_
              refine lv_lstore (lv' := [(4, .long (p1l 16 (nn o_6))), (0, .ref (p0a 0)), (1, .ref (p1a 0)), (2, .int v2_10), (3, .int v3_20)]) hx hb dX4_findBorders_40 hl (by decide) rfl (fun ls hl => ?_)
              refine lv_iconst (v := 0) hx hb dX4_findBorders_42 (by decide) ?_
              refine lv_istore (lv' := [(6, .int 0), (4, .long (p1l 16 (nn o_6))), (0, .ref (p0a 0)), (1, .ref (p1a 0)), (2, .int v2_10), (3, .int v3_20)]) hx hb dX4_findBorders_43 hl (by decide) rfl (fun ls hl => ?_)
              have L45 : ∀ (n_45 : Nat) (v6_45 : Int32) (p0l_45 : SL) (o45 : SL) (H : Heap) (locs : List Loc) (ls : Array Slot), (fX4_findBorders_L45 p1w p1l v2_10 o_6 n_45) v6_45 p0l_45 = some o45 → va_P (dC, dI) cls (List.flatten ([(oX4 (p0a 0) p0a p0k p0w p0l_45), (oX1 (p1a 0) p1a p1k p1n p1w p1l)] : List va_W)) H → va_D A (List.flatten ([(oX4 (p0a 0) p0a p0k p0w p0l_45), (oX1 (p1a 0) p1a p1k p1n p1w p1l)] : List va_W)) → va_K (dC, dI) cls (List.flatten ([(tX4 p0k), (tX1 p1k)] : List (List (ClassId × FieldType)))) s → va_S A s.heap H locs → lv_has ls 7 [(0, .ref (p0a 0)), (1, .ref (p1a 0)), (2, .int v2_10), (3, .int v3_20), (4, .long (p1l 16 (nn o_6))), (6, .int v6_45)] → (∀ (H : Heap) (locs : List Loc) (ls : Array Slot), va_P (dC, dI) cls (List.flatten ([(oX4 (p0a 0) p0a p0k p0w o45), (oX1 (p1a 0) p1a p1k p1n p1w p1l)] : List va_W)) H → va_D A (List.flatten ([(oX4 (p0a 0) p0a p0k p0w o45), (oX1 (p1a 0) p1a p1k p1n p1w p1l)] : List va_W)) → va_K (dC, dI) cls (List.flatten ([(tX4 p0k), (tX1 p1k)] : List (List (ClassId × FieldType)))) s → va_S A s.heap H locs → lv_has ls 7 [(0, .ref (p0a 0)), (1, .ref (p1a 0)), (2, .int v2_10), (3, .int v3_20)] → W p l e ({ frames := 1, cells := 0, slots := 0, locals := 24 } : Room) s m ([.ref (p0a 0), .ref (p1a 0)] : List Value).toArray below meth c H locs 0 0 Q (F0 m 103 ls [])) → W p l e ({ frames := 1, cells := 0, slots := 0, locals := 24 } : Room) s m ([.ref (p0a 0), .ref (p1a 0)] : List Value).toArray below meth c H locs 0 0 Q (F0 m 45 ls []) := by
                intro n_45
                induction n_45 with
                | zero => intro v6_45 p0l_45 o45 H locs ls hrun; exact (no9 rfl hrun).elim
                | succ n_45 IH45 =>
                  intro v6_45 p0l_45 o45 H locs ls hrun hP hD hK hS hl hk45
                  unfold fX4_findBorders_L45 at hrun
                  refine lv_iload hx hb dX4_findBorders_45 (lv_at hl 5 rfl) ?_
                  refine lv_aload_n hx hb dX4_findBorders_47 rfl (lv_at hl 1 rfl) ?_
                  refine va_get (D := (dC, dI)) (ci := 4) (v := .int (p1w 0 0)) (C := RX1) (T := TX1) (N := 21) hx hb hts i_X1 hown hK hP 19 rfl rfl 0 (by decide) (hts _ qw313) (fun _ h9 => h9) rfl dX4_findBorders_48 ?_
                  rcases br9 hrun with ⟨hc9, hrun⟩ | ⟨hc9, hrun⟩
                  · refine lv_icmp_ge (tgt := 103) hx hb dX4_findBorders_51 (by decide) (fun _ => ?_) (fun c => absurd hc9 c)
                    obtain rfl := (Option.some.inj hrun)
                    exact hk45 _ _ _ hP hD hK hS (lv_sub hl [0, 1, 2, 3] rfl)
                  · refine lv_icmp_ge (tgt := 103) hx hb dX4_findBorders_51 (by decide) (fun c => absurd c hc9) (fun _ => ?_)
                    refine lv_lload hx hb dX4_findBorders_54 (lv_at hl 4 rfl) ?_
                    refine lv_iload hx hb dX4_findBorders_56 (lv_at hl 5 rfl) ?_
                    obtain ⟨o_10, hc_10, hrun⟩ := bnd9 hrun
                    have hPx : va_P (dC, dI) cls ((List.flatten ([] : List va_W)) ++ (List.flatten ([(oX4 (p0a 0) p0a p0k p0w p0l_45), (oX1 (p1a 0) p1a p1k p1n p1w p1l)] : List va_W))) H := vP_fa (vP_perm hP (bP (List.Perm.refl _)))
                    have hDx : va_D A ((List.flatten ([] : List va_W)) ++ (List.flatten ([(oX4 (p0a 0) p0a p0k p0w p0l_45), (oX1 (p1a 0) p1a p1k p1n p1w p1l)] : List va_W))) := vD_fa (vD_perm hD (bP (List.Perm.refl _)))
                    have hKx : va_K (dC, dI) cls ((List.flatten ([] : List (List (ClassId × FieldType)))) ++ (List.flatten ([(tX4 p0k), (tX1 p1k)] : List (List (ClassId × FieldType))))) s := vK_fa (vK_perm hK (bP (List.Perm.refl _)))
                    have hPc := vP_l hPx
                    have hDc := vD_l hDx
                    have hKc := vK_l hKx
                    have hFc := vfree hDx hS hA
                    refine va_calli (va_runSN (As := [.long (p1l 16 (nn o_6)), .int v6_45]) (rest := []) ⟨hx, hb, hml, hown, hts⟩ (kX11_holds l dC dI (p0 := (p1l 16 (nn o_6))) (p1 := v6_45) (sz := _) (o := o_10) (hrun := hc_10)) ⟨(va_cnB 2 hts (gi_z qw192) rfl rfl rfl (hE.nw (List.mem_append_right _ (tbl_6 (i := 75) rfl)) rfl) (hts _ qw129) (by decide +kernel) ⟨Nat.le_of_ble_eq_true rfl, Nat.le_of_ble_eq_true rfl⟩), (hts _ qw193), trivial⟩ ⟨PRE.blind, PRE.of hE hS hFc hPc hKc hDc⟩ rfl rfl hl.1 rfl (lv_room (Nat.le_of_ble_eq_true rfl)) dX4_findBorders_58 ⟨(Nat.le_of_ble_eq_true rfl), (Nat.le_of_ble_eq_true rfl)⟩) hS (fun q _ h => hFc q h) hFc (fun r11 u t H locs ht hvm hw hB hz1 hk1 hS => ?_)
                    obtain ⟨b1, b2, b3⟩ := hB
                    rw [ht] at b1
                    obtain ⟨hP, hD, hK⟩ := JOINC (wc := (List.flatten ([] : List va_W))) (wr := (List.flatten ([(oX4 (p0a 0) p0a p0k p0w p0l_45), (oX1 (p1a 0) p1a p1k p1n p1w p1l)] : List va_W))) (w1 := (List.flatten ([] : List va_W))) (t1 := (List.flatten ([] : List (List (ClassId × FieldType))))) hPx hDx hKx hk1 hFc b1 (va_K.moved hvm.symm b2) b3
                    have hP : va_P (dC, dI) cls (List.flatten ([(oX4 (p0a 0) p0a p0k p0w p0l_45), (oX1 (p1a 0) p1a p1k p1n p1w p1l)] : List va_W)) H := vP_perm (vP_fb hP) (bP (List.Perm.refl _))
                    have hD : va_D A (List.flatten ([(oX4 (p0a 0) p0a p0k p0w p0l_45), (oX1 (p1a 0) p1a p1k p1n p1w p1l)] : List va_W)) := vD_perm (vD_fb hD) (bP (List.Perm.refl _))
                    have hK : va_K (dC, dI) cls (List.flatten ([(tX4 p0k), (tX1 p1k)] : List (List (ClassId × FieldType)))) s := vK_perm (vK_fb hK) (bP (List.Perm.refl _))
                    obtain rfl : o_10 = r11 := hw.symm
                    have J97 : ∀ (p0l_97 : SL) (H : Heap) (locs : List Loc) (ls : Array Slot), (fX4_findBorders_J97 (fX4_findBorders_L45 p1w p1l v2_10 o_6 n_45) v6_45 p0l_97) = some o45 → va_P (dC, dI) cls (List.flatten ([(oX4 (p0a 0) p0a p0k p0w p0l_97), (oX1 (p1a 0) p1a p1k p1n p1w p1l)] : List va_W)) H → va_D A (List.flatten ([(oX4 (p0a 0) p0a p0k p0w p0l_97), (oX1 (p1a 0) p1a p1k p1n p1w p1l)] : List va_W)) → va_K (dC, dI) cls (List.flatten ([(tX4 p0k), (tX1 p1k)] : List (List (ClassId × FieldType)))) s → va_S A s.heap H locs → lv_has ls 7 [(0, .ref (p0a 0)), (1, .ref (p1a 0)), (2, .int v2_10), (3, .int v3_20), (4, .long (p1l 16 (nn o_6))), (6, .int v6_45)] → W p l e ({ frames := 1, cells := 0, slots := 0, locals := 24 } : Room) s m ([.ref (p0a 0), .ref (p1a 0)] : List Value).toArray below meth c H locs 0 0 Q (F0 m 97 ls []) := by
                      intro p0l_97 H locs ls hrun hP hD hK hS hl 
                      unfold fX4_findBorders_J97 at hrun
                      refine lv_iinc (v := (v6_45 + 1)) (lv' := [(6, .int (v6_45 + 1)), (0, .ref (p0a 0)), (1, .ref (p1a 0)), (2, .int v2_10), (3, .int v3_20), (4, .long (p1l 16 (nn o_6)))]) hx hb dX4_findBorders_97 hl (k := 5) rfl rfl (by decide) rfl (fun ls hl => ?_)
                      refine lv_goto (tgt := 45) hx hb dX4_findBorders_100 (by decide) ?_
                      exact IH45 (v6_45 + 1) p0l_97 o45 _ _ _ hrun hP hD hK hS (lv_sub hl [1, 2, 3, 4, 5, 0] rfl) hk45
                    rcases br9 hrun with ⟨hc12, hrun⟩ | ⟨hc12, hrun⟩
                    · refine lv_if_eq (tgt := 97) hx hb dX4_findBorders_61 (by decide) (fun _ => ?_) (fun c => absurd hc12 c)
                      exact J97 p0l_45 _ _ _ hrun hP hD hK hS (lv_sub hl [0, 1, 2, 3, 4, 5] rfl)
                    · refine lv_if_eq (tgt := 97) hx hb dX4_findBorders_61 (by decide) (fun c => absurd c hc12) (fun _ => ?_)
                      refine lv_iload hx hb dX4_findBorders_64 (lv_at hl 5 rfl) ?_
                      refine lv_iload_n hx hb dX4_findBorders_66 rfl (lv_at hl 2 rfl) ?_
                      have J84 : ∀ (H : Heap) (locs : List Loc) (ls : Array Slot), (fX4_findBorders_J84 (fX4_findBorders_L45 p1w p1l v2_10 o_6 n_45) v2_10 v6_45 p0l_45) = some o45 → va_P (dC, dI) cls (List.flatten ([(oX4 (p0a 0) p0a p0k p0w p0l_45), (oX1 (p1a 0) p1a p1k p1n p1w p1l)] : List va_W)) H → va_D A (List.flatten ([(oX4 (p0a 0) p0a p0k p0w p0l_45), (oX1 (p1a 0) p1a p1k p1n p1w p1l)] : List va_W)) → va_K (dC, dI) cls (List.flatten ([(tX4 p0k), (tX1 p1k)] : List (List (ClassId × FieldType)))) s → va_S A s.heap H locs → lv_has ls 7 [(0, .ref (p0a 0)), (1, .ref (p1a 0)), (2, .int v2_10), (3, .int v3_20), (4, .long (p1l 16 (nn o_6))), (6, .int v6_45)] → W p l e ({ frames := 1, cells := 0, slots := 0, locals := 24 } : Room) s m ([.ref (p0a 0), .ref (p1a 0)] : List Value).toArray below meth c H locs 0 0 Q (F0 m 84 ls []) := by
                        intro  H locs ls hrun hP hD hK hS hl 
                        unfold fX4_findBorders_J84 at hrun
                        refine lv_aload_n hx hb dX4_findBorders_84 rfl (lv_at hl 0 rfl) ?_
                        refine va_get (D := (dC, dI)) (ci := 6) (v := .ref (p0a 18)) (C := RX4) (T := TX4) (N := 20) hx hb hts i_X4 hown hK hP 0 rfl rfl 17 (by decide) (hts _ qw320) (fun _ h9 => h9) rfl dX4_findBorders_85 ?_
                        refine lv_iload hx hb dX4_findBorders_88 (lv_at hl 5 rfl) ?_
                        refine lv_dup2_11 hx hb dX4_findBorders_90 rfl rfl ?_
                        obtain ⟨hq13, hrun⟩ := chk9 hrun
                        refine va_lald hx hb hK hP 16 15 rfl rfl (ixb_in hq13) dX4_findBorders_91 ?_
                        refine lv_lconst (v := 1) hx hb dX4_findBorders_92 (by decide) ?_
                        refine lv_iload_n hx hb dX4_findBorders_93 rfl (lv_at hl 2 rfl) ?_
                        refine lv_lshl (v := (((1 : Int64) <<< ((v2_10 : Int32).toInt64 &&& 63)))) hx hb dX4_findBorders_94 rfl ?_
                        refine lv_lor hx hb dX4_findBorders_95 ?_
                        obtain ⟨hq14, hrun⟩ := chk9 hrun
                        refine va_last hx hb hK hP hD hS 16 15 rfl rfl (ixb_in hq14) dX4_findBorders_96 (fun H locs hP hD hS => ?_)
                        have hP : va_P (dC, dI) cls (List.flatten ([(oX4 (p0a 0) p0a p0k p0w (upl p0l_45 18 (nn v6_45) ((p0l_45 18 (nn v6_45)) ||| (((1 : Int64) <<< ((v2_10 : Int32).toInt64 &&& 63)))))), (oX1 (p1a 0) p1a p1k p1n p1w p1l)] : List va_W)) H := hP
                        have hD : va_D A (List.flatten ([(oX4 (p0a 0) p0a p0k p0w (upl p0l_45 18 (nn v6_45) ((p0l_45 18 (nn v6_45)) ||| (((1 : Int64) <<< ((v2_10 : Int32).toInt64 &&& 63)))))), (oX1 (p1a 0) p1a p1k p1n p1w p1l)] : List va_W)) := hD
                        obtain ⟨l15, el15, hrun⟩ := let9 hrun
                        rw [← el15] at hP hD
                        exact J97 l15 _ _ _ hrun hP hD hK hS (lv_sub hl [0, 1, 2, 3, 4, 5] rfl)
                      rcases br9 hrun with ⟨hc16, hrun⟩ | ⟨hc16, hrun⟩
                      · refine lv_icmp_eq (tgt := 84) hx hb dX4_findBorders_67 (by decide) (fun _ => ?_) (fun c => absurd hc16 c)
                        exact J84 _ _ _ hrun hP hD hK hS (lv_sub hl [0, 1, 2, 3, 4, 5] rfl)
                      · refine lv_icmp_eq (tgt := 84) hx hb dX4_findBorders_67 (by decide) (fun c => absurd c hc16) (fun _ => ?_)
                        refine lv_aload_n hx hb dX4_findBorders_70 rfl (lv_at hl 1 rfl) ?_
                        refine va_get (D := (dC, dI)) (ci := 4) (v := .ref (p1a 16)) (C := RX1) (T := TX1) (N := 21) hx hb hts i_X1 hown hK hP 19 rfl rfl 15 (by decide) (hts _ qw324) (fun _ h9 => h9) rfl dX4_findBorders_71 ?_
                        refine lv_iload_n hx hb dX4_findBorders_74 rfl (lv_at hl 2 rfl) ?_
                        obtain ⟨hq17, hrun⟩ := chk9 hrun
                        refine va_lald hx hb hK hP 32 30 rfl rfl (ixb_in hq17) dX4_findBorders_75 ?_
                        refine lv_iload hx hb dX4_findBorders_76 (lv_at hl 5 rfl) ?_
                        obtain ⟨o_18, hc_18, hrun⟩ := bnd9 hrun
                        have hPx : va_P (dC, dI) cls ((List.flatten ([] : List va_W)) ++ (List.flatten ([(oX4 (p0a 0) p0a p0k p0w p0l_45), (oX1 (p1a 0) p1a p1k p1n p1w p1l)] : List va_W))) H := vP_fa (vP_perm hP (bP (List.Perm.refl _)))
                        have hDx : va_D A ((List.flatten ([] : List va_W)) ++ (List.flatten ([(oX4 (p0a 0) p0a p0k p0w p0l_45), (oX1 (p1a 0) p1a p1k p1n p1w p1l)] : List va_W))) := vD_fa (vD_perm hD (bP (List.Perm.refl _)))
                        have hKx : va_K (dC, dI) cls ((List.flatten ([] : List (List (ClassId × FieldType)))) ++ (List.flatten ([(tX4 p0k), (tX1 p1k)] : List (List (ClassId × FieldType))))) s := vK_fa (vK_perm hK (bP (List.Perm.refl _)))
                        have hPc := vP_l hPx
                        have hDc := vD_l hDx
                        have hKc := vK_l hKx
                        have hFc := vfree hDx hS hA
                        refine va_calli (va_runSN (As := [.long (p1l 16 (nn v2_10)), .int v6_45]) (rest := []) ⟨hx, hb, hml, hown, hts⟩ (kX11_holds l dC dI (p0 := (p1l 16 (nn v2_10))) (p1 := v6_45) (sz := _) (o := o_18) (hrun := hc_18)) ⟨(va_cnB 2 hts (gi_z qw192) rfl rfl rfl (hE.nw (List.mem_append_right _ (tbl_6 (i := 75) rfl)) rfl) (hts _ qw129) (by decide +kernel) ⟨Nat.le_of_ble_eq_true rfl, Nat.le_of_ble_eq_true rfl⟩), (hts _ qw193), trivial⟩ ⟨PRE.blind, PRE.of hE hS hFc hPc hKc hDc⟩ rfl rfl hl.1 rfl (lv_room (Nat.le_of_ble_eq_true rfl)) dX4_findBorders_78 ⟨(Nat.le_of_ble_eq_true rfl), (Nat.le_of_ble_eq_true rfl)⟩) hS (fun q _ h => hFc q h) hFc (fun r19 u t H locs ht hvm hw hB hz1 hk1 hS => ?_)
                        obtain ⟨b1, b2, b3⟩ := hB
                        rw [ht] at b1
                        obtain ⟨hP, hD, hK⟩ := JOINC (wc := (List.flatten ([] : List va_W))) (wr := (List.flatten ([(oX4 (p0a 0) p0a p0k p0w p0l_45), (oX1 (p1a 0) p1a p1k p1n p1w p1l)] : List va_W))) (w1 := (List.flatten ([] : List va_W))) (t1 := (List.flatten ([] : List (List (ClassId × FieldType))))) hPx hDx hKx hk1 hFc b1 (va_K.moved hvm.symm b2) b3
                        have hP : va_P (dC, dI) cls (List.flatten ([(oX4 (p0a 0) p0a p0k p0w p0l_45), (oX1 (p1a 0) p1a p1k p1n p1w p1l)] : List va_W)) H := vP_perm (vP_fb hP) (bP (List.Perm.refl _))
                        have hD : va_D A (List.flatten ([(oX4 (p0a 0) p0a p0k p0w p0l_45), (oX1 (p1a 0) p1a p1k p1n p1w p1l)] : List va_W)) := vD_perm (vD_fb hD) (bP (List.Perm.refl _))
                        have hK : va_K (dC, dI) cls (List.flatten ([(tX4 p0k), (tX1 p1k)] : List (List (ClassId × FieldType)))) s := vK_perm (vK_fb hK) (bP (List.Perm.refl _))
                        obtain rfl : o_18 = r19 := hw.symm
                        rcases br9 hrun with ⟨hc20, hrun⟩ | ⟨hc20, hrun⟩
                        · refine lv_if_ne (tgt := 97) hx hb dX4_findBorders_81 (by decide) (fun c => absurd hc20 c) (fun _ => ?_)
                          exact J84 _ _ _ hrun hP hD hK hS (lv_sub hl [0, 1, 2, 3, 4, 5] rfl)
                        · refine lv_if_ne (tgt := 97) hx hb dX4_findBorders_81 (by decide) (fun _ => ?_) (fun c => absurd c hc20)
                          exact J97 p0l_45 _ _ _ hrun hP hD hK hS (lv_sub hl [0, 1, 2, 3, 4, 5] rfl)
              obtain ⟨o45, hc45, hrun⟩ := bnd9 hrun
              refine L45 NF 0 p0l_20 o45 _ _ _ hc45 hP hD hK hS (lv_sub hl [2, 3, 4, 5, 1, 0] rfl) ?_
              intro H locs ls hP hD hK hS hl
              have hl := hl
              refine lv_iinc (v := (v3_20 + 1)) (lv' := [(3, .int (v3_20 + 1)), (0, .ref (p0a 0)), (1, .ref (p1a 0)), (2, .int v2_10)]) hx hb dX4_findBorders_103 hl (k := 3) rfl rfl (by decide) rfl (fun ls hl => ?_)
              refine lv_goto (tgt := 20) hx hb dX4_findBorders_106 (by decide) ?_
              exact IH20 (v3_20 + 1) o45 o20 _ _ _ hrun hP hD hK hS (lv_sub hl [1, 2, 3, 0] rfl) hk20
        obtain ⟨o20, hc20, hrun⟩ := bnd9 hrun
        refine L20 NF 0 p0l_10 o20 _ _ _ hc20 hP hD hK hS (lv_sub hl [1, 2, 3, 0] rfl) ?_
        intro H locs ls hP hD hK hS hl
        have hl := hl
        refine lv_iinc (v := (v2_10 + 1)) (lv' := [(2, .int (v2_10 + 1)), (0, .ref (p0a 0)), (1, .ref (p1a 0))]) hx hb dX4_findBorders_109 hl (k := 2) rfl rfl (by decide) rfl (fun ls hl => ?_)
        refine lv_goto (tgt := 10) hx hb dX4_findBorders_112 (by decide) ?_
        exact IH10 (v2_10 + 1) o20 o10 _ _ _ hrun hP hD hK hS (lv_sub hl [1, 2, 0] rfl) hk10
  obtain ⟨o10, hc10, hrun⟩ := bnd9 hrun
  refine L10 NF 0 (srl p0l 18 o_1) o10 _ _ _ hc10 hP hD hK hS (lv_sub hl [1, 2, 0] rfl) ?_
  intro H locs ls hP hD hK hS hl
  have hl := hl
  have ho9 : o10 = o := Option.some.inj hrun
  have hP9 : va_P (dC, dI) cls (List.flatten ([(oX4 (p0a 0) p0a p0k p0w o), (oX1 (p1a 0) p1a p1k p1n p1w p1l)] : List va_W)) H := by first | exact hP | (rw [← ho9]; exact hP)
  have hD9 : va_D A (List.flatten ([(oX4 (p0a 0) p0a p0k p0w o), (oX1 (p1a 0) p1a p1k p1n p1w p1l)] : List va_W)) := by first | exact hD | (rw [← ho9]; exact hD)
  subst hQ
  exact W.vret hx hb hr (fun t ht hW => ⟨⟨(), rfl, trivial, ⟨by rw [ht]; exact hP9, va_K.moved hW.alike hK, hD9⟩⟩, hS.F ht⟩) hS.2.2 dX4_findBorders_115
def fX4_isIn_J17 (y0_17 : Int32) : Option Int32 := (if y0_17 = 0 ∨ y0_17 = 1 then some y0_17 else none)
def fX4_isIn_J16  : Option Int32 := (fX4_isIn_J17 0)
def fX4_isIn (p0 : Int64) (p1 : Int32) : Option Int32 := (if p1 < 0 then (fX4_isIn_J16) else ((fX11_holds p0 p1).bind fun (o_2 : Int32) => (if o_2 = 0 then (fX4_isIn_J16) else (fX4_isIn_J17 1))))
set_option maxHeartbeats 16000000 in
set_option maxRecDepth 100000 in
theorem kX4_isIn {zs : ZS} (l : Launch) (dC : Nat → ClassId) (dI : Nat → Nat → Nat) (p0 : Int64) (p1 : Int32) (sz : Nat) (o : Int32) (hrun : fX4_isIn p0 p1 = some o) : Met l yX4_isIn (wz yX4_isIn cX4_isIn 3 (Option.some Jvm.ClassFile.FieldType.boolean)) ({ frames := 1, cells := 0, slots := 0, locals := 22 } : Room) (va_Pc [.long p0, .int p1] (PRE zs dC dI (List.flatten ([] : List va_W)) (List.flatten ([] : List (List (ClassId × FieldType)))) sz)) (va_Qi (fun (r : Int32) (_ : Unit) => r = o) (fun _ t => POST dC dI (List.flatten ([] : List va_W)) (List.flatten ([] : List (List (ClassId × FieldType)))) (va_A (List.flatten ([] : List va_W)) sz) t) (va_A (List.flatten ([] : List va_W)) sz)) 0 0 (va_A (List.flatten ([] : List va_W)) sz) := by
  refine Met.ofW (cc := cX4_isIn) (maxL := 3) (ret := (Option.some Jvm.ClassFile.FieldType.boolean)) (by decide) rfl ?_
  intro p e s m args below meth c s₁ B hml hv
  obtain ⟨rfl, hsz, hP, hK, hD0, hE⟩ := hv
  have hx := B.exec
  have hb := B.bytes
  have hr := B.returns
  have hts0 := atoms_spec (ws := wz yX4_isIn cX4_isIn 3 (Option.some Jvm.ClassFile.FieldType.boolean)) B.pre
  have hts : ∀ w ∈ gw, w.before _ s = true := fun w h => hts0 w (List.mem_cons_of_mem _ h)
  have hown : s.vm.findClass RX4 = some m.cls := findClass_of_methodNamed B.named
  have hlocks := B.notSynchronized
  subst hsz
  have hD := hD0.self (sz := s.heap.size)
  refine gQ9 ?_
  intro Q hQ
  generalize hAe : va_A (List.flatten ([] : List va_W)) s.heap.size = A at hD hE hQ
  have hA : ∀ q : Nat, s.heap.size ≤ q → A q := fun q h => by rw [← hAe]; exact Or.inr h
  have hS : va_S A s.heap s.heap [] := va_S.rf
  have hP : va_P (dC, dI) cls (List.flatten ([] : List va_W)) s.heap := hP
  have hl := lv_entry ([.long p0, .int p1]) (n := 3) (Nat.le_of_ble_eq_true rfl)
  rw [lg_entry_eq]
  generalize (lg_sl ([.long p0, .int p1]) ++ List.replicate (3 - (lg_sl ([.long p0, .int p1])).length) Slot.unset).toArray = ls at hl ⊢
  have hl : lv_has ls 3 [(0, .long p0), (2, .int p1)] := hl
  obtain ⟨H, hHe⟩ : ∃ H, H = s.heap := ⟨_, rfl⟩
  obtain ⟨locs, hle⟩ : ∃ locs : List Loc, locs = [] := ⟨_, rfl⟩
  rw [← hHe] at hP
  have hS : va_S A s.heap H locs := by rw [hHe, hle]; exact hS
  show W p l e ({ frames := 1, cells := 0, slots := 0, locals := 22 } : Room) s m ([.long p0, .int p1] : List Value).toArray below meth c s.heap [] 0 0 Q (F0 m 0 ls [])
  rw [← hle]
  refine wH9 hHe ?_
  unfold fX4_isIn at hrun
  refine lv_iload_n hx hb dX4_isIn_0 rfl (lv_at hl 1 rfl) ?_
  have J17 : ∀ (y0_17 : Int32) (H : Heap) (locs : List Loc) (ls : Array Slot), (fX4_isIn_J17 y0_17) = some o → va_P (dC, dI) cls (List.flatten ([] : List va_W)) H → va_D A (List.flatten ([] : List va_W)) → va_K (dC, dI) cls (List.flatten ([] : List (List (ClassId × FieldType)))) s → va_S A s.heap H locs → lv_has ls 3 [] → W p l e ({ frames := 1, cells := 0, slots := 0, locals := 22 } : Room) s m ([.long p0, .int p1] : List Value).toArray below meth c H locs 0 0 Q (F0 m 17 ls [.int y0_17]) := by
    intro y0_17 H locs ls hrun hP hD hK hS hl 
    unfold fX4_isIn_J17 at hrun
    obtain ⟨hz9, hrun⟩ := chk9 hrun
    have ho9 : y0_17 = o := Option.some.inj hrun
    have hP9 : va_P (dC, dI) cls (List.flatten ([] : List va_W)) H := by first | exact hP | (rw [← ho9]; exact hP)
    have hD9 : va_D A (List.flatten ([] : List va_W)) := by first | exact hD | (rw [← ho9]; exact hD)
    subst hQ
    exact W.zret (v := y0_17) hx hb hr (bz9 hz9) (fun t ht hW => ⟨⟨y0_17, (), rfl, (by rw [← ho9]), ⟨by rw [ht]; exact hP9, va_K.moved hW.alike hK, hD9⟩⟩, hS.F ht⟩) hS.2.2 dX4_isIn_17
  have J16 : ∀ (H : Heap) (locs : List Loc) (ls : Array Slot), (fX4_isIn_J16) = some o → va_P (dC, dI) cls (List.flatten ([] : List va_W)) H → va_D A (List.flatten ([] : List va_W)) → va_K (dC, dI) cls (List.flatten ([] : List (List (ClassId × FieldType)))) s → va_S A s.heap H locs → lv_has ls 3 [] → W p l e ({ frames := 1, cells := 0, slots := 0, locals := 22 } : Room) s m ([.long p0, .int p1] : List Value).toArray below meth c H locs 0 0 Q (F0 m 16 ls []) := by
    intro  H locs ls hrun hP hD hK hS hl 
    unfold fX4_isIn_J16 at hrun
    refine lv_iconst (v := 0) hx hb dX4_isIn_16 (by decide) ?_
    exact J17 0 _ _ _ hrun hP hD hK hS (lv_sub hl [] rfl)
  rcases br9 hrun with ⟨hc1, hrun⟩ | ⟨hc1, hrun⟩
  · refine lv_if_lt (tgt := 16) hx hb dX4_isIn_1 (by decide) (fun _ => ?_) (fun c => absurd hc1 c)
    exact J16 _ _ _ hrun hP hD hK hS (lv_sub hl [] rfl)
  · refine lv_if_lt (tgt := 16) hx hb dX4_isIn_1 (by decide) (fun c => absurd c hc1) (fun _ => ?_)
    refine lv_lload_n hx hb dX4_isIn_4 rfl (lv_at hl 0 rfl) ?_
    refine lv_iload_n hx hb dX4_isIn_5 rfl (lv_at hl 1 rfl) ?_
    obtain ⟨o_2, hc_2, hrun⟩ := bnd9 hrun
    have hPx : va_P (dC, dI) cls ((List.flatten ([] : List va_W)) ++ (List.flatten ([] : List va_W))) H := vP_fa (vP_perm hP (bP (List.Perm.refl _)))
    have hDx : va_D A ((List.flatten ([] : List va_W)) ++ (List.flatten ([] : List va_W))) := vD_fa (vD_perm hD (bP (List.Perm.refl _)))
    have hKx : va_K (dC, dI) cls ((List.flatten ([] : List (List (ClassId × FieldType)))) ++ (List.flatten ([] : List (List (ClassId × FieldType))))) s := vK_fa (vK_perm hK (bP (List.Perm.refl _)))
    have hPc := vP_l hPx
    have hDc := vD_l hDx
    have hKc := vK_l hKx
    have hFc := vfree hDx hS hA
    refine va_calli (va_runSN (As := [.long p0, .int p1]) (rest := []) ⟨hx, hb, hml, hown, hts⟩ (kX11_holds l dC dI (p0 := p0) (p1 := p1) (sz := _) (o := o_2) (hrun := hc_2)) ⟨(va_cnB 2 hts (gi_z qw192) rfl rfl rfl (hE.nw (List.mem_append_right _ (tbl_6 (i := 75) rfl)) rfl) (hts _ qw129) (by decide +kernel) ⟨Nat.le_of_ble_eq_true rfl, Nat.le_of_ble_eq_true rfl⟩), (hts _ qw193), trivial⟩ ⟨PRE.blind, PRE.of hE hS hFc hPc hKc hDc⟩ rfl rfl hl.1 rfl (lv_room (Nat.le_of_ble_eq_true rfl)) dX4_isIn_6 ⟨(Nat.le_of_ble_eq_true rfl), (Nat.le_of_ble_eq_true rfl)⟩) hS (fun q _ h => hFc q h) hFc (fun r3 u t H locs ht hvm hw hB hz1 hk1 hS => ?_)
    obtain ⟨b1, b2, b3⟩ := hB
    rw [ht] at b1
    obtain ⟨hP, hD, hK⟩ := JOINC (wc := (List.flatten ([] : List va_W))) (wr := (List.flatten ([] : List va_W))) (w1 := (List.flatten ([] : List va_W))) (t1 := (List.flatten ([] : List (List (ClassId × FieldType))))) hPx hDx hKx hk1 hFc b1 (va_K.moved hvm.symm b2) b3
    have hP : va_P (dC, dI) cls (List.flatten ([] : List va_W)) H := vP_perm (vP_fb hP) (bP (List.Perm.refl _))
    have hD : va_D A (List.flatten ([] : List va_W)) := vD_perm (vD_fb hD) (bP (List.Perm.refl _))
    have hK : va_K (dC, dI) cls (List.flatten ([] : List (List (ClassId × FieldType)))) s := vK_perm (vK_fb hK) (bP (List.Perm.refl _))
    obtain rfl : o_2 = r3 := hw.symm
    rcases br9 hrun with ⟨hc4, hrun⟩ | ⟨hc4, hrun⟩
    · refine lv_if_eq (tgt := 16) hx hb dX4_isIn_9 (by decide) (fun _ => ?_) (fun c => absurd hc4 c)
      exact J16 _ _ _ hrun hP hD hK hS (lv_sub hl [] rfl)
    · refine lv_if_eq (tgt := 16) hx hb dX4_isIn_9 (by decide) (fun c => absurd c hc4) (fun _ => ?_)
      refine lv_iconst (v := 1) hx hb dX4_isIn_12 (by decide) ?_
      refine lv_goto (tgt := 17) hx hb dX4_isIn_13 (by decide) ?_
      exact J17 1 _ _ _ hrun hP hD hK hS (lv_sub hl [] rfl)
def fX4_reachOne_J12 (p0w : ST) (p2 : Int32) : Option (Int32 × ST) := some (p2, p0w)
def fX4_reachOne (p0w : ST) (p1 : Int32) (p2 : Int32) : Option (Int32 × ST) := (if p1 < 0 then (fX4_reachOne_J12 p0w p2) else (if p1 < (p0w 0 5) then (if ixb p1 640 = true then (if ixb p1 640 = true then (lt9 (upw p0w 11 (nn p1) ((p0w 11 (nn p1)) + 1)) fun (w5 : ST) => (if ixb p1 640 = true then (if (w5 12 (nn p1)) < 0 then (if ixb p1 640 = true then (lt9 (upw w5 12 (nn p1) p2) fun (w9 : ST) => (if ixb p2 640 = true then (lt9 (upw w9 14 (nn p2) p1) fun (w11 : ST) => some ((p2 + 1), w11)) else none)) else none) else some (p2, w5)) else none)) else none) else none) else (fX4_reachOne_J12 p0w p2)))
set_option maxHeartbeats 16000000 in
set_option maxRecDepth 100000 in
theorem kX4_reachOne {zs : ZS} (l : Launch) (dC : Nat → ClassId) (dI : Nat → Nat → Nat) (p0a : Nat → Nat) (p0k : Nat → ClassId) (p0w : ST) (p0l : SL) (p1 : Int32) (p2 : Int32) (sz : Nat) (o : Int32 × ST) (hrun : fX4_reachOne p0w p1 p2 = some o) : Met l yX4_reachOne (wz yX4_reachOne cX4_reachOne 3 (Option.some Jvm.ClassFile.FieldType.int)) ({ frames := 0, cells := 0, slots := 0, locals := 0 } : Room) (va_Pc [.ref (p0a 0), .int p1, .int p2] (PRE zs dC dI (List.flatten ([(oX4 (p0a 0) p0a p0k p0w p0l)] : List va_W)) (List.flatten ([(tX4 p0k)] : List (List (ClassId × FieldType)))) sz)) (va_Qi (fun (r : Int32) (_ : Unit) => r = (o.1)) (fun _ t => POST dC dI (List.flatten ([(oX4 (p0a 0) p0a p0k (o.2) p0l)] : List va_W)) (List.flatten ([(tX4 p0k)] : List (List (ClassId × FieldType)))) (va_A (List.flatten ([(oX4 (p0a 0) p0a p0k p0w p0l)] : List va_W)) sz) t) (va_A (List.flatten ([(oX4 (p0a 0) p0a p0k p0w p0l)] : List va_W)) sz)) 0 0 (va_A (List.flatten ([(oX4 (p0a 0) p0a p0k p0w p0l)] : List va_W)) sz) := by
  refine Met.ofW (cc := cX4_reachOne) (maxL := 3) (ret := (Option.some Jvm.ClassFile.FieldType.int)) (by decide) rfl ?_
  intro p e s m args below meth c s₁ B hml hv
  obtain ⟨rfl, hsz, hP, hK, hD0, hE⟩ := hv
  have hx := B.exec
  have hb := B.bytes
  have hr := B.returns
  have hts0 := atoms_spec (ws := wz yX4_reachOne cX4_reachOne 3 (Option.some Jvm.ClassFile.FieldType.int)) B.pre
  have hts : ∀ w ∈ gw, w.before _ s = true := fun w h => hts0 w (List.mem_cons_of_mem _ h)
  have hown : s.vm.findClass RX4 = some m.cls := findClass_of_methodNamed B.named
  have hlocks := B.notSynchronized
  subst hsz
  have hD := hD0.self (sz := s.heap.size)
  refine gQ9 ?_
  intro Q hQ
  generalize hAe : va_A (List.flatten ([(oX4 (p0a 0) p0a p0k p0w p0l)] : List va_W)) s.heap.size = A at hD hE hQ
  have hA : ∀ q : Nat, s.heap.size ≤ q → A q := fun q h => by rw [← hAe]; exact Or.inr h
  have hS : va_S A s.heap s.heap [] := va_S.rf
  have hP : va_P (dC, dI) cls (List.flatten ([(oX4 (p0a 0) p0a p0k p0w p0l)] : List va_W)) s.heap := hP
  have hl := lv_entry ([.ref (p0a 0), .int p1, .int p2]) (n := 3) (Nat.le_of_ble_eq_true rfl)
  rw [lg_entry_eq]
  generalize (lg_sl ([.ref (p0a 0), .int p1, .int p2]) ++ List.replicate (3 - (lg_sl ([.ref (p0a 0), .int p1, .int p2])).length) Slot.unset).toArray = ls at hl ⊢
  have hl : lv_has ls 3 [(0, .ref (p0a 0)), (1, .int p1), (2, .int p2)] := hl
  obtain ⟨H, hHe⟩ : ∃ H, H = s.heap := ⟨_, rfl⟩
  obtain ⟨locs, hle⟩ : ∃ locs : List Loc, locs = [] := ⟨_, rfl⟩
  rw [← hHe] at hP
  have hS : va_S A s.heap H locs := by rw [hHe, hle]; exact hS
  show W p l e ({ frames := 0, cells := 0, slots := 0, locals := 0 } : Room) s m ([.ref (p0a 0), .int p1, .int p2] : List Value).toArray below meth c s.heap [] 0 0 Q (F0 m 0 ls [])
  rw [← hle]
  refine wH9 hHe ?_
  unfold fX4_reachOne at hrun
  refine lv_iload_n hx hb dX4_reachOne_0 rfl (lv_at hl 1 rfl) ?_
  have J12 : ∀ (H : Heap) (locs : List Loc) (ls : Array Slot), (fX4_reachOne_J12 p0w p2) = some o → va_P (dC, dI) cls (List.flatten ([(oX4 (p0a 0) p0a p0k p0w p0l)] : List va_W)) H → va_D A (List.flatten ([(oX4 (p0a 0) p0a p0k p0w p0l)] : List va_W)) → va_K (dC, dI) cls (List.flatten ([(tX4 p0k)] : List (List (ClassId × FieldType)))) s → va_S A s.heap H locs → lv_has ls 3 [(2, .int p2)] → W p l e ({ frames := 0, cells := 0, slots := 0, locals := 0 } : Room) s m ([.ref (p0a 0), .int p1, .int p2] : List Value).toArray below meth c H locs 0 0 Q (F0 m 12 ls []) := by
    intro  H locs ls hrun hP hD hK hS hl 
    unfold fX4_reachOne_J12 at hrun
    refine lv_iload_n hx hb dX4_reachOne_12 rfl (lv_at hl 0 rfl) ?_
    have ho9 : (p2, p0w) = o := Option.some.inj hrun
    have hP9 : va_P (dC, dI) cls (List.flatten ([(oX4 (p0a 0) p0a p0k (o.2) p0l)] : List va_W)) H := by first | exact hP | (rw [← ho9]; exact hP)
    have hD9 : va_D A (List.flatten ([(oX4 (p0a 0) p0a p0k (o.2) p0l)] : List va_W)) := by first | exact hD | (rw [← ho9]; exact hD)
    subst hQ
    exact W.iret (v := p2) hx hb hr (fun t ht hW => ⟨⟨p2, (), rfl, (by rw [← ho9]), ⟨by rw [ht]; exact hP9, va_K.moved hW.alike hK, hD9⟩⟩, hS.F ht⟩) hS.2.2 dX4_reachOne_13
  rcases br9 hrun with ⟨hc1, hrun⟩ | ⟨hc1, hrun⟩
  · refine lv_if_lt (tgt := 12) hx hb dX4_reachOne_1 (by decide) (fun _ => ?_) (fun c => absurd hc1 c)
    exact J12 _ _ _ hrun hP hD hK hS (lv_sub hl [2] rfl)
  · refine lv_if_lt (tgt := 12) hx hb dX4_reachOne_1 (by decide) (fun c => absurd c hc1) (fun _ => ?_)
    refine lv_iload_n hx hb dX4_reachOne_4 rfl (lv_at hl 1 rfl) ?_
    refine lv_aload_n hx hb dX4_reachOne_5 rfl (lv_at hl 0 rfl) ?_
    refine va_get (D := (dC, dI)) (ci := 6) (v := .int (p0w 0 5)) (C := RX4) (T := TX4) (N := 20) hx hb hts i_X4 hown hK hP 0 rfl rfl 5 (by decide) (hts _ qw255) (fun _ h9 => h9) rfl dX4_reachOne_6 ?_
    rcases br9 hrun with ⟨hc2, hrun⟩ | ⟨hc2, hrun⟩
    · refine lv_icmp_lt (tgt := 14) hx hb dX4_reachOne_9 (by decide) (fun _ => ?_) (fun c => absurd hc2 c)
      refine lv_aload_n hx hb dX4_reachOne_14 rfl (lv_at hl 0 rfl) ?_
      refine va_get (D := (dC, dI)) (ci := 6) (v := .ref (p0a 11)) (C := RX4) (T := TX4) (N := 20) hx hb hts i_X4 hown hK hP 0 rfl rfl 10 (by decide) (hts _ qw326) (fun _ h9 => h9) rfl dX4_reachOne_15 ?_
      refine lv_iload_n hx hb dX4_reachOne_18 rfl (lv_at hl 1 rfl) ?_
      refine lv_dup2_11 hx hb dX4_reachOne_19 rfl rfl ?_
      obtain ⟨hq3, hrun⟩ := chk9 hrun
      refine va_iald hx hb hK hP 9 8 rfl rfl (ixb_in hq3) dX4_reachOne_20 ?_
      refine lv_iconst (v := 1) hx hb dX4_reachOne_21 (by decide) ?_
      refine lv_iadd hx hb dX4_reachOne_22 ?_
      obtain ⟨hq4, hrun⟩ := chk9 hrun
      refine va_iast hx hb hK hP hD hS 9 8 rfl rfl (ixb_in hq4) dX4_reachOne_23 (fun H locs hP hD hS => ?_)
      have hP : va_P (dC, dI) cls (List.flatten ([(oX4 (p0a 0) p0a p0k (upw p0w 11 (nn p1) ((p0w 11 (nn p1)) + 1)) p0l)] : List va_W)) H := hP
      have hD : va_D A (List.flatten ([(oX4 (p0a 0) p0a p0k (upw p0w 11 (nn p1) ((p0w 11 (nn p1)) + 1)) p0l)] : List va_W)) := hD
      obtain ⟨w5, ew5, hrun⟩ := let9 hrun
      rw [← ew5] at hP hD
      refine lv_aload_n hx hb dX4_reachOne_24 rfl (lv_at hl 0 rfl) ?_
      refine va_get (D := (dC, dI)) (ci := 6) (v := .ref (p0a 12)) (C := RX4) (T := TX4) (N := 20) hx hb hts i_X4 hown hK hP 0 rfl rfl 11 (by decide) (hts _ qw260) (fun _ h9 => h9) rfl dX4_reachOne_25 ?_
      refine lv_iload_n hx hb dX4_reachOne_28 rfl (lv_at hl 1 rfl) ?_
      obtain ⟨hq6, hrun⟩ := chk9 hrun
      refine va_iald hx hb hK hP 10 9 rfl rfl (ixb_in hq6) dX4_reachOne_29 ?_
      rcases br9 hrun with ⟨hc7, hrun⟩ | ⟨hc7, hrun⟩
      · refine lv_if_lt (tgt := 35) hx hb dX4_reachOne_30 (by decide) (fun _ => ?_) (fun c => absurd hc7 c)
        refine lv_aload_n hx hb dX4_reachOne_35 rfl (lv_at hl 0 rfl) ?_
        refine va_get (D := (dC, dI)) (ci := 6) (v := .ref (p0a 12)) (C := RX4) (T := TX4) (N := 20) hx hb hts i_X4 hown hK hP 0 rfl rfl 11 (by decide) (hts _ qw260) (fun _ h9 => h9) rfl dX4_reachOne_36 ?_
        refine lv_iload_n hx hb dX4_reachOne_39 rfl (lv_at hl 1 rfl) ?_
        refine lv_iload_n hx hb dX4_reachOne_40 rfl (lv_at hl 2 rfl) ?_
        obtain ⟨hq8, hrun⟩ := chk9 hrun
        refine va_iast hx hb hK hP hD hS 10 9 rfl rfl (ixb_in hq8) dX4_reachOne_41 (fun H locs hP hD hS => ?_)
        have hP : va_P (dC, dI) cls (List.flatten ([(oX4 (p0a 0) p0a p0k (upw w5 12 (nn p1) p2) p0l)] : List va_W)) H := hP
        have hD : va_D A (List.flatten ([(oX4 (p0a 0) p0a p0k (upw w5 12 (nn p1) p2) p0l)] : List va_W)) := hD
        obtain ⟨w9, ew9, hrun⟩ := let9 hrun
        rw [← ew9] at hP hD
        refine lv_aload_n hx hb dX4_reachOne_42 rfl (lv_at hl 0 rfl) ?_
        refine va_get (D := (dC, dI)) (ci := 6) (v := .ref (p0a 14)) (C := RX4) (T := TX4) (N := 20) hx hb hts i_X4 hown hK hP 0 rfl rfl 13 (by decide) (hts _ qw327) (fun _ h9 => h9) rfl dX4_reachOne_43 ?_
        refine lv_iload_n hx hb dX4_reachOne_46 rfl (lv_at hl 2 rfl) ?_
        refine lv_iload_n hx hb dX4_reachOne_47 rfl (lv_at hl 1 rfl) ?_
        obtain ⟨hq10, hrun⟩ := chk9 hrun
        refine va_iast hx hb hK hP hD hS 12 11 rfl rfl (ixb_in hq10) dX4_reachOne_48 (fun H locs hP hD hS => ?_)
        have hP : va_P (dC, dI) cls (List.flatten ([(oX4 (p0a 0) p0a p0k (upw w9 14 (nn p2) p1) p0l)] : List va_W)) H := hP
        have hD : va_D A (List.flatten ([(oX4 (p0a 0) p0a p0k (upw w9 14 (nn p2) p1) p0l)] : List va_W)) := hD
        obtain ⟨w11, ew11, hrun⟩ := let9 hrun
        rw [← ew11] at hP hD
        refine lv_iload_n hx hb dX4_reachOne_49 rfl (lv_at hl 2 rfl) ?_
        refine lv_iconst (v := 1) hx hb dX4_reachOne_50 (by decide) ?_
        refine lv_iadd hx hb dX4_reachOne_51 ?_
        have ho9 : ((p2 + 1), w11) = o := Option.some.inj hrun
        have hP9 : va_P (dC, dI) cls (List.flatten ([(oX4 (p0a 0) p0a p0k (o.2) p0l)] : List va_W)) H := by first | exact hP | (rw [← ho9]; exact hP)
        have hD9 : va_D A (List.flatten ([(oX4 (p0a 0) p0a p0k (o.2) p0l)] : List va_W)) := by first | exact hD | (rw [← ho9]; exact hD)
        subst hQ
        exact W.iret (v := (p2 + 1)) hx hb hr (fun t ht hW => ⟨⟨(p2 + 1), (), rfl, (by rw [← ho9]), ⟨by rw [ht]; exact hP9, va_K.moved hW.alike hK, hD9⟩⟩, hS.F ht⟩) hS.2.2 dX4_reachOne_52
      · refine lv_if_lt (tgt := 35) hx hb dX4_reachOne_30 (by decide) (fun c => absurd c hc7) (fun _ => ?_)
        refine lv_iload_n hx hb dX4_reachOne_33 rfl (lv_at hl 2 rfl) ?_
        have ho9 : (p2, w5) = o := Option.some.inj hrun
        have hP9 : va_P (dC, dI) cls (List.flatten ([(oX4 (p0a 0) p0a p0k (o.2) p0l)] : List va_W)) H := by first | exact hP | (rw [← ho9]; exact hP)
        have hD9 : va_D A (List.flatten ([(oX4 (p0a 0) p0a p0k (o.2) p0l)] : List va_W)) := by first | exact hD | (rw [← ho9]; exact hD)
        subst hQ
        exact W.iret (v := p2) hx hb hr (fun t ht hW => ⟨⟨p2, (), rfl, (by rw [← ho9]), ⟨by rw [ht]; exact hP9, va_K.moved hW.alike hK, hD9⟩⟩, hS.F ht⟩) hS.2.2 dX4_reachOne_34
    · refine lv_icmp_lt (tgt := 14) hx hb dX4_reachOne_9 (by decide) (fun c => absurd c hc2) (fun _ => ?_)
      exact J12 _ _ _ hrun hP hD hK hS (lv_sub hl [2] rfl)
def fX4_reachPieces_L34  : Nat → Int32 → Int32 → ST → Option (Int32 × ST)
  | 0 => fun _ _ _ => none
  | n_34 + 1 => fun v1_34 v2_34 p0w_34 => (if v1_34 ≤ v2_34 then some (v1_34, p0w_34) else (if ixb v2_34 640 = true then (if ixb (p0w_34 14 (nn v2_34)) 640 = true then ((fX4_reachOne p0w_34 (p0w_34 9 (nn (p0w_34 14 (nn v2_34)))) v1_34).bind fun (o_8 : Int32 × ST) => (if ixb v2_34 640 = true then (if ixb (((o_8.2) 14) (nn v2_34)) 640 = true then ((fX4_reachOne (o_8.2) (((o_8.2) 10) (nn (((o_8.2) 14) (nn v2_34)))) (o_8.1)).bind fun (o_12 : Int32 × ST) => ((fX4_reachPieces_L34 n_34) (o_12.1) (v2_34 + 1) (o_12.2))) else none) else none)) else none) else none))
def fX4_reachPieces (p0w : ST) : Option (Int32 × ST) := ((fJ7_fill_53178 640 (p0w 12) (-1)).bind fun (o_1 : RI) => ((fJ7_fill_53178 640 ((srw p0w 12 o_1) 11) 0).bind fun (o_2 : RI) => (lt9 (upw (srw (srw p0w 12 o_1) 11 o_2) 14 (nn 0) 0) fun (w3 : ST) => (lt9 (upw w3 12 (nn 0) 0) fun (w4 : ST) => ((fX4_reachPieces_L34 NF 1 0 w4).bind fun (o34 : Int32 × ST) => some ((o34.1), (o34.2)))))))
set_option maxHeartbeats 16000000 in
set_option maxRecDepth 100000 in
theorem kX4_reachPieces {zs : ZS} (l : Launch) (dC : Nat → ClassId) (dI : Nat → Nat → Nat) (p0a : Nat → Nat) (p0k : Nat → ClassId) (p0w : ST) (p0l : SL) (sz : Nat) (o : Int32 × ST) (hrun : fX4_reachPieces p0w = some o) : Met l yX4_reachPieces (wz yX4_reachPieces cX4_reachPieces 3 (Option.some Jvm.ClassFile.FieldType.int)) ({ frames := 1, cells := 0, slots := 0, locals := 23 } : Room) (va_Pc [.ref (p0a 0)] (PRE zs dC dI (List.flatten ([(oX4 (p0a 0) p0a p0k p0w p0l)] : List va_W)) (List.flatten ([(tX4 p0k)] : List (List (ClassId × FieldType)))) sz)) (va_Qi (fun (r : Int32) (_ : Unit) => r = (o.1)) (fun _ t => POST dC dI (List.flatten ([(oX4 (p0a 0) p0a p0k (o.2) p0l)] : List va_W)) (List.flatten ([(tX4 p0k)] : List (List (ClassId × FieldType)))) (va_A (List.flatten ([(oX4 (p0a 0) p0a p0k p0w p0l)] : List va_W)) sz) t) (va_A (List.flatten ([(oX4 (p0a 0) p0a p0k p0w p0l)] : List va_W)) sz)) 0 0 (va_A (List.flatten ([(oX4 (p0a 0) p0a p0k p0w p0l)] : List va_W)) sz) := by
  refine Met.ofW (cc := cX4_reachPieces) (maxL := 3) (ret := (Option.some Jvm.ClassFile.FieldType.int)) (by decide) rfl ?_
  intro p e s m args below meth c s₁ B hml hv
  obtain ⟨rfl, hsz, hP, hK, hD0, hE⟩ := hv
  have hx := B.exec
  have hb := B.bytes
  have hr := B.returns
  have hts0 := atoms_spec (ws := wz yX4_reachPieces cX4_reachPieces 3 (Option.some Jvm.ClassFile.FieldType.int)) B.pre
  have hts : ∀ w ∈ gw, w.before _ s = true := fun w h => hts0 w (List.mem_cons_of_mem _ h)
  have hown : s.vm.findClass RX4 = some m.cls := findClass_of_methodNamed B.named
  have hlocks := B.notSynchronized
  subst hsz
  have hD := hD0.self (sz := s.heap.size)
  refine gQ9 ?_
  intro Q hQ
  generalize hAe : va_A (List.flatten ([(oX4 (p0a 0) p0a p0k p0w p0l)] : List va_W)) s.heap.size = A at hD hE hQ
  have hA : ∀ q : Nat, s.heap.size ≤ q → A q := fun q h => by rw [← hAe]; exact Or.inr h
  have hS : va_S A s.heap s.heap [] := va_S.rf
  have hP : va_P (dC, dI) cls (List.flatten ([(oX4 (p0a 0) p0a p0k p0w p0l)] : List va_W)) s.heap := hP
  have hl := lv_entry ([.ref (p0a 0)]) (n := 3) (Nat.le_of_ble_eq_true rfl)
  rw [lg_entry_eq]
  generalize (lg_sl ([.ref (p0a 0)]) ++ List.replicate (3 - (lg_sl ([.ref (p0a 0)])).length) Slot.unset).toArray = ls at hl ⊢
  have hl : lv_has ls 3 [(0, .ref (p0a 0))] := hl
  obtain ⟨H, hHe⟩ : ∃ H, H = s.heap := ⟨_, rfl⟩
  obtain ⟨locs, hle⟩ : ∃ locs : List Loc, locs = [] := ⟨_, rfl⟩
  rw [← hHe] at hP
  have hS : va_S A s.heap H locs := by rw [hHe, hle]; exact hS
  show W p l e ({ frames := 1, cells := 0, slots := 0, locals := 23 } : Room) s m ([.ref (p0a 0)] : List Value).toArray below meth c s.heap [] 0 0 Q (F0 m 0 ls [])
  rw [← hle]
  refine wH9 hHe ?_
  unfold fX4_reachPieces at hrun
  refine lv_aload_n hx hb dX4_reachPieces_0 rfl (lv_at hl 0 rfl) ?_
  refine va_get (D := (dC, dI)) (ci := 6) (v := .ref (p0a 12)) (C := RX4) (T := TX4) (N := 20) hx hb hts i_X4 hown hK hP 0 rfl rfl 11 (by decide) (hts _ qw260) (fun _ h9 => h9) rfl dX4_reachPieces_1 ?_
  refine lv_iconst (v := (-1)) hx hb dX4_reachPieces_4 (by decide) ?_
  obtain ⟨o_1, hc_1, hrun⟩ := bnd9 hrun
  have hP2 : va_P (dC, dI) cls (List.flatten ([[((p0a 12), .inl ((p0k 12), 640, .inl (p0w 12)))], [((p0a 0), .inr (6, [.ref (p0a 1), .ref (p0a 2), .ref (p0a 3), .ref (p0a 4), .ref (p0a 5), .int (p0w 0 5), .ref (p0a 7), .ref (p0a 8), .ref (p0a 9), .ref (p0a 10), .ref (p0a 11), .ref (p0a 12), .ref (p0a 13), .ref (p0a 14), .ref (p0a 15), .ref (p0a 16), .ref (p0a 17), .ref (p0a 18), .ref (p0a 19), .ref (p0a 20)])), ((p0a 2), .inl ((p0k 2), 3200, .inl (p0w 2))), ((p0a 3), .inl ((p0k 3), 3200, .inl (p0w 3))), ((p0a 4), .inl ((p0k 4), 3200, .inl (p0w 4))), ((p0a 5), .inl ((p0k 5), 512, .inl (p0w 5))), ((p0a 7), .inl ((p0k 7), 640, .inl (p0w 7))), ((p0a 8), .inl ((p0k 8), 640, .inl (p0w 8))), ((p0a 9), .inl ((p0k 9), 640, .inl (p0w 9))), ((p0a 10), .inl ((p0k 10), 640, .inl (p0w 10))), ((p0a 11), .inl ((p0k 11), 640, .inl (p0w 11))), ((p0a 13), .inl ((p0k 13), 640, .inl (p0w 13))), ((p0a 14), .inl ((p0k 14), 640, .inl (p0w 14))), ((p0a 15), .inl ((p0k 15), 60, .inl (p0w 15))), ((p0a 16), .inl ((p0k 16), 320, .inr (.inl (p0l 16)))), ((p0a 17), .inl ((p0k 17), 320, .inr (.inl (p0l 17)))), ((p0a 18), .inl ((p0k 18), 60, .inr (.inl (p0l 18)))), ((p0a 19), .inl ((p0k 19), 250, .inl (p0w 19))), ((p0a 20), .inl ((p0k 20), 19200, .inl (p0w 20)))]] : List va_W)) H := vP_perm hP ((bP (List.Perm.refl _)).trans (List.Perm.append_right _ (List.perm_middle (a := (((p0a 12), .inl ((p0k 12), 640, .inl (p0w 12))) : Nat × va_E)) (l₁ := ([((p0a 0), .inr (6, [.ref (p0a 1), .ref (p0a 2), .ref (p0a 3), .ref (p0a 4), .ref (p0a 5), .int (p0w 0 5), .ref (p0a 7), .ref (p0a 8), .ref (p0a 9), .ref (p0a 10), .ref (p0a 11), .ref (p0a 12), .ref (p0a 13), .ref (p0a 14), .ref (p0a 15), .ref (p0a 16), .ref (p0a 17), .ref (p0a 18), .ref (p0a 19), .ref (p0a 20)])), ((p0a 2), .inl ((p0k 2), 3200, .inl (p0w 2))), ((p0a 3), .inl ((p0k 3), 3200, .inl (p0w 3))), ((p0a 4), .inl ((p0k 4), 3200, .inl (p0w 4))), ((p0a 5), .inl ((p0k 5), 512, .inl (p0w 5))), ((p0a 7), .inl ((p0k 7), 640, .inl (p0w 7))), ((p0a 8), .inl ((p0k 8), 640, .inl (p0w 8))), ((p0a 9), .inl ((p0k 9), 640, .inl (p0w 9))), ((p0a 10), .inl ((p0k 10), 640, .inl (p0w 10))), ((p0a 11), .inl ((p0k 11), 640, .inl (p0w 11)))] : va_W)) (l₂ := ([((p0a 13), .inl ((p0k 13), 640, .inl (p0w 13))), ((p0a 14), .inl ((p0k 14), 640, .inl (p0w 14))), ((p0a 15), .inl ((p0k 15), 60, .inl (p0w 15))), ((p0a 16), .inl ((p0k 16), 320, .inr (.inl (p0l 16)))), ((p0a 17), .inl ((p0k 17), 320, .inr (.inl (p0l 17)))), ((p0a 18), .inl ((p0k 18), 60, .inr (.inl (p0l 18)))), ((p0a 19), .inl ((p0k 19), 250, .inl (p0w 19))), ((p0a 20), .inl ((p0k 20), 19200, .inl (p0w 20)))] : va_W)))))
  have hD2 : va_D A (List.flatten ([[((p0a 12), .inl ((p0k 12), 640, .inl (p0w 12)))], [((p0a 0), .inr (6, [.ref (p0a 1), .ref (p0a 2), .ref (p0a 3), .ref (p0a 4), .ref (p0a 5), .int (p0w 0 5), .ref (p0a 7), .ref (p0a 8), .ref (p0a 9), .ref (p0a 10), .ref (p0a 11), .ref (p0a 12), .ref (p0a 13), .ref (p0a 14), .ref (p0a 15), .ref (p0a 16), .ref (p0a 17), .ref (p0a 18), .ref (p0a 19), .ref (p0a 20)])), ((p0a 2), .inl ((p0k 2), 3200, .inl (p0w 2))), ((p0a 3), .inl ((p0k 3), 3200, .inl (p0w 3))), ((p0a 4), .inl ((p0k 4), 3200, .inl (p0w 4))), ((p0a 5), .inl ((p0k 5), 512, .inl (p0w 5))), ((p0a 7), .inl ((p0k 7), 640, .inl (p0w 7))), ((p0a 8), .inl ((p0k 8), 640, .inl (p0w 8))), ((p0a 9), .inl ((p0k 9), 640, .inl (p0w 9))), ((p0a 10), .inl ((p0k 10), 640, .inl (p0w 10))), ((p0a 11), .inl ((p0k 11), 640, .inl (p0w 11))), ((p0a 13), .inl ((p0k 13), 640, .inl (p0w 13))), ((p0a 14), .inl ((p0k 14), 640, .inl (p0w 14))), ((p0a 15), .inl ((p0k 15), 60, .inl (p0w 15))), ((p0a 16), .inl ((p0k 16), 320, .inr (.inl (p0l 16)))), ((p0a 17), .inl ((p0k 17), 320, .inr (.inl (p0l 17)))), ((p0a 18), .inl ((p0k 18), 60, .inr (.inl (p0l 18)))), ((p0a 19), .inl ((p0k 19), 250, .inl (p0w 19))), ((p0a 20), .inl ((p0k 20), 19200, .inl (p0w 20)))]] : List va_W)) := vD_perm hD ((bP (List.Perm.refl _)).trans (List.Perm.append_right _ (List.perm_middle (a := (((p0a 12), .inl ((p0k 12), 640, .inl (p0w 12))) : Nat × va_E)) (l₁ := ([((p0a 0), .inr (6, [.ref (p0a 1), .ref (p0a 2), .ref (p0a 3), .ref (p0a 4), .ref (p0a 5), .int (p0w 0 5), .ref (p0a 7), .ref (p0a 8), .ref (p0a 9), .ref (p0a 10), .ref (p0a 11), .ref (p0a 12), .ref (p0a 13), .ref (p0a 14), .ref (p0a 15), .ref (p0a 16), .ref (p0a 17), .ref (p0a 18), .ref (p0a 19), .ref (p0a 20)])), ((p0a 2), .inl ((p0k 2), 3200, .inl (p0w 2))), ((p0a 3), .inl ((p0k 3), 3200, .inl (p0w 3))), ((p0a 4), .inl ((p0k 4), 3200, .inl (p0w 4))), ((p0a 5), .inl ((p0k 5), 512, .inl (p0w 5))), ((p0a 7), .inl ((p0k 7), 640, .inl (p0w 7))), ((p0a 8), .inl ((p0k 8), 640, .inl (p0w 8))), ((p0a 9), .inl ((p0k 9), 640, .inl (p0w 9))), ((p0a 10), .inl ((p0k 10), 640, .inl (p0w 10))), ((p0a 11), .inl ((p0k 11), 640, .inl (p0w 11)))] : va_W)) (l₂ := ([((p0a 13), .inl ((p0k 13), 640, .inl (p0w 13))), ((p0a 14), .inl ((p0k 14), 640, .inl (p0w 14))), ((p0a 15), .inl ((p0k 15), 60, .inl (p0w 15))), ((p0a 16), .inl ((p0k 16), 320, .inr (.inl (p0l 16)))), ((p0a 17), .inl ((p0k 17), 320, .inr (.inl (p0l 17)))), ((p0a 18), .inl ((p0k 18), 60, .inr (.inl (p0l 18)))), ((p0a 19), .inl ((p0k 19), 250, .inl (p0w 19))), ((p0a 20), .inl ((p0k 20), 19200, .inl (p0w 20)))] : va_W)))))
  have hK2 : va_K (dC, dI) cls (List.flatten ([[((p0k 12), .int)], [((p0k 2), .int), ((p0k 3), .int), ((p0k 4), .int), ((p0k 5), .int), ((p0k 7), .int), ((p0k 8), .int), ((p0k 9), .int), ((p0k 10), .int), ((p0k 11), .int), ((p0k 13), .int), ((p0k 14), .int), ((p0k 15), .int), ((p0k 16), .long), ((p0k 17), .long), ((p0k 18), .long), ((p0k 19), .int), ((p0k 20), .int)]] : List (List (ClassId × FieldType)))) s := vK_perm hK ((bP (List.Perm.refl _)).trans (List.Perm.append_right _ (List.perm_middle (a := (((p0k 12), .int) : ClassId × FieldType)) (l₁ := ([((p0k 2), .int), ((p0k 3), .int), ((p0k 4), .int), ((p0k 5), .int), ((p0k 7), .int), ((p0k 8), .int), ((p0k 9), .int), ((p0k 10), .int), ((p0k 11), .int)] : List (ClassId × FieldType))) (l₂ := ([((p0k 13), .int), ((p0k 14), .int), ((p0k 15), .int), ((p0k 16), .long), ((p0k 17), .long), ((p0k 18), .long), ((p0k 19), .int), ((p0k 20), .int)] : List (ClassId × FieldType))))))
  have hPx : va_P (dC, dI) cls ((List.flatten ([[((p0a 12), .inl ((p0k 12), 640, .inl (p0w 12)))]] : List va_W)) ++ (List.flatten ([[((p0a 0), .inr (6, [.ref (p0a 1), .ref (p0a 2), .ref (p0a 3), .ref (p0a 4), .ref (p0a 5), .int (p0w 0 5), .ref (p0a 7), .ref (p0a 8), .ref (p0a 9), .ref (p0a 10), .ref (p0a 11), .ref (p0a 12), .ref (p0a 13), .ref (p0a 14), .ref (p0a 15), .ref (p0a 16), .ref (p0a 17), .ref (p0a 18), .ref (p0a 19), .ref (p0a 20)])), ((p0a 2), .inl ((p0k 2), 3200, .inl (p0w 2))), ((p0a 3), .inl ((p0k 3), 3200, .inl (p0w 3))), ((p0a 4), .inl ((p0k 4), 3200, .inl (p0w 4))), ((p0a 5), .inl ((p0k 5), 512, .inl (p0w 5))), ((p0a 7), .inl ((p0k 7), 640, .inl (p0w 7))), ((p0a 8), .inl ((p0k 8), 640, .inl (p0w 8))), ((p0a 9), .inl ((p0k 9), 640, .inl (p0w 9))), ((p0a 10), .inl ((p0k 10), 640, .inl (p0w 10))), ((p0a 11), .inl ((p0k 11), 640, .inl (p0w 11))), ((p0a 13), .inl ((p0k 13), 640, .inl (p0w 13))), ((p0a 14), .inl ((p0k 14), 640, .inl (p0w 14))), ((p0a 15), .inl ((p0k 15), 60, .inl (p0w 15))), ((p0a 16), .inl ((p0k 16), 320, .inr (.inl (p0l 16)))), ((p0a 17), .inl ((p0k 17), 320, .inr (.inl (p0l 17)))), ((p0a 18), .inl ((p0k 18), 60, .inr (.inl (p0l 18)))), ((p0a 19), .inl ((p0k 19), 250, .inl (p0w 19))), ((p0a 20), .inl ((p0k 20), 19200, .inl (p0w 20)))]] : List va_W))) H := vP_fa (vP_perm hP2 (bP (List.Perm.refl _)))
  have hDx : va_D A ((List.flatten ([[((p0a 12), .inl ((p0k 12), 640, .inl (p0w 12)))]] : List va_W)) ++ (List.flatten ([[((p0a 0), .inr (6, [.ref (p0a 1), .ref (p0a 2), .ref (p0a 3), .ref (p0a 4), .ref (p0a 5), .int (p0w 0 5), .ref (p0a 7), .ref (p0a 8), .ref (p0a 9), .ref (p0a 10), .ref (p0a 11), .ref (p0a 12), .ref (p0a 13), .ref (p0a 14), .ref (p0a 15), .ref (p0a 16), .ref (p0a 17), .ref (p0a 18), .ref (p0a 19), .ref (p0a 20)])), ((p0a 2), .inl ((p0k 2), 3200, .inl (p0w 2))), ((p0a 3), .inl ((p0k 3), 3200, .inl (p0w 3))), ((p0a 4), .inl ((p0k 4), 3200, .inl (p0w 4))), ((p0a 5), .inl ((p0k 5), 512, .inl (p0w 5))), ((p0a 7), .inl ((p0k 7), 640, .inl (p0w 7))), ((p0a 8), .inl ((p0k 8), 640, .inl (p0w 8))), ((p0a 9), .inl ((p0k 9), 640, .inl (p0w 9))), ((p0a 10), .inl ((p0k 10), 640, .inl (p0w 10))), ((p0a 11), .inl ((p0k 11), 640, .inl (p0w 11))), ((p0a 13), .inl ((p0k 13), 640, .inl (p0w 13))), ((p0a 14), .inl ((p0k 14), 640, .inl (p0w 14))), ((p0a 15), .inl ((p0k 15), 60, .inl (p0w 15))), ((p0a 16), .inl ((p0k 16), 320, .inr (.inl (p0l 16)))), ((p0a 17), .inl ((p0k 17), 320, .inr (.inl (p0l 17)))), ((p0a 18), .inl ((p0k 18), 60, .inr (.inl (p0l 18)))), ((p0a 19), .inl ((p0k 19), 250, .inl (p0w 19))), ((p0a 20), .inl ((p0k 20), 19200, .inl (p0w 20)))]] : List va_W))) := vD_fa (vD_perm hD2 (bP (List.Perm.refl _)))
  have hKx : va_K (dC, dI) cls ((List.flatten ([[((p0k 12), .int)]] : List (List (ClassId × FieldType)))) ++ (List.flatten ([[((p0k 2), .int), ((p0k 3), .int), ((p0k 4), .int), ((p0k 5), .int), ((p0k 7), .int), ((p0k 8), .int), ((p0k 9), .int), ((p0k 10), .int), ((p0k 11), .int), ((p0k 13), .int), ((p0k 14), .int), ((p0k 15), .int), ((p0k 16), .long), ((p0k 17), .long), ((p0k 18), .long), ((p0k 19), .int), ((p0k 20), .int)]] : List (List (ClassId × FieldType))))) s := vK_fa (vK_perm hK2 (bP (List.Perm.refl _)))
  have hPc := vP_l hPx
  have hDc := vD_l hDx
  have hKc := vK_l hKx
  have hFc := vfree hDx hS hA
  refine va_callv (va_runS (As := [.ref (p0a 12), .int (-1)]) (rest := []) ⟨hx, hb, hml, hown, hts⟩ (kJ7_fill_53178 l dC dI (p0a := (p0a 12)) (p0k := (p0k 12)) (p0n := 640) (p0f := (p0w 12)) (p1 := (-1)) (sz := _) (o := o_1) (hrun := hc_1)) (va_cwS 2 hts (gi_S qw325 qw218 qw109 (gi_z qw216)) rfl rfl rfl (by decide +kernel) ⟨Nat.le_of_ble_eq_true rfl, Nat.le_of_ble_eq_true rfl⟩) ⟨PRE.blind, PRE.of hE hS hFc hPc hKc hDc⟩ rfl rfl hl.1 rfl (lv_room (Nat.le_of_ble_eq_true rfl)) dX4_reachPieces_5 ⟨(Nat.le_of_ble_eq_true rfl), (Nat.le_of_ble_eq_true rfl)⟩) hS (fun q _ h => hFc q h) hFc (fun u t H locs ht hvm hw hB hz1 hk1 hS => ?_)
  obtain ⟨b1, b2, b3⟩ := hB
  rw [ht] at b1
  obtain ⟨hP, hD, hK⟩ := JOINC (wc := (List.flatten ([[((p0a 12), .inl ((p0k 12), 640, .inl (p0w 12)))]] : List va_W))) (wr := (List.flatten ([[((p0a 0), .inr (6, [.ref (p0a 1), .ref (p0a 2), .ref (p0a 3), .ref (p0a 4), .ref (p0a 5), .int (p0w 0 5), .ref (p0a 7), .ref (p0a 8), .ref (p0a 9), .ref (p0a 10), .ref (p0a 11), .ref (p0a 12), .ref (p0a 13), .ref (p0a 14), .ref (p0a 15), .ref (p0a 16), .ref (p0a 17), .ref (p0a 18), .ref (p0a 19), .ref (p0a 20)])), ((p0a 2), .inl ((p0k 2), 3200, .inl (p0w 2))), ((p0a 3), .inl ((p0k 3), 3200, .inl (p0w 3))), ((p0a 4), .inl ((p0k 4), 3200, .inl (p0w 4))), ((p0a 5), .inl ((p0k 5), 512, .inl (p0w 5))), ((p0a 7), .inl ((p0k 7), 640, .inl (p0w 7))), ((p0a 8), .inl ((p0k 8), 640, .inl (p0w 8))), ((p0a 9), .inl ((p0k 9), 640, .inl (p0w 9))), ((p0a 10), .inl ((p0k 10), 640, .inl (p0w 10))), ((p0a 11), .inl ((p0k 11), 640, .inl (p0w 11))), ((p0a 13), .inl ((p0k 13), 640, .inl (p0w 13))), ((p0a 14), .inl ((p0k 14), 640, .inl (p0w 14))), ((p0a 15), .inl ((p0k 15), 60, .inl (p0w 15))), ((p0a 16), .inl ((p0k 16), 320, .inr (.inl (p0l 16)))), ((p0a 17), .inl ((p0k 17), 320, .inr (.inl (p0l 17)))), ((p0a 18), .inl ((p0k 18), 60, .inr (.inl (p0l 18)))), ((p0a 19), .inl ((p0k 19), 250, .inl (p0w 19))), ((p0a 20), .inl ((p0k 20), 19200, .inl (p0w 20)))]] : List va_W))) (w1 := (List.flatten ([[((p0a 12), .inl ((p0k 12), 640, .inl ((srw p0w 12 o_1) 12)))]] : List va_W))) (t1 := (List.flatten ([[((p0k 12), .int)]] : List (List (ClassId × FieldType))))) hPx hDx hKx hk1 hFc b1 (va_K.moved hvm.symm b2) b3
  have hP3 : va_P (dC, dI) cls (List.flatten ([(oX4 (p0a 0) p0a p0k (srw p0w 12 o_1) p0l)] : List va_W)) H := vP_perm (vP_fb hP) ((bP (List.Perm.refl _)).trans (List.Perm.append_right _ (List.perm_middle (a := (((p0a 12), .inl ((p0k 12), 640, .inl ((srw p0w 12 o_1) 12))) : Nat × va_E)) (l₁ := ([((p0a 0), .inr (6, [.ref (p0a 1), .ref (p0a 2), .ref (p0a 3), .ref (p0a 4), .ref (p0a 5), .int ((srw p0w 12 o_1) 0 5), .ref (p0a 7), .ref (p0a 8), .ref (p0a 9), .ref (p0a 10), .ref (p0a 11), .ref (p0a 12), .ref (p0a 13), .ref (p0a 14), .ref (p0a 15), .ref (p0a 16), .ref (p0a 17), .ref (p0a 18), .ref (p0a 19), .ref (p0a 20)])), ((p0a 2), .inl ((p0k 2), 3200, .inl ((srw p0w 12 o_1) 2))), ((p0a 3), .inl ((p0k 3), 3200, .inl ((srw p0w 12 o_1) 3))), ((p0a 4), .inl ((p0k 4), 3200, .inl ((srw p0w 12 o_1) 4))), ((p0a 5), .inl ((p0k 5), 512, .inl ((srw p0w 12 o_1) 5))), ((p0a 7), .inl ((p0k 7), 640, .inl ((srw p0w 12 o_1) 7))), ((p0a 8), .inl ((p0k 8), 640, .inl ((srw p0w 12 o_1) 8))), ((p0a 9), .inl ((p0k 9), 640, .inl ((srw p0w 12 o_1) 9))), ((p0a 10), .inl ((p0k 10), 640, .inl ((srw p0w 12 o_1) 10))), ((p0a 11), .inl ((p0k 11), 640, .inl ((srw p0w 12 o_1) 11)))] : va_W)) (l₂ := ([((p0a 13), .inl ((p0k 13), 640, .inl ((srw p0w 12 o_1) 13))), ((p0a 14), .inl ((p0k 14), 640, .inl ((srw p0w 12 o_1) 14))), ((p0a 15), .inl ((p0k 15), 60, .inl ((srw p0w 12 o_1) 15))), ((p0a 16), .inl ((p0k 16), 320, .inr (.inl (p0l 16)))), ((p0a 17), .inl ((p0k 17), 320, .inr (.inl (p0l 17)))), ((p0a 18), .inl ((p0k 18), 60, .inr (.inl (p0l 18)))), ((p0a 19), .inl ((p0k 19), 250, .inl ((srw p0w 12 o_1) 19))), ((p0a 20), .inl ((p0k 20), 19200, .inl ((srw p0w 12 o_1) 20)))] : va_W))).symm))
  have hD3 : va_D A (List.flatten ([(oX4 (p0a 0) p0a p0k (srw p0w 12 o_1) p0l)] : List va_W)) := vD_perm (vD_fb hD) ((bP (List.Perm.refl _)).trans (List.Perm.append_right _ (List.perm_middle (a := (((p0a 12), .inl ((p0k 12), 640, .inl ((srw p0w 12 o_1) 12))) : Nat × va_E)) (l₁ := ([((p0a 0), .inr (6, [.ref (p0a 1), .ref (p0a 2), .ref (p0a 3), .ref (p0a 4), .ref (p0a 5), .int ((srw p0w 12 o_1) 0 5), .ref (p0a 7), .ref (p0a 8), .ref (p0a 9), .ref (p0a 10), .ref (p0a 11), .ref (p0a 12), .ref (p0a 13), .ref (p0a 14), .ref (p0a 15), .ref (p0a 16), .ref (p0a 17), .ref (p0a 18), .ref (p0a 19), .ref (p0a 20)])), ((p0a 2), .inl ((p0k 2), 3200, .inl ((srw p0w 12 o_1) 2))), ((p0a 3), .inl ((p0k 3), 3200, .inl ((srw p0w 12 o_1) 3))), ((p0a 4), .inl ((p0k 4), 3200, .inl ((srw p0w 12 o_1) 4))), ((p0a 5), .inl ((p0k 5), 512, .inl ((srw p0w 12 o_1) 5))), ((p0a 7), .inl ((p0k 7), 640, .inl ((srw p0w 12 o_1) 7))), ((p0a 8), .inl ((p0k 8), 640, .inl ((srw p0w 12 o_1) 8))), ((p0a 9), .inl ((p0k 9), 640, .inl ((srw p0w 12 o_1) 9))), ((p0a 10), .inl ((p0k 10), 640, .inl ((srw p0w 12 o_1) 10))), ((p0a 11), .inl ((p0k 11), 640, .inl ((srw p0w 12 o_1) 11)))] : va_W)) (l₂ := ([((p0a 13), .inl ((p0k 13), 640, .inl ((srw p0w 12 o_1) 13))), ((p0a 14), .inl ((p0k 14), 640, .inl ((srw p0w 12 o_1) 14))), ((p0a 15), .inl ((p0k 15), 60, .inl ((srw p0w 12 o_1) 15))), ((p0a 16), .inl ((p0k 16), 320, .inr (.inl (p0l 16)))), ((p0a 17), .inl ((p0k 17), 320, .inr (.inl (p0l 17)))), ((p0a 18), .inl ((p0k 18), 60, .inr (.inl (p0l 18)))), ((p0a 19), .inl ((p0k 19), 250, .inl ((srw p0w 12 o_1) 19))), ((p0a 20), .inl ((p0k 20), 19200, .inl ((srw p0w 12 o_1) 20)))] : va_W))).symm))
  have hK3 : va_K (dC, dI) cls (List.flatten ([(tX4 p0k)] : List (List (ClassId × FieldType)))) s := vK_perm (vK_fb hK) ((bP (List.Perm.refl _)).trans (List.Perm.append_right _ (List.perm_middle (a := (((p0k 12), .int) : ClassId × FieldType)) (l₁ := ([((p0k 2), .int), ((p0k 3), .int), ((p0k 4), .int), ((p0k 5), .int), ((p0k 7), .int), ((p0k 8), .int), ((p0k 9), .int), ((p0k 10), .int), ((p0k 11), .int)] : List (ClassId × FieldType))) (l₂ := ([((p0k 13), .int), ((p0k 14), .int), ((p0k 15), .int), ((p0k 16), .long), ((p0k 17), .long), ((p0k 18), .long), ((p0k 19), .int), ((p0k 20), .int)] : List (ClassId × FieldType)))).symm))
  have hP : va_P (dC, dI) cls (List.flatten ([(oX4 (p0a 0) p0a p0k (srw p0w 12 o_1) p0l)] : List va_W)) H := vP_perm hP3 (bP (List.Perm.refl _))
  have hD : va_D A (List.flatten ([(oX4 (p0a 0) p0a p0k (srw p0w 12 o_1) p0l)] : List va_W)) := vD_perm hD3 (bP (List.Perm.refl _))
  have hK : va_K (dC, dI) cls (List.flatten ([(tX4 p0k)] : List (List (ClassId × FieldType)))) s := vK_perm hK3 (bP (List.Perm.refl _))
  refine lv_aload_n hx hb dX4_reachPieces_8 rfl (lv_at hl 0 rfl) ?_
  refine va_get (D := (dC, dI)) (ci := 6) (v := .ref (p0a 11)) (C := RX4) (T := TX4) (N := 20) hx hb hts i_X4 hown hK hP 0 rfl rfl 10 (by decide) (hts _ qw326) (fun _ h9 => h9) rfl dX4_reachPieces_9 ?_
  refine lv_iconst (v := 0) hx hb dX4_reachPieces_12 (by decide) ?_
  obtain ⟨o_2, hc_2, hrun⟩ := bnd9 hrun
  have hP2 : va_P (dC, dI) cls (List.flatten ([[((p0a 11), .inl ((p0k 11), 640, .inl ((srw p0w 12 o_1) 11)))], [((p0a 0), .inr (6, [.ref (p0a 1), .ref (p0a 2), .ref (p0a 3), .ref (p0a 4), .ref (p0a 5), .int ((srw p0w 12 o_1) 0 5), .ref (p0a 7), .ref (p0a 8), .ref (p0a 9), .ref (p0a 10), .ref (p0a 11), .ref (p0a 12), .ref (p0a 13), .ref (p0a 14), .ref (p0a 15), .ref (p0a 16), .ref (p0a 17), .ref (p0a 18), .ref (p0a 19), .ref (p0a 20)])), ((p0a 2), .inl ((p0k 2), 3200, .inl ((srw p0w 12 o_1) 2))), ((p0a 3), .inl ((p0k 3), 3200, .inl ((srw p0w 12 o_1) 3))), ((p0a 4), .inl ((p0k 4), 3200, .inl ((srw p0w 12 o_1) 4))), ((p0a 5), .inl ((p0k 5), 512, .inl ((srw p0w 12 o_1) 5))), ((p0a 7), .inl ((p0k 7), 640, .inl ((srw p0w 12 o_1) 7))), ((p0a 8), .inl ((p0k 8), 640, .inl ((srw p0w 12 o_1) 8))), ((p0a 9), .inl ((p0k 9), 640, .inl ((srw p0w 12 o_1) 9))), ((p0a 10), .inl ((p0k 10), 640, .inl ((srw p0w 12 o_1) 10))), ((p0a 12), .inl ((p0k 12), 640, .inl ((srw p0w 12 o_1) 12))), ((p0a 13), .inl ((p0k 13), 640, .inl ((srw p0w 12 o_1) 13))), ((p0a 14), .inl ((p0k 14), 640, .inl ((srw p0w 12 o_1) 14))), ((p0a 15), .inl ((p0k 15), 60, .inl ((srw p0w 12 o_1) 15))), ((p0a 16), .inl ((p0k 16), 320, .inr (.inl (p0l 16)))), ((p0a 17), .inl ((p0k 17), 320, .inr (.inl (p0l 17)))), ((p0a 18), .inl ((p0k 18), 60, .inr (.inl (p0l 18)))), ((p0a 19), .inl ((p0k 19), 250, .inl ((srw p0w 12 o_1) 19))), ((p0a 20), .inl ((p0k 20), 19200, .inl ((srw p0w 12 o_1) 20)))]] : List va_W)) H := vP_perm hP ((bP (List.Perm.refl _)).trans (List.Perm.append_right _ (List.perm_middle (a := (((p0a 11), .inl ((p0k 11), 640, .inl ((srw p0w 12 o_1) 11))) : Nat × va_E)) (l₁ := ([((p0a 0), .inr (6, [.ref (p0a 1), .ref (p0a 2), .ref (p0a 3), .ref (p0a 4), .ref (p0a 5), .int ((srw p0w 12 o_1) 0 5), .ref (p0a 7), .ref (p0a 8), .ref (p0a 9), .ref (p0a 10), .ref (p0a 11), .ref (p0a 12), .ref (p0a 13), .ref (p0a 14), .ref (p0a 15), .ref (p0a 16), .ref (p0a 17), .ref (p0a 18), .ref (p0a 19), .ref (p0a 20)])), ((p0a 2), .inl ((p0k 2), 3200, .inl ((srw p0w 12 o_1) 2))), ((p0a 3), .inl ((p0k 3), 3200, .inl ((srw p0w 12 o_1) 3))), ((p0a 4), .inl ((p0k 4), 3200, .inl ((srw p0w 12 o_1) 4))), ((p0a 5), .inl ((p0k 5), 512, .inl ((srw p0w 12 o_1) 5))), ((p0a 7), .inl ((p0k 7), 640, .inl ((srw p0w 12 o_1) 7))), ((p0a 8), .inl ((p0k 8), 640, .inl ((srw p0w 12 o_1) 8))), ((p0a 9), .inl ((p0k 9), 640, .inl ((srw p0w 12 o_1) 9))), ((p0a 10), .inl ((p0k 10), 640, .inl ((srw p0w 12 o_1) 10)))] : va_W)) (l₂ := ([((p0a 12), .inl ((p0k 12), 640, .inl ((srw p0w 12 o_1) 12))), ((p0a 13), .inl ((p0k 13), 640, .inl ((srw p0w 12 o_1) 13))), ((p0a 14), .inl ((p0k 14), 640, .inl ((srw p0w 12 o_1) 14))), ((p0a 15), .inl ((p0k 15), 60, .inl ((srw p0w 12 o_1) 15))), ((p0a 16), .inl ((p0k 16), 320, .inr (.inl (p0l 16)))), ((p0a 17), .inl ((p0k 17), 320, .inr (.inl (p0l 17)))), ((p0a 18), .inl ((p0k 18), 60, .inr (.inl (p0l 18)))), ((p0a 19), .inl ((p0k 19), 250, .inl ((srw p0w 12 o_1) 19))), ((p0a 20), .inl ((p0k 20), 19200, .inl ((srw p0w 12 o_1) 20)))] : va_W)))))
  have hD2 : va_D A (List.flatten ([[((p0a 11), .inl ((p0k 11), 640, .inl ((srw p0w 12 o_1) 11)))], [((p0a 0), .inr (6, [.ref (p0a 1), .ref (p0a 2), .ref (p0a 3), .ref (p0a 4), .ref (p0a 5), .int ((srw p0w 12 o_1) 0 5), .ref (p0a 7), .ref (p0a 8), .ref (p0a 9), .ref (p0a 10), .ref (p0a 11), .ref (p0a 12), .ref (p0a 13), .ref (p0a 14), .ref (p0a 15), .ref (p0a 16), .ref (p0a 17), .ref (p0a 18), .ref (p0a 19), .ref (p0a 20)])), ((p0a 2), .inl ((p0k 2), 3200, .inl ((srw p0w 12 o_1) 2))), ((p0a 3), .inl ((p0k 3), 3200, .inl ((srw p0w 12 o_1) 3))), ((p0a 4), .inl ((p0k 4), 3200, .inl ((srw p0w 12 o_1) 4))), ((p0a 5), .inl ((p0k 5), 512, .inl ((srw p0w 12 o_1) 5))), ((p0a 7), .inl ((p0k 7), 640, .inl ((srw p0w 12 o_1) 7))), ((p0a 8), .inl ((p0k 8), 640, .inl ((srw p0w 12 o_1) 8))), ((p0a 9), .inl ((p0k 9), 640, .inl ((srw p0w 12 o_1) 9))), ((p0a 10), .inl ((p0k 10), 640, .inl ((srw p0w 12 o_1) 10))), ((p0a 12), .inl ((p0k 12), 640, .inl ((srw p0w 12 o_1) 12))), ((p0a 13), .inl ((p0k 13), 640, .inl ((srw p0w 12 o_1) 13))), ((p0a 14), .inl ((p0k 14), 640, .inl ((srw p0w 12 o_1) 14))), ((p0a 15), .inl ((p0k 15), 60, .inl ((srw p0w 12 o_1) 15))), ((p0a 16), .inl ((p0k 16), 320, .inr (.inl (p0l 16)))), ((p0a 17), .inl ((p0k 17), 320, .inr (.inl (p0l 17)))), ((p0a 18), .inl ((p0k 18), 60, .inr (.inl (p0l 18)))), ((p0a 19), .inl ((p0k 19), 250, .inl ((srw p0w 12 o_1) 19))), ((p0a 20), .inl ((p0k 20), 19200, .inl ((srw p0w 12 o_1) 20)))]] : List va_W)) := vD_perm hD ((bP (List.Perm.refl _)).trans (List.Perm.append_right _ (List.perm_middle (a := (((p0a 11), .inl ((p0k 11), 640, .inl ((srw p0w 12 o_1) 11))) : Nat × va_E)) (l₁ := ([((p0a 0), .inr (6, [.ref (p0a 1), .ref (p0a 2), .ref (p0a 3), .ref (p0a 4), .ref (p0a 5), .int ((srw p0w 12 o_1) 0 5), .ref (p0a 7), .ref (p0a 8), .ref (p0a 9), .ref (p0a 10), .ref (p0a 11), .ref (p0a 12), .ref (p0a 13), .ref (p0a 14), .ref (p0a 15), .ref (p0a 16), .ref (p0a 17), .ref (p0a 18), .ref (p0a 19), .ref (p0a 20)])), ((p0a 2), .inl ((p0k 2), 3200, .inl ((srw p0w 12 o_1) 2))), ((p0a 3), .inl ((p0k 3), 3200, .inl ((srw p0w 12 o_1) 3))), ((p0a 4), .inl ((p0k 4), 3200, .inl ((srw p0w 12 o_1) 4))), ((p0a 5), .inl ((p0k 5), 512, .inl ((srw p0w 12 o_1) 5))), ((p0a 7), .inl ((p0k 7), 640, .inl ((srw p0w 12 o_1) 7))), ((p0a 8), .inl ((p0k 8), 640, .inl ((srw p0w 12 o_1) 8))), ((p0a 9), .inl ((p0k 9), 640, .inl ((srw p0w 12 o_1) 9))), ((p0a 10), .inl ((p0k 10), 640, .inl ((srw p0w 12 o_1) 10)))] : va_W)) (l₂ := ([((p0a 12), .inl ((p0k 12), 640, .inl ((srw p0w 12 o_1) 12))), ((p0a 13), .inl ((p0k 13), 640, .inl ((srw p0w 12 o_1) 13))), ((p0a 14), .inl ((p0k 14), 640, .inl ((srw p0w 12 o_1) 14))), ((p0a 15), .inl ((p0k 15), 60, .inl ((srw p0w 12 o_1) 15))), ((p0a 16), .inl ((p0k 16), 320, .inr (.inl (p0l 16)))), ((p0a 17), .inl ((p0k 17), 320, .inr (.inl (p0l 17)))), ((p0a 18), .inl ((p0k 18), 60, .inr (.inl (p0l 18)))), ((p0a 19), .inl ((p0k 19), 250, .inl ((srw p0w 12 o_1) 19))), ((p0a 20), .inl ((p0k 20), 19200, .inl ((srw p0w 12 o_1) 20)))] : va_W)))))
  have hK2 : va_K (dC, dI) cls (List.flatten ([[((p0k 11), .int)], [((p0k 2), .int), ((p0k 3), .int), ((p0k 4), .int), ((p0k 5), .int), ((p0k 7), .int), ((p0k 8), .int), ((p0k 9), .int), ((p0k 10), .int), ((p0k 12), .int), ((p0k 13), .int), ((p0k 14), .int), ((p0k 15), .int), ((p0k 16), .long), ((p0k 17), .long), ((p0k 18), .long), ((p0k 19), .int), ((p0k 20), .int)]] : List (List (ClassId × FieldType)))) s := vK_perm hK ((bP (List.Perm.refl _)).trans (List.Perm.append_right _ (List.perm_middle (a := (((p0k 11), .int) : ClassId × FieldType)) (l₁ := ([((p0k 2), .int), ((p0k 3), .int), ((p0k 4), .int), ((p0k 5), .int), ((p0k 7), .int), ((p0k 8), .int), ((p0k 9), .int), ((p0k 10), .int)] : List (ClassId × FieldType))) (l₂ := ([((p0k 12), .int), ((p0k 13), .int), ((p0k 14), .int), ((p0k 15), .int), ((p0k 16), .long), ((p0k 17), .long), ((p0k 18), .long), ((p0k 19), .int), ((p0k 20), .int)] : List (ClassId × FieldType))))))
  have hPx : va_P (dC, dI) cls ((List.flatten ([[((p0a 11), .inl ((p0k 11), 640, .inl ((srw p0w 12 o_1) 11)))]] : List va_W)) ++ (List.flatten ([[((p0a 0), .inr (6, [.ref (p0a 1), .ref (p0a 2), .ref (p0a 3), .ref (p0a 4), .ref (p0a 5), .int ((srw p0w 12 o_1) 0 5), .ref (p0a 7), .ref (p0a 8), .ref (p0a 9), .ref (p0a 10), .ref (p0a 11), .ref (p0a 12), .ref (p0a 13), .ref (p0a 14), .ref (p0a 15), .ref (p0a 16), .ref (p0a 17), .ref (p0a 18), .ref (p0a 19), .ref (p0a 20)])), ((p0a 2), .inl ((p0k 2), 3200, .inl ((srw p0w 12 o_1) 2))), ((p0a 3), .inl ((p0k 3), 3200, .inl ((srw p0w 12 o_1) 3))), ((p0a 4), .inl ((p0k 4), 3200, .inl ((srw p0w 12 o_1) 4))), ((p0a 5), .inl ((p0k 5), 512, .inl ((srw p0w 12 o_1) 5))), ((p0a 7), .inl ((p0k 7), 640, .inl ((srw p0w 12 o_1) 7))), ((p0a 8), .inl ((p0k 8), 640, .inl ((srw p0w 12 o_1) 8))), ((p0a 9), .inl ((p0k 9), 640, .inl ((srw p0w 12 o_1) 9))), ((p0a 10), .inl ((p0k 10), 640, .inl ((srw p0w 12 o_1) 10))), ((p0a 12), .inl ((p0k 12), 640, .inl ((srw p0w 12 o_1) 12))), ((p0a 13), .inl ((p0k 13), 640, .inl ((srw p0w 12 o_1) 13))), ((p0a 14), .inl ((p0k 14), 640, .inl ((srw p0w 12 o_1) 14))), ((p0a 15), .inl ((p0k 15), 60, .inl ((srw p0w 12 o_1) 15))), ((p0a 16), .inl ((p0k 16), 320, .inr (.inl (p0l 16)))), ((p0a 17), .inl ((p0k 17), 320, .inr (.inl (p0l 17)))), ((p0a 18), .inl ((p0k 18), 60, .inr (.inl (p0l 18)))), ((p0a 19), .inl ((p0k 19), 250, .inl ((srw p0w 12 o_1) 19))), ((p0a 20), .inl ((p0k 20), 19200, .inl ((srw p0w 12 o_1) 20)))]] : List va_W))) H := vP_fa (vP_perm hP2 (bP (List.Perm.refl _)))
  have hDx : va_D A ((List.flatten ([[((p0a 11), .inl ((p0k 11), 640, .inl ((srw p0w 12 o_1) 11)))]] : List va_W)) ++ (List.flatten ([[((p0a 0), .inr (6, [.ref (p0a 1), .ref (p0a 2), .ref (p0a 3), .ref (p0a 4), .ref (p0a 5), .int ((srw p0w 12 o_1) 0 5), .ref (p0a 7), .ref (p0a 8), .ref (p0a 9), .ref (p0a 10), .ref (p0a 11), .ref (p0a 12), .ref (p0a 13), .ref (p0a 14), .ref (p0a 15), .ref (p0a 16), .ref (p0a 17), .ref (p0a 18), .ref (p0a 19), .ref (p0a 20)])), ((p0a 2), .inl ((p0k 2), 3200, .inl ((srw p0w 12 o_1) 2))), ((p0a 3), .inl ((p0k 3), 3200, .inl ((srw p0w 12 o_1) 3))), ((p0a 4), .inl ((p0k 4), 3200, .inl ((srw p0w 12 o_1) 4))), ((p0a 5), .inl ((p0k 5), 512, .inl ((srw p0w 12 o_1) 5))), ((p0a 7), .inl ((p0k 7), 640, .inl ((srw p0w 12 o_1) 7))), ((p0a 8), .inl ((p0k 8), 640, .inl ((srw p0w 12 o_1) 8))), ((p0a 9), .inl ((p0k 9), 640, .inl ((srw p0w 12 o_1) 9))), ((p0a 10), .inl ((p0k 10), 640, .inl ((srw p0w 12 o_1) 10))), ((p0a 12), .inl ((p0k 12), 640, .inl ((srw p0w 12 o_1) 12))), ((p0a 13), .inl ((p0k 13), 640, .inl ((srw p0w 12 o_1) 13))), ((p0a 14), .inl ((p0k 14), 640, .inl ((srw p0w 12 o_1) 14))), ((p0a 15), .inl ((p0k 15), 60, .inl ((srw p0w 12 o_1) 15))), ((p0a 16), .inl ((p0k 16), 320, .inr (.inl (p0l 16)))), ((p0a 17), .inl ((p0k 17), 320, .inr (.inl (p0l 17)))), ((p0a 18), .inl ((p0k 18), 60, .inr (.inl (p0l 18)))), ((p0a 19), .inl ((p0k 19), 250, .inl ((srw p0w 12 o_1) 19))), ((p0a 20), .inl ((p0k 20), 19200, .inl ((srw p0w 12 o_1) 20)))]] : List va_W))) := vD_fa (vD_perm hD2 (bP (List.Perm.refl _)))
  have hKx : va_K (dC, dI) cls ((List.flatten ([[((p0k 11), .int)]] : List (List (ClassId × FieldType)))) ++ (List.flatten ([[((p0k 2), .int), ((p0k 3), .int), ((p0k 4), .int), ((p0k 5), .int), ((p0k 7), .int), ((p0k 8), .int), ((p0k 9), .int), ((p0k 10), .int), ((p0k 12), .int), ((p0k 13), .int), ((p0k 14), .int), ((p0k 15), .int), ((p0k 16), .long), ((p0k 17), .long), ((p0k 18), .long), ((p0k 19), .int), ((p0k 20), .int)]] : List (List (ClassId × FieldType))))) s := vK_fa (vK_perm hK2 (bP (List.Perm.refl _)))
  have hPc := vP_l hPx
  have hDc := vD_l hDx
  have hKc := vK_l hKx
  have hFc := vfree hDx hS hA
  refine va_callv (va_runS (As := [.ref (p0a 11), .int 0]) (rest := []) ⟨hx, hb, hml, hown, hts⟩ (kJ7_fill_53178 l dC dI (p0a := (p0a 11)) (p0k := (p0k 11)) (p0n := 640) (p0f := ((srw p0w 12 o_1) 11)) (p1 := 0) (sz := _) (o := o_2) (hrun := hc_2)) (va_cwS 2 hts (gi_S qw325 qw218 qw109 (gi_z qw216)) rfl rfl rfl (by decide +kernel) ⟨Nat.le_of_ble_eq_true rfl, Nat.le_of_ble_eq_true rfl⟩) ⟨PRE.blind, PRE.of hE hS hFc hPc hKc hDc⟩ rfl rfl hl.1 rfl (lv_room (Nat.le_of_ble_eq_true rfl)) dX4_reachPieces_13 ⟨(Nat.le_of_ble_eq_true rfl), (Nat.le_of_ble_eq_true rfl)⟩) hS (fun q _ h => hFc q h) hFc (fun u t H locs ht hvm hw hB hz1 hk1 hS => ?_)
  obtain ⟨b1, b2, b3⟩ := hB
  rw [ht] at b1
  obtain ⟨hP, hD, hK⟩ := JOINC (wc := (List.flatten ([[((p0a 11), .inl ((p0k 11), 640, .inl ((srw p0w 12 o_1) 11)))]] : List va_W))) (wr := (List.flatten ([[((p0a 0), .inr (6, [.ref (p0a 1), .ref (p0a 2), .ref (p0a 3), .ref (p0a 4), .ref (p0a 5), .int ((srw p0w 12 o_1) 0 5), .ref (p0a 7), .ref (p0a 8), .ref (p0a 9), .ref (p0a 10), .ref (p0a 11), .ref (p0a 12), .ref (p0a 13), .ref (p0a 14), .ref (p0a 15), .ref (p0a 16), .ref (p0a 17), .ref (p0a 18), .ref (p0a 19), .ref (p0a 20)])), ((p0a 2), .inl ((p0k 2), 3200, .inl ((srw p0w 12 o_1) 2))), ((p0a 3), .inl ((p0k 3), 3200, .inl ((srw p0w 12 o_1) 3))), ((p0a 4), .inl ((p0k 4), 3200, .inl ((srw p0w 12 o_1) 4))), ((p0a 5), .inl ((p0k 5), 512, .inl ((srw p0w 12 o_1) 5))), ((p0a 7), .inl ((p0k 7), 640, .inl ((srw p0w 12 o_1) 7))), ((p0a 8), .inl ((p0k 8), 640, .inl ((srw p0w 12 o_1) 8))), ((p0a 9), .inl ((p0k 9), 640, .inl ((srw p0w 12 o_1) 9))), ((p0a 10), .inl ((p0k 10), 640, .inl ((srw p0w 12 o_1) 10))), ((p0a 12), .inl ((p0k 12), 640, .inl ((srw p0w 12 o_1) 12))), ((p0a 13), .inl ((p0k 13), 640, .inl ((srw p0w 12 o_1) 13))), ((p0a 14), .inl ((p0k 14), 640, .inl ((srw p0w 12 o_1) 14))), ((p0a 15), .inl ((p0k 15), 60, .inl ((srw p0w 12 o_1) 15))), ((p0a 16), .inl ((p0k 16), 320, .inr (.inl (p0l 16)))), ((p0a 17), .inl ((p0k 17), 320, .inr (.inl (p0l 17)))), ((p0a 18), .inl ((p0k 18), 60, .inr (.inl (p0l 18)))), ((p0a 19), .inl ((p0k 19), 250, .inl ((srw p0w 12 o_1) 19))), ((p0a 20), .inl ((p0k 20), 19200, .inl ((srw p0w 12 o_1) 20)))]] : List va_W))) (w1 := (List.flatten ([[((p0a 11), .inl ((p0k 11), 640, .inl ((srw (srw p0w 12 o_1) 11 o_2) 11)))]] : List va_W))) (t1 := (List.flatten ([[((p0k 11), .int)]] : List (List (ClassId × FieldType))))) hPx hDx hKx hk1 hFc b1 (va_K.moved hvm.symm b2) b3
  have hP3 : va_P (dC, dI) cls (List.flatten ([(oX4 (p0a 0) p0a p0k (srw (srw p0w 12 o_1) 11 o_2) p0l)] : List va_W)) H := vP_perm (vP_fb hP) ((bP (List.Perm.refl _)).trans (List.Perm.append_right _ (List.perm_middle (a := (((p0a 11), .inl ((p0k 11), 640, .inl ((srw (srw p0w 12 o_1) 11 o_2) 11))) : Nat × va_E)) (l₁ := ([((p0a 0), .inr (6, [.ref (p0a 1), .ref (p0a 2), .ref (p0a 3), .ref (p0a 4), .ref (p0a 5), .int ((srw (srw p0w 12 o_1) 11 o_2) 0 5), .ref (p0a 7), .ref (p0a 8), .ref (p0a 9), .ref (p0a 10), .ref (p0a 11), .ref (p0a 12), .ref (p0a 13), .ref (p0a 14), .ref (p0a 15), .ref (p0a 16), .ref (p0a 17), .ref (p0a 18), .ref (p0a 19), .ref (p0a 20)])), ((p0a 2), .inl ((p0k 2), 3200, .inl ((srw (srw p0w 12 o_1) 11 o_2) 2))), ((p0a 3), .inl ((p0k 3), 3200, .inl ((srw (srw p0w 12 o_1) 11 o_2) 3))), ((p0a 4), .inl ((p0k 4), 3200, .inl ((srw (srw p0w 12 o_1) 11 o_2) 4))), ((p0a 5), .inl ((p0k 5), 512, .inl ((srw (srw p0w 12 o_1) 11 o_2) 5))), ((p0a 7), .inl ((p0k 7), 640, .inl ((srw (srw p0w 12 o_1) 11 o_2) 7))), ((p0a 8), .inl ((p0k 8), 640, .inl ((srw (srw p0w 12 o_1) 11 o_2) 8))), ((p0a 9), .inl ((p0k 9), 640, .inl ((srw (srw p0w 12 o_1) 11 o_2) 9))), ((p0a 10), .inl ((p0k 10), 640, .inl ((srw (srw p0w 12 o_1) 11 o_2) 10)))] : va_W)) (l₂ := ([((p0a 12), .inl ((p0k 12), 640, .inl ((srw (srw p0w 12 o_1) 11 o_2) 12))), ((p0a 13), .inl ((p0k 13), 640, .inl ((srw (srw p0w 12 o_1) 11 o_2) 13))), ((p0a 14), .inl ((p0k 14), 640, .inl ((srw (srw p0w 12 o_1) 11 o_2) 14))), ((p0a 15), .inl ((p0k 15), 60, .inl ((srw (srw p0w 12 o_1) 11 o_2) 15))), ((p0a 16), .inl ((p0k 16), 320, .inr (.inl (p0l 16)))), ((p0a 17), .inl ((p0k 17), 320, .inr (.inl (p0l 17)))), ((p0a 18), .inl ((p0k 18), 60, .inr (.inl (p0l 18)))), ((p0a 19), .inl ((p0k 19), 250, .inl ((srw (srw p0w 12 o_1) 11 o_2) 19))), ((p0a 20), .inl ((p0k 20), 19200, .inl ((srw (srw p0w 12 o_1) 11 o_2) 20)))] : va_W))).symm))
  have hD3 : va_D A (List.flatten ([(oX4 (p0a 0) p0a p0k (srw (srw p0w 12 o_1) 11 o_2) p0l)] : List va_W)) := vD_perm (vD_fb hD) ((bP (List.Perm.refl _)).trans (List.Perm.append_right _ (List.perm_middle (a := (((p0a 11), .inl ((p0k 11), 640, .inl ((srw (srw p0w 12 o_1) 11 o_2) 11))) : Nat × va_E)) (l₁ := ([((p0a 0), .inr (6, [.ref (p0a 1), .ref (p0a 2), .ref (p0a 3), .ref (p0a 4), .ref (p0a 5), .int ((srw (srw p0w 12 o_1) 11 o_2) 0 5), .ref (p0a 7), .ref (p0a 8), .ref (p0a 9), .ref (p0a 10), .ref (p0a 11), .ref (p0a 12), .ref (p0a 13), .ref (p0a 14), .ref (p0a 15), .ref (p0a 16), .ref (p0a 17), .ref (p0a 18), .ref (p0a 19), .ref (p0a 20)])), ((p0a 2), .inl ((p0k 2), 3200, .inl ((srw (srw p0w 12 o_1) 11 o_2) 2))), ((p0a 3), .inl ((p0k 3), 3200, .inl ((srw (srw p0w 12 o_1) 11 o_2) 3))), ((p0a 4), .inl ((p0k 4), 3200, .inl ((srw (srw p0w 12 o_1) 11 o_2) 4))), ((p0a 5), .inl ((p0k 5), 512, .inl ((srw (srw p0w 12 o_1) 11 o_2) 5))), ((p0a 7), .inl ((p0k 7), 640, .inl ((srw (srw p0w 12 o_1) 11 o_2) 7))), ((p0a 8), .inl ((p0k 8), 640, .inl ((srw (srw p0w 12 o_1) 11 o_2) 8))), ((p0a 9), .inl ((p0k 9), 640, .inl ((srw (srw p0w 12 o_1) 11 o_2) 9))), ((p0a 10), .inl ((p0k 10), 640, .inl ((srw (srw p0w 12 o_1) 11 o_2) 10)))] : va_W)) (l₂ := ([((p0a 12), .inl ((p0k 12), 640, .inl ((srw (srw p0w 12 o_1) 11 o_2) 12))), ((p0a 13), .inl ((p0k 13), 640, .inl ((srw (srw p0w 12 o_1) 11 o_2) 13))), ((p0a 14), .inl ((p0k 14), 640, .inl ((srw (srw p0w 12 o_1) 11 o_2) 14))), ((p0a 15), .inl ((p0k 15), 60, .inl ((srw (srw p0w 12 o_1) 11 o_2) 15))), ((p0a 16), .inl ((p0k 16), 320, .inr (.inl (p0l 16)))), ((p0a 17), .inl ((p0k 17), 320, .inr (.inl (p0l 17)))), ((p0a 18), .inl ((p0k 18), 60, .inr (.inl (p0l 18)))), ((p0a 19), .inl ((p0k 19), 250, .inl ((srw (srw p0w 12 o_1) 11 o_2) 19))), ((p0a 20), .inl ((p0k 20), 19200, .inl ((srw (srw p0w 12 o_1) 11 o_2) 20)))] : va_W))).symm))
  have hK3 : va_K (dC, dI) cls (List.flatten ([(tX4 p0k)] : List (List (ClassId × FieldType)))) s := vK_perm (vK_fb hK) ((bP (List.Perm.refl _)).trans (List.Perm.append_right _ (List.perm_middle (a := (((p0k 11), .int) : ClassId × FieldType)) (l₁ := ([((p0k 2), .int), ((p0k 3), .int), ((p0k 4), .int), ((p0k 5), .int), ((p0k 7), .int), ((p0k 8), .int), ((p0k 9), .int), ((p0k 10), .int)] : List (ClassId × FieldType))) (l₂ := ([((p0k 12), .int), ((p0k 13), .int), ((p0k 14), .int), ((p0k 15), .int), ((p0k 16), .long), ((p0k 17), .long), ((p0k 18), .long), ((p0k 19), .int), ((p0k 20), .int)] : List (ClassId × FieldType)))).symm))
  have hP : va_P (dC, dI) cls (List.flatten ([(oX4 (p0a 0) p0a p0k (srw (srw p0w 12 o_1) 11 o_2) p0l)] : List va_W)) H := vP_perm hP3 (bP (List.Perm.refl _))
  have hD : va_D A (List.flatten ([(oX4 (p0a 0) p0a p0k (srw (srw p0w 12 o_1) 11 o_2) p0l)] : List va_W)) := vD_perm hD3 (bP (List.Perm.refl _))
  have hK : va_K (dC, dI) cls (List.flatten ([(tX4 p0k)] : List (List (ClassId × FieldType)))) s := vK_perm hK3 (bP (List.Perm.refl _))
  refine lv_iconst (v := 1) hx hb dX4_reachPieces_16 (by decide) ?_
  refine lv_istore_n (lv' := [(1, .int 1), (0, .ref (p0a 0))]) hx hb dX4_reachPieces_17 rfl hl (by decide) rfl (fun ls hl => ?_)
  refine lv_aload_n hx hb dX4_reachPieces_18 rfl (lv_at hl 1 rfl) ?_
  refine va_get (D := (dC, dI)) (ci := 6) (v := .ref (p0a 14)) (C := RX4) (T := TX4) (N := 20) hx hb hts i_X4 hown hK hP 0 rfl rfl 13 (by decide) (hts _ qw327) (fun _ h9 => h9) rfl dX4_reachPieces_19 ?_
  refine lv_iconst (v := 0) hx hb dX4_reachPieces_22 (by decide) ?_
  refine lv_iconst (v := 0) hx hb dX4_reachPieces_23 (by decide) ?_
  refine va_iast hx hb hK hP hD hS 12 11 rfl rfl (by unfold vp_in; decide +kernel) dX4_reachPieces_24 (fun H locs hP hD hS => ?_)
  have hP : va_P (dC, dI) cls (List.flatten ([(oX4 (p0a 0) p0a p0k (upw (srw (srw p0w 12 o_1) 11 o_2) 14 (nn 0) 0) p0l)] : List va_W)) H := hP
  have hD : va_D A (List.flatten ([(oX4 (p0a 0) p0a p0k (upw (srw (srw p0w 12 o_1) 11 o_2) 14 (nn 0) 0) p0l)] : List va_W)) := hD
  obtain ⟨w3, ew3, hrun⟩ := let9 hrun
  rw [← ew3] at hP hD
  refine lv_aload_n hx hb dX4_reachPieces_25 rfl (lv_at hl 1 rfl) ?_
  refine va_get (D := (dC, dI)) (ci := 6) (v := .ref (p0a 12)) (C := RX4) (T := TX4) (N := 20) hx hb hts i_X4 hown hK hP 0 rfl rfl 11 (by decide) (hts _ qw260) (fun _ h9 => h9) rfl dX4_reachPieces_26 ?_
  refine lv_iconst (v := 0) hx hb dX4_reachPieces_29 (by decide) ?_
  refine lv_iconst (v := 0) hx hb dX4_reachPieces_30 (by decide) ?_
  refine va_iast hx hb hK hP hD hS 10 9 rfl rfl (by unfold vp_in; decide +kernel) dX4_reachPieces_31 (fun H locs hP hD hS => ?_)
  have hP : va_P (dC, dI) cls (List.flatten ([(oX4 (p0a 0) p0a p0k (upw w3 12 (nn 0) 0) p0l)] : List va_W)) H := hP
  have hD : va_D A (List.flatten ([(oX4 (p0a 0) p0a p0k (upw w3 12 (nn 0) 0) p0l)] : List va_W)) := hD
  obtain ⟨w4, ew4, hrun⟩ := let9 hrun
  rw [← ew4] at hP hD
  refine lv_iconst (v := 0) hx hb dX4_reachPieces_32 (by decide) ?_
  refine lv_istore_n (lv' := [(2, .int 0), (1, .int 1), (0, .ref (p0a 0))]) hx hb dX4_reachPieces_33 rfl hl (by decide) rfl (fun ls hl => ?_)
  have L34 : ∀ (n_34 : Nat) (v1_34 : Int32) (v2_34 : Int32) (p0w_34 : ST) (o34 : Int32 × ST) (H : Heap) (locs : List Loc) (ls : Array Slot), (fX4_reachPieces_L34 n_34) v1_34 v2_34 p0w_34 = some o34 → va_P (dC, dI) cls (List.flatten ([(oX4 (p0a 0) p0a p0k p0w_34 p0l)] : List va_W)) H → va_D A (List.flatten ([(oX4 (p0a 0) p0a p0k p0w_34 p0l)] : List va_W)) → va_K (dC, dI) cls (List.flatten ([(tX4 p0k)] : List (List (ClassId × FieldType)))) s → va_S A s.heap H locs → lv_has ls 3 [(0, .ref (p0a 0)), (1, .int v1_34), (2, .int v2_34)] → (∀ (H : Heap) (locs : List Loc) (ls : Array Slot), va_P (dC, dI) cls (List.flatten ([(oX4 (p0a 0) p0a p0k (o34.2) p0l)] : List va_W)) H → va_D A (List.flatten ([(oX4 (p0a 0) p0a p0k (o34.2) p0l)] : List va_W)) → va_K (dC, dI) cls (List.flatten ([(tX4 p0k)] : List (List (ClassId × FieldType)))) s → va_S A s.heap H locs → lv_has ls 3 [(1, .int (o34.1))] → W p l e ({ frames := 1, cells := 0, slots := 0, locals := 23 } : Room) s m ([.ref (p0a 0)] : List Value).toArray below meth c H locs 0 0 Q (F0 m 79 ls [])) → W p l e ({ frames := 1, cells := 0, slots := 0, locals := 23 } : Room) s m ([.ref (p0a 0)] : List Value).toArray below meth c H locs 0 0 Q (F0 m 34 ls []) := by
    intro n_34
    induction n_34 with
    | zero => intro v1_34 v2_34 p0w_34 o34 H locs ls hrun; exact (no9 rfl hrun).elim
    | succ n_34 IH34 =>
      intro v1_34 v2_34 p0w_34 o34 H locs ls hrun hP hD hK hS hl hk34
      unfold fX4_reachPieces_L34 at hrun
      refine lv_iload_n hx hb dX4_reachPieces_34 rfl (lv_at hl 2 rfl) ?_
      refine lv_iload_n hx hb dX4_reachPieces_35 rfl (lv_at hl 1 rfl) ?_
      rcases br9 hrun with ⟨hc5, hrun⟩ | ⟨hc5, hrun⟩
      · refine lv_icmp_ge (tgt := 79) hx hb dX4_reachPieces_36 (by decide) (fun _ => ?_) (fun c => absurd hc5 c)
        obtain rfl := (Option.some.inj hrun)
        exact hk34 _ _ _ hP hD hK hS (lv_sub hl [1] rfl)
      · refine lv_icmp_ge (tgt := 79) hx hb dX4_reachPieces_36 (by decide) (fun c => absurd c hc5) (fun _ => ?_)
        refine lv_aload_n hx hb dX4_reachPieces_39 rfl (lv_at hl 0 rfl) ?_
        refine lv_aload_n hx hb dX4_reachPieces_40 rfl (lv_at hl 0 rfl) ?_
        refine va_get (D := (dC, dI)) (ci := 6) (v := .ref (p0a 9)) (C := RX4) (T := TX4) (N := 20) hx hb hts i_X4 hown hK hP 0 rfl rfl 8 (by decide) (hts _ qw258) (fun _ h9 => h9) rfl dX4_reachPieces_41 ?_
        refine lv_aload_n hx hb dX4_reachPieces_44 rfl (lv_at hl 0 rfl) ?_
        refine va_get (D := (dC, dI)) (ci := 6) (v := .ref (p0a 14)) (C := RX4) (T := TX4) (N := 20) hx hb hts i_X4 hown hK hP 0 rfl rfl 13 (by decide) (hts _ qw327) (fun _ h9 => h9) rfl dX4_reachPieces_45 ?_
        refine lv_iload_n hx hb dX4_reachPieces_48 rfl (lv_at hl 2 rfl) ?_
        obtain ⟨hq6, hrun⟩ := chk9 hrun
        refine va_iald hx hb hK hP 12 11 rfl rfl (ixb_in hq6) dX4_reachPieces_49 ?_
        obtain ⟨hq7, hrun⟩ := chk9 hrun
        refine va_iald hx hb hK hP 7 6 rfl rfl (ixb_in hq7) dX4_reachPieces_50 ?_
        refine lv_iload_n hx hb dX4_reachPieces_51 rfl (lv_at hl 1 rfl) ?_
        obtain ⟨o_8, hc_8, hrun⟩ := bnd9 hrun
        have hPx : va_P (dC, dI) cls ((List.flatten ([(oX4 (p0a 0) p0a p0k p0w_34 p0l)] : List va_W)) ++ (List.flatten ([] : List va_W))) H := vP_fa (vP_perm hP (bP (List.Perm.refl _)))
        have hDx : va_D A ((List.flatten ([(oX4 (p0a 0) p0a p0k p0w_34 p0l)] : List va_W)) ++ (List.flatten ([] : List va_W))) := vD_fa (vD_perm hD (bP (List.Perm.refl _)))
        have hKx : va_K (dC, dI) cls ((List.flatten ([(tX4 p0k)] : List (List (ClassId × FieldType)))) ++ (List.flatten ([] : List (List (ClassId × FieldType))))) s := vK_fa (vK_perm hK (bP (List.Perm.refl _)))
        have hPc := vP_l hPx
        have hDc := vD_l hDx
        have hKc := vK_l hKx
        have hFc := vfree hDx hS hA
        refine va_calli (va_runV (As := [.int (p0w_34 9 (nn (p0w_34 14 (nn v2_34)))), .int v1_34]) (rest := []) ⟨hx, hb, hml, hown, hts⟩ (kX4_reachOne l dC dI (p0a := p0a) (p0k := p0k) (p0w := p0w_34) (p0l := p0l) (p1 := (p0w_34 9 (nn (p0w_34 14 (nn v2_34))))) (p2 := v1_34) (sz := _) (o := o_8) (hrun := hc_8)) (cwV 2 hts (gi_V qw329 qw330 qw331 qw270 (gi_z qw328)) rfl rfl rfl (by decide +kernel) ⟨Nat.le_of_ble_eq_true rfl, Nat.le_of_ble_eq_true rfl⟩) ⟨PRE.blind, va_recv hKc hPc (ci := 6) (q0 := 0) rfl rfl, PRE.of hE hS hFc hPc hKc hDc⟩ rfl rfl hl.1 rfl (lv_room (Nat.le_of_ble_eq_true rfl)) dX4_reachPieces_52 ⟨(Nat.le_of_ble_eq_true rfl), (Nat.le_of_ble_eq_true rfl)⟩) hS (fun q _ h => hFc q h) hFc (fun r9 u t H locs ht hvm hw hB hz1 hk1 hS => ?_)
        obtain ⟨b1, b2, b3⟩ := hB
        rw [ht] at b1
        obtain ⟨hP, hD, hK⟩ := JOINC (wc := (List.flatten ([(oX4 (p0a 0) p0a p0k p0w_34 p0l)] : List va_W))) (wr := (List.flatten ([] : List va_W))) (w1 := (List.flatten ([(oX4 (p0a 0) p0a p0k (o_8.2) p0l)] : List va_W))) (t1 := (List.flatten ([(tX4 p0k)] : List (List (ClassId × FieldType))))) hPx hDx hKx hk1 hFc b1 (va_K.moved hvm.symm b2) b3
        have hP : va_P (dC, dI) cls (List.flatten ([(oX4 (p0a 0) p0a p0k (o_8.2) p0l)] : List va_W)) H := vP_perm (vP_fb hP) (bP (List.Perm.refl _))
        have hD : va_D A (List.flatten ([(oX4 (p0a 0) p0a p0k (o_8.2) p0l)] : List va_W)) := vD_perm (vD_fb hD) (bP (List.Perm.refl _))
        have hK : va_K (dC, dI) cls (List.flatten ([(tX4 p0k)] : List (List (ClassId × FieldType)))) s := vK_perm (vK_fb hK) (bP (List.Perm.refl _))
        obtain rfl : r9 = (o_8.1) := hw
        refine lv_istore_n (lv' := [(1, .int (o_8.1)), (0, .ref (p0a 0)), (2, .int v2_34)]) hx hb dX4_reachPieces_55 rfl hl (by decide) rfl (fun ls hl => ?_)
        refine lv_aload_n hx hb dX4_reachPieces_56 rfl (lv_at hl 1 rfl) ?_
        refine lv_aload_n hx hb dX4_reachPieces_57 rfl (lv_at hl 1 rfl) ?_
        refine va_get (D := (dC, dI)) (ci := 6) (v := .ref (p0a 10)) (C := RX4) (T := TX4) (N := 20) hx hb hts i_X4 hown hK hP 0 rfl rfl 9 (by decide) (hts _ qw259) (fun _ h9 => h9) rfl dX4_reachPieces_58 ?_
        refine lv_aload_n hx hb dX4_reachPieces_61 rfl (lv_at hl 1 rfl) ?_
        refine va_get (D := (dC, dI)) (ci := 6) (v := .ref (p0a 14)) (C := RX4) (T := TX4) (N := 20) hx hb hts i_X4 hown hK hP 0 rfl rfl 13 (by decide) (hts _ qw327) (fun _ h9 => h9) rfl dX4_reachPieces_62 ?_
        refine lv_iload_n hx hb dX4_reachPieces_65 rfl (lv_at hl 2 rfl) ?_
        obtain ⟨hq10, hrun⟩ := chk9 hrun
        refine va_iald hx hb hK hP 12 11 rfl rfl (ixb_in hq10) dX4_reachPieces_66 ?_
        obtain ⟨hq11, hrun⟩ := chk9 hrun
        refine va_iald hx hb hK hP 8 7 rfl rfl (ixb_in hq11) dX4_reachPieces_67 ?_
        refine lv_iload_n hx hb dX4_reachPieces_68 rfl (lv_at hl 0 rfl) ?_
        obtain ⟨o_12, hc_12, hrun⟩ := bnd9 hrun
        have hPx : va_P (dC, dI) cls ((List.flatten ([(oX4 (p0a 0) p0a p0k (o_8.2) p0l)] : List va_W)) ++ (List.flatten ([] : List va_W))) H := vP_fa (vP_perm hP (bP (List.Perm.refl _)))
        have hDx : va_D A ((List.flatten ([(oX4 (p0a 0) p0a p0k (o_8.2) p0l)] : List va_W)) ++ (List.flatten ([] : List va_W))) := vD_fa (vD_perm hD (bP (List.Perm.refl _)))
        have hKx : va_K (dC, dI) cls ((List.flatten ([(tX4 p0k)] : List (List (ClassId × FieldType)))) ++ (List.flatten ([] : List (List (ClassId × FieldType))))) s := vK_fa (vK_perm hK (bP (List.Perm.refl _)))
        have hPc := vP_l hPx
        have hDc := vD_l hDx
        have hKc := vK_l hKx
        have hFc := vfree hDx hS hA
        refine va_calli (va_runV (As := [.int (((o_8.2) 10) (nn (((o_8.2) 14) (nn v2_34)))), .int (o_8.1)]) (rest := []) ⟨hx, hb, hml, hown, hts⟩ (kX4_reachOne l dC dI (p0a := p0a) (p0k := p0k) (p0w := (o_8.2)) (p0l := p0l) (p1 := (((o_8.2) 10) (nn (((o_8.2) 14) (nn v2_34))))) (p2 := (o_8.1)) (sz := _) (o := o_12) (hrun := hc_12)) (cwV 2 hts (gi_V qw329 qw330 qw331 qw270 (gi_z qw328)) rfl rfl rfl (by decide +kernel) ⟨Nat.le_of_ble_eq_true rfl, Nat.le_of_ble_eq_true rfl⟩) ⟨PRE.blind, va_recv hKc hPc (ci := 6) (q0 := 0) rfl rfl, PRE.of hE hS hFc hPc hKc hDc⟩ rfl rfl hl.1 rfl (lv_room (Nat.le_of_ble_eq_true rfl)) dX4_reachPieces_69 ⟨(Nat.le_of_ble_eq_true rfl), (Nat.le_of_ble_eq_true rfl)⟩) hS (fun q _ h => hFc q h) hFc (fun r13 u t H locs ht hvm hw hB hz1 hk1 hS => ?_)
        obtain ⟨b1, b2, b3⟩ := hB
        rw [ht] at b1
        obtain ⟨hP, hD, hK⟩ := JOINC (wc := (List.flatten ([(oX4 (p0a 0) p0a p0k (o_8.2) p0l)] : List va_W))) (wr := (List.flatten ([] : List va_W))) (w1 := (List.flatten ([(oX4 (p0a 0) p0a p0k (o_12.2) p0l)] : List va_W))) (t1 := (List.flatten ([(tX4 p0k)] : List (List (ClassId × FieldType))))) hPx hDx hKx hk1 hFc b1 (va_K.moved hvm.symm b2) b3
        have hP : va_P (dC, dI) cls (List.flatten ([(oX4 (p0a 0) p0a p0k (o_12.2) p0l)] : List va_W)) H := vP_perm (vP_fb hP) (bP (List.Perm.refl _))
        have hD : va_D A (List.flatten ([(oX4 (p0a 0) p0a p0k (o_12.2) p0l)] : List va_W)) := vD_perm (vD_fb hD) (bP (List.Perm.refl _))
        have hK : va_K (dC, dI) cls (List.flatten ([(tX4 p0k)] : List (List (ClassId × FieldType)))) s := vK_perm (vK_fb hK) (bP (List.Perm.refl _))
        obtain rfl : r13 = (o_12.1) := hw
        refine lv_istore_n (lv' := [(1, .int (o_12.1)), (0, .ref (p0a 0)), (2, .int v2_34)]) hx hb dX4_reachPieces_72 rfl hl (by decide) rfl (fun ls hl => ?_)
        refine lv_iinc (v := (v2_34 + 1)) (lv' := [(2, .int (v2_34 + 1)), (1, .int (o_12.1)), (0, .ref (p0a 0))]) hx hb dX4_reachPieces_73 hl (k := 2) rfl rfl (by decide) rfl (fun ls hl => ?_)
        refine lv_goto (tgt := 34) hx hb dX4_reachPieces_76 (by decide) ?_
        exact IH34 (o_12.1) (v2_34 + 1) (o_12.2) o34 _ _ _ hrun hP hD hK hS (lv_sub hl [2, 1, 0] rfl) hk34
  obtain ⟨o34, hc34, hrun⟩ := bnd9 hrun
  refine L34 NF 1 0 w4 o34 _ _ _ hc34 hP hD hK hS (lv_sub hl [2, 1, 0] rfl) ?_
  intro H locs ls hP hD hK hS hl
  have hl := hl
  refine lv_iload_n hx hb dX4_reachPieces_79 rfl (lv_at hl 0 rfl) ?_
  have ho9 : ((o34.1), (o34.2)) = o := Option.some.inj hrun
  have hP9 : va_P (dC, dI) cls (List.flatten ([(oX4 (p0a 0) p0a p0k (o.2) p0l)] : List va_W)) H := by first | exact hP | (rw [← ho9]; exact hP)
  have hD9 : va_D A (List.flatten ([(oX4 (p0a 0) p0a p0k (o.2) p0l)] : List va_W)) := by first | exact hD | (rw [← ho9]; exact hD)
  subst hQ
  exact W.iret (v := (o34.1)) hx hb hr (fun t ht hW => ⟨⟨(o34.1), (), rfl, (by rw [← ho9]), ⟨by rw [ht]; exact hP9, va_K.moved hW.alike hK, hD9⟩⟩, hS.F ht⟩) hS.2.2 dX4_reachPieces_80
def fX4_splitWay_J26 (p0w : ST) (p1w : ST) (p3f : RI) : Option (Int32 × ST × ST × RI) := some (1, p0w, p1w, p3f)
def fX4_splitWay (p0w : ST) (p1w : ST) (p2 : Int32) (p3n : Nat) (p3f : RI) : Option (Int32 × ST × ST × RI) := (if ixb p2 p3n = true then (if (p3f (nn p2)) < 0 then (fX4_splitWay_J26 p0w p1w p3f) else (if ixb (p3f (nn p2)) 60 = true then (if ixb (p0w 15 (nn (p3f (nn p2)))) 640 = true then (if 2 ≤ (p0w 11 (nn (p0w 15 (nn (p3f (nn p2)))))) then (if (p1w 0 0) < 60 then (if ixb (p1w 0 0) 60 = true then (lt9 (upw p0w 15 (nn (p1w 0 0)) (-1)) fun (w8 : ST) => ((fX1_addBlock p1w 22 (-1) (p3f (nn p2)) (-1)).bind fun (o_9 : Int32 × ST) => (if ixb p2 p3n = true then (lt9 (upd p3f (nn p2) (o_9.1)) fun (f12 : RI) => some (1, w8, (o_9.2), f12)) else none))) else none) else some (0, p0w, p1w, p3f)) else (fX4_splitWay_J26 p0w p1w p3f)) else none) else none)) else none)
set_option maxHeartbeats 16000000 in
set_option maxRecDepth 100000 in
theorem kX4_splitWay {zs : ZS} (l : Launch) (dC : Nat → ClassId) (dI : Nat → Nat → Nat) (p0a : Nat → Nat) (p0k : Nat → ClassId) (p0w : ST) (p0l : SL) (p1a : Nat → Nat) (p1k : Nat → ClassId) (p1n : Nat → Nat) (p1w : ST) (p1l : SL) (p2 : Int32) (p3a : Nat) (p3k : ClassId) (p3n : Nat) (p3f : RI) (sz : Nat) (o : Int32 × ST × ST × RI) (hrun : fX4_splitWay p0w p1w p2 p3n p3f = some o) : Met l yX4_splitWay (wz yX4_splitWay cX4_splitWay 5 (Option.some Jvm.ClassFile.FieldType.boolean)) ({ frames := 1, cells := 0, slots := 0, locals := 25 } : Room) (va_Pc [.ref (p0a 0), .ref (p1a 0), .int p2, .ref p3a] (PRE zs dC dI (List.flatten ([(oX4 (p0a 0) p0a p0k p0w p0l), (oX1 (p1a 0) p1a p1k p1n p1w p1l), [(p3a, .inl (p3k, p3n, .inl p3f))]] : List va_W)) (List.flatten ([(tX4 p0k), (tX1 p1k), [(p3k, .int)]] : List (List (ClassId × FieldType)))) sz)) (va_Qi (fun (r : Int32) (_ : Unit) => r = (o.1)) (fun _ t => POST dC dI (List.flatten ([(oX4 (p0a 0) p0a p0k (o.2.1) p0l), (oX1 (p1a 0) p1a p1k p1n (o.2.2.1) p1l), [(p3a, .inl (p3k, p3n, .inl (o.2.2.2)))]] : List va_W)) (List.flatten ([(tX4 p0k), (tX1 p1k), [(p3k, .int)]] : List (List (ClassId × FieldType)))) (va_A (List.flatten ([(oX4 (p0a 0) p0a p0k p0w p0l), (oX1 (p1a 0) p1a p1k p1n p1w p1l), [(p3a, .inl (p3k, p3n, .inl p3f))]] : List va_W)) sz) t) (va_A (List.flatten ([(oX4 (p0a 0) p0a p0k p0w p0l), (oX1 (p1a 0) p1a p1k p1n p1w p1l), [(p3a, .inl (p3k, p3n, .inl p3f))]] : List va_W)) sz)) 0 0 (va_A (List.flatten ([(oX4 (p0a 0) p0a p0k p0w p0l), (oX1 (p1a 0) p1a p1k p1n p1w p1l), [(p3a, .inl (p3k, p3n, .inl p3f))]] : List va_W)) sz) := by
  refine Met.ofW (cc := cX4_splitWay) (maxL := 5) (ret := (Option.some Jvm.ClassFile.FieldType.boolean)) (by decide) rfl ?_
  intro p e s m args below meth c s₁ B hml hv
  obtain ⟨rfl, hsz, hP, hK, hD0, hE⟩ := hv
  have hx := B.exec
  have hb := B.bytes
  have hr := B.returns
  have hts0 := atoms_spec (ws := wz yX4_splitWay cX4_splitWay 5 (Option.some Jvm.ClassFile.FieldType.boolean)) B.pre
  have hts : ∀ w ∈ gw, w.before _ s = true := fun w h => hts0 w (List.mem_cons_of_mem _ h)
  have hown : s.vm.findClass RX4 = some m.cls := findClass_of_methodNamed B.named
  have hlocks := B.notSynchronized
  subst hsz
  have hD := hD0.self (sz := s.heap.size)
  refine gQ9 ?_
  intro Q hQ
  generalize hAe : va_A (List.flatten ([(oX4 (p0a 0) p0a p0k p0w p0l), (oX1 (p1a 0) p1a p1k p1n p1w p1l), [(p3a, .inl (p3k, p3n, .inl p3f))]] : List va_W)) s.heap.size = A at hD hE hQ
  have hA : ∀ q : Nat, s.heap.size ≤ q → A q := fun q h => by rw [← hAe]; exact Or.inr h
  have hS : va_S A s.heap s.heap [] := va_S.rf
  have hP : va_P (dC, dI) cls (List.flatten ([(oX4 (p0a 0) p0a p0k p0w p0l), (oX1 (p1a 0) p1a p1k p1n p1w p1l), [(p3a, .inl (p3k, p3n, .inl p3f))]] : List va_W)) s.heap := hP
  have hl := lv_entry ([.ref (p0a 0), .ref (p1a 0), .int p2, .ref p3a]) (n := 5) (Nat.le_of_ble_eq_true rfl)
  rw [lg_entry_eq]
  generalize (lg_sl ([.ref (p0a 0), .ref (p1a 0), .int p2, .ref p3a]) ++ List.replicate (5 - (lg_sl ([.ref (p0a 0), .ref (p1a 0), .int p2, .ref p3a])).length) Slot.unset).toArray = ls at hl ⊢
  have hl : lv_has ls 5 [(0, .ref (p0a 0)), (1, .ref (p1a 0)), (2, .int p2), (3, .ref p3a)] := hl
  obtain ⟨H, hHe⟩ : ∃ H, H = s.heap := ⟨_, rfl⟩
  obtain ⟨locs, hle⟩ : ∃ locs : List Loc, locs = [] := ⟨_, rfl⟩
  rw [← hHe] at hP
  have hS : va_S A s.heap H locs := by rw [hHe, hle]; exact hS
  show W p l e ({ frames := 1, cells := 0, slots := 0, locals := 25 } : Room) s m ([.ref (p0a 0), .ref (p1a 0), .int p2, .ref p3a] : List Value).toArray below meth c s.heap [] 0 0 Q (F0 m 0 ls [])
  rw [← hle]
  refine wH9 hHe ?_
  unfold fX4_splitWay at hrun
  refine lv_aload_n hx hb dX4_splitWay_0 rfl (lv_at hl 3 rfl) ?_
  refine lv_iload_n hx hb dX4_splitWay_1 rfl (lv_at hl 2 rfl) ?_
  obtain ⟨hq1, hrun⟩ := chk9 hrun
  refine va_iald hx hb hK hP 37 35 rfl rfl (ixb_in hq1) dX4_splitWay_2 ?_
  refine lv_istore (lv' := [(4, .int (p3f (nn p2))), (0, .ref (p0a 0)), (1, .ref (p1a 0)), (2, .int p2), (3, .ref p3a)]) hx hb dX4_splitWay_3 hl (by decide) rfl (fun ls hl => ?_)
  refine lv_iload hx hb dX4_splitWay_5 (lv_at hl 0 rfl) ?_
  have J26 : ∀ (H : Heap) (locs : List Loc) (ls : Array Slot), (fX4_splitWay_J26 p0w p1w p3f) = some o → va_P (dC, dI) cls (List.flatten ([(oX4 (p0a 0) p0a p0k p0w p0l), (oX1 (p1a 0) p1a p1k p1n p1w p1l), [(p3a, .inl (p3k, p3n, .inl p3f))]] : List va_W)) H → va_D A (List.flatten ([(oX4 (p0a 0) p0a p0k p0w p0l), (oX1 (p1a 0) p1a p1k p1n p1w p1l), [(p3a, .inl (p3k, p3n, .inl p3f))]] : List va_W)) → va_K (dC, dI) cls (List.flatten ([(tX4 p0k), (tX1 p1k), [(p3k, .int)]] : List (List (ClassId × FieldType)))) s → va_S A s.heap H locs → lv_has ls 5 [] → W p l e ({ frames := 1, cells := 0, slots := 0, locals := 25 } : Room) s m ([.ref (p0a 0), .ref (p1a 0), .int p2, .ref p3a] : List Value).toArray below meth c H locs 0 0 Q (F0 m 26 ls []) := by
    intro  H locs ls hrun hP hD hK hS hl 
    unfold fX4_splitWay_J26 at hrun
    refine lv_iconst (v := 1) hx hb dX4_splitWay_26 (by decide) ?_
    have ho9 : (1, p0w, p1w, p3f) = o := Option.some.inj hrun
    have hP9 : va_P (dC, dI) cls (List.flatten ([(oX4 (p0a 0) p0a p0k (o.2.1) p0l), (oX1 (p1a 0) p1a p1k p1n (o.2.2.1) p1l), [(p3a, .inl (p3k, p3n, .inl (o.2.2.2)))]] : List va_W)) H := by first | exact hP | (rw [← ho9]; exact hP)
    have hD9 : va_D A (List.flatten ([(oX4 (p0a 0) p0a p0k (o.2.1) p0l), (oX1 (p1a 0) p1a p1k p1n (o.2.2.1) p1l), [(p3a, .inl (p3k, p3n, .inl (o.2.2.2)))]] : List va_W)) := by first | exact hD | (rw [← ho9]; exact hD)
    subst hQ
    exact W.zret (v := 1) hx hb hr (by decide) (fun t ht hW => ⟨⟨1, (), rfl, (by rw [← ho9]), ⟨by rw [ht]; exact hP9, va_K.moved hW.alike hK, hD9⟩⟩, hS.F ht⟩) hS.2.2 dX4_splitWay_27
  rcases br9 hrun with ⟨hc2, hrun⟩ | ⟨hc2, hrun⟩
  · refine lv_if_lt (tgt := 26) hx hb dX4_splitWay_7 (by decide) (fun _ => ?_) (fun c => absurd hc2 c)
    exact J26 _ _ _ hrun hP hD hK hS (lv_sub hl [] rfl)
  · refine lv_if_lt (tgt := 26) hx hb dX4_splitWay_7 (by decide) (fun c => absurd c hc2) (fun _ => ?_)
    refine lv_aload_n hx hb dX4_splitWay_10 rfl (lv_at hl 1 rfl) ?_
    refine va_get (D := (dC, dI)) (ci := 6) (v := .ref (p0a 11)) (C := RX4) (T := TX4) (N := 20) hx hb hts i_X4 hown hK hP 0 rfl rfl 10 (by decide) (hts _ qw326) (fun _ h9 => h9) rfl dX4_splitWay_11 ?_
    refine lv_aload_n hx hb dX4_splitWay_14 rfl (lv_at hl 1 rfl) ?_
    refine va_get (D := (dC, dI)) (ci := 6) (v := .ref (p0a 15)) (C := RX4) (T := TX4) (N := 20) hx hb hts i_X4 hown hK hP 0 rfl rfl 14 (by decide) (hts _ qw286) (fun _ h9 => h9) rfl dX4_splitWay_15 ?_
    refine lv_iload hx hb dX4_splitWay_18 (lv_at hl 0 rfl) ?_
    obtain ⟨hq3, hrun⟩ := chk9 hrun
    refine va_iald hx hb hK hP 13 12 rfl rfl (ixb_in hq3) dX4_splitWay_20 ?_
    obtain ⟨hq4, hrun⟩ := chk9 hrun
    refine va_iald hx hb hK hP 9 8 rfl rfl (ixb_in hq4) dX4_splitWay_21 ?_
    refine lv_iconst (v := 2) hx hb dX4_splitWay_22 (by decide) ?_
    rcases br9 hrun with ⟨hc5, hrun⟩ | ⟨hc5, hrun⟩
    · refine lv_icmp_ge (tgt := 28) hx hb dX4_splitWay_23 (by decide) (fun _ => ?_) (fun c => absurd hc5 c)
      refine lv_aload_n hx hb dX4_splitWay_28 rfl (lv_at hl 2 rfl) ?_
      refine va_get (D := (dC, dI)) (ci := 4) (v := .int (p1w 0 0)) (C := RX1) (T := TX1) (N := 21) hx hb hts i_X1 hown hK hP 19 rfl rfl 0 (by decide) (hts _ qw313) (fun _ h9 => h9) rfl dX4_splitWay_29 ?_
      refine lv_bipush (v := 60) hx hb dX4_splitWay_32 (by decide) ?_
      rcases br9 hrun with ⟨hc6, hrun⟩ | ⟨hc6, hrun⟩
      · refine lv_icmp_lt (tgt := 39) hx hb dX4_splitWay_34 (by decide) (fun _ => ?_) (fun c => absurd hc6 c)
        refine lv_aload_n hx hb dX4_splitWay_39 rfl (lv_at hl 1 rfl) ?_
        refine va_get (D := (dC, dI)) (ci := 6) (v := .ref (p0a 15)) (C := RX4) (T := TX4) (N := 20) hx hb hts i_X4 hown hK hP 0 rfl rfl 14 (by decide) (hts _ qw286) (fun _ h9 => h9) rfl dX4_splitWay_40 ?_
        refine lv_aload_n hx hb dX4_splitWay_43 rfl (lv_at hl 2 rfl) ?_
        refine va_get (D := (dC, dI)) (ci := 4) (v := .int (p1w 0 0)) (C := RX1) (T := TX1) (N := 21) hx hb hts i_X1 hown hK hP 19 rfl rfl 0 (by decide) (hts _ qw313) (fun _ h9 => h9) rfl dX4_splitWay_44 ?_
        refine lv_iconst (v := (-1)) hx hb dX4_splitWay_47 (by decide) ?_
        obtain ⟨hq7, hrun⟩ := chk9 hrun
        refine va_iast hx hb hK hP hD hS 13 12 rfl rfl (ixb_in hq7) dX4_splitWay_48 (fun H locs hP hD hS => ?_)
        have hP : va_P (dC, dI) cls (List.flatten ([(oX4 (p0a 0) p0a p0k (upw p0w 15 (nn (p1w 0 0)) (-1)) p0l), (oX1 (p1a 0) p1a p1k p1n p1w p1l), [(p3a, .inl (p3k, p3n, .inl p3f))]] : List va_W)) H := hP
        have hD : va_D A (List.flatten ([(oX4 (p0a 0) p0a p0k (upw p0w 15 (nn (p1w 0 0)) (-1)) p0l), (oX1 (p1a 0) p1a p1k p1n p1w p1l), [(p3a, .inl (p3k, p3n, .inl p3f))]] : List va_W)) := hD
        obtain ⟨w8, ew8, hrun⟩ := let9 hrun
        rw [← ew8] at hP hD
        refine lv_aload_n hx hb dX4_splitWay_49 rfl (lv_at hl 4 rfl) ?_
        refine lv_iload_n hx hb dX4_splitWay_50 rfl (lv_at hl 3 rfl) ?_
        refine lv_aload_n hx hb dX4_splitWay_51 rfl (lv_at hl 2 rfl) ?_
        refine lv_bipush (v := 22) hx hb dX4_splitWay_52 (by decide) ?_
        refine lv_iconst (v := (-1)) hx hb dX4_splitWay_54 (by decide) ?_
        refine lv_iload hx hb dX4_splitWay_55 (lv_at hl 0 rfl) ?_
        refine lv_iconst (v := (-1)) hx hb dX4_splitWay_57 (by decide) ?_
        obtain ⟨o_9, hc_9, hrun⟩ := bnd9 hrun
        have hPx : va_P (dC, dI) cls ((List.flatten ([(oX1 (p1a 0) p1a p1k p1n p1w p1l)] : List va_W)) ++ (List.flatten ([(oX4 (p0a 0) p0a p0k w8 p0l), [(p3a, .inl (p3k, p3n, .inl p3f))]] : List va_W))) H := vP_fa (vP_perm hP (bP ((((List.Perm.refl _)).cons _).trans (List.Perm.swap _ _ _))))
        have hDx : va_D A ((List.flatten ([(oX1 (p1a 0) p1a p1k p1n p1w p1l)] : List va_W)) ++ (List.flatten ([(oX4 (p0a 0) p0a p0k w8 p0l), [(p3a, .inl (p3k, p3n, .inl p3f))]] : List va_W))) := vD_fa (vD_perm hD (bP ((((List.Perm.refl _)).cons _).trans (List.Perm.swap _ _ _))))
        have hKx : va_K (dC, dI) cls ((List.flatten ([(tX1 p1k)] : List (List (ClassId × FieldType)))) ++ (List.flatten ([(tX4 p0k), [(p3k, .int)]] : List (List (ClassId × FieldType))))) s := vK_fa (vK_perm hK (bP ((((List.Perm.refl _)).cons _).trans (List.Perm.swap _ _ _))))
        have hPc := vP_l hPx
        have hDc := vD_l hDx
        have hKc := vK_l hKx
        have hFc := vfree hDx hS hA
        refine va_calli (va_runV (As := [.int 22, .int (-1), .int (p3f (nn p2)), .int (-1)]) (rest := [.int p2, .ref p3a]) ⟨hx, hb, hml, hown, hts⟩ (kX1_addBlock l dC dI (p0a := p1a) (p0k := p1k) (p0n := p1n) (p0w := p1w) (p0l := p1l) (p1 := 22) (p2 := (-1)) (p3 := (p3f (nn p2))) (p4 := (-1)) (sz := _) (o := o_9) (hrun := hc_9)) (cwV 4 hts (gi_V qw340 qw151 qw152 qw126 (gi_z qw149)) rfl rfl rfl (by decide +kernel) ⟨Nat.le_of_ble_eq_true rfl, Nat.le_of_ble_eq_true rfl⟩) ⟨PRE.blind, va_recv hKc hPc (ci := 4) (q0 := 0) rfl rfl, PRE.of hE hS hFc hPc hKc hDc⟩ rfl rfl hl.1 rfl (lv_room (Nat.le_of_ble_eq_true rfl)) dX4_splitWay_58 ⟨(Nat.le_of_ble_eq_true rfl), (Nat.le_of_ble_eq_true rfl)⟩) hS (fun q _ h => hFc q h) hFc (fun r10 u t H locs ht hvm hw hB hz1 hk1 hS => ?_)
        obtain ⟨b1, b2, b3⟩ := hB
        rw [ht] at b1
        obtain ⟨hP, hD, hK⟩ := JOINC (wc := (List.flatten ([(oX1 (p1a 0) p1a p1k p1n p1w p1l)] : List va_W))) (wr := (List.flatten ([(oX4 (p0a 0) p0a p0k w8 p0l), [(p3a, .inl (p3k, p3n, .inl p3f))]] : List va_W))) (w1 := (List.flatten ([(oX1 (p1a 0) p1a p1k p1n (o_9.2) p1l)] : List va_W))) (t1 := (List.flatten ([(tX1 p1k)] : List (List (ClassId × FieldType))))) hPx hDx hKx hk1 hFc b1 (va_K.moved hvm.symm b2) b3
        have hP : va_P (dC, dI) cls (List.flatten ([(oX4 (p0a 0) p0a p0k w8 p0l), (oX1 (p1a 0) p1a p1k p1n (o_9.2) p1l), [(p3a, .inl (p3k, p3n, .inl p3f))]] : List va_W)) H := vP_perm (vP_fb hP) (bP ((((List.Perm.refl _)).cons _).trans (List.Perm.swap _ _ _)))
        have hD : va_D A (List.flatten ([(oX4 (p0a 0) p0a p0k w8 p0l), (oX1 (p1a 0) p1a p1k p1n (o_9.2) p1l), [(p3a, .inl (p3k, p3n, .inl p3f))]] : List va_W)) := vD_perm (vD_fb hD) (bP ((((List.Perm.refl _)).cons _).trans (List.Perm.swap _ _ _)))
        have hK : va_K (dC, dI) cls (List.flatten ([(tX4 p0k), (tX1 p1k), [(p3k, .int)]] : List (List (ClassId × FieldType)))) s := vK_perm (vK_fb hK) (bP ((((List.Perm.refl _)).cons _).trans (List.Perm.swap _ _ _)))
        obtain rfl : r10 = (o_9.1) := hw
        obtain ⟨hq11, hrun⟩ := chk9 hrun
        refine va_iast hx hb hK hP hD hS 37 35 rfl rfl (ixb_in hq11) dX4_splitWay_61 (fun H locs hP hD hS => ?_)
        have hP : va_P (dC, dI) cls (List.flatten ([(oX4 (p0a 0) p0a p0k w8 p0l), (oX1 (p1a 0) p1a p1k p1n (o_9.2) p1l), [(p3a, .inl (p3k, p3n, .inl (upd p3f (nn p2) (o_9.1))))]] : List va_W)) H := hP
        have hD : va_D A (List.flatten ([(oX4 (p0a 0) p0a p0k w8 p0l), (oX1 (p1a 0) p1a p1k p1n (o_9.2) p1l), [(p3a, .inl (p3k, p3n, .inl (upd p3f (nn p2) (o_9.1))))]] : List va_W)) := hD
        obtain ⟨f12, ef12, hrun⟩ := let9 hrun
        rw [← ef12] at hP hD
        refine lv_iconst (v := 1) hx hb dX4_splitWay_62 (by decide) ?_
        have ho9 : (1, w8, (o_9.2), f12) = o := Option.some.inj hrun
        have hP9 : va_P (dC, dI) cls (List.flatten ([(oX4 (p0a 0) p0a p0k (o.2.1) p0l), (oX1 (p1a 0) p1a p1k p1n (o.2.2.1) p1l), [(p3a, .inl (p3k, p3n, .inl (o.2.2.2)))]] : List va_W)) H := by first | exact hP | (rw [← ho9]; exact hP)
        have hD9 : va_D A (List.flatten ([(oX4 (p0a 0) p0a p0k (o.2.1) p0l), (oX1 (p1a 0) p1a p1k p1n (o.2.2.1) p1l), [(p3a, .inl (p3k, p3n, .inl (o.2.2.2)))]] : List va_W)) := by first | exact hD | (rw [← ho9]; exact hD)
        subst hQ
        exact W.zret (v := 1) hx hb hr (by decide) (fun t ht hW => ⟨⟨1, (), rfl, (by rw [← ho9]), ⟨by rw [ht]; exact hP9, va_K.moved hW.alike hK, hD9⟩⟩, hS.F ht⟩) hS.2.2 dX4_splitWay_63
      · refine lv_icmp_lt (tgt := 39) hx hb dX4_splitWay_34 (by decide) (fun c => absurd c hc6) (fun _ => ?_)
        refine lv_iconst (v := 0) hx hb dX4_splitWay_37 (by decide) ?_
        have ho9 : (0, p0w, p1w, p3f) = o := Option.some.inj hrun
        have hP9 : va_P (dC, dI) cls (List.flatten ([(oX4 (p0a 0) p0a p0k (o.2.1) p0l), (oX1 (p1a 0) p1a p1k p1n (o.2.2.1) p1l), [(p3a, .inl (p3k, p3n, .inl (o.2.2.2)))]] : List va_W)) H := by first | exact hP | (rw [← ho9]; exact hP)
        have hD9 : va_D A (List.flatten ([(oX4 (p0a 0) p0a p0k (o.2.1) p0l), (oX1 (p1a 0) p1a p1k p1n (o.2.2.1) p1l), [(p3a, .inl (p3k, p3n, .inl (o.2.2.2)))]] : List va_W)) := by first | exact hD | (rw [← ho9]; exact hD)
        subst hQ
        exact W.zret (v := 0) hx hb hr (by decide) (fun t ht hW => ⟨⟨0, (), rfl, (by rw [← ho9]), ⟨by rw [ht]; exact hP9, va_K.moved hW.alike hK, hD9⟩⟩, hS.F ht⟩) hS.2.2 dX4_splitWay_38
    · refine lv_icmp_ge (tgt := 28) hx hb dX4_splitWay_23 (by decide) (fun c => absurd c hc5) (fun _ => ?_)
      exact J26 _ _ _ hrun hP hD hK hS (lv_sub hl [] rfl)
def fX4_splitWay_a3_p1_9_J26 (p0w : ST) (p1w : ST) : Option (Int32 × ST × ST) := some (1, p0w, p1w)
def fX4_splitWay_a3_p1_9 (p0w : ST) (p1w : ST) (p2 : Int32) : Option (Int32 × ST × ST) := (if ixb p2 60 = true then (if (p1w 10 (nn p2)) < 0 then (fX4_splitWay_a3_p1_9_J26 p0w p1w) else (if ixb (p1w 10 (nn p2)) 60 = true then (if ixb (p0w 15 (nn (p1w 10 (nn p2)))) 640 = true then (if 2 ≤ (p0w 11 (nn (p0w 15 (nn (p1w 10 (nn p2)))))) then (if (p1w 0 0) < 60 then (if ixb (p1w 0 0) 60 = true then (lt9 (upw p0w 15 (nn (p1w 0 0)) (-1)) fun (w8 : ST) => ((fX1_addBlock p1w 22 (-1) (p1w 10 (nn p2)) (-1)).bind fun (o_9 : Int32 × ST) => (if ixb p2 60 = true then (lt9 (upw (o_9.2) 10 (nn p2) (o_9.1)) fun (w12 : ST) => some (1, w8, w12)) else none))) else none) else some (0, p0w, p1w)) else (fX4_splitWay_a3_p1_9_J26 p0w p1w)) else none) else none)) else none)
set_option maxHeartbeats 16000000 in
set_option maxRecDepth 100000 in
theorem kX4_splitWay_a3_p1_9 {zs : ZS} (l : Launch) (dC : Nat → ClassId) (dI : Nat → Nat → Nat) (p0a : Nat → Nat) (p0k : Nat → ClassId) (p0w : ST) (p0l : SL) (p1a : Nat → Nat) (p1k : Nat → ClassId) (p1n : Nat → Nat) (p1w : ST) (p1l : SL) (p2 : Int32) (sz : Nat) (o : Int32 × ST × ST) (hrun : fX4_splitWay_a3_p1_9 p0w p1w p2 = some o) : Met l yX4_splitWay (wz yX4_splitWay cX4_splitWay 5 (Option.some Jvm.ClassFile.FieldType.boolean)) ({ frames := 1, cells := 0, slots := 0, locals := 25 } : Room) (va_Pc [.ref (p0a 0), .ref (p1a 0), .int p2, .ref (p1a 10)] (PRE zs dC dI (List.flatten ([(oX4 (p0a 0) p0a p0k p0w p0l), (oX1 (p1a 0) p1a p1k p1n p1w p1l)] : List va_W)) (List.flatten ([(tX4 p0k), (tX1 p1k)] : List (List (ClassId × FieldType)))) sz)) (va_Qi (fun (r : Int32) (_ : Unit) => r = (o.1)) (fun _ t => POST dC dI (List.flatten ([(oX4 (p0a 0) p0a p0k (o.2.1) p0l), (oX1 (p1a 0) p1a p1k p1n (o.2.2) p1l)] : List va_W)) (List.flatten ([(tX4 p0k), (tX1 p1k)] : List (List (ClassId × FieldType)))) (va_A (List.flatten ([(oX4 (p0a 0) p0a p0k p0w p0l), (oX1 (p1a 0) p1a p1k p1n p1w p1l)] : List va_W)) sz) t) (va_A (List.flatten ([(oX4 (p0a 0) p0a p0k p0w p0l), (oX1 (p1a 0) p1a p1k p1n p1w p1l)] : List va_W)) sz)) 0 0 (va_A (List.flatten ([(oX4 (p0a 0) p0a p0k p0w p0l), (oX1 (p1a 0) p1a p1k p1n p1w p1l)] : List va_W)) sz) := by
  refine Met.ofW (cc := cX4_splitWay) (maxL := 5) (ret := (Option.some Jvm.ClassFile.FieldType.boolean)) (by decide) rfl ?_
  intro p e s m args below meth c s₁ B hml hv
  obtain ⟨rfl, hsz, hP, hK, hD0, hE⟩ := hv
  have hx := B.exec
  have hb := B.bytes
  have hr := B.returns
  have hts0 := atoms_spec (ws := wz yX4_splitWay cX4_splitWay 5 (Option.some Jvm.ClassFile.FieldType.boolean)) B.pre
  have hts : ∀ w ∈ gw, w.before _ s = true := fun w h => hts0 w (List.mem_cons_of_mem _ h)
  have hown : s.vm.findClass RX4 = some m.cls := findClass_of_methodNamed B.named
  have hlocks := B.notSynchronized
  subst hsz
  have hD := hD0.self (sz := s.heap.size)
  refine gQ9 ?_
  intro Q hQ
  generalize hAe : va_A (List.flatten ([(oX4 (p0a 0) p0a p0k p0w p0l), (oX1 (p1a 0) p1a p1k p1n p1w p1l)] : List va_W)) s.heap.size = A at hD hE hQ
  have hA : ∀ q : Nat, s.heap.size ≤ q → A q := fun q h => by rw [← hAe]; exact Or.inr h
  have hS : va_S A s.heap s.heap [] := va_S.rf
  have hP : va_P (dC, dI) cls (List.flatten ([(oX4 (p0a 0) p0a p0k p0w p0l), (oX1 (p1a 0) p1a p1k p1n p1w p1l)] : List va_W)) s.heap := hP
  have hl := lv_entry ([.ref (p0a 0), .ref (p1a 0), .int p2, .ref (p1a 10)]) (n := 5) (Nat.le_of_ble_eq_true rfl)
  rw [lg_entry_eq]
  generalize (lg_sl ([.ref (p0a 0), .ref (p1a 0), .int p2, .ref (p1a 10)]) ++ List.replicate (5 - (lg_sl ([.ref (p0a 0), .ref (p1a 0), .int p2, .ref (p1a 10)])).length) Slot.unset).toArray = ls at hl ⊢
  have hl : lv_has ls 5 [(0, .ref (p0a 0)), (1, .ref (p1a 0)), (2, .int p2), (3, .ref (p1a 10))] := hl
  obtain ⟨H, hHe⟩ : ∃ H, H = s.heap := ⟨_, rfl⟩
  obtain ⟨locs, hle⟩ : ∃ locs : List Loc, locs = [] := ⟨_, rfl⟩
  rw [← hHe] at hP
  have hS : va_S A s.heap H locs := by rw [hHe, hle]; exact hS
  show W p l e ({ frames := 1, cells := 0, slots := 0, locals := 25 } : Room) s m ([.ref (p0a 0), .ref (p1a 0), .int p2, .ref (p1a 10)] : List Value).toArray below meth c s.heap [] 0 0 Q (F0 m 0 ls [])
  rw [← hle]
  refine wH9 hHe ?_
  unfold fX4_splitWay_a3_p1_9 at hrun
  refine lv_aload_n hx hb dX4_splitWay_0 rfl (lv_at hl 3 rfl) ?_
  refine lv_iload_n hx hb dX4_splitWay_1 rfl (lv_at hl 2 rfl) ?_
  obtain ⟨hq1, hrun⟩ := chk9 hrun
  refine va_iald hx hb hK hP 26 24 rfl rfl (ixb_in hq1) dX4_splitWay_2 ?_
  refine lv_istore (lv' := [(4, .int (p1w 10 (nn p2))), (0, .ref (p0a 0)), (1, .ref (p1a 0)), (2, .int p2), (3, .ref (p1a 10))]) hx hb dX4_splitWay_3 hl (by decide) rfl (fun ls hl => ?_)
  refine lv_iload hx hb dX4_splitWay_5 (lv_at hl 0 rfl) ?_
  have J26 : ∀ (H : Heap) (locs : List Loc) (ls : Array Slot), (fX4_splitWay_a3_p1_9_J26 p0w p1w) = some o → va_P (dC, dI) cls (List.flatten ([(oX4 (p0a 0) p0a p0k p0w p0l), (oX1 (p1a 0) p1a p1k p1n p1w p1l)] : List va_W)) H → va_D A (List.flatten ([(oX4 (p0a 0) p0a p0k p0w p0l), (oX1 (p1a 0) p1a p1k p1n p1w p1l)] : List va_W)) → va_K (dC, dI) cls (List.flatten ([(tX4 p0k), (tX1 p1k)] : List (List (ClassId × FieldType)))) s → va_S A s.heap H locs → lv_has ls 5 [] → W p l e ({ frames := 1, cells := 0, slots := 0, locals := 25 } : Room) s m ([.ref (p0a 0), .ref (p1a 0), .int p2, .ref (p1a 10)] : List Value).toArray below meth c H locs 0 0 Q (F0 m 26 ls []) := by
    intro  H locs ls hrun hP hD hK hS hl 
    unfold fX4_splitWay_a3_p1_9_J26 at hrun
    refine lv_iconst (v := 1) hx hb dX4_splitWay_26 (by decide) ?_
    have ho9 : (1, p0w, p1w) = o := Option.some.inj hrun
    have hP9 : va_P (dC, dI) cls (List.flatten ([(oX4 (p0a 0) p0a p0k (o.2.1) p0l), (oX1 (p1a 0) p1a p1k p1n (o.2.2) p1l)] : List va_W)) H := by first | exact hP | (rw [← ho9]; exact hP)
    have hD9 : va_D A (List.flatten ([(oX4 (p0a 0) p0a p0k (o.2.1) p0l), (oX1 (p1a 0) p1a p1k p1n (o.2.2) p1l)] : List va_W)) := by first | exact hD | (rw [← ho9]; exact hD)
    subst hQ
    exact W.zret (v := 1) hx hb hr (by decide) (fun t ht hW => ⟨⟨1, (), rfl, (by rw [← ho9]), ⟨by rw [ht]; exact hP9, va_K.moved hW.alike hK, hD9⟩⟩, hS.F ht⟩) hS.2.2 dX4_splitWay_27
  rcases br9 hrun with ⟨hc2, hrun⟩ | ⟨hc2, hrun⟩
  · refine lv_if_lt (tgt := 26) hx hb dX4_splitWay_7 (by decide) (fun _ => ?_) (fun c => absurd hc2 c)
    exact J26 _ _ _ hrun hP hD hK hS (lv_sub hl [] rfl)
  · refine lv_if_lt (tgt := 26) hx hb dX4_splitWay_7 (by decide) (fun c => absurd c hc2) (fun _ => ?_)
    refine lv_aload_n hx hb dX4_splitWay_10 rfl (lv_at hl 1 rfl) ?_
    refine va_get (D := (dC, dI)) (ci := 6) (v := .ref (p0a 11)) (C := RX4) (T := TX4) (N := 20) hx hb hts i_X4 hown hK hP 0 rfl rfl 10 (by decide) (hts _ qw326) (fun _ h9 => h9) rfl dX4_splitWay_11 ?_
    refine lv_aload_n hx hb dX4_splitWay_14 rfl (lv_at hl 1 rfl) ?_
    refine va_get (D := (dC, dI)) (ci := 6) (v := .ref (p0a 15)) (C := RX4) (T := TX4) (N := 20) hx hb hts i_X4 hown hK hP 0 rfl rfl 14 (by decide) (hts _ qw286) (fun _ h9 => h9) rfl dX4_splitWay_15 ?_
    refine lv_iload hx hb dX4_splitWay_18 (lv_at hl 0 rfl) ?_
    obtain ⟨hq3, hrun⟩ := chk9 hrun
    refine va_iald hx hb hK hP 13 12 rfl rfl (ixb_in hq3) dX4_splitWay_20 ?_
    obtain ⟨hq4, hrun⟩ := chk9 hrun
    refine va_iald hx hb hK hP 9 8 rfl rfl (ixb_in hq4) dX4_splitWay_21 ?_
    refine lv_iconst (v := 2) hx hb dX4_splitWay_22 (by decide) ?_
    rcases br9 hrun with ⟨hc5, hrun⟩ | ⟨hc5, hrun⟩
    · refine lv_icmp_ge (tgt := 28) hx hb dX4_splitWay_23 (by decide) (fun _ => ?_) (fun c => absurd hc5 c)
      refine lv_aload_n hx hb dX4_splitWay_28 rfl (lv_at hl 2 rfl) ?_
      refine va_get (D := (dC, dI)) (ci := 4) (v := .int (p1w 0 0)) (C := RX1) (T := TX1) (N := 21) hx hb hts i_X1 hown hK hP 19 rfl rfl 0 (by decide) (hts _ qw313) (fun _ h9 => h9) rfl dX4_splitWay_29 ?_
      refine lv_bipush (v := 60) hx hb dX4_splitWay_32 (by decide) ?_
      rcases br9 hrun with ⟨hc6, hrun⟩ | ⟨hc6, hrun⟩
      · refine lv_icmp_lt (tgt := 39) hx hb dX4_splitWay_34 (by decide) (fun _ => ?_) (fun c => absurd hc6 c)
        refine lv_aload_n hx hb dX4_splitWay_39 rfl (lv_at hl 1 rfl) ?_
        refine va_get (D := (dC, dI)) (ci := 6) (v := .ref (p0a 15)) (C := RX4) (T := TX4) (N := 20) hx hb hts i_X4 hown hK hP 0 rfl rfl 14 (by decide) (hts _ qw286) (fun _ h9 => h9) rfl dX4_splitWay_40 ?_
        refine lv_aload_n hx hb dX4_splitWay_43 rfl (lv_at hl 2 rfl) ?_
        refine va_get (D := (dC, dI)) (ci := 4) (v := .int (p1w 0 0)) (C := RX1) (T := TX1) (N := 21) hx hb hts i_X1 hown hK hP 19 rfl rfl 0 (by decide) (hts _ qw313) (fun _ h9 => h9) rfl dX4_splitWay_44 ?_
        refine lv_iconst (v := (-1)) hx hb dX4_splitWay_47 (by decide) ?_
        obtain ⟨hq7, hrun⟩ := chk9 hrun
        refine va_iast hx hb hK hP hD hS 13 12 rfl rfl (ixb_in hq7) dX4_splitWay_48 (fun H locs hP hD hS => ?_)
        have hP : va_P (dC, dI) cls (List.flatten ([(oX4 (p0a 0) p0a p0k (upw p0w 15 (nn (p1w 0 0)) (-1)) p0l), (oX1 (p1a 0) p1a p1k p1n p1w p1l)] : List va_W)) H := hP
        have hD : va_D A (List.flatten ([(oX4 (p0a 0) p0a p0k (upw p0w 15 (nn (p1w 0 0)) (-1)) p0l), (oX1 (p1a 0) p1a p1k p1n p1w p1l)] : List va_W)) := hD
        obtain ⟨w8, ew8, hrun⟩ := let9 hrun
        rw [← ew8] at hP hD
        refine lv_aload_n hx hb dX4_splitWay_49 rfl (lv_at hl 4 rfl) ?_
        refine lv_iload_n hx hb dX4_splitWay_50 rfl (lv_at hl 3 rfl) ?_
        refine lv_aload_n hx hb dX4_splitWay_51 rfl (lv_at hl 2 rfl) ?_
        refine lv_bipush (v := 22) hx hb dX4_splitWay_52 (by decide) ?_
        refine lv_iconst (v := (-1)) hx hb dX4_splitWay_54 (by decide) ?_
        refine lv_iload hx hb dX4_splitWay_55 (lv_at hl 0 rfl) ?_
        refine lv_iconst (v := (-1)) hx hb dX4_splitWay_57 (by decide) ?_
        obtain ⟨o_9, hc_9, hrun⟩ := bnd9 hrun
        have hPx : va_P (dC, dI) cls ((List.flatten ([(oX1 (p1a 0) p1a p1k p1n p1w p1l)] : List va_W)) ++ (List.flatten ([(oX4 (p0a 0) p0a p0k w8 p0l)] : List va_W))) H := vP_fa (vP_perm hP (bP ((((List.Perm.refl _)).cons _).trans (List.Perm.swap _ _ _))))
        have hDx : va_D A ((List.flatten ([(oX1 (p1a 0) p1a p1k p1n p1w p1l)] : List va_W)) ++ (List.flatten ([(oX4 (p0a 0) p0a p0k w8 p0l)] : List va_W))) := vD_fa (vD_perm hD (bP ((((List.Perm.refl _)).cons _).trans (List.Perm.swap _ _ _))))
        have hKx : va_K (dC, dI) cls ((List.flatten ([(tX1 p1k)] : List (List (ClassId × FieldType)))) ++ (List.flatten ([(tX4 p0k)] : List (List (ClassId × FieldType))))) s := vK_fa (vK_perm hK (bP ((((List.Perm.refl _)).cons _).trans (List.Perm.swap _ _ _))))
        have hPc := vP_l hPx
        have hDc := vD_l hDx
        have hKc := vK_l hKx
        have hFc := vfree hDx hS hA
        refine va_calli (va_runV (As := [.int 22, .int (-1), .int (p1w 10 (nn p2)), .int (-1)]) (rest := [.int p2, .ref (p1a 10)]) ⟨hx, hb, hml, hown, hts⟩ (kX1_addBlock l dC dI (p0a := p1a) (p0k := p1k) (p0n := p1n) (p0w := p1w) (p0l := p1l) (p1 := 22) (p2 := (-1)) (p3 := (p1w 10 (nn p2))) (p4 := (-1)) (sz := _) (o := o_9) (hrun := hc_9)) (cwV 4 hts (gi_V qw340 qw151 qw152 qw126 (gi_z qw149)) rfl rfl rfl (by decide +kernel) ⟨Nat.le_of_ble_eq_true rfl, Nat.le_of_ble_eq_true rfl⟩) ⟨PRE.blind, va_recv hKc hPc (ci := 4) (q0 := 0) rfl rfl, PRE.of hE hS hFc hPc hKc hDc⟩ rfl rfl hl.1 rfl (lv_room (Nat.le_of_ble_eq_true rfl)) dX4_splitWay_58 ⟨(Nat.le_of_ble_eq_true rfl), (Nat.le_of_ble_eq_true rfl)⟩) hS (fun q _ h => hFc q h) hFc (fun r10 u t H locs ht hvm hw hB hz1 hk1 hS => ?_)
        obtain ⟨b1, b2, b3⟩ := hB
        rw [ht] at b1
        obtain ⟨hP, hD, hK⟩ := JOINC (wc := (List.flatten ([(oX1 (p1a 0) p1a p1k p1n p1w p1l)] : List va_W))) (wr := (List.flatten ([(oX4 (p0a 0) p0a p0k w8 p0l)] : List va_W))) (w1 := (List.flatten ([(oX1 (p1a 0) p1a p1k p1n (o_9.2) p1l)] : List va_W))) (t1 := (List.flatten ([(tX1 p1k)] : List (List (ClassId × FieldType))))) hPx hDx hKx hk1 hFc b1 (va_K.moved hvm.symm b2) b3
        have hP : va_P (dC, dI) cls (List.flatten ([(oX4 (p0a 0) p0a p0k w8 p0l), (oX1 (p1a 0) p1a p1k p1n (o_9.2) p1l)] : List va_W)) H := vP_perm (vP_fb hP) (bP ((((List.Perm.refl _)).cons _).trans (List.Perm.swap _ _ _)))
        have hD : va_D A (List.flatten ([(oX4 (p0a 0) p0a p0k w8 p0l), (oX1 (p1a 0) p1a p1k p1n (o_9.2) p1l)] : List va_W)) := vD_perm (vD_fb hD) (bP ((((List.Perm.refl _)).cons _).trans (List.Perm.swap _ _ _)))
        have hK : va_K (dC, dI) cls (List.flatten ([(tX4 p0k), (tX1 p1k)] : List (List (ClassId × FieldType)))) s := vK_perm (vK_fb hK) (bP ((((List.Perm.refl _)).cons _).trans (List.Perm.swap _ _ _)))
        obtain rfl : r10 = (o_9.1) := hw
        obtain ⟨hq11, hrun⟩ := chk9 hrun
        refine va_iast hx hb hK hP hD hS 26 24 rfl rfl (ixb_in hq11) dX4_splitWay_61 (fun H locs hP hD hS => ?_)
        have hP : va_P (dC, dI) cls (List.flatten ([(oX4 (p0a 0) p0a p0k w8 p0l), (oX1 (p1a 0) p1a p1k p1n (upw (o_9.2) 10 (nn p2) (o_9.1)) p1l)] : List va_W)) H := hP
        have hD : va_D A (List.flatten ([(oX4 (p0a 0) p0a p0k w8 p0l), (oX1 (p1a 0) p1a p1k p1n (upw (o_9.2) 10 (nn p2) (o_9.1)) p1l)] : List va_W)) := hD
        obtain ⟨w12, ew12, hrun⟩ := let9 hrun
        rw [← ew12] at hP hD
        refine lv_iconst (v := 1) hx hb dX4_splitWay_62 (by decide) ?_
        have ho9 : (1, w8, w12) = o := Option.some.inj hrun
        have hP9 : va_P (dC, dI) cls (List.flatten ([(oX4 (p0a 0) p0a p0k (o.2.1) p0l), (oX1 (p1a 0) p1a p1k p1n (o.2.2) p1l)] : List va_W)) H := by first | exact hP | (rw [← ho9]; exact hP)
        have hD9 : va_D A (List.flatten ([(oX4 (p0a 0) p0a p0k (o.2.1) p0l), (oX1 (p1a 0) p1a p1k p1n (o.2.2) p1l)] : List va_W)) := by first | exact hD | (rw [← ho9]; exact hD)
        subst hQ
        exact W.zret (v := 1) hx hb hr (by decide) (fun t ht hW => ⟨⟨1, (), rfl, (by rw [← ho9]), ⟨by rw [ht]; exact hP9, va_K.moved hW.alike hK, hD9⟩⟩, hS.F ht⟩) hS.2.2 dX4_splitWay_63
      · refine lv_icmp_lt (tgt := 39) hx hb dX4_splitWay_34 (by decide) (fun c => absurd c hc6) (fun _ => ?_)
        refine lv_iconst (v := 0) hx hb dX4_splitWay_37 (by decide) ?_
        have ho9 : (0, p0w, p1w) = o := Option.some.inj hrun
        have hP9 : va_P (dC, dI) cls (List.flatten ([(oX4 (p0a 0) p0a p0k (o.2.1) p0l), (oX1 (p1a 0) p1a p1k p1n (o.2.2) p1l)] : List va_W)) H := by first | exact hP | (rw [← ho9]; exact hP)
        have hD9 : va_D A (List.flatten ([(oX4 (p0a 0) p0a p0k (o.2.1) p0l), (oX1 (p1a 0) p1a p1k p1n (o.2.2) p1l)] : List va_W)) := by first | exact hD | (rw [← ho9]; exact hD)
        subst hQ
        exact W.zret (v := 0) hx hb hr (by decide) (fun t ht hW => ⟨⟨0, (), rfl, (by rw [← ho9]), ⟨by rw [ht]; exact hP9, va_K.moved hW.alike hK, hD9⟩⟩, hS.F ht⟩) hS.2.2 dX4_splitWay_38
    · refine lv_icmp_ge (tgt := 28) hx hb dX4_splitWay_23 (by decide) (fun c => absurd c hc5) (fun _ => ?_)
      exact J26 _ _ _ hrun hP hD hK hS (lv_sub hl [] rfl)
def fX4_splitWay_a3_p1_10_J26 (p0w : ST) (p1w : ST) : Option (Int32 × ST × ST) := some (1, p0w, p1w)
def fX4_splitWay_a3_p1_10 (p0w : ST) (p1w : ST) (p2 : Int32) : Option (Int32 × ST × ST) := (if ixb p2 60 = true then (if (p1w 11 (nn p2)) < 0 then (fX4_splitWay_a3_p1_10_J26 p0w p1w) else (if ixb (p1w 11 (nn p2)) 60 = true then (if ixb (p0w 15 (nn (p1w 11 (nn p2)))) 640 = true then (if 2 ≤ (p0w 11 (nn (p0w 15 (nn (p1w 11 (nn p2)))))) then (if (p1w 0 0) < 60 then (if ixb (p1w 0 0) 60 = true then (lt9 (upw p0w 15 (nn (p1w 0 0)) (-1)) fun (w8 : ST) => ((fX1_addBlock p1w 22 (-1) (p1w 11 (nn p2)) (-1)).bind fun (o_9 : Int32 × ST) => (if ixb p2 60 = true then (lt9 (upw (o_9.2) 11 (nn p2) (o_9.1)) fun (w12 : ST) => some (1, w8, w12)) else none))) else none) else some (0, p0w, p1w)) else (fX4_splitWay_a3_p1_10_J26 p0w p1w)) else none) else none)) else none)
set_option maxHeartbeats 16000000 in
set_option maxRecDepth 100000 in
theorem kX4_splitWay_a3_p1_10 {zs : ZS} (l : Launch) (dC : Nat → ClassId) (dI : Nat → Nat → Nat) (p0a : Nat → Nat) (p0k : Nat → ClassId) (p0w : ST) (p0l : SL) (p1a : Nat → Nat) (p1k : Nat → ClassId) (p1n : Nat → Nat) (p1w : ST) (p1l : SL) (p2 : Int32) (sz : Nat) (o : Int32 × ST × ST) (hrun : fX4_splitWay_a3_p1_10 p0w p1w p2 = some o) : Met l yX4_splitWay (wz yX4_splitWay cX4_splitWay 5 (Option.some Jvm.ClassFile.FieldType.boolean)) ({ frames := 1, cells := 0, slots := 0, locals := 25 } : Room) (va_Pc [.ref (p0a 0), .ref (p1a 0), .int p2, .ref (p1a 11)] (PRE zs dC dI (List.flatten ([(oX4 (p0a 0) p0a p0k p0w p0l), (oX1 (p1a 0) p1a p1k p1n p1w p1l)] : List va_W)) (List.flatten ([(tX4 p0k), (tX1 p1k)] : List (List (ClassId × FieldType)))) sz)) (va_Qi (fun (r : Int32) (_ : Unit) => r = (o.1)) (fun _ t => POST dC dI (List.flatten ([(oX4 (p0a 0) p0a p0k (o.2.1) p0l), (oX1 (p1a 0) p1a p1k p1n (o.2.2) p1l)] : List va_W)) (List.flatten ([(tX4 p0k), (tX1 p1k)] : List (List (ClassId × FieldType)))) (va_A (List.flatten ([(oX4 (p0a 0) p0a p0k p0w p0l), (oX1 (p1a 0) p1a p1k p1n p1w p1l)] : List va_W)) sz) t) (va_A (List.flatten ([(oX4 (p0a 0) p0a p0k p0w p0l), (oX1 (p1a 0) p1a p1k p1n p1w p1l)] : List va_W)) sz)) 0 0 (va_A (List.flatten ([(oX4 (p0a 0) p0a p0k p0w p0l), (oX1 (p1a 0) p1a p1k p1n p1w p1l)] : List va_W)) sz) := by
  refine Met.ofW (cc := cX4_splitWay) (maxL := 5) (ret := (Option.some Jvm.ClassFile.FieldType.boolean)) (by decide) rfl ?_
  intro p e s m args below meth c s₁ B hml hv
  obtain ⟨rfl, hsz, hP, hK, hD0, hE⟩ := hv
  have hx := B.exec
  have hb := B.bytes
  have hr := B.returns
  have hts0 := atoms_spec (ws := wz yX4_splitWay cX4_splitWay 5 (Option.some Jvm.ClassFile.FieldType.boolean)) B.pre
  have hts : ∀ w ∈ gw, w.before _ s = true := fun w h => hts0 w (List.mem_cons_of_mem _ h)
  have hown : s.vm.findClass RX4 = some m.cls := findClass_of_methodNamed B.named
  have hlocks := B.notSynchronized
  subst hsz
  have hD := hD0.self (sz := s.heap.size)
  refine gQ9 ?_
  intro Q hQ
  generalize hAe : va_A (List.flatten ([(oX4 (p0a 0) p0a p0k p0w p0l), (oX1 (p1a 0) p1a p1k p1n p1w p1l)] : List va_W)) s.heap.size = A at hD hE hQ
  have hA : ∀ q : Nat, s.heap.size ≤ q → A q := fun q h => by rw [← hAe]; exact Or.inr h
  have hS : va_S A s.heap s.heap [] := va_S.rf
  have hP : va_P (dC, dI) cls (List.flatten ([(oX4 (p0a 0) p0a p0k p0w p0l), (oX1 (p1a 0) p1a p1k p1n p1w p1l)] : List va_W)) s.heap := hP
  have hl := lv_entry ([.ref (p0a 0), .ref (p1a 0), .int p2, .ref (p1a 11)]) (n := 5) (Nat.le_of_ble_eq_true rfl)
  rw [lg_entry_eq]
  generalize (lg_sl ([.ref (p0a 0), .ref (p1a 0), .int p2, .ref (p1a 11)]) ++ List.replicate (5 - (lg_sl ([.ref (p0a 0), .ref (p1a 0), .int p2, .ref (p1a 11)])).length) Slot.unset).toArray = ls at hl ⊢
  have hl : lv_has ls 5 [(0, .ref (p0a 0)), (1, .ref (p1a 0)), (2, .int p2), (3, .ref (p1a 11))] := hl
  obtain ⟨H, hHe⟩ : ∃ H, H = s.heap := ⟨_, rfl⟩
  obtain ⟨locs, hle⟩ : ∃ locs : List Loc, locs = [] := ⟨_, rfl⟩
  rw [← hHe] at hP
  have hS : va_S A s.heap H locs := by rw [hHe, hle]; exact hS
  show W p l e ({ frames := 1, cells := 0, slots := 0, locals := 25 } : Room) s m ([.ref (p0a 0), .ref (p1a 0), .int p2, .ref (p1a 11)] : List Value).toArray below meth c s.heap [] 0 0 Q (F0 m 0 ls [])
  rw [← hle]
  refine wH9 hHe ?_
  unfold fX4_splitWay_a3_p1_10 at hrun
  refine lv_aload_n hx hb dX4_splitWay_0 rfl (lv_at hl 3 rfl) ?_
  refine lv_iload_n hx hb dX4_splitWay_1 rfl (lv_at hl 2 rfl) ?_
  obtain ⟨hq1, hrun⟩ := chk9 hrun
  refine va_iald hx hb hK hP 27 25 rfl rfl (ixb_in hq1) dX4_splitWay_2 ?_
  refine lv_istore (lv' := [(4, .int (p1w 11 (nn p2))), (0, .ref (p0a 0)), (1, .ref (p1a 0)), (2, .int p2), (3, .ref (p1a 11))]) hx hb dX4_splitWay_3 hl (by decide) rfl (fun ls hl => ?_)
  refine lv_iload hx hb dX4_splitWay_5 (lv_at hl 0 rfl) ?_
  have J26 : ∀ (H : Heap) (locs : List Loc) (ls : Array Slot), (fX4_splitWay_a3_p1_10_J26 p0w p1w) = some o → va_P (dC, dI) cls (List.flatten ([(oX4 (p0a 0) p0a p0k p0w p0l), (oX1 (p1a 0) p1a p1k p1n p1w p1l)] : List va_W)) H → va_D A (List.flatten ([(oX4 (p0a 0) p0a p0k p0w p0l), (oX1 (p1a 0) p1a p1k p1n p1w p1l)] : List va_W)) → va_K (dC, dI) cls (List.flatten ([(tX4 p0k), (tX1 p1k)] : List (List (ClassId × FieldType)))) s → va_S A s.heap H locs → lv_has ls 5 [] → W p l e ({ frames := 1, cells := 0, slots := 0, locals := 25 } : Room) s m ([.ref (p0a 0), .ref (p1a 0), .int p2, .ref (p1a 11)] : List Value).toArray below meth c H locs 0 0 Q (F0 m 26 ls []) := by
    intro  H locs ls hrun hP hD hK hS hl 
    unfold fX4_splitWay_a3_p1_10_J26 at hrun
    refine lv_iconst (v := 1) hx hb dX4_splitWay_26 (by decide) ?_
    have ho9 : (1, p0w, p1w) = o := Option.some.inj hrun
    have hP9 : va_P (dC, dI) cls (List.flatten ([(oX4 (p0a 0) p0a p0k (o.2.1) p0l), (oX1 (p1a 0) p1a p1k p1n (o.2.2) p1l)] : List va_W)) H := by first | exact hP | (rw [← ho9]; exact hP)
    have hD9 : va_D A (List.flatten ([(oX4 (p0a 0) p0a p0k (o.2.1) p0l), (oX1 (p1a 0) p1a p1k p1n (o.2.2) p1l)] : List va_W)) := by first | exact hD | (rw [← ho9]; exact hD)
    subst hQ
    exact W.zret (v := 1) hx hb hr (by decide) (fun t ht hW => ⟨⟨1, (), rfl, (by rw [← ho9]), ⟨by rw [ht]; exact hP9, va_K.moved hW.alike hK, hD9⟩⟩, hS.F ht⟩) hS.2.2 dX4_splitWay_27
  rcases br9 hrun with ⟨hc2, hrun⟩ | ⟨hc2, hrun⟩
  · refine lv_if_lt (tgt := 26) hx hb dX4_splitWay_7 (by decide) (fun _ => ?_) (fun c => absurd hc2 c)
    exact J26 _ _ _ hrun hP hD hK hS (lv_sub hl [] rfl)
  · refine lv_if_lt (tgt := 26) hx hb dX4_splitWay_7 (by decide) (fun c => absurd c hc2) (fun _ => ?_)
    refine lv_aload_n hx hb dX4_splitWay_10 rfl (lv_at hl 1 rfl) ?_
    refine va_get (D := (dC, dI)) (ci := 6) (v := .ref (p0a 11)) (C := RX4) (T := TX4) (N := 20) hx hb hts i_X4 hown hK hP 0 rfl rfl 10 (by decide) (hts _ qw326) (fun _ h9 => h9) rfl dX4_splitWay_11 ?_
    refine lv_aload_n hx hb dX4_splitWay_14 rfl (lv_at hl 1 rfl) ?_
    refine va_get (D := (dC, dI)) (ci := 6) (v := .ref (p0a 15)) (C := RX4) (T := TX4) (N := 20) hx hb hts i_X4 hown hK hP 0 rfl rfl 14 (by decide) (hts _ qw286) (fun _ h9 => h9) rfl dX4_splitWay_15 ?_
    refine lv_iload hx hb dX4_splitWay_18 (lv_at hl 0 rfl) ?_
    obtain ⟨hq3, hrun⟩ := chk9 hrun
    refine va_iald hx hb hK hP 13 12 rfl rfl (ixb_in hq3) dX4_splitWay_20 ?_
    obtain ⟨hq4, hrun⟩ := chk9 hrun
    refine va_iald hx hb hK hP 9 8 rfl rfl (ixb_in hq4) dX4_splitWay_21 ?_
    refine lv_iconst (v := 2) hx hb dX4_splitWay_22 (by decide) ?_
    rcases br9 hrun with ⟨hc5, hrun⟩ | ⟨hc5, hrun⟩
    · refine lv_icmp_ge (tgt := 28) hx hb dX4_splitWay_23 (by decide) (fun _ => ?_) (fun c => absurd hc5 c)
      refine lv_aload_n hx hb dX4_splitWay_28 rfl (lv_at hl 2 rfl) ?_
      refine va_get (D := (dC, dI)) (ci := 4) (v := .int (p1w 0 0)) (C := RX1) (T := TX1) (N := 21) hx hb hts i_X1 hown hK hP 19 rfl rfl 0 (by decide) (hts _ qw313) (fun _ h9 => h9) rfl dX4_splitWay_29 ?_
      refine lv_bipush (v := 60) hx hb dX4_splitWay_32 (by decide) ?_
      rcases br9 hrun with ⟨hc6, hrun⟩ | ⟨hc6, hrun⟩
      · refine lv_icmp_lt (tgt := 39) hx hb dX4_splitWay_34 (by decide) (fun _ => ?_) (fun c => absurd hc6 c)
        refine lv_aload_n hx hb dX4_splitWay_39 rfl (lv_at hl 1 rfl) ?_
        refine va_get (D := (dC, dI)) (ci := 6) (v := .ref (p0a 15)) (C := RX4) (T := TX4) (N := 20) hx hb hts i_X4 hown hK hP 0 rfl rfl 14 (by decide) (hts _ qw286) (fun _ h9 => h9) rfl dX4_splitWay_40 ?_
        refine lv_aload_n hx hb dX4_splitWay_43 rfl (lv_at hl 2 rfl) ?_
        refine va_get (D := (dC, dI)) (ci := 4) (v := .int (p1w 0 0)) (C := RX1) (T := TX1) (N := 21) hx hb hts i_X1 hown hK hP 19 rfl rfl 0 (by decide) (hts _ qw313) (fun _ h9 => h9) rfl dX4_splitWay_44 ?_
        refine lv_iconst (v := (-1)) hx hb dX4_splitWay_47 (by decide) ?_
        obtain ⟨hq7, hrun⟩ := chk9 hrun
        refine va_iast hx hb hK hP hD hS 13 12 rfl rfl (ixb_in hq7) dX4_splitWay_48 (fun H locs hP hD hS => ?_)
        have hP : va_P (dC, dI) cls (List.flatten ([(oX4 (p0a 0) p0a p0k (upw p0w 15 (nn (p1w 0 0)) (-1)) p0l), (oX1 (p1a 0) p1a p1k p1n p1w p1l)] : List va_W)) H := hP
        have hD : va_D A (List.flatten ([(oX4 (p0a 0) p0a p0k (upw p0w 15 (nn (p1w 0 0)) (-1)) p0l), (oX1 (p1a 0) p1a p1k p1n p1w p1l)] : List va_W)) := hD
        obtain ⟨w8, ew8, hrun⟩ := let9 hrun
        rw [← ew8] at hP hD
        refine lv_aload_n hx hb dX4_splitWay_49 rfl (lv_at hl 4 rfl) ?_
        refine lv_iload_n hx hb dX4_splitWay_50 rfl (lv_at hl 3 rfl) ?_
        refine lv_aload_n hx hb dX4_splitWay_51 rfl (lv_at hl 2 rfl) ?_
        refine lv_bipush (v := 22) hx hb dX4_splitWay_52 (by decide) ?_
        refine lv_iconst (v := (-1)) hx hb dX4_splitWay_54 (by decide) ?_
        refine lv_iload hx hb dX4_splitWay_55 (lv_at hl 0 rfl) ?_
        refine lv_iconst (v := (-1)) hx hb dX4_splitWay_57 (by decide) ?_
        obtain ⟨o_9, hc_9, hrun⟩ := bnd9 hrun
        have hPx : va_P (dC, dI) cls ((List.flatten ([(oX1 (p1a 0) p1a p1k p1n p1w p1l)] : List va_W)) ++ (List.flatten ([(oX4 (p0a 0) p0a p0k w8 p0l)] : List va_W))) H := vP_fa (vP_perm hP (bP ((((List.Perm.refl _)).cons _).trans (List.Perm.swap _ _ _))))
        have hDx : va_D A ((List.flatten ([(oX1 (p1a 0) p1a p1k p1n p1w p1l)] : List va_W)) ++ (List.flatten ([(oX4 (p0a 0) p0a p0k w8 p0l)] : List va_W))) := vD_fa (vD_perm hD (bP ((((List.Perm.refl _)).cons _).trans (List.Perm.swap _ _ _))))
        have hKx : va_K (dC, dI) cls ((List.flatten ([(tX1 p1k)] : List (List (ClassId × FieldType)))) ++ (List.flatten ([(tX4 p0k)] : List (List (ClassId × FieldType))))) s := vK_fa (vK_perm hK (bP ((((List.Perm.refl _)).cons _).trans (List.Perm.swap _ _ _))))
        have hPc := vP_l hPx
        have hDc := vD_l hDx
        have hKc := vK_l hKx
        have hFc := vfree hDx hS hA
        refine va_calli (va_runV (As := [.int 22, .int (-1), .int (p1w 11 (nn p2)), .int (-1)]) (rest := [.int p2, .ref (p1a 11)]) ⟨hx, hb, hml, hown, hts⟩ (kX1_addBlock l dC dI (p0a := p1a) (p0k := p1k) (p0n := p1n) (p0w := p1w) (p0l := p1l) (p1 := 22) (p2 := (-1)) (p3 := (p1w 11 (nn p2))) (p4 := (-1)) (sz := _) (o := o_9) (hrun := hc_9)) (cwV 4 hts (gi_V qw340 qw151 qw152 qw126 (gi_z qw149)) rfl rfl rfl (by decide +kernel) ⟨Nat.le_of_ble_eq_true rfl, Nat.le_of_ble_eq_true rfl⟩) ⟨PRE.blind, va_recv hKc hPc (ci := 4) (q0 := 0) rfl rfl, PRE.of hE hS hFc hPc hKc hDc⟩ rfl rfl hl.1 rfl (lv_room (Nat.le_of_ble_eq_true rfl)) dX4_splitWay_58 ⟨(Nat.le_of_ble_eq_true rfl), (Nat.le_of_ble_eq_true rfl)⟩) hS (fun q _ h => hFc q h) hFc (fun r10 u t H locs ht hvm hw hB hz1 hk1 hS => ?_)
        obtain ⟨b1, b2, b3⟩ := hB
        rw [ht] at b1
        obtain ⟨hP, hD, hK⟩ := JOINC (wc := (List.flatten ([(oX1 (p1a 0) p1a p1k p1n p1w p1l)] : List va_W))) (wr := (List.flatten ([(oX4 (p0a 0) p0a p0k w8 p0l)] : List va_W))) (w1 := (List.flatten ([(oX1 (p1a 0) p1a p1k p1n (o_9.2) p1l)] : List va_W))) (t1 := (List.flatten ([(tX1 p1k)] : List (List (ClassId × FieldType))))) hPx hDx hKx hk1 hFc b1 (va_K.moved hvm.symm b2) b3
        have hP : va_P (dC, dI) cls (List.flatten ([(oX4 (p0a 0) p0a p0k w8 p0l), (oX1 (p1a 0) p1a p1k p1n (o_9.2) p1l)] : List va_W)) H := vP_perm (vP_fb hP) (bP ((((List.Perm.refl _)).cons _).trans (List.Perm.swap _ _ _)))
        have hD : va_D A (List.flatten ([(oX4 (p0a 0) p0a p0k w8 p0l), (oX1 (p1a 0) p1a p1k p1n (o_9.2) p1l)] : List va_W)) := vD_perm (vD_fb hD) (bP ((((List.Perm.refl _)).cons _).trans (List.Perm.swap _ _ _)))
        have hK : va_K (dC, dI) cls (List.flatten ([(tX4 p0k), (tX1 p1k)] : List (List (ClassId × FieldType)))) s := vK_perm (vK_fb hK) (bP ((((List.Perm.refl _)).cons _).trans (List.Perm.swap _ _ _)))
        obtain rfl : r10 = (o_9.1) := hw
        obtain ⟨hq11, hrun⟩ := chk9 hrun
        refine va_iast hx hb hK hP hD hS 27 25 rfl rfl (ixb_in hq11) dX4_splitWay_61 (fun H locs hP hD hS => ?_)
        have hP : va_P (dC, dI) cls (List.flatten ([(oX4 (p0a 0) p0a p0k w8 p0l), (oX1 (p1a 0) p1a p1k p1n (upw (o_9.2) 11 (nn p2) (o_9.1)) p1l)] : List va_W)) H := hP
        have hD : va_D A (List.flatten ([(oX4 (p0a 0) p0a p0k w8 p0l), (oX1 (p1a 0) p1a p1k p1n (upw (o_9.2) 11 (nn p2) (o_9.1)) p1l)] : List va_W)) := hD
        obtain ⟨w12, ew12, hrun⟩ := let9 hrun
        rw [← ew12] at hP hD
        refine lv_iconst (v := 1) hx hb dX4_splitWay_62 (by decide) ?_
        have ho9 : (1, w8, w12) = o := Option.some.inj hrun
        have hP9 : va_P (dC, dI) cls (List.flatten ([(oX4 (p0a 0) p0a p0k (o.2.1) p0l), (oX1 (p1a 0) p1a p1k p1n (o.2.2) p1l)] : List va_W)) H := by first | exact hP | (rw [← ho9]; exact hP)
        have hD9 : va_D A (List.flatten ([(oX4 (p0a 0) p0a p0k (o.2.1) p0l), (oX1 (p1a 0) p1a p1k p1n (o.2.2) p1l)] : List va_W)) := by first | exact hD | (rw [← ho9]; exact hD)
        subst hQ
        exact W.zret (v := 1) hx hb hr (by decide) (fun t ht hW => ⟨⟨1, (), rfl, (by rw [← ho9]), ⟨by rw [ht]; exact hP9, va_K.moved hW.alike hK, hD9⟩⟩, hS.F ht⟩) hS.2.2 dX4_splitWay_63
      · refine lv_icmp_lt (tgt := 39) hx hb dX4_splitWay_34 (by decide) (fun c => absurd c hc6) (fun _ => ?_)
        refine lv_iconst (v := 0) hx hb dX4_splitWay_37 (by decide) ?_
        have ho9 : (0, p0w, p1w) = o := Option.some.inj hrun
        have hP9 : va_P (dC, dI) cls (List.flatten ([(oX4 (p0a 0) p0a p0k (o.2.1) p0l), (oX1 (p1a 0) p1a p1k p1n (o.2.2) p1l)] : List va_W)) H := by first | exact hP | (rw [← ho9]; exact hP)
        have hD9 : va_D A (List.flatten ([(oX4 (p0a 0) p0a p0k (o.2.1) p0l), (oX1 (p1a 0) p1a p1k p1n (o.2.2) p1l)] : List va_W)) := by first | exact hD | (rw [← ho9]; exact hD)
        subst hQ
        exact W.zret (v := 0) hx hb hr (by decide) (fun t ht hW => ⟨⟨0, (), rfl, (by rw [← ho9]), ⟨by rw [ht]; exact hP9, va_K.moved hW.alike hK, hD9⟩⟩, hS.F ht⟩) hS.2.2 dX4_splitWay_38
    · refine lv_icmp_ge (tgt := 28) hx hb dX4_splitWay_23 (by decide) (fun c => absurd c hc5) (fun _ => ?_)
      exact J26 _ _ _ hrun hP hD hK hS (lv_sub hl [] rfl)
def fX4_layBlocks_J63 (kk16 : Int32 → ST → ST → Option (ST × ST)) (v4_16 : Int32) (p0w_16 : ST) (p2w_16 : ST) (y0_63 : Int32) : Option (ST × ST) := (if ixb v4_16 60 = true then (lt9 (upw p0w_16 15 (nn v4_16) (p0w_16 14 (nn v4_16))) fun (w8 : ST) => (if ixb (p0w_16 14 (nn v4_16)) 640 = true then ((fX4_blockOfPiece w8 (w8 9 (nn (p0w_16 14 (nn v4_16))))).bind fun (o_10 : Int32) => (if ixb (p0w_16 14 (nn v4_16)) 640 = true then ((fX4_blockOfPiece w8 (w8 10 (nn (p0w_16 14 (nn v4_16))))).bind fun (o_13 : Int32) => ((fX1_addBlock p2w_16 y0_63 (-1) o_10 o_13).bind fun (o_15 : Int32 × ST) => (kk16 (v4_16 + 1) w8 (o_15.2)))) else none)) else none)) else none)
def fX4_layBlocks_L16 (o_1 : Int32 × ST) : Nat → Int32 → ST → ST → Option (ST × ST)
  | 0 => fun _ _ _ => none
  | n_16 + 1 => fun v4_16 p0w_16 p2w_16 => (if (o_1.1) ≤ v4_16 then some (p0w_16, p2w_16) else (if ixb v4_16 640 = true then (if ixb (p0w_16 14 (nn v4_16)) 640 = true then (if (p0w_16 10 (nn (p0w_16 14 (nn v4_16)))) < 0 then (if ixb (p0w_16 14 (nn v4_16)) 640 = true then (if (p0w_16 9 (nn (p0w_16 14 (nn v4_16)))) < 0 then (fX4_layBlocks_J63 (fX4_layBlocks_L16 o_1 n_16) v4_16 p0w_16 p2w_16 24) else (fX4_layBlocks_J63 (fX4_layBlocks_L16 o_1 n_16) v4_16 p0w_16 p2w_16 22)) else none) else (fX4_layBlocks_J63 (fX4_layBlocks_L16 o_1 n_16) v4_16 p0w_16 p2w_16 23)) else none) else none))
def fX4_layBlocks_J161 (kk113 : Int32 → ST → ST → Option (Sum (Int32 × ST × ST) (ST × ST))) (v4_113 : Int32) (p0w_161 : ST) (p2w_161 : ST) : Option (Sum (Int32 × ST × ST) (ST × ST)) := (kk113 (v4_113 + 1) p0w_161 p2w_161)
def fX4_layBlocks_L113 (o_1 : Int32 × ST) : Nat → Int32 → ST → ST → Option (Sum (Int32 × ST × ST) (ST × ST))
  | 0 => fun _ _ _ => none
  | n_113 + 1 => fun v4_113 p0w_113 p2w_113 => (if (o_1.1) ≤ v4_113 then some (Sum.inr (p0w_113, p2w_113)) else (if ixb v4_113 60 = true then (if (p2w_113 8 (nn v4_113)) = 23 then ((fX4_splitWay_a3_p1_9 p0w_113 p2w_113 v4_113).bind fun (o_23 : Int32 × ST × ST) => (if (o_23.1) = 0 then some (Sum.inl (0, (o_23.2.1), (o_23.2.2))) else ((fX4_splitWay_a3_p1_10 (o_23.2.1) (o_23.2.2) v4_113).bind fun (o_26 : Int32 × ST × ST) => (if (o_26.1) = 0 then some (Sum.inl (0, (o_26.2.1), (o_26.2.2))) else (fX4_layBlocks_J161 (fX4_layBlocks_L113 o_1 n_113) v4_113 (o_26.2.1) (o_26.2.2)))))) else (fX4_layBlocks_J161 (fX4_layBlocks_L113 o_1 n_113) v4_113 p0w_113 p2w_113)) else none))
def fX4_layBlocks (p0w : ST) (p2w : ST) : Option (Int32 × ST × ST) := ((fX4_reachPieces p0w).bind fun (o_1 : Int32 × ST) => (if (o_1.1) ≤ 60 then ((fX4_layBlocks_L16 o_1 NF 0 (o_1.2) p2w).bind fun (o16 : ST × ST) => ((fX4_layBlocks_L113 o_1 NF 0 (o16.1) (o16.2)).bind fun (o113 : (Sum (Int32 × ST × ST) (ST × ST))) => Sum.elim (fun r => some r) (fun (t113 : ST × ST) => some (1, (t113.1), (t113.2))) o113)) else some (0, (o_1.2), p2w)))
set_option maxHeartbeats 16000000 in
set_option maxRecDepth 100000 in
theorem kX4_layBlocks {zs : ZS} (l : Launch) (dC : Nat → ClassId) (dI : Nat → Nat → Nat) (p0a : Nat → Nat) (p0k : Nat → ClassId) (p0w : ST) (p0l : SL) (p1a : Nat → Nat) (p2a : Nat → Nat) (p2k : Nat → ClassId) (p2n : Nat → Nat) (p2w : ST) (p2l : SL) (sz : Nat) (o : Int32 × ST × ST) (hrun : fX4_layBlocks p0w p2w = some o) : Met l yX4_layBlocks (wz yX4_layBlocks cX4_layBlocks 7 (Option.some Jvm.ClassFile.FieldType.boolean)) ({ frames := 2, cells := 0, slots := 0, locals := 49 } : Room) (va_Pc [.ref (p0a 0), .ref (p1a 0), .ref (p2a 0)] (PRE zs dC dI (List.flatten ([(oX4 (p0a 0) p0a p0k p0w p0l), (oX1 (p2a 0) p2a p2k p2n p2w p2l)] : List va_W)) (List.flatten ([(tX4 p0k), (tX1 p2k)] : List (List (ClassId × FieldType)))) sz)) (va_Qi (fun (r : Int32) (_ : Unit) => r = (o.1)) (fun _ t => POST dC dI (List.flatten ([(oX4 (p0a 0) p0a p0k (o.2.1) p0l), (oX1 (p2a 0) p2a p2k p2n (o.2.2) p2l)] : List va_W)) (List.flatten ([(tX4 p0k), (tX1 p2k)] : List (List (ClassId × FieldType)))) (va_A (List.flatten ([(oX4 (p0a 0) p0a p0k p0w p0l), (oX1 (p2a 0) p2a p2k p2n p2w p2l)] : List va_W)) sz) t) (va_A (List.flatten ([(oX4 (p0a 0) p0a p0k p0w p0l), (oX1 (p2a 0) p2a p2k p2n p2w p2l)] : List va_W)) sz)) 0 0 (va_A (List.flatten ([(oX4 (p0a 0) p0a p0k p0w p0l), (oX1 (p2a 0) p2a p2k p2n p2w p2l)] : List va_W)) sz) := by
  refine Met.ofW (cc := cX4_layBlocks) (maxL := 7) (ret := (Option.some Jvm.ClassFile.FieldType.boolean)) (by decide) rfl ?_
  intro p e s m args below meth c s₁ B hml hv
  obtain ⟨rfl, hsz, hP, hK, hD0, hE⟩ := hv
  have hx := B.exec
  have hb := B.bytes
  have hr := B.returns
  have hts0 := atoms_spec (ws := wz yX4_layBlocks cX4_layBlocks 7 (Option.some Jvm.ClassFile.FieldType.boolean)) B.pre
  have hts : ∀ w ∈ gw, w.before _ s = true := fun w h => hts0 w (List.mem_cons_of_mem _ h)
  have hown : s.vm.findClass RX4 = some m.cls := findClass_of_methodNamed B.named
  have hlocks := B.notSynchronized
  subst hsz
  have hD := hD0.self (sz := s.heap.size)
  refine gQ9 ?_
  intro Q hQ
  generalize hAe : va_A (List.flatten ([(oX4 (p0a 0) p0a p0k p0w p0l), (oX1 (p2a 0) p2a p2k p2n p2w p2l)] : List va_W)) s.heap.size = A at hD hE hQ
  have hA : ∀ q : Nat, s.heap.size ≤ q → A q := fun q h => by rw [← hAe]; exact Or.inr h
  have hS : va_S A s.heap s.heap [] := va_S.rf
  have hP : va_P (dC, dI) cls (List.flatten ([(oX4 (p0a 0) p0a p0k p0w p0l), (oX1 (p2a 0) p2a p2k p2n p2w p2l)] : List va_W)) s.heap := hP
  have hl := lv_entry ([.ref (p0a 0), .ref (p1a 0), .ref (p2a 0)]) (n := 7) (Nat.le_of_ble_eq_true rfl)
  rw [lg_entry_eq]
  generalize (lg_sl ([.ref (p0a 0), .ref (p1a 0), .ref (p2a 0)]) ++ List.replicate (7 - (lg_sl ([.ref (p0a 0), .ref (p1a 0), .ref (p2a 0)])).length) Slot.unset).toArray = ls at hl ⊢
  have hl : lv_has ls 7 [(0, .ref (p0a 0)), (1, .ref (p1a 0)), (2, .ref (p2a 0))] := hl
  obtain ⟨H, hHe⟩ : ∃ H, H = s.heap := ⟨_, rfl⟩
  obtain ⟨locs, hle⟩ : ∃ locs : List Loc, locs = [] := ⟨_, rfl⟩
  rw [← hHe] at hP
  have hS : va_S A s.heap H locs := by rw [hHe, hle]; exact hS
  show W p l e ({ frames := 2, cells := 0, slots := 0, locals := 49 } : Room) s m ([.ref (p0a 0), .ref (p1a 0), .ref (p2a 0)] : List Value).toArray below meth c s.heap [] 0 0 Q (F0 m 0 ls [])
  rw [← hle]
  refine wH9 hHe ?_
  unfold fX4_layBlocks at hrun
  refine lv_aload_n hx hb dX4_layBlocks_0 rfl (lv_at hl 0 rfl) ?_
  obtain ⟨o_1, hc_1, hrun⟩ := bnd9 hrun
  have hPx : va_P (dC, dI) cls ((List.flatten ([(oX4 (p0a 0) p0a p0k p0w p0l)] : List va_W)) ++ (List.flatten ([(oX1 (p2a 0) p2a p2k p2n p2w p2l)] : List va_W))) H := vP_fa (vP_perm hP (bP (List.Perm.refl _)))
  have hDx : va_D A ((List.flatten ([(oX4 (p0a 0) p0a p0k p0w p0l)] : List va_W)) ++ (List.flatten ([(oX1 (p2a 0) p2a p2k p2n p2w p2l)] : List va_W))) := vD_fa (vD_perm hD (bP (List.Perm.refl _)))
  have hKx : va_K (dC, dI) cls ((List.flatten ([(tX4 p0k)] : List (List (ClassId × FieldType)))) ++ (List.flatten ([(tX1 p2k)] : List (List (ClassId × FieldType))))) s := vK_fa (vK_perm hK (bP (List.Perm.refl _)))
  have hPc := vP_l hPx
  have hDc := vD_l hDx
  have hKc := vK_l hKx
  have hFc := vfree hDx hS hA
  refine va_calli (va_runV (As := []) (rest := []) ⟨hx, hb, hml, hown, hts⟩ (kX4_reachPieces l dC dI (p0a := p0a) (p0k := p0k) (p0w := p0w) (p0l := p0l) (sz := _) (o := o_1) (hrun := hc_1)) (cwV 0 hts (gi_V qw333 qw334 qw335 qw270 (gi_z qw332)) rfl rfl rfl (by decide +kernel) ⟨Nat.le_of_ble_eq_true rfl, Nat.le_of_ble_eq_true rfl⟩) ⟨PRE.blind, va_recv hKc hPc (ci := 6) (q0 := 0) rfl rfl, PRE.of hE hS hFc hPc hKc hDc⟩ rfl rfl hl.1 rfl (lv_room (Nat.le_of_ble_eq_true rfl)) dX4_layBlocks_1 ⟨(Nat.le_of_ble_eq_true rfl), (Nat.le_of_ble_eq_true rfl)⟩) hS (fun q _ h => hFc q h) hFc (fun r2 u t H locs ht hvm hw hB hz1 hk1 hS => ?_)
  obtain ⟨b1, b2, b3⟩ := hB
  rw [ht] at b1
  obtain ⟨hP, hD, hK⟩ := JOINC (wc := (List.flatten ([(oX4 (p0a 0) p0a p0k p0w p0l)] : List va_W))) (wr := (List.flatten ([(oX1 (p2a 0) p2a p2k p2n p2w p2l)] : List va_W))) (w1 := (List.flatten ([(oX4 (p0a 0) p0a p0k (o_1.2) p0l)] : List va_W))) (t1 := (List.flatten ([(tX4 p0k)] : List (List (ClassId × FieldType))))) hPx hDx hKx hk1 hFc b1 (va_K.moved hvm.symm b2) b3
  have hP : va_P (dC, dI) cls (List.flatten ([(oX4 (p0a 0) p0a p0k (o_1.2) p0l), (oX1 (p2a 0) p2a p2k p2n p2w p2l)] : List va_W)) H := vP_perm (vP_fb hP) (bP (List.Perm.refl _))
  have hD : va_D A (List.flatten ([(oX4 (p0a 0) p0a p0k (o_1.2) p0l), (oX1 (p2a 0) p2a p2k p2n p2w p2l)] : List va_W)) := vD_perm (vD_fb hD) (bP (List.Perm.refl _))
  have hK : va_K (dC, dI) cls (List.flatten ([(tX4 p0k), (tX1 p2k)] : List (List (ClassId × FieldType)))) s := vK_perm (vK_fb hK) (bP (List.Perm.refl _))
  obtain rfl : r2 = (o_1.1) := hw
  refine lv_istore_n (lv' := [(3, .int (o_1.1)), (0, .ref (p0a 0)), (1, .ref (p1a 0)), (2, .ref (p2a 0))]) hx hb dX4_layBlocks_4 rfl hl (by decide) rfl (fun ls hl => ?_)
  refine lv_iload_n hx hb dX4_layBlocks_5 rfl (lv_at hl 0 rfl) ?_
  refine lv_bipush (v := 60) hx hb dX4_layBlocks_6 (by decide) ?_
  rcases br9 hrun with ⟨hc3, hrun⟩ | ⟨hc3, hrun⟩
  · refine lv_icmp_le (tgt := 13) hx hb dX4_layBlocks_8 (by decide) (fun _ => ?_) (fun c => absurd hc3 c)
    refine lv_iconst (v := 0) hx hb dX4_layBlocks_13 (by decide) ?_
    refine lv_istore (lv' := [(4, .int 0), (3, .int (o_1.1)), (0, .ref (p0a 0)), (1, .ref (p1a 0)), (2, .ref (p2a 0))]) hx hb dX4_layBlocks_14 hl (by decide) rfl (fun ls hl => ?_)
    have L16 : ∀ (n_16 : Nat) (v4_16 : Int32) (p0w_16 : ST) (p2w_16 : ST) (o16 : ST × ST) (H : Heap) (locs : List Loc) (ls : Array Slot), (fX4_layBlocks_L16 o_1 n_16) v4_16 p0w_16 p2w_16 = some o16 → va_P (dC, dI) cls (List.flatten ([(oX4 (p0a 0) p0a p0k p0w_16 p0l), (oX1 (p2a 0) p2a p2k p2n p2w_16 p2l)] : List va_W)) H → va_D A (List.flatten ([(oX4 (p0a 0) p0a p0k p0w_16 p0l), (oX1 (p2a 0) p2a p2k p2n p2w_16 p2l)] : List va_W)) → va_K (dC, dI) cls (List.flatten ([(tX4 p0k), (tX1 p2k)] : List (List (ClassId × FieldType)))) s → va_S A s.heap H locs → lv_has ls 7 [(0, .ref (p0a 0)), (2, .ref (p2a 0)), (3, .int (o_1.1)), (4, .int v4_16)] → (∀ (H : Heap) (locs : List Loc) (ls : Array Slot), va_P (dC, dI) cls (List.flatten ([(oX4 (p0a 0) p0a p0k (o16.1) p0l), (oX1 (p2a 0) p2a p2k p2n (o16.2) p2l)] : List va_W)) H → va_D A (List.flatten ([(oX4 (p0a 0) p0a p0k (o16.1) p0l), (oX1 (p2a 0) p2a p2k p2n (o16.2) p2l)] : List va_W)) → va_K (dC, dI) cls (List.flatten ([(tX4 p0k), (tX1 p2k)] : List (List (ClassId × FieldType)))) s → va_S A s.heap H locs → lv_has ls 7 [(0, .ref (p0a 0)), (2, .ref (p2a 0)), (3, .int (o_1.1))] → W p l e ({ frames := 2, cells := 0, slots := 0, locals := 49 } : Room) s m ([.ref (p0a 0), .ref (p1a 0), .ref (p2a 0)] : List Value).toArray below meth c H locs 0 0 Q (F0 m 110 ls [])) → W p l e ({ frames := 2, cells := 0, slots := 0, locals := 49 } : Room) s m ([.ref (p0a 0), .ref (p1a 0), .ref (p2a 0)] : List Value).toArray below meth c H locs 0 0 Q (F0 m 16 ls []) := by
      intro n_16
      induction n_16 with
      | zero => intro v4_16 p0w_16 p2w_16 o16 H locs ls hrun; exact (no9 rfl hrun).elim
      | succ n_16 IH16 =>
        intro v4_16 p0w_16 p2w_16 o16 H locs ls hrun hP hD hK hS hl hk16
        unfold fX4_layBlocks_L16 at hrun
        refine lv_iload hx hb dX4_layBlocks_16 (lv_at hl 3 rfl) ?_
        refine lv_iload_n hx hb dX4_layBlocks_18 rfl (lv_at hl 2 rfl) ?_
        rcases br9 hrun with ⟨hc4, hrun⟩ | ⟨hc4, hrun⟩
        · refine lv_icmp_ge (tgt := 110) hx hb dX4_layBlocks_19 (by decide) (fun _ => ?_) (fun c => absurd hc4 c)
          obtain rfl := (Option.some.inj hrun)
          exact hk16 _ _ _ hP hD hK hS (lv_sub hl [0, 1, 2] rfl)
        · refine lv_icmp_ge (tgt := 110) hx hb dX4_layBlocks_19 (by decide) (fun c => absurd c hc4) (fun _ => ?_)
          refine lv_aload_n hx hb dX4_layBlocks_22 rfl (lv_at hl 0 rfl) ?_
          refine va_get (D := (dC, dI)) (ci := 6) (v := .ref (p0a 14)) (C := RX4) (T := TX4) (N := 20) hx hb hts i_X4 hown hK hP 0 rfl rfl 13 (by decide) (hts _ qw327) (fun _ h9 => h9) rfl dX4_layBlocks_23 ?_
          refine lv_iload hx hb dX4_layBlocks_26 (lv_at hl 3 rfl) ?_
          obtain ⟨hq5, hrun⟩ := chk9 hrun
          refine va_iald hx hb hK hP 12 11 rfl rfl (ixb_in hq5) dX4_layBlocks_28 ?_
          refine lv_istore (lv' := [(5, .int (p0w_16 14 (nn v4_16))), (0, .ref (p0a 0)), (2, .ref (p2a 0)), (3, .int (o_1.1)), (4, .int v4_16)]) hx hb dX4_layBlocks_29 hl (by decide) rfl (fun ls hl => ?_)
          refine lv_aload_n hx hb dX4_layBlocks_31 rfl (lv_at hl 1 rfl) ?_
          refine va_get (D := (dC, dI)) (ci := 6) (v := .ref (p0a 10)) (C := RX4) (T := TX4) (N := 20) hx hb hts i_X4 hown hK hP 0 rfl rfl 9 (by decide) (hts _ qw259) (fun _ h9 => h9) rfl dX4_layBlocks_32 ?_
          refine lv_iload hx hb dX4_layBlocks_35 (lv_at hl 0 rfl) ?_
          obtain ⟨hq6, hrun⟩ := chk9 hrun
          refine va_iald hx hb hK hP 8 7 rfl rfl (ixb_in hq6) dX4_layBlocks_37 ?_
          have J63 : ∀ (y0_63 : Int32) (H : Heap) (locs : List Loc) (ls : Array Slot), (fX4_layBlocks_J63 (fX4_layBlocks_L16 o_1 n_16) v4_16 p0w_16 p2w_16 y0_63) = some o16 → va_P (dC, dI) cls (List.flatten ([(oX4 (p0a 0) p0a p0k p0w_16 p0l), (oX1 (p2a 0) p2a p2k p2n p2w_16 p2l)] : List va_W)) H → va_D A (List.flatten ([(oX4 (p0a 0) p0a p0k p0w_16 p0l), (oX1 (p2a 0) p2a p2k p2n p2w_16 p2l)] : List va_W)) → va_K (dC, dI) cls (List.flatten ([(tX4 p0k), (tX1 p2k)] : List (List (ClassId × FieldType)))) s → va_S A s.heap H locs → lv_has ls 7 [(0, .ref (p0a 0)), (2, .ref (p2a 0)), (3, .int (o_1.1)), (4, .int v4_16), (5, .int (p0w_16 14 (nn v4_16)))] → W p l e ({ frames := 2, cells := 0, slots := 0, locals := 49 } : Room) s m ([.ref (p0a 0), .ref (p1a 0), .ref (p2a 0)] : List Value).toArray below meth c H locs 0 0 Q (F0 m 63 ls [.int y0_63]) := by
            intro y0_63 H locs ls hrun hP hD hK hS hl 
            unfold fX4_layBlocks_J63 at hrun
            refine lv_istore (lv' := [(6, .int y0_63), (0, .ref (p0a 0)), (2, .ref (p2a 0)), (3, .int (o_1.1)), (4, .int v4_16), (5, .int (p0w_16 14 (nn v4_16)))]) hx hb dX4_layBlocks_63 hl (by decide) rfl (fun ls hl => ?_)
            refine lv_aload_n hx hb dX4_layBlocks_65 rfl (lv_at hl 1 rfl) ?_
            refine va_get (D := (dC, dI)) (ci := 6) (v := .ref (p0a 15)) (C := RX4) (T := TX4) (N := 20) hx hb hts i_X4 hown hK hP 0 rfl rfl 14 (by decide) (hts _ qw286) (fun _ h9 => h9) rfl dX4_layBlocks_66 ?_
            refine lv_iload hx hb dX4_layBlocks_69 (lv_at hl 4 rfl) ?_
            refine lv_iload hx hb dX4_layBlocks_71 (lv_at hl 5 rfl) ?_
            obtain ⟨hq7, hrun⟩ := chk9 hrun
            refine va_iast hx hb hK hP hD hS 13 12 rfl rfl (ixb_in hq7) dX4_layBlocks_73 (fun H locs hP hD hS => ?_)
            have hP : va_P (dC, dI) cls (List.flatten ([(oX4 (p0a 0) p0a p0k (upw p0w_16 15 (nn v4_16) (p0w_16 14 (nn v4_16))) p0l), (oX1 (p2a 0) p2a p2k p2n p2w_16 p2l)] : List va_W)) H := hP
            have hD : va_D A (List.flatten ([(oX4 (p0a 0) p0a p0k (upw p0w_16 15 (nn v4_16) (p0w_16 14 (nn v4_16))) p0l), (oX1 (p2a 0) p2a p2k p2n p2w_16 p2l)] : List va_W)) := hD
            obtain ⟨w8, ew8, hrun⟩ := let9 hrun
            rw [← ew8] at hP hD
            refine lv_aload_n hx hb dX4_layBlocks_74 rfl (lv_at hl 2 rfl) ?_
            refine lv_iload hx hb dX4_layBlocks_75 (lv_at hl 0 rfl) ?_
            refine lv_iconst (v := (-1)) hx hb dX4_layBlocks_77 (by decide) ?_
            refine lv_aload_n hx hb dX4_layBlocks_78 rfl (lv_at hl 1 rfl) ?_
            refine lv_aload_n hx hb dX4_layBlocks_79 rfl (lv_at hl 1 rfl) ?_
            refine va_get (D := (dC, dI)) (ci := 6) (v := .ref (p0a 9)) (C := RX4) (T := TX4) (N := 20) hx hb hts i_X4 hown hK hP 0 rfl rfl 8 (by decide) (hts _ qw258) (fun _ h9 => h9) rfl dX4_layBlocks_80 ?_
            refine lv_iload hx hb dX4_layBlocks_83 (lv_at hl 5 rfl) ?_
            obtain ⟨hq9, hrun⟩ := chk9 hrun
            refine va_iald hx hb hK hP 7 6 rfl rfl (ixb_in hq9) dX4_layBlocks_85 ?_
            obtain ⟨o_10, hc_10, hrun⟩ := bnd9 hrun
            have hPx : va_P (dC, dI) cls ((List.flatten ([(oX4 (p0a 0) p0a p0k w8 p0l)] : List va_W)) ++ (List.flatten ([(oX1 (p2a 0) p2a p2k p2n p2w_16 p2l)] : List va_W))) H := vP_fa (vP_perm hP (bP (List.Perm.refl _)))
            have hDx : va_D A ((List.flatten ([(oX4 (p0a 0) p0a p0k w8 p0l)] : List va_W)) ++ (List.flatten ([(oX1 (p2a 0) p2a p2k p2n p2w_16 p2l)] : List va_W))) := vD_fa (vD_perm hD (bP (List.Perm.refl _)))
            have hKx : va_K (dC, dI) cls ((List.flatten ([(tX4 p0k)] : List (List (ClassId × FieldType)))) ++ (List.flatten ([(tX1 p2k)] : List (List (ClassId × FieldType))))) s := vK_fa (vK_perm hK (bP (List.Perm.refl _)))
            have hPc := vP_l hPx
            have hDc := vD_l hDx
            have hKc := vK_l hKx
            have hFc := vfree hDx hS hA
            refine va_calli (va_runV (As := [.int (w8 9 (nn (p0w_16 14 (nn v4_16))))]) (rest := [.int (-1), .int y0_63, .ref (p2a 0)]) ⟨hx, hb, hml, hown, hts⟩ (kX4_blockOfPiece l dC dI (p0a := p0a) (p0k := p0k) (p0w := w8) (p0l := p0l) (p1 := (w8 9 (nn (p0w_16 14 (nn v4_16))))) (sz := _) (o := o_10) (hrun := hc_10)) (cwV 1 hts (gi_V qw337 qw338 qw339 qw270 (gi_z qw336)) rfl rfl rfl (by decide +kernel) ⟨Nat.le_of_ble_eq_true rfl, Nat.le_of_ble_eq_true rfl⟩) ⟨PRE.blind, va_recv hKc hPc (ci := 6) (q0 := 0) rfl rfl, PRE.of hE hS hFc hPc hKc hDc⟩ rfl rfl hl.1 rfl (lv_room (Nat.le_of_ble_eq_true rfl)) dX4_layBlocks_86 ⟨(Nat.le_of_ble_eq_true rfl), (Nat.le_of_ble_eq_true rfl)⟩) hS (fun q _ h => hFc q h) hFc (fun r11 u t H locs ht hvm hw hB hz1 hk1 hS => ?_)
            obtain ⟨b1, b2, b3⟩ := hB
            rw [ht] at b1
            obtain ⟨hP, hD, hK⟩ := JOINC (wc := (List.flatten ([(oX4 (p0a 0) p0a p0k w8 p0l)] : List va_W))) (wr := (List.flatten ([(oX1 (p2a 0) p2a p2k p2n p2w_16 p2l)] : List va_W))) (w1 := (List.flatten ([(oX4 (p0a 0) p0a p0k w8 p0l)] : List va_W))) (t1 := (List.flatten ([(tX4 p0k)] : List (List (ClassId × FieldType))))) hPx hDx hKx hk1 hFc b1 (va_K.moved hvm.symm b2) b3
            have hP : va_P (dC, dI) cls (List.flatten ([(oX4 (p0a 0) p0a p0k w8 p0l), (oX1 (p2a 0) p2a p2k p2n p2w_16 p2l)] : List va_W)) H := vP_perm (vP_fb hP) (bP (List.Perm.refl _))
            have hD : va_D A (List.flatten ([(oX4 (p0a 0) p0a p0k w8 p0l), (oX1 (p2a 0) p2a p2k p2n p2w_16 p2l)] : List va_W)) := vD_perm (vD_fb hD) (bP (List.Perm.refl _))
            have hK : va_K (dC, dI) cls (List.flatten ([(tX4 p0k), (tX1 p2k)] : List (List (ClassId × FieldType)))) s := vK_perm (vK_fb hK) (bP (List.Perm.refl _))
            obtain rfl : o_10 = r11 := hw.symm
            refine lv_aload_n hx hb dX4_layBlocks_89 rfl (lv_at hl 1 rfl) ?_
            refine lv_aload_n hx hb dX4_layBlocks_90 rfl (lv_at hl 1 rfl) ?_
            refine va_get (D := (dC, dI)) (ci := 6) (v := .ref (p0a 10)) (C := RX4) (T := TX4) (N := 20) hx hb hts i_X4 hown hK hP 0 rfl rfl 9 (by decide) (hts _ qw259) (fun _ h9 => h9) rfl dX4_layBlocks_91 ?_
            refine lv_iload hx hb dX4_layBlocks_94 (lv_at hl 5 rfl) ?_
            obtain ⟨hq12, hrun⟩ := chk9 hrun
            refine va_iald hx hb hK hP 8 7 rfl rfl (ixb_in hq12) dX4_layBlocks_96 ?_
            obtain ⟨o_13, hc_13, hrun⟩ := bnd9 hrun
            have hPx : va_P (dC, dI) cls ((List.flatten ([(oX4 (p0a 0) p0a p0k w8 p0l)] : List va_W)) ++ (List.flatten ([(oX1 (p2a 0) p2a p2k p2n p2w_16 p2l)] : List va_W))) H := vP_fa (vP_perm hP (bP (List.Perm.refl _)))
            have hDx : va_D A ((List.flatten ([(oX4 (p0a 0) p0a p0k w8 p0l)] : List va_W)) ++ (List.flatten ([(oX1 (p2a 0) p2a p2k p2n p2w_16 p2l)] : List va_W))) := vD_fa (vD_perm hD (bP (List.Perm.refl _)))
            have hKx : va_K (dC, dI) cls ((List.flatten ([(tX4 p0k)] : List (List (ClassId × FieldType)))) ++ (List.flatten ([(tX1 p2k)] : List (List (ClassId × FieldType))))) s := vK_fa (vK_perm hK (bP (List.Perm.refl _)))
            have hPc := vP_l hPx
            have hDc := vD_l hDx
            have hKc := vK_l hKx
            have hFc := vfree hDx hS hA
            refine va_calli (va_runV (As := [.int (w8 10 (nn (p0w_16 14 (nn v4_16))))]) (rest := [.int o_10, .int (-1), .int y0_63, .ref (p2a 0)]) ⟨hx, hb, hml, hown, hts⟩ (kX4_blockOfPiece l dC dI (p0a := p0a) (p0k := p0k) (p0w := w8) (p0l := p0l) (p1 := (w8 10 (nn (p0w_16 14 (nn v4_16))))) (sz := _) (o := o_13) (hrun := hc_13)) (cwV 1 hts (gi_V qw337 qw338 qw339 qw270 (gi_z qw336)) rfl rfl rfl (by decide +kernel) ⟨Nat.le_of_ble_eq_true rfl, Nat.le_of_ble_eq_true rfl⟩) ⟨PRE.blind, va_recv hKc hPc (ci := 6) (q0 := 0) rfl rfl, PRE.of hE hS hFc hPc hKc hDc⟩ rfl rfl hl.1 rfl (lv_room (Nat.le_of_ble_eq_true rfl)) dX4_layBlocks_97 ⟨(Nat.le_of_ble_eq_true rfl), (Nat.le_of_ble_eq_true rfl)⟩) hS (fun q _ h => hFc q h) hFc (fun r14 u t H locs ht hvm hw hB hz1 hk1 hS => ?_)
            obtain ⟨b1, b2, b3⟩ := hB
            rw [ht] at b1
            obtain ⟨hP, hD, hK⟩ := JOINC (wc := (List.flatten ([(oX4 (p0a 0) p0a p0k w8 p0l)] : List va_W))) (wr := (List.flatten ([(oX1 (p2a 0) p2a p2k p2n p2w_16 p2l)] : List va_W))) (w1 := (List.flatten ([(oX4 (p0a 0) p0a p0k w8 p0l)] : List va_W))) (t1 := (List.flatten ([(tX4 p0k)] : List (List (ClassId × FieldType))))) hPx hDx hKx hk1 hFc b1 (va_K.moved hvm.symm b2) b3
            have hP : va_P (dC, dI) cls (List.flatten ([(oX4 (p0a 0) p0a p0k w8 p0l), (oX1 (p2a 0) p2a p2k p2n p2w_16 p2l)] : List va_W)) H := vP_perm (vP_fb hP) (bP (List.Perm.refl _))
            have hD : va_D A (List.flatten ([(oX4 (p0a 0) p0a p0k w8 p0l), (oX1 (p2a 0) p2a p2k p2n p2w_16 p2l)] : List va_W)) := vD_perm (vD_fb hD) (bP (List.Perm.refl _))
            have hK : va_K (dC, dI) cls (List.flatten ([(tX4 p0k), (tX1 p2k)] : List (List (ClassId × FieldType)))) s := vK_perm (vK_fb hK) (bP (List.Perm.refl _))
            obtain rfl : o_13 = r14 := hw.symm
            obtain ⟨o_15, hc_15, hrun⟩ := bnd9 hrun
            have hPx : va_P (dC, dI) cls ((List.flatten ([(oX1 (p2a 0) p2a p2k p2n p2w_16 p2l)] : List va_W)) ++ (List.flatten ([(oX4 (p0a 0) p0a p0k w8 p0l)] : List va_W))) H := vP_fa (vP_perm hP (bP ((((List.Perm.refl _)).cons _).trans (List.Perm.swap _ _ _))))
            have hDx : va_D A ((List.flatten ([(oX1 (p2a 0) p2a p2k p2n p2w_16 p2l)] : List va_W)) ++ (List.flatten ([(oX4 (p0a 0) p0a p0k w8 p0l)] : List va_W))) := vD_fa (vD_perm hD (bP ((((List.Perm.refl _)).cons _).trans (List.Perm.swap _ _ _))))
            have hKx : va_K (dC, dI) cls ((List.flatten ([(tX1 p2k)] : List (List (ClassId × FieldType)))) ++ (List.flatten ([(tX4 p0k)] : List (List (ClassId × FieldType))))) s := vK_fa (vK_perm hK (bP ((((List.Perm.refl _)).cons _).trans (List.Perm.swap _ _ _))))
            have hPc := vP_l hPx
            have hDc := vD_l hDx
            have hKc := vK_l hKx
            have hFc := vfree hDx hS hA
            refine va_calli (va_runV (As := [.int y0_63, .int (-1), .int o_10, .int o_13]) (rest := []) ⟨hx, hb, hml, hown, hts⟩ (kX1_addBlock l dC dI (p0a := p2a) (p0k := p2k) (p0n := p2n) (p0w := p2w_16) (p0l := p2l) (p1 := y0_63) (p2 := (-1)) (p3 := o_10) (p4 := o_13) (sz := _) (o := o_15) (hrun := hc_15)) (cwV 4 hts (gi_V qw340 qw151 qw152 qw126 (gi_z qw149)) rfl rfl rfl (by decide +kernel) ⟨Nat.le_of_ble_eq_true rfl, Nat.le_of_ble_eq_true rfl⟩) ⟨PRE.blind, va_recv hKc hPc (ci := 4) (q0 := 0) rfl rfl, PRE.of hE hS hFc hPc hKc hDc⟩ rfl rfl hl.1 rfl (lv_room (Nat.le_of_ble_eq_true rfl)) dX4_layBlocks_100 ⟨(Nat.le_of_ble_eq_true rfl), (Nat.le_of_ble_eq_true rfl)⟩) hS (fun q _ h => hFc q h) hFc (fun r16 u t H locs ht hvm hw hB hz1 hk1 hS => ?_)
            obtain ⟨b1, b2, b3⟩ := hB
            rw [ht] at b1
            obtain ⟨hP, hD, hK⟩ := JOINC (wc := (List.flatten ([(oX1 (p2a 0) p2a p2k p2n p2w_16 p2l)] : List va_W))) (wr := (List.flatten ([(oX4 (p0a 0) p0a p0k w8 p0l)] : List va_W))) (w1 := (List.flatten ([(oX1 (p2a 0) p2a p2k p2n (o_15.2) p2l)] : List va_W))) (t1 := (List.flatten ([(tX1 p2k)] : List (List (ClassId × FieldType))))) hPx hDx hKx hk1 hFc b1 (va_K.moved hvm.symm b2) b3
            have hP : va_P (dC, dI) cls (List.flatten ([(oX4 (p0a 0) p0a p0k w8 p0l), (oX1 (p2a 0) p2a p2k p2n (o_15.2) p2l)] : List va_W)) H := vP_perm (vP_fb hP) (bP ((((List.Perm.refl _)).cons _).trans (List.Perm.swap _ _ _)))
            have hD : va_D A (List.flatten ([(oX4 (p0a 0) p0a p0k w8 p0l), (oX1 (p2a 0) p2a p2k p2n (o_15.2) p2l)] : List va_W)) := vD_perm (vD_fb hD) (bP ((((List.Perm.refl _)).cons _).trans (List.Perm.swap _ _ _)))
            have hK : va_K (dC, dI) cls (List.flatten ([(tX4 p0k), (tX1 p2k)] : List (List (ClassId × FieldType)))) s := vK_perm (vK_fb hK) (bP ((((List.Perm.refl _)).cons _).trans (List.Perm.swap _ _ _)))
            obtain rfl : r16 = (o_15.1) := hw
            refine lv_pop hx hb dX4_layBlocks_103 rfl ?_
            refine lv_iinc (v := (v4_16 + 1)) (lv' := [(4, .int (v4_16 + 1)), (6, .int y0_63), (0, .ref (p0a 0)), (2, .ref (p2a 0)), (3, .int (o_1.1)), (5, .int (p0w_16 14 (nn v4_16)))]) hx hb dX4_layBlocks_104 hl (k := 4) rfl rfl (by decide) rfl (fun ls hl => ?_)
            refine lv_goto (tgt := 16) hx hb dX4_layBlocks_107 (by decide) ?_
            exact IH16 (v4_16 + 1) w8 (o_15.2) o16 _ _ _ hrun hP hD hK hS (lv_sub hl [2, 3, 4, 0] rfl) hk16
          rcases br9 hrun with ⟨hc17, hrun⟩ | ⟨hc17, hrun⟩
          · refine lv_if_lt (tgt := 46) hx hb dX4_layBlocks_38 (by decide) (fun _ => ?_) (fun c => absurd hc17 c)
            refine lv_aload_n hx hb dX4_layBlocks_46 rfl (lv_at hl 1 rfl) ?_
            refine va_get (D := (dC, dI)) (ci := 6) (v := .ref (p0a 9)) (C := RX4) (T := TX4) (N := 20) hx hb hts i_X4 hown hK hP 0 rfl rfl 8 (by decide) (hts _ qw258) (fun _ h9 => h9) rfl dX4_layBlocks_47 ?_
            refine lv_iload hx hb dX4_layBlocks_50 (lv_at hl 0 rfl) ?_
            obtain ⟨hq18, hrun⟩ := chk9 hrun
            refine va_iald hx hb hK hP 7 6 rfl rfl (ixb_in hq18) dX4_layBlocks_52 ?_
            rcases br9 hrun with ⟨hc19, hrun⟩ | ⟨hc19, hrun⟩
            · refine lv_if_lt (tgt := 61) hx hb dX4_layBlocks_53 (by decide) (fun _ => ?_) (fun c => absurd hc19 c)
              refine lv_bipush (v := 24) hx hb dX4_layBlocks_61 (by decide) ?_
              exact J63 24 _ _ _ hrun hP hD hK hS (lv_sub hl [1, 2, 3, 4, 0] rfl)
            · refine lv_if_lt (tgt := 61) hx hb dX4_layBlocks_53 (by decide) (fun c => absurd c hc19) (fun _ => ?_)
              refine lv_bipush (v := 22) hx hb dX4_layBlocks_56 (by decide) ?_
              refine lv_goto (tgt := 63) hx hb dX4_layBlocks_58 (by decide) ?_
              exact J63 22 _ _ _ hrun hP hD hK hS (lv_sub hl [1, 2, 3, 4, 0] rfl)
          · refine lv_if_lt (tgt := 46) hx hb dX4_layBlocks_38 (by decide) (fun c => absurd c hc17) (fun _ => ?_)
            refine lv_bipush (v := 23) hx hb dX4_layBlocks_41 (by decide) ?_
            refine lv_goto (tgt := 63) hx hb dX4_layBlocks_43 (by decide) ?_
            exact J63 23 _ _ _ hrun hP hD hK hS (lv_sub hl [1, 2, 3, 4, 0] rfl)
    obtain ⟨o16, hc16, hrun⟩ := bnd9 hrun
    refine L16 NF 0 (o_1.2) p2w o16 _ _ _ hc16 hP hD hK hS (lv_sub hl [2, 4, 1, 0] rfl) ?_
    intro H locs ls hP hD hK hS hl
    have hl := hl
    refine lv_iconst (v := 0) hx hb dX4_layBlocks_110 (by decide) ?_
    refine lv_istore (lv' := [(4, .int 0), (0, .ref (p0a 0)), (2, .ref (p2a 0)), (3, .int (o_1.1))]) hx hb dX4_layBlocks_111 hl (by decide) rfl (fun ls hl => ?_)
    have L113 : ∀ (n_113 : Nat) (v4_113 : Int32) (p0w_113 : ST) (p2w_113 : ST) (o113 : (Sum (Int32 × ST × ST) (ST × ST))) (H : Heap) (locs : List Loc) (ls : Array Slot), (fX4_layBlocks_L113 o_1 n_113) v4_113 p0w_113 p2w_113 = some o113 → va_P (dC, dI) cls (List.flatten ([(oX4 (p0a 0) p0a p0k p0w_113 p0l), (oX1 (p2a 0) p2a p2k p2n p2w_113 p2l)] : List va_W)) H → va_D A (List.flatten ([(oX4 (p0a 0) p0a p0k p0w_113 p0l), (oX1 (p2a 0) p2a p2k p2n p2w_113 p2l)] : List va_W)) → va_K (dC, dI) cls (List.flatten ([(tX4 p0k), (tX1 p2k)] : List (List (ClassId × FieldType)))) s → va_S A s.heap H locs → lv_has ls 7 [(0, .ref (p0a 0)), (2, .ref (p2a 0)), (3, .int (o_1.1)), (4, .int v4_113)] → (∀ r, o113 = Sum.inl r → r = o) → (∀ (t113 : ST × ST), o113 = Sum.inr t113 → ∀ (H : Heap) (locs : List Loc) (ls : Array Slot), va_P (dC, dI) cls (List.flatten ([(oX4 (p0a 0) p0a p0k (t113.1) p0l), (oX1 (p2a 0) p2a p2k p2n (t113.2) p2l)] : List va_W)) H → va_D A (List.flatten ([(oX4 (p0a 0) p0a p0k (t113.1) p0l), (oX1 (p2a 0) p2a p2k p2n (t113.2) p2l)] : List va_W)) → va_K (dC, dI) cls (List.flatten ([(tX4 p0k), (tX1 p2k)] : List (List (ClassId × FieldType)))) s → va_S A s.heap H locs → lv_has ls 7 [] → W p l e ({ frames := 2, cells := 0, slots := 0, locals := 49 } : Room) s m ([.ref (p0a 0), .ref (p1a 0), .ref (p2a 0)] : List Value).toArray below meth c H locs 0 0 Q (F0 m 167 ls [])) → W p l e ({ frames := 2, cells := 0, slots := 0, locals := 49 } : Room) s m ([.ref (p0a 0), .ref (p1a 0), .ref (p2a 0)] : List Value).toArray below meth c H locs 0 0 Q (F0 m 113 ls []) := by
      intro n_113
      induction n_113 with
      | zero => intro v4_113 p0w_113 p2w_113 o113 H locs ls hrun; exact (no9 rfl hrun).elim
      | succ n_113 IH113 =>
        intro v4_113 p0w_113 p2w_113 o113 H locs ls hrun hP hD hK hS hl hr113 hk113
        unfold fX4_layBlocks_L113 at hrun
        refine lv_iload hx hb dX4_layBlocks_113 (lv_at hl 3 rfl) ?_
        refine lv_iload_n hx hb dX4_layBlocks_115 rfl (lv_at hl 2 rfl) ?_
        rcases br9 hrun with ⟨hc20, hrun⟩ | ⟨hc20, hrun⟩
        · refine lv_icmp_ge (tgt := 167) hx hb dX4_layBlocks_116 (by decide) (fun _ => ?_) (fun c => absurd hc20 c)
          obtain rfl := (Option.some.inj hrun)
          exact hk113 _ rfl _ _ _ hP hD hK hS (lv_sub hl [] rfl)
        · refine lv_icmp_ge (tgt := 167) hx hb dX4_layBlocks_116 (by decide) (fun c => absurd c hc20) (fun _ => ?_)
          refine lv_aload_n hx hb dX4_layBlocks_119 rfl (lv_at hl 1 rfl) ?_
          refine va_get (D := (dC, dI)) (ci := 4) (v := .ref (p2a 8)) (C := RX1) (T := TX1) (N := 21) hx hb hts i_X1 hown hK hP 19 rfl rfl 7 (by decide) (hts _ qw341) (fun _ h9 => h9) rfl dX4_layBlocks_120 ?_
          refine lv_iload hx hb dX4_layBlocks_123 (lv_at hl 3 rfl) ?_
          obtain ⟨hq21, hrun⟩ := chk9 hrun
          refine va_iald hx hb hK hP 24 22 rfl rfl (ixb_in hq21) dX4_layBlocks_125 ?_
          refine lv_bipush (v := 23) hx hb dX4_layBlocks_126 (by decide) ?_
          have J161 : ∀ (p0w_161 : ST) (p2w_161 : ST) (H : Heap) (locs : List Loc) (ls : Array Slot), (fX4_layBlocks_J161 (fX4_layBlocks_L113 o_1 n_113) v4_113 p0w_161 p2w_161) = some o113 → va_P (dC, dI) cls (List.flatten ([(oX4 (p0a 0) p0a p0k p0w_161 p0l), (oX1 (p2a 0) p2a p2k p2n p2w_161 p2l)] : List va_W)) H → va_D A (List.flatten ([(oX4 (p0a 0) p0a p0k p0w_161 p0l), (oX1 (p2a 0) p2a p2k p2n p2w_161 p2l)] : List va_W)) → va_K (dC, dI) cls (List.flatten ([(tX4 p0k), (tX1 p2k)] : List (List (ClassId × FieldType)))) s → va_S A s.heap H locs → lv_has ls 7 [(0, .ref (p0a 0)), (2, .ref (p2a 0)), (3, .int (o_1.1)), (4, .int v4_113)] → W p l e ({ frames := 2, cells := 0, slots := 0, locals := 49 } : Room) s m ([.ref (p0a 0), .ref (p1a 0), .ref (p2a 0)] : List Value).toArray below meth c H locs 0 0 Q (F0 m 161 ls []) := by
            intro p0w_161 p2w_161 H locs ls hrun hP hD hK hS hl 
            unfold fX4_layBlocks_J161 at hrun
            refine lv_iinc (v := (v4_113 + 1)) (lv' := [(4, .int (v4_113 + 1)), (0, .ref (p0a 0)), (2, .ref (p2a 0)), (3, .int (o_1.1))]) hx hb dX4_layBlocks_161 hl (k := 3) rfl rfl (by decide) rfl (fun ls hl => ?_)
            refine lv_goto (tgt := 113) hx hb dX4_layBlocks_164 (by decide) ?_
            exact IH113 (v4_113 + 1) p0w_161 p2w_161 o113 _ _ _ hrun hP hD hK hS (lv_sub hl [1, 2, 3, 0] rfl) hr113 hk113
          rcases br9 hrun with ⟨hc22, hrun⟩ | ⟨hc22, hrun⟩
          · refine lv_icmp_ne (tgt := 161) hx hb dX4_layBlocks_128 (by decide) (fun c => absurd hc22 c) (fun _ => ?_)
            refine lv_aload_n hx hb dX4_layBlocks_131 rfl (lv_at hl 0 rfl) ?_
            refine lv_aload_n hx hb dX4_layBlocks_132 rfl (lv_at hl 1 rfl) ?_
            refine lv_iload hx hb dX4_layBlocks_133 (lv_at hl 3 rfl) ?_
            refine lv_aload_n hx hb dX4_layBlocks_135 rfl (lv_at hl 1 rfl) ?_
            refine va_get (D := (dC, dI)) (ci := 4) (v := .ref (p2a 10)) (C := RX1) (T := TX1) (N := 21) hx hb hts i_X1 hown hK hP 19 rfl rfl 9 (by decide) (hts _ qw342) (fun _ h9 => h9) rfl dX4_layBlocks_136 ?_
            obtain ⟨o_23, hc_23, hrun⟩ := bnd9 hrun
            have hPx : va_P (dC, dI) cls ((List.flatten ([(oX4 (p0a 0) p0a p0k p0w_113 p0l), (oX1 (p2a 0) p2a p2k p2n p2w_113 p2l)] : List va_W)) ++ (List.flatten ([] : List va_W))) H := vP_fa (vP_perm hP (bP (List.Perm.refl _)))
            have hDx : va_D A ((List.flatten ([(oX4 (p0a 0) p0a p0k p0w_113 p0l), (oX1 (p2a 0) p2a p2k p2n p2w_113 p2l)] : List va_W)) ++ (List.flatten ([] : List va_W))) := vD_fa (vD_perm hD (bP (List.Perm.refl _)))
            have hKx : va_K (dC, dI) cls ((List.flatten ([(tX4 p0k), (tX1 p2k)] : List (List (ClassId × FieldType)))) ++ (List.flatten ([] : List (List (ClassId × FieldType))))) s := vK_fa (vK_perm hK (bP (List.Perm.refl _)))
            have hPc := vP_l hPx
            have hDc := vD_l hDx
            have hKc := vK_l hKx
            have hFc := vfree hDx hS hA
            refine va_calli (va_runV (As := [.ref (p2a 0), .int v4_113, .ref (p2a 10)]) (rest := []) ⟨hx, hb, hml, hown, hts⟩ (kX4_splitWay_a3_p1_9 l dC dI (p0a := p0a) (p0k := p0k) (p0w := p0w_113) (p0l := p0l) (p1a := p2a) (p1k := p2k) (p1n := p2n) (p1w := p2w_113) (p1l := p2l) (p2 := v4_113) (sz := _) (o := o_23) (hrun := hc_23)) (cwV 3 hts (gi_V qw344 qw345 qw346 qw270 (gi_z qw343)) rfl rfl rfl (by decide +kernel) ⟨Nat.le_of_ble_eq_true rfl, Nat.le_of_ble_eq_true rfl⟩) ⟨PRE.blind, va_recv hKc hPc (ci := 6) (q0 := 0) rfl rfl, PRE.of hE hS hFc hPc hKc hDc⟩ rfl rfl hl.1 rfl (lv_room (Nat.le_of_ble_eq_true rfl)) dX4_layBlocks_139 ⟨(Nat.le_of_ble_eq_true rfl), (Nat.le_of_ble_eq_true rfl)⟩) hS (fun q _ h => hFc q h) hFc (fun r24 u t H locs ht hvm hw hB hz1 hk1 hS => ?_)
            obtain ⟨b1, b2, b3⟩ := hB
            rw [ht] at b1
            obtain ⟨hP, hD, hK⟩ := JOINC (wc := (List.flatten ([(oX4 (p0a 0) p0a p0k p0w_113 p0l), (oX1 (p2a 0) p2a p2k p2n p2w_113 p2l)] : List va_W))) (wr := (List.flatten ([] : List va_W))) (w1 := (List.flatten ([(oX4 (p0a 0) p0a p0k (o_23.2.1) p0l), (oX1 (p2a 0) p2a p2k p2n (o_23.2.2) p2l)] : List va_W))) (t1 := (List.flatten ([(tX4 p0k), (tX1 p2k)] : List (List (ClassId × FieldType))))) hPx hDx hKx hk1 hFc b1 (va_K.moved hvm.symm b2) b3
            have hP : va_P (dC, dI) cls (List.flatten ([(oX4 (p0a 0) p0a p0k (o_23.2.1) p0l), (oX1 (p2a 0) p2a p2k p2n (o_23.2.2) p2l)] : List va_W)) H := vP_perm (vP_fb hP) (bP (List.Perm.refl _))
            have hD : va_D A (List.flatten ([(oX4 (p0a 0) p0a p0k (o_23.2.1) p0l), (oX1 (p2a 0) p2a p2k p2n (o_23.2.2) p2l)] : List va_W)) := vD_perm (vD_fb hD) (bP (List.Perm.refl _))
            have hK : va_K (dC, dI) cls (List.flatten ([(tX4 p0k), (tX1 p2k)] : List (List (ClassId × FieldType)))) s := vK_perm (vK_fb hK) (bP (List.Perm.refl _))
            obtain rfl : r24 = (o_23.1) := hw
            rcases br9 hrun with ⟨hc25, hrun⟩ | ⟨hc25, hrun⟩
            · refine lv_if_eq (tgt := 159) hx hb dX4_layBlocks_142 (by decide) (fun _ => ?_) (fun c => absurd hc25 c)
              refine lv_iconst (v := 0) hx hb dX4_layBlocks_159 (by decide) ?_
              have ho9 : (0, (o_23.2.1), (o_23.2.2)) = o := hr113 _ (Option.some.inj hrun).symm
              have hP9 : va_P (dC, dI) cls (List.flatten ([(oX4 (p0a 0) p0a p0k (o.2.1) p0l), (oX1 (p2a 0) p2a p2k p2n (o.2.2) p2l)] : List va_W)) H := by first | exact hP | (rw [← ho9]; exact hP)
              have hD9 : va_D A (List.flatten ([(oX4 (p0a 0) p0a p0k (o.2.1) p0l), (oX1 (p2a 0) p2a p2k p2n (o.2.2) p2l)] : List va_W)) := by first | exact hD | (rw [← ho9]; exact hD)
              subst hQ
              exact W.zret (v := 0) hx hb hr (by decide) (fun t ht hW => ⟨⟨0, (), rfl, (by rw [← ho9]), ⟨by rw [ht]; exact hP9, va_K.moved hW.alike hK, hD9⟩⟩, hS.F ht⟩) hS.2.2 dX4_layBlocks_160
            · refine lv_if_eq (tgt := 159) hx hb dX4_layBlocks_142 (by decide) (fun c => absurd c hc25) (fun _ => ?_)
              refine lv_aload_n hx hb dX4_layBlocks_145 rfl (lv_at hl 0 rfl) ?_
              refine lv_aload_n hx hb dX4_layBlocks_146 rfl (lv_at hl 1 rfl) ?_
              refine lv_iload hx hb dX4_layBlocks_147 (lv_at hl 3 rfl) ?_
              refine lv_aload_n hx hb dX4_layBlocks_149 rfl (lv_at hl 1 rfl) ?_
              refine va_get (D := (dC, dI)) (ci := 4) (v := .ref (p2a 11)) (C := RX1) (T := TX1) (N := 21) hx hb hts i_X1 hown hK hP 19 rfl rfl 10 (by decide) (hts _ qw347) (fun _ h9 => h9) rfl dX4_layBlocks_150 ?_
              obtain ⟨o_26, hc_26, hrun⟩ := bnd9 hrun
              have hPx : va_P (dC, dI) cls ((List.flatten ([(oX4 (p0a 0) p0a p0k (o_23.2.1) p0l), (oX1 (p2a 0) p2a p2k p2n (o_23.2.2) p2l)] : List va_W)) ++ (List.flatten ([] : List va_W))) H := vP_fa (vP_perm hP (bP (List.Perm.refl _)))
              have hDx : va_D A ((List.flatten ([(oX4 (p0a 0) p0a p0k (o_23.2.1) p0l), (oX1 (p2a 0) p2a p2k p2n (o_23.2.2) p2l)] : List va_W)) ++ (List.flatten ([] : List va_W))) := vD_fa (vD_perm hD (bP (List.Perm.refl _)))
              have hKx : va_K (dC, dI) cls ((List.flatten ([(tX4 p0k), (tX1 p2k)] : List (List (ClassId × FieldType)))) ++ (List.flatten ([] : List (List (ClassId × FieldType))))) s := vK_fa (vK_perm hK (bP (List.Perm.refl _)))
              have hPc := vP_l hPx
              have hDc := vD_l hDx
              have hKc := vK_l hKx
              have hFc := vfree hDx hS hA
              refine va_calli (va_runV (As := [.ref (p2a 0), .int v4_113, .ref (p2a 11)]) (rest := []) ⟨hx, hb, hml, hown, hts⟩ (kX4_splitWay_a3_p1_10 l dC dI (p0a := p0a) (p0k := p0k) (p0w := (o_23.2.1)) (p0l := p0l) (p1a := p2a) (p1k := p2k) (p1n := p2n) (p1w := (o_23.2.2)) (p1l := p2l) (p2 := v4_113) (sz := _) (o := o_26) (hrun := hc_26)) (cwV 3 hts (gi_V qw344 qw345 qw346 qw270 (gi_z qw343)) rfl rfl rfl (by decide +kernel) ⟨Nat.le_of_ble_eq_true rfl, Nat.le_of_ble_eq_true rfl⟩) ⟨PRE.blind, va_recv hKc hPc (ci := 6) (q0 := 0) rfl rfl, PRE.of hE hS hFc hPc hKc hDc⟩ rfl rfl hl.1 rfl (lv_room (Nat.le_of_ble_eq_true rfl)) dX4_layBlocks_153 ⟨(Nat.le_of_ble_eq_true rfl), (Nat.le_of_ble_eq_true rfl)⟩) hS (fun q _ h => hFc q h) hFc (fun r27 u t H locs ht hvm hw hB hz1 hk1 hS => ?_)
              obtain ⟨b1, b2, b3⟩ := hB
              rw [ht] at b1
              obtain ⟨hP, hD, hK⟩ := JOINC (wc := (List.flatten ([(oX4 (p0a 0) p0a p0k (o_23.2.1) p0l), (oX1 (p2a 0) p2a p2k p2n (o_23.2.2) p2l)] : List va_W))) (wr := (List.flatten ([] : List va_W))) (w1 := (List.flatten ([(oX4 (p0a 0) p0a p0k (o_26.2.1) p0l), (oX1 (p2a 0) p2a p2k p2n (o_26.2.2) p2l)] : List va_W))) (t1 := (List.flatten ([(tX4 p0k), (tX1 p2k)] : List (List (ClassId × FieldType))))) hPx hDx hKx hk1 hFc b1 (va_K.moved hvm.symm b2) b3
              have hP : va_P (dC, dI) cls (List.flatten ([(oX4 (p0a 0) p0a p0k (o_26.2.1) p0l), (oX1 (p2a 0) p2a p2k p2n (o_26.2.2) p2l)] : List va_W)) H := vP_perm (vP_fb hP) (bP (List.Perm.refl _))
              have hD : va_D A (List.flatten ([(oX4 (p0a 0) p0a p0k (o_26.2.1) p0l), (oX1 (p2a 0) p2a p2k p2n (o_26.2.2) p2l)] : List va_W)) := vD_perm (vD_fb hD) (bP (List.Perm.refl _))
              have hK : va_K (dC, dI) cls (List.flatten ([(tX4 p0k), (tX1 p2k)] : List (List (ClassId × FieldType)))) s := vK_perm (vK_fb hK) (bP (List.Perm.refl _))
              obtain rfl : r27 = (o_26.1) := hw
              rcases br9 hrun with ⟨hc28, hrun⟩ | ⟨hc28, hrun⟩
              · refine lv_if_ne (tgt := 161) hx hb dX4_layBlocks_156 (by decide) (fun c => absurd hc28 c) (fun _ => ?_)
                refine lv_iconst (v := 0) hx hb dX4_layBlocks_159 (by decide) ?_
                have ho9 : (0, (o_26.2.1), (o_26.2.2)) = o := hr113 _ (Option.some.inj hrun).symm
                have hP9 : va_P (dC, dI) cls (List.flatten ([(oX4 (p0a 0) p0a p0k (o.2.1) p0l), (oX1 (p2a 0) p2a p2k p2n (o.2.2) p2l)] : List va_W)) H := by first | exact hP | (rw [← ho9]; exact hP)
                have hD9 : va_D A (List.flatten ([(oX4 (p0a 0) p0a p0k (o.2.1) p0l), (oX1 (p2a 0) p2a p2k p2n (o.2.2) p2l)] : List va_W)) := by first | exact hD | (rw [← ho9]; exact hD)
                subst hQ
                exact W.zret (v := 0) hx hb hr (by decide) (fun t ht hW => ⟨⟨0, (), rfl, (by rw [← ho9]), ⟨by rw [ht]; exact hP9, va_K.moved hW.alike hK, hD9⟩⟩, hS.F ht⟩) hS.2.2 dX4_layBlocks_160
              · refine lv_if_ne (tgt := 161) hx hb dX4_layBlocks_156 (by decide) (fun _ => ?_) (fun c => absurd c hc28)
                exact J161 (o_26.2.1) (o_26.2.2) _ _ _ hrun hP hD hK hS (lv_sub hl [0, 1, 2, 3] rfl)
          · refine lv_icmp_ne (tgt := 161) hx hb dX4_layBlocks_128 (by decide) (fun _ => ?_) (fun c => absurd c hc22)
            exact J161 p0w_113 p2w_113 _ _ _ hrun hP hD hK hS (lv_sub hl [0, 1, 2, 3] rfl)
    obtain ⟨o113, hc113, hrun⟩ := bnd9 hrun
    refine L113 NF 0 (o16.1) (o16.2) o113 _ _ _ hc113 hP hD hK hS (lv_sub hl [1, 2, 3, 0] rfl) (fun r e9 => by subst e9; exact Option.some.inj hrun) ?_
    intro t113 e9
    subst e9
    replace hrun := el9 hrun
    intro H locs ls hP hD hK hS hl
    have hl := hl
    refine lv_iconst (v := 1) hx hb dX4_layBlocks_167 (by decide) ?_
    have ho9 : (1, (t113.1), (t113.2)) = o := Option.some.inj hrun
    have hP9 : va_P (dC, dI) cls (List.flatten ([(oX4 (p0a 0) p0a p0k (o.2.1) p0l), (oX1 (p2a 0) p2a p2k p2n (o.2.2) p2l)] : List va_W)) H := by first | exact hP | (rw [← ho9]; exact hP)
    have hD9 : va_D A (List.flatten ([(oX4 (p0a 0) p0a p0k (o.2.1) p0l), (oX1 (p2a 0) p2a p2k p2n (o.2.2) p2l)] : List va_W)) := by first | exact hD | (rw [← ho9]; exact hD)
    subst hQ
    exact W.zret (v := 1) hx hb hr (by decide) (fun t ht hW => ⟨⟨1, (), rfl, (by rw [← ho9]), ⟨by rw [ht]; exact hP9, va_K.moved hW.alike hK, hD9⟩⟩, hS.F ht⟩) hS.2.2 dX4_layBlocks_168
  · refine lv_icmp_le (tgt := 13) hx hb dX4_layBlocks_8 (by decide) (fun c => absurd c hc3) (fun _ => ?_)
    refine lv_iconst (v := 0) hx hb dX4_layBlocks_11 (by decide) ?_
    have ho9 : (0, (o_1.2), p2w) = o := Option.some.inj hrun
    have hP9 : va_P (dC, dI) cls (List.flatten ([(oX4 (p0a 0) p0a p0k (o.2.1) p0l), (oX1 (p2a 0) p2a p2k p2n (o.2.2) p2l)] : List va_W)) H := by first | exact hP | (rw [← ho9]; exact hP)
    have hD9 : va_D A (List.flatten ([(oX4 (p0a 0) p0a p0k (o.2.1) p0l), (oX1 (p2a 0) p2a p2k p2n (o.2.2) p2l)] : List va_W)) := by first | exact hD | (rw [← ho9]; exact hD)
    subst hQ
    exact W.zret (v := 0) hx hb hr (by decide) (fun t ht hW => ⟨⟨0, (), rfl, (by rw [← ho9]), ⟨by rw [ht]; exact hP9, va_K.moved hW.alike hK, hD9⟩⟩, hS.F ht⟩) hS.2.2 dX4_layBlocks_12
def fX11_isOperator_J16 (y0_16 : Int32) : Option Int32 := (if y0_16 = 0 ∨ y0_16 = 1 then some y0_16 else none)
def fX11_isOperator_J15  : Option Int32 := (fX11_isOperator_J16 0)
def fX11_isOperator (p0 : Int32) : Option Int32 := (if p0 < 1 then (fX11_isOperator_J15) else (if 16 < p0 then (fX11_isOperator_J15) else (fX11_isOperator_J16 1)))
set_option maxHeartbeats 16000000 in
set_option maxRecDepth 100000 in
theorem kX11_isOperator {zs : ZS} (l : Launch) (dC : Nat → ClassId) (dI : Nat → Nat → Nat) (p0 : Int32) (sz : Nat) (o : Int32) (hrun : fX11_isOperator p0 = some o) : Met l yX11_isOperator (wz yX11_isOperator cX11_isOperator 1 (Option.some Jvm.ClassFile.FieldType.boolean)) ({ frames := 0, cells := 0, slots := 0, locals := 0 } : Room) (va_Pc [.int p0] (PRE zs dC dI (List.flatten ([] : List va_W)) (List.flatten ([] : List (List (ClassId × FieldType)))) sz)) (va_Qi (fun (r : Int32) (_ : Unit) => r = o) (fun _ t => POST dC dI (List.flatten ([] : List va_W)) (List.flatten ([] : List (List (ClassId × FieldType)))) (va_A (List.flatten ([] : List va_W)) sz) t) (va_A (List.flatten ([] : List va_W)) sz)) 0 0 (va_A (List.flatten ([] : List va_W)) sz) := by
  refine Met.ofW (cc := cX11_isOperator) (maxL := 1) (ret := (Option.some Jvm.ClassFile.FieldType.boolean)) (by decide) rfl ?_
  intro p e s m args below meth c s₁ B hml hv
  obtain ⟨rfl, hsz, hP, hK, hD0, hE⟩ := hv
  have hx := B.exec
  have hb := B.bytes
  have hr := B.returns
  have hts0 := atoms_spec (ws := wz yX11_isOperator cX11_isOperator 1 (Option.some Jvm.ClassFile.FieldType.boolean)) B.pre
  have hts : ∀ w ∈ gw, w.before _ s = true := fun w h => hts0 w (List.mem_cons_of_mem _ h)
  have hown : s.vm.findClass RX11 = some m.cls := findClass_of_methodNamed B.named
  have hlocks := B.notSynchronized
  subst hsz
  have hD := hD0.self (sz := s.heap.size)
  refine gQ9 ?_
  intro Q hQ
  generalize hAe : va_A (List.flatten ([] : List va_W)) s.heap.size = A at hD hE hQ
  have hA : ∀ q : Nat, s.heap.size ≤ q → A q := fun q h => by rw [← hAe]; exact Or.inr h
  have hS : va_S A s.heap s.heap [] := va_S.rf
  have hP : va_P (dC, dI) cls (List.flatten ([] : List va_W)) s.heap := hP
  have hl := lv_entry ([.int p0]) (n := 1) (Nat.le_of_ble_eq_true rfl)
  rw [lg_entry_eq]
  generalize (lg_sl ([.int p0]) ++ List.replicate (1 - (lg_sl ([.int p0])).length) Slot.unset).toArray = ls at hl ⊢
  have hl : lv_has ls 1 [(0, .int p0)] := hl
  obtain ⟨H, hHe⟩ : ∃ H, H = s.heap := ⟨_, rfl⟩
  obtain ⟨locs, hle⟩ : ∃ locs : List Loc, locs = [] := ⟨_, rfl⟩
  rw [← hHe] at hP
  have hS : va_S A s.heap H locs := by rw [hHe, hle]; exact hS
  show W p l e ({ frames := 0, cells := 0, slots := 0, locals := 0 } : Room) s m ([.int p0] : List Value).toArray below meth c s.heap [] 0 0 Q (F0 m 0 ls [])
  rw [← hle]
  refine wH9 hHe ?_
  unfold fX11_isOperator at hrun
  refine lv_iload_n hx hb dX11_isOperator_0 rfl (lv_at hl 0 rfl) ?_
  refine lv_iconst (v := 1) hx hb dX11_isOperator_1 (by decide) ?_
  have J16 : ∀ (y0_16 : Int32) (H : Heap) (locs : List Loc) (ls : Array Slot), (fX11_isOperator_J16 y0_16) = some o → va_P (dC, dI) cls (List.flatten ([] : List va_W)) H → va_D A (List.flatten ([] : List va_W)) → va_K (dC, dI) cls (List.flatten ([] : List (List (ClassId × FieldType)))) s → va_S A s.heap H locs → lv_has ls 1 [] → W p l e ({ frames := 0, cells := 0, slots := 0, locals := 0 } : Room) s m ([.int p0] : List Value).toArray below meth c H locs 0 0 Q (F0 m 16 ls [.int y0_16]) := by
    intro y0_16 H locs ls hrun hP hD hK hS hl 
    unfold fX11_isOperator_J16 at hrun
    obtain ⟨hz9, hrun⟩ := chk9 hrun
    have ho9 : y0_16 = o := Option.some.inj hrun
    have hP9 : va_P (dC, dI) cls (List.flatten ([] : List va_W)) H := by first | exact hP | (rw [← ho9]; exact hP)
    have hD9 : va_D A (List.flatten ([] : List va_W)) := by first | exact hD | (rw [← ho9]; exact hD)
    subst hQ
    exact W.zret (v := y0_16) hx hb hr (bz9 hz9) (fun t ht hW => ⟨⟨y0_16, (), rfl, (by rw [← ho9]), ⟨by rw [ht]; exact hP9, va_K.moved hW.alike hK, hD9⟩⟩, hS.F ht⟩) hS.2.2 dX11_isOperator_16
  have J15 : ∀ (H : Heap) (locs : List Loc) (ls : Array Slot), (fX11_isOperator_J15) = some o → va_P (dC, dI) cls (List.flatten ([] : List va_W)) H → va_D A (List.flatten ([] : List va_W)) → va_K (dC, dI) cls (List.flatten ([] : List (List (ClassId × FieldType)))) s → va_S A s.heap H locs → lv_has ls 1 [] → W p l e ({ frames := 0, cells := 0, slots := 0, locals := 0 } : Room) s m ([.int p0] : List Value).toArray below meth c H locs 0 0 Q (F0 m 15 ls []) := by
    intro  H locs ls hrun hP hD hK hS hl 
    unfold fX11_isOperator_J15 at hrun
    refine lv_iconst (v := 0) hx hb dX11_isOperator_15 (by decide) ?_
    exact J16 0 _ _ _ hrun hP hD hK hS (lv_sub hl [] rfl)
  rcases br9 hrun with ⟨hc1, hrun⟩ | ⟨hc1, hrun⟩
  · refine lv_icmp_lt (tgt := 15) hx hb dX11_isOperator_2 (by decide) (fun _ => ?_) (fun c => absurd hc1 c)
    exact J15 _ _ _ hrun hP hD hK hS (lv_sub hl [] rfl)
  · refine lv_icmp_lt (tgt := 15) hx hb dX11_isOperator_2 (by decide) (fun c => absurd c hc1) (fun _ => ?_)
    refine lv_iload_n hx hb dX11_isOperator_5 rfl (lv_at hl 0 rfl) ?_
    refine lv_bipush (v := 16) hx hb dX11_isOperator_6 (by decide) ?_
    rcases br9 hrun with ⟨hc2, hrun⟩ | ⟨hc2, hrun⟩
    · refine lv_icmp_gt (tgt := 15) hx hb dX11_isOperator_8 (by decide) (fun _ => ?_) (fun c => absurd hc2 c)
      exact J15 _ _ _ hrun hP hD hK hS (lv_sub hl [] rfl)
    · refine lv_icmp_gt (tgt := 15) hx hb dX11_isOperator_8 (by decide) (fun c => absurd c hc2) (fun _ => ?_)
      refine lv_iconst (v := 1) hx hb dX11_isOperator_11 (by decide) ?_
      refine lv_goto (tgt := 16) hx hb dX11_isOperator_12 (by decide) ?_
      exact J16 1 _ _ _ hrun hP hD hK hS (lv_sub hl [] rfl)
def fX11_usesRight_J18 (y0_18 : Int32) : Option Int32 := (if y0_18 = 0 ∨ y0_18 = 1 then some y0_18 else none)
def fX11_usesRight_J13  : Option Int32 := (fX11_usesRight_J18 1)
def fX11_usesRight (p0 : Int32) : Option Int32 := ((fX11_isOperator p0).bind fun (o_1 : Int32) => (if o_1 = 0 then (if p0 = 18 then (fX11_usesRight_J13) else (fX11_usesRight_J18 0)) else (fX11_usesRight_J13)))
set_option maxHeartbeats 16000000 in
set_option maxRecDepth 100000 in
theorem kX11_usesRight {zs : ZS} (l : Launch) (dC : Nat → ClassId) (dI : Nat → Nat → Nat) (p0 : Int32) (sz : Nat) (o : Int32) (hrun : fX11_usesRight p0 = some o) : Met l yX11_usesRight (wz yX11_usesRight cX11_usesRight 1 (Option.some Jvm.ClassFile.FieldType.boolean)) ({ frames := 1, cells := 0, slots := 0, locals := 20 } : Room) (va_Pc [.int p0] (PRE zs dC dI (List.flatten ([] : List va_W)) (List.flatten ([] : List (List (ClassId × FieldType)))) sz)) (va_Qi (fun (r : Int32) (_ : Unit) => r = o) (fun _ t => POST dC dI (List.flatten ([] : List va_W)) (List.flatten ([] : List (List (ClassId × FieldType)))) (va_A (List.flatten ([] : List va_W)) sz) t) (va_A (List.flatten ([] : List va_W)) sz)) 0 0 (va_A (List.flatten ([] : List va_W)) sz) := by
  refine Met.ofW (cc := cX11_usesRight) (maxL := 1) (ret := (Option.some Jvm.ClassFile.FieldType.boolean)) (by decide) rfl ?_
  intro p e s m args below meth c s₁ B hml hv
  obtain ⟨rfl, hsz, hP, hK, hD0, hE⟩ := hv
  have hx := B.exec
  have hb := B.bytes
  have hr := B.returns
  have hts0 := atoms_spec (ws := wz yX11_usesRight cX11_usesRight 1 (Option.some Jvm.ClassFile.FieldType.boolean)) B.pre
  have hts : ∀ w ∈ gw, w.before _ s = true := fun w h => hts0 w (List.mem_cons_of_mem _ h)
  have hown : s.vm.findClass RX11 = some m.cls := findClass_of_methodNamed B.named
  have hlocks := B.notSynchronized
  subst hsz
  have hD := hD0.self (sz := s.heap.size)
  refine gQ9 ?_
  intro Q hQ
  generalize hAe : va_A (List.flatten ([] : List va_W)) s.heap.size = A at hD hE hQ
  have hA : ∀ q : Nat, s.heap.size ≤ q → A q := fun q h => by rw [← hAe]; exact Or.inr h
  have hS : va_S A s.heap s.heap [] := va_S.rf
  have hP : va_P (dC, dI) cls (List.flatten ([] : List va_W)) s.heap := hP
  have hl := lv_entry ([.int p0]) (n := 1) (Nat.le_of_ble_eq_true rfl)
  rw [lg_entry_eq]
  generalize (lg_sl ([.int p0]) ++ List.replicate (1 - (lg_sl ([.int p0])).length) Slot.unset).toArray = ls at hl ⊢
  have hl : lv_has ls 1 [(0, .int p0)] := hl
  obtain ⟨H, hHe⟩ : ∃ H, H = s.heap := ⟨_, rfl⟩
  obtain ⟨locs, hle⟩ : ∃ locs : List Loc, locs = [] := ⟨_, rfl⟩
  rw [← hHe] at hP
  have hS : va_S A s.heap H locs := by rw [hHe, hle]; exact hS
  show W p l e ({ frames := 1, cells := 0, slots := 0, locals := 20 } : Room) s m ([.int p0] : List Value).toArray below meth c s.heap [] 0 0 Q (F0 m 0 ls [])
  rw [← hle]
  refine wH9 hHe ?_
  unfold fX11_usesRight at hrun
  refine lv_iload_n hx hb dX11_usesRight_0 rfl (lv_at hl 0 rfl) ?_
  obtain ⟨o_1, hc_1, hrun⟩ := bnd9 hrun
  have hPx : va_P (dC, dI) cls ((List.flatten ([] : List va_W)) ++ (List.flatten ([] : List va_W))) H := vP_fa (vP_perm hP (bP (List.Perm.refl _)))
  have hDx : va_D A ((List.flatten ([] : List va_W)) ++ (List.flatten ([] : List va_W))) := vD_fa (vD_perm hD (bP (List.Perm.refl _)))
  have hKx : va_K (dC, dI) cls ((List.flatten ([] : List (List (ClassId × FieldType)))) ++ (List.flatten ([] : List (List (ClassId × FieldType))))) s := vK_fa (vK_perm hK (bP (List.Perm.refl _)))
  have hPc := vP_l hPx
  have hDc := vD_l hDx
  have hKc := vK_l hKx
  have hFc := vfree hDx hS hA
  refine va_calli (va_runS (As := [.int p0]) (rest := []) ⟨hx, hb, hml, hown, hts⟩ (kX11_isOperator l dC dI (p0 := p0) (sz := _) (o := o_1) (hrun := hc_1)) (va_cwS 1 hts (gi_S qw349 qw350 qw129 (gi_z qw348)) rfl rfl rfl (by decide +kernel) ⟨Nat.le_of_ble_eq_true rfl, Nat.le_of_ble_eq_true rfl⟩) ⟨PRE.blind, PRE.of hE hS hFc hPc hKc hDc⟩ rfl rfl hl.1 rfl (lv_room (Nat.le_of_ble_eq_true rfl)) dX11_usesRight_1 ⟨(Nat.le_of_ble_eq_true rfl), (Nat.le_of_ble_eq_true rfl)⟩) hS (fun q _ h => hFc q h) hFc (fun r2 u t H locs ht hvm hw hB hz1 hk1 hS => ?_)
  obtain ⟨b1, b2, b3⟩ := hB
  rw [ht] at b1
  obtain ⟨hP, hD, hK⟩ := JOINC (wc := (List.flatten ([] : List va_W))) (wr := (List.flatten ([] : List va_W))) (w1 := (List.flatten ([] : List va_W))) (t1 := (List.flatten ([] : List (List (ClassId × FieldType))))) hPx hDx hKx hk1 hFc b1 (va_K.moved hvm.symm b2) b3
  have hP : va_P (dC, dI) cls (List.flatten ([] : List va_W)) H := vP_perm (vP_fb hP) (bP (List.Perm.refl _))
  have hD : va_D A (List.flatten ([] : List va_W)) := vD_perm (vD_fb hD) (bP (List.Perm.refl _))
  have hK : va_K (dC, dI) cls (List.flatten ([] : List (List (ClassId × FieldType)))) s := vK_perm (vK_fb hK) (bP (List.Perm.refl _))
  obtain rfl : o_1 = r2 := hw.symm
  have J18 : ∀ (y0_18 : Int32) (H : Heap) (locs : List Loc) (ls : Array Slot), (fX11_usesRight_J18 y0_18) = some o → va_P (dC, dI) cls (List.flatten ([] : List va_W)) H → va_D A (List.flatten ([] : List va_W)) → va_K (dC, dI) cls (List.flatten ([] : List (List (ClassId × FieldType)))) s → va_S A s.heap H locs → lv_has ls 1 [] → W p l e ({ frames := 1, cells := 0, slots := 0, locals := 20 } : Room) s m ([.int p0] : List Value).toArray below meth c H locs 0 0 Q (F0 m 18 ls [.int y0_18]) := by
    intro y0_18 H locs ls hrun hP hD hK hS hl 
    unfold fX11_usesRight_J18 at hrun
    obtain ⟨hz9, hrun⟩ := chk9 hrun
    have ho9 : y0_18 = o := Option.some.inj hrun
    have hP9 : va_P (dC, dI) cls (List.flatten ([] : List va_W)) H := by first | exact hP | (rw [← ho9]; exact hP)
    have hD9 : va_D A (List.flatten ([] : List va_W)) := by first | exact hD | (rw [← ho9]; exact hD)
    subst hQ
    exact W.zret (v := y0_18) hx hb hr (bz9 hz9) (fun t ht hW => ⟨⟨y0_18, (), rfl, (by rw [← ho9]), ⟨by rw [ht]; exact hP9, va_K.moved hW.alike hK, hD9⟩⟩, hS.F ht⟩) hS.2.2 dX11_usesRight_18
  have J13 : ∀ (H : Heap) (locs : List Loc) (ls : Array Slot), (fX11_usesRight_J13) = some o → va_P (dC, dI) cls (List.flatten ([] : List va_W)) H → va_D A (List.flatten ([] : List va_W)) → va_K (dC, dI) cls (List.flatten ([] : List (List (ClassId × FieldType)))) s → va_S A s.heap H locs → lv_has ls 1 [] → W p l e ({ frames := 1, cells := 0, slots := 0, locals := 20 } : Room) s m ([.int p0] : List Value).toArray below meth c H locs 0 0 Q (F0 m 13 ls []) := by
    intro  H locs ls hrun hP hD hK hS hl 
    unfold fX11_usesRight_J13 at hrun
    refine lv_iconst (v := 1) hx hb dX11_usesRight_13 (by decide) ?_
    refine lv_goto (tgt := 18) hx hb dX11_usesRight_14 (by decide) ?_
    exact J18 1 _ _ _ hrun hP hD hK hS (lv_sub hl [] rfl)
  rcases br9 hrun with ⟨hc3, hrun⟩ | ⟨hc3, hrun⟩
  · refine lv_if_ne (tgt := 13) hx hb dX11_usesRight_4 (by decide) (fun c => absurd hc3 c) (fun _ => ?_)
    refine lv_iload_n hx hb dX11_usesRight_7 rfl (lv_at hl 0 rfl) ?_
    refine lv_bipush (v := 18) hx hb dX11_usesRight_8 (by decide) ?_
    rcases br9 hrun with ⟨hc4, hrun⟩ | ⟨hc4, hrun⟩
    · refine lv_icmp_ne (tgt := 17) hx hb dX11_usesRight_10 (by decide) (fun c => absurd hc4 c) (fun _ => ?_)
      exact J13 _ _ _ hrun hP hD hK hS (lv_sub hl [] rfl)
    · refine lv_icmp_ne (tgt := 17) hx hb dX11_usesRight_10 (by decide) (fun _ => ?_) (fun c => absurd c hc4)
      refine lv_iconst (v := 0) hx hb dX11_usesRight_17 (by decide) ?_
      exact J18 0 _ _ _ hrun hP hD hK hS (lv_sub hl [] rfl)
  · refine lv_if_ne (tgt := 13) hx hb dX11_usesRight_4 (by decide) (fun _ => ?_) (fun c => absurd c hc3)
    exact J13 _ _ _ hrun hP hD hK hS (lv_sub hl [] rfl)
def fX4_waitingAt_J21 (y0_21 : Int32) : Option Int32 := some y0_21
def fX4_waitingAt_J11  : Option Int32 := (fX4_waitingAt_J21 (-1))
def fX4_waitingAt (p0w : ST) (p1 : Int32) : Option Int32 := (if p1 < 0 then (fX4_waitingAt_J11) else (if p1 < 512 then (if ixb p1 512 = true then (fX4_waitingAt_J21 (p0w 5 (nn p1))) else none) else (fX4_waitingAt_J11)))
set_option maxHeartbeats 16000000 in
set_option maxRecDepth 100000 in
theorem kX4_waitingAt {zs : ZS} (l : Launch) (dC : Nat → ClassId) (dI : Nat → Nat → Nat) (p0a : Nat → Nat) (p0k : Nat → ClassId) (p0w : ST) (p0l : SL) (p1 : Int32) (sz : Nat) (o : Int32) (hrun : fX4_waitingAt p0w p1 = some o) : Met l yX4_waitingAt (wz yX4_waitingAt cX4_waitingAt 2 (Option.some Jvm.ClassFile.FieldType.int)) ({ frames := 0, cells := 0, slots := 0, locals := 0 } : Room) (va_Pc [.ref (p0a 0), .int p1] (PRE zs dC dI (List.flatten ([(oX4 (p0a 0) p0a p0k p0w p0l)] : List va_W)) (List.flatten ([(tX4 p0k)] : List (List (ClassId × FieldType)))) sz)) (va_Qi (fun (r : Int32) (_ : Unit) => r = o) (fun _ t => POST dC dI (List.flatten ([(oX4 (p0a 0) p0a p0k p0w p0l)] : List va_W)) (List.flatten ([(tX4 p0k)] : List (List (ClassId × FieldType)))) (va_A (List.flatten ([(oX4 (p0a 0) p0a p0k p0w p0l)] : List va_W)) sz) t) (va_A (List.flatten ([(oX4 (p0a 0) p0a p0k p0w p0l)] : List va_W)) sz)) 0 0 (va_A (List.flatten ([(oX4 (p0a 0) p0a p0k p0w p0l)] : List va_W)) sz) := by
  refine Met.ofW (cc := cX4_waitingAt) (maxL := 2) (ret := (Option.some Jvm.ClassFile.FieldType.int)) (by decide) rfl ?_
  intro p e s m args below meth c s₁ B hml hv
  obtain ⟨rfl, hsz, hP, hK, hD0, hE⟩ := hv
  have hx := B.exec
  have hb := B.bytes
  have hr := B.returns
  have hts0 := atoms_spec (ws := wz yX4_waitingAt cX4_waitingAt 2 (Option.some Jvm.ClassFile.FieldType.int)) B.pre
  have hts : ∀ w ∈ gw, w.before _ s = true := fun w h => hts0 w (List.mem_cons_of_mem _ h)
  have hown : s.vm.findClass RX4 = some m.cls := findClass_of_methodNamed B.named
  have hlocks := B.notSynchronized
  subst hsz
  have hD := hD0.self (sz := s.heap.size)
  refine gQ9 ?_
  intro Q hQ
  generalize hAe : va_A (List.flatten ([(oX4 (p0a 0) p0a p0k p0w p0l)] : List va_W)) s.heap.size = A at hD hE hQ
  have hA : ∀ q : Nat, s.heap.size ≤ q → A q := fun q h => by rw [← hAe]; exact Or.inr h
  have hS : va_S A s.heap s.heap [] := va_S.rf
  have hP : va_P (dC, dI) cls (List.flatten ([(oX4 (p0a 0) p0a p0k p0w p0l)] : List va_W)) s.heap := hP
  have hl := lv_entry ([.ref (p0a 0), .int p1]) (n := 2) (Nat.le_of_ble_eq_true rfl)
  rw [lg_entry_eq]
  generalize (lg_sl ([.ref (p0a 0), .int p1]) ++ List.replicate (2 - (lg_sl ([.ref (p0a 0), .int p1])).length) Slot.unset).toArray = ls at hl ⊢
  have hl : lv_has ls 2 [(0, .ref (p0a 0)), (1, .int p1)] := hl
  obtain ⟨H, hHe⟩ : ∃ H, H = s.heap := ⟨_, rfl⟩
  obtain ⟨locs, hle⟩ : ∃ locs : List Loc, locs = [] := ⟨_, rfl⟩
  rw [← hHe] at hP
  have hS : va_S A s.heap H locs := by rw [hHe, hle]; exact hS
  show W p l e ({ frames := 0, cells := 0, slots := 0, locals := 0 } : Room) s m ([.ref (p0a 0), .int p1] : List Value).toArray below meth c s.heap [] 0 0 Q (F0 m 0 ls [])
  rw [← hle]
  refine wH9 hHe ?_
  unfold fX4_waitingAt at hrun
  refine lv_iload_n hx hb dX4_waitingAt_0 rfl (lv_at hl 1 rfl) ?_
  have J21 : ∀ (y0_21 : Int32) (H : Heap) (locs : List Loc) (ls : Array Slot), (fX4_waitingAt_J21 y0_21) = some o → va_P (dC, dI) cls (List.flatten ([(oX4 (p0a 0) p0a p0k p0w p0l)] : List va_W)) H → va_D A (List.flatten ([(oX4 (p0a 0) p0a p0k p0w p0l)] : List va_W)) → va_K (dC, dI) cls (List.flatten ([(tX4 p0k)] : List (List (ClassId × FieldType)))) s → va_S A s.heap H locs → lv_has ls 2 [] → W p l e ({ frames := 0, cells := 0, slots := 0, locals := 0 } : Room) s m ([.ref (p0a 0), .int p1] : List Value).toArray below meth c H locs 0 0 Q (F0 m 21 ls [.int y0_21]) := by
    intro y0_21 H locs ls hrun hP hD hK hS hl 
    unfold fX4_waitingAt_J21 at hrun
    have ho9 : y0_21 = o := Option.some.inj hrun
    have hP9 : va_P (dC, dI) cls (List.flatten ([(oX4 (p0a 0) p0a p0k p0w p0l)] : List va_W)) H := by first | exact hP | (rw [← ho9]; exact hP)
    have hD9 : va_D A (List.flatten ([(oX4 (p0a 0) p0a p0k p0w p0l)] : List va_W)) := by first | exact hD | (rw [← ho9]; exact hD)
    subst hQ
    exact W.iret (v := y0_21) hx hb hr (fun t ht hW => ⟨⟨y0_21, (), rfl, (by rw [← ho9]), ⟨by rw [ht]; exact hP9, va_K.moved hW.alike hK, hD9⟩⟩, hS.F ht⟩) hS.2.2 dX4_waitingAt_21
  have J11 : ∀ (H : Heap) (locs : List Loc) (ls : Array Slot), (fX4_waitingAt_J11) = some o → va_P (dC, dI) cls (List.flatten ([(oX4 (p0a 0) p0a p0k p0w p0l)] : List va_W)) H → va_D A (List.flatten ([(oX4 (p0a 0) p0a p0k p0w p0l)] : List va_W)) → va_K (dC, dI) cls (List.flatten ([(tX4 p0k)] : List (List (ClassId × FieldType)))) s → va_S A s.heap H locs → lv_has ls 2 [] → W p l e ({ frames := 0, cells := 0, slots := 0, locals := 0 } : Room) s m ([.ref (p0a 0), .int p1] : List Value).toArray below meth c H locs 0 0 Q (F0 m 11 ls []) := by
    intro  H locs ls hrun hP hD hK hS hl 
    unfold fX4_waitingAt_J11 at hrun
    refine lv_iconst (v := (-1)) hx hb dX4_waitingAt_11 (by decide) ?_
    refine lv_goto (tgt := 21) hx hb dX4_waitingAt_12 (by decide) ?_
    exact J21 (-1) _ _ _ hrun hP hD hK hS (lv_sub hl [] rfl)
  rcases br9 hrun with ⟨hc1, hrun⟩ | ⟨hc1, hrun⟩
  · refine lv_if_lt (tgt := 11) hx hb dX4_waitingAt_1 (by decide) (fun _ => ?_) (fun c => absurd hc1 c)
    exact J11 _ _ _ hrun hP hD hK hS (lv_sub hl [] rfl)
  · refine lv_if_lt (tgt := 11) hx hb dX4_waitingAt_1 (by decide) (fun c => absurd c hc1) (fun _ => ?_)
    refine lv_iload_n hx hb dX4_waitingAt_4 rfl (lv_at hl 1 rfl) ?_
    refine lv_sipush (v := 512) hx hb dX4_waitingAt_5 (by decide) ?_
    rcases br9 hrun with ⟨hc2, hrun⟩ | ⟨hc2, hrun⟩
    · refine lv_icmp_lt (tgt := 15) hx hb dX4_waitingAt_8 (by decide) (fun _ => ?_) (fun c => absurd hc2 c)
      refine lv_aload_n hx hb dX4_waitingAt_15 rfl (lv_at hl 0 rfl) ?_
      refine va_get (D := (dC, dI)) (ci := 6) (v := .ref (p0a 5)) (C := RX4) (T := TX4) (N := 20) hx hb hts i_X4 hown hK hP 0 rfl rfl 4 (by decide) (hts _ qw353) (fun _ h9 => h9) rfl dX4_waitingAt_16 ?_
      refine lv_iload_n hx hb dX4_waitingAt_19 rfl (lv_at hl 1 rfl) ?_
      obtain ⟨hq3, hrun⟩ := chk9 hrun
      refine va_iald hx hb hK hP 4 3 rfl rfl (ixb_in hq3) dX4_waitingAt_20 ?_
      exact J21 (p0w 5 (nn p1)) _ _ _ hrun hP hD hK hS (lv_sub hl [] rfl)
    · refine lv_icmp_lt (tgt := 15) hx hb dX4_waitingAt_8 (by decide) (fun c => absurd c hc2) (fun _ => ?_)
      exact J11 _ _ _ hrun hP hD hK hS (lv_sub hl [] rfl)
def fX4_takesOne_J41 (y0_41 : Int32) : Option Int32 := (if y0_41 = 0 ∨ y0_41 = 1 then some y0_41 else none)
def fX4_takesOne_J36  : Option Int32 := (fX4_takesOne_J41 1)
def fX4_takesOne (p0 : Int32) : Option Int32 := (if p0 = 17 then (fX4_takesOne_J36) else (if p0 = 31 then (fX4_takesOne_J36) else (if p0 = 36 then (fX4_takesOne_J36) else (if p0 = 24 then (fX4_takesOne_J36) else (if p0 = 33 then (fX4_takesOne_J36) else (if p0 = 34 then (fX4_takesOne_J36) else (fX4_takesOne_J41 0)))))))
set_option maxHeartbeats 16000000 in
set_option maxRecDepth 100000 in
theorem kX4_takesOne {zs : ZS} (l : Launch) (dC : Nat → ClassId) (dI : Nat → Nat → Nat) (p0 : Int32) (sz : Nat) (o : Int32) (hrun : fX4_takesOne p0 = some o) : Met l yX4_takesOne (wz yX4_takesOne cX4_takesOne 1 (Option.some Jvm.ClassFile.FieldType.boolean)) ({ frames := 0, cells := 0, slots := 0, locals := 0 } : Room) (va_Pc [.int p0] (PRE zs dC dI (List.flatten ([] : List va_W)) (List.flatten ([] : List (List (ClassId × FieldType)))) sz)) (va_Qi (fun (r : Int32) (_ : Unit) => r = o) (fun _ t => POST dC dI (List.flatten ([] : List va_W)) (List.flatten ([] : List (List (ClassId × FieldType)))) (va_A (List.flatten ([] : List va_W)) sz) t) (va_A (List.flatten ([] : List va_W)) sz)) 0 0 (va_A (List.flatten ([] : List va_W)) sz) := by
  refine Met.ofW (cc := cX4_takesOne) (maxL := 1) (ret := (Option.some Jvm.ClassFile.FieldType.boolean)) (by decide) rfl ?_
  intro p e s m args below meth c s₁ B hml hv
  obtain ⟨rfl, hsz, hP, hK, hD0, hE⟩ := hv
  have hx := B.exec
  have hb := B.bytes
  have hr := B.returns
  have hts0 := atoms_spec (ws := wz yX4_takesOne cX4_takesOne 1 (Option.some Jvm.ClassFile.FieldType.boolean)) B.pre
  have hts : ∀ w ∈ gw, w.before _ s = true := fun w h => hts0 w (List.mem_cons_of_mem _ h)
  have hown : s.vm.findClass RX4 = some m.cls := findClass_of_methodNamed B.named
  have hlocks := B.notSynchronized
  subst hsz
  have hD := hD0.self (sz := s.heap.size)
  refine gQ9 ?_
  intro Q hQ
  generalize hAe : va_A (List.flatten ([] : List va_W)) s.heap.size = A at hD hE hQ
  have hA : ∀ q : Nat, s.heap.size ≤ q → A q := fun q h => by rw [← hAe]; exact Or.inr h
  have hS : va_S A s.heap s.heap [] := va_S.rf
  have hP : va_P (dC, dI) cls (List.flatten ([] : List va_W)) s.heap := hP
  have hl := lv_entry ([.int p0]) (n := 1) (Nat.le_of_ble_eq_true rfl)
  rw [lg_entry_eq]
  generalize (lg_sl ([.int p0]) ++ List.replicate (1 - (lg_sl ([.int p0])).length) Slot.unset).toArray = ls at hl ⊢
  have hl : lv_has ls 1 [(0, .int p0)] := hl
  obtain ⟨H, hHe⟩ : ∃ H, H = s.heap := ⟨_, rfl⟩
  obtain ⟨locs, hle⟩ : ∃ locs : List Loc, locs = [] := ⟨_, rfl⟩
  rw [← hHe] at hP
  have hS : va_S A s.heap H locs := by rw [hHe, hle]; exact hS
  show W p l e ({ frames := 0, cells := 0, slots := 0, locals := 0 } : Room) s m ([.int p0] : List Value).toArray below meth c s.heap [] 0 0 Q (F0 m 0 ls [])
  rw [← hle]
  refine wH9 hHe ?_
  unfold fX4_takesOne at hrun
  refine lv_iload_n hx hb dX4_takesOne_0 rfl (lv_at hl 0 rfl) ?_
  refine lv_bipush (v := 17) hx hb dX4_takesOne_1 (by decide) ?_
  have J41 : ∀ (y0_41 : Int32) (H : Heap) (locs : List Loc) (ls : Array Slot), (fX4_takesOne_J41 y0_41) = some o → va_P (dC, dI) cls (List.flatten ([] : List va_W)) H → va_D A (List.flatten ([] : List va_W)) → va_K (dC, dI) cls (List.flatten ([] : List (List (ClassId × FieldType)))) s → va_S A s.heap H locs → lv_has ls 1 [] → W p l e ({ frames := 0, cells := 0, slots := 0, locals := 0 } : Room) s m ([.int p0] : List Value).toArray below meth c H locs 0 0 Q (F0 m 41 ls [.int y0_41]) := by
    intro y0_41 H locs ls hrun hP hD hK hS hl 
    unfold fX4_takesOne_J41 at hrun
    obtain ⟨hz9, hrun⟩ := chk9 hrun
    have ho9 : y0_41 = o := Option.some.inj hrun
    have hP9 : va_P (dC, dI) cls (List.flatten ([] : List va_W)) H := by first | exact hP | (rw [← ho9]; exact hP)
    have hD9 : va_D A (List.flatten ([] : List va_W)) := by first | exact hD | (rw [← ho9]; exact hD)
    subst hQ
    exact W.zret (v := y0_41) hx hb hr (bz9 hz9) (fun t ht hW => ⟨⟨y0_41, (), rfl, (by rw [← ho9]), ⟨by rw [ht]; exact hP9, va_K.moved hW.alike hK, hD9⟩⟩, hS.F ht⟩) hS.2.2 dX4_takesOne_41
  have J36 : ∀ (H : Heap) (locs : List Loc) (ls : Array Slot), (fX4_takesOne_J36) = some o → va_P (dC, dI) cls (List.flatten ([] : List va_W)) H → va_D A (List.flatten ([] : List va_W)) → va_K (dC, dI) cls (List.flatten ([] : List (List (ClassId × FieldType)))) s → va_S A s.heap H locs → lv_has ls 1 [] → W p l e ({ frames := 0, cells := 0, slots := 0, locals := 0 } : Room) s m ([.int p0] : List Value).toArray below meth c H locs 0 0 Q (F0 m 36 ls []) := by
    intro  H locs ls hrun hP hD hK hS hl 
    unfold fX4_takesOne_J36 at hrun
    refine lv_iconst (v := 1) hx hb dX4_takesOne_36 (by decide) ?_
    refine lv_goto (tgt := 41) hx hb dX4_takesOne_37 (by decide) ?_
    exact J41 1 _ _ _ hrun hP hD hK hS (lv_sub hl [] rfl)
  rcases br9 hrun with ⟨hc1, hrun⟩ | ⟨hc1, hrun⟩
  · refine lv_icmp_eq (tgt := 36) hx hb dX4_takesOne_3 (by decide) (fun _ => ?_) (fun c => absurd hc1 c)
    exact J36 _ _ _ hrun hP hD hK hS (lv_sub hl [] rfl)
  · refine lv_icmp_eq (tgt := 36) hx hb dX4_takesOne_3 (by decide) (fun c => absurd c hc1) (fun _ => ?_)
    refine lv_iload_n hx hb dX4_takesOne_6 rfl (lv_at hl 0 rfl) ?_
    refine lv_bipush (v := 31) hx hb dX4_takesOne_7 (by decide) ?_
    rcases br9 hrun with ⟨hc2, hrun⟩ | ⟨hc2, hrun⟩
    · refine lv_icmp_eq (tgt := 36) hx hb dX4_takesOne_9 (by decide) (fun _ => ?_) (fun c => absurd hc2 c)
      exact J36 _ _ _ hrun hP hD hK hS (lv_sub hl [] rfl)
    · refine lv_icmp_eq (tgt := 36) hx hb dX4_takesOne_9 (by decide) (fun c => absurd c hc2) (fun _ => ?_)
      refine lv_iload_n hx hb dX4_takesOne_12 rfl (lv_at hl 0 rfl) ?_
      refine lv_bipush (v := 36) hx hb dX4_takesOne_13 (by decide) ?_
      rcases br9 hrun with ⟨hc3, hrun⟩ | ⟨hc3, hrun⟩
      · refine lv_icmp_eq (tgt := 36) hx hb dX4_takesOne_15 (by decide) (fun _ => ?_) (fun c => absurd hc3 c)
        exact J36 _ _ _ hrun hP hD hK hS (lv_sub hl [] rfl)
      · refine lv_icmp_eq (tgt := 36) hx hb dX4_takesOne_15 (by decide) (fun c => absurd c hc3) (fun _ => ?_)
        refine lv_iload_n hx hb dX4_takesOne_18 rfl (lv_at hl 0 rfl) ?_
        refine lv_bipush (v := 24) hx hb dX4_takesOne_19 (by decide) ?_
        rcases br9 hrun with ⟨hc4, hrun⟩ | ⟨hc4, hrun⟩
        · refine lv_icmp_eq (tgt := 36) hx hb dX4_takesOne_21 (by decide) (fun _ => ?_) (fun c => absurd hc4 c)
          exact J36 _ _ _ hrun hP hD hK hS (lv_sub hl [] rfl)
        · refine lv_icmp_eq (tgt := 36) hx hb dX4_takesOne_21 (by decide) (fun c => absurd c hc4) (fun _ => ?_)
          refine lv_iload_n hx hb dX4_takesOne_24 rfl (lv_at hl 0 rfl) ?_
          refine lv_bipush (v := 33) hx hb dX4_takesOne_25 (by decide) ?_
          rcases br9 hrun with ⟨hc5, hrun⟩ | ⟨hc5, hrun⟩
          · refine lv_icmp_eq (tgt := 36) hx hb dX4_takesOne_27 (by decide) (fun _ => ?_) (fun c => absurd hc5 c)
            exact J36 _ _ _ hrun hP hD hK hS (lv_sub hl [] rfl)
          · refine lv_icmp_eq (tgt := 36) hx hb dX4_takesOne_27 (by decide) (fun c => absurd c hc5) (fun _ => ?_)
            refine lv_iload_n hx hb dX4_takesOne_30 rfl (lv_at hl 0 rfl) ?_
            refine lv_bipush (v := 34) hx hb dX4_takesOne_31 (by decide) ?_
            rcases br9 hrun with ⟨hc6, hrun⟩ | ⟨hc6, hrun⟩
            · refine lv_icmp_ne (tgt := 40) hx hb dX4_takesOne_33 (by decide) (fun c => absurd hc6 c) (fun _ => ?_)
              exact J36 _ _ _ hrun hP hD hK hS (lv_sub hl [] rfl)
            · refine lv_icmp_ne (tgt := 40) hx hb dX4_takesOne_33 (by decide) (fun _ => ?_) (fun c => absurd c hc6)
              refine lv_iconst (v := 0) hx hb dX4_takesOne_40 (by decide) ?_
              exact J41 0 _ _ _ hrun hP hD hK hS (lv_sub hl [] rfl)
def fX4_linkOperands_J250 (kk10 : Int32 → Int32 → ST → Option ST) (v4_10 : Int32) (v3_250 : Int32) (p0w_250 : ST) : Option ST := (kk10 v3_250 (v4_10 + 1) p0w_250)
def fX4_linkOperands_J232 (kk10 : Int32 → Int32 → ST → Option ST) (v4_10 : Int32) (v3_192 : Int32) (p0w_192 : ST) : Option ST := (if 512 ≤ (if v3_192 < 0 then 0 else v3_192) then (fX4_linkOperands_J250 kk10 v4_10 (if v3_192 < 0 then 0 else v3_192) p0w_192) else (if ixb (if v3_192 < 0 then 0 else v3_192) 512 = true then (lt9 (upw p0w_192 5 (nn (if v3_192 < 0 then 0 else v3_192)) v4_10) fun (w15 : ST) => (fX4_linkOperands_J250 kk10 v4_10 ((if v3_192 < 0 then 0 else v3_192) + 1) w15)) else none))
def fX4_linkOperands_J192 (kk10 : Int32 → Int32 → ST → Option ST) (p1w : ST) (v4_10 : Int32) (v3_192 : Int32) (p0w_192 : ST) : Option ST := ((fX11_isOperator (p1w 9 (nn v4_10))).bind fun (o_11 : Int32) => (if o_11 = 0 then (if (p1w 9 (nn v4_10)) = 0 then (fX4_linkOperands_J232 kk10 v4_10 v3_192 p0w_192) else (if (p1w 9 (nn v4_10)) = 17 then (fX4_linkOperands_J232 kk10 v4_10 v3_192 p0w_192) else (if (p1w 9 (nn v4_10)) = 20 then (fX4_linkOperands_J232 kk10 v4_10 v3_192 p0w_192) else (if (p1w 9 (nn v4_10)) = 30 then (fX4_linkOperands_J232 kk10 v4_10 v3_192 p0w_192) else (fX4_linkOperands_J250 kk10 v4_10 (if v3_192 < 0 then 0 else v3_192) p0w_192))))) else (fX4_linkOperands_J232 kk10 v4_10 v3_192 p0w_192)))
def fX4_linkOperands_L10 (p1w : ST) (p2 : Int32) : Nat → Int32 → Int32 → ST → Option ST
  | 0 => fun _ _ _ => none
  | n_10 + 1 => fun v3_10 v4_10 p0w_10 => (if ixb p2 6 = true then (if (p1w 7 (nn p2)) ≤ v4_10 then some p0w_10 else (if ixb v4_10 3200 = true then (if ixb v4_10 3200 = true then (lt9 (upw p0w_10 2 (nn v4_10) (-1)) fun (w6 : ST) => (if ixb v4_10 3200 = true then (lt9 (upw w6 3 (nn v4_10) (-1)) fun (w8 : ST) => ((fX11_usesRight (p1w 9 (nn v4_10))).bind fun (o_9 : Int32) => (if o_9 = 0 then (if (p1w 9 (nn v4_10)) = 19 then (if ixb v4_10 3200 = true then ((fX4_waitingAt w8 (v3_10 - (p1w 10 (nn v4_10)))).bind fun (o_24 : Int32) => (if ixb v4_10 3200 = true then (lt9 (upw w8 2 (nn v4_10) o_24) fun (w27 : ST) => (fX4_linkOperands_J192 (fX4_linkOperands_L10 p1w p2 n_10) p1w v4_10 v3_10 w27)) else none)) else none) else (if (p1w 9 (nn v4_10)) = 32 then ((fX4_waitingAt w8 (v3_10 - 1)).bind fun (o_29 : Int32) => (if ixb v4_10 3200 = true then (lt9 (upw w8 2 (nn v4_10) o_29) fun (w32 : ST) => (fX4_linkOperands_J192 (fX4_linkOperands_L10 p1w p2 n_10) p1w v4_10 v3_10 w32)) else none)) else ((fX4_takesOne (p1w 9 (nn v4_10))).bind fun (o_33 : Int32) => (if o_33 = 0 then (if (p1w 9 (nn v4_10)) = 20 then (if ixb v4_10 3200 = true then (if ixb (p1w 10 (nn v4_10)) 6 = true then (fX4_linkOperands_J192 (fX4_linkOperands_L10 p1w p2 n_10) p1w v4_10 (v3_10 - (p1w 4 (nn (p1w 10 (nn v4_10))))) w8) else none) else none) else (fX4_linkOperands_J192 (fX4_linkOperands_L10 p1w p2 n_10) p1w v4_10 v3_10 w8)) else ((fX4_waitingAt w8 (v3_10 - 1)).bind fun (o_39 : Int32) => (if ixb v4_10 3200 = true then (lt9 (upw w8 2 (nn v4_10) o_39) fun (w42 : ST) => (fX4_linkOperands_J192 (fX4_linkOperands_L10 p1w p2 n_10) p1w v4_10 (v3_10 + (-1)) w42)) else none)))))) else ((fX4_waitingAt w8 (v3_10 - 1)).bind fun (o_43 : Int32) => (if ixb v4_10 3200 = true then (lt9 (upw w8 3 (nn v4_10) o_43) fun (w46 : ST) => ((fX4_waitingAt w46 (v3_10 - 2)).bind fun (o_47 : Int32) => (if ixb v4_10 3200 = true then (lt9 (upw w46 2 (nn v4_10) o_47) fun (w50 : ST) => (fX4_linkOperands_J192 (fX4_linkOperands_L10 p1w p2 n_10) p1w v4_10 (v3_10 + (-2)) w50)) else none))) else none))))) else none)) else none) else none)) else none)
def fX4_linkOperands (p0w : ST) (p1w : ST) (p2 : Int32) : Option ST := (if ixb p2 6 = true then ((fX4_linkOperands_L10 p1w p2 NF 0 (p1w 6 (nn p2)) p0w).bind fun (o10 : ST) => some o10) else none)
set_option maxHeartbeats 16000000 in
set_option maxRecDepth 100000 in
theorem kX4_linkOperands {zs : ZS} (l : Launch) (dC : Nat → ClassId) (dI : Nat → Nat → Nat) (p0a : Nat → Nat) (p0k : Nat → ClassId) (p0w : ST) (p0l : SL) (p1a : Nat → Nat) (p1k : Nat → ClassId) (p1w : ST) (p1l : SL) (p2 : Int32) (sz : Nat) (o : ST) (hrun : fX4_linkOperands p0w p1w p2 = some o) : Met l yX4_linkOperands (wz yX4_linkOperands cX4_linkOperands 6 (Option.none : Option Jvm.ClassFile.FieldType)) ({ frames := 2, cells := 0, slots := 0, locals := 40 } : Room) (va_Pc [.ref (p0a 0), .ref (p1a 0), .int p2] (PRE zs dC dI (List.flatten ([(oX4 (p0a 0) p0a p0k p0w p0l), (oX6 (p1a 0) p1a p1k p1w p1l)] : List va_W)) (List.flatten ([(tX4 p0k), (tX6 p1k)] : List (List (ClassId × FieldType)))) sz)) (va_Qv (fun (_ : Unit) => True) (fun _ t => POST dC dI (List.flatten ([(oX4 (p0a 0) p0a p0k o p0l), (oX6 (p1a 0) p1a p1k p1w p1l)] : List va_W)) (List.flatten ([(tX4 p0k), (tX6 p1k)] : List (List (ClassId × FieldType)))) (va_A (List.flatten ([(oX4 (p0a 0) p0a p0k p0w p0l), (oX6 (p1a 0) p1a p1k p1w p1l)] : List va_W)) sz) t) (va_A (List.flatten ([(oX4 (p0a 0) p0a p0k p0w p0l), (oX6 (p1a 0) p1a p1k p1w p1l)] : List va_W)) sz)) 0 0 (va_A (List.flatten ([(oX4 (p0a 0) p0a p0k p0w p0l), (oX6 (p1a 0) p1a p1k p1w p1l)] : List va_W)) sz) := by
  refine Met.ofW (cc := cX4_linkOperands) (maxL := 6) (ret := (Option.none : Option Jvm.ClassFile.FieldType)) (by decide) rfl ?_
  intro p e s m args below meth c s₁ B hml hv
  obtain ⟨rfl, hsz, hP, hK, hD0, hE⟩ := hv
  have hx := B.exec
  have hb := B.bytes
  have hr := B.returns
  have hts0 := atoms_spec (ws := wz yX4_linkOperands cX4_linkOperands 6 (Option.none : Option Jvm.ClassFile.FieldType)) B.pre
  have hts : ∀ w ∈ gw, w.before _ s = true := fun w h => hts0 w (List.mem_cons_of_mem _ h)
  have hown : s.vm.findClass RX4 = some m.cls := findClass_of_methodNamed B.named
  have hlocks := B.notSynchronized
  subst hsz
  have hD := hD0.self (sz := s.heap.size)
  refine gQ9 ?_
  intro Q hQ
  generalize hAe : va_A (List.flatten ([(oX4 (p0a 0) p0a p0k p0w p0l), (oX6 (p1a 0) p1a p1k p1w p1l)] : List va_W)) s.heap.size = A at hD hE hQ
  have hA : ∀ q : Nat, s.heap.size ≤ q → A q := fun q h => by rw [← hAe]; exact Or.inr h
  have hS : va_S A s.heap s.heap [] := va_S.rf
  have hP : va_P (dC, dI) cls (List.flatten ([(oX4 (p0a 0) p0a p0k p0w p0l), (oX6 (p1a 0) p1a p1k p1w p1l)] : List va_W)) s.heap := hP
  have hl := lv_entry ([.ref (p0a 0), .ref (p1a 0), .int p2]) (n := 6) (Nat.le_of_ble_eq_true rfl)
  rw [lg_entry_eq]
  generalize (lg_sl ([.ref (p0a 0), .ref (p1a 0), .int p2]) ++ List.replicate (6 - (lg_sl ([.ref (p0a 0), .ref (p1a 0), .int p2])).length) Slot.unset).toArray = ls at hl ⊢
  have hl : lv_has ls 6 [(0, .ref (p0a 0)), (1, .ref (p1a 0)), (2, .int p2)] := hl
  obtain ⟨H, hHe⟩ : ∃ H, H = s.heap := ⟨_, rfl⟩
  obtain ⟨locs, hle⟩ : ∃ locs : List Loc, locs = [] := ⟨_, rfl⟩
  rw [← hHe] at hP
  have hS : va_S A s.heap H locs := by rw [hHe, hle]; exact hS
  show W p l e ({ frames := 2, cells := 0, slots := 0, locals := 40 } : Room) s m ([.ref (p0a 0), .ref (p1a 0), .int p2] : List Value).toArray below meth c s.heap [] 0 0 Q (F0 m 0 ls [])
  rw [← hle]
  refine wH9 hHe ?_
  unfold fX4_linkOperands at hrun
  refine lv_iconst (v := 0) hx hb dX4_linkOperands_0 (by decide) ?_
  refine lv_istore_n (lv' := [(3, .int 0), (0, .ref (p0a 0)), (1, .ref (p1a 0)), (2, .int p2)]) hx hb dX4_linkOperands_1 rfl hl (by decide) rfl (fun ls hl => ?_)
  refine lv_aload_n hx hb dX4_linkOperands_2 rfl (lv_at hl 2 rfl) ?_
  refine va_get (D := (dC, dI)) (ci := 2) (v := .ref (p1a 6)) (C := RX6) (T := TX6) (N := 13) hx hb hts i_X6 hown hK hP 19 rfl rfl 5 (by decide) (hts _ qw261) (fun _ h9 => h9) rfl dX4_linkOperands_3 ?_
  refine lv_iload_n hx hb dX4_linkOperands_6 rfl (lv_at hl 3 rfl) ?_
  obtain ⟨hq1, hrun⟩ := chk9 hrun
  refine va_iald hx hb hK hP 24 22 rfl rfl (ixb_in hq1) dX4_linkOperands_7 ?_
  refine lv_istore (lv' := [(4, .int (p1w 6 (nn p2))), (3, .int 0), (0, .ref (p0a 0)), (1, .ref (p1a 0)), (2, .int p2)]) hx hb dX4_linkOperands_8 hl (by decide) rfl (fun ls hl => ?_)
  have L10 : ∀ (n_10 : Nat) (v3_10 : Int32) (v4_10 : Int32) (p0w_10 : ST) (o10 : ST) (H : Heap) (locs : List Loc) (ls : Array Slot), (fX4_linkOperands_L10 p1w p2 n_10) v3_10 v4_10 p0w_10 = some o10 → va_P (dC, dI) cls (List.flatten ([(oX4 (p0a 0) p0a p0k p0w_10 p0l), (oX6 (p1a 0) p1a p1k p1w p1l)] : List va_W)) H → va_D A (List.flatten ([(oX4 (p0a 0) p0a p0k p0w_10 p0l), (oX6 (p1a 0) p1a p1k p1w p1l)] : List va_W)) → va_K (dC, dI) cls (List.flatten ([(tX4 p0k), (tX6 p1k)] : List (List (ClassId × FieldType)))) s → va_S A s.heap H locs → lv_has ls 6 [(0, .ref (p0a 0)), (1, .ref (p1a 0)), (2, .int p2), (3, .int v3_10), (4, .int v4_10)] → (∀ (H : Heap) (locs : List Loc) (ls : Array Slot), va_P (dC, dI) cls (List.flatten ([(oX4 (p0a 0) p0a p0k o10 p0l), (oX6 (p1a 0) p1a p1k p1w p1l)] : List va_W)) H → va_D A (List.flatten ([(oX4 (p0a 0) p0a p0k o10 p0l), (oX6 (p1a 0) p1a p1k p1w p1l)] : List va_W)) → va_K (dC, dI) cls (List.flatten ([(tX4 p0k), (tX6 p1k)] : List (List (ClassId × FieldType)))) s → va_S A s.heap H locs → lv_has ls 6 [] → W p l e ({ frames := 2, cells := 0, slots := 0, locals := 40 } : Room) s m ([.ref (p0a 0), .ref (p1a 0), .int p2] : List Value).toArray below meth c H locs 0 0 Q (F0 m 256 ls [])) → W p l e ({ frames := 2, cells := 0, slots := 0, locals := 40 } : Room) s m ([.ref (p0a 0), .ref (p1a 0), .int p2] : List Value).toArray below meth c H locs 0 0 Q (F0 m 10 ls []) := by
    intro n_10
    induction n_10 with
    | zero => intro v3_10 v4_10 p0w_10 o10 H locs ls hrun; exact (no9 rfl hrun).elim
    | succ n_10 IH10 =>
      intro v3_10 v4_10 p0w_10 o10 H locs ls hrun hP hD hK hS hl hk10
      unfold fX4_linkOperands_L10 at hrun
      refine lv_iload hx hb dX4_linkOperands_10 (lv_at hl 4 rfl) ?_
      refine lv_aload_n hx hb dX4_linkOperands_12 rfl (lv_at hl 1 rfl) ?_
      refine va_get (D := (dC, dI)) (ci := 2) (v := .ref (p1a 7)) (C := RX6) (T := TX6) (N := 13) hx hb hts i_X6 hown hK hP 19 rfl rfl 6 (by decide) (hts _ qw262) (fun _ h9 => h9) rfl dX4_linkOperands_13 ?_
      refine lv_iload_n hx hb dX4_linkOperands_16 rfl (lv_at hl 2 rfl) ?_
      obtain ⟨hq2, hrun⟩ := chk9 hrun
      refine va_iald hx hb hK hP 25 23 rfl rfl (ixb_in hq2) dX4_linkOperands_17 ?_
      rcases br9 hrun with ⟨hc3, hrun⟩ | ⟨hc3, hrun⟩
      · refine lv_icmp_ge (tgt := 256) hx hb dX4_linkOperands_18 (by decide) (fun _ => ?_) (fun c => absurd hc3 c)
        obtain rfl := (Option.some.inj hrun)
        exact hk10 _ _ _ hP hD hK hS (lv_sub hl [] rfl)
      · refine lv_icmp_ge (tgt := 256) hx hb dX4_linkOperands_18 (by decide) (fun c => absurd c hc3) (fun _ => ?_)
        refine lv_aload_n hx hb dX4_linkOperands_21 rfl (lv_at hl 1 rfl) ?_
        refine va_get (D := (dC, dI)) (ci := 2) (v := .ref (p1a 9)) (C := RX6) (T := TX6) (N := 13) hx hb hts i_X6 hown hK hP 19 rfl rfl 8 (by decide) (hts _ qw263) (fun _ h9 => h9) rfl dX4_linkOperands_22 ?_
        refine lv_iload hx hb dX4_linkOperands_25 (lv_at hl 4 rfl) ?_
        obtain ⟨hq4, hrun⟩ := chk9 hrun
        refine va_iald hx hb hK hP 26 24 rfl rfl (ixb_in hq4) dX4_linkOperands_27 ?_
        refine lv_istore (lv' := [(5, .int (p1w 9 (nn v4_10))), (0, .ref (p0a 0)), (1, .ref (p1a 0)), (2, .int p2), (3, .int v3_10), (4, .int v4_10)]) hx hb dX4_linkOperands_28 hl (by decide) rfl (fun ls hl => ?_)
        refine lv_aload_n hx hb dX4_linkOperands_30 rfl (lv_at hl 1 rfl) ?_
        refine va_get (D := (dC, dI)) (ci := 6) (v := .ref (p0a 2)) (C := RX4) (T := TX4) (N := 20) hx hb hts i_X4 hown hK hP 0 rfl rfl 1 (by decide) (hts _ qw296) (fun _ h9 => h9) rfl dX4_linkOperands_31 ?_
        refine lv_iload hx hb dX4_linkOperands_34 (lv_at hl 5 rfl) ?_
        refine lv_iconst (v := (-1)) hx hb dX4_linkOperands_36 (by decide) ?_
        obtain ⟨hq5, hrun⟩ := chk9 hrun
        refine va_iast hx hb hK hP hD hS 1 0 rfl rfl (ixb_in hq5) dX4_linkOperands_37 (fun H locs hP hD hS => ?_)
        have hP : va_P (dC, dI) cls (List.flatten ([(oX4 (p0a 0) p0a p0k (upw p0w_10 2 (nn v4_10) (-1)) p0l), (oX6 (p1a 0) p1a p1k p1w p1l)] : List va_W)) H := hP
        have hD : va_D A (List.flatten ([(oX4 (p0a 0) p0a p0k (upw p0w_10 2 (nn v4_10) (-1)) p0l), (oX6 (p1a 0) p1a p1k p1w p1l)] : List va_W)) := hD
        obtain ⟨w6, ew6, hrun⟩ := let9 hrun
        rw [← ew6] at hP hD
        refine lv_aload_n hx hb dX4_linkOperands_38 rfl (lv_at hl 1 rfl) ?_
        refine va_get (D := (dC, dI)) (ci := 6) (v := .ref (p0a 3)) (C := RX4) (T := TX4) (N := 20) hx hb hts i_X4 hown hK hP 0 rfl rfl 2 (by decide) (hts _ qw304) (fun _ h9 => h9) rfl dX4_linkOperands_39 ?_
        refine lv_iload hx hb dX4_linkOperands_42 (lv_at hl 5 rfl) ?_
        refine lv_iconst (v := (-1)) hx hb dX4_linkOperands_44 (by decide) ?_
        obtain ⟨hq7, hrun⟩ := chk9 hrun
        refine va_iast hx hb hK hP hD hS 2 1 rfl rfl (ixb_in hq7) dX4_linkOperands_45 (fun H locs hP hD hS => ?_)
        have hP : va_P (dC, dI) cls (List.flatten ([(oX4 (p0a 0) p0a p0k (upw w6 3 (nn v4_10) (-1)) p0l), (oX6 (p1a 0) p1a p1k p1w p1l)] : List va_W)) H := hP
        have hD : va_D A (List.flatten ([(oX4 (p0a 0) p0a p0k (upw w6 3 (nn v4_10) (-1)) p0l), (oX6 (p1a 0) p1a p1k p1w p1l)] : List va_W)) := hD
        obtain ⟨w8, ew8, hrun⟩ := let9 hrun
        rw [← ew8] at hP hD
        refine lv_iload hx hb dX4_linkOperands_46 (lv_at hl 0 rfl) ?_
        obtain ⟨o_9, hc_9, hrun⟩ := bnd9 hrun
        have hPx : va_P (dC, dI) cls ((List.flatten ([] : List va_W)) ++ (List.flatten ([(oX4 (p0a 0) p0a p0k w8 p0l), (oX6 (p1a 0) p1a p1k p1w p1l)] : List va_W))) H := vP_fa (vP_perm hP (bP (List.Perm.refl _)))
        have hDx : va_D A ((List.flatten ([] : List va_W)) ++ (List.flatten ([(oX4 (p0a 0) p0a p0k w8 p0l), (oX6 (p1a 0) p1a p1k p1w p1l)] : List va_W))) := vD_fa (vD_perm hD (bP (List.Perm.refl _)))
        have hKx : va_K (dC, dI) cls ((List.flatten ([] : List (List (ClassId × FieldType)))) ++ (List.flatten ([(tX4 p0k), (tX6 p1k)] : List (List (ClassId × FieldType))))) s := vK_fa (vK_perm hK (bP (List.Perm.refl _)))
        have hPc := vP_l hPx
        have hDc := vD_l hDx
        have hKc := vK_l hKx
        have hFc := vfree hDx hS hA
        refine va_calli (va_runSN (As := [.int (p1w 9 (nn v4_10))]) (rest := []) ⟨hx, hb, hml, hown, hts⟩ (kX11_usesRight l dC dI (p0 := (p1w 9 (nn v4_10))) (sz := _) (o := o_9) (hrun := hc_9)) ⟨(va_cnB 1 hts (gi_z qw351) rfl rfl rfl (hE.nw (List.mem_append_right _ (tbl_5 (i := 201) rfl)) rfl) (hts _ qw129) (by decide +kernel) ⟨Nat.le_of_ble_eq_true rfl, Nat.le_of_ble_eq_true rfl⟩), (hts _ qw352), trivial⟩ ⟨PRE.blind, PRE.of hE hS hFc hPc hKc hDc⟩ rfl rfl hl.1 rfl (lv_room (Nat.le_of_ble_eq_true rfl)) dX4_linkOperands_48 ⟨(Nat.le_of_ble_eq_true rfl), (Nat.le_of_ble_eq_true rfl)⟩) hS (fun q _ h => hFc q h) hFc (fun r10 u t H locs ht hvm hw hB hz1 hk1 hS => ?_)
        obtain ⟨b1, b2, b3⟩ := hB
        rw [ht] at b1
        obtain ⟨hP, hD, hK⟩ := JOINC (wc := (List.flatten ([] : List va_W))) (wr := (List.flatten ([(oX4 (p0a 0) p0a p0k w8 p0l), (oX6 (p1a 0) p1a p1k p1w p1l)] : List va_W))) (w1 := (List.flatten ([] : List va_W))) (t1 := (List.flatten ([] : List (List (ClassId × FieldType))))) hPx hDx hKx hk1 hFc b1 (va_K.moved hvm.symm b2) b3
        have hP : va_P (dC, dI) cls (List.flatten ([(oX4 (p0a 0) p0a p0k w8 p0l), (oX6 (p1a 0) p1a p1k p1w p1l)] : List va_W)) H := vP_perm (vP_fb hP) (bP (List.Perm.refl _))
        have hD : va_D A (List.flatten ([(oX4 (p0a 0) p0a p0k w8 p0l), (oX6 (p1a 0) p1a p1k p1w p1l)] : List va_W)) := vD_perm (vD_fb hD) (bP (List.Perm.refl _))
        have hK : va_K (dC, dI) cls (List.flatten ([(tX4 p0k), (tX6 p1k)] : List (List (ClassId × FieldType)))) s := vK_perm (vK_fb hK) (bP (List.Perm.refl _))
        obtain rfl : o_9 = r10 := hw.symm
        have J192 : ∀ (v3_192 : Int32) (p0w_192 : ST) (H : Heap) (locs : List Loc) (ls : Array Slot), (fX4_linkOperands_J192 (fX4_linkOperands_L10 p1w p2 n_10) p1w v4_10 v3_192 p0w_192) = some o10 → va_P (dC, dI) cls (List.flatten ([(oX4 (p0a 0) p0a p0k p0w_192 p0l), (oX6 (p1a 0) p1a p1k p1w p1l)] : List va_W)) H → va_D A (List.flatten ([(oX4 (p0a 0) p0a p0k p0w_192 p0l), (oX6 (p1a 0) p1a p1k p1w p1l)] : List va_W)) → va_K (dC, dI) cls (List.flatten ([(tX4 p0k), (tX6 p1k)] : List (List (ClassId × FieldType)))) s → va_S A s.heap H locs → lv_has ls 6 [(0, .ref (p0a 0)), (1, .ref (p1a 0)), (2, .int p2), (3, .int v3_192), (4, .int v4_10), (5, .int (p1w 9 (nn v4_10)))] → W p l e ({ frames := 2, cells := 0, slots := 0, locals := 40 } : Room) s m ([.ref (p0a 0), .ref (p1a 0), .int p2] : List Value).toArray below meth c H locs 0 0 Q (F0 m 192 ls []) := by
          intro v3_192 p0w_192 H locs ls hrun hP hD hK hS hl 
          unfold fX4_linkOperands_J192 at hrun
          refine lv_iload_n hx hb dX4_linkOperands_192 rfl (lv_at hl 3 rfl) ?_
          refine lv_iconst (v := 0) hx hb dX4_linkOperands_193 (by decide) ?_
          refine va_mmax hx hb (hml.trans hl.1.symm) hown (hts _ qw358) (hts _ qw359) (hts _ qw100) (hts _ qw360) (Nat.le_of_ble_eq_true rfl) (Nat.le_of_ble_eq_true rfl) (Nat.le_of_ble_eq_true rfl) (Nat.le_of_ble_eq_true rfl) dX4_linkOperands_194 ?_
          refine lv_istore_n (lv' := [(3, .int (if v3_192 < 0 then 0 else v3_192)), (0, .ref (p0a 0)), (1, .ref (p1a 0)), (2, .int p2), (4, .int v4_10), (5, .int (p1w 9 (nn v4_10)))]) hx hb dX4_linkOperands_197 rfl hl (by decide) rfl (fun ls hl => ?_)
          refine lv_iload hx hb dX4_linkOperands_198 (lv_at hl 5 rfl) ?_
          obtain ⟨o_11, hc_11, hrun⟩ := bnd9 hrun
          have hPx : va_P (dC, dI) cls ((List.flatten ([] : List va_W)) ++ (List.flatten ([(oX4 (p0a 0) p0a p0k p0w_192 p0l), (oX6 (p1a 0) p1a p1k p1w p1l)] : List va_W))) H := vP_fa (vP_perm hP (bP (List.Perm.refl _)))
          have hDx : va_D A ((List.flatten ([] : List va_W)) ++ (List.flatten ([(oX4 (p0a 0) p0a p0k p0w_192 p0l), (oX6 (p1a 0) p1a p1k p1w p1l)] : List va_W))) := vD_fa (vD_perm hD (bP (List.Perm.refl _)))
          have hKx : va_K (dC, dI) cls ((List.flatten ([] : List (List (ClassId × FieldType)))) ++ (List.flatten ([(tX4 p0k), (tX6 p1k)] : List (List (ClassId × FieldType))))) s := vK_fa (vK_perm hK (bP (List.Perm.refl _)))
          have hPc := vP_l hPx
          have hDc := vD_l hDx
          have hKc := vK_l hKx
          have hFc := vfree hDx hS hA
          refine va_calli (va_runSN (As := [.int (p1w 9 (nn v4_10))]) (rest := []) ⟨hx, hb, hml, hown, hts⟩ (kX11_isOperator l dC dI (p0 := (p1w 9 (nn v4_10))) (sz := _) (o := o_11) (hrun := hc_11)) ⟨(va_cnB 1 hts (gi_z qw348) rfl rfl rfl (hE.nw (List.mem_append_right _ (tbl_5 (i := 215) rfl)) rfl) (hts _ qw129) (by decide +kernel) ⟨Nat.le_of_ble_eq_true rfl, Nat.le_of_ble_eq_true rfl⟩), (hts _ qw350), trivial⟩ ⟨PRE.blind, PRE.of hE hS hFc hPc hKc hDc⟩ rfl rfl hl.1 rfl (lv_room (Nat.le_of_ble_eq_true rfl)) dX4_linkOperands_200 ⟨(Nat.le_of_ble_eq_true rfl), (Nat.le_of_ble_eq_true rfl)⟩) hS (fun q _ h => hFc q h) hFc (fun r12 u t H locs ht hvm hw hB hz1 hk1 hS => ?_)
          obtain ⟨b1, b2, b3⟩ := hB
          rw [ht] at b1
          obtain ⟨hP, hD, hK⟩ := JOINC (wc := (List.flatten ([] : List va_W))) (wr := (List.flatten ([(oX4 (p0a 0) p0a p0k p0w_192 p0l), (oX6 (p1a 0) p1a p1k p1w p1l)] : List va_W))) (w1 := (List.flatten ([] : List va_W))) (t1 := (List.flatten ([] : List (List (ClassId × FieldType))))) hPx hDx hKx hk1 hFc b1 (va_K.moved hvm.symm b2) b3
          have hP : va_P (dC, dI) cls (List.flatten ([(oX4 (p0a 0) p0a p0k p0w_192 p0l), (oX6 (p1a 0) p1a p1k p1w p1l)] : List va_W)) H := vP_perm (vP_fb hP) (bP (List.Perm.refl _))
          have hD : va_D A (List.flatten ([(oX4 (p0a 0) p0a p0k p0w_192 p0l), (oX6 (p1a 0) p1a p1k p1w p1l)] : List va_W)) := vD_perm (vD_fb hD) (bP (List.Perm.refl _))
          have hK : va_K (dC, dI) cls (List.flatten ([(tX4 p0k), (tX6 p1k)] : List (List (ClassId × FieldType)))) s := vK_perm (vK_fb hK) (bP (List.Perm.refl _))
          obtain rfl : o_11 = r12 := hw.symm
          have J250 : ∀ (v3_250 : Int32) (p0w_250 : ST) (H : Heap) (locs : List Loc) (ls : Array Slot), (fX4_linkOperands_J250 (fX4_linkOperands_L10 p1w p2 n_10) v4_10 v3_250 p0w_250) = some o10 → va_P (dC, dI) cls (List.flatten ([(oX4 (p0a 0) p0a p0k p0w_250 p0l), (oX6 (p1a 0) p1a p1k p1w p1l)] : List va_W)) H → va_D A (List.flatten ([(oX4 (p0a 0) p0a p0k p0w_250 p0l), (oX6 (p1a 0) p1a p1k p1w p1l)] : List va_W)) → va_K (dC, dI) cls (List.flatten ([(tX4 p0k), (tX6 p1k)] : List (List (ClassId × FieldType)))) s → va_S A s.heap H locs → lv_has ls 6 [(0, .ref (p0a 0)), (1, .ref (p1a 0)), (2, .int p2), (3, .int v3_250), (4, .int v4_10)] → W p l e ({ frames := 2, cells := 0, slots := 0, locals := 40 } : Room) s m ([.ref (p0a 0), .ref (p1a 0), .int p2] : List Value).toArray below meth c H locs 0 0 Q (F0 m 250 ls []) := by
            intro v3_250 p0w_250 H locs ls hrun hP hD hK hS hl 
            unfold fX4_linkOperands_J250 at hrun
            refine lv_iinc (v := (v4_10 + 1)) (lv' := [(4, .int (v4_10 + 1)), (0, .ref (p0a 0)), (1, .ref (p1a 0)), (2, .int p2), (3, .int v3_250)]) hx hb dX4_linkOperands_250 hl (k := 4) rfl rfl (by decide) rfl (fun ls hl => ?_)
            refine lv_goto (tgt := 10) hx hb dX4_linkOperands_253 (by decide) ?_
            exact IH10 v3_250 (v4_10 + 1) p0w_250 o10 _ _ _ hrun hP hD hK hS (lv_sub hl [1, 2, 3, 4, 0] rfl) hk10
          have J232 : ∀ (H : Heap) (locs : List Loc) (ls : Array Slot), (fX4_linkOperands_J232 (fX4_linkOperands_L10 p1w p2 n_10) v4_10 v3_192 p0w_192) = some o10 → va_P (dC, dI) cls (List.flatten ([(oX4 (p0a 0) p0a p0k p0w_192 p0l), (oX6 (p1a 0) p1a p1k p1w p1l)] : List va_W)) H → va_D A (List.flatten ([(oX4 (p0a 0) p0a p0k p0w_192 p0l), (oX6 (p1a 0) p1a p1k p1w p1l)] : List va_W)) → va_K (dC, dI) cls (List.flatten ([(tX4 p0k), (tX6 p1k)] : List (List (ClassId × FieldType)))) s → va_S A s.heap H locs → lv_has ls 6 [(0, .ref (p0a 0)), (1, .ref (p1a 0)), (2, .int p2), (3, .int (if v3_192 < 0 then 0 else v3_192)), (4, .int v4_10)] → W p l e ({ frames := 2, cells := 0, slots := 0, locals := 40 } : Room) s m ([.ref (p0a 0), .ref (p1a 0), .int p2] : List Value).toArray below meth c H locs 0 0 Q (F0 m 232 ls []) := by
            intro  H locs ls hrun hP hD hK hS hl 
            unfold fX4_linkOperands_J232 at hrun
            refine lv_iload_n hx hb dX4_linkOperands_232 rfl (lv_at hl 3 rfl) ?_
            refine lv_sipush (v := 512) hx hb dX4_linkOperands_233 (by decide) ?_
            rcases br9 hrun with ⟨hc13, hrun⟩ | ⟨hc13, hrun⟩
            · refine lv_icmp_ge (tgt := 250) hx hb dX4_linkOperands_236 (by decide) (fun _ => ?_) (fun c => absurd hc13 c)
              exact J250 (if v3_192 < 0 then 0 else v3_192) p0w_192 _ _ _ hrun hP hD hK hS (lv_sub hl [0, 1, 2, 3, 4] rfl)
            · refine lv_icmp_ge (tgt := 250) hx hb dX4_linkOperands_236 (by decide) (fun c => absurd c hc13) (fun _ => ?_)
              refine lv_aload_n hx hb dX4_linkOperands_239 rfl (lv_at hl 0 rfl) ?_
              refine va_get (D := (dC, dI)) (ci := 6) (v := .ref (p0a 5)) (C := RX4) (T := TX4) (N := 20) hx hb hts i_X4 hown hK hP 0 rfl rfl 4 (by decide) (hts _ qw353) (fun _ h9 => h9) rfl dX4_linkOperands_240 ?_
              refine lv_iload_n hx hb dX4_linkOperands_243 rfl (lv_at hl 3 rfl) ?_
              refine lv_iload hx hb dX4_linkOperands_244 (lv_at hl 4 rfl) ?_
              obtain ⟨hq14, hrun⟩ := chk9 hrun
              refine va_iast hx hb hK hP hD hS 4 3 rfl rfl (ixb_in hq14) dX4_linkOperands_246 (fun H locs hP hD hS => ?_)
              have hP : va_P (dC, dI) cls (List.flatten ([(oX4 (p0a 0) p0a p0k (upw p0w_192 5 (nn (if v3_192 < 0 then 0 else v3_192)) v4_10) p0l), (oX6 (p1a 0) p1a p1k p1w p1l)] : List va_W)) H := hP
              have hD : va_D A (List.flatten ([(oX4 (p0a 0) p0a p0k (upw p0w_192 5 (nn (if v3_192 < 0 then 0 else v3_192)) v4_10) p0l), (oX6 (p1a 0) p1a p1k p1w p1l)] : List va_W)) := hD
              obtain ⟨w15, ew15, hrun⟩ := let9 hrun
              rw [← ew15] at hP hD
              refine lv_iinc (v := ((if v3_192 < 0 then 0 else v3_192) + 1)) (lv' := [(3, .int ((if v3_192 < 0 then 0 else v3_192) + 1)), (0, .ref (p0a 0)), (1, .ref (p1a 0)), (2, .int p2), (4, .int v4_10)]) hx hb dX4_linkOperands_247 hl (k := 3) rfl rfl (by decide) rfl (fun ls hl => ?_)
              exact J250 ((if v3_192 < 0 then 0 else v3_192) + 1) w15 _ _ _ hrun hP hD hK hS (lv_sub hl [1, 2, 3, 0, 4] rfl)
          rcases br9 hrun with ⟨hc16, hrun⟩ | ⟨hc16, hrun⟩
          · refine lv_if_ne (tgt := 232) hx hb dX4_linkOperands_203 (by decide) (fun c => absurd hc16 c) (fun _ => ?_)
            refine lv_iload hx hb dX4_linkOperands_206 (lv_at hl 5 rfl) ?_
            rcases br9 hrun with ⟨hc17, hrun⟩ | ⟨hc17, hrun⟩
            · refine lv_if_eq (tgt := 232) hx hb dX4_linkOperands_208 (by decide) (fun _ => ?_) (fun c => absurd hc17 c)
              exact J232 _ _ _ hrun hP hD hK hS (lv_sub hl [1, 2, 3, 0, 4] rfl)
            · refine lv_if_eq (tgt := 232) hx hb dX4_linkOperands_208 (by decide) (fun c => absurd c hc17) (fun _ => ?_)
              refine lv_iload hx hb dX4_linkOperands_211 (lv_at hl 5 rfl) ?_
              refine lv_bipush (v := 17) hx hb dX4_linkOperands_213 (by decide) ?_
              rcases br9 hrun with ⟨hc18, hrun⟩ | ⟨hc18, hrun⟩
              · refine lv_icmp_eq (tgt := 232) hx hb dX4_linkOperands_215 (by decide) (fun _ => ?_) (fun c => absurd hc18 c)
                exact J232 _ _ _ hrun hP hD hK hS (lv_sub hl [1, 2, 3, 0, 4] rfl)
              · refine lv_icmp_eq (tgt := 232) hx hb dX4_linkOperands_215 (by decide) (fun c => absurd c hc18) (fun _ => ?_)
                refine lv_iload hx hb dX4_linkOperands_218 (lv_at hl 5 rfl) ?_
                refine lv_bipush (v := 20) hx hb dX4_linkOperands_220 (by decide) ?_
                rcases br9 hrun with ⟨hc19, hrun⟩ | ⟨hc19, hrun⟩
                · refine lv_icmp_eq (tgt := 232) hx hb dX4_linkOperands_222 (by decide) (fun _ => ?_) (fun c => absurd hc19 c)
                  exact J232 _ _ _ hrun hP hD hK hS (lv_sub hl [1, 2, 3, 0, 4] rfl)
                · refine lv_icmp_eq (tgt := 232) hx hb dX4_linkOperands_222 (by decide) (fun c => absurd c hc19) (fun _ => ?_)
                  refine lv_iload hx hb dX4_linkOperands_225 (lv_at hl 5 rfl) ?_
                  refine lv_bipush (v := 30) hx hb dX4_linkOperands_227 (by decide) ?_
                  rcases br9 hrun with ⟨hc20, hrun⟩ | ⟨hc20, hrun⟩
                  · refine lv_icmp_ne (tgt := 250) hx hb dX4_linkOperands_229 (by decide) (fun c => absurd hc20 c) (fun _ => ?_)
                    exact J232 _ _ _ hrun hP hD hK hS (lv_sub hl [1, 2, 3, 0, 4] rfl)
                  · refine lv_icmp_ne (tgt := 250) hx hb dX4_linkOperands_229 (by decide) (fun _ => ?_) (fun c => absurd c hc20)
                    exact J250 (if v3_192 < 0 then 0 else v3_192) p0w_192 _ _ _ hrun hP hD hK hS (lv_sub hl [1, 2, 3, 0, 4] rfl)
          · refine lv_if_ne (tgt := 232) hx hb dX4_linkOperands_203 (by decide) (fun _ => ?_) (fun c => absurd c hc16)
            exact J232 _ _ _ hrun hP hD hK hS (lv_sub hl [1, 2, 3, 0, 4] rfl)
        rcases br9 hrun with ⟨hc21, hrun⟩ | ⟨hc21, hrun⟩
        · refine lv_if_eq (tgt := 88) hx hb dX4_linkOperands_51 (by decide) (fun _ => ?_) (fun c => absurd hc21 c)
          refine lv_iload hx hb dX4_linkOperands_88 (lv_at hl 0 rfl) ?_
          refine lv_bipush (v := 19) hx hb dX4_linkOperands_90 (by decide) ?_
          rcases br9 hrun with ⟨hc22, hrun⟩ | ⟨hc22, hrun⟩
          · refine lv_icmp_ne (tgt := 118) hx hb dX4_linkOperands_92 (by decide) (fun c => absurd hc22 c) (fun _ => ?_)
            refine lv_aload_n hx hb dX4_linkOperands_95 rfl (lv_at hl 1 rfl) ?_
            refine va_get (D := (dC, dI)) (ci := 6) (v := .ref (p0a 2)) (C := RX4) (T := TX4) (N := 20) hx hb hts i_X4 hown hK hP 0 rfl rfl 1 (by decide) (hts _ qw296) (fun _ h9 => h9) rfl dX4_linkOperands_96 ?_
            refine lv_iload hx hb dX4_linkOperands_99 (lv_at hl 5 rfl) ?_
            refine lv_aload_n hx hb dX4_linkOperands_101 rfl (lv_at hl 1 rfl) ?_
            refine lv_iload_n hx hb dX4_linkOperands_102 rfl (lv_at hl 4 rfl) ?_
            refine lv_aload_n hx hb dX4_linkOperands_103 rfl (lv_at hl 2 rfl) ?_
            refine va_get (D := (dC, dI)) (ci := 2) (v := .ref (p1a 10)) (C := RX6) (T := TX6) (N := 13) hx hb hts i_X6 hown hK hP 19 rfl rfl 9 (by decide) (hts _ qw265) (fun _ h9 => h9) rfl dX4_linkOperands_104 ?_
            refine lv_iload hx hb dX4_linkOperands_107 (lv_at hl 5 rfl) ?_
            obtain ⟨hq23, hrun⟩ := chk9 hrun
            refine va_iald hx hb hK hP 27 25 rfl rfl (ixb_in hq23) dX4_linkOperands_109 ?_
            refine lv_isub hx hb dX4_linkOperands_110 ?_
            obtain ⟨o_24, hc_24, hrun⟩ := bnd9 hrun
            have hPx : va_P (dC, dI) cls ((List.flatten ([(oX4 (p0a 0) p0a p0k w8 p0l)] : List va_W)) ++ (List.flatten ([(oX6 (p1a 0) p1a p1k p1w p1l)] : List va_W))) H := vP_fa (vP_perm hP (bP (List.Perm.refl _)))
            have hDx : va_D A ((List.flatten ([(oX4 (p0a 0) p0a p0k w8 p0l)] : List va_W)) ++ (List.flatten ([(oX6 (p1a 0) p1a p1k p1w p1l)] : List va_W))) := vD_fa (vD_perm hD (bP (List.Perm.refl _)))
            have hKx : va_K (dC, dI) cls ((List.flatten ([(tX4 p0k)] : List (List (ClassId × FieldType)))) ++ (List.flatten ([(tX6 p1k)] : List (List (ClassId × FieldType))))) s := vK_fa (vK_perm hK (bP (List.Perm.refl _)))
            have hPc := vP_l hPx
            have hDc := vD_l hDx
            have hKc := vK_l hKx
            have hFc := vfree hDx hS hA
            refine va_calli (va_runV (As := [.int (v3_10 - (p1w 10 (nn v4_10)))]) (rest := [.int v4_10, .ref (p0a 2)]) ⟨hx, hb, hml, hown, hts⟩ (kX4_waitingAt l dC dI (p0a := p0a) (p0k := p0k) (p0w := w8) (p0l := p0l) (p1 := (v3_10 - (p1w 10 (nn v4_10)))) (sz := _) (o := o_24) (hrun := hc_24)) (cwV 1 hts (gi_V qw355 qw356 qw357 qw270 (gi_z qw354)) rfl rfl rfl (by decide +kernel) ⟨Nat.le_of_ble_eq_true rfl, Nat.le_of_ble_eq_true rfl⟩) ⟨PRE.blind, va_recv hKc hPc (ci := 6) (q0 := 0) rfl rfl, PRE.of hE hS hFc hPc hKc hDc⟩ rfl rfl hl.1 rfl (lv_room (Nat.le_of_ble_eq_true rfl)) dX4_linkOperands_111 ⟨(Nat.le_of_ble_eq_true rfl), (Nat.le_of_ble_eq_true rfl)⟩) hS (fun q _ h => hFc q h) hFc (fun r25 u t H locs ht hvm hw hB hz1 hk1 hS => ?_)
            obtain ⟨b1, b2, b3⟩ := hB
            rw [ht] at b1
            obtain ⟨hP, hD, hK⟩ := JOINC (wc := (List.flatten ([(oX4 (p0a 0) p0a p0k w8 p0l)] : List va_W))) (wr := (List.flatten ([(oX6 (p1a 0) p1a p1k p1w p1l)] : List va_W))) (w1 := (List.flatten ([(oX4 (p0a 0) p0a p0k w8 p0l)] : List va_W))) (t1 := (List.flatten ([(tX4 p0k)] : List (List (ClassId × FieldType))))) hPx hDx hKx hk1 hFc b1 (va_K.moved hvm.symm b2) b3
            have hP : va_P (dC, dI) cls (List.flatten ([(oX4 (p0a 0) p0a p0k w8 p0l), (oX6 (p1a 0) p1a p1k p1w p1l)] : List va_W)) H := vP_perm (vP_fb hP) (bP (List.Perm.refl _))
            have hD : va_D A (List.flatten ([(oX4 (p0a 0) p0a p0k w8 p0l), (oX6 (p1a 0) p1a p1k p1w p1l)] : List va_W)) := vD_perm (vD_fb hD) (bP (List.Perm.refl _))
            have hK : va_K (dC, dI) cls (List.flatten ([(tX4 p0k), (tX6 p1k)] : List (List (ClassId × FieldType)))) s := vK_perm (vK_fb hK) (bP (List.Perm.refl _))
            obtain rfl : o_24 = r25 := hw.symm
            obtain ⟨hq26, hrun⟩ := chk9 hrun
            refine va_iast hx hb hK hP hD hS 1 0 rfl rfl (ixb_in hq26) dX4_linkOperands_114 (fun H locs hP hD hS => ?_)
            have hP : va_P (dC, dI) cls (List.flatten ([(oX4 (p0a 0) p0a p0k (upw w8 2 (nn v4_10) o_24) p0l), (oX6 (p1a 0) p1a p1k p1w p1l)] : List va_W)) H := hP
            have hD : va_D A (List.flatten ([(oX4 (p0a 0) p0a p0k (upw w8 2 (nn v4_10) o_24) p0l), (oX6 (p1a 0) p1a p1k p1w p1l)] : List va_W)) := hD
            obtain ⟨w27, ew27, hrun⟩ := let9 hrun
            rw [← ew27] at hP hD
            refine lv_goto (tgt := 192) hx hb dX4_linkOperands_115 (by decide) ?_
            exact J192 v3_10 w27 _ _ _ hrun hP hD hK hS (lv_sub hl [1, 2, 3, 4, 5, 0] rfl)
          · refine lv_icmp_ne (tgt := 118) hx hb dX4_linkOperands_92 (by decide) (fun _ => ?_) (fun c => absurd c hc22)
            refine lv_iload hx hb dX4_linkOperands_118 (lv_at hl 0 rfl) ?_
            refine lv_bipush (v := 32) hx hb dX4_linkOperands_120 (by decide) ?_
            rcases br9 hrun with ⟨hc28, hrun⟩ | ⟨hc28, hrun⟩
            · refine lv_icmp_ne (tgt := 142) hx hb dX4_linkOperands_122 (by decide) (fun c => absurd hc28 c) (fun _ => ?_)
              refine lv_aload_n hx hb dX4_linkOperands_125 rfl (lv_at hl 1 rfl) ?_
              refine va_get (D := (dC, dI)) (ci := 6) (v := .ref (p0a 2)) (C := RX4) (T := TX4) (N := 20) hx hb hts i_X4 hown hK hP 0 rfl rfl 1 (by decide) (hts _ qw296) (fun _ h9 => h9) rfl dX4_linkOperands_126 ?_
              refine lv_iload hx hb dX4_linkOperands_129 (lv_at hl 5 rfl) ?_
              refine lv_aload_n hx hb dX4_linkOperands_131 rfl (lv_at hl 1 rfl) ?_
              refine lv_iload_n hx hb dX4_linkOperands_132 rfl (lv_at hl 4 rfl) ?_
              refine lv_iconst (v := 1) hx hb dX4_linkOperands_133 (by decide) ?_
              refine lv_isub hx hb dX4_linkOperands_134 ?_
              obtain ⟨o_29, hc_29, hrun⟩ := bnd9 hrun
              have hPx : va_P (dC, dI) cls ((List.flatten ([(oX4 (p0a 0) p0a p0k w8 p0l)] : List va_W)) ++ (List.flatten ([(oX6 (p1a 0) p1a p1k p1w p1l)] : List va_W))) H := vP_fa (vP_perm hP (bP (List.Perm.refl _)))
              have hDx : va_D A ((List.flatten ([(oX4 (p0a 0) p0a p0k w8 p0l)] : List va_W)) ++ (List.flatten ([(oX6 (p1a 0) p1a p1k p1w p1l)] : List va_W))) := vD_fa (vD_perm hD (bP (List.Perm.refl _)))
              have hKx : va_K (dC, dI) cls ((List.flatten ([(tX4 p0k)] : List (List (ClassId × FieldType)))) ++ (List.flatten ([(tX6 p1k)] : List (List (ClassId × FieldType))))) s := vK_fa (vK_perm hK (bP (List.Perm.refl _)))
              have hPc := vP_l hPx
              have hDc := vD_l hDx
              have hKc := vK_l hKx
              have hFc := vfree hDx hS hA
              refine va_calli (va_runV (As := [.int (v3_10 - 1)]) (rest := [.int v4_10, .ref (p0a 2)]) ⟨hx, hb, hml, hown, hts⟩ (kX4_waitingAt l dC dI (p0a := p0a) (p0k := p0k) (p0w := w8) (p0l := p0l) (p1 := (v3_10 - 1)) (sz := _) (o := o_29) (hrun := hc_29)) (cwV 1 hts (gi_V qw355 qw356 qw357 qw270 (gi_z qw354)) rfl rfl rfl (by decide +kernel) ⟨Nat.le_of_ble_eq_true rfl, Nat.le_of_ble_eq_true rfl⟩) ⟨PRE.blind, va_recv hKc hPc (ci := 6) (q0 := 0) rfl rfl, PRE.of hE hS hFc hPc hKc hDc⟩ rfl rfl hl.1 rfl (lv_room (Nat.le_of_ble_eq_true rfl)) dX4_linkOperands_135 ⟨(Nat.le_of_ble_eq_true rfl), (Nat.le_of_ble_eq_true rfl)⟩) hS (fun q _ h => hFc q h) hFc (fun r30 u t H locs ht hvm hw hB hz1 hk1 hS => ?_)
              obtain ⟨b1, b2, b3⟩ := hB
              rw [ht] at b1
              obtain ⟨hP, hD, hK⟩ := JOINC (wc := (List.flatten ([(oX4 (p0a 0) p0a p0k w8 p0l)] : List va_W))) (wr := (List.flatten ([(oX6 (p1a 0) p1a p1k p1w p1l)] : List va_W))) (w1 := (List.flatten ([(oX4 (p0a 0) p0a p0k w8 p0l)] : List va_W))) (t1 := (List.flatten ([(tX4 p0k)] : List (List (ClassId × FieldType))))) hPx hDx hKx hk1 hFc b1 (va_K.moved hvm.symm b2) b3
              have hP : va_P (dC, dI) cls (List.flatten ([(oX4 (p0a 0) p0a p0k w8 p0l), (oX6 (p1a 0) p1a p1k p1w p1l)] : List va_W)) H := vP_perm (vP_fb hP) (bP (List.Perm.refl _))
              have hD : va_D A (List.flatten ([(oX4 (p0a 0) p0a p0k w8 p0l), (oX6 (p1a 0) p1a p1k p1w p1l)] : List va_W)) := vD_perm (vD_fb hD) (bP (List.Perm.refl _))
              have hK : va_K (dC, dI) cls (List.flatten ([(tX4 p0k), (tX6 p1k)] : List (List (ClassId × FieldType)))) s := vK_perm (vK_fb hK) (bP (List.Perm.refl _))
              obtain rfl : o_29 = r30 := hw.symm
              obtain ⟨hq31, hrun⟩ := chk9 hrun
              refine va_iast hx hb hK hP hD hS 1 0 rfl rfl (ixb_in hq31) dX4_linkOperands_138 (fun H locs hP hD hS => ?_)
              have hP : va_P (dC, dI) cls (List.flatten ([(oX4 (p0a 0) p0a p0k (upw w8 2 (nn v4_10) o_29) p0l), (oX6 (p1a 0) p1a p1k p1w p1l)] : List va_W)) H := hP
              have hD : va_D A (List.flatten ([(oX4 (p0a 0) p0a p0k (upw w8 2 (nn v4_10) o_29) p0l), (oX6 (p1a 0) p1a p1k p1w p1l)] : List va_W)) := hD
              obtain ⟨w32, ew32, hrun⟩ := let9 hrun
              rw [← ew32] at hP hD
              refine lv_goto (tgt := 192) hx hb dX4_linkOperands_139 (by decide) ?_
              exact J192 v3_10 w32 _ _ _ hrun hP hD hK hS (lv_sub hl [1, 2, 3, 4, 5, 0] rfl)
            · refine lv_icmp_ne (tgt := 142) hx hb dX4_linkOperands_122 (by decide) (fun _ => ?_) (fun c => absurd c hc28)
              refine lv_iload hx hb dX4_linkOperands_142 (lv_at hl 0 rfl) ?_
              obtain ⟨o_33, hc_33, hrun⟩ := bnd9 hrun
              have hPx : va_P (dC, dI) cls ((List.flatten ([] : List va_W)) ++ (List.flatten ([(oX4 (p0a 0) p0a p0k w8 p0l), (oX6 (p1a 0) p1a p1k p1w p1l)] : List va_W))) H := vP_fa (vP_perm hP (bP (List.Perm.refl _)))
              have hDx : va_D A ((List.flatten ([] : List va_W)) ++ (List.flatten ([(oX4 (p0a 0) p0a p0k w8 p0l), (oX6 (p1a 0) p1a p1k p1w p1l)] : List va_W))) := vD_fa (vD_perm hD (bP (List.Perm.refl _)))
              have hKx : va_K (dC, dI) cls ((List.flatten ([] : List (List (ClassId × FieldType)))) ++ (List.flatten ([(tX4 p0k), (tX6 p1k)] : List (List (ClassId × FieldType))))) s := vK_fa (vK_perm hK (bP (List.Perm.refl _)))
              have hPc := vP_l hPx
              have hDc := vD_l hDx
              have hKc := vK_l hKx
              have hFc := vfree hDx hS hA
              refine va_calli (va_runS (As := [.int (p1w 9 (nn v4_10))]) (rest := []) ⟨hx, hb, hml, hown, hts⟩ (kX4_takesOne l dC dI (p0 := (p1w 9 (nn v4_10))) (sz := _) (o := o_33) (hrun := hc_33)) (va_cwS 1 hts (gi_S qw362 qw363 qw270 (gi_z qw361)) rfl rfl rfl (by decide +kernel) ⟨Nat.le_of_ble_eq_true rfl, Nat.le_of_ble_eq_true rfl⟩) ⟨PRE.blind, PRE.of hE hS hFc hPc hKc hDc⟩ rfl rfl hl.1 rfl (lv_room (Nat.le_of_ble_eq_true rfl)) dX4_linkOperands_144 ⟨(Nat.le_of_ble_eq_true rfl), (Nat.le_of_ble_eq_true rfl)⟩) hS (fun q _ h => hFc q h) hFc (fun r34 u t H locs ht hvm hw hB hz1 hk1 hS => ?_)
              obtain ⟨b1, b2, b3⟩ := hB
              rw [ht] at b1
              obtain ⟨hP, hD, hK⟩ := JOINC (wc := (List.flatten ([] : List va_W))) (wr := (List.flatten ([(oX4 (p0a 0) p0a p0k w8 p0l), (oX6 (p1a 0) p1a p1k p1w p1l)] : List va_W))) (w1 := (List.flatten ([] : List va_W))) (t1 := (List.flatten ([] : List (List (ClassId × FieldType))))) hPx hDx hKx hk1 hFc b1 (va_K.moved hvm.symm b2) b3
              have hP : va_P (dC, dI) cls (List.flatten ([(oX4 (p0a 0) p0a p0k w8 p0l), (oX6 (p1a 0) p1a p1k p1w p1l)] : List va_W)) H := vP_perm (vP_fb hP) (bP (List.Perm.refl _))
              have hD : va_D A (List.flatten ([(oX4 (p0a 0) p0a p0k w8 p0l), (oX6 (p1a 0) p1a p1k p1w p1l)] : List va_W)) := vD_perm (vD_fb hD) (bP (List.Perm.refl _))
              have hK : va_K (dC, dI) cls (List.flatten ([(tX4 p0k), (tX6 p1k)] : List (List (ClassId × FieldType)))) s := vK_perm (vK_fb hK) (bP (List.Perm.refl _))
              obtain rfl : o_33 = r34 := hw.symm
              rcases br9 hrun with ⟨hc35, hrun⟩ | ⟨hc35, hrun⟩
              · refine lv_if_eq (tgt := 170) hx hb dX4_linkOperands_147 (by decide) (fun _ => ?_) (fun c => absurd hc35 c)
                refine lv_iload hx hb dX4_linkOperands_170 (lv_at hl 0 rfl) ?_
                refine lv_bipush (v := 20) hx hb dX4_linkOperands_172 (by decide) ?_
                rcases br9 hrun with ⟨hc36, hrun⟩ | ⟨hc36, hrun⟩
                · refine lv_icmp_ne (tgt := 192) hx hb dX4_linkOperands_174 (by decide) (fun c => absurd hc36 c) (fun _ => ?_)
                  refine lv_iload_n hx hb dX4_linkOperands_177 rfl (lv_at hl 4 rfl) ?_
                  refine lv_aload_n hx hb dX4_linkOperands_178 rfl (lv_at hl 2 rfl) ?_
                  refine va_get (D := (dC, dI)) (ci := 2) (v := .ref (p1a 4)) (C := RX6) (T := TX6) (N := 13) hx hb hts i_X6 hown hK hP 19 rfl rfl 3 (by decide) (hts _ qw364) (fun _ h9 => h9) rfl dX4_linkOperands_179 ?_
                  refine lv_aload_n hx hb dX4_linkOperands_182 rfl (lv_at hl 2 rfl) ?_
                  refine va_get (D := (dC, dI)) (ci := 2) (v := .ref (p1a 10)) (C := RX6) (T := TX6) (N := 13) hx hb hts i_X6 hown hK hP 19 rfl rfl 9 (by decide) (hts _ qw265) (fun _ h9 => h9) rfl dX4_linkOperands_183 ?_
                  refine lv_iload hx hb dX4_linkOperands_186 (lv_at hl 5 rfl) ?_
                  obtain ⟨hq37, hrun⟩ := chk9 hrun
                  refine va_iald hx hb hK hP 27 25 rfl rfl (ixb_in hq37) dX4_linkOperands_188 ?_
                  obtain ⟨hq38, hrun⟩ := chk9 hrun
                  refine va_iald hx hb hK hP 22 20 rfl rfl (ixb_in hq38) dX4_linkOperands_189 ?_
                  refine lv_isub hx hb dX4_linkOperands_190 ?_
                  refine lv_istore_n (lv' := [(3, .int (v3_10 - (p1w 4 (nn (p1w 10 (nn v4_10)))))), (5, .int (p1w 9 (nn v4_10))), (0, .ref (p0a 0)), (1, .ref (p1a 0)), (2, .int p2), (4, .int v4_10)]) hx hb dX4_linkOperands_191 rfl hl (by decide) rfl (fun ls hl => ?_)
                  exact J192 (v3_10 - (p1w 4 (nn (p1w 10 (nn v4_10))))) w8 _ _ _ hrun hP hD hK hS (lv_sub hl [2, 3, 4, 0, 5, 1] rfl)
                · refine lv_icmp_ne (tgt := 192) hx hb dX4_linkOperands_174 (by decide) (fun _ => ?_) (fun c => absurd c hc36)
                  exact J192 v3_10 w8 _ _ _ hrun hP hD hK hS (lv_sub hl [1, 2, 3, 4, 5, 0] rfl)
              · refine lv_if_eq (tgt := 170) hx hb dX4_linkOperands_147 (by decide) (fun c => absurd c hc35) (fun _ => ?_)
                refine lv_aload_n hx hb dX4_linkOperands_150 rfl (lv_at hl 1 rfl) ?_
                refine va_get (D := (dC, dI)) (ci := 6) (v := .ref (p0a 2)) (C := RX4) (T := TX4) (N := 20) hx hb hts i_X4 hown hK hP 0 rfl rfl 1 (by decide) (hts _ qw296) (fun _ h9 => h9) rfl dX4_linkOperands_151 ?_
                refine lv_iload hx hb dX4_linkOperands_154 (lv_at hl 5 rfl) ?_
                refine lv_aload_n hx hb dX4_linkOperands_156 rfl (lv_at hl 1 rfl) ?_
                refine lv_iload_n hx hb dX4_linkOperands_157 rfl (lv_at hl 4 rfl) ?_
                refine lv_iconst (v := 1) hx hb dX4_linkOperands_158 (by decide) ?_
                refine lv_isub hx hb dX4_linkOperands_159 ?_
                obtain ⟨o_39, hc_39, hrun⟩ := bnd9 hrun
                have hPx : va_P (dC, dI) cls ((List.flatten ([(oX4 (p0a 0) p0a p0k w8 p0l)] : List va_W)) ++ (List.flatten ([(oX6 (p1a 0) p1a p1k p1w p1l)] : List va_W))) H := vP_fa (vP_perm hP (bP (List.Perm.refl _)))
                have hDx : va_D A ((List.flatten ([(oX4 (p0a 0) p0a p0k w8 p0l)] : List va_W)) ++ (List.flatten ([(oX6 (p1a 0) p1a p1k p1w p1l)] : List va_W))) := vD_fa (vD_perm hD (bP (List.Perm.refl _)))
                have hKx : va_K (dC, dI) cls ((List.flatten ([(tX4 p0k)] : List (List (ClassId × FieldType)))) ++ (List.flatten ([(tX6 p1k)] : List (List (ClassId × FieldType))))) s := vK_fa (vK_perm hK (bP (List.Perm.refl _)))
                have hPc := vP_l hPx
                have hDc := vD_l hDx
                have hKc := vK_l hKx
                have hFc := vfree hDx hS hA
                refine va_calli (va_runV (As := [.int (v3_10 - 1)]) (rest := [.int v4_10, .ref (p0a 2)]) ⟨hx, hb, hml, hown, hts⟩ (kX4_waitingAt l dC dI (p0a := p0a) (p0k := p0k) (p0w := w8) (p0l := p0l) (p1 := (v3_10 - 1)) (sz := _) (o := o_39) (hrun := hc_39)) (cwV 1 hts (gi_V qw355 qw356 qw357 qw270 (gi_z qw354)) rfl rfl rfl (by decide +kernel) ⟨Nat.le_of_ble_eq_true rfl, Nat.le_of_ble_eq_true rfl⟩) ⟨PRE.blind, va_recv hKc hPc (ci := 6) (q0 := 0) rfl rfl, PRE.of hE hS hFc hPc hKc hDc⟩ rfl rfl hl.1 rfl (lv_room (Nat.le_of_ble_eq_true rfl)) dX4_linkOperands_160 ⟨(Nat.le_of_ble_eq_true rfl), (Nat.le_of_ble_eq_true rfl)⟩) hS (fun q _ h => hFc q h) hFc (fun r40 u t H locs ht hvm hw hB hz1 hk1 hS => ?_)
                obtain ⟨b1, b2, b3⟩ := hB
                rw [ht] at b1
                obtain ⟨hP, hD, hK⟩ := JOINC (wc := (List.flatten ([(oX4 (p0a 0) p0a p0k w8 p0l)] : List va_W))) (wr := (List.flatten ([(oX6 (p1a 0) p1a p1k p1w p1l)] : List va_W))) (w1 := (List.flatten ([(oX4 (p0a 0) p0a p0k w8 p0l)] : List va_W))) (t1 := (List.flatten ([(tX4 p0k)] : List (List (ClassId × FieldType))))) hPx hDx hKx hk1 hFc b1 (va_K.moved hvm.symm b2) b3
                have hP : va_P (dC, dI) cls (List.flatten ([(oX4 (p0a 0) p0a p0k w8 p0l), (oX6 (p1a 0) p1a p1k p1w p1l)] : List va_W)) H := vP_perm (vP_fb hP) (bP (List.Perm.refl _))
                have hD : va_D A (List.flatten ([(oX4 (p0a 0) p0a p0k w8 p0l), (oX6 (p1a 0) p1a p1k p1w p1l)] : List va_W)) := vD_perm (vD_fb hD) (bP (List.Perm.refl _))
                have hK : va_K (dC, dI) cls (List.flatten ([(tX4 p0k), (tX6 p1k)] : List (List (ClassId × FieldType)))) s := vK_perm (vK_fb hK) (bP (List.Perm.refl _))
                obtain rfl : o_39 = r40 := hw.symm
                obtain ⟨hq41, hrun⟩ := chk9 hrun
                refine va_iast hx hb hK hP hD hS 1 0 rfl rfl (ixb_in hq41) dX4_linkOperands_163 (fun H locs hP hD hS => ?_)
                have hP : va_P (dC, dI) cls (List.flatten ([(oX4 (p0a 0) p0a p0k (upw w8 2 (nn v4_10) o_39) p0l), (oX6 (p1a 0) p1a p1k p1w p1l)] : List va_W)) H := hP
                have hD : va_D A (List.flatten ([(oX4 (p0a 0) p0a p0k (upw w8 2 (nn v4_10) o_39) p0l), (oX6 (p1a 0) p1a p1k p1w p1l)] : List va_W)) := hD
                obtain ⟨w42, ew42, hrun⟩ := let9 hrun
                rw [← ew42] at hP hD
                refine lv_iinc (v := (v3_10 + (-1))) (lv' := [(3, .int (v3_10 + (-1))), (5, .int (p1w 9 (nn v4_10))), (0, .ref (p0a 0)), (1, .ref (p1a 0)), (2, .int p2), (4, .int v4_10)]) hx hb dX4_linkOperands_164 hl (k := 4) rfl rfl (by decide) rfl (fun ls hl => ?_)
                refine lv_goto (tgt := 192) hx hb dX4_linkOperands_167 (by decide) ?_
                exact J192 (v3_10 + (-1)) w42 _ _ _ hrun hP hD hK hS (lv_sub hl [2, 3, 4, 0, 5, 1] rfl)
        · refine lv_if_eq (tgt := 88) hx hb dX4_linkOperands_51 (by decide) (fun c => absurd c hc21) (fun _ => ?_)
          refine lv_aload_n hx hb dX4_linkOperands_54 rfl (lv_at hl 1 rfl) ?_
          refine va_get (D := (dC, dI)) (ci := 6) (v := .ref (p0a 3)) (C := RX4) (T := TX4) (N := 20) hx hb hts i_X4 hown hK hP 0 rfl rfl 2 (by decide) (hts _ qw304) (fun _ h9 => h9) rfl dX4_linkOperands_55 ?_
          refine lv_iload hx hb dX4_linkOperands_58 (lv_at hl 5 rfl) ?_
          refine lv_aload_n hx hb dX4_linkOperands_60 rfl (lv_at hl 1 rfl) ?_
          refine lv_iload_n hx hb dX4_linkOperands_61 rfl (lv_at hl 4 rfl) ?_
          refine lv_iconst (v := 1) hx hb dX4_linkOperands_62 (by decide) ?_
          refine lv_isub hx hb dX4_linkOperands_63 ?_
          obtain ⟨o_43, hc_43, hrun⟩ := bnd9 hrun
          have hPx : va_P (dC, dI) cls ((List.flatten ([(oX4 (p0a 0) p0a p0k w8 p0l)] : List va_W)) ++ (List.flatten ([(oX6 (p1a 0) p1a p1k p1w p1l)] : List va_W))) H := vP_fa (vP_perm hP (bP (List.Perm.refl _)))
          have hDx : va_D A ((List.flatten ([(oX4 (p0a 0) p0a p0k w8 p0l)] : List va_W)) ++ (List.flatten ([(oX6 (p1a 0) p1a p1k p1w p1l)] : List va_W))) := vD_fa (vD_perm hD (bP (List.Perm.refl _)))
          have hKx : va_K (dC, dI) cls ((List.flatten ([(tX4 p0k)] : List (List (ClassId × FieldType)))) ++ (List.flatten ([(tX6 p1k)] : List (List (ClassId × FieldType))))) s := vK_fa (vK_perm hK (bP (List.Perm.refl _)))
          have hPc := vP_l hPx
          have hDc := vD_l hDx
          have hKc := vK_l hKx
          have hFc := vfree hDx hS hA
          refine va_calli (va_runV (As := [.int (v3_10 - 1)]) (rest := [.int v4_10, .ref (p0a 3)]) ⟨hx, hb, hml, hown, hts⟩ (kX4_waitingAt l dC dI (p0a := p0a) (p0k := p0k) (p0w := w8) (p0l := p0l) (p1 := (v3_10 - 1)) (sz := _) (o := o_43) (hrun := hc_43)) (cwV 1 hts (gi_V qw355 qw356 qw357 qw270 (gi_z qw354)) rfl rfl rfl (by decide +kernel) ⟨Nat.le_of_ble_eq_true rfl, Nat.le_of_ble_eq_true rfl⟩) ⟨PRE.blind, va_recv hKc hPc (ci := 6) (q0 := 0) rfl rfl, PRE.of hE hS hFc hPc hKc hDc⟩ rfl rfl hl.1 rfl (lv_room (Nat.le_of_ble_eq_true rfl)) dX4_linkOperands_64 ⟨(Nat.le_of_ble_eq_true rfl), (Nat.le_of_ble_eq_true rfl)⟩) hS (fun q _ h => hFc q h) hFc (fun r44 u t H locs ht hvm hw hB hz1 hk1 hS => ?_)
          obtain ⟨b1, b2, b3⟩ := hB
          rw [ht] at b1
          obtain ⟨hP, hD, hK⟩ := JOINC (wc := (List.flatten ([(oX4 (p0a 0) p0a p0k w8 p0l)] : List va_W))) (wr := (List.flatten ([(oX6 (p1a 0) p1a p1k p1w p1l)] : List va_W))) (w1 := (List.flatten ([(oX4 (p0a 0) p0a p0k w8 p0l)] : List va_W))) (t1 := (List.flatten ([(tX4 p0k)] : List (List (ClassId × FieldType))))) hPx hDx hKx hk1 hFc b1 (va_K.moved hvm.symm b2) b3
          have hP : va_P (dC, dI) cls (List.flatten ([(oX4 (p0a 0) p0a p0k w8 p0l), (oX6 (p1a 0) p1a p1k p1w p1l)] : List va_W)) H := vP_perm (vP_fb hP) (bP (List.Perm.refl _))
          have hD : va_D A (List.flatten ([(oX4 (p0a 0) p0a p0k w8 p0l), (oX6 (p1a 0) p1a p1k p1w p1l)] : List va_W)) := vD_perm (vD_fb hD) (bP (List.Perm.refl _))
          have hK : va_K (dC, dI) cls (List.flatten ([(tX4 p0k), (tX6 p1k)] : List (List (ClassId × FieldType)))) s := vK_perm (vK_fb hK) (bP (List.Perm.refl _))
          obtain rfl : o_43 = r44 := hw.symm
          obtain ⟨hq45, hrun⟩ := chk9 hrun
          refine va_iast hx hb hK hP hD hS 2 1 rfl rfl (ixb_in hq45) dX4_linkOperands_67 (fun H locs hP hD hS => ?_)
          have hP : va_P (dC, dI) cls (List.flatten ([(oX4 (p0a 0) p0a p0k (upw w8 3 (nn v4_10) o_43) p0l), (oX6 (p1a 0) p1a p1k p1w p1l)] : List va_W)) H := hP
          have hD : va_D A (List.flatten ([(oX4 (p0a 0) p0a p0k (upw w8 3 (nn v4_10) o_43) p0l), (oX6 (p1a 0) p1a p1k p1w p1l)] : List va_W)) := hD
          obtain ⟨w46, ew46, hrun⟩ := let9 hrun
          rw [← ew46] at hP hD
          refine lv_aload_n hx hb dX4_linkOperands_68 rfl (lv_at hl 1 rfl) ?_
          refine va_get (D := (dC, dI)) (ci := 6) (v := .ref (p0a 2)) (C := RX4) (T := TX4) (N := 20) hx hb hts i_X4 hown hK hP 0 rfl rfl 1 (by decide) (hts _ qw296) (fun _ h9 => h9) rfl dX4_linkOperands_69 ?_
          refine lv_iload hx hb dX4_linkOperands_72 (lv_at hl 5 rfl) ?_
          refine lv_aload_n hx hb dX4_linkOperands_74 rfl (lv_at hl 1 rfl) ?_
          refine lv_iload_n hx hb dX4_linkOperands_75 rfl (lv_at hl 4 rfl) ?_
          refine lv_iconst (v := 2) hx hb dX4_linkOperands_76 (by decide) ?_
          refine lv_isub hx hb dX4_linkOperands_77 ?_
          obtain ⟨o_47, hc_47, hrun⟩ := bnd9 hrun
          have hPx : va_P (dC, dI) cls ((List.flatten ([(oX4 (p0a 0) p0a p0k w46 p0l)] : List va_W)) ++ (List.flatten ([(oX6 (p1a 0) p1a p1k p1w p1l)] : List va_W))) H := vP_fa (vP_perm hP (bP (List.Perm.refl _)))
          have hDx : va_D A ((List.flatten ([(oX4 (p0a 0) p0a p0k w46 p0l)] : List va_W)) ++ (List.flatten ([(oX6 (p1a 0) p1a p1k p1w p1l)] : List va_W))) := vD_fa (vD_perm hD (bP (List.Perm.refl _)))
          have hKx : va_K (dC, dI) cls ((List.flatten ([(tX4 p0k)] : List (List (ClassId × FieldType)))) ++ (List.flatten ([(tX6 p1k)] : List (List (ClassId × FieldType))))) s := vK_fa (vK_perm hK (bP (List.Perm.refl _)))
          have hPc := vP_l hPx
          have hDc := vD_l hDx
          have hKc := vK_l hKx
          have hFc := vfree hDx hS hA
          refine va_calli (va_runV (As := [.int (v3_10 - 2)]) (rest := [.int v4_10, .ref (p0a 2)]) ⟨hx, hb, hml, hown, hts⟩ (kX4_waitingAt l dC dI (p0a := p0a) (p0k := p0k) (p0w := w46) (p0l := p0l) (p1 := (v3_10 - 2)) (sz := _) (o := o_47) (hrun := hc_47)) (cwV 1 hts (gi_V qw355 qw356 qw357 qw270 (gi_z qw354)) rfl rfl rfl (by decide +kernel) ⟨Nat.le_of_ble_eq_true rfl, Nat.le_of_ble_eq_true rfl⟩) ⟨PRE.blind, va_recv hKc hPc (ci := 6) (q0 := 0) rfl rfl, PRE.of hE hS hFc hPc hKc hDc⟩ rfl rfl hl.1 rfl (lv_room (Nat.le_of_ble_eq_true rfl)) dX4_linkOperands_78 ⟨(Nat.le_of_ble_eq_true rfl), (Nat.le_of_ble_eq_true rfl)⟩) hS (fun q _ h => hFc q h) hFc (fun r48 u t H locs ht hvm hw hB hz1 hk1 hS => ?_)
          obtain ⟨b1, b2, b3⟩ := hB
          rw [ht] at b1
          obtain ⟨hP, hD, hK⟩ := JOINC (wc := (List.flatten ([(oX4 (p0a 0) p0a p0k w46 p0l)] : List va_W))) (wr := (List.flatten ([(oX6 (p1a 0) p1a p1k p1w p1l)] : List va_W))) (w1 := (List.flatten ([(oX4 (p0a 0) p0a p0k w46 p0l)] : List va_W))) (t1 := (List.flatten ([(tX4 p0k)] : List (List (ClassId × FieldType))))) hPx hDx hKx hk1 hFc b1 (va_K.moved hvm.symm b2) b3
          have hP : va_P (dC, dI) cls (List.flatten ([(oX4 (p0a 0) p0a p0k w46 p0l), (oX6 (p1a 0) p1a p1k p1w p1l)] : List va_W)) H := vP_perm (vP_fb hP) (bP (List.Perm.refl _))
          have hD : va_D A (List.flatten ([(oX4 (p0a 0) p0a p0k w46 p0l), (oX6 (p1a 0) p1a p1k p1w p1l)] : List va_W)) := vD_perm (vD_fb hD) (bP (List.Perm.refl _))
          have hK : va_K (dC, dI) cls (List.flatten ([(tX4 p0k), (tX6 p1k)] : List (List (ClassId × FieldType)))) s := vK_perm (vK_fb hK) (bP (List.Perm.refl _))
          obtain rfl : o_47 = r48 := hw.symm
          obtain ⟨hq49, hrun⟩ := chk9 hrun
          refine va_iast hx hb hK hP hD hS 1 0 rfl rfl (ixb_in hq49) dX4_linkOperands_81 (fun H locs hP hD hS => ?_)
          have hP : va_P (dC, dI) cls (List.flatten ([(oX4 (p0a 0) p0a p0k (upw w46 2 (nn v4_10) o_47) p0l), (oX6 (p1a 0) p1a p1k p1w p1l)] : List va_W)) H := hP
          have hD : va_D A (List.flatten ([(oX4 (p0a 0) p0a p0k (upw w46 2 (nn v4_10) o_47) p0l), (oX6 (p1a 0) p1a p1k p1w p1l)] : List va_W)) := hD
          obtain ⟨w50, ew50, hrun⟩ := let9 hrun
          rw [← ew50] at hP hD
          refine lv_iinc (v := (v3_10 + (-2))) (lv' := [(3, .int (v3_10 + (-2))), (5, .int (p1w 9 (nn v4_10))), (0, .ref (p0a 0)), (1, .ref (p1a 0)), (2, .int p2), (4, .int v4_10)]) hx hb dX4_linkOperands_82 hl (k := 4) rfl rfl (by decide) rfl (fun ls hl => ?_)
          refine lv_goto (tgt := 192) hx hb dX4_linkOperands_85 (by decide) ?_
          exact J192 (v3_10 + (-2)) w50 _ _ _ hrun hP hD hK hS (lv_sub hl [2, 3, 4, 0, 5, 1] rfl)
  obtain ⟨o10, hc10, hrun⟩ := bnd9 hrun
  refine L10 NF 0 (p1w 6 (nn p2)) p0w o10 _ _ _ hc10 hP hD hK hS (lv_sub hl [2, 3, 4, 1, 0] rfl) ?_
  intro H locs ls hP hD hK hS hl
  have hl := hl
  have ho9 : o10 = o := Option.some.inj hrun
  have hP9 : va_P (dC, dI) cls (List.flatten ([(oX4 (p0a 0) p0a p0k o p0l), (oX6 (p1a 0) p1a p1k p1w p1l)] : List va_W)) H := by first | exact hP | (rw [← ho9]; exact hP)
  have hD9 : va_D A (List.flatten ([(oX4 (p0a 0) p0a p0k o p0l), (oX6 (p1a 0) p1a p1k p1w p1l)] : List va_W)) := by first | exact hD | (rw [← ho9]; exact hD)
  subst hQ
  exact W.vret hx hb hr (fun t ht hW => ⟨⟨(), rfl, trivial, ⟨by rw [ht]; exact hP9, va_K.moved hW.alike hK, hD9⟩⟩, hS.F ht⟩) hS.2.2 dX4_linkOperands_256
