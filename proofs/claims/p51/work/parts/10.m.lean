abbrev cX4_addPiece : ByteArray := prog_6_method_5_code
def yX4_addPiece : MethodName := ⟨RX4, "addPiece", "(IIII)V"⟩
abbrev cX4_blockOfPiece : ByteArray := prog_6_method_13_code
def yX4_blockOfPiece : MethodName := ⟨RX4, "blockOfPiece", "(I)I"⟩
abbrev cX4_cutPieces : ByteArray := prog_6_method_3_code
def yX4_cutPieces : MethodName := ⟨RX4, "cutPieces", "(LGearbox$Program;I)V"⟩
abbrev cX4_findLabels : ByteArray := prog_6_method_4_code
def yX4_findLabels : MethodName := ⟨RX4, "findLabels", "(LGearbox$Program;I)V"⟩
abbrev cX4_fillBlock : ByteArray := prog_6_method_23_code
def yX4_fillBlock : MethodName := ⟨RX4, "fillBlock", "(LGearbox$Program;ILGearbox$Flow;I)V"⟩
abbrev cJ7_fill_fda19 : ByteArray := prog_48_method_104_code
def yJ7_fill_fda19 : MethodName := ⟨RJ7, "fill", "([IIII)V"⟩
abbrev cJ7_rangeCheck_23922 : ByteArray := prog_48_method_30_code
def yJ7_rangeCheck_23922 : MethodName := ⟨RJ7, "rangeCheck", "(III)V"⟩
abbrev cX4_opsFrom : ByteArray := prog_6_method_15_code
def yX4_opsFrom : MethodName := ⟨RX4, "opsFrom", "(I)I"⟩
abbrev cX4_opsTo : ByteArray := prog_6_method_16_code
def yX4_opsTo : MethodName := ⟨RX4, "opsTo", "(I)I"⟩
abbrev cX4_fillStep : ByteArray := prog_6_method_24_code
def yX4_fillStep : MethodName := ⟨RX4, "fillStep", "(LGearbox$Program;LGearbox$Flow;II)V"⟩
abbrev cX4_valueAt : ByteArray := prog_6_method_9_code
def yX4_valueAt : MethodName := ⟨RX4, "valueAt", "(I)I"⟩
abbrev cX11_givesValue : ByteArray := prog_1_method_66_code
def yX11_givesValue : MethodName := ⟨RX11, "givesValue", "(I)Z"⟩
abbrev cX4_fillPhis : ByteArray := prog_6_method_25_code
def yX4_fillPhis : MethodName := ⟨RX4, "fillPhis", "(LGearbox$Flow;)V"⟩
theorem dJ7_fill_fda19_0 : decode cJ7_fill_fda19 0 = .ok (.aload_n 0, 1) := by decide +kernel
theorem dJ7_fill_fda19_1 : decode cJ7_fill_fda19 1 = .ok (.arraylength, 1) := by decide +kernel
theorem dJ7_fill_fda19_2 : decode cJ7_fill_fda19 2 = .ok (.iload_n 1, 1) := by decide +kernel
theorem dJ7_fill_fda19_3 : decode cJ7_fill_fda19 3 = .ok (.iload_n 2, 1) := by decide +kernel
theorem dJ7_fill_fda19_4 : decode cJ7_fill_fda19 4 = .ok (.invokestatic 13, 3) := by decide +kernel
theorem dJ7_fill_fda19_7 : decode cJ7_fill_fda19 7 = .ok (.iload_n 1, 1) := by decide +kernel
theorem dJ7_fill_fda19_8 : decode cJ7_fill_fda19 8 = .ok (.istore 4, 2) := by decide +kernel
theorem dJ7_fill_fda19_10 : decode cJ7_fill_fda19 10 = .ok (.iload 4, 2) := by decide +kernel
theorem dJ7_fill_fda19_12 : decode cJ7_fill_fda19 12 = .ok (.iload_n 2, 1) := by decide +kernel
theorem dJ7_fill_fda19_13 : decode cJ7_fill_fda19 13 = .ok (.if_icmp .ge 14, 3) := by decide +kernel
theorem dJ7_fill_fda19_16 : decode cJ7_fill_fda19 16 = .ok (.aload_n 0, 1) := by decide +kernel
theorem dJ7_fill_fda19_17 : decode cJ7_fill_fda19 17 = .ok (.iload 4, 2) := by decide +kernel
theorem dJ7_fill_fda19_19 : decode cJ7_fill_fda19 19 = .ok (.iload_n 3, 1) := by decide +kernel
theorem dJ7_fill_fda19_20 : decode cJ7_fill_fda19 20 = .ok (.iastore, 1) := by decide +kernel
theorem dJ7_fill_fda19_21 : decode cJ7_fill_fda19 21 = .ok (.iinc 4 1, 3) := by decide +kernel
theorem dJ7_fill_fda19_24 : decode cJ7_fill_fda19 24 = .ok (.goto (-14), 3) := by decide +kernel
theorem dJ7_fill_fda19_27 : decode cJ7_fill_fda19 27 = .ok (.return_, 1) := by decide +kernel
theorem dJ7_rangeCheck_23922_0 : decode cJ7_rangeCheck_23922 0 = .ok (.iload_n 1, 1) := by decide +kernel
theorem dJ7_rangeCheck_23922_1 : decode cJ7_rangeCheck_23922 1 = .ok (.iload_n 2, 1) := by decide +kernel
theorem dJ7_rangeCheck_23922_2 : decode cJ7_rangeCheck_23922 2 = .ok (.if_icmp .le 44, 3) := by decide +kernel
theorem dJ7_rangeCheck_23922_46 : decode cJ7_rangeCheck_23922 46 = .ok (.iload_n 1, 1) := by decide +kernel
theorem dJ7_rangeCheck_23922_47 : decode cJ7_rangeCheck_23922 47 = .ok (.ifCond .ge 12, 3) := by decide +kernel
theorem dJ7_rangeCheck_23922_59 : decode cJ7_rangeCheck_23922 59 = .ok (.iload_n 2, 1) := by decide +kernel
theorem dJ7_rangeCheck_23922_60 : decode cJ7_rangeCheck_23922 60 = .ok (.iload_n 0, 1) := by decide +kernel
theorem dJ7_rangeCheck_23922_61 : decode cJ7_rangeCheck_23922 61 = .ok (.if_icmp .le 12, 3) := by decide +kernel
theorem dJ7_rangeCheck_23922_73 : decode cJ7_rangeCheck_23922 73 = .ok (.return_, 1) := by decide +kernel
theorem dX11_givesValue_0 : decode cX11_givesValue 0 = .ok (.iload_n 0, 1) := by decide +kernel
theorem dX11_givesValue_1 : decode cX11_givesValue 1 = .ok (.ifCond .lt 9, 3) := by decide +kernel
theorem dX11_givesValue_4 : decode cX11_givesValue 4 = .ok (.iload_n 0, 1) := by decide +kernel
theorem dX11_givesValue_5 : decode cX11_givesValue 5 = .ok (.bipush 17, 2) := by decide +kernel
theorem dX11_givesValue_7 : decode cX11_givesValue 7 = .ok (.if_icmp .le 15, 3) := by decide +kernel
theorem dX11_givesValue_10 : decode cX11_givesValue 10 = .ok (.iload_n 0, 1) := by decide +kernel
theorem dX11_givesValue_11 : decode cX11_givesValue 11 = .ok (.bipush 20, 2) := by decide +kernel
theorem dX11_givesValue_13 : decode cX11_givesValue 13 = .ok (.if_icmp .eq 9, 3) := by decide +kernel
theorem dX11_givesValue_16 : decode cX11_givesValue 16 = .ok (.iload_n 0, 1) := by decide +kernel
theorem dX11_givesValue_17 : decode cX11_givesValue 17 = .ok (.bipush 21, 2) := by decide +kernel
theorem dX11_givesValue_19 : decode cX11_givesValue 19 = .ok (.if_icmp .ne 7, 3) := by decide +kernel
theorem dX11_givesValue_22 : decode cX11_givesValue 22 = .ok (.iconst 1, 1) := by decide +kernel
theorem dX11_givesValue_23 : decode cX11_givesValue 23 = .ok (.goto 4, 3) := by decide +kernel
theorem dX11_givesValue_26 : decode cX11_givesValue 26 = .ok (.iconst 0, 1) := by decide +kernel
theorem dX11_givesValue_27 : decode cX11_givesValue 27 = .ok (.ireturn, 1) := by decide +kernel
theorem dX4_addPiece_0 : decode cX4_addPiece 0 = .ok (.aload_n 0, 1) := by decide +kernel
theorem dX4_addPiece_1 : decode cX4_addPiece 1 = .ok (.getfield 130, 3) := by decide +kernel
theorem dX4_addPiece_4 : decode cX4_addPiece 4 = .ok (.sipush 640, 3) := by decide +kernel
theorem dX4_addPiece_7 : decode cX4_addPiece 7 = .ok (.if_icmp .ge 54, 3) := by decide +kernel
theorem dX4_addPiece_10 : decode cX4_addPiece 10 = .ok (.aload_n 0, 1) := by decide +kernel
theorem dX4_addPiece_11 : decode cX4_addPiece 11 = .ok (.getfield 24, 3) := by decide +kernel
theorem dX4_addPiece_14 : decode cX4_addPiece 14 = .ok (.aload_n 0, 1) := by decide +kernel
theorem dX4_addPiece_15 : decode cX4_addPiece 15 = .ok (.getfield 130, 3) := by decide +kernel
theorem dX4_addPiece_18 : decode cX4_addPiece 18 = .ok (.iload_n 1, 1) := by decide +kernel
theorem dX4_addPiece_19 : decode cX4_addPiece 19 = .ok (.iastore, 1) := by decide +kernel
theorem dX4_addPiece_20 : decode cX4_addPiece 20 = .ok (.aload_n 0, 1) := by decide +kernel
theorem dX4_addPiece_21 : decode cX4_addPiece 21 = .ok (.getfield 27, 3) := by decide +kernel
theorem dX4_addPiece_24 : decode cX4_addPiece 24 = .ok (.aload_n 0, 1) := by decide +kernel
theorem dX4_addPiece_25 : decode cX4_addPiece 25 = .ok (.getfield 130, 3) := by decide +kernel
theorem dX4_addPiece_28 : decode cX4_addPiece 28 = .ok (.iload_n 2, 1) := by decide +kernel
theorem dX4_addPiece_29 : decode cX4_addPiece 29 = .ok (.iastore, 1) := by decide +kernel
theorem dX4_addPiece_30 : decode cX4_addPiece 30 = .ok (.aload_n 0, 1) := by decide +kernel
theorem dX4_addPiece_31 : decode cX4_addPiece 31 = .ok (.getfield 30, 3) := by decide +kernel
theorem dX4_addPiece_34 : decode cX4_addPiece 34 = .ok (.aload_n 0, 1) := by decide +kernel
theorem dX4_addPiece_35 : decode cX4_addPiece 35 = .ok (.getfield 130, 3) := by decide +kernel
theorem dX4_addPiece_38 : decode cX4_addPiece 38 = .ok (.iload_n 3, 1) := by decide +kernel
theorem dX4_addPiece_39 : decode cX4_addPiece 39 = .ok (.iastore, 1) := by decide +kernel
theorem dX4_addPiece_40 : decode cX4_addPiece 40 = .ok (.aload_n 0, 1) := by decide +kernel
theorem dX4_addPiece_41 : decode cX4_addPiece 41 = .ok (.getfield 33, 3) := by decide +kernel
theorem dX4_addPiece_44 : decode cX4_addPiece 44 = .ok (.aload_n 0, 1) := by decide +kernel
theorem dX4_addPiece_45 : decode cX4_addPiece 45 = .ok (.getfield 130, 3) := by decide +kernel
theorem dX4_addPiece_48 : decode cX4_addPiece 48 = .ok (.iload 4, 2) := by decide +kernel
theorem dX4_addPiece_50 : decode cX4_addPiece 50 = .ok (.iastore, 1) := by decide +kernel
theorem dX4_addPiece_51 : decode cX4_addPiece 51 = .ok (.aload_n 0, 1) := by decide +kernel
theorem dX4_addPiece_52 : decode cX4_addPiece 52 = .ok (.dup, 1) := by decide +kernel
theorem dX4_addPiece_53 : decode cX4_addPiece 53 = .ok (.getfield 130, 3) := by decide +kernel
theorem dX4_addPiece_56 : decode cX4_addPiece 56 = .ok (.iconst 1, 1) := by decide +kernel
theorem dX4_addPiece_57 : decode cX4_addPiece 57 = .ok (.iadd, 1) := by decide +kernel
theorem dX4_addPiece_58 : decode cX4_addPiece 58 = .ok (.putfield 130, 3) := by decide +kernel
theorem dX4_addPiece_61 : decode cX4_addPiece 61 = .ok (.return_, 1) := by decide +kernel
theorem dX4_blockOfPiece_0 : decode cX4_blockOfPiece 0 = .ok (.iload_n 1, 1) := by decide +kernel
theorem dX4_blockOfPiece_1 : decode cX4_blockOfPiece 1 = .ok (.ifCond .lt 11, 3) := by decide +kernel
theorem dX4_blockOfPiece_4 : decode cX4_blockOfPiece 4 = .ok (.iload_n 1, 1) := by decide +kernel
theorem dX4_blockOfPiece_5 : decode cX4_blockOfPiece 5 = .ok (.aload_n 0, 1) := by decide +kernel
theorem dX4_blockOfPiece_6 : decode cX4_blockOfPiece 6 = .ok (.getfield 130, 3) := by decide +kernel
theorem dX4_blockOfPiece_9 : decode cX4_blockOfPiece 9 = .ok (.if_icmp .lt 7, 3) := by decide +kernel
theorem dX4_blockOfPiece_12 : decode cX4_blockOfPiece 12 = .ok (.iconst (-1), 1) := by decide +kernel
theorem dX4_blockOfPiece_13 : decode cX4_blockOfPiece 13 = .ok (.goto 9, 3) := by decide +kernel
theorem dX4_blockOfPiece_16 : decode cX4_blockOfPiece 16 = .ok (.aload_n 0, 1) := by decide +kernel
theorem dX4_blockOfPiece_17 : decode cX4_blockOfPiece 17 = .ok (.getfield 39, 3) := by decide +kernel
theorem dX4_blockOfPiece_20 : decode cX4_blockOfPiece 20 = .ok (.iload_n 1, 1) := by decide +kernel
theorem dX4_blockOfPiece_21 : decode cX4_blockOfPiece 21 = .ok (.iaload, 1) := by decide +kernel
theorem dX4_blockOfPiece_22 : decode cX4_blockOfPiece 22 = .ok (.ireturn, 1) := by decide +kernel
theorem dX4_cutPieces_0 : decode cX4_cutPieces 0 = .ok (.aload_n 0, 1) := by decide +kernel
theorem dX4_cutPieces_1 : decode cX4_cutPieces 1 = .ok (.aload_n 1, 1) := by decide +kernel
theorem dX4_cutPieces_2 : decode cX4_cutPieces 2 = .ok (.iload_n 2, 1) := by decide +kernel
theorem dX4_cutPieces_3 : decode cX4_cutPieces 3 = .ok (.invokevirtual 127, 3) := by decide +kernel
theorem dX4_cutPieces_6 : decode cX4_cutPieces 6 = .ok (.aload_n 0, 1) := by decide +kernel
theorem dX4_cutPieces_7 : decode cX4_cutPieces 7 = .ok (.iconst 0, 1) := by decide +kernel
theorem dX4_cutPieces_8 : decode cX4_cutPieces 8 = .ok (.putfield 130, 3) := by decide +kernel
theorem dX4_cutPieces_11 : decode cX4_cutPieces 11 = .ok (.aload_n 1, 1) := by decide +kernel
theorem dX4_cutPieces_12 : decode cX4_cutPieces 12 = .ok (.getfield 133, 3) := by decide +kernel
theorem dX4_cutPieces_15 : decode cX4_cutPieces 15 = .ok (.iload_n 2, 1) := by decide +kernel
theorem dX4_cutPieces_16 : decode cX4_cutPieces 16 = .ok (.iaload, 1) := by decide +kernel
theorem dX4_cutPieces_17 : decode cX4_cutPieces 17 = .ok (.istore_n 3, 1) := by decide +kernel
theorem dX4_cutPieces_18 : decode cX4_cutPieces 18 = .ok (.aload_n 1, 1) := by decide +kernel
theorem dX4_cutPieces_19 : decode cX4_cutPieces 19 = .ok (.getfield 133, 3) := by decide +kernel
theorem dX4_cutPieces_22 : decode cX4_cutPieces 22 = .ok (.iload_n 2, 1) := by decide +kernel
theorem dX4_cutPieces_23 : decode cX4_cutPieces 23 = .ok (.iaload, 1) := by decide +kernel
theorem dX4_cutPieces_24 : decode cX4_cutPieces 24 = .ok (.istore 4, 2) := by decide +kernel
theorem dX4_cutPieces_26 : decode cX4_cutPieces 26 = .ok (.iload 4, 2) := by decide +kernel
theorem dX4_cutPieces_28 : decode cX4_cutPieces 28 = .ok (.aload_n 1, 1) := by decide +kernel
theorem dX4_cutPieces_29 : decode cX4_cutPieces 29 = .ok (.getfield 136, 3) := by decide +kernel
theorem dX4_cutPieces_32 : decode cX4_cutPieces 32 = .ok (.iload_n 2, 1) := by decide +kernel
theorem dX4_cutPieces_33 : decode cX4_cutPieces 33 = .ok (.iaload, 1) := by decide +kernel
theorem dX4_cutPieces_34 : decode cX4_cutPieces 34 = .ok (.if_icmp .ge 185, 3) := by decide +kernel
theorem dX4_cutPieces_37 : decode cX4_cutPieces 37 = .ok (.aload_n 1, 1) := by decide +kernel
theorem dX4_cutPieces_38 : decode cX4_cutPieces 38 = .ok (.getfield 139, 3) := by decide +kernel
theorem dX4_cutPieces_41 : decode cX4_cutPieces 41 = .ok (.iload 4, 2) := by decide +kernel
theorem dX4_cutPieces_43 : decode cX4_cutPieces 43 = .ok (.iaload, 1) := by decide +kernel
theorem dX4_cutPieces_44 : decode cX4_cutPieces 44 = .ok (.istore 5, 2) := by decide +kernel
theorem dX4_cutPieces_46 : decode cX4_cutPieces 46 = .ok (.aload_n 0, 1) := by decide +kernel
theorem dX4_cutPieces_47 : decode cX4_cutPieces 47 = .ok (.getfield 130, 3) := by decide +kernel
theorem dX4_cutPieces_50 : decode cX4_cutPieces 50 = .ok (.iconst 1, 1) := by decide +kernel
theorem dX4_cutPieces_51 : decode cX4_cutPieces 51 = .ok (.iadd, 1) := by decide +kernel
theorem dX4_cutPieces_52 : decode cX4_cutPieces 52 = .ok (.istore 6, 2) := by decide +kernel
theorem dX4_cutPieces_54 : decode cX4_cutPieces 54 = .ok (.iload 5, 2) := by decide +kernel
theorem dX4_cutPieces_56 : decode cX4_cutPieces 56 = .ok (.bipush 35, 2) := by decide +kernel
theorem dX4_cutPieces_58 : decode cX4_cutPieces 58 = .ok (.if_icmp .ne 19, 3) := by decide +kernel
theorem dX4_cutPieces_61 : decode cX4_cutPieces 61 = .ok (.aload_n 0, 1) := by decide +kernel
theorem dX4_cutPieces_62 : decode cX4_cutPieces 62 = .ok (.iload_n 3, 1) := by decide +kernel
theorem dX4_cutPieces_63 : decode cX4_cutPieces 63 = .ok (.iload 4, 2) := by decide +kernel
theorem dX4_cutPieces_65 : decode cX4_cutPieces 65 = .ok (.iload 6, 2) := by decide +kernel
theorem dX4_cutPieces_67 : decode cX4_cutPieces 67 = .ok (.iconst (-1), 1) := by decide +kernel
theorem dX4_cutPieces_68 : decode cX4_cutPieces 68 = .ok (.invokevirtual 142, 3) := by decide +kernel
theorem dX4_cutPieces_71 : decode cX4_cutPieces 71 = .ok (.iload 4, 2) := by decide +kernel
theorem dX4_cutPieces_73 : decode cX4_cutPieces 73 = .ok (.istore_n 3, 1) := by decide +kernel
theorem dX4_cutPieces_74 : decode cX4_cutPieces 74 = .ok (.goto 139, 3) := by decide +kernel
theorem dX4_cutPieces_77 : decode cX4_cutPieces 77 = .ok (.iload 5, 2) := by decide +kernel
theorem dX4_cutPieces_79 : decode cX4_cutPieces 79 = .ok (.bipush 22, 2) := by decide +kernel
theorem dX4_cutPieces_81 : decode cX4_cutPieces 81 = .ok (.if_icmp .ne 33, 3) := by decide +kernel
theorem dX4_cutPieces_84 : decode cX4_cutPieces 84 = .ok (.aload_n 0, 1) := by decide +kernel
theorem dX4_cutPieces_85 : decode cX4_cutPieces 85 = .ok (.iload_n 3, 1) := by decide +kernel
theorem dX4_cutPieces_86 : decode cX4_cutPieces 86 = .ok (.iload 4, 2) := by decide +kernel
theorem dX4_cutPieces_88 : decode cX4_cutPieces 88 = .ok (.iconst 1, 1) := by decide +kernel
theorem dX4_cutPieces_89 : decode cX4_cutPieces 89 = .ok (.iadd, 1) := by decide +kernel
theorem dX4_cutPieces_90 : decode cX4_cutPieces 90 = .ok (.aload_n 0, 1) := by decide +kernel
theorem dX4_cutPieces_91 : decode cX4_cutPieces 91 = .ok (.getfield 42, 3) := by decide +kernel
theorem dX4_cutPieces_94 : decode cX4_cutPieces 94 = .ok (.aload_n 1, 1) := by decide +kernel
theorem dX4_cutPieces_95 : decode cX4_cutPieces 95 = .ok (.getfield 146, 3) := by decide +kernel
theorem dX4_cutPieces_98 : decode cX4_cutPieces 98 = .ok (.iload 4, 2) := by decide +kernel
theorem dX4_cutPieces_100 : decode cX4_cutPieces 100 = .ok (.iaload, 1) := by decide +kernel
theorem dX4_cutPieces_101 : decode cX4_cutPieces 101 = .ok (.iaload, 1) := by decide +kernel
theorem dX4_cutPieces_102 : decode cX4_cutPieces 102 = .ok (.iconst (-1), 1) := by decide +kernel
theorem dX4_cutPieces_103 : decode cX4_cutPieces 103 = .ok (.invokevirtual 142, 3) := by decide +kernel
theorem dX4_cutPieces_106 : decode cX4_cutPieces 106 = .ok (.iload 4, 2) := by decide +kernel
theorem dX4_cutPieces_108 : decode cX4_cutPieces 108 = .ok (.iconst 1, 1) := by decide +kernel
theorem dX4_cutPieces_109 : decode cX4_cutPieces 109 = .ok (.iadd, 1) := by decide +kernel
theorem dX4_cutPieces_110 : decode cX4_cutPieces 110 = .ok (.istore_n 3, 1) := by decide +kernel
theorem dX4_cutPieces_111 : decode cX4_cutPieces 111 = .ok (.goto 102, 3) := by decide +kernel
theorem dX4_cutPieces_114 : decode cX4_cutPieces 114 = .ok (.iload 5, 2) := by decide +kernel
theorem dX4_cutPieces_116 : decode cX4_cutPieces 116 = .ok (.bipush 33, 2) := by decide +kernel
theorem dX4_cutPieces_118 : decode cX4_cutPieces 118 = .ok (.if_icmp .ne 34, 3) := by decide +kernel
theorem dX4_cutPieces_121 : decode cX4_cutPieces 121 = .ok (.aload_n 0, 1) := by decide +kernel
theorem dX4_cutPieces_122 : decode cX4_cutPieces 122 = .ok (.iload_n 3, 1) := by decide +kernel
theorem dX4_cutPieces_123 : decode cX4_cutPieces 123 = .ok (.iload 4, 2) := by decide +kernel
theorem dX4_cutPieces_125 : decode cX4_cutPieces 125 = .ok (.iconst 1, 1) := by decide +kernel
theorem dX4_cutPieces_126 : decode cX4_cutPieces 126 = .ok (.iadd, 1) := by decide +kernel
theorem dX4_cutPieces_127 : decode cX4_cutPieces 127 = .ok (.iload 6, 2) := by decide +kernel
theorem dX4_cutPieces_129 : decode cX4_cutPieces 129 = .ok (.aload_n 0, 1) := by decide +kernel
theorem dX4_cutPieces_130 : decode cX4_cutPieces 130 = .ok (.getfield 42, 3) := by decide +kernel
theorem dX4_cutPieces_133 : decode cX4_cutPieces 133 = .ok (.aload_n 1, 1) := by decide +kernel
theorem dX4_cutPieces_134 : decode cX4_cutPieces 134 = .ok (.getfield 146, 3) := by decide +kernel
theorem dX4_cutPieces_137 : decode cX4_cutPieces 137 = .ok (.iload 4, 2) := by decide +kernel
theorem dX4_cutPieces_139 : decode cX4_cutPieces 139 = .ok (.iaload, 1) := by decide +kernel
theorem dX4_cutPieces_140 : decode cX4_cutPieces 140 = .ok (.iaload, 1) := by decide +kernel
theorem dX4_cutPieces_141 : decode cX4_cutPieces 141 = .ok (.invokevirtual 142, 3) := by decide +kernel
theorem dX4_cutPieces_144 : decode cX4_cutPieces 144 = .ok (.iload 4, 2) := by decide +kernel
theorem dX4_cutPieces_146 : decode cX4_cutPieces 146 = .ok (.iconst 1, 1) := by decide +kernel
theorem dX4_cutPieces_147 : decode cX4_cutPieces 147 = .ok (.iadd, 1) := by decide +kernel
theorem dX4_cutPieces_148 : decode cX4_cutPieces 148 = .ok (.istore_n 3, 1) := by decide +kernel
theorem dX4_cutPieces_149 : decode cX4_cutPieces 149 = .ok (.goto 64, 3) := by decide +kernel
theorem dX4_cutPieces_152 : decode cX4_cutPieces 152 = .ok (.iload 5, 2) := by decide +kernel
theorem dX4_cutPieces_154 : decode cX4_cutPieces 154 = .ok (.bipush 34, 2) := by decide +kernel
theorem dX4_cutPieces_156 : decode cX4_cutPieces 156 = .ok (.if_icmp .ne 34, 3) := by decide +kernel
theorem dX4_cutPieces_159 : decode cX4_cutPieces 159 = .ok (.aload_n 0, 1) := by decide +kernel
theorem dX4_cutPieces_160 : decode cX4_cutPieces 160 = .ok (.iload_n 3, 1) := by decide +kernel
theorem dX4_cutPieces_161 : decode cX4_cutPieces 161 = .ok (.iload 4, 2) := by decide +kernel
theorem dX4_cutPieces_163 : decode cX4_cutPieces 163 = .ok (.iconst 1, 1) := by decide +kernel
theorem dX4_cutPieces_164 : decode cX4_cutPieces 164 = .ok (.iadd, 1) := by decide +kernel
theorem dX4_cutPieces_165 : decode cX4_cutPieces 165 = .ok (.aload_n 0, 1) := by decide +kernel
theorem dX4_cutPieces_166 : decode cX4_cutPieces 166 = .ok (.getfield 42, 3) := by decide +kernel
theorem dX4_cutPieces_169 : decode cX4_cutPieces 169 = .ok (.aload_n 1, 1) := by decide +kernel
theorem dX4_cutPieces_170 : decode cX4_cutPieces 170 = .ok (.getfield 146, 3) := by decide +kernel
theorem dX4_cutPieces_173 : decode cX4_cutPieces 173 = .ok (.iload 4, 2) := by decide +kernel
theorem dX4_cutPieces_175 : decode cX4_cutPieces 175 = .ok (.iaload, 1) := by decide +kernel
theorem dX4_cutPieces_176 : decode cX4_cutPieces 176 = .ok (.iaload, 1) := by decide +kernel
theorem dX4_cutPieces_177 : decode cX4_cutPieces 177 = .ok (.iload 6, 2) := by decide +kernel
theorem dX4_cutPieces_179 : decode cX4_cutPieces 179 = .ok (.invokevirtual 142, 3) := by decide +kernel
theorem dX4_cutPieces_182 : decode cX4_cutPieces 182 = .ok (.iload 4, 2) := by decide +kernel
theorem dX4_cutPieces_184 : decode cX4_cutPieces 184 = .ok (.iconst 1, 1) := by decide +kernel
theorem dX4_cutPieces_185 : decode cX4_cutPieces 185 = .ok (.iadd, 1) := by decide +kernel
theorem dX4_cutPieces_186 : decode cX4_cutPieces 186 = .ok (.istore_n 3, 1) := by decide +kernel
theorem dX4_cutPieces_187 : decode cX4_cutPieces 187 = .ok (.goto 26, 3) := by decide +kernel
theorem dX4_cutPieces_190 : decode cX4_cutPieces 190 = .ok (.iload 5, 2) := by decide +kernel
theorem dX4_cutPieces_192 : decode cX4_cutPieces 192 = .ok (.bipush 24, 2) := by decide +kernel
theorem dX4_cutPieces_194 : decode cX4_cutPieces 194 = .ok (.if_icmp .ne 19, 3) := by decide +kernel
theorem dX4_cutPieces_197 : decode cX4_cutPieces 197 = .ok (.aload_n 0, 1) := by decide +kernel
theorem dX4_cutPieces_198 : decode cX4_cutPieces 198 = .ok (.iload_n 3, 1) := by decide +kernel
theorem dX4_cutPieces_199 : decode cX4_cutPieces 199 = .ok (.iload 4, 2) := by decide +kernel
theorem dX4_cutPieces_201 : decode cX4_cutPieces 201 = .ok (.iconst 1, 1) := by decide +kernel
theorem dX4_cutPieces_202 : decode cX4_cutPieces 202 = .ok (.iadd, 1) := by decide +kernel
theorem dX4_cutPieces_203 : decode cX4_cutPieces 203 = .ok (.iconst (-1), 1) := by decide +kernel
theorem dX4_cutPieces_204 : decode cX4_cutPieces 204 = .ok (.iconst (-1), 1) := by decide +kernel
theorem dX4_cutPieces_205 : decode cX4_cutPieces 205 = .ok (.invokevirtual 142, 3) := by decide +kernel
theorem dX4_cutPieces_208 : decode cX4_cutPieces 208 = .ok (.iload 4, 2) := by decide +kernel
theorem dX4_cutPieces_210 : decode cX4_cutPieces 210 = .ok (.iconst 1, 1) := by decide +kernel
theorem dX4_cutPieces_211 : decode cX4_cutPieces 211 = .ok (.iadd, 1) := by decide +kernel
theorem dX4_cutPieces_212 : decode cX4_cutPieces 212 = .ok (.istore_n 3, 1) := by decide +kernel
theorem dX4_cutPieces_213 : decode cX4_cutPieces 213 = .ok (.iinc 4 1, 3) := by decide +kernel
theorem dX4_cutPieces_216 : decode cX4_cutPieces 216 = .ok (.goto (-190), 3) := by decide +kernel
theorem dX4_cutPieces_219 : decode cX4_cutPieces 219 = .ok (.return_, 1) := by decide +kernel
theorem dX4_fillBlock_0 : decode cX4_fillBlock 0 = .ok (.iload 4, 2) := by decide +kernel
theorem dX4_fillBlock_2 : decode cX4_fillBlock 2 = .ok (.sipush 320, 3) := by decide +kernel
theorem dX4_fillBlock_5 : decode cX4_fillBlock 5 = .ok (.imul, 1) := by decide +kernel
theorem dX4_fillBlock_6 : decode cX4_fillBlock 6 = .ok (.istore 5, 2) := by decide +kernel
theorem dX4_fillBlock_8 : decode cX4_fillBlock 8 = .ok (.iload 4, 2) := by decide +kernel
theorem dX4_fillBlock_10 : decode cX4_fillBlock 10 = .ok (.ifCond .ne 18, 3) := by decide +kernel
theorem dX4_fillBlock_13 : decode cX4_fillBlock 13 = .ok (.aload_n 0, 1) := by decide +kernel
theorem dX4_fillBlock_14 : decode cX4_fillBlock 14 = .ok (.getfield 64, 3) := by decide +kernel
theorem dX4_fillBlock_17 : decode cX4_fillBlock 17 = .ok (.iconst 0, 1) := by decide +kernel
theorem dX4_fillBlock_18 : decode cX4_fillBlock 18 = .ok (.sipush 320, 3) := by decide +kernel
theorem dX4_fillBlock_21 : decode cX4_fillBlock 21 = .ok (.iconst (-1), 1) := by decide +kernel
theorem dX4_fillBlock_22 : decode cX4_fillBlock 22 = .ok (.invokestatic 255, 3) := by decide +kernel
theorem dX4_fillBlock_25 : decode cX4_fillBlock 25 = .ok (.goto 33, 3) := by decide +kernel
theorem dX4_fillBlock_28 : decode cX4_fillBlock 28 = .ok (.aload_n 0, 1) := by decide +kernel
theorem dX4_fillBlock_29 : decode cX4_fillBlock 29 = .ok (.getfield 64, 3) := by decide +kernel
theorem dX4_fillBlock_32 : decode cX4_fillBlock 32 = .ok (.aload_n 3, 1) := by decide +kernel
theorem dX4_fillBlock_33 : decode cX4_fillBlock 33 = .ok (.getfield 258, 3) := by decide +kernel
theorem dX4_fillBlock_36 : decode cX4_fillBlock 36 = .ok (.iload 4, 2) := by decide +kernel
theorem dX4_fillBlock_38 : decode cX4_fillBlock 38 = .ok (.iaload, 1) := by decide +kernel
theorem dX4_fillBlock_39 : decode cX4_fillBlock 39 = .ok (.sipush 320, 3) := by decide +kernel
theorem dX4_fillBlock_42 : decode cX4_fillBlock 42 = .ok (.imul, 1) := by decide +kernel
theorem dX4_fillBlock_43 : decode cX4_fillBlock 43 = .ok (.aload_n 0, 1) := by decide +kernel
theorem dX4_fillBlock_44 : decode cX4_fillBlock 44 = .ok (.getfield 64, 3) := by decide +kernel
theorem dX4_fillBlock_47 : decode cX4_fillBlock 47 = .ok (.iload 5, 2) := by decide +kernel
theorem dX4_fillBlock_49 : decode cX4_fillBlock 49 = .ok (.aload_n 1, 1) := by decide +kernel
theorem dX4_fillBlock_50 : decode cX4_fillBlock 50 = .ok (.getfield 108, 3) := by decide +kernel
theorem dX4_fillBlock_53 : decode cX4_fillBlock 53 = .ok (.iload_n 2, 1) := by decide +kernel
theorem dX4_fillBlock_54 : decode cX4_fillBlock 54 = .ok (.iaload, 1) := by decide +kernel
theorem dX4_fillBlock_55 : decode cX4_fillBlock 55 = .ok (.invokestatic 261, 3) := by decide +kernel
theorem dX4_fillBlock_58 : decode cX4_fillBlock 58 = .ok (.aload_n 3, 1) := by decide +kernel
theorem dX4_fillBlock_59 : decode cX4_fillBlock 59 = .ok (.getfield 240, 3) := by decide +kernel
theorem dX4_fillBlock_62 : decode cX4_fillBlock 62 = .ok (.iload 4, 2) := by decide +kernel
theorem dX4_fillBlock_64 : decode cX4_fillBlock 64 = .ok (.iaload, 1) := by decide +kernel
theorem dX4_fillBlock_65 : decode cX4_fillBlock 65 = .ok (.istore 6, 2) := by decide +kernel
theorem dX4_fillBlock_67 : decode cX4_fillBlock 67 = .ok (.iload 6, 2) := by decide +kernel
theorem dX4_fillBlock_69 : decode cX4_fillBlock 69 = .ok (.ifCond .lt 37, 3) := by decide +kernel
theorem dX4_fillBlock_72 : decode cX4_fillBlock 72 = .ok (.aload_n 0, 1) := by decide +kernel
theorem dX4_fillBlock_73 : decode cX4_fillBlock 73 = .ok (.getfield 64, 3) := by decide +kernel
theorem dX4_fillBlock_76 : decode cX4_fillBlock 76 = .ok (.iload 5, 2) := by decide +kernel
theorem dX4_fillBlock_78 : decode cX4_fillBlock 78 = .ok (.aload_n 0, 1) := by decide +kernel
theorem dX4_fillBlock_79 : decode cX4_fillBlock 79 = .ok (.getfield 61, 3) := by decide +kernel
theorem dX4_fillBlock_82 : decode cX4_fillBlock 82 = .ok (.iload 6, 2) := by decide +kernel
theorem dX4_fillBlock_84 : decode cX4_fillBlock 84 = .ok (.iaload, 1) := by decide +kernel
theorem dX4_fillBlock_85 : decode cX4_fillBlock 85 = .ok (.iadd, 1) := by decide +kernel
theorem dX4_fillBlock_86 : decode cX4_fillBlock 86 = .ok (.aload_n 3, 1) := by decide +kernel
theorem dX4_fillBlock_87 : decode cX4_fillBlock 87 = .ok (.getfield 243, 3) := by decide +kernel
theorem dX4_fillBlock_90 : decode cX4_fillBlock 90 = .ok (.iload 6, 2) := by decide +kernel
theorem dX4_fillBlock_92 : decode cX4_fillBlock 92 = .ok (.iaload, 1) := by decide +kernel
theorem dX4_fillBlock_93 : decode cX4_fillBlock 93 = .ok (.iastore, 1) := by decide +kernel
theorem dX4_fillBlock_94 : decode cX4_fillBlock 94 = .ok (.aload_n 3, 1) := by decide +kernel
theorem dX4_fillBlock_95 : decode cX4_fillBlock 95 = .ok (.getfield 246, 3) := by decide +kernel
theorem dX4_fillBlock_98 : decode cX4_fillBlock 98 = .ok (.iload 6, 2) := by decide +kernel
theorem dX4_fillBlock_100 : decode cX4_fillBlock 100 = .ok (.iaload, 1) := by decide +kernel
theorem dX4_fillBlock_101 : decode cX4_fillBlock 101 = .ok (.istore 6, 2) := by decide +kernel
theorem dX4_fillBlock_103 : decode cX4_fillBlock 103 = .ok (.goto (-36), 3) := by decide +kernel
theorem dX4_fillBlock_106 : decode cX4_fillBlock 106 = .ok (.aload_n 0, 1) := by decide +kernel
theorem dX4_fillBlock_107 : decode cX4_fillBlock 107 = .ok (.iload 4, 2) := by decide +kernel
theorem dX4_fillBlock_109 : decode cX4_fillBlock 109 = .ok (.invokevirtual 208, 3) := by decide +kernel
theorem dX4_fillBlock_112 : decode cX4_fillBlock 112 = .ok (.istore 6, 2) := by decide +kernel
theorem dX4_fillBlock_114 : decode cX4_fillBlock 114 = .ok (.iload 6, 2) := by decide +kernel
theorem dX4_fillBlock_116 : decode cX4_fillBlock 116 = .ok (.aload_n 0, 1) := by decide +kernel
theorem dX4_fillBlock_117 : decode cX4_fillBlock 117 = .ok (.iload 4, 2) := by decide +kernel
theorem dX4_fillBlock_119 : decode cX4_fillBlock 119 = .ok (.invokevirtual 211, 3) := by decide +kernel
theorem dX4_fillBlock_122 : decode cX4_fillBlock 122 = .ok (.if_icmp .ge 152, 3) := by decide +kernel
theorem dX4_fillBlock_125 : decode cX4_fillBlock 125 = .ok (.aload_n 1, 1) := by decide +kernel
theorem dX4_fillBlock_126 : decode cX4_fillBlock 126 = .ok (.getfield 146, 3) := by decide +kernel
theorem dX4_fillBlock_129 : decode cX4_fillBlock 129 = .ok (.iload 6, 2) := by decide +kernel
theorem dX4_fillBlock_131 : decode cX4_fillBlock 131 = .ok (.iaload, 1) := by decide +kernel
theorem dX4_fillBlock_132 : decode cX4_fillBlock 132 = .ok (.istore 7, 2) := by decide +kernel
theorem dX4_fillBlock_134 : decode cX4_fillBlock 134 = .ok (.aload_n 1, 1) := by decide +kernel
theorem dX4_fillBlock_135 : decode cX4_fillBlock 135 = .ok (.getfield 139, 3) := by decide +kernel
theorem dX4_fillBlock_138 : decode cX4_fillBlock 138 = .ok (.iload 6, 2) := by decide +kernel
theorem dX4_fillBlock_140 : decode cX4_fillBlock 140 = .ok (.iaload, 1) := by decide +kernel
theorem dX4_fillBlock_141 : decode cX4_fillBlock 141 = .ok (.lookupswitch 117 #[(21, 87), (30, 43), (31, 63), (32, 63)], 43) := by decide +kernel
theorem dX4_fillBlock_184 : decode cX4_fillBlock 184 = .ok (.aload_n 0, 1) := by decide +kernel
theorem dX4_fillBlock_185 : decode cX4_fillBlock 185 = .ok (.getfield 18, 3) := by decide +kernel
theorem dX4_fillBlock_188 : decode cX4_fillBlock 188 = .ok (.iload 6, 2) := by decide +kernel
theorem dX4_fillBlock_190 : decode cX4_fillBlock 190 = .ok (.aload_n 0, 1) := by decide +kernel
theorem dX4_fillBlock_191 : decode cX4_fillBlock 191 = .ok (.getfield 64, 3) := by decide +kernel
theorem dX4_fillBlock_194 : decode cX4_fillBlock 194 = .ok (.iload 5, 2) := by decide +kernel
theorem dX4_fillBlock_196 : decode cX4_fillBlock 196 = .ok (.iload 7, 2) := by decide +kernel
theorem dX4_fillBlock_198 : decode cX4_fillBlock 198 = .ok (.iadd, 1) := by decide +kernel
theorem dX4_fillBlock_199 : decode cX4_fillBlock 199 = .ok (.iaload, 1) := by decide +kernel
theorem dX4_fillBlock_200 : decode cX4_fillBlock 200 = .ok (.iastore, 1) := by decide +kernel
theorem dX4_fillBlock_201 : decode cX4_fillBlock 201 = .ok (.goto 67, 3) := by decide +kernel
theorem dX4_fillBlock_204 : decode cX4_fillBlock 204 = .ok (.aload_n 0, 1) := by decide +kernel
theorem dX4_fillBlock_205 : decode cX4_fillBlock 205 = .ok (.getfield 64, 3) := by decide +kernel
theorem dX4_fillBlock_208 : decode cX4_fillBlock 208 = .ok (.iload 5, 2) := by decide +kernel
theorem dX4_fillBlock_210 : decode cX4_fillBlock 210 = .ok (.iload 7, 2) := by decide +kernel
theorem dX4_fillBlock_212 : decode cX4_fillBlock 212 = .ok (.iadd, 1) := by decide +kernel
theorem dX4_fillBlock_213 : decode cX4_fillBlock 213 = .ok (.aload_n 0, 1) := by decide +kernel
theorem dX4_fillBlock_214 : decode cX4_fillBlock 214 = .ok (.aload_n 0, 1) := by decide +kernel
theorem dX4_fillBlock_215 : decode cX4_fillBlock 215 = .ok (.getfield 9, 3) := by decide +kernel
theorem dX4_fillBlock_218 : decode cX4_fillBlock 218 = .ok (.iload 6, 2) := by decide +kernel
theorem dX4_fillBlock_220 : decode cX4_fillBlock 220 = .ok (.iaload, 1) := by decide +kernel
theorem dX4_fillBlock_221 : decode cX4_fillBlock 221 = .ok (.invokevirtual 267, 3) := by decide +kernel
theorem dX4_fillBlock_224 : decode cX4_fillBlock 224 = .ok (.iastore, 1) := by decide +kernel
theorem dX4_fillBlock_225 : decode cX4_fillBlock 225 = .ok (.goto 43, 3) := by decide +kernel
theorem dX4_fillBlock_228 : decode cX4_fillBlock 228 = .ok (.aload_n 0, 1) := by decide +kernel
theorem dX4_fillBlock_229 : decode cX4_fillBlock 229 = .ok (.getfield 64, 3) := by decide +kernel
theorem dX4_fillBlock_232 : decode cX4_fillBlock 232 = .ok (.iload 5, 2) := by decide +kernel
theorem dX4_fillBlock_234 : decode cX4_fillBlock 234 = .ok (.iload 7, 2) := by decide +kernel
theorem dX4_fillBlock_236 : decode cX4_fillBlock 236 = .ok (.iadd, 1) := by decide +kernel
theorem dX4_fillBlock_237 : decode cX4_fillBlock 237 = .ok (.aload_n 0, 1) := by decide +kernel
theorem dX4_fillBlock_238 : decode cX4_fillBlock 238 = .ok (.getfield 18, 3) := by decide +kernel
theorem dX4_fillBlock_241 : decode cX4_fillBlock 241 = .ok (.iload 6, 2) := by decide +kernel
theorem dX4_fillBlock_243 : decode cX4_fillBlock 243 = .ok (.iaload, 1) := by decide +kernel
theorem dX4_fillBlock_244 : decode cX4_fillBlock 244 = .ok (.iastore, 1) := by decide +kernel
theorem dX4_fillBlock_245 : decode cX4_fillBlock 245 = .ok (.aload_n 0, 1) := by decide +kernel
theorem dX4_fillBlock_246 : decode cX4_fillBlock 246 = .ok (.aload_n 1, 1) := by decide +kernel
theorem dX4_fillBlock_247 : decode cX4_fillBlock 247 = .ok (.aload_n 3, 1) := by decide +kernel
theorem dX4_fillBlock_248 : decode cX4_fillBlock 248 = .ok (.iload 4, 2) := by decide +kernel
theorem dX4_fillBlock_250 : decode cX4_fillBlock 250 = .ok (.iload 6, 2) := by decide +kernel
theorem dX4_fillBlock_252 : decode cX4_fillBlock 252 = .ok (.invokevirtual 270, 3) := by decide +kernel
theorem dX4_fillBlock_255 : decode cX4_fillBlock 255 = .ok (.goto 13, 3) := by decide +kernel
theorem dX4_fillBlock_258 : decode cX4_fillBlock 258 = .ok (.aload_n 0, 1) := by decide +kernel
theorem dX4_fillBlock_259 : decode cX4_fillBlock 259 = .ok (.aload_n 1, 1) := by decide +kernel
theorem dX4_fillBlock_260 : decode cX4_fillBlock 260 = .ok (.aload_n 3, 1) := by decide +kernel
theorem dX4_fillBlock_261 : decode cX4_fillBlock 261 = .ok (.iload 4, 2) := by decide +kernel
theorem dX4_fillBlock_263 : decode cX4_fillBlock 263 = .ok (.iload 6, 2) := by decide +kernel
theorem dX4_fillBlock_265 : decode cX4_fillBlock 265 = .ok (.invokevirtual 270, 3) := by decide +kernel
theorem dX4_fillBlock_268 : decode cX4_fillBlock 268 = .ok (.iinc 6 1, 3) := by decide +kernel
theorem dX4_fillBlock_271 : decode cX4_fillBlock 271 = .ok (.goto (-157), 3) := by decide +kernel
theorem dX4_fillBlock_274 : decode cX4_fillBlock 274 = .ok (.return_, 1) := by decide +kernel
theorem dX4_fillPhis_0 : decode cX4_fillPhis 0 = .ok (.iconst 0, 1) := by decide +kernel
theorem dX4_fillPhis_1 : decode cX4_fillPhis 1 = .ok (.istore_n 2, 1) := by decide +kernel
theorem dX4_fillPhis_2 : decode cX4_fillPhis 2 = .ok (.iload_n 2, 1) := by decide +kernel
theorem dX4_fillPhis_3 : decode cX4_fillPhis 3 = .ok (.aload_n 1, 1) := by decide +kernel
theorem dX4_fillPhis_4 : decode cX4_fillPhis 4 = .ok (.getfield 87, 3) := by decide +kernel
theorem dX4_fillPhis_7 : decode cX4_fillPhis 7 = .ok (.if_icmp .ge 83, 3) := by decide +kernel
theorem dX4_fillPhis_10 : decode cX4_fillPhis 10 = .ok (.aload_n 1, 1) := by decide +kernel
theorem dX4_fillPhis_11 : decode cX4_fillPhis 11 = .ok (.getfield 240, 3) := by decide +kernel
theorem dX4_fillPhis_14 : decode cX4_fillPhis 14 = .ok (.iload_n 2, 1) := by decide +kernel
theorem dX4_fillPhis_15 : decode cX4_fillPhis 15 = .ok (.iaload, 1) := by decide +kernel
theorem dX4_fillPhis_16 : decode cX4_fillPhis 16 = .ok (.istore_n 3, 1) := by decide +kernel
theorem dX4_fillPhis_17 : decode cX4_fillPhis 17 = .ok (.iload_n 3, 1) := by decide +kernel
theorem dX4_fillPhis_18 : decode cX4_fillPhis 18 = .ok (.ifCond .lt 66, 3) := by decide +kernel
theorem dX4_fillPhis_21 : decode cX4_fillPhis 21 = .ok (.iconst 0, 1) := by decide +kernel
theorem dX4_fillPhis_22 : decode cX4_fillPhis 22 = .ok (.istore 4, 2) := by decide +kernel
theorem dX4_fillPhis_24 : decode cX4_fillPhis 24 = .ok (.iload 4, 2) := by decide +kernel
theorem dX4_fillPhis_26 : decode cX4_fillPhis 26 = .ok (.aload_n 1, 1) := by decide +kernel
theorem dX4_fillPhis_27 : decode cX4_fillPhis 27 = .ok (.iload_n 2, 1) := by decide +kernel
theorem dX4_fillPhis_28 : decode cX4_fillPhis 28 = .ok (.invokevirtual 218, 3) := by decide +kernel
theorem dX4_fillPhis_31 : decode cX4_fillPhis 31 = .ok (.if_icmp .ge 43, 3) := by decide +kernel
theorem dX4_fillPhis_34 : decode cX4_fillPhis 34 = .ok (.aload_n 1, 1) := by decide +kernel
theorem dX4_fillPhis_35 : decode cX4_fillPhis 35 = .ok (.iload_n 2, 1) := by decide +kernel
theorem dX4_fillPhis_36 : decode cX4_fillPhis 36 = .ok (.iload 4, 2) := by decide +kernel
theorem dX4_fillPhis_38 : decode cX4_fillPhis 38 = .ok (.invokevirtual 224, 3) := by decide +kernel
theorem dX4_fillPhis_41 : decode cX4_fillPhis 41 = .ok (.istore 5, 2) := by decide +kernel
theorem dX4_fillPhis_43 : decode cX4_fillPhis 43 = .ok (.aload_n 1, 1) := by decide +kernel
theorem dX4_fillPhis_44 : decode cX4_fillPhis 44 = .ok (.iload_n 3, 1) := by decide +kernel
theorem dX4_fillPhis_45 : decode cX4_fillPhis 45 = .ok (.iload 5, 2) := by decide +kernel
theorem dX4_fillPhis_47 : decode cX4_fillPhis 47 = .ok (.aload_n 0, 1) := by decide +kernel
theorem dX4_fillPhis_48 : decode cX4_fillPhis 48 = .ok (.getfield 64, 3) := by decide +kernel
theorem dX4_fillPhis_51 : decode cX4_fillPhis 51 = .ok (.iload 5, 2) := by decide +kernel
theorem dX4_fillPhis_53 : decode cX4_fillPhis 53 = .ok (.sipush 320, 3) := by decide +kernel
theorem dX4_fillPhis_56 : decode cX4_fillPhis 56 = .ok (.imul, 1) := by decide +kernel
theorem dX4_fillPhis_57 : decode cX4_fillPhis 57 = .ok (.aload_n 0, 1) := by decide +kernel
theorem dX4_fillPhis_58 : decode cX4_fillPhis 58 = .ok (.getfield 61, 3) := by decide +kernel
theorem dX4_fillPhis_61 : decode cX4_fillPhis 61 = .ok (.iload_n 3, 1) := by decide +kernel
theorem dX4_fillPhis_62 : decode cX4_fillPhis 62 = .ok (.iaload, 1) := by decide +kernel
theorem dX4_fillPhis_63 : decode cX4_fillPhis 63 = .ok (.iadd, 1) := by decide +kernel
theorem dX4_fillPhis_64 : decode cX4_fillPhis 64 = .ok (.iaload, 1) := by decide +kernel
theorem dX4_fillPhis_65 : decode cX4_fillPhis 65 = .ok (.invokevirtual 281, 3) := by decide +kernel
theorem dX4_fillPhis_68 : decode cX4_fillPhis 68 = .ok (.iinc 4 1, 3) := by decide +kernel
theorem dX4_fillPhis_71 : decode cX4_fillPhis 71 = .ok (.goto (-47), 3) := by decide +kernel
theorem dX4_fillPhis_74 : decode cX4_fillPhis 74 = .ok (.aload_n 1, 1) := by decide +kernel
theorem dX4_fillPhis_75 : decode cX4_fillPhis 75 = .ok (.getfield 246, 3) := by decide +kernel
theorem dX4_fillPhis_78 : decode cX4_fillPhis 78 = .ok (.iload_n 3, 1) := by decide +kernel
theorem dX4_fillPhis_79 : decode cX4_fillPhis 79 = .ok (.iaload, 1) := by decide +kernel
theorem dX4_fillPhis_80 : decode cX4_fillPhis 80 = .ok (.istore_n 3, 1) := by decide +kernel
theorem dX4_fillPhis_81 : decode cX4_fillPhis 81 = .ok (.goto (-64), 3) := by decide +kernel
theorem dX4_fillPhis_84 : decode cX4_fillPhis 84 = .ok (.iinc 2 1, 3) := by decide +kernel
theorem dX4_fillPhis_87 : decode cX4_fillPhis 87 = .ok (.goto (-85), 3) := by decide +kernel
theorem dX4_fillPhis_90 : decode cX4_fillPhis 90 = .ok (.return_, 1) := by decide +kernel
theorem dX4_fillStep_0 : decode cX4_fillStep 0 = .ok (.aload_n 1, 1) := by decide +kernel
theorem dX4_fillStep_1 : decode cX4_fillStep 1 = .ok (.getfield 139, 3) := by decide +kernel
theorem dX4_fillStep_4 : decode cX4_fillStep 4 = .ok (.iload 4, 2) := by decide +kernel
theorem dX4_fillStep_6 : decode cX4_fillStep 6 = .ok (.iaload, 1) := by decide +kernel
theorem dX4_fillStep_7 : decode cX4_fillStep 7 = .ok (.istore 5, 2) := by decide +kernel
theorem dX4_fillStep_9 : decode cX4_fillStep 9 = .ok (.aload_n 0, 1) := by decide +kernel
theorem dX4_fillStep_10 : decode cX4_fillStep 10 = .ok (.aload_n 0, 1) := by decide +kernel
theorem dX4_fillStep_11 : decode cX4_fillStep 11 = .ok (.getfield 9, 3) := by decide +kernel
theorem dX4_fillStep_14 : decode cX4_fillStep 14 = .ok (.iload 4, 2) := by decide +kernel
theorem dX4_fillStep_16 : decode cX4_fillStep 16 = .ok (.iaload, 1) := by decide +kernel
theorem dX4_fillStep_17 : decode cX4_fillStep 17 = .ok (.invokevirtual 267, 3) := by decide +kernel
theorem dX4_fillStep_20 : decode cX4_fillStep 20 = .ok (.istore 6, 2) := by decide +kernel
theorem dX4_fillStep_22 : decode cX4_fillStep 22 = .ok (.iload 5, 2) := by decide +kernel
theorem dX4_fillStep_24 : decode cX4_fillStep 24 = .ok (.bipush 24, 2) := by decide +kernel
theorem dX4_fillStep_26 : decode cX4_fillStep 26 = .ok (.if_icmp .eq 17, 3) := by decide +kernel
theorem dX4_fillStep_29 : decode cX4_fillStep 29 = .ok (.iload 5, 2) := by decide +kernel
theorem dX4_fillStep_31 : decode cX4_fillStep 31 = .ok (.bipush 33, 2) := by decide +kernel
theorem dX4_fillStep_33 : decode cX4_fillStep 33 = .ok (.if_icmp .eq 10, 3) := by decide +kernel
theorem dX4_fillStep_36 : decode cX4_fillStep 36 = .ok (.iload 5, 2) := by decide +kernel
theorem dX4_fillStep_38 : decode cX4_fillStep 38 = .ok (.bipush 34, 2) := by decide +kernel
theorem dX4_fillStep_40 : decode cX4_fillStep 40 = .ok (.if_icmp .ne 14, 3) := by decide +kernel
theorem dX4_fillStep_43 : decode cX4_fillStep 43 = .ok (.aload_n 2, 1) := by decide +kernel
theorem dX4_fillStep_44 : decode cX4_fillStep 44 = .ok (.getfield 274, 3) := by decide +kernel
theorem dX4_fillStep_47 : decode cX4_fillStep 47 = .ok (.iload_n 3, 1) := by decide +kernel
theorem dX4_fillStep_48 : decode cX4_fillStep 48 = .ok (.iload 6, 2) := by decide +kernel
theorem dX4_fillStep_50 : decode cX4_fillStep 50 = .ok (.iastore, 1) := by decide +kernel
theorem dX4_fillStep_51 : decode cX4_fillStep 51 = .ok (.goto 95, 3) := by decide +kernel
theorem dX4_fillStep_54 : decode cX4_fillStep 54 = .ok (.iload 5, 2) := by decide +kernel
theorem dX4_fillStep_56 : decode cX4_fillStep 56 = .ok (.bipush 21, 2) := by decide +kernel
theorem dX4_fillStep_58 : decode cX4_fillStep 58 = .ok (.if_icmp .gt 88, 3) := by decide +kernel
theorem dX4_fillStep_61 : decode cX4_fillStep 61 = .ok (.iload 5, 2) := by decide +kernel
theorem dX4_fillStep_63 : decode cX4_fillStep 63 = .ok (.ifCond .eq 17, 3) := by decide +kernel
theorem dX4_fillStep_66 : decode cX4_fillStep 66 = .ok (.iload 5, 2) := by decide +kernel
theorem dX4_fillStep_68 : decode cX4_fillStep 68 = .ok (.bipush 20, 2) := by decide +kernel
theorem dX4_fillStep_70 : decode cX4_fillStep 70 = .ok (.if_icmp .eq 10, 3) := by decide +kernel
theorem dX4_fillStep_73 : decode cX4_fillStep 73 = .ok (.iload 5, 2) := by decide +kernel
theorem dX4_fillStep_75 : decode cX4_fillStep 75 = .ok (.bipush 21, 2) := by decide +kernel
theorem dX4_fillStep_77 : decode cX4_fillStep 77 = .ok (.if_icmp .ne 7, 3) := by decide +kernel
theorem dX4_fillStep_80 : decode cX4_fillStep 80 = .ok (.iconst 1, 1) := by decide +kernel
theorem dX4_fillStep_81 : decode cX4_fillStep 81 = .ok (.goto 4, 3) := by decide +kernel
theorem dX4_fillStep_84 : decode cX4_fillStep 84 = .ok (.iconst 0, 1) := by decide +kernel
theorem dX4_fillStep_85 : decode cX4_fillStep 85 = .ok (.istore 7, 2) := by decide +kernel
theorem dX4_fillStep_87 : decode cX4_fillStep 87 = .ok (.iload 5, 2) := by decide +kernel
theorem dX4_fillStep_89 : decode cX4_fillStep 89 = .ok (.invokestatic 249, 3) := by decide +kernel
theorem dX4_fillStep_92 : decode cX4_fillStep 92 = .ok (.ifCond .eq 13, 3) := by decide +kernel
theorem dX4_fillStep_95 : decode cX4_fillStep 95 = .ok (.aload_n 0, 1) := by decide +kernel
theorem dX4_fillStep_96 : decode cX4_fillStep 96 = .ok (.getfield 18, 3) := by decide +kernel
theorem dX4_fillStep_99 : decode cX4_fillStep 99 = .ok (.iload 4, 2) := by decide +kernel
theorem dX4_fillStep_101 : decode cX4_fillStep 101 = .ok (.iaload, 1) := by decide +kernel
theorem dX4_fillStep_102 : decode cX4_fillStep 102 = .ok (.goto 4, 3) := by decide +kernel
theorem dX4_fillStep_105 : decode cX4_fillStep 105 = .ok (.iconst (-1), 1) := by decide +kernel
theorem dX4_fillStep_106 : decode cX4_fillStep 106 = .ok (.istore 8, 2) := by decide +kernel
theorem dX4_fillStep_108 : decode cX4_fillStep 108 = .ok (.aload_n 2, 1) := by decide +kernel
theorem dX4_fillStep_109 : decode cX4_fillStep 109 = .ok (.iload_n 3, 1) := by decide +kernel
theorem dX4_fillStep_110 : decode cX4_fillStep 110 = .ok (.iload 5, 2) := by decide +kernel
theorem dX4_fillStep_112 : decode cX4_fillStep 112 = .ok (.iload 8, 2) := by decide +kernel
theorem dX4_fillStep_114 : decode cX4_fillStep 114 = .ok (.iload 7, 2) := by decide +kernel
theorem dX4_fillStep_116 : decode cX4_fillStep 116 = .ok (.ifCond .eq 13, 3) := by decide +kernel
theorem dX4_fillStep_119 : decode cX4_fillStep 119 = .ok (.aload_n 1, 1) := by decide +kernel
theorem dX4_fillStep_120 : decode cX4_fillStep 120 = .ok (.getfield 146, 3) := by decide +kernel
theorem dX4_fillStep_123 : decode cX4_fillStep 123 = .ok (.iload 4, 2) := by decide +kernel
theorem dX4_fillStep_125 : decode cX4_fillStep 125 = .ok (.iaload, 1) := by decide +kernel
theorem dX4_fillStep_126 : decode cX4_fillStep 126 = .ok (.goto 5, 3) := by decide +kernel
theorem dX4_fillStep_129 : decode cX4_fillStep 129 = .ok (.iload 6, 2) := by decide +kernel
theorem dX4_fillStep_131 : decode cX4_fillStep 131 = .ok (.aload_n 0, 1) := by decide +kernel
theorem dX4_fillStep_132 : decode cX4_fillStep 132 = .ok (.aload_n 0, 1) := by decide +kernel
theorem dX4_fillStep_133 : decode cX4_fillStep 133 = .ok (.getfield 15, 3) := by decide +kernel
theorem dX4_fillStep_136 : decode cX4_fillStep 136 = .ok (.iload 4, 2) := by decide +kernel
theorem dX4_fillStep_138 : decode cX4_fillStep 138 = .ok (.iaload, 1) := by decide +kernel
theorem dX4_fillStep_139 : decode cX4_fillStep 139 = .ok (.invokevirtual 267, 3) := by decide +kernel
theorem dX4_fillStep_142 : decode cX4_fillStep 142 = .ok (.invokevirtual 277, 3) := by decide +kernel
theorem dX4_fillStep_145 : decode cX4_fillStep 145 = .ok (.pop, 1) := by decide +kernel
theorem dX4_fillStep_146 : decode cX4_fillStep 146 = .ok (.return_, 1) := by decide +kernel
theorem dX4_findLabels_0 : decode cX4_findLabels 0 = .ok (.iconst 0, 1) := by decide +kernel
theorem dX4_findLabels_1 : decode cX4_findLabels 1 = .ok (.istore_n 3, 1) := by decide +kernel
theorem dX4_findLabels_2 : decode cX4_findLabels 2 = .ok (.aload_n 1, 1) := by decide +kernel
theorem dX4_findLabels_3 : decode cX4_findLabels 3 = .ok (.getfield 133, 3) := by decide +kernel
theorem dX4_findLabels_6 : decode cX4_findLabels 6 = .ok (.iload_n 2, 1) := by decide +kernel
theorem dX4_findLabels_7 : decode cX4_findLabels 7 = .ok (.iaload, 1) := by decide +kernel
theorem dX4_findLabels_8 : decode cX4_findLabels 8 = .ok (.istore 4, 2) := by decide +kernel
theorem dX4_findLabels_10 : decode cX4_findLabels 10 = .ok (.iload 4, 2) := by decide +kernel
theorem dX4_findLabels_12 : decode cX4_findLabels 12 = .ok (.aload_n 1, 1) := by decide +kernel
theorem dX4_findLabels_13 : decode cX4_findLabels 13 = .ok (.getfield 136, 3) := by decide +kernel
theorem dX4_findLabels_16 : decode cX4_findLabels 16 = .ok (.iload_n 2, 1) := by decide +kernel
theorem dX4_findLabels_17 : decode cX4_findLabels 17 = .ok (.iaload, 1) := by decide +kernel
theorem dX4_findLabels_18 : decode cX4_findLabels 18 = .ok (.if_icmp .ge 88, 3) := by decide +kernel
theorem dX4_findLabels_21 : decode cX4_findLabels 21 = .ok (.aload_n 1, 1) := by decide +kernel
theorem dX4_findLabels_22 : decode cX4_findLabels 22 = .ok (.getfield 139, 3) := by decide +kernel
theorem dX4_findLabels_25 : decode cX4_findLabels 25 = .ok (.iload 4, 2) := by decide +kernel
theorem dX4_findLabels_27 : decode cX4_findLabels 27 = .ok (.iaload, 1) := by decide +kernel
theorem dX4_findLabels_28 : decode cX4_findLabels 28 = .ok (.istore 5, 2) := by decide +kernel
theorem dX4_findLabels_30 : decode cX4_findLabels 30 = .ok (.iload 5, 2) := by decide +kernel
theorem dX4_findLabels_32 : decode cX4_findLabels 32 = .ok (.bipush 22, 2) := by decide +kernel
theorem dX4_findLabels_34 : decode cX4_findLabels 34 = .ok (.if_icmp .eq 24, 3) := by decide +kernel
theorem dX4_findLabels_37 : decode cX4_findLabels 37 = .ok (.iload 5, 2) := by decide +kernel
theorem dX4_findLabels_39 : decode cX4_findLabels 39 = .ok (.bipush 33, 2) := by decide +kernel
theorem dX4_findLabels_41 : decode cX4_findLabels 41 = .ok (.if_icmp .eq 17, 3) := by decide +kernel
theorem dX4_findLabels_44 : decode cX4_findLabels 44 = .ok (.iload 5, 2) := by decide +kernel
theorem dX4_findLabels_46 : decode cX4_findLabels 46 = .ok (.bipush 34, 2) := by decide +kernel
theorem dX4_findLabels_48 : decode cX4_findLabels 48 = .ok (.if_icmp .eq 10, 3) := by decide +kernel
theorem dX4_findLabels_51 : decode cX4_findLabels 51 = .ok (.iload 5, 2) := by decide +kernel
theorem dX4_findLabels_53 : decode cX4_findLabels 53 = .ok (.bipush 24, 2) := by decide +kernel
theorem dX4_findLabels_55 : decode cX4_findLabels 55 = .ok (.if_icmp .ne 7, 3) := by decide +kernel
theorem dX4_findLabels_58 : decode cX4_findLabels 58 = .ok (.iconst 1, 1) := by decide +kernel
theorem dX4_findLabels_59 : decode cX4_findLabels 59 = .ok (.goto 4, 3) := by decide +kernel
theorem dX4_findLabels_62 : decode cX4_findLabels 62 = .ok (.iconst 0, 1) := by decide +kernel
theorem dX4_findLabels_63 : decode cX4_findLabels 63 = .ok (.istore 6, 2) := by decide +kernel
theorem dX4_findLabels_65 : decode cX4_findLabels 65 = .ok (.iload 6, 2) := by decide +kernel
theorem dX4_findLabels_67 : decode cX4_findLabels 67 = .ok (.ifCond .ne 10, 3) := by decide +kernel
theorem dX4_findLabels_70 : decode cX4_findLabels 70 = .ok (.iload 5, 2) := by decide +kernel
theorem dX4_findLabels_72 : decode cX4_findLabels 72 = .ok (.bipush 35, 2) := by decide +kernel
theorem dX4_findLabels_74 : decode cX4_findLabels 74 = .ok (.if_icmp .ne 6, 3) := by decide +kernel
theorem dX4_findLabels_77 : decode cX4_findLabels 77 = .ok (.iinc 3 1, 3) := by decide +kernel
theorem dX4_findLabels_80 : decode cX4_findLabels 80 = .ok (.iload 5, 2) := by decide +kernel
theorem dX4_findLabels_82 : decode cX4_findLabels 82 = .ok (.bipush 35, 2) := by decide +kernel
theorem dX4_findLabels_84 : decode cX4_findLabels 84 = .ok (.if_icmp .ne 16, 3) := by decide +kernel
theorem dX4_findLabels_87 : decode cX4_findLabels 87 = .ok (.aload_n 0, 1) := by decide +kernel
theorem dX4_findLabels_88 : decode cX4_findLabels 88 = .ok (.getfield 42, 3) := by decide +kernel
theorem dX4_findLabels_91 : decode cX4_findLabels 91 = .ok (.aload_n 1, 1) := by decide +kernel
theorem dX4_findLabels_92 : decode cX4_findLabels 92 = .ok (.getfield 146, 3) := by decide +kernel
theorem dX4_findLabels_95 : decode cX4_findLabels 95 = .ok (.iload 4, 2) := by decide +kernel
theorem dX4_findLabels_97 : decode cX4_findLabels 97 = .ok (.iaload, 1) := by decide +kernel
theorem dX4_findLabels_98 : decode cX4_findLabels 98 = .ok (.iload_n 3, 1) := by decide +kernel
theorem dX4_findLabels_99 : decode cX4_findLabels 99 = .ok (.iastore, 1) := by decide +kernel
theorem dX4_findLabels_100 : decode cX4_findLabels 100 = .ok (.iinc 4 1, 3) := by decide +kernel
theorem dX4_findLabels_103 : decode cX4_findLabels 103 = .ok (.goto (-93), 3) := by decide +kernel
theorem dX4_findLabels_106 : decode cX4_findLabels 106 = .ok (.return_, 1) := by decide +kernel
theorem dX4_opsFrom_0 : decode cX4_opsFrom 0 = .ok (.aload_n 0, 1) := by decide +kernel
theorem dX4_opsFrom_1 : decode cX4_opsFrom 1 = .ok (.getfield 48, 3) := by decide +kernel
theorem dX4_opsFrom_4 : decode cX4_opsFrom 4 = .ok (.iload_n 1, 1) := by decide +kernel
theorem dX4_opsFrom_5 : decode cX4_opsFrom 5 = .ok (.iaload, 1) := by decide +kernel
theorem dX4_opsFrom_6 : decode cX4_opsFrom 6 = .ok (.ifCond .ge 7, 3) := by decide +kernel
theorem dX4_opsFrom_9 : decode cX4_opsFrom 9 = .ok (.iconst 0, 1) := by decide +kernel
theorem dX4_opsFrom_10 : decode cX4_opsFrom 10 = .ok (.goto 14, 3) := by decide +kernel
theorem dX4_opsFrom_13 : decode cX4_opsFrom 13 = .ok (.aload_n 0, 1) := by decide +kernel
theorem dX4_opsFrom_14 : decode cX4_opsFrom 14 = .ok (.getfield 24, 3) := by decide +kernel
theorem dX4_opsFrom_17 : decode cX4_opsFrom 17 = .ok (.aload_n 0, 1) := by decide +kernel
theorem dX4_opsFrom_18 : decode cX4_opsFrom 18 = .ok (.getfield 48, 3) := by decide +kernel
theorem dX4_opsFrom_21 : decode cX4_opsFrom 21 = .ok (.iload_n 1, 1) := by decide +kernel
theorem dX4_opsFrom_22 : decode cX4_opsFrom 22 = .ok (.iaload, 1) := by decide +kernel
theorem dX4_opsFrom_23 : decode cX4_opsFrom 23 = .ok (.iaload, 1) := by decide +kernel
theorem dX4_opsFrom_24 : decode cX4_opsFrom 24 = .ok (.ireturn, 1) := by decide +kernel
theorem dX4_opsTo_0 : decode cX4_opsTo 0 = .ok (.aload_n 0, 1) := by decide +kernel
theorem dX4_opsTo_1 : decode cX4_opsTo 1 = .ok (.getfield 48, 3) := by decide +kernel
theorem dX4_opsTo_4 : decode cX4_opsTo 4 = .ok (.iload_n 1, 1) := by decide +kernel
theorem dX4_opsTo_5 : decode cX4_opsTo 5 = .ok (.iaload, 1) := by decide +kernel
theorem dX4_opsTo_6 : decode cX4_opsTo 6 = .ok (.ifCond .ge 7, 3) := by decide +kernel
theorem dX4_opsTo_9 : decode cX4_opsTo 9 = .ok (.iconst 0, 1) := by decide +kernel
theorem dX4_opsTo_10 : decode cX4_opsTo 10 = .ok (.goto 14, 3) := by decide +kernel
theorem dX4_opsTo_13 : decode cX4_opsTo 13 = .ok (.aload_n 0, 1) := by decide +kernel
theorem dX4_opsTo_14 : decode cX4_opsTo 14 = .ok (.getfield 27, 3) := by decide +kernel
theorem dX4_opsTo_17 : decode cX4_opsTo 17 = .ok (.aload_n 0, 1) := by decide +kernel
theorem dX4_opsTo_18 : decode cX4_opsTo 18 = .ok (.getfield 48, 3) := by decide +kernel
theorem dX4_opsTo_21 : decode cX4_opsTo 21 = .ok (.iload_n 1, 1) := by decide +kernel
theorem dX4_opsTo_22 : decode cX4_opsTo 22 = .ok (.iaload, 1) := by decide +kernel
theorem dX4_opsTo_23 : decode cX4_opsTo 23 = .ok (.iaload, 1) := by decide +kernel
theorem dX4_opsTo_24 : decode cX4_opsTo 24 = .ok (.ireturn, 1) := by decide +kernel
theorem dX4_valueAt_0 : decode cX4_valueAt 0 = .ok (.iload_n 1, 1) := by decide +kernel
theorem dX4_valueAt_1 : decode cX4_valueAt 1 = .ok (.ifCond .ge 7, 3) := by decide +kernel
theorem dX4_valueAt_4 : decode cX4_valueAt 4 = .ok (.iconst (-1), 1) := by decide +kernel
theorem dX4_valueAt_5 : decode cX4_valueAt 5 = .ok (.goto 9, 3) := by decide +kernel
theorem dX4_valueAt_8 : decode cX4_valueAt 8 = .ok (.aload_n 0, 1) := by decide +kernel
theorem dX4_valueAt_9 : decode cX4_valueAt 9 = .ok (.getfield 18, 3) := by decide +kernel
theorem dX4_valueAt_12 : decode cX4_valueAt 12 = .ok (.iload_n 1, 1) := by decide +kernel
theorem dX4_valueAt_13 : decode cX4_valueAt 13 = .ok (.iaload, 1) := by decide +kernel
theorem dX4_valueAt_14 : decode cX4_valueAt 14 = .ok (.ireturn, 1) := by decide +kernel
theorem qw255 : Cond.fieldLink RX4 130 "Gearbox$Maker" "pieces" "I" ∈ gw := mq_2 (i := 148) rfl rfl
theorem qw256 : Cond.fieldLink RX4 24 "Gearbox$Maker" "pieceFrom" "[I" ∈ gw := mq_2 (i := 149) rfl rfl
theorem qw257 : Cond.fieldLink RX4 27 "Gearbox$Maker" "pieceTo" "[I" ∈ gw := mq_2 (i := 150) rfl rfl
theorem qw258 : Cond.fieldLink RX4 30 "Gearbox$Maker" "pieceFirst" "[I" ∈ gw := mq_2 (i := 151) rfl rfl
theorem qw259 : Cond.fieldLink RX4 33 "Gearbox$Maker" "pieceSecond" "[I" ∈ gw := mq_2 (i := 152) rfl rfl
theorem qw260 : Cond.fieldLink RX4 39 "Gearbox$Maker" "pieceBlock" "[I" ∈ gw := mq_2 (i := 154) rfl rfl
theorem qw261 : Cond.fieldLink RX4 133 "Gearbox$Program" "from" "[I" ∈ gw := mq_3 (i := 169) rfl rfl
theorem qw262 : Cond.fieldLink RX4 136 "Gearbox$Program" "to" "[I" ∈ gw := mq_3 (i := 173) rfl rfl
theorem qw263 : Cond.fieldLink RX4 139 "Gearbox$Program" "op" "[I" ∈ gw := mq_3 (i := 178) rfl rfl
theorem qw264 : Cond.fieldLink RX4 42 "Gearbox$Maker" "labelPiece" "[I" ∈ gw := mq_2 (i := 155) rfl rfl
theorem qw265 : Cond.fieldLink RX4 146 "Gearbox$Program" "argument" "[I" ∈ gw := mq_3 (i := 181) rfl rfl
theorem qw266 : Cond.code yX4_findLabels cX4_findLabels 7 (Option.none : Option Jvm.ClassFile.FieldType) ∈ gw := mq_5 (i := 192) rfl rfl
theorem qw267 : Cond.methodLink RX4 127 yX4_findLabels ∈ gw := mq_5 (i := 189) rfl rfl
theorem qw268 : Cond.instanceMethod yX4_findLabels ∈ gw := mq_5 (i := 191) rfl rfl
theorem qw269 : Cond.selects RX4 yX4_findLabels yX4_findLabels ∈ gw := mk_s (i := 8) rfl rfl
theorem qw270 : Cond.initialized RX4 ∈ gw := mq_1 (i := 22) rfl rfl
theorem qw271 : Cond.code yX4_addPiece cX4_addPiece 5 (Option.none : Option Jvm.ClassFile.FieldType) ∈ gw := mq_5 (i := 196) rfl rfl
theorem qw272 : Cond.methodLink RX4 142 yX4_addPiece ∈ gw := mq_5 (i := 193) rfl rfl
theorem qw273 : Cond.instanceMethod yX4_addPiece ∈ gw := mq_5 (i := 195) rfl rfl
theorem qw274 : Cond.selects RX4 yX4_addPiece yX4_addPiece ∈ gw := mk_s (i := 9) rfl rfl
theorem qw275 : Cond.fieldLink RX4 64 "Gearbox$Maker" "now" "[I" ∈ gw := mq_2 (i := 162) rfl rfl
theorem qw276 : Cond.code yJ7_rangeCheck_23922 cJ7_rangeCheck_23922 3 (Option.none : Option Jvm.ClassFile.FieldType) ∈ gw := mq_6 (i := 132) rfl rfl
theorem qw277 : Cond.methodLink RJ7 13 yJ7_rangeCheck_23922 ∈ gw := mq_6 (i := 130) rfl rfl
theorem qw278 : Cond.static yJ7_rangeCheck_23922 ∈ gw := mq_6 (i := 131) rfl rfl
theorem qw279 : Cond.code yJ7_fill_fda19 cJ7_fill_fda19 5 (Option.none : Option Jvm.ClassFile.FieldType) ∈ gw := mq_6 (i := 129) rfl rfl
theorem qw280 : Cond.methodLink RX4 255 yJ7_fill_fda19 ∈ gw := mq_6 (i := 127) rfl rfl
theorem qw281 : Cond.static yJ7_fill_fda19 ∈ gw := mq_6 (i := 128) rfl rfl
theorem qw282 : Cond.fieldLink RX4 240 "Gearbox$Flow" "firstPhi" "[I" ∈ gw := mq_1 (i := 239) rfl rfl
theorem qw283 : Cond.fieldLink RX4 61 "Gearbox$Maker" "phiVariable" "[I" ∈ gw := mq_2 (i := 161) rfl rfl
theorem qw284 : Cond.fieldLink RX4 243 "Gearbox$Flow" "phiGives" "[I" ∈ gw := mq_2 (i := 60) rfl rfl
theorem qw285 : Cond.fieldLink RX4 246 "Gearbox$Flow" "phiNext" "[I" ∈ gw := mq_2 (i := 67) rfl rfl
theorem qw286 : Cond.fieldLink RX4 48 "Gearbox$Maker" "pieceOf" "[I" ∈ gw := mq_2 (i := 157) rfl rfl
theorem qw287 : Cond.code yX4_opsFrom cX4_opsFrom 2 (Option.some Jvm.ClassFile.FieldType.int) ∈ gw := mq_6 (i := 70) rfl rfl
theorem qw288 : Cond.methodLink RX4 208 yX4_opsFrom ∈ gw := mq_6 (i := 67) rfl rfl
theorem qw289 : Cond.instanceMethod yX4_opsFrom ∈ gw := mq_6 (i := 69) rfl rfl
theorem qw290 : Cond.selects RX4 yX4_opsFrom yX4_opsFrom ∈ gw := mk_s (i := 10) rfl rfl
theorem qw291 : Cond.code yX4_opsTo cX4_opsTo 2 (Option.some Jvm.ClassFile.FieldType.int) ∈ gw := mq_6 (i := 74) rfl rfl
theorem qw292 : Cond.methodLink RX4 211 yX4_opsTo ∈ gw := mq_6 (i := 71) rfl rfl
theorem qw293 : Cond.instanceMethod yX4_opsTo ∈ gw := mq_6 (i := 73) rfl rfl
theorem qw294 : Cond.selects RX4 yX4_opsTo yX4_opsTo ∈ gw := mk_s (i := 11) rfl rfl
theorem qw295 : Cond.fieldLink RX4 18 "Gearbox$Maker" "valueOf" "[I" ∈ gw := mq_2 (i := 146) rfl rfl
theorem qw296 : Cond.fieldLink RX4 9 "Gearbox$Maker" "leftOp" "[I" ∈ gw := mq_2 (i := 144) rfl rfl
theorem qw297 : Cond.code yX4_valueAt cX4_valueAt 2 (Option.some Jvm.ClassFile.FieldType.int) ∈ gw := mq_7 (i := 97) rfl rfl
theorem qw298 : Cond.methodLink RX4 267 yX4_valueAt ∈ gw := mq_7 (i := 94) rfl rfl
theorem qw299 : Cond.instanceMethod yX4_valueAt ∈ gw := mq_7 (i := 96) rfl rfl
theorem qw300 : Cond.selects RX4 yX4_valueAt yX4_valueAt ∈ gw := mk_s (i := 12) rfl rfl
theorem qw301 : Cond.fieldLink RX4 274 "Gearbox$Flow" "endValue" "[I" ∈ gw := mq_2 (i := 17) rfl rfl
theorem qw302 : Cond.code yX11_givesValue cX11_givesValue 1 (Option.some Jvm.ClassFile.FieldType.boolean) ∈ gw := mq_6 (i := 122) rfl rfl
theorem qw303 : Cond.static yX11_givesValue ∈ gw := mq_6 (i := 121) rfl rfl
theorem qw304 : Cond.fieldLink RX4 15 "Gearbox$Maker" "rightOp" "[I" ∈ gw := mq_2 (i := 145) rfl rfl
theorem qw305 : Cond.methodLink RX4 277 yX1_addStep ∈ gw := mq_7 (i := 102) rfl rfl
theorem qw306 : Cond.code yX4_fillStep cX4_fillStep 9 (Option.none : Option Jvm.ClassFile.FieldType) ∈ gw := mq_7 (i := 101) rfl rfl
theorem qw307 : Cond.methodLink RX4 270 yX4_fillStep ∈ gw := mq_7 (i := 98) rfl rfl
theorem qw308 : Cond.instanceMethod yX4_fillStep ∈ gw := mq_7 (i := 100) rfl rfl
theorem qw309 : Cond.selects RX4 yX4_fillStep yX4_fillStep ∈ gw := mk_s (i := 13) rfl rfl
theorem qw310 : Cond.fieldLink RX4 258 "Gearbox$Flow" "dominator" "[I" ∈ gw := mq_2 (i := 38) rfl rfl
theorem qw311 : Cond.fieldLink RX4 108 "Gearbox$Program" "variables" "[I" ∈ gw := mq_3 (i := 166) rfl rfl
theorem qw312 : Cond.methodLink RX4 261 ⟨"java/lang/System", "arraycopy", "(Ljava/lang/Object;ILjava/lang/Object;II)V"⟩ ∈ gw := mq_7 (i := 93) rfl rfl
theorem qw313 : Cond.fieldLink RX4 87 "Gearbox$Flow" "blocks" "I" ∈ gw := mq_1 (i := 213) rfl rfl
theorem qw314 : Cond.methodLink RX4 218 yX1_waysTo ∈ gw := mq_6 (i := 80) rfl rfl
theorem qw315 : Cond.methodLink RX4 224 yX1_wayFrom ∈ gw := mq_6 (i := 81) rfl rfl
theorem qw316 : Cond.code yX1_setTake cX1_setTake 4 (Option.none : Option Jvm.ClassFile.FieldType) ∈ gw := mq_7 (i := 122) rfl rfl
theorem qw317 : Cond.methodLink RX4 281 yX1_setTake ∈ gw := mq_7 (i := 119) rfl rfl
theorem qw318 : Cond.instanceMethod yX1_setTake ∈ gw := mq_7 (i := 120) rfl rfl
theorem qw319 : Cond.selects RX1 yX1_setTake yX1_setTake ∈ gw := mq_7 (i := 121) rfl rfl
def fX4_addPiece_J61 (p0w_61 : ST) : Option ST := some p0w_61
def fX4_addPiece (p0w : ST) (p1 : Int32) (p2 : Int32) (p3 : Int32) (p4 : Int32) : Option ST := (if 640 ≤ (p0w 0 5) then (fX4_addPiece_J61 p0w) else (if ixb (p0w 0 5) 640 = true then (lt9 (upw p0w 7 (nn (p0w 0 5)) p1) fun (w3 : ST) => (if ixb (w3 0 5) 640 = true then (lt9 (upw w3 8 (nn (w3 0 5)) p2) fun (w5 : ST) => (if ixb (w5 0 5) 640 = true then (lt9 (upw w5 9 (nn (w5 0 5)) p3) fun (w7 : ST) => (if ixb (w7 0 5) 640 = true then (lt9 (upw w7 10 (nn (w7 0 5)) p4) fun (w9 : ST) => (lt9 (upw w9 0 5 ((w9 0 5) + 1)) fun (w10 : ST) => (fX4_addPiece_J61 w10))) else none)) else none)) else none)) else none))
set_option maxHeartbeats 16000000 in
set_option maxRecDepth 100000 in
theorem kX4_addPiece {zs : ZS} (l : Launch) (dC : Nat → ClassId) (dI : Nat → Nat → Nat) (p0a : Nat → Nat) (p0k : Nat → ClassId) (p0w : ST) (p0l : SL) (p1 : Int32) (p2 : Int32) (p3 : Int32) (p4 : Int32) (sz : Nat) (o : ST) (hrun : fX4_addPiece p0w p1 p2 p3 p4 = some o) : Met l yX4_addPiece (wz yX4_addPiece cX4_addPiece 5 (Option.none : Option Jvm.ClassFile.FieldType)) ({ frames := 0, cells := 0, slots := 0, locals := 0 } : Room) (va_Pc [.ref (p0a 0), .int p1, .int p2, .int p3, .int p4] (PRE zs dC dI (List.flatten ([(oX4 (p0a 0) p0a p0k p0w p0l)] : List va_W)) (List.flatten ([(tX4 p0k)] : List (List (ClassId × FieldType)))) sz)) (va_Qv (fun (_ : Unit) => True) (fun _ t => POST dC dI (List.flatten ([(oX4 (p0a 0) p0a p0k o p0l)] : List va_W)) (List.flatten ([(tX4 p0k)] : List (List (ClassId × FieldType)))) (va_A (List.flatten ([(oX4 (p0a 0) p0a p0k p0w p0l)] : List va_W)) sz) t) (va_A (List.flatten ([(oX4 (p0a 0) p0a p0k p0w p0l)] : List va_W)) sz)) 0 0 (va_A (List.flatten ([(oX4 (p0a 0) p0a p0k p0w p0l)] : List va_W)) sz) := by
  refine Met.ofW (cc := cX4_addPiece) (maxL := 5) (ret := (Option.none : Option Jvm.ClassFile.FieldType)) (by decide) rfl ?_
  intro p e s m args below meth c s₁ B hml hv
  obtain ⟨rfl, hsz, hP, hK, hD0, hE⟩ := hv
  have hx := B.exec
  have hb := B.bytes
  have hr := B.returns
  have hts0 := atoms_spec (ws := wz yX4_addPiece cX4_addPiece 5 (Option.none : Option Jvm.ClassFile.FieldType)) B.pre
  have hts : ∀ w ∈ gw, w.before _ s = true := fun w h => hts0 w (List.mem_cons_of_mem _ h)
  have hown : s.vm.findClass RX4 = some m.cls := findClass_of_methodNamed B.named
  have hlocks := B.notSynchronized
  subst hsz
  have hD := hD0.self (sz := s.heap.size)
  refine gQ9 ?_
  intro Q hQ
  generalize hAe : va_A (List.flatten ([(oX4 (p0a 0) p0a p0k p0w p0l)] : List va_W)) s.heap.size = A at hD hE hQ
  have hA : ∀ q : Nat, s.heap.size ≤ q → A q := fun q h => by rw [← hAe]; exact Or.inr h
  have hS : va_S A s.heap s.heap [] := va_S.rf
  have hP : va_P (dC, dI) cls (List.flatten ([(oX4 (p0a 0) p0a p0k p0w p0l)] : List va_W)) s.heap := hP
  have hl := lv_entry ([.ref (p0a 0), .int p1, .int p2, .int p3, .int p4]) (n := 5) (Nat.le_of_ble_eq_true rfl)
  rw [lg_entry_eq]
  generalize (lg_sl ([.ref (p0a 0), .int p1, .int p2, .int p3, .int p4]) ++ List.replicate (5 - (lg_sl ([.ref (p0a 0), .int p1, .int p2, .int p3, .int p4])).length) Slot.unset).toArray = ls at hl ⊢
  have hl : lv_has ls 5 [(0, .ref (p0a 0)), (1, .int p1), (2, .int p2), (3, .int p3), (4, .int p4)] := hl
  obtain ⟨H, hHe⟩ : ∃ H, H = s.heap := ⟨_, rfl⟩
  obtain ⟨locs, hle⟩ : ∃ locs : List Loc, locs = [] := ⟨_, rfl⟩
  rw [← hHe] at hP
  have hS : va_S A s.heap H locs := by rw [hHe, hle]; exact hS
  show W p l e ({ frames := 0, cells := 0, slots := 0, locals := 0 } : Room) s m ([.ref (p0a 0), .int p1, .int p2, .int p3, .int p4] : List Value).toArray below meth c s.heap [] 0 0 Q (F0 m 0 ls [])
  rw [← hle]
  refine wH9 hHe ?_
  unfold fX4_addPiece at hrun
  refine lv_aload_n hx hb dX4_addPiece_0 rfl (lv_at hl 0 rfl) ?_
  refine va_get (D := (dC, dI)) (ci := 6) (v := .int (p0w 0 5)) (C := RX4) (T := TX4) (N := 20) hx hb hts i_X4 hown hK hP 0 rfl rfl 5 (by decide) (hts _ qw255) (fun _ h9 => h9) rfl dX4_addPiece_1 ?_
  refine lv_sipush (v := 640) hx hb dX4_addPiece_4 (by decide) ?_
  have J61 : ∀ (p0w_61 : ST) (H : Heap) (locs : List Loc) (ls : Array Slot), (fX4_addPiece_J61 p0w_61) = some o → va_P (dC, dI) cls (List.flatten ([(oX4 (p0a 0) p0a p0k p0w_61 p0l)] : List va_W)) H → va_D A (List.flatten ([(oX4 (p0a 0) p0a p0k p0w_61 p0l)] : List va_W)) → va_K (dC, dI) cls (List.flatten ([(tX4 p0k)] : List (List (ClassId × FieldType)))) s → va_S A s.heap H locs → lv_has ls 5 [] → W p l e ({ frames := 0, cells := 0, slots := 0, locals := 0 } : Room) s m ([.ref (p0a 0), .int p1, .int p2, .int p3, .int p4] : List Value).toArray below meth c H locs 0 0 Q (F0 m 61 ls []) := by
    intro p0w_61 H locs ls hrun hP hD hK hS hl 
    unfold fX4_addPiece_J61 at hrun
    have ho9 : p0w_61 = o := Option.some.inj hrun
    have hP9 : va_P (dC, dI) cls (List.flatten ([(oX4 (p0a 0) p0a p0k o p0l)] : List va_W)) H := by first | exact hP | (rw [← ho9]; exact hP)
    have hD9 : va_D A (List.flatten ([(oX4 (p0a 0) p0a p0k o p0l)] : List va_W)) := by first | exact hD | (rw [← ho9]; exact hD)
    subst hQ
    exact W.vret hx hb hr (fun t ht hW => ⟨⟨(), rfl, trivial, ⟨by rw [ht]; exact hP9, va_K.moved hW.alike hK, hD9⟩⟩, hS.F ht⟩) hS.2.2 dX4_addPiece_61
  rcases br9 hrun with ⟨hc1, hrun⟩ | ⟨hc1, hrun⟩
  · refine lv_icmp_ge (tgt := 61) hx hb dX4_addPiece_7 (by decide) (fun _ => ?_) (fun c => absurd hc1 c)
    exact J61 p0w _ _ _ hrun hP hD hK hS (lv_sub hl [] rfl)
  · refine lv_icmp_ge (tgt := 61) hx hb dX4_addPiece_7 (by decide) (fun c => absurd c hc1) (fun _ => ?_)
    refine lv_aload_n hx hb dX4_addPiece_10 rfl (lv_at hl 0 rfl) ?_
    refine va_get (D := (dC, dI)) (ci := 6) (v := .ref (p0a 7)) (C := RX4) (T := TX4) (N := 20) hx hb hts i_X4 hown hK hP 0 rfl rfl 6 (by decide) (hts _ qw256) (fun _ h9 => h9) rfl dX4_addPiece_11 ?_
    refine lv_aload_n hx hb dX4_addPiece_14 rfl (lv_at hl 0 rfl) ?_
    refine va_get (D := (dC, dI)) (ci := 6) (v := .int (p0w 0 5)) (C := RX4) (T := TX4) (N := 20) hx hb hts i_X4 hown hK hP 0 rfl rfl 5 (by decide) (hts _ qw255) (fun _ h9 => h9) rfl dX4_addPiece_15 ?_
    refine lv_iload_n hx hb dX4_addPiece_18 rfl (lv_at hl 1 rfl) ?_
    obtain ⟨hq2, hrun⟩ := chk9 hrun
    refine va_iast hx hb hK hP hD hS 5 4 rfl rfl (ixb_in hq2) dX4_addPiece_19 (fun H locs hP hD hS => ?_)
    have hP : va_P (dC, dI) cls (List.flatten ([(oX4 (p0a 0) p0a p0k (upw p0w 7 (nn (p0w 0 5)) p1) p0l)] : List va_W)) H := hP
    have hD : va_D A (List.flatten ([(oX4 (p0a 0) p0a p0k (upw p0w 7 (nn (p0w 0 5)) p1) p0l)] : List va_W)) := hD
    obtain ⟨w3, ew3, hrun⟩ := let9 hrun
    rw [← ew3] at hP hD
    refine lv_aload_n hx hb dX4_addPiece_20 rfl (lv_at hl 0 rfl) ?_
    refine va_get (D := (dC, dI)) (ci := 6) (v := .ref (p0a 8)) (C := RX4) (T := TX4) (N := 20) hx hb hts i_X4 hown hK hP 0 rfl rfl 7 (by decide) (hts _ qw257) (fun _ h9 => h9) rfl dX4_addPiece_21 ?_
    refine lv_aload_n hx hb dX4_addPiece_24 rfl (lv_at hl 0 rfl) ?_
    refine va_get (D := (dC, dI)) (ci := 6) (v := .int (w3 0 5)) (C := RX4) (T := TX4) (N := 20) hx hb hts i_X4 hown hK hP 0 rfl rfl 5 (by decide) (hts _ qw255) (fun _ h9 => h9) rfl dX4_addPiece_25 ?_
    refine lv_iload_n hx hb dX4_addPiece_28 rfl (lv_at hl 2 rfl) ?_
    obtain ⟨hq4, hrun⟩ := chk9 hrun
    refine va_iast hx hb hK hP hD hS 6 5 rfl rfl (ixb_in hq4) dX4_addPiece_29 (fun H locs hP hD hS => ?_)
    have hP : va_P (dC, dI) cls (List.flatten ([(oX4 (p0a 0) p0a p0k (upw w3 8 (nn (w3 0 5)) p2) p0l)] : List va_W)) H := hP
    have hD : va_D A (List.flatten ([(oX4 (p0a 0) p0a p0k (upw w3 8 (nn (w3 0 5)) p2) p0l)] : List va_W)) := hD
    obtain ⟨w5, ew5, hrun⟩ := let9 hrun
    rw [← ew5] at hP hD
    refine lv_aload_n hx hb dX4_addPiece_30 rfl (lv_at hl 0 rfl) ?_
    refine va_get (D := (dC, dI)) (ci := 6) (v := .ref (p0a 9)) (C := RX4) (T := TX4) (N := 20) hx hb hts i_X4 hown hK hP 0 rfl rfl 8 (by decide) (hts _ qw258) (fun _ h9 => h9) rfl dX4_addPiece_31 ?_
    refine lv_aload_n hx hb dX4_addPiece_34 rfl (lv_at hl 0 rfl) ?_
    refine va_get (D := (dC, dI)) (ci := 6) (v := .int (w5 0 5)) (C := RX4) (T := TX4) (N := 20) hx hb hts i_X4 hown hK hP 0 rfl rfl 5 (by decide) (hts _ qw255) (fun _ h9 => h9) rfl dX4_addPiece_35 ?_
    refine lv_iload_n hx hb dX4_addPiece_38 rfl (lv_at hl 3 rfl) ?_
    obtain ⟨hq6, hrun⟩ := chk9 hrun
    refine va_iast hx hb hK hP hD hS 7 6 rfl rfl (ixb_in hq6) dX4_addPiece_39 (fun H locs hP hD hS => ?_)
    have hP : va_P (dC, dI) cls (List.flatten ([(oX4 (p0a 0) p0a p0k (upw w5 9 (nn (w5 0 5)) p3) p0l)] : List va_W)) H := hP
    have hD : va_D A (List.flatten ([(oX4 (p0a 0) p0a p0k (upw w5 9 (nn (w5 0 5)) p3) p0l)] : List va_W)) := hD
    obtain ⟨w7, ew7, hrun⟩ := let9 hrun
    rw [← ew7] at hP hD
    refine lv_aload_n hx hb dX4_addPiece_40 rfl (lv_at hl 0 rfl) ?_
    refine va_get (D := (dC, dI)) (ci := 6) (v := .ref (p0a 10)) (C := RX4) (T := TX4) (N := 20) hx hb hts i_X4 hown hK hP 0 rfl rfl 9 (by decide) (hts _ qw259) (fun _ h9 => h9) rfl dX4_addPiece_41 ?_
    refine lv_aload_n hx hb dX4_addPiece_44 rfl (lv_at hl 0 rfl) ?_
    refine va_get (D := (dC, dI)) (ci := 6) (v := .int (w7 0 5)) (C := RX4) (T := TX4) (N := 20) hx hb hts i_X4 hown hK hP 0 rfl rfl 5 (by decide) (hts _ qw255) (fun _ h9 => h9) rfl dX4_addPiece_45 ?_
    refine lv_iload hx hb dX4_addPiece_48 (lv_at hl 4 rfl) ?_
    obtain ⟨hq8, hrun⟩ := chk9 hrun
    refine va_iast hx hb hK hP hD hS 8 7 rfl rfl (ixb_in hq8) dX4_addPiece_50 (fun H locs hP hD hS => ?_)
    have hP : va_P (dC, dI) cls (List.flatten ([(oX4 (p0a 0) p0a p0k (upw w7 10 (nn (w7 0 5)) p4) p0l)] : List va_W)) H := hP
    have hD : va_D A (List.flatten ([(oX4 (p0a 0) p0a p0k (upw w7 10 (nn (w7 0 5)) p4) p0l)] : List va_W)) := hD
    obtain ⟨w9, ew9, hrun⟩ := let9 hrun
    rw [← ew9] at hP hD
    refine lv_aload_n hx hb dX4_addPiece_51 rfl (lv_at hl 0 rfl) ?_
    refine lv_dup hx hb dX4_addPiece_52 rfl ?_
    refine va_get (D := (dC, dI)) (ci := 6) (v := .int (w9 0 5)) (C := RX4) (T := TX4) (N := 20) hx hb hts i_X4 hown hK hP 0 rfl rfl 5 (by decide) (hts _ qw255) (fun _ h9 => h9) rfl dX4_addPiece_53 ?_
    refine lv_iconst (v := 1) hx hb dX4_addPiece_56 (by decide) ?_
    refine lv_iadd hx hb dX4_addPiece_57 ?_
    refine va_put (D := (dC, dI)) (ci := 6) (v := .int ((w9 0 5) + 1)) (ty := .int) (C := RX4) (T := TX4) (N := 20) hx hb hts i_X4 tyX4 tyX4_ok nmX4 hown hK hP hD hS 0 rfl rfl 5 (by decide) (hts _ qw255) (fun _ h9 => h9) rfl (by decide +kernel) rfl rfl (Nat.le_of_ble_eq_true rfl) dX4_addPiece_58 (fun H locs hP hD hS => ?_)
    have hP : va_P (dC, dI) cls (List.flatten ([(oX4 (p0a 0) p0a p0k (upw w9 0 5 ((w9 0 5) + 1)) p0l)] : List va_W)) H := hP
    have hD : va_D A (List.flatten ([(oX4 (p0a 0) p0a p0k (upw w9 0 5 ((w9 0 5) + 1)) p0l)] : List va_W)) := hD
    obtain ⟨w10, ew10, hrun⟩ := let9 hrun
    rw [← ew10] at hP hD
    exact J61 w10 _ _ _ hrun hP hD hK hS (lv_sub hl [] rfl)
def fX4_blockOfPiece_J22 (y0_22 : Int32) : Option Int32 := some y0_22
def fX4_blockOfPiece_J12  : Option Int32 := (fX4_blockOfPiece_J22 (-1))
def fX4_blockOfPiece (p0w : ST) (p1 : Int32) : Option Int32 := (if p1 < 0 then (fX4_blockOfPiece_J12) else (if p1 < (p0w 0 5) then (if ixb p1 640 = true then (fX4_blockOfPiece_J22 (p0w 12 (nn p1))) else none) else (fX4_blockOfPiece_J12)))
set_option maxHeartbeats 16000000 in
set_option maxRecDepth 100000 in
theorem kX4_blockOfPiece {zs : ZS} (l : Launch) (dC : Nat → ClassId) (dI : Nat → Nat → Nat) (p0a : Nat → Nat) (p0k : Nat → ClassId) (p0w : ST) (p0l : SL) (p1 : Int32) (sz : Nat) (o : Int32) (hrun : fX4_blockOfPiece p0w p1 = some o) : Met l yX4_blockOfPiece (wz yX4_blockOfPiece cX4_blockOfPiece 2 (Option.some Jvm.ClassFile.FieldType.int)) ({ frames := 0, cells := 0, slots := 0, locals := 0 } : Room) (va_Pc [.ref (p0a 0), .int p1] (PRE zs dC dI (List.flatten ([(oX4 (p0a 0) p0a p0k p0w p0l)] : List va_W)) (List.flatten ([(tX4 p0k)] : List (List (ClassId × FieldType)))) sz)) (va_Qi (fun (r : Int32) (_ : Unit) => r = o) (fun _ t => POST dC dI (List.flatten ([(oX4 (p0a 0) p0a p0k p0w p0l)] : List va_W)) (List.flatten ([(tX4 p0k)] : List (List (ClassId × FieldType)))) (va_A (List.flatten ([(oX4 (p0a 0) p0a p0k p0w p0l)] : List va_W)) sz) t) (va_A (List.flatten ([(oX4 (p0a 0) p0a p0k p0w p0l)] : List va_W)) sz)) 0 0 (va_A (List.flatten ([(oX4 (p0a 0) p0a p0k p0w p0l)] : List va_W)) sz) := by
  refine Met.ofW (cc := cX4_blockOfPiece) (maxL := 2) (ret := (Option.some Jvm.ClassFile.FieldType.int)) (by decide) rfl ?_
  intro p e s m args below meth c s₁ B hml hv
  obtain ⟨rfl, hsz, hP, hK, hD0, hE⟩ := hv
  have hx := B.exec
  have hb := B.bytes
  have hr := B.returns
  have hts0 := atoms_spec (ws := wz yX4_blockOfPiece cX4_blockOfPiece 2 (Option.some Jvm.ClassFile.FieldType.int)) B.pre
  have hts : ∀ w ∈ gw, w.before _ s = true := fun w h => hts0 w (List.mem_cons_of_mem _ h)
  have hown : s.vm.findClass RX4 = some m.cls := findClass_of_methodNamed B.named
  have hlocks := B.notSynchronized
  subst hsz
  have hD := hD0.self (sz := s.heap.size)
  refine gQ9 ?_
  intro Q hQ
  generalize hAe : va_A (List.flatten ([(oX4 (p0a 0) p0a p0k p0w p0l)] : List va_W)) s.heap.size = A at hD hE hQ
  have hA : ∀ q : Nat, s.heap.size ≤ q → A q := fun q h => by rw [← hAe]; exact Or.inr h
  have hS : va_S A s.heap s.heap [] := va_S.rf
  have hP : va_P (dC, dI) cls (List.flatten ([(oX4 (p0a 0) p0a p0k p0w p0l)] : List va_W)) s.heap := hP
  have hl := lv_entry ([.ref (p0a 0), .int p1]) (n := 2) (Nat.le_of_ble_eq_true rfl)
  rw [lg_entry_eq]
  generalize (lg_sl ([.ref (p0a 0), .int p1]) ++ List.replicate (2 - (lg_sl ([.ref (p0a 0), .int p1])).length) Slot.unset).toArray = ls at hl ⊢
  have hl : lv_has ls 2 [(0, .ref (p0a 0)), (1, .int p1)] := hl
  obtain ⟨H, hHe⟩ : ∃ H, H = s.heap := ⟨_, rfl⟩
  obtain ⟨locs, hle⟩ : ∃ locs : List Loc, locs = [] := ⟨_, rfl⟩
  rw [← hHe] at hP
  have hS : va_S A s.heap H locs := by rw [hHe, hle]; exact hS
  show W p l e ({ frames := 0, cells := 0, slots := 0, locals := 0 } : Room) s m ([.ref (p0a 0), .int p1] : List Value).toArray below meth c s.heap [] 0 0 Q (F0 m 0 ls [])
  rw [← hle]
  refine wH9 hHe ?_
  unfold fX4_blockOfPiece at hrun
  refine lv_iload_n hx hb dX4_blockOfPiece_0 rfl (lv_at hl 1 rfl) ?_
  have J22 : ∀ (y0_22 : Int32) (H : Heap) (locs : List Loc) (ls : Array Slot), (fX4_blockOfPiece_J22 y0_22) = some o → va_P (dC, dI) cls (List.flatten ([(oX4 (p0a 0) p0a p0k p0w p0l)] : List va_W)) H → va_D A (List.flatten ([(oX4 (p0a 0) p0a p0k p0w p0l)] : List va_W)) → va_K (dC, dI) cls (List.flatten ([(tX4 p0k)] : List (List (ClassId × FieldType)))) s → va_S A s.heap H locs → lv_has ls 2 [] → W p l e ({ frames := 0, cells := 0, slots := 0, locals := 0 } : Room) s m ([.ref (p0a 0), .int p1] : List Value).toArray below meth c H locs 0 0 Q (F0 m 22 ls [.int y0_22]) := by
    intro y0_22 H locs ls hrun hP hD hK hS hl 
    unfold fX4_blockOfPiece_J22 at hrun
    have ho9 : y0_22 = o := Option.some.inj hrun
    have hP9 : va_P (dC, dI) cls (List.flatten ([(oX4 (p0a 0) p0a p0k p0w p0l)] : List va_W)) H := by first | exact hP | (rw [← ho9]; exact hP)
    have hD9 : va_D A (List.flatten ([(oX4 (p0a 0) p0a p0k p0w p0l)] : List va_W)) := by first | exact hD | (rw [← ho9]; exact hD)
    subst hQ
    exact W.iret (v := y0_22) hx hb hr (fun t ht hW => ⟨⟨y0_22, (), rfl, (by rw [← ho9]), ⟨by rw [ht]; exact hP9, va_K.moved hW.alike hK, hD9⟩⟩, hS.F ht⟩) hS.2.2 dX4_blockOfPiece_22
  have J12 : ∀ (H : Heap) (locs : List Loc) (ls : Array Slot), (fX4_blockOfPiece_J12) = some o → va_P (dC, dI) cls (List.flatten ([(oX4 (p0a 0) p0a p0k p0w p0l)] : List va_W)) H → va_D A (List.flatten ([(oX4 (p0a 0) p0a p0k p0w p0l)] : List va_W)) → va_K (dC, dI) cls (List.flatten ([(tX4 p0k)] : List (List (ClassId × FieldType)))) s → va_S A s.heap H locs → lv_has ls 2 [] → W p l e ({ frames := 0, cells := 0, slots := 0, locals := 0 } : Room) s m ([.ref (p0a 0), .int p1] : List Value).toArray below meth c H locs 0 0 Q (F0 m 12 ls []) := by
    intro  H locs ls hrun hP hD hK hS hl 
    unfold fX4_blockOfPiece_J12 at hrun
    refine lv_iconst (v := (-1)) hx hb dX4_blockOfPiece_12 (by decide) ?_
    refine lv_goto (tgt := 22) hx hb dX4_blockOfPiece_13 (by decide) ?_
    exact J22 (-1) _ _ _ hrun hP hD hK hS (lv_sub hl [] rfl)
  rcases br9 hrun with ⟨hc1, hrun⟩ | ⟨hc1, hrun⟩
  · refine lv_if_lt (tgt := 12) hx hb dX4_blockOfPiece_1 (by decide) (fun _ => ?_) (fun c => absurd hc1 c)
    exact J12 _ _ _ hrun hP hD hK hS (lv_sub hl [] rfl)
  · refine lv_if_lt (tgt := 12) hx hb dX4_blockOfPiece_1 (by decide) (fun c => absurd c hc1) (fun _ => ?_)
    refine lv_iload_n hx hb dX4_blockOfPiece_4 rfl (lv_at hl 1 rfl) ?_
    refine lv_aload_n hx hb dX4_blockOfPiece_5 rfl (lv_at hl 0 rfl) ?_
    refine va_get (D := (dC, dI)) (ci := 6) (v := .int (p0w 0 5)) (C := RX4) (T := TX4) (N := 20) hx hb hts i_X4 hown hK hP 0 rfl rfl 5 (by decide) (hts _ qw255) (fun _ h9 => h9) rfl dX4_blockOfPiece_6 ?_
    rcases br9 hrun with ⟨hc2, hrun⟩ | ⟨hc2, hrun⟩
    · refine lv_icmp_lt (tgt := 16) hx hb dX4_blockOfPiece_9 (by decide) (fun _ => ?_) (fun c => absurd hc2 c)
      refine lv_aload_n hx hb dX4_blockOfPiece_16 rfl (lv_at hl 0 rfl) ?_
      refine va_get (D := (dC, dI)) (ci := 6) (v := .ref (p0a 12)) (C := RX4) (T := TX4) (N := 20) hx hb hts i_X4 hown hK hP 0 rfl rfl 11 (by decide) (hts _ qw260) (fun _ h9 => h9) rfl dX4_blockOfPiece_17 ?_
      refine lv_iload_n hx hb dX4_blockOfPiece_20 rfl (lv_at hl 1 rfl) ?_
      obtain ⟨hq3, hrun⟩ := chk9 hrun
      refine va_iald hx hb hK hP 10 9 rfl rfl (ixb_in hq3) dX4_blockOfPiece_21 ?_
      exact J22 (p0w 12 (nn p1)) _ _ _ hrun hP hD hK hS (lv_sub hl [] rfl)
    · refine lv_icmp_lt (tgt := 16) hx hb dX4_blockOfPiece_9 (by decide) (fun c => absurd c hc2) (fun _ => ?_)
      exact J12 _ _ _ hrun hP hD hK hS (lv_sub hl [] rfl)
def fX4_findLabels_J100 (kk10 : Int32 → Int32 → ST → Option ST) (v4_10 : Int32) (v3_80 : Int32) (p0w_100 : ST) : Option ST := (kk10 v3_80 (v4_10 + 1) p0w_100)
def fX4_findLabels_J80 (kk10 : Int32 → Int32 → ST → Option ST) (p1w : ST) (v4_10 : Int32) (p0w_10 : ST) (v3_80 : Int32) : Option ST := (if (p1w 9 (nn v4_10)) = 35 then (if ixb v4_10 3200 = true then (if ixb (p1w 10 (nn v4_10)) 640 = true then (lt9 (upw p0w_10 13 (nn (p1w 10 (nn v4_10))) v3_80) fun (w8 : ST) => (fX4_findLabels_J100 kk10 v4_10 v3_80 w8)) else none) else none) else (fX4_findLabels_J100 kk10 v4_10 v3_80 p0w_10))
def fX4_findLabels_J77 (kk10 : Int32 → Int32 → ST → Option ST) (p1w : ST) (v3_10 : Int32) (v4_10 : Int32) (p0w_10 : ST) : Option ST := (fX4_findLabels_J80 kk10 p1w v4_10 p0w_10 (v3_10 + 1))
def fX4_findLabels_J63 (kk10 : Int32 → Int32 → ST → Option ST) (p1w : ST) (v3_10 : Int32) (v4_10 : Int32) (p0w_10 : ST) (y0_63 : Int32) : Option ST := (if y0_63 = 0 then (if (p1w 9 (nn v4_10)) = 35 then (fX4_findLabels_J77 kk10 p1w v3_10 v4_10 p0w_10) else (fX4_findLabels_J80 kk10 p1w v4_10 p0w_10 v3_10)) else (fX4_findLabels_J77 kk10 p1w v3_10 v4_10 p0w_10))
def fX4_findLabels_J58 (kk10 : Int32 → Int32 → ST → Option ST) (p1w : ST) (v3_10 : Int32) (v4_10 : Int32) (p0w_10 : ST) : Option ST := (fX4_findLabels_J63 kk10 p1w v3_10 v4_10 p0w_10 1)
def fX4_findLabels_L10 (p1w : ST) (p2 : Int32) : Nat → Int32 → Int32 → ST → Option ST
  | 0 => fun _ _ _ => none
  | n_10 + 1 => fun v3_10 v4_10 p0w_10 => (if ixb p2 6 = true then (if (p1w 7 (nn p2)) ≤ v4_10 then some p0w_10 else (if ixb v4_10 3200 = true then (if (p1w 9 (nn v4_10)) = 22 then (fX4_findLabels_J58 (fX4_findLabels_L10 p1w p2 n_10) p1w v3_10 v4_10 p0w_10) else (if (p1w 9 (nn v4_10)) = 33 then (fX4_findLabels_J58 (fX4_findLabels_L10 p1w p2 n_10) p1w v3_10 v4_10 p0w_10) else (if (p1w 9 (nn v4_10)) = 34 then (fX4_findLabels_J58 (fX4_findLabels_L10 p1w p2 n_10) p1w v3_10 v4_10 p0w_10) else (if (p1w 9 (nn v4_10)) = 24 then (fX4_findLabels_J58 (fX4_findLabels_L10 p1w p2 n_10) p1w v3_10 v4_10 p0w_10) else (fX4_findLabels_J63 (fX4_findLabels_L10 p1w p2 n_10) p1w v3_10 v4_10 p0w_10 0))))) else none)) else none)
def fX4_findLabels (p0w : ST) (p1w : ST) (p2 : Int32) : Option ST := (if ixb p2 6 = true then ((fX4_findLabels_L10 p1w p2 NF 0 (p1w 6 (nn p2)) p0w).bind fun (o10 : ST) => some o10) else none)
set_option maxHeartbeats 16000000 in
set_option maxRecDepth 100000 in
theorem kX4_findLabels {zs : ZS} (l : Launch) (dC : Nat → ClassId) (dI : Nat → Nat → Nat) (p0a : Nat → Nat) (p0k : Nat → ClassId) (p0w : ST) (p0l : SL) (p1a : Nat → Nat) (p1k : Nat → ClassId) (p1w : ST) (p1l : SL) (p2 : Int32) (sz : Nat) (o : ST) (hrun : fX4_findLabels p0w p1w p2 = some o) : Met l yX4_findLabels (wz yX4_findLabels cX4_findLabels 7 (Option.none : Option Jvm.ClassFile.FieldType)) ({ frames := 0, cells := 0, slots := 0, locals := 0 } : Room) (va_Pc [.ref (p0a 0), .ref (p1a 0), .int p2] (PRE zs dC dI (List.flatten ([(oX4 (p0a 0) p0a p0k p0w p0l), (oX6 (p1a 0) p1a p1k p1w p1l)] : List va_W)) (List.flatten ([(tX4 p0k), (tX6 p1k)] : List (List (ClassId × FieldType)))) sz)) (va_Qv (fun (_ : Unit) => True) (fun _ t => POST dC dI (List.flatten ([(oX4 (p0a 0) p0a p0k o p0l), (oX6 (p1a 0) p1a p1k p1w p1l)] : List va_W)) (List.flatten ([(tX4 p0k), (tX6 p1k)] : List (List (ClassId × FieldType)))) (va_A (List.flatten ([(oX4 (p0a 0) p0a p0k p0w p0l), (oX6 (p1a 0) p1a p1k p1w p1l)] : List va_W)) sz) t) (va_A (List.flatten ([(oX4 (p0a 0) p0a p0k p0w p0l), (oX6 (p1a 0) p1a p1k p1w p1l)] : List va_W)) sz)) 0 0 (va_A (List.flatten ([(oX4 (p0a 0) p0a p0k p0w p0l), (oX6 (p1a 0) p1a p1k p1w p1l)] : List va_W)) sz) := by
  refine Met.ofW (cc := cX4_findLabels) (maxL := 7) (ret := (Option.none : Option Jvm.ClassFile.FieldType)) (by decide) rfl ?_
  intro p e s m args below meth c s₁ B hml hv
  obtain ⟨rfl, hsz, hP, hK, hD0, hE⟩ := hv
  have hx := B.exec
  have hb := B.bytes
  have hr := B.returns
  have hts0 := atoms_spec (ws := wz yX4_findLabels cX4_findLabels 7 (Option.none : Option Jvm.ClassFile.FieldType)) B.pre
  have hts : ∀ w ∈ gw, w.before _ s = true := fun w h => hts0 w (List.mem_cons_of_mem _ h)
  have hown : s.vm.findClass RX4 = some m.cls := findClass_of_methodNamed B.named
  have hlocks := B.notSynchronized
  subst hsz
  have hD := hD0.self (sz := s.heap.size)
  refine gQ9 ?_
  intro Q hQ
  generalize hAe : va_A (List.flatten ([(oX4 (p0a 0) p0a p0k p0w p0l), (oX6 (p1a 0) p1a p1k p1w p1l)] : List va_W)) s.heap.size = A at hD hE hQ
  have hA : ∀ q : Nat, s.heap.size ≤ q → A q := fun q h => by rw [← hAe]; exact Or.inr h
  have hS : va_S A s.heap s.heap [] := va_S.rf
  have hP : va_P (dC, dI) cls (List.flatten ([(oX4 (p0a 0) p0a p0k p0w p0l), (oX6 (p1a 0) p1a p1k p1w p1l)] : List va_W)) s.heap := hP
  have hl := lv_entry ([.ref (p0a 0), .ref (p1a 0), .int p2]) (n := 7) (Nat.le_of_ble_eq_true rfl)
  rw [lg_entry_eq]
  generalize (lg_sl ([.ref (p0a 0), .ref (p1a 0), .int p2]) ++ List.replicate (7 - (lg_sl ([.ref (p0a 0), .ref (p1a 0), .int p2])).length) Slot.unset).toArray = ls at hl ⊢
  have hl : lv_has ls 7 [(0, .ref (p0a 0)), (1, .ref (p1a 0)), (2, .int p2)] := hl
  obtain ⟨H, hHe⟩ : ∃ H, H = s.heap := ⟨_, rfl⟩
  obtain ⟨locs, hle⟩ : ∃ locs : List Loc, locs = [] := ⟨_, rfl⟩
  rw [← hHe] at hP
  have hS : va_S A s.heap H locs := by rw [hHe, hle]; exact hS
  show W p l e ({ frames := 0, cells := 0, slots := 0, locals := 0 } : Room) s m ([.ref (p0a 0), .ref (p1a 0), .int p2] : List Value).toArray below meth c s.heap [] 0 0 Q (F0 m 0 ls [])
  rw [← hle]
  refine wH9 hHe ?_
  unfold fX4_findLabels at hrun
  refine lv_iconst (v := 0) hx hb dX4_findLabels_0 (by decide) ?_
  refine lv_istore_n (lv' := [(3, .int 0), (0, .ref (p0a 0)), (1, .ref (p1a 0)), (2, .int p2)]) hx hb dX4_findLabels_1 rfl hl (by decide) rfl (fun ls hl => ?_)
  refine lv_aload_n hx hb dX4_findLabels_2 rfl (lv_at hl 2 rfl) ?_
  refine va_get (D := (dC, dI)) (ci := 2) (v := .ref (p1a 6)) (C := RX6) (T := TX6) (N := 13) hx hb hts i_X6 hown hK hP 19 rfl rfl 5 (by decide) (hts _ qw261) (fun _ h9 => h9) rfl dX4_findLabels_3 ?_
  refine lv_iload_n hx hb dX4_findLabels_6 rfl (lv_at hl 3 rfl) ?_
  obtain ⟨hq1, hrun⟩ := chk9 hrun
  refine va_iald hx hb hK hP 24 22 rfl rfl (ixb_in hq1) dX4_findLabels_7 ?_
  refine lv_istore (lv' := [(4, .int (p1w 6 (nn p2))), (3, .int 0), (0, .ref (p0a 0)), (1, .ref (p1a 0)), (2, .int p2)]) hx hb dX4_findLabels_8 hl (by decide) rfl (fun ls hl => ?_)
  have L10 : ∀ (n_10 : Nat) (v3_10 : Int32) (v4_10 : Int32) (p0w_10 : ST) (o10 : ST) (H : Heap) (locs : List Loc) (ls : Array Slot), (fX4_findLabels_L10 p1w p2 n_10) v3_10 v4_10 p0w_10 = some o10 → va_P (dC, dI) cls (List.flatten ([(oX4 (p0a 0) p0a p0k p0w_10 p0l), (oX6 (p1a 0) p1a p1k p1w p1l)] : List va_W)) H → va_D A (List.flatten ([(oX4 (p0a 0) p0a p0k p0w_10 p0l), (oX6 (p1a 0) p1a p1k p1w p1l)] : List va_W)) → va_K (dC, dI) cls (List.flatten ([(tX4 p0k), (tX6 p1k)] : List (List (ClassId × FieldType)))) s → va_S A s.heap H locs → lv_has ls 7 [(0, .ref (p0a 0)), (1, .ref (p1a 0)), (2, .int p2), (3, .int v3_10), (4, .int v4_10)] → (∀ (H : Heap) (locs : List Loc) (ls : Array Slot), va_P (dC, dI) cls (List.flatten ([(oX4 (p0a 0) p0a p0k o10 p0l), (oX6 (p1a 0) p1a p1k p1w p1l)] : List va_W)) H → va_D A (List.flatten ([(oX4 (p0a 0) p0a p0k o10 p0l), (oX6 (p1a 0) p1a p1k p1w p1l)] : List va_W)) → va_K (dC, dI) cls (List.flatten ([(tX4 p0k), (tX6 p1k)] : List (List (ClassId × FieldType)))) s → va_S A s.heap H locs → lv_has ls 7 [] → W p l e ({ frames := 0, cells := 0, slots := 0, locals := 0 } : Room) s m ([.ref (p0a 0), .ref (p1a 0), .int p2] : List Value).toArray below meth c H locs 0 0 Q (F0 m 106 ls [])) → W p l e ({ frames := 0, cells := 0, slots := 0, locals := 0 } : Room) s m ([.ref (p0a 0), .ref (p1a 0), .int p2] : List Value).toArray below meth c H locs 0 0 Q (F0 m 10 ls []) := by
    intro n_10
    induction n_10 with
    | zero => intro v3_10 v4_10 p0w_10 o10 H locs ls hrun; exact (no9 rfl hrun).elim
    | succ n_10 IH10 =>
      intro v3_10 v4_10 p0w_10 o10 H locs ls hrun hP hD hK hS hl hk10
      unfold fX4_findLabels_L10 at hrun
      refine lv_iload hx hb dX4_findLabels_10 (lv_at hl 4 rfl) ?_
      refine lv_aload_n hx hb dX4_findLabels_12 rfl (lv_at hl 1 rfl) ?_
      refine va_get (D := (dC, dI)) (ci := 2) (v := .ref (p1a 7)) (C := RX6) (T := TX6) (N := 13) hx hb hts i_X6 hown hK hP 19 rfl rfl 6 (by decide) (hts _ qw262) (fun _ h9 => h9) rfl dX4_findLabels_13 ?_
      refine lv_iload_n hx hb dX4_findLabels_16 rfl (lv_at hl 2 rfl) ?_
      obtain ⟨hq2, hrun⟩ := chk9 hrun
      refine va_iald hx hb hK hP 25 23 rfl rfl (ixb_in hq2) dX4_findLabels_17 ?_
      rcases br9 hrun with ⟨hc3, hrun⟩ | ⟨hc3, hrun⟩
      · refine lv_icmp_ge (tgt := 106) hx hb dX4_findLabels_18 (by decide) (fun _ => ?_) (fun c => absurd hc3 c)
        obtain rfl := (Option.some.inj hrun)
        exact hk10 _ _ _ hP hD hK hS (lv_sub hl [] rfl)
      · refine lv_icmp_ge (tgt := 106) hx hb dX4_findLabels_18 (by decide) (fun c => absurd c hc3) (fun _ => ?_)
        refine lv_aload_n hx hb dX4_findLabels_21 rfl (lv_at hl 1 rfl) ?_
        refine va_get (D := (dC, dI)) (ci := 2) (v := .ref (p1a 9)) (C := RX6) (T := TX6) (N := 13) hx hb hts i_X6 hown hK hP 19 rfl rfl 8 (by decide) (hts _ qw263) (fun _ h9 => h9) rfl dX4_findLabels_22 ?_
        refine lv_iload hx hb dX4_findLabels_25 (lv_at hl 4 rfl) ?_
        obtain ⟨hq4, hrun⟩ := chk9 hrun
        refine va_iald hx hb hK hP 26 24 rfl rfl (ixb_in hq4) dX4_findLabels_27 ?_
        refine lv_istore (lv' := [(5, .int (p1w 9 (nn v4_10))), (0, .ref (p0a 0)), (1, .ref (p1a 0)), (2, .int p2), (3, .int v3_10), (4, .int v4_10)]) hx hb dX4_findLabels_28 hl (by decide) rfl (fun ls hl => ?_)
        refine lv_iload hx hb dX4_findLabels_30 (lv_at hl 0 rfl) ?_
        refine lv_bipush (v := 22) hx hb dX4_findLabels_32 (by decide) ?_
        have J63 : ∀ (y0_63 : Int32) (H : Heap) (locs : List Loc) (ls : Array Slot), (fX4_findLabels_J63 (fX4_findLabels_L10 p1w p2 n_10) p1w v3_10 v4_10 p0w_10 y0_63) = some o10 → va_P (dC, dI) cls (List.flatten ([(oX4 (p0a 0) p0a p0k p0w_10 p0l), (oX6 (p1a 0) p1a p1k p1w p1l)] : List va_W)) H → va_D A (List.flatten ([(oX4 (p0a 0) p0a p0k p0w_10 p0l), (oX6 (p1a 0) p1a p1k p1w p1l)] : List va_W)) → va_K (dC, dI) cls (List.flatten ([(tX4 p0k), (tX6 p1k)] : List (List (ClassId × FieldType)))) s → va_S A s.heap H locs → lv_has ls 7 [(0, .ref (p0a 0)), (1, .ref (p1a 0)), (2, .int p2), (3, .int v3_10), (4, .int v4_10), (5, .int (p1w 9 (nn v4_10)))] → W p l e ({ frames := 0, cells := 0, slots := 0, locals := 0 } : Room) s m ([.ref (p0a 0), .ref (p1a 0), .int p2] : List Value).toArray below meth c H locs 0 0 Q (F0 m 63 ls [.int y0_63]) := by
          intro y0_63 H locs ls hrun hP hD hK hS hl 
          unfold fX4_findLabels_J63 at hrun
          refine lv_istore (lv' := [(6, .int y0_63), (0, .ref (p0a 0)), (1, .ref (p1a 0)), (2, .int p2), (3, .int v3_10), (4, .int v4_10), (5, .int (p1w 9 (nn v4_10)))]) hx hb dX4_findLabels_63 hl (by decide) rfl (fun ls hl => ?_)
          refine lv_iload hx hb dX4_findLabels_65 (lv_at hl 0 rfl) ?_
          have J80 : ∀ (v3_80 : Int32) (H : Heap) (locs : List Loc) (ls : Array Slot), (fX4_findLabels_J80 (fX4_findLabels_L10 p1w p2 n_10) p1w v4_10 p0w_10 v3_80) = some o10 → va_P (dC, dI) cls (List.flatten ([(oX4 (p0a 0) p0a p0k p0w_10 p0l), (oX6 (p1a 0) p1a p1k p1w p1l)] : List va_W)) H → va_D A (List.flatten ([(oX4 (p0a 0) p0a p0k p0w_10 p0l), (oX6 (p1a 0) p1a p1k p1w p1l)] : List va_W)) → va_K (dC, dI) cls (List.flatten ([(tX4 p0k), (tX6 p1k)] : List (List (ClassId × FieldType)))) s → va_S A s.heap H locs → lv_has ls 7 [(0, .ref (p0a 0)), (1, .ref (p1a 0)), (2, .int p2), (3, .int v3_80), (4, .int v4_10), (5, .int (p1w 9 (nn v4_10)))] → W p l e ({ frames := 0, cells := 0, slots := 0, locals := 0 } : Room) s m ([.ref (p0a 0), .ref (p1a 0), .int p2] : List Value).toArray below meth c H locs 0 0 Q (F0 m 80 ls []) := by
            intro v3_80 H locs ls hrun hP hD hK hS hl 
            unfold fX4_findLabels_J80 at hrun
            refine lv_iload hx hb dX4_findLabels_80 (lv_at hl 5 rfl) ?_
            refine lv_bipush (v := 35) hx hb dX4_findLabels_82 (by decide) ?_
            have J100 : ∀ (p0w_100 : ST) (H : Heap) (locs : List Loc) (ls : Array Slot), (fX4_findLabels_J100 (fX4_findLabels_L10 p1w p2 n_10) v4_10 v3_80 p0w_100) = some o10 → va_P (dC, dI) cls (List.flatten ([(oX4 (p0a 0) p0a p0k p0w_100 p0l), (oX6 (p1a 0) p1a p1k p1w p1l)] : List va_W)) H → va_D A (List.flatten ([(oX4 (p0a 0) p0a p0k p0w_100 p0l), (oX6 (p1a 0) p1a p1k p1w p1l)] : List va_W)) → va_K (dC, dI) cls (List.flatten ([(tX4 p0k), (tX6 p1k)] : List (List (ClassId × FieldType)))) s → va_S A s.heap H locs → lv_has ls 7 [(0, .ref (p0a 0)), (1, .ref (p1a 0)), (2, .int p2), (3, .int v3_80), (4, .int v4_10)] → W p l e ({ frames := 0, cells := 0, slots := 0, locals := 0 } : Room) s m ([.ref (p0a 0), .ref (p1a 0), .int p2] : List Value).toArray below meth c H locs 0 0 Q (F0 m 100 ls []) := by
              intro p0w_100 H locs ls hrun hP hD hK hS hl 
              unfold fX4_findLabels_J100 at hrun
              refine lv_iinc (v := (v4_10 + 1)) (lv' := [(4, .int (v4_10 + 1)), (0, .ref (p0a 0)), (1, .ref (p1a 0)), (2, .int p2), (3, .int v3_80)]) hx hb dX4_findLabels_100 hl (k := 4) rfl rfl (by decide) rfl (fun ls hl => ?_)
              refine lv_goto (tgt := 10) hx hb dX4_findLabels_103 (by decide) ?_
              exact IH10 v3_80 (v4_10 + 1) p0w_100 o10 _ _ _ hrun hP hD hK hS (lv_sub hl [1, 2, 3, 4, 0] rfl) hk10
            rcases br9 hrun with ⟨hc5, hrun⟩ | ⟨hc5, hrun⟩
            · refine lv_icmp_ne (tgt := 100) hx hb dX4_findLabels_84 (by decide) (fun c => absurd hc5 c) (fun _ => ?_)
              refine lv_aload_n hx hb dX4_findLabels_87 rfl (lv_at hl 0 rfl) ?_
              refine va_get (D := (dC, dI)) (ci := 6) (v := .ref (p0a 13)) (C := RX4) (T := TX4) (N := 20) hx hb hts i_X4 hown hK hP 0 rfl rfl 12 (by decide) (hts _ qw264) (fun _ h9 => h9) rfl dX4_findLabels_88 ?_
              refine lv_aload_n hx hb dX4_findLabels_91 rfl (lv_at hl 1 rfl) ?_
              refine va_get (D := (dC, dI)) (ci := 2) (v := .ref (p1a 10)) (C := RX6) (T := TX6) (N := 13) hx hb hts i_X6 hown hK hP 19 rfl rfl 9 (by decide) (hts _ qw265) (fun _ h9 => h9) rfl dX4_findLabels_92 ?_
              refine lv_iload hx hb dX4_findLabels_95 (lv_at hl 4 rfl) ?_
              obtain ⟨hq6, hrun⟩ := chk9 hrun
              refine va_iald hx hb hK hP 27 25 rfl rfl (ixb_in hq6) dX4_findLabels_97 ?_
              refine lv_iload_n hx hb dX4_findLabels_98 rfl (lv_at hl 3 rfl) ?_
              obtain ⟨hq7, hrun⟩ := chk9 hrun
              refine va_iast hx hb hK hP hD hS 11 10 rfl rfl (ixb_in hq7) dX4_findLabels_99 (fun H locs hP hD hS => ?_)
              have hP : va_P (dC, dI) cls (List.flatten ([(oX4 (p0a 0) p0a p0k (upw p0w_10 13 (nn (p1w 10 (nn v4_10))) v3_80) p0l), (oX6 (p1a 0) p1a p1k p1w p1l)] : List va_W)) H := hP
              have hD : va_D A (List.flatten ([(oX4 (p0a 0) p0a p0k (upw p0w_10 13 (nn (p1w 10 (nn v4_10))) v3_80) p0l), (oX6 (p1a 0) p1a p1k p1w p1l)] : List va_W)) := hD
              obtain ⟨w8, ew8, hrun⟩ := let9 hrun
              rw [← ew8] at hP hD
              exact J100 w8 _ _ _ hrun hP hD hK hS (lv_sub hl [0, 1, 2, 3, 4] rfl)
            · refine lv_icmp_ne (tgt := 100) hx hb dX4_findLabels_84 (by decide) (fun _ => ?_) (fun c => absurd c hc5)
              exact J100 p0w_10 _ _ _ hrun hP hD hK hS (lv_sub hl [0, 1, 2, 3, 4] rfl)
          have J77 : ∀ (H : Heap) (locs : List Loc) (ls : Array Slot), (fX4_findLabels_J77 (fX4_findLabels_L10 p1w p2 n_10) p1w v3_10 v4_10 p0w_10) = some o10 → va_P (dC, dI) cls (List.flatten ([(oX4 (p0a 0) p0a p0k p0w_10 p0l), (oX6 (p1a 0) p1a p1k p1w p1l)] : List va_W)) H → va_D A (List.flatten ([(oX4 (p0a 0) p0a p0k p0w_10 p0l), (oX6 (p1a 0) p1a p1k p1w p1l)] : List va_W)) → va_K (dC, dI) cls (List.flatten ([(tX4 p0k), (tX6 p1k)] : List (List (ClassId × FieldType)))) s → va_S A s.heap H locs → lv_has ls 7 [(0, .ref (p0a 0)), (1, .ref (p1a 0)), (2, .int p2), (3, .int v3_10), (4, .int v4_10), (5, .int (p1w 9 (nn v4_10)))] → W p l e ({ frames := 0, cells := 0, slots := 0, locals := 0 } : Room) s m ([.ref (p0a 0), .ref (p1a 0), .int p2] : List Value).toArray below meth c H locs 0 0 Q (F0 m 77 ls []) := by
            intro  H locs ls hrun hP hD hK hS hl 
            unfold fX4_findLabels_J77 at hrun
            refine lv_iinc (v := (v3_10 + 1)) (lv' := [(3, .int (v3_10 + 1)), (0, .ref (p0a 0)), (1, .ref (p1a 0)), (2, .int p2), (4, .int v4_10), (5, .int (p1w 9 (nn v4_10)))]) hx hb dX4_findLabels_77 hl (k := 3) rfl rfl (by decide) rfl (fun ls hl => ?_)
            exact J80 (v3_10 + 1) _ _ _ hrun hP hD hK hS (lv_sub hl [1, 2, 3, 0, 4, 5] rfl)
          rcases br9 hrun with ⟨hc9, hrun⟩ | ⟨hc9, hrun⟩
          · refine lv_if_ne (tgt := 77) hx hb dX4_findLabels_67 (by decide) (fun c => absurd hc9 c) (fun _ => ?_)
            refine lv_iload hx hb dX4_findLabels_70 (lv_at hl 6 rfl) ?_
            refine lv_bipush (v := 35) hx hb dX4_findLabels_72 (by decide) ?_
            rcases br9 hrun with ⟨hc10, hrun⟩ | ⟨hc10, hrun⟩
            · refine lv_icmp_ne (tgt := 80) hx hb dX4_findLabels_74 (by decide) (fun c => absurd hc10 c) (fun _ => ?_)
              exact J77 _ _ _ hrun hP hD hK hS (lv_sub hl [1, 2, 3, 4, 5, 6] rfl)
            · refine lv_icmp_ne (tgt := 80) hx hb dX4_findLabels_74 (by decide) (fun _ => ?_) (fun c => absurd c hc10)
              exact J80 v3_10 _ _ _ hrun hP hD hK hS (lv_sub hl [1, 2, 3, 4, 5, 6] rfl)
          · refine lv_if_ne (tgt := 77) hx hb dX4_findLabels_67 (by decide) (fun _ => ?_) (fun c => absurd c hc9)
            exact J77 _ _ _ hrun hP hD hK hS (lv_sub hl [1, 2, 3, 4, 5, 6] rfl)
        have J58 : ∀ (H : Heap) (locs : List Loc) (ls : Array Slot), (fX4_findLabels_J58 (fX4_findLabels_L10 p1w p2 n_10) p1w v3_10 v4_10 p0w_10) = some o10 → va_P (dC, dI) cls (List.flatten ([(oX4 (p0a 0) p0a p0k p0w_10 p0l), (oX6 (p1a 0) p1a p1k p1w p1l)] : List va_W)) H → va_D A (List.flatten ([(oX4 (p0a 0) p0a p0k p0w_10 p0l), (oX6 (p1a 0) p1a p1k p1w p1l)] : List va_W)) → va_K (dC, dI) cls (List.flatten ([(tX4 p0k), (tX6 p1k)] : List (List (ClassId × FieldType)))) s → va_S A s.heap H locs → lv_has ls 7 [(0, .ref (p0a 0)), (1, .ref (p1a 0)), (2, .int p2), (3, .int v3_10), (4, .int v4_10), (5, .int (p1w 9 (nn v4_10)))] → W p l e ({ frames := 0, cells := 0, slots := 0, locals := 0 } : Room) s m ([.ref (p0a 0), .ref (p1a 0), .int p2] : List Value).toArray below meth c H locs 0 0 Q (F0 m 58 ls []) := by
          intro  H locs ls hrun hP hD hK hS hl 
          unfold fX4_findLabels_J58 at hrun
          refine lv_iconst (v := 1) hx hb dX4_findLabels_58 (by decide) ?_
          refine lv_goto (tgt := 63) hx hb dX4_findLabels_59 (by decide) ?_
          exact J63 1 _ _ _ hrun hP hD hK hS (lv_sub hl [0, 1, 2, 3, 4, 5] rfl)
        rcases br9 hrun with ⟨hc11, hrun⟩ | ⟨hc11, hrun⟩
        · refine lv_icmp_eq (tgt := 58) hx hb dX4_findLabels_34 (by decide) (fun _ => ?_) (fun c => absurd hc11 c)
          exact J58 _ _ _ hrun hP hD hK hS (lv_sub hl [1, 2, 3, 4, 5, 0] rfl)
        · refine lv_icmp_eq (tgt := 58) hx hb dX4_findLabels_34 (by decide) (fun c => absurd c hc11) (fun _ => ?_)
          refine lv_iload hx hb dX4_findLabels_37 (lv_at hl 0 rfl) ?_
          refine lv_bipush (v := 33) hx hb dX4_findLabels_39 (by decide) ?_
          rcases br9 hrun with ⟨hc12, hrun⟩ | ⟨hc12, hrun⟩
          · refine lv_icmp_eq (tgt := 58) hx hb dX4_findLabels_41 (by decide) (fun _ => ?_) (fun c => absurd hc12 c)
            exact J58 _ _ _ hrun hP hD hK hS (lv_sub hl [1, 2, 3, 4, 5, 0] rfl)
          · refine lv_icmp_eq (tgt := 58) hx hb dX4_findLabels_41 (by decide) (fun c => absurd c hc12) (fun _ => ?_)
            refine lv_iload hx hb dX4_findLabels_44 (lv_at hl 0 rfl) ?_
            refine lv_bipush (v := 34) hx hb dX4_findLabels_46 (by decide) ?_
            rcases br9 hrun with ⟨hc13, hrun⟩ | ⟨hc13, hrun⟩
            · refine lv_icmp_eq (tgt := 58) hx hb dX4_findLabels_48 (by decide) (fun _ => ?_) (fun c => absurd hc13 c)
              exact J58 _ _ _ hrun hP hD hK hS (lv_sub hl [1, 2, 3, 4, 5, 0] rfl)
            · refine lv_icmp_eq (tgt := 58) hx hb dX4_findLabels_48 (by decide) (fun c => absurd c hc13) (fun _ => ?_)
              refine lv_iload hx hb dX4_findLabels_51 (lv_at hl 0 rfl) ?_
              refine lv_bipush (v := 24) hx hb dX4_findLabels_53 (by decide) ?_
              rcases br9 hrun with ⟨hc14, hrun⟩ | ⟨hc14, hrun⟩
              · refine lv_icmp_ne (tgt := 62) hx hb dX4_findLabels_55 (by decide) (fun c => absurd hc14 c) (fun _ => ?_)
                exact J58 _ _ _ hrun hP hD hK hS (lv_sub hl [1, 2, 3, 4, 5, 0] rfl)
              · refine lv_icmp_ne (tgt := 62) hx hb dX4_findLabels_55 (by decide) (fun _ => ?_) (fun c => absurd c hc14)
                refine lv_iconst (v := 0) hx hb dX4_findLabels_62 (by decide) ?_
                exact J63 0 _ _ _ hrun hP hD hK hS (lv_sub hl [1, 2, 3, 4, 5, 0] rfl)
  obtain ⟨o10, hc10, hrun⟩ := bnd9 hrun
  refine L10 NF 0 (p1w 6 (nn p2)) p0w o10 _ _ _ hc10 hP hD hK hS (lv_sub hl [2, 3, 4, 1, 0] rfl) ?_
  intro H locs ls hP hD hK hS hl
  have hl := hl
  have ho9 : o10 = o := Option.some.inj hrun
  have hP9 : va_P (dC, dI) cls (List.flatten ([(oX4 (p0a 0) p0a p0k o p0l), (oX6 (p1a 0) p1a p1k p1w p1l)] : List va_W)) H := by first | exact hP | (rw [← ho9]; exact hP)
  have hD9 : va_D A (List.flatten ([(oX4 (p0a 0) p0a p0k o p0l), (oX6 (p1a 0) p1a p1k p1w p1l)] : List va_W)) := by first | exact hD | (rw [← ho9]; exact hD)
  subst hQ
  exact W.vret hx hb hr (fun t ht hW => ⟨⟨(), rfl, trivial, ⟨by rw [ht]; exact hP9, va_K.moved hW.alike hK, hD9⟩⟩, hS.F ht⟩) hS.2.2 dX4_findLabels_106
def fX4_cutPieces_J213 (kk26 : Int32 → Int32 → ST → Option ST) (v4_26 : Int32) (v3_213 : Int32) (p0w_213 : ST) : Option ST := (kk26 v3_213 (v4_26 + 1) p0w_213)
def fX4_cutPieces_L26 (p1w : ST) (p2 : Int32) : Nat → Int32 → Int32 → ST → Option ST
  | 0 => fun _ _ _ => none
  | n_26 + 1 => fun v3_26 v4_26 p0w_26 => (if ixb p2 6 = true then (if (p1w 7 (nn p2)) ≤ v4_26 then some p0w_26 else (if ixb v4_26 3200 = true then (if (p1w 9 (nn v4_26)) = 35 then ((fX4_addPiece p0w_26 v3_26 v4_26 ((p0w_26 0 5) + 1) (-1)).bind fun (o_9 : ST) => (fX4_cutPieces_J213 (fX4_cutPieces_L26 p1w p2 n_26) v4_26 v4_26 o_9)) else (if (p1w 9 (nn v4_26)) = 22 then (if ixb v4_26 3200 = true then (if ixb (p1w 10 (nn v4_26)) 640 = true then ((fX4_addPiece p0w_26 v3_26 (v4_26 + 1) (p0w_26 13 (nn (p1w 10 (nn v4_26)))) (-1)).bind fun (o_13 : ST) => (fX4_cutPieces_J213 (fX4_cutPieces_L26 p1w p2 n_26) v4_26 (v4_26 + 1) o_13)) else none) else none) else (if (p1w 9 (nn v4_26)) = 33 then (if ixb v4_26 3200 = true then (if ixb (p1w 10 (nn v4_26)) 640 = true then ((fX4_addPiece p0w_26 v3_26 (v4_26 + 1) ((p0w_26 0 5) + 1) (p0w_26 13 (nn (p1w 10 (nn v4_26))))).bind fun (o_17 : ST) => (fX4_cutPieces_J213 (fX4_cutPieces_L26 p1w p2 n_26) v4_26 (v4_26 + 1) o_17)) else none) else none) else (if (p1w 9 (nn v4_26)) = 34 then (if ixb v4_26 3200 = true then (if ixb (p1w 10 (nn v4_26)) 640 = true then ((fX4_addPiece p0w_26 v3_26 (v4_26 + 1) (p0w_26 13 (nn (p1w 10 (nn v4_26)))) ((p0w_26 0 5) + 1)).bind fun (o_21 : ST) => (fX4_cutPieces_J213 (fX4_cutPieces_L26 p1w p2 n_26) v4_26 (v4_26 + 1) o_21)) else none) else none) else (if (p1w 9 (nn v4_26)) = 24 then ((fX4_addPiece p0w_26 v3_26 (v4_26 + 1) (-1) (-1)).bind fun (o_23 : ST) => (fX4_cutPieces_J213 (fX4_cutPieces_L26 p1w p2 n_26) v4_26 (v4_26 + 1) o_23)) else (fX4_cutPieces_J213 (fX4_cutPieces_L26 p1w p2 n_26) v4_26 v3_26 p0w_26)))))) else none)) else none)
def fX4_cutPieces (p0w : ST) (p1w : ST) (p2 : Int32) : Option ST := ((fX4_findLabels p0w p1w p2).bind fun (o_1 : ST) => (lt9 (upw o_1 0 5 0) fun (w2 : ST) => (if ixb p2 6 = true then (if ixb p2 6 = true then ((fX4_cutPieces_L26 p1w p2 NF (p1w 6 (nn p2)) (p1w 6 (nn p2)) w2).bind fun (o26 : ST) => some o26) else none) else none)))
set_option maxHeartbeats 16000000 in
set_option maxRecDepth 100000 in
theorem kX4_cutPieces {zs : ZS} (l : Launch) (dC : Nat → ClassId) (dI : Nat → Nat → Nat) (p0a : Nat → Nat) (p0k : Nat → ClassId) (p0w : ST) (p0l : SL) (p1a : Nat → Nat) (p1k : Nat → ClassId) (p1w : ST) (p1l : SL) (p2 : Int32) (sz : Nat) (o : ST) (hrun : fX4_cutPieces p0w p1w p2 = some o) : Met l yX4_cutPieces (wz yX4_cutPieces cX4_cutPieces 7 (Option.none : Option Jvm.ClassFile.FieldType)) ({ frames := 1, cells := 0, slots := 0, locals := 26 } : Room) (va_Pc [.ref (p0a 0), .ref (p1a 0), .int p2] (PRE zs dC dI (List.flatten ([(oX4 (p0a 0) p0a p0k p0w p0l), (oX6 (p1a 0) p1a p1k p1w p1l)] : List va_W)) (List.flatten ([(tX4 p0k), (tX6 p1k)] : List (List (ClassId × FieldType)))) sz)) (va_Qv (fun (_ : Unit) => True) (fun _ t => POST dC dI (List.flatten ([(oX4 (p0a 0) p0a p0k o p0l), (oX6 (p1a 0) p1a p1k p1w p1l)] : List va_W)) (List.flatten ([(tX4 p0k), (tX6 p1k)] : List (List (ClassId × FieldType)))) (va_A (List.flatten ([(oX4 (p0a 0) p0a p0k p0w p0l), (oX6 (p1a 0) p1a p1k p1w p1l)] : List va_W)) sz) t) (va_A (List.flatten ([(oX4 (p0a 0) p0a p0k p0w p0l), (oX6 (p1a 0) p1a p1k p1w p1l)] : List va_W)) sz)) 0 0 (va_A (List.flatten ([(oX4 (p0a 0) p0a p0k p0w p0l), (oX6 (p1a 0) p1a p1k p1w p1l)] : List va_W)) sz) := by
  refine Met.ofW (cc := cX4_cutPieces) (maxL := 7) (ret := (Option.none : Option Jvm.ClassFile.FieldType)) (by decide) rfl ?_
  intro p e s m args below meth c s₁ B hml hv
  obtain ⟨rfl, hsz, hP, hK, hD0, hE⟩ := hv
  have hx := B.exec
  have hb := B.bytes
  have hr := B.returns
  have hts0 := atoms_spec (ws := wz yX4_cutPieces cX4_cutPieces 7 (Option.none : Option Jvm.ClassFile.FieldType)) B.pre
  have hts : ∀ w ∈ gw, w.before _ s = true := fun w h => hts0 w (List.mem_cons_of_mem _ h)
  have hown : s.vm.findClass RX4 = some m.cls := findClass_of_methodNamed B.named
  have hlocks := B.notSynchronized
  subst hsz
  have hD := hD0.self (sz := s.heap.size)
  refine gQ9 ?_
  intro Q hQ
  generalize hAe : va_A (List.flatten ([(oX4 (p0a 0) p0a p0k p0w p0l), (oX6 (p1a 0) p1a p1k p1w p1l)] : List va_W)) s.heap.size = A at hD hE hQ
  have hA : ∀ q : Nat, s.heap.size ≤ q → A q := fun q h => by rw [← hAe]; exact Or.inr h
  have hS : va_S A s.heap s.heap [] := va_S.rf
  have hP : va_P (dC, dI) cls (List.flatten ([(oX4 (p0a 0) p0a p0k p0w p0l), (oX6 (p1a 0) p1a p1k p1w p1l)] : List va_W)) s.heap := hP
  have hl := lv_entry ([.ref (p0a 0), .ref (p1a 0), .int p2]) (n := 7) (Nat.le_of_ble_eq_true rfl)
  rw [lg_entry_eq]
  generalize (lg_sl ([.ref (p0a 0), .ref (p1a 0), .int p2]) ++ List.replicate (7 - (lg_sl ([.ref (p0a 0), .ref (p1a 0), .int p2])).length) Slot.unset).toArray = ls at hl ⊢
  have hl : lv_has ls 7 [(0, .ref (p0a 0)), (1, .ref (p1a 0)), (2, .int p2)] := hl
  obtain ⟨H, hHe⟩ : ∃ H, H = s.heap := ⟨_, rfl⟩
  obtain ⟨locs, hle⟩ : ∃ locs : List Loc, locs = [] := ⟨_, rfl⟩
  rw [← hHe] at hP
  have hS : va_S A s.heap H locs := by rw [hHe, hle]; exact hS
  show W p l e ({ frames := 1, cells := 0, slots := 0, locals := 26 } : Room) s m ([.ref (p0a 0), .ref (p1a 0), .int p2] : List Value).toArray below meth c s.heap [] 0 0 Q (F0 m 0 ls [])
  rw [← hle]
  refine wH9 hHe ?_
  unfold fX4_cutPieces at hrun
  refine lv_aload_n hx hb dX4_cutPieces_0 rfl (lv_at hl 0 rfl) ?_
  refine lv_aload_n hx hb dX4_cutPieces_1 rfl (lv_at hl 1 rfl) ?_
  refine lv_iload_n hx hb dX4_cutPieces_2 rfl (lv_at hl 2 rfl) ?_
  obtain ⟨o_1, hc_1, hrun⟩ := bnd9 hrun
  have hPx : va_P (dC, dI) cls ((List.flatten ([(oX4 (p0a 0) p0a p0k p0w p0l), (oX6 (p1a 0) p1a p1k p1w p1l)] : List va_W)) ++ (List.flatten ([] : List va_W))) H := vP_fa (vP_perm hP (bP (List.Perm.refl _)))
  have hDx : va_D A ((List.flatten ([(oX4 (p0a 0) p0a p0k p0w p0l), (oX6 (p1a 0) p1a p1k p1w p1l)] : List va_W)) ++ (List.flatten ([] : List va_W))) := vD_fa (vD_perm hD (bP (List.Perm.refl _)))
  have hKx : va_K (dC, dI) cls ((List.flatten ([(tX4 p0k), (tX6 p1k)] : List (List (ClassId × FieldType)))) ++ (List.flatten ([] : List (List (ClassId × FieldType))))) s := vK_fa (vK_perm hK (bP (List.Perm.refl _)))
  have hPc := vP_l hPx
  have hDc := vD_l hDx
  have hKc := vK_l hKx
  have hFc := vfree hDx hS hA
  refine va_callv (va_runV (As := [.ref (p1a 0), .int p2]) (rest := []) ⟨hx, hb, hml, hown, hts⟩ (kX4_findLabels l dC dI (p0a := p0a) (p0k := p0k) (p0w := p0w) (p0l := p0l) (p1a := p1a) (p1k := p1k) (p1w := p1w) (p1l := p1l) (p2 := p2) (sz := _) (o := o_1) (hrun := hc_1)) (cwV 2 hts (gi_V qw267 qw268 qw269 qw270 (gi_z qw266)) rfl rfl rfl (by decide +kernel) ⟨Nat.le_of_ble_eq_true rfl, Nat.le_of_ble_eq_true rfl⟩) ⟨PRE.blind, va_recv hKc hPc (ci := 6) (q0 := 0) rfl rfl, PRE.of hE hS hFc hPc hKc hDc⟩ rfl rfl hl.1 rfl (lv_room (Nat.le_of_ble_eq_true rfl)) dX4_cutPieces_3 ⟨(Nat.le_of_ble_eq_true rfl), (Nat.le_of_ble_eq_true rfl)⟩) hS (fun q _ h => hFc q h) hFc (fun u t H locs ht hvm hw hB hz1 hk1 hS => ?_)
  obtain ⟨b1, b2, b3⟩ := hB
  rw [ht] at b1
  obtain ⟨hP, hD, hK⟩ := JOINC (wc := (List.flatten ([(oX4 (p0a 0) p0a p0k p0w p0l), (oX6 (p1a 0) p1a p1k p1w p1l)] : List va_W))) (wr := (List.flatten ([] : List va_W))) (w1 := (List.flatten ([(oX4 (p0a 0) p0a p0k o_1 p0l), (oX6 (p1a 0) p1a p1k p1w p1l)] : List va_W))) (t1 := (List.flatten ([(tX4 p0k), (tX6 p1k)] : List (List (ClassId × FieldType))))) hPx hDx hKx hk1 hFc b1 (va_K.moved hvm.symm b2) b3
  have hP : va_P (dC, dI) cls (List.flatten ([(oX4 (p0a 0) p0a p0k o_1 p0l), (oX6 (p1a 0) p1a p1k p1w p1l)] : List va_W)) H := vP_perm (vP_fb hP) (bP (List.Perm.refl _))
  have hD : va_D A (List.flatten ([(oX4 (p0a 0) p0a p0k o_1 p0l), (oX6 (p1a 0) p1a p1k p1w p1l)] : List va_W)) := vD_perm (vD_fb hD) (bP (List.Perm.refl _))
  have hK : va_K (dC, dI) cls (List.flatten ([(tX4 p0k), (tX6 p1k)] : List (List (ClassId × FieldType)))) s := vK_perm (vK_fb hK) (bP (List.Perm.refl _))
  refine lv_aload_n hx hb dX4_cutPieces_6 rfl (lv_at hl 0 rfl) ?_
  refine lv_iconst (v := 0) hx hb dX4_cutPieces_7 (by decide) ?_
  refine va_put (D := (dC, dI)) (ci := 6) (v := .int 0) (ty := .int) (C := RX4) (T := TX4) (N := 20) hx hb hts i_X4 tyX4 tyX4_ok nmX4 hown hK hP hD hS 0 rfl rfl 5 (by decide) (hts _ qw255) (fun _ h9 => h9) rfl (by decide +kernel) rfl rfl (Nat.le_of_ble_eq_true rfl) dX4_cutPieces_8 (fun H locs hP hD hS => ?_)
  have hP : va_P (dC, dI) cls (List.flatten ([(oX4 (p0a 0) p0a p0k (upw o_1 0 5 0) p0l), (oX6 (p1a 0) p1a p1k p1w p1l)] : List va_W)) H := hP
  have hD : va_D A (List.flatten ([(oX4 (p0a 0) p0a p0k (upw o_1 0 5 0) p0l), (oX6 (p1a 0) p1a p1k p1w p1l)] : List va_W)) := hD
  obtain ⟨w2, ew2, hrun⟩ := let9 hrun
  rw [← ew2] at hP hD
  refine lv_aload_n hx hb dX4_cutPieces_11 rfl (lv_at hl 1 rfl) ?_
  refine va_get (D := (dC, dI)) (ci := 2) (v := .ref (p1a 6)) (C := RX6) (T := TX6) (N := 13) hx hb hts i_X6 hown hK hP 19 rfl rfl 5 (by decide) (hts _ qw261) (fun _ h9 => h9) rfl dX4_cutPieces_12 ?_
  refine lv_iload_n hx hb dX4_cutPieces_15 rfl (lv_at hl 2 rfl) ?_
  obtain ⟨hq3, hrun⟩ := chk9 hrun
  refine va_iald hx hb hK hP 24 22 rfl rfl (ixb_in hq3) dX4_cutPieces_16 ?_
  refine lv_istore_n (lv' := [(3, .int (p1w 6 (nn p2))), (0, .ref (p0a 0)), (1, .ref (p1a 0)), (2, .int p2)]) hx hb dX4_cutPieces_17 rfl hl (by decide) rfl (fun ls hl => ?_)
  refine lv_aload_n hx hb dX4_cutPieces_18 rfl (lv_at hl 2 rfl) ?_
  refine va_get (D := (dC, dI)) (ci := 2) (v := .ref (p1a 6)) (C := RX6) (T := TX6) (N := 13) hx hb hts i_X6 hown hK hP 19 rfl rfl 5 (by decide) (hts _ qw261) (fun _ h9 => h9) rfl dX4_cutPieces_19 ?_
  refine lv_iload_n hx hb dX4_cutPieces_22 rfl (lv_at hl 3 rfl) ?_
  obtain ⟨hq4, hrun⟩ := chk9 hrun
  refine va_iald hx hb hK hP 24 22 rfl rfl (ixb_in hq4) dX4_cutPieces_23 ?_
  refine lv_istore (lv' := [(4, .int (p1w 6 (nn p2))), (3, .int (p1w 6 (nn p2))), (0, .ref (p0a 0)), (1, .ref (p1a 0)), (2, .int p2)]) hx hb dX4_cutPieces_24 hl (by decide) rfl (fun ls hl => ?_)
  have L26 : ∀ (n_26 : Nat) (v3_26 : Int32) (v4_26 : Int32) (p0w_26 : ST) (o26 : ST) (H : Heap) (locs : List Loc) (ls : Array Slot), (fX4_cutPieces_L26 p1w p2 n_26) v3_26 v4_26 p0w_26 = some o26 → va_P (dC, dI) cls (List.flatten ([(oX4 (p0a 0) p0a p0k p0w_26 p0l), (oX6 (p1a 0) p1a p1k p1w p1l)] : List va_W)) H → va_D A (List.flatten ([(oX4 (p0a 0) p0a p0k p0w_26 p0l), (oX6 (p1a 0) p1a p1k p1w p1l)] : List va_W)) → va_K (dC, dI) cls (List.flatten ([(tX4 p0k), (tX6 p1k)] : List (List (ClassId × FieldType)))) s → va_S A s.heap H locs → lv_has ls 7 [(0, .ref (p0a 0)), (1, .ref (p1a 0)), (2, .int p2), (3, .int v3_26), (4, .int v4_26)] → (∀ (H : Heap) (locs : List Loc) (ls : Array Slot), va_P (dC, dI) cls (List.flatten ([(oX4 (p0a 0) p0a p0k o26 p0l), (oX6 (p1a 0) p1a p1k p1w p1l)] : List va_W)) H → va_D A (List.flatten ([(oX4 (p0a 0) p0a p0k o26 p0l), (oX6 (p1a 0) p1a p1k p1w p1l)] : List va_W)) → va_K (dC, dI) cls (List.flatten ([(tX4 p0k), (tX6 p1k)] : List (List (ClassId × FieldType)))) s → va_S A s.heap H locs → lv_has ls 7 [] → W p l e ({ frames := 1, cells := 0, slots := 0, locals := 26 } : Room) s m ([.ref (p0a 0), .ref (p1a 0), .int p2] : List Value).toArray below meth c H locs 0 0 Q (F0 m 219 ls [])) → W p l e ({ frames := 1, cells := 0, slots := 0, locals := 26 } : Room) s m ([.ref (p0a 0), .ref (p1a 0), .int p2] : List Value).toArray below meth c H locs 0 0 Q (F0 m 26 ls []) := by
    intro n_26
    induction n_26 with
    | zero => intro v3_26 v4_26 p0w_26 o26 H locs ls hrun; exact (no9 rfl hrun).elim
    | succ n_26 IH26 =>
      intro v3_26 v4_26 p0w_26 o26 H locs ls hrun hP hD hK hS hl hk26
      unfold fX4_cutPieces_L26 at hrun
      refine lv_iload hx hb dX4_cutPieces_26 (lv_at hl 4 rfl) ?_
      refine lv_aload_n hx hb dX4_cutPieces_28 rfl (lv_at hl 1 rfl) ?_
      refine va_get (D := (dC, dI)) (ci := 2) (v := .ref (p1a 7)) (C := RX6) (T := TX6) (N := 13) hx hb hts i_X6 hown hK hP 19 rfl rfl 6 (by decide) (hts _ qw262) (fun _ h9 => h9) rfl dX4_cutPieces_29 ?_
      refine lv_iload_n hx hb dX4_cutPieces_32 rfl (lv_at hl 2 rfl) ?_
      obtain ⟨hq5, hrun⟩ := chk9 hrun
      refine va_iald hx hb hK hP 25 23 rfl rfl (ixb_in hq5) dX4_cutPieces_33 ?_
      rcases br9 hrun with ⟨hc6, hrun⟩ | ⟨hc6, hrun⟩
      · refine lv_icmp_ge (tgt := 219) hx hb dX4_cutPieces_34 (by decide) (fun _ => ?_) (fun c => absurd hc6 c)
        obtain rfl := (Option.some.inj hrun)
        exact hk26 _ _ _ hP hD hK hS (lv_sub hl [] rfl)
      · refine lv_icmp_ge (tgt := 219) hx hb dX4_cutPieces_34 (by decide) (fun c => absurd c hc6) (fun _ => ?_)
        refine lv_aload_n hx hb dX4_cutPieces_37 rfl (lv_at hl 1 rfl) ?_
        refine va_get (D := (dC, dI)) (ci := 2) (v := .ref (p1a 9)) (C := RX6) (T := TX6) (N := 13) hx hb hts i_X6 hown hK hP 19 rfl rfl 8 (by decide) (hts _ qw263) (fun _ h9 => h9) rfl dX4_cutPieces_38 ?_
        refine lv_iload hx hb dX4_cutPieces_41 (lv_at hl 4 rfl) ?_
        obtain ⟨hq7, hrun⟩ := chk9 hrun
        refine va_iald hx hb hK hP 26 24 rfl rfl (ixb_in hq7) dX4_cutPieces_43 ?_
        refine lv_istore (lv' := [(5, .int (p1w 9 (nn v4_26))), (0, .ref (p0a 0)), (1, .ref (p1a 0)), (2, .int p2), (3, .int v3_26), (4, .int v4_26)]) hx hb dX4_cutPieces_44 hl (by decide) rfl (fun ls hl => ?_)
        refine lv_aload_n hx hb dX4_cutPieces_46 rfl (lv_at hl 1 rfl) ?_
        refine va_get (D := (dC, dI)) (ci := 6) (v := .int (p0w_26 0 5)) (C := RX4) (T := TX4) (N := 20) hx hb hts i_X4 hown hK hP 0 rfl rfl 5 (by decide) (hts _ qw255) (fun _ h9 => h9) rfl dX4_cutPieces_47 ?_
        refine lv_iconst (v := 1) hx hb dX4_cutPieces_50 (by decide) ?_
        refine lv_iadd hx hb dX4_cutPieces_51 ?_
        refine lv_istore (lv' := [(6, .int ((p0w_26 0 5) + 1)), (5, .int (p1w 9 (nn v4_26))), (0, .ref (p0a 0)), (1, .ref (p1a 0)), (2, .int p2), (3, .int v3_26), (4, .int v4_26)]) hx hb dX4_cutPieces_52 hl (by decide) rfl (fun ls hl => ?_)
        refine lv_iload hx hb dX4_cutPieces_54 (lv_at hl 1 rfl) ?_
        refine lv_bipush (v := 35) hx hb dX4_cutPieces_56 (by decide) ?_
        have J213 : ∀ (v3_213 : Int32) (p0w_213 : ST) (H : Heap) (locs : List Loc) (ls : Array Slot), (fX4_cutPieces_J213 (fX4_cutPieces_L26 p1w p2 n_26) v4_26 v3_213 p0w_213) = some o26 → va_P (dC, dI) cls (List.flatten ([(oX4 (p0a 0) p0a p0k p0w_213 p0l), (oX6 (p1a 0) p1a p1k p1w p1l)] : List va_W)) H → va_D A (List.flatten ([(oX4 (p0a 0) p0a p0k p0w_213 p0l), (oX6 (p1a 0) p1a p1k p1w p1l)] : List va_W)) → va_K (dC, dI) cls (List.flatten ([(tX4 p0k), (tX6 p1k)] : List (List (ClassId × FieldType)))) s → va_S A s.heap H locs → lv_has ls 7 [(0, .ref (p0a 0)), (1, .ref (p1a 0)), (2, .int p2), (3, .int v3_213), (4, .int v4_26)] → W p l e ({ frames := 1, cells := 0, slots := 0, locals := 26 } : Room) s m ([.ref (p0a 0), .ref (p1a 0), .int p2] : List Value).toArray below meth c H locs 0 0 Q (F0 m 213 ls []) := by
          intro v3_213 p0w_213 H locs ls hrun hP hD hK hS hl 
          unfold fX4_cutPieces_J213 at hrun
          refine lv_iinc (v := (v4_26 + 1)) (lv' := [(4, .int (v4_26 + 1)), (0, .ref (p0a 0)), (1, .ref (p1a 0)), (2, .int p2), (3, .int v3_213)]) hx hb dX4_cutPieces_213 hl (k := 4) rfl rfl (by decide) rfl (fun ls hl => ?_)
          refine lv_goto (tgt := 26) hx hb dX4_cutPieces_216 (by decide) ?_
          exact IH26 v3_213 (v4_26 + 1) p0w_213 o26 _ _ _ hrun hP hD hK hS (lv_sub hl [1, 2, 3, 4, 0] rfl) hk26
        rcases br9 hrun with ⟨hc8, hrun⟩ | ⟨hc8, hrun⟩
        · refine lv_icmp_ne (tgt := 77) hx hb dX4_cutPieces_58 (by decide) (fun c => absurd hc8 c) (fun _ => ?_)
          refine lv_aload_n hx hb dX4_cutPieces_61 rfl (lv_at hl 2 rfl) ?_
          refine lv_iload_n hx hb dX4_cutPieces_62 rfl (lv_at hl 5 rfl) ?_
          refine lv_iload hx hb dX4_cutPieces_63 (lv_at hl 6 rfl) ?_
          refine lv_iload hx hb dX4_cutPieces_65 (lv_at hl 0 rfl) ?_
          refine lv_iconst (v := (-1)) hx hb dX4_cutPieces_67 (by decide) ?_
          obtain ⟨o_9, hc_9, hrun⟩ := bnd9 hrun
          have hPx : va_P (dC, dI) cls ((List.flatten ([(oX4 (p0a 0) p0a p0k p0w_26 p0l)] : List va_W)) ++ (List.flatten ([(oX6 (p1a 0) p1a p1k p1w p1l)] : List va_W))) H := vP_fa (vP_perm hP (bP (List.Perm.refl _)))
          have hDx : va_D A ((List.flatten ([(oX4 (p0a 0) p0a p0k p0w_26 p0l)] : List va_W)) ++ (List.flatten ([(oX6 (p1a 0) p1a p1k p1w p1l)] : List va_W))) := vD_fa (vD_perm hD (bP (List.Perm.refl _)))
          have hKx : va_K (dC, dI) cls ((List.flatten ([(tX4 p0k)] : List (List (ClassId × FieldType)))) ++ (List.flatten ([(tX6 p1k)] : List (List (ClassId × FieldType))))) s := vK_fa (vK_perm hK (bP (List.Perm.refl _)))
          have hPc := vP_l hPx
          have hDc := vD_l hDx
          have hKc := vK_l hKx
          have hFc := vfree hDx hS hA
          refine va_callv (va_runV (As := [.int v3_26, .int v4_26, .int ((p0w_26 0 5) + 1), .int (-1)]) (rest := []) ⟨hx, hb, hml, hown, hts⟩ (kX4_addPiece l dC dI (p0a := p0a) (p0k := p0k) (p0w := p0w_26) (p0l := p0l) (p1 := v3_26) (p2 := v4_26) (p3 := ((p0w_26 0 5) + 1)) (p4 := (-1)) (sz := _) (o := o_9) (hrun := hc_9)) (cwV 4 hts (gi_V qw272 qw273 qw274 qw270 (gi_z qw271)) rfl rfl rfl (by decide +kernel) ⟨Nat.le_of_ble_eq_true rfl, Nat.le_of_ble_eq_true rfl⟩) ⟨PRE.blind, va_recv hKc hPc (ci := 6) (q0 := 0) rfl rfl, PRE.of hE hS hFc hPc hKc hDc⟩ rfl rfl hl.1 rfl (lv_room (Nat.le_of_ble_eq_true rfl)) dX4_cutPieces_68 ⟨(Nat.le_of_ble_eq_true rfl), (Nat.le_of_ble_eq_true rfl)⟩) hS (fun q _ h => hFc q h) hFc (fun u t H locs ht hvm hw hB hz1 hk1 hS => ?_)
          obtain ⟨b1, b2, b3⟩ := hB
          rw [ht] at b1
          obtain ⟨hP, hD, hK⟩ := JOINC (wc := (List.flatten ([(oX4 (p0a 0) p0a p0k p0w_26 p0l)] : List va_W))) (wr := (List.flatten ([(oX6 (p1a 0) p1a p1k p1w p1l)] : List va_W))) (w1 := (List.flatten ([(oX4 (p0a 0) p0a p0k o_9 p0l)] : List va_W))) (t1 := (List.flatten ([(tX4 p0k)] : List (List (ClassId × FieldType))))) hPx hDx hKx hk1 hFc b1 (va_K.moved hvm.symm b2) b3
          have hP : va_P (dC, dI) cls (List.flatten ([(oX4 (p0a 0) p0a p0k o_9 p0l), (oX6 (p1a 0) p1a p1k p1w p1l)] : List va_W)) H := vP_perm (vP_fb hP) (bP (List.Perm.refl _))
          have hD : va_D A (List.flatten ([(oX4 (p0a 0) p0a p0k o_9 p0l), (oX6 (p1a 0) p1a p1k p1w p1l)] : List va_W)) := vD_perm (vD_fb hD) (bP (List.Perm.refl _))
          have hK : va_K (dC, dI) cls (List.flatten ([(tX4 p0k), (tX6 p1k)] : List (List (ClassId × FieldType)))) s := vK_perm (vK_fb hK) (bP (List.Perm.refl _))
          refine lv_iload hx hb dX4_cutPieces_71 (lv_at hl 6 rfl) ?_
          refine lv_istore_n (lv' := [(3, .int v4_26), (6, .int ((p0w_26 0 5) + 1)), (5, .int (p1w 9 (nn v4_26))), (0, .ref (p0a 0)), (1, .ref (p1a 0)), (2, .int p2), (4, .int v4_26)]) hx hb dX4_cutPieces_73 rfl hl (by decide) rfl (fun ls hl => ?_)
          refine lv_goto (tgt := 213) hx hb dX4_cutPieces_74 (by decide) ?_
          exact J213 v4_26 o_9 _ _ _ hrun hP hD hK hS (lv_sub hl [3, 4, 5, 0, 6] rfl)
        · refine lv_icmp_ne (tgt := 77) hx hb dX4_cutPieces_58 (by decide) (fun _ => ?_) (fun c => absurd c hc8)
          refine lv_iload hx hb dX4_cutPieces_77 (lv_at hl 1 rfl) ?_
          refine lv_bipush (v := 22) hx hb dX4_cutPieces_79 (by decide) ?_
          rcases br9 hrun with ⟨hc10, hrun⟩ | ⟨hc10, hrun⟩
          · refine lv_icmp_ne (tgt := 114) hx hb dX4_cutPieces_81 (by decide) (fun c => absurd hc10 c) (fun _ => ?_)
            refine lv_aload_n hx hb dX4_cutPieces_84 rfl (lv_at hl 2 rfl) ?_
            refine lv_iload_n hx hb dX4_cutPieces_85 rfl (lv_at hl 5 rfl) ?_
            refine lv_iload hx hb dX4_cutPieces_86 (lv_at hl 6 rfl) ?_
            refine lv_iconst (v := 1) hx hb dX4_cutPieces_88 (by decide) ?_
            refine lv_iadd hx hb dX4_cutPieces_89 ?_
            refine lv_aload_n hx hb dX4_cutPieces_90 rfl (lv_at hl 2 rfl) ?_
            refine va_get (D := (dC, dI)) (ci := 6) (v := .ref (p0a 13)) (C := RX4) (T := TX4) (N := 20) hx hb hts i_X4 hown hK hP 0 rfl rfl 12 (by decide) (hts _ qw264) (fun _ h9 => h9) rfl dX4_cutPieces_91 ?_
            refine lv_aload_n hx hb dX4_cutPieces_94 rfl (lv_at hl 3 rfl) ?_
            refine va_get (D := (dC, dI)) (ci := 2) (v := .ref (p1a 10)) (C := RX6) (T := TX6) (N := 13) hx hb hts i_X6 hown hK hP 19 rfl rfl 9 (by decide) (hts _ qw265) (fun _ h9 => h9) rfl dX4_cutPieces_95 ?_
            refine lv_iload hx hb dX4_cutPieces_98 (lv_at hl 6 rfl) ?_
            obtain ⟨hq11, hrun⟩ := chk9 hrun
            refine va_iald hx hb hK hP 27 25 rfl rfl (ixb_in hq11) dX4_cutPieces_100 ?_
            obtain ⟨hq12, hrun⟩ := chk9 hrun
            refine va_iald hx hb hK hP 11 10 rfl rfl (ixb_in hq12) dX4_cutPieces_101 ?_
            refine lv_iconst (v := (-1)) hx hb dX4_cutPieces_102 (by decide) ?_
            obtain ⟨o_13, hc_13, hrun⟩ := bnd9 hrun
            have hPx : va_P (dC, dI) cls ((List.flatten ([(oX4 (p0a 0) p0a p0k p0w_26 p0l)] : List va_W)) ++ (List.flatten ([(oX6 (p1a 0) p1a p1k p1w p1l)] : List va_W))) H := vP_fa (vP_perm hP (bP (List.Perm.refl _)))
            have hDx : va_D A ((List.flatten ([(oX4 (p0a 0) p0a p0k p0w_26 p0l)] : List va_W)) ++ (List.flatten ([(oX6 (p1a 0) p1a p1k p1w p1l)] : List va_W))) := vD_fa (vD_perm hD (bP (List.Perm.refl _)))
            have hKx : va_K (dC, dI) cls ((List.flatten ([(tX4 p0k)] : List (List (ClassId × FieldType)))) ++ (List.flatten ([(tX6 p1k)] : List (List (ClassId × FieldType))))) s := vK_fa (vK_perm hK (bP (List.Perm.refl _)))
            have hPc := vP_l hPx
            have hDc := vD_l hDx
            have hKc := vK_l hKx
            have hFc := vfree hDx hS hA
            refine va_callv (va_runV (As := [.int v3_26, .int (v4_26 + 1), .int (p0w_26 13 (nn (p1w 10 (nn v4_26)))), .int (-1)]) (rest := []) ⟨hx, hb, hml, hown, hts⟩ (kX4_addPiece l dC dI (p0a := p0a) (p0k := p0k) (p0w := p0w_26) (p0l := p0l) (p1 := v3_26) (p2 := (v4_26 + 1)) (p3 := (p0w_26 13 (nn (p1w 10 (nn v4_26))))) (p4 := (-1)) (sz := _) (o := o_13) (hrun := hc_13)) (cwV 4 hts (gi_V qw272 qw273 qw274 qw270 (gi_z qw271)) rfl rfl rfl (by decide +kernel) ⟨Nat.le_of_ble_eq_true rfl, Nat.le_of_ble_eq_true rfl⟩) ⟨PRE.blind, va_recv hKc hPc (ci := 6) (q0 := 0) rfl rfl, PRE.of hE hS hFc hPc hKc hDc⟩ rfl rfl hl.1 rfl (lv_room (Nat.le_of_ble_eq_true rfl)) dX4_cutPieces_103 ⟨(Nat.le_of_ble_eq_true rfl), (Nat.le_of_ble_eq_true rfl)⟩) hS (fun q _ h => hFc q h) hFc (fun u t H locs ht hvm hw hB hz1 hk1 hS => ?_)
            obtain ⟨b1, b2, b3⟩ := hB
            rw [ht] at b1
            obtain ⟨hP, hD, hK⟩ := JOINC (wc := (List.flatten ([(oX4 (p0a 0) p0a p0k p0w_26 p0l)] : List va_W))) (wr := (List.flatten ([(oX6 (p1a 0) p1a p1k p1w p1l)] : List va_W))) (w1 := (List.flatten ([(oX4 (p0a 0) p0a p0k o_13 p0l)] : List va_W))) (t1 := (List.flatten ([(tX4 p0k)] : List (List (ClassId × FieldType))))) hPx hDx hKx hk1 hFc b1 (va_K.moved hvm.symm b2) b3
            have hP : va_P (dC, dI) cls (List.flatten ([(oX4 (p0a 0) p0a p0k o_13 p0l), (oX6 (p1a 0) p1a p1k p1w p1l)] : List va_W)) H := vP_perm (vP_fb hP) (bP (List.Perm.refl _))
            have hD : va_D A (List.flatten ([(oX4 (p0a 0) p0a p0k o_13 p0l), (oX6 (p1a 0) p1a p1k p1w p1l)] : List va_W)) := vD_perm (vD_fb hD) (bP (List.Perm.refl _))
            have hK : va_K (dC, dI) cls (List.flatten ([(tX4 p0k), (tX6 p1k)] : List (List (ClassId × FieldType)))) s := vK_perm (vK_fb hK) (bP (List.Perm.refl _))
            refine lv_iload hx hb dX4_cutPieces_106 (lv_at hl 6 rfl) ?_
            refine lv_iconst (v := 1) hx hb dX4_cutPieces_108 (by decide) ?_
            refine lv_iadd hx hb dX4_cutPieces_109 ?_
            refine lv_istore_n (lv' := [(3, .int (v4_26 + 1)), (6, .int ((p0w_26 0 5) + 1)), (5, .int (p1w 9 (nn v4_26))), (0, .ref (p0a 0)), (1, .ref (p1a 0)), (2, .int p2), (4, .int v4_26)]) hx hb dX4_cutPieces_110 rfl hl (by decide) rfl (fun ls hl => ?_)
            refine lv_goto (tgt := 213) hx hb dX4_cutPieces_111 (by decide) ?_
            exact J213 (v4_26 + 1) o_13 _ _ _ hrun hP hD hK hS (lv_sub hl [3, 4, 5, 0, 6] rfl)
          · refine lv_icmp_ne (tgt := 114) hx hb dX4_cutPieces_81 (by decide) (fun _ => ?_) (fun c => absurd c hc10)
            refine lv_iload hx hb dX4_cutPieces_114 (lv_at hl 1 rfl) ?_
            refine lv_bipush (v := 33) hx hb dX4_cutPieces_116 (by decide) ?_
            rcases br9 hrun with ⟨hc14, hrun⟩ | ⟨hc14, hrun⟩
            · refine lv_icmp_ne (tgt := 152) hx hb dX4_cutPieces_118 (by decide) (fun c => absurd hc14 c) (fun _ => ?_)
              refine lv_aload_n hx hb dX4_cutPieces_121 rfl (lv_at hl 2 rfl) ?_
              refine lv_iload_n hx hb dX4_cutPieces_122 rfl (lv_at hl 5 rfl) ?_
              refine lv_iload hx hb dX4_cutPieces_123 (lv_at hl 6 rfl) ?_
              refine lv_iconst (v := 1) hx hb dX4_cutPieces_125 (by decide) ?_
              refine lv_iadd hx hb dX4_cutPieces_126 ?_
              refine lv_iload hx hb dX4_cutPieces_127 (lv_at hl 0 rfl) ?_
              refine lv_aload_n hx hb dX4_cutPieces_129 rfl (lv_at hl 2 rfl) ?_
              refine va_get (D := (dC, dI)) (ci := 6) (v := .ref (p0a 13)) (C := RX4) (T := TX4) (N := 20) hx hb hts i_X4 hown hK hP 0 rfl rfl 12 (by decide) (hts _ qw264) (fun _ h9 => h9) rfl dX4_cutPieces_130 ?_
              refine lv_aload_n hx hb dX4_cutPieces_133 rfl (lv_at hl 3 rfl) ?_
              refine va_get (D := (dC, dI)) (ci := 2) (v := .ref (p1a 10)) (C := RX6) (T := TX6) (N := 13) hx hb hts i_X6 hown hK hP 19 rfl rfl 9 (by decide) (hts _ qw265) (fun _ h9 => h9) rfl dX4_cutPieces_134 ?_
              refine lv_iload hx hb dX4_cutPieces_137 (lv_at hl 6 rfl) ?_
              obtain ⟨hq15, hrun⟩ := chk9 hrun
              refine va_iald hx hb hK hP 27 25 rfl rfl (ixb_in hq15) dX4_cutPieces_139 ?_
              obtain ⟨hq16, hrun⟩ := chk9 hrun
              refine va_iald hx hb hK hP 11 10 rfl rfl (ixb_in hq16) dX4_cutPieces_140 ?_
              obtain ⟨o_17, hc_17, hrun⟩ := bnd9 hrun
              have hPx : va_P (dC, dI) cls ((List.flatten ([(oX4 (p0a 0) p0a p0k p0w_26 p0l)] : List va_W)) ++ (List.flatten ([(oX6 (p1a 0) p1a p1k p1w p1l)] : List va_W))) H := vP_fa (vP_perm hP (bP (List.Perm.refl _)))
              have hDx : va_D A ((List.flatten ([(oX4 (p0a 0) p0a p0k p0w_26 p0l)] : List va_W)) ++ (List.flatten ([(oX6 (p1a 0) p1a p1k p1w p1l)] : List va_W))) := vD_fa (vD_perm hD (bP (List.Perm.refl _)))
              have hKx : va_K (dC, dI) cls ((List.flatten ([(tX4 p0k)] : List (List (ClassId × FieldType)))) ++ (List.flatten ([(tX6 p1k)] : List (List (ClassId × FieldType))))) s := vK_fa (vK_perm hK (bP (List.Perm.refl _)))
              have hPc := vP_l hPx
              have hDc := vD_l hDx
              have hKc := vK_l hKx
              have hFc := vfree hDx hS hA
              refine va_callv (va_runV (As := [.int v3_26, .int (v4_26 + 1), .int ((p0w_26 0 5) + 1), .int (p0w_26 13 (nn (p1w 10 (nn v4_26))))]) (rest := []) ⟨hx, hb, hml, hown, hts⟩ (kX4_addPiece l dC dI (p0a := p0a) (p0k := p0k) (p0w := p0w_26) (p0l := p0l) (p1 := v3_26) (p2 := (v4_26 + 1)) (p3 := ((p0w_26 0 5) + 1)) (p4 := (p0w_26 13 (nn (p1w 10 (nn v4_26))))) (sz := _) (o := o_17) (hrun := hc_17)) (cwV 4 hts (gi_V qw272 qw273 qw274 qw270 (gi_z qw271)) rfl rfl rfl (by decide +kernel) ⟨Nat.le_of_ble_eq_true rfl, Nat.le_of_ble_eq_true rfl⟩) ⟨PRE.blind, va_recv hKc hPc (ci := 6) (q0 := 0) rfl rfl, PRE.of hE hS hFc hPc hKc hDc⟩ rfl rfl hl.1 rfl (lv_room (Nat.le_of_ble_eq_true rfl)) dX4_cutPieces_141 ⟨(Nat.le_of_ble_eq_true rfl), (Nat.le_of_ble_eq_true rfl)⟩) hS (fun q _ h => hFc q h) hFc (fun u t H locs ht hvm hw hB hz1 hk1 hS => ?_)
              obtain ⟨b1, b2, b3⟩ := hB
              rw [ht] at b1
              obtain ⟨hP, hD, hK⟩ := JOINC (wc := (List.flatten ([(oX4 (p0a 0) p0a p0k p0w_26 p0l)] : List va_W))) (wr := (List.flatten ([(oX6 (p1a 0) p1a p1k p1w p1l)] : List va_W))) (w1 := (List.flatten ([(oX4 (p0a 0) p0a p0k o_17 p0l)] : List va_W))) (t1 := (List.flatten ([(tX4 p0k)] : List (List (ClassId × FieldType))))) hPx hDx hKx hk1 hFc b1 (va_K.moved hvm.symm b2) b3
              have hP : va_P (dC, dI) cls (List.flatten ([(oX4 (p0a 0) p0a p0k o_17 p0l), (oX6 (p1a 0) p1a p1k p1w p1l)] : List va_W)) H := vP_perm (vP_fb hP) (bP (List.Perm.refl _))
              have hD : va_D A (List.flatten ([(oX4 (p0a 0) p0a p0k o_17 p0l), (oX6 (p1a 0) p1a p1k p1w p1l)] : List va_W)) := vD_perm (vD_fb hD) (bP (List.Perm.refl _))
              have hK : va_K (dC, dI) cls (List.flatten ([(tX4 p0k), (tX6 p1k)] : List (List (ClassId × FieldType)))) s := vK_perm (vK_fb hK) (bP (List.Perm.refl _))
              refine lv_iload hx hb dX4_cutPieces_144 (lv_at hl 6 rfl) ?_
              refine lv_iconst (v := 1) hx hb dX4_cutPieces_146 (by decide) ?_
              refine lv_iadd hx hb dX4_cutPieces_147 ?_
              refine lv_istore_n (lv' := [(3, .int (v4_26 + 1)), (6, .int ((p0w_26 0 5) + 1)), (5, .int (p1w 9 (nn v4_26))), (0, .ref (p0a 0)), (1, .ref (p1a 0)), (2, .int p2), (4, .int v4_26)]) hx hb dX4_cutPieces_148 rfl hl (by decide) rfl (fun ls hl => ?_)
              refine lv_goto (tgt := 213) hx hb dX4_cutPieces_149 (by decide) ?_
              exact J213 (v4_26 + 1) o_17 _ _ _ hrun hP hD hK hS (lv_sub hl [3, 4, 5, 0, 6] rfl)
            · refine lv_icmp_ne (tgt := 152) hx hb dX4_cutPieces_118 (by decide) (fun _ => ?_) (fun c => absurd c hc14)
              refine lv_iload hx hb dX4_cutPieces_152 (lv_at hl 1 rfl) ?_
              refine lv_bipush (v := 34) hx hb dX4_cutPieces_154 (by decide) ?_
              rcases br9 hrun with ⟨hc18, hrun⟩ | ⟨hc18, hrun⟩
              · refine lv_icmp_ne (tgt := 190) hx hb dX4_cutPieces_156 (by decide) (fun c => absurd hc18 c) (fun _ => ?_)
                refine lv_aload_n hx hb dX4_cutPieces_159 rfl (lv_at hl 2 rfl) ?_
                refine lv_iload_n hx hb dX4_cutPieces_160 rfl (lv_at hl 5 rfl) ?_
                refine lv_iload hx hb dX4_cutPieces_161 (lv_at hl 6 rfl) ?_
                refine lv_iconst (v := 1) hx hb dX4_cutPieces_163 (by decide) ?_
                refine lv_iadd hx hb dX4_cutPieces_164 ?_
                refine lv_aload_n hx hb dX4_cutPieces_165 rfl (lv_at hl 2 rfl) ?_
                refine va_get (D := (dC, dI)) (ci := 6) (v := .ref (p0a 13)) (C := RX4) (T := TX4) (N := 20) hx hb hts i_X4 hown hK hP 0 rfl rfl 12 (by decide) (hts _ qw264) (fun _ h9 => h9) rfl dX4_cutPieces_166 ?_
                refine lv_aload_n hx hb dX4_cutPieces_169 rfl (lv_at hl 3 rfl) ?_
                refine va_get (D := (dC, dI)) (ci := 2) (v := .ref (p1a 10)) (C := RX6) (T := TX6) (N := 13) hx hb hts i_X6 hown hK hP 19 rfl rfl 9 (by decide) (hts _ qw265) (fun _ h9 => h9) rfl dX4_cutPieces_170 ?_
                refine lv_iload hx hb dX4_cutPieces_173 (lv_at hl 6 rfl) ?_
                obtain ⟨hq19, hrun⟩ := chk9 hrun
                refine va_iald hx hb hK hP 27 25 rfl rfl (ixb_in hq19) dX4_cutPieces_175 ?_
                obtain ⟨hq20, hrun⟩ := chk9 hrun
                refine va_iald hx hb hK hP 11 10 rfl rfl (ixb_in hq20) dX4_cutPieces_176 ?_
                refine lv_iload hx hb dX4_cutPieces_177 (lv_at hl 0 rfl) ?_
                obtain ⟨o_21, hc_21, hrun⟩ := bnd9 hrun
                have hPx : va_P (dC, dI) cls ((List.flatten ([(oX4 (p0a 0) p0a p0k p0w_26 p0l)] : List va_W)) ++ (List.flatten ([(oX6 (p1a 0) p1a p1k p1w p1l)] : List va_W))) H := vP_fa (vP_perm hP (bP (List.Perm.refl _)))
                have hDx : va_D A ((List.flatten ([(oX4 (p0a 0) p0a p0k p0w_26 p0l)] : List va_W)) ++ (List.flatten ([(oX6 (p1a 0) p1a p1k p1w p1l)] : List va_W))) := vD_fa (vD_perm hD (bP (List.Perm.refl _)))
                have hKx : va_K (dC, dI) cls ((List.flatten ([(tX4 p0k)] : List (List (ClassId × FieldType)))) ++ (List.flatten ([(tX6 p1k)] : List (List (ClassId × FieldType))))) s := vK_fa (vK_perm hK (bP (List.Perm.refl _)))
                have hPc := vP_l hPx
                have hDc := vD_l hDx
                have hKc := vK_l hKx
                have hFc := vfree hDx hS hA
                refine va_callv (va_runV (As := [.int v3_26, .int (v4_26 + 1), .int (p0w_26 13 (nn (p1w 10 (nn v4_26)))), .int ((p0w_26 0 5) + 1)]) (rest := []) ⟨hx, hb, hml, hown, hts⟩ (kX4_addPiece l dC dI (p0a := p0a) (p0k := p0k) (p0w := p0w_26) (p0l := p0l) (p1 := v3_26) (p2 := (v4_26 + 1)) (p3 := (p0w_26 13 (nn (p1w 10 (nn v4_26))))) (p4 := ((p0w_26 0 5) + 1)) (sz := _) (o := o_21) (hrun := hc_21)) (cwV 4 hts (gi_V qw272 qw273 qw274 qw270 (gi_z qw271)) rfl rfl rfl (by decide +kernel) ⟨Nat.le_of_ble_eq_true rfl, Nat.le_of_ble_eq_true rfl⟩) ⟨PRE.blind, va_recv hKc hPc (ci := 6) (q0 := 0) rfl rfl, PRE.of hE hS hFc hPc hKc hDc⟩ rfl rfl hl.1 rfl (lv_room (Nat.le_of_ble_eq_true rfl)) dX4_cutPieces_179 ⟨(Nat.le_of_ble_eq_true rfl), (Nat.le_of_ble_eq_true rfl)⟩) hS (fun q _ h => hFc q h) hFc (fun u t H locs ht hvm hw hB hz1 hk1 hS => ?_)
                obtain ⟨b1, b2, b3⟩ := hB
                rw [ht] at b1
                obtain ⟨hP, hD, hK⟩ := JOINC (wc := (List.flatten ([(oX4 (p0a 0) p0a p0k p0w_26 p0l)] : List va_W))) (wr := (List.flatten ([(oX6 (p1a 0) p1a p1k p1w p1l)] : List va_W))) (w1 := (List.flatten ([(oX4 (p0a 0) p0a p0k o_21 p0l)] : List va_W))) (t1 := (List.flatten ([(tX4 p0k)] : List (List (ClassId × FieldType))))) hPx hDx hKx hk1 hFc b1 (va_K.moved hvm.symm b2) b3
                have hP : va_P (dC, dI) cls (List.flatten ([(oX4 (p0a 0) p0a p0k o_21 p0l), (oX6 (p1a 0) p1a p1k p1w p1l)] : List va_W)) H := vP_perm (vP_fb hP) (bP (List.Perm.refl _))
                have hD : va_D A (List.flatten ([(oX4 (p0a 0) p0a p0k o_21 p0l), (oX6 (p1a 0) p1a p1k p1w p1l)] : List va_W)) := vD_perm (vD_fb hD) (bP (List.Perm.refl _))
                have hK : va_K (dC, dI) cls (List.flatten ([(tX4 p0k), (tX6 p1k)] : List (List (ClassId × FieldType)))) s := vK_perm (vK_fb hK) (bP (List.Perm.refl _))
                refine lv_iload hx hb dX4_cutPieces_182 (lv_at hl 6 rfl) ?_
                refine lv_iconst (v := 1) hx hb dX4_cutPieces_184 (by decide) ?_
                refine lv_iadd hx hb dX4_cutPieces_185 ?_
                refine lv_istore_n (lv' := [(3, .int (v4_26 + 1)), (6, .int ((p0w_26 0 5) + 1)), (5, .int (p1w 9 (nn v4_26))), (0, .ref (p0a 0)), (1, .ref (p1a 0)), (2, .int p2), (4, .int v4_26)]) hx hb dX4_cutPieces_186 rfl hl (by decide) rfl (fun ls hl => ?_)
                refine lv_goto (tgt := 213) hx hb dX4_cutPieces_187 (by decide) ?_
                exact J213 (v4_26 + 1) o_21 _ _ _ hrun hP hD hK hS (lv_sub hl [3, 4, 5, 0, 6] rfl)
              · refine lv_icmp_ne (tgt := 190) hx hb dX4_cutPieces_156 (by decide) (fun _ => ?_) (fun c => absurd c hc18)
                refine lv_iload hx hb dX4_cutPieces_190 (lv_at hl 1 rfl) ?_
                refine lv_bipush (v := 24) hx hb dX4_cutPieces_192 (by decide) ?_
                rcases br9 hrun with ⟨hc22, hrun⟩ | ⟨hc22, hrun⟩
                · refine lv_icmp_ne (tgt := 213) hx hb dX4_cutPieces_194 (by decide) (fun c => absurd hc22 c) (fun _ => ?_)
                  refine lv_aload_n hx hb dX4_cutPieces_197 rfl (lv_at hl 2 rfl) ?_
                  refine lv_iload_n hx hb dX4_cutPieces_198 rfl (lv_at hl 5 rfl) ?_
                  refine lv_iload hx hb dX4_cutPieces_199 (lv_at hl 6 rfl) ?_
                  refine lv_iconst (v := 1) hx hb dX4_cutPieces_201 (by decide) ?_
                  refine lv_iadd hx hb dX4_cutPieces_202 ?_
                  refine lv_iconst (v := (-1)) hx hb dX4_cutPieces_203 (by decide) ?_
                  refine lv_iconst (v := (-1)) hx hb dX4_cutPieces_204 (by decide) ?_
                  obtain ⟨o_23, hc_23, hrun⟩ := bnd9 hrun
                  have hPx : va_P (dC, dI) cls ((List.flatten ([(oX4 (p0a 0) p0a p0k p0w_26 p0l)] : List va_W)) ++ (List.flatten ([(oX6 (p1a 0) p1a p1k p1w p1l)] : List va_W))) H := vP_fa (vP_perm hP (bP (List.Perm.refl _)))
                  have hDx : va_D A ((List.flatten ([(oX4 (p0a 0) p0a p0k p0w_26 p0l)] : List va_W)) ++ (List.flatten ([(oX6 (p1a 0) p1a p1k p1w p1l)] : List va_W))) := vD_fa (vD_perm hD (bP (List.Perm.refl _)))
                  have hKx : va_K (dC, dI) cls ((List.flatten ([(tX4 p0k)] : List (List (ClassId × FieldType)))) ++ (List.flatten ([(tX6 p1k)] : List (List (ClassId × FieldType))))) s := vK_fa (vK_perm hK (bP (List.Perm.refl _)))
                  have hPc := vP_l hPx
                  have hDc := vD_l hDx
                  have hKc := vK_l hKx
                  have hFc := vfree hDx hS hA
                  refine va_callv (va_runV (As := [.int v3_26, .int (v4_26 + 1), .int (-1), .int (-1)]) (rest := []) ⟨hx, hb, hml, hown, hts⟩ (kX4_addPiece l dC dI (p0a := p0a) (p0k := p0k) (p0w := p0w_26) (p0l := p0l) (p1 := v3_26) (p2 := (v4_26 + 1)) (p3 := (-1)) (p4 := (-1)) (sz := _) (o := o_23) (hrun := hc_23)) (cwV 4 hts (gi_V qw272 qw273 qw274 qw270 (gi_z qw271)) rfl rfl rfl (by decide +kernel) ⟨Nat.le_of_ble_eq_true rfl, Nat.le_of_ble_eq_true rfl⟩) ⟨PRE.blind, va_recv hKc hPc (ci := 6) (q0 := 0) rfl rfl, PRE.of hE hS hFc hPc hKc hDc⟩ rfl rfl hl.1 rfl (lv_room (Nat.le_of_ble_eq_true rfl)) dX4_cutPieces_205 ⟨(Nat.le_of_ble_eq_true rfl), (Nat.le_of_ble_eq_true rfl)⟩) hS (fun q _ h => hFc q h) hFc (fun u t H locs ht hvm hw hB hz1 hk1 hS => ?_)
                  obtain ⟨b1, b2, b3⟩ := hB
                  rw [ht] at b1
                  obtain ⟨hP, hD, hK⟩ := JOINC (wc := (List.flatten ([(oX4 (p0a 0) p0a p0k p0w_26 p0l)] : List va_W))) (wr := (List.flatten ([(oX6 (p1a 0) p1a p1k p1w p1l)] : List va_W))) (w1 := (List.flatten ([(oX4 (p0a 0) p0a p0k o_23 p0l)] : List va_W))) (t1 := (List.flatten ([(tX4 p0k)] : List (List (ClassId × FieldType))))) hPx hDx hKx hk1 hFc b1 (va_K.moved hvm.symm b2) b3
                  have hP : va_P (dC, dI) cls (List.flatten ([(oX4 (p0a 0) p0a p0k o_23 p0l), (oX6 (p1a 0) p1a p1k p1w p1l)] : List va_W)) H := vP_perm (vP_fb hP) (bP (List.Perm.refl _))
                  have hD : va_D A (List.flatten ([(oX4 (p0a 0) p0a p0k o_23 p0l), (oX6 (p1a 0) p1a p1k p1w p1l)] : List va_W)) := vD_perm (vD_fb hD) (bP (List.Perm.refl _))
                  have hK : va_K (dC, dI) cls (List.flatten ([(tX4 p0k), (tX6 p1k)] : List (List (ClassId × FieldType)))) s := vK_perm (vK_fb hK) (bP (List.Perm.refl _))
                  refine lv_iload hx hb dX4_cutPieces_208 (lv_at hl 6 rfl) ?_
                  refine lv_iconst (v := 1) hx hb dX4_cutPieces_210 (by decide) ?_
                  refine lv_iadd hx hb dX4_cutPieces_211 ?_
                  refine lv_istore_n (lv' := [(3, .int (v4_26 + 1)), (6, .int ((p0w_26 0 5) + 1)), (5, .int (p1w 9 (nn v4_26))), (0, .ref (p0a 0)), (1, .ref (p1a 0)), (2, .int p2), (4, .int v4_26)]) hx hb dX4_cutPieces_212 rfl hl (by decide) rfl (fun ls hl => ?_)
                  exact J213 (v4_26 + 1) o_23 _ _ _ hrun hP hD hK hS (lv_sub hl [3, 4, 5, 0, 6] rfl)
                · refine lv_icmp_ne (tgt := 213) hx hb dX4_cutPieces_194 (by decide) (fun _ => ?_) (fun c => absurd c hc22)
                  exact J213 v3_26 p0w_26 _ _ _ hrun hP hD hK hS (lv_sub hl [2, 3, 4, 5, 6] rfl)
  obtain ⟨o26, hc26, hrun⟩ := bnd9 hrun
  refine L26 NF (p1w 6 (nn p2)) (p1w 6 (nn p2)) w2 o26 _ _ _ hc26 hP hD hK hS (lv_sub hl [2, 3, 4, 1, 0] rfl) ?_
  intro H locs ls hP hD hK hS hl
  have hl := hl
  have ho9 : o26 = o := Option.some.inj hrun
  have hP9 : va_P (dC, dI) cls (List.flatten ([(oX4 (p0a 0) p0a p0k o p0l), (oX6 (p1a 0) p1a p1k p1w p1l)] : List va_W)) H := by first | exact hP | (rw [← ho9]; exact hP)
  have hD9 : va_D A (List.flatten ([(oX4 (p0a 0) p0a p0k o p0l), (oX6 (p1a 0) p1a p1k p1w p1l)] : List va_W)) := by first | exact hD | (rw [← ho9]; exact hD)
  subst hQ
  exact W.vret hx hb hr (fun t ht hW => ⟨⟨(), rfl, trivial, ⟨by rw [ht]; exact hP9, va_K.moved hW.alike hK, hD9⟩⟩, hS.F ht⟩) hS.2.2 dX4_cutPieces_219
def fJ7_rangeCheck_23922 (p0 : Int32) (p1 : Int32) (p2 : Int32) : Option Unit := (if p1 ≤ p2 then (if 0 ≤ p1 then (if p2 ≤ p0 then some () else none) else none) else none)
set_option maxHeartbeats 16000000 in
set_option maxRecDepth 100000 in
theorem kJ7_rangeCheck_23922 {zs : ZS} (l : Launch) (dC : Nat → ClassId) (dI : Nat → Nat → Nat) (p0 : Int32) (p1 : Int32) (p2 : Int32) (sz : Nat) (o : Unit) (hrun : fJ7_rangeCheck_23922 p0 p1 p2 = some o) : Met l yJ7_rangeCheck_23922 (wz yJ7_rangeCheck_23922 cJ7_rangeCheck_23922 3 (Option.none : Option Jvm.ClassFile.FieldType)) ({ frames := 0, cells := 0, slots := 0, locals := 0 } : Room) (va_Pc [.int p0, .int p1, .int p2] (PRE zs dC dI (List.flatten ([] : List va_W)) (List.flatten ([] : List (List (ClassId × FieldType)))) sz)) (va_Qv (fun (_ : Unit) => True) (fun _ t => POST dC dI (List.flatten ([] : List va_W)) (List.flatten ([] : List (List (ClassId × FieldType)))) (va_A (List.flatten ([] : List va_W)) sz) t) (va_A (List.flatten ([] : List va_W)) sz)) 0 0 (va_A (List.flatten ([] : List va_W)) sz) := by
  refine Met.ofW (cc := cJ7_rangeCheck_23922) (maxL := 3) (ret := (Option.none : Option Jvm.ClassFile.FieldType)) (by decide) rfl ?_
  intro p e s m args below meth c s₁ B hml hv
  obtain ⟨rfl, hsz, hP, hK, hD0, hE⟩ := hv
  have hx := B.exec
  have hb := B.bytes
  have hr := B.returns
  have hts0 := atoms_spec (ws := wz yJ7_rangeCheck_23922 cJ7_rangeCheck_23922 3 (Option.none : Option Jvm.ClassFile.FieldType)) B.pre
  have hts : ∀ w ∈ gw, w.before _ s = true := fun w h => hts0 w (List.mem_cons_of_mem _ h)
  have hown : s.vm.findClass RJ7 = some m.cls := findClass_of_methodNamed B.named
  have hlocks := B.notSynchronized
  subst hsz
  have hD := hD0.self (sz := s.heap.size)
  refine gQ9 ?_
  intro Q hQ
  generalize hAe : va_A (List.flatten ([] : List va_W)) s.heap.size = A at hD hE hQ
  have hA : ∀ q : Nat, s.heap.size ≤ q → A q := fun q h => by rw [← hAe]; exact Or.inr h
  have hS : va_S A s.heap s.heap [] := va_S.rf
  have hP : va_P (dC, dI) cls (List.flatten ([] : List va_W)) s.heap := hP
  have hl := lv_entry ([.int p0, .int p1, .int p2]) (n := 3) (Nat.le_of_ble_eq_true rfl)
  rw [lg_entry_eq]
  generalize (lg_sl ([.int p0, .int p1, .int p2]) ++ List.replicate (3 - (lg_sl ([.int p0, .int p1, .int p2])).length) Slot.unset).toArray = ls at hl ⊢
  have hl : lv_has ls 3 [(0, .int p0), (1, .int p1), (2, .int p2)] := hl
  obtain ⟨H, hHe⟩ : ∃ H, H = s.heap := ⟨_, rfl⟩
  obtain ⟨locs, hle⟩ : ∃ locs : List Loc, locs = [] := ⟨_, rfl⟩
  rw [← hHe] at hP
  have hS : va_S A s.heap H locs := by rw [hHe, hle]; exact hS
  show W p l e ({ frames := 0, cells := 0, slots := 0, locals := 0 } : Room) s m ([.int p0, .int p1, .int p2] : List Value).toArray below meth c s.heap [] 0 0 Q (F0 m 0 ls [])
  rw [← hle]
  refine wH9 hHe ?_
  unfold fJ7_rangeCheck_23922 at hrun
  refine lv_iload_n hx hb dJ7_rangeCheck_23922_0 rfl (lv_at hl 1 rfl) ?_
  refine lv_iload_n hx hb dJ7_rangeCheck_23922_1 rfl (lv_at hl 2 rfl) ?_
  rcases br9 hrun with ⟨hc1, hrun⟩ | ⟨hc1, hrun⟩
  · refine lv_icmp_le (tgt := 46) hx hb dJ7_rangeCheck_23922_2 (by decide) (fun _ => ?_) (fun c => absurd hc1 c)
    refine lv_iload_n hx hb dJ7_rangeCheck_23922_46 rfl (lv_at hl 1 rfl) ?_
    rcases br9 hrun with ⟨hc2, hrun⟩ | ⟨hc2, hrun⟩
    · refine lv_if_ge (tgt := 59) hx hb dJ7_rangeCheck_23922_47 (by decide) (fun _ => ?_) (fun c => absurd hc2 c)
      refine lv_iload_n hx hb dJ7_rangeCheck_23922_59 rfl (lv_at hl 2 rfl) ?_
      refine lv_iload_n hx hb dJ7_rangeCheck_23922_60 rfl (lv_at hl 0 rfl) ?_
      rcases br9 hrun with ⟨hc3, hrun⟩ | ⟨hc3, hrun⟩
      · refine lv_icmp_le (tgt := 73) hx hb dJ7_rangeCheck_23922_61 (by decide) (fun _ => ?_) (fun c => absurd hc3 c)
        have ho9 : () = o := Option.some.inj hrun
        have hP9 : va_P (dC, dI) cls (List.flatten ([] : List va_W)) H := by first | exact hP | (rw [← ho9]; exact hP)
        have hD9 : va_D A (List.flatten ([] : List va_W)) := by first | exact hD | (rw [← ho9]; exact hD)
        subst hQ
        exact W.vret hx hb hr (fun t ht hW => ⟨⟨(), rfl, trivial, ⟨by rw [ht]; exact hP9, va_K.moved hW.alike hK, hD9⟩⟩, hS.F ht⟩) hS.2.2 dJ7_rangeCheck_23922_73
      · refine lv_icmp_le (tgt := 73) hx hb dJ7_rangeCheck_23922_61 (by decide) (fun c => absurd c hc3) (fun _ => ?_)
        cases hrun
    · refine lv_if_ge (tgt := 59) hx hb dJ7_rangeCheck_23922_47 (by decide) (fun c => absurd c hc2) (fun _ => ?_)
      cases hrun
  · refine lv_icmp_le (tgt := 46) hx hb dJ7_rangeCheck_23922_2 (by decide) (fun c => absurd c hc1) (fun _ => ?_)
    cases hrun
def fJ7_fill_fda19_L10 (p0n : Nat) (p2 : Int32) (p3 : Int32) : Nat → Int32 → RI → Option RI
  | 0 => fun _ _ => none
  | n_10 + 1 => fun v4_10 p0f_10 => (if p2 ≤ v4_10 then some p0f_10 else (if ixb v4_10 p0n = true then (lt9 (upd p0f_10 (nn v4_10) p3) fun (f4 : RI) => ((fJ7_fill_fda19_L10 p0n p2 p3 n_10) (v4_10 + 1) f4)) else none))
def fJ7_fill_fda19 (p0n : Nat) (p0f : RI) (p1 : Int32) (p2 : Int32) (p3 : Int32) : Option RI := ((fJ7_rangeCheck_23922 (Int32.ofNat p0n) p1 p2).bind fun (o_1 : Unit) => ((fJ7_fill_fda19_L10 p0n p2 p3 NF p1 p0f).bind fun (o10 : RI) => some o10))
set_option maxHeartbeats 16000000 in
set_option maxRecDepth 100000 in
theorem kJ7_fill_fda19 {zs : ZS} (l : Launch) (dC : Nat → ClassId) (dI : Nat → Nat → Nat) (p0a : Nat) (p0k : ClassId) (p0n : Nat) (p0f : RI) (p1 : Int32) (p2 : Int32) (p3 : Int32) (sz : Nat) (o : RI) (hrun : fJ7_fill_fda19 p0n p0f p1 p2 p3 = some o) : Met l yJ7_fill_fda19 (wz yJ7_fill_fda19 cJ7_fill_fda19 5 (Option.none : Option Jvm.ClassFile.FieldType)) ({ frames := 1, cells := 0, slots := 0, locals := 22 } : Room) (va_Pc [.ref p0a, .int p1, .int p2, .int p3] (PRE zs dC dI (List.flatten ([[(p0a, .inl (p0k, p0n, .inl p0f))]] : List va_W)) (List.flatten ([[(p0k, .int)]] : List (List (ClassId × FieldType)))) sz)) (va_Qv (fun (_ : Unit) => True) (fun _ t => POST dC dI (List.flatten ([[(p0a, .inl (p0k, p0n, .inl o))]] : List va_W)) (List.flatten ([[(p0k, .int)]] : List (List (ClassId × FieldType)))) (va_A (List.flatten ([[(p0a, .inl (p0k, p0n, .inl p0f))]] : List va_W)) sz) t) (va_A (List.flatten ([[(p0a, .inl (p0k, p0n, .inl p0f))]] : List va_W)) sz)) 0 0 (va_A (List.flatten ([[(p0a, .inl (p0k, p0n, .inl p0f))]] : List va_W)) sz) := by
  refine Met.ofW (cc := cJ7_fill_fda19) (maxL := 5) (ret := (Option.none : Option Jvm.ClassFile.FieldType)) (by decide) rfl ?_
  intro p e s m args below meth c s₁ B hml hv
  obtain ⟨rfl, hsz, hP, hK, hD0, hE⟩ := hv
  have hx := B.exec
  have hb := B.bytes
  have hr := B.returns
  have hts0 := atoms_spec (ws := wz yJ7_fill_fda19 cJ7_fill_fda19 5 (Option.none : Option Jvm.ClassFile.FieldType)) B.pre
  have hts : ∀ w ∈ gw, w.before _ s = true := fun w h => hts0 w (List.mem_cons_of_mem _ h)
  have hown : s.vm.findClass RJ7 = some m.cls := findClass_of_methodNamed B.named
  have hlocks := B.notSynchronized
  subst hsz
  have hD := hD0.self (sz := s.heap.size)
  refine gQ9 ?_
  intro Q hQ
  generalize hAe : va_A (List.flatten ([[(p0a, .inl (p0k, p0n, .inl p0f))]] : List va_W)) s.heap.size = A at hD hE hQ
  have hA : ∀ q : Nat, s.heap.size ≤ q → A q := fun q h => by rw [← hAe]; exact Or.inr h
  have hS : va_S A s.heap s.heap [] := va_S.rf
  have hP : va_P (dC, dI) cls (List.flatten ([[(p0a, .inl (p0k, p0n, .inl p0f))]] : List va_W)) s.heap := hP
  have hl := lv_entry ([.ref p0a, .int p1, .int p2, .int p3]) (n := 5) (Nat.le_of_ble_eq_true rfl)
  rw [lg_entry_eq]
  generalize (lg_sl ([.ref p0a, .int p1, .int p2, .int p3]) ++ List.replicate (5 - (lg_sl ([.ref p0a, .int p1, .int p2, .int p3])).length) Slot.unset).toArray = ls at hl ⊢
  have hl : lv_has ls 5 [(0, .ref p0a), (1, .int p1), (2, .int p2), (3, .int p3)] := hl
  obtain ⟨H, hHe⟩ : ∃ H, H = s.heap := ⟨_, rfl⟩
  obtain ⟨locs, hle⟩ : ∃ locs : List Loc, locs = [] := ⟨_, rfl⟩
  rw [← hHe] at hP
  have hS : va_S A s.heap H locs := by rw [hHe, hle]; exact hS
  show W p l e ({ frames := 1, cells := 0, slots := 0, locals := 22 } : Room) s m ([.ref p0a, .int p1, .int p2, .int p3] : List Value).toArray below meth c s.heap [] 0 0 Q (F0 m 0 ls [])
  rw [← hle]
  refine wH9 hHe ?_
  unfold fJ7_fill_fda19 at hrun
  refine lv_aload_n hx hb dJ7_fill_fda19_0 rfl (lv_at hl 0 rfl) ?_
  refine va_alen (v := (Int32.ofNat p0n)) hx hb hK hP 0 0 rfl rfl rfl dJ7_fill_fda19_1 ?_
  refine lv_iload_n hx hb dJ7_fill_fda19_2 rfl (lv_at hl 1 rfl) ?_
  refine lv_iload_n hx hb dJ7_fill_fda19_3 rfl (lv_at hl 2 rfl) ?_
  obtain ⟨o_1, hc_1, hrun⟩ := bnd9 hrun
  have hPx : va_P (dC, dI) cls ((List.flatten ([] : List va_W)) ++ (List.flatten ([[(p0a, .inl (p0k, p0n, .inl p0f))]] : List va_W))) H := vP_fa (vP_perm hP (bP (List.Perm.refl _)))
  have hDx : va_D A ((List.flatten ([] : List va_W)) ++ (List.flatten ([[(p0a, .inl (p0k, p0n, .inl p0f))]] : List va_W))) := vD_fa (vD_perm hD (bP (List.Perm.refl _)))
  have hKx : va_K (dC, dI) cls ((List.flatten ([] : List (List (ClassId × FieldType)))) ++ (List.flatten ([[(p0k, .int)]] : List (List (ClassId × FieldType))))) s := vK_fa (vK_perm hK (bP (List.Perm.refl _)))
  have hPc := vP_l hPx
  have hDc := vD_l hDx
  have hKc := vK_l hKx
  have hFc := vfree hDx hS hA
  refine va_callv (va_runS (As := [.int (Int32.ofNat p0n), .int p1, .int p2]) (rest := []) ⟨hx, hb, hml, hown, hts⟩ (kJ7_rangeCheck_23922 l dC dI (p0 := (Int32.ofNat p0n)) (p1 := p1) (p2 := p2) (sz := _) (o := o_1) (hrun := hc_1)) (va_cwS 3 hts (gi_S qw277 qw278 qw109 (gi_z qw276)) rfl rfl rfl (by decide +kernel) ⟨Nat.le_of_ble_eq_true rfl, Nat.le_of_ble_eq_true rfl⟩) ⟨PRE.blind, PRE.of hE hS hFc hPc hKc hDc⟩ rfl rfl hl.1 rfl (lv_room (Nat.le_of_ble_eq_true rfl)) dJ7_fill_fda19_4 ⟨(Nat.le_of_ble_eq_true rfl), (Nat.le_of_ble_eq_true rfl)⟩) hS (fun q _ h => hFc q h) hFc (fun u t H locs ht hvm hw hB hz1 hk1 hS => ?_)
  obtain ⟨b1, b2, b3⟩ := hB
  rw [ht] at b1
  obtain ⟨hP, hD, hK⟩ := JOINC (wc := (List.flatten ([] : List va_W))) (wr := (List.flatten ([[(p0a, .inl (p0k, p0n, .inl p0f))]] : List va_W))) (w1 := (List.flatten ([] : List va_W))) (t1 := (List.flatten ([] : List (List (ClassId × FieldType))))) hPx hDx hKx hk1 hFc b1 (va_K.moved hvm.symm b2) b3
  have hP : va_P (dC, dI) cls (List.flatten ([[(p0a, .inl (p0k, p0n, .inl p0f))]] : List va_W)) H := vP_perm (vP_fb hP) (bP (List.Perm.refl _))
  have hD : va_D A (List.flatten ([[(p0a, .inl (p0k, p0n, .inl p0f))]] : List va_W)) := vD_perm (vD_fb hD) (bP (List.Perm.refl _))
  have hK : va_K (dC, dI) cls (List.flatten ([[(p0k, .int)]] : List (List (ClassId × FieldType)))) s := vK_perm (vK_fb hK) (bP (List.Perm.refl _))
  refine lv_iload_n hx hb dJ7_fill_fda19_7 rfl (lv_at hl 1 rfl) ?_
  refine lv_istore (lv' := [(4, .int p1), (0, .ref p0a), (1, .int p1), (2, .int p2), (3, .int p3)]) hx hb dJ7_fill_fda19_8 hl (by decide) rfl (fun ls hl => ?_)
  have L10 : ∀ (n_10 : Nat) (v4_10 : Int32) (p0f_10 : RI) (o10 : RI) (H : Heap) (locs : List Loc) (ls : Array Slot), (fJ7_fill_fda19_L10 p0n p2 p3 n_10) v4_10 p0f_10 = some o10 → va_P (dC, dI) cls (List.flatten ([[(p0a, .inl (p0k, p0n, .inl p0f_10))]] : List va_W)) H → va_D A (List.flatten ([[(p0a, .inl (p0k, p0n, .inl p0f_10))]] : List va_W)) → va_K (dC, dI) cls (List.flatten ([[(p0k, .int)]] : List (List (ClassId × FieldType)))) s → va_S A s.heap H locs → lv_has ls 5 [(0, .ref p0a), (2, .int p2), (3, .int p3), (4, .int v4_10)] → (∀ (H : Heap) (locs : List Loc) (ls : Array Slot), va_P (dC, dI) cls (List.flatten ([[(p0a, .inl (p0k, p0n, .inl o10))]] : List va_W)) H → va_D A (List.flatten ([[(p0a, .inl (p0k, p0n, .inl o10))]] : List va_W)) → va_K (dC, dI) cls (List.flatten ([[(p0k, .int)]] : List (List (ClassId × FieldType)))) s → va_S A s.heap H locs → lv_has ls 5 [] → W p l e ({ frames := 1, cells := 0, slots := 0, locals := 22 } : Room) s m ([.ref p0a, .int p1, .int p2, .int p3] : List Value).toArray below meth c H locs 0 0 Q (F0 m 27 ls [])) → W p l e ({ frames := 1, cells := 0, slots := 0, locals := 22 } : Room) s m ([.ref p0a, .int p1, .int p2, .int p3] : List Value).toArray below meth c H locs 0 0 Q (F0 m 10 ls []) := by
    intro n_10
    induction n_10 with
    | zero => intro v4_10 p0f_10 o10 H locs ls hrun; exact (no9 rfl hrun).elim
    | succ n_10 IH10 =>
      intro v4_10 p0f_10 o10 H locs ls hrun hP hD hK hS hl hk10
      unfold fJ7_fill_fda19_L10 at hrun
      refine lv_iload hx hb dJ7_fill_fda19_10 (lv_at hl 3 rfl) ?_
      refine lv_iload_n hx hb dJ7_fill_fda19_12 rfl (lv_at hl 1 rfl) ?_
      rcases br9 hrun with ⟨hc2, hrun⟩ | ⟨hc2, hrun⟩
      · refine lv_icmp_ge (tgt := 27) hx hb dJ7_fill_fda19_13 (by decide) (fun _ => ?_) (fun c => absurd hc2 c)
        obtain rfl := (Option.some.inj hrun)
        exact hk10 _ _ _ hP hD hK hS (lv_sub hl [] rfl)
      · refine lv_icmp_ge (tgt := 27) hx hb dJ7_fill_fda19_13 (by decide) (fun c => absurd c hc2) (fun _ => ?_)
        refine lv_aload_n hx hb dJ7_fill_fda19_16 rfl (lv_at hl 0 rfl) ?_
        refine lv_iload hx hb dJ7_fill_fda19_17 (lv_at hl 3 rfl) ?_
        refine lv_iload_n hx hb dJ7_fill_fda19_19 rfl (lv_at hl 2 rfl) ?_
        obtain ⟨hq3, hrun⟩ := chk9 hrun
        refine va_iast hx hb hK hP hD hS 0 0 rfl rfl (ixb_in hq3) dJ7_fill_fda19_20 (fun H locs hP hD hS => ?_)
        have hP : va_P (dC, dI) cls (List.flatten ([[(p0a, .inl (p0k, p0n, .inl (upd p0f_10 (nn v4_10) p3)))]] : List va_W)) H := hP
        have hD : va_D A (List.flatten ([[(p0a, .inl (p0k, p0n, .inl (upd p0f_10 (nn v4_10) p3)))]] : List va_W)) := hD
        obtain ⟨f4, ef4, hrun⟩ := let9 hrun
        rw [← ef4] at hP hD
        refine lv_iinc (v := (v4_10 + 1)) (lv' := [(4, .int (v4_10 + 1)), (0, .ref p0a), (2, .int p2), (3, .int p3)]) hx hb dJ7_fill_fda19_21 hl (k := 3) rfl rfl (by decide) rfl (fun ls hl => ?_)
        refine lv_goto (tgt := 10) hx hb dJ7_fill_fda19_24 (by decide) ?_
        exact IH10 (v4_10 + 1) f4 o10 _ _ _ hrun hP hD hK hS (lv_sub hl [1, 2, 3, 0] rfl) hk10
  obtain ⟨o10, hc10, hrun⟩ := bnd9 hrun
  refine L10 NF p1 p0f o10 _ _ _ hc10 hP hD hK hS (lv_sub hl [1, 3, 4, 0] rfl) ?_
  intro H locs ls hP hD hK hS hl
  have hl := hl
  have ho9 : o10 = o := Option.some.inj hrun
  have hP9 : va_P (dC, dI) cls (List.flatten ([[(p0a, .inl (p0k, p0n, .inl o))]] : List va_W)) H := by first | exact hP | (rw [← ho9]; exact hP)
  have hD9 : va_D A (List.flatten ([[(p0a, .inl (p0k, p0n, .inl o))]] : List va_W)) := by first | exact hD | (rw [← ho9]; exact hD)
  subst hQ
  exact W.vret hx hb hr (fun t ht hW => ⟨⟨(), rfl, trivial, ⟨by rw [ht]; exact hP9, va_K.moved hW.alike hK, hD9⟩⟩, hS.F ht⟩) hS.2.2 dJ7_fill_fda19_27
def fX4_opsFrom_J24 (y0_24 : Int32) : Option Int32 := some y0_24
def fX4_opsFrom (p0w : ST) (p1 : Int32) : Option Int32 := (if ixb p1 60 = true then (if 0 ≤ (p0w 15 (nn p1)) then (if ixb p1 60 = true then (if ixb (p0w 15 (nn p1)) 640 = true then (fX4_opsFrom_J24 (p0w 7 (nn (p0w 15 (nn p1))))) else none) else none) else (fX4_opsFrom_J24 0)) else none)
set_option maxHeartbeats 16000000 in
set_option maxRecDepth 100000 in
theorem kX4_opsFrom {zs : ZS} (l : Launch) (dC : Nat → ClassId) (dI : Nat → Nat → Nat) (p0a : Nat → Nat) (p0k : Nat → ClassId) (p0w : ST) (p0l : SL) (p1 : Int32) (sz : Nat) (o : Int32) (hrun : fX4_opsFrom p0w p1 = some o) : Met l yX4_opsFrom (wz yX4_opsFrom cX4_opsFrom 2 (Option.some Jvm.ClassFile.FieldType.int)) ({ frames := 0, cells := 0, slots := 0, locals := 0 } : Room) (va_Pc [.ref (p0a 0), .int p1] (PRE zs dC dI (List.flatten ([(oX4 (p0a 0) p0a p0k p0w p0l)] : List va_W)) (List.flatten ([(tX4 p0k)] : List (List (ClassId × FieldType)))) sz)) (va_Qi (fun (r : Int32) (_ : Unit) => r = o) (fun _ t => POST dC dI (List.flatten ([(oX4 (p0a 0) p0a p0k p0w p0l)] : List va_W)) (List.flatten ([(tX4 p0k)] : List (List (ClassId × FieldType)))) (va_A (List.flatten ([(oX4 (p0a 0) p0a p0k p0w p0l)] : List va_W)) sz) t) (va_A (List.flatten ([(oX4 (p0a 0) p0a p0k p0w p0l)] : List va_W)) sz)) 0 0 (va_A (List.flatten ([(oX4 (p0a 0) p0a p0k p0w p0l)] : List va_W)) sz) := by
  refine Met.ofW (cc := cX4_opsFrom) (maxL := 2) (ret := (Option.some Jvm.ClassFile.FieldType.int)) (by decide) rfl ?_
  intro p e s m args below meth c s₁ B hml hv
  obtain ⟨rfl, hsz, hP, hK, hD0, hE⟩ := hv
  have hx := B.exec
  have hb := B.bytes
  have hr := B.returns
  have hts0 := atoms_spec (ws := wz yX4_opsFrom cX4_opsFrom 2 (Option.some Jvm.ClassFile.FieldType.int)) B.pre
  have hts : ∀ w ∈ gw, w.before _ s = true := fun w h => hts0 w (List.mem_cons_of_mem _ h)
  have hown : s.vm.findClass RX4 = some m.cls := findClass_of_methodNamed B.named
  have hlocks := B.notSynchronized
  subst hsz
  have hD := hD0.self (sz := s.heap.size)
  refine gQ9 ?_
  intro Q hQ
  generalize hAe : va_A (List.flatten ([(oX4 (p0a 0) p0a p0k p0w p0l)] : List va_W)) s.heap.size = A at hD hE hQ
  have hA : ∀ q : Nat, s.heap.size ≤ q → A q := fun q h => by rw [← hAe]; exact Or.inr h
  have hS : va_S A s.heap s.heap [] := va_S.rf
  have hP : va_P (dC, dI) cls (List.flatten ([(oX4 (p0a 0) p0a p0k p0w p0l)] : List va_W)) s.heap := hP
  have hl := lv_entry ([.ref (p0a 0), .int p1]) (n := 2) (Nat.le_of_ble_eq_true rfl)
  rw [lg_entry_eq]
  generalize (lg_sl ([.ref (p0a 0), .int p1]) ++ List.replicate (2 - (lg_sl ([.ref (p0a 0), .int p1])).length) Slot.unset).toArray = ls at hl ⊢
  have hl : lv_has ls 2 [(0, .ref (p0a 0)), (1, .int p1)] := hl
  obtain ⟨H, hHe⟩ : ∃ H, H = s.heap := ⟨_, rfl⟩
  obtain ⟨locs, hle⟩ : ∃ locs : List Loc, locs = [] := ⟨_, rfl⟩
  rw [← hHe] at hP
  have hS : va_S A s.heap H locs := by rw [hHe, hle]; exact hS
  show W p l e ({ frames := 0, cells := 0, slots := 0, locals := 0 } : Room) s m ([.ref (p0a 0), .int p1] : List Value).toArray below meth c s.heap [] 0 0 Q (F0 m 0 ls [])
  rw [← hle]
  refine wH9 hHe ?_
  unfold fX4_opsFrom at hrun
  refine lv_aload_n hx hb dX4_opsFrom_0 rfl (lv_at hl 0 rfl) ?_
  refine va_get (D := (dC, dI)) (ci := 6) (v := .ref (p0a 15)) (C := RX4) (T := TX4) (N := 20) hx hb hts i_X4 hown hK hP 0 rfl rfl 14 (by decide) (hts _ qw286) (fun _ h9 => h9) rfl dX4_opsFrom_1 ?_
  refine lv_iload_n hx hb dX4_opsFrom_4 rfl (lv_at hl 1 rfl) ?_
  obtain ⟨hq1, hrun⟩ := chk9 hrun
  refine va_iald hx hb hK hP 13 12 rfl rfl (ixb_in hq1) dX4_opsFrom_5 ?_
  have J24 : ∀ (y0_24 : Int32) (H : Heap) (locs : List Loc) (ls : Array Slot), (fX4_opsFrom_J24 y0_24) = some o → va_P (dC, dI) cls (List.flatten ([(oX4 (p0a 0) p0a p0k p0w p0l)] : List va_W)) H → va_D A (List.flatten ([(oX4 (p0a 0) p0a p0k p0w p0l)] : List va_W)) → va_K (dC, dI) cls (List.flatten ([(tX4 p0k)] : List (List (ClassId × FieldType)))) s → va_S A s.heap H locs → lv_has ls 2 [] → W p l e ({ frames := 0, cells := 0, slots := 0, locals := 0 } : Room) s m ([.ref (p0a 0), .int p1] : List Value).toArray below meth c H locs 0 0 Q (F0 m 24 ls [.int y0_24]) := by
    intro y0_24 H locs ls hrun hP hD hK hS hl 
    unfold fX4_opsFrom_J24 at hrun
    have ho9 : y0_24 = o := Option.some.inj hrun
    have hP9 : va_P (dC, dI) cls (List.flatten ([(oX4 (p0a 0) p0a p0k p0w p0l)] : List va_W)) H := by first | exact hP | (rw [← ho9]; exact hP)
    have hD9 : va_D A (List.flatten ([(oX4 (p0a 0) p0a p0k p0w p0l)] : List va_W)) := by first | exact hD | (rw [← ho9]; exact hD)
    subst hQ
    exact W.iret (v := y0_24) hx hb hr (fun t ht hW => ⟨⟨y0_24, (), rfl, (by rw [← ho9]), ⟨by rw [ht]; exact hP9, va_K.moved hW.alike hK, hD9⟩⟩, hS.F ht⟩) hS.2.2 dX4_opsFrom_24
  rcases br9 hrun with ⟨hc2, hrun⟩ | ⟨hc2, hrun⟩
  · refine lv_if_ge (tgt := 13) hx hb dX4_opsFrom_6 (by decide) (fun _ => ?_) (fun c => absurd hc2 c)
    refine lv_aload_n hx hb dX4_opsFrom_13 rfl (lv_at hl 0 rfl) ?_
    refine va_get (D := (dC, dI)) (ci := 6) (v := .ref (p0a 7)) (C := RX4) (T := TX4) (N := 20) hx hb hts i_X4 hown hK hP 0 rfl rfl 6 (by decide) (hts _ qw256) (fun _ h9 => h9) rfl dX4_opsFrom_14 ?_
    refine lv_aload_n hx hb dX4_opsFrom_17 rfl (lv_at hl 0 rfl) ?_
    refine va_get (D := (dC, dI)) (ci := 6) (v := .ref (p0a 15)) (C := RX4) (T := TX4) (N := 20) hx hb hts i_X4 hown hK hP 0 rfl rfl 14 (by decide) (hts _ qw286) (fun _ h9 => h9) rfl dX4_opsFrom_18 ?_
    refine lv_iload_n hx hb dX4_opsFrom_21 rfl (lv_at hl 1 rfl) ?_
    obtain ⟨hq3, hrun⟩ := chk9 hrun
    refine va_iald hx hb hK hP 13 12 rfl rfl (ixb_in hq3) dX4_opsFrom_22 ?_
    obtain ⟨hq4, hrun⟩ := chk9 hrun
    refine va_iald hx hb hK hP 5 4 rfl rfl (ixb_in hq4) dX4_opsFrom_23 ?_
    exact J24 (p0w 7 (nn (p0w 15 (nn p1)))) _ _ _ hrun hP hD hK hS (lv_sub hl [] rfl)
  · refine lv_if_ge (tgt := 13) hx hb dX4_opsFrom_6 (by decide) (fun c => absurd c hc2) (fun _ => ?_)
    refine lv_iconst (v := 0) hx hb dX4_opsFrom_9 (by decide) ?_
    refine lv_goto (tgt := 24) hx hb dX4_opsFrom_10 (by decide) ?_
    exact J24 0 _ _ _ hrun hP hD hK hS (lv_sub hl [] rfl)
def fX4_opsTo_J24 (y0_24 : Int32) : Option Int32 := some y0_24
def fX4_opsTo (p0w : ST) (p1 : Int32) : Option Int32 := (if ixb p1 60 = true then (if 0 ≤ (p0w 15 (nn p1)) then (if ixb p1 60 = true then (if ixb (p0w 15 (nn p1)) 640 = true then (fX4_opsTo_J24 (p0w 8 (nn (p0w 15 (nn p1))))) else none) else none) else (fX4_opsTo_J24 0)) else none)
set_option maxHeartbeats 16000000 in
set_option maxRecDepth 100000 in
theorem kX4_opsTo {zs : ZS} (l : Launch) (dC : Nat → ClassId) (dI : Nat → Nat → Nat) (p0a : Nat → Nat) (p0k : Nat → ClassId) (p0w : ST) (p0l : SL) (p1 : Int32) (sz : Nat) (o : Int32) (hrun : fX4_opsTo p0w p1 = some o) : Met l yX4_opsTo (wz yX4_opsTo cX4_opsTo 2 (Option.some Jvm.ClassFile.FieldType.int)) ({ frames := 0, cells := 0, slots := 0, locals := 0 } : Room) (va_Pc [.ref (p0a 0), .int p1] (PRE zs dC dI (List.flatten ([(oX4 (p0a 0) p0a p0k p0w p0l)] : List va_W)) (List.flatten ([(tX4 p0k)] : List (List (ClassId × FieldType)))) sz)) (va_Qi (fun (r : Int32) (_ : Unit) => r = o) (fun _ t => POST dC dI (List.flatten ([(oX4 (p0a 0) p0a p0k p0w p0l)] : List va_W)) (List.flatten ([(tX4 p0k)] : List (List (ClassId × FieldType)))) (va_A (List.flatten ([(oX4 (p0a 0) p0a p0k p0w p0l)] : List va_W)) sz) t) (va_A (List.flatten ([(oX4 (p0a 0) p0a p0k p0w p0l)] : List va_W)) sz)) 0 0 (va_A (List.flatten ([(oX4 (p0a 0) p0a p0k p0w p0l)] : List va_W)) sz) := by
  refine Met.ofW (cc := cX4_opsTo) (maxL := 2) (ret := (Option.some Jvm.ClassFile.FieldType.int)) (by decide) rfl ?_
  intro p e s m args below meth c s₁ B hml hv
  obtain ⟨rfl, hsz, hP, hK, hD0, hE⟩ := hv
  have hx := B.exec
  have hb := B.bytes
  have hr := B.returns
  have hts0 := atoms_spec (ws := wz yX4_opsTo cX4_opsTo 2 (Option.some Jvm.ClassFile.FieldType.int)) B.pre
  have hts : ∀ w ∈ gw, w.before _ s = true := fun w h => hts0 w (List.mem_cons_of_mem _ h)
  have hown : s.vm.findClass RX4 = some m.cls := findClass_of_methodNamed B.named
  have hlocks := B.notSynchronized
  subst hsz
  have hD := hD0.self (sz := s.heap.size)
  refine gQ9 ?_
  intro Q hQ
  generalize hAe : va_A (List.flatten ([(oX4 (p0a 0) p0a p0k p0w p0l)] : List va_W)) s.heap.size = A at hD hE hQ
  have hA : ∀ q : Nat, s.heap.size ≤ q → A q := fun q h => by rw [← hAe]; exact Or.inr h
  have hS : va_S A s.heap s.heap [] := va_S.rf
  have hP : va_P (dC, dI) cls (List.flatten ([(oX4 (p0a 0) p0a p0k p0w p0l)] : List va_W)) s.heap := hP
  have hl := lv_entry ([.ref (p0a 0), .int p1]) (n := 2) (Nat.le_of_ble_eq_true rfl)
  rw [lg_entry_eq]
  generalize (lg_sl ([.ref (p0a 0), .int p1]) ++ List.replicate (2 - (lg_sl ([.ref (p0a 0), .int p1])).length) Slot.unset).toArray = ls at hl ⊢
  have hl : lv_has ls 2 [(0, .ref (p0a 0)), (1, .int p1)] := hl
  obtain ⟨H, hHe⟩ : ∃ H, H = s.heap := ⟨_, rfl⟩
  obtain ⟨locs, hle⟩ : ∃ locs : List Loc, locs = [] := ⟨_, rfl⟩
  rw [← hHe] at hP
  have hS : va_S A s.heap H locs := by rw [hHe, hle]; exact hS
  show W p l e ({ frames := 0, cells := 0, slots := 0, locals := 0 } : Room) s m ([.ref (p0a 0), .int p1] : List Value).toArray below meth c s.heap [] 0 0 Q (F0 m 0 ls [])
  rw [← hle]
  refine wH9 hHe ?_
  unfold fX4_opsTo at hrun
  refine lv_aload_n hx hb dX4_opsTo_0 rfl (lv_at hl 0 rfl) ?_
  refine va_get (D := (dC, dI)) (ci := 6) (v := .ref (p0a 15)) (C := RX4) (T := TX4) (N := 20) hx hb hts i_X4 hown hK hP 0 rfl rfl 14 (by decide) (hts _ qw286) (fun _ h9 => h9) rfl dX4_opsTo_1 ?_
  refine lv_iload_n hx hb dX4_opsTo_4 rfl (lv_at hl 1 rfl) ?_
  obtain ⟨hq1, hrun⟩ := chk9 hrun
  refine va_iald hx hb hK hP 13 12 rfl rfl (ixb_in hq1) dX4_opsTo_5 ?_
  have J24 : ∀ (y0_24 : Int32) (H : Heap) (locs : List Loc) (ls : Array Slot), (fX4_opsTo_J24 y0_24) = some o → va_P (dC, dI) cls (List.flatten ([(oX4 (p0a 0) p0a p0k p0w p0l)] : List va_W)) H → va_D A (List.flatten ([(oX4 (p0a 0) p0a p0k p0w p0l)] : List va_W)) → va_K (dC, dI) cls (List.flatten ([(tX4 p0k)] : List (List (ClassId × FieldType)))) s → va_S A s.heap H locs → lv_has ls 2 [] → W p l e ({ frames := 0, cells := 0, slots := 0, locals := 0 } : Room) s m ([.ref (p0a 0), .int p1] : List Value).toArray below meth c H locs 0 0 Q (F0 m 24 ls [.int y0_24]) := by
    intro y0_24 H locs ls hrun hP hD hK hS hl 
    unfold fX4_opsTo_J24 at hrun
    have ho9 : y0_24 = o := Option.some.inj hrun
    have hP9 : va_P (dC, dI) cls (List.flatten ([(oX4 (p0a 0) p0a p0k p0w p0l)] : List va_W)) H := by first | exact hP | (rw [← ho9]; exact hP)
    have hD9 : va_D A (List.flatten ([(oX4 (p0a 0) p0a p0k p0w p0l)] : List va_W)) := by first | exact hD | (rw [← ho9]; exact hD)
    subst hQ
    exact W.iret (v := y0_24) hx hb hr (fun t ht hW => ⟨⟨y0_24, (), rfl, (by rw [← ho9]), ⟨by rw [ht]; exact hP9, va_K.moved hW.alike hK, hD9⟩⟩, hS.F ht⟩) hS.2.2 dX4_opsTo_24
  rcases br9 hrun with ⟨hc2, hrun⟩ | ⟨hc2, hrun⟩
  · refine lv_if_ge (tgt := 13) hx hb dX4_opsTo_6 (by decide) (fun _ => ?_) (fun c => absurd hc2 c)
    refine lv_aload_n hx hb dX4_opsTo_13 rfl (lv_at hl 0 rfl) ?_
    refine va_get (D := (dC, dI)) (ci := 6) (v := .ref (p0a 8)) (C := RX4) (T := TX4) (N := 20) hx hb hts i_X4 hown hK hP 0 rfl rfl 7 (by decide) (hts _ qw257) (fun _ h9 => h9) rfl dX4_opsTo_14 ?_
    refine lv_aload_n hx hb dX4_opsTo_17 rfl (lv_at hl 0 rfl) ?_
    refine va_get (D := (dC, dI)) (ci := 6) (v := .ref (p0a 15)) (C := RX4) (T := TX4) (N := 20) hx hb hts i_X4 hown hK hP 0 rfl rfl 14 (by decide) (hts _ qw286) (fun _ h9 => h9) rfl dX4_opsTo_18 ?_
    refine lv_iload_n hx hb dX4_opsTo_21 rfl (lv_at hl 1 rfl) ?_
    obtain ⟨hq3, hrun⟩ := chk9 hrun
    refine va_iald hx hb hK hP 13 12 rfl rfl (ixb_in hq3) dX4_opsTo_22 ?_
    obtain ⟨hq4, hrun⟩ := chk9 hrun
    refine va_iald hx hb hK hP 6 5 rfl rfl (ixb_in hq4) dX4_opsTo_23 ?_
    exact J24 (p0w 8 (nn (p0w 15 (nn p1)))) _ _ _ hrun hP hD hK hS (lv_sub hl [] rfl)
  · refine lv_if_ge (tgt := 13) hx hb dX4_opsTo_6 (by decide) (fun c => absurd c hc2) (fun _ => ?_)
    refine lv_iconst (v := 0) hx hb dX4_opsTo_9 (by decide) ?_
    refine lv_goto (tgt := 24) hx hb dX4_opsTo_10 (by decide) ?_
    exact J24 0 _ _ _ hrun hP hD hK hS (lv_sub hl [] rfl)
def fX4_valueAt_J14 (y0_14 : Int32) : Option Int32 := some y0_14
def fX4_valueAt (p0w : ST) (p1 : Int32) : Option Int32 := (if 0 ≤ p1 then (if ixb p1 3200 = true then (fX4_valueAt_J14 (p0w 4 (nn p1))) else none) else (fX4_valueAt_J14 (-1)))
set_option maxHeartbeats 16000000 in
set_option maxRecDepth 100000 in
theorem kX4_valueAt {zs : ZS} (l : Launch) (dC : Nat → ClassId) (dI : Nat → Nat → Nat) (p0a : Nat → Nat) (p0k : Nat → ClassId) (p0w : ST) (p0l : SL) (p1 : Int32) (sz : Nat) (o : Int32) (hrun : fX4_valueAt p0w p1 = some o) : Met l yX4_valueAt (wz yX4_valueAt cX4_valueAt 2 (Option.some Jvm.ClassFile.FieldType.int)) ({ frames := 0, cells := 0, slots := 0, locals := 0 } : Room) (va_Pc [.ref (p0a 0), .int p1] (PRE zs dC dI (List.flatten ([(oX4 (p0a 0) p0a p0k p0w p0l)] : List va_W)) (List.flatten ([(tX4 p0k)] : List (List (ClassId × FieldType)))) sz)) (va_Qi (fun (r : Int32) (_ : Unit) => r = o) (fun _ t => POST dC dI (List.flatten ([(oX4 (p0a 0) p0a p0k p0w p0l)] : List va_W)) (List.flatten ([(tX4 p0k)] : List (List (ClassId × FieldType)))) (va_A (List.flatten ([(oX4 (p0a 0) p0a p0k p0w p0l)] : List va_W)) sz) t) (va_A (List.flatten ([(oX4 (p0a 0) p0a p0k p0w p0l)] : List va_W)) sz)) 0 0 (va_A (List.flatten ([(oX4 (p0a 0) p0a p0k p0w p0l)] : List va_W)) sz) := by
  refine Met.ofW (cc := cX4_valueAt) (maxL := 2) (ret := (Option.some Jvm.ClassFile.FieldType.int)) (by decide) rfl ?_
  intro p e s m args below meth c s₁ B hml hv
  obtain ⟨rfl, hsz, hP, hK, hD0, hE⟩ := hv
  have hx := B.exec
  have hb := B.bytes
  have hr := B.returns
  have hts0 := atoms_spec (ws := wz yX4_valueAt cX4_valueAt 2 (Option.some Jvm.ClassFile.FieldType.int)) B.pre
  have hts : ∀ w ∈ gw, w.before _ s = true := fun w h => hts0 w (List.mem_cons_of_mem _ h)
  have hown : s.vm.findClass RX4 = some m.cls := findClass_of_methodNamed B.named
  have hlocks := B.notSynchronized
  subst hsz
  have hD := hD0.self (sz := s.heap.size)
  refine gQ9 ?_
  intro Q hQ
  generalize hAe : va_A (List.flatten ([(oX4 (p0a 0) p0a p0k p0w p0l)] : List va_W)) s.heap.size = A at hD hE hQ
  have hA : ∀ q : Nat, s.heap.size ≤ q → A q := fun q h => by rw [← hAe]; exact Or.inr h
  have hS : va_S A s.heap s.heap [] := va_S.rf
  have hP : va_P (dC, dI) cls (List.flatten ([(oX4 (p0a 0) p0a p0k p0w p0l)] : List va_W)) s.heap := hP
  have hl := lv_entry ([.ref (p0a 0), .int p1]) (n := 2) (Nat.le_of_ble_eq_true rfl)
  rw [lg_entry_eq]
  generalize (lg_sl ([.ref (p0a 0), .int p1]) ++ List.replicate (2 - (lg_sl ([.ref (p0a 0), .int p1])).length) Slot.unset).toArray = ls at hl ⊢
  have hl : lv_has ls 2 [(0, .ref (p0a 0)), (1, .int p1)] := hl
  obtain ⟨H, hHe⟩ : ∃ H, H = s.heap := ⟨_, rfl⟩
  obtain ⟨locs, hle⟩ : ∃ locs : List Loc, locs = [] := ⟨_, rfl⟩
  rw [← hHe] at hP
  have hS : va_S A s.heap H locs := by rw [hHe, hle]; exact hS
  show W p l e ({ frames := 0, cells := 0, slots := 0, locals := 0 } : Room) s m ([.ref (p0a 0), .int p1] : List Value).toArray below meth c s.heap [] 0 0 Q (F0 m 0 ls [])
  rw [← hle]
  refine wH9 hHe ?_
  unfold fX4_valueAt at hrun
  refine lv_iload_n hx hb dX4_valueAt_0 rfl (lv_at hl 1 rfl) ?_
  have J14 : ∀ (y0_14 : Int32) (H : Heap) (locs : List Loc) (ls : Array Slot), (fX4_valueAt_J14 y0_14) = some o → va_P (dC, dI) cls (List.flatten ([(oX4 (p0a 0) p0a p0k p0w p0l)] : List va_W)) H → va_D A (List.flatten ([(oX4 (p0a 0) p0a p0k p0w p0l)] : List va_W)) → va_K (dC, dI) cls (List.flatten ([(tX4 p0k)] : List (List (ClassId × FieldType)))) s → va_S A s.heap H locs → lv_has ls 2 [] → W p l e ({ frames := 0, cells := 0, slots := 0, locals := 0 } : Room) s m ([.ref (p0a 0), .int p1] : List Value).toArray below meth c H locs 0 0 Q (F0 m 14 ls [.int y0_14]) := by
    intro y0_14 H locs ls hrun hP hD hK hS hl 
    unfold fX4_valueAt_J14 at hrun
    have ho9 : y0_14 = o := Option.some.inj hrun
    have hP9 : va_P (dC, dI) cls (List.flatten ([(oX4 (p0a 0) p0a p0k p0w p0l)] : List va_W)) H := by first | exact hP | (rw [← ho9]; exact hP)
    have hD9 : va_D A (List.flatten ([(oX4 (p0a 0) p0a p0k p0w p0l)] : List va_W)) := by first | exact hD | (rw [← ho9]; exact hD)
    subst hQ
    exact W.iret (v := y0_14) hx hb hr (fun t ht hW => ⟨⟨y0_14, (), rfl, (by rw [← ho9]), ⟨by rw [ht]; exact hP9, va_K.moved hW.alike hK, hD9⟩⟩, hS.F ht⟩) hS.2.2 dX4_valueAt_14
  rcases br9 hrun with ⟨hc1, hrun⟩ | ⟨hc1, hrun⟩
  · refine lv_if_ge (tgt := 8) hx hb dX4_valueAt_1 (by decide) (fun _ => ?_) (fun c => absurd hc1 c)
    refine lv_aload_n hx hb dX4_valueAt_8 rfl (lv_at hl 0 rfl) ?_
    refine va_get (D := (dC, dI)) (ci := 6) (v := .ref (p0a 4)) (C := RX4) (T := TX4) (N := 20) hx hb hts i_X4 hown hK hP 0 rfl rfl 3 (by decide) (hts _ qw295) (fun _ h9 => h9) rfl dX4_valueAt_9 ?_
    refine lv_iload_n hx hb dX4_valueAt_12 rfl (lv_at hl 1 rfl) ?_
    obtain ⟨hq2, hrun⟩ := chk9 hrun
    refine va_iald hx hb hK hP 3 2 rfl rfl (ixb_in hq2) dX4_valueAt_13 ?_
    exact J14 (p0w 4 (nn p1)) _ _ _ hrun hP hD hK hS (lv_sub hl [] rfl)
  · refine lv_if_ge (tgt := 8) hx hb dX4_valueAt_1 (by decide) (fun c => absurd c hc1) (fun _ => ?_)
    refine lv_iconst (v := (-1)) hx hb dX4_valueAt_4 (by decide) ?_
    refine lv_goto (tgt := 14) hx hb dX4_valueAt_5 (by decide) ?_
    exact J14 (-1) _ _ _ hrun hP hD hK hS (lv_sub hl [] rfl)
def fX11_givesValue_J27 (y0_27 : Int32) : Option Int32 := (if y0_27 = 0 ∨ y0_27 = 1 then some y0_27 else none)
def fX11_givesValue_J22  : Option Int32 := (fX11_givesValue_J27 1)
def fX11_givesValue_J10 (p0 : Int32) : Option Int32 := (if p0 = 20 then (fX11_givesValue_J22) else (if p0 = 21 then (fX11_givesValue_J22) else (fX11_givesValue_J27 0)))
def fX11_givesValue (p0 : Int32) : Option Int32 := (if p0 < 0 then (fX11_givesValue_J10 p0) else (if p0 ≤ 17 then (fX11_givesValue_J22) else (fX11_givesValue_J10 p0)))
set_option maxHeartbeats 16000000 in
set_option maxRecDepth 100000 in
theorem kX11_givesValue {zs : ZS} (l : Launch) (dC : Nat → ClassId) (dI : Nat → Nat → Nat) (p0 : Int32) (sz : Nat) (o : Int32) (hrun : fX11_givesValue p0 = some o) : Met l yX11_givesValue (wz yX11_givesValue cX11_givesValue 1 (Option.some Jvm.ClassFile.FieldType.boolean)) ({ frames := 0, cells := 0, slots := 0, locals := 0 } : Room) (va_Pc [.int p0] (PRE zs dC dI (List.flatten ([] : List va_W)) (List.flatten ([] : List (List (ClassId × FieldType)))) sz)) (va_Qi (fun (r : Int32) (_ : Unit) => r = o) (fun _ t => POST dC dI (List.flatten ([] : List va_W)) (List.flatten ([] : List (List (ClassId × FieldType)))) (va_A (List.flatten ([] : List va_W)) sz) t) (va_A (List.flatten ([] : List va_W)) sz)) 0 0 (va_A (List.flatten ([] : List va_W)) sz) := by
  refine Met.ofW (cc := cX11_givesValue) (maxL := 1) (ret := (Option.some Jvm.ClassFile.FieldType.boolean)) (by decide) rfl ?_
  intro p e s m args below meth c s₁ B hml hv
  obtain ⟨rfl, hsz, hP, hK, hD0, hE⟩ := hv
  have hx := B.exec
  have hb := B.bytes
  have hr := B.returns
  have hts0 := atoms_spec (ws := wz yX11_givesValue cX11_givesValue 1 (Option.some Jvm.ClassFile.FieldType.boolean)) B.pre
  have hts : ∀ w ∈ gw, w.before _ s = true := fun w h => hts0 w (List.mem_cons_of_mem _ h)
  have hown : s.vm.findClass RX11 = some m.cls := findClass_of_methodNamed B.named
  have hlocks := B.notSynchronized
  subst hsz
  have hD := hD0.self (sz := s.heap.size)
  refine gQ9 ?_
  intro Q hQ
  generalize hAe : va_A (List.flatten ([] : List va_W)) s.heap.size = A at hD hE hQ
  have hA : ∀ q : Nat, s.heap.size ≤ q → A q := fun q h => by rw [← hAe]; exact Or.inr h
  have hS : va_S A s.heap s.heap [] := va_S.rf
  have hP : va_P (dC, dI) cls (List.flatten ([] : List va_W)) s.heap := hP
  have hl := lv_entry ([.int p0]) (n := 1) (Nat.le_of_ble_eq_true rfl)
  rw [lg_entry_eq]
  generalize (lg_sl ([.int p0]) ++ List.replicate (1 - (lg_sl ([.int p0])).length) Slot.unset).toArray = ls at hl ⊢
  have hl : lv_has ls 1 [(0, .int p0)] := hl
  obtain ⟨H, hHe⟩ : ∃ H, H = s.heap := ⟨_, rfl⟩
  obtain ⟨locs, hle⟩ : ∃ locs : List Loc, locs = [] := ⟨_, rfl⟩
  rw [← hHe] at hP
  have hS : va_S A s.heap H locs := by rw [hHe, hle]; exact hS
  show W p l e ({ frames := 0, cells := 0, slots := 0, locals := 0 } : Room) s m ([.int p0] : List Value).toArray below meth c s.heap [] 0 0 Q (F0 m 0 ls [])
  rw [← hle]
  refine wH9 hHe ?_
  unfold fX11_givesValue at hrun
  refine lv_iload_n hx hb dX11_givesValue_0 rfl (lv_at hl 0 rfl) ?_
  have J27 : ∀ (y0_27 : Int32) (H : Heap) (locs : List Loc) (ls : Array Slot), (fX11_givesValue_J27 y0_27) = some o → va_P (dC, dI) cls (List.flatten ([] : List va_W)) H → va_D A (List.flatten ([] : List va_W)) → va_K (dC, dI) cls (List.flatten ([] : List (List (ClassId × FieldType)))) s → va_S A s.heap H locs → lv_has ls 1 [] → W p l e ({ frames := 0, cells := 0, slots := 0, locals := 0 } : Room) s m ([.int p0] : List Value).toArray below meth c H locs 0 0 Q (F0 m 27 ls [.int y0_27]) := by
    intro y0_27 H locs ls hrun hP hD hK hS hl 
    unfold fX11_givesValue_J27 at hrun
    obtain ⟨hz9, hrun⟩ := chk9 hrun
    have ho9 : y0_27 = o := Option.some.inj hrun
    have hP9 : va_P (dC, dI) cls (List.flatten ([] : List va_W)) H := by first | exact hP | (rw [← ho9]; exact hP)
    have hD9 : va_D A (List.flatten ([] : List va_W)) := by first | exact hD | (rw [← ho9]; exact hD)
    subst hQ
    exact W.zret (v := y0_27) hx hb hr (bz9 hz9) (fun t ht hW => ⟨⟨y0_27, (), rfl, (by rw [← ho9]), ⟨by rw [ht]; exact hP9, va_K.moved hW.alike hK, hD9⟩⟩, hS.F ht⟩) hS.2.2 dX11_givesValue_27
  have J22 : ∀ (H : Heap) (locs : List Loc) (ls : Array Slot), (fX11_givesValue_J22) = some o → va_P (dC, dI) cls (List.flatten ([] : List va_W)) H → va_D A (List.flatten ([] : List va_W)) → va_K (dC, dI) cls (List.flatten ([] : List (List (ClassId × FieldType)))) s → va_S A s.heap H locs → lv_has ls 1 [] → W p l e ({ frames := 0, cells := 0, slots := 0, locals := 0 } : Room) s m ([.int p0] : List Value).toArray below meth c H locs 0 0 Q (F0 m 22 ls []) := by
    intro  H locs ls hrun hP hD hK hS hl 
    unfold fX11_givesValue_J22 at hrun
    refine lv_iconst (v := 1) hx hb dX11_givesValue_22 (by decide) ?_
    refine lv_goto (tgt := 27) hx hb dX11_givesValue_23 (by decide) ?_
    exact J27 1 _ _ _ hrun hP hD hK hS (lv_sub hl [] rfl)
  have J10 : ∀ (H : Heap) (locs : List Loc) (ls : Array Slot), (fX11_givesValue_J10 p0) = some o → va_P (dC, dI) cls (List.flatten ([] : List va_W)) H → va_D A (List.flatten ([] : List va_W)) → va_K (dC, dI) cls (List.flatten ([] : List (List (ClassId × FieldType)))) s → va_S A s.heap H locs → lv_has ls 1 [(0, .int p0)] → W p l e ({ frames := 0, cells := 0, slots := 0, locals := 0 } : Room) s m ([.int p0] : List Value).toArray below meth c H locs 0 0 Q (F0 m 10 ls []) := by
    intro  H locs ls hrun hP hD hK hS hl 
    unfold fX11_givesValue_J10 at hrun
    refine lv_iload_n hx hb dX11_givesValue_10 rfl (lv_at hl 0 rfl) ?_
    refine lv_bipush (v := 20) hx hb dX11_givesValue_11 (by decide) ?_
    rcases br9 hrun with ⟨hc1, hrun⟩ | ⟨hc1, hrun⟩
    · refine lv_icmp_eq (tgt := 22) hx hb dX11_givesValue_13 (by decide) (fun _ => ?_) (fun c => absurd hc1 c)
      exact J22 _ _ _ hrun hP hD hK hS (lv_sub hl [] rfl)
    · refine lv_icmp_eq (tgt := 22) hx hb dX11_givesValue_13 (by decide) (fun c => absurd c hc1) (fun _ => ?_)
      refine lv_iload_n hx hb dX11_givesValue_16 rfl (lv_at hl 0 rfl) ?_
      refine lv_bipush (v := 21) hx hb dX11_givesValue_17 (by decide) ?_
      rcases br9 hrun with ⟨hc2, hrun⟩ | ⟨hc2, hrun⟩
      · refine lv_icmp_ne (tgt := 26) hx hb dX11_givesValue_19 (by decide) (fun c => absurd hc2 c) (fun _ => ?_)
        exact J22 _ _ _ hrun hP hD hK hS (lv_sub hl [] rfl)
      · refine lv_icmp_ne (tgt := 26) hx hb dX11_givesValue_19 (by decide) (fun _ => ?_) (fun c => absurd c hc2)
        refine lv_iconst (v := 0) hx hb dX11_givesValue_26 (by decide) ?_
        exact J27 0 _ _ _ hrun hP hD hK hS (lv_sub hl [] rfl)
  rcases br9 hrun with ⟨hc3, hrun⟩ | ⟨hc3, hrun⟩
  · refine lv_if_lt (tgt := 10) hx hb dX11_givesValue_1 (by decide) (fun _ => ?_) (fun c => absurd hc3 c)
    exact J10 _ _ _ hrun hP hD hK hS (lv_sub hl [0] rfl)
  · refine lv_if_lt (tgt := 10) hx hb dX11_givesValue_1 (by decide) (fun c => absurd c hc3) (fun _ => ?_)
    refine lv_iload_n hx hb dX11_givesValue_4 rfl (lv_at hl 0 rfl) ?_
    refine lv_bipush (v := 17) hx hb dX11_givesValue_5 (by decide) ?_
    rcases br9 hrun with ⟨hc4, hrun⟩ | ⟨hc4, hrun⟩
    · refine lv_icmp_le (tgt := 22) hx hb dX11_givesValue_7 (by decide) (fun _ => ?_) (fun c => absurd hc4 c)
      exact J22 _ _ _ hrun hP hD hK hS (lv_sub hl [] rfl)
    · refine lv_icmp_le (tgt := 22) hx hb dX11_givesValue_7 (by decide) (fun c => absurd c hc4) (fun _ => ?_)
      exact J10 _ _ _ hrun hP hD hK hS (lv_sub hl [0] rfl)
def fX4_fillStep_J146 (p2w_146 : ST) (p2_2w_146 : ST) (p2_2n_146 : Nat → Nat) : Option (ST × ST × (Nat → Nat)) := some (p2w_146, p2_2w_146, p2_2n_146)
theorem mo_fX4_fillStep_J146 {p2w_146 : ST} {p2_2w_146 : ST} {p2_2n_146 : Nat → Nat} {o9q : ST × ST × (Nat → Nat)} (hrun : fX4_fillStep_J146 p2w_146 p2_2w_146 p2_2n_146 = some o9q) : glX9 p2_2n_146 (o9q.2.2) := by
  unfold fX4_fillStep_J146 at hrun
  obtain rfl := (Option.some.inj hrun)
  exact (glX9_rf _)
def fX4_fillStep_J43 (p2w : ST) (p3 : Int32) (p2_2n : Nat → Nat) (p2_2w : ST) (o_3 : Int32) : Option (ST × ST × (Nat → Nat)) := (if ixb p3 60 = true then (lt9 (upw p2w 9 (nn p3) o_3) fun (w6 : ST) => (fX4_fillStep_J146 w6 p2_2w p2_2n)) else none)
theorem mo_fX4_fillStep_J43 {p2w : ST} {p3 : Int32} {p2_2n : Nat → Nat} {p2_2w : ST} {o_3 : Int32} {o9q : ST × ST × (Nat → Nat)} (hrun : fX4_fillStep_J43 p2w p3 p2_2n p2_2w o_3 = some o9q) : glX9 p2_2n (o9q.2.2) := by
  unfold fX4_fillStep_J43 at hrun
  obtain ⟨hq5, hrun⟩ := chk9 hrun
  obtain ⟨w6, ew6, hrun⟩ := let9 hrun
  exact (mo_fX4_fillStep_J146 hrun)
def fX4_fillStep_G145_28 (o_16 : Int32 × ST × ST × (Nat → Nat)) : Option (ST × ST × (Nat → Nat)) := (fX4_fillStep_J146 (o_16.2.1) (o_16.2.2.1) (o_16.2.2.2))
theorem mo_fX4_fillStep_G145_28 {o_16 : Int32 × ST × ST × (Nat → Nat)} {o9q : ST × ST × (Nat → Nat)} (hrun : fX4_fillStep_G145_28 o_16 = some o9q) : glX9 (o_16.2.2.2) (o9q.2.2) := by
  unfold fX4_fillStep_G145_28 at hrun
  exact (mo_fX4_fillStep_J146 hrun)
def fX4_fillStep_J131 (p0w : ST) (p1w : ST) (p2w : ST) (p3 : Int32) (p4 : Int32) (p2_2n : Nat → Nat) (p2_2w : ST) (y0_131 : Int32) (y1_131 : Int32) : Option (ST × ST × (Nat → Nat)) := (if ixb p4 3200 = true then ((fX4_valueAt p0w (p0w 3 (nn p4))).bind fun (o_14 : Int32) => ((fX1_addStep p2w p3 (p1w 9 (nn p4)) y1_131 y0_131 o_14 p2_2n p2_2w).bind fun (o_16 : Int32 × ST × ST × (Nat → Nat)) => (fX4_fillStep_G145_28 o_16))) else none)
theorem mo_fX4_fillStep_J131 {p0w : ST} {p1w : ST} {p2w : ST} {p3 : Int32} {p4 : Int32} {p2_2n : Nat → Nat} {p2_2w : ST} {y0_131 : Int32} {y1_131 : Int32} {o9q : ST × ST × (Nat → Nat)} (hrun : fX4_fillStep_J131 p0w p1w p2w p3 p4 p2_2n p2_2w y0_131 y1_131 = some o9q) : glX9 p2_2n (o9q.2.2) := by
  unfold fX4_fillStep_J131 at hrun
  obtain ⟨hq13, hrun⟩ := chk9 hrun
  obtain ⟨o_14, hc_14, hrun⟩ := bnd9 hrun
  obtain ⟨o_16, hc_16, hrun⟩ := bnd9 hrun
  exact (glX9_tr (mo_fX1_addStep hc_16) (mo_fX4_fillStep_G145_28 hrun))
def fX4_fillStep_J106 (p0w : ST) (p1w : ST) (p2w : ST) (p3 : Int32) (p4 : Int32) (p2_2n : Nat → Nat) (p2_2w : ST) (o_3 : Int32) (y0_85 : Int32) (y0_106 : Int32) : Option (ST × ST × (Nat → Nat)) := (if y0_85 = 0 then (fX4_fillStep_J131 p0w p1w p2w p3 p4 p2_2n p2_2w o_3 y0_106) else (if ixb p4 3200 = true then (fX4_fillStep_J131 p0w p1w p2w p3 p4 p2_2n p2_2w (p1w 10 (nn p4)) y0_106) else none))
theorem mo_fX4_fillStep_J106 {p0w : ST} {p1w : ST} {p2w : ST} {p3 : Int32} {p4 : Int32} {p2_2n : Nat → Nat} {p2_2w : ST} {o_3 : Int32} {y0_85 : Int32} {y0_106 : Int32} {o9q : ST × ST × (Nat → Nat)} (hrun : fX4_fillStep_J106 p0w p1w p2w p3 p4 p2_2n p2_2w o_3 y0_85 y0_106 = some o9q) : glX9 p2_2n (o9q.2.2) := by
  unfold fX4_fillStep_J106 at hrun
  rcases br9 hrun with ⟨hc29, hrun⟩ | ⟨hc29, hrun⟩
  · skip
    exact (mo_fX4_fillStep_J131 hrun)
  · skip
    obtain ⟨hq30, hrun⟩ := chk9 hrun
    exact (mo_fX4_fillStep_J131 hrun)
def fX4_fillStep_J85 (p0w : ST) (p1w : ST) (p2w : ST) (p3 : Int32) (p4 : Int32) (p2_2n : Nat → Nat) (p2_2w : ST) (o_3 : Int32) (y0_85 : Int32) : Option (ST × ST × (Nat → Nat)) := ((fX11_givesValue (p1w 9 (nn p4))).bind fun (o_11 : Int32) => (if o_11 = 0 then (fX4_fillStep_J106 p0w p1w p2w p3 p4 p2_2n p2_2w o_3 y0_85 (-1)) else (if ixb p4 3200 = true then (fX4_fillStep_J106 p0w p1w p2w p3 p4 p2_2n p2_2w o_3 y0_85 (p0w 4 (nn p4))) else none)))
theorem mo_fX4_fillStep_J85 {p0w : ST} {p1w : ST} {p2w : ST} {p3 : Int32} {p4 : Int32} {p2_2n : Nat → Nat} {p2_2w : ST} {o_3 : Int32} {y0_85 : Int32} {o9q : ST × ST × (Nat → Nat)} (hrun : fX4_fillStep_J85 p0w p1w p2w p3 p4 p2_2n p2_2w o_3 y0_85 = some o9q) : glX9 p2_2n (o9q.2.2) := by
  unfold fX4_fillStep_J85 at hrun
  obtain ⟨o_11, hc_11, hrun⟩ := bnd9 hrun
  rcases br9 hrun with ⟨hc31, hrun⟩ | ⟨hc31, hrun⟩
  · skip
    exact (mo_fX4_fillStep_J106 hrun)
  · skip
    obtain ⟨hq32, hrun⟩ := chk9 hrun
    exact (mo_fX4_fillStep_J106 hrun)
def fX4_fillStep_J80 (p0w : ST) (p1w : ST) (p2w : ST) (p3 : Int32) (p4 : Int32) (p2_2n : Nat → Nat) (p2_2w : ST) (o_3 : Int32) : Option (ST × ST × (Nat → Nat)) := (fX4_fillStep_J85 p0w p1w p2w p3 p4 p2_2n p2_2w o_3 1)
theorem mo_fX4_fillStep_J80 {p0w : ST} {p1w : ST} {p2w : ST} {p3 : Int32} {p4 : Int32} {p2_2n : Nat → Nat} {p2_2w : ST} {o_3 : Int32} {o9q : ST × ST × (Nat → Nat)} (hrun : fX4_fillStep_J80 p0w p1w p2w p3 p4 p2_2n p2_2w o_3 = some o9q) : glX9 p2_2n (o9q.2.2) := by
  unfold fX4_fillStep_J80 at hrun
  exact (mo_fX4_fillStep_J85 hrun)
def fX4_fillStep (p0w : ST) (p1w : ST) (p2w : ST) (p3 : Int32) (p4 : Int32) (p2_2n : Nat → Nat) (p2_2w : ST) : Option (ST × ST × (Nat → Nat)) := (if ixb p4 3200 = true then (if ixb p4 3200 = true then ((fX4_valueAt p0w (p0w 2 (nn p4))).bind fun (o_3 : Int32) => (if (p1w 9 (nn p4)) = 24 then (fX4_fillStep_J43 p2w p3 p2_2n p2_2w o_3) else (if (p1w 9 (nn p4)) = 33 then (fX4_fillStep_J43 p2w p3 p2_2n p2_2w o_3) else (if (p1w 9 (nn p4)) = 34 then (fX4_fillStep_J43 p2w p3 p2_2n p2_2w o_3) else (if 21 < (p1w 9 (nn p4)) then (fX4_fillStep_J146 p2w p2_2w p2_2n) else (if (p1w 9 (nn p4)) = 0 then (fX4_fillStep_J80 p0w p1w p2w p3 p4 p2_2n p2_2w o_3) else (if (p1w 9 (nn p4)) = 20 then (fX4_fillStep_J80 p0w p1w p2w p3 p4 p2_2n p2_2w o_3) else (if (p1w 9 (nn p4)) = 21 then (fX4_fillStep_J80 p0w p1w p2w p3 p4 p2_2n p2_2w o_3) else (fX4_fillStep_J85 p0w p1w p2w p3 p4 p2_2n p2_2w o_3 0))))))))) else none) else none)
theorem mo_fX4_fillStep {p0w : ST} {p1w : ST} {p2w : ST} {p3 : Int32} {p4 : Int32} {p2_2n : Nat → Nat} {p2_2w : ST} {o9q : ST × ST × (Nat → Nat)} (hrun : fX4_fillStep p0w p1w p2w p3 p4 p2_2n p2_2w = some o9q) : glX9 p2_2n (o9q.2.2) := by
  unfold fX4_fillStep at hrun
  obtain ⟨hq1, hrun⟩ := chk9 hrun
  obtain ⟨hq2, hrun⟩ := chk9 hrun
  obtain ⟨o_3, hc_3, hrun⟩ := bnd9 hrun
  rcases br9 hrun with ⟨hc7, hrun⟩ | ⟨hc7, hrun⟩
  · skip
    exact (mo_fX4_fillStep_J43 hrun)
  · skip
    rcases br9 hrun with ⟨hc8, hrun⟩ | ⟨hc8, hrun⟩
    · skip
      exact (mo_fX4_fillStep_J43 hrun)
    · skip
      rcases br9 hrun with ⟨hc9, hrun⟩ | ⟨hc9, hrun⟩
      · skip
        exact (mo_fX4_fillStep_J43 hrun)
      · skip
        rcases br9 hrun with ⟨hc10, hrun⟩ | ⟨hc10, hrun⟩
        · skip
          exact (mo_fX4_fillStep_J146 hrun)
        · skip
          rcases br9 hrun with ⟨hc33, hrun⟩ | ⟨hc33, hrun⟩
          · skip
            exact (mo_fX4_fillStep_J80 hrun)
          · skip
            rcases br9 hrun with ⟨hc34, hrun⟩ | ⟨hc34, hrun⟩
            · skip
              exact (mo_fX4_fillStep_J80 hrun)
            · skip
              rcases br9 hrun with ⟨hc35, hrun⟩ | ⟨hc35, hrun⟩
              · skip
                exact (mo_fX4_fillStep_J80 hrun)
              · skip
                exact (mo_fX4_fillStep_J85 hrun)
set_option maxHeartbeats 16000000 in
set_option maxRecDepth 100000 in
theorem kX4_fillStep {zs : ZS} (l : Launch) (dC : Nat → ClassId) (dI : Nat → Nat → Nat) (p0a : Nat → Nat) (p0k : Nat → ClassId) (p0w : ST) (p0l : SL) (p1a : Nat → Nat) (p1k : Nat → ClassId) (p1w : ST) (p1l : SL) (p2a : Nat → Nat) (p2k : Nat → ClassId) (p2n : Nat → Nat) (p2w : ST) (p2l : SL) (p3 : Int32) (p4 : Int32) (p2_2a : Nat → Nat) (p2_2k : Nat → ClassId) (p2_2n : Nat → Nat) (p2_2w : ST) (sz : Nat) (o : ST × ST × (Nat → Nat)) (hrun : fX4_fillStep p0w p1w p2w p3 p4 p2_2n p2_2w = some o) : Met l yX4_fillStep (wz yX4_fillStep cX4_fillStep 9 (Option.none : Option Jvm.ClassFile.FieldType)) ({ frames := 4, cells := (hcX9 p2_2n (o.2.2)), slots := (3 * (gcX9 p2_2n (o.2.2))), locals := 113 } : Room) (va_Pc [.ref (p0a 0), .ref (p1a 0), .ref (p2a 0), .int p3, .int p4] (PRE zs dC dI (List.flatten ([(oX4 (p0a 0) p0a p0k p0w p0l), (oX6 (p1a 0) p1a p1k p1w p1l), (oX1 (p2a 0) p2a p2k p2n p2w p2l), (oX9 (p2a 3) p2_2a p2_2k p2_2n p2_2w)] : List va_W)) (List.flatten ([(tX4 p0k), (tX6 p1k), (tX1 p2k), (tX9 p2_2k)] : List (List (ClassId × FieldType)))) sz)) (va_Qv (fun (_ : Unit) => True) (fun _ t => ∃ (xp2_2_1_z : Nat), ∃ (zp2_2_1_z : ClassId), ∃ (xp2_2_2_z : Nat), ∃ (zp2_2_2_z : ClassId), ∃ (xp2_2_3_z : Nat), ∃ (zp2_2_3_z : ClassId), ∃ (xp2_2_4_z : Nat), ∃ (zp2_2_4_z : ClassId), ∃ (xp2_2_5_z : Nat), ∃ (zp2_2_5_z : ClassId), POST dC dI (List.flatten ([(oX4 (p0a 0) p0a p0k p0w p0l), (oX6 (p1a 0) p1a p1k p1w p1l), (oX1 (p2a 0) p2a p2k p2n (o.1) p2l), (oX9 (p2a 3) (st1 (st1 (st1 (st1 (st1 p2_2a 2 xp2_2_1_z) 3 xp2_2_2_z) 4 xp2_2_3_z) 5 xp2_2_4_z) 6 xp2_2_5_z) (st1 (st1 (st1 (st1 (st1 p2_2k 2 zp2_2_1_z) 3 zp2_2_2_z) 4 zp2_2_3_z) 5 zp2_2_4_z) 6 zp2_2_5_z) (o.2.2) (o.2.1))] : List va_W)) (List.flatten ([(tX4 p0k), (tX6 p1k), (tX1 p2k), (tX9 (st1 (st1 (st1 (st1 (st1 p2_2k 2 zp2_2_1_z) 3 zp2_2_2_z) 4 zp2_2_3_z) 5 zp2_2_4_z) 6 zp2_2_5_z))] : List (List (ClassId × FieldType)))) (va_A (List.flatten ([(oX4 (p0a 0) p0a p0k p0w p0l), (oX6 (p1a 0) p1a p1k p1w p1l), (oX1 (p2a 0) p2a p2k p2n p2w p2l), (oX9 (p2a 3) p2_2a p2_2k p2_2n p2_2w)] : List va_W)) sz) t) (va_A (List.flatten ([(oX4 (p0a 0) p0a p0k p0w p0l), (oX6 (p1a 0) p1a p1k p1w p1l), (oX1 (p2a 0) p2a p2k p2n p2w p2l), (oX9 (p2a 3) p2_2a p2_2k p2_2n p2_2w)] : List va_W)) sz)) (hcX9 p2_2n (o.2.2)) (3 * (gcX9 p2_2n (o.2.2))) (va_A (List.flatten ([(oX4 (p0a 0) p0a p0k p0w p0l), (oX6 (p1a 0) p1a p1k p1w p1l), (oX1 (p2a 0) p2a p2k p2n p2w p2l), (oX9 (p2a 3) p2_2a p2_2k p2_2n p2_2w)] : List va_W)) sz) := by
  refine Met.ofW (cc := cX4_fillStep) (maxL := 9) (ret := (Option.none : Option Jvm.ClassFile.FieldType)) (by decide) rfl ?_
  intro p e s m args below meth c s₁ B hml hv
  obtain ⟨rfl, hsz, hP, hK, hD0, hE⟩ := hv
  have hx := B.exec
  have hb := B.bytes
  have hr := B.returns
  have hts0 := atoms_spec (ws := wz yX4_fillStep cX4_fillStep 9 (Option.none : Option Jvm.ClassFile.FieldType)) B.pre
  have hts : ∀ w ∈ gw, w.before _ s = true := fun w h => hts0 w (List.mem_cons_of_mem _ h)
  have hown : s.vm.findClass RX4 = some m.cls := findClass_of_methodNamed B.named
  have hlocks := B.notSynchronized
  subst hsz
  have hD := hD0.self (sz := s.heap.size)
  refine gQ9 ?_
  intro Q hQ
  generalize hAe : va_A (List.flatten ([(oX4 (p0a 0) p0a p0k p0w p0l), (oX6 (p1a 0) p1a p1k p1w p1l), (oX1 (p2a 0) p2a p2k p2n p2w p2l), (oX9 (p2a 3) p2_2a p2_2k p2_2n p2_2w)] : List va_W)) s.heap.size = A at hD hE hQ
  have hA : ∀ q : Nat, s.heap.size ≤ q → A q := fun q h => by rw [← hAe]; exact Or.inr h
  have hS : va_S A s.heap s.heap [] := va_S.rf
  have hP : va_P (dC, dI) cls (List.flatten ([(oX4 (p0a 0) p0a p0k p0w p0l), (oX6 (p1a 0) p1a p1k p1w p1l), (oX1 (p2a 0) p2a p2k p2n p2w p2l), (oX9 (p2a 3) p2_2a p2_2k p2_2n p2_2w)] : List va_W)) s.heap := hP
  have hl := lv_entry ([.ref (p0a 0), .ref (p1a 0), .ref (p2a 0), .int p3, .int p4]) (n := 9) (Nat.le_of_ble_eq_true rfl)
  rw [lg_entry_eq]
  generalize (lg_sl ([.ref (p0a 0), .ref (p1a 0), .ref (p2a 0), .int p3, .int p4]) ++ List.replicate (9 - (lg_sl ([.ref (p0a 0), .ref (p1a 0), .ref (p2a 0), .int p3, .int p4])).length) Slot.unset).toArray = ls at hl ⊢
  have hl : lv_has ls 9 [(0, .ref (p0a 0)), (1, .ref (p1a 0)), (2, .ref (p2a 0)), (3, .int p3), (4, .int p4)] := hl
  obtain ⟨H, hHe⟩ : ∃ H, H = s.heap := ⟨_, rfl⟩
  obtain ⟨locs, hle⟩ : ∃ locs : List Loc, locs = [] := ⟨_, rfl⟩
  rw [← hHe] at hP
  have hS : va_S A s.heap H locs := by rw [hHe, hle]; exact hS
  show W p l e ({ frames := 4, cells := (hcX9 p2_2n (o.2.2)), slots := (3 * (gcX9 p2_2n (o.2.2))), locals := 113 } : Room) s m ([.ref (p0a 0), .ref (p1a 0), .ref (p2a 0), .int p3, .int p4] : List Value).toArray below meth c s.heap [] 0 0 Q (F0 m 0 ls [])
  rw [← hle]
  refine wH9 hHe ?_
  have hg_p2_2 := glX9_rf p2_2n
  have hgn_p2_2 : glX9 p2_2n (o.2.2) := (mo_fX4_fillStep hrun)
  refine W.widen (k := (hcX9 p2_2n p2_2n)) (n := (3 * (gcX9 p2_2n p2_2n))) (Nat.zero_le _) (Nat.zero_le _) ?_
  unfold fX4_fillStep at hrun
  refine lv_aload_n hx hb dX4_fillStep_0 rfl (lv_at hl 1 rfl) ?_
  refine va_get (D := (dC, dI)) (ci := 2) (v := .ref (p1a 9)) (C := RX6) (T := TX6) (N := 13) hx hb hts i_X6 hown hK hP 19 rfl rfl 8 (by decide) (hts _ qw263) (fun _ h9 => h9) rfl dX4_fillStep_1 ?_
  refine lv_iload hx hb dX4_fillStep_4 (lv_at hl 4 rfl) ?_
  obtain ⟨hq1, hrun⟩ := chk9 hrun
  refine va_iald hx hb hK hP 26 24 rfl rfl (ixb_in hq1) dX4_fillStep_6 ?_
  refine lv_istore (lv' := [(5, .int (p1w 9 (nn p4))), (0, .ref (p0a 0)), (1, .ref (p1a 0)), (2, .ref (p2a 0)), (3, .int p3), (4, .int p4)]) hx hb dX4_fillStep_7 hl (by decide) rfl (fun ls hl => ?_)
  refine lv_aload_n hx hb dX4_fillStep_9 rfl (lv_at hl 1 rfl) ?_
  refine lv_aload_n hx hb dX4_fillStep_10 rfl (lv_at hl 1 rfl) ?_
  refine va_get (D := (dC, dI)) (ci := 6) (v := .ref (p0a 2)) (C := RX4) (T := TX4) (N := 20) hx hb hts i_X4 hown hK hP 0 rfl rfl 1 (by decide) (hts _ qw296) (fun _ h9 => h9) rfl dX4_fillStep_11 ?_
  refine lv_iload hx hb dX4_fillStep_14 (lv_at hl 5 rfl) ?_
  obtain ⟨hq2, hrun⟩ := chk9 hrun
  refine va_iald hx hb hK hP 1 0 rfl rfl (ixb_in hq2) dX4_fillStep_16 ?_
  obtain ⟨o_3, hc_3, hrun⟩ := bnd9 hrun
  have hPx : va_P (dC, dI) cls ((List.flatten ([(oX4 (p0a 0) p0a p0k p0w p0l)] : List va_W)) ++ (List.flatten ([(oX6 (p1a 0) p1a p1k p1w p1l), (oX1 (p2a 0) p2a p2k p2n p2w p2l), (oX9 (p2a 3) p2_2a p2_2k p2_2n p2_2w)] : List va_W))) H := vP_fa (vP_perm hP (bP (List.Perm.refl _)))
  have hDx : va_D A ((List.flatten ([(oX4 (p0a 0) p0a p0k p0w p0l)] : List va_W)) ++ (List.flatten ([(oX6 (p1a 0) p1a p1k p1w p1l), (oX1 (p2a 0) p2a p2k p2n p2w p2l), (oX9 (p2a 3) p2_2a p2_2k p2_2n p2_2w)] : List va_W))) := vD_fa (vD_perm hD (bP (List.Perm.refl _)))
  have hKx : va_K (dC, dI) cls ((List.flatten ([(tX4 p0k)] : List (List (ClassId × FieldType)))) ++ (List.flatten ([(tX6 p1k), (tX1 p2k), (tX9 p2_2k)] : List (List (ClassId × FieldType))))) s := vK_fa (vK_perm hK (bP (List.Perm.refl _)))
  have hPc := vP_l hPx
  have hDc := vD_l hDx
  have hKc := vK_l hKx
  have hFc := vfree hDx hS hA
  refine va_calli (va_runV (As := [.int (p0w 2 (nn p4))]) (rest := []) ⟨hx, hb, hml, hown, hts⟩ (kX4_valueAt l dC dI (p0a := p0a) (p0k := p0k) (p0w := p0w) (p0l := p0l) (p1 := (p0w 2 (nn p4))) (sz := _) (o := o_3) (hrun := hc_3)) (cwV 1 hts (gi_V qw298 qw299 qw300 qw270 (gi_z qw297)) rfl rfl rfl (by decide +kernel) ⟨Nat.le_of_ble_eq_true rfl, Nat.le_of_ble_eq_true rfl⟩) ⟨PRE.blind, va_recv hKc hPc (ci := 6) (q0 := 0) rfl rfl, PRE.of hE hS hFc hPc hKc hDc⟩ rfl rfl hl.1 rfl (lv_room (Nat.le_of_ble_eq_true rfl)) dX4_fillStep_17 ⟨(show (hcX9 p2_2n p2_2n) + 0 ≤ (hcX9 p2_2n (o.2.2)) from by have q0 := gmX9 hg_p2_2 hgn_p2_2; omega), (show (3 * (gcX9 p2_2n p2_2n)) + 0 ≤ (3 * (gcX9 p2_2n (o.2.2))) from by have q0 := gmX9 hg_p2_2 hgn_p2_2; omega)⟩) hS (fun q _ h => hFc q h) hFc (fun r4 u t H locs ht hvm hw hB hz1 hk1 hS => ?_)
  obtain ⟨b1, b2, b3⟩ := hB
  rw [ht] at b1
  obtain ⟨hP, hD, hK⟩ := JOINC (wc := (List.flatten ([(oX4 (p0a 0) p0a p0k p0w p0l)] : List va_W))) (wr := (List.flatten ([(oX6 (p1a 0) p1a p1k p1w p1l), (oX1 (p2a 0) p2a p2k p2n p2w p2l), (oX9 (p2a 3) p2_2a p2_2k p2_2n p2_2w)] : List va_W))) (w1 := (List.flatten ([(oX4 (p0a 0) p0a p0k p0w p0l)] : List va_W))) (t1 := (List.flatten ([(tX4 p0k)] : List (List (ClassId × FieldType))))) hPx hDx hKx hk1 hFc b1 (va_K.moved hvm.symm b2) b3
  have hP : va_P (dC, dI) cls (List.flatten ([(oX4 (p0a 0) p0a p0k p0w p0l), (oX6 (p1a 0) p1a p1k p1w p1l), (oX1 (p2a 0) p2a p2k p2n p2w p2l), (oX9 (p2a 3) p2_2a p2_2k p2_2n p2_2w)] : List va_W)) H := vP_perm (vP_fb hP) (bP (List.Perm.refl _))
  have hD : va_D A (List.flatten ([(oX4 (p0a 0) p0a p0k p0w p0l), (oX6 (p1a 0) p1a p1k p1w p1l), (oX1 (p2a 0) p2a p2k p2n p2w p2l), (oX9 (p2a 3) p2_2a p2_2k p2_2n p2_2w)] : List va_W)) := vD_perm (vD_fb hD) (bP (List.Perm.refl _))
  have hK : va_K (dC, dI) cls (List.flatten ([(tX4 p0k), (tX6 p1k), (tX1 p2k), (tX9 p2_2k)] : List (List (ClassId × FieldType)))) s := vK_perm (vK_fb hK) (bP (List.Perm.refl _))
  obtain rfl : o_3 = r4 := hw.symm
  refine lv_istore (lv' := [(6, .int o_3), (5, .int (p1w 9 (nn p4))), (0, .ref (p0a 0)), (1, .ref (p1a 0)), (2, .ref (p2a 0)), (3, .int p3), (4, .int p4)]) hx hb dX4_fillStep_20 hl (by decide) rfl (fun ls hl => ?_)
  refine lv_iload hx hb dX4_fillStep_22 (lv_at hl 1 rfl) ?_
  refine lv_bipush (v := 24) hx hb dX4_fillStep_24 (by decide) ?_
  have J146 : ∀ (p2w_146 : ST) (p2_2w_146 : ST) (p2_2n_146 : Nat → Nat) (xp2_2_1_146 : Nat) (zp2_2_1_146 : ClassId) (xp2_2_2_146 : Nat) (zp2_2_2_146 : ClassId) (xp2_2_3_146 : Nat) (zp2_2_3_146 : ClassId) (xp2_2_4_146 : Nat) (zp2_2_4_146 : ClassId) (xp2_2_5_146 : Nat) (zp2_2_5_146 : ClassId) (H : Heap) (locs : List Loc) (ls : Array Slot), (fX4_fillStep_J146 p2w_146 p2_2w_146 p2_2n_146) = some o → va_P (dC, dI) cls (List.flatten ([(oX4 (p0a 0) p0a p0k p0w p0l), (oX6 (p1a 0) p1a p1k p1w p1l), (oX1 (p2a 0) p2a p2k p2n p2w_146 p2l), (oX9 (p2a 3) (st1 (st1 (st1 (st1 (st1 p2_2a 2 xp2_2_1_146) 3 xp2_2_2_146) 4 xp2_2_3_146) 5 xp2_2_4_146) 6 xp2_2_5_146) (st1 (st1 (st1 (st1 (st1 p2_2k 2 zp2_2_1_146) 3 zp2_2_2_146) 4 zp2_2_3_146) 5 zp2_2_4_146) 6 zp2_2_5_146) p2_2n_146 p2_2w_146)] : List va_W)) H → va_D A (List.flatten ([(oX4 (p0a 0) p0a p0k p0w p0l), (oX6 (p1a 0) p1a p1k p1w p1l), (oX1 (p2a 0) p2a p2k p2n p2w_146 p2l), (oX9 (p2a 3) (st1 (st1 (st1 (st1 (st1 p2_2a 2 xp2_2_1_146) 3 xp2_2_2_146) 4 xp2_2_3_146) 5 xp2_2_4_146) 6 xp2_2_5_146) (st1 (st1 (st1 (st1 (st1 p2_2k 2 zp2_2_1_146) 3 zp2_2_2_146) 4 zp2_2_3_146) 5 zp2_2_4_146) 6 zp2_2_5_146) p2_2n_146 p2_2w_146)] : List va_W)) → va_K (dC, dI) cls (List.flatten ([(tX4 p0k), (tX6 p1k), (tX1 p2k), (tX9 (st1 (st1 (st1 (st1 (st1 p2_2k 2 zp2_2_1_146) 3 zp2_2_2_146) 4 zp2_2_3_146) 5 zp2_2_4_146) 6 zp2_2_5_146))] : List (List (ClassId × FieldType)))) s → va_S A s.heap H locs → lv_has ls 9 [] → glX9 p2_2n p2_2n_146 → W p l e ({ frames := 4, cells := (hcX9 p2_2n (o.2.2)), slots := (3 * (gcX9 p2_2n (o.2.2))), locals := 113 } : Room) s m ([.ref (p0a 0), .ref (p1a 0), .ref (p2a 0), .int p3, .int p4] : List Value).toArray below meth c H locs (hcX9 p2_2n p2_2n_146) (3 * (gcX9 p2_2n p2_2n_146)) Q (F0 m 146 ls []) := by
    intro p2w_146 p2_2w_146 p2_2n_146 xp2_2_1_146 zp2_2_1_146 xp2_2_2_146 zp2_2_2_146 xp2_2_3_146 zp2_2_3_146 xp2_2_4_146 zp2_2_4_146 xp2_2_5_146 zp2_2_5_146 H locs ls hrun hP hD hK hS hl hg_p2_2 
    have hgn_p2_2 : glX9 p2_2n_146 (o.2.2) := (mo_fX4_fillStep_J146 hrun)
    unfold fX4_fillStep_J146 at hrun
    have ho9 : (p2w_146, p2_2w_146, p2_2n_146) = o := Option.some.inj hrun
    subst ho9
    subst hQ
    exact W.vret hx hb hr (fun t ht hW => ⟨⟨(), rfl, trivial, ⟨xp2_2_1_146, zp2_2_1_146, xp2_2_2_146, zp2_2_2_146, xp2_2_3_146, zp2_2_3_146, xp2_2_4_146, zp2_2_4_146, xp2_2_5_146, zp2_2_5_146, by rw [ht]; exact hP, va_K.moved hW.alike hK, hD⟩⟩, hS.F ht⟩) hS.2.2 dX4_fillStep_146
  have J43 : ∀ (H : Heap) (locs : List Loc) (ls : Array Slot), (fX4_fillStep_J43 p2w p3 p2_2n p2_2w o_3) = some o → va_P (dC, dI) cls (List.flatten ([(oX4 (p0a 0) p0a p0k p0w p0l), (oX6 (p1a 0) p1a p1k p1w p1l), (oX1 (p2a 0) p2a p2k p2n p2w p2l), (oX9 (p2a 3) p2_2a p2_2k p2_2n p2_2w)] : List va_W)) H → va_D A (List.flatten ([(oX4 (p0a 0) p0a p0k p0w p0l), (oX6 (p1a 0) p1a p1k p1w p1l), (oX1 (p2a 0) p2a p2k p2n p2w p2l), (oX9 (p2a 3) p2_2a p2_2k p2_2n p2_2w)] : List va_W)) → va_K (dC, dI) cls (List.flatten ([(tX4 p0k), (tX6 p1k), (tX1 p2k), (tX9 p2_2k)] : List (List (ClassId × FieldType)))) s → va_S A s.heap H locs → lv_has ls 9 [(2, .ref (p2a 0)), (3, .int p3), (6, .int o_3)] → glX9 p2_2n p2_2n → W p l e ({ frames := 4, cells := (hcX9 p2_2n (o.2.2)), slots := (3 * (gcX9 p2_2n (o.2.2))), locals := 113 } : Room) s m ([.ref (p0a 0), .ref (p1a 0), .ref (p2a 0), .int p3, .int p4] : List Value).toArray below meth c H locs (hcX9 p2_2n p2_2n) (3 * (gcX9 p2_2n p2_2n)) Q (F0 m 43 ls []) := by
    intro  H locs ls hrun hP hD hK hS hl hg_p2_2 
    have hgn_p2_2 : glX9 p2_2n (o.2.2) := (mo_fX4_fillStep_J43 hrun)
    unfold fX4_fillStep_J43 at hrun
    refine lv_aload_n hx hb dX4_fillStep_43 rfl (lv_at hl 0 rfl) ?_
    refine va_get (D := (dC, dI)) (ci := 4) (v := .ref (p2a 9)) (C := RX1) (T := TX1) (N := 21) hx hb hts i_X1 hown hK hP 30 rfl rfl 8 (by decide) (hts _ qw301) (fun _ h9 => h9) rfl dX4_fillStep_44 ?_
    refine lv_iload_n hx hb dX4_fillStep_47 rfl (lv_at hl 1 rfl) ?_
    refine lv_iload hx hb dX4_fillStep_48 (lv_at hl 2 rfl) ?_
    obtain ⟨hq5, hrun⟩ := chk9 hrun
    refine va_iast hx hb hK hP hD hS 36 33 rfl rfl (ixb_in hq5) dX4_fillStep_50 (fun H locs hP hD hS => ?_)
    have hP : va_P (dC, dI) cls (List.flatten ([(oX4 (p0a 0) p0a p0k p0w p0l), (oX6 (p1a 0) p1a p1k p1w p1l), (oX1 (p2a 0) p2a p2k p2n (upw p2w 9 (nn p3) o_3) p2l), (oX9 (p2a 3) p2_2a p2_2k p2_2n p2_2w)] : List va_W)) H := hP
    have hD : va_D A (List.flatten ([(oX4 (p0a 0) p0a p0k p0w p0l), (oX6 (p1a 0) p1a p1k p1w p1l), (oX1 (p2a 0) p2a p2k p2n (upw p2w 9 (nn p3) o_3) p2l), (oX9 (p2a 3) p2_2a p2_2k p2_2n p2_2w)] : List va_W)) := hD
    obtain ⟨w6, ew6, hrun⟩ := let9 hrun
    rw [← ew6] at hP hD
    refine lv_goto (tgt := 146) hx hb dX4_fillStep_51 (by decide) ?_
    exact J146 w6 p2_2w p2_2n (p2_2a 2) (p2_2k 2) (p2_2a 3) (p2_2k 3) (p2_2a 4) (p2_2k 4) (p2_2a 5) (p2_2k 5) (p2_2a 6) (p2_2k 6) _ _ _ hrun hP hD hK hS (lv_sub hl [] rfl) hg_p2_2
  rcases br9 hrun with ⟨hc7, hrun⟩ | ⟨hc7, hrun⟩
  · refine lv_icmp_eq (tgt := 43) hx hb dX4_fillStep_26 (by decide) (fun _ => ?_) (fun c => absurd hc7 c)
    exact J43 _ _ _ hrun hP hD hK hS (lv_sub hl [4, 5, 0] rfl) hg_p2_2
  · refine lv_icmp_eq (tgt := 43) hx hb dX4_fillStep_26 (by decide) (fun c => absurd c hc7) (fun _ => ?_)
    refine lv_iload hx hb dX4_fillStep_29 (lv_at hl 1 rfl) ?_
    refine lv_bipush (v := 33) hx hb dX4_fillStep_31 (by decide) ?_
    rcases br9 hrun with ⟨hc8, hrun⟩ | ⟨hc8, hrun⟩
    · refine lv_icmp_eq (tgt := 43) hx hb dX4_fillStep_33 (by decide) (fun _ => ?_) (fun c => absurd hc8 c)
      exact J43 _ _ _ hrun hP hD hK hS (lv_sub hl [4, 5, 0] rfl) hg_p2_2
    · refine lv_icmp_eq (tgt := 43) hx hb dX4_fillStep_33 (by decide) (fun c => absurd c hc8) (fun _ => ?_)
      refine lv_iload hx hb dX4_fillStep_36 (lv_at hl 1 rfl) ?_
      refine lv_bipush (v := 34) hx hb dX4_fillStep_38 (by decide) ?_
      rcases br9 hrun with ⟨hc9, hrun⟩ | ⟨hc9, hrun⟩
      · refine lv_icmp_ne (tgt := 54) hx hb dX4_fillStep_40 (by decide) (fun c => absurd hc9 c) (fun _ => ?_)
        exact J43 _ _ _ hrun hP hD hK hS (lv_sub hl [4, 5, 0] rfl) hg_p2_2
      · refine lv_icmp_ne (tgt := 54) hx hb dX4_fillStep_40 (by decide) (fun _ => ?_) (fun c => absurd c hc9)
        refine lv_iload hx hb dX4_fillStep_54 (lv_at hl 1 rfl) ?_
        refine lv_bipush (v := 21) hx hb dX4_fillStep_56 (by decide) ?_
        rcases br9 hrun with ⟨hc10, hrun⟩ | ⟨hc10, hrun⟩
        · refine lv_icmp_gt (tgt := 146) hx hb dX4_fillStep_58 (by decide) (fun _ => ?_) (fun c => absurd hc10 c)
          exact J146 p2w p2_2w p2_2n (p2_2a 2) (p2_2k 2) (p2_2a 3) (p2_2k 3) (p2_2a 4) (p2_2k 4) (p2_2a 5) (p2_2k 5) (p2_2a 6) (p2_2k 6) _ _ _ hrun hP hD hK hS (lv_sub hl [] rfl) hg_p2_2
        · refine lv_icmp_gt (tgt := 146) hx hb dX4_fillStep_58 (by decide) (fun c => absurd c hc10) (fun _ => ?_)
          refine lv_iload hx hb dX4_fillStep_61 (lv_at hl 1 rfl) ?_
          have J85 : ∀ (y0_85 : Int32) (H : Heap) (locs : List Loc) (ls : Array Slot), (fX4_fillStep_J85 p0w p1w p2w p3 p4 p2_2n p2_2w o_3 y0_85) = some o → va_P (dC, dI) cls (List.flatten ([(oX4 (p0a 0) p0a p0k p0w p0l), (oX6 (p1a 0) p1a p1k p1w p1l), (oX1 (p2a 0) p2a p2k p2n p2w p2l), (oX9 (p2a 3) p2_2a p2_2k p2_2n p2_2w)] : List va_W)) H → va_D A (List.flatten ([(oX4 (p0a 0) p0a p0k p0w p0l), (oX6 (p1a 0) p1a p1k p1w p1l), (oX1 (p2a 0) p2a p2k p2n p2w p2l), (oX9 (p2a 3) p2_2a p2_2k p2_2n p2_2w)] : List va_W)) → va_K (dC, dI) cls (List.flatten ([(tX4 p0k), (tX6 p1k), (tX1 p2k), (tX9 p2_2k)] : List (List (ClassId × FieldType)))) s → va_S A s.heap H locs → lv_has ls 9 [(0, .ref (p0a 0)), (1, .ref (p1a 0)), (2, .ref (p2a 0)), (3, .int p3), (4, .int p4), (5, .int (p1w 9 (nn p4))), (6, .int o_3)] → glX9 p2_2n p2_2n → W p l e ({ frames := 4, cells := (hcX9 p2_2n (o.2.2)), slots := (3 * (gcX9 p2_2n (o.2.2))), locals := 113 } : Room) s m ([.ref (p0a 0), .ref (p1a 0), .ref (p2a 0), .int p3, .int p4] : List Value).toArray below meth c H locs (hcX9 p2_2n p2_2n) (3 * (gcX9 p2_2n p2_2n)) Q (F0 m 85 ls [.int y0_85]) := by
            intro y0_85 H locs ls hrun hP hD hK hS hl hg_p2_2 
            have hgn_p2_2 : glX9 p2_2n (o.2.2) := (mo_fX4_fillStep_J85 hrun)
            unfold fX4_fillStep_J85 at hrun
            refine lv_istore (lv' := [(7, .int y0_85), (0, .ref (p0a 0)), (1, .ref (p1a 0)), (2, .ref (p2a 0)), (3, .int p3), (4, .int p4), (5, .int (p1w 9 (nn p4))), (6, .int o_3)]) hx hb dX4_fillStep_85 hl (by decide) rfl (fun ls hl => ?_)
            refine lv_iload hx hb dX4_fillStep_87 (lv_at hl 6 rfl) ?_
            obtain ⟨o_11, hc_11, hrun⟩ := bnd9 hrun
            have hPx : va_P (dC, dI) cls ((List.flatten ([] : List va_W)) ++ (List.flatten ([(oX4 (p0a 0) p0a p0k p0w p0l), (oX6 (p1a 0) p1a p1k p1w p1l), (oX1 (p2a 0) p2a p2k p2n p2w p2l), (oX9 (p2a 3) p2_2a p2_2k p2_2n p2_2w)] : List va_W))) H := vP_fa (vP_perm hP (bP (List.Perm.refl _)))
            have hDx : va_D A ((List.flatten ([] : List va_W)) ++ (List.flatten ([(oX4 (p0a 0) p0a p0k p0w p0l), (oX6 (p1a 0) p1a p1k p1w p1l), (oX1 (p2a 0) p2a p2k p2n p2w p2l), (oX9 (p2a 3) p2_2a p2_2k p2_2n p2_2w)] : List va_W))) := vD_fa (vD_perm hD (bP (List.Perm.refl _)))
            have hKx : va_K (dC, dI) cls ((List.flatten ([] : List (List (ClassId × FieldType)))) ++ (List.flatten ([(tX4 p0k), (tX6 p1k), (tX1 p2k), (tX9 p2_2k)] : List (List (ClassId × FieldType))))) s := vK_fa (vK_perm hK (bP (List.Perm.refl _)))
            have hPc := vP_l hPx
            have hDc := vD_l hDx
            have hKc := vK_l hKx
            have hFc := vfree hDx hS hA
            refine va_calli (va_runSN (As := [.int (p1w 9 (nn p4))]) (rest := []) ⟨hx, hb, hml, hown, hts⟩ (kX11_givesValue l dC dI (p0 := (p1w 9 (nn p4))) (sz := _) (o := o_11) (hrun := hc_11)) ⟨(va_cnB 1 hts (gi_z qw302) rfl rfl rfl (hE.nw (List.mem_append_right _ (tbl_6 (i := 120) rfl)) rfl) (hts _ qw129) (by decide +kernel) ⟨Nat.le_of_ble_eq_true rfl, Nat.le_of_ble_eq_true rfl⟩), (hts _ qw303), trivial⟩ ⟨PRE.blind, PRE.of hE hS hFc hPc hKc hDc⟩ rfl rfl hl.1 rfl (lv_room (Nat.le_of_ble_eq_true rfl)) dX4_fillStep_89 ⟨(show (hcX9 p2_2n p2_2n) + 0 ≤ (hcX9 p2_2n (o.2.2)) from by have q0 := gmX9 hg_p2_2 hgn_p2_2; omega), (show (3 * (gcX9 p2_2n p2_2n)) + 0 ≤ (3 * (gcX9 p2_2n (o.2.2))) from by have q0 := gmX9 hg_p2_2 hgn_p2_2; omega)⟩) hS (fun q _ h => hFc q h) hFc (fun r12 u t H locs ht hvm hw hB hz1 hk1 hS => ?_)
            obtain ⟨b1, b2, b3⟩ := hB
            rw [ht] at b1
            obtain ⟨hP, hD, hK⟩ := JOINC (wc := (List.flatten ([] : List va_W))) (wr := (List.flatten ([(oX4 (p0a 0) p0a p0k p0w p0l), (oX6 (p1a 0) p1a p1k p1w p1l), (oX1 (p2a 0) p2a p2k p2n p2w p2l), (oX9 (p2a 3) p2_2a p2_2k p2_2n p2_2w)] : List va_W))) (w1 := (List.flatten ([] : List va_W))) (t1 := (List.flatten ([] : List (List (ClassId × FieldType))))) hPx hDx hKx hk1 hFc b1 (va_K.moved hvm.symm b2) b3
            have hP : va_P (dC, dI) cls (List.flatten ([(oX4 (p0a 0) p0a p0k p0w p0l), (oX6 (p1a 0) p1a p1k p1w p1l), (oX1 (p2a 0) p2a p2k p2n p2w p2l), (oX9 (p2a 3) p2_2a p2_2k p2_2n p2_2w)] : List va_W)) H := vP_perm (vP_fb hP) (bP (List.Perm.refl _))
            have hD : va_D A (List.flatten ([(oX4 (p0a 0) p0a p0k p0w p0l), (oX6 (p1a 0) p1a p1k p1w p1l), (oX1 (p2a 0) p2a p2k p2n p2w p2l), (oX9 (p2a 3) p2_2a p2_2k p2_2n p2_2w)] : List va_W)) := vD_perm (vD_fb hD) (bP (List.Perm.refl _))
            have hK : va_K (dC, dI) cls (List.flatten ([(tX4 p0k), (tX6 p1k), (tX1 p2k), (tX9 p2_2k)] : List (List (ClassId × FieldType)))) s := vK_perm (vK_fb hK) (bP (List.Perm.refl _))
            obtain rfl : o_11 = r12 := hw.symm
            have J106 : ∀ (y0_106 : Int32) (H : Heap) (locs : List Loc) (ls : Array Slot), (fX4_fillStep_J106 p0w p1w p2w p3 p4 p2_2n p2_2w o_3 y0_85 y0_106) = some o → va_P (dC, dI) cls (List.flatten ([(oX4 (p0a 0) p0a p0k p0w p0l), (oX6 (p1a 0) p1a p1k p1w p1l), (oX1 (p2a 0) p2a p2k p2n p2w p2l), (oX9 (p2a 3) p2_2a p2_2k p2_2n p2_2w)] : List va_W)) H → va_D A (List.flatten ([(oX4 (p0a 0) p0a p0k p0w p0l), (oX6 (p1a 0) p1a p1k p1w p1l), (oX1 (p2a 0) p2a p2k p2n p2w p2l), (oX9 (p2a 3) p2_2a p2_2k p2_2n p2_2w)] : List va_W)) → va_K (dC, dI) cls (List.flatten ([(tX4 p0k), (tX6 p1k), (tX1 p2k), (tX9 p2_2k)] : List (List (ClassId × FieldType)))) s → va_S A s.heap H locs → lv_has ls 9 [(0, .ref (p0a 0)), (1, .ref (p1a 0)), (2, .ref (p2a 0)), (3, .int p3), (4, .int p4), (5, .int (p1w 9 (nn p4))), (6, .int o_3), (7, .int y0_85)] → glX9 p2_2n p2_2n → W p l e ({ frames := 4, cells := (hcX9 p2_2n (o.2.2)), slots := (3 * (gcX9 p2_2n (o.2.2))), locals := 113 } : Room) s m ([.ref (p0a 0), .ref (p1a 0), .ref (p2a 0), .int p3, .int p4] : List Value).toArray below meth c H locs (hcX9 p2_2n p2_2n) (3 * (gcX9 p2_2n p2_2n)) Q (F0 m 106 ls [.int y0_106]) := by
              intro y0_106 H locs ls hrun hP hD hK hS hl hg_p2_2 
              have hgn_p2_2 : glX9 p2_2n (o.2.2) := (mo_fX4_fillStep_J106 hrun)
              unfold fX4_fillStep_J106 at hrun
              refine lv_istore (lv' := [(8, .int y0_106), (0, .ref (p0a 0)), (1, .ref (p1a 0)), (2, .ref (p2a 0)), (3, .int p3), (4, .int p4), (5, .int (p1w 9 (nn p4))), (6, .int o_3), (7, .int y0_85)]) hx hb dX4_fillStep_106 hl (by decide) rfl (fun ls hl => ?_)
              refine lv_aload_n hx hb dX4_fillStep_108 rfl (lv_at hl 3 rfl) ?_
              refine lv_iload_n hx hb dX4_fillStep_109 rfl (lv_at hl 4 rfl) ?_
              refine lv_iload hx hb dX4_fillStep_110 (lv_at hl 6 rfl) ?_
              refine lv_iload hx hb dX4_fillStep_112 (lv_at hl 0 rfl) ?_
              refine lv_iload hx hb dX4_fillStep_114 (lv_at hl 8 rfl) ?_
              have J131 : ∀ (y0_131 : Int32) (y1_131 : Int32) (H : Heap) (locs : List Loc) (ls : Array Slot), (fX4_fillStep_J131 p0w p1w p2w p3 p4 p2_2n p2_2w y0_131 y1_131) = some o → va_P (dC, dI) cls (List.flatten ([(oX4 (p0a 0) p0a p0k p0w p0l), (oX6 (p1a 0) p1a p1k p1w p1l), (oX1 (p2a 0) p2a p2k p2n p2w p2l), (oX9 (p2a 3) p2_2a p2_2k p2_2n p2_2w)] : List va_W)) H → va_D A (List.flatten ([(oX4 (p0a 0) p0a p0k p0w p0l), (oX6 (p1a 0) p1a p1k p1w p1l), (oX1 (p2a 0) p2a p2k p2n p2w p2l), (oX9 (p2a 3) p2_2a p2_2k p2_2n p2_2w)] : List va_W)) → va_K (dC, dI) cls (List.flatten ([(tX4 p0k), (tX6 p1k), (tX1 p2k), (tX9 p2_2k)] : List (List (ClassId × FieldType)))) s → va_S A s.heap H locs → lv_has ls 9 [(0, .ref (p0a 0)), (4, .int p4)] → glX9 p2_2n p2_2n → W p l e ({ frames := 4, cells := (hcX9 p2_2n (o.2.2)), slots := (3 * (gcX9 p2_2n (o.2.2))), locals := 113 } : Room) s m ([.ref (p0a 0), .ref (p1a 0), .ref (p2a 0), .int p3, .int p4] : List Value).toArray below meth c H locs (hcX9 p2_2n p2_2n) (3 * (gcX9 p2_2n p2_2n)) Q (F0 m 131 ls [.int y0_131, .int y1_131, .int (p1w 9 (nn p4)), .int p3, .ref (p2a 0)]) := by
                intro y0_131 y1_131 H locs ls hrun hP hD hK hS hl hg_p2_2 
                have hgn_p2_2 : glX9 p2_2n (o.2.2) := (mo_fX4_fillStep_J131 hrun)
                unfold fX4_fillStep_J131 at hrun
                refine lv_aload_n hx hb dX4_fillStep_131 rfl (lv_at hl 0 rfl) ?_
                refine lv_aload_n hx hb dX4_fillStep_132 rfl (lv_at hl 0 rfl) ?_
                refine va_get (D := (dC, dI)) (ci := 6) (v := .ref (p0a 3)) (C := RX4) (T := TX4) (N := 20) hx hb hts i_X4 hown hK hP 0 rfl rfl 2 (by decide) (hts _ qw304) (fun _ h9 => h9) rfl dX4_fillStep_133 ?_
                refine lv_iload hx hb dX4_fillStep_136 (lv_at hl 1 rfl) ?_
                obtain ⟨hq13, hrun⟩ := chk9 hrun
                refine va_iald hx hb hK hP 2 1 rfl rfl (ixb_in hq13) dX4_fillStep_138 ?_
                obtain ⟨o_14, hc_14, hrun⟩ := bnd9 hrun
                have hPx : va_P (dC, dI) cls ((List.flatten ([(oX4 (p0a 0) p0a p0k p0w p0l)] : List va_W)) ++ (List.flatten ([(oX6 (p1a 0) p1a p1k p1w p1l), (oX1 (p2a 0) p2a p2k p2n p2w p2l), (oX9 (p2a 3) p2_2a p2_2k p2_2n p2_2w)] : List va_W))) H := vP_fa (vP_perm hP (bP (List.Perm.refl _)))
                have hDx : va_D A ((List.flatten ([(oX4 (p0a 0) p0a p0k p0w p0l)] : List va_W)) ++ (List.flatten ([(oX6 (p1a 0) p1a p1k p1w p1l), (oX1 (p2a 0) p2a p2k p2n p2w p2l), (oX9 (p2a 3) p2_2a p2_2k p2_2n p2_2w)] : List va_W))) := vD_fa (vD_perm hD (bP (List.Perm.refl _)))
                have hKx : va_K (dC, dI) cls ((List.flatten ([(tX4 p0k)] : List (List (ClassId × FieldType)))) ++ (List.flatten ([(tX6 p1k), (tX1 p2k), (tX9 p2_2k)] : List (List (ClassId × FieldType))))) s := vK_fa (vK_perm hK (bP (List.Perm.refl _)))
                have hPc := vP_l hPx
                have hDc := vD_l hDx
                have hKc := vK_l hKx
                have hFc := vfree hDx hS hA
                refine va_calli (va_runV (As := [.int (p0w 3 (nn p4))]) (rest := [.int y0_131, .int y1_131, .int (p1w 9 (nn p4)), .int p3, .ref (p2a 0)]) ⟨hx, hb, hml, hown, hts⟩ (kX4_valueAt l dC dI (p0a := p0a) (p0k := p0k) (p0w := p0w) (p0l := p0l) (p1 := (p0w 3 (nn p4))) (sz := _) (o := o_14) (hrun := hc_14)) (cwV 1 hts (gi_V qw298 qw299 qw300 qw270 (gi_z qw297)) rfl rfl rfl (by decide +kernel) ⟨Nat.le_of_ble_eq_true rfl, Nat.le_of_ble_eq_true rfl⟩) ⟨PRE.blind, va_recv hKc hPc (ci := 6) (q0 := 0) rfl rfl, PRE.of hE hS hFc hPc hKc hDc⟩ rfl rfl hl.1 rfl (lv_room (Nat.le_of_ble_eq_true rfl)) dX4_fillStep_139 ⟨(show (hcX9 p2_2n p2_2n) + 0 ≤ (hcX9 p2_2n (o.2.2)) from by have q0 := gmX9 hg_p2_2 hgn_p2_2; omega), (show (3 * (gcX9 p2_2n p2_2n)) + 0 ≤ (3 * (gcX9 p2_2n (o.2.2))) from by have q0 := gmX9 hg_p2_2 hgn_p2_2; omega)⟩) hS (fun q _ h => hFc q h) hFc (fun r15 u t H locs ht hvm hw hB hz1 hk1 hS => ?_)
                obtain ⟨b1, b2, b3⟩ := hB
                rw [ht] at b1
                obtain ⟨hP, hD, hK⟩ := JOINC (wc := (List.flatten ([(oX4 (p0a 0) p0a p0k p0w p0l)] : List va_W))) (wr := (List.flatten ([(oX6 (p1a 0) p1a p1k p1w p1l), (oX1 (p2a 0) p2a p2k p2n p2w p2l), (oX9 (p2a 3) p2_2a p2_2k p2_2n p2_2w)] : List va_W))) (w1 := (List.flatten ([(oX4 (p0a 0) p0a p0k p0w p0l)] : List va_W))) (t1 := (List.flatten ([(tX4 p0k)] : List (List (ClassId × FieldType))))) hPx hDx hKx hk1 hFc b1 (va_K.moved hvm.symm b2) b3
                have hP : va_P (dC, dI) cls (List.flatten ([(oX4 (p0a 0) p0a p0k p0w p0l), (oX6 (p1a 0) p1a p1k p1w p1l), (oX1 (p2a 0) p2a p2k p2n p2w p2l), (oX9 (p2a 3) p2_2a p2_2k p2_2n p2_2w)] : List va_W)) H := vP_perm (vP_fb hP) (bP (List.Perm.refl _))
                have hD : va_D A (List.flatten ([(oX4 (p0a 0) p0a p0k p0w p0l), (oX6 (p1a 0) p1a p1k p1w p1l), (oX1 (p2a 0) p2a p2k p2n p2w p2l), (oX9 (p2a 3) p2_2a p2_2k p2_2n p2_2w)] : List va_W)) := vD_perm (vD_fb hD) (bP (List.Perm.refl _))
                have hK : va_K (dC, dI) cls (List.flatten ([(tX4 p0k), (tX6 p1k), (tX1 p2k), (tX9 p2_2k)] : List (List (ClassId × FieldType)))) s := vK_perm (vK_fb hK) (bP (List.Perm.refl _))
                obtain rfl : o_14 = r15 := hw.symm
                obtain ⟨o_16, hc_16, hrun⟩ := bnd9 hrun
                have hPx : va_P (dC, dI) cls ((List.flatten ([(oX1 (p2a 0) p2a p2k p2n p2w p2l), (oX9 (p2a 3) p2_2a p2_2k p2_2n p2_2w)] : List va_W)) ++ (List.flatten ([(oX4 (p0a 0) p0a p0k p0w p0l), (oX6 (p1a 0) p1a p1k p1w p1l)] : List va_W))) H := vP_fa (vP_perm hP (bP (((((((((List.Perm.refl _)).cons _).trans (List.Perm.swap _ _ _))).cons _).trans (List.Perm.swap _ _ _))).trans (((((((((List.Perm.refl _)).cons _).trans (List.Perm.swap _ _ _))).cons _).trans (List.Perm.swap _ _ _))).cons _))))
                have hDx : va_D A ((List.flatten ([(oX1 (p2a 0) p2a p2k p2n p2w p2l), (oX9 (p2a 3) p2_2a p2_2k p2_2n p2_2w)] : List va_W)) ++ (List.flatten ([(oX4 (p0a 0) p0a p0k p0w p0l), (oX6 (p1a 0) p1a p1k p1w p1l)] : List va_W))) := vD_fa (vD_perm hD (bP (((((((((List.Perm.refl _)).cons _).trans (List.Perm.swap _ _ _))).cons _).trans (List.Perm.swap _ _ _))).trans (((((((((List.Perm.refl _)).cons _).trans (List.Perm.swap _ _ _))).cons _).trans (List.Perm.swap _ _ _))).cons _))))
                have hKx : va_K (dC, dI) cls ((List.flatten ([(tX1 p2k), (tX9 p2_2k)] : List (List (ClassId × FieldType)))) ++ (List.flatten ([(tX4 p0k), (tX6 p1k)] : List (List (ClassId × FieldType))))) s := vK_fa (vK_perm hK (bP (((((((((List.Perm.refl _)).cons _).trans (List.Perm.swap _ _ _))).cons _).trans (List.Perm.swap _ _ _))).trans (((((((((List.Perm.refl _)).cons _).trans (List.Perm.swap _ _ _))).cons _).trans (List.Perm.swap _ _ _))).cons _))))
                have hPc := vP_l hPx
                have hDc := vD_l hDx
                have hKc := vK_l hKx
                have hFc := vfree hDx hS hA
                have hgn_p2_2 : glX9 (o_16.2.2.2) (o.2.2) := (mo_fX4_fillStep_G145_28 hrun)
                refine va_calli (va_runV (As := [.int p3, .int (p1w 9 (nn p4)), .int y1_131, .int y0_131, .int o_14]) (rest := []) ⟨hx, hb, hml, hown, hts⟩ (kX1_addStep l dC dI (p0a := p2a) (p0k := p2k) (p0n := p2n) (p0w := p2w) (p0l := p2l) (p1 := p3) (p2 := (p1w 9 (nn p4))) (p3 := y1_131) (p4 := y0_131) (p5 := o_14) (p0_2a := p2_2a) (p0_2k := p2_2k) (p0_2n := p2_2n) (p0_2w := p2_2w) (sz := _) (o := o_16) (hrun := hc_16)) (cwV 5 hts (gi_V qw305 qw165 qw166 qw126 (gi_z qw163)) rfl rfl rfl (by decide +kernel) ⟨Nat.le_of_ble_eq_true rfl, Nat.le_of_ble_eq_true rfl⟩) ⟨PRE.blind, va_recv hKc hPc (ci := 4) (q0 := 0) rfl rfl, PRE.of hE hS hFc hPc hKc hDc⟩ rfl rfl hl.1 rfl (lv_room (Nat.le_of_ble_eq_true rfl)) dX4_fillStep_142 ⟨(show (hcX9 p2_2n p2_2n) + (hcX9 p2_2n (o_16.2.2.2)) ≤ (hcX9 p2_2n (o.2.2)) from by have q0 := gsX9 hg_p2_2 (mo_fX1_addStep hc_16) hgn_p2_2; omega), (show (3 * (gcX9 p2_2n p2_2n)) + (3 * (gcX9 p2_2n (o_16.2.2.2))) ≤ (3 * (gcX9 p2_2n (o.2.2))) from by have q0 := gsX9 hg_p2_2 (mo_fX1_addStep hc_16) hgn_p2_2; omega)⟩) hS (fun q _ h => hFc q h) hFc (fun r17 u t H locs ht hvm hw hB hz1 hk1 hS => ?_)
                obtain ⟨x18, z19, x20, z21, x22, z23, x24, z25, x26, z27, hB⟩ := hB
                obtain ⟨b1, b2, b3⟩ := hB
                rw [ht] at b1
                obtain ⟨hP, hD, hK⟩ := JOINC (wc := (List.flatten ([(oX1 (p2a 0) p2a p2k p2n p2w p2l), (oX9 (p2a 3) p2_2a p2_2k p2_2n p2_2w)] : List va_W))) (wr := (List.flatten ([(oX4 (p0a 0) p0a p0k p0w p0l), (oX6 (p1a 0) p1a p1k p1w p1l)] : List va_W))) (w1 := (List.flatten ([(oX1 (p2a 0) p2a p2k p2n (o_16.2.1) p2l), (oX9 (p2a 3) (st1 (st1 (st1 (st1 (st1 p2_2a 2 x18) 3 x20) 4 x22) 5 x24) 6 x26) (st1 (st1 (st1 (st1 (st1 p2_2k 2 z19) 3 z21) 4 z23) 5 z25) 6 z27) (o_16.2.2.2) (o_16.2.2.1))] : List va_W))) (t1 := (List.flatten ([(tX1 p2k), (tX9 (st1 (st1 (st1 (st1 (st1 p2_2k 2 z19) 3 z21) 4 z23) 5 z25) 6 z27))] : List (List (ClassId × FieldType))))) hPx hDx hKx hk1 hFc b1 (va_K.moved hvm.symm b2) b3
                have hP : va_P (dC, dI) cls (List.flatten ([(oX4 (p0a 0) p0a p0k p0w p0l), (oX6 (p1a 0) p1a p1k p1w p1l), (oX1 (p2a 0) p2a p2k p2n (o_16.2.1) p2l), (oX9 (p2a 3) (st1 (st1 (st1 (st1 (st1 p2_2a 2 x18) 3 x20) 4 x22) 5 x24) 6 x26) (st1 (st1 (st1 (st1 (st1 p2_2k 2 z19) 3 z21) 4 z23) 5 z25) 6 z27) (o_16.2.2.2) (o_16.2.2.1))] : List va_W)) H := vP_perm (vP_fb hP) (bP (((((((((List.Perm.refl _)).cons _).trans (List.Perm.swap _ _ _))).cons _).trans (List.Perm.swap _ _ _))).trans (((((((((List.Perm.refl _)).cons _).trans (List.Perm.swap _ _ _))).cons _).trans (List.Perm.swap _ _ _))).cons _)))
                have hD : va_D A (List.flatten ([(oX4 (p0a 0) p0a p0k p0w p0l), (oX6 (p1a 0) p1a p1k p1w p1l), (oX1 (p2a 0) p2a p2k p2n (o_16.2.1) p2l), (oX9 (p2a 3) (st1 (st1 (st1 (st1 (st1 p2_2a 2 x18) 3 x20) 4 x22) 5 x24) 6 x26) (st1 (st1 (st1 (st1 (st1 p2_2k 2 z19) 3 z21) 4 z23) 5 z25) 6 z27) (o_16.2.2.2) (o_16.2.2.1))] : List va_W)) := vD_perm (vD_fb hD) (bP (((((((((List.Perm.refl _)).cons _).trans (List.Perm.swap _ _ _))).cons _).trans (List.Perm.swap _ _ _))).trans (((((((((List.Perm.refl _)).cons _).trans (List.Perm.swap _ _ _))).cons _).trans (List.Perm.swap _ _ _))).cons _)))
                have hK : va_K (dC, dI) cls (List.flatten ([(tX4 p0k), (tX6 p1k), (tX1 p2k), (tX9 (st1 (st1 (st1 (st1 (st1 p2_2k 2 z19) 3 z21) 4 z23) 5 z25) 6 z27))] : List (List (ClassId × FieldType)))) s := vK_perm (vK_fb hK) (bP (((((((((List.Perm.refl _)).cons _).trans (List.Perm.swap _ _ _))).cons _).trans (List.Perm.swap _ _ _))).trans (((((((((List.Perm.refl _)).cons _).trans (List.Perm.swap _ _ _))).cons _).trans (List.Perm.swap _ _ _))).cons _)))
                obtain rfl : r17 = (o_16.1) := hw
                refine W.widen (k := (hcX9 p2_2n (o_16.2.2.2))) (n := (3 * (gcX9 p2_2n (o_16.2.2.2)))) (by have a0 := gcX9_add hg_p2_2 (mo_fX1_addStep hc_16); omega) (by have a0 := gcX9_add hg_p2_2 (mo_fX1_addStep hc_16); omega) ?_
                have hg_p2_2 : glX9 p2_2n (o_16.2.2.2) := glX9_tr hg_p2_2 (mo_fX1_addStep hc_16)
                unfold fX4_fillStep_G145_28 at hrun
                refine lv_pop hx hb dX4_fillStep_145 rfl ?_
                exact J146 (o_16.2.1) (o_16.2.2.1) (o_16.2.2.2) x18 z19 x20 z21 x22 z23 x24 z25 x26 z27 _ _ _ hrun hP hD hK hS (lv_sub hl [] rfl) hg_p2_2
              rcases br9 hrun with ⟨hc29, hrun⟩ | ⟨hc29, hrun⟩
              · refine lv_if_eq (tgt := 129) hx hb dX4_fillStep_116 (by decide) (fun _ => ?_) (fun c => absurd hc29 c)
                refine lv_iload hx hb dX4_fillStep_129 (lv_at hl 7 rfl) ?_
                exact J131 o_3 y0_106 _ _ _ hrun hP hD hK hS (lv_sub hl [1, 5] rfl) hg_p2_2
              · refine lv_if_eq (tgt := 129) hx hb dX4_fillStep_116 (by decide) (fun c => absurd c hc29) (fun _ => ?_)
                refine lv_aload_n hx hb dX4_fillStep_119 rfl (lv_at hl 2 rfl) ?_
                refine va_get (D := (dC, dI)) (ci := 2) (v := .ref (p1a 10)) (C := RX6) (T := TX6) (N := 13) hx hb hts i_X6 hown hK hP 19 rfl rfl 9 (by decide) (hts _ qw265) (fun _ h9 => h9) rfl dX4_fillStep_120 ?_
                refine lv_iload hx hb dX4_fillStep_123 (lv_at hl 5 rfl) ?_
                obtain ⟨hq30, hrun⟩ := chk9 hrun
                refine va_iald hx hb hK hP 27 25 rfl rfl (ixb_in hq30) dX4_fillStep_125 ?_
                refine lv_goto (tgt := 131) hx hb dX4_fillStep_126 (by decide) ?_
                exact J131 (p1w 10 (nn p4)) y0_106 _ _ _ hrun hP hD hK hS (lv_sub hl [1, 5] rfl) hg_p2_2
            rcases br9 hrun with ⟨hc31, hrun⟩ | ⟨hc31, hrun⟩
            · refine lv_if_eq (tgt := 105) hx hb dX4_fillStep_92 (by decide) (fun _ => ?_) (fun c => absurd hc31 c)
              refine lv_iconst (v := (-1)) hx hb dX4_fillStep_105 (by decide) ?_
              exact J106 (-1) _ _ _ hrun hP hD hK hS (lv_sub hl [1, 2, 3, 4, 5, 6, 7, 0] rfl) hg_p2_2
            · refine lv_if_eq (tgt := 105) hx hb dX4_fillStep_92 (by decide) (fun c => absurd c hc31) (fun _ => ?_)
              refine lv_aload_n hx hb dX4_fillStep_95 rfl (lv_at hl 1 rfl) ?_
              refine va_get (D := (dC, dI)) (ci := 6) (v := .ref (p0a 4)) (C := RX4) (T := TX4) (N := 20) hx hb hts i_X4 hown hK hP 0 rfl rfl 3 (by decide) (hts _ qw295) (fun _ h9 => h9) rfl dX4_fillStep_96 ?_
              refine lv_iload hx hb dX4_fillStep_99 (lv_at hl 5 rfl) ?_
              obtain ⟨hq32, hrun⟩ := chk9 hrun
              refine va_iald hx hb hK hP 3 2 rfl rfl (ixb_in hq32) dX4_fillStep_101 ?_
              refine lv_goto (tgt := 106) hx hb dX4_fillStep_102 (by decide) ?_
              exact J106 (p0w 4 (nn p4)) _ _ _ hrun hP hD hK hS (lv_sub hl [1, 2, 3, 4, 5, 6, 7, 0] rfl) hg_p2_2
          have J80 : ∀ (H : Heap) (locs : List Loc) (ls : Array Slot), (fX4_fillStep_J80 p0w p1w p2w p3 p4 p2_2n p2_2w o_3) = some o → va_P (dC, dI) cls (List.flatten ([(oX4 (p0a 0) p0a p0k p0w p0l), (oX6 (p1a 0) p1a p1k p1w p1l), (oX1 (p2a 0) p2a p2k p2n p2w p2l), (oX9 (p2a 3) p2_2a p2_2k p2_2n p2_2w)] : List va_W)) H → va_D A (List.flatten ([(oX4 (p0a 0) p0a p0k p0w p0l), (oX6 (p1a 0) p1a p1k p1w p1l), (oX1 (p2a 0) p2a p2k p2n p2w p2l), (oX9 (p2a 3) p2_2a p2_2k p2_2n p2_2w)] : List va_W)) → va_K (dC, dI) cls (List.flatten ([(tX4 p0k), (tX6 p1k), (tX1 p2k), (tX9 p2_2k)] : List (List (ClassId × FieldType)))) s → va_S A s.heap H locs → lv_has ls 9 [(0, .ref (p0a 0)), (1, .ref (p1a 0)), (2, .ref (p2a 0)), (3, .int p3), (4, .int p4), (5, .int (p1w 9 (nn p4))), (6, .int o_3)] → glX9 p2_2n p2_2n → W p l e ({ frames := 4, cells := (hcX9 p2_2n (o.2.2)), slots := (3 * (gcX9 p2_2n (o.2.2))), locals := 113 } : Room) s m ([.ref (p0a 0), .ref (p1a 0), .ref (p2a 0), .int p3, .int p4] : List Value).toArray below meth c H locs (hcX9 p2_2n p2_2n) (3 * (gcX9 p2_2n p2_2n)) Q (F0 m 80 ls []) := by
            intro  H locs ls hrun hP hD hK hS hl hg_p2_2 
            have hgn_p2_2 : glX9 p2_2n (o.2.2) := (mo_fX4_fillStep_J80 hrun)
            unfold fX4_fillStep_J80 at hrun
            refine lv_iconst (v := 1) hx hb dX4_fillStep_80 (by decide) ?_
            refine lv_goto (tgt := 85) hx hb dX4_fillStep_81 (by decide) ?_
            exact J85 1 _ _ _ hrun hP hD hK hS (lv_sub hl [0, 1, 2, 3, 4, 5, 6] rfl) hg_p2_2
          rcases br9 hrun with ⟨hc33, hrun⟩ | ⟨hc33, hrun⟩
          · refine lv_if_eq (tgt := 80) hx hb dX4_fillStep_63 (by decide) (fun _ => ?_) (fun c => absurd hc33 c)
            exact J80 _ _ _ hrun hP hD hK hS (lv_sub hl [2, 3, 4, 5, 6, 1, 0] rfl) hg_p2_2
          · refine lv_if_eq (tgt := 80) hx hb dX4_fillStep_63 (by decide) (fun c => absurd c hc33) (fun _ => ?_)
            refine lv_iload hx hb dX4_fillStep_66 (lv_at hl 1 rfl) ?_
            refine lv_bipush (v := 20) hx hb dX4_fillStep_68 (by decide) ?_
            rcases br9 hrun with ⟨hc34, hrun⟩ | ⟨hc34, hrun⟩
            · refine lv_icmp_eq (tgt := 80) hx hb dX4_fillStep_70 (by decide) (fun _ => ?_) (fun c => absurd hc34 c)
              exact J80 _ _ _ hrun hP hD hK hS (lv_sub hl [2, 3, 4, 5, 6, 1, 0] rfl) hg_p2_2
            · refine lv_icmp_eq (tgt := 80) hx hb dX4_fillStep_70 (by decide) (fun c => absurd c hc34) (fun _ => ?_)
              refine lv_iload hx hb dX4_fillStep_73 (lv_at hl 1 rfl) ?_
              refine lv_bipush (v := 21) hx hb dX4_fillStep_75 (by decide) ?_
              rcases br9 hrun with ⟨hc35, hrun⟩ | ⟨hc35, hrun⟩
              · refine lv_icmp_ne (tgt := 84) hx hb dX4_fillStep_77 (by decide) (fun c => absurd hc35 c) (fun _ => ?_)
                exact J80 _ _ _ hrun hP hD hK hS (lv_sub hl [2, 3, 4, 5, 6, 1, 0] rfl) hg_p2_2
              · refine lv_icmp_ne (tgt := 84) hx hb dX4_fillStep_77 (by decide) (fun _ => ?_) (fun c => absurd c hc35)
                refine lv_iconst (v := 0) hx hb dX4_fillStep_84 (by decide) ?_
                exact J85 0 _ _ _ hrun hP hD hK hS (lv_sub hl [2, 3, 4, 5, 6, 1, 0] rfl) hg_p2_2
def fX4_fillBlock_L67 (p3n : Nat → Nat) (p3w : ST) (p4 : Int32) : Nat → Int32 → ST → Option ST
  | 0 => fun _ _ => none
  | n_67 + 1 => fun v6_67 p0w_67 => (if v6_67 < 0 then some p0w_67 else (if ixb v6_67 250 = true then (if ixb v6_67 (p3n 19) = true then (if ixb ((p4 * 320) + (p0w_67 19 (nn v6_67))) 19200 = true then (lt9 (upw p0w_67 20 (nn ((p4 * 320) + (p0w_67 19 (nn v6_67)))) (p3w 19 (nn v6_67))) fun (w6 : ST) => (if ixb v6_67 (p3n 20) = true then ((fX4_fillBlock_L67 p3n p3w p4 n_67) (p3w 20 (nn v6_67)) w6) else none)) else none) else none) else none))
def fX4_fillBlock_J268 (kk114 : Int32 → ST → ST → ST → (Nat → Nat) → Option (ST × ST × ST × (Nat → Nat))) (v6_114 : Int32) (p0w_268 : ST) (p3w_268 : ST) (p3_2w_268 : ST) (p3_2n_268 : Nat → Nat) : Option (ST × ST × ST × (Nat → Nat)) := (kk114 (v6_114 + 1) p0w_268 p3w_268 p3_2w_268 p3_2n_268)
theorem mo_fX4_fillBlock_J268 {kk114 : Int32 → ST → ST → ST → (Nat → Nat) → Option (ST × ST × ST × (Nat → Nat))} {v6_114 : Int32} {p0w_268 : ST} {p3w_268 : ST} {p3_2w_268 : ST} {p3_2n_268 : Nat → Nat} {o9q : ST × ST × ST × (Nat → Nat)} (hkk : ∀ (v6_114q : Int32) (p0w_114q : ST) (p3w_114q : ST) (p3_2w_114q : ST) (p3_2n_114q : Nat → Nat) (r9 : ST × ST × ST × (Nat → Nat)), kk114 v6_114q p0w_114q p3w_114q p3_2w_114q p3_2n_114q = some r9 → glX9 p3_2n_114q (r9.2.2.2)) (hrun : fX4_fillBlock_J268 kk114 v6_114 p0w_268 p3w_268 p3_2w_268 p3_2n_268 = some o9q) : glX9 p3_2n_268 (o9q.2.2.2) := by
  unfold fX4_fillBlock_J268 at hrun
  exact (hkk _ _ _ _ _ _ hrun)
def fX4_fillBlock_J204 (kk114 : Int32 → ST → ST → ST → (Nat → Nat) → Option (ST × ST × ST × (Nat → Nat))) (p1w : ST) (p4 : Int32) (v6_114 : Int32) (p0w_114 : ST) (p3w_114 : ST) (p3_2w_114 : ST) (p3_2n_114 : Nat → Nat) : Option (ST × ST × ST × (Nat → Nat)) := (if ixb v6_114 3200 = true then ((fX4_valueAt p0w_114 (p0w_114 2 (nn v6_114))).bind fun (o_16 : Int32) => (if ixb ((p4 * 320) + (p1w 10 (nn v6_114))) 19200 = true then (lt9 (upw p0w_114 20 (nn ((p4 * 320) + (p1w 10 (nn v6_114)))) o_16) fun (w19 : ST) => (fX4_fillBlock_J268 kk114 v6_114 w19 p3w_114 p3_2w_114 p3_2n_114)) else none)) else none)
theorem mo_fX4_fillBlock_J204 {kk114 : Int32 → ST → ST → ST → (Nat → Nat) → Option (ST × ST × ST × (Nat → Nat))} {p1w : ST} {p4 : Int32} {v6_114 : Int32} {p0w_114 : ST} {p3w_114 : ST} {p3_2w_114 : ST} {p3_2n_114 : Nat → Nat} {o9q : ST × ST × ST × (Nat → Nat)} (hkk : ∀ (v6_114q : Int32) (p0w_114q : ST) (p3w_114q : ST) (p3_2w_114q : ST) (p3_2n_114q : Nat → Nat) (r9 : ST × ST × ST × (Nat → Nat)), kk114 v6_114q p0w_114q p3w_114q p3_2w_114q p3_2n_114q = some r9 → glX9 p3_2n_114q (r9.2.2.2)) (hrun : fX4_fillBlock_J204 kk114 p1w p4 v6_114 p0w_114 p3w_114 p3_2w_114 p3_2n_114 = some o9q) : glX9 p3_2n_114 (o9q.2.2.2) := by
  unfold fX4_fillBlock_J204 at hrun
  obtain ⟨hq15, hrun⟩ := chk9 hrun
  obtain ⟨o_16, hc_16, hrun⟩ := bnd9 hrun
  obtain ⟨hq18, hrun⟩ := chk9 hrun
  obtain ⟨w19, ew19, hrun⟩ := let9 hrun
  exact (mo_fX4_fillBlock_J268 hkk hrun)
def fX4_fillBlock_G255_35 (kk114 : Int32 → ST → ST → ST → (Nat → Nat) → Option (ST × ST × ST × (Nat → Nat))) (v6_114 : Int32) (w23 : ST) (o_24 : ST × ST × (Nat → Nat)) : Option (ST × ST × ST × (Nat → Nat)) := (fX4_fillBlock_J268 kk114 v6_114 w23 (o_24.1) (o_24.2.1) (o_24.2.2))
theorem mo_fX4_fillBlock_G255_35 {kk114 : Int32 → ST → ST → ST → (Nat → Nat) → Option (ST × ST × ST × (Nat → Nat))} {v6_114 : Int32} {w23 : ST} {o_24 : ST × ST × (Nat → Nat)} {o9q : ST × ST × ST × (Nat → Nat)} (hkk : ∀ (v6_114q : Int32) (p0w_114q : ST) (p3w_114q : ST) (p3_2w_114q : ST) (p3_2n_114q : Nat → Nat) (r9 : ST × ST × ST × (Nat → Nat)), kk114 v6_114q p0w_114q p3w_114q p3_2w_114q p3_2n_114q = some r9 → glX9 p3_2n_114q (r9.2.2.2)) (hrun : fX4_fillBlock_G255_35 kk114 v6_114 w23 o_24 = some o9q) : glX9 (o_24.2.2) (o9q.2.2.2) := by
  unfold fX4_fillBlock_G255_35 at hrun
  exact (mo_fX4_fillBlock_J268 hkk hrun)
def fX4_fillBlock_G268_53 (kk114 : Int32 → ST → ST → ST → (Nat → Nat) → Option (ST × ST × ST × (Nat → Nat))) (v6_114 : Int32) (p0w_114 : ST) (o_42 : ST × ST × (Nat → Nat)) : Option (ST × ST × ST × (Nat → Nat)) := (fX4_fillBlock_J268 kk114 v6_114 p0w_114 (o_42.1) (o_42.2.1) (o_42.2.2))
theorem mo_fX4_fillBlock_G268_53 {kk114 : Int32 → ST → ST → ST → (Nat → Nat) → Option (ST × ST × ST × (Nat → Nat))} {v6_114 : Int32} {p0w_114 : ST} {o_42 : ST × ST × (Nat → Nat)} {o9q : ST × ST × ST × (Nat → Nat)} (hkk : ∀ (v6_114q : Int32) (p0w_114q : ST) (p3w_114q : ST) (p3_2w_114q : ST) (p3_2n_114q : Nat → Nat) (r9 : ST × ST × ST × (Nat → Nat)), kk114 v6_114q p0w_114q p3w_114q p3_2w_114q p3_2n_114q = some r9 → glX9 p3_2n_114q (r9.2.2.2)) (hrun : fX4_fillBlock_G268_53 kk114 v6_114 p0w_114 o_42 = some o9q) : glX9 (o_42.2.2) (o9q.2.2.2) := by
  unfold fX4_fillBlock_G268_53 at hrun
  exact (mo_fX4_fillBlock_J268 hkk hrun)
def fX4_fillBlock_L114 (p1w : ST) (p4 : Int32) : Nat → Int32 → ST → ST → ST → (Nat → Nat) → Option (ST × ST × ST × (Nat → Nat))
  | 0 => fun _ _ _ _ _ => none
  | n_114 + 1 => fun v6_114 p0w_114 p3w_114 p3_2w_114 p3_2n_114 => ((fX4_opsTo p0w_114 p4).bind fun (o_10 : Int32) => (if o_10 ≤ v6_114 then some (p0w_114, p3w_114, p3_2w_114, p3_2n_114) else (if ixb v6_114 3200 = true then (if ixb v6_114 3200 = true then (if (p1w 9 (nn v6_114)) = 21 then (if ixb v6_114 3200 = true then (if ixb ((p4 * 320) + (p1w 10 (nn v6_114))) 19200 = true then (lt9 (upw p0w_114 20 (nn ((p4 * 320) + (p1w 10 (nn v6_114)))) (p0w_114 4 (nn v6_114))) fun (w23 : ST) => ((fX4_fillStep w23 p1w p3w_114 p4 v6_114 p3_2n_114 p3_2w_114).bind fun (o_24 : ST × ST × (Nat → Nat)) => (fX4_fillBlock_G255_35 (fX4_fillBlock_L114 p1w p4 n_114) v6_114 w23 o_24))) else none) else none) else (if (p1w 9 (nn v6_114)) = 30 then (if ixb ((p4 * 320) + (p1w 10 (nn v6_114))) 19200 = true then (if ixb v6_114 3200 = true then (lt9 (upw p0w_114 4 (nn v6_114) (p0w_114 20 (nn ((p4 * 320) + (p1w 10 (nn v6_114)))))) fun (w39 : ST) => (fX4_fillBlock_J268 (fX4_fillBlock_L114 p1w p4 n_114) v6_114 w39 p3w_114 p3_2w_114 p3_2n_114)) else none) else none) else (if (p1w 9 (nn v6_114)) = 31 then (fX4_fillBlock_J204 (fX4_fillBlock_L114 p1w p4 n_114) p1w p4 v6_114 p0w_114 p3w_114 p3_2w_114 p3_2n_114) else (if (p1w 9 (nn v6_114)) = 32 then (fX4_fillBlock_J204 (fX4_fillBlock_L114 p1w p4 n_114) p1w p4 v6_114 p0w_114 p3w_114 p3_2w_114 p3_2n_114) else ((fX4_fillStep p0w_114 p1w p3w_114 p4 v6_114 p3_2n_114 p3_2w_114).bind fun (o_42 : ST × ST × (Nat → Nat)) => (fX4_fillBlock_G268_53 (fX4_fillBlock_L114 p1w p4 n_114) v6_114 p0w_114 o_42)))))) else none) else none)))
theorem mo_fX4_fillBlock_L114 {p1w : ST} {p4 : Int32} : ∀ (n_114 : Nat) (v6_114 : Int32) (p0w_114 : ST) (p3w_114 : ST) (p3_2w_114 : ST) (p3_2n_114 : Nat → Nat) (o9q : ST × ST × ST × (Nat → Nat)), (fX4_fillBlock_L114 p1w p4 n_114) v6_114 p0w_114 p3w_114 p3_2w_114 p3_2n_114 = some o9q → glX9 p3_2n_114 (o9q.2.2.2) := by
  intro n_114
  induction n_114 with
  | zero => intro v6_114 p0w_114 p3w_114 p3_2w_114 p3_2n_114 o9q hrun; exact (no9 rfl hrun).elim
  | succ n_114 ih9 =>
    intro v6_114 p0w_114 p3w_114 p3_2w_114 p3_2n_114 o9q hrun
    unfold fX4_fillBlock_L114 at hrun
    obtain ⟨o_10, hc_10, hrun⟩ := bnd9 hrun
    rcases br9 hrun with ⟨hc12, hrun⟩ | ⟨hc12, hrun⟩
    · skip
      obtain rfl := (Option.some.inj hrun)
      exact (glX9_rf _)
    · skip
      obtain ⟨hq13, hrun⟩ := chk9 hrun
      obtain ⟨hq14, hrun⟩ := chk9 hrun
      rcases br9 hrun with ⟨hc20, hrun⟩ | ⟨hc20, hrun⟩
      · skip
        obtain ⟨hq21, hrun⟩ := chk9 hrun
        obtain ⟨hq22, hrun⟩ := chk9 hrun
        obtain ⟨w23, ew23, hrun⟩ := let9 hrun
        obtain ⟨o_24, hc_24, hrun⟩ := bnd9 hrun
        exact (glX9_tr (mo_fX4_fillStep hc_24) (mo_fX4_fillBlock_G255_35 ih9 hrun))
      rcases br9 hrun with ⟨hc36, hrun⟩ | ⟨hc36, hrun⟩
      · skip
        obtain ⟨hq37, hrun⟩ := chk9 hrun
        obtain ⟨hq38, hrun⟩ := chk9 hrun
        obtain ⟨w39, ew39, hrun⟩ := let9 hrun
        exact (mo_fX4_fillBlock_J268 ih9 hrun)
      rcases br9 hrun with ⟨hc40, hrun⟩ | ⟨hc40, hrun⟩
      · skip
        exact (mo_fX4_fillBlock_J204 ih9 hrun)
      rcases br9 hrun with ⟨hc41, hrun⟩ | ⟨hc41, hrun⟩
      · skip
        exact (mo_fX4_fillBlock_J204 ih9 hrun)
      obtain ⟨o_42, hc_42, hrun⟩ := bnd9 hrun
      exact (glX9_tr (mo_fX4_fillStep hc_42) (mo_fX4_fillBlock_G268_53 ih9 hrun))
def fX4_fillBlock_G274_54 (o114 : ST × ST × ST × (Nat → Nat)) : Option (ST × ST × ST × (Nat → Nat)) := some ((o114.1), (o114.2.1), (o114.2.2.1), (o114.2.2.2))
theorem mo_fX4_fillBlock_G274_54 {o114 : ST × ST × ST × (Nat → Nat)} {o9q : ST × ST × ST × (Nat → Nat)} (hrun : fX4_fillBlock_G274_54 o114 = some o9q) : glX9 (o114.2.2.2) (o9q.2.2.2) := by
  unfold fX4_fillBlock_G274_54 at hrun
  obtain rfl := (Option.some.inj hrun)
  exact (glX9_rf _)
def fX4_fillBlock_J58 (p1w : ST) (p3n : Nat → Nat) (p3w : ST) (p4 : Int32) (p3_2n : Nat → Nat) (p3_2w : ST) (p0w_58 : ST) : Option (ST × ST × ST × (Nat → Nat)) := (if ixb p4 60 = true then ((fX4_fillBlock_L67 p3n p3w p4 NF (p3w 6 (nn p4)) p0w_58).bind fun (o67 : ST) => ((fX4_opsFrom o67 p4).bind fun (o_8 : Int32) => ((fX4_fillBlock_L114 p1w p4 NF o_8 o67 p3w p3_2w p3_2n).bind fun (o114 : ST × ST × ST × (Nat → Nat)) => (fX4_fillBlock_G274_54 o114)))) else none)
theorem mo_fX4_fillBlock_J58 {p1w : ST} {p3n : Nat → Nat} {p3w : ST} {p4 : Int32} {p3_2n : Nat → Nat} {p3_2w : ST} {p0w_58 : ST} {o9q : ST × ST × ST × (Nat → Nat)} (hrun : fX4_fillBlock_J58 p1w p3n p3w p4 p3_2n p3_2w p0w_58 = some o9q) : glX9 p3_2n (o9q.2.2.2) := by
  unfold fX4_fillBlock_J58 at hrun
  obtain ⟨hq1, hrun⟩ := chk9 hrun
  obtain ⟨o67, hc67, hrun⟩ := bnd9 hrun
  obtain ⟨o_8, hc_8, hrun⟩ := bnd9 hrun
  obtain ⟨o114, hc114, hrun⟩ := bnd9 hrun
  exact (glX9_tr (mo_fX4_fillBlock_L114 _ _ _ _ _ _ _ hc114) (mo_fX4_fillBlock_G274_54 hrun))
def fX4_fillBlock (p0w : ST) (p1w : ST) (p2 : Int32) (p3n : Nat → Nat) (p3w : ST) (p4 : Int32) (p3_2n : Nat → Nat) (p3_2w : ST) : Option (ST × ST × ST × (Nat → Nat)) := (if p4 = 0 then ((fJ7_fill_fda19 19200 (p0w 20) 0 320 (-1)).bind fun (o_56 : RI) => (fX4_fillBlock_J58 p1w p3n p3w p4 p3_2n p3_2w (srw p0w 20 o_56))) else (if ixb p4 60 = true then (if ixb p2 6 = true then (if cpk ((p3w 12 (nn p4)) * 320) (p4 * 320) (p1w 5 (nn p2)) 19200 19200 = true then (lt9 (srw p0w 20 (va_cpy (p0w 20) (p0w 20) (nn ((p3w 12 (nn p4)) * 320)) (nn (p4 * 320)) (nn (p1w 5 (nn p2))))) fun (w60 : ST) => (fX4_fillBlock_J58 p1w p3n p3w p4 p3_2n p3_2w w60)) else none) else none) else none))
theorem mo_fX4_fillBlock {p0w : ST} {p1w : ST} {p2 : Int32} {p3n : Nat → Nat} {p3w : ST} {p4 : Int32} {p3_2n : Nat → Nat} {p3_2w : ST} {o9q : ST × ST × ST × (Nat → Nat)} (hrun : fX4_fillBlock p0w p1w p2 p3n p3w p4 p3_2n p3_2w = some o9q) : glX9 p3_2n (o9q.2.2.2) := by
  unfold fX4_fillBlock at hrun
  rcases br9 hrun with ⟨hc55, hrun⟩ | ⟨hc55, hrun⟩
  · skip
    obtain ⟨o_56, hc_56, hrun⟩ := bnd9 hrun
    exact (mo_fX4_fillBlock_J58 hrun)
  · skip
    obtain ⟨hq57, hrun⟩ := chk9 hrun
    obtain ⟨hq58, hrun⟩ := chk9 hrun
    obtain ⟨hq59, hrun⟩ := chk9 hrun
    obtain ⟨w60, ew60, hrun⟩ := let9 hrun
    exact (mo_fX4_fillBlock_J58 hrun)
set_option maxHeartbeats 16000000 in
set_option maxRecDepth 100000 in
theorem kX4_fillBlock {zs : ZS} (l : Launch) (dC : Nat → ClassId) (dI : Nat → Nat → Nat) (p0a : Nat → Nat) (p0k : Nat → ClassId) (p0w : ST) (p0l : SL) (p1a : Nat → Nat) (p1k : Nat → ClassId) (p1w : ST) (p1l : SL) (p2 : Int32) (p3a : Nat → Nat) (p3k : Nat → ClassId) (p3n : Nat → Nat) (p3w : ST) (p3l : SL) (p4 : Int32) (p3_2a : Nat → Nat) (p3_2k : Nat → ClassId) (p3_2n : Nat → Nat) (p3_2w : ST) (sz : Nat) (o : ST × ST × ST × (Nat → Nat)) (hrun : fX4_fillBlock p0w p1w p2 p3n p3w p4 p3_2n p3_2w = some o) : Met l yX4_fillBlock (wz yX4_fillBlock cX4_fillBlock 8 (Option.none : Option Jvm.ClassFile.FieldType)) ({ frames := 5, cells := (hcX9 p3_2n (o.2.2.2)), slots := (3 * (gcX9 p3_2n (o.2.2.2))), locals := 141 } : Room) (va_Pc [.ref (p0a 0), .ref (p1a 0), .int p2, .ref (p3a 0), .int p4] (PRE zs dC dI (List.flatten ([(oX4 (p0a 0) p0a p0k p0w p0l), (oX6 (p1a 0) p1a p1k p1w p1l), (oX1 (p3a 0) p3a p3k p3n p3w p3l), (oX9 (p3a 3) p3_2a p3_2k p3_2n p3_2w)] : List va_W)) (List.flatten ([(tX4 p0k), (tX6 p1k), (tX1 p3k), (tX9 p3_2k)] : List (List (ClassId × FieldType)))) sz)) (va_Qv (fun (_ : Unit) => True) (fun _ t => ∃ (xp3_2_1_z : Nat), ∃ (zp3_2_1_z : ClassId), ∃ (xp3_2_2_z : Nat), ∃ (zp3_2_2_z : ClassId), ∃ (xp3_2_3_z : Nat), ∃ (zp3_2_3_z : ClassId), ∃ (xp3_2_4_z : Nat), ∃ (zp3_2_4_z : ClassId), ∃ (xp3_2_5_z : Nat), ∃ (zp3_2_5_z : ClassId), POST dC dI (List.flatten ([(oX4 (p0a 0) p0a p0k (o.1) p0l), (oX6 (p1a 0) p1a p1k p1w p1l), (oX1 (p3a 0) p3a p3k p3n (o.2.1) p3l), (oX9 (p3a 3) (st1 (st1 (st1 (st1 (st1 p3_2a 2 xp3_2_1_z) 3 xp3_2_2_z) 4 xp3_2_3_z) 5 xp3_2_4_z) 6 xp3_2_5_z) (st1 (st1 (st1 (st1 (st1 p3_2k 2 zp3_2_1_z) 3 zp3_2_2_z) 4 zp3_2_3_z) 5 zp3_2_4_z) 6 zp3_2_5_z) (o.2.2.2) (o.2.2.1))] : List va_W)) (List.flatten ([(tX4 p0k), (tX6 p1k), (tX1 p3k), (tX9 (st1 (st1 (st1 (st1 (st1 p3_2k 2 zp3_2_1_z) 3 zp3_2_2_z) 4 zp3_2_3_z) 5 zp3_2_4_z) 6 zp3_2_5_z))] : List (List (ClassId × FieldType)))) (va_A (List.flatten ([(oX4 (p0a 0) p0a p0k p0w p0l), (oX6 (p1a 0) p1a p1k p1w p1l), (oX1 (p3a 0) p3a p3k p3n p3w p3l), (oX9 (p3a 3) p3_2a p3_2k p3_2n p3_2w)] : List va_W)) sz) t) (va_A (List.flatten ([(oX4 (p0a 0) p0a p0k p0w p0l), (oX6 (p1a 0) p1a p1k p1w p1l), (oX1 (p3a 0) p3a p3k p3n p3w p3l), (oX9 (p3a 3) p3_2a p3_2k p3_2n p3_2w)] : List va_W)) sz)) (hcX9 p3_2n (o.2.2.2)) (3 * (gcX9 p3_2n (o.2.2.2))) (va_A (List.flatten ([(oX4 (p0a 0) p0a p0k p0w p0l), (oX6 (p1a 0) p1a p1k p1w p1l), (oX1 (p3a 0) p3a p3k p3n p3w p3l), (oX9 (p3a 3) p3_2a p3_2k p3_2n p3_2w)] : List va_W)) sz) := by
  refine Met.ofW (cc := cX4_fillBlock) (maxL := 8) (ret := (Option.none : Option Jvm.ClassFile.FieldType)) (by decide) rfl ?_
  intro p e s m args below meth c s₁ B hml hv
  obtain ⟨rfl, hsz, hP, hK, hD0, hE⟩ := hv
  have hx := B.exec
  have hb := B.bytes
  have hr := B.returns
  have hts0 := atoms_spec (ws := wz yX4_fillBlock cX4_fillBlock 8 (Option.none : Option Jvm.ClassFile.FieldType)) B.pre
  have hts : ∀ w ∈ gw, w.before _ s = true := fun w h => hts0 w (List.mem_cons_of_mem _ h)
  have hown : s.vm.findClass RX4 = some m.cls := findClass_of_methodNamed B.named
  have hlocks := B.notSynchronized
  subst hsz
  have hD := hD0.self (sz := s.heap.size)
  refine gQ9 ?_
  intro Q hQ
  generalize hAe : va_A (List.flatten ([(oX4 (p0a 0) p0a p0k p0w p0l), (oX6 (p1a 0) p1a p1k p1w p1l), (oX1 (p3a 0) p3a p3k p3n p3w p3l), (oX9 (p3a 3) p3_2a p3_2k p3_2n p3_2w)] : List va_W)) s.heap.size = A at hD hE hQ
  have hA : ∀ q : Nat, s.heap.size ≤ q → A q := fun q h => by rw [← hAe]; exact Or.inr h
  have hS : va_S A s.heap s.heap [] := va_S.rf
  have hP : va_P (dC, dI) cls (List.flatten ([(oX4 (p0a 0) p0a p0k p0w p0l), (oX6 (p1a 0) p1a p1k p1w p1l), (oX1 (p3a 0) p3a p3k p3n p3w p3l), (oX9 (p3a 3) p3_2a p3_2k p3_2n p3_2w)] : List va_W)) s.heap := hP
  have hl := lv_entry ([.ref (p0a 0), .ref (p1a 0), .int p2, .ref (p3a 0), .int p4]) (n := 8) (Nat.le_of_ble_eq_true rfl)
  rw [lg_entry_eq]
  generalize (lg_sl ([.ref (p0a 0), .ref (p1a 0), .int p2, .ref (p3a 0), .int p4]) ++ List.replicate (8 - (lg_sl ([.ref (p0a 0), .ref (p1a 0), .int p2, .ref (p3a 0), .int p4])).length) Slot.unset).toArray = ls at hl ⊢
  have hl : lv_has ls 8 [(0, .ref (p0a 0)), (1, .ref (p1a 0)), (2, .int p2), (3, .ref (p3a 0)), (4, .int p4)] := hl
  obtain ⟨H, hHe⟩ : ∃ H, H = s.heap := ⟨_, rfl⟩
  obtain ⟨locs, hle⟩ : ∃ locs : List Loc, locs = [] := ⟨_, rfl⟩
  rw [← hHe] at hP
  have hS : va_S A s.heap H locs := by rw [hHe, hle]; exact hS
  show W p l e ({ frames := 5, cells := (hcX9 p3_2n (o.2.2.2)), slots := (3 * (gcX9 p3_2n (o.2.2.2))), locals := 141 } : Room) s m ([.ref (p0a 0), .ref (p1a 0), .int p2, .ref (p3a 0), .int p4] : List Value).toArray below meth c s.heap [] 0 0 Q (F0 m 0 ls [])
  rw [← hle]
  refine wH9 hHe ?_
  have hg_p3_2 := glX9_rf p3_2n
  have hgn_p3_2 : glX9 p3_2n (o.2.2.2) := (mo_fX4_fillBlock hrun)
  refine W.widen (k := (hcX9 p3_2n p3_2n)) (n := (3 * (gcX9 p3_2n p3_2n))) (Nat.zero_le _) (Nat.zero_le _) ?_
  unfold fX4_fillBlock at hrun
  refine lv_iload hx hb dX4_fillBlock_0 (lv_at hl 4 rfl) ?_
  refine lv_sipush (v := 320) hx hb dX4_fillBlock_2 (by decide) ?_
  refine lv_imul hx hb dX4_fillBlock_5 ?_
  refine lv_istore (lv' := [(5, .int (p4 * 320)), (0, .ref (p0a 0)), (1, .ref (p1a 0)), (2, .int p2), (3, .ref (p3a 0)), (4, .int p4)]) hx hb dX4_fillBlock_6 hl (by decide) rfl (fun ls hl => ?_)
  refine lv_iload hx hb dX4_fillBlock_8 (lv_at hl 5 rfl) ?_
  have J58 : ∀ (p0w_58 : ST) (H : Heap) (locs : List Loc) (ls : Array Slot), (fX4_fillBlock_J58 p1w p3n p3w p4 p3_2n p3_2w p0w_58) = some o → va_P (dC, dI) cls (List.flatten ([(oX4 (p0a 0) p0a p0k p0w_58 p0l), (oX6 (p1a 0) p1a p1k p1w p1l), (oX1 (p3a 0) p3a p3k p3n p3w p3l), (oX9 (p3a 3) p3_2a p3_2k p3_2n p3_2w)] : List va_W)) H → va_D A (List.flatten ([(oX4 (p0a 0) p0a p0k p0w_58 p0l), (oX6 (p1a 0) p1a p1k p1w p1l), (oX1 (p3a 0) p3a p3k p3n p3w p3l), (oX9 (p3a 3) p3_2a p3_2k p3_2n p3_2w)] : List va_W)) → va_K (dC, dI) cls (List.flatten ([(tX4 p0k), (tX6 p1k), (tX1 p3k), (tX9 p3_2k)] : List (List (ClassId × FieldType)))) s → va_S A s.heap H locs → lv_has ls 8 [(0, .ref (p0a 0)), (1, .ref (p1a 0)), (3, .ref (p3a 0)), (4, .int p4), (5, .int (p4 * 320))] → glX9 p3_2n p3_2n → W p l e ({ frames := 5, cells := (hcX9 p3_2n (o.2.2.2)), slots := (3 * (gcX9 p3_2n (o.2.2.2))), locals := 141 } : Room) s m ([.ref (p0a 0), .ref (p1a 0), .int p2, .ref (p3a 0), .int p4] : List Value).toArray below meth c H locs (hcX9 p3_2n p3_2n) (3 * (gcX9 p3_2n p3_2n)) Q (F0 m 58 ls []) := by
    intro p0w_58 H locs ls hrun hP hD hK hS hl hg_p3_2 
    have hgn_p3_2 : glX9 p3_2n (o.2.2.2) := (mo_fX4_fillBlock_J58 hrun)
    unfold fX4_fillBlock_J58 at hrun
    refine lv_aload_n hx hb dX4_fillBlock_58 rfl (lv_at hl 2 rfl) ?_
    refine va_get (D := (dC, dI)) (ci := 4) (v := .ref (p3a 6)) (C := RX1) (T := TX1) (N := 21) hx hb hts i_X1 hown hK hP 30 rfl rfl 5 (by decide) (hts _ qw282) (fun _ h9 => h9) rfl dX4_fillBlock_59 ?_
    refine lv_iload hx hb dX4_fillBlock_62 (lv_at hl 3 rfl) ?_
    obtain ⟨hq1, hrun⟩ := chk9 hrun
    refine va_iald hx hb hK hP 33 30 rfl rfl (ixb_in hq1) dX4_fillBlock_64 ?_
    refine lv_istore (lv' := [(6, .int (p3w 6 (nn p4))), (0, .ref (p0a 0)), (1, .ref (p1a 0)), (3, .ref (p3a 0)), (4, .int p4), (5, .int (p4 * 320))]) hx hb dX4_fillBlock_65 hl (by decide) rfl (fun ls hl => ?_)
    have L67 : ∀ (n_67 : Nat) (v6_67 : Int32) (p0w_67 : ST) (o67 : ST) (H : Heap) (locs : List Loc) (ls : Array Slot), (fX4_fillBlock_L67 p3n p3w p4 n_67) v6_67 p0w_67 = some o67 → va_P (dC, dI) cls (List.flatten ([(oX4 (p0a 0) p0a p0k p0w_67 p0l), (oX6 (p1a 0) p1a p1k p1w p1l), (oX1 (p3a 0) p3a p3k p3n p3w p3l), (oX9 (p3a 3) p3_2a p3_2k p3_2n p3_2w)] : List va_W)) H → va_D A (List.flatten ([(oX4 (p0a 0) p0a p0k p0w_67 p0l), (oX6 (p1a 0) p1a p1k p1w p1l), (oX1 (p3a 0) p3a p3k p3n p3w p3l), (oX9 (p3a 3) p3_2a p3_2k p3_2n p3_2w)] : List va_W)) → va_K (dC, dI) cls (List.flatten ([(tX4 p0k), (tX6 p1k), (tX1 p3k), (tX9 p3_2k)] : List (List (ClassId × FieldType)))) s → va_S A s.heap H locs → lv_has ls 8 [(0, .ref (p0a 0)), (1, .ref (p1a 0)), (3, .ref (p3a 0)), (4, .int p4), (5, .int (p4 * 320)), (6, .int v6_67)] → glX9 p3_2n p3_2n → (∀ (H : Heap) (locs : List Loc) (ls : Array Slot), va_P (dC, dI) cls (List.flatten ([(oX4 (p0a 0) p0a p0k o67 p0l), (oX6 (p1a 0) p1a p1k p1w p1l), (oX1 (p3a 0) p3a p3k p3n p3w p3l), (oX9 (p3a 3) p3_2a p3_2k p3_2n p3_2w)] : List va_W)) H → va_D A (List.flatten ([(oX4 (p0a 0) p0a p0k o67 p0l), (oX6 (p1a 0) p1a p1k p1w p1l), (oX1 (p3a 0) p3a p3k p3n p3w p3l), (oX9 (p3a 3) p3_2a p3_2k p3_2n p3_2w)] : List va_W)) → va_K (dC, dI) cls (List.flatten ([(tX4 p0k), (tX6 p1k), (tX1 p3k), (tX9 p3_2k)] : List (List (ClassId × FieldType)))) s → va_S A s.heap H locs → lv_has ls 8 [(0, .ref (p0a 0)), (1, .ref (p1a 0)), (3, .ref (p3a 0)), (4, .int p4), (5, .int (p4 * 320))] → glX9 p3_2n p3_2n → W p l e ({ frames := 5, cells := (hcX9 p3_2n (o.2.2.2)), slots := (3 * (gcX9 p3_2n (o.2.2.2))), locals := 141 } : Room) s m ([.ref (p0a 0), .ref (p1a 0), .int p2, .ref (p3a 0), .int p4] : List Value).toArray below meth c H locs (hcX9 p3_2n p3_2n) (3 * (gcX9 p3_2n p3_2n)) Q (F0 m 106 ls [])) → W p l e ({ frames := 5, cells := (hcX9 p3_2n (o.2.2.2)), slots := (3 * (gcX9 p3_2n (o.2.2.2))), locals := 141 } : Room) s m ([.ref (p0a 0), .ref (p1a 0), .int p2, .ref (p3a 0), .int p4] : List Value).toArray below meth c H locs (hcX9 p3_2n p3_2n) (3 * (gcX9 p3_2n p3_2n)) Q (F0 m 67 ls []) := by
      intro n_67
      induction n_67 with
      | zero => intro v6_67 p0w_67 o67 H locs ls hrun; exact (no9 rfl hrun).elim
      | succ n_67 IH67 =>
        intro v6_67 p0w_67 o67 H locs ls hrun hP hD hK hS hl hg_p3_2 hk67
        unfold fX4_fillBlock_L67 at hrun
        refine lv_iload hx hb dX4_fillBlock_67 (lv_at hl 5 rfl) ?_
        rcases br9 hrun with ⟨hc2, hrun⟩ | ⟨hc2, hrun⟩
        · refine lv_if_lt (tgt := 106) hx hb dX4_fillBlock_69 (by decide) (fun _ => ?_) (fun c => absurd hc2 c)
          obtain rfl := (Option.some.inj hrun)
          exact hk67 _ _ _ hP hD hK hS (lv_sub hl [0, 1, 2, 3, 4] rfl) hg_p3_2
        · refine lv_if_lt (tgt := 106) hx hb dX4_fillBlock_69 (by decide) (fun c => absurd c hc2) (fun _ => ?_)
          refine lv_aload_n hx hb dX4_fillBlock_72 rfl (lv_at hl 0 rfl) ?_
          refine va_get (D := (dC, dI)) (ci := 6) (v := .ref (p0a 20)) (C := RX4) (T := TX4) (N := 20) hx hb hts i_X4 hown hK hP 0 rfl rfl 19 (by decide) (hts _ qw275) (fun _ h9 => h9) rfl dX4_fillBlock_73 ?_
          refine lv_iload hx hb dX4_fillBlock_76 (lv_at hl 4 rfl) ?_
          refine lv_aload_n hx hb dX4_fillBlock_78 rfl (lv_at hl 0 rfl) ?_
          refine va_get (D := (dC, dI)) (ci := 6) (v := .ref (p0a 19)) (C := RX4) (T := TX4) (N := 20) hx hb hts i_X4 hown hK hP 0 rfl rfl 18 (by decide) (hts _ qw283) (fun _ h9 => h9) rfl dX4_fillBlock_79 ?_
          refine lv_iload hx hb dX4_fillBlock_82 (lv_at hl 5 rfl) ?_
          obtain ⟨hq3, hrun⟩ := chk9 hrun
          refine va_iald hx hb hK hP 17 16 rfl rfl (ixb_in hq3) dX4_fillBlock_84 ?_
          refine lv_iadd hx hb dX4_fillBlock_85 ?_
          refine lv_aload_n hx hb dX4_fillBlock_86 rfl (lv_at hl 2 rfl) ?_
          refine va_get (D := (dC, dI)) (ci := 4) (v := .ref (p3a 19)) (C := RX1) (T := TX1) (N := 21) hx hb hts i_X1 hown hK hP 30 rfl rfl 18 (by decide) (hts _ qw284) (fun _ h9 => h9) rfl dX4_fillBlock_87 ?_
          refine lv_iload hx hb dX4_fillBlock_90 (lv_at hl 5 rfl) ?_
          obtain ⟨hq4, hrun⟩ := chk9 hrun
          refine va_iald hx hb hK hP 45 42 rfl rfl (ixb_in hq4) dX4_fillBlock_92 ?_
          obtain ⟨hq5, hrun⟩ := chk9 hrun
          refine va_iast hx hb hK hP hD hS 18 17 rfl rfl (ixb_in hq5) dX4_fillBlock_93 (fun H locs hP hD hS => ?_)
          have hP : va_P (dC, dI) cls (List.flatten ([(oX4 (p0a 0) p0a p0k (upw p0w_67 20 (nn ((p4 * 320) + (p0w_67 19 (nn v6_67)))) (p3w 19 (nn v6_67))) p0l), (oX6 (p1a 0) p1a p1k p1w p1l), (oX1 (p3a 0) p3a p3k p3n p3w p3l), (oX9 (p3a 3) p3_2a p3_2k p3_2n p3_2w)] : List va_W)) H := hP
          have hD : va_D A (List.flatten ([(oX4 (p0a 0) p0a p0k (upw p0w_67 20 (nn ((p4 * 320) + (p0w_67 19 (nn v6_67)))) (p3w 19 (nn v6_67))) p0l), (oX6 (p1a 0) p1a p1k p1w p1l), (oX1 (p3a 0) p3a p3k p3n p3w p3l), (oX9 (p3a 3) p3_2a p3_2k p3_2n p3_2w)] : List va_W)) := hD
          obtain ⟨w6, ew6, hrun⟩ := let9 hrun
          rw [← ew6] at hP hD
          refine lv_aload_n hx hb dX4_fillBlock_94 rfl (lv_at hl 2 rfl) ?_
          refine va_get (D := (dC, dI)) (ci := 4) (v := .ref (p3a 20)) (C := RX1) (T := TX1) (N := 21) hx hb hts i_X1 hown hK hP 30 rfl rfl 19 (by decide) (hts _ qw285) (fun _ h9 => h9) rfl dX4_fillBlock_95 ?_
          refine lv_iload hx hb dX4_fillBlock_98 (lv_at hl 5 rfl) ?_
          obtain ⟨hq7, hrun⟩ := chk9 hrun
          refine va_iald hx hb hK hP 46 43 rfl rfl (ixb_in hq7) dX4_fillBlock_100 ?_
          refine lv_istore (lv' := [(6, .int (p3w 20 (nn v6_67))), (0, .ref (p0a 0)), (1, .ref (p1a 0)), (3, .ref (p3a 0)), (4, .int p4), (5, .int (p4 * 320))]) hx hb dX4_fillBlock_101 hl (by decide) rfl (fun ls hl => ?_)
          refine lv_goto (tgt := 67) hx hb dX4_fillBlock_103 (by decide) ?_
          exact IH67 (p3w 20 (nn v6_67)) w6 o67 _ _ _ hrun hP hD hK hS (lv_sub hl [1, 2, 3, 4, 5, 0] rfl) hg_p3_2 hk67
    obtain ⟨o67, hc67, hrun⟩ := bnd9 hrun
    refine L67 NF (p3w 6 (nn p4)) p0w_58 o67 _ _ _ hc67 hP hD hK hS (lv_sub hl [1, 2, 3, 4, 5, 0] rfl) hg_p3_2 ?_
    intro H locs ls hP hD hK hS hl hg_p3_2
    have hl := hl
    refine lv_aload_n hx hb dX4_fillBlock_106 rfl (lv_at hl 0 rfl) ?_
    refine lv_iload hx hb dX4_fillBlock_107 (lv_at hl 3 rfl) ?_
    obtain ⟨o_8, hc_8, hrun⟩ := bnd9 hrun
    have hPx : va_P (dC, dI) cls ((List.flatten ([(oX4 (p0a 0) p0a p0k o67 p0l)] : List va_W)) ++ (List.flatten ([(oX6 (p1a 0) p1a p1k p1w p1l), (oX1 (p3a 0) p3a p3k p3n p3w p3l), (oX9 (p3a 3) p3_2a p3_2k p3_2n p3_2w)] : List va_W))) H := vP_fa (vP_perm hP (bP (List.Perm.refl _)))
    have hDx : va_D A ((List.flatten ([(oX4 (p0a 0) p0a p0k o67 p0l)] : List va_W)) ++ (List.flatten ([(oX6 (p1a 0) p1a p1k p1w p1l), (oX1 (p3a 0) p3a p3k p3n p3w p3l), (oX9 (p3a 3) p3_2a p3_2k p3_2n p3_2w)] : List va_W))) := vD_fa (vD_perm hD (bP (List.Perm.refl _)))
    have hKx : va_K (dC, dI) cls ((List.flatten ([(tX4 p0k)] : List (List (ClassId × FieldType)))) ++ (List.flatten ([(tX6 p1k), (tX1 p3k), (tX9 p3_2k)] : List (List (ClassId × FieldType))))) s := vK_fa (vK_perm hK (bP (List.Perm.refl _)))
    have hPc := vP_l hPx
    have hDc := vD_l hDx
    have hKc := vK_l hKx
    have hFc := vfree hDx hS hA
    refine va_calli (va_runV (As := [.int p4]) (rest := []) ⟨hx, hb, hml, hown, hts⟩ (kX4_opsFrom l dC dI (p0a := p0a) (p0k := p0k) (p0w := o67) (p0l := p0l) (p1 := p4) (sz := _) (o := o_8) (hrun := hc_8)) (cwV 1 hts (gi_V qw288 qw289 qw290 qw270 (gi_z qw287)) rfl rfl rfl (by decide +kernel) ⟨Nat.le_of_ble_eq_true rfl, Nat.le_of_ble_eq_true rfl⟩) ⟨PRE.blind, va_recv hKc hPc (ci := 6) (q0 := 0) rfl rfl, PRE.of hE hS hFc hPc hKc hDc⟩ rfl rfl hl.1 rfl (lv_room (Nat.le_of_ble_eq_true rfl)) dX4_fillBlock_109 ⟨(show (hcX9 p3_2n p3_2n) + 0 ≤ (hcX9 p3_2n (o.2.2.2)) from by have q0 := gmX9 hg_p3_2 hgn_p3_2; omega), (show (3 * (gcX9 p3_2n p3_2n)) + 0 ≤ (3 * (gcX9 p3_2n (o.2.2.2))) from by have q0 := gmX9 hg_p3_2 hgn_p3_2; omega)⟩) hS (fun q _ h => hFc q h) hFc (fun r9 u t H locs ht hvm hw hB hz1 hk1 hS => ?_)
    obtain ⟨b1, b2, b3⟩ := hB
    rw [ht] at b1
    obtain ⟨hP, hD, hK⟩ := JOINC (wc := (List.flatten ([(oX4 (p0a 0) p0a p0k o67 p0l)] : List va_W))) (wr := (List.flatten ([(oX6 (p1a 0) p1a p1k p1w p1l), (oX1 (p3a 0) p3a p3k p3n p3w p3l), (oX9 (p3a 3) p3_2a p3_2k p3_2n p3_2w)] : List va_W))) (w1 := (List.flatten ([(oX4 (p0a 0) p0a p0k o67 p0l)] : List va_W))) (t1 := (List.flatten ([(tX4 p0k)] : List (List (ClassId × FieldType))))) hPx hDx hKx hk1 hFc b1 (va_K.moved hvm.symm b2) b3
    have hP : va_P (dC, dI) cls (List.flatten ([(oX4 (p0a 0) p0a p0k o67 p0l), (oX6 (p1a 0) p1a p1k p1w p1l), (oX1 (p3a 0) p3a p3k p3n p3w p3l), (oX9 (p3a 3) p3_2a p3_2k p3_2n p3_2w)] : List va_W)) H := vP_perm (vP_fb hP) (bP (List.Perm.refl _))
    have hD : va_D A (List.flatten ([(oX4 (p0a 0) p0a p0k o67 p0l), (oX6 (p1a 0) p1a p1k p1w p1l), (oX1 (p3a 0) p3a p3k p3n p3w p3l), (oX9 (p3a 3) p3_2a p3_2k p3_2n p3_2w)] : List va_W)) := vD_perm (vD_fb hD) (bP (List.Perm.refl _))
    have hK : va_K (dC, dI) cls (List.flatten ([(tX4 p0k), (tX6 p1k), (tX1 p3k), (tX9 p3_2k)] : List (List (ClassId × FieldType)))) s := vK_perm (vK_fb hK) (bP (List.Perm.refl _))
    obtain rfl : o_8 = r9 := hw.symm
    refine lv_istore (lv' := [(6, .int o_8), (0, .ref (p0a 0)), (1, .ref (p1a 0)), (3, .ref (p3a 0)), (4, .int p4), (5, .int (p4 * 320))]) hx hb dX4_fillBlock_112 hl (by decide) rfl (fun ls hl => ?_)
    obtain ⟨o114, hc114, hrun⟩ := bnd9 hrun
    have hgn_p3_2 : glX9 (o114.2.2.2) (o.2.2.2) := (mo_fX4_fillBlock_G274_54 hrun)
    have L114 : ∀ (n_114 : Nat) (v6_114 : Int32) (p0w_114 : ST) (p3w_114 : ST) (p3_2w_114 : ST) (p3_2n_114 : Nat → Nat) (xp3_2_1_114 : Nat) (zp3_2_1_114 : ClassId) (xp3_2_2_114 : Nat) (zp3_2_2_114 : ClassId) (xp3_2_3_114 : Nat) (zp3_2_3_114 : ClassId) (xp3_2_4_114 : Nat) (zp3_2_4_114 : ClassId) (xp3_2_5_114 : Nat) (zp3_2_5_114 : ClassId) (o114 : ST × ST × ST × (Nat → Nat)) (H : Heap) (locs : List Loc) (ls : Array Slot), (fX4_fillBlock_L114 p1w p4 n_114) v6_114 p0w_114 p3w_114 p3_2w_114 p3_2n_114 = some o114 → va_P (dC, dI) cls (List.flatten ([(oX4 (p0a 0) p0a p0k p0w_114 p0l), (oX6 (p1a 0) p1a p1k p1w p1l), (oX1 (p3a 0) p3a p3k p3n p3w_114 p3l), (oX9 (p3a 3) (st1 (st1 (st1 (st1 (st1 p3_2a 2 xp3_2_1_114) 3 xp3_2_2_114) 4 xp3_2_3_114) 5 xp3_2_4_114) 6 xp3_2_5_114) (st1 (st1 (st1 (st1 (st1 p3_2k 2 zp3_2_1_114) 3 zp3_2_2_114) 4 zp3_2_3_114) 5 zp3_2_4_114) 6 zp3_2_5_114) p3_2n_114 p3_2w_114)] : List va_W)) H → va_D A (List.flatten ([(oX4 (p0a 0) p0a p0k p0w_114 p0l), (oX6 (p1a 0) p1a p1k p1w p1l), (oX1 (p3a 0) p3a p3k p3n p3w_114 p3l), (oX9 (p3a 3) (st1 (st1 (st1 (st1 (st1 p3_2a 2 xp3_2_1_114) 3 xp3_2_2_114) 4 xp3_2_3_114) 5 xp3_2_4_114) 6 xp3_2_5_114) (st1 (st1 (st1 (st1 (st1 p3_2k 2 zp3_2_1_114) 3 zp3_2_2_114) 4 zp3_2_3_114) 5 zp3_2_4_114) 6 zp3_2_5_114) p3_2n_114 p3_2w_114)] : List va_W)) → va_K (dC, dI) cls (List.flatten ([(tX4 p0k), (tX6 p1k), (tX1 p3k), (tX9 (st1 (st1 (st1 (st1 (st1 p3_2k 2 zp3_2_1_114) 3 zp3_2_2_114) 4 zp3_2_3_114) 5 zp3_2_4_114) 6 zp3_2_5_114))] : List (List (ClassId × FieldType)))) s → va_S A s.heap H locs → lv_has ls 8 [(0, .ref (p0a 0)), (1, .ref (p1a 0)), (3, .ref (p3a 0)), (4, .int p4), (5, .int (p4 * 320)), (6, .int v6_114)] → glX9 p3_2n p3_2n_114 → glX9 (o114.2.2.2) (o.2.2.2) → (∀ (xp3_2_1_114x : Nat) (zp3_2_1_114x : ClassId) (xp3_2_2_114x : Nat) (zp3_2_2_114x : ClassId) (xp3_2_3_114x : Nat) (zp3_2_3_114x : ClassId) (xp3_2_4_114x : Nat) (zp3_2_4_114x : ClassId) (xp3_2_5_114x : Nat) (zp3_2_5_114x : ClassId) (H : Heap) (locs : List Loc) (ls : Array Slot), va_P (dC, dI) cls (List.flatten ([(oX4 (p0a 0) p0a p0k (o114.1) p0l), (oX6 (p1a 0) p1a p1k p1w p1l), (oX1 (p3a 0) p3a p3k p3n (o114.2.1) p3l), (oX9 (p3a 3) (st1 (st1 (st1 (st1 (st1 p3_2a 2 xp3_2_1_114x) 3 xp3_2_2_114x) 4 xp3_2_3_114x) 5 xp3_2_4_114x) 6 xp3_2_5_114x) (st1 (st1 (st1 (st1 (st1 p3_2k 2 zp3_2_1_114x) 3 zp3_2_2_114x) 4 zp3_2_3_114x) 5 zp3_2_4_114x) 6 zp3_2_5_114x) (o114.2.2.2) (o114.2.2.1))] : List va_W)) H → va_D A (List.flatten ([(oX4 (p0a 0) p0a p0k (o114.1) p0l), (oX6 (p1a 0) p1a p1k p1w p1l), (oX1 (p3a 0) p3a p3k p3n (o114.2.1) p3l), (oX9 (p3a 3) (st1 (st1 (st1 (st1 (st1 p3_2a 2 xp3_2_1_114x) 3 xp3_2_2_114x) 4 xp3_2_3_114x) 5 xp3_2_4_114x) 6 xp3_2_5_114x) (st1 (st1 (st1 (st1 (st1 p3_2k 2 zp3_2_1_114x) 3 zp3_2_2_114x) 4 zp3_2_3_114x) 5 zp3_2_4_114x) 6 zp3_2_5_114x) (o114.2.2.2) (o114.2.2.1))] : List va_W)) → va_K (dC, dI) cls (List.flatten ([(tX4 p0k), (tX6 p1k), (tX1 p3k), (tX9 (st1 (st1 (st1 (st1 (st1 p3_2k 2 zp3_2_1_114x) 3 zp3_2_2_114x) 4 zp3_2_3_114x) 5 zp3_2_4_114x) 6 zp3_2_5_114x))] : List (List (ClassId × FieldType)))) s → va_S A s.heap H locs → lv_has ls 8 [] → glX9 p3_2n (o114.2.2.2) → W p l e ({ frames := 5, cells := (hcX9 p3_2n (o.2.2.2)), slots := (3 * (gcX9 p3_2n (o.2.2.2))), locals := 141 } : Room) s m ([.ref (p0a 0), .ref (p1a 0), .int p2, .ref (p3a 0), .int p4] : List Value).toArray below meth c H locs (hcX9 p3_2n (o114.2.2.2)) (3 * (gcX9 p3_2n (o114.2.2.2))) Q (F0 m 274 ls [])) → W p l e ({ frames := 5, cells := (hcX9 p3_2n (o.2.2.2)), slots := (3 * (gcX9 p3_2n (o.2.2.2))), locals := 141 } : Room) s m ([.ref (p0a 0), .ref (p1a 0), .int p2, .ref (p3a 0), .int p4] : List Value).toArray below meth c H locs (hcX9 p3_2n p3_2n_114) (3 * (gcX9 p3_2n p3_2n_114)) Q (F0 m 114 ls []) := by
      intro n_114
      induction n_114 with
      | zero => intro v6_114 p0w_114 p3w_114 p3_2w_114 p3_2n_114 xp3_2_1_114 zp3_2_1_114 xp3_2_2_114 zp3_2_2_114 xp3_2_3_114 zp3_2_3_114 xp3_2_4_114 zp3_2_4_114 xp3_2_5_114 zp3_2_5_114 o114 H locs ls hrun; exact (no9 rfl hrun).elim
      | succ n_114 IH114 =>
        intro v6_114 p0w_114 p3w_114 p3_2w_114 p3_2n_114 xp3_2_1_114 zp3_2_1_114 xp3_2_2_114 zp3_2_2_114 xp3_2_3_114 zp3_2_3_114 xp3_2_4_114 zp3_2_4_114 xp3_2_5_114 zp3_2_5_114 o114 H locs ls hrun hP hD hK hS hl hg_p3_2 hgo_p3_2 hk114
        have hgn_p3_2 : glX9 p3_2n_114 (o.2.2.2) := (glX9_tr (mo_fX4_fillBlock_L114 (n_114 + 1) _ _ _ _ _ _ hrun) hgo_p3_2)
        unfold fX4_fillBlock_L114 at hrun
        refine lv_iload hx hb dX4_fillBlock_114 (lv_at hl 5 rfl) ?_
        refine lv_aload_n hx hb dX4_fillBlock_116 rfl (lv_at hl 0 rfl) ?_
        refine lv_iload hx hb dX4_fillBlock_117 (lv_at hl 3 rfl) ?_
        obtain ⟨o_10, hc_10, hrun⟩ := bnd9 hrun
        have hPx : va_P (dC, dI) cls ((List.flatten ([(oX4 (p0a 0) p0a p0k p0w_114 p0l)] : List va_W)) ++ (List.flatten ([(oX6 (p1a 0) p1a p1k p1w p1l), (oX1 (p3a 0) p3a p3k p3n p3w_114 p3l), (oX9 (p3a 3) (st1 (st1 (st1 (st1 (st1 p3_2a 2 xp3_2_1_114) 3 xp3_2_2_114) 4 xp3_2_3_114) 5 xp3_2_4_114) 6 xp3_2_5_114) (st1 (st1 (st1 (st1 (st1 p3_2k 2 zp3_2_1_114) 3 zp3_2_2_114) 4 zp3_2_3_114) 5 zp3_2_4_114) 6 zp3_2_5_114) p3_2n_114 p3_2w_114)] : List va_W))) H := vP_fa (vP_perm hP (bP (List.Perm.refl _)))
        have hDx : va_D A ((List.flatten ([(oX4 (p0a 0) p0a p0k p0w_114 p0l)] : List va_W)) ++ (List.flatten ([(oX6 (p1a 0) p1a p1k p1w p1l), (oX1 (p3a 0) p3a p3k p3n p3w_114 p3l), (oX9 (p3a 3) (st1 (st1 (st1 (st1 (st1 p3_2a 2 xp3_2_1_114) 3 xp3_2_2_114) 4 xp3_2_3_114) 5 xp3_2_4_114) 6 xp3_2_5_114) (st1 (st1 (st1 (st1 (st1 p3_2k 2 zp3_2_1_114) 3 zp3_2_2_114) 4 zp3_2_3_114) 5 zp3_2_4_114) 6 zp3_2_5_114) p3_2n_114 p3_2w_114)] : List va_W))) := vD_fa (vD_perm hD (bP (List.Perm.refl _)))
        have hKx : va_K (dC, dI) cls ((List.flatten ([(tX4 p0k)] : List (List (ClassId × FieldType)))) ++ (List.flatten ([(tX6 p1k), (tX1 p3k), (tX9 (st1 (st1 (st1 (st1 (st1 p3_2k 2 zp3_2_1_114) 3 zp3_2_2_114) 4 zp3_2_3_114) 5 zp3_2_4_114) 6 zp3_2_5_114))] : List (List (ClassId × FieldType))))) s := vK_fa (vK_perm hK (bP (List.Perm.refl _)))
        have hPc := vP_l hPx
        have hDc := vD_l hDx
        have hKc := vK_l hKx
        have hFc := vfree hDx hS hA
        refine va_calli (va_runV (As := [.int p4]) (rest := [.int v6_114]) ⟨hx, hb, hml, hown, hts⟩ (kX4_opsTo l dC dI (p0a := p0a) (p0k := p0k) (p0w := p0w_114) (p0l := p0l) (p1 := p4) (sz := _) (o := o_10) (hrun := hc_10)) (cwV 1 hts (gi_V qw292 qw293 qw294 qw270 (gi_z qw291)) rfl rfl rfl (by decide +kernel) ⟨Nat.le_of_ble_eq_true rfl, Nat.le_of_ble_eq_true rfl⟩) ⟨PRE.blind, va_recv hKc hPc (ci := 6) (q0 := 0) rfl rfl, PRE.of hE hS hFc hPc hKc hDc⟩ rfl rfl hl.1 rfl (lv_room (Nat.le_of_ble_eq_true rfl)) dX4_fillBlock_119 ⟨(show (hcX9 p3_2n p3_2n_114) + 0 ≤ (hcX9 p3_2n (o.2.2.2)) from by have q0 := gmX9 hg_p3_2 hgn_p3_2; omega), (show (3 * (gcX9 p3_2n p3_2n_114)) + 0 ≤ (3 * (gcX9 p3_2n (o.2.2.2))) from by have q0 := gmX9 hg_p3_2 hgn_p3_2; omega)⟩) hS (fun q _ h => hFc q h) hFc (fun r11 u t H locs ht hvm hw hB hz1 hk1 hS => ?_)
        obtain ⟨b1, b2, b3⟩ := hB
        rw [ht] at b1
        obtain ⟨hP, hD, hK⟩ := JOINC (wc := (List.flatten ([(oX4 (p0a 0) p0a p0k p0w_114 p0l)] : List va_W))) (wr := (List.flatten ([(oX6 (p1a 0) p1a p1k p1w p1l), (oX1 (p3a 0) p3a p3k p3n p3w_114 p3l), (oX9 (p3a 3) (st1 (st1 (st1 (st1 (st1 p3_2a 2 xp3_2_1_114) 3 xp3_2_2_114) 4 xp3_2_3_114) 5 xp3_2_4_114) 6 xp3_2_5_114) (st1 (st1 (st1 (st1 (st1 p3_2k 2 zp3_2_1_114) 3 zp3_2_2_114) 4 zp3_2_3_114) 5 zp3_2_4_114) 6 zp3_2_5_114) p3_2n_114 p3_2w_114)] : List va_W))) (w1 := (List.flatten ([(oX4 (p0a 0) p0a p0k p0w_114 p0l)] : List va_W))) (t1 := (List.flatten ([(tX4 p0k)] : List (List (ClassId × FieldType))))) hPx hDx hKx hk1 hFc b1 (va_K.moved hvm.symm b2) b3
        have hP : va_P (dC, dI) cls (List.flatten ([(oX4 (p0a 0) p0a p0k p0w_114 p0l), (oX6 (p1a 0) p1a p1k p1w p1l), (oX1 (p3a 0) p3a p3k p3n p3w_114 p3l), (oX9 (p3a 3) (st1 (st1 (st1 (st1 (st1 p3_2a 2 xp3_2_1_114) 3 xp3_2_2_114) 4 xp3_2_3_114) 5 xp3_2_4_114) 6 xp3_2_5_114) (st1 (st1 (st1 (st1 (st1 p3_2k 2 zp3_2_1_114) 3 zp3_2_2_114) 4 zp3_2_3_114) 5 zp3_2_4_114) 6 zp3_2_5_114) p3_2n_114 p3_2w_114)] : List va_W)) H := vP_perm (vP_fb hP) (bP (List.Perm.refl _))
        have hD : va_D A (List.flatten ([(oX4 (p0a 0) p0a p0k p0w_114 p0l), (oX6 (p1a 0) p1a p1k p1w p1l), (oX1 (p3a 0) p3a p3k p3n p3w_114 p3l), (oX9 (p3a 3) (st1 (st1 (st1 (st1 (st1 p3_2a 2 xp3_2_1_114) 3 xp3_2_2_114) 4 xp3_2_3_114) 5 xp3_2_4_114) 6 xp3_2_5_114) (st1 (st1 (st1 (st1 (st1 p3_2k 2 zp3_2_1_114) 3 zp3_2_2_114) 4 zp3_2_3_114) 5 zp3_2_4_114) 6 zp3_2_5_114) p3_2n_114 p3_2w_114)] : List va_W)) := vD_perm (vD_fb hD) (bP (List.Perm.refl _))
        have hK : va_K (dC, dI) cls (List.flatten ([(tX4 p0k), (tX6 p1k), (tX1 p3k), (tX9 (st1 (st1 (st1 (st1 (st1 p3_2k 2 zp3_2_1_114) 3 zp3_2_2_114) 4 zp3_2_3_114) 5 zp3_2_4_114) 6 zp3_2_5_114))] : List (List (ClassId × FieldType)))) s := vK_perm (vK_fb hK) (bP (List.Perm.refl _))
        obtain rfl : o_10 = r11 := hw.symm
        rcases br9 hrun with ⟨hc12, hrun⟩ | ⟨hc12, hrun⟩
        · refine lv_icmp_ge (tgt := 274) hx hb dX4_fillBlock_122 (by decide) (fun _ => ?_) (fun c => absurd hc12 c)
          obtain rfl := (Option.some.inj hrun)
          exact hk114 xp3_2_1_114 zp3_2_1_114 xp3_2_2_114 zp3_2_2_114 xp3_2_3_114 zp3_2_3_114 xp3_2_4_114 zp3_2_4_114 xp3_2_5_114 zp3_2_5_114 _ _ _ hP hD hK hS (lv_sub hl [] rfl) hg_p3_2
        · refine lv_icmp_ge (tgt := 274) hx hb dX4_fillBlock_122 (by decide) (fun c => absurd c hc12) (fun _ => ?_)
          refine lv_aload_n hx hb dX4_fillBlock_125 rfl (lv_at hl 1 rfl) ?_
          refine va_get (D := (dC, dI)) (ci := 2) (v := .ref (p1a 10)) (C := RX6) (T := TX6) (N := 13) hx hb hts i_X6 hown hK hP 19 rfl rfl 9 (by decide) (hts _ qw265) (fun _ h9 => h9) rfl dX4_fillBlock_126 ?_
          refine lv_iload hx hb dX4_fillBlock_129 (lv_at hl 5 rfl) ?_
          obtain ⟨hq13, hrun⟩ := chk9 hrun
          refine va_iald hx hb hK hP 27 25 rfl rfl (ixb_in hq13) dX4_fillBlock_131 ?_
          refine lv_istore (lv' := [(7, .int (p1w 10 (nn v6_114))), (0, .ref (p0a 0)), (1, .ref (p1a 0)), (3, .ref (p3a 0)), (4, .int p4), (5, .int (p4 * 320)), (6, .int v6_114)]) hx hb dX4_fillBlock_132 hl (by decide) rfl (fun ls hl => ?_)
          refine lv_aload_n hx hb dX4_fillBlock_134 rfl (lv_at hl 2 rfl) ?_
          refine va_get (D := (dC, dI)) (ci := 2) (v := .ref (p1a 9)) (C := RX6) (T := TX6) (N := 13) hx hb hts i_X6 hown hK hP 19 rfl rfl 8 (by decide) (hts _ qw263) (fun _ h9 => h9) rfl dX4_fillBlock_135 ?_
          refine lv_iload hx hb dX4_fillBlock_138 (lv_at hl 6 rfl) ?_
          obtain ⟨hq14, hrun⟩ := chk9 hrun
          refine va_iald hx hb hK hP 26 24 rfl rfl (ixb_in hq14) dX4_fillBlock_140 ?_
          have J268 : ∀ (p0w_268 : ST) (p3w_268 : ST) (p3_2w_268 : ST) (p3_2n_268 : Nat → Nat) (xp3_2_1_268 : Nat) (zp3_2_1_268 : ClassId) (xp3_2_2_268 : Nat) (zp3_2_2_268 : ClassId) (xp3_2_3_268 : Nat) (zp3_2_3_268 : ClassId) (xp3_2_4_268 : Nat) (zp3_2_4_268 : ClassId) (xp3_2_5_268 : Nat) (zp3_2_5_268 : ClassId) (H : Heap) (locs : List Loc) (ls : Array Slot), (fX4_fillBlock_J268 (fX4_fillBlock_L114 p1w p4 n_114) v6_114 p0w_268 p3w_268 p3_2w_268 p3_2n_268) = some o114 → va_P (dC, dI) cls (List.flatten ([(oX4 (p0a 0) p0a p0k p0w_268 p0l), (oX6 (p1a 0) p1a p1k p1w p1l), (oX1 (p3a 0) p3a p3k p3n p3w_268 p3l), (oX9 (p3a 3) (st1 (st1 (st1 (st1 (st1 p3_2a 2 xp3_2_1_268) 3 xp3_2_2_268) 4 xp3_2_3_268) 5 xp3_2_4_268) 6 xp3_2_5_268) (st1 (st1 (st1 (st1 (st1 p3_2k 2 zp3_2_1_268) 3 zp3_2_2_268) 4 zp3_2_3_268) 5 zp3_2_4_268) 6 zp3_2_5_268) p3_2n_268 p3_2w_268)] : List va_W)) H → va_D A (List.flatten ([(oX4 (p0a 0) p0a p0k p0w_268 p0l), (oX6 (p1a 0) p1a p1k p1w p1l), (oX1 (p3a 0) p3a p3k p3n p3w_268 p3l), (oX9 (p3a 3) (st1 (st1 (st1 (st1 (st1 p3_2a 2 xp3_2_1_268) 3 xp3_2_2_268) 4 xp3_2_3_268) 5 xp3_2_4_268) 6 xp3_2_5_268) (st1 (st1 (st1 (st1 (st1 p3_2k 2 zp3_2_1_268) 3 zp3_2_2_268) 4 zp3_2_3_268) 5 zp3_2_4_268) 6 zp3_2_5_268) p3_2n_268 p3_2w_268)] : List va_W)) → va_K (dC, dI) cls (List.flatten ([(tX4 p0k), (tX6 p1k), (tX1 p3k), (tX9 (st1 (st1 (st1 (st1 (st1 p3_2k 2 zp3_2_1_268) 3 zp3_2_2_268) 4 zp3_2_3_268) 5 zp3_2_4_268) 6 zp3_2_5_268))] : List (List (ClassId × FieldType)))) s → va_S A s.heap H locs → lv_has ls 8 [(0, .ref (p0a 0)), (1, .ref (p1a 0)), (3, .ref (p3a 0)), (4, .int p4), (5, .int (p4 * 320)), (6, .int v6_114)] → glX9 p3_2n p3_2n_268 → W p l e ({ frames := 5, cells := (hcX9 p3_2n (o.2.2.2)), slots := (3 * (gcX9 p3_2n (o.2.2.2))), locals := 141 } : Room) s m ([.ref (p0a 0), .ref (p1a 0), .int p2, .ref (p3a 0), .int p4] : List Value).toArray below meth c H locs (hcX9 p3_2n p3_2n_268) (3 * (gcX9 p3_2n p3_2n_268)) Q (F0 m 268 ls []) := by
            intro p0w_268 p3w_268 p3_2w_268 p3_2n_268 xp3_2_1_268 zp3_2_1_268 xp3_2_2_268 zp3_2_2_268 xp3_2_3_268 zp3_2_3_268 xp3_2_4_268 zp3_2_4_268 xp3_2_5_268 zp3_2_5_268 H locs ls hrun hP hD hK hS hl hg_p3_2 
            have hgn_p3_2 : glX9 p3_2n_268 (o.2.2.2) := (glX9_tr (mo_fX4_fillBlock_J268 (mo_fX4_fillBlock_L114 n_114) hrun) hgo_p3_2)
            unfold fX4_fillBlock_J268 at hrun
            refine lv_iinc (v := (v6_114 + 1)) (lv' := [(6, .int (v6_114 + 1)), (0, .ref (p0a 0)), (1, .ref (p1a 0)), (3, .ref (p3a 0)), (4, .int p4), (5, .int (p4 * 320))]) hx hb dX4_fillBlock_268 hl (k := 5) rfl rfl (by decide) rfl (fun ls hl => ?_)
            refine lv_goto (tgt := 114) hx hb dX4_fillBlock_271 (by decide) ?_
            exact IH114 (v6_114 + 1) p0w_268 p3w_268 p3_2w_268 p3_2n_268 xp3_2_1_268 zp3_2_1_268 xp3_2_2_268 zp3_2_2_268 xp3_2_3_268 zp3_2_3_268 xp3_2_4_268 zp3_2_4_268 xp3_2_5_268 zp3_2_5_268 o114 _ _ _ hrun hP hD hK hS (lv_sub hl [1, 2, 3, 4, 5, 0] rfl) hg_p3_2 hgo_p3_2 hk114
          have J204 : ∀ (H : Heap) (locs : List Loc) (ls : Array Slot), (fX4_fillBlock_J204 (fX4_fillBlock_L114 p1w p4 n_114) p1w p4 v6_114 p0w_114 p3w_114 p3_2w_114 p3_2n_114) = some o114 → va_P (dC, dI) cls (List.flatten ([(oX4 (p0a 0) p0a p0k p0w_114 p0l), (oX6 (p1a 0) p1a p1k p1w p1l), (oX1 (p3a 0) p3a p3k p3n p3w_114 p3l), (oX9 (p3a 3) (st1 (st1 (st1 (st1 (st1 p3_2a 2 xp3_2_1_114) 3 xp3_2_2_114) 4 xp3_2_3_114) 5 xp3_2_4_114) 6 xp3_2_5_114) (st1 (st1 (st1 (st1 (st1 p3_2k 2 zp3_2_1_114) 3 zp3_2_2_114) 4 zp3_2_3_114) 5 zp3_2_4_114) 6 zp3_2_5_114) p3_2n_114 p3_2w_114)] : List va_W)) H → va_D A (List.flatten ([(oX4 (p0a 0) p0a p0k p0w_114 p0l), (oX6 (p1a 0) p1a p1k p1w p1l), (oX1 (p3a 0) p3a p3k p3n p3w_114 p3l), (oX9 (p3a 3) (st1 (st1 (st1 (st1 (st1 p3_2a 2 xp3_2_1_114) 3 xp3_2_2_114) 4 xp3_2_3_114) 5 xp3_2_4_114) 6 xp3_2_5_114) (st1 (st1 (st1 (st1 (st1 p3_2k 2 zp3_2_1_114) 3 zp3_2_2_114) 4 zp3_2_3_114) 5 zp3_2_4_114) 6 zp3_2_5_114) p3_2n_114 p3_2w_114)] : List va_W)) → va_K (dC, dI) cls (List.flatten ([(tX4 p0k), (tX6 p1k), (tX1 p3k), (tX9 (st1 (st1 (st1 (st1 (st1 p3_2k 2 zp3_2_1_114) 3 zp3_2_2_114) 4 zp3_2_3_114) 5 zp3_2_4_114) 6 zp3_2_5_114))] : List (List (ClassId × FieldType)))) s → va_S A s.heap H locs → lv_has ls 8 [(0, .ref (p0a 0)), (1, .ref (p1a 0)), (3, .ref (p3a 0)), (4, .int p4), (5, .int (p4 * 320)), (6, .int v6_114), (7, .int (p1w 10 (nn v6_114)))] → glX9 p3_2n p3_2n_114 → W p l e ({ frames := 5, cells := (hcX9 p3_2n (o.2.2.2)), slots := (3 * (gcX9 p3_2n (o.2.2.2))), locals := 141 } : Room) s m ([.ref (p0a 0), .ref (p1a 0), .int p2, .ref (p3a 0), .int p4] : List Value).toArray below meth c H locs (hcX9 p3_2n p3_2n_114) (3 * (gcX9 p3_2n p3_2n_114)) Q (F0 m 204 ls []) := by
            intro  H locs ls hrun hP hD hK hS hl hg_p3_2 
            have hgn_p3_2 : glX9 p3_2n_114 (o.2.2.2) := (glX9_tr (mo_fX4_fillBlock_J204 (mo_fX4_fillBlock_L114 n_114) hrun) hgo_p3_2)
            unfold fX4_fillBlock_J204 at hrun
            refine lv_aload_n hx hb dX4_fillBlock_204 rfl (lv_at hl 0 rfl) ?_
            refine va_get (D := (dC, dI)) (ci := 6) (v := .ref (p0a 20)) (C := RX4) (T := TX4) (N := 20) hx hb hts i_X4 hown hK hP 0 rfl rfl 19 (by decide) (hts _ qw275) (fun _ h9 => h9) rfl dX4_fillBlock_205 ?_
            refine lv_iload hx hb dX4_fillBlock_208 (lv_at hl 4 rfl) ?_
            refine lv_iload hx hb dX4_fillBlock_210 (lv_at hl 6 rfl) ?_
            refine lv_iadd hx hb dX4_fillBlock_212 ?_
            refine lv_aload_n hx hb dX4_fillBlock_213 rfl (lv_at hl 0 rfl) ?_
            refine lv_aload_n hx hb dX4_fillBlock_214 rfl (lv_at hl 0 rfl) ?_
            refine va_get (D := (dC, dI)) (ci := 6) (v := .ref (p0a 2)) (C := RX4) (T := TX4) (N := 20) hx hb hts i_X4 hown hK hP 0 rfl rfl 1 (by decide) (hts _ qw296) (fun _ h9 => h9) rfl dX4_fillBlock_215 ?_
            refine lv_iload hx hb dX4_fillBlock_218 (lv_at hl 5 rfl) ?_
            obtain ⟨hq15, hrun⟩ := chk9 hrun
            refine va_iald hx hb hK hP 1 0 rfl rfl (ixb_in hq15) dX4_fillBlock_220 ?_
            obtain ⟨o_16, hc_16, hrun⟩ := bnd9 hrun
            have hPx : va_P (dC, dI) cls ((List.flatten ([(oX4 (p0a 0) p0a p0k p0w_114 p0l)] : List va_W)) ++ (List.flatten ([(oX6 (p1a 0) p1a p1k p1w p1l), (oX1 (p3a 0) p3a p3k p3n p3w_114 p3l), (oX9 (p3a 3) (st1 (st1 (st1 (st1 (st1 p3_2a 2 xp3_2_1_114) 3 xp3_2_2_114) 4 xp3_2_3_114) 5 xp3_2_4_114) 6 xp3_2_5_114) (st1 (st1 (st1 (st1 (st1 p3_2k 2 zp3_2_1_114) 3 zp3_2_2_114) 4 zp3_2_3_114) 5 zp3_2_4_114) 6 zp3_2_5_114) p3_2n_114 p3_2w_114)] : List va_W))) H := vP_fa (vP_perm hP (bP (List.Perm.refl _)))
            have hDx : va_D A ((List.flatten ([(oX4 (p0a 0) p0a p0k p0w_114 p0l)] : List va_W)) ++ (List.flatten ([(oX6 (p1a 0) p1a p1k p1w p1l), (oX1 (p3a 0) p3a p3k p3n p3w_114 p3l), (oX9 (p3a 3) (st1 (st1 (st1 (st1 (st1 p3_2a 2 xp3_2_1_114) 3 xp3_2_2_114) 4 xp3_2_3_114) 5 xp3_2_4_114) 6 xp3_2_5_114) (st1 (st1 (st1 (st1 (st1 p3_2k 2 zp3_2_1_114) 3 zp3_2_2_114) 4 zp3_2_3_114) 5 zp3_2_4_114) 6 zp3_2_5_114) p3_2n_114 p3_2w_114)] : List va_W))) := vD_fa (vD_perm hD (bP (List.Perm.refl _)))
            have hKx : va_K (dC, dI) cls ((List.flatten ([(tX4 p0k)] : List (List (ClassId × FieldType)))) ++ (List.flatten ([(tX6 p1k), (tX1 p3k), (tX9 (st1 (st1 (st1 (st1 (st1 p3_2k 2 zp3_2_1_114) 3 zp3_2_2_114) 4 zp3_2_3_114) 5 zp3_2_4_114) 6 zp3_2_5_114))] : List (List (ClassId × FieldType))))) s := vK_fa (vK_perm hK (bP (List.Perm.refl _)))
            have hPc := vP_l hPx
            have hDc := vD_l hDx
            have hKc := vK_l hKx
            have hFc := vfree hDx hS hA
            refine va_calli (va_runV (As := [.int (p0w_114 2 (nn v6_114))]) (rest := [.int ((p4 * 320) + (p1w 10 (nn v6_114))), .ref (p0a 20)]) ⟨hx, hb, hml, hown, hts⟩ (kX4_valueAt l dC dI (p0a := p0a) (p0k := p0k) (p0w := p0w_114) (p0l := p0l) (p1 := (p0w_114 2 (nn v6_114))) (sz := _) (o := o_16) (hrun := hc_16)) (cwV 1 hts (gi_V qw298 qw299 qw300 qw270 (gi_z qw297)) rfl rfl rfl (by decide +kernel) ⟨Nat.le_of_ble_eq_true rfl, Nat.le_of_ble_eq_true rfl⟩) ⟨PRE.blind, va_recv hKc hPc (ci := 6) (q0 := 0) rfl rfl, PRE.of hE hS hFc hPc hKc hDc⟩ rfl rfl hl.1 rfl (lv_room (Nat.le_of_ble_eq_true rfl)) dX4_fillBlock_221 ⟨(show (hcX9 p3_2n p3_2n_114) + 0 ≤ (hcX9 p3_2n (o.2.2.2)) from by have q0 := gmX9 hg_p3_2 hgn_p3_2; omega), (show (3 * (gcX9 p3_2n p3_2n_114)) + 0 ≤ (3 * (gcX9 p3_2n (o.2.2.2))) from by have q0 := gmX9 hg_p3_2 hgn_p3_2; omega)⟩) hS (fun q _ h => hFc q h) hFc (fun r17 u t H locs ht hvm hw hB hz1 hk1 hS => ?_)
            obtain ⟨b1, b2, b3⟩ := hB
            rw [ht] at b1
            obtain ⟨hP, hD, hK⟩ := JOINC (wc := (List.flatten ([(oX4 (p0a 0) p0a p0k p0w_114 p0l)] : List va_W))) (wr := (List.flatten ([(oX6 (p1a 0) p1a p1k p1w p1l), (oX1 (p3a 0) p3a p3k p3n p3w_114 p3l), (oX9 (p3a 3) (st1 (st1 (st1 (st1 (st1 p3_2a 2 xp3_2_1_114) 3 xp3_2_2_114) 4 xp3_2_3_114) 5 xp3_2_4_114) 6 xp3_2_5_114) (st1 (st1 (st1 (st1 (st1 p3_2k 2 zp3_2_1_114) 3 zp3_2_2_114) 4 zp3_2_3_114) 5 zp3_2_4_114) 6 zp3_2_5_114) p3_2n_114 p3_2w_114)] : List va_W))) (w1 := (List.flatten ([(oX4 (p0a 0) p0a p0k p0w_114 p0l)] : List va_W))) (t1 := (List.flatten ([(tX4 p0k)] : List (List (ClassId × FieldType))))) hPx hDx hKx hk1 hFc b1 (va_K.moved hvm.symm b2) b3
            have hP : va_P (dC, dI) cls (List.flatten ([(oX4 (p0a 0) p0a p0k p0w_114 p0l), (oX6 (p1a 0) p1a p1k p1w p1l), (oX1 (p3a 0) p3a p3k p3n p3w_114 p3l), (oX9 (p3a 3) (st1 (st1 (st1 (st1 (st1 p3_2a 2 xp3_2_1_114) 3 xp3_2_2_114) 4 xp3_2_3_114) 5 xp3_2_4_114) 6 xp3_2_5_114) (st1 (st1 (st1 (st1 (st1 p3_2k 2 zp3_2_1_114) 3 zp3_2_2_114) 4 zp3_2_3_114) 5 zp3_2_4_114) 6 zp3_2_5_114) p3_2n_114 p3_2w_114)] : List va_W)) H := vP_perm (vP_fb hP) (bP (List.Perm.refl _))
            have hD : va_D A (List.flatten ([(oX4 (p0a 0) p0a p0k p0w_114 p0l), (oX6 (p1a 0) p1a p1k p1w p1l), (oX1 (p3a 0) p3a p3k p3n p3w_114 p3l), (oX9 (p3a 3) (st1 (st1 (st1 (st1 (st1 p3_2a 2 xp3_2_1_114) 3 xp3_2_2_114) 4 xp3_2_3_114) 5 xp3_2_4_114) 6 xp3_2_5_114) (st1 (st1 (st1 (st1 (st1 p3_2k 2 zp3_2_1_114) 3 zp3_2_2_114) 4 zp3_2_3_114) 5 zp3_2_4_114) 6 zp3_2_5_114) p3_2n_114 p3_2w_114)] : List va_W)) := vD_perm (vD_fb hD) (bP (List.Perm.refl _))
            have hK : va_K (dC, dI) cls (List.flatten ([(tX4 p0k), (tX6 p1k), (tX1 p3k), (tX9 (st1 (st1 (st1 (st1 (st1 p3_2k 2 zp3_2_1_114) 3 zp3_2_2_114) 4 zp3_2_3_114) 5 zp3_2_4_114) 6 zp3_2_5_114))] : List (List (ClassId × FieldType)))) s := vK_perm (vK_fb hK) (bP (List.Perm.refl _))
            obtain rfl : o_16 = r17 := hw.symm
            obtain ⟨hq18, hrun⟩ := chk9 hrun
            refine va_iast hx hb hK hP hD hS 18 17 rfl rfl (ixb_in hq18) dX4_fillBlock_224 (fun H locs hP hD hS => ?_)
            have hP : va_P (dC, dI) cls (List.flatten ([(oX4 (p0a 0) p0a p0k (upw p0w_114 20 (nn ((p4 * 320) + (p1w 10 (nn v6_114)))) o_16) p0l), (oX6 (p1a 0) p1a p1k p1w p1l), (oX1 (p3a 0) p3a p3k p3n p3w_114 p3l), (oX9 (p3a 3) (st1 (st1 (st1 (st1 (st1 p3_2a 2 xp3_2_1_114) 3 xp3_2_2_114) 4 xp3_2_3_114) 5 xp3_2_4_114) 6 xp3_2_5_114) (st1 (st1 (st1 (st1 (st1 p3_2k 2 zp3_2_1_114) 3 zp3_2_2_114) 4 zp3_2_3_114) 5 zp3_2_4_114) 6 zp3_2_5_114) p3_2n_114 p3_2w_114)] : List va_W)) H := hP
            have hD : va_D A (List.flatten ([(oX4 (p0a 0) p0a p0k (upw p0w_114 20 (nn ((p4 * 320) + (p1w 10 (nn v6_114)))) o_16) p0l), (oX6 (p1a 0) p1a p1k p1w p1l), (oX1 (p3a 0) p3a p3k p3n p3w_114 p3l), (oX9 (p3a 3) (st1 (st1 (st1 (st1 (st1 p3_2a 2 xp3_2_1_114) 3 xp3_2_2_114) 4 xp3_2_3_114) 5 xp3_2_4_114) 6 xp3_2_5_114) (st1 (st1 (st1 (st1 (st1 p3_2k 2 zp3_2_1_114) 3 zp3_2_2_114) 4 zp3_2_3_114) 5 zp3_2_4_114) 6 zp3_2_5_114) p3_2n_114 p3_2w_114)] : List va_W)) := hD
            obtain ⟨w19, ew19, hrun⟩ := let9 hrun
            rw [← ew19] at hP hD
            refine lv_goto (tgt := 268) hx hb dX4_fillBlock_225 (by decide) ?_
            exact J268 w19 p3w_114 p3_2w_114 p3_2n_114 xp3_2_1_114 zp3_2_1_114 xp3_2_2_114 zp3_2_2_114 xp3_2_3_114 zp3_2_3_114 xp3_2_4_114 zp3_2_4_114 xp3_2_5_114 zp3_2_5_114 _ _ _ hrun hP hD hK hS (lv_sub hl [0, 1, 2, 3, 4, 5] rfl) hg_p3_2
          rcases br9 hrun with ⟨hc20, hrun⟩ | ⟨hc20, hrun⟩
          · refine lv_lookup (off := 87) (tgt := 228) hx hb dX4_fillBlock_141 (by decide) (by rw [hc20]; decide) (by decide) ?_
            refine lv_aload_n hx hb dX4_fillBlock_228 rfl (lv_at hl 1 rfl) ?_
            refine va_get (D := (dC, dI)) (ci := 6) (v := .ref (p0a 20)) (C := RX4) (T := TX4) (N := 20) hx hb hts i_X4 hown hK hP 0 rfl rfl 19 (by decide) (hts _ qw275) (fun _ h9 => h9) rfl dX4_fillBlock_229 ?_
            refine lv_iload hx hb dX4_fillBlock_232 (lv_at hl 5 rfl) ?_
            refine lv_iload hx hb dX4_fillBlock_234 (lv_at hl 0 rfl) ?_
            refine lv_iadd hx hb dX4_fillBlock_236 ?_
            refine lv_aload_n hx hb dX4_fillBlock_237 rfl (lv_at hl 1 rfl) ?_
            refine va_get (D := (dC, dI)) (ci := 6) (v := .ref (p0a 4)) (C := RX4) (T := TX4) (N := 20) hx hb hts i_X4 hown hK hP 0 rfl rfl 3 (by decide) (hts _ qw295) (fun _ h9 => h9) rfl dX4_fillBlock_238 ?_
            refine lv_iload hx hb dX4_fillBlock_241 (lv_at hl 6 rfl) ?_
            obtain ⟨hq21, hrun⟩ := chk9 hrun
            refine va_iald hx hb hK hP 3 2 rfl rfl (ixb_in hq21) dX4_fillBlock_243 ?_
            obtain ⟨hq22, hrun⟩ := chk9 hrun
            refine va_iast hx hb hK hP hD hS 18 17 rfl rfl (ixb_in hq22) dX4_fillBlock_244 (fun H locs hP hD hS => ?_)
            have hP : va_P (dC, dI) cls (List.flatten ([(oX4 (p0a 0) p0a p0k (upw p0w_114 20 (nn ((p4 * 320) + (p1w 10 (nn v6_114)))) (p0w_114 4 (nn v6_114))) p0l), (oX6 (p1a 0) p1a p1k p1w p1l), (oX1 (p3a 0) p3a p3k p3n p3w_114 p3l), (oX9 (p3a 3) (st1 (st1 (st1 (st1 (st1 p3_2a 2 xp3_2_1_114) 3 xp3_2_2_114) 4 xp3_2_3_114) 5 xp3_2_4_114) 6 xp3_2_5_114) (st1 (st1 (st1 (st1 (st1 p3_2k 2 zp3_2_1_114) 3 zp3_2_2_114) 4 zp3_2_3_114) 5 zp3_2_4_114) 6 zp3_2_5_114) p3_2n_114 p3_2w_114)] : List va_W)) H := hP
            have hD : va_D A (List.flatten ([(oX4 (p0a 0) p0a p0k (upw p0w_114 20 (nn ((p4 * 320) + (p1w 10 (nn v6_114)))) (p0w_114 4 (nn v6_114))) p0l), (oX6 (p1a 0) p1a p1k p1w p1l), (oX1 (p3a 0) p3a p3k p3n p3w_114 p3l), (oX9 (p3a 3) (st1 (st1 (st1 (st1 (st1 p3_2a 2 xp3_2_1_114) 3 xp3_2_2_114) 4 xp3_2_3_114) 5 xp3_2_4_114) 6 xp3_2_5_114) (st1 (st1 (st1 (st1 (st1 p3_2k 2 zp3_2_1_114) 3 zp3_2_2_114) 4 zp3_2_3_114) 5 zp3_2_4_114) 6 zp3_2_5_114) p3_2n_114 p3_2w_114)] : List va_W)) := hD
            obtain ⟨w23, ew23, hrun⟩ := let9 hrun
            rw [← ew23] at hP hD
            refine lv_aload_n hx hb dX4_fillBlock_245 rfl (lv_at hl 1 rfl) ?_
            refine lv_aload_n hx hb dX4_fillBlock_246 rfl (lv_at hl 2 rfl) ?_
            refine lv_aload_n hx hb dX4_fillBlock_247 rfl (lv_at hl 3 rfl) ?_
            refine lv_iload hx hb dX4_fillBlock_248 (lv_at hl 4 rfl) ?_
            refine lv_iload hx hb dX4_fillBlock_250 (lv_at hl 6 rfl) ?_
            obtain ⟨o_24, hc_24, hrun⟩ := bnd9 hrun
            have hPx : va_P (dC, dI) cls ((List.flatten ([(oX4 (p0a 0) p0a p0k w23 p0l), (oX6 (p1a 0) p1a p1k p1w p1l), (oX1 (p3a 0) p3a p3k p3n p3w_114 p3l), (oX9 (p3a 3) (st1 (st1 (st1 (st1 (st1 p3_2a 2 xp3_2_1_114) 3 xp3_2_2_114) 4 xp3_2_3_114) 5 xp3_2_4_114) 6 xp3_2_5_114) (st1 (st1 (st1 (st1 (st1 p3_2k 2 zp3_2_1_114) 3 zp3_2_2_114) 4 zp3_2_3_114) 5 zp3_2_4_114) 6 zp3_2_5_114) p3_2n_114 p3_2w_114)] : List va_W)) ++ (List.flatten ([] : List va_W))) H := vP_fa (vP_perm hP (bP (List.Perm.refl _)))
            have hDx : va_D A ((List.flatten ([(oX4 (p0a 0) p0a p0k w23 p0l), (oX6 (p1a 0) p1a p1k p1w p1l), (oX1 (p3a 0) p3a p3k p3n p3w_114 p3l), (oX9 (p3a 3) (st1 (st1 (st1 (st1 (st1 p3_2a 2 xp3_2_1_114) 3 xp3_2_2_114) 4 xp3_2_3_114) 5 xp3_2_4_114) 6 xp3_2_5_114) (st1 (st1 (st1 (st1 (st1 p3_2k 2 zp3_2_1_114) 3 zp3_2_2_114) 4 zp3_2_3_114) 5 zp3_2_4_114) 6 zp3_2_5_114) p3_2n_114 p3_2w_114)] : List va_W)) ++ (List.flatten ([] : List va_W))) := vD_fa (vD_perm hD (bP (List.Perm.refl _)))
            have hKx : va_K (dC, dI) cls ((List.flatten ([(tX4 p0k), (tX6 p1k), (tX1 p3k), (tX9 (st1 (st1 (st1 (st1 (st1 p3_2k 2 zp3_2_1_114) 3 zp3_2_2_114) 4 zp3_2_3_114) 5 zp3_2_4_114) 6 zp3_2_5_114))] : List (List (ClassId × FieldType)))) ++ (List.flatten ([] : List (List (ClassId × FieldType))))) s := vK_fa (vK_perm hK (bP (List.Perm.refl _)))
            have hPc := vP_l hPx
            have hDc := vD_l hDx
            have hKc := vK_l hKx
            have hFc := vfree hDx hS hA
            have hgn_p3_2 : glX9 (o_24.2.2) (o.2.2.2) := (glX9_tr (mo_fX4_fillBlock_G255_35 (mo_fX4_fillBlock_L114 n_114) hrun) hgo_p3_2)
            refine va_callv (va_runV (As := [.ref (p1a 0), .ref (p3a 0), .int p4, .int v6_114]) (rest := []) ⟨hx, hb, hml, hown, hts⟩ (kX4_fillStep l dC dI (p0a := p0a) (p0k := p0k) (p0w := w23) (p0l := p0l) (p1a := p1a) (p1k := p1k) (p1w := p1w) (p1l := p1l) (p2a := p3a) (p2k := p3k) (p2n := p3n) (p2w := p3w_114) (p2l := p3l) (p3 := p4) (p4 := v6_114) (p2_2a := (st1 (st1 (st1 (st1 (st1 p3_2a 2 xp3_2_1_114) 3 xp3_2_2_114) 4 xp3_2_3_114) 5 xp3_2_4_114) 6 xp3_2_5_114)) (p2_2k := (st1 (st1 (st1 (st1 (st1 p3_2k 2 zp3_2_1_114) 3 zp3_2_2_114) 4 zp3_2_3_114) 5 zp3_2_4_114) 6 zp3_2_5_114)) (p2_2n := p3_2n_114) (p2_2w := p3_2w_114) (sz := _) (o := o_24) (hrun := hc_24)) (cwV 4 hts (gi_V qw307 qw308 qw309 qw270 (gi_z qw306)) rfl rfl rfl (by decide +kernel) ⟨Nat.le_of_ble_eq_true rfl, Nat.le_of_ble_eq_true rfl⟩) ⟨PRE.blind, va_recv hKc hPc (ci := 6) (q0 := 0) rfl rfl, PRE.of hE hS hFc hPc hKc hDc⟩ rfl rfl hl.1 rfl (lv_room (Nat.le_of_ble_eq_true rfl)) dX4_fillBlock_252 ⟨(show (hcX9 p3_2n p3_2n_114) + (hcX9 p3_2n_114 (o_24.2.2)) ≤ (hcX9 p3_2n (o.2.2.2)) from by have q0 := gsX9 hg_p3_2 (mo_fX4_fillStep hc_24) hgn_p3_2; omega), (show (3 * (gcX9 p3_2n p3_2n_114)) + (3 * (gcX9 p3_2n_114 (o_24.2.2))) ≤ (3 * (gcX9 p3_2n (o.2.2.2))) from by have q0 := gsX9 hg_p3_2 (mo_fX4_fillStep hc_24) hgn_p3_2; omega)⟩) hS (fun q _ h => hFc q h) hFc (fun u t H locs ht hvm hw hB hz1 hk1 hS => ?_)
            obtain ⟨x25, z26, x27, z28, x29, z30, x31, z32, x33, z34, hB⟩ := hB
            obtain ⟨b1, b2, b3⟩ := hB
            rw [ht] at b1
            obtain ⟨hP, hD, hK⟩ := JOINC (wc := (List.flatten ([(oX4 (p0a 0) p0a p0k w23 p0l), (oX6 (p1a 0) p1a p1k p1w p1l), (oX1 (p3a 0) p3a p3k p3n p3w_114 p3l), (oX9 (p3a 3) (st1 (st1 (st1 (st1 (st1 p3_2a 2 xp3_2_1_114) 3 xp3_2_2_114) 4 xp3_2_3_114) 5 xp3_2_4_114) 6 xp3_2_5_114) (st1 (st1 (st1 (st1 (st1 p3_2k 2 zp3_2_1_114) 3 zp3_2_2_114) 4 zp3_2_3_114) 5 zp3_2_4_114) 6 zp3_2_5_114) p3_2n_114 p3_2w_114)] : List va_W))) (wr := (List.flatten ([] : List va_W))) (w1 := (List.flatten ([(oX4 (p0a 0) p0a p0k w23 p0l), (oX6 (p1a 0) p1a p1k p1w p1l), (oX1 (p3a 0) p3a p3k p3n (o_24.1) p3l), (oX9 (p3a 3) (st1 (st1 (st1 (st1 (st1 p3_2a 2 x25) 3 x27) 4 x29) 5 x31) 6 x33) (st1 (st1 (st1 (st1 (st1 p3_2k 2 z26) 3 z28) 4 z30) 5 z32) 6 z34) (o_24.2.2) (o_24.2.1))] : List va_W))) (t1 := (List.flatten ([(tX4 p0k), (tX6 p1k), (tX1 p3k), (tX9 (st1 (st1 (st1 (st1 (st1 p3_2k 2 z26) 3 z28) 4 z30) 5 z32) 6 z34))] : List (List (ClassId × FieldType))))) hPx hDx hKx hk1 hFc b1 (va_K.moved hvm.symm b2) b3
            have hP : va_P (dC, dI) cls (List.flatten ([(oX4 (p0a 0) p0a p0k w23 p0l), (oX6 (p1a 0) p1a p1k p1w p1l), (oX1 (p3a 0) p3a p3k p3n (o_24.1) p3l), (oX9 (p3a 3) (st1 (st1 (st1 (st1 (st1 p3_2a 2 x25) 3 x27) 4 x29) 5 x31) 6 x33) (st1 (st1 (st1 (st1 (st1 p3_2k 2 z26) 3 z28) 4 z30) 5 z32) 6 z34) (o_24.2.2) (o_24.2.1))] : List va_W)) H := vP_perm (vP_fb hP) (bP (List.Perm.refl _))
            have hD : va_D A (List.flatten ([(oX4 (p0a 0) p0a p0k w23 p0l), (oX6 (p1a 0) p1a p1k p1w p1l), (oX1 (p3a 0) p3a p3k p3n (o_24.1) p3l), (oX9 (p3a 3) (st1 (st1 (st1 (st1 (st1 p3_2a 2 x25) 3 x27) 4 x29) 5 x31) 6 x33) (st1 (st1 (st1 (st1 (st1 p3_2k 2 z26) 3 z28) 4 z30) 5 z32) 6 z34) (o_24.2.2) (o_24.2.1))] : List va_W)) := vD_perm (vD_fb hD) (bP (List.Perm.refl _))
            have hK : va_K (dC, dI) cls (List.flatten ([(tX4 p0k), (tX6 p1k), (tX1 p3k), (tX9 (st1 (st1 (st1 (st1 (st1 p3_2k 2 z26) 3 z28) 4 z30) 5 z32) 6 z34))] : List (List (ClassId × FieldType)))) s := vK_perm (vK_fb hK) (bP (List.Perm.refl _))
            refine W.widen (k := (hcX9 p3_2n (o_24.2.2))) (n := (3 * (gcX9 p3_2n (o_24.2.2)))) (by have a0 := gcX9_add hg_p3_2 (mo_fX4_fillStep hc_24); omega) (by have a0 := gcX9_add hg_p3_2 (mo_fX4_fillStep hc_24); omega) ?_
            have hg_p3_2 : glX9 p3_2n (o_24.2.2) := glX9_tr hg_p3_2 (mo_fX4_fillStep hc_24)
            unfold fX4_fillBlock_G255_35 at hrun
            refine lv_goto (tgt := 268) hx hb dX4_fillBlock_255 (by decide) ?_
            exact J268 w23 (o_24.1) (o_24.2.1) (o_24.2.2) x25 z26 x27 z28 x29 z30 x31 z32 x33 z34 _ _ _ hrun hP hD hK hS (lv_sub hl [1, 2, 3, 4, 5, 6] rfl) hg_p3_2
          rcases br9 hrun with ⟨hc36, hrun⟩ | ⟨hc36, hrun⟩
          · refine lv_lookup (off := 43) (tgt := 184) hx hb dX4_fillBlock_141 (by decide) (by rw [hc36]; decide) (by decide) ?_
            refine lv_aload_n hx hb dX4_fillBlock_184 rfl (lv_at hl 1 rfl) ?_
            refine va_get (D := (dC, dI)) (ci := 6) (v := .ref (p0a 4)) (C := RX4) (T := TX4) (N := 20) hx hb hts i_X4 hown hK hP 0 rfl rfl 3 (by decide) (hts _ qw295) (fun _ h9 => h9) rfl dX4_fillBlock_185 ?_
            refine lv_iload hx hb dX4_fillBlock_188 (lv_at hl 6 rfl) ?_
            refine lv_aload_n hx hb dX4_fillBlock_190 rfl (lv_at hl 1 rfl) ?_
            refine va_get (D := (dC, dI)) (ci := 6) (v := .ref (p0a 20)) (C := RX4) (T := TX4) (N := 20) hx hb hts i_X4 hown hK hP 0 rfl rfl 19 (by decide) (hts _ qw275) (fun _ h9 => h9) rfl dX4_fillBlock_191 ?_
            refine lv_iload hx hb dX4_fillBlock_194 (lv_at hl 5 rfl) ?_
            refine lv_iload hx hb dX4_fillBlock_196 (lv_at hl 0 rfl) ?_
            refine lv_iadd hx hb dX4_fillBlock_198 ?_
            obtain ⟨hq37, hrun⟩ := chk9 hrun
            refine va_iald hx hb hK hP 18 17 rfl rfl (ixb_in hq37) dX4_fillBlock_199 ?_
            obtain ⟨hq38, hrun⟩ := chk9 hrun
            refine va_iast hx hb hK hP hD hS 3 2 rfl rfl (ixb_in hq38) dX4_fillBlock_200 (fun H locs hP hD hS => ?_)
            have hP : va_P (dC, dI) cls (List.flatten ([(oX4 (p0a 0) p0a p0k (upw p0w_114 4 (nn v6_114) (p0w_114 20 (nn ((p4 * 320) + (p1w 10 (nn v6_114)))))) p0l), (oX6 (p1a 0) p1a p1k p1w p1l), (oX1 (p3a 0) p3a p3k p3n p3w_114 p3l), (oX9 (p3a 3) (st1 (st1 (st1 (st1 (st1 p3_2a 2 xp3_2_1_114) 3 xp3_2_2_114) 4 xp3_2_3_114) 5 xp3_2_4_114) 6 xp3_2_5_114) (st1 (st1 (st1 (st1 (st1 p3_2k 2 zp3_2_1_114) 3 zp3_2_2_114) 4 zp3_2_3_114) 5 zp3_2_4_114) 6 zp3_2_5_114) p3_2n_114 p3_2w_114)] : List va_W)) H := hP
            have hD : va_D A (List.flatten ([(oX4 (p0a 0) p0a p0k (upw p0w_114 4 (nn v6_114) (p0w_114 20 (nn ((p4 * 320) + (p1w 10 (nn v6_114)))))) p0l), (oX6 (p1a 0) p1a p1k p1w p1l), (oX1 (p3a 0) p3a p3k p3n p3w_114 p3l), (oX9 (p3a 3) (st1 (st1 (st1 (st1 (st1 p3_2a 2 xp3_2_1_114) 3 xp3_2_2_114) 4 xp3_2_3_114) 5 xp3_2_4_114) 6 xp3_2_5_114) (st1 (st1 (st1 (st1 (st1 p3_2k 2 zp3_2_1_114) 3 zp3_2_2_114) 4 zp3_2_3_114) 5 zp3_2_4_114) 6 zp3_2_5_114) p3_2n_114 p3_2w_114)] : List va_W)) := hD
            obtain ⟨w39, ew39, hrun⟩ := let9 hrun
            rw [← ew39] at hP hD
            refine lv_goto (tgt := 268) hx hb dX4_fillBlock_201 (by decide) ?_
            exact J268 w39 p3w_114 p3_2w_114 p3_2n_114 xp3_2_1_114 zp3_2_1_114 xp3_2_2_114 zp3_2_2_114 xp3_2_3_114 zp3_2_3_114 xp3_2_4_114 zp3_2_4_114 xp3_2_5_114 zp3_2_5_114 _ _ _ hrun hP hD hK hS (lv_sub hl [1, 2, 3, 4, 5, 6] rfl) hg_p3_2
          rcases br9 hrun with ⟨hc40, hrun⟩ | ⟨hc40, hrun⟩
          · refine lv_lookup (off := 63) (tgt := 204) hx hb dX4_fillBlock_141 (by decide) (by rw [hc40]; decide) (by decide) ?_
            exact J204 _ _ _ hrun hP hD hK hS (lv_sub hl [1, 2, 3, 4, 5, 6, 0] rfl) hg_p3_2
          rcases br9 hrun with ⟨hc41, hrun⟩ | ⟨hc41, hrun⟩
          · refine lv_lookup (off := 63) (tgt := 204) hx hb dX4_fillBlock_141 (by decide) (by rw [hc41]; decide) (by decide) ?_
            exact J204 _ _ _ hrun hP hD hK hS (lv_sub hl [1, 2, 3, 4, 5, 6, 0] rfl) hg_p3_2
          refine lv_lookup (off := 117) (tgt := 258) hx hb dX4_fillBlock_141 (by decide) (by rw [lv_osw hc20 (by decide), lv_osw hc36 (by decide), lv_osw hc40 (by decide), lv_osw hc41 (by decide)]; rfl) (by decide) ?_
          refine lv_aload_n hx hb dX4_fillBlock_258 rfl (lv_at hl 1 rfl) ?_
          refine lv_aload_n hx hb dX4_fillBlock_259 rfl (lv_at hl 2 rfl) ?_
          refine lv_aload_n hx hb dX4_fillBlock_260 rfl (lv_at hl 3 rfl) ?_
          refine lv_iload hx hb dX4_fillBlock_261 (lv_at hl 4 rfl) ?_
          refine lv_iload hx hb dX4_fillBlock_263 (lv_at hl 6 rfl) ?_
          obtain ⟨o_42, hc_42, hrun⟩ := bnd9 hrun
          have hPx : va_P (dC, dI) cls ((List.flatten ([(oX4 (p0a 0) p0a p0k p0w_114 p0l), (oX6 (p1a 0) p1a p1k p1w p1l), (oX1 (p3a 0) p3a p3k p3n p3w_114 p3l), (oX9 (p3a 3) (st1 (st1 (st1 (st1 (st1 p3_2a 2 xp3_2_1_114) 3 xp3_2_2_114) 4 xp3_2_3_114) 5 xp3_2_4_114) 6 xp3_2_5_114) (st1 (st1 (st1 (st1 (st1 p3_2k 2 zp3_2_1_114) 3 zp3_2_2_114) 4 zp3_2_3_114) 5 zp3_2_4_114) 6 zp3_2_5_114) p3_2n_114 p3_2w_114)] : List va_W)) ++ (List.flatten ([] : List va_W))) H := vP_fa (vP_perm hP (bP (List.Perm.refl _)))
          have hDx : va_D A ((List.flatten ([(oX4 (p0a 0) p0a p0k p0w_114 p0l), (oX6 (p1a 0) p1a p1k p1w p1l), (oX1 (p3a 0) p3a p3k p3n p3w_114 p3l), (oX9 (p3a 3) (st1 (st1 (st1 (st1 (st1 p3_2a 2 xp3_2_1_114) 3 xp3_2_2_114) 4 xp3_2_3_114) 5 xp3_2_4_114) 6 xp3_2_5_114) (st1 (st1 (st1 (st1 (st1 p3_2k 2 zp3_2_1_114) 3 zp3_2_2_114) 4 zp3_2_3_114) 5 zp3_2_4_114) 6 zp3_2_5_114) p3_2n_114 p3_2w_114)] : List va_W)) ++ (List.flatten ([] : List va_W))) := vD_fa (vD_perm hD (bP (List.Perm.refl _)))
          have hKx : va_K (dC, dI) cls ((List.flatten ([(tX4 p0k), (tX6 p1k), (tX1 p3k), (tX9 (st1 (st1 (st1 (st1 (st1 p3_2k 2 zp3_2_1_114) 3 zp3_2_2_114) 4 zp3_2_3_114) 5 zp3_2_4_114) 6 zp3_2_5_114))] : List (List (ClassId × FieldType)))) ++ (List.flatten ([] : List (List (ClassId × FieldType))))) s := vK_fa (vK_perm hK (bP (List.Perm.refl _)))
          have hPc := vP_l hPx
          have hDc := vD_l hDx
          have hKc := vK_l hKx
          have hFc := vfree hDx hS hA
          have hgn_p3_2 : glX9 (o_42.2.2) (o.2.2.2) := (glX9_tr (mo_fX4_fillBlock_G268_53 (mo_fX4_fillBlock_L114 n_114) hrun) hgo_p3_2)
          refine va_callv (va_runV (As := [.ref (p1a 0), .ref (p3a 0), .int p4, .int v6_114]) (rest := []) ⟨hx, hb, hml, hown, hts⟩ (kX4_fillStep l dC dI (p0a := p0a) (p0k := p0k) (p0w := p0w_114) (p0l := p0l) (p1a := p1a) (p1k := p1k) (p1w := p1w) (p1l := p1l) (p2a := p3a) (p2k := p3k) (p2n := p3n) (p2w := p3w_114) (p2l := p3l) (p3 := p4) (p4 := v6_114) (p2_2a := (st1 (st1 (st1 (st1 (st1 p3_2a 2 xp3_2_1_114) 3 xp3_2_2_114) 4 xp3_2_3_114) 5 xp3_2_4_114) 6 xp3_2_5_114)) (p2_2k := (st1 (st1 (st1 (st1 (st1 p3_2k 2 zp3_2_1_114) 3 zp3_2_2_114) 4 zp3_2_3_114) 5 zp3_2_4_114) 6 zp3_2_5_114)) (p2_2n := p3_2n_114) (p2_2w := p3_2w_114) (sz := _) (o := o_42) (hrun := hc_42)) (cwV 4 hts (gi_V qw307 qw308 qw309 qw270 (gi_z qw306)) rfl rfl rfl (by decide +kernel) ⟨Nat.le_of_ble_eq_true rfl, Nat.le_of_ble_eq_true rfl⟩) ⟨PRE.blind, va_recv hKc hPc (ci := 6) (q0 := 0) rfl rfl, PRE.of hE hS hFc hPc hKc hDc⟩ rfl rfl hl.1 rfl (lv_room (Nat.le_of_ble_eq_true rfl)) dX4_fillBlock_265 ⟨(show (hcX9 p3_2n p3_2n_114) + (hcX9 p3_2n_114 (o_42.2.2)) ≤ (hcX9 p3_2n (o.2.2.2)) from by have q0 := gsX9 hg_p3_2 (mo_fX4_fillStep hc_42) hgn_p3_2; omega), (show (3 * (gcX9 p3_2n p3_2n_114)) + (3 * (gcX9 p3_2n_114 (o_42.2.2))) ≤ (3 * (gcX9 p3_2n (o.2.2.2))) from by have q0 := gsX9 hg_p3_2 (mo_fX4_fillStep hc_42) hgn_p3_2; omega)⟩) hS (fun q _ h => hFc q h) hFc (fun u t H locs ht hvm hw hB hz1 hk1 hS => ?_)
          obtain ⟨x43, z44, x45, z46, x47, z48, x49, z50, x51, z52, hB⟩ := hB
          obtain ⟨b1, b2, b3⟩ := hB
          rw [ht] at b1
          obtain ⟨hP, hD, hK⟩ := JOINC (wc := (List.flatten ([(oX4 (p0a 0) p0a p0k p0w_114 p0l), (oX6 (p1a 0) p1a p1k p1w p1l), (oX1 (p3a 0) p3a p3k p3n p3w_114 p3l), (oX9 (p3a 3) (st1 (st1 (st1 (st1 (st1 p3_2a 2 xp3_2_1_114) 3 xp3_2_2_114) 4 xp3_2_3_114) 5 xp3_2_4_114) 6 xp3_2_5_114) (st1 (st1 (st1 (st1 (st1 p3_2k 2 zp3_2_1_114) 3 zp3_2_2_114) 4 zp3_2_3_114) 5 zp3_2_4_114) 6 zp3_2_5_114) p3_2n_114 p3_2w_114)] : List va_W))) (wr := (List.flatten ([] : List va_W))) (w1 := (List.flatten ([(oX4 (p0a 0) p0a p0k p0w_114 p0l), (oX6 (p1a 0) p1a p1k p1w p1l), (oX1 (p3a 0) p3a p3k p3n (o_42.1) p3l), (oX9 (p3a 3) (st1 (st1 (st1 (st1 (st1 p3_2a 2 x43) 3 x45) 4 x47) 5 x49) 6 x51) (st1 (st1 (st1 (st1 (st1 p3_2k 2 z44) 3 z46) 4 z48) 5 z50) 6 z52) (o_42.2.2) (o_42.2.1))] : List va_W))) (t1 := (List.flatten ([(tX4 p0k), (tX6 p1k), (tX1 p3k), (tX9 (st1 (st1 (st1 (st1 (st1 p3_2k 2 z44) 3 z46) 4 z48) 5 z50) 6 z52))] : List (List (ClassId × FieldType))))) hPx hDx hKx hk1 hFc b1 (va_K.moved hvm.symm b2) b3
          have hP : va_P (dC, dI) cls (List.flatten ([(oX4 (p0a 0) p0a p0k p0w_114 p0l), (oX6 (p1a 0) p1a p1k p1w p1l), (oX1 (p3a 0) p3a p3k p3n (o_42.1) p3l), (oX9 (p3a 3) (st1 (st1 (st1 (st1 (st1 p3_2a 2 x43) 3 x45) 4 x47) 5 x49) 6 x51) (st1 (st1 (st1 (st1 (st1 p3_2k 2 z44) 3 z46) 4 z48) 5 z50) 6 z52) (o_42.2.2) (o_42.2.1))] : List va_W)) H := vP_perm (vP_fb hP) (bP (List.Perm.refl _))
          have hD : va_D A (List.flatten ([(oX4 (p0a 0) p0a p0k p0w_114 p0l), (oX6 (p1a 0) p1a p1k p1w p1l), (oX1 (p3a 0) p3a p3k p3n (o_42.1) p3l), (oX9 (p3a 3) (st1 (st1 (st1 (st1 (st1 p3_2a 2 x43) 3 x45) 4 x47) 5 x49) 6 x51) (st1 (st1 (st1 (st1 (st1 p3_2k 2 z44) 3 z46) 4 z48) 5 z50) 6 z52) (o_42.2.2) (o_42.2.1))] : List va_W)) := vD_perm (vD_fb hD) (bP (List.Perm.refl _))
          have hK : va_K (dC, dI) cls (List.flatten ([(tX4 p0k), (tX6 p1k), (tX1 p3k), (tX9 (st1 (st1 (st1 (st1 (st1 p3_2k 2 z44) 3 z46) 4 z48) 5 z50) 6 z52))] : List (List (ClassId × FieldType)))) s := vK_perm (vK_fb hK) (bP (List.Perm.refl _))
          refine W.widen (k := (hcX9 p3_2n (o_42.2.2))) (n := (3 * (gcX9 p3_2n (o_42.2.2)))) (by have a0 := gcX9_add hg_p3_2 (mo_fX4_fillStep hc_42); omega) (by have a0 := gcX9_add hg_p3_2 (mo_fX4_fillStep hc_42); omega) ?_
          have hg_p3_2 : glX9 p3_2n (o_42.2.2) := glX9_tr hg_p3_2 (mo_fX4_fillStep hc_42)
          unfold fX4_fillBlock_G268_53 at hrun
          exact J268 p0w_114 (o_42.1) (o_42.2.1) (o_42.2.2) x43 z44 x45 z46 x47 z48 x49 z50 x51 z52 _ _ _ hrun hP hD hK hS (lv_sub hl [1, 2, 3, 4, 5, 6] rfl) hg_p3_2
    refine L114 NF o_8 o67 p3w p3_2w p3_2n (p3_2a 2) (p3_2k 2) (p3_2a 3) (p3_2k 3) (p3_2a 4) (p3_2k 4) (p3_2a 5) (p3_2k 5) (p3_2a 6) (p3_2k 6) o114 _ _ _ hc114 hP hD hK hS (lv_sub hl [1, 2, 3, 4, 5, 0] rfl) hg_p3_2 hgn_p3_2 ?_
    intro xp3_2_1_114x zp3_2_1_114x xp3_2_2_114x zp3_2_2_114x xp3_2_3_114x zp3_2_3_114x xp3_2_4_114x zp3_2_4_114x xp3_2_5_114x zp3_2_5_114x H locs ls hP hD hK hS hl hg_p3_2
    have hl := hl
    unfold fX4_fillBlock_G274_54 at hrun
    have ho9 : ((o114.1), (o114.2.1), (o114.2.2.1), (o114.2.2.2)) = o := Option.some.inj hrun
    subst ho9
    subst hQ
    exact W.vret hx hb hr (fun t ht hW => ⟨⟨(), rfl, trivial, ⟨xp3_2_1_114x, zp3_2_1_114x, xp3_2_2_114x, zp3_2_2_114x, xp3_2_3_114x, zp3_2_3_114x, xp3_2_4_114x, zp3_2_4_114x, xp3_2_5_114x, zp3_2_5_114x, by rw [ht]; exact hP, va_K.moved hW.alike hK, hD⟩⟩, hS.F ht⟩) hS.2.2 dX4_fillBlock_274
  rcases br9 hrun with ⟨hc55, hrun⟩ | ⟨hc55, hrun⟩
  · refine lv_if_ne (tgt := 28) hx hb dX4_fillBlock_10 (by decide) (fun c => absurd hc55 c) (fun _ => ?_)
    refine lv_aload_n hx hb dX4_fillBlock_13 rfl (lv_at hl 1 rfl) ?_
    refine va_get (D := (dC, dI)) (ci := 6) (v := .ref (p0a 20)) (C := RX4) (T := TX4) (N := 20) hx hb hts i_X4 hown hK hP 0 rfl rfl 19 (by decide) (hts _ qw275) (fun _ h9 => h9) rfl dX4_fillBlock_14 ?_
    refine lv_iconst (v := 0) hx hb dX4_fillBlock_17 (by decide) ?_
    refine lv_sipush (v := 320) hx hb dX4_fillBlock_18 (by decide) ?_
    refine lv_iconst (v := (-1)) hx hb dX4_fillBlock_21 (by decide) ?_
    obtain ⟨o_56, hc_56, hrun⟩ := bnd9 hrun
    have hP2 : va_P (dC, dI) cls (List.flatten ([[((p0a 20), .inl ((p0k 20), 19200, .inl (p0w 20)))], [((p0a 0), .inr (6, [.ref (p0a 1), .ref (p0a 2), .ref (p0a 3), .ref (p0a 4), .ref (p0a 5), .int (p0w 0 5), .ref (p0a 7), .ref (p0a 8), .ref (p0a 9), .ref (p0a 10), .ref (p0a 11), .ref (p0a 12), .ref (p0a 13), .ref (p0a 14), .ref (p0a 15), .ref (p0a 16), .ref (p0a 17), .ref (p0a 18), .ref (p0a 19), .ref (p0a 20)])), ((p0a 2), .inl ((p0k 2), 3200, .inl (p0w 2))), ((p0a 3), .inl ((p0k 3), 3200, .inl (p0w 3))), ((p0a 4), .inl ((p0k 4), 3200, .inl (p0w 4))), ((p0a 5), .inl ((p0k 5), 512, .inl (p0w 5))), ((p0a 7), .inl ((p0k 7), 640, .inl (p0w 7))), ((p0a 8), .inl ((p0k 8), 640, .inl (p0w 8))), ((p0a 9), .inl ((p0k 9), 640, .inl (p0w 9))), ((p0a 10), .inl ((p0k 10), 640, .inl (p0w 10))), ((p0a 11), .inl ((p0k 11), 640, .inl (p0w 11))), ((p0a 12), .inl ((p0k 12), 640, .inl (p0w 12))), ((p0a 13), .inl ((p0k 13), 640, .inl (p0w 13))), ((p0a 14), .inl ((p0k 14), 640, .inl (p0w 14))), ((p0a 15), .inl ((p0k 15), 60, .inl (p0w 15))), ((p0a 16), .inl ((p0k 16), 320, .inr (.inl (p0l 16)))), ((p0a 17), .inl ((p0k 17), 320, .inr (.inl (p0l 17)))), ((p0a 18), .inl ((p0k 18), 60, .inr (.inl (p0l 18)))), ((p0a 19), .inl ((p0k 19), 250, .inl (p0w 19)))], (oX6 (p1a 0) p1a p1k p1w p1l), (oX1 (p3a 0) p3a p3k p3n p3w p3l), (oX9 (p3a 3) p3_2a p3_2k p3_2n p3_2w)] : List va_W)) H := vP_perm hP ((bP (List.Perm.refl _)).trans (List.Perm.append_right _ (List.perm_middle (a := (((p0a 20), .inl ((p0k 20), 19200, .inl (p0w 20))) : Nat × va_E)) (l₁ := ([((p0a 0), .inr (6, [.ref (p0a 1), .ref (p0a 2), .ref (p0a 3), .ref (p0a 4), .ref (p0a 5), .int (p0w 0 5), .ref (p0a 7), .ref (p0a 8), .ref (p0a 9), .ref (p0a 10), .ref (p0a 11), .ref (p0a 12), .ref (p0a 13), .ref (p0a 14), .ref (p0a 15), .ref (p0a 16), .ref (p0a 17), .ref (p0a 18), .ref (p0a 19), .ref (p0a 20)])), ((p0a 2), .inl ((p0k 2), 3200, .inl (p0w 2))), ((p0a 3), .inl ((p0k 3), 3200, .inl (p0w 3))), ((p0a 4), .inl ((p0k 4), 3200, .inl (p0w 4))), ((p0a 5), .inl ((p0k 5), 512, .inl (p0w 5))), ((p0a 7), .inl ((p0k 7), 640, .inl (p0w 7))), ((p0a 8), .inl ((p0k 8), 640, .inl (p0w 8))), ((p0a 9), .inl ((p0k 9), 640, .inl (p0w 9))), ((p0a 10), .inl ((p0k 10), 640, .inl (p0w 10))), ((p0a 11), .inl ((p0k 11), 640, .inl (p0w 11))), ((p0a 12), .inl ((p0k 12), 640, .inl (p0w 12))), ((p0a 13), .inl ((p0k 13), 640, .inl (p0w 13))), ((p0a 14), .inl ((p0k 14), 640, .inl (p0w 14))), ((p0a 15), .inl ((p0k 15), 60, .inl (p0w 15))), ((p0a 16), .inl ((p0k 16), 320, .inr (.inl (p0l 16)))), ((p0a 17), .inl ((p0k 17), 320, .inr (.inl (p0l 17)))), ((p0a 18), .inl ((p0k 18), 60, .inr (.inl (p0l 18)))), ((p0a 19), .inl ((p0k 19), 250, .inl (p0w 19)))] : va_W)) (l₂ := ([] : va_W)))))
    have hD2 : va_D A (List.flatten ([[((p0a 20), .inl ((p0k 20), 19200, .inl (p0w 20)))], [((p0a 0), .inr (6, [.ref (p0a 1), .ref (p0a 2), .ref (p0a 3), .ref (p0a 4), .ref (p0a 5), .int (p0w 0 5), .ref (p0a 7), .ref (p0a 8), .ref (p0a 9), .ref (p0a 10), .ref (p0a 11), .ref (p0a 12), .ref (p0a 13), .ref (p0a 14), .ref (p0a 15), .ref (p0a 16), .ref (p0a 17), .ref (p0a 18), .ref (p0a 19), .ref (p0a 20)])), ((p0a 2), .inl ((p0k 2), 3200, .inl (p0w 2))), ((p0a 3), .inl ((p0k 3), 3200, .inl (p0w 3))), ((p0a 4), .inl ((p0k 4), 3200, .inl (p0w 4))), ((p0a 5), .inl ((p0k 5), 512, .inl (p0w 5))), ((p0a 7), .inl ((p0k 7), 640, .inl (p0w 7))), ((p0a 8), .inl ((p0k 8), 640, .inl (p0w 8))), ((p0a 9), .inl ((p0k 9), 640, .inl (p0w 9))), ((p0a 10), .inl ((p0k 10), 640, .inl (p0w 10))), ((p0a 11), .inl ((p0k 11), 640, .inl (p0w 11))), ((p0a 12), .inl ((p0k 12), 640, .inl (p0w 12))), ((p0a 13), .inl ((p0k 13), 640, .inl (p0w 13))), ((p0a 14), .inl ((p0k 14), 640, .inl (p0w 14))), ((p0a 15), .inl ((p0k 15), 60, .inl (p0w 15))), ((p0a 16), .inl ((p0k 16), 320, .inr (.inl (p0l 16)))), ((p0a 17), .inl ((p0k 17), 320, .inr (.inl (p0l 17)))), ((p0a 18), .inl ((p0k 18), 60, .inr (.inl (p0l 18)))), ((p0a 19), .inl ((p0k 19), 250, .inl (p0w 19)))], (oX6 (p1a 0) p1a p1k p1w p1l), (oX1 (p3a 0) p3a p3k p3n p3w p3l), (oX9 (p3a 3) p3_2a p3_2k p3_2n p3_2w)] : List va_W)) := vD_perm hD ((bP (List.Perm.refl _)).trans (List.Perm.append_right _ (List.perm_middle (a := (((p0a 20), .inl ((p0k 20), 19200, .inl (p0w 20))) : Nat × va_E)) (l₁ := ([((p0a 0), .inr (6, [.ref (p0a 1), .ref (p0a 2), .ref (p0a 3), .ref (p0a 4), .ref (p0a 5), .int (p0w 0 5), .ref (p0a 7), .ref (p0a 8), .ref (p0a 9), .ref (p0a 10), .ref (p0a 11), .ref (p0a 12), .ref (p0a 13), .ref (p0a 14), .ref (p0a 15), .ref (p0a 16), .ref (p0a 17), .ref (p0a 18), .ref (p0a 19), .ref (p0a 20)])), ((p0a 2), .inl ((p0k 2), 3200, .inl (p0w 2))), ((p0a 3), .inl ((p0k 3), 3200, .inl (p0w 3))), ((p0a 4), .inl ((p0k 4), 3200, .inl (p0w 4))), ((p0a 5), .inl ((p0k 5), 512, .inl (p0w 5))), ((p0a 7), .inl ((p0k 7), 640, .inl (p0w 7))), ((p0a 8), .inl ((p0k 8), 640, .inl (p0w 8))), ((p0a 9), .inl ((p0k 9), 640, .inl (p0w 9))), ((p0a 10), .inl ((p0k 10), 640, .inl (p0w 10))), ((p0a 11), .inl ((p0k 11), 640, .inl (p0w 11))), ((p0a 12), .inl ((p0k 12), 640, .inl (p0w 12))), ((p0a 13), .inl ((p0k 13), 640, .inl (p0w 13))), ((p0a 14), .inl ((p0k 14), 640, .inl (p0w 14))), ((p0a 15), .inl ((p0k 15), 60, .inl (p0w 15))), ((p0a 16), .inl ((p0k 16), 320, .inr (.inl (p0l 16)))), ((p0a 17), .inl ((p0k 17), 320, .inr (.inl (p0l 17)))), ((p0a 18), .inl ((p0k 18), 60, .inr (.inl (p0l 18)))), ((p0a 19), .inl ((p0k 19), 250, .inl (p0w 19)))] : va_W)) (l₂ := ([] : va_W)))))
    have hK2 : va_K (dC, dI) cls (List.flatten ([[((p0k 20), .int)], [((p0k 2), .int), ((p0k 3), .int), ((p0k 4), .int), ((p0k 5), .int), ((p0k 7), .int), ((p0k 8), .int), ((p0k 9), .int), ((p0k 10), .int), ((p0k 11), .int), ((p0k 12), .int), ((p0k 13), .int), ((p0k 14), .int), ((p0k 15), .int), ((p0k 16), .long), ((p0k 17), .long), ((p0k 18), .long), ((p0k 19), .int)], (tX6 p1k), (tX1 p3k), (tX9 p3_2k)] : List (List (ClassId × FieldType)))) s := vK_perm hK ((bP (List.Perm.refl _)).trans (List.Perm.append_right _ (List.perm_middle (a := (((p0k 20), .int) : ClassId × FieldType)) (l₁ := ([((p0k 2), .int), ((p0k 3), .int), ((p0k 4), .int), ((p0k 5), .int), ((p0k 7), .int), ((p0k 8), .int), ((p0k 9), .int), ((p0k 10), .int), ((p0k 11), .int), ((p0k 12), .int), ((p0k 13), .int), ((p0k 14), .int), ((p0k 15), .int), ((p0k 16), .long), ((p0k 17), .long), ((p0k 18), .long), ((p0k 19), .int)] : List (ClassId × FieldType))) (l₂ := ([] : List (ClassId × FieldType))))))
    have hPx : va_P (dC, dI) cls ((List.flatten ([[((p0a 20), .inl ((p0k 20), 19200, .inl (p0w 20)))]] : List va_W)) ++ (List.flatten ([[((p0a 0), .inr (6, [.ref (p0a 1), .ref (p0a 2), .ref (p0a 3), .ref (p0a 4), .ref (p0a 5), .int (p0w 0 5), .ref (p0a 7), .ref (p0a 8), .ref (p0a 9), .ref (p0a 10), .ref (p0a 11), .ref (p0a 12), .ref (p0a 13), .ref (p0a 14), .ref (p0a 15), .ref (p0a 16), .ref (p0a 17), .ref (p0a 18), .ref (p0a 19), .ref (p0a 20)])), ((p0a 2), .inl ((p0k 2), 3200, .inl (p0w 2))), ((p0a 3), .inl ((p0k 3), 3200, .inl (p0w 3))), ((p0a 4), .inl ((p0k 4), 3200, .inl (p0w 4))), ((p0a 5), .inl ((p0k 5), 512, .inl (p0w 5))), ((p0a 7), .inl ((p0k 7), 640, .inl (p0w 7))), ((p0a 8), .inl ((p0k 8), 640, .inl (p0w 8))), ((p0a 9), .inl ((p0k 9), 640, .inl (p0w 9))), ((p0a 10), .inl ((p0k 10), 640, .inl (p0w 10))), ((p0a 11), .inl ((p0k 11), 640, .inl (p0w 11))), ((p0a 12), .inl ((p0k 12), 640, .inl (p0w 12))), ((p0a 13), .inl ((p0k 13), 640, .inl (p0w 13))), ((p0a 14), .inl ((p0k 14), 640, .inl (p0w 14))), ((p0a 15), .inl ((p0k 15), 60, .inl (p0w 15))), ((p0a 16), .inl ((p0k 16), 320, .inr (.inl (p0l 16)))), ((p0a 17), .inl ((p0k 17), 320, .inr (.inl (p0l 17)))), ((p0a 18), .inl ((p0k 18), 60, .inr (.inl (p0l 18)))), ((p0a 19), .inl ((p0k 19), 250, .inl (p0w 19)))], (oX6 (p1a 0) p1a p1k p1w p1l), (oX1 (p3a 0) p3a p3k p3n p3w p3l), (oX9 (p3a 3) p3_2a p3_2k p3_2n p3_2w)] : List va_W))) H := vP_fa (vP_perm hP2 (bP (List.Perm.refl _)))
    have hDx : va_D A ((List.flatten ([[((p0a 20), .inl ((p0k 20), 19200, .inl (p0w 20)))]] : List va_W)) ++ (List.flatten ([[((p0a 0), .inr (6, [.ref (p0a 1), .ref (p0a 2), .ref (p0a 3), .ref (p0a 4), .ref (p0a 5), .int (p0w 0 5), .ref (p0a 7), .ref (p0a 8), .ref (p0a 9), .ref (p0a 10), .ref (p0a 11), .ref (p0a 12), .ref (p0a 13), .ref (p0a 14), .ref (p0a 15), .ref (p0a 16), .ref (p0a 17), .ref (p0a 18), .ref (p0a 19), .ref (p0a 20)])), ((p0a 2), .inl ((p0k 2), 3200, .inl (p0w 2))), ((p0a 3), .inl ((p0k 3), 3200, .inl (p0w 3))), ((p0a 4), .inl ((p0k 4), 3200, .inl (p0w 4))), ((p0a 5), .inl ((p0k 5), 512, .inl (p0w 5))), ((p0a 7), .inl ((p0k 7), 640, .inl (p0w 7))), ((p0a 8), .inl ((p0k 8), 640, .inl (p0w 8))), ((p0a 9), .inl ((p0k 9), 640, .inl (p0w 9))), ((p0a 10), .inl ((p0k 10), 640, .inl (p0w 10))), ((p0a 11), .inl ((p0k 11), 640, .inl (p0w 11))), ((p0a 12), .inl ((p0k 12), 640, .inl (p0w 12))), ((p0a 13), .inl ((p0k 13), 640, .inl (p0w 13))), ((p0a 14), .inl ((p0k 14), 640, .inl (p0w 14))), ((p0a 15), .inl ((p0k 15), 60, .inl (p0w 15))), ((p0a 16), .inl ((p0k 16), 320, .inr (.inl (p0l 16)))), ((p0a 17), .inl ((p0k 17), 320, .inr (.inl (p0l 17)))), ((p0a 18), .inl ((p0k 18), 60, .inr (.inl (p0l 18)))), ((p0a 19), .inl ((p0k 19), 250, .inl (p0w 19)))], (oX6 (p1a 0) p1a p1k p1w p1l), (oX1 (p3a 0) p3a p3k p3n p3w p3l), (oX9 (p3a 3) p3_2a p3_2k p3_2n p3_2w)] : List va_W))) := vD_fa (vD_perm hD2 (bP (List.Perm.refl _)))
    have hKx : va_K (dC, dI) cls ((List.flatten ([[((p0k 20), .int)]] : List (List (ClassId × FieldType)))) ++ (List.flatten ([[((p0k 2), .int), ((p0k 3), .int), ((p0k 4), .int), ((p0k 5), .int), ((p0k 7), .int), ((p0k 8), .int), ((p0k 9), .int), ((p0k 10), .int), ((p0k 11), .int), ((p0k 12), .int), ((p0k 13), .int), ((p0k 14), .int), ((p0k 15), .int), ((p0k 16), .long), ((p0k 17), .long), ((p0k 18), .long), ((p0k 19), .int)], (tX6 p1k), (tX1 p3k), (tX9 p3_2k)] : List (List (ClassId × FieldType))))) s := vK_fa (vK_perm hK2 (bP (List.Perm.refl _)))
    have hPc := vP_l hPx
    have hDc := vD_l hDx
    have hKc := vK_l hKx
    have hFc := vfree hDx hS hA
    refine va_callv (va_runS (As := [.ref (p0a 20), .int 0, .int 320, .int (-1)]) (rest := []) ⟨hx, hb, hml, hown, hts⟩ (kJ7_fill_fda19 l dC dI (p0a := (p0a 20)) (p0k := (p0k 20)) (p0n := 19200) (p0f := (p0w 20)) (p1 := 0) (p2 := 320) (p3 := (-1)) (sz := _) (o := o_56) (hrun := hc_56)) (va_cwS 4 hts (gi_S qw280 qw281 qw109 (gi_z qw279)) rfl rfl rfl (by decide +kernel) ⟨Nat.le_of_ble_eq_true rfl, Nat.le_of_ble_eq_true rfl⟩) ⟨PRE.blind, PRE.of hE hS hFc hPc hKc hDc⟩ rfl rfl hl.1 rfl (lv_room (Nat.le_of_ble_eq_true rfl)) dX4_fillBlock_22 ⟨(show (hcX9 p3_2n p3_2n) + 0 ≤ (hcX9 p3_2n (o.2.2.2)) from by have q0 := gmX9 hg_p3_2 hgn_p3_2; omega), (show (3 * (gcX9 p3_2n p3_2n)) + 0 ≤ (3 * (gcX9 p3_2n (o.2.2.2))) from by have q0 := gmX9 hg_p3_2 hgn_p3_2; omega)⟩) hS (fun q _ h => hFc q h) hFc (fun u t H locs ht hvm hw hB hz1 hk1 hS => ?_)
    obtain ⟨b1, b2, b3⟩ := hB
    rw [ht] at b1
    obtain ⟨hP, hD, hK⟩ := JOINC (wc := (List.flatten ([[((p0a 20), .inl ((p0k 20), 19200, .inl (p0w 20)))]] : List va_W))) (wr := (List.flatten ([[((p0a 0), .inr (6, [.ref (p0a 1), .ref (p0a 2), .ref (p0a 3), .ref (p0a 4), .ref (p0a 5), .int (p0w 0 5), .ref (p0a 7), .ref (p0a 8), .ref (p0a 9), .ref (p0a 10), .ref (p0a 11), .ref (p0a 12), .ref (p0a 13), .ref (p0a 14), .ref (p0a 15), .ref (p0a 16), .ref (p0a 17), .ref (p0a 18), .ref (p0a 19), .ref (p0a 20)])), ((p0a 2), .inl ((p0k 2), 3200, .inl (p0w 2))), ((p0a 3), .inl ((p0k 3), 3200, .inl (p0w 3))), ((p0a 4), .inl ((p0k 4), 3200, .inl (p0w 4))), ((p0a 5), .inl ((p0k 5), 512, .inl (p0w 5))), ((p0a 7), .inl ((p0k 7), 640, .inl (p0w 7))), ((p0a 8), .inl ((p0k 8), 640, .inl (p0w 8))), ((p0a 9), .inl ((p0k 9), 640, .inl (p0w 9))), ((p0a 10), .inl ((p0k 10), 640, .inl (p0w 10))), ((p0a 11), .inl ((p0k 11), 640, .inl (p0w 11))), ((p0a 12), .inl ((p0k 12), 640, .inl (p0w 12))), ((p0a 13), .inl ((p0k 13), 640, .inl (p0w 13))), ((p0a 14), .inl ((p0k 14), 640, .inl (p0w 14))), ((p0a 15), .inl ((p0k 15), 60, .inl (p0w 15))), ((p0a 16), .inl ((p0k 16), 320, .inr (.inl (p0l 16)))), ((p0a 17), .inl ((p0k 17), 320, .inr (.inl (p0l 17)))), ((p0a 18), .inl ((p0k 18), 60, .inr (.inl (p0l 18)))), ((p0a 19), .inl ((p0k 19), 250, .inl (p0w 19)))], (oX6 (p1a 0) p1a p1k p1w p1l), (oX1 (p3a 0) p3a p3k p3n p3w p3l), (oX9 (p3a 3) p3_2a p3_2k p3_2n p3_2w)] : List va_W))) (w1 := (List.flatten ([[((p0a 20), .inl ((p0k 20), 19200, .inl ((srw p0w 20 o_56) 20)))]] : List va_W))) (t1 := (List.flatten ([[((p0k 20), .int)]] : List (List (ClassId × FieldType))))) hPx hDx hKx hk1 hFc b1 (va_K.moved hvm.symm b2) b3
    have hP3 : va_P (dC, dI) cls (List.flatten ([(oX4 (p0a 0) p0a p0k (srw p0w 20 o_56) p0l), (oX6 (p1a 0) p1a p1k p1w p1l), (oX1 (p3a 0) p3a p3k p3n p3w p3l), (oX9 (p3a 3) p3_2a p3_2k p3_2n p3_2w)] : List va_W)) H := vP_perm (vP_fb hP) ((bP (List.Perm.refl _)).trans (List.Perm.append_right _ (List.perm_middle (a := (((p0a 20), .inl ((p0k 20), 19200, .inl ((srw p0w 20 o_56) 20))) : Nat × va_E)) (l₁ := ([((p0a 0), .inr (6, [.ref (p0a 1), .ref (p0a 2), .ref (p0a 3), .ref (p0a 4), .ref (p0a 5), .int ((srw p0w 20 o_56) 0 5), .ref (p0a 7), .ref (p0a 8), .ref (p0a 9), .ref (p0a 10), .ref (p0a 11), .ref (p0a 12), .ref (p0a 13), .ref (p0a 14), .ref (p0a 15), .ref (p0a 16), .ref (p0a 17), .ref (p0a 18), .ref (p0a 19), .ref (p0a 20)])), ((p0a 2), .inl ((p0k 2), 3200, .inl ((srw p0w 20 o_56) 2))), ((p0a 3), .inl ((p0k 3), 3200, .inl ((srw p0w 20 o_56) 3))), ((p0a 4), .inl ((p0k 4), 3200, .inl ((srw p0w 20 o_56) 4))), ((p0a 5), .inl ((p0k 5), 512, .inl ((srw p0w 20 o_56) 5))), ((p0a 7), .inl ((p0k 7), 640, .inl ((srw p0w 20 o_56) 7))), ((p0a 8), .inl ((p0k 8), 640, .inl ((srw p0w 20 o_56) 8))), ((p0a 9), .inl ((p0k 9), 640, .inl ((srw p0w 20 o_56) 9))), ((p0a 10), .inl ((p0k 10), 640, .inl ((srw p0w 20 o_56) 10))), ((p0a 11), .inl ((p0k 11), 640, .inl ((srw p0w 20 o_56) 11))), ((p0a 12), .inl ((p0k 12), 640, .inl ((srw p0w 20 o_56) 12))), ((p0a 13), .inl ((p0k 13), 640, .inl ((srw p0w 20 o_56) 13))), ((p0a 14), .inl ((p0k 14), 640, .inl ((srw p0w 20 o_56) 14))), ((p0a 15), .inl ((p0k 15), 60, .inl ((srw p0w 20 o_56) 15))), ((p0a 16), .inl ((p0k 16), 320, .inr (.inl (p0l 16)))), ((p0a 17), .inl ((p0k 17), 320, .inr (.inl (p0l 17)))), ((p0a 18), .inl ((p0k 18), 60, .inr (.inl (p0l 18)))), ((p0a 19), .inl ((p0k 19), 250, .inl ((srw p0w 20 o_56) 19)))] : va_W)) (l₂ := ([] : va_W))).symm))
    have hD3 : va_D A (List.flatten ([(oX4 (p0a 0) p0a p0k (srw p0w 20 o_56) p0l), (oX6 (p1a 0) p1a p1k p1w p1l), (oX1 (p3a 0) p3a p3k p3n p3w p3l), (oX9 (p3a 3) p3_2a p3_2k p3_2n p3_2w)] : List va_W)) := vD_perm (vD_fb hD) ((bP (List.Perm.refl _)).trans (List.Perm.append_right _ (List.perm_middle (a := (((p0a 20), .inl ((p0k 20), 19200, .inl ((srw p0w 20 o_56) 20))) : Nat × va_E)) (l₁ := ([((p0a 0), .inr (6, [.ref (p0a 1), .ref (p0a 2), .ref (p0a 3), .ref (p0a 4), .ref (p0a 5), .int ((srw p0w 20 o_56) 0 5), .ref (p0a 7), .ref (p0a 8), .ref (p0a 9), .ref (p0a 10), .ref (p0a 11), .ref (p0a 12), .ref (p0a 13), .ref (p0a 14), .ref (p0a 15), .ref (p0a 16), .ref (p0a 17), .ref (p0a 18), .ref (p0a 19), .ref (p0a 20)])), ((p0a 2), .inl ((p0k 2), 3200, .inl ((srw p0w 20 o_56) 2))), ((p0a 3), .inl ((p0k 3), 3200, .inl ((srw p0w 20 o_56) 3))), ((p0a 4), .inl ((p0k 4), 3200, .inl ((srw p0w 20 o_56) 4))), ((p0a 5), .inl ((p0k 5), 512, .inl ((srw p0w 20 o_56) 5))), ((p0a 7), .inl ((p0k 7), 640, .inl ((srw p0w 20 o_56) 7))), ((p0a 8), .inl ((p0k 8), 640, .inl ((srw p0w 20 o_56) 8))), ((p0a 9), .inl ((p0k 9), 640, .inl ((srw p0w 20 o_56) 9))), ((p0a 10), .inl ((p0k 10), 640, .inl ((srw p0w 20 o_56) 10))), ((p0a 11), .inl ((p0k 11), 640, .inl ((srw p0w 20 o_56) 11))), ((p0a 12), .inl ((p0k 12), 640, .inl ((srw p0w 20 o_56) 12))), ((p0a 13), .inl ((p0k 13), 640, .inl ((srw p0w 20 o_56) 13))), ((p0a 14), .inl ((p0k 14), 640, .inl ((srw p0w 20 o_56) 14))), ((p0a 15), .inl ((p0k 15), 60, .inl ((srw p0w 20 o_56) 15))), ((p0a 16), .inl ((p0k 16), 320, .inr (.inl (p0l 16)))), ((p0a 17), .inl ((p0k 17), 320, .inr (.inl (p0l 17)))), ((p0a 18), .inl ((p0k 18), 60, .inr (.inl (p0l 18)))), ((p0a 19), .inl ((p0k 19), 250, .inl ((srw p0w 20 o_56) 19)))] : va_W)) (l₂ := ([] : va_W))).symm))
    have hK3 : va_K (dC, dI) cls (List.flatten ([(tX4 p0k), (tX6 p1k), (tX1 p3k), (tX9 p3_2k)] : List (List (ClassId × FieldType)))) s := vK_perm (vK_fb hK) ((bP (List.Perm.refl _)).trans (List.Perm.append_right _ (List.perm_middle (a := (((p0k 20), .int) : ClassId × FieldType)) (l₁ := ([((p0k 2), .int), ((p0k 3), .int), ((p0k 4), .int), ((p0k 5), .int), ((p0k 7), .int), ((p0k 8), .int), ((p0k 9), .int), ((p0k 10), .int), ((p0k 11), .int), ((p0k 12), .int), ((p0k 13), .int), ((p0k 14), .int), ((p0k 15), .int), ((p0k 16), .long), ((p0k 17), .long), ((p0k 18), .long), ((p0k 19), .int)] : List (ClassId × FieldType))) (l₂ := ([] : List (ClassId × FieldType)))).symm))
    have hP : va_P (dC, dI) cls (List.flatten ([(oX4 (p0a 0) p0a p0k (srw p0w 20 o_56) p0l), (oX6 (p1a 0) p1a p1k p1w p1l), (oX1 (p3a 0) p3a p3k p3n p3w p3l), (oX9 (p3a 3) p3_2a p3_2k p3_2n p3_2w)] : List va_W)) H := vP_perm hP3 (bP (List.Perm.refl _))
    have hD : va_D A (List.flatten ([(oX4 (p0a 0) p0a p0k (srw p0w 20 o_56) p0l), (oX6 (p1a 0) p1a p1k p1w p1l), (oX1 (p3a 0) p3a p3k p3n p3w p3l), (oX9 (p3a 3) p3_2a p3_2k p3_2n p3_2w)] : List va_W)) := vD_perm hD3 (bP (List.Perm.refl _))
    have hK : va_K (dC, dI) cls (List.flatten ([(tX4 p0k), (tX6 p1k), (tX1 p3k), (tX9 p3_2k)] : List (List (ClassId × FieldType)))) s := vK_perm hK3 (bP (List.Perm.refl _))
    refine lv_goto (tgt := 58) hx hb dX4_fillBlock_25 (by decide) ?_
    exact J58 (srw p0w 20 o_56) _ _ _ hrun hP hD hK hS (lv_sub hl [1, 2, 4, 5, 0] rfl) hg_p3_2
  · refine lv_if_ne (tgt := 28) hx hb dX4_fillBlock_10 (by decide) (fun _ => ?_) (fun c => absurd c hc55)
    refine lv_aload_n hx hb dX4_fillBlock_28 rfl (lv_at hl 1 rfl) ?_
    refine va_get (D := (dC, dI)) (ci := 6) (v := .ref (p0a 20)) (C := RX4) (T := TX4) (N := 20) hx hb hts i_X4 hown hK hP 0 rfl rfl 19 (by decide) (hts _ qw275) (fun _ h9 => h9) rfl dX4_fillBlock_29 ?_
    refine lv_aload_n hx hb dX4_fillBlock_32 rfl (lv_at hl 4 rfl) ?_
    refine va_get (D := (dC, dI)) (ci := 4) (v := .ref (p3a 12)) (C := RX1) (T := TX1) (N := 21) hx hb hts i_X1 hown hK hP 30 rfl rfl 11 (by decide) (hts _ qw310) (fun _ h9 => h9) rfl dX4_fillBlock_33 ?_
    refine lv_iload hx hb dX4_fillBlock_36 (lv_at hl 5 rfl) ?_
    obtain ⟨hq57, hrun⟩ := chk9 hrun
    refine va_iald hx hb hK hP 39 36 rfl rfl (ixb_in hq57) dX4_fillBlock_38 ?_
    refine lv_sipush (v := 320) hx hb dX4_fillBlock_39 (by decide) ?_
    refine lv_imul hx hb dX4_fillBlock_42 ?_
    refine lv_aload_n hx hb dX4_fillBlock_43 rfl (lv_at hl 1 rfl) ?_
    refine va_get (D := (dC, dI)) (ci := 6) (v := .ref (p0a 20)) (C := RX4) (T := TX4) (N := 20) hx hb hts i_X4 hown hK hP 0 rfl rfl 19 (by decide) (hts _ qw275) (fun _ h9 => h9) rfl dX4_fillBlock_44 ?_
    refine lv_iload hx hb dX4_fillBlock_47 (lv_at hl 0 rfl) ?_
    refine lv_aload_n hx hb dX4_fillBlock_49 rfl (lv_at hl 2 rfl) ?_
    refine va_get (D := (dC, dI)) (ci := 2) (v := .ref (p1a 5)) (C := RX6) (T := TX6) (N := 13) hx hb hts i_X6 hown hK hP 19 rfl rfl 4 (by decide) (hts _ qw311) (fun _ h9 => h9) rfl dX4_fillBlock_50 ?_
    refine lv_iload_n hx hb dX4_fillBlock_53 rfl (lv_at hl 3 rfl) ?_
    obtain ⟨hq58, hrun⟩ := chk9 hrun
    refine va_iald hx hb hK hP 23 21 rfl rfl (ixb_in hq58) dX4_fillBlock_54 ?_
    obtain ⟨hq59, hrun⟩ := chk9 hrun
    refine va_copyi (ty := .int) (sp := ((p3w 12 (nn p4)) * 320)) (dp := (p4 * 320)) (n := (p1w 5 (nn p2))) hx hb (hml.trans hl.1.symm) hown (hts _ qw312) (hts _ qw103) (hts _ qw104) (hts _ qw105) hK hP hD hS 18 18 17 17 rfl rfl rfl rfl rfl (cpk_1 hq59) (cpk_2 hq59) (cpk_3 hq59) (cpk_4 hq59) (cpk_5 hq59) (fun _ _ => rfl) (Nat.le_of_ble_eq_true rfl) (Nat.le_of_ble_eq_true rfl) dX4_fillBlock_55 (fun H locs hP hD hS => ?_)
    have hP : va_P (dC, dI) cls (List.flatten ([(oX4 (p0a 0) p0a p0k (srw p0w 20 (va_cpy (p0w 20) (p0w 20) (nn ((p3w 12 (nn p4)) * 320)) (nn (p4 * 320)) (nn (p1w 5 (nn p2))))) p0l), (oX6 (p1a 0) p1a p1k p1w p1l), (oX1 (p3a 0) p3a p3k p3n p3w p3l), (oX9 (p3a 3) p3_2a p3_2k p3_2n p3_2w)] : List va_W)) H := hP
    have hD : va_D A (List.flatten ([(oX4 (p0a 0) p0a p0k (srw p0w 20 (va_cpy (p0w 20) (p0w 20) (nn ((p3w 12 (nn p4)) * 320)) (nn (p4 * 320)) (nn (p1w 5 (nn p2))))) p0l), (oX6 (p1a 0) p1a p1k p1w p1l), (oX1 (p3a 0) p3a p3k p3n p3w p3l), (oX9 (p3a 3) p3_2a p3_2k p3_2n p3_2w)] : List va_W)) := hD
    obtain ⟨w60, ew60, hrun⟩ := let9 hrun
    rw [← ew60] at hP hD
    exact J58 w60 _ _ _ hrun hP hD hK hS (lv_sub hl [1, 2, 4, 5, 0] rfl) hg_p3_2
def fX4_fillPhis_L24 (p0w : ST) (p1n : Nat → Nat) (v2_2 : Int32) (v3_17 : Int32) : Nat → Int32 → ST → Option ST
  | 0 => fun _ _ => none
  | n_24 + 1 => fun v4_24 p1w_24 => ((fX1_waysTo p1w_24 v2_2).bind fun (o_4 : Int32) => (if o_4 ≤ v4_24 then some p1w_24 else ((fX1_wayFrom p1w_24 v2_2 v4_24).bind fun (o_7 : Int32) => (if ixb v3_17 250 = true then (if ixb ((o_7 * 320) + (p0w 19 (nn v3_17))) 19200 = true then ((fX1_setTake p1n p1w_24 v3_17 o_7 (p0w 20 (nn ((o_7 * 320) + (p0w 19 (nn v3_17)))))).bind fun (o_11 : ST) => ((fX4_fillPhis_L24 p0w p1n v2_2 v3_17 n_24) (v4_24 + 1) o_11)) else none) else none))))
def fX4_fillPhis_L17 (p0w : ST) (p1n : Nat → Nat) (v2_2 : Int32) : Nat → Int32 → ST → Option ST
  | 0 => fun _ _ => none
  | n_17 + 1 => fun v3_17 p1w_17 => (if v3_17 < 0 then some p1w_17 else ((fX4_fillPhis_L24 p0w p1n v2_2 v3_17 NF 0 p1w_17).bind fun (o24 : ST) => (if ixb v3_17 (p1n 20) = true then ((fX4_fillPhis_L17 p0w p1n v2_2 n_17) (o24 20 (nn v3_17)) o24) else none)))
def fX4_fillPhis_L2 (p0w : ST) (p1n : Nat → Nat) : Nat → Int32 → ST → Option ST
  | 0 => fun _ _ => none
  | n_2 + 1 => fun v2_2 p1w_2 => (if (p1w_2 0 0) ≤ v2_2 then some p1w_2 else (if ixb v2_2 60 = true then ((fX4_fillPhis_L17 p0w p1n v2_2 NF (p1w_2 6 (nn v2_2)) p1w_2).bind fun (o17 : ST) => ((fX4_fillPhis_L2 p0w p1n n_2) (v2_2 + 1) o17)) else none))
def fX4_fillPhis (p0w : ST) (p1n : Nat → Nat) (p1w : ST) : Option ST := ((fX4_fillPhis_L2 p0w p1n NF 0 p1w).bind fun (o2 : ST) => some o2)
set_option maxHeartbeats 16000000 in
set_option maxRecDepth 100000 in
theorem kX4_fillPhis {zs : ZS} (l : Launch) (dC : Nat → ClassId) (dI : Nat → Nat → Nat) (p0a : Nat → Nat) (p0k : Nat → ClassId) (p0w : ST) (p0l : SL) (p1a : Nat → Nat) (p1k : Nat → ClassId) (p1n : Nat → Nat) (p1w : ST) (p1l : SL) (sz : Nat) (o : ST) (hrun : fX4_fillPhis p0w p1n p1w = some o) : Met l yX4_fillPhis (wz yX4_fillPhis cX4_fillPhis 6 (Option.none : Option Jvm.ClassFile.FieldType)) ({ frames := 1, cells := 0, slots := 0, locals := 23 } : Room) (va_Pc [.ref (p0a 0), .ref (p1a 0)] (PRE zs dC dI (List.flatten ([(oX4 (p0a 0) p0a p0k p0w p0l), (oX1 (p1a 0) p1a p1k p1n p1w p1l)] : List va_W)) (List.flatten ([(tX4 p0k), (tX1 p1k)] : List (List (ClassId × FieldType)))) sz)) (va_Qv (fun (_ : Unit) => True) (fun _ t => POST dC dI (List.flatten ([(oX4 (p0a 0) p0a p0k p0w p0l), (oX1 (p1a 0) p1a p1k p1n o p1l)] : List va_W)) (List.flatten ([(tX4 p0k), (tX1 p1k)] : List (List (ClassId × FieldType)))) (va_A (List.flatten ([(oX4 (p0a 0) p0a p0k p0w p0l), (oX1 (p1a 0) p1a p1k p1n p1w p1l)] : List va_W)) sz) t) (va_A (List.flatten ([(oX4 (p0a 0) p0a p0k p0w p0l), (oX1 (p1a 0) p1a p1k p1n p1w p1l)] : List va_W)) sz)) 0 0 (va_A (List.flatten ([(oX4 (p0a 0) p0a p0k p0w p0l), (oX1 (p1a 0) p1a p1k p1n p1w p1l)] : List va_W)) sz) := by
  refine Met.ofW (cc := cX4_fillPhis) (maxL := 6) (ret := (Option.none : Option Jvm.ClassFile.FieldType)) (by decide) rfl ?_
  intro p e s m args below meth c s₁ B hml hv
  obtain ⟨rfl, hsz, hP, hK, hD0, hE⟩ := hv
  have hx := B.exec
  have hb := B.bytes
  have hr := B.returns
  have hts0 := atoms_spec (ws := wz yX4_fillPhis cX4_fillPhis 6 (Option.none : Option Jvm.ClassFile.FieldType)) B.pre
  have hts : ∀ w ∈ gw, w.before _ s = true := fun w h => hts0 w (List.mem_cons_of_mem _ h)
  have hown : s.vm.findClass RX4 = some m.cls := findClass_of_methodNamed B.named
  have hlocks := B.notSynchronized
  subst hsz
  have hD := hD0.self (sz := s.heap.size)
  refine gQ9 ?_
  intro Q hQ
  generalize hAe : va_A (List.flatten ([(oX4 (p0a 0) p0a p0k p0w p0l), (oX1 (p1a 0) p1a p1k p1n p1w p1l)] : List va_W)) s.heap.size = A at hD hE hQ
  have hA : ∀ q : Nat, s.heap.size ≤ q → A q := fun q h => by rw [← hAe]; exact Or.inr h
  have hS : va_S A s.heap s.heap [] := va_S.rf
  have hP : va_P (dC, dI) cls (List.flatten ([(oX4 (p0a 0) p0a p0k p0w p0l), (oX1 (p1a 0) p1a p1k p1n p1w p1l)] : List va_W)) s.heap := hP
  have hl := lv_entry ([.ref (p0a 0), .ref (p1a 0)]) (n := 6) (Nat.le_of_ble_eq_true rfl)
  rw [lg_entry_eq]
  generalize (lg_sl ([.ref (p0a 0), .ref (p1a 0)]) ++ List.replicate (6 - (lg_sl ([.ref (p0a 0), .ref (p1a 0)])).length) Slot.unset).toArray = ls at hl ⊢
  have hl : lv_has ls 6 [(0, .ref (p0a 0)), (1, .ref (p1a 0))] := hl
  obtain ⟨H, hHe⟩ : ∃ H, H = s.heap := ⟨_, rfl⟩
  obtain ⟨locs, hle⟩ : ∃ locs : List Loc, locs = [] := ⟨_, rfl⟩
  rw [← hHe] at hP
  have hS : va_S A s.heap H locs := by rw [hHe, hle]; exact hS
  show W p l e ({ frames := 1, cells := 0, slots := 0, locals := 23 } : Room) s m ([.ref (p0a 0), .ref (p1a 0)] : List Value).toArray below meth c s.heap [] 0 0 Q (F0 m 0 ls [])
  rw [← hle]
  refine wH9 hHe ?_
  unfold fX4_fillPhis at hrun
  refine lv_iconst (v := 0) hx hb dX4_fillPhis_0 (by decide) ?_
  refine lv_istore_n (lv' := [(2, .int 0), (0, .ref (p0a 0)), (1, .ref (p1a 0))]) hx hb dX4_fillPhis_1 rfl hl (by decide) rfl (fun ls hl => ?_)
  have L2 : ∀ (n_2 : Nat) (v2_2 : Int32) (p1w_2 : ST) (o2 : ST) (H : Heap) (locs : List Loc) (ls : Array Slot), (fX4_fillPhis_L2 p0w p1n n_2) v2_2 p1w_2 = some o2 → va_P (dC, dI) cls (List.flatten ([(oX4 (p0a 0) p0a p0k p0w p0l), (oX1 (p1a 0) p1a p1k p1n p1w_2 p1l)] : List va_W)) H → va_D A (List.flatten ([(oX4 (p0a 0) p0a p0k p0w p0l), (oX1 (p1a 0) p1a p1k p1n p1w_2 p1l)] : List va_W)) → va_K (dC, dI) cls (List.flatten ([(tX4 p0k), (tX1 p1k)] : List (List (ClassId × FieldType)))) s → va_S A s.heap H locs → lv_has ls 6 [(0, .ref (p0a 0)), (1, .ref (p1a 0)), (2, .int v2_2)] → (∀ (H : Heap) (locs : List Loc) (ls : Array Slot), va_P (dC, dI) cls (List.flatten ([(oX4 (p0a 0) p0a p0k p0w p0l), (oX1 (p1a 0) p1a p1k p1n o2 p1l)] : List va_W)) H → va_D A (List.flatten ([(oX4 (p0a 0) p0a p0k p0w p0l), (oX1 (p1a 0) p1a p1k p1n o2 p1l)] : List va_W)) → va_K (dC, dI) cls (List.flatten ([(tX4 p0k), (tX1 p1k)] : List (List (ClassId × FieldType)))) s → va_S A s.heap H locs → lv_has ls 6 [] → W p l e ({ frames := 1, cells := 0, slots := 0, locals := 23 } : Room) s m ([.ref (p0a 0), .ref (p1a 0)] : List Value).toArray below meth c H locs 0 0 Q (F0 m 90 ls [])) → W p l e ({ frames := 1, cells := 0, slots := 0, locals := 23 } : Room) s m ([.ref (p0a 0), .ref (p1a 0)] : List Value).toArray below meth c H locs 0 0 Q (F0 m 2 ls []) := by
    intro n_2
    induction n_2 with
    | zero => intro v2_2 p1w_2 o2 H locs ls hrun; exact (no9 rfl hrun).elim
    | succ n_2 IH2 =>
      intro v2_2 p1w_2 o2 H locs ls hrun hP hD hK hS hl hk2
      unfold fX4_fillPhis_L2 at hrun
      refine lv_iload_n hx hb dX4_fillPhis_2 rfl (lv_at hl 2 rfl) ?_
      refine lv_aload_n hx hb dX4_fillPhis_3 rfl (lv_at hl 1 rfl) ?_
      refine va_get (D := (dC, dI)) (ci := 4) (v := .int (p1w_2 0 0)) (C := RX1) (T := TX1) (N := 21) hx hb hts i_X1 hown hK hP 19 rfl rfl 0 (by decide) (hts _ qw313) (fun _ h9 => h9) rfl dX4_fillPhis_4 ?_
      rcases br9 hrun with ⟨hc1, hrun⟩ | ⟨hc1, hrun⟩
      · refine lv_icmp_ge (tgt := 90) hx hb dX4_fillPhis_7 (by decide) (fun _ => ?_) (fun c => absurd hc1 c)
        obtain rfl := (Option.some.inj hrun)
        exact hk2 _ _ _ hP hD hK hS (lv_sub hl [] rfl)
      · refine lv_icmp_ge (tgt := 90) hx hb dX4_fillPhis_7 (by decide) (fun c => absurd c hc1) (fun _ => ?_)
        refine lv_aload_n hx hb dX4_fillPhis_10 rfl (lv_at hl 1 rfl) ?_
        refine va_get (D := (dC, dI)) (ci := 4) (v := .ref (p1a 6)) (C := RX1) (T := TX1) (N := 21) hx hb hts i_X1 hown hK hP 19 rfl rfl 5 (by decide) (hts _ qw282) (fun _ h9 => h9) rfl dX4_fillPhis_11 ?_
        refine lv_iload_n hx hb dX4_fillPhis_14 rfl (lv_at hl 2 rfl) ?_
        obtain ⟨hq2, hrun⟩ := chk9 hrun
        refine va_iald hx hb hK hP 22 20 rfl rfl (ixb_in hq2) dX4_fillPhis_15 ?_
        refine lv_istore_n (lv' := [(3, .int (p1w_2 6 (nn v2_2))), (0, .ref (p0a 0)), (1, .ref (p1a 0)), (2, .int v2_2)]) hx hb dX4_fillPhis_16 rfl hl (by decide) rfl (fun ls hl => ?_)
        have L17 : ∀ (n_17 : Nat) (v3_17 : Int32) (p1w_17 : ST) (o17 : ST) (H : Heap) (locs : List Loc) (ls : Array Slot), (fX4_fillPhis_L17 p0w p1n v2_2 n_17) v3_17 p1w_17 = some o17 → va_P (dC, dI) cls (List.flatten ([(oX4 (p0a 0) p0a p0k p0w p0l), (oX1 (p1a 0) p1a p1k p1n p1w_17 p1l)] : List va_W)) H → va_D A (List.flatten ([(oX4 (p0a 0) p0a p0k p0w p0l), (oX1 (p1a 0) p1a p1k p1n p1w_17 p1l)] : List va_W)) → va_K (dC, dI) cls (List.flatten ([(tX4 p0k), (tX1 p1k)] : List (List (ClassId × FieldType)))) s → va_S A s.heap H locs → lv_has ls 6 [(0, .ref (p0a 0)), (1, .ref (p1a 0)), (2, .int v2_2), (3, .int v3_17)] → (∀ (H : Heap) (locs : List Loc) (ls : Array Slot), va_P (dC, dI) cls (List.flatten ([(oX4 (p0a 0) p0a p0k p0w p0l), (oX1 (p1a 0) p1a p1k p1n o17 p1l)] : List va_W)) H → va_D A (List.flatten ([(oX4 (p0a 0) p0a p0k p0w p0l), (oX1 (p1a 0) p1a p1k p1n o17 p1l)] : List va_W)) → va_K (dC, dI) cls (List.flatten ([(tX4 p0k), (tX1 p1k)] : List (List (ClassId × FieldType)))) s → va_S A s.heap H locs → lv_has ls 6 [(0, .ref (p0a 0)), (1, .ref (p1a 0)), (2, .int v2_2)] → W p l e ({ frames := 1, cells := 0, slots := 0, locals := 23 } : Room) s m ([.ref (p0a 0), .ref (p1a 0)] : List Value).toArray below meth c H locs 0 0 Q (F0 m 84 ls [])) → W p l e ({ frames := 1, cells := 0, slots := 0, locals := 23 } : Room) s m ([.ref (p0a 0), .ref (p1a 0)] : List Value).toArray below meth c H locs 0 0 Q (F0 m 17 ls []) := by
          intro n_17
          induction n_17 with
          | zero => intro v3_17 p1w_17 o17 H locs ls hrun; exact (no9 rfl hrun).elim
          | succ n_17 IH17 =>
            intro v3_17 p1w_17 o17 H locs ls hrun hP hD hK hS hl hk17
            unfold fX4_fillPhis_L17 at hrun
            refine lv_iload_n hx hb dX4_fillPhis_17 rfl (lv_at hl 3 rfl) ?_
            rcases br9 hrun with ⟨hc3, hrun⟩ | ⟨hc3, hrun⟩
            · refine lv_if_lt (tgt := 84) hx hb dX4_fillPhis_18 (by decide) (fun _ => ?_) (fun c => absurd hc3 c)
              obtain rfl := (Option.some.inj hrun)
              exact hk17 _ _ _ hP hD hK hS (lv_sub hl [0, 1, 2] rfl)
            · refine lv_if_lt (tgt := 84) hx hb dX4_fillPhis_18 (by decide) (fun c => absurd c hc3) (fun _ => ?_)
              refine lv_iconst (v := 0) hx hb dX4_fillPhis_21 (by decide) ?_
              refine lv_istore (lv' := [(4, .int 0), (0, .ref (p0a 0)), (1, .ref (p1a 0)), (2, .int v2_2), (3, .int v3_17)]) hx hb dX4_fillPhis_22 hl (by decide) rfl (fun ls hl => ?_)
              have L24 : ∀ (n_24 : Nat) (v4_24 : Int32) (p1w_24 : ST) (o24 : ST) (H : Heap) (locs : List Loc) (ls : Array Slot), (fX4_fillPhis_L24 p0w p1n v2_2 v3_17 n_24) v4_24 p1w_24 = some o24 → va_P (dC, dI) cls (List.flatten ([(oX4 (p0a 0) p0a p0k p0w p0l), (oX1 (p1a 0) p1a p1k p1n p1w_24 p1l)] : List va_W)) H → va_D A (List.flatten ([(oX4 (p0a 0) p0a p0k p0w p0l), (oX1 (p1a 0) p1a p1k p1n p1w_24 p1l)] : List va_W)) → va_K (dC, dI) cls (List.flatten ([(tX4 p0k), (tX1 p1k)] : List (List (ClassId × FieldType)))) s → va_S A s.heap H locs → lv_has ls 6 [(0, .ref (p0a 0)), (1, .ref (p1a 0)), (2, .int v2_2), (3, .int v3_17), (4, .int v4_24)] → (∀ (H : Heap) (locs : List Loc) (ls : Array Slot), va_P (dC, dI) cls (List.flatten ([(oX4 (p0a 0) p0a p0k p0w p0l), (oX1 (p1a 0) p1a p1k p1n o24 p1l)] : List va_W)) H → va_D A (List.flatten ([(oX4 (p0a 0) p0a p0k p0w p0l), (oX1 (p1a 0) p1a p1k p1n o24 p1l)] : List va_W)) → va_K (dC, dI) cls (List.flatten ([(tX4 p0k), (tX1 p1k)] : List (List (ClassId × FieldType)))) s → va_S A s.heap H locs → lv_has ls 6 [(0, .ref (p0a 0)), (1, .ref (p1a 0)), (2, .int v2_2), (3, .int v3_17)] → W p l e ({ frames := 1, cells := 0, slots := 0, locals := 23 } : Room) s m ([.ref (p0a 0), .ref (p1a 0)] : List Value).toArray below meth c H locs 0 0 Q (F0 m 74 ls [])) → W p l e ({ frames := 1, cells := 0, slots := 0, locals := 23 } : Room) s m ([.ref (p0a 0), .ref (p1a 0)] : List Value).toArray below meth c H locs 0 0 Q (F0 m 24 ls []) := by
                intro n_24
                induction n_24 with
                | zero => intro v4_24 p1w_24 o24 H locs ls hrun; exact (no9 rfl hrun).elim
                | succ n_24 IH24 =>
                  intro v4_24 p1w_24 o24 H locs ls hrun hP hD hK hS hl hk24
                  unfold fX4_fillPhis_L24 at hrun
                  refine lv_iload hx hb dX4_fillPhis_24 (lv_at hl 4 rfl) ?_
                  refine lv_aload_n hx hb dX4_fillPhis_26 rfl (lv_at hl 1 rfl) ?_
                  refine lv_iload_n hx hb dX4_fillPhis_27 rfl (lv_at hl 2 rfl) ?_
                  obtain ⟨o_4, hc_4, hrun⟩ := bnd9 hrun
                  have hPx : va_P (dC, dI) cls ((List.flatten ([(oX1 (p1a 0) p1a p1k p1n p1w_24 p1l)] : List va_W)) ++ (List.flatten ([(oX4 (p0a 0) p0a p0k p0w p0l)] : List va_W))) H := vP_fa (vP_perm hP (bP ((((List.Perm.refl _)).cons _).trans (List.Perm.swap _ _ _))))
                  have hDx : va_D A ((List.flatten ([(oX1 (p1a 0) p1a p1k p1n p1w_24 p1l)] : List va_W)) ++ (List.flatten ([(oX4 (p0a 0) p0a p0k p0w p0l)] : List va_W))) := vD_fa (vD_perm hD (bP ((((List.Perm.refl _)).cons _).trans (List.Perm.swap _ _ _))))
                  have hKx : va_K (dC, dI) cls ((List.flatten ([(tX1 p1k)] : List (List (ClassId × FieldType)))) ++ (List.flatten ([(tX4 p0k)] : List (List (ClassId × FieldType))))) s := vK_fa (vK_perm hK (bP ((((List.Perm.refl _)).cons _).trans (List.Perm.swap _ _ _))))
                  have hPc := vP_l hPx
                  have hDc := vD_l hDx
                  have hKc := vK_l hKx
                  have hFc := vfree hDx hS hA
                  refine va_calli (va_runV (As := [.int v2_2]) (rest := [.int v4_24]) ⟨hx, hb, hml, hown, hts⟩ (kX1_waysTo l dC dI (p0a := p1a) (p0k := p1k) (p0n := p1n) (p0w := p1w_24) (p0l := p1l) (p1 := v2_2) (sz := _) (o := o_4) (hrun := hc_4)) (cwV 1 hts (gi_V qw314 qw185 qw186 qw126 (gi_z qw183)) rfl rfl rfl (by decide +kernel) ⟨Nat.le_of_ble_eq_true rfl, Nat.le_of_ble_eq_true rfl⟩) ⟨PRE.blind, va_recv hKc hPc (ci := 4) (q0 := 0) rfl rfl, PRE.of hE hS hFc hPc hKc hDc⟩ rfl rfl hl.1 rfl (lv_room (Nat.le_of_ble_eq_true rfl)) dX4_fillPhis_28 ⟨(Nat.le_of_ble_eq_true rfl), (Nat.le_of_ble_eq_true rfl)⟩) hS (fun q _ h => hFc q h) hFc (fun r5 u t H locs ht hvm hw hB hz1 hk1 hS => ?_)
                  obtain ⟨b1, b2, b3⟩ := hB
                  rw [ht] at b1
                  obtain ⟨hP, hD, hK⟩ := JOINC (wc := (List.flatten ([(oX1 (p1a 0) p1a p1k p1n p1w_24 p1l)] : List va_W))) (wr := (List.flatten ([(oX4 (p0a 0) p0a p0k p0w p0l)] : List va_W))) (w1 := (List.flatten ([(oX1 (p1a 0) p1a p1k p1n p1w_24 p1l)] : List va_W))) (t1 := (List.flatten ([(tX1 p1k)] : List (List (ClassId × FieldType))))) hPx hDx hKx hk1 hFc b1 (va_K.moved hvm.symm b2) b3
                  have hP : va_P (dC, dI) cls (List.flatten ([(oX4 (p0a 0) p0a p0k p0w p0l), (oX1 (p1a 0) p1a p1k p1n p1w_24 p1l)] : List va_W)) H := vP_perm (vP_fb hP) (bP ((((List.Perm.refl _)).cons _).trans (List.Perm.swap _ _ _)))
                  have hD : va_D A (List.flatten ([(oX4 (p0a 0) p0a p0k p0w p0l), (oX1 (p1a 0) p1a p1k p1n p1w_24 p1l)] : List va_W)) := vD_perm (vD_fb hD) (bP ((((List.Perm.refl _)).cons _).trans (List.Perm.swap _ _ _)))
                  have hK : va_K (dC, dI) cls (List.flatten ([(tX4 p0k), (tX1 p1k)] : List (List (ClassId × FieldType)))) s := vK_perm (vK_fb hK) (bP ((((List.Perm.refl _)).cons _).trans (List.Perm.swap _ _ _)))
                  obtain rfl : o_4 = r5 := hw.symm
                  rcases br9 hrun with ⟨hc6, hrun⟩ | ⟨hc6, hrun⟩
                  · refine lv_icmp_ge (tgt := 74) hx hb dX4_fillPhis_31 (by decide) (fun _ => ?_) (fun c => absurd hc6 c)
                    obtain rfl := (Option.some.inj hrun)
                    exact hk24 _ _ _ hP hD hK hS (lv_sub hl [0, 1, 2, 3] rfl)
                  · refine lv_icmp_ge (tgt := 74) hx hb dX4_fillPhis_31 (by decide) (fun c => absurd c hc6) (fun _ => ?_)
                    refine lv_aload_n hx hb dX4_fillPhis_34 rfl (lv_at hl 1 rfl) ?_
                    refine lv_iload_n hx hb dX4_fillPhis_35 rfl (lv_at hl 2 rfl) ?_
                    refine lv_iload hx hb dX4_fillPhis_36 (lv_at hl 4 rfl) ?_
                    obtain ⟨o_7, hc_7, hrun⟩ := bnd9 hrun
                    have hPx : va_P (dC, dI) cls ((List.flatten ([(oX1 (p1a 0) p1a p1k p1n p1w_24 p1l)] : List va_W)) ++ (List.flatten ([(oX4 (p0a 0) p0a p0k p0w p0l)] : List va_W))) H := vP_fa (vP_perm hP (bP ((((List.Perm.refl _)).cons _).trans (List.Perm.swap _ _ _))))
                    have hDx : va_D A ((List.flatten ([(oX1 (p1a 0) p1a p1k p1n p1w_24 p1l)] : List va_W)) ++ (List.flatten ([(oX4 (p0a 0) p0a p0k p0w p0l)] : List va_W))) := vD_fa (vD_perm hD (bP ((((List.Perm.refl _)).cons _).trans (List.Perm.swap _ _ _))))
                    have hKx : va_K (dC, dI) cls ((List.flatten ([(tX1 p1k)] : List (List (ClassId × FieldType)))) ++ (List.flatten ([(tX4 p0k)] : List (List (ClassId × FieldType))))) s := vK_fa (vK_perm hK (bP ((((List.Perm.refl _)).cons _).trans (List.Perm.swap _ _ _))))
                    have hPc := vP_l hPx
                    have hDc := vD_l hDx
                    have hKc := vK_l hKx
                    have hFc := vfree hDx hS hA
                    refine va_calli (va_runV (As := [.int v2_2, .int v4_24]) (rest := []) ⟨hx, hb, hml, hown, hts⟩ (kX1_wayFrom l dC dI (p0a := p1a) (p0k := p1k) (p0n := p1n) (p0w := p1w_24) (p0l := p1l) (p1 := v2_2) (p2 := v4_24) (sz := _) (o := o_7) (hrun := hc_7)) (cwV 2 hts (gi_V qw315 qw189 qw190 qw126 (gi_z qw187)) rfl rfl rfl (by decide +kernel) ⟨Nat.le_of_ble_eq_true rfl, Nat.le_of_ble_eq_true rfl⟩) ⟨PRE.blind, va_recv hKc hPc (ci := 4) (q0 := 0) rfl rfl, PRE.of hE hS hFc hPc hKc hDc⟩ rfl rfl hl.1 rfl (lv_room (Nat.le_of_ble_eq_true rfl)) dX4_fillPhis_38 ⟨(Nat.le_of_ble_eq_true rfl), (Nat.le_of_ble_eq_true rfl)⟩) hS (fun q _ h => hFc q h) hFc (fun r8 u t H locs ht hvm hw hB hz1 hk1 hS => ?_)
                    obtain ⟨b1, b2, b3⟩ := hB
                    rw [ht] at b1
                    obtain ⟨hP, hD, hK⟩ := JOINC (wc := (List.flatten ([(oX1 (p1a 0) p1a p1k p1n p1w_24 p1l)] : List va_W))) (wr := (List.flatten ([(oX4 (p0a 0) p0a p0k p0w p0l)] : List va_W))) (w1 := (List.flatten ([(oX1 (p1a 0) p1a p1k p1n p1w_24 p1l)] : List va_W))) (t1 := (List.flatten ([(tX1 p1k)] : List (List (ClassId × FieldType))))) hPx hDx hKx hk1 hFc b1 (va_K.moved hvm.symm b2) b3
                    have hP : va_P (dC, dI) cls (List.flatten ([(oX4 (p0a 0) p0a p0k p0w p0l), (oX1 (p1a 0) p1a p1k p1n p1w_24 p1l)] : List va_W)) H := vP_perm (vP_fb hP) (bP ((((List.Perm.refl _)).cons _).trans (List.Perm.swap _ _ _)))
                    have hD : va_D A (List.flatten ([(oX4 (p0a 0) p0a p0k p0w p0l), (oX1 (p1a 0) p1a p1k p1n p1w_24 p1l)] : List va_W)) := vD_perm (vD_fb hD) (bP ((((List.Perm.refl _)).cons _).trans (List.Perm.swap _ _ _)))
                    have hK : va_K (dC, dI) cls (List.flatten ([(tX4 p0k), (tX1 p1k)] : List (List (ClassId × FieldType)))) s := vK_perm (vK_fb hK) (bP ((((List.Perm.refl _)).cons _).trans (List.Perm.swap _ _ _)))
                    obtain rfl : o_7 = r8 := hw.symm
                    refine lv_istore (lv' := [(5, .int o_7), (0, .ref (p0a 0)), (1, .ref (p1a 0)), (2, .int v2_2), (3, .int v3_17), (4, .int v4_24)]) hx hb dX4_fillPhis_41 hl (by decide) rfl (fun ls hl => ?_)
                    refine lv_aload_n hx hb dX4_fillPhis_43 rfl (lv_at hl 2 rfl) ?_
                    refine lv_iload_n hx hb dX4_fillPhis_44 rfl (lv_at hl 4 rfl) ?_
                    refine lv_iload hx hb dX4_fillPhis_45 (lv_at hl 0 rfl) ?_
                    refine lv_aload_n hx hb dX4_fillPhis_47 rfl (lv_at hl 1 rfl) ?_
                    refine va_get (D := (dC, dI)) (ci := 6) (v := .ref (p0a 20)) (C := RX4) (T := TX4) (N := 20) hx hb hts i_X4 hown hK hP 0 rfl rfl 19 (by decide) (hts _ qw275) (fun _ h9 => h9) rfl dX4_fillPhis_48 ?_
                    refine lv_iload hx hb dX4_fillPhis_51 (lv_at hl 0 rfl) ?_
                    refine lv_sipush (v := 320) hx hb dX4_fillPhis_53 (by decide) ?_
                    refine lv_imul hx hb dX4_fillPhis_56 ?_
                    refine lv_aload_n hx hb dX4_fillPhis_57 rfl (lv_at hl 1 rfl) ?_
                    refine va_get (D := (dC, dI)) (ci := 6) (v := .ref (p0a 19)) (C := RX4) (T := TX4) (N := 20) hx hb hts i_X4 hown hK hP 0 rfl rfl 18 (by decide) (hts _ qw283) (fun _ h9 => h9) rfl dX4_fillPhis_58 ?_
                    refine lv_iload_n hx hb dX4_fillPhis_61 rfl (lv_at hl 4 rfl) ?_
                    obtain ⟨hq9, hrun⟩ := chk9 hrun
                    refine va_iald hx hb hK hP 17 16 rfl rfl (ixb_in hq9) dX4_fillPhis_62 ?_
                    refine lv_iadd hx hb dX4_fillPhis_63 ?_
                    obtain ⟨hq10, hrun⟩ := chk9 hrun
                    refine va_iald hx hb hK hP 18 17 rfl rfl (ixb_in hq10) dX4_fillPhis_64 ?_
                    obtain ⟨o_11, hc_11, hrun⟩ := bnd9 hrun
                    have hPx : va_P (dC, dI) cls ((List.flatten ([(oX1 (p1a 0) p1a p1k p1n p1w_24 p1l)] : List va_W)) ++ (List.flatten ([(oX4 (p0a 0) p0a p0k p0w p0l)] : List va_W))) H := vP_fa (vP_perm hP (bP ((((List.Perm.refl _)).cons _).trans (List.Perm.swap _ _ _))))
                    have hDx : va_D A ((List.flatten ([(oX1 (p1a 0) p1a p1k p1n p1w_24 p1l)] : List va_W)) ++ (List.flatten ([(oX4 (p0a 0) p0a p0k p0w p0l)] : List va_W))) := vD_fa (vD_perm hD (bP ((((List.Perm.refl _)).cons _).trans (List.Perm.swap _ _ _))))
                    have hKx : va_K (dC, dI) cls ((List.flatten ([(tX1 p1k)] : List (List (ClassId × FieldType)))) ++ (List.flatten ([(tX4 p0k)] : List (List (ClassId × FieldType))))) s := vK_fa (vK_perm hK (bP ((((List.Perm.refl _)).cons _).trans (List.Perm.swap _ _ _))))
                    have hPc := vP_l hPx
                    have hDc := vD_l hDx
                    have hKc := vK_l hKx
                    have hFc := vfree hDx hS hA
                    refine va_callv (va_runV (As := [.int v3_17, .int o_7, .int (p0w 20 (nn ((o_7 * 320) + (p0w 19 (nn v3_17)))))]) (rest := []) ⟨hx, hb, hml, hown, hts⟩ (kX1_setTake l dC dI (p0a := p1a) (p0k := p1k) (p0n := p1n) (p0w := p1w_24) (p0l := p1l) (p1 := v3_17) (p2 := o_7) (p3 := (p0w 20 (nn ((o_7 * 320) + (p0w 19 (nn v3_17)))))) (sz := _) (o := o_11) (hrun := hc_11)) (cwV 3 hts (gi_V qw317 qw318 qw319 qw126 (gi_z qw316)) rfl rfl rfl (by decide +kernel) ⟨Nat.le_of_ble_eq_true rfl, Nat.le_of_ble_eq_true rfl⟩) ⟨PRE.blind, va_recv hKc hPc (ci := 4) (q0 := 0) rfl rfl, PRE.of hE hS hFc hPc hKc hDc⟩ rfl rfl hl.1 rfl (lv_room (Nat.le_of_ble_eq_true rfl)) dX4_fillPhis_65 ⟨(Nat.le_of_ble_eq_true rfl), (Nat.le_of_ble_eq_true rfl)⟩) hS (fun q _ h => hFc q h) hFc (fun u t H locs ht hvm hw hB hz1 hk1 hS => ?_)
                    obtain ⟨b1, b2, b3⟩ := hB
                    rw [ht] at b1
                    obtain ⟨hP, hD, hK⟩ := JOINC (wc := (List.flatten ([(oX1 (p1a 0) p1a p1k p1n p1w_24 p1l)] : List va_W))) (wr := (List.flatten ([(oX4 (p0a 0) p0a p0k p0w p0l)] : List va_W))) (w1 := (List.flatten ([(oX1 (p1a 0) p1a p1k p1n o_11 p1l)] : List va_W))) (t1 := (List.flatten ([(tX1 p1k)] : List (List (ClassId × FieldType))))) hPx hDx hKx hk1 hFc b1 (va_K.moved hvm.symm b2) b3
                    have hP : va_P (dC, dI) cls (List.flatten ([(oX4 (p0a 0) p0a p0k p0w p0l), (oX1 (p1a 0) p1a p1k p1n o_11 p1l)] : List va_W)) H := vP_perm (vP_fb hP) (bP ((((List.Perm.refl _)).cons _).trans (List.Perm.swap _ _ _)))
                    have hD : va_D A (List.flatten ([(oX4 (p0a 0) p0a p0k p0w p0l), (oX1 (p1a 0) p1a p1k p1n o_11 p1l)] : List va_W)) := vD_perm (vD_fb hD) (bP ((((List.Perm.refl _)).cons _).trans (List.Perm.swap _ _ _)))
                    have hK : va_K (dC, dI) cls (List.flatten ([(tX4 p0k), (tX1 p1k)] : List (List (ClassId × FieldType)))) s := vK_perm (vK_fb hK) (bP ((((List.Perm.refl _)).cons _).trans (List.Perm.swap _ _ _)))
                    refine lv_iinc (v := (v4_24 + 1)) (lv' := [(4, .int (v4_24 + 1)), (5, .int o_7), (0, .ref (p0a 0)), (1, .ref (p1a 0)), (2, .int v2_2), (3, .int v3_17)]) hx hb dX4_fillPhis_68 hl (k := 5) rfl rfl (by decide) rfl (fun ls hl => ?_)
                    refine lv_goto (tgt := 24) hx hb dX4_fillPhis_71 (by decide) ?_
                    exact IH24 (v4_24 + 1) o_11 o24 _ _ _ hrun hP hD hK hS (lv_sub hl [2, 3, 4, 5, 0] rfl) hk24
              obtain ⟨o24, hc24, hrun⟩ := bnd9 hrun
              refine L24 NF 0 p1w_17 o24 _ _ _ hc24 hP hD hK hS (lv_sub hl [1, 2, 3, 4, 0] rfl) ?_
              intro H locs ls hP hD hK hS hl
              have hl := hl
              refine lv_aload_n hx hb dX4_fillPhis_74 rfl (lv_at hl 1 rfl) ?_
              refine va_get (D := (dC, dI)) (ci := 4) (v := .ref (p1a 20)) (C := RX1) (T := TX1) (N := 21) hx hb hts i_X1 hown hK hP 19 rfl rfl 19 (by decide) (hts _ qw285) (fun _ h9 => h9) rfl dX4_fillPhis_75 ?_
              refine lv_iload_n hx hb dX4_fillPhis_78 rfl (lv_at hl 3 rfl) ?_
              obtain ⟨hq12, hrun⟩ := chk9 hrun
              refine va_iald hx hb hK hP 35 33 rfl rfl (ixb_in hq12) dX4_fillPhis_79 ?_
              refine lv_istore_n (lv' := [(3, .int (o24 20 (nn v3_17))), (0, .ref (p0a 0)), (1, .ref (p1a 0)), (2, .int v2_2)]) hx hb dX4_fillPhis_80 rfl hl (by decide) rfl (fun ls hl => ?_)
              refine lv_goto (tgt := 17) hx hb dX4_fillPhis_81 (by decide) ?_
              exact IH17 (o24 20 (nn v3_17)) o24 o17 _ _ _ hrun hP hD hK hS (lv_sub hl [1, 2, 3, 0] rfl) hk17
        obtain ⟨o17, hc17, hrun⟩ := bnd9 hrun
        refine L17 NF (p1w_2 6 (nn v2_2)) p1w_2 o17 _ _ _ hc17 hP hD hK hS (lv_sub hl [1, 2, 3, 0] rfl) ?_
        intro H locs ls hP hD hK hS hl
        have hl := hl
        refine lv_iinc (v := (v2_2 + 1)) (lv' := [(2, .int (v2_2 + 1)), (0, .ref (p0a 0)), (1, .ref (p1a 0))]) hx hb dX4_fillPhis_84 hl (k := 2) rfl rfl (by decide) rfl (fun ls hl => ?_)
        refine lv_goto (tgt := 2) hx hb dX4_fillPhis_87 (by decide) ?_
        exact IH2 (v2_2 + 1) o17 o2 _ _ _ hrun hP hD hK hS (lv_sub hl [1, 2, 0] rfl) hk2
  obtain ⟨o2, hc2, hrun⟩ := bnd9 hrun
  refine L2 NF 0 p1w o2 _ _ _ hc2 hP hD hK hS (lv_sub hl [1, 2, 0] rfl) ?_
  intro H locs ls hP hD hK hS hl
  have hl := hl
  have ho9 : o2 = o := Option.some.inj hrun
  have hP9 : va_P (dC, dI) cls (List.flatten ([(oX4 (p0a 0) p0a p0k p0w p0l), (oX1 (p1a 0) p1a p1k p1n o p1l)] : List va_W)) H := by first | exact hP | (rw [← ho9]; exact hP)
  have hD9 : va_D A (List.flatten ([(oX4 (p0a 0) p0a p0k p0w p0l), (oX1 (p1a 0) p1a p1k p1n o p1l)] : List va_W)) := by first | exact hD | (rw [← ho9]; exact hD)
  subst hQ
  exact W.vret hx hb hr (fun t ht hW => ⟨⟨(), rfl, trivial, ⟨by rw [ht]; exact hP9, va_K.moved hW.alike hK, hD9⟩⟩, hS.F ht⟩) hS.2.2 dX4_fillPhis_90
