abbrev cX8_renumber : ByteArray := prog_10_method_2_code
def yX8_renumber : MethodName := ⟨RX8, "renumber", "(LGearbox$Flow;)V"⟩
abbrev cX8_walk : ByteArray := prog_10_method_4_code
def yX8_walk : MethodName := ⟨RX8, "walk", "(LGearbox$Flow;)I"⟩
abbrev cX4_addPiece : ByteArray := prog_6_method_5_code
def yX4_addPiece : MethodName := ⟨RX4, "addPiece", "(IIII)V"⟩
abbrev cX4_blockOfPiece : ByteArray := prog_6_method_13_code
def yX4_blockOfPiece : MethodName := ⟨RX4, "blockOfPiece", "(I)I"⟩
abbrev cX4_cutPieces : ByteArray := prog_6_method_3_code
def yX4_cutPieces : MethodName := ⟨RX4, "cutPieces", "(LGearbox$Program;I)V"⟩
abbrev cX4_findLabels : ByteArray := prog_6_method_4_code
def yX4_findLabels : MethodName := ⟨RX4, "findLabels", "(LGearbox$Program;I)V"⟩
abbrev cJ7_fill_fda19 : ByteArray := prog_48_method_104_code
def yJ7_fill_fda19 : MethodName := ⟨RJ7, "fill", "([IIII)V"⟩
abbrev cJ7_rangeCheck_23922 : ByteArray := prog_48_method_30_code
def yJ7_rangeCheck_23922 : MethodName := ⟨RJ7, "rangeCheck", "(III)V"⟩
abbrev cX4_opsFrom : ByteArray := prog_6_method_15_code
def yX4_opsFrom : MethodName := ⟨RX4, "opsFrom", "(I)I"⟩
abbrev cX4_opsTo : ByteArray := prog_6_method_16_code
def yX4_opsTo : MethodName := ⟨RX4, "opsTo", "(I)I"⟩
abbrev cX4_valueAt : ByteArray := prog_6_method_9_code
def yX4_valueAt : MethodName := ⟨RX4, "valueAt", "(I)I"⟩
abbrev cX11_givesValue : ByteArray := prog_1_method_66_code
def yX11_givesValue : MethodName := ⟨RX11, "givesValue", "(I)Z"⟩
abbrev cX4_fillPhis : ByteArray := prog_6_method_25_code
def yX4_fillPhis : MethodName := ⟨RX4, "fillPhis", "(LGearbox$Flow;)V"⟩
abbrev cX4_findBorders : ByteArray := prog_6_method_18_code
def yX4_findBorders : MethodName := ⟨RX4, "findBorders", "(LGearbox$Flow;)V"⟩
abbrev cJ7_fill_d0a16 : ByteArray := prog_48_method_101_code
def yJ7_fill_d0a16 : MethodName := ⟨RJ7, "fill", "([JJ)V"⟩
theorem dJ7_fill_d0a16_0 : decode cJ7_fill_d0a16 0 = .ok (.iconst 0, 1) := by decide +kernel
theorem dJ7_fill_d0a16_1 : decode cJ7_fill_d0a16 1 = .ok (.istore_n 3, 1) := by decide +kernel
theorem dJ7_fill_d0a16_2 : decode cJ7_fill_d0a16 2 = .ok (.aload_n 0, 1) := by decide +kernel
theorem dJ7_fill_d0a16_3 : decode cJ7_fill_d0a16 3 = .ok (.arraylength, 1) := by decide +kernel
theorem dJ7_fill_d0a16_4 : decode cJ7_fill_d0a16 4 = .ok (.istore 4, 2) := by decide +kernel
theorem dJ7_fill_d0a16_6 : decode cJ7_fill_d0a16 6 = .ok (.iload_n 3, 1) := by decide +kernel
theorem dJ7_fill_d0a16_7 : decode cJ7_fill_d0a16 7 = .ok (.iload 4, 2) := by decide +kernel
theorem dJ7_fill_d0a16_9 : decode cJ7_fill_d0a16 9 = .ok (.if_icmp .ge 13, 3) := by decide +kernel
theorem dJ7_fill_d0a16_12 : decode cJ7_fill_d0a16 12 = .ok (.aload_n 0, 1) := by decide +kernel
theorem dJ7_fill_d0a16_13 : decode cJ7_fill_d0a16 13 = .ok (.iload_n 3, 1) := by decide +kernel
theorem dJ7_fill_d0a16_14 : decode cJ7_fill_d0a16 14 = .ok (.lload_n 1, 1) := by decide +kernel
theorem dJ7_fill_d0a16_15 : decode cJ7_fill_d0a16 15 = .ok (.lastore, 1) := by decide +kernel
theorem dJ7_fill_d0a16_16 : decode cJ7_fill_d0a16 16 = .ok (.iinc 3 1, 3) := by decide +kernel
theorem dJ7_fill_d0a16_19 : decode cJ7_fill_d0a16 19 = .ok (.goto (-13), 3) := by decide +kernel
theorem dJ7_fill_d0a16_22 : decode cJ7_fill_d0a16 22 = .ok (.return_, 1) := by decide +kernel
theorem dJ7_fill_fda19_0 : decode cJ7_fill_fda19 0 = .ok (.aload_n 0, 1) := by decide +kernel
theorem dJ7_fill_fda19_1 : decode cJ7_fill_fda19 1 = .ok (.arraylength, 1) := by decide +kernel
theorem dJ7_fill_fda19_2 : decode cJ7_fill_fda19 2 = .ok (.iload_n 1, 1) := by decide +kernel
theorem dJ7_fill_fda19_3 : decode cJ7_fill_fda19 3 = .ok (.iload_n 2, 1) := by decide +kernel
theorem dJ7_fill_fda19_4 : decode cJ7_fill_fda19 4 = .ok (.invokestatic 13, 3) := by decide +kernel
theorem dJ7_fill_fda19_7 : decode cJ7_fill_fda19 7 = .ok (.iload_n 1, 1) := by decide +kernel
theorem dJ7_fill_fda19_8 : decode cJ7_fill_fda19 8 = .ok (.istore 4, 2) := by decide +kernel
theorem dJ7_fill_fda19_10 : decode cJ7_fill_fda19 10 = .ok (.iload 4, 2) := by decide +kernel
theorem dJ7_fill_fda19_12 : decode cJ7_fill_fda19 12 = .ok (.iload_n 2, 1) := by decide +kernel
theorem dJ7_fill_fda19_13 : decode cJ7_fill_fda19 13 = .ok (.if_icmp .ge 14, 3) := by decide +kernel
theorem dJ7_fill_fda19_16 : decode cJ7_fill_fda19 16 = .ok (.aload_n 0, 1) := by decide +kernel
theorem dJ7_fill_fda19_17 : decode cJ7_fill_fda19 17 = .ok (.iload 4, 2) := by decide +kernel
theorem dJ7_fill_fda19_19 : decode cJ7_fill_fda19 19 = .ok (.iload_n 3, 1) := by decide +kernel
theorem dJ7_fill_fda19_20 : decode cJ7_fill_fda19 20 = .ok (.iastore, 1) := by decide +kernel
theorem dJ7_fill_fda19_21 : decode cJ7_fill_fda19 21 = .ok (.iinc 4 1, 3) := by decide +kernel
theorem dJ7_fill_fda19_24 : decode cJ7_fill_fda19 24 = .ok (.goto (-14), 3) := by decide +kernel
theorem dJ7_fill_fda19_27 : decode cJ7_fill_fda19 27 = .ok (.return_, 1) := by decide +kernel
theorem dJ7_rangeCheck_23922_0 : decode cJ7_rangeCheck_23922 0 = .ok (.iload_n 1, 1) := by decide +kernel
theorem dJ7_rangeCheck_23922_1 : decode cJ7_rangeCheck_23922 1 = .ok (.iload_n 2, 1) := by decide +kernel
theorem dJ7_rangeCheck_23922_2 : decode cJ7_rangeCheck_23922 2 = .ok (.if_icmp .le 44, 3) := by decide +kernel
theorem dJ7_rangeCheck_23922_46 : decode cJ7_rangeCheck_23922 46 = .ok (.iload_n 1, 1) := by decide +kernel
theorem dJ7_rangeCheck_23922_47 : decode cJ7_rangeCheck_23922 47 = .ok (.ifCond .ge 12, 3) := by decide +kernel
theorem dJ7_rangeCheck_23922_59 : decode cJ7_rangeCheck_23922 59 = .ok (.iload_n 2, 1) := by decide +kernel
theorem dJ7_rangeCheck_23922_60 : decode cJ7_rangeCheck_23922 60 = .ok (.iload_n 0, 1) := by decide +kernel
theorem dJ7_rangeCheck_23922_61 : decode cJ7_rangeCheck_23922 61 = .ok (.if_icmp .le 12, 3) := by decide +kernel
theorem dJ7_rangeCheck_23922_73 : decode cJ7_rangeCheck_23922 73 = .ok (.return_, 1) := by decide +kernel
theorem dX11_givesValue_0 : decode cX11_givesValue 0 = .ok (.iload_n 0, 1) := by decide +kernel
theorem dX11_givesValue_1 : decode cX11_givesValue 1 = .ok (.ifCond .lt 9, 3) := by decide +kernel
theorem dX11_givesValue_4 : decode cX11_givesValue 4 = .ok (.iload_n 0, 1) := by decide +kernel
theorem dX11_givesValue_5 : decode cX11_givesValue 5 = .ok (.bipush 17, 2) := by decide +kernel
theorem dX11_givesValue_7 : decode cX11_givesValue 7 = .ok (.if_icmp .le 15, 3) := by decide +kernel
theorem dX11_givesValue_10 : decode cX11_givesValue 10 = .ok (.iload_n 0, 1) := by decide +kernel
theorem dX11_givesValue_11 : decode cX11_givesValue 11 = .ok (.bipush 20, 2) := by decide +kernel
theorem dX11_givesValue_13 : decode cX11_givesValue 13 = .ok (.if_icmp .eq 9, 3) := by decide +kernel
theorem dX11_givesValue_16 : decode cX11_givesValue 16 = .ok (.iload_n 0, 1) := by decide +kernel
theorem dX11_givesValue_17 : decode cX11_givesValue 17 = .ok (.bipush 21, 2) := by decide +kernel
theorem dX11_givesValue_19 : decode cX11_givesValue 19 = .ok (.if_icmp .ne 7, 3) := by decide +kernel
theorem dX11_givesValue_22 : decode cX11_givesValue 22 = .ok (.iconst 1, 1) := by decide +kernel
theorem dX11_givesValue_23 : decode cX11_givesValue 23 = .ok (.goto 4, 3) := by decide +kernel
theorem dX11_givesValue_26 : decode cX11_givesValue 26 = .ok (.iconst 0, 1) := by decide +kernel
theorem dX11_givesValue_27 : decode cX11_givesValue 27 = .ok (.ireturn, 1) := by decide +kernel
theorem dX4_addPiece_0 : decode cX4_addPiece 0 = .ok (.aload_n 0, 1) := by decide +kernel
theorem dX4_addPiece_1 : decode cX4_addPiece 1 = .ok (.getfield 130, 3) := by decide +kernel
theorem dX4_addPiece_4 : decode cX4_addPiece 4 = .ok (.sipush 640, 3) := by decide +kernel
theorem dX4_addPiece_7 : decode cX4_addPiece 7 = .ok (.if_icmp .ge 54, 3) := by decide +kernel
theorem dX4_addPiece_10 : decode cX4_addPiece 10 = .ok (.aload_n 0, 1) := by decide +kernel
theorem dX4_addPiece_11 : decode cX4_addPiece 11 = .ok (.getfield 24, 3) := by decide +kernel
theorem dX4_addPiece_14 : decode cX4_addPiece 14 = .ok (.aload_n 0, 1) := by decide +kernel
theorem dX4_addPiece_15 : decode cX4_addPiece 15 = .ok (.getfield 130, 3) := by decide +kernel
theorem dX4_addPiece_18 : decode cX4_addPiece 18 = .ok (.iload_n 1, 1) := by decide +kernel
theorem dX4_addPiece_19 : decode cX4_addPiece 19 = .ok (.iastore, 1) := by decide +kernel
theorem dX4_addPiece_20 : decode cX4_addPiece 20 = .ok (.aload_n 0, 1) := by decide +kernel
theorem dX4_addPiece_21 : decode cX4_addPiece 21 = .ok (.getfield 27, 3) := by decide +kernel
theorem dX4_addPiece_24 : decode cX4_addPiece 24 = .ok (.aload_n 0, 1) := by decide +kernel
theorem dX4_addPiece_25 : decode cX4_addPiece 25 = .ok (.getfield 130, 3) := by decide +kernel
theorem dX4_addPiece_28 : decode cX4_addPiece 28 = .ok (.iload_n 2, 1) := by decide +kernel
theorem dX4_addPiece_29 : decode cX4_addPiece 29 = .ok (.iastore, 1) := by decide +kernel
theorem dX4_addPiece_30 : decode cX4_addPiece 30 = .ok (.aload_n 0, 1) := by decide +kernel
theorem dX4_addPiece_31 : decode cX4_addPiece 31 = .ok (.getfield 30, 3) := by decide +kernel
theorem dX4_addPiece_34 : decode cX4_addPiece 34 = .ok (.aload_n 0, 1) := by decide +kernel
theorem dX4_addPiece_35 : decode cX4_addPiece 35 = .ok (.getfield 130, 3) := by decide +kernel
theorem dX4_addPiece_38 : decode cX4_addPiece 38 = .ok (.iload_n 3, 1) := by decide +kernel
theorem dX4_addPiece_39 : decode cX4_addPiece 39 = .ok (.iastore, 1) := by decide +kernel
theorem dX4_addPiece_40 : decode cX4_addPiece 40 = .ok (.aload_n 0, 1) := by decide +kernel
theorem dX4_addPiece_41 : decode cX4_addPiece 41 = .ok (.getfield 33, 3) := by decide +kernel
theorem dX4_addPiece_44 : decode cX4_addPiece 44 = .ok (.aload_n 0, 1) := by decide +kernel
theorem dX4_addPiece_45 : decode cX4_addPiece 45 = .ok (.getfield 130, 3) := by decide +kernel
theorem dX4_addPiece_48 : decode cX4_addPiece 48 = .ok (.iload 4, 2) := by decide +kernel
theorem dX4_addPiece_50 : decode cX4_addPiece 50 = .ok (.iastore, 1) := by decide +kernel
theorem dX4_addPiece_51 : decode cX4_addPiece 51 = .ok (.aload_n 0, 1) := by decide +kernel
theorem dX4_addPiece_52 : decode cX4_addPiece 52 = .ok (.dup, 1) := by decide +kernel
theorem dX4_addPiece_53 : decode cX4_addPiece 53 = .ok (.getfield 130, 3) := by decide +kernel
theorem dX4_addPiece_56 : decode cX4_addPiece 56 = .ok (.iconst 1, 1) := by decide +kernel
theorem dX4_addPiece_57 : decode cX4_addPiece 57 = .ok (.iadd, 1) := by decide +kernel
theorem dX4_addPiece_58 : decode cX4_addPiece 58 = .ok (.putfield 130, 3) := by decide +kernel
theorem dX4_addPiece_61 : decode cX4_addPiece 61 = .ok (.return_, 1) := by decide +kernel
theorem dX4_blockOfPiece_0 : decode cX4_blockOfPiece 0 = .ok (.iload_n 1, 1) := by decide +kernel
theorem dX4_blockOfPiece_1 : decode cX4_blockOfPiece 1 = .ok (.ifCond .lt 11, 3) := by decide +kernel
theorem dX4_blockOfPiece_4 : decode cX4_blockOfPiece 4 = .ok (.iload_n 1, 1) := by decide +kernel
theorem dX4_blockOfPiece_5 : decode cX4_blockOfPiece 5 = .ok (.aload_n 0, 1) := by decide +kernel
theorem dX4_blockOfPiece_6 : decode cX4_blockOfPiece 6 = .ok (.getfield 130, 3) := by decide +kernel
theorem dX4_blockOfPiece_9 : decode cX4_blockOfPiece 9 = .ok (.if_icmp .lt 7, 3) := by decide +kernel
theorem dX4_blockOfPiece_12 : decode cX4_blockOfPiece 12 = .ok (.iconst (-1), 1) := by decide +kernel
theorem dX4_blockOfPiece_13 : decode cX4_blockOfPiece 13 = .ok (.goto 9, 3) := by decide +kernel
theorem dX4_blockOfPiece_16 : decode cX4_blockOfPiece 16 = .ok (.aload_n 0, 1) := by decide +kernel
theorem dX4_blockOfPiece_17 : decode cX4_blockOfPiece 17 = .ok (.getfield 39, 3) := by decide +kernel
theorem dX4_blockOfPiece_20 : decode cX4_blockOfPiece 20 = .ok (.iload_n 1, 1) := by decide +kernel
theorem dX4_blockOfPiece_21 : decode cX4_blockOfPiece 21 = .ok (.iaload, 1) := by decide +kernel
theorem dX4_blockOfPiece_22 : decode cX4_blockOfPiece 22 = .ok (.ireturn, 1) := by decide +kernel
theorem dX4_cutPieces_0 : decode cX4_cutPieces 0 = .ok (.aload_n 0, 1) := by decide +kernel
theorem dX4_cutPieces_1 : decode cX4_cutPieces 1 = .ok (.aload_n 1, 1) := by decide +kernel
theorem dX4_cutPieces_2 : decode cX4_cutPieces 2 = .ok (.iload_n 2, 1) := by decide +kernel
theorem dX4_cutPieces_3 : decode cX4_cutPieces 3 = .ok (.invokevirtual 127, 3) := by decide +kernel
theorem dX4_cutPieces_6 : decode cX4_cutPieces 6 = .ok (.aload_n 0, 1) := by decide +kernel
theorem dX4_cutPieces_7 : decode cX4_cutPieces 7 = .ok (.iconst 0, 1) := by decide +kernel
theorem dX4_cutPieces_8 : decode cX4_cutPieces 8 = .ok (.putfield 130, 3) := by decide +kernel
theorem dX4_cutPieces_11 : decode cX4_cutPieces 11 = .ok (.aload_n 1, 1) := by decide +kernel
theorem dX4_cutPieces_12 : decode cX4_cutPieces 12 = .ok (.getfield 133, 3) := by decide +kernel
theorem dX4_cutPieces_15 : decode cX4_cutPieces 15 = .ok (.iload_n 2, 1) := by decide +kernel
theorem dX4_cutPieces_16 : decode cX4_cutPieces 16 = .ok (.iaload, 1) := by decide +kernel
theorem dX4_cutPieces_17 : decode cX4_cutPieces 17 = .ok (.istore_n 3, 1) := by decide +kernel
theorem dX4_cutPieces_18 : decode cX4_cutPieces 18 = .ok (.aload_n 1, 1) := by decide +kernel
theorem dX4_cutPieces_19 : decode cX4_cutPieces 19 = .ok (.getfield 133, 3) := by decide +kernel
theorem dX4_cutPieces_22 : decode cX4_cutPieces 22 = .ok (.iload_n 2, 1) := by decide +kernel
theorem dX4_cutPieces_23 : decode cX4_cutPieces 23 = .ok (.iaload, 1) := by decide +kernel
theorem dX4_cutPieces_24 : decode cX4_cutPieces 24 = .ok (.istore 4, 2) := by decide +kernel
theorem dX4_cutPieces_26 : decode cX4_cutPieces 26 = .ok (.iload 4, 2) := by decide +kernel
theorem dX4_cutPieces_28 : decode cX4_cutPieces 28 = .ok (.aload_n 1, 1) := by decide +kernel
theorem dX4_cutPieces_29 : decode cX4_cutPieces 29 = .ok (.getfield 136, 3) := by decide +kernel
theorem dX4_cutPieces_32 : decode cX4_cutPieces 32 = .ok (.iload_n 2, 1) := by decide +kernel
theorem dX4_cutPieces_33 : decode cX4_cutPieces 33 = .ok (.iaload, 1) := by decide +kernel
theorem dX4_cutPieces_34 : decode cX4_cutPieces 34 = .ok (.if_icmp .ge 185, 3) := by decide +kernel
theorem dX4_cutPieces_37 : decode cX4_cutPieces 37 = .ok (.aload_n 1, 1) := by decide +kernel
theorem dX4_cutPieces_38 : decode cX4_cutPieces 38 = .ok (.getfield 139, 3) := by decide +kernel
theorem dX4_cutPieces_41 : decode cX4_cutPieces 41 = .ok (.iload 4, 2) := by decide +kernel
theorem dX4_cutPieces_43 : decode cX4_cutPieces 43 = .ok (.iaload, 1) := by decide +kernel
theorem dX4_cutPieces_44 : decode cX4_cutPieces 44 = .ok (.istore 5, 2) := by decide +kernel
theorem dX4_cutPieces_46 : decode cX4_cutPieces 46 = .ok (.aload_n 0, 1) := by decide +kernel
theorem dX4_cutPieces_47 : decode cX4_cutPieces 47 = .ok (.getfield 130, 3) := by decide +kernel
theorem dX4_cutPieces_50 : decode cX4_cutPieces 50 = .ok (.iconst 1, 1) := by decide +kernel
theorem dX4_cutPieces_51 : decode cX4_cutPieces 51 = .ok (.iadd, 1) := by decide +kernel
theorem dX4_cutPieces_52 : decode cX4_cutPieces 52 = .ok (.istore 6, 2) := by decide +kernel
theorem dX4_cutPieces_54 : decode cX4_cutPieces 54 = .ok (.iload 5, 2) := by decide +kernel
theorem dX4_cutPieces_56 : decode cX4_cutPieces 56 = .ok (.bipush 35, 2) := by decide +kernel
theorem dX4_cutPieces_58 : decode cX4_cutPieces 58 = .ok (.if_icmp .ne 19, 3) := by decide +kernel
theorem dX4_cutPieces_61 : decode cX4_cutPieces 61 = .ok (.aload_n 0, 1) := by decide +kernel
theorem dX4_cutPieces_62 : decode cX4_cutPieces 62 = .ok (.iload_n 3, 1) := by decide +kernel
theorem dX4_cutPieces_63 : decode cX4_cutPieces 63 = .ok (.iload 4, 2) := by decide +kernel
theorem dX4_cutPieces_65 : decode cX4_cutPieces 65 = .ok (.iload 6, 2) := by decide +kernel
theorem dX4_cutPieces_67 : decode cX4_cutPieces 67 = .ok (.iconst (-1), 1) := by decide +kernel
theorem dX4_cutPieces_68 : decode cX4_cutPieces 68 = .ok (.invokevirtual 142, 3) := by decide +kernel
theorem dX4_cutPieces_71 : decode cX4_cutPieces 71 = .ok (.iload 4, 2) := by decide +kernel
theorem dX4_cutPieces_73 : decode cX4_cutPieces 73 = .ok (.istore_n 3, 1) := by decide +kernel
theorem dX4_cutPieces_74 : decode cX4_cutPieces 74 = .ok (.goto 139, 3) := by decide +kernel
theorem dX4_cutPieces_77 : decode cX4_cutPieces 77 = .ok (.iload 5, 2) := by decide +kernel
theorem dX4_cutPieces_79 : decode cX4_cutPieces 79 = .ok (.bipush 22, 2) := by decide +kernel
theorem dX4_cutPieces_81 : decode cX4_cutPieces 81 = .ok (.if_icmp .ne 33, 3) := by decide +kernel
theorem dX4_cutPieces_84 : decode cX4_cutPieces 84 = .ok (.aload_n 0, 1) := by decide +kernel
theorem dX4_cutPieces_85 : decode cX4_cutPieces 85 = .ok (.iload_n 3, 1) := by decide +kernel
theorem dX4_cutPieces_86 : decode cX4_cutPieces 86 = .ok (.iload 4, 2) := by decide +kernel
theorem dX4_cutPieces_88 : decode cX4_cutPieces 88 = .ok (.iconst 1, 1) := by decide +kernel
theorem dX4_cutPieces_89 : decode cX4_cutPieces 89 = .ok (.iadd, 1) := by decide +kernel
theorem dX4_cutPieces_90 : decode cX4_cutPieces 90 = .ok (.aload_n 0, 1) := by decide +kernel
theorem dX4_cutPieces_91 : decode cX4_cutPieces 91 = .ok (.getfield 42, 3) := by decide +kernel
theorem dX4_cutPieces_94 : decode cX4_cutPieces 94 = .ok (.aload_n 1, 1) := by decide +kernel
theorem dX4_cutPieces_95 : decode cX4_cutPieces 95 = .ok (.getfield 146, 3) := by decide +kernel
theorem dX4_cutPieces_98 : decode cX4_cutPieces 98 = .ok (.iload 4, 2) := by decide +kernel
theorem dX4_cutPieces_100 : decode cX4_cutPieces 100 = .ok (.iaload, 1) := by decide +kernel
theorem dX4_cutPieces_101 : decode cX4_cutPieces 101 = .ok (.iaload, 1) := by decide +kernel
theorem dX4_cutPieces_102 : decode cX4_cutPieces 102 = .ok (.iconst (-1), 1) := by decide +kernel
theorem dX4_cutPieces_103 : decode cX4_cutPieces 103 = .ok (.invokevirtual 142, 3) := by decide +kernel
theorem dX4_cutPieces_106 : decode cX4_cutPieces 106 = .ok (.iload 4, 2) := by decide +kernel
theorem dX4_cutPieces_108 : decode cX4_cutPieces 108 = .ok (.iconst 1, 1) := by decide +kernel
theorem dX4_cutPieces_109 : decode cX4_cutPieces 109 = .ok (.iadd, 1) := by decide +kernel
theorem dX4_cutPieces_110 : decode cX4_cutPieces 110 = .ok (.istore_n 3, 1) := by decide +kernel
theorem dX4_cutPieces_111 : decode cX4_cutPieces 111 = .ok (.goto 102, 3) := by decide +kernel
theorem dX4_cutPieces_114 : decode cX4_cutPieces 114 = .ok (.iload 5, 2) := by decide +kernel
theorem dX4_cutPieces_116 : decode cX4_cutPieces 116 = .ok (.bipush 33, 2) := by decide +kernel
theorem dX4_cutPieces_118 : decode cX4_cutPieces 118 = .ok (.if_icmp .ne 34, 3) := by decide +kernel
theorem dX4_cutPieces_121 : decode cX4_cutPieces 121 = .ok (.aload_n 0, 1) := by decide +kernel
theorem dX4_cutPieces_122 : decode cX4_cutPieces 122 = .ok (.iload_n 3, 1) := by decide +kernel
theorem dX4_cutPieces_123 : decode cX4_cutPieces 123 = .ok (.iload 4, 2) := by decide +kernel
theorem dX4_cutPieces_125 : decode cX4_cutPieces 125 = .ok (.iconst 1, 1) := by decide +kernel
theorem dX4_cutPieces_126 : decode cX4_cutPieces 126 = .ok (.iadd, 1) := by decide +kernel
theorem dX4_cutPieces_127 : decode cX4_cutPieces 127 = .ok (.iload 6, 2) := by decide +kernel
theorem dX4_cutPieces_129 : decode cX4_cutPieces 129 = .ok (.aload_n 0, 1) := by decide +kernel
theorem dX4_cutPieces_130 : decode cX4_cutPieces 130 = .ok (.getfield 42, 3) := by decide +kernel
theorem dX4_cutPieces_133 : decode cX4_cutPieces 133 = .ok (.aload_n 1, 1) := by decide +kernel
theorem dX4_cutPieces_134 : decode cX4_cutPieces 134 = .ok (.getfield 146, 3) := by decide +kernel
theorem dX4_cutPieces_137 : decode cX4_cutPieces 137 = .ok (.iload 4, 2) := by decide +kernel
theorem dX4_cutPieces_139 : decode cX4_cutPieces 139 = .ok (.iaload, 1) := by decide +kernel
theorem dX4_cutPieces_140 : decode cX4_cutPieces 140 = .ok (.iaload, 1) := by decide +kernel
theorem dX4_cutPieces_141 : decode cX4_cutPieces 141 = .ok (.invokevirtual 142, 3) := by decide +kernel
theorem dX4_cutPieces_144 : decode cX4_cutPieces 144 = .ok (.iload 4, 2) := by decide +kernel
theorem dX4_cutPieces_146 : decode cX4_cutPieces 146 = .ok (.iconst 1, 1) := by decide +kernel
theorem dX4_cutPieces_147 : decode cX4_cutPieces 147 = .ok (.iadd, 1) := by decide +kernel
theorem dX4_cutPieces_148 : decode cX4_cutPieces 148 = .ok (.istore_n 3, 1) := by decide +kernel
theorem dX4_cutPieces_149 : decode cX4_cutPieces 149 = .ok (.goto 64, 3) := by decide +kernel
theorem dX4_cutPieces_152 : decode cX4_cutPieces 152 = .ok (.iload 5, 2) := by decide +kernel
theorem dX4_cutPieces_154 : decode cX4_cutPieces 154 = .ok (.bipush 34, 2) := by decide +kernel
theorem dX4_cutPieces_156 : decode cX4_cutPieces 156 = .ok (.if_icmp .ne 34, 3) := by decide +kernel
theorem dX4_cutPieces_159 : decode cX4_cutPieces 159 = .ok (.aload_n 0, 1) := by decide +kernel
theorem dX4_cutPieces_160 : decode cX4_cutPieces 160 = .ok (.iload_n 3, 1) := by decide +kernel
theorem dX4_cutPieces_161 : decode cX4_cutPieces 161 = .ok (.iload 4, 2) := by decide +kernel
theorem dX4_cutPieces_163 : decode cX4_cutPieces 163 = .ok (.iconst 1, 1) := by decide +kernel
theorem dX4_cutPieces_164 : decode cX4_cutPieces 164 = .ok (.iadd, 1) := by decide +kernel
theorem dX4_cutPieces_165 : decode cX4_cutPieces 165 = .ok (.aload_n 0, 1) := by decide +kernel
theorem dX4_cutPieces_166 : decode cX4_cutPieces 166 = .ok (.getfield 42, 3) := by decide +kernel
theorem dX4_cutPieces_169 : decode cX4_cutPieces 169 = .ok (.aload_n 1, 1) := by decide +kernel
theorem dX4_cutPieces_170 : decode cX4_cutPieces 170 = .ok (.getfield 146, 3) := by decide +kernel
theorem dX4_cutPieces_173 : decode cX4_cutPieces 173 = .ok (.iload 4, 2) := by decide +kernel
theorem dX4_cutPieces_175 : decode cX4_cutPieces 175 = .ok (.iaload, 1) := by decide +kernel
theorem dX4_cutPieces_176 : decode cX4_cutPieces 176 = .ok (.iaload, 1) := by decide +kernel
theorem dX4_cutPieces_177 : decode cX4_cutPieces 177 = .ok (.iload 6, 2) := by decide +kernel
theorem dX4_cutPieces_179 : decode cX4_cutPieces 179 = .ok (.invokevirtual 142, 3) := by decide +kernel
theorem dX4_cutPieces_182 : decode cX4_cutPieces 182 = .ok (.iload 4, 2) := by decide +kernel
theorem dX4_cutPieces_184 : decode cX4_cutPieces 184 = .ok (.iconst 1, 1) := by decide +kernel
theorem dX4_cutPieces_185 : decode cX4_cutPieces 185 = .ok (.iadd, 1) := by decide +kernel
theorem dX4_cutPieces_186 : decode cX4_cutPieces 186 = .ok (.istore_n 3, 1) := by decide +kernel
theorem dX4_cutPieces_187 : decode cX4_cutPieces 187 = .ok (.goto 26, 3) := by decide +kernel
theorem dX4_cutPieces_190 : decode cX4_cutPieces 190 = .ok (.iload 5, 2) := by decide +kernel
theorem dX4_cutPieces_192 : decode cX4_cutPieces 192 = .ok (.bipush 24, 2) := by decide +kernel
theorem dX4_cutPieces_194 : decode cX4_cutPieces 194 = .ok (.if_icmp .ne 19, 3) := by decide +kernel
theorem dX4_cutPieces_197 : decode cX4_cutPieces 197 = .ok (.aload_n 0, 1) := by decide +kernel
theorem dX4_cutPieces_198 : decode cX4_cutPieces 198 = .ok (.iload_n 3, 1) := by decide +kernel
theorem dX4_cutPieces_199 : decode cX4_cutPieces 199 = .ok (.iload 4, 2) := by decide +kernel
theorem dX4_cutPieces_201 : decode cX4_cutPieces 201 = .ok (.iconst 1, 1) := by decide +kernel
theorem dX4_cutPieces_202 : decode cX4_cutPieces 202 = .ok (.iadd, 1) := by decide +kernel
theorem dX4_cutPieces_203 : decode cX4_cutPieces 203 = .ok (.iconst (-1), 1) := by decide +kernel
theorem dX4_cutPieces_204 : decode cX4_cutPieces 204 = .ok (.iconst (-1), 1) := by decide +kernel
theorem dX4_cutPieces_205 : decode cX4_cutPieces 205 = .ok (.invokevirtual 142, 3) := by decide +kernel
theorem dX4_cutPieces_208 : decode cX4_cutPieces 208 = .ok (.iload 4, 2) := by decide +kernel
theorem dX4_cutPieces_210 : decode cX4_cutPieces 210 = .ok (.iconst 1, 1) := by decide +kernel
theorem dX4_cutPieces_211 : decode cX4_cutPieces 211 = .ok (.iadd, 1) := by decide +kernel
theorem dX4_cutPieces_212 : decode cX4_cutPieces 212 = .ok (.istore_n 3, 1) := by decide +kernel
theorem dX4_cutPieces_213 : decode cX4_cutPieces 213 = .ok (.iinc 4 1, 3) := by decide +kernel
theorem dX4_cutPieces_216 : decode cX4_cutPieces 216 = .ok (.goto (-190), 3) := by decide +kernel
theorem dX4_cutPieces_219 : decode cX4_cutPieces 219 = .ok (.return_, 1) := by decide +kernel
theorem dX4_fillPhis_0 : decode cX4_fillPhis 0 = .ok (.iconst 0, 1) := by decide +kernel
theorem dX4_fillPhis_1 : decode cX4_fillPhis 1 = .ok (.istore_n 2, 1) := by decide +kernel
theorem dX4_fillPhis_2 : decode cX4_fillPhis 2 = .ok (.iload_n 2, 1) := by decide +kernel
theorem dX4_fillPhis_3 : decode cX4_fillPhis 3 = .ok (.aload_n 1, 1) := by decide +kernel
theorem dX4_fillPhis_4 : decode cX4_fillPhis 4 = .ok (.getfield 87, 3) := by decide +kernel
theorem dX4_fillPhis_7 : decode cX4_fillPhis 7 = .ok (.if_icmp .ge 83, 3) := by decide +kernel
theorem dX4_fillPhis_10 : decode cX4_fillPhis 10 = .ok (.aload_n 1, 1) := by decide +kernel
theorem dX4_fillPhis_11 : decode cX4_fillPhis 11 = .ok (.getfield 240, 3) := by decide +kernel
theorem dX4_fillPhis_14 : decode cX4_fillPhis 14 = .ok (.iload_n 2, 1) := by decide +kernel
theorem dX4_fillPhis_15 : decode cX4_fillPhis 15 = .ok (.iaload, 1) := by decide +kernel
theorem dX4_fillPhis_16 : decode cX4_fillPhis 16 = .ok (.istore_n 3, 1) := by decide +kernel
theorem dX4_fillPhis_17 : decode cX4_fillPhis 17 = .ok (.iload_n 3, 1) := by decide +kernel
theorem dX4_fillPhis_18 : decode cX4_fillPhis 18 = .ok (.ifCond .lt 66, 3) := by decide +kernel
theorem dX4_fillPhis_21 : decode cX4_fillPhis 21 = .ok (.iconst 0, 1) := by decide +kernel
theorem dX4_fillPhis_22 : decode cX4_fillPhis 22 = .ok (.istore 4, 2) := by decide +kernel
theorem dX4_fillPhis_24 : decode cX4_fillPhis 24 = .ok (.iload 4, 2) := by decide +kernel
theorem dX4_fillPhis_26 : decode cX4_fillPhis 26 = .ok (.aload_n 1, 1) := by decide +kernel
theorem dX4_fillPhis_27 : decode cX4_fillPhis 27 = .ok (.iload_n 2, 1) := by decide +kernel
theorem dX4_fillPhis_28 : decode cX4_fillPhis 28 = .ok (.invokevirtual 218, 3) := by decide +kernel
theorem dX4_fillPhis_31 : decode cX4_fillPhis 31 = .ok (.if_icmp .ge 43, 3) := by decide +kernel
theorem dX4_fillPhis_34 : decode cX4_fillPhis 34 = .ok (.aload_n 1, 1) := by decide +kernel
theorem dX4_fillPhis_35 : decode cX4_fillPhis 35 = .ok (.iload_n 2, 1) := by decide +kernel
theorem dX4_fillPhis_36 : decode cX4_fillPhis 36 = .ok (.iload 4, 2) := by decide +kernel
theorem dX4_fillPhis_38 : decode cX4_fillPhis 38 = .ok (.invokevirtual 224, 3) := by decide +kernel
theorem dX4_fillPhis_41 : decode cX4_fillPhis 41 = .ok (.istore 5, 2) := by decide +kernel
theorem dX4_fillPhis_43 : decode cX4_fillPhis 43 = .ok (.aload_n 1, 1) := by decide +kernel
theorem dX4_fillPhis_44 : decode cX4_fillPhis 44 = .ok (.iload_n 3, 1) := by decide +kernel
theorem dX4_fillPhis_45 : decode cX4_fillPhis 45 = .ok (.iload 5, 2) := by decide +kernel
theorem dX4_fillPhis_47 : decode cX4_fillPhis 47 = .ok (.aload_n 0, 1) := by decide +kernel
theorem dX4_fillPhis_48 : decode cX4_fillPhis 48 = .ok (.getfield 64, 3) := by decide +kernel
theorem dX4_fillPhis_51 : decode cX4_fillPhis 51 = .ok (.iload 5, 2) := by decide +kernel
theorem dX4_fillPhis_53 : decode cX4_fillPhis 53 = .ok (.sipush 320, 3) := by decide +kernel
theorem dX4_fillPhis_56 : decode cX4_fillPhis 56 = .ok (.imul, 1) := by decide +kernel
theorem dX4_fillPhis_57 : decode cX4_fillPhis 57 = .ok (.aload_n 0, 1) := by decide +kernel
theorem dX4_fillPhis_58 : decode cX4_fillPhis 58 = .ok (.getfield 61, 3) := by decide +kernel
theorem dX4_fillPhis_61 : decode cX4_fillPhis 61 = .ok (.iload_n 3, 1) := by decide +kernel
theorem dX4_fillPhis_62 : decode cX4_fillPhis 62 = .ok (.iaload, 1) := by decide +kernel
theorem dX4_fillPhis_63 : decode cX4_fillPhis 63 = .ok (.iadd, 1) := by decide +kernel
theorem dX4_fillPhis_64 : decode cX4_fillPhis 64 = .ok (.iaload, 1) := by decide +kernel
theorem dX4_fillPhis_65 : decode cX4_fillPhis 65 = .ok (.invokevirtual 281, 3) := by decide +kernel
theorem dX4_fillPhis_68 : decode cX4_fillPhis 68 = .ok (.iinc 4 1, 3) := by decide +kernel
theorem dX4_fillPhis_71 : decode cX4_fillPhis 71 = .ok (.goto (-47), 3) := by decide +kernel
theorem dX4_fillPhis_74 : decode cX4_fillPhis 74 = .ok (.aload_n 1, 1) := by decide +kernel
theorem dX4_fillPhis_75 : decode cX4_fillPhis 75 = .ok (.getfield 246, 3) := by decide +kernel
theorem dX4_fillPhis_78 : decode cX4_fillPhis 78 = .ok (.iload_n 3, 1) := by decide +kernel
theorem dX4_fillPhis_79 : decode cX4_fillPhis 79 = .ok (.iaload, 1) := by decide +kernel
theorem dX4_fillPhis_80 : decode cX4_fillPhis 80 = .ok (.istore_n 3, 1) := by decide +kernel
theorem dX4_fillPhis_81 : decode cX4_fillPhis 81 = .ok (.goto (-64), 3) := by decide +kernel
theorem dX4_fillPhis_84 : decode cX4_fillPhis 84 = .ok (.iinc 2 1, 3) := by decide +kernel
theorem dX4_fillPhis_87 : decode cX4_fillPhis 87 = .ok (.goto (-85), 3) := by decide +kernel
theorem dX4_fillPhis_90 : decode cX4_fillPhis 90 = .ok (.return_, 1) := by decide +kernel
theorem dX4_findBorders_0 : decode cX4_findBorders 0 = .ok (.aload_n 0, 1) := by decide +kernel
theorem dX4_findBorders_1 : decode cX4_findBorders 1 = .ok (.getfield 58, 3) := by decide +kernel
theorem dX4_findBorders_4 : decode cX4_findBorders 4 = .ok (.lconst 0, 1) := by decide +kernel
theorem dX4_findBorders_5 : decode cX4_findBorders 5 = .ok (.invokestatic 205, 3) := by decide +kernel
theorem dX4_findBorders_8 : decode cX4_findBorders 8 = .ok (.iconst 0, 1) := by decide +kernel
theorem dX4_findBorders_9 : decode cX4_findBorders 9 = .ok (.istore_n 2, 1) := by decide +kernel
theorem dX4_findBorders_10 : decode cX4_findBorders 10 = .ok (.iload_n 2, 1) := by decide +kernel
theorem dX4_findBorders_11 : decode cX4_findBorders 11 = .ok (.aload_n 1, 1) := by decide +kernel
theorem dX4_findBorders_12 : decode cX4_findBorders 12 = .ok (.getfield 87, 3) := by decide +kernel
theorem dX4_findBorders_15 : decode cX4_findBorders 15 = .ok (.if_icmp .ge 100, 3) := by decide +kernel
theorem dX4_findBorders_18 : decode cX4_findBorders 18 = .ok (.iconst 0, 1) := by decide +kernel
theorem dX4_findBorders_19 : decode cX4_findBorders 19 = .ok (.istore_n 3, 1) := by decide +kernel
theorem dX4_findBorders_20 : decode cX4_findBorders 20 = .ok (.iload_n 3, 1) := by decide +kernel
theorem dX4_findBorders_21 : decode cX4_findBorders 21 = .ok (.aload_n 1, 1) := by decide +kernel
theorem dX4_findBorders_22 : decode cX4_findBorders 22 = .ok (.iload_n 2, 1) := by decide +kernel
theorem dX4_findBorders_23 : decode cX4_findBorders 23 = .ok (.invokevirtual 218, 3) := by decide +kernel
theorem dX4_findBorders_26 : decode cX4_findBorders 26 = .ok (.if_icmp .ge 83, 3) := by decide +kernel
theorem dX4_findBorders_29 : decode cX4_findBorders 29 = .ok (.aload_n 1, 1) := by decide +kernel
theorem dX4_findBorders_30 : decode cX4_findBorders 30 = .ok (.getfield 221, 3) := by decide +kernel
theorem dX4_findBorders_33 : decode cX4_findBorders 33 = .ok (.aload_n 1, 1) := by decide +kernel
theorem dX4_findBorders_34 : decode cX4_findBorders 34 = .ok (.iload_n 2, 1) := by decide +kernel
theorem dX4_findBorders_35 : decode cX4_findBorders 35 = .ok (.iload_n 3, 1) := by decide +kernel
theorem dX4_findBorders_36 : decode cX4_findBorders 36 = .ok (.invokevirtual 224, 3) := by decide +kernel
theorem dX4_findBorders_39 : decode cX4_findBorders 39 = .ok (.laload, 1) := by decide +kernel
theorem dX4_findBorders_40 : decode cX4_findBorders 40 = .ok (.lstore 4, 2) := by decide +kernel
theorem dX4_findBorders_42 : decode cX4_findBorders 42 = .ok (.iconst 0, 1) := by decide +kernel
theorem dX4_findBorders_43 : decode cX4_findBorders 43 = .ok (.istore 6, 2) := by decide +kernel
theorem dX4_findBorders_45 : decode cX4_findBorders 45 = .ok (.iload 6, 2) := by decide +kernel
theorem dX4_findBorders_47 : decode cX4_findBorders 47 = .ok (.aload_n 1, 1) := by decide +kernel
theorem dX4_findBorders_48 : decode cX4_findBorders 48 = .ok (.getfield 87, 3) := by decide +kernel
theorem dX4_findBorders_51 : decode cX4_findBorders 51 = .ok (.if_icmp .ge 52, 3) := by decide +kernel
theorem dX4_findBorders_54 : decode cX4_findBorders 54 = .ok (.lload 4, 2) := by decide +kernel
theorem dX4_findBorders_56 : decode cX4_findBorders 56 = .ok (.iload 6, 2) := by decide +kernel
theorem dX4_findBorders_58 : decode cX4_findBorders 58 = .ok (.invokestatic 214, 3) := by decide +kernel
theorem dX4_findBorders_61 : decode cX4_findBorders 61 = .ok (.ifCond .eq 36, 3) := by decide +kernel
theorem dX4_findBorders_64 : decode cX4_findBorders 64 = .ok (.iload 6, 2) := by decide +kernel
theorem dX4_findBorders_66 : decode cX4_findBorders 66 = .ok (.iload_n 2, 1) := by decide +kernel
theorem dX4_findBorders_67 : decode cX4_findBorders 67 = .ok (.if_icmp .eq 17, 3) := by decide +kernel
theorem dX4_findBorders_70 : decode cX4_findBorders 70 = .ok (.aload_n 1, 1) := by decide +kernel
theorem dX4_findBorders_71 : decode cX4_findBorders 71 = .ok (.getfield 221, 3) := by decide +kernel
theorem dX4_findBorders_74 : decode cX4_findBorders 74 = .ok (.iload_n 2, 1) := by decide +kernel
theorem dX4_findBorders_75 : decode cX4_findBorders 75 = .ok (.laload, 1) := by decide +kernel
theorem dX4_findBorders_76 : decode cX4_findBorders 76 = .ok (.iload 6, 2) := by decide +kernel
theorem dX4_findBorders_78 : decode cX4_findBorders 78 = .ok (.invokestatic 214, 3) := by decide +kernel
theorem dX4_findBorders_81 : decode cX4_findBorders 81 = .ok (.ifCond .ne 16, 3) := by decide +kernel
theorem dX4_findBorders_84 : decode cX4_findBorders 84 = .ok (.aload_n 0, 1) := by decide +kernel
theorem dX4_findBorders_85 : decode cX4_findBorders 85 = .ok (.getfield 58, 3) := by decide +kernel
theorem dX4_findBorders_88 : decode cX4_findBorders 88 = .ok (.iload 6, 2) := by decide +kernel
theorem dX4_findBorders_90 : decode cX4_findBorders 90 = .ok (.dup2, 1) := by decide +kernel
theorem dX4_findBorders_91 : decode cX4_findBorders 91 = .ok (.laload, 1) := by decide +kernel
theorem dX4_findBorders_92 : decode cX4_findBorders 92 = .ok (.lconst 1, 1) := by decide +kernel
theorem dX4_findBorders_93 : decode cX4_findBorders 93 = .ok (.iload_n 2, 1) := by decide +kernel
theorem dX4_findBorders_94 : decode cX4_findBorders 94 = .ok (.lshl, 1) := by decide +kernel
theorem dX4_findBorders_95 : decode cX4_findBorders 95 = .ok (.lor, 1) := by decide +kernel
theorem dX4_findBorders_96 : decode cX4_findBorders 96 = .ok (.lastore, 1) := by decide +kernel
theorem dX4_findBorders_97 : decode cX4_findBorders 97 = .ok (.iinc 6 1, 3) := by decide +kernel
theorem dX4_findBorders_100 : decode cX4_findBorders 100 = .ok (.goto (-55), 3) := by decide +kernel
theorem dX4_findBorders_103 : decode cX4_findBorders 103 = .ok (.iinc 3 1, 3) := by decide +kernel
theorem dX4_findBorders_106 : decode cX4_findBorders 106 = .ok (.goto (-86), 3) := by decide +kernel
theorem dX4_findBorders_109 : decode cX4_findBorders 109 = .ok (.iinc 2 1, 3) := by decide +kernel
theorem dX4_findBorders_112 : decode cX4_findBorders 112 = .ok (.goto (-102), 3) := by decide +kernel
theorem dX4_findBorders_115 : decode cX4_findBorders 115 = .ok (.return_, 1) := by decide +kernel
theorem dX4_findLabels_0 : decode cX4_findLabels 0 = .ok (.iconst 0, 1) := by decide +kernel
theorem dX4_findLabels_1 : decode cX4_findLabels 1 = .ok (.istore_n 3, 1) := by decide +kernel
theorem dX4_findLabels_2 : decode cX4_findLabels 2 = .ok (.aload_n 1, 1) := by decide +kernel
theorem dX4_findLabels_3 : decode cX4_findLabels 3 = .ok (.getfield 133, 3) := by decide +kernel
theorem dX4_findLabels_6 : decode cX4_findLabels 6 = .ok (.iload_n 2, 1) := by decide +kernel
theorem dX4_findLabels_7 : decode cX4_findLabels 7 = .ok (.iaload, 1) := by decide +kernel
theorem dX4_findLabels_8 : decode cX4_findLabels 8 = .ok (.istore 4, 2) := by decide +kernel
theorem dX4_findLabels_10 : decode cX4_findLabels 10 = .ok (.iload 4, 2) := by decide +kernel
theorem dX4_findLabels_12 : decode cX4_findLabels 12 = .ok (.aload_n 1, 1) := by decide +kernel
theorem dX4_findLabels_13 : decode cX4_findLabels 13 = .ok (.getfield 136, 3) := by decide +kernel
theorem dX4_findLabels_16 : decode cX4_findLabels 16 = .ok (.iload_n 2, 1) := by decide +kernel
theorem dX4_findLabels_17 : decode cX4_findLabels 17 = .ok (.iaload, 1) := by decide +kernel
theorem dX4_findLabels_18 : decode cX4_findLabels 18 = .ok (.if_icmp .ge 88, 3) := by decide +kernel
theorem dX4_findLabels_21 : decode cX4_findLabels 21 = .ok (.aload_n 1, 1) := by decide +kernel
theorem dX4_findLabels_22 : decode cX4_findLabels 22 = .ok (.getfield 139, 3) := by decide +kernel
theorem dX4_findLabels_25 : decode cX4_findLabels 25 = .ok (.iload 4, 2) := by decide +kernel
theorem dX4_findLabels_27 : decode cX4_findLabels 27 = .ok (.iaload, 1) := by decide +kernel
theorem dX4_findLabels_28 : decode cX4_findLabels 28 = .ok (.istore 5, 2) := by decide +kernel
theorem dX4_findLabels_30 : decode cX4_findLabels 30 = .ok (.iload 5, 2) := by decide +kernel
theorem dX4_findLabels_32 : decode cX4_findLabels 32 = .ok (.bipush 22, 2) := by decide +kernel
theorem dX4_findLabels_34 : decode cX4_findLabels 34 = .ok (.if_icmp .eq 24, 3) := by decide +kernel
theorem dX4_findLabels_37 : decode cX4_findLabels 37 = .ok (.iload 5, 2) := by decide +kernel
theorem dX4_findLabels_39 : decode cX4_findLabels 39 = .ok (.bipush 33, 2) := by decide +kernel
theorem dX4_findLabels_41 : decode cX4_findLabels 41 = .ok (.if_icmp .eq 17, 3) := by decide +kernel
theorem dX4_findLabels_44 : decode cX4_findLabels 44 = .ok (.iload 5, 2) := by decide +kernel
theorem dX4_findLabels_46 : decode cX4_findLabels 46 = .ok (.bipush 34, 2) := by decide +kernel
theorem dX4_findLabels_48 : decode cX4_findLabels 48 = .ok (.if_icmp .eq 10, 3) := by decide +kernel
theorem dX4_findLabels_51 : decode cX4_findLabels 51 = .ok (.iload 5, 2) := by decide +kernel
theorem dX4_findLabels_53 : decode cX4_findLabels 53 = .ok (.bipush 24, 2) := by decide +kernel
theorem dX4_findLabels_55 : decode cX4_findLabels 55 = .ok (.if_icmp .ne 7, 3) := by decide +kernel
theorem dX4_findLabels_58 : decode cX4_findLabels 58 = .ok (.iconst 1, 1) := by decide +kernel
theorem dX4_findLabels_59 : decode cX4_findLabels 59 = .ok (.goto 4, 3) := by decide +kernel
theorem dX4_findLabels_62 : decode cX4_findLabels 62 = .ok (.iconst 0, 1) := by decide +kernel
theorem dX4_findLabels_63 : decode cX4_findLabels 63 = .ok (.istore 6, 2) := by decide +kernel
theorem dX4_findLabels_65 : decode cX4_findLabels 65 = .ok (.iload 6, 2) := by decide +kernel
theorem dX4_findLabels_67 : decode cX4_findLabels 67 = .ok (.ifCond .ne 10, 3) := by decide +kernel
theorem dX4_findLabels_70 : decode cX4_findLabels 70 = .ok (.iload 5, 2) := by decide +kernel
theorem dX4_findLabels_72 : decode cX4_findLabels 72 = .ok (.bipush 35, 2) := by decide +kernel
theorem dX4_findLabels_74 : decode cX4_findLabels 74 = .ok (.if_icmp .ne 6, 3) := by decide +kernel
theorem dX4_findLabels_77 : decode cX4_findLabels 77 = .ok (.iinc 3 1, 3) := by decide +kernel
theorem dX4_findLabels_80 : decode cX4_findLabels 80 = .ok (.iload 5, 2) := by decide +kernel
theorem dX4_findLabels_82 : decode cX4_findLabels 82 = .ok (.bipush 35, 2) := by decide +kernel
theorem dX4_findLabels_84 : decode cX4_findLabels 84 = .ok (.if_icmp .ne 16, 3) := by decide +kernel
theorem dX4_findLabels_87 : decode cX4_findLabels 87 = .ok (.aload_n 0, 1) := by decide +kernel
theorem dX4_findLabels_88 : decode cX4_findLabels 88 = .ok (.getfield 42, 3) := by decide +kernel
theorem dX4_findLabels_91 : decode cX4_findLabels 91 = .ok (.aload_n 1, 1) := by decide +kernel
theorem dX4_findLabels_92 : decode cX4_findLabels 92 = .ok (.getfield 146, 3) := by decide +kernel
theorem dX4_findLabels_95 : decode cX4_findLabels 95 = .ok (.iload 4, 2) := by decide +kernel
theorem dX4_findLabels_97 : decode cX4_findLabels 97 = .ok (.iaload, 1) := by decide +kernel
theorem dX4_findLabels_98 : decode cX4_findLabels 98 = .ok (.iload_n 3, 1) := by decide +kernel
theorem dX4_findLabels_99 : decode cX4_findLabels 99 = .ok (.iastore, 1) := by decide +kernel
theorem dX4_findLabels_100 : decode cX4_findLabels 100 = .ok (.iinc 4 1, 3) := by decide +kernel
theorem dX4_findLabels_103 : decode cX4_findLabels 103 = .ok (.goto (-93), 3) := by decide +kernel
theorem dX4_findLabels_106 : decode cX4_findLabels 106 = .ok (.return_, 1) := by decide +kernel
theorem dX4_opsFrom_0 : decode cX4_opsFrom 0 = .ok (.aload_n 0, 1) := by decide +kernel
theorem dX4_opsFrom_1 : decode cX4_opsFrom 1 = .ok (.getfield 48, 3) := by decide +kernel
theorem dX4_opsFrom_4 : decode cX4_opsFrom 4 = .ok (.iload_n 1, 1) := by decide +kernel
theorem dX4_opsFrom_5 : decode cX4_opsFrom 5 = .ok (.iaload, 1) := by decide +kernel
theorem dX4_opsFrom_6 : decode cX4_opsFrom 6 = .ok (.ifCond .ge 7, 3) := by decide +kernel
theorem dX4_opsFrom_9 : decode cX4_opsFrom 9 = .ok (.iconst 0, 1) := by decide +kernel
theorem dX4_opsFrom_10 : decode cX4_opsFrom 10 = .ok (.goto 14, 3) := by decide +kernel
theorem dX4_opsFrom_13 : decode cX4_opsFrom 13 = .ok (.aload_n 0, 1) := by decide +kernel
theorem dX4_opsFrom_14 : decode cX4_opsFrom 14 = .ok (.getfield 24, 3) := by decide +kernel
theorem dX4_opsFrom_17 : decode cX4_opsFrom 17 = .ok (.aload_n 0, 1) := by decide +kernel
theorem dX4_opsFrom_18 : decode cX4_opsFrom 18 = .ok (.getfield 48, 3) := by decide +kernel
theorem dX4_opsFrom_21 : decode cX4_opsFrom 21 = .ok (.iload_n 1, 1) := by decide +kernel
theorem dX4_opsFrom_22 : decode cX4_opsFrom 22 = .ok (.iaload, 1) := by decide +kernel
theorem dX4_opsFrom_23 : decode cX4_opsFrom 23 = .ok (.iaload, 1) := by decide +kernel
theorem dX4_opsFrom_24 : decode cX4_opsFrom 24 = .ok (.ireturn, 1) := by decide +kernel
theorem dX4_opsTo_0 : decode cX4_opsTo 0 = .ok (.aload_n 0, 1) := by decide +kernel
theorem dX4_opsTo_1 : decode cX4_opsTo 1 = .ok (.getfield 48, 3) := by decide +kernel
theorem dX4_opsTo_4 : decode cX4_opsTo 4 = .ok (.iload_n 1, 1) := by decide +kernel
theorem dX4_opsTo_5 : decode cX4_opsTo 5 = .ok (.iaload, 1) := by decide +kernel
theorem dX4_opsTo_6 : decode cX4_opsTo 6 = .ok (.ifCond .ge 7, 3) := by decide +kernel
theorem dX4_opsTo_9 : decode cX4_opsTo 9 = .ok (.iconst 0, 1) := by decide +kernel
theorem dX4_opsTo_10 : decode cX4_opsTo 10 = .ok (.goto 14, 3) := by decide +kernel
theorem dX4_opsTo_13 : decode cX4_opsTo 13 = .ok (.aload_n 0, 1) := by decide +kernel
theorem dX4_opsTo_14 : decode cX4_opsTo 14 = .ok (.getfield 27, 3) := by decide +kernel
theorem dX4_opsTo_17 : decode cX4_opsTo 17 = .ok (.aload_n 0, 1) := by decide +kernel
theorem dX4_opsTo_18 : decode cX4_opsTo 18 = .ok (.getfield 48, 3) := by decide +kernel
theorem dX4_opsTo_21 : decode cX4_opsTo 21 = .ok (.iload_n 1, 1) := by decide +kernel
theorem dX4_opsTo_22 : decode cX4_opsTo 22 = .ok (.iaload, 1) := by decide +kernel
theorem dX4_opsTo_23 : decode cX4_opsTo 23 = .ok (.iaload, 1) := by decide +kernel
theorem dX4_opsTo_24 : decode cX4_opsTo 24 = .ok (.ireturn, 1) := by decide +kernel
theorem dX4_valueAt_0 : decode cX4_valueAt 0 = .ok (.iload_n 1, 1) := by decide +kernel
theorem dX4_valueAt_1 : decode cX4_valueAt 1 = .ok (.ifCond .ge 7, 3) := by decide +kernel
theorem dX4_valueAt_4 : decode cX4_valueAt 4 = .ok (.iconst (-1), 1) := by decide +kernel
theorem dX4_valueAt_5 : decode cX4_valueAt 5 = .ok (.goto 9, 3) := by decide +kernel
theorem dX4_valueAt_8 : decode cX4_valueAt 8 = .ok (.aload_n 0, 1) := by decide +kernel
theorem dX4_valueAt_9 : decode cX4_valueAt 9 = .ok (.getfield 18, 3) := by decide +kernel
theorem dX4_valueAt_12 : decode cX4_valueAt 12 = .ok (.iload_n 1, 1) := by decide +kernel
theorem dX4_valueAt_13 : decode cX4_valueAt 13 = .ok (.iaload, 1) := by decide +kernel
theorem dX4_valueAt_14 : decode cX4_valueAt 14 = .ok (.ireturn, 1) := by decide +kernel
theorem dX8_renumber_0 : decode cX8_renumber 0 = .ok (.aload_n 1, 1) := by decide +kernel
theorem dX8_renumber_1 : decode cX8_renumber 1 = .ok (.getfield 27, 3) := by decide +kernel
theorem dX8_renumber_4 : decode cX8_renumber 4 = .ok (.istore_n 2, 1) := by decide +kernel
theorem dX8_renumber_5 : decode cX8_renumber 5 = .ok (.aload_n 0, 1) := by decide +kernel
theorem dX8_renumber_6 : decode cX8_renumber 6 = .ok (.aload_n 1, 1) := by decide +kernel
theorem dX8_renumber_7 : decode cX8_renumber 7 = .ok (.invokevirtual 33, 3) := by decide +kernel
theorem dX8_renumber_10 : decode cX8_renumber 10 = .ok (.istore_n 3, 1) := by decide +kernel
theorem dX8_renumber_11 : decode cX8_renumber 11 = .ok (.iconst 0, 1) := by decide +kernel
theorem dX8_renumber_12 : decode cX8_renumber 12 = .ok (.istore 4, 2) := by decide +kernel
theorem dX8_renumber_14 : decode cX8_renumber 14 = .ok (.iload 4, 2) := by decide +kernel
theorem dX8_renumber_16 : decode cX8_renumber 16 = .ok (.iload_n 2, 1) := by decide +kernel
theorem dX8_renumber_17 : decode cX8_renumber 17 = .ok (.if_icmp .ge 26, 3) := by decide +kernel
theorem dX8_renumber_20 : decode cX8_renumber 20 = .ok (.aload_n 0, 1) := by decide +kernel
theorem dX8_renumber_21 : decode cX8_renumber 21 = .ok (.getfield 9, 3) := by decide +kernel
theorem dX8_renumber_24 : decode cX8_renumber 24 = .ok (.iload 4, 2) := by decide +kernel
theorem dX8_renumber_26 : decode cX8_renumber 26 = .ok (.iaload, 1) := by decide +kernel
theorem dX8_renumber_27 : decode cX8_renumber 27 = .ok (.ifCond .lt 10, 3) := by decide +kernel
theorem dX8_renumber_30 : decode cX8_renumber 30 = .ok (.aload_n 0, 1) := by decide +kernel
theorem dX8_renumber_31 : decode cX8_renumber 31 = .ok (.aload_n 1, 1) := by decide +kernel
theorem dX8_renumber_32 : decode cX8_renumber 32 = .ok (.iload 4, 2) := by decide +kernel
theorem dX8_renumber_34 : decode cX8_renumber 34 = .ok (.invokevirtual 37, 3) := by decide +kernel
theorem dX8_renumber_37 : decode cX8_renumber 37 = .ok (.iinc 4 1, 3) := by decide +kernel
theorem dX8_renumber_40 : decode cX8_renumber 40 = .ok (.goto (-26), 3) := by decide +kernel
theorem dX8_renumber_43 : decode cX8_renumber 43 = .ok (.aload_n 0, 1) := by decide +kernel
theorem dX8_renumber_44 : decode cX8_renumber 44 = .ok (.aload_n 1, 1) := by decide +kernel
theorem dX8_renumber_45 : decode cX8_renumber 45 = .ok (.getfield 41, 3) := by decide +kernel
theorem dX8_renumber_48 : decode cX8_renumber 48 = .ok (.iload_n 2, 1) := by decide +kernel
theorem dX8_renumber_49 : decode cX8_renumber 49 = .ok (.iload_n 3, 1) := by decide +kernel
theorem dX8_renumber_50 : decode cX8_renumber 50 = .ok (.invokevirtual 44, 3) := by decide +kernel
theorem dX8_renumber_53 : decode cX8_renumber 53 = .ok (.aload_n 0, 1) := by decide +kernel
theorem dX8_renumber_54 : decode cX8_renumber 54 = .ok (.aload_n 1, 1) := by decide +kernel
theorem dX8_renumber_55 : decode cX8_renumber 55 = .ok (.getfield 48, 3) := by decide +kernel
theorem dX8_renumber_58 : decode cX8_renumber 58 = .ok (.iload_n 2, 1) := by decide +kernel
theorem dX8_renumber_59 : decode cX8_renumber 59 = .ok (.iload_n 3, 1) := by decide +kernel
theorem dX8_renumber_60 : decode cX8_renumber 60 = .ok (.invokevirtual 44, 3) := by decide +kernel
theorem dX8_renumber_63 : decode cX8_renumber 63 = .ok (.aload_n 0, 1) := by decide +kernel
theorem dX8_renumber_64 : decode cX8_renumber 64 = .ok (.aload_n 1, 1) := by decide +kernel
theorem dX8_renumber_65 : decode cX8_renumber 65 = .ok (.getfield 51, 3) := by decide +kernel
theorem dX8_renumber_68 : decode cX8_renumber 68 = .ok (.iload_n 2, 1) := by decide +kernel
theorem dX8_renumber_69 : decode cX8_renumber 69 = .ok (.iload_n 3, 1) := by decide +kernel
theorem dX8_renumber_70 : decode cX8_renumber 70 = .ok (.invokevirtual 44, 3) := by decide +kernel
theorem dX8_renumber_73 : decode cX8_renumber 73 = .ok (.aload_n 0, 1) := by decide +kernel
theorem dX8_renumber_74 : decode cX8_renumber 74 = .ok (.aload_n 1, 1) := by decide +kernel
theorem dX8_renumber_75 : decode cX8_renumber 75 = .ok (.getfield 54, 3) := by decide +kernel
theorem dX8_renumber_78 : decode cX8_renumber 78 = .ok (.iload_n 2, 1) := by decide +kernel
theorem dX8_renumber_79 : decode cX8_renumber 79 = .ok (.iload_n 3, 1) := by decide +kernel
theorem dX8_renumber_80 : decode cX8_renumber 80 = .ok (.invokevirtual 44, 3) := by decide +kernel
theorem dX8_renumber_83 : decode cX8_renumber 83 = .ok (.aload_n 0, 1) := by decide +kernel
theorem dX8_renumber_84 : decode cX8_renumber 84 = .ok (.aload_n 1, 1) := by decide +kernel
theorem dX8_renumber_85 : decode cX8_renumber 85 = .ok (.getfield 57, 3) := by decide +kernel
theorem dX8_renumber_88 : decode cX8_renumber 88 = .ok (.iload_n 2, 1) := by decide +kernel
theorem dX8_renumber_89 : decode cX8_renumber 89 = .ok (.iload_n 3, 1) := by decide +kernel
theorem dX8_renumber_90 : decode cX8_renumber 90 = .ok (.invokevirtual 44, 3) := by decide +kernel
theorem dX8_renumber_93 : decode cX8_renumber 93 = .ok (.aload_n 0, 1) := by decide +kernel
theorem dX8_renumber_94 : decode cX8_renumber 94 = .ok (.aload_n 1, 1) := by decide +kernel
theorem dX8_renumber_95 : decode cX8_renumber 95 = .ok (.getfield 60, 3) := by decide +kernel
theorem dX8_renumber_98 : decode cX8_renumber 98 = .ok (.iload_n 2, 1) := by decide +kernel
theorem dX8_renumber_99 : decode cX8_renumber 99 = .ok (.iload_n 3, 1) := by decide +kernel
theorem dX8_renumber_100 : decode cX8_renumber 100 = .ok (.invokevirtual 44, 3) := by decide +kernel
theorem dX8_renumber_103 : decode cX8_renumber 103 = .ok (.aload_n 0, 1) := by decide +kernel
theorem dX8_renumber_104 : decode cX8_renumber 104 = .ok (.aload_n 1, 1) := by decide +kernel
theorem dX8_renumber_105 : decode cX8_renumber 105 = .ok (.getfield 63, 3) := by decide +kernel
theorem dX8_renumber_108 : decode cX8_renumber 108 = .ok (.iload_n 2, 1) := by decide +kernel
theorem dX8_renumber_109 : decode cX8_renumber 109 = .ok (.iload_n 3, 1) := by decide +kernel
theorem dX8_renumber_110 : decode cX8_renumber 110 = .ok (.invokevirtual 44, 3) := by decide +kernel
theorem dX8_renumber_113 : decode cX8_renumber 113 = .ok (.aload_n 0, 1) := by decide +kernel
theorem dX8_renumber_114 : decode cX8_renumber 114 = .ok (.aload_n 1, 1) := by decide +kernel
theorem dX8_renumber_115 : decode cX8_renumber 115 = .ok (.getfield 66, 3) := by decide +kernel
theorem dX8_renumber_118 : decode cX8_renumber 118 = .ok (.iload_n 2, 1) := by decide +kernel
theorem dX8_renumber_119 : decode cX8_renumber 119 = .ok (.iload_n 3, 1) := by decide +kernel
theorem dX8_renumber_120 : decode cX8_renumber 120 = .ok (.invokevirtual 44, 3) := by decide +kernel
theorem dX8_renumber_123 : decode cX8_renumber 123 = .ok (.aload_n 1, 1) := by decide +kernel
theorem dX8_renumber_124 : decode cX8_renumber 124 = .ok (.iload_n 3, 1) := by decide +kernel
theorem dX8_renumber_125 : decode cX8_renumber 125 = .ok (.putfield 27, 3) := by decide +kernel
theorem dX8_renumber_128 : decode cX8_renumber 128 = .ok (.aload_n 0, 1) := by decide +kernel
theorem dX8_renumber_129 : decode cX8_renumber 129 = .ok (.aload_n 1, 1) := by decide +kernel
theorem dX8_renumber_130 : decode cX8_renumber 130 = .ok (.invokevirtual 69, 3) := by decide +kernel
theorem dX8_renumber_133 : decode cX8_renumber 133 = .ok (.return_, 1) := by decide +kernel
theorem dX8_walk_0 : decode cX8_walk 0 = .ok (.aload_n 0, 1) := by decide +kernel
theorem dX8_walk_1 : decode cX8_walk 1 = .ok (.getfield 9, 3) := by decide +kernel
theorem dX8_walk_4 : decode cX8_walk 4 = .ok (.iconst (-1), 1) := by decide +kernel
theorem dX8_walk_5 : decode cX8_walk 5 = .ok (.invokestatic 79, 3) := by decide +kernel
theorem dX8_walk_8 : decode cX8_walk 8 = .ok (.aload_n 0, 1) := by decide +kernel
theorem dX8_walk_9 : decode cX8_walk 9 = .ok (.getfield 15, 3) := by decide +kernel
theorem dX8_walk_12 : decode cX8_walk 12 = .ok (.iconst (-1), 1) := by decide +kernel
theorem dX8_walk_13 : decode cX8_walk 13 = .ok (.invokestatic 79, 3) := by decide +kernel
theorem dX8_walk_16 : decode cX8_walk 16 = .ok (.iconst 0, 1) := by decide +kernel
theorem dX8_walk_17 : decode cX8_walk 17 = .ok (.istore_n 2, 1) := by decide +kernel
theorem dX8_walk_18 : decode cX8_walk 18 = .ok (.iconst 1, 1) := by decide +kernel
theorem dX8_walk_19 : decode cX8_walk 19 = .ok (.istore_n 3, 1) := by decide +kernel
theorem dX8_walk_20 : decode cX8_walk 20 = .ok (.aload_n 0, 1) := by decide +kernel
theorem dX8_walk_21 : decode cX8_walk 21 = .ok (.getfield 18, 3) := by decide +kernel
theorem dX8_walk_24 : decode cX8_walk 24 = .ok (.iconst 0, 1) := by decide +kernel
theorem dX8_walk_25 : decode cX8_walk 25 = .ok (.iconst 0, 1) := by decide +kernel
theorem dX8_walk_26 : decode cX8_walk 26 = .ok (.iastore, 1) := by decide +kernel
theorem dX8_walk_27 : decode cX8_walk 27 = .ok (.aload_n 0, 1) := by decide +kernel
theorem dX8_walk_28 : decode cX8_walk 28 = .ok (.getfield 15, 3) := by decide +kernel
theorem dX8_walk_31 : decode cX8_walk 31 = .ok (.iconst 0, 1) := by decide +kernel
theorem dX8_walk_32 : decode cX8_walk 32 = .ok (.iconst 0, 1) := by decide +kernel
theorem dX8_walk_33 : decode cX8_walk 33 = .ok (.iastore, 1) := by decide +kernel
theorem dX8_walk_34 : decode cX8_walk 34 = .ok (.iconst 0, 1) := by decide +kernel
theorem dX8_walk_35 : decode cX8_walk 35 = .ok (.istore 4, 2) := by decide +kernel
theorem dX8_walk_37 : decode cX8_walk 37 = .ok (.iload_n 3, 1) := by decide +kernel
theorem dX8_walk_38 : decode cX8_walk 38 = .ok (.ifCond .le 141, 3) := by decide +kernel
theorem dX8_walk_41 : decode cX8_walk 41 = .ok (.iload 4, 2) := by decide +kernel
theorem dX8_walk_43 : decode cX8_walk 43 = .ok (.sipush 180, 3) := by decide +kernel
theorem dX8_walk_46 : decode cX8_walk 46 = .ok (.if_icmp .ge 133, 3) := by decide +kernel
theorem dX8_walk_49 : decode cX8_walk 49 = .ok (.aload_n 0, 1) := by decide +kernel
theorem dX8_walk_50 : decode cX8_walk 50 = .ok (.getfield 18, 3) := by decide +kernel
theorem dX8_walk_53 : decode cX8_walk 53 = .ok (.iload_n 3, 1) := by decide +kernel
theorem dX8_walk_54 : decode cX8_walk 54 = .ok (.iconst 1, 1) := by decide +kernel
theorem dX8_walk_55 : decode cX8_walk 55 = .ok (.isub, 1) := by decide +kernel
theorem dX8_walk_56 : decode cX8_walk 56 = .ok (.iaload, 1) := by decide +kernel
theorem dX8_walk_57 : decode cX8_walk 57 = .ok (.istore 5, 2) := by decide +kernel
theorem dX8_walk_59 : decode cX8_walk 59 = .ok (.aload_n 0, 1) := by decide +kernel
theorem dX8_walk_60 : decode cX8_walk 60 = .ok (.getfield 15, 3) := by decide +kernel
theorem dX8_walk_63 : decode cX8_walk 63 = .ok (.iload 5, 2) := by decide +kernel
theorem dX8_walk_65 : decode cX8_walk 65 = .ok (.iaload, 1) := by decide +kernel
theorem dX8_walk_66 : decode cX8_walk 66 = .ok (.ifCond .ne 13, 3) := by decide +kernel
theorem dX8_walk_69 : decode cX8_walk 69 = .ok (.aload_n 1, 1) := by decide +kernel
theorem dX8_walk_70 : decode cX8_walk 70 = .ok (.getfield 66, 3) := by decide +kernel
theorem dX8_walk_73 : decode cX8_walk 73 = .ok (.iload 5, 2) := by decide +kernel
theorem dX8_walk_75 : decode cX8_walk 75 = .ok (.iaload, 1) := by decide +kernel
theorem dX8_walk_76 : decode cX8_walk 76 = .ok (.goto 25, 3) := by decide +kernel
theorem dX8_walk_79 : decode cX8_walk 79 = .ok (.aload_n 0, 1) := by decide +kernel
theorem dX8_walk_80 : decode cX8_walk 80 = .ok (.getfield 15, 3) := by decide +kernel
theorem dX8_walk_83 : decode cX8_walk 83 = .ok (.iload 5, 2) := by decide +kernel
theorem dX8_walk_85 : decode cX8_walk 85 = .ok (.iaload, 1) := by decide +kernel
theorem dX8_walk_86 : decode cX8_walk 86 = .ok (.iconst 1, 1) := by decide +kernel
theorem dX8_walk_87 : decode cX8_walk 87 = .ok (.if_icmp .ne 13, 3) := by decide +kernel
theorem dX8_walk_90 : decode cX8_walk 90 = .ok (.aload_n 1, 1) := by decide +kernel
theorem dX8_walk_91 : decode cX8_walk 91 = .ok (.getfield 63, 3) := by decide +kernel
theorem dX8_walk_94 : decode cX8_walk 94 = .ok (.iload 5, 2) := by decide +kernel
theorem dX8_walk_96 : decode cX8_walk 96 = .ok (.iaload, 1) := by decide +kernel
theorem dX8_walk_97 : decode cX8_walk 97 = .ok (.goto 4, 3) := by decide +kernel
theorem dX8_walk_100 : decode cX8_walk 100 = .ok (.iconst (-1), 1) := by decide +kernel
theorem dX8_walk_101 : decode cX8_walk 101 = .ok (.istore 6, 2) := by decide +kernel
theorem dX8_walk_103 : decode cX8_walk 103 = .ok (.aload_n 0, 1) := by decide +kernel
theorem dX8_walk_104 : decode cX8_walk 104 = .ok (.getfield 15, 3) := by decide +kernel
theorem dX8_walk_107 : decode cX8_walk 107 = .ok (.iload 5, 2) := by decide +kernel
theorem dX8_walk_109 : decode cX8_walk 109 = .ok (.iaload, 1) := by decide +kernel
theorem dX8_walk_110 : decode cX8_walk 110 = .ok (.iconst 2, 1) := by decide +kernel
theorem dX8_walk_111 : decode cX8_walk 111 = .ok (.if_icmp .ne 17, 3) := by decide +kernel
theorem dX8_walk_114 : decode cX8_walk 114 = .ok (.aload_n 0, 1) := by decide +kernel
theorem dX8_walk_115 : decode cX8_walk 115 = .ok (.getfield 21, 3) := by decide +kernel
theorem dX8_walk_118 : decode cX8_walk 118 = .ok (.iload_n 2, 1) := by decide +kernel
theorem dX8_walk_119 : decode cX8_walk 119 = .ok (.iload 5, 2) := by decide +kernel
theorem dX8_walk_121 : decode cX8_walk 121 = .ok (.iastore, 1) := by decide +kernel
theorem dX8_walk_122 : decode cX8_walk 122 = .ok (.iinc 2 1, 3) := by decide +kernel
theorem dX8_walk_125 : decode cX8_walk 125 = .ok (.iinc 3 (-1), 3) := by decide +kernel
theorem dX8_walk_128 : decode cX8_walk 128 = .ok (.aload_n 0, 1) := by decide +kernel
theorem dX8_walk_129 : decode cX8_walk 129 = .ok (.getfield 15, 3) := by decide +kernel
theorem dX8_walk_132 : decode cX8_walk 132 = .ok (.iload 5, 2) := by decide +kernel
theorem dX8_walk_134 : decode cX8_walk 134 = .ok (.dup2, 1) := by decide +kernel
theorem dX8_walk_135 : decode cX8_walk 135 = .ok (.iaload, 1) := by decide +kernel
theorem dX8_walk_136 : decode cX8_walk 136 = .ok (.iconst 1, 1) := by decide +kernel
theorem dX8_walk_137 : decode cX8_walk 137 = .ok (.iadd, 1) := by decide +kernel
theorem dX8_walk_138 : decode cX8_walk 138 = .ok (.iastore, 1) := by decide +kernel
theorem dX8_walk_139 : decode cX8_walk 139 = .ok (.iload 6, 2) := by decide +kernel
theorem dX8_walk_141 : decode cX8_walk 141 = .ok (.ifCond .lt 32, 3) := by decide +kernel
theorem dX8_walk_144 : decode cX8_walk 144 = .ok (.aload_n 0, 1) := by decide +kernel
theorem dX8_walk_145 : decode cX8_walk 145 = .ok (.getfield 15, 3) := by decide +kernel
theorem dX8_walk_148 : decode cX8_walk 148 = .ok (.iload 6, 2) := by decide +kernel
theorem dX8_walk_150 : decode cX8_walk 150 = .ok (.iaload, 1) := by decide +kernel
theorem dX8_walk_151 : decode cX8_walk 151 = .ok (.ifCond .ge 22, 3) := by decide +kernel
theorem dX8_walk_154 : decode cX8_walk 154 = .ok (.aload_n 0, 1) := by decide +kernel
theorem dX8_walk_155 : decode cX8_walk 155 = .ok (.getfield 15, 3) := by decide +kernel
theorem dX8_walk_158 : decode cX8_walk 158 = .ok (.iload 6, 2) := by decide +kernel
theorem dX8_walk_160 : decode cX8_walk 160 = .ok (.iconst 0, 1) := by decide +kernel
theorem dX8_walk_161 : decode cX8_walk 161 = .ok (.iastore, 1) := by decide +kernel
theorem dX8_walk_162 : decode cX8_walk 162 = .ok (.aload_n 0, 1) := by decide +kernel
theorem dX8_walk_163 : decode cX8_walk 163 = .ok (.getfield 18, 3) := by decide +kernel
theorem dX8_walk_166 : decode cX8_walk 166 = .ok (.iload_n 3, 1) := by decide +kernel
theorem dX8_walk_167 : decode cX8_walk 167 = .ok (.iload 6, 2) := by decide +kernel
theorem dX8_walk_169 : decode cX8_walk 169 = .ok (.iastore, 1) := by decide +kernel
theorem dX8_walk_170 : decode cX8_walk 170 = .ok (.iinc 3 1, 3) := by decide +kernel
theorem dX8_walk_173 : decode cX8_walk 173 = .ok (.iinc 4 1, 3) := by decide +kernel
theorem dX8_walk_176 : decode cX8_walk 176 = .ok (.goto (-139), 3) := by decide +kernel
theorem dX8_walk_179 : decode cX8_walk 179 = .ok (.iconst 0, 1) := by decide +kernel
theorem dX8_walk_180 : decode cX8_walk 180 = .ok (.istore 4, 2) := by decide +kernel
theorem dX8_walk_182 : decode cX8_walk 182 = .ok (.iload 4, 2) := by decide +kernel
theorem dX8_walk_184 : decode cX8_walk 184 = .ok (.iload_n 2, 1) := by decide +kernel
theorem dX8_walk_185 : decode cX8_walk 185 = .ok (.if_icmp .ge 27, 3) := by decide +kernel
theorem dX8_walk_188 : decode cX8_walk 188 = .ok (.aload_n 0, 1) := by decide +kernel
theorem dX8_walk_189 : decode cX8_walk 189 = .ok (.getfield 9, 3) := by decide +kernel
theorem dX8_walk_192 : decode cX8_walk 192 = .ok (.aload_n 0, 1) := by decide +kernel
theorem dX8_walk_193 : decode cX8_walk 193 = .ok (.getfield 21, 3) := by decide +kernel
theorem dX8_walk_196 : decode cX8_walk 196 = .ok (.iload 4, 2) := by decide +kernel
theorem dX8_walk_198 : decode cX8_walk 198 = .ok (.iaload, 1) := by decide +kernel
theorem dX8_walk_199 : decode cX8_walk 199 = .ok (.iload_n 2, 1) := by decide +kernel
theorem dX8_walk_200 : decode cX8_walk 200 = .ok (.iconst 1, 1) := by decide +kernel
theorem dX8_walk_201 : decode cX8_walk 201 = .ok (.isub, 1) := by decide +kernel
theorem dX8_walk_202 : decode cX8_walk 202 = .ok (.iload 4, 2) := by decide +kernel
theorem dX8_walk_204 : decode cX8_walk 204 = .ok (.isub, 1) := by decide +kernel
theorem dX8_walk_205 : decode cX8_walk 205 = .ok (.iastore, 1) := by decide +kernel
theorem dX8_walk_206 : decode cX8_walk 206 = .ok (.iinc 4 1, 3) := by decide +kernel
theorem dX8_walk_209 : decode cX8_walk 209 = .ok (.goto (-27), 3) := by decide +kernel
theorem dX8_walk_212 : decode cX8_walk 212 = .ok (.iload_n 2, 1) := by decide +kernel
theorem dX8_walk_213 : decode cX8_walk 213 = .ok (.ireturn, 1) := by decide +kernel
theorem qw202 : Cond.fieldLink RX8 15 "Gearbox$Shape" "stage" "[I" ∈ gw := mq_2 (i := 122) rfl rfl
theorem qw203 : Cond.fieldLink RX8 18 "Gearbox$Shape" "path" "[I" ∈ gw := mq_2 (i := 123) rfl rfl
theorem qw204 : Cond.fieldLink RX8 21 "Gearbox$Shape" "finished" "[I" ∈ gw := mq_2 (i := 124) rfl rfl
theorem qw205 : Cond.code yX8_walk cX8_walk 7 (Option.some Jvm.ClassFile.FieldType.int) ∈ gw := mq_6 (i := 10) rfl rfl
theorem qw206 : Cond.methodLink RX8 33 yX8_walk ∈ gw := mq_6 (i := 7) rfl rfl
theorem qw207 : Cond.instanceMethod yX8_walk ∈ gw := mq_6 (i := 9) rfl rfl
theorem qw208 : Cond.selects RX8 yX8_walk yX8_walk ∈ gw := mk_s (i := 5) rfl rfl
theorem qw209 : Cond.code yX8_renameWays cX8_renameWays 6 (Option.none : Option Jvm.ClassFile.FieldType) ∈ gw := mq_6 (i := 15) rfl rfl
theorem qw210 : Cond.methodLink RX8 37 yX8_renameWays ∈ gw := mq_6 (i := 12) rfl rfl
theorem qw211 : Cond.instanceMethod yX8_renameWays ∈ gw := mq_6 (i := 14) rfl rfl
theorem qw212 : Cond.selects RX8 yX8_renameWays yX8_renameWays ∈ gw := mk_s (i := 6) rfl rfl
theorem qw213 : Cond.fieldLink RX8 41 "Gearbox$Flow" "firstStep" "[I" ∈ gw := mq_1 (i := 227) rfl rfl
theorem qw214 : Cond.code yX8_move cX8_move 5 (Option.none : Option Jvm.ClassFile.FieldType) ∈ gw := mq_6 (i := 22) rfl rfl
theorem qw215 : Cond.methodLink RX8 44 yX8_move ∈ gw := mq_6 (i := 19) rfl rfl
theorem qw216 : Cond.instanceMethod yX8_move ∈ gw := mq_6 (i := 20) rfl rfl
theorem qw217 : Cond.selects RX8 yX8_move yX8_move ∈ gw := mq_6 (i := 21) rfl rfl
theorem qw218 : Cond.fieldLink RX8 48 "Gearbox$Flow" "lastStep" "[I" ∈ gw := mq_1 (i := 234) rfl rfl
theorem qw219 : Cond.fieldLink RX8 54 "Gearbox$Flow" "lastPhi" "[I" ∈ gw := mq_2 (i := 3) rfl rfl
theorem qw220 : Cond.fieldLink RX8 57 "Gearbox$Flow" "end" "[I" ∈ gw := mq_2 (i := 5) rfl rfl
theorem qw221 : Cond.fieldLink RX8 60 "Gearbox$Flow" "endValue" "[I" ∈ gw := mq_2 (i := 12) rfl rfl
theorem qw222 : Cond.code yX8_measure cX8_measure 4 (Option.none : Option Jvm.ClassFile.FieldType) ∈ gw := mq_6 (i := 26) rfl rfl
theorem qw223 : Cond.methodLink RX8 69 yX8_measure ∈ gw := mq_6 (i := 23) rfl rfl
theorem qw224 : Cond.instanceMethod yX8_measure ∈ gw := mq_6 (i := 25) rfl rfl
theorem qw225 : Cond.selects RX8 yX8_measure yX8_measure ∈ gw := mk_s (i := 7) rfl rfl
theorem qw226 : Cond.fieldLink RX4 130 "Gearbox$Maker" "pieces" "I" ∈ gw := mq_2 (i := 148) rfl rfl
theorem qw227 : Cond.fieldLink RX4 24 "Gearbox$Maker" "pieceFrom" "[I" ∈ gw := mq_2 (i := 149) rfl rfl
theorem qw228 : Cond.fieldLink RX4 27 "Gearbox$Maker" "pieceTo" "[I" ∈ gw := mq_2 (i := 150) rfl rfl
theorem qw229 : Cond.fieldLink RX4 30 "Gearbox$Maker" "pieceFirst" "[I" ∈ gw := mq_2 (i := 151) rfl rfl
theorem qw230 : Cond.fieldLink RX4 33 "Gearbox$Maker" "pieceSecond" "[I" ∈ gw := mq_2 (i := 152) rfl rfl
theorem qw231 : Cond.fieldLink RX4 39 "Gearbox$Maker" "pieceBlock" "[I" ∈ gw := mq_2 (i := 154) rfl rfl
theorem qw232 : Cond.fieldLink RX4 133 "Gearbox$Program" "from" "[I" ∈ gw := mq_3 (i := 169) rfl rfl
theorem qw233 : Cond.fieldLink RX4 136 "Gearbox$Program" "to" "[I" ∈ gw := mq_3 (i := 173) rfl rfl
theorem qw234 : Cond.fieldLink RX4 139 "Gearbox$Program" "op" "[I" ∈ gw := mq_3 (i := 178) rfl rfl
theorem qw235 : Cond.fieldLink RX4 42 "Gearbox$Maker" "labelPiece" "[I" ∈ gw := mq_2 (i := 155) rfl rfl
theorem qw236 : Cond.fieldLink RX4 146 "Gearbox$Program" "argument" "[I" ∈ gw := mq_3 (i := 181) rfl rfl
theorem qw237 : Cond.code yX4_findLabels cX4_findLabels 7 (Option.none : Option Jvm.ClassFile.FieldType) ∈ gw := mq_5 (i := 192) rfl rfl
theorem qw238 : Cond.methodLink RX4 127 yX4_findLabels ∈ gw := mq_5 (i := 189) rfl rfl
theorem qw239 : Cond.instanceMethod yX4_findLabels ∈ gw := mq_5 (i := 191) rfl rfl
theorem qw240 : Cond.selects RX4 yX4_findLabels yX4_findLabels ∈ gw := mk_s (i := 8) rfl rfl
theorem qw241 : Cond.initialized RX4 ∈ gw := mq_1 (i := 22) rfl rfl
theorem qw242 : Cond.code yX4_addPiece cX4_addPiece 5 (Option.none : Option Jvm.ClassFile.FieldType) ∈ gw := mq_5 (i := 196) rfl rfl
theorem qw243 : Cond.methodLink RX4 142 yX4_addPiece ∈ gw := mq_5 (i := 193) rfl rfl
theorem qw244 : Cond.instanceMethod yX4_addPiece ∈ gw := mq_5 (i := 195) rfl rfl
theorem qw245 : Cond.selects RX4 yX4_addPiece yX4_addPiece ∈ gw := mk_s (i := 9) rfl rfl
theorem qw246 : Cond.fieldLink RX4 64 "Gearbox$Maker" "now" "[I" ∈ gw := mq_2 (i := 162) rfl rfl
theorem qw247 : Cond.code yJ7_rangeCheck_23922 cJ7_rangeCheck_23922 3 (Option.none : Option Jvm.ClassFile.FieldType) ∈ gw := mq_6 (i := 132) rfl rfl
theorem qw248 : Cond.methodLink RJ7 13 yJ7_rangeCheck_23922 ∈ gw := mq_6 (i := 130) rfl rfl
theorem qw249 : Cond.static yJ7_rangeCheck_23922 ∈ gw := mq_6 (i := 131) rfl rfl
theorem qw253 : Cond.fieldLink RX4 240 "Gearbox$Flow" "firstPhi" "[I" ∈ gw := mq_1 (i := 239) rfl rfl
theorem qw254 : Cond.fieldLink RX4 61 "Gearbox$Maker" "phiVariable" "[I" ∈ gw := mq_2 (i := 161) rfl rfl
theorem qw256 : Cond.fieldLink RX4 246 "Gearbox$Flow" "phiNext" "[I" ∈ gw := mq_2 (i := 67) rfl rfl
theorem qw257 : Cond.fieldLink RX4 48 "Gearbox$Maker" "pieceOf" "[I" ∈ gw := mq_2 (i := 157) rfl rfl
theorem qw266 : Cond.fieldLink RX4 18 "Gearbox$Maker" "valueOf" "[I" ∈ gw := mq_2 (i := 146) rfl rfl
theorem qw276 : Cond.fieldLink RX4 87 "Gearbox$Flow" "blocks" "I" ∈ gw := mq_1 (i := 213) rfl rfl
theorem qw277 : Cond.methodLink RX4 218 yX1_waysTo ∈ gw := mq_6 (i := 80) rfl rfl
theorem qw278 : Cond.methodLink RX4 224 yX1_wayFrom ∈ gw := mq_6 (i := 81) rfl rfl
theorem qw279 : Cond.code yX1_setTake cX1_setTake 4 (Option.none : Option Jvm.ClassFile.FieldType) ∈ gw := mq_7 (i := 122) rfl rfl
theorem qw280 : Cond.methodLink RX4 281 yX1_setTake ∈ gw := mq_7 (i := 119) rfl rfl
theorem qw281 : Cond.instanceMethod yX1_setTake ∈ gw := mq_7 (i := 120) rfl rfl
theorem qw282 : Cond.selects RX1 yX1_setTake yX1_setTake ∈ gw := mq_7 (i := 121) rfl rfl
theorem qw283 : Cond.fieldLink RX4 58 "Gearbox$Maker" "border" "[J" ∈ gw := mq_2 (i := 160) rfl rfl
theorem qw284 : Cond.code yJ7_fill_d0a16 cJ7_fill_d0a16 5 (Option.none : Option Jvm.ClassFile.FieldType) ∈ gw := mq_6 (i := 66) rfl rfl
theorem qw285 : Cond.methodLink RX4 205 yJ7_fill_d0a16 ∈ gw := mq_6 (i := 64) rfl rfl
theorem qw286 : Cond.static yJ7_fill_d0a16 ∈ gw := mq_6 (i := 65) rfl rfl
theorem qw287 : Cond.fieldLink RX4 221 "Gearbox$Flow" "dominators" "[J" ∈ gw := mq_2 (i := 50) rfl rfl
def fX8_walk_J173 (kk37 : Int32 → Int32 → Int32 → ST → Option (Int32 × ST)) (v4_37 : Int32) (v2_128 : Int32) (v3_173 : Int32) (p0w_173 : ST) : Option (Int32 × ST) := (kk37 v2_128 v3_173 (v4_37 + 1) p0w_173)
def fX8_walk_J128 (kk37 : Int32 → Int32 → Int32 → ST → Option (Int32 × ST)) (v3_37 : Int32) (v4_37 : Int32) (p0w_37 : ST) (y0_101 : Int32) (v2_128 : Int32) (v3_128 : Int32) (p0w_128 : ST) : Option (Int32 × ST) := (if ixb (p0w_37 3 (nn (v3_37 - 1))) 60 = true then (if ixb (p0w_37 3 (nn (v3_37 - 1))) 60 = true then (lt9 (upw p0w_128 2 (nn (p0w_37 3 (nn (v3_37 - 1)))) ((p0w_128 2 (nn (p0w_37 3 (nn (v3_37 - 1))))) + 1)) fun (w12 : ST) => (if y0_101 < 0 then (fX8_walk_J173 kk37 v4_37 v2_128 v3_128 w12) else (if ixb y0_101 60 = true then (if 0 ≤ (w12 2 (nn y0_101)) then (fX8_walk_J173 kk37 v4_37 v2_128 v3_128 w12) else (if ixb y0_101 60 = true then (lt9 (upw w12 2 (nn y0_101) 0) fun (w17 : ST) => (if ixb v3_128 60 = true then (lt9 (upw w17 3 (nn v3_128) y0_101) fun (w19 : ST) => (fX8_walk_J173 kk37 v4_37 v2_128 (v3_128 + 1) w19)) else none)) else none)) else none))) else none) else none)
def fX8_walk_J101 (kk37 : Int32 → Int32 → Int32 → ST → Option (Int32 × ST)) (v2_37 : Int32) (v3_37 : Int32) (v4_37 : Int32) (p0w_37 : ST) (y0_101 : Int32) : Option (Int32 × ST) := (if ixb (p0w_37 3 (nn (v3_37 - 1))) 60 = true then (if (p0w_37 2 (nn (p0w_37 3 (nn (v3_37 - 1))))) = 2 then (if ixb v2_37 60 = true then (lt9 (upw p0w_37 4 (nn v2_37) (p0w_37 3 (nn (v3_37 - 1)))) fun (w22 : ST) => (fX8_walk_J128 kk37 v3_37 v4_37 p0w_37 y0_101 (v2_37 + 1) (v3_37 + (-1)) w22)) else none) else (fX8_walk_J128 kk37 v3_37 v4_37 p0w_37 y0_101 v2_37 v3_37 p0w_37)) else none)
def fX8_walk_L37 (p1w : ST) : Nat → Int32 → Int32 → Int32 → ST → Option (Int32 × ST)
  | 0 => fun _ _ _ _ => none
  | n_37 + 1 => fun v2_37 v3_37 v4_37 p0w_37 => (if v3_37 ≤ 0 then some (v2_37, p0w_37) else (if 180 ≤ v4_37 then some (v2_37, p0w_37) else (if ixb (v3_37 - 1) 60 = true then (if ixb (p0w_37 3 (nn (v3_37 - 1))) 60 = true then (if (p0w_37 2 (nn (p0w_37 3 (nn (v3_37 - 1))))) = 0 then (if ixb (p0w_37 3 (nn (v3_37 - 1))) 60 = true then (fX8_walk_J101 (fX8_walk_L37 p1w n_37) v2_37 v3_37 v4_37 p0w_37 (p1w 11 (nn (p0w_37 3 (nn (v3_37 - 1)))))) else none) else (if ixb (p0w_37 3 (nn (v3_37 - 1))) 60 = true then (if (p0w_37 2 (nn (p0w_37 3 (nn (v3_37 - 1))))) = 1 then (if ixb (p0w_37 3 (nn (v3_37 - 1))) 60 = true then (fX8_walk_J101 (fX8_walk_L37 p1w n_37) v2_37 v3_37 v4_37 p0w_37 (p1w 10 (nn (p0w_37 3 (nn (v3_37 - 1)))))) else none) else (fX8_walk_J101 (fX8_walk_L37 p1w n_37) v2_37 v3_37 v4_37 p0w_37 (-1))) else none)) else none) else none)))
def fX8_walk_L182 (o37 : Int32 × ST) : Nat → Int32 → ST → Option ST
  | 0 => fun _ _ => none
  | n_182 + 1 => fun v4_182 p0w_182 => (if (o37.1) ≤ v4_182 then some p0w_182 else (if ixb v4_182 60 = true then (if ixb (p0w_182 4 (nn v4_182)) 60 = true then (lt9 (upw p0w_182 1 (nn (p0w_182 4 (nn v4_182))) (((o37.1) - 1) - v4_182)) fun (w31 : ST) => ((fX8_walk_L182 o37 n_182) (v4_182 + 1) w31)) else none) else none))
def fX8_walk (p0w : ST) (p1w : ST) : Option (Int32 × ST) := ((fJ7_fill_53178 60 (p0w 1) (-1)).bind fun (o_1 : RI) => ((fJ7_fill_53178 60 ((srw p0w 1 o_1) 2) (-1)).bind fun (o_2 : RI) => (lt9 (upw (srw (srw p0w 1 o_1) 2 o_2) 3 (nn 0) 0) fun (w3 : ST) => (lt9 (upw w3 2 (nn 0) 0) fun (w4 : ST) => ((fX8_walk_L37 p1w NF 0 1 0 w4).bind fun (o37 : Int32 × ST) => ((fX8_walk_L182 o37 NF 0 (o37.2)).bind fun (o182 : ST) => some ((o37.1), o182)))))))
set_option maxHeartbeats 16000000 in
set_option maxRecDepth 100000 in
theorem kX8_walk {zs : Nat × Nat} (l : Launch) (dC : Nat → ClassId) (dI : Nat → Nat → Nat) (p0a : Nat → Nat) (p0k : Nat → ClassId) (p0w : ST) (p1a : Nat → Nat) (p1k : Nat → ClassId) (p1n : Nat → Nat) (p1w : ST) (p1l : SL) (sz : Nat) (o : Int32 × ST) (hrun : fX8_walk p0w p1w = some o) : Met l yX8_walk (wz yX8_walk cX8_walk 7 (Option.some Jvm.ClassFile.FieldType.int)) ({ frames := 1, cells := 0, slots := 0, locals := 23 } : Room) (va_Pc [.ref (p0a 0), .ref (p1a 0)] (PRE zs dC dI ((oX8 (p0a 0) p0a p0k p0w) ++ (oX1 (p1a 0) p1a p1k p1n p1w p1l)) ((tX8 p0k) ++ (tX1 p1k)) sz)) (va_Qi (fun (r : Int32) (_ : Unit) => r = (o.1)) (fun _ t => POST dC dI ((oX8 (p0a 0) p0a p0k (o.2)) ++ (oX1 (p1a 0) p1a p1k p1n p1w p1l)) ((tX8 p0k) ++ (tX1 p1k)) (va_A ((oX8 (p0a 0) p0a p0k p0w) ++ (oX1 (p1a 0) p1a p1k p1n p1w p1l)) sz) t) (va_A ((oX8 (p0a 0) p0a p0k p0w) ++ (oX1 (p1a 0) p1a p1k p1n p1w p1l)) sz)) 0 0 (va_A ((oX8 (p0a 0) p0a p0k p0w) ++ (oX1 (p1a 0) p1a p1k p1n p1w p1l)) sz) := by
  refine Met.ofW (cc := cX8_walk) (maxL := 7) (ret := (Option.some Jvm.ClassFile.FieldType.int)) (by decide) rfl ?_
  intro p e s m args below meth c s₁ B hml hv
  obtain ⟨rfl, hsz, hP, hK, hD0, hE⟩ := hv
  have hx := B.exec
  have hb := B.bytes
  have hr := B.returns
  have hts0 := atoms_spec (ws := wz yX8_walk cX8_walk 7 (Option.some Jvm.ClassFile.FieldType.int)) B.pre
  have hts : ∀ w ∈ gw, w.before _ s = true := fun w h => hts0 w (List.mem_cons_of_mem _ h)
  have hown : s.vm.findClass RX8 = some m.cls := findClass_of_methodNamed B.named
  have hlocks := B.notSynchronized
  subst hsz
  have hD := hD0.self (sz := s.heap.size)
  refine gQ9 ?_
  intro Q hQ
  generalize hAe : va_A ((oX8 (p0a 0) p0a p0k p0w) ++ (oX1 (p1a 0) p1a p1k p1n p1w p1l)) s.heap.size = A at hD hE hQ
  have hA : ∀ q : Nat, s.heap.size ≤ q → A q := fun q h => by rw [← hAe]; exact Or.inr h
  have hS : va_S A s.heap s.heap [] := va_S.rf
  have hP : va_P (dC, dI) cls ((oX8 (p0a 0) p0a p0k p0w) ++ (oX1 (p1a 0) p1a p1k p1n p1w p1l)) s.heap := hP
  have hl := lv_entry ([.ref (p0a 0), .ref (p1a 0)]) (n := 7) (Nat.le_of_ble_eq_true rfl)
  rw [lg_entry_eq]
  generalize (lg_sl ([.ref (p0a 0), .ref (p1a 0)]) ++ List.replicate (7 - (lg_sl ([.ref (p0a 0), .ref (p1a 0)])).length) Slot.unset).toArray = ls at hl ⊢
  have hl : lv_has ls 7 [(0, .ref (p0a 0)), (1, .ref (p1a 0))] := hl
  obtain ⟨H, hHe⟩ : ∃ H, H = s.heap := ⟨_, rfl⟩
  obtain ⟨locs, hle⟩ : ∃ locs : List Loc, locs = [] := ⟨_, rfl⟩
  rw [← hHe] at hP
  have hS : va_S A s.heap H locs := by rw [hHe, hle]; exact hS
  show W p l e ({ frames := 1, cells := 0, slots := 0, locals := 23 } : Room) s m ([.ref (p0a 0), .ref (p1a 0)] : List Value).toArray below meth c s.heap [] 0 0 Q (F0 m 0 ls [])
  rw [← hle]
  refine wH9 hHe ?_
  unfold fX8_walk at hrun
  refine lv_aload_n hx hb dX8_walk_0 rfl (lv_at hl 0 rfl) ?_
  refine va_get (D := (dC, dI)) (ci := 5) (v := .ref (p0a 1)) (C := RX8) (T := TX8) (N := 5) hx hb hts i_X8 hown hK hP 0 rfl rfl 0 (by decide) (hts _ qw191) (fun _ h9 => h9) rfl dX8_walk_1 ?_
  refine lv_iconst (v := (-1)) hx hb dX8_walk_4 (by decide) ?_
  obtain ⟨o_1, hc_1, hrun⟩ := bnd9 hrun
  have hPc := hP.sub (ws' := [((p0a 1), .inl ((p0k 1), 60, .inl (p0w 1)))]) [1] rfl
  have hDc := hD.sub (ws' := [((p0a 1), .inl ((p0k 1), 60, .inl (p0w 1)))]) [1] (by decide) rfl
  have hKc := hK.sub (tys' := [((p0k 1), .int)]) [0] rfl
  have hFc := va_free (wc := [((p0a 1), .inl ((p0k 1), 60, .inl (p0w 1)))]) hD hS hA [1] rfl
  refine va_callv (va_runS (As := [.ref (p0a 1), .int (-1)]) (rest := []) ⟨hx, hb, hml, hown, hts⟩ (kJ7_fill_53178 l dC dI (p0a := (p0a 1)) (p0k := (p0k 1)) (p0n := 60) (p0f := (p0w 1)) (p1 := (-1)) (sz := _) (o := o_1) (hrun := hc_1)) (va_cwS 2 hts (gi_S qw184 qw185 qw186 (gi_z qw183)) rfl rfl rfl (by decide +kernel) ⟨Nat.le_of_ble_eq_true rfl, Nat.le_of_ble_eq_true rfl⟩) ⟨PRE.blind, PRE.of hE hS hFc hPc hKc hDc⟩ rfl rfl hl.1 rfl (lv_room (Nat.le_of_ble_eq_true rfl)) dX8_walk_5 ⟨Nat.le_of_ble_eq_true rfl, Nat.le_of_ble_eq_true rfl⟩) hS (fun q _ h => hFc q h) hFc (fun u t H locs ht hvm hw hB hz1 hk1 hS => ?_)
  obtain ⟨hP, hD, hK⟩ := JOIN (wr := ([((p0a 0), .inr (5, [.ref (p0a 1), .ref (p0a 2), .ref (p0a 3), .ref (p0a 4), .ref (p0a 5)])), ((p0a 2), .inl ((p0k 2), 60, .inl (p0w 2))), ((p0a 3), .inl ((p0k 3), 60, .inl (p0w 3))), ((p0a 4), .inl ((p0k 4), 60, .inl (p0w 4))), ((p0a 5), .inl ((p0k 5), 60, .inl (p0w 5)))] ++ (oX1 (p1a 0) p1a p1k p1n p1w p1l))) hP hD hK [1] [0, 2, 3, 4, 5, 6, 7, 8, 9, 10, 11, 12, 13, 14, 15, 16, 17, 18, 19, 20, 21, 22, 23] [1, 2, 3, 4, 5, 6, 7, 8, 9, 10, 11, 12, 13, 14, 15, 16, 17, 18, 19, 20, 21] rfl rfl (by decide) (by decide) rfl hk1 hFc ht hvm hB
  have hP : va_P (dC, dI) cls ((oX8 (p0a 0) p0a p0k (srw p0w 1 o_1)) ++ (oX1 (p1a 0) p1a p1k p1n p1w p1l)) H := hP.sub [0, 23, 1, 2, 3, 4, 5, 6, 7, 8, 9, 10, 11, 12, 13, 14, 15, 16, 17, 18, 19, 20, 21, 22] rfl
  have hD : va_D A ((oX8 (p0a 0) p0a p0k (srw p0w 1 o_1)) ++ (oX1 (p1a 0) p1a p1k p1n p1w p1l)) := hD.sub [0, 23, 1, 2, 3, 4, 5, 6, 7, 8, 9, 10, 11, 12, 13, 14, 15, 16, 17, 18, 19, 20, 21, 22] (by decide) rfl
  have hK : va_K (dC, dI) cls ((tX8 p0k) ++ (tX1 p1k)) s := hK.sub [21, 0, 1, 2, 3, 4, 5, 6, 7, 8, 9, 10, 11, 12, 13, 14, 15, 16, 17, 18, 19, 20] rfl
  refine lv_aload_n hx hb dX8_walk_8 rfl (lv_at hl 0 rfl) ?_
  refine va_get (D := (dC, dI)) (ci := 5) (v := .ref (p0a 2)) (C := RX8) (T := TX8) (N := 5) hx hb hts i_X8 hown hK hP 0 rfl rfl 1 (by decide) (hts _ qw202) (fun _ h9 => h9) rfl dX8_walk_9 ?_
  refine lv_iconst (v := (-1)) hx hb dX8_walk_12 (by decide) ?_
  obtain ⟨o_2, hc_2, hrun⟩ := bnd9 hrun
  have hPc := hP.sub (ws' := [((p0a 2), .inl ((p0k 2), 60, .inl ((srw p0w 1 o_1) 2)))]) [2] rfl
  have hDc := hD.sub (ws' := [((p0a 2), .inl ((p0k 2), 60, .inl ((srw p0w 1 o_1) 2)))]) [2] (by decide) rfl
  have hKc := hK.sub (tys' := [((p0k 2), .int)]) [1] rfl
  have hFc := va_free (wc := [((p0a 2), .inl ((p0k 2), 60, .inl ((srw p0w 1 o_1) 2)))]) hD hS hA [2] rfl
  refine va_callv (va_runS (As := [.ref (p0a 2), .int (-1)]) (rest := []) ⟨hx, hb, hml, hown, hts⟩ (kJ7_fill_53178 l dC dI (p0a := (p0a 2)) (p0k := (p0k 2)) (p0n := 60) (p0f := ((srw p0w 1 o_1) 2)) (p1 := (-1)) (sz := _) (o := o_2) (hrun := hc_2)) (va_cwS 2 hts (gi_S qw184 qw185 qw186 (gi_z qw183)) rfl rfl rfl (by decide +kernel) ⟨Nat.le_of_ble_eq_true rfl, Nat.le_of_ble_eq_true rfl⟩) ⟨PRE.blind, PRE.of hE hS hFc hPc hKc hDc⟩ rfl rfl hl.1 rfl (lv_room (Nat.le_of_ble_eq_true rfl)) dX8_walk_13 ⟨Nat.le_of_ble_eq_true rfl, Nat.le_of_ble_eq_true rfl⟩) hS (fun q _ h => hFc q h) hFc (fun u t H locs ht hvm hw hB hz1 hk1 hS => ?_)
  obtain ⟨hP, hD, hK⟩ := JOIN (wr := ([((p0a 0), .inr (5, [.ref (p0a 1), .ref (p0a 2), .ref (p0a 3), .ref (p0a 4), .ref (p0a 5)])), ((p0a 1), .inl ((p0k 1), 60, .inl ((srw p0w 1 o_1) 1))), ((p0a 3), .inl ((p0k 3), 60, .inl ((srw p0w 1 o_1) 3))), ((p0a 4), .inl ((p0k 4), 60, .inl ((srw p0w 1 o_1) 4))), ((p0a 5), .inl ((p0k 5), 60, .inl ((srw p0w 1 o_1) 5)))] ++ (oX1 (p1a 0) p1a p1k p1n p1w p1l))) hP hD hK [2] [0, 1, 3, 4, 5, 6, 7, 8, 9, 10, 11, 12, 13, 14, 15, 16, 17, 18, 19, 20, 21, 22, 23] [0, 2, 3, 4, 5, 6, 7, 8, 9, 10, 11, 12, 13, 14, 15, 16, 17, 18, 19, 20, 21] rfl rfl (by decide) (by decide) rfl hk1 hFc ht hvm hB
  have hP : va_P (dC, dI) cls ((oX8 (p0a 0) p0a p0k (srw (srw p0w 1 o_1) 2 o_2)) ++ (oX1 (p1a 0) p1a p1k p1n p1w p1l)) H := hP.sub [0, 1, 23, 2, 3, 4, 5, 6, 7, 8, 9, 10, 11, 12, 13, 14, 15, 16, 17, 18, 19, 20, 21, 22] rfl
  have hD : va_D A ((oX8 (p0a 0) p0a p0k (srw (srw p0w 1 o_1) 2 o_2)) ++ (oX1 (p1a 0) p1a p1k p1n p1w p1l)) := hD.sub [0, 1, 23, 2, 3, 4, 5, 6, 7, 8, 9, 10, 11, 12, 13, 14, 15, 16, 17, 18, 19, 20, 21, 22] (by decide) rfl
  have hK : va_K (dC, dI) cls ((tX8 p0k) ++ (tX1 p1k)) s := hK.sub [0, 21, 1, 2, 3, 4, 5, 6, 7, 8, 9, 10, 11, 12, 13, 14, 15, 16, 17, 18, 19, 20] rfl
  refine lv_iconst (v := 0) hx hb dX8_walk_16 (by decide) ?_
  refine lv_istore_n (lv' := [(2, .int 0), (0, .ref (p0a 0)), (1, .ref (p1a 0))]) hx hb dX8_walk_17 rfl hl (by decide) rfl (fun ls hl => ?_)
  refine lv_iconst (v := 1) hx hb dX8_walk_18 (by decide) ?_
  refine lv_istore_n (lv' := [(3, .int 1), (2, .int 0), (0, .ref (p0a 0)), (1, .ref (p1a 0))]) hx hb dX8_walk_19 rfl hl (by decide) rfl (fun ls hl => ?_)
  refine lv_aload_n hx hb dX8_walk_20 rfl (lv_at hl 2 rfl) ?_
  refine va_get (D := (dC, dI)) (ci := 5) (v := .ref (p0a 3)) (C := RX8) (T := TX8) (N := 5) hx hb hts i_X8 hown hK hP 0 rfl rfl 2 (by decide) (hts _ qw203) (fun _ h9 => h9) rfl dX8_walk_21 ?_
  refine lv_iconst (v := 0) hx hb dX8_walk_24 (by decide) ?_
  refine lv_iconst (v := 0) hx hb dX8_walk_25 (by decide) ?_
  refine va_iast hx hb hK hP hD hS 3 2 rfl rfl (by unfold vp_in; decide +kernel) dX8_walk_26 (fun H locs hP hD hS => ?_)
  have hP : va_P (dC, dI) cls ((oX8 (p0a 0) p0a p0k (upw (srw (srw p0w 1 o_1) 2 o_2) 3 (nn 0) 0)) ++ (oX1 (p1a 0) p1a p1k p1n p1w p1l)) H := hP
  have hD : va_D A ((oX8 (p0a 0) p0a p0k (upw (srw (srw p0w 1 o_1) 2 o_2) 3 (nn 0) 0)) ++ (oX1 (p1a 0) p1a p1k p1n p1w p1l)) := hD
  obtain ⟨w3, ew3, hrun⟩ := let9 hrun
  rw [← ew3] at hP hD
  refine lv_aload_n hx hb dX8_walk_27 rfl (lv_at hl 2 rfl) ?_
  refine va_get (D := (dC, dI)) (ci := 5) (v := .ref (p0a 2)) (C := RX8) (T := TX8) (N := 5) hx hb hts i_X8 hown hK hP 0 rfl rfl 1 (by decide) (hts _ qw202) (fun _ h9 => h9) rfl dX8_walk_28 ?_
  refine lv_iconst (v := 0) hx hb dX8_walk_31 (by decide) ?_
  refine lv_iconst (v := 0) hx hb dX8_walk_32 (by decide) ?_
  refine va_iast hx hb hK hP hD hS 2 1 rfl rfl (by unfold vp_in; decide +kernel) dX8_walk_33 (fun H locs hP hD hS => ?_)
  have hP : va_P (dC, dI) cls ((oX8 (p0a 0) p0a p0k (upw w3 2 (nn 0) 0)) ++ (oX1 (p1a 0) p1a p1k p1n p1w p1l)) H := hP
  have hD : va_D A ((oX8 (p0a 0) p0a p0k (upw w3 2 (nn 0) 0)) ++ (oX1 (p1a 0) p1a p1k p1n p1w p1l)) := hD
  obtain ⟨w4, ew4, hrun⟩ := let9 hrun
  rw [← ew4] at hP hD
  refine lv_iconst (v := 0) hx hb dX8_walk_34 (by decide) ?_
  refine lv_istore (lv' := [(4, .int 0), (3, .int 1), (2, .int 0), (0, .ref (p0a 0)), (1, .ref (p1a 0))]) hx hb dX8_walk_35 hl (by decide) rfl (fun ls hl => ?_)
  have L37 : ∀ (n_37 : Nat) (v2_37 : Int32) (v3_37 : Int32) (v4_37 : Int32) (p0w_37 : ST) (o37 : Int32 × ST) (H : Heap) (locs : List Loc) (ls : Array Slot), (fX8_walk_L37 p1w n_37) v2_37 v3_37 v4_37 p0w_37 = some o37 → va_P (dC, dI) cls ((oX8 (p0a 0) p0a p0k p0w_37) ++ (oX1 (p1a 0) p1a p1k p1n p1w p1l)) H → va_D A ((oX8 (p0a 0) p0a p0k p0w_37) ++ (oX1 (p1a 0) p1a p1k p1n p1w p1l)) → va_S A s.heap H locs → lv_has ls 7 [(0, .ref (p0a 0)), (1, .ref (p1a 0)), (2, .int v2_37), (3, .int v3_37), (4, .int v4_37)] → (∀ (H : Heap) (locs : List Loc) (ls : Array Slot), va_P (dC, dI) cls ((oX8 (p0a 0) p0a p0k (o37.2)) ++ (oX1 (p1a 0) p1a p1k p1n p1w p1l)) H → va_D A ((oX8 (p0a 0) p0a p0k (o37.2)) ++ (oX1 (p1a 0) p1a p1k p1n p1w p1l)) → va_S A s.heap H locs → lv_has ls 7 [(0, .ref (p0a 0)), (2, .int (o37.1))] → W p l e ({ frames := 1, cells := 0, slots := 0, locals := 23 } : Room) s m ([.ref (p0a 0), .ref (p1a 0)] : List Value).toArray below meth c H locs 0 0 Q (F0 m 179 ls [])) → W p l e ({ frames := 1, cells := 0, slots := 0, locals := 23 } : Room) s m ([.ref (p0a 0), .ref (p1a 0)] : List Value).toArray below meth c H locs 0 0 Q (F0 m 37 ls []) := by
    intro n_37
    induction n_37 with
    | zero => intro v2_37 v3_37 v4_37 p0w_37 o37 H locs ls hrun; exact (no9 rfl hrun).elim
    | succ n_37 IH37 =>
      intro v2_37 v3_37 v4_37 p0w_37 o37 H locs ls hrun hP hD hS hl hk37
      unfold fX8_walk_L37 at hrun
      refine lv_iload_n hx hb dX8_walk_37 rfl (lv_at hl 3 rfl) ?_
      rcases br9 hrun with ⟨hc5, hrun⟩ | ⟨hc5, hrun⟩
      · refine lv_if_le (tgt := 179) hx hb dX8_walk_38 (by decide) (fun _ => ?_) (fun c => absurd hc5 c)
        obtain rfl := (Option.some.inj hrun)
        exact hk37 _ _ _ hP hD hS (lv_sub hl [0, 2] rfl)
      · refine lv_if_le (tgt := 179) hx hb dX8_walk_38 (by decide) (fun c => absurd c hc5) (fun _ => ?_)
        refine lv_iload hx hb dX8_walk_41 (lv_at hl 4 rfl) ?_
        refine lv_sipush (v := 180) hx hb dX8_walk_43 (by decide) ?_
        rcases br9 hrun with ⟨hc6, hrun⟩ | ⟨hc6, hrun⟩
        · refine lv_icmp_ge (tgt := 179) hx hb dX8_walk_46 (by decide) (fun _ => ?_) (fun c => absurd hc6 c)
          obtain rfl := (Option.some.inj hrun)
          exact hk37 _ _ _ hP hD hS (lv_sub hl [0, 2] rfl)
        · refine lv_icmp_ge (tgt := 179) hx hb dX8_walk_46 (by decide) (fun c => absurd c hc6) (fun _ => ?_)
          refine lv_aload_n hx hb dX8_walk_49 rfl (lv_at hl 0 rfl) ?_
          refine va_get (D := (dC, dI)) (ci := 5) (v := .ref (p0a 3)) (C := RX8) (T := TX8) (N := 5) hx hb hts i_X8 hown hK hP 0 rfl rfl 2 (by decide) (hts _ qw203) (fun _ h9 => h9) rfl dX8_walk_50 ?_
          refine lv_iload_n hx hb dX8_walk_53 rfl (lv_at hl 3 rfl) ?_
          refine lv_iconst (v := 1) hx hb dX8_walk_54 (by decide) ?_
          refine lv_isub hx hb dX8_walk_55 ?_
          obtain ⟨hq7, hrun⟩ := chk9 hrun
          refine va_iald hx hb hK hP 3 2 rfl rfl (ixb_in hq7) dX8_walk_56 ?_
          refine lv_istore (lv' := [(5, .int (p0w_37 3 (nn (v3_37 - 1)))), (0, .ref (p0a 0)), (1, .ref (p1a 0)), (2, .int v2_37), (3, .int v3_37), (4, .int v4_37)]) hx hb dX8_walk_57 hl (by decide) rfl (fun ls hl => ?_)
          refine lv_aload_n hx hb dX8_walk_59 rfl (lv_at hl 1 rfl) ?_
          refine va_get (D := (dC, dI)) (ci := 5) (v := .ref (p0a 2)) (C := RX8) (T := TX8) (N := 5) hx hb hts i_X8 hown hK hP 0 rfl rfl 1 (by decide) (hts _ qw202) (fun _ h9 => h9) rfl dX8_walk_60 ?_
          refine lv_iload hx hb dX8_walk_63 (lv_at hl 0 rfl) ?_
          obtain ⟨hq8, hrun⟩ := chk9 hrun
          refine va_iald hx hb hK hP 2 1 rfl rfl (ixb_in hq8) dX8_walk_65 ?_
          have J101 : ∀ (y0_101 : Int32) (H : Heap) (locs : List Loc) (ls : Array Slot), (fX8_walk_J101 (fX8_walk_L37 p1w n_37) v2_37 v3_37 v4_37 p0w_37 y0_101) = some o37 → va_P (dC, dI) cls ((oX8 (p0a 0) p0a p0k p0w_37) ++ (oX1 (p1a 0) p1a p1k p1n p1w p1l)) H → va_D A ((oX8 (p0a 0) p0a p0k p0w_37) ++ (oX1 (p1a 0) p1a p1k p1n p1w p1l)) → va_S A s.heap H locs → lv_has ls 7 [(0, .ref (p0a 0)), (1, .ref (p1a 0)), (2, .int v2_37), (3, .int v3_37), (4, .int v4_37), (5, .int (p0w_37 3 (nn (v3_37 - 1))))] → W p l e ({ frames := 1, cells := 0, slots := 0, locals := 23 } : Room) s m ([.ref (p0a 0), .ref (p1a 0)] : List Value).toArray below meth c H locs 0 0 Q (F0 m 101 ls [.int y0_101]) := by
            intro y0_101 H locs ls hrun hP hD hS hl
            unfold fX8_walk_J101 at hrun
            refine lv_istore (lv' := [(6, .int y0_101), (0, .ref (p0a 0)), (1, .ref (p1a 0)), (2, .int v2_37), (3, .int v3_37), (4, .int v4_37), (5, .int (p0w_37 3 (nn (v3_37 - 1))))]) hx hb dX8_walk_101 hl (by decide) rfl (fun ls hl => ?_)
            refine lv_aload_n hx hb dX8_walk_103 rfl (lv_at hl 1 rfl) ?_
            refine va_get (D := (dC, dI)) (ci := 5) (v := .ref (p0a 2)) (C := RX8) (T := TX8) (N := 5) hx hb hts i_X8 hown hK hP 0 rfl rfl 1 (by decide) (hts _ qw202) (fun _ h9 => h9) rfl dX8_walk_104 ?_
            refine lv_iload hx hb dX8_walk_107 (lv_at hl 6 rfl) ?_
            obtain ⟨hq9, hrun⟩ := chk9 hrun
            refine va_iald hx hb hK hP 2 1 rfl rfl (ixb_in hq9) dX8_walk_109 ?_
            refine lv_iconst (v := 2) hx hb dX8_walk_110 (by decide) ?_
            have J128 : ∀ (v2_128 : Int32) (v3_128 : Int32) (p0w_128 : ST) (H : Heap) (locs : List Loc) (ls : Array Slot), (fX8_walk_J128 (fX8_walk_L37 p1w n_37) v3_37 v4_37 p0w_37 y0_101 v2_128 v3_128 p0w_128) = some o37 → va_P (dC, dI) cls ((oX8 (p0a 0) p0a p0k p0w_128) ++ (oX1 (p1a 0) p1a p1k p1n p1w p1l)) H → va_D A ((oX8 (p0a 0) p0a p0k p0w_128) ++ (oX1 (p1a 0) p1a p1k p1n p1w p1l)) → va_S A s.heap H locs → lv_has ls 7 [(0, .ref (p0a 0)), (1, .ref (p1a 0)), (2, .int v2_128), (3, .int v3_128), (4, .int v4_37), (5, .int (p0w_37 3 (nn (v3_37 - 1)))), (6, .int y0_101)] → W p l e ({ frames := 1, cells := 0, slots := 0, locals := 23 } : Room) s m ([.ref (p0a 0), .ref (p1a 0)] : List Value).toArray below meth c H locs 0 0 Q (F0 m 128 ls []) := by
              intro v2_128 v3_128 p0w_128 H locs ls hrun hP hD hS hl
              unfold fX8_walk_J128 at hrun
              refine lv_aload_n hx hb dX8_walk_128 rfl (lv_at hl 0 rfl) ?_
              refine va_get (D := (dC, dI)) (ci := 5) (v := .ref (p0a 2)) (C := RX8) (T := TX8) (N := 5) hx hb hts i_X8 hown hK hP 0 rfl rfl 1 (by decide) (hts _ qw202) (fun _ h9 => h9) rfl dX8_walk_129 ?_
              refine lv_iload hx hb dX8_walk_132 (lv_at hl 5 rfl) ?_
              refine lv_dup2_11 hx hb dX8_walk_134 rfl rfl ?_
              obtain ⟨hq10, hrun⟩ := chk9 hrun
              refine va_iald hx hb hK hP 2 1 rfl rfl (ixb_in hq10) dX8_walk_135 ?_
              refine lv_iconst (v := 1) hx hb dX8_walk_136 (by decide) ?_
              refine lv_iadd hx hb dX8_walk_137 ?_
              obtain ⟨hq11, hrun⟩ := chk9 hrun
              refine va_iast hx hb hK hP hD hS 2 1 rfl rfl (ixb_in hq11) dX8_walk_138 (fun H locs hP hD hS => ?_)
              have hP : va_P (dC, dI) cls ((oX8 (p0a 0) p0a p0k (upw p0w_128 2 (nn (p0w_37 3 (nn (v3_37 - 1)))) ((p0w_128 2 (nn (p0w_37 3 (nn (v3_37 - 1))))) + 1))) ++ (oX1 (p1a 0) p1a p1k p1n p1w p1l)) H := hP
              have hD : va_D A ((oX8 (p0a 0) p0a p0k (upw p0w_128 2 (nn (p0w_37 3 (nn (v3_37 - 1)))) ((p0w_128 2 (nn (p0w_37 3 (nn (v3_37 - 1))))) + 1))) ++ (oX1 (p1a 0) p1a p1k p1n p1w p1l)) := hD
              obtain ⟨w12, ew12, hrun⟩ := let9 hrun
              rw [← ew12] at hP hD
              refine lv_iload hx hb dX8_walk_139 (lv_at hl 6 rfl) ?_
              have J173 : ∀ (v3_173 : Int32) (p0w_173 : ST) (H : Heap) (locs : List Loc) (ls : Array Slot), (fX8_walk_J173 (fX8_walk_L37 p1w n_37) v4_37 v2_128 v3_173 p0w_173) = some o37 → va_P (dC, dI) cls ((oX8 (p0a 0) p0a p0k p0w_173) ++ (oX1 (p1a 0) p1a p1k p1n p1w p1l)) H → va_D A ((oX8 (p0a 0) p0a p0k p0w_173) ++ (oX1 (p1a 0) p1a p1k p1n p1w p1l)) → va_S A s.heap H locs → lv_has ls 7 [(0, .ref (p0a 0)), (1, .ref (p1a 0)), (2, .int v2_128), (3, .int v3_173), (4, .int v4_37)] → W p l e ({ frames := 1, cells := 0, slots := 0, locals := 23 } : Room) s m ([.ref (p0a 0), .ref (p1a 0)] : List Value).toArray below meth c H locs 0 0 Q (F0 m 173 ls []) := by
                intro v3_173 p0w_173 H locs ls hrun hP hD hS hl
                unfold fX8_walk_J173 at hrun
                refine lv_iinc (v := (v4_37 + 1)) (lv' := [(4, .int (v4_37 + 1)), (0, .ref (p0a 0)), (1, .ref (p1a 0)), (2, .int v2_128), (3, .int v3_173)]) hx hb dX8_walk_173 hl (k := 4) rfl rfl (by decide) rfl (fun ls hl => ?_)
                refine lv_goto (tgt := 37) hx hb dX8_walk_176 (by decide) ?_
                exact IH37 v2_128 v3_173 (v4_37 + 1) p0w_173 o37 _ _ _ hrun hP hD hS (lv_sub hl [1, 2, 3, 4, 0] rfl) hk37
              rcases br9 hrun with ⟨hc13, hrun⟩ | ⟨hc13, hrun⟩
              · refine lv_if_lt (tgt := 173) hx hb dX8_walk_141 (by decide) (fun _ => ?_) (fun c => absurd hc13 c)
                exact J173 v3_128 w12 _ _ _ hrun hP hD hS (lv_sub hl [0, 1, 2, 3, 4] rfl)
              · refine lv_if_lt (tgt := 173) hx hb dX8_walk_141 (by decide) (fun c => absurd c hc13) (fun _ => ?_)
                refine lv_aload_n hx hb dX8_walk_144 rfl (lv_at hl 0 rfl) ?_
                refine va_get (D := (dC, dI)) (ci := 5) (v := .ref (p0a 2)) (C := RX8) (T := TX8) (N := 5) hx hb hts i_X8 hown hK hP 0 rfl rfl 1 (by decide) (hts _ qw202) (fun _ h9 => h9) rfl dX8_walk_145 ?_
                refine lv_iload hx hb dX8_walk_148 (lv_at hl 6 rfl) ?_
                obtain ⟨hq14, hrun⟩ := chk9 hrun
                refine va_iald hx hb hK hP 2 1 rfl rfl (ixb_in hq14) dX8_walk_150 ?_
                rcases br9 hrun with ⟨hc15, hrun⟩ | ⟨hc15, hrun⟩
                · refine lv_if_ge (tgt := 173) hx hb dX8_walk_151 (by decide) (fun _ => ?_) (fun c => absurd hc15 c)
                  exact J173 v3_128 w12 _ _ _ hrun hP hD hS (lv_sub hl [0, 1, 2, 3, 4] rfl)
                · refine lv_if_ge (tgt := 173) hx hb dX8_walk_151 (by decide) (fun c => absurd c hc15) (fun _ => ?_)
                  refine lv_aload_n hx hb dX8_walk_154 rfl (lv_at hl 0 rfl) ?_
                  refine va_get (D := (dC, dI)) (ci := 5) (v := .ref (p0a 2)) (C := RX8) (T := TX8) (N := 5) hx hb hts i_X8 hown hK hP 0 rfl rfl 1 (by decide) (hts _ qw202) (fun _ h9 => h9) rfl dX8_walk_155 ?_
                  refine lv_iload hx hb dX8_walk_158 (lv_at hl 6 rfl) ?_
                  refine lv_iconst (v := 0) hx hb dX8_walk_160 (by decide) ?_
                  obtain ⟨hq16, hrun⟩ := chk9 hrun
                  refine va_iast hx hb hK hP hD hS 2 1 rfl rfl (ixb_in hq16) dX8_walk_161 (fun H locs hP hD hS => ?_)
                  have hP : va_P (dC, dI) cls ((oX8 (p0a 0) p0a p0k (upw w12 2 (nn y0_101) 0)) ++ (oX1 (p1a 0) p1a p1k p1n p1w p1l)) H := hP
                  have hD : va_D A ((oX8 (p0a 0) p0a p0k (upw w12 2 (nn y0_101) 0)) ++ (oX1 (p1a 0) p1a p1k p1n p1w p1l)) := hD
                  obtain ⟨w17, ew17, hrun⟩ := let9 hrun
                  rw [← ew17] at hP hD
                  refine lv_aload_n hx hb dX8_walk_162 rfl (lv_at hl 0 rfl) ?_
                  refine va_get (D := (dC, dI)) (ci := 5) (v := .ref (p0a 3)) (C := RX8) (T := TX8) (N := 5) hx hb hts i_X8 hown hK hP 0 rfl rfl 2 (by decide) (hts _ qw203) (fun _ h9 => h9) rfl dX8_walk_163 ?_
                  refine lv_iload_n hx hb dX8_walk_166 rfl (lv_at hl 3 rfl) ?_
                  refine lv_iload hx hb dX8_walk_167 (lv_at hl 6 rfl) ?_
                  obtain ⟨hq18, hrun⟩ := chk9 hrun
                  refine va_iast hx hb hK hP hD hS 3 2 rfl rfl (ixb_in hq18) dX8_walk_169 (fun H locs hP hD hS => ?_)
                  have hP : va_P (dC, dI) cls ((oX8 (p0a 0) p0a p0k (upw w17 3 (nn v3_128) y0_101)) ++ (oX1 (p1a 0) p1a p1k p1n p1w p1l)) H := hP
                  have hD : va_D A ((oX8 (p0a 0) p0a p0k (upw w17 3 (nn v3_128) y0_101)) ++ (oX1 (p1a 0) p1a p1k p1n p1w p1l)) := hD
                  obtain ⟨w19, ew19, hrun⟩ := let9 hrun
                  rw [← ew19] at hP hD
                  refine lv_iinc (v := (v3_128 + 1)) (lv' := [(3, .int (v3_128 + 1)), (0, .ref (p0a 0)), (1, .ref (p1a 0)), (2, .int v2_128), (4, .int v4_37), (5, .int (p0w_37 3 (nn (v3_37 - 1)))), (6, .int y0_101)]) hx hb dX8_walk_170 hl (k := 3) rfl rfl (by decide) rfl (fun ls hl => ?_)
                  exact J173 (v3_128 + 1) w19 _ _ _ hrun hP hD hS (lv_sub hl [1, 2, 3, 0, 4] rfl)
            rcases br9 hrun with ⟨hc20, hrun⟩ | ⟨hc20, hrun⟩
            · refine lv_icmp_ne (tgt := 128) hx hb dX8_walk_111 (by decide) (fun c => absurd hc20 c) (fun _ => ?_)
              refine lv_aload_n hx hb dX8_walk_114 rfl (lv_at hl 1 rfl) ?_
              refine va_get (D := (dC, dI)) (ci := 5) (v := .ref (p0a 4)) (C := RX8) (T := TX8) (N := 5) hx hb hts i_X8 hown hK hP 0 rfl rfl 3 (by decide) (hts _ qw204) (fun _ h9 => h9) rfl dX8_walk_115 ?_
              refine lv_iload_n hx hb dX8_walk_118 rfl (lv_at hl 3 rfl) ?_
              refine lv_iload hx hb dX8_walk_119 (lv_at hl 6 rfl) ?_
              obtain ⟨hq21, hrun⟩ := chk9 hrun
              refine va_iast hx hb hK hP hD hS 4 3 rfl rfl (ixb_in hq21) dX8_walk_121 (fun H locs hP hD hS => ?_)
              have hP : va_P (dC, dI) cls ((oX8 (p0a 0) p0a p0k (upw p0w_37 4 (nn v2_37) (p0w_37 3 (nn (v3_37 - 1))))) ++ (oX1 (p1a 0) p1a p1k p1n p1w p1l)) H := hP
              have hD : va_D A ((oX8 (p0a 0) p0a p0k (upw p0w_37 4 (nn v2_37) (p0w_37 3 (nn (v3_37 - 1))))) ++ (oX1 (p1a 0) p1a p1k p1n p1w p1l)) := hD
              obtain ⟨w22, ew22, hrun⟩ := let9 hrun
              rw [← ew22] at hP hD
              refine lv_iinc (v := (v2_37 + 1)) (lv' := [(2, .int (v2_37 + 1)), (6, .int y0_101), (0, .ref (p0a 0)), (1, .ref (p1a 0)), (3, .int v3_37), (4, .int v4_37), (5, .int (p0w_37 3 (nn (v3_37 - 1))))]) hx hb dX8_walk_122 hl (k := 3) rfl rfl (by decide) rfl (fun ls hl => ?_)
              refine lv_iinc (v := (v3_37 + (-1))) (lv' := [(3, .int (v3_37 + (-1))), (2, .int (v2_37 + 1)), (6, .int y0_101), (0, .ref (p0a 0)), (1, .ref (p1a 0)), (4, .int v4_37), (5, .int (p0w_37 3 (nn (v3_37 - 1))))]) hx hb dX8_walk_125 hl (k := 4) rfl rfl (by decide) rfl (fun ls hl => ?_)
              exact J128 (v2_37 + 1) (v3_37 + (-1)) w22 _ _ _ hrun hP hD hS (lv_sub hl [3, 4, 1, 0, 5, 6, 2] rfl)
            · refine lv_icmp_ne (tgt := 128) hx hb dX8_walk_111 (by decide) (fun _ => ?_) (fun c => absurd c hc20)
              exact J128 v2_37 v3_37 p0w_37 _ _ _ hrun hP hD hS (lv_sub hl [1, 2, 3, 4, 5, 6, 0] rfl)
          rcases br9 hrun with ⟨hc23, hrun⟩ | ⟨hc23, hrun⟩
          · refine lv_if_ne (tgt := 79) hx hb dX8_walk_66 (by decide) (fun c => absurd hc23 c) (fun _ => ?_)
            refine lv_aload_n hx hb dX8_walk_69 rfl (lv_at hl 2 rfl) ?_
            refine va_get (D := (dC, dI)) (ci := 4) (v := .ref (p1a 11)) (C := RX1) (T := TX1) (N := 21) hx hb hts i_X1 hown hK hP 6 rfl rfl 10 (by decide) (hts _ qw198) (fun _ h9 => h9) rfl dX8_walk_70 ?_
            refine lv_iload hx hb dX8_walk_73 (lv_at hl 0 rfl) ?_
            obtain ⟨hq24, hrun⟩ := chk9 hrun
            refine va_iald hx hb hK hP 14 12 rfl rfl (ixb_in hq24) dX8_walk_75 ?_
            refine lv_goto (tgt := 101) hx hb dX8_walk_76 (by decide) ?_
            exact J101 (p1w 11 (nn (p0w_37 3 (nn (v3_37 - 1))))) _ _ _ hrun hP hD hS (lv_sub hl [1, 2, 3, 4, 5, 0] rfl)
          · refine lv_if_ne (tgt := 79) hx hb dX8_walk_66 (by decide) (fun _ => ?_) (fun c => absurd c hc23)
            refine lv_aload_n hx hb dX8_walk_79 rfl (lv_at hl 1 rfl) ?_
            refine va_get (D := (dC, dI)) (ci := 5) (v := .ref (p0a 2)) (C := RX8) (T := TX8) (N := 5) hx hb hts i_X8 hown hK hP 0 rfl rfl 1 (by decide) (hts _ qw202) (fun _ h9 => h9) rfl dX8_walk_80 ?_
            refine lv_iload hx hb dX8_walk_83 (lv_at hl 0 rfl) ?_
            obtain ⟨hq25, hrun⟩ := chk9 hrun
            refine va_iald hx hb hK hP 2 1 rfl rfl (ixb_in hq25) dX8_walk_85 ?_
            refine lv_iconst (v := 1) hx hb dX8_walk_86 (by decide) ?_
            rcases br9 hrun with ⟨hc26, hrun⟩ | ⟨hc26, hrun⟩
            · refine lv_icmp_ne (tgt := 100) hx hb dX8_walk_87 (by decide) (fun c => absurd hc26 c) (fun _ => ?_)
              refine lv_aload_n hx hb dX8_walk_90 rfl (lv_at hl 2 rfl) ?_
              refine va_get (D := (dC, dI)) (ci := 4) (v := .ref (p1a 10)) (C := RX1) (T := TX1) (N := 21) hx hb hts i_X1 hown hK hP 6 rfl rfl 9 (by decide) (hts _ qw197) (fun _ h9 => h9) rfl dX8_walk_91 ?_
              refine lv_iload hx hb dX8_walk_94 (lv_at hl 0 rfl) ?_
              obtain ⟨hq27, hrun⟩ := chk9 hrun
              refine va_iald hx hb hK hP 13 11 rfl rfl (ixb_in hq27) dX8_walk_96 ?_
              refine lv_goto (tgt := 101) hx hb dX8_walk_97 (by decide) ?_
              exact J101 (p1w 10 (nn (p0w_37 3 (nn (v3_37 - 1))))) _ _ _ hrun hP hD hS (lv_sub hl [1, 2, 3, 4, 5, 0] rfl)
            · refine lv_icmp_ne (tgt := 100) hx hb dX8_walk_87 (by decide) (fun _ => ?_) (fun c => absurd c hc26)
              refine lv_iconst (v := (-1)) hx hb dX8_walk_100 (by decide) ?_
              exact J101 (-1) _ _ _ hrun hP hD hS (lv_sub hl [1, 2, 3, 4, 5, 0] rfl)
  obtain ⟨o37, hc37, hrun⟩ := bnd9 hrun
  refine L37 NF 0 1 0 w4 o37 _ _ _ hc37 hP hD hS (lv_sub hl [3, 4, 2, 1, 0] rfl) ?_
  intro H locs ls hP hD hS hl
  have hl := hl
  refine lv_iconst (v := 0) hx hb dX8_walk_179 (by decide) ?_
  refine lv_istore (lv' := [(4, .int 0), (0, .ref (p0a 0)), (2, .int (o37.1))]) hx hb dX8_walk_180 hl (by decide) rfl (fun ls hl => ?_)
  have L182 : ∀ (n_182 : Nat) (v4_182 : Int32) (p0w_182 : ST) (o182 : ST) (H : Heap) (locs : List Loc) (ls : Array Slot), (fX8_walk_L182 o37 n_182) v4_182 p0w_182 = some o182 → va_P (dC, dI) cls ((oX8 (p0a 0) p0a p0k p0w_182) ++ (oX1 (p1a 0) p1a p1k p1n p1w p1l)) H → va_D A ((oX8 (p0a 0) p0a p0k p0w_182) ++ (oX1 (p1a 0) p1a p1k p1n p1w p1l)) → va_S A s.heap H locs → lv_has ls 7 [(0, .ref (p0a 0)), (2, .int (o37.1)), (4, .int v4_182)] → (∀ (H : Heap) (locs : List Loc) (ls : Array Slot), va_P (dC, dI) cls ((oX8 (p0a 0) p0a p0k o182) ++ (oX1 (p1a 0) p1a p1k p1n p1w p1l)) H → va_D A ((oX8 (p0a 0) p0a p0k o182) ++ (oX1 (p1a 0) p1a p1k p1n p1w p1l)) → va_S A s.heap H locs → lv_has ls 7 [(2, .int (o37.1))] → W p l e ({ frames := 1, cells := 0, slots := 0, locals := 23 } : Room) s m ([.ref (p0a 0), .ref (p1a 0)] : List Value).toArray below meth c H locs 0 0 Q (F0 m 212 ls [])) → W p l e ({ frames := 1, cells := 0, slots := 0, locals := 23 } : Room) s m ([.ref (p0a 0), .ref (p1a 0)] : List Value).toArray below meth c H locs 0 0 Q (F0 m 182 ls []) := by
    intro n_182
    induction n_182 with
    | zero => intro v4_182 p0w_182 o182 H locs ls hrun; exact (no9 rfl hrun).elim
    | succ n_182 IH182 =>
      intro v4_182 p0w_182 o182 H locs ls hrun hP hD hS hl hk182
      unfold fX8_walk_L182 at hrun
      refine lv_iload hx hb dX8_walk_182 (lv_at hl 2 rfl) ?_
      refine lv_iload_n hx hb dX8_walk_184 rfl (lv_at hl 1 rfl) ?_
      rcases br9 hrun with ⟨hc28, hrun⟩ | ⟨hc28, hrun⟩
      · refine lv_icmp_ge (tgt := 212) hx hb dX8_walk_185 (by decide) (fun _ => ?_) (fun c => absurd hc28 c)
        obtain rfl := (Option.some.inj hrun)
        exact hk182 _ _ _ hP hD hS (lv_sub hl [1] rfl)
      · refine lv_icmp_ge (tgt := 212) hx hb dX8_walk_185 (by decide) (fun c => absurd c hc28) (fun _ => ?_)
        refine lv_aload_n hx hb dX8_walk_188 rfl (lv_at hl 0 rfl) ?_
        refine va_get (D := (dC, dI)) (ci := 5) (v := .ref (p0a 1)) (C := RX8) (T := TX8) (N := 5) hx hb hts i_X8 hown hK hP 0 rfl rfl 0 (by decide) (hts _ qw191) (fun _ h9 => h9) rfl dX8_walk_189 ?_
        refine lv_aload_n hx hb dX8_walk_192 rfl (lv_at hl 0 rfl) ?_
        refine va_get (D := (dC, dI)) (ci := 5) (v := .ref (p0a 4)) (C := RX8) (T := TX8) (N := 5) hx hb hts i_X8 hown hK hP 0 rfl rfl 3 (by decide) (hts _ qw204) (fun _ h9 => h9) rfl dX8_walk_193 ?_
        refine lv_iload hx hb dX8_walk_196 (lv_at hl 2 rfl) ?_
        obtain ⟨hq29, hrun⟩ := chk9 hrun
        refine va_iald hx hb hK hP 4 3 rfl rfl (ixb_in hq29) dX8_walk_198 ?_
        refine lv_iload_n hx hb dX8_walk_199 rfl (lv_at hl 1 rfl) ?_
        refine lv_iconst (v := 1) hx hb dX8_walk_200 (by decide) ?_
        refine lv_isub hx hb dX8_walk_201 ?_
        refine lv_iload hx hb dX8_walk_202 (lv_at hl 2 rfl) ?_
        refine lv_isub hx hb dX8_walk_204 ?_
        obtain ⟨hq30, hrun⟩ := chk9 hrun
        refine va_iast hx hb hK hP hD hS 1 0 rfl rfl (ixb_in hq30) dX8_walk_205 (fun H locs hP hD hS => ?_)
        have hP : va_P (dC, dI) cls ((oX8 (p0a 0) p0a p0k (upw p0w_182 1 (nn (p0w_182 4 (nn v4_182))) (((o37.1) - 1) - v4_182))) ++ (oX1 (p1a 0) p1a p1k p1n p1w p1l)) H := hP
        have hD : va_D A ((oX8 (p0a 0) p0a p0k (upw p0w_182 1 (nn (p0w_182 4 (nn v4_182))) (((o37.1) - 1) - v4_182))) ++ (oX1 (p1a 0) p1a p1k p1n p1w p1l)) := hD
        obtain ⟨w31, ew31, hrun⟩ := let9 hrun
        rw [← ew31] at hP hD
        refine lv_iinc (v := (v4_182 + 1)) (lv' := [(4, .int (v4_182 + 1)), (0, .ref (p0a 0)), (2, .int (o37.1))]) hx hb dX8_walk_206 hl (k := 2) rfl rfl (by decide) rfl (fun ls hl => ?_)
        refine lv_goto (tgt := 182) hx hb dX8_walk_209 (by decide) ?_
        exact IH182 (v4_182 + 1) w31 o182 _ _ _ hrun hP hD hS (lv_sub hl [1, 2, 0] rfl) hk182
  obtain ⟨o182, hc182, hrun⟩ := bnd9 hrun
  refine L182 NF 0 (o37.2) o182 _ _ _ hc182 hP hD hS (lv_sub hl [1, 2, 0] rfl) ?_
  intro H locs ls hP hD hS hl
  have hl := hl
  refine lv_iload_n hx hb dX8_walk_212 rfl (lv_at hl 0 rfl) ?_
  have ho9 : ((o37.1), o182) = o := Option.some.inj hrun
  have hP9 : va_P (dC, dI) cls ((oX8 (p0a 0) p0a p0k (o.2)) ++ (oX1 (p1a 0) p1a p1k p1n p1w p1l)) H := by first | exact hP | (rw [← ho9]; exact hP)
  have hD9 : va_D A ((oX8 (p0a 0) p0a p0k (o.2)) ++ (oX1 (p1a 0) p1a p1k p1n p1w p1l)) := by first | exact hD | (rw [← ho9]; exact hD)
  subst hQ
  exact W.iret (v := (o37.1)) hx hb hr (fun t ht hW => ⟨⟨(o37.1), (), rfl, (by rw [← ho9]), ⟨by rw [ht]; exact hP9, va_K.moved hW.alike hK, hD9⟩⟩, hS.F ht⟩) hS.2.2 dX8_walk_213
def fX8_renumber_J37 (kk14 : Int32 → ST → ST → Option (ST × ST)) (v4_14 : Int32) (p0w_37 : ST) (p1w_37 : ST) : Option (ST × ST) := (kk14 (v4_14 + 1) p0w_37 p1w_37)
def fX8_renumber_L14 (p1n : Nat → Nat) (p1w : ST) : Nat → Int32 → ST → ST → Option (ST × ST)
  | 0 => fun _ _ _ => none
  | n_14 + 1 => fun v4_14 p0w_14 p1w_14 => (if (p1w 0 0) ≤ v4_14 then some (p0w_14, p1w_14) else (if ixb v4_14 60 = true then (if (p0w_14 1 (nn v4_14)) < 0 then (fX8_renumber_J37 (fX8_renumber_L14 p1n p1w n_14) v4_14 p0w_14 p1w_14) else ((fX8_renameWays p0w_14 p1n p1w_14 v4_14).bind fun (o_6 : ST × ST) => (fX8_renumber_J37 (fX8_renumber_L14 p1n p1w n_14) v4_14 (o_6.1) (o_6.2)))) else none))
def fX8_renumber (p0w : ST) (p1n : Nat → Nat) (p1w : ST) (p1l : SL) : Option (ST × ST × SL) := ((fX8_walk p0w p1w).bind fun (o_1 : Int32 × ST) => ((fX8_renumber_L14 p1n p1w NF 0 (o_1.2) p1w).bind fun (o14 : ST × ST) => ((fX8_move (o14.1) 60 ((o14.2) 4) (p1w 0 0) (o_1.1)).bind fun (o_7 : ST × RI) => ((fX8_move (o_7.1) 60 ((srw (o14.2) 4 (o_7.2)) 5) (p1w 0 0) (o_1.1)).bind fun (o_8 : ST × RI) => ((fX8_move (o_8.1) 60 ((srw (srw (o14.2) 4 (o_7.2)) 5 (o_8.2)) 6) (p1w 0 0) (o_1.1)).bind fun (o_9 : ST × RI) => ((fX8_move (o_9.1) 60 ((srw (srw (srw (o14.2) 4 (o_7.2)) 5 (o_8.2)) 6 (o_9.2)) 7) (p1w 0 0) (o_1.1)).bind fun (o_10 : ST × RI) => ((fX8_move (o_10.1) 60 ((srw (srw (srw (srw (o14.2) 4 (o_7.2)) 5 (o_8.2)) 6 (o_9.2)) 7 (o_10.2)) 8) (p1w 0 0) (o_1.1)).bind fun (o_11 : ST × RI) => ((fX8_move (o_11.1) 60 ((srw (srw (srw (srw (srw (o14.2) 4 (o_7.2)) 5 (o_8.2)) 6 (o_9.2)) 7 (o_10.2)) 8 (o_11.2)) 9) (p1w 0 0) (o_1.1)).bind fun (o_12 : ST × RI) => ((fX8_move (o_12.1) 60 ((srw (srw (srw (srw (srw (srw (o14.2) 4 (o_7.2)) 5 (o_8.2)) 6 (o_9.2)) 7 (o_10.2)) 8 (o_11.2)) 9 (o_12.2)) 10) (p1w 0 0) (o_1.1)).bind fun (o_13 : ST × RI) => ((fX8_move (o_13.1) 60 ((srw (srw (srw (srw (srw (srw (srw (o14.2) 4 (o_7.2)) 5 (o_8.2)) 6 (o_9.2)) 7 (o_10.2)) 8 (o_11.2)) 9 (o_12.2)) 10 (o_13.2)) 11) (p1w 0 0) (o_1.1)).bind fun (o_14 : ST × RI) => (lt9 (upw (srw (srw (srw (srw (srw (srw (srw (srw (o14.2) 4 (o_7.2)) 5 (o_8.2)) 6 (o_9.2)) 7 (o_10.2)) 8 (o_11.2)) 9 (o_12.2)) 10 (o_13.2)) 11 (o_14.2)) 0 0 (o_1.1)) fun (w15 : ST) => ((fX8_measure w15 p1l).bind fun (o_16 : ST × SL) => some ((o_14.1), (o_16.1), (o_16.2))))))))))))))
set_option maxHeartbeats 16000000 in
set_option maxRecDepth 100000 in
theorem kX8_renumber {zs : Nat × Nat} (l : Launch) (dC : Nat → ClassId) (dI : Nat → Nat → Nat) (p0a : Nat → Nat) (p0k : Nat → ClassId) (p0w : ST) (p1a : Nat → Nat) (p1k : Nat → ClassId) (p1n : Nat → Nat) (p1w : ST) (p1l : SL) (sz : Nat) (o : ST × ST × SL) (hrun : fX8_renumber p0w p1n p1w p1l = some o) : Met l yX8_renumber (wz yX8_renumber cX8_renumber 5 (Option.none : Option Jvm.ClassFile.FieldType)) ({ frames := 4, cells := 0, slots := 0, locals := 97 } : Room) (va_Pc [.ref (p0a 0), .ref (p1a 0)] (PRE zs dC dI ((oX8 (p0a 0) p0a p0k p0w) ++ (oX1 (p1a 0) p1a p1k p1n p1w p1l)) ((tX8 p0k) ++ (tX1 p1k)) sz)) (va_Qv (fun (_ : Unit) => True) (fun _ t => POST dC dI ((oX8 (p0a 0) p0a p0k (o.1)) ++ (oX1 (p1a 0) p1a p1k p1n (o.2.1) (o.2.2))) ((tX8 p0k) ++ (tX1 p1k)) (va_A ((oX8 (p0a 0) p0a p0k p0w) ++ (oX1 (p1a 0) p1a p1k p1n p1w p1l)) sz) t) (va_A ((oX8 (p0a 0) p0a p0k p0w) ++ (oX1 (p1a 0) p1a p1k p1n p1w p1l)) sz)) 0 0 (va_A ((oX8 (p0a 0) p0a p0k p0w) ++ (oX1 (p1a 0) p1a p1k p1n p1w p1l)) sz) := by
  refine Met.ofW (cc := cX8_renumber) (maxL := 5) (ret := (Option.none : Option Jvm.ClassFile.FieldType)) (by decide) rfl ?_
  intro p e s m args below meth c s₁ B hml hv
  obtain ⟨rfl, hsz, hP, hK, hD0, hE⟩ := hv
  have hx := B.exec
  have hb := B.bytes
  have hr := B.returns
  have hts0 := atoms_spec (ws := wz yX8_renumber cX8_renumber 5 (Option.none : Option Jvm.ClassFile.FieldType)) B.pre
  have hts : ∀ w ∈ gw, w.before _ s = true := fun w h => hts0 w (List.mem_cons_of_mem _ h)
  have hown : s.vm.findClass RX8 = some m.cls := findClass_of_methodNamed B.named
  have hlocks := B.notSynchronized
  subst hsz
  have hD := hD0.self (sz := s.heap.size)
  refine gQ9 ?_
  intro Q hQ
  generalize hAe : va_A ((oX8 (p0a 0) p0a p0k p0w) ++ (oX1 (p1a 0) p1a p1k p1n p1w p1l)) s.heap.size = A at hD hE hQ
  have hA : ∀ q : Nat, s.heap.size ≤ q → A q := fun q h => by rw [← hAe]; exact Or.inr h
  have hS : va_S A s.heap s.heap [] := va_S.rf
  have hP : va_P (dC, dI) cls ((oX8 (p0a 0) p0a p0k p0w) ++ (oX1 (p1a 0) p1a p1k p1n p1w p1l)) s.heap := hP
  have hl := lv_entry ([.ref (p0a 0), .ref (p1a 0)]) (n := 5) (Nat.le_of_ble_eq_true rfl)
  rw [lg_entry_eq]
  generalize (lg_sl ([.ref (p0a 0), .ref (p1a 0)]) ++ List.replicate (5 - (lg_sl ([.ref (p0a 0), .ref (p1a 0)])).length) Slot.unset).toArray = ls at hl ⊢
  have hl : lv_has ls 5 [(0, .ref (p0a 0)), (1, .ref (p1a 0))] := hl
  obtain ⟨H, hHe⟩ : ∃ H, H = s.heap := ⟨_, rfl⟩
  obtain ⟨locs, hle⟩ : ∃ locs : List Loc, locs = [] := ⟨_, rfl⟩
  rw [← hHe] at hP
  have hS : va_S A s.heap H locs := by rw [hHe, hle]; exact hS
  show W p l e ({ frames := 4, cells := 0, slots := 0, locals := 97 } : Room) s m ([.ref (p0a 0), .ref (p1a 0)] : List Value).toArray below meth c s.heap [] 0 0 Q (F0 m 0 ls [])
  rw [← hle]
  refine wH9 hHe ?_
  unfold fX8_renumber at hrun
  refine lv_aload_n hx hb dX8_renumber_0 rfl (lv_at hl 1 rfl) ?_
  refine va_get (D := (dC, dI)) (ci := 4) (v := .int (p1w 0 0)) (C := RX1) (T := TX1) (N := 21) hx hb hts i_X1 hown hK hP 6 rfl rfl 0 (by decide) (hts _ qw147) (fun _ h9 => h9) rfl dX8_renumber_1 ?_
  refine lv_istore_n (lv' := [(2, .int (p1w 0 0)), (0, .ref (p0a 0)), (1, .ref (p1a 0))]) hx hb dX8_renumber_4 rfl hl (by decide) rfl (fun ls hl => ?_)
  refine lv_aload_n hx hb dX8_renumber_5 rfl (lv_at hl 1 rfl) ?_
  refine lv_aload_n hx hb dX8_renumber_6 rfl (lv_at hl 2 rfl) ?_
  obtain ⟨o_1, hc_1, hrun⟩ := bnd9 hrun
  have hPc := hP.sub (ws' := ((oX8 (p0a 0) p0a p0k p0w) ++ (oX1 (p1a 0) p1a p1k p1n p1w p1l))) [0, 1, 2, 3, 4, 5, 6, 7, 8, 9, 10, 11, 12, 13, 14, 15, 16, 17, 18, 19, 20, 21, 22, 23] rfl
  have hDc := hD.sub (ws' := ((oX8 (p0a 0) p0a p0k p0w) ++ (oX1 (p1a 0) p1a p1k p1n p1w p1l))) [0, 1, 2, 3, 4, 5, 6, 7, 8, 9, 10, 11, 12, 13, 14, 15, 16, 17, 18, 19, 20, 21, 22, 23] (by decide) rfl
  have hKc := hK.sub (tys' := ((tX8 p0k) ++ (tX1 p1k))) [0, 1, 2, 3, 4, 5, 6, 7, 8, 9, 10, 11, 12, 13, 14, 15, 16, 17, 18, 19, 20, 21] rfl
  have hFc := va_free (wc := ((oX8 (p0a 0) p0a p0k p0w) ++ (oX1 (p1a 0) p1a p1k p1n p1w p1l))) hD hS hA [0, 1, 2, 3, 4, 5, 6, 7, 8, 9, 10, 11, 12, 13, 14, 15, 16, 17, 18, 19, 20, 21, 22, 23] rfl
  refine va_calli (va_runV (As := [.ref (p1a 0)]) (rest := []) ⟨hx, hb, hml, hown, hts⟩ (kX8_walk l dC dI (p0a := (st0 (p0a 0) p0a)) (p0k := p0k) (p0w := p0w) (p1a := (st0 (p1a 0) p1a)) (p1k := p1k) (p1n := p1n) (p1w := p1w) (p1l := p1l) (sz := _) (o := o_1) (hrun := hc_1)) (cwV 1 hts (gi_V qw206 qw207 qw208 qw164 (gi_z qw205)) rfl rfl rfl (by decide +kernel) ⟨Nat.le_of_ble_eq_true rfl, Nat.le_of_ble_eq_true rfl⟩) ⟨PRE.blind, va_recv hKc hPc (ci := 5) (q0 := 0) rfl rfl, PRE.of hE hS hFc hPc hKc hDc⟩ rfl rfl hl.1 rfl (lv_room (Nat.le_of_ble_eq_true rfl)) dX8_renumber_7 ⟨Nat.le_of_ble_eq_true rfl, Nat.le_of_ble_eq_true rfl⟩) hS (fun q _ h => hFc q h) hFc (fun r2 u t H locs ht hvm hw hB hz1 hk1 hS => ?_)
  obtain ⟨hP, hD, hK⟩ := JOIN (wr := ([] : va_W)) hP hD hK [0, 1, 2, 3, 4, 5, 6, 7, 8, 9, 10, 11, 12, 13, 14, 15, 16, 17, 18, 19, 20, 21, 22, 23] [] [] rfl rfl (by decide) (by decide) rfl hk1 hFc ht hvm hB
  have hP : va_P (dC, dI) cls ((oX8 (p0a 0) p0a p0k (o_1.2)) ++ (oX1 (p1a 0) p1a p1k p1n p1w p1l)) H := hP.sub [0, 1, 2, 3, 4, 5, 6, 7, 8, 9, 10, 11, 12, 13, 14, 15, 16, 17, 18, 19, 20, 21, 22, 23] rfl
  have hD : va_D A ((oX8 (p0a 0) p0a p0k (o_1.2)) ++ (oX1 (p1a 0) p1a p1k p1n p1w p1l)) := hD.sub [0, 1, 2, 3, 4, 5, 6, 7, 8, 9, 10, 11, 12, 13, 14, 15, 16, 17, 18, 19, 20, 21, 22, 23] (by decide) rfl
  have hK : va_K (dC, dI) cls ((tX8 p0k) ++ (tX1 p1k)) s := hK.sub [0, 1, 2, 3, 4, 5, 6, 7, 8, 9, 10, 11, 12, 13, 14, 15, 16, 17, 18, 19, 20, 21] rfl
  obtain rfl : r2 = (o_1.1) := hw
  refine lv_istore_n (lv' := [(3, .int (o_1.1)), (2, .int (p1w 0 0)), (0, .ref (p0a 0)), (1, .ref (p1a 0))]) hx hb dX8_renumber_10 rfl hl (by decide) rfl (fun ls hl => ?_)
  refine lv_iconst (v := 0) hx hb dX8_renumber_11 (by decide) ?_
  refine lv_istore (lv' := [(4, .int 0), (3, .int (o_1.1)), (2, .int (p1w 0 0)), (0, .ref (p0a 0)), (1, .ref (p1a 0))]) hx hb dX8_renumber_12 hl (by decide) rfl (fun ls hl => ?_)
  have L14 : ∀ (n_14 : Nat) (v4_14 : Int32) (p0w_14 : ST) (p1w_14 : ST) (o14 : ST × ST) (H : Heap) (locs : List Loc) (ls : Array Slot), (fX8_renumber_L14 p1n p1w n_14) v4_14 p0w_14 p1w_14 = some o14 → va_P (dC, dI) cls ((oX8 (p0a 0) p0a p0k p0w_14) ++ (oX1 (p1a 0) p1a p1k p1n p1w_14 p1l)) H → va_D A ((oX8 (p0a 0) p0a p0k p0w_14) ++ (oX1 (p1a 0) p1a p1k p1n p1w_14 p1l)) → va_S A s.heap H locs → lv_has ls 5 [(0, .ref (p0a 0)), (1, .ref (p1a 0)), (2, .int (p1w 0 0)), (3, .int (o_1.1)), (4, .int v4_14)] → (∀ (H : Heap) (locs : List Loc) (ls : Array Slot), va_P (dC, dI) cls ((oX8 (p0a 0) p0a p0k (o14.1)) ++ (oX1 (p1a 0) p1a p1k p1n (o14.2) p1l)) H → va_D A ((oX8 (p0a 0) p0a p0k (o14.1)) ++ (oX1 (p1a 0) p1a p1k p1n (o14.2) p1l)) → va_S A s.heap H locs → lv_has ls 5 [(0, .ref (p0a 0)), (1, .ref (p1a 0)), (2, .int (p1w 0 0)), (3, .int (o_1.1))] → W p l e ({ frames := 4, cells := 0, slots := 0, locals := 97 } : Room) s m ([.ref (p0a 0), .ref (p1a 0)] : List Value).toArray below meth c H locs 0 0 Q (F0 m 43 ls [])) → W p l e ({ frames := 4, cells := 0, slots := 0, locals := 97 } : Room) s m ([.ref (p0a 0), .ref (p1a 0)] : List Value).toArray below meth c H locs 0 0 Q (F0 m 14 ls []) := by
    intro n_14
    induction n_14 with
    | zero => intro v4_14 p0w_14 p1w_14 o14 H locs ls hrun; exact (no9 rfl hrun).elim
    | succ n_14 IH14 =>
      intro v4_14 p0w_14 p1w_14 o14 H locs ls hrun hP hD hS hl hk14
      unfold fX8_renumber_L14 at hrun
      refine lv_iload hx hb dX8_renumber_14 (lv_at hl 4 rfl) ?_
      refine lv_iload_n hx hb dX8_renumber_16 rfl (lv_at hl 2 rfl) ?_
      rcases br9 hrun with ⟨hc3, hrun⟩ | ⟨hc3, hrun⟩
      · refine lv_icmp_ge (tgt := 43) hx hb dX8_renumber_17 (by decide) (fun _ => ?_) (fun c => absurd hc3 c)
        obtain rfl := (Option.some.inj hrun)
        exact hk14 _ _ _ hP hD hS (lv_sub hl [0, 1, 2, 3] rfl)
      · refine lv_icmp_ge (tgt := 43) hx hb dX8_renumber_17 (by decide) (fun c => absurd c hc3) (fun _ => ?_)
        refine lv_aload_n hx hb dX8_renumber_20 rfl (lv_at hl 0 rfl) ?_
        refine va_get (D := (dC, dI)) (ci := 5) (v := .ref (p0a 1)) (C := RX8) (T := TX8) (N := 5) hx hb hts i_X8 hown hK hP 0 rfl rfl 0 (by decide) (hts _ qw191) (fun _ h9 => h9) rfl dX8_renumber_21 ?_
        refine lv_iload hx hb dX8_renumber_24 (lv_at hl 4 rfl) ?_
        obtain ⟨hq4, hrun⟩ := chk9 hrun
        refine va_iald hx hb hK hP 1 0 rfl rfl (ixb_in hq4) dX8_renumber_26 ?_
        have J37 : ∀ (p0w_37 : ST) (p1w_37 : ST) (H : Heap) (locs : List Loc) (ls : Array Slot), (fX8_renumber_J37 (fX8_renumber_L14 p1n p1w n_14) v4_14 p0w_37 p1w_37) = some o14 → va_P (dC, dI) cls ((oX8 (p0a 0) p0a p0k p0w_37) ++ (oX1 (p1a 0) p1a p1k p1n p1w_37 p1l)) H → va_D A ((oX8 (p0a 0) p0a p0k p0w_37) ++ (oX1 (p1a 0) p1a p1k p1n p1w_37 p1l)) → va_S A s.heap H locs → lv_has ls 5 [(0, .ref (p0a 0)), (1, .ref (p1a 0)), (2, .int (p1w 0 0)), (3, .int (o_1.1)), (4, .int v4_14)] → W p l e ({ frames := 4, cells := 0, slots := 0, locals := 97 } : Room) s m ([.ref (p0a 0), .ref (p1a 0)] : List Value).toArray below meth c H locs 0 0 Q (F0 m 37 ls []) := by
          intro p0w_37 p1w_37 H locs ls hrun hP hD hS hl
          unfold fX8_renumber_J37 at hrun
          refine lv_iinc (v := (v4_14 + 1)) (lv' := [(4, .int (v4_14 + 1)), (0, .ref (p0a 0)), (1, .ref (p1a 0)), (2, .int (p1w 0 0)), (3, .int (o_1.1))]) hx hb dX8_renumber_37 hl (k := 4) rfl rfl (by decide) rfl (fun ls hl => ?_)
          refine lv_goto (tgt := 14) hx hb dX8_renumber_40 (by decide) ?_
          exact IH14 (v4_14 + 1) p0w_37 p1w_37 o14 _ _ _ hrun hP hD hS (lv_sub hl [1, 2, 3, 4, 0] rfl) hk14
        rcases br9 hrun with ⟨hc5, hrun⟩ | ⟨hc5, hrun⟩
        · refine lv_if_lt (tgt := 37) hx hb dX8_renumber_27 (by decide) (fun _ => ?_) (fun c => absurd hc5 c)
          exact J37 p0w_14 p1w_14 _ _ _ hrun hP hD hS (lv_sub hl [0, 1, 2, 3, 4] rfl)
        · refine lv_if_lt (tgt := 37) hx hb dX8_renumber_27 (by decide) (fun c => absurd c hc5) (fun _ => ?_)
          refine lv_aload_n hx hb dX8_renumber_30 rfl (lv_at hl 0 rfl) ?_
          refine lv_aload_n hx hb dX8_renumber_31 rfl (lv_at hl 1 rfl) ?_
          refine lv_iload hx hb dX8_renumber_32 (lv_at hl 4 rfl) ?_
          obtain ⟨o_6, hc_6, hrun⟩ := bnd9 hrun
          have hPc := hP.sub (ws' := ((oX8 (p0a 0) p0a p0k p0w_14) ++ (oX1 (p1a 0) p1a p1k p1n p1w_14 p1l))) [0, 1, 2, 3, 4, 5, 6, 7, 8, 9, 10, 11, 12, 13, 14, 15, 16, 17, 18, 19, 20, 21, 22, 23] rfl
          have hDc := hD.sub (ws' := ((oX8 (p0a 0) p0a p0k p0w_14) ++ (oX1 (p1a 0) p1a p1k p1n p1w_14 p1l))) [0, 1, 2, 3, 4, 5, 6, 7, 8, 9, 10, 11, 12, 13, 14, 15, 16, 17, 18, 19, 20, 21, 22, 23] (by decide) rfl
          have hKc := hK.sub (tys' := ((tX8 p0k) ++ (tX1 p1k))) [0, 1, 2, 3, 4, 5, 6, 7, 8, 9, 10, 11, 12, 13, 14, 15, 16, 17, 18, 19, 20, 21] rfl
          have hFc := va_free (wc := ((oX8 (p0a 0) p0a p0k p0w_14) ++ (oX1 (p1a 0) p1a p1k p1n p1w_14 p1l))) hD hS hA [0, 1, 2, 3, 4, 5, 6, 7, 8, 9, 10, 11, 12, 13, 14, 15, 16, 17, 18, 19, 20, 21, 22, 23] rfl
          refine va_callv (va_runV (As := [.ref (p1a 0), .int v4_14]) (rest := []) ⟨hx, hb, hml, hown, hts⟩ (kX8_renameWays l dC dI (p0a := (st0 (p0a 0) p0a)) (p0k := p0k) (p0w := p0w_14) (p1a := (st0 (p1a 0) p1a)) (p1k := p1k) (p1n := p1n) (p1w := p1w_14) (p1l := p1l) (p2 := v4_14) (sz := _) (o := o_6) (hrun := hc_6)) (cwV 2 hts (gi_V qw210 qw211 qw212 qw164 (gi_z qw209)) rfl rfl rfl (by decide +kernel) ⟨Nat.le_of_ble_eq_true rfl, Nat.le_of_ble_eq_true rfl⟩) ⟨PRE.blind, va_recv hKc hPc (ci := 5) (q0 := 0) rfl rfl, PRE.of hE hS hFc hPc hKc hDc⟩ rfl rfl hl.1 rfl (lv_room (Nat.le_of_ble_eq_true rfl)) dX8_renumber_34 ⟨Nat.le_of_ble_eq_true rfl, Nat.le_of_ble_eq_true rfl⟩) hS (fun q _ h => hFc q h) hFc (fun u t H locs ht hvm hw hB hz1 hk1 hS => ?_)
          obtain ⟨hP, hD, hK⟩ := JOIN (wr := ([] : va_W)) hP hD hK [0, 1, 2, 3, 4, 5, 6, 7, 8, 9, 10, 11, 12, 13, 14, 15, 16, 17, 18, 19, 20, 21, 22, 23] [] [] rfl rfl (by decide) (by decide) rfl hk1 hFc ht hvm hB
          have hP : va_P (dC, dI) cls ((oX8 (p0a 0) p0a p0k (o_6.1)) ++ (oX1 (p1a 0) p1a p1k p1n (o_6.2) p1l)) H := hP.sub [0, 1, 2, 3, 4, 5, 6, 7, 8, 9, 10, 11, 12, 13, 14, 15, 16, 17, 18, 19, 20, 21, 22, 23] rfl
          have hD : va_D A ((oX8 (p0a 0) p0a p0k (o_6.1)) ++ (oX1 (p1a 0) p1a p1k p1n (o_6.2) p1l)) := hD.sub [0, 1, 2, 3, 4, 5, 6, 7, 8, 9, 10, 11, 12, 13, 14, 15, 16, 17, 18, 19, 20, 21, 22, 23] (by decide) rfl
          have hK : va_K (dC, dI) cls ((tX8 p0k) ++ (tX1 p1k)) s := hK.sub [0, 1, 2, 3, 4, 5, 6, 7, 8, 9, 10, 11, 12, 13, 14, 15, 16, 17, 18, 19, 20, 21] rfl
          exact J37 (o_6.1) (o_6.2) _ _ _ hrun hP hD hS (lv_sub hl [0, 1, 2, 3, 4] rfl)
  obtain ⟨o14, hc14, hrun⟩ := bnd9 hrun
  refine L14 NF 0 (o_1.2) p1w o14 _ _ _ hc14 hP hD hS (lv_sub hl [3, 4, 2, 1, 0] rfl) ?_
  intro H locs ls hP hD hS hl
  have hl := hl
  refine lv_aload_n hx hb dX8_renumber_43 rfl (lv_at hl 0 rfl) ?_
  refine lv_aload_n hx hb dX8_renumber_44 rfl (lv_at hl 1 rfl) ?_
  refine va_get (D := (dC, dI)) (ci := 4) (v := .ref (p1a 4)) (C := RX1) (T := TX1) (N := 21) hx hb hts i_X1 hown hK hP 6 rfl rfl 3 (by decide) (hts _ qw213) (fun _ h9 => h9) rfl dX8_renumber_45 ?_
  refine lv_iload_n hx hb dX8_renumber_48 rfl (lv_at hl 2 rfl) ?_
  refine lv_iload_n hx hb dX8_renumber_49 rfl (lv_at hl 3 rfl) ?_
  obtain ⟨o_7, hc_7, hrun⟩ := bnd9 hrun
  have hPc := hP.sub (ws' := ((oX8 (p0a 0) p0a p0k (o14.1)) ++ [((p1a 4), .inl ((p1k 4), 60, .inl ((o14.2) 4)))])) [0, 1, 2, 3, 4, 5, 7] rfl
  have hDc := hD.sub (ws' := ((oX8 (p0a 0) p0a p0k (o14.1)) ++ [((p1a 4), .inl ((p1k 4), 60, .inl ((o14.2) 4)))])) [0, 1, 2, 3, 4, 5, 7] (by decide) rfl
  have hKc := hK.sub (tys' := ((tX8 p0k) ++ [((p1k 4), .int)])) [0, 1, 2, 3, 4, 5] rfl
  have hFc := va_free (wc := ((oX8 (p0a 0) p0a p0k (o14.1)) ++ [((p1a 4), .inl ((p1k 4), 60, .inl ((o14.2) 4)))])) hD hS hA [0, 1, 2, 3, 4, 5, 7] rfl
  refine va_callv (va_runV (As := [.ref (p1a 4), .int (p1w 0 0), .int (o_1.1)]) (rest := []) ⟨hx, hb, hml, hown, hts⟩ (kX8_move l dC dI (p0a := (st0 (p0a 0) p0a)) (p0k := p0k) (p0w := (o14.1)) (p1a := (p1a 4)) (p1k := (p1k 4)) (p1n := 60) (p1f := ((o14.2) 4)) (p2 := (p1w 0 0)) (p3 := (o_1.1)) (sz := _) (o := o_7) (hrun := hc_7)) (cwV 3 hts (gi_V qw215 qw216 qw217 qw164 (gi_z qw214)) rfl rfl rfl (by decide +kernel) ⟨Nat.le_of_ble_eq_true rfl, Nat.le_of_ble_eq_true rfl⟩) ⟨PRE.blind, va_recv hKc hPc (ci := 5) (q0 := 0) rfl rfl, PRE.of hE hS hFc hPc hKc hDc⟩ rfl rfl hl.1 rfl (lv_room (Nat.le_of_ble_eq_true rfl)) dX8_renumber_50 ⟨Nat.le_of_ble_eq_true rfl, Nat.le_of_ble_eq_true rfl⟩) hS (fun q _ h => hFc q h) hFc (fun u t H locs ht hvm hw hB hz1 hk1 hS => ?_)
  obtain ⟨hP, hD, hK⟩ := JOIN (wr := [((p1a 0), .inr (4, [.int ((o14.2) 0 0), .int ((o14.2) 0 1), .ref (p1a 3), .ref (p1a 4), .ref (p1a 5), .ref (p1a 6), .ref (p1a 7), .ref (p1a 8), .ref (p1a 9), .ref (p1a 10), .ref (p1a 11), .ref (p1a 12), .ref (p1a 13), .ref (p1a 14), .ref (p1a 15), .ref (p1a 16), .ref (p1a 17), .int ((o14.2) 0 17), .ref (p1a 19), .ref (p1a 20), .ref (p1a 21)])), ((p1a 5), .inl ((p1k 5), 60, .inl ((o14.2) 5))), ((p1a 6), .inl ((p1k 6), 60, .inl ((o14.2) 6))), ((p1a 7), .inl ((p1k 7), 60, .inl ((o14.2) 7))), ((p1a 8), .inl ((p1k 8), 60, .inl ((o14.2) 8))), ((p1a 9), .inl ((p1k 9), 60, .inl ((o14.2) 9))), ((p1a 10), .inl ((p1k 10), 60, .inl ((o14.2) 10))), ((p1a 11), .inl ((p1k 11), 60, .inl ((o14.2) 11))), ((p1a 12), .inl ((p1k 12), 60, .inl ((o14.2) 12))), ((p1a 13), .inl ((p1k 13), 60, .inl ((o14.2) 13))), ((p1a 14), .inl ((p1k 14), 61, .inl ((o14.2) 14))), ((p1a 15), .inl ((p1k 15), 120, .inl ((o14.2) 15))), ((p1a 16), .inl ((p1k 16), 60, .inr (.inl (p1l 16)))), ((p1a 17), .inl ((p1k 17), 60, .inr (.inl (p1l 17)))), ((p1a 19), .inl ((p1k 19), (p1n 19), .inl ((o14.2) 19))), ((p1a 20), .inl ((p1k 20), (p1n 20), .inl ((o14.2) 20))), ((p1a 21), .inl ((p1k 21), (p1n 21), .inl ((o14.2) 21)))]) hP hD hK [0, 1, 2, 3, 4, 5, 7] [6, 8, 9, 10, 11, 12, 13, 14, 15, 16, 17, 18, 19, 20, 21, 22, 23] [6, 7, 8, 9, 10, 11, 12, 13, 14, 15, 16, 17, 18, 19, 20, 21] rfl rfl (by decide) (by decide) rfl hk1 hFc ht hvm hB
  have hP : va_P (dC, dI) cls ((oX8 (p0a 0) p0a p0k (o_7.1)) ++ (oX1 (p1a 0) p1a p1k p1n (srw (o14.2) 4 (o_7.2)) p1l)) H := hP.sub [17, 18, 19, 20, 21, 22, 0, 23, 1, 2, 3, 4, 5, 6, 7, 8, 9, 10, 11, 12, 13, 14, 15, 16] rfl
  have hD : va_D A ((oX8 (p0a 0) p0a p0k (o_7.1)) ++ (oX1 (p1a 0) p1a p1k p1n (srw (o14.2) 4 (o_7.2)) p1l)) := hD.sub [17, 18, 19, 20, 21, 22, 0, 23, 1, 2, 3, 4, 5, 6, 7, 8, 9, 10, 11, 12, 13, 14, 15, 16] (by decide) rfl
  have hK : va_K (dC, dI) cls ((tX8 p0k) ++ (tX1 p1k)) s := hK.sub [16, 17, 18, 19, 20, 21, 0, 1, 2, 3, 4, 5, 6, 7, 8, 9, 10, 11, 12, 13, 14, 15] rfl
  refine lv_aload_n hx hb dX8_renumber_53 rfl (lv_at hl 0 rfl) ?_
  refine lv_aload_n hx hb dX8_renumber_54 rfl (lv_at hl 1 rfl) ?_
  refine va_get (D := (dC, dI)) (ci := 4) (v := .ref (p1a 5)) (C := RX1) (T := TX1) (N := 21) hx hb hts i_X1 hown hK hP 6 rfl rfl 4 (by decide) (hts _ qw218) (fun _ h9 => h9) rfl dX8_renumber_55 ?_
  refine lv_iload_n hx hb dX8_renumber_58 rfl (lv_at hl 2 rfl) ?_
  refine lv_iload_n hx hb dX8_renumber_59 rfl (lv_at hl 3 rfl) ?_
  obtain ⟨o_8, hc_8, hrun⟩ := bnd9 hrun
  have hPc := hP.sub (ws' := ((oX8 (p0a 0) p0a p0k (o_7.1)) ++ [((p1a 5), .inl ((p1k 5), 60, .inl ((srw (o14.2) 4 (o_7.2)) 5)))])) [0, 1, 2, 3, 4, 5, 8] rfl
  have hDc := hD.sub (ws' := ((oX8 (p0a 0) p0a p0k (o_7.1)) ++ [((p1a 5), .inl ((p1k 5), 60, .inl ((srw (o14.2) 4 (o_7.2)) 5)))])) [0, 1, 2, 3, 4, 5, 8] (by decide) rfl
  have hKc := hK.sub (tys' := ((tX8 p0k) ++ [((p1k 5), .int)])) [0, 1, 2, 3, 4, 6] rfl
  have hFc := va_free (wc := ((oX8 (p0a 0) p0a p0k (o_7.1)) ++ [((p1a 5), .inl ((p1k 5), 60, .inl ((srw (o14.2) 4 (o_7.2)) 5)))])) hD hS hA [0, 1, 2, 3, 4, 5, 8] rfl
  refine va_callv (va_runV (As := [.ref (p1a 5), .int (p1w 0 0), .int (o_1.1)]) (rest := []) ⟨hx, hb, hml, hown, hts⟩ (kX8_move l dC dI (p0a := (st0 (p0a 0) p0a)) (p0k := p0k) (p0w := (o_7.1)) (p1a := (p1a 5)) (p1k := (p1k 5)) (p1n := 60) (p1f := ((srw (o14.2) 4 (o_7.2)) 5)) (p2 := (p1w 0 0)) (p3 := (o_1.1)) (sz := _) (o := o_8) (hrun := hc_8)) (cwV 3 hts (gi_V qw215 qw216 qw217 qw164 (gi_z qw214)) rfl rfl rfl (by decide +kernel) ⟨Nat.le_of_ble_eq_true rfl, Nat.le_of_ble_eq_true rfl⟩) ⟨PRE.blind, va_recv hKc hPc (ci := 5) (q0 := 0) rfl rfl, PRE.of hE hS hFc hPc hKc hDc⟩ rfl rfl hl.1 rfl (lv_room (Nat.le_of_ble_eq_true rfl)) dX8_renumber_60 ⟨Nat.le_of_ble_eq_true rfl, Nat.le_of_ble_eq_true rfl⟩) hS (fun q _ h => hFc q h) hFc (fun u t H locs ht hvm hw hB hz1 hk1 hS => ?_)
  obtain ⟨hP, hD, hK⟩ := JOIN (wr := [((p1a 0), .inr (4, [.int ((srw (o14.2) 4 (o_7.2)) 0 0), .int ((srw (o14.2) 4 (o_7.2)) 0 1), .ref (p1a 3), .ref (p1a 4), .ref (p1a 5), .ref (p1a 6), .ref (p1a 7), .ref (p1a 8), .ref (p1a 9), .ref (p1a 10), .ref (p1a 11), .ref (p1a 12), .ref (p1a 13), .ref (p1a 14), .ref (p1a 15), .ref (p1a 16), .ref (p1a 17), .int ((srw (o14.2) 4 (o_7.2)) 0 17), .ref (p1a 19), .ref (p1a 20), .ref (p1a 21)])), ((p1a 4), .inl ((p1k 4), 60, .inl ((srw (o14.2) 4 (o_7.2)) 4))), ((p1a 6), .inl ((p1k 6), 60, .inl ((srw (o14.2) 4 (o_7.2)) 6))), ((p1a 7), .inl ((p1k 7), 60, .inl ((srw (o14.2) 4 (o_7.2)) 7))), ((p1a 8), .inl ((p1k 8), 60, .inl ((srw (o14.2) 4 (o_7.2)) 8))), ((p1a 9), .inl ((p1k 9), 60, .inl ((srw (o14.2) 4 (o_7.2)) 9))), ((p1a 10), .inl ((p1k 10), 60, .inl ((srw (o14.2) 4 (o_7.2)) 10))), ((p1a 11), .inl ((p1k 11), 60, .inl ((srw (o14.2) 4 (o_7.2)) 11))), ((p1a 12), .inl ((p1k 12), 60, .inl ((srw (o14.2) 4 (o_7.2)) 12))), ((p1a 13), .inl ((p1k 13), 60, .inl ((srw (o14.2) 4 (o_7.2)) 13))), ((p1a 14), .inl ((p1k 14), 61, .inl ((srw (o14.2) 4 (o_7.2)) 14))), ((p1a 15), .inl ((p1k 15), 120, .inl ((srw (o14.2) 4 (o_7.2)) 15))), ((p1a 16), .inl ((p1k 16), 60, .inr (.inl (p1l 16)))), ((p1a 17), .inl ((p1k 17), 60, .inr (.inl (p1l 17)))), ((p1a 19), .inl ((p1k 19), (p1n 19), .inl ((srw (o14.2) 4 (o_7.2)) 19))), ((p1a 20), .inl ((p1k 20), (p1n 20), .inl ((srw (o14.2) 4 (o_7.2)) 20))), ((p1a 21), .inl ((p1k 21), (p1n 21), .inl ((srw (o14.2) 4 (o_7.2)) 21)))]) hP hD hK [0, 1, 2, 3, 4, 5, 8] [6, 7, 9, 10, 11, 12, 13, 14, 15, 16, 17, 18, 19, 20, 21, 22, 23] [5, 7, 8, 9, 10, 11, 12, 13, 14, 15, 16, 17, 18, 19, 20, 21] rfl rfl (by decide) (by decide) rfl hk1 hFc ht hvm hB
  have hP : va_P (dC, dI) cls ((oX8 (p0a 0) p0a p0k (o_8.1)) ++ (oX1 (p1a 0) p1a p1k p1n (srw (srw (o14.2) 4 (o_7.2)) 5 (o_8.2)) p1l)) H := hP.sub [17, 18, 19, 20, 21, 22, 0, 1, 23, 2, 3, 4, 5, 6, 7, 8, 9, 10, 11, 12, 13, 14, 15, 16] rfl
  have hD : va_D A ((oX8 (p0a 0) p0a p0k (o_8.1)) ++ (oX1 (p1a 0) p1a p1k p1n (srw (srw (o14.2) 4 (o_7.2)) 5 (o_8.2)) p1l)) := hD.sub [17, 18, 19, 20, 21, 22, 0, 1, 23, 2, 3, 4, 5, 6, 7, 8, 9, 10, 11, 12, 13, 14, 15, 16] (by decide) rfl
  have hK : va_K (dC, dI) cls ((tX8 p0k) ++ (tX1 p1k)) s := hK.sub [16, 17, 18, 19, 20, 0, 21, 1, 2, 3, 4, 5, 6, 7, 8, 9, 10, 11, 12, 13, 14, 15] rfl
  refine lv_aload_n hx hb dX8_renumber_63 rfl (lv_at hl 0 rfl) ?_
  refine lv_aload_n hx hb dX8_renumber_64 rfl (lv_at hl 1 rfl) ?_
  refine va_get (D := (dC, dI)) (ci := 4) (v := .ref (p1a 6)) (C := RX1) (T := TX1) (N := 21) hx hb hts i_X1 hown hK hP 6 rfl rfl 5 (by decide) (hts _ qw199) (fun _ h9 => h9) rfl dX8_renumber_65 ?_
  refine lv_iload_n hx hb dX8_renumber_68 rfl (lv_at hl 2 rfl) ?_
  refine lv_iload_n hx hb dX8_renumber_69 rfl (lv_at hl 3 rfl) ?_
  obtain ⟨o_9, hc_9, hrun⟩ := bnd9 hrun
  have hPc := hP.sub (ws' := ((oX8 (p0a 0) p0a p0k (o_8.1)) ++ [((p1a 6), .inl ((p1k 6), 60, .inl ((srw (srw (o14.2) 4 (o_7.2)) 5 (o_8.2)) 6)))])) [0, 1, 2, 3, 4, 5, 9] rfl
  have hDc := hD.sub (ws' := ((oX8 (p0a 0) p0a p0k (o_8.1)) ++ [((p1a 6), .inl ((p1k 6), 60, .inl ((srw (srw (o14.2) 4 (o_7.2)) 5 (o_8.2)) 6)))])) [0, 1, 2, 3, 4, 5, 9] (by decide) rfl
  have hKc := hK.sub (tys' := ((tX8 p0k) ++ [((p1k 6), .int)])) [0, 1, 2, 3, 4, 7] rfl
  have hFc := va_free (wc := ((oX8 (p0a 0) p0a p0k (o_8.1)) ++ [((p1a 6), .inl ((p1k 6), 60, .inl ((srw (srw (o14.2) 4 (o_7.2)) 5 (o_8.2)) 6)))])) hD hS hA [0, 1, 2, 3, 4, 5, 9] rfl
  refine va_callv (va_runV (As := [.ref (p1a 6), .int (p1w 0 0), .int (o_1.1)]) (rest := []) ⟨hx, hb, hml, hown, hts⟩ (kX8_move l dC dI (p0a := (st0 (p0a 0) p0a)) (p0k := p0k) (p0w := (o_8.1)) (p1a := (p1a 6)) (p1k := (p1k 6)) (p1n := 60) (p1f := ((srw (srw (o14.2) 4 (o_7.2)) 5 (o_8.2)) 6)) (p2 := (p1w 0 0)) (p3 := (o_1.1)) (sz := _) (o := o_9) (hrun := hc_9)) (cwV 3 hts (gi_V qw215 qw216 qw217 qw164 (gi_z qw214)) rfl rfl rfl (by decide +kernel) ⟨Nat.le_of_ble_eq_true rfl, Nat.le_of_ble_eq_true rfl⟩) ⟨PRE.blind, va_recv hKc hPc (ci := 5) (q0 := 0) rfl rfl, PRE.of hE hS hFc hPc hKc hDc⟩ rfl rfl hl.1 rfl (lv_room (Nat.le_of_ble_eq_true rfl)) dX8_renumber_70 ⟨Nat.le_of_ble_eq_true rfl, Nat.le_of_ble_eq_true rfl⟩) hS (fun q _ h => hFc q h) hFc (fun u t H locs ht hvm hw hB hz1 hk1 hS => ?_)
  obtain ⟨hP, hD, hK⟩ := JOIN (wr := [((p1a 0), .inr (4, [.int ((srw (srw (o14.2) 4 (o_7.2)) 5 (o_8.2)) 0 0), .int ((srw (srw (o14.2) 4 (o_7.2)) 5 (o_8.2)) 0 1), .ref (p1a 3), .ref (p1a 4), .ref (p1a 5), .ref (p1a 6), .ref (p1a 7), .ref (p1a 8), .ref (p1a 9), .ref (p1a 10), .ref (p1a 11), .ref (p1a 12), .ref (p1a 13), .ref (p1a 14), .ref (p1a 15), .ref (p1a 16), .ref (p1a 17), .int ((srw (srw (o14.2) 4 (o_7.2)) 5 (o_8.2)) 0 17), .ref (p1a 19), .ref (p1a 20), .ref (p1a 21)])), ((p1a 4), .inl ((p1k 4), 60, .inl ((srw (srw (o14.2) 4 (o_7.2)) 5 (o_8.2)) 4))), ((p1a 5), .inl ((p1k 5), 60, .inl ((srw (srw (o14.2) 4 (o_7.2)) 5 (o_8.2)) 5))), ((p1a 7), .inl ((p1k 7), 60, .inl ((srw (srw (o14.2) 4 (o_7.2)) 5 (o_8.2)) 7))), ((p1a 8), .inl ((p1k 8), 60, .inl ((srw (srw (o14.2) 4 (o_7.2)) 5 (o_8.2)) 8))), ((p1a 9), .inl ((p1k 9), 60, .inl ((srw (srw (o14.2) 4 (o_7.2)) 5 (o_8.2)) 9))), ((p1a 10), .inl ((p1k 10), 60, .inl ((srw (srw (o14.2) 4 (o_7.2)) 5 (o_8.2)) 10))), ((p1a 11), .inl ((p1k 11), 60, .inl ((srw (srw (o14.2) 4 (o_7.2)) 5 (o_8.2)) 11))), ((p1a 12), .inl ((p1k 12), 60, .inl ((srw (srw (o14.2) 4 (o_7.2)) 5 (o_8.2)) 12))), ((p1a 13), .inl ((p1k 13), 60, .inl ((srw (srw (o14.2) 4 (o_7.2)) 5 (o_8.2)) 13))), ((p1a 14), .inl ((p1k 14), 61, .inl ((srw (srw (o14.2) 4 (o_7.2)) 5 (o_8.2)) 14))), ((p1a 15), .inl ((p1k 15), 120, .inl ((srw (srw (o14.2) 4 (o_7.2)) 5 (o_8.2)) 15))), ((p1a 16), .inl ((p1k 16), 60, .inr (.inl (p1l 16)))), ((p1a 17), .inl ((p1k 17), 60, .inr (.inl (p1l 17)))), ((p1a 19), .inl ((p1k 19), (p1n 19), .inl ((srw (srw (o14.2) 4 (o_7.2)) 5 (o_8.2)) 19))), ((p1a 20), .inl ((p1k 20), (p1n 20), .inl ((srw (srw (o14.2) 4 (o_7.2)) 5 (o_8.2)) 20))), ((p1a 21), .inl ((p1k 21), (p1n 21), .inl ((srw (srw (o14.2) 4 (o_7.2)) 5 (o_8.2)) 21)))]) hP hD hK [0, 1, 2, 3, 4, 5, 9] [6, 7, 8, 10, 11, 12, 13, 14, 15, 16, 17, 18, 19, 20, 21, 22, 23] [5, 6, 8, 9, 10, 11, 12, 13, 14, 15, 16, 17, 18, 19, 20, 21] rfl rfl (by decide) (by decide) rfl hk1 hFc ht hvm hB
  have hP : va_P (dC, dI) cls ((oX8 (p0a 0) p0a p0k (o_9.1)) ++ (oX1 (p1a 0) p1a p1k p1n (srw (srw (srw (o14.2) 4 (o_7.2)) 5 (o_8.2)) 6 (o_9.2)) p1l)) H := hP.sub [17, 18, 19, 20, 21, 22, 0, 1, 2, 23, 3, 4, 5, 6, 7, 8, 9, 10, 11, 12, 13, 14, 15, 16] rfl
  have hD : va_D A ((oX8 (p0a 0) p0a p0k (o_9.1)) ++ (oX1 (p1a 0) p1a p1k p1n (srw (srw (srw (o14.2) 4 (o_7.2)) 5 (o_8.2)) 6 (o_9.2)) p1l)) := hD.sub [17, 18, 19, 20, 21, 22, 0, 1, 2, 23, 3, 4, 5, 6, 7, 8, 9, 10, 11, 12, 13, 14, 15, 16] (by decide) rfl
  have hK : va_K (dC, dI) cls ((tX8 p0k) ++ (tX1 p1k)) s := hK.sub [16, 17, 18, 19, 20, 0, 1, 21, 2, 3, 4, 5, 6, 7, 8, 9, 10, 11, 12, 13, 14, 15] rfl
  refine lv_aload_n hx hb dX8_renumber_73 rfl (lv_at hl 0 rfl) ?_
  refine lv_aload_n hx hb dX8_renumber_74 rfl (lv_at hl 1 rfl) ?_
  refine va_get (D := (dC, dI)) (ci := 4) (v := .ref (p1a 7)) (C := RX1) (T := TX1) (N := 21) hx hb hts i_X1 hown hK hP 6 rfl rfl 6 (by decide) (hts _ qw219) (fun _ h9 => h9) rfl dX8_renumber_75 ?_
  refine lv_iload_n hx hb dX8_renumber_78 rfl (lv_at hl 2 rfl) ?_
  refine lv_iload_n hx hb dX8_renumber_79 rfl (lv_at hl 3 rfl) ?_
  obtain ⟨o_10, hc_10, hrun⟩ := bnd9 hrun
  have hPc := hP.sub (ws' := ((oX8 (p0a 0) p0a p0k (o_9.1)) ++ [((p1a 7), .inl ((p1k 7), 60, .inl ((srw (srw (srw (o14.2) 4 (o_7.2)) 5 (o_8.2)) 6 (o_9.2)) 7)))])) [0, 1, 2, 3, 4, 5, 10] rfl
  have hDc := hD.sub (ws' := ((oX8 (p0a 0) p0a p0k (o_9.1)) ++ [((p1a 7), .inl ((p1k 7), 60, .inl ((srw (srw (srw (o14.2) 4 (o_7.2)) 5 (o_8.2)) 6 (o_9.2)) 7)))])) [0, 1, 2, 3, 4, 5, 10] (by decide) rfl
  have hKc := hK.sub (tys' := ((tX8 p0k) ++ [((p1k 7), .int)])) [0, 1, 2, 3, 4, 8] rfl
  have hFc := va_free (wc := ((oX8 (p0a 0) p0a p0k (o_9.1)) ++ [((p1a 7), .inl ((p1k 7), 60, .inl ((srw (srw (srw (o14.2) 4 (o_7.2)) 5 (o_8.2)) 6 (o_9.2)) 7)))])) hD hS hA [0, 1, 2, 3, 4, 5, 10] rfl
  refine va_callv (va_runV (As := [.ref (p1a 7), .int (p1w 0 0), .int (o_1.1)]) (rest := []) ⟨hx, hb, hml, hown, hts⟩ (kX8_move l dC dI (p0a := (st0 (p0a 0) p0a)) (p0k := p0k) (p0w := (o_9.1)) (p1a := (p1a 7)) (p1k := (p1k 7)) (p1n := 60) (p1f := ((srw (srw (srw (o14.2) 4 (o_7.2)) 5 (o_8.2)) 6 (o_9.2)) 7)) (p2 := (p1w 0 0)) (p3 := (o_1.1)) (sz := _) (o := o_10) (hrun := hc_10)) (cwV 3 hts (gi_V qw215 qw216 qw217 qw164 (gi_z qw214)) rfl rfl rfl (by decide +kernel) ⟨Nat.le_of_ble_eq_true rfl, Nat.le_of_ble_eq_true rfl⟩) ⟨PRE.blind, va_recv hKc hPc (ci := 5) (q0 := 0) rfl rfl, PRE.of hE hS hFc hPc hKc hDc⟩ rfl rfl hl.1 rfl (lv_room (Nat.le_of_ble_eq_true rfl)) dX8_renumber_80 ⟨Nat.le_of_ble_eq_true rfl, Nat.le_of_ble_eq_true rfl⟩) hS (fun q _ h => hFc q h) hFc (fun u t H locs ht hvm hw hB hz1 hk1 hS => ?_)
  obtain ⟨hP, hD, hK⟩ := JOIN (wr := [((p1a 0), .inr (4, [.int ((srw (srw (srw (o14.2) 4 (o_7.2)) 5 (o_8.2)) 6 (o_9.2)) 0 0), .int ((srw (srw (srw (o14.2) 4 (o_7.2)) 5 (o_8.2)) 6 (o_9.2)) 0 1), .ref (p1a 3), .ref (p1a 4), .ref (p1a 5), .ref (p1a 6), .ref (p1a 7), .ref (p1a 8), .ref (p1a 9), .ref (p1a 10), .ref (p1a 11), .ref (p1a 12), .ref (p1a 13), .ref (p1a 14), .ref (p1a 15), .ref (p1a 16), .ref (p1a 17), .int ((srw (srw (srw (o14.2) 4 (o_7.2)) 5 (o_8.2)) 6 (o_9.2)) 0 17), .ref (p1a 19), .ref (p1a 20), .ref (p1a 21)])), ((p1a 4), .inl ((p1k 4), 60, .inl ((srw (srw (srw (o14.2) 4 (o_7.2)) 5 (o_8.2)) 6 (o_9.2)) 4))), ((p1a 5), .inl ((p1k 5), 60, .inl ((srw (srw (srw (o14.2) 4 (o_7.2)) 5 (o_8.2)) 6 (o_9.2)) 5))), ((p1a 6), .inl ((p1k 6), 60, .inl ((srw (srw (srw (o14.2) 4 (o_7.2)) 5 (o_8.2)) 6 (o_9.2)) 6))), ((p1a 8), .inl ((p1k 8), 60, .inl ((srw (srw (srw (o14.2) 4 (o_7.2)) 5 (o_8.2)) 6 (o_9.2)) 8))), ((p1a 9), .inl ((p1k 9), 60, .inl ((srw (srw (srw (o14.2) 4 (o_7.2)) 5 (o_8.2)) 6 (o_9.2)) 9))), ((p1a 10), .inl ((p1k 10), 60, .inl ((srw (srw (srw (o14.2) 4 (o_7.2)) 5 (o_8.2)) 6 (o_9.2)) 10))), ((p1a 11), .inl ((p1k 11), 60, .inl ((srw (srw (srw (o14.2) 4 (o_7.2)) 5 (o_8.2)) 6 (o_9.2)) 11))), ((p1a 12), .inl ((p1k 12), 60, .inl ((srw (srw (srw (o14.2) 4 (o_7.2)) 5 (o_8.2)) 6 (o_9.2)) 12))), ((p1a 13), .inl ((p1k 13), 60, .inl ((srw (srw (srw (o14.2) 4 (o_7.2)) 5 (o_8.2)) 6 (o_9.2)) 13))), ((p1a 14), .inl ((p1k 14), 61, .inl ((srw (srw (srw (o14.2) 4 (o_7.2)) 5 (o_8.2)) 6 (o_9.2)) 14))), ((p1a 15), .inl ((p1k 15), 120, .inl ((srw (srw (srw (o14.2) 4 (o_7.2)) 5 (o_8.2)) 6 (o_9.2)) 15))), ((p1a 16), .inl ((p1k 16), 60, .inr (.inl (p1l 16)))), ((p1a 17), .inl ((p1k 17), 60, .inr (.inl (p1l 17)))), ((p1a 19), .inl ((p1k 19), (p1n 19), .inl ((srw (srw (srw (o14.2) 4 (o_7.2)) 5 (o_8.2)) 6 (o_9.2)) 19))), ((p1a 20), .inl ((p1k 20), (p1n 20), .inl ((srw (srw (srw (o14.2) 4 (o_7.2)) 5 (o_8.2)) 6 (o_9.2)) 20))), ((p1a 21), .inl ((p1k 21), (p1n 21), .inl ((srw (srw (srw (o14.2) 4 (o_7.2)) 5 (o_8.2)) 6 (o_9.2)) 21)))]) hP hD hK [0, 1, 2, 3, 4, 5, 10] [6, 7, 8, 9, 11, 12, 13, 14, 15, 16, 17, 18, 19, 20, 21, 22, 23] [5, 6, 7, 9, 10, 11, 12, 13, 14, 15, 16, 17, 18, 19, 20, 21] rfl rfl (by decide) (by decide) rfl hk1 hFc ht hvm hB
  have hP : va_P (dC, dI) cls ((oX8 (p0a 0) p0a p0k (o_10.1)) ++ (oX1 (p1a 0) p1a p1k p1n (srw (srw (srw (srw (o14.2) 4 (o_7.2)) 5 (o_8.2)) 6 (o_9.2)) 7 (o_10.2)) p1l)) H := hP.sub [17, 18, 19, 20, 21, 22, 0, 1, 2, 3, 23, 4, 5, 6, 7, 8, 9, 10, 11, 12, 13, 14, 15, 16] rfl
  have hD : va_D A ((oX8 (p0a 0) p0a p0k (o_10.1)) ++ (oX1 (p1a 0) p1a p1k p1n (srw (srw (srw (srw (o14.2) 4 (o_7.2)) 5 (o_8.2)) 6 (o_9.2)) 7 (o_10.2)) p1l)) := hD.sub [17, 18, 19, 20, 21, 22, 0, 1, 2, 3, 23, 4, 5, 6, 7, 8, 9, 10, 11, 12, 13, 14, 15, 16] (by decide) rfl
  have hK : va_K (dC, dI) cls ((tX8 p0k) ++ (tX1 p1k)) s := hK.sub [16, 17, 18, 19, 20, 0, 1, 2, 21, 3, 4, 5, 6, 7, 8, 9, 10, 11, 12, 13, 14, 15] rfl
  refine lv_aload_n hx hb dX8_renumber_83 rfl (lv_at hl 0 rfl) ?_
  refine lv_aload_n hx hb dX8_renumber_84 rfl (lv_at hl 1 rfl) ?_
  refine va_get (D := (dC, dI)) (ci := 4) (v := .ref (p1a 8)) (C := RX1) (T := TX1) (N := 21) hx hb hts i_X1 hown hK hP 6 rfl rfl 7 (by decide) (hts _ qw220) (fun _ h9 => h9) rfl dX8_renumber_85 ?_
  refine lv_iload_n hx hb dX8_renumber_88 rfl (lv_at hl 2 rfl) ?_
  refine lv_iload_n hx hb dX8_renumber_89 rfl (lv_at hl 3 rfl) ?_
  obtain ⟨o_11, hc_11, hrun⟩ := bnd9 hrun
  have hPc := hP.sub (ws' := ((oX8 (p0a 0) p0a p0k (o_10.1)) ++ [((p1a 8), .inl ((p1k 8), 60, .inl ((srw (srw (srw (srw (o14.2) 4 (o_7.2)) 5 (o_8.2)) 6 (o_9.2)) 7 (o_10.2)) 8)))])) [0, 1, 2, 3, 4, 5, 11] rfl
  have hDc := hD.sub (ws' := ((oX8 (p0a 0) p0a p0k (o_10.1)) ++ [((p1a 8), .inl ((p1k 8), 60, .inl ((srw (srw (srw (srw (o14.2) 4 (o_7.2)) 5 (o_8.2)) 6 (o_9.2)) 7 (o_10.2)) 8)))])) [0, 1, 2, 3, 4, 5, 11] (by decide) rfl
  have hKc := hK.sub (tys' := ((tX8 p0k) ++ [((p1k 8), .int)])) [0, 1, 2, 3, 4, 9] rfl
  have hFc := va_free (wc := ((oX8 (p0a 0) p0a p0k (o_10.1)) ++ [((p1a 8), .inl ((p1k 8), 60, .inl ((srw (srw (srw (srw (o14.2) 4 (o_7.2)) 5 (o_8.2)) 6 (o_9.2)) 7 (o_10.2)) 8)))])) hD hS hA [0, 1, 2, 3, 4, 5, 11] rfl
  refine va_callv (va_runV (As := [.ref (p1a 8), .int (p1w 0 0), .int (o_1.1)]) (rest := []) ⟨hx, hb, hml, hown, hts⟩ (kX8_move l dC dI (p0a := (st0 (p0a 0) p0a)) (p0k := p0k) (p0w := (o_10.1)) (p1a := (p1a 8)) (p1k := (p1k 8)) (p1n := 60) (p1f := ((srw (srw (srw (srw (o14.2) 4 (o_7.2)) 5 (o_8.2)) 6 (o_9.2)) 7 (o_10.2)) 8)) (p2 := (p1w 0 0)) (p3 := (o_1.1)) (sz := _) (o := o_11) (hrun := hc_11)) (cwV 3 hts (gi_V qw215 qw216 qw217 qw164 (gi_z qw214)) rfl rfl rfl (by decide +kernel) ⟨Nat.le_of_ble_eq_true rfl, Nat.le_of_ble_eq_true rfl⟩) ⟨PRE.blind, va_recv hKc hPc (ci := 5) (q0 := 0) rfl rfl, PRE.of hE hS hFc hPc hKc hDc⟩ rfl rfl hl.1 rfl (lv_room (Nat.le_of_ble_eq_true rfl)) dX8_renumber_90 ⟨Nat.le_of_ble_eq_true rfl, Nat.le_of_ble_eq_true rfl⟩) hS (fun q _ h => hFc q h) hFc (fun u t H locs ht hvm hw hB hz1 hk1 hS => ?_)
  obtain ⟨hP, hD, hK⟩ := JOIN (wr := [((p1a 0), .inr (4, [.int ((srw (srw (srw (srw (o14.2) 4 (o_7.2)) 5 (o_8.2)) 6 (o_9.2)) 7 (o_10.2)) 0 0), .int ((srw (srw (srw (srw (o14.2) 4 (o_7.2)) 5 (o_8.2)) 6 (o_9.2)) 7 (o_10.2)) 0 1), .ref (p1a 3), .ref (p1a 4), .ref (p1a 5), .ref (p1a 6), .ref (p1a 7), .ref (p1a 8), .ref (p1a 9), .ref (p1a 10), .ref (p1a 11), .ref (p1a 12), .ref (p1a 13), .ref (p1a 14), .ref (p1a 15), .ref (p1a 16), .ref (p1a 17), .int ((srw (srw (srw (srw (o14.2) 4 (o_7.2)) 5 (o_8.2)) 6 (o_9.2)) 7 (o_10.2)) 0 17), .ref (p1a 19), .ref (p1a 20), .ref (p1a 21)])), ((p1a 4), .inl ((p1k 4), 60, .inl ((srw (srw (srw (srw (o14.2) 4 (o_7.2)) 5 (o_8.2)) 6 (o_9.2)) 7 (o_10.2)) 4))), ((p1a 5), .inl ((p1k 5), 60, .inl ((srw (srw (srw (srw (o14.2) 4 (o_7.2)) 5 (o_8.2)) 6 (o_9.2)) 7 (o_10.2)) 5))), ((p1a 6), .inl ((p1k 6), 60, .inl ((srw (srw (srw (srw (o14.2) 4 (o_7.2)) 5 (o_8.2)) 6 (o_9.2)) 7 (o_10.2)) 6))), ((p1a 7), .inl ((p1k 7), 60, .inl ((srw (srw (srw (srw (o14.2) 4 (o_7.2)) 5 (o_8.2)) 6 (o_9.2)) 7 (o_10.2)) 7))), ((p1a 9), .inl ((p1k 9), 60, .inl ((srw (srw (srw (srw (o14.2) 4 (o_7.2)) 5 (o_8.2)) 6 (o_9.2)) 7 (o_10.2)) 9))), ((p1a 10), .inl ((p1k 10), 60, .inl ((srw (srw (srw (srw (o14.2) 4 (o_7.2)) 5 (o_8.2)) 6 (o_9.2)) 7 (o_10.2)) 10))), ((p1a 11), .inl ((p1k 11), 60, .inl ((srw (srw (srw (srw (o14.2) 4 (o_7.2)) 5 (o_8.2)) 6 (o_9.2)) 7 (o_10.2)) 11))), ((p1a 12), .inl ((p1k 12), 60, .inl ((srw (srw (srw (srw (o14.2) 4 (o_7.2)) 5 (o_8.2)) 6 (o_9.2)) 7 (o_10.2)) 12))), ((p1a 13), .inl ((p1k 13), 60, .inl ((srw (srw (srw (srw (o14.2) 4 (o_7.2)) 5 (o_8.2)) 6 (o_9.2)) 7 (o_10.2)) 13))), ((p1a 14), .inl ((p1k 14), 61, .inl ((srw (srw (srw (srw (o14.2) 4 (o_7.2)) 5 (o_8.2)) 6 (o_9.2)) 7 (o_10.2)) 14))), ((p1a 15), .inl ((p1k 15), 120, .inl ((srw (srw (srw (srw (o14.2) 4 (o_7.2)) 5 (o_8.2)) 6 (o_9.2)) 7 (o_10.2)) 15))), ((p1a 16), .inl ((p1k 16), 60, .inr (.inl (p1l 16)))), ((p1a 17), .inl ((p1k 17), 60, .inr (.inl (p1l 17)))), ((p1a 19), .inl ((p1k 19), (p1n 19), .inl ((srw (srw (srw (srw (o14.2) 4 (o_7.2)) 5 (o_8.2)) 6 (o_9.2)) 7 (o_10.2)) 19))), ((p1a 20), .inl ((p1k 20), (p1n 20), .inl ((srw (srw (srw (srw (o14.2) 4 (o_7.2)) 5 (o_8.2)) 6 (o_9.2)) 7 (o_10.2)) 20))), ((p1a 21), .inl ((p1k 21), (p1n 21), .inl ((srw (srw (srw (srw (o14.2) 4 (o_7.2)) 5 (o_8.2)) 6 (o_9.2)) 7 (o_10.2)) 21)))]) hP hD hK [0, 1, 2, 3, 4, 5, 11] [6, 7, 8, 9, 10, 12, 13, 14, 15, 16, 17, 18, 19, 20, 21, 22, 23] [5, 6, 7, 8, 10, 11, 12, 13, 14, 15, 16, 17, 18, 19, 20, 21] rfl rfl (by decide) (by decide) rfl hk1 hFc ht hvm hB
  have hP : va_P (dC, dI) cls ((oX8 (p0a 0) p0a p0k (o_11.1)) ++ (oX1 (p1a 0) p1a p1k p1n (srw (srw (srw (srw (srw (o14.2) 4 (o_7.2)) 5 (o_8.2)) 6 (o_9.2)) 7 (o_10.2)) 8 (o_11.2)) p1l)) H := hP.sub [17, 18, 19, 20, 21, 22, 0, 1, 2, 3, 4, 23, 5, 6, 7, 8, 9, 10, 11, 12, 13, 14, 15, 16] rfl
  have hD : va_D A ((oX8 (p0a 0) p0a p0k (o_11.1)) ++ (oX1 (p1a 0) p1a p1k p1n (srw (srw (srw (srw (srw (o14.2) 4 (o_7.2)) 5 (o_8.2)) 6 (o_9.2)) 7 (o_10.2)) 8 (o_11.2)) p1l)) := hD.sub [17, 18, 19, 20, 21, 22, 0, 1, 2, 3, 4, 23, 5, 6, 7, 8, 9, 10, 11, 12, 13, 14, 15, 16] (by decide) rfl
  have hK : va_K (dC, dI) cls ((tX8 p0k) ++ (tX1 p1k)) s := hK.sub [16, 17, 18, 19, 20, 0, 1, 2, 3, 21, 4, 5, 6, 7, 8, 9, 10, 11, 12, 13, 14, 15] rfl
  refine lv_aload_n hx hb dX8_renumber_93 rfl (lv_at hl 0 rfl) ?_
  refine lv_aload_n hx hb dX8_renumber_94 rfl (lv_at hl 1 rfl) ?_
  refine va_get (D := (dC, dI)) (ci := 4) (v := .ref (p1a 9)) (C := RX1) (T := TX1) (N := 21) hx hb hts i_X1 hown hK hP 6 rfl rfl 8 (by decide) (hts _ qw221) (fun _ h9 => h9) rfl dX8_renumber_95 ?_
  refine lv_iload_n hx hb dX8_renumber_98 rfl (lv_at hl 2 rfl) ?_
  refine lv_iload_n hx hb dX8_renumber_99 rfl (lv_at hl 3 rfl) ?_
  obtain ⟨o_12, hc_12, hrun⟩ := bnd9 hrun
  have hPc := hP.sub (ws' := ((oX8 (p0a 0) p0a p0k (o_11.1)) ++ [((p1a 9), .inl ((p1k 9), 60, .inl ((srw (srw (srw (srw (srw (o14.2) 4 (o_7.2)) 5 (o_8.2)) 6 (o_9.2)) 7 (o_10.2)) 8 (o_11.2)) 9)))])) [0, 1, 2, 3, 4, 5, 12] rfl
  have hDc := hD.sub (ws' := ((oX8 (p0a 0) p0a p0k (o_11.1)) ++ [((p1a 9), .inl ((p1k 9), 60, .inl ((srw (srw (srw (srw (srw (o14.2) 4 (o_7.2)) 5 (o_8.2)) 6 (o_9.2)) 7 (o_10.2)) 8 (o_11.2)) 9)))])) [0, 1, 2, 3, 4, 5, 12] (by decide) rfl
  have hKc := hK.sub (tys' := ((tX8 p0k) ++ [((p1k 9), .int)])) [0, 1, 2, 3, 4, 10] rfl
  have hFc := va_free (wc := ((oX8 (p0a 0) p0a p0k (o_11.1)) ++ [((p1a 9), .inl ((p1k 9), 60, .inl ((srw (srw (srw (srw (srw (o14.2) 4 (o_7.2)) 5 (o_8.2)) 6 (o_9.2)) 7 (o_10.2)) 8 (o_11.2)) 9)))])) hD hS hA [0, 1, 2, 3, 4, 5, 12] rfl
  refine va_callv (va_runV (As := [.ref (p1a 9), .int (p1w 0 0), .int (o_1.1)]) (rest := []) ⟨hx, hb, hml, hown, hts⟩ (kX8_move l dC dI (p0a := (st0 (p0a 0) p0a)) (p0k := p0k) (p0w := (o_11.1)) (p1a := (p1a 9)) (p1k := (p1k 9)) (p1n := 60) (p1f := ((srw (srw (srw (srw (srw (o14.2) 4 (o_7.2)) 5 (o_8.2)) 6 (o_9.2)) 7 (o_10.2)) 8 (o_11.2)) 9)) (p2 := (p1w 0 0)) (p3 := (o_1.1)) (sz := _) (o := o_12) (hrun := hc_12)) (cwV 3 hts (gi_V qw215 qw216 qw217 qw164 (gi_z qw214)) rfl rfl rfl (by decide +kernel) ⟨Nat.le_of_ble_eq_true rfl, Nat.le_of_ble_eq_true rfl⟩) ⟨PRE.blind, va_recv hKc hPc (ci := 5) (q0 := 0) rfl rfl, PRE.of hE hS hFc hPc hKc hDc⟩ rfl rfl hl.1 rfl (lv_room (Nat.le_of_ble_eq_true rfl)) dX8_renumber_100 ⟨Nat.le_of_ble_eq_true rfl, Nat.le_of_ble_eq_true rfl⟩) hS (fun q _ h => hFc q h) hFc (fun u t H locs ht hvm hw hB hz1 hk1 hS => ?_)
  obtain ⟨hP, hD, hK⟩ := JOIN (wr := [((p1a 0), .inr (4, [.int ((srw (srw (srw (srw (srw (o14.2) 4 (o_7.2)) 5 (o_8.2)) 6 (o_9.2)) 7 (o_10.2)) 8 (o_11.2)) 0 0), .int ((srw (srw (srw (srw (srw (o14.2) 4 (o_7.2)) 5 (o_8.2)) 6 (o_9.2)) 7 (o_10.2)) 8 (o_11.2)) 0 1), .ref (p1a 3), .ref (p1a 4), .ref (p1a 5), .ref (p1a 6), .ref (p1a 7), .ref (p1a 8), .ref (p1a 9), .ref (p1a 10), .ref (p1a 11), .ref (p1a 12), .ref (p1a 13), .ref (p1a 14), .ref (p1a 15), .ref (p1a 16), .ref (p1a 17), .int ((srw (srw (srw (srw (srw (o14.2) 4 (o_7.2)) 5 (o_8.2)) 6 (o_9.2)) 7 (o_10.2)) 8 (o_11.2)) 0 17), .ref (p1a 19), .ref (p1a 20), .ref (p1a 21)])), ((p1a 4), .inl ((p1k 4), 60, .inl ((srw (srw (srw (srw (srw (o14.2) 4 (o_7.2)) 5 (o_8.2)) 6 (o_9.2)) 7 (o_10.2)) 8 (o_11.2)) 4))), ((p1a 5), .inl ((p1k 5), 60, .inl ((srw (srw (srw (srw (srw (o14.2) 4 (o_7.2)) 5 (o_8.2)) 6 (o_9.2)) 7 (o_10.2)) 8 (o_11.2)) 5))), ((p1a 6), .inl ((p1k 6), 60, .inl ((srw (srw (srw (srw (srw (o14.2) 4 (o_7.2)) 5 (o_8.2)) 6 (o_9.2)) 7 (o_10.2)) 8 (o_11.2)) 6))), ((p1a 7), .inl ((p1k 7), 60, .inl ((srw (srw (srw (srw (srw (o14.2) 4 (o_7.2)) 5 (o_8.2)) 6 (o_9.2)) 7 (o_10.2)) 8 (o_11.2)) 7))), ((p1a 8), .inl ((p1k 8), 60, .inl ((srw (srw (srw (srw (srw (o14.2) 4 (o_7.2)) 5 (o_8.2)) 6 (o_9.2)) 7 (o_10.2)) 8 (o_11.2)) 8))), ((p1a 10), .inl ((p1k 10), 60, .inl ((srw (srw (srw (srw (srw (o14.2) 4 (o_7.2)) 5 (o_8.2)) 6 (o_9.2)) 7 (o_10.2)) 8 (o_11.2)) 10))), ((p1a 11), .inl ((p1k 11), 60, .inl ((srw (srw (srw (srw (srw (o14.2) 4 (o_7.2)) 5 (o_8.2)) 6 (o_9.2)) 7 (o_10.2)) 8 (o_11.2)) 11))), ((p1a 12), .inl ((p1k 12), 60, .inl ((srw (srw (srw (srw (srw (o14.2) 4 (o_7.2)) 5 (o_8.2)) 6 (o_9.2)) 7 (o_10.2)) 8 (o_11.2)) 12))), ((p1a 13), .inl ((p1k 13), 60, .inl ((srw (srw (srw (srw (srw (o14.2) 4 (o_7.2)) 5 (o_8.2)) 6 (o_9.2)) 7 (o_10.2)) 8 (o_11.2)) 13))), ((p1a 14), .inl ((p1k 14), 61, .inl ((srw (srw (srw (srw (srw (o14.2) 4 (o_7.2)) 5 (o_8.2)) 6 (o_9.2)) 7 (o_10.2)) 8 (o_11.2)) 14))), ((p1a 15), .inl ((p1k 15), 120, .inl ((srw (srw (srw (srw (srw (o14.2) 4 (o_7.2)) 5 (o_8.2)) 6 (o_9.2)) 7 (o_10.2)) 8 (o_11.2)) 15))), ((p1a 16), .inl ((p1k 16), 60, .inr (.inl (p1l 16)))), ((p1a 17), .inl ((p1k 17), 60, .inr (.inl (p1l 17)))), ((p1a 19), .inl ((p1k 19), (p1n 19), .inl ((srw (srw (srw (srw (srw (o14.2) 4 (o_7.2)) 5 (o_8.2)) 6 (o_9.2)) 7 (o_10.2)) 8 (o_11.2)) 19))), ((p1a 20), .inl ((p1k 20), (p1n 20), .inl ((srw (srw (srw (srw (srw (o14.2) 4 (o_7.2)) 5 (o_8.2)) 6 (o_9.2)) 7 (o_10.2)) 8 (o_11.2)) 20))), ((p1a 21), .inl ((p1k 21), (p1n 21), .inl ((srw (srw (srw (srw (srw (o14.2) 4 (o_7.2)) 5 (o_8.2)) 6 (o_9.2)) 7 (o_10.2)) 8 (o_11.2)) 21)))]) hP hD hK [0, 1, 2, 3, 4, 5, 12] [6, 7, 8, 9, 10, 11, 13, 14, 15, 16, 17, 18, 19, 20, 21, 22, 23] [5, 6, 7, 8, 9, 11, 12, 13, 14, 15, 16, 17, 18, 19, 20, 21] rfl rfl (by decide) (by decide) rfl hk1 hFc ht hvm hB
  have hP : va_P (dC, dI) cls ((oX8 (p0a 0) p0a p0k (o_12.1)) ++ (oX1 (p1a 0) p1a p1k p1n (srw (srw (srw (srw (srw (srw (o14.2) 4 (o_7.2)) 5 (o_8.2)) 6 (o_9.2)) 7 (o_10.2)) 8 (o_11.2)) 9 (o_12.2)) p1l)) H := hP.sub [17, 18, 19, 20, 21, 22, 0, 1, 2, 3, 4, 5, 23, 6, 7, 8, 9, 10, 11, 12, 13, 14, 15, 16] rfl
  have hD : va_D A ((oX8 (p0a 0) p0a p0k (o_12.1)) ++ (oX1 (p1a 0) p1a p1k p1n (srw (srw (srw (srw (srw (srw (o14.2) 4 (o_7.2)) 5 (o_8.2)) 6 (o_9.2)) 7 (o_10.2)) 8 (o_11.2)) 9 (o_12.2)) p1l)) := hD.sub [17, 18, 19, 20, 21, 22, 0, 1, 2, 3, 4, 5, 23, 6, 7, 8, 9, 10, 11, 12, 13, 14, 15, 16] (by decide) rfl
  have hK : va_K (dC, dI) cls ((tX8 p0k) ++ (tX1 p1k)) s := hK.sub [16, 17, 18, 19, 20, 0, 1, 2, 3, 4, 21, 5, 6, 7, 8, 9, 10, 11, 12, 13, 14, 15] rfl
  refine lv_aload_n hx hb dX8_renumber_103 rfl (lv_at hl 0 rfl) ?_
  refine lv_aload_n hx hb dX8_renumber_104 rfl (lv_at hl 1 rfl) ?_
  refine va_get (D := (dC, dI)) (ci := 4) (v := .ref (p1a 10)) (C := RX1) (T := TX1) (N := 21) hx hb hts i_X1 hown hK hP 6 rfl rfl 9 (by decide) (hts _ qw197) (fun _ h9 => h9) rfl dX8_renumber_105 ?_
  refine lv_iload_n hx hb dX8_renumber_108 rfl (lv_at hl 2 rfl) ?_
  refine lv_iload_n hx hb dX8_renumber_109 rfl (lv_at hl 3 rfl) ?_
  obtain ⟨o_13, hc_13, hrun⟩ := bnd9 hrun
  have hPc := hP.sub (ws' := ((oX8 (p0a 0) p0a p0k (o_12.1)) ++ [((p1a 10), .inl ((p1k 10), 60, .inl ((srw (srw (srw (srw (srw (srw (o14.2) 4 (o_7.2)) 5 (o_8.2)) 6 (o_9.2)) 7 (o_10.2)) 8 (o_11.2)) 9 (o_12.2)) 10)))])) [0, 1, 2, 3, 4, 5, 13] rfl
  have hDc := hD.sub (ws' := ((oX8 (p0a 0) p0a p0k (o_12.1)) ++ [((p1a 10), .inl ((p1k 10), 60, .inl ((srw (srw (srw (srw (srw (srw (o14.2) 4 (o_7.2)) 5 (o_8.2)) 6 (o_9.2)) 7 (o_10.2)) 8 (o_11.2)) 9 (o_12.2)) 10)))])) [0, 1, 2, 3, 4, 5, 13] (by decide) rfl
  have hKc := hK.sub (tys' := ((tX8 p0k) ++ [((p1k 10), .int)])) [0, 1, 2, 3, 4, 11] rfl
  have hFc := va_free (wc := ((oX8 (p0a 0) p0a p0k (o_12.1)) ++ [((p1a 10), .inl ((p1k 10), 60, .inl ((srw (srw (srw (srw (srw (srw (o14.2) 4 (o_7.2)) 5 (o_8.2)) 6 (o_9.2)) 7 (o_10.2)) 8 (o_11.2)) 9 (o_12.2)) 10)))])) hD hS hA [0, 1, 2, 3, 4, 5, 13] rfl
  refine va_callv (va_runV (As := [.ref (p1a 10), .int (p1w 0 0), .int (o_1.1)]) (rest := []) ⟨hx, hb, hml, hown, hts⟩ (kX8_move l dC dI (p0a := (st0 (p0a 0) p0a)) (p0k := p0k) (p0w := (o_12.1)) (p1a := (p1a 10)) (p1k := (p1k 10)) (p1n := 60) (p1f := ((srw (srw (srw (srw (srw (srw (o14.2) 4 (o_7.2)) 5 (o_8.2)) 6 (o_9.2)) 7 (o_10.2)) 8 (o_11.2)) 9 (o_12.2)) 10)) (p2 := (p1w 0 0)) (p3 := (o_1.1)) (sz := _) (o := o_13) (hrun := hc_13)) (cwV 3 hts (gi_V qw215 qw216 qw217 qw164 (gi_z qw214)) rfl rfl rfl (by decide +kernel) ⟨Nat.le_of_ble_eq_true rfl, Nat.le_of_ble_eq_true rfl⟩) ⟨PRE.blind, va_recv hKc hPc (ci := 5) (q0 := 0) rfl rfl, PRE.of hE hS hFc hPc hKc hDc⟩ rfl rfl hl.1 rfl (lv_room (Nat.le_of_ble_eq_true rfl)) dX8_renumber_110 ⟨Nat.le_of_ble_eq_true rfl, Nat.le_of_ble_eq_true rfl⟩) hS (fun q _ h => hFc q h) hFc (fun u t H locs ht hvm hw hB hz1 hk1 hS => ?_)
  obtain ⟨hP, hD, hK⟩ := JOIN (wr := [((p1a 0), .inr (4, [.int ((srw (srw (srw (srw (srw (srw (o14.2) 4 (o_7.2)) 5 (o_8.2)) 6 (o_9.2)) 7 (o_10.2)) 8 (o_11.2)) 9 (o_12.2)) 0 0), .int ((srw (srw (srw (srw (srw (srw (o14.2) 4 (o_7.2)) 5 (o_8.2)) 6 (o_9.2)) 7 (o_10.2)) 8 (o_11.2)) 9 (o_12.2)) 0 1), .ref (p1a 3), .ref (p1a 4), .ref (p1a 5), .ref (p1a 6), .ref (p1a 7), .ref (p1a 8), .ref (p1a 9), .ref (p1a 10), .ref (p1a 11), .ref (p1a 12), .ref (p1a 13), .ref (p1a 14), .ref (p1a 15), .ref (p1a 16), .ref (p1a 17), .int ((srw (srw (srw (srw (srw (srw (o14.2) 4 (o_7.2)) 5 (o_8.2)) 6 (o_9.2)) 7 (o_10.2)) 8 (o_11.2)) 9 (o_12.2)) 0 17), .ref (p1a 19), .ref (p1a 20), .ref (p1a 21)])), ((p1a 4), .inl ((p1k 4), 60, .inl ((srw (srw (srw (srw (srw (srw (o14.2) 4 (o_7.2)) 5 (o_8.2)) 6 (o_9.2)) 7 (o_10.2)) 8 (o_11.2)) 9 (o_12.2)) 4))), ((p1a 5), .inl ((p1k 5), 60, .inl ((srw (srw (srw (srw (srw (srw (o14.2) 4 (o_7.2)) 5 (o_8.2)) 6 (o_9.2)) 7 (o_10.2)) 8 (o_11.2)) 9 (o_12.2)) 5))), ((p1a 6), .inl ((p1k 6), 60, .inl ((srw (srw (srw (srw (srw (srw (o14.2) 4 (o_7.2)) 5 (o_8.2)) 6 (o_9.2)) 7 (o_10.2)) 8 (o_11.2)) 9 (o_12.2)) 6))), ((p1a 7), .inl ((p1k 7), 60, .inl ((srw (srw (srw (srw (srw (srw (o14.2) 4 (o_7.2)) 5 (o_8.2)) 6 (o_9.2)) 7 (o_10.2)) 8 (o_11.2)) 9 (o_12.2)) 7))), ((p1a 8), .inl ((p1k 8), 60, .inl ((srw (srw (srw (srw (srw (srw (o14.2) 4 (o_7.2)) 5 (o_8.2)) 6 (o_9.2)) 7 (o_10.2)) 8 (o_11.2)) 9 (o_12.2)) 8))), ((p1a 9), .inl ((p1k 9), 60, .inl ((srw (srw (srw (srw (srw (srw (o14.2) 4 (o_7.2)) 5 (o_8.2)) 6 (o_9.2)) 7 (o_10.2)) 8 (o_11.2)) 9 (o_12.2)) 9))), ((p1a 11), .inl ((p1k 11), 60, .inl ((srw (srw (srw (srw (srw (srw (o14.2) 4 (o_7.2)) 5 (o_8.2)) 6 (o_9.2)) 7 (o_10.2)) 8 (o_11.2)) 9 (o_12.2)) 11))), ((p1a 12), .inl ((p1k 12), 60, .inl ((srw (srw (srw (srw (srw (srw (o14.2) 4 (o_7.2)) 5 (o_8.2)) 6 (o_9.2)) 7 (o_10.2)) 8 (o_11.2)) 9 (o_12.2)) 12))), ((p1a 13), .inl ((p1k 13), 60, .inl ((srw (srw (srw (srw (srw (srw (o14.2) 4 (o_7.2)) 5 (o_8.2)) 6 (o_9.2)) 7 (o_10.2)) 8 (o_11.2)) 9 (o_12.2)) 13))), ((p1a 14), .inl ((p1k 14), 61, .inl ((srw (srw (srw (srw (srw (srw (o14.2) 4 (o_7.2)) 5 (o_8.2)) 6 (o_9.2)) 7 (o_10.2)) 8 (o_11.2)) 9 (o_12.2)) 14))), ((p1a 15), .inl ((p1k 15), 120, .inl ((srw (srw (srw (srw (srw (srw (o14.2) 4 (o_7.2)) 5 (o_8.2)) 6 (o_9.2)) 7 (o_10.2)) 8 (o_11.2)) 9 (o_12.2)) 15))), ((p1a 16), .inl ((p1k 16), 60, .inr (.inl (p1l 16)))), ((p1a 17), .inl ((p1k 17), 60, .inr (.inl (p1l 17)))), ((p1a 19), .inl ((p1k 19), (p1n 19), .inl ((srw (srw (srw (srw (srw (srw (o14.2) 4 (o_7.2)) 5 (o_8.2)) 6 (o_9.2)) 7 (o_10.2)) 8 (o_11.2)) 9 (o_12.2)) 19))), ((p1a 20), .inl ((p1k 20), (p1n 20), .inl ((srw (srw (srw (srw (srw (srw (o14.2) 4 (o_7.2)) 5 (o_8.2)) 6 (o_9.2)) 7 (o_10.2)) 8 (o_11.2)) 9 (o_12.2)) 20))), ((p1a 21), .inl ((p1k 21), (p1n 21), .inl ((srw (srw (srw (srw (srw (srw (o14.2) 4 (o_7.2)) 5 (o_8.2)) 6 (o_9.2)) 7 (o_10.2)) 8 (o_11.2)) 9 (o_12.2)) 21)))]) hP hD hK [0, 1, 2, 3, 4, 5, 13] [6, 7, 8, 9, 10, 11, 12, 14, 15, 16, 17, 18, 19, 20, 21, 22, 23] [5, 6, 7, 8, 9, 10, 12, 13, 14, 15, 16, 17, 18, 19, 20, 21] rfl rfl (by decide) (by decide) rfl hk1 hFc ht hvm hB
  have hP : va_P (dC, dI) cls ((oX8 (p0a 0) p0a p0k (o_13.1)) ++ (oX1 (p1a 0) p1a p1k p1n (srw (srw (srw (srw (srw (srw (srw (o14.2) 4 (o_7.2)) 5 (o_8.2)) 6 (o_9.2)) 7 (o_10.2)) 8 (o_11.2)) 9 (o_12.2)) 10 (o_13.2)) p1l)) H := hP.sub [17, 18, 19, 20, 21, 22, 0, 1, 2, 3, 4, 5, 6, 23, 7, 8, 9, 10, 11, 12, 13, 14, 15, 16] rfl
  have hD : va_D A ((oX8 (p0a 0) p0a p0k (o_13.1)) ++ (oX1 (p1a 0) p1a p1k p1n (srw (srw (srw (srw (srw (srw (srw (o14.2) 4 (o_7.2)) 5 (o_8.2)) 6 (o_9.2)) 7 (o_10.2)) 8 (o_11.2)) 9 (o_12.2)) 10 (o_13.2)) p1l)) := hD.sub [17, 18, 19, 20, 21, 22, 0, 1, 2, 3, 4, 5, 6, 23, 7, 8, 9, 10, 11, 12, 13, 14, 15, 16] (by decide) rfl
  have hK : va_K (dC, dI) cls ((tX8 p0k) ++ (tX1 p1k)) s := hK.sub [16, 17, 18, 19, 20, 0, 1, 2, 3, 4, 5, 21, 6, 7, 8, 9, 10, 11, 12, 13, 14, 15] rfl
  refine lv_aload_n hx hb dX8_renumber_113 rfl (lv_at hl 0 rfl) ?_
  refine lv_aload_n hx hb dX8_renumber_114 rfl (lv_at hl 1 rfl) ?_
  refine va_get (D := (dC, dI)) (ci := 4) (v := .ref (p1a 11)) (C := RX1) (T := TX1) (N := 21) hx hb hts i_X1 hown hK hP 6 rfl rfl 10 (by decide) (hts _ qw198) (fun _ h9 => h9) rfl dX8_renumber_115 ?_
  refine lv_iload_n hx hb dX8_renumber_118 rfl (lv_at hl 2 rfl) ?_
  refine lv_iload_n hx hb dX8_renumber_119 rfl (lv_at hl 3 rfl) ?_
  obtain ⟨o_14, hc_14, hrun⟩ := bnd9 hrun
  have hPc := hP.sub (ws' := ((oX8 (p0a 0) p0a p0k (o_13.1)) ++ [((p1a 11), .inl ((p1k 11), 60, .inl ((srw (srw (srw (srw (srw (srw (srw (o14.2) 4 (o_7.2)) 5 (o_8.2)) 6 (o_9.2)) 7 (o_10.2)) 8 (o_11.2)) 9 (o_12.2)) 10 (o_13.2)) 11)))])) [0, 1, 2, 3, 4, 5, 14] rfl
  have hDc := hD.sub (ws' := ((oX8 (p0a 0) p0a p0k (o_13.1)) ++ [((p1a 11), .inl ((p1k 11), 60, .inl ((srw (srw (srw (srw (srw (srw (srw (o14.2) 4 (o_7.2)) 5 (o_8.2)) 6 (o_9.2)) 7 (o_10.2)) 8 (o_11.2)) 9 (o_12.2)) 10 (o_13.2)) 11)))])) [0, 1, 2, 3, 4, 5, 14] (by decide) rfl
  have hKc := hK.sub (tys' := ((tX8 p0k) ++ [((p1k 11), .int)])) [0, 1, 2, 3, 4, 12] rfl
  have hFc := va_free (wc := ((oX8 (p0a 0) p0a p0k (o_13.1)) ++ [((p1a 11), .inl ((p1k 11), 60, .inl ((srw (srw (srw (srw (srw (srw (srw (o14.2) 4 (o_7.2)) 5 (o_8.2)) 6 (o_9.2)) 7 (o_10.2)) 8 (o_11.2)) 9 (o_12.2)) 10 (o_13.2)) 11)))])) hD hS hA [0, 1, 2, 3, 4, 5, 14] rfl
  refine va_callv (va_runV (As := [.ref (p1a 11), .int (p1w 0 0), .int (o_1.1)]) (rest := []) ⟨hx, hb, hml, hown, hts⟩ (kX8_move l dC dI (p0a := (st0 (p0a 0) p0a)) (p0k := p0k) (p0w := (o_13.1)) (p1a := (p1a 11)) (p1k := (p1k 11)) (p1n := 60) (p1f := ((srw (srw (srw (srw (srw (srw (srw (o14.2) 4 (o_7.2)) 5 (o_8.2)) 6 (o_9.2)) 7 (o_10.2)) 8 (o_11.2)) 9 (o_12.2)) 10 (o_13.2)) 11)) (p2 := (p1w 0 0)) (p3 := (o_1.1)) (sz := _) (o := o_14) (hrun := hc_14)) (cwV 3 hts (gi_V qw215 qw216 qw217 qw164 (gi_z qw214)) rfl rfl rfl (by decide +kernel) ⟨Nat.le_of_ble_eq_true rfl, Nat.le_of_ble_eq_true rfl⟩) ⟨PRE.blind, va_recv hKc hPc (ci := 5) (q0 := 0) rfl rfl, PRE.of hE hS hFc hPc hKc hDc⟩ rfl rfl hl.1 rfl (lv_room (Nat.le_of_ble_eq_true rfl)) dX8_renumber_120 ⟨Nat.le_of_ble_eq_true rfl, Nat.le_of_ble_eq_true rfl⟩) hS (fun q _ h => hFc q h) hFc (fun u t H locs ht hvm hw hB hz1 hk1 hS => ?_)
  obtain ⟨hP, hD, hK⟩ := JOIN (wr := [((p1a 0), .inr (4, [.int ((srw (srw (srw (srw (srw (srw (srw (o14.2) 4 (o_7.2)) 5 (o_8.2)) 6 (o_9.2)) 7 (o_10.2)) 8 (o_11.2)) 9 (o_12.2)) 10 (o_13.2)) 0 0), .int ((srw (srw (srw (srw (srw (srw (srw (o14.2) 4 (o_7.2)) 5 (o_8.2)) 6 (o_9.2)) 7 (o_10.2)) 8 (o_11.2)) 9 (o_12.2)) 10 (o_13.2)) 0 1), .ref (p1a 3), .ref (p1a 4), .ref (p1a 5), .ref (p1a 6), .ref (p1a 7), .ref (p1a 8), .ref (p1a 9), .ref (p1a 10), .ref (p1a 11), .ref (p1a 12), .ref (p1a 13), .ref (p1a 14), .ref (p1a 15), .ref (p1a 16), .ref (p1a 17), .int ((srw (srw (srw (srw (srw (srw (srw (o14.2) 4 (o_7.2)) 5 (o_8.2)) 6 (o_9.2)) 7 (o_10.2)) 8 (o_11.2)) 9 (o_12.2)) 10 (o_13.2)) 0 17), .ref (p1a 19), .ref (p1a 20), .ref (p1a 21)])), ((p1a 4), .inl ((p1k 4), 60, .inl ((srw (srw (srw (srw (srw (srw (srw (o14.2) 4 (o_7.2)) 5 (o_8.2)) 6 (o_9.2)) 7 (o_10.2)) 8 (o_11.2)) 9 (o_12.2)) 10 (o_13.2)) 4))), ((p1a 5), .inl ((p1k 5), 60, .inl ((srw (srw (srw (srw (srw (srw (srw (o14.2) 4 (o_7.2)) 5 (o_8.2)) 6 (o_9.2)) 7 (o_10.2)) 8 (o_11.2)) 9 (o_12.2)) 10 (o_13.2)) 5))), ((p1a 6), .inl ((p1k 6), 60, .inl ((srw (srw (srw (srw (srw (srw (srw (o14.2) 4 (o_7.2)) 5 (o_8.2)) 6 (o_9.2)) 7 (o_10.2)) 8 (o_11.2)) 9 (o_12.2)) 10 (o_13.2)) 6))), ((p1a 7), .inl ((p1k 7), 60, .inl ((srw (srw (srw (srw (srw (srw (srw (o14.2) 4 (o_7.2)) 5 (o_8.2)) 6 (o_9.2)) 7 (o_10.2)) 8 (o_11.2)) 9 (o_12.2)) 10 (o_13.2)) 7))), ((p1a 8), .inl ((p1k 8), 60, .inl ((srw (srw (srw (srw (srw (srw (srw (o14.2) 4 (o_7.2)) 5 (o_8.2)) 6 (o_9.2)) 7 (o_10.2)) 8 (o_11.2)) 9 (o_12.2)) 10 (o_13.2)) 8))), ((p1a 9), .inl ((p1k 9), 60, .inl ((srw (srw (srw (srw (srw (srw (srw (o14.2) 4 (o_7.2)) 5 (o_8.2)) 6 (o_9.2)) 7 (o_10.2)) 8 (o_11.2)) 9 (o_12.2)) 10 (o_13.2)) 9))), ((p1a 10), .inl ((p1k 10), 60, .inl ((srw (srw (srw (srw (srw (srw (srw (o14.2) 4 (o_7.2)) 5 (o_8.2)) 6 (o_9.2)) 7 (o_10.2)) 8 (o_11.2)) 9 (o_12.2)) 10 (o_13.2)) 10))), ((p1a 12), .inl ((p1k 12), 60, .inl ((srw (srw (srw (srw (srw (srw (srw (o14.2) 4 (o_7.2)) 5 (o_8.2)) 6 (o_9.2)) 7 (o_10.2)) 8 (o_11.2)) 9 (o_12.2)) 10 (o_13.2)) 12))), ((p1a 13), .inl ((p1k 13), 60, .inl ((srw (srw (srw (srw (srw (srw (srw (o14.2) 4 (o_7.2)) 5 (o_8.2)) 6 (o_9.2)) 7 (o_10.2)) 8 (o_11.2)) 9 (o_12.2)) 10 (o_13.2)) 13))), ((p1a 14), .inl ((p1k 14), 61, .inl ((srw (srw (srw (srw (srw (srw (srw (o14.2) 4 (o_7.2)) 5 (o_8.2)) 6 (o_9.2)) 7 (o_10.2)) 8 (o_11.2)) 9 (o_12.2)) 10 (o_13.2)) 14))), ((p1a 15), .inl ((p1k 15), 120, .inl ((srw (srw (srw (srw (srw (srw (srw (o14.2) 4 (o_7.2)) 5 (o_8.2)) 6 (o_9.2)) 7 (o_10.2)) 8 (o_11.2)) 9 (o_12.2)) 10 (o_13.2)) 15))), ((p1a 16), .inl ((p1k 16), 60, .inr (.inl (p1l 16)))), ((p1a 17), .inl ((p1k 17), 60, .inr (.inl (p1l 17)))), ((p1a 19), .inl ((p1k 19), (p1n 19), .inl ((srw (srw (srw (srw (srw (srw (srw (o14.2) 4 (o_7.2)) 5 (o_8.2)) 6 (o_9.2)) 7 (o_10.2)) 8 (o_11.2)) 9 (o_12.2)) 10 (o_13.2)) 19))), ((p1a 20), .inl ((p1k 20), (p1n 20), .inl ((srw (srw (srw (srw (srw (srw (srw (o14.2) 4 (o_7.2)) 5 (o_8.2)) 6 (o_9.2)) 7 (o_10.2)) 8 (o_11.2)) 9 (o_12.2)) 10 (o_13.2)) 20))), ((p1a 21), .inl ((p1k 21), (p1n 21), .inl ((srw (srw (srw (srw (srw (srw (srw (o14.2) 4 (o_7.2)) 5 (o_8.2)) 6 (o_9.2)) 7 (o_10.2)) 8 (o_11.2)) 9 (o_12.2)) 10 (o_13.2)) 21)))]) hP hD hK [0, 1, 2, 3, 4, 5, 14] [6, 7, 8, 9, 10, 11, 12, 13, 15, 16, 17, 18, 19, 20, 21, 22, 23] [5, 6, 7, 8, 9, 10, 11, 13, 14, 15, 16, 17, 18, 19, 20, 21] rfl rfl (by decide) (by decide) rfl hk1 hFc ht hvm hB
  have hP : va_P (dC, dI) cls ((oX8 (p0a 0) p0a p0k (o_14.1)) ++ (oX1 (p1a 0) p1a p1k p1n (srw (srw (srw (srw (srw (srw (srw (srw (o14.2) 4 (o_7.2)) 5 (o_8.2)) 6 (o_9.2)) 7 (o_10.2)) 8 (o_11.2)) 9 (o_12.2)) 10 (o_13.2)) 11 (o_14.2)) p1l)) H := hP.sub [17, 18, 19, 20, 21, 22, 0, 1, 2, 3, 4, 5, 6, 7, 23, 8, 9, 10, 11, 12, 13, 14, 15, 16] rfl
  have hD : va_D A ((oX8 (p0a 0) p0a p0k (o_14.1)) ++ (oX1 (p1a 0) p1a p1k p1n (srw (srw (srw (srw (srw (srw (srw (srw (o14.2) 4 (o_7.2)) 5 (o_8.2)) 6 (o_9.2)) 7 (o_10.2)) 8 (o_11.2)) 9 (o_12.2)) 10 (o_13.2)) 11 (o_14.2)) p1l)) := hD.sub [17, 18, 19, 20, 21, 22, 0, 1, 2, 3, 4, 5, 6, 7, 23, 8, 9, 10, 11, 12, 13, 14, 15, 16] (by decide) rfl
  have hK : va_K (dC, dI) cls ((tX8 p0k) ++ (tX1 p1k)) s := hK.sub [16, 17, 18, 19, 20, 0, 1, 2, 3, 4, 5, 6, 21, 7, 8, 9, 10, 11, 12, 13, 14, 15] rfl
  refine lv_aload_n hx hb dX8_renumber_123 rfl (lv_at hl 1 rfl) ?_
  refine lv_iload_n hx hb dX8_renumber_124 rfl (lv_at hl 3 rfl) ?_
  refine va_put (D := (dC, dI)) (ci := 4) (v := .int (o_1.1)) (ty := .int) (C := RX1) (T := TX1) (N := 21) hx hb hts i_X1 tyX1 tyX1_ok nmX1 hown hK hP hD hS 6 rfl rfl 0 (by decide) (hts _ qw147) (fun _ h9 => h9) rfl (by decide +kernel) rfl rfl (Nat.le_of_ble_eq_true rfl) dX8_renumber_125 (fun H locs hP hD hS => ?_)
  have hP : va_P (dC, dI) cls ((oX8 (p0a 0) p0a p0k (o_14.1)) ++ (oX1 (p1a 0) p1a p1k p1n (upw (srw (srw (srw (srw (srw (srw (srw (srw (o14.2) 4 (o_7.2)) 5 (o_8.2)) 6 (o_9.2)) 7 (o_10.2)) 8 (o_11.2)) 9 (o_12.2)) 10 (o_13.2)) 11 (o_14.2)) 0 0 (o_1.1)) p1l)) H := hP
  have hD : va_D A ((oX8 (p0a 0) p0a p0k (o_14.1)) ++ (oX1 (p1a 0) p1a p1k p1n (upw (srw (srw (srw (srw (srw (srw (srw (srw (o14.2) 4 (o_7.2)) 5 (o_8.2)) 6 (o_9.2)) 7 (o_10.2)) 8 (o_11.2)) 9 (o_12.2)) 10 (o_13.2)) 11 (o_14.2)) 0 0 (o_1.1)) p1l)) := hD
  obtain ⟨w15, ew15, hrun⟩ := let9 hrun
  rw [← ew15] at hP hD
  refine lv_aload_n hx hb dX8_renumber_128 rfl (lv_at hl 0 rfl) ?_
  refine lv_aload_n hx hb dX8_renumber_129 rfl (lv_at hl 1 rfl) ?_
  obtain ⟨o_16, hc_16, hrun⟩ := bnd9 hrun
  have hPc := hP.sub (ws' := ((oX8 (p0a 0) p0a p0k (o_14.1)) ++ (oX1 (p1a 0) p1a p1k p1n w15 p1l))) [0, 1, 2, 3, 4, 5, 6, 7, 8, 9, 10, 11, 12, 13, 14, 15, 16, 17, 18, 19, 20, 21, 22, 23] rfl
  have hDc := hD.sub (ws' := ((oX8 (p0a 0) p0a p0k (o_14.1)) ++ (oX1 (p1a 0) p1a p1k p1n w15 p1l))) [0, 1, 2, 3, 4, 5, 6, 7, 8, 9, 10, 11, 12, 13, 14, 15, 16, 17, 18, 19, 20, 21, 22, 23] (by decide) rfl
  have hKc := hK.sub (tys' := ((tX8 p0k) ++ (tX1 p1k))) [0, 1, 2, 3, 4, 5, 6, 7, 8, 9, 10, 11, 12, 13, 14, 15, 16, 17, 18, 19, 20, 21] rfl
  have hFc := va_free (wc := ((oX8 (p0a 0) p0a p0k (o_14.1)) ++ (oX1 (p1a 0) p1a p1k p1n w15 p1l))) hD hS hA [0, 1, 2, 3, 4, 5, 6, 7, 8, 9, 10, 11, 12, 13, 14, 15, 16, 17, 18, 19, 20, 21, 22, 23] rfl
  refine va_callv (va_runV (As := [.ref (p1a 0)]) (rest := []) ⟨hx, hb, hml, hown, hts⟩ (kX8_measure l dC dI (p0a := (st0 (p0a 0) p0a)) (p0k := p0k) (p0w := (o_14.1)) (p1a := (st0 (p1a 0) p1a)) (p1k := p1k) (p1n := p1n) (p1w := w15) (p1l := p1l) (sz := _) (o := o_16) (hrun := hc_16)) (cwV 1 hts (gi_V qw223 qw224 qw225 qw164 (gi_z qw222)) rfl rfl rfl (by decide +kernel) ⟨Nat.le_of_ble_eq_true rfl, Nat.le_of_ble_eq_true rfl⟩) ⟨PRE.blind, va_recv hKc hPc (ci := 5) (q0 := 0) rfl rfl, PRE.of hE hS hFc hPc hKc hDc⟩ rfl rfl hl.1 rfl (lv_room (Nat.le_of_ble_eq_true rfl)) dX8_renumber_130 ⟨Nat.le_of_ble_eq_true rfl, Nat.le_of_ble_eq_true rfl⟩) hS (fun q _ h => hFc q h) hFc (fun u t H locs ht hvm hw hB hz1 hk1 hS => ?_)
  obtain ⟨hP, hD, hK⟩ := JOIN (wr := ([] : va_W)) hP hD hK [0, 1, 2, 3, 4, 5, 6, 7, 8, 9, 10, 11, 12, 13, 14, 15, 16, 17, 18, 19, 20, 21, 22, 23] [] [] rfl rfl (by decide) (by decide) rfl hk1 hFc ht hvm hB
  have hP : va_P (dC, dI) cls ((oX8 (p0a 0) p0a p0k (o_14.1)) ++ (oX1 (p1a 0) p1a p1k p1n (o_16.1) (o_16.2))) H := hP.sub [0, 1, 2, 3, 4, 5, 6, 7, 8, 9, 10, 11, 12, 13, 14, 15, 16, 17, 18, 19, 20, 21, 22, 23] rfl
  have hD : va_D A ((oX8 (p0a 0) p0a p0k (o_14.1)) ++ (oX1 (p1a 0) p1a p1k p1n (o_16.1) (o_16.2))) := hD.sub [0, 1, 2, 3, 4, 5, 6, 7, 8, 9, 10, 11, 12, 13, 14, 15, 16, 17, 18, 19, 20, 21, 22, 23] (by decide) rfl
  have hK : va_K (dC, dI) cls ((tX8 p0k) ++ (tX1 p1k)) s := hK.sub [0, 1, 2, 3, 4, 5, 6, 7, 8, 9, 10, 11, 12, 13, 14, 15, 16, 17, 18, 19, 20, 21] rfl
  have ho9 : ((o_14.1), (o_16.1), (o_16.2)) = o := Option.some.inj hrun
  have hP9 : va_P (dC, dI) cls ((oX8 (p0a 0) p0a p0k (o.1)) ++ (oX1 (p1a 0) p1a p1k p1n (o.2.1) (o.2.2))) H := by first | exact hP | (rw [← ho9]; exact hP)
  have hD9 : va_D A ((oX8 (p0a 0) p0a p0k (o.1)) ++ (oX1 (p1a 0) p1a p1k p1n (o.2.1) (o.2.2))) := by first | exact hD | (rw [← ho9]; exact hD)
  subst hQ
  exact W.vret hx hb hr (fun t ht hW => ⟨⟨(), rfl, trivial, ⟨by rw [ht]; exact hP9, va_K.moved hW.alike hK, hD9⟩⟩, hS.F ht⟩) hS.2.2 dX8_renumber_133
def fX4_addPiece_J61 (p0w_61 : ST) : Option ST := some p0w_61
def fX4_addPiece (p0w : ST) (p1 : Int32) (p2 : Int32) (p3 : Int32) (p4 : Int32) : Option ST := (if 640 ≤ (p0w 0 5) then (fX4_addPiece_J61 p0w) else (if ixb (p0w 0 5) 640 = true then (lt9 (upw p0w 7 (nn (p0w 0 5)) p1) fun (w3 : ST) => (if ixb (w3 0 5) 640 = true then (lt9 (upw w3 8 (nn (w3 0 5)) p2) fun (w5 : ST) => (if ixb (w5 0 5) 640 = true then (lt9 (upw w5 9 (nn (w5 0 5)) p3) fun (w7 : ST) => (if ixb (w7 0 5) 640 = true then (lt9 (upw w7 10 (nn (w7 0 5)) p4) fun (w9 : ST) => (lt9 (upw w9 0 5 ((w9 0 5) + 1)) fun (w10 : ST) => (fX4_addPiece_J61 w10))) else none)) else none)) else none)) else none))
set_option maxHeartbeats 16000000 in
set_option maxRecDepth 100000 in
theorem kX4_addPiece {zs : Nat × Nat} (l : Launch) (dC : Nat → ClassId) (dI : Nat → Nat → Nat) (p0a : Nat → Nat) (p0k : Nat → ClassId) (p0w : ST) (p0l : SL) (p1 : Int32) (p2 : Int32) (p3 : Int32) (p4 : Int32) (sz : Nat) (o : ST) (hrun : fX4_addPiece p0w p1 p2 p3 p4 = some o) : Met l yX4_addPiece (wz yX4_addPiece cX4_addPiece 5 (Option.none : Option Jvm.ClassFile.FieldType)) ({ frames := 0, cells := 0, slots := 0, locals := 0 } : Room) (va_Pc [.ref (p0a 0), .int p1, .int p2, .int p3, .int p4] (PRE zs dC dI (oX4 (p0a 0) p0a p0k p0w p0l) (tX4 p0k) sz)) (va_Qv (fun (_ : Unit) => True) (fun _ t => POST dC dI (oX4 (p0a 0) p0a p0k o p0l) (tX4 p0k) (va_A (oX4 (p0a 0) p0a p0k p0w p0l) sz) t) (va_A (oX4 (p0a 0) p0a p0k p0w p0l) sz)) 0 0 (va_A (oX4 (p0a 0) p0a p0k p0w p0l) sz) := by
  refine Met.ofW (cc := cX4_addPiece) (maxL := 5) (ret := (Option.none : Option Jvm.ClassFile.FieldType)) (by decide) rfl ?_
  intro p e s m args below meth c s₁ B hml hv
  obtain ⟨rfl, hsz, hP, hK, hD0, hE⟩ := hv
  have hx := B.exec
  have hb := B.bytes
  have hr := B.returns
  have hts0 := atoms_spec (ws := wz yX4_addPiece cX4_addPiece 5 (Option.none : Option Jvm.ClassFile.FieldType)) B.pre
  have hts : ∀ w ∈ gw, w.before _ s = true := fun w h => hts0 w (List.mem_cons_of_mem _ h)
  have hown : s.vm.findClass RX4 = some m.cls := findClass_of_methodNamed B.named
  have hlocks := B.notSynchronized
  subst hsz
  have hD := hD0.self (sz := s.heap.size)
  refine gQ9 ?_
  intro Q hQ
  generalize hAe : va_A (oX4 (p0a 0) p0a p0k p0w p0l) s.heap.size = A at hD hE hQ
  have hA : ∀ q : Nat, s.heap.size ≤ q → A q := fun q h => by rw [← hAe]; exact Or.inr h
  have hS : va_S A s.heap s.heap [] := va_S.rf
  have hP : va_P (dC, dI) cls (oX4 (p0a 0) p0a p0k p0w p0l) s.heap := hP
  have hl := lv_entry ([.ref (p0a 0), .int p1, .int p2, .int p3, .int p4]) (n := 5) (Nat.le_of_ble_eq_true rfl)
  rw [lg_entry_eq]
  generalize (lg_sl ([.ref (p0a 0), .int p1, .int p2, .int p3, .int p4]) ++ List.replicate (5 - (lg_sl ([.ref (p0a 0), .int p1, .int p2, .int p3, .int p4])).length) Slot.unset).toArray = ls at hl ⊢
  have hl : lv_has ls 5 [(0, .ref (p0a 0)), (1, .int p1), (2, .int p2), (3, .int p3), (4, .int p4)] := hl
  obtain ⟨H, hHe⟩ : ∃ H, H = s.heap := ⟨_, rfl⟩
  obtain ⟨locs, hle⟩ : ∃ locs : List Loc, locs = [] := ⟨_, rfl⟩
  rw [← hHe] at hP
  have hS : va_S A s.heap H locs := by rw [hHe, hle]; exact hS
  show W p l e ({ frames := 0, cells := 0, slots := 0, locals := 0 } : Room) s m ([.ref (p0a 0), .int p1, .int p2, .int p3, .int p4] : List Value).toArray below meth c s.heap [] 0 0 Q (F0 m 0 ls [])
  rw [← hle]
  refine wH9 hHe ?_
  unfold fX4_addPiece at hrun
  refine lv_aload_n hx hb dX4_addPiece_0 rfl (lv_at hl 0 rfl) ?_
  refine va_get (D := (dC, dI)) (ci := 6) (v := .int (p0w 0 5)) (C := RX4) (T := TX4) (N := 20) hx hb hts i_X4 hown hK hP 0 rfl rfl 5 (by decide) (hts _ qw226) (fun _ h9 => h9) rfl dX4_addPiece_1 ?_
  refine lv_sipush (v := 640) hx hb dX4_addPiece_4 (by decide) ?_
  have J61 : ∀ (p0w_61 : ST) (H : Heap) (locs : List Loc) (ls : Array Slot), (fX4_addPiece_J61 p0w_61) = some o → va_P (dC, dI) cls (oX4 (p0a 0) p0a p0k p0w_61 p0l) H → va_D A (oX4 (p0a 0) p0a p0k p0w_61 p0l) → va_S A s.heap H locs → lv_has ls 5 [] → W p l e ({ frames := 0, cells := 0, slots := 0, locals := 0 } : Room) s m ([.ref (p0a 0), .int p1, .int p2, .int p3, .int p4] : List Value).toArray below meth c H locs 0 0 Q (F0 m 61 ls []) := by
    intro p0w_61 H locs ls hrun hP hD hS hl
    unfold fX4_addPiece_J61 at hrun
    have ho9 : p0w_61 = o := Option.some.inj hrun
    have hP9 : va_P (dC, dI) cls (oX4 (p0a 0) p0a p0k o p0l) H := by first | exact hP | (rw [← ho9]; exact hP)
    have hD9 : va_D A (oX4 (p0a 0) p0a p0k o p0l) := by first | exact hD | (rw [← ho9]; exact hD)
    subst hQ
    exact W.vret hx hb hr (fun t ht hW => ⟨⟨(), rfl, trivial, ⟨by rw [ht]; exact hP9, va_K.moved hW.alike hK, hD9⟩⟩, hS.F ht⟩) hS.2.2 dX4_addPiece_61
  rcases br9 hrun with ⟨hc1, hrun⟩ | ⟨hc1, hrun⟩
  · refine lv_icmp_ge (tgt := 61) hx hb dX4_addPiece_7 (by decide) (fun _ => ?_) (fun c => absurd hc1 c)
    exact J61 p0w _ _ _ hrun hP hD hS (lv_sub hl [] rfl)
  · refine lv_icmp_ge (tgt := 61) hx hb dX4_addPiece_7 (by decide) (fun c => absurd c hc1) (fun _ => ?_)
    refine lv_aload_n hx hb dX4_addPiece_10 rfl (lv_at hl 0 rfl) ?_
    refine va_get (D := (dC, dI)) (ci := 6) (v := .ref (p0a 7)) (C := RX4) (T := TX4) (N := 20) hx hb hts i_X4 hown hK hP 0 rfl rfl 6 (by decide) (hts _ qw227) (fun _ h9 => h9) rfl dX4_addPiece_11 ?_
    refine lv_aload_n hx hb dX4_addPiece_14 rfl (lv_at hl 0 rfl) ?_
    refine va_get (D := (dC, dI)) (ci := 6) (v := .int (p0w 0 5)) (C := RX4) (T := TX4) (N := 20) hx hb hts i_X4 hown hK hP 0 rfl rfl 5 (by decide) (hts _ qw226) (fun _ h9 => h9) rfl dX4_addPiece_15 ?_
    refine lv_iload_n hx hb dX4_addPiece_18 rfl (lv_at hl 1 rfl) ?_
    obtain ⟨hq2, hrun⟩ := chk9 hrun
    refine va_iast hx hb hK hP hD hS 5 4 rfl rfl (ixb_in hq2) dX4_addPiece_19 (fun H locs hP hD hS => ?_)
    have hP : va_P (dC, dI) cls (oX4 (p0a 0) p0a p0k (upw p0w 7 (nn (p0w 0 5)) p1) p0l) H := hP
    have hD : va_D A (oX4 (p0a 0) p0a p0k (upw p0w 7 (nn (p0w 0 5)) p1) p0l) := hD
    obtain ⟨w3, ew3, hrun⟩ := let9 hrun
    rw [← ew3] at hP hD
    refine lv_aload_n hx hb dX4_addPiece_20 rfl (lv_at hl 0 rfl) ?_
    refine va_get (D := (dC, dI)) (ci := 6) (v := .ref (p0a 8)) (C := RX4) (T := TX4) (N := 20) hx hb hts i_X4 hown hK hP 0 rfl rfl 7 (by decide) (hts _ qw228) (fun _ h9 => h9) rfl dX4_addPiece_21 ?_
    refine lv_aload_n hx hb dX4_addPiece_24 rfl (lv_at hl 0 rfl) ?_
    refine va_get (D := (dC, dI)) (ci := 6) (v := .int (w3 0 5)) (C := RX4) (T := TX4) (N := 20) hx hb hts i_X4 hown hK hP 0 rfl rfl 5 (by decide) (hts _ qw226) (fun _ h9 => h9) rfl dX4_addPiece_25 ?_
    refine lv_iload_n hx hb dX4_addPiece_28 rfl (lv_at hl 2 rfl) ?_
    obtain ⟨hq4, hrun⟩ := chk9 hrun
    refine va_iast hx hb hK hP hD hS 6 5 rfl rfl (ixb_in hq4) dX4_addPiece_29 (fun H locs hP hD hS => ?_)
    have hP : va_P (dC, dI) cls (oX4 (p0a 0) p0a p0k (upw w3 8 (nn (w3 0 5)) p2) p0l) H := hP
    have hD : va_D A (oX4 (p0a 0) p0a p0k (upw w3 8 (nn (w3 0 5)) p2) p0l) := hD
    obtain ⟨w5, ew5, hrun⟩ := let9 hrun
    rw [← ew5] at hP hD
    refine lv_aload_n hx hb dX4_addPiece_30 rfl (lv_at hl 0 rfl) ?_
    refine va_get (D := (dC, dI)) (ci := 6) (v := .ref (p0a 9)) (C := RX4) (T := TX4) (N := 20) hx hb hts i_X4 hown hK hP 0 rfl rfl 8 (by decide) (hts _ qw229) (fun _ h9 => h9) rfl dX4_addPiece_31 ?_
    refine lv_aload_n hx hb dX4_addPiece_34 rfl (lv_at hl 0 rfl) ?_
    refine va_get (D := (dC, dI)) (ci := 6) (v := .int (w5 0 5)) (C := RX4) (T := TX4) (N := 20) hx hb hts i_X4 hown hK hP 0 rfl rfl 5 (by decide) (hts _ qw226) (fun _ h9 => h9) rfl dX4_addPiece_35 ?_
    refine lv_iload_n hx hb dX4_addPiece_38 rfl (lv_at hl 3 rfl) ?_
    obtain ⟨hq6, hrun⟩ := chk9 hrun
    refine va_iast hx hb hK hP hD hS 7 6 rfl rfl (ixb_in hq6) dX4_addPiece_39 (fun H locs hP hD hS => ?_)
    have hP : va_P (dC, dI) cls (oX4 (p0a 0) p0a p0k (upw w5 9 (nn (w5 0 5)) p3) p0l) H := hP
    have hD : va_D A (oX4 (p0a 0) p0a p0k (upw w5 9 (nn (w5 0 5)) p3) p0l) := hD
    obtain ⟨w7, ew7, hrun⟩ := let9 hrun
    rw [← ew7] at hP hD
    refine lv_aload_n hx hb dX4_addPiece_40 rfl (lv_at hl 0 rfl) ?_
    refine va_get (D := (dC, dI)) (ci := 6) (v := .ref (p0a 10)) (C := RX4) (T := TX4) (N := 20) hx hb hts i_X4 hown hK hP 0 rfl rfl 9 (by decide) (hts _ qw230) (fun _ h9 => h9) rfl dX4_addPiece_41 ?_
    refine lv_aload_n hx hb dX4_addPiece_44 rfl (lv_at hl 0 rfl) ?_
    refine va_get (D := (dC, dI)) (ci := 6) (v := .int (w7 0 5)) (C := RX4) (T := TX4) (N := 20) hx hb hts i_X4 hown hK hP 0 rfl rfl 5 (by decide) (hts _ qw226) (fun _ h9 => h9) rfl dX4_addPiece_45 ?_
    refine lv_iload hx hb dX4_addPiece_48 (lv_at hl 4 rfl) ?_
    obtain ⟨hq8, hrun⟩ := chk9 hrun
    refine va_iast hx hb hK hP hD hS 8 7 rfl rfl (ixb_in hq8) dX4_addPiece_50 (fun H locs hP hD hS => ?_)
    have hP : va_P (dC, dI) cls (oX4 (p0a 0) p0a p0k (upw w7 10 (nn (w7 0 5)) p4) p0l) H := hP
    have hD : va_D A (oX4 (p0a 0) p0a p0k (upw w7 10 (nn (w7 0 5)) p4) p0l) := hD
    obtain ⟨w9, ew9, hrun⟩ := let9 hrun
    rw [← ew9] at hP hD
    refine lv_aload_n hx hb dX4_addPiece_51 rfl (lv_at hl 0 rfl) ?_
    refine lv_dup hx hb dX4_addPiece_52 rfl ?_
    refine va_get (D := (dC, dI)) (ci := 6) (v := .int (w9 0 5)) (C := RX4) (T := TX4) (N := 20) hx hb hts i_X4 hown hK hP 0 rfl rfl 5 (by decide) (hts _ qw226) (fun _ h9 => h9) rfl dX4_addPiece_53 ?_
    refine lv_iconst (v := 1) hx hb dX4_addPiece_56 (by decide) ?_
    refine lv_iadd hx hb dX4_addPiece_57 ?_
    refine va_put (D := (dC, dI)) (ci := 6) (v := .int ((w9 0 5) + 1)) (ty := .int) (C := RX4) (T := TX4) (N := 20) hx hb hts i_X4 tyX4 tyX4_ok nmX4 hown hK hP hD hS 0 rfl rfl 5 (by decide) (hts _ qw226) (fun _ h9 => h9) rfl (by decide +kernel) rfl rfl (Nat.le_of_ble_eq_true rfl) dX4_addPiece_58 (fun H locs hP hD hS => ?_)
    have hP : va_P (dC, dI) cls (oX4 (p0a 0) p0a p0k (upw w9 0 5 ((w9 0 5) + 1)) p0l) H := hP
    have hD : va_D A (oX4 (p0a 0) p0a p0k (upw w9 0 5 ((w9 0 5) + 1)) p0l) := hD
    obtain ⟨w10, ew10, hrun⟩ := let9 hrun
    rw [← ew10] at hP hD
    exact J61 w10 _ _ _ hrun hP hD hS (lv_sub hl [] rfl)
def fX4_blockOfPiece_J22 (y0_22 : Int32) : Option Int32 := some y0_22
def fX4_blockOfPiece_J12  : Option Int32 := (fX4_blockOfPiece_J22 (-1))
def fX4_blockOfPiece (p0w : ST) (p1 : Int32) : Option Int32 := (if p1 < 0 then (fX4_blockOfPiece_J12) else (if p1 < (p0w 0 5) then (if ixb p1 640 = true then (fX4_blockOfPiece_J22 (p0w 12 (nn p1))) else none) else (fX4_blockOfPiece_J12)))
set_option maxHeartbeats 16000000 in
set_option maxRecDepth 100000 in
theorem kX4_blockOfPiece {zs : Nat × Nat} (l : Launch) (dC : Nat → ClassId) (dI : Nat → Nat → Nat) (p0a : Nat → Nat) (p0k : Nat → ClassId) (p0w : ST) (p0l : SL) (p1 : Int32) (sz : Nat) (o : Int32) (hrun : fX4_blockOfPiece p0w p1 = some o) : Met l yX4_blockOfPiece (wz yX4_blockOfPiece cX4_blockOfPiece 2 (Option.some Jvm.ClassFile.FieldType.int)) ({ frames := 0, cells := 0, slots := 0, locals := 0 } : Room) (va_Pc [.ref (p0a 0), .int p1] (PRE zs dC dI (oX4 (p0a 0) p0a p0k p0w p0l) (tX4 p0k) sz)) (va_Qi (fun (r : Int32) (_ : Unit) => r = o) (fun _ t => POST dC dI (oX4 (p0a 0) p0a p0k p0w p0l) (tX4 p0k) (va_A (oX4 (p0a 0) p0a p0k p0w p0l) sz) t) (va_A (oX4 (p0a 0) p0a p0k p0w p0l) sz)) 0 0 (va_A (oX4 (p0a 0) p0a p0k p0w p0l) sz) := by
  refine Met.ofW (cc := cX4_blockOfPiece) (maxL := 2) (ret := (Option.some Jvm.ClassFile.FieldType.int)) (by decide) rfl ?_
  intro p e s m args below meth c s₁ B hml hv
  obtain ⟨rfl, hsz, hP, hK, hD0, hE⟩ := hv
  have hx := B.exec
  have hb := B.bytes
  have hr := B.returns
  have hts0 := atoms_spec (ws := wz yX4_blockOfPiece cX4_blockOfPiece 2 (Option.some Jvm.ClassFile.FieldType.int)) B.pre
  have hts : ∀ w ∈ gw, w.before _ s = true := fun w h => hts0 w (List.mem_cons_of_mem _ h)
  have hown : s.vm.findClass RX4 = some m.cls := findClass_of_methodNamed B.named
  have hlocks := B.notSynchronized
  subst hsz
  have hD := hD0.self (sz := s.heap.size)
  refine gQ9 ?_
  intro Q hQ
  generalize hAe : va_A (oX4 (p0a 0) p0a p0k p0w p0l) s.heap.size = A at hD hE hQ
  have hA : ∀ q : Nat, s.heap.size ≤ q → A q := fun q h => by rw [← hAe]; exact Or.inr h
  have hS : va_S A s.heap s.heap [] := va_S.rf
  have hP : va_P (dC, dI) cls (oX4 (p0a 0) p0a p0k p0w p0l) s.heap := hP
  have hl := lv_entry ([.ref (p0a 0), .int p1]) (n := 2) (Nat.le_of_ble_eq_true rfl)
  rw [lg_entry_eq]
  generalize (lg_sl ([.ref (p0a 0), .int p1]) ++ List.replicate (2 - (lg_sl ([.ref (p0a 0), .int p1])).length) Slot.unset).toArray = ls at hl ⊢
  have hl : lv_has ls 2 [(0, .ref (p0a 0)), (1, .int p1)] := hl
  obtain ⟨H, hHe⟩ : ∃ H, H = s.heap := ⟨_, rfl⟩
  obtain ⟨locs, hle⟩ : ∃ locs : List Loc, locs = [] := ⟨_, rfl⟩
  rw [← hHe] at hP
  have hS : va_S A s.heap H locs := by rw [hHe, hle]; exact hS
  show W p l e ({ frames := 0, cells := 0, slots := 0, locals := 0 } : Room) s m ([.ref (p0a 0), .int p1] : List Value).toArray below meth c s.heap [] 0 0 Q (F0 m 0 ls [])
  rw [← hle]
  refine wH9 hHe ?_
  unfold fX4_blockOfPiece at hrun
  refine lv_iload_n hx hb dX4_blockOfPiece_0 rfl (lv_at hl 1 rfl) ?_
  have J22 : ∀ (y0_22 : Int32) (H : Heap) (locs : List Loc) (ls : Array Slot), (fX4_blockOfPiece_J22 y0_22) = some o → va_P (dC, dI) cls (oX4 (p0a 0) p0a p0k p0w p0l) H → va_D A (oX4 (p0a 0) p0a p0k p0w p0l) → va_S A s.heap H locs → lv_has ls 2 [] → W p l e ({ frames := 0, cells := 0, slots := 0, locals := 0 } : Room) s m ([.ref (p0a 0), .int p1] : List Value).toArray below meth c H locs 0 0 Q (F0 m 22 ls [.int y0_22]) := by
    intro y0_22 H locs ls hrun hP hD hS hl
    unfold fX4_blockOfPiece_J22 at hrun
    have ho9 : y0_22 = o := Option.some.inj hrun
    have hP9 : va_P (dC, dI) cls (oX4 (p0a 0) p0a p0k p0w p0l) H := by first | exact hP | (rw [← ho9]; exact hP)
    have hD9 : va_D A (oX4 (p0a 0) p0a p0k p0w p0l) := by first | exact hD | (rw [← ho9]; exact hD)
    subst hQ
    exact W.iret (v := y0_22) hx hb hr (fun t ht hW => ⟨⟨y0_22, (), rfl, (by rw [← ho9]), ⟨by rw [ht]; exact hP9, va_K.moved hW.alike hK, hD9⟩⟩, hS.F ht⟩) hS.2.2 dX4_blockOfPiece_22
  have J12 : ∀ (H : Heap) (locs : List Loc) (ls : Array Slot), (fX4_blockOfPiece_J12) = some o → va_P (dC, dI) cls (oX4 (p0a 0) p0a p0k p0w p0l) H → va_D A (oX4 (p0a 0) p0a p0k p0w p0l) → va_S A s.heap H locs → lv_has ls 2 [] → W p l e ({ frames := 0, cells := 0, slots := 0, locals := 0 } : Room) s m ([.ref (p0a 0), .int p1] : List Value).toArray below meth c H locs 0 0 Q (F0 m 12 ls []) := by
    intro  H locs ls hrun hP hD hS hl
    unfold fX4_blockOfPiece_J12 at hrun
    refine lv_iconst (v := (-1)) hx hb dX4_blockOfPiece_12 (by decide) ?_
    refine lv_goto (tgt := 22) hx hb dX4_blockOfPiece_13 (by decide) ?_
    exact J22 (-1) _ _ _ hrun hP hD hS (lv_sub hl [] rfl)
  rcases br9 hrun with ⟨hc1, hrun⟩ | ⟨hc1, hrun⟩
  · refine lv_if_lt (tgt := 12) hx hb dX4_blockOfPiece_1 (by decide) (fun _ => ?_) (fun c => absurd hc1 c)
    exact J12 _ _ _ hrun hP hD hS (lv_sub hl [] rfl)
  · refine lv_if_lt (tgt := 12) hx hb dX4_blockOfPiece_1 (by decide) (fun c => absurd c hc1) (fun _ => ?_)
    refine lv_iload_n hx hb dX4_blockOfPiece_4 rfl (lv_at hl 1 rfl) ?_
    refine lv_aload_n hx hb dX4_blockOfPiece_5 rfl (lv_at hl 0 rfl) ?_
    refine va_get (D := (dC, dI)) (ci := 6) (v := .int (p0w 0 5)) (C := RX4) (T := TX4) (N := 20) hx hb hts i_X4 hown hK hP 0 rfl rfl 5 (by decide) (hts _ qw226) (fun _ h9 => h9) rfl dX4_blockOfPiece_6 ?_
    rcases br9 hrun with ⟨hc2, hrun⟩ | ⟨hc2, hrun⟩
    · refine lv_icmp_lt (tgt := 16) hx hb dX4_blockOfPiece_9 (by decide) (fun _ => ?_) (fun c => absurd hc2 c)
      refine lv_aload_n hx hb dX4_blockOfPiece_16 rfl (lv_at hl 0 rfl) ?_
      refine va_get (D := (dC, dI)) (ci := 6) (v := .ref (p0a 12)) (C := RX4) (T := TX4) (N := 20) hx hb hts i_X4 hown hK hP 0 rfl rfl 11 (by decide) (hts _ qw231) (fun _ h9 => h9) rfl dX4_blockOfPiece_17 ?_
      refine lv_iload_n hx hb dX4_blockOfPiece_20 rfl (lv_at hl 1 rfl) ?_
      obtain ⟨hq3, hrun⟩ := chk9 hrun
      refine va_iald hx hb hK hP 10 9 rfl rfl (ixb_in hq3) dX4_blockOfPiece_21 ?_
      exact J22 (p0w 12 (nn p1)) _ _ _ hrun hP hD hS (lv_sub hl [] rfl)
    · refine lv_icmp_lt (tgt := 16) hx hb dX4_blockOfPiece_9 (by decide) (fun c => absurd c hc2) (fun _ => ?_)
      exact J12 _ _ _ hrun hP hD hS (lv_sub hl [] rfl)
def fX4_findLabels_J100 (kk10 : Int32 → Int32 → ST → Option ST) (v4_10 : Int32) (v3_80 : Int32) (p0w_100 : ST) : Option ST := (kk10 v3_80 (v4_10 + 1) p0w_100)
def fX4_findLabels_J80 (kk10 : Int32 → Int32 → ST → Option ST) (p1w : ST) (v4_10 : Int32) (p0w_10 : ST) (v3_80 : Int32) : Option ST := (if (p1w 9 (nn v4_10)) = 35 then (if ixb v4_10 3200 = true then (if ixb (p1w 10 (nn v4_10)) 640 = true then (lt9 (upw p0w_10 13 (nn (p1w 10 (nn v4_10))) v3_80) fun (w8 : ST) => (fX4_findLabels_J100 kk10 v4_10 v3_80 w8)) else none) else none) else (fX4_findLabels_J100 kk10 v4_10 v3_80 p0w_10))
def fX4_findLabels_J77 (kk10 : Int32 → Int32 → ST → Option ST) (p1w : ST) (v3_10 : Int32) (v4_10 : Int32) (p0w_10 : ST) : Option ST := (fX4_findLabels_J80 kk10 p1w v4_10 p0w_10 (v3_10 + 1))
def fX4_findLabels_J63 (kk10 : Int32 → Int32 → ST → Option ST) (p1w : ST) (v3_10 : Int32) (v4_10 : Int32) (p0w_10 : ST) (y0_63 : Int32) : Option ST := (if y0_63 = 0 then (if (p1w 9 (nn v4_10)) = 35 then (fX4_findLabels_J77 kk10 p1w v3_10 v4_10 p0w_10) else (fX4_findLabels_J80 kk10 p1w v4_10 p0w_10 v3_10)) else (fX4_findLabels_J77 kk10 p1w v3_10 v4_10 p0w_10))
def fX4_findLabels_J58 (kk10 : Int32 → Int32 → ST → Option ST) (p1w : ST) (v3_10 : Int32) (v4_10 : Int32) (p0w_10 : ST) : Option ST := (fX4_findLabels_J63 kk10 p1w v3_10 v4_10 p0w_10 1)
def fX4_findLabels_L10 (p1w : ST) (p2 : Int32) : Nat → Int32 → Int32 → ST → Option ST
  | 0 => fun _ _ _ => none
  | n_10 + 1 => fun v3_10 v4_10 p0w_10 => (if ixb p2 6 = true then (if (p1w 7 (nn p2)) ≤ v4_10 then some p0w_10 else (if ixb v4_10 3200 = true then (if (p1w 9 (nn v4_10)) = 22 then (fX4_findLabels_J58 (fX4_findLabels_L10 p1w p2 n_10) p1w v3_10 v4_10 p0w_10) else (if (p1w 9 (nn v4_10)) = 33 then (fX4_findLabels_J58 (fX4_findLabels_L10 p1w p2 n_10) p1w v3_10 v4_10 p0w_10) else (if (p1w 9 (nn v4_10)) = 34 then (fX4_findLabels_J58 (fX4_findLabels_L10 p1w p2 n_10) p1w v3_10 v4_10 p0w_10) else (if (p1w 9 (nn v4_10)) = 24 then (fX4_findLabels_J58 (fX4_findLabels_L10 p1w p2 n_10) p1w v3_10 v4_10 p0w_10) else (fX4_findLabels_J63 (fX4_findLabels_L10 p1w p2 n_10) p1w v3_10 v4_10 p0w_10 0))))) else none)) else none)
def fX4_findLabels (p0w : ST) (p1w : ST) (p2 : Int32) : Option ST := (if ixb p2 6 = true then ((fX4_findLabels_L10 p1w p2 NF 0 (p1w 6 (nn p2)) p0w).bind fun (o10 : ST) => some o10) else none)
set_option maxHeartbeats 16000000 in
set_option maxRecDepth 100000 in
theorem kX4_findLabels {zs : Nat × Nat} (l : Launch) (dC : Nat → ClassId) (dI : Nat → Nat → Nat) (p0a : Nat → Nat) (p0k : Nat → ClassId) (p0w : ST) (p0l : SL) (p1a : Nat → Nat) (p1k : Nat → ClassId) (p1w : ST) (p1l : SL) (p2 : Int32) (sz : Nat) (o : ST) (hrun : fX4_findLabels p0w p1w p2 = some o) : Met l yX4_findLabels (wz yX4_findLabels cX4_findLabels 7 (Option.none : Option Jvm.ClassFile.FieldType)) ({ frames := 0, cells := 0, slots := 0, locals := 0 } : Room) (va_Pc [.ref (p0a 0), .ref (p1a 0), .int p2] (PRE zs dC dI ((oX4 (p0a 0) p0a p0k p0w p0l) ++ (oX6 (p1a 0) p1a p1k p1w p1l)) ((tX4 p0k) ++ (tX6 p1k)) sz)) (va_Qv (fun (_ : Unit) => True) (fun _ t => POST dC dI ((oX4 (p0a 0) p0a p0k o p0l) ++ (oX6 (p1a 0) p1a p1k p1w p1l)) ((tX4 p0k) ++ (tX6 p1k)) (va_A ((oX4 (p0a 0) p0a p0k p0w p0l) ++ (oX6 (p1a 0) p1a p1k p1w p1l)) sz) t) (va_A ((oX4 (p0a 0) p0a p0k p0w p0l) ++ (oX6 (p1a 0) p1a p1k p1w p1l)) sz)) 0 0 (va_A ((oX4 (p0a 0) p0a p0k p0w p0l) ++ (oX6 (p1a 0) p1a p1k p1w p1l)) sz) := by
  refine Met.ofW (cc := cX4_findLabels) (maxL := 7) (ret := (Option.none : Option Jvm.ClassFile.FieldType)) (by decide) rfl ?_
  intro p e s m args below meth c s₁ B hml hv
  obtain ⟨rfl, hsz, hP, hK, hD0, hE⟩ := hv
  have hx := B.exec
  have hb := B.bytes
  have hr := B.returns
  have hts0 := atoms_spec (ws := wz yX4_findLabels cX4_findLabels 7 (Option.none : Option Jvm.ClassFile.FieldType)) B.pre
  have hts : ∀ w ∈ gw, w.before _ s = true := fun w h => hts0 w (List.mem_cons_of_mem _ h)
  have hown : s.vm.findClass RX4 = some m.cls := findClass_of_methodNamed B.named
  have hlocks := B.notSynchronized
  subst hsz
  have hD := hD0.self (sz := s.heap.size)
  refine gQ9 ?_
  intro Q hQ
  generalize hAe : va_A ((oX4 (p0a 0) p0a p0k p0w p0l) ++ (oX6 (p1a 0) p1a p1k p1w p1l)) s.heap.size = A at hD hE hQ
  have hA : ∀ q : Nat, s.heap.size ≤ q → A q := fun q h => by rw [← hAe]; exact Or.inr h
  have hS : va_S A s.heap s.heap [] := va_S.rf
  have hP : va_P (dC, dI) cls ((oX4 (p0a 0) p0a p0k p0w p0l) ++ (oX6 (p1a 0) p1a p1k p1w p1l)) s.heap := hP
  have hl := lv_entry ([.ref (p0a 0), .ref (p1a 0), .int p2]) (n := 7) (Nat.le_of_ble_eq_true rfl)
  rw [lg_entry_eq]
  generalize (lg_sl ([.ref (p0a 0), .ref (p1a 0), .int p2]) ++ List.replicate (7 - (lg_sl ([.ref (p0a 0), .ref (p1a 0), .int p2])).length) Slot.unset).toArray = ls at hl ⊢
  have hl : lv_has ls 7 [(0, .ref (p0a 0)), (1, .ref (p1a 0)), (2, .int p2)] := hl
  obtain ⟨H, hHe⟩ : ∃ H, H = s.heap := ⟨_, rfl⟩
  obtain ⟨locs, hle⟩ : ∃ locs : List Loc, locs = [] := ⟨_, rfl⟩
  rw [← hHe] at hP
  have hS : va_S A s.heap H locs := by rw [hHe, hle]; exact hS
  show W p l e ({ frames := 0, cells := 0, slots := 0, locals := 0 } : Room) s m ([.ref (p0a 0), .ref (p1a 0), .int p2] : List Value).toArray below meth c s.heap [] 0 0 Q (F0 m 0 ls [])
  rw [← hle]
  refine wH9 hHe ?_
  unfold fX4_findLabels at hrun
  refine lv_iconst (v := 0) hx hb dX4_findLabels_0 (by decide) ?_
  refine lv_istore_n (lv' := [(3, .int 0), (0, .ref (p0a 0)), (1, .ref (p1a 0)), (2, .int p2)]) hx hb dX4_findLabels_1 rfl hl (by decide) rfl (fun ls hl => ?_)
  refine lv_aload_n hx hb dX4_findLabels_2 rfl (lv_at hl 2 rfl) ?_
  refine va_get (D := (dC, dI)) (ci := 2) (v := .ref (p1a 6)) (C := RX6) (T := TX6) (N := 13) hx hb hts i_X6 hown hK hP 19 rfl rfl 5 (by decide) (hts _ qw232) (fun _ h9 => h9) rfl dX4_findLabels_3 ?_
  refine lv_iload_n hx hb dX4_findLabels_6 rfl (lv_at hl 3 rfl) ?_
  obtain ⟨hq1, hrun⟩ := chk9 hrun
  refine va_iald hx hb hK hP 24 22 rfl rfl (ixb_in hq1) dX4_findLabels_7 ?_
  refine lv_istore (lv' := [(4, .int (p1w 6 (nn p2))), (3, .int 0), (0, .ref (p0a 0)), (1, .ref (p1a 0)), (2, .int p2)]) hx hb dX4_findLabels_8 hl (by decide) rfl (fun ls hl => ?_)
  have L10 : ∀ (n_10 : Nat) (v3_10 : Int32) (v4_10 : Int32) (p0w_10 : ST) (o10 : ST) (H : Heap) (locs : List Loc) (ls : Array Slot), (fX4_findLabels_L10 p1w p2 n_10) v3_10 v4_10 p0w_10 = some o10 → va_P (dC, dI) cls ((oX4 (p0a 0) p0a p0k p0w_10 p0l) ++ (oX6 (p1a 0) p1a p1k p1w p1l)) H → va_D A ((oX4 (p0a 0) p0a p0k p0w_10 p0l) ++ (oX6 (p1a 0) p1a p1k p1w p1l)) → va_S A s.heap H locs → lv_has ls 7 [(0, .ref (p0a 0)), (1, .ref (p1a 0)), (2, .int p2), (3, .int v3_10), (4, .int v4_10)] → (∀ (H : Heap) (locs : List Loc) (ls : Array Slot), va_P (dC, dI) cls ((oX4 (p0a 0) p0a p0k o10 p0l) ++ (oX6 (p1a 0) p1a p1k p1w p1l)) H → va_D A ((oX4 (p0a 0) p0a p0k o10 p0l) ++ (oX6 (p1a 0) p1a p1k p1w p1l)) → va_S A s.heap H locs → lv_has ls 7 [] → W p l e ({ frames := 0, cells := 0, slots := 0, locals := 0 } : Room) s m ([.ref (p0a 0), .ref (p1a 0), .int p2] : List Value).toArray below meth c H locs 0 0 Q (F0 m 106 ls [])) → W p l e ({ frames := 0, cells := 0, slots := 0, locals := 0 } : Room) s m ([.ref (p0a 0), .ref (p1a 0), .int p2] : List Value).toArray below meth c H locs 0 0 Q (F0 m 10 ls []) := by
    intro n_10
    induction n_10 with
    | zero => intro v3_10 v4_10 p0w_10 o10 H locs ls hrun; exact (no9 rfl hrun).elim
    | succ n_10 IH10 =>
      intro v3_10 v4_10 p0w_10 o10 H locs ls hrun hP hD hS hl hk10
      unfold fX4_findLabels_L10 at hrun
      refine lv_iload hx hb dX4_findLabels_10 (lv_at hl 4 rfl) ?_
      refine lv_aload_n hx hb dX4_findLabels_12 rfl (lv_at hl 1 rfl) ?_
      refine va_get (D := (dC, dI)) (ci := 2) (v := .ref (p1a 7)) (C := RX6) (T := TX6) (N := 13) hx hb hts i_X6 hown hK hP 19 rfl rfl 6 (by decide) (hts _ qw233) (fun _ h9 => h9) rfl dX4_findLabels_13 ?_
      refine lv_iload_n hx hb dX4_findLabels_16 rfl (lv_at hl 2 rfl) ?_
      obtain ⟨hq2, hrun⟩ := chk9 hrun
      refine va_iald hx hb hK hP 25 23 rfl rfl (ixb_in hq2) dX4_findLabels_17 ?_
      rcases br9 hrun with ⟨hc3, hrun⟩ | ⟨hc3, hrun⟩
      · refine lv_icmp_ge (tgt := 106) hx hb dX4_findLabels_18 (by decide) (fun _ => ?_) (fun c => absurd hc3 c)
        obtain rfl := (Option.some.inj hrun)
        exact hk10 _ _ _ hP hD hS (lv_sub hl [] rfl)
      · refine lv_icmp_ge (tgt := 106) hx hb dX4_findLabels_18 (by decide) (fun c => absurd c hc3) (fun _ => ?_)
        refine lv_aload_n hx hb dX4_findLabels_21 rfl (lv_at hl 1 rfl) ?_
        refine va_get (D := (dC, dI)) (ci := 2) (v := .ref (p1a 9)) (C := RX6) (T := TX6) (N := 13) hx hb hts i_X6 hown hK hP 19 rfl rfl 8 (by decide) (hts _ qw234) (fun _ h9 => h9) rfl dX4_findLabels_22 ?_
        refine lv_iload hx hb dX4_findLabels_25 (lv_at hl 4 rfl) ?_
        obtain ⟨hq4, hrun⟩ := chk9 hrun
        refine va_iald hx hb hK hP 26 24 rfl rfl (ixb_in hq4) dX4_findLabels_27 ?_
        refine lv_istore (lv' := [(5, .int (p1w 9 (nn v4_10))), (0, .ref (p0a 0)), (1, .ref (p1a 0)), (2, .int p2), (3, .int v3_10), (4, .int v4_10)]) hx hb dX4_findLabels_28 hl (by decide) rfl (fun ls hl => ?_)
        refine lv_iload hx hb dX4_findLabels_30 (lv_at hl 0 rfl) ?_
        refine lv_bipush (v := 22) hx hb dX4_findLabels_32 (by decide) ?_
        have J63 : ∀ (y0_63 : Int32) (H : Heap) (locs : List Loc) (ls : Array Slot), (fX4_findLabels_J63 (fX4_findLabels_L10 p1w p2 n_10) p1w v3_10 v4_10 p0w_10 y0_63) = some o10 → va_P (dC, dI) cls ((oX4 (p0a 0) p0a p0k p0w_10 p0l) ++ (oX6 (p1a 0) p1a p1k p1w p1l)) H → va_D A ((oX4 (p0a 0) p0a p0k p0w_10 p0l) ++ (oX6 (p1a 0) p1a p1k p1w p1l)) → va_S A s.heap H locs → lv_has ls 7 [(0, .ref (p0a 0)), (1, .ref (p1a 0)), (2, .int p2), (3, .int v3_10), (4, .int v4_10), (5, .int (p1w 9 (nn v4_10)))] → W p l e ({ frames := 0, cells := 0, slots := 0, locals := 0 } : Room) s m ([.ref (p0a 0), .ref (p1a 0), .int p2] : List Value).toArray below meth c H locs 0 0 Q (F0 m 63 ls [.int y0_63]) := by
          intro y0_63 H locs ls hrun hP hD hS hl
          unfold fX4_findLabels_J63 at hrun
          refine lv_istore (lv' := [(6, .int y0_63), (0, .ref (p0a 0)), (1, .ref (p1a 0)), (2, .int p2), (3, .int v3_10), (4, .int v4_10), (5, .int (p1w 9 (nn v4_10)))]) hx hb dX4_findLabels_63 hl (by decide) rfl (fun ls hl => ?_)
          refine lv_iload hx hb dX4_findLabels_65 (lv_at hl 0 rfl) ?_
          have J80 : ∀ (v3_80 : Int32) (H : Heap) (locs : List Loc) (ls : Array Slot), (fX4_findLabels_J80 (fX4_findLabels_L10 p1w p2 n_10) p1w v4_10 p0w_10 v3_80) = some o10 → va_P (dC, dI) cls ((oX4 (p0a 0) p0a p0k p0w_10 p0l) ++ (oX6 (p1a 0) p1a p1k p1w p1l)) H → va_D A ((oX4 (p0a 0) p0a p0k p0w_10 p0l) ++ (oX6 (p1a 0) p1a p1k p1w p1l)) → va_S A s.heap H locs → lv_has ls 7 [(0, .ref (p0a 0)), (1, .ref (p1a 0)), (2, .int p2), (3, .int v3_80), (4, .int v4_10), (5, .int (p1w 9 (nn v4_10)))] → W p l e ({ frames := 0, cells := 0, slots := 0, locals := 0 } : Room) s m ([.ref (p0a 0), .ref (p1a 0), .int p2] : List Value).toArray below meth c H locs 0 0 Q (F0 m 80 ls []) := by
            intro v3_80 H locs ls hrun hP hD hS hl
            unfold fX4_findLabels_J80 at hrun
            refine lv_iload hx hb dX4_findLabels_80 (lv_at hl 5 rfl) ?_
            refine lv_bipush (v := 35) hx hb dX4_findLabels_82 (by decide) ?_
            have J100 : ∀ (p0w_100 : ST) (H : Heap) (locs : List Loc) (ls : Array Slot), (fX4_findLabels_J100 (fX4_findLabels_L10 p1w p2 n_10) v4_10 v3_80 p0w_100) = some o10 → va_P (dC, dI) cls ((oX4 (p0a 0) p0a p0k p0w_100 p0l) ++ (oX6 (p1a 0) p1a p1k p1w p1l)) H → va_D A ((oX4 (p0a 0) p0a p0k p0w_100 p0l) ++ (oX6 (p1a 0) p1a p1k p1w p1l)) → va_S A s.heap H locs → lv_has ls 7 [(0, .ref (p0a 0)), (1, .ref (p1a 0)), (2, .int p2), (3, .int v3_80), (4, .int v4_10)] → W p l e ({ frames := 0, cells := 0, slots := 0, locals := 0 } : Room) s m ([.ref (p0a 0), .ref (p1a 0), .int p2] : List Value).toArray below meth c H locs 0 0 Q (F0 m 100 ls []) := by
              intro p0w_100 H locs ls hrun hP hD hS hl
              unfold fX4_findLabels_J100 at hrun
              refine lv_iinc (v := (v4_10 + 1)) (lv' := [(4, .int (v4_10 + 1)), (0, .ref (p0a 0)), (1, .ref (p1a 0)), (2, .int p2), (3, .int v3_80)]) hx hb dX4_findLabels_100 hl (k := 4) rfl rfl (by decide) rfl (fun ls hl => ?_)
              refine lv_goto (tgt := 10) hx hb dX4_findLabels_103 (by decide) ?_
              exact IH10 v3_80 (v4_10 + 1) p0w_100 o10 _ _ _ hrun hP hD hS (lv_sub hl [1, 2, 3, 4, 0] rfl) hk10
            rcases br9 hrun with ⟨hc5, hrun⟩ | ⟨hc5, hrun⟩
            · refine lv_icmp_ne (tgt := 100) hx hb dX4_findLabels_84 (by decide) (fun c => absurd hc5 c) (fun _ => ?_)
              refine lv_aload_n hx hb dX4_findLabels_87 rfl (lv_at hl 0 rfl) ?_
              refine va_get (D := (dC, dI)) (ci := 6) (v := .ref (p0a 13)) (C := RX4) (T := TX4) (N := 20) hx hb hts i_X4 hown hK hP 0 rfl rfl 12 (by decide) (hts _ qw235) (fun _ h9 => h9) rfl dX4_findLabels_88 ?_
              refine lv_aload_n hx hb dX4_findLabels_91 rfl (lv_at hl 1 rfl) ?_
              refine va_get (D := (dC, dI)) (ci := 2) (v := .ref (p1a 10)) (C := RX6) (T := TX6) (N := 13) hx hb hts i_X6 hown hK hP 19 rfl rfl 9 (by decide) (hts _ qw236) (fun _ h9 => h9) rfl dX4_findLabels_92 ?_
              refine lv_iload hx hb dX4_findLabels_95 (lv_at hl 4 rfl) ?_
              obtain ⟨hq6, hrun⟩ := chk9 hrun
              refine va_iald hx hb hK hP 27 25 rfl rfl (ixb_in hq6) dX4_findLabels_97 ?_
              refine lv_iload_n hx hb dX4_findLabels_98 rfl (lv_at hl 3 rfl) ?_
              obtain ⟨hq7, hrun⟩ := chk9 hrun
              refine va_iast hx hb hK hP hD hS 11 10 rfl rfl (ixb_in hq7) dX4_findLabels_99 (fun H locs hP hD hS => ?_)
              have hP : va_P (dC, dI) cls ((oX4 (p0a 0) p0a p0k (upw p0w_10 13 (nn (p1w 10 (nn v4_10))) v3_80) p0l) ++ (oX6 (p1a 0) p1a p1k p1w p1l)) H := hP
              have hD : va_D A ((oX4 (p0a 0) p0a p0k (upw p0w_10 13 (nn (p1w 10 (nn v4_10))) v3_80) p0l) ++ (oX6 (p1a 0) p1a p1k p1w p1l)) := hD
              obtain ⟨w8, ew8, hrun⟩ := let9 hrun
              rw [← ew8] at hP hD
              exact J100 w8 _ _ _ hrun hP hD hS (lv_sub hl [0, 1, 2, 3, 4] rfl)
            · refine lv_icmp_ne (tgt := 100) hx hb dX4_findLabels_84 (by decide) (fun _ => ?_) (fun c => absurd c hc5)
              exact J100 p0w_10 _ _ _ hrun hP hD hS (lv_sub hl [0, 1, 2, 3, 4] rfl)
          have J77 : ∀ (H : Heap) (locs : List Loc) (ls : Array Slot), (fX4_findLabels_J77 (fX4_findLabels_L10 p1w p2 n_10) p1w v3_10 v4_10 p0w_10) = some o10 → va_P (dC, dI) cls ((oX4 (p0a 0) p0a p0k p0w_10 p0l) ++ (oX6 (p1a 0) p1a p1k p1w p1l)) H → va_D A ((oX4 (p0a 0) p0a p0k p0w_10 p0l) ++ (oX6 (p1a 0) p1a p1k p1w p1l)) → va_S A s.heap H locs → lv_has ls 7 [(0, .ref (p0a 0)), (1, .ref (p1a 0)), (2, .int p2), (3, .int v3_10), (4, .int v4_10), (5, .int (p1w 9 (nn v4_10)))] → W p l e ({ frames := 0, cells := 0, slots := 0, locals := 0 } : Room) s m ([.ref (p0a 0), .ref (p1a 0), .int p2] : List Value).toArray below meth c H locs 0 0 Q (F0 m 77 ls []) := by
            intro  H locs ls hrun hP hD hS hl
            unfold fX4_findLabels_J77 at hrun
            refine lv_iinc (v := (v3_10 + 1)) (lv' := [(3, .int (v3_10 + 1)), (0, .ref (p0a 0)), (1, .ref (p1a 0)), (2, .int p2), (4, .int v4_10), (5, .int (p1w 9 (nn v4_10)))]) hx hb dX4_findLabels_77 hl (k := 3) rfl rfl (by decide) rfl (fun ls hl => ?_)
            exact J80 (v3_10 + 1) _ _ _ hrun hP hD hS (lv_sub hl [1, 2, 3, 0, 4, 5] rfl)
          rcases br9 hrun with ⟨hc9, hrun⟩ | ⟨hc9, hrun⟩
          · refine lv_if_ne (tgt := 77) hx hb dX4_findLabels_67 (by decide) (fun c => absurd hc9 c) (fun _ => ?_)
            refine lv_iload hx hb dX4_findLabels_70 (lv_at hl 6 rfl) ?_
            refine lv_bipush (v := 35) hx hb dX4_findLabels_72 (by decide) ?_
            rcases br9 hrun with ⟨hc10, hrun⟩ | ⟨hc10, hrun⟩
            · refine lv_icmp_ne (tgt := 80) hx hb dX4_findLabels_74 (by decide) (fun c => absurd hc10 c) (fun _ => ?_)
              exact J77 _ _ _ hrun hP hD hS (lv_sub hl [1, 2, 3, 4, 5, 6] rfl)
            · refine lv_icmp_ne (tgt := 80) hx hb dX4_findLabels_74 (by decide) (fun _ => ?_) (fun c => absurd c hc10)
              exact J80 v3_10 _ _ _ hrun hP hD hS (lv_sub hl [1, 2, 3, 4, 5, 6] rfl)
          · refine lv_if_ne (tgt := 77) hx hb dX4_findLabels_67 (by decide) (fun _ => ?_) (fun c => absurd c hc9)
            exact J77 _ _ _ hrun hP hD hS (lv_sub hl [1, 2, 3, 4, 5, 6] rfl)
        have J58 : ∀ (H : Heap) (locs : List Loc) (ls : Array Slot), (fX4_findLabels_J58 (fX4_findLabels_L10 p1w p2 n_10) p1w v3_10 v4_10 p0w_10) = some o10 → va_P (dC, dI) cls ((oX4 (p0a 0) p0a p0k p0w_10 p0l) ++ (oX6 (p1a 0) p1a p1k p1w p1l)) H → va_D A ((oX4 (p0a 0) p0a p0k p0w_10 p0l) ++ (oX6 (p1a 0) p1a p1k p1w p1l)) → va_S A s.heap H locs → lv_has ls 7 [(0, .ref (p0a 0)), (1, .ref (p1a 0)), (2, .int p2), (3, .int v3_10), (4, .int v4_10), (5, .int (p1w 9 (nn v4_10)))] → W p l e ({ frames := 0, cells := 0, slots := 0, locals := 0 } : Room) s m ([.ref (p0a 0), .ref (p1a 0), .int p2] : List Value).toArray below meth c H locs 0 0 Q (F0 m 58 ls []) := by
          intro  H locs ls hrun hP hD hS hl
          unfold fX4_findLabels_J58 at hrun
          refine lv_iconst (v := 1) hx hb dX4_findLabels_58 (by decide) ?_
          refine lv_goto (tgt := 63) hx hb dX4_findLabels_59 (by decide) ?_
          exact J63 1 _ _ _ hrun hP hD hS (lv_sub hl [0, 1, 2, 3, 4, 5] rfl)
        rcases br9 hrun with ⟨hc11, hrun⟩ | ⟨hc11, hrun⟩
        · refine lv_icmp_eq (tgt := 58) hx hb dX4_findLabels_34 (by decide) (fun _ => ?_) (fun c => absurd hc11 c)
          exact J58 _ _ _ hrun hP hD hS (lv_sub hl [1, 2, 3, 4, 5, 0] rfl)
        · refine lv_icmp_eq (tgt := 58) hx hb dX4_findLabels_34 (by decide) (fun c => absurd c hc11) (fun _ => ?_)
          refine lv_iload hx hb dX4_findLabels_37 (lv_at hl 0 rfl) ?_
          refine lv_bipush (v := 33) hx hb dX4_findLabels_39 (by decide) ?_
          rcases br9 hrun with ⟨hc12, hrun⟩ | ⟨hc12, hrun⟩
          · refine lv_icmp_eq (tgt := 58) hx hb dX4_findLabels_41 (by decide) (fun _ => ?_) (fun c => absurd hc12 c)
            exact J58 _ _ _ hrun hP hD hS (lv_sub hl [1, 2, 3, 4, 5, 0] rfl)
          · refine lv_icmp_eq (tgt := 58) hx hb dX4_findLabels_41 (by decide) (fun c => absurd c hc12) (fun _ => ?_)
            refine lv_iload hx hb dX4_findLabels_44 (lv_at hl 0 rfl) ?_
            refine lv_bipush (v := 34) hx hb dX4_findLabels_46 (by decide) ?_
            rcases br9 hrun with ⟨hc13, hrun⟩ | ⟨hc13, hrun⟩
            · refine lv_icmp_eq (tgt := 58) hx hb dX4_findLabels_48 (by decide) (fun _ => ?_) (fun c => absurd hc13 c)
              exact J58 _ _ _ hrun hP hD hS (lv_sub hl [1, 2, 3, 4, 5, 0] rfl)
            · refine lv_icmp_eq (tgt := 58) hx hb dX4_findLabels_48 (by decide) (fun c => absurd c hc13) (fun _ => ?_)
              refine lv_iload hx hb dX4_findLabels_51 (lv_at hl 0 rfl) ?_
              refine lv_bipush (v := 24) hx hb dX4_findLabels_53 (by decide) ?_
              rcases br9 hrun with ⟨hc14, hrun⟩ | ⟨hc14, hrun⟩
              · refine lv_icmp_ne (tgt := 62) hx hb dX4_findLabels_55 (by decide) (fun c => absurd hc14 c) (fun _ => ?_)
                exact J58 _ _ _ hrun hP hD hS (lv_sub hl [1, 2, 3, 4, 5, 0] rfl)
              · refine lv_icmp_ne (tgt := 62) hx hb dX4_findLabels_55 (by decide) (fun _ => ?_) (fun c => absurd c hc14)
                refine lv_iconst (v := 0) hx hb dX4_findLabels_62 (by decide) ?_
                exact J63 0 _ _ _ hrun hP hD hS (lv_sub hl [1, 2, 3, 4, 5, 0] rfl)
  obtain ⟨o10, hc10, hrun⟩ := bnd9 hrun
  refine L10 NF 0 (p1w 6 (nn p2)) p0w o10 _ _ _ hc10 hP hD hS (lv_sub hl [2, 3, 4, 1, 0] rfl) ?_
  intro H locs ls hP hD hS hl
  have hl := hl
  have ho9 : o10 = o := Option.some.inj hrun
  have hP9 : va_P (dC, dI) cls ((oX4 (p0a 0) p0a p0k o p0l) ++ (oX6 (p1a 0) p1a p1k p1w p1l)) H := by first | exact hP | (rw [← ho9]; exact hP)
  have hD9 : va_D A ((oX4 (p0a 0) p0a p0k o p0l) ++ (oX6 (p1a 0) p1a p1k p1w p1l)) := by first | exact hD | (rw [← ho9]; exact hD)
  subst hQ
  exact W.vret hx hb hr (fun t ht hW => ⟨⟨(), rfl, trivial, ⟨by rw [ht]; exact hP9, va_K.moved hW.alike hK, hD9⟩⟩, hS.F ht⟩) hS.2.2 dX4_findLabels_106
def fX4_cutPieces_J213 (kk26 : Int32 → Int32 → ST → Option ST) (v4_26 : Int32) (v3_213 : Int32) (p0w_213 : ST) : Option ST := (kk26 v3_213 (v4_26 + 1) p0w_213)
def fX4_cutPieces_L26 (p1w : ST) (p2 : Int32) : Nat → Int32 → Int32 → ST → Option ST
  | 0 => fun _ _ _ => none
  | n_26 + 1 => fun v3_26 v4_26 p0w_26 => (if ixb p2 6 = true then (if (p1w 7 (nn p2)) ≤ v4_26 then some p0w_26 else (if ixb v4_26 3200 = true then (if (p1w 9 (nn v4_26)) = 35 then ((fX4_addPiece p0w_26 v3_26 v4_26 ((p0w_26 0 5) + 1) (-1)).bind fun (o_9 : ST) => (fX4_cutPieces_J213 (fX4_cutPieces_L26 p1w p2 n_26) v4_26 v4_26 o_9)) else (if (p1w 9 (nn v4_26)) = 22 then (if ixb v4_26 3200 = true then (if ixb (p1w 10 (nn v4_26)) 640 = true then ((fX4_addPiece p0w_26 v3_26 (v4_26 + 1) (p0w_26 13 (nn (p1w 10 (nn v4_26)))) (-1)).bind fun (o_13 : ST) => (fX4_cutPieces_J213 (fX4_cutPieces_L26 p1w p2 n_26) v4_26 (v4_26 + 1) o_13)) else none) else none) else (if (p1w 9 (nn v4_26)) = 33 then (if ixb v4_26 3200 = true then (if ixb (p1w 10 (nn v4_26)) 640 = true then ((fX4_addPiece p0w_26 v3_26 (v4_26 + 1) ((p0w_26 0 5) + 1) (p0w_26 13 (nn (p1w 10 (nn v4_26))))).bind fun (o_17 : ST) => (fX4_cutPieces_J213 (fX4_cutPieces_L26 p1w p2 n_26) v4_26 (v4_26 + 1) o_17)) else none) else none) else (if (p1w 9 (nn v4_26)) = 34 then (if ixb v4_26 3200 = true then (if ixb (p1w 10 (nn v4_26)) 640 = true then ((fX4_addPiece p0w_26 v3_26 (v4_26 + 1) (p0w_26 13 (nn (p1w 10 (nn v4_26)))) ((p0w_26 0 5) + 1)).bind fun (o_21 : ST) => (fX4_cutPieces_J213 (fX4_cutPieces_L26 p1w p2 n_26) v4_26 (v4_26 + 1) o_21)) else none) else none) else (if (p1w 9 (nn v4_26)) = 24 then ((fX4_addPiece p0w_26 v3_26 (v4_26 + 1) (-1) (-1)).bind fun (o_23 : ST) => (fX4_cutPieces_J213 (fX4_cutPieces_L26 p1w p2 n_26) v4_26 (v4_26 + 1) o_23)) else (fX4_cutPieces_J213 (fX4_cutPieces_L26 p1w p2 n_26) v4_26 v3_26 p0w_26)))))) else none)) else none)
def fX4_cutPieces (p0w : ST) (p1w : ST) (p2 : Int32) : Option ST := ((fX4_findLabels p0w p1w p2).bind fun (o_1 : ST) => (lt9 (upw o_1 0 5 0) fun (w2 : ST) => (if ixb p2 6 = true then (if ixb p2 6 = true then ((fX4_cutPieces_L26 p1w p2 NF (p1w 6 (nn p2)) (p1w 6 (nn p2)) w2).bind fun (o26 : ST) => some o26) else none) else none)))
set_option maxHeartbeats 16000000 in
set_option maxRecDepth 100000 in
theorem kX4_cutPieces {zs : Nat × Nat} (l : Launch) (dC : Nat → ClassId) (dI : Nat → Nat → Nat) (p0a : Nat → Nat) (p0k : Nat → ClassId) (p0w : ST) (p0l : SL) (p1a : Nat → Nat) (p1k : Nat → ClassId) (p1w : ST) (p1l : SL) (p2 : Int32) (sz : Nat) (o : ST) (hrun : fX4_cutPieces p0w p1w p2 = some o) : Met l yX4_cutPieces (wz yX4_cutPieces cX4_cutPieces 7 (Option.none : Option Jvm.ClassFile.FieldType)) ({ frames := 1, cells := 0, slots := 0, locals := 26 } : Room) (va_Pc [.ref (p0a 0), .ref (p1a 0), .int p2] (PRE zs dC dI ((oX4 (p0a 0) p0a p0k p0w p0l) ++ (oX6 (p1a 0) p1a p1k p1w p1l)) ((tX4 p0k) ++ (tX6 p1k)) sz)) (va_Qv (fun (_ : Unit) => True) (fun _ t => POST dC dI ((oX4 (p0a 0) p0a p0k o p0l) ++ (oX6 (p1a 0) p1a p1k p1w p1l)) ((tX4 p0k) ++ (tX6 p1k)) (va_A ((oX4 (p0a 0) p0a p0k p0w p0l) ++ (oX6 (p1a 0) p1a p1k p1w p1l)) sz) t) (va_A ((oX4 (p0a 0) p0a p0k p0w p0l) ++ (oX6 (p1a 0) p1a p1k p1w p1l)) sz)) 0 0 (va_A ((oX4 (p0a 0) p0a p0k p0w p0l) ++ (oX6 (p1a 0) p1a p1k p1w p1l)) sz) := by
  refine Met.ofW (cc := cX4_cutPieces) (maxL := 7) (ret := (Option.none : Option Jvm.ClassFile.FieldType)) (by decide) rfl ?_
  intro p e s m args below meth c s₁ B hml hv
  obtain ⟨rfl, hsz, hP, hK, hD0, hE⟩ := hv
  have hx := B.exec
  have hb := B.bytes
  have hr := B.returns
  have hts0 := atoms_spec (ws := wz yX4_cutPieces cX4_cutPieces 7 (Option.none : Option Jvm.ClassFile.FieldType)) B.pre
  have hts : ∀ w ∈ gw, w.before _ s = true := fun w h => hts0 w (List.mem_cons_of_mem _ h)
  have hown : s.vm.findClass RX4 = some m.cls := findClass_of_methodNamed B.named
  have hlocks := B.notSynchronized
  subst hsz
  have hD := hD0.self (sz := s.heap.size)
  refine gQ9 ?_
  intro Q hQ
  generalize hAe : va_A ((oX4 (p0a 0) p0a p0k p0w p0l) ++ (oX6 (p1a 0) p1a p1k p1w p1l)) s.heap.size = A at hD hE hQ
  have hA : ∀ q : Nat, s.heap.size ≤ q → A q := fun q h => by rw [← hAe]; exact Or.inr h
  have hS : va_S A s.heap s.heap [] := va_S.rf
  have hP : va_P (dC, dI) cls ((oX4 (p0a 0) p0a p0k p0w p0l) ++ (oX6 (p1a 0) p1a p1k p1w p1l)) s.heap := hP
  have hl := lv_entry ([.ref (p0a 0), .ref (p1a 0), .int p2]) (n := 7) (Nat.le_of_ble_eq_true rfl)
  rw [lg_entry_eq]
  generalize (lg_sl ([.ref (p0a 0), .ref (p1a 0), .int p2]) ++ List.replicate (7 - (lg_sl ([.ref (p0a 0), .ref (p1a 0), .int p2])).length) Slot.unset).toArray = ls at hl ⊢
  have hl : lv_has ls 7 [(0, .ref (p0a 0)), (1, .ref (p1a 0)), (2, .int p2)] := hl
  obtain ⟨H, hHe⟩ : ∃ H, H = s.heap := ⟨_, rfl⟩
  obtain ⟨locs, hle⟩ : ∃ locs : List Loc, locs = [] := ⟨_, rfl⟩
  rw [← hHe] at hP
  have hS : va_S A s.heap H locs := by rw [hHe, hle]; exact hS
  show W p l e ({ frames := 1, cells := 0, slots := 0, locals := 26 } : Room) s m ([.ref (p0a 0), .ref (p1a 0), .int p2] : List Value).toArray below meth c s.heap [] 0 0 Q (F0 m 0 ls [])
  rw [← hle]
  refine wH9 hHe ?_
  unfold fX4_cutPieces at hrun
  refine lv_aload_n hx hb dX4_cutPieces_0 rfl (lv_at hl 0 rfl) ?_
  refine lv_aload_n hx hb dX4_cutPieces_1 rfl (lv_at hl 1 rfl) ?_
  refine lv_iload_n hx hb dX4_cutPieces_2 rfl (lv_at hl 2 rfl) ?_
  obtain ⟨o_1, hc_1, hrun⟩ := bnd9 hrun
  have hPc := hP.sub (ws' := ((oX4 (p0a 0) p0a p0k p0w p0l) ++ (oX6 (p1a 0) p1a p1k p1w p1l))) [0, 1, 2, 3, 4, 5, 6, 7, 8, 9, 10, 11, 12, 13, 14, 15, 16, 17, 18, 19, 20, 21, 22, 23, 24, 25, 26, 27, 28, 29] rfl
  have hDc := hD.sub (ws' := ((oX4 (p0a 0) p0a p0k p0w p0l) ++ (oX6 (p1a 0) p1a p1k p1w p1l))) [0, 1, 2, 3, 4, 5, 6, 7, 8, 9, 10, 11, 12, 13, 14, 15, 16, 17, 18, 19, 20, 21, 22, 23, 24, 25, 26, 27, 28, 29] (by decide) rfl
  have hKc := hK.sub (tys' := ((tX4 p0k) ++ (tX6 p1k))) [0, 1, 2, 3, 4, 5, 6, 7, 8, 9, 10, 11, 12, 13, 14, 15, 16, 17, 18, 19, 20, 21, 22, 23, 24, 25, 26, 27] rfl
  have hFc := va_free (wc := ((oX4 (p0a 0) p0a p0k p0w p0l) ++ (oX6 (p1a 0) p1a p1k p1w p1l))) hD hS hA [0, 1, 2, 3, 4, 5, 6, 7, 8, 9, 10, 11, 12, 13, 14, 15, 16, 17, 18, 19, 20, 21, 22, 23, 24, 25, 26, 27, 28, 29] rfl
  refine va_callv (va_runV (As := [.ref (p1a 0), .int p2]) (rest := []) ⟨hx, hb, hml, hown, hts⟩ (kX4_findLabels l dC dI (p0a := (st0 (p0a 0) p0a)) (p0k := p0k) (p0w := p0w) (p0l := p0l) (p1a := (st0 (p1a 0) p1a)) (p1k := p1k) (p1w := p1w) (p1l := p1l) (p2 := p2) (sz := _) (o := o_1) (hrun := hc_1)) (cwV 2 hts (gi_V qw238 qw239 qw240 qw241 (gi_z qw237)) rfl rfl rfl (by decide +kernel) ⟨Nat.le_of_ble_eq_true rfl, Nat.le_of_ble_eq_true rfl⟩) ⟨PRE.blind, va_recv hKc hPc (ci := 6) (q0 := 0) rfl rfl, PRE.of hE hS hFc hPc hKc hDc⟩ rfl rfl hl.1 rfl (lv_room (Nat.le_of_ble_eq_true rfl)) dX4_cutPieces_3 ⟨Nat.le_of_ble_eq_true rfl, Nat.le_of_ble_eq_true rfl⟩) hS (fun q _ h => hFc q h) hFc (fun u t H locs ht hvm hw hB hz1 hk1 hS => ?_)
  obtain ⟨hP, hD, hK⟩ := JOIN (wr := ([] : va_W)) hP hD hK [0, 1, 2, 3, 4, 5, 6, 7, 8, 9, 10, 11, 12, 13, 14, 15, 16, 17, 18, 19, 20, 21, 22, 23, 24, 25, 26, 27, 28, 29] [] [] rfl rfl (by decide) (by decide) rfl hk1 hFc ht hvm hB
  have hP : va_P (dC, dI) cls ((oX4 (p0a 0) p0a p0k o_1 p0l) ++ (oX6 (p1a 0) p1a p1k p1w p1l)) H := hP.sub [0, 1, 2, 3, 4, 5, 6, 7, 8, 9, 10, 11, 12, 13, 14, 15, 16, 17, 18, 19, 20, 21, 22, 23, 24, 25, 26, 27, 28, 29] rfl
  have hD : va_D A ((oX4 (p0a 0) p0a p0k o_1 p0l) ++ (oX6 (p1a 0) p1a p1k p1w p1l)) := hD.sub [0, 1, 2, 3, 4, 5, 6, 7, 8, 9, 10, 11, 12, 13, 14, 15, 16, 17, 18, 19, 20, 21, 22, 23, 24, 25, 26, 27, 28, 29] (by decide) rfl
  have hK : va_K (dC, dI) cls ((tX4 p0k) ++ (tX6 p1k)) s := hK.sub [0, 1, 2, 3, 4, 5, 6, 7, 8, 9, 10, 11, 12, 13, 14, 15, 16, 17, 18, 19, 20, 21, 22, 23, 24, 25, 26, 27] rfl
  refine lv_aload_n hx hb dX4_cutPieces_6 rfl (lv_at hl 0 rfl) ?_
  refine lv_iconst (v := 0) hx hb dX4_cutPieces_7 (by decide) ?_
  refine va_put (D := (dC, dI)) (ci := 6) (v := .int 0) (ty := .int) (C := RX4) (T := TX4) (N := 20) hx hb hts i_X4 tyX4 tyX4_ok nmX4 hown hK hP hD hS 0 rfl rfl 5 (by decide) (hts _ qw226) (fun _ h9 => h9) rfl (by decide +kernel) rfl rfl (Nat.le_of_ble_eq_true rfl) dX4_cutPieces_8 (fun H locs hP hD hS => ?_)
  have hP : va_P (dC, dI) cls ((oX4 (p0a 0) p0a p0k (upw o_1 0 5 0) p0l) ++ (oX6 (p1a 0) p1a p1k p1w p1l)) H := hP
  have hD : va_D A ((oX4 (p0a 0) p0a p0k (upw o_1 0 5 0) p0l) ++ (oX6 (p1a 0) p1a p1k p1w p1l)) := hD
  obtain ⟨w2, ew2, hrun⟩ := let9 hrun
  rw [← ew2] at hP hD
  refine lv_aload_n hx hb dX4_cutPieces_11 rfl (lv_at hl 1 rfl) ?_
  refine va_get (D := (dC, dI)) (ci := 2) (v := .ref (p1a 6)) (C := RX6) (T := TX6) (N := 13) hx hb hts i_X6 hown hK hP 19 rfl rfl 5 (by decide) (hts _ qw232) (fun _ h9 => h9) rfl dX4_cutPieces_12 ?_
  refine lv_iload_n hx hb dX4_cutPieces_15 rfl (lv_at hl 2 rfl) ?_
  obtain ⟨hq3, hrun⟩ := chk9 hrun
  refine va_iald hx hb hK hP 24 22 rfl rfl (ixb_in hq3) dX4_cutPieces_16 ?_
  refine lv_istore_n (lv' := [(3, .int (p1w 6 (nn p2))), (0, .ref (p0a 0)), (1, .ref (p1a 0)), (2, .int p2)]) hx hb dX4_cutPieces_17 rfl hl (by decide) rfl (fun ls hl => ?_)
  refine lv_aload_n hx hb dX4_cutPieces_18 rfl (lv_at hl 2 rfl) ?_
  refine va_get (D := (dC, dI)) (ci := 2) (v := .ref (p1a 6)) (C := RX6) (T := TX6) (N := 13) hx hb hts i_X6 hown hK hP 19 rfl rfl 5 (by decide) (hts _ qw232) (fun _ h9 => h9) rfl dX4_cutPieces_19 ?_
  refine lv_iload_n hx hb dX4_cutPieces_22 rfl (lv_at hl 3 rfl) ?_
  obtain ⟨hq4, hrun⟩ := chk9 hrun
  refine va_iald hx hb hK hP 24 22 rfl rfl (ixb_in hq4) dX4_cutPieces_23 ?_
  refine lv_istore (lv' := [(4, .int (p1w 6 (nn p2))), (3, .int (p1w 6 (nn p2))), (0, .ref (p0a 0)), (1, .ref (p1a 0)), (2, .int p2)]) hx hb dX4_cutPieces_24 hl (by decide) rfl (fun ls hl => ?_)
  have L26 : ∀ (n_26 : Nat) (v3_26 : Int32) (v4_26 : Int32) (p0w_26 : ST) (o26 : ST) (H : Heap) (locs : List Loc) (ls : Array Slot), (fX4_cutPieces_L26 p1w p2 n_26) v3_26 v4_26 p0w_26 = some o26 → va_P (dC, dI) cls ((oX4 (p0a 0) p0a p0k p0w_26 p0l) ++ (oX6 (p1a 0) p1a p1k p1w p1l)) H → va_D A ((oX4 (p0a 0) p0a p0k p0w_26 p0l) ++ (oX6 (p1a 0) p1a p1k p1w p1l)) → va_S A s.heap H locs → lv_has ls 7 [(0, .ref (p0a 0)), (1, .ref (p1a 0)), (2, .int p2), (3, .int v3_26), (4, .int v4_26)] → (∀ (H : Heap) (locs : List Loc) (ls : Array Slot), va_P (dC, dI) cls ((oX4 (p0a 0) p0a p0k o26 p0l) ++ (oX6 (p1a 0) p1a p1k p1w p1l)) H → va_D A ((oX4 (p0a 0) p0a p0k o26 p0l) ++ (oX6 (p1a 0) p1a p1k p1w p1l)) → va_S A s.heap H locs → lv_has ls 7 [] → W p l e ({ frames := 1, cells := 0, slots := 0, locals := 26 } : Room) s m ([.ref (p0a 0), .ref (p1a 0), .int p2] : List Value).toArray below meth c H locs 0 0 Q (F0 m 219 ls [])) → W p l e ({ frames := 1, cells := 0, slots := 0, locals := 26 } : Room) s m ([.ref (p0a 0), .ref (p1a 0), .int p2] : List Value).toArray below meth c H locs 0 0 Q (F0 m 26 ls []) := by
    intro n_26
    induction n_26 with
    | zero => intro v3_26 v4_26 p0w_26 o26 H locs ls hrun; exact (no9 rfl hrun).elim
    | succ n_26 IH26 =>
      intro v3_26 v4_26 p0w_26 o26 H locs ls hrun hP hD hS hl hk26
      unfold fX4_cutPieces_L26 at hrun
      refine lv_iload hx hb dX4_cutPieces_26 (lv_at hl 4 rfl) ?_
      refine lv_aload_n hx hb dX4_cutPieces_28 rfl (lv_at hl 1 rfl) ?_
      refine va_get (D := (dC, dI)) (ci := 2) (v := .ref (p1a 7)) (C := RX6) (T := TX6) (N := 13) hx hb hts i_X6 hown hK hP 19 rfl rfl 6 (by decide) (hts _ qw233) (fun _ h9 => h9) rfl dX4_cutPieces_29 ?_
      refine lv_iload_n hx hb dX4_cutPieces_32 rfl (lv_at hl 2 rfl) ?_
      obtain ⟨hq5, hrun⟩ := chk9 hrun
      refine va_iald hx hb hK hP 25 23 rfl rfl (ixb_in hq5) dX4_cutPieces_33 ?_
      rcases br9 hrun with ⟨hc6, hrun⟩ | ⟨hc6, hrun⟩
      · refine lv_icmp_ge (tgt := 219) hx hb dX4_cutPieces_34 (by decide) (fun _ => ?_) (fun c => absurd hc6 c)
        obtain rfl := (Option.some.inj hrun)
        exact hk26 _ _ _ hP hD hS (lv_sub hl [] rfl)
      · refine lv_icmp_ge (tgt := 219) hx hb dX4_cutPieces_34 (by decide) (fun c => absurd c hc6) (fun _ => ?_)
        refine lv_aload_n hx hb dX4_cutPieces_37 rfl (lv_at hl 1 rfl) ?_
        refine va_get (D := (dC, dI)) (ci := 2) (v := .ref (p1a 9)) (C := RX6) (T := TX6) (N := 13) hx hb hts i_X6 hown hK hP 19 rfl rfl 8 (by decide) (hts _ qw234) (fun _ h9 => h9) rfl dX4_cutPieces_38 ?_
        refine lv_iload hx hb dX4_cutPieces_41 (lv_at hl 4 rfl) ?_
        obtain ⟨hq7, hrun⟩ := chk9 hrun
        refine va_iald hx hb hK hP 26 24 rfl rfl (ixb_in hq7) dX4_cutPieces_43 ?_
        refine lv_istore (lv' := [(5, .int (p1w 9 (nn v4_26))), (0, .ref (p0a 0)), (1, .ref (p1a 0)), (2, .int p2), (3, .int v3_26), (4, .int v4_26)]) hx hb dX4_cutPieces_44 hl (by decide) rfl (fun ls hl => ?_)
        refine lv_aload_n hx hb dX4_cutPieces_46 rfl (lv_at hl 1 rfl) ?_
        refine va_get (D := (dC, dI)) (ci := 6) (v := .int (p0w_26 0 5)) (C := RX4) (T := TX4) (N := 20) hx hb hts i_X4 hown hK hP 0 rfl rfl 5 (by decide) (hts _ qw226) (fun _ h9 => h9) rfl dX4_cutPieces_47 ?_
        refine lv_iconst (v := 1) hx hb dX4_cutPieces_50 (by decide) ?_
        refine lv_iadd hx hb dX4_cutPieces_51 ?_
        refine lv_istore (lv' := [(6, .int ((p0w_26 0 5) + 1)), (5, .int (p1w 9 (nn v4_26))), (0, .ref (p0a 0)), (1, .ref (p1a 0)), (2, .int p2), (3, .int v3_26), (4, .int v4_26)]) hx hb dX4_cutPieces_52 hl (by decide) rfl (fun ls hl => ?_)
        refine lv_iload hx hb dX4_cutPieces_54 (lv_at hl 1 rfl) ?_
        refine lv_bipush (v := 35) hx hb dX4_cutPieces_56 (by decide) ?_
        have J213 : ∀ (v3_213 : Int32) (p0w_213 : ST) (H : Heap) (locs : List Loc) (ls : Array Slot), (fX4_cutPieces_J213 (fX4_cutPieces_L26 p1w p2 n_26) v4_26 v3_213 p0w_213) = some o26 → va_P (dC, dI) cls ((oX4 (p0a 0) p0a p0k p0w_213 p0l) ++ (oX6 (p1a 0) p1a p1k p1w p1l)) H → va_D A ((oX4 (p0a 0) p0a p0k p0w_213 p0l) ++ (oX6 (p1a 0) p1a p1k p1w p1l)) → va_S A s.heap H locs → lv_has ls 7 [(0, .ref (p0a 0)), (1, .ref (p1a 0)), (2, .int p2), (3, .int v3_213), (4, .int v4_26)] → W p l e ({ frames := 1, cells := 0, slots := 0, locals := 26 } : Room) s m ([.ref (p0a 0), .ref (p1a 0), .int p2] : List Value).toArray below meth c H locs 0 0 Q (F0 m 213 ls []) := by
          intro v3_213 p0w_213 H locs ls hrun hP hD hS hl
          unfold fX4_cutPieces_J213 at hrun
          refine lv_iinc (v := (v4_26 + 1)) (lv' := [(4, .int (v4_26 + 1)), (0, .ref (p0a 0)), (1, .ref (p1a 0)), (2, .int p2), (3, .int v3_213)]) hx hb dX4_cutPieces_213 hl (k := 4) rfl rfl (by decide) rfl (fun ls hl => ?_)
          refine lv_goto (tgt := 26) hx hb dX4_cutPieces_216 (by decide) ?_
          exact IH26 v3_213 (v4_26 + 1) p0w_213 o26 _ _ _ hrun hP hD hS (lv_sub hl [1, 2, 3, 4, 0] rfl) hk26
        rcases br9 hrun with ⟨hc8, hrun⟩ | ⟨hc8, hrun⟩
        · refine lv_icmp_ne (tgt := 77) hx hb dX4_cutPieces_58 (by decide) (fun c => absurd hc8 c) (fun _ => ?_)
          refine lv_aload_n hx hb dX4_cutPieces_61 rfl (lv_at hl 2 rfl) ?_
          refine lv_iload_n hx hb dX4_cutPieces_62 rfl (lv_at hl 5 rfl) ?_
          refine lv_iload hx hb dX4_cutPieces_63 (lv_at hl 6 rfl) ?_
          refine lv_iload hx hb dX4_cutPieces_65 (lv_at hl 0 rfl) ?_
          refine lv_iconst (v := (-1)) hx hb dX4_cutPieces_67 (by decide) ?_
          obtain ⟨o_9, hc_9, hrun⟩ := bnd9 hrun
          have hPc := hP.sub (ws' := (oX4 (p0a 0) p0a p0k p0w_26 p0l)) [0, 1, 2, 3, 4, 5, 6, 7, 8, 9, 10, 11, 12, 13, 14, 15, 16, 17, 18] rfl
          have hDc := hD.sub (ws' := (oX4 (p0a 0) p0a p0k p0w_26 p0l)) [0, 1, 2, 3, 4, 5, 6, 7, 8, 9, 10, 11, 12, 13, 14, 15, 16, 17, 18] (by decide) rfl
          have hKc := hK.sub (tys' := (tX4 p0k)) [0, 1, 2, 3, 4, 5, 6, 7, 8, 9, 10, 11, 12, 13, 14, 15, 16, 17] rfl
          have hFc := va_free (wc := (oX4 (p0a 0) p0a p0k p0w_26 p0l)) hD hS hA [0, 1, 2, 3, 4, 5, 6, 7, 8, 9, 10, 11, 12, 13, 14, 15, 16, 17, 18] rfl
          refine va_callv (va_runV (As := [.int v3_26, .int v4_26, .int ((p0w_26 0 5) + 1), .int (-1)]) (rest := []) ⟨hx, hb, hml, hown, hts⟩ (kX4_addPiece l dC dI (p0a := (st0 (p0a 0) p0a)) (p0k := p0k) (p0w := p0w_26) (p0l := p0l) (p1 := v3_26) (p2 := v4_26) (p3 := ((p0w_26 0 5) + 1)) (p4 := (-1)) (sz := _) (o := o_9) (hrun := hc_9)) (cwV 4 hts (gi_V qw243 qw244 qw245 qw241 (gi_z qw242)) rfl rfl rfl (by decide +kernel) ⟨Nat.le_of_ble_eq_true rfl, Nat.le_of_ble_eq_true rfl⟩) ⟨PRE.blind, va_recv hKc hPc (ci := 6) (q0 := 0) rfl rfl, PRE.of hE hS hFc hPc hKc hDc⟩ rfl rfl hl.1 rfl (lv_room (Nat.le_of_ble_eq_true rfl)) dX4_cutPieces_68 ⟨Nat.le_of_ble_eq_true rfl, Nat.le_of_ble_eq_true rfl⟩) hS (fun q _ h => hFc q h) hFc (fun u t H locs ht hvm hw hB hz1 hk1 hS => ?_)
          obtain ⟨hP, hD, hK⟩ := JOIN (wr := (oX6 (p1a 0) p1a p1k p1w p1l)) hP hD hK [0, 1, 2, 3, 4, 5, 6, 7, 8, 9, 10, 11, 12, 13, 14, 15, 16, 17, 18] [19, 20, 21, 22, 23, 24, 25, 26, 27, 28, 29] [18, 19, 20, 21, 22, 23, 24, 25, 26, 27] rfl rfl (by decide) (by decide) rfl hk1 hFc ht hvm hB
          have hP : va_P (dC, dI) cls ((oX4 (p0a 0) p0a p0k o_9 p0l) ++ (oX6 (p1a 0) p1a p1k p1w p1l)) H := hP.sub [11, 12, 13, 14, 15, 16, 17, 18, 19, 20, 21, 22, 23, 24, 25, 26, 27, 28, 29, 0, 1, 2, 3, 4, 5, 6, 7, 8, 9, 10] rfl
          have hD : va_D A ((oX4 (p0a 0) p0a p0k o_9 p0l) ++ (oX6 (p1a 0) p1a p1k p1w p1l)) := hD.sub [11, 12, 13, 14, 15, 16, 17, 18, 19, 20, 21, 22, 23, 24, 25, 26, 27, 28, 29, 0, 1, 2, 3, 4, 5, 6, 7, 8, 9, 10] (by decide) rfl
          have hK : va_K (dC, dI) cls ((tX4 p0k) ++ (tX6 p1k)) s := hK.sub [10, 11, 12, 13, 14, 15, 16, 17, 18, 19, 20, 21, 22, 23, 24, 25, 26, 27, 0, 1, 2, 3, 4, 5, 6, 7, 8, 9] rfl
          refine lv_iload hx hb dX4_cutPieces_71 (lv_at hl 6 rfl) ?_
          refine lv_istore_n (lv' := [(3, .int v4_26), (6, .int ((p0w_26 0 5) + 1)), (5, .int (p1w 9 (nn v4_26))), (0, .ref (p0a 0)), (1, .ref (p1a 0)), (2, .int p2), (4, .int v4_26)]) hx hb dX4_cutPieces_73 rfl hl (by decide) rfl (fun ls hl => ?_)
          refine lv_goto (tgt := 213) hx hb dX4_cutPieces_74 (by decide) ?_
          exact J213 v4_26 o_9 _ _ _ hrun hP hD hS (lv_sub hl [3, 4, 5, 0, 6] rfl)
        · refine lv_icmp_ne (tgt := 77) hx hb dX4_cutPieces_58 (by decide) (fun _ => ?_) (fun c => absurd c hc8)
          refine lv_iload hx hb dX4_cutPieces_77 (lv_at hl 1 rfl) ?_
          refine lv_bipush (v := 22) hx hb dX4_cutPieces_79 (by decide) ?_
          rcases br9 hrun with ⟨hc10, hrun⟩ | ⟨hc10, hrun⟩
          · refine lv_icmp_ne (tgt := 114) hx hb dX4_cutPieces_81 (by decide) (fun c => absurd hc10 c) (fun _ => ?_)
            refine lv_aload_n hx hb dX4_cutPieces_84 rfl (lv_at hl 2 rfl) ?_
            refine lv_iload_n hx hb dX4_cutPieces_85 rfl (lv_at hl 5 rfl) ?_
            refine lv_iload hx hb dX4_cutPieces_86 (lv_at hl 6 rfl) ?_
            refine lv_iconst (v := 1) hx hb dX4_cutPieces_88 (by decide) ?_
            refine lv_iadd hx hb dX4_cutPieces_89 ?_
            refine lv_aload_n hx hb dX4_cutPieces_90 rfl (lv_at hl 2 rfl) ?_
            refine va_get (D := (dC, dI)) (ci := 6) (v := .ref (p0a 13)) (C := RX4) (T := TX4) (N := 20) hx hb hts i_X4 hown hK hP 0 rfl rfl 12 (by decide) (hts _ qw235) (fun _ h9 => h9) rfl dX4_cutPieces_91 ?_
            refine lv_aload_n hx hb dX4_cutPieces_94 rfl (lv_at hl 3 rfl) ?_
            refine va_get (D := (dC, dI)) (ci := 2) (v := .ref (p1a 10)) (C := RX6) (T := TX6) (N := 13) hx hb hts i_X6 hown hK hP 19 rfl rfl 9 (by decide) (hts _ qw236) (fun _ h9 => h9) rfl dX4_cutPieces_95 ?_
            refine lv_iload hx hb dX4_cutPieces_98 (lv_at hl 6 rfl) ?_
            obtain ⟨hq11, hrun⟩ := chk9 hrun
            refine va_iald hx hb hK hP 27 25 rfl rfl (ixb_in hq11) dX4_cutPieces_100 ?_
            obtain ⟨hq12, hrun⟩ := chk9 hrun
            refine va_iald hx hb hK hP 11 10 rfl rfl (ixb_in hq12) dX4_cutPieces_101 ?_
            refine lv_iconst (v := (-1)) hx hb dX4_cutPieces_102 (by decide) ?_
            obtain ⟨o_13, hc_13, hrun⟩ := bnd9 hrun
            have hPc := hP.sub (ws' := (oX4 (p0a 0) p0a p0k p0w_26 p0l)) [0, 1, 2, 3, 4, 5, 6, 7, 8, 9, 10, 11, 12, 13, 14, 15, 16, 17, 18] rfl
            have hDc := hD.sub (ws' := (oX4 (p0a 0) p0a p0k p0w_26 p0l)) [0, 1, 2, 3, 4, 5, 6, 7, 8, 9, 10, 11, 12, 13, 14, 15, 16, 17, 18] (by decide) rfl
            have hKc := hK.sub (tys' := (tX4 p0k)) [0, 1, 2, 3, 4, 5, 6, 7, 8, 9, 10, 11, 12, 13, 14, 15, 16, 17] rfl
            have hFc := va_free (wc := (oX4 (p0a 0) p0a p0k p0w_26 p0l)) hD hS hA [0, 1, 2, 3, 4, 5, 6, 7, 8, 9, 10, 11, 12, 13, 14, 15, 16, 17, 18] rfl
            refine va_callv (va_runV (As := [.int v3_26, .int (v4_26 + 1), .int (p0w_26 13 (nn (p1w 10 (nn v4_26)))), .int (-1)]) (rest := []) ⟨hx, hb, hml, hown, hts⟩ (kX4_addPiece l dC dI (p0a := (st0 (p0a 0) p0a)) (p0k := p0k) (p0w := p0w_26) (p0l := p0l) (p1 := v3_26) (p2 := (v4_26 + 1)) (p3 := (p0w_26 13 (nn (p1w 10 (nn v4_26))))) (p4 := (-1)) (sz := _) (o := o_13) (hrun := hc_13)) (cwV 4 hts (gi_V qw243 qw244 qw245 qw241 (gi_z qw242)) rfl rfl rfl (by decide +kernel) ⟨Nat.le_of_ble_eq_true rfl, Nat.le_of_ble_eq_true rfl⟩) ⟨PRE.blind, va_recv hKc hPc (ci := 6) (q0 := 0) rfl rfl, PRE.of hE hS hFc hPc hKc hDc⟩ rfl rfl hl.1 rfl (lv_room (Nat.le_of_ble_eq_true rfl)) dX4_cutPieces_103 ⟨Nat.le_of_ble_eq_true rfl, Nat.le_of_ble_eq_true rfl⟩) hS (fun q _ h => hFc q h) hFc (fun u t H locs ht hvm hw hB hz1 hk1 hS => ?_)
            obtain ⟨hP, hD, hK⟩ := JOIN (wr := (oX6 (p1a 0) p1a p1k p1w p1l)) hP hD hK [0, 1, 2, 3, 4, 5, 6, 7, 8, 9, 10, 11, 12, 13, 14, 15, 16, 17, 18] [19, 20, 21, 22, 23, 24, 25, 26, 27, 28, 29] [18, 19, 20, 21, 22, 23, 24, 25, 26, 27] rfl rfl (by decide) (by decide) rfl hk1 hFc ht hvm hB
            have hP : va_P (dC, dI) cls ((oX4 (p0a 0) p0a p0k o_13 p0l) ++ (oX6 (p1a 0) p1a p1k p1w p1l)) H := hP.sub [11, 12, 13, 14, 15, 16, 17, 18, 19, 20, 21, 22, 23, 24, 25, 26, 27, 28, 29, 0, 1, 2, 3, 4, 5, 6, 7, 8, 9, 10] rfl
            have hD : va_D A ((oX4 (p0a 0) p0a p0k o_13 p0l) ++ (oX6 (p1a 0) p1a p1k p1w p1l)) := hD.sub [11, 12, 13, 14, 15, 16, 17, 18, 19, 20, 21, 22, 23, 24, 25, 26, 27, 28, 29, 0, 1, 2, 3, 4, 5, 6, 7, 8, 9, 10] (by decide) rfl
            have hK : va_K (dC, dI) cls ((tX4 p0k) ++ (tX6 p1k)) s := hK.sub [10, 11, 12, 13, 14, 15, 16, 17, 18, 19, 20, 21, 22, 23, 24, 25, 26, 27, 0, 1, 2, 3, 4, 5, 6, 7, 8, 9] rfl
            refine lv_iload hx hb dX4_cutPieces_106 (lv_at hl 6 rfl) ?_
            refine lv_iconst (v := 1) hx hb dX4_cutPieces_108 (by decide) ?_
            refine lv_iadd hx hb dX4_cutPieces_109 ?_
            refine lv_istore_n (lv' := [(3, .int (v4_26 + 1)), (6, .int ((p0w_26 0 5) + 1)), (5, .int (p1w 9 (nn v4_26))), (0, .ref (p0a 0)), (1, .ref (p1a 0)), (2, .int p2), (4, .int v4_26)]) hx hb dX4_cutPieces_110 rfl hl (by decide) rfl (fun ls hl => ?_)
            refine lv_goto (tgt := 213) hx hb dX4_cutPieces_111 (by decide) ?_
            exact J213 (v4_26 + 1) o_13 _ _ _ hrun hP hD hS (lv_sub hl [3, 4, 5, 0, 6] rfl)
          · refine lv_icmp_ne (tgt := 114) hx hb dX4_cutPieces_81 (by decide) (fun _ => ?_) (fun c => absurd c hc10)
            refine lv_iload hx hb dX4_cutPieces_114 (lv_at hl 1 rfl) ?_
            refine lv_bipush (v := 33) hx hb dX4_cutPieces_116 (by decide) ?_
            rcases br9 hrun with ⟨hc14, hrun⟩ | ⟨hc14, hrun⟩
            · refine lv_icmp_ne (tgt := 152) hx hb dX4_cutPieces_118 (by decide) (fun c => absurd hc14 c) (fun _ => ?_)
              refine lv_aload_n hx hb dX4_cutPieces_121 rfl (lv_at hl 2 rfl) ?_
              refine lv_iload_n hx hb dX4_cutPieces_122 rfl (lv_at hl 5 rfl) ?_
              refine lv_iload hx hb dX4_cutPieces_123 (lv_at hl 6 rfl) ?_
              refine lv_iconst (v := 1) hx hb dX4_cutPieces_125 (by decide) ?_
              refine lv_iadd hx hb dX4_cutPieces_126 ?_
              refine lv_iload hx hb dX4_cutPieces_127 (lv_at hl 0 rfl) ?_
              refine lv_aload_n hx hb dX4_cutPieces_129 rfl (lv_at hl 2 rfl) ?_
              refine va_get (D := (dC, dI)) (ci := 6) (v := .ref (p0a 13)) (C := RX4) (T := TX4) (N := 20) hx hb hts i_X4 hown hK hP 0 rfl rfl 12 (by decide) (hts _ qw235) (fun _ h9 => h9) rfl dX4_cutPieces_130 ?_
              refine lv_aload_n hx hb dX4_cutPieces_133 rfl (lv_at hl 3 rfl) ?_
              refine va_get (D := (dC, dI)) (ci := 2) (v := .ref (p1a 10)) (C := RX6) (T := TX6) (N := 13) hx hb hts i_X6 hown hK hP 19 rfl rfl 9 (by decide) (hts _ qw236) (fun _ h9 => h9) rfl dX4_cutPieces_134 ?_
              refine lv_iload hx hb dX4_cutPieces_137 (lv_at hl 6 rfl) ?_
              obtain ⟨hq15, hrun⟩ := chk9 hrun
              refine va_iald hx hb hK hP 27 25 rfl rfl (ixb_in hq15) dX4_cutPieces_139 ?_
              obtain ⟨hq16, hrun⟩ := chk9 hrun
              refine va_iald hx hb hK hP 11 10 rfl rfl (ixb_in hq16) dX4_cutPieces_140 ?_
              obtain ⟨o_17, hc_17, hrun⟩ := bnd9 hrun
              have hPc := hP.sub (ws' := (oX4 (p0a 0) p0a p0k p0w_26 p0l)) [0, 1, 2, 3, 4, 5, 6, 7, 8, 9, 10, 11, 12, 13, 14, 15, 16, 17, 18] rfl
              have hDc := hD.sub (ws' := (oX4 (p0a 0) p0a p0k p0w_26 p0l)) [0, 1, 2, 3, 4, 5, 6, 7, 8, 9, 10, 11, 12, 13, 14, 15, 16, 17, 18] (by decide) rfl
              have hKc := hK.sub (tys' := (tX4 p0k)) [0, 1, 2, 3, 4, 5, 6, 7, 8, 9, 10, 11, 12, 13, 14, 15, 16, 17] rfl
              have hFc := va_free (wc := (oX4 (p0a 0) p0a p0k p0w_26 p0l)) hD hS hA [0, 1, 2, 3, 4, 5, 6, 7, 8, 9, 10, 11, 12, 13, 14, 15, 16, 17, 18] rfl
              refine va_callv (va_runV (As := [.int v3_26, .int (v4_26 + 1), .int ((p0w_26 0 5) + 1), .int (p0w_26 13 (nn (p1w 10 (nn v4_26))))]) (rest := []) ⟨hx, hb, hml, hown, hts⟩ (kX4_addPiece l dC dI (p0a := (st0 (p0a 0) p0a)) (p0k := p0k) (p0w := p0w_26) (p0l := p0l) (p1 := v3_26) (p2 := (v4_26 + 1)) (p3 := ((p0w_26 0 5) + 1)) (p4 := (p0w_26 13 (nn (p1w 10 (nn v4_26))))) (sz := _) (o := o_17) (hrun := hc_17)) (cwV 4 hts (gi_V qw243 qw244 qw245 qw241 (gi_z qw242)) rfl rfl rfl (by decide +kernel) ⟨Nat.le_of_ble_eq_true rfl, Nat.le_of_ble_eq_true rfl⟩) ⟨PRE.blind, va_recv hKc hPc (ci := 6) (q0 := 0) rfl rfl, PRE.of hE hS hFc hPc hKc hDc⟩ rfl rfl hl.1 rfl (lv_room (Nat.le_of_ble_eq_true rfl)) dX4_cutPieces_141 ⟨Nat.le_of_ble_eq_true rfl, Nat.le_of_ble_eq_true rfl⟩) hS (fun q _ h => hFc q h) hFc (fun u t H locs ht hvm hw hB hz1 hk1 hS => ?_)
              obtain ⟨hP, hD, hK⟩ := JOIN (wr := (oX6 (p1a 0) p1a p1k p1w p1l)) hP hD hK [0, 1, 2, 3, 4, 5, 6, 7, 8, 9, 10, 11, 12, 13, 14, 15, 16, 17, 18] [19, 20, 21, 22, 23, 24, 25, 26, 27, 28, 29] [18, 19, 20, 21, 22, 23, 24, 25, 26, 27] rfl rfl (by decide) (by decide) rfl hk1 hFc ht hvm hB
              have hP : va_P (dC, dI) cls ((oX4 (p0a 0) p0a p0k o_17 p0l) ++ (oX6 (p1a 0) p1a p1k p1w p1l)) H := hP.sub [11, 12, 13, 14, 15, 16, 17, 18, 19, 20, 21, 22, 23, 24, 25, 26, 27, 28, 29, 0, 1, 2, 3, 4, 5, 6, 7, 8, 9, 10] rfl
              have hD : va_D A ((oX4 (p0a 0) p0a p0k o_17 p0l) ++ (oX6 (p1a 0) p1a p1k p1w p1l)) := hD.sub [11, 12, 13, 14, 15, 16, 17, 18, 19, 20, 21, 22, 23, 24, 25, 26, 27, 28, 29, 0, 1, 2, 3, 4, 5, 6, 7, 8, 9, 10] (by decide) rfl
              have hK : va_K (dC, dI) cls ((tX4 p0k) ++ (tX6 p1k)) s := hK.sub [10, 11, 12, 13, 14, 15, 16, 17, 18, 19, 20, 21, 22, 23, 24, 25, 26, 27, 0, 1, 2, 3, 4, 5, 6, 7, 8, 9] rfl
              refine lv_iload hx hb dX4_cutPieces_144 (lv_at hl 6 rfl) ?_
              refine lv_iconst (v := 1) hx hb dX4_cutPieces_146 (by decide) ?_
              refine lv_iadd hx hb dX4_cutPieces_147 ?_
              refine lv_istore_n (lv' := [(3, .int (v4_26 + 1)), (6, .int ((p0w_26 0 5) + 1)), (5, .int (p1w 9 (nn v4_26))), (0, .ref (p0a 0)), (1, .ref (p1a 0)), (2, .int p2), (4, .int v4_26)]) hx hb dX4_cutPieces_148 rfl hl (by decide) rfl (fun ls hl => ?_)
              refine lv_goto (tgt := 213) hx hb dX4_cutPieces_149 (by decide) ?_
              exact J213 (v4_26 + 1) o_17 _ _ _ hrun hP hD hS (lv_sub hl [3, 4, 5, 0, 6] rfl)
            · refine lv_icmp_ne (tgt := 152) hx hb dX4_cutPieces_118 (by decide) (fun _ => ?_) (fun c => absurd c hc14)
              refine lv_iload hx hb dX4_cutPieces_152 (lv_at hl 1 rfl) ?_
              refine lv_bipush (v := 34) hx hb dX4_cutPieces_154 (by decide) ?_
              rcases br9 hrun with ⟨hc18, hrun⟩ | ⟨hc18, hrun⟩
              · refine lv_icmp_ne (tgt := 190) hx hb dX4_cutPieces_156 (by decide) (fun c => absurd hc18 c) (fun _ => ?_)
                refine lv_aload_n hx hb dX4_cutPieces_159 rfl (lv_at hl 2 rfl) ?_
                refine lv_iload_n hx hb dX4_cutPieces_160 rfl (lv_at hl 5 rfl) ?_
                refine lv_iload hx hb dX4_cutPieces_161 (lv_at hl 6 rfl) ?_
                refine lv_iconst (v := 1) hx hb dX4_cutPieces_163 (by decide) ?_
                refine lv_iadd hx hb dX4_cutPieces_164 ?_
                refine lv_aload_n hx hb dX4_cutPieces_165 rfl (lv_at hl 2 rfl) ?_
                refine va_get (D := (dC, dI)) (ci := 6) (v := .ref (p0a 13)) (C := RX4) (T := TX4) (N := 20) hx hb hts i_X4 hown hK hP 0 rfl rfl 12 (by decide) (hts _ qw235) (fun _ h9 => h9) rfl dX4_cutPieces_166 ?_
                refine lv_aload_n hx hb dX4_cutPieces_169 rfl (lv_at hl 3 rfl) ?_
                refine va_get (D := (dC, dI)) (ci := 2) (v := .ref (p1a 10)) (C := RX6) (T := TX6) (N := 13) hx hb hts i_X6 hown hK hP 19 rfl rfl 9 (by decide) (hts _ qw236) (fun _ h9 => h9) rfl dX4_cutPieces_170 ?_
                refine lv_iload hx hb dX4_cutPieces_173 (lv_at hl 6 rfl) ?_
                obtain ⟨hq19, hrun⟩ := chk9 hrun
                refine va_iald hx hb hK hP 27 25 rfl rfl (ixb_in hq19) dX4_cutPieces_175 ?_
                obtain ⟨hq20, hrun⟩ := chk9 hrun
                refine va_iald hx hb hK hP 11 10 rfl rfl (ixb_in hq20) dX4_cutPieces_176 ?_
                refine lv_iload hx hb dX4_cutPieces_177 (lv_at hl 0 rfl) ?_
                obtain ⟨o_21, hc_21, hrun⟩ := bnd9 hrun
                have hPc := hP.sub (ws' := (oX4 (p0a 0) p0a p0k p0w_26 p0l)) [0, 1, 2, 3, 4, 5, 6, 7, 8, 9, 10, 11, 12, 13, 14, 15, 16, 17, 18] rfl
                have hDc := hD.sub (ws' := (oX4 (p0a 0) p0a p0k p0w_26 p0l)) [0, 1, 2, 3, 4, 5, 6, 7, 8, 9, 10, 11, 12, 13, 14, 15, 16, 17, 18] (by decide) rfl
                have hKc := hK.sub (tys' := (tX4 p0k)) [0, 1, 2, 3, 4, 5, 6, 7, 8, 9, 10, 11, 12, 13, 14, 15, 16, 17] rfl
                have hFc := va_free (wc := (oX4 (p0a 0) p0a p0k p0w_26 p0l)) hD hS hA [0, 1, 2, 3, 4, 5, 6, 7, 8, 9, 10, 11, 12, 13, 14, 15, 16, 17, 18] rfl
                refine va_callv (va_runV (As := [.int v3_26, .int (v4_26 + 1), .int (p0w_26 13 (nn (p1w 10 (nn v4_26)))), .int ((p0w_26 0 5) + 1)]) (rest := []) ⟨hx, hb, hml, hown, hts⟩ (kX4_addPiece l dC dI (p0a := (st0 (p0a 0) p0a)) (p0k := p0k) (p0w := p0w_26) (p0l := p0l) (p1 := v3_26) (p2 := (v4_26 + 1)) (p3 := (p0w_26 13 (nn (p1w 10 (nn v4_26))))) (p4 := ((p0w_26 0 5) + 1)) (sz := _) (o := o_21) (hrun := hc_21)) (cwV 4 hts (gi_V qw243 qw244 qw245 qw241 (gi_z qw242)) rfl rfl rfl (by decide +kernel) ⟨Nat.le_of_ble_eq_true rfl, Nat.le_of_ble_eq_true rfl⟩) ⟨PRE.blind, va_recv hKc hPc (ci := 6) (q0 := 0) rfl rfl, PRE.of hE hS hFc hPc hKc hDc⟩ rfl rfl hl.1 rfl (lv_room (Nat.le_of_ble_eq_true rfl)) dX4_cutPieces_179 ⟨Nat.le_of_ble_eq_true rfl, Nat.le_of_ble_eq_true rfl⟩) hS (fun q _ h => hFc q h) hFc (fun u t H locs ht hvm hw hB hz1 hk1 hS => ?_)
                obtain ⟨hP, hD, hK⟩ := JOIN (wr := (oX6 (p1a 0) p1a p1k p1w p1l)) hP hD hK [0, 1, 2, 3, 4, 5, 6, 7, 8, 9, 10, 11, 12, 13, 14, 15, 16, 17, 18] [19, 20, 21, 22, 23, 24, 25, 26, 27, 28, 29] [18, 19, 20, 21, 22, 23, 24, 25, 26, 27] rfl rfl (by decide) (by decide) rfl hk1 hFc ht hvm hB
                have hP : va_P (dC, dI) cls ((oX4 (p0a 0) p0a p0k o_21 p0l) ++ (oX6 (p1a 0) p1a p1k p1w p1l)) H := hP.sub [11, 12, 13, 14, 15, 16, 17, 18, 19, 20, 21, 22, 23, 24, 25, 26, 27, 28, 29, 0, 1, 2, 3, 4, 5, 6, 7, 8, 9, 10] rfl
                have hD : va_D A ((oX4 (p0a 0) p0a p0k o_21 p0l) ++ (oX6 (p1a 0) p1a p1k p1w p1l)) := hD.sub [11, 12, 13, 14, 15, 16, 17, 18, 19, 20, 21, 22, 23, 24, 25, 26, 27, 28, 29, 0, 1, 2, 3, 4, 5, 6, 7, 8, 9, 10] (by decide) rfl
                have hK : va_K (dC, dI) cls ((tX4 p0k) ++ (tX6 p1k)) s := hK.sub [10, 11, 12, 13, 14, 15, 16, 17, 18, 19, 20, 21, 22, 23, 24, 25, 26, 27, 0, 1, 2, 3, 4, 5, 6, 7, 8, 9] rfl
                refine lv_iload hx hb dX4_cutPieces_182 (lv_at hl 6 rfl) ?_
                refine lv_iconst (v := 1) hx hb dX4_cutPieces_184 (by decide) ?_
                refine lv_iadd hx hb dX4_cutPieces_185 ?_
                refine lv_istore_n (lv' := [(3, .int (v4_26 + 1)), (6, .int ((p0w_26 0 5) + 1)), (5, .int (p1w 9 (nn v4_26))), (0, .ref (p0a 0)), (1, .ref (p1a 0)), (2, .int p2), (4, .int v4_26)]) hx hb dX4_cutPieces_186 rfl hl (by decide) rfl (fun ls hl => ?_)
                refine lv_goto (tgt := 213) hx hb dX4_cutPieces_187 (by decide) ?_
                exact J213 (v4_26 + 1) o_21 _ _ _ hrun hP hD hS (lv_sub hl [3, 4, 5, 0, 6] rfl)
              · refine lv_icmp_ne (tgt := 190) hx hb dX4_cutPieces_156 (by decide) (fun _ => ?_) (fun c => absurd c hc18)
                refine lv_iload hx hb dX4_cutPieces_190 (lv_at hl 1 rfl) ?_
                refine lv_bipush (v := 24) hx hb dX4_cutPieces_192 (by decide) ?_
                rcases br9 hrun with ⟨hc22, hrun⟩ | ⟨hc22, hrun⟩
                · refine lv_icmp_ne (tgt := 213) hx hb dX4_cutPieces_194 (by decide) (fun c => absurd hc22 c) (fun _ => ?_)
                  refine lv_aload_n hx hb dX4_cutPieces_197 rfl (lv_at hl 2 rfl) ?_
                  refine lv_iload_n hx hb dX4_cutPieces_198 rfl (lv_at hl 5 rfl) ?_
                  refine lv_iload hx hb dX4_cutPieces_199 (lv_at hl 6 rfl) ?_
                  refine lv_iconst (v := 1) hx hb dX4_cutPieces_201 (by decide) ?_
                  refine lv_iadd hx hb dX4_cutPieces_202 ?_
                  refine lv_iconst (v := (-1)) hx hb dX4_cutPieces_203 (by decide) ?_
                  refine lv_iconst (v := (-1)) hx hb dX4_cutPieces_204 (by decide) ?_
                  obtain ⟨o_23, hc_23, hrun⟩ := bnd9 hrun
                  have hPc := hP.sub (ws' := (oX4 (p0a 0) p0a p0k p0w_26 p0l)) [0, 1, 2, 3, 4, 5, 6, 7, 8, 9, 10, 11, 12, 13, 14, 15, 16, 17, 18] rfl
                  have hDc := hD.sub (ws' := (oX4 (p0a 0) p0a p0k p0w_26 p0l)) [0, 1, 2, 3, 4, 5, 6, 7, 8, 9, 10, 11, 12, 13, 14, 15, 16, 17, 18] (by decide) rfl
                  have hKc := hK.sub (tys' := (tX4 p0k)) [0, 1, 2, 3, 4, 5, 6, 7, 8, 9, 10, 11, 12, 13, 14, 15, 16, 17] rfl
                  have hFc := va_free (wc := (oX4 (p0a 0) p0a p0k p0w_26 p0l)) hD hS hA [0, 1, 2, 3, 4, 5, 6, 7, 8, 9, 10, 11, 12, 13, 14, 15, 16, 17, 18] rfl
                  refine va_callv (va_runV (As := [.int v3_26, .int (v4_26 + 1), .int (-1), .int (-1)]) (rest := []) ⟨hx, hb, hml, hown, hts⟩ (kX4_addPiece l dC dI (p0a := (st0 (p0a 0) p0a)) (p0k := p0k) (p0w := p0w_26) (p0l := p0l) (p1 := v3_26) (p2 := (v4_26 + 1)) (p3 := (-1)) (p4 := (-1)) (sz := _) (o := o_23) (hrun := hc_23)) (cwV 4 hts (gi_V qw243 qw244 qw245 qw241 (gi_z qw242)) rfl rfl rfl (by decide +kernel) ⟨Nat.le_of_ble_eq_true rfl, Nat.le_of_ble_eq_true rfl⟩) ⟨PRE.blind, va_recv hKc hPc (ci := 6) (q0 := 0) rfl rfl, PRE.of hE hS hFc hPc hKc hDc⟩ rfl rfl hl.1 rfl (lv_room (Nat.le_of_ble_eq_true rfl)) dX4_cutPieces_205 ⟨Nat.le_of_ble_eq_true rfl, Nat.le_of_ble_eq_true rfl⟩) hS (fun q _ h => hFc q h) hFc (fun u t H locs ht hvm hw hB hz1 hk1 hS => ?_)
                  obtain ⟨hP, hD, hK⟩ := JOIN (wr := (oX6 (p1a 0) p1a p1k p1w p1l)) hP hD hK [0, 1, 2, 3, 4, 5, 6, 7, 8, 9, 10, 11, 12, 13, 14, 15, 16, 17, 18] [19, 20, 21, 22, 23, 24, 25, 26, 27, 28, 29] [18, 19, 20, 21, 22, 23, 24, 25, 26, 27] rfl rfl (by decide) (by decide) rfl hk1 hFc ht hvm hB
                  have hP : va_P (dC, dI) cls ((oX4 (p0a 0) p0a p0k o_23 p0l) ++ (oX6 (p1a 0) p1a p1k p1w p1l)) H := hP.sub [11, 12, 13, 14, 15, 16, 17, 18, 19, 20, 21, 22, 23, 24, 25, 26, 27, 28, 29, 0, 1, 2, 3, 4, 5, 6, 7, 8, 9, 10] rfl
                  have hD : va_D A ((oX4 (p0a 0) p0a p0k o_23 p0l) ++ (oX6 (p1a 0) p1a p1k p1w p1l)) := hD.sub [11, 12, 13, 14, 15, 16, 17, 18, 19, 20, 21, 22, 23, 24, 25, 26, 27, 28, 29, 0, 1, 2, 3, 4, 5, 6, 7, 8, 9, 10] (by decide) rfl
                  have hK : va_K (dC, dI) cls ((tX4 p0k) ++ (tX6 p1k)) s := hK.sub [10, 11, 12, 13, 14, 15, 16, 17, 18, 19, 20, 21, 22, 23, 24, 25, 26, 27, 0, 1, 2, 3, 4, 5, 6, 7, 8, 9] rfl
                  refine lv_iload hx hb dX4_cutPieces_208 (lv_at hl 6 rfl) ?_
                  refine lv_iconst (v := 1) hx hb dX4_cutPieces_210 (by decide) ?_
                  refine lv_iadd hx hb dX4_cutPieces_211 ?_
                  refine lv_istore_n (lv' := [(3, .int (v4_26 + 1)), (6, .int ((p0w_26 0 5) + 1)), (5, .int (p1w 9 (nn v4_26))), (0, .ref (p0a 0)), (1, .ref (p1a 0)), (2, .int p2), (4, .int v4_26)]) hx hb dX4_cutPieces_212 rfl hl (by decide) rfl (fun ls hl => ?_)
                  exact J213 (v4_26 + 1) o_23 _ _ _ hrun hP hD hS (lv_sub hl [3, 4, 5, 0, 6] rfl)
                · refine lv_icmp_ne (tgt := 213) hx hb dX4_cutPieces_194 (by decide) (fun _ => ?_) (fun c => absurd c hc22)
                  exact J213 v3_26 p0w_26 _ _ _ hrun hP hD hS (lv_sub hl [2, 3, 4, 5, 6] rfl)
  obtain ⟨o26, hc26, hrun⟩ := bnd9 hrun
  refine L26 NF (p1w 6 (nn p2)) (p1w 6 (nn p2)) w2 o26 _ _ _ hc26 hP hD hS (lv_sub hl [2, 3, 4, 1, 0] rfl) ?_
  intro H locs ls hP hD hS hl
  have hl := hl
  have ho9 : o26 = o := Option.some.inj hrun
  have hP9 : va_P (dC, dI) cls ((oX4 (p0a 0) p0a p0k o p0l) ++ (oX6 (p1a 0) p1a p1k p1w p1l)) H := by first | exact hP | (rw [← ho9]; exact hP)
  have hD9 : va_D A ((oX4 (p0a 0) p0a p0k o p0l) ++ (oX6 (p1a 0) p1a p1k p1w p1l)) := by first | exact hD | (rw [← ho9]; exact hD)
  subst hQ
  exact W.vret hx hb hr (fun t ht hW => ⟨⟨(), rfl, trivial, ⟨by rw [ht]; exact hP9, va_K.moved hW.alike hK, hD9⟩⟩, hS.F ht⟩) hS.2.2 dX4_cutPieces_219
def fJ7_rangeCheck_23922 (p0 : Int32) (p1 : Int32) (p2 : Int32) : Option Unit := (if p1 ≤ p2 then (if 0 ≤ p1 then (if p2 ≤ p0 then some () else none) else none) else none)
set_option maxHeartbeats 16000000 in
set_option maxRecDepth 100000 in
theorem kJ7_rangeCheck_23922 {zs : Nat × Nat} (l : Launch) (dC : Nat → ClassId) (dI : Nat → Nat → Nat) (p0 : Int32) (p1 : Int32) (p2 : Int32) (sz : Nat) (o : Unit) (hrun : fJ7_rangeCheck_23922 p0 p1 p2 = some o) : Met l yJ7_rangeCheck_23922 (wz yJ7_rangeCheck_23922 cJ7_rangeCheck_23922 3 (Option.none : Option Jvm.ClassFile.FieldType)) ({ frames := 0, cells := 0, slots := 0, locals := 0 } : Room) (va_Pc [.int p0, .int p1, .int p2] (PRE zs dC dI ([] : va_W) ([] : List (ClassId × FieldType)) sz)) (va_Qv (fun (_ : Unit) => True) (fun _ t => POST dC dI ([] : va_W) ([] : List (ClassId × FieldType)) (va_A ([] : va_W) sz) t) (va_A ([] : va_W) sz)) 0 0 (va_A ([] : va_W) sz) := by
  refine Met.ofW (cc := cJ7_rangeCheck_23922) (maxL := 3) (ret := (Option.none : Option Jvm.ClassFile.FieldType)) (by decide) rfl ?_
  intro p e s m args below meth c s₁ B hml hv
  obtain ⟨rfl, hsz, hP, hK, hD0, hE⟩ := hv
  have hx := B.exec
  have hb := B.bytes
  have hr := B.returns
  have hts0 := atoms_spec (ws := wz yJ7_rangeCheck_23922 cJ7_rangeCheck_23922 3 (Option.none : Option Jvm.ClassFile.FieldType)) B.pre
  have hts : ∀ w ∈ gw, w.before _ s = true := fun w h => hts0 w (List.mem_cons_of_mem _ h)
  have hown : s.vm.findClass RJ7 = some m.cls := findClass_of_methodNamed B.named
  have hlocks := B.notSynchronized
  subst hsz
  have hD := hD0.self (sz := s.heap.size)
  refine gQ9 ?_
  intro Q hQ
  generalize hAe : va_A ([] : va_W) s.heap.size = A at hD hE hQ
  have hA : ∀ q : Nat, s.heap.size ≤ q → A q := fun q h => by rw [← hAe]; exact Or.inr h
  have hS : va_S A s.heap s.heap [] := va_S.rf
  have hP : va_P (dC, dI) cls ([] : va_W) s.heap := hP
  have hl := lv_entry ([.int p0, .int p1, .int p2]) (n := 3) (Nat.le_of_ble_eq_true rfl)
  rw [lg_entry_eq]
  generalize (lg_sl ([.int p0, .int p1, .int p2]) ++ List.replicate (3 - (lg_sl ([.int p0, .int p1, .int p2])).length) Slot.unset).toArray = ls at hl ⊢
  have hl : lv_has ls 3 [(0, .int p0), (1, .int p1), (2, .int p2)] := hl
  obtain ⟨H, hHe⟩ : ∃ H, H = s.heap := ⟨_, rfl⟩
  obtain ⟨locs, hle⟩ : ∃ locs : List Loc, locs = [] := ⟨_, rfl⟩
  rw [← hHe] at hP
  have hS : va_S A s.heap H locs := by rw [hHe, hle]; exact hS
  show W p l e ({ frames := 0, cells := 0, slots := 0, locals := 0 } : Room) s m ([.int p0, .int p1, .int p2] : List Value).toArray below meth c s.heap [] 0 0 Q (F0 m 0 ls [])
  rw [← hle]
  refine wH9 hHe ?_
  unfold fJ7_rangeCheck_23922 at hrun
  refine lv_iload_n hx hb dJ7_rangeCheck_23922_0 rfl (lv_at hl 1 rfl) ?_
  refine lv_iload_n hx hb dJ7_rangeCheck_23922_1 rfl (lv_at hl 2 rfl) ?_
  rcases br9 hrun with ⟨hc1, hrun⟩ | ⟨hc1, hrun⟩
  · refine lv_icmp_le (tgt := 46) hx hb dJ7_rangeCheck_23922_2 (by decide) (fun _ => ?_) (fun c => absurd hc1 c)
    refine lv_iload_n hx hb dJ7_rangeCheck_23922_46 rfl (lv_at hl 1 rfl) ?_
    rcases br9 hrun with ⟨hc2, hrun⟩ | ⟨hc2, hrun⟩
    · refine lv_if_ge (tgt := 59) hx hb dJ7_rangeCheck_23922_47 (by decide) (fun _ => ?_) (fun c => absurd hc2 c)
      refine lv_iload_n hx hb dJ7_rangeCheck_23922_59 rfl (lv_at hl 2 rfl) ?_
      refine lv_iload_n hx hb dJ7_rangeCheck_23922_60 rfl (lv_at hl 0 rfl) ?_
      rcases br9 hrun with ⟨hc3, hrun⟩ | ⟨hc3, hrun⟩
      · refine lv_icmp_le (tgt := 73) hx hb dJ7_rangeCheck_23922_61 (by decide) (fun _ => ?_) (fun c => absurd hc3 c)
        have ho9 : () = o := Option.some.inj hrun
        have hP9 : va_P (dC, dI) cls ([] : va_W) H := by first | exact hP | (rw [← ho9]; exact hP)
        have hD9 : va_D A ([] : va_W) := by first | exact hD | (rw [← ho9]; exact hD)
        subst hQ
        exact W.vret hx hb hr (fun t ht hW => ⟨⟨(), rfl, trivial, ⟨by rw [ht]; exact hP9, va_K.moved hW.alike hK, hD9⟩⟩, hS.F ht⟩) hS.2.2 dJ7_rangeCheck_23922_73
      · refine lv_icmp_le (tgt := 73) hx hb dJ7_rangeCheck_23922_61 (by decide) (fun c => absurd c hc3) (fun _ => ?_)
        cases hrun
    · refine lv_if_ge (tgt := 59) hx hb dJ7_rangeCheck_23922_47 (by decide) (fun c => absurd c hc2) (fun _ => ?_)
      cases hrun
  · refine lv_icmp_le (tgt := 46) hx hb dJ7_rangeCheck_23922_2 (by decide) (fun c => absurd c hc1) (fun _ => ?_)
    cases hrun
def fJ7_fill_fda19_L10 (p0n : Nat) (p2 : Int32) (p3 : Int32) : Nat → Int32 → RI → Option RI
  | 0 => fun _ _ => none
  | n_10 + 1 => fun v4_10 p0f_10 => (if p2 ≤ v4_10 then some p0f_10 else (if ixb v4_10 p0n = true then (lt9 (upd p0f_10 (nn v4_10) p3) fun (f4 : RI) => ((fJ7_fill_fda19_L10 p0n p2 p3 n_10) (v4_10 + 1) f4)) else none))
def fJ7_fill_fda19 (p0n : Nat) (p0f : RI) (p1 : Int32) (p2 : Int32) (p3 : Int32) : Option RI := ((fJ7_rangeCheck_23922 (Int32.ofNat p0n) p1 p2).bind fun (o_1 : Unit) => ((fJ7_fill_fda19_L10 p0n p2 p3 NF p1 p0f).bind fun (o10 : RI) => some o10))
set_option maxHeartbeats 16000000 in
set_option maxRecDepth 100000 in
theorem kJ7_fill_fda19 {zs : Nat × Nat} (l : Launch) (dC : Nat → ClassId) (dI : Nat → Nat → Nat) (p0a : Nat) (p0k : ClassId) (p0n : Nat) (p0f : RI) (p1 : Int32) (p2 : Int32) (p3 : Int32) (sz : Nat) (o : RI) (hrun : fJ7_fill_fda19 p0n p0f p1 p2 p3 = some o) : Met l yJ7_fill_fda19 (wz yJ7_fill_fda19 cJ7_fill_fda19 5 (Option.none : Option Jvm.ClassFile.FieldType)) ({ frames := 1, cells := 0, slots := 0, locals := 22 } : Room) (va_Pc [.ref p0a, .int p1, .int p2, .int p3] (PRE zs dC dI [(p0a, .inl (p0k, p0n, .inl p0f))] [(p0k, .int)] sz)) (va_Qv (fun (_ : Unit) => True) (fun _ t => POST dC dI [(p0a, .inl (p0k, p0n, .inl o))] [(p0k, .int)] (va_A [(p0a, .inl (p0k, p0n, .inl p0f))] sz) t) (va_A [(p0a, .inl (p0k, p0n, .inl p0f))] sz)) 0 0 (va_A [(p0a, .inl (p0k, p0n, .inl p0f))] sz) := by
  refine Met.ofW (cc := cJ7_fill_fda19) (maxL := 5) (ret := (Option.none : Option Jvm.ClassFile.FieldType)) (by decide) rfl ?_
  intro p e s m args below meth c s₁ B hml hv
  obtain ⟨rfl, hsz, hP, hK, hD0, hE⟩ := hv
  have hx := B.exec
  have hb := B.bytes
  have hr := B.returns
  have hts0 := atoms_spec (ws := wz yJ7_fill_fda19 cJ7_fill_fda19 5 (Option.none : Option Jvm.ClassFile.FieldType)) B.pre
  have hts : ∀ w ∈ gw, w.before _ s = true := fun w h => hts0 w (List.mem_cons_of_mem _ h)
  have hown : s.vm.findClass RJ7 = some m.cls := findClass_of_methodNamed B.named
  have hlocks := B.notSynchronized
  subst hsz
  have hD := hD0.self (sz := s.heap.size)
  refine gQ9 ?_
  intro Q hQ
  generalize hAe : va_A [(p0a, .inl (p0k, p0n, .inl p0f))] s.heap.size = A at hD hE hQ
  have hA : ∀ q : Nat, s.heap.size ≤ q → A q := fun q h => by rw [← hAe]; exact Or.inr h
  have hS : va_S A s.heap s.heap [] := va_S.rf
  have hP : va_P (dC, dI) cls [(p0a, .inl (p0k, p0n, .inl p0f))] s.heap := hP
  have hl := lv_entry ([.ref p0a, .int p1, .int p2, .int p3]) (n := 5) (Nat.le_of_ble_eq_true rfl)
  rw [lg_entry_eq]
  generalize (lg_sl ([.ref p0a, .int p1, .int p2, .int p3]) ++ List.replicate (5 - (lg_sl ([.ref p0a, .int p1, .int p2, .int p3])).length) Slot.unset).toArray = ls at hl ⊢
  have hl : lv_has ls 5 [(0, .ref p0a), (1, .int p1), (2, .int p2), (3, .int p3)] := hl
  obtain ⟨H, hHe⟩ : ∃ H, H = s.heap := ⟨_, rfl⟩
  obtain ⟨locs, hle⟩ : ∃ locs : List Loc, locs = [] := ⟨_, rfl⟩
  rw [← hHe] at hP
  have hS : va_S A s.heap H locs := by rw [hHe, hle]; exact hS
  show W p l e ({ frames := 1, cells := 0, slots := 0, locals := 22 } : Room) s m ([.ref p0a, .int p1, .int p2, .int p3] : List Value).toArray below meth c s.heap [] 0 0 Q (F0 m 0 ls [])
  rw [← hle]
  refine wH9 hHe ?_
  unfold fJ7_fill_fda19 at hrun
  refine lv_aload_n hx hb dJ7_fill_fda19_0 rfl (lv_at hl 0 rfl) ?_
  refine va_alen (v := (Int32.ofNat p0n)) hx hb hK hP 0 0 rfl rfl rfl dJ7_fill_fda19_1 ?_
  refine lv_iload_n hx hb dJ7_fill_fda19_2 rfl (lv_at hl 1 rfl) ?_
  refine lv_iload_n hx hb dJ7_fill_fda19_3 rfl (lv_at hl 2 rfl) ?_
  obtain ⟨o_1, hc_1, hrun⟩ := bnd9 hrun
  have hPc := hP.sub (ws' := ([] : va_W)) [] rfl
  have hDc := hD.sub (ws' := ([] : va_W)) [] (by decide) rfl
  have hKc := hK.sub (tys' := ([] : List (ClassId × FieldType))) [] rfl
  have hFc := va_free (wc := ([] : va_W)) hD hS hA [] rfl
  refine va_callv (va_runS (As := [.int (Int32.ofNat p0n), .int p1, .int p2]) (rest := []) ⟨hx, hb, hml, hown, hts⟩ (kJ7_rangeCheck_23922 l dC dI (p0 := (Int32.ofNat p0n)) (p1 := p1) (p2 := p2) (sz := _) (o := o_1) (hrun := hc_1)) (va_cwS 3 hts (gi_S qw248 qw249 qw186 (gi_z qw247)) rfl rfl rfl (by decide +kernel) ⟨Nat.le_of_ble_eq_true rfl, Nat.le_of_ble_eq_true rfl⟩) ⟨PRE.blind, PRE.of hE hS hFc hPc hKc hDc⟩ rfl rfl hl.1 rfl (lv_room (Nat.le_of_ble_eq_true rfl)) dJ7_fill_fda19_4 ⟨Nat.le_of_ble_eq_true rfl, Nat.le_of_ble_eq_true rfl⟩) hS (fun q _ h => hFc q h) hFc (fun u t H locs ht hvm hw hB hz1 hk1 hS => ?_)
  obtain ⟨hP, hD, hK⟩ := JOIN (wr := [(p0a, .inl (p0k, p0n, .inl p0f))]) hP hD hK [] [0] [0] rfl rfl (by decide) (by decide) rfl hk1 hFc ht hvm hB
  have hP : va_P (dC, dI) cls [(p0a, .inl (p0k, p0n, .inl p0f))] H := hP.sub [0] rfl
  have hD : va_D A [(p0a, .inl (p0k, p0n, .inl p0f))] := hD.sub [0] (by decide) rfl
  have hK : va_K (dC, dI) cls [(p0k, .int)] s := hK.sub [0] rfl
  refine lv_iload_n hx hb dJ7_fill_fda19_7 rfl (lv_at hl 1 rfl) ?_
  refine lv_istore (lv' := [(4, .int p1), (0, .ref p0a), (1, .int p1), (2, .int p2), (3, .int p3)]) hx hb dJ7_fill_fda19_8 hl (by decide) rfl (fun ls hl => ?_)
  have L10 : ∀ (n_10 : Nat) (v4_10 : Int32) (p0f_10 : RI) (o10 : RI) (H : Heap) (locs : List Loc) (ls : Array Slot), (fJ7_fill_fda19_L10 p0n p2 p3 n_10) v4_10 p0f_10 = some o10 → va_P (dC, dI) cls [(p0a, .inl (p0k, p0n, .inl p0f_10))] H → va_D A [(p0a, .inl (p0k, p0n, .inl p0f_10))] → va_S A s.heap H locs → lv_has ls 5 [(0, .ref p0a), (2, .int p2), (3, .int p3), (4, .int v4_10)] → (∀ (H : Heap) (locs : List Loc) (ls : Array Slot), va_P (dC, dI) cls [(p0a, .inl (p0k, p0n, .inl o10))] H → va_D A [(p0a, .inl (p0k, p0n, .inl o10))] → va_S A s.heap H locs → lv_has ls 5 [] → W p l e ({ frames := 1, cells := 0, slots := 0, locals := 22 } : Room) s m ([.ref p0a, .int p1, .int p2, .int p3] : List Value).toArray below meth c H locs 0 0 Q (F0 m 27 ls [])) → W p l e ({ frames := 1, cells := 0, slots := 0, locals := 22 } : Room) s m ([.ref p0a, .int p1, .int p2, .int p3] : List Value).toArray below meth c H locs 0 0 Q (F0 m 10 ls []) := by
    intro n_10
    induction n_10 with
    | zero => intro v4_10 p0f_10 o10 H locs ls hrun; exact (no9 rfl hrun).elim
    | succ n_10 IH10 =>
      intro v4_10 p0f_10 o10 H locs ls hrun hP hD hS hl hk10
      unfold fJ7_fill_fda19_L10 at hrun
      refine lv_iload hx hb dJ7_fill_fda19_10 (lv_at hl 3 rfl) ?_
      refine lv_iload_n hx hb dJ7_fill_fda19_12 rfl (lv_at hl 1 rfl) ?_
      rcases br9 hrun with ⟨hc2, hrun⟩ | ⟨hc2, hrun⟩
      · refine lv_icmp_ge (tgt := 27) hx hb dJ7_fill_fda19_13 (by decide) (fun _ => ?_) (fun c => absurd hc2 c)
        obtain rfl := (Option.some.inj hrun)
        exact hk10 _ _ _ hP hD hS (lv_sub hl [] rfl)
      · refine lv_icmp_ge (tgt := 27) hx hb dJ7_fill_fda19_13 (by decide) (fun c => absurd c hc2) (fun _ => ?_)
        refine lv_aload_n hx hb dJ7_fill_fda19_16 rfl (lv_at hl 0 rfl) ?_
        refine lv_iload hx hb dJ7_fill_fda19_17 (lv_at hl 3 rfl) ?_
        refine lv_iload_n hx hb dJ7_fill_fda19_19 rfl (lv_at hl 2 rfl) ?_
        obtain ⟨hq3, hrun⟩ := chk9 hrun
        refine va_iast hx hb hK hP hD hS 0 0 rfl rfl (ixb_in hq3) dJ7_fill_fda19_20 (fun H locs hP hD hS => ?_)
        have hP : va_P (dC, dI) cls [(p0a, .inl (p0k, p0n, .inl (upd p0f_10 (nn v4_10) p3)))] H := hP
        have hD : va_D A [(p0a, .inl (p0k, p0n, .inl (upd p0f_10 (nn v4_10) p3)))] := hD
        obtain ⟨f4, ef4, hrun⟩ := let9 hrun
        rw [← ef4] at hP hD
        refine lv_iinc (v := (v4_10 + 1)) (lv' := [(4, .int (v4_10 + 1)), (0, .ref p0a), (2, .int p2), (3, .int p3)]) hx hb dJ7_fill_fda19_21 hl (k := 3) rfl rfl (by decide) rfl (fun ls hl => ?_)
        refine lv_goto (tgt := 10) hx hb dJ7_fill_fda19_24 (by decide) ?_
        exact IH10 (v4_10 + 1) f4 o10 _ _ _ hrun hP hD hS (lv_sub hl [1, 2, 3, 0] rfl) hk10
  obtain ⟨o10, hc10, hrun⟩ := bnd9 hrun
  refine L10 NF p1 p0f o10 _ _ _ hc10 hP hD hS (lv_sub hl [1, 3, 4, 0] rfl) ?_
  intro H locs ls hP hD hS hl
  have hl := hl
  have ho9 : o10 = o := Option.some.inj hrun
  have hP9 : va_P (dC, dI) cls [(p0a, .inl (p0k, p0n, .inl o))] H := by first | exact hP | (rw [← ho9]; exact hP)
  have hD9 : va_D A [(p0a, .inl (p0k, p0n, .inl o))] := by first | exact hD | (rw [← ho9]; exact hD)
  subst hQ
  exact W.vret hx hb hr (fun t ht hW => ⟨⟨(), rfl, trivial, ⟨by rw [ht]; exact hP9, va_K.moved hW.alike hK, hD9⟩⟩, hS.F ht⟩) hS.2.2 dJ7_fill_fda19_27
def fX4_opsFrom_J24 (y0_24 : Int32) : Option Int32 := some y0_24
def fX4_opsFrom (p0w : ST) (p1 : Int32) : Option Int32 := (if ixb p1 60 = true then (if 0 ≤ (p0w 15 (nn p1)) then (if ixb p1 60 = true then (if ixb (p0w 15 (nn p1)) 640 = true then (fX4_opsFrom_J24 (p0w 7 (nn (p0w 15 (nn p1))))) else none) else none) else (fX4_opsFrom_J24 0)) else none)
set_option maxHeartbeats 16000000 in
set_option maxRecDepth 100000 in
theorem kX4_opsFrom {zs : Nat × Nat} (l : Launch) (dC : Nat → ClassId) (dI : Nat → Nat → Nat) (p0a : Nat → Nat) (p0k : Nat → ClassId) (p0w : ST) (p0l : SL) (p1 : Int32) (sz : Nat) (o : Int32) (hrun : fX4_opsFrom p0w p1 = some o) : Met l yX4_opsFrom (wz yX4_opsFrom cX4_opsFrom 2 (Option.some Jvm.ClassFile.FieldType.int)) ({ frames := 0, cells := 0, slots := 0, locals := 0 } : Room) (va_Pc [.ref (p0a 0), .int p1] (PRE zs dC dI (oX4 (p0a 0) p0a p0k p0w p0l) (tX4 p0k) sz)) (va_Qi (fun (r : Int32) (_ : Unit) => r = o) (fun _ t => POST dC dI (oX4 (p0a 0) p0a p0k p0w p0l) (tX4 p0k) (va_A (oX4 (p0a 0) p0a p0k p0w p0l) sz) t) (va_A (oX4 (p0a 0) p0a p0k p0w p0l) sz)) 0 0 (va_A (oX4 (p0a 0) p0a p0k p0w p0l) sz) := by
  refine Met.ofW (cc := cX4_opsFrom) (maxL := 2) (ret := (Option.some Jvm.ClassFile.FieldType.int)) (by decide) rfl ?_
  intro p e s m args below meth c s₁ B hml hv
  obtain ⟨rfl, hsz, hP, hK, hD0, hE⟩ := hv
  have hx := B.exec
  have hb := B.bytes
  have hr := B.returns
  have hts0 := atoms_spec (ws := wz yX4_opsFrom cX4_opsFrom 2 (Option.some Jvm.ClassFile.FieldType.int)) B.pre
  have hts : ∀ w ∈ gw, w.before _ s = true := fun w h => hts0 w (List.mem_cons_of_mem _ h)
  have hown : s.vm.findClass RX4 = some m.cls := findClass_of_methodNamed B.named
  have hlocks := B.notSynchronized
  subst hsz
  have hD := hD0.self (sz := s.heap.size)
  refine gQ9 ?_
  intro Q hQ
  generalize hAe : va_A (oX4 (p0a 0) p0a p0k p0w p0l) s.heap.size = A at hD hE hQ
  have hA : ∀ q : Nat, s.heap.size ≤ q → A q := fun q h => by rw [← hAe]; exact Or.inr h
  have hS : va_S A s.heap s.heap [] := va_S.rf
  have hP : va_P (dC, dI) cls (oX4 (p0a 0) p0a p0k p0w p0l) s.heap := hP
  have hl := lv_entry ([.ref (p0a 0), .int p1]) (n := 2) (Nat.le_of_ble_eq_true rfl)
  rw [lg_entry_eq]
  generalize (lg_sl ([.ref (p0a 0), .int p1]) ++ List.replicate (2 - (lg_sl ([.ref (p0a 0), .int p1])).length) Slot.unset).toArray = ls at hl ⊢
  have hl : lv_has ls 2 [(0, .ref (p0a 0)), (1, .int p1)] := hl
  obtain ⟨H, hHe⟩ : ∃ H, H = s.heap := ⟨_, rfl⟩
  obtain ⟨locs, hle⟩ : ∃ locs : List Loc, locs = [] := ⟨_, rfl⟩
  rw [← hHe] at hP
  have hS : va_S A s.heap H locs := by rw [hHe, hle]; exact hS
  show W p l e ({ frames := 0, cells := 0, slots := 0, locals := 0 } : Room) s m ([.ref (p0a 0), .int p1] : List Value).toArray below meth c s.heap [] 0 0 Q (F0 m 0 ls [])
  rw [← hle]
  refine wH9 hHe ?_
  unfold fX4_opsFrom at hrun
  refine lv_aload_n hx hb dX4_opsFrom_0 rfl (lv_at hl 0 rfl) ?_
  refine va_get (D := (dC, dI)) (ci := 6) (v := .ref (p0a 15)) (C := RX4) (T := TX4) (N := 20) hx hb hts i_X4 hown hK hP 0 rfl rfl 14 (by decide) (hts _ qw257) (fun _ h9 => h9) rfl dX4_opsFrom_1 ?_
  refine lv_iload_n hx hb dX4_opsFrom_4 rfl (lv_at hl 1 rfl) ?_
  obtain ⟨hq1, hrun⟩ := chk9 hrun
  refine va_iald hx hb hK hP 13 12 rfl rfl (ixb_in hq1) dX4_opsFrom_5 ?_
  have J24 : ∀ (y0_24 : Int32) (H : Heap) (locs : List Loc) (ls : Array Slot), (fX4_opsFrom_J24 y0_24) = some o → va_P (dC, dI) cls (oX4 (p0a 0) p0a p0k p0w p0l) H → va_D A (oX4 (p0a 0) p0a p0k p0w p0l) → va_S A s.heap H locs → lv_has ls 2 [] → W p l e ({ frames := 0, cells := 0, slots := 0, locals := 0 } : Room) s m ([.ref (p0a 0), .int p1] : List Value).toArray below meth c H locs 0 0 Q (F0 m 24 ls [.int y0_24]) := by
    intro y0_24 H locs ls hrun hP hD hS hl
    unfold fX4_opsFrom_J24 at hrun
    have ho9 : y0_24 = o := Option.some.inj hrun
    have hP9 : va_P (dC, dI) cls (oX4 (p0a 0) p0a p0k p0w p0l) H := by first | exact hP | (rw [← ho9]; exact hP)
    have hD9 : va_D A (oX4 (p0a 0) p0a p0k p0w p0l) := by first | exact hD | (rw [← ho9]; exact hD)
    subst hQ
    exact W.iret (v := y0_24) hx hb hr (fun t ht hW => ⟨⟨y0_24, (), rfl, (by rw [← ho9]), ⟨by rw [ht]; exact hP9, va_K.moved hW.alike hK, hD9⟩⟩, hS.F ht⟩) hS.2.2 dX4_opsFrom_24
  rcases br9 hrun with ⟨hc2, hrun⟩ | ⟨hc2, hrun⟩
  · refine lv_if_ge (tgt := 13) hx hb dX4_opsFrom_6 (by decide) (fun _ => ?_) (fun c => absurd hc2 c)
    refine lv_aload_n hx hb dX4_opsFrom_13 rfl (lv_at hl 0 rfl) ?_
    refine va_get (D := (dC, dI)) (ci := 6) (v := .ref (p0a 7)) (C := RX4) (T := TX4) (N := 20) hx hb hts i_X4 hown hK hP 0 rfl rfl 6 (by decide) (hts _ qw227) (fun _ h9 => h9) rfl dX4_opsFrom_14 ?_
    refine lv_aload_n hx hb dX4_opsFrom_17 rfl (lv_at hl 0 rfl) ?_
    refine va_get (D := (dC, dI)) (ci := 6) (v := .ref (p0a 15)) (C := RX4) (T := TX4) (N := 20) hx hb hts i_X4 hown hK hP 0 rfl rfl 14 (by decide) (hts _ qw257) (fun _ h9 => h9) rfl dX4_opsFrom_18 ?_
    refine lv_iload_n hx hb dX4_opsFrom_21 rfl (lv_at hl 1 rfl) ?_
    obtain ⟨hq3, hrun⟩ := chk9 hrun
    refine va_iald hx hb hK hP 13 12 rfl rfl (ixb_in hq3) dX4_opsFrom_22 ?_
    obtain ⟨hq4, hrun⟩ := chk9 hrun
    refine va_iald hx hb hK hP 5 4 rfl rfl (ixb_in hq4) dX4_opsFrom_23 ?_
    exact J24 (p0w 7 (nn (p0w 15 (nn p1)))) _ _ _ hrun hP hD hS (lv_sub hl [] rfl)
  · refine lv_if_ge (tgt := 13) hx hb dX4_opsFrom_6 (by decide) (fun c => absurd c hc2) (fun _ => ?_)
    refine lv_iconst (v := 0) hx hb dX4_opsFrom_9 (by decide) ?_
    refine lv_goto (tgt := 24) hx hb dX4_opsFrom_10 (by decide) ?_
    exact J24 0 _ _ _ hrun hP hD hS (lv_sub hl [] rfl)
def fX4_opsTo_J24 (y0_24 : Int32) : Option Int32 := some y0_24
def fX4_opsTo (p0w : ST) (p1 : Int32) : Option Int32 := (if ixb p1 60 = true then (if 0 ≤ (p0w 15 (nn p1)) then (if ixb p1 60 = true then (if ixb (p0w 15 (nn p1)) 640 = true then (fX4_opsTo_J24 (p0w 8 (nn (p0w 15 (nn p1))))) else none) else none) else (fX4_opsTo_J24 0)) else none)
set_option maxHeartbeats 16000000 in
set_option maxRecDepth 100000 in
theorem kX4_opsTo {zs : Nat × Nat} (l : Launch) (dC : Nat → ClassId) (dI : Nat → Nat → Nat) (p0a : Nat → Nat) (p0k : Nat → ClassId) (p0w : ST) (p0l : SL) (p1 : Int32) (sz : Nat) (o : Int32) (hrun : fX4_opsTo p0w p1 = some o) : Met l yX4_opsTo (wz yX4_opsTo cX4_opsTo 2 (Option.some Jvm.ClassFile.FieldType.int)) ({ frames := 0, cells := 0, slots := 0, locals := 0 } : Room) (va_Pc [.ref (p0a 0), .int p1] (PRE zs dC dI (oX4 (p0a 0) p0a p0k p0w p0l) (tX4 p0k) sz)) (va_Qi (fun (r : Int32) (_ : Unit) => r = o) (fun _ t => POST dC dI (oX4 (p0a 0) p0a p0k p0w p0l) (tX4 p0k) (va_A (oX4 (p0a 0) p0a p0k p0w p0l) sz) t) (va_A (oX4 (p0a 0) p0a p0k p0w p0l) sz)) 0 0 (va_A (oX4 (p0a 0) p0a p0k p0w p0l) sz) := by
  refine Met.ofW (cc := cX4_opsTo) (maxL := 2) (ret := (Option.some Jvm.ClassFile.FieldType.int)) (by decide) rfl ?_
  intro p e s m args below meth c s₁ B hml hv
  obtain ⟨rfl, hsz, hP, hK, hD0, hE⟩ := hv
  have hx := B.exec
  have hb := B.bytes
  have hr := B.returns
  have hts0 := atoms_spec (ws := wz yX4_opsTo cX4_opsTo 2 (Option.some Jvm.ClassFile.FieldType.int)) B.pre
  have hts : ∀ w ∈ gw, w.before _ s = true := fun w h => hts0 w (List.mem_cons_of_mem _ h)
  have hown : s.vm.findClass RX4 = some m.cls := findClass_of_methodNamed B.named
  have hlocks := B.notSynchronized
  subst hsz
  have hD := hD0.self (sz := s.heap.size)
  refine gQ9 ?_
  intro Q hQ
  generalize hAe : va_A (oX4 (p0a 0) p0a p0k p0w p0l) s.heap.size = A at hD hE hQ
  have hA : ∀ q : Nat, s.heap.size ≤ q → A q := fun q h => by rw [← hAe]; exact Or.inr h
  have hS : va_S A s.heap s.heap [] := va_S.rf
  have hP : va_P (dC, dI) cls (oX4 (p0a 0) p0a p0k p0w p0l) s.heap := hP
  have hl := lv_entry ([.ref (p0a 0), .int p1]) (n := 2) (Nat.le_of_ble_eq_true rfl)
  rw [lg_entry_eq]
  generalize (lg_sl ([.ref (p0a 0), .int p1]) ++ List.replicate (2 - (lg_sl ([.ref (p0a 0), .int p1])).length) Slot.unset).toArray = ls at hl ⊢
  have hl : lv_has ls 2 [(0, .ref (p0a 0)), (1, .int p1)] := hl
  obtain ⟨H, hHe⟩ : ∃ H, H = s.heap := ⟨_, rfl⟩
  obtain ⟨locs, hle⟩ : ∃ locs : List Loc, locs = [] := ⟨_, rfl⟩
  rw [← hHe] at hP
  have hS : va_S A s.heap H locs := by rw [hHe, hle]; exact hS
  show W p l e ({ frames := 0, cells := 0, slots := 0, locals := 0 } : Room) s m ([.ref (p0a 0), .int p1] : List Value).toArray below meth c s.heap [] 0 0 Q (F0 m 0 ls [])
  rw [← hle]
  refine wH9 hHe ?_
  unfold fX4_opsTo at hrun
  refine lv_aload_n hx hb dX4_opsTo_0 rfl (lv_at hl 0 rfl) ?_
  refine va_get (D := (dC, dI)) (ci := 6) (v := .ref (p0a 15)) (C := RX4) (T := TX4) (N := 20) hx hb hts i_X4 hown hK hP 0 rfl rfl 14 (by decide) (hts _ qw257) (fun _ h9 => h9) rfl dX4_opsTo_1 ?_
  refine lv_iload_n hx hb dX4_opsTo_4 rfl (lv_at hl 1 rfl) ?_
  obtain ⟨hq1, hrun⟩ := chk9 hrun
  refine va_iald hx hb hK hP 13 12 rfl rfl (ixb_in hq1) dX4_opsTo_5 ?_
  have J24 : ∀ (y0_24 : Int32) (H : Heap) (locs : List Loc) (ls : Array Slot), (fX4_opsTo_J24 y0_24) = some o → va_P (dC, dI) cls (oX4 (p0a 0) p0a p0k p0w p0l) H → va_D A (oX4 (p0a 0) p0a p0k p0w p0l) → va_S A s.heap H locs → lv_has ls 2 [] → W p l e ({ frames := 0, cells := 0, slots := 0, locals := 0 } : Room) s m ([.ref (p0a 0), .int p1] : List Value).toArray below meth c H locs 0 0 Q (F0 m 24 ls [.int y0_24]) := by
    intro y0_24 H locs ls hrun hP hD hS hl
    unfold fX4_opsTo_J24 at hrun
    have ho9 : y0_24 = o := Option.some.inj hrun
    have hP9 : va_P (dC, dI) cls (oX4 (p0a 0) p0a p0k p0w p0l) H := by first | exact hP | (rw [← ho9]; exact hP)
    have hD9 : va_D A (oX4 (p0a 0) p0a p0k p0w p0l) := by first | exact hD | (rw [← ho9]; exact hD)
    subst hQ
    exact W.iret (v := y0_24) hx hb hr (fun t ht hW => ⟨⟨y0_24, (), rfl, (by rw [← ho9]), ⟨by rw [ht]; exact hP9, va_K.moved hW.alike hK, hD9⟩⟩, hS.F ht⟩) hS.2.2 dX4_opsTo_24
  rcases br9 hrun with ⟨hc2, hrun⟩ | ⟨hc2, hrun⟩
  · refine lv_if_ge (tgt := 13) hx hb dX4_opsTo_6 (by decide) (fun _ => ?_) (fun c => absurd hc2 c)
    refine lv_aload_n hx hb dX4_opsTo_13 rfl (lv_at hl 0 rfl) ?_
    refine va_get (D := (dC, dI)) (ci := 6) (v := .ref (p0a 8)) (C := RX4) (T := TX4) (N := 20) hx hb hts i_X4 hown hK hP 0 rfl rfl 7 (by decide) (hts _ qw228) (fun _ h9 => h9) rfl dX4_opsTo_14 ?_
    refine lv_aload_n hx hb dX4_opsTo_17 rfl (lv_at hl 0 rfl) ?_
    refine va_get (D := (dC, dI)) (ci := 6) (v := .ref (p0a 15)) (C := RX4) (T := TX4) (N := 20) hx hb hts i_X4 hown hK hP 0 rfl rfl 14 (by decide) (hts _ qw257) (fun _ h9 => h9) rfl dX4_opsTo_18 ?_
    refine lv_iload_n hx hb dX4_opsTo_21 rfl (lv_at hl 1 rfl) ?_
    obtain ⟨hq3, hrun⟩ := chk9 hrun
    refine va_iald hx hb hK hP 13 12 rfl rfl (ixb_in hq3) dX4_opsTo_22 ?_
    obtain ⟨hq4, hrun⟩ := chk9 hrun
    refine va_iald hx hb hK hP 6 5 rfl rfl (ixb_in hq4) dX4_opsTo_23 ?_
    exact J24 (p0w 8 (nn (p0w 15 (nn p1)))) _ _ _ hrun hP hD hS (lv_sub hl [] rfl)
  · refine lv_if_ge (tgt := 13) hx hb dX4_opsTo_6 (by decide) (fun c => absurd c hc2) (fun _ => ?_)
    refine lv_iconst (v := 0) hx hb dX4_opsTo_9 (by decide) ?_
    refine lv_goto (tgt := 24) hx hb dX4_opsTo_10 (by decide) ?_
    exact J24 0 _ _ _ hrun hP hD hS (lv_sub hl [] rfl)
def fX4_valueAt_J14 (y0_14 : Int32) : Option Int32 := some y0_14
def fX4_valueAt (p0w : ST) (p1 : Int32) : Option Int32 := (if 0 ≤ p1 then (if ixb p1 3200 = true then (fX4_valueAt_J14 (p0w 4 (nn p1))) else none) else (fX4_valueAt_J14 (-1)))
set_option maxHeartbeats 16000000 in
set_option maxRecDepth 100000 in
theorem kX4_valueAt {zs : Nat × Nat} (l : Launch) (dC : Nat → ClassId) (dI : Nat → Nat → Nat) (p0a : Nat → Nat) (p0k : Nat → ClassId) (p0w : ST) (p0l : SL) (p1 : Int32) (sz : Nat) (o : Int32) (hrun : fX4_valueAt p0w p1 = some o) : Met l yX4_valueAt (wz yX4_valueAt cX4_valueAt 2 (Option.some Jvm.ClassFile.FieldType.int)) ({ frames := 0, cells := 0, slots := 0, locals := 0 } : Room) (va_Pc [.ref (p0a 0), .int p1] (PRE zs dC dI (oX4 (p0a 0) p0a p0k p0w p0l) (tX4 p0k) sz)) (va_Qi (fun (r : Int32) (_ : Unit) => r = o) (fun _ t => POST dC dI (oX4 (p0a 0) p0a p0k p0w p0l) (tX4 p0k) (va_A (oX4 (p0a 0) p0a p0k p0w p0l) sz) t) (va_A (oX4 (p0a 0) p0a p0k p0w p0l) sz)) 0 0 (va_A (oX4 (p0a 0) p0a p0k p0w p0l) sz) := by
  refine Met.ofW (cc := cX4_valueAt) (maxL := 2) (ret := (Option.some Jvm.ClassFile.FieldType.int)) (by decide) rfl ?_
  intro p e s m args below meth c s₁ B hml hv
  obtain ⟨rfl, hsz, hP, hK, hD0, hE⟩ := hv
  have hx := B.exec
  have hb := B.bytes
  have hr := B.returns
  have hts0 := atoms_spec (ws := wz yX4_valueAt cX4_valueAt 2 (Option.some Jvm.ClassFile.FieldType.int)) B.pre
  have hts : ∀ w ∈ gw, w.before _ s = true := fun w h => hts0 w (List.mem_cons_of_mem _ h)
  have hown : s.vm.findClass RX4 = some m.cls := findClass_of_methodNamed B.named
  have hlocks := B.notSynchronized
  subst hsz
  have hD := hD0.self (sz := s.heap.size)
  refine gQ9 ?_
  intro Q hQ
  generalize hAe : va_A (oX4 (p0a 0) p0a p0k p0w p0l) s.heap.size = A at hD hE hQ
  have hA : ∀ q : Nat, s.heap.size ≤ q → A q := fun q h => by rw [← hAe]; exact Or.inr h
  have hS : va_S A s.heap s.heap [] := va_S.rf
  have hP : va_P (dC, dI) cls (oX4 (p0a 0) p0a p0k p0w p0l) s.heap := hP
  have hl := lv_entry ([.ref (p0a 0), .int p1]) (n := 2) (Nat.le_of_ble_eq_true rfl)
  rw [lg_entry_eq]
  generalize (lg_sl ([.ref (p0a 0), .int p1]) ++ List.replicate (2 - (lg_sl ([.ref (p0a 0), .int p1])).length) Slot.unset).toArray = ls at hl ⊢
  have hl : lv_has ls 2 [(0, .ref (p0a 0)), (1, .int p1)] := hl
  obtain ⟨H, hHe⟩ : ∃ H, H = s.heap := ⟨_, rfl⟩
  obtain ⟨locs, hle⟩ : ∃ locs : List Loc, locs = [] := ⟨_, rfl⟩
  rw [← hHe] at hP
  have hS : va_S A s.heap H locs := by rw [hHe, hle]; exact hS
  show W p l e ({ frames := 0, cells := 0, slots := 0, locals := 0 } : Room) s m ([.ref (p0a 0), .int p1] : List Value).toArray below meth c s.heap [] 0 0 Q (F0 m 0 ls [])
  rw [← hle]
  refine wH9 hHe ?_
  unfold fX4_valueAt at hrun
  refine lv_iload_n hx hb dX4_valueAt_0 rfl (lv_at hl 1 rfl) ?_
  have J14 : ∀ (y0_14 : Int32) (H : Heap) (locs : List Loc) (ls : Array Slot), (fX4_valueAt_J14 y0_14) = some o → va_P (dC, dI) cls (oX4 (p0a 0) p0a p0k p0w p0l) H → va_D A (oX4 (p0a 0) p0a p0k p0w p0l) → va_S A s.heap H locs → lv_has ls 2 [] → W p l e ({ frames := 0, cells := 0, slots := 0, locals := 0 } : Room) s m ([.ref (p0a 0), .int p1] : List Value).toArray below meth c H locs 0 0 Q (F0 m 14 ls [.int y0_14]) := by
    intro y0_14 H locs ls hrun hP hD hS hl
    unfold fX4_valueAt_J14 at hrun
    have ho9 : y0_14 = o := Option.some.inj hrun
    have hP9 : va_P (dC, dI) cls (oX4 (p0a 0) p0a p0k p0w p0l) H := by first | exact hP | (rw [← ho9]; exact hP)
    have hD9 : va_D A (oX4 (p0a 0) p0a p0k p0w p0l) := by first | exact hD | (rw [← ho9]; exact hD)
    subst hQ
    exact W.iret (v := y0_14) hx hb hr (fun t ht hW => ⟨⟨y0_14, (), rfl, (by rw [← ho9]), ⟨by rw [ht]; exact hP9, va_K.moved hW.alike hK, hD9⟩⟩, hS.F ht⟩) hS.2.2 dX4_valueAt_14
  rcases br9 hrun with ⟨hc1, hrun⟩ | ⟨hc1, hrun⟩
  · refine lv_if_ge (tgt := 8) hx hb dX4_valueAt_1 (by decide) (fun _ => ?_) (fun c => absurd hc1 c)
    refine lv_aload_n hx hb dX4_valueAt_8 rfl (lv_at hl 0 rfl) ?_
    refine va_get (D := (dC, dI)) (ci := 6) (v := .ref (p0a 4)) (C := RX4) (T := TX4) (N := 20) hx hb hts i_X4 hown hK hP 0 rfl rfl 3 (by decide) (hts _ qw266) (fun _ h9 => h9) rfl dX4_valueAt_9 ?_
    refine lv_iload_n hx hb dX4_valueAt_12 rfl (lv_at hl 1 rfl) ?_
    obtain ⟨hq2, hrun⟩ := chk9 hrun
    refine va_iald hx hb hK hP 3 2 rfl rfl (ixb_in hq2) dX4_valueAt_13 ?_
    exact J14 (p0w 4 (nn p1)) _ _ _ hrun hP hD hS (lv_sub hl [] rfl)
  · refine lv_if_ge (tgt := 8) hx hb dX4_valueAt_1 (by decide) (fun c => absurd c hc1) (fun _ => ?_)
    refine lv_iconst (v := (-1)) hx hb dX4_valueAt_4 (by decide) ?_
    refine lv_goto (tgt := 14) hx hb dX4_valueAt_5 (by decide) ?_
    exact J14 (-1) _ _ _ hrun hP hD hS (lv_sub hl [] rfl)
def fX11_givesValue_J27 (y0_27 : Int32) : Option Int32 := (if y0_27 = 0 ∨ y0_27 = 1 then some y0_27 else none)
def fX11_givesValue_J22  : Option Int32 := (fX11_givesValue_J27 1)
def fX11_givesValue_J10 (p0 : Int32) : Option Int32 := (if p0 = 20 then (fX11_givesValue_J22) else (if p0 = 21 then (fX11_givesValue_J22) else (fX11_givesValue_J27 0)))
def fX11_givesValue (p0 : Int32) : Option Int32 := (if p0 < 0 then (fX11_givesValue_J10 p0) else (if p0 ≤ 17 then (fX11_givesValue_J22) else (fX11_givesValue_J10 p0)))
set_option maxHeartbeats 16000000 in
set_option maxRecDepth 100000 in
theorem kX11_givesValue {zs : Nat × Nat} (l : Launch) (dC : Nat → ClassId) (dI : Nat → Nat → Nat) (p0 : Int32) (sz : Nat) (o : Int32) (hrun : fX11_givesValue p0 = some o) : Met l yX11_givesValue (wz yX11_givesValue cX11_givesValue 1 (Option.some Jvm.ClassFile.FieldType.boolean)) ({ frames := 0, cells := 0, slots := 0, locals := 0 } : Room) (va_Pc [.int p0] (PRE zs dC dI ([] : va_W) ([] : List (ClassId × FieldType)) sz)) (va_Qi (fun (r : Int32) (_ : Unit) => r = o) (fun _ t => POST dC dI ([] : va_W) ([] : List (ClassId × FieldType)) (va_A ([] : va_W) sz) t) (va_A ([] : va_W) sz)) 0 0 (va_A ([] : va_W) sz) := by
  refine Met.ofW (cc := cX11_givesValue) (maxL := 1) (ret := (Option.some Jvm.ClassFile.FieldType.boolean)) (by decide) rfl ?_
  intro p e s m args below meth c s₁ B hml hv
  obtain ⟨rfl, hsz, hP, hK, hD0, hE⟩ := hv
  have hx := B.exec
  have hb := B.bytes
  have hr := B.returns
  have hts0 := atoms_spec (ws := wz yX11_givesValue cX11_givesValue 1 (Option.some Jvm.ClassFile.FieldType.boolean)) B.pre
  have hts : ∀ w ∈ gw, w.before _ s = true := fun w h => hts0 w (List.mem_cons_of_mem _ h)
  have hown : s.vm.findClass RX11 = some m.cls := findClass_of_methodNamed B.named
  have hlocks := B.notSynchronized
  subst hsz
  have hD := hD0.self (sz := s.heap.size)
  refine gQ9 ?_
  intro Q hQ
  generalize hAe : va_A ([] : va_W) s.heap.size = A at hD hE hQ
  have hA : ∀ q : Nat, s.heap.size ≤ q → A q := fun q h => by rw [← hAe]; exact Or.inr h
  have hS : va_S A s.heap s.heap [] := va_S.rf
  have hP : va_P (dC, dI) cls ([] : va_W) s.heap := hP
  have hl := lv_entry ([.int p0]) (n := 1) (Nat.le_of_ble_eq_true rfl)
  rw [lg_entry_eq]
  generalize (lg_sl ([.int p0]) ++ List.replicate (1 - (lg_sl ([.int p0])).length) Slot.unset).toArray = ls at hl ⊢
  have hl : lv_has ls 1 [(0, .int p0)] := hl
  obtain ⟨H, hHe⟩ : ∃ H, H = s.heap := ⟨_, rfl⟩
  obtain ⟨locs, hle⟩ : ∃ locs : List Loc, locs = [] := ⟨_, rfl⟩
  rw [← hHe] at hP
  have hS : va_S A s.heap H locs := by rw [hHe, hle]; exact hS
  show W p l e ({ frames := 0, cells := 0, slots := 0, locals := 0 } : Room) s m ([.int p0] : List Value).toArray below meth c s.heap [] 0 0 Q (F0 m 0 ls [])
  rw [← hle]
  refine wH9 hHe ?_
  unfold fX11_givesValue at hrun
  refine lv_iload_n hx hb dX11_givesValue_0 rfl (lv_at hl 0 rfl) ?_
  have J27 : ∀ (y0_27 : Int32) (H : Heap) (locs : List Loc) (ls : Array Slot), (fX11_givesValue_J27 y0_27) = some o → va_P (dC, dI) cls ([] : va_W) H → va_D A ([] : va_W) → va_S A s.heap H locs → lv_has ls 1 [] → W p l e ({ frames := 0, cells := 0, slots := 0, locals := 0 } : Room) s m ([.int p0] : List Value).toArray below meth c H locs 0 0 Q (F0 m 27 ls [.int y0_27]) := by
    intro y0_27 H locs ls hrun hP hD hS hl
    unfold fX11_givesValue_J27 at hrun
    obtain ⟨hz9, hrun⟩ := chk9 hrun
    have ho9 : y0_27 = o := Option.some.inj hrun
    have hP9 : va_P (dC, dI) cls ([] : va_W) H := by first | exact hP | (rw [← ho9]; exact hP)
    have hD9 : va_D A ([] : va_W) := by first | exact hD | (rw [← ho9]; exact hD)
    subst hQ
    exact W.zret (v := y0_27) hx hb hr (bz9 hz9) (fun t ht hW => ⟨⟨y0_27, (), rfl, (by rw [← ho9]), ⟨by rw [ht]; exact hP9, va_K.moved hW.alike hK, hD9⟩⟩, hS.F ht⟩) hS.2.2 dX11_givesValue_27
  have J22 : ∀ (H : Heap) (locs : List Loc) (ls : Array Slot), (fX11_givesValue_J22) = some o → va_P (dC, dI) cls ([] : va_W) H → va_D A ([] : va_W) → va_S A s.heap H locs → lv_has ls 1 [] → W p l e ({ frames := 0, cells := 0, slots := 0, locals := 0 } : Room) s m ([.int p0] : List Value).toArray below meth c H locs 0 0 Q (F0 m 22 ls []) := by
    intro  H locs ls hrun hP hD hS hl
    unfold fX11_givesValue_J22 at hrun
    refine lv_iconst (v := 1) hx hb dX11_givesValue_22 (by decide) ?_
    refine lv_goto (tgt := 27) hx hb dX11_givesValue_23 (by decide) ?_
    exact J27 1 _ _ _ hrun hP hD hS (lv_sub hl [] rfl)
  have J10 : ∀ (H : Heap) (locs : List Loc) (ls : Array Slot), (fX11_givesValue_J10 p0) = some o → va_P (dC, dI) cls ([] : va_W) H → va_D A ([] : va_W) → va_S A s.heap H locs → lv_has ls 1 [(0, .int p0)] → W p l e ({ frames := 0, cells := 0, slots := 0, locals := 0 } : Room) s m ([.int p0] : List Value).toArray below meth c H locs 0 0 Q (F0 m 10 ls []) := by
    intro  H locs ls hrun hP hD hS hl
    unfold fX11_givesValue_J10 at hrun
    refine lv_iload_n hx hb dX11_givesValue_10 rfl (lv_at hl 0 rfl) ?_
    refine lv_bipush (v := 20) hx hb dX11_givesValue_11 (by decide) ?_
    rcases br9 hrun with ⟨hc1, hrun⟩ | ⟨hc1, hrun⟩
    · refine lv_icmp_eq (tgt := 22) hx hb dX11_givesValue_13 (by decide) (fun _ => ?_) (fun c => absurd hc1 c)
      exact J22 _ _ _ hrun hP hD hS (lv_sub hl [] rfl)
    · refine lv_icmp_eq (tgt := 22) hx hb dX11_givesValue_13 (by decide) (fun c => absurd c hc1) (fun _ => ?_)
      refine lv_iload_n hx hb dX11_givesValue_16 rfl (lv_at hl 0 rfl) ?_
      refine lv_bipush (v := 21) hx hb dX11_givesValue_17 (by decide) ?_
      rcases br9 hrun with ⟨hc2, hrun⟩ | ⟨hc2, hrun⟩
      · refine lv_icmp_ne (tgt := 26) hx hb dX11_givesValue_19 (by decide) (fun c => absurd hc2 c) (fun _ => ?_)
        exact J22 _ _ _ hrun hP hD hS (lv_sub hl [] rfl)
      · refine lv_icmp_ne (tgt := 26) hx hb dX11_givesValue_19 (by decide) (fun _ => ?_) (fun c => absurd c hc2)
        refine lv_iconst (v := 0) hx hb dX11_givesValue_26 (by decide) ?_
        exact J27 0 _ _ _ hrun hP hD hS (lv_sub hl [] rfl)
  rcases br9 hrun with ⟨hc3, hrun⟩ | ⟨hc3, hrun⟩
  · refine lv_if_lt (tgt := 10) hx hb dX11_givesValue_1 (by decide) (fun _ => ?_) (fun c => absurd hc3 c)
    exact J10 _ _ _ hrun hP hD hS (lv_sub hl [0] rfl)
  · refine lv_if_lt (tgt := 10) hx hb dX11_givesValue_1 (by decide) (fun c => absurd c hc3) (fun _ => ?_)
    refine lv_iload_n hx hb dX11_givesValue_4 rfl (lv_at hl 0 rfl) ?_
    refine lv_bipush (v := 17) hx hb dX11_givesValue_5 (by decide) ?_
    rcases br9 hrun with ⟨hc4, hrun⟩ | ⟨hc4, hrun⟩
    · refine lv_icmp_le (tgt := 22) hx hb dX11_givesValue_7 (by decide) (fun _ => ?_) (fun c => absurd hc4 c)
      exact J22 _ _ _ hrun hP hD hS (lv_sub hl [] rfl)
    · refine lv_icmp_le (tgt := 22) hx hb dX11_givesValue_7 (by decide) (fun c => absurd c hc4) (fun _ => ?_)
      exact J10 _ _ _ hrun hP hD hS (lv_sub hl [0] rfl)
def fX4_fillPhis_L24 (p0w : ST) (p1n : Nat → Nat) (v2_2 : Int32) (v3_17 : Int32) : Nat → Int32 → ST → Option ST
  | 0 => fun _ _ => none
  | n_24 + 1 => fun v4_24 p1w_24 => ((fX1_waysTo p1w_24 v2_2).bind fun (o_4 : Int32) => (if o_4 ≤ v4_24 then some p1w_24 else ((fX1_wayFrom p1w_24 v2_2 v4_24).bind fun (o_7 : Int32) => (if ixb v3_17 250 = true then (if ixb ((o_7 * 320) + (p0w 19 (nn v3_17))) 19200 = true then ((fX1_setTake p1n p1w_24 v3_17 o_7 (p0w 20 (nn ((o_7 * 320) + (p0w 19 (nn v3_17)))))).bind fun (o_11 : ST) => ((fX4_fillPhis_L24 p0w p1n v2_2 v3_17 n_24) (v4_24 + 1) o_11)) else none) else none))))
def fX4_fillPhis_L17 (p0w : ST) (p1n : Nat → Nat) (v2_2 : Int32) : Nat → Int32 → ST → Option ST
  | 0 => fun _ _ => none
  | n_17 + 1 => fun v3_17 p1w_17 => (if v3_17 < 0 then some p1w_17 else ((fX4_fillPhis_L24 p0w p1n v2_2 v3_17 NF 0 p1w_17).bind fun (o24 : ST) => (if ixb v3_17 (p1n 20) = true then ((fX4_fillPhis_L17 p0w p1n v2_2 n_17) (o24 20 (nn v3_17)) o24) else none)))
def fX4_fillPhis_L2 (p0w : ST) (p1n : Nat → Nat) : Nat → Int32 → ST → Option ST
  | 0 => fun _ _ => none
  | n_2 + 1 => fun v2_2 p1w_2 => (if (p1w_2 0 0) ≤ v2_2 then some p1w_2 else (if ixb v2_2 60 = true then ((fX4_fillPhis_L17 p0w p1n v2_2 NF (p1w_2 6 (nn v2_2)) p1w_2).bind fun (o17 : ST) => ((fX4_fillPhis_L2 p0w p1n n_2) (v2_2 + 1) o17)) else none))
def fX4_fillPhis (p0w : ST) (p1n : Nat → Nat) (p1w : ST) : Option ST := ((fX4_fillPhis_L2 p0w p1n NF 0 p1w).bind fun (o2 : ST) => some o2)
set_option maxHeartbeats 16000000 in
set_option maxRecDepth 100000 in
theorem kX4_fillPhis {zs : Nat × Nat} (l : Launch) (dC : Nat → ClassId) (dI : Nat → Nat → Nat) (p0a : Nat → Nat) (p0k : Nat → ClassId) (p0w : ST) (p0l : SL) (p1a : Nat → Nat) (p1k : Nat → ClassId) (p1n : Nat → Nat) (p1w : ST) (p1l : SL) (sz : Nat) (o : ST) (hrun : fX4_fillPhis p0w p1n p1w = some o) : Met l yX4_fillPhis (wz yX4_fillPhis cX4_fillPhis 6 (Option.none : Option Jvm.ClassFile.FieldType)) ({ frames := 1, cells := 0, slots := 0, locals := 23 } : Room) (va_Pc [.ref (p0a 0), .ref (p1a 0)] (PRE zs dC dI ((oX4 (p0a 0) p0a p0k p0w p0l) ++ (oX1 (p1a 0) p1a p1k p1n p1w p1l)) ((tX4 p0k) ++ (tX1 p1k)) sz)) (va_Qv (fun (_ : Unit) => True) (fun _ t => POST dC dI ((oX4 (p0a 0) p0a p0k p0w p0l) ++ (oX1 (p1a 0) p1a p1k p1n o p1l)) ((tX4 p0k) ++ (tX1 p1k)) (va_A ((oX4 (p0a 0) p0a p0k p0w p0l) ++ (oX1 (p1a 0) p1a p1k p1n p1w p1l)) sz) t) (va_A ((oX4 (p0a 0) p0a p0k p0w p0l) ++ (oX1 (p1a 0) p1a p1k p1n p1w p1l)) sz)) 0 0 (va_A ((oX4 (p0a 0) p0a p0k p0w p0l) ++ (oX1 (p1a 0) p1a p1k p1n p1w p1l)) sz) := by
  refine Met.ofW (cc := cX4_fillPhis) (maxL := 6) (ret := (Option.none : Option Jvm.ClassFile.FieldType)) (by decide) rfl ?_
  intro p e s m args below meth c s₁ B hml hv
  obtain ⟨rfl, hsz, hP, hK, hD0, hE⟩ := hv
  have hx := B.exec
  have hb := B.bytes
  have hr := B.returns
  have hts0 := atoms_spec (ws := wz yX4_fillPhis cX4_fillPhis 6 (Option.none : Option Jvm.ClassFile.FieldType)) B.pre
  have hts : ∀ w ∈ gw, w.before _ s = true := fun w h => hts0 w (List.mem_cons_of_mem _ h)
  have hown : s.vm.findClass RX4 = some m.cls := findClass_of_methodNamed B.named
  have hlocks := B.notSynchronized
  subst hsz
  have hD := hD0.self (sz := s.heap.size)
  refine gQ9 ?_
  intro Q hQ
  generalize hAe : va_A ((oX4 (p0a 0) p0a p0k p0w p0l) ++ (oX1 (p1a 0) p1a p1k p1n p1w p1l)) s.heap.size = A at hD hE hQ
  have hA : ∀ q : Nat, s.heap.size ≤ q → A q := fun q h => by rw [← hAe]; exact Or.inr h
  have hS : va_S A s.heap s.heap [] := va_S.rf
  have hP : va_P (dC, dI) cls ((oX4 (p0a 0) p0a p0k p0w p0l) ++ (oX1 (p1a 0) p1a p1k p1n p1w p1l)) s.heap := hP
  have hl := lv_entry ([.ref (p0a 0), .ref (p1a 0)]) (n := 6) (Nat.le_of_ble_eq_true rfl)
  rw [lg_entry_eq]
  generalize (lg_sl ([.ref (p0a 0), .ref (p1a 0)]) ++ List.replicate (6 - (lg_sl ([.ref (p0a 0), .ref (p1a 0)])).length) Slot.unset).toArray = ls at hl ⊢
  have hl : lv_has ls 6 [(0, .ref (p0a 0)), (1, .ref (p1a 0))] := hl
  obtain ⟨H, hHe⟩ : ∃ H, H = s.heap := ⟨_, rfl⟩
  obtain ⟨locs, hle⟩ : ∃ locs : List Loc, locs = [] := ⟨_, rfl⟩
  rw [← hHe] at hP
  have hS : va_S A s.heap H locs := by rw [hHe, hle]; exact hS
  show W p l e ({ frames := 1, cells := 0, slots := 0, locals := 23 } : Room) s m ([.ref (p0a 0), .ref (p1a 0)] : List Value).toArray below meth c s.heap [] 0 0 Q (F0 m 0 ls [])
  rw [← hle]
  refine wH9 hHe ?_
  unfold fX4_fillPhis at hrun
  refine lv_iconst (v := 0) hx hb dX4_fillPhis_0 (by decide) ?_
  refine lv_istore_n (lv' := [(2, .int 0), (0, .ref (p0a 0)), (1, .ref (p1a 0))]) hx hb dX4_fillPhis_1 rfl hl (by decide) rfl (fun ls hl => ?_)
  have L2 : ∀ (n_2 : Nat) (v2_2 : Int32) (p1w_2 : ST) (o2 : ST) (H : Heap) (locs : List Loc) (ls : Array Slot), (fX4_fillPhis_L2 p0w p1n n_2) v2_2 p1w_2 = some o2 → va_P (dC, dI) cls ((oX4 (p0a 0) p0a p0k p0w p0l) ++ (oX1 (p1a 0) p1a p1k p1n p1w_2 p1l)) H → va_D A ((oX4 (p0a 0) p0a p0k p0w p0l) ++ (oX1 (p1a 0) p1a p1k p1n p1w_2 p1l)) → va_S A s.heap H locs → lv_has ls 6 [(0, .ref (p0a 0)), (1, .ref (p1a 0)), (2, .int v2_2)] → (∀ (H : Heap) (locs : List Loc) (ls : Array Slot), va_P (dC, dI) cls ((oX4 (p0a 0) p0a p0k p0w p0l) ++ (oX1 (p1a 0) p1a p1k p1n o2 p1l)) H → va_D A ((oX4 (p0a 0) p0a p0k p0w p0l) ++ (oX1 (p1a 0) p1a p1k p1n o2 p1l)) → va_S A s.heap H locs → lv_has ls 6 [] → W p l e ({ frames := 1, cells := 0, slots := 0, locals := 23 } : Room) s m ([.ref (p0a 0), .ref (p1a 0)] : List Value).toArray below meth c H locs 0 0 Q (F0 m 90 ls [])) → W p l e ({ frames := 1, cells := 0, slots := 0, locals := 23 } : Room) s m ([.ref (p0a 0), .ref (p1a 0)] : List Value).toArray below meth c H locs 0 0 Q (F0 m 2 ls []) := by
    intro n_2
    induction n_2 with
    | zero => intro v2_2 p1w_2 o2 H locs ls hrun; exact (no9 rfl hrun).elim
    | succ n_2 IH2 =>
      intro v2_2 p1w_2 o2 H locs ls hrun hP hD hS hl hk2
      unfold fX4_fillPhis_L2 at hrun
      refine lv_iload_n hx hb dX4_fillPhis_2 rfl (lv_at hl 2 rfl) ?_
      refine lv_aload_n hx hb dX4_fillPhis_3 rfl (lv_at hl 1 rfl) ?_
      refine va_get (D := (dC, dI)) (ci := 4) (v := .int (p1w_2 0 0)) (C := RX1) (T := TX1) (N := 21) hx hb hts i_X1 hown hK hP 19 rfl rfl 0 (by decide) (hts _ qw276) (fun _ h9 => h9) rfl dX4_fillPhis_4 ?_
      rcases br9 hrun with ⟨hc1, hrun⟩ | ⟨hc1, hrun⟩
      · refine lv_icmp_ge (tgt := 90) hx hb dX4_fillPhis_7 (by decide) (fun _ => ?_) (fun c => absurd hc1 c)
        obtain rfl := (Option.some.inj hrun)
        exact hk2 _ _ _ hP hD hS (lv_sub hl [] rfl)
      · refine lv_icmp_ge (tgt := 90) hx hb dX4_fillPhis_7 (by decide) (fun c => absurd c hc1) (fun _ => ?_)
        refine lv_aload_n hx hb dX4_fillPhis_10 rfl (lv_at hl 1 rfl) ?_
        refine va_get (D := (dC, dI)) (ci := 4) (v := .ref (p1a 6)) (C := RX1) (T := TX1) (N := 21) hx hb hts i_X1 hown hK hP 19 rfl rfl 5 (by decide) (hts _ qw253) (fun _ h9 => h9) rfl dX4_fillPhis_11 ?_
        refine lv_iload_n hx hb dX4_fillPhis_14 rfl (lv_at hl 2 rfl) ?_
        obtain ⟨hq2, hrun⟩ := chk9 hrun
        refine va_iald hx hb hK hP 22 20 rfl rfl (ixb_in hq2) dX4_fillPhis_15 ?_
        refine lv_istore_n (lv' := [(3, .int (p1w_2 6 (nn v2_2))), (0, .ref (p0a 0)), (1, .ref (p1a 0)), (2, .int v2_2)]) hx hb dX4_fillPhis_16 rfl hl (by decide) rfl (fun ls hl => ?_)
        have L17 : ∀ (n_17 : Nat) (v3_17 : Int32) (p1w_17 : ST) (o17 : ST) (H : Heap) (locs : List Loc) (ls : Array Slot), (fX4_fillPhis_L17 p0w p1n v2_2 n_17) v3_17 p1w_17 = some o17 → va_P (dC, dI) cls ((oX4 (p0a 0) p0a p0k p0w p0l) ++ (oX1 (p1a 0) p1a p1k p1n p1w_17 p1l)) H → va_D A ((oX4 (p0a 0) p0a p0k p0w p0l) ++ (oX1 (p1a 0) p1a p1k p1n p1w_17 p1l)) → va_S A s.heap H locs → lv_has ls 6 [(0, .ref (p0a 0)), (1, .ref (p1a 0)), (2, .int v2_2), (3, .int v3_17)] → (∀ (H : Heap) (locs : List Loc) (ls : Array Slot), va_P (dC, dI) cls ((oX4 (p0a 0) p0a p0k p0w p0l) ++ (oX1 (p1a 0) p1a p1k p1n o17 p1l)) H → va_D A ((oX4 (p0a 0) p0a p0k p0w p0l) ++ (oX1 (p1a 0) p1a p1k p1n o17 p1l)) → va_S A s.heap H locs → lv_has ls 6 [(0, .ref (p0a 0)), (1, .ref (p1a 0)), (2, .int v2_2)] → W p l e ({ frames := 1, cells := 0, slots := 0, locals := 23 } : Room) s m ([.ref (p0a 0), .ref (p1a 0)] : List Value).toArray below meth c H locs 0 0 Q (F0 m 84 ls [])) → W p l e ({ frames := 1, cells := 0, slots := 0, locals := 23 } : Room) s m ([.ref (p0a 0), .ref (p1a 0)] : List Value).toArray below meth c H locs 0 0 Q (F0 m 17 ls []) := by
          intro n_17
          induction n_17 with
          | zero => intro v3_17 p1w_17 o17 H locs ls hrun; exact (no9 rfl hrun).elim
          | succ n_17 IH17 =>
            intro v3_17 p1w_17 o17 H locs ls hrun hP hD hS hl hk17
            unfold fX4_fillPhis_L17 at hrun
            refine lv_iload_n hx hb dX4_fillPhis_17 rfl (lv_at hl 3 rfl) ?_
            rcases br9 hrun with ⟨hc3, hrun⟩ | ⟨hc3, hrun⟩
            · refine lv_if_lt (tgt := 84) hx hb dX4_fillPhis_18 (by decide) (fun _ => ?_) (fun c => absurd hc3 c)
              obtain rfl := (Option.some.inj hrun)
              exact hk17 _ _ _ hP hD hS (lv_sub hl [0, 1, 2] rfl)
            · refine lv_if_lt (tgt := 84) hx hb dX4_fillPhis_18 (by decide) (fun c => absurd c hc3) (fun _ => ?_)
              refine lv_iconst (v := 0) hx hb dX4_fillPhis_21 (by decide) ?_
              refine lv_istore (lv' := [(4, .int 0), (0, .ref (p0a 0)), (1, .ref (p1a 0)), (2, .int v2_2), (3, .int v3_17)]) hx hb dX4_fillPhis_22 hl (by decide) rfl (fun ls hl => ?_)
              have L24 : ∀ (n_24 : Nat) (v4_24 : Int32) (p1w_24 : ST) (o24 : ST) (H : Heap) (locs : List Loc) (ls : Array Slot), (fX4_fillPhis_L24 p0w p1n v2_2 v3_17 n_24) v4_24 p1w_24 = some o24 → va_P (dC, dI) cls ((oX4 (p0a 0) p0a p0k p0w p0l) ++ (oX1 (p1a 0) p1a p1k p1n p1w_24 p1l)) H → va_D A ((oX4 (p0a 0) p0a p0k p0w p0l) ++ (oX1 (p1a 0) p1a p1k p1n p1w_24 p1l)) → va_S A s.heap H locs → lv_has ls 6 [(0, .ref (p0a 0)), (1, .ref (p1a 0)), (2, .int v2_2), (3, .int v3_17), (4, .int v4_24)] → (∀ (H : Heap) (locs : List Loc) (ls : Array Slot), va_P (dC, dI) cls ((oX4 (p0a 0) p0a p0k p0w p0l) ++ (oX1 (p1a 0) p1a p1k p1n o24 p1l)) H → va_D A ((oX4 (p0a 0) p0a p0k p0w p0l) ++ (oX1 (p1a 0) p1a p1k p1n o24 p1l)) → va_S A s.heap H locs → lv_has ls 6 [(0, .ref (p0a 0)), (1, .ref (p1a 0)), (2, .int v2_2), (3, .int v3_17)] → W p l e ({ frames := 1, cells := 0, slots := 0, locals := 23 } : Room) s m ([.ref (p0a 0), .ref (p1a 0)] : List Value).toArray below meth c H locs 0 0 Q (F0 m 74 ls [])) → W p l e ({ frames := 1, cells := 0, slots := 0, locals := 23 } : Room) s m ([.ref (p0a 0), .ref (p1a 0)] : List Value).toArray below meth c H locs 0 0 Q (F0 m 24 ls []) := by
                intro n_24
                induction n_24 with
                | zero => intro v4_24 p1w_24 o24 H locs ls hrun; exact (no9 rfl hrun).elim
                | succ n_24 IH24 =>
                  intro v4_24 p1w_24 o24 H locs ls hrun hP hD hS hl hk24
                  unfold fX4_fillPhis_L24 at hrun
                  refine lv_iload hx hb dX4_fillPhis_24 (lv_at hl 4 rfl) ?_
                  refine lv_aload_n hx hb dX4_fillPhis_26 rfl (lv_at hl 1 rfl) ?_
                  refine lv_iload_n hx hb dX4_fillPhis_27 rfl (lv_at hl 2 rfl) ?_
                  obtain ⟨o_4, hc_4, hrun⟩ := bnd9 hrun
                  have hPc := hP.sub (ws' := (oX1 (p1a 0) p1a p1k p1n p1w_24 p1l)) [19, 20, 21, 22, 23, 24, 25, 26, 27, 28, 29, 30, 31, 32, 33, 34, 35, 36] rfl
                  have hDc := hD.sub (ws' := (oX1 (p1a 0) p1a p1k p1n p1w_24 p1l)) [19, 20, 21, 22, 23, 24, 25, 26, 27, 28, 29, 30, 31, 32, 33, 34, 35, 36] (by decide) rfl
                  have hKc := hK.sub (tys' := (tX1 p1k)) [18, 19, 20, 21, 22, 23, 24, 25, 26, 27, 28, 29, 30, 31, 32, 33, 34] rfl
                  have hFc := va_free (wc := (oX1 (p1a 0) p1a p1k p1n p1w_24 p1l)) hD hS hA [19, 20, 21, 22, 23, 24, 25, 26, 27, 28, 29, 30, 31, 32, 33, 34, 35, 36] rfl
                  refine va_calli (va_runV (As := [.int v2_2]) (rest := [.int v4_24]) ⟨hx, hb, hml, hown, hts⟩ (kX1_waysTo l dC dI (p0a := (st0 (p1a 0) p1a)) (p0k := p1k) (p0n := p1n) (p0w := p1w_24) (p0l := p1l) (p1 := v2_2) (sz := _) (o := o_4) (hrun := hc_4)) (cwV 1 hts (gi_V qw277 qw151 qw152 qw113 (gi_z qw149)) rfl rfl rfl (by decide +kernel) ⟨Nat.le_of_ble_eq_true rfl, Nat.le_of_ble_eq_true rfl⟩) ⟨PRE.blind, va_recv hKc hPc (ci := 4) (q0 := 0) rfl rfl, PRE.of hE hS hFc hPc hKc hDc⟩ rfl rfl hl.1 rfl (lv_room (Nat.le_of_ble_eq_true rfl)) dX4_fillPhis_28 ⟨Nat.le_of_ble_eq_true rfl, Nat.le_of_ble_eq_true rfl⟩) hS (fun q _ h => hFc q h) hFc (fun r5 u t H locs ht hvm hw hB hz1 hk1 hS => ?_)
                  obtain ⟨hP, hD, hK⟩ := JOIN (wr := (oX4 (p0a 0) p0a p0k p0w p0l)) hP hD hK [19, 20, 21, 22, 23, 24, 25, 26, 27, 28, 29, 30, 31, 32, 33, 34, 35, 36] [0, 1, 2, 3, 4, 5, 6, 7, 8, 9, 10, 11, 12, 13, 14, 15, 16, 17, 18] [0, 1, 2, 3, 4, 5, 6, 7, 8, 9, 10, 11, 12, 13, 14, 15, 16, 17] rfl rfl (by decide) (by decide) rfl hk1 hFc ht hvm hB
                  have hP : va_P (dC, dI) cls ((oX4 (p0a 0) p0a p0k p0w p0l) ++ (oX1 (p1a 0) p1a p1k p1n p1w_24 p1l)) H := hP.sub [0, 1, 2, 3, 4, 5, 6, 7, 8, 9, 10, 11, 12, 13, 14, 15, 16, 17, 18, 19, 20, 21, 22, 23, 24, 25, 26, 27, 28, 29, 30, 31, 32, 33, 34, 35, 36] rfl
                  have hD : va_D A ((oX4 (p0a 0) p0a p0k p0w p0l) ++ (oX1 (p1a 0) p1a p1k p1n p1w_24 p1l)) := hD.sub [0, 1, 2, 3, 4, 5, 6, 7, 8, 9, 10, 11, 12, 13, 14, 15, 16, 17, 18, 19, 20, 21, 22, 23, 24, 25, 26, 27, 28, 29, 30, 31, 32, 33, 34, 35, 36] (by decide) rfl
                  have hK : va_K (dC, dI) cls ((tX4 p0k) ++ (tX1 p1k)) s := hK.sub [0, 1, 2, 3, 4, 5, 6, 7, 8, 9, 10, 11, 12, 13, 14, 15, 16, 17, 18, 19, 20, 21, 22, 23, 24, 25, 26, 27, 28, 29, 30, 31, 32, 33, 34] rfl
                  obtain rfl : o_4 = r5 := hw.symm
                  rcases br9 hrun with ⟨hc6, hrun⟩ | ⟨hc6, hrun⟩
                  · refine lv_icmp_ge (tgt := 74) hx hb dX4_fillPhis_31 (by decide) (fun _ => ?_) (fun c => absurd hc6 c)
                    obtain rfl := (Option.some.inj hrun)
                    exact hk24 _ _ _ hP hD hS (lv_sub hl [0, 1, 2, 3] rfl)
                  · refine lv_icmp_ge (tgt := 74) hx hb dX4_fillPhis_31 (by decide) (fun c => absurd c hc6) (fun _ => ?_)
                    refine lv_aload_n hx hb dX4_fillPhis_34 rfl (lv_at hl 1 rfl) ?_
                    refine lv_iload_n hx hb dX4_fillPhis_35 rfl (lv_at hl 2 rfl) ?_
                    refine lv_iload hx hb dX4_fillPhis_36 (lv_at hl 4 rfl) ?_
                    obtain ⟨o_7, hc_7, hrun⟩ := bnd9 hrun
                    have hPc := hP.sub (ws' := (oX1 (p1a 0) p1a p1k p1n p1w_24 p1l)) [19, 20, 21, 22, 23, 24, 25, 26, 27, 28, 29, 30, 31, 32, 33, 34, 35, 36] rfl
                    have hDc := hD.sub (ws' := (oX1 (p1a 0) p1a p1k p1n p1w_24 p1l)) [19, 20, 21, 22, 23, 24, 25, 26, 27, 28, 29, 30, 31, 32, 33, 34, 35, 36] (by decide) rfl
                    have hKc := hK.sub (tys' := (tX1 p1k)) [18, 19, 20, 21, 22, 23, 24, 25, 26, 27, 28, 29, 30, 31, 32, 33, 34] rfl
                    have hFc := va_free (wc := (oX1 (p1a 0) p1a p1k p1n p1w_24 p1l)) hD hS hA [19, 20, 21, 22, 23, 24, 25, 26, 27, 28, 29, 30, 31, 32, 33, 34, 35, 36] rfl
                    refine va_calli (va_runV (As := [.int v2_2, .int v4_24]) (rest := []) ⟨hx, hb, hml, hown, hts⟩ (kX1_wayFrom l dC dI (p0a := (st0 (p1a 0) p1a)) (p0k := p1k) (p0n := p1n) (p0w := p1w_24) (p0l := p1l) (p1 := v2_2) (p2 := v4_24) (sz := _) (o := o_7) (hrun := hc_7)) (cwV 2 hts (gi_V qw278 qw155 qw156 qw113 (gi_z qw153)) rfl rfl rfl (by decide +kernel) ⟨Nat.le_of_ble_eq_true rfl, Nat.le_of_ble_eq_true rfl⟩) ⟨PRE.blind, va_recv hKc hPc (ci := 4) (q0 := 0) rfl rfl, PRE.of hE hS hFc hPc hKc hDc⟩ rfl rfl hl.1 rfl (lv_room (Nat.le_of_ble_eq_true rfl)) dX4_fillPhis_38 ⟨Nat.le_of_ble_eq_true rfl, Nat.le_of_ble_eq_true rfl⟩) hS (fun q _ h => hFc q h) hFc (fun r8 u t H locs ht hvm hw hB hz1 hk1 hS => ?_)
                    obtain ⟨hP, hD, hK⟩ := JOIN (wr := (oX4 (p0a 0) p0a p0k p0w p0l)) hP hD hK [19, 20, 21, 22, 23, 24, 25, 26, 27, 28, 29, 30, 31, 32, 33, 34, 35, 36] [0, 1, 2, 3, 4, 5, 6, 7, 8, 9, 10, 11, 12, 13, 14, 15, 16, 17, 18] [0, 1, 2, 3, 4, 5, 6, 7, 8, 9, 10, 11, 12, 13, 14, 15, 16, 17] rfl rfl (by decide) (by decide) rfl hk1 hFc ht hvm hB
                    have hP : va_P (dC, dI) cls ((oX4 (p0a 0) p0a p0k p0w p0l) ++ (oX1 (p1a 0) p1a p1k p1n p1w_24 p1l)) H := hP.sub [0, 1, 2, 3, 4, 5, 6, 7, 8, 9, 10, 11, 12, 13, 14, 15, 16, 17, 18, 19, 20, 21, 22, 23, 24, 25, 26, 27, 28, 29, 30, 31, 32, 33, 34, 35, 36] rfl
                    have hD : va_D A ((oX4 (p0a 0) p0a p0k p0w p0l) ++ (oX1 (p1a 0) p1a p1k p1n p1w_24 p1l)) := hD.sub [0, 1, 2, 3, 4, 5, 6, 7, 8, 9, 10, 11, 12, 13, 14, 15, 16, 17, 18, 19, 20, 21, 22, 23, 24, 25, 26, 27, 28, 29, 30, 31, 32, 33, 34, 35, 36] (by decide) rfl
                    have hK : va_K (dC, dI) cls ((tX4 p0k) ++ (tX1 p1k)) s := hK.sub [0, 1, 2, 3, 4, 5, 6, 7, 8, 9, 10, 11, 12, 13, 14, 15, 16, 17, 18, 19, 20, 21, 22, 23, 24, 25, 26, 27, 28, 29, 30, 31, 32, 33, 34] rfl
                    obtain rfl : o_7 = r8 := hw.symm
                    refine lv_istore (lv' := [(5, .int o_7), (0, .ref (p0a 0)), (1, .ref (p1a 0)), (2, .int v2_2), (3, .int v3_17), (4, .int v4_24)]) hx hb dX4_fillPhis_41 hl (by decide) rfl (fun ls hl => ?_)
                    refine lv_aload_n hx hb dX4_fillPhis_43 rfl (lv_at hl 2 rfl) ?_
                    refine lv_iload_n hx hb dX4_fillPhis_44 rfl (lv_at hl 4 rfl) ?_
                    refine lv_iload hx hb dX4_fillPhis_45 (lv_at hl 0 rfl) ?_
                    refine lv_aload_n hx hb dX4_fillPhis_47 rfl (lv_at hl 1 rfl) ?_
                    refine va_get (D := (dC, dI)) (ci := 6) (v := .ref (p0a 20)) (C := RX4) (T := TX4) (N := 20) hx hb hts i_X4 hown hK hP 0 rfl rfl 19 (by decide) (hts _ qw246) (fun _ h9 => h9) rfl dX4_fillPhis_48 ?_
                    refine lv_iload hx hb dX4_fillPhis_51 (lv_at hl 0 rfl) ?_
                    refine lv_sipush (v := 320) hx hb dX4_fillPhis_53 (by decide) ?_
                    refine lv_imul hx hb dX4_fillPhis_56 ?_
                    refine lv_aload_n hx hb dX4_fillPhis_57 rfl (lv_at hl 1 rfl) ?_
                    refine va_get (D := (dC, dI)) (ci := 6) (v := .ref (p0a 19)) (C := RX4) (T := TX4) (N := 20) hx hb hts i_X4 hown hK hP 0 rfl rfl 18 (by decide) (hts _ qw254) (fun _ h9 => h9) rfl dX4_fillPhis_58 ?_
                    refine lv_iload_n hx hb dX4_fillPhis_61 rfl (lv_at hl 4 rfl) ?_
                    obtain ⟨hq9, hrun⟩ := chk9 hrun
                    refine va_iald hx hb hK hP 17 16 rfl rfl (ixb_in hq9) dX4_fillPhis_62 ?_
                    refine lv_iadd hx hb dX4_fillPhis_63 ?_
                    obtain ⟨hq10, hrun⟩ := chk9 hrun
                    refine va_iald hx hb hK hP 18 17 rfl rfl (ixb_in hq10) dX4_fillPhis_64 ?_
                    obtain ⟨o_11, hc_11, hrun⟩ := bnd9 hrun
                    have hPc := hP.sub (ws' := (oX1 (p1a 0) p1a p1k p1n p1w_24 p1l)) [19, 20, 21, 22, 23, 24, 25, 26, 27, 28, 29, 30, 31, 32, 33, 34, 35, 36] rfl
                    have hDc := hD.sub (ws' := (oX1 (p1a 0) p1a p1k p1n p1w_24 p1l)) [19, 20, 21, 22, 23, 24, 25, 26, 27, 28, 29, 30, 31, 32, 33, 34, 35, 36] (by decide) rfl
                    have hKc := hK.sub (tys' := (tX1 p1k)) [18, 19, 20, 21, 22, 23, 24, 25, 26, 27, 28, 29, 30, 31, 32, 33, 34] rfl
                    have hFc := va_free (wc := (oX1 (p1a 0) p1a p1k p1n p1w_24 p1l)) hD hS hA [19, 20, 21, 22, 23, 24, 25, 26, 27, 28, 29, 30, 31, 32, 33, 34, 35, 36] rfl
                    refine va_callv (va_runV (As := [.int v3_17, .int o_7, .int (p0w 20 (nn ((o_7 * 320) + (p0w 19 (nn v3_17)))))]) (rest := []) ⟨hx, hb, hml, hown, hts⟩ (kX1_setTake l dC dI (p0a := (st0 (p1a 0) p1a)) (p0k := p1k) (p0n := p1n) (p0w := p1w_24) (p0l := p1l) (p1 := v3_17) (p2 := o_7) (p3 := (p0w 20 (nn ((o_7 * 320) + (p0w 19 (nn v3_17)))))) (sz := _) (o := o_11) (hrun := hc_11)) (cwV 3 hts (gi_V qw280 qw281 qw282 qw113 (gi_z qw279)) rfl rfl rfl (by decide +kernel) ⟨Nat.le_of_ble_eq_true rfl, Nat.le_of_ble_eq_true rfl⟩) ⟨PRE.blind, va_recv hKc hPc (ci := 4) (q0 := 0) rfl rfl, PRE.of hE hS hFc hPc hKc hDc⟩ rfl rfl hl.1 rfl (lv_room (Nat.le_of_ble_eq_true rfl)) dX4_fillPhis_65 ⟨Nat.le_of_ble_eq_true rfl, Nat.le_of_ble_eq_true rfl⟩) hS (fun q _ h => hFc q h) hFc (fun u t H locs ht hvm hw hB hz1 hk1 hS => ?_)
                    obtain ⟨hP, hD, hK⟩ := JOIN (wr := (oX4 (p0a 0) p0a p0k p0w p0l)) hP hD hK [19, 20, 21, 22, 23, 24, 25, 26, 27, 28, 29, 30, 31, 32, 33, 34, 35, 36] [0, 1, 2, 3, 4, 5, 6, 7, 8, 9, 10, 11, 12, 13, 14, 15, 16, 17, 18] [0, 1, 2, 3, 4, 5, 6, 7, 8, 9, 10, 11, 12, 13, 14, 15, 16, 17] rfl rfl (by decide) (by decide) rfl hk1 hFc ht hvm hB
                    have hP : va_P (dC, dI) cls ((oX4 (p0a 0) p0a p0k p0w p0l) ++ (oX1 (p1a 0) p1a p1k p1n o_11 p1l)) H := hP.sub [0, 1, 2, 3, 4, 5, 6, 7, 8, 9, 10, 11, 12, 13, 14, 15, 16, 17, 18, 19, 20, 21, 22, 23, 24, 25, 26, 27, 28, 29, 30, 31, 32, 33, 34, 35, 36] rfl
                    have hD : va_D A ((oX4 (p0a 0) p0a p0k p0w p0l) ++ (oX1 (p1a 0) p1a p1k p1n o_11 p1l)) := hD.sub [0, 1, 2, 3, 4, 5, 6, 7, 8, 9, 10, 11, 12, 13, 14, 15, 16, 17, 18, 19, 20, 21, 22, 23, 24, 25, 26, 27, 28, 29, 30, 31, 32, 33, 34, 35, 36] (by decide) rfl
                    have hK : va_K (dC, dI) cls ((tX4 p0k) ++ (tX1 p1k)) s := hK.sub [0, 1, 2, 3, 4, 5, 6, 7, 8, 9, 10, 11, 12, 13, 14, 15, 16, 17, 18, 19, 20, 21, 22, 23, 24, 25, 26, 27, 28, 29, 30, 31, 32, 33, 34] rfl
                    refine lv_iinc (v := (v4_24 + 1)) (lv' := [(4, .int (v4_24 + 1)), (5, .int o_7), (0, .ref (p0a 0)), (1, .ref (p1a 0)), (2, .int v2_2), (3, .int v3_17)]) hx hb dX4_fillPhis_68 hl (k := 5) rfl rfl (by decide) rfl (fun ls hl => ?_)
                    refine lv_goto (tgt := 24) hx hb dX4_fillPhis_71 (by decide) ?_
                    exact IH24 (v4_24 + 1) o_11 o24 _ _ _ hrun hP hD hS (lv_sub hl [2, 3, 4, 5, 0] rfl) hk24
              obtain ⟨o24, hc24, hrun⟩ := bnd9 hrun
              refine L24 NF 0 p1w_17 o24 _ _ _ hc24 hP hD hS (lv_sub hl [1, 2, 3, 4, 0] rfl) ?_
              intro H locs ls hP hD hS hl
              have hl := hl
              refine lv_aload_n hx hb dX4_fillPhis_74 rfl (lv_at hl 1 rfl) ?_
              refine va_get (D := (dC, dI)) (ci := 4) (v := .ref (p1a 20)) (C := RX1) (T := TX1) (N := 21) hx hb hts i_X1 hown hK hP 19 rfl rfl 19 (by decide) (hts _ qw256) (fun _ h9 => h9) rfl dX4_fillPhis_75 ?_
              refine lv_iload_n hx hb dX4_fillPhis_78 rfl (lv_at hl 3 rfl) ?_
              obtain ⟨hq12, hrun⟩ := chk9 hrun
              refine va_iald hx hb hK hP 35 33 rfl rfl (ixb_in hq12) dX4_fillPhis_79 ?_
              refine lv_istore_n (lv' := [(3, .int (o24 20 (nn v3_17))), (0, .ref (p0a 0)), (1, .ref (p1a 0)), (2, .int v2_2)]) hx hb dX4_fillPhis_80 rfl hl (by decide) rfl (fun ls hl => ?_)
              refine lv_goto (tgt := 17) hx hb dX4_fillPhis_81 (by decide) ?_
              exact IH17 (o24 20 (nn v3_17)) o24 o17 _ _ _ hrun hP hD hS (lv_sub hl [1, 2, 3, 0] rfl) hk17
        obtain ⟨o17, hc17, hrun⟩ := bnd9 hrun
        refine L17 NF (p1w_2 6 (nn v2_2)) p1w_2 o17 _ _ _ hc17 hP hD hS (lv_sub hl [1, 2, 3, 0] rfl) ?_
        intro H locs ls hP hD hS hl
        have hl := hl
        refine lv_iinc (v := (v2_2 + 1)) (lv' := [(2, .int (v2_2 + 1)), (0, .ref (p0a 0)), (1, .ref (p1a 0))]) hx hb dX4_fillPhis_84 hl (k := 2) rfl rfl (by decide) rfl (fun ls hl => ?_)
        refine lv_goto (tgt := 2) hx hb dX4_fillPhis_87 (by decide) ?_
        exact IH2 (v2_2 + 1) o17 o2 _ _ _ hrun hP hD hS (lv_sub hl [1, 2, 0] rfl) hk2
  obtain ⟨o2, hc2, hrun⟩ := bnd9 hrun
  refine L2 NF 0 p1w o2 _ _ _ hc2 hP hD hS (lv_sub hl [1, 2, 0] rfl) ?_
  intro H locs ls hP hD hS hl
  have hl := hl
  have ho9 : o2 = o := Option.some.inj hrun
  have hP9 : va_P (dC, dI) cls ((oX4 (p0a 0) p0a p0k p0w p0l) ++ (oX1 (p1a 0) p1a p1k p1n o p1l)) H := by first | exact hP | (rw [← ho9]; exact hP)
  have hD9 : va_D A ((oX4 (p0a 0) p0a p0k p0w p0l) ++ (oX1 (p1a 0) p1a p1k p1n o p1l)) := by first | exact hD | (rw [← ho9]; exact hD)
  subst hQ
  exact W.vret hx hb hr (fun t ht hW => ⟨⟨(), rfl, trivial, ⟨by rw [ht]; exact hP9, va_K.moved hW.alike hK, hD9⟩⟩, hS.F ht⟩) hS.2.2 dX4_fillPhis_90
def fJ7_fill_d0a16_L6 (p0n : Nat) (p1 : Int64) : Nat → Int32 → RL → Option RL
  | 0 => fun _ _ => none
  | n_6 + 1 => fun v3_6 p0f_6 => (if (Int32.ofNat p0n) ≤ v3_6 then some p0f_6 else (if ixb v3_6 p0n = true then (lt9 (vp_updL p0f_6 (nn v3_6) p1) fun (f3 : RL) => ((fJ7_fill_d0a16_L6 p0n p1 n_6) (v3_6 + 1) f3)) else none))
def fJ7_fill_d0a16 (p0n : Nat) (p0f : RL) (p1 : Int64) : Option RL := ((fJ7_fill_d0a16_L6 p0n p1 NF 0 p0f).bind fun (o6 : RL) => some o6)
set_option maxHeartbeats 16000000 in
set_option maxRecDepth 100000 in
theorem kJ7_fill_d0a16 {zs : Nat × Nat} (l : Launch) (dC : Nat → ClassId) (dI : Nat → Nat → Nat) (p0a : Nat) (p0k : ClassId) (p0n : Nat) (p0f : RL) (p1 : Int64) (sz : Nat) (o : RL) (hrun : fJ7_fill_d0a16 p0n p0f p1 = some o) : Met l yJ7_fill_d0a16 (wz yJ7_fill_d0a16 cJ7_fill_d0a16 5 (Option.none : Option Jvm.ClassFile.FieldType)) ({ frames := 0, cells := 0, slots := 0, locals := 0 } : Room) (va_Pc [.ref p0a, .long p1] (PRE zs dC dI [(p0a, .inl (p0k, p0n, .inr (.inl p0f)))] [(p0k, .long)] sz)) (va_Qv (fun (_ : Unit) => True) (fun _ t => POST dC dI [(p0a, .inl (p0k, p0n, .inr (.inl o)))] [(p0k, .long)] (va_A [(p0a, .inl (p0k, p0n, .inr (.inl p0f)))] sz) t) (va_A [(p0a, .inl (p0k, p0n, .inr (.inl p0f)))] sz)) 0 0 (va_A [(p0a, .inl (p0k, p0n, .inr (.inl p0f)))] sz) := by
  refine Met.ofW (cc := cJ7_fill_d0a16) (maxL := 5) (ret := (Option.none : Option Jvm.ClassFile.FieldType)) (by decide) rfl ?_
  intro p e s m args below meth c s₁ B hml hv
  obtain ⟨rfl, hsz, hP, hK, hD0, hE⟩ := hv
  have hx := B.exec
  have hb := B.bytes
  have hr := B.returns
  have hts0 := atoms_spec (ws := wz yJ7_fill_d0a16 cJ7_fill_d0a16 5 (Option.none : Option Jvm.ClassFile.FieldType)) B.pre
  have hts : ∀ w ∈ gw, w.before _ s = true := fun w h => hts0 w (List.mem_cons_of_mem _ h)
  have hown : s.vm.findClass RJ7 = some m.cls := findClass_of_methodNamed B.named
  have hlocks := B.notSynchronized
  subst hsz
  have hD := hD0.self (sz := s.heap.size)
  refine gQ9 ?_
  intro Q hQ
  generalize hAe : va_A [(p0a, .inl (p0k, p0n, .inr (.inl p0f)))] s.heap.size = A at hD hE hQ
  have hA : ∀ q : Nat, s.heap.size ≤ q → A q := fun q h => by rw [← hAe]; exact Or.inr h
  have hS : va_S A s.heap s.heap [] := va_S.rf
  have hP : va_P (dC, dI) cls [(p0a, .inl (p0k, p0n, .inr (.inl p0f)))] s.heap := hP
  have hl := lv_entry ([.ref p0a, .long p1]) (n := 5) (Nat.le_of_ble_eq_true rfl)
  rw [lg_entry_eq]
  generalize (lg_sl ([.ref p0a, .long p1]) ++ List.replicate (5 - (lg_sl ([.ref p0a, .long p1])).length) Slot.unset).toArray = ls at hl ⊢
  have hl : lv_has ls 5 [(0, .ref p0a), (1, .long p1)] := hl
  obtain ⟨H, hHe⟩ : ∃ H, H = s.heap := ⟨_, rfl⟩
  obtain ⟨locs, hle⟩ : ∃ locs : List Loc, locs = [] := ⟨_, rfl⟩
  rw [← hHe] at hP
  have hS : va_S A s.heap H locs := by rw [hHe, hle]; exact hS
  show W p l e ({ frames := 0, cells := 0, slots := 0, locals := 0 } : Room) s m ([.ref p0a, .long p1] : List Value).toArray below meth c s.heap [] 0 0 Q (F0 m 0 ls [])
  rw [← hle]
  refine wH9 hHe ?_
  unfold fJ7_fill_d0a16 at hrun
  refine lv_iconst (v := 0) hx hb dJ7_fill_d0a16_0 (by decide) ?_
  refine lv_istore_n (lv' := [(3, .int 0), (0, .ref p0a), (1, .long p1)]) hx hb dJ7_fill_d0a16_1 rfl hl (by decide) rfl (fun ls hl => ?_)
  refine lv_aload_n hx hb dJ7_fill_d0a16_2 rfl (lv_at hl 1 rfl) ?_
  refine va_alen (v := (Int32.ofNat p0n)) hx hb hK hP 0 0 rfl rfl rfl dJ7_fill_d0a16_3 ?_
  refine lv_istore (lv' := [(4, .int (Int32.ofNat p0n)), (3, .int 0), (0, .ref p0a), (1, .long p1)]) hx hb dJ7_fill_d0a16_4 hl (by decide) rfl (fun ls hl => ?_)
  have L6 : ∀ (n_6 : Nat) (v3_6 : Int32) (p0f_6 : RL) (o6 : RL) (H : Heap) (locs : List Loc) (ls : Array Slot), (fJ7_fill_d0a16_L6 p0n p1 n_6) v3_6 p0f_6 = some o6 → va_P (dC, dI) cls [(p0a, .inl (p0k, p0n, .inr (.inl p0f_6)))] H → va_D A [(p0a, .inl (p0k, p0n, .inr (.inl p0f_6)))] → va_S A s.heap H locs → lv_has ls 5 [(0, .ref p0a), (1, .long p1), (3, .int v3_6), (4, .int (Int32.ofNat p0n))] → (∀ (H : Heap) (locs : List Loc) (ls : Array Slot), va_P (dC, dI) cls [(p0a, .inl (p0k, p0n, .inr (.inl o6)))] H → va_D A [(p0a, .inl (p0k, p0n, .inr (.inl o6)))] → va_S A s.heap H locs → lv_has ls 5 [] → W p l e ({ frames := 0, cells := 0, slots := 0, locals := 0 } : Room) s m ([.ref p0a, .long p1] : List Value).toArray below meth c H locs 0 0 Q (F0 m 22 ls [])) → W p l e ({ frames := 0, cells := 0, slots := 0, locals := 0 } : Room) s m ([.ref p0a, .long p1] : List Value).toArray below meth c H locs 0 0 Q (F0 m 6 ls []) := by
    intro n_6
    induction n_6 with
    | zero => intro v3_6 p0f_6 o6 H locs ls hrun; exact (no9 rfl hrun).elim
    | succ n_6 IH6 =>
      intro v3_6 p0f_6 o6 H locs ls hrun hP hD hS hl hk6
      unfold fJ7_fill_d0a16_L6 at hrun
      refine lv_iload_n hx hb dJ7_fill_d0a16_6 rfl (lv_at hl 2 rfl) ?_
      refine lv_iload hx hb dJ7_fill_d0a16_7 (lv_at hl 3 rfl) ?_
      rcases br9 hrun with ⟨hc1, hrun⟩ | ⟨hc1, hrun⟩
      · refine lv_icmp_ge (tgt := 22) hx hb dJ7_fill_d0a16_9 (by decide) (fun _ => ?_) (fun c => absurd hc1 c)
        obtain rfl := (Option.some.inj hrun)
        exact hk6 _ _ _ hP hD hS (lv_sub hl [] rfl)
      · refine lv_icmp_ge (tgt := 22) hx hb dJ7_fill_d0a16_9 (by decide) (fun c => absurd c hc1) (fun _ => ?_)
        refine lv_aload_n hx hb dJ7_fill_d0a16_12 rfl (lv_at hl 0 rfl) ?_
        refine lv_iload_n hx hb dJ7_fill_d0a16_13 rfl (lv_at hl 2 rfl) ?_
        refine lv_lload_n hx hb dJ7_fill_d0a16_14 rfl (lv_at hl 1 rfl) ?_
        obtain ⟨hq2, hrun⟩ := chk9 hrun
        refine va_last hx hb hK hP hD hS 0 0 rfl rfl (ixb_in hq2) dJ7_fill_d0a16_15 (fun H locs hP hD hS => ?_)
        have hP : va_P (dC, dI) cls [(p0a, .inl (p0k, p0n, .inr (.inl (vp_updL p0f_6 (nn v3_6) p1))))] H := hP
        have hD : va_D A [(p0a, .inl (p0k, p0n, .inr (.inl (vp_updL p0f_6 (nn v3_6) p1))))] := hD
        obtain ⟨f3, ef3, hrun⟩ := let9 hrun
        rw [← ef3] at hP hD
        refine lv_iinc (v := (v3_6 + 1)) (lv' := [(3, .int (v3_6 + 1)), (0, .ref p0a), (1, .long p1), (4, .int (Int32.ofNat p0n))]) hx hb dJ7_fill_d0a16_16 hl (k := 2) rfl rfl (by decide) rfl (fun ls hl => ?_)
        refine lv_goto (tgt := 6) hx hb dJ7_fill_d0a16_19 (by decide) ?_
        exact IH6 (v3_6 + 1) f3 o6 _ _ _ hrun hP hD hS (lv_sub hl [1, 2, 0, 3] rfl) hk6
  obtain ⟨o6, hc6, hrun⟩ := bnd9 hrun
  refine L6 NF 0 p0f o6 _ _ _ hc6 hP hD hS (lv_sub hl [2, 3, 1, 0] rfl) ?_
  intro H locs ls hP hD hS hl
  have hl := hl
  have ho9 : o6 = o := Option.some.inj hrun
  have hP9 : va_P (dC, dI) cls [(p0a, .inl (p0k, p0n, .inr (.inl o)))] H := by first | exact hP | (rw [← ho9]; exact hP)
  have hD9 : va_D A [(p0a, .inl (p0k, p0n, .inr (.inl o)))] := by first | exact hD | (rw [← ho9]; exact hD)
  subst hQ
  exact W.vret hx hb hr (fun t ht hW => ⟨⟨(), rfl, trivial, ⟨by rw [ht]; exact hP9, va_K.moved hW.alike hK, hD9⟩⟩, hS.F ht⟩) hS.2.2 dJ7_fill_d0a16_22
def fX4_findBorders_J97 (kk45 : Int32 → SL → Option SL) (v6_45 : Int32) (p0l_97 : SL) : Option SL := (kk45 (v6_45 + 1) p0l_97)
def fX4_findBorders_J84 (kk45 : Int32 → SL → Option SL) (v2_10 : Int32) (v6_45 : Int32) (p0l_45 : SL) : Option SL := (if ixb v6_45 60 = true then (if ixb v6_45 60 = true then (lt9 (upl p0l_45 18 (nn v6_45) ((p0l_45 18 (nn v6_45)) ||| (((1 : Int64) <<< ((v2_10 : Int32).toInt64 &&& 63))))) fun (l15 : SL) => (fX4_findBorders_J97 kk45 v6_45 l15)) else none) else none)
def fX4_findBorders_L45 (p1w : ST) (p1l : SL) (v2_10 : Int32) (o_6 : Int32) : Nat → Int32 → SL → Option SL
  | 0 => fun _ _ => none
  | n_45 + 1 => fun v6_45 p0l_45 => (if (p1w 0 0) ≤ v6_45 then some p0l_45 else ((fX11_holds (p1l 16 (nn o_6)) v6_45).bind fun (o_10 : Int32) => (if o_10 = 0 then (fX4_findBorders_J97 (fX4_findBorders_L45 p1w p1l v2_10 o_6 n_45) v6_45 p0l_45) else (if v6_45 = v2_10 then (fX4_findBorders_J84 (fX4_findBorders_L45 p1w p1l v2_10 o_6 n_45) v2_10 v6_45 p0l_45) else (if ixb v2_10 60 = true then ((fX11_holds (p1l 16 (nn v2_10)) v6_45).bind fun (o_18 : Int32) => (if o_18 = 0 then (fX4_findBorders_J84 (fX4_findBorders_L45 p1w p1l v2_10 o_6 n_45) v2_10 v6_45 p0l_45) else (fX4_findBorders_J97 (fX4_findBorders_L45 p1w p1l v2_10 o_6 n_45) v6_45 p0l_45))) else none)))))
def fX4_findBorders_L20 (p1w : ST) (p1l : SL) (v2_10 : Int32) : Nat → Int32 → SL → Option SL
  | 0 => fun _ _ => none
  | n_20 + 1 => fun v3_20 p0l_20 => ((fX1_waysTo p1w v2_10).bind fun (o_3 : Int32) => (if o_3 ≤ v3_20 then some p0l_20 else ((fX1_wayFrom p1w v2_10 v3_20).bind fun (o_6 : Int32) => (if ixb o_6 60 = true then ((fX4_findBorders_L45 p1w p1l v2_10 o_6 NF 0 p0l_20).bind fun (o45 : SL) => ((fX4_findBorders_L20 p1w p1l v2_10 n_20) (v3_20 + 1) o45)) else none))))
def fX4_findBorders_L10 (p1w : ST) (p1l : SL) : Nat → Int32 → SL → Option SL
  | 0 => fun _ _ => none
  | n_10 + 1 => fun v2_10 p0l_10 => (if (p1w 0 0) ≤ v2_10 then some p0l_10 else ((fX4_findBorders_L20 p1w p1l v2_10 NF 0 p0l_10).bind fun (o20 : SL) => ((fX4_findBorders_L10 p1w p1l n_10) (v2_10 + 1) o20)))
def fX4_findBorders (p0l : SL) (p1w : ST) (p1l : SL) : Option SL := ((fJ7_fill_d0a16 60 (p0l 18) 0).bind fun (o_1 : RL) => ((fX4_findBorders_L10 p1w p1l NF 0 (srl p0l 18 o_1)).bind fun (o10 : SL) => some o10))
set_option maxHeartbeats 16000000 in
set_option maxRecDepth 100000 in
theorem kX4_findBorders {zs : Nat × Nat} (l : Launch) (dC : Nat → ClassId) (dI : Nat → Nat → Nat) (p0a : Nat → Nat) (p0k : Nat → ClassId) (p0w : ST) (p0l : SL) (p1a : Nat → Nat) (p1k : Nat → ClassId) (p1n : Nat → Nat) (p1w : ST) (p1l : SL) (sz : Nat) (o : SL) (hrun : fX4_findBorders p0l p1w p1l = some o) : Met l yX4_findBorders (wz yX4_findBorders cX4_findBorders 7 (Option.none : Option Jvm.ClassFile.FieldType)) ({ frames := 1, cells := 0, slots := 0, locals := 24 } : Room) (va_Pc [.ref (p0a 0), .ref (p1a 0)] (PRE zs dC dI ((oX4 (p0a 0) p0a p0k p0w p0l) ++ (oX1 (p1a 0) p1a p1k p1n p1w p1l)) ((tX4 p0k) ++ (tX1 p1k)) sz)) (va_Qv (fun (_ : Unit) => True) (fun _ t => POST dC dI ((oX4 (p0a 0) p0a p0k p0w o) ++ (oX1 (p1a 0) p1a p1k p1n p1w p1l)) ((tX4 p0k) ++ (tX1 p1k)) (va_A ((oX4 (p0a 0) p0a p0k p0w p0l) ++ (oX1 (p1a 0) p1a p1k p1n p1w p1l)) sz) t) (va_A ((oX4 (p0a 0) p0a p0k p0w p0l) ++ (oX1 (p1a 0) p1a p1k p1n p1w p1l)) sz)) 0 0 (va_A ((oX4 (p0a 0) p0a p0k p0w p0l) ++ (oX1 (p1a 0) p1a p1k p1n p1w p1l)) sz) := by
  refine Met.ofW (cc := cX4_findBorders) (maxL := 7) (ret := (Option.none : Option Jvm.ClassFile.FieldType)) (by decide) rfl ?_
  intro p e s m args below meth c s₁ B hml hv
  obtain ⟨rfl, hsz, hP, hK, hD0, hE⟩ := hv
  have hx := B.exec
  have hb := B.bytes
  have hr := B.returns
  have hts0 := atoms_spec (ws := wz yX4_findBorders cX4_findBorders 7 (Option.none : Option Jvm.ClassFile.FieldType)) B.pre
  have hts : ∀ w ∈ gw, w.before _ s = true := fun w h => hts0 w (List.mem_cons_of_mem _ h)
  have hown : s.vm.findClass RX4 = some m.cls := findClass_of_methodNamed B.named
  have hlocks := B.notSynchronized
  subst hsz
  have hD := hD0.self (sz := s.heap.size)
  refine gQ9 ?_
  intro Q hQ
  generalize hAe : va_A ((oX4 (p0a 0) p0a p0k p0w p0l) ++ (oX1 (p1a 0) p1a p1k p1n p1w p1l)) s.heap.size = A at hD hE hQ
  have hA : ∀ q : Nat, s.heap.size ≤ q → A q := fun q h => by rw [← hAe]; exact Or.inr h
  have hS : va_S A s.heap s.heap [] := va_S.rf
  have hP : va_P (dC, dI) cls ((oX4 (p0a 0) p0a p0k p0w p0l) ++ (oX1 (p1a 0) p1a p1k p1n p1w p1l)) s.heap := hP
  have hl := lv_entry ([.ref (p0a 0), .ref (p1a 0)]) (n := 7) (Nat.le_of_ble_eq_true rfl)
  rw [lg_entry_eq]
  generalize (lg_sl ([.ref (p0a 0), .ref (p1a 0)]) ++ List.replicate (7 - (lg_sl ([.ref (p0a 0), .ref (p1a 0)])).length) Slot.unset).toArray = ls at hl ⊢
  have hl : lv_has ls 7 [(0, .ref (p0a 0)), (1, .ref (p1a 0))] := hl
  obtain ⟨H, hHe⟩ : ∃ H, H = s.heap := ⟨_, rfl⟩
  obtain ⟨locs, hle⟩ : ∃ locs : List Loc, locs = [] := ⟨_, rfl⟩
  rw [← hHe] at hP
  have hS : va_S A s.heap H locs := by rw [hHe, hle]; exact hS
  show W p l e ({ frames := 1, cells := 0, slots := 0, locals := 24 } : Room) s m ([.ref (p0a 0), .ref (p1a 0)] : List Value).toArray below meth c s.heap [] 0 0 Q (F0 m 0 ls [])
  rw [← hle]
  refine wH9 hHe ?_
  unfold fX4_findBorders at hrun
  refine lv_aload_n hx hb dX4_findBorders_0 rfl (lv_at hl 0 rfl) ?_
  refine va_get (D := (dC, dI)) (ci := 6) (v := .ref (p0a 18)) (C := RX4) (T := TX4) (N := 20) hx hb hts i_X4 hown hK hP 0 rfl rfl 17 (by decide) (hts _ qw283) (fun _ h9 => h9) rfl dX4_findBorders_1 ?_
  refine lv_lconst (v := 0) hx hb dX4_findBorders_4 (by decide) ?_
  obtain ⟨o_1, hc_1, hrun⟩ := bnd9 hrun
  have hPc := hP.sub (ws' := [((p0a 18), .inl ((p0k 18), 60, .inr (.inl (p0l 18))))]) [16] rfl
  have hDc := hD.sub (ws' := [((p0a 18), .inl ((p0k 18), 60, .inr (.inl (p0l 18))))]) [16] (by decide) rfl
  have hKc := hK.sub (tys' := [((p0k 18), .long)]) [15] rfl
  have hFc := va_free (wc := [((p0a 18), .inl ((p0k 18), 60, .inr (.inl (p0l 18))))]) hD hS hA [16] rfl
  refine va_callv (va_runS (As := [.ref (p0a 18), .long 0]) (rest := []) ⟨hx, hb, hml, hown, hts⟩ (kJ7_fill_d0a16 l dC dI (p0a := (p0a 18)) (p0k := (p0k 18)) (p0n := 60) (p0f := (p0l 18)) (p1 := 0) (sz := _) (o := o_1) (hrun := hc_1)) (va_cwS 2 hts (gi_S qw285 qw286 qw186 (gi_z qw284)) rfl rfl rfl (by decide +kernel) ⟨Nat.le_of_ble_eq_true rfl, Nat.le_of_ble_eq_true rfl⟩) ⟨PRE.blind, PRE.of hE hS hFc hPc hKc hDc⟩ rfl rfl hl.1 rfl (lv_room (Nat.le_of_ble_eq_true rfl)) dX4_findBorders_5 ⟨Nat.le_of_ble_eq_true rfl, Nat.le_of_ble_eq_true rfl⟩) hS (fun q _ h => hFc q h) hFc (fun u t H locs ht hvm hw hB hz1 hk1 hS => ?_)
  obtain ⟨hP, hD, hK⟩ := JOIN (wr := ([((p0a 0), .inr (6, [.ref (p0a 1), .ref (p0a 2), .ref (p0a 3), .ref (p0a 4), .ref (p0a 5), .int (p0w 0 5), .ref (p0a 7), .ref (p0a 8), .ref (p0a 9), .ref (p0a 10), .ref (p0a 11), .ref (p0a 12), .ref (p0a 13), .ref (p0a 14), .ref (p0a 15), .ref (p0a 16), .ref (p0a 17), .ref (p0a 18), .ref (p0a 19), .ref (p0a 20)])), ((p0a 2), .inl ((p0k 2), 3200, .inl (p0w 2))), ((p0a 3), .inl ((p0k 3), 3200, .inl (p0w 3))), ((p0a 4), .inl ((p0k 4), 3200, .inl (p0w 4))), ((p0a 5), .inl ((p0k 5), 512, .inl (p0w 5))), ((p0a 7), .inl ((p0k 7), 640, .inl (p0w 7))), ((p0a 8), .inl ((p0k 8), 640, .inl (p0w 8))), ((p0a 9), .inl ((p0k 9), 640, .inl (p0w 9))), ((p0a 10), .inl ((p0k 10), 640, .inl (p0w 10))), ((p0a 11), .inl ((p0k 11), 640, .inl (p0w 11))), ((p0a 12), .inl ((p0k 12), 640, .inl (p0w 12))), ((p0a 13), .inl ((p0k 13), 640, .inl (p0w 13))), ((p0a 14), .inl ((p0k 14), 640, .inl (p0w 14))), ((p0a 15), .inl ((p0k 15), 60, .inl (p0w 15))), ((p0a 16), .inl ((p0k 16), 320, .inr (.inl (p0l 16)))), ((p0a 17), .inl ((p0k 17), 320, .inr (.inl (p0l 17)))), ((p0a 19), .inl ((p0k 19), 250, .inl (p0w 19))), ((p0a 20), .inl ((p0k 20), 19200, .inl (p0w 20)))] ++ (oX1 (p1a 0) p1a p1k p1n p1w p1l))) hP hD hK [16] [0, 1, 2, 3, 4, 5, 6, 7, 8, 9, 10, 11, 12, 13, 14, 15, 17, 18, 19, 20, 21, 22, 23, 24, 25, 26, 27, 28, 29, 30, 31, 32, 33, 34, 35, 36] [0, 1, 2, 3, 4, 5, 6, 7, 8, 9, 10, 11, 12, 13, 14, 16, 17, 18, 19, 20, 21, 22, 23, 24, 25, 26, 27, 28, 29, 30, 31, 32, 33, 34] rfl rfl (by decide) (by decide) rfl hk1 hFc ht hvm hB
  have hP : va_P (dC, dI) cls ((oX4 (p0a 0) p0a p0k p0w (srl p0l 18 o_1)) ++ (oX1 (p1a 0) p1a p1k p1n p1w p1l)) H := hP.sub [0, 1, 2, 3, 4, 5, 6, 7, 8, 9, 10, 11, 12, 13, 14, 15, 36, 16, 17, 18, 19, 20, 21, 22, 23, 24, 25, 26, 27, 28, 29, 30, 31, 32, 33, 34, 35] rfl
  have hD : va_D A ((oX4 (p0a 0) p0a p0k p0w (srl p0l 18 o_1)) ++ (oX1 (p1a 0) p1a p1k p1n p1w p1l)) := hD.sub [0, 1, 2, 3, 4, 5, 6, 7, 8, 9, 10, 11, 12, 13, 14, 15, 36, 16, 17, 18, 19, 20, 21, 22, 23, 24, 25, 26, 27, 28, 29, 30, 31, 32, 33, 34, 35] (by decide) rfl
  have hK : va_K (dC, dI) cls ((tX4 p0k) ++ (tX1 p1k)) s := hK.sub [0, 1, 2, 3, 4, 5, 6, 7, 8, 9, 10, 11, 12, 13, 14, 34, 15, 16, 17, 18, 19, 20, 21, 22, 23, 24, 25, 26, 27, 28, 29, 30, 31, 32, 33] rfl
  refine lv_iconst (v := 0) hx hb dX4_findBorders_8 (by decide) ?_
  refine lv_istore_n (lv' := [(2, .int 0), (0, .ref (p0a 0)), (1, .ref (p1a 0))]) hx hb dX4_findBorders_9 rfl hl (by decide) rfl (fun ls hl => ?_)
  have L10 : ∀ (n_10 : Nat) (v2_10 : Int32) (p0l_10 : SL) (o10 : SL) (H : Heap) (locs : List Loc) (ls : Array Slot), (fX4_findBorders_L10 p1w p1l n_10) v2_10 p0l_10 = some o10 → va_P (dC, dI) cls ((oX4 (p0a 0) p0a p0k p0w p0l_10) ++ (oX1 (p1a 0) p1a p1k p1n p1w p1l)) H → va_D A ((oX4 (p0a 0) p0a p0k p0w p0l_10) ++ (oX1 (p1a 0) p1a p1k p1n p1w p1l)) → va_S A s.heap H locs → lv_has ls 7 [(0, .ref (p0a 0)), (1, .ref (p1a 0)), (2, .int v2_10)] → (∀ (H : Heap) (locs : List Loc) (ls : Array Slot), va_P (dC, dI) cls ((oX4 (p0a 0) p0a p0k p0w o10) ++ (oX1 (p1a 0) p1a p1k p1n p1w p1l)) H → va_D A ((oX4 (p0a 0) p0a p0k p0w o10) ++ (oX1 (p1a 0) p1a p1k p1n p1w p1l)) → va_S A s.heap H locs → lv_has ls 7 [] → W p l e ({ frames := 1, cells := 0, slots := 0, locals := 24 } : Room) s m ([.ref (p0a 0), .ref (p1a 0)] : List Value).toArray below meth c H locs 0 0 Q (F0 m 115 ls [])) → W p l e ({ frames := 1, cells := 0, slots := 0, locals := 24 } : Room) s m ([.ref (p0a 0), .ref (p1a 0)] : List Value).toArray below meth c H locs 0 0 Q (F0 m 10 ls []) := by
    intro n_10
    induction n_10 with
    | zero => intro v2_10 p0l_10 o10 H locs ls hrun; exact (no9 rfl hrun).elim
    | succ n_10 IH10 =>
      intro v2_10 p0l_10 o10 H locs ls hrun hP hD hS hl hk10
      unfold fX4_findBorders_L10 at hrun
      refine lv_iload_n hx hb dX4_findBorders_10 rfl (lv_at hl 2 rfl) ?_
      refine lv_aload_n hx hb dX4_findBorders_11 rfl (lv_at hl 1 rfl) ?_
      refine va_get (D := (dC, dI)) (ci := 4) (v := .int (p1w 0 0)) (C := RX1) (T := TX1) (N := 21) hx hb hts i_X1 hown hK hP 19 rfl rfl 0 (by decide) (hts _ qw276) (fun _ h9 => h9) rfl dX4_findBorders_12 ?_
      rcases br9 hrun with ⟨hc2, hrun⟩ | ⟨hc2, hrun⟩
      · refine lv_icmp_ge (tgt := 115) hx hb dX4_findBorders_15 (by decide) (fun _ => ?_) (fun c => absurd hc2 c)
        obtain rfl := (Option.some.inj hrun)
        exact hk10 _ _ _ hP hD hS (lv_sub hl [] rfl)
      · refine lv_icmp_ge (tgt := 115) hx hb dX4_findBorders_15 (by decide) (fun c => absurd c hc2) (fun _ => ?_)
        refine lv_iconst (v := 0) hx hb dX4_findBorders_18 (by decide) ?_
        refine lv_istore_n (lv' := [(3, .int 0), (0, .ref (p0a 0)), (1, .ref (p1a 0)), (2, .int v2_10)]) hx hb dX4_findBorders_19 rfl hl (by decide) rfl (fun ls hl => ?_)
        have L20 : ∀ (n_20 : Nat) (v3_20 : Int32) (p0l_20 : SL) (o20 : SL) (H : Heap) (locs : List Loc) (ls : Array Slot), (fX4_findBorders_L20 p1w p1l v2_10 n_20) v3_20 p0l_20 = some o20 → va_P (dC, dI) cls ((oX4 (p0a 0) p0a p0k p0w p0l_20) ++ (oX1 (p1a 0) p1a p1k p1n p1w p1l)) H → va_D A ((oX4 (p0a 0) p0a p0k p0w p0l_20) ++ (oX1 (p1a 0) p1a p1k p1n p1w p1l)) → va_S A s.heap H locs → lv_has ls 7 [(0, .ref (p0a 0)), (1, .ref (p1a 0)), (2, .int v2_10), (3, .int v3_20)] → (∀ (H : Heap) (locs : List Loc) (ls : Array Slot), va_P (dC, dI) cls ((oX4 (p0a 0) p0a p0k p0w o20) ++ (oX1 (p1a 0) p1a p1k p1n p1w p1l)) H → va_D A ((oX4 (p0a 0) p0a p0k p0w o20) ++ (oX1 (p1a 0) p1a p1k p1n p1w p1l)) → va_S A s.heap H locs → lv_has ls 7 [(0, .ref (p0a 0)), (1, .ref (p1a 0)), (2, .int v2_10)] → W p l e ({ frames := 1, cells := 0, slots := 0, locals := 24 } : Room) s m ([.ref (p0a 0), .ref (p1a 0)] : List Value).toArray below meth c H locs 0 0 Q (F0 m 109 ls [])) → W p l e ({ frames := 1, cells := 0, slots := 0, locals := 24 } : Room) s m ([.ref (p0a 0), .ref (p1a 0)] : List Value).toArray below meth c H locs 0 0 Q (F0 m 20 ls []) := by
          intro n_20
          induction n_20 with
          | zero => intro v3_20 p0l_20 o20 H locs ls hrun; exact (no9 rfl hrun).elim
          | succ n_20 IH20 =>
            intro v3_20 p0l_20 o20 H locs ls hrun hP hD hS hl hk20
            unfold fX4_findBorders_L20 at hrun
            refine lv_iload_n hx hb dX4_findBorders_20 rfl (lv_at hl 3 rfl) ?_
            refine lv_aload_n hx hb dX4_findBorders_21 rfl (lv_at hl 1 rfl) ?_
            refine lv_iload_n hx hb dX4_findBorders_22 rfl (lv_at hl 2 rfl) ?_
            obtain ⟨o_3, hc_3, hrun⟩ := bnd9 hrun
            have hPc := hP.sub (ws' := (oX1 (p1a 0) p1a p1k p1n p1w p1l)) [19, 20, 21, 22, 23, 24, 25, 26, 27, 28, 29, 30, 31, 32, 33, 34, 35, 36] rfl
            have hDc := hD.sub (ws' := (oX1 (p1a 0) p1a p1k p1n p1w p1l)) [19, 20, 21, 22, 23, 24, 25, 26, 27, 28, 29, 30, 31, 32, 33, 34, 35, 36] (by decide) rfl
            have hKc := hK.sub (tys' := (tX1 p1k)) [18, 19, 20, 21, 22, 23, 24, 25, 26, 27, 28, 29, 30, 31, 32, 33, 34] rfl
            have hFc := va_free (wc := (oX1 (p1a 0) p1a p1k p1n p1w p1l)) hD hS hA [19, 20, 21, 22, 23, 24, 25, 26, 27, 28, 29, 30, 31, 32, 33, 34, 35, 36] rfl
            refine va_calli (va_runV (As := [.int v2_10]) (rest := [.int v3_20]) ⟨hx, hb, hml, hown, hts⟩ (kX1_waysTo l dC dI (p0a := (st0 (p1a 0) p1a)) (p0k := p1k) (p0n := p1n) (p0w := p1w) (p0l := p1l) (p1 := v2_10) (sz := _) (o := o_3) (hrun := hc_3)) (cwV 1 hts (gi_V qw277 qw151 qw152 qw113 (gi_z qw149)) rfl rfl rfl (by decide +kernel) ⟨Nat.le_of_ble_eq_true rfl, Nat.le_of_ble_eq_true rfl⟩) ⟨PRE.blind, va_recv hKc hPc (ci := 4) (q0 := 0) rfl rfl, PRE.of hE hS hFc hPc hKc hDc⟩ rfl rfl hl.1 rfl (lv_room (Nat.le_of_ble_eq_true rfl)) dX4_findBorders_23 ⟨Nat.le_of_ble_eq_true rfl, Nat.le_of_ble_eq_true rfl⟩) hS (fun q _ h => hFc q h) hFc (fun r4 u t H locs ht hvm hw hB hz1 hk1 hS => ?_)
            obtain ⟨hP, hD, hK⟩ := JOIN (wr := (oX4 (p0a 0) p0a p0k p0w p0l_20)) hP hD hK [19, 20, 21, 22, 23, 24, 25, 26, 27, 28, 29, 30, 31, 32, 33, 34, 35, 36] [0, 1, 2, 3, 4, 5, 6, 7, 8, 9, 10, 11, 12, 13, 14, 15, 16, 17, 18] [0, 1, 2, 3, 4, 5, 6, 7, 8, 9, 10, 11, 12, 13, 14, 15, 16, 17] rfl rfl (by decide) (by decide) rfl hk1 hFc ht hvm hB
            have hP : va_P (dC, dI) cls ((oX4 (p0a 0) p0a p0k p0w p0l_20) ++ (oX1 (p1a 0) p1a p1k p1n p1w p1l)) H := hP.sub [0, 1, 2, 3, 4, 5, 6, 7, 8, 9, 10, 11, 12, 13, 14, 15, 16, 17, 18, 19, 20, 21, 22, 23, 24, 25, 26, 27, 28, 29, 30, 31, 32, 33, 34, 35, 36] rfl
            have hD : va_D A ((oX4 (p0a 0) p0a p0k p0w p0l_20) ++ (oX1 (p1a 0) p1a p1k p1n p1w p1l)) := hD.sub [0, 1, 2, 3, 4, 5, 6, 7, 8, 9, 10, 11, 12, 13, 14, 15, 16, 17, 18, 19, 20, 21, 22, 23, 24, 25, 26, 27, 28, 29, 30, 31, 32, 33, 34, 35, 36] (by decide) rfl
            have hK : va_K (dC, dI) cls ((tX4 p0k) ++ (tX1 p1k)) s := hK.sub [0, 1, 2, 3, 4, 5, 6, 7, 8, 9, 10, 11, 12, 13, 14, 15, 16, 17, 18, 19, 20, 21, 22, 23, 24, 25, 26, 27, 28, 29, 30, 31, 32, 33, 34] rfl
            obtain rfl : o_3 = r4 := hw.symm
            rcases br9 hrun with ⟨hc5, hrun⟩ | ⟨hc5, hrun⟩
            · refine lv_icmp_ge (tgt := 109) hx hb dX4_findBorders_26 (by decide) (fun _ => ?_) (fun c => absurd hc5 c)
              obtain rfl := (Option.some.inj hrun)
              exact hk20 _ _ _ hP hD hS (lv_sub hl [0, 1, 2] rfl)
            · refine lv_icmp_ge (tgt := 109) hx hb dX4_findBorders_26 (by decide) (fun c => absurd c hc5) (fun _ => ?_)
              refine lv_aload_n hx hb dX4_findBorders_29 rfl (lv_at hl 1 rfl) ?_
              refine va_get (D := (dC, dI)) (ci := 4) (v := .ref (p1a 16)) (C := RX1) (T := TX1) (N := 21) hx hb hts i_X1 hown hK hP 19 rfl rfl 15 (by decide) (hts _ qw287) (fun _ h9 => h9) rfl dX4_findBorders_30 ?_
              refine lv_aload_n hx hb dX4_findBorders_33 rfl (lv_at hl 1 rfl) ?_
              refine lv_iload_n hx hb dX4_findBorders_34 rfl (lv_at hl 2 rfl) ?_
              refine lv_iload_n hx hb dX4_findBorders_35 rfl (lv_at hl 3 rfl) ?_
              obtain ⟨o_6, hc_6, hrun⟩ := bnd9 hrun
              have hPc := hP.sub (ws' := (oX1 (p1a 0) p1a p1k p1n p1w p1l)) [19, 20, 21, 22, 23, 24, 25, 26, 27, 28, 29, 30, 31, 32, 33, 34, 35, 36] rfl
              have hDc := hD.sub (ws' := (oX1 (p1a 0) p1a p1k p1n p1w p1l)) [19, 20, 21, 22, 23, 24, 25, 26, 27, 28, 29, 30, 31, 32, 33, 34, 35, 36] (by decide) rfl
              have hKc := hK.sub (tys' := (tX1 p1k)) [18, 19, 20, 21, 22, 23, 24, 25, 26, 27, 28, 29, 30, 31, 32, 33, 34] rfl
              have hFc := va_free (wc := (oX1 (p1a 0) p1a p1k p1n p1w p1l)) hD hS hA [19, 20, 21, 22, 23, 24, 25, 26, 27, 28, 29, 30, 31, 32, 33, 34, 35, 36] rfl
              refine va_calli (va_runV (As := [.int v2_10, .int v3_20]) (rest := [.ref (p1a 16)]) ⟨hx, hb, hml, hown, hts⟩ (kX1_wayFrom l dC dI (p0a := (st0 (p1a 0) p1a)) (p0k := p1k) (p0n := p1n) (p0w := p1w) (p0l := p1l) (p1 := v2_10) (p2 := v3_20) (sz := _) (o := o_6) (hrun := hc_6)) (cwV 2 hts (gi_V qw278 qw155 qw156 qw113 (gi_z qw153)) rfl rfl rfl (by decide +kernel) ⟨Nat.le_of_ble_eq_true rfl, Nat.le_of_ble_eq_true rfl⟩) ⟨PRE.blind, va_recv hKc hPc (ci := 4) (q0 := 0) rfl rfl, PRE.of hE hS hFc hPc hKc hDc⟩ rfl rfl hl.1 rfl (lv_room (Nat.le_of_ble_eq_true rfl)) dX4_findBorders_36 ⟨Nat.le_of_ble_eq_true rfl, Nat.le_of_ble_eq_true rfl⟩) hS (fun q _ h => hFc q h) hFc (fun r7 u t H locs ht hvm hw hB hz1 hk1 hS => ?_)
              obtain ⟨hP, hD, hK⟩ := JOIN (wr := (oX4 (p0a 0) p0a p0k p0w p0l_20)) hP hD hK [19, 20, 21, 22, 23, 24, 25, 26, 27, 28, 29, 30, 31, 32, 33, 34, 35, 36] [0, 1, 2, 3, 4, 5, 6, 7, 8, 9, 10, 11, 12, 13, 14, 15, 16, 17, 18] [0, 1, 2, 3, 4, 5, 6, 7, 8, 9, 10, 11, 12, 13, 14, 15, 16, 17] rfl rfl (by decide) (by decide) rfl hk1 hFc ht hvm hB
              have hP : va_P (dC, dI) cls ((oX4 (p0a 0) p0a p0k p0w p0l_20) ++ (oX1 (p1a 0) p1a p1k p1n p1w p1l)) H := hP.sub [0, 1, 2, 3, 4, 5, 6, 7, 8, 9, 10, 11, 12, 13, 14, 15, 16, 17, 18, 19, 20, 21, 22, 23, 24, 25, 26, 27, 28, 29, 30, 31, 32, 33, 34, 35, 36] rfl
              have hD : va_D A ((oX4 (p0a 0) p0a p0k p0w p0l_20) ++ (oX1 (p1a 0) p1a p1k p1n p1w p1l)) := hD.sub [0, 1, 2, 3, 4, 5, 6, 7, 8, 9, 10, 11, 12, 13, 14, 15, 16, 17, 18, 19, 20, 21, 22, 23, 24, 25, 26, 27, 28, 29, 30, 31, 32, 33, 34, 35, 36] (by decide) rfl
              have hK : va_K (dC, dI) cls ((tX4 p0k) ++ (tX1 p1k)) s := hK.sub [0, 1, 2, 3, 4, 5, 6, 7, 8, 9, 10, 11, 12, 13, 14, 15, 16, 17, 18, 19, 20, 21, 22, 23, 24, 25, 26, 27, 28, 29, 30, 31, 32, 33, 34] rfl
              obtain rfl : o_6 = r7 := hw.symm
              obtain ⟨hq8, hrun⟩ := chk9 hrun
              refine va_lald hx hb hK hP 32 30 rfl rfl (ixb_in hq8) dX4_findBorders_39 ?_
              refine lv_lstore (lv' := [(4, .long (p1l 16 (nn o_6))), (0, .ref (p0a 0)), (1, .ref (p1a 0)), (2, .int v2_10), (3, .int v3_20)]) hx hb dX4_findBorders_40 hl (by decide) rfl (fun ls hl => ?_)
              refine lv_iconst (v := 0) hx hb dX4_findBorders_42 (by decide) ?_
              refine lv_istore (lv' := [(6, .int 0), (4, .long (p1l 16 (nn o_6))), (0, .ref (p0a 0)), (1, .ref (p1a 0)), (2, .int v2_10), (3, .int v3_20)]) hx hb dX4_findBorders_43 hl (by decide) rfl (fun ls hl => ?_)
              have L45 : ∀ (n_45 : Nat) (v6_45 : Int32) (p0l_45 : SL) (o45 : SL) (H : Heap) (locs : List Loc) (ls : Array Slot), (fX4_findBorders_L45 p1w p1l v2_10 o_6 n_45) v6_45 p0l_45 = some o45 → va_P (dC, dI) cls ((oX4 (p0a 0) p0a p0k p0w p0l_45) ++ (oX1 (p1a 0) p1a p1k p1n p1w p1l)) H → va_D A ((oX4 (p0a 0) p0a p0k p0w p0l_45) ++ (oX1 (p1a 0) p1a p1k p1n p1w p1l)) → va_S A s.heap H locs → lv_has ls 7 [(0, .ref (p0a 0)), (1, .ref (p1a 0)), (2, .int v2_10), (3, .int v3_20), (4, .long (p1l 16 (nn o_6))), (6, .int v6_45)] → (∀ (H : Heap) (locs : List Loc) (ls : Array Slot), va_P (dC, dI) cls ((oX4 (p0a 0) p0a p0k p0w o45) ++ (oX1 (p1a 0) p1a p1k p1n p1w p1l)) H → va_D A ((oX4 (p0a 0) p0a p0k p0w o45) ++ (oX1 (p1a 0) p1a p1k p1n p1w p1l)) → va_S A s.heap H locs → lv_has ls 7 [(0, .ref (p0a 0)), (1, .ref (p1a 0)), (2, .int v2_10), (3, .int v3_20)] → W p l e ({ frames := 1, cells := 0, slots := 0, locals := 24 } : Room) s m ([.ref (p0a 0), .ref (p1a 0)] : List Value).toArray below meth c H locs 0 0 Q (F0 m 103 ls [])) → W p l e ({ frames := 1, cells := 0, slots := 0, locals := 24 } : Room) s m ([.ref (p0a 0), .ref (p1a 0)] : List Value).toArray below meth c H locs 0 0 Q (F0 m 45 ls []) := by
                intro n_45
                induction n_45 with
                | zero => intro v6_45 p0l_45 o45 H locs ls hrun; exact (no9 rfl hrun).elim
                | succ n_45 IH45 =>
                  intro v6_45 p0l_45 o45 H locs ls hrun hP hD hS hl hk45
                  unfold fX4_findBorders_L45 at hrun
                  refine lv_iload hx hb dX4_findBorders_45 (lv_at hl 5 rfl) ?_
                  refine lv_aload_n hx hb dX4_findBorders_47 rfl (lv_at hl 1 rfl) ?_
                  refine va_get (D := (dC, dI)) (ci := 4) (v := .int (p1w 0 0)) (C := RX1) (T := TX1) (N := 21) hx hb hts i_X1 hown hK hP 19 rfl rfl 0 (by decide) (hts _ qw276) (fun _ h9 => h9) rfl dX4_findBorders_48 ?_
                  rcases br9 hrun with ⟨hc9, hrun⟩ | ⟨hc9, hrun⟩
                  · refine lv_icmp_ge (tgt := 103) hx hb dX4_findBorders_51 (by decide) (fun _ => ?_) (fun c => absurd hc9 c)
                    obtain rfl := (Option.some.inj hrun)
                    exact hk45 _ _ _ hP hD hS (lv_sub hl [0, 1, 2, 3] rfl)
                  · refine lv_icmp_ge (tgt := 103) hx hb dX4_findBorders_51 (by decide) (fun c => absurd c hc9) (fun _ => ?_)
                    refine lv_lload hx hb dX4_findBorders_54 (lv_at hl 4 rfl) ?_
                    refine lv_iload hx hb dX4_findBorders_56 (lv_at hl 5 rfl) ?_
                    obtain ⟨o_10, hc_10, hrun⟩ := bnd9 hrun
                    have hPc := hP.sub (ws' := ([] : va_W)) [] rfl
                    have hDc := hD.sub (ws' := ([] : va_W)) [] (by decide) rfl
                    have hKc := hK.sub (tys' := ([] : List (ClassId × FieldType))) [] rfl
                    have hFc := va_free (wc := ([] : va_W)) hD hS hA [] rfl
                    refine va_calli (va_runSN (As := [.long (p1l 16 (nn o_6)), .int v6_45]) (rest := []) ⟨hx, hb, hml, hown, hts⟩ (kX11_holds l dC dI (p0 := (p1l 16 (nn o_6))) (p1 := v6_45) (sz := _) (o := o_10) (hrun := hc_10)) ⟨(va_cnB 2 hts (gi_z qw158) rfl rfl rfl (hE.nw (List.mem_append_right _ (tbl_6 (i := 75) rfl)) rfl) (hts _ qw159) (by decide +kernel) ⟨Nat.le_of_ble_eq_true rfl, Nat.le_of_ble_eq_true rfl⟩), (hts _ qw160), trivial⟩ ⟨PRE.blind, PRE.of hE hS hFc hPc hKc hDc⟩ rfl rfl hl.1 rfl (lv_room (Nat.le_of_ble_eq_true rfl)) dX4_findBorders_58 ⟨Nat.le_of_ble_eq_true rfl, Nat.le_of_ble_eq_true rfl⟩) hS (fun q _ h => hFc q h) hFc (fun r11 u t H locs ht hvm hw hB hz1 hk1 hS => ?_)
                    obtain ⟨hP, hD, hK⟩ := JOIN (wr := ((oX4 (p0a 0) p0a p0k p0w p0l_45) ++ (oX1 (p1a 0) p1a p1k p1n p1w p1l))) hP hD hK [] [0, 1, 2, 3, 4, 5, 6, 7, 8, 9, 10, 11, 12, 13, 14, 15, 16, 17, 18, 19, 20, 21, 22, 23, 24, 25, 26, 27, 28, 29, 30, 31, 32, 33, 34, 35, 36] [0, 1, 2, 3, 4, 5, 6, 7, 8, 9, 10, 11, 12, 13, 14, 15, 16, 17, 18, 19, 20, 21, 22, 23, 24, 25, 26, 27, 28, 29, 30, 31, 32, 33, 34] rfl rfl (by decide) (by decide) rfl hk1 hFc ht hvm hB
                    have hP : va_P (dC, dI) cls ((oX4 (p0a 0) p0a p0k p0w p0l_45) ++ (oX1 (p1a 0) p1a p1k p1n p1w p1l)) H := hP.sub [0, 1, 2, 3, 4, 5, 6, 7, 8, 9, 10, 11, 12, 13, 14, 15, 16, 17, 18, 19, 20, 21, 22, 23, 24, 25, 26, 27, 28, 29, 30, 31, 32, 33, 34, 35, 36] rfl
                    have hD : va_D A ((oX4 (p0a 0) p0a p0k p0w p0l_45) ++ (oX1 (p1a 0) p1a p1k p1n p1w p1l)) := hD.sub [0, 1, 2, 3, 4, 5, 6, 7, 8, 9, 10, 11, 12, 13, 14, 15, 16, 17, 18, 19, 20, 21, 22, 23, 24, 25, 26, 27, 28, 29, 30, 31, 32, 33, 34, 35, 36] (by decide) rfl
                    have hK : va_K (dC, dI) cls ((tX4 p0k) ++ (tX1 p1k)) s := hK.sub [0, 1, 2, 3, 4, 5, 6, 7, 8, 9, 10, 11, 12, 13, 14, 15, 16, 17, 18, 19, 20, 21, 22, 23, 24, 25, 26, 27, 28, 29, 30, 31, 32, 33, 34] rfl
                    obtain rfl : o_10 = r11 := hw.symm
                    have J97 : ∀ (p0l_97 : SL) (H : Heap) (locs : List Loc) (ls : Array Slot), (fX4_findBorders_J97 (fX4_findBorders_L45 p1w p1l v2_10 o_6 n_45) v6_45 p0l_97) = some o45 → va_P (dC, dI) cls ((oX4 (p0a 0) p0a p0k p0w p0l_97) ++ (oX1 (p1a 0) p1a p1k p1n p1w p1l)) H → va_D A ((oX4 (p0a 0) p0a p0k p0w p0l_97) ++ (oX1 (p1a 0) p1a p1k p1n p1w p1l)) → va_S A s.heap H locs → lv_has ls 7 [(0, .ref (p0a 0)), (1, .ref (p1a 0)), (2, .int v2_10), (3, .int v3_20), (4, .long (p1l 16 (nn o_6))), (6, .int v6_45)] → W p l e ({ frames := 1, cells := 0, slots := 0, locals := 24 } : Room) s m ([.ref (p0a 0), .ref (p1a 0)] : List Value).toArray below meth c H locs 0 0 Q (F0 m 97 ls []) := by
                      intro p0l_97 H locs ls hrun hP hD hS hl
                      unfold fX4_findBorders_J97 at hrun
                      refine lv_iinc (v := (v6_45 + 1)) (lv' := [(6, .int (v6_45 + 1)), (0, .ref (p0a 0)), (1, .ref (p1a 0)), (2, .int v2_10), (3, .int v3_20), (4, .long (p1l 16 (nn o_6)))]) hx hb dX4_findBorders_97 hl (k := 5) rfl rfl (by decide) rfl (fun ls hl => ?_)
                      refine lv_goto (tgt := 45) hx hb dX4_findBorders_100 (by decide) ?_
                      exact IH45 (v6_45 + 1) p0l_97 o45 _ _ _ hrun hP hD hS (lv_sub hl [1, 2, 3, 4, 5, 0] rfl) hk45
                    rcases br9 hrun with ⟨hc12, hrun⟩ | ⟨hc12, hrun⟩
                    · refine lv_if_eq (tgt := 97) hx hb dX4_findBorders_61 (by decide) (fun _ => ?_) (fun c => absurd hc12 c)
                      exact J97 p0l_45 _ _ _ hrun hP hD hS (lv_sub hl [0, 1, 2, 3, 4, 5] rfl)
                    · refine lv_if_eq (tgt := 97) hx hb dX4_findBorders_61 (by decide) (fun c => absurd c hc12) (fun _ => ?_)
                      refine lv_iload hx hb dX4_findBorders_64 (lv_at hl 5 rfl) ?_
                      refine lv_iload_n hx hb dX4_findBorders_66 rfl (lv_at hl 2 rfl) ?_
                      have J84 : ∀ (H : Heap) (locs : List Loc) (ls : Array Slot), (fX4_findBorders_J84 (fX4_findBorders_L45 p1w p1l v2_10 o_6 n_45) v2_10 v6_45 p0l_45) = some o45 → va_P (dC, dI) cls ((oX4 (p0a 0) p0a p0k p0w p0l_45) ++ (oX1 (p1a 0) p1a p1k p1n p1w p1l)) H → va_D A ((oX4 (p0a 0) p0a p0k p0w p0l_45) ++ (oX1 (p1a 0) p1a p1k p1n p1w p1l)) → va_S A s.heap H locs → lv_has ls 7 [(0, .ref (p0a 0)), (1, .ref (p1a 0)), (2, .int v2_10), (3, .int v3_20), (4, .long (p1l 16 (nn o_6))), (6, .int v6_45)] → W p l e ({ frames := 1, cells := 0, slots := 0, locals := 24 } : Room) s m ([.ref (p0a 0), .ref (p1a 0)] : List Value).toArray below meth c H locs 0 0 Q (F0 m 84 ls []) := by
                        intro  H locs ls hrun hP hD hS hl
                        unfold fX4_findBorders_J84 at hrun
                        refine lv_aload_n hx hb dX4_findBorders_84 rfl (lv_at hl 0 rfl) ?_
                        refine va_get (D := (dC, dI)) (ci := 6) (v := .ref (p0a 18)) (C := RX4) (T := TX4) (N := 20) hx hb hts i_X4 hown hK hP 0 rfl rfl 17 (by decide) (hts _ qw283) (fun _ h9 => h9) rfl dX4_findBorders_85 ?_
                        refine lv_iload hx hb dX4_findBorders_88 (lv_at hl 5 rfl) ?_
                        refine lv_dup2_11 hx hb dX4_findBorders_90 rfl rfl ?_
                        obtain ⟨hq13, hrun⟩ := chk9 hrun
                        refine va_lald hx hb hK hP 16 15 rfl rfl (ixb_in hq13) dX4_findBorders_91 ?_
                        refine lv_lconst (v := 1) hx hb dX4_findBorders_92 (by decide) ?_
                        refine lv_iload_n hx hb dX4_findBorders_93 rfl (lv_at hl 2 rfl) ?_
                        refine lv_lshl (v := (((1 : Int64) <<< ((v2_10 : Int32).toInt64 &&& 63)))) hx hb dX4_findBorders_94 rfl ?_
                        refine lv_lor hx hb dX4_findBorders_95 ?_
                        obtain ⟨hq14, hrun⟩ := chk9 hrun
                        refine va_last hx hb hK hP hD hS 16 15 rfl rfl (ixb_in hq14) dX4_findBorders_96 (fun H locs hP hD hS => ?_)
                        have hP : va_P (dC, dI) cls ((oX4 (p0a 0) p0a p0k p0w (upl p0l_45 18 (nn v6_45) ((p0l_45 18 (nn v6_45)) ||| (((1 : Int64) <<< ((v2_10 : Int32).toInt64 &&& 63)))))) ++ (oX1 (p1a 0) p1a p1k p1n p1w p1l)) H := hP
                        have hD : va_D A ((oX4 (p0a 0) p0a p0k p0w (upl p0l_45 18 (nn v6_45) ((p0l_45 18 (nn v6_45)) ||| (((1 : Int64) <<< ((v2_10 : Int32).toInt64 &&& 63)))))) ++ (oX1 (p1a 0) p1a p1k p1n p1w p1l)) := hD
                        obtain ⟨l15, el15, hrun⟩ := let9 hrun
                        rw [← el15] at hP hD
                        exact J97 l15 _ _ _ hrun hP hD hS (lv_sub hl [0, 1, 2, 3, 4, 5] rfl)
                      rcases br9 hrun with ⟨hc16, hrun⟩ | ⟨hc16, hrun⟩
                      · refine lv_icmp_eq (tgt := 84) hx hb dX4_findBorders_67 (by decide) (fun _ => ?_) (fun c => absurd hc16 c)
                        exact J84 _ _ _ hrun hP hD hS (lv_sub hl [0, 1, 2, 3, 4, 5] rfl)
                      · refine lv_icmp_eq (tgt := 84) hx hb dX4_findBorders_67 (by decide) (fun c => absurd c hc16) (fun _ => ?_)
                        refine lv_aload_n hx hb dX4_findBorders_70 rfl (lv_at hl 1 rfl) ?_
                        refine va_get (D := (dC, dI)) (ci := 4) (v := .ref (p1a 16)) (C := RX1) (T := TX1) (N := 21) hx hb hts i_X1 hown hK hP 19 rfl rfl 15 (by decide) (hts _ qw287) (fun _ h9 => h9) rfl dX4_findBorders_71 ?_
                        refine lv_iload_n hx hb dX4_findBorders_74 rfl (lv_at hl 2 rfl) ?_
                        obtain ⟨hq17, hrun⟩ := chk9 hrun
                        refine va_lald hx hb hK hP 32 30 rfl rfl (ixb_in hq17) dX4_findBorders_75 ?_
                        refine lv_iload hx hb dX4_findBorders_76 (lv_at hl 5 rfl) ?_
                        obtain ⟨o_18, hc_18, hrun⟩ := bnd9 hrun
                        have hPc := hP.sub (ws' := ([] : va_W)) [] rfl
                        have hDc := hD.sub (ws' := ([] : va_W)) [] (by decide) rfl
                        have hKc := hK.sub (tys' := ([] : List (ClassId × FieldType))) [] rfl
                        have hFc := va_free (wc := ([] : va_W)) hD hS hA [] rfl
                        refine va_calli (va_runSN (As := [.long (p1l 16 (nn v2_10)), .int v6_45]) (rest := []) ⟨hx, hb, hml, hown, hts⟩ (kX11_holds l dC dI (p0 := (p1l 16 (nn v2_10))) (p1 := v6_45) (sz := _) (o := o_18) (hrun := hc_18)) ⟨(va_cnB 2 hts (gi_z qw158) rfl rfl rfl (hE.nw (List.mem_append_right _ (tbl_6 (i := 75) rfl)) rfl) (hts _ qw159) (by decide +kernel) ⟨Nat.le_of_ble_eq_true rfl, Nat.le_of_ble_eq_true rfl⟩), (hts _ qw160), trivial⟩ ⟨PRE.blind, PRE.of hE hS hFc hPc hKc hDc⟩ rfl rfl hl.1 rfl (lv_room (Nat.le_of_ble_eq_true rfl)) dX4_findBorders_78 ⟨Nat.le_of_ble_eq_true rfl, Nat.le_of_ble_eq_true rfl⟩) hS (fun q _ h => hFc q h) hFc (fun r19 u t H locs ht hvm hw hB hz1 hk1 hS => ?_)
                        obtain ⟨hP, hD, hK⟩ := JOIN (wr := ((oX4 (p0a 0) p0a p0k p0w p0l_45) ++ (oX1 (p1a 0) p1a p1k p1n p1w p1l))) hP hD hK [] [0, 1, 2, 3, 4, 5, 6, 7, 8, 9, 10, 11, 12, 13, 14, 15, 16, 17, 18, 19, 20, 21, 22, 23, 24, 25, 26, 27, 28, 29, 30, 31, 32, 33, 34, 35, 36] [0, 1, 2, 3, 4, 5, 6, 7, 8, 9, 10, 11, 12, 13, 14, 15, 16, 17, 18, 19, 20, 21, 22, 23, 24, 25, 26, 27, 28, 29, 30, 31, 32, 33, 34] rfl rfl (by decide) (by decide) rfl hk1 hFc ht hvm hB
                        have hP : va_P (dC, dI) cls ((oX4 (p0a 0) p0a p0k p0w p0l_45) ++ (oX1 (p1a 0) p1a p1k p1n p1w p1l)) H := hP.sub [0, 1, 2, 3, 4, 5, 6, 7, 8, 9, 10, 11, 12, 13, 14, 15, 16, 17, 18, 19, 20, 21, 22, 23, 24, 25, 26, 27, 28, 29, 30, 31, 32, 33, 34, 35, 36] rfl
                        have hD : va_D A ((oX4 (p0a 0) p0a p0k p0w p0l_45) ++ (oX1 (p1a 0) p1a p1k p1n p1w p1l)) := hD.sub [0, 1, 2, 3, 4, 5, 6, 7, 8, 9, 10, 11, 12, 13, 14, 15, 16, 17, 18, 19, 20, 21, 22, 23, 24, 25, 26, 27, 28, 29, 30, 31, 32, 33, 34, 35, 36] (by decide) rfl
                        have hK : va_K (dC, dI) cls ((tX4 p0k) ++ (tX1 p1k)) s := hK.sub [0, 1, 2, 3, 4, 5, 6, 7, 8, 9, 10, 11, 12, 13, 14, 15, 16, 17, 18, 19, 20, 21, 22, 23, 24, 25, 26, 27, 28, 29, 30, 31, 32, 33, 34] rfl
                        obtain rfl : o_18 = r19 := hw.symm
                        rcases br9 hrun with ⟨hc20, hrun⟩ | ⟨hc20, hrun⟩
                        · refine lv_if_ne (tgt := 97) hx hb dX4_findBorders_81 (by decide) (fun c => absurd hc20 c) (fun _ => ?_)
                          exact J84 _ _ _ hrun hP hD hS (lv_sub hl [0, 1, 2, 3, 4, 5] rfl)
                        · refine lv_if_ne (tgt := 97) hx hb dX4_findBorders_81 (by decide) (fun _ => ?_) (fun c => absurd c hc20)
                          exact J97 p0l_45 _ _ _ hrun hP hD hS (lv_sub hl [0, 1, 2, 3, 4, 5] rfl)
              obtain ⟨o45, hc45, hrun⟩ := bnd9 hrun
              refine L45 NF 0 p0l_20 o45 _ _ _ hc45 hP hD hS (lv_sub hl [2, 3, 4, 5, 1, 0] rfl) ?_
              intro H locs ls hP hD hS hl
              have hl := hl
              refine lv_iinc (v := (v3_20 + 1)) (lv' := [(3, .int (v3_20 + 1)), (0, .ref (p0a 0)), (1, .ref (p1a 0)), (2, .int v2_10)]) hx hb dX4_findBorders_103 hl (k := 3) rfl rfl (by decide) rfl (fun ls hl => ?_)
              refine lv_goto (tgt := 20) hx hb dX4_findBorders_106 (by decide) ?_
              exact IH20 (v3_20 + 1) o45 o20 _ _ _ hrun hP hD hS (lv_sub hl [1, 2, 3, 0] rfl) hk20
        obtain ⟨o20, hc20, hrun⟩ := bnd9 hrun
        refine L20 NF 0 p0l_10 o20 _ _ _ hc20 hP hD hS (lv_sub hl [1, 2, 3, 0] rfl) ?_
        intro H locs ls hP hD hS hl
        have hl := hl
        refine lv_iinc (v := (v2_10 + 1)) (lv' := [(2, .int (v2_10 + 1)), (0, .ref (p0a 0)), (1, .ref (p1a 0))]) hx hb dX4_findBorders_109 hl (k := 2) rfl rfl (by decide) rfl (fun ls hl => ?_)
        refine lv_goto (tgt := 10) hx hb dX4_findBorders_112 (by decide) ?_
        exact IH10 (v2_10 + 1) o20 o10 _ _ _ hrun hP hD hS (lv_sub hl [1, 2, 0] rfl) hk10
  obtain ⟨o10, hc10, hrun⟩ := bnd9 hrun
  refine L10 NF 0 (srl p0l 18 o_1) o10 _ _ _ hc10 hP hD hS (lv_sub hl [1, 2, 0] rfl) ?_
  intro H locs ls hP hD hS hl
  have hl := hl
  have ho9 : o10 = o := Option.some.inj hrun
  have hP9 : va_P (dC, dI) cls ((oX4 (p0a 0) p0a p0k p0w o) ++ (oX1 (p1a 0) p1a p1k p1n p1w p1l)) H := by first | exact hP | (rw [← ho9]; exact hP)
  have hD9 : va_D A ((oX4 (p0a 0) p0a p0k p0w o) ++ (oX1 (p1a 0) p1a p1k p1n p1w p1l)) := by first | exact hD | (rw [← ho9]; exact hD)
  subst hQ
  exact W.vret hx hb hr (fun t ht hW => ⟨⟨(), rfl, trivial, ⟨by rw [ht]; exact hP9, va_K.moved hW.alike hK, hD9⟩⟩, hS.F ht⟩) hS.2.2 dX4_findBorders_115
