abbrev cX2_meetInBlock : ByteArray := prog_4_method_10_code
def yX2_meetInBlock : MethodName := ⟨RX2, "meetInBlock", "(LGearbox$Flow;I)V"⟩
abbrev cX2_meet : ByteArray := prog_4_method_15_code
def yX2_meet : MethodName := ⟨RX2, "meet", "(II)V"⟩
abbrev cX2_removeLive : ByteArray := prog_4_method_14_code
def yX2_removeLive : MethodName := ⟨RX2, "removeLive", "(I)V"⟩
abbrev cX2_mirror : ByteArray := prog_4_method_17_code
def yX2_mirror : MethodName := ⟨RX2, "mirror", "()V"⟩
abbrev cX11_lowest : ByteArray := prog_1_method_70_code
def yX11_lowest : MethodName := ⟨RX11, "lowest", "(J)I"⟩
def RJ13 : String := "java/lang/Long"
abbrev cJ13_bitCount_95d88 : ByteArray := prog_38_method_50_code
def yJ13_bitCount_95d88 : MethodName := ⟨RJ13, "bitCount", "(J)I"⟩
abbrev cX2_countDegrees : ByteArray := prog_4_method_18_code
def yX2_countDegrees : MethodName := ⟨RX2, "countDegrees", "()V"⟩
theorem dJ13_bitCount_95d88_0 : decode cJ13_bitCount_95d88 0 = .ok (.lload_n 0, 1) := by decide +kernel
theorem dJ13_bitCount_95d88_1 : decode cJ13_bitCount_95d88 1 = .ok (.lload_n 0, 1) := by decide +kernel
theorem dJ13_bitCount_95d88_2 : decode cJ13_bitCount_95d88 2 = .ok (.iconst 1, 1) := by decide +kernel
theorem dJ13_bitCount_95d88_3 : decode cJ13_bitCount_95d88 3 = .ok (.lushr, 1) := by decide +kernel
theorem dJ13_bitCount_95d88_4 : decode cJ13_bitCount_95d88 4 = .ok (.ldc2_w 314, 3) := by decide +kernel
theorem dJ13_bitCount_95d88_7 : decode cJ13_bitCount_95d88 7 = .ok (.land, 1) := by decide +kernel
theorem dJ13_bitCount_95d88_8 : decode cJ13_bitCount_95d88 8 = .ok (.lsub, 1) := by decide +kernel
theorem dJ13_bitCount_95d88_9 : decode cJ13_bitCount_95d88 9 = .ok (.lstore_n 0, 1) := by decide +kernel
theorem dJ13_bitCount_95d88_10 : decode cJ13_bitCount_95d88 10 = .ok (.lload_n 0, 1) := by decide +kernel
theorem dJ13_bitCount_95d88_11 : decode cJ13_bitCount_95d88 11 = .ok (.ldc2_w 316, 3) := by decide +kernel
theorem dJ13_bitCount_95d88_14 : decode cJ13_bitCount_95d88 14 = .ok (.land, 1) := by decide +kernel
theorem dJ13_bitCount_95d88_15 : decode cJ13_bitCount_95d88 15 = .ok (.lload_n 0, 1) := by decide +kernel
theorem dJ13_bitCount_95d88_16 : decode cJ13_bitCount_95d88 16 = .ok (.iconst 2, 1) := by decide +kernel
theorem dJ13_bitCount_95d88_17 : decode cJ13_bitCount_95d88 17 = .ok (.lushr, 1) := by decide +kernel
theorem dJ13_bitCount_95d88_18 : decode cJ13_bitCount_95d88 18 = .ok (.ldc2_w 316, 3) := by decide +kernel
theorem dJ13_bitCount_95d88_21 : decode cJ13_bitCount_95d88 21 = .ok (.land, 1) := by decide +kernel
theorem dJ13_bitCount_95d88_22 : decode cJ13_bitCount_95d88 22 = .ok (.ladd, 1) := by decide +kernel
theorem dJ13_bitCount_95d88_23 : decode cJ13_bitCount_95d88 23 = .ok (.lstore_n 0, 1) := by decide +kernel
theorem dJ13_bitCount_95d88_24 : decode cJ13_bitCount_95d88 24 = .ok (.lload_n 0, 1) := by decide +kernel
theorem dJ13_bitCount_95d88_25 : decode cJ13_bitCount_95d88 25 = .ok (.lload_n 0, 1) := by decide +kernel
theorem dJ13_bitCount_95d88_26 : decode cJ13_bitCount_95d88 26 = .ok (.iconst 4, 1) := by decide +kernel
theorem dJ13_bitCount_95d88_27 : decode cJ13_bitCount_95d88 27 = .ok (.lushr, 1) := by decide +kernel
theorem dJ13_bitCount_95d88_28 : decode cJ13_bitCount_95d88 28 = .ok (.ladd, 1) := by decide +kernel
theorem dJ13_bitCount_95d88_29 : decode cJ13_bitCount_95d88 29 = .ok (.ldc2_w 318, 3) := by decide +kernel
theorem dJ13_bitCount_95d88_32 : decode cJ13_bitCount_95d88 32 = .ok (.land, 1) := by decide +kernel
theorem dJ13_bitCount_95d88_33 : decode cJ13_bitCount_95d88 33 = .ok (.lstore_n 0, 1) := by decide +kernel
theorem dJ13_bitCount_95d88_34 : decode cJ13_bitCount_95d88 34 = .ok (.lload_n 0, 1) := by decide +kernel
theorem dJ13_bitCount_95d88_35 : decode cJ13_bitCount_95d88 35 = .ok (.lload_n 0, 1) := by decide +kernel
theorem dJ13_bitCount_95d88_36 : decode cJ13_bitCount_95d88 36 = .ok (.bipush 8, 2) := by decide +kernel
theorem dJ13_bitCount_95d88_38 : decode cJ13_bitCount_95d88 38 = .ok (.lushr, 1) := by decide +kernel
theorem dJ13_bitCount_95d88_39 : decode cJ13_bitCount_95d88 39 = .ok (.ladd, 1) := by decide +kernel
theorem dJ13_bitCount_95d88_40 : decode cJ13_bitCount_95d88 40 = .ok (.lstore_n 0, 1) := by decide +kernel
theorem dJ13_bitCount_95d88_41 : decode cJ13_bitCount_95d88 41 = .ok (.lload_n 0, 1) := by decide +kernel
theorem dJ13_bitCount_95d88_42 : decode cJ13_bitCount_95d88 42 = .ok (.lload_n 0, 1) := by decide +kernel
theorem dJ13_bitCount_95d88_43 : decode cJ13_bitCount_95d88 43 = .ok (.bipush 16, 2) := by decide +kernel
theorem dJ13_bitCount_95d88_45 : decode cJ13_bitCount_95d88 45 = .ok (.lushr, 1) := by decide +kernel
theorem dJ13_bitCount_95d88_46 : decode cJ13_bitCount_95d88 46 = .ok (.ladd, 1) := by decide +kernel
theorem dJ13_bitCount_95d88_47 : decode cJ13_bitCount_95d88 47 = .ok (.lstore_n 0, 1) := by decide +kernel
theorem dJ13_bitCount_95d88_48 : decode cJ13_bitCount_95d88 48 = .ok (.lload_n 0, 1) := by decide +kernel
theorem dJ13_bitCount_95d88_49 : decode cJ13_bitCount_95d88 49 = .ok (.lload_n 0, 1) := by decide +kernel
theorem dJ13_bitCount_95d88_50 : decode cJ13_bitCount_95d88 50 = .ok (.bipush 32, 2) := by decide +kernel
theorem dJ13_bitCount_95d88_52 : decode cJ13_bitCount_95d88 52 = .ok (.lushr, 1) := by decide +kernel
theorem dJ13_bitCount_95d88_53 : decode cJ13_bitCount_95d88 53 = .ok (.ladd, 1) := by decide +kernel
theorem dJ13_bitCount_95d88_54 : decode cJ13_bitCount_95d88 54 = .ok (.lstore_n 0, 1) := by decide +kernel
theorem dJ13_bitCount_95d88_55 : decode cJ13_bitCount_95d88 55 = .ok (.lload_n 0, 1) := by decide +kernel
theorem dJ13_bitCount_95d88_56 : decode cJ13_bitCount_95d88 56 = .ok (.l2i, 1) := by decide +kernel
theorem dJ13_bitCount_95d88_57 : decode cJ13_bitCount_95d88 57 = .ok (.bipush 127, 2) := by decide +kernel
theorem dJ13_bitCount_95d88_59 : decode cJ13_bitCount_95d88 59 = .ok (.iand, 1) := by decide +kernel
theorem dJ13_bitCount_95d88_60 : decode cJ13_bitCount_95d88 60 = .ok (.ireturn, 1) := by decide +kernel
theorem dX11_lowest_0 : decode cX11_lowest 0 = .ok (.lload_n 0, 1) := by decide +kernel
theorem dX11_lowest_1 : decode cX11_lowest 1 = .ok (.lload_n 0, 1) := by decide +kernel
theorem dX11_lowest_2 : decode cX11_lowest 2 = .ok (.lneg, 1) := by decide +kernel
theorem dX11_lowest_3 : decode cX11_lowest 3 = .ok (.land, 1) := by decide +kernel
theorem dX11_lowest_4 : decode cX11_lowest 4 = .ok (.lconst 1, 1) := by decide +kernel
theorem dX11_lowest_5 : decode cX11_lowest 5 = .ok (.lsub, 1) := by decide +kernel
theorem dX11_lowest_6 : decode cX11_lowest 6 = .ok (.invokestatic 381, 3) := by decide +kernel
theorem dX11_lowest_9 : decode cX11_lowest 9 = .ok (.ireturn, 1) := by decide +kernel
theorem dX2_countDegrees_0 : decode cX2_countDegrees 0 = .ok (.iconst 0, 1) := by decide +kernel
theorem dX2_countDegrees_1 : decode cX2_countDegrees 1 = .ok (.istore_n 1, 1) := by decide +kernel
theorem dX2_countDegrees_2 : decode cX2_countDegrees 2 = .ok (.iload_n 1, 1) := by decide +kernel
theorem dX2_countDegrees_3 : decode cX2_countDegrees 3 = .ok (.aload_n 0, 1) := by decide +kernel
theorem dX2_countDegrees_4 : decode cX2_countDegrees 4 = .ok (.getfield 62, 3) := by decide +kernel
theorem dX2_countDegrees_7 : decode cX2_countDegrees 7 = .ok (.if_icmp .ge 70, 3) := by decide +kernel
theorem dX2_countDegrees_10 : decode cX2_countDegrees 10 = .ok (.aload_n 0, 1) := by decide +kernel
theorem dX2_countDegrees_11 : decode cX2_countDegrees 11 = .ok (.getfield 37, 3) := by decide +kernel
theorem dX2_countDegrees_14 : decode cX2_countDegrees 14 = .ok (.iload_n 1, 1) := by decide +kernel
theorem dX2_countDegrees_15 : decode cX2_countDegrees 15 = .ok (.aload_n 0, 1) := by decide +kernel
theorem dX2_countDegrees_16 : decode cX2_countDegrees 16 = .ok (.getfield 34, 3) := by decide +kernel
theorem dX2_countDegrees_19 : decode cX2_countDegrees 19 = .ok (.iload_n 1, 1) := by decide +kernel
theorem dX2_countDegrees_20 : decode cX2_countDegrees 20 = .ok (.iaload, 1) := by decide +kernel
theorem dX2_countDegrees_21 : decode cX2_countDegrees 21 = .ok (.ifCond .lt 7, 3) := by decide +kernel
theorem dX2_countDegrees_24 : decode cX2_countDegrees 24 = .ok (.iconst 1, 1) := by decide +kernel
theorem dX2_countDegrees_25 : decode cX2_countDegrees 25 = .ok (.goto 4, 3) := by decide +kernel
theorem dX2_countDegrees_28 : decode cX2_countDegrees 28 = .ok (.iconst 0, 1) := by decide +kernel
theorem dX2_countDegrees_29 : decode cX2_countDegrees 29 = .ok (.iastore, 1) := by decide +kernel
theorem dX2_countDegrees_30 : decode cX2_countDegrees 30 = .ok (.iconst 0, 1) := by decide +kernel
theorem dX2_countDegrees_31 : decode cX2_countDegrees 31 = .ok (.istore_n 2, 1) := by decide +kernel
theorem dX2_countDegrees_32 : decode cX2_countDegrees 32 = .ok (.iload_n 2, 1) := by decide +kernel
theorem dX2_countDegrees_33 : decode cX2_countDegrees 33 = .ok (.aload_n 0, 1) := by decide +kernel
theorem dX2_countDegrees_34 : decode cX2_countDegrees 34 = .ok (.getfield 65, 3) := by decide +kernel
theorem dX2_countDegrees_37 : decode cX2_countDegrees 37 = .ok (.if_icmp .ge 34, 3) := by decide +kernel
theorem dX2_countDegrees_40 : decode cX2_countDegrees 40 = .ok (.aload_n 0, 1) := by decide +kernel
theorem dX2_countDegrees_41 : decode cX2_countDegrees 41 = .ok (.getfield 37, 3) := by decide +kernel
theorem dX2_countDegrees_44 : decode cX2_countDegrees 44 = .ok (.iload_n 1, 1) := by decide +kernel
theorem dX2_countDegrees_45 : decode cX2_countDegrees 45 = .ok (.dup2, 1) := by decide +kernel
theorem dX2_countDegrees_46 : decode cX2_countDegrees 46 = .ok (.iaload, 1) := by decide +kernel
theorem dX2_countDegrees_47 : decode cX2_countDegrees 47 = .ok (.aload_n 0, 1) := by decide +kernel
theorem dX2_countDegrees_48 : decode cX2_countDegrees 48 = .ok (.getfield 31, 3) := by decide +kernel
theorem dX2_countDegrees_51 : decode cX2_countDegrees 51 = .ok (.iload_n 1, 1) := by decide +kernel
theorem dX2_countDegrees_52 : decode cX2_countDegrees 52 = .ok (.aload_n 0, 1) := by decide +kernel
theorem dX2_countDegrees_53 : decode cX2_countDegrees 53 = .ok (.getfield 65, 3) := by decide +kernel
theorem dX2_countDegrees_56 : decode cX2_countDegrees 56 = .ok (.imul, 1) := by decide +kernel
theorem dX2_countDegrees_57 : decode cX2_countDegrees 57 = .ok (.iload_n 2, 1) := by decide +kernel
theorem dX2_countDegrees_58 : decode cX2_countDegrees 58 = .ok (.iadd, 1) := by decide +kernel
theorem dX2_countDegrees_59 : decode cX2_countDegrees 59 = .ok (.laload, 1) := by decide +kernel
theorem dX2_countDegrees_60 : decode cX2_countDegrees 60 = .ok (.invokestatic 207, 3) := by decide +kernel
theorem dX2_countDegrees_63 : decode cX2_countDegrees 63 = .ok (.iadd, 1) := by decide +kernel
theorem dX2_countDegrees_64 : decode cX2_countDegrees 64 = .ok (.iastore, 1) := by decide +kernel
theorem dX2_countDegrees_65 : decode cX2_countDegrees 65 = .ok (.iinc 2 1, 3) := by decide +kernel
theorem dX2_countDegrees_68 : decode cX2_countDegrees 68 = .ok (.goto (-36), 3) := by decide +kernel
theorem dX2_countDegrees_71 : decode cX2_countDegrees 71 = .ok (.iinc 1 1, 3) := by decide +kernel
theorem dX2_countDegrees_74 : decode cX2_countDegrees 74 = .ok (.goto (-72), 3) := by decide +kernel
theorem dX2_countDegrees_77 : decode cX2_countDegrees 77 = .ok (.aload_n 0, 1) := by decide +kernel
theorem dX2_countDegrees_78 : decode cX2_countDegrees 78 = .ok (.getfield 58, 3) := by decide +kernel
theorem dX2_countDegrees_81 : decode cX2_countDegrees 81 = .ok (.istore_n 1, 1) := by decide +kernel
theorem dX2_countDegrees_82 : decode cX2_countDegrees 82 = .ok (.iload_n 1, 1) := by decide +kernel
theorem dX2_countDegrees_83 : decode cX2_countDegrees 83 = .ok (.aload_n 0, 1) := by decide +kernel
theorem dX2_countDegrees_84 : decode cX2_countDegrees 84 = .ok (.getfield 62, 3) := by decide +kernel
theorem dX2_countDegrees_87 : decode cX2_countDegrees 87 = .ok (.if_icmp .ge 72, 3) := by decide +kernel
theorem dX2_countDegrees_90 : decode cX2_countDegrees 90 = .ok (.iconst 0, 1) := by decide +kernel
theorem dX2_countDegrees_91 : decode cX2_countDegrees 91 = .ok (.istore_n 2, 1) := by decide +kernel
theorem dX2_countDegrees_92 : decode cX2_countDegrees 92 = .ok (.iload_n 2, 1) := by decide +kernel
theorem dX2_countDegrees_93 : decode cX2_countDegrees 93 = .ok (.aload_n 0, 1) := by decide +kernel
theorem dX2_countDegrees_94 : decode cX2_countDegrees 94 = .ok (.getfield 65, 3) := by decide +kernel
theorem dX2_countDegrees_97 : decode cX2_countDegrees 97 = .ok (.if_icmp .ge 56, 3) := by decide +kernel
theorem dX2_countDegrees_100 : decode cX2_countDegrees 100 = .ok (.aload_n 0, 1) := by decide +kernel
theorem dX2_countDegrees_101 : decode cX2_countDegrees 101 = .ok (.getfield 31, 3) := by decide +kernel
theorem dX2_countDegrees_104 : decode cX2_countDegrees 104 = .ok (.iload_n 1, 1) := by decide +kernel
theorem dX2_countDegrees_105 : decode cX2_countDegrees 105 = .ok (.aload_n 0, 1) := by decide +kernel
theorem dX2_countDegrees_106 : decode cX2_countDegrees 106 = .ok (.getfield 65, 3) := by decide +kernel
theorem dX2_countDegrees_109 : decode cX2_countDegrees 109 = .ok (.imul, 1) := by decide +kernel
theorem dX2_countDegrees_110 : decode cX2_countDegrees 110 = .ok (.iload_n 2, 1) := by decide +kernel
theorem dX2_countDegrees_111 : decode cX2_countDegrees 111 = .ok (.iadd, 1) := by decide +kernel
theorem dX2_countDegrees_112 : decode cX2_countDegrees 112 = .ok (.laload, 1) := by decide +kernel
theorem dX2_countDegrees_113 : decode cX2_countDegrees 113 = .ok (.lstore_n 3, 1) := by decide +kernel
theorem dX2_countDegrees_114 : decode cX2_countDegrees 114 = .ok (.lload_n 3, 1) := by decide +kernel
theorem dX2_countDegrees_115 : decode cX2_countDegrees 115 = .ok (.lconst 0, 1) := by decide +kernel
theorem dX2_countDegrees_116 : decode cX2_countDegrees 116 = .ok (.lcmp, 1) := by decide +kernel
theorem dX2_countDegrees_117 : decode cX2_countDegrees 117 = .ok (.ifCond .eq 30, 3) := by decide +kernel
theorem dX2_countDegrees_120 : decode cX2_countDegrees 120 = .ok (.aload_n 0, 1) := by decide +kernel
theorem dX2_countDegrees_121 : decode cX2_countDegrees 121 = .ok (.getfield 37, 3) := by decide +kernel
theorem dX2_countDegrees_124 : decode cX2_countDegrees 124 = .ok (.iload_n 2, 1) := by decide +kernel
theorem dX2_countDegrees_125 : decode cX2_countDegrees 125 = .ok (.bipush 64, 2) := by decide +kernel
theorem dX2_countDegrees_127 : decode cX2_countDegrees 127 = .ok (.imul, 1) := by decide +kernel
theorem dX2_countDegrees_128 : decode cX2_countDegrees 128 = .ok (.lload_n 3, 1) := by decide +kernel
theorem dX2_countDegrees_129 : decode cX2_countDegrees 129 = .ok (.invokestatic 203, 3) := by decide +kernel
theorem dX2_countDegrees_132 : decode cX2_countDegrees 132 = .ok (.iadd, 1) := by decide +kernel
theorem dX2_countDegrees_133 : decode cX2_countDegrees 133 = .ok (.dup2, 1) := by decide +kernel
theorem dX2_countDegrees_134 : decode cX2_countDegrees 134 = .ok (.iaload, 1) := by decide +kernel
theorem dX2_countDegrees_135 : decode cX2_countDegrees 135 = .ok (.iconst 1, 1) := by decide +kernel
theorem dX2_countDegrees_136 : decode cX2_countDegrees 136 = .ok (.iadd, 1) := by decide +kernel
theorem dX2_countDegrees_137 : decode cX2_countDegrees 137 = .ok (.iastore, 1) := by decide +kernel
theorem dX2_countDegrees_138 : decode cX2_countDegrees 138 = .ok (.lload_n 3, 1) := by decide +kernel
theorem dX2_countDegrees_139 : decode cX2_countDegrees 139 = .ok (.lload_n 3, 1) := by decide +kernel
theorem dX2_countDegrees_140 : decode cX2_countDegrees 140 = .ok (.lconst 1, 1) := by decide +kernel
theorem dX2_countDegrees_141 : decode cX2_countDegrees 141 = .ok (.lsub, 1) := by decide +kernel
theorem dX2_countDegrees_142 : decode cX2_countDegrees 142 = .ok (.land, 1) := by decide +kernel
theorem dX2_countDegrees_143 : decode cX2_countDegrees 143 = .ok (.lstore_n 3, 1) := by decide +kernel
theorem dX2_countDegrees_144 : decode cX2_countDegrees 144 = .ok (.goto (-30), 3) := by decide +kernel
theorem dX2_countDegrees_147 : decode cX2_countDegrees 147 = .ok (.iinc 2 1, 3) := by decide +kernel
theorem dX2_countDegrees_150 : decode cX2_countDegrees 150 = .ok (.goto (-58), 3) := by decide +kernel
theorem dX2_countDegrees_153 : decode cX2_countDegrees 153 = .ok (.iinc 1 1, 3) := by decide +kernel
theorem dX2_countDegrees_156 : decode cX2_countDegrees 156 = .ok (.goto (-74), 3) := by decide +kernel
theorem dX2_countDegrees_159 : decode cX2_countDegrees 159 = .ok (.return_, 1) := by decide +kernel
theorem dX2_meet_0 : decode cX2_meet 0 = .ok (.iconst 0, 1) := by decide +kernel
theorem dX2_meet_1 : decode cX2_meet 1 = .ok (.istore_n 3, 1) := by decide +kernel
theorem dX2_meet_2 : decode cX2_meet 2 = .ok (.iload_n 3, 1) := by decide +kernel
theorem dX2_meet_3 : decode cX2_meet 3 = .ok (.aload_n 0, 1) := by decide +kernel
theorem dX2_meet_4 : decode cX2_meet 4 = .ok (.getfield 65, 3) := by decide +kernel
theorem dX2_meet_7 : decode cX2_meet 7 = .ok (.if_icmp .ge 53, 3) := by decide +kernel
theorem dX2_meet_10 : decode cX2_meet 10 = .ok (.aload_n 0, 1) := by decide +kernel
theorem dX2_meet_11 : decode cX2_meet 11 = .ok (.getfield 31, 3) := by decide +kernel
theorem dX2_meet_14 : decode cX2_meet 14 = .ok (.iload_n 1, 1) := by decide +kernel
theorem dX2_meet_15 : decode cX2_meet 15 = .ok (.aload_n 0, 1) := by decide +kernel
theorem dX2_meet_16 : decode cX2_meet 16 = .ok (.getfield 65, 3) := by decide +kernel
theorem dX2_meet_19 : decode cX2_meet 19 = .ok (.imul, 1) := by decide +kernel
theorem dX2_meet_20 : decode cX2_meet 20 = .ok (.iload_n 3, 1) := by decide +kernel
theorem dX2_meet_21 : decode cX2_meet 21 = .ok (.iadd, 1) := by decide +kernel
theorem dX2_meet_22 : decode cX2_meet 22 = .ok (.dup2, 1) := by decide +kernel
theorem dX2_meet_23 : decode cX2_meet 23 = .ok (.laload, 1) := by decide +kernel
theorem dX2_meet_24 : decode cX2_meet 24 = .ok (.aload_n 0, 1) := by decide +kernel
theorem dX2_meet_25 : decode cX2_meet 25 = .ok (.getfield 21, 3) := by decide +kernel
theorem dX2_meet_28 : decode cX2_meet 28 = .ok (.iload_n 3, 1) := by decide +kernel
theorem dX2_meet_29 : decode cX2_meet 29 = .ok (.laload, 1) := by decide +kernel
theorem dX2_meet_30 : decode cX2_meet 30 = .ok (.aload_n 0, 1) := by decide +kernel
theorem dX2_meet_31 : decode cX2_meet 31 = .ok (.iload_n 3, 1) := by decide +kernel
theorem dX2_meet_32 : decode cX2_meet 32 = .ok (.iload_n 1, 1) := by decide +kernel
theorem dX2_meet_33 : decode cX2_meet 33 = .ok (.invokevirtual 199, 3) := by decide +kernel
theorem dX2_meet_36 : decode cX2_meet 36 = .ok (.ldc2_w 175, 3) := by decide +kernel
theorem dX2_meet_39 : decode cX2_meet 39 = .ok (.lxor, 1) := by decide +kernel
theorem dX2_meet_40 : decode cX2_meet 40 = .ok (.land, 1) := by decide +kernel
theorem dX2_meet_41 : decode cX2_meet 41 = .ok (.aload_n 0, 1) := by decide +kernel
theorem dX2_meet_42 : decode cX2_meet 42 = .ok (.iload_n 3, 1) := by decide +kernel
theorem dX2_meet_43 : decode cX2_meet 43 = .ok (.iload_n 2, 1) := by decide +kernel
theorem dX2_meet_44 : decode cX2_meet 44 = .ok (.invokevirtual 199, 3) := by decide +kernel
theorem dX2_meet_47 : decode cX2_meet 47 = .ok (.ldc2_w 175, 3) := by decide +kernel
theorem dX2_meet_50 : decode cX2_meet 50 = .ok (.lxor, 1) := by decide +kernel
theorem dX2_meet_51 : decode cX2_meet 51 = .ok (.land, 1) := by decide +kernel
theorem dX2_meet_52 : decode cX2_meet 52 = .ok (.lor, 1) := by decide +kernel
theorem dX2_meet_53 : decode cX2_meet 53 = .ok (.lastore, 1) := by decide +kernel
theorem dX2_meet_54 : decode cX2_meet 54 = .ok (.iinc 3 1, 3) := by decide +kernel
theorem dX2_meet_57 : decode cX2_meet 57 = .ok (.goto (-55), 3) := by decide +kernel
theorem dX2_meet_60 : decode cX2_meet 60 = .ok (.iconst 0, 1) := by decide +kernel
theorem dX2_meet_61 : decode cX2_meet 61 = .ok (.istore_n 3, 1) := by decide +kernel
theorem dX2_meet_62 : decode cX2_meet 62 = .ok (.iload_n 3, 1) := by decide +kernel
theorem dX2_meet_63 : decode cX2_meet 63 = .ok (.aload_n 0, 1) := by decide +kernel
theorem dX2_meet_64 : decode cX2_meet 64 = .ok (.getfield 180, 3) := by decide +kernel
theorem dX2_meet_67 : decode cX2_meet 67 = .ok (.if_icmp .ge 67, 3) := by decide +kernel
theorem dX2_meet_70 : decode cX2_meet 70 = .ok (.aload_n 0, 1) := by decide +kernel
theorem dX2_meet_71 : decode cX2_meet 71 = .ok (.getfield 24, 3) := by decide +kernel
theorem dX2_meet_74 : decode cX2_meet 74 = .ok (.iload_n 3, 1) := by decide +kernel
theorem dX2_meet_75 : decode cX2_meet 75 = .ok (.iaload, 1) := by decide +kernel
theorem dX2_meet_76 : decode cX2_meet 76 = .ok (.istore 4, 2) := by decide +kernel
theorem dX2_meet_78 : decode cX2_meet 78 = .ok (.iload 4, 2) := by decide +kernel
theorem dX2_meet_80 : decode cX2_meet 80 = .ok (.iload_n 1, 1) := by decide +kernel
theorem dX2_meet_81 : decode cX2_meet 81 = .ok (.if_icmp .eq 47, 3) := by decide +kernel
theorem dX2_meet_84 : decode cX2_meet 84 = .ok (.iload 4, 2) := by decide +kernel
theorem dX2_meet_86 : decode cX2_meet 86 = .ok (.iload_n 2, 1) := by decide +kernel
theorem dX2_meet_87 : decode cX2_meet 87 = .ok (.if_icmp .eq 41, 3) := by decide +kernel
theorem dX2_meet_90 : decode cX2_meet 90 = .ok (.iload_n 1, 1) := by decide +kernel
theorem dX2_meet_91 : decode cX2_meet 91 = .ok (.aload_n 0, 1) := by decide +kernel
theorem dX2_meet_92 : decode cX2_meet 92 = .ok (.getfield 58, 3) := by decide +kernel
theorem dX2_meet_95 : decode cX2_meet 95 = .ok (.if_icmp .ge 17, 3) := by decide +kernel
theorem dX2_meet_98 : decode cX2_meet 98 = .ok (.aload_n 0, 1) := by decide +kernel
theorem dX2_meet_99 : decode cX2_meet 99 = .ok (.aload_n 0, 1) := by decide +kernel
theorem dX2_meet_100 : decode cX2_meet 100 = .ok (.getfield 31, 3) := by decide +kernel
theorem dX2_meet_103 : decode cX2_meet 103 = .ok (.iload 4, 2) := by decide +kernel
theorem dX2_meet_105 : decode cX2_meet 105 = .ok (.iload_n 1, 1) := by decide +kernel
theorem dX2_meet_106 : decode cX2_meet 106 = .ok (.invokevirtual 140, 3) := by decide +kernel
theorem dX2_meet_109 : decode cX2_meet 109 = .ok (.goto 19, 3) := by decide +kernel
theorem dX2_meet_112 : decode cX2_meet 112 = .ok (.aload_n 0, 1) := by decide +kernel
theorem dX2_meet_113 : decode cX2_meet 113 = .ok (.getfield 34, 3) := by decide +kernel
theorem dX2_meet_116 : decode cX2_meet 116 = .ok (.iload_n 1, 1) := by decide +kernel
theorem dX2_meet_117 : decode cX2_meet 117 = .ok (.iload 4, 2) := by decide +kernel
theorem dX2_meet_119 : decode cX2_meet 119 = .ok (.iastore, 1) := by decide +kernel
theorem dX2_meet_120 : decode cX2_meet 120 = .ok (.aload_n 0, 1) := by decide +kernel
theorem dX2_meet_121 : decode cX2_meet 121 = .ok (.getfield 34, 3) := by decide +kernel
theorem dX2_meet_124 : decode cX2_meet 124 = .ok (.iload 4, 2) := by decide +kernel
theorem dX2_meet_126 : decode cX2_meet 126 = .ok (.iload_n 1, 1) := by decide +kernel
theorem dX2_meet_127 : decode cX2_meet 127 = .ok (.iastore, 1) := by decide +kernel
theorem dX2_meet_128 : decode cX2_meet 128 = .ok (.iinc 3 1, 3) := by decide +kernel
theorem dX2_meet_131 : decode cX2_meet 131 = .ok (.goto (-69), 3) := by decide +kernel
theorem dX2_meet_134 : decode cX2_meet 134 = .ok (.return_, 1) := by decide +kernel
theorem dX2_meetInBlock_0 : decode cX2_meetInBlock 0 = .ok (.aload_n 0, 1) := by decide +kernel
theorem dX2_meetInBlock_1 : decode cX2_meetInBlock 1 = .ok (.getfield 21, 3) := by decide +kernel
theorem dX2_meetInBlock_4 : decode cX2_meetInBlock 4 = .ok (.lconst 0, 1) := by decide +kernel
theorem dX2_meetInBlock_5 : decode cX2_meetInBlock 5 = .ok (.invokestatic 177, 3) := by decide +kernel
theorem dX2_meetInBlock_8 : decode cX2_meetInBlock 8 = .ok (.aload_n 0, 1) := by decide +kernel
theorem dX2_meetInBlock_9 : decode cX2_meetInBlock 9 = .ok (.iconst 0, 1) := by decide +kernel
theorem dX2_meetInBlock_10 : decode cX2_meetInBlock 10 = .ok (.putfield 180, 3) := by decide +kernel
theorem dX2_meetInBlock_13 : decode cX2_meetInBlock 13 = .ok (.aload_n 0, 1) := by decide +kernel
theorem dX2_meetInBlock_14 : decode cX2_meetInBlock 14 = .ok (.aload_n 1, 1) := by decide +kernel
theorem dX2_meetInBlock_15 : decode cX2_meetInBlock 15 = .ok (.getfield 165, 3) := by decide +kernel
theorem dX2_meetInBlock_18 : decode cX2_meetInBlock 18 = .ok (.iload_n 2, 1) := by decide +kernel
theorem dX2_meetInBlock_19 : decode cX2_meetInBlock 19 = .ok (.iaload, 1) := by decide +kernel
theorem dX2_meetInBlock_20 : decode cX2_meetInBlock 20 = .ok (.invokevirtual 183, 3) := by decide +kernel
theorem dX2_meetInBlock_23 : decode cX2_meetInBlock 23 = .ok (.aload_n 0, 1) := by decide +kernel
theorem dX2_meetInBlock_24 : decode cX2_meetInBlock 24 = .ok (.aload_n 1, 1) := by decide +kernel
theorem dX2_meetInBlock_25 : decode cX2_meetInBlock 25 = .ok (.getfield 172, 3) := by decide +kernel
theorem dX2_meetInBlock_28 : decode cX2_meetInBlock 28 = .ok (.iload_n 2, 1) := by decide +kernel
theorem dX2_meetInBlock_29 : decode cX2_meetInBlock 29 = .ok (.iaload, 1) := by decide +kernel
theorem dX2_meetInBlock_30 : decode cX2_meetInBlock 30 = .ok (.invokevirtual 183, 3) := by decide +kernel
theorem dX2_meetInBlock_33 : decode cX2_meetInBlock 33 = .ok (.aload_n 1, 1) := by decide +kernel
theorem dX2_meetInBlock_34 : decode cX2_meetInBlock 34 = .ok (.getfield 147, 3) := by decide +kernel
theorem dX2_meetInBlock_37 : decode cX2_meetInBlock 37 = .ok (.iload_n 2, 1) := by decide +kernel
theorem dX2_meetInBlock_38 : decode cX2_meetInBlock 38 = .ok (.iaload, 1) := by decide +kernel
theorem dX2_meetInBlock_39 : decode cX2_meetInBlock 39 = .ok (.ifCond .lt 13, 3) := by decide +kernel
theorem dX2_meetInBlock_42 : decode cX2_meetInBlock 42 = .ok (.aload_n 0, 1) := by decide +kernel
theorem dX2_meetInBlock_43 : decode cX2_meetInBlock 43 = .ok (.aload_n 1, 1) := by decide +kernel
theorem dX2_meetInBlock_44 : decode cX2_meetInBlock 44 = .ok (.getfield 147, 3) := by decide +kernel
theorem dX2_meetInBlock_47 : decode cX2_meetInBlock 47 = .ok (.iload_n 2, 1) := by decide +kernel
theorem dX2_meetInBlock_48 : decode cX2_meetInBlock 48 = .ok (.iaload, 1) := by decide +kernel
theorem dX2_meetInBlock_49 : decode cX2_meetInBlock 49 = .ok (.invokevirtual 186, 3) := by decide +kernel
theorem dX2_meetInBlock_52 : decode cX2_meetInBlock 52 = .ok (.aload_n 1, 1) := by decide +kernel
theorem dX2_meetInBlock_53 : decode cX2_meetInBlock 53 = .ok (.getfield 110, 3) := by decide +kernel
theorem dX2_meetInBlock_56 : decode cX2_meetInBlock 56 = .ok (.astore_n 3, 1) := by decide +kernel
theorem dX2_meetInBlock_57 : decode cX2_meetInBlock 57 = .ok (.aload_n 0, 1) := by decide +kernel
theorem dX2_meetInBlock_58 : decode cX2_meetInBlock 58 = .ok (.aload_n 1, 1) := by decide +kernel
theorem dX2_meetInBlock_59 : decode cX2_meetInBlock 59 = .ok (.iload_n 2, 1) := by decide +kernel
theorem dX2_meetInBlock_60 : decode cX2_meetInBlock 60 = .ok (.invokevirtual 189, 3) := by decide +kernel
theorem dX2_meetInBlock_63 : decode cX2_meetInBlock 63 = .ok (.iconst 1, 1) := by decide +kernel
theorem dX2_meetInBlock_64 : decode cX2_meetInBlock 64 = .ok (.isub, 1) := by decide +kernel
theorem dX2_meetInBlock_65 : decode cX2_meetInBlock 65 = .ok (.istore 4, 2) := by decide +kernel
theorem dX2_meetInBlock_67 : decode cX2_meetInBlock 67 = .ok (.iload 4, 2) := by decide +kernel
theorem dX2_meetInBlock_69 : decode cX2_meetInBlock 69 = .ok (.ifCond .lt 115, 3) := by decide +kernel
theorem dX2_meetInBlock_72 : decode cX2_meetInBlock 72 = .ok (.aload_n 0, 1) := by decide +kernel
theorem dX2_meetInBlock_73 : decode cX2_meetInBlock 73 = .ok (.getfield 28, 3) := by decide +kernel
theorem dX2_meetInBlock_76 : decode cX2_meetInBlock 76 = .ok (.iload 4, 2) := by decide +kernel
theorem dX2_meetInBlock_78 : decode cX2_meetInBlock 78 = .ok (.iaload, 1) := by decide +kernel
theorem dX2_meetInBlock_79 : decode cX2_meetInBlock 79 = .ok (.istore 5, 2) := by decide +kernel
theorem dX2_meetInBlock_81 : decode cX2_meetInBlock 81 = .ok (.aload_n 3, 1) := by decide +kernel
theorem dX2_meetInBlock_82 : decode cX2_meetInBlock 82 = .ok (.getfield 117, 3) := by decide +kernel
theorem dX2_meetInBlock_85 : decode cX2_meetInBlock 85 = .ok (.iload 5, 2) := by decide +kernel
theorem dX2_meetInBlock_87 : decode cX2_meetInBlock 87 = .ok (.iaload, 1) := by decide +kernel
theorem dX2_meetInBlock_88 : decode cX2_meetInBlock 88 = .ok (.istore 6, 2) := by decide +kernel
theorem dX2_meetInBlock_90 : decode cX2_meetInBlock 90 = .ok (.aload_n 3, 1) := by decide +kernel
theorem dX2_meetInBlock_91 : decode cX2_meetInBlock 91 = .ok (.getfield 137, 3) := by decide +kernel
theorem dX2_meetInBlock_94 : decode cX2_meetInBlock 94 = .ok (.iload 5, 2) := by decide +kernel
theorem dX2_meetInBlock_96 : decode cX2_meetInBlock 96 = .ok (.iaload, 1) := by decide +kernel
theorem dX2_meetInBlock_97 : decode cX2_meetInBlock 97 = .ok (.ifCond .lt 43, 3) := by decide +kernel
theorem dX2_meetInBlock_100 : decode cX2_meetInBlock 100 = .ok (.aload_n 0, 1) := by decide +kernel
theorem dX2_meetInBlock_101 : decode cX2_meetInBlock 101 = .ok (.aload_n 3, 1) := by decide +kernel
theorem dX2_meetInBlock_102 : decode cX2_meetInBlock 102 = .ok (.getfield 137, 3) := by decide +kernel
theorem dX2_meetInBlock_105 : decode cX2_meetInBlock 105 = .ok (.iload 5, 2) := by decide +kernel
theorem dX2_meetInBlock_107 : decode cX2_meetInBlock 107 = .ok (.iaload, 1) := by decide +kernel
theorem dX2_meetInBlock_108 : decode cX2_meetInBlock 108 = .ok (.iload 6, 2) := by decide +kernel
theorem dX2_meetInBlock_110 : decode cX2_meetInBlock 110 = .ok (.bipush 25, 2) := by decide +kernel
theorem dX2_meetInBlock_112 : decode cX2_meetInBlock 112 = .ok (.if_icmp .ne 13, 3) := by decide +kernel
theorem dX2_meetInBlock_115 : decode cX2_meetInBlock 115 = .ok (.aload_n 3, 1) := by decide +kernel
theorem dX2_meetInBlock_116 : decode cX2_meetInBlock 116 = .ok (.getfield 126, 3) := by decide +kernel
theorem dX2_meetInBlock_119 : decode cX2_meetInBlock 119 = .ok (.iload 5, 2) := by decide +kernel
theorem dX2_meetInBlock_121 : decode cX2_meetInBlock 121 = .ok (.iaload, 1) := by decide +kernel
theorem dX2_meetInBlock_122 : decode cX2_meetInBlock 122 = .ok (.goto 4, 3) := by decide +kernel
theorem dX2_meetInBlock_125 : decode cX2_meetInBlock 125 = .ok (.iconst (-1), 1) := by decide +kernel
theorem dX2_meetInBlock_126 : decode cX2_meetInBlock 126 = .ok (.invokevirtual 193, 3) := by decide +kernel
theorem dX2_meetInBlock_129 : decode cX2_meetInBlock 129 = .ok (.aload_n 0, 1) := by decide +kernel
theorem dX2_meetInBlock_130 : decode cX2_meetInBlock 130 = .ok (.aload_n 3, 1) := by decide +kernel
theorem dX2_meetInBlock_131 : decode cX2_meetInBlock 131 = .ok (.getfield 137, 3) := by decide +kernel
theorem dX2_meetInBlock_134 : decode cX2_meetInBlock 134 = .ok (.iload 5, 2) := by decide +kernel
theorem dX2_meetInBlock_136 : decode cX2_meetInBlock 136 = .ok (.iaload, 1) := by decide +kernel
theorem dX2_meetInBlock_137 : decode cX2_meetInBlock 137 = .ok (.invokevirtual 196, 3) := by decide +kernel
theorem dX2_meetInBlock_140 : decode cX2_meetInBlock 140 = .ok (.iload 6, 2) := by decide +kernel
theorem dX2_meetInBlock_142 : decode cX2_meetInBlock 142 = .ok (.invokestatic 122, 3) := by decide +kernel
theorem dX2_meetInBlock_145 : decode cX2_meetInBlock 145 = .ok (.ifCond .eq 14, 3) := by decide +kernel
theorem dX2_meetInBlock_148 : decode cX2_meetInBlock 148 = .ok (.aload_n 0, 1) := by decide +kernel
theorem dX2_meetInBlock_149 : decode cX2_meetInBlock 149 = .ok (.aload_n 3, 1) := by decide +kernel
theorem dX2_meetInBlock_150 : decode cX2_meetInBlock 150 = .ok (.getfield 126, 3) := by decide +kernel
theorem dX2_meetInBlock_153 : decode cX2_meetInBlock 153 = .ok (.iload 5, 2) := by decide +kernel
theorem dX2_meetInBlock_155 : decode cX2_meetInBlock 155 = .ok (.iaload, 1) := by decide +kernel
theorem dX2_meetInBlock_156 : decode cX2_meetInBlock 156 = .ok (.invokevirtual 186, 3) := by decide +kernel
theorem dX2_meetInBlock_159 : decode cX2_meetInBlock 159 = .ok (.iload 6, 2) := by decide +kernel
theorem dX2_meetInBlock_161 : decode cX2_meetInBlock 161 = .ok (.invokestatic 131, 3) := by decide +kernel
theorem dX2_meetInBlock_164 : decode cX2_meetInBlock 164 = .ok (.ifCond .eq 14, 3) := by decide +kernel
theorem dX2_meetInBlock_167 : decode cX2_meetInBlock 167 = .ok (.aload_n 0, 1) := by decide +kernel
theorem dX2_meetInBlock_168 : decode cX2_meetInBlock 168 = .ok (.aload_n 3, 1) := by decide +kernel
theorem dX2_meetInBlock_169 : decode cX2_meetInBlock 169 = .ok (.getfield 134, 3) := by decide +kernel
theorem dX2_meetInBlock_172 : decode cX2_meetInBlock 172 = .ok (.iload 5, 2) := by decide +kernel
theorem dX2_meetInBlock_174 : decode cX2_meetInBlock 174 = .ok (.iaload, 1) := by decide +kernel
theorem dX2_meetInBlock_175 : decode cX2_meetInBlock 175 = .ok (.invokevirtual 186, 3) := by decide +kernel
theorem dX2_meetInBlock_178 : decode cX2_meetInBlock 178 = .ok (.iinc 4 (-1), 3) := by decide +kernel
theorem dX2_meetInBlock_181 : decode cX2_meetInBlock 181 = .ok (.goto (-114), 3) := by decide +kernel
theorem dX2_meetInBlock_184 : decode cX2_meetInBlock 184 = .ok (.return_, 1) := by decide +kernel
theorem dX2_mirror_0 : decode cX2_mirror 0 = .ok (.iconst 0, 1) := by decide +kernel
theorem dX2_mirror_1 : decode cX2_mirror 1 = .ok (.istore_n 1, 1) := by decide +kernel
theorem dX2_mirror_2 : decode cX2_mirror 2 = .ok (.iload_n 1, 1) := by decide +kernel
theorem dX2_mirror_3 : decode cX2_mirror 3 = .ok (.aload_n 0, 1) := by decide +kernel
theorem dX2_mirror_4 : decode cX2_mirror 4 = .ok (.getfield 58, 3) := by decide +kernel
theorem dX2_mirror_7 : decode cX2_mirror 7 = .ok (.if_icmp .ge 72, 3) := by decide +kernel
theorem dX2_mirror_10 : decode cX2_mirror 10 = .ok (.iconst 0, 1) := by decide +kernel
theorem dX2_mirror_11 : decode cX2_mirror 11 = .ok (.istore_n 2, 1) := by decide +kernel
theorem dX2_mirror_12 : decode cX2_mirror 12 = .ok (.iload_n 2, 1) := by decide +kernel
theorem dX2_mirror_13 : decode cX2_mirror 13 = .ok (.aload_n 0, 1) := by decide +kernel
theorem dX2_mirror_14 : decode cX2_mirror 14 = .ok (.getfield 65, 3) := by decide +kernel
theorem dX2_mirror_17 : decode cX2_mirror 17 = .ok (.if_icmp .ge 56, 3) := by decide +kernel
theorem dX2_mirror_20 : decode cX2_mirror 20 = .ok (.aload_n 0, 1) := by decide +kernel
theorem dX2_mirror_21 : decode cX2_mirror 21 = .ok (.getfield 31, 3) := by decide +kernel
theorem dX2_mirror_24 : decode cX2_mirror 24 = .ok (.iload_n 1, 1) := by decide +kernel
theorem dX2_mirror_25 : decode cX2_mirror 25 = .ok (.aload_n 0, 1) := by decide +kernel
theorem dX2_mirror_26 : decode cX2_mirror 26 = .ok (.getfield 65, 3) := by decide +kernel
theorem dX2_mirror_29 : decode cX2_mirror 29 = .ok (.imul, 1) := by decide +kernel
theorem dX2_mirror_30 : decode cX2_mirror 30 = .ok (.iload_n 2, 1) := by decide +kernel
theorem dX2_mirror_31 : decode cX2_mirror 31 = .ok (.iadd, 1) := by decide +kernel
theorem dX2_mirror_32 : decode cX2_mirror 32 = .ok (.laload, 1) := by decide +kernel
theorem dX2_mirror_33 : decode cX2_mirror 33 = .ok (.lstore_n 3, 1) := by decide +kernel
theorem dX2_mirror_34 : decode cX2_mirror 34 = .ok (.lload_n 3, 1) := by decide +kernel
theorem dX2_mirror_35 : decode cX2_mirror 35 = .ok (.lconst 0, 1) := by decide +kernel
theorem dX2_mirror_36 : decode cX2_mirror 36 = .ok (.lcmp, 1) := by decide +kernel
theorem dX2_mirror_37 : decode cX2_mirror 37 = .ok (.ifCond .eq 30, 3) := by decide +kernel
theorem dX2_mirror_40 : decode cX2_mirror 40 = .ok (.aload_n 0, 1) := by decide +kernel
theorem dX2_mirror_41 : decode cX2_mirror 41 = .ok (.aload_n 0, 1) := by decide +kernel
theorem dX2_mirror_42 : decode cX2_mirror 42 = .ok (.getfield 31, 3) := by decide +kernel
theorem dX2_mirror_45 : decode cX2_mirror 45 = .ok (.iload_n 2, 1) := by decide +kernel
theorem dX2_mirror_46 : decode cX2_mirror 46 = .ok (.bipush 64, 2) := by decide +kernel
theorem dX2_mirror_48 : decode cX2_mirror 48 = .ok (.imul, 1) := by decide +kernel
theorem dX2_mirror_49 : decode cX2_mirror 49 = .ok (.lload_n 3, 1) := by decide +kernel
theorem dX2_mirror_50 : decode cX2_mirror 50 = .ok (.invokestatic 203, 3) := by decide +kernel
theorem dX2_mirror_53 : decode cX2_mirror 53 = .ok (.iadd, 1) := by decide +kernel
theorem dX2_mirror_54 : decode cX2_mirror 54 = .ok (.iload_n 1, 1) := by decide +kernel
theorem dX2_mirror_55 : decode cX2_mirror 55 = .ok (.invokevirtual 140, 3) := by decide +kernel
theorem dX2_mirror_58 : decode cX2_mirror 58 = .ok (.lload_n 3, 1) := by decide +kernel
theorem dX2_mirror_59 : decode cX2_mirror 59 = .ok (.lload_n 3, 1) := by decide +kernel
theorem dX2_mirror_60 : decode cX2_mirror 60 = .ok (.lconst 1, 1) := by decide +kernel
theorem dX2_mirror_61 : decode cX2_mirror 61 = .ok (.lsub, 1) := by decide +kernel
theorem dX2_mirror_62 : decode cX2_mirror 62 = .ok (.land, 1) := by decide +kernel
theorem dX2_mirror_63 : decode cX2_mirror 63 = .ok (.lstore_n 3, 1) := by decide +kernel
theorem dX2_mirror_64 : decode cX2_mirror 64 = .ok (.goto (-30), 3) := by decide +kernel
theorem dX2_mirror_67 : decode cX2_mirror 67 = .ok (.iinc 2 1, 3) := by decide +kernel
theorem dX2_mirror_70 : decode cX2_mirror 70 = .ok (.goto (-58), 3) := by decide +kernel
theorem dX2_mirror_73 : decode cX2_mirror 73 = .ok (.iinc 1 1, 3) := by decide +kernel
theorem dX2_mirror_76 : decode cX2_mirror 76 = .ok (.goto (-74), 3) := by decide +kernel
theorem dX2_mirror_79 : decode cX2_mirror 79 = .ok (.return_, 1) := by decide +kernel
theorem dX2_removeLive_0 : decode cX2_removeLive 0 = .ok (.iload_n 1, 1) := by decide +kernel
theorem dX2_removeLive_1 : decode cX2_removeLive 1 = .ok (.aload_n 0, 1) := by decide +kernel
theorem dX2_removeLive_2 : decode cX2_removeLive 2 = .ok (.getfield 58, 3) := by decide +kernel
theorem dX2_removeLive_5 : decode cX2_removeLive 5 = .ok (.if_icmp .ge 26, 3) := by decide +kernel
theorem dX2_removeLive_8 : decode cX2_removeLive 8 = .ok (.aload_n 0, 1) := by decide +kernel
theorem dX2_removeLive_9 : decode cX2_removeLive 9 = .ok (.getfield 21, 3) := by decide +kernel
theorem dX2_removeLive_12 : decode cX2_removeLive 12 = .ok (.iload_n 1, 1) := by decide +kernel
theorem dX2_removeLive_13 : decode cX2_removeLive 13 = .ok (.bipush 6, 2) := by decide +kernel
theorem dX2_removeLive_15 : decode cX2_removeLive 15 = .ok (.ishr, 1) := by decide +kernel
theorem dX2_removeLive_16 : decode cX2_removeLive 16 = .ok (.dup2, 1) := by decide +kernel
theorem dX2_removeLive_17 : decode cX2_removeLive 17 = .ok (.laload, 1) := by decide +kernel
theorem dX2_removeLive_18 : decode cX2_removeLive 18 = .ok (.lconst 1, 1) := by decide +kernel
theorem dX2_removeLive_19 : decode cX2_removeLive 19 = .ok (.iload_n 1, 1) := by decide +kernel
theorem dX2_removeLive_20 : decode cX2_removeLive 20 = .ok (.bipush 63, 2) := by decide +kernel
theorem dX2_removeLive_22 : decode cX2_removeLive 22 = .ok (.iand, 1) := by decide +kernel
theorem dX2_removeLive_23 : decode cX2_removeLive 23 = .ok (.lshl, 1) := by decide +kernel
theorem dX2_removeLive_24 : decode cX2_removeLive 24 = .ok (.ldc2_w 175, 3) := by decide +kernel
theorem dX2_removeLive_27 : decode cX2_removeLive 27 = .ok (.lxor, 1) := by decide +kernel
theorem dX2_removeLive_28 : decode cX2_removeLive 28 = .ok (.land, 1) := by decide +kernel
theorem dX2_removeLive_29 : decode cX2_removeLive 29 = .ok (.lastore, 1) := by decide +kernel
theorem dX2_removeLive_30 : decode cX2_removeLive 30 = .ok (.return_, 1) := by decide +kernel
theorem dX2_removeLive_31 : decode cX2_removeLive 31 = .ok (.iconst 0, 1) := by decide +kernel
theorem dX2_removeLive_32 : decode cX2_removeLive 32 = .ok (.istore_n 2, 1) := by decide +kernel
theorem dX2_removeLive_33 : decode cX2_removeLive 33 = .ok (.iload_n 2, 1) := by decide +kernel
theorem dX2_removeLive_34 : decode cX2_removeLive 34 = .ok (.aload_n 0, 1) := by decide +kernel
theorem dX2_removeLive_35 : decode cX2_removeLive 35 = .ok (.getfield 180, 3) := by decide +kernel
theorem dX2_removeLive_38 : decode cX2_removeLive 38 = .ok (.if_icmp .ge 45, 3) := by decide +kernel
theorem dX2_removeLive_41 : decode cX2_removeLive 41 = .ok (.aload_n 0, 1) := by decide +kernel
theorem dX2_removeLive_42 : decode cX2_removeLive 42 = .ok (.getfield 24, 3) := by decide +kernel
theorem dX2_removeLive_45 : decode cX2_removeLive 45 = .ok (.iload_n 2, 1) := by decide +kernel
theorem dX2_removeLive_46 : decode cX2_removeLive 46 = .ok (.iaload, 1) := by decide +kernel
theorem dX2_removeLive_47 : decode cX2_removeLive 47 = .ok (.iload_n 1, 1) := by decide +kernel
theorem dX2_removeLive_48 : decode cX2_removeLive 48 = .ok (.if_icmp .ne 29, 3) := by decide +kernel
theorem dX2_removeLive_51 : decode cX2_removeLive 51 = .ok (.aload_n 0, 1) := by decide +kernel
theorem dX2_removeLive_52 : decode cX2_removeLive 52 = .ok (.dup, 1) := by decide +kernel
theorem dX2_removeLive_53 : decode cX2_removeLive 53 = .ok (.getfield 180, 3) := by decide +kernel
theorem dX2_removeLive_56 : decode cX2_removeLive 56 = .ok (.iconst 1, 1) := by decide +kernel
theorem dX2_removeLive_57 : decode cX2_removeLive 57 = .ok (.isub, 1) := by decide +kernel
theorem dX2_removeLive_58 : decode cX2_removeLive 58 = .ok (.putfield 180, 3) := by decide +kernel
theorem dX2_removeLive_61 : decode cX2_removeLive 61 = .ok (.aload_n 0, 1) := by decide +kernel
theorem dX2_removeLive_62 : decode cX2_removeLive 62 = .ok (.getfield 24, 3) := by decide +kernel
theorem dX2_removeLive_65 : decode cX2_removeLive 65 = .ok (.iload_n 2, 1) := by decide +kernel
theorem dX2_removeLive_66 : decode cX2_removeLive 66 = .ok (.aload_n 0, 1) := by decide +kernel
theorem dX2_removeLive_67 : decode cX2_removeLive 67 = .ok (.getfield 24, 3) := by decide +kernel
theorem dX2_removeLive_70 : decode cX2_removeLive 70 = .ok (.aload_n 0, 1) := by decide +kernel
theorem dX2_removeLive_71 : decode cX2_removeLive 71 = .ok (.getfield 180, 3) := by decide +kernel
theorem dX2_removeLive_74 : decode cX2_removeLive 74 = .ok (.iaload, 1) := by decide +kernel
theorem dX2_removeLive_75 : decode cX2_removeLive 75 = .ok (.iastore, 1) := by decide +kernel
theorem dX2_removeLive_76 : decode cX2_removeLive 76 = .ok (.return_, 1) := by decide +kernel
theorem dX2_removeLive_77 : decode cX2_removeLive 77 = .ok (.iinc 2 1, 3) := by decide +kernel
theorem dX2_removeLive_80 : decode cX2_removeLive 80 = .ok (.goto (-47), 3) := by decide +kernel
theorem dX2_removeLive_83 : decode cX2_removeLive 83 = .ok (.return_, 1) := by decide +kernel
theorem qw736 : Cond.methodLink RX2 177 yJ7_fill_d0a16 ∈ gw := mq_9 (i := 5) rfl rfl
theorem qw738 : Cond.code yX2_addLiveIn cX2_addLiveIn 3 (Option.none : Option Jvm.ClassFile.FieldType) ∈ gw := mq_9 (i := 9) rfl rfl
theorem qw739 : Cond.methodLink RX2 183 yX2_addLiveIn ∈ gw := mq_9 (i := 6) rfl rfl
theorem qw740 : Cond.instanceMethod yX2_addLiveIn ∈ gw := mq_9 (i := 8) rfl rfl
theorem qw741 : Cond.selects RX2 yX2_addLiveIn yX2_addLiveIn ∈ gw := mk_s (i := 70) rfl rfl
theorem qw743 : Cond.code yX2_listSteps cX2_listSteps 5 (Option.some Jvm.ClassFile.FieldType.int) ∈ gw := mq_9 (i := 17) rfl rfl
theorem qw744 : Cond.methodLink RX2 189 yX2_listSteps ∈ gw := mq_9 (i := 14) rfl rfl
theorem qw745 : Cond.instanceMethod yX2_listSteps ∈ gw := mq_9 (i := 16) rfl rfl
theorem qw746 : Cond.selects RX2 yX2_listSteps yX2_listSteps ∈ gw := mk_s (i := 71) rfl rfl
theorem qw748 : Cond.code yX2_addLive cX2_addLive 3 (Option.none : Option Jvm.ClassFile.FieldType) ∈ gw := mq_9 (i := 13) rfl rfl
theorem qw749 : Cond.methodLink RX2 186 yX2_addLive ∈ gw := mq_9 (i := 10) rfl rfl
theorem qw750 : Cond.instanceMethod yX2_addLive ∈ gw := mq_9 (i := 12) rfl rfl
theorem qw751 : Cond.selects RX2 yX2_addLive yX2_addLive ∈ gw := mk_s (i := 72) rfl rfl
theorem qw752 : Cond.code yX2_bitIn cX2_bitIn 3 (Option.some Jvm.ClassFile.FieldType.long) ∈ gw := mq_9 (i := 25) rfl rfl
theorem qw753 : Cond.methodLink RX2 199 yX2_bitIn ∈ gw := mq_9 (i := 22) rfl rfl
theorem qw754 : Cond.instanceMethod yX2_bitIn ∈ gw := mq_9 (i := 24) rfl rfl
theorem qw755 : Cond.selects RX2 yX2_bitIn yX2_bitIn ∈ gw := mk_s (i := 73) rfl rfl
theorem qw756 : Cond.code yX2_meet cX2_meet 5 (Option.none : Option Jvm.ClassFile.FieldType) ∈ gw := mq_9 (i := 21) rfl rfl
theorem qw757 : Cond.methodLink RX2 193 yX2_meet ∈ gw := mq_9 (i := 18) rfl rfl
theorem qw758 : Cond.instanceMethod yX2_meet ∈ gw := mq_9 (i := 20) rfl rfl
theorem qw759 : Cond.selects RX2 yX2_meet yX2_meet ∈ gw := mk_s (i := 74) rfl rfl
theorem qw760 : Cond.code yX2_removeLive cX2_removeLive 3 (Option.none : Option Jvm.ClassFile.FieldType) ∈ gw := mq_9 (i := 29) rfl rfl
theorem qw761 : Cond.methodLink RX2 196 yX2_removeLive ∈ gw := mq_9 (i := 26) rfl rfl
theorem qw762 : Cond.instanceMethod yX2_removeLive ∈ gw := mq_9 (i := 28) rfl rfl
theorem qw763 : Cond.selects RX2 yX2_removeLive yX2_removeLive ∈ gw := mk_s (i := 75) rfl rfl
theorem qw768 : Cond.constantLong RJ13 314 (6148914691236517205) ∈ gw := mq_9 (i := 40) rfl rfl
theorem qw769 : Cond.constantLong RJ13 316 (3689348814741910323) ∈ gw := mq_9 (i := 41) rfl rfl
theorem qw770 : Cond.constantLong RJ13 318 (1085102592571150095) ∈ gw := mq_9 (i := 42) rfl rfl
theorem qw771 : Cond.code yJ13_bitCount_95d88 cJ13_bitCount_95d88 2 (Option.some Jvm.ClassFile.FieldType.int) ∈ gw := mq_9 (i := 39) rfl rfl
theorem qw772 : Cond.methodLink RX11 381 yJ13_bitCount_95d88 ∈ gw := mq_9 (i := 37) rfl rfl
theorem qw773 : Cond.static yJ13_bitCount_95d88 ∈ gw := mq_9 (i := 38) rfl rfl
theorem qw774 : Cond.initialized RJ13 ∈ gw := mq_1 (i := 34) rfl rfl
theorem qw775 : Cond.code yX11_lowest cX11_lowest 2 (Option.some Jvm.ClassFile.FieldType.int) ∈ gw := mq_9 (i := 36) rfl rfl
theorem qw776 : Cond.static yX11_lowest ∈ gw := mq_9 (i := 35) rfl rfl
theorem qw781 : Cond.methodLink RX2 207 yJ13_bitCount_95d88 ∈ gw := mq_9 (i := 47) rfl rfl
def fX2_put_a1_p0_10 (p0n : Nat → Nat) (p0w : ST) (p0l : SL) (p2 : Int32) (p3 : Int32) : Option SL := (if ixb ((p2 * (p0w 0 2)) + (p3 >>> (6 &&& 31))) (p0n 11) = true then (if ixb ((p2 * (p0w 0 2)) + (p3 >>> (6 &&& 31))) (p0n 11) = true then (lt9 (upl p0l 11 (nn ((p2 * (p0w 0 2)) + (p3 >>> (6 &&& 31)))) ((p0l 11 (nn ((p2 * (p0w 0 2)) + (p3 >>> (6 &&& 31))))) ||| (((1 : Int64) <<< (((p3 &&& 63) : Int32).toInt64 &&& 63))))) fun (l3 : SL) => some l3) else none) else none)
set_option maxHeartbeats 16000000 in
set_option maxRecDepth 100000 in
theorem kX2_put_a1_p0_10 {zs : ZS} (l : Launch) (dC : Nat → ClassId) (dI : Nat → Nat → Nat) (p0a : Nat → Nat) (p0k : Nat → ClassId) (p0n : Nat → Nat) (p0w : ST) (p0l : SL) (p2 : Int32) (p3 : Int32) (sz : Nat) (o : SL) (hrun : fX2_put_a1_p0_10 p0n p0w p0l p2 p3 = some o) : Met l yX2_put (wz yX2_put cX2_put 4 (Option.none : Option Jvm.ClassFile.FieldType)) ({ frames := 0, cells := 0, slots := 0, locals := 0 } : Room) (va_Pc [.ref (p0a 0), .ref (p0a 11), .int p2, .int p3] (PRE zs dC dI (List.flatten ([(oX2 (p0a 0) p0a p0k p0n p0w p0l)] : List va_W)) (List.flatten ([(tX2 p0k)] : List (List (ClassId × FieldType)))) sz)) (va_Qv (fun (_ : Unit) => True) (fun _ t => POST dC dI (List.flatten ([(oX2 (p0a 0) p0a p0k p0n p0w o)] : List va_W)) (List.flatten ([(tX2 p0k)] : List (List (ClassId × FieldType)))) (va_A (List.flatten ([(oX2 (p0a 0) p0a p0k p0n p0w p0l)] : List va_W)) sz) t) (va_A (List.flatten ([(oX2 (p0a 0) p0a p0k p0n p0w p0l)] : List va_W)) sz)) 0 0 (va_A (List.flatten ([(oX2 (p0a 0) p0a p0k p0n p0w p0l)] : List va_W)) sz) := by
  refine Met.ofW (cc := cX2_put) (maxL := 4) (ret := (Option.none : Option Jvm.ClassFile.FieldType)) (by decide) rfl ?_
  intro p e s m args below meth c s₁ B hml hv
  obtain ⟨rfl, hsz, hP, hK, hD0, hE⟩ := hv
  have hx := B.exec
  have hb := B.bytes
  have hr := B.returns
  have hts0 := atoms_spec (ws := wz yX2_put cX2_put 4 (Option.none : Option Jvm.ClassFile.FieldType)) B.pre
  have hts : ∀ w ∈ gw, w.before _ s = true := fun w h => hts0 w (List.mem_cons_of_mem _ h)
  have hown : s.vm.findClass RX2 = some m.cls := findClass_of_methodNamed B.named
  have hlocks := B.notSynchronized
  subst hsz
  have hD := hD0.self (sz := s.heap.size)
  refine gQ9 ?_
  intro Q hQ
  generalize hAe : va_A (List.flatten ([(oX2 (p0a 0) p0a p0k p0n p0w p0l)] : List va_W)) s.heap.size = A at hD hE hQ
  have hA : ∀ q : Nat, s.heap.size ≤ q → A q := fun q h => by rw [← hAe]; exact Or.inr h
  have hS : va_S A s.heap s.heap [] := va_S.rf
  have hP : va_P (dC, dI) cls (List.flatten ([(oX2 (p0a 0) p0a p0k p0n p0w p0l)] : List va_W)) s.heap := hP
  have hl := lv_entry ([.ref (p0a 0), .ref (p0a 11), .int p2, .int p3]) (n := 4) (Nat.le_of_ble_eq_true rfl)
  rw [lg_entry_eq]
  generalize (lg_sl ([.ref (p0a 0), .ref (p0a 11), .int p2, .int p3]) ++ List.replicate (4 - (lg_sl ([.ref (p0a 0), .ref (p0a 11), .int p2, .int p3])).length) Slot.unset).toArray = ls at hl ⊢
  have hl : lv_has ls 4 [(0, .ref (p0a 0)), (1, .ref (p0a 11)), (2, .int p2), (3, .int p3)] := hl
  obtain ⟨H, hHe⟩ : ∃ H, H = s.heap := ⟨_, rfl⟩
  obtain ⟨locs, hle⟩ : ∃ locs : List Loc, locs = [] := ⟨_, rfl⟩
  rw [← hHe] at hP
  have hS : va_S A s.heap H locs := by rw [hHe, hle]; exact hS
  show W p l e ({ frames := 0, cells := 0, slots := 0, locals := 0 } : Room) s m ([.ref (p0a 0), .ref (p0a 11), .int p2, .int p3] : List Value).toArray below meth c s.heap [] 0 0 Q (F0 m 0 ls [])
  rw [← hle]
  refine wH9 hHe ?_
  unfold fX2_put_a1_p0_10 at hrun
  refine lv_aload_n hx hb dX2_put_0 rfl (lv_at hl 1 rfl) ?_
  refine lv_iload_n hx hb dX2_put_1 rfl (lv_at hl 2 rfl) ?_
  refine lv_aload_n hx hb dX2_put_2 rfl (lv_at hl 0 rfl) ?_
  refine va_get (D := (dC, dI)) (ci := 9) (v := .int (p0w 0 2)) (C := RX2) (T := TX2) (N := 19) hx hb hts i_X2 hown hK hP 0 rfl rfl 2 (by decide) (hts _ qw669) (fun _ h9 => h9) rfl dX2_put_3 ?_
  refine lv_imul hx hb dX2_put_6 ?_
  refine lv_iload_n hx hb dX2_put_7 rfl (lv_at hl 3 rfl) ?_
  refine lv_bipush (v := 6) hx hb dX2_put_8 (by decide) ?_
  refine lv_ishr hx hb dX2_put_10 ?_
  refine lv_iadd hx hb dX2_put_11 ?_
  refine lv_dup2_11 hx hb dX2_put_12 rfl rfl ?_
  obtain ⟨hq1, hrun⟩ := chk9 hrun
  refine va_lald hx hb hK hP 7 6 rfl rfl (ixb_in hq1) dX2_put_13 ?_
  refine lv_lconst (v := 1) hx hb dX2_put_14 (by decide) ?_
  refine lv_iload_n hx hb dX2_put_15 rfl (lv_at hl 3 rfl) ?_
  refine lv_bipush (v := 63) hx hb dX2_put_16 (by decide) ?_
  refine lv_iand hx hb dX2_put_18 ?_
  refine lv_lshl (v := (((1 : Int64) <<< (((p3 &&& 63) : Int32).toInt64 &&& 63)))) hx hb dX2_put_19 rfl ?_
  refine lv_lor hx hb dX2_put_20 ?_
  obtain ⟨hq2, hrun⟩ := chk9 hrun
  refine va_last hx hb hK hP hD hS 7 6 rfl rfl (ixb_in hq2) dX2_put_21 (fun H locs hP hD hS => ?_)
  have hP : va_P (dC, dI) cls (List.flatten ([(oX2 (p0a 0) p0a p0k p0n p0w (upl p0l 11 (nn ((p2 * (p0w 0 2)) + (p3 >>> (6 &&& 31)))) ((p0l 11 (nn ((p2 * (p0w 0 2)) + (p3 >>> (6 &&& 31))))) ||| (((1 : Int64) <<< (((p3 &&& 63) : Int32).toInt64 &&& 63))))))] : List va_W)) H := hP
  have hD : va_D A (List.flatten ([(oX2 (p0a 0) p0a p0k p0n p0w (upl p0l 11 (nn ((p2 * (p0w 0 2)) + (p3 >>> (6 &&& 31)))) ((p0l 11 (nn ((p2 * (p0w 0 2)) + (p3 >>> (6 &&& 31))))) ||| (((1 : Int64) <<< (((p3 &&& 63) : Int32).toInt64 &&& 63))))))] : List va_W)) := hD
  obtain ⟨l3, el3, hrun⟩ := let9 hrun
  rw [← el3] at hP hD
  have ho9 : l3 = o := Option.some.inj hrun
  have hP9 : va_P (dC, dI) cls (List.flatten ([(oX2 (p0a 0) p0a p0k p0n p0w o)] : List va_W)) H := by first | exact hP | (rw [← ho9]; exact hP)
  have hD9 : va_D A (List.flatten ([(oX2 (p0a 0) p0a p0k p0n p0w o)] : List va_W)) := by first | exact hD | (rw [← ho9]; exact hD)
  subst hQ
  exact W.vret hx hb hr (fun t ht hW => ⟨⟨(), rfl, trivial, ⟨by rw [ht]; exact hP9, va_K.moved hW.alike hK, hD9⟩⟩, hS.F ht⟩) hS.2.2 dX2_put_22
def fX2_meet_L2 (p0n : Nat → Nat) (p0w : ST) (p1 : Int32) (p2 : Int32) : Nat → Int32 → SL → Option SL
  | 0 => fun _ _ => none
  | n_2 + 1 => fun v3_2 p0l_2 => (if (p0w 0 2) ≤ v3_2 then some p0l_2 else (if ixb ((p1 * (p0w 0 2)) + v3_2) (p0n 11) = true then (if ixb v3_2 (p0n 7) = true then ((fX2_bitIn p0w v3_2 p1).bind fun (o_4 : Int64) => ((fX2_bitIn p0w v3_2 p2).bind fun (o_6 : Int64) => (if ixb ((p1 * (p0w 0 2)) + v3_2) (p0n 11) = true then (lt9 (upl p0l_2 11 (nn ((p1 * (p0w 0 2)) + v3_2)) ((p0l_2 11 (nn ((p1 * (p0w 0 2)) + v3_2))) ||| (((p0l_2 7 (nn v3_2)) &&& (o_4 ^^^ ((-1) : Int64))) &&& (o_6 ^^^ ((-1) : Int64))))) fun (l9 : SL) => ((fX2_meet_L2 p0n p0w p1 p2 n_2) (v3_2 + 1) l9)) else none))) else none) else none))
def fX2_meet_J128 (kk62 : Int32 → ST → SL → Option (ST × SL)) (v3_62 : Int32) (p0w_128 : ST) (p0l_128 : SL) : Option (ST × SL) := (kk62 (v3_62 + 1) p0w_128 p0l_128)
def fX2_meet_L62 (p0n : Nat → Nat) (p1 : Int32) (p2 : Int32) : Nat → Int32 → ST → SL → Option (ST × SL)
  | 0 => fun _ _ _ => none
  | n_62 + 1 => fun v3_62 p0w_62 p0l_62 => (if (p0w_62 0 8) ≤ v3_62 then some (p0w_62, p0l_62) else (if ixb v3_62 2 = true then (if (p0w_62 8 (nn v3_62)) = p1 then (fX2_meet_J128 (fX2_meet_L62 p0n p1 p2 n_62) v3_62 p0w_62 p0l_62) else (if (p0w_62 8 (nn v3_62)) = p2 then (fX2_meet_J128 (fX2_meet_L62 p0n p1 p2 n_62) v3_62 p0w_62 p0l_62) else (if (p0w_62 0 0) ≤ p1 then (if ixb p1 (p0n 12) = true then (lt9 (upw p0w_62 12 (nn p1) (p0w_62 8 (nn v3_62))) fun (w16 : ST) => (if ixb (p0w_62 8 (nn v3_62)) (p0n 12) = true then (lt9 (upw w16 12 (nn (p0w_62 8 (nn v3_62))) p1) fun (w18 : ST) => (fX2_meet_J128 (fX2_meet_L62 p0n p1 p2 n_62) v3_62 w18 p0l_62)) else none)) else none) else ((fX2_put_a1_p0_10 p0n p0w_62 p0l_62 (p0w_62 8 (nn v3_62)) p1).bind fun (o_19 : SL) => (fX2_meet_J128 (fX2_meet_L62 p0n p1 p2 n_62) v3_62 p0w_62 o_19))))) else none))
def fX2_meet (p0n : Nat → Nat) (p0w : ST) (p0l : SL) (p1 : Int32) (p2 : Int32) : Option (ST × SL) := ((fX2_meet_L2 p0n p0w p1 p2 NF 0 p0l).bind fun (o2 : SL) => ((fX2_meet_L62 p0n p1 p2 NF 0 p0w o2).bind fun (o62 : ST × SL) => some ((o62.1), (o62.2))))
set_option maxHeartbeats 16000000 in
set_option maxRecDepth 100000 in
theorem kX2_meet {zs : ZS} (l : Launch) (dC : Nat → ClassId) (dI : Nat → Nat → Nat) (p0a : Nat → Nat) (p0k : Nat → ClassId) (p0n : Nat → Nat) (p0w : ST) (p0l : SL) (p1 : Int32) (p2 : Int32) (sz : Nat) (o : ST × SL) (hrun : fX2_meet p0n p0w p0l p1 p2 = some o) : Met l yX2_meet (wz yX2_meet cX2_meet 5 (Option.none : Option Jvm.ClassFile.FieldType)) ({ frames := 1, cells := 0, slots := 0, locals := 23 } : Room) (va_Pc [.ref (p0a 0), .int p1, .int p2] (PRE zs dC dI (List.flatten ([(oX2 (p0a 0) p0a p0k p0n p0w p0l)] : List va_W)) (List.flatten ([(tX2 p0k)] : List (List (ClassId × FieldType)))) sz)) (va_Qv (fun (_ : Unit) => True) (fun _ t => POST dC dI (List.flatten ([(oX2 (p0a 0) p0a p0k p0n (o.1) (o.2))] : List va_W)) (List.flatten ([(tX2 p0k)] : List (List (ClassId × FieldType)))) (va_A (List.flatten ([(oX2 (p0a 0) p0a p0k p0n p0w p0l)] : List va_W)) sz) t) (va_A (List.flatten ([(oX2 (p0a 0) p0a p0k p0n p0w p0l)] : List va_W)) sz)) 0 0 (va_A (List.flatten ([(oX2 (p0a 0) p0a p0k p0n p0w p0l)] : List va_W)) sz) := by
  refine Met.ofW (cc := cX2_meet) (maxL := 5) (ret := (Option.none : Option Jvm.ClassFile.FieldType)) (by decide) rfl ?_
  intro p e s m args below meth c s₁ B hml hv
  obtain ⟨rfl, hsz, hP, hK, hD0, hE⟩ := hv
  have hx := B.exec
  have hb := B.bytes
  have hr := B.returns
  have hts0 := atoms_spec (ws := wz yX2_meet cX2_meet 5 (Option.none : Option Jvm.ClassFile.FieldType)) B.pre
  have hts : ∀ w ∈ gw, w.before _ s = true := fun w h => hts0 w (List.mem_cons_of_mem _ h)
  have hown : s.vm.findClass RX2 = some m.cls := findClass_of_methodNamed B.named
  have hlocks := B.notSynchronized
  subst hsz
  have hD := hD0.self (sz := s.heap.size)
  refine gQ9 ?_
  intro Q hQ
  generalize hAe : va_A (List.flatten ([(oX2 (p0a 0) p0a p0k p0n p0w p0l)] : List va_W)) s.heap.size = A at hD hE hQ
  have hA : ∀ q : Nat, s.heap.size ≤ q → A q := fun q h => by rw [← hAe]; exact Or.inr h
  have hS : va_S A s.heap s.heap [] := va_S.rf
  have hP : va_P (dC, dI) cls (List.flatten ([(oX2 (p0a 0) p0a p0k p0n p0w p0l)] : List va_W)) s.heap := hP
  have hl := lv_entry ([.ref (p0a 0), .int p1, .int p2]) (n := 5) (Nat.le_of_ble_eq_true rfl)
  rw [lg_entry_eq]
  generalize (lg_sl ([.ref (p0a 0), .int p1, .int p2]) ++ List.replicate (5 - (lg_sl ([.ref (p0a 0), .int p1, .int p2])).length) Slot.unset).toArray = ls at hl ⊢
  have hl : lv_has ls 5 [(0, .ref (p0a 0)), (1, .int p1), (2, .int p2)] := hl
  obtain ⟨H, hHe⟩ : ∃ H, H = s.heap := ⟨_, rfl⟩
  obtain ⟨locs, hle⟩ : ∃ locs : List Loc, locs = [] := ⟨_, rfl⟩
  rw [← hHe] at hP
  have hS : va_S A s.heap H locs := by rw [hHe, hle]; exact hS
  show W p l e ({ frames := 1, cells := 0, slots := 0, locals := 23 } : Room) s m ([.ref (p0a 0), .int p1, .int p2] : List Value).toArray below meth c s.heap [] 0 0 Q (F0 m 0 ls [])
  rw [← hle]
  refine wH9 hHe ?_
  unfold fX2_meet at hrun
  refine lv_iconst (v := 0) hx hb dX2_meet_0 (by decide) ?_
  refine lv_istore_n (lv' := [(3, .int 0), (0, .ref (p0a 0)), (1, .int p1), (2, .int p2)]) hx hb dX2_meet_1 rfl hl (by decide) rfl (fun ls hl => ?_)
  have L2 : ∀ (n_2 : Nat) (v3_2 : Int32) (p0l_2 : SL) (o2 : SL) (H : Heap) (locs : List Loc) (ls : Array Slot), (fX2_meet_L2 p0n p0w p1 p2 n_2) v3_2 p0l_2 = some o2 → va_P (dC, dI) cls (List.flatten ([(oX2 (p0a 0) p0a p0k p0n p0w p0l_2)] : List va_W)) H → va_D A (List.flatten ([(oX2 (p0a 0) p0a p0k p0n p0w p0l_2)] : List va_W)) → va_K (dC, dI) cls (List.flatten ([(tX2 p0k)] : List (List (ClassId × FieldType)))) s → va_S A s.heap H locs → lv_has ls 5 [(0, .ref (p0a 0)), (1, .int p1), (2, .int p2), (3, .int v3_2)] → (∀ (H : Heap) (locs : List Loc) (ls : Array Slot), va_P (dC, dI) cls (List.flatten ([(oX2 (p0a 0) p0a p0k p0n p0w o2)] : List va_W)) H → va_D A (List.flatten ([(oX2 (p0a 0) p0a p0k p0n p0w o2)] : List va_W)) → va_K (dC, dI) cls (List.flatten ([(tX2 p0k)] : List (List (ClassId × FieldType)))) s → va_S A s.heap H locs → lv_has ls 5 [(0, .ref (p0a 0)), (1, .int p1), (2, .int p2)] → W p l e ({ frames := 1, cells := 0, slots := 0, locals := 23 } : Room) s m ([.ref (p0a 0), .int p1, .int p2] : List Value).toArray below meth c H locs 0 0 Q (F0 m 60 ls [])) → W p l e ({ frames := 1, cells := 0, slots := 0, locals := 23 } : Room) s m ([.ref (p0a 0), .int p1, .int p2] : List Value).toArray below meth c H locs 0 0 Q (F0 m 2 ls []) := by
    intro n_2
    induction n_2 with
    | zero => intro v3_2 p0l_2 o2 H locs ls hrun; exact (no9 rfl hrun).elim
    | succ n_2 IH2 =>
      intro v3_2 p0l_2 o2 H locs ls hrun hP hD hK hS hl hk2
      unfold fX2_meet_L2 at hrun
      refine lv_iload_n hx hb dX2_meet_2 rfl (lv_at hl 3 rfl) ?_
      refine lv_aload_n hx hb dX2_meet_3 rfl (lv_at hl 0 rfl) ?_
      refine va_get (D := (dC, dI)) (ci := 9) (v := .int (p0w 0 2)) (C := RX2) (T := TX2) (N := 19) hx hb hts i_X2 hown hK hP 0 rfl rfl 2 (by decide) (hts _ qw669) (fun _ h9 => h9) rfl dX2_meet_4 ?_
      rcases br9 hrun with ⟨hc1, hrun⟩ | ⟨hc1, hrun⟩
      · refine lv_icmp_ge (tgt := 60) hx hb dX2_meet_7 (by decide) (fun _ => ?_) (fun c => absurd hc1 c)
        obtain rfl := (Option.some.inj hrun)
        exact hk2 _ _ _ hP hD hK hS (lv_sub hl [0, 1, 2] rfl)
      · refine lv_icmp_ge (tgt := 60) hx hb dX2_meet_7 (by decide) (fun c => absurd c hc1) (fun _ => ?_)
        refine lv_aload_n hx hb dX2_meet_10 rfl (lv_at hl 0 rfl) ?_
        refine va_get (D := (dC, dI)) (ci := 9) (v := .ref (p0a 11)) (C := RX2) (T := TX2) (N := 19) hx hb hts i_X2 hown hK hP 0 rfl rfl 10 (by decide) (hts _ qw681) (fun _ h9 => h9) rfl dX2_meet_11 ?_
        refine lv_iload_n hx hb dX2_meet_14 rfl (lv_at hl 1 rfl) ?_
        refine lv_aload_n hx hb dX2_meet_15 rfl (lv_at hl 0 rfl) ?_
        refine va_get (D := (dC, dI)) (ci := 9) (v := .int (p0w 0 2)) (C := RX2) (T := TX2) (N := 19) hx hb hts i_X2 hown hK hP 0 rfl rfl 2 (by decide) (hts _ qw669) (fun _ h9 => h9) rfl dX2_meet_16 ?_
        refine lv_imul hx hb dX2_meet_19 ?_
        refine lv_iload_n hx hb dX2_meet_20 rfl (lv_at hl 3 rfl) ?_
        refine lv_iadd hx hb dX2_meet_21 ?_
        refine lv_dup2_11 hx hb dX2_meet_22 rfl rfl ?_
        obtain ⟨hq2, hrun⟩ := chk9 hrun
        refine va_lald hx hb hK hP 7 6 rfl rfl (ixb_in hq2) dX2_meet_23 ?_
        refine lv_aload_n hx hb dX2_meet_24 rfl (lv_at hl 0 rfl) ?_
        refine va_get (D := (dC, dI)) (ci := 9) (v := .ref (p0a 7)) (C := RX2) (T := TX2) (N := 19) hx hb hts i_X2 hown hK hP 0 rfl rfl 6 (by decide) (hts _ qw680) (fun _ h9 => h9) rfl dX2_meet_25 ?_
        refine lv_iload_n hx hb dX2_meet_28 rfl (lv_at hl 3 rfl) ?_
        obtain ⟨hq3, hrun⟩ := chk9 hrun
        refine va_lald hx hb hK hP 4 3 rfl rfl (ixb_in hq3) dX2_meet_29 ?_
        refine lv_aload_n hx hb dX2_meet_30 rfl (lv_at hl 0 rfl) ?_
        refine lv_iload_n hx hb dX2_meet_31 rfl (lv_at hl 3 rfl) ?_
        refine lv_iload_n hx hb dX2_meet_32 rfl (lv_at hl 1 rfl) ?_
        obtain ⟨o_4, hc_4, hrun⟩ := bnd9 hrun
        have hPx : va_P (dC, dI) cls ((List.flatten ([(oX2 (p0a 0) p0a p0k p0n p0w p0l_2)] : List va_W)) ++ (List.flatten ([] : List va_W))) H := vP_fa (vP_perm hP (bP (List.Perm.refl _)))
        have hDx : va_D A ((List.flatten ([(oX2 (p0a 0) p0a p0k p0n p0w p0l_2)] : List va_W)) ++ (List.flatten ([] : List va_W))) := vD_fa (vD_perm hD (bP (List.Perm.refl _)))
        have hKx : va_K (dC, dI) cls ((List.flatten ([(tX2 p0k)] : List (List (ClassId × FieldType)))) ++ (List.flatten ([] : List (List (ClassId × FieldType))))) s := vK_fa (vK_perm hK (bP (List.Perm.refl _)))
        have hPc := vP_l hPx
        have hDc := vD_l hDx
        have hKc := vK_l hKx
        have hFc := vfree hDx hS hA
        refine va_calll (va_runV (As := [.int v3_2, .int p1]) (rest := [.long (p0l_2 7 (nn v3_2)), .long (p0l_2 11 (nn ((p1 * (p0w 0 2)) + v3_2))), .int ((p1 * (p0w 0 2)) + v3_2), .ref (p0a 11)]) ⟨hx, hb, hml, hown, hts⟩ (kX2_bitIn l dC dI (p0a := p0a) (p0k := p0k) (p0n := p0n) (p0w := p0w) (p0l := p0l_2) (p1 := v3_2) (p2 := p1) (sz := _) (o := o_4) (hrun := hc_4)) (cwV 2 hts (gi_V qw753 qw754 qw755 qw694 (gi_z qw752)) rfl rfl rfl (by decide +kernel) ⟨Nat.le_of_ble_eq_true rfl, Nat.le_of_ble_eq_true rfl⟩) ⟨PRE.blind, va_recv hKc hPc (ci := 9) (q0 := 0) rfl rfl, PRE.of hE hS hFc hPc hKc hDc⟩ rfl rfl hl.1 rfl (lv_room (Nat.le_of_ble_eq_true rfl)) dX2_meet_33 ⟨(Nat.le_of_ble_eq_true rfl), (Nat.le_of_ble_eq_true rfl)⟩) hS (fun q _ h => hFc q h) hFc (fun r5 u t H locs ht hvm hw hB hz1 hk1 hS => ?_)
        obtain ⟨b1, b2, b3⟩ := hB
        rw [ht] at b1
        obtain ⟨hP, hD, hK⟩ := JOINC (wc := (List.flatten ([(oX2 (p0a 0) p0a p0k p0n p0w p0l_2)] : List va_W))) (wr := (List.flatten ([] : List va_W))) (w1 := (List.flatten ([(oX2 (p0a 0) p0a p0k p0n p0w p0l_2)] : List va_W))) (t1 := (List.flatten ([(tX2 p0k)] : List (List (ClassId × FieldType))))) hPx hDx hKx hk1 hFc b1 (va_K.moved hvm.symm b2) b3
        have hP : va_P (dC, dI) cls (List.flatten ([(oX2 (p0a 0) p0a p0k p0n p0w p0l_2)] : List va_W)) H := vP_perm (vP_fb hP) (bP (List.Perm.refl _))
        have hD : va_D A (List.flatten ([(oX2 (p0a 0) p0a p0k p0n p0w p0l_2)] : List va_W)) := vD_perm (vD_fb hD) (bP (List.Perm.refl _))
        have hK : va_K (dC, dI) cls (List.flatten ([(tX2 p0k)] : List (List (ClassId × FieldType)))) s := vK_perm (vK_fb hK) (bP (List.Perm.refl _))
        obtain rfl : o_4 = r5 := hw.symm
        refine lv_ldc2 (v := (-1)) hx hb hown (hts _ qw725) dX2_meet_36 ?_
        refine lv_lxor hx hb dX2_meet_39 ?_
        refine lv_land hx hb dX2_meet_40 ?_
        refine lv_aload_n hx hb dX2_meet_41 rfl (lv_at hl 0 rfl) ?_
        refine lv_iload_n hx hb dX2_meet_42 rfl (lv_at hl 3 rfl) ?_
        refine lv_iload_n hx hb dX2_meet_43 rfl (lv_at hl 2 rfl) ?_
        obtain ⟨o_6, hc_6, hrun⟩ := bnd9 hrun
        have hPx : va_P (dC, dI) cls ((List.flatten ([(oX2 (p0a 0) p0a p0k p0n p0w p0l_2)] : List va_W)) ++ (List.flatten ([] : List va_W))) H := vP_fa (vP_perm hP (bP (List.Perm.refl _)))
        have hDx : va_D A ((List.flatten ([(oX2 (p0a 0) p0a p0k p0n p0w p0l_2)] : List va_W)) ++ (List.flatten ([] : List va_W))) := vD_fa (vD_perm hD (bP (List.Perm.refl _)))
        have hKx : va_K (dC, dI) cls ((List.flatten ([(tX2 p0k)] : List (List (ClassId × FieldType)))) ++ (List.flatten ([] : List (List (ClassId × FieldType))))) s := vK_fa (vK_perm hK (bP (List.Perm.refl _)))
        have hPc := vP_l hPx
        have hDc := vD_l hDx
        have hKc := vK_l hKx
        have hFc := vfree hDx hS hA
        refine va_calll (va_runV (As := [.int v3_2, .int p2]) (rest := [.long ((p0l_2 7 (nn v3_2)) &&& (o_4 ^^^ ((-1) : Int64))), .long (p0l_2 11 (nn ((p1 * (p0w 0 2)) + v3_2))), .int ((p1 * (p0w 0 2)) + v3_2), .ref (p0a 11)]) ⟨hx, hb, hml, hown, hts⟩ (kX2_bitIn l dC dI (p0a := p0a) (p0k := p0k) (p0n := p0n) (p0w := p0w) (p0l := p0l_2) (p1 := v3_2) (p2 := p2) (sz := _) (o := o_6) (hrun := hc_6)) (cwV 2 hts (gi_V qw753 qw754 qw755 qw694 (gi_z qw752)) rfl rfl rfl (by decide +kernel) ⟨Nat.le_of_ble_eq_true rfl, Nat.le_of_ble_eq_true rfl⟩) ⟨PRE.blind, va_recv hKc hPc (ci := 9) (q0 := 0) rfl rfl, PRE.of hE hS hFc hPc hKc hDc⟩ rfl rfl hl.1 rfl (lv_room (Nat.le_of_ble_eq_true rfl)) dX2_meet_44 ⟨(Nat.le_of_ble_eq_true rfl), (Nat.le_of_ble_eq_true rfl)⟩) hS (fun q _ h => hFc q h) hFc (fun r7 u t H locs ht hvm hw hB hz1 hk1 hS => ?_)
        obtain ⟨b1, b2, b3⟩ := hB
        rw [ht] at b1
        obtain ⟨hP, hD, hK⟩ := JOINC (wc := (List.flatten ([(oX2 (p0a 0) p0a p0k p0n p0w p0l_2)] : List va_W))) (wr := (List.flatten ([] : List va_W))) (w1 := (List.flatten ([(oX2 (p0a 0) p0a p0k p0n p0w p0l_2)] : List va_W))) (t1 := (List.flatten ([(tX2 p0k)] : List (List (ClassId × FieldType))))) hPx hDx hKx hk1 hFc b1 (va_K.moved hvm.symm b2) b3
        have hP : va_P (dC, dI) cls (List.flatten ([(oX2 (p0a 0) p0a p0k p0n p0w p0l_2)] : List va_W)) H := vP_perm (vP_fb hP) (bP (List.Perm.refl _))
        have hD : va_D A (List.flatten ([(oX2 (p0a 0) p0a p0k p0n p0w p0l_2)] : List va_W)) := vD_perm (vD_fb hD) (bP (List.Perm.refl _))
        have hK : va_K (dC, dI) cls (List.flatten ([(tX2 p0k)] : List (List (ClassId × FieldType)))) s := vK_perm (vK_fb hK) (bP (List.Perm.refl _))
        obtain rfl : o_6 = r7 := hw.symm
        refine lv_ldc2 (v := (-1)) hx hb hown (hts _ qw725) dX2_meet_47 ?_
        refine lv_lxor hx hb dX2_meet_50 ?_
        refine lv_land hx hb dX2_meet_51 ?_
        refine lv_lor hx hb dX2_meet_52 ?_
        obtain ⟨hq8, hrun⟩ := chk9 hrun
        refine va_last hx hb hK hP hD hS 7 6 rfl rfl (ixb_in hq8) dX2_meet_53 (fun H locs hP hD hS => ?_)
        have hP : va_P (dC, dI) cls (List.flatten ([(oX2 (p0a 0) p0a p0k p0n p0w (upl p0l_2 11 (nn ((p1 * (p0w 0 2)) + v3_2)) ((p0l_2 11 (nn ((p1 * (p0w 0 2)) + v3_2))) ||| (((p0l_2 7 (nn v3_2)) &&& (o_4 ^^^ ((-1) : Int64))) &&& (o_6 ^^^ ((-1) : Int64))))))] : List va_W)) H := hP
        have hD : va_D A (List.flatten ([(oX2 (p0a 0) p0a p0k p0n p0w (upl p0l_2 11 (nn ((p1 * (p0w 0 2)) + v3_2)) ((p0l_2 11 (nn ((p1 * (p0w 0 2)) + v3_2))) ||| (((p0l_2 7 (nn v3_2)) &&& (o_4 ^^^ ((-1) : Int64))) &&& (o_6 ^^^ ((-1) : Int64))))))] : List va_W)) := hD
        obtain ⟨l9, el9, hrun⟩ := let9 hrun
        rw [← el9] at hP hD
        refine lv_iinc (v := (v3_2 + 1)) (lv' := [(3, .int (v3_2 + 1)), (0, .ref (p0a 0)), (1, .int p1), (2, .int p2)]) hx hb dX2_meet_54 hl (k := 3) rfl rfl (by decide) rfl (fun ls hl => ?_)
        refine lv_goto (tgt := 2) hx hb dX2_meet_57 (by decide) ?_
        exact IH2 (v3_2 + 1) l9 o2 _ _ _ hrun hP hD hK hS (lv_sub hl [1, 2, 3, 0] rfl) hk2
  obtain ⟨o2, hc2, hrun⟩ := bnd9 hrun
  refine L2 NF 0 p0l o2 _ _ _ hc2 hP hD hK hS (lv_sub hl [1, 2, 3, 0] rfl) ?_
  intro H locs ls hP hD hK hS hl
  have hl := hl
  refine lv_iconst (v := 0) hx hb dX2_meet_60 (by decide) ?_
  refine lv_istore_n (lv' := [(3, .int 0), (0, .ref (p0a 0)), (1, .int p1), (2, .int p2)]) hx hb dX2_meet_61 rfl hl (by decide) rfl (fun ls hl => ?_)
  have L62 : ∀ (n_62 : Nat) (v3_62 : Int32) (p0w_62 : ST) (p0l_62 : SL) (o62 : ST × SL) (H : Heap) (locs : List Loc) (ls : Array Slot), (fX2_meet_L62 p0n p1 p2 n_62) v3_62 p0w_62 p0l_62 = some o62 → va_P (dC, dI) cls (List.flatten ([(oX2 (p0a 0) p0a p0k p0n p0w_62 p0l_62)] : List va_W)) H → va_D A (List.flatten ([(oX2 (p0a 0) p0a p0k p0n p0w_62 p0l_62)] : List va_W)) → va_K (dC, dI) cls (List.flatten ([(tX2 p0k)] : List (List (ClassId × FieldType)))) s → va_S A s.heap H locs → lv_has ls 5 [(0, .ref (p0a 0)), (1, .int p1), (2, .int p2), (3, .int v3_62)] → (∀ (H : Heap) (locs : List Loc) (ls : Array Slot), va_P (dC, dI) cls (List.flatten ([(oX2 (p0a 0) p0a p0k p0n (o62.1) (o62.2))] : List va_W)) H → va_D A (List.flatten ([(oX2 (p0a 0) p0a p0k p0n (o62.1) (o62.2))] : List va_W)) → va_K (dC, dI) cls (List.flatten ([(tX2 p0k)] : List (List (ClassId × FieldType)))) s → va_S A s.heap H locs → lv_has ls 5 [] → W p l e ({ frames := 1, cells := 0, slots := 0, locals := 23 } : Room) s m ([.ref (p0a 0), .int p1, .int p2] : List Value).toArray below meth c H locs 0 0 Q (F0 m 134 ls [])) → W p l e ({ frames := 1, cells := 0, slots := 0, locals := 23 } : Room) s m ([.ref (p0a 0), .int p1, .int p2] : List Value).toArray below meth c H locs 0 0 Q (F0 m 62 ls []) := by
    intro n_62
    induction n_62 with
    | zero => intro v3_62 p0w_62 p0l_62 o62 H locs ls hrun; exact (no9 rfl hrun).elim
    | succ n_62 IH62 =>
      intro v3_62 p0w_62 p0l_62 o62 H locs ls hrun hP hD hK hS hl hk62
      unfold fX2_meet_L62 at hrun
      refine lv_iload_n hx hb dX2_meet_62 rfl (lv_at hl 3 rfl) ?_
      refine lv_aload_n hx hb dX2_meet_63 rfl (lv_at hl 0 rfl) ?_
      refine va_get (D := (dC, dI)) (ci := 9) (v := .int (p0w_62 0 8)) (C := RX2) (T := TX2) (N := 19) hx hb hts i_X2 hown hK hP 0 rfl rfl 8 (by decide) (hts _ qw737) (fun _ h9 => h9) rfl dX2_meet_64 ?_
      rcases br9 hrun with ⟨hc10, hrun⟩ | ⟨hc10, hrun⟩
      · refine lv_icmp_ge (tgt := 134) hx hb dX2_meet_67 (by decide) (fun _ => ?_) (fun c => absurd hc10 c)
        obtain rfl := (Option.some.inj hrun)
        exact hk62 _ _ _ hP hD hK hS (lv_sub hl [] rfl)
      · refine lv_icmp_ge (tgt := 134) hx hb dX2_meet_67 (by decide) (fun c => absurd c hc10) (fun _ => ?_)
        refine lv_aload_n hx hb dX2_meet_70 rfl (lv_at hl 0 rfl) ?_
        refine va_get (D := (dC, dI)) (ci := 9) (v := .ref (p0a 8)) (C := RX2) (T := TX2) (N := 19) hx hb hts i_X2 hown hK hP 0 rfl rfl 7 (by decide) (hts _ qw747) (fun _ h9 => h9) rfl dX2_meet_71 ?_
        refine lv_iload_n hx hb dX2_meet_74 rfl (lv_at hl 3 rfl) ?_
        obtain ⟨hq11, hrun⟩ := chk9 hrun
        refine va_iald hx hb hK hP 5 4 rfl rfl (ixb_in hq11) dX2_meet_75 ?_
        refine lv_istore (lv' := [(4, .int (p0w_62 8 (nn v3_62))), (0, .ref (p0a 0)), (1, .int p1), (2, .int p2), (3, .int v3_62)]) hx hb dX2_meet_76 hl (by decide) rfl (fun ls hl => ?_)
        refine lv_iload hx hb dX2_meet_78 (lv_at hl 0 rfl) ?_
        refine lv_iload_n hx hb dX2_meet_80 rfl (lv_at hl 2 rfl) ?_
        have J128 : ∀ (p0w_128 : ST) (p0l_128 : SL) (H : Heap) (locs : List Loc) (ls : Array Slot), (fX2_meet_J128 (fX2_meet_L62 p0n p1 p2 n_62) v3_62 p0w_128 p0l_128) = some o62 → va_P (dC, dI) cls (List.flatten ([(oX2 (p0a 0) p0a p0k p0n p0w_128 p0l_128)] : List va_W)) H → va_D A (List.flatten ([(oX2 (p0a 0) p0a p0k p0n p0w_128 p0l_128)] : List va_W)) → va_K (dC, dI) cls (List.flatten ([(tX2 p0k)] : List (List (ClassId × FieldType)))) s → va_S A s.heap H locs → lv_has ls 5 [(0, .ref (p0a 0)), (1, .int p1), (2, .int p2), (3, .int v3_62)] → W p l e ({ frames := 1, cells := 0, slots := 0, locals := 23 } : Room) s m ([.ref (p0a 0), .int p1, .int p2] : List Value).toArray below meth c H locs 0 0 Q (F0 m 128 ls []) := by
          intro p0w_128 p0l_128 H locs ls hrun hP hD hK hS hl 
          unfold fX2_meet_J128 at hrun
          refine lv_iinc (v := (v3_62 + 1)) (lv' := [(3, .int (v3_62 + 1)), (0, .ref (p0a 0)), (1, .int p1), (2, .int p2)]) hx hb dX2_meet_128 hl (k := 3) rfl rfl (by decide) rfl (fun ls hl => ?_)
          refine lv_goto (tgt := 62) hx hb dX2_meet_131 (by decide) ?_
          exact IH62 (v3_62 + 1) p0w_128 p0l_128 o62 _ _ _ hrun hP hD hK hS (lv_sub hl [1, 2, 3, 0] rfl) hk62
        rcases br9 hrun with ⟨hc12, hrun⟩ | ⟨hc12, hrun⟩
        · refine lv_icmp_eq (tgt := 128) hx hb dX2_meet_81 (by decide) (fun _ => ?_) (fun c => absurd hc12 c)
          exact J128 p0w_62 p0l_62 _ _ _ hrun hP hD hK hS (lv_sub hl [1, 2, 3, 4] rfl)
        · refine lv_icmp_eq (tgt := 128) hx hb dX2_meet_81 (by decide) (fun c => absurd c hc12) (fun _ => ?_)
          refine lv_iload hx hb dX2_meet_84 (lv_at hl 0 rfl) ?_
          refine lv_iload_n hx hb dX2_meet_86 rfl (lv_at hl 3 rfl) ?_
          rcases br9 hrun with ⟨hc13, hrun⟩ | ⟨hc13, hrun⟩
          · refine lv_icmp_eq (tgt := 128) hx hb dX2_meet_87 (by decide) (fun _ => ?_) (fun c => absurd hc13 c)
            exact J128 p0w_62 p0l_62 _ _ _ hrun hP hD hK hS (lv_sub hl [1, 2, 3, 4] rfl)
          · refine lv_icmp_eq (tgt := 128) hx hb dX2_meet_87 (by decide) (fun c => absurd c hc13) (fun _ => ?_)
            refine lv_iload_n hx hb dX2_meet_90 rfl (lv_at hl 2 rfl) ?_
            refine lv_aload_n hx hb dX2_meet_91 rfl (lv_at hl 1 rfl) ?_
            refine va_get (D := (dC, dI)) (ci := 9) (v := .int (p0w_62 0 0)) (C := RX2) (T := TX2) (N := 19) hx hb hts i_X2 hown hK hP 0 rfl rfl 0 (by decide) (hts _ qw667) (fun _ h9 => h9) rfl dX2_meet_92 ?_
            rcases br9 hrun with ⟨hc14, hrun⟩ | ⟨hc14, hrun⟩
            · refine lv_icmp_ge (tgt := 112) hx hb dX2_meet_95 (by decide) (fun _ => ?_) (fun c => absurd hc14 c)
              refine lv_aload_n hx hb dX2_meet_112 rfl (lv_at hl 1 rfl) ?_
              refine va_get (D := (dC, dI)) (ci := 9) (v := .ref (p0a 12)) (C := RX2) (T := TX2) (N := 19) hx hb hts i_X2 hown hK hP 0 rfl rfl 11 (by decide) (hts _ qw682) (fun _ h9 => h9) rfl dX2_meet_113 ?_
              refine lv_iload_n hx hb dX2_meet_116 rfl (lv_at hl 2 rfl) ?_
              refine lv_iload hx hb dX2_meet_117 (lv_at hl 0 rfl) ?_
              obtain ⟨hq15, hrun⟩ := chk9 hrun
              refine va_iast hx hb hK hP hD hS 8 7 rfl rfl (ixb_in hq15) dX2_meet_119 (fun H locs hP hD hS => ?_)
              have hP : va_P (dC, dI) cls (List.flatten ([(oX2 (p0a 0) p0a p0k p0n (upw p0w_62 12 (nn p1) (p0w_62 8 (nn v3_62))) p0l_62)] : List va_W)) H := hP
              have hD : va_D A (List.flatten ([(oX2 (p0a 0) p0a p0k p0n (upw p0w_62 12 (nn p1) (p0w_62 8 (nn v3_62))) p0l_62)] : List va_W)) := hD
              obtain ⟨w16, ew16, hrun⟩ := let9 hrun
              rw [← ew16] at hP hD
              refine lv_aload_n hx hb dX2_meet_120 rfl (lv_at hl 1 rfl) ?_
              refine va_get (D := (dC, dI)) (ci := 9) (v := .ref (p0a 12)) (C := RX2) (T := TX2) (N := 19) hx hb hts i_X2 hown hK hP 0 rfl rfl 11 (by decide) (hts _ qw682) (fun _ h9 => h9) rfl dX2_meet_121 ?_
              refine lv_iload hx hb dX2_meet_124 (lv_at hl 0 rfl) ?_
              refine lv_iload_n hx hb dX2_meet_126 rfl (lv_at hl 2 rfl) ?_
              obtain ⟨hq17, hrun⟩ := chk9 hrun
              refine va_iast hx hb hK hP hD hS 8 7 rfl rfl (ixb_in hq17) dX2_meet_127 (fun H locs hP hD hS => ?_)
              have hP : va_P (dC, dI) cls (List.flatten ([(oX2 (p0a 0) p0a p0k p0n (upw w16 12 (nn (p0w_62 8 (nn v3_62))) p1) p0l_62)] : List va_W)) H := hP
              have hD : va_D A (List.flatten ([(oX2 (p0a 0) p0a p0k p0n (upw w16 12 (nn (p0w_62 8 (nn v3_62))) p1) p0l_62)] : List va_W)) := hD
              obtain ⟨w18, ew18, hrun⟩ := let9 hrun
              rw [← ew18] at hP hD
              exact J128 w18 p0l_62 _ _ _ hrun hP hD hK hS (lv_sub hl [1, 2, 3, 4] rfl)
            · refine lv_icmp_ge (tgt := 112) hx hb dX2_meet_95 (by decide) (fun c => absurd c hc14) (fun _ => ?_)
              refine lv_aload_n hx hb dX2_meet_98 rfl (lv_at hl 1 rfl) ?_
              refine lv_aload_n hx hb dX2_meet_99 rfl (lv_at hl 1 rfl) ?_
              refine va_get (D := (dC, dI)) (ci := 9) (v := .ref (p0a 11)) (C := RX2) (T := TX2) (N := 19) hx hb hts i_X2 hown hK hP 0 rfl rfl 10 (by decide) (hts _ qw681) (fun _ h9 => h9) rfl dX2_meet_100 ?_
              refine lv_iload hx hb dX2_meet_103 (lv_at hl 0 rfl) ?_
              refine lv_iload_n hx hb dX2_meet_105 rfl (lv_at hl 2 rfl) ?_
              obtain ⟨o_19, hc_19, hrun⟩ := bnd9 hrun
              have hPx : va_P (dC, dI) cls ((List.flatten ([(oX2 (p0a 0) p0a p0k p0n p0w_62 p0l_62)] : List va_W)) ++ (List.flatten ([] : List va_W))) H := vP_fa (vP_perm hP (bP (List.Perm.refl _)))
              have hDx : va_D A ((List.flatten ([(oX2 (p0a 0) p0a p0k p0n p0w_62 p0l_62)] : List va_W)) ++ (List.flatten ([] : List va_W))) := vD_fa (vD_perm hD (bP (List.Perm.refl _)))
              have hKx : va_K (dC, dI) cls ((List.flatten ([(tX2 p0k)] : List (List (ClassId × FieldType)))) ++ (List.flatten ([] : List (List (ClassId × FieldType))))) s := vK_fa (vK_perm hK (bP (List.Perm.refl _)))
              have hPc := vP_l hPx
              have hDc := vD_l hDx
              have hKc := vK_l hKx
              have hFc := vfree hDx hS hA
              refine va_callv (va_runV (As := [.ref (p0a 11), .int (p0w_62 8 (nn v3_62)), .int p1]) (rest := []) ⟨hx, hb, hml, hown, hts⟩ (kX2_put_a1_p0_10 l dC dI (p0a := p0a) (p0k := p0k) (p0n := p0n) (p0w := p0w_62) (p0l := p0l_62) (p2 := (p0w_62 8 (nn v3_62))) (p3 := p1) (sz := _) (o := o_19) (hrun := hc_19)) (cwV 3 hts (gi_V qw704 qw705 qw706 qw694 (gi_z qw703)) rfl rfl rfl (by decide +kernel) ⟨Nat.le_of_ble_eq_true rfl, Nat.le_of_ble_eq_true rfl⟩) ⟨PRE.blind, va_recv hKc hPc (ci := 9) (q0 := 0) rfl rfl, PRE.of hE hS hFc hPc hKc hDc⟩ rfl rfl hl.1 rfl (lv_room (Nat.le_of_ble_eq_true rfl)) dX2_meet_106 ⟨(Nat.le_of_ble_eq_true rfl), (Nat.le_of_ble_eq_true rfl)⟩) hS (fun q _ h => hFc q h) hFc (fun u t H locs ht hvm hw hB hz1 hk1 hS => ?_)
              obtain ⟨b1, b2, b3⟩ := hB
              rw [ht] at b1
              obtain ⟨hP, hD, hK⟩ := JOINC (wc := (List.flatten ([(oX2 (p0a 0) p0a p0k p0n p0w_62 p0l_62)] : List va_W))) (wr := (List.flatten ([] : List va_W))) (w1 := (List.flatten ([(oX2 (p0a 0) p0a p0k p0n p0w_62 o_19)] : List va_W))) (t1 := (List.flatten ([(tX2 p0k)] : List (List (ClassId × FieldType))))) hPx hDx hKx hk1 hFc b1 (va_K.moved hvm.symm b2) b3
              have hP : va_P (dC, dI) cls (List.flatten ([(oX2 (p0a 0) p0a p0k p0n p0w_62 o_19)] : List va_W)) H := vP_perm (vP_fb hP) (bP (List.Perm.refl _))
              have hD : va_D A (List.flatten ([(oX2 (p0a 0) p0a p0k p0n p0w_62 o_19)] : List va_W)) := vD_perm (vD_fb hD) (bP (List.Perm.refl _))
              have hK : va_K (dC, dI) cls (List.flatten ([(tX2 p0k)] : List (List (ClassId × FieldType)))) s := vK_perm (vK_fb hK) (bP (List.Perm.refl _))
              refine lv_goto (tgt := 128) hx hb dX2_meet_109 (by decide) ?_
              exact J128 p0w_62 o_19 _ _ _ hrun hP hD hK hS (lv_sub hl [1, 2, 3, 4] rfl)
  obtain ⟨o62, hc62, hrun⟩ := bnd9 hrun
  refine L62 NF 0 p0w o2 o62 _ _ _ hc62 hP hD hK hS (lv_sub hl [1, 2, 3, 0] rfl) ?_
  intro H locs ls hP hD hK hS hl
  have hl := hl
  have ho9 : ((o62.1), (o62.2)) = o := Option.some.inj hrun
  have hP9 : va_P (dC, dI) cls (List.flatten ([(oX2 (p0a 0) p0a p0k p0n (o.1) (o.2))] : List va_W)) H := by first | exact hP | (rw [← ho9]; exact hP)
  have hD9 : va_D A (List.flatten ([(oX2 (p0a 0) p0a p0k p0n (o.1) (o.2))] : List va_W)) := by first | exact hD | (rw [← ho9]; exact hD)
  subst hQ
  exact W.vret hx hb hr (fun t ht hW => ⟨⟨(), rfl, trivial, ⟨by rw [ht]; exact hP9, va_K.moved hW.alike hK, hD9⟩⟩, hS.F ht⟩) hS.2.2 dX2_meet_134
def fX2_removeLive_L33 (p0w : ST) (p0l : SL) (p1 : Int32) : Nat → Int32 → Option (Sum (ST × SL) Unit)
  | 0 => fun _ => none
  | n_33 + 1 => fun v2_33 => (if (p0w 0 8) ≤ v2_33 then some (Sum.inr ()) else (if ixb v2_33 2 = true then (if (p0w 8 (nn v2_33)) = p1 then (lt9 (upw p0w 0 8 ((p0w 0 8) - 1)) fun (w5 : ST) => (if ixb (w5 0 8) 2 = true then (if ixb v2_33 2 = true then (lt9 (upw w5 8 (nn v2_33) (w5 8 (nn (w5 0 8)))) fun (w8 : ST) => some (Sum.inl (w8, p0l))) else none) else none)) else ((fX2_removeLive_L33 p0w p0l p1 n_33) (v2_33 + 1))) else none))
def fX2_removeLive (p0n : Nat → Nat) (p0w : ST) (p0l : SL) (p1 : Int32) : Option (ST × SL) := (if (p0w 0 0) ≤ p1 then ((fX2_removeLive_L33 p0w p0l p1 NF 0).bind fun (o33 : (Sum (ST × SL) Unit)) => Sum.elim (fun r => some r) (fun (t33 : Unit) => some (p0w, p0l)) o33) else (if ixb (p1 >>> (6 &&& 31)) (p0n 7) = true then (if ixb (p1 >>> (6 &&& 31)) (p0n 7) = true then (lt9 (upl p0l 7 (nn (p1 >>> (6 &&& 31))) ((p0l 7 (nn (p1 >>> (6 &&& 31)))) &&& ((((1 : Int64) <<< (((p1 &&& 63) : Int32).toInt64 &&& 63))) ^^^ ((-1) : Int64)))) fun (l11 : SL) => some (p0w, l11)) else none) else none))
set_option maxHeartbeats 16000000 in
set_option maxRecDepth 100000 in
theorem kX2_removeLive {zs : ZS} (l : Launch) (dC : Nat → ClassId) (dI : Nat → Nat → Nat) (p0a : Nat → Nat) (p0k : Nat → ClassId) (p0n : Nat → Nat) (p0w : ST) (p0l : SL) (p1 : Int32) (sz : Nat) (o : ST × SL) (hrun : fX2_removeLive p0n p0w p0l p1 = some o) : Met l yX2_removeLive (wz yX2_removeLive cX2_removeLive 3 (Option.none : Option Jvm.ClassFile.FieldType)) ({ frames := 0, cells := 0, slots := 0, locals := 0 } : Room) (va_Pc [.ref (p0a 0), .int p1] (PRE zs dC dI (List.flatten ([(oX2 (p0a 0) p0a p0k p0n p0w p0l)] : List va_W)) (List.flatten ([(tX2 p0k)] : List (List (ClassId × FieldType)))) sz)) (va_Qv (fun (_ : Unit) => True) (fun _ t => POST dC dI (List.flatten ([(oX2 (p0a 0) p0a p0k p0n (o.1) (o.2))] : List va_W)) (List.flatten ([(tX2 p0k)] : List (List (ClassId × FieldType)))) (va_A (List.flatten ([(oX2 (p0a 0) p0a p0k p0n p0w p0l)] : List va_W)) sz) t) (va_A (List.flatten ([(oX2 (p0a 0) p0a p0k p0n p0w p0l)] : List va_W)) sz)) 0 0 (va_A (List.flatten ([(oX2 (p0a 0) p0a p0k p0n p0w p0l)] : List va_W)) sz) := by
  refine Met.ofW (cc := cX2_removeLive) (maxL := 3) (ret := (Option.none : Option Jvm.ClassFile.FieldType)) (by decide) rfl ?_
  intro p e s m args below meth c s₁ B hml hv
  obtain ⟨rfl, hsz, hP, hK, hD0, hE⟩ := hv
  have hx := B.exec
  have hb := B.bytes
  have hr := B.returns
  have hts0 := atoms_spec (ws := wz yX2_removeLive cX2_removeLive 3 (Option.none : Option Jvm.ClassFile.FieldType)) B.pre
  have hts : ∀ w ∈ gw, w.before _ s = true := fun w h => hts0 w (List.mem_cons_of_mem _ h)
  have hown : s.vm.findClass RX2 = some m.cls := findClass_of_methodNamed B.named
  have hlocks := B.notSynchronized
  subst hsz
  have hD := hD0.self (sz := s.heap.size)
  refine gQ9 ?_
  intro Q hQ
  generalize hAe : va_A (List.flatten ([(oX2 (p0a 0) p0a p0k p0n p0w p0l)] : List va_W)) s.heap.size = A at hD hE hQ
  have hA : ∀ q : Nat, s.heap.size ≤ q → A q := fun q h => by rw [← hAe]; exact Or.inr h
  have hS : va_S A s.heap s.heap [] := va_S.rf
  have hP : va_P (dC, dI) cls (List.flatten ([(oX2 (p0a 0) p0a p0k p0n p0w p0l)] : List va_W)) s.heap := hP
  have hl := lv_entry ([.ref (p0a 0), .int p1]) (n := 3) (Nat.le_of_ble_eq_true rfl)
  rw [lg_entry_eq]
  generalize (lg_sl ([.ref (p0a 0), .int p1]) ++ List.replicate (3 - (lg_sl ([.ref (p0a 0), .int p1])).length) Slot.unset).toArray = ls at hl ⊢
  have hl : lv_has ls 3 [(0, .ref (p0a 0)), (1, .int p1)] := hl
  obtain ⟨H, hHe⟩ : ∃ H, H = s.heap := ⟨_, rfl⟩
  obtain ⟨locs, hle⟩ : ∃ locs : List Loc, locs = [] := ⟨_, rfl⟩
  rw [← hHe] at hP
  have hS : va_S A s.heap H locs := by rw [hHe, hle]; exact hS
  show W p l e ({ frames := 0, cells := 0, slots := 0, locals := 0 } : Room) s m ([.ref (p0a 0), .int p1] : List Value).toArray below meth c s.heap [] 0 0 Q (F0 m 0 ls [])
  rw [← hle]
  refine wH9 hHe ?_
  unfold fX2_removeLive at hrun
  refine lv_iload_n hx hb dX2_removeLive_0 rfl (lv_at hl 1 rfl) ?_
  refine lv_aload_n hx hb dX2_removeLive_1 rfl (lv_at hl 0 rfl) ?_
  refine va_get (D := (dC, dI)) (ci := 9) (v := .int (p0w 0 0)) (C := RX2) (T := TX2) (N := 19) hx hb hts i_X2 hown hK hP 0 rfl rfl 0 (by decide) (hts _ qw667) (fun _ h9 => h9) rfl dX2_removeLive_2 ?_
  rcases br9 hrun with ⟨hc1, hrun⟩ | ⟨hc1, hrun⟩
  · refine lv_icmp_ge (tgt := 31) hx hb dX2_removeLive_5 (by decide) (fun _ => ?_) (fun c => absurd hc1 c)
    refine lv_iconst (v := 0) hx hb dX2_removeLive_31 (by decide) ?_
    refine lv_istore_n (lv' := [(2, .int 0), (0, .ref (p0a 0)), (1, .int p1)]) hx hb dX2_removeLive_32 rfl hl (by decide) rfl (fun ls hl => ?_)
    have L33 : ∀ (n_33 : Nat) (v2_33 : Int32) (o33 : (Sum (ST × SL) Unit)) (H : Heap) (locs : List Loc) (ls : Array Slot), (fX2_removeLive_L33 p0w p0l p1 n_33) v2_33 = some o33 → va_P (dC, dI) cls (List.flatten ([(oX2 (p0a 0) p0a p0k p0n p0w p0l)] : List va_W)) H → va_D A (List.flatten ([(oX2 (p0a 0) p0a p0k p0n p0w p0l)] : List va_W)) → va_K (dC, dI) cls (List.flatten ([(tX2 p0k)] : List (List (ClassId × FieldType)))) s → va_S A s.heap H locs → lv_has ls 3 [(0, .ref (p0a 0)), (1, .int p1), (2, .int v2_33)] → (∀ r, o33 = Sum.inl r → r = o) → (∀ (t33 : Unit), o33 = Sum.inr t33 → ∀ (H : Heap) (locs : List Loc) (ls : Array Slot), va_P (dC, dI) cls (List.flatten ([(oX2 (p0a 0) p0a p0k p0n p0w p0l)] : List va_W)) H → va_D A (List.flatten ([(oX2 (p0a 0) p0a p0k p0n p0w p0l)] : List va_W)) → va_K (dC, dI) cls (List.flatten ([(tX2 p0k)] : List (List (ClassId × FieldType)))) s → va_S A s.heap H locs → lv_has ls 3 [] → W p l e ({ frames := 0, cells := 0, slots := 0, locals := 0 } : Room) s m ([.ref (p0a 0), .int p1] : List Value).toArray below meth c H locs 0 0 Q (F0 m 83 ls [])) → W p l e ({ frames := 0, cells := 0, slots := 0, locals := 0 } : Room) s m ([.ref (p0a 0), .int p1] : List Value).toArray below meth c H locs 0 0 Q (F0 m 33 ls []) := by
      intro n_33
      induction n_33 with
      | zero => intro v2_33 o33 H locs ls hrun; exact (no9 rfl hrun).elim
      | succ n_33 IH33 =>
        intro v2_33 o33 H locs ls hrun hP hD hK hS hl hr33 hk33
        unfold fX2_removeLive_L33 at hrun
        refine lv_iload_n hx hb dX2_removeLive_33 rfl (lv_at hl 2 rfl) ?_
        refine lv_aload_n hx hb dX2_removeLive_34 rfl (lv_at hl 0 rfl) ?_
        refine va_get (D := (dC, dI)) (ci := 9) (v := .int (p0w 0 8)) (C := RX2) (T := TX2) (N := 19) hx hb hts i_X2 hown hK hP 0 rfl rfl 8 (by decide) (hts _ qw737) (fun _ h9 => h9) rfl dX2_removeLive_35 ?_
        rcases br9 hrun with ⟨hc2, hrun⟩ | ⟨hc2, hrun⟩
        · refine lv_icmp_ge (tgt := 83) hx hb dX2_removeLive_38 (by decide) (fun _ => ?_) (fun c => absurd hc2 c)
          obtain rfl := (Option.some.inj hrun)
          exact hk33 _ rfl _ _ _ hP hD hK hS (lv_sub hl [] rfl)
        · refine lv_icmp_ge (tgt := 83) hx hb dX2_removeLive_38 (by decide) (fun c => absurd c hc2) (fun _ => ?_)
          refine lv_aload_n hx hb dX2_removeLive_41 rfl (lv_at hl 0 rfl) ?_
          refine va_get (D := (dC, dI)) (ci := 9) (v := .ref (p0a 8)) (C := RX2) (T := TX2) (N := 19) hx hb hts i_X2 hown hK hP 0 rfl rfl 7 (by decide) (hts _ qw747) (fun _ h9 => h9) rfl dX2_removeLive_42 ?_
          refine lv_iload_n hx hb dX2_removeLive_45 rfl (lv_at hl 2 rfl) ?_
          obtain ⟨hq3, hrun⟩ := chk9 hrun
          refine va_iald hx hb hK hP 5 4 rfl rfl (ixb_in hq3) dX2_removeLive_46 ?_
          refine lv_iload_n hx hb dX2_removeLive_47 rfl (lv_at hl 1 rfl) ?_
          rcases br9 hrun with ⟨hc4, hrun⟩ | ⟨hc4, hrun⟩
          · refine lv_icmp_ne (tgt := 77) hx hb dX2_removeLive_48 (by decide) (fun c => absurd hc4 c) (fun _ => ?_)
            refine lv_aload_n hx hb dX2_removeLive_51 rfl (lv_at hl 0 rfl) ?_
            refine lv_dup hx hb dX2_removeLive_52 rfl ?_
            refine va_get (D := (dC, dI)) (ci := 9) (v := .int (p0w 0 8)) (C := RX2) (T := TX2) (N := 19) hx hb hts i_X2 hown hK hP 0 rfl rfl 8 (by decide) (hts _ qw737) (fun _ h9 => h9) rfl dX2_removeLive_53 ?_
            refine lv_iconst (v := 1) hx hb dX2_removeLive_56 (by decide) ?_
            refine lv_isub hx hb dX2_removeLive_57 ?_
            refine va_put (D := (dC, dI)) (ci := 9) (v := .int ((p0w 0 8) - 1)) (ty := .int) (C := RX2) (T := TX2) (N := 19) hx hb hts i_X2 tyX2 tyX2_ok nmX2 hown hK hP hD hS 0 rfl rfl 8 (by decide) (hts _ qw737) (fun _ h9 => h9) rfl (by decide +kernel) rfl rfl (Nat.le_of_ble_eq_true rfl) dX2_removeLive_58 (fun H locs hP hD hS => ?_)
            have hP : va_P (dC, dI) cls (List.flatten ([(oX2 (p0a 0) p0a p0k p0n (upw p0w 0 8 ((p0w 0 8) - 1)) p0l)] : List va_W)) H := hP
            have hD : va_D A (List.flatten ([(oX2 (p0a 0) p0a p0k p0n (upw p0w 0 8 ((p0w 0 8) - 1)) p0l)] : List va_W)) := hD
            obtain ⟨w5, ew5, hrun⟩ := let9 hrun
            rw [← ew5] at hP hD
            refine lv_aload_n hx hb dX2_removeLive_61 rfl (lv_at hl 0 rfl) ?_
            refine va_get (D := (dC, dI)) (ci := 9) (v := .ref (p0a 8)) (C := RX2) (T := TX2) (N := 19) hx hb hts i_X2 hown hK hP 0 rfl rfl 7 (by decide) (hts _ qw747) (fun _ h9 => h9) rfl dX2_removeLive_62 ?_
            refine lv_iload_n hx hb dX2_removeLive_65 rfl (lv_at hl 2 rfl) ?_
            refine lv_aload_n hx hb dX2_removeLive_66 rfl (lv_at hl 0 rfl) ?_
            refine va_get (D := (dC, dI)) (ci := 9) (v := .ref (p0a 8)) (C := RX2) (T := TX2) (N := 19) hx hb hts i_X2 hown hK hP 0 rfl rfl 7 (by decide) (hts _ qw747) (fun _ h9 => h9) rfl dX2_removeLive_67 ?_
            refine lv_aload_n hx hb dX2_removeLive_70 rfl (lv_at hl 0 rfl) ?_
            refine va_get (D := (dC, dI)) (ci := 9) (v := .int (w5 0 8)) (C := RX2) (T := TX2) (N := 19) hx hb hts i_X2 hown hK hP 0 rfl rfl 8 (by decide) (hts _ qw737) (fun _ h9 => h9) rfl dX2_removeLive_71 ?_
            obtain ⟨hq6, hrun⟩ := chk9 hrun
            refine va_iald hx hb hK hP 5 4 rfl rfl (ixb_in hq6) dX2_removeLive_74 ?_
            obtain ⟨hq7, hrun⟩ := chk9 hrun
            refine va_iast hx hb hK hP hD hS 5 4 rfl rfl (ixb_in hq7) dX2_removeLive_75 (fun H locs hP hD hS => ?_)
            have hP : va_P (dC, dI) cls (List.flatten ([(oX2 (p0a 0) p0a p0k p0n (upw w5 8 (nn v2_33) (w5 8 (nn (w5 0 8)))) p0l)] : List va_W)) H := hP
            have hD : va_D A (List.flatten ([(oX2 (p0a 0) p0a p0k p0n (upw w5 8 (nn v2_33) (w5 8 (nn (w5 0 8)))) p0l)] : List va_W)) := hD
            obtain ⟨w8, ew8, hrun⟩ := let9 hrun
            rw [← ew8] at hP hD
            have ho9 : (w8, p0l) = o := hr33 _ (Option.some.inj hrun).symm
            have hP9 : va_P (dC, dI) cls (List.flatten ([(oX2 (p0a 0) p0a p0k p0n (o.1) (o.2))] : List va_W)) H := by first | exact hP | (rw [← ho9]; exact hP)
            have hD9 : va_D A (List.flatten ([(oX2 (p0a 0) p0a p0k p0n (o.1) (o.2))] : List va_W)) := by first | exact hD | (rw [← ho9]; exact hD)
            subst hQ
            exact W.vret hx hb hr (fun t ht hW => ⟨⟨(), rfl, trivial, ⟨by rw [ht]; exact hP9, va_K.moved hW.alike hK, hD9⟩⟩, hS.F ht⟩) hS.2.2 dX2_removeLive_76
          · refine lv_icmp_ne (tgt := 77) hx hb dX2_removeLive_48 (by decide) (fun _ => ?_) (fun c => absurd c hc4)
            refine lv_iinc (v := (v2_33 + 1)) (lv' := [(2, .int (v2_33 + 1)), (0, .ref (p0a 0)), (1, .int p1)]) hx hb dX2_removeLive_77 hl (k := 2) rfl rfl (by decide) rfl (fun ls hl => ?_)
            refine lv_goto (tgt := 33) hx hb dX2_removeLive_80 (by decide) ?_
            exact IH33 (v2_33 + 1) o33 _ _ _ hrun hP hD hK hS (lv_sub hl [1, 2, 0] rfl) hr33 hk33
    obtain ⟨o33, hc33, hrun⟩ := bnd9 hrun
    refine L33 NF 0 o33 _ _ _ hc33 hP hD hK hS (lv_sub hl [1, 2, 0] rfl) (fun r e9 => by subst e9; exact Option.some.inj hrun) ?_
    intro t33 e9
    subst e9
    replace hrun := el9 hrun
    intro H locs ls hP hD hK hS hl
    have hl := hl
    have ho9 : (p0w, p0l) = o := Option.some.inj hrun
    have hP9 : va_P (dC, dI) cls (List.flatten ([(oX2 (p0a 0) p0a p0k p0n (o.1) (o.2))] : List va_W)) H := by first | exact hP | (rw [← ho9]; exact hP)
    have hD9 : va_D A (List.flatten ([(oX2 (p0a 0) p0a p0k p0n (o.1) (o.2))] : List va_W)) := by first | exact hD | (rw [← ho9]; exact hD)
    subst hQ
    exact W.vret hx hb hr (fun t ht hW => ⟨⟨(), rfl, trivial, ⟨by rw [ht]; exact hP9, va_K.moved hW.alike hK, hD9⟩⟩, hS.F ht⟩) hS.2.2 dX2_removeLive_83
  · refine lv_icmp_ge (tgt := 31) hx hb dX2_removeLive_5 (by decide) (fun c => absurd c hc1) (fun _ => ?_)
    refine lv_aload_n hx hb dX2_removeLive_8 rfl (lv_at hl 0 rfl) ?_
    refine va_get (D := (dC, dI)) (ci := 9) (v := .ref (p0a 7)) (C := RX2) (T := TX2) (N := 19) hx hb hts i_X2 hown hK hP 0 rfl rfl 6 (by decide) (hts _ qw680) (fun _ h9 => h9) rfl dX2_removeLive_9 ?_
    refine lv_iload_n hx hb dX2_removeLive_12 rfl (lv_at hl 1 rfl) ?_
    refine lv_bipush (v := 6) hx hb dX2_removeLive_13 (by decide) ?_
    refine lv_ishr hx hb dX2_removeLive_15 ?_
    refine lv_dup2_11 hx hb dX2_removeLive_16 rfl rfl ?_
    obtain ⟨hq9, hrun⟩ := chk9 hrun
    refine va_lald hx hb hK hP 4 3 rfl rfl (ixb_in hq9) dX2_removeLive_17 ?_
    refine lv_lconst (v := 1) hx hb dX2_removeLive_18 (by decide) ?_
    refine lv_iload_n hx hb dX2_removeLive_19 rfl (lv_at hl 1 rfl) ?_
    refine lv_bipush (v := 63) hx hb dX2_removeLive_20 (by decide) ?_
    refine lv_iand hx hb dX2_removeLive_22 ?_
    refine lv_lshl (v := (((1 : Int64) <<< (((p1 &&& 63) : Int32).toInt64 &&& 63)))) hx hb dX2_removeLive_23 rfl ?_
    refine lv_ldc2 (v := (-1)) hx hb hown (hts _ qw725) dX2_removeLive_24 ?_
    refine lv_lxor hx hb dX2_removeLive_27 ?_
    refine lv_land hx hb dX2_removeLive_28 ?_
    obtain ⟨hq10, hrun⟩ := chk9 hrun
    refine va_last hx hb hK hP hD hS 4 3 rfl rfl (ixb_in hq10) dX2_removeLive_29 (fun H locs hP hD hS => ?_)
    have hP : va_P (dC, dI) cls (List.flatten ([(oX2 (p0a 0) p0a p0k p0n p0w (upl p0l 7 (nn (p1 >>> (6 &&& 31))) ((p0l 7 (nn (p1 >>> (6 &&& 31)))) &&& ((((1 : Int64) <<< (((p1 &&& 63) : Int32).toInt64 &&& 63))) ^^^ ((-1) : Int64)))))] : List va_W)) H := hP
    have hD : va_D A (List.flatten ([(oX2 (p0a 0) p0a p0k p0n p0w (upl p0l 7 (nn (p1 >>> (6 &&& 31))) ((p0l 7 (nn (p1 >>> (6 &&& 31)))) &&& ((((1 : Int64) <<< (((p1 &&& 63) : Int32).toInt64 &&& 63))) ^^^ ((-1) : Int64)))))] : List va_W)) := hD
    obtain ⟨l11, el11, hrun⟩ := let9 hrun
    rw [← el11] at hP hD
    have ho9 : (p0w, l11) = o := Option.some.inj hrun
    have hP9 : va_P (dC, dI) cls (List.flatten ([(oX2 (p0a 0) p0a p0k p0n (o.1) (o.2))] : List va_W)) H := by first | exact hP | (rw [← ho9]; exact hP)
    have hD9 : va_D A (List.flatten ([(oX2 (p0a 0) p0a p0k p0n (o.1) (o.2))] : List va_W)) := by first | exact hD | (rw [← ho9]; exact hD)
    subst hQ
    exact W.vret hx hb hr (fun t ht hW => ⟨⟨(), rfl, trivial, ⟨by rw [ht]; exact hP9, va_K.moved hW.alike hK, hD9⟩⟩, hS.F ht⟩) hS.2.2 dX2_removeLive_30
def fX2_meetInBlock_J178 (kk67 : Int32 → ST → SL → Option (ST × SL)) (v4_67 : Int32) (p0w_178 : ST) (p0l_178 : SL) : Option (ST × SL) := (kk67 (v4_67 + (-1)) p0w_178 p0l_178)
def fX2_meetInBlock_J159 (kk67 : Int32 → ST → SL → Option (ST × SL)) (p1_2n : Nat → Nat) (p1_2w : ST) (o_8 : Int32 × ST × (Nat → Nat)) (v4_67 : Int32) (p0w_67 : ST) (p0w_159 : ST) (p0l_159 : SL) : Option (ST × SL) := ((fX11_usesRight (p1_2w 2 (nn (p0w_67 10 (nn v4_67))))).bind fun (o_45 : Int32) => (if o_45 = 0 then (fX2_meetInBlock_J178 kk67 v4_67 p0w_159 p0l_159) else (if ixb (p0w_67 10 (nn v4_67)) (p1_2n 5) = true then ((fX2_addLive (o_8.2.2) p0w_159 p0l_159 (p1_2w 5 (nn (p0w_67 10 (nn v4_67))))).bind fun (o_49 : ST × SL) => (fX2_meetInBlock_J178 kk67 v4_67 (o_49.1) (o_49.2))) else none)))
def fX2_meetInBlock_J140 (kk67 : Int32 → ST → SL → Option (ST × SL)) (p1_2n : Nat → Nat) (p1_2w : ST) (o_8 : Int32 × ST × (Nat → Nat)) (v4_67 : Int32) (p0w_67 : ST) (p0w_140 : ST) (p0l_140 : SL) : Option (ST × SL) := ((fX11_usesLeft (p1_2w 2 (nn (p0w_67 10 (nn v4_67))))).bind fun (o_43 : Int32) => (if o_43 = 0 then (fX2_meetInBlock_J159 kk67 p1_2n p1_2w o_8 v4_67 p0w_67 p0w_140 p0l_140) else (if ixb (p0w_67 10 (nn v4_67)) (p1_2n 4) = true then ((fX2_addLive (o_8.2.2) p0w_140 p0l_140 (p1_2w 4 (nn (p0w_67 10 (nn v4_67))))).bind fun (o_52 : ST × SL) => (fX2_meetInBlock_J159 kk67 p1_2n p1_2w o_8 v4_67 p0w_67 (o_52.1) (o_52.2))) else none)))
def fX2_meetInBlock_J126 (kk67 : Int32 → ST → SL → Option (ST × SL)) (p1_2n : Nat → Nat) (p1_2w : ST) (o_8 : Int32 × ST × (Nat → Nat)) (v4_67 : Int32) (p0w_67 : ST) (p0l_67 : SL) (y0_126 : Int32) (y1_126 : Int32) : Option (ST × SL) := ((fX2_meet (o_8.2.2) p0w_67 p0l_67 y1_126 y0_126).bind fun (o_55 : ST × SL) => (if ixb (p0w_67 10 (nn v4_67)) (p1_2n 3) = true then ((fX2_removeLive (o_8.2.2) (o_55.1) (o_55.2) (p1_2w 3 (nn (p0w_67 10 (nn v4_67))))).bind fun (o_57 : ST × SL) => (fX2_meetInBlock_J140 kk67 p1_2n p1_2w o_8 v4_67 p0w_67 (o_57.1) (o_57.2))) else none))
def fX2_meetInBlock_L67 (p1_2n : Nat → Nat) (p1_2w : ST) (o_8 : Int32 × ST × (Nat → Nat)) : Nat → Int32 → ST → SL → Option (ST × SL)
  | 0 => fun _ _ _ => none
  | n_67 + 1 => fun v4_67 p0w_67 p0l_67 => (if v4_67 < 0 then some (p0w_67, p0l_67) else (if ixb v4_67 ((o_8.2.2) 10) = true then (if ixb (p0w_67 10 (nn v4_67)) (p1_2n 2) = true then (if ixb (p0w_67 10 (nn v4_67)) (p1_2n 3) = true then (if (p1_2w 3 (nn (p0w_67 10 (nn v4_67)))) < 0 then (fX2_meetInBlock_J140 (fX2_meetInBlock_L67 p1_2n p1_2w o_8 n_67) p1_2n p1_2w o_8 v4_67 p0w_67 p0w_67 p0l_67) else (if ixb (p0w_67 10 (nn v4_67)) (p1_2n 3) = true then (if (p1_2w 2 (nn (p0w_67 10 (nn v4_67)))) = 25 then (if ixb (p0w_67 10 (nn v4_67)) (p1_2n 4) = true then (fX2_meetInBlock_J126 (fX2_meetInBlock_L67 p1_2n p1_2w o_8 n_67) p1_2n p1_2w o_8 v4_67 p0w_67 p0l_67 (p1_2w 4 (nn (p0w_67 10 (nn v4_67)))) (p1_2w 3 (nn (p0w_67 10 (nn v4_67))))) else none) else (fX2_meetInBlock_J126 (fX2_meetInBlock_L67 p1_2n p1_2w o_8 n_67) p1_2n p1_2w o_8 v4_67 p0w_67 p0l_67 (-1) (p1_2w 3 (nn (p0w_67 10 (nn v4_67)))))) else none)) else none) else none) else none))
def fX2_meetInBlock_G63_38 (p1_2n : Nat → Nat) (p1_2w : ST) (p0l_52 : SL) (o_8 : Int32 × ST × (Nat → Nat)) : Option (ST × SL × (Nat → Nat)) := ((fX2_meetInBlock_L67 p1_2n p1_2w o_8 NF ((o_8.1) - 1) (o_8.2.1) p0l_52).bind fun (o67 : ST × SL) => some ((o67.1), (o67.2), (o_8.2.2)))
theorem mo_fX2_meetInBlock_G63_38 {p1_2n : Nat → Nat} {p1_2w : ST} {p0l_52 : SL} {o_8 : Int32 × ST × (Nat → Nat)} {o9q : ST × SL × (Nat → Nat)} (hrun : fX2_meetInBlock_G63_38 p1_2n p1_2w p0l_52 o_8 = some o9q) : glX2 (o_8.2.2) (o9q.2.2) := by
  unfold fX2_meetInBlock_G63_38 at hrun
  obtain ⟨o67, hc67, hrun⟩ := bnd9 hrun
  obtain rfl := (Option.some.inj hrun)
  exact (glX2_rf _)
def fX2_meetInBlock_J52 (p0n : Nat → Nat) (p1w : ST) (p2 : Int32) (p1_2n : Nat → Nat) (p1_2w : ST) (p0w_52 : ST) (p0l_52 : SL) : Option (ST × SL × (Nat → Nat)) := ((fX2_listSteps p0n p0w_52 p1w p2 p1_2n p1_2w).bind fun (o_8 : Int32 × ST × (Nat → Nat)) => (fX2_meetInBlock_G63_38 p1_2n p1_2w p0l_52 o_8))
theorem mo_fX2_meetInBlock_J52 {p0n : Nat → Nat} {p1w : ST} {p2 : Int32} {p1_2n : Nat → Nat} {p1_2w : ST} {p0w_52 : ST} {p0l_52 : SL} {o9q : ST × SL × (Nat → Nat)} (hrun : fX2_meetInBlock_J52 p0n p1w p2 p1_2n p1_2w p0w_52 p0l_52 = some o9q) : glX2 p0n (o9q.2.2) := by
  unfold fX2_meetInBlock_J52 at hrun
  obtain ⟨o_8, hc_8, hrun⟩ := bnd9 hrun
  exact (glX2_tr (mo_fX2_listSteps hc_8) (mo_fX2_meetInBlock_G63_38 hrun))
def fX2_meetInBlock (p0n : Nat → Nat) (p0w : ST) (p0l : SL) (p1w : ST) (p2 : Int32) (p1_2n : Nat → Nat) (p1_2w : ST) : Option (ST × SL × (Nat → Nat)) := ((fJ7_fill_d0a16 (p0n 7) (p0l 7) 0).bind fun (o_1 : RL) => (lt9 (upw p0w 0 8 0) fun (w2 : ST) => (if ixb p2 60 = true then ((fX2_addLiveIn p0n w2 (srl p0l 7 o_1) (p1w 10 (nn p2))).bind fun (o_4 : SL) => (if ixb p2 60 = true then ((fX2_addLiveIn p0n w2 o_4 (p1w 11 (nn p2))).bind fun (o_6 : SL) => (if ixb p2 60 = true then (if (p1w 9 (nn p2)) < 0 then (fX2_meetInBlock_J52 p0n p1w p2 p1_2n p1_2w w2 o_6) else (if ixb p2 60 = true then ((fX2_addLive p0n w2 o_6 (p1w 9 (nn p2))).bind fun (o_62 : ST × SL) => (fX2_meetInBlock_J52 p0n p1w p2 p1_2n p1_2w (o_62.1) (o_62.2))) else none)) else none)) else none)) else none)))
theorem mo_fX2_meetInBlock {p0n : Nat → Nat} {p0w : ST} {p0l : SL} {p1w : ST} {p2 : Int32} {p1_2n : Nat → Nat} {p1_2w : ST} {o9q : ST × SL × (Nat → Nat)} (hrun : fX2_meetInBlock p0n p0w p0l p1w p2 p1_2n p1_2w = some o9q) : glX2 p0n (o9q.2.2) := by
  unfold fX2_meetInBlock at hrun
  obtain ⟨o_1, hc_1, hrun⟩ := bnd9 hrun
  obtain ⟨w2, ew2, hrun⟩ := let9 hrun
  obtain ⟨hq3, hrun⟩ := chk9 hrun
  obtain ⟨o_4, hc_4, hrun⟩ := bnd9 hrun
  obtain ⟨hq5, hrun⟩ := chk9 hrun
  obtain ⟨o_6, hc_6, hrun⟩ := bnd9 hrun
  obtain ⟨hq7, hrun⟩ := chk9 hrun
  rcases br9 hrun with ⟨hc60, hrun⟩ | ⟨hc60, hrun⟩
  · skip
    exact (mo_fX2_meetInBlock_J52 hrun)
  · skip
    obtain ⟨hq61, hrun⟩ := chk9 hrun
    obtain ⟨o_62, hc_62, hrun⟩ := bnd9 hrun
    exact (mo_fX2_meetInBlock_J52 hrun)
set_option maxHeartbeats 16000000 in
set_option maxRecDepth 100000 in
theorem kX2_meetInBlock {zs : ZS} (l : Launch) (dC : Nat → ClassId) (dI : Nat → Nat → Nat) (p0a : Nat → Nat) (p0k : Nat → ClassId) (p0n : Nat → Nat) (p0w : ST) (p0l : SL) (p1a : Nat → Nat) (p1k : Nat → ClassId) (p1n : Nat → Nat) (p1w : ST) (p1l : SL) (p2 : Int32) (p1_2a : Nat → Nat) (p1_2k : Nat → ClassId) (p1_2n : Nat → Nat) (p1_2w : ST) (sz : Nat) (o : ST × SL × (Nat → Nat)) (hrun : fX2_meetInBlock p0n p0w p0l p1w p2 p1_2n p1_2w = some o) : Met l yX2_meetInBlock (wz yX2_meetInBlock cX2_meetInBlock 7 (Option.none : Option Jvm.ClassFile.FieldType)) ({ frames := 4, cells := (hcX2 p0n (o.2.2)), slots := (3 * (gcX2 p0n (o.2.2))), locals := 107 } : Room) (va_Pc [.ref (p0a 0), .ref (p1a 0), .int p2] (PRE zs dC dI (List.flatten ([(oX2 (p0a 0) p0a p0k p0n p0w p0l), (oX1 (p1a 0) p1a p1k p1n p1w p1l), (oX9 (p1a 3) p1_2a p1_2k p1_2n p1_2w)] : List va_W)) (List.flatten ([(tX2 p0k), (tX1 p1k), (tX9 p1_2k)] : List (List (ClassId × FieldType)))) sz)) (va_Qv (fun (_ : Unit) => True) (fun _ t => ∃ (xp0_3_z : Nat), ∃ (zp0_3_z : ClassId), ∃ (xp0_4_z : Nat), ∃ (zp0_4_z : ClassId), ∃ (xp0_5_z : Nat), ∃ (zp0_5_z : ClassId), ∃ (xp0_6_z : Nat), ∃ (zp0_6_z : ClassId), ∃ (xp0_9_z : Nat), ∃ (zp0_9_z : ClassId), ∃ (xp0_10_z : Nat), ∃ (zp0_10_z : ClassId), ∃ (xp0_11_z : Nat), ∃ (zp0_11_z : ClassId), ∃ (xp0_12_z : Nat), ∃ (zp0_12_z : ClassId), ∃ (xp0_13_z : Nat), ∃ (zp0_13_z : ClassId), ∃ (xp0_14_z : Nat), ∃ (zp0_14_z : ClassId), ∃ (xp0_15_z : Nat), ∃ (zp0_15_z : ClassId), ∃ (xp0_16_z : Nat), ∃ (zp0_16_z : ClassId), ∃ (xp0_17_z : Nat), ∃ (zp0_17_z : ClassId), ∃ (xp0_18_z : Nat), ∃ (zp0_18_z : ClassId), POST dC dI (List.flatten ([(oX2 (p0a 0) (st1 (st1 (st1 (st1 (st1 (st1 (st1 (st1 (st1 (st1 (st1 (st1 (st1 (st1 p0a 4 xp0_3_z) 5 xp0_4_z) 6 xp0_5_z) 7 xp0_6_z) 10 xp0_9_z) 11 xp0_10_z) 12 xp0_11_z) 13 xp0_12_z) 14 xp0_13_z) 15 xp0_14_z) 16 xp0_15_z) 17 xp0_16_z) 18 xp0_17_z) 19 xp0_18_z) (st1 (st1 (st1 (st1 (st1 (st1 (st1 (st1 (st1 (st1 (st1 (st1 (st1 (st1 p0k 4 zp0_3_z) 5 zp0_4_z) 6 zp0_5_z) 7 zp0_6_z) 10 zp0_9_z) 11 zp0_10_z) 12 zp0_11_z) 13 zp0_12_z) 14 zp0_13_z) 15 zp0_14_z) 16 zp0_15_z) 17 zp0_16_z) 18 zp0_17_z) 19 zp0_18_z) (o.2.2) (o.1) (o.2.1)), (oX1 (p1a 0) p1a p1k p1n p1w p1l), (oX9 (p1a 3) p1_2a p1_2k p1_2n p1_2w)] : List va_W)) (List.flatten ([(tX2 (st1 (st1 (st1 (st1 (st1 (st1 (st1 (st1 (st1 (st1 (st1 (st1 (st1 (st1 p0k 4 zp0_3_z) 5 zp0_4_z) 6 zp0_5_z) 7 zp0_6_z) 10 zp0_9_z) 11 zp0_10_z) 12 zp0_11_z) 13 zp0_12_z) 14 zp0_13_z) 15 zp0_14_z) 16 zp0_15_z) 17 zp0_16_z) 18 zp0_17_z) 19 zp0_18_z)), (tX1 p1k), (tX9 p1_2k)] : List (List (ClassId × FieldType)))) (va_A (List.flatten ([(oX2 (p0a 0) p0a p0k p0n p0w p0l), (oX1 (p1a 0) p1a p1k p1n p1w p1l), (oX9 (p1a 3) p1_2a p1_2k p1_2n p1_2w)] : List va_W)) sz) t) (va_A (List.flatten ([(oX2 (p0a 0) p0a p0k p0n p0w p0l), (oX1 (p1a 0) p1a p1k p1n p1w p1l), (oX9 (p1a 3) p1_2a p1_2k p1_2n p1_2w)] : List va_W)) sz)) (hcX2 p0n (o.2.2)) (3 * (gcX2 p0n (o.2.2))) (va_A (List.flatten ([(oX2 (p0a 0) p0a p0k p0n p0w p0l), (oX1 (p1a 0) p1a p1k p1n p1w p1l), (oX9 (p1a 3) p1_2a p1_2k p1_2n p1_2w)] : List va_W)) sz) := by
  refine Met.ofW (cc := cX2_meetInBlock) (maxL := 7) (ret := (Option.none : Option Jvm.ClassFile.FieldType)) (by decide) rfl ?_
  intro p e s m args below meth c s₁ B hml hv
  obtain ⟨rfl, hsz, hP, hK, hD0, hE⟩ := hv
  have hx := B.exec
  have hb := B.bytes
  have hr := B.returns
  have hts0 := atoms_spec (ws := wz yX2_meetInBlock cX2_meetInBlock 7 (Option.none : Option Jvm.ClassFile.FieldType)) B.pre
  have hts : ∀ w ∈ gw, w.before _ s = true := fun w h => hts0 w (List.mem_cons_of_mem _ h)
  have hown : s.vm.findClass RX2 = some m.cls := findClass_of_methodNamed B.named
  have hlocks := B.notSynchronized
  subst hsz
  have hD := hD0.self (sz := s.heap.size)
  refine gQ9 ?_
  intro Q hQ
  generalize hAe : va_A (List.flatten ([(oX2 (p0a 0) p0a p0k p0n p0w p0l), (oX1 (p1a 0) p1a p1k p1n p1w p1l), (oX9 (p1a 3) p1_2a p1_2k p1_2n p1_2w)] : List va_W)) s.heap.size = A at hD hE hQ
  have hA : ∀ q : Nat, s.heap.size ≤ q → A q := fun q h => by rw [← hAe]; exact Or.inr h
  have hS : va_S A s.heap s.heap [] := va_S.rf
  have hP : va_P (dC, dI) cls (List.flatten ([(oX2 (p0a 0) p0a p0k p0n p0w p0l), (oX1 (p1a 0) p1a p1k p1n p1w p1l), (oX9 (p1a 3) p1_2a p1_2k p1_2n p1_2w)] : List va_W)) s.heap := hP
  have hl := lv_entry ([.ref (p0a 0), .ref (p1a 0), .int p2]) (n := 7) (Nat.le_of_ble_eq_true rfl)
  rw [lg_entry_eq]
  generalize (lg_sl ([.ref (p0a 0), .ref (p1a 0), .int p2]) ++ List.replicate (7 - (lg_sl ([.ref (p0a 0), .ref (p1a 0), .int p2])).length) Slot.unset).toArray = ls at hl ⊢
  have hl : lv_has ls 7 [(0, .ref (p0a 0)), (1, .ref (p1a 0)), (2, .int p2)] := hl
  obtain ⟨H, hHe⟩ : ∃ H, H = s.heap := ⟨_, rfl⟩
  obtain ⟨locs, hle⟩ : ∃ locs : List Loc, locs = [] := ⟨_, rfl⟩
  rw [← hHe] at hP
  have hS : va_S A s.heap H locs := by rw [hHe, hle]; exact hS
  show W p l e ({ frames := 4, cells := (hcX2 p0n (o.2.2)), slots := (3 * (gcX2 p0n (o.2.2))), locals := 107 } : Room) s m ([.ref (p0a 0), .ref (p1a 0), .int p2] : List Value).toArray below meth c s.heap [] 0 0 Q (F0 m 0 ls [])
  rw [← hle]
  refine wH9 hHe ?_
  have hg_p0 := glX2_rf p0n
  have hgn_p0 : glX2 p0n (o.2.2) := (mo_fX2_meetInBlock hrun)
  refine W.widen (k := (hcX2 p0n p0n)) (n := (3 * (gcX2 p0n p0n))) (Nat.zero_le _) (Nat.zero_le _) ?_
  unfold fX2_meetInBlock at hrun
  refine lv_aload_n hx hb dX2_meetInBlock_0 rfl (lv_at hl 0 rfl) ?_
  refine va_get (D := (dC, dI)) (ci := 9) (v := .ref (p0a 7)) (C := RX2) (T := TX2) (N := 19) hx hb hts i_X2 hown hK hP 0 rfl rfl 6 (by decide) (hts _ qw680) (fun _ h9 => h9) rfl dX2_meetInBlock_1 ?_
  refine lv_lconst (v := 0) hx hb dX2_meetInBlock_4 (by decide) ?_
  obtain ⟨o_1, hc_1, hrun⟩ := bnd9 hrun
  have hP2 : va_P (dC, dI) cls (List.flatten ([[((p0a 7), .inl ((p0k 7), (p0n 7), .inr (.inl (p0l 7))))], [((p0a 0), .inr (9, [.int (p0w 0 0), .int (p0w 0 1), .int (p0w 0 2), .ref (p0a 4), .ref (p0a 5), .ref (p0a 6), .ref (p0a 7), .ref (p0a 8), .int (p0w 0 8), .ref (p0a 10), .ref (p0a 11), .ref (p0a 12), .ref (p0a 13), .ref (p0a 14), .ref (p0a 15), .ref (p0a 16), .ref (p0a 17), .ref (p0a 18), .ref (p0a 19)])), ((p0a 4), .inl ((p0k 4), (p0n 4), .inr (.inl (p0l 4)))), ((p0a 5), .inl ((p0k 5), (p0n 5), .inr (.inl (p0l 5)))), ((p0a 6), .inl ((p0k 6), (p0n 6), .inr (.inl (p0l 6)))), ((p0a 8), .inl ((p0k 8), 2, .inl (p0w 8))), ((p0a 10), .inl ((p0k 10), (p0n 10), .inl (p0w 10))), ((p0a 11), .inl ((p0k 11), (p0n 11), .inr (.inl (p0l 11)))), ((p0a 12), .inl ((p0k 12), (p0n 12), .inl (p0w 12))), ((p0a 13), .inl ((p0k 13), (p0n 13), .inl (p0w 13))), ((p0a 14), .inl ((p0k 14), (p0n 14), .inr (.inl (p0l 14)))), ((p0a 15), .inl ((p0k 15), (p0n 15), .inl (p0w 15))), ((p0a 16), .inl ((p0k 16), (p0n 16), .inl (p0w 16))), ((p0a 17), .inl ((p0k 17), (p0n 17), .inl (p0w 17))), ((p0a 18), .inl ((p0k 18), (p0n 18), .inl (p0w 18))), ((p0a 19), .inl ((p0k 19), (p0n 19), .inl (p0w 19)))], (oX1 (p1a 0) p1a p1k p1n p1w p1l), (oX9 (p1a 3) p1_2a p1_2k p1_2n p1_2w)] : List va_W)) H := vP_perm hP ((bP (List.Perm.refl _)).trans (List.Perm.append_right _ (List.perm_middle (a := (((p0a 7), .inl ((p0k 7), (p0n 7), .inr (.inl (p0l 7)))) : Nat × va_E)) (l₁ := ([((p0a 0), .inr (9, [.int (p0w 0 0), .int (p0w 0 1), .int (p0w 0 2), .ref (p0a 4), .ref (p0a 5), .ref (p0a 6), .ref (p0a 7), .ref (p0a 8), .int (p0w 0 8), .ref (p0a 10), .ref (p0a 11), .ref (p0a 12), .ref (p0a 13), .ref (p0a 14), .ref (p0a 15), .ref (p0a 16), .ref (p0a 17), .ref (p0a 18), .ref (p0a 19)])), ((p0a 4), .inl ((p0k 4), (p0n 4), .inr (.inl (p0l 4)))), ((p0a 5), .inl ((p0k 5), (p0n 5), .inr (.inl (p0l 5)))), ((p0a 6), .inl ((p0k 6), (p0n 6), .inr (.inl (p0l 6))))] : va_W)) (l₂ := ([((p0a 8), .inl ((p0k 8), 2, .inl (p0w 8))), ((p0a 10), .inl ((p0k 10), (p0n 10), .inl (p0w 10))), ((p0a 11), .inl ((p0k 11), (p0n 11), .inr (.inl (p0l 11)))), ((p0a 12), .inl ((p0k 12), (p0n 12), .inl (p0w 12))), ((p0a 13), .inl ((p0k 13), (p0n 13), .inl (p0w 13))), ((p0a 14), .inl ((p0k 14), (p0n 14), .inr (.inl (p0l 14)))), ((p0a 15), .inl ((p0k 15), (p0n 15), .inl (p0w 15))), ((p0a 16), .inl ((p0k 16), (p0n 16), .inl (p0w 16))), ((p0a 17), .inl ((p0k 17), (p0n 17), .inl (p0w 17))), ((p0a 18), .inl ((p0k 18), (p0n 18), .inl (p0w 18))), ((p0a 19), .inl ((p0k 19), (p0n 19), .inl (p0w 19)))] : va_W)))))
  have hD2 : va_D A (List.flatten ([[((p0a 7), .inl ((p0k 7), (p0n 7), .inr (.inl (p0l 7))))], [((p0a 0), .inr (9, [.int (p0w 0 0), .int (p0w 0 1), .int (p0w 0 2), .ref (p0a 4), .ref (p0a 5), .ref (p0a 6), .ref (p0a 7), .ref (p0a 8), .int (p0w 0 8), .ref (p0a 10), .ref (p0a 11), .ref (p0a 12), .ref (p0a 13), .ref (p0a 14), .ref (p0a 15), .ref (p0a 16), .ref (p0a 17), .ref (p0a 18), .ref (p0a 19)])), ((p0a 4), .inl ((p0k 4), (p0n 4), .inr (.inl (p0l 4)))), ((p0a 5), .inl ((p0k 5), (p0n 5), .inr (.inl (p0l 5)))), ((p0a 6), .inl ((p0k 6), (p0n 6), .inr (.inl (p0l 6)))), ((p0a 8), .inl ((p0k 8), 2, .inl (p0w 8))), ((p0a 10), .inl ((p0k 10), (p0n 10), .inl (p0w 10))), ((p0a 11), .inl ((p0k 11), (p0n 11), .inr (.inl (p0l 11)))), ((p0a 12), .inl ((p0k 12), (p0n 12), .inl (p0w 12))), ((p0a 13), .inl ((p0k 13), (p0n 13), .inl (p0w 13))), ((p0a 14), .inl ((p0k 14), (p0n 14), .inr (.inl (p0l 14)))), ((p0a 15), .inl ((p0k 15), (p0n 15), .inl (p0w 15))), ((p0a 16), .inl ((p0k 16), (p0n 16), .inl (p0w 16))), ((p0a 17), .inl ((p0k 17), (p0n 17), .inl (p0w 17))), ((p0a 18), .inl ((p0k 18), (p0n 18), .inl (p0w 18))), ((p0a 19), .inl ((p0k 19), (p0n 19), .inl (p0w 19)))], (oX1 (p1a 0) p1a p1k p1n p1w p1l), (oX9 (p1a 3) p1_2a p1_2k p1_2n p1_2w)] : List va_W)) := vD_perm hD ((bP (List.Perm.refl _)).trans (List.Perm.append_right _ (List.perm_middle (a := (((p0a 7), .inl ((p0k 7), (p0n 7), .inr (.inl (p0l 7)))) : Nat × va_E)) (l₁ := ([((p0a 0), .inr (9, [.int (p0w 0 0), .int (p0w 0 1), .int (p0w 0 2), .ref (p0a 4), .ref (p0a 5), .ref (p0a 6), .ref (p0a 7), .ref (p0a 8), .int (p0w 0 8), .ref (p0a 10), .ref (p0a 11), .ref (p0a 12), .ref (p0a 13), .ref (p0a 14), .ref (p0a 15), .ref (p0a 16), .ref (p0a 17), .ref (p0a 18), .ref (p0a 19)])), ((p0a 4), .inl ((p0k 4), (p0n 4), .inr (.inl (p0l 4)))), ((p0a 5), .inl ((p0k 5), (p0n 5), .inr (.inl (p0l 5)))), ((p0a 6), .inl ((p0k 6), (p0n 6), .inr (.inl (p0l 6))))] : va_W)) (l₂ := ([((p0a 8), .inl ((p0k 8), 2, .inl (p0w 8))), ((p0a 10), .inl ((p0k 10), (p0n 10), .inl (p0w 10))), ((p0a 11), .inl ((p0k 11), (p0n 11), .inr (.inl (p0l 11)))), ((p0a 12), .inl ((p0k 12), (p0n 12), .inl (p0w 12))), ((p0a 13), .inl ((p0k 13), (p0n 13), .inl (p0w 13))), ((p0a 14), .inl ((p0k 14), (p0n 14), .inr (.inl (p0l 14)))), ((p0a 15), .inl ((p0k 15), (p0n 15), .inl (p0w 15))), ((p0a 16), .inl ((p0k 16), (p0n 16), .inl (p0w 16))), ((p0a 17), .inl ((p0k 17), (p0n 17), .inl (p0w 17))), ((p0a 18), .inl ((p0k 18), (p0n 18), .inl (p0w 18))), ((p0a 19), .inl ((p0k 19), (p0n 19), .inl (p0w 19)))] : va_W)))))
  have hK2 : va_K (dC, dI) cls (List.flatten ([[((p0k 7), .long)], [((p0k 4), .long), ((p0k 5), .long), ((p0k 6), .long), ((p0k 8), .int), ((p0k 10), .int), ((p0k 11), .long), ((p0k 12), .int), ((p0k 13), .int), ((p0k 14), .long), ((p0k 15), .int), ((p0k 16), .int), ((p0k 17), .int), ((p0k 18), .int), ((p0k 19), .int)], (tX1 p1k), (tX9 p1_2k)] : List (List (ClassId × FieldType)))) s := vK_perm hK ((bP (List.Perm.refl _)).trans (List.Perm.append_right _ (List.perm_middle (a := (((p0k 7), .long) : ClassId × FieldType)) (l₁ := ([((p0k 4), .long), ((p0k 5), .long), ((p0k 6), .long)] : List (ClassId × FieldType))) (l₂ := ([((p0k 8), .int), ((p0k 10), .int), ((p0k 11), .long), ((p0k 12), .int), ((p0k 13), .int), ((p0k 14), .long), ((p0k 15), .int), ((p0k 16), .int), ((p0k 17), .int), ((p0k 18), .int), ((p0k 19), .int)] : List (ClassId × FieldType))))))
  have hPx : va_P (dC, dI) cls ((List.flatten ([[((p0a 7), .inl ((p0k 7), (p0n 7), .inr (.inl (p0l 7))))]] : List va_W)) ++ (List.flatten ([[((p0a 0), .inr (9, [.int (p0w 0 0), .int (p0w 0 1), .int (p0w 0 2), .ref (p0a 4), .ref (p0a 5), .ref (p0a 6), .ref (p0a 7), .ref (p0a 8), .int (p0w 0 8), .ref (p0a 10), .ref (p0a 11), .ref (p0a 12), .ref (p0a 13), .ref (p0a 14), .ref (p0a 15), .ref (p0a 16), .ref (p0a 17), .ref (p0a 18), .ref (p0a 19)])), ((p0a 4), .inl ((p0k 4), (p0n 4), .inr (.inl (p0l 4)))), ((p0a 5), .inl ((p0k 5), (p0n 5), .inr (.inl (p0l 5)))), ((p0a 6), .inl ((p0k 6), (p0n 6), .inr (.inl (p0l 6)))), ((p0a 8), .inl ((p0k 8), 2, .inl (p0w 8))), ((p0a 10), .inl ((p0k 10), (p0n 10), .inl (p0w 10))), ((p0a 11), .inl ((p0k 11), (p0n 11), .inr (.inl (p0l 11)))), ((p0a 12), .inl ((p0k 12), (p0n 12), .inl (p0w 12))), ((p0a 13), .inl ((p0k 13), (p0n 13), .inl (p0w 13))), ((p0a 14), .inl ((p0k 14), (p0n 14), .inr (.inl (p0l 14)))), ((p0a 15), .inl ((p0k 15), (p0n 15), .inl (p0w 15))), ((p0a 16), .inl ((p0k 16), (p0n 16), .inl (p0w 16))), ((p0a 17), .inl ((p0k 17), (p0n 17), .inl (p0w 17))), ((p0a 18), .inl ((p0k 18), (p0n 18), .inl (p0w 18))), ((p0a 19), .inl ((p0k 19), (p0n 19), .inl (p0w 19)))], (oX1 (p1a 0) p1a p1k p1n p1w p1l), (oX9 (p1a 3) p1_2a p1_2k p1_2n p1_2w)] : List va_W))) H := vP_fa (vP_perm hP2 (bP (List.Perm.refl _)))
  have hDx : va_D A ((List.flatten ([[((p0a 7), .inl ((p0k 7), (p0n 7), .inr (.inl (p0l 7))))]] : List va_W)) ++ (List.flatten ([[((p0a 0), .inr (9, [.int (p0w 0 0), .int (p0w 0 1), .int (p0w 0 2), .ref (p0a 4), .ref (p0a 5), .ref (p0a 6), .ref (p0a 7), .ref (p0a 8), .int (p0w 0 8), .ref (p0a 10), .ref (p0a 11), .ref (p0a 12), .ref (p0a 13), .ref (p0a 14), .ref (p0a 15), .ref (p0a 16), .ref (p0a 17), .ref (p0a 18), .ref (p0a 19)])), ((p0a 4), .inl ((p0k 4), (p0n 4), .inr (.inl (p0l 4)))), ((p0a 5), .inl ((p0k 5), (p0n 5), .inr (.inl (p0l 5)))), ((p0a 6), .inl ((p0k 6), (p0n 6), .inr (.inl (p0l 6)))), ((p0a 8), .inl ((p0k 8), 2, .inl (p0w 8))), ((p0a 10), .inl ((p0k 10), (p0n 10), .inl (p0w 10))), ((p0a 11), .inl ((p0k 11), (p0n 11), .inr (.inl (p0l 11)))), ((p0a 12), .inl ((p0k 12), (p0n 12), .inl (p0w 12))), ((p0a 13), .inl ((p0k 13), (p0n 13), .inl (p0w 13))), ((p0a 14), .inl ((p0k 14), (p0n 14), .inr (.inl (p0l 14)))), ((p0a 15), .inl ((p0k 15), (p0n 15), .inl (p0w 15))), ((p0a 16), .inl ((p0k 16), (p0n 16), .inl (p0w 16))), ((p0a 17), .inl ((p0k 17), (p0n 17), .inl (p0w 17))), ((p0a 18), .inl ((p0k 18), (p0n 18), .inl (p0w 18))), ((p0a 19), .inl ((p0k 19), (p0n 19), .inl (p0w 19)))], (oX1 (p1a 0) p1a p1k p1n p1w p1l), (oX9 (p1a 3) p1_2a p1_2k p1_2n p1_2w)] : List va_W))) := vD_fa (vD_perm hD2 (bP (List.Perm.refl _)))
  have hKx : va_K (dC, dI) cls ((List.flatten ([[((p0k 7), .long)]] : List (List (ClassId × FieldType)))) ++ (List.flatten ([[((p0k 4), .long), ((p0k 5), .long), ((p0k 6), .long), ((p0k 8), .int), ((p0k 10), .int), ((p0k 11), .long), ((p0k 12), .int), ((p0k 13), .int), ((p0k 14), .long), ((p0k 15), .int), ((p0k 16), .int), ((p0k 17), .int), ((p0k 18), .int), ((p0k 19), .int)], (tX1 p1k), (tX9 p1_2k)] : List (List (ClassId × FieldType))))) s := vK_fa (vK_perm hK2 (bP (List.Perm.refl _)))
  have hPc := vP_l hPx
  have hDc := vD_l hDx
  have hKc := vK_l hKx
  have hFc := vfree hDx hS hA
  refine va_callv (va_runS (As := [.ref (p0a 7), .long 0]) (rest := []) ⟨hx, hb, hml, hown, hts⟩ (kJ7_fill_d0a16 l dC dI (p0a := (p0a 7)) (p0k := (p0k 7)) (p0n := (p0n 7)) (p0f := (p0l 7)) (p1 := 0) (sz := _) (o := o_1) (hrun := hc_1)) (va_cwS 2 hts (gi_S qw736 qw323 qw109 (gi_z qw321)) rfl rfl rfl (by decide +kernel) ⟨Nat.le_of_ble_eq_true rfl, Nat.le_of_ble_eq_true rfl⟩) ⟨PRE.blind, PRE.of hE hS hFc hPc hKc hDc⟩ rfl rfl hl.1 rfl (lv_room (Nat.le_of_ble_eq_true rfl)) dX2_meetInBlock_5 ⟨(show (hcX2 p0n p0n) + 0 ≤ (hcX2 p0n (o.2.2)) from by have q0 := gmX2 hg_p0 hgn_p0; omega), (show (3 * (gcX2 p0n p0n)) + 0 ≤ (3 * (gcX2 p0n (o.2.2))) from by have q0 := gmX2 hg_p0 hgn_p0; omega)⟩) hS (fun q _ h => hFc q h) hFc (fun u t H locs ht hvm hw hB hz1 hk1 hS => ?_)
  obtain ⟨b1, b2, b3⟩ := hB
  rw [ht] at b1
  obtain ⟨hP, hD, hK⟩ := JOINC (wc := (List.flatten ([[((p0a 7), .inl ((p0k 7), (p0n 7), .inr (.inl (p0l 7))))]] : List va_W))) (wr := (List.flatten ([[((p0a 0), .inr (9, [.int (p0w 0 0), .int (p0w 0 1), .int (p0w 0 2), .ref (p0a 4), .ref (p0a 5), .ref (p0a 6), .ref (p0a 7), .ref (p0a 8), .int (p0w 0 8), .ref (p0a 10), .ref (p0a 11), .ref (p0a 12), .ref (p0a 13), .ref (p0a 14), .ref (p0a 15), .ref (p0a 16), .ref (p0a 17), .ref (p0a 18), .ref (p0a 19)])), ((p0a 4), .inl ((p0k 4), (p0n 4), .inr (.inl (p0l 4)))), ((p0a 5), .inl ((p0k 5), (p0n 5), .inr (.inl (p0l 5)))), ((p0a 6), .inl ((p0k 6), (p0n 6), .inr (.inl (p0l 6)))), ((p0a 8), .inl ((p0k 8), 2, .inl (p0w 8))), ((p0a 10), .inl ((p0k 10), (p0n 10), .inl (p0w 10))), ((p0a 11), .inl ((p0k 11), (p0n 11), .inr (.inl (p0l 11)))), ((p0a 12), .inl ((p0k 12), (p0n 12), .inl (p0w 12))), ((p0a 13), .inl ((p0k 13), (p0n 13), .inl (p0w 13))), ((p0a 14), .inl ((p0k 14), (p0n 14), .inr (.inl (p0l 14)))), ((p0a 15), .inl ((p0k 15), (p0n 15), .inl (p0w 15))), ((p0a 16), .inl ((p0k 16), (p0n 16), .inl (p0w 16))), ((p0a 17), .inl ((p0k 17), (p0n 17), .inl (p0w 17))), ((p0a 18), .inl ((p0k 18), (p0n 18), .inl (p0w 18))), ((p0a 19), .inl ((p0k 19), (p0n 19), .inl (p0w 19)))], (oX1 (p1a 0) p1a p1k p1n p1w p1l), (oX9 (p1a 3) p1_2a p1_2k p1_2n p1_2w)] : List va_W))) (w1 := (List.flatten ([[((p0a 7), .inl ((p0k 7), (p0n 7), .inr (.inl ((srl p0l 7 o_1) 7))))]] : List va_W))) (t1 := (List.flatten ([[((p0k 7), .long)]] : List (List (ClassId × FieldType))))) hPx hDx hKx hk1 hFc b1 (va_K.moved hvm.symm b2) b3
  have hP3 : va_P (dC, dI) cls (List.flatten ([(oX2 (p0a 0) p0a p0k p0n p0w (srl p0l 7 o_1)), (oX1 (p1a 0) p1a p1k p1n p1w p1l), (oX9 (p1a 3) p1_2a p1_2k p1_2n p1_2w)] : List va_W)) H := vP_perm (vP_fb hP) ((bP (List.Perm.refl _)).trans (List.Perm.append_right _ (List.perm_middle (a := (((p0a 7), .inl ((p0k 7), (p0n 7), .inr (.inl ((srl p0l 7 o_1) 7)))) : Nat × va_E)) (l₁ := ([((p0a 0), .inr (9, [.int (p0w 0 0), .int (p0w 0 1), .int (p0w 0 2), .ref (p0a 4), .ref (p0a 5), .ref (p0a 6), .ref (p0a 7), .ref (p0a 8), .int (p0w 0 8), .ref (p0a 10), .ref (p0a 11), .ref (p0a 12), .ref (p0a 13), .ref (p0a 14), .ref (p0a 15), .ref (p0a 16), .ref (p0a 17), .ref (p0a 18), .ref (p0a 19)])), ((p0a 4), .inl ((p0k 4), (p0n 4), .inr (.inl ((srl p0l 7 o_1) 4)))), ((p0a 5), .inl ((p0k 5), (p0n 5), .inr (.inl ((srl p0l 7 o_1) 5)))), ((p0a 6), .inl ((p0k 6), (p0n 6), .inr (.inl ((srl p0l 7 o_1) 6))))] : va_W)) (l₂ := ([((p0a 8), .inl ((p0k 8), 2, .inl (p0w 8))), ((p0a 10), .inl ((p0k 10), (p0n 10), .inl (p0w 10))), ((p0a 11), .inl ((p0k 11), (p0n 11), .inr (.inl ((srl p0l 7 o_1) 11)))), ((p0a 12), .inl ((p0k 12), (p0n 12), .inl (p0w 12))), ((p0a 13), .inl ((p0k 13), (p0n 13), .inl (p0w 13))), ((p0a 14), .inl ((p0k 14), (p0n 14), .inr (.inl ((srl p0l 7 o_1) 14)))), ((p0a 15), .inl ((p0k 15), (p0n 15), .inl (p0w 15))), ((p0a 16), .inl ((p0k 16), (p0n 16), .inl (p0w 16))), ((p0a 17), .inl ((p0k 17), (p0n 17), .inl (p0w 17))), ((p0a 18), .inl ((p0k 18), (p0n 18), .inl (p0w 18))), ((p0a 19), .inl ((p0k 19), (p0n 19), .inl (p0w 19)))] : va_W))).symm))
  have hD3 : va_D A (List.flatten ([(oX2 (p0a 0) p0a p0k p0n p0w (srl p0l 7 o_1)), (oX1 (p1a 0) p1a p1k p1n p1w p1l), (oX9 (p1a 3) p1_2a p1_2k p1_2n p1_2w)] : List va_W)) := vD_perm (vD_fb hD) ((bP (List.Perm.refl _)).trans (List.Perm.append_right _ (List.perm_middle (a := (((p0a 7), .inl ((p0k 7), (p0n 7), .inr (.inl ((srl p0l 7 o_1) 7)))) : Nat × va_E)) (l₁ := ([((p0a 0), .inr (9, [.int (p0w 0 0), .int (p0w 0 1), .int (p0w 0 2), .ref (p0a 4), .ref (p0a 5), .ref (p0a 6), .ref (p0a 7), .ref (p0a 8), .int (p0w 0 8), .ref (p0a 10), .ref (p0a 11), .ref (p0a 12), .ref (p0a 13), .ref (p0a 14), .ref (p0a 15), .ref (p0a 16), .ref (p0a 17), .ref (p0a 18), .ref (p0a 19)])), ((p0a 4), .inl ((p0k 4), (p0n 4), .inr (.inl ((srl p0l 7 o_1) 4)))), ((p0a 5), .inl ((p0k 5), (p0n 5), .inr (.inl ((srl p0l 7 o_1) 5)))), ((p0a 6), .inl ((p0k 6), (p0n 6), .inr (.inl ((srl p0l 7 o_1) 6))))] : va_W)) (l₂ := ([((p0a 8), .inl ((p0k 8), 2, .inl (p0w 8))), ((p0a 10), .inl ((p0k 10), (p0n 10), .inl (p0w 10))), ((p0a 11), .inl ((p0k 11), (p0n 11), .inr (.inl ((srl p0l 7 o_1) 11)))), ((p0a 12), .inl ((p0k 12), (p0n 12), .inl (p0w 12))), ((p0a 13), .inl ((p0k 13), (p0n 13), .inl (p0w 13))), ((p0a 14), .inl ((p0k 14), (p0n 14), .inr (.inl ((srl p0l 7 o_1) 14)))), ((p0a 15), .inl ((p0k 15), (p0n 15), .inl (p0w 15))), ((p0a 16), .inl ((p0k 16), (p0n 16), .inl (p0w 16))), ((p0a 17), .inl ((p0k 17), (p0n 17), .inl (p0w 17))), ((p0a 18), .inl ((p0k 18), (p0n 18), .inl (p0w 18))), ((p0a 19), .inl ((p0k 19), (p0n 19), .inl (p0w 19)))] : va_W))).symm))
  have hK3 : va_K (dC, dI) cls (List.flatten ([(tX2 p0k), (tX1 p1k), (tX9 p1_2k)] : List (List (ClassId × FieldType)))) s := vK_perm (vK_fb hK) ((bP (List.Perm.refl _)).trans (List.Perm.append_right _ (List.perm_middle (a := (((p0k 7), .long) : ClassId × FieldType)) (l₁ := ([((p0k 4), .long), ((p0k 5), .long), ((p0k 6), .long)] : List (ClassId × FieldType))) (l₂ := ([((p0k 8), .int), ((p0k 10), .int), ((p0k 11), .long), ((p0k 12), .int), ((p0k 13), .int), ((p0k 14), .long), ((p0k 15), .int), ((p0k 16), .int), ((p0k 17), .int), ((p0k 18), .int), ((p0k 19), .int)] : List (ClassId × FieldType)))).symm))
  have hP : va_P (dC, dI) cls (List.flatten ([(oX2 (p0a 0) p0a p0k p0n p0w (srl p0l 7 o_1)), (oX1 (p1a 0) p1a p1k p1n p1w p1l), (oX9 (p1a 3) p1_2a p1_2k p1_2n p1_2w)] : List va_W)) H := vP_perm hP3 (bP (List.Perm.refl _))
  have hD : va_D A (List.flatten ([(oX2 (p0a 0) p0a p0k p0n p0w (srl p0l 7 o_1)), (oX1 (p1a 0) p1a p1k p1n p1w p1l), (oX9 (p1a 3) p1_2a p1_2k p1_2n p1_2w)] : List va_W)) := vD_perm hD3 (bP (List.Perm.refl _))
  have hK : va_K (dC, dI) cls (List.flatten ([(tX2 p0k), (tX1 p1k), (tX9 p1_2k)] : List (List (ClassId × FieldType)))) s := vK_perm hK3 (bP (List.Perm.refl _))
  refine lv_aload_n hx hb dX2_meetInBlock_8 rfl (lv_at hl 0 rfl) ?_
  refine lv_iconst (v := 0) hx hb dX2_meetInBlock_9 (by decide) ?_
  refine va_put (D := (dC, dI)) (ci := 9) (v := .int 0) (ty := .int) (C := RX2) (T := TX2) (N := 19) hx hb hts i_X2 tyX2 tyX2_ok nmX2 hown hK hP hD hS 0 rfl rfl 8 (by decide) (hts _ qw737) (fun _ h9 => h9) rfl (by decide +kernel) rfl rfl (Nat.le_of_ble_eq_true rfl) dX2_meetInBlock_10 (fun H locs hP hD hS => ?_)
  have hP : va_P (dC, dI) cls (List.flatten ([(oX2 (p0a 0) p0a p0k p0n (upw p0w 0 8 0) (srl p0l 7 o_1)), (oX1 (p1a 0) p1a p1k p1n p1w p1l), (oX9 (p1a 3) p1_2a p1_2k p1_2n p1_2w)] : List va_W)) H := hP
  have hD : va_D A (List.flatten ([(oX2 (p0a 0) p0a p0k p0n (upw p0w 0 8 0) (srl p0l 7 o_1)), (oX1 (p1a 0) p1a p1k p1n p1w p1l), (oX9 (p1a 3) p1_2a p1_2k p1_2n p1_2w)] : List va_W)) := hD
  obtain ⟨w2, ew2, hrun⟩ := let9 hrun
  rw [← ew2] at hP hD
  refine lv_aload_n hx hb dX2_meetInBlock_13 rfl (lv_at hl 0 rfl) ?_
  refine lv_aload_n hx hb dX2_meetInBlock_14 rfl (lv_at hl 1 rfl) ?_
  refine va_get (D := (dC, dI)) (ci := 4) (v := .ref (p1a 10)) (C := RX1) (T := TX1) (N := 21) hx hb hts i_X1 hown hK hP 16 rfl rfl 9 (by decide) (hts _ qw724) (fun _ h9 => h9) rfl dX2_meetInBlock_15 ?_
  refine lv_iload_n hx hb dX2_meetInBlock_18 rfl (lv_at hl 2 rfl) ?_
  obtain ⟨hq3, hrun⟩ := chk9 hrun
  refine va_iald hx hb hK hP 23 21 rfl rfl (ixb_in hq3) dX2_meetInBlock_19 ?_
  obtain ⟨o_4, hc_4, hrun⟩ := bnd9 hrun
  have hPx : va_P (dC, dI) cls ((List.flatten ([(oX2 (p0a 0) p0a p0k p0n w2 (srl p0l 7 o_1))] : List va_W)) ++ (List.flatten ([(oX1 (p1a 0) p1a p1k p1n p1w p1l), (oX9 (p1a 3) p1_2a p1_2k p1_2n p1_2w)] : List va_W))) H := vP_fa (vP_perm hP (bP (List.Perm.refl _)))
  have hDx : va_D A ((List.flatten ([(oX2 (p0a 0) p0a p0k p0n w2 (srl p0l 7 o_1))] : List va_W)) ++ (List.flatten ([(oX1 (p1a 0) p1a p1k p1n p1w p1l), (oX9 (p1a 3) p1_2a p1_2k p1_2n p1_2w)] : List va_W))) := vD_fa (vD_perm hD (bP (List.Perm.refl _)))
  have hKx : va_K (dC, dI) cls ((List.flatten ([(tX2 p0k)] : List (List (ClassId × FieldType)))) ++ (List.flatten ([(tX1 p1k), (tX9 p1_2k)] : List (List (ClassId × FieldType))))) s := vK_fa (vK_perm hK (bP (List.Perm.refl _)))
  have hPc := vP_l hPx
  have hDc := vD_l hDx
  have hKc := vK_l hKx
  have hFc := vfree hDx hS hA
  refine va_callv (va_runV (As := [.int (p1w 10 (nn p2))]) (rest := []) ⟨hx, hb, hml, hown, hts⟩ (kX2_addLiveIn l dC dI (p0a := p0a) (p0k := p0k) (p0n := p0n) (p0w := w2) (p0l := (srl p0l 7 o_1)) (p1 := (p1w 10 (nn p2))) (sz := _) (o := o_4) (hrun := hc_4)) (cwV 1 hts (gi_V qw739 qw740 qw741 qw694 (gi_z qw738)) rfl rfl rfl (by decide +kernel) ⟨Nat.le_of_ble_eq_true rfl, Nat.le_of_ble_eq_true rfl⟩) ⟨PRE.blind, va_recv hKc hPc (ci := 9) (q0 := 0) rfl rfl, PRE.of hE hS hFc hPc hKc hDc⟩ rfl rfl hl.1 rfl (lv_room (Nat.le_of_ble_eq_true rfl)) dX2_meetInBlock_20 ⟨(show (hcX2 p0n p0n) + 0 ≤ (hcX2 p0n (o.2.2)) from by have q0 := gmX2 hg_p0 hgn_p0; omega), (show (3 * (gcX2 p0n p0n)) + 0 ≤ (3 * (gcX2 p0n (o.2.2))) from by have q0 := gmX2 hg_p0 hgn_p0; omega)⟩) hS (fun q _ h => hFc q h) hFc (fun u t H locs ht hvm hw hB hz1 hk1 hS => ?_)
  obtain ⟨b1, b2, b3⟩ := hB
  rw [ht] at b1
  obtain ⟨hP, hD, hK⟩ := JOINC (wc := (List.flatten ([(oX2 (p0a 0) p0a p0k p0n w2 (srl p0l 7 o_1))] : List va_W))) (wr := (List.flatten ([(oX1 (p1a 0) p1a p1k p1n p1w p1l), (oX9 (p1a 3) p1_2a p1_2k p1_2n p1_2w)] : List va_W))) (w1 := (List.flatten ([(oX2 (p0a 0) p0a p0k p0n w2 o_4)] : List va_W))) (t1 := (List.flatten ([(tX2 p0k)] : List (List (ClassId × FieldType))))) hPx hDx hKx hk1 hFc b1 (va_K.moved hvm.symm b2) b3
  have hP : va_P (dC, dI) cls (List.flatten ([(oX2 (p0a 0) p0a p0k p0n w2 o_4), (oX1 (p1a 0) p1a p1k p1n p1w p1l), (oX9 (p1a 3) p1_2a p1_2k p1_2n p1_2w)] : List va_W)) H := vP_perm (vP_fb hP) (bP (List.Perm.refl _))
  have hD : va_D A (List.flatten ([(oX2 (p0a 0) p0a p0k p0n w2 o_4), (oX1 (p1a 0) p1a p1k p1n p1w p1l), (oX9 (p1a 3) p1_2a p1_2k p1_2n p1_2w)] : List va_W)) := vD_perm (vD_fb hD) (bP (List.Perm.refl _))
  have hK : va_K (dC, dI) cls (List.flatten ([(tX2 p0k), (tX1 p1k), (tX9 p1_2k)] : List (List (ClassId × FieldType)))) s := vK_perm (vK_fb hK) (bP (List.Perm.refl _))
  refine lv_aload_n hx hb dX2_meetInBlock_23 rfl (lv_at hl 0 rfl) ?_
  refine lv_aload_n hx hb dX2_meetInBlock_24 rfl (lv_at hl 1 rfl) ?_
  refine va_get (D := (dC, dI)) (ci := 4) (v := .ref (p1a 11)) (C := RX1) (T := TX1) (N := 21) hx hb hts i_X1 hown hK hP 16 rfl rfl 10 (by decide) (hts _ qw730) (fun _ h9 => h9) rfl dX2_meetInBlock_25 ?_
  refine lv_iload_n hx hb dX2_meetInBlock_28 rfl (lv_at hl 2 rfl) ?_
  obtain ⟨hq5, hrun⟩ := chk9 hrun
  refine va_iald hx hb hK hP 24 22 rfl rfl (ixb_in hq5) dX2_meetInBlock_29 ?_
  obtain ⟨o_6, hc_6, hrun⟩ := bnd9 hrun
  have hPx : va_P (dC, dI) cls ((List.flatten ([(oX2 (p0a 0) p0a p0k p0n w2 o_4)] : List va_W)) ++ (List.flatten ([(oX1 (p1a 0) p1a p1k p1n p1w p1l), (oX9 (p1a 3) p1_2a p1_2k p1_2n p1_2w)] : List va_W))) H := vP_fa (vP_perm hP (bP (List.Perm.refl _)))
  have hDx : va_D A ((List.flatten ([(oX2 (p0a 0) p0a p0k p0n w2 o_4)] : List va_W)) ++ (List.flatten ([(oX1 (p1a 0) p1a p1k p1n p1w p1l), (oX9 (p1a 3) p1_2a p1_2k p1_2n p1_2w)] : List va_W))) := vD_fa (vD_perm hD (bP (List.Perm.refl _)))
  have hKx : va_K (dC, dI) cls ((List.flatten ([(tX2 p0k)] : List (List (ClassId × FieldType)))) ++ (List.flatten ([(tX1 p1k), (tX9 p1_2k)] : List (List (ClassId × FieldType))))) s := vK_fa (vK_perm hK (bP (List.Perm.refl _)))
  have hPc := vP_l hPx
  have hDc := vD_l hDx
  have hKc := vK_l hKx
  have hFc := vfree hDx hS hA
  refine va_callv (va_runV (As := [.int (p1w 11 (nn p2))]) (rest := []) ⟨hx, hb, hml, hown, hts⟩ (kX2_addLiveIn l dC dI (p0a := p0a) (p0k := p0k) (p0n := p0n) (p0w := w2) (p0l := o_4) (p1 := (p1w 11 (nn p2))) (sz := _) (o := o_6) (hrun := hc_6)) (cwV 1 hts (gi_V qw739 qw740 qw741 qw694 (gi_z qw738)) rfl rfl rfl (by decide +kernel) ⟨Nat.le_of_ble_eq_true rfl, Nat.le_of_ble_eq_true rfl⟩) ⟨PRE.blind, va_recv hKc hPc (ci := 9) (q0 := 0) rfl rfl, PRE.of hE hS hFc hPc hKc hDc⟩ rfl rfl hl.1 rfl (lv_room (Nat.le_of_ble_eq_true rfl)) dX2_meetInBlock_30 ⟨(show (hcX2 p0n p0n) + 0 ≤ (hcX2 p0n (o.2.2)) from by have q0 := gmX2 hg_p0 hgn_p0; omega), (show (3 * (gcX2 p0n p0n)) + 0 ≤ (3 * (gcX2 p0n (o.2.2))) from by have q0 := gmX2 hg_p0 hgn_p0; omega)⟩) hS (fun q _ h => hFc q h) hFc (fun u t H locs ht hvm hw hB hz1 hk1 hS => ?_)
  obtain ⟨b1, b2, b3⟩ := hB
  rw [ht] at b1
  obtain ⟨hP, hD, hK⟩ := JOINC (wc := (List.flatten ([(oX2 (p0a 0) p0a p0k p0n w2 o_4)] : List va_W))) (wr := (List.flatten ([(oX1 (p1a 0) p1a p1k p1n p1w p1l), (oX9 (p1a 3) p1_2a p1_2k p1_2n p1_2w)] : List va_W))) (w1 := (List.flatten ([(oX2 (p0a 0) p0a p0k p0n w2 o_6)] : List va_W))) (t1 := (List.flatten ([(tX2 p0k)] : List (List (ClassId × FieldType))))) hPx hDx hKx hk1 hFc b1 (va_K.moved hvm.symm b2) b3
  have hP : va_P (dC, dI) cls (List.flatten ([(oX2 (p0a 0) p0a p0k p0n w2 o_6), (oX1 (p1a 0) p1a p1k p1n p1w p1l), (oX9 (p1a 3) p1_2a p1_2k p1_2n p1_2w)] : List va_W)) H := vP_perm (vP_fb hP) (bP (List.Perm.refl _))
  have hD : va_D A (List.flatten ([(oX2 (p0a 0) p0a p0k p0n w2 o_6), (oX1 (p1a 0) p1a p1k p1n p1w p1l), (oX9 (p1a 3) p1_2a p1_2k p1_2n p1_2w)] : List va_W)) := vD_perm (vD_fb hD) (bP (List.Perm.refl _))
  have hK : va_K (dC, dI) cls (List.flatten ([(tX2 p0k), (tX1 p1k), (tX9 p1_2k)] : List (List (ClassId × FieldType)))) s := vK_perm (vK_fb hK) (bP (List.Perm.refl _))
  refine lv_aload_n hx hb dX2_meetInBlock_33 rfl (lv_at hl 1 rfl) ?_
  refine va_get (D := (dC, dI)) (ci := 4) (v := .ref (p1a 9)) (C := RX1) (T := TX1) (N := 21) hx hb hts i_X1 hown hK hP 16 rfl rfl 8 (by decide) (hts _ qw717) (fun _ h9 => h9) rfl dX2_meetInBlock_34 ?_
  refine lv_iload_n hx hb dX2_meetInBlock_37 rfl (lv_at hl 2 rfl) ?_
  obtain ⟨hq7, hrun⟩ := chk9 hrun
  refine va_iald hx hb hK hP 22 20 rfl rfl (ixb_in hq7) dX2_meetInBlock_38 ?_
  have J52 : ∀ (p0w_52 : ST) (p0l_52 : SL) (H : Heap) (locs : List Loc) (ls : Array Slot), (fX2_meetInBlock_J52 p0n p1w p2 p1_2n p1_2w p0w_52 p0l_52) = some o → va_P (dC, dI) cls (List.flatten ([(oX2 (p0a 0) p0a p0k p0n p0w_52 p0l_52), (oX1 (p1a 0) p1a p1k p1n p1w p1l), (oX9 (p1a 3) p1_2a p1_2k p1_2n p1_2w)] : List va_W)) H → va_D A (List.flatten ([(oX2 (p0a 0) p0a p0k p0n p0w_52 p0l_52), (oX1 (p1a 0) p1a p1k p1n p1w p1l), (oX9 (p1a 3) p1_2a p1_2k p1_2n p1_2w)] : List va_W)) → va_K (dC, dI) cls (List.flatten ([(tX2 p0k), (tX1 p1k), (tX9 p1_2k)] : List (List (ClassId × FieldType)))) s → va_S A s.heap H locs → lv_has ls 7 [(0, .ref (p0a 0)), (1, .ref (p1a 0)), (2, .int p2)] → glX2 p0n p0n → W p l e ({ frames := 4, cells := (hcX2 p0n (o.2.2)), slots := (3 * (gcX2 p0n (o.2.2))), locals := 107 } : Room) s m ([.ref (p0a 0), .ref (p1a 0), .int p2] : List Value).toArray below meth c H locs (hcX2 p0n p0n) (3 * (gcX2 p0n p0n)) Q (F0 m 52 ls []) := by
    intro p0w_52 p0l_52 H locs ls hrun hP hD hK hS hl hg_p0 
    have hgn_p0 : glX2 p0n (o.2.2) := (mo_fX2_meetInBlock_J52 hrun)
    unfold fX2_meetInBlock_J52 at hrun
    refine lv_aload_n hx hb dX2_meetInBlock_52 rfl (lv_at hl 1 rfl) ?_
    refine va_get (D := (dC, dI)) (ci := 4) (v := .ref (p1a 3)) (C := RX1) (T := TX1) (N := 21) hx hb hts i_X1 hown hK hP 16 rfl rfl 2 (by decide) (hts _ qw698) (fun _ h9 => h9) rfl dX2_meetInBlock_53 ?_
    refine lv_astore_n (lv' := [(3, .ref (p1a 3)), (0, .ref (p0a 0)), (1, .ref (p1a 0)), (2, .int p2)]) hx hb dX2_meetInBlock_56 rfl hl (by decide) rfl (fun ls hl => ?_)
    refine lv_aload_n hx hb dX2_meetInBlock_57 rfl (lv_at hl 1 rfl) ?_
    refine lv_aload_n hx hb dX2_meetInBlock_58 rfl (lv_at hl 2 rfl) ?_
    refine lv_iload_n hx hb dX2_meetInBlock_59 rfl (lv_at hl 3 rfl) ?_
    obtain ⟨o_8, hc_8, hrun⟩ := bnd9 hrun
    have hPx : va_P (dC, dI) cls ((List.flatten ([(oX2 (p0a 0) p0a p0k p0n p0w_52 p0l_52), (oX1 (p1a 0) p1a p1k p1n p1w p1l), (oX9 (p1a 3) p1_2a p1_2k p1_2n p1_2w)] : List va_W)) ++ (List.flatten ([] : List va_W))) H := vP_fa (vP_perm hP (bP (List.Perm.refl _)))
    have hDx : va_D A ((List.flatten ([(oX2 (p0a 0) p0a p0k p0n p0w_52 p0l_52), (oX1 (p1a 0) p1a p1k p1n p1w p1l), (oX9 (p1a 3) p1_2a p1_2k p1_2n p1_2w)] : List va_W)) ++ (List.flatten ([] : List va_W))) := vD_fa (vD_perm hD (bP (List.Perm.refl _)))
    have hKx : va_K (dC, dI) cls ((List.flatten ([(tX2 p0k), (tX1 p1k), (tX9 p1_2k)] : List (List (ClassId × FieldType)))) ++ (List.flatten ([] : List (List (ClassId × FieldType))))) s := vK_fa (vK_perm hK (bP (List.Perm.refl _)))
    have hPc := vP_l hPx
    have hDc := vD_l hDx
    have hKc := vK_l hKx
    have hFc := vfree hDx hS hA
    have hgn_p0 : glX2 (o_8.2.2) (o.2.2) := (mo_fX2_meetInBlock_G63_38 hrun)
    refine va_calli (va_runV (As := [.ref (p1a 0), .int p2]) (rest := []) ⟨hx, hb, hml, hown, hts⟩ (kX2_listSteps l dC dI (p0a := p0a) (p0k := p0k) (p0n := p0n) (p0w := p0w_52) (p0l := p0l_52) (p1a := p1a) (p1k := p1k) (p1n := p1n) (p1w := p1w) (p1l := p1l) (p2 := p2) (p1_2a := p1_2a) (p1_2k := p1_2k) (p1_2n := p1_2n) (p1_2w := p1_2w) (sz := _) (o := o_8) (hrun := hc_8)) (cwV 2 hts (gi_V qw744 qw745 qw746 qw694 (gi_z qw743)) rfl rfl rfl (by decide +kernel) ⟨Nat.le_of_ble_eq_true rfl, Nat.le_of_ble_eq_true rfl⟩) ⟨PRE.blind, va_recv hKc hPc (ci := 9) (q0 := 0) rfl rfl, PRE.of hE hS hFc hPc hKc hDc⟩ rfl rfl hl.1 rfl (lv_room (Nat.le_of_ble_eq_true rfl)) dX2_meetInBlock_60 ⟨(show (hcX2 p0n p0n) + (hcX2 p0n (o_8.2.2)) ≤ (hcX2 p0n (o.2.2)) from by have q0 := gsX2 hg_p0 (mo_fX2_listSteps hc_8) hgn_p0; omega), (show (3 * (gcX2 p0n p0n)) + (3 * (gcX2 p0n (o_8.2.2))) ≤ (3 * (gcX2 p0n (o.2.2))) from by have q0 := gsX2 hg_p0 (mo_fX2_listSteps hc_8) hgn_p0; omega)⟩) hS (fun q _ h => hFc q h) hFc (fun r9 u t H locs ht hvm hw hB hz1 hk1 hS => ?_)
    obtain ⟨x10, z11, x12, z13, x14, z15, x16, z17, x18, z19, x20, z21, x22, z23, x24, z25, x26, z27, x28, z29, x30, z31, x32, z33, x34, z35, x36, z37, hB⟩ := hB
    obtain ⟨b1, b2, b3⟩ := hB
    rw [ht] at b1
    obtain ⟨hP, hD, hK⟩ := JOINC (wc := (List.flatten ([(oX2 (p0a 0) p0a p0k p0n p0w_52 p0l_52), (oX1 (p1a 0) p1a p1k p1n p1w p1l), (oX9 (p1a 3) p1_2a p1_2k p1_2n p1_2w)] : List va_W))) (wr := (List.flatten ([] : List va_W))) (w1 := (List.flatten ([(oX2 (p0a 0) (st1 (st1 (st1 (st1 (st1 (st1 (st1 (st1 (st1 (st1 (st1 (st1 (st1 (st1 p0a 4 x10) 5 x12) 6 x14) 7 x16) 10 x18) 11 x20) 12 x22) 13 x24) 14 x26) 15 x28) 16 x30) 17 x32) 18 x34) 19 x36) (st1 (st1 (st1 (st1 (st1 (st1 (st1 (st1 (st1 (st1 (st1 (st1 (st1 (st1 p0k 4 z11) 5 z13) 6 z15) 7 z17) 10 z19) 11 z21) 12 z23) 13 z25) 14 z27) 15 z29) 16 z31) 17 z33) 18 z35) 19 z37) (o_8.2.2) (o_8.2.1) p0l_52), (oX1 (p1a 0) p1a p1k p1n p1w p1l), (oX9 (p1a 3) p1_2a p1_2k p1_2n p1_2w)] : List va_W))) (t1 := (List.flatten ([(tX2 (st1 (st1 (st1 (st1 (st1 (st1 (st1 (st1 (st1 (st1 (st1 (st1 (st1 (st1 p0k 4 z11) 5 z13) 6 z15) 7 z17) 10 z19) 11 z21) 12 z23) 13 z25) 14 z27) 15 z29) 16 z31) 17 z33) 18 z35) 19 z37)), (tX1 p1k), (tX9 p1_2k)] : List (List (ClassId × FieldType))))) hPx hDx hKx hk1 hFc b1 (va_K.moved hvm.symm b2) b3
    have hP : va_P (dC, dI) cls (List.flatten ([(oX2 (p0a 0) (st1 (st1 (st1 (st1 (st1 (st1 (st1 (st1 (st1 (st1 (st1 (st1 (st1 (st1 p0a 4 x10) 5 x12) 6 x14) 7 x16) 10 x18) 11 x20) 12 x22) 13 x24) 14 x26) 15 x28) 16 x30) 17 x32) 18 x34) 19 x36) (st1 (st1 (st1 (st1 (st1 (st1 (st1 (st1 (st1 (st1 (st1 (st1 (st1 (st1 p0k 4 z11) 5 z13) 6 z15) 7 z17) 10 z19) 11 z21) 12 z23) 13 z25) 14 z27) 15 z29) 16 z31) 17 z33) 18 z35) 19 z37) (o_8.2.2) (o_8.2.1) p0l_52), (oX1 (p1a 0) p1a p1k p1n p1w p1l), (oX9 (p1a 3) p1_2a p1_2k p1_2n p1_2w)] : List va_W)) H := vP_perm (vP_fb hP) (bP (List.Perm.refl _))
    have hD : va_D A (List.flatten ([(oX2 (p0a 0) (st1 (st1 (st1 (st1 (st1 (st1 (st1 (st1 (st1 (st1 (st1 (st1 (st1 (st1 p0a 4 x10) 5 x12) 6 x14) 7 x16) 10 x18) 11 x20) 12 x22) 13 x24) 14 x26) 15 x28) 16 x30) 17 x32) 18 x34) 19 x36) (st1 (st1 (st1 (st1 (st1 (st1 (st1 (st1 (st1 (st1 (st1 (st1 (st1 (st1 p0k 4 z11) 5 z13) 6 z15) 7 z17) 10 z19) 11 z21) 12 z23) 13 z25) 14 z27) 15 z29) 16 z31) 17 z33) 18 z35) 19 z37) (o_8.2.2) (o_8.2.1) p0l_52), (oX1 (p1a 0) p1a p1k p1n p1w p1l), (oX9 (p1a 3) p1_2a p1_2k p1_2n p1_2w)] : List va_W)) := vD_perm (vD_fb hD) (bP (List.Perm.refl _))
    have hK : va_K (dC, dI) cls (List.flatten ([(tX2 (st1 (st1 (st1 (st1 (st1 (st1 (st1 (st1 (st1 (st1 (st1 (st1 (st1 (st1 p0k 4 z11) 5 z13) 6 z15) 7 z17) 10 z19) 11 z21) 12 z23) 13 z25) 14 z27) 15 z29) 16 z31) 17 z33) 18 z35) 19 z37)), (tX1 p1k), (tX9 p1_2k)] : List (List (ClassId × FieldType)))) s := vK_perm (vK_fb hK) (bP (List.Perm.refl _))
    obtain rfl : r9 = (o_8.1) := hw
    refine W.widen (k := (hcX2 p0n (o_8.2.2))) (n := (3 * (gcX2 p0n (o_8.2.2)))) (by have a0 := gcX2_add hg_p0 (mo_fX2_listSteps hc_8); omega) (by have a0 := gcX2_add hg_p0 (mo_fX2_listSteps hc_8); omega) ?_
    have hg_p0 : glX2 p0n (o_8.2.2) := glX2_tr hg_p0 (mo_fX2_listSteps hc_8)
    unfold fX2_meetInBlock_G63_38 at hrun
    refine lv_iconst (v := 1) hx hb dX2_meetInBlock_63 (by decide) ?_
    refine lv_isub hx hb dX2_meetInBlock_64 ?_
    refine lv_istore (lv' := [(4, .int ((o_8.1) - 1)), (3, .ref (p1a 3)), (0, .ref (p0a 0)), (1, .ref (p1a 0)), (2, .int p2)]) hx hb dX2_meetInBlock_65 hl (by decide) rfl (fun ls hl => ?_)
    have L67 : ∀ (n_67 : Nat) (v4_67 : Int32) (p0w_67 : ST) (p0l_67 : SL) (o67 : ST × SL) (H : Heap) (locs : List Loc) (ls : Array Slot), (fX2_meetInBlock_L67 p1_2n p1_2w o_8 n_67) v4_67 p0w_67 p0l_67 = some o67 → va_P (dC, dI) cls (List.flatten ([(oX2 (p0a 0) (st1 (st1 (st1 (st1 (st1 (st1 (st1 (st1 (st1 (st1 (st1 (st1 (st1 (st1 p0a 4 x10) 5 x12) 6 x14) 7 x16) 10 x18) 11 x20) 12 x22) 13 x24) 14 x26) 15 x28) 16 x30) 17 x32) 18 x34) 19 x36) (st1 (st1 (st1 (st1 (st1 (st1 (st1 (st1 (st1 (st1 (st1 (st1 (st1 (st1 p0k 4 z11) 5 z13) 6 z15) 7 z17) 10 z19) 11 z21) 12 z23) 13 z25) 14 z27) 15 z29) 16 z31) 17 z33) 18 z35) 19 z37) (o_8.2.2) p0w_67 p0l_67), (oX1 (p1a 0) p1a p1k p1n p1w p1l), (oX9 (p1a 3) p1_2a p1_2k p1_2n p1_2w)] : List va_W)) H → va_D A (List.flatten ([(oX2 (p0a 0) (st1 (st1 (st1 (st1 (st1 (st1 (st1 (st1 (st1 (st1 (st1 (st1 (st1 (st1 p0a 4 x10) 5 x12) 6 x14) 7 x16) 10 x18) 11 x20) 12 x22) 13 x24) 14 x26) 15 x28) 16 x30) 17 x32) 18 x34) 19 x36) (st1 (st1 (st1 (st1 (st1 (st1 (st1 (st1 (st1 (st1 (st1 (st1 (st1 (st1 p0k 4 z11) 5 z13) 6 z15) 7 z17) 10 z19) 11 z21) 12 z23) 13 z25) 14 z27) 15 z29) 16 z31) 17 z33) 18 z35) 19 z37) (o_8.2.2) p0w_67 p0l_67), (oX1 (p1a 0) p1a p1k p1n p1w p1l), (oX9 (p1a 3) p1_2a p1_2k p1_2n p1_2w)] : List va_W)) → va_K (dC, dI) cls (List.flatten ([(tX2 (st1 (st1 (st1 (st1 (st1 (st1 (st1 (st1 (st1 (st1 (st1 (st1 (st1 (st1 p0k 4 z11) 5 z13) 6 z15) 7 z17) 10 z19) 11 z21) 12 z23) 13 z25) 14 z27) 15 z29) 16 z31) 17 z33) 18 z35) 19 z37)), (tX1 p1k), (tX9 p1_2k)] : List (List (ClassId × FieldType)))) s → va_S A s.heap H locs → lv_has ls 7 [(0, .ref (p0a 0)), (3, .ref (p1a 3)), (4, .int v4_67)] → glX2 p0n (o_8.2.2) → (∀ (H : Heap) (locs : List Loc) (ls : Array Slot), va_P (dC, dI) cls (List.flatten ([(oX2 (p0a 0) (st1 (st1 (st1 (st1 (st1 (st1 (st1 (st1 (st1 (st1 (st1 (st1 (st1 (st1 p0a 4 x10) 5 x12) 6 x14) 7 x16) 10 x18) 11 x20) 12 x22) 13 x24) 14 x26) 15 x28) 16 x30) 17 x32) 18 x34) 19 x36) (st1 (st1 (st1 (st1 (st1 (st1 (st1 (st1 (st1 (st1 (st1 (st1 (st1 (st1 p0k 4 z11) 5 z13) 6 z15) 7 z17) 10 z19) 11 z21) 12 z23) 13 z25) 14 z27) 15 z29) 16 z31) 17 z33) 18 z35) 19 z37) (o_8.2.2) (o67.1) (o67.2)), (oX1 (p1a 0) p1a p1k p1n p1w p1l), (oX9 (p1a 3) p1_2a p1_2k p1_2n p1_2w)] : List va_W)) H → va_D A (List.flatten ([(oX2 (p0a 0) (st1 (st1 (st1 (st1 (st1 (st1 (st1 (st1 (st1 (st1 (st1 (st1 (st1 (st1 p0a 4 x10) 5 x12) 6 x14) 7 x16) 10 x18) 11 x20) 12 x22) 13 x24) 14 x26) 15 x28) 16 x30) 17 x32) 18 x34) 19 x36) (st1 (st1 (st1 (st1 (st1 (st1 (st1 (st1 (st1 (st1 (st1 (st1 (st1 (st1 p0k 4 z11) 5 z13) 6 z15) 7 z17) 10 z19) 11 z21) 12 z23) 13 z25) 14 z27) 15 z29) 16 z31) 17 z33) 18 z35) 19 z37) (o_8.2.2) (o67.1) (o67.2)), (oX1 (p1a 0) p1a p1k p1n p1w p1l), (oX9 (p1a 3) p1_2a p1_2k p1_2n p1_2w)] : List va_W)) → va_K (dC, dI) cls (List.flatten ([(tX2 (st1 (st1 (st1 (st1 (st1 (st1 (st1 (st1 (st1 (st1 (st1 (st1 (st1 (st1 p0k 4 z11) 5 z13) 6 z15) 7 z17) 10 z19) 11 z21) 12 z23) 13 z25) 14 z27) 15 z29) 16 z31) 17 z33) 18 z35) 19 z37)), (tX1 p1k), (tX9 p1_2k)] : List (List (ClassId × FieldType)))) s → va_S A s.heap H locs → lv_has ls 7 [] → glX2 p0n (o_8.2.2) → W p l e ({ frames := 4, cells := (hcX2 p0n (o.2.2)), slots := (3 * (gcX2 p0n (o.2.2))), locals := 107 } : Room) s m ([.ref (p0a 0), .ref (p1a 0), .int p2] : List Value).toArray below meth c H locs (hcX2 p0n (o_8.2.2)) (3 * (gcX2 p0n (o_8.2.2))) Q (F0 m 184 ls [])) → W p l e ({ frames := 4, cells := (hcX2 p0n (o.2.2)), slots := (3 * (gcX2 p0n (o.2.2))), locals := 107 } : Room) s m ([.ref (p0a 0), .ref (p1a 0), .int p2] : List Value).toArray below meth c H locs (hcX2 p0n (o_8.2.2)) (3 * (gcX2 p0n (o_8.2.2))) Q (F0 m 67 ls []) := by
      intro n_67
      induction n_67 with
      | zero => intro v4_67 p0w_67 p0l_67 o67 H locs ls hrun; exact (no9 rfl hrun).elim
      | succ n_67 IH67 =>
        intro v4_67 p0w_67 p0l_67 o67 H locs ls hrun hP hD hK hS hl hg_p0 hk67
        unfold fX2_meetInBlock_L67 at hrun
        refine lv_iload hx hb dX2_meetInBlock_67 (lv_at hl 2 rfl) ?_
        rcases br9 hrun with ⟨hc39, hrun⟩ | ⟨hc39, hrun⟩
        · refine lv_if_lt (tgt := 184) hx hb dX2_meetInBlock_69 (by decide) (fun _ => ?_) (fun c => absurd hc39 c)
          obtain rfl := (Option.some.inj hrun)
          exact hk67 _ _ _ hP hD hK hS (lv_sub hl [] rfl) hg_p0
        · refine lv_if_lt (tgt := 184) hx hb dX2_meetInBlock_69 (by decide) (fun c => absurd c hc39) (fun _ => ?_)
          refine lv_aload_n hx hb dX2_meetInBlock_72 rfl (lv_at hl 0 rfl) ?_
          refine va_get (D := (dC, dI)) (ci := 9) (v := .ref x18) (C := RX2) (T := TX2) (N := 19) hx hb hts i_X2 hown hK hP 0 rfl rfl 9 (by decide) (hts _ qw742) (fun _ h9 => h9) rfl dX2_meetInBlock_73 ?_
          refine lv_iload hx hb dX2_meetInBlock_76 (lv_at hl 2 rfl) ?_
          obtain ⟨hq40, hrun⟩ := chk9 hrun
          refine va_iald hx hb hK hP 6 5 rfl rfl (ixb_in hq40) dX2_meetInBlock_78 ?_
          refine lv_istore (lv' := [(5, .int (p0w_67 10 (nn v4_67))), (0, .ref (p0a 0)), (3, .ref (p1a 3)), (4, .int v4_67)]) hx hb dX2_meetInBlock_79 hl (by decide) rfl (fun ls hl => ?_)
          refine lv_aload_n hx hb dX2_meetInBlock_81 rfl (lv_at hl 2 rfl) ?_
          refine va_get (D := (dC, dI)) (ci := 3) (v := .ref (p1_2a 2)) (C := RX9) (T := TX9) (N := 6) hx hb hts i_X9 hown hK hP 34 rfl rfl 1 (by decide) (hts _ qw700) (fun _ h9 => h9) rfl dX2_meetInBlock_82 ?_
          refine lv_iload hx hb dX2_meetInBlock_85 (lv_at hl 0 rfl) ?_
          obtain ⟨hq41, hrun⟩ := chk9 hrun
          refine va_iald hx hb hK hP 35 32 rfl rfl (ixb_in hq41) dX2_meetInBlock_87 ?_
          refine lv_istore (lv' := [(6, .int (p1_2w 2 (nn (p0w_67 10 (nn v4_67))))), (5, .int (p0w_67 10 (nn v4_67))), (0, .ref (p0a 0)), (3, .ref (p1a 3)), (4, .int v4_67)]) hx hb dX2_meetInBlock_88 hl (by decide) rfl (fun ls hl => ?_)
          refine lv_aload_n hx hb dX2_meetInBlock_90 rfl (lv_at hl 3 rfl) ?_
          refine va_get (D := (dC, dI)) (ci := 3) (v := .ref (p1_2a 3)) (C := RX9) (T := TX9) (N := 6) hx hb hts i_X9 hown hK hP 34 rfl rfl 2 (by decide) (hts _ qw701) (fun _ h9 => h9) rfl dX2_meetInBlock_91 ?_
          refine lv_iload hx hb dX2_meetInBlock_94 (lv_at hl 1 rfl) ?_
          obtain ⟨hq42, hrun⟩ := chk9 hrun
          refine va_iald hx hb hK hP 36 33 rfl rfl (ixb_in hq42) dX2_meetInBlock_96 ?_
          have J140 : ∀ (p0w_140 : ST) (p0l_140 : SL) (H : Heap) (locs : List Loc) (ls : Array Slot), (fX2_meetInBlock_J140 (fX2_meetInBlock_L67 p1_2n p1_2w o_8 n_67) p1_2n p1_2w o_8 v4_67 p0w_67 p0w_140 p0l_140) = some o67 → va_P (dC, dI) cls (List.flatten ([(oX2 (p0a 0) (st1 (st1 (st1 (st1 (st1 (st1 (st1 (st1 (st1 (st1 (st1 (st1 (st1 (st1 p0a 4 x10) 5 x12) 6 x14) 7 x16) 10 x18) 11 x20) 12 x22) 13 x24) 14 x26) 15 x28) 16 x30) 17 x32) 18 x34) 19 x36) (st1 (st1 (st1 (st1 (st1 (st1 (st1 (st1 (st1 (st1 (st1 (st1 (st1 (st1 p0k 4 z11) 5 z13) 6 z15) 7 z17) 10 z19) 11 z21) 12 z23) 13 z25) 14 z27) 15 z29) 16 z31) 17 z33) 18 z35) 19 z37) (o_8.2.2) p0w_140 p0l_140), (oX1 (p1a 0) p1a p1k p1n p1w p1l), (oX9 (p1a 3) p1_2a p1_2k p1_2n p1_2w)] : List va_W)) H → va_D A (List.flatten ([(oX2 (p0a 0) (st1 (st1 (st1 (st1 (st1 (st1 (st1 (st1 (st1 (st1 (st1 (st1 (st1 (st1 p0a 4 x10) 5 x12) 6 x14) 7 x16) 10 x18) 11 x20) 12 x22) 13 x24) 14 x26) 15 x28) 16 x30) 17 x32) 18 x34) 19 x36) (st1 (st1 (st1 (st1 (st1 (st1 (st1 (st1 (st1 (st1 (st1 (st1 (st1 (st1 p0k 4 z11) 5 z13) 6 z15) 7 z17) 10 z19) 11 z21) 12 z23) 13 z25) 14 z27) 15 z29) 16 z31) 17 z33) 18 z35) 19 z37) (o_8.2.2) p0w_140 p0l_140), (oX1 (p1a 0) p1a p1k p1n p1w p1l), (oX9 (p1a 3) p1_2a p1_2k p1_2n p1_2w)] : List va_W)) → va_K (dC, dI) cls (List.flatten ([(tX2 (st1 (st1 (st1 (st1 (st1 (st1 (st1 (st1 (st1 (st1 (st1 (st1 (st1 (st1 p0k 4 z11) 5 z13) 6 z15) 7 z17) 10 z19) 11 z21) 12 z23) 13 z25) 14 z27) 15 z29) 16 z31) 17 z33) 18 z35) 19 z37)), (tX1 p1k), (tX9 p1_2k)] : List (List (ClassId × FieldType)))) s → va_S A s.heap H locs → lv_has ls 7 [(0, .ref (p0a 0)), (3, .ref (p1a 3)), (4, .int v4_67), (5, .int (p0w_67 10 (nn v4_67))), (6, .int (p1_2w 2 (nn (p0w_67 10 (nn v4_67)))))] → glX2 p0n (o_8.2.2) → W p l e ({ frames := 4, cells := (hcX2 p0n (o.2.2)), slots := (3 * (gcX2 p0n (o.2.2))), locals := 107 } : Room) s m ([.ref (p0a 0), .ref (p1a 0), .int p2] : List Value).toArray below meth c H locs (hcX2 p0n (o_8.2.2)) (3 * (gcX2 p0n (o_8.2.2))) Q (F0 m 140 ls []) := by
            intro p0w_140 p0l_140 H locs ls hrun hP hD hK hS hl hg_p0 
            unfold fX2_meetInBlock_J140 at hrun
            refine lv_iload hx hb dX2_meetInBlock_140 (lv_at hl 4 rfl) ?_
            obtain ⟨o_43, hc_43, hrun⟩ := bnd9 hrun
            have hPx : va_P (dC, dI) cls ((List.flatten ([] : List va_W)) ++ (List.flatten ([(oX2 (p0a 0) (st1 (st1 (st1 (st1 (st1 (st1 (st1 (st1 (st1 (st1 (st1 (st1 (st1 (st1 p0a 4 x10) 5 x12) 6 x14) 7 x16) 10 x18) 11 x20) 12 x22) 13 x24) 14 x26) 15 x28) 16 x30) 17 x32) 18 x34) 19 x36) (st1 (st1 (st1 (st1 (st1 (st1 (st1 (st1 (st1 (st1 (st1 (st1 (st1 (st1 p0k 4 z11) 5 z13) 6 z15) 7 z17) 10 z19) 11 z21) 12 z23) 13 z25) 14 z27) 15 z29) 16 z31) 17 z33) 18 z35) 19 z37) (o_8.2.2) p0w_140 p0l_140), (oX1 (p1a 0) p1a p1k p1n p1w p1l), (oX9 (p1a 3) p1_2a p1_2k p1_2n p1_2w)] : List va_W))) H := vP_fa (vP_perm hP (bP (List.Perm.refl _)))
            have hDx : va_D A ((List.flatten ([] : List va_W)) ++ (List.flatten ([(oX2 (p0a 0) (st1 (st1 (st1 (st1 (st1 (st1 (st1 (st1 (st1 (st1 (st1 (st1 (st1 (st1 p0a 4 x10) 5 x12) 6 x14) 7 x16) 10 x18) 11 x20) 12 x22) 13 x24) 14 x26) 15 x28) 16 x30) 17 x32) 18 x34) 19 x36) (st1 (st1 (st1 (st1 (st1 (st1 (st1 (st1 (st1 (st1 (st1 (st1 (st1 (st1 p0k 4 z11) 5 z13) 6 z15) 7 z17) 10 z19) 11 z21) 12 z23) 13 z25) 14 z27) 15 z29) 16 z31) 17 z33) 18 z35) 19 z37) (o_8.2.2) p0w_140 p0l_140), (oX1 (p1a 0) p1a p1k p1n p1w p1l), (oX9 (p1a 3) p1_2a p1_2k p1_2n p1_2w)] : List va_W))) := vD_fa (vD_perm hD (bP (List.Perm.refl _)))
            have hKx : va_K (dC, dI) cls ((List.flatten ([] : List (List (ClassId × FieldType)))) ++ (List.flatten ([(tX2 (st1 (st1 (st1 (st1 (st1 (st1 (st1 (st1 (st1 (st1 (st1 (st1 (st1 (st1 p0k 4 z11) 5 z13) 6 z15) 7 z17) 10 z19) 11 z21) 12 z23) 13 z25) 14 z27) 15 z29) 16 z31) 17 z33) 18 z35) 19 z37)), (tX1 p1k), (tX9 p1_2k)] : List (List (ClassId × FieldType))))) s := vK_fa (vK_perm hK (bP (List.Perm.refl _)))
            have hPc := vP_l hPx
            have hDc := vD_l hDx
            have hKc := vK_l hKx
            have hFc := vfree hDx hS hA
            refine va_calli (va_runSN (As := [.int (p1_2w 2 (nn (p0w_67 10 (nn v4_67))))]) (rest := []) ⟨hx, hb, hml, hown, hts⟩ (kX11_usesLeft l dC dI (p0 := (p1_2w 2 (nn (p0w_67 10 (nn v4_67))))) (sz := _) (o := o_43) (hrun := hc_43)) ⟨(va_cnB 1 hts (gi_z qw446) rfl rfl rfl (hE.nw (List.mem_append_right _ (tbl_8 (i := 214) rfl)) rfl) (hts _ qw129) (by decide +kernel) ⟨Nat.le_of_ble_eq_true rfl, Nat.le_of_ble_eq_true rfl⟩), (hts _ qw447), trivial⟩ ⟨PRE.blind, PRE.of hE hS hFc hPc hKc hDc⟩ rfl rfl hl.1 rfl (lv_room (Nat.le_of_ble_eq_true rfl)) dX2_meetInBlock_142 ⟨(show (hcX2 p0n (o_8.2.2)) + 0 ≤ (hcX2 p0n (o.2.2)) from by have q0 := gmX2 hg_p0 hgn_p0; omega), (show (3 * (gcX2 p0n (o_8.2.2))) + 0 ≤ (3 * (gcX2 p0n (o.2.2))) from by have q0 := gmX2 hg_p0 hgn_p0; omega)⟩) hS (fun q _ h => hFc q h) hFc (fun r44 u t H locs ht hvm hw hB hz1 hk1 hS => ?_)
            obtain ⟨b1, b2, b3⟩ := hB
            rw [ht] at b1
            obtain ⟨hP, hD, hK⟩ := JOINC (wc := (List.flatten ([] : List va_W))) (wr := (List.flatten ([(oX2 (p0a 0) (st1 (st1 (st1 (st1 (st1 (st1 (st1 (st1 (st1 (st1 (st1 (st1 (st1 (st1 p0a 4 x10) 5 x12) 6 x14) 7 x16) 10 x18) 11 x20) 12 x22) 13 x24) 14 x26) 15 x28) 16 x30) 17 x32) 18 x34) 19 x36) (st1 (st1 (st1 (st1 (st1 (st1 (st1 (st1 (st1 (st1 (st1 (st1 (st1 (st1 p0k 4 z11) 5 z13) 6 z15) 7 z17) 10 z19) 11 z21) 12 z23) 13 z25) 14 z27) 15 z29) 16 z31) 17 z33) 18 z35) 19 z37) (o_8.2.2) p0w_140 p0l_140), (oX1 (p1a 0) p1a p1k p1n p1w p1l), (oX9 (p1a 3) p1_2a p1_2k p1_2n p1_2w)] : List va_W))) (w1 := (List.flatten ([] : List va_W))) (t1 := (List.flatten ([] : List (List (ClassId × FieldType))))) hPx hDx hKx hk1 hFc b1 (va_K.moved hvm.symm b2) b3
            have hP : va_P (dC, dI) cls (List.flatten ([(oX2 (p0a 0) (st1 (st1 (st1 (st1 (st1 (st1 (st1 (st1 (st1 (st1 (st1 (st1 (st1 (st1 p0a 4 x10) 5 x12) 6 x14) 7 x16) 10 x18) 11 x20) 12 x22) 13 x24) 14 x26) 15 x28) 16 x30) 17 x32) 18 x34) 19 x36) (st1 (st1 (st1 (st1 (st1 (st1 (st1 (st1 (st1 (st1 (st1 (st1 (st1 (st1 p0k 4 z11) 5 z13) 6 z15) 7 z17) 10 z19) 11 z21) 12 z23) 13 z25) 14 z27) 15 z29) 16 z31) 17 z33) 18 z35) 19 z37) (o_8.2.2) p0w_140 p0l_140), (oX1 (p1a 0) p1a p1k p1n p1w p1l), (oX9 (p1a 3) p1_2a p1_2k p1_2n p1_2w)] : List va_W)) H := vP_perm (vP_fb hP) (bP (List.Perm.refl _))
            have hD : va_D A (List.flatten ([(oX2 (p0a 0) (st1 (st1 (st1 (st1 (st1 (st1 (st1 (st1 (st1 (st1 (st1 (st1 (st1 (st1 p0a 4 x10) 5 x12) 6 x14) 7 x16) 10 x18) 11 x20) 12 x22) 13 x24) 14 x26) 15 x28) 16 x30) 17 x32) 18 x34) 19 x36) (st1 (st1 (st1 (st1 (st1 (st1 (st1 (st1 (st1 (st1 (st1 (st1 (st1 (st1 p0k 4 z11) 5 z13) 6 z15) 7 z17) 10 z19) 11 z21) 12 z23) 13 z25) 14 z27) 15 z29) 16 z31) 17 z33) 18 z35) 19 z37) (o_8.2.2) p0w_140 p0l_140), (oX1 (p1a 0) p1a p1k p1n p1w p1l), (oX9 (p1a 3) p1_2a p1_2k p1_2n p1_2w)] : List va_W)) := vD_perm (vD_fb hD) (bP (List.Perm.refl _))
            have hK : va_K (dC, dI) cls (List.flatten ([(tX2 (st1 (st1 (st1 (st1 (st1 (st1 (st1 (st1 (st1 (st1 (st1 (st1 (st1 (st1 p0k 4 z11) 5 z13) 6 z15) 7 z17) 10 z19) 11 z21) 12 z23) 13 z25) 14 z27) 15 z29) 16 z31) 17 z33) 18 z35) 19 z37)), (tX1 p1k), (tX9 p1_2k)] : List (List (ClassId × FieldType)))) s := vK_perm (vK_fb hK) (bP (List.Perm.refl _))
            obtain rfl : o_43 = r44 := hw.symm
            have J159 : ∀ (p0w_159 : ST) (p0l_159 : SL) (H : Heap) (locs : List Loc) (ls : Array Slot), (fX2_meetInBlock_J159 (fX2_meetInBlock_L67 p1_2n p1_2w o_8 n_67) p1_2n p1_2w o_8 v4_67 p0w_67 p0w_159 p0l_159) = some o67 → va_P (dC, dI) cls (List.flatten ([(oX2 (p0a 0) (st1 (st1 (st1 (st1 (st1 (st1 (st1 (st1 (st1 (st1 (st1 (st1 (st1 (st1 p0a 4 x10) 5 x12) 6 x14) 7 x16) 10 x18) 11 x20) 12 x22) 13 x24) 14 x26) 15 x28) 16 x30) 17 x32) 18 x34) 19 x36) (st1 (st1 (st1 (st1 (st1 (st1 (st1 (st1 (st1 (st1 (st1 (st1 (st1 (st1 p0k 4 z11) 5 z13) 6 z15) 7 z17) 10 z19) 11 z21) 12 z23) 13 z25) 14 z27) 15 z29) 16 z31) 17 z33) 18 z35) 19 z37) (o_8.2.2) p0w_159 p0l_159), (oX1 (p1a 0) p1a p1k p1n p1w p1l), (oX9 (p1a 3) p1_2a p1_2k p1_2n p1_2w)] : List va_W)) H → va_D A (List.flatten ([(oX2 (p0a 0) (st1 (st1 (st1 (st1 (st1 (st1 (st1 (st1 (st1 (st1 (st1 (st1 (st1 (st1 p0a 4 x10) 5 x12) 6 x14) 7 x16) 10 x18) 11 x20) 12 x22) 13 x24) 14 x26) 15 x28) 16 x30) 17 x32) 18 x34) 19 x36) (st1 (st1 (st1 (st1 (st1 (st1 (st1 (st1 (st1 (st1 (st1 (st1 (st1 (st1 p0k 4 z11) 5 z13) 6 z15) 7 z17) 10 z19) 11 z21) 12 z23) 13 z25) 14 z27) 15 z29) 16 z31) 17 z33) 18 z35) 19 z37) (o_8.2.2) p0w_159 p0l_159), (oX1 (p1a 0) p1a p1k p1n p1w p1l), (oX9 (p1a 3) p1_2a p1_2k p1_2n p1_2w)] : List va_W)) → va_K (dC, dI) cls (List.flatten ([(tX2 (st1 (st1 (st1 (st1 (st1 (st1 (st1 (st1 (st1 (st1 (st1 (st1 (st1 (st1 p0k 4 z11) 5 z13) 6 z15) 7 z17) 10 z19) 11 z21) 12 z23) 13 z25) 14 z27) 15 z29) 16 z31) 17 z33) 18 z35) 19 z37)), (tX1 p1k), (tX9 p1_2k)] : List (List (ClassId × FieldType)))) s → va_S A s.heap H locs → lv_has ls 7 [(0, .ref (p0a 0)), (3, .ref (p1a 3)), (4, .int v4_67), (5, .int (p0w_67 10 (nn v4_67))), (6, .int (p1_2w 2 (nn (p0w_67 10 (nn v4_67)))))] → glX2 p0n (o_8.2.2) → W p l e ({ frames := 4, cells := (hcX2 p0n (o.2.2)), slots := (3 * (gcX2 p0n (o.2.2))), locals := 107 } : Room) s m ([.ref (p0a 0), .ref (p1a 0), .int p2] : List Value).toArray below meth c H locs (hcX2 p0n (o_8.2.2)) (3 * (gcX2 p0n (o_8.2.2))) Q (F0 m 159 ls []) := by
              intro p0w_159 p0l_159 H locs ls hrun hP hD hK hS hl hg_p0 
              unfold fX2_meetInBlock_J159 at hrun
              refine lv_iload hx hb dX2_meetInBlock_159 (lv_at hl 4 rfl) ?_
              obtain ⟨o_45, hc_45, hrun⟩ := bnd9 hrun
              have hPx : va_P (dC, dI) cls ((List.flatten ([] : List va_W)) ++ (List.flatten ([(oX2 (p0a 0) (st1 (st1 (st1 (st1 (st1 (st1 (st1 (st1 (st1 (st1 (st1 (st1 (st1 (st1 p0a 4 x10) 5 x12) 6 x14) 7 x16) 10 x18) 11 x20) 12 x22) 13 x24) 14 x26) 15 x28) 16 x30) 17 x32) 18 x34) 19 x36) (st1 (st1 (st1 (st1 (st1 (st1 (st1 (st1 (st1 (st1 (st1 (st1 (st1 (st1 p0k 4 z11) 5 z13) 6 z15) 7 z17) 10 z19) 11 z21) 12 z23) 13 z25) 14 z27) 15 z29) 16 z31) 17 z33) 18 z35) 19 z37) (o_8.2.2) p0w_159 p0l_159), (oX1 (p1a 0) p1a p1k p1n p1w p1l), (oX9 (p1a 3) p1_2a p1_2k p1_2n p1_2w)] : List va_W))) H := vP_fa (vP_perm hP (bP (List.Perm.refl _)))
              have hDx : va_D A ((List.flatten ([] : List va_W)) ++ (List.flatten ([(oX2 (p0a 0) (st1 (st1 (st1 (st1 (st1 (st1 (st1 (st1 (st1 (st1 (st1 (st1 (st1 (st1 p0a 4 x10) 5 x12) 6 x14) 7 x16) 10 x18) 11 x20) 12 x22) 13 x24) 14 x26) 15 x28) 16 x30) 17 x32) 18 x34) 19 x36) (st1 (st1 (st1 (st1 (st1 (st1 (st1 (st1 (st1 (st1 (st1 (st1 (st1 (st1 p0k 4 z11) 5 z13) 6 z15) 7 z17) 10 z19) 11 z21) 12 z23) 13 z25) 14 z27) 15 z29) 16 z31) 17 z33) 18 z35) 19 z37) (o_8.2.2) p0w_159 p0l_159), (oX1 (p1a 0) p1a p1k p1n p1w p1l), (oX9 (p1a 3) p1_2a p1_2k p1_2n p1_2w)] : List va_W))) := vD_fa (vD_perm hD (bP (List.Perm.refl _)))
              have hKx : va_K (dC, dI) cls ((List.flatten ([] : List (List (ClassId × FieldType)))) ++ (List.flatten ([(tX2 (st1 (st1 (st1 (st1 (st1 (st1 (st1 (st1 (st1 (st1 (st1 (st1 (st1 (st1 p0k 4 z11) 5 z13) 6 z15) 7 z17) 10 z19) 11 z21) 12 z23) 13 z25) 14 z27) 15 z29) 16 z31) 17 z33) 18 z35) 19 z37)), (tX1 p1k), (tX9 p1_2k)] : List (List (ClassId × FieldType))))) s := vK_fa (vK_perm hK (bP (List.Perm.refl _)))
              have hPc := vP_l hPx
              have hDc := vD_l hDx
              have hKc := vK_l hKx
              have hFc := vfree hDx hS hA
              refine va_calli (va_runSN (As := [.int (p1_2w 2 (nn (p0w_67 10 (nn v4_67))))]) (rest := []) ⟨hx, hb, hml, hown, hts⟩ (kX11_usesRight l dC dI (p0 := (p1_2w 2 (nn (p0w_67 10 (nn v4_67))))) (sz := _) (o := o_45) (hrun := hc_45)) ⟨(va_cnB 1 hts (gi_z qw351) rfl rfl rfl (hE.nw (List.mem_append_right _ (tbl_8 (i := 228) rfl)) rfl) (hts _ qw129) (by decide +kernel) ⟨Nat.le_of_ble_eq_true rfl, Nat.le_of_ble_eq_true rfl⟩), (hts _ qw352), trivial⟩ ⟨PRE.blind, PRE.of hE hS hFc hPc hKc hDc⟩ rfl rfl hl.1 rfl (lv_room (Nat.le_of_ble_eq_true rfl)) dX2_meetInBlock_161 ⟨(show (hcX2 p0n (o_8.2.2)) + 0 ≤ (hcX2 p0n (o.2.2)) from by have q0 := gmX2 hg_p0 hgn_p0; omega), (show (3 * (gcX2 p0n (o_8.2.2))) + 0 ≤ (3 * (gcX2 p0n (o.2.2))) from by have q0 := gmX2 hg_p0 hgn_p0; omega)⟩) hS (fun q _ h => hFc q h) hFc (fun r46 u t H locs ht hvm hw hB hz1 hk1 hS => ?_)
              obtain ⟨b1, b2, b3⟩ := hB
              rw [ht] at b1
              obtain ⟨hP, hD, hK⟩ := JOINC (wc := (List.flatten ([] : List va_W))) (wr := (List.flatten ([(oX2 (p0a 0) (st1 (st1 (st1 (st1 (st1 (st1 (st1 (st1 (st1 (st1 (st1 (st1 (st1 (st1 p0a 4 x10) 5 x12) 6 x14) 7 x16) 10 x18) 11 x20) 12 x22) 13 x24) 14 x26) 15 x28) 16 x30) 17 x32) 18 x34) 19 x36) (st1 (st1 (st1 (st1 (st1 (st1 (st1 (st1 (st1 (st1 (st1 (st1 (st1 (st1 p0k 4 z11) 5 z13) 6 z15) 7 z17) 10 z19) 11 z21) 12 z23) 13 z25) 14 z27) 15 z29) 16 z31) 17 z33) 18 z35) 19 z37) (o_8.2.2) p0w_159 p0l_159), (oX1 (p1a 0) p1a p1k p1n p1w p1l), (oX9 (p1a 3) p1_2a p1_2k p1_2n p1_2w)] : List va_W))) (w1 := (List.flatten ([] : List va_W))) (t1 := (List.flatten ([] : List (List (ClassId × FieldType))))) hPx hDx hKx hk1 hFc b1 (va_K.moved hvm.symm b2) b3
              have hP : va_P (dC, dI) cls (List.flatten ([(oX2 (p0a 0) (st1 (st1 (st1 (st1 (st1 (st1 (st1 (st1 (st1 (st1 (st1 (st1 (st1 (st1 p0a 4 x10) 5 x12) 6 x14) 7 x16) 10 x18) 11 x20) 12 x22) 13 x24) 14 x26) 15 x28) 16 x30) 17 x32) 18 x34) 19 x36) (st1 (st1 (st1 (st1 (st1 (st1 (st1 (st1 (st1 (st1 (st1 (st1 (st1 (st1 p0k 4 z11) 5 z13) 6 z15) 7 z17) 10 z19) 11 z21) 12 z23) 13 z25) 14 z27) 15 z29) 16 z31) 17 z33) 18 z35) 19 z37) (o_8.2.2) p0w_159 p0l_159), (oX1 (p1a 0) p1a p1k p1n p1w p1l), (oX9 (p1a 3) p1_2a p1_2k p1_2n p1_2w)] : List va_W)) H := vP_perm (vP_fb hP) (bP (List.Perm.refl _))
              have hD : va_D A (List.flatten ([(oX2 (p0a 0) (st1 (st1 (st1 (st1 (st1 (st1 (st1 (st1 (st1 (st1 (st1 (st1 (st1 (st1 p0a 4 x10) 5 x12) 6 x14) 7 x16) 10 x18) 11 x20) 12 x22) 13 x24) 14 x26) 15 x28) 16 x30) 17 x32) 18 x34) 19 x36) (st1 (st1 (st1 (st1 (st1 (st1 (st1 (st1 (st1 (st1 (st1 (st1 (st1 (st1 p0k 4 z11) 5 z13) 6 z15) 7 z17) 10 z19) 11 z21) 12 z23) 13 z25) 14 z27) 15 z29) 16 z31) 17 z33) 18 z35) 19 z37) (o_8.2.2) p0w_159 p0l_159), (oX1 (p1a 0) p1a p1k p1n p1w p1l), (oX9 (p1a 3) p1_2a p1_2k p1_2n p1_2w)] : List va_W)) := vD_perm (vD_fb hD) (bP (List.Perm.refl _))
              have hK : va_K (dC, dI) cls (List.flatten ([(tX2 (st1 (st1 (st1 (st1 (st1 (st1 (st1 (st1 (st1 (st1 (st1 (st1 (st1 (st1 p0k 4 z11) 5 z13) 6 z15) 7 z17) 10 z19) 11 z21) 12 z23) 13 z25) 14 z27) 15 z29) 16 z31) 17 z33) 18 z35) 19 z37)), (tX1 p1k), (tX9 p1_2k)] : List (List (ClassId × FieldType)))) s := vK_perm (vK_fb hK) (bP (List.Perm.refl _))
              obtain rfl : o_45 = r46 := hw.symm
              have J178 : ∀ (p0w_178 : ST) (p0l_178 : SL) (H : Heap) (locs : List Loc) (ls : Array Slot), (fX2_meetInBlock_J178 (fX2_meetInBlock_L67 p1_2n p1_2w o_8 n_67) v4_67 p0w_178 p0l_178) = some o67 → va_P (dC, dI) cls (List.flatten ([(oX2 (p0a 0) (st1 (st1 (st1 (st1 (st1 (st1 (st1 (st1 (st1 (st1 (st1 (st1 (st1 (st1 p0a 4 x10) 5 x12) 6 x14) 7 x16) 10 x18) 11 x20) 12 x22) 13 x24) 14 x26) 15 x28) 16 x30) 17 x32) 18 x34) 19 x36) (st1 (st1 (st1 (st1 (st1 (st1 (st1 (st1 (st1 (st1 (st1 (st1 (st1 (st1 p0k 4 z11) 5 z13) 6 z15) 7 z17) 10 z19) 11 z21) 12 z23) 13 z25) 14 z27) 15 z29) 16 z31) 17 z33) 18 z35) 19 z37) (o_8.2.2) p0w_178 p0l_178), (oX1 (p1a 0) p1a p1k p1n p1w p1l), (oX9 (p1a 3) p1_2a p1_2k p1_2n p1_2w)] : List va_W)) H → va_D A (List.flatten ([(oX2 (p0a 0) (st1 (st1 (st1 (st1 (st1 (st1 (st1 (st1 (st1 (st1 (st1 (st1 (st1 (st1 p0a 4 x10) 5 x12) 6 x14) 7 x16) 10 x18) 11 x20) 12 x22) 13 x24) 14 x26) 15 x28) 16 x30) 17 x32) 18 x34) 19 x36) (st1 (st1 (st1 (st1 (st1 (st1 (st1 (st1 (st1 (st1 (st1 (st1 (st1 (st1 p0k 4 z11) 5 z13) 6 z15) 7 z17) 10 z19) 11 z21) 12 z23) 13 z25) 14 z27) 15 z29) 16 z31) 17 z33) 18 z35) 19 z37) (o_8.2.2) p0w_178 p0l_178), (oX1 (p1a 0) p1a p1k p1n p1w p1l), (oX9 (p1a 3) p1_2a p1_2k p1_2n p1_2w)] : List va_W)) → va_K (dC, dI) cls (List.flatten ([(tX2 (st1 (st1 (st1 (st1 (st1 (st1 (st1 (st1 (st1 (st1 (st1 (st1 (st1 (st1 p0k 4 z11) 5 z13) 6 z15) 7 z17) 10 z19) 11 z21) 12 z23) 13 z25) 14 z27) 15 z29) 16 z31) 17 z33) 18 z35) 19 z37)), (tX1 p1k), (tX9 p1_2k)] : List (List (ClassId × FieldType)))) s → va_S A s.heap H locs → lv_has ls 7 [(0, .ref (p0a 0)), (3, .ref (p1a 3)), (4, .int v4_67)] → glX2 p0n (o_8.2.2) → W p l e ({ frames := 4, cells := (hcX2 p0n (o.2.2)), slots := (3 * (gcX2 p0n (o.2.2))), locals := 107 } : Room) s m ([.ref (p0a 0), .ref (p1a 0), .int p2] : List Value).toArray below meth c H locs (hcX2 p0n (o_8.2.2)) (3 * (gcX2 p0n (o_8.2.2))) Q (F0 m 178 ls []) := by
                intro p0w_178 p0l_178 H locs ls hrun hP hD hK hS hl hg_p0 
                unfold fX2_meetInBlock_J178 at hrun
                refine lv_iinc (v := (v4_67 + (-1))) (lv' := [(4, .int (v4_67 + (-1))), (0, .ref (p0a 0)), (3, .ref (p1a 3))]) hx hb dX2_meetInBlock_178 hl (k := 2) rfl rfl (by decide) rfl (fun ls hl => ?_)
                refine lv_goto (tgt := 67) hx hb dX2_meetInBlock_181 (by decide) ?_
                exact IH67 (v4_67 + (-1)) p0w_178 p0l_178 o67 _ _ _ hrun hP hD hK hS (lv_sub hl [1, 2, 0] rfl) hg_p0 hk67
              rcases br9 hrun with ⟨hc47, hrun⟩ | ⟨hc47, hrun⟩
              · refine lv_if_eq (tgt := 178) hx hb dX2_meetInBlock_164 (by decide) (fun _ => ?_) (fun c => absurd hc47 c)
                exact J178 p0w_159 p0l_159 _ _ _ hrun hP hD hK hS (lv_sub hl [0, 1, 2] rfl) hg_p0
              · refine lv_if_eq (tgt := 178) hx hb dX2_meetInBlock_164 (by decide) (fun c => absurd c hc47) (fun _ => ?_)
                refine lv_aload_n hx hb dX2_meetInBlock_167 rfl (lv_at hl 0 rfl) ?_
                refine lv_aload_n hx hb dX2_meetInBlock_168 rfl (lv_at hl 1 rfl) ?_
                refine va_get (D := (dC, dI)) (ci := 3) (v := .ref (p1_2a 5)) (C := RX9) (T := TX9) (N := 6) hx hb hts i_X9 hown hK hP 34 rfl rfl 4 (by decide) (hts _ qw707) (fun _ h9 => h9) rfl dX2_meetInBlock_169 ?_
                refine lv_iload hx hb dX2_meetInBlock_172 (lv_at hl 3 rfl) ?_
                obtain ⟨hq48, hrun⟩ := chk9 hrun
                refine va_iald hx hb hK hP 38 35 rfl rfl (ixb_in hq48) dX2_meetInBlock_174 ?_
                obtain ⟨o_49, hc_49, hrun⟩ := bnd9 hrun
                have hPx : va_P (dC, dI) cls ((List.flatten ([(oX2 (p0a 0) (st1 (st1 (st1 (st1 (st1 (st1 (st1 (st1 (st1 (st1 (st1 (st1 (st1 (st1 p0a 4 x10) 5 x12) 6 x14) 7 x16) 10 x18) 11 x20) 12 x22) 13 x24) 14 x26) 15 x28) 16 x30) 17 x32) 18 x34) 19 x36) (st1 (st1 (st1 (st1 (st1 (st1 (st1 (st1 (st1 (st1 (st1 (st1 (st1 (st1 p0k 4 z11) 5 z13) 6 z15) 7 z17) 10 z19) 11 z21) 12 z23) 13 z25) 14 z27) 15 z29) 16 z31) 17 z33) 18 z35) 19 z37) (o_8.2.2) p0w_159 p0l_159)] : List va_W)) ++ (List.flatten ([(oX1 (p1a 0) p1a p1k p1n p1w p1l), (oX9 (p1a 3) p1_2a p1_2k p1_2n p1_2w)] : List va_W))) H := vP_fa (vP_perm hP (bP (List.Perm.refl _)))
                have hDx : va_D A ((List.flatten ([(oX2 (p0a 0) (st1 (st1 (st1 (st1 (st1 (st1 (st1 (st1 (st1 (st1 (st1 (st1 (st1 (st1 p0a 4 x10) 5 x12) 6 x14) 7 x16) 10 x18) 11 x20) 12 x22) 13 x24) 14 x26) 15 x28) 16 x30) 17 x32) 18 x34) 19 x36) (st1 (st1 (st1 (st1 (st1 (st1 (st1 (st1 (st1 (st1 (st1 (st1 (st1 (st1 p0k 4 z11) 5 z13) 6 z15) 7 z17) 10 z19) 11 z21) 12 z23) 13 z25) 14 z27) 15 z29) 16 z31) 17 z33) 18 z35) 19 z37) (o_8.2.2) p0w_159 p0l_159)] : List va_W)) ++ (List.flatten ([(oX1 (p1a 0) p1a p1k p1n p1w p1l), (oX9 (p1a 3) p1_2a p1_2k p1_2n p1_2w)] : List va_W))) := vD_fa (vD_perm hD (bP (List.Perm.refl _)))
                have hKx : va_K (dC, dI) cls ((List.flatten ([(tX2 (st1 (st1 (st1 (st1 (st1 (st1 (st1 (st1 (st1 (st1 (st1 (st1 (st1 (st1 p0k 4 z11) 5 z13) 6 z15) 7 z17) 10 z19) 11 z21) 12 z23) 13 z25) 14 z27) 15 z29) 16 z31) 17 z33) 18 z35) 19 z37))] : List (List (ClassId × FieldType)))) ++ (List.flatten ([(tX1 p1k), (tX9 p1_2k)] : List (List (ClassId × FieldType))))) s := vK_fa (vK_perm hK (bP (List.Perm.refl _)))
                have hPc := vP_l hPx
                have hDc := vD_l hDx
                have hKc := vK_l hKx
                have hFc := vfree hDx hS hA
                refine va_callv (va_runV (As := [.int (p1_2w 5 (nn (p0w_67 10 (nn v4_67))))]) (rest := []) ⟨hx, hb, hml, hown, hts⟩ (kX2_addLive l dC dI (p0a := (st0 (p0a 0) (st1 (st1 (st1 (st1 (st1 (st1 (st1 (st1 (st1 (st1 (st1 (st1 (st1 (st1 p0a 4 x10) 5 x12) 6 x14) 7 x16) 10 x18) 11 x20) 12 x22) 13 x24) 14 x26) 15 x28) 16 x30) 17 x32) 18 x34) 19 x36))) (p0k := (st1 (st1 (st1 (st1 (st1 (st1 (st1 (st1 (st1 (st1 (st1 (st1 (st1 (st1 p0k 4 z11) 5 z13) 6 z15) 7 z17) 10 z19) 11 z21) 12 z23) 13 z25) 14 z27) 15 z29) 16 z31) 17 z33) 18 z35) 19 z37)) (p0n := (o_8.2.2)) (p0w := p0w_159) (p0l := p0l_159) (p1 := (p1_2w 5 (nn (p0w_67 10 (nn v4_67))))) (sz := _) (o := o_49) (hrun := hc_49)) (cwV 1 hts (gi_V qw749 qw750 qw751 qw694 (gi_z qw748)) rfl rfl rfl (by decide +kernel) ⟨Nat.le_of_ble_eq_true rfl, Nat.le_of_ble_eq_true rfl⟩) ⟨PRE.blind, va_recv hKc hPc (ci := 9) (q0 := 0) rfl rfl, PRE.of hE hS hFc hPc hKc hDc⟩ rfl rfl hl.1 rfl (lv_room (Nat.le_of_ble_eq_true rfl)) dX2_meetInBlock_175 ⟨(show (hcX2 p0n (o_8.2.2)) + 0 ≤ (hcX2 p0n (o.2.2)) from by have q0 := gmX2 hg_p0 hgn_p0; omega), (show (3 * (gcX2 p0n (o_8.2.2))) + 0 ≤ (3 * (gcX2 p0n (o.2.2))) from by have q0 := gmX2 hg_p0 hgn_p0; omega)⟩) hS (fun q _ h => hFc q h) hFc (fun u t H locs ht hvm hw hB hz1 hk1 hS => ?_)
                obtain ⟨b1, b2, b3⟩ := hB
                rw [ht] at b1
                obtain ⟨hP, hD, hK⟩ := JOINC (wc := (List.flatten ([(oX2 (p0a 0) (st1 (st1 (st1 (st1 (st1 (st1 (st1 (st1 (st1 (st1 (st1 (st1 (st1 (st1 p0a 4 x10) 5 x12) 6 x14) 7 x16) 10 x18) 11 x20) 12 x22) 13 x24) 14 x26) 15 x28) 16 x30) 17 x32) 18 x34) 19 x36) (st1 (st1 (st1 (st1 (st1 (st1 (st1 (st1 (st1 (st1 (st1 (st1 (st1 (st1 p0k 4 z11) 5 z13) 6 z15) 7 z17) 10 z19) 11 z21) 12 z23) 13 z25) 14 z27) 15 z29) 16 z31) 17 z33) 18 z35) 19 z37) (o_8.2.2) p0w_159 p0l_159)] : List va_W))) (wr := (List.flatten ([(oX1 (p1a 0) p1a p1k p1n p1w p1l), (oX9 (p1a 3) p1_2a p1_2k p1_2n p1_2w)] : List va_W))) (w1 := (List.flatten ([(oX2 (p0a 0) (st1 (st1 (st1 (st1 (st1 (st1 (st1 (st1 (st1 (st1 (st1 (st1 (st1 (st1 p0a 4 x10) 5 x12) 6 x14) 7 x16) 10 x18) 11 x20) 12 x22) 13 x24) 14 x26) 15 x28) 16 x30) 17 x32) 18 x34) 19 x36) (st1 (st1 (st1 (st1 (st1 (st1 (st1 (st1 (st1 (st1 (st1 (st1 (st1 (st1 p0k 4 z11) 5 z13) 6 z15) 7 z17) 10 z19) 11 z21) 12 z23) 13 z25) 14 z27) 15 z29) 16 z31) 17 z33) 18 z35) 19 z37) (o_8.2.2) (o_49.1) (o_49.2))] : List va_W))) (t1 := (List.flatten ([(tX2 (st1 (st1 (st1 (st1 (st1 (st1 (st1 (st1 (st1 (st1 (st1 (st1 (st1 (st1 p0k 4 z11) 5 z13) 6 z15) 7 z17) 10 z19) 11 z21) 12 z23) 13 z25) 14 z27) 15 z29) 16 z31) 17 z33) 18 z35) 19 z37))] : List (List (ClassId × FieldType))))) hPx hDx hKx hk1 hFc b1 (va_K.moved hvm.symm b2) b3
                have hP : va_P (dC, dI) cls (List.flatten ([(oX2 (p0a 0) (st1 (st1 (st1 (st1 (st1 (st1 (st1 (st1 (st1 (st1 (st1 (st1 (st1 (st1 p0a 4 x10) 5 x12) 6 x14) 7 x16) 10 x18) 11 x20) 12 x22) 13 x24) 14 x26) 15 x28) 16 x30) 17 x32) 18 x34) 19 x36) (st1 (st1 (st1 (st1 (st1 (st1 (st1 (st1 (st1 (st1 (st1 (st1 (st1 (st1 p0k 4 z11) 5 z13) 6 z15) 7 z17) 10 z19) 11 z21) 12 z23) 13 z25) 14 z27) 15 z29) 16 z31) 17 z33) 18 z35) 19 z37) (o_8.2.2) (o_49.1) (o_49.2)), (oX1 (p1a 0) p1a p1k p1n p1w p1l), (oX9 (p1a 3) p1_2a p1_2k p1_2n p1_2w)] : List va_W)) H := vP_perm (vP_fb hP) (bP (List.Perm.refl _))
                have hD : va_D A (List.flatten ([(oX2 (p0a 0) (st1 (st1 (st1 (st1 (st1 (st1 (st1 (st1 (st1 (st1 (st1 (st1 (st1 (st1 p0a 4 x10) 5 x12) 6 x14) 7 x16) 10 x18) 11 x20) 12 x22) 13 x24) 14 x26) 15 x28) 16 x30) 17 x32) 18 x34) 19 x36) (st1 (st1 (st1 (st1 (st1 (st1 (st1 (st1 (st1 (st1 (st1 (st1 (st1 (st1 p0k 4 z11) 5 z13) 6 z15) 7 z17) 10 z19) 11 z21) 12 z23) 13 z25) 14 z27) 15 z29) 16 z31) 17 z33) 18 z35) 19 z37) (o_8.2.2) (o_49.1) (o_49.2)), (oX1 (p1a 0) p1a p1k p1n p1w p1l), (oX9 (p1a 3) p1_2a p1_2k p1_2n p1_2w)] : List va_W)) := vD_perm (vD_fb hD) (bP (List.Perm.refl _))
                have hK : va_K (dC, dI) cls (List.flatten ([(tX2 (st1 (st1 (st1 (st1 (st1 (st1 (st1 (st1 (st1 (st1 (st1 (st1 (st1 (st1 p0k 4 z11) 5 z13) 6 z15) 7 z17) 10 z19) 11 z21) 12 z23) 13 z25) 14 z27) 15 z29) 16 z31) 17 z33) 18 z35) 19 z37)), (tX1 p1k), (tX9 p1_2k)] : List (List (ClassId × FieldType)))) s := vK_perm (vK_fb hK) (bP (List.Perm.refl _))
                exact J178 (o_49.1) (o_49.2) _ _ _ hrun hP hD hK hS (lv_sub hl [0, 1, 2] rfl) hg_p0
            rcases br9 hrun with ⟨hc50, hrun⟩ | ⟨hc50, hrun⟩
            · refine lv_if_eq (tgt := 159) hx hb dX2_meetInBlock_145 (by decide) (fun _ => ?_) (fun c => absurd hc50 c)
              exact J159 p0w_140 p0l_140 _ _ _ hrun hP hD hK hS (lv_sub hl [0, 1, 2, 3, 4] rfl) hg_p0
            · refine lv_if_eq (tgt := 159) hx hb dX2_meetInBlock_145 (by decide) (fun c => absurd c hc50) (fun _ => ?_)
              refine lv_aload_n hx hb dX2_meetInBlock_148 rfl (lv_at hl 0 rfl) ?_
              refine lv_aload_n hx hb dX2_meetInBlock_149 rfl (lv_at hl 1 rfl) ?_
              refine va_get (D := (dC, dI)) (ci := 3) (v := .ref (p1_2a 4)) (C := RX9) (T := TX9) (N := 6) hx hb hts i_X9 hown hK hP 34 rfl rfl 3 (by decide) (hts _ qw716) (fun _ h9 => h9) rfl dX2_meetInBlock_150 ?_
              refine lv_iload hx hb dX2_meetInBlock_153 (lv_at hl 3 rfl) ?_
              obtain ⟨hq51, hrun⟩ := chk9 hrun
              refine va_iald hx hb hK hP 37 34 rfl rfl (ixb_in hq51) dX2_meetInBlock_155 ?_
              obtain ⟨o_52, hc_52, hrun⟩ := bnd9 hrun
              have hPx : va_P (dC, dI) cls ((List.flatten ([(oX2 (p0a 0) (st1 (st1 (st1 (st1 (st1 (st1 (st1 (st1 (st1 (st1 (st1 (st1 (st1 (st1 p0a 4 x10) 5 x12) 6 x14) 7 x16) 10 x18) 11 x20) 12 x22) 13 x24) 14 x26) 15 x28) 16 x30) 17 x32) 18 x34) 19 x36) (st1 (st1 (st1 (st1 (st1 (st1 (st1 (st1 (st1 (st1 (st1 (st1 (st1 (st1 p0k 4 z11) 5 z13) 6 z15) 7 z17) 10 z19) 11 z21) 12 z23) 13 z25) 14 z27) 15 z29) 16 z31) 17 z33) 18 z35) 19 z37) (o_8.2.2) p0w_140 p0l_140)] : List va_W)) ++ (List.flatten ([(oX1 (p1a 0) p1a p1k p1n p1w p1l), (oX9 (p1a 3) p1_2a p1_2k p1_2n p1_2w)] : List va_W))) H := vP_fa (vP_perm hP (bP (List.Perm.refl _)))
              have hDx : va_D A ((List.flatten ([(oX2 (p0a 0) (st1 (st1 (st1 (st1 (st1 (st1 (st1 (st1 (st1 (st1 (st1 (st1 (st1 (st1 p0a 4 x10) 5 x12) 6 x14) 7 x16) 10 x18) 11 x20) 12 x22) 13 x24) 14 x26) 15 x28) 16 x30) 17 x32) 18 x34) 19 x36) (st1 (st1 (st1 (st1 (st1 (st1 (st1 (st1 (st1 (st1 (st1 (st1 (st1 (st1 p0k 4 z11) 5 z13) 6 z15) 7 z17) 10 z19) 11 z21) 12 z23) 13 z25) 14 z27) 15 z29) 16 z31) 17 z33) 18 z35) 19 z37) (o_8.2.2) p0w_140 p0l_140)] : List va_W)) ++ (List.flatten ([(oX1 (p1a 0) p1a p1k p1n p1w p1l), (oX9 (p1a 3) p1_2a p1_2k p1_2n p1_2w)] : List va_W))) := vD_fa (vD_perm hD (bP (List.Perm.refl _)))
              have hKx : va_K (dC, dI) cls ((List.flatten ([(tX2 (st1 (st1 (st1 (st1 (st1 (st1 (st1 (st1 (st1 (st1 (st1 (st1 (st1 (st1 p0k 4 z11) 5 z13) 6 z15) 7 z17) 10 z19) 11 z21) 12 z23) 13 z25) 14 z27) 15 z29) 16 z31) 17 z33) 18 z35) 19 z37))] : List (List (ClassId × FieldType)))) ++ (List.flatten ([(tX1 p1k), (tX9 p1_2k)] : List (List (ClassId × FieldType))))) s := vK_fa (vK_perm hK (bP (List.Perm.refl _)))
              have hPc := vP_l hPx
              have hDc := vD_l hDx
              have hKc := vK_l hKx
              have hFc := vfree hDx hS hA
              refine va_callv (va_runV (As := [.int (p1_2w 4 (nn (p0w_67 10 (nn v4_67))))]) (rest := []) ⟨hx, hb, hml, hown, hts⟩ (kX2_addLive l dC dI (p0a := (st0 (p0a 0) (st1 (st1 (st1 (st1 (st1 (st1 (st1 (st1 (st1 (st1 (st1 (st1 (st1 (st1 p0a 4 x10) 5 x12) 6 x14) 7 x16) 10 x18) 11 x20) 12 x22) 13 x24) 14 x26) 15 x28) 16 x30) 17 x32) 18 x34) 19 x36))) (p0k := (st1 (st1 (st1 (st1 (st1 (st1 (st1 (st1 (st1 (st1 (st1 (st1 (st1 (st1 p0k 4 z11) 5 z13) 6 z15) 7 z17) 10 z19) 11 z21) 12 z23) 13 z25) 14 z27) 15 z29) 16 z31) 17 z33) 18 z35) 19 z37)) (p0n := (o_8.2.2)) (p0w := p0w_140) (p0l := p0l_140) (p1 := (p1_2w 4 (nn (p0w_67 10 (nn v4_67))))) (sz := _) (o := o_52) (hrun := hc_52)) (cwV 1 hts (gi_V qw749 qw750 qw751 qw694 (gi_z qw748)) rfl rfl rfl (by decide +kernel) ⟨Nat.le_of_ble_eq_true rfl, Nat.le_of_ble_eq_true rfl⟩) ⟨PRE.blind, va_recv hKc hPc (ci := 9) (q0 := 0) rfl rfl, PRE.of hE hS hFc hPc hKc hDc⟩ rfl rfl hl.1 rfl (lv_room (Nat.le_of_ble_eq_true rfl)) dX2_meetInBlock_156 ⟨(show (hcX2 p0n (o_8.2.2)) + 0 ≤ (hcX2 p0n (o.2.2)) from by have q0 := gmX2 hg_p0 hgn_p0; omega), (show (3 * (gcX2 p0n (o_8.2.2))) + 0 ≤ (3 * (gcX2 p0n (o.2.2))) from by have q0 := gmX2 hg_p0 hgn_p0; omega)⟩) hS (fun q _ h => hFc q h) hFc (fun u t H locs ht hvm hw hB hz1 hk1 hS => ?_)
              obtain ⟨b1, b2, b3⟩ := hB
              rw [ht] at b1
              obtain ⟨hP, hD, hK⟩ := JOINC (wc := (List.flatten ([(oX2 (p0a 0) (st1 (st1 (st1 (st1 (st1 (st1 (st1 (st1 (st1 (st1 (st1 (st1 (st1 (st1 p0a 4 x10) 5 x12) 6 x14) 7 x16) 10 x18) 11 x20) 12 x22) 13 x24) 14 x26) 15 x28) 16 x30) 17 x32) 18 x34) 19 x36) (st1 (st1 (st1 (st1 (st1 (st1 (st1 (st1 (st1 (st1 (st1 (st1 (st1 (st1 p0k 4 z11) 5 z13) 6 z15) 7 z17) 10 z19) 11 z21) 12 z23) 13 z25) 14 z27) 15 z29) 16 z31) 17 z33) 18 z35) 19 z37) (o_8.2.2) p0w_140 p0l_140)] : List va_W))) (wr := (List.flatten ([(oX1 (p1a 0) p1a p1k p1n p1w p1l), (oX9 (p1a 3) p1_2a p1_2k p1_2n p1_2w)] : List va_W))) (w1 := (List.flatten ([(oX2 (p0a 0) (st1 (st1 (st1 (st1 (st1 (st1 (st1 (st1 (st1 (st1 (st1 (st1 (st1 (st1 p0a 4 x10) 5 x12) 6 x14) 7 x16) 10 x18) 11 x20) 12 x22) 13 x24) 14 x26) 15 x28) 16 x30) 17 x32) 18 x34) 19 x36) (st1 (st1 (st1 (st1 (st1 (st1 (st1 (st1 (st1 (st1 (st1 (st1 (st1 (st1 p0k 4 z11) 5 z13) 6 z15) 7 z17) 10 z19) 11 z21) 12 z23) 13 z25) 14 z27) 15 z29) 16 z31) 17 z33) 18 z35) 19 z37) (o_8.2.2) (o_52.1) (o_52.2))] : List va_W))) (t1 := (List.flatten ([(tX2 (st1 (st1 (st1 (st1 (st1 (st1 (st1 (st1 (st1 (st1 (st1 (st1 (st1 (st1 p0k 4 z11) 5 z13) 6 z15) 7 z17) 10 z19) 11 z21) 12 z23) 13 z25) 14 z27) 15 z29) 16 z31) 17 z33) 18 z35) 19 z37))] : List (List (ClassId × FieldType))))) hPx hDx hKx hk1 hFc b1 (va_K.moved hvm.symm b2) b3
              have hP : va_P (dC, dI) cls (List.flatten ([(oX2 (p0a 0) (st1 (st1 (st1 (st1 (st1 (st1 (st1 (st1 (st1 (st1 (st1 (st1 (st1 (st1 p0a 4 x10) 5 x12) 6 x14) 7 x16) 10 x18) 11 x20) 12 x22) 13 x24) 14 x26) 15 x28) 16 x30) 17 x32) 18 x34) 19 x36) (st1 (st1 (st1 (st1 (st1 (st1 (st1 (st1 (st1 (st1 (st1 (st1 (st1 (st1 p0k 4 z11) 5 z13) 6 z15) 7 z17) 10 z19) 11 z21) 12 z23) 13 z25) 14 z27) 15 z29) 16 z31) 17 z33) 18 z35) 19 z37) (o_8.2.2) (o_52.1) (o_52.2)), (oX1 (p1a 0) p1a p1k p1n p1w p1l), (oX9 (p1a 3) p1_2a p1_2k p1_2n p1_2w)] : List va_W)) H := vP_perm (vP_fb hP) (bP (List.Perm.refl _))
              have hD : va_D A (List.flatten ([(oX2 (p0a 0) (st1 (st1 (st1 (st1 (st1 (st1 (st1 (st1 (st1 (st1 (st1 (st1 (st1 (st1 p0a 4 x10) 5 x12) 6 x14) 7 x16) 10 x18) 11 x20) 12 x22) 13 x24) 14 x26) 15 x28) 16 x30) 17 x32) 18 x34) 19 x36) (st1 (st1 (st1 (st1 (st1 (st1 (st1 (st1 (st1 (st1 (st1 (st1 (st1 (st1 p0k 4 z11) 5 z13) 6 z15) 7 z17) 10 z19) 11 z21) 12 z23) 13 z25) 14 z27) 15 z29) 16 z31) 17 z33) 18 z35) 19 z37) (o_8.2.2) (o_52.1) (o_52.2)), (oX1 (p1a 0) p1a p1k p1n p1w p1l), (oX9 (p1a 3) p1_2a p1_2k p1_2n p1_2w)] : List va_W)) := vD_perm (vD_fb hD) (bP (List.Perm.refl _))
              have hK : va_K (dC, dI) cls (List.flatten ([(tX2 (st1 (st1 (st1 (st1 (st1 (st1 (st1 (st1 (st1 (st1 (st1 (st1 (st1 (st1 p0k 4 z11) 5 z13) 6 z15) 7 z17) 10 z19) 11 z21) 12 z23) 13 z25) 14 z27) 15 z29) 16 z31) 17 z33) 18 z35) 19 z37)), (tX1 p1k), (tX9 p1_2k)] : List (List (ClassId × FieldType)))) s := vK_perm (vK_fb hK) (bP (List.Perm.refl _))
              exact J159 (o_52.1) (o_52.2) _ _ _ hrun hP hD hK hS (lv_sub hl [0, 1, 2, 3, 4] rfl) hg_p0
          rcases br9 hrun with ⟨hc53, hrun⟩ | ⟨hc53, hrun⟩
          · refine lv_if_lt (tgt := 140) hx hb dX2_meetInBlock_97 (by decide) (fun _ => ?_) (fun c => absurd hc53 c)
            exact J140 p0w_67 p0l_67 _ _ _ hrun hP hD hK hS (lv_sub hl [2, 3, 4, 1, 0] rfl) hg_p0
          · refine lv_if_lt (tgt := 140) hx hb dX2_meetInBlock_97 (by decide) (fun c => absurd c hc53) (fun _ => ?_)
            refine lv_aload_n hx hb dX2_meetInBlock_100 rfl (lv_at hl 2 rfl) ?_
            refine lv_aload_n hx hb dX2_meetInBlock_101 rfl (lv_at hl 3 rfl) ?_
            refine va_get (D := (dC, dI)) (ci := 3) (v := .ref (p1_2a 3)) (C := RX9) (T := TX9) (N := 6) hx hb hts i_X9 hown hK hP 34 rfl rfl 2 (by decide) (hts _ qw701) (fun _ h9 => h9) rfl dX2_meetInBlock_102 ?_
            refine lv_iload hx hb dX2_meetInBlock_105 (lv_at hl 1 rfl) ?_
            obtain ⟨hq54, hrun⟩ := chk9 hrun
            refine va_iald hx hb hK hP 36 33 rfl rfl (ixb_in hq54) dX2_meetInBlock_107 ?_
            refine lv_iload hx hb dX2_meetInBlock_108 (lv_at hl 0 rfl) ?_
            refine lv_bipush (v := 25) hx hb dX2_meetInBlock_110 (by decide) ?_
            have J126 : ∀ (y0_126 : Int32) (y1_126 : Int32) (H : Heap) (locs : List Loc) (ls : Array Slot), (fX2_meetInBlock_J126 (fX2_meetInBlock_L67 p1_2n p1_2w o_8 n_67) p1_2n p1_2w o_8 v4_67 p0w_67 p0l_67 y0_126 y1_126) = some o67 → va_P (dC, dI) cls (List.flatten ([(oX2 (p0a 0) (st1 (st1 (st1 (st1 (st1 (st1 (st1 (st1 (st1 (st1 (st1 (st1 (st1 (st1 p0a 4 x10) 5 x12) 6 x14) 7 x16) 10 x18) 11 x20) 12 x22) 13 x24) 14 x26) 15 x28) 16 x30) 17 x32) 18 x34) 19 x36) (st1 (st1 (st1 (st1 (st1 (st1 (st1 (st1 (st1 (st1 (st1 (st1 (st1 (st1 p0k 4 z11) 5 z13) 6 z15) 7 z17) 10 z19) 11 z21) 12 z23) 13 z25) 14 z27) 15 z29) 16 z31) 17 z33) 18 z35) 19 z37) (o_8.2.2) p0w_67 p0l_67), (oX1 (p1a 0) p1a p1k p1n p1w p1l), (oX9 (p1a 3) p1_2a p1_2k p1_2n p1_2w)] : List va_W)) H → va_D A (List.flatten ([(oX2 (p0a 0) (st1 (st1 (st1 (st1 (st1 (st1 (st1 (st1 (st1 (st1 (st1 (st1 (st1 (st1 p0a 4 x10) 5 x12) 6 x14) 7 x16) 10 x18) 11 x20) 12 x22) 13 x24) 14 x26) 15 x28) 16 x30) 17 x32) 18 x34) 19 x36) (st1 (st1 (st1 (st1 (st1 (st1 (st1 (st1 (st1 (st1 (st1 (st1 (st1 (st1 p0k 4 z11) 5 z13) 6 z15) 7 z17) 10 z19) 11 z21) 12 z23) 13 z25) 14 z27) 15 z29) 16 z31) 17 z33) 18 z35) 19 z37) (o_8.2.2) p0w_67 p0l_67), (oX1 (p1a 0) p1a p1k p1n p1w p1l), (oX9 (p1a 3) p1_2a p1_2k p1_2n p1_2w)] : List va_W)) → va_K (dC, dI) cls (List.flatten ([(tX2 (st1 (st1 (st1 (st1 (st1 (st1 (st1 (st1 (st1 (st1 (st1 (st1 (st1 (st1 p0k 4 z11) 5 z13) 6 z15) 7 z17) 10 z19) 11 z21) 12 z23) 13 z25) 14 z27) 15 z29) 16 z31) 17 z33) 18 z35) 19 z37)), (tX1 p1k), (tX9 p1_2k)] : List (List (ClassId × FieldType)))) s → va_S A s.heap H locs → lv_has ls 7 [(0, .ref (p0a 0)), (3, .ref (p1a 3)), (4, .int v4_67), (5, .int (p0w_67 10 (nn v4_67))), (6, .int (p1_2w 2 (nn (p0w_67 10 (nn v4_67)))))] → glX2 p0n (o_8.2.2) → W p l e ({ frames := 4, cells := (hcX2 p0n (o.2.2)), slots := (3 * (gcX2 p0n (o.2.2))), locals := 107 } : Room) s m ([.ref (p0a 0), .ref (p1a 0), .int p2] : List Value).toArray below meth c H locs (hcX2 p0n (o_8.2.2)) (3 * (gcX2 p0n (o_8.2.2))) Q (F0 m 126 ls [.int y0_126, .int y1_126, .ref (p0a 0)]) := by
              intro y0_126 y1_126 H locs ls hrun hP hD hK hS hl hg_p0 
              unfold fX2_meetInBlock_J126 at hrun
              obtain ⟨o_55, hc_55, hrun⟩ := bnd9 hrun
              have hPx : va_P (dC, dI) cls ((List.flatten ([(oX2 (p0a 0) (st1 (st1 (st1 (st1 (st1 (st1 (st1 (st1 (st1 (st1 (st1 (st1 (st1 (st1 p0a 4 x10) 5 x12) 6 x14) 7 x16) 10 x18) 11 x20) 12 x22) 13 x24) 14 x26) 15 x28) 16 x30) 17 x32) 18 x34) 19 x36) (st1 (st1 (st1 (st1 (st1 (st1 (st1 (st1 (st1 (st1 (st1 (st1 (st1 (st1 p0k 4 z11) 5 z13) 6 z15) 7 z17) 10 z19) 11 z21) 12 z23) 13 z25) 14 z27) 15 z29) 16 z31) 17 z33) 18 z35) 19 z37) (o_8.2.2) p0w_67 p0l_67)] : List va_W)) ++ (List.flatten ([(oX1 (p1a 0) p1a p1k p1n p1w p1l), (oX9 (p1a 3) p1_2a p1_2k p1_2n p1_2w)] : List va_W))) H := vP_fa (vP_perm hP (bP (List.Perm.refl _)))
              have hDx : va_D A ((List.flatten ([(oX2 (p0a 0) (st1 (st1 (st1 (st1 (st1 (st1 (st1 (st1 (st1 (st1 (st1 (st1 (st1 (st1 p0a 4 x10) 5 x12) 6 x14) 7 x16) 10 x18) 11 x20) 12 x22) 13 x24) 14 x26) 15 x28) 16 x30) 17 x32) 18 x34) 19 x36) (st1 (st1 (st1 (st1 (st1 (st1 (st1 (st1 (st1 (st1 (st1 (st1 (st1 (st1 p0k 4 z11) 5 z13) 6 z15) 7 z17) 10 z19) 11 z21) 12 z23) 13 z25) 14 z27) 15 z29) 16 z31) 17 z33) 18 z35) 19 z37) (o_8.2.2) p0w_67 p0l_67)] : List va_W)) ++ (List.flatten ([(oX1 (p1a 0) p1a p1k p1n p1w p1l), (oX9 (p1a 3) p1_2a p1_2k p1_2n p1_2w)] : List va_W))) := vD_fa (vD_perm hD (bP (List.Perm.refl _)))
              have hKx : va_K (dC, dI) cls ((List.flatten ([(tX2 (st1 (st1 (st1 (st1 (st1 (st1 (st1 (st1 (st1 (st1 (st1 (st1 (st1 (st1 p0k 4 z11) 5 z13) 6 z15) 7 z17) 10 z19) 11 z21) 12 z23) 13 z25) 14 z27) 15 z29) 16 z31) 17 z33) 18 z35) 19 z37))] : List (List (ClassId × FieldType)))) ++ (List.flatten ([(tX1 p1k), (tX9 p1_2k)] : List (List (ClassId × FieldType))))) s := vK_fa (vK_perm hK (bP (List.Perm.refl _)))
              have hPc := vP_l hPx
              have hDc := vD_l hDx
              have hKc := vK_l hKx
              have hFc := vfree hDx hS hA
              refine va_callv (va_runV (As := [.int y1_126, .int y0_126]) (rest := []) ⟨hx, hb, hml, hown, hts⟩ (kX2_meet l dC dI (p0a := (st0 (p0a 0) (st1 (st1 (st1 (st1 (st1 (st1 (st1 (st1 (st1 (st1 (st1 (st1 (st1 (st1 p0a 4 x10) 5 x12) 6 x14) 7 x16) 10 x18) 11 x20) 12 x22) 13 x24) 14 x26) 15 x28) 16 x30) 17 x32) 18 x34) 19 x36))) (p0k := (st1 (st1 (st1 (st1 (st1 (st1 (st1 (st1 (st1 (st1 (st1 (st1 (st1 (st1 p0k 4 z11) 5 z13) 6 z15) 7 z17) 10 z19) 11 z21) 12 z23) 13 z25) 14 z27) 15 z29) 16 z31) 17 z33) 18 z35) 19 z37)) (p0n := (o_8.2.2)) (p0w := p0w_67) (p0l := p0l_67) (p1 := y1_126) (p2 := y0_126) (sz := _) (o := o_55) (hrun := hc_55)) (cwV 2 hts (gi_V qw757 qw758 qw759 qw694 (gi_z qw756)) rfl rfl rfl (by decide +kernel) ⟨Nat.le_of_ble_eq_true rfl, Nat.le_of_ble_eq_true rfl⟩) ⟨PRE.blind, va_recv hKc hPc (ci := 9) (q0 := 0) rfl rfl, PRE.of hE hS hFc hPc hKc hDc⟩ rfl rfl hl.1 rfl (lv_room (Nat.le_of_ble_eq_true rfl)) dX2_meetInBlock_126 ⟨(show (hcX2 p0n (o_8.2.2)) + 0 ≤ (hcX2 p0n (o.2.2)) from by have q0 := gmX2 hg_p0 hgn_p0; omega), (show (3 * (gcX2 p0n (o_8.2.2))) + 0 ≤ (3 * (gcX2 p0n (o.2.2))) from by have q0 := gmX2 hg_p0 hgn_p0; omega)⟩) hS (fun q _ h => hFc q h) hFc (fun u t H locs ht hvm hw hB hz1 hk1 hS => ?_)
              obtain ⟨b1, b2, b3⟩ := hB
              rw [ht] at b1
              obtain ⟨hP, hD, hK⟩ := JOINC (wc := (List.flatten ([(oX2 (p0a 0) (st1 (st1 (st1 (st1 (st1 (st1 (st1 (st1 (st1 (st1 (st1 (st1 (st1 (st1 p0a 4 x10) 5 x12) 6 x14) 7 x16) 10 x18) 11 x20) 12 x22) 13 x24) 14 x26) 15 x28) 16 x30) 17 x32) 18 x34) 19 x36) (st1 (st1 (st1 (st1 (st1 (st1 (st1 (st1 (st1 (st1 (st1 (st1 (st1 (st1 p0k 4 z11) 5 z13) 6 z15) 7 z17) 10 z19) 11 z21) 12 z23) 13 z25) 14 z27) 15 z29) 16 z31) 17 z33) 18 z35) 19 z37) (o_8.2.2) p0w_67 p0l_67)] : List va_W))) (wr := (List.flatten ([(oX1 (p1a 0) p1a p1k p1n p1w p1l), (oX9 (p1a 3) p1_2a p1_2k p1_2n p1_2w)] : List va_W))) (w1 := (List.flatten ([(oX2 (p0a 0) (st1 (st1 (st1 (st1 (st1 (st1 (st1 (st1 (st1 (st1 (st1 (st1 (st1 (st1 p0a 4 x10) 5 x12) 6 x14) 7 x16) 10 x18) 11 x20) 12 x22) 13 x24) 14 x26) 15 x28) 16 x30) 17 x32) 18 x34) 19 x36) (st1 (st1 (st1 (st1 (st1 (st1 (st1 (st1 (st1 (st1 (st1 (st1 (st1 (st1 p0k 4 z11) 5 z13) 6 z15) 7 z17) 10 z19) 11 z21) 12 z23) 13 z25) 14 z27) 15 z29) 16 z31) 17 z33) 18 z35) 19 z37) (o_8.2.2) (o_55.1) (o_55.2))] : List va_W))) (t1 := (List.flatten ([(tX2 (st1 (st1 (st1 (st1 (st1 (st1 (st1 (st1 (st1 (st1 (st1 (st1 (st1 (st1 p0k 4 z11) 5 z13) 6 z15) 7 z17) 10 z19) 11 z21) 12 z23) 13 z25) 14 z27) 15 z29) 16 z31) 17 z33) 18 z35) 19 z37))] : List (List (ClassId × FieldType))))) hPx hDx hKx hk1 hFc b1 (va_K.moved hvm.symm b2) b3
              have hP : va_P (dC, dI) cls (List.flatten ([(oX2 (p0a 0) (st1 (st1 (st1 (st1 (st1 (st1 (st1 (st1 (st1 (st1 (st1 (st1 (st1 (st1 p0a 4 x10) 5 x12) 6 x14) 7 x16) 10 x18) 11 x20) 12 x22) 13 x24) 14 x26) 15 x28) 16 x30) 17 x32) 18 x34) 19 x36) (st1 (st1 (st1 (st1 (st1 (st1 (st1 (st1 (st1 (st1 (st1 (st1 (st1 (st1 p0k 4 z11) 5 z13) 6 z15) 7 z17) 10 z19) 11 z21) 12 z23) 13 z25) 14 z27) 15 z29) 16 z31) 17 z33) 18 z35) 19 z37) (o_8.2.2) (o_55.1) (o_55.2)), (oX1 (p1a 0) p1a p1k p1n p1w p1l), (oX9 (p1a 3) p1_2a p1_2k p1_2n p1_2w)] : List va_W)) H := vP_perm (vP_fb hP) (bP (List.Perm.refl _))
              have hD : va_D A (List.flatten ([(oX2 (p0a 0) (st1 (st1 (st1 (st1 (st1 (st1 (st1 (st1 (st1 (st1 (st1 (st1 (st1 (st1 p0a 4 x10) 5 x12) 6 x14) 7 x16) 10 x18) 11 x20) 12 x22) 13 x24) 14 x26) 15 x28) 16 x30) 17 x32) 18 x34) 19 x36) (st1 (st1 (st1 (st1 (st1 (st1 (st1 (st1 (st1 (st1 (st1 (st1 (st1 (st1 p0k 4 z11) 5 z13) 6 z15) 7 z17) 10 z19) 11 z21) 12 z23) 13 z25) 14 z27) 15 z29) 16 z31) 17 z33) 18 z35) 19 z37) (o_8.2.2) (o_55.1) (o_55.2)), (oX1 (p1a 0) p1a p1k p1n p1w p1l), (oX9 (p1a 3) p1_2a p1_2k p1_2n p1_2w)] : List va_W)) := vD_perm (vD_fb hD) (bP (List.Perm.refl _))
              have hK : va_K (dC, dI) cls (List.flatten ([(tX2 (st1 (st1 (st1 (st1 (st1 (st1 (st1 (st1 (st1 (st1 (st1 (st1 (st1 (st1 p0k 4 z11) 5 z13) 6 z15) 7 z17) 10 z19) 11 z21) 12 z23) 13 z25) 14 z27) 15 z29) 16 z31) 17 z33) 18 z35) 19 z37)), (tX1 p1k), (tX9 p1_2k)] : List (List (ClassId × FieldType)))) s := vK_perm (vK_fb hK) (bP (List.Perm.refl _))
              refine lv_aload_n hx hb dX2_meetInBlock_129 rfl (lv_at hl 0 rfl) ?_
              refine lv_aload_n hx hb dX2_meetInBlock_130 rfl (lv_at hl 1 rfl) ?_
              refine va_get (D := (dC, dI)) (ci := 3) (v := .ref (p1_2a 3)) (C := RX9) (T := TX9) (N := 6) hx hb hts i_X9 hown hK hP 34 rfl rfl 2 (by decide) (hts _ qw701) (fun _ h9 => h9) rfl dX2_meetInBlock_131 ?_
              refine lv_iload hx hb dX2_meetInBlock_134 (lv_at hl 3 rfl) ?_
              obtain ⟨hq56, hrun⟩ := chk9 hrun
              refine va_iald hx hb hK hP 36 33 rfl rfl (ixb_in hq56) dX2_meetInBlock_136 ?_
              obtain ⟨o_57, hc_57, hrun⟩ := bnd9 hrun
              have hPx : va_P (dC, dI) cls ((List.flatten ([(oX2 (p0a 0) (st1 (st1 (st1 (st1 (st1 (st1 (st1 (st1 (st1 (st1 (st1 (st1 (st1 (st1 p0a 4 x10) 5 x12) 6 x14) 7 x16) 10 x18) 11 x20) 12 x22) 13 x24) 14 x26) 15 x28) 16 x30) 17 x32) 18 x34) 19 x36) (st1 (st1 (st1 (st1 (st1 (st1 (st1 (st1 (st1 (st1 (st1 (st1 (st1 (st1 p0k 4 z11) 5 z13) 6 z15) 7 z17) 10 z19) 11 z21) 12 z23) 13 z25) 14 z27) 15 z29) 16 z31) 17 z33) 18 z35) 19 z37) (o_8.2.2) (o_55.1) (o_55.2))] : List va_W)) ++ (List.flatten ([(oX1 (p1a 0) p1a p1k p1n p1w p1l), (oX9 (p1a 3) p1_2a p1_2k p1_2n p1_2w)] : List va_W))) H := vP_fa (vP_perm hP (bP (List.Perm.refl _)))
              have hDx : va_D A ((List.flatten ([(oX2 (p0a 0) (st1 (st1 (st1 (st1 (st1 (st1 (st1 (st1 (st1 (st1 (st1 (st1 (st1 (st1 p0a 4 x10) 5 x12) 6 x14) 7 x16) 10 x18) 11 x20) 12 x22) 13 x24) 14 x26) 15 x28) 16 x30) 17 x32) 18 x34) 19 x36) (st1 (st1 (st1 (st1 (st1 (st1 (st1 (st1 (st1 (st1 (st1 (st1 (st1 (st1 p0k 4 z11) 5 z13) 6 z15) 7 z17) 10 z19) 11 z21) 12 z23) 13 z25) 14 z27) 15 z29) 16 z31) 17 z33) 18 z35) 19 z37) (o_8.2.2) (o_55.1) (o_55.2))] : List va_W)) ++ (List.flatten ([(oX1 (p1a 0) p1a p1k p1n p1w p1l), (oX9 (p1a 3) p1_2a p1_2k p1_2n p1_2w)] : List va_W))) := vD_fa (vD_perm hD (bP (List.Perm.refl _)))
              have hKx : va_K (dC, dI) cls ((List.flatten ([(tX2 (st1 (st1 (st1 (st1 (st1 (st1 (st1 (st1 (st1 (st1 (st1 (st1 (st1 (st1 p0k 4 z11) 5 z13) 6 z15) 7 z17) 10 z19) 11 z21) 12 z23) 13 z25) 14 z27) 15 z29) 16 z31) 17 z33) 18 z35) 19 z37))] : List (List (ClassId × FieldType)))) ++ (List.flatten ([(tX1 p1k), (tX9 p1_2k)] : List (List (ClassId × FieldType))))) s := vK_fa (vK_perm hK (bP (List.Perm.refl _)))
              have hPc := vP_l hPx
              have hDc := vD_l hDx
              have hKc := vK_l hKx
              have hFc := vfree hDx hS hA
              refine va_callv (va_runV (As := [.int (p1_2w 3 (nn (p0w_67 10 (nn v4_67))))]) (rest := []) ⟨hx, hb, hml, hown, hts⟩ (kX2_removeLive l dC dI (p0a := (st0 (p0a 0) (st1 (st1 (st1 (st1 (st1 (st1 (st1 (st1 (st1 (st1 (st1 (st1 (st1 (st1 p0a 4 x10) 5 x12) 6 x14) 7 x16) 10 x18) 11 x20) 12 x22) 13 x24) 14 x26) 15 x28) 16 x30) 17 x32) 18 x34) 19 x36))) (p0k := (st1 (st1 (st1 (st1 (st1 (st1 (st1 (st1 (st1 (st1 (st1 (st1 (st1 (st1 p0k 4 z11) 5 z13) 6 z15) 7 z17) 10 z19) 11 z21) 12 z23) 13 z25) 14 z27) 15 z29) 16 z31) 17 z33) 18 z35) 19 z37)) (p0n := (o_8.2.2)) (p0w := (o_55.1)) (p0l := (o_55.2)) (p1 := (p1_2w 3 (nn (p0w_67 10 (nn v4_67))))) (sz := _) (o := o_57) (hrun := hc_57)) (cwV 1 hts (gi_V qw761 qw762 qw763 qw694 (gi_z qw760)) rfl rfl rfl (by decide +kernel) ⟨Nat.le_of_ble_eq_true rfl, Nat.le_of_ble_eq_true rfl⟩) ⟨PRE.blind, va_recv hKc hPc (ci := 9) (q0 := 0) rfl rfl, PRE.of hE hS hFc hPc hKc hDc⟩ rfl rfl hl.1 rfl (lv_room (Nat.le_of_ble_eq_true rfl)) dX2_meetInBlock_137 ⟨(show (hcX2 p0n (o_8.2.2)) + 0 ≤ (hcX2 p0n (o.2.2)) from by have q0 := gmX2 hg_p0 hgn_p0; omega), (show (3 * (gcX2 p0n (o_8.2.2))) + 0 ≤ (3 * (gcX2 p0n (o.2.2))) from by have q0 := gmX2 hg_p0 hgn_p0; omega)⟩) hS (fun q _ h => hFc q h) hFc (fun u t H locs ht hvm hw hB hz1 hk1 hS => ?_)
              obtain ⟨b1, b2, b3⟩ := hB
              rw [ht] at b1
              obtain ⟨hP, hD, hK⟩ := JOINC (wc := (List.flatten ([(oX2 (p0a 0) (st1 (st1 (st1 (st1 (st1 (st1 (st1 (st1 (st1 (st1 (st1 (st1 (st1 (st1 p0a 4 x10) 5 x12) 6 x14) 7 x16) 10 x18) 11 x20) 12 x22) 13 x24) 14 x26) 15 x28) 16 x30) 17 x32) 18 x34) 19 x36) (st1 (st1 (st1 (st1 (st1 (st1 (st1 (st1 (st1 (st1 (st1 (st1 (st1 (st1 p0k 4 z11) 5 z13) 6 z15) 7 z17) 10 z19) 11 z21) 12 z23) 13 z25) 14 z27) 15 z29) 16 z31) 17 z33) 18 z35) 19 z37) (o_8.2.2) (o_55.1) (o_55.2))] : List va_W))) (wr := (List.flatten ([(oX1 (p1a 0) p1a p1k p1n p1w p1l), (oX9 (p1a 3) p1_2a p1_2k p1_2n p1_2w)] : List va_W))) (w1 := (List.flatten ([(oX2 (p0a 0) (st1 (st1 (st1 (st1 (st1 (st1 (st1 (st1 (st1 (st1 (st1 (st1 (st1 (st1 p0a 4 x10) 5 x12) 6 x14) 7 x16) 10 x18) 11 x20) 12 x22) 13 x24) 14 x26) 15 x28) 16 x30) 17 x32) 18 x34) 19 x36) (st1 (st1 (st1 (st1 (st1 (st1 (st1 (st1 (st1 (st1 (st1 (st1 (st1 (st1 p0k 4 z11) 5 z13) 6 z15) 7 z17) 10 z19) 11 z21) 12 z23) 13 z25) 14 z27) 15 z29) 16 z31) 17 z33) 18 z35) 19 z37) (o_8.2.2) (o_57.1) (o_57.2))] : List va_W))) (t1 := (List.flatten ([(tX2 (st1 (st1 (st1 (st1 (st1 (st1 (st1 (st1 (st1 (st1 (st1 (st1 (st1 (st1 p0k 4 z11) 5 z13) 6 z15) 7 z17) 10 z19) 11 z21) 12 z23) 13 z25) 14 z27) 15 z29) 16 z31) 17 z33) 18 z35) 19 z37))] : List (List (ClassId × FieldType))))) hPx hDx hKx hk1 hFc b1 (va_K.moved hvm.symm b2) b3
              have hP : va_P (dC, dI) cls (List.flatten ([(oX2 (p0a 0) (st1 (st1 (st1 (st1 (st1 (st1 (st1 (st1 (st1 (st1 (st1 (st1 (st1 (st1 p0a 4 x10) 5 x12) 6 x14) 7 x16) 10 x18) 11 x20) 12 x22) 13 x24) 14 x26) 15 x28) 16 x30) 17 x32) 18 x34) 19 x36) (st1 (st1 (st1 (st1 (st1 (st1 (st1 (st1 (st1 (st1 (st1 (st1 (st1 (st1 p0k 4 z11) 5 z13) 6 z15) 7 z17) 10 z19) 11 z21) 12 z23) 13 z25) 14 z27) 15 z29) 16 z31) 17 z33) 18 z35) 19 z37) (o_8.2.2) (o_57.1) (o_57.2)), (oX1 (p1a 0) p1a p1k p1n p1w p1l), (oX9 (p1a 3) p1_2a p1_2k p1_2n p1_2w)] : List va_W)) H := vP_perm (vP_fb hP) (bP (List.Perm.refl _))
              have hD : va_D A (List.flatten ([(oX2 (p0a 0) (st1 (st1 (st1 (st1 (st1 (st1 (st1 (st1 (st1 (st1 (st1 (st1 (st1 (st1 p0a 4 x10) 5 x12) 6 x14) 7 x16) 10 x18) 11 x20) 12 x22) 13 x24) 14 x26) 15 x28) 16 x30) 17 x32) 18 x34) 19 x36) (st1 (st1 (st1 (st1 (st1 (st1 (st1 (st1 (st1 (st1 (st1 (st1 (st1 (st1 p0k 4 z11) 5 z13) 6 z15) 7 z17) 10 z19) 11 z21) 12 z23) 13 z25) 14 z27) 15 z29) 16 z31) 17 z33) 18 z35) 19 z37) (o_8.2.2) (o_57.1) (o_57.2)), (oX1 (p1a 0) p1a p1k p1n p1w p1l), (oX9 (p1a 3) p1_2a p1_2k p1_2n p1_2w)] : List va_W)) := vD_perm (vD_fb hD) (bP (List.Perm.refl _))
              have hK : va_K (dC, dI) cls (List.flatten ([(tX2 (st1 (st1 (st1 (st1 (st1 (st1 (st1 (st1 (st1 (st1 (st1 (st1 (st1 (st1 p0k 4 z11) 5 z13) 6 z15) 7 z17) 10 z19) 11 z21) 12 z23) 13 z25) 14 z27) 15 z29) 16 z31) 17 z33) 18 z35) 19 z37)), (tX1 p1k), (tX9 p1_2k)] : List (List (ClassId × FieldType)))) s := vK_perm (vK_fb hK) (bP (List.Perm.refl _))
              exact J140 (o_57.1) (o_57.2) _ _ _ hrun hP hD hK hS (lv_sub hl [0, 1, 2, 3, 4] rfl) hg_p0
            rcases br9 hrun with ⟨hc58, hrun⟩ | ⟨hc58, hrun⟩
            · refine lv_icmp_ne (tgt := 125) hx hb dX2_meetInBlock_112 (by decide) (fun c => absurd hc58 c) (fun _ => ?_)
              refine lv_aload_n hx hb dX2_meetInBlock_115 rfl (lv_at hl 3 rfl) ?_
              refine va_get (D := (dC, dI)) (ci := 3) (v := .ref (p1_2a 4)) (C := RX9) (T := TX9) (N := 6) hx hb hts i_X9 hown hK hP 34 rfl rfl 3 (by decide) (hts _ qw716) (fun _ h9 => h9) rfl dX2_meetInBlock_116 ?_
              refine lv_iload hx hb dX2_meetInBlock_119 (lv_at hl 1 rfl) ?_
              obtain ⟨hq59, hrun⟩ := chk9 hrun
              refine va_iald hx hb hK hP 37 34 rfl rfl (ixb_in hq59) dX2_meetInBlock_121 ?_
              refine lv_goto (tgt := 126) hx hb dX2_meetInBlock_122 (by decide) ?_
              exact J126 (p1_2w 4 (nn (p0w_67 10 (nn v4_67)))) (p1_2w 3 (nn (p0w_67 10 (nn v4_67)))) _ _ _ hrun hP hD hK hS (lv_sub hl [2, 3, 4, 1, 0] rfl) hg_p0
            · refine lv_icmp_ne (tgt := 125) hx hb dX2_meetInBlock_112 (by decide) (fun _ => ?_) (fun c => absurd c hc58)
              refine lv_iconst (v := (-1)) hx hb dX2_meetInBlock_125 (by decide) ?_
              exact J126 (-1) (p1_2w 3 (nn (p0w_67 10 (nn v4_67)))) _ _ _ hrun hP hD hK hS (lv_sub hl [2, 3, 4, 1, 0] rfl) hg_p0
    obtain ⟨o67, hc67, hrun⟩ := bnd9 hrun
    refine L67 NF ((o_8.1) - 1) (o_8.2.1) p0l_52 o67 _ _ _ hc67 hP hD hK hS (lv_sub hl [2, 1, 0] rfl) hg_p0 ?_
    intro H locs ls hP hD hK hS hl hg_p0
    have hl := hl
    have ho9 : ((o67.1), (o67.2), (o_8.2.2)) = o := Option.some.inj hrun
    subst ho9
    subst hQ
    exact W.vret hx hb hr (fun t ht hW => ⟨⟨(), rfl, trivial, ⟨x10, z11, x12, z13, x14, z15, x16, z17, x18, z19, x20, z21, x22, z23, x24, z25, x26, z27, x28, z29, x30, z31, x32, z33, x34, z35, x36, z37, by rw [ht]; exact hP, va_K.moved hW.alike hK, hD⟩⟩, hS.F ht⟩) hS.2.2 dX2_meetInBlock_184
  rcases br9 hrun with ⟨hc60, hrun⟩ | ⟨hc60, hrun⟩
  · refine lv_if_lt (tgt := 52) hx hb dX2_meetInBlock_39 (by decide) (fun _ => ?_) (fun c => absurd hc60 c)
    exact J52 w2 o_6 _ _ _ hrun hP hD hK hS (lv_sub hl [0, 1, 2] rfl) hg_p0
  · refine lv_if_lt (tgt := 52) hx hb dX2_meetInBlock_39 (by decide) (fun c => absurd c hc60) (fun _ => ?_)
    refine lv_aload_n hx hb dX2_meetInBlock_42 rfl (lv_at hl 0 rfl) ?_
    refine lv_aload_n hx hb dX2_meetInBlock_43 rfl (lv_at hl 1 rfl) ?_
    refine va_get (D := (dC, dI)) (ci := 4) (v := .ref (p1a 9)) (C := RX1) (T := TX1) (N := 21) hx hb hts i_X1 hown hK hP 16 rfl rfl 8 (by decide) (hts _ qw717) (fun _ h9 => h9) rfl dX2_meetInBlock_44 ?_
    refine lv_iload_n hx hb dX2_meetInBlock_47 rfl (lv_at hl 2 rfl) ?_
    obtain ⟨hq61, hrun⟩ := chk9 hrun
    refine va_iald hx hb hK hP 22 20 rfl rfl (ixb_in hq61) dX2_meetInBlock_48 ?_
    obtain ⟨o_62, hc_62, hrun⟩ := bnd9 hrun
    have hPx : va_P (dC, dI) cls ((List.flatten ([(oX2 (p0a 0) p0a p0k p0n w2 o_6)] : List va_W)) ++ (List.flatten ([(oX1 (p1a 0) p1a p1k p1n p1w p1l), (oX9 (p1a 3) p1_2a p1_2k p1_2n p1_2w)] : List va_W))) H := vP_fa (vP_perm hP (bP (List.Perm.refl _)))
    have hDx : va_D A ((List.flatten ([(oX2 (p0a 0) p0a p0k p0n w2 o_6)] : List va_W)) ++ (List.flatten ([(oX1 (p1a 0) p1a p1k p1n p1w p1l), (oX9 (p1a 3) p1_2a p1_2k p1_2n p1_2w)] : List va_W))) := vD_fa (vD_perm hD (bP (List.Perm.refl _)))
    have hKx : va_K (dC, dI) cls ((List.flatten ([(tX2 p0k)] : List (List (ClassId × FieldType)))) ++ (List.flatten ([(tX1 p1k), (tX9 p1_2k)] : List (List (ClassId × FieldType))))) s := vK_fa (vK_perm hK (bP (List.Perm.refl _)))
    have hPc := vP_l hPx
    have hDc := vD_l hDx
    have hKc := vK_l hKx
    have hFc := vfree hDx hS hA
    refine va_callv (va_runV (As := [.int (p1w 9 (nn p2))]) (rest := []) ⟨hx, hb, hml, hown, hts⟩ (kX2_addLive l dC dI (p0a := p0a) (p0k := p0k) (p0n := p0n) (p0w := w2) (p0l := o_6) (p1 := (p1w 9 (nn p2))) (sz := _) (o := o_62) (hrun := hc_62)) (cwV 1 hts (gi_V qw749 qw750 qw751 qw694 (gi_z qw748)) rfl rfl rfl (by decide +kernel) ⟨Nat.le_of_ble_eq_true rfl, Nat.le_of_ble_eq_true rfl⟩) ⟨PRE.blind, va_recv hKc hPc (ci := 9) (q0 := 0) rfl rfl, PRE.of hE hS hFc hPc hKc hDc⟩ rfl rfl hl.1 rfl (lv_room (Nat.le_of_ble_eq_true rfl)) dX2_meetInBlock_49 ⟨(show (hcX2 p0n p0n) + 0 ≤ (hcX2 p0n (o.2.2)) from by have q0 := gmX2 hg_p0 hgn_p0; omega), (show (3 * (gcX2 p0n p0n)) + 0 ≤ (3 * (gcX2 p0n (o.2.2))) from by have q0 := gmX2 hg_p0 hgn_p0; omega)⟩) hS (fun q _ h => hFc q h) hFc (fun u t H locs ht hvm hw hB hz1 hk1 hS => ?_)
    obtain ⟨b1, b2, b3⟩ := hB
    rw [ht] at b1
    obtain ⟨hP, hD, hK⟩ := JOINC (wc := (List.flatten ([(oX2 (p0a 0) p0a p0k p0n w2 o_6)] : List va_W))) (wr := (List.flatten ([(oX1 (p1a 0) p1a p1k p1n p1w p1l), (oX9 (p1a 3) p1_2a p1_2k p1_2n p1_2w)] : List va_W))) (w1 := (List.flatten ([(oX2 (p0a 0) p0a p0k p0n (o_62.1) (o_62.2))] : List va_W))) (t1 := (List.flatten ([(tX2 p0k)] : List (List (ClassId × FieldType))))) hPx hDx hKx hk1 hFc b1 (va_K.moved hvm.symm b2) b3
    have hP : va_P (dC, dI) cls (List.flatten ([(oX2 (p0a 0) p0a p0k p0n (o_62.1) (o_62.2)), (oX1 (p1a 0) p1a p1k p1n p1w p1l), (oX9 (p1a 3) p1_2a p1_2k p1_2n p1_2w)] : List va_W)) H := vP_perm (vP_fb hP) (bP (List.Perm.refl _))
    have hD : va_D A (List.flatten ([(oX2 (p0a 0) p0a p0k p0n (o_62.1) (o_62.2)), (oX1 (p1a 0) p1a p1k p1n p1w p1l), (oX9 (p1a 3) p1_2a p1_2k p1_2n p1_2w)] : List va_W)) := vD_perm (vD_fb hD) (bP (List.Perm.refl _))
    have hK : va_K (dC, dI) cls (List.flatten ([(tX2 p0k), (tX1 p1k), (tX9 p1_2k)] : List (List (ClassId × FieldType)))) s := vK_perm (vK_fb hK) (bP (List.Perm.refl _))
    exact J52 (o_62.1) (o_62.2) _ _ _ hrun hP hD hK hS (lv_sub hl [0, 1, 2] rfl) hg_p0
def fJ13_bitCount_95d88 (p0 : Int64) : Option Int32 := some (((((((((((p0 - ((((p0 : Int64).toUInt64 >>> ((1 : Int32).toInt64.toUInt64 &&& Int64.toUInt64 63)).toInt64) &&& (6148914691236517205 : Int64))) &&& (3689348814741910323 : Int64)) + (((((p0 - ((((p0 : Int64).toUInt64 >>> ((1 : Int32).toInt64.toUInt64 &&& Int64.toUInt64 63)).toInt64) &&& (6148914691236517205 : Int64))) : Int64).toUInt64 >>> ((2 : Int32).toInt64.toUInt64 &&& Int64.toUInt64 63)).toInt64) &&& (3689348814741910323 : Int64))) + ((((((p0 - ((((p0 : Int64).toUInt64 >>> ((1 : Int32).toInt64.toUInt64 &&& Int64.toUInt64 63)).toInt64) &&& (6148914691236517205 : Int64))) &&& (3689348814741910323 : Int64)) + (((((p0 - ((((p0 : Int64).toUInt64 >>> ((1 : Int32).toInt64.toUInt64 &&& Int64.toUInt64 63)).toInt64) &&& (6148914691236517205 : Int64))) : Int64).toUInt64 >>> ((2 : Int32).toInt64.toUInt64 &&& Int64.toUInt64 63)).toInt64) &&& (3689348814741910323 : Int64))) : Int64).toUInt64 >>> ((4 : Int32).toInt64.toUInt64 &&& Int64.toUInt64 63)).toInt64)) &&& (1085102592571150095 : Int64)) + ((((((((p0 - ((((p0 : Int64).toUInt64 >>> ((1 : Int32).toInt64.toUInt64 &&& Int64.toUInt64 63)).toInt64) &&& (6148914691236517205 : Int64))) &&& (3689348814741910323 : Int64)) + (((((p0 - ((((p0 : Int64).toUInt64 >>> ((1 : Int32).toInt64.toUInt64 &&& Int64.toUInt64 63)).toInt64) &&& (6148914691236517205 : Int64))) : Int64).toUInt64 >>> ((2 : Int32).toInt64.toUInt64 &&& Int64.toUInt64 63)).toInt64) &&& (3689348814741910323 : Int64))) + ((((((p0 - ((((p0 : Int64).toUInt64 >>> ((1 : Int32).toInt64.toUInt64 &&& Int64.toUInt64 63)).toInt64) &&& (6148914691236517205 : Int64))) &&& (3689348814741910323 : Int64)) + (((((p0 - ((((p0 : Int64).toUInt64 >>> ((1 : Int32).toInt64.toUInt64 &&& Int64.toUInt64 63)).toInt64) &&& (6148914691236517205 : Int64))) : Int64).toUInt64 >>> ((2 : Int32).toInt64.toUInt64 &&& Int64.toUInt64 63)).toInt64) &&& (3689348814741910323 : Int64))) : Int64).toUInt64 >>> ((4 : Int32).toInt64.toUInt64 &&& Int64.toUInt64 63)).toInt64)) &&& (1085102592571150095 : Int64)) : Int64).toUInt64 >>> ((8 : Int32).toInt64.toUInt64 &&& Int64.toUInt64 63)).toInt64)) + (((((((((p0 - ((((p0 : Int64).toUInt64 >>> ((1 : Int32).toInt64.toUInt64 &&& Int64.toUInt64 63)).toInt64) &&& (6148914691236517205 : Int64))) &&& (3689348814741910323 : Int64)) + (((((p0 - ((((p0 : Int64).toUInt64 >>> ((1 : Int32).toInt64.toUInt64 &&& Int64.toUInt64 63)).toInt64) &&& (6148914691236517205 : Int64))) : Int64).toUInt64 >>> ((2 : Int32).toInt64.toUInt64 &&& Int64.toUInt64 63)).toInt64) &&& (3689348814741910323 : Int64))) + ((((((p0 - ((((p0 : Int64).toUInt64 >>> ((1 : Int32).toInt64.toUInt64 &&& Int64.toUInt64 63)).toInt64) &&& (6148914691236517205 : Int64))) &&& (3689348814741910323 : Int64)) + (((((p0 - ((((p0 : Int64).toUInt64 >>> ((1 : Int32).toInt64.toUInt64 &&& Int64.toUInt64 63)).toInt64) &&& (6148914691236517205 : Int64))) : Int64).toUInt64 >>> ((2 : Int32).toInt64.toUInt64 &&& Int64.toUInt64 63)).toInt64) &&& (3689348814741910323 : Int64))) : Int64).toUInt64 >>> ((4 : Int32).toInt64.toUInt64 &&& Int64.toUInt64 63)).toInt64)) &&& (1085102592571150095 : Int64)) + ((((((((p0 - ((((p0 : Int64).toUInt64 >>> ((1 : Int32).toInt64.toUInt64 &&& Int64.toUInt64 63)).toInt64) &&& (6148914691236517205 : Int64))) &&& (3689348814741910323 : Int64)) + (((((p0 - ((((p0 : Int64).toUInt64 >>> ((1 : Int32).toInt64.toUInt64 &&& Int64.toUInt64 63)).toInt64) &&& (6148914691236517205 : Int64))) : Int64).toUInt64 >>> ((2 : Int32).toInt64.toUInt64 &&& Int64.toUInt64 63)).toInt64) &&& (3689348814741910323 : Int64))) + ((((((p0 - ((((p0 : Int64).toUInt64 >>> ((1 : Int32).toInt64.toUInt64 &&& Int64.toUInt64 63)).toInt64) &&& (6148914691236517205 : Int64))) &&& (3689348814741910323 : Int64)) + (((((p0 - ((((p0 : Int64).toUInt64 >>> ((1 : Int32).toInt64.toUInt64 &&& Int64.toUInt64 63)).toInt64) &&& (6148914691236517205 : Int64))) : Int64).toUInt64 >>> ((2 : Int32).toInt64.toUInt64 &&& Int64.toUInt64 63)).toInt64) &&& (3689348814741910323 : Int64))) : Int64).toUInt64 >>> ((4 : Int32).toInt64.toUInt64 &&& Int64.toUInt64 63)).toInt64)) &&& (1085102592571150095 : Int64)) : Int64).toUInt64 >>> ((8 : Int32).toInt64.toUInt64 &&& Int64.toUInt64 63)).toInt64)) : Int64).toUInt64 >>> ((16 : Int32).toInt64.toUInt64 &&& Int64.toUInt64 63)).toInt64)) + ((((((((((p0 - ((((p0 : Int64).toUInt64 >>> ((1 : Int32).toInt64.toUInt64 &&& Int64.toUInt64 63)).toInt64) &&& (6148914691236517205 : Int64))) &&& (3689348814741910323 : Int64)) + (((((p0 - ((((p0 : Int64).toUInt64 >>> ((1 : Int32).toInt64.toUInt64 &&& Int64.toUInt64 63)).toInt64) &&& (6148914691236517205 : Int64))) : Int64).toUInt64 >>> ((2 : Int32).toInt64.toUInt64 &&& Int64.toUInt64 63)).toInt64) &&& (3689348814741910323 : Int64))) + ((((((p0 - ((((p0 : Int64).toUInt64 >>> ((1 : Int32).toInt64.toUInt64 &&& Int64.toUInt64 63)).toInt64) &&& (6148914691236517205 : Int64))) &&& (3689348814741910323 : Int64)) + (((((p0 - ((((p0 : Int64).toUInt64 >>> ((1 : Int32).toInt64.toUInt64 &&& Int64.toUInt64 63)).toInt64) &&& (6148914691236517205 : Int64))) : Int64).toUInt64 >>> ((2 : Int32).toInt64.toUInt64 &&& Int64.toUInt64 63)).toInt64) &&& (3689348814741910323 : Int64))) : Int64).toUInt64 >>> ((4 : Int32).toInt64.toUInt64 &&& Int64.toUInt64 63)).toInt64)) &&& (1085102592571150095 : Int64)) + ((((((((p0 - ((((p0 : Int64).toUInt64 >>> ((1 : Int32).toInt64.toUInt64 &&& Int64.toUInt64 63)).toInt64) &&& (6148914691236517205 : Int64))) &&& (3689348814741910323 : Int64)) + (((((p0 - ((((p0 : Int64).toUInt64 >>> ((1 : Int32).toInt64.toUInt64 &&& Int64.toUInt64 63)).toInt64) &&& (6148914691236517205 : Int64))) : Int64).toUInt64 >>> ((2 : Int32).toInt64.toUInt64 &&& Int64.toUInt64 63)).toInt64) &&& (3689348814741910323 : Int64))) + ((((((p0 - ((((p0 : Int64).toUInt64 >>> ((1 : Int32).toInt64.toUInt64 &&& Int64.toUInt64 63)).toInt64) &&& (6148914691236517205 : Int64))) &&& (3689348814741910323 : Int64)) + (((((p0 - ((((p0 : Int64).toUInt64 >>> ((1 : Int32).toInt64.toUInt64 &&& Int64.toUInt64 63)).toInt64) &&& (6148914691236517205 : Int64))) : Int64).toUInt64 >>> ((2 : Int32).toInt64.toUInt64 &&& Int64.toUInt64 63)).toInt64) &&& (3689348814741910323 : Int64))) : Int64).toUInt64 >>> ((4 : Int32).toInt64.toUInt64 &&& Int64.toUInt64 63)).toInt64)) &&& (1085102592571150095 : Int64)) : Int64).toUInt64 >>> ((8 : Int32).toInt64.toUInt64 &&& Int64.toUInt64 63)).toInt64)) + (((((((((p0 - ((((p0 : Int64).toUInt64 >>> ((1 : Int32).toInt64.toUInt64 &&& Int64.toUInt64 63)).toInt64) &&& (6148914691236517205 : Int64))) &&& (3689348814741910323 : Int64)) + (((((p0 - ((((p0 : Int64).toUInt64 >>> ((1 : Int32).toInt64.toUInt64 &&& Int64.toUInt64 63)).toInt64) &&& (6148914691236517205 : Int64))) : Int64).toUInt64 >>> ((2 : Int32).toInt64.toUInt64 &&& Int64.toUInt64 63)).toInt64) &&& (3689348814741910323 : Int64))) + ((((((p0 - ((((p0 : Int64).toUInt64 >>> ((1 : Int32).toInt64.toUInt64 &&& Int64.toUInt64 63)).toInt64) &&& (6148914691236517205 : Int64))) &&& (3689348814741910323 : Int64)) + (((((p0 - ((((p0 : Int64).toUInt64 >>> ((1 : Int32).toInt64.toUInt64 &&& Int64.toUInt64 63)).toInt64) &&& (6148914691236517205 : Int64))) : Int64).toUInt64 >>> ((2 : Int32).toInt64.toUInt64 &&& Int64.toUInt64 63)).toInt64) &&& (3689348814741910323 : Int64))) : Int64).toUInt64 >>> ((4 : Int32).toInt64.toUInt64 &&& Int64.toUInt64 63)).toInt64)) &&& (1085102592571150095 : Int64)) + ((((((((p0 - ((((p0 : Int64).toUInt64 >>> ((1 : Int32).toInt64.toUInt64 &&& Int64.toUInt64 63)).toInt64) &&& (6148914691236517205 : Int64))) &&& (3689348814741910323 : Int64)) + (((((p0 - ((((p0 : Int64).toUInt64 >>> ((1 : Int32).toInt64.toUInt64 &&& Int64.toUInt64 63)).toInt64) &&& (6148914691236517205 : Int64))) : Int64).toUInt64 >>> ((2 : Int32).toInt64.toUInt64 &&& Int64.toUInt64 63)).toInt64) &&& (3689348814741910323 : Int64))) + ((((((p0 - ((((p0 : Int64).toUInt64 >>> ((1 : Int32).toInt64.toUInt64 &&& Int64.toUInt64 63)).toInt64) &&& (6148914691236517205 : Int64))) &&& (3689348814741910323 : Int64)) + (((((p0 - ((((p0 : Int64).toUInt64 >>> ((1 : Int32).toInt64.toUInt64 &&& Int64.toUInt64 63)).toInt64) &&& (6148914691236517205 : Int64))) : Int64).toUInt64 >>> ((2 : Int32).toInt64.toUInt64 &&& Int64.toUInt64 63)).toInt64) &&& (3689348814741910323 : Int64))) : Int64).toUInt64 >>> ((4 : Int32).toInt64.toUInt64 &&& Int64.toUInt64 63)).toInt64)) &&& (1085102592571150095 : Int64)) : Int64).toUInt64 >>> ((8 : Int32).toInt64.toUInt64 &&& Int64.toUInt64 63)).toInt64)) : Int64).toUInt64 >>> ((16 : Int32).toInt64.toUInt64 &&& Int64.toUInt64 63)).toInt64)) : Int64).toUInt64 >>> ((32 : Int32).toInt64.toUInt64 &&& Int64.toUInt64 63)).toInt64)) : Int64).toInt32) &&& 127)
set_option maxHeartbeats 16000000 in
set_option maxRecDepth 100000 in
theorem kJ13_bitCount_95d88 {zs : ZS} (l : Launch) (dC : Nat → ClassId) (dI : Nat → Nat → Nat) (p0 : Int64) (sz : Nat) (o : Int32) (hrun : fJ13_bitCount_95d88 p0 = some o) : Met l yJ13_bitCount_95d88 (wz yJ13_bitCount_95d88 cJ13_bitCount_95d88 2 (Option.some Jvm.ClassFile.FieldType.int)) ({ frames := 0, cells := 0, slots := 0, locals := 0 } : Room) (va_Pc [.long p0] (PRE zs dC dI (List.flatten ([] : List va_W)) (List.flatten ([] : List (List (ClassId × FieldType)))) sz)) (va_Qi (fun (r : Int32) (_ : Unit) => r = o) (fun _ t => POST dC dI (List.flatten ([] : List va_W)) (List.flatten ([] : List (List (ClassId × FieldType)))) (va_A (List.flatten ([] : List va_W)) sz) t) (va_A (List.flatten ([] : List va_W)) sz)) 0 0 (va_A (List.flatten ([] : List va_W)) sz) := by
  refine Met.ofW (cc := cJ13_bitCount_95d88) (maxL := 2) (ret := (Option.some Jvm.ClassFile.FieldType.int)) (by decide) rfl ?_
  intro p e s m args below meth c s₁ B hml hv
  obtain ⟨rfl, hsz, hP, hK, hD0, hE⟩ := hv
  have hx := B.exec
  have hb := B.bytes
  have hr := B.returns
  have hts0 := atoms_spec (ws := wz yJ13_bitCount_95d88 cJ13_bitCount_95d88 2 (Option.some Jvm.ClassFile.FieldType.int)) B.pre
  have hts : ∀ w ∈ gw, w.before _ s = true := fun w h => hts0 w (List.mem_cons_of_mem _ h)
  have hown : s.vm.findClass RJ13 = some m.cls := findClass_of_methodNamed B.named
  have hlocks := B.notSynchronized
  subst hsz
  have hD := hD0.self (sz := s.heap.size)
  refine gQ9 ?_
  intro Q hQ
  generalize hAe : va_A (List.flatten ([] : List va_W)) s.heap.size = A at hD hE hQ
  have hA : ∀ q : Nat, s.heap.size ≤ q → A q := fun q h => by rw [← hAe]; exact Or.inr h
  have hS : va_S A s.heap s.heap [] := va_S.rf
  have hP : va_P (dC, dI) cls (List.flatten ([] : List va_W)) s.heap := hP
  have hl := lv_entry ([.long p0]) (n := 2) (Nat.le_of_ble_eq_true rfl)
  rw [lg_entry_eq]
  generalize (lg_sl ([.long p0]) ++ List.replicate (2 - (lg_sl ([.long p0])).length) Slot.unset).toArray = ls at hl ⊢
  have hl : lv_has ls 2 [(0, .long p0)] := hl
  obtain ⟨H, hHe⟩ : ∃ H, H = s.heap := ⟨_, rfl⟩
  obtain ⟨locs, hle⟩ : ∃ locs : List Loc, locs = [] := ⟨_, rfl⟩
  rw [← hHe] at hP
  have hS : va_S A s.heap H locs := by rw [hHe, hle]; exact hS
  show W p l e ({ frames := 0, cells := 0, slots := 0, locals := 0 } : Room) s m ([.long p0] : List Value).toArray below meth c s.heap [] 0 0 Q (F0 m 0 ls [])
  rw [← hle]
  refine wH9 hHe ?_
  unfold fJ13_bitCount_95d88 at hrun
  refine lv_lload_n hx hb dJ13_bitCount_95d88_0 rfl (lv_at hl 0 rfl) ?_
  refine lv_lload_n hx hb dJ13_bitCount_95d88_1 rfl (lv_at hl 0 rfl) ?_
  refine lv_iconst (v := 1) hx hb dJ13_bitCount_95d88_2 (by decide) ?_
  refine lv_lushr (v := (((p0 : Int64).toUInt64 >>> ((1 : Int32).toInt64.toUInt64 &&& Int64.toUInt64 63)).toInt64)) hx hb dJ13_bitCount_95d88_3 rfl ?_
  refine lv_ldc2 (v := 6148914691236517205) hx hb hown (hts _ qw768) dJ13_bitCount_95d88_4 ?_
  refine lv_land hx hb dJ13_bitCount_95d88_7 ?_
  refine lv_lsub hx hb dJ13_bitCount_95d88_8 ?_
  refine lv_lstore_n (lv' := [(0, .long (p0 - ((((p0 : Int64).toUInt64 >>> ((1 : Int32).toInt64.toUInt64 &&& Int64.toUInt64 63)).toInt64) &&& (6148914691236517205 : Int64))))]) hx hb dJ13_bitCount_95d88_9 rfl hl (by decide) rfl (fun ls hl => ?_)
  refine lv_lload_n hx hb dJ13_bitCount_95d88_10 rfl (lv_at hl 0 rfl) ?_
  refine lv_ldc2 (v := 3689348814741910323) hx hb hown (hts _ qw769) dJ13_bitCount_95d88_11 ?_
  refine lv_land hx hb dJ13_bitCount_95d88_14 ?_
  refine lv_lload_n hx hb dJ13_bitCount_95d88_15 rfl (lv_at hl 0 rfl) ?_
  refine lv_iconst (v := 2) hx hb dJ13_bitCount_95d88_16 (by decide) ?_
  refine lv_lushr (v := ((((p0 - ((((p0 : Int64).toUInt64 >>> ((1 : Int32).toInt64.toUInt64 &&& Int64.toUInt64 63)).toInt64) &&& (6148914691236517205 : Int64))) : Int64).toUInt64 >>> ((2 : Int32).toInt64.toUInt64 &&& Int64.toUInt64 63)).toInt64)) hx hb dJ13_bitCount_95d88_17 rfl ?_
  refine lv_ldc2 (v := 3689348814741910323) hx hb hown (hts _ qw769) dJ13_bitCount_95d88_18 ?_
  refine lv_land hx hb dJ13_bitCount_95d88_21 ?_
  refine lv_ladd hx hb dJ13_bitCount_95d88_22 ?_
  refine lv_lstore_n (lv' := [(0, .long (((p0 - ((((p0 : Int64).toUInt64 >>> ((1 : Int32).toInt64.toUInt64 &&& Int64.toUInt64 63)).toInt64) &&& (6148914691236517205 : Int64))) &&& (3689348814741910323 : Int64)) + (((((p0 - ((((p0 : Int64).toUInt64 >>> ((1 : Int32).toInt64.toUInt64 &&& Int64.toUInt64 63)).toInt64) &&& (6148914691236517205 : Int64))) : Int64).toUInt64 >>> ((2 : Int32).toInt64.toUInt64 &&& Int64.toUInt64 63)).toInt64) &&& (3689348814741910323 : Int64))))]) hx hb dJ13_bitCount_95d88_23 rfl hl (by decide) rfl (fun ls hl => ?_)
  refine lv_lload_n hx hb dJ13_bitCount_95d88_24 rfl (lv_at hl 0 rfl) ?_
  refine lv_lload_n hx hb dJ13_bitCount_95d88_25 rfl (lv_at hl 0 rfl) ?_
  refine lv_iconst (v := 4) hx hb dJ13_bitCount_95d88_26 (by decide) ?_
  refine lv_lushr (v := ((((((p0 - ((((p0 : Int64).toUInt64 >>> ((1 : Int32).toInt64.toUInt64 &&& Int64.toUInt64 63)).toInt64) &&& (6148914691236517205 : Int64))) &&& (3689348814741910323 : Int64)) + (((((p0 - ((((p0 : Int64).toUInt64 >>> ((1 : Int32).toInt64.toUInt64 &&& Int64.toUInt64 63)).toInt64) &&& (6148914691236517205 : Int64))) : Int64).toUInt64 >>> ((2 : Int32).toInt64.toUInt64 &&& Int64.toUInt64 63)).toInt64) &&& (3689348814741910323 : Int64))) : Int64).toUInt64 >>> ((4 : Int32).toInt64.toUInt64 &&& Int64.toUInt64 63)).toInt64)) hx hb dJ13_bitCount_95d88_27 rfl ?_
  refine lv_ladd hx hb dJ13_bitCount_95d88_28 ?_
  refine lv_ldc2 (v := 1085102592571150095) hx hb hown (hts _ qw770) dJ13_bitCount_95d88_29 ?_
  refine lv_land hx hb dJ13_bitCount_95d88_32 ?_
  refine lv_lstore_n (lv' := [(0, .long (((((p0 - ((((p0 : Int64).toUInt64 >>> ((1 : Int32).toInt64.toUInt64 &&& Int64.toUInt64 63)).toInt64) &&& (6148914691236517205 : Int64))) &&& (3689348814741910323 : Int64)) + (((((p0 - ((((p0 : Int64).toUInt64 >>> ((1 : Int32).toInt64.toUInt64 &&& Int64.toUInt64 63)).toInt64) &&& (6148914691236517205 : Int64))) : Int64).toUInt64 >>> ((2 : Int32).toInt64.toUInt64 &&& Int64.toUInt64 63)).toInt64) &&& (3689348814741910323 : Int64))) + ((((((p0 - ((((p0 : Int64).toUInt64 >>> ((1 : Int32).toInt64.toUInt64 &&& Int64.toUInt64 63)).toInt64) &&& (6148914691236517205 : Int64))) &&& (3689348814741910323 : Int64)) + (((((p0 - ((((p0 : Int64).toUInt64 >>> ((1 : Int32).toInt64.toUInt64 &&& Int64.toUInt64 63)).toInt64) &&& (6148914691236517205 : Int64))) : Int64).toUInt64 >>> ((2 : Int32).toInt64.toUInt64 &&& Int64.toUInt64 63)).toInt64) &&& (3689348814741910323 : Int64))) : Int64).toUInt64 >>> ((4 : Int32).toInt64.toUInt64 &&& Int64.toUInt64 63)).toInt64)) &&& (1085102592571150095 : Int64)))]) hx hb dJ13_bitCount_95d88_33 rfl hl (by decide) rfl (fun ls hl => ?_)
  refine lv_lload_n hx hb dJ13_bitCount_95d88_34 rfl (lv_at hl 0 rfl) ?_
  refine lv_lload_n hx hb dJ13_bitCount_95d88_35 rfl (lv_at hl 0 rfl) ?_
  refine lv_bipush (v := 8) hx hb dJ13_bitCount_95d88_36 (by decide) ?_
  refine lv_lushr (v := ((((((((p0 - ((((p0 : Int64).toUInt64 >>> ((1 : Int32).toInt64.toUInt64 &&& Int64.toUInt64 63)).toInt64) &&& (6148914691236517205 : Int64))) &&& (3689348814741910323 : Int64)) + (((((p0 - ((((p0 : Int64).toUInt64 >>> ((1 : Int32).toInt64.toUInt64 &&& Int64.toUInt64 63)).toInt64) &&& (6148914691236517205 : Int64))) : Int64).toUInt64 >>> ((2 : Int32).toInt64.toUInt64 &&& Int64.toUInt64 63)).toInt64) &&& (3689348814741910323 : Int64))) + ((((((p0 - ((((p0 : Int64).toUInt64 >>> ((1 : Int32).toInt64.toUInt64 &&& Int64.toUInt64 63)).toInt64) &&& (6148914691236517205 : Int64))) &&& (3689348814741910323 : Int64)) + (((((p0 - ((((p0 : Int64).toUInt64 >>> ((1 : Int32).toInt64.toUInt64 &&& Int64.toUInt64 63)).toInt64) &&& (6148914691236517205 : Int64))) : Int64).toUInt64 >>> ((2 : Int32).toInt64.toUInt64 &&& Int64.toUInt64 63)).toInt64) &&& (3689348814741910323 : Int64))) : Int64).toUInt64 >>> ((4 : Int32).toInt64.toUInt64 &&& Int64.toUInt64 63)).toInt64)) &&& (1085102592571150095 : Int64)) : Int64).toUInt64 >>> ((8 : Int32).toInt64.toUInt64 &&& Int64.toUInt64 63)).toInt64)) hx hb dJ13_bitCount_95d88_38 rfl ?_
  refine lv_ladd hx hb dJ13_bitCount_95d88_39 ?_
  refine lv_lstore_n (lv' := [(0, .long ((((((p0 - ((((p0 : Int64).toUInt64 >>> ((1 : Int32).toInt64.toUInt64 &&& Int64.toUInt64 63)).toInt64) &&& (6148914691236517205 : Int64))) &&& (3689348814741910323 : Int64)) + (((((p0 - ((((p0 : Int64).toUInt64 >>> ((1 : Int32).toInt64.toUInt64 &&& Int64.toUInt64 63)).toInt64) &&& (6148914691236517205 : Int64))) : Int64).toUInt64 >>> ((2 : Int32).toInt64.toUInt64 &&& Int64.toUInt64 63)).toInt64) &&& (3689348814741910323 : Int64))) + ((((((p0 - ((((p0 : Int64).toUInt64 >>> ((1 : Int32).toInt64.toUInt64 &&& Int64.toUInt64 63)).toInt64) &&& (6148914691236517205 : Int64))) &&& (3689348814741910323 : Int64)) + (((((p0 - ((((p0 : Int64).toUInt64 >>> ((1 : Int32).toInt64.toUInt64 &&& Int64.toUInt64 63)).toInt64) &&& (6148914691236517205 : Int64))) : Int64).toUInt64 >>> ((2 : Int32).toInt64.toUInt64 &&& Int64.toUInt64 63)).toInt64) &&& (3689348814741910323 : Int64))) : Int64).toUInt64 >>> ((4 : Int32).toInt64.toUInt64 &&& Int64.toUInt64 63)).toInt64)) &&& (1085102592571150095 : Int64)) + ((((((((p0 - ((((p0 : Int64).toUInt64 >>> ((1 : Int32).toInt64.toUInt64 &&& Int64.toUInt64 63)).toInt64) &&& (6148914691236517205 : Int64))) &&& (3689348814741910323 : Int64)) + (((((p0 - ((((p0 : Int64).toUInt64 >>> ((1 : Int32).toInt64.toUInt64 &&& Int64.toUInt64 63)).toInt64) &&& (6148914691236517205 : Int64))) : Int64).toUInt64 >>> ((2 : Int32).toInt64.toUInt64 &&& Int64.toUInt64 63)).toInt64) &&& (3689348814741910323 : Int64))) + ((((((p0 - ((((p0 : Int64).toUInt64 >>> ((1 : Int32).toInt64.toUInt64 &&& Int64.toUInt64 63)).toInt64) &&& (6148914691236517205 : Int64))) &&& (3689348814741910323 : Int64)) + (((((p0 - ((((p0 : Int64).toUInt64 >>> ((1 : Int32).toInt64.toUInt64 &&& Int64.toUInt64 63)).toInt64) &&& (6148914691236517205 : Int64))) : Int64).toUInt64 >>> ((2 : Int32).toInt64.toUInt64 &&& Int64.toUInt64 63)).toInt64) &&& (3689348814741910323 : Int64))) : Int64).toUInt64 >>> ((4 : Int32).toInt64.toUInt64 &&& Int64.toUInt64 63)).toInt64)) &&& (1085102592571150095 : Int64)) : Int64).toUInt64 >>> ((8 : Int32).toInt64.toUInt64 &&& Int64.toUInt64 63)).toInt64)))]) hx hb dJ13_bitCount_95d88_40 rfl hl (by decide) rfl (fun ls hl => ?_)
  refine lv_lload_n hx hb dJ13_bitCount_95d88_41 rfl (lv_at hl 0 rfl) ?_
  refine lv_lload_n hx hb dJ13_bitCount_95d88_42 rfl (lv_at hl 0 rfl) ?_
  refine lv_bipush (v := 16) hx hb dJ13_bitCount_95d88_43 (by decide) ?_
  refine lv_lushr (v := (((((((((p0 - ((((p0 : Int64).toUInt64 >>> ((1 : Int32).toInt64.toUInt64 &&& Int64.toUInt64 63)).toInt64) &&& (6148914691236517205 : Int64))) &&& (3689348814741910323 : Int64)) + (((((p0 - ((((p0 : Int64).toUInt64 >>> ((1 : Int32).toInt64.toUInt64 &&& Int64.toUInt64 63)).toInt64) &&& (6148914691236517205 : Int64))) : Int64).toUInt64 >>> ((2 : Int32).toInt64.toUInt64 &&& Int64.toUInt64 63)).toInt64) &&& (3689348814741910323 : Int64))) + ((((((p0 - ((((p0 : Int64).toUInt64 >>> ((1 : Int32).toInt64.toUInt64 &&& Int64.toUInt64 63)).toInt64) &&& (6148914691236517205 : Int64))) &&& (3689348814741910323 : Int64)) + (((((p0 - ((((p0 : Int64).toUInt64 >>> ((1 : Int32).toInt64.toUInt64 &&& Int64.toUInt64 63)).toInt64) &&& (6148914691236517205 : Int64))) : Int64).toUInt64 >>> ((2 : Int32).toInt64.toUInt64 &&& Int64.toUInt64 63)).toInt64) &&& (3689348814741910323 : Int64))) : Int64).toUInt64 >>> ((4 : Int32).toInt64.toUInt64 &&& Int64.toUInt64 63)).toInt64)) &&& (1085102592571150095 : Int64)) + ((((((((p0 - ((((p0 : Int64).toUInt64 >>> ((1 : Int32).toInt64.toUInt64 &&& Int64.toUInt64 63)).toInt64) &&& (6148914691236517205 : Int64))) &&& (3689348814741910323 : Int64)) + (((((p0 - ((((p0 : Int64).toUInt64 >>> ((1 : Int32).toInt64.toUInt64 &&& Int64.toUInt64 63)).toInt64) &&& (6148914691236517205 : Int64))) : Int64).toUInt64 >>> ((2 : Int32).toInt64.toUInt64 &&& Int64.toUInt64 63)).toInt64) &&& (3689348814741910323 : Int64))) + ((((((p0 - ((((p0 : Int64).toUInt64 >>> ((1 : Int32).toInt64.toUInt64 &&& Int64.toUInt64 63)).toInt64) &&& (6148914691236517205 : Int64))) &&& (3689348814741910323 : Int64)) + (((((p0 - ((((p0 : Int64).toUInt64 >>> ((1 : Int32).toInt64.toUInt64 &&& Int64.toUInt64 63)).toInt64) &&& (6148914691236517205 : Int64))) : Int64).toUInt64 >>> ((2 : Int32).toInt64.toUInt64 &&& Int64.toUInt64 63)).toInt64) &&& (3689348814741910323 : Int64))) : Int64).toUInt64 >>> ((4 : Int32).toInt64.toUInt64 &&& Int64.toUInt64 63)).toInt64)) &&& (1085102592571150095 : Int64)) : Int64).toUInt64 >>> ((8 : Int32).toInt64.toUInt64 &&& Int64.toUInt64 63)).toInt64)) : Int64).toUInt64 >>> ((16 : Int32).toInt64.toUInt64 &&& Int64.toUInt64 63)).toInt64)) hx hb dJ13_bitCount_95d88_45 rfl ?_
  refine lv_ladd hx hb dJ13_bitCount_95d88_46 ?_
  refine lv_lstore_n (lv' := [(0, .long (((((((p0 - ((((p0 : Int64).toUInt64 >>> ((1 : Int32).toInt64.toUInt64 &&& Int64.toUInt64 63)).toInt64) &&& (6148914691236517205 : Int64))) &&& (3689348814741910323 : Int64)) + (((((p0 - ((((p0 : Int64).toUInt64 >>> ((1 : Int32).toInt64.toUInt64 &&& Int64.toUInt64 63)).toInt64) &&& (6148914691236517205 : Int64))) : Int64).toUInt64 >>> ((2 : Int32).toInt64.toUInt64 &&& Int64.toUInt64 63)).toInt64) &&& (3689348814741910323 : Int64))) + ((((((p0 - ((((p0 : Int64).toUInt64 >>> ((1 : Int32).toInt64.toUInt64 &&& Int64.toUInt64 63)).toInt64) &&& (6148914691236517205 : Int64))) &&& (3689348814741910323 : Int64)) + (((((p0 - ((((p0 : Int64).toUInt64 >>> ((1 : Int32).toInt64.toUInt64 &&& Int64.toUInt64 63)).toInt64) &&& (6148914691236517205 : Int64))) : Int64).toUInt64 >>> ((2 : Int32).toInt64.toUInt64 &&& Int64.toUInt64 63)).toInt64) &&& (3689348814741910323 : Int64))) : Int64).toUInt64 >>> ((4 : Int32).toInt64.toUInt64 &&& Int64.toUInt64 63)).toInt64)) &&& (1085102592571150095 : Int64)) + ((((((((p0 - ((((p0 : Int64).toUInt64 >>> ((1 : Int32).toInt64.toUInt64 &&& Int64.toUInt64 63)).toInt64) &&& (6148914691236517205 : Int64))) &&& (3689348814741910323 : Int64)) + (((((p0 - ((((p0 : Int64).toUInt64 >>> ((1 : Int32).toInt64.toUInt64 &&& Int64.toUInt64 63)).toInt64) &&& (6148914691236517205 : Int64))) : Int64).toUInt64 >>> ((2 : Int32).toInt64.toUInt64 &&& Int64.toUInt64 63)).toInt64) &&& (3689348814741910323 : Int64))) + ((((((p0 - ((((p0 : Int64).toUInt64 >>> ((1 : Int32).toInt64.toUInt64 &&& Int64.toUInt64 63)).toInt64) &&& (6148914691236517205 : Int64))) &&& (3689348814741910323 : Int64)) + (((((p0 - ((((p0 : Int64).toUInt64 >>> ((1 : Int32).toInt64.toUInt64 &&& Int64.toUInt64 63)).toInt64) &&& (6148914691236517205 : Int64))) : Int64).toUInt64 >>> ((2 : Int32).toInt64.toUInt64 &&& Int64.toUInt64 63)).toInt64) &&& (3689348814741910323 : Int64))) : Int64).toUInt64 >>> ((4 : Int32).toInt64.toUInt64 &&& Int64.toUInt64 63)).toInt64)) &&& (1085102592571150095 : Int64)) : Int64).toUInt64 >>> ((8 : Int32).toInt64.toUInt64 &&& Int64.toUInt64 63)).toInt64)) + (((((((((p0 - ((((p0 : Int64).toUInt64 >>> ((1 : Int32).toInt64.toUInt64 &&& Int64.toUInt64 63)).toInt64) &&& (6148914691236517205 : Int64))) &&& (3689348814741910323 : Int64)) + (((((p0 - ((((p0 : Int64).toUInt64 >>> ((1 : Int32).toInt64.toUInt64 &&& Int64.toUInt64 63)).toInt64) &&& (6148914691236517205 : Int64))) : Int64).toUInt64 >>> ((2 : Int32).toInt64.toUInt64 &&& Int64.toUInt64 63)).toInt64) &&& (3689348814741910323 : Int64))) + ((((((p0 - ((((p0 : Int64).toUInt64 >>> ((1 : Int32).toInt64.toUInt64 &&& Int64.toUInt64 63)).toInt64) &&& (6148914691236517205 : Int64))) &&& (3689348814741910323 : Int64)) + (((((p0 - ((((p0 : Int64).toUInt64 >>> ((1 : Int32).toInt64.toUInt64 &&& Int64.toUInt64 63)).toInt64) &&& (6148914691236517205 : Int64))) : Int64).toUInt64 >>> ((2 : Int32).toInt64.toUInt64 &&& Int64.toUInt64 63)).toInt64) &&& (3689348814741910323 : Int64))) : Int64).toUInt64 >>> ((4 : Int32).toInt64.toUInt64 &&& Int64.toUInt64 63)).toInt64)) &&& (1085102592571150095 : Int64)) + ((((((((p0 - ((((p0 : Int64).toUInt64 >>> ((1 : Int32).toInt64.toUInt64 &&& Int64.toUInt64 63)).toInt64) &&& (6148914691236517205 : Int64))) &&& (3689348814741910323 : Int64)) + (((((p0 - ((((p0 : Int64).toUInt64 >>> ((1 : Int32).toInt64.toUInt64 &&& Int64.toUInt64 63)).toInt64) &&& (6148914691236517205 : Int64))) : Int64).toUInt64 >>> ((2 : Int32).toInt64.toUInt64 &&& Int64.toUInt64 63)).toInt64) &&& (3689348814741910323 : Int64))) + ((((((p0 - ((((p0 : Int64).toUInt64 >>> ((1 : Int32).toInt64.toUInt64 &&& Int64.toUInt64 63)).toInt64) &&& (6148914691236517205 : Int64))) &&& (3689348814741910323 : Int64)) + (((((p0 - ((((p0 : Int64).toUInt64 >>> ((1 : Int32).toInt64.toUInt64 &&& Int64.toUInt64 63)).toInt64) &&& (6148914691236517205 : Int64))) : Int64).toUInt64 >>> ((2 : Int32).toInt64.toUInt64 &&& Int64.toUInt64 63)).toInt64) &&& (3689348814741910323 : Int64))) : Int64).toUInt64 >>> ((4 : Int32).toInt64.toUInt64 &&& Int64.toUInt64 63)).toInt64)) &&& (1085102592571150095 : Int64)) : Int64).toUInt64 >>> ((8 : Int32).toInt64.toUInt64 &&& Int64.toUInt64 63)).toInt64)) : Int64).toUInt64 >>> ((16 : Int32).toInt64.toUInt64 &&& Int64.toUInt64 63)).toInt64)))]) hx hb dJ13_bitCount_95d88_47 rfl hl (by decide) rfl (fun ls hl => ?_)
  refine lv_lload_n hx hb dJ13_bitCount_95d88_48 rfl (lv_at hl 0 rfl) ?_
  refine lv_lload_n hx hb dJ13_bitCount_95d88_49 rfl (lv_at hl 0 rfl) ?_
  refine lv_bipush (v := 32) hx hb dJ13_bitCount_95d88_50 (by decide) ?_
  refine lv_lushr (v := ((((((((((p0 - ((((p0 : Int64).toUInt64 >>> ((1 : Int32).toInt64.toUInt64 &&& Int64.toUInt64 63)).toInt64) &&& (6148914691236517205 : Int64))) &&& (3689348814741910323 : Int64)) + (((((p0 - ((((p0 : Int64).toUInt64 >>> ((1 : Int32).toInt64.toUInt64 &&& Int64.toUInt64 63)).toInt64) &&& (6148914691236517205 : Int64))) : Int64).toUInt64 >>> ((2 : Int32).toInt64.toUInt64 &&& Int64.toUInt64 63)).toInt64) &&& (3689348814741910323 : Int64))) + ((((((p0 - ((((p0 : Int64).toUInt64 >>> ((1 : Int32).toInt64.toUInt64 &&& Int64.toUInt64 63)).toInt64) &&& (6148914691236517205 : Int64))) &&& (3689348814741910323 : Int64)) + (((((p0 - ((((p0 : Int64).toUInt64 >>> ((1 : Int32).toInt64.toUInt64 &&& Int64.toUInt64 63)).toInt64) &&& (6148914691236517205 : Int64))) : Int64).toUInt64 >>> ((2 : Int32).toInt64.toUInt64 &&& Int64.toUInt64 63)).toInt64) &&& (3689348814741910323 : Int64))) : Int64).toUInt64 >>> ((4 : Int32).toInt64.toUInt64 &&& Int64.toUInt64 63)).toInt64)) &&& (1085102592571150095 : Int64)) + ((((((((p0 - ((((p0 : Int64).toUInt64 >>> ((1 : Int32).toInt64.toUInt64 &&& Int64.toUInt64 63)).toInt64) &&& (6148914691236517205 : Int64))) &&& (3689348814741910323 : Int64)) + (((((p0 - ((((p0 : Int64).toUInt64 >>> ((1 : Int32).toInt64.toUInt64 &&& Int64.toUInt64 63)).toInt64) &&& (6148914691236517205 : Int64))) : Int64).toUInt64 >>> ((2 : Int32).toInt64.toUInt64 &&& Int64.toUInt64 63)).toInt64) &&& (3689348814741910323 : Int64))) + ((((((p0 - ((((p0 : Int64).toUInt64 >>> ((1 : Int32).toInt64.toUInt64 &&& Int64.toUInt64 63)).toInt64) &&& (6148914691236517205 : Int64))) &&& (3689348814741910323 : Int64)) + (((((p0 - ((((p0 : Int64).toUInt64 >>> ((1 : Int32).toInt64.toUInt64 &&& Int64.toUInt64 63)).toInt64) &&& (6148914691236517205 : Int64))) : Int64).toUInt64 >>> ((2 : Int32).toInt64.toUInt64 &&& Int64.toUInt64 63)).toInt64) &&& (3689348814741910323 : Int64))) : Int64).toUInt64 >>> ((4 : Int32).toInt64.toUInt64 &&& Int64.toUInt64 63)).toInt64)) &&& (1085102592571150095 : Int64)) : Int64).toUInt64 >>> ((8 : Int32).toInt64.toUInt64 &&& Int64.toUInt64 63)).toInt64)) + (((((((((p0 - ((((p0 : Int64).toUInt64 >>> ((1 : Int32).toInt64.toUInt64 &&& Int64.toUInt64 63)).toInt64) &&& (6148914691236517205 : Int64))) &&& (3689348814741910323 : Int64)) + (((((p0 - ((((p0 : Int64).toUInt64 >>> ((1 : Int32).toInt64.toUInt64 &&& Int64.toUInt64 63)).toInt64) &&& (6148914691236517205 : Int64))) : Int64).toUInt64 >>> ((2 : Int32).toInt64.toUInt64 &&& Int64.toUInt64 63)).toInt64) &&& (3689348814741910323 : Int64))) + ((((((p0 - ((((p0 : Int64).toUInt64 >>> ((1 : Int32).toInt64.toUInt64 &&& Int64.toUInt64 63)).toInt64) &&& (6148914691236517205 : Int64))) &&& (3689348814741910323 : Int64)) + (((((p0 - ((((p0 : Int64).toUInt64 >>> ((1 : Int32).toInt64.toUInt64 &&& Int64.toUInt64 63)).toInt64) &&& (6148914691236517205 : Int64))) : Int64).toUInt64 >>> ((2 : Int32).toInt64.toUInt64 &&& Int64.toUInt64 63)).toInt64) &&& (3689348814741910323 : Int64))) : Int64).toUInt64 >>> ((4 : Int32).toInt64.toUInt64 &&& Int64.toUInt64 63)).toInt64)) &&& (1085102592571150095 : Int64)) + ((((((((p0 - ((((p0 : Int64).toUInt64 >>> ((1 : Int32).toInt64.toUInt64 &&& Int64.toUInt64 63)).toInt64) &&& (6148914691236517205 : Int64))) &&& (3689348814741910323 : Int64)) + (((((p0 - ((((p0 : Int64).toUInt64 >>> ((1 : Int32).toInt64.toUInt64 &&& Int64.toUInt64 63)).toInt64) &&& (6148914691236517205 : Int64))) : Int64).toUInt64 >>> ((2 : Int32).toInt64.toUInt64 &&& Int64.toUInt64 63)).toInt64) &&& (3689348814741910323 : Int64))) + ((((((p0 - ((((p0 : Int64).toUInt64 >>> ((1 : Int32).toInt64.toUInt64 &&& Int64.toUInt64 63)).toInt64) &&& (6148914691236517205 : Int64))) &&& (3689348814741910323 : Int64)) + (((((p0 - ((((p0 : Int64).toUInt64 >>> ((1 : Int32).toInt64.toUInt64 &&& Int64.toUInt64 63)).toInt64) &&& (6148914691236517205 : Int64))) : Int64).toUInt64 >>> ((2 : Int32).toInt64.toUInt64 &&& Int64.toUInt64 63)).toInt64) &&& (3689348814741910323 : Int64))) : Int64).toUInt64 >>> ((4 : Int32).toInt64.toUInt64 &&& Int64.toUInt64 63)).toInt64)) &&& (1085102592571150095 : Int64)) : Int64).toUInt64 >>> ((8 : Int32).toInt64.toUInt64 &&& Int64.toUInt64 63)).toInt64)) : Int64).toUInt64 >>> ((16 : Int32).toInt64.toUInt64 &&& Int64.toUInt64 63)).toInt64)) : Int64).toUInt64 >>> ((32 : Int32).toInt64.toUInt64 &&& Int64.toUInt64 63)).toInt64)) hx hb dJ13_bitCount_95d88_52 rfl ?_
  refine lv_ladd hx hb dJ13_bitCount_95d88_53 ?_
  refine lv_lstore_n (lv' := [(0, .long ((((((((p0 - ((((p0 : Int64).toUInt64 >>> ((1 : Int32).toInt64.toUInt64 &&& Int64.toUInt64 63)).toInt64) &&& (6148914691236517205 : Int64))) &&& (3689348814741910323 : Int64)) + (((((p0 - ((((p0 : Int64).toUInt64 >>> ((1 : Int32).toInt64.toUInt64 &&& Int64.toUInt64 63)).toInt64) &&& (6148914691236517205 : Int64))) : Int64).toUInt64 >>> ((2 : Int32).toInt64.toUInt64 &&& Int64.toUInt64 63)).toInt64) &&& (3689348814741910323 : Int64))) + ((((((p0 - ((((p0 : Int64).toUInt64 >>> ((1 : Int32).toInt64.toUInt64 &&& Int64.toUInt64 63)).toInt64) &&& (6148914691236517205 : Int64))) &&& (3689348814741910323 : Int64)) + (((((p0 - ((((p0 : Int64).toUInt64 >>> ((1 : Int32).toInt64.toUInt64 &&& Int64.toUInt64 63)).toInt64) &&& (6148914691236517205 : Int64))) : Int64).toUInt64 >>> ((2 : Int32).toInt64.toUInt64 &&& Int64.toUInt64 63)).toInt64) &&& (3689348814741910323 : Int64))) : Int64).toUInt64 >>> ((4 : Int32).toInt64.toUInt64 &&& Int64.toUInt64 63)).toInt64)) &&& (1085102592571150095 : Int64)) + ((((((((p0 - ((((p0 : Int64).toUInt64 >>> ((1 : Int32).toInt64.toUInt64 &&& Int64.toUInt64 63)).toInt64) &&& (6148914691236517205 : Int64))) &&& (3689348814741910323 : Int64)) + (((((p0 - ((((p0 : Int64).toUInt64 >>> ((1 : Int32).toInt64.toUInt64 &&& Int64.toUInt64 63)).toInt64) &&& (6148914691236517205 : Int64))) : Int64).toUInt64 >>> ((2 : Int32).toInt64.toUInt64 &&& Int64.toUInt64 63)).toInt64) &&& (3689348814741910323 : Int64))) + ((((((p0 - ((((p0 : Int64).toUInt64 >>> ((1 : Int32).toInt64.toUInt64 &&& Int64.toUInt64 63)).toInt64) &&& (6148914691236517205 : Int64))) &&& (3689348814741910323 : Int64)) + (((((p0 - ((((p0 : Int64).toUInt64 >>> ((1 : Int32).toInt64.toUInt64 &&& Int64.toUInt64 63)).toInt64) &&& (6148914691236517205 : Int64))) : Int64).toUInt64 >>> ((2 : Int32).toInt64.toUInt64 &&& Int64.toUInt64 63)).toInt64) &&& (3689348814741910323 : Int64))) : Int64).toUInt64 >>> ((4 : Int32).toInt64.toUInt64 &&& Int64.toUInt64 63)).toInt64)) &&& (1085102592571150095 : Int64)) : Int64).toUInt64 >>> ((8 : Int32).toInt64.toUInt64 &&& Int64.toUInt64 63)).toInt64)) + (((((((((p0 - ((((p0 : Int64).toUInt64 >>> ((1 : Int32).toInt64.toUInt64 &&& Int64.toUInt64 63)).toInt64) &&& (6148914691236517205 : Int64))) &&& (3689348814741910323 : Int64)) + (((((p0 - ((((p0 : Int64).toUInt64 >>> ((1 : Int32).toInt64.toUInt64 &&& Int64.toUInt64 63)).toInt64) &&& (6148914691236517205 : Int64))) : Int64).toUInt64 >>> ((2 : Int32).toInt64.toUInt64 &&& Int64.toUInt64 63)).toInt64) &&& (3689348814741910323 : Int64))) + ((((((p0 - ((((p0 : Int64).toUInt64 >>> ((1 : Int32).toInt64.toUInt64 &&& Int64.toUInt64 63)).toInt64) &&& (6148914691236517205 : Int64))) &&& (3689348814741910323 : Int64)) + (((((p0 - ((((p0 : Int64).toUInt64 >>> ((1 : Int32).toInt64.toUInt64 &&& Int64.toUInt64 63)).toInt64) &&& (6148914691236517205 : Int64))) : Int64).toUInt64 >>> ((2 : Int32).toInt64.toUInt64 &&& Int64.toUInt64 63)).toInt64) &&& (3689348814741910323 : Int64))) : Int64).toUInt64 >>> ((4 : Int32).toInt64.toUInt64 &&& Int64.toUInt64 63)).toInt64)) &&& (1085102592571150095 : Int64)) + ((((((((p0 - ((((p0 : Int64).toUInt64 >>> ((1 : Int32).toInt64.toUInt64 &&& Int64.toUInt64 63)).toInt64) &&& (6148914691236517205 : Int64))) &&& (3689348814741910323 : Int64)) + (((((p0 - ((((p0 : Int64).toUInt64 >>> ((1 : Int32).toInt64.toUInt64 &&& Int64.toUInt64 63)).toInt64) &&& (6148914691236517205 : Int64))) : Int64).toUInt64 >>> ((2 : Int32).toInt64.toUInt64 &&& Int64.toUInt64 63)).toInt64) &&& (3689348814741910323 : Int64))) + ((((((p0 - ((((p0 : Int64).toUInt64 >>> ((1 : Int32).toInt64.toUInt64 &&& Int64.toUInt64 63)).toInt64) &&& (6148914691236517205 : Int64))) &&& (3689348814741910323 : Int64)) + (((((p0 - ((((p0 : Int64).toUInt64 >>> ((1 : Int32).toInt64.toUInt64 &&& Int64.toUInt64 63)).toInt64) &&& (6148914691236517205 : Int64))) : Int64).toUInt64 >>> ((2 : Int32).toInt64.toUInt64 &&& Int64.toUInt64 63)).toInt64) &&& (3689348814741910323 : Int64))) : Int64).toUInt64 >>> ((4 : Int32).toInt64.toUInt64 &&& Int64.toUInt64 63)).toInt64)) &&& (1085102592571150095 : Int64)) : Int64).toUInt64 >>> ((8 : Int32).toInt64.toUInt64 &&& Int64.toUInt64 63)).toInt64)) : Int64).toUInt64 >>> ((16 : Int32).toInt64.toUInt64 &&& Int64.toUInt64 63)).toInt64)) + ((((((((((p0 - ((((p0 : Int64).toUInt64 >>> ((1 : Int32).toInt64.toUInt64 &&& Int64.toUInt64 63)).toInt64) &&& (6148914691236517205 : Int64))) &&& (3689348814741910323 : Int64)) + (((((p0 - ((((p0 : Int64).toUInt64 >>> ((1 : Int32).toInt64.toUInt64 &&& Int64.toUInt64 63)).toInt64) &&& (6148914691236517205 : Int64))) : Int64).toUInt64 >>> ((2 : Int32).toInt64.toUInt64 &&& Int64.toUInt64 63)).toInt64) &&& (3689348814741910323 : Int64))) + ((((((p0 - ((((p0 : Int64).toUInt64 >>> ((1 : Int32).toInt64.toUInt64 &&& Int64.toUInt64 63)).toInt64) &&& (6148914691236517205 : Int64))) &&& (3689348814741910323 : Int64)) + (((((p0 - ((((p0 : Int64).toUInt64 >>> ((1 : Int32).toInt64.toUInt64 &&& Int64.toUInt64 63)).toInt64) &&& (6148914691236517205 : Int64))) : Int64).toUInt64 >>> ((2 : Int32).toInt64.toUInt64 &&& Int64.toUInt64 63)).toInt64) &&& (3689348814741910323 : Int64))) : Int64).toUInt64 >>> ((4 : Int32).toInt64.toUInt64 &&& Int64.toUInt64 63)).toInt64)) &&& (1085102592571150095 : Int64)) + ((((((((p0 - ((((p0 : Int64).toUInt64 >>> ((1 : Int32).toInt64.toUInt64 &&& Int64.toUInt64 63)).toInt64) &&& (6148914691236517205 : Int64))) &&& (3689348814741910323 : Int64)) + (((((p0 - ((((p0 : Int64).toUInt64 >>> ((1 : Int32).toInt64.toUInt64 &&& Int64.toUInt64 63)).toInt64) &&& (6148914691236517205 : Int64))) : Int64).toUInt64 >>> ((2 : Int32).toInt64.toUInt64 &&& Int64.toUInt64 63)).toInt64) &&& (3689348814741910323 : Int64))) + ((((((p0 - ((((p0 : Int64).toUInt64 >>> ((1 : Int32).toInt64.toUInt64 &&& Int64.toUInt64 63)).toInt64) &&& (6148914691236517205 : Int64))) &&& (3689348814741910323 : Int64)) + (((((p0 - ((((p0 : Int64).toUInt64 >>> ((1 : Int32).toInt64.toUInt64 &&& Int64.toUInt64 63)).toInt64) &&& (6148914691236517205 : Int64))) : Int64).toUInt64 >>> ((2 : Int32).toInt64.toUInt64 &&& Int64.toUInt64 63)).toInt64) &&& (3689348814741910323 : Int64))) : Int64).toUInt64 >>> ((4 : Int32).toInt64.toUInt64 &&& Int64.toUInt64 63)).toInt64)) &&& (1085102592571150095 : Int64)) : Int64).toUInt64 >>> ((8 : Int32).toInt64.toUInt64 &&& Int64.toUInt64 63)).toInt64)) + (((((((((p0 - ((((p0 : Int64).toUInt64 >>> ((1 : Int32).toInt64.toUInt64 &&& Int64.toUInt64 63)).toInt64) &&& (6148914691236517205 : Int64))) &&& (3689348814741910323 : Int64)) + (((((p0 - ((((p0 : Int64).toUInt64 >>> ((1 : Int32).toInt64.toUInt64 &&& Int64.toUInt64 63)).toInt64) &&& (6148914691236517205 : Int64))) : Int64).toUInt64 >>> ((2 : Int32).toInt64.toUInt64 &&& Int64.toUInt64 63)).toInt64) &&& (3689348814741910323 : Int64))) + ((((((p0 - ((((p0 : Int64).toUInt64 >>> ((1 : Int32).toInt64.toUInt64 &&& Int64.toUInt64 63)).toInt64) &&& (6148914691236517205 : Int64))) &&& (3689348814741910323 : Int64)) + (((((p0 - ((((p0 : Int64).toUInt64 >>> ((1 : Int32).toInt64.toUInt64 &&& Int64.toUInt64 63)).toInt64) &&& (6148914691236517205 : Int64))) : Int64).toUInt64 >>> ((2 : Int32).toInt64.toUInt64 &&& Int64.toUInt64 63)).toInt64) &&& (3689348814741910323 : Int64))) : Int64).toUInt64 >>> ((4 : Int32).toInt64.toUInt64 &&& Int64.toUInt64 63)).toInt64)) &&& (1085102592571150095 : Int64)) + ((((((((p0 - ((((p0 : Int64).toUInt64 >>> ((1 : Int32).toInt64.toUInt64 &&& Int64.toUInt64 63)).toInt64) &&& (6148914691236517205 : Int64))) &&& (3689348814741910323 : Int64)) + (((((p0 - ((((p0 : Int64).toUInt64 >>> ((1 : Int32).toInt64.toUInt64 &&& Int64.toUInt64 63)).toInt64) &&& (6148914691236517205 : Int64))) : Int64).toUInt64 >>> ((2 : Int32).toInt64.toUInt64 &&& Int64.toUInt64 63)).toInt64) &&& (3689348814741910323 : Int64))) + ((((((p0 - ((((p0 : Int64).toUInt64 >>> ((1 : Int32).toInt64.toUInt64 &&& Int64.toUInt64 63)).toInt64) &&& (6148914691236517205 : Int64))) &&& (3689348814741910323 : Int64)) + (((((p0 - ((((p0 : Int64).toUInt64 >>> ((1 : Int32).toInt64.toUInt64 &&& Int64.toUInt64 63)).toInt64) &&& (6148914691236517205 : Int64))) : Int64).toUInt64 >>> ((2 : Int32).toInt64.toUInt64 &&& Int64.toUInt64 63)).toInt64) &&& (3689348814741910323 : Int64))) : Int64).toUInt64 >>> ((4 : Int32).toInt64.toUInt64 &&& Int64.toUInt64 63)).toInt64)) &&& (1085102592571150095 : Int64)) : Int64).toUInt64 >>> ((8 : Int32).toInt64.toUInt64 &&& Int64.toUInt64 63)).toInt64)) : Int64).toUInt64 >>> ((16 : Int32).toInt64.toUInt64 &&& Int64.toUInt64 63)).toInt64)) : Int64).toUInt64 >>> ((32 : Int32).toInt64.toUInt64 &&& Int64.toUInt64 63)).toInt64)))]) hx hb dJ13_bitCount_95d88_54 rfl hl (by decide) rfl (fun ls hl => ?_)
  refine lv_lload_n hx hb dJ13_bitCount_95d88_55 rfl (lv_at hl 0 rfl) ?_
  refine lv_l2i (v := ((((((((((p0 - ((((p0 : Int64).toUInt64 >>> ((1 : Int32).toInt64.toUInt64 &&& Int64.toUInt64 63)).toInt64) &&& (6148914691236517205 : Int64))) &&& (3689348814741910323 : Int64)) + (((((p0 - ((((p0 : Int64).toUInt64 >>> ((1 : Int32).toInt64.toUInt64 &&& Int64.toUInt64 63)).toInt64) &&& (6148914691236517205 : Int64))) : Int64).toUInt64 >>> ((2 : Int32).toInt64.toUInt64 &&& Int64.toUInt64 63)).toInt64) &&& (3689348814741910323 : Int64))) + ((((((p0 - ((((p0 : Int64).toUInt64 >>> ((1 : Int32).toInt64.toUInt64 &&& Int64.toUInt64 63)).toInt64) &&& (6148914691236517205 : Int64))) &&& (3689348814741910323 : Int64)) + (((((p0 - ((((p0 : Int64).toUInt64 >>> ((1 : Int32).toInt64.toUInt64 &&& Int64.toUInt64 63)).toInt64) &&& (6148914691236517205 : Int64))) : Int64).toUInt64 >>> ((2 : Int32).toInt64.toUInt64 &&& Int64.toUInt64 63)).toInt64) &&& (3689348814741910323 : Int64))) : Int64).toUInt64 >>> ((4 : Int32).toInt64.toUInt64 &&& Int64.toUInt64 63)).toInt64)) &&& (1085102592571150095 : Int64)) + ((((((((p0 - ((((p0 : Int64).toUInt64 >>> ((1 : Int32).toInt64.toUInt64 &&& Int64.toUInt64 63)).toInt64) &&& (6148914691236517205 : Int64))) &&& (3689348814741910323 : Int64)) + (((((p0 - ((((p0 : Int64).toUInt64 >>> ((1 : Int32).toInt64.toUInt64 &&& Int64.toUInt64 63)).toInt64) &&& (6148914691236517205 : Int64))) : Int64).toUInt64 >>> ((2 : Int32).toInt64.toUInt64 &&& Int64.toUInt64 63)).toInt64) &&& (3689348814741910323 : Int64))) + ((((((p0 - ((((p0 : Int64).toUInt64 >>> ((1 : Int32).toInt64.toUInt64 &&& Int64.toUInt64 63)).toInt64) &&& (6148914691236517205 : Int64))) &&& (3689348814741910323 : Int64)) + (((((p0 - ((((p0 : Int64).toUInt64 >>> ((1 : Int32).toInt64.toUInt64 &&& Int64.toUInt64 63)).toInt64) &&& (6148914691236517205 : Int64))) : Int64).toUInt64 >>> ((2 : Int32).toInt64.toUInt64 &&& Int64.toUInt64 63)).toInt64) &&& (3689348814741910323 : Int64))) : Int64).toUInt64 >>> ((4 : Int32).toInt64.toUInt64 &&& Int64.toUInt64 63)).toInt64)) &&& (1085102592571150095 : Int64)) : Int64).toUInt64 >>> ((8 : Int32).toInt64.toUInt64 &&& Int64.toUInt64 63)).toInt64)) + (((((((((p0 - ((((p0 : Int64).toUInt64 >>> ((1 : Int32).toInt64.toUInt64 &&& Int64.toUInt64 63)).toInt64) &&& (6148914691236517205 : Int64))) &&& (3689348814741910323 : Int64)) + (((((p0 - ((((p0 : Int64).toUInt64 >>> ((1 : Int32).toInt64.toUInt64 &&& Int64.toUInt64 63)).toInt64) &&& (6148914691236517205 : Int64))) : Int64).toUInt64 >>> ((2 : Int32).toInt64.toUInt64 &&& Int64.toUInt64 63)).toInt64) &&& (3689348814741910323 : Int64))) + ((((((p0 - ((((p0 : Int64).toUInt64 >>> ((1 : Int32).toInt64.toUInt64 &&& Int64.toUInt64 63)).toInt64) &&& (6148914691236517205 : Int64))) &&& (3689348814741910323 : Int64)) + (((((p0 - ((((p0 : Int64).toUInt64 >>> ((1 : Int32).toInt64.toUInt64 &&& Int64.toUInt64 63)).toInt64) &&& (6148914691236517205 : Int64))) : Int64).toUInt64 >>> ((2 : Int32).toInt64.toUInt64 &&& Int64.toUInt64 63)).toInt64) &&& (3689348814741910323 : Int64))) : Int64).toUInt64 >>> ((4 : Int32).toInt64.toUInt64 &&& Int64.toUInt64 63)).toInt64)) &&& (1085102592571150095 : Int64)) + ((((((((p0 - ((((p0 : Int64).toUInt64 >>> ((1 : Int32).toInt64.toUInt64 &&& Int64.toUInt64 63)).toInt64) &&& (6148914691236517205 : Int64))) &&& (3689348814741910323 : Int64)) + (((((p0 - ((((p0 : Int64).toUInt64 >>> ((1 : Int32).toInt64.toUInt64 &&& Int64.toUInt64 63)).toInt64) &&& (6148914691236517205 : Int64))) : Int64).toUInt64 >>> ((2 : Int32).toInt64.toUInt64 &&& Int64.toUInt64 63)).toInt64) &&& (3689348814741910323 : Int64))) + ((((((p0 - ((((p0 : Int64).toUInt64 >>> ((1 : Int32).toInt64.toUInt64 &&& Int64.toUInt64 63)).toInt64) &&& (6148914691236517205 : Int64))) &&& (3689348814741910323 : Int64)) + (((((p0 - ((((p0 : Int64).toUInt64 >>> ((1 : Int32).toInt64.toUInt64 &&& Int64.toUInt64 63)).toInt64) &&& (6148914691236517205 : Int64))) : Int64).toUInt64 >>> ((2 : Int32).toInt64.toUInt64 &&& Int64.toUInt64 63)).toInt64) &&& (3689348814741910323 : Int64))) : Int64).toUInt64 >>> ((4 : Int32).toInt64.toUInt64 &&& Int64.toUInt64 63)).toInt64)) &&& (1085102592571150095 : Int64)) : Int64).toUInt64 >>> ((8 : Int32).toInt64.toUInt64 &&& Int64.toUInt64 63)).toInt64)) : Int64).toUInt64 >>> ((16 : Int32).toInt64.toUInt64 &&& Int64.toUInt64 63)).toInt64)) + ((((((((((p0 - ((((p0 : Int64).toUInt64 >>> ((1 : Int32).toInt64.toUInt64 &&& Int64.toUInt64 63)).toInt64) &&& (6148914691236517205 : Int64))) &&& (3689348814741910323 : Int64)) + (((((p0 - ((((p0 : Int64).toUInt64 >>> ((1 : Int32).toInt64.toUInt64 &&& Int64.toUInt64 63)).toInt64) &&& (6148914691236517205 : Int64))) : Int64).toUInt64 >>> ((2 : Int32).toInt64.toUInt64 &&& Int64.toUInt64 63)).toInt64) &&& (3689348814741910323 : Int64))) + ((((((p0 - ((((p0 : Int64).toUInt64 >>> ((1 : Int32).toInt64.toUInt64 &&& Int64.toUInt64 63)).toInt64) &&& (6148914691236517205 : Int64))) &&& (3689348814741910323 : Int64)) + (((((p0 - ((((p0 : Int64).toUInt64 >>> ((1 : Int32).toInt64.toUInt64 &&& Int64.toUInt64 63)).toInt64) &&& (6148914691236517205 : Int64))) : Int64).toUInt64 >>> ((2 : Int32).toInt64.toUInt64 &&& Int64.toUInt64 63)).toInt64) &&& (3689348814741910323 : Int64))) : Int64).toUInt64 >>> ((4 : Int32).toInt64.toUInt64 &&& Int64.toUInt64 63)).toInt64)) &&& (1085102592571150095 : Int64)) + ((((((((p0 - ((((p0 : Int64).toUInt64 >>> ((1 : Int32).toInt64.toUInt64 &&& Int64.toUInt64 63)).toInt64) &&& (6148914691236517205 : Int64))) &&& (3689348814741910323 : Int64)) + (((((p0 - ((((p0 : Int64).toUInt64 >>> ((1 : Int32).toInt64.toUInt64 &&& Int64.toUInt64 63)).toInt64) &&& (6148914691236517205 : Int64))) : Int64).toUInt64 >>> ((2 : Int32).toInt64.toUInt64 &&& Int64.toUInt64 63)).toInt64) &&& (3689348814741910323 : Int64))) + ((((((p0 - ((((p0 : Int64).toUInt64 >>> ((1 : Int32).toInt64.toUInt64 &&& Int64.toUInt64 63)).toInt64) &&& (6148914691236517205 : Int64))) &&& (3689348814741910323 : Int64)) + (((((p0 - ((((p0 : Int64).toUInt64 >>> ((1 : Int32).toInt64.toUInt64 &&& Int64.toUInt64 63)).toInt64) &&& (6148914691236517205 : Int64))) : Int64).toUInt64 >>> ((2 : Int32).toInt64.toUInt64 &&& Int64.toUInt64 63)).toInt64) &&& (3689348814741910323 : Int64))) : Int64).toUInt64 >>> ((4 : Int32).toInt64.toUInt64 &&& Int64.toUInt64 63)).toInt64)) &&& (1085102592571150095 : Int64)) : Int64).toUInt64 >>> ((8 : Int32).toInt64.toUInt64 &&& Int64.toUInt64 63)).toInt64)) + (((((((((p0 - ((((p0 : Int64).toUInt64 >>> ((1 : Int32).toInt64.toUInt64 &&& Int64.toUInt64 63)).toInt64) &&& (6148914691236517205 : Int64))) &&& (3689348814741910323 : Int64)) + (((((p0 - ((((p0 : Int64).toUInt64 >>> ((1 : Int32).toInt64.toUInt64 &&& Int64.toUInt64 63)).toInt64) &&& (6148914691236517205 : Int64))) : Int64).toUInt64 >>> ((2 : Int32).toInt64.toUInt64 &&& Int64.toUInt64 63)).toInt64) &&& (3689348814741910323 : Int64))) + ((((((p0 - ((((p0 : Int64).toUInt64 >>> ((1 : Int32).toInt64.toUInt64 &&& Int64.toUInt64 63)).toInt64) &&& (6148914691236517205 : Int64))) &&& (3689348814741910323 : Int64)) + (((((p0 - ((((p0 : Int64).toUInt64 >>> ((1 : Int32).toInt64.toUInt64 &&& Int64.toUInt64 63)).toInt64) &&& (6148914691236517205 : Int64))) : Int64).toUInt64 >>> ((2 : Int32).toInt64.toUInt64 &&& Int64.toUInt64 63)).toInt64) &&& (3689348814741910323 : Int64))) : Int64).toUInt64 >>> ((4 : Int32).toInt64.toUInt64 &&& Int64.toUInt64 63)).toInt64)) &&& (1085102592571150095 : Int64)) + ((((((((p0 - ((((p0 : Int64).toUInt64 >>> ((1 : Int32).toInt64.toUInt64 &&& Int64.toUInt64 63)).toInt64) &&& (6148914691236517205 : Int64))) &&& (3689348814741910323 : Int64)) + (((((p0 - ((((p0 : Int64).toUInt64 >>> ((1 : Int32).toInt64.toUInt64 &&& Int64.toUInt64 63)).toInt64) &&& (6148914691236517205 : Int64))) : Int64).toUInt64 >>> ((2 : Int32).toInt64.toUInt64 &&& Int64.toUInt64 63)).toInt64) &&& (3689348814741910323 : Int64))) + ((((((p0 - ((((p0 : Int64).toUInt64 >>> ((1 : Int32).toInt64.toUInt64 &&& Int64.toUInt64 63)).toInt64) &&& (6148914691236517205 : Int64))) &&& (3689348814741910323 : Int64)) + (((((p0 - ((((p0 : Int64).toUInt64 >>> ((1 : Int32).toInt64.toUInt64 &&& Int64.toUInt64 63)).toInt64) &&& (6148914691236517205 : Int64))) : Int64).toUInt64 >>> ((2 : Int32).toInt64.toUInt64 &&& Int64.toUInt64 63)).toInt64) &&& (3689348814741910323 : Int64))) : Int64).toUInt64 >>> ((4 : Int32).toInt64.toUInt64 &&& Int64.toUInt64 63)).toInt64)) &&& (1085102592571150095 : Int64)) : Int64).toUInt64 >>> ((8 : Int32).toInt64.toUInt64 &&& Int64.toUInt64 63)).toInt64)) : Int64).toUInt64 >>> ((16 : Int32).toInt64.toUInt64 &&& Int64.toUInt64 63)).toInt64)) : Int64).toUInt64 >>> ((32 : Int32).toInt64.toUInt64 &&& Int64.toUInt64 63)).toInt64)) : Int64).toInt32)) hx hb dJ13_bitCount_95d88_56 rfl ?_
  refine lv_bipush (v := 127) hx hb dJ13_bitCount_95d88_57 (by decide) ?_
  refine lv_iand hx hb dJ13_bitCount_95d88_59 ?_
  have ho9 : (((((((((((p0 - ((((p0 : Int64).toUInt64 >>> ((1 : Int32).toInt64.toUInt64 &&& Int64.toUInt64 63)).toInt64) &&& (6148914691236517205 : Int64))) &&& (3689348814741910323 : Int64)) + (((((p0 - ((((p0 : Int64).toUInt64 >>> ((1 : Int32).toInt64.toUInt64 &&& Int64.toUInt64 63)).toInt64) &&& (6148914691236517205 : Int64))) : Int64).toUInt64 >>> ((2 : Int32).toInt64.toUInt64 &&& Int64.toUInt64 63)).toInt64) &&& (3689348814741910323 : Int64))) + ((((((p0 - ((((p0 : Int64).toUInt64 >>> ((1 : Int32).toInt64.toUInt64 &&& Int64.toUInt64 63)).toInt64) &&& (6148914691236517205 : Int64))) &&& (3689348814741910323 : Int64)) + (((((p0 - ((((p0 : Int64).toUInt64 >>> ((1 : Int32).toInt64.toUInt64 &&& Int64.toUInt64 63)).toInt64) &&& (6148914691236517205 : Int64))) : Int64).toUInt64 >>> ((2 : Int32).toInt64.toUInt64 &&& Int64.toUInt64 63)).toInt64) &&& (3689348814741910323 : Int64))) : Int64).toUInt64 >>> ((4 : Int32).toInt64.toUInt64 &&& Int64.toUInt64 63)).toInt64)) &&& (1085102592571150095 : Int64)) + ((((((((p0 - ((((p0 : Int64).toUInt64 >>> ((1 : Int32).toInt64.toUInt64 &&& Int64.toUInt64 63)).toInt64) &&& (6148914691236517205 : Int64))) &&& (3689348814741910323 : Int64)) + (((((p0 - ((((p0 : Int64).toUInt64 >>> ((1 : Int32).toInt64.toUInt64 &&& Int64.toUInt64 63)).toInt64) &&& (6148914691236517205 : Int64))) : Int64).toUInt64 >>> ((2 : Int32).toInt64.toUInt64 &&& Int64.toUInt64 63)).toInt64) &&& (3689348814741910323 : Int64))) + ((((((p0 - ((((p0 : Int64).toUInt64 >>> ((1 : Int32).toInt64.toUInt64 &&& Int64.toUInt64 63)).toInt64) &&& (6148914691236517205 : Int64))) &&& (3689348814741910323 : Int64)) + (((((p0 - ((((p0 : Int64).toUInt64 >>> ((1 : Int32).toInt64.toUInt64 &&& Int64.toUInt64 63)).toInt64) &&& (6148914691236517205 : Int64))) : Int64).toUInt64 >>> ((2 : Int32).toInt64.toUInt64 &&& Int64.toUInt64 63)).toInt64) &&& (3689348814741910323 : Int64))) : Int64).toUInt64 >>> ((4 : Int32).toInt64.toUInt64 &&& Int64.toUInt64 63)).toInt64)) &&& (1085102592571150095 : Int64)) : Int64).toUInt64 >>> ((8 : Int32).toInt64.toUInt64 &&& Int64.toUInt64 63)).toInt64)) + (((((((((p0 - ((((p0 : Int64).toUInt64 >>> ((1 : Int32).toInt64.toUInt64 &&& Int64.toUInt64 63)).toInt64) &&& (6148914691236517205 : Int64))) &&& (3689348814741910323 : Int64)) + (((((p0 - ((((p0 : Int64).toUInt64 >>> ((1 : Int32).toInt64.toUInt64 &&& Int64.toUInt64 63)).toInt64) &&& (6148914691236517205 : Int64))) : Int64).toUInt64 >>> ((2 : Int32).toInt64.toUInt64 &&& Int64.toUInt64 63)).toInt64) &&& (3689348814741910323 : Int64))) + ((((((p0 - ((((p0 : Int64).toUInt64 >>> ((1 : Int32).toInt64.toUInt64 &&& Int64.toUInt64 63)).toInt64) &&& (6148914691236517205 : Int64))) &&& (3689348814741910323 : Int64)) + (((((p0 - ((((p0 : Int64).toUInt64 >>> ((1 : Int32).toInt64.toUInt64 &&& Int64.toUInt64 63)).toInt64) &&& (6148914691236517205 : Int64))) : Int64).toUInt64 >>> ((2 : Int32).toInt64.toUInt64 &&& Int64.toUInt64 63)).toInt64) &&& (3689348814741910323 : Int64))) : Int64).toUInt64 >>> ((4 : Int32).toInt64.toUInt64 &&& Int64.toUInt64 63)).toInt64)) &&& (1085102592571150095 : Int64)) + ((((((((p0 - ((((p0 : Int64).toUInt64 >>> ((1 : Int32).toInt64.toUInt64 &&& Int64.toUInt64 63)).toInt64) &&& (6148914691236517205 : Int64))) &&& (3689348814741910323 : Int64)) + (((((p0 - ((((p0 : Int64).toUInt64 >>> ((1 : Int32).toInt64.toUInt64 &&& Int64.toUInt64 63)).toInt64) &&& (6148914691236517205 : Int64))) : Int64).toUInt64 >>> ((2 : Int32).toInt64.toUInt64 &&& Int64.toUInt64 63)).toInt64) &&& (3689348814741910323 : Int64))) + ((((((p0 - ((((p0 : Int64).toUInt64 >>> ((1 : Int32).toInt64.toUInt64 &&& Int64.toUInt64 63)).toInt64) &&& (6148914691236517205 : Int64))) &&& (3689348814741910323 : Int64)) + (((((p0 - ((((p0 : Int64).toUInt64 >>> ((1 : Int32).toInt64.toUInt64 &&& Int64.toUInt64 63)).toInt64) &&& (6148914691236517205 : Int64))) : Int64).toUInt64 >>> ((2 : Int32).toInt64.toUInt64 &&& Int64.toUInt64 63)).toInt64) &&& (3689348814741910323 : Int64))) : Int64).toUInt64 >>> ((4 : Int32).toInt64.toUInt64 &&& Int64.toUInt64 63)).toInt64)) &&& (1085102592571150095 : Int64)) : Int64).toUInt64 >>> ((8 : Int32).toInt64.toUInt64 &&& Int64.toUInt64 63)).toInt64)) : Int64).toUInt64 >>> ((16 : Int32).toInt64.toUInt64 &&& Int64.toUInt64 63)).toInt64)) + ((((((((((p0 - ((((p0 : Int64).toUInt64 >>> ((1 : Int32).toInt64.toUInt64 &&& Int64.toUInt64 63)).toInt64) &&& (6148914691236517205 : Int64))) &&& (3689348814741910323 : Int64)) + (((((p0 - ((((p0 : Int64).toUInt64 >>> ((1 : Int32).toInt64.toUInt64 &&& Int64.toUInt64 63)).toInt64) &&& (6148914691236517205 : Int64))) : Int64).toUInt64 >>> ((2 : Int32).toInt64.toUInt64 &&& Int64.toUInt64 63)).toInt64) &&& (3689348814741910323 : Int64))) + ((((((p0 - ((((p0 : Int64).toUInt64 >>> ((1 : Int32).toInt64.toUInt64 &&& Int64.toUInt64 63)).toInt64) &&& (6148914691236517205 : Int64))) &&& (3689348814741910323 : Int64)) + (((((p0 - ((((p0 : Int64).toUInt64 >>> ((1 : Int32).toInt64.toUInt64 &&& Int64.toUInt64 63)).toInt64) &&& (6148914691236517205 : Int64))) : Int64).toUInt64 >>> ((2 : Int32).toInt64.toUInt64 &&& Int64.toUInt64 63)).toInt64) &&& (3689348814741910323 : Int64))) : Int64).toUInt64 >>> ((4 : Int32).toInt64.toUInt64 &&& Int64.toUInt64 63)).toInt64)) &&& (1085102592571150095 : Int64)) + ((((((((p0 - ((((p0 : Int64).toUInt64 >>> ((1 : Int32).toInt64.toUInt64 &&& Int64.toUInt64 63)).toInt64) &&& (6148914691236517205 : Int64))) &&& (3689348814741910323 : Int64)) + (((((p0 - ((((p0 : Int64).toUInt64 >>> ((1 : Int32).toInt64.toUInt64 &&& Int64.toUInt64 63)).toInt64) &&& (6148914691236517205 : Int64))) : Int64).toUInt64 >>> ((2 : Int32).toInt64.toUInt64 &&& Int64.toUInt64 63)).toInt64) &&& (3689348814741910323 : Int64))) + ((((((p0 - ((((p0 : Int64).toUInt64 >>> ((1 : Int32).toInt64.toUInt64 &&& Int64.toUInt64 63)).toInt64) &&& (6148914691236517205 : Int64))) &&& (3689348814741910323 : Int64)) + (((((p0 - ((((p0 : Int64).toUInt64 >>> ((1 : Int32).toInt64.toUInt64 &&& Int64.toUInt64 63)).toInt64) &&& (6148914691236517205 : Int64))) : Int64).toUInt64 >>> ((2 : Int32).toInt64.toUInt64 &&& Int64.toUInt64 63)).toInt64) &&& (3689348814741910323 : Int64))) : Int64).toUInt64 >>> ((4 : Int32).toInt64.toUInt64 &&& Int64.toUInt64 63)).toInt64)) &&& (1085102592571150095 : Int64)) : Int64).toUInt64 >>> ((8 : Int32).toInt64.toUInt64 &&& Int64.toUInt64 63)).toInt64)) + (((((((((p0 - ((((p0 : Int64).toUInt64 >>> ((1 : Int32).toInt64.toUInt64 &&& Int64.toUInt64 63)).toInt64) &&& (6148914691236517205 : Int64))) &&& (3689348814741910323 : Int64)) + (((((p0 - ((((p0 : Int64).toUInt64 >>> ((1 : Int32).toInt64.toUInt64 &&& Int64.toUInt64 63)).toInt64) &&& (6148914691236517205 : Int64))) : Int64).toUInt64 >>> ((2 : Int32).toInt64.toUInt64 &&& Int64.toUInt64 63)).toInt64) &&& (3689348814741910323 : Int64))) + ((((((p0 - ((((p0 : Int64).toUInt64 >>> ((1 : Int32).toInt64.toUInt64 &&& Int64.toUInt64 63)).toInt64) &&& (6148914691236517205 : Int64))) &&& (3689348814741910323 : Int64)) + (((((p0 - ((((p0 : Int64).toUInt64 >>> ((1 : Int32).toInt64.toUInt64 &&& Int64.toUInt64 63)).toInt64) &&& (6148914691236517205 : Int64))) : Int64).toUInt64 >>> ((2 : Int32).toInt64.toUInt64 &&& Int64.toUInt64 63)).toInt64) &&& (3689348814741910323 : Int64))) : Int64).toUInt64 >>> ((4 : Int32).toInt64.toUInt64 &&& Int64.toUInt64 63)).toInt64)) &&& (1085102592571150095 : Int64)) + ((((((((p0 - ((((p0 : Int64).toUInt64 >>> ((1 : Int32).toInt64.toUInt64 &&& Int64.toUInt64 63)).toInt64) &&& (6148914691236517205 : Int64))) &&& (3689348814741910323 : Int64)) + (((((p0 - ((((p0 : Int64).toUInt64 >>> ((1 : Int32).toInt64.toUInt64 &&& Int64.toUInt64 63)).toInt64) &&& (6148914691236517205 : Int64))) : Int64).toUInt64 >>> ((2 : Int32).toInt64.toUInt64 &&& Int64.toUInt64 63)).toInt64) &&& (3689348814741910323 : Int64))) + ((((((p0 - ((((p0 : Int64).toUInt64 >>> ((1 : Int32).toInt64.toUInt64 &&& Int64.toUInt64 63)).toInt64) &&& (6148914691236517205 : Int64))) &&& (3689348814741910323 : Int64)) + (((((p0 - ((((p0 : Int64).toUInt64 >>> ((1 : Int32).toInt64.toUInt64 &&& Int64.toUInt64 63)).toInt64) &&& (6148914691236517205 : Int64))) : Int64).toUInt64 >>> ((2 : Int32).toInt64.toUInt64 &&& Int64.toUInt64 63)).toInt64) &&& (3689348814741910323 : Int64))) : Int64).toUInt64 >>> ((4 : Int32).toInt64.toUInt64 &&& Int64.toUInt64 63)).toInt64)) &&& (1085102592571150095 : Int64)) : Int64).toUInt64 >>> ((8 : Int32).toInt64.toUInt64 &&& Int64.toUInt64 63)).toInt64)) : Int64).toUInt64 >>> ((16 : Int32).toInt64.toUInt64 &&& Int64.toUInt64 63)).toInt64)) : Int64).toUInt64 >>> ((32 : Int32).toInt64.toUInt64 &&& Int64.toUInt64 63)).toInt64)) : Int64).toInt32) &&& 127) = o := Option.some.inj hrun
  have hP9 : va_P (dC, dI) cls (List.flatten ([] : List va_W)) H := by first | exact hP | (rw [← ho9]; exact hP)
  have hD9 : va_D A (List.flatten ([] : List va_W)) := by first | exact hD | (rw [← ho9]; exact hD)
  subst hQ
  exact W.iret (v := (((((((((((p0 - ((((p0 : Int64).toUInt64 >>> ((1 : Int32).toInt64.toUInt64 &&& Int64.toUInt64 63)).toInt64) &&& (6148914691236517205 : Int64))) &&& (3689348814741910323 : Int64)) + (((((p0 - ((((p0 : Int64).toUInt64 >>> ((1 : Int32).toInt64.toUInt64 &&& Int64.toUInt64 63)).toInt64) &&& (6148914691236517205 : Int64))) : Int64).toUInt64 >>> ((2 : Int32).toInt64.toUInt64 &&& Int64.toUInt64 63)).toInt64) &&& (3689348814741910323 : Int64))) + ((((((p0 - ((((p0 : Int64).toUInt64 >>> ((1 : Int32).toInt64.toUInt64 &&& Int64.toUInt64 63)).toInt64) &&& (6148914691236517205 : Int64))) &&& (3689348814741910323 : Int64)) + (((((p0 - ((((p0 : Int64).toUInt64 >>> ((1 : Int32).toInt64.toUInt64 &&& Int64.toUInt64 63)).toInt64) &&& (6148914691236517205 : Int64))) : Int64).toUInt64 >>> ((2 : Int32).toInt64.toUInt64 &&& Int64.toUInt64 63)).toInt64) &&& (3689348814741910323 : Int64))) : Int64).toUInt64 >>> ((4 : Int32).toInt64.toUInt64 &&& Int64.toUInt64 63)).toInt64)) &&& (1085102592571150095 : Int64)) + ((((((((p0 - ((((p0 : Int64).toUInt64 >>> ((1 : Int32).toInt64.toUInt64 &&& Int64.toUInt64 63)).toInt64) &&& (6148914691236517205 : Int64))) &&& (3689348814741910323 : Int64)) + (((((p0 - ((((p0 : Int64).toUInt64 >>> ((1 : Int32).toInt64.toUInt64 &&& Int64.toUInt64 63)).toInt64) &&& (6148914691236517205 : Int64))) : Int64).toUInt64 >>> ((2 : Int32).toInt64.toUInt64 &&& Int64.toUInt64 63)).toInt64) &&& (3689348814741910323 : Int64))) + ((((((p0 - ((((p0 : Int64).toUInt64 >>> ((1 : Int32).toInt64.toUInt64 &&& Int64.toUInt64 63)).toInt64) &&& (6148914691236517205 : Int64))) &&& (3689348814741910323 : Int64)) + (((((p0 - ((((p0 : Int64).toUInt64 >>> ((1 : Int32).toInt64.toUInt64 &&& Int64.toUInt64 63)).toInt64) &&& (6148914691236517205 : Int64))) : Int64).toUInt64 >>> ((2 : Int32).toInt64.toUInt64 &&& Int64.toUInt64 63)).toInt64) &&& (3689348814741910323 : Int64))) : Int64).toUInt64 >>> ((4 : Int32).toInt64.toUInt64 &&& Int64.toUInt64 63)).toInt64)) &&& (1085102592571150095 : Int64)) : Int64).toUInt64 >>> ((8 : Int32).toInt64.toUInt64 &&& Int64.toUInt64 63)).toInt64)) + (((((((((p0 - ((((p0 : Int64).toUInt64 >>> ((1 : Int32).toInt64.toUInt64 &&& Int64.toUInt64 63)).toInt64) &&& (6148914691236517205 : Int64))) &&& (3689348814741910323 : Int64)) + (((((p0 - ((((p0 : Int64).toUInt64 >>> ((1 : Int32).toInt64.toUInt64 &&& Int64.toUInt64 63)).toInt64) &&& (6148914691236517205 : Int64))) : Int64).toUInt64 >>> ((2 : Int32).toInt64.toUInt64 &&& Int64.toUInt64 63)).toInt64) &&& (3689348814741910323 : Int64))) + ((((((p0 - ((((p0 : Int64).toUInt64 >>> ((1 : Int32).toInt64.toUInt64 &&& Int64.toUInt64 63)).toInt64) &&& (6148914691236517205 : Int64))) &&& (3689348814741910323 : Int64)) + (((((p0 - ((((p0 : Int64).toUInt64 >>> ((1 : Int32).toInt64.toUInt64 &&& Int64.toUInt64 63)).toInt64) &&& (6148914691236517205 : Int64))) : Int64).toUInt64 >>> ((2 : Int32).toInt64.toUInt64 &&& Int64.toUInt64 63)).toInt64) &&& (3689348814741910323 : Int64))) : Int64).toUInt64 >>> ((4 : Int32).toInt64.toUInt64 &&& Int64.toUInt64 63)).toInt64)) &&& (1085102592571150095 : Int64)) + ((((((((p0 - ((((p0 : Int64).toUInt64 >>> ((1 : Int32).toInt64.toUInt64 &&& Int64.toUInt64 63)).toInt64) &&& (6148914691236517205 : Int64))) &&& (3689348814741910323 : Int64)) + (((((p0 - ((((p0 : Int64).toUInt64 >>> ((1 : Int32).toInt64.toUInt64 &&& Int64.toUInt64 63)).toInt64) &&& (6148914691236517205 : Int64))) : Int64).toUInt64 >>> ((2 : Int32).toInt64.toUInt64 &&& Int64.toUInt64 63)).toInt64) &&& (3689348814741910323 : Int64))) + ((((((p0 - ((((p0 : Int64).toUInt64 >>> ((1 : Int32).toInt64.toUInt64 &&& Int64.toUInt64 63)).toInt64) &&& (6148914691236517205 : Int64))) &&& (3689348814741910323 : Int64)) + (((((p0 - ((((p0 : Int64).toUInt64 >>> ((1 : Int32).toInt64.toUInt64 &&& Int64.toUInt64 63)).toInt64) &&& (6148914691236517205 : Int64))) : Int64).toUInt64 >>> ((2 : Int32).toInt64.toUInt64 &&& Int64.toUInt64 63)).toInt64) &&& (3689348814741910323 : Int64))) : Int64).toUInt64 >>> ((4 : Int32).toInt64.toUInt64 &&& Int64.toUInt64 63)).toInt64)) &&& (1085102592571150095 : Int64)) : Int64).toUInt64 >>> ((8 : Int32).toInt64.toUInt64 &&& Int64.toUInt64 63)).toInt64)) : Int64).toUInt64 >>> ((16 : Int32).toInt64.toUInt64 &&& Int64.toUInt64 63)).toInt64)) + ((((((((((p0 - ((((p0 : Int64).toUInt64 >>> ((1 : Int32).toInt64.toUInt64 &&& Int64.toUInt64 63)).toInt64) &&& (6148914691236517205 : Int64))) &&& (3689348814741910323 : Int64)) + (((((p0 - ((((p0 : Int64).toUInt64 >>> ((1 : Int32).toInt64.toUInt64 &&& Int64.toUInt64 63)).toInt64) &&& (6148914691236517205 : Int64))) : Int64).toUInt64 >>> ((2 : Int32).toInt64.toUInt64 &&& Int64.toUInt64 63)).toInt64) &&& (3689348814741910323 : Int64))) + ((((((p0 - ((((p0 : Int64).toUInt64 >>> ((1 : Int32).toInt64.toUInt64 &&& Int64.toUInt64 63)).toInt64) &&& (6148914691236517205 : Int64))) &&& (3689348814741910323 : Int64)) + (((((p0 - ((((p0 : Int64).toUInt64 >>> ((1 : Int32).toInt64.toUInt64 &&& Int64.toUInt64 63)).toInt64) &&& (6148914691236517205 : Int64))) : Int64).toUInt64 >>> ((2 : Int32).toInt64.toUInt64 &&& Int64.toUInt64 63)).toInt64) &&& (3689348814741910323 : Int64))) : Int64).toUInt64 >>> ((4 : Int32).toInt64.toUInt64 &&& Int64.toUInt64 63)).toInt64)) &&& (1085102592571150095 : Int64)) + ((((((((p0 - ((((p0 : Int64).toUInt64 >>> ((1 : Int32).toInt64.toUInt64 &&& Int64.toUInt64 63)).toInt64) &&& (6148914691236517205 : Int64))) &&& (3689348814741910323 : Int64)) + (((((p0 - ((((p0 : Int64).toUInt64 >>> ((1 : Int32).toInt64.toUInt64 &&& Int64.toUInt64 63)).toInt64) &&& (6148914691236517205 : Int64))) : Int64).toUInt64 >>> ((2 : Int32).toInt64.toUInt64 &&& Int64.toUInt64 63)).toInt64) &&& (3689348814741910323 : Int64))) + ((((((p0 - ((((p0 : Int64).toUInt64 >>> ((1 : Int32).toInt64.toUInt64 &&& Int64.toUInt64 63)).toInt64) &&& (6148914691236517205 : Int64))) &&& (3689348814741910323 : Int64)) + (((((p0 - ((((p0 : Int64).toUInt64 >>> ((1 : Int32).toInt64.toUInt64 &&& Int64.toUInt64 63)).toInt64) &&& (6148914691236517205 : Int64))) : Int64).toUInt64 >>> ((2 : Int32).toInt64.toUInt64 &&& Int64.toUInt64 63)).toInt64) &&& (3689348814741910323 : Int64))) : Int64).toUInt64 >>> ((4 : Int32).toInt64.toUInt64 &&& Int64.toUInt64 63)).toInt64)) &&& (1085102592571150095 : Int64)) : Int64).toUInt64 >>> ((8 : Int32).toInt64.toUInt64 &&& Int64.toUInt64 63)).toInt64)) + (((((((((p0 - ((((p0 : Int64).toUInt64 >>> ((1 : Int32).toInt64.toUInt64 &&& Int64.toUInt64 63)).toInt64) &&& (6148914691236517205 : Int64))) &&& (3689348814741910323 : Int64)) + (((((p0 - ((((p0 : Int64).toUInt64 >>> ((1 : Int32).toInt64.toUInt64 &&& Int64.toUInt64 63)).toInt64) &&& (6148914691236517205 : Int64))) : Int64).toUInt64 >>> ((2 : Int32).toInt64.toUInt64 &&& Int64.toUInt64 63)).toInt64) &&& (3689348814741910323 : Int64))) + ((((((p0 - ((((p0 : Int64).toUInt64 >>> ((1 : Int32).toInt64.toUInt64 &&& Int64.toUInt64 63)).toInt64) &&& (6148914691236517205 : Int64))) &&& (3689348814741910323 : Int64)) + (((((p0 - ((((p0 : Int64).toUInt64 >>> ((1 : Int32).toInt64.toUInt64 &&& Int64.toUInt64 63)).toInt64) &&& (6148914691236517205 : Int64))) : Int64).toUInt64 >>> ((2 : Int32).toInt64.toUInt64 &&& Int64.toUInt64 63)).toInt64) &&& (3689348814741910323 : Int64))) : Int64).toUInt64 >>> ((4 : Int32).toInt64.toUInt64 &&& Int64.toUInt64 63)).toInt64)) &&& (1085102592571150095 : Int64)) + ((((((((p0 - ((((p0 : Int64).toUInt64 >>> ((1 : Int32).toInt64.toUInt64 &&& Int64.toUInt64 63)).toInt64) &&& (6148914691236517205 : Int64))) &&& (3689348814741910323 : Int64)) + (((((p0 - ((((p0 : Int64).toUInt64 >>> ((1 : Int32).toInt64.toUInt64 &&& Int64.toUInt64 63)).toInt64) &&& (6148914691236517205 : Int64))) : Int64).toUInt64 >>> ((2 : Int32).toInt64.toUInt64 &&& Int64.toUInt64 63)).toInt64) &&& (3689348814741910323 : Int64))) + ((((((p0 - ((((p0 : Int64).toUInt64 >>> ((1 : Int32).toInt64.toUInt64 &&& Int64.toUInt64 63)).toInt64) &&& (6148914691236517205 : Int64))) &&& (3689348814741910323 : Int64)) + (((((p0 - ((((p0 : Int64).toUInt64 >>> ((1 : Int32).toInt64.toUInt64 &&& Int64.toUInt64 63)).toInt64) &&& (6148914691236517205 : Int64))) : Int64).toUInt64 >>> ((2 : Int32).toInt64.toUInt64 &&& Int64.toUInt64 63)).toInt64) &&& (3689348814741910323 : Int64))) : Int64).toUInt64 >>> ((4 : Int32).toInt64.toUInt64 &&& Int64.toUInt64 63)).toInt64)) &&& (1085102592571150095 : Int64)) : Int64).toUInt64 >>> ((8 : Int32).toInt64.toUInt64 &&& Int64.toUInt64 63)).toInt64)) : Int64).toUInt64 >>> ((16 : Int32).toInt64.toUInt64 &&& Int64.toUInt64 63)).toInt64)) : Int64).toUInt64 >>> ((32 : Int32).toInt64.toUInt64 &&& Int64.toUInt64 63)).toInt64)) : Int64).toInt32) &&& 127)) hx hb hr (fun t ht hW => ⟨⟨(((((((((((p0 - ((((p0 : Int64).toUInt64 >>> ((1 : Int32).toInt64.toUInt64 &&& Int64.toUInt64 63)).toInt64) &&& (6148914691236517205 : Int64))) &&& (3689348814741910323 : Int64)) + (((((p0 - ((((p0 : Int64).toUInt64 >>> ((1 : Int32).toInt64.toUInt64 &&& Int64.toUInt64 63)).toInt64) &&& (6148914691236517205 : Int64))) : Int64).toUInt64 >>> ((2 : Int32).toInt64.toUInt64 &&& Int64.toUInt64 63)).toInt64) &&& (3689348814741910323 : Int64))) + ((((((p0 - ((((p0 : Int64).toUInt64 >>> ((1 : Int32).toInt64.toUInt64 &&& Int64.toUInt64 63)).toInt64) &&& (6148914691236517205 : Int64))) &&& (3689348814741910323 : Int64)) + (((((p0 - ((((p0 : Int64).toUInt64 >>> ((1 : Int32).toInt64.toUInt64 &&& Int64.toUInt64 63)).toInt64) &&& (6148914691236517205 : Int64))) : Int64).toUInt64 >>> ((2 : Int32).toInt64.toUInt64 &&& Int64.toUInt64 63)).toInt64) &&& (3689348814741910323 : Int64))) : Int64).toUInt64 >>> ((4 : Int32).toInt64.toUInt64 &&& Int64.toUInt64 63)).toInt64)) &&& (1085102592571150095 : Int64)) + ((((((((p0 - ((((p0 : Int64).toUInt64 >>> ((1 : Int32).toInt64.toUInt64 &&& Int64.toUInt64 63)).toInt64) &&& (6148914691236517205 : Int64))) &&& (3689348814741910323 : Int64)) + (((((p0 - ((((p0 : Int64).toUInt64 >>> ((1 : Int32).toInt64.toUInt64 &&& Int64.toUInt64 63)).toInt64) &&& (6148914691236517205 : Int64))) : Int64).toUInt64 >>> ((2 : Int32).toInt64.toUInt64 &&& Int64.toUInt64 63)).toInt64) &&& (3689348814741910323 : Int64))) + ((((((p0 - ((((p0 : Int64).toUInt64 >>> ((1 : Int32).toInt64.toUInt64 &&& Int64.toUInt64 63)).toInt64) &&& (6148914691236517205 : Int64))) &&& (3689348814741910323 : Int64)) + (((((p0 - ((((p0 : Int64).toUInt64 >>> ((1 : Int32).toInt64.toUInt64 &&& Int64.toUInt64 63)).toInt64) &&& (6148914691236517205 : Int64))) : Int64).toUInt64 >>> ((2 : Int32).toInt64.toUInt64 &&& Int64.toUInt64 63)).toInt64) &&& (3689348814741910323 : Int64))) : Int64).toUInt64 >>> ((4 : Int32).toInt64.toUInt64 &&& Int64.toUInt64 63)).toInt64)) &&& (1085102592571150095 : Int64)) : Int64).toUInt64 >>> ((8 : Int32).toInt64.toUInt64 &&& Int64.toUInt64 63)).toInt64)) + (((((((((p0 - ((((p0 : Int64).toUInt64 >>> ((1 : Int32).toInt64.toUInt64 &&& Int64.toUInt64 63)).toInt64) &&& (6148914691236517205 : Int64))) &&& (3689348814741910323 : Int64)) + (((((p0 - ((((p0 : Int64).toUInt64 >>> ((1 : Int32).toInt64.toUInt64 &&& Int64.toUInt64 63)).toInt64) &&& (6148914691236517205 : Int64))) : Int64).toUInt64 >>> ((2 : Int32).toInt64.toUInt64 &&& Int64.toUInt64 63)).toInt64) &&& (3689348814741910323 : Int64))) + ((((((p0 - ((((p0 : Int64).toUInt64 >>> ((1 : Int32).toInt64.toUInt64 &&& Int64.toUInt64 63)).toInt64) &&& (6148914691236517205 : Int64))) &&& (3689348814741910323 : Int64)) + (((((p0 - ((((p0 : Int64).toUInt64 >>> ((1 : Int32).toInt64.toUInt64 &&& Int64.toUInt64 63)).toInt64) &&& (6148914691236517205 : Int64))) : Int64).toUInt64 >>> ((2 : Int32).toInt64.toUInt64 &&& Int64.toUInt64 63)).toInt64) &&& (3689348814741910323 : Int64))) : Int64).toUInt64 >>> ((4 : Int32).toInt64.toUInt64 &&& Int64.toUInt64 63)).toInt64)) &&& (1085102592571150095 : Int64)) + ((((((((p0 - ((((p0 : Int64).toUInt64 >>> ((1 : Int32).toInt64.toUInt64 &&& Int64.toUInt64 63)).toInt64) &&& (6148914691236517205 : Int64))) &&& (3689348814741910323 : Int64)) + (((((p0 - ((((p0 : Int64).toUInt64 >>> ((1 : Int32).toInt64.toUInt64 &&& Int64.toUInt64 63)).toInt64) &&& (6148914691236517205 : Int64))) : Int64).toUInt64 >>> ((2 : Int32).toInt64.toUInt64 &&& Int64.toUInt64 63)).toInt64) &&& (3689348814741910323 : Int64))) + ((((((p0 - ((((p0 : Int64).toUInt64 >>> ((1 : Int32).toInt64.toUInt64 &&& Int64.toUInt64 63)).toInt64) &&& (6148914691236517205 : Int64))) &&& (3689348814741910323 : Int64)) + (((((p0 - ((((p0 : Int64).toUInt64 >>> ((1 : Int32).toInt64.toUInt64 &&& Int64.toUInt64 63)).toInt64) &&& (6148914691236517205 : Int64))) : Int64).toUInt64 >>> ((2 : Int32).toInt64.toUInt64 &&& Int64.toUInt64 63)).toInt64) &&& (3689348814741910323 : Int64))) : Int64).toUInt64 >>> ((4 : Int32).toInt64.toUInt64 &&& Int64.toUInt64 63)).toInt64)) &&& (1085102592571150095 : Int64)) : Int64).toUInt64 >>> ((8 : Int32).toInt64.toUInt64 &&& Int64.toUInt64 63)).toInt64)) : Int64).toUInt64 >>> ((16 : Int32).toInt64.toUInt64 &&& Int64.toUInt64 63)).toInt64)) + ((((((((((p0 - ((((p0 : Int64).toUInt64 >>> ((1 : Int32).toInt64.toUInt64 &&& Int64.toUInt64 63)).toInt64) &&& (6148914691236517205 : Int64))) &&& (3689348814741910323 : Int64)) + (((((p0 - ((((p0 : Int64).toUInt64 >>> ((1 : Int32).toInt64.toUInt64 &&& Int64.toUInt64 63)).toInt64) &&& (6148914691236517205 : Int64))) : Int64).toUInt64 >>> ((2 : Int32).toInt64.toUInt64 &&& Int64.toUInt64 63)).toInt64) &&& (3689348814741910323 : Int64))) + ((((((p0 - ((((p0 : Int64).toUInt64 >>> ((1 : Int32).toInt64.toUInt64 &&& Int64.toUInt64 63)).toInt64) &&& (6148914691236517205 : Int64))) &&& (3689348814741910323 : Int64)) + (((((p0 - ((((p0 : Int64).toUInt64 >>> ((1 : Int32).toInt64.toUInt64 &&& Int64.toUInt64 63)).toInt64) &&& (6148914691236517205 : Int64))) : Int64).toUInt64 >>> ((2 : Int32).toInt64.toUInt64 &&& Int64.toUInt64 63)).toInt64) &&& (3689348814741910323 : Int64))) : Int64).toUInt64 >>> ((4 : Int32).toInt64.toUInt64 &&& Int64.toUInt64 63)).toInt64)) &&& (1085102592571150095 : Int64)) + ((((((((p0 - ((((p0 : Int64).toUInt64 >>> ((1 : Int32).toInt64.toUInt64 &&& Int64.toUInt64 63)).toInt64) &&& (6148914691236517205 : Int64))) &&& (3689348814741910323 : Int64)) + (((((p0 - ((((p0 : Int64).toUInt64 >>> ((1 : Int32).toInt64.toUInt64 &&& Int64.toUInt64 63)).toInt64) &&& (6148914691236517205 : Int64))) : Int64).toUInt64 >>> ((2 : Int32).toInt64.toUInt64 &&& Int64.toUInt64 63)).toInt64) &&& (3689348814741910323 : Int64))) + ((((((p0 - ((((p0 : Int64).toUInt64 >>> ((1 : Int32).toInt64.toUInt64 &&& Int64.toUInt64 63)).toInt64) &&& (6148914691236517205 : Int64))) &&& (3689348814741910323 : Int64)) + (((((p0 - ((((p0 : Int64).toUInt64 >>> ((1 : Int32).toInt64.toUInt64 &&& Int64.toUInt64 63)).toInt64) &&& (6148914691236517205 : Int64))) : Int64).toUInt64 >>> ((2 : Int32).toInt64.toUInt64 &&& Int64.toUInt64 63)).toInt64) &&& (3689348814741910323 : Int64))) : Int64).toUInt64 >>> ((4 : Int32).toInt64.toUInt64 &&& Int64.toUInt64 63)).toInt64)) &&& (1085102592571150095 : Int64)) : Int64).toUInt64 >>> ((8 : Int32).toInt64.toUInt64 &&& Int64.toUInt64 63)).toInt64)) + (((((((((p0 - ((((p0 : Int64).toUInt64 >>> ((1 : Int32).toInt64.toUInt64 &&& Int64.toUInt64 63)).toInt64) &&& (6148914691236517205 : Int64))) &&& (3689348814741910323 : Int64)) + (((((p0 - ((((p0 : Int64).toUInt64 >>> ((1 : Int32).toInt64.toUInt64 &&& Int64.toUInt64 63)).toInt64) &&& (6148914691236517205 : Int64))) : Int64).toUInt64 >>> ((2 : Int32).toInt64.toUInt64 &&& Int64.toUInt64 63)).toInt64) &&& (3689348814741910323 : Int64))) + ((((((p0 - ((((p0 : Int64).toUInt64 >>> ((1 : Int32).toInt64.toUInt64 &&& Int64.toUInt64 63)).toInt64) &&& (6148914691236517205 : Int64))) &&& (3689348814741910323 : Int64)) + (((((p0 - ((((p0 : Int64).toUInt64 >>> ((1 : Int32).toInt64.toUInt64 &&& Int64.toUInt64 63)).toInt64) &&& (6148914691236517205 : Int64))) : Int64).toUInt64 >>> ((2 : Int32).toInt64.toUInt64 &&& Int64.toUInt64 63)).toInt64) &&& (3689348814741910323 : Int64))) : Int64).toUInt64 >>> ((4 : Int32).toInt64.toUInt64 &&& Int64.toUInt64 63)).toInt64)) &&& (1085102592571150095 : Int64)) + ((((((((p0 - ((((p0 : Int64).toUInt64 >>> ((1 : Int32).toInt64.toUInt64 &&& Int64.toUInt64 63)).toInt64) &&& (6148914691236517205 : Int64))) &&& (3689348814741910323 : Int64)) + (((((p0 - ((((p0 : Int64).toUInt64 >>> ((1 : Int32).toInt64.toUInt64 &&& Int64.toUInt64 63)).toInt64) &&& (6148914691236517205 : Int64))) : Int64).toUInt64 >>> ((2 : Int32).toInt64.toUInt64 &&& Int64.toUInt64 63)).toInt64) &&& (3689348814741910323 : Int64))) + ((((((p0 - ((((p0 : Int64).toUInt64 >>> ((1 : Int32).toInt64.toUInt64 &&& Int64.toUInt64 63)).toInt64) &&& (6148914691236517205 : Int64))) &&& (3689348814741910323 : Int64)) + (((((p0 - ((((p0 : Int64).toUInt64 >>> ((1 : Int32).toInt64.toUInt64 &&& Int64.toUInt64 63)).toInt64) &&& (6148914691236517205 : Int64))) : Int64).toUInt64 >>> ((2 : Int32).toInt64.toUInt64 &&& Int64.toUInt64 63)).toInt64) &&& (3689348814741910323 : Int64))) : Int64).toUInt64 >>> ((4 : Int32).toInt64.toUInt64 &&& Int64.toUInt64 63)).toInt64)) &&& (1085102592571150095 : Int64)) : Int64).toUInt64 >>> ((8 : Int32).toInt64.toUInt64 &&& Int64.toUInt64 63)).toInt64)) : Int64).toUInt64 >>> ((16 : Int32).toInt64.toUInt64 &&& Int64.toUInt64 63)).toInt64)) : Int64).toUInt64 >>> ((32 : Int32).toInt64.toUInt64 &&& Int64.toUInt64 63)).toInt64)) : Int64).toInt32) &&& 127), (), rfl, (by rw [← ho9]), ⟨by rw [ht]; exact hP9, va_K.moved hW.alike hK, hD9⟩⟩, hS.F ht⟩) hS.2.2 dJ13_bitCount_95d88_60
def fX11_lowest (p0 : Int64) : Option Int32 := ((fJ13_bitCount_95d88 ((p0 &&& (-p0)) - (1 : Int64))).bind fun (o_1 : Int32) => some o_1)
set_option maxHeartbeats 16000000 in
set_option maxRecDepth 100000 in
theorem kX11_lowest {zs : ZS} (l : Launch) (dC : Nat → ClassId) (dI : Nat → Nat → Nat) (p0 : Int64) (sz : Nat) (o : Int32) (hrun : fX11_lowest p0 = some o) : Met l yX11_lowest (wz yX11_lowest cX11_lowest 2 (Option.some Jvm.ClassFile.FieldType.int)) ({ frames := 1, cells := 0, slots := 0, locals := 21 } : Room) (va_Pc [.long p0] (PRE zs dC dI (List.flatten ([] : List va_W)) (List.flatten ([] : List (List (ClassId × FieldType)))) sz)) (va_Qi (fun (r : Int32) (_ : Unit) => r = o) (fun _ t => POST dC dI (List.flatten ([] : List va_W)) (List.flatten ([] : List (List (ClassId × FieldType)))) (va_A (List.flatten ([] : List va_W)) sz) t) (va_A (List.flatten ([] : List va_W)) sz)) 0 0 (va_A (List.flatten ([] : List va_W)) sz) := by
  refine Met.ofW (cc := cX11_lowest) (maxL := 2) (ret := (Option.some Jvm.ClassFile.FieldType.int)) (by decide) rfl ?_
  intro p e s m args below meth c s₁ B hml hv
  obtain ⟨rfl, hsz, hP, hK, hD0, hE⟩ := hv
  have hx := B.exec
  have hb := B.bytes
  have hr := B.returns
  have hts0 := atoms_spec (ws := wz yX11_lowest cX11_lowest 2 (Option.some Jvm.ClassFile.FieldType.int)) B.pre
  have hts : ∀ w ∈ gw, w.before _ s = true := fun w h => hts0 w (List.mem_cons_of_mem _ h)
  have hown : s.vm.findClass RX11 = some m.cls := findClass_of_methodNamed B.named
  have hlocks := B.notSynchronized
  subst hsz
  have hD := hD0.self (sz := s.heap.size)
  refine gQ9 ?_
  intro Q hQ
  generalize hAe : va_A (List.flatten ([] : List va_W)) s.heap.size = A at hD hE hQ
  have hA : ∀ q : Nat, s.heap.size ≤ q → A q := fun q h => by rw [← hAe]; exact Or.inr h
  have hS : va_S A s.heap s.heap [] := va_S.rf
  have hP : va_P (dC, dI) cls (List.flatten ([] : List va_W)) s.heap := hP
  have hl := lv_entry ([.long p0]) (n := 2) (Nat.le_of_ble_eq_true rfl)
  rw [lg_entry_eq]
  generalize (lg_sl ([.long p0]) ++ List.replicate (2 - (lg_sl ([.long p0])).length) Slot.unset).toArray = ls at hl ⊢
  have hl : lv_has ls 2 [(0, .long p0)] := hl
  obtain ⟨H, hHe⟩ : ∃ H, H = s.heap := ⟨_, rfl⟩
  obtain ⟨locs, hle⟩ : ∃ locs : List Loc, locs = [] := ⟨_, rfl⟩
  rw [← hHe] at hP
  have hS : va_S A s.heap H locs := by rw [hHe, hle]; exact hS
  show W p l e ({ frames := 1, cells := 0, slots := 0, locals := 21 } : Room) s m ([.long p0] : List Value).toArray below meth c s.heap [] 0 0 Q (F0 m 0 ls [])
  rw [← hle]
  refine wH9 hHe ?_
  unfold fX11_lowest at hrun
  refine lv_lload_n hx hb dX11_lowest_0 rfl (lv_at hl 0 rfl) ?_
  refine lv_lload_n hx hb dX11_lowest_1 rfl (lv_at hl 0 rfl) ?_
  refine lv_lneg hx hb dX11_lowest_2 ?_
  refine lv_land hx hb dX11_lowest_3 ?_
  refine lv_lconst (v := 1) hx hb dX11_lowest_4 (by decide) ?_
  refine lv_lsub hx hb dX11_lowest_5 ?_
  obtain ⟨o_1, hc_1, hrun⟩ := bnd9 hrun
  have hPx : va_P (dC, dI) cls ((List.flatten ([] : List va_W)) ++ (List.flatten ([] : List va_W))) H := vP_fa (vP_perm hP (bP (List.Perm.refl _)))
  have hDx : va_D A ((List.flatten ([] : List va_W)) ++ (List.flatten ([] : List va_W))) := vD_fa (vD_perm hD (bP (List.Perm.refl _)))
  have hKx : va_K (dC, dI) cls ((List.flatten ([] : List (List (ClassId × FieldType)))) ++ (List.flatten ([] : List (List (ClassId × FieldType))))) s := vK_fa (vK_perm hK (bP (List.Perm.refl _)))
  have hPc := vP_l hPx
  have hDc := vD_l hDx
  have hKc := vK_l hKx
  have hFc := vfree hDx hS hA
  refine va_calli (va_runS (As := [.long ((p0 &&& (-p0)) - (1 : Int64))]) (rest := []) ⟨hx, hb, hml, hown, hts⟩ (kJ13_bitCount_95d88 l dC dI (p0 := ((p0 &&& (-p0)) - (1 : Int64))) (sz := _) (o := o_1) (hrun := hc_1)) (va_cwS 1 hts (gi_S qw772 qw773 qw774 (gi_z qw771)) rfl rfl rfl (by decide +kernel) ⟨Nat.le_of_ble_eq_true rfl, Nat.le_of_ble_eq_true rfl⟩) ⟨PRE.blind, PRE.of hE hS hFc hPc hKc hDc⟩ rfl rfl hl.1 rfl (lv_room (Nat.le_of_ble_eq_true rfl)) dX11_lowest_6 ⟨(Nat.le_of_ble_eq_true rfl), (Nat.le_of_ble_eq_true rfl)⟩) hS (fun q _ h => hFc q h) hFc (fun r2 u t H locs ht hvm hw hB hz1 hk1 hS => ?_)
  obtain ⟨b1, b2, b3⟩ := hB
  rw [ht] at b1
  obtain ⟨hP, hD, hK⟩ := JOINC (wc := (List.flatten ([] : List va_W))) (wr := (List.flatten ([] : List va_W))) (w1 := (List.flatten ([] : List va_W))) (t1 := (List.flatten ([] : List (List (ClassId × FieldType))))) hPx hDx hKx hk1 hFc b1 (va_K.moved hvm.symm b2) b3
  have hP : va_P (dC, dI) cls (List.flatten ([] : List va_W)) H := vP_perm (vP_fb hP) (bP (List.Perm.refl _))
  have hD : va_D A (List.flatten ([] : List va_W)) := vD_perm (vD_fb hD) (bP (List.Perm.refl _))
  have hK : va_K (dC, dI) cls (List.flatten ([] : List (List (ClassId × FieldType)))) s := vK_perm (vK_fb hK) (bP (List.Perm.refl _))
  obtain rfl : o_1 = r2 := hw.symm
  have ho9 : o_1 = o := Option.some.inj hrun
  have hP9 : va_P (dC, dI) cls (List.flatten ([] : List va_W)) H := by first | exact hP | (rw [← ho9]; exact hP)
  have hD9 : va_D A (List.flatten ([] : List va_W)) := by first | exact hD | (rw [← ho9]; exact hD)
  subst hQ
  exact W.iret (v := o_1) hx hb hr (fun t ht hW => ⟨⟨o_1, (), rfl, (by rw [← ho9]), ⟨by rw [ht]; exact hP9, va_K.moved hW.alike hK, hD9⟩⟩, hS.F ht⟩) hS.2.2 dX11_lowest_9
def fX2_mirror_L34 (p0n : Nat → Nat) (p0w : ST) (v1_2 : Int32) (v2_12 : Int32) : Nat → Int64 → SL → Option SL
  | 0 => fun _ _ => none
  | n_34 + 1 => fun v3_34 p0l_34 => (if (lg_cmp v3_34 (0 : Int64)) = 0 then some p0l_34 else ((fX11_lowest v3_34).bind fun (o_5 : Int32) => ((fX2_put_a1_p0_10 p0n p0w p0l_34 ((v2_12 * 64) + o_5) v1_2).bind fun (o_7 : SL) => ((fX2_mirror_L34 p0n p0w v1_2 v2_12 n_34) (v3_34 &&& (v3_34 - (1 : Int64))) o_7))))
def fX2_mirror_L12 (p0n : Nat → Nat) (p0w : ST) (v1_2 : Int32) : Nat → Int32 → SL → Option SL
  | 0 => fun _ _ => none
  | n_12 + 1 => fun v2_12 p0l_12 => (if (p0w 0 2) ≤ v2_12 then some p0l_12 else (if ixb ((v1_2 * (p0w 0 2)) + v2_12) (p0n 11) = true then ((fX2_mirror_L34 p0n p0w v1_2 v2_12 NF (p0l_12 11 (nn ((v1_2 * (p0w 0 2)) + v2_12))) p0l_12).bind fun (o34 : SL) => ((fX2_mirror_L12 p0n p0w v1_2 n_12) (v2_12 + 1) o34)) else none))
def fX2_mirror_L2 (p0n : Nat → Nat) (p0w : ST) : Nat → Int32 → SL → Option SL
  | 0 => fun _ _ => none
  | n_2 + 1 => fun v1_2 p0l_2 => (if (p0w 0 0) ≤ v1_2 then some p0l_2 else ((fX2_mirror_L12 p0n p0w v1_2 NF 0 p0l_2).bind fun (o12 : SL) => ((fX2_mirror_L2 p0n p0w n_2) (v1_2 + 1) o12)))
def fX2_mirror (p0n : Nat → Nat) (p0w : ST) (p0l : SL) : Option SL := ((fX2_mirror_L2 p0n p0w NF 0 p0l).bind fun (o2 : SL) => some o2)
set_option maxHeartbeats 16000000 in
set_option maxRecDepth 100000 in
theorem kX2_mirror {zs : ZS} (l : Launch) (dC : Nat → ClassId) (dI : Nat → Nat → Nat) (p0a : Nat → Nat) (p0k : Nat → ClassId) (p0n : Nat → Nat) (p0w : ST) (p0l : SL) (sz : Nat) (o : SL) (hrun : fX2_mirror p0n p0w p0l = some o) : Met l yX2_mirror (wz yX2_mirror cX2_mirror 5 (Option.none : Option Jvm.ClassFile.FieldType)) ({ frames := 2, cells := 0, slots := 0, locals := 42 } : Room) (va_Pc [.ref (p0a 0)] (PRE zs dC dI (List.flatten ([(oX2 (p0a 0) p0a p0k p0n p0w p0l)] : List va_W)) (List.flatten ([(tX2 p0k)] : List (List (ClassId × FieldType)))) sz)) (va_Qv (fun (_ : Unit) => True) (fun _ t => POST dC dI (List.flatten ([(oX2 (p0a 0) p0a p0k p0n p0w o)] : List va_W)) (List.flatten ([(tX2 p0k)] : List (List (ClassId × FieldType)))) (va_A (List.flatten ([(oX2 (p0a 0) p0a p0k p0n p0w p0l)] : List va_W)) sz) t) (va_A (List.flatten ([(oX2 (p0a 0) p0a p0k p0n p0w p0l)] : List va_W)) sz)) 0 0 (va_A (List.flatten ([(oX2 (p0a 0) p0a p0k p0n p0w p0l)] : List va_W)) sz) := by
  refine Met.ofW (cc := cX2_mirror) (maxL := 5) (ret := (Option.none : Option Jvm.ClassFile.FieldType)) (by decide) rfl ?_
  intro p e s m args below meth c s₁ B hml hv
  obtain ⟨rfl, hsz, hP, hK, hD0, hE⟩ := hv
  have hx := B.exec
  have hb := B.bytes
  have hr := B.returns
  have hts0 := atoms_spec (ws := wz yX2_mirror cX2_mirror 5 (Option.none : Option Jvm.ClassFile.FieldType)) B.pre
  have hts : ∀ w ∈ gw, w.before _ s = true := fun w h => hts0 w (List.mem_cons_of_mem _ h)
  have hown : s.vm.findClass RX2 = some m.cls := findClass_of_methodNamed B.named
  have hlocks := B.notSynchronized
  subst hsz
  have hD := hD0.self (sz := s.heap.size)
  refine gQ9 ?_
  intro Q hQ
  generalize hAe : va_A (List.flatten ([(oX2 (p0a 0) p0a p0k p0n p0w p0l)] : List va_W)) s.heap.size = A at hD hE hQ
  have hA : ∀ q : Nat, s.heap.size ≤ q → A q := fun q h => by rw [← hAe]; exact Or.inr h
  have hS : va_S A s.heap s.heap [] := va_S.rf
  have hP : va_P (dC, dI) cls (List.flatten ([(oX2 (p0a 0) p0a p0k p0n p0w p0l)] : List va_W)) s.heap := hP
  have hl := lv_entry ([.ref (p0a 0)]) (n := 5) (Nat.le_of_ble_eq_true rfl)
  rw [lg_entry_eq]
  generalize (lg_sl ([.ref (p0a 0)]) ++ List.replicate (5 - (lg_sl ([.ref (p0a 0)])).length) Slot.unset).toArray = ls at hl ⊢
  have hl : lv_has ls 5 [(0, .ref (p0a 0))] := hl
  obtain ⟨H, hHe⟩ : ∃ H, H = s.heap := ⟨_, rfl⟩
  obtain ⟨locs, hle⟩ : ∃ locs : List Loc, locs = [] := ⟨_, rfl⟩
  rw [← hHe] at hP
  have hS : va_S A s.heap H locs := by rw [hHe, hle]; exact hS
  show W p l e ({ frames := 2, cells := 0, slots := 0, locals := 42 } : Room) s m ([.ref (p0a 0)] : List Value).toArray below meth c s.heap [] 0 0 Q (F0 m 0 ls [])
  rw [← hle]
  refine wH9 hHe ?_
  unfold fX2_mirror at hrun
  refine lv_iconst (v := 0) hx hb dX2_mirror_0 (by decide) ?_
  refine lv_istore_n (lv' := [(1, .int 0), (0, .ref (p0a 0))]) hx hb dX2_mirror_1 rfl hl (by decide) rfl (fun ls hl => ?_)
  have L2 : ∀ (n_2 : Nat) (v1_2 : Int32) (p0l_2 : SL) (o2 : SL) (H : Heap) (locs : List Loc) (ls : Array Slot), (fX2_mirror_L2 p0n p0w n_2) v1_2 p0l_2 = some o2 → va_P (dC, dI) cls (List.flatten ([(oX2 (p0a 0) p0a p0k p0n p0w p0l_2)] : List va_W)) H → va_D A (List.flatten ([(oX2 (p0a 0) p0a p0k p0n p0w p0l_2)] : List va_W)) → va_K (dC, dI) cls (List.flatten ([(tX2 p0k)] : List (List (ClassId × FieldType)))) s → va_S A s.heap H locs → lv_has ls 5 [(0, .ref (p0a 0)), (1, .int v1_2)] → (∀ (H : Heap) (locs : List Loc) (ls : Array Slot), va_P (dC, dI) cls (List.flatten ([(oX2 (p0a 0) p0a p0k p0n p0w o2)] : List va_W)) H → va_D A (List.flatten ([(oX2 (p0a 0) p0a p0k p0n p0w o2)] : List va_W)) → va_K (dC, dI) cls (List.flatten ([(tX2 p0k)] : List (List (ClassId × FieldType)))) s → va_S A s.heap H locs → lv_has ls 5 [] → W p l e ({ frames := 2, cells := 0, slots := 0, locals := 42 } : Room) s m ([.ref (p0a 0)] : List Value).toArray below meth c H locs 0 0 Q (F0 m 79 ls [])) → W p l e ({ frames := 2, cells := 0, slots := 0, locals := 42 } : Room) s m ([.ref (p0a 0)] : List Value).toArray below meth c H locs 0 0 Q (F0 m 2 ls []) := by
    intro n_2
    induction n_2 with
    | zero => intro v1_2 p0l_2 o2 H locs ls hrun; exact (no9 rfl hrun).elim
    | succ n_2 IH2 =>
      intro v1_2 p0l_2 o2 H locs ls hrun hP hD hK hS hl hk2
      unfold fX2_mirror_L2 at hrun
      refine lv_iload_n hx hb dX2_mirror_2 rfl (lv_at hl 1 rfl) ?_
      refine lv_aload_n hx hb dX2_mirror_3 rfl (lv_at hl 0 rfl) ?_
      refine va_get (D := (dC, dI)) (ci := 9) (v := .int (p0w 0 0)) (C := RX2) (T := TX2) (N := 19) hx hb hts i_X2 hown hK hP 0 rfl rfl 0 (by decide) (hts _ qw667) (fun _ h9 => h9) rfl dX2_mirror_4 ?_
      rcases br9 hrun with ⟨hc1, hrun⟩ | ⟨hc1, hrun⟩
      · refine lv_icmp_ge (tgt := 79) hx hb dX2_mirror_7 (by decide) (fun _ => ?_) (fun c => absurd hc1 c)
        obtain rfl := (Option.some.inj hrun)
        exact hk2 _ _ _ hP hD hK hS (lv_sub hl [] rfl)
      · refine lv_icmp_ge (tgt := 79) hx hb dX2_mirror_7 (by decide) (fun c => absurd c hc1) (fun _ => ?_)
        refine lv_iconst (v := 0) hx hb dX2_mirror_10 (by decide) ?_
        refine lv_istore_n (lv' := [(2, .int 0), (0, .ref (p0a 0)), (1, .int v1_2)]) hx hb dX2_mirror_11 rfl hl (by decide) rfl (fun ls hl => ?_)
        have L12 : ∀ (n_12 : Nat) (v2_12 : Int32) (p0l_12 : SL) (o12 : SL) (H : Heap) (locs : List Loc) (ls : Array Slot), (fX2_mirror_L12 p0n p0w v1_2 n_12) v2_12 p0l_12 = some o12 → va_P (dC, dI) cls (List.flatten ([(oX2 (p0a 0) p0a p0k p0n p0w p0l_12)] : List va_W)) H → va_D A (List.flatten ([(oX2 (p0a 0) p0a p0k p0n p0w p0l_12)] : List va_W)) → va_K (dC, dI) cls (List.flatten ([(tX2 p0k)] : List (List (ClassId × FieldType)))) s → va_S A s.heap H locs → lv_has ls 5 [(0, .ref (p0a 0)), (1, .int v1_2), (2, .int v2_12)] → (∀ (H : Heap) (locs : List Loc) (ls : Array Slot), va_P (dC, dI) cls (List.flatten ([(oX2 (p0a 0) p0a p0k p0n p0w o12)] : List va_W)) H → va_D A (List.flatten ([(oX2 (p0a 0) p0a p0k p0n p0w o12)] : List va_W)) → va_K (dC, dI) cls (List.flatten ([(tX2 p0k)] : List (List (ClassId × FieldType)))) s → va_S A s.heap H locs → lv_has ls 5 [(0, .ref (p0a 0)), (1, .int v1_2)] → W p l e ({ frames := 2, cells := 0, slots := 0, locals := 42 } : Room) s m ([.ref (p0a 0)] : List Value).toArray below meth c H locs 0 0 Q (F0 m 73 ls [])) → W p l e ({ frames := 2, cells := 0, slots := 0, locals := 42 } : Room) s m ([.ref (p0a 0)] : List Value).toArray below meth c H locs 0 0 Q (F0 m 12 ls []) := by
          intro n_12
          induction n_12 with
          | zero => intro v2_12 p0l_12 o12 H locs ls hrun; exact (no9 rfl hrun).elim
          | succ n_12 IH12 =>
            intro v2_12 p0l_12 o12 H locs ls hrun hP hD hK hS hl hk12
            unfold fX2_mirror_L12 at hrun
            refine lv_iload_n hx hb dX2_mirror_12 rfl (lv_at hl 2 rfl) ?_
            refine lv_aload_n hx hb dX2_mirror_13 rfl (lv_at hl 0 rfl) ?_
            refine va_get (D := (dC, dI)) (ci := 9) (v := .int (p0w 0 2)) (C := RX2) (T := TX2) (N := 19) hx hb hts i_X2 hown hK hP 0 rfl rfl 2 (by decide) (hts _ qw669) (fun _ h9 => h9) rfl dX2_mirror_14 ?_
            rcases br9 hrun with ⟨hc2, hrun⟩ | ⟨hc2, hrun⟩
            · refine lv_icmp_ge (tgt := 73) hx hb dX2_mirror_17 (by decide) (fun _ => ?_) (fun c => absurd hc2 c)
              obtain rfl := (Option.some.inj hrun)
              exact hk12 _ _ _ hP hD hK hS (lv_sub hl [0, 1] rfl)
            · refine lv_icmp_ge (tgt := 73) hx hb dX2_mirror_17 (by decide) (fun c => absurd c hc2) (fun _ => ?_)
              refine lv_aload_n hx hb dX2_mirror_20 rfl (lv_at hl 0 rfl) ?_
              refine va_get (D := (dC, dI)) (ci := 9) (v := .ref (p0a 11)) (C := RX2) (T := TX2) (N := 19) hx hb hts i_X2 hown hK hP 0 rfl rfl 10 (by decide) (hts _ qw681) (fun _ h9 => h9) rfl dX2_mirror_21 ?_
              refine lv_iload_n hx hb dX2_mirror_24 rfl (lv_at hl 1 rfl) ?_
              refine lv_aload_n hx hb dX2_mirror_25 rfl (lv_at hl 0 rfl) ?_
              refine va_get (D := (dC, dI)) (ci := 9) (v := .int (p0w 0 2)) (C := RX2) (T := TX2) (N := 19) hx hb hts i_X2 hown hK hP 0 rfl rfl 2 (by decide) (hts _ qw669) (fun _ h9 => h9) rfl dX2_mirror_26 ?_
              refine lv_imul hx hb dX2_mirror_29 ?_
              refine lv_iload_n hx hb dX2_mirror_30 rfl (lv_at hl 2 rfl) ?_
              refine lv_iadd hx hb dX2_mirror_31 ?_
              obtain ⟨hq3, hrun⟩ := chk9 hrun
              refine va_lald hx hb hK hP 7 6 rfl rfl (ixb_in hq3) dX2_mirror_32 ?_
              refine lv_lstore_n (lv' := [(3, .long (p0l_12 11 (nn ((v1_2 * (p0w 0 2)) + v2_12)))), (0, .ref (p0a 0)), (1, .int v1_2), (2, .int v2_12)]) hx hb dX2_mirror_33 rfl hl (by decide) rfl (fun ls hl => ?_)
              have L34 : ∀ (n_34 : Nat) (v3_34 : Int64) (p0l_34 : SL) (o34 : SL) (H : Heap) (locs : List Loc) (ls : Array Slot), (fX2_mirror_L34 p0n p0w v1_2 v2_12 n_34) v3_34 p0l_34 = some o34 → va_P (dC, dI) cls (List.flatten ([(oX2 (p0a 0) p0a p0k p0n p0w p0l_34)] : List va_W)) H → va_D A (List.flatten ([(oX2 (p0a 0) p0a p0k p0n p0w p0l_34)] : List va_W)) → va_K (dC, dI) cls (List.flatten ([(tX2 p0k)] : List (List (ClassId × FieldType)))) s → va_S A s.heap H locs → lv_has ls 5 [(0, .ref (p0a 0)), (1, .int v1_2), (2, .int v2_12), (3, .long v3_34)] → (∀ (H : Heap) (locs : List Loc) (ls : Array Slot), va_P (dC, dI) cls (List.flatten ([(oX2 (p0a 0) p0a p0k p0n p0w o34)] : List va_W)) H → va_D A (List.flatten ([(oX2 (p0a 0) p0a p0k p0n p0w o34)] : List va_W)) → va_K (dC, dI) cls (List.flatten ([(tX2 p0k)] : List (List (ClassId × FieldType)))) s → va_S A s.heap H locs → lv_has ls 5 [(0, .ref (p0a 0)), (1, .int v1_2), (2, .int v2_12)] → W p l e ({ frames := 2, cells := 0, slots := 0, locals := 42 } : Room) s m ([.ref (p0a 0)] : List Value).toArray below meth c H locs 0 0 Q (F0 m 67 ls [])) → W p l e ({ frames := 2, cells := 0, slots := 0, locals := 42 } : Room) s m ([.ref (p0a 0)] : List Value).toArray below meth c H locs 0 0 Q (F0 m 34 ls []) := by
                intro n_34
                induction n_34 with
                | zero => intro v3_34 p0l_34 o34 H locs ls hrun; exact (no9 rfl hrun).elim
                | succ n_34 IH34 =>
                  intro v3_34 p0l_34 o34 H locs ls hrun hP hD hK hS hl hk34
                  unfold fX2_mirror_L34 at hrun
                  refine lv_lload_n hx hb dX2_mirror_34 rfl (lv_at hl 3 rfl) ?_
                  refine lv_lconst (v := 0) hx hb dX2_mirror_35 (by decide) ?_
                  refine W.lcmp hx hb dX2_mirror_36 ?_
                  rcases br9 hrun with ⟨hc4, hrun⟩ | ⟨hc4, hrun⟩
                  · refine lv_if_eq (tgt := 67) hx hb dX2_mirror_37 (by decide) (fun _ => ?_) (fun c => absurd hc4 c)
                    obtain rfl := (Option.some.inj hrun)
                    exact hk34 _ _ _ hP hD hK hS (lv_sub hl [0, 1, 2] rfl)
                  · refine lv_if_eq (tgt := 67) hx hb dX2_mirror_37 (by decide) (fun c => absurd c hc4) (fun _ => ?_)
                    refine lv_aload_n hx hb dX2_mirror_40 rfl (lv_at hl 0 rfl) ?_
                    refine lv_aload_n hx hb dX2_mirror_41 rfl (lv_at hl 0 rfl) ?_
                    refine va_get (D := (dC, dI)) (ci := 9) (v := .ref (p0a 11)) (C := RX2) (T := TX2) (N := 19) hx hb hts i_X2 hown hK hP 0 rfl rfl 10 (by decide) (hts _ qw681) (fun _ h9 => h9) rfl dX2_mirror_42 ?_
                    refine lv_iload_n hx hb dX2_mirror_45 rfl (lv_at hl 2 rfl) ?_
                    refine lv_bipush (v := 64) hx hb dX2_mirror_46 (by decide) ?_
                    refine lv_imul hx hb dX2_mirror_48 ?_
                    refine lv_lload_n hx hb dX2_mirror_49 rfl (lv_at hl 3 rfl) ?_
                    obtain ⟨o_5, hc_5, hrun⟩ := bnd9 hrun
                    have hPx : va_P (dC, dI) cls ((List.flatten ([] : List va_W)) ++ (List.flatten ([(oX2 (p0a 0) p0a p0k p0n p0w p0l_34)] : List va_W))) H := vP_fa (vP_perm hP (bP (List.Perm.refl _)))
                    have hDx : va_D A ((List.flatten ([] : List va_W)) ++ (List.flatten ([(oX2 (p0a 0) p0a p0k p0n p0w p0l_34)] : List va_W))) := vD_fa (vD_perm hD (bP (List.Perm.refl _)))
                    have hKx : va_K (dC, dI) cls ((List.flatten ([] : List (List (ClassId × FieldType)))) ++ (List.flatten ([(tX2 p0k)] : List (List (ClassId × FieldType))))) s := vK_fa (vK_perm hK (bP (List.Perm.refl _)))
                    have hPc := vP_l hPx
                    have hDc := vD_l hDx
                    have hKc := vK_l hKx
                    have hFc := vfree hDx hS hA
                    refine va_calli (va_runSN (As := [.long v3_34]) (rest := [.int (v2_12 * 64), .ref (p0a 11), .ref (p0a 0)]) ⟨hx, hb, hml, hown, hts⟩ (kX11_lowest l dC dI (p0 := v3_34) (sz := _) (o := o_5) (hrun := hc_5)) ⟨(va_cnB 1 hts (gi_z qw775) rfl rfl rfl (hE.nw (List.mem_append_right _ (tbl_9 (i := 34) rfl)) rfl) (hts _ qw129) (by decide +kernel) ⟨Nat.le_of_ble_eq_true rfl, Nat.le_of_ble_eq_true rfl⟩), (hts _ qw776), trivial⟩ ⟨PRE.blind, PRE.of hE hS hFc hPc hKc hDc⟩ rfl rfl hl.1 rfl (lv_room (Nat.le_of_ble_eq_true rfl)) dX2_mirror_50 ⟨(Nat.le_of_ble_eq_true rfl), (Nat.le_of_ble_eq_true rfl)⟩) hS (fun q _ h => hFc q h) hFc (fun r6 u t H locs ht hvm hw hB hz1 hk1 hS => ?_)
                    obtain ⟨b1, b2, b3⟩ := hB
                    rw [ht] at b1
                    obtain ⟨hP, hD, hK⟩ := JOINC (wc := (List.flatten ([] : List va_W))) (wr := (List.flatten ([(oX2 (p0a 0) p0a p0k p0n p0w p0l_34)] : List va_W))) (w1 := (List.flatten ([] : List va_W))) (t1 := (List.flatten ([] : List (List (ClassId × FieldType))))) hPx hDx hKx hk1 hFc b1 (va_K.moved hvm.symm b2) b3
                    have hP : va_P (dC, dI) cls (List.flatten ([(oX2 (p0a 0) p0a p0k p0n p0w p0l_34)] : List va_W)) H := vP_perm (vP_fb hP) (bP (List.Perm.refl _))
                    have hD : va_D A (List.flatten ([(oX2 (p0a 0) p0a p0k p0n p0w p0l_34)] : List va_W)) := vD_perm (vD_fb hD) (bP (List.Perm.refl _))
                    have hK : va_K (dC, dI) cls (List.flatten ([(tX2 p0k)] : List (List (ClassId × FieldType)))) s := vK_perm (vK_fb hK) (bP (List.Perm.refl _))
                    obtain rfl : o_5 = r6 := hw.symm
                    refine lv_iadd hx hb dX2_mirror_53 ?_
                    refine lv_iload_n hx hb dX2_mirror_54 rfl (lv_at hl 1 rfl) ?_
                    obtain ⟨o_7, hc_7, hrun⟩ := bnd9 hrun
                    have hPx : va_P (dC, dI) cls ((List.flatten ([(oX2 (p0a 0) p0a p0k p0n p0w p0l_34)] : List va_W)) ++ (List.flatten ([] : List va_W))) H := vP_fa (vP_perm hP (bP (List.Perm.refl _)))
                    have hDx : va_D A ((List.flatten ([(oX2 (p0a 0) p0a p0k p0n p0w p0l_34)] : List va_W)) ++ (List.flatten ([] : List va_W))) := vD_fa (vD_perm hD (bP (List.Perm.refl _)))
                    have hKx : va_K (dC, dI) cls ((List.flatten ([(tX2 p0k)] : List (List (ClassId × FieldType)))) ++ (List.flatten ([] : List (List (ClassId × FieldType))))) s := vK_fa (vK_perm hK (bP (List.Perm.refl _)))
                    have hPc := vP_l hPx
                    have hDc := vD_l hDx
                    have hKc := vK_l hKx
                    have hFc := vfree hDx hS hA
                    refine va_callv (va_runV (As := [.ref (p0a 11), .int ((v2_12 * 64) + o_5), .int v1_2]) (rest := []) ⟨hx, hb, hml, hown, hts⟩ (kX2_put_a1_p0_10 l dC dI (p0a := p0a) (p0k := p0k) (p0n := p0n) (p0w := p0w) (p0l := p0l_34) (p2 := ((v2_12 * 64) + o_5)) (p3 := v1_2) (sz := _) (o := o_7) (hrun := hc_7)) (cwV 3 hts (gi_V qw704 qw705 qw706 qw694 (gi_z qw703)) rfl rfl rfl (by decide +kernel) ⟨Nat.le_of_ble_eq_true rfl, Nat.le_of_ble_eq_true rfl⟩) ⟨PRE.blind, va_recv hKc hPc (ci := 9) (q0 := 0) rfl rfl, PRE.of hE hS hFc hPc hKc hDc⟩ rfl rfl hl.1 rfl (lv_room (Nat.le_of_ble_eq_true rfl)) dX2_mirror_55 ⟨(Nat.le_of_ble_eq_true rfl), (Nat.le_of_ble_eq_true rfl)⟩) hS (fun q _ h => hFc q h) hFc (fun u t H locs ht hvm hw hB hz1 hk1 hS => ?_)
                    obtain ⟨b1, b2, b3⟩ := hB
                    rw [ht] at b1
                    obtain ⟨hP, hD, hK⟩ := JOINC (wc := (List.flatten ([(oX2 (p0a 0) p0a p0k p0n p0w p0l_34)] : List va_W))) (wr := (List.flatten ([] : List va_W))) (w1 := (List.flatten ([(oX2 (p0a 0) p0a p0k p0n p0w o_7)] : List va_W))) (t1 := (List.flatten ([(tX2 p0k)] : List (List (ClassId × FieldType))))) hPx hDx hKx hk1 hFc b1 (va_K.moved hvm.symm b2) b3
                    have hP : va_P (dC, dI) cls (List.flatten ([(oX2 (p0a 0) p0a p0k p0n p0w o_7)] : List va_W)) H := vP_perm (vP_fb hP) (bP (List.Perm.refl _))
                    have hD : va_D A (List.flatten ([(oX2 (p0a 0) p0a p0k p0n p0w o_7)] : List va_W)) := vD_perm (vD_fb hD) (bP (List.Perm.refl _))
                    have hK : va_K (dC, dI) cls (List.flatten ([(tX2 p0k)] : List (List (ClassId × FieldType)))) s := vK_perm (vK_fb hK) (bP (List.Perm.refl _))
                    refine lv_lload_n hx hb dX2_mirror_58 rfl (lv_at hl 3 rfl) ?_
                    refine lv_lload_n hx hb dX2_mirror_59 rfl (lv_at hl 3 rfl) ?_
                    refine lv_lconst (v := 1) hx hb dX2_mirror_60 (by decide) ?_
                    refine lv_lsub hx hb dX2_mirror_61 ?_
                    refine lv_land hx hb dX2_mirror_62 ?_
                    refine lv_lstore_n (lv' := [(3, .long (v3_34 &&& (v3_34 - (1 : Int64)))), (0, .ref (p0a 0)), (1, .int v1_2), (2, .int v2_12)]) hx hb dX2_mirror_63 rfl hl (by decide) rfl (fun ls hl => ?_)
                    refine lv_goto (tgt := 34) hx hb dX2_mirror_64 (by decide) ?_
                    exact IH34 (v3_34 &&& (v3_34 - (1 : Int64))) o_7 o34 _ _ _ hrun hP hD hK hS (lv_sub hl [1, 2, 3, 0] rfl) hk34
              obtain ⟨o34, hc34, hrun⟩ := bnd9 hrun
              refine L34 NF (p0l_12 11 (nn ((v1_2 * (p0w 0 2)) + v2_12))) p0l_12 o34 _ _ _ hc34 hP hD hK hS (lv_sub hl [1, 2, 3, 0] rfl) ?_
              intro H locs ls hP hD hK hS hl
              have hl := hl
              refine lv_iinc (v := (v2_12 + 1)) (lv' := [(2, .int (v2_12 + 1)), (0, .ref (p0a 0)), (1, .int v1_2)]) hx hb dX2_mirror_67 hl (k := 2) rfl rfl (by decide) rfl (fun ls hl => ?_)
              refine lv_goto (tgt := 12) hx hb dX2_mirror_70 (by decide) ?_
              exact IH12 (v2_12 + 1) o34 o12 _ _ _ hrun hP hD hK hS (lv_sub hl [1, 2, 0] rfl) hk12
        obtain ⟨o12, hc12, hrun⟩ := bnd9 hrun
        refine L12 NF 0 p0l_2 o12 _ _ _ hc12 hP hD hK hS (lv_sub hl [1, 2, 0] rfl) ?_
        intro H locs ls hP hD hK hS hl
        have hl := hl
        refine lv_iinc (v := (v1_2 + 1)) (lv' := [(1, .int (v1_2 + 1)), (0, .ref (p0a 0))]) hx hb dX2_mirror_73 hl (k := 1) rfl rfl (by decide) rfl (fun ls hl => ?_)
        refine lv_goto (tgt := 2) hx hb dX2_mirror_76 (by decide) ?_
        exact IH2 (v1_2 + 1) o12 o2 _ _ _ hrun hP hD hK hS (lv_sub hl [1, 0] rfl) hk2
  obtain ⟨o2, hc2, hrun⟩ := bnd9 hrun
  refine L2 NF 0 p0l o2 _ _ _ hc2 hP hD hK hS (lv_sub hl [1, 0] rfl) ?_
  intro H locs ls hP hD hK hS hl
  have hl := hl
  have ho9 : o2 = o := Option.some.inj hrun
  have hP9 : va_P (dC, dI) cls (List.flatten ([(oX2 (p0a 0) p0a p0k p0n p0w o)] : List va_W)) H := by first | exact hP | (rw [← ho9]; exact hP)
  have hD9 : va_D A (List.flatten ([(oX2 (p0a 0) p0a p0k p0n p0w o)] : List va_W)) := by first | exact hD | (rw [← ho9]; exact hD)
  subst hQ
  exact W.vret hx hb hr (fun t ht hW => ⟨⟨(), rfl, trivial, ⟨by rw [ht]; exact hP9, va_K.moved hW.alike hK, hD9⟩⟩, hS.F ht⟩) hS.2.2 dX2_mirror_79
def fX2_countDegrees_L32 (p0n : Nat → Nat) (p0l : SL) (v1_2 : Int32) : Nat → Int32 → ST → Option ST
  | 0 => fun _ _ => none
  | n_32 + 1 => fun v2_32 p0w_32 => (if (p0w_32 0 2) ≤ v2_32 then some p0w_32 else (if ixb v1_2 (p0n 13) = true then (if ixb ((v1_2 * (p0w_32 0 2)) + v2_32) (p0n 11) = true then ((fJ13_bitCount_95d88 (p0l 11 (nn ((v1_2 * (p0w_32 0 2)) + v2_32)))).bind fun (o_8 : Int32) => (if ixb v1_2 (p0n 13) = true then (lt9 (upw p0w_32 13 (nn v1_2) ((p0w_32 13 (nn v1_2)) + o_8)) fun (w11 : ST) => ((fX2_countDegrees_L32 p0n p0l v1_2 n_32) (v2_32 + 1) w11)) else none)) else none) else none))
def fX2_countDegrees_J29 (kk2 : Int32 → ST → Option ST) (p0n : Nat → Nat) (p0l : SL) (v1_2 : Int32) (p0w_2 : ST) (y0_29 : Int32) (y1_29 : Int32) : Option ST := (if ixb y1_29 (p0n 13) = true then (lt9 (upw p0w_2 13 (nn y1_29) y0_29) fun (w4 : ST) => ((fX2_countDegrees_L32 p0n p0l v1_2 NF 0 w4).bind fun (o32 : ST) => (kk2 (v1_2 + 1) o32))) else none)
def fX2_countDegrees_L2 (p0n : Nat → Nat) (p0l : SL) : Nat → Int32 → ST → Option ST
  | 0 => fun _ _ => none
  | n_2 + 1 => fun v1_2 p0w_2 => (if (p0w_2 0 1) ≤ v1_2 then some p0w_2 else (if ixb v1_2 (p0n 12) = true then (if (p0w_2 12 (nn v1_2)) < 0 then (fX2_countDegrees_J29 (fX2_countDegrees_L2 p0n p0l n_2) p0n p0l v1_2 p0w_2 0 v1_2) else (fX2_countDegrees_J29 (fX2_countDegrees_L2 p0n p0l n_2) p0n p0l v1_2 p0w_2 1 v1_2)) else none))
def fX2_countDegrees_L114 (p0n : Nat → Nat) (v2_92 : Int32) : Nat → Int64 → ST → Option ST
  | 0 => fun _ _ => none
  | n_114 + 1 => fun v3_114 p0w_114 => (if (lg_cmp v3_114 (0 : Int64)) = 0 then some p0w_114 else ((fX11_lowest v3_114).bind fun (o_17 : Int32) => (if ixb ((v2_92 * 64) + o_17) (p0n 13) = true then (if ixb ((v2_92 * 64) + o_17) (p0n 13) = true then (lt9 (upw p0w_114 13 (nn ((v2_92 * 64) + o_17)) ((p0w_114 13 (nn ((v2_92 * 64) + o_17))) + 1)) fun (w21 : ST) => ((fX2_countDegrees_L114 p0n v2_92 n_114) (v3_114 &&& (v3_114 - (1 : Int64))) w21)) else none) else none)))
def fX2_countDegrees_L92 (p0n : Nat → Nat) (p0l : SL) (v1_82 : Int32) : Nat → Int32 → ST → Option ST
  | 0 => fun _ _ => none
  | n_92 + 1 => fun v2_92 p0w_92 => (if (p0w_92 0 2) ≤ v2_92 then some p0w_92 else (if ixb ((v1_82 * (p0w_92 0 2)) + v2_92) (p0n 11) = true then ((fX2_countDegrees_L114 p0n v2_92 NF (p0l 11 (nn ((v1_82 * (p0w_92 0 2)) + v2_92))) p0w_92).bind fun (o114 : ST) => ((fX2_countDegrees_L92 p0n p0l v1_82 n_92) (v2_92 + 1) o114)) else none))
def fX2_countDegrees_L82 (p0n : Nat → Nat) (p0l : SL) : Nat → Int32 → ST → Option ST
  | 0 => fun _ _ => none
  | n_82 + 1 => fun v1_82 p0w_82 => (if (p0w_82 0 1) ≤ v1_82 then some p0w_82 else ((fX2_countDegrees_L92 p0n p0l v1_82 NF 0 p0w_82).bind fun (o92 : ST) => ((fX2_countDegrees_L82 p0n p0l n_82) (v1_82 + 1) o92)))
def fX2_countDegrees (p0n : Nat → Nat) (p0w : ST) (p0l : SL) : Option ST := ((fX2_countDegrees_L2 p0n p0l NF 0 p0w).bind fun (o2 : ST) => ((fX2_countDegrees_L82 p0n p0l NF (o2 0 0) o2).bind fun (o82 : ST) => some o82))
set_option maxHeartbeats 16000000 in
set_option maxRecDepth 100000 in
theorem kX2_countDegrees {zs : ZS} (l : Launch) (dC : Nat → ClassId) (dI : Nat → Nat → Nat) (p0a : Nat → Nat) (p0k : Nat → ClassId) (p0n : Nat → Nat) (p0w : ST) (p0l : SL) (sz : Nat) (o : ST) (hrun : fX2_countDegrees p0n p0w p0l = some o) : Met l yX2_countDegrees (wz yX2_countDegrees cX2_countDegrees 5 (Option.none : Option Jvm.ClassFile.FieldType)) ({ frames := 2, cells := 0, slots := 0, locals := 42 } : Room) (va_Pc [.ref (p0a 0)] (PRE zs dC dI (List.flatten ([(oX2 (p0a 0) p0a p0k p0n p0w p0l)] : List va_W)) (List.flatten ([(tX2 p0k)] : List (List (ClassId × FieldType)))) sz)) (va_Qv (fun (_ : Unit) => True) (fun _ t => POST dC dI (List.flatten ([(oX2 (p0a 0) p0a p0k p0n o p0l)] : List va_W)) (List.flatten ([(tX2 p0k)] : List (List (ClassId × FieldType)))) (va_A (List.flatten ([(oX2 (p0a 0) p0a p0k p0n p0w p0l)] : List va_W)) sz) t) (va_A (List.flatten ([(oX2 (p0a 0) p0a p0k p0n p0w p0l)] : List va_W)) sz)) 0 0 (va_A (List.flatten ([(oX2 (p0a 0) p0a p0k p0n p0w p0l)] : List va_W)) sz) := by
  refine Met.ofW (cc := cX2_countDegrees) (maxL := 5) (ret := (Option.none : Option Jvm.ClassFile.FieldType)) (by decide) rfl ?_
  intro p e s m args below meth c s₁ B hml hv
  obtain ⟨rfl, hsz, hP, hK, hD0, hE⟩ := hv
  have hx := B.exec
  have hb := B.bytes
  have hr := B.returns
  have hts0 := atoms_spec (ws := wz yX2_countDegrees cX2_countDegrees 5 (Option.none : Option Jvm.ClassFile.FieldType)) B.pre
  have hts : ∀ w ∈ gw, w.before _ s = true := fun w h => hts0 w (List.mem_cons_of_mem _ h)
  have hown : s.vm.findClass RX2 = some m.cls := findClass_of_methodNamed B.named
  have hlocks := B.notSynchronized
  subst hsz
  have hD := hD0.self (sz := s.heap.size)
  refine gQ9 ?_
  intro Q hQ
  generalize hAe : va_A (List.flatten ([(oX2 (p0a 0) p0a p0k p0n p0w p0l)] : List va_W)) s.heap.size = A at hD hE hQ
  have hA : ∀ q : Nat, s.heap.size ≤ q → A q := fun q h => by rw [← hAe]; exact Or.inr h
  have hS : va_S A s.heap s.heap [] := va_S.rf
  have hP : va_P (dC, dI) cls (List.flatten ([(oX2 (p0a 0) p0a p0k p0n p0w p0l)] : List va_W)) s.heap := hP
  have hl := lv_entry ([.ref (p0a 0)]) (n := 5) (Nat.le_of_ble_eq_true rfl)
  rw [lg_entry_eq]
  generalize (lg_sl ([.ref (p0a 0)]) ++ List.replicate (5 - (lg_sl ([.ref (p0a 0)])).length) Slot.unset).toArray = ls at hl ⊢
  have hl : lv_has ls 5 [(0, .ref (p0a 0))] := hl
  obtain ⟨H, hHe⟩ : ∃ H, H = s.heap := ⟨_, rfl⟩
  obtain ⟨locs, hle⟩ : ∃ locs : List Loc, locs = [] := ⟨_, rfl⟩
  rw [← hHe] at hP
  have hS : va_S A s.heap H locs := by rw [hHe, hle]; exact hS
  show W p l e ({ frames := 2, cells := 0, slots := 0, locals := 42 } : Room) s m ([.ref (p0a 0)] : List Value).toArray below meth c s.heap [] 0 0 Q (F0 m 0 ls [])
  rw [← hle]
  refine wH9 hHe ?_
  unfold fX2_countDegrees at hrun
  refine lv_iconst (v := 0) hx hb dX2_countDegrees_0 (by decide) ?_
  refine lv_istore_n (lv' := [(1, .int 0), (0, .ref (p0a 0))]) hx hb dX2_countDegrees_1 rfl hl (by decide) rfl (fun ls hl => ?_)
  have L2 : ∀ (n_2 : Nat) (v1_2 : Int32) (p0w_2 : ST) (o2 : ST) (H : Heap) (locs : List Loc) (ls : Array Slot), (fX2_countDegrees_L2 p0n p0l n_2) v1_2 p0w_2 = some o2 → va_P (dC, dI) cls (List.flatten ([(oX2 (p0a 0) p0a p0k p0n p0w_2 p0l)] : List va_W)) H → va_D A (List.flatten ([(oX2 (p0a 0) p0a p0k p0n p0w_2 p0l)] : List va_W)) → va_K (dC, dI) cls (List.flatten ([(tX2 p0k)] : List (List (ClassId × FieldType)))) s → va_S A s.heap H locs → lv_has ls 5 [(0, .ref (p0a 0)), (1, .int v1_2)] → (∀ (H : Heap) (locs : List Loc) (ls : Array Slot), va_P (dC, dI) cls (List.flatten ([(oX2 (p0a 0) p0a p0k p0n o2 p0l)] : List va_W)) H → va_D A (List.flatten ([(oX2 (p0a 0) p0a p0k p0n o2 p0l)] : List va_W)) → va_K (dC, dI) cls (List.flatten ([(tX2 p0k)] : List (List (ClassId × FieldType)))) s → va_S A s.heap H locs → lv_has ls 5 [(0, .ref (p0a 0))] → W p l e ({ frames := 2, cells := 0, slots := 0, locals := 42 } : Room) s m ([.ref (p0a 0)] : List Value).toArray below meth c H locs 0 0 Q (F0 m 77 ls [])) → W p l e ({ frames := 2, cells := 0, slots := 0, locals := 42 } : Room) s m ([.ref (p0a 0)] : List Value).toArray below meth c H locs 0 0 Q (F0 m 2 ls []) := by
    intro n_2
    induction n_2 with
    | zero => intro v1_2 p0w_2 o2 H locs ls hrun; exact (no9 rfl hrun).elim
    | succ n_2 IH2 =>
      intro v1_2 p0w_2 o2 H locs ls hrun hP hD hK hS hl hk2
      unfold fX2_countDegrees_L2 at hrun
      refine lv_iload_n hx hb dX2_countDegrees_2 rfl (lv_at hl 1 rfl) ?_
      refine lv_aload_n hx hb dX2_countDegrees_3 rfl (lv_at hl 0 rfl) ?_
      refine va_get (D := (dC, dI)) (ci := 9) (v := .int (p0w_2 0 1)) (C := RX2) (T := TX2) (N := 19) hx hb hts i_X2 hown hK hP 0 rfl rfl 1 (by decide) (hts _ qw668) (fun _ h9 => h9) rfl dX2_countDegrees_4 ?_
      rcases br9 hrun with ⟨hc1, hrun⟩ | ⟨hc1, hrun⟩
      · refine lv_icmp_ge (tgt := 77) hx hb dX2_countDegrees_7 (by decide) (fun _ => ?_) (fun c => absurd hc1 c)
        obtain rfl := (Option.some.inj hrun)
        exact hk2 _ _ _ hP hD hK hS (lv_sub hl [0] rfl)
      · refine lv_icmp_ge (tgt := 77) hx hb dX2_countDegrees_7 (by decide) (fun c => absurd c hc1) (fun _ => ?_)
        refine lv_aload_n hx hb dX2_countDegrees_10 rfl (lv_at hl 0 rfl) ?_
        refine va_get (D := (dC, dI)) (ci := 9) (v := .ref (p0a 13)) (C := RX2) (T := TX2) (N := 19) hx hb hts i_X2 hown hK hP 0 rfl rfl 12 (by decide) (hts _ qw683) (fun _ h9 => h9) rfl dX2_countDegrees_11 ?_
        refine lv_iload_n hx hb dX2_countDegrees_14 rfl (lv_at hl 1 rfl) ?_
        refine lv_aload_n hx hb dX2_countDegrees_15 rfl (lv_at hl 0 rfl) ?_
        refine va_get (D := (dC, dI)) (ci := 9) (v := .ref (p0a 12)) (C := RX2) (T := TX2) (N := 19) hx hb hts i_X2 hown hK hP 0 rfl rfl 11 (by decide) (hts _ qw682) (fun _ h9 => h9) rfl dX2_countDegrees_16 ?_
        refine lv_iload_n hx hb dX2_countDegrees_19 rfl (lv_at hl 1 rfl) ?_
        obtain ⟨hq2, hrun⟩ := chk9 hrun
        refine va_iald hx hb hK hP 8 7 rfl rfl (ixb_in hq2) dX2_countDegrees_20 ?_
        have J29 : ∀ (y0_29 : Int32) (y1_29 : Int32) (H : Heap) (locs : List Loc) (ls : Array Slot), (fX2_countDegrees_J29 (fX2_countDegrees_L2 p0n p0l n_2) p0n p0l v1_2 p0w_2 y0_29 y1_29) = some o2 → va_P (dC, dI) cls (List.flatten ([(oX2 (p0a 0) p0a p0k p0n p0w_2 p0l)] : List va_W)) H → va_D A (List.flatten ([(oX2 (p0a 0) p0a p0k p0n p0w_2 p0l)] : List va_W)) → va_K (dC, dI) cls (List.flatten ([(tX2 p0k)] : List (List (ClassId × FieldType)))) s → va_S A s.heap H locs → lv_has ls 5 [(0, .ref (p0a 0)), (1, .int v1_2)] → W p l e ({ frames := 2, cells := 0, slots := 0, locals := 42 } : Room) s m ([.ref (p0a 0)] : List Value).toArray below meth c H locs 0 0 Q (F0 m 29 ls [.int y0_29, .int y1_29, .ref (p0a 13)]) := by
          intro y0_29 y1_29 H locs ls hrun hP hD hK hS hl 
          unfold fX2_countDegrees_J29 at hrun
          obtain ⟨hq3, hrun⟩ := chk9 hrun
          refine va_iast hx hb hK hP hD hS 9 8 rfl rfl (ixb_in hq3) dX2_countDegrees_29 (fun H locs hP hD hS => ?_)
          have hP : va_P (dC, dI) cls (List.flatten ([(oX2 (p0a 0) p0a p0k p0n (upw p0w_2 13 (nn y1_29) y0_29) p0l)] : List va_W)) H := hP
          have hD : va_D A (List.flatten ([(oX2 (p0a 0) p0a p0k p0n (upw p0w_2 13 (nn y1_29) y0_29) p0l)] : List va_W)) := hD
          obtain ⟨w4, ew4, hrun⟩ := let9 hrun
          rw [← ew4] at hP hD
          refine lv_iconst (v := 0) hx hb dX2_countDegrees_30 (by decide) ?_
          refine lv_istore_n (lv' := [(2, .int 0), (0, .ref (p0a 0)), (1, .int v1_2)]) hx hb dX2_countDegrees_31 rfl hl (by decide) rfl (fun ls hl => ?_)
          have L32 : ∀ (n_32 : Nat) (v2_32 : Int32) (p0w_32 : ST) (o32 : ST) (H : Heap) (locs : List Loc) (ls : Array Slot), (fX2_countDegrees_L32 p0n p0l v1_2 n_32) v2_32 p0w_32 = some o32 → va_P (dC, dI) cls (List.flatten ([(oX2 (p0a 0) p0a p0k p0n p0w_32 p0l)] : List va_W)) H → va_D A (List.flatten ([(oX2 (p0a 0) p0a p0k p0n p0w_32 p0l)] : List va_W)) → va_K (dC, dI) cls (List.flatten ([(tX2 p0k)] : List (List (ClassId × FieldType)))) s → va_S A s.heap H locs → lv_has ls 5 [(0, .ref (p0a 0)), (1, .int v1_2), (2, .int v2_32)] → (∀ (H : Heap) (locs : List Loc) (ls : Array Slot), va_P (dC, dI) cls (List.flatten ([(oX2 (p0a 0) p0a p0k p0n o32 p0l)] : List va_W)) H → va_D A (List.flatten ([(oX2 (p0a 0) p0a p0k p0n o32 p0l)] : List va_W)) → va_K (dC, dI) cls (List.flatten ([(tX2 p0k)] : List (List (ClassId × FieldType)))) s → va_S A s.heap H locs → lv_has ls 5 [(0, .ref (p0a 0)), (1, .int v1_2)] → W p l e ({ frames := 2, cells := 0, slots := 0, locals := 42 } : Room) s m ([.ref (p0a 0)] : List Value).toArray below meth c H locs 0 0 Q (F0 m 71 ls [])) → W p l e ({ frames := 2, cells := 0, slots := 0, locals := 42 } : Room) s m ([.ref (p0a 0)] : List Value).toArray below meth c H locs 0 0 Q (F0 m 32 ls []) := by
            intro n_32
            induction n_32 with
            | zero => intro v2_32 p0w_32 o32 H locs ls hrun; exact (no9 rfl hrun).elim
            | succ n_32 IH32 =>
              intro v2_32 p0w_32 o32 H locs ls hrun hP hD hK hS hl hk32
              unfold fX2_countDegrees_L32 at hrun
              refine lv_iload_n hx hb dX2_countDegrees_32 rfl (lv_at hl 2 rfl) ?_
              refine lv_aload_n hx hb dX2_countDegrees_33 rfl (lv_at hl 0 rfl) ?_
              refine va_get (D := (dC, dI)) (ci := 9) (v := .int (p0w_32 0 2)) (C := RX2) (T := TX2) (N := 19) hx hb hts i_X2 hown hK hP 0 rfl rfl 2 (by decide) (hts _ qw669) (fun _ h9 => h9) rfl dX2_countDegrees_34 ?_
              rcases br9 hrun with ⟨hc5, hrun⟩ | ⟨hc5, hrun⟩
              · refine lv_icmp_ge (tgt := 71) hx hb dX2_countDegrees_37 (by decide) (fun _ => ?_) (fun c => absurd hc5 c)
                obtain rfl := (Option.some.inj hrun)
                exact hk32 _ _ _ hP hD hK hS (lv_sub hl [0, 1] rfl)
              · refine lv_icmp_ge (tgt := 71) hx hb dX2_countDegrees_37 (by decide) (fun c => absurd c hc5) (fun _ => ?_)
                refine lv_aload_n hx hb dX2_countDegrees_40 rfl (lv_at hl 0 rfl) ?_
                refine va_get (D := (dC, dI)) (ci := 9) (v := .ref (p0a 13)) (C := RX2) (T := TX2) (N := 19) hx hb hts i_X2 hown hK hP 0 rfl rfl 12 (by decide) (hts _ qw683) (fun _ h9 => h9) rfl dX2_countDegrees_41 ?_
                refine lv_iload_n hx hb dX2_countDegrees_44 rfl (lv_at hl 1 rfl) ?_
                refine lv_dup2_11 hx hb dX2_countDegrees_45 rfl rfl ?_
                obtain ⟨hq6, hrun⟩ := chk9 hrun
                refine va_iald hx hb hK hP 9 8 rfl rfl (ixb_in hq6) dX2_countDegrees_46 ?_
                refine lv_aload_n hx hb dX2_countDegrees_47 rfl (lv_at hl 0 rfl) ?_
                refine va_get (D := (dC, dI)) (ci := 9) (v := .ref (p0a 11)) (C := RX2) (T := TX2) (N := 19) hx hb hts i_X2 hown hK hP 0 rfl rfl 10 (by decide) (hts _ qw681) (fun _ h9 => h9) rfl dX2_countDegrees_48 ?_
                refine lv_iload_n hx hb dX2_countDegrees_51 rfl (lv_at hl 1 rfl) ?_
                refine lv_aload_n hx hb dX2_countDegrees_52 rfl (lv_at hl 0 rfl) ?_
                refine va_get (D := (dC, dI)) (ci := 9) (v := .int (p0w_32 0 2)) (C := RX2) (T := TX2) (N := 19) hx hb hts i_X2 hown hK hP 0 rfl rfl 2 (by decide) (hts _ qw669) (fun _ h9 => h9) rfl dX2_countDegrees_53 ?_
                refine lv_imul hx hb dX2_countDegrees_56 ?_
                refine lv_iload_n hx hb dX2_countDegrees_57 rfl (lv_at hl 2 rfl) ?_
                refine lv_iadd hx hb dX2_countDegrees_58 ?_
                obtain ⟨hq7, hrun⟩ := chk9 hrun
                refine va_lald hx hb hK hP 7 6 rfl rfl (ixb_in hq7) dX2_countDegrees_59 ?_
                obtain ⟨o_8, hc_8, hrun⟩ := bnd9 hrun
                have hPx : va_P (dC, dI) cls ((List.flatten ([] : List va_W)) ++ (List.flatten ([(oX2 (p0a 0) p0a p0k p0n p0w_32 p0l)] : List va_W))) H := vP_fa (vP_perm hP (bP (List.Perm.refl _)))
                have hDx : va_D A ((List.flatten ([] : List va_W)) ++ (List.flatten ([(oX2 (p0a 0) p0a p0k p0n p0w_32 p0l)] : List va_W))) := vD_fa (vD_perm hD (bP (List.Perm.refl _)))
                have hKx : va_K (dC, dI) cls ((List.flatten ([] : List (List (ClassId × FieldType)))) ++ (List.flatten ([(tX2 p0k)] : List (List (ClassId × FieldType))))) s := vK_fa (vK_perm hK (bP (List.Perm.refl _)))
                have hPc := vP_l hPx
                have hDc := vD_l hDx
                have hKc := vK_l hKx
                have hFc := vfree hDx hS hA
                refine va_calli (va_runS (As := [.long (p0l 11 (nn ((v1_2 * (p0w_32 0 2)) + v2_32)))]) (rest := [.int (p0w_32 13 (nn v1_2)), .int v1_2, .ref (p0a 13)]) ⟨hx, hb, hml, hown, hts⟩ (kJ13_bitCount_95d88 l dC dI (p0 := (p0l 11 (nn ((v1_2 * (p0w_32 0 2)) + v2_32)))) (sz := _) (o := o_8) (hrun := hc_8)) (va_cwS 1 hts (gi_S qw781 qw773 qw774 (gi_z qw771)) rfl rfl rfl (by decide +kernel) ⟨Nat.le_of_ble_eq_true rfl, Nat.le_of_ble_eq_true rfl⟩) ⟨PRE.blind, PRE.of hE hS hFc hPc hKc hDc⟩ rfl rfl hl.1 rfl (lv_room (Nat.le_of_ble_eq_true rfl)) dX2_countDegrees_60 ⟨(Nat.le_of_ble_eq_true rfl), (Nat.le_of_ble_eq_true rfl)⟩) hS (fun q _ h => hFc q h) hFc (fun r9 u t H locs ht hvm hw hB hz1 hk1 hS => ?_)
                obtain ⟨b1, b2, b3⟩ := hB
                rw [ht] at b1
                obtain ⟨hP, hD, hK⟩ := JOINC (wc := (List.flatten ([] : List va_W))) (wr := (List.flatten ([(oX2 (p0a 0) p0a p0k p0n p0w_32 p0l)] : List va_W))) (w1 := (List.flatten ([] : List va_W))) (t1 := (List.flatten ([] : List (List (ClassId × FieldType))))) hPx hDx hKx hk1 hFc b1 (va_K.moved hvm.symm b2) b3
                have hP : va_P (dC, dI) cls (List.flatten ([(oX2 (p0a 0) p0a p0k p0n p0w_32 p0l)] : List va_W)) H := vP_perm (vP_fb hP) (bP (List.Perm.refl _))
                have hD : va_D A (List.flatten ([(oX2 (p0a 0) p0a p0k p0n p0w_32 p0l)] : List va_W)) := vD_perm (vD_fb hD) (bP (List.Perm.refl _))
                have hK : va_K (dC, dI) cls (List.flatten ([(tX2 p0k)] : List (List (ClassId × FieldType)))) s := vK_perm (vK_fb hK) (bP (List.Perm.refl _))
                obtain rfl : o_8 = r9 := hw.symm
                refine lv_iadd hx hb dX2_countDegrees_63 ?_
                obtain ⟨hq10, hrun⟩ := chk9 hrun
                refine va_iast hx hb hK hP hD hS 9 8 rfl rfl (ixb_in hq10) dX2_countDegrees_64 (fun H locs hP hD hS => ?_)
                have hP : va_P (dC, dI) cls (List.flatten ([(oX2 (p0a 0) p0a p0k p0n (upw p0w_32 13 (nn v1_2) ((p0w_32 13 (nn v1_2)) + o_8)) p0l)] : List va_W)) H := hP
                have hD : va_D A (List.flatten ([(oX2 (p0a 0) p0a p0k p0n (upw p0w_32 13 (nn v1_2) ((p0w_32 13 (nn v1_2)) + o_8)) p0l)] : List va_W)) := hD
                obtain ⟨w11, ew11, hrun⟩ := let9 hrun
                rw [← ew11] at hP hD
                refine lv_iinc (v := (v2_32 + 1)) (lv' := [(2, .int (v2_32 + 1)), (0, .ref (p0a 0)), (1, .int v1_2)]) hx hb dX2_countDegrees_65 hl (k := 2) rfl rfl (by decide) rfl (fun ls hl => ?_)
                refine lv_goto (tgt := 32) hx hb dX2_countDegrees_68 (by decide) ?_
                exact IH32 (v2_32 + 1) w11 o32 _ _ _ hrun hP hD hK hS (lv_sub hl [1, 2, 0] rfl) hk32
          obtain ⟨o32, hc32, hrun⟩ := bnd9 hrun
          refine L32 NF 0 w4 o32 _ _ _ hc32 hP hD hK hS (lv_sub hl [1, 2, 0] rfl) ?_
          intro H locs ls hP hD hK hS hl
          have hl := hl
          refine lv_iinc (v := (v1_2 + 1)) (lv' := [(1, .int (v1_2 + 1)), (0, .ref (p0a 0))]) hx hb dX2_countDegrees_71 hl (k := 1) rfl rfl (by decide) rfl (fun ls hl => ?_)
          refine lv_goto (tgt := 2) hx hb dX2_countDegrees_74 (by decide) ?_
          exact IH2 (v1_2 + 1) o32 o2 _ _ _ hrun hP hD hK hS (lv_sub hl [1, 0] rfl) hk2
        rcases br9 hrun with ⟨hc12, hrun⟩ | ⟨hc12, hrun⟩
        · refine lv_if_lt (tgt := 28) hx hb dX2_countDegrees_21 (by decide) (fun _ => ?_) (fun c => absurd hc12 c)
          refine lv_iconst (v := 0) hx hb dX2_countDegrees_28 (by decide) ?_
          exact J29 0 v1_2 _ _ _ hrun hP hD hK hS (lv_sub hl [0, 1] rfl)
        · refine lv_if_lt (tgt := 28) hx hb dX2_countDegrees_21 (by decide) (fun c => absurd c hc12) (fun _ => ?_)
          refine lv_iconst (v := 1) hx hb dX2_countDegrees_24 (by decide) ?_
          refine lv_goto (tgt := 29) hx hb dX2_countDegrees_25 (by decide) ?_
          exact J29 1 v1_2 _ _ _ hrun hP hD hK hS (lv_sub hl [0, 1] rfl)
  obtain ⟨o2, hc2, hrun⟩ := bnd9 hrun
  refine L2 NF 0 p0w o2 _ _ _ hc2 hP hD hK hS (lv_sub hl [1, 0] rfl) ?_
  intro H locs ls hP hD hK hS hl
  have hl := hl
  refine lv_aload_n hx hb dX2_countDegrees_77 rfl (lv_at hl 0 rfl) ?_
  refine va_get (D := (dC, dI)) (ci := 9) (v := .int (o2 0 0)) (C := RX2) (T := TX2) (N := 19) hx hb hts i_X2 hown hK hP 0 rfl rfl 0 (by decide) (hts _ qw667) (fun _ h9 => h9) rfl dX2_countDegrees_78 ?_
  refine lv_istore_n (lv' := [(1, .int (o2 0 0)), (0, .ref (p0a 0))]) hx hb dX2_countDegrees_81 rfl hl (by decide) rfl (fun ls hl => ?_)
  have L82 : ∀ (n_82 : Nat) (v1_82 : Int32) (p0w_82 : ST) (o82 : ST) (H : Heap) (locs : List Loc) (ls : Array Slot), (fX2_countDegrees_L82 p0n p0l n_82) v1_82 p0w_82 = some o82 → va_P (dC, dI) cls (List.flatten ([(oX2 (p0a 0) p0a p0k p0n p0w_82 p0l)] : List va_W)) H → va_D A (List.flatten ([(oX2 (p0a 0) p0a p0k p0n p0w_82 p0l)] : List va_W)) → va_K (dC, dI) cls (List.flatten ([(tX2 p0k)] : List (List (ClassId × FieldType)))) s → va_S A s.heap H locs → lv_has ls 5 [(0, .ref (p0a 0)), (1, .int v1_82)] → (∀ (H : Heap) (locs : List Loc) (ls : Array Slot), va_P (dC, dI) cls (List.flatten ([(oX2 (p0a 0) p0a p0k p0n o82 p0l)] : List va_W)) H → va_D A (List.flatten ([(oX2 (p0a 0) p0a p0k p0n o82 p0l)] : List va_W)) → va_K (dC, dI) cls (List.flatten ([(tX2 p0k)] : List (List (ClassId × FieldType)))) s → va_S A s.heap H locs → lv_has ls 5 [] → W p l e ({ frames := 2, cells := 0, slots := 0, locals := 42 } : Room) s m ([.ref (p0a 0)] : List Value).toArray below meth c H locs 0 0 Q (F0 m 159 ls [])) → W p l e ({ frames := 2, cells := 0, slots := 0, locals := 42 } : Room) s m ([.ref (p0a 0)] : List Value).toArray below meth c H locs 0 0 Q (F0 m 82 ls []) := by
    intro n_82
    induction n_82 with
    | zero => intro v1_82 p0w_82 o82 H locs ls hrun; exact (no9 rfl hrun).elim
    | succ n_82 IH82 =>
      intro v1_82 p0w_82 o82 H locs ls hrun hP hD hK hS hl hk82
      unfold fX2_countDegrees_L82 at hrun
      refine lv_iload_n hx hb dX2_countDegrees_82 rfl (lv_at hl 1 rfl) ?_
      refine lv_aload_n hx hb dX2_countDegrees_83 rfl (lv_at hl 0 rfl) ?_
      refine va_get (D := (dC, dI)) (ci := 9) (v := .int (p0w_82 0 1)) (C := RX2) (T := TX2) (N := 19) hx hb hts i_X2 hown hK hP 0 rfl rfl 1 (by decide) (hts _ qw668) (fun _ h9 => h9) rfl dX2_countDegrees_84 ?_
      rcases br9 hrun with ⟨hc13, hrun⟩ | ⟨hc13, hrun⟩
      · refine lv_icmp_ge (tgt := 159) hx hb dX2_countDegrees_87 (by decide) (fun _ => ?_) (fun c => absurd hc13 c)
        obtain rfl := (Option.some.inj hrun)
        exact hk82 _ _ _ hP hD hK hS (lv_sub hl [] rfl)
      · refine lv_icmp_ge (tgt := 159) hx hb dX2_countDegrees_87 (by decide) (fun c => absurd c hc13) (fun _ => ?_)
        refine lv_iconst (v := 0) hx hb dX2_countDegrees_90 (by decide) ?_
        refine lv_istore_n (lv' := [(2, .int 0), (0, .ref (p0a 0)), (1, .int v1_82)]) hx hb dX2_countDegrees_91 rfl hl (by decide) rfl (fun ls hl => ?_)
        have L92 : ∀ (n_92 : Nat) (v2_92 : Int32) (p0w_92 : ST) (o92 : ST) (H : Heap) (locs : List Loc) (ls : Array Slot), (fX2_countDegrees_L92 p0n p0l v1_82 n_92) v2_92 p0w_92 = some o92 → va_P (dC, dI) cls (List.flatten ([(oX2 (p0a 0) p0a p0k p0n p0w_92 p0l)] : List va_W)) H → va_D A (List.flatten ([(oX2 (p0a 0) p0a p0k p0n p0w_92 p0l)] : List va_W)) → va_K (dC, dI) cls (List.flatten ([(tX2 p0k)] : List (List (ClassId × FieldType)))) s → va_S A s.heap H locs → lv_has ls 5 [(0, .ref (p0a 0)), (1, .int v1_82), (2, .int v2_92)] → (∀ (H : Heap) (locs : List Loc) (ls : Array Slot), va_P (dC, dI) cls (List.flatten ([(oX2 (p0a 0) p0a p0k p0n o92 p0l)] : List va_W)) H → va_D A (List.flatten ([(oX2 (p0a 0) p0a p0k p0n o92 p0l)] : List va_W)) → va_K (dC, dI) cls (List.flatten ([(tX2 p0k)] : List (List (ClassId × FieldType)))) s → va_S A s.heap H locs → lv_has ls 5 [(0, .ref (p0a 0)), (1, .int v1_82)] → W p l e ({ frames := 2, cells := 0, slots := 0, locals := 42 } : Room) s m ([.ref (p0a 0)] : List Value).toArray below meth c H locs 0 0 Q (F0 m 153 ls [])) → W p l e ({ frames := 2, cells := 0, slots := 0, locals := 42 } : Room) s m ([.ref (p0a 0)] : List Value).toArray below meth c H locs 0 0 Q (F0 m 92 ls []) := by
          intro n_92
          induction n_92 with
          | zero => intro v2_92 p0w_92 o92 H locs ls hrun; exact (no9 rfl hrun).elim
          | succ n_92 IH92 =>
            intro v2_92 p0w_92 o92 H locs ls hrun hP hD hK hS hl hk92
            unfold fX2_countDegrees_L92 at hrun
            refine lv_iload_n hx hb dX2_countDegrees_92 rfl (lv_at hl 2 rfl) ?_
            refine lv_aload_n hx hb dX2_countDegrees_93 rfl (lv_at hl 0 rfl) ?_
            refine va_get (D := (dC, dI)) (ci := 9) (v := .int (p0w_92 0 2)) (C := RX2) (T := TX2) (N := 19) hx hb hts i_X2 hown hK hP 0 rfl rfl 2 (by decide) (hts _ qw669) (fun _ h9 => h9) rfl dX2_countDegrees_94 ?_
            rcases br9 hrun with ⟨hc14, hrun⟩ | ⟨hc14, hrun⟩
            · refine lv_icmp_ge (tgt := 153) hx hb dX2_countDegrees_97 (by decide) (fun _ => ?_) (fun c => absurd hc14 c)
              obtain rfl := (Option.some.inj hrun)
              exact hk92 _ _ _ hP hD hK hS (lv_sub hl [0, 1] rfl)
            · refine lv_icmp_ge (tgt := 153) hx hb dX2_countDegrees_97 (by decide) (fun c => absurd c hc14) (fun _ => ?_)
              refine lv_aload_n hx hb dX2_countDegrees_100 rfl (lv_at hl 0 rfl) ?_
              refine va_get (D := (dC, dI)) (ci := 9) (v := .ref (p0a 11)) (C := RX2) (T := TX2) (N := 19) hx hb hts i_X2 hown hK hP 0 rfl rfl 10 (by decide) (hts _ qw681) (fun _ h9 => h9) rfl dX2_countDegrees_101 ?_
              refine lv_iload_n hx hb dX2_countDegrees_104 rfl (lv_at hl 1 rfl) ?_
              refine lv_aload_n hx hb dX2_countDegrees_105 rfl (lv_at hl 0 rfl) ?_
              refine va_get (D := (dC, dI)) (ci := 9) (v := .int (p0w_92 0 2)) (C := RX2) (T := TX2) (N := 19) hx hb hts i_X2 hown hK hP 0 rfl rfl 2 (by decide) (hts _ qw669) (fun _ h9 => h9) rfl dX2_countDegrees_106 ?_
              refine lv_imul hx hb dX2_countDegrees_109 ?_
              refine lv_iload_n hx hb dX2_countDegrees_110 rfl (lv_at hl 2 rfl) ?_
              refine lv_iadd hx hb dX2_countDegrees_111 ?_
              obtain ⟨hq15, hrun⟩ := chk9 hrun
              refine va_lald hx hb hK hP 7 6 rfl rfl (ixb_in hq15) dX2_countDegrees_112 ?_
              refine lv_lstore_n (lv' := [(3, .long (p0l 11 (nn ((v1_82 * (p0w_92 0 2)) + v2_92)))), (0, .ref (p0a 0)), (1, .int v1_82), (2, .int v2_92)]) hx hb dX2_countDegrees_113 rfl hl (by decide) rfl (fun ls hl => ?_)
              have L114 : ∀ (n_114 : Nat) (v3_114 : Int64) (p0w_114 : ST) (o114 : ST) (H : Heap) (locs : List Loc) (ls : Array Slot), (fX2_countDegrees_L114 p0n v2_92 n_114) v3_114 p0w_114 = some o114 → va_P (dC, dI) cls (List.flatten ([(oX2 (p0a 0) p0a p0k p0n p0w_114 p0l)] : List va_W)) H → va_D A (List.flatten ([(oX2 (p0a 0) p0a p0k p0n p0w_114 p0l)] : List va_W)) → va_K (dC, dI) cls (List.flatten ([(tX2 p0k)] : List (List (ClassId × FieldType)))) s → va_S A s.heap H locs → lv_has ls 5 [(0, .ref (p0a 0)), (1, .int v1_82), (2, .int v2_92), (3, .long v3_114)] → (∀ (H : Heap) (locs : List Loc) (ls : Array Slot), va_P (dC, dI) cls (List.flatten ([(oX2 (p0a 0) p0a p0k p0n o114 p0l)] : List va_W)) H → va_D A (List.flatten ([(oX2 (p0a 0) p0a p0k p0n o114 p0l)] : List va_W)) → va_K (dC, dI) cls (List.flatten ([(tX2 p0k)] : List (List (ClassId × FieldType)))) s → va_S A s.heap H locs → lv_has ls 5 [(0, .ref (p0a 0)), (1, .int v1_82), (2, .int v2_92)] → W p l e ({ frames := 2, cells := 0, slots := 0, locals := 42 } : Room) s m ([.ref (p0a 0)] : List Value).toArray below meth c H locs 0 0 Q (F0 m 147 ls [])) → W p l e ({ frames := 2, cells := 0, slots := 0, locals := 42 } : Room) s m ([.ref (p0a 0)] : List Value).toArray below meth c H locs 0 0 Q (F0 m 114 ls []) := by
                intro n_114
                induction n_114 with
                | zero => intro v3_114 p0w_114 o114 H locs ls hrun; exact (no9 rfl hrun).elim
                | succ n_114 IH114 =>
                  intro v3_114 p0w_114 o114 H locs ls hrun hP hD hK hS hl hk114
                  unfold fX2_countDegrees_L114 at hrun
                  refine lv_lload_n hx hb dX2_countDegrees_114 rfl (lv_at hl 3 rfl) ?_
                  refine lv_lconst (v := 0) hx hb dX2_countDegrees_115 (by decide) ?_
                  refine W.lcmp hx hb dX2_countDegrees_116 ?_
                  rcases br9 hrun with ⟨hc16, hrun⟩ | ⟨hc16, hrun⟩
                  · refine lv_if_eq (tgt := 147) hx hb dX2_countDegrees_117 (by decide) (fun _ => ?_) (fun c => absurd hc16 c)
                    obtain rfl := (Option.some.inj hrun)
                    exact hk114 _ _ _ hP hD hK hS (lv_sub hl [0, 1, 2] rfl)
                  · refine lv_if_eq (tgt := 147) hx hb dX2_countDegrees_117 (by decide) (fun c => absurd c hc16) (fun _ => ?_)
                    refine lv_aload_n hx hb dX2_countDegrees_120 rfl (lv_at hl 0 rfl) ?_
                    refine va_get (D := (dC, dI)) (ci := 9) (v := .ref (p0a 13)) (C := RX2) (T := TX2) (N := 19) hx hb hts i_X2 hown hK hP 0 rfl rfl 12 (by decide) (hts _ qw683) (fun _ h9 => h9) rfl dX2_countDegrees_121 ?_
                    refine lv_iload_n hx hb dX2_countDegrees_124 rfl (lv_at hl 2 rfl) ?_
                    refine lv_bipush (v := 64) hx hb dX2_countDegrees_125 (by decide) ?_
                    refine lv_imul hx hb dX2_countDegrees_127 ?_
                    refine lv_lload_n hx hb dX2_countDegrees_128 rfl (lv_at hl 3 rfl) ?_
                    obtain ⟨o_17, hc_17, hrun⟩ := bnd9 hrun
                    have hPx : va_P (dC, dI) cls ((List.flatten ([] : List va_W)) ++ (List.flatten ([(oX2 (p0a 0) p0a p0k p0n p0w_114 p0l)] : List va_W))) H := vP_fa (vP_perm hP (bP (List.Perm.refl _)))
                    have hDx : va_D A ((List.flatten ([] : List va_W)) ++ (List.flatten ([(oX2 (p0a 0) p0a p0k p0n p0w_114 p0l)] : List va_W))) := vD_fa (vD_perm hD (bP (List.Perm.refl _)))
                    have hKx : va_K (dC, dI) cls ((List.flatten ([] : List (List (ClassId × FieldType)))) ++ (List.flatten ([(tX2 p0k)] : List (List (ClassId × FieldType))))) s := vK_fa (vK_perm hK (bP (List.Perm.refl _)))
                    have hPc := vP_l hPx
                    have hDc := vD_l hDx
                    have hKc := vK_l hKx
                    have hFc := vfree hDx hS hA
                    refine va_calli (va_runSN (As := [.long v3_114]) (rest := [.int (v2_92 * 64), .ref (p0a 13)]) ⟨hx, hb, hml, hown, hts⟩ (kX11_lowest l dC dI (p0 := v3_114) (sz := _) (o := o_17) (hrun := hc_17)) ⟨(va_cnB 1 hts (gi_z qw775) rfl rfl rfl (hE.nw (List.mem_append_right _ (tbl_9 (i := 34) rfl)) rfl) (hts _ qw129) (by decide +kernel) ⟨Nat.le_of_ble_eq_true rfl, Nat.le_of_ble_eq_true rfl⟩), (hts _ qw776), trivial⟩ ⟨PRE.blind, PRE.of hE hS hFc hPc hKc hDc⟩ rfl rfl hl.1 rfl (lv_room (Nat.le_of_ble_eq_true rfl)) dX2_countDegrees_129 ⟨(Nat.le_of_ble_eq_true rfl), (Nat.le_of_ble_eq_true rfl)⟩) hS (fun q _ h => hFc q h) hFc (fun r18 u t H locs ht hvm hw hB hz1 hk1 hS => ?_)
                    obtain ⟨b1, b2, b3⟩ := hB
                    rw [ht] at b1
                    obtain ⟨hP, hD, hK⟩ := JOINC (wc := (List.flatten ([] : List va_W))) (wr := (List.flatten ([(oX2 (p0a 0) p0a p0k p0n p0w_114 p0l)] : List va_W))) (w1 := (List.flatten ([] : List va_W))) (t1 := (List.flatten ([] : List (List (ClassId × FieldType))))) hPx hDx hKx hk1 hFc b1 (va_K.moved hvm.symm b2) b3
                    have hP : va_P (dC, dI) cls (List.flatten ([(oX2 (p0a 0) p0a p0k p0n p0w_114 p0l)] : List va_W)) H := vP_perm (vP_fb hP) (bP (List.Perm.refl _))
                    have hD : va_D A (List.flatten ([(oX2 (p0a 0) p0a p0k p0n p0w_114 p0l)] : List va_W)) := vD_perm (vD_fb hD) (bP (List.Perm.refl _))
                    have hK : va_K (dC, dI) cls (List.flatten ([(tX2 p0k)] : List (List (ClassId × FieldType)))) s := vK_perm (vK_fb hK) (bP (List.Perm.refl _))
                    obtain rfl : o_17 = r18 := hw.symm
                    refine lv_iadd hx hb dX2_countDegrees_132 ?_
                    refine lv_dup2_11 hx hb dX2_countDegrees_133 rfl rfl ?_
                    obtain ⟨hq19, hrun⟩ := chk9 hrun
                    refine va_iald hx hb hK hP 9 8 rfl rfl (ixb_in hq19) dX2_countDegrees_134 ?_
                    refine lv_iconst (v := 1) hx hb dX2_countDegrees_135 (by decide) ?_
                    refine lv_iadd hx hb dX2_countDegrees_136 ?_
                    obtain ⟨hq20, hrun⟩ := chk9 hrun
                    refine va_iast hx hb hK hP hD hS 9 8 rfl rfl (ixb_in hq20) dX2_countDegrees_137 (fun H locs hP hD hS => ?_)
                    have hP : va_P (dC, dI) cls (List.flatten ([(oX2 (p0a 0) p0a p0k p0n (upw p0w_114 13 (nn ((v2_92 * 64) + o_17)) ((p0w_114 13 (nn ((v2_92 * 64) + o_17))) + 1)) p0l)] : List va_W)) H := hP
                    have hD : va_D A (List.flatten ([(oX2 (p0a 0) p0a p0k p0n (upw p0w_114 13 (nn ((v2_92 * 64) + o_17)) ((p0w_114 13 (nn ((v2_92 * 64) + o_17))) + 1)) p0l)] : List va_W)) := hD
                    obtain ⟨w21, ew21, hrun⟩ := let9 hrun
                    rw [← ew21] at hP hD
                    refine lv_lload_n hx hb dX2_countDegrees_138 rfl (lv_at hl 3 rfl) ?_
                    refine lv_lload_n hx hb dX2_countDegrees_139 rfl (lv_at hl 3 rfl) ?_
                    refine lv_lconst (v := 1) hx hb dX2_countDegrees_140 (by decide) ?_
                    refine lv_lsub hx hb dX2_countDegrees_141 ?_
                    refine lv_land hx hb dX2_countDegrees_142 ?_
                    refine lv_lstore_n (lv' := [(3, .long (v3_114 &&& (v3_114 - (1 : Int64)))), (0, .ref (p0a 0)), (1, .int v1_82), (2, .int v2_92)]) hx hb dX2_countDegrees_143 rfl hl (by decide) rfl (fun ls hl => ?_)
                    refine lv_goto (tgt := 114) hx hb dX2_countDegrees_144 (by decide) ?_
                    exact IH114 (v3_114 &&& (v3_114 - (1 : Int64))) w21 o114 _ _ _ hrun hP hD hK hS (lv_sub hl [1, 2, 3, 0] rfl) hk114
              obtain ⟨o114, hc114, hrun⟩ := bnd9 hrun
              refine L114 NF (p0l 11 (nn ((v1_82 * (p0w_92 0 2)) + v2_92))) p0w_92 o114 _ _ _ hc114 hP hD hK hS (lv_sub hl [1, 2, 3, 0] rfl) ?_
              intro H locs ls hP hD hK hS hl
              have hl := hl
              refine lv_iinc (v := (v2_92 + 1)) (lv' := [(2, .int (v2_92 + 1)), (0, .ref (p0a 0)), (1, .int v1_82)]) hx hb dX2_countDegrees_147 hl (k := 2) rfl rfl (by decide) rfl (fun ls hl => ?_)
              refine lv_goto (tgt := 92) hx hb dX2_countDegrees_150 (by decide) ?_
              exact IH92 (v2_92 + 1) o114 o92 _ _ _ hrun hP hD hK hS (lv_sub hl [1, 2, 0] rfl) hk92
        obtain ⟨o92, hc92, hrun⟩ := bnd9 hrun
        refine L92 NF 0 p0w_82 o92 _ _ _ hc92 hP hD hK hS (lv_sub hl [1, 2, 0] rfl) ?_
        intro H locs ls hP hD hK hS hl
        have hl := hl
        refine lv_iinc (v := (v1_82 + 1)) (lv' := [(1, .int (v1_82 + 1)), (0, .ref (p0a 0))]) hx hb dX2_countDegrees_153 hl (k := 1) rfl rfl (by decide) rfl (fun ls hl => ?_)
        refine lv_goto (tgt := 82) hx hb dX2_countDegrees_156 (by decide) ?_
        exact IH82 (v1_82 + 1) o92 o82 _ _ _ hrun hP hD hK hS (lv_sub hl [1, 0] rfl) hk82
  obtain ⟨o82, hc82, hrun⟩ := bnd9 hrun
  refine L82 NF (o2 0 0) o2 o82 _ _ _ hc82 hP hD hK hS (lv_sub hl [1, 0] rfl) ?_
  intro H locs ls hP hD hK hS hl
  have hl := hl
  have ho9 : o82 = o := Option.some.inj hrun
  have hP9 : va_P (dC, dI) cls (List.flatten ([(oX2 (p0a 0) p0a p0k p0n o p0l)] : List va_W)) H := by first | exact hP | (rw [← ho9]; exact hP)
  have hD9 : va_D A (List.flatten ([(oX2 (p0a 0) p0a p0k p0n o p0l)] : List va_W)) := by first | exact hD | (rw [← ho9]; exact hD)
  subst hQ
  exact W.vret hx hb hr (fun t ht hW => ⟨⟨(), rfl, trivial, ⟨by rw [ht]; exact hP9, va_K.moved hW.alike hK, hD9⟩⟩, hS.F ht⟩) hS.2.2 dX2_countDegrees_159
