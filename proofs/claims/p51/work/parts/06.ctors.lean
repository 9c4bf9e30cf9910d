abbrev cX10_init : ByteArray := prog_12_method_1_code
def yX10_init : MethodName := ⟨RX10, "<init>", "()V"⟩
abbrev cX6_init : ByteArray := prog_8_method_1_code
def yX6_init : MethodName := ⟨RX6, "<init>", "()V"⟩
abbrev cX7_init : ByteArray := prog_9_method_1_code
def yX7_init : MethodName := ⟨RX7, "<init>", "(LGearbox$Tokens;)V"⟩
abbrev cX9_init : ByteArray := prog_11_method_1_code
def yX9_init : MethodName := ⟨RX9, "<init>", "(I)V"⟩
abbrev cX1_init : ByteArray := prog_3_method_1_code
def yX1_init : MethodName := ⟨RX1, "<init>", "()V"⟩
abbrev cX8_init : ByteArray := prog_10_method_1_code
def yX8_init : MethodName := ⟨RX8, "<init>", "()V"⟩
abbrev cX4_init : ByteArray := prog_6_method_1_code
def yX4_init : MethodName := ⟨RX4, "<init>", "(LGearbox$Shape;)V"⟩
abbrev cX5_init : ByteArray := prog_7_method_1_code
def yX5_init : MethodName := ⟨RX5, "<init>", "(LGearbox$Shape;)V"⟩
abbrev cX2_init : ByteArray := prog_4_method_1_code
def yX2_init : MethodName := ⟨RX2, "<init>", "()V"⟩
theorem dX10_init_0 : decode cX10_init 0 = .ok (.aload_n 0, 1) := by decide +kernel
theorem dX10_init_1 : decode cX10_init 1 = .ok (.invokespecial 3, 3) := by decide +kernel
theorem dX10_init_4 : decode cX10_init 4 = .ok (.aload_n 0, 1) := by decide +kernel
theorem dX10_init_5 : decode cX10_init 5 = .ok (.sipush 1200, 3) := by decide +kernel
theorem dX10_init_8 : decode cX10_init 8 = .ok (.newarray .int, 2) := by decide +kernel
theorem dX10_init_10 : decode cX10_init 10 = .ok (.putfield 9, 3) := by decide +kernel
theorem dX10_init_13 : decode cX10_init 13 = .ok (.return_, 1) := by decide +kernel
theorem dX1_init_0 : decode cX1_init 0 = .ok (.aload_n 0, 1) := by decide +kernel
theorem dX1_init_1 : decode cX1_init 1 = .ok (.invokespecial 3, 3) := by decide +kernel
theorem dX1_init_4 : decode cX1_init 4 = .ok (.aload_n 0, 1) := by decide +kernel
theorem dX1_init_5 : decode cX1_init 5 = .ok (.new 9, 3) := by decide +kernel
theorem dX1_init_8 : decode cX1_init 8 = .ok (.dup, 1) := by decide +kernel
theorem dX1_init_9 : decode cX1_init 9 = .ok (.sipush 256, 3) := by decide +kernel
theorem dX1_init_12 : decode cX1_init 12 = .ok (.invokespecial 13, 3) := by decide +kernel
theorem dX1_init_15 : decode cX1_init 15 = .ok (.putfield 16, 3) := by decide +kernel
theorem dX1_init_18 : decode cX1_init 18 = .ok (.aload_n 0, 1) := by decide +kernel
theorem dX1_init_19 : decode cX1_init 19 = .ok (.bipush 60, 2) := by decide +kernel
theorem dX1_init_21 : decode cX1_init 21 = .ok (.newarray .int, 2) := by decide +kernel
theorem dX1_init_23 : decode cX1_init 23 = .ok (.putfield 20, 3) := by decide +kernel
theorem dX1_init_26 : decode cX1_init 26 = .ok (.aload_n 0, 1) := by decide +kernel
theorem dX1_init_27 : decode cX1_init 27 = .ok (.bipush 60, 2) := by decide +kernel
theorem dX1_init_29 : decode cX1_init 29 = .ok (.newarray .int, 2) := by decide +kernel
theorem dX1_init_31 : decode cX1_init 31 = .ok (.putfield 24, 3) := by decide +kernel
theorem dX1_init_34 : decode cX1_init 34 = .ok (.aload_n 0, 1) := by decide +kernel
theorem dX1_init_35 : decode cX1_init 35 = .ok (.bipush 60, 2) := by decide +kernel
theorem dX1_init_37 : decode cX1_init 37 = .ok (.newarray .int, 2) := by decide +kernel
theorem dX1_init_39 : decode cX1_init 39 = .ok (.putfield 27, 3) := by decide +kernel
theorem dX1_init_42 : decode cX1_init 42 = .ok (.aload_n 0, 1) := by decide +kernel
theorem dX1_init_43 : decode cX1_init 43 = .ok (.bipush 60, 2) := by decide +kernel
theorem dX1_init_45 : decode cX1_init 45 = .ok (.newarray .int, 2) := by decide +kernel
theorem dX1_init_47 : decode cX1_init 47 = .ok (.putfield 30, 3) := by decide +kernel
theorem dX1_init_50 : decode cX1_init 50 = .ok (.aload_n 0, 1) := by decide +kernel
theorem dX1_init_51 : decode cX1_init 51 = .ok (.bipush 60, 2) := by decide +kernel
theorem dX1_init_53 : decode cX1_init 53 = .ok (.newarray .int, 2) := by decide +kernel
theorem dX1_init_55 : decode cX1_init 55 = .ok (.putfield 33, 3) := by decide +kernel
theorem dX1_init_58 : decode cX1_init 58 = .ok (.aload_n 0, 1) := by decide +kernel
theorem dX1_init_59 : decode cX1_init 59 = .ok (.bipush 60, 2) := by decide +kernel
theorem dX1_init_61 : decode cX1_init 61 = .ok (.newarray .int, 2) := by decide +kernel
theorem dX1_init_63 : decode cX1_init 63 = .ok (.putfield 36, 3) := by decide +kernel
theorem dX1_init_66 : decode cX1_init 66 = .ok (.aload_n 0, 1) := by decide +kernel
theorem dX1_init_67 : decode cX1_init 67 = .ok (.bipush 60, 2) := by decide +kernel
theorem dX1_init_69 : decode cX1_init 69 = .ok (.newarray .int, 2) := by decide +kernel
theorem dX1_init_71 : decode cX1_init 71 = .ok (.putfield 39, 3) := by decide +kernel
theorem dX1_init_74 : decode cX1_init 74 = .ok (.aload_n 0, 1) := by decide +kernel
theorem dX1_init_75 : decode cX1_init 75 = .ok (.bipush 60, 2) := by decide +kernel
theorem dX1_init_77 : decode cX1_init 77 = .ok (.newarray .int, 2) := by decide +kernel
theorem dX1_init_79 : decode cX1_init 79 = .ok (.putfield 42, 3) := by decide +kernel
theorem dX1_init_82 : decode cX1_init 82 = .ok (.aload_n 0, 1) := by decide +kernel
theorem dX1_init_83 : decode cX1_init 83 = .ok (.bipush 60, 2) := by decide +kernel
theorem dX1_init_85 : decode cX1_init 85 = .ok (.newarray .int, 2) := by decide +kernel
theorem dX1_init_87 : decode cX1_init 87 = .ok (.putfield 45, 3) := by decide +kernel
theorem dX1_init_90 : decode cX1_init 90 = .ok (.aload_n 0, 1) := by decide +kernel
theorem dX1_init_91 : decode cX1_init 91 = .ok (.bipush 60, 2) := by decide +kernel
theorem dX1_init_93 : decode cX1_init 93 = .ok (.newarray .int, 2) := by decide +kernel
theorem dX1_init_95 : decode cX1_init 95 = .ok (.putfield 48, 3) := by decide +kernel
theorem dX1_init_98 : decode cX1_init 98 = .ok (.aload_n 0, 1) := by decide +kernel
theorem dX1_init_99 : decode cX1_init 99 = .ok (.bipush 61, 2) := by decide +kernel
theorem dX1_init_101 : decode cX1_init 101 = .ok (.newarray .int, 2) := by decide +kernel
theorem dX1_init_103 : decode cX1_init 103 = .ok (.putfield 51, 3) := by decide +kernel
theorem dX1_init_106 : decode cX1_init 106 = .ok (.aload_n 0, 1) := by decide +kernel
theorem dX1_init_107 : decode cX1_init 107 = .ok (.bipush 120, 2) := by decide +kernel
theorem dX1_init_109 : decode cX1_init 109 = .ok (.newarray .int, 2) := by decide +kernel
theorem dX1_init_111 : decode cX1_init 111 = .ok (.putfield 54, 3) := by decide +kernel
theorem dX1_init_114 : decode cX1_init 114 = .ok (.aload_n 0, 1) := by decide +kernel
theorem dX1_init_115 : decode cX1_init 115 = .ok (.bipush 60, 2) := by decide +kernel
theorem dX1_init_117 : decode cX1_init 117 = .ok (.newarray .long, 2) := by decide +kernel
theorem dX1_init_119 : decode cX1_init 119 = .ok (.putfield 57, 3) := by decide +kernel
theorem dX1_init_122 : decode cX1_init 122 = .ok (.aload_n 0, 1) := by decide +kernel
theorem dX1_init_123 : decode cX1_init 123 = .ok (.bipush 60, 2) := by decide +kernel
theorem dX1_init_125 : decode cX1_init 125 = .ok (.newarray .long, 2) := by decide +kernel
theorem dX1_init_127 : decode cX1_init 127 = .ok (.putfield 61, 3) := by decide +kernel
theorem dX1_init_130 : decode cX1_init 130 = .ok (.aload_n 0, 1) := by decide +kernel
theorem dX1_init_131 : decode cX1_init 131 = .ok (.bipush 32, 2) := by decide +kernel
theorem dX1_init_133 : decode cX1_init 133 = .ok (.newarray .int, 2) := by decide +kernel
theorem dX1_init_135 : decode cX1_init 135 = .ok (.putfield 64, 3) := by decide +kernel
theorem dX1_init_138 : decode cX1_init 138 = .ok (.aload_n 0, 1) := by decide +kernel
theorem dX1_init_139 : decode cX1_init 139 = .ok (.bipush 32, 2) := by decide +kernel
theorem dX1_init_141 : decode cX1_init 141 = .ok (.newarray .int, 2) := by decide +kernel
theorem dX1_init_143 : decode cX1_init 143 = .ok (.putfield 67, 3) := by decide +kernel
theorem dX1_init_146 : decode cX1_init 146 = .ok (.aload_n 0, 1) := by decide +kernel
theorem dX1_init_147 : decode cX1_init 147 = .ok (.sipush 1920, 3) := by decide +kernel
theorem dX1_init_150 : decode cX1_init 150 = .ok (.newarray .int, 2) := by decide +kernel
theorem dX1_init_152 : decode cX1_init 152 = .ok (.putfield 70, 3) := by decide +kernel
theorem dX1_init_155 : decode cX1_init 155 = .ok (.return_, 1) := by decide +kernel
theorem dX2_init_0 : decode cX2_init 0 = .ok (.aload_n 0, 1) := by decide +kernel
theorem dX2_init_1 : decode cX2_init 1 = .ok (.invokespecial 3, 3) := by decide +kernel
theorem dX2_init_4 : decode cX2_init 4 = .ok (.aload_n 0, 1) := by decide +kernel
theorem dX2_init_5 : decode cX2_init 5 = .ok (.bipush 64, 2) := by decide +kernel
theorem dX2_init_7 : decode cX2_init 7 = .ok (.newarray .long, 2) := by decide +kernel
theorem dX2_init_9 : decode cX2_init 9 = .ok (.putfield 11, 3) := by decide +kernel
theorem dX2_init_12 : decode cX2_init 12 = .ok (.aload_n 0, 1) := by decide +kernel
theorem dX2_init_13 : decode cX2_init 13 = .ok (.bipush 64, 2) := by decide +kernel
theorem dX2_init_15 : decode cX2_init 15 = .ok (.newarray .long, 2) := by decide +kernel
theorem dX2_init_17 : decode cX2_init 17 = .ok (.putfield 15, 3) := by decide +kernel
theorem dX2_init_20 : decode cX2_init 20 = .ok (.aload_n 0, 1) := by decide +kernel
theorem dX2_init_21 : decode cX2_init 21 = .ok (.bipush 64, 2) := by decide +kernel
theorem dX2_init_23 : decode cX2_init 23 = .ok (.newarray .long, 2) := by decide +kernel
theorem dX2_init_25 : decode cX2_init 25 = .ok (.putfield 18, 3) := by decide +kernel
theorem dX2_init_28 : decode cX2_init 28 = .ok (.aload_n 0, 1) := by decide +kernel
theorem dX2_init_29 : decode cX2_init 29 = .ok (.iconst 1, 1) := by decide +kernel
theorem dX2_init_30 : decode cX2_init 30 = .ok (.newarray .long, 2) := by decide +kernel
theorem dX2_init_32 : decode cX2_init 32 = .ok (.putfield 21, 3) := by decide +kernel
theorem dX2_init_35 : decode cX2_init 35 = .ok (.aload_n 0, 1) := by decide +kernel
theorem dX2_init_36 : decode cX2_init 36 = .ok (.iconst 2, 1) := by decide +kernel
theorem dX2_init_37 : decode cX2_init 37 = .ok (.newarray .int, 2) := by decide +kernel
theorem dX2_init_39 : decode cX2_init 39 = .ok (.putfield 24, 3) := by decide +kernel
theorem dX2_init_42 : decode cX2_init 42 = .ok (.aload_n 0, 1) := by decide +kernel
theorem dX2_init_43 : decode cX2_init 43 = .ok (.bipush 64, 2) := by decide +kernel
theorem dX2_init_45 : decode cX2_init 45 = .ok (.newarray .int, 2) := by decide +kernel
theorem dX2_init_47 : decode cX2_init 47 = .ok (.putfield 28, 3) := by decide +kernel
theorem dX2_init_50 : decode cX2_init 50 = .ok (.aload_n 0, 1) := by decide +kernel
theorem dX2_init_51 : decode cX2_init 51 = .ok (.bipush 64, 2) := by decide +kernel
theorem dX2_init_53 : decode cX2_init 53 = .ok (.newarray .long, 2) := by decide +kernel
theorem dX2_init_55 : decode cX2_init 55 = .ok (.putfield 31, 3) := by decide +kernel
theorem dX2_init_58 : decode cX2_init 58 = .ok (.aload_n 0, 1) := by decide +kernel
theorem dX2_init_59 : decode cX2_init 59 = .ok (.bipush 64, 2) := by decide +kernel
theorem dX2_init_61 : decode cX2_init 61 = .ok (.newarray .int, 2) := by decide +kernel
theorem dX2_init_63 : decode cX2_init 63 = .ok (.putfield 34, 3) := by decide +kernel
theorem dX2_init_66 : decode cX2_init 66 = .ok (.aload_n 0, 1) := by decide +kernel
theorem dX2_init_67 : decode cX2_init 67 = .ok (.bipush 64, 2) := by decide +kernel
theorem dX2_init_69 : decode cX2_init 69 = .ok (.newarray .int, 2) := by decide +kernel
theorem dX2_init_71 : decode cX2_init 71 = .ok (.putfield 37, 3) := by decide +kernel
theorem dX2_init_74 : decode cX2_init 74 = .ok (.aload_n 0, 1) := by decide +kernel
theorem dX2_init_75 : decode cX2_init 75 = .ok (.bipush 64, 2) := by decide +kernel
theorem dX2_init_77 : decode cX2_init 77 = .ok (.newarray .long, 2) := by decide +kernel
theorem dX2_init_79 : decode cX2_init 79 = .ok (.putfield 40, 3) := by decide +kernel
theorem dX2_init_82 : decode cX2_init 82 = .ok (.aload_n 0, 1) := by decide +kernel
theorem dX2_init_83 : decode cX2_init 83 = .ok (.bipush 64, 2) := by decide +kernel
theorem dX2_init_85 : decode cX2_init 85 = .ok (.newarray .int, 2) := by decide +kernel
theorem dX2_init_87 : decode cX2_init 87 = .ok (.putfield 43, 3) := by decide +kernel
theorem dX2_init_90 : decode cX2_init 90 = .ok (.aload_n 0, 1) := by decide +kernel
theorem dX2_init_91 : decode cX2_init 91 = .ok (.bipush 64, 2) := by decide +kernel
theorem dX2_init_93 : decode cX2_init 93 = .ok (.newarray .int, 2) := by decide +kernel
theorem dX2_init_95 : decode cX2_init 95 = .ok (.putfield 46, 3) := by decide +kernel
theorem dX2_init_98 : decode cX2_init 98 = .ok (.aload_n 0, 1) := by decide +kernel
theorem dX2_init_99 : decode cX2_init 99 = .ok (.bipush 64, 2) := by decide +kernel
theorem dX2_init_101 : decode cX2_init 101 = .ok (.newarray .int, 2) := by decide +kernel
theorem dX2_init_103 : decode cX2_init 103 = .ok (.putfield 49, 3) := by decide +kernel
theorem dX2_init_106 : decode cX2_init 106 = .ok (.aload_n 0, 1) := by decide +kernel
theorem dX2_init_107 : decode cX2_init 107 = .ok (.bipush 64, 2) := by decide +kernel
theorem dX2_init_109 : decode cX2_init 109 = .ok (.newarray .int, 2) := by decide +kernel
theorem dX2_init_111 : decode cX2_init 111 = .ok (.putfield 52, 3) := by decide +kernel
theorem dX2_init_114 : decode cX2_init 114 = .ok (.aload_n 0, 1) := by decide +kernel
theorem dX2_init_115 : decode cX2_init 115 = .ok (.bipush 64, 2) := by decide +kernel
theorem dX2_init_117 : decode cX2_init 117 = .ok (.newarray .int, 2) := by decide +kernel
theorem dX2_init_119 : decode cX2_init 119 = .ok (.putfield 55, 3) := by decide +kernel
theorem dX2_init_122 : decode cX2_init 122 = .ok (.return_, 1) := by decide +kernel
theorem dX4_init_0 : decode cX4_init 0 = .ok (.aload_n 0, 1) := by decide +kernel
theorem dX4_init_1 : decode cX4_init 1 = .ok (.invokespecial 3, 3) := by decide +kernel
theorem dX4_init_4 : decode cX4_init 4 = .ok (.aload_n 0, 1) := by decide +kernel
theorem dX4_init_5 : decode cX4_init 5 = .ok (.sipush 3200, 3) := by decide +kernel
theorem dX4_init_8 : decode cX4_init 8 = .ok (.newarray .int, 2) := by decide +kernel
theorem dX4_init_10 : decode cX4_init 10 = .ok (.putfield 9, 3) := by decide +kernel
theorem dX4_init_13 : decode cX4_init 13 = .ok (.aload_n 0, 1) := by decide +kernel
theorem dX4_init_14 : decode cX4_init 14 = .ok (.sipush 3200, 3) := by decide +kernel
theorem dX4_init_17 : decode cX4_init 17 = .ok (.newarray .int, 2) := by decide +kernel
theorem dX4_init_19 : decode cX4_init 19 = .ok (.putfield 15, 3) := by decide +kernel
theorem dX4_init_22 : decode cX4_init 22 = .ok (.aload_n 0, 1) := by decide +kernel
theorem dX4_init_23 : decode cX4_init 23 = .ok (.sipush 3200, 3) := by decide +kernel
theorem dX4_init_26 : decode cX4_init 26 = .ok (.newarray .int, 2) := by decide +kernel
theorem dX4_init_28 : decode cX4_init 28 = .ok (.putfield 18, 3) := by decide +kernel
theorem dX4_init_31 : decode cX4_init 31 = .ok (.aload_n 0, 1) := by decide +kernel
theorem dX4_init_32 : decode cX4_init 32 = .ok (.sipush 512, 3) := by decide +kernel
theorem dX4_init_35 : decode cX4_init 35 = .ok (.newarray .int, 2) := by decide +kernel
theorem dX4_init_37 : decode cX4_init 37 = .ok (.putfield 21, 3) := by decide +kernel
theorem dX4_init_40 : decode cX4_init 40 = .ok (.aload_n 0, 1) := by decide +kernel
theorem dX4_init_41 : decode cX4_init 41 = .ok (.sipush 640, 3) := by decide +kernel
theorem dX4_init_44 : decode cX4_init 44 = .ok (.newarray .int, 2) := by decide +kernel
theorem dX4_init_46 : decode cX4_init 46 = .ok (.putfield 24, 3) := by decide +kernel
theorem dX4_init_49 : decode cX4_init 49 = .ok (.aload_n 0, 1) := by decide +kernel
theorem dX4_init_50 : decode cX4_init 50 = .ok (.sipush 640, 3) := by decide +kernel
theorem dX4_init_53 : decode cX4_init 53 = .ok (.newarray .int, 2) := by decide +kernel
theorem dX4_init_55 : decode cX4_init 55 = .ok (.putfield 27, 3) := by decide +kernel
theorem dX4_init_58 : decode cX4_init 58 = .ok (.aload_n 0, 1) := by decide +kernel
theorem dX4_init_59 : decode cX4_init 59 = .ok (.sipush 640, 3) := by decide +kernel
theorem dX4_init_62 : decode cX4_init 62 = .ok (.newarray .int, 2) := by decide +kernel
theorem dX4_init_64 : decode cX4_init 64 = .ok (.putfield 30, 3) := by decide +kernel
theorem dX4_init_67 : decode cX4_init 67 = .ok (.aload_n 0, 1) := by decide +kernel
theorem dX4_init_68 : decode cX4_init 68 = .ok (.sipush 640, 3) := by decide +kernel
theorem dX4_init_71 : decode cX4_init 71 = .ok (.newarray .int, 2) := by decide +kernel
theorem dX4_init_73 : decode cX4_init 73 = .ok (.putfield 33, 3) := by decide +kernel
theorem dX4_init_76 : decode cX4_init 76 = .ok (.aload_n 0, 1) := by decide +kernel
theorem dX4_init_77 : decode cX4_init 77 = .ok (.sipush 640, 3) := by decide +kernel
theorem dX4_init_80 : decode cX4_init 80 = .ok (.newarray .int, 2) := by decide +kernel
theorem dX4_init_82 : decode cX4_init 82 = .ok (.putfield 36, 3) := by decide +kernel
theorem dX4_init_85 : decode cX4_init 85 = .ok (.aload_n 0, 1) := by decide +kernel
theorem dX4_init_86 : decode cX4_init 86 = .ok (.sipush 640, 3) := by decide +kernel
theorem dX4_init_89 : decode cX4_init 89 = .ok (.newarray .int, 2) := by decide +kernel
theorem dX4_init_91 : decode cX4_init 91 = .ok (.putfield 39, 3) := by decide +kernel
theorem dX4_init_94 : decode cX4_init 94 = .ok (.aload_n 0, 1) := by decide +kernel
theorem dX4_init_95 : decode cX4_init 95 = .ok (.sipush 640, 3) := by decide +kernel
theorem dX4_init_98 : decode cX4_init 98 = .ok (.newarray .int, 2) := by decide +kernel
theorem dX4_init_100 : decode cX4_init 100 = .ok (.putfield 42, 3) := by decide +kernel
theorem dX4_init_103 : decode cX4_init 103 = .ok (.aload_n 0, 1) := by decide +kernel
theorem dX4_init_104 : decode cX4_init 104 = .ok (.sipush 640, 3) := by decide +kernel
theorem dX4_init_107 : decode cX4_init 107 = .ok (.newarray .int, 2) := by decide +kernel
theorem dX4_init_109 : decode cX4_init 109 = .ok (.putfield 45, 3) := by decide +kernel
theorem dX4_init_112 : decode cX4_init 112 = .ok (.aload_n 0, 1) := by decide +kernel
theorem dX4_init_113 : decode cX4_init 113 = .ok (.bipush 60, 2) := by decide +kernel
theorem dX4_init_115 : decode cX4_init 115 = .ok (.newarray .int, 2) := by decide +kernel
theorem dX4_init_117 : decode cX4_init 117 = .ok (.putfield 48, 3) := by decide +kernel
theorem dX4_init_120 : decode cX4_init 120 = .ok (.aload_n 0, 1) := by decide +kernel
theorem dX4_init_121 : decode cX4_init 121 = .ok (.sipush 320, 3) := by decide +kernel
theorem dX4_init_124 : decode cX4_init 124 = .ok (.newarray .long, 2) := by decide +kernel
theorem dX4_init_126 : decode cX4_init 126 = .ok (.putfield 51, 3) := by decide +kernel
theorem dX4_init_129 : decode cX4_init 129 = .ok (.aload_n 0, 1) := by decide +kernel
theorem dX4_init_130 : decode cX4_init 130 = .ok (.sipush 320, 3) := by decide +kernel
theorem dX4_init_133 : decode cX4_init 133 = .ok (.newarray .long, 2) := by decide +kernel
theorem dX4_init_135 : decode cX4_init 135 = .ok (.putfield 55, 3) := by decide +kernel
theorem dX4_init_138 : decode cX4_init 138 = .ok (.aload_n 0, 1) := by decide +kernel
theorem dX4_init_139 : decode cX4_init 139 = .ok (.bipush 60, 2) := by decide +kernel
theorem dX4_init_141 : decode cX4_init 141 = .ok (.newarray .long, 2) := by decide +kernel
theorem dX4_init_143 : decode cX4_init 143 = .ok (.putfield 58, 3) := by decide +kernel
theorem dX4_init_146 : decode cX4_init 146 = .ok (.aload_n 0, 1) := by decide +kernel
theorem dX4_init_147 : decode cX4_init 147 = .ok (.sipush 250, 3) := by decide +kernel
theorem dX4_init_150 : decode cX4_init 150 = .ok (.newarray .int, 2) := by decide +kernel
theorem dX4_init_152 : decode cX4_init 152 = .ok (.putfield 61, 3) := by decide +kernel
theorem dX4_init_155 : decode cX4_init 155 = .ok (.aload_n 0, 1) := by decide +kernel
theorem dX4_init_156 : decode cX4_init 156 = .ok (.sipush 19200, 3) := by decide +kernel
theorem dX4_init_159 : decode cX4_init 159 = .ok (.newarray .int, 2) := by decide +kernel
theorem dX4_init_161 : decode cX4_init 161 = .ok (.putfield 64, 3) := by decide +kernel
theorem dX4_init_164 : decode cX4_init 164 = .ok (.aload_n 0, 1) := by decide +kernel
theorem dX4_init_165 : decode cX4_init 165 = .ok (.aload_n 1, 1) := by decide +kernel
theorem dX4_init_166 : decode cX4_init 166 = .ok (.putfield 67, 3) := by decide +kernel
theorem dX4_init_169 : decode cX4_init 169 = .ok (.return_, 1) := by decide +kernel
theorem dX5_init_0 : decode cX5_init 0 = .ok (.aload_n 0, 1) := by decide +kernel
theorem dX5_init_1 : decode cX5_init 1 = .ok (.invokespecial 3, 3) := by decide +kernel
theorem dX5_init_4 : decode cX5_init 4 = .ok (.aload_n 0, 1) := by decide +kernel
theorem dX5_init_5 : decode cX5_init 5 = .ok (.sipush 250, 3) := by decide +kernel
theorem dX5_init_8 : decode cX5_init 8 = .ok (.newarray .int, 2) := by decide +kernel
theorem dX5_init_10 : decode cX5_init 10 = .ok (.putfield 9, 3) := by decide +kernel
theorem dX5_init_13 : decode cX5_init 13 = .ok (.aload_n 0, 1) := by decide +kernel
theorem dX5_init_14 : decode cX5_init 14 = .ok (.sipush 250, 3) := by decide +kernel
theorem dX5_init_17 : decode cX5_init 17 = .ok (.newarray .int, 2) := by decide +kernel
theorem dX5_init_19 : decode cX5_init 19 = .ok (.putfield 15, 3) := by decide +kernel
theorem dX5_init_22 : decode cX5_init 22 = .ok (.aload_n 0, 1) := by decide +kernel
theorem dX5_init_23 : decode cX5_init 23 = .ok (.sipush 250, 3) := by decide +kernel
theorem dX5_init_26 : decode cX5_init 26 = .ok (.newarray .int, 2) := by decide +kernel
theorem dX5_init_28 : decode cX5_init 28 = .ok (.putfield 18, 3) := by decide +kernel
theorem dX5_init_31 : decode cX5_init 31 = .ok (.aload_n 0, 1) := by decide +kernel
theorem dX5_init_32 : decode cX5_init 32 = .ok (.sipush 250, 3) := by decide +kernel
theorem dX5_init_35 : decode cX5_init 35 = .ok (.newarray .int, 2) := by decide +kernel
theorem dX5_init_37 : decode cX5_init 37 = .ok (.putfield 21, 3) := by decide +kernel
theorem dX5_init_40 : decode cX5_init 40 = .ok (.aload_n 0, 1) := by decide +kernel
theorem dX5_init_41 : decode cX5_init 41 = .ok (.sipush 250, 3) := by decide +kernel
theorem dX5_init_44 : decode cX5_init 44 = .ok (.newarray .int, 2) := by decide +kernel
theorem dX5_init_46 : decode cX5_init 46 = .ok (.putfield 24, 3) := by decide +kernel
theorem dX5_init_49 : decode cX5_init 49 = .ok (.aload_n 0, 1) := by decide +kernel
theorem dX5_init_50 : decode cX5_init 50 = .ok (.sipush 250, 3) := by decide +kernel
theorem dX5_init_53 : decode cX5_init 53 = .ok (.newarray .int, 2) := by decide +kernel
theorem dX5_init_55 : decode cX5_init 55 = .ok (.putfield 27, 3) := by decide +kernel
theorem dX5_init_58 : decode cX5_init 58 = .ok (.aload_n 0, 1) := by decide +kernel
theorem dX5_init_59 : decode cX5_init 59 = .ok (.sipush 250, 3) := by decide +kernel
theorem dX5_init_62 : decode cX5_init 62 = .ok (.newarray .int, 2) := by decide +kernel
theorem dX5_init_64 : decode cX5_init 64 = .ok (.putfield 30, 3) := by decide +kernel
theorem dX5_init_67 : decode cX5_init 67 = .ok (.aload_n 0, 1) := by decide +kernel
theorem dX5_init_68 : decode cX5_init 68 = .ok (.sipush 250, 3) := by decide +kernel
theorem dX5_init_71 : decode cX5_init 71 = .ok (.newarray .int, 2) := by decide +kernel
theorem dX5_init_73 : decode cX5_init 73 = .ok (.putfield 33, 3) := by decide +kernel
theorem dX5_init_76 : decode cX5_init 76 = .ok (.aload_n 0, 1) := by decide +kernel
theorem dX5_init_77 : decode cX5_init 77 = .ok (.bipush 60, 2) := by decide +kernel
theorem dX5_init_79 : decode cX5_init 79 = .ok (.newarray .int, 2) := by decide +kernel
theorem dX5_init_81 : decode cX5_init 81 = .ok (.putfield 36, 3) := by decide +kernel
theorem dX5_init_84 : decode cX5_init 84 = .ok (.aload_n 0, 1) := by decide +kernel
theorem dX5_init_85 : decode cX5_init 85 = .ok (.aload_n 1, 1) := by decide +kernel
theorem dX5_init_86 : decode cX5_init 86 = .ok (.putfield 39, 3) := by decide +kernel
theorem dX5_init_89 : decode cX5_init 89 = .ok (.return_, 1) := by decide +kernel
theorem dX6_init_0 : decode cX6_init 0 = .ok (.aload_n 0, 1) := by decide +kernel
theorem dX6_init_1 : decode cX6_init 1 = .ok (.invokespecial 3, 3) := by decide +kernel
theorem dX6_init_4 : decode cX6_init 4 = .ok (.aload_n 0, 1) := by decide +kernel
theorem dX6_init_5 : decode cX6_init 5 = .ok (.bipush 6, 2) := by decide +kernel
theorem dX6_init_7 : decode cX6_init 7 = .ok (.newarray .long, 2) := by decide +kernel
theorem dX6_init_9 : decode cX6_init 9 = .ok (.putfield 9, 3) := by decide +kernel
theorem dX6_init_12 : decode cX6_init 12 = .ok (.aload_n 0, 1) := by decide +kernel
theorem dX6_init_13 : decode cX6_init 13 = .ok (.bipush 6, 2) := by decide +kernel
theorem dX6_init_15 : decode cX6_init 15 = .ok (.newarray .int, 2) := by decide +kernel
theorem dX6_init_17 : decode cX6_init 17 = .ok (.putfield 15, 3) := by decide +kernel
theorem dX6_init_20 : decode cX6_init 20 = .ok (.aload_n 0, 1) := by decide +kernel
theorem dX6_init_21 : decode cX6_init 21 = .ok (.bipush 6, 2) := by decide +kernel
theorem dX6_init_23 : decode cX6_init 23 = .ok (.newarray .int, 2) := by decide +kernel
theorem dX6_init_25 : decode cX6_init 25 = .ok (.putfield 19, 3) := by decide +kernel
theorem dX6_init_28 : decode cX6_init 28 = .ok (.aload_n 0, 1) := by decide +kernel
theorem dX6_init_29 : decode cX6_init 29 = .ok (.bipush 6, 2) := by decide +kernel
theorem dX6_init_31 : decode cX6_init 31 = .ok (.newarray .int, 2) := by decide +kernel
theorem dX6_init_33 : decode cX6_init 33 = .ok (.putfield 22, 3) := by decide +kernel
theorem dX6_init_36 : decode cX6_init 36 = .ok (.aload_n 0, 1) := by decide +kernel
theorem dX6_init_37 : decode cX6_init 37 = .ok (.bipush 6, 2) := by decide +kernel
theorem dX6_init_39 : decode cX6_init 39 = .ok (.newarray .int, 2) := by decide +kernel
theorem dX6_init_41 : decode cX6_init 41 = .ok (.putfield 25, 3) := by decide +kernel
theorem dX6_init_44 : decode cX6_init 44 = .ok (.aload_n 0, 1) := by decide +kernel
theorem dX6_init_45 : decode cX6_init 45 = .ok (.bipush 6, 2) := by decide +kernel
theorem dX6_init_47 : decode cX6_init 47 = .ok (.newarray .int, 2) := by decide +kernel
theorem dX6_init_49 : decode cX6_init 49 = .ok (.putfield 28, 3) := by decide +kernel
theorem dX6_init_52 : decode cX6_init 52 = .ok (.aload_n 0, 1) := by decide +kernel
theorem dX6_init_53 : decode cX6_init 53 = .ok (.sipush 3200, 3) := by decide +kernel
theorem dX6_init_56 : decode cX6_init 56 = .ok (.newarray .int, 2) := by decide +kernel
theorem dX6_init_58 : decode cX6_init 58 = .ok (.putfield 31, 3) := by decide +kernel
theorem dX6_init_61 : decode cX6_init 61 = .ok (.aload_n 0, 1) := by decide +kernel
theorem dX6_init_62 : decode cX6_init 62 = .ok (.sipush 3200, 3) := by decide +kernel
theorem dX6_init_65 : decode cX6_init 65 = .ok (.newarray .int, 2) := by decide +kernel
theorem dX6_init_67 : decode cX6_init 67 = .ok (.putfield 34, 3) := by decide +kernel
theorem dX6_init_70 : decode cX6_init 70 = .ok (.aload_n 0, 1) := by decide +kernel
theorem dX6_init_71 : decode cX6_init 71 = .ok (.sipush 3200, 3) := by decide +kernel
theorem dX6_init_74 : decode cX6_init 74 = .ok (.newarray .int, 2) := by decide +kernel
theorem dX6_init_76 : decode cX6_init 76 = .ok (.putfield 37, 3) := by decide +kernel
theorem dX6_init_79 : decode cX6_init 79 = .ok (.aload_n 0, 1) := by decide +kernel
theorem dX6_init_80 : decode cX6_init 80 = .ok (.sipush 640, 3) := by decide +kernel
theorem dX6_init_83 : decode cX6_init 83 = .ok (.newarray .int, 2) := by decide +kernel
theorem dX6_init_85 : decode cX6_init 85 = .ok (.putfield 40, 3) := by decide +kernel
theorem dX6_init_88 : decode cX6_init 88 = .ok (.return_, 1) := by decide +kernel
theorem dX7_init_0 : decode cX7_init 0 = .ok (.aload_n 0, 1) := by decide +kernel
theorem dX7_init_1 : decode cX7_init 1 = .ok (.invokespecial 3, 3) := by decide +kernel
theorem dX7_init_4 : decode cX7_init 4 = .ok (.aload_n 0, 1) := by decide +kernel
theorem dX7_init_5 : decode cX7_init 5 = .ok (.sipush 320, 3) := by decide +kernel
theorem dX7_init_8 : decode cX7_init 8 = .ok (.newarray .long, 2) := by decide +kernel
theorem dX7_init_10 : decode cX7_init 10 = .ok (.putfield 9, 3) := by decide +kernel
theorem dX7_init_13 : decode cX7_init 13 = .ok (.aload_n 0, 1) := by decide +kernel
theorem dX7_init_14 : decode cX7_init 14 = .ok (.sipush 320, 3) := by decide +kernel
theorem dX7_init_17 : decode cX7_init 17 = .ok (.newarray .int, 2) := by decide +kernel
theorem dX7_init_19 : decode cX7_init 19 = .ok (.putfield 15, 3) := by decide +kernel
theorem dX7_init_22 : decode cX7_init 22 = .ok (.aload_n 0, 1) := by decide +kernel
theorem dX7_init_23 : decode cX7_init 23 = .ok (.bipush 9, 2) := by decide +kernel
theorem dX7_init_25 : decode cX7_init 25 = .ok (.newarray .int, 2) := by decide +kernel
theorem dX7_init_27 : decode cX7_init 27 = .ok (.putfield 19, 3) := by decide +kernel
theorem dX7_init_30 : decode cX7_init 30 = .ok (.aload_n 0, 1) := by decide +kernel
theorem dX7_init_31 : decode cX7_init 31 = .ok (.bipush 9, 2) := by decide +kernel
theorem dX7_init_33 : decode cX7_init 33 = .ok (.newarray .int, 2) := by decide +kernel
theorem dX7_init_35 : decode cX7_init 35 = .ok (.putfield 22, 3) := by decide +kernel
theorem dX7_init_38 : decode cX7_init 38 = .ok (.aload_n 0, 1) := by decide +kernel
theorem dX7_init_39 : decode cX7_init 39 = .ok (.sipush 600, 3) := by decide +kernel
theorem dX7_init_42 : decode cX7_init 42 = .ok (.newarray .long, 2) := by decide +kernel
theorem dX7_init_44 : decode cX7_init 44 = .ok (.putfield 25, 3) := by decide +kernel
theorem dX7_init_47 : decode cX7_init 47 = .ok (.aload_n 0, 1) := by decide +kernel
theorem dX7_init_48 : decode cX7_init 48 = .ok (.sipush 600, 3) := by decide +kernel
theorem dX7_init_51 : decode cX7_init 51 = .ok (.newarray .int, 2) := by decide +kernel
theorem dX7_init_53 : decode cX7_init 53 = .ok (.putfield 28, 3) := by decide +kernel
theorem dX7_init_56 : decode cX7_init 56 = .ok (.aload_n 0, 1) := by decide +kernel
theorem dX7_init_57 : decode cX7_init 57 = .ok (.sipush 600, 3) := by decide +kernel
theorem dX7_init_60 : decode cX7_init 60 = .ok (.newarray .int, 2) := by decide +kernel
theorem dX7_init_62 : decode cX7_init 62 = .ok (.putfield 31, 3) := by decide +kernel
theorem dX7_init_65 : decode cX7_init 65 = .ok (.aload_n 0, 1) := by decide +kernel
theorem dX7_init_66 : decode cX7_init 66 = .ok (.sipush 600, 3) := by decide +kernel
theorem dX7_init_69 : decode cX7_init 69 = .ok (.newarray .int, 2) := by decide +kernel
theorem dX7_init_71 : decode cX7_init 71 = .ok (.putfield 34, 3) := by decide +kernel
theorem dX7_init_74 : decode cX7_init 74 = .ok (.aload_n 0, 1) := by decide +kernel
theorem dX7_init_75 : decode cX7_init 75 = .ok (.aload_n 1, 1) := by decide +kernel
theorem dX7_init_76 : decode cX7_init 76 = .ok (.putfield 37, 3) := by decide +kernel
theorem dX7_init_79 : decode cX7_init 79 = .ok (.return_, 1) := by decide +kernel
theorem dX8_init_0 : decode cX8_init 0 = .ok (.aload_n 0, 1) := by decide +kernel
theorem dX8_init_1 : decode cX8_init 1 = .ok (.invokespecial 3, 3) := by decide +kernel
theorem dX8_init_4 : decode cX8_init 4 = .ok (.aload_n 0, 1) := by decide +kernel
theorem dX8_init_5 : decode cX8_init 5 = .ok (.bipush 60, 2) := by decide +kernel
theorem dX8_init_7 : decode cX8_init 7 = .ok (.newarray .int, 2) := by decide +kernel
theorem dX8_init_9 : decode cX8_init 9 = .ok (.putfield 9, 3) := by decide +kernel
theorem dX8_init_12 : decode cX8_init 12 = .ok (.aload_n 0, 1) := by decide +kernel
theorem dX8_init_13 : decode cX8_init 13 = .ok (.bipush 60, 2) := by decide +kernel
theorem dX8_init_15 : decode cX8_init 15 = .ok (.newarray .int, 2) := by decide +kernel
theorem dX8_init_17 : decode cX8_init 17 = .ok (.putfield 15, 3) := by decide +kernel
theorem dX8_init_20 : decode cX8_init 20 = .ok (.aload_n 0, 1) := by decide +kernel
theorem dX8_init_21 : decode cX8_init 21 = .ok (.bipush 60, 2) := by decide +kernel
theorem dX8_init_23 : decode cX8_init 23 = .ok (.newarray .int, 2) := by decide +kernel
theorem dX8_init_25 : decode cX8_init 25 = .ok (.putfield 18, 3) := by decide +kernel
theorem dX8_init_28 : decode cX8_init 28 = .ok (.aload_n 0, 1) := by decide +kernel
theorem dX8_init_29 : decode cX8_init 29 = .ok (.bipush 60, 2) := by decide +kernel
theorem dX8_init_31 : decode cX8_init 31 = .ok (.newarray .int, 2) := by decide +kernel
theorem dX8_init_33 : decode cX8_init 33 = .ok (.putfield 21, 3) := by decide +kernel
theorem dX8_init_36 : decode cX8_init 36 = .ok (.aload_n 0, 1) := by decide +kernel
theorem dX8_init_37 : decode cX8_init 37 = .ok (.bipush 60, 2) := by decide +kernel
theorem dX8_init_39 : decode cX8_init 39 = .ok (.newarray .int, 2) := by decide +kernel
theorem dX8_init_41 : decode cX8_init 41 = .ok (.putfield 24, 3) := by decide +kernel
theorem dX8_init_44 : decode cX8_init 44 = .ok (.return_, 1) := by decide +kernel
theorem dX9_init_0 : decode cX9_init 0 = .ok (.aload_n 0, 1) := by decide +kernel
theorem dX9_init_1 : decode cX9_init 1 = .ok (.invokespecial 3, 3) := by decide +kernel
theorem dX9_init_4 : decode cX9_init 4 = .ok (.aload_n 0, 1) := by decide +kernel
theorem dX9_init_5 : decode cX9_init 5 = .ok (.iload_n 1, 1) := by decide +kernel
theorem dX9_init_6 : decode cX9_init 6 = .ok (.newarray .int, 2) := by decide +kernel
theorem dX9_init_8 : decode cX9_init 8 = .ok (.putfield 9, 3) := by decide +kernel
theorem dX9_init_11 : decode cX9_init 11 = .ok (.aload_n 0, 1) := by decide +kernel
theorem dX9_init_12 : decode cX9_init 12 = .ok (.iload_n 1, 1) := by decide +kernel
theorem dX9_init_13 : decode cX9_init 13 = .ok (.newarray .int, 2) := by decide +kernel
theorem dX9_init_15 : decode cX9_init 15 = .ok (.putfield 15, 3) := by decide +kernel
theorem dX9_init_18 : decode cX9_init 18 = .ok (.aload_n 0, 1) := by decide +kernel
theorem dX9_init_19 : decode cX9_init 19 = .ok (.iload_n 1, 1) := by decide +kernel
theorem dX9_init_20 : decode cX9_init 20 = .ok (.newarray .int, 2) := by decide +kernel
theorem dX9_init_22 : decode cX9_init 22 = .ok (.putfield 18, 3) := by decide +kernel
theorem dX9_init_25 : decode cX9_init 25 = .ok (.aload_n 0, 1) := by decide +kernel
theorem dX9_init_26 : decode cX9_init 26 = .ok (.iload_n 1, 1) := by decide +kernel
theorem dX9_init_27 : decode cX9_init 27 = .ok (.newarray .int, 2) := by decide +kernel
theorem dX9_init_29 : decode cX9_init 29 = .ok (.putfield 21, 3) := by decide +kernel
theorem dX9_init_32 : decode cX9_init 32 = .ok (.aload_n 0, 1) := by decide +kernel
theorem dX9_init_33 : decode cX9_init 33 = .ok (.iload_n 1, 1) := by decide +kernel
theorem dX9_init_34 : decode cX9_init 34 = .ok (.newarray .int, 2) := by decide +kernel
theorem dX9_init_36 : decode cX9_init 36 = .ok (.putfield 24, 3) := by decide +kernel
theorem dX9_init_39 : decode cX9_init 39 = .ok (.return_, 1) := by decide +kernel
theorem qw0 : Cond.methodLink RX10 3 objectInit ∈ gw := mq_1 (i := 49) rfl rfl
theorem qw1 : Cond.instanceMethod objectInit ∈ gw := mq_1 (i := 42) rfl rfl
theorem qw2 : Cond.arrayClass Jvm.ClassFile.FieldType.int ∈ gw := mq_1 (i := 80) rfl rfl
theorem qw3 : Cond.fieldLink RX10 9 "Gearbox$Tokens" "tape" "[I" ∈ gw := mq_1 (i := 50) rfl rfl
theorem qw4 : Cond.methodLink RX6 3 objectInit ∈ gw := mq_3 (i := 150) rfl rfl
theorem qw5 : Cond.arrayClass Jvm.ClassFile.FieldType.long ∈ gw := mq_1 (i := 143) rfl rfl
theorem qw6 : Cond.fieldLink RX6 9 "Gearbox$Program" "name" "[J" ∈ gw := mq_3 (i := 155) rfl rfl
theorem qw7 : Cond.fieldLink RX6 15 "Gearbox$Program" "namePlace" "[I" ∈ gw := mq_3 (i := 157) rfl rfl
theorem qw8 : Cond.fieldLink RX6 19 "Gearbox$Program" "parameters" "[I" ∈ gw := mq_3 (i := 160) rfl rfl
theorem qw9 : Cond.fieldLink RX6 22 "Gearbox$Program" "variables" "[I" ∈ gw := mq_3 (i := 165) rfl rfl
theorem qw10 : Cond.fieldLink RX6 25 "Gearbox$Program" "from" "[I" ∈ gw := mq_3 (i := 168) rfl rfl
theorem qw11 : Cond.fieldLink RX6 28 "Gearbox$Program" "to" "[I" ∈ gw := mq_3 (i := 172) rfl rfl
theorem qw12 : Cond.fieldLink RX6 31 "Gearbox$Program" "op" "[I" ∈ gw := mq_3 (i := 177) rfl rfl
theorem qw13 : Cond.fieldLink RX6 34 "Gearbox$Program" "argument" "[I" ∈ gw := mq_3 (i := 180) rfl rfl
theorem qw14 : Cond.fieldLink RX6 37 "Gearbox$Program" "ticks" "[I" ∈ gw := mq_3 (i := 184) rfl rfl
theorem qw15 : Cond.fieldLink RX6 40 "Gearbox$Program" "labelAt" "[I" ∈ gw := mq_3 (i := 187) rfl rfl
theorem qw16 : Cond.methodLink RX7 3 objectInit ∈ gw := mq_1 (i := 86) rfl rfl
theorem qw17 : Cond.fieldLink RX7 9 "Gearbox$Reader" "seenName" "[J" ∈ gw := mq_1 (i := 95) rfl rfl
theorem qw18 : Cond.fieldLink RX7 15 "Gearbox$Reader" "seenVariable" "[I" ∈ gw := mq_1 (i := 96) rfl rfl
theorem qw19 : Cond.fieldLink RX7 19 "Gearbox$Reader" "loopHead" "[I" ∈ gw := mq_1 (i := 98) rfl rfl
theorem qw20 : Cond.fieldLink RX7 22 "Gearbox$Reader" "loopEnd" "[I" ∈ gw := mq_1 (i := 99) rfl rfl
theorem qw21 : Cond.fieldLink RX7 25 "Gearbox$Reader" "callName" "[J" ∈ gw := mq_1 (i := 101) rfl rfl
theorem qw22 : Cond.fieldLink RX7 28 "Gearbox$Reader" "callOp" "[I" ∈ gw := mq_1 (i := 102) rfl rfl
theorem qw23 : Cond.fieldLink RX7 31 "Gearbox$Reader" "callPlace" "[I" ∈ gw := mq_1 (i := 103) rfl rfl
theorem qw24 : Cond.fieldLink RX7 34 "Gearbox$Reader" "callArguments" "[I" ∈ gw := mq_1 (i := 104) rfl rfl
theorem qw25 : Cond.fieldLink RX7 37 "Gearbox$Reader" "tokens" "LGearbox$Tokens;" ∈ gw := mq_1 (i := 89) rfl rfl
theorem qw26 : Cond.methodLink RX9 3 objectInit ∈ gw := mq_1 (i := 156) rfl rfl
theorem qw27 : Cond.fieldLink RX9 9 "Gearbox$Steps" "kind" "[I" ∈ gw := mq_1 (i := 161) rfl rfl
theorem qw28 : Cond.fieldLink RX9 15 "Gearbox$Steps" "gives" "[I" ∈ gw := mq_1 (i := 168) rfl rfl
theorem qw29 : Cond.fieldLink RX9 18 "Gearbox$Steps" "left" "[I" ∈ gw := mq_1 (i := 175) rfl rfl
theorem qw30 : Cond.fieldLink RX9 21 "Gearbox$Steps" "right" "[I" ∈ gw := mq_1 (i := 182) rfl rfl
theorem qw31 : Cond.fieldLink RX9 24 "Gearbox$Steps" "next" "[I" ∈ gw := mq_1 (i := 189) rfl rfl
theorem qw32 : Cond.methodLink RX1 3 objectInit ∈ gw := mq_1 (i := 150) rfl rfl
theorem qw33 : Cond.classLink RX1 9 RX9 ∈ gw := mq_1 (i := 151) rfl rfl
theorem qw34 : Cond.instantiable RX9 6 ∈ gw := mq_1 (i := 152) rfl rfl
theorem qw35 : Cond.initialized RX9 ∈ gw := mq_1 (i := 20) rfl rfl
theorem qw36 : Cond.code yX9_init cX9_init 2 (Option.none : Option Jvm.ClassFile.FieldType) ∈ gw := mq_1 (i := 155) rfl rfl
theorem qw37 : Cond.methodLink RX1 13 yX9_init ∈ gw := mq_1 (i := 153) rfl rfl
theorem qw38 : Cond.instanceMethod yX9_init ∈ gw := mq_1 (i := 154) rfl rfl
theorem qw39 : Cond.fieldLink RX1 16 "Gearbox$Flow" "steps" "LGearbox$Steps;" ∈ gw := mq_1 (i := 220) rfl rfl
theorem qw40 : Cond.fieldLink RX1 20 "Gearbox$Flow" "firstStep" "[I" ∈ gw := mq_1 (i := 226) rfl rfl
theorem qw41 : Cond.fieldLink RX1 24 "Gearbox$Flow" "lastStep" "[I" ∈ gw := mq_1 (i := 233) rfl rfl
theorem qw42 : Cond.fieldLink RX1 27 "Gearbox$Flow" "firstPhi" "[I" ∈ gw := mq_1 (i := 235) rfl rfl
theorem qw43 : Cond.fieldLink RX1 30 "Gearbox$Flow" "lastPhi" "[I" ∈ gw := mq_2 (i := 2) rfl rfl
theorem qw44 : Cond.fieldLink RX1 33 "Gearbox$Flow" "end" "[I" ∈ gw := mq_2 (i := 4) rfl rfl
theorem qw45 : Cond.fieldLink RX1 36 "Gearbox$Flow" "endValue" "[I" ∈ gw := mq_2 (i := 11) rfl rfl
theorem qw46 : Cond.fieldLink RX1 39 "Gearbox$Flow" "first" "[I" ∈ gw := mq_2 (i := 19) rfl rfl
theorem qw47 : Cond.fieldLink RX1 42 "Gearbox$Flow" "second" "[I" ∈ gw := mq_2 (i := 27) rfl rfl
theorem qw48 : Cond.fieldLink RX1 45 "Gearbox$Flow" "dominator" "[I" ∈ gw := mq_2 (i := 35) rfl rfl
theorem qw49 : Cond.fieldLink RX1 48 "Gearbox$Flow" "depth" "[I" ∈ gw := mq_2 (i := 40) rfl rfl
theorem qw50 : Cond.fieldLink RX1 51 "Gearbox$Flow" "waysBegin" "[I" ∈ gw := mq_2 (i := 44) rfl rfl
theorem qw51 : Cond.fieldLink RX1 54 "Gearbox$Flow" "ways" "[I" ∈ gw := mq_2 (i := 46) rfl rfl
theorem qw52 : Cond.fieldLink RX1 57 "Gearbox$Flow" "dominators" "[J" ∈ gw := mq_2 (i := 48) rfl rfl
theorem qw53 : Cond.fieldLink RX1 61 "Gearbox$Flow" "loop" "[J" ∈ gw := mq_2 (i := 52) rfl rfl
theorem qw54 : Cond.fieldLink RX1 64 "Gearbox$Flow" "phiGives" "[I" ∈ gw := mq_2 (i := 57) rfl rfl
theorem qw55 : Cond.fieldLink RX1 67 "Gearbox$Flow" "phiNext" "[I" ∈ gw := mq_2 (i := 63) rfl rfl
theorem qw56 : Cond.fieldLink RX1 70 "Gearbox$Flow" "takes" "[I" ∈ gw := mq_2 (i := 70) rfl rfl
theorem qw57 : Cond.methodLink RX8 3 objectInit ∈ gw := mq_2 (i := 120) rfl rfl
theorem qw58 : Cond.fieldLink RX8 9 "Gearbox$Shape" "renamed" "[I" ∈ gw := mq_2 (i := 121) rfl rfl
theorem qw59 : Cond.fieldLink RX8 15 "Gearbox$Shape" "stage" "[I" ∈ gw := mq_2 (i := 122) rfl rfl
theorem qw60 : Cond.fieldLink RX8 18 "Gearbox$Shape" "path" "[I" ∈ gw := mq_2 (i := 123) rfl rfl
theorem qw61 : Cond.fieldLink RX8 21 "Gearbox$Shape" "finished" "[I" ∈ gw := mq_2 (i := 124) rfl rfl
theorem qw62 : Cond.fieldLink RX8 24 "Gearbox$Shape" "row" "[I" ∈ gw := mq_2 (i := 125) rfl rfl
theorem qw63 : Cond.methodLink RX4 3 objectInit ∈ gw := mq_2 (i := 142) rfl rfl
theorem qw64 : Cond.fieldLink RX4 9 "Gearbox$Maker" "leftOp" "[I" ∈ gw := mq_2 (i := 144) rfl rfl
theorem qw65 : Cond.fieldLink RX4 15 "Gearbox$Maker" "rightOp" "[I" ∈ gw := mq_2 (i := 145) rfl rfl
theorem qw66 : Cond.fieldLink RX4 18 "Gearbox$Maker" "valueOf" "[I" ∈ gw := mq_2 (i := 146) rfl rfl
theorem qw67 : Cond.fieldLink RX4 21 "Gearbox$Maker" "waiting" "[I" ∈ gw := mq_2 (i := 147) rfl rfl
theorem qw68 : Cond.fieldLink RX4 24 "Gearbox$Maker" "pieceFrom" "[I" ∈ gw := mq_2 (i := 149) rfl rfl
theorem qw69 : Cond.fieldLink RX4 27 "Gearbox$Maker" "pieceTo" "[I" ∈ gw := mq_2 (i := 150) rfl rfl
theorem qw70 : Cond.fieldLink RX4 30 "Gearbox$Maker" "pieceFirst" "[I" ∈ gw := mq_2 (i := 151) rfl rfl
theorem qw71 : Cond.fieldLink RX4 33 "Gearbox$Maker" "pieceSecond" "[I" ∈ gw := mq_2 (i := 152) rfl rfl
theorem qw72 : Cond.fieldLink RX4 36 "Gearbox$Maker" "pieceWays" "[I" ∈ gw := mq_2 (i := 153) rfl rfl
theorem qw73 : Cond.fieldLink RX4 39 "Gearbox$Maker" "pieceBlock" "[I" ∈ gw := mq_2 (i := 154) rfl rfl
theorem qw74 : Cond.fieldLink RX4 42 "Gearbox$Maker" "labelPiece" "[I" ∈ gw := mq_2 (i := 155) rfl rfl
theorem qw75 : Cond.fieldLink RX4 45 "Gearbox$Maker" "found" "[I" ∈ gw := mq_2 (i := 156) rfl rfl
theorem qw76 : Cond.fieldLink RX4 48 "Gearbox$Maker" "pieceOf" "[I" ∈ gw := mq_2 (i := 157) rfl rfl
theorem qw77 : Cond.fieldLink RX4 51 "Gearbox$Maker" "uses" "[J" ∈ gw := mq_2 (i := 158) rfl rfl
theorem qw78 : Cond.fieldLink RX4 55 "Gearbox$Maker" "assigns" "[J" ∈ gw := mq_2 (i := 159) rfl rfl
theorem qw79 : Cond.fieldLink RX4 58 "Gearbox$Maker" "border" "[J" ∈ gw := mq_2 (i := 160) rfl rfl
theorem qw80 : Cond.fieldLink RX4 61 "Gearbox$Maker" "phiVariable" "[I" ∈ gw := mq_2 (i := 161) rfl rfl
theorem qw81 : Cond.fieldLink RX4 64 "Gearbox$Maker" "now" "[I" ∈ gw := mq_2 (i := 162) rfl rfl
theorem qw82 : Cond.fieldLink RX4 67 "Gearbox$Maker" "shape" "LGearbox$Shape;" ∈ gw := mq_2 (i := 143) rfl rfl
theorem qw83 : Cond.methodLink RX5 3 objectInit ∈ gw := mq_2 (i := 209) rfl rfl
theorem qw84 : Cond.fieldLink RX5 9 "Gearbox$Passes" "giver" "[I" ∈ gw := mq_2 (i := 211) rfl rfl
theorem qw85 : Cond.fieldLink RX5 15 "Gearbox$Passes" "home" "[I" ∈ gw := mq_2 (i := 212) rfl rfl
theorem qw86 : Cond.fieldLink RX5 18 "Gearbox$Passes" "state" "[I" ∈ gw := mq_2 (i := 213) rfl rfl
theorem qw87 : Cond.fieldLink RX5 21 "Gearbox$Passes" "number" "[I" ∈ gw := mq_2 (i := 214) rfl rfl
theorem qw88 : Cond.fieldLink RX5 24 "Gearbox$Passes" "standIn" "[I" ∈ gw := mq_2 (i := 215) rfl rfl
theorem qw89 : Cond.fieldLink RX5 27 "Gearbox$Passes" "marks" "[I" ∈ gw := mq_2 (i := 216) rfl rfl
theorem qw90 : Cond.fieldLink RX5 30 "Gearbox$Passes" "seenStep" "[I" ∈ gw := mq_2 (i := 218) rfl rfl
theorem qw91 : Cond.fieldLink RX5 33 "Gearbox$Passes" "seenBlock" "[I" ∈ gw := mq_2 (i := 219) rfl rfl
theorem qw92 : Cond.fieldLink RX5 36 "Gearbox$Passes" "path" "[I" ∈ gw := mq_2 (i := 221) rfl rfl
theorem qw93 : Cond.fieldLink RX5 39 "Gearbox$Passes" "shape" "LGearbox$Shape;" ∈ gw := mq_2 (i := 210) rfl rfl
theorem qw94 : Cond.methodLink RX2 3 objectInit ∈ gw := mq_3 (i := 22) rfl rfl
theorem qw95 : Cond.fieldLink RX2 11 "Gearbox$Graph" "uses" "[J" ∈ gw := mq_3 (i := 26) rfl rfl
theorem qw96 : Cond.fieldLink RX2 15 "Gearbox$Graph" "givenIn" "[J" ∈ gw := mq_3 (i := 27) rfl rfl
theorem qw97 : Cond.fieldLink RX2 18 "Gearbox$Graph" "liveIn" "[J" ∈ gw := mq_3 (i := 28) rfl rfl
theorem qw98 : Cond.fieldLink RX2 21 "Gearbox$Graph" "live" "[J" ∈ gw := mq_3 (i := 29) rfl rfl
theorem qw99 : Cond.fieldLink RX2 24 "Gearbox$Graph" "liveGuests" "[I" ∈ gw := mq_3 (i := 30) rfl rfl
theorem qw100 : Cond.fieldLink RX2 28 "Gearbox$Graph" "chain" "[I" ∈ gw := mq_3 (i := 32) rfl rfl
theorem qw101 : Cond.fieldLink RX2 31 "Gearbox$Graph" "near" "[J" ∈ gw := mq_3 (i := 33) rfl rfl
theorem qw102 : Cond.fieldLink RX2 34 "Gearbox$Graph" "mate" "[I" ∈ gw := mq_3 (i := 34) rfl rfl
theorem qw103 : Cond.fieldLink RX2 37 "Gearbox$Graph" "degree" "[I" ∈ gw := mq_3 (i := 35) rfl rfl
theorem qw104 : Cond.fieldLink RX2 40 "Gearbox$Graph" "cost" "[J" ∈ gw := mq_3 (i := 36) rfl rfl
theorem qw105 : Cond.fieldLink RX2 43 "Gearbox$Graph" "givers" "[I" ∈ gw := mq_3 (i := 37) rfl rfl
theorem qw106 : Cond.fieldLink RX2 46 "Gearbox$Graph" "giver" "[I" ∈ gw := mq_3 (i := 39) rfl rfl
theorem qw107 : Cond.fieldLink RX2 49 "Gearbox$Graph" "register" "[I" ∈ gw := mq_3 (i := 41) rfl rfl
theorem qw108 : Cond.fieldLink RX2 52 "Gearbox$Graph" "left" "[I" ∈ gw := mq_3 (i := 43) rfl rfl
theorem qw109 : Cond.fieldLink RX2 55 "Gearbox$Graph" "order" "[I" ∈ gw := mq_3 (i := 44) rfl rfl
set_option maxHeartbeats 4000000 in
set_option maxRecDepth 100000 in
theorem kX10_init {zs : Nat × Nat} (l : Launch) (dC : Nat → ClassId) (dI : Nat → Nat → Nat) (h0 : Nat) (sz : Nat)  : Met l yX10_init (wz yX10_init cX10_init 1 (Option.none : Option Jvm.ClassFile.FieldType)) ({ frames := 1, cells := 1, slots := 1200, locals := 12 }) (va_Pc [.ref h0] (PRE zs dC dI [(h0, .inr (0, [.null, .int 0, .int 0, .int 0, .int 0, .long 0, .int 0, .int 0]))] [] sz)) (va_Qv (fun (_ : Unit) => True) (fun _ t => ∃ (q1 : Nat), ∃ (c2 : ClassId), POST dC dI [(h0, .inr (0, [.ref q1, .int 0, .int 0, .int 0, .int 0, .long 0, .int 0, .int 0])), (q1, .inl (c2, 1200, .inl (fun _ => 0)))] [(c2, .int)] (va_A [(h0, .inr (0, [.null, .int 0, .int 0, .int 0, .int 0, .long 0, .int 0, .int 0]))] sz) t) (va_A [(h0, .inr (0, [.null, .int 0, .int 0, .int 0, .int 0, .long 0, .int 0, .int 0]))] sz)) 1 1200 (va_A [(h0, .inr (0, [.null, .int 0, .int 0, .int 0, .int 0, .long 0, .int 0, .int 0]))] sz) := by
  refine Met.ofW (cc := cX10_init) (maxL := 1) (ret := (Option.none : Option Jvm.ClassFile.FieldType)) (by decide) rfl ?_
  intro p e s m args below meth c s₁ B hml hv
  obtain ⟨rfl, hsz, hP, hK, hD0, hE⟩ := hv
  have hx := B.exec
  have hb := B.bytes
  have hr := B.returns
  have hts0 := atoms_spec (ws := wz yX10_init cX10_init 1 (Option.none : Option Jvm.ClassFile.FieldType)) B.pre
  have hts : ∀ w ∈ gw, w.before _ s = true := fun w h => hts0 w (List.mem_cons_of_mem _ h)
  have hown : s.vm.findClass RX10 = some m.cls := findClass_of_methodNamed B.named
  have hlocks := B.notSynchronized
  have hin : meth.name = "<init>" := (name_of_methodNamed B.named B.method).1
  subst hsz
  have hD := hD0.self (sz := s.heap.size)
  generalize hAe : va_A [(h0, .inr (0, [.null, .int 0, .int 0, .int 0, .int 0, .long 0, .int 0, .int 0]))] s.heap.size = A at hD hE ⊢
  have hA : ∀ q : Nat, s.heap.size ≤ q → A q := fun q h => by rw [← hAe]; exact Or.inr h
  have hS : va_S A s.heap s.heap [] := va_S.rf
  have hP : va_P (dC, dI) cls [(h0, .inr (0, [.null, .int 0, .int 0, .int 0, .int 0, .long 0, .int 0, .int 0]))] s.heap := hP
  have hl := lv_entry ([.ref h0]) (n := 1) (Nat.le_of_ble_eq_true rfl)
  rw [lg_entry_eq]
  generalize (lg_sl ([.ref h0]) ++ List.replicate (1 - (lg_sl ([.ref h0])).length) Slot.unset).toArray = ls at hl ⊢
  have hl : lv_has ls 1 [(0, .ref h0)] := hl
  refine lv_aload_n hx hb dX10_init_0 rfl (lv_at hl 0 rfl) ?_
  refine W.objInit hx hb hown (hts _ qw0) (hts _ qw1) (hts _ qw_oi) rfl (by rw [hml]; exact hl.1) rfl dX10_init_1 (Nat.le_of_ble_eq_true rfl) (Nat.le_of_ble_eq_true rfl) ?_
  refine W.eq (g2 := F0 m 4 ls []) rfl ?_
  refine lv_aload_n hx hb dX10_init_4 rfl (lv_at hl 0 rfl) ?_
  refine lv_sipush (v := 1200) hx hb dX10_init_5 (by decide) ?_
  refine va_newa (atype := .int) (ty := .int) hx hb (hts _ qw2) rfl hK hP hD hS hA (a0 := (1200, .inl (fun _ => 0))) (fun _ => rfl) (by decide) (by decide +kernel) (Nat.le_of_ble_eq_true rfl) (Nat.le_of_ble_eq_true rfl) (Nat.le_of_ble_eq_true rfl) dX10_init_8 (fun q1 c2 H hK hP hD hS => ?_)
  have hP : va_P (dC, dI) cls [(h0, .inr (0, [.null, .int 0, .int 0, .int 0, .int 0, .long 0, .int 0, .int 0])), (q1, .inl (c2, 1200, .inl (fun _ => 0)))] H := hP
  have hD : va_D A [(h0, .inr (0, [.null, .int 0, .int 0, .int 0, .int 0, .long 0, .int 0, .int 0])), (q1, .inl (c2, 1200, .inl (fun _ => 0)))] := hD
  have hK : va_K (dC, dI) cls [(c2, .int)] s := hK
  refine W.widen (k := 1) (n := 1200) (Nat.le_of_ble_eq_true rfl) (Nat.le_of_ble_eq_true rfl) ?_
  refine va_putF (D := (dC, dI)) (ci := 0) (v := .ref q1) (ty := .array .int) (C := RX10) (T := TX10) (N := 8) hx hb hts i_X10 tyX10 tyX10_ok nmX10 hown hK hP hD hS 0 rfl rfl 0 (by decide) (hts _ qw3) (fun _ h9 => h9) rfl hin rfl (by decide +kernel) rfl rfl (Nat.le_of_ble_eq_true rfl) dX10_init_10 (fun H locs hP hD hS => ?_)
  have hP : va_P (dC, dI) cls [(h0, .inr (0, [.ref q1, .int 0, .int 0, .int 0, .int 0, .long 0, .int 0, .int 0])), (q1, .inl (c2, 1200, .inl (fun _ => 0)))] H := hP
  have hD : va_D A [(h0, .inr (0, [.ref q1, .int 0, .int 0, .int 0, .int 0, .long 0, .int 0, .int 0])), (q1, .inl (c2, 1200, .inl (fun _ => 0)))] := hD
  have hP9 : va_P (dC, dI) cls [(h0, .inr (0, [.ref q1, .int 0, .int 0, .int 0, .int 0, .long 0, .int 0, .int 0])), (q1, .inl (c2, 1200, .inl (fun _ => 0)))] H := hP.sub [0, 1] rfl
  have hD9 : va_D A [(h0, .inr (0, [.ref q1, .int 0, .int 0, .int 0, .int 0, .long 0, .int 0, .int 0])), (q1, .inl (c2, 1200, .inl (fun _ => 0)))] := hD.sub [0, 1] (by decide) rfl
  have hK9 : va_K (dC, dI) cls [(c2, .int)] s := hK.sub [0] rfl
  exact W.vret hx hb hr (fun t ht hW => ⟨⟨(), rfl, trivial, ⟨q1, c2, ⟨by rw [ht]; exact hP9, va_K.moved hW.alike hK9, hD9⟩⟩⟩, hS.F ht⟩) hS.2.2 dX10_init_13
set_option maxHeartbeats 4000000 in
set_option maxRecDepth 100000 in
theorem kX6_init {zs : Nat × Nat} (l : Launch) (dC : Nat → ClassId) (dI : Nat → Nat → Nat) (h0 : Nat) (sz : Nat)  : Met l yX6_init (wz yX6_init cX6_init 1 (Option.none : Option Jvm.ClassFile.FieldType)) ({ frames := 1, cells := 10, slots := 10276, locals := 12 }) (va_Pc [.ref h0] (PRE zs dC dI [(h0, .inr (2, [.int 0, .null, .null, .null, .null, .null, .null, .int 0, .null, .null, .null, .int 0, .null]))] [] sz)) (va_Qv (fun (_ : Unit) => True) (fun _ t => ∃ (q1 : Nat), ∃ (q3 : Nat), ∃ (q5 : Nat), ∃ (q7 : Nat), ∃ (q9 : Nat), ∃ (q11 : Nat), ∃ (q13 : Nat), ∃ (q15 : Nat), ∃ (q17 : Nat), ∃ (q19 : Nat), POST dC dI [(h0, .inr (2, [.int 0, .ref q1, .ref q3, .ref q5, .ref q7, .ref q9, .ref q11, .int 0, .ref q13, .ref q15, .ref q17, .int 0, .ref q19]))] [] (va_A [(h0, .inr (2, [.int 0, .null, .null, .null, .null, .null, .null, .int 0, .null, .null, .null, .int 0, .null]))] sz) t) (va_A [(h0, .inr (2, [.int 0, .null, .null, .null, .null, .null, .null, .int 0, .null, .null, .null, .int 0, .null]))] sz)) 10 10276 (va_A [(h0, .inr (2, [.int 0, .null, .null, .null, .null, .null, .null, .int 0, .null, .null, .null, .int 0, .null]))] sz) := by
  refine Met.ofW (cc := cX6_init) (maxL := 1) (ret := (Option.none : Option Jvm.ClassFile.FieldType)) (by decide) rfl ?_
  intro p e s m args below meth c s₁ B hml hv
  obtain ⟨rfl, hsz, hP, hK, hD0, hE⟩ := hv
  have hx := B.exec
  have hb := B.bytes
  have hr := B.returns
  have hts0 := atoms_spec (ws := wz yX6_init cX6_init 1 (Option.none : Option Jvm.ClassFile.FieldType)) B.pre
  have hts : ∀ w ∈ gw, w.before _ s = true := fun w h => hts0 w (List.mem_cons_of_mem _ h)
  have hown : s.vm.findClass RX6 = some m.cls := findClass_of_methodNamed B.named
  have hlocks := B.notSynchronized
  have hin : meth.name = "<init>" := (name_of_methodNamed B.named B.method).1
  subst hsz
  have hD := hD0.self (sz := s.heap.size)
  generalize hAe : va_A [(h0, .inr (2, [.int 0, .null, .null, .null, .null, .null, .null, .int 0, .null, .null, .null, .int 0, .null]))] s.heap.size = A at hD hE ⊢
  have hA : ∀ q : Nat, s.heap.size ≤ q → A q := fun q h => by rw [← hAe]; exact Or.inr h
  have hS : va_S A s.heap s.heap [] := va_S.rf
  have hP : va_P (dC, dI) cls [(h0, .inr (2, [.int 0, .null, .null, .null, .null, .null, .null, .int 0, .null, .null, .null, .int 0, .null]))] s.heap := hP
  have hl := lv_entry ([.ref h0]) (n := 1) (Nat.le_of_ble_eq_true rfl)
  rw [lg_entry_eq]
  generalize (lg_sl ([.ref h0]) ++ List.replicate (1 - (lg_sl ([.ref h0])).length) Slot.unset).toArray = ls at hl ⊢
  have hl : lv_has ls 1 [(0, .ref h0)] := hl
  refine lv_aload_n hx hb dX6_init_0 rfl (lv_at hl 0 rfl) ?_
  refine W.objInit hx hb hown (hts _ qw4) (hts _ qw1) (hts _ qw_oi) rfl (by rw [hml]; exact hl.1) rfl dX6_init_1 (Nat.le_of_ble_eq_true rfl) (Nat.le_of_ble_eq_true rfl) ?_
  refine W.eq (g2 := F0 m 4 ls []) rfl ?_
  refine lv_aload_n hx hb dX6_init_4 rfl (lv_at hl 0 rfl) ?_
  refine lv_bipush (v := 6) hx hb dX6_init_5 (by decide) ?_
  refine va_newa (atype := .long) (ty := .long) hx hb (hts _ qw5) rfl hK hP hD hS hA (a0 := (6, .inr <| .inl (fun _ => 0))) (fun _ => rfl) (by decide) (by decide +kernel) (Nat.le_of_ble_eq_true rfl) (Nat.le_of_ble_eq_true rfl) (Nat.le_of_ble_eq_true rfl) dX6_init_7 (fun q1 c2 H hK hP hD hS => ?_)
  have hP : va_P (dC, dI) cls [(h0, .inr (2, [.int 0, .null, .null, .null, .null, .null, .null, .int 0, .null, .null, .null, .int 0, .null])), (q1, .inl (c2, 6, .inr (.inl (fun _ => 0))))] H := hP
  have hD : va_D A [(h0, .inr (2, [.int 0, .null, .null, .null, .null, .null, .null, .int 0, .null, .null, .null, .int 0, .null])), (q1, .inl (c2, 6, .inr (.inl (fun _ => 0))))] := hD
  have hK : va_K (dC, dI) cls [(c2, .long)] s := hK
  have hP : va_P (dC, dI) cls [(h0, .inr (2, [.int 0, .null, .null, .null, .null, .null, .null, .int 0, .null, .null, .null, .int 0, .null]))] H := hP.sub [0] rfl
  have hD : va_D A [(h0, .inr (2, [.int 0, .null, .null, .null, .null, .null, .null, .int 0, .null, .null, .null, .int 0, .null]))] := hD.sub [0] (by decide) rfl
  have hK : va_K (dC, dI) cls [] s := hK.sub [] rfl
  refine W.widen (k := 1) (n := 6) (Nat.le_of_ble_eq_true rfl) (Nat.le_of_ble_eq_true rfl) ?_
  refine va_putF (D := (dC, dI)) (ci := 2) (v := .ref q1) (ty := .array .long) (C := RX6) (T := TX6) (N := 13) hx hb hts i_X6 tyX6 tyX6_ok nmX6 hown hK hP hD hS 0 rfl rfl 1 (by decide) (hts _ qw6) (fun _ h9 => h9) rfl hin rfl (by decide +kernel) rfl rfl (Nat.le_of_ble_eq_true rfl) dX6_init_9 (fun H locs hP hD hS => ?_)
  have hP : va_P (dC, dI) cls [(h0, .inr (2, [.int 0, .ref q1, .null, .null, .null, .null, .null, .int 0, .null, .null, .null, .int 0, .null]))] H := hP
  have hD : va_D A [(h0, .inr (2, [.int 0, .ref q1, .null, .null, .null, .null, .null, .int 0, .null, .null, .null, .int 0, .null]))] := hD
  refine lv_aload_n hx hb dX6_init_12 rfl (lv_at hl 0 rfl) ?_
  refine lv_bipush (v := 6) hx hb dX6_init_13 (by decide) ?_
  refine va_newa (atype := .int) (ty := .int) hx hb (hts _ qw2) rfl hK hP hD hS hA (a0 := (6, .inl (fun _ => 0))) (fun _ => rfl) (by decide) (by decide +kernel) (Nat.le_of_ble_eq_true rfl) (Nat.le_of_ble_eq_true rfl) (Nat.le_of_ble_eq_true rfl) dX6_init_15 (fun q3 c4 H hK hP hD hS => ?_)
  have hP : va_P (dC, dI) cls [(h0, .inr (2, [.int 0, .ref q1, .null, .null, .null, .null, .null, .int 0, .null, .null, .null, .int 0, .null])), (q3, .inl (c4, 6, .inl (fun _ => 0)))] H := hP
  have hD : va_D A [(h0, .inr (2, [.int 0, .ref q1, .null, .null, .null, .null, .null, .int 0, .null, .null, .null, .int 0, .null])), (q3, .inl (c4, 6, .inl (fun _ => 0)))] := hD
  have hK : va_K (dC, dI) cls [(c4, .int)] s := hK
  have hP : va_P (dC, dI) cls [(h0, .inr (2, [.int 0, .ref q1, .null, .null, .null, .null, .null, .int 0, .null, .null, .null, .int 0, .null]))] H := hP.sub [0] rfl
  have hD : va_D A [(h0, .inr (2, [.int 0, .ref q1, .null, .null, .null, .null, .null, .int 0, .null, .null, .null, .int 0, .null]))] := hD.sub [0] (by decide) rfl
  have hK : va_K (dC, dI) cls [] s := hK.sub [] rfl
  refine W.widen (k := 2) (n := 12) (Nat.le_of_ble_eq_true rfl) (Nat.le_of_ble_eq_true rfl) ?_
  refine va_putF (D := (dC, dI)) (ci := 2) (v := .ref q3) (ty := .array .int) (C := RX6) (T := TX6) (N := 13) hx hb hts i_X6 tyX6 tyX6_ok nmX6 hown hK hP hD hS 0 rfl rfl 2 (by decide) (hts _ qw7) (fun _ h9 => h9) rfl hin rfl (by decide +kernel) rfl rfl (Nat.le_of_ble_eq_true rfl) dX6_init_17 (fun H locs hP hD hS => ?_)
  have hP : va_P (dC, dI) cls [(h0, .inr (2, [.int 0, .ref q1, .ref q3, .null, .null, .null, .null, .int 0, .null, .null, .null, .int 0, .null]))] H := hP
  have hD : va_D A [(h0, .inr (2, [.int 0, .ref q1, .ref q3, .null, .null, .null, .null, .int 0, .null, .null, .null, .int 0, .null]))] := hD
  refine lv_aload_n hx hb dX6_init_20 rfl (lv_at hl 0 rfl) ?_
  refine lv_bipush (v := 6) hx hb dX6_init_21 (by decide) ?_
  refine va_newa (atype := .int) (ty := .int) hx hb (hts _ qw2) rfl hK hP hD hS hA (a0 := (6, .inl (fun _ => 0))) (fun _ => rfl) (by decide) (by decide +kernel) (Nat.le_of_ble_eq_true rfl) (Nat.le_of_ble_eq_true rfl) (Nat.le_of_ble_eq_true rfl) dX6_init_23 (fun q5 c6 H hK hP hD hS => ?_)
  have hP : va_P (dC, dI) cls [(h0, .inr (2, [.int 0, .ref q1, .ref q3, .null, .null, .null, .null, .int 0, .null, .null, .null, .int 0, .null])), (q5, .inl (c6, 6, .inl (fun _ => 0)))] H := hP
  have hD : va_D A [(h0, .inr (2, [.int 0, .ref q1, .ref q3, .null, .null, .null, .null, .int 0, .null, .null, .null, .int 0, .null])), (q5, .inl (c6, 6, .inl (fun _ => 0)))] := hD
  have hK : va_K (dC, dI) cls [(c6, .int)] s := hK
  have hP : va_P (dC, dI) cls [(h0, .inr (2, [.int 0, .ref q1, .ref q3, .null, .null, .null, .null, .int 0, .null, .null, .null, .int 0, .null]))] H := hP.sub [0] rfl
  have hD : va_D A [(h0, .inr (2, [.int 0, .ref q1, .ref q3, .null, .null, .null, .null, .int 0, .null, .null, .null, .int 0, .null]))] := hD.sub [0] (by decide) rfl
  have hK : va_K (dC, dI) cls [] s := hK.sub [] rfl
  refine W.widen (k := 3) (n := 18) (Nat.le_of_ble_eq_true rfl) (Nat.le_of_ble_eq_true rfl) ?_
  refine va_putF (D := (dC, dI)) (ci := 2) (v := .ref q5) (ty := .array .int) (C := RX6) (T := TX6) (N := 13) hx hb hts i_X6 tyX6 tyX6_ok nmX6 hown hK hP hD hS 0 rfl rfl 3 (by decide) (hts _ qw8) (fun _ h9 => h9) rfl hin rfl (by decide +kernel) rfl rfl (Nat.le_of_ble_eq_true rfl) dX6_init_25 (fun H locs hP hD hS => ?_)
  have hP : va_P (dC, dI) cls [(h0, .inr (2, [.int 0, .ref q1, .ref q3, .ref q5, .null, .null, .null, .int 0, .null, .null, .null, .int 0, .null]))] H := hP
  have hD : va_D A [(h0, .inr (2, [.int 0, .ref q1, .ref q3, .ref q5, .null, .null, .null, .int 0, .null, .null, .null, .int 0, .null]))] := hD
  refine lv_aload_n hx hb dX6_init_28 rfl (lv_at hl 0 rfl) ?_
  refine lv_bipush (v := 6) hx hb dX6_init_29 (by decide) ?_
  refine va_newa (atype := .int) (ty := .int) hx hb (hts _ qw2) rfl hK hP hD hS hA (a0 := (6, .inl (fun _ => 0))) (fun _ => rfl) (by decide) (by decide +kernel) (Nat.le_of_ble_eq_true rfl) (Nat.le_of_ble_eq_true rfl) (Nat.le_of_ble_eq_true rfl) dX6_init_31 (fun q7 c8 H hK hP hD hS => ?_)
  have hP : va_P (dC, dI) cls [(h0, .inr (2, [.int 0, .ref q1, .ref q3, .ref q5, .null, .null, .null, .int 0, .null, .null, .null, .int 0, .null])), (q7, .inl (c8, 6, .inl (fun _ => 0)))] H := hP
  have hD : va_D A [(h0, .inr (2, [.int 0, .ref q1, .ref q3, .ref q5, .null, .null, .null, .int 0, .null, .null, .null, .int 0, .null])), (q7, .inl (c8, 6, .inl (fun _ => 0)))] := hD
  have hK : va_K (dC, dI) cls [(c8, .int)] s := hK
  have hP : va_P (dC, dI) cls [(h0, .inr (2, [.int 0, .ref q1, .ref q3, .ref q5, .null, .null, .null, .int 0, .null, .null, .null, .int 0, .null]))] H := hP.sub [0] rfl
  have hD : va_D A [(h0, .inr (2, [.int 0, .ref q1, .ref q3, .ref q5, .null, .null, .null, .int 0, .null, .null, .null, .int 0, .null]))] := hD.sub [0] (by decide) rfl
  have hK : va_K (dC, dI) cls [] s := hK.sub [] rfl
  refine W.widen (k := 4) (n := 24) (Nat.le_of_ble_eq_true rfl) (Nat.le_of_ble_eq_true rfl) ?_
  refine va_putF (D := (dC, dI)) (ci := 2) (v := .ref q7) (ty := .array .int) (C := RX6) (T := TX6) (N := 13) hx hb hts i_X6 tyX6 tyX6_ok nmX6 hown hK hP hD hS 0 rfl rfl 4 (by decide) (hts _ qw9) (fun _ h9 => h9) rfl hin rfl (by decide +kernel) rfl rfl (Nat.le_of_ble_eq_true rfl) dX6_init_33 (fun H locs hP hD hS => ?_)
  have hP : va_P (dC, dI) cls [(h0, .inr (2, [.int 0, .ref q1, .ref q3, .ref q5, .ref q7, .null, .null, .int 0, .null, .null, .null, .int 0, .null]))] H := hP
  have hD : va_D A [(h0, .inr (2, [.int 0, .ref q1, .ref q3, .ref q5, .ref q7, .null, .null, .int 0, .null, .null, .null, .int 0, .null]))] := hD
  refine lv_aload_n hx hb dX6_init_36 rfl (lv_at hl 0 rfl) ?_
  refine lv_bipush (v := 6) hx hb dX6_init_37 (by decide) ?_
  refine va_newa (atype := .int) (ty := .int) hx hb (hts _ qw2) rfl hK hP hD hS hA (a0 := (6, .inl (fun _ => 0))) (fun _ => rfl) (by decide) (by decide +kernel) (Nat.le_of_ble_eq_true rfl) (Nat.le_of_ble_eq_true rfl) (Nat.le_of_ble_eq_true rfl) dX6_init_39 (fun q9 c10 H hK hP hD hS => ?_)
  have hP : va_P (dC, dI) cls [(h0, .inr (2, [.int 0, .ref q1, .ref q3, .ref q5, .ref q7, .null, .null, .int 0, .null, .null, .null, .int 0, .null])), (q9, .inl (c10, 6, .inl (fun _ => 0)))] H := hP
  have hD : va_D A [(h0, .inr (2, [.int 0, .ref q1, .ref q3, .ref q5, .ref q7, .null, .null, .int 0, .null, .null, .null, .int 0, .null])), (q9, .inl (c10, 6, .inl (fun _ => 0)))] := hD
  have hK : va_K (dC, dI) cls [(c10, .int)] s := hK
  have hP : va_P (dC, dI) cls [(h0, .inr (2, [.int 0, .ref q1, .ref q3, .ref q5, .ref q7, .null, .null, .int 0, .null, .null, .null, .int 0, .null]))] H := hP.sub [0] rfl
  have hD : va_D A [(h0, .inr (2, [.int 0, .ref q1, .ref q3, .ref q5, .ref q7, .null, .null, .int 0, .null, .null, .null, .int 0, .null]))] := hD.sub [0] (by decide) rfl
  have hK : va_K (dC, dI) cls [] s := hK.sub [] rfl
  refine W.widen (k := 5) (n := 30) (Nat.le_of_ble_eq_true rfl) (Nat.le_of_ble_eq_true rfl) ?_
  refine va_putF (D := (dC, dI)) (ci := 2) (v := .ref q9) (ty := .array .int) (C := RX6) (T := TX6) (N := 13) hx hb hts i_X6 tyX6 tyX6_ok nmX6 hown hK hP hD hS 0 rfl rfl 5 (by decide) (hts _ qw10) (fun _ h9 => h9) rfl hin rfl (by decide +kernel) rfl rfl (Nat.le_of_ble_eq_true rfl) dX6_init_41 (fun H locs hP hD hS => ?_)
  have hP : va_P (dC, dI) cls [(h0, .inr (2, [.int 0, .ref q1, .ref q3, .ref q5, .ref q7, .ref q9, .null, .int 0, .null, .null, .null, .int 0, .null]))] H := hP
  have hD : va_D A [(h0, .inr (2, [.int 0, .ref q1, .ref q3, .ref q5, .ref q7, .ref q9, .null, .int 0, .null, .null, .null, .int 0, .null]))] := hD
  refine lv_aload_n hx hb dX6_init_44 rfl (lv_at hl 0 rfl) ?_
  refine lv_bipush (v := 6) hx hb dX6_init_45 (by decide) ?_
  refine va_newa (atype := .int) (ty := .int) hx hb (hts _ qw2) rfl hK hP hD hS hA (a0 := (6, .inl (fun _ => 0))) (fun _ => rfl) (by decide) (by decide +kernel) (Nat.le_of_ble_eq_true rfl) (Nat.le_of_ble_eq_true rfl) (Nat.le_of_ble_eq_true rfl) dX6_init_47 (fun q11 c12 H hK hP hD hS => ?_)
  have hP : va_P (dC, dI) cls [(h0, .inr (2, [.int 0, .ref q1, .ref q3, .ref q5, .ref q7, .ref q9, .null, .int 0, .null, .null, .null, .int 0, .null])), (q11, .inl (c12, 6, .inl (fun _ => 0)))] H := hP
  have hD : va_D A [(h0, .inr (2, [.int 0, .ref q1, .ref q3, .ref q5, .ref q7, .ref q9, .null, .int 0, .null, .null, .null, .int 0, .null])), (q11, .inl (c12, 6, .inl (fun _ => 0)))] := hD
  have hK : va_K (dC, dI) cls [(c12, .int)] s := hK
  have hP : va_P (dC, dI) cls [(h0, .inr (2, [.int 0, .ref q1, .ref q3, .ref q5, .ref q7, .ref q9, .null, .int 0, .null, .null, .null, .int 0, .null]))] H := hP.sub [0] rfl
  have hD : va_D A [(h0, .inr (2, [.int 0, .ref q1, .ref q3, .ref q5, .ref q7, .ref q9, .null, .int 0, .null, .null, .null, .int 0, .null]))] := hD.sub [0] (by decide) rfl
  have hK : va_K (dC, dI) cls [] s := hK.sub [] rfl
  refine W.widen (k := 6) (n := 36) (Nat.le_of_ble_eq_true rfl) (Nat.le_of_ble_eq_true rfl) ?_
  refine va_putF (D := (dC, dI)) (ci := 2) (v := .ref q11) (ty := .array .int) (C := RX6) (T := TX6) (N := 13) hx hb hts i_X6 tyX6 tyX6_ok nmX6 hown hK hP hD hS 0 rfl rfl 6 (by decide) (hts _ qw11) (fun _ h9 => h9) rfl hin rfl (by decide +kernel) rfl rfl (Nat.le_of_ble_eq_true rfl) dX6_init_49 (fun H locs hP hD hS => ?_)
  have hP : va_P (dC, dI) cls [(h0, .inr (2, [.int 0, .ref q1, .ref q3, .ref q5, .ref q7, .ref q9, .ref q11, .int 0, .null, .null, .null, .int 0, .null]))] H := hP
  have hD : va_D A [(h0, .inr (2, [.int 0, .ref q1, .ref q3, .ref q5, .ref q7, .ref q9, .ref q11, .int 0, .null, .null, .null, .int 0, .null]))] := hD
  refine lv_aload_n hx hb dX6_init_52 rfl (lv_at hl 0 rfl) ?_
  refine lv_sipush (v := 3200) hx hb dX6_init_53 (by decide) ?_
  refine va_newa (atype := .int) (ty := .int) hx hb (hts _ qw2) rfl hK hP hD hS hA (a0 := (3200, .inl (fun _ => 0))) (fun _ => rfl) (by decide) (by decide +kernel) (Nat.le_of_ble_eq_true rfl) (Nat.le_of_ble_eq_true rfl) (Nat.le_of_ble_eq_true rfl) dX6_init_56 (fun q13 c14 H hK hP hD hS => ?_)
  have hP : va_P (dC, dI) cls [(h0, .inr (2, [.int 0, .ref q1, .ref q3, .ref q5, .ref q7, .ref q9, .ref q11, .int 0, .null, .null, .null, .int 0, .null])), (q13, .inl (c14, 3200, .inl (fun _ => 0)))] H := hP
  have hD : va_D A [(h0, .inr (2, [.int 0, .ref q1, .ref q3, .ref q5, .ref q7, .ref q9, .ref q11, .int 0, .null, .null, .null, .int 0, .null])), (q13, .inl (c14, 3200, .inl (fun _ => 0)))] := hD
  have hK : va_K (dC, dI) cls [(c14, .int)] s := hK
  have hP : va_P (dC, dI) cls [(h0, .inr (2, [.int 0, .ref q1, .ref q3, .ref q5, .ref q7, .ref q9, .ref q11, .int 0, .null, .null, .null, .int 0, .null]))] H := hP.sub [0] rfl
  have hD : va_D A [(h0, .inr (2, [.int 0, .ref q1, .ref q3, .ref q5, .ref q7, .ref q9, .ref q11, .int 0, .null, .null, .null, .int 0, .null]))] := hD.sub [0] (by decide) rfl
  have hK : va_K (dC, dI) cls [] s := hK.sub [] rfl
  refine W.widen (k := 7) (n := 3236) (Nat.le_of_ble_eq_true rfl) (Nat.le_of_ble_eq_true rfl) ?_
  refine va_putF (D := (dC, dI)) (ci := 2) (v := .ref q13) (ty := .array .int) (C := RX6) (T := TX6) (N := 13) hx hb hts i_X6 tyX6 tyX6_ok nmX6 hown hK hP hD hS 0 rfl rfl 8 (by decide) (hts _ qw12) (fun _ h9 => h9) rfl hin rfl (by decide +kernel) rfl rfl (Nat.le_of_ble_eq_true rfl) dX6_init_58 (fun H locs hP hD hS => ?_)
  have hP : va_P (dC, dI) cls [(h0, .inr (2, [.int 0, .ref q1, .ref q3, .ref q5, .ref q7, .ref q9, .ref q11, .int 0, .ref q13, .null, .null, .int 0, .null]))] H := hP
  have hD : va_D A [(h0, .inr (2, [.int 0, .ref q1, .ref q3, .ref q5, .ref q7, .ref q9, .ref q11, .int 0, .ref q13, .null, .null, .int 0, .null]))] := hD
  refine lv_aload_n hx hb dX6_init_61 rfl (lv_at hl 0 rfl) ?_
  refine lv_sipush (v := 3200) hx hb dX6_init_62 (by decide) ?_
  refine va_newa (atype := .int) (ty := .int) hx hb (hts _ qw2) rfl hK hP hD hS hA (a0 := (3200, .inl (fun _ => 0))) (fun _ => rfl) (by decide) (by decide +kernel) (Nat.le_of_ble_eq_true rfl) (Nat.le_of_ble_eq_true rfl) (Nat.le_of_ble_eq_true rfl) dX6_init_65 (fun q15 c16 H hK hP hD hS => ?_)
  have hP : va_P (dC, dI) cls [(h0, .inr (2, [.int 0, .ref q1, .ref q3, .ref q5, .ref q7, .ref q9, .ref q11, .int 0, .ref q13, .null, .null, .int 0, .null])), (q15, .inl (c16, 3200, .inl (fun _ => 0)))] H := hP
  have hD : va_D A [(h0, .inr (2, [.int 0, .ref q1, .ref q3, .ref q5, .ref q7, .ref q9, .ref q11, .int 0, .ref q13, .null, .null, .int 0, .null])), (q15, .inl (c16, 3200, .inl (fun _ => 0)))] := hD
  have hK : va_K (dC, dI) cls [(c16, .int)] s := hK
  have hP : va_P (dC, dI) cls [(h0, .inr (2, [.int 0, .ref q1, .ref q3, .ref q5, .ref q7, .ref q9, .ref q11, .int 0, .ref q13, .null, .null, .int 0, .null]))] H := hP.sub [0] rfl
  have hD : va_D A [(h0, .inr (2, [.int 0, .ref q1, .ref q3, .ref q5, .ref q7, .ref q9, .ref q11, .int 0, .ref q13, .null, .null, .int 0, .null]))] := hD.sub [0] (by decide) rfl
  have hK : va_K (dC, dI) cls [] s := hK.sub [] rfl
  refine W.widen (k := 8) (n := 6436) (Nat.le_of_ble_eq_true rfl) (Nat.le_of_ble_eq_true rfl) ?_
  refine va_putF (D := (dC, dI)) (ci := 2) (v := .ref q15) (ty := .array .int) (C := RX6) (T := TX6) (N := 13) hx hb hts i_X6 tyX6 tyX6_ok nmX6 hown hK hP hD hS 0 rfl rfl 9 (by decide) (hts _ qw13) (fun _ h9 => h9) rfl hin rfl (by decide +kernel) rfl rfl (Nat.le_of_ble_eq_true rfl) dX6_init_67 (fun H locs hP hD hS => ?_)
  have hP : va_P (dC, dI) cls [(h0, .inr (2, [.int 0, .ref q1, .ref q3, .ref q5, .ref q7, .ref q9, .ref q11, .int 0, .ref q13, .ref q15, .null, .int 0, .null]))] H := hP
  have hD : va_D A [(h0, .inr (2, [.int 0, .ref q1, .ref q3, .ref q5, .ref q7, .ref q9, .ref q11, .int 0, .ref q13, .ref q15, .null, .int 0, .null]))] := hD
  refine lv_aload_n hx hb dX6_init_70 rfl (lv_at hl 0 rfl) ?_
  refine lv_sipush (v := 3200) hx hb dX6_init_71 (by decide) ?_
  refine va_newa (atype := .int) (ty := .int) hx hb (hts _ qw2) rfl hK hP hD hS hA (a0 := (3200, .inl (fun _ => 0))) (fun _ => rfl) (by decide) (by decide +kernel) (Nat.le_of_ble_eq_true rfl) (Nat.le_of_ble_eq_true rfl) (Nat.le_of_ble_eq_true rfl) dX6_init_74 (fun q17 c18 H hK hP hD hS => ?_)
  have hP : va_P (dC, dI) cls [(h0, .inr (2, [.int 0, .ref q1, .ref q3, .ref q5, .ref q7, .ref q9, .ref q11, .int 0, .ref q13, .ref q15, .null, .int 0, .null])), (q17, .inl (c18, 3200, .inl (fun _ => 0)))] H := hP
  have hD : va_D A [(h0, .inr (2, [.int 0, .ref q1, .ref q3, .ref q5, .ref q7, .ref q9, .ref q11, .int 0, .ref q13, .ref q15, .null, .int 0, .null])), (q17, .inl (c18, 3200, .inl (fun _ => 0)))] := hD
  have hK : va_K (dC, dI) cls [(c18, .int)] s := hK
  have hP : va_P (dC, dI) cls [(h0, .inr (2, [.int 0, .ref q1, .ref q3, .ref q5, .ref q7, .ref q9, .ref q11, .int 0, .ref q13, .ref q15, .null, .int 0, .null]))] H := hP.sub [0] rfl
  have hD : va_D A [(h0, .inr (2, [.int 0, .ref q1, .ref q3, .ref q5, .ref q7, .ref q9, .ref q11, .int 0, .ref q13, .ref q15, .null, .int 0, .null]))] := hD.sub [0] (by decide) rfl
  have hK : va_K (dC, dI) cls [] s := hK.sub [] rfl
  refine W.widen (k := 9) (n := 9636) (Nat.le_of_ble_eq_true rfl) (Nat.le_of_ble_eq_true rfl) ?_
  refine va_putF (D := (dC, dI)) (ci := 2) (v := .ref q17) (ty := .array .int) (C := RX6) (T := TX6) (N := 13) hx hb hts i_X6 tyX6 tyX6_ok nmX6 hown hK hP hD hS 0 rfl rfl 10 (by decide) (hts _ qw14) (fun _ h9 => h9) rfl hin rfl (by decide +kernel) rfl rfl (Nat.le_of_ble_eq_true rfl) dX6_init_76 (fun H locs hP hD hS => ?_)
  have hP : va_P (dC, dI) cls [(h0, .inr (2, [.int 0, .ref q1, .ref q3, .ref q5, .ref q7, .ref q9, .ref q11, .int 0, .ref q13, .ref q15, .ref q17, .int 0, .null]))] H := hP
  have hD : va_D A [(h0, .inr (2, [.int 0, .ref q1, .ref q3, .ref q5, .ref q7, .ref q9, .ref q11, .int 0, .ref q13, .ref q15, .ref q17, .int 0, .null]))] := hD
  refine lv_aload_n hx hb dX6_init_79 rfl (lv_at hl 0 rfl) ?_
  refine lv_sipush (v := 640) hx hb dX6_init_80 (by decide) ?_
  refine va_newa (atype := .int) (ty := .int) hx hb (hts _ qw2) rfl hK hP hD hS hA (a0 := (640, .inl (fun _ => 0))) (fun _ => rfl) (by decide) (by decide +kernel) (Nat.le_of_ble_eq_true rfl) (Nat.le_of_ble_eq_true rfl) (Nat.le_of_ble_eq_true rfl) dX6_init_83 (fun q19 c20 H hK hP hD hS => ?_)
  have hP : va_P (dC, dI) cls [(h0, .inr (2, [.int 0, .ref q1, .ref q3, .ref q5, .ref q7, .ref q9, .ref q11, .int 0, .ref q13, .ref q15, .ref q17, .int 0, .null])), (q19, .inl (c20, 640, .inl (fun _ => 0)))] H := hP
  have hD : va_D A [(h0, .inr (2, [.int 0, .ref q1, .ref q3, .ref q5, .ref q7, .ref q9, .ref q11, .int 0, .ref q13, .ref q15, .ref q17, .int 0, .null])), (q19, .inl (c20, 640, .inl (fun _ => 0)))] := hD
  have hK : va_K (dC, dI) cls [(c20, .int)] s := hK
  have hP : va_P (dC, dI) cls [(h0, .inr (2, [.int 0, .ref q1, .ref q3, .ref q5, .ref q7, .ref q9, .ref q11, .int 0, .ref q13, .ref q15, .ref q17, .int 0, .null]))] H := hP.sub [0] rfl
  have hD : va_D A [(h0, .inr (2, [.int 0, .ref q1, .ref q3, .ref q5, .ref q7, .ref q9, .ref q11, .int 0, .ref q13, .ref q15, .ref q17, .int 0, .null]))] := hD.sub [0] (by decide) rfl
  have hK : va_K (dC, dI) cls [] s := hK.sub [] rfl
  refine W.widen (k := 10) (n := 10276) (Nat.le_of_ble_eq_true rfl) (Nat.le_of_ble_eq_true rfl) ?_
  refine va_putF (D := (dC, dI)) (ci := 2) (v := .ref q19) (ty := .array .int) (C := RX6) (T := TX6) (N := 13) hx hb hts i_X6 tyX6 tyX6_ok nmX6 hown hK hP hD hS 0 rfl rfl 12 (by decide) (hts _ qw15) (fun _ h9 => h9) rfl hin rfl (by decide +kernel) rfl rfl (Nat.le_of_ble_eq_true rfl) dX6_init_85 (fun H locs hP hD hS => ?_)
  have hP : va_P (dC, dI) cls [(h0, .inr (2, [.int 0, .ref q1, .ref q3, .ref q5, .ref q7, .ref q9, .ref q11, .int 0, .ref q13, .ref q15, .ref q17, .int 0, .ref q19]))] H := hP
  have hD : va_D A [(h0, .inr (2, [.int 0, .ref q1, .ref q3, .ref q5, .ref q7, .ref q9, .ref q11, .int 0, .ref q13, .ref q15, .ref q17, .int 0, .ref q19]))] := hD
  have hP9 : va_P (dC, dI) cls [(h0, .inr (2, [.int 0, .ref q1, .ref q3, .ref q5, .ref q7, .ref q9, .ref q11, .int 0, .ref q13, .ref q15, .ref q17, .int 0, .ref q19]))] H := hP.sub [0] rfl
  have hD9 : va_D A [(h0, .inr (2, [.int 0, .ref q1, .ref q3, .ref q5, .ref q7, .ref q9, .ref q11, .int 0, .ref q13, .ref q15, .ref q17, .int 0, .ref q19]))] := hD.sub [0] (by decide) rfl
  have hK9 : va_K (dC, dI) cls [] s := hK.sub [] rfl
  exact W.vret hx hb hr (fun t ht hW => ⟨⟨(), rfl, trivial, ⟨q1, q3, q5, q7, q9, q11, q13, q15, q17, q19, ⟨by rw [ht]; exact hP9, va_K.moved hW.alike hK9, hD9⟩⟩⟩, hS.F ht⟩) hS.2.2 dX6_init_88
set_option maxHeartbeats 4000000 in
set_option maxRecDepth 100000 in
theorem kX7_init {zs : Nat × Nat} (l : Launch) (dC : Nat → ClassId) (dI : Nat → Nat → Nat) (h0 : Nat) (h1 : Nat) (sz : Nat)  : Met l yX7_init (wz yX7_init cX7_init 2 (Option.none : Option Jvm.ClassFile.FieldType)) ({ frames := 1, cells := 8, slots := 3058, locals := 12 }) (va_Pc [.ref h0, .ref h1] (PRE zs dC dI [(h0, .inr (1, [.int 0, .null, .null, .int 0, .int 0, .int 0, .int 0, .null, .null, .int 0, .null, .null, .int 0, .null, .null, .null, .null, .int 0]))] [] sz)) (va_Qv (fun (_ : Unit) => True) (fun _ t => ∃ (q1 : Nat), ∃ (q3 : Nat), ∃ (q5 : Nat), ∃ (q7 : Nat), ∃ (q9 : Nat), ∃ (q11 : Nat), ∃ (q13 : Nat), ∃ (q15 : Nat), POST dC dI [(h0, .inr (1, [.int 0, .ref h1, .null, .int 0, .int 0, .int 0, .int 0, .ref q1, .ref q3, .int 0, .ref q5, .ref q7, .int 0, .ref q9, .ref q11, .ref q13, .ref q15, .int 0]))] [] (va_A [(h0, .inr (1, [.int 0, .null, .null, .int 0, .int 0, .int 0, .int 0, .null, .null, .int 0, .null, .null, .int 0, .null, .null, .null, .null, .int 0]))] sz) t) (va_A [(h0, .inr (1, [.int 0, .null, .null, .int 0, .int 0, .int 0, .int 0, .null, .null, .int 0, .null, .null, .int 0, .null, .null, .null, .null, .int 0]))] sz)) 8 3058 (va_A [(h0, .inr (1, [.int 0, .null, .null, .int 0, .int 0, .int 0, .int 0, .null, .null, .int 0, .null, .null, .int 0, .null, .null, .null, .null, .int 0]))] sz) := by
  refine Met.ofW (cc := cX7_init) (maxL := 2) (ret := (Option.none : Option Jvm.ClassFile.FieldType)) (by decide) rfl ?_
  intro p e s m args below meth c s₁ B hml hv
  obtain ⟨rfl, hsz, hP, hK, hD0, hE⟩ := hv
  have hx := B.exec
  have hb := B.bytes
  have hr := B.returns
  have hts0 := atoms_spec (ws := wz yX7_init cX7_init 2 (Option.none : Option Jvm.ClassFile.FieldType)) B.pre
  have hts : ∀ w ∈ gw, w.before _ s = true := fun w h => hts0 w (List.mem_cons_of_mem _ h)
  have hown : s.vm.findClass RX7 = some m.cls := findClass_of_methodNamed B.named
  have hlocks := B.notSynchronized
  have hin : meth.name = "<init>" := (name_of_methodNamed B.named B.method).1
  subst hsz
  have hD := hD0.self (sz := s.heap.size)
  generalize hAe : va_A [(h0, .inr (1, [.int 0, .null, .null, .int 0, .int 0, .int 0, .int 0, .null, .null, .int 0, .null, .null, .int 0, .null, .null, .null, .null, .int 0]))] s.heap.size = A at hD hE ⊢
  have hA : ∀ q : Nat, s.heap.size ≤ q → A q := fun q h => by rw [← hAe]; exact Or.inr h
  have hS : va_S A s.heap s.heap [] := va_S.rf
  have hP : va_P (dC, dI) cls [(h0, .inr (1, [.int 0, .null, .null, .int 0, .int 0, .int 0, .int 0, .null, .null, .int 0, .null, .null, .int 0, .null, .null, .null, .null, .int 0]))] s.heap := hP
  have hl := lv_entry ([.ref h0, .ref h1]) (n := 2) (Nat.le_of_ble_eq_true rfl)
  rw [lg_entry_eq]
  generalize (lg_sl ([.ref h0, .ref h1]) ++ List.replicate (2 - (lg_sl ([.ref h0, .ref h1])).length) Slot.unset).toArray = ls at hl ⊢
  have hl : lv_has ls 2 [(0, .ref h0), (1, .ref h1)] := hl
  refine lv_aload_n hx hb dX7_init_0 rfl (lv_at hl 0 rfl) ?_
  refine W.objInit hx hb hown (hts _ qw16) (hts _ qw1) (hts _ qw_oi) rfl (by rw [hml]; exact hl.1) rfl dX7_init_1 (Nat.le_of_ble_eq_true rfl) (Nat.le_of_ble_eq_true rfl) ?_
  refine W.eq (g2 := F0 m 4 ls []) rfl ?_
  refine lv_aload_n hx hb dX7_init_4 rfl (lv_at hl 0 rfl) ?_
  refine lv_sipush (v := 320) hx hb dX7_init_5 (by decide) ?_
  refine va_newa (atype := .long) (ty := .long) hx hb (hts _ qw5) rfl hK hP hD hS hA (a0 := (320, .inr <| .inl (fun _ => 0))) (fun _ => rfl) (by decide) (by decide +kernel) (Nat.le_of_ble_eq_true rfl) (Nat.le_of_ble_eq_true rfl) (Nat.le_of_ble_eq_true rfl) dX7_init_8 (fun q1 c2 H hK hP hD hS => ?_)
  have hP : va_P (dC, dI) cls [(h0, .inr (1, [.int 0, .null, .null, .int 0, .int 0, .int 0, .int 0, .null, .null, .int 0, .null, .null, .int 0, .null, .null, .null, .null, .int 0])), (q1, .inl (c2, 320, .inr (.inl (fun _ => 0))))] H := hP
  have hD : va_D A [(h0, .inr (1, [.int 0, .null, .null, .int 0, .int 0, .int 0, .int 0, .null, .null, .int 0, .null, .null, .int 0, .null, .null, .null, .null, .int 0])), (q1, .inl (c2, 320, .inr (.inl (fun _ => 0))))] := hD
  have hK : va_K (dC, dI) cls [(c2, .long)] s := hK
  have hP : va_P (dC, dI) cls [(h0, .inr (1, [.int 0, .null, .null, .int 0, .int 0, .int 0, .int 0, .null, .null, .int 0, .null, .null, .int 0, .null, .null, .null, .null, .int 0]))] H := hP.sub [0] rfl
  have hD : va_D A [(h0, .inr (1, [.int 0, .null, .null, .int 0, .int 0, .int 0, .int 0, .null, .null, .int 0, .null, .null, .int 0, .null, .null, .null, .null, .int 0]))] := hD.sub [0] (by decide) rfl
  have hK : va_K (dC, dI) cls [] s := hK.sub [] rfl
  refine W.widen (k := 1) (n := 320) (Nat.le_of_ble_eq_true rfl) (Nat.le_of_ble_eq_true rfl) ?_
  refine va_putF (D := (dC, dI)) (ci := 1) (v := .ref q1) (ty := .array .long) (C := RX7) (T := TX7) (N := 18) hx hb hts i_X7 tyX7 tyX7_ok nmX7 hown hK hP hD hS 0 rfl rfl 7 (by decide) (hts _ qw17) (fun _ h9 => h9) rfl hin rfl (by decide +kernel) rfl rfl (Nat.le_of_ble_eq_true rfl) dX7_init_10 (fun H locs hP hD hS => ?_)
  have hP : va_P (dC, dI) cls [(h0, .inr (1, [.int 0, .null, .null, .int 0, .int 0, .int 0, .int 0, .ref q1, .null, .int 0, .null, .null, .int 0, .null, .null, .null, .null, .int 0]))] H := hP
  have hD : va_D A [(h0, .inr (1, [.int 0, .null, .null, .int 0, .int 0, .int 0, .int 0, .ref q1, .null, .int 0, .null, .null, .int 0, .null, .null, .null, .null, .int 0]))] := hD
  refine lv_aload_n hx hb dX7_init_13 rfl (lv_at hl 0 rfl) ?_
  refine lv_sipush (v := 320) hx hb dX7_init_14 (by decide) ?_
  refine va_newa (atype := .int) (ty := .int) hx hb (hts _ qw2) rfl hK hP hD hS hA (a0 := (320, .inl (fun _ => 0))) (fun _ => rfl) (by decide) (by decide +kernel) (Nat.le_of_ble_eq_true rfl) (Nat.le_of_ble_eq_true rfl) (Nat.le_of_ble_eq_true rfl) dX7_init_17 (fun q3 c4 H hK hP hD hS => ?_)
  have hP : va_P (dC, dI) cls [(h0, .inr (1, [.int 0, .null, .null, .int 0, .int 0, .int 0, .int 0, .ref q1, .null, .int 0, .null, .null, .int 0, .null, .null, .null, .null, .int 0])), (q3, .inl (c4, 320, .inl (fun _ => 0)))] H := hP
  have hD : va_D A [(h0, .inr (1, [.int 0, .null, .null, .int 0, .int 0, .int 0, .int 0, .ref q1, .null, .int 0, .null, .null, .int 0, .null, .null, .null, .null, .int 0])), (q3, .inl (c4, 320, .inl (fun _ => 0)))] := hD
  have hK : va_K (dC, dI) cls [(c4, .int)] s := hK
  have hP : va_P (dC, dI) cls [(h0, .inr (1, [.int 0, .null, .null, .int 0, .int 0, .int 0, .int 0, .ref q1, .null, .int 0, .null, .null, .int 0, .null, .null, .null, .null, .int 0]))] H := hP.sub [0] rfl
  have hD : va_D A [(h0, .inr (1, [.int 0, .null, .null, .int 0, .int 0, .int 0, .int 0, .ref q1, .null, .int 0, .null, .null, .int 0, .null, .null, .null, .null, .int 0]))] := hD.sub [0] (by decide) rfl
  have hK : va_K (dC, dI) cls [] s := hK.sub [] rfl
  refine W.widen (k := 2) (n := 640) (Nat.le_of_ble_eq_true rfl) (Nat.le_of_ble_eq_true rfl) ?_
  refine va_putF (D := (dC, dI)) (ci := 1) (v := .ref q3) (ty := .array .int) (C := RX7) (T := TX7) (N := 18) hx hb hts i_X7 tyX7 tyX7_ok nmX7 hown hK hP hD hS 0 rfl rfl 8 (by decide) (hts _ qw18) (fun _ h9 => h9) rfl hin rfl (by decide +kernel) rfl rfl (Nat.le_of_ble_eq_true rfl) dX7_init_19 (fun H locs hP hD hS => ?_)
  have hP : va_P (dC, dI) cls [(h0, .inr (1, [.int 0, .null, .null, .int 0, .int 0, .int 0, .int 0, .ref q1, .ref q3, .int 0, .null, .null, .int 0, .null, .null, .null, .null, .int 0]))] H := hP
  have hD : va_D A [(h0, .inr (1, [.int 0, .null, .null, .int 0, .int 0, .int 0, .int 0, .ref q1, .ref q3, .int 0, .null, .null, .int 0, .null, .null, .null, .null, .int 0]))] := hD
  refine lv_aload_n hx hb dX7_init_22 rfl (lv_at hl 0 rfl) ?_
  refine lv_bipush (v := 9) hx hb dX7_init_23 (by decide) ?_
  refine va_newa (atype := .int) (ty := .int) hx hb (hts _ qw2) rfl hK hP hD hS hA (a0 := (9, .inl (fun _ => 0))) (fun _ => rfl) (by decide) (by decide +kernel) (Nat.le_of_ble_eq_true rfl) (Nat.le_of_ble_eq_true rfl) (Nat.le_of_ble_eq_true rfl) dX7_init_25 (fun q5 c6 H hK hP hD hS => ?_)
  have hP : va_P (dC, dI) cls [(h0, .inr (1, [.int 0, .null, .null, .int 0, .int 0, .int 0, .int 0, .ref q1, .ref q3, .int 0, .null, .null, .int 0, .null, .null, .null, .null, .int 0])), (q5, .inl (c6, 9, .inl (fun _ => 0)))] H := hP
  have hD : va_D A [(h0, .inr (1, [.int 0, .null, .null, .int 0, .int 0, .int 0, .int 0, .ref q1, .ref q3, .int 0, .null, .null, .int 0, .null, .null, .null, .null, .int 0])), (q5, .inl (c6, 9, .inl (fun _ => 0)))] := hD
  have hK : va_K (dC, dI) cls [(c6, .int)] s := hK
  have hP : va_P (dC, dI) cls [(h0, .inr (1, [.int 0, .null, .null, .int 0, .int 0, .int 0, .int 0, .ref q1, .ref q3, .int 0, .null, .null, .int 0, .null, .null, .null, .null, .int 0]))] H := hP.sub [0] rfl
  have hD : va_D A [(h0, .inr (1, [.int 0, .null, .null, .int 0, .int 0, .int 0, .int 0, .ref q1, .ref q3, .int 0, .null, .null, .int 0, .null, .null, .null, .null, .int 0]))] := hD.sub [0] (by decide) rfl
  have hK : va_K (dC, dI) cls [] s := hK.sub [] rfl
  refine W.widen (k := 3) (n := 649) (Nat.le_of_ble_eq_true rfl) (Nat.le_of_ble_eq_true rfl) ?_
  refine va_putF (D := (dC, dI)) (ci := 1) (v := .ref q5) (ty := .array .int) (C := RX7) (T := TX7) (N := 18) hx hb hts i_X7 tyX7 tyX7_ok nmX7 hown hK hP hD hS 0 rfl rfl 10 (by decide) (hts _ qw19) (fun _ h9 => h9) rfl hin rfl (by decide +kernel) rfl rfl (Nat.le_of_ble_eq_true rfl) dX7_init_27 (fun H locs hP hD hS => ?_)
  have hP : va_P (dC, dI) cls [(h0, .inr (1, [.int 0, .null, .null, .int 0, .int 0, .int 0, .int 0, .ref q1, .ref q3, .int 0, .ref q5, .null, .int 0, .null, .null, .null, .null, .int 0]))] H := hP
  have hD : va_D A [(h0, .inr (1, [.int 0, .null, .null, .int 0, .int 0, .int 0, .int 0, .ref q1, .ref q3, .int 0, .ref q5, .null, .int 0, .null, .null, .null, .null, .int 0]))] := hD
  refine lv_aload_n hx hb dX7_init_30 rfl (lv_at hl 0 rfl) ?_
  refine lv_bipush (v := 9) hx hb dX7_init_31 (by decide) ?_
  refine va_newa (atype := .int) (ty := .int) hx hb (hts _ qw2) rfl hK hP hD hS hA (a0 := (9, .inl (fun _ => 0))) (fun _ => rfl) (by decide) (by decide +kernel) (Nat.le_of_ble_eq_true rfl) (Nat.le_of_ble_eq_true rfl) (Nat.le_of_ble_eq_true rfl) dX7_init_33 (fun q7 c8 H hK hP hD hS => ?_)
  have hP : va_P (dC, dI) cls [(h0, .inr (1, [.int 0, .null, .null, .int 0, .int 0, .int 0, .int 0, .ref q1, .ref q3, .int 0, .ref q5, .null, .int 0, .null, .null, .null, .null, .int 0])), (q7, .inl (c8, 9, .inl (fun _ => 0)))] H := hP
  have hD : va_D A [(h0, .inr (1, [.int 0, .null, .null, .int 0, .int 0, .int 0, .int 0, .ref q1, .ref q3, .int 0, .ref q5, .null, .int 0, .null, .null, .null, .null, .int 0])), (q7, .inl (c8, 9, .inl (fun _ => 0)))] := hD
  have hK : va_K (dC, dI) cls [(c8, .int)] s := hK
  have hP : va_P (dC, dI) cls [(h0, .inr (1, [.int 0, .null, .null, .int 0, .int 0, .int 0, .int 0, .ref q1, .ref q3, .int 0, .ref q5, .null, .int 0, .null, .null, .null, .null, .int 0]))] H := hP.sub [0] rfl
  have hD : va_D A [(h0, .inr (1, [.int 0, .null, .null, .int 0, .int 0, .int 0, .int 0, .ref q1, .ref q3, .int 0, .ref q5, .null, .int 0, .null, .null, .null, .null, .int 0]))] := hD.sub [0] (by decide) rfl
  have hK : va_K (dC, dI) cls [] s := hK.sub [] rfl
  refine W.widen (k := 4) (n := 658) (Nat.le_of_ble_eq_true rfl) (Nat.le_of_ble_eq_true rfl) ?_
  refine va_putF (D := (dC, dI)) (ci := 1) (v := .ref q7) (ty := .array .int) (C := RX7) (T := TX7) (N := 18) hx hb hts i_X7 tyX7 tyX7_ok nmX7 hown hK hP hD hS 0 rfl rfl 11 (by decide) (hts _ qw20) (fun _ h9 => h9) rfl hin rfl (by decide +kernel) rfl rfl (Nat.le_of_ble_eq_true rfl) dX7_init_35 (fun H locs hP hD hS => ?_)
  have hP : va_P (dC, dI) cls [(h0, .inr (1, [.int 0, .null, .null, .int 0, .int 0, .int 0, .int 0, .ref q1, .ref q3, .int 0, .ref q5, .ref q7, .int 0, .null, .null, .null, .null, .int 0]))] H := hP
  have hD : va_D A [(h0, .inr (1, [.int 0, .null, .null, .int 0, .int 0, .int 0, .int 0, .ref q1, .ref q3, .int 0, .ref q5, .ref q7, .int 0, .null, .null, .null, .null, .int 0]))] := hD
  refine lv_aload_n hx hb dX7_init_38 rfl (lv_at hl 0 rfl) ?_
  refine lv_sipush (v := 600) hx hb dX7_init_39 (by decide) ?_
  refine va_newa (atype := .long) (ty := .long) hx hb (hts _ qw5) rfl hK hP hD hS hA (a0 := (600, .inr <| .inl (fun _ => 0))) (fun _ => rfl) (by decide) (by decide +kernel) (Nat.le_of_ble_eq_true rfl) (Nat.le_of_ble_eq_true rfl) (Nat.le_of_ble_eq_true rfl) dX7_init_42 (fun q9 c10 H hK hP hD hS => ?_)
  have hP : va_P (dC, dI) cls [(h0, .inr (1, [.int 0, .null, .null, .int 0, .int 0, .int 0, .int 0, .ref q1, .ref q3, .int 0, .ref q5, .ref q7, .int 0, .null, .null, .null, .null, .int 0])), (q9, .inl (c10, 600, .inr (.inl (fun _ => 0))))] H := hP
  have hD : va_D A [(h0, .inr (1, [.int 0, .null, .null, .int 0, .int 0, .int 0, .int 0, .ref q1, .ref q3, .int 0, .ref q5, .ref q7, .int 0, .null, .null, .null, .null, .int 0])), (q9, .inl (c10, 600, .inr (.inl (fun _ => 0))))] := hD
  have hK : va_K (dC, dI) cls [(c10, .long)] s := hK
  have hP : va_P (dC, dI) cls [(h0, .inr (1, [.int 0, .null, .null, .int 0, .int 0, .int 0, .int 0, .ref q1, .ref q3, .int 0, .ref q5, .ref q7, .int 0, .null, .null, .null, .null, .int 0]))] H := hP.sub [0] rfl
  have hD : va_D A [(h0, .inr (1, [.int 0, .null, .null, .int 0, .int 0, .int 0, .int 0, .ref q1, .ref q3, .int 0, .ref q5, .ref q7, .int 0, .null, .null, .null, .null, .int 0]))] := hD.sub [0] (by decide) rfl
  have hK : va_K (dC, dI) cls [] s := hK.sub [] rfl
  refine W.widen (k := 5) (n := 1258) (Nat.le_of_ble_eq_true rfl) (Nat.le_of_ble_eq_true rfl) ?_
  refine va_putF (D := (dC, dI)) (ci := 1) (v := .ref q9) (ty := .array .long) (C := RX7) (T := TX7) (N := 18) hx hb hts i_X7 tyX7 tyX7_ok nmX7 hown hK hP hD hS 0 rfl rfl 13 (by decide) (hts _ qw21) (fun _ h9 => h9) rfl hin rfl (by decide +kernel) rfl rfl (Nat.le_of_ble_eq_true rfl) dX7_init_44 (fun H locs hP hD hS => ?_)
  have hP : va_P (dC, dI) cls [(h0, .inr (1, [.int 0, .null, .null, .int 0, .int 0, .int 0, .int 0, .ref q1, .ref q3, .int 0, .ref q5, .ref q7, .int 0, .ref q9, .null, .null, .null, .int 0]))] H := hP
  have hD : va_D A [(h0, .inr (1, [.int 0, .null, .null, .int 0, .int 0, .int 0, .int 0, .ref q1, .ref q3, .int 0, .ref q5, .ref q7, .int 0, .ref q9, .null, .null, .null, .int 0]))] := hD
  refine lv_aload_n hx hb dX7_init_47 rfl (lv_at hl 0 rfl) ?_
  refine lv_sipush (v := 600) hx hb dX7_init_48 (by decide) ?_
  refine va_newa (atype := .int) (ty := .int) hx hb (hts _ qw2) rfl hK hP hD hS hA (a0 := (600, .inl (fun _ => 0))) (fun _ => rfl) (by decide) (by decide +kernel) (Nat.le_of_ble_eq_true rfl) (Nat.le_of_ble_eq_true rfl) (Nat.le_of_ble_eq_true rfl) dX7_init_51 (fun q11 c12 H hK hP hD hS => ?_)
  have hP : va_P (dC, dI) cls [(h0, .inr (1, [.int 0, .null, .null, .int 0, .int 0, .int 0, .int 0, .ref q1, .ref q3, .int 0, .ref q5, .ref q7, .int 0, .ref q9, .null, .null, .null, .int 0])), (q11, .inl (c12, 600, .inl (fun _ => 0)))] H := hP
  have hD : va_D A [(h0, .inr (1, [.int 0, .null, .null, .int 0, .int 0, .int 0, .int 0, .ref q1, .ref q3, .int 0, .ref q5, .ref q7, .int 0, .ref q9, .null, .null, .null, .int 0])), (q11, .inl (c12, 600, .inl (fun _ => 0)))] := hD
  have hK : va_K (dC, dI) cls [(c12, .int)] s := hK
  have hP : va_P (dC, dI) cls [(h0, .inr (1, [.int 0, .null, .null, .int 0, .int 0, .int 0, .int 0, .ref q1, .ref q3, .int 0, .ref q5, .ref q7, .int 0, .ref q9, .null, .null, .null, .int 0]))] H := hP.sub [0] rfl
  have hD : va_D A [(h0, .inr (1, [.int 0, .null, .null, .int 0, .int 0, .int 0, .int 0, .ref q1, .ref q3, .int 0, .ref q5, .ref q7, .int 0, .ref q9, .null, .null, .null, .int 0]))] := hD.sub [0] (by decide) rfl
  have hK : va_K (dC, dI) cls [] s := hK.sub [] rfl
  refine W.widen (k := 6) (n := 1858) (Nat.le_of_ble_eq_true rfl) (Nat.le_of_ble_eq_true rfl) ?_
  refine va_putF (D := (dC, dI)) (ci := 1) (v := .ref q11) (ty := .array .int) (C := RX7) (T := TX7) (N := 18) hx hb hts i_X7 tyX7 tyX7_ok nmX7 hown hK hP hD hS 0 rfl rfl 14 (by decide) (hts _ qw22) (fun _ h9 => h9) rfl hin rfl (by decide +kernel) rfl rfl (Nat.le_of_ble_eq_true rfl) dX7_init_53 (fun H locs hP hD hS => ?_)
  have hP : va_P (dC, dI) cls [(h0, .inr (1, [.int 0, .null, .null, .int 0, .int 0, .int 0, .int 0, .ref q1, .ref q3, .int 0, .ref q5, .ref q7, .int 0, .ref q9, .ref q11, .null, .null, .int 0]))] H := hP
  have hD : va_D A [(h0, .inr (1, [.int 0, .null, .null, .int 0, .int 0, .int 0, .int 0, .ref q1, .ref q3, .int 0, .ref q5, .ref q7, .int 0, .ref q9, .ref q11, .null, .null, .int 0]))] := hD
  refine lv_aload_n hx hb dX7_init_56 rfl (lv_at hl 0 rfl) ?_
  refine lv_sipush (v := 600) hx hb dX7_init_57 (by decide) ?_
  refine va_newa (atype := .int) (ty := .int) hx hb (hts _ qw2) rfl hK hP hD hS hA (a0 := (600, .inl (fun _ => 0))) (fun _ => rfl) (by decide) (by decide +kernel) (Nat.le_of_ble_eq_true rfl) (Nat.le_of_ble_eq_true rfl) (Nat.le_of_ble_eq_true rfl) dX7_init_60 (fun q13 c14 H hK hP hD hS => ?_)
  have hP : va_P (dC, dI) cls [(h0, .inr (1, [.int 0, .null, .null, .int 0, .int 0, .int 0, .int 0, .ref q1, .ref q3, .int 0, .ref q5, .ref q7, .int 0, .ref q9, .ref q11, .null, .null, .int 0])), (q13, .inl (c14, 600, .inl (fun _ => 0)))] H := hP
  have hD : va_D A [(h0, .inr (1, [.int 0, .null, .null, .int 0, .int 0, .int 0, .int 0, .ref q1, .ref q3, .int 0, .ref q5, .ref q7, .int 0, .ref q9, .ref q11, .null, .null, .int 0])), (q13, .inl (c14, 600, .inl (fun _ => 0)))] := hD
  have hK : va_K (dC, dI) cls [(c14, .int)] s := hK
  have hP : va_P (dC, dI) cls [(h0, .inr (1, [.int 0, .null, .null, .int 0, .int 0, .int 0, .int 0, .ref q1, .ref q3, .int 0, .ref q5, .ref q7, .int 0, .ref q9, .ref q11, .null, .null, .int 0]))] H := hP.sub [0] rfl
  have hD : va_D A [(h0, .inr (1, [.int 0, .null, .null, .int 0, .int 0, .int 0, .int 0, .ref q1, .ref q3, .int 0, .ref q5, .ref q7, .int 0, .ref q9, .ref q11, .null, .null, .int 0]))] := hD.sub [0] (by decide) rfl
  have hK : va_K (dC, dI) cls [] s := hK.sub [] rfl
  refine W.widen (k := 7) (n := 2458) (Nat.le_of_ble_eq_true rfl) (Nat.le_of_ble_eq_true rfl) ?_
  refine va_putF (D := (dC, dI)) (ci := 1) (v := .ref q13) (ty := .array .int) (C := RX7) (T := TX7) (N := 18) hx hb hts i_X7 tyX7 tyX7_ok nmX7 hown hK hP hD hS 0 rfl rfl 15 (by decide) (hts _ qw23) (fun _ h9 => h9) rfl hin rfl (by decide +kernel) rfl rfl (Nat.le_of_ble_eq_true rfl) dX7_init_62 (fun H locs hP hD hS => ?_)
  have hP : va_P (dC, dI) cls [(h0, .inr (1, [.int 0, .null, .null, .int 0, .int 0, .int 0, .int 0, .ref q1, .ref q3, .int 0, .ref q5, .ref q7, .int 0, .ref q9, .ref q11, .ref q13, .null, .int 0]))] H := hP
  have hD : va_D A [(h0, .inr (1, [.int 0, .null, .null, .int 0, .int 0, .int 0, .int 0, .ref q1, .ref q3, .int 0, .ref q5, .ref q7, .int 0, .ref q9, .ref q11, .ref q13, .null, .int 0]))] := hD
  refine lv_aload_n hx hb dX7_init_65 rfl (lv_at hl 0 rfl) ?_
  refine lv_sipush (v := 600) hx hb dX7_init_66 (by decide) ?_
  refine va_newa (atype := .int) (ty := .int) hx hb (hts _ qw2) rfl hK hP hD hS hA (a0 := (600, .inl (fun _ => 0))) (fun _ => rfl) (by decide) (by decide +kernel) (Nat.le_of_ble_eq_true rfl) (Nat.le_of_ble_eq_true rfl) (Nat.le_of_ble_eq_true rfl) dX7_init_69 (fun q15 c16 H hK hP hD hS => ?_)
  have hP : va_P (dC, dI) cls [(h0, .inr (1, [.int 0, .null, .null, .int 0, .int 0, .int 0, .int 0, .ref q1, .ref q3, .int 0, .ref q5, .ref q7, .int 0, .ref q9, .ref q11, .ref q13, .null, .int 0])), (q15, .inl (c16, 600, .inl (fun _ => 0)))] H := hP
  have hD : va_D A [(h0, .inr (1, [.int 0, .null, .null, .int 0, .int 0, .int 0, .int 0, .ref q1, .ref q3, .int 0, .ref q5, .ref q7, .int 0, .ref q9, .ref q11, .ref q13, .null, .int 0])), (q15, .inl (c16, 600, .inl (fun _ => 0)))] := hD
  have hK : va_K (dC, dI) cls [(c16, .int)] s := hK
  have hP : va_P (dC, dI) cls [(h0, .inr (1, [.int 0, .null, .null, .int 0, .int 0, .int 0, .int 0, .ref q1, .ref q3, .int 0, .ref q5, .ref q7, .int 0, .ref q9, .ref q11, .ref q13, .null, .int 0]))] H := hP.sub [0] rfl
  have hD : va_D A [(h0, .inr (1, [.int 0, .null, .null, .int 0, .int 0, .int 0, .int 0, .ref q1, .ref q3, .int 0, .ref q5, .ref q7, .int 0, .ref q9, .ref q11, .ref q13, .null, .int 0]))] := hD.sub [0] (by decide) rfl
  have hK : va_K (dC, dI) cls [] s := hK.sub [] rfl
  refine W.widen (k := 8) (n := 3058) (Nat.le_of_ble_eq_true rfl) (Nat.le_of_ble_eq_true rfl) ?_
  refine va_putF (D := (dC, dI)) (ci := 1) (v := .ref q15) (ty := .array .int) (C := RX7) (T := TX7) (N := 18) hx hb hts i_X7 tyX7 tyX7_ok nmX7 hown hK hP hD hS 0 rfl rfl 16 (by decide) (hts _ qw24) (fun _ h9 => h9) rfl hin rfl (by decide +kernel) rfl rfl (Nat.le_of_ble_eq_true rfl) dX7_init_71 (fun H locs hP hD hS => ?_)
  have hP : va_P (dC, dI) cls [(h0, .inr (1, [.int 0, .null, .null, .int 0, .int 0, .int 0, .int 0, .ref q1, .ref q3, .int 0, .ref q5, .ref q7, .int 0, .ref q9, .ref q11, .ref q13, .ref q15, .int 0]))] H := hP
  have hD : va_D A [(h0, .inr (1, [.int 0, .null, .null, .int 0, .int 0, .int 0, .int 0, .ref q1, .ref q3, .int 0, .ref q5, .ref q7, .int 0, .ref q9, .ref q11, .ref q13, .ref q15, .int 0]))] := hD
  refine lv_aload_n hx hb dX7_init_74 rfl (lv_at hl 0 rfl) ?_
  refine lv_aload_n hx hb dX7_init_75 rfl (lv_at hl 1 rfl) ?_
  refine va_putF (D := (dC, dI)) (ci := 1) (v := .ref h1) (ty := .object "Gearbox$Tokens") (C := RX7) (T := TX7) (N := 18) hx hb hts i_X7 tyX7 tyX7_ok nmX7 hown hK hP hD hS 0 rfl rfl 1 (by decide) (hts _ qw25) (fun _ h9 => h9) rfl hin rfl (by decide +kernel) rfl rfl (Nat.le_of_ble_eq_true rfl) dX7_init_76 (fun H locs hP hD hS => ?_)
  have hP : va_P (dC, dI) cls [(h0, .inr (1, [.int 0, .ref h1, .null, .int 0, .int 0, .int 0, .int 0, .ref q1, .ref q3, .int 0, .ref q5, .ref q7, .int 0, .ref q9, .ref q11, .ref q13, .ref q15, .int 0]))] H := hP
  have hD : va_D A [(h0, .inr (1, [.int 0, .ref h1, .null, .int 0, .int 0, .int 0, .int 0, .ref q1, .ref q3, .int 0, .ref q5, .ref q7, .int 0, .ref q9, .ref q11, .ref q13, .ref q15, .int 0]))] := hD
  have hP9 : va_P (dC, dI) cls [(h0, .inr (1, [.int 0, .ref h1, .null, .int 0, .int 0, .int 0, .int 0, .ref q1, .ref q3, .int 0, .ref q5, .ref q7, .int 0, .ref q9, .ref q11, .ref q13, .ref q15, .int 0]))] H := hP.sub [0] rfl
  have hD9 : va_D A [(h0, .inr (1, [.int 0, .ref h1, .null, .int 0, .int 0, .int 0, .int 0, .ref q1, .ref q3, .int 0, .ref q5, .ref q7, .int 0, .ref q9, .ref q11, .ref q13, .ref q15, .int 0]))] := hD.sub [0] (by decide) rfl
  have hK9 : va_K (dC, dI) cls [] s := hK.sub [] rfl
  exact W.vret hx hb hr (fun t ht hW => ⟨⟨(), rfl, trivial, ⟨q1, q3, q5, q7, q9, q11, q13, q15, ⟨by rw [ht]; exact hP9, va_K.moved hW.alike hK9, hD9⟩⟩⟩, hS.F ht⟩) hS.2.2 dX7_init_79
set_option maxHeartbeats 4000000 in
set_option maxRecDepth 100000 in
theorem kX9_init {zs : Nat × Nat} (l : Launch) (dC : Nat → ClassId) (dI : Nat → Nat → Nat) (h0 : Nat) (sz : Nat)  : Met l yX9_init (wz yX9_init cX9_init 2 (Option.none : Option Jvm.ClassFile.FieldType)) ({ frames := 1, cells := 5, slots := 1280, locals := 12 }) (va_Pc [.ref h0, .int 256] (PRE zs dC dI [(h0, .inr (3, [.int 0, .null, .null, .null, .null, .null]))] [] sz)) (va_Qv (fun (_ : Unit) => True) (fun _ t => ∃ (q1 : Nat), ∃ (q3 : Nat), ∃ (q5 : Nat), ∃ (q7 : Nat), ∃ (q9 : Nat), POST dC dI [(h0, .inr (3, [.int 0, .ref q1, .ref q3, .ref q5, .ref q7, .ref q9]))] [] (va_A [(h0, .inr (3, [.int 0, .null, .null, .null, .null, .null]))] sz) t) (va_A [(h0, .inr (3, [.int 0, .null, .null, .null, .null, .null]))] sz)) 5 1280 (va_A [(h0, .inr (3, [.int 0, .null, .null, .null, .null, .null]))] sz) := by
  refine Met.ofW (cc := cX9_init) (maxL := 2) (ret := (Option.none : Option Jvm.ClassFile.FieldType)) (by decide) rfl ?_
  intro p e s m args below meth c s₁ B hml hv
  obtain ⟨rfl, hsz, hP, hK, hD0, hE⟩ := hv
  have hx := B.exec
  have hb := B.bytes
  have hr := B.returns
  have hts0 := atoms_spec (ws := wz yX9_init cX9_init 2 (Option.none : Option Jvm.ClassFile.FieldType)) B.pre
  have hts : ∀ w ∈ gw, w.before _ s = true := fun w h => hts0 w (List.mem_cons_of_mem _ h)
  have hown : s.vm.findClass RX9 = some m.cls := findClass_of_methodNamed B.named
  have hlocks := B.notSynchronized
  have hin : meth.name = "<init>" := (name_of_methodNamed B.named B.method).1
  subst hsz
  have hD := hD0.self (sz := s.heap.size)
  generalize hAe : va_A [(h0, .inr (3, [.int 0, .null, .null, .null, .null, .null]))] s.heap.size = A at hD hE ⊢
  have hA : ∀ q : Nat, s.heap.size ≤ q → A q := fun q h => by rw [← hAe]; exact Or.inr h
  have hS : va_S A s.heap s.heap [] := va_S.rf
  have hP : va_P (dC, dI) cls [(h0, .inr (3, [.int 0, .null, .null, .null, .null, .null]))] s.heap := hP
  have hl := lv_entry ([.ref h0, .int 256]) (n := 2) (Nat.le_of_ble_eq_true rfl)
  rw [lg_entry_eq]
  generalize (lg_sl ([.ref h0, .int 256]) ++ List.replicate (2 - (lg_sl ([.ref h0, .int 256])).length) Slot.unset).toArray = ls at hl ⊢
  have hl : lv_has ls 2 [(0, .ref h0), (1, .int 256)] := hl
  refine lv_aload_n hx hb dX9_init_0 rfl (lv_at hl 0 rfl) ?_
  refine W.objInit hx hb hown (hts _ qw26) (hts _ qw1) (hts _ qw_oi) rfl (by rw [hml]; exact hl.1) rfl dX9_init_1 (Nat.le_of_ble_eq_true rfl) (Nat.le_of_ble_eq_true rfl) ?_
  refine W.eq (g2 := F0 m 4 ls []) rfl ?_
  refine lv_aload_n hx hb dX9_init_4 rfl (lv_at hl 0 rfl) ?_
  refine lv_iload_n hx hb dX9_init_5 rfl (lv_at hl 1 rfl) ?_
  refine va_newa (atype := .int) (ty := .int) hx hb (hts _ qw2) rfl hK hP hD hS hA (a0 := (256, .inl (fun _ => 0))) (fun _ => rfl) (by decide) (by decide +kernel) (Nat.le_of_ble_eq_true rfl) (Nat.le_of_ble_eq_true rfl) (Nat.le_of_ble_eq_true rfl) dX9_init_6 (fun q1 c2 H hK hP hD hS => ?_)
  have hP : va_P (dC, dI) cls [(h0, .inr (3, [.int 0, .null, .null, .null, .null, .null])), (q1, .inl (c2, 256, .inl (fun _ => 0)))] H := hP
  have hD : va_D A [(h0, .inr (3, [.int 0, .null, .null, .null, .null, .null])), (q1, .inl (c2, 256, .inl (fun _ => 0)))] := hD
  have hK : va_K (dC, dI) cls [(c2, .int)] s := hK
  have hP : va_P (dC, dI) cls [(h0, .inr (3, [.int 0, .null, .null, .null, .null, .null]))] H := hP.sub [0] rfl
  have hD : va_D A [(h0, .inr (3, [.int 0, .null, .null, .null, .null, .null]))] := hD.sub [0] (by decide) rfl
  have hK : va_K (dC, dI) cls [] s := hK.sub [] rfl
  refine W.widen (k := 1) (n := 256) (Nat.le_of_ble_eq_true rfl) (Nat.le_of_ble_eq_true rfl) ?_
  refine va_put (D := (dC, dI)) (ci := 3) (v := .ref q1) (ty := .array .int) (C := RX9) (T := TX9) (N := 6) hx hb hts i_X9 tyX9 tyX9_ok nmX9 hown hK hP hD hS 0 rfl rfl 1 (by decide) (hts _ qw27) (fun _ h9 => h9) rfl (by decide +kernel) rfl rfl (Nat.le_of_ble_eq_true rfl) dX9_init_8 (fun H locs hP hD hS => ?_)
  have hP : va_P (dC, dI) cls [(h0, .inr (3, [.int 0, .ref q1, .null, .null, .null, .null]))] H := hP
  have hD : va_D A [(h0, .inr (3, [.int 0, .ref q1, .null, .null, .null, .null]))] := hD
  refine lv_aload_n hx hb dX9_init_11 rfl (lv_at hl 0 rfl) ?_
  refine lv_iload_n hx hb dX9_init_12 rfl (lv_at hl 1 rfl) ?_
  refine va_newa (atype := .int) (ty := .int) hx hb (hts _ qw2) rfl hK hP hD hS hA (a0 := (256, .inl (fun _ => 0))) (fun _ => rfl) (by decide) (by decide +kernel) (Nat.le_of_ble_eq_true rfl) (Nat.le_of_ble_eq_true rfl) (Nat.le_of_ble_eq_true rfl) dX9_init_13 (fun q3 c4 H hK hP hD hS => ?_)
  have hP : va_P (dC, dI) cls [(h0, .inr (3, [.int 0, .ref q1, .null, .null, .null, .null])), (q3, .inl (c4, 256, .inl (fun _ => 0)))] H := hP
  have hD : va_D A [(h0, .inr (3, [.int 0, .ref q1, .null, .null, .null, .null])), (q3, .inl (c4, 256, .inl (fun _ => 0)))] := hD
  have hK : va_K (dC, dI) cls [(c4, .int)] s := hK
  have hP : va_P (dC, dI) cls [(h0, .inr (3, [.int 0, .ref q1, .null, .null, .null, .null]))] H := hP.sub [0] rfl
  have hD : va_D A [(h0, .inr (3, [.int 0, .ref q1, .null, .null, .null, .null]))] := hD.sub [0] (by decide) rfl
  have hK : va_K (dC, dI) cls [] s := hK.sub [] rfl
  refine W.widen (k := 2) (n := 512) (Nat.le_of_ble_eq_true rfl) (Nat.le_of_ble_eq_true rfl) ?_
  refine va_put (D := (dC, dI)) (ci := 3) (v := .ref q3) (ty := .array .int) (C := RX9) (T := TX9) (N := 6) hx hb hts i_X9 tyX9 tyX9_ok nmX9 hown hK hP hD hS 0 rfl rfl 2 (by decide) (hts _ qw28) (fun _ h9 => h9) rfl (by decide +kernel) rfl rfl (Nat.le_of_ble_eq_true rfl) dX9_init_15 (fun H locs hP hD hS => ?_)
  have hP : va_P (dC, dI) cls [(h0, .inr (3, [.int 0, .ref q1, .ref q3, .null, .null, .null]))] H := hP
  have hD : va_D A [(h0, .inr (3, [.int 0, .ref q1, .ref q3, .null, .null, .null]))] := hD
  refine lv_aload_n hx hb dX9_init_18 rfl (lv_at hl 0 rfl) ?_
  refine lv_iload_n hx hb dX9_init_19 rfl (lv_at hl 1 rfl) ?_
  refine va_newa (atype := .int) (ty := .int) hx hb (hts _ qw2) rfl hK hP hD hS hA (a0 := (256, .inl (fun _ => 0))) (fun _ => rfl) (by decide) (by decide +kernel) (Nat.le_of_ble_eq_true rfl) (Nat.le_of_ble_eq_true rfl) (Nat.le_of_ble_eq_true rfl) dX9_init_20 (fun q5 c6 H hK hP hD hS => ?_)
  have hP : va_P (dC, dI) cls [(h0, .inr (3, [.int 0, .ref q1, .ref q3, .null, .null, .null])), (q5, .inl (c6, 256, .inl (fun _ => 0)))] H := hP
  have hD : va_D A [(h0, .inr (3, [.int 0, .ref q1, .ref q3, .null, .null, .null])), (q5, .inl (c6, 256, .inl (fun _ => 0)))] := hD
  have hK : va_K (dC, dI) cls [(c6, .int)] s := hK
  have hP : va_P (dC, dI) cls [(h0, .inr (3, [.int 0, .ref q1, .ref q3, .null, .null, .null]))] H := hP.sub [0] rfl
  have hD : va_D A [(h0, .inr (3, [.int 0, .ref q1, .ref q3, .null, .null, .null]))] := hD.sub [0] (by decide) rfl
  have hK : va_K (dC, dI) cls [] s := hK.sub [] rfl
  refine W.widen (k := 3) (n := 768) (Nat.le_of_ble_eq_true rfl) (Nat.le_of_ble_eq_true rfl) ?_
  refine va_put (D := (dC, dI)) (ci := 3) (v := .ref q5) (ty := .array .int) (C := RX9) (T := TX9) (N := 6) hx hb hts i_X9 tyX9 tyX9_ok nmX9 hown hK hP hD hS 0 rfl rfl 3 (by decide) (hts _ qw29) (fun _ h9 => h9) rfl (by decide +kernel) rfl rfl (Nat.le_of_ble_eq_true rfl) dX9_init_22 (fun H locs hP hD hS => ?_)
  have hP : va_P (dC, dI) cls [(h0, .inr (3, [.int 0, .ref q1, .ref q3, .ref q5, .null, .null]))] H := hP
  have hD : va_D A [(h0, .inr (3, [.int 0, .ref q1, .ref q3, .ref q5, .null, .null]))] := hD
  refine lv_aload_n hx hb dX9_init_25 rfl (lv_at hl 0 rfl) ?_
  refine lv_iload_n hx hb dX9_init_26 rfl (lv_at hl 1 rfl) ?_
  refine va_newa (atype := .int) (ty := .int) hx hb (hts _ qw2) rfl hK hP hD hS hA (a0 := (256, .inl (fun _ => 0))) (fun _ => rfl) (by decide) (by decide +kernel) (Nat.le_of_ble_eq_true rfl) (Nat.le_of_ble_eq_true rfl) (Nat.le_of_ble_eq_true rfl) dX9_init_27 (fun q7 c8 H hK hP hD hS => ?_)
  have hP : va_P (dC, dI) cls [(h0, .inr (3, [.int 0, .ref q1, .ref q3, .ref q5, .null, .null])), (q7, .inl (c8, 256, .inl (fun _ => 0)))] H := hP
  have hD : va_D A [(h0, .inr (3, [.int 0, .ref q1, .ref q3, .ref q5, .null, .null])), (q7, .inl (c8, 256, .inl (fun _ => 0)))] := hD
  have hK : va_K (dC, dI) cls [(c8, .int)] s := hK
  have hP : va_P (dC, dI) cls [(h0, .inr (3, [.int 0, .ref q1, .ref q3, .ref q5, .null, .null]))] H := hP.sub [0] rfl
  have hD : va_D A [(h0, .inr (3, [.int 0, .ref q1, .ref q3, .ref q5, .null, .null]))] := hD.sub [0] (by decide) rfl
  have hK : va_K (dC, dI) cls [] s := hK.sub [] rfl
  refine W.widen (k := 4) (n := 1024) (Nat.le_of_ble_eq_true rfl) (Nat.le_of_ble_eq_true rfl) ?_
  refine va_put (D := (dC, dI)) (ci := 3) (v := .ref q7) (ty := .array .int) (C := RX9) (T := TX9) (N := 6) hx hb hts i_X9 tyX9 tyX9_ok nmX9 hown hK hP hD hS 0 rfl rfl 4 (by decide) (hts _ qw30) (fun _ h9 => h9) rfl (by decide +kernel) rfl rfl (Nat.le_of_ble_eq_true rfl) dX9_init_29 (fun H locs hP hD hS => ?_)
  have hP : va_P (dC, dI) cls [(h0, .inr (3, [.int 0, .ref q1, .ref q3, .ref q5, .ref q7, .null]))] H := hP
  have hD : va_D A [(h0, .inr (3, [.int 0, .ref q1, .ref q3, .ref q5, .ref q7, .null]))] := hD
  refine lv_aload_n hx hb dX9_init_32 rfl (lv_at hl 0 rfl) ?_
  refine lv_iload_n hx hb dX9_init_33 rfl (lv_at hl 1 rfl) ?_
  refine va_newa (atype := .int) (ty := .int) hx hb (hts _ qw2) rfl hK hP hD hS hA (a0 := (256, .inl (fun _ => 0))) (fun _ => rfl) (by decide) (by decide +kernel) (Nat.le_of_ble_eq_true rfl) (Nat.le_of_ble_eq_true rfl) (Nat.le_of_ble_eq_true rfl) dX9_init_34 (fun q9 c10 H hK hP hD hS => ?_)
  have hP : va_P (dC, dI) cls [(h0, .inr (3, [.int 0, .ref q1, .ref q3, .ref q5, .ref q7, .null])), (q9, .inl (c10, 256, .inl (fun _ => 0)))] H := hP
  have hD : va_D A [(h0, .inr (3, [.int 0, .ref q1, .ref q3, .ref q5, .ref q7, .null])), (q9, .inl (c10, 256, .inl (fun _ => 0)))] := hD
  have hK : va_K (dC, dI) cls [(c10, .int)] s := hK
  have hP : va_P (dC, dI) cls [(h0, .inr (3, [.int 0, .ref q1, .ref q3, .ref q5, .ref q7, .null]))] H := hP.sub [0] rfl
  have hD : va_D A [(h0, .inr (3, [.int 0, .ref q1, .ref q3, .ref q5, .ref q7, .null]))] := hD.sub [0] (by decide) rfl
  have hK : va_K (dC, dI) cls [] s := hK.sub [] rfl
  refine W.widen (k := 5) (n := 1280) (Nat.le_of_ble_eq_true rfl) (Nat.le_of_ble_eq_true rfl) ?_
  refine va_put (D := (dC, dI)) (ci := 3) (v := .ref q9) (ty := .array .int) (C := RX9) (T := TX9) (N := 6) hx hb hts i_X9 tyX9 tyX9_ok nmX9 hown hK hP hD hS 0 rfl rfl 5 (by decide) (hts _ qw31) (fun _ h9 => h9) rfl (by decide +kernel) rfl rfl (Nat.le_of_ble_eq_true rfl) dX9_init_36 (fun H locs hP hD hS => ?_)
  have hP : va_P (dC, dI) cls [(h0, .inr (3, [.int 0, .ref q1, .ref q3, .ref q5, .ref q7, .ref q9]))] H := hP
  have hD : va_D A [(h0, .inr (3, [.int 0, .ref q1, .ref q3, .ref q5, .ref q7, .ref q9]))] := hD
  have hP9 : va_P (dC, dI) cls [(h0, .inr (3, [.int 0, .ref q1, .ref q3, .ref q5, .ref q7, .ref q9]))] H := hP.sub [0] rfl
  have hD9 : va_D A [(h0, .inr (3, [.int 0, .ref q1, .ref q3, .ref q5, .ref q7, .ref q9]))] := hD.sub [0] (by decide) rfl
  have hK9 : va_K (dC, dI) cls [] s := hK.sub [] rfl
  exact W.vret hx hb hr (fun t ht hW => ⟨⟨(), rfl, trivial, ⟨q1, q3, q5, q7, q9, ⟨by rw [ht]; exact hP9, va_K.moved hW.alike hK9, hD9⟩⟩⟩, hS.F ht⟩) hS.2.2 dX9_init_39
set_option maxHeartbeats 4000000 in
set_option maxRecDepth 100000 in
theorem kX1_init {zs : Nat × Nat} (l : Launch) (dC : Nat → ClassId) (dI : Nat → Nat → Nat) (h0 : Nat) (sz : Nat)  : Met l yX1_init (wz yX1_init cX1_init 1 (Option.none : Option Jvm.ClassFile.FieldType)) ({ frames := 2, cells := 23, slots := 4171, locals := 33 }) (va_Pc [.ref h0] (PRE zs dC dI [(h0, .inr (4, [.int 0, .int 0, .null, .null, .null, .null, .null, .null, .null, .null, .null, .null, .null, .null, .null, .null, .null, .int 0, .null, .null, .null]))] [] sz)) (va_Qv (fun (_ : Unit) => True) (fun _ t => ∃ (q1 : Nat), ∃ (q7 : Nat), ∃ (q9 : Nat), ∃ (q11 : Nat), ∃ (q13 : Nat), ∃ (q15 : Nat), ∃ (q17 : Nat), ∃ (q19 : Nat), ∃ (q21 : Nat), ∃ (q23 : Nat), ∃ (q25 : Nat), ∃ (q27 : Nat), ∃ (q29 : Nat), ∃ (q31 : Nat), ∃ (q33 : Nat), ∃ (q35 : Nat), ∃ (q37 : Nat), ∃ (q39 : Nat), POST dC dI [(h0, .inr (4, [.int 0, .int 0, .ref q1, .ref q7, .ref q9, .ref q11, .ref q13, .ref q15, .ref q17, .ref q19, .ref q21, .ref q23, .ref q25, .ref q27, .ref q29, .ref q31, .ref q33, .int 0, .ref q35, .ref q37, .ref q39]))] [] (va_A [(h0, .inr (4, [.int 0, .int 0, .null, .null, .null, .null, .null, .null, .null, .null, .null, .null, .null, .null, .null, .null, .null, .int 0, .null, .null, .null]))] sz) t) (va_A [(h0, .inr (4, [.int 0, .int 0, .null, .null, .null, .null, .null, .null, .null, .null, .null, .null, .null, .null, .null, .null, .null, .int 0, .null, .null, .null]))] sz)) 23 4171 (va_A [(h0, .inr (4, [.int 0, .int 0, .null, .null, .null, .null, .null, .null, .null, .null, .null, .null, .null, .null, .null, .null, .null, .int 0, .null, .null, .null]))] sz) := by
  refine Met.ofW (cc := cX1_init) (maxL := 1) (ret := (Option.none : Option Jvm.ClassFile.FieldType)) (by decide) rfl ?_
  intro p e s m args below meth c s₁ B hml hv
  obtain ⟨rfl, hsz, hP, hK, hD0, hE⟩ := hv
  have hx := B.exec
  have hb := B.bytes
  have hr := B.returns
  have hts0 := atoms_spec (ws := wz yX1_init cX1_init 1 (Option.none : Option Jvm.ClassFile.FieldType)) B.pre
  have hts : ∀ w ∈ gw, w.before _ s = true := fun w h => hts0 w (List.mem_cons_of_mem _ h)
  have hown : s.vm.findClass RX1 = some m.cls := findClass_of_methodNamed B.named
  have hlocks := B.notSynchronized
  have hin : meth.name = "<init>" := (name_of_methodNamed B.named B.method).1
  subst hsz
  have hD := hD0.self (sz := s.heap.size)
  generalize hAe : va_A [(h0, .inr (4, [.int 0, .int 0, .null, .null, .null, .null, .null, .null, .null, .null, .null, .null, .null, .null, .null, .null, .null, .int 0, .null, .null, .null]))] s.heap.size = A at hD hE ⊢
  have hA : ∀ q : Nat, s.heap.size ≤ q → A q := fun q h => by rw [← hAe]; exact Or.inr h
  have hS : va_S A s.heap s.heap [] := va_S.rf
  have hP : va_P (dC, dI) cls [(h0, .inr (4, [.int 0, .int 0, .null, .null, .null, .null, .null, .null, .null, .null, .null, .null, .null, .null, .null, .null, .null, .int 0, .null, .null, .null]))] s.heap := hP
  have hl := lv_entry ([.ref h0]) (n := 1) (Nat.le_of_ble_eq_true rfl)
  rw [lg_entry_eq]
  generalize (lg_sl ([.ref h0]) ++ List.replicate (1 - (lg_sl ([.ref h0])).length) Slot.unset).toArray = ls at hl ⊢
  have hl : lv_has ls 1 [(0, .ref h0)] := hl
  refine lv_aload_n hx hb dX1_init_0 rfl (lv_at hl 0 rfl) ?_
  refine W.objInit hx hb hown (hts _ qw32) (hts _ qw1) (hts _ qw_oi) rfl (by rw [hml]; exact hl.1) rfl dX1_init_1 (Nat.le_of_ble_eq_true rfl) (Nat.le_of_ble_eq_true rfl) ?_
  refine W.eq (g2 := F0 m 4 ls []) rfl ?_
  refine lv_aload_n hx hb dX1_init_4 rfl (lv_at hl 0 rfl) ?_
  refine va_new (ci := 3) (fs := [.int 0, .null, .null, .null, .null, .null]) (C := RX9) (T := TX9) (N := 6) hx hb hts i_X9 tyX9 tyX9_ok hown (hts _ qw33) (hts _ qw34) (hts _ qw35) hK hP hD hS hA rfl df_X9 (Nat.le_of_ble_eq_true rfl) (Nat.le_of_ble_eq_true rfl) dX1_init_5 (fun q1 H hP hD hS => ?_)
  have hP : va_P (dC, dI) cls [(h0, .inr (4, [.int 0, .int 0, .null, .null, .null, .null, .null, .null, .null, .null, .null, .null, .null, .null, .null, .null, .null, .int 0, .null, .null, .null])), (q1, .inr (3, [.int 0, .null, .null, .null, .null, .null]))] H := hP
  have hD : va_D A [(h0, .inr (4, [.int 0, .int 0, .null, .null, .null, .null, .null, .null, .null, .null, .null, .null, .null, .null, .null, .null, .null, .int 0, .null, .null, .null])), (q1, .inr (3, [.int 0, .null, .null, .null, .null, .null]))] := hD
  refine W.widen (k := 1) (n := 6) (Nat.le_of_ble_eq_true rfl) (Nat.le_of_ble_eq_true rfl) ?_
  refine lv_dup hx hb dX1_init_8 rfl ?_
  refine lv_sipush (v := 256) hx hb dX1_init_9 (by decide) ?_
  have hPc := hP.sub (ws' := [(q1, .inr (3, [.int 0, .null, .null, .null, .null, .null]))]) [1] rfl
  have hDc := hD.sub (ws' := [(q1, .inr (3, [.int 0, .null, .null, .null, .null, .null]))]) [1] (by decide) rfl
  have hKc := hK.sub (tys' := []) [] rfl
  have hFc := va_free (wc := [(q1, .inr (3, [.int 0, .null, .null, .null, .null, .null]))]) hD hS hA [1] rfl
  refine va_callv (va_runI (As := [.int 256]) (rest := [.ref q1, .ref h0]) ⟨hx, hb, hml, hown, hts⟩ (kX9_init l dC dI (h0 := q1) (sz := _)) (cwI 1 hts (gi_z qw36) rfl rfl rfl (hts _ qw35) (hts _ qw37) (hts _ qw38) rfl (by decide +kernel) ⟨Nat.le_of_ble_eq_true rfl, Nat.le_of_ble_eq_true rfl⟩) ⟨PRE.blind, PRE.of hE hS hFc hPc hKc hDc⟩ rfl rfl hl.1 rfl (lv_room (Nat.le_of_ble_eq_true rfl)) dX1_init_12 ⟨Nat.le_of_ble_eq_true rfl, Nat.le_of_ble_eq_true rfl⟩) hS (fun q _ h => hFc q h) hFc (fun u t H locs ht hvm hw hB hz1 hk1 hS => ?_)
  obtain ⟨q2, q3, q4, q5, q6, hB⟩ := hB
  obtain ⟨hP, hD, hK⟩ := JOIN (wr := [(h0, .inr (4, [.int 0, .int 0, .null, .null, .null, .null, .null, .null, .null, .null, .null, .null, .null, .null, .null, .null, .null, .int 0, .null, .null, .null]))]) hP hD hK [1] [0] [] rfl rfl (by decide) (by decide) rfl hk1 hFc ht hvm hB
  have hP : va_P (dC, dI) cls [(h0, .inr (4, [.int 0, .int 0, .null, .null, .null, .null, .null, .null, .null, .null, .null, .null, .null, .null, .null, .null, .null, .int 0, .null, .null, .null])), (q1, .inr (3, [.int 0, .ref q2, .ref q3, .ref q4, .ref q5, .ref q6]))] H := hP
  have hD : va_D A [(h0, .inr (4, [.int 0, .int 0, .null, .null, .null, .null, .null, .null, .null, .null, .null, .null, .null, .null, .null, .null, .null, .int 0, .null, .null, .null])), (q1, .inr (3, [.int 0, .ref q2, .ref q3, .ref q4, .ref q5, .ref q6]))] := hD
  have hK : va_K (dC, dI) cls [] s := hK
  refine W.widen (k := 6) (n := 1286) (Nat.le_of_ble_eq_true rfl) (Nat.le_of_ble_eq_true rfl) ?_
  refine va_putF (D := (dC, dI)) (ci := 4) (v := .ref q1) (ty := .object "Gearbox$Steps") (C := RX1) (T := TX1) (N := 21) hx hb hts i_X1 tyX1 tyX1_ok nmX1 hown hK hP hD hS 0 rfl rfl 2 (by decide) (hts _ qw39) (fun _ h9 => h9) rfl hin rfl (by decide +kernel) rfl rfl (Nat.le_of_ble_eq_true rfl) dX1_init_15 (fun H locs hP hD hS => ?_)
  have hP : va_P (dC, dI) cls [(h0, .inr (4, [.int 0, .int 0, .ref q1, .null, .null, .null, .null, .null, .null, .null, .null, .null, .null, .null, .null, .null, .null, .int 0, .null, .null, .null])), (q1, .inr (3, [.int 0, .ref q2, .ref q3, .ref q4, .ref q5, .ref q6]))] H := hP
  have hD : va_D A [(h0, .inr (4, [.int 0, .int 0, .ref q1, .null, .null, .null, .null, .null, .null, .null, .null, .null, .null, .null, .null, .null, .null, .int 0, .null, .null, .null])), (q1, .inr (3, [.int 0, .ref q2, .ref q3, .ref q4, .ref q5, .ref q6]))] := hD
  refine lv_aload_n hx hb dX1_init_18 rfl (lv_at hl 0 rfl) ?_
  refine lv_bipush (v := 60) hx hb dX1_init_19 (by decide) ?_
  refine va_newa (atype := .int) (ty := .int) hx hb (hts _ qw2) rfl hK hP hD hS hA (a0 := (60, .inl (fun _ => 0))) (fun _ => rfl) (by decide) (by decide +kernel) (Nat.le_of_ble_eq_true rfl) (Nat.le_of_ble_eq_true rfl) (Nat.le_of_ble_eq_true rfl) dX1_init_21 (fun q7 c8 H hK hP hD hS => ?_)
  have hP : va_P (dC, dI) cls [(h0, .inr (4, [.int 0, .int 0, .ref q1, .null, .null, .null, .null, .null, .null, .null, .null, .null, .null, .null, .null, .null, .null, .int 0, .null, .null, .null])), (q1, .inr (3, [.int 0, .ref q2, .ref q3, .ref q4, .ref q5, .ref q6])), (q7, .inl (c8, 60, .inl (fun _ => 0)))] H := hP
  have hD : va_D A [(h0, .inr (4, [.int 0, .int 0, .ref q1, .null, .null, .null, .null, .null, .null, .null, .null, .null, .null, .null, .null, .null, .null, .int 0, .null, .null, .null])), (q1, .inr (3, [.int 0, .ref q2, .ref q3, .ref q4, .ref q5, .ref q6])), (q7, .inl (c8, 60, .inl (fun _ => 0)))] := hD
  have hK : va_K (dC, dI) cls [(c8, .int)] s := hK
  have hP : va_P (dC, dI) cls [(h0, .inr (4, [.int 0, .int 0, .ref q1, .null, .null, .null, .null, .null, .null, .null, .null, .null, .null, .null, .null, .null, .null, .int 0, .null, .null, .null])), (q1, .inr (3, [.int 0, .ref q2, .ref q3, .ref q4, .ref q5, .ref q6]))] H := hP.sub [0, 1] rfl
  have hD : va_D A [(h0, .inr (4, [.int 0, .int 0, .ref q1, .null, .null, .null, .null, .null, .null, .null, .null, .null, .null, .null, .null, .null, .null, .int 0, .null, .null, .null])), (q1, .inr (3, [.int 0, .ref q2, .ref q3, .ref q4, .ref q5, .ref q6]))] := hD.sub [0, 1] (by decide) rfl
  have hK : va_K (dC, dI) cls [] s := hK.sub [] rfl
  refine W.widen (k := 7) (n := 1346) (Nat.le_of_ble_eq_true rfl) (Nat.le_of_ble_eq_true rfl) ?_
  refine va_putF (D := (dC, dI)) (ci := 4) (v := .ref q7) (ty := .array .int) (C := RX1) (T := TX1) (N := 21) hx hb hts i_X1 tyX1 tyX1_ok nmX1 hown hK hP hD hS 0 rfl rfl 3 (by decide) (hts _ qw40) (fun _ h9 => h9) rfl hin rfl (by decide +kernel) rfl rfl (Nat.le_of_ble_eq_true rfl) dX1_init_23 (fun H locs hP hD hS => ?_)
  have hP : va_P (dC, dI) cls [(h0, .inr (4, [.int 0, .int 0, .ref q1, .ref q7, .null, .null, .null, .null, .null, .null, .null, .null, .null, .null, .null, .null, .null, .int 0, .null, .null, .null])), (q1, .inr (3, [.int 0, .ref q2, .ref q3, .ref q4, .ref q5, .ref q6]))] H := hP
  have hD : va_D A [(h0, .inr (4, [.int 0, .int 0, .ref q1, .ref q7, .null, .null, .null, .null, .null, .null, .null, .null, .null, .null, .null, .null, .null, .int 0, .null, .null, .null])), (q1, .inr (3, [.int 0, .ref q2, .ref q3, .ref q4, .ref q5, .ref q6]))] := hD
  refine lv_aload_n hx hb dX1_init_26 rfl (lv_at hl 0 rfl) ?_
  refine lv_bipush (v := 60) hx hb dX1_init_27 (by decide) ?_
  refine va_newa (atype := .int) (ty := .int) hx hb (hts _ qw2) rfl hK hP hD hS hA (a0 := (60, .inl (fun _ => 0))) (fun _ => rfl) (by decide) (by decide +kernel) (Nat.le_of_ble_eq_true rfl) (Nat.le_of_ble_eq_true rfl) (Nat.le_of_ble_eq_true rfl) dX1_init_29 (fun q9 c10 H hK hP hD hS => ?_)
  have hP : va_P (dC, dI) cls [(h0, .inr (4, [.int 0, .int 0, .ref q1, .ref q7, .null, .null, .null, .null, .null, .null, .null, .null, .null, .null, .null, .null, .null, .int 0, .null, .null, .null])), (q1, .inr (3, [.int 0, .ref q2, .ref q3, .ref q4, .ref q5, .ref q6])), (q9, .inl (c10, 60, .inl (fun _ => 0)))] H := hP
  have hD : va_D A [(h0, .inr (4, [.int 0, .int 0, .ref q1, .ref q7, .null, .null, .null, .null, .null, .null, .null, .null, .null, .null, .null, .null, .null, .int 0, .null, .null, .null])), (q1, .inr (3, [.int 0, .ref q2, .ref q3, .ref q4, .ref q5, .ref q6])), (q9, .inl (c10, 60, .inl (fun _ => 0)))] := hD
  have hK : va_K (dC, dI) cls [(c10, .int)] s := hK
  have hP : va_P (dC, dI) cls [(h0, .inr (4, [.int 0, .int 0, .ref q1, .ref q7, .null, .null, .null, .null, .null, .null, .null, .null, .null, .null, .null, .null, .null, .int 0, .null, .null, .null])), (q1, .inr (3, [.int 0, .ref q2, .ref q3, .ref q4, .ref q5, .ref q6]))] H := hP.sub [0, 1] rfl
  have hD : va_D A [(h0, .inr (4, [.int 0, .int 0, .ref q1, .ref q7, .null, .null, .null, .null, .null, .null, .null, .null, .null, .null, .null, .null, .null, .int 0, .null, .null, .null])), (q1, .inr (3, [.int 0, .ref q2, .ref q3, .ref q4, .ref q5, .ref q6]))] := hD.sub [0, 1] (by decide) rfl
  have hK : va_K (dC, dI) cls [] s := hK.sub [] rfl
  refine W.widen (k := 8) (n := 1406) (Nat.le_of_ble_eq_true rfl) (Nat.le_of_ble_eq_true rfl) ?_
  refine va_putF (D := (dC, dI)) (ci := 4) (v := .ref q9) (ty := .array .int) (C := RX1) (T := TX1) (N := 21) hx hb hts i_X1 tyX1 tyX1_ok nmX1 hown hK hP hD hS 0 rfl rfl 4 (by decide) (hts _ qw41) (fun _ h9 => h9) rfl hin rfl (by decide +kernel) rfl rfl (Nat.le_of_ble_eq_true rfl) dX1_init_31 (fun H locs hP hD hS => ?_)
  have hP : va_P (dC, dI) cls [(h0, .inr (4, [.int 0, .int 0, .ref q1, .ref q7, .ref q9, .null, .null, .null, .null, .null, .null, .null, .null, .null, .null, .null, .null, .int 0, .null, .null, .null])), (q1, .inr (3, [.int 0, .ref q2, .ref q3, .ref q4, .ref q5, .ref q6]))] H := hP
  have hD : va_D A [(h0, .inr (4, [.int 0, .int 0, .ref q1, .ref q7, .ref q9, .null, .null, .null, .null, .null, .null, .null, .null, .null, .null, .null, .null, .int 0, .null, .null, .null])), (q1, .inr (3, [.int 0, .ref q2, .ref q3, .ref q4, .ref q5, .ref q6]))] := hD
  refine lv_aload_n hx hb dX1_init_34 rfl (lv_at hl 0 rfl) ?_
  refine lv_bipush (v := 60) hx hb dX1_init_35 (by decide) ?_
  refine va_newa (atype := .int) (ty := .int) hx hb (hts _ qw2) rfl hK hP hD hS hA (a0 := (60, .inl (fun _ => 0))) (fun _ => rfl) (by decide) (by decide +kernel) (Nat.le_of_ble_eq_true rfl) (Nat.le_of_ble_eq_true rfl) (Nat.le_of_ble_eq_true rfl) dX1_init_37 (fun q11 c12 H hK hP hD hS => ?_)
  have hP : va_P (dC, dI) cls [(h0, .inr (4, [.int 0, .int 0, .ref q1, .ref q7, .ref q9, .null, .null, .null, .null, .null, .null, .null, .null, .null, .null, .null, .null, .int 0, .null, .null, .null])), (q1, .inr (3, [.int 0, .ref q2, .ref q3, .ref q4, .ref q5, .ref q6])), (q11, .inl (c12, 60, .inl (fun _ => 0)))] H := hP
  have hD : va_D A [(h0, .inr (4, [.int 0, .int 0, .ref q1, .ref q7, .ref q9, .null, .null, .null, .null, .null, .null, .null, .null, .null, .null, .null, .null, .int 0, .null, .null, .null])), (q1, .inr (3, [.int 0, .ref q2, .ref q3, .ref q4, .ref q5, .ref q6])), (q11, .inl (c12, 60, .inl (fun _ => 0)))] := hD
  have hK : va_K (dC, dI) cls [(c12, .int)] s := hK
  have hP : va_P (dC, dI) cls [(h0, .inr (4, [.int 0, .int 0, .ref q1, .ref q7, .ref q9, .null, .null, .null, .null, .null, .null, .null, .null, .null, .null, .null, .null, .int 0, .null, .null, .null])), (q1, .inr (3, [.int 0, .ref q2, .ref q3, .ref q4, .ref q5, .ref q6]))] H := hP.sub [0, 1] rfl
  have hD : va_D A [(h0, .inr (4, [.int 0, .int 0, .ref q1, .ref q7, .ref q9, .null, .null, .null, .null, .null, .null, .null, .null, .null, .null, .null, .null, .int 0, .null, .null, .null])), (q1, .inr (3, [.int 0, .ref q2, .ref q3, .ref q4, .ref q5, .ref q6]))] := hD.sub [0, 1] (by decide) rfl
  have hK : va_K (dC, dI) cls [] s := hK.sub [] rfl
  refine W.widen (k := 9) (n := 1466) (Nat.le_of_ble_eq_true rfl) (Nat.le_of_ble_eq_true rfl) ?_
  refine va_putF (D := (dC, dI)) (ci := 4) (v := .ref q11) (ty := .array .int) (C := RX1) (T := TX1) (N := 21) hx hb hts i_X1 tyX1 tyX1_ok nmX1 hown hK hP hD hS 0 rfl rfl 5 (by decide) (hts _ qw42) (fun _ h9 => h9) rfl hin rfl (by decide +kernel) rfl rfl (Nat.le_of_ble_eq_true rfl) dX1_init_39 (fun H locs hP hD hS => ?_)
  have hP : va_P (dC, dI) cls [(h0, .inr (4, [.int 0, .int 0, .ref q1, .ref q7, .ref q9, .ref q11, .null, .null, .null, .null, .null, .null, .null, .null, .null, .null, .null, .int 0, .null, .null, .null])), (q1, .inr (3, [.int 0, .ref q2, .ref q3, .ref q4, .ref q5, .ref q6]))] H := hP
  have hD : va_D A [(h0, .inr (4, [.int 0, .int 0, .ref q1, .ref q7, .ref q9, .ref q11, .null, .null, .null, .null, .null, .null, .null, .null, .null, .null, .null, .int 0, .null, .null, .null])), (q1, .inr (3, [.int 0, .ref q2, .ref q3, .ref q4, .ref q5, .ref q6]))] := hD
  refine lv_aload_n hx hb dX1_init_42 rfl (lv_at hl 0 rfl) ?_
  refine lv_bipush (v := 60) hx hb dX1_init_43 (by decide) ?_
  refine va_newa (atype := .int) (ty := .int) hx hb (hts _ qw2) rfl hK hP hD hS hA (a0 := (60, .inl (fun _ => 0))) (fun _ => rfl) (by decide) (by decide +kernel) (Nat.le_of_ble_eq_true rfl) (Nat.le_of_ble_eq_true rfl) (Nat.le_of_ble_eq_true rfl) dX1_init_45 (fun q13 c14 H hK hP hD hS => ?_)
  have hP : va_P (dC, dI) cls [(h0, .inr (4, [.int 0, .int 0, .ref q1, .ref q7, .ref q9, .ref q11, .null, .null, .null, .null, .null, .null, .null, .null, .null, .null, .null, .int 0, .null, .null, .null])), (q1, .inr (3, [.int 0, .ref q2, .ref q3, .ref q4, .ref q5, .ref q6])), (q13, .inl (c14, 60, .inl (fun _ => 0)))] H := hP
  have hD : va_D A [(h0, .inr (4, [.int 0, .int 0, .ref q1, .ref q7, .ref q9, .ref q11, .null, .null, .null, .null, .null, .null, .null, .null, .null, .null, .null, .int 0, .null, .null, .null])), (q1, .inr (3, [.int 0, .ref q2, .ref q3, .ref q4, .ref q5, .ref q6])), (q13, .inl (c14, 60, .inl (fun _ => 0)))] := hD
  have hK : va_K (dC, dI) cls [(c14, .int)] s := hK
  have hP : va_P (dC, dI) cls [(h0, .inr (4, [.int 0, .int 0, .ref q1, .ref q7, .ref q9, .ref q11, .null, .null, .null, .null, .null, .null, .null, .null, .null, .null, .null, .int 0, .null, .null, .null])), (q1, .inr (3, [.int 0, .ref q2, .ref q3, .ref q4, .ref q5, .ref q6]))] H := hP.sub [0, 1] rfl
  have hD : va_D A [(h0, .inr (4, [.int 0, .int 0, .ref q1, .ref q7, .ref q9, .ref q11, .null, .null, .null, .null, .null, .null, .null, .null, .null, .null, .null, .int 0, .null, .null, .null])), (q1, .inr (3, [.int 0, .ref q2, .ref q3, .ref q4, .ref q5, .ref q6]))] := hD.sub [0, 1] (by decide) rfl
  have hK : va_K (dC, dI) cls [] s := hK.sub [] rfl
  refine W.widen (k := 10) (n := 1526) (Nat.le_of_ble_eq_true rfl) (Nat.le_of_ble_eq_true rfl) ?_
  refine va_putF (D := (dC, dI)) (ci := 4) (v := .ref q13) (ty := .array .int) (C := RX1) (T := TX1) (N := 21) hx hb hts i_X1 tyX1 tyX1_ok nmX1 hown hK hP hD hS 0 rfl rfl 6 (by decide) (hts _ qw43) (fun _ h9 => h9) rfl hin rfl (by decide +kernel) rfl rfl (Nat.le_of_ble_eq_true rfl) dX1_init_47 (fun H locs hP hD hS => ?_)
  have hP : va_P (dC, dI) cls [(h0, .inr (4, [.int 0, .int 0, .ref q1, .ref q7, .ref q9, .ref q11, .ref q13, .null, .null, .null, .null, .null, .null, .null, .null, .null, .null, .int 0, .null, .null, .null])), (q1, .inr (3, [.int 0, .ref q2, .ref q3, .ref q4, .ref q5, .ref q6]))] H := hP
  have hD : va_D A [(h0, .inr (4, [.int 0, .int 0, .ref q1, .ref q7, .ref q9, .ref q11, .ref q13, .null, .null, .null, .null, .null, .null, .null, .null, .null, .null, .int 0, .null, .null, .null])), (q1, .inr (3, [.int 0, .ref q2, .ref q3, .ref q4, .ref q5, .ref q6]))] := hD
  refine lv_aload_n hx hb dX1_init_50 rfl (lv_at hl 0 rfl) ?_
  refine lv_bipush (v := 60) hx hb dX1_init_51 (by decide) ?_
  refine va_newa (atype := .int) (ty := .int) hx hb (hts _ qw2) rfl hK hP hD hS hA (a0 := (60, .inl (fun _ => 0))) (fun _ => rfl) (by decide) (by decide +kernel) (Nat.le_of_ble_eq_true rfl) (Nat.le_of_ble_eq_true rfl) (Nat.le_of_ble_eq_true rfl) dX1_init_53 (fun q15 c16 H hK hP hD hS => ?_)
  have hP : va_P (dC, dI) cls [(h0, .inr (4, [.int 0, .int 0, .ref q1, .ref q7, .ref q9, .ref q11, .ref q13, .null, .null, .null, .null, .null, .null, .null, .null, .null, .null, .int 0, .null, .null, .null])), (q1, .inr (3, [.int 0, .ref q2, .ref q3, .ref q4, .ref q5, .ref q6])), (q15, .inl (c16, 60, .inl (fun _ => 0)))] H := hP
  have hD : va_D A [(h0, .inr (4, [.int 0, .int 0, .ref q1, .ref q7, .ref q9, .ref q11, .ref q13, .null, .null, .null, .null, .null, .null, .null, .null, .null, .null, .int 0, .null, .null, .null])), (q1, .inr (3, [.int 0, .ref q2, .ref q3, .ref q4, .ref q5, .ref q6])), (q15, .inl (c16, 60, .inl (fun _ => 0)))] := hD
  have hK : va_K (dC, dI) cls [(c16, .int)] s := hK
  have hP : va_P (dC, dI) cls [(h0, .inr (4, [.int 0, .int 0, .ref q1, .ref q7, .ref q9, .ref q11, .ref q13, .null, .null, .null, .null, .null, .null, .null, .null, .null, .null, .int 0, .null, .null, .null])), (q1, .inr (3, [.int 0, .ref q2, .ref q3, .ref q4, .ref q5, .ref q6]))] H := hP.sub [0, 1] rfl
  have hD : va_D A [(h0, .inr (4, [.int 0, .int 0, .ref q1, .ref q7, .ref q9, .ref q11, .ref q13, .null, .null, .null, .null, .null, .null, .null, .null, .null, .null, .int 0, .null, .null, .null])), (q1, .inr (3, [.int 0, .ref q2, .ref q3, .ref q4, .ref q5, .ref q6]))] := hD.sub [0, 1] (by decide) rfl
  have hK : va_K (dC, dI) cls [] s := hK.sub [] rfl
  refine W.widen (k := 11) (n := 1586) (Nat.le_of_ble_eq_true rfl) (Nat.le_of_ble_eq_true rfl) ?_
  refine va_putF (D := (dC, dI)) (ci := 4) (v := .ref q15) (ty := .array .int) (C := RX1) (T := TX1) (N := 21) hx hb hts i_X1 tyX1 tyX1_ok nmX1 hown hK hP hD hS 0 rfl rfl 7 (by decide) (hts _ qw44) (fun _ h9 => h9) rfl hin rfl (by decide +kernel) rfl rfl (Nat.le_of_ble_eq_true rfl) dX1_init_55 (fun H locs hP hD hS => ?_)
  have hP : va_P (dC, dI) cls [(h0, .inr (4, [.int 0, .int 0, .ref q1, .ref q7, .ref q9, .ref q11, .ref q13, .ref q15, .null, .null, .null, .null, .null, .null, .null, .null, .null, .int 0, .null, .null, .null])), (q1, .inr (3, [.int 0, .ref q2, .ref q3, .ref q4, .ref q5, .ref q6]))] H := hP
  have hD : va_D A [(h0, .inr (4, [.int 0, .int 0, .ref q1, .ref q7, .ref q9, .ref q11, .ref q13, .ref q15, .null, .null, .null, .null, .null, .null, .null, .null, .null, .int 0, .null, .null, .null])), (q1, .inr (3, [.int 0, .ref q2, .ref q3, .ref q4, .ref q5, .ref q6]))] := hD
  refine lv_aload_n hx hb dX1_init_58 rfl (lv_at hl 0 rfl) ?_
  refine lv_bipush (v := 60) hx hb dX1_init_59 (by decide) ?_
  refine va_newa (atype := .int) (ty := .int) hx hb (hts _ qw2) rfl hK hP hD hS hA (a0 := (60, .inl (fun _ => 0))) (fun _ => rfl) (by decide) (by decide +kernel) (Nat.le_of_ble_eq_true rfl) (Nat.le_of_ble_eq_true rfl) (Nat.le_of_ble_eq_true rfl) dX1_init_61 (fun q17 c18 H hK hP hD hS => ?_)
  have hP : va_P (dC, dI) cls [(h0, .inr (4, [.int 0, .int 0, .ref q1, .ref q7, .ref q9, .ref q11, .ref q13, .ref q15, .null, .null, .null, .null, .null, .null, .null, .null, .null, .int 0, .null, .null, .null])), (q1, .inr (3, [.int 0, .ref q2, .ref q3, .ref q4, .ref q5, .ref q6])), (q17, .inl (c18, 60, .inl (fun _ => 0)))] H := hP
  have hD : va_D A [(h0, .inr (4, [.int 0, .int 0, .ref q1, .ref q7, .ref q9, .ref q11, .ref q13, .ref q15, .null, .null, .null, .null, .null, .null, .null, .null, .null, .int 0, .null, .null, .null])), (q1, .inr (3, [.int 0, .ref q2, .ref q3, .ref q4, .ref q5, .ref q6])), (q17, .inl (c18, 60, .inl (fun _ => 0)))] := hD
  have hK : va_K (dC, dI) cls [(c18, .int)] s := hK
  have hP : va_P (dC, dI) cls [(h0, .inr (4, [.int 0, .int 0, .ref q1, .ref q7, .ref q9, .ref q11, .ref q13, .ref q15, .null, .null, .null, .null, .null, .null, .null, .null, .null, .int 0, .null, .null, .null])), (q1, .inr (3, [.int 0, .ref q2, .ref q3, .ref q4, .ref q5, .ref q6]))] H := hP.sub [0, 1] rfl
  have hD : va_D A [(h0, .inr (4, [.int 0, .int 0, .ref q1, .ref q7, .ref q9, .ref q11, .ref q13, .ref q15, .null, .null, .null, .null, .null, .null, .null, .null, .null, .int 0, .null, .null, .null])), (q1, .inr (3, [.int 0, .ref q2, .ref q3, .ref q4, .ref q5, .ref q6]))] := hD.sub [0, 1] (by decide) rfl
  have hK : va_K (dC, dI) cls [] s := hK.sub [] rfl
  refine W.widen (k := 12) (n := 1646) (Nat.le_of_ble_eq_true rfl) (Nat.le_of_ble_eq_true rfl) ?_
  refine va_putF (D := (dC, dI)) (ci := 4) (v := .ref q17) (ty := .array .int) (C := RX1) (T := TX1) (N := 21) hx hb hts i_X1 tyX1 tyX1_ok nmX1 hown hK hP hD hS 0 rfl rfl 8 (by decide) (hts _ qw45) (fun _ h9 => h9) rfl hin rfl (by decide +kernel) rfl rfl (Nat.le_of_ble_eq_true rfl) dX1_init_63 (fun H locs hP hD hS => ?_)
  have hP : va_P (dC, dI) cls [(h0, .inr (4, [.int 0, .int 0, .ref q1, .ref q7, .ref q9, .ref q11, .ref q13, .ref q15, .ref q17, .null, .null, .null, .null, .null, .null, .null, .null, .int 0, .null, .null, .null])), (q1, .inr (3, [.int 0, .ref q2, .ref q3, .ref q4, .ref q5, .ref q6]))] H := hP
  have hD : va_D A [(h0, .inr (4, [.int 0, .int 0, .ref q1, .ref q7, .ref q9, .ref q11, .ref q13, .ref q15, .ref q17, .null, .null, .null, .null, .null, .null, .null, .null, .int 0, .null, .null, .null])), (q1, .inr (3, [.int 0, .ref q2, .ref q3, .ref q4, .ref q5, .ref q6]))] := hD
  refine lv_aload_n hx hb dX1_init_66 rfl (lv_at hl 0 rfl) ?_
  refine lv_bipush (v := 60) hx hb dX1_init_67 (by decide) ?_
  refine va_newa (atype := .int) (ty := .int) hx hb (hts _ qw2) rfl hK hP hD hS hA (a0 := (60, .inl (fun _ => 0))) (fun _ => rfl) (by decide) (by decide +kernel) (Nat.le_of_ble_eq_true rfl) (Nat.le_of_ble_eq_true rfl) (Nat.le_of_ble_eq_true rfl) dX1_init_69 (fun q19 c20 H hK hP hD hS => ?_)
  have hP : va_P (dC, dI) cls [(h0, .inr (4, [.int 0, .int 0, .ref q1, .ref q7, .ref q9, .ref q11, .ref q13, .ref q15, .ref q17, .null, .null, .null, .null, .null, .null, .null, .null, .int 0, .null, .null, .null])), (q1, .inr (3, [.int 0, .ref q2, .ref q3, .ref q4, .ref q5, .ref q6])), (q19, .inl (c20, 60, .inl (fun _ => 0)))] H := hP
  have hD : va_D A [(h0, .inr (4, [.int 0, .int 0, .ref q1, .ref q7, .ref q9, .ref q11, .ref q13, .ref q15, .ref q17, .null, .null, .null, .null, .null, .null, .null, .null, .int 0, .null, .null, .null])), (q1, .inr (3, [.int 0, .ref q2, .ref q3, .ref q4, .ref q5, .ref q6])), (q19, .inl (c20, 60, .inl (fun _ => 0)))] := hD
  have hK : va_K (dC, dI) cls [(c20, .int)] s := hK
  have hP : va_P (dC, dI) cls [(h0, .inr (4, [.int 0, .int 0, .ref q1, .ref q7, .ref q9, .ref q11, .ref q13, .ref q15, .ref q17, .null, .null, .null, .null, .null, .null, .null, .null, .int 0, .null, .null, .null])), (q1, .inr (3, [.int 0, .ref q2, .ref q3, .ref q4, .ref q5, .ref q6]))] H := hP.sub [0, 1] rfl
  have hD : va_D A [(h0, .inr (4, [.int 0, .int 0, .ref q1, .ref q7, .ref q9, .ref q11, .ref q13, .ref q15, .ref q17, .null, .null, .null, .null, .null, .null, .null, .null, .int 0, .null, .null, .null])), (q1, .inr (3, [.int 0, .ref q2, .ref q3, .ref q4, .ref q5, .ref q6]))] := hD.sub [0, 1] (by decide) rfl
  have hK : va_K (dC, dI) cls [] s := hK.sub [] rfl
  refine W.widen (k := 13) (n := 1706) (Nat.le_of_ble_eq_true rfl) (Nat.le_of_ble_eq_true rfl) ?_
  refine va_putF (D := (dC, dI)) (ci := 4) (v := .ref q19) (ty := .array .int) (C := RX1) (T := TX1) (N := 21) hx hb hts i_X1 tyX1 tyX1_ok nmX1 hown hK hP hD hS 0 rfl rfl 9 (by decide) (hts _ qw46) (fun _ h9 => h9) rfl hin rfl (by decide +kernel) rfl rfl (Nat.le_of_ble_eq_true rfl) dX1_init_71 (fun H locs hP hD hS => ?_)
  have hP : va_P (dC, dI) cls [(h0, .inr (4, [.int 0, .int 0, .ref q1, .ref q7, .ref q9, .ref q11, .ref q13, .ref q15, .ref q17, .ref q19, .null, .null, .null, .null, .null, .null, .null, .int 0, .null, .null, .null])), (q1, .inr (3, [.int 0, .ref q2, .ref q3, .ref q4, .ref q5, .ref q6]))] H := hP
  have hD : va_D A [(h0, .inr (4, [.int 0, .int 0, .ref q1, .ref q7, .ref q9, .ref q11, .ref q13, .ref q15, .ref q17, .ref q19, .null, .null, .null, .null, .null, .null, .null, .int 0, .null, .null, .null])), (q1, .inr (3, [.int 0, .ref q2, .ref q3, .ref q4, .ref q5, .ref q6]))] := hD
  refine lv_aload_n hx hb dX1_init_74 rfl (lv_at hl 0 rfl) ?_
  refine lv_bipush (v := 60) hx hb dX1_init_75 (by decide) ?_
  refine va_newa (atype := .int) (ty := .int) hx hb (hts _ qw2) rfl hK hP hD hS hA (a0 := (60, .inl (fun _ => 0))) (fun _ => rfl) (by decide) (by decide +kernel) (Nat.le_of_ble_eq_true rfl) (Nat.le_of_ble_eq_true rfl) (Nat.le_of_ble_eq_true rfl) dX1_init_77 (fun q21 c22 H hK hP hD hS => ?_)
  have hP : va_P (dC, dI) cls [(h0, .inr (4, [.int 0, .int 0, .ref q1, .ref q7, .ref q9, .ref q11, .ref q13, .ref q15, .ref q17, .ref q19, .null, .null, .null, .null, .null, .null, .null, .int 0, .null, .null, .null])), (q1, .inr (3, [.int 0, .ref q2, .ref q3, .ref q4, .ref q5, .ref q6])), (q21, .inl (c22, 60, .inl (fun _ => 0)))] H := hP
  have hD : va_D A [(h0, .inr (4, [.int 0, .int 0, .ref q1, .ref q7, .ref q9, .ref q11, .ref q13, .ref q15, .ref q17, .ref q19, .null, .null, .null, .null, .null, .null, .null, .int 0, .null, .null, .null])), (q1, .inr (3, [.int 0, .ref q2, .ref q3, .ref q4, .ref q5, .ref q6])), (q21, .inl (c22, 60, .inl (fun _ => 0)))] := hD
  have hK : va_K (dC, dI) cls [(c22, .int)] s := hK
  have hP : va_P (dC, dI) cls [(h0, .inr (4, [.int 0, .int 0, .ref q1, .ref q7, .ref q9, .ref q11, .ref q13, .ref q15, .ref q17, .ref q19, .null, .null, .null, .null, .null, .null, .null, .int 0, .null, .null, .null])), (q1, .inr (3, [.int 0, .ref q2, .ref q3, .ref q4, .ref q5, .ref q6]))] H := hP.sub [0, 1] rfl
  have hD : va_D A [(h0, .inr (4, [.int 0, .int 0, .ref q1, .ref q7, .ref q9, .ref q11, .ref q13, .ref q15, .ref q17, .ref q19, .null, .null, .null, .null, .null, .null, .null, .int 0, .null, .null, .null])), (q1, .inr (3, [.int 0, .ref q2, .ref q3, .ref q4, .ref q5, .ref q6]))] := hD.sub [0, 1] (by decide) rfl
  have hK : va_K (dC, dI) cls [] s := hK.sub [] rfl
  refine W.widen (k := 14) (n := 1766) (Nat.le_of_ble_eq_true rfl) (Nat.le_of_ble_eq_true rfl) ?_
  refine va_putF (D := (dC, dI)) (ci := 4) (v := .ref q21) (ty := .array .int) (C := RX1) (T := TX1) (N := 21) hx hb hts i_X1 tyX1 tyX1_ok nmX1 hown hK hP hD hS 0 rfl rfl 10 (by decide) (hts _ qw47) (fun _ h9 => h9) rfl hin rfl (by decide +kernel) rfl rfl (Nat.le_of_ble_eq_true rfl) dX1_init_79 (fun H locs hP hD hS => ?_)
  have hP : va_P (dC, dI) cls [(h0, .inr (4, [.int 0, .int 0, .ref q1, .ref q7, .ref q9, .ref q11, .ref q13, .ref q15, .ref q17, .ref q19, .ref q21, .null, .null, .null, .null, .null, .null, .int 0, .null, .null, .null])), (q1, .inr (3, [.int 0, .ref q2, .ref q3, .ref q4, .ref q5, .ref q6]))] H := hP
  have hD : va_D A [(h0, .inr (4, [.int 0, .int 0, .ref q1, .ref q7, .ref q9, .ref q11, .ref q13, .ref q15, .ref q17, .ref q19, .ref q21, .null, .null, .null, .null, .null, .null, .int 0, .null, .null, .null])), (q1, .inr (3, [.int 0, .ref q2, .ref q3, .ref q4, .ref q5, .ref q6]))] := hD
  refine lv_aload_n hx hb dX1_init_82 rfl (lv_at hl 0 rfl) ?_
  refine lv_bipush (v := 60) hx hb dX1_init_83 (by decide) ?_
  refine va_newa (atype := .int) (ty := .int) hx hb (hts _ qw2) rfl hK hP hD hS hA (a0 := (60, .inl (fun _ => 0))) (fun _ => rfl) (by decide) (by decide +kernel) (Nat.le_of_ble_eq_true rfl) (Nat.le_of_ble_eq_true rfl) (Nat.le_of_ble_eq_true rfl) dX1_init_85 (fun q23 c24 H hK hP hD hS => ?_)
  have hP : va_P (dC, dI) cls [(h0, .inr (4, [.int 0, .int 0, .ref q1, .ref q7, .ref q9, .ref q11, .ref q13, .ref q15, .ref q17, .ref q19, .ref q21, .null, .null, .null, .null, .null, .null, .int 0, .null, .null, .null])), (q1, .inr (3, [.int 0, .ref q2, .ref q3, .ref q4, .ref q5, .ref q6])), (q23, .inl (c24, 60, .inl (fun _ => 0)))] H := hP
  have hD : va_D A [(h0, .inr (4, [.int 0, .int 0, .ref q1, .ref q7, .ref q9, .ref q11, .ref q13, .ref q15, .ref q17, .ref q19, .ref q21, .null, .null, .null, .null, .null, .null, .int 0, .null, .null, .null])), (q1, .inr (3, [.int 0, .ref q2, .ref q3, .ref q4, .ref q5, .ref q6])), (q23, .inl (c24, 60, .inl (fun _ => 0)))] := hD
  have hK : va_K (dC, dI) cls [(c24, .int)] s := hK
  have hP : va_P (dC, dI) cls [(h0, .inr (4, [.int 0, .int 0, .ref q1, .ref q7, .ref q9, .ref q11, .ref q13, .ref q15, .ref q17, .ref q19, .ref q21, .null, .null, .null, .null, .null, .null, .int 0, .null, .null, .null])), (q1, .inr (3, [.int 0, .ref q2, .ref q3, .ref q4, .ref q5, .ref q6]))] H := hP.sub [0, 1] rfl
  have hD : va_D A [(h0, .inr (4, [.int 0, .int 0, .ref q1, .ref q7, .ref q9, .ref q11, .ref q13, .ref q15, .ref q17, .ref q19, .ref q21, .null, .null, .null, .null, .null, .null, .int 0, .null, .null, .null])), (q1, .inr (3, [.int 0, .ref q2, .ref q3, .ref q4, .ref q5, .ref q6]))] := hD.sub [0, 1] (by decide) rfl
  have hK : va_K (dC, dI) cls [] s := hK.sub [] rfl
  refine W.widen (k := 15) (n := 1826) (Nat.le_of_ble_eq_true rfl) (Nat.le_of_ble_eq_true rfl) ?_
  refine va_putF (D := (dC, dI)) (ci := 4) (v := .ref q23) (ty := .array .int) (C := RX1) (T := TX1) (N := 21) hx hb hts i_X1 tyX1 tyX1_ok nmX1 hown hK hP hD hS 0 rfl rfl 11 (by decide) (hts _ qw48) (fun _ h9 => h9) rfl hin rfl (by decide +kernel) rfl rfl (Nat.le_of_ble_eq_true rfl) dX1_init_87 (fun H locs hP hD hS => ?_)
  have hP : va_P (dC, dI) cls [(h0, .inr (4, [.int 0, .int 0, .ref q1, .ref q7, .ref q9, .ref q11, .ref q13, .ref q15, .ref q17, .ref q19, .ref q21, .ref q23, .null, .null, .null, .null, .null, .int 0, .null, .null, .null])), (q1, .inr (3, [.int 0, .ref q2, .ref q3, .ref q4, .ref q5, .ref q6]))] H := hP
  have hD : va_D A [(h0, .inr (4, [.int 0, .int 0, .ref q1, .ref q7, .ref q9, .ref q11, .ref q13, .ref q15, .ref q17, .ref q19, .ref q21, .ref q23, .null, .null, .null, .null, .null, .int 0, .null, .null, .null])), (q1, .inr (3, [.int 0, .ref q2, .ref q3, .ref q4, .ref q5, .ref q6]))] := hD
  refine lv_aload_n hx hb dX1_init_90 rfl (lv_at hl 0 rfl) ?_
  refine lv_bipush (v := 60) hx hb dX1_init_91 (by decide) ?_
  refine va_newa (atype := .int) (ty := .int) hx hb (hts _ qw2) rfl hK hP hD hS hA (a0 := (60, .inl (fun _ => 0))) (fun _ => rfl) (by decide) (by decide +kernel) (Nat.le_of_ble_eq_true rfl) (Nat.le_of_ble_eq_true rfl) (Nat.le_of_ble_eq_true rfl) dX1_init_93 (fun q25 c26 H hK hP hD hS => ?_)
  have hP : va_P (dC, dI) cls [(h0, .inr (4, [.int 0, .int 0, .ref q1, .ref q7, .ref q9, .ref q11, .ref q13, .ref q15, .ref q17, .ref q19, .ref q21, .ref q23, .null, .null, .null, .null, .null, .int 0, .null, .null, .null])), (q1, .inr (3, [.int 0, .ref q2, .ref q3, .ref q4, .ref q5, .ref q6])), (q25, .inl (c26, 60, .inl (fun _ => 0)))] H := hP
  have hD : va_D A [(h0, .inr (4, [.int 0, .int 0, .ref q1, .ref q7, .ref q9, .ref q11, .ref q13, .ref q15, .ref q17, .ref q19, .ref q21, .ref q23, .null, .null, .null, .null, .null, .int 0, .null, .null, .null])), (q1, .inr (3, [.int 0, .ref q2, .ref q3, .ref q4, .ref q5, .ref q6])), (q25, .inl (c26, 60, .inl (fun _ => 0)))] := hD
  have hK : va_K (dC, dI) cls [(c26, .int)] s := hK
  have hP : va_P (dC, dI) cls [(h0, .inr (4, [.int 0, .int 0, .ref q1, .ref q7, .ref q9, .ref q11, .ref q13, .ref q15, .ref q17, .ref q19, .ref q21, .ref q23, .null, .null, .null, .null, .null, .int 0, .null, .null, .null])), (q1, .inr (3, [.int 0, .ref q2, .ref q3, .ref q4, .ref q5, .ref q6]))] H := hP.sub [0, 1] rfl
  have hD : va_D A [(h0, .inr (4, [.int 0, .int 0, .ref q1, .ref q7, .ref q9, .ref q11, .ref q13, .ref q15, .ref q17, .ref q19, .ref q21, .ref q23, .null, .null, .null, .null, .null, .int 0, .null, .null, .null])), (q1, .inr (3, [.int 0, .ref q2, .ref q3, .ref q4, .ref q5, .ref q6]))] := hD.sub [0, 1] (by decide) rfl
  have hK : va_K (dC, dI) cls [] s := hK.sub [] rfl
  refine W.widen (k := 16) (n := 1886) (Nat.le_of_ble_eq_true rfl) (Nat.le_of_ble_eq_true rfl) ?_
  refine va_putF (D := (dC, dI)) (ci := 4) (v := .ref q25) (ty := .array .int) (C := RX1) (T := TX1) (N := 21) hx hb hts i_X1 tyX1 tyX1_ok nmX1 hown hK hP hD hS 0 rfl rfl 12 (by decide) (hts _ qw49) (fun _ h9 => h9) rfl hin rfl (by decide +kernel) rfl rfl (Nat.le_of_ble_eq_true rfl) dX1_init_95 (fun H locs hP hD hS => ?_)
  have hP : va_P (dC, dI) cls [(h0, .inr (4, [.int 0, .int 0, .ref q1, .ref q7, .ref q9, .ref q11, .ref q13, .ref q15, .ref q17, .ref q19, .ref q21, .ref q23, .ref q25, .null, .null, .null, .null, .int 0, .null, .null, .null])), (q1, .inr (3, [.int 0, .ref q2, .ref q3, .ref q4, .ref q5, .ref q6]))] H := hP
  have hD : va_D A [(h0, .inr (4, [.int 0, .int 0, .ref q1, .ref q7, .ref q9, .ref q11, .ref q13, .ref q15, .ref q17, .ref q19, .ref q21, .ref q23, .ref q25, .null, .null, .null, .null, .int 0, .null, .null, .null])), (q1, .inr (3, [.int 0, .ref q2, .ref q3, .ref q4, .ref q5, .ref q6]))] := hD
  refine lv_aload_n hx hb dX1_init_98 rfl (lv_at hl 0 rfl) ?_
  refine lv_bipush (v := 61) hx hb dX1_init_99 (by decide) ?_
  refine va_newa (atype := .int) (ty := .int) hx hb (hts _ qw2) rfl hK hP hD hS hA (a0 := (61, .inl (fun _ => 0))) (fun _ => rfl) (by decide) (by decide +kernel) (Nat.le_of_ble_eq_true rfl) (Nat.le_of_ble_eq_true rfl) (Nat.le_of_ble_eq_true rfl) dX1_init_101 (fun q27 c28 H hK hP hD hS => ?_)
  have hP : va_P (dC, dI) cls [(h0, .inr (4, [.int 0, .int 0, .ref q1, .ref q7, .ref q9, .ref q11, .ref q13, .ref q15, .ref q17, .ref q19, .ref q21, .ref q23, .ref q25, .null, .null, .null, .null, .int 0, .null, .null, .null])), (q1, .inr (3, [.int 0, .ref q2, .ref q3, .ref q4, .ref q5, .ref q6])), (q27, .inl (c28, 61, .inl (fun _ => 0)))] H := hP
  have hD : va_D A [(h0, .inr (4, [.int 0, .int 0, .ref q1, .ref q7, .ref q9, .ref q11, .ref q13, .ref q15, .ref q17, .ref q19, .ref q21, .ref q23, .ref q25, .null, .null, .null, .null, .int 0, .null, .null, .null])), (q1, .inr (3, [.int 0, .ref q2, .ref q3, .ref q4, .ref q5, .ref q6])), (q27, .inl (c28, 61, .inl (fun _ => 0)))] := hD
  have hK : va_K (dC, dI) cls [(c28, .int)] s := hK
  have hP : va_P (dC, dI) cls [(h0, .inr (4, [.int 0, .int 0, .ref q1, .ref q7, .ref q9, .ref q11, .ref q13, .ref q15, .ref q17, .ref q19, .ref q21, .ref q23, .ref q25, .null, .null, .null, .null, .int 0, .null, .null, .null])), (q1, .inr (3, [.int 0, .ref q2, .ref q3, .ref q4, .ref q5, .ref q6]))] H := hP.sub [0, 1] rfl
  have hD : va_D A [(h0, .inr (4, [.int 0, .int 0, .ref q1, .ref q7, .ref q9, .ref q11, .ref q13, .ref q15, .ref q17, .ref q19, .ref q21, .ref q23, .ref q25, .null, .null, .null, .null, .int 0, .null, .null, .null])), (q1, .inr (3, [.int 0, .ref q2, .ref q3, .ref q4, .ref q5, .ref q6]))] := hD.sub [0, 1] (by decide) rfl
  have hK : va_K (dC, dI) cls [] s := hK.sub [] rfl
  refine W.widen (k := 17) (n := 1947) (Nat.le_of_ble_eq_true rfl) (Nat.le_of_ble_eq_true rfl) ?_
  refine va_putF (D := (dC, dI)) (ci := 4) (v := .ref q27) (ty := .array .int) (C := RX1) (T := TX1) (N := 21) hx hb hts i_X1 tyX1 tyX1_ok nmX1 hown hK hP hD hS 0 rfl rfl 13 (by decide) (hts _ qw50) (fun _ h9 => h9) rfl hin rfl (by decide +kernel) rfl rfl (Nat.le_of_ble_eq_true rfl) dX1_init_103 (fun H locs hP hD hS => ?_)
  have hP : va_P (dC, dI) cls [(h0, .inr (4, [.int 0, .int 0, .ref q1, .ref q7, .ref q9, .ref q11, .ref q13, .ref q15, .ref q17, .ref q19, .ref q21, .ref q23, .ref q25, .ref q27, .null, .null, .null, .int 0, .null, .null, .null])), (q1, .inr (3, [.int 0, .ref q2, .ref q3, .ref q4, .ref q5, .ref q6]))] H := hP
  have hD : va_D A [(h0, .inr (4, [.int 0, .int 0, .ref q1, .ref q7, .ref q9, .ref q11, .ref q13, .ref q15, .ref q17, .ref q19, .ref q21, .ref q23, .ref q25, .ref q27, .null, .null, .null, .int 0, .null, .null, .null])), (q1, .inr (3, [.int 0, .ref q2, .ref q3, .ref q4, .ref q5, .ref q6]))] := hD
  refine lv_aload_n hx hb dX1_init_106 rfl (lv_at hl 0 rfl) ?_
  refine lv_bipush (v := 120) hx hb dX1_init_107 (by decide) ?_
  refine va_newa (atype := .int) (ty := .int) hx hb (hts _ qw2) rfl hK hP hD hS hA (a0 := (120, .inl (fun _ => 0))) (fun _ => rfl) (by decide) (by decide +kernel) (Nat.le_of_ble_eq_true rfl) (Nat.le_of_ble_eq_true rfl) (Nat.le_of_ble_eq_true rfl) dX1_init_109 (fun q29 c30 H hK hP hD hS => ?_)
  have hP : va_P (dC, dI) cls [(h0, .inr (4, [.int 0, .int 0, .ref q1, .ref q7, .ref q9, .ref q11, .ref q13, .ref q15, .ref q17, .ref q19, .ref q21, .ref q23, .ref q25, .ref q27, .null, .null, .null, .int 0, .null, .null, .null])), (q1, .inr (3, [.int 0, .ref q2, .ref q3, .ref q4, .ref q5, .ref q6])), (q29, .inl (c30, 120, .inl (fun _ => 0)))] H := hP
  have hD : va_D A [(h0, .inr (4, [.int 0, .int 0, .ref q1, .ref q7, .ref q9, .ref q11, .ref q13, .ref q15, .ref q17, .ref q19, .ref q21, .ref q23, .ref q25, .ref q27, .null, .null, .null, .int 0, .null, .null, .null])), (q1, .inr (3, [.int 0, .ref q2, .ref q3, .ref q4, .ref q5, .ref q6])), (q29, .inl (c30, 120, .inl (fun _ => 0)))] := hD
  have hK : va_K (dC, dI) cls [(c30, .int)] s := hK
  have hP : va_P (dC, dI) cls [(h0, .inr (4, [.int 0, .int 0, .ref q1, .ref q7, .ref q9, .ref q11, .ref q13, .ref q15, .ref q17, .ref q19, .ref q21, .ref q23, .ref q25, .ref q27, .null, .null, .null, .int 0, .null, .null, .null])), (q1, .inr (3, [.int 0, .ref q2, .ref q3, .ref q4, .ref q5, .ref q6]))] H := hP.sub [0, 1] rfl
  have hD : va_D A [(h0, .inr (4, [.int 0, .int 0, .ref q1, .ref q7, .ref q9, .ref q11, .ref q13, .ref q15, .ref q17, .ref q19, .ref q21, .ref q23, .ref q25, .ref q27, .null, .null, .null, .int 0, .null, .null, .null])), (q1, .inr (3, [.int 0, .ref q2, .ref q3, .ref q4, .ref q5, .ref q6]))] := hD.sub [0, 1] (by decide) rfl
  have hK : va_K (dC, dI) cls [] s := hK.sub [] rfl
  refine W.widen (k := 18) (n := 2067) (Nat.le_of_ble_eq_true rfl) (Nat.le_of_ble_eq_true rfl) ?_
  refine va_putF (D := (dC, dI)) (ci := 4) (v := .ref q29) (ty := .array .int) (C := RX1) (T := TX1) (N := 21) hx hb hts i_X1 tyX1 tyX1_ok nmX1 hown hK hP hD hS 0 rfl rfl 14 (by decide) (hts _ qw51) (fun _ h9 => h9) rfl hin rfl (by decide +kernel) rfl rfl (Nat.le_of_ble_eq_true rfl) dX1_init_111 (fun H locs hP hD hS => ?_)
  have hP : va_P (dC, dI) cls [(h0, .inr (4, [.int 0, .int 0, .ref q1, .ref q7, .ref q9, .ref q11, .ref q13, .ref q15, .ref q17, .ref q19, .ref q21, .ref q23, .ref q25, .ref q27, .ref q29, .null, .null, .int 0, .null, .null, .null])), (q1, .inr (3, [.int 0, .ref q2, .ref q3, .ref q4, .ref q5, .ref q6]))] H := hP
  have hD : va_D A [(h0, .inr (4, [.int 0, .int 0, .ref q1, .ref q7, .ref q9, .ref q11, .ref q13, .ref q15, .ref q17, .ref q19, .ref q21, .ref q23, .ref q25, .ref q27, .ref q29, .null, .null, .int 0, .null, .null, .null])), (q1, .inr (3, [.int 0, .ref q2, .ref q3, .ref q4, .ref q5, .ref q6]))] := hD
  refine lv_aload_n hx hb dX1_init_114 rfl (lv_at hl 0 rfl) ?_
  refine lv_bipush (v := 60) hx hb dX1_init_115 (by decide) ?_
  refine va_newa (atype := .long) (ty := .long) hx hb (hts _ qw5) rfl hK hP hD hS hA (a0 := (60, .inr <| .inl (fun _ => 0))) (fun _ => rfl) (by decide) (by decide +kernel) (Nat.le_of_ble_eq_true rfl) (Nat.le_of_ble_eq_true rfl) (Nat.le_of_ble_eq_true rfl) dX1_init_117 (fun q31 c32 H hK hP hD hS => ?_)
  have hP : va_P (dC, dI) cls [(h0, .inr (4, [.int 0, .int 0, .ref q1, .ref q7, .ref q9, .ref q11, .ref q13, .ref q15, .ref q17, .ref q19, .ref q21, .ref q23, .ref q25, .ref q27, .ref q29, .null, .null, .int 0, .null, .null, .null])), (q1, .inr (3, [.int 0, .ref q2, .ref q3, .ref q4, .ref q5, .ref q6])), (q31, .inl (c32, 60, .inr (.inl (fun _ => 0))))] H := hP
  have hD : va_D A [(h0, .inr (4, [.int 0, .int 0, .ref q1, .ref q7, .ref q9, .ref q11, .ref q13, .ref q15, .ref q17, .ref q19, .ref q21, .ref q23, .ref q25, .ref q27, .ref q29, .null, .null, .int 0, .null, .null, .null])), (q1, .inr (3, [.int 0, .ref q2, .ref q3, .ref q4, .ref q5, .ref q6])), (q31, .inl (c32, 60, .inr (.inl (fun _ => 0))))] := hD
  have hK : va_K (dC, dI) cls [(c32, .long)] s := hK
  have hP : va_P (dC, dI) cls [(h0, .inr (4, [.int 0, .int 0, .ref q1, .ref q7, .ref q9, .ref q11, .ref q13, .ref q15, .ref q17, .ref q19, .ref q21, .ref q23, .ref q25, .ref q27, .ref q29, .null, .null, .int 0, .null, .null, .null])), (q1, .inr (3, [.int 0, .ref q2, .ref q3, .ref q4, .ref q5, .ref q6]))] H := hP.sub [0, 1] rfl
  have hD : va_D A [(h0, .inr (4, [.int 0, .int 0, .ref q1, .ref q7, .ref q9, .ref q11, .ref q13, .ref q15, .ref q17, .ref q19, .ref q21, .ref q23, .ref q25, .ref q27, .ref q29, .null, .null, .int 0, .null, .null, .null])), (q1, .inr (3, [.int 0, .ref q2, .ref q3, .ref q4, .ref q5, .ref q6]))] := hD.sub [0, 1] (by decide) rfl
  have hK : va_K (dC, dI) cls [] s := hK.sub [] rfl
  refine W.widen (k := 19) (n := 2127) (Nat.le_of_ble_eq_true rfl) (Nat.le_of_ble_eq_true rfl) ?_
  refine va_putF (D := (dC, dI)) (ci := 4) (v := .ref q31) (ty := .array .long) (C := RX1) (T := TX1) (N := 21) hx hb hts i_X1 tyX1 tyX1_ok nmX1 hown hK hP hD hS 0 rfl rfl 15 (by decide) (hts _ qw52) (fun _ h9 => h9) rfl hin rfl (by decide +kernel) rfl rfl (Nat.le_of_ble_eq_true rfl) dX1_init_119 (fun H locs hP hD hS => ?_)
  have hP : va_P (dC, dI) cls [(h0, .inr (4, [.int 0, .int 0, .ref q1, .ref q7, .ref q9, .ref q11, .ref q13, .ref q15, .ref q17, .ref q19, .ref q21, .ref q23, .ref q25, .ref q27, .ref q29, .ref q31, .null, .int 0, .null, .null, .null])), (q1, .inr (3, [.int 0, .ref q2, .ref q3, .ref q4, .ref q5, .ref q6]))] H := hP
  have hD : va_D A [(h0, .inr (4, [.int 0, .int 0, .ref q1, .ref q7, .ref q9, .ref q11, .ref q13, .ref q15, .ref q17, .ref q19, .ref q21, .ref q23, .ref q25, .ref q27, .ref q29, .ref q31, .null, .int 0, .null, .null, .null])), (q1, .inr (3, [.int 0, .ref q2, .ref q3, .ref q4, .ref q5, .ref q6]))] := hD
  refine lv_aload_n hx hb dX1_init_122 rfl (lv_at hl 0 rfl) ?_
  refine lv_bipush (v := 60) hx hb dX1_init_123 (by decide) ?_
  refine va_newa (atype := .long) (ty := .long) hx hb (hts _ qw5) rfl hK hP hD hS hA (a0 := (60, .inr <| .inl (fun _ => 0))) (fun _ => rfl) (by decide) (by decide +kernel) (Nat.le_of_ble_eq_true rfl) (Nat.le_of_ble_eq_true rfl) (Nat.le_of_ble_eq_true rfl) dX1_init_125 (fun q33 c34 H hK hP hD hS => ?_)
  have hP : va_P (dC, dI) cls [(h0, .inr (4, [.int 0, .int 0, .ref q1, .ref q7, .ref q9, .ref q11, .ref q13, .ref q15, .ref q17, .ref q19, .ref q21, .ref q23, .ref q25, .ref q27, .ref q29, .ref q31, .null, .int 0, .null, .null, .null])), (q1, .inr (3, [.int 0, .ref q2, .ref q3, .ref q4, .ref q5, .ref q6])), (q33, .inl (c34, 60, .inr (.inl (fun _ => 0))))] H := hP
  have hD : va_D A [(h0, .inr (4, [.int 0, .int 0, .ref q1, .ref q7, .ref q9, .ref q11, .ref q13, .ref q15, .ref q17, .ref q19, .ref q21, .ref q23, .ref q25, .ref q27, .ref q29, .ref q31, .null, .int 0, .null, .null, .null])), (q1, .inr (3, [.int 0, .ref q2, .ref q3, .ref q4, .ref q5, .ref q6])), (q33, .inl (c34, 60, .inr (.inl (fun _ => 0))))] := hD
  have hK : va_K (dC, dI) cls [(c34, .long)] s := hK
  have hP : va_P (dC, dI) cls [(h0, .inr (4, [.int 0, .int 0, .ref q1, .ref q7, .ref q9, .ref q11, .ref q13, .ref q15, .ref q17, .ref q19, .ref q21, .ref q23, .ref q25, .ref q27, .ref q29, .ref q31, .null, .int 0, .null, .null, .null])), (q1, .inr (3, [.int 0, .ref q2, .ref q3, .ref q4, .ref q5, .ref q6]))] H := hP.sub [0, 1] rfl
  have hD : va_D A [(h0, .inr (4, [.int 0, .int 0, .ref q1, .ref q7, .ref q9, .ref q11, .ref q13, .ref q15, .ref q17, .ref q19, .ref q21, .ref q23, .ref q25, .ref q27, .ref q29, .ref q31, .null, .int 0, .null, .null, .null])), (q1, .inr (3, [.int 0, .ref q2, .ref q3, .ref q4, .ref q5, .ref q6]))] := hD.sub [0, 1] (by decide) rfl
  have hK : va_K (dC, dI) cls [] s := hK.sub [] rfl
  refine W.widen (k := 20) (n := 2187) (Nat.le_of_ble_eq_true rfl) (Nat.le_of_ble_eq_true rfl) ?_
  refine va_putF (D := (dC, dI)) (ci := 4) (v := .ref q33) (ty := .array .long) (C := RX1) (T := TX1) (N := 21) hx hb hts i_X1 tyX1 tyX1_ok nmX1 hown hK hP hD hS 0 rfl rfl 16 (by decide) (hts _ qw53) (fun _ h9 => h9) rfl hin rfl (by decide +kernel) rfl rfl (Nat.le_of_ble_eq_true rfl) dX1_init_127 (fun H locs hP hD hS => ?_)
  have hP : va_P (dC, dI) cls [(h0, .inr (4, [.int 0, .int 0, .ref q1, .ref q7, .ref q9, .ref q11, .ref q13, .ref q15, .ref q17, .ref q19, .ref q21, .ref q23, .ref q25, .ref q27, .ref q29, .ref q31, .ref q33, .int 0, .null, .null, .null])), (q1, .inr (3, [.int 0, .ref q2, .ref q3, .ref q4, .ref q5, .ref q6]))] H := hP
  have hD : va_D A [(h0, .inr (4, [.int 0, .int 0, .ref q1, .ref q7, .ref q9, .ref q11, .ref q13, .ref q15, .ref q17, .ref q19, .ref q21, .ref q23, .ref q25, .ref q27, .ref q29, .ref q31, .ref q33, .int 0, .null, .null, .null])), (q1, .inr (3, [.int 0, .ref q2, .ref q3, .ref q4, .ref q5, .ref q6]))] := hD
  refine lv_aload_n hx hb dX1_init_130 rfl (lv_at hl 0 rfl) ?_
  refine lv_bipush (v := 32) hx hb dX1_init_131 (by decide) ?_
  refine va_newa (atype := .int) (ty := .int) hx hb (hts _ qw2) rfl hK hP hD hS hA (a0 := (32, .inl (fun _ => 0))) (fun _ => rfl) (by decide) (by decide +kernel) (Nat.le_of_ble_eq_true rfl) (Nat.le_of_ble_eq_true rfl) (Nat.le_of_ble_eq_true rfl) dX1_init_133 (fun q35 c36 H hK hP hD hS => ?_)
  have hP : va_P (dC, dI) cls [(h0, .inr (4, [.int 0, .int 0, .ref q1, .ref q7, .ref q9, .ref q11, .ref q13, .ref q15, .ref q17, .ref q19, .ref q21, .ref q23, .ref q25, .ref q27, .ref q29, .ref q31, .ref q33, .int 0, .null, .null, .null])), (q1, .inr (3, [.int 0, .ref q2, .ref q3, .ref q4, .ref q5, .ref q6])), (q35, .inl (c36, 32, .inl (fun _ => 0)))] H := hP
  have hD : va_D A [(h0, .inr (4, [.int 0, .int 0, .ref q1, .ref q7, .ref q9, .ref q11, .ref q13, .ref q15, .ref q17, .ref q19, .ref q21, .ref q23, .ref q25, .ref q27, .ref q29, .ref q31, .ref q33, .int 0, .null, .null, .null])), (q1, .inr (3, [.int 0, .ref q2, .ref q3, .ref q4, .ref q5, .ref q6])), (q35, .inl (c36, 32, .inl (fun _ => 0)))] := hD
  have hK : va_K (dC, dI) cls [(c36, .int)] s := hK
  have hP : va_P (dC, dI) cls [(h0, .inr (4, [.int 0, .int 0, .ref q1, .ref q7, .ref q9, .ref q11, .ref q13, .ref q15, .ref q17, .ref q19, .ref q21, .ref q23, .ref q25, .ref q27, .ref q29, .ref q31, .ref q33, .int 0, .null, .null, .null])), (q1, .inr (3, [.int 0, .ref q2, .ref q3, .ref q4, .ref q5, .ref q6]))] H := hP.sub [0, 1] rfl
  have hD : va_D A [(h0, .inr (4, [.int 0, .int 0, .ref q1, .ref q7, .ref q9, .ref q11, .ref q13, .ref q15, .ref q17, .ref q19, .ref q21, .ref q23, .ref q25, .ref q27, .ref q29, .ref q31, .ref q33, .int 0, .null, .null, .null])), (q1, .inr (3, [.int 0, .ref q2, .ref q3, .ref q4, .ref q5, .ref q6]))] := hD.sub [0, 1] (by decide) rfl
  have hK : va_K (dC, dI) cls [] s := hK.sub [] rfl
  refine W.widen (k := 21) (n := 2219) (Nat.le_of_ble_eq_true rfl) (Nat.le_of_ble_eq_true rfl) ?_
  refine va_put (D := (dC, dI)) (ci := 4) (v := .ref q35) (ty := .array .int) (C := RX1) (T := TX1) (N := 21) hx hb hts i_X1 tyX1 tyX1_ok nmX1 hown hK hP hD hS 0 rfl rfl 18 (by decide) (hts _ qw54) (fun _ h9 => h9) rfl (by decide +kernel) rfl rfl (Nat.le_of_ble_eq_true rfl) dX1_init_135 (fun H locs hP hD hS => ?_)
  have hP : va_P (dC, dI) cls [(h0, .inr (4, [.int 0, .int 0, .ref q1, .ref q7, .ref q9, .ref q11, .ref q13, .ref q15, .ref q17, .ref q19, .ref q21, .ref q23, .ref q25, .ref q27, .ref q29, .ref q31, .ref q33, .int 0, .ref q35, .null, .null])), (q1, .inr (3, [.int 0, .ref q2, .ref q3, .ref q4, .ref q5, .ref q6]))] H := hP
  have hD : va_D A [(h0, .inr (4, [.int 0, .int 0, .ref q1, .ref q7, .ref q9, .ref q11, .ref q13, .ref q15, .ref q17, .ref q19, .ref q21, .ref q23, .ref q25, .ref q27, .ref q29, .ref q31, .ref q33, .int 0, .ref q35, .null, .null])), (q1, .inr (3, [.int 0, .ref q2, .ref q3, .ref q4, .ref q5, .ref q6]))] := hD
  refine lv_aload_n hx hb dX1_init_138 rfl (lv_at hl 0 rfl) ?_
  refine lv_bipush (v := 32) hx hb dX1_init_139 (by decide) ?_
  refine va_newa (atype := .int) (ty := .int) hx hb (hts _ qw2) rfl hK hP hD hS hA (a0 := (32, .inl (fun _ => 0))) (fun _ => rfl) (by decide) (by decide +kernel) (Nat.le_of_ble_eq_true rfl) (Nat.le_of_ble_eq_true rfl) (Nat.le_of_ble_eq_true rfl) dX1_init_141 (fun q37 c38 H hK hP hD hS => ?_)
  have hP : va_P (dC, dI) cls [(h0, .inr (4, [.int 0, .int 0, .ref q1, .ref q7, .ref q9, .ref q11, .ref q13, .ref q15, .ref q17, .ref q19, .ref q21, .ref q23, .ref q25, .ref q27, .ref q29, .ref q31, .ref q33, .int 0, .ref q35, .null, .null])), (q1, .inr (3, [.int 0, .ref q2, .ref q3, .ref q4, .ref q5, .ref q6])), (q37, .inl (c38, 32, .inl (fun _ => 0)))] H := hP
  have hD : va_D A [(h0, .inr (4, [.int 0, .int 0, .ref q1, .ref q7, .ref q9, .ref q11, .ref q13, .ref q15, .ref q17, .ref q19, .ref q21, .ref q23, .ref q25, .ref q27, .ref q29, .ref q31, .ref q33, .int 0, .ref q35, .null, .null])), (q1, .inr (3, [.int 0, .ref q2, .ref q3, .ref q4, .ref q5, .ref q6])), (q37, .inl (c38, 32, .inl (fun _ => 0)))] := hD
  have hK : va_K (dC, dI) cls [(c38, .int)] s := hK
  have hP : va_P (dC, dI) cls [(h0, .inr (4, [.int 0, .int 0, .ref q1, .ref q7, .ref q9, .ref q11, .ref q13, .ref q15, .ref q17, .ref q19, .ref q21, .ref q23, .ref q25, .ref q27, .ref q29, .ref q31, .ref q33, .int 0, .ref q35, .null, .null])), (q1, .inr (3, [.int 0, .ref q2, .ref q3, .ref q4, .ref q5, .ref q6]))] H := hP.sub [0, 1] rfl
  have hD : va_D A [(h0, .inr (4, [.int 0, .int 0, .ref q1, .ref q7, .ref q9, .ref q11, .ref q13, .ref q15, .ref q17, .ref q19, .ref q21, .ref q23, .ref q25, .ref q27, .ref q29, .ref q31, .ref q33, .int 0, .ref q35, .null, .null])), (q1, .inr (3, [.int 0, .ref q2, .ref q3, .ref q4, .ref q5, .ref q6]))] := hD.sub [0, 1] (by decide) rfl
  have hK : va_K (dC, dI) cls [] s := hK.sub [] rfl
  refine W.widen (k := 22) (n := 2251) (Nat.le_of_ble_eq_true rfl) (Nat.le_of_ble_eq_true rfl) ?_
  refine va_put (D := (dC, dI)) (ci := 4) (v := .ref q37) (ty := .array .int) (C := RX1) (T := TX1) (N := 21) hx hb hts i_X1 tyX1 tyX1_ok nmX1 hown hK hP hD hS 0 rfl rfl 19 (by decide) (hts _ qw55) (fun _ h9 => h9) rfl (by decide +kernel) rfl rfl (Nat.le_of_ble_eq_true rfl) dX1_init_143 (fun H locs hP hD hS => ?_)
  have hP : va_P (dC, dI) cls [(h0, .inr (4, [.int 0, .int 0, .ref q1, .ref q7, .ref q9, .ref q11, .ref q13, .ref q15, .ref q17, .ref q19, .ref q21, .ref q23, .ref q25, .ref q27, .ref q29, .ref q31, .ref q33, .int 0, .ref q35, .ref q37, .null])), (q1, .inr (3, [.int 0, .ref q2, .ref q3, .ref q4, .ref q5, .ref q6]))] H := hP
  have hD : va_D A [(h0, .inr (4, [.int 0, .int 0, .ref q1, .ref q7, .ref q9, .ref q11, .ref q13, .ref q15, .ref q17, .ref q19, .ref q21, .ref q23, .ref q25, .ref q27, .ref q29, .ref q31, .ref q33, .int 0, .ref q35, .ref q37, .null])), (q1, .inr (3, [.int 0, .ref q2, .ref q3, .ref q4, .ref q5, .ref q6]))] := hD
  refine lv_aload_n hx hb dX1_init_146 rfl (lv_at hl 0 rfl) ?_
  refine lv_sipush (v := 1920) hx hb dX1_init_147 (by decide) ?_
  refine va_newa (atype := .int) (ty := .int) hx hb (hts _ qw2) rfl hK hP hD hS hA (a0 := (1920, .inl (fun _ => 0))) (fun _ => rfl) (by decide) (by decide +kernel) (Nat.le_of_ble_eq_true rfl) (Nat.le_of_ble_eq_true rfl) (Nat.le_of_ble_eq_true rfl) dX1_init_150 (fun q39 c40 H hK hP hD hS => ?_)
  have hP : va_P (dC, dI) cls [(h0, .inr (4, [.int 0, .int 0, .ref q1, .ref q7, .ref q9, .ref q11, .ref q13, .ref q15, .ref q17, .ref q19, .ref q21, .ref q23, .ref q25, .ref q27, .ref q29, .ref q31, .ref q33, .int 0, .ref q35, .ref q37, .null])), (q1, .inr (3, [.int 0, .ref q2, .ref q3, .ref q4, .ref q5, .ref q6])), (q39, .inl (c40, 1920, .inl (fun _ => 0)))] H := hP
  have hD : va_D A [(h0, .inr (4, [.int 0, .int 0, .ref q1, .ref q7, .ref q9, .ref q11, .ref q13, .ref q15, .ref q17, .ref q19, .ref q21, .ref q23, .ref q25, .ref q27, .ref q29, .ref q31, .ref q33, .int 0, .ref q35, .ref q37, .null])), (q1, .inr (3, [.int 0, .ref q2, .ref q3, .ref q4, .ref q5, .ref q6])), (q39, .inl (c40, 1920, .inl (fun _ => 0)))] := hD
  have hK : va_K (dC, dI) cls [(c40, .int)] s := hK
  have hP : va_P (dC, dI) cls [(h0, .inr (4, [.int 0, .int 0, .ref q1, .ref q7, .ref q9, .ref q11, .ref q13, .ref q15, .ref q17, .ref q19, .ref q21, .ref q23, .ref q25, .ref q27, .ref q29, .ref q31, .ref q33, .int 0, .ref q35, .ref q37, .null])), (q1, .inr (3, [.int 0, .ref q2, .ref q3, .ref q4, .ref q5, .ref q6]))] H := hP.sub [0, 1] rfl
  have hD : va_D A [(h0, .inr (4, [.int 0, .int 0, .ref q1, .ref q7, .ref q9, .ref q11, .ref q13, .ref q15, .ref q17, .ref q19, .ref q21, .ref q23, .ref q25, .ref q27, .ref q29, .ref q31, .ref q33, .int 0, .ref q35, .ref q37, .null])), (q1, .inr (3, [.int 0, .ref q2, .ref q3, .ref q4, .ref q5, .ref q6]))] := hD.sub [0, 1] (by decide) rfl
  have hK : va_K (dC, dI) cls [] s := hK.sub [] rfl
  refine W.widen (k := 23) (n := 4171) (Nat.le_of_ble_eq_true rfl) (Nat.le_of_ble_eq_true rfl) ?_
  refine va_put (D := (dC, dI)) (ci := 4) (v := .ref q39) (ty := .array .int) (C := RX1) (T := TX1) (N := 21) hx hb hts i_X1 tyX1 tyX1_ok nmX1 hown hK hP hD hS 0 rfl rfl 20 (by decide) (hts _ qw56) (fun _ h9 => h9) rfl (by decide +kernel) rfl rfl (Nat.le_of_ble_eq_true rfl) dX1_init_152 (fun H locs hP hD hS => ?_)
  have hP : va_P (dC, dI) cls [(h0, .inr (4, [.int 0, .int 0, .ref q1, .ref q7, .ref q9, .ref q11, .ref q13, .ref q15, .ref q17, .ref q19, .ref q21, .ref q23, .ref q25, .ref q27, .ref q29, .ref q31, .ref q33, .int 0, .ref q35, .ref q37, .ref q39])), (q1, .inr (3, [.int 0, .ref q2, .ref q3, .ref q4, .ref q5, .ref q6]))] H := hP
  have hD : va_D A [(h0, .inr (4, [.int 0, .int 0, .ref q1, .ref q7, .ref q9, .ref q11, .ref q13, .ref q15, .ref q17, .ref q19, .ref q21, .ref q23, .ref q25, .ref q27, .ref q29, .ref q31, .ref q33, .int 0, .ref q35, .ref q37, .ref q39])), (q1, .inr (3, [.int 0, .ref q2, .ref q3, .ref q4, .ref q5, .ref q6]))] := hD
  have hP9 : va_P (dC, dI) cls [(h0, .inr (4, [.int 0, .int 0, .ref q1, .ref q7, .ref q9, .ref q11, .ref q13, .ref q15, .ref q17, .ref q19, .ref q21, .ref q23, .ref q25, .ref q27, .ref q29, .ref q31, .ref q33, .int 0, .ref q35, .ref q37, .ref q39]))] H := hP.sub [0] rfl
  have hD9 : va_D A [(h0, .inr (4, [.int 0, .int 0, .ref q1, .ref q7, .ref q9, .ref q11, .ref q13, .ref q15, .ref q17, .ref q19, .ref q21, .ref q23, .ref q25, .ref q27, .ref q29, .ref q31, .ref q33, .int 0, .ref q35, .ref q37, .ref q39]))] := hD.sub [0] (by decide) rfl
  have hK9 : va_K (dC, dI) cls [] s := hK.sub [] rfl
  exact W.vret hx hb hr (fun t ht hW => ⟨⟨(), rfl, trivial, ⟨q1, q7, q9, q11, q13, q15, q17, q19, q21, q23, q25, q27, q29, q31, q33, q35, q37, q39, ⟨by rw [ht]; exact hP9, va_K.moved hW.alike hK9, hD9⟩⟩⟩, hS.F ht⟩) hS.2.2 dX1_init_155
set_option maxHeartbeats 4000000 in
set_option maxRecDepth 100000 in
theorem kX8_init {zs : Nat × Nat} (l : Launch) (dC : Nat → ClassId) (dI : Nat → Nat → Nat) (h0 : Nat) (sz : Nat)  : Met l yX8_init (wz yX8_init cX8_init 1 (Option.none : Option Jvm.ClassFile.FieldType)) ({ frames := 1, cells := 5, slots := 300, locals := 12 }) (va_Pc [.ref h0] (PRE zs dC dI [(h0, .inr (5, [.null, .null, .null, .null, .null]))] [] sz)) (va_Qv (fun (_ : Unit) => True) (fun _ t => POST dC dI [] [] (va_A [(h0, .inr (5, [.null, .null, .null, .null, .null]))] sz) t) (va_A [(h0, .inr (5, [.null, .null, .null, .null, .null]))] sz)) 5 300 (va_A [(h0, .inr (5, [.null, .null, .null, .null, .null]))] sz) := by
  refine Met.ofW (cc := cX8_init) (maxL := 1) (ret := (Option.none : Option Jvm.ClassFile.FieldType)) (by decide) rfl ?_
  intro p e s m args below meth c s₁ B hml hv
  obtain ⟨rfl, hsz, hP, hK, hD0, hE⟩ := hv
  have hx := B.exec
  have hb := B.bytes
  have hr := B.returns
  have hts0 := atoms_spec (ws := wz yX8_init cX8_init 1 (Option.none : Option Jvm.ClassFile.FieldType)) B.pre
  have hts : ∀ w ∈ gw, w.before _ s = true := fun w h => hts0 w (List.mem_cons_of_mem _ h)
  have hown : s.vm.findClass RX8 = some m.cls := findClass_of_methodNamed B.named
  have hlocks := B.notSynchronized
  have hin : meth.name = "<init>" := (name_of_methodNamed B.named B.method).1
  subst hsz
  have hD := hD0.self (sz := s.heap.size)
  generalize hAe : va_A [(h0, .inr (5, [.null, .null, .null, .null, .null]))] s.heap.size = A at hD hE ⊢
  have hA : ∀ q : Nat, s.heap.size ≤ q → A q := fun q h => by rw [← hAe]; exact Or.inr h
  have hS : va_S A s.heap s.heap [] := va_S.rf
  have hP : va_P (dC, dI) cls [(h0, .inr (5, [.null, .null, .null, .null, .null]))] s.heap := hP
  have hl := lv_entry ([.ref h0]) (n := 1) (Nat.le_of_ble_eq_true rfl)
  rw [lg_entry_eq]
  generalize (lg_sl ([.ref h0]) ++ List.replicate (1 - (lg_sl ([.ref h0])).length) Slot.unset).toArray = ls at hl ⊢
  have hl : lv_has ls 1 [(0, .ref h0)] := hl
  refine lv_aload_n hx hb dX8_init_0 rfl (lv_at hl 0 rfl) ?_
  refine W.objInit hx hb hown (hts _ qw57) (hts _ qw1) (hts _ qw_oi) rfl (by rw [hml]; exact hl.1) rfl dX8_init_1 (Nat.le_of_ble_eq_true rfl) (Nat.le_of_ble_eq_true rfl) ?_
  refine W.eq (g2 := F0 m 4 ls []) rfl ?_
  refine lv_aload_n hx hb dX8_init_4 rfl (lv_at hl 0 rfl) ?_
  refine lv_bipush (v := 60) hx hb dX8_init_5 (by decide) ?_
  refine va_newa (atype := .int) (ty := .int) hx hb (hts _ qw2) rfl hK hP hD hS hA (a0 := (60, .inl (fun _ => 0))) (fun _ => rfl) (by decide) (by decide +kernel) (Nat.le_of_ble_eq_true rfl) (Nat.le_of_ble_eq_true rfl) (Nat.le_of_ble_eq_true rfl) dX8_init_7 (fun q1 c2 H hK hP hD hS => ?_)
  have hP : va_P (dC, dI) cls [(h0, .inr (5, [.null, .null, .null, .null, .null])), (q1, .inl (c2, 60, .inl (fun _ => 0)))] H := hP
  have hD : va_D A [(h0, .inr (5, [.null, .null, .null, .null, .null])), (q1, .inl (c2, 60, .inl (fun _ => 0)))] := hD
  have hK : va_K (dC, dI) cls [(c2, .int)] s := hK
  have hP : va_P (dC, dI) cls [(h0, .inr (5, [.null, .null, .null, .null, .null]))] H := hP.sub [0] rfl
  have hD : va_D A [(h0, .inr (5, [.null, .null, .null, .null, .null]))] := hD.sub [0] (by decide) rfl
  have hK : va_K (dC, dI) cls [] s := hK.sub [] rfl
  refine W.widen (k := 1) (n := 60) (Nat.le_of_ble_eq_true rfl) (Nat.le_of_ble_eq_true rfl) ?_
  refine va_putF (D := (dC, dI)) (ci := 5) (v := .ref q1) (ty := .array .int) (C := RX8) (T := TX8) (N := 5) hx hb hts i_X8 tyX8 tyX8_ok nmX8 hown hK hP hD hS 0 rfl rfl 0 (by decide) (hts _ qw58) (fun _ h9 => h9) rfl hin rfl (by decide +kernel) rfl rfl (Nat.le_of_ble_eq_true rfl) dX8_init_9 (fun H locs hP hD hS => ?_)
  have hP : va_P (dC, dI) cls [(h0, .inr (5, [.ref q1, .null, .null, .null, .null]))] H := hP
  have hD : va_D A [(h0, .inr (5, [.ref q1, .null, .null, .null, .null]))] := hD
  refine lv_aload_n hx hb dX8_init_12 rfl (lv_at hl 0 rfl) ?_
  refine lv_bipush (v := 60) hx hb dX8_init_13 (by decide) ?_
  refine va_newa (atype := .int) (ty := .int) hx hb (hts _ qw2) rfl hK hP hD hS hA (a0 := (60, .inl (fun _ => 0))) (fun _ => rfl) (by decide) (by decide +kernel) (Nat.le_of_ble_eq_true rfl) (Nat.le_of_ble_eq_true rfl) (Nat.le_of_ble_eq_true rfl) dX8_init_15 (fun q3 c4 H hK hP hD hS => ?_)
  have hP : va_P (dC, dI) cls [(h0, .inr (5, [.ref q1, .null, .null, .null, .null])), (q3, .inl (c4, 60, .inl (fun _ => 0)))] H := hP
  have hD : va_D A [(h0, .inr (5, [.ref q1, .null, .null, .null, .null])), (q3, .inl (c4, 60, .inl (fun _ => 0)))] := hD
  have hK : va_K (dC, dI) cls [(c4, .int)] s := hK
  have hP : va_P (dC, dI) cls [(h0, .inr (5, [.ref q1, .null, .null, .null, .null]))] H := hP.sub [0] rfl
  have hD : va_D A [(h0, .inr (5, [.ref q1, .null, .null, .null, .null]))] := hD.sub [0] (by decide) rfl
  have hK : va_K (dC, dI) cls [] s := hK.sub [] rfl
  refine W.widen (k := 2) (n := 120) (Nat.le_of_ble_eq_true rfl) (Nat.le_of_ble_eq_true rfl) ?_
  refine va_putF (D := (dC, dI)) (ci := 5) (v := .ref q3) (ty := .array .int) (C := RX8) (T := TX8) (N := 5) hx hb hts i_X8 tyX8 tyX8_ok nmX8 hown hK hP hD hS 0 rfl rfl 1 (by decide) (hts _ qw59) (fun _ h9 => h9) rfl hin rfl (by decide +kernel) rfl rfl (Nat.le_of_ble_eq_true rfl) dX8_init_17 (fun H locs hP hD hS => ?_)
  have hP : va_P (dC, dI) cls [(h0, .inr (5, [.ref q1, .ref q3, .null, .null, .null]))] H := hP
  have hD : va_D A [(h0, .inr (5, [.ref q1, .ref q3, .null, .null, .null]))] := hD
  refine lv_aload_n hx hb dX8_init_20 rfl (lv_at hl 0 rfl) ?_
  refine lv_bipush (v := 60) hx hb dX8_init_21 (by decide) ?_
  refine va_newa (atype := .int) (ty := .int) hx hb (hts _ qw2) rfl hK hP hD hS hA (a0 := (60, .inl (fun _ => 0))) (fun _ => rfl) (by decide) (by decide +kernel) (Nat.le_of_ble_eq_true rfl) (Nat.le_of_ble_eq_true rfl) (Nat.le_of_ble_eq_true rfl) dX8_init_23 (fun q5 c6 H hK hP hD hS => ?_)
  have hP : va_P (dC, dI) cls [(h0, .inr (5, [.ref q1, .ref q3, .null, .null, .null])), (q5, .inl (c6, 60, .inl (fun _ => 0)))] H := hP
  have hD : va_D A [(h0, .inr (5, [.ref q1, .ref q3, .null, .null, .null])), (q5, .inl (c6, 60, .inl (fun _ => 0)))] := hD
  have hK : va_K (dC, dI) cls [(c6, .int)] s := hK
  have hP : va_P (dC, dI) cls [(h0, .inr (5, [.ref q1, .ref q3, .null, .null, .null]))] H := hP.sub [0] rfl
  have hD : va_D A [(h0, .inr (5, [.ref q1, .ref q3, .null, .null, .null]))] := hD.sub [0] (by decide) rfl
  have hK : va_K (dC, dI) cls [] s := hK.sub [] rfl
  refine W.widen (k := 3) (n := 180) (Nat.le_of_ble_eq_true rfl) (Nat.le_of_ble_eq_true rfl) ?_
  refine va_putF (D := (dC, dI)) (ci := 5) (v := .ref q5) (ty := .array .int) (C := RX8) (T := TX8) (N := 5) hx hb hts i_X8 tyX8 tyX8_ok nmX8 hown hK hP hD hS 0 rfl rfl 2 (by decide) (hts _ qw60) (fun _ h9 => h9) rfl hin rfl (by decide +kernel) rfl rfl (Nat.le_of_ble_eq_true rfl) dX8_init_25 (fun H locs hP hD hS => ?_)
  have hP : va_P (dC, dI) cls [(h0, .inr (5, [.ref q1, .ref q3, .ref q5, .null, .null]))] H := hP
  have hD : va_D A [(h0, .inr (5, [.ref q1, .ref q3, .ref q5, .null, .null]))] := hD
  refine lv_aload_n hx hb dX8_init_28 rfl (lv_at hl 0 rfl) ?_
  refine lv_bipush (v := 60) hx hb dX8_init_29 (by decide) ?_
  refine va_newa (atype := .int) (ty := .int) hx hb (hts _ qw2) rfl hK hP hD hS hA (a0 := (60, .inl (fun _ => 0))) (fun _ => rfl) (by decide) (by decide +kernel) (Nat.le_of_ble_eq_true rfl) (Nat.le_of_ble_eq_true rfl) (Nat.le_of_ble_eq_true rfl) dX8_init_31 (fun q7 c8 H hK hP hD hS => ?_)
  have hP : va_P (dC, dI) cls [(h0, .inr (5, [.ref q1, .ref q3, .ref q5, .null, .null])), (q7, .inl (c8, 60, .inl (fun _ => 0)))] H := hP
  have hD : va_D A [(h0, .inr (5, [.ref q1, .ref q3, .ref q5, .null, .null])), (q7, .inl (c8, 60, .inl (fun _ => 0)))] := hD
  have hK : va_K (dC, dI) cls [(c8, .int)] s := hK
  have hP : va_P (dC, dI) cls [(h0, .inr (5, [.ref q1, .ref q3, .ref q5, .null, .null]))] H := hP.sub [0] rfl
  have hD : va_D A [(h0, .inr (5, [.ref q1, .ref q3, .ref q5, .null, .null]))] := hD.sub [0] (by decide) rfl
  have hK : va_K (dC, dI) cls [] s := hK.sub [] rfl
  refine W.widen (k := 4) (n := 240) (Nat.le_of_ble_eq_true rfl) (Nat.le_of_ble_eq_true rfl) ?_
  refine va_putF (D := (dC, dI)) (ci := 5) (v := .ref q7) (ty := .array .int) (C := RX8) (T := TX8) (N := 5) hx hb hts i_X8 tyX8 tyX8_ok nmX8 hown hK hP hD hS 0 rfl rfl 3 (by decide) (hts _ qw61) (fun _ h9 => h9) rfl hin rfl (by decide +kernel) rfl rfl (Nat.le_of_ble_eq_true rfl) dX8_init_33 (fun H locs hP hD hS => ?_)
  have hP : va_P (dC, dI) cls [(h0, .inr (5, [.ref q1, .ref q3, .ref q5, .ref q7, .null]))] H := hP
  have hD : va_D A [(h0, .inr (5, [.ref q1, .ref q3, .ref q5, .ref q7, .null]))] := hD
  refine lv_aload_n hx hb dX8_init_36 rfl (lv_at hl 0 rfl) ?_
  refine lv_bipush (v := 60) hx hb dX8_init_37 (by decide) ?_
  refine va_newa (atype := .int) (ty := .int) hx hb (hts _ qw2) rfl hK hP hD hS hA (a0 := (60, .inl (fun _ => 0))) (fun _ => rfl) (by decide) (by decide +kernel) (Nat.le_of_ble_eq_true rfl) (Nat.le_of_ble_eq_true rfl) (Nat.le_of_ble_eq_true rfl) dX8_init_39 (fun q9 c10 H hK hP hD hS => ?_)
  have hP : va_P (dC, dI) cls [(h0, .inr (5, [.ref q1, .ref q3, .ref q5, .ref q7, .null])), (q9, .inl (c10, 60, .inl (fun _ => 0)))] H := hP
  have hD : va_D A [(h0, .inr (5, [.ref q1, .ref q3, .ref q5, .ref q7, .null])), (q9, .inl (c10, 60, .inl (fun _ => 0)))] := hD
  have hK : va_K (dC, dI) cls [(c10, .int)] s := hK
  have hP : va_P (dC, dI) cls [(h0, .inr (5, [.ref q1, .ref q3, .ref q5, .ref q7, .null]))] H := hP.sub [0] rfl
  have hD : va_D A [(h0, .inr (5, [.ref q1, .ref q3, .ref q5, .ref q7, .null]))] := hD.sub [0] (by decide) rfl
  have hK : va_K (dC, dI) cls [] s := hK.sub [] rfl
  refine W.widen (k := 5) (n := 300) (Nat.le_of_ble_eq_true rfl) (Nat.le_of_ble_eq_true rfl) ?_
  refine va_putF (D := (dC, dI)) (ci := 5) (v := .ref q9) (ty := .array .int) (C := RX8) (T := TX8) (N := 5) hx hb hts i_X8 tyX8 tyX8_ok nmX8 hown hK hP hD hS 0 rfl rfl 4 (by decide) (hts _ qw62) (fun _ h9 => h9) rfl hin rfl (by decide +kernel) rfl rfl (Nat.le_of_ble_eq_true rfl) dX8_init_41 (fun H locs hP hD hS => ?_)
  have hP : va_P (dC, dI) cls [(h0, .inr (5, [.ref q1, .ref q3, .ref q5, .ref q7, .ref q9]))] H := hP
  have hD : va_D A [(h0, .inr (5, [.ref q1, .ref q3, .ref q5, .ref q7, .ref q9]))] := hD
  have hP9 : va_P (dC, dI) cls [] H := hP.sub [] rfl
  have hD9 : va_D A [] := hD.sub [] (by decide) rfl
  have hK9 : va_K (dC, dI) cls [] s := hK.sub [] rfl
  exact W.vret hx hb hr (fun t ht hW => ⟨⟨(), rfl, trivial, ⟨by rw [ht]; exact hP9, va_K.moved hW.alike hK9, hD9⟩⟩, hS.F ht⟩) hS.2.2 dX8_init_44
set_option maxHeartbeats 4000000 in
set_option maxRecDepth 100000 in
theorem kX4_init {zs : Nat × Nat} (l : Launch) (dC : Nat → ClassId) (dI : Nat → Nat → Nat) (h0 : Nat) (h1 : Nat) (sz : Nat)  : Met l yX4_init (wz yX4_init cX4_init 2 (Option.none : Option Jvm.ClassFile.FieldType)) ({ frames := 1, cells := 18, slots := 35442, locals := 12 }) (va_Pc [.ref h0, .ref h1] (PRE zs dC dI [(h0, .inr (6, [.null, .null, .null, .null, .null, .int 0, .null, .null, .null, .null, .null, .null, .null, .null, .null, .null, .null, .null, .null, .null]))] [] sz)) (va_Qv (fun (_ : Unit) => True) (fun _ t => POST dC dI [] [] (va_A [(h0, .inr (6, [.null, .null, .null, .null, .null, .int 0, .null, .null, .null, .null, .null, .null, .null, .null, .null, .null, .null, .null, .null, .null]))] sz) t) (va_A [(h0, .inr (6, [.null, .null, .null, .null, .null, .int 0, .null, .null, .null, .null, .null, .null, .null, .null, .null, .null, .null, .null, .null, .null]))] sz)) 18 35442 (va_A [(h0, .inr (6, [.null, .null, .null, .null, .null, .int 0, .null, .null, .null, .null, .null, .null, .null, .null, .null, .null, .null, .null, .null, .null]))] sz) := by
  refine Met.ofW (cc := cX4_init) (maxL := 2) (ret := (Option.none : Option Jvm.ClassFile.FieldType)) (by decide) rfl ?_
  intro p e s m args below meth c s₁ B hml hv
  obtain ⟨rfl, hsz, hP, hK, hD0, hE⟩ := hv
  have hx := B.exec
  have hb := B.bytes
  have hr := B.returns
  have hts0 := atoms_spec (ws := wz yX4_init cX4_init 2 (Option.none : Option Jvm.ClassFile.FieldType)) B.pre
  have hts : ∀ w ∈ gw, w.before _ s = true := fun w h => hts0 w (List.mem_cons_of_mem _ h)
  have hown : s.vm.findClass RX4 = some m.cls := findClass_of_methodNamed B.named
  have hlocks := B.notSynchronized
  have hin : meth.name = "<init>" := (name_of_methodNamed B.named B.method).1
  subst hsz
  have hD := hD0.self (sz := s.heap.size)
  generalize hAe : va_A [(h0, .inr (6, [.null, .null, .null, .null, .null, .int 0, .null, .null, .null, .null, .null, .null, .null, .null, .null, .null, .null, .null, .null, .null]))] s.heap.size = A at hD hE ⊢
  have hA : ∀ q : Nat, s.heap.size ≤ q → A q := fun q h => by rw [← hAe]; exact Or.inr h
  have hS : va_S A s.heap s.heap [] := va_S.rf
  have hP : va_P (dC, dI) cls [(h0, .inr (6, [.null, .null, .null, .null, .null, .int 0, .null, .null, .null, .null, .null, .null, .null, .null, .null, .null, .null, .null, .null, .null]))] s.heap := hP
  have hl := lv_entry ([.ref h0, .ref h1]) (n := 2) (Nat.le_of_ble_eq_true rfl)
  rw [lg_entry_eq]
  generalize (lg_sl ([.ref h0, .ref h1]) ++ List.replicate (2 - (lg_sl ([.ref h0, .ref h1])).length) Slot.unset).toArray = ls at hl ⊢
  have hl : lv_has ls 2 [(0, .ref h0), (1, .ref h1)] := hl
  refine lv_aload_n hx hb dX4_init_0 rfl (lv_at hl 0 rfl) ?_
  refine W.objInit hx hb hown (hts _ qw63) (hts _ qw1) (hts _ qw_oi) rfl (by rw [hml]; exact hl.1) rfl dX4_init_1 (Nat.le_of_ble_eq_true rfl) (Nat.le_of_ble_eq_true rfl) ?_
  refine W.eq (g2 := F0 m 4 ls []) rfl ?_
  refine lv_aload_n hx hb dX4_init_4 rfl (lv_at hl 0 rfl) ?_
  refine lv_sipush (v := 3200) hx hb dX4_init_5 (by decide) ?_
  refine va_newa (atype := .int) (ty := .int) hx hb (hts _ qw2) rfl hK hP hD hS hA (a0 := (3200, .inl (fun _ => 0))) (fun _ => rfl) (by decide) (by decide +kernel) (Nat.le_of_ble_eq_true rfl) (Nat.le_of_ble_eq_true rfl) (Nat.le_of_ble_eq_true rfl) dX4_init_8 (fun q1 c2 H hK hP hD hS => ?_)
  have hP : va_P (dC, dI) cls [(h0, .inr (6, [.null, .null, .null, .null, .null, .int 0, .null, .null, .null, .null, .null, .null, .null, .null, .null, .null, .null, .null, .null, .null])), (q1, .inl (c2, 3200, .inl (fun _ => 0)))] H := hP
  have hD : va_D A [(h0, .inr (6, [.null, .null, .null, .null, .null, .int 0, .null, .null, .null, .null, .null, .null, .null, .null, .null, .null, .null, .null, .null, .null])), (q1, .inl (c2, 3200, .inl (fun _ => 0)))] := hD
  have hK : va_K (dC, dI) cls [(c2, .int)] s := hK
  have hP : va_P (dC, dI) cls [(h0, .inr (6, [.null, .null, .null, .null, .null, .int 0, .null, .null, .null, .null, .null, .null, .null, .null, .null, .null, .null, .null, .null, .null]))] H := hP.sub [0] rfl
  have hD : va_D A [(h0, .inr (6, [.null, .null, .null, .null, .null, .int 0, .null, .null, .null, .null, .null, .null, .null, .null, .null, .null, .null, .null, .null, .null]))] := hD.sub [0] (by decide) rfl
  have hK : va_K (dC, dI) cls [] s := hK.sub [] rfl
  refine W.widen (k := 1) (n := 3200) (Nat.le_of_ble_eq_true rfl) (Nat.le_of_ble_eq_true rfl) ?_
  refine va_putF (D := (dC, dI)) (ci := 6) (v := .ref q1) (ty := .array .int) (C := RX4) (T := TX4) (N := 20) hx hb hts i_X4 tyX4 tyX4_ok nmX4 hown hK hP hD hS 0 rfl rfl 1 (by decide) (hts _ qw64) (fun _ h9 => h9) rfl hin rfl (by decide +kernel) rfl rfl (Nat.le_of_ble_eq_true rfl) dX4_init_10 (fun H locs hP hD hS => ?_)
  have hP : va_P (dC, dI) cls [(h0, .inr (6, [.null, .ref q1, .null, .null, .null, .int 0, .null, .null, .null, .null, .null, .null, .null, .null, .null, .null, .null, .null, .null, .null]))] H := hP
  have hD : va_D A [(h0, .inr (6, [.null, .ref q1, .null, .null, .null, .int 0, .null, .null, .null, .null, .null, .null, .null, .null, .null, .null, .null, .null, .null, .null]))] := hD
  refine lv_aload_n hx hb dX4_init_13 rfl (lv_at hl 0 rfl) ?_
  refine lv_sipush (v := 3200) hx hb dX4_init_14 (by decide) ?_
  refine va_newa (atype := .int) (ty := .int) hx hb (hts _ qw2) rfl hK hP hD hS hA (a0 := (3200, .inl (fun _ => 0))) (fun _ => rfl) (by decide) (by decide +kernel) (Nat.le_of_ble_eq_true rfl) (Nat.le_of_ble_eq_true rfl) (Nat.le_of_ble_eq_true rfl) dX4_init_17 (fun q3 c4 H hK hP hD hS => ?_)
  have hP : va_P (dC, dI) cls [(h0, .inr (6, [.null, .ref q1, .null, .null, .null, .int 0, .null, .null, .null, .null, .null, .null, .null, .null, .null, .null, .null, .null, .null, .null])), (q3, .inl (c4, 3200, .inl (fun _ => 0)))] H := hP
  have hD : va_D A [(h0, .inr (6, [.null, .ref q1, .null, .null, .null, .int 0, .null, .null, .null, .null, .null, .null, .null, .null, .null, .null, .null, .null, .null, .null])), (q3, .inl (c4, 3200, .inl (fun _ => 0)))] := hD
  have hK : va_K (dC, dI) cls [(c4, .int)] s := hK
  have hP : va_P (dC, dI) cls [(h0, .inr (6, [.null, .ref q1, .null, .null, .null, .int 0, .null, .null, .null, .null, .null, .null, .null, .null, .null, .null, .null, .null, .null, .null]))] H := hP.sub [0] rfl
  have hD : va_D A [(h0, .inr (6, [.null, .ref q1, .null, .null, .null, .int 0, .null, .null, .null, .null, .null, .null, .null, .null, .null, .null, .null, .null, .null, .null]))] := hD.sub [0] (by decide) rfl
  have hK : va_K (dC, dI) cls [] s := hK.sub [] rfl
  refine W.widen (k := 2) (n := 6400) (Nat.le_of_ble_eq_true rfl) (Nat.le_of_ble_eq_true rfl) ?_
  refine va_putF (D := (dC, dI)) (ci := 6) (v := .ref q3) (ty := .array .int) (C := RX4) (T := TX4) (N := 20) hx hb hts i_X4 tyX4 tyX4_ok nmX4 hown hK hP hD hS 0 rfl rfl 2 (by decide) (hts _ qw65) (fun _ h9 => h9) rfl hin rfl (by decide +kernel) rfl rfl (Nat.le_of_ble_eq_true rfl) dX4_init_19 (fun H locs hP hD hS => ?_)
  have hP : va_P (dC, dI) cls [(h0, .inr (6, [.null, .ref q1, .ref q3, .null, .null, .int 0, .null, .null, .null, .null, .null, .null, .null, .null, .null, .null, .null, .null, .null, .null]))] H := hP
  have hD : va_D A [(h0, .inr (6, [.null, .ref q1, .ref q3, .null, .null, .int 0, .null, .null, .null, .null, .null, .null, .null, .null, .null, .null, .null, .null, .null, .null]))] := hD
  refine lv_aload_n hx hb dX4_init_22 rfl (lv_at hl 0 rfl) ?_
  refine lv_sipush (v := 3200) hx hb dX4_init_23 (by decide) ?_
  refine va_newa (atype := .int) (ty := .int) hx hb (hts _ qw2) rfl hK hP hD hS hA (a0 := (3200, .inl (fun _ => 0))) (fun _ => rfl) (by decide) (by decide +kernel) (Nat.le_of_ble_eq_true rfl) (Nat.le_of_ble_eq_true rfl) (Nat.le_of_ble_eq_true rfl) dX4_init_26 (fun q5 c6 H hK hP hD hS => ?_)
  have hP : va_P (dC, dI) cls [(h0, .inr (6, [.null, .ref q1, .ref q3, .null, .null, .int 0, .null, .null, .null, .null, .null, .null, .null, .null, .null, .null, .null, .null, .null, .null])), (q5, .inl (c6, 3200, .inl (fun _ => 0)))] H := hP
  have hD : va_D A [(h0, .inr (6, [.null, .ref q1, .ref q3, .null, .null, .int 0, .null, .null, .null, .null, .null, .null, .null, .null, .null, .null, .null, .null, .null, .null])), (q5, .inl (c6, 3200, .inl (fun _ => 0)))] := hD
  have hK : va_K (dC, dI) cls [(c6, .int)] s := hK
  have hP : va_P (dC, dI) cls [(h0, .inr (6, [.null, .ref q1, .ref q3, .null, .null, .int 0, .null, .null, .null, .null, .null, .null, .null, .null, .null, .null, .null, .null, .null, .null]))] H := hP.sub [0] rfl
  have hD : va_D A [(h0, .inr (6, [.null, .ref q1, .ref q3, .null, .null, .int 0, .null, .null, .null, .null, .null, .null, .null, .null, .null, .null, .null, .null, .null, .null]))] := hD.sub [0] (by decide) rfl
  have hK : va_K (dC, dI) cls [] s := hK.sub [] rfl
  refine W.widen (k := 3) (n := 9600) (Nat.le_of_ble_eq_true rfl) (Nat.le_of_ble_eq_true rfl) ?_
  refine va_putF (D := (dC, dI)) (ci := 6) (v := .ref q5) (ty := .array .int) (C := RX4) (T := TX4) (N := 20) hx hb hts i_X4 tyX4 tyX4_ok nmX4 hown hK hP hD hS 0 rfl rfl 3 (by decide) (hts _ qw66) (fun _ h9 => h9) rfl hin rfl (by decide +kernel) rfl rfl (Nat.le_of_ble_eq_true rfl) dX4_init_28 (fun H locs hP hD hS => ?_)
  have hP : va_P (dC, dI) cls [(h0, .inr (6, [.null, .ref q1, .ref q3, .ref q5, .null, .int 0, .null, .null, .null, .null, .null, .null, .null, .null, .null, .null, .null, .null, .null, .null]))] H := hP
  have hD : va_D A [(h0, .inr (6, [.null, .ref q1, .ref q3, .ref q5, .null, .int 0, .null, .null, .null, .null, .null, .null, .null, .null, .null, .null, .null, .null, .null, .null]))] := hD
  refine lv_aload_n hx hb dX4_init_31 rfl (lv_at hl 0 rfl) ?_
  refine lv_sipush (v := 512) hx hb dX4_init_32 (by decide) ?_
  refine va_newa (atype := .int) (ty := .int) hx hb (hts _ qw2) rfl hK hP hD hS hA (a0 := (512, .inl (fun _ => 0))) (fun _ => rfl) (by decide) (by decide +kernel) (Nat.le_of_ble_eq_true rfl) (Nat.le_of_ble_eq_true rfl) (Nat.le_of_ble_eq_true rfl) dX4_init_35 (fun q7 c8 H hK hP hD hS => ?_)
  have hP : va_P (dC, dI) cls [(h0, .inr (6, [.null, .ref q1, .ref q3, .ref q5, .null, .int 0, .null, .null, .null, .null, .null, .null, .null, .null, .null, .null, .null, .null, .null, .null])), (q7, .inl (c8, 512, .inl (fun _ => 0)))] H := hP
  have hD : va_D A [(h0, .inr (6, [.null, .ref q1, .ref q3, .ref q5, .null, .int 0, .null, .null, .null, .null, .null, .null, .null, .null, .null, .null, .null, .null, .null, .null])), (q7, .inl (c8, 512, .inl (fun _ => 0)))] := hD
  have hK : va_K (dC, dI) cls [(c8, .int)] s := hK
  have hP : va_P (dC, dI) cls [(h0, .inr (6, [.null, .ref q1, .ref q3, .ref q5, .null, .int 0, .null, .null, .null, .null, .null, .null, .null, .null, .null, .null, .null, .null, .null, .null]))] H := hP.sub [0] rfl
  have hD : va_D A [(h0, .inr (6, [.null, .ref q1, .ref q3, .ref q5, .null, .int 0, .null, .null, .null, .null, .null, .null, .null, .null, .null, .null, .null, .null, .null, .null]))] := hD.sub [0] (by decide) rfl
  have hK : va_K (dC, dI) cls [] s := hK.sub [] rfl
  refine W.widen (k := 4) (n := 10112) (Nat.le_of_ble_eq_true rfl) (Nat.le_of_ble_eq_true rfl) ?_
  refine va_putF (D := (dC, dI)) (ci := 6) (v := .ref q7) (ty := .array .int) (C := RX4) (T := TX4) (N := 20) hx hb hts i_X4 tyX4 tyX4_ok nmX4 hown hK hP hD hS 0 rfl rfl 4 (by decide) (hts _ qw67) (fun _ h9 => h9) rfl hin rfl (by decide +kernel) rfl rfl (Nat.le_of_ble_eq_true rfl) dX4_init_37 (fun H locs hP hD hS => ?_)
  have hP : va_P (dC, dI) cls [(h0, .inr (6, [.null, .ref q1, .ref q3, .ref q5, .ref q7, .int 0, .null, .null, .null, .null, .null, .null, .null, .null, .null, .null, .null, .null, .null, .null]))] H := hP
  have hD : va_D A [(h0, .inr (6, [.null, .ref q1, .ref q3, .ref q5, .ref q7, .int 0, .null, .null, .null, .null, .null, .null, .null, .null, .null, .null, .null, .null, .null, .null]))] := hD
  refine lv_aload_n hx hb dX4_init_40 rfl (lv_at hl 0 rfl) ?_
  refine lv_sipush (v := 640) hx hb dX4_init_41 (by decide) ?_
  refine va_newa (atype := .int) (ty := .int) hx hb (hts _ qw2) rfl hK hP hD hS hA (a0 := (640, .inl (fun _ => 0))) (fun _ => rfl) (by decide) (by decide +kernel) (Nat.le_of_ble_eq_true rfl) (Nat.le_of_ble_eq_true rfl) (Nat.le_of_ble_eq_true rfl) dX4_init_44 (fun q9 c10 H hK hP hD hS => ?_)
  have hP : va_P (dC, dI) cls [(h0, .inr (6, [.null, .ref q1, .ref q3, .ref q5, .ref q7, .int 0, .null, .null, .null, .null, .null, .null, .null, .null, .null, .null, .null, .null, .null, .null])), (q9, .inl (c10, 640, .inl (fun _ => 0)))] H := hP
  have hD : va_D A [(h0, .inr (6, [.null, .ref q1, .ref q3, .ref q5, .ref q7, .int 0, .null, .null, .null, .null, .null, .null, .null, .null, .null, .null, .null, .null, .null, .null])), (q9, .inl (c10, 640, .inl (fun _ => 0)))] := hD
  have hK : va_K (dC, dI) cls [(c10, .int)] s := hK
  have hP : va_P (dC, dI) cls [(h0, .inr (6, [.null, .ref q1, .ref q3, .ref q5, .ref q7, .int 0, .null, .null, .null, .null, .null, .null, .null, .null, .null, .null, .null, .null, .null, .null]))] H := hP.sub [0] rfl
  have hD : va_D A [(h0, .inr (6, [.null, .ref q1, .ref q3, .ref q5, .ref q7, .int 0, .null, .null, .null, .null, .null, .null, .null, .null, .null, .null, .null, .null, .null, .null]))] := hD.sub [0] (by decide) rfl
  have hK : va_K (dC, dI) cls [] s := hK.sub [] rfl
  refine W.widen (k := 5) (n := 10752) (Nat.le_of_ble_eq_true rfl) (Nat.le_of_ble_eq_true rfl) ?_
  refine va_putF (D := (dC, dI)) (ci := 6) (v := .ref q9) (ty := .array .int) (C := RX4) (T := TX4) (N := 20) hx hb hts i_X4 tyX4 tyX4_ok nmX4 hown hK hP hD hS 0 rfl rfl 6 (by decide) (hts _ qw68) (fun _ h9 => h9) rfl hin rfl (by decide +kernel) rfl rfl (Nat.le_of_ble_eq_true rfl) dX4_init_46 (fun H locs hP hD hS => ?_)
  have hP : va_P (dC, dI) cls [(h0, .inr (6, [.null, .ref q1, .ref q3, .ref q5, .ref q7, .int 0, .ref q9, .null, .null, .null, .null, .null, .null, .null, .null, .null, .null, .null, .null, .null]))] H := hP
  have hD : va_D A [(h0, .inr (6, [.null, .ref q1, .ref q3, .ref q5, .ref q7, .int 0, .ref q9, .null, .null, .null, .null, .null, .null, .null, .null, .null, .null, .null, .null, .null]))] := hD
  refine lv_aload_n hx hb dX4_init_49 rfl (lv_at hl 0 rfl) ?_
  refine lv_sipush (v := 640) hx hb dX4_init_50 (by decide) ?_
  refine va_newa (atype := .int) (ty := .int) hx hb (hts _ qw2) rfl hK hP hD hS hA (a0 := (640, .inl (fun _ => 0))) (fun _ => rfl) (by decide) (by decide +kernel) (Nat.le_of_ble_eq_true rfl) (Nat.le_of_ble_eq_true rfl) (Nat.le_of_ble_eq_true rfl) dX4_init_53 (fun q11 c12 H hK hP hD hS => ?_)
  have hP : va_P (dC, dI) cls [(h0, .inr (6, [.null, .ref q1, .ref q3, .ref q5, .ref q7, .int 0, .ref q9, .null, .null, .null, .null, .null, .null, .null, .null, .null, .null, .null, .null, .null])), (q11, .inl (c12, 640, .inl (fun _ => 0)))] H := hP
  have hD : va_D A [(h0, .inr (6, [.null, .ref q1, .ref q3, .ref q5, .ref q7, .int 0, .ref q9, .null, .null, .null, .null, .null, .null, .null, .null, .null, .null, .null, .null, .null])), (q11, .inl (c12, 640, .inl (fun _ => 0)))] := hD
  have hK : va_K (dC, dI) cls [(c12, .int)] s := hK
  have hP : va_P (dC, dI) cls [(h0, .inr (6, [.null, .ref q1, .ref q3, .ref q5, .ref q7, .int 0, .ref q9, .null, .null, .null, .null, .null, .null, .null, .null, .null, .null, .null, .null, .null]))] H := hP.sub [0] rfl
  have hD : va_D A [(h0, .inr (6, [.null, .ref q1, .ref q3, .ref q5, .ref q7, .int 0, .ref q9, .null, .null, .null, .null, .null, .null, .null, .null, .null, .null, .null, .null, .null]))] := hD.sub [0] (by decide) rfl
  have hK : va_K (dC, dI) cls [] s := hK.sub [] rfl
  refine W.widen (k := 6) (n := 11392) (Nat.le_of_ble_eq_true rfl) (Nat.le_of_ble_eq_true rfl) ?_
  refine va_putF (D := (dC, dI)) (ci := 6) (v := .ref q11) (ty := .array .int) (C := RX4) (T := TX4) (N := 20) hx hb hts i_X4 tyX4 tyX4_ok nmX4 hown hK hP hD hS 0 rfl rfl 7 (by decide) (hts _ qw69) (fun _ h9 => h9) rfl hin rfl (by decide +kernel) rfl rfl (Nat.le_of_ble_eq_true rfl) dX4_init_55 (fun H locs hP hD hS => ?_)
  have hP : va_P (dC, dI) cls [(h0, .inr (6, [.null, .ref q1, .ref q3, .ref q5, .ref q7, .int 0, .ref q9, .ref q11, .null, .null, .null, .null, .null, .null, .null, .null, .null, .null, .null, .null]))] H := hP
  have hD : va_D A [(h0, .inr (6, [.null, .ref q1, .ref q3, .ref q5, .ref q7, .int 0, .ref q9, .ref q11, .null, .null, .null, .null, .null, .null, .null, .null, .null, .null, .null, .null]))] := hD
  refine lv_aload_n hx hb dX4_init_58 rfl (lv_at hl 0 rfl) ?_
  refine lv_sipush (v := 640) hx hb dX4_init_59 (by decide) ?_
  refine va_newa (atype := .int) (ty := .int) hx hb (hts _ qw2) rfl hK hP hD hS hA (a0 := (640, .inl (fun _ => 0))) (fun _ => rfl) (by decide) (by decide +kernel) (Nat.le_of_ble_eq_true rfl) (Nat.le_of_ble_eq_true rfl) (Nat.le_of_ble_eq_true rfl) dX4_init_62 (fun q13 c14 H hK hP hD hS => ?_)
  have hP : va_P (dC, dI) cls [(h0, .inr (6, [.null, .ref q1, .ref q3, .ref q5, .ref q7, .int 0, .ref q9, .ref q11, .null, .null, .null, .null, .null, .null, .null, .null, .null, .null, .null, .null])), (q13, .inl (c14, 640, .inl (fun _ => 0)))] H := hP
  have hD : va_D A [(h0, .inr (6, [.null, .ref q1, .ref q3, .ref q5, .ref q7, .int 0, .ref q9, .ref q11, .null, .null, .null, .null, .null, .null, .null, .null, .null, .null, .null, .null])), (q13, .inl (c14, 640, .inl (fun _ => 0)))] := hD
  have hK : va_K (dC, dI) cls [(c14, .int)] s := hK
  have hP : va_P (dC, dI) cls [(h0, .inr (6, [.null, .ref q1, .ref q3, .ref q5, .ref q7, .int 0, .ref q9, .ref q11, .null, .null, .null, .null, .null, .null, .null, .null, .null, .null, .null, .null]))] H := hP.sub [0] rfl
  have hD : va_D A [(h0, .inr (6, [.null, .ref q1, .ref q3, .ref q5, .ref q7, .int 0, .ref q9, .ref q11, .null, .null, .null, .null, .null, .null, .null, .null, .null, .null, .null, .null]))] := hD.sub [0] (by decide) rfl
  have hK : va_K (dC, dI) cls [] s := hK.sub [] rfl
  refine W.widen (k := 7) (n := 12032) (Nat.le_of_ble_eq_true rfl) (Nat.le_of_ble_eq_true rfl) ?_
  refine va_putF (D := (dC, dI)) (ci := 6) (v := .ref q13) (ty := .array .int) (C := RX4) (T := TX4) (N := 20) hx hb hts i_X4 tyX4 tyX4_ok nmX4 hown hK hP hD hS 0 rfl rfl 8 (by decide) (hts _ qw70) (fun _ h9 => h9) rfl hin rfl (by decide +kernel) rfl rfl (Nat.le_of_ble_eq_true rfl) dX4_init_64 (fun H locs hP hD hS => ?_)
  have hP : va_P (dC, dI) cls [(h0, .inr (6, [.null, .ref q1, .ref q3, .ref q5, .ref q7, .int 0, .ref q9, .ref q11, .ref q13, .null, .null, .null, .null, .null, .null, .null, .null, .null, .null, .null]))] H := hP
  have hD : va_D A [(h0, .inr (6, [.null, .ref q1, .ref q3, .ref q5, .ref q7, .int 0, .ref q9, .ref q11, .ref q13, .null, .null, .null, .null, .null, .null, .null, .null, .null, .null, .null]))] := hD
  refine lv_aload_n hx hb dX4_init_67 rfl (lv_at hl 0 rfl) ?_
  refine lv_sipush (v := 640) hx hb dX4_init_68 (by decide) ?_
  refine va_newa (atype := .int) (ty := .int) hx hb (hts _ qw2) rfl hK hP hD hS hA (a0 := (640, .inl (fun _ => 0))) (fun _ => rfl) (by decide) (by decide +kernel) (Nat.le_of_ble_eq_true rfl) (Nat.le_of_ble_eq_true rfl) (Nat.le_of_ble_eq_true rfl) dX4_init_71 (fun q15 c16 H hK hP hD hS => ?_)
  have hP : va_P (dC, dI) cls [(h0, .inr (6, [.null, .ref q1, .ref q3, .ref q5, .ref q7, .int 0, .ref q9, .ref q11, .ref q13, .null, .null, .null, .null, .null, .null, .null, .null, .null, .null, .null])), (q15, .inl (c16, 640, .inl (fun _ => 0)))] H := hP
  have hD : va_D A [(h0, .inr (6, [.null, .ref q1, .ref q3, .ref q5, .ref q7, .int 0, .ref q9, .ref q11, .ref q13, .null, .null, .null, .null, .null, .null, .null, .null, .null, .null, .null])), (q15, .inl (c16, 640, .inl (fun _ => 0)))] := hD
  have hK : va_K (dC, dI) cls [(c16, .int)] s := hK
  have hP : va_P (dC, dI) cls [(h0, .inr (6, [.null, .ref q1, .ref q3, .ref q5, .ref q7, .int 0, .ref q9, .ref q11, .ref q13, .null, .null, .null, .null, .null, .null, .null, .null, .null, .null, .null]))] H := hP.sub [0] rfl
  have hD : va_D A [(h0, .inr (6, [.null, .ref q1, .ref q3, .ref q5, .ref q7, .int 0, .ref q9, .ref q11, .ref q13, .null, .null, .null, .null, .null, .null, .null, .null, .null, .null, .null]))] := hD.sub [0] (by decide) rfl
  have hK : va_K (dC, dI) cls [] s := hK.sub [] rfl
  refine W.widen (k := 8) (n := 12672) (Nat.le_of_ble_eq_true rfl) (Nat.le_of_ble_eq_true rfl) ?_
  refine va_putF (D := (dC, dI)) (ci := 6) (v := .ref q15) (ty := .array .int) (C := RX4) (T := TX4) (N := 20) hx hb hts i_X4 tyX4 tyX4_ok nmX4 hown hK hP hD hS 0 rfl rfl 9 (by decide) (hts _ qw71) (fun _ h9 => h9) rfl hin rfl (by decide +kernel) rfl rfl (Nat.le_of_ble_eq_true rfl) dX4_init_73 (fun H locs hP hD hS => ?_)
  have hP : va_P (dC, dI) cls [(h0, .inr (6, [.null, .ref q1, .ref q3, .ref q5, .ref q7, .int 0, .ref q9, .ref q11, .ref q13, .ref q15, .null, .null, .null, .null, .null, .null, .null, .null, .null, .null]))] H := hP
  have hD : va_D A [(h0, .inr (6, [.null, .ref q1, .ref q3, .ref q5, .ref q7, .int 0, .ref q9, .ref q11, .ref q13, .ref q15, .null, .null, .null, .null, .null, .null, .null, .null, .null, .null]))] := hD
  refine lv_aload_n hx hb dX4_init_76 rfl (lv_at hl 0 rfl) ?_
  refine lv_sipush (v := 640) hx hb dX4_init_77 (by decide) ?_
  refine va_newa (atype := .int) (ty := .int) hx hb (hts _ qw2) rfl hK hP hD hS hA (a0 := (640, .inl (fun _ => 0))) (fun _ => rfl) (by decide) (by decide +kernel) (Nat.le_of_ble_eq_true rfl) (Nat.le_of_ble_eq_true rfl) (Nat.le_of_ble_eq_true rfl) dX4_init_80 (fun q17 c18 H hK hP hD hS => ?_)
  have hP : va_P (dC, dI) cls [(h0, .inr (6, [.null, .ref q1, .ref q3, .ref q5, .ref q7, .int 0, .ref q9, .ref q11, .ref q13, .ref q15, .null, .null, .null, .null, .null, .null, .null, .null, .null, .null])), (q17, .inl (c18, 640, .inl (fun _ => 0)))] H := hP
  have hD : va_D A [(h0, .inr (6, [.null, .ref q1, .ref q3, .ref q5, .ref q7, .int 0, .ref q9, .ref q11, .ref q13, .ref q15, .null, .null, .null, .null, .null, .null, .null, .null, .null, .null])), (q17, .inl (c18, 640, .inl (fun _ => 0)))] := hD
  have hK : va_K (dC, dI) cls [(c18, .int)] s := hK
  have hP : va_P (dC, dI) cls [(h0, .inr (6, [.null, .ref q1, .ref q3, .ref q5, .ref q7, .int 0, .ref q9, .ref q11, .ref q13, .ref q15, .null, .null, .null, .null, .null, .null, .null, .null, .null, .null]))] H := hP.sub [0] rfl
  have hD : va_D A [(h0, .inr (6, [.null, .ref q1, .ref q3, .ref q5, .ref q7, .int 0, .ref q9, .ref q11, .ref q13, .ref q15, .null, .null, .null, .null, .null, .null, .null, .null, .null, .null]))] := hD.sub [0] (by decide) rfl
  have hK : va_K (dC, dI) cls [] s := hK.sub [] rfl
  refine W.widen (k := 9) (n := 13312) (Nat.le_of_ble_eq_true rfl) (Nat.le_of_ble_eq_true rfl) ?_
  refine va_putF (D := (dC, dI)) (ci := 6) (v := .ref q17) (ty := .array .int) (C := RX4) (T := TX4) (N := 20) hx hb hts i_X4 tyX4 tyX4_ok nmX4 hown hK hP hD hS 0 rfl rfl 10 (by decide) (hts _ qw72) (fun _ h9 => h9) rfl hin rfl (by decide +kernel) rfl rfl (Nat.le_of_ble_eq_true rfl) dX4_init_82 (fun H locs hP hD hS => ?_)
  have hP : va_P (dC, dI) cls [(h0, .inr (6, [.null, .ref q1, .ref q3, .ref q5, .ref q7, .int 0, .ref q9, .ref q11, .ref q13, .ref q15, .ref q17, .null, .null, .null, .null, .null, .null, .null, .null, .null]))] H := hP
  have hD : va_D A [(h0, .inr (6, [.null, .ref q1, .ref q3, .ref q5, .ref q7, .int 0, .ref q9, .ref q11, .ref q13, .ref q15, .ref q17, .null, .null, .null, .null, .null, .null, .null, .null, .null]))] := hD
  refine lv_aload_n hx hb dX4_init_85 rfl (lv_at hl 0 rfl) ?_
  refine lv_sipush (v := 640) hx hb dX4_init_86 (by decide) ?_
  refine va_newa (atype := .int) (ty := .int) hx hb (hts _ qw2) rfl hK hP hD hS hA (a0 := (640, .inl (fun _ => 0))) (fun _ => rfl) (by decide) (by decide +kernel) (Nat.le_of_ble_eq_true rfl) (Nat.le_of_ble_eq_true rfl) (Nat.le_of_ble_eq_true rfl) dX4_init_89 (fun q19 c20 H hK hP hD hS => ?_)
  have hP : va_P (dC, dI) cls [(h0, .inr (6, [.null, .ref q1, .ref q3, .ref q5, .ref q7, .int 0, .ref q9, .ref q11, .ref q13, .ref q15, .ref q17, .null, .null, .null, .null, .null, .null, .null, .null, .null])), (q19, .inl (c20, 640, .inl (fun _ => 0)))] H := hP
  have hD : va_D A [(h0, .inr (6, [.null, .ref q1, .ref q3, .ref q5, .ref q7, .int 0, .ref q9, .ref q11, .ref q13, .ref q15, .ref q17, .null, .null, .null, .null, .null, .null, .null, .null, .null])), (q19, .inl (c20, 640, .inl (fun _ => 0)))] := hD
  have hK : va_K (dC, dI) cls [(c20, .int)] s := hK
  have hP : va_P (dC, dI) cls [(h0, .inr (6, [.null, .ref q1, .ref q3, .ref q5, .ref q7, .int 0, .ref q9, .ref q11, .ref q13, .ref q15, .ref q17, .null, .null, .null, .null, .null, .null, .null, .null, .null]))] H := hP.sub [0] rfl
  have hD : va_D A [(h0, .inr (6, [.null, .ref q1, .ref q3, .ref q5, .ref q7, .int 0, .ref q9, .ref q11, .ref q13, .ref q15, .ref q17, .null, .null, .null, .null, .null, .null, .null, .null, .null]))] := hD.sub [0] (by decide) rfl
  have hK : va_K (dC, dI) cls [] s := hK.sub [] rfl
  refine W.widen (k := 10) (n := 13952) (Nat.le_of_ble_eq_true rfl) (Nat.le_of_ble_eq_true rfl) ?_
  refine va_putF (D := (dC, dI)) (ci := 6) (v := .ref q19) (ty := .array .int) (C := RX4) (T := TX4) (N := 20) hx hb hts i_X4 tyX4 tyX4_ok nmX4 hown hK hP hD hS 0 rfl rfl 11 (by decide) (hts _ qw73) (fun _ h9 => h9) rfl hin rfl (by decide +kernel) rfl rfl (Nat.le_of_ble_eq_true rfl) dX4_init_91 (fun H locs hP hD hS => ?_)
  have hP : va_P (dC, dI) cls [(h0, .inr (6, [.null, .ref q1, .ref q3, .ref q5, .ref q7, .int 0, .ref q9, .ref q11, .ref q13, .ref q15, .ref q17, .ref q19, .null, .null, .null, .null, .null, .null, .null, .null]))] H := hP
  have hD : va_D A [(h0, .inr (6, [.null, .ref q1, .ref q3, .ref q5, .ref q7, .int 0, .ref q9, .ref q11, .ref q13, .ref q15, .ref q17, .ref q19, .null, .null, .null, .null, .null, .null, .null, .null]))] := hD
  refine lv_aload_n hx hb dX4_init_94 rfl (lv_at hl 0 rfl) ?_
  refine lv_sipush (v := 640) hx hb dX4_init_95 (by decide) ?_
  refine va_newa (atype := .int) (ty := .int) hx hb (hts _ qw2) rfl hK hP hD hS hA (a0 := (640, .inl (fun _ => 0))) (fun _ => rfl) (by decide) (by decide +kernel) (Nat.le_of_ble_eq_true rfl) (Nat.le_of_ble_eq_true rfl) (Nat.le_of_ble_eq_true rfl) dX4_init_98 (fun q21 c22 H hK hP hD hS => ?_)
  have hP : va_P (dC, dI) cls [(h0, .inr (6, [.null, .ref q1, .ref q3, .ref q5, .ref q7, .int 0, .ref q9, .ref q11, .ref q13, .ref q15, .ref q17, .ref q19, .null, .null, .null, .null, .null, .null, .null, .null])), (q21, .inl (c22, 640, .inl (fun _ => 0)))] H := hP
  have hD : va_D A [(h0, .inr (6, [.null, .ref q1, .ref q3, .ref q5, .ref q7, .int 0, .ref q9, .ref q11, .ref q13, .ref q15, .ref q17, .ref q19, .null, .null, .null, .null, .null, .null, .null, .null])), (q21, .inl (c22, 640, .inl (fun _ => 0)))] := hD
  have hK : va_K (dC, dI) cls [(c22, .int)] s := hK
  have hP : va_P (dC, dI) cls [(h0, .inr (6, [.null, .ref q1, .ref q3, .ref q5, .ref q7, .int 0, .ref q9, .ref q11, .ref q13, .ref q15, .ref q17, .ref q19, .null, .null, .null, .null, .null, .null, .null, .null]))] H := hP.sub [0] rfl
  have hD : va_D A [(h0, .inr (6, [.null, .ref q1, .ref q3, .ref q5, .ref q7, .int 0, .ref q9, .ref q11, .ref q13, .ref q15, .ref q17, .ref q19, .null, .null, .null, .null, .null, .null, .null, .null]))] := hD.sub [0] (by decide) rfl
  have hK : va_K (dC, dI) cls [] s := hK.sub [] rfl
  refine W.widen (k := 11) (n := 14592) (Nat.le_of_ble_eq_true rfl) (Nat.le_of_ble_eq_true rfl) ?_
  refine va_putF (D := (dC, dI)) (ci := 6) (v := .ref q21) (ty := .array .int) (C := RX4) (T := TX4) (N := 20) hx hb hts i_X4 tyX4 tyX4_ok nmX4 hown hK hP hD hS 0 rfl rfl 12 (by decide) (hts _ qw74) (fun _ h9 => h9) rfl hin rfl (by decide +kernel) rfl rfl (Nat.le_of_ble_eq_true rfl) dX4_init_100 (fun H locs hP hD hS => ?_)
  have hP : va_P (dC, dI) cls [(h0, .inr (6, [.null, .ref q1, .ref q3, .ref q5, .ref q7, .int 0, .ref q9, .ref q11, .ref q13, .ref q15, .ref q17, .ref q19, .ref q21, .null, .null, .null, .null, .null, .null, .null]))] H := hP
  have hD : va_D A [(h0, .inr (6, [.null, .ref q1, .ref q3, .ref q5, .ref q7, .int 0, .ref q9, .ref q11, .ref q13, .ref q15, .ref q17, .ref q19, .ref q21, .null, .null, .null, .null, .null, .null, .null]))] := hD
  refine lv_aload_n hx hb dX4_init_103 rfl (lv_at hl 0 rfl) ?_
  refine lv_sipush (v := 640) hx hb dX4_init_104 (by decide) ?_
  refine va_newa (atype := .int) (ty := .int) hx hb (hts _ qw2) rfl hK hP hD hS hA (a0 := (640, .inl (fun _ => 0))) (fun _ => rfl) (by decide) (by decide +kernel) (Nat.le_of_ble_eq_true rfl) (Nat.le_of_ble_eq_true rfl) (Nat.le_of_ble_eq_true rfl) dX4_init_107 (fun q23 c24 H hK hP hD hS => ?_)
  have hP : va_P (dC, dI) cls [(h0, .inr (6, [.null, .ref q1, .ref q3, .ref q5, .ref q7, .int 0, .ref q9, .ref q11, .ref q13, .ref q15, .ref q17, .ref q19, .ref q21, .null, .null, .null, .null, .null, .null, .null])), (q23, .inl (c24, 640, .inl (fun _ => 0)))] H := hP
  have hD : va_D A [(h0, .inr (6, [.null, .ref q1, .ref q3, .ref q5, .ref q7, .int 0, .ref q9, .ref q11, .ref q13, .ref q15, .ref q17, .ref q19, .ref q21, .null, .null, .null, .null, .null, .null, .null])), (q23, .inl (c24, 640, .inl (fun _ => 0)))] := hD
  have hK : va_K (dC, dI) cls [(c24, .int)] s := hK
  have hP : va_P (dC, dI) cls [(h0, .inr (6, [.null, .ref q1, .ref q3, .ref q5, .ref q7, .int 0, .ref q9, .ref q11, .ref q13, .ref q15, .ref q17, .ref q19, .ref q21, .null, .null, .null, .null, .null, .null, .null]))] H := hP.sub [0] rfl
  have hD : va_D A [(h0, .inr (6, [.null, .ref q1, .ref q3, .ref q5, .ref q7, .int 0, .ref q9, .ref q11, .ref q13, .ref q15, .ref q17, .ref q19, .ref q21, .null, .null, .null, .null, .null, .null, .null]))] := hD.sub [0] (by decide) rfl
  have hK : va_K (dC, dI) cls [] s := hK.sub [] rfl
  refine W.widen (k := 12) (n := 15232) (Nat.le_of_ble_eq_true rfl) (Nat.le_of_ble_eq_true rfl) ?_
  refine va_putF (D := (dC, dI)) (ci := 6) (v := .ref q23) (ty := .array .int) (C := RX4) (T := TX4) (N := 20) hx hb hts i_X4 tyX4 tyX4_ok nmX4 hown hK hP hD hS 0 rfl rfl 13 (by decide) (hts _ qw75) (fun _ h9 => h9) rfl hin rfl (by decide +kernel) rfl rfl (Nat.le_of_ble_eq_true rfl) dX4_init_109 (fun H locs hP hD hS => ?_)
  have hP : va_P (dC, dI) cls [(h0, .inr (6, [.null, .ref q1, .ref q3, .ref q5, .ref q7, .int 0, .ref q9, .ref q11, .ref q13, .ref q15, .ref q17, .ref q19, .ref q21, .ref q23, .null, .null, .null, .null, .null, .null]))] H := hP
  have hD : va_D A [(h0, .inr (6, [.null, .ref q1, .ref q3, .ref q5, .ref q7, .int 0, .ref q9, .ref q11, .ref q13, .ref q15, .ref q17, .ref q19, .ref q21, .ref q23, .null, .null, .null, .null, .null, .null]))] := hD
  refine lv_aload_n hx hb dX4_init_112 rfl (lv_at hl 0 rfl) ?_
  refine lv_bipush (v := 60) hx hb dX4_init_113 (by decide) ?_
  refine va_newa (atype := .int) (ty := .int) hx hb (hts _ qw2) rfl hK hP hD hS hA (a0 := (60, .inl (fun _ => 0))) (fun _ => rfl) (by decide) (by decide +kernel) (Nat.le_of_ble_eq_true rfl) (Nat.le_of_ble_eq_true rfl) (Nat.le_of_ble_eq_true rfl) dX4_init_115 (fun q25 c26 H hK hP hD hS => ?_)
  have hP : va_P (dC, dI) cls [(h0, .inr (6, [.null, .ref q1, .ref q3, .ref q5, .ref q7, .int 0, .ref q9, .ref q11, .ref q13, .ref q15, .ref q17, .ref q19, .ref q21, .ref q23, .null, .null, .null, .null, .null, .null])), (q25, .inl (c26, 60, .inl (fun _ => 0)))] H := hP
  have hD : va_D A [(h0, .inr (6, [.null, .ref q1, .ref q3, .ref q5, .ref q7, .int 0, .ref q9, .ref q11, .ref q13, .ref q15, .ref q17, .ref q19, .ref q21, .ref q23, .null, .null, .null, .null, .null, .null])), (q25, .inl (c26, 60, .inl (fun _ => 0)))] := hD
  have hK : va_K (dC, dI) cls [(c26, .int)] s := hK
  have hP : va_P (dC, dI) cls [(h0, .inr (6, [.null, .ref q1, .ref q3, .ref q5, .ref q7, .int 0, .ref q9, .ref q11, .ref q13, .ref q15, .ref q17, .ref q19, .ref q21, .ref q23, .null, .null, .null, .null, .null, .null]))] H := hP.sub [0] rfl
  have hD : va_D A [(h0, .inr (6, [.null, .ref q1, .ref q3, .ref q5, .ref q7, .int 0, .ref q9, .ref q11, .ref q13, .ref q15, .ref q17, .ref q19, .ref q21, .ref q23, .null, .null, .null, .null, .null, .null]))] := hD.sub [0] (by decide) rfl
  have hK : va_K (dC, dI) cls [] s := hK.sub [] rfl
  refine W.widen (k := 13) (n := 15292) (Nat.le_of_ble_eq_true rfl) (Nat.le_of_ble_eq_true rfl) ?_
  refine va_putF (D := (dC, dI)) (ci := 6) (v := .ref q25) (ty := .array .int) (C := RX4) (T := TX4) (N := 20) hx hb hts i_X4 tyX4 tyX4_ok nmX4 hown hK hP hD hS 0 rfl rfl 14 (by decide) (hts _ qw76) (fun _ h9 => h9) rfl hin rfl (by decide +kernel) rfl rfl (Nat.le_of_ble_eq_true rfl) dX4_init_117 (fun H locs hP hD hS => ?_)
  have hP : va_P (dC, dI) cls [(h0, .inr (6, [.null, .ref q1, .ref q3, .ref q5, .ref q7, .int 0, .ref q9, .ref q11, .ref q13, .ref q15, .ref q17, .ref q19, .ref q21, .ref q23, .ref q25, .null, .null, .null, .null, .null]))] H := hP
  have hD : va_D A [(h0, .inr (6, [.null, .ref q1, .ref q3, .ref q5, .ref q7, .int 0, .ref q9, .ref q11, .ref q13, .ref q15, .ref q17, .ref q19, .ref q21, .ref q23, .ref q25, .null, .null, .null, .null, .null]))] := hD
  refine lv_aload_n hx hb dX4_init_120 rfl (lv_at hl 0 rfl) ?_
  refine lv_sipush (v := 320) hx hb dX4_init_121 (by decide) ?_
  refine va_newa (atype := .long) (ty := .long) hx hb (hts _ qw5) rfl hK hP hD hS hA (a0 := (320, .inr <| .inl (fun _ => 0))) (fun _ => rfl) (by decide) (by decide +kernel) (Nat.le_of_ble_eq_true rfl) (Nat.le_of_ble_eq_true rfl) (Nat.le_of_ble_eq_true rfl) dX4_init_124 (fun q27 c28 H hK hP hD hS => ?_)
  have hP : va_P (dC, dI) cls [(h0, .inr (6, [.null, .ref q1, .ref q3, .ref q5, .ref q7, .int 0, .ref q9, .ref q11, .ref q13, .ref q15, .ref q17, .ref q19, .ref q21, .ref q23, .ref q25, .null, .null, .null, .null, .null])), (q27, .inl (c28, 320, .inr (.inl (fun _ => 0))))] H := hP
  have hD : va_D A [(h0, .inr (6, [.null, .ref q1, .ref q3, .ref q5, .ref q7, .int 0, .ref q9, .ref q11, .ref q13, .ref q15, .ref q17, .ref q19, .ref q21, .ref q23, .ref q25, .null, .null, .null, .null, .null])), (q27, .inl (c28, 320, .inr (.inl (fun _ => 0))))] := hD
  have hK : va_K (dC, dI) cls [(c28, .long)] s := hK
  have hP : va_P (dC, dI) cls [(h0, .inr (6, [.null, .ref q1, .ref q3, .ref q5, .ref q7, .int 0, .ref q9, .ref q11, .ref q13, .ref q15, .ref q17, .ref q19, .ref q21, .ref q23, .ref q25, .null, .null, .null, .null, .null]))] H := hP.sub [0] rfl
  have hD : va_D A [(h0, .inr (6, [.null, .ref q1, .ref q3, .ref q5, .ref q7, .int 0, .ref q9, .ref q11, .ref q13, .ref q15, .ref q17, .ref q19, .ref q21, .ref q23, .ref q25, .null, .null, .null, .null, .null]))] := hD.sub [0] (by decide) rfl
  have hK : va_K (dC, dI) cls [] s := hK.sub [] rfl
  refine W.widen (k := 14) (n := 15612) (Nat.le_of_ble_eq_true rfl) (Nat.le_of_ble_eq_true rfl) ?_
  refine va_putF (D := (dC, dI)) (ci := 6) (v := .ref q27) (ty := .array .long) (C := RX4) (T := TX4) (N := 20) hx hb hts i_X4 tyX4 tyX4_ok nmX4 hown hK hP hD hS 0 rfl rfl 15 (by decide) (hts _ qw77) (fun _ h9 => h9) rfl hin rfl (by decide +kernel) rfl rfl (Nat.le_of_ble_eq_true rfl) dX4_init_126 (fun H locs hP hD hS => ?_)
  have hP : va_P (dC, dI) cls [(h0, .inr (6, [.null, .ref q1, .ref q3, .ref q5, .ref q7, .int 0, .ref q9, .ref q11, .ref q13, .ref q15, .ref q17, .ref q19, .ref q21, .ref q23, .ref q25, .ref q27, .null, .null, .null, .null]))] H := hP
  have hD : va_D A [(h0, .inr (6, [.null, .ref q1, .ref q3, .ref q5, .ref q7, .int 0, .ref q9, .ref q11, .ref q13, .ref q15, .ref q17, .ref q19, .ref q21, .ref q23, .ref q25, .ref q27, .null, .null, .null, .null]))] := hD
  refine lv_aload_n hx hb dX4_init_129 rfl (lv_at hl 0 rfl) ?_
  refine lv_sipush (v := 320) hx hb dX4_init_130 (by decide) ?_
  refine va_newa (atype := .long) (ty := .long) hx hb (hts _ qw5) rfl hK hP hD hS hA (a0 := (320, .inr <| .inl (fun _ => 0))) (fun _ => rfl) (by decide) (by decide +kernel) (Nat.le_of_ble_eq_true rfl) (Nat.le_of_ble_eq_true rfl) (Nat.le_of_ble_eq_true rfl) dX4_init_133 (fun q29 c30 H hK hP hD hS => ?_)
  have hP : va_P (dC, dI) cls [(h0, .inr (6, [.null, .ref q1, .ref q3, .ref q5, .ref q7, .int 0, .ref q9, .ref q11, .ref q13, .ref q15, .ref q17, .ref q19, .ref q21, .ref q23, .ref q25, .ref q27, .null, .null, .null, .null])), (q29, .inl (c30, 320, .inr (.inl (fun _ => 0))))] H := hP
  have hD : va_D A [(h0, .inr (6, [.null, .ref q1, .ref q3, .ref q5, .ref q7, .int 0, .ref q9, .ref q11, .ref q13, .ref q15, .ref q17, .ref q19, .ref q21, .ref q23, .ref q25, .ref q27, .null, .null, .null, .null])), (q29, .inl (c30, 320, .inr (.inl (fun _ => 0))))] := hD
  have hK : va_K (dC, dI) cls [(c30, .long)] s := hK
  have hP : va_P (dC, dI) cls [(h0, .inr (6, [.null, .ref q1, .ref q3, .ref q5, .ref q7, .int 0, .ref q9, .ref q11, .ref q13, .ref q15, .ref q17, .ref q19, .ref q21, .ref q23, .ref q25, .ref q27, .null, .null, .null, .null]))] H := hP.sub [0] rfl
  have hD : va_D A [(h0, .inr (6, [.null, .ref q1, .ref q3, .ref q5, .ref q7, .int 0, .ref q9, .ref q11, .ref q13, .ref q15, .ref q17, .ref q19, .ref q21, .ref q23, .ref q25, .ref q27, .null, .null, .null, .null]))] := hD.sub [0] (by decide) rfl
  have hK : va_K (dC, dI) cls [] s := hK.sub [] rfl
  refine W.widen (k := 15) (n := 15932) (Nat.le_of_ble_eq_true rfl) (Nat.le_of_ble_eq_true rfl) ?_
  refine va_putF (D := (dC, dI)) (ci := 6) (v := .ref q29) (ty := .array .long) (C := RX4) (T := TX4) (N := 20) hx hb hts i_X4 tyX4 tyX4_ok nmX4 hown hK hP hD hS 0 rfl rfl 16 (by decide) (hts _ qw78) (fun _ h9 => h9) rfl hin rfl (by decide +kernel) rfl rfl (Nat.le_of_ble_eq_true rfl) dX4_init_135 (fun H locs hP hD hS => ?_)
  have hP : va_P (dC, dI) cls [(h0, .inr (6, [.null, .ref q1, .ref q3, .ref q5, .ref q7, .int 0, .ref q9, .ref q11, .ref q13, .ref q15, .ref q17, .ref q19, .ref q21, .ref q23, .ref q25, .ref q27, .ref q29, .null, .null, .null]))] H := hP
  have hD : va_D A [(h0, .inr (6, [.null, .ref q1, .ref q3, .ref q5, .ref q7, .int 0, .ref q9, .ref q11, .ref q13, .ref q15, .ref q17, .ref q19, .ref q21, .ref q23, .ref q25, .ref q27, .ref q29, .null, .null, .null]))] := hD
  refine lv_aload_n hx hb dX4_init_138 rfl (lv_at hl 0 rfl) ?_
  refine lv_bipush (v := 60) hx hb dX4_init_139 (by decide) ?_
  refine va_newa (atype := .long) (ty := .long) hx hb (hts _ qw5) rfl hK hP hD hS hA (a0 := (60, .inr <| .inl (fun _ => 0))) (fun _ => rfl) (by decide) (by decide +kernel) (Nat.le_of_ble_eq_true rfl) (Nat.le_of_ble_eq_true rfl) (Nat.le_of_ble_eq_true rfl) dX4_init_141 (fun q31 c32 H hK hP hD hS => ?_)
  have hP : va_P (dC, dI) cls [(h0, .inr (6, [.null, .ref q1, .ref q3, .ref q5, .ref q7, .int 0, .ref q9, .ref q11, .ref q13, .ref q15, .ref q17, .ref q19, .ref q21, .ref q23, .ref q25, .ref q27, .ref q29, .null, .null, .null])), (q31, .inl (c32, 60, .inr (.inl (fun _ => 0))))] H := hP
  have hD : va_D A [(h0, .inr (6, [.null, .ref q1, .ref q3, .ref q5, .ref q7, .int 0, .ref q9, .ref q11, .ref q13, .ref q15, .ref q17, .ref q19, .ref q21, .ref q23, .ref q25, .ref q27, .ref q29, .null, .null, .null])), (q31, .inl (c32, 60, .inr (.inl (fun _ => 0))))] := hD
  have hK : va_K (dC, dI) cls [(c32, .long)] s := hK
  have hP : va_P (dC, dI) cls [(h0, .inr (6, [.null, .ref q1, .ref q3, .ref q5, .ref q7, .int 0, .ref q9, .ref q11, .ref q13, .ref q15, .ref q17, .ref q19, .ref q21, .ref q23, .ref q25, .ref q27, .ref q29, .null, .null, .null]))] H := hP.sub [0] rfl
  have hD : va_D A [(h0, .inr (6, [.null, .ref q1, .ref q3, .ref q5, .ref q7, .int 0, .ref q9, .ref q11, .ref q13, .ref q15, .ref q17, .ref q19, .ref q21, .ref q23, .ref q25, .ref q27, .ref q29, .null, .null, .null]))] := hD.sub [0] (by decide) rfl
  have hK : va_K (dC, dI) cls [] s := hK.sub [] rfl
  refine W.widen (k := 16) (n := 15992) (Nat.le_of_ble_eq_true rfl) (Nat.le_of_ble_eq_true rfl) ?_
  refine va_putF (D := (dC, dI)) (ci := 6) (v := .ref q31) (ty := .array .long) (C := RX4) (T := TX4) (N := 20) hx hb hts i_X4 tyX4 tyX4_ok nmX4 hown hK hP hD hS 0 rfl rfl 17 (by decide) (hts _ qw79) (fun _ h9 => h9) rfl hin rfl (by decide +kernel) rfl rfl (Nat.le_of_ble_eq_true rfl) dX4_init_143 (fun H locs hP hD hS => ?_)
  have hP : va_P (dC, dI) cls [(h0, .inr (6, [.null, .ref q1, .ref q3, .ref q5, .ref q7, .int 0, .ref q9, .ref q11, .ref q13, .ref q15, .ref q17, .ref q19, .ref q21, .ref q23, .ref q25, .ref q27, .ref q29, .ref q31, .null, .null]))] H := hP
  have hD : va_D A [(h0, .inr (6, [.null, .ref q1, .ref q3, .ref q5, .ref q7, .int 0, .ref q9, .ref q11, .ref q13, .ref q15, .ref q17, .ref q19, .ref q21, .ref q23, .ref q25, .ref q27, .ref q29, .ref q31, .null, .null]))] := hD
  refine lv_aload_n hx hb dX4_init_146 rfl (lv_at hl 0 rfl) ?_
  refine lv_sipush (v := 250) hx hb dX4_init_147 (by decide) ?_
  refine va_newa (atype := .int) (ty := .int) hx hb (hts _ qw2) rfl hK hP hD hS hA (a0 := (250, .inl (fun _ => 0))) (fun _ => rfl) (by decide) (by decide +kernel) (Nat.le_of_ble_eq_true rfl) (Nat.le_of_ble_eq_true rfl) (Nat.le_of_ble_eq_true rfl) dX4_init_150 (fun q33 c34 H hK hP hD hS => ?_)
  have hP : va_P (dC, dI) cls [(h0, .inr (6, [.null, .ref q1, .ref q3, .ref q5, .ref q7, .int 0, .ref q9, .ref q11, .ref q13, .ref q15, .ref q17, .ref q19, .ref q21, .ref q23, .ref q25, .ref q27, .ref q29, .ref q31, .null, .null])), (q33, .inl (c34, 250, .inl (fun _ => 0)))] H := hP
  have hD : va_D A [(h0, .inr (6, [.null, .ref q1, .ref q3, .ref q5, .ref q7, .int 0, .ref q9, .ref q11, .ref q13, .ref q15, .ref q17, .ref q19, .ref q21, .ref q23, .ref q25, .ref q27, .ref q29, .ref q31, .null, .null])), (q33, .inl (c34, 250, .inl (fun _ => 0)))] := hD
  have hK : va_K (dC, dI) cls [(c34, .int)] s := hK
  have hP : va_P (dC, dI) cls [(h0, .inr (6, [.null, .ref q1, .ref q3, .ref q5, .ref q7, .int 0, .ref q9, .ref q11, .ref q13, .ref q15, .ref q17, .ref q19, .ref q21, .ref q23, .ref q25, .ref q27, .ref q29, .ref q31, .null, .null]))] H := hP.sub [0] rfl
  have hD : va_D A [(h0, .inr (6, [.null, .ref q1, .ref q3, .ref q5, .ref q7, .int 0, .ref q9, .ref q11, .ref q13, .ref q15, .ref q17, .ref q19, .ref q21, .ref q23, .ref q25, .ref q27, .ref q29, .ref q31, .null, .null]))] := hD.sub [0] (by decide) rfl
  have hK : va_K (dC, dI) cls [] s := hK.sub [] rfl
  refine W.widen (k := 17) (n := 16242) (Nat.le_of_ble_eq_true rfl) (Nat.le_of_ble_eq_true rfl) ?_
  refine va_putF (D := (dC, dI)) (ci := 6) (v := .ref q33) (ty := .array .int) (C := RX4) (T := TX4) (N := 20) hx hb hts i_X4 tyX4 tyX4_ok nmX4 hown hK hP hD hS 0 rfl rfl 18 (by decide) (hts _ qw80) (fun _ h9 => h9) rfl hin rfl (by decide +kernel) rfl rfl (Nat.le_of_ble_eq_true rfl) dX4_init_152 (fun H locs hP hD hS => ?_)
  have hP : va_P (dC, dI) cls [(h0, .inr (6, [.null, .ref q1, .ref q3, .ref q5, .ref q7, .int 0, .ref q9, .ref q11, .ref q13, .ref q15, .ref q17, .ref q19, .ref q21, .ref q23, .ref q25, .ref q27, .ref q29, .ref q31, .ref q33, .null]))] H := hP
  have hD : va_D A [(h0, .inr (6, [.null, .ref q1, .ref q3, .ref q5, .ref q7, .int 0, .ref q9, .ref q11, .ref q13, .ref q15, .ref q17, .ref q19, .ref q21, .ref q23, .ref q25, .ref q27, .ref q29, .ref q31, .ref q33, .null]))] := hD
  refine lv_aload_n hx hb dX4_init_155 rfl (lv_at hl 0 rfl) ?_
  refine lv_sipush (v := 19200) hx hb dX4_init_156 (by decide) ?_
  refine va_newa (atype := .int) (ty := .int) hx hb (hts _ qw2) rfl hK hP hD hS hA (a0 := (19200, .inl (fun _ => 0))) (fun _ => rfl) (by decide) (by decide +kernel) (Nat.le_of_ble_eq_true rfl) (Nat.le_of_ble_eq_true rfl) (Nat.le_of_ble_eq_true rfl) dX4_init_159 (fun q35 c36 H hK hP hD hS => ?_)
  have hP : va_P (dC, dI) cls [(h0, .inr (6, [.null, .ref q1, .ref q3, .ref q5, .ref q7, .int 0, .ref q9, .ref q11, .ref q13, .ref q15, .ref q17, .ref q19, .ref q21, .ref q23, .ref q25, .ref q27, .ref q29, .ref q31, .ref q33, .null])), (q35, .inl (c36, 19200, .inl (fun _ => 0)))] H := hP
  have hD : va_D A [(h0, .inr (6, [.null, .ref q1, .ref q3, .ref q5, .ref q7, .int 0, .ref q9, .ref q11, .ref q13, .ref q15, .ref q17, .ref q19, .ref q21, .ref q23, .ref q25, .ref q27, .ref q29, .ref q31, .ref q33, .null])), (q35, .inl (c36, 19200, .inl (fun _ => 0)))] := hD
  have hK : va_K (dC, dI) cls [(c36, .int)] s := hK
  have hP : va_P (dC, dI) cls [(h0, .inr (6, [.null, .ref q1, .ref q3, .ref q5, .ref q7, .int 0, .ref q9, .ref q11, .ref q13, .ref q15, .ref q17, .ref q19, .ref q21, .ref q23, .ref q25, .ref q27, .ref q29, .ref q31, .ref q33, .null]))] H := hP.sub [0] rfl
  have hD : va_D A [(h0, .inr (6, [.null, .ref q1, .ref q3, .ref q5, .ref q7, .int 0, .ref q9, .ref q11, .ref q13, .ref q15, .ref q17, .ref q19, .ref q21, .ref q23, .ref q25, .ref q27, .ref q29, .ref q31, .ref q33, .null]))] := hD.sub [0] (by decide) rfl
  have hK : va_K (dC, dI) cls [] s := hK.sub [] rfl
  refine W.widen (k := 18) (n := 35442) (Nat.le_of_ble_eq_true rfl) (Nat.le_of_ble_eq_true rfl) ?_
  refine va_putF (D := (dC, dI)) (ci := 6) (v := .ref q35) (ty := .array .int) (C := RX4) (T := TX4) (N := 20) hx hb hts i_X4 tyX4 tyX4_ok nmX4 hown hK hP hD hS 0 rfl rfl 19 (by decide) (hts _ qw81) (fun _ h9 => h9) rfl hin rfl (by decide +kernel) rfl rfl (Nat.le_of_ble_eq_true rfl) dX4_init_161 (fun H locs hP hD hS => ?_)
  have hP : va_P (dC, dI) cls [(h0, .inr (6, [.null, .ref q1, .ref q3, .ref q5, .ref q7, .int 0, .ref q9, .ref q11, .ref q13, .ref q15, .ref q17, .ref q19, .ref q21, .ref q23, .ref q25, .ref q27, .ref q29, .ref q31, .ref q33, .ref q35]))] H := hP
  have hD : va_D A [(h0, .inr (6, [.null, .ref q1, .ref q3, .ref q5, .ref q7, .int 0, .ref q9, .ref q11, .ref q13, .ref q15, .ref q17, .ref q19, .ref q21, .ref q23, .ref q25, .ref q27, .ref q29, .ref q31, .ref q33, .ref q35]))] := hD
  refine lv_aload_n hx hb dX4_init_164 rfl (lv_at hl 0 rfl) ?_
  refine lv_aload_n hx hb dX4_init_165 rfl (lv_at hl 1 rfl) ?_
  refine va_putF (D := (dC, dI)) (ci := 6) (v := .ref h1) (ty := .object "Gearbox$Shape") (C := RX4) (T := TX4) (N := 20) hx hb hts i_X4 tyX4 tyX4_ok nmX4 hown hK hP hD hS 0 rfl rfl 0 (by decide) (hts _ qw82) (fun _ h9 => h9) rfl hin rfl (by decide +kernel) rfl rfl (Nat.le_of_ble_eq_true rfl) dX4_init_166 (fun H locs hP hD hS => ?_)
  have hP : va_P (dC, dI) cls [(h0, .inr (6, [.ref h1, .ref q1, .ref q3, .ref q5, .ref q7, .int 0, .ref q9, .ref q11, .ref q13, .ref q15, .ref q17, .ref q19, .ref q21, .ref q23, .ref q25, .ref q27, .ref q29, .ref q31, .ref q33, .ref q35]))] H := hP
  have hD : va_D A [(h0, .inr (6, [.ref h1, .ref q1, .ref q3, .ref q5, .ref q7, .int 0, .ref q9, .ref q11, .ref q13, .ref q15, .ref q17, .ref q19, .ref q21, .ref q23, .ref q25, .ref q27, .ref q29, .ref q31, .ref q33, .ref q35]))] := hD
  have hP9 : va_P (dC, dI) cls [] H := hP.sub [] rfl
  have hD9 : va_D A [] := hD.sub [] (by decide) rfl
  have hK9 : va_K (dC, dI) cls [] s := hK.sub [] rfl
  exact W.vret hx hb hr (fun t ht hW => ⟨⟨(), rfl, trivial, ⟨by rw [ht]; exact hP9, va_K.moved hW.alike hK9, hD9⟩⟩, hS.F ht⟩) hS.2.2 dX4_init_169
set_option maxHeartbeats 4000000 in
set_option maxRecDepth 100000 in
theorem kX5_init {zs : Nat × Nat} (l : Launch) (dC : Nat → ClassId) (dI : Nat → Nat → Nat) (h0 : Nat) (h1 : Nat) (sz : Nat)  : Met l yX5_init (wz yX5_init cX5_init 2 (Option.none : Option Jvm.ClassFile.FieldType)) ({ frames := 1, cells := 9, slots := 2060, locals := 12 }) (va_Pc [.ref h0, .ref h1] (PRE zs dC dI [(h0, .inr (7, [.null, .null, .null, .null, .null, .null, .null, .long 0, .null, .null, .int 0, .null]))] [] sz)) (va_Qv (fun (_ : Unit) => True) (fun _ t => POST dC dI [] [] (va_A [(h0, .inr (7, [.null, .null, .null, .null, .null, .null, .null, .long 0, .null, .null, .int 0, .null]))] sz) t) (va_A [(h0, .inr (7, [.null, .null, .null, .null, .null, .null, .null, .long 0, .null, .null, .int 0, .null]))] sz)) 9 2060 (va_A [(h0, .inr (7, [.null, .null, .null, .null, .null, .null, .null, .long 0, .null, .null, .int 0, .null]))] sz) := by
  refine Met.ofW (cc := cX5_init) (maxL := 2) (ret := (Option.none : Option Jvm.ClassFile.FieldType)) (by decide) rfl ?_
  intro p e s m args below meth c s₁ B hml hv
  obtain ⟨rfl, hsz, hP, hK, hD0, hE⟩ := hv
  have hx := B.exec
  have hb := B.bytes
  have hr := B.returns
  have hts0 := atoms_spec (ws := wz yX5_init cX5_init 2 (Option.none : Option Jvm.ClassFile.FieldType)) B.pre
  have hts : ∀ w ∈ gw, w.before _ s = true := fun w h => hts0 w (List.mem_cons_of_mem _ h)
  have hown : s.vm.findClass RX5 = some m.cls := findClass_of_methodNamed B.named
  have hlocks := B.notSynchronized
  have hin : meth.name = "<init>" := (name_of_methodNamed B.named B.method).1
  subst hsz
  have hD := hD0.self (sz := s.heap.size)
  generalize hAe : va_A [(h0, .inr (7, [.null, .null, .null, .null, .null, .null, .null, .long 0, .null, .null, .int 0, .null]))] s.heap.size = A at hD hE ⊢
  have hA : ∀ q : Nat, s.heap.size ≤ q → A q := fun q h => by rw [← hAe]; exact Or.inr h
  have hS : va_S A s.heap s.heap [] := va_S.rf
  have hP : va_P (dC, dI) cls [(h0, .inr (7, [.null, .null, .null, .null, .null, .null, .null, .long 0, .null, .null, .int 0, .null]))] s.heap := hP
  have hl := lv_entry ([.ref h0, .ref h1]) (n := 2) (Nat.le_of_ble_eq_true rfl)
  rw [lg_entry_eq]
  generalize (lg_sl ([.ref h0, .ref h1]) ++ List.replicate (2 - (lg_sl ([.ref h0, .ref h1])).length) Slot.unset).toArray = ls at hl ⊢
  have hl : lv_has ls 2 [(0, .ref h0), (1, .ref h1)] := hl
  refine lv_aload_n hx hb dX5_init_0 rfl (lv_at hl 0 rfl) ?_
  refine W.objInit hx hb hown (hts _ qw83) (hts _ qw1) (hts _ qw_oi) rfl (by rw [hml]; exact hl.1) rfl dX5_init_1 (Nat.le_of_ble_eq_true rfl) (Nat.le_of_ble_eq_true rfl) ?_
  refine W.eq (g2 := F0 m 4 ls []) rfl ?_
  refine lv_aload_n hx hb dX5_init_4 rfl (lv_at hl 0 rfl) ?_
  refine lv_sipush (v := 250) hx hb dX5_init_5 (by decide) ?_
  refine va_newa (atype := .int) (ty := .int) hx hb (hts _ qw2) rfl hK hP hD hS hA (a0 := (250, .inl (fun _ => 0))) (fun _ => rfl) (by decide) (by decide +kernel) (Nat.le_of_ble_eq_true rfl) (Nat.le_of_ble_eq_true rfl) (Nat.le_of_ble_eq_true rfl) dX5_init_8 (fun q1 c2 H hK hP hD hS => ?_)
  have hP : va_P (dC, dI) cls [(h0, .inr (7, [.null, .null, .null, .null, .null, .null, .null, .long 0, .null, .null, .int 0, .null])), (q1, .inl (c2, 250, .inl (fun _ => 0)))] H := hP
  have hD : va_D A [(h0, .inr (7, [.null, .null, .null, .null, .null, .null, .null, .long 0, .null, .null, .int 0, .null])), (q1, .inl (c2, 250, .inl (fun _ => 0)))] := hD
  have hK : va_K (dC, dI) cls [(c2, .int)] s := hK
  have hP : va_P (dC, dI) cls [(h0, .inr (7, [.null, .null, .null, .null, .null, .null, .null, .long 0, .null, .null, .int 0, .null]))] H := hP.sub [0] rfl
  have hD : va_D A [(h0, .inr (7, [.null, .null, .null, .null, .null, .null, .null, .long 0, .null, .null, .int 0, .null]))] := hD.sub [0] (by decide) rfl
  have hK : va_K (dC, dI) cls [] s := hK.sub [] rfl
  refine W.widen (k := 1) (n := 250) (Nat.le_of_ble_eq_true rfl) (Nat.le_of_ble_eq_true rfl) ?_
  refine va_putF (D := (dC, dI)) (ci := 7) (v := .ref q1) (ty := .array .int) (C := RX5) (T := TX5) (N := 12) hx hb hts i_X5 tyX5 tyX5_ok nmX5 hown hK hP hD hS 0 rfl rfl 1 (by decide) (hts _ qw84) (fun _ h9 => h9) rfl hin rfl (by decide +kernel) rfl rfl (Nat.le_of_ble_eq_true rfl) dX5_init_10 (fun H locs hP hD hS => ?_)
  have hP : va_P (dC, dI) cls [(h0, .inr (7, [.null, .ref q1, .null, .null, .null, .null, .null, .long 0, .null, .null, .int 0, .null]))] H := hP
  have hD : va_D A [(h0, .inr (7, [.null, .ref q1, .null, .null, .null, .null, .null, .long 0, .null, .null, .int 0, .null]))] := hD
  refine lv_aload_n hx hb dX5_init_13 rfl (lv_at hl 0 rfl) ?_
  refine lv_sipush (v := 250) hx hb dX5_init_14 (by decide) ?_
  refine va_newa (atype := .int) (ty := .int) hx hb (hts _ qw2) rfl hK hP hD hS hA (a0 := (250, .inl (fun _ => 0))) (fun _ => rfl) (by decide) (by decide +kernel) (Nat.le_of_ble_eq_true rfl) (Nat.le_of_ble_eq_true rfl) (Nat.le_of_ble_eq_true rfl) dX5_init_17 (fun q3 c4 H hK hP hD hS => ?_)
  have hP : va_P (dC, dI) cls [(h0, .inr (7, [.null, .ref q1, .null, .null, .null, .null, .null, .long 0, .null, .null, .int 0, .null])), (q3, .inl (c4, 250, .inl (fun _ => 0)))] H := hP
  have hD : va_D A [(h0, .inr (7, [.null, .ref q1, .null, .null, .null, .null, .null, .long 0, .null, .null, .int 0, .null])), (q3, .inl (c4, 250, .inl (fun _ => 0)))] := hD
  have hK : va_K (dC, dI) cls [(c4, .int)] s := hK
  have hP : va_P (dC, dI) cls [(h0, .inr (7, [.null, .ref q1, .null, .null, .null, .null, .null, .long 0, .null, .null, .int 0, .null]))] H := hP.sub [0] rfl
  have hD : va_D A [(h0, .inr (7, [.null, .ref q1, .null, .null, .null, .null, .null, .long 0, .null, .null, .int 0, .null]))] := hD.sub [0] (by decide) rfl
  have hK : va_K (dC, dI) cls [] s := hK.sub [] rfl
  refine W.widen (k := 2) (n := 500) (Nat.le_of_ble_eq_true rfl) (Nat.le_of_ble_eq_true rfl) ?_
  refine va_putF (D := (dC, dI)) (ci := 7) (v := .ref q3) (ty := .array .int) (C := RX5) (T := TX5) (N := 12) hx hb hts i_X5 tyX5 tyX5_ok nmX5 hown hK hP hD hS 0 rfl rfl 2 (by decide) (hts _ qw85) (fun _ h9 => h9) rfl hin rfl (by decide +kernel) rfl rfl (Nat.le_of_ble_eq_true rfl) dX5_init_19 (fun H locs hP hD hS => ?_)
  have hP : va_P (dC, dI) cls [(h0, .inr (7, [.null, .ref q1, .ref q3, .null, .null, .null, .null, .long 0, .null, .null, .int 0, .null]))] H := hP
  have hD : va_D A [(h0, .inr (7, [.null, .ref q1, .ref q3, .null, .null, .null, .null, .long 0, .null, .null, .int 0, .null]))] := hD
  refine lv_aload_n hx hb dX5_init_22 rfl (lv_at hl 0 rfl) ?_
  refine lv_sipush (v := 250) hx hb dX5_init_23 (by decide) ?_
  refine va_newa (atype := .int) (ty := .int) hx hb (hts _ qw2) rfl hK hP hD hS hA (a0 := (250, .inl (fun _ => 0))) (fun _ => rfl) (by decide) (by decide +kernel) (Nat.le_of_ble_eq_true rfl) (Nat.le_of_ble_eq_true rfl) (Nat.le_of_ble_eq_true rfl) dX5_init_26 (fun q5 c6 H hK hP hD hS => ?_)
  have hP : va_P (dC, dI) cls [(h0, .inr (7, [.null, .ref q1, .ref q3, .null, .null, .null, .null, .long 0, .null, .null, .int 0, .null])), (q5, .inl (c6, 250, .inl (fun _ => 0)))] H := hP
  have hD : va_D A [(h0, .inr (7, [.null, .ref q1, .ref q3, .null, .null, .null, .null, .long 0, .null, .null, .int 0, .null])), (q5, .inl (c6, 250, .inl (fun _ => 0)))] := hD
  have hK : va_K (dC, dI) cls [(c6, .int)] s := hK
  have hP : va_P (dC, dI) cls [(h0, .inr (7, [.null, .ref q1, .ref q3, .null, .null, .null, .null, .long 0, .null, .null, .int 0, .null]))] H := hP.sub [0] rfl
  have hD : va_D A [(h0, .inr (7, [.null, .ref q1, .ref q3, .null, .null, .null, .null, .long 0, .null, .null, .int 0, .null]))] := hD.sub [0] (by decide) rfl
  have hK : va_K (dC, dI) cls [] s := hK.sub [] rfl
  refine W.widen (k := 3) (n := 750) (Nat.le_of_ble_eq_true rfl) (Nat.le_of_ble_eq_true rfl) ?_
  refine va_putF (D := (dC, dI)) (ci := 7) (v := .ref q5) (ty := .array .int) (C := RX5) (T := TX5) (N := 12) hx hb hts i_X5 tyX5 tyX5_ok nmX5 hown hK hP hD hS 0 rfl rfl 3 (by decide) (hts _ qw86) (fun _ h9 => h9) rfl hin rfl (by decide +kernel) rfl rfl (Nat.le_of_ble_eq_true rfl) dX5_init_28 (fun H locs hP hD hS => ?_)
  have hP : va_P (dC, dI) cls [(h0, .inr (7, [.null, .ref q1, .ref q3, .ref q5, .null, .null, .null, .long 0, .null, .null, .int 0, .null]))] H := hP
  have hD : va_D A [(h0, .inr (7, [.null, .ref q1, .ref q3, .ref q5, .null, .null, .null, .long 0, .null, .null, .int 0, .null]))] := hD
  refine lv_aload_n hx hb dX5_init_31 rfl (lv_at hl 0 rfl) ?_
  refine lv_sipush (v := 250) hx hb dX5_init_32 (by decide) ?_
  refine va_newa (atype := .int) (ty := .int) hx hb (hts _ qw2) rfl hK hP hD hS hA (a0 := (250, .inl (fun _ => 0))) (fun _ => rfl) (by decide) (by decide +kernel) (Nat.le_of_ble_eq_true rfl) (Nat.le_of_ble_eq_true rfl) (Nat.le_of_ble_eq_true rfl) dX5_init_35 (fun q7 c8 H hK hP hD hS => ?_)
  have hP : va_P (dC, dI) cls [(h0, .inr (7, [.null, .ref q1, .ref q3, .ref q5, .null, .null, .null, .long 0, .null, .null, .int 0, .null])), (q7, .inl (c8, 250, .inl (fun _ => 0)))] H := hP
  have hD : va_D A [(h0, .inr (7, [.null, .ref q1, .ref q3, .ref q5, .null, .null, .null, .long 0, .null, .null, .int 0, .null])), (q7, .inl (c8, 250, .inl (fun _ => 0)))] := hD
  have hK : va_K (dC, dI) cls [(c8, .int)] s := hK
  have hP : va_P (dC, dI) cls [(h0, .inr (7, [.null, .ref q1, .ref q3, .ref q5, .null, .null, .null, .long 0, .null, .null, .int 0, .null]))] H := hP.sub [0] rfl
  have hD : va_D A [(h0, .inr (7, [.null, .ref q1, .ref q3, .ref q5, .null, .null, .null, .long 0, .null, .null, .int 0, .null]))] := hD.sub [0] (by decide) rfl
  have hK : va_K (dC, dI) cls [] s := hK.sub [] rfl
  refine W.widen (k := 4) (n := 1000) (Nat.le_of_ble_eq_true rfl) (Nat.le_of_ble_eq_true rfl) ?_
  refine va_putF (D := (dC, dI)) (ci := 7) (v := .ref q7) (ty := .array .int) (C := RX5) (T := TX5) (N := 12) hx hb hts i_X5 tyX5 tyX5_ok nmX5 hown hK hP hD hS 0 rfl rfl 4 (by decide) (hts _ qw87) (fun _ h9 => h9) rfl hin rfl (by decide +kernel) rfl rfl (Nat.le_of_ble_eq_true rfl) dX5_init_37 (fun H locs hP hD hS => ?_)
  have hP : va_P (dC, dI) cls [(h0, .inr (7, [.null, .ref q1, .ref q3, .ref q5, .ref q7, .null, .null, .long 0, .null, .null, .int 0, .null]))] H := hP
  have hD : va_D A [(h0, .inr (7, [.null, .ref q1, .ref q3, .ref q5, .ref q7, .null, .null, .long 0, .null, .null, .int 0, .null]))] := hD
  refine lv_aload_n hx hb dX5_init_40 rfl (lv_at hl 0 rfl) ?_
  refine lv_sipush (v := 250) hx hb dX5_init_41 (by decide) ?_
  refine va_newa (atype := .int) (ty := .int) hx hb (hts _ qw2) rfl hK hP hD hS hA (a0 := (250, .inl (fun _ => 0))) (fun _ => rfl) (by decide) (by decide +kernel) (Nat.le_of_ble_eq_true rfl) (Nat.le_of_ble_eq_true rfl) (Nat.le_of_ble_eq_true rfl) dX5_init_44 (fun q9 c10 H hK hP hD hS => ?_)
  have hP : va_P (dC, dI) cls [(h0, .inr (7, [.null, .ref q1, .ref q3, .ref q5, .ref q7, .null, .null, .long 0, .null, .null, .int 0, .null])), (q9, .inl (c10, 250, .inl (fun _ => 0)))] H := hP
  have hD : va_D A [(h0, .inr (7, [.null, .ref q1, .ref q3, .ref q5, .ref q7, .null, .null, .long 0, .null, .null, .int 0, .null])), (q9, .inl (c10, 250, .inl (fun _ => 0)))] := hD
  have hK : va_K (dC, dI) cls [(c10, .int)] s := hK
  have hP : va_P (dC, dI) cls [(h0, .inr (7, [.null, .ref q1, .ref q3, .ref q5, .ref q7, .null, .null, .long 0, .null, .null, .int 0, .null]))] H := hP.sub [0] rfl
  have hD : va_D A [(h0, .inr (7, [.null, .ref q1, .ref q3, .ref q5, .ref q7, .null, .null, .long 0, .null, .null, .int 0, .null]))] := hD.sub [0] (by decide) rfl
  have hK : va_K (dC, dI) cls [] s := hK.sub [] rfl
  refine W.widen (k := 5) (n := 1250) (Nat.le_of_ble_eq_true rfl) (Nat.le_of_ble_eq_true rfl) ?_
  refine va_putF (D := (dC, dI)) (ci := 7) (v := .ref q9) (ty := .array .int) (C := RX5) (T := TX5) (N := 12) hx hb hts i_X5 tyX5 tyX5_ok nmX5 hown hK hP hD hS 0 rfl rfl 5 (by decide) (hts _ qw88) (fun _ h9 => h9) rfl hin rfl (by decide +kernel) rfl rfl (Nat.le_of_ble_eq_true rfl) dX5_init_46 (fun H locs hP hD hS => ?_)
  have hP : va_P (dC, dI) cls [(h0, .inr (7, [.null, .ref q1, .ref q3, .ref q5, .ref q7, .ref q9, .null, .long 0, .null, .null, .int 0, .null]))] H := hP
  have hD : va_D A [(h0, .inr (7, [.null, .ref q1, .ref q3, .ref q5, .ref q7, .ref q9, .null, .long 0, .null, .null, .int 0, .null]))] := hD
  refine lv_aload_n hx hb dX5_init_49 rfl (lv_at hl 0 rfl) ?_
  refine lv_sipush (v := 250) hx hb dX5_init_50 (by decide) ?_
  refine va_newa (atype := .int) (ty := .int) hx hb (hts _ qw2) rfl hK hP hD hS hA (a0 := (250, .inl (fun _ => 0))) (fun _ => rfl) (by decide) (by decide +kernel) (Nat.le_of_ble_eq_true rfl) (Nat.le_of_ble_eq_true rfl) (Nat.le_of_ble_eq_true rfl) dX5_init_53 (fun q11 c12 H hK hP hD hS => ?_)
  have hP : va_P (dC, dI) cls [(h0, .inr (7, [.null, .ref q1, .ref q3, .ref q5, .ref q7, .ref q9, .null, .long 0, .null, .null, .int 0, .null])), (q11, .inl (c12, 250, .inl (fun _ => 0)))] H := hP
  have hD : va_D A [(h0, .inr (7, [.null, .ref q1, .ref q3, .ref q5, .ref q7, .ref q9, .null, .long 0, .null, .null, .int 0, .null])), (q11, .inl (c12, 250, .inl (fun _ => 0)))] := hD
  have hK : va_K (dC, dI) cls [(c12, .int)] s := hK
  have hP : va_P (dC, dI) cls [(h0, .inr (7, [.null, .ref q1, .ref q3, .ref q5, .ref q7, .ref q9, .null, .long 0, .null, .null, .int 0, .null]))] H := hP.sub [0] rfl
  have hD : va_D A [(h0, .inr (7, [.null, .ref q1, .ref q3, .ref q5, .ref q7, .ref q9, .null, .long 0, .null, .null, .int 0, .null]))] := hD.sub [0] (by decide) rfl
  have hK : va_K (dC, dI) cls [] s := hK.sub [] rfl
  refine W.widen (k := 6) (n := 1500) (Nat.le_of_ble_eq_true rfl) (Nat.le_of_ble_eq_true rfl) ?_
  refine va_putF (D := (dC, dI)) (ci := 7) (v := .ref q11) (ty := .array .int) (C := RX5) (T := TX5) (N := 12) hx hb hts i_X5 tyX5 tyX5_ok nmX5 hown hK hP hD hS 0 rfl rfl 6 (by decide) (hts _ qw89) (fun _ h9 => h9) rfl hin rfl (by decide +kernel) rfl rfl (Nat.le_of_ble_eq_true rfl) dX5_init_55 (fun H locs hP hD hS => ?_)
  have hP : va_P (dC, dI) cls [(h0, .inr (7, [.null, .ref q1, .ref q3, .ref q5, .ref q7, .ref q9, .ref q11, .long 0, .null, .null, .int 0, .null]))] H := hP
  have hD : va_D A [(h0, .inr (7, [.null, .ref q1, .ref q3, .ref q5, .ref q7, .ref q9, .ref q11, .long 0, .null, .null, .int 0, .null]))] := hD
  refine lv_aload_n hx hb dX5_init_58 rfl (lv_at hl 0 rfl) ?_
  refine lv_sipush (v := 250) hx hb dX5_init_59 (by decide) ?_
  refine va_newa (atype := .int) (ty := .int) hx hb (hts _ qw2) rfl hK hP hD hS hA (a0 := (250, .inl (fun _ => 0))) (fun _ => rfl) (by decide) (by decide +kernel) (Nat.le_of_ble_eq_true rfl) (Nat.le_of_ble_eq_true rfl) (Nat.le_of_ble_eq_true rfl) dX5_init_62 (fun q13 c14 H hK hP hD hS => ?_)
  have hP : va_P (dC, dI) cls [(h0, .inr (7, [.null, .ref q1, .ref q3, .ref q5, .ref q7, .ref q9, .ref q11, .long 0, .null, .null, .int 0, .null])), (q13, .inl (c14, 250, .inl (fun _ => 0)))] H := hP
  have hD : va_D A [(h0, .inr (7, [.null, .ref q1, .ref q3, .ref q5, .ref q7, .ref q9, .ref q11, .long 0, .null, .null, .int 0, .null])), (q13, .inl (c14, 250, .inl (fun _ => 0)))] := hD
  have hK : va_K (dC, dI) cls [(c14, .int)] s := hK
  have hP : va_P (dC, dI) cls [(h0, .inr (7, [.null, .ref q1, .ref q3, .ref q5, .ref q7, .ref q9, .ref q11, .long 0, .null, .null, .int 0, .null]))] H := hP.sub [0] rfl
  have hD : va_D A [(h0, .inr (7, [.null, .ref q1, .ref q3, .ref q5, .ref q7, .ref q9, .ref q11, .long 0, .null, .null, .int 0, .null]))] := hD.sub [0] (by decide) rfl
  have hK : va_K (dC, dI) cls [] s := hK.sub [] rfl
  refine W.widen (k := 7) (n := 1750) (Nat.le_of_ble_eq_true rfl) (Nat.le_of_ble_eq_true rfl) ?_
  refine va_putF (D := (dC, dI)) (ci := 7) (v := .ref q13) (ty := .array .int) (C := RX5) (T := TX5) (N := 12) hx hb hts i_X5 tyX5 tyX5_ok nmX5 hown hK hP hD hS 0 rfl rfl 8 (by decide) (hts _ qw90) (fun _ h9 => h9) rfl hin rfl (by decide +kernel) rfl rfl (Nat.le_of_ble_eq_true rfl) dX5_init_64 (fun H locs hP hD hS => ?_)
  have hP : va_P (dC, dI) cls [(h0, .inr (7, [.null, .ref q1, .ref q3, .ref q5, .ref q7, .ref q9, .ref q11, .long 0, .ref q13, .null, .int 0, .null]))] H := hP
  have hD : va_D A [(h0, .inr (7, [.null, .ref q1, .ref q3, .ref q5, .ref q7, .ref q9, .ref q11, .long 0, .ref q13, .null, .int 0, .null]))] := hD
  refine lv_aload_n hx hb dX5_init_67 rfl (lv_at hl 0 rfl) ?_
  refine lv_sipush (v := 250) hx hb dX5_init_68 (by decide) ?_
  refine va_newa (atype := .int) (ty := .int) hx hb (hts _ qw2) rfl hK hP hD hS hA (a0 := (250, .inl (fun _ => 0))) (fun _ => rfl) (by decide) (by decide +kernel) (Nat.le_of_ble_eq_true rfl) (Nat.le_of_ble_eq_true rfl) (Nat.le_of_ble_eq_true rfl) dX5_init_71 (fun q15 c16 H hK hP hD hS => ?_)
  have hP : va_P (dC, dI) cls [(h0, .inr (7, [.null, .ref q1, .ref q3, .ref q5, .ref q7, .ref q9, .ref q11, .long 0, .ref q13, .null, .int 0, .null])), (q15, .inl (c16, 250, .inl (fun _ => 0)))] H := hP
  have hD : va_D A [(h0, .inr (7, [.null, .ref q1, .ref q3, .ref q5, .ref q7, .ref q9, .ref q11, .long 0, .ref q13, .null, .int 0, .null])), (q15, .inl (c16, 250, .inl (fun _ => 0)))] := hD
  have hK : va_K (dC, dI) cls [(c16, .int)] s := hK
  have hP : va_P (dC, dI) cls [(h0, .inr (7, [.null, .ref q1, .ref q3, .ref q5, .ref q7, .ref q9, .ref q11, .long 0, .ref q13, .null, .int 0, .null]))] H := hP.sub [0] rfl
  have hD : va_D A [(h0, .inr (7, [.null, .ref q1, .ref q3, .ref q5, .ref q7, .ref q9, .ref q11, .long 0, .ref q13, .null, .int 0, .null]))] := hD.sub [0] (by decide) rfl
  have hK : va_K (dC, dI) cls [] s := hK.sub [] rfl
  refine W.widen (k := 8) (n := 2000) (Nat.le_of_ble_eq_true rfl) (Nat.le_of_ble_eq_true rfl) ?_
  refine va_putF (D := (dC, dI)) (ci := 7) (v := .ref q15) (ty := .array .int) (C := RX5) (T := TX5) (N := 12) hx hb hts i_X5 tyX5 tyX5_ok nmX5 hown hK hP hD hS 0 rfl rfl 9 (by decide) (hts _ qw91) (fun _ h9 => h9) rfl hin rfl (by decide +kernel) rfl rfl (Nat.le_of_ble_eq_true rfl) dX5_init_73 (fun H locs hP hD hS => ?_)
  have hP : va_P (dC, dI) cls [(h0, .inr (7, [.null, .ref q1, .ref q3, .ref q5, .ref q7, .ref q9, .ref q11, .long 0, .ref q13, .ref q15, .int 0, .null]))] H := hP
  have hD : va_D A [(h0, .inr (7, [.null, .ref q1, .ref q3, .ref q5, .ref q7, .ref q9, .ref q11, .long 0, .ref q13, .ref q15, .int 0, .null]))] := hD
  refine lv_aload_n hx hb dX5_init_76 rfl (lv_at hl 0 rfl) ?_
  refine lv_bipush (v := 60) hx hb dX5_init_77 (by decide) ?_
  refine va_newa (atype := .int) (ty := .int) hx hb (hts _ qw2) rfl hK hP hD hS hA (a0 := (60, .inl (fun _ => 0))) (fun _ => rfl) (by decide) (by decide +kernel) (Nat.le_of_ble_eq_true rfl) (Nat.le_of_ble_eq_true rfl) (Nat.le_of_ble_eq_true rfl) dX5_init_79 (fun q17 c18 H hK hP hD hS => ?_)
  have hP : va_P (dC, dI) cls [(h0, .inr (7, [.null, .ref q1, .ref q3, .ref q5, .ref q7, .ref q9, .ref q11, .long 0, .ref q13, .ref q15, .int 0, .null])), (q17, .inl (c18, 60, .inl (fun _ => 0)))] H := hP
  have hD : va_D A [(h0, .inr (7, [.null, .ref q1, .ref q3, .ref q5, .ref q7, .ref q9, .ref q11, .long 0, .ref q13, .ref q15, .int 0, .null])), (q17, .inl (c18, 60, .inl (fun _ => 0)))] := hD
  have hK : va_K (dC, dI) cls [(c18, .int)] s := hK
  have hP : va_P (dC, dI) cls [(h0, .inr (7, [.null, .ref q1, .ref q3, .ref q5, .ref q7, .ref q9, .ref q11, .long 0, .ref q13, .ref q15, .int 0, .null]))] H := hP.sub [0] rfl
  have hD : va_D A [(h0, .inr (7, [.null, .ref q1, .ref q3, .ref q5, .ref q7, .ref q9, .ref q11, .long 0, .ref q13, .ref q15, .int 0, .null]))] := hD.sub [0] (by decide) rfl
  have hK : va_K (dC, dI) cls [] s := hK.sub [] rfl
  refine W.widen (k := 9) (n := 2060) (Nat.le_of_ble_eq_true rfl) (Nat.le_of_ble_eq_true rfl) ?_
  refine va_putF (D := (dC, dI)) (ci := 7) (v := .ref q17) (ty := .array .int) (C := RX5) (T := TX5) (N := 12) hx hb hts i_X5 tyX5 tyX5_ok nmX5 hown hK hP hD hS 0 rfl rfl 11 (by decide) (hts _ qw92) (fun _ h9 => h9) rfl hin rfl (by decide +kernel) rfl rfl (Nat.le_of_ble_eq_true rfl) dX5_init_81 (fun H locs hP hD hS => ?_)
  have hP : va_P (dC, dI) cls [(h0, .inr (7, [.null, .ref q1, .ref q3, .ref q5, .ref q7, .ref q9, .ref q11, .long 0, .ref q13, .ref q15, .int 0, .ref q17]))] H := hP
  have hD : va_D A [(h0, .inr (7, [.null, .ref q1, .ref q3, .ref q5, .ref q7, .ref q9, .ref q11, .long 0, .ref q13, .ref q15, .int 0, .ref q17]))] := hD
  refine lv_aload_n hx hb dX5_init_84 rfl (lv_at hl 0 rfl) ?_
  refine lv_aload_n hx hb dX5_init_85 rfl (lv_at hl 1 rfl) ?_
  refine va_putF (D := (dC, dI)) (ci := 7) (v := .ref h1) (ty := .object "Gearbox$Shape") (C := RX5) (T := TX5) (N := 12) hx hb hts i_X5 tyX5 tyX5_ok nmX5 hown hK hP hD hS 0 rfl rfl 0 (by decide) (hts _ qw93) (fun _ h9 => h9) rfl hin rfl (by decide +kernel) rfl rfl (Nat.le_of_ble_eq_true rfl) dX5_init_86 (fun H locs hP hD hS => ?_)
  have hP : va_P (dC, dI) cls [(h0, .inr (7, [.ref h1, .ref q1, .ref q3, .ref q5, .ref q7, .ref q9, .ref q11, .long 0, .ref q13, .ref q15, .int 0, .ref q17]))] H := hP
  have hD : va_D A [(h0, .inr (7, [.ref h1, .ref q1, .ref q3, .ref q5, .ref q7, .ref q9, .ref q11, .long 0, .ref q13, .ref q15, .int 0, .ref q17]))] := hD
  have hP9 : va_P (dC, dI) cls [] H := hP.sub [] rfl
  have hD9 : va_D A [] := hD.sub [] (by decide) rfl
  have hK9 : va_K (dC, dI) cls [] s := hK.sub [] rfl
  exact W.vret hx hb hr (fun t ht hW => ⟨⟨(), rfl, trivial, ⟨by rw [ht]; exact hP9, va_K.moved hW.alike hK9, hD9⟩⟩, hS.F ht⟩) hS.2.2 dX5_init_89
set_option maxHeartbeats 4000000 in
set_option maxRecDepth 100000 in
theorem kX2_init {zs : Nat × Nat} (l : Launch) (dC : Nat → ClassId) (dI : Nat → Nat → Nat) (h0 : Nat) (sz : Nat)  : Met l yX2_init (wz yX2_init cX2_init 1 (Option.none : Option Jvm.ClassFile.FieldType)) ({ frames := 1, cells := 15, slots := 835, locals := 12 }) (va_Pc [.ref h0] (PRE zs dC dI [(h0, .inr (9, [.int 0, .int 0, .int 0, .null, .null, .null, .null, .null, .int 0, .null, .null, .null, .null, .null, .null, .null, .null, .null, .null]))] [] sz)) (va_Qv (fun (_ : Unit) => True) (fun _ t => POST dC dI [] [] (va_A [(h0, .inr (9, [.int 0, .int 0, .int 0, .null, .null, .null, .null, .null, .int 0, .null, .null, .null, .null, .null, .null, .null, .null, .null, .null]))] sz) t) (va_A [(h0, .inr (9, [.int 0, .int 0, .int 0, .null, .null, .null, .null, .null, .int 0, .null, .null, .null, .null, .null, .null, .null, .null, .null, .null]))] sz)) 15 835 (va_A [(h0, .inr (9, [.int 0, .int 0, .int 0, .null, .null, .null, .null, .null, .int 0, .null, .null, .null, .null, .null, .null, .null, .null, .null, .null]))] sz) := by
  refine Met.ofW (cc := cX2_init) (maxL := 1) (ret := (Option.none : Option Jvm.ClassFile.FieldType)) (by decide) rfl ?_
  intro p e s m args below meth c s₁ B hml hv
  obtain ⟨rfl, hsz, hP, hK, hD0, hE⟩ := hv
  have hx := B.exec
  have hb := B.bytes
  have hr := B.returns
  have hts0 := atoms_spec (ws := wz yX2_init cX2_init 1 (Option.none : Option Jvm.ClassFile.FieldType)) B.pre
  have hts : ∀ w ∈ gw, w.before _ s = true := fun w h => hts0 w (List.mem_cons_of_mem _ h)
  have hown : s.vm.findClass RX2 = some m.cls := findClass_of_methodNamed B.named
  have hlocks := B.notSynchronized
  have hin : meth.name = "<init>" := (name_of_methodNamed B.named B.method).1
  subst hsz
  have hD := hD0.self (sz := s.heap.size)
  generalize hAe : va_A [(h0, .inr (9, [.int 0, .int 0, .int 0, .null, .null, .null, .null, .null, .int 0, .null, .null, .null, .null, .null, .null, .null, .null, .null, .null]))] s.heap.size = A at hD hE ⊢
  have hA : ∀ q : Nat, s.heap.size ≤ q → A q := fun q h => by rw [← hAe]; exact Or.inr h
  have hS : va_S A s.heap s.heap [] := va_S.rf
  have hP : va_P (dC, dI) cls [(h0, .inr (9, [.int 0, .int 0, .int 0, .null, .null, .null, .null, .null, .int 0, .null, .null, .null, .null, .null, .null, .null, .null, .null, .null]))] s.heap := hP
  have hl := lv_entry ([.ref h0]) (n := 1) (Nat.le_of_ble_eq_true rfl)
  rw [lg_entry_eq]
  generalize (lg_sl ([.ref h0]) ++ List.replicate (1 - (lg_sl ([.ref h0])).length) Slot.unset).toArray = ls at hl ⊢
  have hl : lv_has ls 1 [(0, .ref h0)] := hl
  refine lv_aload_n hx hb dX2_init_0 rfl (lv_at hl 0 rfl) ?_
  refine W.objInit hx hb hown (hts _ qw94) (hts _ qw1) (hts _ qw_oi) rfl (by rw [hml]; exact hl.1) rfl dX2_init_1 (Nat.le_of_ble_eq_true rfl) (Nat.le_of_ble_eq_true rfl) ?_
  refine W.eq (g2 := F0 m 4 ls []) rfl ?_
  refine lv_aload_n hx hb dX2_init_4 rfl (lv_at hl 0 rfl) ?_
  refine lv_bipush (v := 64) hx hb dX2_init_5 (by decide) ?_
  refine va_newa (atype := .long) (ty := .long) hx hb (hts _ qw5) rfl hK hP hD hS hA (a0 := (64, .inr <| .inl (fun _ => 0))) (fun _ => rfl) (by decide) (by decide +kernel) (Nat.le_of_ble_eq_true rfl) (Nat.le_of_ble_eq_true rfl) (Nat.le_of_ble_eq_true rfl) dX2_init_7 (fun q1 c2 H hK hP hD hS => ?_)
  have hP : va_P (dC, dI) cls [(h0, .inr (9, [.int 0, .int 0, .int 0, .null, .null, .null, .null, .null, .int 0, .null, .null, .null, .null, .null, .null, .null, .null, .null, .null])), (q1, .inl (c2, 64, .inr (.inl (fun _ => 0))))] H := hP
  have hD : va_D A [(h0, .inr (9, [.int 0, .int 0, .int 0, .null, .null, .null, .null, .null, .int 0, .null, .null, .null, .null, .null, .null, .null, .null, .null, .null])), (q1, .inl (c2, 64, .inr (.inl (fun _ => 0))))] := hD
  have hK : va_K (dC, dI) cls [(c2, .long)] s := hK
  have hP : va_P (dC, dI) cls [(h0, .inr (9, [.int 0, .int 0, .int 0, .null, .null, .null, .null, .null, .int 0, .null, .null, .null, .null, .null, .null, .null, .null, .null, .null]))] H := hP.sub [0] rfl
  have hD : va_D A [(h0, .inr (9, [.int 0, .int 0, .int 0, .null, .null, .null, .null, .null, .int 0, .null, .null, .null, .null, .null, .null, .null, .null, .null, .null]))] := hD.sub [0] (by decide) rfl
  have hK : va_K (dC, dI) cls [] s := hK.sub [] rfl
  refine W.widen (k := 1) (n := 64) (Nat.le_of_ble_eq_true rfl) (Nat.le_of_ble_eq_true rfl) ?_
  refine va_put (D := (dC, dI)) (ci := 9) (v := .ref q1) (ty := .array .long) (C := RX2) (T := TX2) (N := 19) hx hb hts i_X2 tyX2 tyX2_ok nmX2 hown hK hP hD hS 0 rfl rfl 3 (by decide) (hts _ qw95) (fun _ h9 => h9) rfl (by decide +kernel) rfl rfl (Nat.le_of_ble_eq_true rfl) dX2_init_9 (fun H locs hP hD hS => ?_)
  have hP : va_P (dC, dI) cls [(h0, .inr (9, [.int 0, .int 0, .int 0, .ref q1, .null, .null, .null, .null, .int 0, .null, .null, .null, .null, .null, .null, .null, .null, .null, .null]))] H := hP
  have hD : va_D A [(h0, .inr (9, [.int 0, .int 0, .int 0, .ref q1, .null, .null, .null, .null, .int 0, .null, .null, .null, .null, .null, .null, .null, .null, .null, .null]))] := hD
  refine lv_aload_n hx hb dX2_init_12 rfl (lv_at hl 0 rfl) ?_
  refine lv_bipush (v := 64) hx hb dX2_init_13 (by decide) ?_
  refine va_newa (atype := .long) (ty := .long) hx hb (hts _ qw5) rfl hK hP hD hS hA (a0 := (64, .inr <| .inl (fun _ => 0))) (fun _ => rfl) (by decide) (by decide +kernel) (Nat.le_of_ble_eq_true rfl) (Nat.le_of_ble_eq_true rfl) (Nat.le_of_ble_eq_true rfl) dX2_init_15 (fun q3 c4 H hK hP hD hS => ?_)
  have hP : va_P (dC, dI) cls [(h0, .inr (9, [.int 0, .int 0, .int 0, .ref q1, .null, .null, .null, .null, .int 0, .null, .null, .null, .null, .null, .null, .null, .null, .null, .null])), (q3, .inl (c4, 64, .inr (.inl (fun _ => 0))))] H := hP
  have hD : va_D A [(h0, .inr (9, [.int 0, .int 0, .int 0, .ref q1, .null, .null, .null, .null, .int 0, .null, .null, .null, .null, .null, .null, .null, .null, .null, .null])), (q3, .inl (c4, 64, .inr (.inl (fun _ => 0))))] := hD
  have hK : va_K (dC, dI) cls [(c4, .long)] s := hK
  have hP : va_P (dC, dI) cls [(h0, .inr (9, [.int 0, .int 0, .int 0, .ref q1, .null, .null, .null, .null, .int 0, .null, .null, .null, .null, .null, .null, .null, .null, .null, .null]))] H := hP.sub [0] rfl
  have hD : va_D A [(h0, .inr (9, [.int 0, .int 0, .int 0, .ref q1, .null, .null, .null, .null, .int 0, .null, .null, .null, .null, .null, .null, .null, .null, .null, .null]))] := hD.sub [0] (by decide) rfl
  have hK : va_K (dC, dI) cls [] s := hK.sub [] rfl
  refine W.widen (k := 2) (n := 128) (Nat.le_of_ble_eq_true rfl) (Nat.le_of_ble_eq_true rfl) ?_
  refine va_put (D := (dC, dI)) (ci := 9) (v := .ref q3) (ty := .array .long) (C := RX2) (T := TX2) (N := 19) hx hb hts i_X2 tyX2 tyX2_ok nmX2 hown hK hP hD hS 0 rfl rfl 4 (by decide) (hts _ qw96) (fun _ h9 => h9) rfl (by decide +kernel) rfl rfl (Nat.le_of_ble_eq_true rfl) dX2_init_17 (fun H locs hP hD hS => ?_)
  have hP : va_P (dC, dI) cls [(h0, .inr (9, [.int 0, .int 0, .int 0, .ref q1, .ref q3, .null, .null, .null, .int 0, .null, .null, .null, .null, .null, .null, .null, .null, .null, .null]))] H := hP
  have hD : va_D A [(h0, .inr (9, [.int 0, .int 0, .int 0, .ref q1, .ref q3, .null, .null, .null, .int 0, .null, .null, .null, .null, .null, .null, .null, .null, .null, .null]))] := hD
  refine lv_aload_n hx hb dX2_init_20 rfl (lv_at hl 0 rfl) ?_
  refine lv_bipush (v := 64) hx hb dX2_init_21 (by decide) ?_
  refine va_newa (atype := .long) (ty := .long) hx hb (hts _ qw5) rfl hK hP hD hS hA (a0 := (64, .inr <| .inl (fun _ => 0))) (fun _ => rfl) (by decide) (by decide +kernel) (Nat.le_of_ble_eq_true rfl) (Nat.le_of_ble_eq_true rfl) (Nat.le_of_ble_eq_true rfl) dX2_init_23 (fun q5 c6 H hK hP hD hS => ?_)
  have hP : va_P (dC, dI) cls [(h0, .inr (9, [.int 0, .int 0, .int 0, .ref q1, .ref q3, .null, .null, .null, .int 0, .null, .null, .null, .null, .null, .null, .null, .null, .null, .null])), (q5, .inl (c6, 64, .inr (.inl (fun _ => 0))))] H := hP
  have hD : va_D A [(h0, .inr (9, [.int 0, .int 0, .int 0, .ref q1, .ref q3, .null, .null, .null, .int 0, .null, .null, .null, .null, .null, .null, .null, .null, .null, .null])), (q5, .inl (c6, 64, .inr (.inl (fun _ => 0))))] := hD
  have hK : va_K (dC, dI) cls [(c6, .long)] s := hK
  have hP : va_P (dC, dI) cls [(h0, .inr (9, [.int 0, .int 0, .int 0, .ref q1, .ref q3, .null, .null, .null, .int 0, .null, .null, .null, .null, .null, .null, .null, .null, .null, .null]))] H := hP.sub [0] rfl
  have hD : va_D A [(h0, .inr (9, [.int 0, .int 0, .int 0, .ref q1, .ref q3, .null, .null, .null, .int 0, .null, .null, .null, .null, .null, .null, .null, .null, .null, .null]))] := hD.sub [0] (by decide) rfl
  have hK : va_K (dC, dI) cls [] s := hK.sub [] rfl
  refine W.widen (k := 3) (n := 192) (Nat.le_of_ble_eq_true rfl) (Nat.le_of_ble_eq_true rfl) ?_
  refine va_put (D := (dC, dI)) (ci := 9) (v := .ref q5) (ty := .array .long) (C := RX2) (T := TX2) (N := 19) hx hb hts i_X2 tyX2 tyX2_ok nmX2 hown hK hP hD hS 0 rfl rfl 5 (by decide) (hts _ qw97) (fun _ h9 => h9) rfl (by decide +kernel) rfl rfl (Nat.le_of_ble_eq_true rfl) dX2_init_25 (fun H locs hP hD hS => ?_)
  have hP : va_P (dC, dI) cls [(h0, .inr (9, [.int 0, .int 0, .int 0, .ref q1, .ref q3, .ref q5, .null, .null, .int 0, .null, .null, .null, .null, .null, .null, .null, .null, .null, .null]))] H := hP
  have hD : va_D A [(h0, .inr (9, [.int 0, .int 0, .int 0, .ref q1, .ref q3, .ref q5, .null, .null, .int 0, .null, .null, .null, .null, .null, .null, .null, .null, .null, .null]))] := hD
  refine lv_aload_n hx hb dX2_init_28 rfl (lv_at hl 0 rfl) ?_
  refine lv_iconst (v := 1) hx hb dX2_init_29 (by decide) ?_
  refine va_newa (atype := .long) (ty := .long) hx hb (hts _ qw5) rfl hK hP hD hS hA (a0 := (1, .inr <| .inl (fun _ => 0))) (fun _ => rfl) (by decide) (by decide +kernel) (Nat.le_of_ble_eq_true rfl) (Nat.le_of_ble_eq_true rfl) (Nat.le_of_ble_eq_true rfl) dX2_init_30 (fun q7 c8 H hK hP hD hS => ?_)
  have hP : va_P (dC, dI) cls [(h0, .inr (9, [.int 0, .int 0, .int 0, .ref q1, .ref q3, .ref q5, .null, .null, .int 0, .null, .null, .null, .null, .null, .null, .null, .null, .null, .null])), (q7, .inl (c8, 1, .inr (.inl (fun _ => 0))))] H := hP
  have hD : va_D A [(h0, .inr (9, [.int 0, .int 0, .int 0, .ref q1, .ref q3, .ref q5, .null, .null, .int 0, .null, .null, .null, .null, .null, .null, .null, .null, .null, .null])), (q7, .inl (c8, 1, .inr (.inl (fun _ => 0))))] := hD
  have hK : va_K (dC, dI) cls [(c8, .long)] s := hK
  have hP : va_P (dC, dI) cls [(h0, .inr (9, [.int 0, .int 0, .int 0, .ref q1, .ref q3, .ref q5, .null, .null, .int 0, .null, .null, .null, .null, .null, .null, .null, .null, .null, .null]))] H := hP.sub [0] rfl
  have hD : va_D A [(h0, .inr (9, [.int 0, .int 0, .int 0, .ref q1, .ref q3, .ref q5, .null, .null, .int 0, .null, .null, .null, .null, .null, .null, .null, .null, .null, .null]))] := hD.sub [0] (by decide) rfl
  have hK : va_K (dC, dI) cls [] s := hK.sub [] rfl
  refine W.widen (k := 4) (n := 193) (Nat.le_of_ble_eq_true rfl) (Nat.le_of_ble_eq_true rfl) ?_
  refine va_put (D := (dC, dI)) (ci := 9) (v := .ref q7) (ty := .array .long) (C := RX2) (T := TX2) (N := 19) hx hb hts i_X2 tyX2 tyX2_ok nmX2 hown hK hP hD hS 0 rfl rfl 6 (by decide) (hts _ qw98) (fun _ h9 => h9) rfl (by decide +kernel) rfl rfl (Nat.le_of_ble_eq_true rfl) dX2_init_32 (fun H locs hP hD hS => ?_)
  have hP : va_P (dC, dI) cls [(h0, .inr (9, [.int 0, .int 0, .int 0, .ref q1, .ref q3, .ref q5, .ref q7, .null, .int 0, .null, .null, .null, .null, .null, .null, .null, .null, .null, .null]))] H := hP
  have hD : va_D A [(h0, .inr (9, [.int 0, .int 0, .int 0, .ref q1, .ref q3, .ref q5, .ref q7, .null, .int 0, .null, .null, .null, .null, .null, .null, .null, .null, .null, .null]))] := hD
  refine lv_aload_n hx hb dX2_init_35 rfl (lv_at hl 0 rfl) ?_
  refine lv_iconst (v := 2) hx hb dX2_init_36 (by decide) ?_
  refine va_newa (atype := .int) (ty := .int) hx hb (hts _ qw2) rfl hK hP hD hS hA (a0 := (2, .inl (fun _ => 0))) (fun _ => rfl) (by decide) (by decide +kernel) (Nat.le_of_ble_eq_true rfl) (Nat.le_of_ble_eq_true rfl) (Nat.le_of_ble_eq_true rfl) dX2_init_37 (fun q9 c10 H hK hP hD hS => ?_)
  have hP : va_P (dC, dI) cls [(h0, .inr (9, [.int 0, .int 0, .int 0, .ref q1, .ref q3, .ref q5, .ref q7, .null, .int 0, .null, .null, .null, .null, .null, .null, .null, .null, .null, .null])), (q9, .inl (c10, 2, .inl (fun _ => 0)))] H := hP
  have hD : va_D A [(h0, .inr (9, [.int 0, .int 0, .int 0, .ref q1, .ref q3, .ref q5, .ref q7, .null, .int 0, .null, .null, .null, .null, .null, .null, .null, .null, .null, .null])), (q9, .inl (c10, 2, .inl (fun _ => 0)))] := hD
  have hK : va_K (dC, dI) cls [(c10, .int)] s := hK
  have hP : va_P (dC, dI) cls [(h0, .inr (9, [.int 0, .int 0, .int 0, .ref q1, .ref q3, .ref q5, .ref q7, .null, .int 0, .null, .null, .null, .null, .null, .null, .null, .null, .null, .null]))] H := hP.sub [0] rfl
  have hD : va_D A [(h0, .inr (9, [.int 0, .int 0, .int 0, .ref q1, .ref q3, .ref q5, .ref q7, .null, .int 0, .null, .null, .null, .null, .null, .null, .null, .null, .null, .null]))] := hD.sub [0] (by decide) rfl
  have hK : va_K (dC, dI) cls [] s := hK.sub [] rfl
  refine W.widen (k := 5) (n := 195) (Nat.le_of_ble_eq_true rfl) (Nat.le_of_ble_eq_true rfl) ?_
  refine va_putF (D := (dC, dI)) (ci := 9) (v := .ref q9) (ty := .array .int) (C := RX2) (T := TX2) (N := 19) hx hb hts i_X2 tyX2 tyX2_ok nmX2 hown hK hP hD hS 0 rfl rfl 7 (by decide) (hts _ qw99) (fun _ h9 => h9) rfl hin rfl (by decide +kernel) rfl rfl (Nat.le_of_ble_eq_true rfl) dX2_init_39 (fun H locs hP hD hS => ?_)
  have hP : va_P (dC, dI) cls [(h0, .inr (9, [.int 0, .int 0, .int 0, .ref q1, .ref q3, .ref q5, .ref q7, .ref q9, .int 0, .null, .null, .null, .null, .null, .null, .null, .null, .null, .null]))] H := hP
  have hD : va_D A [(h0, .inr (9, [.int 0, .int 0, .int 0, .ref q1, .ref q3, .ref q5, .ref q7, .ref q9, .int 0, .null, .null, .null, .null, .null, .null, .null, .null, .null, .null]))] := hD
  refine lv_aload_n hx hb dX2_init_42 rfl (lv_at hl 0 rfl) ?_
  refine lv_bipush (v := 64) hx hb dX2_init_43 (by decide) ?_
  refine va_newa (atype := .int) (ty := .int) hx hb (hts _ qw2) rfl hK hP hD hS hA (a0 := (64, .inl (fun _ => 0))) (fun _ => rfl) (by decide) (by decide +kernel) (Nat.le_of_ble_eq_true rfl) (Nat.le_of_ble_eq_true rfl) (Nat.le_of_ble_eq_true rfl) dX2_init_45 (fun q11 c12 H hK hP hD hS => ?_)
  have hP : va_P (dC, dI) cls [(h0, .inr (9, [.int 0, .int 0, .int 0, .ref q1, .ref q3, .ref q5, .ref q7, .ref q9, .int 0, .null, .null, .null, .null, .null, .null, .null, .null, .null, .null])), (q11, .inl (c12, 64, .inl (fun _ => 0)))] H := hP
  have hD : va_D A [(h0, .inr (9, [.int 0, .int 0, .int 0, .ref q1, .ref q3, .ref q5, .ref q7, .ref q9, .int 0, .null, .null, .null, .null, .null, .null, .null, .null, .null, .null])), (q11, .inl (c12, 64, .inl (fun _ => 0)))] := hD
  have hK : va_K (dC, dI) cls [(c12, .int)] s := hK
  have hP : va_P (dC, dI) cls [(h0, .inr (9, [.int 0, .int 0, .int 0, .ref q1, .ref q3, .ref q5, .ref q7, .ref q9, .int 0, .null, .null, .null, .null, .null, .null, .null, .null, .null, .null]))] H := hP.sub [0] rfl
  have hD : va_D A [(h0, .inr (9, [.int 0, .int 0, .int 0, .ref q1, .ref q3, .ref q5, .ref q7, .ref q9, .int 0, .null, .null, .null, .null, .null, .null, .null, .null, .null, .null]))] := hD.sub [0] (by decide) rfl
  have hK : va_K (dC, dI) cls [] s := hK.sub [] rfl
  refine W.widen (k := 6) (n := 259) (Nat.le_of_ble_eq_true rfl) (Nat.le_of_ble_eq_true rfl) ?_
  refine va_put (D := (dC, dI)) (ci := 9) (v := .ref q11) (ty := .array .int) (C := RX2) (T := TX2) (N := 19) hx hb hts i_X2 tyX2 tyX2_ok nmX2 hown hK hP hD hS 0 rfl rfl 9 (by decide) (hts _ qw100) (fun _ h9 => h9) rfl (by decide +kernel) rfl rfl (Nat.le_of_ble_eq_true rfl) dX2_init_47 (fun H locs hP hD hS => ?_)
  have hP : va_P (dC, dI) cls [(h0, .inr (9, [.int 0, .int 0, .int 0, .ref q1, .ref q3, .ref q5, .ref q7, .ref q9, .int 0, .ref q11, .null, .null, .null, .null, .null, .null, .null, .null, .null]))] H := hP
  have hD : va_D A [(h0, .inr (9, [.int 0, .int 0, .int 0, .ref q1, .ref q3, .ref q5, .ref q7, .ref q9, .int 0, .ref q11, .null, .null, .null, .null, .null, .null, .null, .null, .null]))] := hD
  refine lv_aload_n hx hb dX2_init_50 rfl (lv_at hl 0 rfl) ?_
  refine lv_bipush (v := 64) hx hb dX2_init_51 (by decide) ?_
  refine va_newa (atype := .long) (ty := .long) hx hb (hts _ qw5) rfl hK hP hD hS hA (a0 := (64, .inr <| .inl (fun _ => 0))) (fun _ => rfl) (by decide) (by decide +kernel) (Nat.le_of_ble_eq_true rfl) (Nat.le_of_ble_eq_true rfl) (Nat.le_of_ble_eq_true rfl) dX2_init_53 (fun q13 c14 H hK hP hD hS => ?_)
  have hP : va_P (dC, dI) cls [(h0, .inr (9, [.int 0, .int 0, .int 0, .ref q1, .ref q3, .ref q5, .ref q7, .ref q9, .int 0, .ref q11, .null, .null, .null, .null, .null, .null, .null, .null, .null])), (q13, .inl (c14, 64, .inr (.inl (fun _ => 0))))] H := hP
  have hD : va_D A [(h0, .inr (9, [.int 0, .int 0, .int 0, .ref q1, .ref q3, .ref q5, .ref q7, .ref q9, .int 0, .ref q11, .null, .null, .null, .null, .null, .null, .null, .null, .null])), (q13, .inl (c14, 64, .inr (.inl (fun _ => 0))))] := hD
  have hK : va_K (dC, dI) cls [(c14, .long)] s := hK
  have hP : va_P (dC, dI) cls [(h0, .inr (9, [.int 0, .int 0, .int 0, .ref q1, .ref q3, .ref q5, .ref q7, .ref q9, .int 0, .ref q11, .null, .null, .null, .null, .null, .null, .null, .null, .null]))] H := hP.sub [0] rfl
  have hD : va_D A [(h0, .inr (9, [.int 0, .int 0, .int 0, .ref q1, .ref q3, .ref q5, .ref q7, .ref q9, .int 0, .ref q11, .null, .null, .null, .null, .null, .null, .null, .null, .null]))] := hD.sub [0] (by decide) rfl
  have hK : va_K (dC, dI) cls [] s := hK.sub [] rfl
  refine W.widen (k := 7) (n := 323) (Nat.le_of_ble_eq_true rfl) (Nat.le_of_ble_eq_true rfl) ?_
  refine va_put (D := (dC, dI)) (ci := 9) (v := .ref q13) (ty := .array .long) (C := RX2) (T := TX2) (N := 19) hx hb hts i_X2 tyX2 tyX2_ok nmX2 hown hK hP hD hS 0 rfl rfl 10 (by decide) (hts _ qw101) (fun _ h9 => h9) rfl (by decide +kernel) rfl rfl (Nat.le_of_ble_eq_true rfl) dX2_init_55 (fun H locs hP hD hS => ?_)
  have hP : va_P (dC, dI) cls [(h0, .inr (9, [.int 0, .int 0, .int 0, .ref q1, .ref q3, .ref q5, .ref q7, .ref q9, .int 0, .ref q11, .ref q13, .null, .null, .null, .null, .null, .null, .null, .null]))] H := hP
  have hD : va_D A [(h0, .inr (9, [.int 0, .int 0, .int 0, .ref q1, .ref q3, .ref q5, .ref q7, .ref q9, .int 0, .ref q11, .ref q13, .null, .null, .null, .null, .null, .null, .null, .null]))] := hD
  refine lv_aload_n hx hb dX2_init_58 rfl (lv_at hl 0 rfl) ?_
  refine lv_bipush (v := 64) hx hb dX2_init_59 (by decide) ?_
  refine va_newa (atype := .int) (ty := .int) hx hb (hts _ qw2) rfl hK hP hD hS hA (a0 := (64, .inl (fun _ => 0))) (fun _ => rfl) (by decide) (by decide +kernel) (Nat.le_of_ble_eq_true rfl) (Nat.le_of_ble_eq_true rfl) (Nat.le_of_ble_eq_true rfl) dX2_init_61 (fun q15 c16 H hK hP hD hS => ?_)
  have hP : va_P (dC, dI) cls [(h0, .inr (9, [.int 0, .int 0, .int 0, .ref q1, .ref q3, .ref q5, .ref q7, .ref q9, .int 0, .ref q11, .ref q13, .null, .null, .null, .null, .null, .null, .null, .null])), (q15, .inl (c16, 64, .inl (fun _ => 0)))] H := hP
  have hD : va_D A [(h0, .inr (9, [.int 0, .int 0, .int 0, .ref q1, .ref q3, .ref q5, .ref q7, .ref q9, .int 0, .ref q11, .ref q13, .null, .null, .null, .null, .null, .null, .null, .null])), (q15, .inl (c16, 64, .inl (fun _ => 0)))] := hD
  have hK : va_K (dC, dI) cls [(c16, .int)] s := hK
  have hP : va_P (dC, dI) cls [(h0, .inr (9, [.int 0, .int 0, .int 0, .ref q1, .ref q3, .ref q5, .ref q7, .ref q9, .int 0, .ref q11, .ref q13, .null, .null, .null, .null, .null, .null, .null, .null]))] H := hP.sub [0] rfl
  have hD : va_D A [(h0, .inr (9, [.int 0, .int 0, .int 0, .ref q1, .ref q3, .ref q5, .ref q7, .ref q9, .int 0, .ref q11, .ref q13, .null, .null, .null, .null, .null, .null, .null, .null]))] := hD.sub [0] (by decide) rfl
  have hK : va_K (dC, dI) cls [] s := hK.sub [] rfl
  refine W.widen (k := 8) (n := 387) (Nat.le_of_ble_eq_true rfl) (Nat.le_of_ble_eq_true rfl) ?_
  refine va_put (D := (dC, dI)) (ci := 9) (v := .ref q15) (ty := .array .int) (C := RX2) (T := TX2) (N := 19) hx hb hts i_X2 tyX2 tyX2_ok nmX2 hown hK hP hD hS 0 rfl rfl 11 (by decide) (hts _ qw102) (fun _ h9 => h9) rfl (by decide +kernel) rfl rfl (Nat.le_of_ble_eq_true rfl) dX2_init_63 (fun H locs hP hD hS => ?_)
  have hP : va_P (dC, dI) cls [(h0, .inr (9, [.int 0, .int 0, .int 0, .ref q1, .ref q3, .ref q5, .ref q7, .ref q9, .int 0, .ref q11, .ref q13, .ref q15, .null, .null, .null, .null, .null, .null, .null]))] H := hP
  have hD : va_D A [(h0, .inr (9, [.int 0, .int 0, .int 0, .ref q1, .ref q3, .ref q5, .ref q7, .ref q9, .int 0, .ref q11, .ref q13, .ref q15, .null, .null, .null, .null, .null, .null, .null]))] := hD
  refine lv_aload_n hx hb dX2_init_66 rfl (lv_at hl 0 rfl) ?_
  refine lv_bipush (v := 64) hx hb dX2_init_67 (by decide) ?_
  refine va_newa (atype := .int) (ty := .int) hx hb (hts _ qw2) rfl hK hP hD hS hA (a0 := (64, .inl (fun _ => 0))) (fun _ => rfl) (by decide) (by decide +kernel) (Nat.le_of_ble_eq_true rfl) (Nat.le_of_ble_eq_true rfl) (Nat.le_of_ble_eq_true rfl) dX2_init_69 (fun q17 c18 H hK hP hD hS => ?_)
  have hP : va_P (dC, dI) cls [(h0, .inr (9, [.int 0, .int 0, .int 0, .ref q1, .ref q3, .ref q5, .ref q7, .ref q9, .int 0, .ref q11, .ref q13, .ref q15, .null, .null, .null, .null, .null, .null, .null])), (q17, .inl (c18, 64, .inl (fun _ => 0)))] H := hP
  have hD : va_D A [(h0, .inr (9, [.int 0, .int 0, .int 0, .ref q1, .ref q3, .ref q5, .ref q7, .ref q9, .int 0, .ref q11, .ref q13, .ref q15, .null, .null, .null, .null, .null, .null, .null])), (q17, .inl (c18, 64, .inl (fun _ => 0)))] := hD
  have hK : va_K (dC, dI) cls [(c18, .int)] s := hK
  have hP : va_P (dC, dI) cls [(h0, .inr (9, [.int 0, .int 0, .int 0, .ref q1, .ref q3, .ref q5, .ref q7, .ref q9, .int 0, .ref q11, .ref q13, .ref q15, .null, .null, .null, .null, .null, .null, .null]))] H := hP.sub [0] rfl
  have hD : va_D A [(h0, .inr (9, [.int 0, .int 0, .int 0, .ref q1, .ref q3, .ref q5, .ref q7, .ref q9, .int 0, .ref q11, .ref q13, .ref q15, .null, .null, .null, .null, .null, .null, .null]))] := hD.sub [0] (by decide) rfl
  have hK : va_K (dC, dI) cls [] s := hK.sub [] rfl
  refine W.widen (k := 9) (n := 451) (Nat.le_of_ble_eq_true rfl) (Nat.le_of_ble_eq_true rfl) ?_
  refine va_put (D := (dC, dI)) (ci := 9) (v := .ref q17) (ty := .array .int) (C := RX2) (T := TX2) (N := 19) hx hb hts i_X2 tyX2 tyX2_ok nmX2 hown hK hP hD hS 0 rfl rfl 12 (by decide) (hts _ qw103) (fun _ h9 => h9) rfl (by decide +kernel) rfl rfl (Nat.le_of_ble_eq_true rfl) dX2_init_71 (fun H locs hP hD hS => ?_)
  have hP : va_P (dC, dI) cls [(h0, .inr (9, [.int 0, .int 0, .int 0, .ref q1, .ref q3, .ref q5, .ref q7, .ref q9, .int 0, .ref q11, .ref q13, .ref q15, .ref q17, .null, .null, .null, .null, .null, .null]))] H := hP
  have hD : va_D A [(h0, .inr (9, [.int 0, .int 0, .int 0, .ref q1, .ref q3, .ref q5, .ref q7, .ref q9, .int 0, .ref q11, .ref q13, .ref q15, .ref q17, .null, .null, .null, .null, .null, .null]))] := hD
  refine lv_aload_n hx hb dX2_init_74 rfl (lv_at hl 0 rfl) ?_
  refine lv_bipush (v := 64) hx hb dX2_init_75 (by decide) ?_
  refine va_newa (atype := .long) (ty := .long) hx hb (hts _ qw5) rfl hK hP hD hS hA (a0 := (64, .inr <| .inl (fun _ => 0))) (fun _ => rfl) (by decide) (by decide +kernel) (Nat.le_of_ble_eq_true rfl) (Nat.le_of_ble_eq_true rfl) (Nat.le_of_ble_eq_true rfl) dX2_init_77 (fun q19 c20 H hK hP hD hS => ?_)
  have hP : va_P (dC, dI) cls [(h0, .inr (9, [.int 0, .int 0, .int 0, .ref q1, .ref q3, .ref q5, .ref q7, .ref q9, .int 0, .ref q11, .ref q13, .ref q15, .ref q17, .null, .null, .null, .null, .null, .null])), (q19, .inl (c20, 64, .inr (.inl (fun _ => 0))))] H := hP
  have hD : va_D A [(h0, .inr (9, [.int 0, .int 0, .int 0, .ref q1, .ref q3, .ref q5, .ref q7, .ref q9, .int 0, .ref q11, .ref q13, .ref q15, .ref q17, .null, .null, .null, .null, .null, .null])), (q19, .inl (c20, 64, .inr (.inl (fun _ => 0))))] := hD
  have hK : va_K (dC, dI) cls [(c20, .long)] s := hK
  have hP : va_P (dC, dI) cls [(h0, .inr (9, [.int 0, .int 0, .int 0, .ref q1, .ref q3, .ref q5, .ref q7, .ref q9, .int 0, .ref q11, .ref q13, .ref q15, .ref q17, .null, .null, .null, .null, .null, .null]))] H := hP.sub [0] rfl
  have hD : va_D A [(h0, .inr (9, [.int 0, .int 0, .int 0, .ref q1, .ref q3, .ref q5, .ref q7, .ref q9, .int 0, .ref q11, .ref q13, .ref q15, .ref q17, .null, .null, .null, .null, .null, .null]))] := hD.sub [0] (by decide) rfl
  have hK : va_K (dC, dI) cls [] s := hK.sub [] rfl
  refine W.widen (k := 10) (n := 515) (Nat.le_of_ble_eq_true rfl) (Nat.le_of_ble_eq_true rfl) ?_
  refine va_put (D := (dC, dI)) (ci := 9) (v := .ref q19) (ty := .array .long) (C := RX2) (T := TX2) (N := 19) hx hb hts i_X2 tyX2 tyX2_ok nmX2 hown hK hP hD hS 0 rfl rfl 13 (by decide) (hts _ qw104) (fun _ h9 => h9) rfl (by decide +kernel) rfl rfl (Nat.le_of_ble_eq_true rfl) dX2_init_79 (fun H locs hP hD hS => ?_)
  have hP : va_P (dC, dI) cls [(h0, .inr (9, [.int 0, .int 0, .int 0, .ref q1, .ref q3, .ref q5, .ref q7, .ref q9, .int 0, .ref q11, .ref q13, .ref q15, .ref q17, .ref q19, .null, .null, .null, .null, .null]))] H := hP
  have hD : va_D A [(h0, .inr (9, [.int 0, .int 0, .int 0, .ref q1, .ref q3, .ref q5, .ref q7, .ref q9, .int 0, .ref q11, .ref q13, .ref q15, .ref q17, .ref q19, .null, .null, .null, .null, .null]))] := hD
  refine lv_aload_n hx hb dX2_init_82 rfl (lv_at hl 0 rfl) ?_
  refine lv_bipush (v := 64) hx hb dX2_init_83 (by decide) ?_
  refine va_newa (atype := .int) (ty := .int) hx hb (hts _ qw2) rfl hK hP hD hS hA (a0 := (64, .inl (fun _ => 0))) (fun _ => rfl) (by decide) (by decide +kernel) (Nat.le_of_ble_eq_true rfl) (Nat.le_of_ble_eq_true rfl) (Nat.le_of_ble_eq_true rfl) dX2_init_85 (fun q21 c22 H hK hP hD hS => ?_)
  have hP : va_P (dC, dI) cls [(h0, .inr (9, [.int 0, .int 0, .int 0, .ref q1, .ref q3, .ref q5, .ref q7, .ref q9, .int 0, .ref q11, .ref q13, .ref q15, .ref q17, .ref q19, .null, .null, .null, .null, .null])), (q21, .inl (c22, 64, .inl (fun _ => 0)))] H := hP
  have hD : va_D A [(h0, .inr (9, [.int 0, .int 0, .int 0, .ref q1, .ref q3, .ref q5, .ref q7, .ref q9, .int 0, .ref q11, .ref q13, .ref q15, .ref q17, .ref q19, .null, .null, .null, .null, .null])), (q21, .inl (c22, 64, .inl (fun _ => 0)))] := hD
  have hK : va_K (dC, dI) cls [(c22, .int)] s := hK
  have hP : va_P (dC, dI) cls [(h0, .inr (9, [.int 0, .int 0, .int 0, .ref q1, .ref q3, .ref q5, .ref q7, .ref q9, .int 0, .ref q11, .ref q13, .ref q15, .ref q17, .ref q19, .null, .null, .null, .null, .null]))] H := hP.sub [0] rfl
  have hD : va_D A [(h0, .inr (9, [.int 0, .int 0, .int 0, .ref q1, .ref q3, .ref q5, .ref q7, .ref q9, .int 0, .ref q11, .ref q13, .ref q15, .ref q17, .ref q19, .null, .null, .null, .null, .null]))] := hD.sub [0] (by decide) rfl
  have hK : va_K (dC, dI) cls [] s := hK.sub [] rfl
  refine W.widen (k := 11) (n := 579) (Nat.le_of_ble_eq_true rfl) (Nat.le_of_ble_eq_true rfl) ?_
  refine va_put (D := (dC, dI)) (ci := 9) (v := .ref q21) (ty := .array .int) (C := RX2) (T := TX2) (N := 19) hx hb hts i_X2 tyX2 tyX2_ok nmX2 hown hK hP hD hS 0 rfl rfl 14 (by decide) (hts _ qw105) (fun _ h9 => h9) rfl (by decide +kernel) rfl rfl (Nat.le_of_ble_eq_true rfl) dX2_init_87 (fun H locs hP hD hS => ?_)
  have hP : va_P (dC, dI) cls [(h0, .inr (9, [.int 0, .int 0, .int 0, .ref q1, .ref q3, .ref q5, .ref q7, .ref q9, .int 0, .ref q11, .ref q13, .ref q15, .ref q17, .ref q19, .ref q21, .null, .null, .null, .null]))] H := hP
  have hD : va_D A [(h0, .inr (9, [.int 0, .int 0, .int 0, .ref q1, .ref q3, .ref q5, .ref q7, .ref q9, .int 0, .ref q11, .ref q13, .ref q15, .ref q17, .ref q19, .ref q21, .null, .null, .null, .null]))] := hD
  refine lv_aload_n hx hb dX2_init_90 rfl (lv_at hl 0 rfl) ?_
  refine lv_bipush (v := 64) hx hb dX2_init_91 (by decide) ?_
  refine va_newa (atype := .int) (ty := .int) hx hb (hts _ qw2) rfl hK hP hD hS hA (a0 := (64, .inl (fun _ => 0))) (fun _ => rfl) (by decide) (by decide +kernel) (Nat.le_of_ble_eq_true rfl) (Nat.le_of_ble_eq_true rfl) (Nat.le_of_ble_eq_true rfl) dX2_init_93 (fun q23 c24 H hK hP hD hS => ?_)
  have hP : va_P (dC, dI) cls [(h0, .inr (9, [.int 0, .int 0, .int 0, .ref q1, .ref q3, .ref q5, .ref q7, .ref q9, .int 0, .ref q11, .ref q13, .ref q15, .ref q17, .ref q19, .ref q21, .null, .null, .null, .null])), (q23, .inl (c24, 64, .inl (fun _ => 0)))] H := hP
  have hD : va_D A [(h0, .inr (9, [.int 0, .int 0, .int 0, .ref q1, .ref q3, .ref q5, .ref q7, .ref q9, .int 0, .ref q11, .ref q13, .ref q15, .ref q17, .ref q19, .ref q21, .null, .null, .null, .null])), (q23, .inl (c24, 64, .inl (fun _ => 0)))] := hD
  have hK : va_K (dC, dI) cls [(c24, .int)] s := hK
  have hP : va_P (dC, dI) cls [(h0, .inr (9, [.int 0, .int 0, .int 0, .ref q1, .ref q3, .ref q5, .ref q7, .ref q9, .int 0, .ref q11, .ref q13, .ref q15, .ref q17, .ref q19, .ref q21, .null, .null, .null, .null]))] H := hP.sub [0] rfl
  have hD : va_D A [(h0, .inr (9, [.int 0, .int 0, .int 0, .ref q1, .ref q3, .ref q5, .ref q7, .ref q9, .int 0, .ref q11, .ref q13, .ref q15, .ref q17, .ref q19, .ref q21, .null, .null, .null, .null]))] := hD.sub [0] (by decide) rfl
  have hK : va_K (dC, dI) cls [] s := hK.sub [] rfl
  refine W.widen (k := 12) (n := 643) (Nat.le_of_ble_eq_true rfl) (Nat.le_of_ble_eq_true rfl) ?_
  refine va_put (D := (dC, dI)) (ci := 9) (v := .ref q23) (ty := .array .int) (C := RX2) (T := TX2) (N := 19) hx hb hts i_X2 tyX2 tyX2_ok nmX2 hown hK hP hD hS 0 rfl rfl 15 (by decide) (hts _ qw106) (fun _ h9 => h9) rfl (by decide +kernel) rfl rfl (Nat.le_of_ble_eq_true rfl) dX2_init_95 (fun H locs hP hD hS => ?_)
  have hP : va_P (dC, dI) cls [(h0, .inr (9, [.int 0, .int 0, .int 0, .ref q1, .ref q3, .ref q5, .ref q7, .ref q9, .int 0, .ref q11, .ref q13, .ref q15, .ref q17, .ref q19, .ref q21, .ref q23, .null, .null, .null]))] H := hP
  have hD : va_D A [(h0, .inr (9, [.int 0, .int 0, .int 0, .ref q1, .ref q3, .ref q5, .ref q7, .ref q9, .int 0, .ref q11, .ref q13, .ref q15, .ref q17, .ref q19, .ref q21, .ref q23, .null, .null, .null]))] := hD
  refine lv_aload_n hx hb dX2_init_98 rfl (lv_at hl 0 rfl) ?_
  refine lv_bipush (v := 64) hx hb dX2_init_99 (by decide) ?_
  refine va_newa (atype := .int) (ty := .int) hx hb (hts _ qw2) rfl hK hP hD hS hA (a0 := (64, .inl (fun _ => 0))) (fun _ => rfl) (by decide) (by decide +kernel) (Nat.le_of_ble_eq_true rfl) (Nat.le_of_ble_eq_true rfl) (Nat.le_of_ble_eq_true rfl) dX2_init_101 (fun q25 c26 H hK hP hD hS => ?_)
  have hP : va_P (dC, dI) cls [(h0, .inr (9, [.int 0, .int 0, .int 0, .ref q1, .ref q3, .ref q5, .ref q7, .ref q9, .int 0, .ref q11, .ref q13, .ref q15, .ref q17, .ref q19, .ref q21, .ref q23, .null, .null, .null])), (q25, .inl (c26, 64, .inl (fun _ => 0)))] H := hP
  have hD : va_D A [(h0, .inr (9, [.int 0, .int 0, .int 0, .ref q1, .ref q3, .ref q5, .ref q7, .ref q9, .int 0, .ref q11, .ref q13, .ref q15, .ref q17, .ref q19, .ref q21, .ref q23, .null, .null, .null])), (q25, .inl (c26, 64, .inl (fun _ => 0)))] := hD
  have hK : va_K (dC, dI) cls [(c26, .int)] s := hK
  have hP : va_P (dC, dI) cls [(h0, .inr (9, [.int 0, .int 0, .int 0, .ref q1, .ref q3, .ref q5, .ref q7, .ref q9, .int 0, .ref q11, .ref q13, .ref q15, .ref q17, .ref q19, .ref q21, .ref q23, .null, .null, .null]))] H := hP.sub [0] rfl
  have hD : va_D A [(h0, .inr (9, [.int 0, .int 0, .int 0, .ref q1, .ref q3, .ref q5, .ref q7, .ref q9, .int 0, .ref q11, .ref q13, .ref q15, .ref q17, .ref q19, .ref q21, .ref q23, .null, .null, .null]))] := hD.sub [0] (by decide) rfl
  have hK : va_K (dC, dI) cls [] s := hK.sub [] rfl
  refine W.widen (k := 13) (n := 707) (Nat.le_of_ble_eq_true rfl) (Nat.le_of_ble_eq_true rfl) ?_
  refine va_put (D := (dC, dI)) (ci := 9) (v := .ref q25) (ty := .array .int) (C := RX2) (T := TX2) (N := 19) hx hb hts i_X2 tyX2 tyX2_ok nmX2 hown hK hP hD hS 0 rfl rfl 16 (by decide) (hts _ qw107) (fun _ h9 => h9) rfl (by decide +kernel) rfl rfl (Nat.le_of_ble_eq_true rfl) dX2_init_103 (fun H locs hP hD hS => ?_)
  have hP : va_P (dC, dI) cls [(h0, .inr (9, [.int 0, .int 0, .int 0, .ref q1, .ref q3, .ref q5, .ref q7, .ref q9, .int 0, .ref q11, .ref q13, .ref q15, .ref q17, .ref q19, .ref q21, .ref q23, .ref q25, .null, .null]))] H := hP
  have hD : va_D A [(h0, .inr (9, [.int 0, .int 0, .int 0, .ref q1, .ref q3, .ref q5, .ref q7, .ref q9, .int 0, .ref q11, .ref q13, .ref q15, .ref q17, .ref q19, .ref q21, .ref q23, .ref q25, .null, .null]))] := hD
  refine lv_aload_n hx hb dX2_init_106 rfl (lv_at hl 0 rfl) ?_
  refine lv_bipush (v := 64) hx hb dX2_init_107 (by decide) ?_
  refine va_newa (atype := .int) (ty := .int) hx hb (hts _ qw2) rfl hK hP hD hS hA (a0 := (64, .inl (fun _ => 0))) (fun _ => rfl) (by decide) (by decide +kernel) (Nat.le_of_ble_eq_true rfl) (Nat.le_of_ble_eq_true rfl) (Nat.le_of_ble_eq_true rfl) dX2_init_109 (fun q27 c28 H hK hP hD hS => ?_)
  have hP : va_P (dC, dI) cls [(h0, .inr (9, [.int 0, .int 0, .int 0, .ref q1, .ref q3, .ref q5, .ref q7, .ref q9, .int 0, .ref q11, .ref q13, .ref q15, .ref q17, .ref q19, .ref q21, .ref q23, .ref q25, .null, .null])), (q27, .inl (c28, 64, .inl (fun _ => 0)))] H := hP
  have hD : va_D A [(h0, .inr (9, [.int 0, .int 0, .int 0, .ref q1, .ref q3, .ref q5, .ref q7, .ref q9, .int 0, .ref q11, .ref q13, .ref q15, .ref q17, .ref q19, .ref q21, .ref q23, .ref q25, .null, .null])), (q27, .inl (c28, 64, .inl (fun _ => 0)))] := hD
  have hK : va_K (dC, dI) cls [(c28, .int)] s := hK
  have hP : va_P (dC, dI) cls [(h0, .inr (9, [.int 0, .int 0, .int 0, .ref q1, .ref q3, .ref q5, .ref q7, .ref q9, .int 0, .ref q11, .ref q13, .ref q15, .ref q17, .ref q19, .ref q21, .ref q23, .ref q25, .null, .null]))] H := hP.sub [0] rfl
  have hD : va_D A [(h0, .inr (9, [.int 0, .int 0, .int 0, .ref q1, .ref q3, .ref q5, .ref q7, .ref q9, .int 0, .ref q11, .ref q13, .ref q15, .ref q17, .ref q19, .ref q21, .ref q23, .ref q25, .null, .null]))] := hD.sub [0] (by decide) rfl
  have hK : va_K (dC, dI) cls [] s := hK.sub [] rfl
  refine W.widen (k := 14) (n := 771) (Nat.le_of_ble_eq_true rfl) (Nat.le_of_ble_eq_true rfl) ?_
  refine va_put (D := (dC, dI)) (ci := 9) (v := .ref q27) (ty := .array .int) (C := RX2) (T := TX2) (N := 19) hx hb hts i_X2 tyX2 tyX2_ok nmX2 hown hK hP hD hS 0 rfl rfl 17 (by decide) (hts _ qw108) (fun _ h9 => h9) rfl (by decide +kernel) rfl rfl (Nat.le_of_ble_eq_true rfl) dX2_init_111 (fun H locs hP hD hS => ?_)
  have hP : va_P (dC, dI) cls [(h0, .inr (9, [.int 0, .int 0, .int 0, .ref q1, .ref q3, .ref q5, .ref q7, .ref q9, .int 0, .ref q11, .ref q13, .ref q15, .ref q17, .ref q19, .ref q21, .ref q23, .ref q25, .ref q27, .null]))] H := hP
  have hD : va_D A [(h0, .inr (9, [.int 0, .int 0, .int 0, .ref q1, .ref q3, .ref q5, .ref q7, .ref q9, .int 0, .ref q11, .ref q13, .ref q15, .ref q17, .ref q19, .ref q21, .ref q23, .ref q25, .ref q27, .null]))] := hD
  refine lv_aload_n hx hb dX2_init_114 rfl (lv_at hl 0 rfl) ?_
  refine lv_bipush (v := 64) hx hb dX2_init_115 (by decide) ?_
  refine va_newa (atype := .int) (ty := .int) hx hb (hts _ qw2) rfl hK hP hD hS hA (a0 := (64, .inl (fun _ => 0))) (fun _ => rfl) (by decide) (by decide +kernel) (Nat.le_of_ble_eq_true rfl) (Nat.le_of_ble_eq_true rfl) (Nat.le_of_ble_eq_true rfl) dX2_init_117 (fun q29 c30 H hK hP hD hS => ?_)
  have hP : va_P (dC, dI) cls [(h0, .inr (9, [.int 0, .int 0, .int 0, .ref q1, .ref q3, .ref q5, .ref q7, .ref q9, .int 0, .ref q11, .ref q13, .ref q15, .ref q17, .ref q19, .ref q21, .ref q23, .ref q25, .ref q27, .null])), (q29, .inl (c30, 64, .inl (fun _ => 0)))] H := hP
  have hD : va_D A [(h0, .inr (9, [.int 0, .int 0, .int 0, .ref q1, .ref q3, .ref q5, .ref q7, .ref q9, .int 0, .ref q11, .ref q13, .ref q15, .ref q17, .ref q19, .ref q21, .ref q23, .ref q25, .ref q27, .null])), (q29, .inl (c30, 64, .inl (fun _ => 0)))] := hD
  have hK : va_K (dC, dI) cls [(c30, .int)] s := hK
  have hP : va_P (dC, dI) cls [(h0, .inr (9, [.int 0, .int 0, .int 0, .ref q1, .ref q3, .ref q5, .ref q7, .ref q9, .int 0, .ref q11, .ref q13, .ref q15, .ref q17, .ref q19, .ref q21, .ref q23, .ref q25, .ref q27, .null]))] H := hP.sub [0] rfl
  have hD : va_D A [(h0, .inr (9, [.int 0, .int 0, .int 0, .ref q1, .ref q3, .ref q5, .ref q7, .ref q9, .int 0, .ref q11, .ref q13, .ref q15, .ref q17, .ref q19, .ref q21, .ref q23, .ref q25, .ref q27, .null]))] := hD.sub [0] (by decide) rfl
  have hK : va_K (dC, dI) cls [] s := hK.sub [] rfl
  refine W.widen (k := 15) (n := 835) (Nat.le_of_ble_eq_true rfl) (Nat.le_of_ble_eq_true rfl) ?_
  refine va_put (D := (dC, dI)) (ci := 9) (v := .ref q29) (ty := .array .int) (C := RX2) (T := TX2) (N := 19) hx hb hts i_X2 tyX2 tyX2_ok nmX2 hown hK hP hD hS 0 rfl rfl 18 (by decide) (hts _ qw109) (fun _ h9 => h9) rfl (by decide +kernel) rfl rfl (Nat.le_of_ble_eq_true rfl) dX2_init_119 (fun H locs hP hD hS => ?_)
  have hP : va_P (dC, dI) cls [(h0, .inr (9, [.int 0, .int 0, .int 0, .ref q1, .ref q3, .ref q5, .ref q7, .ref q9, .int 0, .ref q11, .ref q13, .ref q15, .ref q17, .ref q19, .ref q21, .ref q23, .ref q25, .ref q27, .ref q29]))] H := hP
  have hD : va_D A [(h0, .inr (9, [.int 0, .int 0, .int 0, .ref q1, .ref q3, .ref q5, .ref q7, .ref q9, .int 0, .ref q11, .ref q13, .ref q15, .ref q17, .ref q19, .ref q21, .ref q23, .ref q25, .ref q27, .ref q29]))] := hD
  have hP9 : va_P (dC, dI) cls [] H := hP.sub [] rfl
  have hD9 : va_D A [] := hD.sub [] (by decide) rfl
  have hK9 : va_K (dC, dI) cls [] s := hK.sub [] rfl
  exact W.vret hx hb hr (fun t ht hW => ⟨⟨(), rfl, trivial, ⟨by rw [ht]; exact hP9, va_K.moved hW.alike hK9, hD9⟩⟩, hS.F ht⟩) hS.2.2 dX2_init_122
