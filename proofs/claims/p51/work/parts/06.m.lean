def RJ10 : String := "java/lang/System"
def RJ7 : String := "java/util/Arrays"
abbrev cJ7_fill_fda19 : ByteArray := prog_48_method_104_code
def yJ7_fill_fda19 : MethodName := ⟨RJ7, "fill", "([IIII)V"⟩
abbrev cJ7_rangeCheck_23922 : ByteArray := prog_48_method_30_code
def yJ7_rangeCheck_23922 : MethodName := ⟨RJ7, "rangeCheck", "(III)V"⟩
abbrev cX4_opsFrom : ByteArray := prog_6_method_15_code
def yX4_opsFrom : MethodName := ⟨RX4, "opsFrom", "(I)I"⟩
abbrev cX4_opsTo : ByteArray := prog_6_method_16_code
def yX4_opsTo : MethodName := ⟨RX4, "opsTo", "(I)I"⟩
abbrev cX4_valueAt : ByteArray := prog_6_method_9_code
def yX4_valueAt : MethodName := ⟨RX4, "valueAt", "(I)I"⟩
abbrev cX11_givesValue : ByteArray := prog_1_method_66_code
def yX11_givesValue : MethodName := ⟨RX11, "givesValue", "(I)Z"⟩
abbrev cX9_add : ByteArray := prog_11_method_2_code
def yX9_add : MethodName := ⟨RX9, "add", "(IIII)I"⟩
abbrev cJ7_copyOf_59c91 : ByteArray := prog_48_method_123_code
def yJ7_copyOf_59c91 : MethodName := ⟨RJ7, "copyOf", "([II)[I"⟩
def RJ9 : String := "java/lang/Math"
abbrev cJ9_min_7cf53 : ByteArray := prog_39_method_69_code
def yJ9_min_7cf53 : MethodName := ⟨RJ9, "min", "(II)I"⟩
theorem dJ7_copyOf_59c91_0 : decode cJ7_copyOf_59c91 0 = .ok (.iload_n 1, 1) := by decide +kernel
theorem dJ7_copyOf_59c91_1 : decode cJ7_copyOf_59c91 1 = .ok (.aload_n 0, 1) := by decide +kernel
theorem dJ7_copyOf_59c91_2 : decode cJ7_copyOf_59c91 2 = .ok (.arraylength, 1) := by decide +kernel
theorem dJ7_copyOf_59c91_3 : decode cJ7_copyOf_59c91 3 = .ok (.if_icmp .ne 11, 3) := by decide +kernel
theorem dJ7_copyOf_59c91_6 : decode cJ7_copyOf_59c91 6 = .ok (.aload_n 0, 1) := by decide +kernel
theorem dJ7_copyOf_59c91_14 : decode cJ7_copyOf_59c91 14 = .ok (.iload_n 1, 1) := by decide +kernel
theorem dJ7_copyOf_59c91_15 : decode cJ7_copyOf_59c91 15 = .ok (.newarray .int, 2) := by decide +kernel
theorem dJ7_copyOf_59c91_17 : decode cJ7_copyOf_59c91 17 = .ok (.astore_n 2, 1) := by decide +kernel
theorem dJ7_copyOf_59c91_18 : decode cJ7_copyOf_59c91 18 = .ok (.aload_n 0, 1) := by decide +kernel
theorem dJ7_copyOf_59c91_19 : decode cJ7_copyOf_59c91 19 = .ok (.iconst 0, 1) := by decide +kernel
theorem dJ7_copyOf_59c91_20 : decode cJ7_copyOf_59c91 20 = .ok (.aload_n 2, 1) := by decide +kernel
theorem dJ7_copyOf_59c91_21 : decode cJ7_copyOf_59c91 21 = .ok (.iconst 0, 1) := by decide +kernel
theorem dJ7_copyOf_59c91_22 : decode cJ7_copyOf_59c91 22 = .ok (.aload_n 0, 1) := by decide +kernel
theorem dJ7_copyOf_59c91_23 : decode cJ7_copyOf_59c91 23 = .ok (.arraylength, 1) := by decide +kernel
theorem dJ7_copyOf_59c91_24 : decode cJ7_copyOf_59c91 24 = .ok (.iload_n 1, 1) := by decide +kernel
theorem dJ7_copyOf_59c91_25 : decode cJ7_copyOf_59c91 25 = .ok (.invokestatic 304, 3) := by decide +kernel
theorem dJ7_copyOf_59c91_28 : decode cJ7_copyOf_59c91 28 = .ok (.invokestatic 150, 3) := by decide +kernel
theorem dJ7_copyOf_59c91_31 : decode cJ7_copyOf_59c91 31 = .ok (.aload_n 2, 1) := by decide +kernel
theorem dJ7_copyOf_59c91_32 : decode cJ7_copyOf_59c91 32 = .ok (.areturn, 1) := by decide +kernel
theorem dJ7_fill_fda19_0 : decode cJ7_fill_fda19 0 = .ok (.aload_n 0, 1) := by decide +kernel
theorem dJ7_fill_fda19_1 : decode cJ7_fill_fda19 1 = .ok (.arraylength, 1) := by decide +kernel
theorem dJ7_fill_fda19_2 : decode cJ7_fill_fda19 2 = .ok (.iload_n 1, 1) := by decide +kernel
theorem dJ7_fill_fda19_3 : decode cJ7_fill_fda19 3 = .ok (.iload_n 2, 1) := by decide +kernel
theorem dJ7_fill_fda19_4 : decode cJ7_fill_fda19 4 = .ok (.invokestatic 13, 3) := by decide +kernel
theorem dJ7_fill_fda19_7 : decode cJ7_fill_fda19 7 = .ok (.iload_n 1, 1) := by decide +kernel
theorem dJ7_fill_fda19_8 : decode cJ7_fill_fda19 8 = .ok (.istore 4, 2) := by decide +kernel
theorem dJ7_fill_fda19_10 : decode cJ7_fill_fda19 10 = .ok (.iload 4, 2) := by decide +kernel
theorem dJ7_fill_fda19_12 : decode cJ7_fill_fda19 12 = .ok (.iload_n 2, 1) := by decide +kernel
theorem dJ7_fill_fda19_13 : decode cJ7_fill_fda19 13 = .ok (.if_icmp .ge 14, 3) := by decide +kernel
theorem dJ7_fill_fda19_16 : decode cJ7_fill_fda19 16 = .ok (.aload_n 0, 1) := by decide +kernel
theorem dJ7_fill_fda19_17 : decode cJ7_fill_fda19 17 = .ok (.iload 4, 2) := by decide +kernel
theorem dJ7_fill_fda19_19 : decode cJ7_fill_fda19 19 = .ok (.iload_n 3, 1) := by decide +kernel
theorem dJ7_fill_fda19_20 : decode cJ7_fill_fda19 20 = .ok (.iastore, 1) := by decide +kernel
theorem dJ7_fill_fda19_21 : decode cJ7_fill_fda19 21 = .ok (.iinc 4 1, 3) := by decide +kernel
theorem dJ7_fill_fda19_24 : decode cJ7_fill_fda19 24 = .ok (.goto (-14), 3) := by decide +kernel
theorem dJ7_fill_fda19_27 : decode cJ7_fill_fda19 27 = .ok (.return_, 1) := by decide +kernel
theorem dJ7_rangeCheck_23922_0 : decode cJ7_rangeCheck_23922 0 = .ok (.iload_n 1, 1) := by decide +kernel
theorem dJ7_rangeCheck_23922_1 : decode cJ7_rangeCheck_23922 1 = .ok (.iload_n 2, 1) := by decide +kernel
theorem dJ7_rangeCheck_23922_2 : decode cJ7_rangeCheck_23922 2 = .ok (.if_icmp .le 44, 3) := by decide +kernel
theorem dJ7_rangeCheck_23922_46 : decode cJ7_rangeCheck_23922 46 = .ok (.iload_n 1, 1) := by decide +kernel
theorem dJ7_rangeCheck_23922_47 : decode cJ7_rangeCheck_23922 47 = .ok (.ifCond .ge 12, 3) := by decide +kernel
theorem dJ7_rangeCheck_23922_59 : decode cJ7_rangeCheck_23922 59 = .ok (.iload_n 2, 1) := by decide +kernel
theorem dJ7_rangeCheck_23922_60 : decode cJ7_rangeCheck_23922 60 = .ok (.iload_n 0, 1) := by decide +kernel
theorem dJ7_rangeCheck_23922_61 : decode cJ7_rangeCheck_23922 61 = .ok (.if_icmp .le 12, 3) := by decide +kernel
theorem dJ7_rangeCheck_23922_73 : decode cJ7_rangeCheck_23922 73 = .ok (.return_, 1) := by decide +kernel
theorem dX11_givesValue_0 : decode cX11_givesValue 0 = .ok (.iload_n 0, 1) := by decide +kernel
theorem dX11_givesValue_1 : decode cX11_givesValue 1 = .ok (.ifCond .lt 9, 3) := by decide +kernel
theorem dX11_givesValue_4 : decode cX11_givesValue 4 = .ok (.iload_n 0, 1) := by decide +kernel
theorem dX11_givesValue_5 : decode cX11_givesValue 5 = .ok (.bipush 17, 2) := by decide +kernel
theorem dX11_givesValue_7 : decode cX11_givesValue 7 = .ok (.if_icmp .le 15, 3) := by decide +kernel
theorem dX11_givesValue_10 : decode cX11_givesValue 10 = .ok (.iload_n 0, 1) := by decide +kernel
theorem dX11_givesValue_11 : decode cX11_givesValue 11 = .ok (.bipush 20, 2) := by decide +kernel
theorem dX11_givesValue_13 : decode cX11_givesValue 13 = .ok (.if_icmp .eq 9, 3) := by decide +kernel
theorem dX11_givesValue_16 : decode cX11_givesValue 16 = .ok (.iload_n 0, 1) := by decide +kernel
theorem dX11_givesValue_17 : decode cX11_givesValue 17 = .ok (.bipush 21, 2) := by decide +kernel
theorem dX11_givesValue_19 : decode cX11_givesValue 19 = .ok (.if_icmp .ne 7, 3) := by decide +kernel
theorem dX11_givesValue_22 : decode cX11_givesValue 22 = .ok (.iconst 1, 1) := by decide +kernel
theorem dX11_givesValue_23 : decode cX11_givesValue 23 = .ok (.goto 4, 3) := by decide +kernel
theorem dX11_givesValue_26 : decode cX11_givesValue 26 = .ok (.iconst 0, 1) := by decide +kernel
theorem dX11_givesValue_27 : decode cX11_givesValue 27 = .ok (.ireturn, 1) := by decide +kernel
theorem dX4_opsFrom_0 : decode cX4_opsFrom 0 = .ok (.aload_n 0, 1) := by decide +kernel
theorem dX4_opsFrom_1 : decode cX4_opsFrom 1 = .ok (.getfield 48, 3) := by decide +kernel
theorem dX4_opsFrom_4 : decode cX4_opsFrom 4 = .ok (.iload_n 1, 1) := by decide +kernel
theorem dX4_opsFrom_5 : decode cX4_opsFrom 5 = .ok (.iaload, 1) := by decide +kernel
theorem dX4_opsFrom_6 : decode cX4_opsFrom 6 = .ok (.ifCond .ge 7, 3) := by decide +kernel
theorem dX4_opsFrom_9 : decode cX4_opsFrom 9 = .ok (.iconst 0, 1) := by decide +kernel
theorem dX4_opsFrom_10 : decode cX4_opsFrom 10 = .ok (.goto 14, 3) := by decide +kernel
theorem dX4_opsFrom_13 : decode cX4_opsFrom 13 = .ok (.aload_n 0, 1) := by decide +kernel
theorem dX4_opsFrom_14 : decode cX4_opsFrom 14 = .ok (.getfield 24, 3) := by decide +kernel
theorem dX4_opsFrom_17 : decode cX4_opsFrom 17 = .ok (.aload_n 0, 1) := by decide +kernel
theorem dX4_opsFrom_18 : decode cX4_opsFrom 18 = .ok (.getfield 48, 3) := by decide +kernel
theorem dX4_opsFrom_21 : decode cX4_opsFrom 21 = .ok (.iload_n 1, 1) := by decide +kernel
theorem dX4_opsFrom_22 : decode cX4_opsFrom 22 = .ok (.iaload, 1) := by decide +kernel
theorem dX4_opsFrom_23 : decode cX4_opsFrom 23 = .ok (.iaload, 1) := by decide +kernel
theorem dX4_opsFrom_24 : decode cX4_opsFrom 24 = .ok (.ireturn, 1) := by decide +kernel
theorem dX4_opsTo_0 : decode cX4_opsTo 0 = .ok (.aload_n 0, 1) := by decide +kernel
theorem dX4_opsTo_1 : decode cX4_opsTo 1 = .ok (.getfield 48, 3) := by decide +kernel
theorem dX4_opsTo_4 : decode cX4_opsTo 4 = .ok (.iload_n 1, 1) := by decide +kernel
theorem dX4_opsTo_5 : decode cX4_opsTo 5 = .ok (.iaload, 1) := by decide +kernel
theorem dX4_opsTo_6 : decode cX4_opsTo 6 = .ok (.ifCond .ge 7, 3) := by decide +kernel
theorem dX4_opsTo_9 : decode cX4_opsTo 9 = .ok (.iconst 0, 1) := by decide +kernel
theorem dX4_opsTo_10 : decode cX4_opsTo 10 = .ok (.goto 14, 3) := by decide +kernel
theorem dX4_opsTo_13 : decode cX4_opsTo 13 = .ok (.aload_n 0, 1) := by decide +kernel
theorem dX4_opsTo_14 : decode cX4_opsTo 14 = .ok (.getfield 27, 3) := by decide +kernel
theorem dX4_opsTo_17 : decode cX4_opsTo 17 = .ok (.aload_n 0, 1) := by decide +kernel
theorem dX4_opsTo_18 : decode cX4_opsTo 18 = .ok (.getfield 48, 3) := by decide +kernel
theorem dX4_opsTo_21 : decode cX4_opsTo 21 = .ok (.iload_n 1, 1) := by decide +kernel
theorem dX4_opsTo_22 : decode cX4_opsTo 22 = .ok (.iaload, 1) := by decide +kernel
theorem dX4_opsTo_23 : decode cX4_opsTo 23 = .ok (.iaload, 1) := by decide +kernel
theorem dX4_opsTo_24 : decode cX4_opsTo 24 = .ok (.ireturn, 1) := by decide +kernel
theorem dX4_valueAt_0 : decode cX4_valueAt 0 = .ok (.iload_n 1, 1) := by decide +kernel
theorem dX4_valueAt_1 : decode cX4_valueAt 1 = .ok (.ifCond .ge 7, 3) := by decide +kernel
theorem dX4_valueAt_4 : decode cX4_valueAt 4 = .ok (.iconst (-1), 1) := by decide +kernel
theorem dX4_valueAt_5 : decode cX4_valueAt 5 = .ok (.goto 9, 3) := by decide +kernel
theorem dX4_valueAt_8 : decode cX4_valueAt 8 = .ok (.aload_n 0, 1) := by decide +kernel
theorem dX4_valueAt_9 : decode cX4_valueAt 9 = .ok (.getfield 18, 3) := by decide +kernel
theorem dX4_valueAt_12 : decode cX4_valueAt 12 = .ok (.iload_n 1, 1) := by decide +kernel
theorem dX4_valueAt_13 : decode cX4_valueAt 13 = .ok (.iaload, 1) := by decide +kernel
theorem dX4_valueAt_14 : decode cX4_valueAt 14 = .ok (.ireturn, 1) := by decide +kernel
theorem dX9_add_0 : decode cX9_add 0 = .ok (.aload_n 0, 1) := by decide +kernel
theorem dX9_add_1 : decode cX9_add 1 = .ok (.getfield 27, 3) := by decide +kernel
theorem dX9_add_4 : decode cX9_add 4 = .ok (.aload_n 0, 1) := by decide +kernel
theorem dX9_add_5 : decode cX9_add 5 = .ok (.getfield 9, 3) := by decide +kernel
theorem dX9_add_8 : decode cX9_add 8 = .ok (.arraylength, 1) := by decide +kernel
theorem dX9_add_9 : decode cX9_add 9 = .ok (.if_icmp .lt 83, 3) := by decide +kernel
theorem dX9_add_12 : decode cX9_add 12 = .ok (.aload_n 0, 1) := by decide +kernel
theorem dX9_add_13 : decode cX9_add 13 = .ok (.getfield 27, 3) := by decide +kernel
theorem dX9_add_16 : decode cX9_add 16 = .ok (.aload_n 0, 1) := by decide +kernel
theorem dX9_add_17 : decode cX9_add 17 = .ok (.getfield 27, 3) := by decide +kernel
theorem dX9_add_20 : decode cX9_add 20 = .ok (.iconst 2, 1) := by decide +kernel
theorem dX9_add_21 : decode cX9_add 21 = .ok (.idiv, 1) := by decide +kernel
theorem dX9_add_22 : decode cX9_add 22 = .ok (.iadd, 1) := by decide +kernel
theorem dX9_add_23 : decode cX9_add 23 = .ok (.iconst 1, 1) := by decide +kernel
theorem dX9_add_24 : decode cX9_add 24 = .ok (.iadd, 1) := by decide +kernel
theorem dX9_add_25 : decode cX9_add 25 = .ok (.istore 5, 2) := by decide +kernel
theorem dX9_add_27 : decode cX9_add 27 = .ok (.aload_n 0, 1) := by decide +kernel
theorem dX9_add_28 : decode cX9_add 28 = .ok (.aload_n 0, 1) := by decide +kernel
theorem dX9_add_29 : decode cX9_add 29 = .ok (.getfield 9, 3) := by decide +kernel
theorem dX9_add_32 : decode cX9_add 32 = .ok (.iload 5, 2) := by decide +kernel
theorem dX9_add_34 : decode cX9_add 34 = .ok (.invokestatic 31, 3) := by decide +kernel
theorem dX9_add_37 : decode cX9_add 37 = .ok (.putfield 9, 3) := by decide +kernel
theorem dX9_add_40 : decode cX9_add 40 = .ok (.aload_n 0, 1) := by decide +kernel
theorem dX9_add_41 : decode cX9_add 41 = .ok (.aload_n 0, 1) := by decide +kernel
theorem dX9_add_42 : decode cX9_add 42 = .ok (.getfield 15, 3) := by decide +kernel
theorem dX9_add_45 : decode cX9_add 45 = .ok (.iload 5, 2) := by decide +kernel
theorem dX9_add_47 : decode cX9_add 47 = .ok (.invokestatic 31, 3) := by decide +kernel
theorem dX9_add_50 : decode cX9_add 50 = .ok (.putfield 15, 3) := by decide +kernel
theorem dX9_add_53 : decode cX9_add 53 = .ok (.aload_n 0, 1) := by decide +kernel
theorem dX9_add_54 : decode cX9_add 54 = .ok (.aload_n 0, 1) := by decide +kernel
theorem dX9_add_55 : decode cX9_add 55 = .ok (.getfield 18, 3) := by decide +kernel
theorem dX9_add_58 : decode cX9_add 58 = .ok (.iload 5, 2) := by decide +kernel
theorem dX9_add_60 : decode cX9_add 60 = .ok (.invokestatic 31, 3) := by decide +kernel
theorem dX9_add_63 : decode cX9_add 63 = .ok (.putfield 18, 3) := by decide +kernel
theorem dX9_add_66 : decode cX9_add 66 = .ok (.aload_n 0, 1) := by decide +kernel
theorem dX9_add_67 : decode cX9_add 67 = .ok (.aload_n 0, 1) := by decide +kernel
theorem dX9_add_68 : decode cX9_add 68 = .ok (.getfield 21, 3) := by decide +kernel
theorem dX9_add_71 : decode cX9_add 71 = .ok (.iload 5, 2) := by decide +kernel
theorem dX9_add_73 : decode cX9_add 73 = .ok (.invokestatic 31, 3) := by decide +kernel
theorem dX9_add_76 : decode cX9_add 76 = .ok (.putfield 21, 3) := by decide +kernel
theorem dX9_add_79 : decode cX9_add 79 = .ok (.aload_n 0, 1) := by decide +kernel
theorem dX9_add_80 : decode cX9_add 80 = .ok (.aload_n 0, 1) := by decide +kernel
theorem dX9_add_81 : decode cX9_add 81 = .ok (.getfield 24, 3) := by decide +kernel
theorem dX9_add_84 : decode cX9_add 84 = .ok (.iload 5, 2) := by decide +kernel
theorem dX9_add_86 : decode cX9_add 86 = .ok (.invokestatic 31, 3) := by decide +kernel
theorem dX9_add_89 : decode cX9_add 89 = .ok (.putfield 24, 3) := by decide +kernel
theorem dX9_add_92 : decode cX9_add 92 = .ok (.aload_n 0, 1) := by decide +kernel
theorem dX9_add_93 : decode cX9_add 93 = .ok (.getfield 9, 3) := by decide +kernel
theorem dX9_add_96 : decode cX9_add 96 = .ok (.aload_n 0, 1) := by decide +kernel
theorem dX9_add_97 : decode cX9_add 97 = .ok (.getfield 27, 3) := by decide +kernel
theorem dX9_add_100 : decode cX9_add 100 = .ok (.iload_n 1, 1) := by decide +kernel
theorem dX9_add_101 : decode cX9_add 101 = .ok (.iastore, 1) := by decide +kernel
theorem dX9_add_102 : decode cX9_add 102 = .ok (.aload_n 0, 1) := by decide +kernel
theorem dX9_add_103 : decode cX9_add 103 = .ok (.getfield 15, 3) := by decide +kernel
theorem dX9_add_106 : decode cX9_add 106 = .ok (.aload_n 0, 1) := by decide +kernel
theorem dX9_add_107 : decode cX9_add 107 = .ok (.getfield 27, 3) := by decide +kernel
theorem dX9_add_110 : decode cX9_add 110 = .ok (.iload_n 2, 1) := by decide +kernel
theorem dX9_add_111 : decode cX9_add 111 = .ok (.iastore, 1) := by decide +kernel
theorem dX9_add_112 : decode cX9_add 112 = .ok (.aload_n 0, 1) := by decide +kernel
theorem dX9_add_113 : decode cX9_add 113 = .ok (.getfield 18, 3) := by decide +kernel
theorem dX9_add_116 : decode cX9_add 116 = .ok (.aload_n 0, 1) := by decide +kernel
theorem dX9_add_117 : decode cX9_add 117 = .ok (.getfield 27, 3) := by decide +kernel
theorem dX9_add_120 : decode cX9_add 120 = .ok (.iload_n 3, 1) := by decide +kernel
theorem dX9_add_121 : decode cX9_add 121 = .ok (.iastore, 1) := by decide +kernel
theorem dX9_add_122 : decode cX9_add 122 = .ok (.aload_n 0, 1) := by decide +kernel
theorem dX9_add_123 : decode cX9_add 123 = .ok (.getfield 21, 3) := by decide +kernel
theorem dX9_add_126 : decode cX9_add 126 = .ok (.aload_n 0, 1) := by decide +kernel
theorem dX9_add_127 : decode cX9_add 127 = .ok (.getfield 27, 3) := by decide +kernel
theorem dX9_add_130 : decode cX9_add 130 = .ok (.iload 4, 2) := by decide +kernel
theorem dX9_add_132 : decode cX9_add 132 = .ok (.iastore, 1) := by decide +kernel
theorem dX9_add_133 : decode cX9_add 133 = .ok (.aload_n 0, 1) := by decide +kernel
theorem dX9_add_134 : decode cX9_add 134 = .ok (.getfield 24, 3) := by decide +kernel
theorem dX9_add_137 : decode cX9_add 137 = .ok (.aload_n 0, 1) := by decide +kernel
theorem dX9_add_138 : decode cX9_add 138 = .ok (.getfield 27, 3) := by decide +kernel
theorem dX9_add_141 : decode cX9_add 141 = .ok (.iconst (-1), 1) := by decide +kernel
theorem dX9_add_142 : decode cX9_add 142 = .ok (.iastore, 1) := by decide +kernel
theorem dX9_add_143 : decode cX9_add 143 = .ok (.aload_n 0, 1) := by decide +kernel
theorem dX9_add_144 : decode cX9_add 144 = .ok (.dup, 1) := by decide +kernel
theorem dX9_add_145 : decode cX9_add 145 = .ok (.getfield 27, 3) := by decide +kernel
theorem dX9_add_148 : decode cX9_add 148 = .ok (.iconst 1, 1) := by decide +kernel
theorem dX9_add_149 : decode cX9_add 149 = .ok (.iadd, 1) := by decide +kernel
theorem dX9_add_150 : decode cX9_add 150 = .ok (.putfield 27, 3) := by decide +kernel
theorem dX9_add_153 : decode cX9_add 153 = .ok (.aload_n 0, 1) := by decide +kernel
theorem dX9_add_154 : decode cX9_add 154 = .ok (.getfield 27, 3) := by decide +kernel
theorem dX9_add_157 : decode cX9_add 157 = .ok (.iconst 1, 1) := by decide +kernel
theorem dX9_add_158 : decode cX9_add 158 = .ok (.isub, 1) := by decide +kernel
theorem dX9_add_159 : decode cX9_add 159 = .ok (.ireturn, 1) := by decide +kernel
theorem qw1 : Cond.code yJ7_rangeCheck_23922 cJ7_rangeCheck_23922 3 (Option.none : Option Jvm.ClassFile.FieldType) ∈ gw := mq_6 (i := 132) rfl rfl
theorem qw2 : Cond.methodLink RJ7 13 yJ7_rangeCheck_23922 ∈ gw := mq_6 (i := 130) rfl rfl
theorem qw3 : Cond.static yJ7_rangeCheck_23922 ∈ gw := mq_6 (i := 131) rfl rfl
theorem qw4 : Cond.initialized RJ7 ∈ gw := mq_1 (i := 10) rfl rfl
theorem qw12 : Cond.fieldLink RX4 48 "Gearbox$Maker" "pieceOf" "[I" ∈ gw := mq_2 (i := 157) rfl rfl
theorem qw13 : Cond.fieldLink RX4 24 "Gearbox$Maker" "pieceFrom" "[I" ∈ gw := mq_2 (i := 149) rfl rfl
theorem qw19 : Cond.fieldLink RX4 27 "Gearbox$Maker" "pieceTo" "[I" ∈ gw := mq_2 (i := 150) rfl rfl
theorem qw26 : Cond.fieldLink RX4 18 "Gearbox$Maker" "valueOf" "[I" ∈ gw := mq_2 (i := 146) rfl rfl
theorem qw38 : Cond.fieldLink RX9 27 "Gearbox$Steps" "count" "I" ∈ gw := mq_1 (i := 157) rfl rfl
theorem qw39 : Cond.fieldLink RX9 9 "Gearbox$Steps" "kind" "[I" ∈ gw := mq_1 (i := 161) rfl rfl
theorem qw40 : Cond.fieldLink RX9 15 "Gearbox$Steps" "gives" "[I" ∈ gw := mq_1 (i := 168) rfl rfl
theorem qw41 : Cond.fieldLink RX9 18 "Gearbox$Steps" "left" "[I" ∈ gw := mq_1 (i := 175) rfl rfl
theorem qw42 : Cond.fieldLink RX9 21 "Gearbox$Steps" "right" "[I" ∈ gw := mq_1 (i := 182) rfl rfl
theorem qw43 : Cond.fieldLink RX9 24 "Gearbox$Steps" "next" "[I" ∈ gw := mq_1 (i := 189) rfl rfl
theorem qw44 : Cond.arrayClass Jvm.ClassFile.FieldType.int ∈ gw := mq_1 (i := 80) rfl rfl
theorem qw45 : Cond.methodLink RJ7 304 yJ9_min_7cf53 ∈ gw := mq_6 (i := 110) rfl rfl
theorem qw46 : Cond.static yJ9_min_7cf53 ∈ gw := mq_4 (i := 167) rfl rfl
theorem qw47 : Cond.initialized RJ9 ∈ gw := mq_1 (i := 9) rfl rfl
theorem qw48 : Cond.code yJ9_min_7cf53 cJ9_min_7cf53 2 (Option.some Jvm.ClassFile.FieldType.int) ∈ gw := mq_4 (i := 168) rfl rfl
theorem qw49 : Cond.methodLink RJ7 150 ⟨"java/lang/System", "arraycopy", "(Ljava/lang/Object;ILjava/lang/Object;II)V"⟩ ∈ gw := mq_6 (i := 111) rfl rfl
theorem qw50 : Cond.native ⟨"java/lang/System", "arraycopy", "(Ljava/lang/Object;ILjava/lang/Object;II)V"⟩ ∈ gw := mq_6 (i := 18) rfl rfl
theorem qw51 : Cond.static ⟨"java/lang/System", "arraycopy", "(Ljava/lang/Object;ILjava/lang/Object;II)V"⟩ ∈ gw := mq_6 (i := 17) rfl rfl
theorem qw52 : Cond.initialized RJ10 ∈ gw := mq_1 (i := 11) rfl rfl
theorem qw53 : Cond.code yJ7_copyOf_59c91 cJ7_copyOf_59c91 3 (Option.some (Jvm.ClassFile.FieldType.array Jvm.ClassFile.FieldType.int)) ∈ gw := mq_6 (i := 102) rfl rfl
theorem qw54 : Cond.methodLink RX9 31 yJ7_copyOf_59c91 ∈ gw := mq_7 (i := 110) rfl rfl
theorem qw55 : Cond.static yJ7_copyOf_59c91 ∈ gw := mq_6 (i := 101) rfl rfl
def fJ7_rangeCheck_23922 (p0 : Int32) (p1 : Int32) (p2 : Int32) : Option Unit := (if p1 ≤ p2 then (if 0 ≤ p1 then (if p2 ≤ p0 then some () else none) else none) else none)
set_option maxHeartbeats 16000000 in
set_option maxRecDepth 100000 in
theorem kJ7_rangeCheck_23922 {zs : Nat × Nat} (l : Launch) (dC : Nat → ClassId) (dI : Nat → Nat → Nat) (p0 : Int32) (p1 : Int32) (p2 : Int32) (sz : Nat) (o : Unit) (hrun : fJ7_rangeCheck_23922 p0 p1 p2 = some o) : Met l yJ7_rangeCheck_23922 (wz yJ7_rangeCheck_23922 cJ7_rangeCheck_23922 3 (Option.none : Option Jvm.ClassFile.FieldType)) ({ frames := 0, cells := 0, slots := 0, locals := 0 } : Room) (va_Pc [.int p0, .int p1, .int p2] (PRE zs dC dI ([] : va_W) ([] : List (ClassId × FieldType)) sz)) (va_Qv (fun (_ : Unit) => True) (fun _ t => POST dC dI ([] : va_W) ([] : List (ClassId × FieldType)) (va_A ([] : va_W) sz) t) (va_A ([] : va_W) sz)) 0 0 (va_A ([] : va_W) sz) := by
  refine Met.ofW (cc := cJ7_rangeCheck_23922) (maxL := 3) (ret := (Option.none : Option Jvm.ClassFile.FieldType)) (by decide) rfl ?_
  intro p e s m args below meth c s₁ B hml hv
  obtain ⟨rfl, hsz, hP, hK, hD0, hE⟩ := hv
  have hx := B.exec
  have hb := B.bytes
  have hr := B.returns
  have hts0 := atoms_spec (ws := wz yJ7_rangeCheck_23922 cJ7_rangeCheck_23922 3 (Option.none : Option Jvm.ClassFile.FieldType)) B.pre
  have hts : ∀ w ∈ gw, w.before _ s = true := fun w h => hts0 w (List.mem_cons_of_mem _ h)
  have hown : s.vm.findClass RJ7 = some m.cls := findClass_of_methodNamed B.named
  have hlocks := B.notSynchronized
  subst hsz
  have hD := hD0.self (sz := s.heap.size)
  refine gQ9 ?_
  intro Q hQ
  generalize hAe : va_A ([] : va_W) s.heap.size = A at hD hE hQ
  have hA : ∀ q : Nat, s.heap.size ≤ q → A q := fun q h => by rw [← hAe]; exact Or.inr h
  have hS : va_S A s.heap s.heap [] := va_S.rf
  have hP : va_P (dC, dI) cls ([] : va_W) s.heap := hP
  have hl := lv_entry ([.int p0, .int p1, .int p2]) (n := 3) (Nat.le_of_ble_eq_true rfl)
  rw [lg_entry_eq]
  generalize (lg_sl ([.int p0, .int p1, .int p2]) ++ List.replicate (3 - (lg_sl ([.int p0, .int p1, .int p2])).length) Slot.unset).toArray = ls at hl ⊢
  have hl : lv_has ls 3 [(0, .int p0), (1, .int p1), (2, .int p2)] := hl
  obtain ⟨H, hHe⟩ : ∃ H, H = s.heap := ⟨_, rfl⟩
  obtain ⟨locs, hle⟩ : ∃ locs : List Loc, locs = [] := ⟨_, rfl⟩
  rw [← hHe] at hP
  have hS : va_S A s.heap H locs := by rw [hHe, hle]; exact hS
  show W p l e ({ frames := 0, cells := 0, slots := 0, locals := 0 } : Room) s m ([.int p0, .int p1, .int p2] : List Value).toArray below meth c s.heap [] 0 0 Q (F0 m 0 ls [])
  rw [← hle]
  refine wH9 hHe ?_
  unfold fJ7_rangeCheck_23922 at hrun
  refine lv_iload_n hx hb dJ7_rangeCheck_23922_0 rfl (lv_at hl 1 rfl) ?_
  refine lv_iload_n hx hb dJ7_rangeCheck_23922_1 rfl (lv_at hl 2 rfl) ?_
  rcases br9 hrun with ⟨hc1, hrun⟩ | ⟨hc1, hrun⟩
  · refine lv_icmp_le (tgt := 46) hx hb dJ7_rangeCheck_23922_2 (by decide) (fun _ => ?_) (fun c => absurd hc1 c)
    refine lv_iload_n hx hb dJ7_rangeCheck_23922_46 rfl (lv_at hl 1 rfl) ?_
    rcases br9 hrun with ⟨hc2, hrun⟩ | ⟨hc2, hrun⟩
    · refine lv_if_ge (tgt := 59) hx hb dJ7_rangeCheck_23922_47 (by decide) (fun _ => ?_) (fun c => absurd hc2 c)
      refine lv_iload_n hx hb dJ7_rangeCheck_23922_59 rfl (lv_at hl 2 rfl) ?_
      refine lv_iload_n hx hb dJ7_rangeCheck_23922_60 rfl (lv_at hl 0 rfl) ?_
      rcases br9 hrun with ⟨hc3, hrun⟩ | ⟨hc3, hrun⟩
      · refine lv_icmp_le (tgt := 73) hx hb dJ7_rangeCheck_23922_61 (by decide) (fun _ => ?_) (fun c => absurd hc3 c)
        have ho9 : () = o := Option.some.inj hrun
        have hP9 : va_P (dC, dI) cls ([] : va_W) H := by first | exact hP | (rw [← ho9]; exact hP)
        have hD9 : va_D A ([] : va_W) := by first | exact hD | (rw [← ho9]; exact hD)
        subst hQ
        exact W.vret hx hb hr (fun t ht hW => ⟨⟨(), rfl, trivial, ⟨by rw [ht]; exact hP9, va_K.moved hW.alike hK, hD9⟩⟩, hS.F ht⟩) hS.2.2 dJ7_rangeCheck_23922_73
      · refine lv_icmp_le (tgt := 73) hx hb dJ7_rangeCheck_23922_61 (by decide) (fun c => absurd c hc3) (fun _ => ?_)
        cases hrun
    · refine lv_if_ge (tgt := 59) hx hb dJ7_rangeCheck_23922_47 (by decide) (fun c => absurd c hc2) (fun _ => ?_)
      cases hrun
  · refine lv_icmp_le (tgt := 46) hx hb dJ7_rangeCheck_23922_2 (by decide) (fun c => absurd c hc1) (fun _ => ?_)
    cases hrun
def fJ7_fill_fda19_L10 (p0n : Nat) (p2 : Int32) (p3 : Int32) : Nat → Int32 → RI → Option RI
  | 0 => fun _ _ => none
  | n_10 + 1 => fun v4_10 p0f_10 => (if p2 ≤ v4_10 then some p0f_10 else (if ixb v4_10 p0n = true then (lt9 (upd p0f_10 (nn v4_10) p3) fun (f4 : RI) => ((fJ7_fill_fda19_L10 p0n p2 p3 n_10) (v4_10 + 1) f4)) else none))
def fJ7_fill_fda19 (p0n : Nat) (p0f : RI) (p1 : Int32) (p2 : Int32) (p3 : Int32) : Option RI := ((fJ7_rangeCheck_23922 (Int32.ofNat p0n) p1 p2).bind fun (o_1 : Unit) => ((fJ7_fill_fda19_L10 p0n p2 p3 NF p1 p0f).bind fun (o10 : RI) => some o10))
set_option maxHeartbeats 16000000 in
set_option maxRecDepth 100000 in
theorem kJ7_fill_fda19 {zs : Nat × Nat} (l : Launch) (dC : Nat → ClassId) (dI : Nat → Nat → Nat) (p0a : Nat) (p0k : ClassId) (p0n : Nat) (p0f : RI) (p1 : Int32) (p2 : Int32) (p3 : Int32) (sz : Nat) (o : RI) (hrun : fJ7_fill_fda19 p0n p0f p1 p2 p3 = some o) : Met l yJ7_fill_fda19 (wz yJ7_fill_fda19 cJ7_fill_fda19 5 (Option.none : Option Jvm.ClassFile.FieldType)) ({ frames := 1, cells := 0, slots := 0, locals := 22 } : Room) (va_Pc [.ref p0a, .int p1, .int p2, .int p3] (PRE zs dC dI [(p0a, .inl (p0k, p0n, .inl p0f))] [(p0k, .int)] sz)) (va_Qv (fun (_ : Unit) => True) (fun _ t => POST dC dI [(p0a, .inl (p0k, p0n, .inl o))] [(p0k, .int)] (va_A [(p0a, .inl (p0k, p0n, .inl p0f))] sz) t) (va_A [(p0a, .inl (p0k, p0n, .inl p0f))] sz)) 0 0 (va_A [(p0a, .inl (p0k, p0n, .inl p0f))] sz) := by
  refine Met.ofW (cc := cJ7_fill_fda19) (maxL := 5) (ret := (Option.none : Option Jvm.ClassFile.FieldType)) (by decide) rfl ?_
  intro p e s m args below meth c s₁ B hml hv
  obtain ⟨rfl, hsz, hP, hK, hD0, hE⟩ := hv
  have hx := B.exec
  have hb := B.bytes
  have hr := B.returns
  have hts0 := atoms_spec (ws := wz yJ7_fill_fda19 cJ7_fill_fda19 5 (Option.none : Option Jvm.ClassFile.FieldType)) B.pre
  have hts : ∀ w ∈ gw, w.before _ s = true := fun w h => hts0 w (List.mem_cons_of_mem _ h)
  have hown : s.vm.findClass RJ7 = some m.cls := findClass_of_methodNamed B.named
  have hlocks := B.notSynchronized
  subst hsz
  have hD := hD0.self (sz := s.heap.size)
  refine gQ9 ?_
  intro Q hQ
  generalize hAe : va_A [(p0a, .inl (p0k, p0n, .inl p0f))] s.heap.size = A at hD hE hQ
  have hA : ∀ q : Nat, s.heap.size ≤ q → A q := fun q h => by rw [← hAe]; exact Or.inr h
  have hS : va_S A s.heap s.heap [] := va_S.rf
  have hP : va_P (dC, dI) cls [(p0a, .inl (p0k, p0n, .inl p0f))] s.heap := hP
  have hl := lv_entry ([.ref p0a, .int p1, .int p2, .int p3]) (n := 5) (Nat.le_of_ble_eq_true rfl)
  rw [lg_entry_eq]
  generalize (lg_sl ([.ref p0a, .int p1, .int p2, .int p3]) ++ List.replicate (5 - (lg_sl ([.ref p0a, .int p1, .int p2, .int p3])).length) Slot.unset).toArray = ls at hl ⊢
  have hl : lv_has ls 5 [(0, .ref p0a), (1, .int p1), (2, .int p2), (3, .int p3)] := hl
  obtain ⟨H, hHe⟩ : ∃ H, H = s.heap := ⟨_, rfl⟩
  obtain ⟨locs, hle⟩ : ∃ locs : List Loc, locs = [] := ⟨_, rfl⟩
  rw [← hHe] at hP
  have hS : va_S A s.heap H locs := by rw [hHe, hle]; exact hS
  show W p l e ({ frames := 1, cells := 0, slots := 0, locals := 22 } : Room) s m ([.ref p0a, .int p1, .int p2, .int p3] : List Value).toArray below meth c s.heap [] 0 0 Q (F0 m 0 ls [])
  rw [← hle]
  refine wH9 hHe ?_
  unfold fJ7_fill_fda19 at hrun
  refine lv_aload_n hx hb dJ7_fill_fda19_0 rfl (lv_at hl 0 rfl) ?_
  refine va_alen (v := (Int32.ofNat p0n)) hx hb hK hP 0 0 rfl rfl rfl dJ7_fill_fda19_1 ?_
  refine lv_iload_n hx hb dJ7_fill_fda19_2 rfl (lv_at hl 1 rfl) ?_
  refine lv_iload_n hx hb dJ7_fill_fda19_3 rfl (lv_at hl 2 rfl) ?_
  obtain ⟨o_1, hc_1, hrun⟩ := bnd9 hrun
  have hPc := hP.sub (ws' := ([] : va_W)) [] rfl
  have hDc := hD.sub (ws' := ([] : va_W)) [] (by decide +kernel) rfl
  have hKc := hK.sub (tys' := ([] : List (ClassId × FieldType))) [] rfl
  have hFc := va_free (wc := ([] : va_W)) hD hS hA [] rfl
  refine va_callv (va_runS (As := [.int (Int32.ofNat p0n), .int p1, .int p2]) (rest := []) ⟨hx, hb, hml, hown, hts⟩ (kJ7_rangeCheck_23922 l dC dI (p0 := (Int32.ofNat p0n)) (p1 := p1) (p2 := p2) (sz := _) (o := o_1) (hrun := hc_1)) (va_cwS 3 hts (gi_S qw2 qw3 qw4 (gi_z qw1)) rfl rfl rfl (by decide +kernel) ⟨Nat.le_of_ble_eq_true rfl, Nat.le_of_ble_eq_true rfl⟩) ⟨PRE.blind, PRE.of hE hS hFc hPc hKc hDc⟩ rfl rfl hl.1 rfl (lv_room (Nat.le_of_ble_eq_true rfl)) dJ7_fill_fda19_4 ⟨(Nat.le_of_ble_eq_true rfl), (Nat.le_of_ble_eq_true rfl)⟩) hS (fun q _ h => hFc q h) hFc (fun u t H locs ht hvm hw hB hz1 hk1 hS => ?_)
  obtain ⟨hP, hD, hK⟩ := JOIN (wr := [(p0a, .inl (p0k, p0n, .inl p0f))]) hP hD hK [] [0] [0] rfl rfl (by decide +kernel) (by decide +kernel) rfl hk1 hFc ht hvm hB
  have hP : va_P (dC, dI) cls [(p0a, .inl (p0k, p0n, .inl p0f))] H := hP.sub [0] rfl
  have hD : va_D A [(p0a, .inl (p0k, p0n, .inl p0f))] := hD.sub [0] (by decide +kernel) rfl
  have hK : va_K (dC, dI) cls [(p0k, .int)] s := hK.sub [0] rfl
  refine lv_iload_n hx hb dJ7_fill_fda19_7 rfl (lv_at hl 1 rfl) ?_
  refine lv_istore (lv' := [(4, .int p1), (0, .ref p0a), (1, .int p1), (2, .int p2), (3, .int p3)]) hx hb dJ7_fill_fda19_8 hl (by decide) rfl (fun ls hl => ?_)
  have L10 : ∀ (n_10 : Nat) (v4_10 : Int32) (p0f_10 : RI) (o10 : RI) (H : Heap) (locs : List Loc) (ls : Array Slot), (fJ7_fill_fda19_L10 p0n p2 p3 n_10) v4_10 p0f_10 = some o10 → va_P (dC, dI) cls [(p0a, .inl (p0k, p0n, .inl p0f_10))] H → va_D A [(p0a, .inl (p0k, p0n, .inl p0f_10))] → va_K (dC, dI) cls [(p0k, .int)] s → va_S A s.heap H locs → lv_has ls 5 [(0, .ref p0a), (2, .int p2), (3, .int p3), (4, .int v4_10)] → (∀ (H : Heap) (locs : List Loc) (ls : Array Slot), va_P (dC, dI) cls [(p0a, .inl (p0k, p0n, .inl o10))] H → va_D A [(p0a, .inl (p0k, p0n, .inl o10))] → va_K (dC, dI) cls [(p0k, .int)] s → va_S A s.heap H locs → lv_has ls 5 [] → W p l e ({ frames := 1, cells := 0, slots := 0, locals := 22 } : Room) s m ([.ref p0a, .int p1, .int p2, .int p3] : List Value).toArray below meth c H locs 0 0 Q (F0 m 27 ls [])) → W p l e ({ frames := 1, cells := 0, slots := 0, locals := 22 } : Room) s m ([.ref p0a, .int p1, .int p2, .int p3] : List Value).toArray below meth c H locs 0 0 Q (F0 m 10 ls []) := by
    intro n_10
    induction n_10 with
    | zero => intro v4_10 p0f_10 o10 H locs ls hrun; exact (no9 rfl hrun).elim
    | succ n_10 IH10 =>
      intro v4_10 p0f_10 o10 H locs ls hrun hP hD hK hS hl hk10
      unfold fJ7_fill_fda19_L10 at hrun
      refine lv_iload hx hb dJ7_fill_fda19_10 (lv_at hl 3 rfl) ?_
      refine lv_iload_n hx hb dJ7_fill_fda19_12 rfl (lv_at hl 1 rfl) ?_
      rcases br9 hrun with ⟨hc2, hrun⟩ | ⟨hc2, hrun⟩
      · refine lv_icmp_ge (tgt := 27) hx hb dJ7_fill_fda19_13 (by decide) (fun _ => ?_) (fun c => absurd hc2 c)
        obtain rfl := (Option.some.inj hrun)
        exact hk10 _ _ _ hP hD hK hS (lv_sub hl [] rfl)
      · refine lv_icmp_ge (tgt := 27) hx hb dJ7_fill_fda19_13 (by decide) (fun c => absurd c hc2) (fun _ => ?_)
        refine lv_aload_n hx hb dJ7_fill_fda19_16 rfl (lv_at hl 0 rfl) ?_
        refine lv_iload hx hb dJ7_fill_fda19_17 (lv_at hl 3 rfl) ?_
        refine lv_iload_n hx hb dJ7_fill_fda19_19 rfl (lv_at hl 2 rfl) ?_
        obtain ⟨hq3, hrun⟩ := chk9 hrun
        refine va_iast hx hb hK hP hD hS 0 0 rfl rfl (ixb_in hq3) dJ7_fill_fda19_20 (fun H locs hP hD hS => ?_)
        have hP : va_P (dC, dI) cls [(p0a, .inl (p0k, p0n, .inl (upd p0f_10 (nn v4_10) p3)))] H := hP
        have hD : va_D A [(p0a, .inl (p0k, p0n, .inl (upd p0f_10 (nn v4_10) p3)))] := hD
        obtain ⟨f4, ef4, hrun⟩ := let9 hrun
        rw [← ef4] at hP hD
        refine lv_iinc (v := (v4_10 + 1)) (lv' := [(4, .int (v4_10 + 1)), (0, .ref p0a), (2, .int p2), (3, .int p3)]) hx hb dJ7_fill_fda19_21 hl (k := 3) rfl rfl (by decide) rfl (fun ls hl => ?_)
        refine lv_goto (tgt := 10) hx hb dJ7_fill_fda19_24 (by decide) ?_
        exact IH10 (v4_10 + 1) f4 o10 _ _ _ hrun hP hD hK hS (lv_sub hl [1, 2, 3, 0] rfl) hk10
  obtain ⟨o10, hc10, hrun⟩ := bnd9 hrun
  refine L10 NF p1 p0f o10 _ _ _ hc10 hP hD hK hS (lv_sub hl [1, 3, 4, 0] rfl) ?_
  intro H locs ls hP hD hK hS hl
  have hl := hl
  have ho9 : o10 = o := Option.some.inj hrun
  have hP9 : va_P (dC, dI) cls [(p0a, .inl (p0k, p0n, .inl o))] H := by first | exact hP | (rw [← ho9]; exact hP)
  have hD9 : va_D A [(p0a, .inl (p0k, p0n, .inl o))] := by first | exact hD | (rw [← ho9]; exact hD)
  subst hQ
  exact W.vret hx hb hr (fun t ht hW => ⟨⟨(), rfl, trivial, ⟨by rw [ht]; exact hP9, va_K.moved hW.alike hK, hD9⟩⟩, hS.F ht⟩) hS.2.2 dJ7_fill_fda19_27
def fX4_opsFrom_J24 (y0_24 : Int32) : Option Int32 := some y0_24
def fX4_opsFrom (p0w : ST) (p1 : Int32) : Option Int32 := (if ixb p1 60 = true then (if 0 ≤ (p0w 15 (nn p1)) then (if ixb p1 60 = true then (if ixb (p0w 15 (nn p1)) 640 = true then (fX4_opsFrom_J24 (p0w 7 (nn (p0w 15 (nn p1))))) else none) else none) else (fX4_opsFrom_J24 0)) else none)
set_option maxHeartbeats 16000000 in
set_option maxRecDepth 100000 in
theorem kX4_opsFrom {zs : Nat × Nat} (l : Launch) (dC : Nat → ClassId) (dI : Nat → Nat → Nat) (p0a : Nat → Nat) (p0k : Nat → ClassId) (p0w : ST) (p0l : SL) (p1 : Int32) (sz : Nat) (o : Int32) (hrun : fX4_opsFrom p0w p1 = some o) : Met l yX4_opsFrom (wz yX4_opsFrom cX4_opsFrom 2 (Option.some Jvm.ClassFile.FieldType.int)) ({ frames := 0, cells := 0, slots := 0, locals := 0 } : Room) (va_Pc [.ref (p0a 0), .int p1] (PRE zs dC dI (oX4 (p0a 0) p0a p0k p0w p0l) (tX4 p0k) sz)) (va_Qi (fun (r : Int32) (_ : Unit) => r = o) (fun _ t => POST dC dI (oX4 (p0a 0) p0a p0k p0w p0l) (tX4 p0k) (va_A (oX4 (p0a 0) p0a p0k p0w p0l) sz) t) (va_A (oX4 (p0a 0) p0a p0k p0w p0l) sz)) 0 0 (va_A (oX4 (p0a 0) p0a p0k p0w p0l) sz) := by
  refine Met.ofW (cc := cX4_opsFrom) (maxL := 2) (ret := (Option.some Jvm.ClassFile.FieldType.int)) (by decide) rfl ?_
  intro p e s m args below meth c s₁ B hml hv
  obtain ⟨rfl, hsz, hP, hK, hD0, hE⟩ := hv
  have hx := B.exec
  have hb := B.bytes
  have hr := B.returns
  have hts0 := atoms_spec (ws := wz yX4_opsFrom cX4_opsFrom 2 (Option.some Jvm.ClassFile.FieldType.int)) B.pre
  have hts : ∀ w ∈ gw, w.before _ s = true := fun w h => hts0 w (List.mem_cons_of_mem _ h)
  have hown : s.vm.findClass RX4 = some m.cls := findClass_of_methodNamed B.named
  have hlocks := B.notSynchronized
  subst hsz
  have hD := hD0.self (sz := s.heap.size)
  refine gQ9 ?_
  intro Q hQ
  generalize hAe : va_A (oX4 (p0a 0) p0a p0k p0w p0l) s.heap.size = A at hD hE hQ
  have hA : ∀ q : Nat, s.heap.size ≤ q → A q := fun q h => by rw [← hAe]; exact Or.inr h
  have hS : va_S A s.heap s.heap [] := va_S.rf
  have hP : va_P (dC, dI) cls (oX4 (p0a 0) p0a p0k p0w p0l) s.heap := hP
  have hl := lv_entry ([.ref (p0a 0), .int p1]) (n := 2) (Nat.le_of_ble_eq_true rfl)
  rw [lg_entry_eq]
  generalize (lg_sl ([.ref (p0a 0), .int p1]) ++ List.replicate (2 - (lg_sl ([.ref (p0a 0), .int p1])).length) Slot.unset).toArray = ls at hl ⊢
  have hl : lv_has ls 2 [(0, .ref (p0a 0)), (1, .int p1)] := hl
  obtain ⟨H, hHe⟩ : ∃ H, H = s.heap := ⟨_, rfl⟩
  obtain ⟨locs, hle⟩ : ∃ locs : List Loc, locs = [] := ⟨_, rfl⟩
  rw [← hHe] at hP
  have hS : va_S A s.heap H locs := by rw [hHe, hle]; exact hS
  show W p l e ({ frames := 0, cells := 0, slots := 0, locals := 0 } : Room) s m ([.ref (p0a 0), .int p1] : List Value).toArray below meth c s.heap [] 0 0 Q (F0 m 0 ls [])
  rw [← hle]
  refine wH9 hHe ?_
  unfold fX4_opsFrom at hrun
  refine lv_aload_n hx hb dX4_opsFrom_0 rfl (lv_at hl 0 rfl) ?_
  refine va_get (D := (dC, dI)) (ci := 6) (v := .ref (p0a 15)) (C := RX4) (T := TX4) (N := 20) hx hb hts i_X4 hown hK hP 0 rfl rfl 14 (by decide) (hts _ qw12) (fun _ h9 => h9) rfl dX4_opsFrom_1 ?_
  refine lv_iload_n hx hb dX4_opsFrom_4 rfl (lv_at hl 1 rfl) ?_
  obtain ⟨hq1, hrun⟩ := chk9 hrun
  refine va_iald hx hb hK hP 13 12 rfl rfl (ixb_in hq1) dX4_opsFrom_5 ?_
  have J24 : ∀ (y0_24 : Int32) (H : Heap) (locs : List Loc) (ls : Array Slot), (fX4_opsFrom_J24 y0_24) = some o → va_P (dC, dI) cls (oX4 (p0a 0) p0a p0k p0w p0l) H → va_D A (oX4 (p0a 0) p0a p0k p0w p0l) → va_K (dC, dI) cls (tX4 p0k) s → va_S A s.heap H locs → lv_has ls 2 [] → W p l e ({ frames := 0, cells := 0, slots := 0, locals := 0 } : Room) s m ([.ref (p0a 0), .int p1] : List Value).toArray below meth c H locs 0 0 Q (F0 m 24 ls [.int y0_24]) := by
    intro y0_24 H locs ls hrun hP hD hK hS hl 
    unfold fX4_opsFrom_J24 at hrun
    have ho9 : y0_24 = o := Option.some.inj hrun
    have hP9 : va_P (dC, dI) cls (oX4 (p0a 0) p0a p0k p0w p0l) H := by first | exact hP | (rw [← ho9]; exact hP)
    have hD9 : va_D A (oX4 (p0a 0) p0a p0k p0w p0l) := by first | exact hD | (rw [← ho9]; exact hD)
    subst hQ
    exact W.iret (v := y0_24) hx hb hr (fun t ht hW => ⟨⟨y0_24, (), rfl, (by rw [← ho9]), ⟨by rw [ht]; exact hP9, va_K.moved hW.alike hK, hD9⟩⟩, hS.F ht⟩) hS.2.2 dX4_opsFrom_24
  rcases br9 hrun with ⟨hc2, hrun⟩ | ⟨hc2, hrun⟩
  · refine lv_if_ge (tgt := 13) hx hb dX4_opsFrom_6 (by decide) (fun _ => ?_) (fun c => absurd hc2 c)
    refine lv_aload_n hx hb dX4_opsFrom_13 rfl (lv_at hl 0 rfl) ?_
    refine va_get (D := (dC, dI)) (ci := 6) (v := .ref (p0a 7)) (C := RX4) (T := TX4) (N := 20) hx hb hts i_X4 hown hK hP 0 rfl rfl 6 (by decide) (hts _ qw13) (fun _ h9 => h9) rfl dX4_opsFrom_14 ?_
    refine lv_aload_n hx hb dX4_opsFrom_17 rfl (lv_at hl 0 rfl) ?_
    refine va_get (D := (dC, dI)) (ci := 6) (v := .ref (p0a 15)) (C := RX4) (T := TX4) (N := 20) hx hb hts i_X4 hown hK hP 0 rfl rfl 14 (by decide) (hts _ qw12) (fun _ h9 => h9) rfl dX4_opsFrom_18 ?_
    refine lv_iload_n hx hb dX4_opsFrom_21 rfl (lv_at hl 1 rfl) ?_
    obtain ⟨hq3, hrun⟩ := chk9 hrun
    refine va_iald hx hb hK hP 13 12 rfl rfl (ixb_in hq3) dX4_opsFrom_22 ?_
    obtain ⟨hq4, hrun⟩ := chk9 hrun
    refine va_iald hx hb hK hP 5 4 rfl rfl (ixb_in hq4) dX4_opsFrom_23 ?_
    exact J24 (p0w 7 (nn (p0w 15 (nn p1)))) _ _ _ hrun hP hD hK hS (lv_sub hl [] rfl)
  · refine lv_if_ge (tgt := 13) hx hb dX4_opsFrom_6 (by decide) (fun c => absurd c hc2) (fun _ => ?_)
    refine lv_iconst (v := 0) hx hb dX4_opsFrom_9 (by decide) ?_
    refine lv_goto (tgt := 24) hx hb dX4_opsFrom_10 (by decide) ?_
    exact J24 0 _ _ _ hrun hP hD hK hS (lv_sub hl [] rfl)
def fX4_opsTo_J24 (y0_24 : Int32) : Option Int32 := some y0_24
def fX4_opsTo (p0w : ST) (p1 : Int32) : Option Int32 := (if ixb p1 60 = true then (if 0 ≤ (p0w 15 (nn p1)) then (if ixb p1 60 = true then (if ixb (p0w 15 (nn p1)) 640 = true then (fX4_opsTo_J24 (p0w 8 (nn (p0w 15 (nn p1))))) else none) else none) else (fX4_opsTo_J24 0)) else none)
set_option maxHeartbeats 16000000 in
set_option maxRecDepth 100000 in
theorem kX4_opsTo {zs : Nat × Nat} (l : Launch) (dC : Nat → ClassId) (dI : Nat → Nat → Nat) (p0a : Nat → Nat) (p0k : Nat → ClassId) (p0w : ST) (p0l : SL) (p1 : Int32) (sz : Nat) (o : Int32) (hrun : fX4_opsTo p0w p1 = some o) : Met l yX4_opsTo (wz yX4_opsTo cX4_opsTo 2 (Option.some Jvm.ClassFile.FieldType.int)) ({ frames := 0, cells := 0, slots := 0, locals := 0 } : Room) (va_Pc [.ref (p0a 0), .int p1] (PRE zs dC dI (oX4 (p0a 0) p0a p0k p0w p0l) (tX4 p0k) sz)) (va_Qi (fun (r : Int32) (_ : Unit) => r = o) (fun _ t => POST dC dI (oX4 (p0a 0) p0a p0k p0w p0l) (tX4 p0k) (va_A (oX4 (p0a 0) p0a p0k p0w p0l) sz) t) (va_A (oX4 (p0a 0) p0a p0k p0w p0l) sz)) 0 0 (va_A (oX4 (p0a 0) p0a p0k p0w p0l) sz) := by
  refine Met.ofW (cc := cX4_opsTo) (maxL := 2) (ret := (Option.some Jvm.ClassFile.FieldType.int)) (by decide) rfl ?_
  intro p e s m args below meth c s₁ B hml hv
  obtain ⟨rfl, hsz, hP, hK, hD0, hE⟩ := hv
  have hx := B.exec
  have hb := B.bytes
  have hr := B.returns
  have hts0 := atoms_spec (ws := wz yX4_opsTo cX4_opsTo 2 (Option.some Jvm.ClassFile.FieldType.int)) B.pre
  have hts : ∀ w ∈ gw, w.before _ s = true := fun w h => hts0 w (List.mem_cons_of_mem _ h)
  have hown : s.vm.findClass RX4 = some m.cls := findClass_of_methodNamed B.named
  have hlocks := B.notSynchronized
  subst hsz
  have hD := hD0.self (sz := s.heap.size)
  refine gQ9 ?_
  intro Q hQ
  generalize hAe : va_A (oX4 (p0a 0) p0a p0k p0w p0l) s.heap.size = A at hD hE hQ
  have hA : ∀ q : Nat, s.heap.size ≤ q → A q := fun q h => by rw [← hAe]; exact Or.inr h
  have hS : va_S A s.heap s.heap [] := va_S.rf
  have hP : va_P (dC, dI) cls (oX4 (p0a 0) p0a p0k p0w p0l) s.heap := hP
  have hl := lv_entry ([.ref (p0a 0), .int p1]) (n := 2) (Nat.le_of_ble_eq_true rfl)
  rw [lg_entry_eq]
  generalize (lg_sl ([.ref (p0a 0), .int p1]) ++ List.replicate (2 - (lg_sl ([.ref (p0a 0), .int p1])).length) Slot.unset).toArray = ls at hl ⊢
  have hl : lv_has ls 2 [(0, .ref (p0a 0)), (1, .int p1)] := hl
  obtain ⟨H, hHe⟩ : ∃ H, H = s.heap := ⟨_, rfl⟩
  obtain ⟨locs, hle⟩ : ∃ locs : List Loc, locs = [] := ⟨_, rfl⟩
  rw [← hHe] at hP
  have hS : va_S A s.heap H locs := by rw [hHe, hle]; exact hS
  show W p l e ({ frames := 0, cells := 0, slots := 0, locals := 0 } : Room) s m ([.ref (p0a 0), .int p1] : List Value).toArray below meth c s.heap [] 0 0 Q (F0 m 0 ls [])
  rw [← hle]
  refine wH9 hHe ?_
  unfold fX4_opsTo at hrun
  refine lv_aload_n hx hb dX4_opsTo_0 rfl (lv_at hl 0 rfl) ?_
  refine va_get (D := (dC, dI)) (ci := 6) (v := .ref (p0a 15)) (C := RX4) (T := TX4) (N := 20) hx hb hts i_X4 hown hK hP 0 rfl rfl 14 (by decide) (hts _ qw12) (fun _ h9 => h9) rfl dX4_opsTo_1 ?_
  refine lv_iload_n hx hb dX4_opsTo_4 rfl (lv_at hl 1 rfl) ?_
  obtain ⟨hq1, hrun⟩ := chk9 hrun
  refine va_iald hx hb hK hP 13 12 rfl rfl (ixb_in hq1) dX4_opsTo_5 ?_
  have J24 : ∀ (y0_24 : Int32) (H : Heap) (locs : List Loc) (ls : Array Slot), (fX4_opsTo_J24 y0_24) = some o → va_P (dC, dI) cls (oX4 (p0a 0) p0a p0k p0w p0l) H → va_D A (oX4 (p0a 0) p0a p0k p0w p0l) → va_K (dC, dI) cls (tX4 p0k) s → va_S A s.heap H locs → lv_has ls 2 [] → W p l e ({ frames := 0, cells := 0, slots := 0, locals := 0 } : Room) s m ([.ref (p0a 0), .int p1] : List Value).toArray below meth c H locs 0 0 Q (F0 m 24 ls [.int y0_24]) := by
    intro y0_24 H locs ls hrun hP hD hK hS hl 
    unfold fX4_opsTo_J24 at hrun
    have ho9 : y0_24 = o := Option.some.inj hrun
    have hP9 : va_P (dC, dI) cls (oX4 (p0a 0) p0a p0k p0w p0l) H := by first | exact hP | (rw [← ho9]; exact hP)
    have hD9 : va_D A (oX4 (p0a 0) p0a p0k p0w p0l) := by first | exact hD | (rw [← ho9]; exact hD)
    subst hQ
    exact W.iret (v := y0_24) hx hb hr (fun t ht hW => ⟨⟨y0_24, (), rfl, (by rw [← ho9]), ⟨by rw [ht]; exact hP9, va_K.moved hW.alike hK, hD9⟩⟩, hS.F ht⟩) hS.2.2 dX4_opsTo_24
  rcases br9 hrun with ⟨hc2, hrun⟩ | ⟨hc2, hrun⟩
  · refine lv_if_ge (tgt := 13) hx hb dX4_opsTo_6 (by decide) (fun _ => ?_) (fun c => absurd hc2 c)
    refine lv_aload_n hx hb dX4_opsTo_13 rfl (lv_at hl 0 rfl) ?_
    refine va_get (D := (dC, dI)) (ci := 6) (v := .ref (p0a 8)) (C := RX4) (T := TX4) (N := 20) hx hb hts i_X4 hown hK hP 0 rfl rfl 7 (by decide) (hts _ qw19) (fun _ h9 => h9) rfl dX4_opsTo_14 ?_
    refine lv_aload_n hx hb dX4_opsTo_17 rfl (lv_at hl 0 rfl) ?_
    refine va_get (D := (dC, dI)) (ci := 6) (v := .ref (p0a 15)) (C := RX4) (T := TX4) (N := 20) hx hb hts i_X4 hown hK hP 0 rfl rfl 14 (by decide) (hts _ qw12) (fun _ h9 => h9) rfl dX4_opsTo_18 ?_
    refine lv_iload_n hx hb dX4_opsTo_21 rfl (lv_at hl 1 rfl) ?_
    obtain ⟨hq3, hrun⟩ := chk9 hrun
    refine va_iald hx hb hK hP 13 12 rfl rfl (ixb_in hq3) dX4_opsTo_22 ?_
    obtain ⟨hq4, hrun⟩ := chk9 hrun
    refine va_iald hx hb hK hP 6 5 rfl rfl (ixb_in hq4) dX4_opsTo_23 ?_
    exact J24 (p0w 8 (nn (p0w 15 (nn p1)))) _ _ _ hrun hP hD hK hS (lv_sub hl [] rfl)
  · refine lv_if_ge (tgt := 13) hx hb dX4_opsTo_6 (by decide) (fun c => absurd c hc2) (fun _ => ?_)
    refine lv_iconst (v := 0) hx hb dX4_opsTo_9 (by decide) ?_
    refine lv_goto (tgt := 24) hx hb dX4_opsTo_10 (by decide) ?_
    exact J24 0 _ _ _ hrun hP hD hK hS (lv_sub hl [] rfl)
def fX4_valueAt_J14 (y0_14 : Int32) : Option Int32 := some y0_14
def fX4_valueAt (p0w : ST) (p1 : Int32) : Option Int32 := (if 0 ≤ p1 then (if ixb p1 3200 = true then (fX4_valueAt_J14 (p0w 4 (nn p1))) else none) else (fX4_valueAt_J14 (-1)))
set_option maxHeartbeats 16000000 in
set_option maxRecDepth 100000 in
theorem kX4_valueAt {zs : Nat × Nat} (l : Launch) (dC : Nat → ClassId) (dI : Nat → Nat → Nat) (p0a : Nat → Nat) (p0k : Nat → ClassId) (p0w : ST) (p0l : SL) (p1 : Int32) (sz : Nat) (o : Int32) (hrun : fX4_valueAt p0w p1 = some o) : Met l yX4_valueAt (wz yX4_valueAt cX4_valueAt 2 (Option.some Jvm.ClassFile.FieldType.int)) ({ frames := 0, cells := 0, slots := 0, locals := 0 } : Room) (va_Pc [.ref (p0a 0), .int p1] (PRE zs dC dI (oX4 (p0a 0) p0a p0k p0w p0l) (tX4 p0k) sz)) (va_Qi (fun (r : Int32) (_ : Unit) => r = o) (fun _ t => POST dC dI (oX4 (p0a 0) p0a p0k p0w p0l) (tX4 p0k) (va_A (oX4 (p0a 0) p0a p0k p0w p0l) sz) t) (va_A (oX4 (p0a 0) p0a p0k p0w p0l) sz)) 0 0 (va_A (oX4 (p0a 0) p0a p0k p0w p0l) sz) := by
  refine Met.ofW (cc := cX4_valueAt) (maxL := 2) (ret := (Option.some Jvm.ClassFile.FieldType.int)) (by decide) rfl ?_
  intro p e s m args below meth c s₁ B hml hv
  obtain ⟨rfl, hsz, hP, hK, hD0, hE⟩ := hv
  have hx := B.exec
  have hb := B.bytes
  have hr := B.returns
  have hts0 := atoms_spec (ws := wz yX4_valueAt cX4_valueAt 2 (Option.some Jvm.ClassFile.FieldType.int)) B.pre
  have hts : ∀ w ∈ gw, w.before _ s = true := fun w h => hts0 w (List.mem_cons_of_mem _ h)
  have hown : s.vm.findClass RX4 = some m.cls := findClass_of_methodNamed B.named
  have hlocks := B.notSynchronized
  subst hsz
  have hD := hD0.self (sz := s.heap.size)
  refine gQ9 ?_
  intro Q hQ
  generalize hAe : va_A (oX4 (p0a 0) p0a p0k p0w p0l) s.heap.size = A at hD hE hQ
  have hA : ∀ q : Nat, s.heap.size ≤ q → A q := fun q h => by rw [← hAe]; exact Or.inr h
  have hS : va_S A s.heap s.heap [] := va_S.rf
  have hP : va_P (dC, dI) cls (oX4 (p0a 0) p0a p0k p0w p0l) s.heap := hP
  have hl := lv_entry ([.ref (p0a 0), .int p1]) (n := 2) (Nat.le_of_ble_eq_true rfl)
  rw [lg_entry_eq]
  generalize (lg_sl ([.ref (p0a 0), .int p1]) ++ List.replicate (2 - (lg_sl ([.ref (p0a 0), .int p1])).length) Slot.unset).toArray = ls at hl ⊢
  have hl : lv_has ls 2 [(0, .ref (p0a 0)), (1, .int p1)] := hl
  obtain ⟨H, hHe⟩ : ∃ H, H = s.heap := ⟨_, rfl⟩
  obtain ⟨locs, hle⟩ : ∃ locs : List Loc, locs = [] := ⟨_, rfl⟩
  rw [← hHe] at hP
  have hS : va_S A s.heap H locs := by rw [hHe, hle]; exact hS
  show W p l e ({ frames := 0, cells := 0, slots := 0, locals := 0 } : Room) s m ([.ref (p0a 0), .int p1] : List Value).toArray below meth c s.heap [] 0 0 Q (F0 m 0 ls [])
  rw [← hle]
  refine wH9 hHe ?_
  unfold fX4_valueAt at hrun
  refine lv_iload_n hx hb dX4_valueAt_0 rfl (lv_at hl 1 rfl) ?_
  have J14 : ∀ (y0_14 : Int32) (H : Heap) (locs : List Loc) (ls : Array Slot), (fX4_valueAt_J14 y0_14) = some o → va_P (dC, dI) cls (oX4 (p0a 0) p0a p0k p0w p0l) H → va_D A (oX4 (p0a 0) p0a p0k p0w p0l) → va_K (dC, dI) cls (tX4 p0k) s → va_S A s.heap H locs → lv_has ls 2 [] → W p l e ({ frames := 0, cells := 0, slots := 0, locals := 0 } : Room) s m ([.ref (p0a 0), .int p1] : List Value).toArray below meth c H locs 0 0 Q (F0 m 14 ls [.int y0_14]) := by
    intro y0_14 H locs ls hrun hP hD hK hS hl 
    unfold fX4_valueAt_J14 at hrun
    have ho9 : y0_14 = o := Option.some.inj hrun
    have hP9 : va_P (dC, dI) cls (oX4 (p0a 0) p0a p0k p0w p0l) H := by first | exact hP | (rw [← ho9]; exact hP)
    have hD9 : va_D A (oX4 (p0a 0) p0a p0k p0w p0l) := by first | exact hD | (rw [← ho9]; exact hD)
    subst hQ
    exact W.iret (v := y0_14) hx hb hr (fun t ht hW => ⟨⟨y0_14, (), rfl, (by rw [← ho9]), ⟨by rw [ht]; exact hP9, va_K.moved hW.alike hK, hD9⟩⟩, hS.F ht⟩) hS.2.2 dX4_valueAt_14
  rcases br9 hrun with ⟨hc1, hrun⟩ | ⟨hc1, hrun⟩
  · refine lv_if_ge (tgt := 8) hx hb dX4_valueAt_1 (by decide) (fun _ => ?_) (fun c => absurd hc1 c)
    refine lv_aload_n hx hb dX4_valueAt_8 rfl (lv_at hl 0 rfl) ?_
    refine va_get (D := (dC, dI)) (ci := 6) (v := .ref (p0a 4)) (C := RX4) (T := TX4) (N := 20) hx hb hts i_X4 hown hK hP 0 rfl rfl 3 (by decide) (hts _ qw26) (fun _ h9 => h9) rfl dX4_valueAt_9 ?_
    refine lv_iload_n hx hb dX4_valueAt_12 rfl (lv_at hl 1 rfl) ?_
    obtain ⟨hq2, hrun⟩ := chk9 hrun
    refine va_iald hx hb hK hP 3 2 rfl rfl (ixb_in hq2) dX4_valueAt_13 ?_
    exact J14 (p0w 4 (nn p1)) _ _ _ hrun hP hD hK hS (lv_sub hl [] rfl)
  · refine lv_if_ge (tgt := 8) hx hb dX4_valueAt_1 (by decide) (fun c => absurd c hc1) (fun _ => ?_)
    refine lv_iconst (v := (-1)) hx hb dX4_valueAt_4 (by decide) ?_
    refine lv_goto (tgt := 14) hx hb dX4_valueAt_5 (by decide) ?_
    exact J14 (-1) _ _ _ hrun hP hD hK hS (lv_sub hl [] rfl)
def fX11_givesValue_J27 (y0_27 : Int32) : Option Int32 := (if y0_27 = 0 ∨ y0_27 = 1 then some y0_27 else none)
def fX11_givesValue_J22  : Option Int32 := (fX11_givesValue_J27 1)
def fX11_givesValue_J10 (p0 : Int32) : Option Int32 := (if p0 = 20 then (fX11_givesValue_J22) else (if p0 = 21 then (fX11_givesValue_J22) else (fX11_givesValue_J27 0)))
def fX11_givesValue (p0 : Int32) : Option Int32 := (if p0 < 0 then (fX11_givesValue_J10 p0) else (if p0 ≤ 17 then (fX11_givesValue_J22) else (fX11_givesValue_J10 p0)))
set_option maxHeartbeats 16000000 in
set_option maxRecDepth 100000 in
theorem kX11_givesValue {zs : Nat × Nat} (l : Launch) (dC : Nat → ClassId) (dI : Nat → Nat → Nat) (p0 : Int32) (sz : Nat) (o : Int32) (hrun : fX11_givesValue p0 = some o) : Met l yX11_givesValue (wz yX11_givesValue cX11_givesValue 1 (Option.some Jvm.ClassFile.FieldType.boolean)) ({ frames := 0, cells := 0, slots := 0, locals := 0 } : Room) (va_Pc [.int p0] (PRE zs dC dI ([] : va_W) ([] : List (ClassId × FieldType)) sz)) (va_Qi (fun (r : Int32) (_ : Unit) => r = o) (fun _ t => POST dC dI ([] : va_W) ([] : List (ClassId × FieldType)) (va_A ([] : va_W) sz) t) (va_A ([] : va_W) sz)) 0 0 (va_A ([] : va_W) sz) := by
  refine Met.ofW (cc := cX11_givesValue) (maxL := 1) (ret := (Option.some Jvm.ClassFile.FieldType.boolean)) (by decide) rfl ?_
  intro p e s m args below meth c s₁ B hml hv
  obtain ⟨rfl, hsz, hP, hK, hD0, hE⟩ := hv
  have hx := B.exec
  have hb := B.bytes
  have hr := B.returns
  have hts0 := atoms_spec (ws := wz yX11_givesValue cX11_givesValue 1 (Option.some Jvm.ClassFile.FieldType.boolean)) B.pre
  have hts : ∀ w ∈ gw, w.before _ s = true := fun w h => hts0 w (List.mem_cons_of_mem _ h)
  have hown : s.vm.findClass RX11 = some m.cls := findClass_of_methodNamed B.named
  have hlocks := B.notSynchronized
  subst hsz
  have hD := hD0.self (sz := s.heap.size)
  refine gQ9 ?_
  intro Q hQ
  generalize hAe : va_A ([] : va_W) s.heap.size = A at hD hE hQ
  have hA : ∀ q : Nat, s.heap.size ≤ q → A q := fun q h => by rw [← hAe]; exact Or.inr h
  have hS : va_S A s.heap s.heap [] := va_S.rf
  have hP : va_P (dC, dI) cls ([] : va_W) s.heap := hP
  have hl := lv_entry ([.int p0]) (n := 1) (Nat.le_of_ble_eq_true rfl)
  rw [lg_entry_eq]
  generalize (lg_sl ([.int p0]) ++ List.replicate (1 - (lg_sl ([.int p0])).length) Slot.unset).toArray = ls at hl ⊢
  have hl : lv_has ls 1 [(0, .int p0)] := hl
  obtain ⟨H, hHe⟩ : ∃ H, H = s.heap := ⟨_, rfl⟩
  obtain ⟨locs, hle⟩ : ∃ locs : List Loc, locs = [] := ⟨_, rfl⟩
  rw [← hHe] at hP
  have hS : va_S A s.heap H locs := by rw [hHe, hle]; exact hS
  show W p l e ({ frames := 0, cells := 0, slots := 0, locals := 0 } : Room) s m ([.int p0] : List Value).toArray below meth c s.heap [] 0 0 Q (F0 m 0 ls [])
  rw [← hle]
  refine wH9 hHe ?_
  unfold fX11_givesValue at hrun
  refine lv_iload_n hx hb dX11_givesValue_0 rfl (lv_at hl 0 rfl) ?_
  have J27 : ∀ (y0_27 : Int32) (H : Heap) (locs : List Loc) (ls : Array Slot), (fX11_givesValue_J27 y0_27) = some o → va_P (dC, dI) cls ([] : va_W) H → va_D A ([] : va_W) → va_K (dC, dI) cls ([] : List (ClassId × FieldType)) s → va_S A s.heap H locs → lv_has ls 1 [] → W p l e ({ frames := 0, cells := 0, slots := 0, locals := 0 } : Room) s m ([.int p0] : List Value).toArray below meth c H locs 0 0 Q (F0 m 27 ls [.int y0_27]) := by
    intro y0_27 H locs ls hrun hP hD hK hS hl 
    unfold fX11_givesValue_J27 at hrun
    obtain ⟨hz9, hrun⟩ := chk9 hrun
    have ho9 : y0_27 = o := Option.some.inj hrun
    have hP9 : va_P (dC, dI) cls ([] : va_W) H := by first | exact hP | (rw [← ho9]; exact hP)
    have hD9 : va_D A ([] : va_W) := by first | exact hD | (rw [← ho9]; exact hD)
    subst hQ
    exact W.zret (v := y0_27) hx hb hr (bz9 hz9) (fun t ht hW => ⟨⟨y0_27, (), rfl, (by rw [← ho9]), ⟨by rw [ht]; exact hP9, va_K.moved hW.alike hK, hD9⟩⟩, hS.F ht⟩) hS.2.2 dX11_givesValue_27
  have J22 : ∀ (H : Heap) (locs : List Loc) (ls : Array Slot), (fX11_givesValue_J22) = some o → va_P (dC, dI) cls ([] : va_W) H → va_D A ([] : va_W) → va_K (dC, dI) cls ([] : List (ClassId × FieldType)) s → va_S A s.heap H locs → lv_has ls 1 [] → W p l e ({ frames := 0, cells := 0, slots := 0, locals := 0 } : Room) s m ([.int p0] : List Value).toArray below meth c H locs 0 0 Q (F0 m 22 ls []) := by
    intro  H locs ls hrun hP hD hK hS hl 
    unfold fX11_givesValue_J22 at hrun
    refine lv_iconst (v := 1) hx hb dX11_givesValue_22 (by decide) ?_
    refine lv_goto (tgt := 27) hx hb dX11_givesValue_23 (by decide) ?_
    exact J27 1 _ _ _ hrun hP hD hK hS (lv_sub hl [] rfl)
  have J10 : ∀ (H : Heap) (locs : List Loc) (ls : Array Slot), (fX11_givesValue_J10 p0) = some o → va_P (dC, dI) cls ([] : va_W) H → va_D A ([] : va_W) → va_K (dC, dI) cls ([] : List (ClassId × FieldType)) s → va_S A s.heap H locs → lv_has ls 1 [(0, .int p0)] → W p l e ({ frames := 0, cells := 0, slots := 0, locals := 0 } : Room) s m ([.int p0] : List Value).toArray below meth c H locs 0 0 Q (F0 m 10 ls []) := by
    intro  H locs ls hrun hP hD hK hS hl 
    unfold fX11_givesValue_J10 at hrun
    refine lv_iload_n hx hb dX11_givesValue_10 rfl (lv_at hl 0 rfl) ?_
    refine lv_bipush (v := 20) hx hb dX11_givesValue_11 (by decide) ?_
    rcases br9 hrun with ⟨hc1, hrun⟩ | ⟨hc1, hrun⟩
    · refine lv_icmp_eq (tgt := 22) hx hb dX11_givesValue_13 (by decide) (fun _ => ?_) (fun c => absurd hc1 c)
      exact J22 _ _ _ hrun hP hD hK hS (lv_sub hl [] rfl)
    · refine lv_icmp_eq (tgt := 22) hx hb dX11_givesValue_13 (by decide) (fun c => absurd c hc1) (fun _ => ?_)
      refine lv_iload_n hx hb dX11_givesValue_16 rfl (lv_at hl 0 rfl) ?_
      refine lv_bipush (v := 21) hx hb dX11_givesValue_17 (by decide) ?_
      rcases br9 hrun with ⟨hc2, hrun⟩ | ⟨hc2, hrun⟩
      · refine lv_icmp_ne (tgt := 26) hx hb dX11_givesValue_19 (by decide) (fun c => absurd hc2 c) (fun _ => ?_)
        exact J22 _ _ _ hrun hP hD hK hS (lv_sub hl [] rfl)
      · refine lv_icmp_ne (tgt := 26) hx hb dX11_givesValue_19 (by decide) (fun _ => ?_) (fun c => absurd c hc2)
        refine lv_iconst (v := 0) hx hb dX11_givesValue_26 (by decide) ?_
        exact J27 0 _ _ _ hrun hP hD hK hS (lv_sub hl [] rfl)
  rcases br9 hrun with ⟨hc3, hrun⟩ | ⟨hc3, hrun⟩
  · refine lv_if_lt (tgt := 10) hx hb dX11_givesValue_1 (by decide) (fun _ => ?_) (fun c => absurd hc3 c)
    exact J10 _ _ _ hrun hP hD hK hS (lv_sub hl [0] rfl)
  · refine lv_if_lt (tgt := 10) hx hb dX11_givesValue_1 (by decide) (fun c => absurd c hc3) (fun _ => ?_)
    refine lv_iload_n hx hb dX11_givesValue_4 rfl (lv_at hl 0 rfl) ?_
    refine lv_bipush (v := 17) hx hb dX11_givesValue_5 (by decide) ?_
    rcases br9 hrun with ⟨hc4, hrun⟩ | ⟨hc4, hrun⟩
    · refine lv_icmp_le (tgt := 22) hx hb dX11_givesValue_7 (by decide) (fun _ => ?_) (fun c => absurd hc4 c)
      exact J22 _ _ _ hrun hP hD hK hS (lv_sub hl [] rfl)
    · refine lv_icmp_le (tgt := 22) hx hb dX11_givesValue_7 (by decide) (fun c => absurd c hc4) (fun _ => ?_)
      exact J10 _ _ _ hrun hP hD hK hS (lv_sub hl [0] rfl)
def fJ7_copyOf_59c91 (p0n : Nat) (p0f : RI) (p1 : Int32) : Option (Nat × RI) := (if p1 = (Int32.ofNat p0n) then none else (if nck p1 = true then (if cpk 0 0 (if p1 < (Int32.ofNat p0n) then p1 else (Int32.ofNat p0n)) p0n (nn p1) = true then (lt9 (va_cpy p0f (fun _ => 0) (nn 0) (nn 0) (nn (if p1 < (Int32.ofNat p0n) then p1 else (Int32.ofNat p0n)))) fun (f4 : RI) => some ((nn p1), f4)) else none) else none))
theorem ln_fJ7_copyOf_59c91 {p0n : Nat} {p0f : RI} {p1 : Int32} {o : Nat × RI} (hrun : fJ7_copyOf_59c91 p0n p0f p1 = some o) : o.1 = nn p1 := by
  unfold fJ7_copyOf_59c91 at hrun
  rcases br9 hrun with ⟨hc1, hrun⟩ | ⟨hc1, hrun⟩
  · skip
    cases hrun
  · skip
    obtain ⟨hq2, hrun⟩ := chk9 hrun
    obtain ⟨hq3, hrun⟩ := chk9 hrun
    obtain ⟨f4, ef4, hrun⟩ := let9 hrun
    obtain rfl := (Option.some.inj hrun)
    exact rfl
set_option maxHeartbeats 16000000 in
set_option maxRecDepth 100000 in
theorem kJ7_copyOf_59c91 {zs : Nat × Nat} (l : Launch) (dC : Nat → ClassId) (dI : Nat → Nat → Nat) (p0a : Nat) (p0k : ClassId) (p0n : Nat) (p0f : RI) (p1 : Int32) (sz : Nat) (o : Nat × RI) (hrun : fJ7_copyOf_59c91 p0n p0f p1 = some o) : Met l yJ7_copyOf_59c91 (wz yJ7_copyOf_59c91 cJ7_copyOf_59c91 3 (Option.some (Jvm.ClassFile.FieldType.array Jvm.ClassFile.FieldType.int))) ({ frames := 1, cells := 1, slots := (nn p1), locals := 40 } : Room) (va_Pc [.ref p0a, .int p1] (PRE zs dC dI [(p0a, .inl (p0k, p0n, .inl p0f))] [(p0k, .int)] sz)) (va_Qr (fun (_ : Unit) => True) (fun _ ra t => ∃ (z9 : ClassId), POST dC dI [(ra, .inl (z9, o.1, .inl o.2))] [(z9, .int)] (va_A [(p0a, .inl (p0k, p0n, .inl p0f))] sz) t) (va_A [(p0a, .inl (p0k, p0n, .inl p0f))] sz)) 1 (nn p1) (va_A [(p0a, .inl (p0k, p0n, .inl p0f))] sz) := by
  refine Met.ofW (cc := cJ7_copyOf_59c91) (maxL := 3) (ret := (Option.some (Jvm.ClassFile.FieldType.array Jvm.ClassFile.FieldType.int))) (by decide) rfl ?_
  intro p e s m args below meth c s₁ B hml hv
  obtain ⟨rfl, hsz, hP, hK, hD0, hE⟩ := hv
  have hx := B.exec
  have hb := B.bytes
  have hr := B.returns
  have hts0 := atoms_spec (ws := wz yJ7_copyOf_59c91 cJ7_copyOf_59c91 3 (Option.some (Jvm.ClassFile.FieldType.array Jvm.ClassFile.FieldType.int))) B.pre
  have hts : ∀ w ∈ gw, w.before _ s = true := fun w h => hts0 w (List.mem_cons_of_mem _ h)
  have hown : s.vm.findClass RJ7 = some m.cls := findClass_of_methodNamed B.named
  have hlocks := B.notSynchronized
  subst hsz
  have hD := hD0.self (sz := s.heap.size)
  refine gQ9 ?_
  intro Q hQ
  generalize hAe : va_A [(p0a, .inl (p0k, p0n, .inl p0f))] s.heap.size = A at hD hE hQ
  have hA : ∀ q : Nat, s.heap.size ≤ q → A q := fun q h => by rw [← hAe]; exact Or.inr h
  have hS : va_S A s.heap s.heap [] := va_S.rf
  have hP : va_P (dC, dI) cls [(p0a, .inl (p0k, p0n, .inl p0f))] s.heap := hP
  have hl := lv_entry ([.ref p0a, .int p1]) (n := 3) (Nat.le_of_ble_eq_true rfl)
  rw [lg_entry_eq]
  generalize (lg_sl ([.ref p0a, .int p1]) ++ List.replicate (3 - (lg_sl ([.ref p0a, .int p1])).length) Slot.unset).toArray = ls at hl ⊢
  have hl : lv_has ls 3 [(0, .ref p0a), (1, .int p1)] := hl
  obtain ⟨H, hHe⟩ : ∃ H, H = s.heap := ⟨_, rfl⟩
  obtain ⟨locs, hle⟩ : ∃ locs : List Loc, locs = [] := ⟨_, rfl⟩
  rw [← hHe] at hP
  have hS : va_S A s.heap H locs := by rw [hHe, hle]; exact hS
  show W p l e ({ frames := 1, cells := 1, slots := (nn p1), locals := 40 } : Room) s m ([.ref p0a, .int p1] : List Value).toArray below meth c s.heap [] 0 0 Q (F0 m 0 ls [])
  rw [← hle]
  refine wH9 hHe ?_
  unfold fJ7_copyOf_59c91 at hrun
  refine lv_iload_n hx hb dJ7_copyOf_59c91_0 rfl (lv_at hl 1 rfl) ?_
  refine lv_aload_n hx hb dJ7_copyOf_59c91_1 rfl (lv_at hl 0 rfl) ?_
  refine va_alen (v := (Int32.ofNat p0n)) hx hb hK hP 0 0 rfl rfl rfl dJ7_copyOf_59c91_2 ?_
  rcases br9 hrun with ⟨hc1, hrun⟩ | ⟨hc1, hrun⟩
  · refine lv_icmp_ne (tgt := 14) hx hb dJ7_copyOf_59c91_3 (by decide) (fun c => absurd hc1 c) (fun _ => ?_)
    refine lv_aload_n hx hb dJ7_copyOf_59c91_6 rfl (lv_at hl 0 rfl) ?_
    cases hrun
  · refine lv_icmp_ne (tgt := 14) hx hb dJ7_copyOf_59c91_3 (by decide) (fun _ => ?_) (fun c => absurd c hc1)
    refine lv_iload_n hx hb dJ7_copyOf_59c91_14 rfl (lv_at hl 1 rfl) ?_
    obtain ⟨hq2, hrun⟩ := chk9 hrun
    refine va_newa (atype := .int) (ty := .int) hx hb (hts _ qw44) rfl hK hP hD hS hA (N' := (nn p1)) (a0 := (nn p1, .inl (fun _ => 0))) (fun _ => rfl) (nck_1 hq2) rfl (nck_4 hq2) (show 0 + 1 ≤ 1 from Nat.le_refl _) (show 0 + nn p1 ≤ nn p1 from Nat.le_of_eq (Nat.zero_add _)) dJ7_copyOf_59c91_15 (fun q1 c1 H hK hP hD hS => ?_)
    have hP : va_P (dC, dI) cls [(p0a, .inl (p0k, p0n, .inl p0f)), (q1, .inl (c1, (nn p1), .inl (fun _ => 0)))] H := hP
    have hD : va_D A [(p0a, .inl (p0k, p0n, .inl p0f)), (q1, .inl (c1, (nn p1), .inl (fun _ => 0)))] := hD
    have hK : va_K (dC, dI) cls [(p0k, .int), (c1, .int)] s := hK
    refine W.widen (k := 1) (n := (nn p1)) (Nat.le_refl _) (Nat.le_of_eq (Nat.zero_add _)) ?_
    refine lv_astore_n (lv' := [(2, .ref q1), (0, .ref p0a), (1, .int p1)]) hx hb dJ7_copyOf_59c91_17 rfl hl (by decide) rfl (fun ls hl => ?_)
    refine lv_aload_n hx hb dJ7_copyOf_59c91_18 rfl (lv_at hl 1 rfl) ?_
    refine lv_iconst (v := 0) hx hb dJ7_copyOf_59c91_19 (by decide) ?_
    refine lv_aload_n hx hb dJ7_copyOf_59c91_20 rfl (lv_at hl 0 rfl) ?_
    refine lv_iconst (v := 0) hx hb dJ7_copyOf_59c91_21 (by decide) ?_
    refine lv_aload_n hx hb dJ7_copyOf_59c91_22 rfl (lv_at hl 1 rfl) ?_
    refine va_alen (v := (Int32.ofNat p0n)) hx hb hK hP 0 0 rfl rfl rfl dJ7_copyOf_59c91_23 ?_
    refine lv_iload_n hx hb dJ7_copyOf_59c91_24 rfl (lv_at hl 2 rfl) ?_
    refine va_mmin hx hb (hml.trans hl.1.symm) hown (hts _ qw45) (hts _ qw46) (hts _ qw47) (hts _ qw48) (Nat.le_of_ble_eq_true rfl) (Nat.le_of_ble_eq_true rfl) (Nat.le_refl _) (Nat.le_refl _) dJ7_copyOf_59c91_25 ?_
    obtain ⟨hq3, hrun⟩ := chk9 hrun
    refine va_copyi (ty := .int) (sp := 0) (dp := 0) (n := (if p1 < (Int32.ofNat p0n) then p1 else (Int32.ofNat p0n))) hx hb (hml.trans hl.1.symm) hown (hts _ qw49) (hts _ qw50) (hts _ qw51) (hts _ qw52) hK hP hD hS 0 1 0 1 rfl rfl rfl rfl rfl (cpk_1 hq3) (cpk_2 hq3) (cpk_3 hq3) (cpk_4 hq3) (cpk_5 hq3) (fun _ _ => rfl) (Nat.le_of_ble_eq_true rfl) (Nat.le_of_ble_eq_true rfl) dJ7_copyOf_59c91_28 (fun H locs hP hD hS => ?_)
    have hP : va_P (dC, dI) cls [(p0a, .inl (p0k, p0n, .inl p0f)), (q1, .inl (c1, (nn p1), .inl (va_cpy p0f (fun _ => 0) (nn 0) (nn 0) (nn (if p1 < (Int32.ofNat p0n) then p1 else (Int32.ofNat p0n))))))] H := hP
    have hD : va_D A [(p0a, .inl (p0k, p0n, .inl p0f)), (q1, .inl (c1, (nn p1), .inl (va_cpy p0f (fun _ => 0) (nn 0) (nn 0) (nn (if p1 < (Int32.ofNat p0n) then p1 else (Int32.ofNat p0n))))))] := hD
    obtain ⟨f4, ef4, hrun⟩ := let9 hrun
    rw [← ef4] at hP hD
    refine lv_aload_n hx hb dJ7_copyOf_59c91_31 rfl (lv_at hl 0 rfl) ?_
    have ho9 : ((nn p1), f4) = o := Option.some.inj hrun
    subst ho9
    subst hQ
    have hP9 : va_P (dC, dI) cls [(q1, .inl (c1, (nn p1), .inl f4))] H := hP.sub [1] rfl
    have hD9 : va_D A [(q1, .inl (c1, (nn p1), .inl f4))] := hD.sub [1] (by decide) rfl
    have hK9 : va_K (dC, dI) cls [(c1, .int)] s := hK.sub [1] rfl
    exact W.aret (v := .ref q1) (rt := .array .int) hx hb hr (Or.inr ⟨_, rfl⟩) (Or.inr ⟨_, rfl⟩) (fun t ht hW => ⟨⟨(), q1, rfl, trivial, c1, by rw [ht]; exact hP9, va_K.moved hW.alike hK9, hD9⟩, hS.F ht⟩) hS.2.2 dJ7_copyOf_59c91_32
def fX9_add_J92 (p1 : Int32) (p2 : Int32) (p3 : Int32) (p4 : Int32) (p0w_92 : ST) (p0n_92 : Nat → Nat) : Option (Int32 × ST × (Nat → Nat)) := (if ixb (p0w_92 0 0) (p0n_92 2) = true then (lt9 (upw p0w_92 2 (nn (p0w_92 0 0)) p1) fun (w2 : ST) => (if ixb (w2 0 0) (p0n_92 3) = true then (lt9 (upw w2 3 (nn (w2 0 0)) p2) fun (w4 : ST) => (if ixb (w4 0 0) (p0n_92 4) = true then (lt9 (upw w4 4 (nn (w4 0 0)) p3) fun (w6 : ST) => (if ixb (w6 0 0) (p0n_92 5) = true then (lt9 (upw w6 5 (nn (w6 0 0)) p4) fun (w8 : ST) => (if ixb (w8 0 0) (p0n_92 6) = true then (lt9 (upw w8 6 (nn (w8 0 0)) (-1)) fun (w10 : ST) => (lt9 (upw w10 0 0 ((w10 0 0) + 1)) fun (w11 : ST) => some (((w11 0 0) - 1), w11, p0n_92))) else none)) else none)) else none)) else none)) else none)
theorem mo_fX9_add_J92 {p1 : Int32} {p2 : Int32} {p3 : Int32} {p4 : Int32} {p0w_92 : ST} {p0n_92 : Nat → Nat} {o9q : Int32 × ST × (Nat → Nat)} (hrun : fX9_add_J92 p1 p2 p3 p4 p0w_92 p0n_92 = some o9q) : glX9 p0n_92 (o9q.2.2) := by
  unfold fX9_add_J92 at hrun
  obtain ⟨hq1, hrun⟩ := chk9 hrun
  obtain ⟨w2, ew2, hrun⟩ := let9 hrun
  obtain ⟨hq3, hrun⟩ := chk9 hrun
  obtain ⟨w4, ew4, hrun⟩ := let9 hrun
  obtain ⟨hq5, hrun⟩ := chk9 hrun
  obtain ⟨w6, ew6, hrun⟩ := let9 hrun
  obtain ⟨hq7, hrun⟩ := chk9 hrun
  obtain ⟨w8, ew8, hrun⟩ := let9 hrun
  obtain ⟨hq9, hrun⟩ := chk9 hrun
  obtain ⟨w10, ew10, hrun⟩ := let9 hrun
  obtain ⟨w11, ew11, hrun⟩ := let9 hrun
  obtain rfl := (Option.some.inj hrun)
  exact (glX9_rf _)
def fX9_add_G92_47 (p1 : Int32) (p2 : Int32) (p3 : Int32) (p4 : Int32) (n43 : Nat → Nat) (w44 : ST) : Option (Int32 × ST × (Nat → Nat)) := (fX9_add_J92 p1 p2 p3 p4 w44 n43)
theorem mo_fX9_add_G92_47 {p1 : Int32} {p2 : Int32} {p3 : Int32} {p4 : Int32} {n43 : Nat → Nat} {w44 : ST} {o9q : Int32 × ST × (Nat → Nat)} (hrun : fX9_add_G92_47 p1 p2 p3 p4 n43 w44 = some o9q) : glX9 n43 (o9q.2.2) := by
  unfold fX9_add_G92_47 at hrun
  exact (mo_fX9_add_J92 hrun)
def fX9_add_G79_40 (p0w : ST) (p1 : Int32) (p2 : Int32) (p3 : Int32) (p4 : Int32) (n36 : Nat → Nat) (w37 : ST) : Option (Int32 × ST × (Nat → Nat)) := ((fJ7_copyOf_59c91 (n36 6) (w37 6) (((p0w 0 0) + ((p0w 0 0) / 2)) + 1)).bind fun (o_41 : Nat × RI) => (if grs (n36 6) (o_41.1) = true then (lt9 (stn n36 6 (o_41.1)) fun (n43 : Nat → Nat) => (lt9 (srw w37 6 (o_41.2)) fun (w44 : ST) => (fX9_add_G92_47 p1 p2 p3 p4 n43 w44))) else none))
theorem mo_fX9_add_G79_40 {p0w : ST} {p1 : Int32} {p2 : Int32} {p3 : Int32} {p4 : Int32} {n36 : Nat → Nat} {w37 : ST} {o9q : Int32 × ST × (Nat → Nat)} (hrun : fX9_add_G79_40 p0w p1 p2 p3 p4 n36 w37 = some o9q) : glX9 n36 (o9q.2.2) := by
  unfold fX9_add_G79_40 at hrun
  obtain ⟨o_41, hc_41, hrun⟩ := bnd9 hrun
  obtain ⟨hq42, hrun⟩ := chk9 hrun
  obtain ⟨n43, en43, hrun⟩ := let9 hrun
  obtain ⟨w44, ew44, hrun⟩ := let9 hrun
  skip
  exact (glX9_tr (by rw [en43]; exact glX9_6 (grs_le hq42) : glX9 n36 n43) (mo_fX9_add_G92_47 hrun))
def fX9_add_G66_33 (p0w : ST) (p1 : Int32) (p2 : Int32) (p3 : Int32) (p4 : Int32) (n29 : Nat → Nat) (w30 : ST) : Option (Int32 × ST × (Nat → Nat)) := ((fJ7_copyOf_59c91 (n29 5) (w30 5) (((p0w 0 0) + ((p0w 0 0) / 2)) + 1)).bind fun (o_34 : Nat × RI) => (if grs (n29 5) (o_34.1) = true then (lt9 (stn n29 5 (o_34.1)) fun (n36 : Nat → Nat) => (lt9 (srw w30 5 (o_34.2)) fun (w37 : ST) => (fX9_add_G79_40 p0w p1 p2 p3 p4 n36 w37))) else none))
theorem mo_fX9_add_G66_33 {p0w : ST} {p1 : Int32} {p2 : Int32} {p3 : Int32} {p4 : Int32} {n29 : Nat → Nat} {w30 : ST} {o9q : Int32 × ST × (Nat → Nat)} (hrun : fX9_add_G66_33 p0w p1 p2 p3 p4 n29 w30 = some o9q) : glX9 n29 (o9q.2.2) := by
  unfold fX9_add_G66_33 at hrun
  obtain ⟨o_34, hc_34, hrun⟩ := bnd9 hrun
  obtain ⟨hq35, hrun⟩ := chk9 hrun
  obtain ⟨n36, en36, hrun⟩ := let9 hrun
  obtain ⟨w37, ew37, hrun⟩ := let9 hrun
  skip
  exact (glX9_tr (by rw [en36]; exact glX9_5 (grs_le hq35) : glX9 n29 n36) (mo_fX9_add_G79_40 hrun))
def fX9_add_G53_26 (p0w : ST) (p1 : Int32) (p2 : Int32) (p3 : Int32) (p4 : Int32) (n22 : Nat → Nat) (w23 : ST) : Option (Int32 × ST × (Nat → Nat)) := ((fJ7_copyOf_59c91 (n22 4) (w23 4) (((p0w 0 0) + ((p0w 0 0) / 2)) + 1)).bind fun (o_27 : Nat × RI) => (if grs (n22 4) (o_27.1) = true then (lt9 (stn n22 4 (o_27.1)) fun (n29 : Nat → Nat) => (lt9 (srw w23 4 (o_27.2)) fun (w30 : ST) => (fX9_add_G66_33 p0w p1 p2 p3 p4 n29 w30))) else none))
theorem mo_fX9_add_G53_26 {p0w : ST} {p1 : Int32} {p2 : Int32} {p3 : Int32} {p4 : Int32} {n22 : Nat → Nat} {w23 : ST} {o9q : Int32 × ST × (Nat → Nat)} (hrun : fX9_add_G53_26 p0w p1 p2 p3 p4 n22 w23 = some o9q) : glX9 n22 (o9q.2.2) := by
  unfold fX9_add_G53_26 at hrun
  obtain ⟨o_27, hc_27, hrun⟩ := bnd9 hrun
  obtain ⟨hq28, hrun⟩ := chk9 hrun
  obtain ⟨n29, en29, hrun⟩ := let9 hrun
  obtain ⟨w30, ew30, hrun⟩ := let9 hrun
  skip
  exact (glX9_tr (by rw [en29]; exact glX9_4 (grs_le hq28) : glX9 n22 n29) (mo_fX9_add_G66_33 hrun))
def fX9_add_G40_19 (p0w : ST) (p1 : Int32) (p2 : Int32) (p3 : Int32) (p4 : Int32) (n15 : Nat → Nat) (w16 : ST) : Option (Int32 × ST × (Nat → Nat)) := ((fJ7_copyOf_59c91 (n15 3) (w16 3) (((p0w 0 0) + ((p0w 0 0) / 2)) + 1)).bind fun (o_20 : Nat × RI) => (if grs (n15 3) (o_20.1) = true then (lt9 (stn n15 3 (o_20.1)) fun (n22 : Nat → Nat) => (lt9 (srw w16 3 (o_20.2)) fun (w23 : ST) => (fX9_add_G53_26 p0w p1 p2 p3 p4 n22 w23))) else none))
theorem mo_fX9_add_G40_19 {p0w : ST} {p1 : Int32} {p2 : Int32} {p3 : Int32} {p4 : Int32} {n15 : Nat → Nat} {w16 : ST} {o9q : Int32 × ST × (Nat → Nat)} (hrun : fX9_add_G40_19 p0w p1 p2 p3 p4 n15 w16 = some o9q) : glX9 n15 (o9q.2.2) := by
  unfold fX9_add_G40_19 at hrun
  obtain ⟨o_20, hc_20, hrun⟩ := bnd9 hrun
  obtain ⟨hq21, hrun⟩ := chk9 hrun
  obtain ⟨n22, en22, hrun⟩ := let9 hrun
  obtain ⟨w23, ew23, hrun⟩ := let9 hrun
  skip
  exact (glX9_tr (by rw [en22]; exact glX9_3 (grs_le hq21) : glX9 n15 n22) (mo_fX9_add_G53_26 hrun))
def fX9_add (p0n : Nat → Nat) (p0w : ST) (p1 : Int32) (p2 : Int32) (p3 : Int32) (p4 : Int32) : Option (Int32 × ST × (Nat → Nat)) := (if (p0w 0 0) < (Int32.ofNat (p0n 2)) then (fX9_add_J92 p1 p2 p3 p4 p0w p0n) else ((fJ7_copyOf_59c91 (p0n 2) (p0w 2) (((p0w 0 0) + ((p0w 0 0) / 2)) + 1)).bind fun (o_13 : Nat × RI) => (if grs (p0n 2) (o_13.1) = true then (lt9 (stn p0n 2 (o_13.1)) fun (n15 : Nat → Nat) => (lt9 (srw p0w 2 (o_13.2)) fun (w16 : ST) => (fX9_add_G40_19 p0w p1 p2 p3 p4 n15 w16))) else none)))
theorem mo_fX9_add {p0n : Nat → Nat} {p0w : ST} {p1 : Int32} {p2 : Int32} {p3 : Int32} {p4 : Int32} {o9q : Int32 × ST × (Nat → Nat)} (hrun : fX9_add p0n p0w p1 p2 p3 p4 = some o9q) : glX9 p0n (o9q.2.2) := by
  unfold fX9_add at hrun
  rcases br9 hrun with ⟨hc12, hrun⟩ | ⟨hc12, hrun⟩
  · skip
    exact (mo_fX9_add_J92 hrun)
  · skip
    obtain ⟨o_13, hc_13, hrun⟩ := bnd9 hrun
    obtain ⟨hq14, hrun⟩ := chk9 hrun
    obtain ⟨n15, en15, hrun⟩ := let9 hrun
    obtain ⟨w16, ew16, hrun⟩ := let9 hrun
    skip
    exact (glX9_tr (by rw [en15]; exact glX9_2 (grs_le hq14) : glX9 p0n n15) (mo_fX9_add_G40_19 hrun))
set_option maxHeartbeats 16000000 in
set_option maxRecDepth 100000 in
theorem kX9_add {zs : Nat × Nat} (l : Launch) (dC : Nat → ClassId) (dI : Nat → Nat → Nat) (p0a : Nat → Nat) (p0k : Nat → ClassId) (p0n : Nat → Nat) (p0w : ST) (p1 : Int32) (p2 : Int32) (p3 : Int32) (p4 : Int32) (sz : Nat) (o : Int32 × ST × (Nat → Nat)) (hrun : fX9_add p0n p0w p1 p2 p3 p4 = some o) : Met l yX9_add (wz yX9_add cX9_add 6 (Option.some Jvm.ClassFile.FieldType.int)) ({ frames := 2, cells := (gcX9 p0n (o.2.2)), slots := (3 * (gcX9 p0n (o.2.2))), locals := 62 } : Room) (va_Pc [.ref (p0a 0), .int p1, .int p2, .int p3, .int p4] (PRE zs dC dI (oX9 (p0a 0) p0a p0k p0n p0w) (tX9 p0k) sz)) (va_Qi (fun (r : Int32) (_ : Unit) => r = (o.1)) (fun _ t => ∃ (xp0_1_z : Nat), ∃ (zp0_1_z : ClassId), ∃ (xp0_2_z : Nat), ∃ (zp0_2_z : ClassId), ∃ (xp0_3_z : Nat), ∃ (zp0_3_z : ClassId), ∃ (xp0_4_z : Nat), ∃ (zp0_4_z : ClassId), ∃ (xp0_5_z : Nat), ∃ (zp0_5_z : ClassId), POST dC dI (oX9 (p0a 0) (st1 (st1 (st1 (st1 (st1 p0a 2 xp0_1_z) 3 xp0_2_z) 4 xp0_3_z) 5 xp0_4_z) 6 xp0_5_z) (st1 (st1 (st1 (st1 (st1 p0k 2 zp0_1_z) 3 zp0_2_z) 4 zp0_3_z) 5 zp0_4_z) 6 zp0_5_z) (o.2.2) (o.2.1)) (tX9 (st1 (st1 (st1 (st1 (st1 p0k 2 zp0_1_z) 3 zp0_2_z) 4 zp0_3_z) 5 zp0_4_z) 6 zp0_5_z)) (va_A (oX9 (p0a 0) p0a p0k p0n p0w) sz) t) (va_A (oX9 (p0a 0) p0a p0k p0n p0w) sz)) (gcX9 p0n (o.2.2)) (3 * (gcX9 p0n (o.2.2))) (va_A (oX9 (p0a 0) p0a p0k p0n p0w) sz) := by
  refine Met.ofW (cc := cX9_add) (maxL := 6) (ret := (Option.some Jvm.ClassFile.FieldType.int)) (by decide) rfl ?_
  intro p e s m args below meth c s₁ B hml hv
  obtain ⟨rfl, hsz, hP, hK, hD0, hE⟩ := hv
  have hx := B.exec
  have hb := B.bytes
  have hr := B.returns
  have hts0 := atoms_spec (ws := wz yX9_add cX9_add 6 (Option.some Jvm.ClassFile.FieldType.int)) B.pre
  have hts : ∀ w ∈ gw, w.before _ s = true := fun w h => hts0 w (List.mem_cons_of_mem _ h)
  have hown : s.vm.findClass RX9 = some m.cls := findClass_of_methodNamed B.named
  have hlocks := B.notSynchronized
  subst hsz
  have hD := hD0.self (sz := s.heap.size)
  refine gQ9 ?_
  intro Q hQ
  generalize hAe : va_A (oX9 (p0a 0) p0a p0k p0n p0w) s.heap.size = A at hD hE hQ
  have hA : ∀ q : Nat, s.heap.size ≤ q → A q := fun q h => by rw [← hAe]; exact Or.inr h
  have hS : va_S A s.heap s.heap [] := va_S.rf
  have hP : va_P (dC, dI) cls (oX9 (p0a 0) p0a p0k p0n p0w) s.heap := hP
  have hl := lv_entry ([.ref (p0a 0), .int p1, .int p2, .int p3, .int p4]) (n := 6) (Nat.le_of_ble_eq_true rfl)
  rw [lg_entry_eq]
  generalize (lg_sl ([.ref (p0a 0), .int p1, .int p2, .int p3, .int p4]) ++ List.replicate (6 - (lg_sl ([.ref (p0a 0), .int p1, .int p2, .int p3, .int p4])).length) Slot.unset).toArray = ls at hl ⊢
  have hl : lv_has ls 6 [(0, .ref (p0a 0)), (1, .int p1), (2, .int p2), (3, .int p3), (4, .int p4)] := hl
  obtain ⟨H, hHe⟩ : ∃ H, H = s.heap := ⟨_, rfl⟩
  obtain ⟨locs, hle⟩ : ∃ locs : List Loc, locs = [] := ⟨_, rfl⟩
  rw [← hHe] at hP
  have hS : va_S A s.heap H locs := by rw [hHe, hle]; exact hS
  show W p l e ({ frames := 2, cells := (gcX9 p0n (o.2.2)), slots := (3 * (gcX9 p0n (o.2.2))), locals := 62 } : Room) s m ([.ref (p0a 0), .int p1, .int p2, .int p3, .int p4] : List Value).toArray below meth c s.heap [] 0 0 Q (F0 m 0 ls [])
  rw [← hle]
  refine wH9 hHe ?_
  have hg_p0 := glX9_rf p0n
  have hgn_p0 : glX9 p0n (o.2.2) := (mo_fX9_add hrun)
  refine W.widen (k := (gcX9 p0n p0n)) (n := (3 * (gcX9 p0n p0n))) (Nat.zero_le _) (Nat.zero_le _) ?_
  unfold fX9_add at hrun
  refine lv_aload_n hx hb dX9_add_0 rfl (lv_at hl 0 rfl) ?_
  refine va_get (D := (dC, dI)) (ci := 3) (v := .int (p0w 0 0)) (C := RX9) (T := TX9) (N := 6) hx hb hts i_X9 hown hK hP 0 rfl rfl 0 (by decide) (hts _ qw38) (fun _ h9 => h9) rfl dX9_add_1 ?_
  refine lv_aload_n hx hb dX9_add_4 rfl (lv_at hl 0 rfl) ?_
  refine va_get (D := (dC, dI)) (ci := 3) (v := .ref (p0a 2)) (C := RX9) (T := TX9) (N := 6) hx hb hts i_X9 hown hK hP 0 rfl rfl 1 (by decide) (hts _ qw39) (fun _ h9 => h9) rfl dX9_add_5 ?_
  refine va_alen (v := (Int32.ofNat (p0n 2))) hx hb hK hP 1 0 rfl rfl rfl dX9_add_8 ?_
  have J92 : ∀ (p0w_92 : ST) (p0n_92 : Nat → Nat) (xp0_1_92 : Nat) (zp0_1_92 : ClassId) (xp0_2_92 : Nat) (zp0_2_92 : ClassId) (xp0_3_92 : Nat) (zp0_3_92 : ClassId) (xp0_4_92 : Nat) (zp0_4_92 : ClassId) (xp0_5_92 : Nat) (zp0_5_92 : ClassId) (H : Heap) (locs : List Loc) (ls : Array Slot), (fX9_add_J92 p1 p2 p3 p4 p0w_92 p0n_92) = some o → va_P (dC, dI) cls (oX9 (p0a 0) (st1 (st1 (st1 (st1 (st1 p0a 2 xp0_1_92) 3 xp0_2_92) 4 xp0_3_92) 5 xp0_4_92) 6 xp0_5_92) (st1 (st1 (st1 (st1 (st1 p0k 2 zp0_1_92) 3 zp0_2_92) 4 zp0_3_92) 5 zp0_4_92) 6 zp0_5_92) p0n_92 p0w_92) H → va_D A (oX9 (p0a 0) (st1 (st1 (st1 (st1 (st1 p0a 2 xp0_1_92) 3 xp0_2_92) 4 xp0_3_92) 5 xp0_4_92) 6 xp0_5_92) (st1 (st1 (st1 (st1 (st1 p0k 2 zp0_1_92) 3 zp0_2_92) 4 zp0_3_92) 5 zp0_4_92) 6 zp0_5_92) p0n_92 p0w_92) → va_K (dC, dI) cls (tX9 (st1 (st1 (st1 (st1 (st1 p0k 2 zp0_1_92) 3 zp0_2_92) 4 zp0_3_92) 5 zp0_4_92) 6 zp0_5_92)) s → va_S A s.heap H locs → lv_has ls 6 [(0, .ref (p0a 0)), (1, .int p1), (2, .int p2), (3, .int p3), (4, .int p4)] → glX9 p0n p0n_92 → W p l e ({ frames := 2, cells := (gcX9 p0n (o.2.2)), slots := (3 * (gcX9 p0n (o.2.2))), locals := 62 } : Room) s m ([.ref (p0a 0), .int p1, .int p2, .int p3, .int p4] : List Value).toArray below meth c H locs (gcX9 p0n p0n_92) (3 * (gcX9 p0n p0n_92)) Q (F0 m 92 ls []) := by
    intro p0w_92 p0n_92 xp0_1_92 zp0_1_92 xp0_2_92 zp0_2_92 xp0_3_92 zp0_3_92 xp0_4_92 zp0_4_92 xp0_5_92 zp0_5_92 H locs ls hrun hP hD hK hS hl hg_p0 
    have hgn_p0 : glX9 p0n_92 (o.2.2) := (mo_fX9_add_J92 hrun)
    unfold fX9_add_J92 at hrun
    refine lv_aload_n hx hb dX9_add_92 rfl (lv_at hl 0 rfl) ?_
    refine va_get (D := (dC, dI)) (ci := 3) (v := .ref xp0_1_92) (C := RX9) (T := TX9) (N := 6) hx hb hts i_X9 hown hK hP 0 rfl rfl 1 (by decide) (hts _ qw39) (fun _ h9 => h9) rfl dX9_add_93 ?_
    refine lv_aload_n hx hb dX9_add_96 rfl (lv_at hl 0 rfl) ?_
    refine va_get (D := (dC, dI)) (ci := 3) (v := .int (p0w_92 0 0)) (C := RX9) (T := TX9) (N := 6) hx hb hts i_X9 hown hK hP 0 rfl rfl 0 (by decide) (hts _ qw38) (fun _ h9 => h9) rfl dX9_add_97 ?_
    refine lv_iload_n hx hb dX9_add_100 rfl (lv_at hl 1 rfl) ?_
    obtain ⟨hq1, hrun⟩ := chk9 hrun
    refine va_iast hx hb hK hP hD hS 1 0 rfl rfl (ixb_in hq1) dX9_add_101 (fun H locs hP hD hS => ?_)
    have hP : va_P (dC, dI) cls (oX9 (p0a 0) (st1 (st1 (st1 (st1 (st1 p0a 2 xp0_1_92) 3 xp0_2_92) 4 xp0_3_92) 5 xp0_4_92) 6 xp0_5_92) (st1 (st1 (st1 (st1 (st1 p0k 2 zp0_1_92) 3 zp0_2_92) 4 zp0_3_92) 5 zp0_4_92) 6 zp0_5_92) p0n_92 (upw p0w_92 2 (nn (p0w_92 0 0)) p1)) H := hP
    have hD : va_D A (oX9 (p0a 0) (st1 (st1 (st1 (st1 (st1 p0a 2 xp0_1_92) 3 xp0_2_92) 4 xp0_3_92) 5 xp0_4_92) 6 xp0_5_92) (st1 (st1 (st1 (st1 (st1 p0k 2 zp0_1_92) 3 zp0_2_92) 4 zp0_3_92) 5 zp0_4_92) 6 zp0_5_92) p0n_92 (upw p0w_92 2 (nn (p0w_92 0 0)) p1)) := hD
    obtain ⟨w2, ew2, hrun⟩ := let9 hrun
    rw [← ew2] at hP hD
    refine lv_aload_n hx hb dX9_add_102 rfl (lv_at hl 0 rfl) ?_
    refine va_get (D := (dC, dI)) (ci := 3) (v := .ref xp0_2_92) (C := RX9) (T := TX9) (N := 6) hx hb hts i_X9 hown hK hP 0 rfl rfl 2 (by decide) (hts _ qw40) (fun _ h9 => h9) rfl dX9_add_103 ?_
    refine lv_aload_n hx hb dX9_add_106 rfl (lv_at hl 0 rfl) ?_
    refine va_get (D := (dC, dI)) (ci := 3) (v := .int (w2 0 0)) (C := RX9) (T := TX9) (N := 6) hx hb hts i_X9 hown hK hP 0 rfl rfl 0 (by decide) (hts _ qw38) (fun _ h9 => h9) rfl dX9_add_107 ?_
    refine lv_iload_n hx hb dX9_add_110 rfl (lv_at hl 2 rfl) ?_
    obtain ⟨hq3, hrun⟩ := chk9 hrun
    refine va_iast hx hb hK hP hD hS 2 1 rfl rfl (ixb_in hq3) dX9_add_111 (fun H locs hP hD hS => ?_)
    have hP : va_P (dC, dI) cls (oX9 (p0a 0) (st1 (st1 (st1 (st1 (st1 p0a 2 xp0_1_92) 3 xp0_2_92) 4 xp0_3_92) 5 xp0_4_92) 6 xp0_5_92) (st1 (st1 (st1 (st1 (st1 p0k 2 zp0_1_92) 3 zp0_2_92) 4 zp0_3_92) 5 zp0_4_92) 6 zp0_5_92) p0n_92 (upw w2 3 (nn (w2 0 0)) p2)) H := hP
    have hD : va_D A (oX9 (p0a 0) (st1 (st1 (st1 (st1 (st1 p0a 2 xp0_1_92) 3 xp0_2_92) 4 xp0_3_92) 5 xp0_4_92) 6 xp0_5_92) (st1 (st1 (st1 (st1 (st1 p0k 2 zp0_1_92) 3 zp0_2_92) 4 zp0_3_92) 5 zp0_4_92) 6 zp0_5_92) p0n_92 (upw w2 3 (nn (w2 0 0)) p2)) := hD
    obtain ⟨w4, ew4, hrun⟩ := let9 hrun
    rw [← ew4] at hP hD
    refine lv_aload_n hx hb dX9_add_112 rfl (lv_at hl 0 rfl) ?_
    refine va_get (D := (dC, dI)) (ci := 3) (v := .ref xp0_3_92) (C := RX9) (T := TX9) (N := 6) hx hb hts i_X9 hown hK hP 0 rfl rfl 3 (by decide) (hts _ qw41) (fun _ h9 => h9) rfl dX9_add_113 ?_
    refine lv_aload_n hx hb dX9_add_116 rfl (lv_at hl 0 rfl) ?_
    refine va_get (D := (dC, dI)) (ci := 3) (v := .int (w4 0 0)) (C := RX9) (T := TX9) (N := 6) hx hb hts i_X9 hown hK hP 0 rfl rfl 0 (by decide) (hts _ qw38) (fun _ h9 => h9) rfl dX9_add_117 ?_
    refine lv_iload_n hx hb dX9_add_120 rfl (lv_at hl 3 rfl) ?_
    obtain ⟨hq5, hrun⟩ := chk9 hrun
    refine va_iast hx hb hK hP hD hS 3 2 rfl rfl (ixb_in hq5) dX9_add_121 (fun H locs hP hD hS => ?_)
    have hP : va_P (dC, dI) cls (oX9 (p0a 0) (st1 (st1 (st1 (st1 (st1 p0a 2 xp0_1_92) 3 xp0_2_92) 4 xp0_3_92) 5 xp0_4_92) 6 xp0_5_92) (st1 (st1 (st1 (st1 (st1 p0k 2 zp0_1_92) 3 zp0_2_92) 4 zp0_3_92) 5 zp0_4_92) 6 zp0_5_92) p0n_92 (upw w4 4 (nn (w4 0 0)) p3)) H := hP
    have hD : va_D A (oX9 (p0a 0) (st1 (st1 (st1 (st1 (st1 p0a 2 xp0_1_92) 3 xp0_2_92) 4 xp0_3_92) 5 xp0_4_92) 6 xp0_5_92) (st1 (st1 (st1 (st1 (st1 p0k 2 zp0_1_92) 3 zp0_2_92) 4 zp0_3_92) 5 zp0_4_92) 6 zp0_5_92) p0n_92 (upw w4 4 (nn (w4 0 0)) p3)) := hD
    obtain ⟨w6, ew6, hrun⟩ := let9 hrun
    rw [← ew6] at hP hD
    refine lv_aload_n hx hb dX9_add_122 rfl (lv_at hl 0 rfl) ?_
    refine va_get (D := (dC, dI)) (ci := 3) (v := .ref xp0_4_92) (C := RX9) (T := TX9) (N := 6) hx hb hts i_X9 hown hK hP 0 rfl rfl 4 (by decide) (hts _ qw42) (fun _ h9 => h9) rfl dX9_add_123 ?_
    refine lv_aload_n hx hb dX9_add_126 rfl (lv_at hl 0 rfl) ?_
    refine va_get (D := (dC, dI)) (ci := 3) (v := .int (w6 0 0)) (C := RX9) (T := TX9) (N := 6) hx hb hts i_X9 hown hK hP 0 rfl rfl 0 (by decide) (hts _ qw38) (fun _ h9 => h9) rfl dX9_add_127 ?_
    refine lv_iload hx hb dX9_add_130 (lv_at hl 4 rfl) ?_
    obtain ⟨hq7, hrun⟩ := chk9 hrun
    refine va_iast hx hb hK hP hD hS 4 3 rfl rfl (ixb_in hq7) dX9_add_132 (fun H locs hP hD hS => ?_)
    have hP : va_P (dC, dI) cls (oX9 (p0a 0) (st1 (st1 (st1 (st1 (st1 p0a 2 xp0_1_92) 3 xp0_2_92) 4 xp0_3_92) 5 xp0_4_92) 6 xp0_5_92) (st1 (st1 (st1 (st1 (st1 p0k 2 zp0_1_92) 3 zp0_2_92) 4 zp0_3_92) 5 zp0_4_92) 6 zp0_5_92) p0n_92 (upw w6 5 (nn (w6 0 0)) p4)) H := hP
    have hD : va_D A (oX9 (p0a 0) (st1 (st1 (st1 (st1 (st1 p0a 2 xp0_1_92) 3 xp0_2_92) 4 xp0_3_92) 5 xp0_4_92) 6 xp0_5_92) (st1 (st1 (st1 (st1 (st1 p0k 2 zp0_1_92) 3 zp0_2_92) 4 zp0_3_92) 5 zp0_4_92) 6 zp0_5_92) p0n_92 (upw w6 5 (nn (w6 0 0)) p4)) := hD
    obtain ⟨w8, ew8, hrun⟩ := let9 hrun
    rw [← ew8] at hP hD
    refine lv_aload_n hx hb dX9_add_133 rfl (lv_at hl 0 rfl) ?_
    refine va_get (D := (dC, dI)) (ci := 3) (v := .ref xp0_5_92) (C := RX9) (T := TX9) (N := 6) hx hb hts i_X9 hown hK hP 0 rfl rfl 5 (by decide) (hts _ qw43) (fun _ h9 => h9) rfl dX9_add_134 ?_
    refine lv_aload_n hx hb dX9_add_137 rfl (lv_at hl 0 rfl) ?_
    refine va_get (D := (dC, dI)) (ci := 3) (v := .int (w8 0 0)) (C := RX9) (T := TX9) (N := 6) hx hb hts i_X9 hown hK hP 0 rfl rfl 0 (by decide) (hts _ qw38) (fun _ h9 => h9) rfl dX9_add_138 ?_
    refine lv_iconst (v := (-1)) hx hb dX9_add_141 (by decide) ?_
    obtain ⟨hq9, hrun⟩ := chk9 hrun
    refine va_iast hx hb hK hP hD hS 5 4 rfl rfl (ixb_in hq9) dX9_add_142 (fun H locs hP hD hS => ?_)
    have hP : va_P (dC, dI) cls (oX9 (p0a 0) (st1 (st1 (st1 (st1 (st1 p0a 2 xp0_1_92) 3 xp0_2_92) 4 xp0_3_92) 5 xp0_4_92) 6 xp0_5_92) (st1 (st1 (st1 (st1 (st1 p0k 2 zp0_1_92) 3 zp0_2_92) 4 zp0_3_92) 5 zp0_4_92) 6 zp0_5_92) p0n_92 (upw w8 6 (nn (w8 0 0)) (-1))) H := hP
    have hD : va_D A (oX9 (p0a 0) (st1 (st1 (st1 (st1 (st1 p0a 2 xp0_1_92) 3 xp0_2_92) 4 xp0_3_92) 5 xp0_4_92) 6 xp0_5_92) (st1 (st1 (st1 (st1 (st1 p0k 2 zp0_1_92) 3 zp0_2_92) 4 zp0_3_92) 5 zp0_4_92) 6 zp0_5_92) p0n_92 (upw w8 6 (nn (w8 0 0)) (-1))) := hD
    obtain ⟨w10, ew10, hrun⟩ := let9 hrun
    rw [← ew10] at hP hD
    refine lv_aload_n hx hb dX9_add_143 rfl (lv_at hl 0 rfl) ?_
    refine lv_dup hx hb dX9_add_144 rfl ?_
    refine va_get (D := (dC, dI)) (ci := 3) (v := .int (w10 0 0)) (C := RX9) (T := TX9) (N := 6) hx hb hts i_X9 hown hK hP 0 rfl rfl 0 (by decide) (hts _ qw38) (fun _ h9 => h9) rfl dX9_add_145 ?_
    refine lv_iconst (v := 1) hx hb dX9_add_148 (by decide) ?_
    refine lv_iadd hx hb dX9_add_149 ?_
    refine va_put (D := (dC, dI)) (ci := 3) (v := .int ((w10 0 0) + 1)) (ty := .int) (C := RX9) (T := TX9) (N := 6) hx hb hts i_X9 tyX9 tyX9_ok nmX9 hown hK hP hD hS 0 rfl rfl 0 (by decide) (hts _ qw38) (fun _ h9 => h9) rfl (by decide +kernel) rfl rfl (Nat.le_of_ble_eq_true rfl) dX9_add_150 (fun H locs hP hD hS => ?_)
    have hP : va_P (dC, dI) cls (oX9 (p0a 0) (st1 (st1 (st1 (st1 (st1 p0a 2 xp0_1_92) 3 xp0_2_92) 4 xp0_3_92) 5 xp0_4_92) 6 xp0_5_92) (st1 (st1 (st1 (st1 (st1 p0k 2 zp0_1_92) 3 zp0_2_92) 4 zp0_3_92) 5 zp0_4_92) 6 zp0_5_92) p0n_92 (upw w10 0 0 ((w10 0 0) + 1))) H := hP
    have hD : va_D A (oX9 (p0a 0) (st1 (st1 (st1 (st1 (st1 p0a 2 xp0_1_92) 3 xp0_2_92) 4 xp0_3_92) 5 xp0_4_92) 6 xp0_5_92) (st1 (st1 (st1 (st1 (st1 p0k 2 zp0_1_92) 3 zp0_2_92) 4 zp0_3_92) 5 zp0_4_92) 6 zp0_5_92) p0n_92 (upw w10 0 0 ((w10 0 0) + 1))) := hD
    obtain ⟨w11, ew11, hrun⟩ := let9 hrun
    rw [← ew11] at hP hD
    refine lv_aload_n hx hb dX9_add_153 rfl (lv_at hl 0 rfl) ?_
    refine va_get (D := (dC, dI)) (ci := 3) (v := .int (w11 0 0)) (C := RX9) (T := TX9) (N := 6) hx hb hts i_X9 hown hK hP 0 rfl rfl 0 (by decide) (hts _ qw38) (fun _ h9 => h9) rfl dX9_add_154 ?_
    refine lv_iconst (v := 1) hx hb dX9_add_157 (by decide) ?_
    refine lv_isub hx hb dX9_add_158 ?_
    have ho9 : (((w11 0 0) - 1), w11, p0n_92) = o := Option.some.inj hrun
    subst ho9
    subst hQ
    exact W.iret (v := ((w11 0 0) - 1)) hx hb hr (fun t ht hW => ⟨⟨((w11 0 0) - 1), (), rfl, rfl, ⟨xp0_1_92, zp0_1_92, xp0_2_92, zp0_2_92, xp0_3_92, zp0_3_92, xp0_4_92, zp0_4_92, xp0_5_92, zp0_5_92, by rw [ht]; exact hP, va_K.moved hW.alike hK, hD⟩⟩, hS.F ht⟩) hS.2.2 dX9_add_159
  rcases br9 hrun with ⟨hc12, hrun⟩ | ⟨hc12, hrun⟩
  · refine lv_icmp_lt (tgt := 92) hx hb dX9_add_9 (by decide) (fun _ => ?_) (fun c => absurd hc12 c)
    exact J92 p0w p0n (p0a 2) (p0k 2) (p0a 3) (p0k 3) (p0a 4) (p0k 4) (p0a 5) (p0k 5) (p0a 6) (p0k 6) _ _ _ hrun hP hD hK hS (lv_sub hl [0, 1, 2, 3, 4] rfl) hg_p0
  · refine lv_icmp_lt (tgt := 92) hx hb dX9_add_9 (by decide) (fun c => absurd c hc12) (fun _ => ?_)
    refine lv_aload_n hx hb dX9_add_12 rfl (lv_at hl 0 rfl) ?_
    refine va_get (D := (dC, dI)) (ci := 3) (v := .int (p0w 0 0)) (C := RX9) (T := TX9) (N := 6) hx hb hts i_X9 hown hK hP 0 rfl rfl 0 (by decide) (hts _ qw38) (fun _ h9 => h9) rfl dX9_add_13 ?_
    refine lv_aload_n hx hb dX9_add_16 rfl (lv_at hl 0 rfl) ?_
    refine va_get (D := (dC, dI)) (ci := 3) (v := .int (p0w 0 0)) (C := RX9) (T := TX9) (N := 6) hx hb hts i_X9 hown hK hP 0 rfl rfl 0 (by decide) (hts _ qw38) (fun _ h9 => h9) rfl dX9_add_17 ?_
    refine lv_iconst (v := 2) hx hb dX9_add_20 (by decide) ?_
    refine lv_idiv hx hb dX9_add_21 (by decide) ?_
    refine lv_iadd hx hb dX9_add_22 ?_
    refine lv_iconst (v := 1) hx hb dX9_add_23 (by decide) ?_
    refine lv_iadd hx hb dX9_add_24 ?_
    refine lv_istore (lv' := [(5, .int (((p0w 0 0) + ((p0w 0 0) / 2)) + 1)), (0, .ref (p0a 0)), (1, .int p1), (2, .int p2), (3, .int p3), (4, .int p4)]) hx hb dX9_add_25 hl (by decide) rfl (fun ls hl => ?_)
    refine lv_aload_n hx hb dX9_add_27 rfl (lv_at hl 1 rfl) ?_
    refine lv_aload_n hx hb dX9_add_28 rfl (lv_at hl 1 rfl) ?_
    refine va_get (D := (dC, dI)) (ci := 3) (v := .ref (p0a 2)) (C := RX9) (T := TX9) (N := 6) hx hb hts i_X9 hown hK hP 0 rfl rfl 1 (by decide) (hts _ qw39) (fun _ h9 => h9) rfl dX9_add_29 ?_
    refine lv_iload hx hb dX9_add_32 (lv_at hl 0 rfl) ?_
    obtain ⟨o_13, hc_13, hrun⟩ := bnd9 hrun
    obtain ⟨hq14, hrun⟩ := chk9 hrun
    have hlo_13 := ln_fJ7_copyOf_59c91 hc_13
    obtain ⟨n15, en15, hrun⟩ := let9 hrun
    obtain ⟨w16, ew16, hrun⟩ := let9 hrun
    have hst18 : glX9 p0n n15 := by rw [en15]; exact glX9_2 (grs_le hq14)
    have hgn_p0 : glX9 n15 (o.2.2) := (mo_fX9_add_G40_19 hrun)
    have hPc := hP.sub (ws' := [((p0a 2), .inl ((p0k 2), (p0n 2), .inl (p0w 2)))]) [1] rfl
    have hDc := hD.sub (ws' := [((p0a 2), .inl ((p0k 2), (p0n 2), .inl (p0w 2)))]) [1] (by decide +kernel) rfl
    have hKc := hK.sub (tys' := [((p0k 2), .int)]) [0] rfl
    have hFc := va_free (wc := [((p0a 2), .inl ((p0k 2), (p0n 2), .inl (p0w 2)))]) hD hS hA [1] rfl
    refine va_callr (va_runS (As := [.ref (p0a 2), .int (((p0w 0 0) + ((p0w 0 0) / 2)) + 1)]) (rest := [.ref (p0a 0)]) ⟨hx, hb, hml, hown, hts⟩ (kJ7_copyOf_59c91 l dC dI (p0a := (p0a 2)) (p0k := (p0k 2)) (p0n := (p0n 2)) (p0f := (p0w 2)) (p1 := (((p0w 0 0) + ((p0w 0 0) / 2)) + 1)) (sz := _) (o := o_13) (hrun := hc_13)) (va_cwS 2 hts (gi_S qw54 qw55 qw4 (gi_z qw53)) rfl rfl rfl (by decide +kernel) ⟨Nat.le_of_ble_eq_true rfl, Nat.le_of_ble_eq_true rfl⟩) ⟨PRE.blind, PRE.of hE hS hFc hPc hKc hDc⟩ rfl rfl hl.1 rfl (lv_room (Nat.le_of_ble_eq_true rfl)) dX9_add_34 ⟨(show (gcX9 p0n p0n) + 1 ≤ (gcX9 p0n (o.2.2)) from by have q0 := gsX9 hg_p0 hst18 hgn_p0; have q5 := gcX9_2 (n := p0n) (grs_le hq14); rw [← en15] at q5; have q6 := grs_1 hq14; have q7 := grs_2 hq14; have q8 := hlo_13; omega), (show (3 * (gcX9 p0n p0n)) + (nn (((p0w 0 0) + ((p0w 0 0) / 2)) + 1)) ≤ (3 * (gcX9 p0n (o.2.2))) from by have q0 := gsX9 hg_p0 hst18 hgn_p0; have q5 := gcX9_2 (n := p0n) (grs_le hq14); rw [← en15] at q5; have q6 := grs_1 hq14; have q7 := grs_2 hq14; have q8 := hlo_13; omega)⟩) hS (fun q _ h => hFc q h) hFc (fun u ra18 t H locs ht hvm hw hB hz1 hk1 hS => ?_)
    obtain ⟨z17, hB⟩ := hB
    obtain ⟨hP, hD, hK⟩ := JOIN (wr := [((p0a 0), .inr (3, [.int (p0w 0 0), .ref (p0a 2), .ref (p0a 3), .ref (p0a 4), .ref (p0a 5), .ref (p0a 6)])), ((p0a 3), .inl ((p0k 3), (p0n 3), .inl (p0w 3))), ((p0a 4), .inl ((p0k 4), (p0n 4), .inl (p0w 4))), ((p0a 5), .inl ((p0k 5), (p0n 5), .inl (p0w 5))), ((p0a 6), .inl ((p0k 6), (p0n 6), .inl (p0w 6)))]) hP hD hK [1] [0, 2, 3, 4, 5] [1, 2, 3, 4] rfl rfl (by decide +kernel) (by decide +kernel) rfl hk1 hFc ht hvm hB
    refine va_put (D := (dC, dI)) (ci := 3) (v := .ref ra18) (ty := .array .int) (C := RX9) (T := TX9) (N := 6) hx hb hts i_X9 tyX9 tyX9_ok nmX9 hown hK hP hD hS 0 rfl rfl 1 (by decide) (hts _ qw39) (fun _ h9 => h9) rfl (by decide +kernel) rfl rfl (Nat.le_of_ble_eq_true rfl) dX9_add_37 (fun H locs hP hD hS => ?_)
    have hP : va_P (dC, dI) cls (oX9 (p0a 0) (st1 p0a 2 ra18) (st1 p0k 2 z17) n15 w16) H := by rw [en15, ew16]; exact hP.sub [0, 5, 1, 2, 3, 4] rfl
    have hD : va_D A (oX9 (p0a 0) (st1 p0a 2 ra18) (st1 p0k 2 z17) n15 w16) := by rw [en15, ew16]; exact hD.sub [0, 5, 1, 2, 3, 4] (by decide +kernel) rfl
    have hK : va_K (dC, dI) cls (tX9 (st1 p0k 2 z17)) s := hK.sub [4, 0, 1, 2, 3] rfl
    refine W.widen (k := (gcX9 p0n n15)) (n := (3 * (gcX9 p0n n15))) (by have a0 := gcX9_add hg_p0 hst18; have q5 := gcX9_2 (n := p0n) (grs_le hq14); rw [← en15] at q5; have q6 := grs_1 hq14; have q7 := grs_2 hq14; have q8 := hlo_13; omega) (by have a0 := gcX9_add hg_p0 hst18; have q5 := gcX9_2 (n := p0n) (grs_le hq14); rw [← en15] at q5; have q6 := grs_1 hq14; have q7 := grs_2 hq14; have q8 := hlo_13; omega) ?_
    have hg_p0 : glX9 p0n n15 := glX9_tr hg_p0 hst18
    unfold fX9_add_G40_19 at hrun
    refine lv_aload_n hx hb dX9_add_40 rfl (lv_at hl 1 rfl) ?_
    refine lv_aload_n hx hb dX9_add_41 rfl (lv_at hl 1 rfl) ?_
    refine va_get (D := (dC, dI)) (ci := 3) (v := .ref (p0a 3)) (C := RX9) (T := TX9) (N := 6) hx hb hts i_X9 hown hK hP 0 rfl rfl 2 (by decide) (hts _ qw40) (fun _ h9 => h9) rfl dX9_add_42 ?_
    refine lv_iload hx hb dX9_add_45 (lv_at hl 0 rfl) ?_
    obtain ⟨o_20, hc_20, hrun⟩ := bnd9 hrun
    obtain ⟨hq21, hrun⟩ := chk9 hrun
    have hlo_20 := ln_fJ7_copyOf_59c91 hc_20
    obtain ⟨n22, en22, hrun⟩ := let9 hrun
    obtain ⟨w23, ew23, hrun⟩ := let9 hrun
    have hst25 : glX9 n15 n22 := by rw [en22]; exact glX9_3 (grs_le hq21)
    have hgn_p0 : glX9 n22 (o.2.2) := (mo_fX9_add_G53_26 hrun)
    have hPc := hP.sub (ws' := [((p0a 3), .inl ((p0k 3), (n15 3), .inl (w16 3)))]) [2] rfl
    have hDc := hD.sub (ws' := [((p0a 3), .inl ((p0k 3), (n15 3), .inl (w16 3)))]) [2] (by decide +kernel) rfl
    have hKc := hK.sub (tys' := [((p0k 3), .int)]) [1] rfl
    have hFc := va_free (wc := [((p0a 3), .inl ((p0k 3), (n15 3), .inl (w16 3)))]) hD hS hA [2] rfl
    refine va_callr (va_runS (As := [.ref (p0a 3), .int (((p0w 0 0) + ((p0w 0 0) / 2)) + 1)]) (rest := [.ref (p0a 0)]) ⟨hx, hb, hml, hown, hts⟩ (kJ7_copyOf_59c91 l dC dI (p0a := (p0a 3)) (p0k := (p0k 3)) (p0n := (n15 3)) (p0f := (w16 3)) (p1 := (((p0w 0 0) + ((p0w 0 0) / 2)) + 1)) (sz := _) (o := o_20) (hrun := hc_20)) (va_cwS 2 hts (gi_S qw54 qw55 qw4 (gi_z qw53)) rfl rfl rfl (by decide +kernel) ⟨Nat.le_of_ble_eq_true rfl, Nat.le_of_ble_eq_true rfl⟩) ⟨PRE.blind, PRE.of hE hS hFc hPc hKc hDc⟩ rfl rfl hl.1 rfl (lv_room (Nat.le_of_ble_eq_true rfl)) dX9_add_47 ⟨(show (gcX9 p0n n15) + 1 ≤ (gcX9 p0n (o.2.2)) from by have q0 := gsX9 hg_p0 hst25 hgn_p0; have q5 := gcX9_3 (n := n15) (grs_le hq21); rw [← en22] at q5; have q6 := grs_1 hq21; have q7 := grs_2 hq21; have q8 := hlo_20; omega), (show (3 * (gcX9 p0n n15)) + (nn (((p0w 0 0) + ((p0w 0 0) / 2)) + 1)) ≤ (3 * (gcX9 p0n (o.2.2))) from by have q0 := gsX9 hg_p0 hst25 hgn_p0; have q5 := gcX9_3 (n := n15) (grs_le hq21); rw [← en22] at q5; have q6 := grs_1 hq21; have q7 := grs_2 hq21; have q8 := hlo_20; omega)⟩) hS (fun q _ h => hFc q h) hFc (fun u ra25 t H locs ht hvm hw hB hz1 hk1 hS => ?_)
    obtain ⟨z24, hB⟩ := hB
    obtain ⟨hP, hD, hK⟩ := JOIN (wr := [((p0a 0), .inr (3, [.int (w16 0 0), .ref ra18, .ref (p0a 3), .ref (p0a 4), .ref (p0a 5), .ref (p0a 6)])), (ra18, .inl (z17, (n15 2), .inl (w16 2))), ((p0a 4), .inl ((p0k 4), (n15 4), .inl (w16 4))), ((p0a 5), .inl ((p0k 5), (n15 5), .inl (w16 5))), ((p0a 6), .inl ((p0k 6), (n15 6), .inl (w16 6)))]) hP hD hK [2] [0, 1, 3, 4, 5] [0, 2, 3, 4] rfl rfl (by decide +kernel) (by decide +kernel) rfl hk1 hFc ht hvm hB
    refine va_put (D := (dC, dI)) (ci := 3) (v := .ref ra25) (ty := .array .int) (C := RX9) (T := TX9) (N := 6) hx hb hts i_X9 tyX9 tyX9_ok nmX9 hown hK hP hD hS 0 rfl rfl 2 (by decide) (hts _ qw40) (fun _ h9 => h9) rfl (by decide +kernel) rfl rfl (Nat.le_of_ble_eq_true rfl) dX9_add_50 (fun H locs hP hD hS => ?_)
    have hP : va_P (dC, dI) cls (oX9 (p0a 0) (st1 (st1 p0a 2 ra18) 3 ra25) (st1 (st1 p0k 2 z17) 3 z24) n22 w23) H := by rw [en22, ew23]; exact hP.sub [0, 1, 5, 2, 3, 4] rfl
    have hD : va_D A (oX9 (p0a 0) (st1 (st1 p0a 2 ra18) 3 ra25) (st1 (st1 p0k 2 z17) 3 z24) n22 w23) := by rw [en22, ew23]; exact hD.sub [0, 1, 5, 2, 3, 4] (by decide +kernel) rfl
    have hK : va_K (dC, dI) cls (tX9 (st1 (st1 p0k 2 z17) 3 z24)) s := hK.sub [0, 4, 1, 2, 3] rfl
    refine W.widen (k := (gcX9 p0n n22)) (n := (3 * (gcX9 p0n n22))) (by have a0 := gcX9_add hg_p0 hst25; have q5 := gcX9_3 (n := n15) (grs_le hq21); rw [← en22] at q5; have q6 := grs_1 hq21; have q7 := grs_2 hq21; have q8 := hlo_20; omega) (by have a0 := gcX9_add hg_p0 hst25; have q5 := gcX9_3 (n := n15) (grs_le hq21); rw [← en22] at q5; have q6 := grs_1 hq21; have q7 := grs_2 hq21; have q8 := hlo_20; omega) ?_
    have hg_p0 : glX9 p0n n22 := glX9_tr hg_p0 hst25
    unfold fX9_add_G53_26 at hrun
    refine lv_aload_n hx hb dX9_add_53 rfl (lv_at hl 1 rfl) ?_
    refine lv_aload_n hx hb dX9_add_54 rfl (lv_at hl 1 rfl) ?_
    refine va_get (D := (dC, dI)) (ci := 3) (v := .ref (p0a 4)) (C := RX9) (T := TX9) (N := 6) hx hb hts i_X9 hown hK hP 0 rfl rfl 3 (by decide) (hts _ qw41) (fun _ h9 => h9) rfl dX9_add_55 ?_
    refine lv_iload hx hb dX9_add_58 (lv_at hl 0 rfl) ?_
    obtain ⟨o_27, hc_27, hrun⟩ := bnd9 hrun
    obtain ⟨hq28, hrun⟩ := chk9 hrun
    have hlo_27 := ln_fJ7_copyOf_59c91 hc_27
    obtain ⟨n29, en29, hrun⟩ := let9 hrun
    obtain ⟨w30, ew30, hrun⟩ := let9 hrun
    have hst32 : glX9 n22 n29 := by rw [en29]; exact glX9_4 (grs_le hq28)
    have hgn_p0 : glX9 n29 (o.2.2) := (mo_fX9_add_G66_33 hrun)
    have hPc := hP.sub (ws' := [((p0a 4), .inl ((p0k 4), (n22 4), .inl (w23 4)))]) [3] rfl
    have hDc := hD.sub (ws' := [((p0a 4), .inl ((p0k 4), (n22 4), .inl (w23 4)))]) [3] (by decide +kernel) rfl
    have hKc := hK.sub (tys' := [((p0k 4), .int)]) [2] rfl
    have hFc := va_free (wc := [((p0a 4), .inl ((p0k 4), (n22 4), .inl (w23 4)))]) hD hS hA [3] rfl
    refine va_callr (va_runS (As := [.ref (p0a 4), .int (((p0w 0 0) + ((p0w 0 0) / 2)) + 1)]) (rest := [.ref (p0a 0)]) ⟨hx, hb, hml, hown, hts⟩ (kJ7_copyOf_59c91 l dC dI (p0a := (p0a 4)) (p0k := (p0k 4)) (p0n := (n22 4)) (p0f := (w23 4)) (p1 := (((p0w 0 0) + ((p0w 0 0) / 2)) + 1)) (sz := _) (o := o_27) (hrun := hc_27)) (va_cwS 2 hts (gi_S qw54 qw55 qw4 (gi_z qw53)) rfl rfl rfl (by decide +kernel) ⟨Nat.le_of_ble_eq_true rfl, Nat.le_of_ble_eq_true rfl⟩) ⟨PRE.blind, PRE.of hE hS hFc hPc hKc hDc⟩ rfl rfl hl.1 rfl (lv_room (Nat.le_of_ble_eq_true rfl)) dX9_add_60 ⟨(show (gcX9 p0n n22) + 1 ≤ (gcX9 p0n (o.2.2)) from by have q0 := gsX9 hg_p0 hst32 hgn_p0; have q5 := gcX9_4 (n := n22) (grs_le hq28); rw [← en29] at q5; have q6 := grs_1 hq28; have q7 := grs_2 hq28; have q8 := hlo_27; omega), (show (3 * (gcX9 p0n n22)) + (nn (((p0w 0 0) + ((p0w 0 0) / 2)) + 1)) ≤ (3 * (gcX9 p0n (o.2.2))) from by have q0 := gsX9 hg_p0 hst32 hgn_p0; have q5 := gcX9_4 (n := n22) (grs_le hq28); rw [← en29] at q5; have q6 := grs_1 hq28; have q7 := grs_2 hq28; have q8 := hlo_27; omega)⟩) hS (fun q _ h => hFc q h) hFc (fun u ra32 t H locs ht hvm hw hB hz1 hk1 hS => ?_)
    obtain ⟨z31, hB⟩ := hB
    obtain ⟨hP, hD, hK⟩ := JOIN (wr := [((p0a 0), .inr (3, [.int (w23 0 0), .ref ra18, .ref ra25, .ref (p0a 4), .ref (p0a 5), .ref (p0a 6)])), (ra18, .inl (z17, (n22 2), .inl (w23 2))), (ra25, .inl (z24, (n22 3), .inl (w23 3))), ((p0a 5), .inl ((p0k 5), (n22 5), .inl (w23 5))), ((p0a 6), .inl ((p0k 6), (n22 6), .inl (w23 6)))]) hP hD hK [3] [0, 1, 2, 4, 5] [0, 1, 3, 4] rfl rfl (by decide +kernel) (by decide +kernel) rfl hk1 hFc ht hvm hB
    refine va_put (D := (dC, dI)) (ci := 3) (v := .ref ra32) (ty := .array .int) (C := RX9) (T := TX9) (N := 6) hx hb hts i_X9 tyX9 tyX9_ok nmX9 hown hK hP hD hS 0 rfl rfl 3 (by decide) (hts _ qw41) (fun _ h9 => h9) rfl (by decide +kernel) rfl rfl (Nat.le_of_ble_eq_true rfl) dX9_add_63 (fun H locs hP hD hS => ?_)
    have hP : va_P (dC, dI) cls (oX9 (p0a 0) (st1 (st1 (st1 p0a 2 ra18) 3 ra25) 4 ra32) (st1 (st1 (st1 p0k 2 z17) 3 z24) 4 z31) n29 w30) H := by rw [en29, ew30]; exact hP.sub [0, 1, 2, 5, 3, 4] rfl
    have hD : va_D A (oX9 (p0a 0) (st1 (st1 (st1 p0a 2 ra18) 3 ra25) 4 ra32) (st1 (st1 (st1 p0k 2 z17) 3 z24) 4 z31) n29 w30) := by rw [en29, ew30]; exact hD.sub [0, 1, 2, 5, 3, 4] (by decide +kernel) rfl
    have hK : va_K (dC, dI) cls (tX9 (st1 (st1 (st1 p0k 2 z17) 3 z24) 4 z31)) s := hK.sub [0, 1, 4, 2, 3] rfl
    refine W.widen (k := (gcX9 p0n n29)) (n := (3 * (gcX9 p0n n29))) (by have a0 := gcX9_add hg_p0 hst32; have q5 := gcX9_4 (n := n22) (grs_le hq28); rw [← en29] at q5; have q6 := grs_1 hq28; have q7 := grs_2 hq28; have q8 := hlo_27; omega) (by have a0 := gcX9_add hg_p0 hst32; have q5 := gcX9_4 (n := n22) (grs_le hq28); rw [← en29] at q5; have q6 := grs_1 hq28; have q7 := grs_2 hq28; have q8 := hlo_27; omega) ?_
    have hg_p0 : glX9 p0n n29 := glX9_tr hg_p0 hst32
    unfold fX9_add_G66_33 at hrun
    refine lv_aload_n hx hb dX9_add_66 rfl (lv_at hl 1 rfl) ?_
    refine lv_aload_n hx hb dX9_add_67 rfl (lv_at hl 1 rfl) ?_
    refine va_get (D := (dC, dI)) (ci := 3) (v := .ref (p0a 5)) (C := RX9) (T := TX9) (N := 6) hx hb hts i_X9 hown hK hP 0 rfl rfl 4 (by decide) (hts _ qw42) (fun _ h9 => h9) rfl dX9_add_68 ?_
    refine lv_iload hx hb dX9_add_71 (lv_at hl 0 rfl) ?_
    obtain ⟨o_34, hc_34, hrun⟩ := bnd9 hrun
    obtain ⟨hq35, hrun⟩ := chk9 hrun
    have hlo_34 := ln_fJ7_copyOf_59c91 hc_34
    obtain ⟨n36, en36, hrun⟩ := let9 hrun
    obtain ⟨w37, ew37, hrun⟩ := let9 hrun
    have hst39 : glX9 n29 n36 := by rw [en36]; exact glX9_5 (grs_le hq35)
    have hgn_p0 : glX9 n36 (o.2.2) := (mo_fX9_add_G79_40 hrun)
    have hPc := hP.sub (ws' := [((p0a 5), .inl ((p0k 5), (n29 5), .inl (w30 5)))]) [4] rfl
    have hDc := hD.sub (ws' := [((p0a 5), .inl ((p0k 5), (n29 5), .inl (w30 5)))]) [4] (by decide +kernel) rfl
    have hKc := hK.sub (tys' := [((p0k 5), .int)]) [3] rfl
    have hFc := va_free (wc := [((p0a 5), .inl ((p0k 5), (n29 5), .inl (w30 5)))]) hD hS hA [4] rfl
    refine va_callr (va_runS (As := [.ref (p0a 5), .int (((p0w 0 0) + ((p0w 0 0) / 2)) + 1)]) (rest := [.ref (p0a 0)]) ⟨hx, hb, hml, hown, hts⟩ (kJ7_copyOf_59c91 l dC dI (p0a := (p0a 5)) (p0k := (p0k 5)) (p0n := (n29 5)) (p0f := (w30 5)) (p1 := (((p0w 0 0) + ((p0w 0 0) / 2)) + 1)) (sz := _) (o := o_34) (hrun := hc_34)) (va_cwS 2 hts (gi_S qw54 qw55 qw4 (gi_z qw53)) rfl rfl rfl (by decide +kernel) ⟨Nat.le_of_ble_eq_true rfl, Nat.le_of_ble_eq_true rfl⟩) ⟨PRE.blind, PRE.of hE hS hFc hPc hKc hDc⟩ rfl rfl hl.1 rfl (lv_room (Nat.le_of_ble_eq_true rfl)) dX9_add_73 ⟨(show (gcX9 p0n n29) + 1 ≤ (gcX9 p0n (o.2.2)) from by have q0 := gsX9 hg_p0 hst39 hgn_p0; have q5 := gcX9_5 (n := n29) (grs_le hq35); rw [← en36] at q5; have q6 := grs_1 hq35; have q7 := grs_2 hq35; have q8 := hlo_34; omega), (show (3 * (gcX9 p0n n29)) + (nn (((p0w 0 0) + ((p0w 0 0) / 2)) + 1)) ≤ (3 * (gcX9 p0n (o.2.2))) from by have q0 := gsX9 hg_p0 hst39 hgn_p0; have q5 := gcX9_5 (n := n29) (grs_le hq35); rw [← en36] at q5; have q6 := grs_1 hq35; have q7 := grs_2 hq35; have q8 := hlo_34; omega)⟩) hS (fun q _ h => hFc q h) hFc (fun u ra39 t H locs ht hvm hw hB hz1 hk1 hS => ?_)
    obtain ⟨z38, hB⟩ := hB
    obtain ⟨hP, hD, hK⟩ := JOIN (wr := [((p0a 0), .inr (3, [.int (w30 0 0), .ref ra18, .ref ra25, .ref ra32, .ref (p0a 5), .ref (p0a 6)])), (ra18, .inl (z17, (n29 2), .inl (w30 2))), (ra25, .inl (z24, (n29 3), .inl (w30 3))), (ra32, .inl (z31, (n29 4), .inl (w30 4))), ((p0a 6), .inl ((p0k 6), (n29 6), .inl (w30 6)))]) hP hD hK [4] [0, 1, 2, 3, 5] [0, 1, 2, 4] rfl rfl (by decide +kernel) (by decide +kernel) rfl hk1 hFc ht hvm hB
    refine va_put (D := (dC, dI)) (ci := 3) (v := .ref ra39) (ty := .array .int) (C := RX9) (T := TX9) (N := 6) hx hb hts i_X9 tyX9 tyX9_ok nmX9 hown hK hP hD hS 0 rfl rfl 4 (by decide) (hts _ qw42) (fun _ h9 => h9) rfl (by decide +kernel) rfl rfl (Nat.le_of_ble_eq_true rfl) dX9_add_76 (fun H locs hP hD hS => ?_)
    have hP : va_P (dC, dI) cls (oX9 (p0a 0) (st1 (st1 (st1 (st1 p0a 2 ra18) 3 ra25) 4 ra32) 5 ra39) (st1 (st1 (st1 (st1 p0k 2 z17) 3 z24) 4 z31) 5 z38) n36 w37) H := by rw [en36, ew37]; exact hP.sub [0, 1, 2, 3, 5, 4] rfl
    have hD : va_D A (oX9 (p0a 0) (st1 (st1 (st1 (st1 p0a 2 ra18) 3 ra25) 4 ra32) 5 ra39) (st1 (st1 (st1 (st1 p0k 2 z17) 3 z24) 4 z31) 5 z38) n36 w37) := by rw [en36, ew37]; exact hD.sub [0, 1, 2, 3, 5, 4] (by decide +kernel) rfl
    have hK : va_K (dC, dI) cls (tX9 (st1 (st1 (st1 (st1 p0k 2 z17) 3 z24) 4 z31) 5 z38)) s := hK.sub [0, 1, 2, 4, 3] rfl
    refine W.widen (k := (gcX9 p0n n36)) (n := (3 * (gcX9 p0n n36))) (by have a0 := gcX9_add hg_p0 hst39; have q5 := gcX9_5 (n := n29) (grs_le hq35); rw [← en36] at q5; have q6 := grs_1 hq35; have q7 := grs_2 hq35; have q8 := hlo_34; omega) (by have a0 := gcX9_add hg_p0 hst39; have q5 := gcX9_5 (n := n29) (grs_le hq35); rw [← en36] at q5; have q6 := grs_1 hq35; have q7 := grs_2 hq35; have q8 := hlo_34; omega) ?_
    have hg_p0 : glX9 p0n n36 := glX9_tr hg_p0 hst39
    unfold fX9_add_G79_40 at hrun
    refine lv_aload_n hx hb dX9_add_79 rfl (lv_at hl 1 rfl) ?_
    refine lv_aload_n hx hb dX9_add_80 rfl (lv_at hl 1 rfl) ?_
    refine va_get (D := (dC, dI)) (ci := 3) (v := .ref (p0a 6)) (C := RX9) (T := TX9) (N := 6) hx hb hts i_X9 hown hK hP 0 rfl rfl 5 (by decide) (hts _ qw43) (fun _ h9 => h9) rfl dX9_add_81 ?_
    refine lv_iload hx hb dX9_add_84 (lv_at hl 0 rfl) ?_
    obtain ⟨o_41, hc_41, hrun⟩ := bnd9 hrun
    obtain ⟨hq42, hrun⟩ := chk9 hrun
    have hlo_41 := ln_fJ7_copyOf_59c91 hc_41
    obtain ⟨n43, en43, hrun⟩ := let9 hrun
    obtain ⟨w44, ew44, hrun⟩ := let9 hrun
    have hst46 : glX9 n36 n43 := by rw [en43]; exact glX9_6 (grs_le hq42)
    have hgn_p0 : glX9 n43 (o.2.2) := (mo_fX9_add_G92_47 hrun)
    have hPc := hP.sub (ws' := [((p0a 6), .inl ((p0k 6), (n36 6), .inl (w37 6)))]) [5] rfl
    have hDc := hD.sub (ws' := [((p0a 6), .inl ((p0k 6), (n36 6), .inl (w37 6)))]) [5] (by decide +kernel) rfl
    have hKc := hK.sub (tys' := [((p0k 6), .int)]) [4] rfl
    have hFc := va_free (wc := [((p0a 6), .inl ((p0k 6), (n36 6), .inl (w37 6)))]) hD hS hA [5] rfl
    refine va_callr (va_runS (As := [.ref (p0a 6), .int (((p0w 0 0) + ((p0w 0 0) / 2)) + 1)]) (rest := [.ref (p0a 0)]) ⟨hx, hb, hml, hown, hts⟩ (kJ7_copyOf_59c91 l dC dI (p0a := (p0a 6)) (p0k := (p0k 6)) (p0n := (n36 6)) (p0f := (w37 6)) (p1 := (((p0w 0 0) + ((p0w 0 0) / 2)) + 1)) (sz := _) (o := o_41) (hrun := hc_41)) (va_cwS 2 hts (gi_S qw54 qw55 qw4 (gi_z qw53)) rfl rfl rfl (by decide +kernel) ⟨Nat.le_of_ble_eq_true rfl, Nat.le_of_ble_eq_true rfl⟩) ⟨PRE.blind, PRE.of hE hS hFc hPc hKc hDc⟩ rfl rfl hl.1 rfl (lv_room (Nat.le_of_ble_eq_true rfl)) dX9_add_86 ⟨(show (gcX9 p0n n36) + 1 ≤ (gcX9 p0n (o.2.2)) from by have q0 := gsX9 hg_p0 hst46 hgn_p0; have q5 := gcX9_6 (n := n36) (grs_le hq42); rw [← en43] at q5; have q6 := grs_1 hq42; have q7 := grs_2 hq42; have q8 := hlo_41; omega), (show (3 * (gcX9 p0n n36)) + (nn (((p0w 0 0) + ((p0w 0 0) / 2)) + 1)) ≤ (3 * (gcX9 p0n (o.2.2))) from by have q0 := gsX9 hg_p0 hst46 hgn_p0; have q5 := gcX9_6 (n := n36) (grs_le hq42); rw [← en43] at q5; have q6 := grs_1 hq42; have q7 := grs_2 hq42; have q8 := hlo_41; omega)⟩) hS (fun q _ h => hFc q h) hFc (fun u ra46 t H locs ht hvm hw hB hz1 hk1 hS => ?_)
    obtain ⟨z45, hB⟩ := hB
    obtain ⟨hP, hD, hK⟩ := JOIN (wr := [((p0a 0), .inr (3, [.int (w37 0 0), .ref ra18, .ref ra25, .ref ra32, .ref ra39, .ref (p0a 6)])), (ra18, .inl (z17, (n36 2), .inl (w37 2))), (ra25, .inl (z24, (n36 3), .inl (w37 3))), (ra32, .inl (z31, (n36 4), .inl (w37 4))), (ra39, .inl (z38, (n36 5), .inl (w37 5)))]) hP hD hK [5] [0, 1, 2, 3, 4] [0, 1, 2, 3] rfl rfl (by decide +kernel) (by decide +kernel) rfl hk1 hFc ht hvm hB
    refine va_put (D := (dC, dI)) (ci := 3) (v := .ref ra46) (ty := .array .int) (C := RX9) (T := TX9) (N := 6) hx hb hts i_X9 tyX9 tyX9_ok nmX9 hown hK hP hD hS 0 rfl rfl 5 (by decide) (hts _ qw43) (fun _ h9 => h9) rfl (by decide +kernel) rfl rfl (Nat.le_of_ble_eq_true rfl) dX9_add_89 (fun H locs hP hD hS => ?_)
    have hP : va_P (dC, dI) cls (oX9 (p0a 0) (st1 (st1 (st1 (st1 (st1 p0a 2 ra18) 3 ra25) 4 ra32) 5 ra39) 6 ra46) (st1 (st1 (st1 (st1 (st1 p0k 2 z17) 3 z24) 4 z31) 5 z38) 6 z45) n43 w44) H := by rw [en43, ew44]; exact hP.sub [0, 1, 2, 3, 4, 5] rfl
    have hD : va_D A (oX9 (p0a 0) (st1 (st1 (st1 (st1 (st1 p0a 2 ra18) 3 ra25) 4 ra32) 5 ra39) 6 ra46) (st1 (st1 (st1 (st1 (st1 p0k 2 z17) 3 z24) 4 z31) 5 z38) 6 z45) n43 w44) := by rw [en43, ew44]; exact hD.sub [0, 1, 2, 3, 4, 5] (by decide +kernel) rfl
    have hK : va_K (dC, dI) cls (tX9 (st1 (st1 (st1 (st1 (st1 p0k 2 z17) 3 z24) 4 z31) 5 z38) 6 z45)) s := hK.sub [0, 1, 2, 3, 4] rfl
    refine W.widen (k := (gcX9 p0n n43)) (n := (3 * (gcX9 p0n n43))) (by have a0 := gcX9_add hg_p0 hst46; have q5 := gcX9_6 (n := n36) (grs_le hq42); rw [← en43] at q5; have q6 := grs_1 hq42; have q7 := grs_2 hq42; have q8 := hlo_41; omega) (by have a0 := gcX9_add hg_p0 hst46; have q5 := gcX9_6 (n := n36) (grs_le hq42); rw [← en43] at q5; have q6 := grs_1 hq42; have q7 := grs_2 hq42; have q8 := hlo_41; omega) ?_
    have hg_p0 : glX9 p0n n43 := glX9_tr hg_p0 hst46
    unfold fX9_add_G92_47 at hrun
    exact J92 w44 n43 ra18 z17 ra25 z24 ra32 z31 ra39 z38 ra46 z45 _ _ _ hrun hP hD hK hS (lv_sub hl [1, 2, 3, 4, 5] rfl) hg_p0
