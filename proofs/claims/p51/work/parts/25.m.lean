abbrev cX3_argumentOf : ByteArray := prog_5_method_15_code
def yX3_argumentOf : MethodName := ⟨RX3, "argumentOf", "(II)I"⟩
abbrev cX3_begin : ByteArray := prog_5_method_2_code
def yX3_begin : MethodName := ⟨RX3, "begin", "(LGearbox$Program;)V"⟩
abbrev cX3_bringBack : ByteArray := prog_5_method_5_code
def yX3_bringBack : MethodName := ⟨RX3, "bringBack", "([I)V"⟩
abbrev cX3_close : ByteArray := prog_5_method_10_code
def yX3_close : MethodName := ⟨RX3, "close", "(I)Z"⟩
abbrev cX3_stop : ByteArray := prog_5_method_11_code
def yX3_stop : MethodName := ⟨RX3, "stop", "(I)V"⟩
abbrev cX3_endAlike : ByteArray := prog_5_method_6_code
def yX3_endAlike : MethodName := ⟨RX3, "endAlike", "([I[I)Z"⟩
abbrev cX3_endBlock : ByteArray := prog_5_method_24_code
def yX3_endBlock : MethodName := ⟨RX3, "endBlock", "(LGearbox$Flow;I)V"⟩
abbrev cX3_giveBack : ByteArray := prog_5_method_25_code
def yX3_giveBack : MethodName := ⟨RX3, "giveBack", "(LGearbox$Flow;I)V"⟩
abbrev cX3_enter : ByteArray := prog_5_method_9_code
def yX3_enter : MethodName := ⟨RX3, "enter", "(II)V"⟩
abbrev cX3_pop : ByteArray := prog_5_method_14_code
def yX3_pop : MethodName := ⟨RX3, "pop", "()I"⟩
theorem dX3_argumentOf_0 : decode cX3_argumentOf 0 = .ok (.aload_n 0, 1) := by decide +kernel
theorem dX3_argumentOf_1 : decode cX3_argumentOf 1 = .ok (.getfield 30, 3) := by decide +kernel
theorem dX3_argumentOf_4 : decode cX3_argumentOf 4 = .ok (.iload_n 1, 1) := by decide +kernel
theorem dX3_argumentOf_5 : decode cX3_argumentOf 5 = .ok (.iconst 4, 1) := by decide +kernel
theorem dX3_argumentOf_6 : decode cX3_argumentOf 6 = .ok (.imul, 1) := by decide +kernel
theorem dX3_argumentOf_7 : decode cX3_argumentOf 7 = .ok (.iload_n 2, 1) := by decide +kernel
theorem dX3_argumentOf_8 : decode cX3_argumentOf 8 = .ok (.iadd, 1) := by decide +kernel
theorem dX3_argumentOf_9 : decode cX3_argumentOf 9 = .ok (.iaload, 1) := by decide +kernel
theorem dX3_argumentOf_10 : decode cX3_argumentOf 10 = .ok (.ireturn, 1) := by decide +kernel
theorem dX3_begin_0 : decode cX3_begin 0 = .ok (.aload_n 0, 1) := by decide +kernel
theorem dX3_begin_1 : decode cX3_begin 1 = .ok (.aload_n 1, 1) := by decide +kernel
theorem dX3_begin_2 : decode cX3_begin 2 = .ok (.putfield 42, 3) := by decide +kernel
theorem dX3_begin_5 : decode cX3_begin 5 = .ok (.aload_n 0, 1) := by decide +kernel
theorem dX3_begin_6 : decode cX3_begin 6 = .ok (.iconst 0, 1) := by decide +kernel
theorem dX3_begin_7 : decode cX3_begin 7 = .ok (.putfield 54, 3) := by decide +kernel
theorem dX3_begin_10 : decode cX3_begin 10 = .ok (.aload_n 0, 1) := by decide +kernel
theorem dX3_begin_11 : decode cX3_begin 11 = .ok (.iconst 0, 1) := by decide +kernel
theorem dX3_begin_12 : decode cX3_begin 12 = .ok (.putfield 58, 3) := by decide +kernel
theorem dX3_begin_15 : decode cX3_begin 15 = .ok (.aload_n 0, 1) := by decide +kernel
theorem dX3_begin_16 : decode cX3_begin 16 = .ok (.iconst 0, 1) := by decide +kernel
theorem dX3_begin_17 : decode cX3_begin 17 = .ok (.putfield 61, 3) := by decide +kernel
theorem dX3_begin_20 : decode cX3_begin 20 = .ok (.aload_n 0, 1) := by decide +kernel
theorem dX3_begin_21 : decode cX3_begin 21 = .ok (.getfield 9, 3) := by decide +kernel
theorem dX3_begin_24 : decode cX3_begin 24 = .ok (.iconst 0, 1) := by decide +kernel
theorem dX3_begin_25 : decode cX3_begin 25 = .ok (.invokestatic 64, 3) := by decide +kernel
theorem dX3_begin_28 : decode cX3_begin 28 = .ok (.return_, 1) := by decide +kernel
theorem dX3_bringBack_0 : decode cX3_bringBack 0 = .ok (.aload_n 0, 1) := by decide +kernel
theorem dX3_bringBack_1 : decode cX3_bringBack 1 = .ok (.aload_n 1, 1) := by decide +kernel
theorem dX3_bringBack_2 : decode cX3_bringBack 2 = .ok (.iconst 0, 1) := by decide +kernel
theorem dX3_bringBack_3 : decode cX3_bringBack 3 = .ok (.iaload, 1) := by decide +kernel
theorem dX3_bringBack_4 : decode cX3_bringBack 4 = .ok (.putfield 54, 3) := by decide +kernel
theorem dX3_bringBack_7 : decode cX3_bringBack 7 = .ok (.aload_n 0, 1) := by decide +kernel
theorem dX3_bringBack_8 : decode cX3_bringBack 8 = .ok (.aload_n 1, 1) := by decide +kernel
theorem dX3_bringBack_9 : decode cX3_bringBack 9 = .ok (.iconst 1, 1) := by decide +kernel
theorem dX3_bringBack_10 : decode cX3_bringBack 10 = .ok (.iaload, 1) := by decide +kernel
theorem dX3_bringBack_11 : decode cX3_bringBack 11 = .ok (.putfield 58, 3) := by decide +kernel
theorem dX3_bringBack_14 : decode cX3_bringBack 14 = .ok (.aload_n 0, 1) := by decide +kernel
theorem dX3_bringBack_15 : decode cX3_bringBack 15 = .ok (.aload_n 1, 1) := by decide +kernel
theorem dX3_bringBack_16 : decode cX3_bringBack 16 = .ok (.iconst 2, 1) := by decide +kernel
theorem dX3_bringBack_17 : decode cX3_bringBack 17 = .ok (.iaload, 1) := by decide +kernel
theorem dX3_bringBack_18 : decode cX3_bringBack 18 = .ok (.putfield 61, 3) := by decide +kernel
theorem dX3_bringBack_21 : decode cX3_bringBack 21 = .ok (.aload_n 1, 1) := by decide +kernel
theorem dX3_bringBack_22 : decode cX3_bringBack 22 = .ok (.iconst 3, 1) := by decide +kernel
theorem dX3_bringBack_23 : decode cX3_bringBack 23 = .ok (.aload_n 0, 1) := by decide +kernel
theorem dX3_bringBack_24 : decode cX3_bringBack 24 = .ok (.getfield 9, 3) := by decide +kernel
theorem dX3_bringBack_27 : decode cX3_bringBack 27 = .ok (.iconst 0, 1) := by decide +kernel
theorem dX3_bringBack_28 : decode cX3_bringBack 28 = .ok (.bipush 16, 2) := by decide +kernel
theorem dX3_bringBack_30 : decode cX3_bringBack 30 = .ok (.invokestatic 70, 3) := by decide +kernel
theorem dX3_bringBack_33 : decode cX3_bringBack 33 = .ok (.return_, 1) := by decide +kernel
theorem dX3_close_0 : decode cX3_close 0 = .ok (.aload_n 0, 1) := by decide +kernel
theorem dX3_close_1 : decode cX3_close 1 = .ok (.dup, 1) := by decide +kernel
theorem dX3_close_2 : decode cX3_close 2 = .ok (.getfield 84, 3) := by decide +kernel
theorem dX3_close_5 : decode cX3_close 5 = .ok (.iconst 1, 1) := by decide +kernel
theorem dX3_close_6 : decode cX3_close 6 = .ok (.isub, 1) := by decide +kernel
theorem dX3_close_7 : decode cX3_close 7 = .ok (.putfield 84, 3) := by decide +kernel
theorem dX3_close_10 : decode cX3_close 10 = .ok (.aload_n 0, 1) := by decide +kernel
theorem dX3_close_11 : decode cX3_close 11 = .ok (.getfield 84, 3) := by decide +kernel
theorem dX3_close_14 : decode cX3_close 14 = .ok (.ifCond .ne 13, 3) := by decide +kernel
theorem dX3_close_17 : decode cX3_close 17 = .ok (.aload_n 0, 1) := by decide +kernel
theorem dX3_close_18 : decode cX3_close 18 = .ok (.iconst 0, 1) := by decide +kernel
theorem dX3_close_19 : decode cX3_close 19 = .ok (.invokevirtual 137, 3) := by decide +kernel
theorem dX3_close_22 : decode cX3_close 22 = .ok (.aload_n 0, 1) := by decide +kernel
theorem dX3_close_23 : decode cX3_close 23 = .ok (.iload_n 1, 1) := by decide +kernel
theorem dX3_close_24 : decode cX3_close 24 = .ok (.putfield 58, 3) := by decide +kernel
theorem dX3_close_27 : decode cX3_close 27 = .ok (.aload_n 0, 1) := by decide +kernel
theorem dX3_close_28 : decode cX3_close 28 = .ok (.getfield 84, 3) := by decide +kernel
theorem dX3_close_31 : decode cX3_close 31 = .ok (.ifCond .le 7, 3) := by decide +kernel
theorem dX3_close_34 : decode cX3_close 34 = .ok (.iconst 1, 1) := by decide +kernel
theorem dX3_close_35 : decode cX3_close 35 = .ok (.goto 4, 3) := by decide +kernel
theorem dX3_close_38 : decode cX3_close 38 = .ok (.iconst 0, 1) := by decide +kernel
theorem dX3_close_39 : decode cX3_close 39 = .ok (.ireturn, 1) := by decide +kernel
theorem dX3_endAlike_0 : decode cX3_endAlike 0 = .ok (.iconst 0, 1) := by decide +kernel
theorem dX3_endAlike_1 : decode cX3_endAlike 1 = .ok (.istore_n 2, 1) := by decide +kernel
theorem dX3_endAlike_2 : decode cX3_endAlike 2 = .ok (.iload_n 2, 1) := by decide +kernel
theorem dX3_endAlike_3 : decode cX3_endAlike 3 = .ok (.bipush 19, 2) := by decide +kernel
theorem dX3_endAlike_5 : decode cX3_endAlike 5 = .ok (.if_icmp .ge 25, 3) := by decide +kernel
theorem dX3_endAlike_8 : decode cX3_endAlike 8 = .ok (.iload_n 2, 1) := by decide +kernel
theorem dX3_endAlike_9 : decode cX3_endAlike 9 = .ok (.iconst 2, 1) := by decide +kernel
theorem dX3_endAlike_10 : decode cX3_endAlike 10 = .ok (.if_icmp .eq 14, 3) := by decide +kernel
theorem dX3_endAlike_13 : decode cX3_endAlike 13 = .ok (.aload_n 0, 1) := by decide +kernel
theorem dX3_endAlike_14 : decode cX3_endAlike 14 = .ok (.iload_n 2, 1) := by decide +kernel
theorem dX3_endAlike_15 : decode cX3_endAlike 15 = .ok (.iaload, 1) := by decide +kernel
theorem dX3_endAlike_16 : decode cX3_endAlike 16 = .ok (.aload_n 1, 1) := by decide +kernel
theorem dX3_endAlike_17 : decode cX3_endAlike 17 = .ok (.iload_n 2, 1) := by decide +kernel
theorem dX3_endAlike_18 : decode cX3_endAlike 18 = .ok (.iaload, 1) := by decide +kernel
theorem dX3_endAlike_19 : decode cX3_endAlike 19 = .ok (.if_icmp .eq 5, 3) := by decide +kernel
theorem dX3_endAlike_22 : decode cX3_endAlike 22 = .ok (.iconst 0, 1) := by decide +kernel
theorem dX3_endAlike_23 : decode cX3_endAlike 23 = .ok (.ireturn, 1) := by decide +kernel
theorem dX3_endAlike_24 : decode cX3_endAlike 24 = .ok (.iinc 2 1, 3) := by decide +kernel
theorem dX3_endAlike_27 : decode cX3_endAlike 27 = .ok (.goto (-25), 3) := by decide +kernel
theorem dX3_endAlike_30 : decode cX3_endAlike 30 = .ok (.iconst 1, 1) := by decide +kernel
theorem dX3_endAlike_31 : decode cX3_endAlike 31 = .ok (.ireturn, 1) := by decide +kernel
theorem dX3_endBlock_0 : decode cX3_endBlock 0 = .ok (.aload_n 0, 1) := by decide +kernel
theorem dX3_endBlock_1 : decode cX3_endBlock 1 = .ok (.getfield 24, 3) := by decide +kernel
theorem dX3_endBlock_4 : decode cX3_endBlock 4 = .ok (.iload_n 2, 1) := by decide +kernel
theorem dX3_endBlock_5 : decode cX3_endBlock 5 = .ok (.iaload, 1) := by decide +kernel
theorem dX3_endBlock_6 : decode cX3_endBlock 6 = .ok (.istore_n 3, 1) := by decide +kernel
theorem dX3_endBlock_7 : decode cX3_endBlock 7 = .ok (.aload_n 1, 1) := by decide +kernel
theorem dX3_endBlock_8 : decode cX3_endBlock 8 = .ok (.getfield 236, 3) := by decide +kernel
theorem dX3_endBlock_11 : decode cX3_endBlock 11 = .ok (.iload_n 3, 1) := by decide +kernel
theorem dX3_endBlock_12 : decode cX3_endBlock 12 = .ok (.iaload, 1) := by decide +kernel
theorem dX3_endBlock_13 : decode cX3_endBlock 13 = .ok (.ifCond .ge 7, 3) := by decide +kernel
theorem dX3_endBlock_16 : decode cX3_endBlock 16 = .ok (.iconst 0, 1) := by decide +kernel
theorem dX3_endBlock_17 : decode cX3_endBlock 17 = .ok (.goto 20, 3) := by decide +kernel
theorem dX3_endBlock_20 : decode cX3_endBlock 20 = .ok (.aload_n 0, 1) := by decide +kernel
theorem dX3_endBlock_21 : decode cX3_endBlock 21 = .ok (.getfield 33, 3) := by decide +kernel
theorem dX3_endBlock_24 : decode cX3_endBlock 24 = .ok (.iload_n 2, 1) := by decide +kernel
theorem dX3_endBlock_25 : decode cX3_endBlock 25 = .ok (.sipush 320, 3) := by decide +kernel
theorem dX3_endBlock_28 : decode cX3_endBlock 28 = .ok (.imul, 1) := by decide +kernel
theorem dX3_endBlock_29 : decode cX3_endBlock 29 = .ok (.aload_n 1, 1) := by decide +kernel
theorem dX3_endBlock_30 : decode cX3_endBlock 30 = .ok (.getfield 236, 3) := by decide +kernel
theorem dX3_endBlock_33 : decode cX3_endBlock 33 = .ok (.iload_n 3, 1) := by decide +kernel
theorem dX3_endBlock_34 : decode cX3_endBlock 34 = .ok (.iaload, 1) := by decide +kernel
theorem dX3_endBlock_35 : decode cX3_endBlock 35 = .ok (.iadd, 1) := by decide +kernel
theorem dX3_endBlock_36 : decode cX3_endBlock 36 = .ok (.iaload, 1) := by decide +kernel
theorem dX3_endBlock_37 : decode cX3_endBlock 37 = .ok (.istore 4, 2) := by decide +kernel
theorem dX3_endBlock_39 : decode cX3_endBlock 39 = .ok (.aload_n 1, 1) := by decide +kernel
theorem dX3_endBlock_40 : decode cX3_endBlock 40 = .ok (.getfield 239, 3) := by decide +kernel
theorem dX3_endBlock_43 : decode cX3_endBlock 43 = .ok (.iload_n 3, 1) := by decide +kernel
theorem dX3_endBlock_44 : decode cX3_endBlock 44 = .ok (.iaload, 1) := by decide +kernel
theorem dX3_endBlock_45 : decode cX3_endBlock 45 = .ok (.bipush 24, 2) := by decide +kernel
theorem dX3_endBlock_47 : decode cX3_endBlock 47 = .ok (.if_icmp .ne 35, 3) := by decide +kernel
theorem dX3_endBlock_50 : decode cX3_endBlock 50 = .ok (.aload_n 0, 1) := by decide +kernel
theorem dX3_endBlock_51 : decode cX3_endBlock 51 = .ok (.iload 4, 2) := by decide +kernel
theorem dX3_endBlock_53 : decode cX3_endBlock 53 = .ok (.invokevirtual 197, 3) := by decide +kernel
theorem dX3_endBlock_56 : decode cX3_endBlock 56 = .ok (.ifCond .eq 25, 3) := by decide +kernel
theorem dX3_endBlock_59 : decode cX3_endBlock 59 = .ok (.aload_n 0, 1) := by decide +kernel
theorem dX3_endBlock_60 : decode cX3_endBlock 60 = .ok (.aload_n 0, 1) := by decide +kernel
theorem dX3_endBlock_61 : decode cX3_endBlock 61 = .ok (.getfield 46, 3) := by decide +kernel
theorem dX3_endBlock_64 : decode cX3_endBlock 64 = .ok (.aload_n 0, 1) := by decide +kernel
theorem dX3_endBlock_65 : decode cX3_endBlock 65 = .ok (.getfield 18, 3) := by decide +kernel
theorem dX3_endBlock_68 : decode cX3_endBlock 68 = .ok (.aload_n 0, 1) := by decide +kernel
theorem dX3_endBlock_69 : decode cX3_endBlock 69 = .ok (.getfield 84, 3) := by decide +kernel
theorem dX3_endBlock_72 : decode cX3_endBlock 72 = .ok (.iconst 1, 1) := by decide +kernel
theorem dX3_endBlock_73 : decode cX3_endBlock 73 = .ok (.isub, 1) := by decide +kernel
theorem dX3_endBlock_74 : decode cX3_endBlock 74 = .ok (.iaload, 1) := by decide +kernel
theorem dX3_endBlock_75 : decode cX3_endBlock 75 = .ok (.aaload, 1) := by decide +kernel
theorem dX3_endBlock_76 : decode cX3_endBlock 76 = .ok (.iload 4, 2) := by decide +kernel
theorem dX3_endBlock_78 : decode cX3_endBlock 78 = .ok (.invokevirtual 242, 3) := by decide +kernel
theorem dX3_endBlock_81 : decode cX3_endBlock 81 = .ok (.return_, 1) := by decide +kernel
theorem dX3_endBlock_82 : decode cX3_endBlock 82 = .ok (.aload_n 1, 1) := by decide +kernel
theorem dX3_endBlock_83 : decode cX3_endBlock 83 = .ok (.getfield 239, 3) := by decide +kernel
theorem dX3_endBlock_86 : decode cX3_endBlock 86 = .ok (.iload_n 3, 1) := by decide +kernel
theorem dX3_endBlock_87 : decode cX3_endBlock 87 = .ok (.iaload, 1) := by decide +kernel
theorem dX3_endBlock_88 : decode cX3_endBlock 88 = .ok (.bipush 23, 2) := by decide +kernel
theorem dX3_endBlock_90 : decode cX3_endBlock 90 = .ok (.if_icmp .ne 12, 3) := by decide +kernel
theorem dX3_endBlock_93 : decode cX3_endBlock 93 = .ok (.iload 4, 2) := by decide +kernel
theorem dX3_endBlock_95 : decode cX3_endBlock 95 = .ok (.ifCond .ne 7, 3) := by decide +kernel
theorem dX3_endBlock_98 : decode cX3_endBlock 98 = .ok (.iconst 1, 1) := by decide +kernel
theorem dX3_endBlock_99 : decode cX3_endBlock 99 = .ok (.goto 4, 3) := by decide +kernel
theorem dX3_endBlock_102 : decode cX3_endBlock 102 = .ok (.iconst 0, 1) := by decide +kernel
theorem dX3_endBlock_103 : decode cX3_endBlock 103 = .ok (.istore 5, 2) := by decide +kernel
theorem dX3_endBlock_105 : decode cX3_endBlock 105 = .ok (.aload_n 0, 1) := by decide +kernel
theorem dX3_endBlock_106 : decode cX3_endBlock 106 = .ok (.getfield 27, 3) := by decide +kernel
theorem dX3_endBlock_109 : decode cX3_endBlock 109 = .ok (.iload_n 2, 1) := by decide +kernel
theorem dX3_endBlock_110 : decode cX3_endBlock 110 = .ok (.iload_n 3, 1) := by decide +kernel
theorem dX3_endBlock_111 : decode cX3_endBlock 111 = .ok (.iastore, 1) := by decide +kernel
theorem dX3_endBlock_112 : decode cX3_endBlock 112 = .ok (.aload_n 0, 1) := by decide +kernel
theorem dX3_endBlock_113 : decode cX3_endBlock 113 = .ok (.getfield 24, 3) := by decide +kernel
theorem dX3_endBlock_116 : decode cX3_endBlock 116 = .ok (.iload_n 2, 1) := by decide +kernel
theorem dX3_endBlock_117 : decode cX3_endBlock 117 = .ok (.iload 5, 2) := by decide +kernel
theorem dX3_endBlock_119 : decode cX3_endBlock 119 = .ok (.ifCond .eq 12, 3) := by decide +kernel
theorem dX3_endBlock_122 : decode cX3_endBlock 122 = .ok (.aload_n 1, 1) := by decide +kernel
theorem dX3_endBlock_123 : decode cX3_endBlock 123 = .ok (.getfield 245, 3) := by decide +kernel
theorem dX3_endBlock_126 : decode cX3_endBlock 126 = .ok (.iload_n 3, 1) := by decide +kernel
theorem dX3_endBlock_127 : decode cX3_endBlock 127 = .ok (.iaload, 1) := by decide +kernel
theorem dX3_endBlock_128 : decode cX3_endBlock 128 = .ok (.goto 9, 3) := by decide +kernel
theorem dX3_endBlock_131 : decode cX3_endBlock 131 = .ok (.aload_n 1, 1) := by decide +kernel
theorem dX3_endBlock_132 : decode cX3_endBlock 132 = .ok (.getfield 248, 3) := by decide +kernel
theorem dX3_endBlock_135 : decode cX3_endBlock 135 = .ok (.iload_n 3, 1) := by decide +kernel
theorem dX3_endBlock_136 : decode cX3_endBlock 136 = .ok (.iaload, 1) := by decide +kernel
theorem dX3_endBlock_137 : decode cX3_endBlock 137 = .ok (.iastore, 1) := by decide +kernel
theorem dX3_endBlock_138 : decode cX3_endBlock 138 = .ok (.aload_n 0, 1) := by decide +kernel
theorem dX3_endBlock_139 : decode cX3_endBlock 139 = .ok (.getfield 21, 3) := by decide +kernel
theorem dX3_endBlock_142 : decode cX3_endBlock 142 = .ok (.iload_n 2, 1) := by decide +kernel
theorem dX3_endBlock_143 : decode cX3_endBlock 143 = .ok (.bipush (-2), 2) := by decide +kernel
theorem dX3_endBlock_145 : decode cX3_endBlock 145 = .ok (.iastore, 1) := by decide +kernel
theorem dX3_endBlock_146 : decode cX3_endBlock 146 = .ok (.return_, 1) := by decide +kernel
theorem dX3_enter_0 : decode cX3_enter 0 = .ok (.aload_n 0, 1) := by decide +kernel
theorem dX3_enter_1 : decode cX3_enter 1 = .ok (.getfield 84, 3) := by decide +kernel
theorem dX3_enter_4 : decode cX3_enter 4 = .ok (.bipush 8, 2) := by decide +kernel
theorem dX3_enter_6 : decode cX3_enter 6 = .ok (.if_icmp .ne 9, 3) := by decide +kernel
theorem dX3_enter_9 : decode cX3_enter 9 = .ok (.aload_n 0, 1) := by decide +kernel
theorem dX3_enter_10 : decode cX3_enter 10 = .ok (.iconst 3, 1) := by decide +kernel
theorem dX3_enter_11 : decode cX3_enter 11 = .ok (.invokevirtual 137, 3) := by decide +kernel
theorem dX3_enter_14 : decode cX3_enter 14 = .ok (.return_, 1) := by decide +kernel
theorem dX3_enter_15 : decode cX3_enter 15 = .ok (.aload_n 0, 1) := by decide +kernel
theorem dX3_enter_16 : decode cX3_enter 16 = .ok (.getfield 84, 3) := by decide +kernel
theorem dX3_enter_19 : decode cX3_enter 19 = .ok (.istore_n 3, 1) := by decide +kernel
theorem dX3_enter_20 : decode cX3_enter 20 = .ok (.aload_n 0, 1) := by decide +kernel
theorem dX3_enter_21 : decode cX3_enter 21 = .ok (.dup, 1) := by decide +kernel
theorem dX3_enter_22 : decode cX3_enter 22 = .ok (.getfield 84, 3) := by decide +kernel
theorem dX3_enter_25 : decode cX3_enter 25 = .ok (.iconst 1, 1) := by decide +kernel
theorem dX3_enter_26 : decode cX3_enter 26 = .ok (.iadd, 1) := by decide +kernel
theorem dX3_enter_27 : decode cX3_enter 27 = .ok (.putfield 84, 3) := by decide +kernel
theorem dX3_enter_30 : decode cX3_enter 30 = .ok (.aload_n 0, 1) := by decide +kernel
theorem dX3_enter_31 : decode cX3_enter 31 = .ok (.getfield 42, 3) := by decide +kernel
theorem dX3_enter_34 : decode cX3_enter 34 = .ok (.getfield 94, 3) := by decide +kernel
theorem dX3_enter_37 : decode cX3_enter 37 = .ok (.iload_n 2, 1) := by decide +kernel
theorem dX3_enter_38 : decode cX3_enter 38 = .ok (.iaload, 1) := by decide +kernel
theorem dX3_enter_39 : decode cX3_enter 39 = .ok (.istore 4, 2) := by decide +kernel
theorem dX3_enter_41 : decode cX3_enter 41 = .ok (.iload 4, 2) := by decide +kernel
theorem dX3_enter_43 : decode cX3_enter 43 = .ok (.iconst 1, 1) := by decide +kernel
theorem dX3_enter_44 : decode cX3_enter 44 = .ok (.isub, 1) := by decide +kernel
theorem dX3_enter_45 : decode cX3_enter 45 = .ok (.istore 5, 2) := by decide +kernel
theorem dX3_enter_47 : decode cX3_enter 47 = .ok (.iload 5, 2) := by decide +kernel
theorem dX3_enter_49 : decode cX3_enter 49 = .ok (.ifCond .lt 24, 3) := by decide +kernel
theorem dX3_enter_52 : decode cX3_enter 52 = .ok (.aload_n 0, 1) := by decide +kernel
theorem dX3_enter_53 : decode cX3_enter 53 = .ok (.getfield 30, 3) := by decide +kernel
theorem dX3_enter_56 : decode cX3_enter 56 = .ok (.iload_n 3, 1) := by decide +kernel
theorem dX3_enter_57 : decode cX3_enter 57 = .ok (.iconst 4, 1) := by decide +kernel
theorem dX3_enter_58 : decode cX3_enter 58 = .ok (.imul, 1) := by decide +kernel
theorem dX3_enter_59 : decode cX3_enter 59 = .ok (.iload 5, 2) := by decide +kernel
theorem dX3_enter_61 : decode cX3_enter 61 = .ok (.iadd, 1) := by decide +kernel
theorem dX3_enter_62 : decode cX3_enter 62 = .ok (.aload_n 0, 1) := by decide +kernel
theorem dX3_enter_63 : decode cX3_enter 63 = .ok (.invokevirtual 140, 3) := by decide +kernel
theorem dX3_enter_66 : decode cX3_enter 66 = .ok (.iastore, 1) := by decide +kernel
theorem dX3_enter_67 : decode cX3_enter 67 = .ok (.iinc 5 (-1), 3) := by decide +kernel
theorem dX3_enter_70 : decode cX3_enter 70 = .ok (.goto (-23), 3) := by decide +kernel
theorem dX3_enter_73 : decode cX3_enter 73 = .ok (.aload_n 0, 1) := by decide +kernel
theorem dX3_enter_74 : decode cX3_enter 74 = .ok (.getfield 18, 3) := by decide +kernel
theorem dX3_enter_77 : decode cX3_enter 77 = .ok (.iload_n 3, 1) := by decide +kernel
theorem dX3_enter_78 : decode cX3_enter 78 = .ok (.iload_n 2, 1) := by decide +kernel
theorem dX3_enter_79 : decode cX3_enter 79 = .ok (.iastore, 1) := by decide +kernel
theorem dX3_enter_80 : decode cX3_enter 80 = .ok (.aload_n 0, 1) := by decide +kernel
theorem dX3_enter_81 : decode cX3_enter 81 = .ok (.getfield 24, 3) := by decide +kernel
theorem dX3_enter_84 : decode cX3_enter 84 = .ok (.iload_n 3, 1) := by decide +kernel
theorem dX3_enter_85 : decode cX3_enter 85 = .ok (.iconst 0, 1) := by decide +kernel
theorem dX3_enter_86 : decode cX3_enter 86 = .ok (.iastore, 1) := by decide +kernel
theorem dX3_enter_87 : decode cX3_enter 87 = .ok (.aload_n 0, 1) := by decide +kernel
theorem dX3_enter_88 : decode cX3_enter 88 = .ok (.getfield 27, 3) := by decide +kernel
theorem dX3_enter_91 : decode cX3_enter 91 = .ok (.iload_n 3, 1) := by decide +kernel
theorem dX3_enter_92 : decode cX3_enter 92 = .ok (.iconst (-1), 1) := by decide +kernel
theorem dX3_enter_93 : decode cX3_enter 93 = .ok (.iastore, 1) := by decide +kernel
theorem dX3_enter_94 : decode cX3_enter 94 = .ok (.aload_n 0, 1) := by decide +kernel
theorem dX3_enter_95 : decode cX3_enter 95 = .ok (.getfield 21, 3) := by decide +kernel
theorem dX3_enter_98 : decode cX3_enter 98 = .ok (.iload_n 3, 1) := by decide +kernel
theorem dX3_enter_99 : decode cX3_enter 99 = .ok (.iload_n 1, 1) := by decide +kernel
theorem dX3_enter_100 : decode cX3_enter 100 = .ok (.ifCond .ne 15, 3) := by decide +kernel
theorem dX3_enter_103 : decode cX3_enter 103 = .ok (.aload_n 0, 1) := by decide +kernel
theorem dX3_enter_104 : decode cX3_enter 104 = .ok (.getfield 42, 3) := by decide +kernel
theorem dX3_enter_107 : decode cX3_enter 107 = .ok (.getfield 144, 3) := by decide +kernel
theorem dX3_enter_110 : decode cX3_enter 110 = .ok (.iload_n 2, 1) := by decide +kernel
theorem dX3_enter_111 : decode cX3_enter 111 = .ok (.iaload, 1) := by decide +kernel
theorem dX3_enter_112 : decode cX3_enter 112 = .ok (.goto 14, 3) := by decide +kernel
theorem dX3_enter_115 : decode cX3_enter 115 = .ok (.iload_n 1, 1) := by decide +kernel
theorem dX3_enter_116 : decode cX3_enter 116 = .ok (.iconst 1, 1) := by decide +kernel
theorem dX3_enter_117 : decode cX3_enter 117 = .ok (.if_icmp .ne 8, 3) := by decide +kernel
theorem dX3_enter_120 : decode cX3_enter 120 = .ok (.bipush (-2), 2) := by decide +kernel
theorem dX3_enter_122 : decode cX3_enter 122 = .ok (.goto 4, 3) := by decide +kernel
theorem dX3_enter_125 : decode cX3_enter 125 = .ok (.iconst 0, 1) := by decide +kernel
theorem dX3_enter_126 : decode cX3_enter 126 = .ok (.iastore, 1) := by decide +kernel
theorem dX3_enter_127 : decode cX3_enter 127 = .ok (.aload_n 0, 1) := by decide +kernel
theorem dX3_enter_128 : decode cX3_enter 128 = .ok (.getfield 33, 3) := by decide +kernel
theorem dX3_enter_131 : decode cX3_enter 131 = .ok (.iload_n 3, 1) := by decide +kernel
theorem dX3_enter_132 : decode cX3_enter 132 = .ok (.sipush 320, 3) := by decide +kernel
theorem dX3_enter_135 : decode cX3_enter 135 = .ok (.imul, 1) := by decide +kernel
theorem dX3_enter_136 : decode cX3_enter 136 = .ok (.iload_n 3, 1) := by decide +kernel
theorem dX3_enter_137 : decode cX3_enter 137 = .ok (.iconst 1, 1) := by decide +kernel
theorem dX3_enter_138 : decode cX3_enter 138 = .ok (.iadd, 1) := by decide +kernel
theorem dX3_enter_139 : decode cX3_enter 139 = .ok (.sipush 320, 3) := by decide +kernel
theorem dX3_enter_142 : decode cX3_enter 142 = .ok (.imul, 1) := by decide +kernel
theorem dX3_enter_143 : decode cX3_enter 143 = .ok (.iconst 0, 1) := by decide +kernel
theorem dX3_enter_144 : decode cX3_enter 144 = .ok (.invokestatic 147, 3) := by decide +kernel
theorem dX3_enter_147 : decode cX3_enter 147 = .ok (.aload_n 0, 1) := by decide +kernel
theorem dX3_enter_148 : decode cX3_enter 148 = .ok (.getfield 36, 3) := by decide +kernel
theorem dX3_enter_151 : decode cX3_enter 151 = .ok (.iload_n 3, 1) := by decide +kernel
theorem dX3_enter_152 : decode cX3_enter 152 = .ok (.aload_n 0, 1) := by decide +kernel
theorem dX3_enter_153 : decode cX3_enter 153 = .ok (.getfield 116, 3) := by decide +kernel
theorem dX3_enter_156 : decode cX3_enter 156 = .ok (.imul, 1) := by decide +kernel
theorem dX3_enter_157 : decode cX3_enter 157 = .ok (.iload_n 3, 1) := by decide +kernel
theorem dX3_enter_158 : decode cX3_enter 158 = .ok (.iconst 1, 1) := by decide +kernel
theorem dX3_enter_159 : decode cX3_enter 159 = .ok (.iadd, 1) := by decide +kernel
theorem dX3_enter_160 : decode cX3_enter 160 = .ok (.aload_n 0, 1) := by decide +kernel
theorem dX3_enter_161 : decode cX3_enter 161 = .ok (.getfield 116, 3) := by decide +kernel
theorem dX3_enter_164 : decode cX3_enter 164 = .ok (.imul, 1) := by decide +kernel
theorem dX3_enter_165 : decode cX3_enter 165 = .ok (.iconst 0, 1) := by decide +kernel
theorem dX3_enter_166 : decode cX3_enter 166 = .ok (.invokestatic 147, 3) := by decide +kernel
theorem dX3_enter_169 : decode cX3_enter 169 = .ok (.return_, 1) := by decide +kernel
theorem dX3_giveBack_0 : decode cX3_giveBack 0 = .ok (.aload_n 0, 1) := by decide +kernel
theorem dX3_giveBack_1 : decode cX3_giveBack 1 = .ok (.getfield 84, 3) := by decide +kernel
theorem dX3_giveBack_4 : decode cX3_giveBack 4 = .ok (.iconst 1, 1) := by decide +kernel
theorem dX3_giveBack_5 : decode cX3_giveBack 5 = .ok (.isub, 1) := by decide +kernel
theorem dX3_giveBack_6 : decode cX3_giveBack 6 = .ok (.istore_n 3, 1) := by decide +kernel
theorem dX3_giveBack_7 : decode cX3_giveBack 7 = .ok (.iconst (-1), 1) := by decide +kernel
theorem dX3_giveBack_8 : decode cX3_giveBack 8 = .ok (.istore 4, 2) := by decide +kernel
theorem dX3_giveBack_10 : decode cX3_giveBack 10 = .ok (.aload_n 1, 1) := by decide +kernel
theorem dX3_giveBack_11 : decode cX3_giveBack 11 = .ok (.getfield 233, 3) := by decide +kernel
theorem dX3_giveBack_14 : decode cX3_giveBack 14 = .ok (.aload_n 0, 1) := by decide +kernel
theorem dX3_giveBack_15 : decode cX3_giveBack 15 = .ok (.getfield 24, 3) := by decide +kernel
theorem dX3_giveBack_18 : decode cX3_giveBack 18 = .ok (.iload_n 3, 1) := by decide +kernel
theorem dX3_giveBack_19 : decode cX3_giveBack 19 = .ok (.iaload, 1) := by decide +kernel
theorem dX3_giveBack_20 : decode cX3_giveBack 20 = .ok (.iaload, 1) := by decide +kernel
theorem dX3_giveBack_21 : decode cX3_giveBack 21 = .ok (.istore 5, 2) := by decide +kernel
theorem dX3_giveBack_23 : decode cX3_giveBack 23 = .ok (.iload 5, 2) := by decide +kernel
theorem dX3_giveBack_25 : decode cX3_giveBack 25 = .ok (.ifCond .lt 33, 3) := by decide +kernel
theorem dX3_giveBack_28 : decode cX3_giveBack 28 = .ok (.iload 5, 2) := by decide +kernel
theorem dX3_giveBack_30 : decode cX3_giveBack 30 = .ok (.aload_n 0, 1) := by decide +kernel
theorem dX3_giveBack_31 : decode cX3_giveBack 31 = .ok (.getfield 21, 3) := by decide +kernel
theorem dX3_giveBack_34 : decode cX3_giveBack 34 = .ok (.iload_n 3, 1) := by decide +kernel
theorem dX3_giveBack_35 : decode cX3_giveBack 35 = .ok (.iaload, 1) := by decide +kernel
theorem dX3_giveBack_36 : decode cX3_giveBack 36 = .ok (.if_icmp .eq 22, 3) := by decide +kernel
theorem dX3_giveBack_39 : decode cX3_giveBack 39 = .ok (.iload 5, 2) := by decide +kernel
theorem dX3_giveBack_41 : decode cX3_giveBack 41 = .ok (.istore 4, 2) := by decide +kernel
theorem dX3_giveBack_43 : decode cX3_giveBack 43 = .ok (.aload_n 1, 1) := by decide +kernel
theorem dX3_giveBack_44 : decode cX3_giveBack 44 = .ok (.getfield 207, 3) := by decide +kernel
theorem dX3_giveBack_47 : decode cX3_giveBack 47 = .ok (.getfield 212, 3) := by decide +kernel
theorem dX3_giveBack_50 : decode cX3_giveBack 50 = .ok (.iload 5, 2) := by decide +kernel
theorem dX3_giveBack_52 : decode cX3_giveBack 52 = .ok (.iaload, 1) := by decide +kernel
theorem dX3_giveBack_53 : decode cX3_giveBack 53 = .ok (.istore 5, 2) := by decide +kernel
theorem dX3_giveBack_55 : decode cX3_giveBack 55 = .ok (.goto (-32), 3) := by decide +kernel
theorem dX3_giveBack_58 : decode cX3_giveBack 58 = .ok (.iload 4, 2) := by decide +kernel
theorem dX3_giveBack_60 : decode cX3_giveBack 60 = .ok (.ifCond .lt 25, 3) := by decide +kernel
theorem dX3_giveBack_63 : decode cX3_giveBack 63 = .ok (.aload_n 0, 1) := by decide +kernel
theorem dX3_giveBack_64 : decode cX3_giveBack 64 = .ok (.getfield 33, 3) := by decide +kernel
theorem dX3_giveBack_67 : decode cX3_giveBack 67 = .ok (.iload_n 3, 1) := by decide +kernel
theorem dX3_giveBack_68 : decode cX3_giveBack 68 = .ok (.sipush 320, 3) := by decide +kernel
theorem dX3_giveBack_71 : decode cX3_giveBack 71 = .ok (.imul, 1) := by decide +kernel
theorem dX3_giveBack_72 : decode cX3_giveBack 72 = .ok (.aload_n 1, 1) := by decide +kernel
theorem dX3_giveBack_73 : decode cX3_giveBack 73 = .ok (.getfield 207, 3) := by decide +kernel
theorem dX3_giveBack_76 : decode cX3_giveBack 76 = .ok (.getfield 251, 3) := by decide +kernel
theorem dX3_giveBack_79 : decode cX3_giveBack 79 = .ok (.iload 4, 2) := by decide +kernel
theorem dX3_giveBack_81 : decode cX3_giveBack 81 = .ok (.iaload, 1) := by decide +kernel
theorem dX3_giveBack_82 : decode cX3_giveBack 82 = .ok (.iadd, 1) := by decide +kernel
theorem dX3_giveBack_83 : decode cX3_giveBack 83 = .ok (.iload_n 2, 1) := by decide +kernel
theorem dX3_giveBack_84 : decode cX3_giveBack 84 = .ok (.iastore, 1) := by decide +kernel
theorem dX3_giveBack_85 : decode cX3_giveBack 85 = .ok (.return_, 1) := by decide +kernel
theorem dX3_pop_0 : decode cX3_pop 0 = .ok (.aload_n 0, 1) := by decide +kernel
theorem dX3_pop_1 : decode cX3_pop 1 = .ok (.getfield 87, 3) := by decide +kernel
theorem dX3_pop_4 : decode cX3_pop 4 = .ok (.ifCond .ne 5, 3) := by decide +kernel
theorem dX3_pop_7 : decode cX3_pop 7 = .ok (.iconst 0, 1) := by decide +kernel
theorem dX3_pop_8 : decode cX3_pop 8 = .ok (.ireturn, 1) := by decide +kernel
theorem dX3_pop_9 : decode cX3_pop 9 = .ok (.aload_n 0, 1) := by decide +kernel
theorem dX3_pop_10 : decode cX3_pop 10 = .ok (.dup, 1) := by decide +kernel
theorem dX3_pop_11 : decode cX3_pop 11 = .ok (.getfield 87, 3) := by decide +kernel
theorem dX3_pop_14 : decode cX3_pop 14 = .ok (.iconst 1, 1) := by decide +kernel
theorem dX3_pop_15 : decode cX3_pop 15 = .ok (.isub, 1) := by decide +kernel
theorem dX3_pop_16 : decode cX3_pop 16 = .ok (.putfield 87, 3) := by decide +kernel
theorem dX3_pop_19 : decode cX3_pop 19 = .ok (.aload_n 0, 1) := by decide +kernel
theorem dX3_pop_20 : decode cX3_pop 20 = .ok (.getfield 39, 3) := by decide +kernel
theorem dX3_pop_23 : decode cX3_pop 23 = .ok (.aload_n 0, 1) := by decide +kernel
theorem dX3_pop_24 : decode cX3_pop 24 = .ok (.getfield 87, 3) := by decide +kernel
theorem dX3_pop_27 : decode cX3_pop 27 = .ok (.iaload, 1) := by decide +kernel
theorem dX3_pop_28 : decode cX3_pop 28 = .ok (.ireturn, 1) := by decide +kernel
theorem dX3_stop_0 : decode cX3_stop 0 = .ok (.aload_n 0, 1) := by decide +kernel
theorem dX3_stop_1 : decode cX3_stop 1 = .ok (.iload_n 1, 1) := by decide +kernel
theorem dX3_stop_2 : decode cX3_stop 2 = .ok (.putfield 54, 3) := by decide +kernel
theorem dX3_stop_5 : decode cX3_stop 5 = .ok (.aload_n 0, 1) := by decide +kernel
theorem dX3_stop_6 : decode cX3_stop 6 = .ok (.iconst 0, 1) := by decide +kernel
theorem dX3_stop_7 : decode cX3_stop 7 = .ok (.putfield 80, 3) := by decide +kernel
theorem dX3_stop_10 : decode cX3_stop 10 = .ok (.return_, 1) := by decide +kernel
theorem qw889 : Cond.fieldLink RX3 30 "Gearbox$Machine" "arguments" "[I" ∈ gw := mq_4 (i := 0) rfl rfl
theorem qw890 : Cond.fieldLink RX3 42 "Gearbox$Machine" "program" "LGearbox$Program;" ∈ gw := mq_3 (i := 230) rfl rfl
theorem qw891 : Cond.fieldLink RX3 54 "Gearbox$Machine" "outcome" "I" ∈ gw := mq_3 (i := 222) rfl rfl
theorem qw892 : Cond.fieldLink RX3 58 "Gearbox$Machine" "result" "I" ∈ gw := mq_3 (i := 224) rfl rfl
theorem qw893 : Cond.fieldLink RX3 61 "Gearbox$Machine" "steps" "I" ∈ gw := mq_3 (i := 226) rfl rfl
theorem qw894 : Cond.fieldLink RX3 9 "Gearbox$Machine" "memory" "[I" ∈ gw := mq_3 (i := 228) rfl rfl
theorem qw895 : Cond.methodLink RX3 64 yJ7_fill_53178 ∈ gw := mq_7 (i := 127) rfl rfl
theorem qw896 : Cond.methodLink RX3 70 ⟨"java/lang/System", "arraycopy", "(Ljava/lang/Object;ILjava/lang/Object;II)V"⟩ ∈ gw := mq_10 (i := 49) rfl rfl
theorem qw897 : Cond.fieldLink RX3 84 "Gearbox$Machine" "calls" "I" ∈ gw := mq_3 (i := 235) rfl rfl
theorem qw898 : Cond.fieldLink RX3 80 "Gearbox$Machine" "isRunning" "Z" ∈ gw := mq_3 (i := 234) rfl rfl
theorem qw899 : Cond.code yX3_stop cX3_stop 2 (Option.none : Option Jvm.ClassFile.FieldType) ∈ gw := mq_9 (i := 191) rfl rfl
theorem qw900 : Cond.methodLink RX3 137 yX3_stop ∈ gw := mq_9 (i := 188) rfl rfl
theorem qw901 : Cond.instanceMethod yX3_stop ∈ gw := mq_9 (i := 190) rfl rfl
theorem qw902 : Cond.selects RX3 yX3_stop yX3_stop ∈ gw := mk_s (i := 97) rfl rfl
theorem qw903 : Cond.initialized RX3 ∈ gw := mq_1 (i := 27) rfl rfl
theorem qw904 : Cond.fieldLink RX3 24 "Gearbox$Machine" "block" "[I" ∈ gw := mq_3 (i := 238) rfl rfl
theorem qw905 : Cond.fieldLink RX3 236 "Gearbox$Flow" "endValue" "[I" ∈ gw := mq_2 (i := 16) rfl rfl
theorem qw906 : Cond.fieldLink RX3 33 "Gearbox$Machine" "cells" "[I" ∈ gw := mq_4 (i := 1) rfl rfl
theorem qw907 : Cond.fieldLink RX3 239 "Gearbox$Flow" "end" "[I" ∈ gw := mq_2 (i := 9) rfl rfl
theorem qw908 : Cond.code yX3_close cX3_close 2 (Option.some Jvm.ClassFile.FieldType.boolean) ∈ gw := mq_9 (i := 236) rfl rfl
theorem qw909 : Cond.methodLink RX3 197 yX3_close ∈ gw := mq_9 (i := 233) rfl rfl
theorem qw910 : Cond.instanceMethod yX3_close ∈ gw := mq_9 (i := 235) rfl rfl
theorem qw911 : Cond.selects RX3 yX3_close yX3_close ∈ gw := mk_s (i := 98) rfl rfl
theorem qw912 : Cond.fieldLink RX3 46 "Gearbox$Machine" "flows" "[LGearbox$Flow;" ∈ gw := mq_3 (i := 231) rfl rfl
theorem qw913 : Cond.fieldLink RX3 18 "Gearbox$Machine" "function" "[I" ∈ gw := mq_3 (i := 236) rfl rfl
theorem qw914 : Cond.fieldLink RX3 233 "Gearbox$Flow" "firstStep" "[I" ∈ gw := mq_1 (i := 231) rfl rfl
theorem qw915 : Cond.fieldLink RX3 21 "Gearbox$Machine" "at" "[I" ∈ gw := mq_3 (i := 237) rfl rfl
theorem qw916 : Cond.fieldLink RX3 207 "Gearbox$Flow" "steps" "LGearbox$Steps;" ∈ gw := mq_1 (i := 224) rfl rfl
theorem qw917 : Cond.fieldLink RX3 212 "Gearbox$Steps" "next" "[I" ∈ gw := mq_1 (i := 194) rfl rfl
theorem qw918 : Cond.fieldLink RX3 251 "Gearbox$Steps" "gives" "[I" ∈ gw := mq_1 (i := 173) rfl rfl
theorem qw919 : Cond.code yX3_giveBack cX3_giveBack 6 (Option.none : Option Jvm.ClassFile.FieldType) ∈ gw := mq_10 (i := 13) rfl rfl
theorem qw920 : Cond.methodLink RX3 242 yX3_giveBack ∈ gw := mq_10 (i := 10) rfl rfl
theorem qw921 : Cond.instanceMethod yX3_giveBack ∈ gw := mq_10 (i := 12) rfl rfl
theorem qw922 : Cond.selects RX3 yX3_giveBack yX3_giveBack ∈ gw := mk_s (i := 99) rfl rfl
theorem qw923 : Cond.fieldLink RX3 27 "Gearbox$Machine" "blockAhead" "[I" ∈ gw := mq_3 (i := 239) rfl rfl
theorem qw924 : Cond.fieldLink RX3 248 "Gearbox$Flow" "first" "[I" ∈ gw := mq_2 (i := 25) rfl rfl
theorem qw925 : Cond.fieldLink RX3 245 "Gearbox$Flow" "second" "[I" ∈ gw := mq_2 (i := 33) rfl rfl
theorem qw926 : Cond.fieldLink RX3 94 "Gearbox$Program" "parameters" "[I" ∈ gw := mq_3 (i := 163) rfl rfl
theorem qw927 : Cond.fieldLink RX3 87 "Gearbox$Machine" "count" "I" ∈ gw := mq_4 (i := 5) rfl rfl
theorem qw928 : Cond.fieldLink RX3 39 "Gearbox$Machine" "waiting" "[I" ∈ gw := mq_4 (i := 4) rfl rfl
theorem qw929 : Cond.code yX3_pop cX3_pop 1 (Option.some Jvm.ClassFile.FieldType.int) ∈ gw := mq_9 (i := 195) rfl rfl
theorem qw930 : Cond.methodLink RX3 140 yX3_pop ∈ gw := mq_9 (i := 192) rfl rfl
theorem qw931 : Cond.instanceMethod yX3_pop ∈ gw := mq_9 (i := 194) rfl rfl
theorem qw932 : Cond.selects RX3 yX3_pop yX3_pop ∈ gw := mk_s (i := 100) rfl rfl
theorem qw933 : Cond.fieldLink RX3 144 "Gearbox$Program" "from" "[I" ∈ gw := mq_3 (i := 171) rfl rfl
theorem qw934 : Cond.methodLink RX3 147 yJ7_fill_fda19 ∈ gw := mq_9 (i := 196) rfl rfl
theorem qw935 : Cond.fieldLink RX3 36 "Gearbox$Machine" "slots" "[I" ∈ gw := mq_4 (i := 2) rfl rfl
theorem qw936 : Cond.fieldLink RX3 116 "Gearbox$Machine" "slotRoom" "I" ∈ gw := mq_4 (i := 3) rfl rfl
def fX3_argumentOf (p0w : ST) (p1 : Int32) (p2 : Int32) : Option Int32 := (if ixb ((p1 * 4) + p2) 32 = true then some (p0w 15 (nn ((p1 * 4) + p2))) else none)
set_option maxHeartbeats 16000000 in
set_option maxRecDepth 100000 in
theorem kX3_argumentOf {zs : ZS} (l : Launch) (dC : Nat → ClassId) (dI : Nat → Nat → Nat) (p0a : Nat → Nat) (p0k : Nat → ClassId) (p0n : Nat → Nat) (p0w : ST) (p1 : Int32) (p2 : Int32) (sz : Nat) (o : Int32) (hrun : fX3_argumentOf p0w p1 p2 = some o) : Met l yX3_argumentOf (wz yX3_argumentOf cX3_argumentOf 3 (Option.some Jvm.ClassFile.FieldType.int)) ({ frames := 0, cells := 0, slots := 0, locals := 0 } : Room) (va_Pc [.ref (p0a 0), .int p1, .int p2] (PRE zs dC dI (List.flatten ([(oX3 (p0a 0) p0a p0k p0n p0w)] : List va_W)) (List.flatten ([(tX3 p0k)] : List (List (ClassId × FieldType)))) sz)) (va_Qi (fun (r : Int32) (_ : Unit) => r = o) (fun _ t => POST dC dI (List.flatten ([(oX3 (p0a 0) p0a p0k p0n p0w)] : List va_W)) (List.flatten ([(tX3 p0k)] : List (List (ClassId × FieldType)))) (va_A (List.flatten ([(oX3 (p0a 0) p0a p0k p0n p0w)] : List va_W)) sz) t) (va_A (List.flatten ([(oX3 (p0a 0) p0a p0k p0n p0w)] : List va_W)) sz)) 0 0 (va_A (List.flatten ([(oX3 (p0a 0) p0a p0k p0n p0w)] : List va_W)) sz) := by
  refine Met.ofW (cc := cX3_argumentOf) (maxL := 3) (ret := (Option.some Jvm.ClassFile.FieldType.int)) (by decide) rfl ?_
  intro p e s m args below meth c s₁ B hml hv
  obtain ⟨rfl, hsz, hP, hK, hD0, hE⟩ := hv
  have hx := B.exec
  have hb := B.bytes
  have hr := B.returns
  have hts0 := atoms_spec (ws := wz yX3_argumentOf cX3_argumentOf 3 (Option.some Jvm.ClassFile.FieldType.int)) B.pre
  have hts : ∀ w ∈ gw, w.before _ s = true := fun w h => hts0 w (List.mem_cons_of_mem _ h)
  have hown : s.vm.findClass RX3 = some m.cls := findClass_of_methodNamed B.named
  have hlocks := B.notSynchronized
  subst hsz
  have hD := hD0.self (sz := s.heap.size)
  refine gQ9 ?_
  intro Q hQ
  generalize hAe : va_A (List.flatten ([(oX3 (p0a 0) p0a p0k p0n p0w)] : List va_W)) s.heap.size = A at hD hE hQ
  have hA : ∀ q : Nat, s.heap.size ≤ q → A q := fun q h => by rw [← hAe]; exact Or.inr h
  have hS : va_S A s.heap s.heap [] := va_S.rf
  have hP : va_P (dC, dI) cls (List.flatten ([(oX3 (p0a 0) p0a p0k p0n p0w)] : List va_W)) s.heap := hP
  have hl := lv_entry ([.ref (p0a 0), .int p1, .int p2]) (n := 3) (Nat.le_of_ble_eq_true rfl)
  rw [lg_entry_eq]
  generalize (lg_sl ([.ref (p0a 0), .int p1, .int p2]) ++ List.replicate (3 - (lg_sl ([.ref (p0a 0), .int p1, .int p2])).length) Slot.unset).toArray = ls at hl ⊢
  have hl : lv_has ls 3 [(0, .ref (p0a 0)), (1, .int p1), (2, .int p2)] := hl
  obtain ⟨H, hHe⟩ : ∃ H, H = s.heap := ⟨_, rfl⟩
  obtain ⟨locs, hle⟩ : ∃ locs : List Loc, locs = [] := ⟨_, rfl⟩
  rw [← hHe] at hP
  have hS : va_S A s.heap H locs := by rw [hHe, hle]; exact hS
  show W p l e ({ frames := 0, cells := 0, slots := 0, locals := 0 } : Room) s m ([.ref (p0a 0), .int p1, .int p2] : List Value).toArray below meth c s.heap [] 0 0 Q (F0 m 0 ls [])
  rw [← hle]
  refine wH9 hHe ?_
  unfold fX3_argumentOf at hrun
  refine lv_aload_n hx hb dX3_argumentOf_0 rfl (lv_at hl 0 rfl) ?_
  refine va_get (D := (dC, dI)) (ci := 10) (v := .ref (p0a 15)) (C := RX3) (T := TX3) (N := 20) hx hb hts i_X3 hown hK hP 0 rfl rfl 14 (by decide) (hts _ qw889) (fun _ h9 => h9) rfl dX3_argumentOf_1 ?_
  refine lv_iload_n hx hb dX3_argumentOf_4 rfl (lv_at hl 1 rfl) ?_
  refine lv_iconst (v := 4) hx hb dX3_argumentOf_5 (by decide) ?_
  refine lv_imul hx hb dX3_argumentOf_6 ?_
  refine lv_iload_n hx hb dX3_argumentOf_7 rfl (lv_at hl 2 rfl) ?_
  refine lv_iadd hx hb dX3_argumentOf_8 ?_
  obtain ⟨hq1, hrun⟩ := chk9 hrun
  refine va_iald hx hb hK hP 7 6 rfl rfl (ixb_in hq1) dX3_argumentOf_9 ?_
  have ho9 : (p0w 15 (nn ((p1 * 4) + p2))) = o := Option.some.inj hrun
  have hP9 : va_P (dC, dI) cls (List.flatten ([(oX3 (p0a 0) p0a p0k p0n p0w)] : List va_W)) H := by first | exact hP | (rw [← ho9]; exact hP)
  have hD9 : va_D A (List.flatten ([(oX3 (p0a 0) p0a p0k p0n p0w)] : List va_W)) := by first | exact hD | (rw [← ho9]; exact hD)
  subst hQ
  exact W.iret (v := (p0w 15 (nn ((p1 * 4) + p2)))) hx hb hr (fun t ht hW => ⟨⟨(p0w 15 (nn ((p1 * 4) + p2))), (), rfl, (by rw [← ho9]), ⟨by rw [ht]; exact hP9, va_K.moved hW.alike hK, hD9⟩⟩, hS.F ht⟩) hS.2.2 dX3_argumentOf_10
def fX3_begin (p0w : ST) : Option ST := (lt9 (upw p0w 0 0 0) fun (w1 : ST) => (lt9 (upw w1 0 1 0) fun (w2 : ST) => (lt9 (upw w2 0 2 0) fun (w3 : ST) => ((fJ7_fill_53178 16 (w3 4) 0).bind fun (o_4 : RI) => some (srw w3 4 o_4)))))
set_option maxHeartbeats 16000000 in
set_option maxRecDepth 100000 in
theorem kX3_begin {zs : ZS} (l : Launch) (dC : Nat → ClassId) (dI : Nat → Nat → Nat) (p0a : Nat → Nat) (p0k : Nat → ClassId) (p0n : Nat → Nat) (p0w : ST) (p1a : Nat → Nat) (sz : Nat) (o : ST) (hrun : fX3_begin p0w = some o) : Met l yX3_begin (wz yX3_begin cX3_begin 2 (Option.none : Option Jvm.ClassFile.FieldType)) ({ frames := 1, cells := 0, slots := 0, locals := 23 } : Room) (va_Pc [.ref (p0a 0), .ref (p1a 0)] (PRE zs dC dI (List.flatten ([(oX3 (p0a 0) p0a p0k p0n p0w)] : List va_W)) (List.flatten ([(tX3 p0k)] : List (List (ClassId × FieldType)))) sz)) (va_Qv (fun (_ : Unit) => True) (fun _ t => POST dC dI (List.flatten ([(oX3 (p0a 0) (st1 p0a 5 (p1a 0)) p0k p0n o)] : List va_W)) (List.flatten ([(tX3 p0k)] : List (List (ClassId × FieldType)))) (va_A (List.flatten ([(oX3 (p0a 0) p0a p0k p0n p0w)] : List va_W)) sz) t) (va_A (List.flatten ([(oX3 (p0a 0) p0a p0k p0n p0w)] : List va_W)) sz)) 0 0 (va_A (List.flatten ([(oX3 (p0a 0) p0a p0k p0n p0w)] : List va_W)) sz) := by
  refine Met.ofW (cc := cX3_begin) (maxL := 2) (ret := (Option.none : Option Jvm.ClassFile.FieldType)) (by decide) rfl ?_
  intro p e s m args below meth c s₁ B hml hv
  obtain ⟨rfl, hsz, hP, hK, hD0, hE⟩ := hv
  have hx := B.exec
  have hb := B.bytes
  have hr := B.returns
  have hts0 := atoms_spec (ws := wz yX3_begin cX3_begin 2 (Option.none : Option Jvm.ClassFile.FieldType)) B.pre
  have hts : ∀ w ∈ gw, w.before _ s = true := fun w h => hts0 w (List.mem_cons_of_mem _ h)
  have hown : s.vm.findClass RX3 = some m.cls := findClass_of_methodNamed B.named
  have hlocks := B.notSynchronized
  subst hsz
  have hD := hD0.self (sz := s.heap.size)
  refine gQ9 ?_
  intro Q hQ
  generalize hAe : va_A (List.flatten ([(oX3 (p0a 0) p0a p0k p0n p0w)] : List va_W)) s.heap.size = A at hD hE hQ
  have hA : ∀ q : Nat, s.heap.size ≤ q → A q := fun q h => by rw [← hAe]; exact Or.inr h
  have hS : va_S A s.heap s.heap [] := va_S.rf
  have hP : va_P (dC, dI) cls (List.flatten ([(oX3 (p0a 0) p0a p0k p0n p0w)] : List va_W)) s.heap := hP
  have hl := lv_entry ([.ref (p0a 0), .ref (p1a 0)]) (n := 2) (Nat.le_of_ble_eq_true rfl)
  rw [lg_entry_eq]
  generalize (lg_sl ([.ref (p0a 0), .ref (p1a 0)]) ++ List.replicate (2 - (lg_sl ([.ref (p0a 0), .ref (p1a 0)])).length) Slot.unset).toArray = ls at hl ⊢
  have hl : lv_has ls 2 [(0, .ref (p0a 0)), (1, .ref (p1a 0))] := hl
  obtain ⟨H, hHe⟩ : ∃ H, H = s.heap := ⟨_, rfl⟩
  obtain ⟨locs, hle⟩ : ∃ locs : List Loc, locs = [] := ⟨_, rfl⟩
  rw [← hHe] at hP
  have hS : va_S A s.heap H locs := by rw [hHe, hle]; exact hS
  show W p l e ({ frames := 1, cells := 0, slots := 0, locals := 23 } : Room) s m ([.ref (p0a 0), .ref (p1a 0)] : List Value).toArray below meth c s.heap [] 0 0 Q (F0 m 0 ls [])
  rw [← hle]
  refine wH9 hHe ?_
  unfold fX3_begin at hrun
  refine lv_aload_n hx hb dX3_begin_0 rfl (lv_at hl 0 rfl) ?_
  refine lv_aload_n hx hb dX3_begin_1 rfl (lv_at hl 1 rfl) ?_
  refine va_put (D := (dC, dI)) (ci := 10) (v := .ref (p1a 0)) (ty := .object "Gearbox$Program") (C := RX3) (T := TX3) (N := 20) hx hb hts i_X3 tyX3 tyX3_ok nmX3 hown hK hP hD hS 0 rfl rfl 4 (by decide) (hts _ qw890) (fun _ h9 => h9) rfl (by decide +kernel) rfl rfl (Nat.le_of_ble_eq_true rfl) dX3_begin_2 (fun H locs hP hD hS => ?_)
  have hP : va_P (dC, dI) cls (List.flatten ([(oX3 (p0a 0) (st1 p0a 5 (p1a 0)) p0k p0n p0w)] : List va_W)) H := hP
  have hD : va_D A (List.flatten ([(oX3 (p0a 0) (st1 p0a 5 (p1a 0)) p0k p0n p0w)] : List va_W)) := hD
  refine lv_aload_n hx hb dX3_begin_5 rfl (lv_at hl 0 rfl) ?_
  refine lv_iconst (v := 0) hx hb dX3_begin_6 (by decide) ?_
  refine va_put (D := (dC, dI)) (ci := 10) (v := .int 0) (ty := .int) (C := RX3) (T := TX3) (N := 20) hx hb hts i_X3 tyX3 tyX3_ok nmX3 hown hK hP hD hS 0 rfl rfl 0 (by decide) (hts _ qw891) (fun _ h9 => h9) rfl (by decide +kernel) rfl rfl (Nat.le_of_ble_eq_true rfl) dX3_begin_7 (fun H locs hP hD hS => ?_)
  have hP : va_P (dC, dI) cls (List.flatten ([(oX3 (p0a 0) (st1 p0a 5 (p1a 0)) p0k p0n (upw p0w 0 0 0))] : List va_W)) H := hP
  have hD : va_D A (List.flatten ([(oX3 (p0a 0) (st1 p0a 5 (p1a 0)) p0k p0n (upw p0w 0 0 0))] : List va_W)) := hD
  obtain ⟨w1, ew1, hrun⟩ := let9 hrun
  rw [← ew1] at hP hD
  refine lv_aload_n hx hb dX3_begin_10 rfl (lv_at hl 0 rfl) ?_
  refine lv_iconst (v := 0) hx hb dX3_begin_11 (by decide) ?_
  refine va_put (D := (dC, dI)) (ci := 10) (v := .int 0) (ty := .int) (C := RX3) (T := TX3) (N := 20) hx hb hts i_X3 tyX3 tyX3_ok nmX3 hown hK hP hD hS 0 rfl rfl 1 (by decide) (hts _ qw892) (fun _ h9 => h9) rfl (by decide +kernel) rfl rfl (Nat.le_of_ble_eq_true rfl) dX3_begin_12 (fun H locs hP hD hS => ?_)
  have hP : va_P (dC, dI) cls (List.flatten ([(oX3 (p0a 0) (st1 p0a 5 (p1a 0)) p0k p0n (upw w1 0 1 0))] : List va_W)) H := hP
  have hD : va_D A (List.flatten ([(oX3 (p0a 0) (st1 p0a 5 (p1a 0)) p0k p0n (upw w1 0 1 0))] : List va_W)) := hD
  obtain ⟨w2, ew2, hrun⟩ := let9 hrun
  rw [← ew2] at hP hD
  refine lv_aload_n hx hb dX3_begin_15 rfl (lv_at hl 0 rfl) ?_
  refine lv_iconst (v := 0) hx hb dX3_begin_16 (by decide) ?_
  refine va_put (D := (dC, dI)) (ci := 10) (v := .int 0) (ty := .int) (C := RX3) (T := TX3) (N := 20) hx hb hts i_X3 tyX3 tyX3_ok nmX3 hown hK hP hD hS 0 rfl rfl 2 (by decide) (hts _ qw893) (fun _ h9 => h9) rfl (by decide +kernel) rfl rfl (Nat.le_of_ble_eq_true rfl) dX3_begin_17 (fun H locs hP hD hS => ?_)
  have hP : va_P (dC, dI) cls (List.flatten ([(oX3 (p0a 0) (st1 p0a 5 (p1a 0)) p0k p0n (upw w2 0 2 0))] : List va_W)) H := hP
  have hD : va_D A (List.flatten ([(oX3 (p0a 0) (st1 p0a 5 (p1a 0)) p0k p0n (upw w2 0 2 0))] : List va_W)) := hD
  obtain ⟨w3, ew3, hrun⟩ := let9 hrun
  rw [← ew3] at hP hD
  refine lv_aload_n hx hb dX3_begin_20 rfl (lv_at hl 0 rfl) ?_
  refine va_get (D := (dC, dI)) (ci := 10) (v := .ref (p0a 4)) (C := RX3) (T := TX3) (N := 20) hx hb hts i_X3 hown hK hP 0 rfl rfl 3 (by decide) (hts _ qw894) (fun _ h9 => h9) rfl dX3_begin_21 ?_
  refine lv_iconst (v := 0) hx hb dX3_begin_24 (by decide) ?_
  obtain ⟨o_4, hc_4, hrun⟩ := bnd9 hrun
  have hP2 : va_P (dC, dI) cls (List.flatten ([[((p0a 4), .inl ((p0k 4), 16, .inl (w3 4)))], [((p0a 0), .inr (10, [.int (w3 0 0), .int (w3 0 1), .int (w3 0 2), .ref (p0a 4), .ref (p1a 0), .ref (p0a 6), .ref (p0a 7), .ref (p0a 8), .int (w3 0 8), .int (w3 0 9), .ref (p0a 11), .ref (p0a 12), .ref (p0a 13), .ref (p0a 14), .ref (p0a 15), .ref (p0a 16), .ref (p0a 17), .int (w3 0 17), .ref (p0a 19), .int (w3 0 19)])), ((p0a 8), .inl ((p0k 8), 4, .inl (w3 8))), ((p0a 11), .inl ((p0k 11), 8, .inl (w3 11))), ((p0a 12), .inl ((p0k 12), 8, .inl (w3 12))), ((p0a 13), .inl ((p0k 13), 8, .inl (w3 13))), ((p0a 14), .inl ((p0k 14), 8, .inl (w3 14))), ((p0a 15), .inl ((p0k 15), 32, .inl (w3 15))), ((p0a 16), .inl ((p0k 16), 2560, .inl (w3 16))), ((p0a 17), .inl ((p0k 17), (p0n 17), .inl (w3 17))), ((p0a 19), .inl ((p0k 19), 512, .inl (w3 19)))]] : List va_W)) H := vP_perm hP ((bP (List.Perm.refl _)).trans (List.Perm.append_right _ (List.perm_middle (a := (((p0a 4), .inl ((p0k 4), 16, .inl (w3 4))) : Nat × va_E)) (l₁ := ([((p0a 0), .inr (10, [.int (w3 0 0), .int (w3 0 1), .int (w3 0 2), .ref (p0a 4), .ref (p1a 0), .ref (p0a 6), .ref (p0a 7), .ref (p0a 8), .int (w3 0 8), .int (w3 0 9), .ref (p0a 11), .ref (p0a 12), .ref (p0a 13), .ref (p0a 14), .ref (p0a 15), .ref (p0a 16), .ref (p0a 17), .int (w3 0 17), .ref (p0a 19), .int (w3 0 19)]))] : va_W)) (l₂ := ([((p0a 8), .inl ((p0k 8), 4, .inl (w3 8))), ((p0a 11), .inl ((p0k 11), 8, .inl (w3 11))), ((p0a 12), .inl ((p0k 12), 8, .inl (w3 12))), ((p0a 13), .inl ((p0k 13), 8, .inl (w3 13))), ((p0a 14), .inl ((p0k 14), 8, .inl (w3 14))), ((p0a 15), .inl ((p0k 15), 32, .inl (w3 15))), ((p0a 16), .inl ((p0k 16), 2560, .inl (w3 16))), ((p0a 17), .inl ((p0k 17), (p0n 17), .inl (w3 17))), ((p0a 19), .inl ((p0k 19), 512, .inl (w3 19)))] : va_W)))))
  have hD2 : va_D A (List.flatten ([[((p0a 4), .inl ((p0k 4), 16, .inl (w3 4)))], [((p0a 0), .inr (10, [.int (w3 0 0), .int (w3 0 1), .int (w3 0 2), .ref (p0a 4), .ref (p1a 0), .ref (p0a 6), .ref (p0a 7), .ref (p0a 8), .int (w3 0 8), .int (w3 0 9), .ref (p0a 11), .ref (p0a 12), .ref (p0a 13), .ref (p0a 14), .ref (p0a 15), .ref (p0a 16), .ref (p0a 17), .int (w3 0 17), .ref (p0a 19), .int (w3 0 19)])), ((p0a 8), .inl ((p0k 8), 4, .inl (w3 8))), ((p0a 11), .inl ((p0k 11), 8, .inl (w3 11))), ((p0a 12), .inl ((p0k 12), 8, .inl (w3 12))), ((p0a 13), .inl ((p0k 13), 8, .inl (w3 13))), ((p0a 14), .inl ((p0k 14), 8, .inl (w3 14))), ((p0a 15), .inl ((p0k 15), 32, .inl (w3 15))), ((p0a 16), .inl ((p0k 16), 2560, .inl (w3 16))), ((p0a 17), .inl ((p0k 17), (p0n 17), .inl (w3 17))), ((p0a 19), .inl ((p0k 19), 512, .inl (w3 19)))]] : List va_W)) := vD_perm hD ((bP (List.Perm.refl _)).trans (List.Perm.append_right _ (List.perm_middle (a := (((p0a 4), .inl ((p0k 4), 16, .inl (w3 4))) : Nat × va_E)) (l₁ := ([((p0a 0), .inr (10, [.int (w3 0 0), .int (w3 0 1), .int (w3 0 2), .ref (p0a 4), .ref (p1a 0), .ref (p0a 6), .ref (p0a 7), .ref (p0a 8), .int (w3 0 8), .int (w3 0 9), .ref (p0a 11), .ref (p0a 12), .ref (p0a 13), .ref (p0a 14), .ref (p0a 15), .ref (p0a 16), .ref (p0a 17), .int (w3 0 17), .ref (p0a 19), .int (w3 0 19)]))] : va_W)) (l₂ := ([((p0a 8), .inl ((p0k 8), 4, .inl (w3 8))), ((p0a 11), .inl ((p0k 11), 8, .inl (w3 11))), ((p0a 12), .inl ((p0k 12), 8, .inl (w3 12))), ((p0a 13), .inl ((p0k 13), 8, .inl (w3 13))), ((p0a 14), .inl ((p0k 14), 8, .inl (w3 14))), ((p0a 15), .inl ((p0k 15), 32, .inl (w3 15))), ((p0a 16), .inl ((p0k 16), 2560, .inl (w3 16))), ((p0a 17), .inl ((p0k 17), (p0n 17), .inl (w3 17))), ((p0a 19), .inl ((p0k 19), 512, .inl (w3 19)))] : va_W)))))
  have hK2 : va_K (dC, dI) cls (List.flatten ([[((p0k 4), .int)], [((p0k 8), .int), ((p0k 11), .int), ((p0k 12), .int), ((p0k 13), .int), ((p0k 14), .int), ((p0k 15), .int), ((p0k 16), .int), ((p0k 17), .int), ((p0k 19), .int)]] : List (List (ClassId × FieldType)))) s := vK_perm hK ((bP (List.Perm.refl _)).trans (List.Perm.append_right _ (List.perm_middle (a := (((p0k 4), .int) : ClassId × FieldType)) (l₁ := ([] : List (ClassId × FieldType))) (l₂ := ([((p0k 8), .int), ((p0k 11), .int), ((p0k 12), .int), ((p0k 13), .int), ((p0k 14), .int), ((p0k 15), .int), ((p0k 16), .int), ((p0k 17), .int), ((p0k 19), .int)] : List (ClassId × FieldType))))))
  have hPx : va_P (dC, dI) cls ((List.flatten ([[((p0a 4), .inl ((p0k 4), 16, .inl (w3 4)))]] : List va_W)) ++ (List.flatten ([[((p0a 0), .inr (10, [.int (w3 0 0), .int (w3 0 1), .int (w3 0 2), .ref (p0a 4), .ref (p1a 0), .ref (p0a 6), .ref (p0a 7), .ref (p0a 8), .int (w3 0 8), .int (w3 0 9), .ref (p0a 11), .ref (p0a 12), .ref (p0a 13), .ref (p0a 14), .ref (p0a 15), .ref (p0a 16), .ref (p0a 17), .int (w3 0 17), .ref (p0a 19), .int (w3 0 19)])), ((p0a 8), .inl ((p0k 8), 4, .inl (w3 8))), ((p0a 11), .inl ((p0k 11), 8, .inl (w3 11))), ((p0a 12), .inl ((p0k 12), 8, .inl (w3 12))), ((p0a 13), .inl ((p0k 13), 8, .inl (w3 13))), ((p0a 14), .inl ((p0k 14), 8, .inl (w3 14))), ((p0a 15), .inl ((p0k 15), 32, .inl (w3 15))), ((p0a 16), .inl ((p0k 16), 2560, .inl (w3 16))), ((p0a 17), .inl ((p0k 17), (p0n 17), .inl (w3 17))), ((p0a 19), .inl ((p0k 19), 512, .inl (w3 19)))]] : List va_W))) H := vP_fa (vP_perm hP2 (bP (List.Perm.refl _)))
  have hDx : va_D A ((List.flatten ([[((p0a 4), .inl ((p0k 4), 16, .inl (w3 4)))]] : List va_W)) ++ (List.flatten ([[((p0a 0), .inr (10, [.int (w3 0 0), .int (w3 0 1), .int (w3 0 2), .ref (p0a 4), .ref (p1a 0), .ref (p0a 6), .ref (p0a 7), .ref (p0a 8), .int (w3 0 8), .int (w3 0 9), .ref (p0a 11), .ref (p0a 12), .ref (p0a 13), .ref (p0a 14), .ref (p0a 15), .ref (p0a 16), .ref (p0a 17), .int (w3 0 17), .ref (p0a 19), .int (w3 0 19)])), ((p0a 8), .inl ((p0k 8), 4, .inl (w3 8))), ((p0a 11), .inl ((p0k 11), 8, .inl (w3 11))), ((p0a 12), .inl ((p0k 12), 8, .inl (w3 12))), ((p0a 13), .inl ((p0k 13), 8, .inl (w3 13))), ((p0a 14), .inl ((p0k 14), 8, .inl (w3 14))), ((p0a 15), .inl ((p0k 15), 32, .inl (w3 15))), ((p0a 16), .inl ((p0k 16), 2560, .inl (w3 16))), ((p0a 17), .inl ((p0k 17), (p0n 17), .inl (w3 17))), ((p0a 19), .inl ((p0k 19), 512, .inl (w3 19)))]] : List va_W))) := vD_fa (vD_perm hD2 (bP (List.Perm.refl _)))
  have hKx : va_K (dC, dI) cls ((List.flatten ([[((p0k 4), .int)]] : List (List (ClassId × FieldType)))) ++ (List.flatten ([[((p0k 8), .int), ((p0k 11), .int), ((p0k 12), .int), ((p0k 13), .int), ((p0k 14), .int), ((p0k 15), .int), ((p0k 16), .int), ((p0k 17), .int), ((p0k 19), .int)]] : List (List (ClassId × FieldType))))) s := vK_fa (vK_perm hK2 (bP (List.Perm.refl _)))
  have hPc := vP_l hPx
  have hDc := vD_l hDx
  have hKc := vK_l hKx
  have hFc := vfree hDx hS hA
  refine va_callv (va_runS (As := [.ref (p0a 4), .int 0]) (rest := []) ⟨hx, hb, hml, hown, hts⟩ (kJ7_fill_53178 l dC dI (p0a := (p0a 4)) (p0k := (p0k 4)) (p0n := 16) (p0f := (w3 4)) (p1 := 0) (sz := _) (o := o_4) (hrun := hc_4)) (va_cwS 2 hts (gi_S qw895 qw218 qw109 (gi_z qw216)) rfl rfl rfl (by decide +kernel) ⟨Nat.le_of_ble_eq_true rfl, Nat.le_of_ble_eq_true rfl⟩) ⟨PRE.blind, PRE.of hE hS hFc hPc hKc hDc⟩ rfl rfl hl.1 rfl (lv_room (Nat.le_of_ble_eq_true rfl)) dX3_begin_25 ⟨(Nat.le_of_ble_eq_true rfl), (Nat.le_of_ble_eq_true rfl)⟩) hS (fun q _ h => hFc q h) hFc (fun u t H locs ht hvm hw hB hz1 hk1 hS => ?_)
  obtain ⟨b1, b2, b3⟩ := hB
  rw [ht] at b1
  obtain ⟨hP, hD, hK⟩ := JOINC (wc := (List.flatten ([[((p0a 4), .inl ((p0k 4), 16, .inl (w3 4)))]] : List va_W))) (wr := (List.flatten ([[((p0a 0), .inr (10, [.int (w3 0 0), .int (w3 0 1), .int (w3 0 2), .ref (p0a 4), .ref (p1a 0), .ref (p0a 6), .ref (p0a 7), .ref (p0a 8), .int (w3 0 8), .int (w3 0 9), .ref (p0a 11), .ref (p0a 12), .ref (p0a 13), .ref (p0a 14), .ref (p0a 15), .ref (p0a 16), .ref (p0a 17), .int (w3 0 17), .ref (p0a 19), .int (w3 0 19)])), ((p0a 8), .inl ((p0k 8), 4, .inl (w3 8))), ((p0a 11), .inl ((p0k 11), 8, .inl (w3 11))), ((p0a 12), .inl ((p0k 12), 8, .inl (w3 12))), ((p0a 13), .inl ((p0k 13), 8, .inl (w3 13))), ((p0a 14), .inl ((p0k 14), 8, .inl (w3 14))), ((p0a 15), .inl ((p0k 15), 32, .inl (w3 15))), ((p0a 16), .inl ((p0k 16), 2560, .inl (w3 16))), ((p0a 17), .inl ((p0k 17), (p0n 17), .inl (w3 17))), ((p0a 19), .inl ((p0k 19), 512, .inl (w3 19)))]] : List va_W))) (w1 := (List.flatten ([[((p0a 4), .inl ((p0k 4), 16, .inl ((srw w3 4 o_4) 4)))]] : List va_W))) (t1 := (List.flatten ([[((p0k 4), .int)]] : List (List (ClassId × FieldType))))) hPx hDx hKx hk1 hFc b1 (va_K.moved hvm.symm b2) b3
  have hP3 : va_P (dC, dI) cls (List.flatten ([(oX3 (p0a 0) (st1 p0a 5 (p1a 0)) p0k p0n (srw w3 4 o_4))] : List va_W)) H := vP_perm (vP_fb hP) ((bP (List.Perm.refl _)).trans (List.Perm.append_right _ (List.perm_middle (a := (((p0a 4), .inl ((p0k 4), 16, .inl ((srw w3 4 o_4) 4))) : Nat × va_E)) (l₁ := ([((p0a 0), .inr (10, [.int ((srw w3 4 o_4) 0 0), .int ((srw w3 4 o_4) 0 1), .int ((srw w3 4 o_4) 0 2), .ref (p0a 4), .ref (p1a 0), .ref (p0a 6), .ref (p0a 7), .ref (p0a 8), .int ((srw w3 4 o_4) 0 8), .int ((srw w3 4 o_4) 0 9), .ref (p0a 11), .ref (p0a 12), .ref (p0a 13), .ref (p0a 14), .ref (p0a 15), .ref (p0a 16), .ref (p0a 17), .int ((srw w3 4 o_4) 0 17), .ref (p0a 19), .int ((srw w3 4 o_4) 0 19)]))] : va_W)) (l₂ := ([((p0a 8), .inl ((p0k 8), 4, .inl ((srw w3 4 o_4) 8))), ((p0a 11), .inl ((p0k 11), 8, .inl ((srw w3 4 o_4) 11))), ((p0a 12), .inl ((p0k 12), 8, .inl ((srw w3 4 o_4) 12))), ((p0a 13), .inl ((p0k 13), 8, .inl ((srw w3 4 o_4) 13))), ((p0a 14), .inl ((p0k 14), 8, .inl ((srw w3 4 o_4) 14))), ((p0a 15), .inl ((p0k 15), 32, .inl ((srw w3 4 o_4) 15))), ((p0a 16), .inl ((p0k 16), 2560, .inl ((srw w3 4 o_4) 16))), ((p0a 17), .inl ((p0k 17), (p0n 17), .inl ((srw w3 4 o_4) 17))), ((p0a 19), .inl ((p0k 19), 512, .inl ((srw w3 4 o_4) 19)))] : va_W))).symm))
  have hD3 : va_D A (List.flatten ([(oX3 (p0a 0) (st1 p0a 5 (p1a 0)) p0k p0n (srw w3 4 o_4))] : List va_W)) := vD_perm (vD_fb hD) ((bP (List.Perm.refl _)).trans (List.Perm.append_right _ (List.perm_middle (a := (((p0a 4), .inl ((p0k 4), 16, .inl ((srw w3 4 o_4) 4))) : Nat × va_E)) (l₁ := ([((p0a 0), .inr (10, [.int ((srw w3 4 o_4) 0 0), .int ((srw w3 4 o_4) 0 1), .int ((srw w3 4 o_4) 0 2), .ref (p0a 4), .ref (p1a 0), .ref (p0a 6), .ref (p0a 7), .ref (p0a 8), .int ((srw w3 4 o_4) 0 8), .int ((srw w3 4 o_4) 0 9), .ref (p0a 11), .ref (p0a 12), .ref (p0a 13), .ref (p0a 14), .ref (p0a 15), .ref (p0a 16), .ref (p0a 17), .int ((srw w3 4 o_4) 0 17), .ref (p0a 19), .int ((srw w3 4 o_4) 0 19)]))] : va_W)) (l₂ := ([((p0a 8), .inl ((p0k 8), 4, .inl ((srw w3 4 o_4) 8))), ((p0a 11), .inl ((p0k 11), 8, .inl ((srw w3 4 o_4) 11))), ((p0a 12), .inl ((p0k 12), 8, .inl ((srw w3 4 o_4) 12))), ((p0a 13), .inl ((p0k 13), 8, .inl ((srw w3 4 o_4) 13))), ((p0a 14), .inl ((p0k 14), 8, .inl ((srw w3 4 o_4) 14))), ((p0a 15), .inl ((p0k 15), 32, .inl ((srw w3 4 o_4) 15))), ((p0a 16), .inl ((p0k 16), 2560, .inl ((srw w3 4 o_4) 16))), ((p0a 17), .inl ((p0k 17), (p0n 17), .inl ((srw w3 4 o_4) 17))), ((p0a 19), .inl ((p0k 19), 512, .inl ((srw w3 4 o_4) 19)))] : va_W))).symm))
  have hK3 : va_K (dC, dI) cls (List.flatten ([(tX3 p0k)] : List (List (ClassId × FieldType)))) s := vK_perm (vK_fb hK) ((bP (List.Perm.refl _)).trans (List.Perm.append_right _ (List.perm_middle (a := (((p0k 4), .int) : ClassId × FieldType)) (l₁ := ([] : List (ClassId × FieldType))) (l₂ := ([((p0k 8), .int), ((p0k 11), .int), ((p0k 12), .int), ((p0k 13), .int), ((p0k 14), .int), ((p0k 15), .int), ((p0k 16), .int), ((p0k 17), .int), ((p0k 19), .int)] : List (ClassId × FieldType)))).symm))
  have hP : va_P (dC, dI) cls (List.flatten ([(oX3 (p0a 0) (st1 p0a 5 (p1a 0)) p0k p0n (srw w3 4 o_4))] : List va_W)) H := vP_perm hP3 (bP (List.Perm.refl _))
  have hD : va_D A (List.flatten ([(oX3 (p0a 0) (st1 p0a 5 (p1a 0)) p0k p0n (srw w3 4 o_4))] : List va_W)) := vD_perm hD3 (bP (List.Perm.refl _))
  have hK : va_K (dC, dI) cls (List.flatten ([(tX3 p0k)] : List (List (ClassId × FieldType)))) s := vK_perm hK3 (bP (List.Perm.refl _))
  have ho9 : (srw w3 4 o_4) = o := Option.some.inj hrun
  have hP9 : va_P (dC, dI) cls (List.flatten ([(oX3 (p0a 0) (st1 p0a 5 (p1a 0)) p0k p0n o)] : List va_W)) H := by first | exact hP | (rw [← ho9]; exact hP)
  have hD9 : va_D A (List.flatten ([(oX3 (p0a 0) (st1 p0a 5 (p1a 0)) p0k p0n o)] : List va_W)) := by first | exact hD | (rw [← ho9]; exact hD)
  subst hQ
  exact W.vret hx hb hr (fun t ht hW => ⟨⟨(), rfl, trivial, ⟨by rw [ht]; exact hP9, va_K.moved hW.alike hK, hD9⟩⟩, hS.F ht⟩) hS.2.2 dX3_begin_28
def fX3_bringBack (p0w : ST) (p1n : Nat) (p1f : RI) : Option ST := (if ixb 0 p1n = true then (lt9 (upw p0w 0 0 (p1f (nn 0))) fun (w2 : ST) => (if ixb 1 p1n = true then (lt9 (upw w2 0 1 (p1f (nn 1))) fun (w4 : ST) => (if ixb 2 p1n = true then (lt9 (upw w4 0 2 (p1f (nn 2))) fun (w6 : ST) => (if cpk 3 0 16 p1n 16 = true then (lt9 (srw w6 4 (va_cpy p1f (w6 4) (nn 3) (nn 0) (nn 16))) fun (w8 : ST) => some w8) else none)) else none)) else none)) else none)
set_option maxHeartbeats 16000000 in
set_option maxRecDepth 100000 in
theorem kX3_bringBack {zs : ZS} (l : Launch) (dC : Nat → ClassId) (dI : Nat → Nat → Nat) (p0a : Nat → Nat) (p0k : Nat → ClassId) (p0n : Nat → Nat) (p0w : ST) (p1a : Nat) (p1k : ClassId) (p1n : Nat) (p1f : RI) (sz : Nat) (o : ST) (hrun : fX3_bringBack p0w p1n p1f = some o) : Met l yX3_bringBack (wz yX3_bringBack cX3_bringBack 2 (Option.none : Option Jvm.ClassFile.FieldType)) ({ frames := 1, cells := 0, slots := 0, locals := 40 } : Room) (va_Pc [.ref (p0a 0), .ref p1a] (PRE zs dC dI (List.flatten ([(oX3 (p0a 0) p0a p0k p0n p0w), [(p1a, .inl (p1k, p1n, .inl p1f))]] : List va_W)) (List.flatten ([(tX3 p0k), [(p1k, .int)]] : List (List (ClassId × FieldType)))) sz)) (va_Qv (fun (_ : Unit) => True) (fun _ t => POST dC dI (List.flatten ([(oX3 (p0a 0) p0a p0k p0n o), [(p1a, .inl (p1k, p1n, .inl p1f))]] : List va_W)) (List.flatten ([(tX3 p0k), [(p1k, .int)]] : List (List (ClassId × FieldType)))) (va_A (List.flatten ([(oX3 (p0a 0) p0a p0k p0n p0w), [(p1a, .inl (p1k, p1n, .inl p1f))]] : List va_W)) sz) t) (va_A (List.flatten ([(oX3 (p0a 0) p0a p0k p0n p0w), [(p1a, .inl (p1k, p1n, .inl p1f))]] : List va_W)) sz)) 0 0 (va_A (List.flatten ([(oX3 (p0a 0) p0a p0k p0n p0w), [(p1a, .inl (p1k, p1n, .inl p1f))]] : List va_W)) sz) := by
  refine Met.ofW (cc := cX3_bringBack) (maxL := 2) (ret := (Option.none : Option Jvm.ClassFile.FieldType)) (by decide) rfl ?_
  intro p e s m args below meth c s₁ B hml hv
  obtain ⟨rfl, hsz, hP, hK, hD0, hE⟩ := hv
  have hx := B.exec
  have hb := B.bytes
  have hr := B.returns
  have hts0 := atoms_spec (ws := wz yX3_bringBack cX3_bringBack 2 (Option.none : Option Jvm.ClassFile.FieldType)) B.pre
  have hts : ∀ w ∈ gw, w.before _ s = true := fun w h => hts0 w (List.mem_cons_of_mem _ h)
  have hown : s.vm.findClass RX3 = some m.cls := findClass_of_methodNamed B.named
  have hlocks := B.notSynchronized
  subst hsz
  have hD := hD0.self (sz := s.heap.size)
  refine gQ9 ?_
  intro Q hQ
  generalize hAe : va_A (List.flatten ([(oX3 (p0a 0) p0a p0k p0n p0w), [(p1a, .inl (p1k, p1n, .inl p1f))]] : List va_W)) s.heap.size = A at hD hE hQ
  have hA : ∀ q : Nat, s.heap.size ≤ q → A q := fun q h => by rw [← hAe]; exact Or.inr h
  have hS : va_S A s.heap s.heap [] := va_S.rf
  have hP : va_P (dC, dI) cls (List.flatten ([(oX3 (p0a 0) p0a p0k p0n p0w), [(p1a, .inl (p1k, p1n, .inl p1f))]] : List va_W)) s.heap := hP
  have hl := lv_entry ([.ref (p0a 0), .ref p1a]) (n := 2) (Nat.le_of_ble_eq_true rfl)
  rw [lg_entry_eq]
  generalize (lg_sl ([.ref (p0a 0), .ref p1a]) ++ List.replicate (2 - (lg_sl ([.ref (p0a 0), .ref p1a])).length) Slot.unset).toArray = ls at hl ⊢
  have hl : lv_has ls 2 [(0, .ref (p0a 0)), (1, .ref p1a)] := hl
  obtain ⟨H, hHe⟩ : ∃ H, H = s.heap := ⟨_, rfl⟩
  obtain ⟨locs, hle⟩ : ∃ locs : List Loc, locs = [] := ⟨_, rfl⟩
  rw [← hHe] at hP
  have hS : va_S A s.heap H locs := by rw [hHe, hle]; exact hS
  show W p l e ({ frames := 1, cells := 0, slots := 0, locals := 40 } : Room) s m ([.ref (p0a 0), .ref p1a] : List Value).toArray below meth c s.heap [] 0 0 Q (F0 m 0 ls [])
  rw [← hle]
  refine wH9 hHe ?_
  unfold fX3_bringBack at hrun
  refine lv_aload_n hx hb dX3_bringBack_0 rfl (lv_at hl 0 rfl) ?_
  refine lv_aload_n hx hb dX3_bringBack_1 rfl (lv_at hl 1 rfl) ?_
  refine lv_iconst (v := 0) hx hb dX3_bringBack_2 (by decide) ?_
  obtain ⟨hq1, hrun⟩ := chk9 hrun
  refine va_iald hx hb hK hP 11 10 rfl rfl (ixb_in hq1) dX3_bringBack_3 ?_
  refine va_put (D := (dC, dI)) (ci := 10) (v := .int (p1f (nn 0))) (ty := .int) (C := RX3) (T := TX3) (N := 20) hx hb hts i_X3 tyX3 tyX3_ok nmX3 hown hK hP hD hS 0 rfl rfl 0 (by decide) (hts _ qw891) (fun _ h9 => h9) rfl (by decide +kernel) rfl rfl (Nat.le_of_ble_eq_true rfl) dX3_bringBack_4 (fun H locs hP hD hS => ?_)
  have hP : va_P (dC, dI) cls (List.flatten ([(oX3 (p0a 0) p0a p0k p0n (upw p0w 0 0 (p1f (nn 0)))), [(p1a, .inl (p1k, p1n, .inl p1f))]] : List va_W)) H := hP
  have hD : va_D A (List.flatten ([(oX3 (p0a 0) p0a p0k p0n (upw p0w 0 0 (p1f (nn 0)))), [(p1a, .inl (p1k, p1n, .inl p1f))]] : List va_W)) := hD
  obtain ⟨w2, ew2, hrun⟩ := let9 hrun
  rw [← ew2] at hP hD
  refine lv_aload_n hx hb dX3_bringBack_7 rfl (lv_at hl 0 rfl) ?_
  refine lv_aload_n hx hb dX3_bringBack_8 rfl (lv_at hl 1 rfl) ?_
  refine lv_iconst (v := 1) hx hb dX3_bringBack_9 (by decide) ?_
  obtain ⟨hq3, hrun⟩ := chk9 hrun
  refine va_iald hx hb hK hP 11 10 rfl rfl (ixb_in hq3) dX3_bringBack_10 ?_
  refine va_put (D := (dC, dI)) (ci := 10) (v := .int (p1f (nn 1))) (ty := .int) (C := RX3) (T := TX3) (N := 20) hx hb hts i_X3 tyX3 tyX3_ok nmX3 hown hK hP hD hS 0 rfl rfl 1 (by decide) (hts _ qw892) (fun _ h9 => h9) rfl (by decide +kernel) rfl rfl (Nat.le_of_ble_eq_true rfl) dX3_bringBack_11 (fun H locs hP hD hS => ?_)
  have hP : va_P (dC, dI) cls (List.flatten ([(oX3 (p0a 0) p0a p0k p0n (upw w2 0 1 (p1f (nn 1)))), [(p1a, .inl (p1k, p1n, .inl p1f))]] : List va_W)) H := hP
  have hD : va_D A (List.flatten ([(oX3 (p0a 0) p0a p0k p0n (upw w2 0 1 (p1f (nn 1)))), [(p1a, .inl (p1k, p1n, .inl p1f))]] : List va_W)) := hD
  obtain ⟨w4, ew4, hrun⟩ := let9 hrun
  rw [← ew4] at hP hD
  refine lv_aload_n hx hb dX3_bringBack_14 rfl (lv_at hl 0 rfl) ?_
  refine lv_aload_n hx hb dX3_bringBack_15 rfl (lv_at hl 1 rfl) ?_
  refine lv_iconst (v := 2) hx hb dX3_bringBack_16 (by decide) ?_
  obtain ⟨hq5, hrun⟩ := chk9 hrun
  refine va_iald hx hb hK hP 11 10 rfl rfl (ixb_in hq5) dX3_bringBack_17 ?_
  refine va_put (D := (dC, dI)) (ci := 10) (v := .int (p1f (nn 2))) (ty := .int) (C := RX3) (T := TX3) (N := 20) hx hb hts i_X3 tyX3 tyX3_ok nmX3 hown hK hP hD hS 0 rfl rfl 2 (by decide) (hts _ qw893) (fun _ h9 => h9) rfl (by decide +kernel) rfl rfl (Nat.le_of_ble_eq_true rfl) dX3_bringBack_18 (fun H locs hP hD hS => ?_)
  have hP : va_P (dC, dI) cls (List.flatten ([(oX3 (p0a 0) p0a p0k p0n (upw w4 0 2 (p1f (nn 2)))), [(p1a, .inl (p1k, p1n, .inl p1f))]] : List va_W)) H := hP
  have hD : va_D A (List.flatten ([(oX3 (p0a 0) p0a p0k p0n (upw w4 0 2 (p1f (nn 2)))), [(p1a, .inl (p1k, p1n, .inl p1f))]] : List va_W)) := hD
  obtain ⟨w6, ew6, hrun⟩ := let9 hrun
  rw [← ew6] at hP hD
  refine lv_aload_n hx hb dX3_bringBack_21 rfl (lv_at hl 1 rfl) ?_
  refine lv_iconst (v := 3) hx hb dX3_bringBack_22 (by decide) ?_
  refine lv_aload_n hx hb dX3_bringBack_23 rfl (lv_at hl 0 rfl) ?_
  refine va_get (D := (dC, dI)) (ci := 10) (v := .ref (p0a 4)) (C := RX3) (T := TX3) (N := 20) hx hb hts i_X3 hown hK hP 0 rfl rfl 3 (by decide) (hts _ qw894) (fun _ h9 => h9) rfl dX3_bringBack_24 ?_
  refine lv_iconst (v := 0) hx hb dX3_bringBack_27 (by decide) ?_
  refine lv_bipush (v := 16) hx hb dX3_bringBack_28 (by decide) ?_
  obtain ⟨hq7, hrun⟩ := chk9 hrun
  refine va_copyi (ty := .int) (sp := 3) (dp := 0) (n := 16) hx hb (hml.trans hl.1.symm) hown (hts _ qw896) (hts _ qw103) (hts _ qw104) (hts _ qw105) hK hP hD hS 11 1 10 0 rfl rfl rfl rfl rfl (cpk_1 hq7) (cpk_2 hq7) (cpk_3 hq7) (cpk_4 hq7) (cpk_5 hq7) (fun _ _ => rfl) (Nat.le_of_ble_eq_true rfl) (Nat.le_of_ble_eq_true rfl) dX3_bringBack_30 (fun H locs hP hD hS => ?_)
  have hP : va_P (dC, dI) cls (List.flatten ([(oX3 (p0a 0) p0a p0k p0n (srw w6 4 (va_cpy p1f (w6 4) (nn 3) (nn 0) (nn 16)))), [(p1a, .inl (p1k, p1n, .inl p1f))]] : List va_W)) H := hP
  have hD : va_D A (List.flatten ([(oX3 (p0a 0) p0a p0k p0n (srw w6 4 (va_cpy p1f (w6 4) (nn 3) (nn 0) (nn 16)))), [(p1a, .inl (p1k, p1n, .inl p1f))]] : List va_W)) := hD
  obtain ⟨w8, ew8, hrun⟩ := let9 hrun
  rw [← ew8] at hP hD
  have ho9 : w8 = o := Option.some.inj hrun
  have hP9 : va_P (dC, dI) cls (List.flatten ([(oX3 (p0a 0) p0a p0k p0n o), [(p1a, .inl (p1k, p1n, .inl p1f))]] : List va_W)) H := by first | exact hP | (rw [← ho9]; exact hP)
  have hD9 : va_D A (List.flatten ([(oX3 (p0a 0) p0a p0k p0n o), [(p1a, .inl (p1k, p1n, .inl p1f))]] : List va_W)) := by first | exact hD | (rw [← ho9]; exact hD)
  subst hQ
  exact W.vret hx hb hr (fun t ht hW => ⟨⟨(), rfl, trivial, ⟨by rw [ht]; exact hP9, va_K.moved hW.alike hK, hD9⟩⟩, hS.F ht⟩) hS.2.2 dX3_bringBack_33
def fX3_stop (p0w : ST) (p1 : Int32) : Option ST := (lt9 (upw p0w 0 0 p1) fun (w1 : ST) => (lt9 (upw w1 0 8 0) fun (w2 : ST) => some w2))
set_option maxHeartbeats 16000000 in
set_option maxRecDepth 100000 in
theorem kX3_stop {zs : ZS} (l : Launch) (dC : Nat → ClassId) (dI : Nat → Nat → Nat) (p0a : Nat → Nat) (p0k : Nat → ClassId) (p0n : Nat → Nat) (p0w : ST) (p1 : Int32) (sz : Nat) (o : ST) (hrun : fX3_stop p0w p1 = some o) : Met l yX3_stop (wz yX3_stop cX3_stop 2 (Option.none : Option Jvm.ClassFile.FieldType)) ({ frames := 0, cells := 0, slots := 0, locals := 0 } : Room) (va_Pc [.ref (p0a 0), .int p1] (PRE zs dC dI (List.flatten ([(oX3 (p0a 0) p0a p0k p0n p0w)] : List va_W)) (List.flatten ([(tX3 p0k)] : List (List (ClassId × FieldType)))) sz)) (va_Qv (fun (_ : Unit) => True) (fun _ t => POST dC dI (List.flatten ([(oX3 (p0a 0) p0a p0k p0n o)] : List va_W)) (List.flatten ([(tX3 p0k)] : List (List (ClassId × FieldType)))) (va_A (List.flatten ([(oX3 (p0a 0) p0a p0k p0n p0w)] : List va_W)) sz) t) (va_A (List.flatten ([(oX3 (p0a 0) p0a p0k p0n p0w)] : List va_W)) sz)) 0 0 (va_A (List.flatten ([(oX3 (p0a 0) p0a p0k p0n p0w)] : List va_W)) sz) := by
  refine Met.ofW (cc := cX3_stop) (maxL := 2) (ret := (Option.none : Option Jvm.ClassFile.FieldType)) (by decide) rfl ?_
  intro p e s m args below meth c s₁ B hml hv
  obtain ⟨rfl, hsz, hP, hK, hD0, hE⟩ := hv
  have hx := B.exec
  have hb := B.bytes
  have hr := B.returns
  have hts0 := atoms_spec (ws := wz yX3_stop cX3_stop 2 (Option.none : Option Jvm.ClassFile.FieldType)) B.pre
  have hts : ∀ w ∈ gw, w.before _ s = true := fun w h => hts0 w (List.mem_cons_of_mem _ h)
  have hown : s.vm.findClass RX3 = some m.cls := findClass_of_methodNamed B.named
  have hlocks := B.notSynchronized
  subst hsz
  have hD := hD0.self (sz := s.heap.size)
  refine gQ9 ?_
  intro Q hQ
  generalize hAe : va_A (List.flatten ([(oX3 (p0a 0) p0a p0k p0n p0w)] : List va_W)) s.heap.size = A at hD hE hQ
  have hA : ∀ q : Nat, s.heap.size ≤ q → A q := fun q h => by rw [← hAe]; exact Or.inr h
  have hS : va_S A s.heap s.heap [] := va_S.rf
  have hP : va_P (dC, dI) cls (List.flatten ([(oX3 (p0a 0) p0a p0k p0n p0w)] : List va_W)) s.heap := hP
  have hl := lv_entry ([.ref (p0a 0), .int p1]) (n := 2) (Nat.le_of_ble_eq_true rfl)
  rw [lg_entry_eq]
  generalize (lg_sl ([.ref (p0a 0), .int p1]) ++ List.replicate (2 - (lg_sl ([.ref (p0a 0), .int p1])).length) Slot.unset).toArray = ls at hl ⊢
  have hl : lv_has ls 2 [(0, .ref (p0a 0)), (1, .int p1)] := hl
  obtain ⟨H, hHe⟩ : ∃ H, H = s.heap := ⟨_, rfl⟩
  obtain ⟨locs, hle⟩ : ∃ locs : List Loc, locs = [] := ⟨_, rfl⟩
  rw [← hHe] at hP
  have hS : va_S A s.heap H locs := by rw [hHe, hle]; exact hS
  show W p l e ({ frames := 0, cells := 0, slots := 0, locals := 0 } : Room) s m ([.ref (p0a 0), .int p1] : List Value).toArray below meth c s.heap [] 0 0 Q (F0 m 0 ls [])
  rw [← hle]
  refine wH9 hHe ?_
  unfold fX3_stop at hrun
  refine lv_aload_n hx hb dX3_stop_0 rfl (lv_at hl 0 rfl) ?_
  refine lv_iload_n hx hb dX3_stop_1 rfl (lv_at hl 1 rfl) ?_
  refine va_put (D := (dC, dI)) (ci := 10) (v := .int p1) (ty := .int) (C := RX3) (T := TX3) (N := 20) hx hb hts i_X3 tyX3 tyX3_ok nmX3 hown hK hP hD hS 0 rfl rfl 0 (by decide) (hts _ qw891) (fun _ h9 => h9) rfl (by decide +kernel) rfl rfl (Nat.le_of_ble_eq_true rfl) dX3_stop_2 (fun H locs hP hD hS => ?_)
  have hP : va_P (dC, dI) cls (List.flatten ([(oX3 (p0a 0) p0a p0k p0n (upw p0w 0 0 p1))] : List va_W)) H := hP
  have hD : va_D A (List.flatten ([(oX3 (p0a 0) p0a p0k p0n (upw p0w 0 0 p1))] : List va_W)) := hD
  obtain ⟨w1, ew1, hrun⟩ := let9 hrun
  rw [← ew1] at hP hD
  refine lv_aload_n hx hb dX3_stop_5 rfl (lv_at hl 0 rfl) ?_
  refine lv_iconst (v := 0) hx hb dX3_stop_6 (by decide) ?_
  refine va_put (D := (dC, dI)) (ci := 10) (v := .int 0) (ty := .boolean) (C := RX3) (T := TX3) (N := 20) hx hb hts i_X3 tyX3 tyX3_ok nmX3 hown hK hP hD hS 0 rfl rfl 8 (by decide) (hts _ qw898) (fun _ h9 => h9) rfl (by decide +kernel) rfl rfl (Nat.le_of_ble_eq_true rfl) dX3_stop_7 (fun H locs hP hD hS => ?_)
  have hP : va_P (dC, dI) cls (List.flatten ([(oX3 (p0a 0) p0a p0k p0n (upw w1 0 8 0))] : List va_W)) H := hP
  have hD : va_D A (List.flatten ([(oX3 (p0a 0) p0a p0k p0n (upw w1 0 8 0))] : List va_W)) := hD
  obtain ⟨w2, ew2, hrun⟩ := let9 hrun
  rw [← ew2] at hP hD
  have ho9 : w2 = o := Option.some.inj hrun
  have hP9 : va_P (dC, dI) cls (List.flatten ([(oX3 (p0a 0) p0a p0k p0n o)] : List va_W)) H := by first | exact hP | (rw [← ho9]; exact hP)
  have hD9 : va_D A (List.flatten ([(oX3 (p0a 0) p0a p0k p0n o)] : List va_W)) := by first | exact hD | (rw [← ho9]; exact hD)
  subst hQ
  exact W.vret hx hb hr (fun t ht hW => ⟨⟨(), rfl, trivial, ⟨by rw [ht]; exact hP9, va_K.moved hW.alike hK, hD9⟩⟩, hS.F ht⟩) hS.2.2 dX3_stop_10
def fX3_close_J39 (p0w_27 : ST) (y0_39 : Int32) : Option (Int32 × ST) := (if y0_39 = 0 ∨ y0_39 = 1 then some (y0_39, p0w_27) else none)
def fX3_close_J27 (p0w_27 : ST) : Option (Int32 × ST) := (if (p0w_27 0 9) ≤ 0 then (fX3_close_J39 p0w_27 0) else (fX3_close_J39 p0w_27 1))
def fX3_close (p0w : ST) (p1 : Int32) : Option (Int32 × ST) := (lt9 (upw p0w 0 9 ((p0w 0 9) - 1)) fun (w1 : ST) => (if (w1 0 9) = 0 then ((fX3_stop w1 0).bind fun (o_4 : ST) => (lt9 (upw o_4 0 1 p1) fun (w5 : ST) => (fX3_close_J27 w5))) else (fX3_close_J27 w1)))
set_option maxHeartbeats 16000000 in
set_option maxRecDepth 100000 in
theorem kX3_close {zs : ZS} (l : Launch) (dC : Nat → ClassId) (dI : Nat → Nat → Nat) (p0a : Nat → Nat) (p0k : Nat → ClassId) (p0n : Nat → Nat) (p0w : ST) (p1 : Int32) (sz : Nat) (o : Int32 × ST) (hrun : fX3_close p0w p1 = some o) : Met l yX3_close (wz yX3_close cX3_close 2 (Option.some Jvm.ClassFile.FieldType.boolean)) ({ frames := 1, cells := 0, slots := 0, locals := 21 } : Room) (va_Pc [.ref (p0a 0), .int p1] (PRE zs dC dI (List.flatten ([(oX3 (p0a 0) p0a p0k p0n p0w)] : List va_W)) (List.flatten ([(tX3 p0k)] : List (List (ClassId × FieldType)))) sz)) (va_Qi (fun (r : Int32) (_ : Unit) => r = (o.1)) (fun _ t => POST dC dI (List.flatten ([(oX3 (p0a 0) p0a p0k p0n (o.2))] : List va_W)) (List.flatten ([(tX3 p0k)] : List (List (ClassId × FieldType)))) (va_A (List.flatten ([(oX3 (p0a 0) p0a p0k p0n p0w)] : List va_W)) sz) t) (va_A (List.flatten ([(oX3 (p0a 0) p0a p0k p0n p0w)] : List va_W)) sz)) 0 0 (va_A (List.flatten ([(oX3 (p0a 0) p0a p0k p0n p0w)] : List va_W)) sz) := by
  refine Met.ofW (cc := cX3_close) (maxL := 2) (ret := (Option.some Jvm.ClassFile.FieldType.boolean)) (by decide) rfl ?_
  intro p e s m args below meth c s₁ B hml hv
  obtain ⟨rfl, hsz, hP, hK, hD0, hE⟩ := hv
  have hx := B.exec
  have hb := B.bytes
  have hr := B.returns
  have hts0 := atoms_spec (ws := wz yX3_close cX3_close 2 (Option.some Jvm.ClassFile.FieldType.boolean)) B.pre
  have hts : ∀ w ∈ gw, w.before _ s = true := fun w h => hts0 w (List.mem_cons_of_mem _ h)
  have hown : s.vm.findClass RX3 = some m.cls := findClass_of_methodNamed B.named
  have hlocks := B.notSynchronized
  subst hsz
  have hD := hD0.self (sz := s.heap.size)
  refine gQ9 ?_
  intro Q hQ
  generalize hAe : va_A (List.flatten ([(oX3 (p0a 0) p0a p0k p0n p0w)] : List va_W)) s.heap.size = A at hD hE hQ
  have hA : ∀ q : Nat, s.heap.size ≤ q → A q := fun q h => by rw [← hAe]; exact Or.inr h
  have hS : va_S A s.heap s.heap [] := va_S.rf
  have hP : va_P (dC, dI) cls (List.flatten ([(oX3 (p0a 0) p0a p0k p0n p0w)] : List va_W)) s.heap := hP
  have hl := lv_entry ([.ref (p0a 0), .int p1]) (n := 2) (Nat.le_of_ble_eq_true rfl)
  rw [lg_entry_eq]
  generalize (lg_sl ([.ref (p0a 0), .int p1]) ++ List.replicate (2 - (lg_sl ([.ref (p0a 0), .int p1])).length) Slot.unset).toArray = ls at hl ⊢
  have hl : lv_has ls 2 [(0, .ref (p0a 0)), (1, .int p1)] := hl
  obtain ⟨H, hHe⟩ : ∃ H, H = s.heap := ⟨_, rfl⟩
  obtain ⟨locs, hle⟩ : ∃ locs : List Loc, locs = [] := ⟨_, rfl⟩
  rw [← hHe] at hP
  have hS : va_S A s.heap H locs := by rw [hHe, hle]; exact hS
  show W p l e ({ frames := 1, cells := 0, slots := 0, locals := 21 } : Room) s m ([.ref (p0a 0), .int p1] : List Value).toArray below meth c s.heap [] 0 0 Q (F0 m 0 ls [])
  rw [← hle]
  refine wH9 hHe ?_
  unfold fX3_close at hrun
  refine lv_aload_n hx hb dX3_close_0 rfl (lv_at hl 0 rfl) ?_
  refine lv_dup hx hb dX3_close_1 rfl ?_
  refine va_get (D := (dC, dI)) (ci := 10) (v := .int (p0w 0 9)) (C := RX3) (T := TX3) (N := 20) hx hb hts i_X3 hown hK hP 0 rfl rfl 9 (by decide) (hts _ qw897) (fun _ h9 => h9) rfl dX3_close_2 ?_
  refine lv_iconst (v := 1) hx hb dX3_close_5 (by decide) ?_
  refine lv_isub hx hb dX3_close_6 ?_
  refine va_put (D := (dC, dI)) (ci := 10) (v := .int ((p0w 0 9) - 1)) (ty := .int) (C := RX3) (T := TX3) (N := 20) hx hb hts i_X3 tyX3 tyX3_ok nmX3 hown hK hP hD hS 0 rfl rfl 9 (by decide) (hts _ qw897) (fun _ h9 => h9) rfl (by decide +kernel) rfl rfl (Nat.le_of_ble_eq_true rfl) dX3_close_7 (fun H locs hP hD hS => ?_)
  have hP : va_P (dC, dI) cls (List.flatten ([(oX3 (p0a 0) p0a p0k p0n (upw p0w 0 9 ((p0w 0 9) - 1)))] : List va_W)) H := hP
  have hD : va_D A (List.flatten ([(oX3 (p0a 0) p0a p0k p0n (upw p0w 0 9 ((p0w 0 9) - 1)))] : List va_W)) := hD
  obtain ⟨w1, ew1, hrun⟩ := let9 hrun
  rw [← ew1] at hP hD
  refine lv_aload_n hx hb dX3_close_10 rfl (lv_at hl 0 rfl) ?_
  refine va_get (D := (dC, dI)) (ci := 10) (v := .int (w1 0 9)) (C := RX3) (T := TX3) (N := 20) hx hb hts i_X3 hown hK hP 0 rfl rfl 9 (by decide) (hts _ qw897) (fun _ h9 => h9) rfl dX3_close_11 ?_
  have J27 : ∀ (p0w_27 : ST) (H : Heap) (locs : List Loc) (ls : Array Slot), (fX3_close_J27 p0w_27) = some o → va_P (dC, dI) cls (List.flatten ([(oX3 (p0a 0) p0a p0k p0n p0w_27)] : List va_W)) H → va_D A (List.flatten ([(oX3 (p0a 0) p0a p0k p0n p0w_27)] : List va_W)) → va_K (dC, dI) cls (List.flatten ([(tX3 p0k)] : List (List (ClassId × FieldType)))) s → va_S A s.heap H locs → lv_has ls 2 [(0, .ref (p0a 0))] → W p l e ({ frames := 1, cells := 0, slots := 0, locals := 21 } : Room) s m ([.ref (p0a 0), .int p1] : List Value).toArray below meth c H locs 0 0 Q (F0 m 27 ls []) := by
    intro p0w_27 H locs ls hrun hP hD hK hS hl 
    unfold fX3_close_J27 at hrun
    refine lv_aload_n hx hb dX3_close_27 rfl (lv_at hl 0 rfl) ?_
    refine va_get (D := (dC, dI)) (ci := 10) (v := .int (p0w_27 0 9)) (C := RX3) (T := TX3) (N := 20) hx hb hts i_X3 hown hK hP 0 rfl rfl 9 (by decide) (hts _ qw897) (fun _ h9 => h9) rfl dX3_close_28 ?_
    have J39 : ∀ (y0_39 : Int32) (H : Heap) (locs : List Loc) (ls : Array Slot), (fX3_close_J39 p0w_27 y0_39) = some o → va_P (dC, dI) cls (List.flatten ([(oX3 (p0a 0) p0a p0k p0n p0w_27)] : List va_W)) H → va_D A (List.flatten ([(oX3 (p0a 0) p0a p0k p0n p0w_27)] : List va_W)) → va_K (dC, dI) cls (List.flatten ([(tX3 p0k)] : List (List (ClassId × FieldType)))) s → va_S A s.heap H locs → lv_has ls 2 [] → W p l e ({ frames := 1, cells := 0, slots := 0, locals := 21 } : Room) s m ([.ref (p0a 0), .int p1] : List Value).toArray below meth c H locs 0 0 Q (F0 m 39 ls [.int y0_39]) := by
      intro y0_39 H locs ls hrun hP hD hK hS hl 
      unfold fX3_close_J39 at hrun
      obtain ⟨hz9, hrun⟩ := chk9 hrun
      have ho9 : (y0_39, p0w_27) = o := Option.some.inj hrun
      have hP9 : va_P (dC, dI) cls (List.flatten ([(oX3 (p0a 0) p0a p0k p0n (o.2))] : List va_W)) H := by first | exact hP | (rw [← ho9]; exact hP)
      have hD9 : va_D A (List.flatten ([(oX3 (p0a 0) p0a p0k p0n (o.2))] : List va_W)) := by first | exact hD | (rw [← ho9]; exact hD)
      subst hQ
      exact W.zret (v := y0_39) hx hb hr (bz9 hz9) (fun t ht hW => ⟨⟨y0_39, (), rfl, (by rw [← ho9]), ⟨by rw [ht]; exact hP9, va_K.moved hW.alike hK, hD9⟩⟩, hS.F ht⟩) hS.2.2 dX3_close_39
    rcases br9 hrun with ⟨hc2, hrun⟩ | ⟨hc2, hrun⟩
    · refine lv_if_le (tgt := 38) hx hb dX3_close_31 (by decide) (fun _ => ?_) (fun c => absurd hc2 c)
      refine lv_iconst (v := 0) hx hb dX3_close_38 (by decide) ?_
      exact J39 0 _ _ _ hrun hP hD hK hS (lv_sub hl [] rfl)
    · refine lv_if_le (tgt := 38) hx hb dX3_close_31 (by decide) (fun c => absurd c hc2) (fun _ => ?_)
      refine lv_iconst (v := 1) hx hb dX3_close_34 (by decide) ?_
      refine lv_goto (tgt := 39) hx hb dX3_close_35 (by decide) ?_
      exact J39 1 _ _ _ hrun hP hD hK hS (lv_sub hl [] rfl)
  rcases br9 hrun with ⟨hc3, hrun⟩ | ⟨hc3, hrun⟩
  · refine lv_if_ne (tgt := 27) hx hb dX3_close_14 (by decide) (fun c => absurd hc3 c) (fun _ => ?_)
    refine lv_aload_n hx hb dX3_close_17 rfl (lv_at hl 0 rfl) ?_
    refine lv_iconst (v := 0) hx hb dX3_close_18 (by decide) ?_
    obtain ⟨o_4, hc_4, hrun⟩ := bnd9 hrun
    have hPx : va_P (dC, dI) cls ((List.flatten ([(oX3 (p0a 0) p0a p0k p0n w1)] : List va_W)) ++ (List.flatten ([] : List va_W))) H := vP_fa (vP_perm hP (bP (List.Perm.refl _)))
    have hDx : va_D A ((List.flatten ([(oX3 (p0a 0) p0a p0k p0n w1)] : List va_W)) ++ (List.flatten ([] : List va_W))) := vD_fa (vD_perm hD (bP (List.Perm.refl _)))
    have hKx : va_K (dC, dI) cls ((List.flatten ([(tX3 p0k)] : List (List (ClassId × FieldType)))) ++ (List.flatten ([] : List (List (ClassId × FieldType))))) s := vK_fa (vK_perm hK (bP (List.Perm.refl _)))
    have hPc := vP_l hPx
    have hDc := vD_l hDx
    have hKc := vK_l hKx
    have hFc := vfree hDx hS hA
    refine va_callv (va_runV (As := [.int 0]) (rest := []) ⟨hx, hb, hml, hown, hts⟩ (kX3_stop l dC dI (p0a := p0a) (p0k := p0k) (p0n := p0n) (p0w := w1) (p1 := 0) (sz := _) (o := o_4) (hrun := hc_4)) (cwV 1 hts (gi_V qw900 qw901 qw902 qw903 (gi_z qw899)) rfl rfl rfl (by decide +kernel) ⟨Nat.le_of_ble_eq_true rfl, Nat.le_of_ble_eq_true rfl⟩) ⟨PRE.blind, va_recv hKc hPc (ci := 10) (q0 := 0) rfl rfl, PRE.of hE hS hFc hPc hKc hDc⟩ rfl rfl hl.1 rfl (lv_room (Nat.le_of_ble_eq_true rfl)) dX3_close_19 ⟨(Nat.le_of_ble_eq_true rfl), (Nat.le_of_ble_eq_true rfl)⟩) hS (fun q _ h => hFc q h) hFc (fun u t H locs ht hvm hw hB hz1 hk1 hS => ?_)
    obtain ⟨b1, b2, b3⟩ := hB
    rw [ht] at b1
    obtain ⟨hP, hD, hK⟩ := JOINC (wc := (List.flatten ([(oX3 (p0a 0) p0a p0k p0n w1)] : List va_W))) (wr := (List.flatten ([] : List va_W))) (w1 := (List.flatten ([(oX3 (p0a 0) p0a p0k p0n o_4)] : List va_W))) (t1 := (List.flatten ([(tX3 p0k)] : List (List (ClassId × FieldType))))) hPx hDx hKx hk1 hFc b1 (va_K.moved hvm.symm b2) b3
    have hP : va_P (dC, dI) cls (List.flatten ([(oX3 (p0a 0) p0a p0k p0n o_4)] : List va_W)) H := vP_perm (vP_fb hP) (bP (List.Perm.refl _))
    have hD : va_D A (List.flatten ([(oX3 (p0a 0) p0a p0k p0n o_4)] : List va_W)) := vD_perm (vD_fb hD) (bP (List.Perm.refl _))
    have hK : va_K (dC, dI) cls (List.flatten ([(tX3 p0k)] : List (List (ClassId × FieldType)))) s := vK_perm (vK_fb hK) (bP (List.Perm.refl _))
    refine lv_aload_n hx hb dX3_close_22 rfl (lv_at hl 0 rfl) ?_
    refine lv_iload_n hx hb dX3_close_23 rfl (lv_at hl 1 rfl) ?_
    refine va_put (D := (dC, dI)) (ci := 10) (v := .int p1) (ty := .int) (C := RX3) (T := TX3) (N := 20) hx hb hts i_X3 tyX3 tyX3_ok nmX3 hown hK hP hD hS 0 rfl rfl 1 (by decide) (hts _ qw892) (fun _ h9 => h9) rfl (by decide +kernel) rfl rfl (Nat.le_of_ble_eq_true rfl) dX3_close_24 (fun H locs hP hD hS => ?_)
    have hP : va_P (dC, dI) cls (List.flatten ([(oX3 (p0a 0) p0a p0k p0n (upw o_4 0 1 p1))] : List va_W)) H := hP
    have hD : va_D A (List.flatten ([(oX3 (p0a 0) p0a p0k p0n (upw o_4 0 1 p1))] : List va_W)) := hD
    obtain ⟨w5, ew5, hrun⟩ := let9 hrun
    rw [← ew5] at hP hD
    exact J27 w5 _ _ _ hrun hP hD hK hS (lv_sub hl [0] rfl)
  · refine lv_if_ne (tgt := 27) hx hb dX3_close_14 (by decide) (fun _ => ?_) (fun c => absurd c hc3)
    exact J27 w1 _ _ _ hrun hP hD hK hS (lv_sub hl [0] rfl)
def fX3_endAlike_J24 (kk2 : Int32 → Option (Sum Int32 Unit)) (v2_2 : Int32) : Option (Sum Int32 Unit) := (kk2 (v2_2 + 1))
def fX3_endAlike_L2 (p0n : Nat) (p0f : RI) (p1n : Nat) (p1f : RI) : Nat → Int32 → Option (Sum Int32 Unit)
  | 0 => fun _ => none
  | n_2 + 1 => fun v2_2 => (if 19 ≤ v2_2 then some (Sum.inr ()) else (if v2_2 = 2 then (fX3_endAlike_J24 (fX3_endAlike_L2 p0n p0f p1n p1f n_2) v2_2) else (if ixb v2_2 p0n = true then (if ixb v2_2 p1n = true then (if (p0f (nn v2_2)) = (p1f (nn v2_2)) then (fX3_endAlike_J24 (fX3_endAlike_L2 p0n p0f p1n p1f n_2) v2_2) else some (Sum.inl 0)) else none) else none)))
def fX3_endAlike (p0n : Nat) (p0f : RI) (p1n : Nat) (p1f : RI) : Option Int32 := ((fX3_endAlike_L2 p0n p0f p1n p1f NF 0).bind fun (o2 : (Sum Int32 Unit)) => Sum.elim (fun r => some r) (fun (t2 : Unit) => some 1) o2)
set_option maxHeartbeats 16000000 in
set_option maxRecDepth 100000 in
theorem kX3_endAlike {zs : ZS} (l : Launch) (dC : Nat → ClassId) (dI : Nat → Nat → Nat) (p0a : Nat) (p0k : ClassId) (p0n : Nat) (p0f : RI) (p1a : Nat) (p1k : ClassId) (p1n : Nat) (p1f : RI) (sz : Nat) (o : Int32) (hrun : fX3_endAlike p0n p0f p1n p1f = some o) : Met l yX3_endAlike (wz yX3_endAlike cX3_endAlike 3 (Option.some Jvm.ClassFile.FieldType.boolean)) ({ frames := 0, cells := 0, slots := 0, locals := 0 } : Room) (va_Pc [.ref p0a, .ref p1a] (PRE zs dC dI (List.flatten ([[(p0a, .inl (p0k, p0n, .inl p0f))], [(p1a, .inl (p1k, p1n, .inl p1f))]] : List va_W)) (List.flatten ([[(p0k, .int)], [(p1k, .int)]] : List (List (ClassId × FieldType)))) sz)) (va_Qi (fun (r : Int32) (_ : Unit) => r = o) (fun _ t => POST dC dI (List.flatten ([[(p0a, .inl (p0k, p0n, .inl p0f))], [(p1a, .inl (p1k, p1n, .inl p1f))]] : List va_W)) (List.flatten ([[(p0k, .int)], [(p1k, .int)]] : List (List (ClassId × FieldType)))) (va_A (List.flatten ([[(p0a, .inl (p0k, p0n, .inl p0f))], [(p1a, .inl (p1k, p1n, .inl p1f))]] : List va_W)) sz) t) (va_A (List.flatten ([[(p0a, .inl (p0k, p0n, .inl p0f))], [(p1a, .inl (p1k, p1n, .inl p1f))]] : List va_W)) sz)) 0 0 (va_A (List.flatten ([[(p0a, .inl (p0k, p0n, .inl p0f))], [(p1a, .inl (p1k, p1n, .inl p1f))]] : List va_W)) sz) := by
  refine Met.ofW (cc := cX3_endAlike) (maxL := 3) (ret := (Option.some Jvm.ClassFile.FieldType.boolean)) (by decide) rfl ?_
  intro p e s m args below meth c s₁ B hml hv
  obtain ⟨rfl, hsz, hP, hK, hD0, hE⟩ := hv
  have hx := B.exec
  have hb := B.bytes
  have hr := B.returns
  have hts0 := atoms_spec (ws := wz yX3_endAlike cX3_endAlike 3 (Option.some Jvm.ClassFile.FieldType.boolean)) B.pre
  have hts : ∀ w ∈ gw, w.before _ s = true := fun w h => hts0 w (List.mem_cons_of_mem _ h)
  have hown : s.vm.findClass RX3 = some m.cls := findClass_of_methodNamed B.named
  have hlocks := B.notSynchronized
  subst hsz
  have hD := hD0.self (sz := s.heap.size)
  refine gQ9 ?_
  intro Q hQ
  generalize hAe : va_A (List.flatten ([[(p0a, .inl (p0k, p0n, .inl p0f))], [(p1a, .inl (p1k, p1n, .inl p1f))]] : List va_W)) s.heap.size = A at hD hE hQ
  have hA : ∀ q : Nat, s.heap.size ≤ q → A q := fun q h => by rw [← hAe]; exact Or.inr h
  have hS : va_S A s.heap s.heap [] := va_S.rf
  have hP : va_P (dC, dI) cls (List.flatten ([[(p0a, .inl (p0k, p0n, .inl p0f))], [(p1a, .inl (p1k, p1n, .inl p1f))]] : List va_W)) s.heap := hP
  have hl := lv_entry ([.ref p0a, .ref p1a]) (n := 3) (Nat.le_of_ble_eq_true rfl)
  rw [lg_entry_eq]
  generalize (lg_sl ([.ref p0a, .ref p1a]) ++ List.replicate (3 - (lg_sl ([.ref p0a, .ref p1a])).length) Slot.unset).toArray = ls at hl ⊢
  have hl : lv_has ls 3 [(0, .ref p0a), (1, .ref p1a)] := hl
  obtain ⟨H, hHe⟩ : ∃ H, H = s.heap := ⟨_, rfl⟩
  obtain ⟨locs, hle⟩ : ∃ locs : List Loc, locs = [] := ⟨_, rfl⟩
  rw [← hHe] at hP
  have hS : va_S A s.heap H locs := by rw [hHe, hle]; exact hS
  show W p l e ({ frames := 0, cells := 0, slots := 0, locals := 0 } : Room) s m ([.ref p0a, .ref p1a] : List Value).toArray below meth c s.heap [] 0 0 Q (F0 m 0 ls [])
  rw [← hle]
  refine wH9 hHe ?_
  unfold fX3_endAlike at hrun
  refine lv_iconst (v := 0) hx hb dX3_endAlike_0 (by decide) ?_
  refine lv_istore_n (lv' := [(2, .int 0), (0, .ref p0a), (1, .ref p1a)]) hx hb dX3_endAlike_1 rfl hl (by decide) rfl (fun ls hl => ?_)
  have L2 : ∀ (n_2 : Nat) (v2_2 : Int32) (o2 : (Sum Int32 Unit)) (H : Heap) (locs : List Loc) (ls : Array Slot), (fX3_endAlike_L2 p0n p0f p1n p1f n_2) v2_2 = some o2 → va_P (dC, dI) cls (List.flatten ([[(p0a, .inl (p0k, p0n, .inl p0f))], [(p1a, .inl (p1k, p1n, .inl p1f))]] : List va_W)) H → va_D A (List.flatten ([[(p0a, .inl (p0k, p0n, .inl p0f))], [(p1a, .inl (p1k, p1n, .inl p1f))]] : List va_W)) → va_K (dC, dI) cls (List.flatten ([[(p0k, .int)], [(p1k, .int)]] : List (List (ClassId × FieldType)))) s → va_S A s.heap H locs → lv_has ls 3 [(0, .ref p0a), (1, .ref p1a), (2, .int v2_2)] → (∀ r, o2 = Sum.inl r → r = o) → (∀ (t2 : Unit), o2 = Sum.inr t2 → ∀ (H : Heap) (locs : List Loc) (ls : Array Slot), va_P (dC, dI) cls (List.flatten ([[(p0a, .inl (p0k, p0n, .inl p0f))], [(p1a, .inl (p1k, p1n, .inl p1f))]] : List va_W)) H → va_D A (List.flatten ([[(p0a, .inl (p0k, p0n, .inl p0f))], [(p1a, .inl (p1k, p1n, .inl p1f))]] : List va_W)) → va_K (dC, dI) cls (List.flatten ([[(p0k, .int)], [(p1k, .int)]] : List (List (ClassId × FieldType)))) s → va_S A s.heap H locs → lv_has ls 3 [] → W p l e ({ frames := 0, cells := 0, slots := 0, locals := 0 } : Room) s m ([.ref p0a, .ref p1a] : List Value).toArray below meth c H locs 0 0 Q (F0 m 30 ls [])) → W p l e ({ frames := 0, cells := 0, slots := 0, locals := 0 } : Room) s m ([.ref p0a, .ref p1a] : List Value).toArray below meth c H locs 0 0 Q (F0 m 2 ls []) := by
    intro n_2
    induction n_2 with
    | zero => intro v2_2 o2 H locs ls hrun; exact (no9 rfl hrun).elim
    | succ n_2 IH2 =>
      intro v2_2 o2 H locs ls hrun hP hD hK hS hl hr2 hk2
      unfold fX3_endAlike_L2 at hrun
      refine lv_iload_n hx hb dX3_endAlike_2 rfl (lv_at hl 2 rfl) ?_
      refine lv_bipush (v := 19) hx hb dX3_endAlike_3 (by decide) ?_
      rcases br9 hrun with ⟨hc1, hrun⟩ | ⟨hc1, hrun⟩
      · refine lv_icmp_ge (tgt := 30) hx hb dX3_endAlike_5 (by decide) (fun _ => ?_) (fun c => absurd hc1 c)
        obtain rfl := (Option.some.inj hrun)
        exact hk2 _ rfl _ _ _ hP hD hK hS (lv_sub hl [] rfl)
      · refine lv_icmp_ge (tgt := 30) hx hb dX3_endAlike_5 (by decide) (fun c => absurd c hc1) (fun _ => ?_)
        refine lv_iload_n hx hb dX3_endAlike_8 rfl (lv_at hl 2 rfl) ?_
        refine lv_iconst (v := 2) hx hb dX3_endAlike_9 (by decide) ?_
        have J24 : ∀ (H : Heap) (locs : List Loc) (ls : Array Slot), (fX3_endAlike_J24 (fX3_endAlike_L2 p0n p0f p1n p1f n_2) v2_2) = some o2 → va_P (dC, dI) cls (List.flatten ([[(p0a, .inl (p0k, p0n, .inl p0f))], [(p1a, .inl (p1k, p1n, .inl p1f))]] : List va_W)) H → va_D A (List.flatten ([[(p0a, .inl (p0k, p0n, .inl p0f))], [(p1a, .inl (p1k, p1n, .inl p1f))]] : List va_W)) → va_K (dC, dI) cls (List.flatten ([[(p0k, .int)], [(p1k, .int)]] : List (List (ClassId × FieldType)))) s → va_S A s.heap H locs → lv_has ls 3 [(0, .ref p0a), (1, .ref p1a), (2, .int v2_2)] → W p l e ({ frames := 0, cells := 0, slots := 0, locals := 0 } : Room) s m ([.ref p0a, .ref p1a] : List Value).toArray below meth c H locs 0 0 Q (F0 m 24 ls []) := by
          intro  H locs ls hrun hP hD hK hS hl 
          unfold fX3_endAlike_J24 at hrun
          refine lv_iinc (v := (v2_2 + 1)) (lv' := [(2, .int (v2_2 + 1)), (0, .ref p0a), (1, .ref p1a)]) hx hb dX3_endAlike_24 hl (k := 2) rfl rfl (by decide) rfl (fun ls hl => ?_)
          refine lv_goto (tgt := 2) hx hb dX3_endAlike_27 (by decide) ?_
          exact IH2 (v2_2 + 1) o2 _ _ _ hrun hP hD hK hS (lv_sub hl [1, 2, 0] rfl) hr2 hk2
        rcases br9 hrun with ⟨hc2, hrun⟩ | ⟨hc2, hrun⟩
        · refine lv_icmp_eq (tgt := 24) hx hb dX3_endAlike_10 (by decide) (fun _ => ?_) (fun c => absurd hc2 c)
          exact J24 _ _ _ hrun hP hD hK hS (lv_sub hl [0, 1, 2] rfl)
        · refine lv_icmp_eq (tgt := 24) hx hb dX3_endAlike_10 (by decide) (fun c => absurd c hc2) (fun _ => ?_)
          refine lv_aload_n hx hb dX3_endAlike_13 rfl (lv_at hl 0 rfl) ?_
          refine lv_iload_n hx hb dX3_endAlike_14 rfl (lv_at hl 2 rfl) ?_
          obtain ⟨hq3, hrun⟩ := chk9 hrun
          refine va_iald hx hb hK hP 0 0 rfl rfl (ixb_in hq3) dX3_endAlike_15 ?_
          refine lv_aload_n hx hb dX3_endAlike_16 rfl (lv_at hl 1 rfl) ?_
          refine lv_iload_n hx hb dX3_endAlike_17 rfl (lv_at hl 2 rfl) ?_
          obtain ⟨hq4, hrun⟩ := chk9 hrun
          refine va_iald hx hb hK hP 1 1 rfl rfl (ixb_in hq4) dX3_endAlike_18 ?_
          rcases br9 hrun with ⟨hc5, hrun⟩ | ⟨hc5, hrun⟩
          · refine lv_icmp_eq (tgt := 24) hx hb dX3_endAlike_19 (by decide) (fun _ => ?_) (fun c => absurd hc5 c)
            exact J24 _ _ _ hrun hP hD hK hS (lv_sub hl [0, 1, 2] rfl)
          · refine lv_icmp_eq (tgt := 24) hx hb dX3_endAlike_19 (by decide) (fun c => absurd c hc5) (fun _ => ?_)
            refine lv_iconst (v := 0) hx hb dX3_endAlike_22 (by decide) ?_
            have ho9 : 0 = o := hr2 _ (Option.some.inj hrun).symm
            have hP9 : va_P (dC, dI) cls (List.flatten ([[(p0a, .inl (p0k, p0n, .inl p0f))], [(p1a, .inl (p1k, p1n, .inl p1f))]] : List va_W)) H := by first | exact hP | (rw [← ho9]; exact hP)
            have hD9 : va_D A (List.flatten ([[(p0a, .inl (p0k, p0n, .inl p0f))], [(p1a, .inl (p1k, p1n, .inl p1f))]] : List va_W)) := by first | exact hD | (rw [← ho9]; exact hD)
            subst hQ
            exact W.zret (v := 0) hx hb hr (by decide) (fun t ht hW => ⟨⟨0, (), rfl, (by rw [← ho9]), ⟨by rw [ht]; exact hP9, va_K.moved hW.alike hK, hD9⟩⟩, hS.F ht⟩) hS.2.2 dX3_endAlike_23
  obtain ⟨o2, hc2, hrun⟩ := bnd9 hrun
  refine L2 NF 0 o2 _ _ _ hc2 hP hD hK hS (lv_sub hl [1, 2, 0] rfl) (fun r e9 => by subst e9; exact Option.some.inj hrun) ?_
  intro t2 e9
  subst e9
  replace hrun := el9 hrun
  intro H locs ls hP hD hK hS hl
  have hl := hl
  refine lv_iconst (v := 1) hx hb dX3_endAlike_30 (by decide) ?_
  have ho9 : 1 = o := Option.some.inj hrun
  have hP9 : va_P (dC, dI) cls (List.flatten ([[(p0a, .inl (p0k, p0n, .inl p0f))], [(p1a, .inl (p1k, p1n, .inl p1f))]] : List va_W)) H := by first | exact hP | (rw [← ho9]; exact hP)
  have hD9 : va_D A (List.flatten ([[(p0a, .inl (p0k, p0n, .inl p0f))], [(p1a, .inl (p1k, p1n, .inl p1f))]] : List va_W)) := by first | exact hD | (rw [← ho9]; exact hD)
  subst hQ
  exact W.zret (v := 1) hx hb hr (by decide) (fun t ht hW => ⟨⟨1, (), rfl, (by rw [← ho9]), ⟨by rw [ht]; exact hP9, va_K.moved hW.alike hK, hD9⟩⟩, hS.F ht⟩) hS.2.2 dX3_endAlike_31
def fX3_giveBack_L23 (p0w : ST) (p1_2n : Nat → Nat) (p1_2w : ST) : Nat → Int32 → Int32 → Option Int32
  | 0 => fun _ _ => none
  | n_23 + 1 => fun v4_23 v5_23 => (if v5_23 < 0 then some v4_23 else (if ixb ((p0w 0 9) - 1) 8 = true then (if v5_23 = (p0w 12 (nn ((p0w 0 9) - 1))) then some v4_23 else (if ixb v5_23 (p1_2n 6) = true then ((fX3_giveBack_L23 p0w p1_2n p1_2w n_23) v5_23 (p1_2w 6 (nn v5_23))) else none)) else none))
def fX3_giveBack_J85 (p0w_85 : ST) : Option ST := some p0w_85
def fX3_giveBack (p0w : ST) (p1w : ST) (p2 : Int32) (p1_2n : Nat → Nat) (p1_2w : ST) : Option ST := (if ixb ((p0w 0 9) - 1) 8 = true then (if ixb (p0w 13 (nn ((p0w 0 9) - 1))) 60 = true then ((fX3_giveBack_L23 p0w p1_2n p1_2w NF (-1) (p1w 4 (nn (p0w 13 (nn ((p0w 0 9) - 1)))))).bind fun (o23 : Int32) => (if o23 < 0 then (fX3_giveBack_J85 p0w) else (if ixb o23 (p1_2n 3) = true then (if ixb ((((p0w 0 9) - 1) * 320) + (p1_2w 3 (nn o23))) 2560 = true then (lt9 (upw p0w 16 (nn ((((p0w 0 9) - 1) * 320) + (p1_2w 3 (nn o23)))) p2) fun (w10 : ST) => (fX3_giveBack_J85 w10)) else none) else none))) else none) else none)
set_option maxHeartbeats 16000000 in
set_option maxRecDepth 100000 in
theorem kX3_giveBack {zs : ZS} (l : Launch) (dC : Nat → ClassId) (dI : Nat → Nat → Nat) (p0a : Nat → Nat) (p0k : Nat → ClassId) (p0n : Nat → Nat) (p0w : ST) (p1a : Nat → Nat) (p1k : Nat → ClassId) (p1n : Nat → Nat) (p1w : ST) (p1l : SL) (p2 : Int32) (p1_2a : Nat → Nat) (p1_2k : Nat → ClassId) (p1_2n : Nat → Nat) (p1_2w : ST) (sz : Nat) (o : ST) (hrun : fX3_giveBack p0w p1w p2 p1_2n p1_2w = some o) : Met l yX3_giveBack (wz yX3_giveBack cX3_giveBack 6 (Option.none : Option Jvm.ClassFile.FieldType)) ({ frames := 0, cells := 0, slots := 0, locals := 0 } : Room) (va_Pc [.ref (p0a 0), .ref (p1a 0), .int p2] (PRE zs dC dI (List.flatten ([(oX3 (p0a 0) p0a p0k p0n p0w), (oX1 (p1a 0) p1a p1k p1n p1w p1l), (oX9 (p1a 3) p1_2a p1_2k p1_2n p1_2w)] : List va_W)) (List.flatten ([(tX3 p0k), (tX1 p1k), (tX9 p1_2k)] : List (List (ClassId × FieldType)))) sz)) (va_Qv (fun (_ : Unit) => True) (fun _ t => POST dC dI (List.flatten ([(oX3 (p0a 0) p0a p0k p0n o), (oX1 (p1a 0) p1a p1k p1n p1w p1l), (oX9 (p1a 3) p1_2a p1_2k p1_2n p1_2w)] : List va_W)) (List.flatten ([(tX3 p0k), (tX1 p1k), (tX9 p1_2k)] : List (List (ClassId × FieldType)))) (va_A (List.flatten ([(oX3 (p0a 0) p0a p0k p0n p0w), (oX1 (p1a 0) p1a p1k p1n p1w p1l), (oX9 (p1a 3) p1_2a p1_2k p1_2n p1_2w)] : List va_W)) sz) t) (va_A (List.flatten ([(oX3 (p0a 0) p0a p0k p0n p0w), (oX1 (p1a 0) p1a p1k p1n p1w p1l), (oX9 (p1a 3) p1_2a p1_2k p1_2n p1_2w)] : List va_W)) sz)) 0 0 (va_A (List.flatten ([(oX3 (p0a 0) p0a p0k p0n p0w), (oX1 (p1a 0) p1a p1k p1n p1w p1l), (oX9 (p1a 3) p1_2a p1_2k p1_2n p1_2w)] : List va_W)) sz) := by
  refine Met.ofW (cc := cX3_giveBack) (maxL := 6) (ret := (Option.none : Option Jvm.ClassFile.FieldType)) (by decide) rfl ?_
  intro p e s m args below meth c s₁ B hml hv
  obtain ⟨rfl, hsz, hP, hK, hD0, hE⟩ := hv
  have hx := B.exec
  have hb := B.bytes
  have hr := B.returns
  have hts0 := atoms_spec (ws := wz yX3_giveBack cX3_giveBack 6 (Option.none : Option Jvm.ClassFile.FieldType)) B.pre
  have hts : ∀ w ∈ gw, w.before _ s = true := fun w h => hts0 w (List.mem_cons_of_mem _ h)
  have hown : s.vm.findClass RX3 = some m.cls := findClass_of_methodNamed B.named
  have hlocks := B.notSynchronized
  subst hsz
  have hD := hD0.self (sz := s.heap.size)
  refine gQ9 ?_
  intro Q hQ
  generalize hAe : va_A (List.flatten ([(oX3 (p0a 0) p0a p0k p0n p0w), (oX1 (p1a 0) p1a p1k p1n p1w p1l), (oX9 (p1a 3) p1_2a p1_2k p1_2n p1_2w)] : List va_W)) s.heap.size = A at hD hE hQ
  have hA : ∀ q : Nat, s.heap.size ≤ q → A q := fun q h => by rw [← hAe]; exact Or.inr h
  have hS : va_S A s.heap s.heap [] := va_S.rf
  have hP : va_P (dC, dI) cls (List.flatten ([(oX3 (p0a 0) p0a p0k p0n p0w), (oX1 (p1a 0) p1a p1k p1n p1w p1l), (oX9 (p1a 3) p1_2a p1_2k p1_2n p1_2w)] : List va_W)) s.heap := hP
  have hl := lv_entry ([.ref (p0a 0), .ref (p1a 0), .int p2]) (n := 6) (Nat.le_of_ble_eq_true rfl)
  rw [lg_entry_eq]
  generalize (lg_sl ([.ref (p0a 0), .ref (p1a 0), .int p2]) ++ List.replicate (6 - (lg_sl ([.ref (p0a 0), .ref (p1a 0), .int p2])).length) Slot.unset).toArray = ls at hl ⊢
  have hl : lv_has ls 6 [(0, .ref (p0a 0)), (1, .ref (p1a 0)), (2, .int p2)] := hl
  obtain ⟨H, hHe⟩ : ∃ H, H = s.heap := ⟨_, rfl⟩
  obtain ⟨locs, hle⟩ : ∃ locs : List Loc, locs = [] := ⟨_, rfl⟩
  rw [← hHe] at hP
  have hS : va_S A s.heap H locs := by rw [hHe, hle]; exact hS
  show W p l e ({ frames := 0, cells := 0, slots := 0, locals := 0 } : Room) s m ([.ref (p0a 0), .ref (p1a 0), .int p2] : List Value).toArray below meth c s.heap [] 0 0 Q (F0 m 0 ls [])
  rw [← hle]
  refine wH9 hHe ?_
  unfold fX3_giveBack at hrun
  refine lv_aload_n hx hb dX3_giveBack_0 rfl (lv_at hl 0 rfl) ?_
  refine va_get (D := (dC, dI)) (ci := 10) (v := .int (p0w 0 9)) (C := RX3) (T := TX3) (N := 20) hx hb hts i_X3 hown hK hP 0 rfl rfl 9 (by decide) (hts _ qw897) (fun _ h9 => h9) rfl dX3_giveBack_1 ?_
  refine lv_iconst (v := 1) hx hb dX3_giveBack_4 (by decide) ?_
  refine lv_isub hx hb dX3_giveBack_5 ?_
  refine lv_istore_n (lv' := [(3, .int ((p0w 0 9) - 1)), (0, .ref (p0a 0)), (1, .ref (p1a 0)), (2, .int p2)]) hx hb dX3_giveBack_6 rfl hl (by decide) rfl (fun ls hl => ?_)
  refine lv_iconst (v := (-1)) hx hb dX3_giveBack_7 (by decide) ?_
  refine lv_istore (lv' := [(4, .int (-1)), (3, .int ((p0w 0 9) - 1)), (0, .ref (p0a 0)), (1, .ref (p1a 0)), (2, .int p2)]) hx hb dX3_giveBack_8 hl (by decide) rfl (fun ls hl => ?_)
  refine lv_aload_n hx hb dX3_giveBack_10 rfl (lv_at hl 3 rfl) ?_
  refine va_get (D := (dC, dI)) (ci := 4) (v := .ref (p1a 4)) (C := RX1) (T := TX1) (N := 21) hx hb hts i_X1 hown hK hP 11 rfl rfl 3 (by decide) (hts _ qw914) (fun _ h9 => h9) rfl dX3_giveBack_11 ?_
  refine lv_aload_n hx hb dX3_giveBack_14 rfl (lv_at hl 2 rfl) ?_
  refine va_get (D := (dC, dI)) (ci := 10) (v := .ref (p0a 13)) (C := RX3) (T := TX3) (N := 20) hx hb hts i_X3 hown hK hP 0 rfl rfl 12 (by decide) (hts _ qw904) (fun _ h9 => h9) rfl dX3_giveBack_15 ?_
  refine lv_iload_n hx hb dX3_giveBack_18 rfl (lv_at hl 1 rfl) ?_
  obtain ⟨hq1, hrun⟩ := chk9 hrun
  refine va_iald hx hb hK hP 5 4 rfl rfl (ixb_in hq1) dX3_giveBack_19 ?_
  obtain ⟨hq2, hrun⟩ := chk9 hrun
  refine va_iald hx hb hK hP 12 10 rfl rfl (ixb_in hq2) dX3_giveBack_20 ?_
  refine lv_istore (lv' := [(5, .int (p1w 4 (nn (p0w 13 (nn ((p0w 0 9) - 1)))))), (4, .int (-1)), (3, .int ((p0w 0 9) - 1)), (0, .ref (p0a 0)), (1, .ref (p1a 0)), (2, .int p2)]) hx hb dX3_giveBack_21 hl (by decide) rfl (fun ls hl => ?_)
  have L23 : ∀ (n_23 : Nat) (v4_23 : Int32) (v5_23 : Int32) (o23 : Int32) (H : Heap) (locs : List Loc) (ls : Array Slot), (fX3_giveBack_L23 p0w p1_2n p1_2w n_23) v4_23 v5_23 = some o23 → va_P (dC, dI) cls (List.flatten ([(oX3 (p0a 0) p0a p0k p0n p0w), (oX1 (p1a 0) p1a p1k p1n p1w p1l), (oX9 (p1a 3) p1_2a p1_2k p1_2n p1_2w)] : List va_W)) H → va_D A (List.flatten ([(oX3 (p0a 0) p0a p0k p0n p0w), (oX1 (p1a 0) p1a p1k p1n p1w p1l), (oX9 (p1a 3) p1_2a p1_2k p1_2n p1_2w)] : List va_W)) → va_K (dC, dI) cls (List.flatten ([(tX3 p0k), (tX1 p1k), (tX9 p1_2k)] : List (List (ClassId × FieldType)))) s → va_S A s.heap H locs → lv_has ls 6 [(0, .ref (p0a 0)), (1, .ref (p1a 0)), (2, .int p2), (3, .int ((p0w 0 9) - 1)), (4, .int v4_23), (5, .int v5_23)] → (∀ (H : Heap) (locs : List Loc) (ls : Array Slot), va_P (dC, dI) cls (List.flatten ([(oX3 (p0a 0) p0a p0k p0n p0w), (oX1 (p1a 0) p1a p1k p1n p1w p1l), (oX9 (p1a 3) p1_2a p1_2k p1_2n p1_2w)] : List va_W)) H → va_D A (List.flatten ([(oX3 (p0a 0) p0a p0k p0n p0w), (oX1 (p1a 0) p1a p1k p1n p1w p1l), (oX9 (p1a 3) p1_2a p1_2k p1_2n p1_2w)] : List va_W)) → va_K (dC, dI) cls (List.flatten ([(tX3 p0k), (tX1 p1k), (tX9 p1_2k)] : List (List (ClassId × FieldType)))) s → va_S A s.heap H locs → lv_has ls 6 [(0, .ref (p0a 0)), (1, .ref (p1a 0)), (2, .int p2), (3, .int ((p0w 0 9) - 1)), (4, .int o23)] → W p l e ({ frames := 0, cells := 0, slots := 0, locals := 0 } : Room) s m ([.ref (p0a 0), .ref (p1a 0), .int p2] : List Value).toArray below meth c H locs 0 0 Q (F0 m 58 ls [])) → W p l e ({ frames := 0, cells := 0, slots := 0, locals := 0 } : Room) s m ([.ref (p0a 0), .ref (p1a 0), .int p2] : List Value).toArray below meth c H locs 0 0 Q (F0 m 23 ls []) := by
    intro n_23
    induction n_23 with
    | zero => intro v4_23 v5_23 o23 H locs ls hrun; exact (no9 rfl hrun).elim
    | succ n_23 IH23 =>
      intro v4_23 v5_23 o23 H locs ls hrun hP hD hK hS hl hk23
      unfold fX3_giveBack_L23 at hrun
      refine lv_iload hx hb dX3_giveBack_23 (lv_at hl 5 rfl) ?_
      rcases br9 hrun with ⟨hc3, hrun⟩ | ⟨hc3, hrun⟩
      · refine lv_if_lt (tgt := 58) hx hb dX3_giveBack_25 (by decide) (fun _ => ?_) (fun c => absurd hc3 c)
        obtain rfl := (Option.some.inj hrun)
        exact hk23 _ _ _ hP hD hK hS (lv_sub hl [0, 1, 2, 3, 4] rfl)
      · refine lv_if_lt (tgt := 58) hx hb dX3_giveBack_25 (by decide) (fun c => absurd c hc3) (fun _ => ?_)
        refine lv_iload hx hb dX3_giveBack_28 (lv_at hl 5 rfl) ?_
        refine lv_aload_n hx hb dX3_giveBack_30 rfl (lv_at hl 0 rfl) ?_
        refine va_get (D := (dC, dI)) (ci := 10) (v := .ref (p0a 12)) (C := RX3) (T := TX3) (N := 20) hx hb hts i_X3 hown hK hP 0 rfl rfl 11 (by decide) (hts _ qw915) (fun _ h9 => h9) rfl dX3_giveBack_31 ?_
        refine lv_iload_n hx hb dX3_giveBack_34 rfl (lv_at hl 3 rfl) ?_
        obtain ⟨hq4, hrun⟩ := chk9 hrun
        refine va_iald hx hb hK hP 4 3 rfl rfl (ixb_in hq4) dX3_giveBack_35 ?_
        rcases br9 hrun with ⟨hc5, hrun⟩ | ⟨hc5, hrun⟩
        · refine lv_icmp_eq (tgt := 58) hx hb dX3_giveBack_36 (by decide) (fun _ => ?_) (fun c => absurd hc5 c)
          obtain rfl := (Option.some.inj hrun)
          exact hk23 _ _ _ hP hD hK hS (lv_sub hl [0, 1, 2, 3, 4] rfl)
        · refine lv_icmp_eq (tgt := 58) hx hb dX3_giveBack_36 (by decide) (fun c => absurd c hc5) (fun _ => ?_)
          refine lv_iload hx hb dX3_giveBack_39 (lv_at hl 5 rfl) ?_
          refine lv_istore (lv' := [(4, .int v5_23), (0, .ref (p0a 0)), (1, .ref (p1a 0)), (2, .int p2), (3, .int ((p0w 0 9) - 1)), (5, .int v5_23)]) hx hb dX3_giveBack_41 hl (by decide) rfl (fun ls hl => ?_)
          refine lv_aload_n hx hb dX3_giveBack_43 rfl (lv_at hl 2 rfl) ?_
          refine va_get (D := (dC, dI)) (ci := 4) (v := .ref (p1a 3)) (C := RX1) (T := TX1) (N := 21) hx hb hts i_X1 hown hK hP 11 rfl rfl 2 (by decide) (hts _ qw916) (fun _ h9 => h9) rfl dX3_giveBack_44 ?_
          refine va_get (D := (dC, dI)) (ci := 3) (v := .ref (p1_2a 6)) (C := RX9) (T := TX9) (N := 6) hx hb hts i_X9 hown hK hP 29 rfl rfl 5 (by decide) (hts _ qw917) (fun _ h9 => h9) rfl dX3_giveBack_47 ?_
          refine lv_iload hx hb dX3_giveBack_50 (lv_at hl 5 rfl) ?_
          obtain ⟨hq6, hrun⟩ := chk9 hrun
          refine va_iald hx hb hK hP 34 31 rfl rfl (ixb_in hq6) dX3_giveBack_52 ?_
          refine lv_istore (lv' := [(5, .int (p1_2w 6 (nn v5_23))), (4, .int v5_23), (0, .ref (p0a 0)), (1, .ref (p1a 0)), (2, .int p2), (3, .int ((p0w 0 9) - 1))]) hx hb dX3_giveBack_53 hl (by decide) rfl (fun ls hl => ?_)
          refine lv_goto (tgt := 23) hx hb dX3_giveBack_55 (by decide) ?_
          exact IH23 v5_23 (p1_2w 6 (nn v5_23)) o23 _ _ _ hrun hP hD hK hS (lv_sub hl [2, 3, 4, 5, 1, 0] rfl) hk23
  obtain ⟨o23, hc23, hrun⟩ := bnd9 hrun
  refine L23 NF (-1) (p1w 4 (nn (p0w 13 (nn ((p0w 0 9) - 1))))) o23 _ _ _ hc23 hP hD hK hS (lv_sub hl [3, 4, 5, 2, 1, 0] rfl) ?_
  intro H locs ls hP hD hK hS hl
  have hl := hl
  refine lv_iload hx hb dX3_giveBack_58 (lv_at hl 4 rfl) ?_
  have J85 : ∀ (p0w_85 : ST) (H : Heap) (locs : List Loc) (ls : Array Slot), (fX3_giveBack_J85 p0w_85) = some o → va_P (dC, dI) cls (List.flatten ([(oX3 (p0a 0) p0a p0k p0n p0w_85), (oX1 (p1a 0) p1a p1k p1n p1w p1l), (oX9 (p1a 3) p1_2a p1_2k p1_2n p1_2w)] : List va_W)) H → va_D A (List.flatten ([(oX3 (p0a 0) p0a p0k p0n p0w_85), (oX1 (p1a 0) p1a p1k p1n p1w p1l), (oX9 (p1a 3) p1_2a p1_2k p1_2n p1_2w)] : List va_W)) → va_K (dC, dI) cls (List.flatten ([(tX3 p0k), (tX1 p1k), (tX9 p1_2k)] : List (List (ClassId × FieldType)))) s → va_S A s.heap H locs → lv_has ls 6 [] → W p l e ({ frames := 0, cells := 0, slots := 0, locals := 0 } : Room) s m ([.ref (p0a 0), .ref (p1a 0), .int p2] : List Value).toArray below meth c H locs 0 0 Q (F0 m 85 ls []) := by
    intro p0w_85 H locs ls hrun hP hD hK hS hl 
    unfold fX3_giveBack_J85 at hrun
    have ho9 : p0w_85 = o := Option.some.inj hrun
    have hP9 : va_P (dC, dI) cls (List.flatten ([(oX3 (p0a 0) p0a p0k p0n o), (oX1 (p1a 0) p1a p1k p1n p1w p1l), (oX9 (p1a 3) p1_2a p1_2k p1_2n p1_2w)] : List va_W)) H := by first | exact hP | (rw [← ho9]; exact hP)
    have hD9 : va_D A (List.flatten ([(oX3 (p0a 0) p0a p0k p0n o), (oX1 (p1a 0) p1a p1k p1n p1w p1l), (oX9 (p1a 3) p1_2a p1_2k p1_2n p1_2w)] : List va_W)) := by first | exact hD | (rw [← ho9]; exact hD)
    subst hQ
    exact W.vret hx hb hr (fun t ht hW => ⟨⟨(), rfl, trivial, ⟨by rw [ht]; exact hP9, va_K.moved hW.alike hK, hD9⟩⟩, hS.F ht⟩) hS.2.2 dX3_giveBack_85
  rcases br9 hrun with ⟨hc7, hrun⟩ | ⟨hc7, hrun⟩
  · refine lv_if_lt (tgt := 85) hx hb dX3_giveBack_60 (by decide) (fun _ => ?_) (fun c => absurd hc7 c)
    exact J85 p0w _ _ _ hrun hP hD hK hS (lv_sub hl [] rfl)
  · refine lv_if_lt (tgt := 85) hx hb dX3_giveBack_60 (by decide) (fun c => absurd c hc7) (fun _ => ?_)
    refine lv_aload_n hx hb dX3_giveBack_63 rfl (lv_at hl 0 rfl) ?_
    refine va_get (D := (dC, dI)) (ci := 10) (v := .ref (p0a 16)) (C := RX3) (T := TX3) (N := 20) hx hb hts i_X3 hown hK hP 0 rfl rfl 15 (by decide) (hts _ qw906) (fun _ h9 => h9) rfl dX3_giveBack_64 ?_
    refine lv_iload_n hx hb dX3_giveBack_67 rfl (lv_at hl 3 rfl) ?_
    refine lv_sipush (v := 320) hx hb dX3_giveBack_68 (by decide) ?_
    refine lv_imul hx hb dX3_giveBack_71 ?_
    refine lv_aload_n hx hb dX3_giveBack_72 rfl (lv_at hl 1 rfl) ?_
    refine va_get (D := (dC, dI)) (ci := 4) (v := .ref (p1a 3)) (C := RX1) (T := TX1) (N := 21) hx hb hts i_X1 hown hK hP 11 rfl rfl 2 (by decide) (hts _ qw916) (fun _ h9 => h9) rfl dX3_giveBack_73 ?_
    refine va_get (D := (dC, dI)) (ci := 3) (v := .ref (p1_2a 3)) (C := RX9) (T := TX9) (N := 6) hx hb hts i_X9 hown hK hP 29 rfl rfl 2 (by decide) (hts _ qw918) (fun _ h9 => h9) rfl dX3_giveBack_76 ?_
    refine lv_iload hx hb dX3_giveBack_79 (lv_at hl 4 rfl) ?_
    obtain ⟨hq8, hrun⟩ := chk9 hrun
    refine va_iald hx hb hK hP 31 28 rfl rfl (ixb_in hq8) dX3_giveBack_81 ?_
    refine lv_iadd hx hb dX3_giveBack_82 ?_
    refine lv_iload_n hx hb dX3_giveBack_83 rfl (lv_at hl 2 rfl) ?_
    obtain ⟨hq9, hrun⟩ := chk9 hrun
    refine va_iast hx hb hK hP hD hS 8 7 rfl rfl (ixb_in hq9) dX3_giveBack_84 (fun H locs hP hD hS => ?_)
    have hP : va_P (dC, dI) cls (List.flatten ([(oX3 (p0a 0) p0a p0k p0n (upw p0w 16 (nn ((((p0w 0 9) - 1) * 320) + (p1_2w 3 (nn o23)))) p2)), (oX1 (p1a 0) p1a p1k p1n p1w p1l), (oX9 (p1a 3) p1_2a p1_2k p1_2n p1_2w)] : List va_W)) H := hP
    have hD : va_D A (List.flatten ([(oX3 (p0a 0) p0a p0k p0n (upw p0w 16 (nn ((((p0w 0 9) - 1) * 320) + (p1_2w 3 (nn o23)))) p2)), (oX1 (p1a 0) p1a p1k p1n p1w p1l), (oX9 (p1a 3) p1_2a p1_2k p1_2n p1_2w)] : List va_W)) := hD
    obtain ⟨w10, ew10, hrun⟩ := let9 hrun
    rw [← ew10] at hP hD
    exact J85 w10 _ _ _ hrun hP hD hK hS (lv_sub hl [] rfl)
def fX3_endBlock_J81 (p0w_81 : ST) : Option ST := some p0w_81
def fX3_endBlock_J137 (p2 : Int32) (w14 : ST) (y0_137 : Int32) : Option ST := (if ixb p2 8 = true then (lt9 (upw w14 13 (nn p2) y0_137) fun (w16 : ST) => (if ixb p2 8 = true then (lt9 (upw w16 12 (nn p2) (-2)) fun (w18 : ST) => some w18) else none)) else none)
def fX3_endBlock_J103 (p0w : ST) (p1w : ST) (p2 : Int32) (y0_103 : Int32) : Option ST := (if ixb p2 8 = true then (lt9 (upw p0w 14 (nn p2) (p0w 13 (nn p2))) fun (w14 : ST) => (if y0_103 = 0 then (if ixb (p0w 13 (nn p2)) 60 = true then (fX3_endBlock_J137 p2 w14 (p1w 10 (nn (p0w 13 (nn p2))))) else none) else (if ixb (p0w 13 (nn p2)) 60 = true then (fX3_endBlock_J137 p2 w14 (p1w 11 (nn (p0w 13 (nn p2))))) else none))) else none)
def fX3_endBlock_J102 (p0w : ST) (p1w : ST) (p2 : Int32) : Option ST := (fX3_endBlock_J103 p0w p1w p2 0)
def fX3_endBlock_J37 (p0w : ST) (p1w : ST) (p2 : Int32) (p0_5w : Nat → ST) (p0_5_2n : Nat → Nat → Nat) (p0_5_2w : Nat → ST) (y0_37 : Int32) : Option ST := (if ixb (p0w 13 (nn p2)) 60 = true then (if (p1w 8 (nn (p0w 13 (nn p2)))) = 24 then ((fX3_close p0w y0_37).bind fun (o_5 : Int32 × ST) => (if (o_5.1) = 0 then (fX3_endBlock_J81 (o_5.2)) else (if ixb (((o_5.2) 0 9) - 1) 8 = true then (if ixb (((o_5.2) 11) (nn (((o_5.2) 0 9) - 1))) 6 = true then (lt9 (nn (((o_5.2) 11) (nn (((o_5.2) 0 9) - 1)))) fun (i10 : Nat) => ((fX3_giveBack (o_5.2) (p0_5w i10) y0_37 (p0_5_2n i10) (p0_5_2w i10)).bind fun (o_11 : ST) => (fX3_endBlock_J81 o_11))) else none) else none))) else (if ixb (p0w 13 (nn p2)) 60 = true then (if (p1w 8 (nn (p0w 13 (nn p2)))) = 23 then (if y0_37 = 0 then (fX3_endBlock_J103 p0w p1w p2 1) else (fX3_endBlock_J102 p0w p1w p2)) else (fX3_endBlock_J102 p0w p1w p2)) else none)) else none)
def fX3_endBlock (p0w : ST) (p1w : ST) (p2 : Int32) (p0_5w : Nat → ST) (p0_5_2n : Nat → Nat → Nat) (p0_5_2w : Nat → ST) : Option ST := (if ixb p2 8 = true then (if ixb (p0w 13 (nn p2)) 60 = true then (if 0 ≤ (p1w 9 (nn (p0w 13 (nn p2)))) then (if ixb (p0w 13 (nn p2)) 60 = true then (if ixb ((p2 * 320) + (p1w 9 (nn (p0w 13 (nn p2))))) 2560 = true then (fX3_endBlock_J37 p0w p1w p2 p0_5w p0_5_2n p0_5_2w (p0w 16 (nn ((p2 * 320) + (p1w 9 (nn (p0w 13 (nn p2)))))))) else none) else none) else (fX3_endBlock_J37 p0w p1w p2 p0_5w p0_5_2n p0_5_2w 0)) else none) else none)
set_option maxHeartbeats 16000000 in
set_option maxRecDepth 100000 in
theorem kX3_endBlock {zs : ZS} (l : Launch) (dC : Nat → ClassId) (dI : Nat → Nat → Nat) (p0a : Nat → Nat) (p0k : Nat → ClassId) (p0n : Nat → Nat) (p0w : ST) (p1a : Nat → Nat) (p1k : Nat → ClassId) (p1n : Nat → Nat) (p1w : ST) (p1l : SL) (p2 : Int32) (p0_5c : ClassId) (p0_5a : Nat → Nat → Nat) (p0_5k : Nat → Nat → ClassId) (p0_5n : Nat → Nat → Nat) (p0_5w : Nat → ST) (p0_5l : Nat → SL) (p0_5_2a : Nat → Nat → Nat) (p0_5_2k : Nat → Nat → ClassId) (p0_5_2n : Nat → Nat → Nat) (p0_5_2w : Nat → ST) (sz : Nat) (o : ST) (hrun : fX3_endBlock p0w p1w p2 p0_5w p0_5_2n p0_5_2w = some o) : Met l yX3_endBlock (wz yX3_endBlock cX3_endBlock 6 (Option.none : Option Jvm.ClassFile.FieldType)) ({ frames := 2, cells := 0, slots := 0, locals := 42 } : Room) (va_Pc [.ref (p0a 0), .ref (p1a 0), .int p2] (PRE zs dC dI (List.flatten ([(oX3 (p0a 0) p0a p0k p0n p0w), (oX1 (p1a 0) p1a p1k p1n p1w p1l), (oX1 (p0_5a 0 0) (p0_5a 0) (p0_5k 0) (p0_5n 0) (p0_5w 0) (p0_5l 0)), (oX9 (p0_5a 0 3) (p0_5_2a 0) (p0_5_2k 0) (p0_5_2n 0) (p0_5_2w 0)), (oX1 (p0_5a 1 0) (p0_5a 1) (p0_5k 1) (p0_5n 1) (p0_5w 1) (p0_5l 1)), (oX9 (p0_5a 1 3) (p0_5_2a 1) (p0_5_2k 1) (p0_5_2n 1) (p0_5_2w 1)), (oX1 (p0_5a 2 0) (p0_5a 2) (p0_5k 2) (p0_5n 2) (p0_5w 2) (p0_5l 2)), (oX9 (p0_5a 2 3) (p0_5_2a 2) (p0_5_2k 2) (p0_5_2n 2) (p0_5_2w 2)), (oX1 (p0_5a 3 0) (p0_5a 3) (p0_5k 3) (p0_5n 3) (p0_5w 3) (p0_5l 3)), (oX9 (p0_5a 3 3) (p0_5_2a 3) (p0_5_2k 3) (p0_5_2n 3) (p0_5_2w 3)), (oX1 (p0_5a 4 0) (p0_5a 4) (p0_5k 4) (p0_5n 4) (p0_5w 4) (p0_5l 4)), (oX9 (p0_5a 4 3) (p0_5_2a 4) (p0_5_2k 4) (p0_5_2n 4) (p0_5_2w 4)), (oX1 (p0_5a 5 0) (p0_5a 5) (p0_5k 5) (p0_5n 5) (p0_5w 5) (p0_5l 5)), (oX9 (p0_5a 5 3) (p0_5_2a 5) (p0_5_2k 5) (p0_5_2n 5) (p0_5_2w 5)), [((p0a 6), .inl (p0_5c, 6, .inr (.inr (.inr (.inr (fun i => some (p0_5a i 0)))))))]] : List va_W)) (List.flatten ([(tX3 p0k), (tX1 p1k), (tX1 (p0_5k 0)), (tX9 (p0_5_2k 0)), (tX1 (p0_5k 1)), (tX9 (p0_5_2k 1)), (tX1 (p0_5k 2)), (tX9 (p0_5_2k 2)), (tX1 (p0_5k 3)), (tX9 (p0_5_2k 3)), (tX1 (p0_5k 4)), (tX9 (p0_5_2k 4)), (tX1 (p0_5k 5)), (tX9 (p0_5_2k 5)), [(p0_5c, .object RX1)]] : List (List (ClassId × FieldType)))) sz)) (va_Qv (fun (_ : Unit) => True) (fun _ t => POST dC dI (List.flatten ([(oX3 (p0a 0) p0a p0k p0n o), (oX1 (p1a 0) p1a p1k p1n p1w p1l), (oX1 (p0_5a 0 0) (p0_5a 0) (p0_5k 0) (p0_5n 0) (p0_5w 0) (p0_5l 0)), (oX9 (p0_5a 0 3) (p0_5_2a 0) (p0_5_2k 0) (p0_5_2n 0) (p0_5_2w 0)), (oX1 (p0_5a 1 0) (p0_5a 1) (p0_5k 1) (p0_5n 1) (p0_5w 1) (p0_5l 1)), (oX9 (p0_5a 1 3) (p0_5_2a 1) (p0_5_2k 1) (p0_5_2n 1) (p0_5_2w 1)), (oX1 (p0_5a 2 0) (p0_5a 2) (p0_5k 2) (p0_5n 2) (p0_5w 2) (p0_5l 2)), (oX9 (p0_5a 2 3) (p0_5_2a 2) (p0_5_2k 2) (p0_5_2n 2) (p0_5_2w 2)), (oX1 (p0_5a 3 0) (p0_5a 3) (p0_5k 3) (p0_5n 3) (p0_5w 3) (p0_5l 3)), (oX9 (p0_5a 3 3) (p0_5_2a 3) (p0_5_2k 3) (p0_5_2n 3) (p0_5_2w 3)), (oX1 (p0_5a 4 0) (p0_5a 4) (p0_5k 4) (p0_5n 4) (p0_5w 4) (p0_5l 4)), (oX9 (p0_5a 4 3) (p0_5_2a 4) (p0_5_2k 4) (p0_5_2n 4) (p0_5_2w 4)), (oX1 (p0_5a 5 0) (p0_5a 5) (p0_5k 5) (p0_5n 5) (p0_5w 5) (p0_5l 5)), (oX9 (p0_5a 5 3) (p0_5_2a 5) (p0_5_2k 5) (p0_5_2n 5) (p0_5_2w 5)), [((p0a 6), .inl (p0_5c, 6, .inr (.inr (.inr (.inr (fun i => some (p0_5a i 0)))))))]] : List va_W)) (List.flatten ([(tX3 p0k), (tX1 p1k), (tX1 (p0_5k 0)), (tX9 (p0_5_2k 0)), (tX1 (p0_5k 1)), (tX9 (p0_5_2k 1)), (tX1 (p0_5k 2)), (tX9 (p0_5_2k 2)), (tX1 (p0_5k 3)), (tX9 (p0_5_2k 3)), (tX1 (p0_5k 4)), (tX9 (p0_5_2k 4)), (tX1 (p0_5k 5)), (tX9 (p0_5_2k 5)), [(p0_5c, .object RX1)]] : List (List (ClassId × FieldType)))) (va_A (List.flatten ([(oX3 (p0a 0) p0a p0k p0n p0w), (oX1 (p1a 0) p1a p1k p1n p1w p1l), (oX1 (p0_5a 0 0) (p0_5a 0) (p0_5k 0) (p0_5n 0) (p0_5w 0) (p0_5l 0)), (oX9 (p0_5a 0 3) (p0_5_2a 0) (p0_5_2k 0) (p0_5_2n 0) (p0_5_2w 0)), (oX1 (p0_5a 1 0) (p0_5a 1) (p0_5k 1) (p0_5n 1) (p0_5w 1) (p0_5l 1)), (oX9 (p0_5a 1 3) (p0_5_2a 1) (p0_5_2k 1) (p0_5_2n 1) (p0_5_2w 1)), (oX1 (p0_5a 2 0) (p0_5a 2) (p0_5k 2) (p0_5n 2) (p0_5w 2) (p0_5l 2)), (oX9 (p0_5a 2 3) (p0_5_2a 2) (p0_5_2k 2) (p0_5_2n 2) (p0_5_2w 2)), (oX1 (p0_5a 3 0) (p0_5a 3) (p0_5k 3) (p0_5n 3) (p0_5w 3) (p0_5l 3)), (oX9 (p0_5a 3 3) (p0_5_2a 3) (p0_5_2k 3) (p0_5_2n 3) (p0_5_2w 3)), (oX1 (p0_5a 4 0) (p0_5a 4) (p0_5k 4) (p0_5n 4) (p0_5w 4) (p0_5l 4)), (oX9 (p0_5a 4 3) (p0_5_2a 4) (p0_5_2k 4) (p0_5_2n 4) (p0_5_2w 4)), (oX1 (p0_5a 5 0) (p0_5a 5) (p0_5k 5) (p0_5n 5) (p0_5w 5) (p0_5l 5)), (oX9 (p0_5a 5 3) (p0_5_2a 5) (p0_5_2k 5) (p0_5_2n 5) (p0_5_2w 5)), [((p0a 6), .inl (p0_5c, 6, .inr (.inr (.inr (.inr (fun i => some (p0_5a i 0)))))))]] : List va_W)) sz) t) (va_A (List.flatten ([(oX3 (p0a 0) p0a p0k p0n p0w), (oX1 (p1a 0) p1a p1k p1n p1w p1l), (oX1 (p0_5a 0 0) (p0_5a 0) (p0_5k 0) (p0_5n 0) (p0_5w 0) (p0_5l 0)), (oX9 (p0_5a 0 3) (p0_5_2a 0) (p0_5_2k 0) (p0_5_2n 0) (p0_5_2w 0)), (oX1 (p0_5a 1 0) (p0_5a 1) (p0_5k 1) (p0_5n 1) (p0_5w 1) (p0_5l 1)), (oX9 (p0_5a 1 3) (p0_5_2a 1) (p0_5_2k 1) (p0_5_2n 1) (p0_5_2w 1)), (oX1 (p0_5a 2 0) (p0_5a 2) (p0_5k 2) (p0_5n 2) (p0_5w 2) (p0_5l 2)), (oX9 (p0_5a 2 3) (p0_5_2a 2) (p0_5_2k 2) (p0_5_2n 2) (p0_5_2w 2)), (oX1 (p0_5a 3 0) (p0_5a 3) (p0_5k 3) (p0_5n 3) (p0_5w 3) (p0_5l 3)), (oX9 (p0_5a 3 3) (p0_5_2a 3) (p0_5_2k 3) (p0_5_2n 3) (p0_5_2w 3)), (oX1 (p0_5a 4 0) (p0_5a 4) (p0_5k 4) (p0_5n 4) (p0_5w 4) (p0_5l 4)), (oX9 (p0_5a 4 3) (p0_5_2a 4) (p0_5_2k 4) (p0_5_2n 4) (p0_5_2w 4)), (oX1 (p0_5a 5 0) (p0_5a 5) (p0_5k 5) (p0_5n 5) (p0_5w 5) (p0_5l 5)), (oX9 (p0_5a 5 3) (p0_5_2a 5) (p0_5_2k 5) (p0_5_2n 5) (p0_5_2w 5)), [((p0a 6), .inl (p0_5c, 6, .inr (.inr (.inr (.inr (fun i => some (p0_5a i 0)))))))]] : List va_W)) sz)) 0 0 (va_A (List.flatten ([(oX3 (p0a 0) p0a p0k p0n p0w), (oX1 (p1a 0) p1a p1k p1n p1w p1l), (oX1 (p0_5a 0 0) (p0_5a 0) (p0_5k 0) (p0_5n 0) (p0_5w 0) (p0_5l 0)), (oX9 (p0_5a 0 3) (p0_5_2a 0) (p0_5_2k 0) (p0_5_2n 0) (p0_5_2w 0)), (oX1 (p0_5a 1 0) (p0_5a 1) (p0_5k 1) (p0_5n 1) (p0_5w 1) (p0_5l 1)), (oX9 (p0_5a 1 3) (p0_5_2a 1) (p0_5_2k 1) (p0_5_2n 1) (p0_5_2w 1)), (oX1 (p0_5a 2 0) (p0_5a 2) (p0_5k 2) (p0_5n 2) (p0_5w 2) (p0_5l 2)), (oX9 (p0_5a 2 3) (p0_5_2a 2) (p0_5_2k 2) (p0_5_2n 2) (p0_5_2w 2)), (oX1 (p0_5a 3 0) (p0_5a 3) (p0_5k 3) (p0_5n 3) (p0_5w 3) (p0_5l 3)), (oX9 (p0_5a 3 3) (p0_5_2a 3) (p0_5_2k 3) (p0_5_2n 3) (p0_5_2w 3)), (oX1 (p0_5a 4 0) (p0_5a 4) (p0_5k 4) (p0_5n 4) (p0_5w 4) (p0_5l 4)), (oX9 (p0_5a 4 3) (p0_5_2a 4) (p0_5_2k 4) (p0_5_2n 4) (p0_5_2w 4)), (oX1 (p0_5a 5 0) (p0_5a 5) (p0_5k 5) (p0_5n 5) (p0_5w 5) (p0_5l 5)), (oX9 (p0_5a 5 3) (p0_5_2a 5) (p0_5_2k 5) (p0_5_2n 5) (p0_5_2w 5)), [((p0a 6), .inl (p0_5c, 6, .inr (.inr (.inr (.inr (fun i => some (p0_5a i 0)))))))]] : List va_W)) sz) := by
  refine Met.ofW (cc := cX3_endBlock) (maxL := 6) (ret := (Option.none : Option Jvm.ClassFile.FieldType)) (by decide) rfl ?_
  intro p e s m args below meth c s₁ B hml hv
  obtain ⟨rfl, hsz, hP, hK, hD0, hE⟩ := hv
  have hx := B.exec
  have hb := B.bytes
  have hr := B.returns
  have hts0 := atoms_spec (ws := wz yX3_endBlock cX3_endBlock 6 (Option.none : Option Jvm.ClassFile.FieldType)) B.pre
  have hts : ∀ w ∈ gw, w.before _ s = true := fun w h => hts0 w (List.mem_cons_of_mem _ h)
  have hown : s.vm.findClass RX3 = some m.cls := findClass_of_methodNamed B.named
  have hlocks := B.notSynchronized
  subst hsz
  have hD := hD0.self (sz := s.heap.size)
  refine gQ9 ?_
  intro Q hQ
  generalize hAe : va_A (List.flatten ([(oX3 (p0a 0) p0a p0k p0n p0w), (oX1 (p1a 0) p1a p1k p1n p1w p1l), (oX1 (p0_5a 0 0) (p0_5a 0) (p0_5k 0) (p0_5n 0) (p0_5w 0) (p0_5l 0)), (oX9 (p0_5a 0 3) (p0_5_2a 0) (p0_5_2k 0) (p0_5_2n 0) (p0_5_2w 0)), (oX1 (p0_5a 1 0) (p0_5a 1) (p0_5k 1) (p0_5n 1) (p0_5w 1) (p0_5l 1)), (oX9 (p0_5a 1 3) (p0_5_2a 1) (p0_5_2k 1) (p0_5_2n 1) (p0_5_2w 1)), (oX1 (p0_5a 2 0) (p0_5a 2) (p0_5k 2) (p0_5n 2) (p0_5w 2) (p0_5l 2)), (oX9 (p0_5a 2 3) (p0_5_2a 2) (p0_5_2k 2) (p0_5_2n 2) (p0_5_2w 2)), (oX1 (p0_5a 3 0) (p0_5a 3) (p0_5k 3) (p0_5n 3) (p0_5w 3) (p0_5l 3)), (oX9 (p0_5a 3 3) (p0_5_2a 3) (p0_5_2k 3) (p0_5_2n 3) (p0_5_2w 3)), (oX1 (p0_5a 4 0) (p0_5a 4) (p0_5k 4) (p0_5n 4) (p0_5w 4) (p0_5l 4)), (oX9 (p0_5a 4 3) (p0_5_2a 4) (p0_5_2k 4) (p0_5_2n 4) (p0_5_2w 4)), (oX1 (p0_5a 5 0) (p0_5a 5) (p0_5k 5) (p0_5n 5) (p0_5w 5) (p0_5l 5)), (oX9 (p0_5a 5 3) (p0_5_2a 5) (p0_5_2k 5) (p0_5_2n 5) (p0_5_2w 5)), [((p0a 6), .inl (p0_5c, 6, .inr (.inr (.inr (.inr (fun i => some (p0_5a i 0)))))))]] : List va_W)) s.heap.size = A at hD hE hQ
  have hA : ∀ q : Nat, s.heap.size ≤ q → A q := fun q h => by rw [← hAe]; exact Or.inr h
  have hS : va_S A s.heap s.heap [] := va_S.rf
  have hP : va_P (dC, dI) cls (List.flatten ([(oX3 (p0a 0) p0a p0k p0n p0w), (oX1 (p1a 0) p1a p1k p1n p1w p1l), (oX1 (p0_5a 0 0) (p0_5a 0) (p0_5k 0) (p0_5n 0) (p0_5w 0) (p0_5l 0)), (oX9 (p0_5a 0 3) (p0_5_2a 0) (p0_5_2k 0) (p0_5_2n 0) (p0_5_2w 0)), (oX1 (p0_5a 1 0) (p0_5a 1) (p0_5k 1) (p0_5n 1) (p0_5w 1) (p0_5l 1)), (oX9 (p0_5a 1 3) (p0_5_2a 1) (p0_5_2k 1) (p0_5_2n 1) (p0_5_2w 1)), (oX1 (p0_5a 2 0) (p0_5a 2) (p0_5k 2) (p0_5n 2) (p0_5w 2) (p0_5l 2)), (oX9 (p0_5a 2 3) (p0_5_2a 2) (p0_5_2k 2) (p0_5_2n 2) (p0_5_2w 2)), (oX1 (p0_5a 3 0) (p0_5a 3) (p0_5k 3) (p0_5n 3) (p0_5w 3) (p0_5l 3)), (oX9 (p0_5a 3 3) (p0_5_2a 3) (p0_5_2k 3) (p0_5_2n 3) (p0_5_2w 3)), (oX1 (p0_5a 4 0) (p0_5a 4) (p0_5k 4) (p0_5n 4) (p0_5w 4) (p0_5l 4)), (oX9 (p0_5a 4 3) (p0_5_2a 4) (p0_5_2k 4) (p0_5_2n 4) (p0_5_2w 4)), (oX1 (p0_5a 5 0) (p0_5a 5) (p0_5k 5) (p0_5n 5) (p0_5w 5) (p0_5l 5)), (oX9 (p0_5a 5 3) (p0_5_2a 5) (p0_5_2k 5) (p0_5_2n 5) (p0_5_2w 5)), [((p0a 6), .inl (p0_5c, 6, .inr (.inr (.inr (.inr (fun i => some (p0_5a i 0)))))))]] : List va_W)) s.heap := hP
  have hl := lv_entry ([.ref (p0a 0), .ref (p1a 0), .int p2]) (n := 6) (Nat.le_of_ble_eq_true rfl)
  rw [lg_entry_eq]
  generalize (lg_sl ([.ref (p0a 0), .ref (p1a 0), .int p2]) ++ List.replicate (6 - (lg_sl ([.ref (p0a 0), .ref (p1a 0), .int p2])).length) Slot.unset).toArray = ls at hl ⊢
  have hl : lv_has ls 6 [(0, .ref (p0a 0)), (1, .ref (p1a 0)), (2, .int p2)] := hl
  obtain ⟨H, hHe⟩ : ∃ H, H = s.heap := ⟨_, rfl⟩
  obtain ⟨locs, hle⟩ : ∃ locs : List Loc, locs = [] := ⟨_, rfl⟩
  rw [← hHe] at hP
  have hS : va_S A s.heap H locs := by rw [hHe, hle]; exact hS
  show W p l e ({ frames := 2, cells := 0, slots := 0, locals := 42 } : Room) s m ([.ref (p0a 0), .ref (p1a 0), .int p2] : List Value).toArray below meth c s.heap [] 0 0 Q (F0 m 0 ls [])
  rw [← hle]
  refine wH9 hHe ?_
  unfold fX3_endBlock at hrun
  refine lv_aload_n hx hb dX3_endBlock_0 rfl (lv_at hl 0 rfl) ?_
  refine va_get (D := (dC, dI)) (ci := 10) (v := .ref (p0a 13)) (C := RX3) (T := TX3) (N := 20) hx hb hts i_X3 hown hK hP 0 rfl rfl 12 (by decide) (hts _ qw904) (fun _ h9 => h9) rfl dX3_endBlock_1 ?_
  refine lv_iload_n hx hb dX3_endBlock_4 rfl (lv_at hl 2 rfl) ?_
  obtain ⟨hq1, hrun⟩ := chk9 hrun
  refine va_iald hx hb hK hP 5 4 rfl rfl (ixb_in hq1) dX3_endBlock_5 ?_
  refine lv_istore_n (lv' := [(3, .int (p0w 13 (nn p2))), (0, .ref (p0a 0)), (1, .ref (p1a 0)), (2, .int p2)]) hx hb dX3_endBlock_6 rfl hl (by decide) rfl (fun ls hl => ?_)
  refine lv_aload_n hx hb dX3_endBlock_7 rfl (lv_at hl 2 rfl) ?_
  refine va_get (D := (dC, dI)) (ci := 4) (v := .ref (p1a 9)) (C := RX1) (T := TX1) (N := 21) hx hb hts i_X1 hown hK hP 11 rfl rfl 8 (by decide) (hts _ qw905) (fun _ h9 => h9) rfl dX3_endBlock_8 ?_
  refine lv_iload_n hx hb dX3_endBlock_11 rfl (lv_at hl 0 rfl) ?_
  obtain ⟨hq2, hrun⟩ := chk9 hrun
  refine va_iald hx hb hK hP 17 15 rfl rfl (ixb_in hq2) dX3_endBlock_12 ?_
  have J37 : ∀ (y0_37 : Int32) (H : Heap) (locs : List Loc) (ls : Array Slot), (fX3_endBlock_J37 p0w p1w p2 p0_5w p0_5_2n p0_5_2w y0_37) = some o → va_P (dC, dI) cls (List.flatten ([(oX3 (p0a 0) p0a p0k p0n p0w), (oX1 (p1a 0) p1a p1k p1n p1w p1l), (oX1 (p0_5a 0 0) (p0_5a 0) (p0_5k 0) (p0_5n 0) (p0_5w 0) (p0_5l 0)), (oX9 (p0_5a 0 3) (p0_5_2a 0) (p0_5_2k 0) (p0_5_2n 0) (p0_5_2w 0)), (oX1 (p0_5a 1 0) (p0_5a 1) (p0_5k 1) (p0_5n 1) (p0_5w 1) (p0_5l 1)), (oX9 (p0_5a 1 3) (p0_5_2a 1) (p0_5_2k 1) (p0_5_2n 1) (p0_5_2w 1)), (oX1 (p0_5a 2 0) (p0_5a 2) (p0_5k 2) (p0_5n 2) (p0_5w 2) (p0_5l 2)), (oX9 (p0_5a 2 3) (p0_5_2a 2) (p0_5_2k 2) (p0_5_2n 2) (p0_5_2w 2)), (oX1 (p0_5a 3 0) (p0_5a 3) (p0_5k 3) (p0_5n 3) (p0_5w 3) (p0_5l 3)), (oX9 (p0_5a 3 3) (p0_5_2a 3) (p0_5_2k 3) (p0_5_2n 3) (p0_5_2w 3)), (oX1 (p0_5a 4 0) (p0_5a 4) (p0_5k 4) (p0_5n 4) (p0_5w 4) (p0_5l 4)), (oX9 (p0_5a 4 3) (p0_5_2a 4) (p0_5_2k 4) (p0_5_2n 4) (p0_5_2w 4)), (oX1 (p0_5a 5 0) (p0_5a 5) (p0_5k 5) (p0_5n 5) (p0_5w 5) (p0_5l 5)), (oX9 (p0_5a 5 3) (p0_5_2a 5) (p0_5_2k 5) (p0_5_2n 5) (p0_5_2w 5)), [((p0a 6), .inl (p0_5c, 6, .inr (.inr (.inr (.inr (fun i => some (p0_5a i 0)))))))]] : List va_W)) H → va_D A (List.flatten ([(oX3 (p0a 0) p0a p0k p0n p0w), (oX1 (p1a 0) p1a p1k p1n p1w p1l), (oX1 (p0_5a 0 0) (p0_5a 0) (p0_5k 0) (p0_5n 0) (p0_5w 0) (p0_5l 0)), (oX9 (p0_5a 0 3) (p0_5_2a 0) (p0_5_2k 0) (p0_5_2n 0) (p0_5_2w 0)), (oX1 (p0_5a 1 0) (p0_5a 1) (p0_5k 1) (p0_5n 1) (p0_5w 1) (p0_5l 1)), (oX9 (p0_5a 1 3) (p0_5_2a 1) (p0_5_2k 1) (p0_5_2n 1) (p0_5_2w 1)), (oX1 (p0_5a 2 0) (p0_5a 2) (p0_5k 2) (p0_5n 2) (p0_5w 2) (p0_5l 2)), (oX9 (p0_5a 2 3) (p0_5_2a 2) (p0_5_2k 2) (p0_5_2n 2) (p0_5_2w 2)), (oX1 (p0_5a 3 0) (p0_5a 3) (p0_5k 3) (p0_5n 3) (p0_5w 3) (p0_5l 3)), (oX9 (p0_5a 3 3) (p0_5_2a 3) (p0_5_2k 3) (p0_5_2n 3) (p0_5_2w 3)), (oX1 (p0_5a 4 0) (p0_5a 4) (p0_5k 4) (p0_5n 4) (p0_5w 4) (p0_5l 4)), (oX9 (p0_5a 4 3) (p0_5_2a 4) (p0_5_2k 4) (p0_5_2n 4) (p0_5_2w 4)), (oX1 (p0_5a 5 0) (p0_5a 5) (p0_5k 5) (p0_5n 5) (p0_5w 5) (p0_5l 5)), (oX9 (p0_5a 5 3) (p0_5_2a 5) (p0_5_2k 5) (p0_5_2n 5) (p0_5_2w 5)), [((p0a 6), .inl (p0_5c, 6, .inr (.inr (.inr (.inr (fun i => some (p0_5a i 0)))))))]] : List va_W)) → va_K (dC, dI) cls (List.flatten ([(tX3 p0k), (tX1 p1k), (tX1 (p0_5k 0)), (tX9 (p0_5_2k 0)), (tX1 (p0_5k 1)), (tX9 (p0_5_2k 1)), (tX1 (p0_5k 2)), (tX9 (p0_5_2k 2)), (tX1 (p0_5k 3)), (tX9 (p0_5_2k 3)), (tX1 (p0_5k 4)), (tX9 (p0_5_2k 4)), (tX1 (p0_5k 5)), (tX9 (p0_5_2k 5)), [(p0_5c, .object RX1)]] : List (List (ClassId × FieldType)))) s → va_S A s.heap H locs → lv_has ls 6 [(0, .ref (p0a 0)), (1, .ref (p1a 0)), (2, .int p2), (3, .int (p0w 13 (nn p2)))] → W p l e ({ frames := 2, cells := 0, slots := 0, locals := 42 } : Room) s m ([.ref (p0a 0), .ref (p1a 0), .int p2] : List Value).toArray below meth c H locs 0 0 Q (F0 m 37 ls [.int y0_37]) := by
    intro y0_37 H locs ls hrun hP hD hK hS hl 
    unfold fX3_endBlock_J37 at hrun
    refine lv_istore (lv' := [(4, .int y0_37), (0, .ref (p0a 0)), (1, .ref (p1a 0)), (2, .int p2), (3, .int (p0w 13 (nn p2)))]) hx hb dX3_endBlock_37 hl (by decide) rfl (fun ls hl => ?_)
    refine lv_aload_n hx hb dX3_endBlock_39 rfl (lv_at hl 2 rfl) ?_
    refine va_get (D := (dC, dI)) (ci := 4) (v := .ref (p1a 8)) (C := RX1) (T := TX1) (N := 21) hx hb hts i_X1 hown hK hP 11 rfl rfl 7 (by decide) (hts _ qw907) (fun _ h9 => h9) rfl dX3_endBlock_40 ?_
    refine lv_iload_n hx hb dX3_endBlock_43 rfl (lv_at hl 4 rfl) ?_
    obtain ⟨hq3, hrun⟩ := chk9 hrun
    refine va_iald hx hb hK hP 16 14 rfl rfl (ixb_in hq3) dX3_endBlock_44 ?_
    refine lv_bipush (v := 24) hx hb dX3_endBlock_45 (by decide) ?_
    rcases br9 hrun with ⟨hc4, hrun⟩ | ⟨hc4, hrun⟩
    · refine lv_icmp_ne (tgt := 82) hx hb dX3_endBlock_47 (by decide) (fun c => absurd hc4 c) (fun _ => ?_)
      refine lv_aload_n hx hb dX3_endBlock_50 rfl (lv_at hl 1 rfl) ?_
      refine lv_iload hx hb dX3_endBlock_51 (lv_at hl 0 rfl) ?_
      obtain ⟨o_5, hc_5, hrun⟩ := bnd9 hrun
      have hPx : va_P (dC, dI) cls ((List.flatten ([(oX3 (p0a 0) p0a p0k p0n p0w)] : List va_W)) ++ (List.flatten ([(oX1 (p1a 0) p1a p1k p1n p1w p1l), (oX1 (p0_5a 0 0) (p0_5a 0) (p0_5k 0) (p0_5n 0) (p0_5w 0) (p0_5l 0)), (oX9 (p0_5a 0 3) (p0_5_2a 0) (p0_5_2k 0) (p0_5_2n 0) (p0_5_2w 0)), (oX1 (p0_5a 1 0) (p0_5a 1) (p0_5k 1) (p0_5n 1) (p0_5w 1) (p0_5l 1)), (oX9 (p0_5a 1 3) (p0_5_2a 1) (p0_5_2k 1) (p0_5_2n 1) (p0_5_2w 1)), (oX1 (p0_5a 2 0) (p0_5a 2) (p0_5k 2) (p0_5n 2) (p0_5w 2) (p0_5l 2)), (oX9 (p0_5a 2 3) (p0_5_2a 2) (p0_5_2k 2) (p0_5_2n 2) (p0_5_2w 2)), (oX1 (p0_5a 3 0) (p0_5a 3) (p0_5k 3) (p0_5n 3) (p0_5w 3) (p0_5l 3)), (oX9 (p0_5a 3 3) (p0_5_2a 3) (p0_5_2k 3) (p0_5_2n 3) (p0_5_2w 3)), (oX1 (p0_5a 4 0) (p0_5a 4) (p0_5k 4) (p0_5n 4) (p0_5w 4) (p0_5l 4)), (oX9 (p0_5a 4 3) (p0_5_2a 4) (p0_5_2k 4) (p0_5_2n 4) (p0_5_2w 4)), (oX1 (p0_5a 5 0) (p0_5a 5) (p0_5k 5) (p0_5n 5) (p0_5w 5) (p0_5l 5)), (oX9 (p0_5a 5 3) (p0_5_2a 5) (p0_5_2k 5) (p0_5_2n 5) (p0_5_2w 5)), [((p0a 6), .inl (p0_5c, 6, .inr (.inr (.inr (.inr (fun i => some (p0_5a i 0)))))))]] : List va_W))) H := vP_fa (vP_perm hP (bP (List.Perm.refl _)))
      have hDx : va_D A ((List.flatten ([(oX3 (p0a 0) p0a p0k p0n p0w)] : List va_W)) ++ (List.flatten ([(oX1 (p1a 0) p1a p1k p1n p1w p1l), (oX1 (p0_5a 0 0) (p0_5a 0) (p0_5k 0) (p0_5n 0) (p0_5w 0) (p0_5l 0)), (oX9 (p0_5a 0 3) (p0_5_2a 0) (p0_5_2k 0) (p0_5_2n 0) (p0_5_2w 0)), (oX1 (p0_5a 1 0) (p0_5a 1) (p0_5k 1) (p0_5n 1) (p0_5w 1) (p0_5l 1)), (oX9 (p0_5a 1 3) (p0_5_2a 1) (p0_5_2k 1) (p0_5_2n 1) (p0_5_2w 1)), (oX1 (p0_5a 2 0) (p0_5a 2) (p0_5k 2) (p0_5n 2) (p0_5w 2) (p0_5l 2)), (oX9 (p0_5a 2 3) (p0_5_2a 2) (p0_5_2k 2) (p0_5_2n 2) (p0_5_2w 2)), (oX1 (p0_5a 3 0) (p0_5a 3) (p0_5k 3) (p0_5n 3) (p0_5w 3) (p0_5l 3)), (oX9 (p0_5a 3 3) (p0_5_2a 3) (p0_5_2k 3) (p0_5_2n 3) (p0_5_2w 3)), (oX1 (p0_5a 4 0) (p0_5a 4) (p0_5k 4) (p0_5n 4) (p0_5w 4) (p0_5l 4)), (oX9 (p0_5a 4 3) (p0_5_2a 4) (p0_5_2k 4) (p0_5_2n 4) (p0_5_2w 4)), (oX1 (p0_5a 5 0) (p0_5a 5) (p0_5k 5) (p0_5n 5) (p0_5w 5) (p0_5l 5)), (oX9 (p0_5a 5 3) (p0_5_2a 5) (p0_5_2k 5) (p0_5_2n 5) (p0_5_2w 5)), [((p0a 6), .inl (p0_5c, 6, .inr (.inr (.inr (.inr (fun i => some (p0_5a i 0)))))))]] : List va_W))) := vD_fa (vD_perm hD (bP (List.Perm.refl _)))
      have hKx : va_K (dC, dI) cls ((List.flatten ([(tX3 p0k)] : List (List (ClassId × FieldType)))) ++ (List.flatten ([(tX1 p1k), (tX1 (p0_5k 0)), (tX9 (p0_5_2k 0)), (tX1 (p0_5k 1)), (tX9 (p0_5_2k 1)), (tX1 (p0_5k 2)), (tX9 (p0_5_2k 2)), (tX1 (p0_5k 3)), (tX9 (p0_5_2k 3)), (tX1 (p0_5k 4)), (tX9 (p0_5_2k 4)), (tX1 (p0_5k 5)), (tX9 (p0_5_2k 5)), [(p0_5c, .object RX1)]] : List (List (ClassId × FieldType))))) s := vK_fa (vK_perm hK (bP (List.Perm.refl _)))
      have hPc := vP_l hPx
      have hDc := vD_l hDx
      have hKc := vK_l hKx
      have hFc := vfree hDx hS hA
      refine va_calli (va_runV (As := [.int y0_37]) (rest := []) ⟨hx, hb, hml, hown, hts⟩ (kX3_close l dC dI (p0a := p0a) (p0k := p0k) (p0n := p0n) (p0w := p0w) (p1 := y0_37) (sz := _) (o := o_5) (hrun := hc_5)) (cwV 1 hts (gi_V qw909 qw910 qw911 qw903 (gi_z qw908)) rfl rfl rfl (by decide +kernel) ⟨Nat.le_of_ble_eq_true rfl, Nat.le_of_ble_eq_true rfl⟩) ⟨PRE.blind, va_recv hKc hPc (ci := 10) (q0 := 0) rfl rfl, PRE.of hE hS hFc hPc hKc hDc⟩ rfl rfl hl.1 rfl (lv_room (Nat.le_of_ble_eq_true rfl)) dX3_endBlock_53 ⟨(Nat.le_of_ble_eq_true rfl), (Nat.le_of_ble_eq_true rfl)⟩) hS (fun q _ h => hFc q h) hFc (fun r6 u t H locs ht hvm hw hB hz1 hk1 hS => ?_)
      obtain ⟨b1, b2, b3⟩ := hB
      rw [ht] at b1
      obtain ⟨hP, hD, hK⟩ := JOINC (wc := (List.flatten ([(oX3 (p0a 0) p0a p0k p0n p0w)] : List va_W))) (wr := (List.flatten ([(oX1 (p1a 0) p1a p1k p1n p1w p1l), (oX1 (p0_5a 0 0) (p0_5a 0) (p0_5k 0) (p0_5n 0) (p0_5w 0) (p0_5l 0)), (oX9 (p0_5a 0 3) (p0_5_2a 0) (p0_5_2k 0) (p0_5_2n 0) (p0_5_2w 0)), (oX1 (p0_5a 1 0) (p0_5a 1) (p0_5k 1) (p0_5n 1) (p0_5w 1) (p0_5l 1)), (oX9 (p0_5a 1 3) (p0_5_2a 1) (p0_5_2k 1) (p0_5_2n 1) (p0_5_2w 1)), (oX1 (p0_5a 2 0) (p0_5a 2) (p0_5k 2) (p0_5n 2) (p0_5w 2) (p0_5l 2)), (oX9 (p0_5a 2 3) (p0_5_2a 2) (p0_5_2k 2) (p0_5_2n 2) (p0_5_2w 2)), (oX1 (p0_5a 3 0) (p0_5a 3) (p0_5k 3) (p0_5n 3) (p0_5w 3) (p0_5l 3)), (oX9 (p0_5a 3 3) (p0_5_2a 3) (p0_5_2k 3) (p0_5_2n 3) (p0_5_2w 3)), (oX1 (p0_5a 4 0) (p0_5a 4) (p0_5k 4) (p0_5n 4) (p0_5w 4) (p0_5l 4)), (oX9 (p0_5a 4 3) (p0_5_2a 4) (p0_5_2k 4) (p0_5_2n 4) (p0_5_2w 4)), (oX1 (p0_5a 5 0) (p0_5a 5) (p0_5k 5) (p0_5n 5) (p0_5w 5) (p0_5l 5)), (oX9 (p0_5a 5 3) (p0_5_2a 5) (p0_5_2k 5) (p0_5_2n 5) (p0_5_2w 5)), [((p0a 6), .inl (p0_5c, 6, .inr (.inr (.inr (.inr (fun i => some (p0_5a i 0)))))))]] : List va_W))) (w1 := (List.flatten ([(oX3 (p0a 0) p0a p0k p0n (o_5.2))] : List va_W))) (t1 := (List.flatten ([(tX3 p0k)] : List (List (ClassId × FieldType))))) hPx hDx hKx hk1 hFc b1 (va_K.moved hvm.symm b2) b3
      have hP : va_P (dC, dI) cls (List.flatten ([(oX3 (p0a 0) p0a p0k p0n (o_5.2)), (oX1 (p1a 0) p1a p1k p1n p1w p1l), (oX1 (p0_5a 0 0) (p0_5a 0) (p0_5k 0) (p0_5n 0) (p0_5w 0) (p0_5l 0)), (oX9 (p0_5a 0 3) (p0_5_2a 0) (p0_5_2k 0) (p0_5_2n 0) (p0_5_2w 0)), (oX1 (p0_5a 1 0) (p0_5a 1) (p0_5k 1) (p0_5n 1) (p0_5w 1) (p0_5l 1)), (oX9 (p0_5a 1 3) (p0_5_2a 1) (p0_5_2k 1) (p0_5_2n 1) (p0_5_2w 1)), (oX1 (p0_5a 2 0) (p0_5a 2) (p0_5k 2) (p0_5n 2) (p0_5w 2) (p0_5l 2)), (oX9 (p0_5a 2 3) (p0_5_2a 2) (p0_5_2k 2) (p0_5_2n 2) (p0_5_2w 2)), (oX1 (p0_5a 3 0) (p0_5a 3) (p0_5k 3) (p0_5n 3) (p0_5w 3) (p0_5l 3)), (oX9 (p0_5a 3 3) (p0_5_2a 3) (p0_5_2k 3) (p0_5_2n 3) (p0_5_2w 3)), (oX1 (p0_5a 4 0) (p0_5a 4) (p0_5k 4) (p0_5n 4) (p0_5w 4) (p0_5l 4)), (oX9 (p0_5a 4 3) (p0_5_2a 4) (p0_5_2k 4) (p0_5_2n 4) (p0_5_2w 4)), (oX1 (p0_5a 5 0) (p0_5a 5) (p0_5k 5) (p0_5n 5) (p0_5w 5) (p0_5l 5)), (oX9 (p0_5a 5 3) (p0_5_2a 5) (p0_5_2k 5) (p0_5_2n 5) (p0_5_2w 5)), [((p0a 6), .inl (p0_5c, 6, .inr (.inr (.inr (.inr (fun i => some (p0_5a i 0)))))))]] : List va_W)) H := vP_perm (vP_fb hP) (bP (List.Perm.refl _))
      have hD : va_D A (List.flatten ([(oX3 (p0a 0) p0a p0k p0n (o_5.2)), (oX1 (p1a 0) p1a p1k p1n p1w p1l), (oX1 (p0_5a 0 0) (p0_5a 0) (p0_5k 0) (p0_5n 0) (p0_5w 0) (p0_5l 0)), (oX9 (p0_5a 0 3) (p0_5_2a 0) (p0_5_2k 0) (p0_5_2n 0) (p0_5_2w 0)), (oX1 (p0_5a 1 0) (p0_5a 1) (p0_5k 1) (p0_5n 1) (p0_5w 1) (p0_5l 1)), (oX9 (p0_5a 1 3) (p0_5_2a 1) (p0_5_2k 1) (p0_5_2n 1) (p0_5_2w 1)), (oX1 (p0_5a 2 0) (p0_5a 2) (p0_5k 2) (p0_5n 2) (p0_5w 2) (p0_5l 2)), (oX9 (p0_5a 2 3) (p0_5_2a 2) (p0_5_2k 2) (p0_5_2n 2) (p0_5_2w 2)), (oX1 (p0_5a 3 0) (p0_5a 3) (p0_5k 3) (p0_5n 3) (p0_5w 3) (p0_5l 3)), (oX9 (p0_5a 3 3) (p0_5_2a 3) (p0_5_2k 3) (p0_5_2n 3) (p0_5_2w 3)), (oX1 (p0_5a 4 0) (p0_5a 4) (p0_5k 4) (p0_5n 4) (p0_5w 4) (p0_5l 4)), (oX9 (p0_5a 4 3) (p0_5_2a 4) (p0_5_2k 4) (p0_5_2n 4) (p0_5_2w 4)), (oX1 (p0_5a 5 0) (p0_5a 5) (p0_5k 5) (p0_5n 5) (p0_5w 5) (p0_5l 5)), (oX9 (p0_5a 5 3) (p0_5_2a 5) (p0_5_2k 5) (p0_5_2n 5) (p0_5_2w 5)), [((p0a 6), .inl (p0_5c, 6, .inr (.inr (.inr (.inr (fun i => some (p0_5a i 0)))))))]] : List va_W)) := vD_perm (vD_fb hD) (bP (List.Perm.refl _))
      have hK : va_K (dC, dI) cls (List.flatten ([(tX3 p0k), (tX1 p1k), (tX1 (p0_5k 0)), (tX9 (p0_5_2k 0)), (tX1 (p0_5k 1)), (tX9 (p0_5_2k 1)), (tX1 (p0_5k 2)), (tX9 (p0_5_2k 2)), (tX1 (p0_5k 3)), (tX9 (p0_5_2k 3)), (tX1 (p0_5k 4)), (tX9 (p0_5_2k 4)), (tX1 (p0_5k 5)), (tX9 (p0_5_2k 5)), [(p0_5c, .object RX1)]] : List (List (ClassId × FieldType)))) s := vK_perm (vK_fb hK) (bP (List.Perm.refl _))
      obtain rfl : r6 = (o_5.1) := hw
      have J81 : ∀ (p0w_81 : ST) (H : Heap) (locs : List Loc) (ls : Array Slot), (fX3_endBlock_J81 p0w_81) = some o → va_P (dC, dI) cls (List.flatten ([(oX3 (p0a 0) p0a p0k p0n p0w_81), (oX1 (p1a 0) p1a p1k p1n p1w p1l), (oX1 (p0_5a 0 0) (p0_5a 0) (p0_5k 0) (p0_5n 0) (p0_5w 0) (p0_5l 0)), (oX9 (p0_5a 0 3) (p0_5_2a 0) (p0_5_2k 0) (p0_5_2n 0) (p0_5_2w 0)), (oX1 (p0_5a 1 0) (p0_5a 1) (p0_5k 1) (p0_5n 1) (p0_5w 1) (p0_5l 1)), (oX9 (p0_5a 1 3) (p0_5_2a 1) (p0_5_2k 1) (p0_5_2n 1) (p0_5_2w 1)), (oX1 (p0_5a 2 0) (p0_5a 2) (p0_5k 2) (p0_5n 2) (p0_5w 2) (p0_5l 2)), (oX9 (p0_5a 2 3) (p0_5_2a 2) (p0_5_2k 2) (p0_5_2n 2) (p0_5_2w 2)), (oX1 (p0_5a 3 0) (p0_5a 3) (p0_5k 3) (p0_5n 3) (p0_5w 3) (p0_5l 3)), (oX9 (p0_5a 3 3) (p0_5_2a 3) (p0_5_2k 3) (p0_5_2n 3) (p0_5_2w 3)), (oX1 (p0_5a 4 0) (p0_5a 4) (p0_5k 4) (p0_5n 4) (p0_5w 4) (p0_5l 4)), (oX9 (p0_5a 4 3) (p0_5_2a 4) (p0_5_2k 4) (p0_5_2n 4) (p0_5_2w 4)), (oX1 (p0_5a 5 0) (p0_5a 5) (p0_5k 5) (p0_5n 5) (p0_5w 5) (p0_5l 5)), (oX9 (p0_5a 5 3) (p0_5_2a 5) (p0_5_2k 5) (p0_5_2n 5) (p0_5_2w 5)), [((p0a 6), .inl (p0_5c, 6, .inr (.inr (.inr (.inr (fun i => some (p0_5a i 0)))))))]] : List va_W)) H → va_D A (List.flatten ([(oX3 (p0a 0) p0a p0k p0n p0w_81), (oX1 (p1a 0) p1a p1k p1n p1w p1l), (oX1 (p0_5a 0 0) (p0_5a 0) (p0_5k 0) (p0_5n 0) (p0_5w 0) (p0_5l 0)), (oX9 (p0_5a 0 3) (p0_5_2a 0) (p0_5_2k 0) (p0_5_2n 0) (p0_5_2w 0)), (oX1 (p0_5a 1 0) (p0_5a 1) (p0_5k 1) (p0_5n 1) (p0_5w 1) (p0_5l 1)), (oX9 (p0_5a 1 3) (p0_5_2a 1) (p0_5_2k 1) (p0_5_2n 1) (p0_5_2w 1)), (oX1 (p0_5a 2 0) (p0_5a 2) (p0_5k 2) (p0_5n 2) (p0_5w 2) (p0_5l 2)), (oX9 (p0_5a 2 3) (p0_5_2a 2) (p0_5_2k 2) (p0_5_2n 2) (p0_5_2w 2)), (oX1 (p0_5a 3 0) (p0_5a 3) (p0_5k 3) (p0_5n 3) (p0_5w 3) (p0_5l 3)), (oX9 (p0_5a 3 3) (p0_5_2a 3) (p0_5_2k 3) (p0_5_2n 3) (p0_5_2w 3)), (oX1 (p0_5a 4 0) (p0_5a 4) (p0_5k 4) (p0_5n 4) (p0_5w 4) (p0_5l 4)), (oX9 (p0_5a 4 3) (p0_5_2a 4) (p0_5_2k 4) (p0_5_2n 4) (p0_5_2w 4)), (oX1 (p0_5a 5 0) (p0_5a 5) (p0_5k 5) (p0_5n 5) (p0_5w 5) (p0_5l 5)), (oX9 (p0_5a 5 3) (p0_5_2a 5) (p0_5_2k 5) (p0_5_2n 5) (p0_5_2w 5)), [((p0a 6), .inl (p0_5c, 6, .inr (.inr (.inr (.inr (fun i => some (p0_5a i 0)))))))]] : List va_W)) → va_K (dC, dI) cls (List.flatten ([(tX3 p0k), (tX1 p1k), (tX1 (p0_5k 0)), (tX9 (p0_5_2k 0)), (tX1 (p0_5k 1)), (tX9 (p0_5_2k 1)), (tX1 (p0_5k 2)), (tX9 (p0_5_2k 2)), (tX1 (p0_5k 3)), (tX9 (p0_5_2k 3)), (tX1 (p0_5k 4)), (tX9 (p0_5_2k 4)), (tX1 (p0_5k 5)), (tX9 (p0_5_2k 5)), [(p0_5c, .object RX1)]] : List (List (ClassId × FieldType)))) s → va_S A s.heap H locs → lv_has ls 6 [] → W p l e ({ frames := 2, cells := 0, slots := 0, locals := 42 } : Room) s m ([.ref (p0a 0), .ref (p1a 0), .int p2] : List Value).toArray below meth c H locs 0 0 Q (F0 m 81 ls []) := by
        intro p0w_81 H locs ls hrun hP hD hK hS hl 
        unfold fX3_endBlock_J81 at hrun
        have ho9 : p0w_81 = o := Option.some.inj hrun
        have hP9 : va_P (dC, dI) cls (List.flatten ([(oX3 (p0a 0) p0a p0k p0n o), (oX1 (p1a 0) p1a p1k p1n p1w p1l), (oX1 (p0_5a 0 0) (p0_5a 0) (p0_5k 0) (p0_5n 0) (p0_5w 0) (p0_5l 0)), (oX9 (p0_5a 0 3) (p0_5_2a 0) (p0_5_2k 0) (p0_5_2n 0) (p0_5_2w 0)), (oX1 (p0_5a 1 0) (p0_5a 1) (p0_5k 1) (p0_5n 1) (p0_5w 1) (p0_5l 1)), (oX9 (p0_5a 1 3) (p0_5_2a 1) (p0_5_2k 1) (p0_5_2n 1) (p0_5_2w 1)), (oX1 (p0_5a 2 0) (p0_5a 2) (p0_5k 2) (p0_5n 2) (p0_5w 2) (p0_5l 2)), (oX9 (p0_5a 2 3) (p0_5_2a 2) (p0_5_2k 2) (p0_5_2n 2) (p0_5_2w 2)), (oX1 (p0_5a 3 0) (p0_5a 3) (p0_5k 3) (p0_5n 3) (p0_5w 3) (p0_5l 3)), (oX9 (p0_5a 3 3) (p0_5_2a 3) (p0_5_2k 3) (p0_5_2n 3) (p0_5_2w 3)), (oX1 (p0_5a 4 0) (p0_5a 4) (p0_5k 4) (p0_5n 4) (p0_5w 4) (p0_5l 4)), (oX9 (p0_5a 4 3) (p0_5_2a 4) (p0_5_2k 4) (p0_5_2n 4) (p0_5_2w 4)), (oX1 (p0_5a 5 0) (p0_5a 5) (p0_5k 5) (p0_5n 5) (p0_5w 5) (p0_5l 5)), (oX9 (p0_5a 5 3) (p0_5_2a 5) (p0_5_2k 5) (p0_5_2n 5) (p0_5_2w 5)), [((p0a 6), .inl (p0_5c, 6, .inr (.inr (.inr (.inr (fun i => some (p0_5a i 0)))))))]] : List va_W)) H := by first | exact hP | (rw [← ho9]; exact hP)
        have hD9 : va_D A (List.flatten ([(oX3 (p0a 0) p0a p0k p0n o), (oX1 (p1a 0) p1a p1k p1n p1w p1l), (oX1 (p0_5a 0 0) (p0_5a 0) (p0_5k 0) (p0_5n 0) (p0_5w 0) (p0_5l 0)), (oX9 (p0_5a 0 3) (p0_5_2a 0) (p0_5_2k 0) (p0_5_2n 0) (p0_5_2w 0)), (oX1 (p0_5a 1 0) (p0_5a 1) (p0_5k 1) (p0_5n 1) (p0_5w 1) (p0_5l 1)), (oX9 (p0_5a 1 3) (p0_5_2a 1) (p0_5_2k 1) (p0_5_2n 1) (p0_5_2w 1)), (oX1 (p0_5a 2 0) (p0_5a 2) (p0_5k 2) (p0_5n 2) (p0_5w 2) (p0_5l 2)), (oX9 (p0_5a 2 3) (p0_5_2a 2) (p0_5_2k 2) (p0_5_2n 2) (p0_5_2w 2)), (oX1 (p0_5a 3 0) (p0_5a 3) (p0_5k 3) (p0_5n 3) (p0_5w 3) (p0_5l 3)), (oX9 (p0_5a 3 3) (p0_5_2a 3) (p0_5_2k 3) (p0_5_2n 3) (p0_5_2w 3)), (oX1 (p0_5a 4 0) (p0_5a 4) (p0_5k 4) (p0_5n 4) (p0_5w 4) (p0_5l 4)), (oX9 (p0_5a 4 3) (p0_5_2a 4) (p0_5_2k 4) (p0_5_2n 4) (p0_5_2w 4)), (oX1 (p0_5a 5 0) (p0_5a 5) (p0_5k 5) (p0_5n 5) (p0_5w 5) (p0_5l 5)), (oX9 (p0_5a 5 3) (p0_5_2a 5) (p0_5_2k 5) (p0_5_2n 5) (p0_5_2w 5)), [((p0a 6), .inl (p0_5c, 6, .inr (.inr (.inr (.inr (fun i => some (p0_5a i 0)))))))]] : List va_W)) := by first | exact hD | (rw [← ho9]; exact hD)
        subst hQ
        exact W.vret hx hb hr (fun t ht hW => ⟨⟨(), rfl, trivial, ⟨by rw [ht]; exact hP9, va_K.moved hW.alike hK, hD9⟩⟩, hS.F ht⟩) hS.2.2 dX3_endBlock_81
      rcases br9 hrun with ⟨hc7, hrun⟩ | ⟨hc7, hrun⟩
      · refine lv_if_eq (tgt := 81) hx hb dX3_endBlock_56 (by decide) (fun _ => ?_) (fun c => absurd hc7 c)
        exact J81 (o_5.2) _ _ _ hrun hP hD hK hS (lv_sub hl [] rfl)
      · refine lv_if_eq (tgt := 81) hx hb dX3_endBlock_56 (by decide) (fun c => absurd c hc7) (fun _ => ?_)
        refine lv_aload_n hx hb dX3_endBlock_59 rfl (lv_at hl 1 rfl) ?_
        refine lv_aload_n hx hb dX3_endBlock_60 rfl (lv_at hl 1 rfl) ?_
        refine va_get (D := (dC, dI)) (ci := 10) (v := .ref (p0a 6)) (C := RX3) (T := TX3) (N := 20) hx hb hts i_X3 hown hK hP 0 rfl rfl 5 (by decide) (hts _ qw912) (fun _ h9 => h9) rfl dX3_endBlock_61 ?_
        refine lv_aload_n hx hb dX3_endBlock_64 rfl (lv_at hl 1 rfl) ?_
        refine va_get (D := (dC, dI)) (ci := 10) (v := .ref (p0a 11)) (C := RX3) (T := TX3) (N := 20) hx hb hts i_X3 hown hK hP 0 rfl rfl 10 (by decide) (hts _ qw913) (fun _ h9 => h9) rfl dX3_endBlock_65 ?_
        refine lv_aload_n hx hb dX3_endBlock_68 rfl (lv_at hl 1 rfl) ?_
        refine va_get (D := (dC, dI)) (ci := 10) (v := .int ((o_5.2) 0 9)) (C := RX3) (T := TX3) (N := 20) hx hb hts i_X3 hown hK hP 0 rfl rfl 9 (by decide) (hts _ qw897) (fun _ h9 => h9) rfl dX3_endBlock_69 ?_
        refine lv_iconst (v := 1) hx hb dX3_endBlock_72 (by decide) ?_
        refine lv_isub hx hb dX3_endBlock_73 ?_
        obtain ⟨hq8, hrun⟩ := chk9 hrun
        refine va_iald hx hb hK hP 3 2 rfl rfl (ixb_in hq8) dX3_endBlock_74 ?_
        obtain ⟨hq9, hrun⟩ := chk9 hrun
        refine va_aldq hx hb hK hP 173 159 rfl rfl (ixb_in hq9) dX3_endBlock_75 ?_
        obtain ⟨i10, ei10, hrun⟩ := let9 hrun
        have hi_i10 : i10 < 6 := by rw [ei10]; exact ixb_lt hq9
        have es_i10 : Int32.toNatClampNeg (((o_5.2) 11) (nn (((o_5.2) 0 9) - 1))) = i10 := ei10.symm
        rw [es_i10]
        clear ei10
        rcases lt6 hi_i10 with rfl | rfl | rfl | rfl | rfl | rfl
        · refine W.eq (g2 := F0 m 76 ls [.ref (p0_5a 0 0), .ref (p0a 0)]) rfl ?_
          refine lv_iload hx hb dX3_endBlock_76 (lv_at hl 0 rfl) ?_
          obtain ⟨o_11, hc_11, hrun⟩ := bnd9 hrun
          have hPx : va_P (dC, dI) cls ((List.flatten ([(oX3 (p0a 0) p0a p0k p0n (o_5.2)), (oX1 (p0_5a 0 0) (p0_5a 0) (p0_5k 0) (p0_5n 0) (p0_5w 0) (p0_5l 0)), (oX9 (p0_5a 0 3) (p0_5_2a 0) (p0_5_2k 0) (p0_5_2n 0) (p0_5_2w 0))] : List va_W)) ++ (List.flatten ([(oX1 (p1a 0) p1a p1k p1n p1w p1l), (oX1 (p0_5a 1 0) (p0_5a 1) (p0_5k 1) (p0_5n 1) (p0_5w 1) (p0_5l 1)), (oX9 (p0_5a 1 3) (p0_5_2a 1) (p0_5_2k 1) (p0_5_2n 1) (p0_5_2w 1)), (oX1 (p0_5a 2 0) (p0_5a 2) (p0_5k 2) (p0_5n 2) (p0_5w 2) (p0_5l 2)), (oX9 (p0_5a 2 3) (p0_5_2a 2) (p0_5_2k 2) (p0_5_2n 2) (p0_5_2w 2)), (oX1 (p0_5a 3 0) (p0_5a 3) (p0_5k 3) (p0_5n 3) (p0_5w 3) (p0_5l 3)), (oX9 (p0_5a 3 3) (p0_5_2a 3) (p0_5_2k 3) (p0_5_2n 3) (p0_5_2w 3)), (oX1 (p0_5a 4 0) (p0_5a 4) (p0_5k 4) (p0_5n 4) (p0_5w 4) (p0_5l 4)), (oX9 (p0_5a 4 3) (p0_5_2a 4) (p0_5_2k 4) (p0_5_2n 4) (p0_5_2w 4)), (oX1 (p0_5a 5 0) (p0_5a 5) (p0_5k 5) (p0_5n 5) (p0_5w 5) (p0_5l 5)), (oX9 (p0_5a 5 3) (p0_5_2a 5) (p0_5_2k 5) (p0_5_2n 5) (p0_5_2w 5)), [((p0a 6), .inl (p0_5c, 6, .inr (.inr (.inr (.inr (fun i => some (p0_5a i 0)))))))]] : List va_W))) H := vP_fa (vP_perm hP (bP (((List.Perm.refl _)).trans ((((((((List.Perm.refl _)).cons _).trans (List.Perm.swap _ _ _))).trans ((((((List.Perm.refl _)).cons _).trans (List.Perm.swap _ _ _))).cons _))).cons _))))
          have hDx : va_D A ((List.flatten ([(oX3 (p0a 0) p0a p0k p0n (o_5.2)), (oX1 (p0_5a 0 0) (p0_5a 0) (p0_5k 0) (p0_5n 0) (p0_5w 0) (p0_5l 0)), (oX9 (p0_5a 0 3) (p0_5_2a 0) (p0_5_2k 0) (p0_5_2n 0) (p0_5_2w 0))] : List va_W)) ++ (List.flatten ([(oX1 (p1a 0) p1a p1k p1n p1w p1l), (oX1 (p0_5a 1 0) (p0_5a 1) (p0_5k 1) (p0_5n 1) (p0_5w 1) (p0_5l 1)), (oX9 (p0_5a 1 3) (p0_5_2a 1) (p0_5_2k 1) (p0_5_2n 1) (p0_5_2w 1)), (oX1 (p0_5a 2 0) (p0_5a 2) (p0_5k 2) (p0_5n 2) (p0_5w 2) (p0_5l 2)), (oX9 (p0_5a 2 3) (p0_5_2a 2) (p0_5_2k 2) (p0_5_2n 2) (p0_5_2w 2)), (oX1 (p0_5a 3 0) (p0_5a 3) (p0_5k 3) (p0_5n 3) (p0_5w 3) (p0_5l 3)), (oX9 (p0_5a 3 3) (p0_5_2a 3) (p0_5_2k 3) (p0_5_2n 3) (p0_5_2w 3)), (oX1 (p0_5a 4 0) (p0_5a 4) (p0_5k 4) (p0_5n 4) (p0_5w 4) (p0_5l 4)), (oX9 (p0_5a 4 3) (p0_5_2a 4) (p0_5_2k 4) (p0_5_2n 4) (p0_5_2w 4)), (oX1 (p0_5a 5 0) (p0_5a 5) (p0_5k 5) (p0_5n 5) (p0_5w 5) (p0_5l 5)), (oX9 (p0_5a 5 3) (p0_5_2a 5) (p0_5_2k 5) (p0_5_2n 5) (p0_5_2w 5)), [((p0a 6), .inl (p0_5c, 6, .inr (.inr (.inr (.inr (fun i => some (p0_5a i 0)))))))]] : List va_W))) := vD_fa (vD_perm hD (bP (((List.Perm.refl _)).trans ((((((((List.Perm.refl _)).cons _).trans (List.Perm.swap _ _ _))).trans ((((((List.Perm.refl _)).cons _).trans (List.Perm.swap _ _ _))).cons _))).cons _))))
          have hKx : va_K (dC, dI) cls ((List.flatten ([(tX3 p0k), (tX1 (p0_5k 0)), (tX9 (p0_5_2k 0))] : List (List (ClassId × FieldType)))) ++ (List.flatten ([(tX1 p1k), (tX1 (p0_5k 1)), (tX9 (p0_5_2k 1)), (tX1 (p0_5k 2)), (tX9 (p0_5_2k 2)), (tX1 (p0_5k 3)), (tX9 (p0_5_2k 3)), (tX1 (p0_5k 4)), (tX9 (p0_5_2k 4)), (tX1 (p0_5k 5)), (tX9 (p0_5_2k 5)), [(p0_5c, .object RX1)]] : List (List (ClassId × FieldType))))) s := vK_fa (vK_perm hK (bP (((List.Perm.refl _)).trans ((((((((List.Perm.refl _)).cons _).trans (List.Perm.swap _ _ _))).trans ((((((List.Perm.refl _)).cons _).trans (List.Perm.swap _ _ _))).cons _))).cons _))))
          have hPc := vP_l hPx
          have hDc := vD_l hDx
          have hKc := vK_l hKx
          have hFc := vfree hDx hS hA
          refine va_callv (va_runV (As := [.ref (p0_5a 0 0), .int y0_37]) (rest := []) ⟨hx, hb, hml, hown, hts⟩ (kX3_giveBack l dC dI (p0a := p0a) (p0k := p0k) (p0n := p0n) (p0w := (o_5.2)) (p1a := (st0 (p0_5a 0 0) (p0_5a 0))) (p1k := (p0_5k 0)) (p1n := (p0_5n 0)) (p1w := (p0_5w 0)) (p1l := (p0_5l 0)) (p2 := y0_37) (p1_2a := (p0_5_2a 0)) (p1_2k := (p0_5_2k 0)) (p1_2n := (p0_5_2n 0)) (p1_2w := (p0_5_2w 0)) (sz := _) (o := o_11) (hrun := hc_11)) (cwV 2 hts (gi_V qw920 qw921 qw922 qw903 (gi_z qw919)) rfl rfl rfl (by decide +kernel) ⟨Nat.le_of_ble_eq_true rfl, Nat.le_of_ble_eq_true rfl⟩) ⟨PRE.blind, va_recv hKc hPc (ci := 10) (q0 := 0) rfl rfl, PRE.of hE hS hFc hPc hKc hDc⟩ rfl rfl hl.1 rfl (lv_room (Nat.le_of_ble_eq_true rfl)) dX3_endBlock_78 ⟨(Nat.le_of_ble_eq_true rfl), (Nat.le_of_ble_eq_true rfl)⟩) hS (fun q _ h => hFc q h) hFc (fun u t H locs ht hvm hw hB hz1 hk1 hS => ?_)
          obtain ⟨b1, b2, b3⟩ := hB
          rw [ht] at b1
          obtain ⟨hP, hD, hK⟩ := JOINC (wc := (List.flatten ([(oX3 (p0a 0) p0a p0k p0n (o_5.2)), (oX1 (p0_5a 0 0) (p0_5a 0) (p0_5k 0) (p0_5n 0) (p0_5w 0) (p0_5l 0)), (oX9 (p0_5a 0 3) (p0_5_2a 0) (p0_5_2k 0) (p0_5_2n 0) (p0_5_2w 0))] : List va_W))) (wr := (List.flatten ([(oX1 (p1a 0) p1a p1k p1n p1w p1l), (oX1 (p0_5a 1 0) (p0_5a 1) (p0_5k 1) (p0_5n 1) (p0_5w 1) (p0_5l 1)), (oX9 (p0_5a 1 3) (p0_5_2a 1) (p0_5_2k 1) (p0_5_2n 1) (p0_5_2w 1)), (oX1 (p0_5a 2 0) (p0_5a 2) (p0_5k 2) (p0_5n 2) (p0_5w 2) (p0_5l 2)), (oX9 (p0_5a 2 3) (p0_5_2a 2) (p0_5_2k 2) (p0_5_2n 2) (p0_5_2w 2)), (oX1 (p0_5a 3 0) (p0_5a 3) (p0_5k 3) (p0_5n 3) (p0_5w 3) (p0_5l 3)), (oX9 (p0_5a 3 3) (p0_5_2a 3) (p0_5_2k 3) (p0_5_2n 3) (p0_5_2w 3)), (oX1 (p0_5a 4 0) (p0_5a 4) (p0_5k 4) (p0_5n 4) (p0_5w 4) (p0_5l 4)), (oX9 (p0_5a 4 3) (p0_5_2a 4) (p0_5_2k 4) (p0_5_2n 4) (p0_5_2w 4)), (oX1 (p0_5a 5 0) (p0_5a 5) (p0_5k 5) (p0_5n 5) (p0_5w 5) (p0_5l 5)), (oX9 (p0_5a 5 3) (p0_5_2a 5) (p0_5_2k 5) (p0_5_2n 5) (p0_5_2w 5)), [((p0a 6), .inl (p0_5c, 6, .inr (.inr (.inr (.inr (fun i => some (p0_5a i 0)))))))]] : List va_W))) (w1 := (List.flatten ([(oX3 (p0a 0) p0a p0k p0n o_11), (oX1 (p0_5a 0 0) (p0_5a 0) (p0_5k 0) (p0_5n 0) (p0_5w 0) (p0_5l 0)), (oX9 (p0_5a 0 3) (p0_5_2a 0) (p0_5_2k 0) (p0_5_2n 0) (p0_5_2w 0))] : List va_W))) (t1 := (List.flatten ([(tX3 p0k), (tX1 (p0_5k 0)), (tX9 (p0_5_2k 0))] : List (List (ClassId × FieldType))))) hPx hDx hKx hk1 hFc b1 (va_K.moved hvm.symm b2) b3
          have hP : va_P (dC, dI) cls (List.flatten ([(oX3 (p0a 0) p0a p0k p0n o_11), (oX1 (p1a 0) p1a p1k p1n p1w p1l), (oX1 (p0_5a 0 0) (p0_5a 0) (p0_5k 0) (p0_5n 0) (p0_5w 0) (p0_5l 0)), (oX9 (p0_5a 0 3) (p0_5_2a 0) (p0_5_2k 0) (p0_5_2n 0) (p0_5_2w 0)), (oX1 (p0_5a 1 0) (p0_5a 1) (p0_5k 1) (p0_5n 1) (p0_5w 1) (p0_5l 1)), (oX9 (p0_5a 1 3) (p0_5_2a 1) (p0_5_2k 1) (p0_5_2n 1) (p0_5_2w 1)), (oX1 (p0_5a 2 0) (p0_5a 2) (p0_5k 2) (p0_5n 2) (p0_5w 2) (p0_5l 2)), (oX9 (p0_5a 2 3) (p0_5_2a 2) (p0_5_2k 2) (p0_5_2n 2) (p0_5_2w 2)), (oX1 (p0_5a 3 0) (p0_5a 3) (p0_5k 3) (p0_5n 3) (p0_5w 3) (p0_5l 3)), (oX9 (p0_5a 3 3) (p0_5_2a 3) (p0_5_2k 3) (p0_5_2n 3) (p0_5_2w 3)), (oX1 (p0_5a 4 0) (p0_5a 4) (p0_5k 4) (p0_5n 4) (p0_5w 4) (p0_5l 4)), (oX9 (p0_5a 4 3) (p0_5_2a 4) (p0_5_2k 4) (p0_5_2n 4) (p0_5_2w 4)), (oX1 (p0_5a 5 0) (p0_5a 5) (p0_5k 5) (p0_5n 5) (p0_5w 5) (p0_5l 5)), (oX9 (p0_5a 5 3) (p0_5_2a 5) (p0_5_2k 5) (p0_5_2n 5) (p0_5_2w 5)), [((p0a 6), .inl (p0_5c, 6, .inr (.inr (.inr (.inr (fun i => some (p0_5a i 0)))))))]] : List va_W)) H := vP_perm (vP_fb hP) (bP (((List.Perm.refl _)).trans (((((((((List.Perm.refl _)).cons _).trans (List.Perm.swap _ _ _))).cons _).trans (List.Perm.swap _ _ _))).cons _)))
          have hD : va_D A (List.flatten ([(oX3 (p0a 0) p0a p0k p0n o_11), (oX1 (p1a 0) p1a p1k p1n p1w p1l), (oX1 (p0_5a 0 0) (p0_5a 0) (p0_5k 0) (p0_5n 0) (p0_5w 0) (p0_5l 0)), (oX9 (p0_5a 0 3) (p0_5_2a 0) (p0_5_2k 0) (p0_5_2n 0) (p0_5_2w 0)), (oX1 (p0_5a 1 0) (p0_5a 1) (p0_5k 1) (p0_5n 1) (p0_5w 1) (p0_5l 1)), (oX9 (p0_5a 1 3) (p0_5_2a 1) (p0_5_2k 1) (p0_5_2n 1) (p0_5_2w 1)), (oX1 (p0_5a 2 0) (p0_5a 2) (p0_5k 2) (p0_5n 2) (p0_5w 2) (p0_5l 2)), (oX9 (p0_5a 2 3) (p0_5_2a 2) (p0_5_2k 2) (p0_5_2n 2) (p0_5_2w 2)), (oX1 (p0_5a 3 0) (p0_5a 3) (p0_5k 3) (p0_5n 3) (p0_5w 3) (p0_5l 3)), (oX9 (p0_5a 3 3) (p0_5_2a 3) (p0_5_2k 3) (p0_5_2n 3) (p0_5_2w 3)), (oX1 (p0_5a 4 0) (p0_5a 4) (p0_5k 4) (p0_5n 4) (p0_5w 4) (p0_5l 4)), (oX9 (p0_5a 4 3) (p0_5_2a 4) (p0_5_2k 4) (p0_5_2n 4) (p0_5_2w 4)), (oX1 (p0_5a 5 0) (p0_5a 5) (p0_5k 5) (p0_5n 5) (p0_5w 5) (p0_5l 5)), (oX9 (p0_5a 5 3) (p0_5_2a 5) (p0_5_2k 5) (p0_5_2n 5) (p0_5_2w 5)), [((p0a 6), .inl (p0_5c, 6, .inr (.inr (.inr (.inr (fun i => some (p0_5a i 0)))))))]] : List va_W)) := vD_perm (vD_fb hD) (bP (((List.Perm.refl _)).trans (((((((((List.Perm.refl _)).cons _).trans (List.Perm.swap _ _ _))).cons _).trans (List.Perm.swap _ _ _))).cons _)))
          have hK : va_K (dC, dI) cls (List.flatten ([(tX3 p0k), (tX1 p1k), (tX1 (p0_5k 0)), (tX9 (p0_5_2k 0)), (tX1 (p0_5k 1)), (tX9 (p0_5_2k 1)), (tX1 (p0_5k 2)), (tX9 (p0_5_2k 2)), (tX1 (p0_5k 3)), (tX9 (p0_5_2k 3)), (tX1 (p0_5k 4)), (tX9 (p0_5_2k 4)), (tX1 (p0_5k 5)), (tX9 (p0_5_2k 5)), [(p0_5c, .object RX1)]] : List (List (ClassId × FieldType)))) s := vK_perm (vK_fb hK) (bP (((List.Perm.refl _)).trans (((((((((List.Perm.refl _)).cons _).trans (List.Perm.swap _ _ _))).cons _).trans (List.Perm.swap _ _ _))).cons _)))
          exact J81 o_11 _ _ _ hrun hP hD hK hS (lv_sub hl [] rfl)
        · refine W.eq (g2 := F0 m 76 ls [.ref (p0_5a 1 0), .ref (p0a 0)]) rfl ?_
          refine lv_iload hx hb dX3_endBlock_76 (lv_at hl 0 rfl) ?_
          obtain ⟨o_11, hc_11, hrun⟩ := bnd9 hrun
          have hPx : va_P (dC, dI) cls ((List.flatten ([(oX3 (p0a 0) p0a p0k p0n (o_5.2)), (oX1 (p0_5a 1 0) (p0_5a 1) (p0_5k 1) (p0_5n 1) (p0_5w 1) (p0_5l 1)), (oX9 (p0_5a 1 3) (p0_5_2a 1) (p0_5_2k 1) (p0_5_2n 1) (p0_5_2w 1))] : List va_W)) ++ (List.flatten ([(oX1 (p1a 0) p1a p1k p1n p1w p1l), (oX1 (p0_5a 0 0) (p0_5a 0) (p0_5k 0) (p0_5n 0) (p0_5w 0) (p0_5l 0)), (oX9 (p0_5a 0 3) (p0_5_2a 0) (p0_5_2k 0) (p0_5_2n 0) (p0_5_2w 0)), (oX1 (p0_5a 2 0) (p0_5a 2) (p0_5k 2) (p0_5n 2) (p0_5w 2) (p0_5l 2)), (oX9 (p0_5a 2 3) (p0_5_2a 2) (p0_5_2k 2) (p0_5_2n 2) (p0_5_2w 2)), (oX1 (p0_5a 3 0) (p0_5a 3) (p0_5k 3) (p0_5n 3) (p0_5w 3) (p0_5l 3)), (oX9 (p0_5a 3 3) (p0_5_2a 3) (p0_5_2k 3) (p0_5_2n 3) (p0_5_2w 3)), (oX1 (p0_5a 4 0) (p0_5a 4) (p0_5k 4) (p0_5n 4) (p0_5w 4) (p0_5l 4)), (oX9 (p0_5a 4 3) (p0_5_2a 4) (p0_5_2k 4) (p0_5_2n 4) (p0_5_2w 4)), (oX1 (p0_5a 5 0) (p0_5a 5) (p0_5k 5) (p0_5n 5) (p0_5w 5) (p0_5l 5)), (oX9 (p0_5a 5 3) (p0_5_2a 5) (p0_5_2k 5) (p0_5_2n 5) (p0_5_2w 5)), [((p0a 6), .inl (p0_5c, 6, .inr (.inr (.inr (.inr (fun i => some (p0_5a i 0)))))))]] : List va_W))) H := vP_fa (vP_perm hP (bP (((List.Perm.refl _)).trans ((((((((((((((List.Perm.refl _)).cons _).trans (List.Perm.swap _ _ _))).cons _).trans (List.Perm.swap _ _ _))).cons _).trans (List.Perm.swap _ _ _))).trans ((((((((((((List.Perm.refl _)).cons _).trans (List.Perm.swap _ _ _))).cons _).trans (List.Perm.swap _ _ _))).cons _).trans (List.Perm.swap _ _ _))).cons _))).cons _))))
          have hDx : va_D A ((List.flatten ([(oX3 (p0a 0) p0a p0k p0n (o_5.2)), (oX1 (p0_5a 1 0) (p0_5a 1) (p0_5k 1) (p0_5n 1) (p0_5w 1) (p0_5l 1)), (oX9 (p0_5a 1 3) (p0_5_2a 1) (p0_5_2k 1) (p0_5_2n 1) (p0_5_2w 1))] : List va_W)) ++ (List.flatten ([(oX1 (p1a 0) p1a p1k p1n p1w p1l), (oX1 (p0_5a 0 0) (p0_5a 0) (p0_5k 0) (p0_5n 0) (p0_5w 0) (p0_5l 0)), (oX9 (p0_5a 0 3) (p0_5_2a 0) (p0_5_2k 0) (p0_5_2n 0) (p0_5_2w 0)), (oX1 (p0_5a 2 0) (p0_5a 2) (p0_5k 2) (p0_5n 2) (p0_5w 2) (p0_5l 2)), (oX9 (p0_5a 2 3) (p0_5_2a 2) (p0_5_2k 2) (p0_5_2n 2) (p0_5_2w 2)), (oX1 (p0_5a 3 0) (p0_5a 3) (p0_5k 3) (p0_5n 3) (p0_5w 3) (p0_5l 3)), (oX9 (p0_5a 3 3) (p0_5_2a 3) (p0_5_2k 3) (p0_5_2n 3) (p0_5_2w 3)), (oX1 (p0_5a 4 0) (p0_5a 4) (p0_5k 4) (p0_5n 4) (p0_5w 4) (p0_5l 4)), (oX9 (p0_5a 4 3) (p0_5_2a 4) (p0_5_2k 4) (p0_5_2n 4) (p0_5_2w 4)), (oX1 (p0_5a 5 0) (p0_5a 5) (p0_5k 5) (p0_5n 5) (p0_5w 5) (p0_5l 5)), (oX9 (p0_5a 5 3) (p0_5_2a 5) (p0_5_2k 5) (p0_5_2n 5) (p0_5_2w 5)), [((p0a 6), .inl (p0_5c, 6, .inr (.inr (.inr (.inr (fun i => some (p0_5a i 0)))))))]] : List va_W))) := vD_fa (vD_perm hD (bP (((List.Perm.refl _)).trans ((((((((((((((List.Perm.refl _)).cons _).trans (List.Perm.swap _ _ _))).cons _).trans (List.Perm.swap _ _ _))).cons _).trans (List.Perm.swap _ _ _))).trans ((((((((((((List.Perm.refl _)).cons _).trans (List.Perm.swap _ _ _))).cons _).trans (List.Perm.swap _ _ _))).cons _).trans (List.Perm.swap _ _ _))).cons _))).cons _))))
          have hKx : va_K (dC, dI) cls ((List.flatten ([(tX3 p0k), (tX1 (p0_5k 1)), (tX9 (p0_5_2k 1))] : List (List (ClassId × FieldType)))) ++ (List.flatten ([(tX1 p1k), (tX1 (p0_5k 0)), (tX9 (p0_5_2k 0)), (tX1 (p0_5k 2)), (tX9 (p0_5_2k 2)), (tX1 (p0_5k 3)), (tX9 (p0_5_2k 3)), (tX1 (p0_5k 4)), (tX9 (p0_5_2k 4)), (tX1 (p0_5k 5)), (tX9 (p0_5_2k 5)), [(p0_5c, .object RX1)]] : List (List (ClassId × FieldType))))) s := vK_fa (vK_perm hK (bP (((List.Perm.refl _)).trans ((((((((((((((List.Perm.refl _)).cons _).trans (List.Perm.swap _ _ _))).cons _).trans (List.Perm.swap _ _ _))).cons _).trans (List.Perm.swap _ _ _))).trans ((((((((((((List.Perm.refl _)).cons _).trans (List.Perm.swap _ _ _))).cons _).trans (List.Perm.swap _ _ _))).cons _).trans (List.Perm.swap _ _ _))).cons _))).cons _))))
          have hPc := vP_l hPx
          have hDc := vD_l hDx
          have hKc := vK_l hKx
          have hFc := vfree hDx hS hA
          refine va_callv (va_runV (As := [.ref (p0_5a 1 0), .int y0_37]) (rest := []) ⟨hx, hb, hml, hown, hts⟩ (kX3_giveBack l dC dI (p0a := p0a) (p0k := p0k) (p0n := p0n) (p0w := (o_5.2)) (p1a := (st0 (p0_5a 1 0) (p0_5a 1))) (p1k := (p0_5k 1)) (p1n := (p0_5n 1)) (p1w := (p0_5w 1)) (p1l := (p0_5l 1)) (p2 := y0_37) (p1_2a := (p0_5_2a 1)) (p1_2k := (p0_5_2k 1)) (p1_2n := (p0_5_2n 1)) (p1_2w := (p0_5_2w 1)) (sz := _) (o := o_11) (hrun := hc_11)) (cwV 2 hts (gi_V qw920 qw921 qw922 qw903 (gi_z qw919)) rfl rfl rfl (by decide +kernel) ⟨Nat.le_of_ble_eq_true rfl, Nat.le_of_ble_eq_true rfl⟩) ⟨PRE.blind, va_recv hKc hPc (ci := 10) (q0 := 0) rfl rfl, PRE.of hE hS hFc hPc hKc hDc⟩ rfl rfl hl.1 rfl (lv_room (Nat.le_of_ble_eq_true rfl)) dX3_endBlock_78 ⟨(Nat.le_of_ble_eq_true rfl), (Nat.le_of_ble_eq_true rfl)⟩) hS (fun q _ h => hFc q h) hFc (fun u t H locs ht hvm hw hB hz1 hk1 hS => ?_)
          obtain ⟨b1, b2, b3⟩ := hB
          rw [ht] at b1
          obtain ⟨hP, hD, hK⟩ := JOINC (wc := (List.flatten ([(oX3 (p0a 0) p0a p0k p0n (o_5.2)), (oX1 (p0_5a 1 0) (p0_5a 1) (p0_5k 1) (p0_5n 1) (p0_5w 1) (p0_5l 1)), (oX9 (p0_5a 1 3) (p0_5_2a 1) (p0_5_2k 1) (p0_5_2n 1) (p0_5_2w 1))] : List va_W))) (wr := (List.flatten ([(oX1 (p1a 0) p1a p1k p1n p1w p1l), (oX1 (p0_5a 0 0) (p0_5a 0) (p0_5k 0) (p0_5n 0) (p0_5w 0) (p0_5l 0)), (oX9 (p0_5a 0 3) (p0_5_2a 0) (p0_5_2k 0) (p0_5_2n 0) (p0_5_2w 0)), (oX1 (p0_5a 2 0) (p0_5a 2) (p0_5k 2) (p0_5n 2) (p0_5w 2) (p0_5l 2)), (oX9 (p0_5a 2 3) (p0_5_2a 2) (p0_5_2k 2) (p0_5_2n 2) (p0_5_2w 2)), (oX1 (p0_5a 3 0) (p0_5a 3) (p0_5k 3) (p0_5n 3) (p0_5w 3) (p0_5l 3)), (oX9 (p0_5a 3 3) (p0_5_2a 3) (p0_5_2k 3) (p0_5_2n 3) (p0_5_2w 3)), (oX1 (p0_5a 4 0) (p0_5a 4) (p0_5k 4) (p0_5n 4) (p0_5w 4) (p0_5l 4)), (oX9 (p0_5a 4 3) (p0_5_2a 4) (p0_5_2k 4) (p0_5_2n 4) (p0_5_2w 4)), (oX1 (p0_5a 5 0) (p0_5a 5) (p0_5k 5) (p0_5n 5) (p0_5w 5) (p0_5l 5)), (oX9 (p0_5a 5 3) (p0_5_2a 5) (p0_5_2k 5) (p0_5_2n 5) (p0_5_2w 5)), [((p0a 6), .inl (p0_5c, 6, .inr (.inr (.inr (.inr (fun i => some (p0_5a i 0)))))))]] : List va_W))) (w1 := (List.flatten ([(oX3 (p0a 0) p0a p0k p0n o_11), (oX1 (p0_5a 1 0) (p0_5a 1) (p0_5k 1) (p0_5n 1) (p0_5w 1) (p0_5l 1)), (oX9 (p0_5a 1 3) (p0_5_2a 1) (p0_5_2k 1) (p0_5_2n 1) (p0_5_2w 1))] : List va_W))) (t1 := (List.flatten ([(tX3 p0k), (tX1 (p0_5k 1)), (tX9 (p0_5_2k 1))] : List (List (ClassId × FieldType))))) hPx hDx hKx hk1 hFc b1 (va_K.moved hvm.symm b2) b3
          have hP : va_P (dC, dI) cls (List.flatten ([(oX3 (p0a 0) p0a p0k p0n o_11), (oX1 (p1a 0) p1a p1k p1n p1w p1l), (oX1 (p0_5a 0 0) (p0_5a 0) (p0_5k 0) (p0_5n 0) (p0_5w 0) (p0_5l 0)), (oX9 (p0_5a 0 3) (p0_5_2a 0) (p0_5_2k 0) (p0_5_2n 0) (p0_5_2w 0)), (oX1 (p0_5a 1 0) (p0_5a 1) (p0_5k 1) (p0_5n 1) (p0_5w 1) (p0_5l 1)), (oX9 (p0_5a 1 3) (p0_5_2a 1) (p0_5_2k 1) (p0_5_2n 1) (p0_5_2w 1)), (oX1 (p0_5a 2 0) (p0_5a 2) (p0_5k 2) (p0_5n 2) (p0_5w 2) (p0_5l 2)), (oX9 (p0_5a 2 3) (p0_5_2a 2) (p0_5_2k 2) (p0_5_2n 2) (p0_5_2w 2)), (oX1 (p0_5a 3 0) (p0_5a 3) (p0_5k 3) (p0_5n 3) (p0_5w 3) (p0_5l 3)), (oX9 (p0_5a 3 3) (p0_5_2a 3) (p0_5_2k 3) (p0_5_2n 3) (p0_5_2w 3)), (oX1 (p0_5a 4 0) (p0_5a 4) (p0_5k 4) (p0_5n 4) (p0_5w 4) (p0_5l 4)), (oX9 (p0_5a 4 3) (p0_5_2a 4) (p0_5_2k 4) (p0_5_2n 4) (p0_5_2w 4)), (oX1 (p0_5a 5 0) (p0_5a 5) (p0_5k 5) (p0_5n 5) (p0_5w 5) (p0_5l 5)), (oX9 (p0_5a 5 3) (p0_5_2a 5) (p0_5_2k 5) (p0_5_2n 5) (p0_5_2w 5)), [((p0a 6), .inl (p0_5c, 6, .inr (.inr (.inr (.inr (fun i => some (p0_5a i 0)))))))]] : List va_W)) H := vP_perm (vP_fb hP) (bP (((List.Perm.refl _)).trans (((((((((((List.Perm.refl _)).cons _).trans (List.Perm.swap _ _ _))).cons _).trans (List.Perm.swap _ _ _))).trans (((((((((((List.Perm.refl _)).cons _).trans (List.Perm.swap _ _ _))).cons _).trans (List.Perm.swap _ _ _))).trans (((((((((List.Perm.refl _)).cons _).trans (List.Perm.swap _ _ _))).cons _).trans (List.Perm.swap _ _ _))).cons _))).cons _))).cons _)))
          have hD : va_D A (List.flatten ([(oX3 (p0a 0) p0a p0k p0n o_11), (oX1 (p1a 0) p1a p1k p1n p1w p1l), (oX1 (p0_5a 0 0) (p0_5a 0) (p0_5k 0) (p0_5n 0) (p0_5w 0) (p0_5l 0)), (oX9 (p0_5a 0 3) (p0_5_2a 0) (p0_5_2k 0) (p0_5_2n 0) (p0_5_2w 0)), (oX1 (p0_5a 1 0) (p0_5a 1) (p0_5k 1) (p0_5n 1) (p0_5w 1) (p0_5l 1)), (oX9 (p0_5a 1 3) (p0_5_2a 1) (p0_5_2k 1) (p0_5_2n 1) (p0_5_2w 1)), (oX1 (p0_5a 2 0) (p0_5a 2) (p0_5k 2) (p0_5n 2) (p0_5w 2) (p0_5l 2)), (oX9 (p0_5a 2 3) (p0_5_2a 2) (p0_5_2k 2) (p0_5_2n 2) (p0_5_2w 2)), (oX1 (p0_5a 3 0) (p0_5a 3) (p0_5k 3) (p0_5n 3) (p0_5w 3) (p0_5l 3)), (oX9 (p0_5a 3 3) (p0_5_2a 3) (p0_5_2k 3) (p0_5_2n 3) (p0_5_2w 3)), (oX1 (p0_5a 4 0) (p0_5a 4) (p0_5k 4) (p0_5n 4) (p0_5w 4) (p0_5l 4)), (oX9 (p0_5a 4 3) (p0_5_2a 4) (p0_5_2k 4) (p0_5_2n 4) (p0_5_2w 4)), (oX1 (p0_5a 5 0) (p0_5a 5) (p0_5k 5) (p0_5n 5) (p0_5w 5) (p0_5l 5)), (oX9 (p0_5a 5 3) (p0_5_2a 5) (p0_5_2k 5) (p0_5_2n 5) (p0_5_2w 5)), [((p0a 6), .inl (p0_5c, 6, .inr (.inr (.inr (.inr (fun i => some (p0_5a i 0)))))))]] : List va_W)) := vD_perm (vD_fb hD) (bP (((List.Perm.refl _)).trans (((((((((((List.Perm.refl _)).cons _).trans (List.Perm.swap _ _ _))).cons _).trans (List.Perm.swap _ _ _))).trans (((((((((((List.Perm.refl _)).cons _).trans (List.Perm.swap _ _ _))).cons _).trans (List.Perm.swap _ _ _))).trans (((((((((List.Perm.refl _)).cons _).trans (List.Perm.swap _ _ _))).cons _).trans (List.Perm.swap _ _ _))).cons _))).cons _))).cons _)))
          have hK : va_K (dC, dI) cls (List.flatten ([(tX3 p0k), (tX1 p1k), (tX1 (p0_5k 0)), (tX9 (p0_5_2k 0)), (tX1 (p0_5k 1)), (tX9 (p0_5_2k 1)), (tX1 (p0_5k 2)), (tX9 (p0_5_2k 2)), (tX1 (p0_5k 3)), (tX9 (p0_5_2k 3)), (tX1 (p0_5k 4)), (tX9 (p0_5_2k 4)), (tX1 (p0_5k 5)), (tX9 (p0_5_2k 5)), [(p0_5c, .object RX1)]] : List (List (ClassId × FieldType)))) s := vK_perm (vK_fb hK) (bP (((List.Perm.refl _)).trans (((((((((((List.Perm.refl _)).cons _).trans (List.Perm.swap _ _ _))).cons _).trans (List.Perm.swap _ _ _))).trans (((((((((((List.Perm.refl _)).cons _).trans (List.Perm.swap _ _ _))).cons _).trans (List.Perm.swap _ _ _))).trans (((((((((List.Perm.refl _)).cons _).trans (List.Perm.swap _ _ _))).cons _).trans (List.Perm.swap _ _ _))).cons _))).cons _))).cons _)))
          exact J81 o_11 _ _ _ hrun hP hD hK hS (lv_sub hl [] rfl)
        · refine W.eq (g2 := F0 m 76 ls [.ref (p0_5a 2 0), .ref (p0a 0)]) rfl ?_
          refine lv_iload hx hb dX3_endBlock_76 (lv_at hl 0 rfl) ?_
          obtain ⟨o_11, hc_11, hrun⟩ := bnd9 hrun
          have hPx : va_P (dC, dI) cls ((List.flatten ([(oX3 (p0a 0) p0a p0k p0n (o_5.2)), (oX1 (p0_5a 2 0) (p0_5a 2) (p0_5k 2) (p0_5n 2) (p0_5w 2) (p0_5l 2)), (oX9 (p0_5a 2 3) (p0_5_2a 2) (p0_5_2k 2) (p0_5_2n 2) (p0_5_2w 2))] : List va_W)) ++ (List.flatten ([(oX1 (p1a 0) p1a p1k p1n p1w p1l), (oX1 (p0_5a 0 0) (p0_5a 0) (p0_5k 0) (p0_5n 0) (p0_5w 0) (p0_5l 0)), (oX9 (p0_5a 0 3) (p0_5_2a 0) (p0_5_2k 0) (p0_5_2n 0) (p0_5_2w 0)), (oX1 (p0_5a 1 0) (p0_5a 1) (p0_5k 1) (p0_5n 1) (p0_5w 1) (p0_5l 1)), (oX9 (p0_5a 1 3) (p0_5_2a 1) (p0_5_2k 1) (p0_5_2n 1) (p0_5_2w 1)), (oX1 (p0_5a 3 0) (p0_5a 3) (p0_5k 3) (p0_5n 3) (p0_5w 3) (p0_5l 3)), (oX9 (p0_5a 3 3) (p0_5_2a 3) (p0_5_2k 3) (p0_5_2n 3) (p0_5_2w 3)), (oX1 (p0_5a 4 0) (p0_5a 4) (p0_5k 4) (p0_5n 4) (p0_5w 4) (p0_5l 4)), (oX9 (p0_5a 4 3) (p0_5_2a 4) (p0_5_2k 4) (p0_5_2n 4) (p0_5_2w 4)), (oX1 (p0_5a 5 0) (p0_5a 5) (p0_5k 5) (p0_5n 5) (p0_5w 5) (p0_5l 5)), (oX9 (p0_5a 5 3) (p0_5_2a 5) (p0_5_2k 5) (p0_5_2n 5) (p0_5_2w 5)), [((p0a 6), .inl (p0_5c, 6, .inr (.inr (.inr (.inr (fun i => some (p0_5a i 0)))))))]] : List va_W))) H := vP_fa (vP_perm hP (bP (((List.Perm.refl _)).trans ((((((((((((((((((((List.Perm.refl _)).cons _).trans (List.Perm.swap _ _ _))).cons _).trans (List.Perm.swap _ _ _))).cons _).trans (List.Perm.swap _ _ _))).cons _).trans (List.Perm.swap _ _ _))).cons _).trans (List.Perm.swap _ _ _))).trans ((((((((((((((((((List.Perm.refl _)).cons _).trans (List.Perm.swap _ _ _))).cons _).trans (List.Perm.swap _ _ _))).cons _).trans (List.Perm.swap _ _ _))).cons _).trans (List.Perm.swap _ _ _))).cons _).trans (List.Perm.swap _ _ _))).cons _))).cons _))))
          have hDx : va_D A ((List.flatten ([(oX3 (p0a 0) p0a p0k p0n (o_5.2)), (oX1 (p0_5a 2 0) (p0_5a 2) (p0_5k 2) (p0_5n 2) (p0_5w 2) (p0_5l 2)), (oX9 (p0_5a 2 3) (p0_5_2a 2) (p0_5_2k 2) (p0_5_2n 2) (p0_5_2w 2))] : List va_W)) ++ (List.flatten ([(oX1 (p1a 0) p1a p1k p1n p1w p1l), (oX1 (p0_5a 0 0) (p0_5a 0) (p0_5k 0) (p0_5n 0) (p0_5w 0) (p0_5l 0)), (oX9 (p0_5a 0 3) (p0_5_2a 0) (p0_5_2k 0) (p0_5_2n 0) (p0_5_2w 0)), (oX1 (p0_5a 1 0) (p0_5a 1) (p0_5k 1) (p0_5n 1) (p0_5w 1) (p0_5l 1)), (oX9 (p0_5a 1 3) (p0_5_2a 1) (p0_5_2k 1) (p0_5_2n 1) (p0_5_2w 1)), (oX1 (p0_5a 3 0) (p0_5a 3) (p0_5k 3) (p0_5n 3) (p0_5w 3) (p0_5l 3)), (oX9 (p0_5a 3 3) (p0_5_2a 3) (p0_5_2k 3) (p0_5_2n 3) (p0_5_2w 3)), (oX1 (p0_5a 4 0) (p0_5a 4) (p0_5k 4) (p0_5n 4) (p0_5w 4) (p0_5l 4)), (oX9 (p0_5a 4 3) (p0_5_2a 4) (p0_5_2k 4) (p0_5_2n 4) (p0_5_2w 4)), (oX1 (p0_5a 5 0) (p0_5a 5) (p0_5k 5) (p0_5n 5) (p0_5w 5) (p0_5l 5)), (oX9 (p0_5a 5 3) (p0_5_2a 5) (p0_5_2k 5) (p0_5_2n 5) (p0_5_2w 5)), [((p0a 6), .inl (p0_5c, 6, .inr (.inr (.inr (.inr (fun i => some (p0_5a i 0)))))))]] : List va_W))) := vD_fa (vD_perm hD (bP (((List.Perm.refl _)).trans ((((((((((((((((((((List.Perm.refl _)).cons _).trans (List.Perm.swap _ _ _))).cons _).trans (List.Perm.swap _ _ _))).cons _).trans (List.Perm.swap _ _ _))).cons _).trans (List.Perm.swap _ _ _))).cons _).trans (List.Perm.swap _ _ _))).trans ((((((((((((((((((List.Perm.refl _)).cons _).trans (List.Perm.swap _ _ _))).cons _).trans (List.Perm.swap _ _ _))).cons _).trans (List.Perm.swap _ _ _))).cons _).trans (List.Perm.swap _ _ _))).cons _).trans (List.Perm.swap _ _ _))).cons _))).cons _))))
          have hKx : va_K (dC, dI) cls ((List.flatten ([(tX3 p0k), (tX1 (p0_5k 2)), (tX9 (p0_5_2k 2))] : List (List (ClassId × FieldType)))) ++ (List.flatten ([(tX1 p1k), (tX1 (p0_5k 0)), (tX9 (p0_5_2k 0)), (tX1 (p0_5k 1)), (tX9 (p0_5_2k 1)), (tX1 (p0_5k 3)), (tX9 (p0_5_2k 3)), (tX1 (p0_5k 4)), (tX9 (p0_5_2k 4)), (tX1 (p0_5k 5)), (tX9 (p0_5_2k 5)), [(p0_5c, .object RX1)]] : List (List (ClassId × FieldType))))) s := vK_fa (vK_perm hK (bP (((List.Perm.refl _)).trans ((((((((((((((((((((List.Perm.refl _)).cons _).trans (List.Perm.swap _ _ _))).cons _).trans (List.Perm.swap _ _ _))).cons _).trans (List.Perm.swap _ _ _))).cons _).trans (List.Perm.swap _ _ _))).cons _).trans (List.Perm.swap _ _ _))).trans ((((((((((((((((((List.Perm.refl _)).cons _).trans (List.Perm.swap _ _ _))).cons _).trans (List.Perm.swap _ _ _))).cons _).trans (List.Perm.swap _ _ _))).cons _).trans (List.Perm.swap _ _ _))).cons _).trans (List.Perm.swap _ _ _))).cons _))).cons _))))
          have hPc := vP_l hPx
          have hDc := vD_l hDx
          have hKc := vK_l hKx
          have hFc := vfree hDx hS hA
          refine va_callv (va_runV (As := [.ref (p0_5a 2 0), .int y0_37]) (rest := []) ⟨hx, hb, hml, hown, hts⟩ (kX3_giveBack l dC dI (p0a := p0a) (p0k := p0k) (p0n := p0n) (p0w := (o_5.2)) (p1a := (st0 (p0_5a 2 0) (p0_5a 2))) (p1k := (p0_5k 2)) (p1n := (p0_5n 2)) (p1w := (p0_5w 2)) (p1l := (p0_5l 2)) (p2 := y0_37) (p1_2a := (p0_5_2a 2)) (p1_2k := (p0_5_2k 2)) (p1_2n := (p0_5_2n 2)) (p1_2w := (p0_5_2w 2)) (sz := _) (o := o_11) (hrun := hc_11)) (cwV 2 hts (gi_V qw920 qw921 qw922 qw903 (gi_z qw919)) rfl rfl rfl (by decide +kernel) ⟨Nat.le_of_ble_eq_true rfl, Nat.le_of_ble_eq_true rfl⟩) ⟨PRE.blind, va_recv hKc hPc (ci := 10) (q0 := 0) rfl rfl, PRE.of hE hS hFc hPc hKc hDc⟩ rfl rfl hl.1 rfl (lv_room (Nat.le_of_ble_eq_true rfl)) dX3_endBlock_78 ⟨(Nat.le_of_ble_eq_true rfl), (Nat.le_of_ble_eq_true rfl)⟩) hS (fun q _ h => hFc q h) hFc (fun u t H locs ht hvm hw hB hz1 hk1 hS => ?_)
          obtain ⟨b1, b2, b3⟩ := hB
          rw [ht] at b1
          obtain ⟨hP, hD, hK⟩ := JOINC (wc := (List.flatten ([(oX3 (p0a 0) p0a p0k p0n (o_5.2)), (oX1 (p0_5a 2 0) (p0_5a 2) (p0_5k 2) (p0_5n 2) (p0_5w 2) (p0_5l 2)), (oX9 (p0_5a 2 3) (p0_5_2a 2) (p0_5_2k 2) (p0_5_2n 2) (p0_5_2w 2))] : List va_W))) (wr := (List.flatten ([(oX1 (p1a 0) p1a p1k p1n p1w p1l), (oX1 (p0_5a 0 0) (p0_5a 0) (p0_5k 0) (p0_5n 0) (p0_5w 0) (p0_5l 0)), (oX9 (p0_5a 0 3) (p0_5_2a 0) (p0_5_2k 0) (p0_5_2n 0) (p0_5_2w 0)), (oX1 (p0_5a 1 0) (p0_5a 1) (p0_5k 1) (p0_5n 1) (p0_5w 1) (p0_5l 1)), (oX9 (p0_5a 1 3) (p0_5_2a 1) (p0_5_2k 1) (p0_5_2n 1) (p0_5_2w 1)), (oX1 (p0_5a 3 0) (p0_5a 3) (p0_5k 3) (p0_5n 3) (p0_5w 3) (p0_5l 3)), (oX9 (p0_5a 3 3) (p0_5_2a 3) (p0_5_2k 3) (p0_5_2n 3) (p0_5_2w 3)), (oX1 (p0_5a 4 0) (p0_5a 4) (p0_5k 4) (p0_5n 4) (p0_5w 4) (p0_5l 4)), (oX9 (p0_5a 4 3) (p0_5_2a 4) (p0_5_2k 4) (p0_5_2n 4) (p0_5_2w 4)), (oX1 (p0_5a 5 0) (p0_5a 5) (p0_5k 5) (p0_5n 5) (p0_5w 5) (p0_5l 5)), (oX9 (p0_5a 5 3) (p0_5_2a 5) (p0_5_2k 5) (p0_5_2n 5) (p0_5_2w 5)), [((p0a 6), .inl (p0_5c, 6, .inr (.inr (.inr (.inr (fun i => some (p0_5a i 0)))))))]] : List va_W))) (w1 := (List.flatten ([(oX3 (p0a 0) p0a p0k p0n o_11), (oX1 (p0_5a 2 0) (p0_5a 2) (p0_5k 2) (p0_5n 2) (p0_5w 2) (p0_5l 2)), (oX9 (p0_5a 2 3) (p0_5_2a 2) (p0_5_2k 2) (p0_5_2n 2) (p0_5_2w 2))] : List va_W))) (t1 := (List.flatten ([(tX3 p0k), (tX1 (p0_5k 2)), (tX9 (p0_5_2k 2))] : List (List (ClassId × FieldType))))) hPx hDx hKx hk1 hFc b1 (va_K.moved hvm.symm b2) b3
          have hP : va_P (dC, dI) cls (List.flatten ([(oX3 (p0a 0) p0a p0k p0n o_11), (oX1 (p1a 0) p1a p1k p1n p1w p1l), (oX1 (p0_5a 0 0) (p0_5a 0) (p0_5k 0) (p0_5n 0) (p0_5w 0) (p0_5l 0)), (oX9 (p0_5a 0 3) (p0_5_2a 0) (p0_5_2k 0) (p0_5_2n 0) (p0_5_2w 0)), (oX1 (p0_5a 1 0) (p0_5a 1) (p0_5k 1) (p0_5n 1) (p0_5w 1) (p0_5l 1)), (oX9 (p0_5a 1 3) (p0_5_2a 1) (p0_5_2k 1) (p0_5_2n 1) (p0_5_2w 1)), (oX1 (p0_5a 2 0) (p0_5a 2) (p0_5k 2) (p0_5n 2) (p0_5w 2) (p0_5l 2)), (oX9 (p0_5a 2 3) (p0_5_2a 2) (p0_5_2k 2) (p0_5_2n 2) (p0_5_2w 2)), (oX1 (p0_5a 3 0) (p0_5a 3) (p0_5k 3) (p0_5n 3) (p0_5w 3) (p0_5l 3)), (oX9 (p0_5a 3 3) (p0_5_2a 3) (p0_5_2k 3) (p0_5_2n 3) (p0_5_2w 3)), (oX1 (p0_5a 4 0) (p0_5a 4) (p0_5k 4) (p0_5n 4) (p0_5w 4) (p0_5l 4)), (oX9 (p0_5a 4 3) (p0_5_2a 4) (p0_5_2k 4) (p0_5_2n 4) (p0_5_2w 4)), (oX1 (p0_5a 5 0) (p0_5a 5) (p0_5k 5) (p0_5n 5) (p0_5w 5) (p0_5l 5)), (oX9 (p0_5a 5 3) (p0_5_2a 5) (p0_5_2k 5) (p0_5_2n 5) (p0_5_2w 5)), [((p0a 6), .inl (p0_5c, 6, .inr (.inr (.inr (.inr (fun i => some (p0_5a i 0)))))))]] : List va_W)) H := vP_perm (vP_fb hP) (bP (((List.Perm.refl _)).trans (((((((((((List.Perm.refl _)).cons _).trans (List.Perm.swap _ _ _))).cons _).trans (List.Perm.swap _ _ _))).trans (((((((((((List.Perm.refl _)).cons _).trans (List.Perm.swap _ _ _))).cons _).trans (List.Perm.swap _ _ _))).trans (((((((((((List.Perm.refl _)).cons _).trans (List.Perm.swap _ _ _))).cons _).trans (List.Perm.swap _ _ _))).trans (((((((((((List.Perm.refl _)).cons _).trans (List.Perm.swap _ _ _))).cons _).trans (List.Perm.swap _ _ _))).trans (((((((((List.Perm.refl _)).cons _).trans (List.Perm.swap _ _ _))).cons _).trans (List.Perm.swap _ _ _))).cons _))).cons _))).cons _))).cons _))).cons _)))
          have hD : va_D A (List.flatten ([(oX3 (p0a 0) p0a p0k p0n o_11), (oX1 (p1a 0) p1a p1k p1n p1w p1l), (oX1 (p0_5a 0 0) (p0_5a 0) (p0_5k 0) (p0_5n 0) (p0_5w 0) (p0_5l 0)), (oX9 (p0_5a 0 3) (p0_5_2a 0) (p0_5_2k 0) (p0_5_2n 0) (p0_5_2w 0)), (oX1 (p0_5a 1 0) (p0_5a 1) (p0_5k 1) (p0_5n 1) (p0_5w 1) (p0_5l 1)), (oX9 (p0_5a 1 3) (p0_5_2a 1) (p0_5_2k 1) (p0_5_2n 1) (p0_5_2w 1)), (oX1 (p0_5a 2 0) (p0_5a 2) (p0_5k 2) (p0_5n 2) (p0_5w 2) (p0_5l 2)), (oX9 (p0_5a 2 3) (p0_5_2a 2) (p0_5_2k 2) (p0_5_2n 2) (p0_5_2w 2)), (oX1 (p0_5a 3 0) (p0_5a 3) (p0_5k 3) (p0_5n 3) (p0_5w 3) (p0_5l 3)), (oX9 (p0_5a 3 3) (p0_5_2a 3) (p0_5_2k 3) (p0_5_2n 3) (p0_5_2w 3)), (oX1 (p0_5a 4 0) (p0_5a 4) (p0_5k 4) (p0_5n 4) (p0_5w 4) (p0_5l 4)), (oX9 (p0_5a 4 3) (p0_5_2a 4) (p0_5_2k 4) (p0_5_2n 4) (p0_5_2w 4)), (oX1 (p0_5a 5 0) (p0_5a 5) (p0_5k 5) (p0_5n 5) (p0_5w 5) (p0_5l 5)), (oX9 (p0_5a 5 3) (p0_5_2a 5) (p0_5_2k 5) (p0_5_2n 5) (p0_5_2w 5)), [((p0a 6), .inl (p0_5c, 6, .inr (.inr (.inr (.inr (fun i => some (p0_5a i 0)))))))]] : List va_W)) := vD_perm (vD_fb hD) (bP (((List.Perm.refl _)).trans (((((((((((List.Perm.refl _)).cons _).trans (List.Perm.swap _ _ _))).cons _).trans (List.Perm.swap _ _ _))).trans (((((((((((List.Perm.refl _)).cons _).trans (List.Perm.swap _ _ _))).cons _).trans (List.Perm.swap _ _ _))).trans (((((((((((List.Perm.refl _)).cons _).trans (List.Perm.swap _ _ _))).cons _).trans (List.Perm.swap _ _ _))).trans (((((((((((List.Perm.refl _)).cons _).trans (List.Perm.swap _ _ _))).cons _).trans (List.Perm.swap _ _ _))).trans (((((((((List.Perm.refl _)).cons _).trans (List.Perm.swap _ _ _))).cons _).trans (List.Perm.swap _ _ _))).cons _))).cons _))).cons _))).cons _))).cons _)))
          have hK : va_K (dC, dI) cls (List.flatten ([(tX3 p0k), (tX1 p1k), (tX1 (p0_5k 0)), (tX9 (p0_5_2k 0)), (tX1 (p0_5k 1)), (tX9 (p0_5_2k 1)), (tX1 (p0_5k 2)), (tX9 (p0_5_2k 2)), (tX1 (p0_5k 3)), (tX9 (p0_5_2k 3)), (tX1 (p0_5k 4)), (tX9 (p0_5_2k 4)), (tX1 (p0_5k 5)), (tX9 (p0_5_2k 5)), [(p0_5c, .object RX1)]] : List (List (ClassId × FieldType)))) s := vK_perm (vK_fb hK) (bP (((List.Perm.refl _)).trans (((((((((((List.Perm.refl _)).cons _).trans (List.Perm.swap _ _ _))).cons _).trans (List.Perm.swap _ _ _))).trans (((((((((((List.Perm.refl _)).cons _).trans (List.Perm.swap _ _ _))).cons _).trans (List.Perm.swap _ _ _))).trans (((((((((((List.Perm.refl _)).cons _).trans (List.Perm.swap _ _ _))).cons _).trans (List.Perm.swap _ _ _))).trans (((((((((((List.Perm.refl _)).cons _).trans (List.Perm.swap _ _ _))).cons _).trans (List.Perm.swap _ _ _))).trans (((((((((List.Perm.refl _)).cons _).trans (List.Perm.swap _ _ _))).cons _).trans (List.Perm.swap _ _ _))).cons _))).cons _))).cons _))).cons _))).cons _)))
          exact J81 o_11 _ _ _ hrun hP hD hK hS (lv_sub hl [] rfl)
        · refine W.eq (g2 := F0 m 76 ls [.ref (p0_5a 3 0), .ref (p0a 0)]) rfl ?_
          refine lv_iload hx hb dX3_endBlock_76 (lv_at hl 0 rfl) ?_
          obtain ⟨o_11, hc_11, hrun⟩ := bnd9 hrun
          have hPx : va_P (dC, dI) cls ((List.flatten ([(oX3 (p0a 0) p0a p0k p0n (o_5.2)), (oX1 (p0_5a 3 0) (p0_5a 3) (p0_5k 3) (p0_5n 3) (p0_5w 3) (p0_5l 3)), (oX9 (p0_5a 3 3) (p0_5_2a 3) (p0_5_2k 3) (p0_5_2n 3) (p0_5_2w 3))] : List va_W)) ++ (List.flatten ([(oX1 (p1a 0) p1a p1k p1n p1w p1l), (oX1 (p0_5a 0 0) (p0_5a 0) (p0_5k 0) (p0_5n 0) (p0_5w 0) (p0_5l 0)), (oX9 (p0_5a 0 3) (p0_5_2a 0) (p0_5_2k 0) (p0_5_2n 0) (p0_5_2w 0)), (oX1 (p0_5a 1 0) (p0_5a 1) (p0_5k 1) (p0_5n 1) (p0_5w 1) (p0_5l 1)), (oX9 (p0_5a 1 3) (p0_5_2a 1) (p0_5_2k 1) (p0_5_2n 1) (p0_5_2w 1)), (oX1 (p0_5a 2 0) (p0_5a 2) (p0_5k 2) (p0_5n 2) (p0_5w 2) (p0_5l 2)), (oX9 (p0_5a 2 3) (p0_5_2a 2) (p0_5_2k 2) (p0_5_2n 2) (p0_5_2w 2)), (oX1 (p0_5a 4 0) (p0_5a 4) (p0_5k 4) (p0_5n 4) (p0_5w 4) (p0_5l 4)), (oX9 (p0_5a 4 3) (p0_5_2a 4) (p0_5_2k 4) (p0_5_2n 4) (p0_5_2w 4)), (oX1 (p0_5a 5 0) (p0_5a 5) (p0_5k 5) (p0_5n 5) (p0_5w 5) (p0_5l 5)), (oX9 (p0_5a 5 3) (p0_5_2a 5) (p0_5_2k 5) (p0_5_2n 5) (p0_5_2w 5)), [((p0a 6), .inl (p0_5c, 6, .inr (.inr (.inr (.inr (fun i => some (p0_5a i 0)))))))]] : List va_W))) H := vP_fa (vP_perm hP (bP (((List.Perm.refl _)).trans ((((((((((((((((((((((((((List.Perm.refl _)).cons _).trans (List.Perm.swap _ _ _))).cons _).trans (List.Perm.swap _ _ _))).cons _).trans (List.Perm.swap _ _ _))).cons _).trans (List.Perm.swap _ _ _))).cons _).trans (List.Perm.swap _ _ _))).cons _).trans (List.Perm.swap _ _ _))).cons _).trans (List.Perm.swap _ _ _))).trans ((((((((((((((((((((((((List.Perm.refl _)).cons _).trans (List.Perm.swap _ _ _))).cons _).trans (List.Perm.swap _ _ _))).cons _).trans (List.Perm.swap _ _ _))).cons _).trans (List.Perm.swap _ _ _))).cons _).trans (List.Perm.swap _ _ _))).cons _).trans (List.Perm.swap _ _ _))).cons _).trans (List.Perm.swap _ _ _))).cons _))).cons _))))
          have hDx : va_D A ((List.flatten ([(oX3 (p0a 0) p0a p0k p0n (o_5.2)), (oX1 (p0_5a 3 0) (p0_5a 3) (p0_5k 3) (p0_5n 3) (p0_5w 3) (p0_5l 3)), (oX9 (p0_5a 3 3) (p0_5_2a 3) (p0_5_2k 3) (p0_5_2n 3) (p0_5_2w 3))] : List va_W)) ++ (List.flatten ([(oX1 (p1a 0) p1a p1k p1n p1w p1l), (oX1 (p0_5a 0 0) (p0_5a 0) (p0_5k 0) (p0_5n 0) (p0_5w 0) (p0_5l 0)), (oX9 (p0_5a 0 3) (p0_5_2a 0) (p0_5_2k 0) (p0_5_2n 0) (p0_5_2w 0)), (oX1 (p0_5a 1 0) (p0_5a 1) (p0_5k 1) (p0_5n 1) (p0_5w 1) (p0_5l 1)), (oX9 (p0_5a 1 3) (p0_5_2a 1) (p0_5_2k 1) (p0_5_2n 1) (p0_5_2w 1)), (oX1 (p0_5a 2 0) (p0_5a 2) (p0_5k 2) (p0_5n 2) (p0_5w 2) (p0_5l 2)), (oX9 (p0_5a 2 3) (p0_5_2a 2) (p0_5_2k 2) (p0_5_2n 2) (p0_5_2w 2)), (oX1 (p0_5a 4 0) (p0_5a 4) (p0_5k 4) (p0_5n 4) (p0_5w 4) (p0_5l 4)), (oX9 (p0_5a 4 3) (p0_5_2a 4) (p0_5_2k 4) (p0_5_2n 4) (p0_5_2w 4)), (oX1 (p0_5a 5 0) (p0_5a 5) (p0_5k 5) (p0_5n 5) (p0_5w 5) (p0_5l 5)), (oX9 (p0_5a 5 3) (p0_5_2a 5) (p0_5_2k 5) (p0_5_2n 5) (p0_5_2w 5)), [((p0a 6), .inl (p0_5c, 6, .inr (.inr (.inr (.inr (fun i => some (p0_5a i 0)))))))]] : List va_W))) := vD_fa (vD_perm hD (bP (((List.Perm.refl _)).trans ((((((((((((((((((((((((((List.Perm.refl _)).cons _).trans (List.Perm.swap _ _ _))).cons _).trans (List.Perm.swap _ _ _))).cons _).trans (List.Perm.swap _ _ _))).cons _).trans (List.Perm.swap _ _ _))).cons _).trans (List.Perm.swap _ _ _))).cons _).trans (List.Perm.swap _ _ _))).cons _).trans (List.Perm.swap _ _ _))).trans ((((((((((((((((((((((((List.Perm.refl _)).cons _).trans (List.Perm.swap _ _ _))).cons _).trans (List.Perm.swap _ _ _))).cons _).trans (List.Perm.swap _ _ _))).cons _).trans (List.Perm.swap _ _ _))).cons _).trans (List.Perm.swap _ _ _))).cons _).trans (List.Perm.swap _ _ _))).cons _).trans (List.Perm.swap _ _ _))).cons _))).cons _))))
          have hKx : va_K (dC, dI) cls ((List.flatten ([(tX3 p0k), (tX1 (p0_5k 3)), (tX9 (p0_5_2k 3))] : List (List (ClassId × FieldType)))) ++ (List.flatten ([(tX1 p1k), (tX1 (p0_5k 0)), (tX9 (p0_5_2k 0)), (tX1 (p0_5k 1)), (tX9 (p0_5_2k 1)), (tX1 (p0_5k 2)), (tX9 (p0_5_2k 2)), (tX1 (p0_5k 4)), (tX9 (p0_5_2k 4)), (tX1 (p0_5k 5)), (tX9 (p0_5_2k 5)), [(p0_5c, .object RX1)]] : List (List (ClassId × FieldType))))) s := vK_fa (vK_perm hK (bP (((List.Perm.refl _)).trans ((((((((((((((((((((((((((List.Perm.refl _)).cons _).trans (List.Perm.swap _ _ _))).cons _).trans (List.Perm.swap _ _ _))).cons _).trans (List.Perm.swap _ _ _))).cons _).trans (List.Perm.swap _ _ _))).cons _).trans (List.Perm.swap _ _ _))).cons _).trans (List.Perm.swap _ _ _))).cons _).trans (List.Perm.swap _ _ _))).trans ((((((((((((((((((((((((List.Perm.refl _)).cons _).trans (List.Perm.swap _ _ _))).cons _).trans (List.Perm.swap _ _ _))).cons _).trans (List.Perm.swap _ _ _))).cons _).trans (List.Perm.swap _ _ _))).cons _).trans (List.Perm.swap _ _ _))).cons _).trans (List.Perm.swap _ _ _))).cons _).trans (List.Perm.swap _ _ _))).cons _))).cons _))))
          have hPc := vP_l hPx
          have hDc := vD_l hDx
          have hKc := vK_l hKx
          have hFc := vfree hDx hS hA
          refine va_callv (va_runV (As := [.ref (p0_5a 3 0), .int y0_37]) (rest := []) ⟨hx, hb, hml, hown, hts⟩ (kX3_giveBack l dC dI (p0a := p0a) (p0k := p0k) (p0n := p0n) (p0w := (o_5.2)) (p1a := (st0 (p0_5a 3 0) (p0_5a 3))) (p1k := (p0_5k 3)) (p1n := (p0_5n 3)) (p1w := (p0_5w 3)) (p1l := (p0_5l 3)) (p2 := y0_37) (p1_2a := (p0_5_2a 3)) (p1_2k := (p0_5_2k 3)) (p1_2n := (p0_5_2n 3)) (p1_2w := (p0_5_2w 3)) (sz := _) (o := o_11) (hrun := hc_11)) (cwV 2 hts (gi_V qw920 qw921 qw922 qw903 (gi_z qw919)) rfl rfl rfl (by decide +kernel) ⟨Nat.le_of_ble_eq_true rfl, Nat.le_of_ble_eq_true rfl⟩) ⟨PRE.blind, va_recv hKc hPc (ci := 10) (q0 := 0) rfl rfl, PRE.of hE hS hFc hPc hKc hDc⟩ rfl rfl hl.1 rfl (lv_room (Nat.le_of_ble_eq_true rfl)) dX3_endBlock_78 ⟨(Nat.le_of_ble_eq_true rfl), (Nat.le_of_ble_eq_true rfl)⟩) hS (fun q _ h => hFc q h) hFc (fun u t H locs ht hvm hw hB hz1 hk1 hS => ?_)
          obtain ⟨b1, b2, b3⟩ := hB
          rw [ht] at b1
          obtain ⟨hP, hD, hK⟩ := JOINC (wc := (List.flatten ([(oX3 (p0a 0) p0a p0k p0n (o_5.2)), (oX1 (p0_5a 3 0) (p0_5a 3) (p0_5k 3) (p0_5n 3) (p0_5w 3) (p0_5l 3)), (oX9 (p0_5a 3 3) (p0_5_2a 3) (p0_5_2k 3) (p0_5_2n 3) (p0_5_2w 3))] : List va_W))) (wr := (List.flatten ([(oX1 (p1a 0) p1a p1k p1n p1w p1l), (oX1 (p0_5a 0 0) (p0_5a 0) (p0_5k 0) (p0_5n 0) (p0_5w 0) (p0_5l 0)), (oX9 (p0_5a 0 3) (p0_5_2a 0) (p0_5_2k 0) (p0_5_2n 0) (p0_5_2w 0)), (oX1 (p0_5a 1 0) (p0_5a 1) (p0_5k 1) (p0_5n 1) (p0_5w 1) (p0_5l 1)), (oX9 (p0_5a 1 3) (p0_5_2a 1) (p0_5_2k 1) (p0_5_2n 1) (p0_5_2w 1)), (oX1 (p0_5a 2 0) (p0_5a 2) (p0_5k 2) (p0_5n 2) (p0_5w 2) (p0_5l 2)), (oX9 (p0_5a 2 3) (p0_5_2a 2) (p0_5_2k 2) (p0_5_2n 2) (p0_5_2w 2)), (oX1 (p0_5a 4 0) (p0_5a 4) (p0_5k 4) (p0_5n 4) (p0_5w 4) (p0_5l 4)), (oX9 (p0_5a 4 3) (p0_5_2a 4) (p0_5_2k 4) (p0_5_2n 4) (p0_5_2w 4)), (oX1 (p0_5a 5 0) (p0_5a 5) (p0_5k 5) (p0_5n 5) (p0_5w 5) (p0_5l 5)), (oX9 (p0_5a 5 3) (p0_5_2a 5) (p0_5_2k 5) (p0_5_2n 5) (p0_5_2w 5)), [((p0a 6), .inl (p0_5c, 6, .inr (.inr (.inr (.inr (fun i => some (p0_5a i 0)))))))]] : List va_W))) (w1 := (List.flatten ([(oX3 (p0a 0) p0a p0k p0n o_11), (oX1 (p0_5a 3 0) (p0_5a 3) (p0_5k 3) (p0_5n 3) (p0_5w 3) (p0_5l 3)), (oX9 (p0_5a 3 3) (p0_5_2a 3) (p0_5_2k 3) (p0_5_2n 3) (p0_5_2w 3))] : List va_W))) (t1 := (List.flatten ([(tX3 p0k), (tX1 (p0_5k 3)), (tX9 (p0_5_2k 3))] : List (List (ClassId × FieldType))))) hPx hDx hKx hk1 hFc b1 (va_K.moved hvm.symm b2) b3
          have hP : va_P (dC, dI) cls (List.flatten ([(oX3 (p0a 0) p0a p0k p0n o_11), (oX1 (p1a 0) p1a p1k p1n p1w p1l), (oX1 (p0_5a 0 0) (p0_5a 0) (p0_5k 0) (p0_5n 0) (p0_5w 0) (p0_5l 0)), (oX9 (p0_5a 0 3) (p0_5_2a 0) (p0_5_2k 0) (p0_5_2n 0) (p0_5_2w 0)), (oX1 (p0_5a 1 0) (p0_5a 1) (p0_5k 1) (p0_5n 1) (p0_5w 1) (p0_5l 1)), (oX9 (p0_5a 1 3) (p0_5_2a 1) (p0_5_2k 1) (p0_5_2n 1) (p0_5_2w 1)), (oX1 (p0_5a 2 0) (p0_5a 2) (p0_5k 2) (p0_5n 2) (p0_5w 2) (p0_5l 2)), (oX9 (p0_5a 2 3) (p0_5_2a 2) (p0_5_2k 2) (p0_5_2n 2) (p0_5_2w 2)), (oX1 (p0_5a 3 0) (p0_5a 3) (p0_5k 3) (p0_5n 3) (p0_5w 3) (p0_5l 3)), (oX9 (p0_5a 3 3) (p0_5_2a 3) (p0_5_2k 3) (p0_5_2n 3) (p0_5_2w 3)), (oX1 (p0_5a 4 0) (p0_5a 4) (p0_5k 4) (p0_5n 4) (p0_5w 4) (p0_5l 4)), (oX9 (p0_5a 4 3) (p0_5_2a 4) (p0_5_2k 4) (p0_5_2n 4) (p0_5_2w 4)), (oX1 (p0_5a 5 0) (p0_5a 5) (p0_5k 5) (p0_5n 5) (p0_5w 5) (p0_5l 5)), (oX9 (p0_5a 5 3) (p0_5_2a 5) (p0_5_2k 5) (p0_5_2n 5) (p0_5_2w 5)), [((p0a 6), .inl (p0_5c, 6, .inr (.inr (.inr (.inr (fun i => some (p0_5a i 0)))))))]] : List va_W)) H := vP_perm (vP_fb hP) (bP (((List.Perm.refl _)).trans (((((((((((List.Perm.refl _)).cons _).trans (List.Perm.swap _ _ _))).cons _).trans (List.Perm.swap _ _ _))).trans (((((((((((List.Perm.refl _)).cons _).trans (List.Perm.swap _ _ _))).cons _).trans (List.Perm.swap _ _ _))).trans (((((((((((List.Perm.refl _)).cons _).trans (List.Perm.swap _ _ _))).cons _).trans (List.Perm.swap _ _ _))).trans (((((((((((List.Perm.refl _)).cons _).trans (List.Perm.swap _ _ _))).cons _).trans (List.Perm.swap _ _ _))).trans (((((((((((List.Perm.refl _)).cons _).trans (List.Perm.swap _ _ _))).cons _).trans (List.Perm.swap _ _ _))).trans (((((((((((List.Perm.refl _)).cons _).trans (List.Perm.swap _ _ _))).cons _).trans (List.Perm.swap _ _ _))).trans (((((((((List.Perm.refl _)).cons _).trans (List.Perm.swap _ _ _))).cons _).trans (List.Perm.swap _ _ _))).cons _))).cons _))).cons _))).cons _))).cons _))).cons _))).cons _)))
          have hD : va_D A (List.flatten ([(oX3 (p0a 0) p0a p0k p0n o_11), (oX1 (p1a 0) p1a p1k p1n p1w p1l), (oX1 (p0_5a 0 0) (p0_5a 0) (p0_5k 0) (p0_5n 0) (p0_5w 0) (p0_5l 0)), (oX9 (p0_5a 0 3) (p0_5_2a 0) (p0_5_2k 0) (p0_5_2n 0) (p0_5_2w 0)), (oX1 (p0_5a 1 0) (p0_5a 1) (p0_5k 1) (p0_5n 1) (p0_5w 1) (p0_5l 1)), (oX9 (p0_5a 1 3) (p0_5_2a 1) (p0_5_2k 1) (p0_5_2n 1) (p0_5_2w 1)), (oX1 (p0_5a 2 0) (p0_5a 2) (p0_5k 2) (p0_5n 2) (p0_5w 2) (p0_5l 2)), (oX9 (p0_5a 2 3) (p0_5_2a 2) (p0_5_2k 2) (p0_5_2n 2) (p0_5_2w 2)), (oX1 (p0_5a 3 0) (p0_5a 3) (p0_5k 3) (p0_5n 3) (p0_5w 3) (p0_5l 3)), (oX9 (p0_5a 3 3) (p0_5_2a 3) (p0_5_2k 3) (p0_5_2n 3) (p0_5_2w 3)), (oX1 (p0_5a 4 0) (p0_5a 4) (p0_5k 4) (p0_5n 4) (p0_5w 4) (p0_5l 4)), (oX9 (p0_5a 4 3) (p0_5_2a 4) (p0_5_2k 4) (p0_5_2n 4) (p0_5_2w 4)), (oX1 (p0_5a 5 0) (p0_5a 5) (p0_5k 5) (p0_5n 5) (p0_5w 5) (p0_5l 5)), (oX9 (p0_5a 5 3) (p0_5_2a 5) (p0_5_2k 5) (p0_5_2n 5) (p0_5_2w 5)), [((p0a 6), .inl (p0_5c, 6, .inr (.inr (.inr (.inr (fun i => some (p0_5a i 0)))))))]] : List va_W)) := vD_perm (vD_fb hD) (bP (((List.Perm.refl _)).trans (((((((((((List.Perm.refl _)).cons _).trans (List.Perm.swap _ _ _))).cons _).trans (List.Perm.swap _ _ _))).trans (((((((((((List.Perm.refl _)).cons _).trans (List.Perm.swap _ _ _))).cons _).trans (List.Perm.swap _ _ _))).trans (((((((((((List.Perm.refl _)).cons _).trans (List.Perm.swap _ _ _))).cons _).trans (List.Perm.swap _ _ _))).trans (((((((((((List.Perm.refl _)).cons _).trans (List.Perm.swap _ _ _))).cons _).trans (List.Perm.swap _ _ _))).trans (((((((((((List.Perm.refl _)).cons _).trans (List.Perm.swap _ _ _))).cons _).trans (List.Perm.swap _ _ _))).trans (((((((((((List.Perm.refl _)).cons _).trans (List.Perm.swap _ _ _))).cons _).trans (List.Perm.swap _ _ _))).trans (((((((((List.Perm.refl _)).cons _).trans (List.Perm.swap _ _ _))).cons _).trans (List.Perm.swap _ _ _))).cons _))).cons _))).cons _))).cons _))).cons _))).cons _))).cons _)))
          have hK : va_K (dC, dI) cls (List.flatten ([(tX3 p0k), (tX1 p1k), (tX1 (p0_5k 0)), (tX9 (p0_5_2k 0)), (tX1 (p0_5k 1)), (tX9 (p0_5_2k 1)), (tX1 (p0_5k 2)), (tX9 (p0_5_2k 2)), (tX1 (p0_5k 3)), (tX9 (p0_5_2k 3)), (tX1 (p0_5k 4)), (tX9 (p0_5_2k 4)), (tX1 (p0_5k 5)), (tX9 (p0_5_2k 5)), [(p0_5c, .object RX1)]] : List (List (ClassId × FieldType)))) s := vK_perm (vK_fb hK) (bP (((List.Perm.refl _)).trans (((((((((((List.Perm.refl _)).cons _).trans (List.Perm.swap _ _ _))).cons _).trans (List.Perm.swap _ _ _))).trans (((((((((((List.Perm.refl _)).cons _).trans (List.Perm.swap _ _ _))).cons _).trans (List.Perm.swap _ _ _))).trans (((((((((((List.Perm.refl _)).cons _).trans (List.Perm.swap _ _ _))).cons _).trans (List.Perm.swap _ _ _))).trans (((((((((((List.Perm.refl _)).cons _).trans (List.Perm.swap _ _ _))).cons _).trans (List.Perm.swap _ _ _))).trans (((((((((((List.Perm.refl _)).cons _).trans (List.Perm.swap _ _ _))).cons _).trans (List.Perm.swap _ _ _))).trans (((((((((((List.Perm.refl _)).cons _).trans (List.Perm.swap _ _ _))).cons _).trans (List.Perm.swap _ _ _))).trans (((((((((List.Perm.refl _)).cons _).trans (List.Perm.swap _ _ _))).cons _).trans (List.Perm.swap _ _ _))).cons _))).cons _))).cons _))).cons _))).cons _))).cons _))).cons _)))
          exact J81 o_11 _ _ _ hrun hP hD hK hS (lv_sub hl [] rfl)
        · refine W.eq (g2 := F0 m 76 ls [.ref (p0_5a 4 0), .ref (p0a 0)]) rfl ?_
          refine lv_iload hx hb dX3_endBlock_76 (lv_at hl 0 rfl) ?_
          obtain ⟨o_11, hc_11, hrun⟩ := bnd9 hrun
          have hPx : va_P (dC, dI) cls ((List.flatten ([(oX3 (p0a 0) p0a p0k p0n (o_5.2)), (oX1 (p0_5a 4 0) (p0_5a 4) (p0_5k 4) (p0_5n 4) (p0_5w 4) (p0_5l 4)), (oX9 (p0_5a 4 3) (p0_5_2a 4) (p0_5_2k 4) (p0_5_2n 4) (p0_5_2w 4))] : List va_W)) ++ (List.flatten ([(oX1 (p1a 0) p1a p1k p1n p1w p1l), (oX1 (p0_5a 0 0) (p0_5a 0) (p0_5k 0) (p0_5n 0) (p0_5w 0) (p0_5l 0)), (oX9 (p0_5a 0 3) (p0_5_2a 0) (p0_5_2k 0) (p0_5_2n 0) (p0_5_2w 0)), (oX1 (p0_5a 1 0) (p0_5a 1) (p0_5k 1) (p0_5n 1) (p0_5w 1) (p0_5l 1)), (oX9 (p0_5a 1 3) (p0_5_2a 1) (p0_5_2k 1) (p0_5_2n 1) (p0_5_2w 1)), (oX1 (p0_5a 2 0) (p0_5a 2) (p0_5k 2) (p0_5n 2) (p0_5w 2) (p0_5l 2)), (oX9 (p0_5a 2 3) (p0_5_2a 2) (p0_5_2k 2) (p0_5_2n 2) (p0_5_2w 2)), (oX1 (p0_5a 3 0) (p0_5a 3) (p0_5k 3) (p0_5n 3) (p0_5w 3) (p0_5l 3)), (oX9 (p0_5a 3 3) (p0_5_2a 3) (p0_5_2k 3) (p0_5_2n 3) (p0_5_2w 3)), (oX1 (p0_5a 5 0) (p0_5a 5) (p0_5k 5) (p0_5n 5) (p0_5w 5) (p0_5l 5)), (oX9 (p0_5a 5 3) (p0_5_2a 5) (p0_5_2k 5) (p0_5_2n 5) (p0_5_2w 5)), [((p0a 6), .inl (p0_5c, 6, .inr (.inr (.inr (.inr (fun i => some (p0_5a i 0)))))))]] : List va_W))) H := vP_fa (vP_perm hP (bP (((List.Perm.refl _)).trans ((((((((((((((((((((((((((((((((List.Perm.refl _)).cons _).trans (List.Perm.swap _ _ _))).cons _).trans (List.Perm.swap _ _ _))).cons _).trans (List.Perm.swap _ _ _))).cons _).trans (List.Perm.swap _ _ _))).cons _).trans (List.Perm.swap _ _ _))).cons _).trans (List.Perm.swap _ _ _))).cons _).trans (List.Perm.swap _ _ _))).cons _).trans (List.Perm.swap _ _ _))).cons _).trans (List.Perm.swap _ _ _))).trans ((((((((((((((((((((((((((((((List.Perm.refl _)).cons _).trans (List.Perm.swap _ _ _))).cons _).trans (List.Perm.swap _ _ _))).cons _).trans (List.Perm.swap _ _ _))).cons _).trans (List.Perm.swap _ _ _))).cons _).trans (List.Perm.swap _ _ _))).cons _).trans (List.Perm.swap _ _ _))).cons _).trans (List.Perm.swap _ _ _))).cons _).trans (List.Perm.swap _ _ _))).cons _).trans (List.Perm.swap _ _ _))).cons _))).cons _))))
          have hDx : va_D A ((List.flatten ([(oX3 (p0a 0) p0a p0k p0n (o_5.2)), (oX1 (p0_5a 4 0) (p0_5a 4) (p0_5k 4) (p0_5n 4) (p0_5w 4) (p0_5l 4)), (oX9 (p0_5a 4 3) (p0_5_2a 4) (p0_5_2k 4) (p0_5_2n 4) (p0_5_2w 4))] : List va_W)) ++ (List.flatten ([(oX1 (p1a 0) p1a p1k p1n p1w p1l), (oX1 (p0_5a 0 0) (p0_5a 0) (p0_5k 0) (p0_5n 0) (p0_5w 0) (p0_5l 0)), (oX9 (p0_5a 0 3) (p0_5_2a 0) (p0_5_2k 0) (p0_5_2n 0) (p0_5_2w 0)), (oX1 (p0_5a 1 0) (p0_5a 1) (p0_5k 1) (p0_5n 1) (p0_5w 1) (p0_5l 1)), (oX9 (p0_5a 1 3) (p0_5_2a 1) (p0_5_2k 1) (p0_5_2n 1) (p0_5_2w 1)), (oX1 (p0_5a 2 0) (p0_5a 2) (p0_5k 2) (p0_5n 2) (p0_5w 2) (p0_5l 2)), (oX9 (p0_5a 2 3) (p0_5_2a 2) (p0_5_2k 2) (p0_5_2n 2) (p0_5_2w 2)), (oX1 (p0_5a 3 0) (p0_5a 3) (p0_5k 3) (p0_5n 3) (p0_5w 3) (p0_5l 3)), (oX9 (p0_5a 3 3) (p0_5_2a 3) (p0_5_2k 3) (p0_5_2n 3) (p0_5_2w 3)), (oX1 (p0_5a 5 0) (p0_5a 5) (p0_5k 5) (p0_5n 5) (p0_5w 5) (p0_5l 5)), (oX9 (p0_5a 5 3) (p0_5_2a 5) (p0_5_2k 5) (p0_5_2n 5) (p0_5_2w 5)), [((p0a 6), .inl (p0_5c, 6, .inr (.inr (.inr (.inr (fun i => some (p0_5a i 0)))))))]] : List va_W))) := vD_fa (vD_perm hD (bP (((List.Perm.refl _)).trans ((((((((((((((((((((((((((((((((List.Perm.refl _)).cons _).trans (List.Perm.swap _ _ _))).cons _).trans (List.Perm.swap _ _ _))).cons _).trans (List.Perm.swap _ _ _))).cons _).trans (List.Perm.swap _ _ _))).cons _).trans (List.Perm.swap _ _ _))).cons _).trans (List.Perm.swap _ _ _))).cons _).trans (List.Perm.swap _ _ _))).cons _).trans (List.Perm.swap _ _ _))).cons _).trans (List.Perm.swap _ _ _))).trans ((((((((((((((((((((((((((((((List.Perm.refl _)).cons _).trans (List.Perm.swap _ _ _))).cons _).trans (List.Perm.swap _ _ _))).cons _).trans (List.Perm.swap _ _ _))).cons _).trans (List.Perm.swap _ _ _))).cons _).trans (List.Perm.swap _ _ _))).cons _).trans (List.Perm.swap _ _ _))).cons _).trans (List.Perm.swap _ _ _))).cons _).trans (List.Perm.swap _ _ _))).cons _).trans (List.Perm.swap _ _ _))).cons _))).cons _))))
          have hKx : va_K (dC, dI) cls ((List.flatten ([(tX3 p0k), (tX1 (p0_5k 4)), (tX9 (p0_5_2k 4))] : List (List (ClassId × FieldType)))) ++ (List.flatten ([(tX1 p1k), (tX1 (p0_5k 0)), (tX9 (p0_5_2k 0)), (tX1 (p0_5k 1)), (tX9 (p0_5_2k 1)), (tX1 (p0_5k 2)), (tX9 (p0_5_2k 2)), (tX1 (p0_5k 3)), (tX9 (p0_5_2k 3)), (tX1 (p0_5k 5)), (tX9 (p0_5_2k 5)), [(p0_5c, .object RX1)]] : List (List (ClassId × FieldType))))) s := vK_fa (vK_perm hK (bP (((List.Perm.refl _)).trans ((((((((((((((((((((((((((((((((List.Perm.refl _)).cons _).trans (List.Perm.swap _ _ _))).cons _).trans (List.Perm.swap _ _ _))).cons _).trans (List.Perm.swap _ _ _))).cons _).trans (List.Perm.swap _ _ _))).cons _).trans (List.Perm.swap _ _ _))).cons _).trans (List.Perm.swap _ _ _))).cons _).trans (List.Perm.swap _ _ _))).cons _).trans (List.Perm.swap _ _ _))).cons _).trans (List.Perm.swap _ _ _))).trans ((((((((((((((((((((((((((((((List.Perm.refl _)).cons _).trans (List.Perm.swap _ _ _))).cons _).trans (List.Perm.swap _ _ _))).cons _).trans (List.Perm.swap _ _ _))).cons _).trans (List.Perm.swap _ _ _))).cons _).trans (List.Perm.swap _ _ _))).cons _).trans (List.Perm.swap _ _ _))).cons _).trans (List.Perm.swap _ _ _))).cons _).trans (List.Perm.swap _ _ _))).cons _).trans (List.Perm.swap _ _ _))).cons _))).cons _))))
          have hPc := vP_l hPx
          have hDc := vD_l hDx
          have hKc := vK_l hKx
          have hFc := vfree hDx hS hA
          refine va_callv (va_runV (As := [.ref (p0_5a 4 0), .int y0_37]) (rest := []) ⟨hx, hb, hml, hown, hts⟩ (kX3_giveBack l dC dI (p0a := p0a) (p0k := p0k) (p0n := p0n) (p0w := (o_5.2)) (p1a := (st0 (p0_5a 4 0) (p0_5a 4))) (p1k := (p0_5k 4)) (p1n := (p0_5n 4)) (p1w := (p0_5w 4)) (p1l := (p0_5l 4)) (p2 := y0_37) (p1_2a := (p0_5_2a 4)) (p1_2k := (p0_5_2k 4)) (p1_2n := (p0_5_2n 4)) (p1_2w := (p0_5_2w 4)) (sz := _) (o := o_11) (hrun := hc_11)) (cwV 2 hts (gi_V qw920 qw921 qw922 qw903 (gi_z qw919)) rfl rfl rfl (by decide +kernel) ⟨Nat.le_of_ble_eq_true rfl, Nat.le_of_ble_eq_true rfl⟩) ⟨PRE.blind, va_recv hKc hPc (ci := 10) (q0 := 0) rfl rfl, PRE.of hE hS hFc hPc hKc hDc⟩ rfl rfl hl.1 rfl (lv_room (Nat.le_of_ble_eq_true rfl)) dX3_endBlock_78 ⟨(Nat.le_of_ble_eq_true rfl), (Nat.le_of_ble_eq_true rfl)⟩) hS (fun q _ h => hFc q h) hFc (fun u t H locs ht hvm hw hB hz1 hk1 hS => ?_)
          obtain ⟨b1, b2, b3⟩ := hB
          rw [ht] at b1
          obtain ⟨hP, hD, hK⟩ := JOINC (wc := (List.flatten ([(oX3 (p0a 0) p0a p0k p0n (o_5.2)), (oX1 (p0_5a 4 0) (p0_5a 4) (p0_5k 4) (p0_5n 4) (p0_5w 4) (p0_5l 4)), (oX9 (p0_5a 4 3) (p0_5_2a 4) (p0_5_2k 4) (p0_5_2n 4) (p0_5_2w 4))] : List va_W))) (wr := (List.flatten ([(oX1 (p1a 0) p1a p1k p1n p1w p1l), (oX1 (p0_5a 0 0) (p0_5a 0) (p0_5k 0) (p0_5n 0) (p0_5w 0) (p0_5l 0)), (oX9 (p0_5a 0 3) (p0_5_2a 0) (p0_5_2k 0) (p0_5_2n 0) (p0_5_2w 0)), (oX1 (p0_5a 1 0) (p0_5a 1) (p0_5k 1) (p0_5n 1) (p0_5w 1) (p0_5l 1)), (oX9 (p0_5a 1 3) (p0_5_2a 1) (p0_5_2k 1) (p0_5_2n 1) (p0_5_2w 1)), (oX1 (p0_5a 2 0) (p0_5a 2) (p0_5k 2) (p0_5n 2) (p0_5w 2) (p0_5l 2)), (oX9 (p0_5a 2 3) (p0_5_2a 2) (p0_5_2k 2) (p0_5_2n 2) (p0_5_2w 2)), (oX1 (p0_5a 3 0) (p0_5a 3) (p0_5k 3) (p0_5n 3) (p0_5w 3) (p0_5l 3)), (oX9 (p0_5a 3 3) (p0_5_2a 3) (p0_5_2k 3) (p0_5_2n 3) (p0_5_2w 3)), (oX1 (p0_5a 5 0) (p0_5a 5) (p0_5k 5) (p0_5n 5) (p0_5w 5) (p0_5l 5)), (oX9 (p0_5a 5 3) (p0_5_2a 5) (p0_5_2k 5) (p0_5_2n 5) (p0_5_2w 5)), [((p0a 6), .inl (p0_5c, 6, .inr (.inr (.inr (.inr (fun i => some (p0_5a i 0)))))))]] : List va_W))) (w1 := (List.flatten ([(oX3 (p0a 0) p0a p0k p0n o_11), (oX1 (p0_5a 4 0) (p0_5a 4) (p0_5k 4) (p0_5n 4) (p0_5w 4) (p0_5l 4)), (oX9 (p0_5a 4 3) (p0_5_2a 4) (p0_5_2k 4) (p0_5_2n 4) (p0_5_2w 4))] : List va_W))) (t1 := (List.flatten ([(tX3 p0k), (tX1 (p0_5k 4)), (tX9 (p0_5_2k 4))] : List (List (ClassId × FieldType))))) hPx hDx hKx hk1 hFc b1 (va_K.moved hvm.symm b2) b3
          have hP : va_P (dC, dI) cls (List.flatten ([(oX3 (p0a 0) p0a p0k p0n o_11), (oX1 (p1a 0) p1a p1k p1n p1w p1l), (oX1 (p0_5a 0 0) (p0_5a 0) (p0_5k 0) (p0_5n 0) (p0_5w 0) (p0_5l 0)), (oX9 (p0_5a 0 3) (p0_5_2a 0) (p0_5_2k 0) (p0_5_2n 0) (p0_5_2w 0)), (oX1 (p0_5a 1 0) (p0_5a 1) (p0_5k 1) (p0_5n 1) (p0_5w 1) (p0_5l 1)), (oX9 (p0_5a 1 3) (p0_5_2a 1) (p0_5_2k 1) (p0_5_2n 1) (p0_5_2w 1)), (oX1 (p0_5a 2 0) (p0_5a 2) (p0_5k 2) (p0_5n 2) (p0_5w 2) (p0_5l 2)), (oX9 (p0_5a 2 3) (p0_5_2a 2) (p0_5_2k 2) (p0_5_2n 2) (p0_5_2w 2)), (oX1 (p0_5a 3 0) (p0_5a 3) (p0_5k 3) (p0_5n 3) (p0_5w 3) (p0_5l 3)), (oX9 (p0_5a 3 3) (p0_5_2a 3) (p0_5_2k 3) (p0_5_2n 3) (p0_5_2w 3)), (oX1 (p0_5a 4 0) (p0_5a 4) (p0_5k 4) (p0_5n 4) (p0_5w 4) (p0_5l 4)), (oX9 (p0_5a 4 3) (p0_5_2a 4) (p0_5_2k 4) (p0_5_2n 4) (p0_5_2w 4)), (oX1 (p0_5a 5 0) (p0_5a 5) (p0_5k 5) (p0_5n 5) (p0_5w 5) (p0_5l 5)), (oX9 (p0_5a 5 3) (p0_5_2a 5) (p0_5_2k 5) (p0_5_2n 5) (p0_5_2w 5)), [((p0a 6), .inl (p0_5c, 6, .inr (.inr (.inr (.inr (fun i => some (p0_5a i 0)))))))]] : List va_W)) H := vP_perm (vP_fb hP) (bP (((List.Perm.refl _)).trans (((((((((((List.Perm.refl _)).cons _).trans (List.Perm.swap _ _ _))).cons _).trans (List.Perm.swap _ _ _))).trans (((((((((((List.Perm.refl _)).cons _).trans (List.Perm.swap _ _ _))).cons _).trans (List.Perm.swap _ _ _))).trans (((((((((((List.Perm.refl _)).cons _).trans (List.Perm.swap _ _ _))).cons _).trans (List.Perm.swap _ _ _))).trans (((((((((((List.Perm.refl _)).cons _).trans (List.Perm.swap _ _ _))).cons _).trans (List.Perm.swap _ _ _))).trans (((((((((((List.Perm.refl _)).cons _).trans (List.Perm.swap _ _ _))).cons _).trans (List.Perm.swap _ _ _))).trans (((((((((((List.Perm.refl _)).cons _).trans (List.Perm.swap _ _ _))).cons _).trans (List.Perm.swap _ _ _))).trans (((((((((((List.Perm.refl _)).cons _).trans (List.Perm.swap _ _ _))).cons _).trans (List.Perm.swap _ _ _))).trans (((((((((((List.Perm.refl _)).cons _).trans (List.Perm.swap _ _ _))).cons _).trans (List.Perm.swap _ _ _))).trans (((((((((List.Perm.refl _)).cons _).trans (List.Perm.swap _ _ _))).cons _).trans (List.Perm.swap _ _ _))).cons _))).cons _))).cons _))).cons _))).cons _))).cons _))).cons _))).cons _))).cons _)))
          have hD : va_D A (List.flatten ([(oX3 (p0a 0) p0a p0k p0n o_11), (oX1 (p1a 0) p1a p1k p1n p1w p1l), (oX1 (p0_5a 0 0) (p0_5a 0) (p0_5k 0) (p0_5n 0) (p0_5w 0) (p0_5l 0)), (oX9 (p0_5a 0 3) (p0_5_2a 0) (p0_5_2k 0) (p0_5_2n 0) (p0_5_2w 0)), (oX1 (p0_5a 1 0) (p0_5a 1) (p0_5k 1) (p0_5n 1) (p0_5w 1) (p0_5l 1)), (oX9 (p0_5a 1 3) (p0_5_2a 1) (p0_5_2k 1) (p0_5_2n 1) (p0_5_2w 1)), (oX1 (p0_5a 2 0) (p0_5a 2) (p0_5k 2) (p0_5n 2) (p0_5w 2) (p0_5l 2)), (oX9 (p0_5a 2 3) (p0_5_2a 2) (p0_5_2k 2) (p0_5_2n 2) (p0_5_2w 2)), (oX1 (p0_5a 3 0) (p0_5a 3) (p0_5k 3) (p0_5n 3) (p0_5w 3) (p0_5l 3)), (oX9 (p0_5a 3 3) (p0_5_2a 3) (p0_5_2k 3) (p0_5_2n 3) (p0_5_2w 3)), (oX1 (p0_5a 4 0) (p0_5a 4) (p0_5k 4) (p0_5n 4) (p0_5w 4) (p0_5l 4)), (oX9 (p0_5a 4 3) (p0_5_2a 4) (p0_5_2k 4) (p0_5_2n 4) (p0_5_2w 4)), (oX1 (p0_5a 5 0) (p0_5a 5) (p0_5k 5) (p0_5n 5) (p0_5w 5) (p0_5l 5)), (oX9 (p0_5a 5 3) (p0_5_2a 5) (p0_5_2k 5) (p0_5_2n 5) (p0_5_2w 5)), [((p0a 6), .inl (p0_5c, 6, .inr (.inr (.inr (.inr (fun i => some (p0_5a i 0)))))))]] : List va_W)) := vD_perm (vD_fb hD) (bP (((List.Perm.refl _)).trans (((((((((((List.Perm.refl _)).cons _).trans (List.Perm.swap _ _ _))).cons _).trans (List.Perm.swap _ _ _))).trans (((((((((((List.Perm.refl _)).cons _).trans (List.Perm.swap _ _ _))).cons _).trans (List.Perm.swap _ _ _))).trans (((((((((((List.Perm.refl _)).cons _).trans (List.Perm.swap _ _ _))).cons _).trans (List.Perm.swap _ _ _))).trans (((((((((((List.Perm.refl _)).cons _).trans (List.Perm.swap _ _ _))).cons _).trans (List.Perm.swap _ _ _))).trans (((((((((((List.Perm.refl _)).cons _).trans (List.Perm.swap _ _ _))).cons _).trans (List.Perm.swap _ _ _))).trans (((((((((((List.Perm.refl _)).cons _).trans (List.Perm.swap _ _ _))).cons _).trans (List.Perm.swap _ _ _))).trans (((((((((((List.Perm.refl _)).cons _).trans (List.Perm.swap _ _ _))).cons _).trans (List.Perm.swap _ _ _))).trans (((((((((((List.Perm.refl _)).cons _).trans (List.Perm.swap _ _ _))).cons _).trans (List.Perm.swap _ _ _))).trans (((((((((List.Perm.refl _)).cons _).trans (List.Perm.swap _ _ _))).cons _).trans (List.Perm.swap _ _ _))).cons _))).cons _))).cons _))).cons _))).cons _))).cons _))).cons _))).cons _))).cons _)))
          have hK : va_K (dC, dI) cls (List.flatten ([(tX3 p0k), (tX1 p1k), (tX1 (p0_5k 0)), (tX9 (p0_5_2k 0)), (tX1 (p0_5k 1)), (tX9 (p0_5_2k 1)), (tX1 (p0_5k 2)), (tX9 (p0_5_2k 2)), (tX1 (p0_5k 3)), (tX9 (p0_5_2k 3)), (tX1 (p0_5k 4)), (tX9 (p0_5_2k 4)), (tX1 (p0_5k 5)), (tX9 (p0_5_2k 5)), [(p0_5c, .object RX1)]] : List (List (ClassId × FieldType)))) s := vK_perm (vK_fb hK) (bP (((List.Perm.refl _)).trans (((((((((((List.Perm.refl _)).cons _).trans (List.Perm.swap _ _ _))).cons _).trans (List.Perm.swap _ _ _))).trans (((((((((((List.Perm.refl _)).cons _).trans (List.Perm.swap _ _ _))).cons _).trans (List.Perm.swap _ _ _))).trans (((((((((((List.Perm.refl _)).cons _).trans (List.Perm.swap _ _ _))).cons _).trans (List.Perm.swap _ _ _))).trans (((((((((((List.Perm.refl _)).cons _).trans (List.Perm.swap _ _ _))).cons _).trans (List.Perm.swap _ _ _))).trans (((((((((((List.Perm.refl _)).cons _).trans (List.Perm.swap _ _ _))).cons _).trans (List.Perm.swap _ _ _))).trans (((((((((((List.Perm.refl _)).cons _).trans (List.Perm.swap _ _ _))).cons _).trans (List.Perm.swap _ _ _))).trans (((((((((((List.Perm.refl _)).cons _).trans (List.Perm.swap _ _ _))).cons _).trans (List.Perm.swap _ _ _))).trans (((((((((((List.Perm.refl _)).cons _).trans (List.Perm.swap _ _ _))).cons _).trans (List.Perm.swap _ _ _))).trans (((((((((List.Perm.refl _)).cons _).trans (List.Perm.swap _ _ _))).cons _).trans (List.Perm.swap _ _ _))).cons _))).cons _))).cons _))).cons _))).cons _))).cons _))).cons _))).cons _))).cons _)))
          exact J81 o_11 _ _ _ hrun hP hD hK hS (lv_sub hl [] rfl)
        · refine W.eq (g2 := F0 m 76 ls [.ref (p0_5a 5 0), .ref (p0a 0)]) rfl ?_
          refine lv_iload hx hb dX3_endBlock_76 (lv_at hl 0 rfl) ?_
          obtain ⟨o_11, hc_11, hrun⟩ := bnd9 hrun
          have hPx : va_P (dC, dI) cls ((List.flatten ([(oX3 (p0a 0) p0a p0k p0n (o_5.2)), (oX1 (p0_5a 5 0) (p0_5a 5) (p0_5k 5) (p0_5n 5) (p0_5w 5) (p0_5l 5)), (oX9 (p0_5a 5 3) (p0_5_2a 5) (p0_5_2k 5) (p0_5_2n 5) (p0_5_2w 5))] : List va_W)) ++ (List.flatten ([(oX1 (p1a 0) p1a p1k p1n p1w p1l), (oX1 (p0_5a 0 0) (p0_5a 0) (p0_5k 0) (p0_5n 0) (p0_5w 0) (p0_5l 0)), (oX9 (p0_5a 0 3) (p0_5_2a 0) (p0_5_2k 0) (p0_5_2n 0) (p0_5_2w 0)), (oX1 (p0_5a 1 0) (p0_5a 1) (p0_5k 1) (p0_5n 1) (p0_5w 1) (p0_5l 1)), (oX9 (p0_5a 1 3) (p0_5_2a 1) (p0_5_2k 1) (p0_5_2n 1) (p0_5_2w 1)), (oX1 (p0_5a 2 0) (p0_5a 2) (p0_5k 2) (p0_5n 2) (p0_5w 2) (p0_5l 2)), (oX9 (p0_5a 2 3) (p0_5_2a 2) (p0_5_2k 2) (p0_5_2n 2) (p0_5_2w 2)), (oX1 (p0_5a 3 0) (p0_5a 3) (p0_5k 3) (p0_5n 3) (p0_5w 3) (p0_5l 3)), (oX9 (p0_5a 3 3) (p0_5_2a 3) (p0_5_2k 3) (p0_5_2n 3) (p0_5_2w 3)), (oX1 (p0_5a 4 0) (p0_5a 4) (p0_5k 4) (p0_5n 4) (p0_5w 4) (p0_5l 4)), (oX9 (p0_5a 4 3) (p0_5_2a 4) (p0_5_2k 4) (p0_5_2n 4) (p0_5_2w 4)), [((p0a 6), .inl (p0_5c, 6, .inr (.inr (.inr (.inr (fun i => some (p0_5a i 0)))))))]] : List va_W))) H := vP_fa (vP_perm hP (bP (((List.Perm.refl _)).trans ((((((((((((((((((((((((((((((((((((((List.Perm.refl _)).cons _).trans (List.Perm.swap _ _ _))).cons _).trans (List.Perm.swap _ _ _))).cons _).trans (List.Perm.swap _ _ _))).cons _).trans (List.Perm.swap _ _ _))).cons _).trans (List.Perm.swap _ _ _))).cons _).trans (List.Perm.swap _ _ _))).cons _).trans (List.Perm.swap _ _ _))).cons _).trans (List.Perm.swap _ _ _))).cons _).trans (List.Perm.swap _ _ _))).cons _).trans (List.Perm.swap _ _ _))).cons _).trans (List.Perm.swap _ _ _))).trans ((((((((((((((((((((((((((((((((((((List.Perm.refl _)).cons _).trans (List.Perm.swap _ _ _))).cons _).trans (List.Perm.swap _ _ _))).cons _).trans (List.Perm.swap _ _ _))).cons _).trans (List.Perm.swap _ _ _))).cons _).trans (List.Perm.swap _ _ _))).cons _).trans (List.Perm.swap _ _ _))).cons _).trans (List.Perm.swap _ _ _))).cons _).trans (List.Perm.swap _ _ _))).cons _).trans (List.Perm.swap _ _ _))).cons _).trans (List.Perm.swap _ _ _))).cons _).trans (List.Perm.swap _ _ _))).cons _))).cons _))))
          have hDx : va_D A ((List.flatten ([(oX3 (p0a 0) p0a p0k p0n (o_5.2)), (oX1 (p0_5a 5 0) (p0_5a 5) (p0_5k 5) (p0_5n 5) (p0_5w 5) (p0_5l 5)), (oX9 (p0_5a 5 3) (p0_5_2a 5) (p0_5_2k 5) (p0_5_2n 5) (p0_5_2w 5))] : List va_W)) ++ (List.flatten ([(oX1 (p1a 0) p1a p1k p1n p1w p1l), (oX1 (p0_5a 0 0) (p0_5a 0) (p0_5k 0) (p0_5n 0) (p0_5w 0) (p0_5l 0)), (oX9 (p0_5a 0 3) (p0_5_2a 0) (p0_5_2k 0) (p0_5_2n 0) (p0_5_2w 0)), (oX1 (p0_5a 1 0) (p0_5a 1) (p0_5k 1) (p0_5n 1) (p0_5w 1) (p0_5l 1)), (oX9 (p0_5a 1 3) (p0_5_2a 1) (p0_5_2k 1) (p0_5_2n 1) (p0_5_2w 1)), (oX1 (p0_5a 2 0) (p0_5a 2) (p0_5k 2) (p0_5n 2) (p0_5w 2) (p0_5l 2)), (oX9 (p0_5a 2 3) (p0_5_2a 2) (p0_5_2k 2) (p0_5_2n 2) (p0_5_2w 2)), (oX1 (p0_5a 3 0) (p0_5a 3) (p0_5k 3) (p0_5n 3) (p0_5w 3) (p0_5l 3)), (oX9 (p0_5a 3 3) (p0_5_2a 3) (p0_5_2k 3) (p0_5_2n 3) (p0_5_2w 3)), (oX1 (p0_5a 4 0) (p0_5a 4) (p0_5k 4) (p0_5n 4) (p0_5w 4) (p0_5l 4)), (oX9 (p0_5a 4 3) (p0_5_2a 4) (p0_5_2k 4) (p0_5_2n 4) (p0_5_2w 4)), [((p0a 6), .inl (p0_5c, 6, .inr (.inr (.inr (.inr (fun i => some (p0_5a i 0)))))))]] : List va_W))) := vD_fa (vD_perm hD (bP (((List.Perm.refl _)).trans ((((((((((((((((((((((((((((((((((((((List.Perm.refl _)).cons _).trans (List.Perm.swap _ _ _))).cons _).trans (List.Perm.swap _ _ _))).cons _).trans (List.Perm.swap _ _ _))).cons _).trans (List.Perm.swap _ _ _))).cons _).trans (List.Perm.swap _ _ _))).cons _).trans (List.Perm.swap _ _ _))).cons _).trans (List.Perm.swap _ _ _))).cons _).trans (List.Perm.swap _ _ _))).cons _).trans (List.Perm.swap _ _ _))).cons _).trans (List.Perm.swap _ _ _))).cons _).trans (List.Perm.swap _ _ _))).trans ((((((((((((((((((((((((((((((((((((List.Perm.refl _)).cons _).trans (List.Perm.swap _ _ _))).cons _).trans (List.Perm.swap _ _ _))).cons _).trans (List.Perm.swap _ _ _))).cons _).trans (List.Perm.swap _ _ _))).cons _).trans (List.Perm.swap _ _ _))).cons _).trans (List.Perm.swap _ _ _))).cons _).trans (List.Perm.swap _ _ _))).cons _).trans (List.Perm.swap _ _ _))).cons _).trans (List.Perm.swap _ _ _))).cons _).trans (List.Perm.swap _ _ _))).cons _).trans (List.Perm.swap _ _ _))).cons _))).cons _))))
          have hKx : va_K (dC, dI) cls ((List.flatten ([(tX3 p0k), (tX1 (p0_5k 5)), (tX9 (p0_5_2k 5))] : List (List (ClassId × FieldType)))) ++ (List.flatten ([(tX1 p1k), (tX1 (p0_5k 0)), (tX9 (p0_5_2k 0)), (tX1 (p0_5k 1)), (tX9 (p0_5_2k 1)), (tX1 (p0_5k 2)), (tX9 (p0_5_2k 2)), (tX1 (p0_5k 3)), (tX9 (p0_5_2k 3)), (tX1 (p0_5k 4)), (tX9 (p0_5_2k 4)), [(p0_5c, .object RX1)]] : List (List (ClassId × FieldType))))) s := vK_fa (vK_perm hK (bP (((List.Perm.refl _)).trans ((((((((((((((((((((((((((((((((((((((List.Perm.refl _)).cons _).trans (List.Perm.swap _ _ _))).cons _).trans (List.Perm.swap _ _ _))).cons _).trans (List.Perm.swap _ _ _))).cons _).trans (List.Perm.swap _ _ _))).cons _).trans (List.Perm.swap _ _ _))).cons _).trans (List.Perm.swap _ _ _))).cons _).trans (List.Perm.swap _ _ _))).cons _).trans (List.Perm.swap _ _ _))).cons _).trans (List.Perm.swap _ _ _))).cons _).trans (List.Perm.swap _ _ _))).cons _).trans (List.Perm.swap _ _ _))).trans ((((((((((((((((((((((((((((((((((((List.Perm.refl _)).cons _).trans (List.Perm.swap _ _ _))).cons _).trans (List.Perm.swap _ _ _))).cons _).trans (List.Perm.swap _ _ _))).cons _).trans (List.Perm.swap _ _ _))).cons _).trans (List.Perm.swap _ _ _))).cons _).trans (List.Perm.swap _ _ _))).cons _).trans (List.Perm.swap _ _ _))).cons _).trans (List.Perm.swap _ _ _))).cons _).trans (List.Perm.swap _ _ _))).cons _).trans (List.Perm.swap _ _ _))).cons _).trans (List.Perm.swap _ _ _))).cons _))).cons _))))
          have hPc := vP_l hPx
          have hDc := vD_l hDx
          have hKc := vK_l hKx
          have hFc := vfree hDx hS hA
          refine va_callv (va_runV (As := [.ref (p0_5a 5 0), .int y0_37]) (rest := []) ⟨hx, hb, hml, hown, hts⟩ (kX3_giveBack l dC dI (p0a := p0a) (p0k := p0k) (p0n := p0n) (p0w := (o_5.2)) (p1a := (st0 (p0_5a 5 0) (p0_5a 5))) (p1k := (p0_5k 5)) (p1n := (p0_5n 5)) (p1w := (p0_5w 5)) (p1l := (p0_5l 5)) (p2 := y0_37) (p1_2a := (p0_5_2a 5)) (p1_2k := (p0_5_2k 5)) (p1_2n := (p0_5_2n 5)) (p1_2w := (p0_5_2w 5)) (sz := _) (o := o_11) (hrun := hc_11)) (cwV 2 hts (gi_V qw920 qw921 qw922 qw903 (gi_z qw919)) rfl rfl rfl (by decide +kernel) ⟨Nat.le_of_ble_eq_true rfl, Nat.le_of_ble_eq_true rfl⟩) ⟨PRE.blind, va_recv hKc hPc (ci := 10) (q0 := 0) rfl rfl, PRE.of hE hS hFc hPc hKc hDc⟩ rfl rfl hl.1 rfl (lv_room (Nat.le_of_ble_eq_true rfl)) dX3_endBlock_78 ⟨(Nat.le_of_ble_eq_true rfl), (Nat.le_of_ble_eq_true rfl)⟩) hS (fun q _ h => hFc q h) hFc (fun u t H locs ht hvm hw hB hz1 hk1 hS => ?_)
          obtain ⟨b1, b2, b3⟩ := hB
          rw [ht] at b1
          obtain ⟨hP, hD, hK⟩ := JOINC (wc := (List.flatten ([(oX3 (p0a 0) p0a p0k p0n (o_5.2)), (oX1 (p0_5a 5 0) (p0_5a 5) (p0_5k 5) (p0_5n 5) (p0_5w 5) (p0_5l 5)), (oX9 (p0_5a 5 3) (p0_5_2a 5) (p0_5_2k 5) (p0_5_2n 5) (p0_5_2w 5))] : List va_W))) (wr := (List.flatten ([(oX1 (p1a 0) p1a p1k p1n p1w p1l), (oX1 (p0_5a 0 0) (p0_5a 0) (p0_5k 0) (p0_5n 0) (p0_5w 0) (p0_5l 0)), (oX9 (p0_5a 0 3) (p0_5_2a 0) (p0_5_2k 0) (p0_5_2n 0) (p0_5_2w 0)), (oX1 (p0_5a 1 0) (p0_5a 1) (p0_5k 1) (p0_5n 1) (p0_5w 1) (p0_5l 1)), (oX9 (p0_5a 1 3) (p0_5_2a 1) (p0_5_2k 1) (p0_5_2n 1) (p0_5_2w 1)), (oX1 (p0_5a 2 0) (p0_5a 2) (p0_5k 2) (p0_5n 2) (p0_5w 2) (p0_5l 2)), (oX9 (p0_5a 2 3) (p0_5_2a 2) (p0_5_2k 2) (p0_5_2n 2) (p0_5_2w 2)), (oX1 (p0_5a 3 0) (p0_5a 3) (p0_5k 3) (p0_5n 3) (p0_5w 3) (p0_5l 3)), (oX9 (p0_5a 3 3) (p0_5_2a 3) (p0_5_2k 3) (p0_5_2n 3) (p0_5_2w 3)), (oX1 (p0_5a 4 0) (p0_5a 4) (p0_5k 4) (p0_5n 4) (p0_5w 4) (p0_5l 4)), (oX9 (p0_5a 4 3) (p0_5_2a 4) (p0_5_2k 4) (p0_5_2n 4) (p0_5_2w 4)), [((p0a 6), .inl (p0_5c, 6, .inr (.inr (.inr (.inr (fun i => some (p0_5a i 0)))))))]] : List va_W))) (w1 := (List.flatten ([(oX3 (p0a 0) p0a p0k p0n o_11), (oX1 (p0_5a 5 0) (p0_5a 5) (p0_5k 5) (p0_5n 5) (p0_5w 5) (p0_5l 5)), (oX9 (p0_5a 5 3) (p0_5_2a 5) (p0_5_2k 5) (p0_5_2n 5) (p0_5_2w 5))] : List va_W))) (t1 := (List.flatten ([(tX3 p0k), (tX1 (p0_5k 5)), (tX9 (p0_5_2k 5))] : List (List (ClassId × FieldType))))) hPx hDx hKx hk1 hFc b1 (va_K.moved hvm.symm b2) b3
          have hP : va_P (dC, dI) cls (List.flatten ([(oX3 (p0a 0) p0a p0k p0n o_11), (oX1 (p1a 0) p1a p1k p1n p1w p1l), (oX1 (p0_5a 0 0) (p0_5a 0) (p0_5k 0) (p0_5n 0) (p0_5w 0) (p0_5l 0)), (oX9 (p0_5a 0 3) (p0_5_2a 0) (p0_5_2k 0) (p0_5_2n 0) (p0_5_2w 0)), (oX1 (p0_5a 1 0) (p0_5a 1) (p0_5k 1) (p0_5n 1) (p0_5w 1) (p0_5l 1)), (oX9 (p0_5a 1 3) (p0_5_2a 1) (p0_5_2k 1) (p0_5_2n 1) (p0_5_2w 1)), (oX1 (p0_5a 2 0) (p0_5a 2) (p0_5k 2) (p0_5n 2) (p0_5w 2) (p0_5l 2)), (oX9 (p0_5a 2 3) (p0_5_2a 2) (p0_5_2k 2) (p0_5_2n 2) (p0_5_2w 2)), (oX1 (p0_5a 3 0) (p0_5a 3) (p0_5k 3) (p0_5n 3) (p0_5w 3) (p0_5l 3)), (oX9 (p0_5a 3 3) (p0_5_2a 3) (p0_5_2k 3) (p0_5_2n 3) (p0_5_2w 3)), (oX1 (p0_5a 4 0) (p0_5a 4) (p0_5k 4) (p0_5n 4) (p0_5w 4) (p0_5l 4)), (oX9 (p0_5a 4 3) (p0_5_2a 4) (p0_5_2k 4) (p0_5_2n 4) (p0_5_2w 4)), (oX1 (p0_5a 5 0) (p0_5a 5) (p0_5k 5) (p0_5n 5) (p0_5w 5) (p0_5l 5)), (oX9 (p0_5a 5 3) (p0_5_2a 5) (p0_5_2k 5) (p0_5_2n 5) (p0_5_2w 5)), [((p0a 6), .inl (p0_5c, 6, .inr (.inr (.inr (.inr (fun i => some (p0_5a i 0)))))))]] : List va_W)) H := vP_perm (vP_fb hP) (bP (((List.Perm.refl _)).trans (((((((((((List.Perm.refl _)).cons _).trans (List.Perm.swap _ _ _))).cons _).trans (List.Perm.swap _ _ _))).trans (((((((((((List.Perm.refl _)).cons _).trans (List.Perm.swap _ _ _))).cons _).trans (List.Perm.swap _ _ _))).trans (((((((((((List.Perm.refl _)).cons _).trans (List.Perm.swap _ _ _))).cons _).trans (List.Perm.swap _ _ _))).trans (((((((((((List.Perm.refl _)).cons _).trans (List.Perm.swap _ _ _))).cons _).trans (List.Perm.swap _ _ _))).trans (((((((((((List.Perm.refl _)).cons _).trans (List.Perm.swap _ _ _))).cons _).trans (List.Perm.swap _ _ _))).trans (((((((((((List.Perm.refl _)).cons _).trans (List.Perm.swap _ _ _))).cons _).trans (List.Perm.swap _ _ _))).trans (((((((((((List.Perm.refl _)).cons _).trans (List.Perm.swap _ _ _))).cons _).trans (List.Perm.swap _ _ _))).trans (((((((((((List.Perm.refl _)).cons _).trans (List.Perm.swap _ _ _))).cons _).trans (List.Perm.swap _ _ _))).trans (((((((((((List.Perm.refl _)).cons _).trans (List.Perm.swap _ _ _))).cons _).trans (List.Perm.swap _ _ _))).trans (((((((((((List.Perm.refl _)).cons _).trans (List.Perm.swap _ _ _))).cons _).trans (List.Perm.swap _ _ _))).trans (((((((((List.Perm.refl _)).cons _).trans (List.Perm.swap _ _ _))).cons _).trans (List.Perm.swap _ _ _))).cons _))).cons _))).cons _))).cons _))).cons _))).cons _))).cons _))).cons _))).cons _))).cons _))).cons _)))
          have hD : va_D A (List.flatten ([(oX3 (p0a 0) p0a p0k p0n o_11), (oX1 (p1a 0) p1a p1k p1n p1w p1l), (oX1 (p0_5a 0 0) (p0_5a 0) (p0_5k 0) (p0_5n 0) (p0_5w 0) (p0_5l 0)), (oX9 (p0_5a 0 3) (p0_5_2a 0) (p0_5_2k 0) (p0_5_2n 0) (p0_5_2w 0)), (oX1 (p0_5a 1 0) (p0_5a 1) (p0_5k 1) (p0_5n 1) (p0_5w 1) (p0_5l 1)), (oX9 (p0_5a 1 3) (p0_5_2a 1) (p0_5_2k 1) (p0_5_2n 1) (p0_5_2w 1)), (oX1 (p0_5a 2 0) (p0_5a 2) (p0_5k 2) (p0_5n 2) (p0_5w 2) (p0_5l 2)), (oX9 (p0_5a 2 3) (p0_5_2a 2) (p0_5_2k 2) (p0_5_2n 2) (p0_5_2w 2)), (oX1 (p0_5a 3 0) (p0_5a 3) (p0_5k 3) (p0_5n 3) (p0_5w 3) (p0_5l 3)), (oX9 (p0_5a 3 3) (p0_5_2a 3) (p0_5_2k 3) (p0_5_2n 3) (p0_5_2w 3)), (oX1 (p0_5a 4 0) (p0_5a 4) (p0_5k 4) (p0_5n 4) (p0_5w 4) (p0_5l 4)), (oX9 (p0_5a 4 3) (p0_5_2a 4) (p0_5_2k 4) (p0_5_2n 4) (p0_5_2w 4)), (oX1 (p0_5a 5 0) (p0_5a 5) (p0_5k 5) (p0_5n 5) (p0_5w 5) (p0_5l 5)), (oX9 (p0_5a 5 3) (p0_5_2a 5) (p0_5_2k 5) (p0_5_2n 5) (p0_5_2w 5)), [((p0a 6), .inl (p0_5c, 6, .inr (.inr (.inr (.inr (fun i => some (p0_5a i 0)))))))]] : List va_W)) := vD_perm (vD_fb hD) (bP (((List.Perm.refl _)).trans (((((((((((List.Perm.refl _)).cons _).trans (List.Perm.swap _ _ _))).cons _).trans (List.Perm.swap _ _ _))).trans (((((((((((List.Perm.refl _)).cons _).trans (List.Perm.swap _ _ _))).cons _).trans (List.Perm.swap _ _ _))).trans (((((((((((List.Perm.refl _)).cons _).trans (List.Perm.swap _ _ _))).cons _).trans (List.Perm.swap _ _ _))).trans (((((((((((List.Perm.refl _)).cons _).trans (List.Perm.swap _ _ _))).cons _).trans (List.Perm.swap _ _ _))).trans (((((((((((List.Perm.refl _)).cons _).trans (List.Perm.swap _ _ _))).cons _).trans (List.Perm.swap _ _ _))).trans (((((((((((List.Perm.refl _)).cons _).trans (List.Perm.swap _ _ _))).cons _).trans (List.Perm.swap _ _ _))).trans (((((((((((List.Perm.refl _)).cons _).trans (List.Perm.swap _ _ _))).cons _).trans (List.Perm.swap _ _ _))).trans (((((((((((List.Perm.refl _)).cons _).trans (List.Perm.swap _ _ _))).cons _).trans (List.Perm.swap _ _ _))).trans (((((((((((List.Perm.refl _)).cons _).trans (List.Perm.swap _ _ _))).cons _).trans (List.Perm.swap _ _ _))).trans (((((((((((List.Perm.refl _)).cons _).trans (List.Perm.swap _ _ _))).cons _).trans (List.Perm.swap _ _ _))).trans (((((((((List.Perm.refl _)).cons _).trans (List.Perm.swap _ _ _))).cons _).trans (List.Perm.swap _ _ _))).cons _))).cons _))).cons _))).cons _))).cons _))).cons _))).cons _))).cons _))).cons _))).cons _))).cons _)))
          have hK : va_K (dC, dI) cls (List.flatten ([(tX3 p0k), (tX1 p1k), (tX1 (p0_5k 0)), (tX9 (p0_5_2k 0)), (tX1 (p0_5k 1)), (tX9 (p0_5_2k 1)), (tX1 (p0_5k 2)), (tX9 (p0_5_2k 2)), (tX1 (p0_5k 3)), (tX9 (p0_5_2k 3)), (tX1 (p0_5k 4)), (tX9 (p0_5_2k 4)), (tX1 (p0_5k 5)), (tX9 (p0_5_2k 5)), [(p0_5c, .object RX1)]] : List (List (ClassId × FieldType)))) s := vK_perm (vK_fb hK) (bP (((List.Perm.refl _)).trans (((((((((((List.Perm.refl _)).cons _).trans (List.Perm.swap _ _ _))).cons _).trans (List.Perm.swap _ _ _))).trans (((((((((((List.Perm.refl _)).cons _).trans (List.Perm.swap _ _ _))).cons _).trans (List.Perm.swap _ _ _))).trans (((((((((((List.Perm.refl _)).cons _).trans (List.Perm.swap _ _ _))).cons _).trans (List.Perm.swap _ _ _))).trans (((((((((((List.Perm.refl _)).cons _).trans (List.Perm.swap _ _ _))).cons _).trans (List.Perm.swap _ _ _))).trans (((((((((((List.Perm.refl _)).cons _).trans (List.Perm.swap _ _ _))).cons _).trans (List.Perm.swap _ _ _))).trans (((((((((((List.Perm.refl _)).cons _).trans (List.Perm.swap _ _ _))).cons _).trans (List.Perm.swap _ _ _))).trans (((((((((((List.Perm.refl _)).cons _).trans (List.Perm.swap _ _ _))).cons _).trans (List.Perm.swap _ _ _))).trans (((((((((((List.Perm.refl _)).cons _).trans (List.Perm.swap _ _ _))).cons _).trans (List.Perm.swap _ _ _))).trans (((((((((((List.Perm.refl _)).cons _).trans (List.Perm.swap _ _ _))).cons _).trans (List.Perm.swap _ _ _))).trans (((((((((((List.Perm.refl _)).cons _).trans (List.Perm.swap _ _ _))).cons _).trans (List.Perm.swap _ _ _))).trans (((((((((List.Perm.refl _)).cons _).trans (List.Perm.swap _ _ _))).cons _).trans (List.Perm.swap _ _ _))).cons _))).cons _))).cons _))).cons _))).cons _))).cons _))).cons _))).cons _))).cons _))).cons _))).cons _)))
          exact J81 o_11 _ _ _ hrun hP hD hK hS (lv_sub hl [] rfl)
    · refine lv_icmp_ne (tgt := 82) hx hb dX3_endBlock_47 (by decide) (fun _ => ?_) (fun c => absurd c hc4)
      refine lv_aload_n hx hb dX3_endBlock_82 rfl (lv_at hl 2 rfl) ?_
      refine va_get (D := (dC, dI)) (ci := 4) (v := .ref (p1a 8)) (C := RX1) (T := TX1) (N := 21) hx hb hts i_X1 hown hK hP 11 rfl rfl 7 (by decide) (hts _ qw907) (fun _ h9 => h9) rfl dX3_endBlock_83 ?_
      refine lv_iload_n hx hb dX3_endBlock_86 rfl (lv_at hl 4 rfl) ?_
      obtain ⟨hq12, hrun⟩ := chk9 hrun
      refine va_iald hx hb hK hP 16 14 rfl rfl (ixb_in hq12) dX3_endBlock_87 ?_
      refine lv_bipush (v := 23) hx hb dX3_endBlock_88 (by decide) ?_
      have J103 : ∀ (y0_103 : Int32) (H : Heap) (locs : List Loc) (ls : Array Slot), (fX3_endBlock_J103 p0w p1w p2 y0_103) = some o → va_P (dC, dI) cls (List.flatten ([(oX3 (p0a 0) p0a p0k p0n p0w), (oX1 (p1a 0) p1a p1k p1n p1w p1l), (oX1 (p0_5a 0 0) (p0_5a 0) (p0_5k 0) (p0_5n 0) (p0_5w 0) (p0_5l 0)), (oX9 (p0_5a 0 3) (p0_5_2a 0) (p0_5_2k 0) (p0_5_2n 0) (p0_5_2w 0)), (oX1 (p0_5a 1 0) (p0_5a 1) (p0_5k 1) (p0_5n 1) (p0_5w 1) (p0_5l 1)), (oX9 (p0_5a 1 3) (p0_5_2a 1) (p0_5_2k 1) (p0_5_2n 1) (p0_5_2w 1)), (oX1 (p0_5a 2 0) (p0_5a 2) (p0_5k 2) (p0_5n 2) (p0_5w 2) (p0_5l 2)), (oX9 (p0_5a 2 3) (p0_5_2a 2) (p0_5_2k 2) (p0_5_2n 2) (p0_5_2w 2)), (oX1 (p0_5a 3 0) (p0_5a 3) (p0_5k 3) (p0_5n 3) (p0_5w 3) (p0_5l 3)), (oX9 (p0_5a 3 3) (p0_5_2a 3) (p0_5_2k 3) (p0_5_2n 3) (p0_5_2w 3)), (oX1 (p0_5a 4 0) (p0_5a 4) (p0_5k 4) (p0_5n 4) (p0_5w 4) (p0_5l 4)), (oX9 (p0_5a 4 3) (p0_5_2a 4) (p0_5_2k 4) (p0_5_2n 4) (p0_5_2w 4)), (oX1 (p0_5a 5 0) (p0_5a 5) (p0_5k 5) (p0_5n 5) (p0_5w 5) (p0_5l 5)), (oX9 (p0_5a 5 3) (p0_5_2a 5) (p0_5_2k 5) (p0_5_2n 5) (p0_5_2w 5)), [((p0a 6), .inl (p0_5c, 6, .inr (.inr (.inr (.inr (fun i => some (p0_5a i 0)))))))]] : List va_W)) H → va_D A (List.flatten ([(oX3 (p0a 0) p0a p0k p0n p0w), (oX1 (p1a 0) p1a p1k p1n p1w p1l), (oX1 (p0_5a 0 0) (p0_5a 0) (p0_5k 0) (p0_5n 0) (p0_5w 0) (p0_5l 0)), (oX9 (p0_5a 0 3) (p0_5_2a 0) (p0_5_2k 0) (p0_5_2n 0) (p0_5_2w 0)), (oX1 (p0_5a 1 0) (p0_5a 1) (p0_5k 1) (p0_5n 1) (p0_5w 1) (p0_5l 1)), (oX9 (p0_5a 1 3) (p0_5_2a 1) (p0_5_2k 1) (p0_5_2n 1) (p0_5_2w 1)), (oX1 (p0_5a 2 0) (p0_5a 2) (p0_5k 2) (p0_5n 2) (p0_5w 2) (p0_5l 2)), (oX9 (p0_5a 2 3) (p0_5_2a 2) (p0_5_2k 2) (p0_5_2n 2) (p0_5_2w 2)), (oX1 (p0_5a 3 0) (p0_5a 3) (p0_5k 3) (p0_5n 3) (p0_5w 3) (p0_5l 3)), (oX9 (p0_5a 3 3) (p0_5_2a 3) (p0_5_2k 3) (p0_5_2n 3) (p0_5_2w 3)), (oX1 (p0_5a 4 0) (p0_5a 4) (p0_5k 4) (p0_5n 4) (p0_5w 4) (p0_5l 4)), (oX9 (p0_5a 4 3) (p0_5_2a 4) (p0_5_2k 4) (p0_5_2n 4) (p0_5_2w 4)), (oX1 (p0_5a 5 0) (p0_5a 5) (p0_5k 5) (p0_5n 5) (p0_5w 5) (p0_5l 5)), (oX9 (p0_5a 5 3) (p0_5_2a 5) (p0_5_2k 5) (p0_5_2n 5) (p0_5_2w 5)), [((p0a 6), .inl (p0_5c, 6, .inr (.inr (.inr (.inr (fun i => some (p0_5a i 0)))))))]] : List va_W)) → va_K (dC, dI) cls (List.flatten ([(tX3 p0k), (tX1 p1k), (tX1 (p0_5k 0)), (tX9 (p0_5_2k 0)), (tX1 (p0_5k 1)), (tX9 (p0_5_2k 1)), (tX1 (p0_5k 2)), (tX9 (p0_5_2k 2)), (tX1 (p0_5k 3)), (tX9 (p0_5_2k 3)), (tX1 (p0_5k 4)), (tX9 (p0_5_2k 4)), (tX1 (p0_5k 5)), (tX9 (p0_5_2k 5)), [(p0_5c, .object RX1)]] : List (List (ClassId × FieldType)))) s → va_S A s.heap H locs → lv_has ls 6 [(0, .ref (p0a 0)), (1, .ref (p1a 0)), (2, .int p2), (3, .int (p0w 13 (nn p2)))] → W p l e ({ frames := 2, cells := 0, slots := 0, locals := 42 } : Room) s m ([.ref (p0a 0), .ref (p1a 0), .int p2] : List Value).toArray below meth c H locs 0 0 Q (F0 m 103 ls [.int y0_103]) := by
        intro y0_103 H locs ls hrun hP hD hK hS hl 
        unfold fX3_endBlock_J103 at hrun
        refine lv_istore (lv' := [(5, .int y0_103), (0, .ref (p0a 0)), (1, .ref (p1a 0)), (2, .int p2), (3, .int (p0w 13 (nn p2)))]) hx hb dX3_endBlock_103 hl (by decide) rfl (fun ls hl => ?_)
        refine lv_aload_n hx hb dX3_endBlock_105 rfl (lv_at hl 1 rfl) ?_
        refine va_get (D := (dC, dI)) (ci := 10) (v := .ref (p0a 14)) (C := RX3) (T := TX3) (N := 20) hx hb hts i_X3 hown hK hP 0 rfl rfl 13 (by decide) (hts _ qw923) (fun _ h9 => h9) rfl dX3_endBlock_106 ?_
        refine lv_iload_n hx hb dX3_endBlock_109 rfl (lv_at hl 3 rfl) ?_
        refine lv_iload_n hx hb dX3_endBlock_110 rfl (lv_at hl 4 rfl) ?_
        obtain ⟨hq13, hrun⟩ := chk9 hrun
        refine va_iast hx hb hK hP hD hS 6 5 rfl rfl (ixb_in hq13) dX3_endBlock_111 (fun H locs hP hD hS => ?_)
        have hP : va_P (dC, dI) cls (List.flatten ([(oX3 (p0a 0) p0a p0k p0n (upw p0w 14 (nn p2) (p0w 13 (nn p2)))), (oX1 (p1a 0) p1a p1k p1n p1w p1l), (oX1 (p0_5a 0 0) (p0_5a 0) (p0_5k 0) (p0_5n 0) (p0_5w 0) (p0_5l 0)), (oX9 (p0_5a 0 3) (p0_5_2a 0) (p0_5_2k 0) (p0_5_2n 0) (p0_5_2w 0)), (oX1 (p0_5a 1 0) (p0_5a 1) (p0_5k 1) (p0_5n 1) (p0_5w 1) (p0_5l 1)), (oX9 (p0_5a 1 3) (p0_5_2a 1) (p0_5_2k 1) (p0_5_2n 1) (p0_5_2w 1)), (oX1 (p0_5a 2 0) (p0_5a 2) (p0_5k 2) (p0_5n 2) (p0_5w 2) (p0_5l 2)), (oX9 (p0_5a 2 3) (p0_5_2a 2) (p0_5_2k 2) (p0_5_2n 2) (p0_5_2w 2)), (oX1 (p0_5a 3 0) (p0_5a 3) (p0_5k 3) (p0_5n 3) (p0_5w 3) (p0_5l 3)), (oX9 (p0_5a 3 3) (p0_5_2a 3) (p0_5_2k 3) (p0_5_2n 3) (p0_5_2w 3)), (oX1 (p0_5a 4 0) (p0_5a 4) (p0_5k 4) (p0_5n 4) (p0_5w 4) (p0_5l 4)), (oX9 (p0_5a 4 3) (p0_5_2a 4) (p0_5_2k 4) (p0_5_2n 4) (p0_5_2w 4)), (oX1 (p0_5a 5 0) (p0_5a 5) (p0_5k 5) (p0_5n 5) (p0_5w 5) (p0_5l 5)), (oX9 (p0_5a 5 3) (p0_5_2a 5) (p0_5_2k 5) (p0_5_2n 5) (p0_5_2w 5)), [((p0a 6), .inl (p0_5c, 6, .inr (.inr (.inr (.inr (fun i => some (p0_5a i 0)))))))]] : List va_W)) H := hP
        have hD : va_D A (List.flatten ([(oX3 (p0a 0) p0a p0k p0n (upw p0w 14 (nn p2) (p0w 13 (nn p2)))), (oX1 (p1a 0) p1a p1k p1n p1w p1l), (oX1 (p0_5a 0 0) (p0_5a 0) (p0_5k 0) (p0_5n 0) (p0_5w 0) (p0_5l 0)), (oX9 (p0_5a 0 3) (p0_5_2a 0) (p0_5_2k 0) (p0_5_2n 0) (p0_5_2w 0)), (oX1 (p0_5a 1 0) (p0_5a 1) (p0_5k 1) (p0_5n 1) (p0_5w 1) (p0_5l 1)), (oX9 (p0_5a 1 3) (p0_5_2a 1) (p0_5_2k 1) (p0_5_2n 1) (p0_5_2w 1)), (oX1 (p0_5a 2 0) (p0_5a 2) (p0_5k 2) (p0_5n 2) (p0_5w 2) (p0_5l 2)), (oX9 (p0_5a 2 3) (p0_5_2a 2) (p0_5_2k 2) (p0_5_2n 2) (p0_5_2w 2)), (oX1 (p0_5a 3 0) (p0_5a 3) (p0_5k 3) (p0_5n 3) (p0_5w 3) (p0_5l 3)), (oX9 (p0_5a 3 3) (p0_5_2a 3) (p0_5_2k 3) (p0_5_2n 3) (p0_5_2w 3)), (oX1 (p0_5a 4 0) (p0_5a 4) (p0_5k 4) (p0_5n 4) (p0_5w 4) (p0_5l 4)), (oX9 (p0_5a 4 3) (p0_5_2a 4) (p0_5_2k 4) (p0_5_2n 4) (p0_5_2w 4)), (oX1 (p0_5a 5 0) (p0_5a 5) (p0_5k 5) (p0_5n 5) (p0_5w 5) (p0_5l 5)), (oX9 (p0_5a 5 3) (p0_5_2a 5) (p0_5_2k 5) (p0_5_2n 5) (p0_5_2w 5)), [((p0a 6), .inl (p0_5c, 6, .inr (.inr (.inr (.inr (fun i => some (p0_5a i 0)))))))]] : List va_W)) := hD
        obtain ⟨w14, ew14, hrun⟩ := let9 hrun
        rw [← ew14] at hP hD
        refine lv_aload_n hx hb dX3_endBlock_112 rfl (lv_at hl 1 rfl) ?_
        refine va_get (D := (dC, dI)) (ci := 10) (v := .ref (p0a 13)) (C := RX3) (T := TX3) (N := 20) hx hb hts i_X3 hown hK hP 0 rfl rfl 12 (by decide) (hts _ qw904) (fun _ h9 => h9) rfl dX3_endBlock_113 ?_
        refine lv_iload_n hx hb dX3_endBlock_116 rfl (lv_at hl 3 rfl) ?_
        refine lv_iload hx hb dX3_endBlock_117 (lv_at hl 0 rfl) ?_
        have J137 : ∀ (y0_137 : Int32) (H : Heap) (locs : List Loc) (ls : Array Slot), (fX3_endBlock_J137 p2 w14 y0_137) = some o → va_P (dC, dI) cls (List.flatten ([(oX3 (p0a 0) p0a p0k p0n w14), (oX1 (p1a 0) p1a p1k p1n p1w p1l), (oX1 (p0_5a 0 0) (p0_5a 0) (p0_5k 0) (p0_5n 0) (p0_5w 0) (p0_5l 0)), (oX9 (p0_5a 0 3) (p0_5_2a 0) (p0_5_2k 0) (p0_5_2n 0) (p0_5_2w 0)), (oX1 (p0_5a 1 0) (p0_5a 1) (p0_5k 1) (p0_5n 1) (p0_5w 1) (p0_5l 1)), (oX9 (p0_5a 1 3) (p0_5_2a 1) (p0_5_2k 1) (p0_5_2n 1) (p0_5_2w 1)), (oX1 (p0_5a 2 0) (p0_5a 2) (p0_5k 2) (p0_5n 2) (p0_5w 2) (p0_5l 2)), (oX9 (p0_5a 2 3) (p0_5_2a 2) (p0_5_2k 2) (p0_5_2n 2) (p0_5_2w 2)), (oX1 (p0_5a 3 0) (p0_5a 3) (p0_5k 3) (p0_5n 3) (p0_5w 3) (p0_5l 3)), (oX9 (p0_5a 3 3) (p0_5_2a 3) (p0_5_2k 3) (p0_5_2n 3) (p0_5_2w 3)), (oX1 (p0_5a 4 0) (p0_5a 4) (p0_5k 4) (p0_5n 4) (p0_5w 4) (p0_5l 4)), (oX9 (p0_5a 4 3) (p0_5_2a 4) (p0_5_2k 4) (p0_5_2n 4) (p0_5_2w 4)), (oX1 (p0_5a 5 0) (p0_5a 5) (p0_5k 5) (p0_5n 5) (p0_5w 5) (p0_5l 5)), (oX9 (p0_5a 5 3) (p0_5_2a 5) (p0_5_2k 5) (p0_5_2n 5) (p0_5_2w 5)), [((p0a 6), .inl (p0_5c, 6, .inr (.inr (.inr (.inr (fun i => some (p0_5a i 0)))))))]] : List va_W)) H → va_D A (List.flatten ([(oX3 (p0a 0) p0a p0k p0n w14), (oX1 (p1a 0) p1a p1k p1n p1w p1l), (oX1 (p0_5a 0 0) (p0_5a 0) (p0_5k 0) (p0_5n 0) (p0_5w 0) (p0_5l 0)), (oX9 (p0_5a 0 3) (p0_5_2a 0) (p0_5_2k 0) (p0_5_2n 0) (p0_5_2w 0)), (oX1 (p0_5a 1 0) (p0_5a 1) (p0_5k 1) (p0_5n 1) (p0_5w 1) (p0_5l 1)), (oX9 (p0_5a 1 3) (p0_5_2a 1) (p0_5_2k 1) (p0_5_2n 1) (p0_5_2w 1)), (oX1 (p0_5a 2 0) (p0_5a 2) (p0_5k 2) (p0_5n 2) (p0_5w 2) (p0_5l 2)), (oX9 (p0_5a 2 3) (p0_5_2a 2) (p0_5_2k 2) (p0_5_2n 2) (p0_5_2w 2)), (oX1 (p0_5a 3 0) (p0_5a 3) (p0_5k 3) (p0_5n 3) (p0_5w 3) (p0_5l 3)), (oX9 (p0_5a 3 3) (p0_5_2a 3) (p0_5_2k 3) (p0_5_2n 3) (p0_5_2w 3)), (oX1 (p0_5a 4 0) (p0_5a 4) (p0_5k 4) (p0_5n 4) (p0_5w 4) (p0_5l 4)), (oX9 (p0_5a 4 3) (p0_5_2a 4) (p0_5_2k 4) (p0_5_2n 4) (p0_5_2w 4)), (oX1 (p0_5a 5 0) (p0_5a 5) (p0_5k 5) (p0_5n 5) (p0_5w 5) (p0_5l 5)), (oX9 (p0_5a 5 3) (p0_5_2a 5) (p0_5_2k 5) (p0_5_2n 5) (p0_5_2w 5)), [((p0a 6), .inl (p0_5c, 6, .inr (.inr (.inr (.inr (fun i => some (p0_5a i 0)))))))]] : List va_W)) → va_K (dC, dI) cls (List.flatten ([(tX3 p0k), (tX1 p1k), (tX1 (p0_5k 0)), (tX9 (p0_5_2k 0)), (tX1 (p0_5k 1)), (tX9 (p0_5_2k 1)), (tX1 (p0_5k 2)), (tX9 (p0_5_2k 2)), (tX1 (p0_5k 3)), (tX9 (p0_5_2k 3)), (tX1 (p0_5k 4)), (tX9 (p0_5_2k 4)), (tX1 (p0_5k 5)), (tX9 (p0_5_2k 5)), [(p0_5c, .object RX1)]] : List (List (ClassId × FieldType)))) s → va_S A s.heap H locs → lv_has ls 6 [(0, .ref (p0a 0)), (2, .int p2)] → W p l e ({ frames := 2, cells := 0, slots := 0, locals := 42 } : Room) s m ([.ref (p0a 0), .ref (p1a 0), .int p2] : List Value).toArray below meth c H locs 0 0 Q (F0 m 137 ls [.int y0_137, .int p2, .ref (p0a 13)]) := by
          intro y0_137 H locs ls hrun hP hD hK hS hl 
          unfold fX3_endBlock_J137 at hrun
          obtain ⟨hq15, hrun⟩ := chk9 hrun
          refine va_iast hx hb hK hP hD hS 5 4 rfl rfl (ixb_in hq15) dX3_endBlock_137 (fun H locs hP hD hS => ?_)
          have hP : va_P (dC, dI) cls (List.flatten ([(oX3 (p0a 0) p0a p0k p0n (upw w14 13 (nn p2) y0_137)), (oX1 (p1a 0) p1a p1k p1n p1w p1l), (oX1 (p0_5a 0 0) (p0_5a 0) (p0_5k 0) (p0_5n 0) (p0_5w 0) (p0_5l 0)), (oX9 (p0_5a 0 3) (p0_5_2a 0) (p0_5_2k 0) (p0_5_2n 0) (p0_5_2w 0)), (oX1 (p0_5a 1 0) (p0_5a 1) (p0_5k 1) (p0_5n 1) (p0_5w 1) (p0_5l 1)), (oX9 (p0_5a 1 3) (p0_5_2a 1) (p0_5_2k 1) (p0_5_2n 1) (p0_5_2w 1)), (oX1 (p0_5a 2 0) (p0_5a 2) (p0_5k 2) (p0_5n 2) (p0_5w 2) (p0_5l 2)), (oX9 (p0_5a 2 3) (p0_5_2a 2) (p0_5_2k 2) (p0_5_2n 2) (p0_5_2w 2)), (oX1 (p0_5a 3 0) (p0_5a 3) (p0_5k 3) (p0_5n 3) (p0_5w 3) (p0_5l 3)), (oX9 (p0_5a 3 3) (p0_5_2a 3) (p0_5_2k 3) (p0_5_2n 3) (p0_5_2w 3)), (oX1 (p0_5a 4 0) (p0_5a 4) (p0_5k 4) (p0_5n 4) (p0_5w 4) (p0_5l 4)), (oX9 (p0_5a 4 3) (p0_5_2a 4) (p0_5_2k 4) (p0_5_2n 4) (p0_5_2w 4)), (oX1 (p0_5a 5 0) (p0_5a 5) (p0_5k 5) (p0_5n 5) (p0_5w 5) (p0_5l 5)), (oX9 (p0_5a 5 3) (p0_5_2a 5) (p0_5_2k 5) (p0_5_2n 5) (p0_5_2w 5)), [((p0a 6), .inl (p0_5c, 6, .inr (.inr (.inr (.inr (fun i => some (p0_5a i 0)))))))]] : List va_W)) H := hP
          have hD : va_D A (List.flatten ([(oX3 (p0a 0) p0a p0k p0n (upw w14 13 (nn p2) y0_137)), (oX1 (p1a 0) p1a p1k p1n p1w p1l), (oX1 (p0_5a 0 0) (p0_5a 0) (p0_5k 0) (p0_5n 0) (p0_5w 0) (p0_5l 0)), (oX9 (p0_5a 0 3) (p0_5_2a 0) (p0_5_2k 0) (p0_5_2n 0) (p0_5_2w 0)), (oX1 (p0_5a 1 0) (p0_5a 1) (p0_5k 1) (p0_5n 1) (p0_5w 1) (p0_5l 1)), (oX9 (p0_5a 1 3) (p0_5_2a 1) (p0_5_2k 1) (p0_5_2n 1) (p0_5_2w 1)), (oX1 (p0_5a 2 0) (p0_5a 2) (p0_5k 2) (p0_5n 2) (p0_5w 2) (p0_5l 2)), (oX9 (p0_5a 2 3) (p0_5_2a 2) (p0_5_2k 2) (p0_5_2n 2) (p0_5_2w 2)), (oX1 (p0_5a 3 0) (p0_5a 3) (p0_5k 3) (p0_5n 3) (p0_5w 3) (p0_5l 3)), (oX9 (p0_5a 3 3) (p0_5_2a 3) (p0_5_2k 3) (p0_5_2n 3) (p0_5_2w 3)), (oX1 (p0_5a 4 0) (p0_5a 4) (p0_5k 4) (p0_5n 4) (p0_5w 4) (p0_5l 4)), (oX9 (p0_5a 4 3) (p0_5_2a 4) (p0_5_2k 4) (p0_5_2n 4) (p0_5_2w 4)), (oX1 (p0_5a 5 0) (p0_5a 5) (p0_5k 5) (p0_5n 5) (p0_5w 5) (p0_5l 5)), (oX9 (p0_5a 5 3) (p0_5_2a 5) (p0_5_2k 5) (p0_5_2n 5) (p0_5_2w 5)), [((p0a 6), .inl (p0_5c, 6, .inr (.inr (.inr (.inr (fun i => some (p0_5a i 0)))))))]] : List va_W)) := hD
          obtain ⟨w16, ew16, hrun⟩ := let9 hrun
          rw [← ew16] at hP hD
          refine lv_aload_n hx hb dX3_endBlock_138 rfl (lv_at hl 0 rfl) ?_
          refine va_get (D := (dC, dI)) (ci := 10) (v := .ref (p0a 12)) (C := RX3) (T := TX3) (N := 20) hx hb hts i_X3 hown hK hP 0 rfl rfl 11 (by decide) (hts _ qw915) (fun _ h9 => h9) rfl dX3_endBlock_139 ?_
          refine lv_iload_n hx hb dX3_endBlock_142 rfl (lv_at hl 1 rfl) ?_
          refine lv_bipush (v := (-2)) hx hb dX3_endBlock_143 (by decide) ?_
          obtain ⟨hq17, hrun⟩ := chk9 hrun
          refine va_iast hx hb hK hP hD hS 4 3 rfl rfl (ixb_in hq17) dX3_endBlock_145 (fun H locs hP hD hS => ?_)
          have hP : va_P (dC, dI) cls (List.flatten ([(oX3 (p0a 0) p0a p0k p0n (upw w16 12 (nn p2) (-2))), (oX1 (p1a 0) p1a p1k p1n p1w p1l), (oX1 (p0_5a 0 0) (p0_5a 0) (p0_5k 0) (p0_5n 0) (p0_5w 0) (p0_5l 0)), (oX9 (p0_5a 0 3) (p0_5_2a 0) (p0_5_2k 0) (p0_5_2n 0) (p0_5_2w 0)), (oX1 (p0_5a 1 0) (p0_5a 1) (p0_5k 1) (p0_5n 1) (p0_5w 1) (p0_5l 1)), (oX9 (p0_5a 1 3) (p0_5_2a 1) (p0_5_2k 1) (p0_5_2n 1) (p0_5_2w 1)), (oX1 (p0_5a 2 0) (p0_5a 2) (p0_5k 2) (p0_5n 2) (p0_5w 2) (p0_5l 2)), (oX9 (p0_5a 2 3) (p0_5_2a 2) (p0_5_2k 2) (p0_5_2n 2) (p0_5_2w 2)), (oX1 (p0_5a 3 0) (p0_5a 3) (p0_5k 3) (p0_5n 3) (p0_5w 3) (p0_5l 3)), (oX9 (p0_5a 3 3) (p0_5_2a 3) (p0_5_2k 3) (p0_5_2n 3) (p0_5_2w 3)), (oX1 (p0_5a 4 0) (p0_5a 4) (p0_5k 4) (p0_5n 4) (p0_5w 4) (p0_5l 4)), (oX9 (p0_5a 4 3) (p0_5_2a 4) (p0_5_2k 4) (p0_5_2n 4) (p0_5_2w 4)), (oX1 (p0_5a 5 0) (p0_5a 5) (p0_5k 5) (p0_5n 5) (p0_5w 5) (p0_5l 5)), (oX9 (p0_5a 5 3) (p0_5_2a 5) (p0_5_2k 5) (p0_5_2n 5) (p0_5_2w 5)), [((p0a 6), .inl (p0_5c, 6, .inr (.inr (.inr (.inr (fun i => some (p0_5a i 0)))))))]] : List va_W)) H := hP
          have hD : va_D A (List.flatten ([(oX3 (p0a 0) p0a p0k p0n (upw w16 12 (nn p2) (-2))), (oX1 (p1a 0) p1a p1k p1n p1w p1l), (oX1 (p0_5a 0 0) (p0_5a 0) (p0_5k 0) (p0_5n 0) (p0_5w 0) (p0_5l 0)), (oX9 (p0_5a 0 3) (p0_5_2a 0) (p0_5_2k 0) (p0_5_2n 0) (p0_5_2w 0)), (oX1 (p0_5a 1 0) (p0_5a 1) (p0_5k 1) (p0_5n 1) (p0_5w 1) (p0_5l 1)), (oX9 (p0_5a 1 3) (p0_5_2a 1) (p0_5_2k 1) (p0_5_2n 1) (p0_5_2w 1)), (oX1 (p0_5a 2 0) (p0_5a 2) (p0_5k 2) (p0_5n 2) (p0_5w 2) (p0_5l 2)), (oX9 (p0_5a 2 3) (p0_5_2a 2) (p0_5_2k 2) (p0_5_2n 2) (p0_5_2w 2)), (oX1 (p0_5a 3 0) (p0_5a 3) (p0_5k 3) (p0_5n 3) (p0_5w 3) (p0_5l 3)), (oX9 (p0_5a 3 3) (p0_5_2a 3) (p0_5_2k 3) (p0_5_2n 3) (p0_5_2w 3)), (oX1 (p0_5a 4 0) (p0_5a 4) (p0_5k 4) (p0_5n 4) (p0_5w 4) (p0_5l 4)), (oX9 (p0_5a 4 3) (p0_5_2a 4) (p0_5_2k 4) (p0_5_2n 4) (p0_5_2w 4)), (oX1 (p0_5a 5 0) (p0_5a 5) (p0_5k 5) (p0_5n 5) (p0_5w 5) (p0_5l 5)), (oX9 (p0_5a 5 3) (p0_5_2a 5) (p0_5_2k 5) (p0_5_2n 5) (p0_5_2w 5)), [((p0a 6), .inl (p0_5c, 6, .inr (.inr (.inr (.inr (fun i => some (p0_5a i 0)))))))]] : List va_W)) := hD
          obtain ⟨w18, ew18, hrun⟩ := let9 hrun
          rw [← ew18] at hP hD
          have ho9 : w18 = o := Option.some.inj hrun
          have hP9 : va_P (dC, dI) cls (List.flatten ([(oX3 (p0a 0) p0a p0k p0n o), (oX1 (p1a 0) p1a p1k p1n p1w p1l), (oX1 (p0_5a 0 0) (p0_5a 0) (p0_5k 0) (p0_5n 0) (p0_5w 0) (p0_5l 0)), (oX9 (p0_5a 0 3) (p0_5_2a 0) (p0_5_2k 0) (p0_5_2n 0) (p0_5_2w 0)), (oX1 (p0_5a 1 0) (p0_5a 1) (p0_5k 1) (p0_5n 1) (p0_5w 1) (p0_5l 1)), (oX9 (p0_5a 1 3) (p0_5_2a 1) (p0_5_2k 1) (p0_5_2n 1) (p0_5_2w 1)), (oX1 (p0_5a 2 0) (p0_5a 2) (p0_5k 2) (p0_5n 2) (p0_5w 2) (p0_5l 2)), (oX9 (p0_5a 2 3) (p0_5_2a 2) (p0_5_2k 2) (p0_5_2n 2) (p0_5_2w 2)), (oX1 (p0_5a 3 0) (p0_5a 3) (p0_5k 3) (p0_5n 3) (p0_5w 3) (p0_5l 3)), (oX9 (p0_5a 3 3) (p0_5_2a 3) (p0_5_2k 3) (p0_5_2n 3) (p0_5_2w 3)), (oX1 (p0_5a 4 0) (p0_5a 4) (p0_5k 4) (p0_5n 4) (p0_5w 4) (p0_5l 4)), (oX9 (p0_5a 4 3) (p0_5_2a 4) (p0_5_2k 4) (p0_5_2n 4) (p0_5_2w 4)), (oX1 (p0_5a 5 0) (p0_5a 5) (p0_5k 5) (p0_5n 5) (p0_5w 5) (p0_5l 5)), (oX9 (p0_5a 5 3) (p0_5_2a 5) (p0_5_2k 5) (p0_5_2n 5) (p0_5_2w 5)), [((p0a 6), .inl (p0_5c, 6, .inr (.inr (.inr (.inr (fun i => some (p0_5a i 0)))))))]] : List va_W)) H := by first | exact hP | (rw [← ho9]; exact hP)
          have hD9 : va_D A (List.flatten ([(oX3 (p0a 0) p0a p0k p0n o), (oX1 (p1a 0) p1a p1k p1n p1w p1l), (oX1 (p0_5a 0 0) (p0_5a 0) (p0_5k 0) (p0_5n 0) (p0_5w 0) (p0_5l 0)), (oX9 (p0_5a 0 3) (p0_5_2a 0) (p0_5_2k 0) (p0_5_2n 0) (p0_5_2w 0)), (oX1 (p0_5a 1 0) (p0_5a 1) (p0_5k 1) (p0_5n 1) (p0_5w 1) (p0_5l 1)), (oX9 (p0_5a 1 3) (p0_5_2a 1) (p0_5_2k 1) (p0_5_2n 1) (p0_5_2w 1)), (oX1 (p0_5a 2 0) (p0_5a 2) (p0_5k 2) (p0_5n 2) (p0_5w 2) (p0_5l 2)), (oX9 (p0_5a 2 3) (p0_5_2a 2) (p0_5_2k 2) (p0_5_2n 2) (p0_5_2w 2)), (oX1 (p0_5a 3 0) (p0_5a 3) (p0_5k 3) (p0_5n 3) (p0_5w 3) (p0_5l 3)), (oX9 (p0_5a 3 3) (p0_5_2a 3) (p0_5_2k 3) (p0_5_2n 3) (p0_5_2w 3)), (oX1 (p0_5a 4 0) (p0_5a 4) (p0_5k 4) (p0_5n 4) (p0_5w 4) (p0_5l 4)), (oX9 (p0_5a 4 3) (p0_5_2a 4) (p0_5_2k 4) (p0_5_2n 4) (p0_5_2w 4)), (oX1 (p0_5a 5 0) (p0_5a 5) (p0_5k 5) (p0_5n 5) (p0_5w 5) (p0_5l 5)), (oX9 (p0_5a 5 3) (p0_5_2a 5) (p0_5_2k 5) (p0_5_2n 5) (p0_5_2w 5)), [((p0a 6), .inl (p0_5c, 6, .inr (.inr (.inr (.inr (fun i => some (p0_5a i 0)))))))]] : List va_W)) := by first | exact hD | (rw [← ho9]; exact hD)
          subst hQ
          exact W.vret hx hb hr (fun t ht hW => ⟨⟨(), rfl, trivial, ⟨by rw [ht]; exact hP9, va_K.moved hW.alike hK, hD9⟩⟩, hS.F ht⟩) hS.2.2 dX3_endBlock_146
        rcases br9 hrun with ⟨hc19, hrun⟩ | ⟨hc19, hrun⟩
        · refine lv_if_eq (tgt := 131) hx hb dX3_endBlock_119 (by decide) (fun _ => ?_) (fun c => absurd hc19 c)
          refine lv_aload_n hx hb dX3_endBlock_131 rfl (lv_at hl 2 rfl) ?_
          refine va_get (D := (dC, dI)) (ci := 4) (v := .ref (p1a 10)) (C := RX1) (T := TX1) (N := 21) hx hb hts i_X1 hown hK hP 11 rfl rfl 9 (by decide) (hts _ qw924) (fun _ h9 => h9) rfl dX3_endBlock_132 ?_
          refine lv_iload_n hx hb dX3_endBlock_135 rfl (lv_at hl 4 rfl) ?_
          obtain ⟨hq20, hrun⟩ := chk9 hrun
          refine va_iald hx hb hK hP 18 16 rfl rfl (ixb_in hq20) dX3_endBlock_136 ?_
          exact J137 (p1w 10 (nn (p0w 13 (nn p2)))) _ _ _ hrun hP hD hK hS (lv_sub hl [1, 3] rfl)
        · refine lv_if_eq (tgt := 131) hx hb dX3_endBlock_119 (by decide) (fun c => absurd c hc19) (fun _ => ?_)
          refine lv_aload_n hx hb dX3_endBlock_122 rfl (lv_at hl 2 rfl) ?_
          refine va_get (D := (dC, dI)) (ci := 4) (v := .ref (p1a 11)) (C := RX1) (T := TX1) (N := 21) hx hb hts i_X1 hown hK hP 11 rfl rfl 10 (by decide) (hts _ qw925) (fun _ h9 => h9) rfl dX3_endBlock_123 ?_
          refine lv_iload_n hx hb dX3_endBlock_126 rfl (lv_at hl 4 rfl) ?_
          obtain ⟨hq21, hrun⟩ := chk9 hrun
          refine va_iald hx hb hK hP 19 17 rfl rfl (ixb_in hq21) dX3_endBlock_127 ?_
          refine lv_goto (tgt := 137) hx hb dX3_endBlock_128 (by decide) ?_
          exact J137 (p1w 11 (nn (p0w 13 (nn p2)))) _ _ _ hrun hP hD hK hS (lv_sub hl [1, 3] rfl)
      have J102 : ∀ (H : Heap) (locs : List Loc) (ls : Array Slot), (fX3_endBlock_J102 p0w p1w p2) = some o → va_P (dC, dI) cls (List.flatten ([(oX3 (p0a 0) p0a p0k p0n p0w), (oX1 (p1a 0) p1a p1k p1n p1w p1l), (oX1 (p0_5a 0 0) (p0_5a 0) (p0_5k 0) (p0_5n 0) (p0_5w 0) (p0_5l 0)), (oX9 (p0_5a 0 3) (p0_5_2a 0) (p0_5_2k 0) (p0_5_2n 0) (p0_5_2w 0)), (oX1 (p0_5a 1 0) (p0_5a 1) (p0_5k 1) (p0_5n 1) (p0_5w 1) (p0_5l 1)), (oX9 (p0_5a 1 3) (p0_5_2a 1) (p0_5_2k 1) (p0_5_2n 1) (p0_5_2w 1)), (oX1 (p0_5a 2 0) (p0_5a 2) (p0_5k 2) (p0_5n 2) (p0_5w 2) (p0_5l 2)), (oX9 (p0_5a 2 3) (p0_5_2a 2) (p0_5_2k 2) (p0_5_2n 2) (p0_5_2w 2)), (oX1 (p0_5a 3 0) (p0_5a 3) (p0_5k 3) (p0_5n 3) (p0_5w 3) (p0_5l 3)), (oX9 (p0_5a 3 3) (p0_5_2a 3) (p0_5_2k 3) (p0_5_2n 3) (p0_5_2w 3)), (oX1 (p0_5a 4 0) (p0_5a 4) (p0_5k 4) (p0_5n 4) (p0_5w 4) (p0_5l 4)), (oX9 (p0_5a 4 3) (p0_5_2a 4) (p0_5_2k 4) (p0_5_2n 4) (p0_5_2w 4)), (oX1 (p0_5a 5 0) (p0_5a 5) (p0_5k 5) (p0_5n 5) (p0_5w 5) (p0_5l 5)), (oX9 (p0_5a 5 3) (p0_5_2a 5) (p0_5_2k 5) (p0_5_2n 5) (p0_5_2w 5)), [((p0a 6), .inl (p0_5c, 6, .inr (.inr (.inr (.inr (fun i => some (p0_5a i 0)))))))]] : List va_W)) H → va_D A (List.flatten ([(oX3 (p0a 0) p0a p0k p0n p0w), (oX1 (p1a 0) p1a p1k p1n p1w p1l), (oX1 (p0_5a 0 0) (p0_5a 0) (p0_5k 0) (p0_5n 0) (p0_5w 0) (p0_5l 0)), (oX9 (p0_5a 0 3) (p0_5_2a 0) (p0_5_2k 0) (p0_5_2n 0) (p0_5_2w 0)), (oX1 (p0_5a 1 0) (p0_5a 1) (p0_5k 1) (p0_5n 1) (p0_5w 1) (p0_5l 1)), (oX9 (p0_5a 1 3) (p0_5_2a 1) (p0_5_2k 1) (p0_5_2n 1) (p0_5_2w 1)), (oX1 (p0_5a 2 0) (p0_5a 2) (p0_5k 2) (p0_5n 2) (p0_5w 2) (p0_5l 2)), (oX9 (p0_5a 2 3) (p0_5_2a 2) (p0_5_2k 2) (p0_5_2n 2) (p0_5_2w 2)), (oX1 (p0_5a 3 0) (p0_5a 3) (p0_5k 3) (p0_5n 3) (p0_5w 3) (p0_5l 3)), (oX9 (p0_5a 3 3) (p0_5_2a 3) (p0_5_2k 3) (p0_5_2n 3) (p0_5_2w 3)), (oX1 (p0_5a 4 0) (p0_5a 4) (p0_5k 4) (p0_5n 4) (p0_5w 4) (p0_5l 4)), (oX9 (p0_5a 4 3) (p0_5_2a 4) (p0_5_2k 4) (p0_5_2n 4) (p0_5_2w 4)), (oX1 (p0_5a 5 0) (p0_5a 5) (p0_5k 5) (p0_5n 5) (p0_5w 5) (p0_5l 5)), (oX9 (p0_5a 5 3) (p0_5_2a 5) (p0_5_2k 5) (p0_5_2n 5) (p0_5_2w 5)), [((p0a 6), .inl (p0_5c, 6, .inr (.inr (.inr (.inr (fun i => some (p0_5a i 0)))))))]] : List va_W)) → va_K (dC, dI) cls (List.flatten ([(tX3 p0k), (tX1 p1k), (tX1 (p0_5k 0)), (tX9 (p0_5_2k 0)), (tX1 (p0_5k 1)), (tX9 (p0_5_2k 1)), (tX1 (p0_5k 2)), (tX9 (p0_5_2k 2)), (tX1 (p0_5k 3)), (tX9 (p0_5_2k 3)), (tX1 (p0_5k 4)), (tX9 (p0_5_2k 4)), (tX1 (p0_5k 5)), (tX9 (p0_5_2k 5)), [(p0_5c, .object RX1)]] : List (List (ClassId × FieldType)))) s → va_S A s.heap H locs → lv_has ls 6 [(0, .ref (p0a 0)), (1, .ref (p1a 0)), (2, .int p2), (3, .int (p0w 13 (nn p2)))] → W p l e ({ frames := 2, cells := 0, slots := 0, locals := 42 } : Room) s m ([.ref (p0a 0), .ref (p1a 0), .int p2] : List Value).toArray below meth c H locs 0 0 Q (F0 m 102 ls []) := by
        intro  H locs ls hrun hP hD hK hS hl 
        unfold fX3_endBlock_J102 at hrun
        refine lv_iconst (v := 0) hx hb dX3_endBlock_102 (by decide) ?_
        exact J103 0 _ _ _ hrun hP hD hK hS (lv_sub hl [0, 1, 2, 3] rfl)
      rcases br9 hrun with ⟨hc22, hrun⟩ | ⟨hc22, hrun⟩
      · refine lv_icmp_ne (tgt := 102) hx hb dX3_endBlock_90 (by decide) (fun c => absurd hc22 c) (fun _ => ?_)
        refine lv_iload hx hb dX3_endBlock_93 (lv_at hl 0 rfl) ?_
        rcases br9 hrun with ⟨hc23, hrun⟩ | ⟨hc23, hrun⟩
        · refine lv_if_ne (tgt := 102) hx hb dX3_endBlock_95 (by decide) (fun c => absurd hc23 c) (fun _ => ?_)
          refine lv_iconst (v := 1) hx hb dX3_endBlock_98 (by decide) ?_
          refine lv_goto (tgt := 103) hx hb dX3_endBlock_99 (by decide) ?_
          exact J103 1 _ _ _ hrun hP hD hK hS (lv_sub hl [1, 2, 3, 4] rfl)
        · refine lv_if_ne (tgt := 102) hx hb dX3_endBlock_95 (by decide) (fun _ => ?_) (fun c => absurd c hc23)
          exact J102 _ _ _ hrun hP hD hK hS (lv_sub hl [1, 2, 3, 4] rfl)
      · refine lv_icmp_ne (tgt := 102) hx hb dX3_endBlock_90 (by decide) (fun _ => ?_) (fun c => absurd c hc22)
        exact J102 _ _ _ hrun hP hD hK hS (lv_sub hl [1, 2, 3, 4] rfl)
  rcases br9 hrun with ⟨hc24, hrun⟩ | ⟨hc24, hrun⟩
  · refine lv_if_ge (tgt := 20) hx hb dX3_endBlock_13 (by decide) (fun _ => ?_) (fun c => absurd hc24 c)
    refine lv_aload_n hx hb dX3_endBlock_20 rfl (lv_at hl 1 rfl) ?_
    refine va_get (D := (dC, dI)) (ci := 10) (v := .ref (p0a 16)) (C := RX3) (T := TX3) (N := 20) hx hb hts i_X3 hown hK hP 0 rfl rfl 15 (by decide) (hts _ qw906) (fun _ h9 => h9) rfl dX3_endBlock_21 ?_
    refine lv_iload_n hx hb dX3_endBlock_24 rfl (lv_at hl 3 rfl) ?_
    refine lv_sipush (v := 320) hx hb dX3_endBlock_25 (by decide) ?_
    refine lv_imul hx hb dX3_endBlock_28 ?_
    refine lv_aload_n hx hb dX3_endBlock_29 rfl (lv_at hl 2 rfl) ?_
    refine va_get (D := (dC, dI)) (ci := 4) (v := .ref (p1a 9)) (C := RX1) (T := TX1) (N := 21) hx hb hts i_X1 hown hK hP 11 rfl rfl 8 (by decide) (hts _ qw905) (fun _ h9 => h9) rfl dX3_endBlock_30 ?_
    refine lv_iload_n hx hb dX3_endBlock_33 rfl (lv_at hl 0 rfl) ?_
    obtain ⟨hq25, hrun⟩ := chk9 hrun
    refine va_iald hx hb hK hP 17 15 rfl rfl (ixb_in hq25) dX3_endBlock_34 ?_
    refine lv_iadd hx hb dX3_endBlock_35 ?_
    obtain ⟨hq26, hrun⟩ := chk9 hrun
    refine va_iald hx hb hK hP 8 7 rfl rfl (ixb_in hq26) dX3_endBlock_36 ?_
    exact J37 (p0w 16 (nn ((p2 * 320) + (p1w 9 (nn (p0w 13 (nn p2))))))) _ _ _ hrun hP hD hK hS (lv_sub hl [1, 2, 3, 0] rfl)
  · refine lv_if_ge (tgt := 20) hx hb dX3_endBlock_13 (by decide) (fun c => absurd c hc24) (fun _ => ?_)
    refine lv_iconst (v := 0) hx hb dX3_endBlock_16 (by decide) ?_
    refine lv_goto (tgt := 37) hx hb dX3_endBlock_17 (by decide) ?_
    exact J37 0 _ _ _ hrun hP hD hK hS (lv_sub hl [1, 2, 3, 0] rfl)
def fX3_pop (p0w : ST) : Option (Int32 × ST) := (if (p0w 0 19) = 0 then some (0, p0w) else (lt9 (upw p0w 0 19 ((p0w 0 19) - 1)) fun (w2 : ST) => (if ixb (w2 0 19) 512 = true then some ((w2 19 (nn (w2 0 19))), w2) else none)))
set_option maxHeartbeats 16000000 in
set_option maxRecDepth 100000 in
theorem kX3_pop {zs : ZS} (l : Launch) (dC : Nat → ClassId) (dI : Nat → Nat → Nat) (p0a : Nat → Nat) (p0k : Nat → ClassId) (p0n : Nat → Nat) (p0w : ST) (sz : Nat) (o : Int32 × ST) (hrun : fX3_pop p0w = some o) : Met l yX3_pop (wz yX3_pop cX3_pop 1 (Option.some Jvm.ClassFile.FieldType.int)) ({ frames := 0, cells := 0, slots := 0, locals := 0 } : Room) (va_Pc [.ref (p0a 0)] (PRE zs dC dI (List.flatten ([(oX3 (p0a 0) p0a p0k p0n p0w)] : List va_W)) (List.flatten ([(tX3 p0k)] : List (List (ClassId × FieldType)))) sz)) (va_Qi (fun (r : Int32) (_ : Unit) => r = (o.1)) (fun _ t => POST dC dI (List.flatten ([(oX3 (p0a 0) p0a p0k p0n (o.2))] : List va_W)) (List.flatten ([(tX3 p0k)] : List (List (ClassId × FieldType)))) (va_A (List.flatten ([(oX3 (p0a 0) p0a p0k p0n p0w)] : List va_W)) sz) t) (va_A (List.flatten ([(oX3 (p0a 0) p0a p0k p0n p0w)] : List va_W)) sz)) 0 0 (va_A (List.flatten ([(oX3 (p0a 0) p0a p0k p0n p0w)] : List va_W)) sz) := by
  refine Met.ofW (cc := cX3_pop) (maxL := 1) (ret := (Option.some Jvm.ClassFile.FieldType.int)) (by decide) rfl ?_
  intro p e s m args below meth c s₁ B hml hv
  obtain ⟨rfl, hsz, hP, hK, hD0, hE⟩ := hv
  have hx := B.exec
  have hb := B.bytes
  have hr := B.returns
  have hts0 := atoms_spec (ws := wz yX3_pop cX3_pop 1 (Option.some Jvm.ClassFile.FieldType.int)) B.pre
  have hts : ∀ w ∈ gw, w.before _ s = true := fun w h => hts0 w (List.mem_cons_of_mem _ h)
  have hown : s.vm.findClass RX3 = some m.cls := findClass_of_methodNamed B.named
  have hlocks := B.notSynchronized
  subst hsz
  have hD := hD0.self (sz := s.heap.size)
  refine gQ9 ?_
  intro Q hQ
  generalize hAe : va_A (List.flatten ([(oX3 (p0a 0) p0a p0k p0n p0w)] : List va_W)) s.heap.size = A at hD hE hQ
  have hA : ∀ q : Nat, s.heap.size ≤ q → A q := fun q h => by rw [← hAe]; exact Or.inr h
  have hS : va_S A s.heap s.heap [] := va_S.rf
  have hP : va_P (dC, dI) cls (List.flatten ([(oX3 (p0a 0) p0a p0k p0n p0w)] : List va_W)) s.heap := hP
  have hl := lv_entry ([.ref (p0a 0)]) (n := 1) (Nat.le_of_ble_eq_true rfl)
  rw [lg_entry_eq]
  generalize (lg_sl ([.ref (p0a 0)]) ++ List.replicate (1 - (lg_sl ([.ref (p0a 0)])).length) Slot.unset).toArray = ls at hl ⊢
  have hl : lv_has ls 1 [(0, .ref (p0a 0))] := hl
  obtain ⟨H, hHe⟩ : ∃ H, H = s.heap := ⟨_, rfl⟩
  obtain ⟨locs, hle⟩ : ∃ locs : List Loc, locs = [] := ⟨_, rfl⟩
  rw [← hHe] at hP
  have hS : va_S A s.heap H locs := by rw [hHe, hle]; exact hS
  show W p l e ({ frames := 0, cells := 0, slots := 0, locals := 0 } : Room) s m ([.ref (p0a 0)] : List Value).toArray below meth c s.heap [] 0 0 Q (F0 m 0 ls [])
  rw [← hle]
  refine wH9 hHe ?_
  unfold fX3_pop at hrun
  refine lv_aload_n hx hb dX3_pop_0 rfl (lv_at hl 0 rfl) ?_
  refine va_get (D := (dC, dI)) (ci := 10) (v := .int (p0w 0 19)) (C := RX3) (T := TX3) (N := 20) hx hb hts i_X3 hown hK hP 0 rfl rfl 19 (by decide) (hts _ qw927) (fun _ h9 => h9) rfl dX3_pop_1 ?_
  rcases br9 hrun with ⟨hc1, hrun⟩ | ⟨hc1, hrun⟩
  · refine lv_if_ne (tgt := 9) hx hb dX3_pop_4 (by decide) (fun c => absurd hc1 c) (fun _ => ?_)
    refine lv_iconst (v := 0) hx hb dX3_pop_7 (by decide) ?_
    have ho9 : (0, p0w) = o := Option.some.inj hrun
    have hP9 : va_P (dC, dI) cls (List.flatten ([(oX3 (p0a 0) p0a p0k p0n (o.2))] : List va_W)) H := by first | exact hP | (rw [← ho9]; exact hP)
    have hD9 : va_D A (List.flatten ([(oX3 (p0a 0) p0a p0k p0n (o.2))] : List va_W)) := by first | exact hD | (rw [← ho9]; exact hD)
    subst hQ
    exact W.iret (v := 0) hx hb hr (fun t ht hW => ⟨⟨0, (), rfl, (by rw [← ho9]), ⟨by rw [ht]; exact hP9, va_K.moved hW.alike hK, hD9⟩⟩, hS.F ht⟩) hS.2.2 dX3_pop_8
  · refine lv_if_ne (tgt := 9) hx hb dX3_pop_4 (by decide) (fun _ => ?_) (fun c => absurd c hc1)
    refine lv_aload_n hx hb dX3_pop_9 rfl (lv_at hl 0 rfl) ?_
    refine lv_dup hx hb dX3_pop_10 rfl ?_
    refine va_get (D := (dC, dI)) (ci := 10) (v := .int (p0w 0 19)) (C := RX3) (T := TX3) (N := 20) hx hb hts i_X3 hown hK hP 0 rfl rfl 19 (by decide) (hts _ qw927) (fun _ h9 => h9) rfl dX3_pop_11 ?_
    refine lv_iconst (v := 1) hx hb dX3_pop_14 (by decide) ?_
    refine lv_isub hx hb dX3_pop_15 ?_
    refine va_put (D := (dC, dI)) (ci := 10) (v := .int ((p0w 0 19) - 1)) (ty := .int) (C := RX3) (T := TX3) (N := 20) hx hb hts i_X3 tyX3 tyX3_ok nmX3 hown hK hP hD hS 0 rfl rfl 19 (by decide) (hts _ qw927) (fun _ h9 => h9) rfl (by decide +kernel) rfl rfl (Nat.le_of_ble_eq_true rfl) dX3_pop_16 (fun H locs hP hD hS => ?_)
    have hP : va_P (dC, dI) cls (List.flatten ([(oX3 (p0a 0) p0a p0k p0n (upw p0w 0 19 ((p0w 0 19) - 1)))] : List va_W)) H := hP
    have hD : va_D A (List.flatten ([(oX3 (p0a 0) p0a p0k p0n (upw p0w 0 19 ((p0w 0 19) - 1)))] : List va_W)) := hD
    obtain ⟨w2, ew2, hrun⟩ := let9 hrun
    rw [← ew2] at hP hD
    refine lv_aload_n hx hb dX3_pop_19 rfl (lv_at hl 0 rfl) ?_
    refine va_get (D := (dC, dI)) (ci := 10) (v := .ref (p0a 19)) (C := RX3) (T := TX3) (N := 20) hx hb hts i_X3 hown hK hP 0 rfl rfl 18 (by decide) (hts _ qw928) (fun _ h9 => h9) rfl dX3_pop_20 ?_
    refine lv_aload_n hx hb dX3_pop_23 rfl (lv_at hl 0 rfl) ?_
    refine va_get (D := (dC, dI)) (ci := 10) (v := .int (w2 0 19)) (C := RX3) (T := TX3) (N := 20) hx hb hts i_X3 hown hK hP 0 rfl rfl 19 (by decide) (hts _ qw927) (fun _ h9 => h9) rfl dX3_pop_24 ?_
    obtain ⟨hq3, hrun⟩ := chk9 hrun
    refine va_iald hx hb hK hP 10 9 rfl rfl (ixb_in hq3) dX3_pop_27 ?_
    have ho9 : ((w2 19 (nn (w2 0 19))), w2) = o := Option.some.inj hrun
    have hP9 : va_P (dC, dI) cls (List.flatten ([(oX3 (p0a 0) p0a p0k p0n (o.2))] : List va_W)) H := by first | exact hP | (rw [← ho9]; exact hP)
    have hD9 : va_D A (List.flatten ([(oX3 (p0a 0) p0a p0k p0n (o.2))] : List va_W)) := by first | exact hD | (rw [← ho9]; exact hD)
    subst hQ
    exact W.iret (v := (w2 19 (nn (w2 0 19)))) hx hb hr (fun t ht hW => ⟨⟨(w2 19 (nn (w2 0 19))), (), rfl, (by rw [← ho9]), ⟨by rw [ht]; exact hP9, va_K.moved hW.alike hK, hD9⟩⟩, hS.F ht⟩) hS.2.2 dX3_pop_28
def fX3_enter_L47 (p0w : ST) : Nat → Int32 → ST → Option ST
  | 0 => fun _ _ => none
  | n_47 + 1 => fun v5_47 p0w_47 => (if v5_47 < 0 then some p0w_47 else ((fX3_pop p0w_47).bind fun (o_6 : Int32 × ST) => (if ixb (((p0w 0 9) * 4) + v5_47) 32 = true then (lt9 (upw (o_6.2) 15 (nn (((p0w 0 9) * 4) + v5_47)) (o_6.1)) fun (w9 : ST) => ((fX3_enter_L47 p0w n_47) (v5_47 + (-1)) w9)) else none)))
def fX3_enter_J126 (p0n : Nat → Nat) (p0w : ST) (w15 : ST) (y0_126 : Int32) : Option ST := (if ixb (p0w 0 9) 8 = true then (lt9 (upw w15 12 (nn (p0w 0 9)) y0_126) fun (w17 : ST) => ((fJ7_fill_fda19 2560 (w17 16) ((p0w 0 9) * 320) (((p0w 0 9) + 1) * 320) 0).bind fun (o_18 : RI) => ((fJ7_fill_fda19 (p0n 17) ((srw w17 16 o_18) 17) ((p0w 0 9) * ((srw w17 16 o_18) 0 17)) (((p0w 0 9) + 1) * ((srw w17 16 o_18) 0 17)) 0).bind fun (o_19 : RI) => some (srw (srw w17 16 o_18) 17 o_19)))) else none)
def fX3_enter (p0n : Nat → Nat) (p0w : ST) (p1 : Int32) (p2 : Int32) (p0_4w : ST) : Option ST := (if (p0w 0 9) = 8 then ((fX3_stop p0w 3).bind fun (o_2 : ST) => some o_2) else (lt9 (upw p0w 0 9 ((p0w 0 9) + 1)) fun (w3 : ST) => (if ixb p2 6 = true then ((fX3_enter_L47 p0w NF ((p0_4w 4 (nn p2)) - 1) w3).bind fun (o47 : ST) => (if ixb (p0w 0 9) 8 = true then (lt9 (upw o47 11 (nn (p0w 0 9)) p2) fun (w11 : ST) => (if ixb (p0w 0 9) 8 = true then (lt9 (upw w11 13 (nn (p0w 0 9)) 0) fun (w13 : ST) => (if ixb (p0w 0 9) 8 = true then (lt9 (upw w13 14 (nn (p0w 0 9)) (-1)) fun (w15 : ST) => (if p1 = 0 then (if ixb p2 6 = true then (fX3_enter_J126 p0n p0w w15 (p0_4w 6 (nn p2))) else none) else (if p1 = 1 then (fX3_enter_J126 p0n p0w w15 (-2)) else (fX3_enter_J126 p0n p0w w15 0)))) else none)) else none)) else none)) else none)))
set_option maxHeartbeats 16000000 in
set_option maxRecDepth 100000 in
theorem kX3_enter {zs : ZS} (l : Launch) (dC : Nat → ClassId) (dI : Nat → Nat → Nat) (p0a : Nat → Nat) (p0k : Nat → ClassId) (p0n : Nat → Nat) (p0w : ST) (p1 : Int32) (p2 : Int32) (p0_4a : Nat → Nat) (p0_4k : Nat → ClassId) (p0_4w : ST) (p0_4l : SL) (sz : Nat) (o : ST) (hrun : fX3_enter p0n p0w p1 p2 p0_4w = some o) : Met l yX3_enter (wz yX3_enter cX3_enter 6 (Option.none : Option Jvm.ClassFile.FieldType)) ({ frames := 2, cells := 0, slots := 0, locals := 46 } : Room) (va_Pc [.ref (p0a 0), .int p1, .int p2] (PRE zs dC dI (List.flatten ([(oX3 (p0a 0) p0a p0k p0n p0w), (oX6 (p0a 5) p0_4a p0_4k p0_4w p0_4l)] : List va_W)) (List.flatten ([(tX3 p0k), (tX6 p0_4k)] : List (List (ClassId × FieldType)))) sz)) (va_Qv (fun (_ : Unit) => True) (fun _ t => POST dC dI (List.flatten ([(oX3 (p0a 0) p0a p0k p0n o), (oX6 (p0a 5) p0_4a p0_4k p0_4w p0_4l)] : List va_W)) (List.flatten ([(tX3 p0k), (tX6 p0_4k)] : List (List (ClassId × FieldType)))) (va_A (List.flatten ([(oX3 (p0a 0) p0a p0k p0n p0w), (oX6 (p0a 5) p0_4a p0_4k p0_4w p0_4l)] : List va_W)) sz) t) (va_A (List.flatten ([(oX3 (p0a 0) p0a p0k p0n p0w), (oX6 (p0a 5) p0_4a p0_4k p0_4w p0_4l)] : List va_W)) sz)) 0 0 (va_A (List.flatten ([(oX3 (p0a 0) p0a p0k p0n p0w), (oX6 (p0a 5) p0_4a p0_4k p0_4w p0_4l)] : List va_W)) sz) := by
  refine Met.ofW (cc := cX3_enter) (maxL := 6) (ret := (Option.none : Option Jvm.ClassFile.FieldType)) (by decide) rfl ?_
  intro p e s m args below meth c s₁ B hml hv
  obtain ⟨rfl, hsz, hP, hK, hD0, hE⟩ := hv
  have hx := B.exec
  have hb := B.bytes
  have hr := B.returns
  have hts0 := atoms_spec (ws := wz yX3_enter cX3_enter 6 (Option.none : Option Jvm.ClassFile.FieldType)) B.pre
  have hts : ∀ w ∈ gw, w.before _ s = true := fun w h => hts0 w (List.mem_cons_of_mem _ h)
  have hown : s.vm.findClass RX3 = some m.cls := findClass_of_methodNamed B.named
  have hlocks := B.notSynchronized
  subst hsz
  have hD := hD0.self (sz := s.heap.size)
  refine gQ9 ?_
  intro Q hQ
  generalize hAe : va_A (List.flatten ([(oX3 (p0a 0) p0a p0k p0n p0w), (oX6 (p0a 5) p0_4a p0_4k p0_4w p0_4l)] : List va_W)) s.heap.size = A at hD hE hQ
  have hA : ∀ q : Nat, s.heap.size ≤ q → A q := fun q h => by rw [← hAe]; exact Or.inr h
  have hS : va_S A s.heap s.heap [] := va_S.rf
  have hP : va_P (dC, dI) cls (List.flatten ([(oX3 (p0a 0) p0a p0k p0n p0w), (oX6 (p0a 5) p0_4a p0_4k p0_4w p0_4l)] : List va_W)) s.heap := hP
  have hl := lv_entry ([.ref (p0a 0), .int p1, .int p2]) (n := 6) (Nat.le_of_ble_eq_true rfl)
  rw [lg_entry_eq]
  generalize (lg_sl ([.ref (p0a 0), .int p1, .int p2]) ++ List.replicate (6 - (lg_sl ([.ref (p0a 0), .int p1, .int p2])).length) Slot.unset).toArray = ls at hl ⊢
  have hl : lv_has ls 6 [(0, .ref (p0a 0)), (1, .int p1), (2, .int p2)] := hl
  obtain ⟨H, hHe⟩ : ∃ H, H = s.heap := ⟨_, rfl⟩
  obtain ⟨locs, hle⟩ : ∃ locs : List Loc, locs = [] := ⟨_, rfl⟩
  rw [← hHe] at hP
  have hS : va_S A s.heap H locs := by rw [hHe, hle]; exact hS
  show W p l e ({ frames := 2, cells := 0, slots := 0, locals := 46 } : Room) s m ([.ref (p0a 0), .int p1, .int p2] : List Value).toArray below meth c s.heap [] 0 0 Q (F0 m 0 ls [])
  rw [← hle]
  refine wH9 hHe ?_
  unfold fX3_enter at hrun
  refine lv_aload_n hx hb dX3_enter_0 rfl (lv_at hl 0 rfl) ?_
  refine va_get (D := (dC, dI)) (ci := 10) (v := .int (p0w 0 9)) (C := RX3) (T := TX3) (N := 20) hx hb hts i_X3 hown hK hP 0 rfl rfl 9 (by decide) (hts _ qw897) (fun _ h9 => h9) rfl dX3_enter_1 ?_
  refine lv_bipush (v := 8) hx hb dX3_enter_4 (by decide) ?_
  rcases br9 hrun with ⟨hc1, hrun⟩ | ⟨hc1, hrun⟩
  · refine lv_icmp_ne (tgt := 15) hx hb dX3_enter_6 (by decide) (fun c => absurd hc1 c) (fun _ => ?_)
    refine lv_aload_n hx hb dX3_enter_9 rfl (lv_at hl 0 rfl) ?_
    refine lv_iconst (v := 3) hx hb dX3_enter_10 (by decide) ?_
    obtain ⟨o_2, hc_2, hrun⟩ := bnd9 hrun
    have hPx : va_P (dC, dI) cls ((List.flatten ([(oX3 (p0a 0) p0a p0k p0n p0w)] : List va_W)) ++ (List.flatten ([(oX6 (p0a 5) p0_4a p0_4k p0_4w p0_4l)] : List va_W))) H := vP_fa (vP_perm hP (bP (List.Perm.refl _)))
    have hDx : va_D A ((List.flatten ([(oX3 (p0a 0) p0a p0k p0n p0w)] : List va_W)) ++ (List.flatten ([(oX6 (p0a 5) p0_4a p0_4k p0_4w p0_4l)] : List va_W))) := vD_fa (vD_perm hD (bP (List.Perm.refl _)))
    have hKx : va_K (dC, dI) cls ((List.flatten ([(tX3 p0k)] : List (List (ClassId × FieldType)))) ++ (List.flatten ([(tX6 p0_4k)] : List (List (ClassId × FieldType))))) s := vK_fa (vK_perm hK (bP (List.Perm.refl _)))
    have hPc := vP_l hPx
    have hDc := vD_l hDx
    have hKc := vK_l hKx
    have hFc := vfree hDx hS hA
    refine va_callv (va_runV (As := [.int 3]) (rest := []) ⟨hx, hb, hml, hown, hts⟩ (kX3_stop l dC dI (p0a := p0a) (p0k := p0k) (p0n := p0n) (p0w := p0w) (p1 := 3) (sz := _) (o := o_2) (hrun := hc_2)) (cwV 1 hts (gi_V qw900 qw901 qw902 qw903 (gi_z qw899)) rfl rfl rfl (by decide +kernel) ⟨Nat.le_of_ble_eq_true rfl, Nat.le_of_ble_eq_true rfl⟩) ⟨PRE.blind, va_recv hKc hPc (ci := 10) (q0 := 0) rfl rfl, PRE.of hE hS hFc hPc hKc hDc⟩ rfl rfl hl.1 rfl (lv_room (Nat.le_of_ble_eq_true rfl)) dX3_enter_11 ⟨(Nat.le_of_ble_eq_true rfl), (Nat.le_of_ble_eq_true rfl)⟩) hS (fun q _ h => hFc q h) hFc (fun u t H locs ht hvm hw hB hz1 hk1 hS => ?_)
    obtain ⟨b1, b2, b3⟩ := hB
    rw [ht] at b1
    obtain ⟨hP, hD, hK⟩ := JOINC (wc := (List.flatten ([(oX3 (p0a 0) p0a p0k p0n p0w)] : List va_W))) (wr := (List.flatten ([(oX6 (p0a 5) p0_4a p0_4k p0_4w p0_4l)] : List va_W))) (w1 := (List.flatten ([(oX3 (p0a 0) p0a p0k p0n o_2)] : List va_W))) (t1 := (List.flatten ([(tX3 p0k)] : List (List (ClassId × FieldType))))) hPx hDx hKx hk1 hFc b1 (va_K.moved hvm.symm b2) b3
    have hP : va_P (dC, dI) cls (List.flatten ([(oX3 (p0a 0) p0a p0k p0n o_2), (oX6 (p0a 5) p0_4a p0_4k p0_4w p0_4l)] : List va_W)) H := vP_perm (vP_fb hP) (bP (List.Perm.refl _))
    have hD : va_D A (List.flatten ([(oX3 (p0a 0) p0a p0k p0n o_2), (oX6 (p0a 5) p0_4a p0_4k p0_4w p0_4l)] : List va_W)) := vD_perm (vD_fb hD) (bP (List.Perm.refl _))
    have hK : va_K (dC, dI) cls (List.flatten ([(tX3 p0k), (tX6 p0_4k)] : List (List (ClassId × FieldType)))) s := vK_perm (vK_fb hK) (bP (List.Perm.refl _))
    have ho9 : o_2 = o := Option.some.inj hrun
    have hP9 : va_P (dC, dI) cls (List.flatten ([(oX3 (p0a 0) p0a p0k p0n o), (oX6 (p0a 5) p0_4a p0_4k p0_4w p0_4l)] : List va_W)) H := by first | exact hP | (rw [← ho9]; exact hP)
    have hD9 : va_D A (List.flatten ([(oX3 (p0a 0) p0a p0k p0n o), (oX6 (p0a 5) p0_4a p0_4k p0_4w p0_4l)] : List va_W)) := by first | exact hD | (rw [← ho9]; exact hD)
    subst hQ
    exact W.vret hx hb hr (fun t ht hW => ⟨⟨(), rfl, trivial, ⟨by rw [ht]; exact hP9, va_K.moved hW.alike hK, hD9⟩⟩, hS.F ht⟩) hS.2.2 dX3_enter_14
  · refine lv_icmp_ne (tgt := 15) hx hb dX3_enter_6 (by decide) (fun _ => ?_) (fun c => absurd c hc1)
    refine lv_aload_n hx hb dX3_enter_15 rfl (lv_at hl 0 rfl) ?_
    refine va_get (D := (dC, dI)) (ci := 10) (v := .int (p0w 0 9)) (C := RX3) (T := TX3) (N := 20) hx hb hts i_X3 hown hK hP 0 rfl rfl 9 (by decide) (hts _ qw897) (fun _ h9 => h9) rfl dX3_enter_16 ?_
    refine lv_istore_n (lv' := [(3, .int (p0w 0 9)), (0, .ref (p0a 0)), (1, .int p1), (2, .int p2)]) hx hb dX3_enter_19 rfl hl (by decide) rfl (fun ls hl => ?_)
    refine lv_aload_n hx hb dX3_enter_20 rfl (lv_at hl 1 rfl) ?_
    refine lv_dup hx hb dX3_enter_21 rfl ?_
    refine va_get (D := (dC, dI)) (ci := 10) (v := .int (p0w 0 9)) (C := RX3) (T := TX3) (N := 20) hx hb hts i_X3 hown hK hP 0 rfl rfl 9 (by decide) (hts _ qw897) (fun _ h9 => h9) rfl dX3_enter_22 ?_
    refine lv_iconst (v := 1) hx hb dX3_enter_25 (by decide) ?_
    refine lv_iadd hx hb dX3_enter_26 ?_
    refine va_put (D := (dC, dI)) (ci := 10) (v := .int ((p0w 0 9) + 1)) (ty := .int) (C := RX3) (T := TX3) (N := 20) hx hb hts i_X3 tyX3 tyX3_ok nmX3 hown hK hP hD hS 0 rfl rfl 9 (by decide) (hts _ qw897) (fun _ h9 => h9) rfl (by decide +kernel) rfl rfl (Nat.le_of_ble_eq_true rfl) dX3_enter_27 (fun H locs hP hD hS => ?_)
    have hP : va_P (dC, dI) cls (List.flatten ([(oX3 (p0a 0) p0a p0k p0n (upw p0w 0 9 ((p0w 0 9) + 1))), (oX6 (p0a 5) p0_4a p0_4k p0_4w p0_4l)] : List va_W)) H := hP
    have hD : va_D A (List.flatten ([(oX3 (p0a 0) p0a p0k p0n (upw p0w 0 9 ((p0w 0 9) + 1))), (oX6 (p0a 5) p0_4a p0_4k p0_4w p0_4l)] : List va_W)) := hD
    obtain ⟨w3, ew3, hrun⟩ := let9 hrun
    rw [← ew3] at hP hD
    refine lv_aload_n hx hb dX3_enter_30 rfl (lv_at hl 1 rfl) ?_
    refine va_get (D := (dC, dI)) (ci := 10) (v := .ref (p0a 5)) (C := RX3) (T := TX3) (N := 20) hx hb hts i_X3 hown hK hP 0 rfl rfl 4 (by decide) (hts _ qw890) (fun _ h9 => h9) rfl dX3_enter_31 ?_
    refine va_get (D := (dC, dI)) (ci := 2) (v := .ref (p0_4a 4)) (C := RX6) (T := TX6) (N := 13) hx hb hts i_X6 hown hK hP 11 rfl rfl 3 (by decide) (hts _ qw926) (fun _ h9 => h9) rfl dX3_enter_34 ?_
    refine lv_iload_n hx hb dX3_enter_37 rfl (lv_at hl 3 rfl) ?_
    obtain ⟨hq4, hrun⟩ := chk9 hrun
    refine va_iald hx hb hK hP 14 12 rfl rfl (ixb_in hq4) dX3_enter_38 ?_
    refine lv_istore (lv' := [(4, .int (p0_4w 4 (nn p2))), (3, .int (p0w 0 9)), (0, .ref (p0a 0)), (1, .int p1), (2, .int p2)]) hx hb dX3_enter_39 hl (by decide) rfl (fun ls hl => ?_)
    refine lv_iload hx hb dX3_enter_41 (lv_at hl 0 rfl) ?_
    refine lv_iconst (v := 1) hx hb dX3_enter_43 (by decide) ?_
    refine lv_isub hx hb dX3_enter_44 ?_
    refine lv_istore (lv' := [(5, .int ((p0_4w 4 (nn p2)) - 1)), (4, .int (p0_4w 4 (nn p2))), (3, .int (p0w 0 9)), (0, .ref (p0a 0)), (1, .int p1), (2, .int p2)]) hx hb dX3_enter_45 hl (by decide) rfl (fun ls hl => ?_)
    have L47 : ∀ (n_47 : Nat) (v5_47 : Int32) (p0w_47 : ST) (o47 : ST) (H : Heap) (locs : List Loc) (ls : Array Slot), (fX3_enter_L47 p0w n_47) v5_47 p0w_47 = some o47 → va_P (dC, dI) cls (List.flatten ([(oX3 (p0a 0) p0a p0k p0n p0w_47), (oX6 (p0a 5) p0_4a p0_4k p0_4w p0_4l)] : List va_W)) H → va_D A (List.flatten ([(oX3 (p0a 0) p0a p0k p0n p0w_47), (oX6 (p0a 5) p0_4a p0_4k p0_4w p0_4l)] : List va_W)) → va_K (dC, dI) cls (List.flatten ([(tX3 p0k), (tX6 p0_4k)] : List (List (ClassId × FieldType)))) s → va_S A s.heap H locs → lv_has ls 6 [(0, .ref (p0a 0)), (1, .int p1), (2, .int p2), (3, .int (p0w 0 9)), (5, .int v5_47)] → (∀ (H : Heap) (locs : List Loc) (ls : Array Slot), va_P (dC, dI) cls (List.flatten ([(oX3 (p0a 0) p0a p0k p0n o47), (oX6 (p0a 5) p0_4a p0_4k p0_4w p0_4l)] : List va_W)) H → va_D A (List.flatten ([(oX3 (p0a 0) p0a p0k p0n o47), (oX6 (p0a 5) p0_4a p0_4k p0_4w p0_4l)] : List va_W)) → va_K (dC, dI) cls (List.flatten ([(tX3 p0k), (tX6 p0_4k)] : List (List (ClassId × FieldType)))) s → va_S A s.heap H locs → lv_has ls 6 [(0, .ref (p0a 0)), (1, .int p1), (2, .int p2), (3, .int (p0w 0 9))] → W p l e ({ frames := 2, cells := 0, slots := 0, locals := 46 } : Room) s m ([.ref (p0a 0), .int p1, .int p2] : List Value).toArray below meth c H locs 0 0 Q (F0 m 73 ls [])) → W p l e ({ frames := 2, cells := 0, slots := 0, locals := 46 } : Room) s m ([.ref (p0a 0), .int p1, .int p2] : List Value).toArray below meth c H locs 0 0 Q (F0 m 47 ls []) := by
      intro n_47
      induction n_47 with
      | zero => intro v5_47 p0w_47 o47 H locs ls hrun; exact (no9 rfl hrun).elim
      | succ n_47 IH47 =>
        intro v5_47 p0w_47 o47 H locs ls hrun hP hD hK hS hl hk47
        unfold fX3_enter_L47 at hrun
        refine lv_iload hx hb dX3_enter_47 (lv_at hl 4 rfl) ?_
        rcases br9 hrun with ⟨hc5, hrun⟩ | ⟨hc5, hrun⟩
        · refine lv_if_lt (tgt := 73) hx hb dX3_enter_49 (by decide) (fun _ => ?_) (fun c => absurd hc5 c)
          obtain rfl := (Option.some.inj hrun)
          exact hk47 _ _ _ hP hD hK hS (lv_sub hl [0, 1, 2, 3] rfl)
        · refine lv_if_lt (tgt := 73) hx hb dX3_enter_49 (by decide) (fun c => absurd c hc5) (fun _ => ?_)
          refine lv_aload_n hx hb dX3_enter_52 rfl (lv_at hl 0 rfl) ?_
          refine va_get (D := (dC, dI)) (ci := 10) (v := .ref (p0a 15)) (C := RX3) (T := TX3) (N := 20) hx hb hts i_X3 hown hK hP 0 rfl rfl 14 (by decide) (hts _ qw889) (fun _ h9 => h9) rfl dX3_enter_53 ?_
          refine lv_iload_n hx hb dX3_enter_56 rfl (lv_at hl 3 rfl) ?_
          refine lv_iconst (v := 4) hx hb dX3_enter_57 (by decide) ?_
          refine lv_imul hx hb dX3_enter_58 ?_
          refine lv_iload hx hb dX3_enter_59 (lv_at hl 4 rfl) ?_
          refine lv_iadd hx hb dX3_enter_61 ?_
          refine lv_aload_n hx hb dX3_enter_62 rfl (lv_at hl 0 rfl) ?_
          obtain ⟨o_6, hc_6, hrun⟩ := bnd9 hrun
          have hPx : va_P (dC, dI) cls ((List.flatten ([(oX3 (p0a 0) p0a p0k p0n p0w_47)] : List va_W)) ++ (List.flatten ([(oX6 (p0a 5) p0_4a p0_4k p0_4w p0_4l)] : List va_W))) H := vP_fa (vP_perm hP (bP (List.Perm.refl _)))
          have hDx : va_D A ((List.flatten ([(oX3 (p0a 0) p0a p0k p0n p0w_47)] : List va_W)) ++ (List.flatten ([(oX6 (p0a 5) p0_4a p0_4k p0_4w p0_4l)] : List va_W))) := vD_fa (vD_perm hD (bP (List.Perm.refl _)))
          have hKx : va_K (dC, dI) cls ((List.flatten ([(tX3 p0k)] : List (List (ClassId × FieldType)))) ++ (List.flatten ([(tX6 p0_4k)] : List (List (ClassId × FieldType))))) s := vK_fa (vK_perm hK (bP (List.Perm.refl _)))
          have hPc := vP_l hPx
          have hDc := vD_l hDx
          have hKc := vK_l hKx
          have hFc := vfree hDx hS hA
          refine va_calli (va_runV (As := []) (rest := [.int (((p0w 0 9) * 4) + v5_47), .ref (p0a 15)]) ⟨hx, hb, hml, hown, hts⟩ (kX3_pop l dC dI (p0a := p0a) (p0k := p0k) (p0n := p0n) (p0w := p0w_47) (sz := _) (o := o_6) (hrun := hc_6)) (cwV 0 hts (gi_V qw930 qw931 qw932 qw903 (gi_z qw929)) rfl rfl rfl (by decide +kernel) ⟨Nat.le_of_ble_eq_true rfl, Nat.le_of_ble_eq_true rfl⟩) ⟨PRE.blind, va_recv hKc hPc (ci := 10) (q0 := 0) rfl rfl, PRE.of hE hS hFc hPc hKc hDc⟩ rfl rfl hl.1 rfl (lv_room (Nat.le_of_ble_eq_true rfl)) dX3_enter_63 ⟨(Nat.le_of_ble_eq_true rfl), (Nat.le_of_ble_eq_true rfl)⟩) hS (fun q _ h => hFc q h) hFc (fun r7 u t H locs ht hvm hw hB hz1 hk1 hS => ?_)
          obtain ⟨b1, b2, b3⟩ := hB
          rw [ht] at b1
          obtain ⟨hP, hD, hK⟩ := JOINC (wc := (List.flatten ([(oX3 (p0a 0) p0a p0k p0n p0w_47)] : List va_W))) (wr := (List.flatten ([(oX6 (p0a 5) p0_4a p0_4k p0_4w p0_4l)] : List va_W))) (w1 := (List.flatten ([(oX3 (p0a 0) p0a p0k p0n (o_6.2))] : List va_W))) (t1 := (List.flatten ([(tX3 p0k)] : List (List (ClassId × FieldType))))) hPx hDx hKx hk1 hFc b1 (va_K.moved hvm.symm b2) b3
          have hP : va_P (dC, dI) cls (List.flatten ([(oX3 (p0a 0) p0a p0k p0n (o_6.2)), (oX6 (p0a 5) p0_4a p0_4k p0_4w p0_4l)] : List va_W)) H := vP_perm (vP_fb hP) (bP (List.Perm.refl _))
          have hD : va_D A (List.flatten ([(oX3 (p0a 0) p0a p0k p0n (o_6.2)), (oX6 (p0a 5) p0_4a p0_4k p0_4w p0_4l)] : List va_W)) := vD_perm (vD_fb hD) (bP (List.Perm.refl _))
          have hK : va_K (dC, dI) cls (List.flatten ([(tX3 p0k), (tX6 p0_4k)] : List (List (ClassId × FieldType)))) s := vK_perm (vK_fb hK) (bP (List.Perm.refl _))
          obtain rfl : r7 = (o_6.1) := hw
          obtain ⟨hq8, hrun⟩ := chk9 hrun
          refine va_iast hx hb hK hP hD hS 7 6 rfl rfl (ixb_in hq8) dX3_enter_66 (fun H locs hP hD hS => ?_)
          have hP : va_P (dC, dI) cls (List.flatten ([(oX3 (p0a 0) p0a p0k p0n (upw (o_6.2) 15 (nn (((p0w 0 9) * 4) + v5_47)) (o_6.1))), (oX6 (p0a 5) p0_4a p0_4k p0_4w p0_4l)] : List va_W)) H := hP
          have hD : va_D A (List.flatten ([(oX3 (p0a 0) p0a p0k p0n (upw (o_6.2) 15 (nn (((p0w 0 9) * 4) + v5_47)) (o_6.1))), (oX6 (p0a 5) p0_4a p0_4k p0_4w p0_4l)] : List va_W)) := hD
          obtain ⟨w9, ew9, hrun⟩ := let9 hrun
          rw [← ew9] at hP hD
          refine lv_iinc (v := (v5_47 + (-1))) (lv' := [(5, .int (v5_47 + (-1))), (0, .ref (p0a 0)), (1, .int p1), (2, .int p2), (3, .int (p0w 0 9))]) hx hb dX3_enter_67 hl (k := 4) rfl rfl (by decide) rfl (fun ls hl => ?_)
          refine lv_goto (tgt := 47) hx hb dX3_enter_70 (by decide) ?_
          exact IH47 (v5_47 + (-1)) w9 o47 _ _ _ hrun hP hD hK hS (lv_sub hl [1, 2, 3, 4, 0] rfl) hk47
    obtain ⟨o47, hc47, hrun⟩ := bnd9 hrun
    refine L47 NF ((p0_4w 4 (nn p2)) - 1) w3 o47 _ _ _ hc47 hP hD hK hS (lv_sub hl [3, 4, 5, 2, 0] rfl) ?_
    intro H locs ls hP hD hK hS hl
    have hl := hl
    refine lv_aload_n hx hb dX3_enter_73 rfl (lv_at hl 0 rfl) ?_
    refine va_get (D := (dC, dI)) (ci := 10) (v := .ref (p0a 11)) (C := RX3) (T := TX3) (N := 20) hx hb hts i_X3 hown hK hP 0 rfl rfl 10 (by decide) (hts _ qw913) (fun _ h9 => h9) rfl dX3_enter_74 ?_
    refine lv_iload_n hx hb dX3_enter_77 rfl (lv_at hl 3 rfl) ?_
    refine lv_iload_n hx hb dX3_enter_78 rfl (lv_at hl 2 rfl) ?_
    obtain ⟨hq10, hrun⟩ := chk9 hrun
    refine va_iast hx hb hK hP hD hS 3 2 rfl rfl (ixb_in hq10) dX3_enter_79 (fun H locs hP hD hS => ?_)
    have hP : va_P (dC, dI) cls (List.flatten ([(oX3 (p0a 0) p0a p0k p0n (upw o47 11 (nn (p0w 0 9)) p2)), (oX6 (p0a 5) p0_4a p0_4k p0_4w p0_4l)] : List va_W)) H := hP
    have hD : va_D A (List.flatten ([(oX3 (p0a 0) p0a p0k p0n (upw o47 11 (nn (p0w 0 9)) p2)), (oX6 (p0a 5) p0_4a p0_4k p0_4w p0_4l)] : List va_W)) := hD
    obtain ⟨w11, ew11, hrun⟩ := let9 hrun
    rw [← ew11] at hP hD
    refine lv_aload_n hx hb dX3_enter_80 rfl (lv_at hl 0 rfl) ?_
    refine va_get (D := (dC, dI)) (ci := 10) (v := .ref (p0a 13)) (C := RX3) (T := TX3) (N := 20) hx hb hts i_X3 hown hK hP 0 rfl rfl 12 (by decide) (hts _ qw904) (fun _ h9 => h9) rfl dX3_enter_81 ?_
    refine lv_iload_n hx hb dX3_enter_84 rfl (lv_at hl 3 rfl) ?_
    refine lv_iconst (v := 0) hx hb dX3_enter_85 (by decide) ?_
    obtain ⟨hq12, hrun⟩ := chk9 hrun
    refine va_iast hx hb hK hP hD hS 5 4 rfl rfl (ixb_in hq12) dX3_enter_86 (fun H locs hP hD hS => ?_)
    have hP : va_P (dC, dI) cls (List.flatten ([(oX3 (p0a 0) p0a p0k p0n (upw w11 13 (nn (p0w 0 9)) 0)), (oX6 (p0a 5) p0_4a p0_4k p0_4w p0_4l)] : List va_W)) H := hP
    have hD : va_D A (List.flatten ([(oX3 (p0a 0) p0a p0k p0n (upw w11 13 (nn (p0w 0 9)) 0)), (oX6 (p0a 5) p0_4a p0_4k p0_4w p0_4l)] : List va_W)) := hD
    obtain ⟨w13, ew13, hrun⟩ := let9 hrun
    rw [← ew13] at hP hD
    refine lv_aload_n hx hb dX3_enter_87 rfl (lv_at hl 0 rfl) ?_
    refine va_get (D := (dC, dI)) (ci := 10) (v := .ref (p0a 14)) (C := RX3) (T := TX3) (N := 20) hx hb hts i_X3 hown hK hP 0 rfl rfl 13 (by decide) (hts _ qw923) (fun _ h9 => h9) rfl dX3_enter_88 ?_
    refine lv_iload_n hx hb dX3_enter_91 rfl (lv_at hl 3 rfl) ?_
    refine lv_iconst (v := (-1)) hx hb dX3_enter_92 (by decide) ?_
    obtain ⟨hq14, hrun⟩ := chk9 hrun
    refine va_iast hx hb hK hP hD hS 6 5 rfl rfl (ixb_in hq14) dX3_enter_93 (fun H locs hP hD hS => ?_)
    have hP : va_P (dC, dI) cls (List.flatten ([(oX3 (p0a 0) p0a p0k p0n (upw w13 14 (nn (p0w 0 9)) (-1))), (oX6 (p0a 5) p0_4a p0_4k p0_4w p0_4l)] : List va_W)) H := hP
    have hD : va_D A (List.flatten ([(oX3 (p0a 0) p0a p0k p0n (upw w13 14 (nn (p0w 0 9)) (-1))), (oX6 (p0a 5) p0_4a p0_4k p0_4w p0_4l)] : List va_W)) := hD
    obtain ⟨w15, ew15, hrun⟩ := let9 hrun
    rw [← ew15] at hP hD
    refine lv_aload_n hx hb dX3_enter_94 rfl (lv_at hl 0 rfl) ?_
    refine va_get (D := (dC, dI)) (ci := 10) (v := .ref (p0a 12)) (C := RX3) (T := TX3) (N := 20) hx hb hts i_X3 hown hK hP 0 rfl rfl 11 (by decide) (hts _ qw915) (fun _ h9 => h9) rfl dX3_enter_95 ?_
    refine lv_iload_n hx hb dX3_enter_98 rfl (lv_at hl 3 rfl) ?_
    refine lv_iload_n hx hb dX3_enter_99 rfl (lv_at hl 1 rfl) ?_
    have J126 : ∀ (y0_126 : Int32) (H : Heap) (locs : List Loc) (ls : Array Slot), (fX3_enter_J126 p0n p0w w15 y0_126) = some o → va_P (dC, dI) cls (List.flatten ([(oX3 (p0a 0) p0a p0k p0n w15), (oX6 (p0a 5) p0_4a p0_4k p0_4w p0_4l)] : List va_W)) H → va_D A (List.flatten ([(oX3 (p0a 0) p0a p0k p0n w15), (oX6 (p0a 5) p0_4a p0_4k p0_4w p0_4l)] : List va_W)) → va_K (dC, dI) cls (List.flatten ([(tX3 p0k), (tX6 p0_4k)] : List (List (ClassId × FieldType)))) s → va_S A s.heap H locs → lv_has ls 6 [(0, .ref (p0a 0)), (3, .int (p0w 0 9))] → W p l e ({ frames := 2, cells := 0, slots := 0, locals := 46 } : Room) s m ([.ref (p0a 0), .int p1, .int p2] : List Value).toArray below meth c H locs 0 0 Q (F0 m 126 ls [.int y0_126, .int (p0w 0 9), .ref (p0a 12)]) := by
      intro y0_126 H locs ls hrun hP hD hK hS hl 
      unfold fX3_enter_J126 at hrun
      obtain ⟨hq16, hrun⟩ := chk9 hrun
      refine va_iast hx hb hK hP hD hS 4 3 rfl rfl (ixb_in hq16) dX3_enter_126 (fun H locs hP hD hS => ?_)
      have hP : va_P (dC, dI) cls (List.flatten ([(oX3 (p0a 0) p0a p0k p0n (upw w15 12 (nn (p0w 0 9)) y0_126)), (oX6 (p0a 5) p0_4a p0_4k p0_4w p0_4l)] : List va_W)) H := hP
      have hD : va_D A (List.flatten ([(oX3 (p0a 0) p0a p0k p0n (upw w15 12 (nn (p0w 0 9)) y0_126)), (oX6 (p0a 5) p0_4a p0_4k p0_4w p0_4l)] : List va_W)) := hD
      obtain ⟨w17, ew17, hrun⟩ := let9 hrun
      rw [← ew17] at hP hD
      refine lv_aload_n hx hb dX3_enter_127 rfl (lv_at hl 0 rfl) ?_
      refine va_get (D := (dC, dI)) (ci := 10) (v := .ref (p0a 16)) (C := RX3) (T := TX3) (N := 20) hx hb hts i_X3 hown hK hP 0 rfl rfl 15 (by decide) (hts _ qw906) (fun _ h9 => h9) rfl dX3_enter_128 ?_
      refine lv_iload_n hx hb dX3_enter_131 rfl (lv_at hl 1 rfl) ?_
      refine lv_sipush (v := 320) hx hb dX3_enter_132 (by decide) ?_
      refine lv_imul hx hb dX3_enter_135 ?_
      refine lv_iload_n hx hb dX3_enter_136 rfl (lv_at hl 1 rfl) ?_
      refine lv_iconst (v := 1) hx hb dX3_enter_137 (by decide) ?_
      refine lv_iadd hx hb dX3_enter_138 ?_
      refine lv_sipush (v := 320) hx hb dX3_enter_139 (by decide) ?_
      refine lv_imul hx hb dX3_enter_142 ?_
      refine lv_iconst (v := 0) hx hb dX3_enter_143 (by decide) ?_
      obtain ⟨o_18, hc_18, hrun⟩ := bnd9 hrun
      have hP2 : va_P (dC, dI) cls (List.flatten ([[((p0a 16), .inl ((p0k 16), 2560, .inl (w17 16)))], [((p0a 0), .inr (10, [.int (w17 0 0), .int (w17 0 1), .int (w17 0 2), .ref (p0a 4), .ref (p0a 5), .ref (p0a 6), .ref (p0a 7), .ref (p0a 8), .int (w17 0 8), .int (w17 0 9), .ref (p0a 11), .ref (p0a 12), .ref (p0a 13), .ref (p0a 14), .ref (p0a 15), .ref (p0a 16), .ref (p0a 17), .int (w17 0 17), .ref (p0a 19), .int (w17 0 19)])), ((p0a 4), .inl ((p0k 4), 16, .inl (w17 4))), ((p0a 8), .inl ((p0k 8), 4, .inl (w17 8))), ((p0a 11), .inl ((p0k 11), 8, .inl (w17 11))), ((p0a 12), .inl ((p0k 12), 8, .inl (w17 12))), ((p0a 13), .inl ((p0k 13), 8, .inl (w17 13))), ((p0a 14), .inl ((p0k 14), 8, .inl (w17 14))), ((p0a 15), .inl ((p0k 15), 32, .inl (w17 15))), ((p0a 17), .inl ((p0k 17), (p0n 17), .inl (w17 17))), ((p0a 19), .inl ((p0k 19), 512, .inl (w17 19)))], (oX6 (p0a 5) p0_4a p0_4k p0_4w p0_4l)] : List va_W)) H := vP_perm hP ((bP (List.Perm.refl _)).trans (List.Perm.append_right _ (List.perm_middle (a := (((p0a 16), .inl ((p0k 16), 2560, .inl (w17 16))) : Nat × va_E)) (l₁ := ([((p0a 0), .inr (10, [.int (w17 0 0), .int (w17 0 1), .int (w17 0 2), .ref (p0a 4), .ref (p0a 5), .ref (p0a 6), .ref (p0a 7), .ref (p0a 8), .int (w17 0 8), .int (w17 0 9), .ref (p0a 11), .ref (p0a 12), .ref (p0a 13), .ref (p0a 14), .ref (p0a 15), .ref (p0a 16), .ref (p0a 17), .int (w17 0 17), .ref (p0a 19), .int (w17 0 19)])), ((p0a 4), .inl ((p0k 4), 16, .inl (w17 4))), ((p0a 8), .inl ((p0k 8), 4, .inl (w17 8))), ((p0a 11), .inl ((p0k 11), 8, .inl (w17 11))), ((p0a 12), .inl ((p0k 12), 8, .inl (w17 12))), ((p0a 13), .inl ((p0k 13), 8, .inl (w17 13))), ((p0a 14), .inl ((p0k 14), 8, .inl (w17 14))), ((p0a 15), .inl ((p0k 15), 32, .inl (w17 15)))] : va_W)) (l₂ := ([((p0a 17), .inl ((p0k 17), (p0n 17), .inl (w17 17))), ((p0a 19), .inl ((p0k 19), 512, .inl (w17 19)))] : va_W)))))
      have hD2 : va_D A (List.flatten ([[((p0a 16), .inl ((p0k 16), 2560, .inl (w17 16)))], [((p0a 0), .inr (10, [.int (w17 0 0), .int (w17 0 1), .int (w17 0 2), .ref (p0a 4), .ref (p0a 5), .ref (p0a 6), .ref (p0a 7), .ref (p0a 8), .int (w17 0 8), .int (w17 0 9), .ref (p0a 11), .ref (p0a 12), .ref (p0a 13), .ref (p0a 14), .ref (p0a 15), .ref (p0a 16), .ref (p0a 17), .int (w17 0 17), .ref (p0a 19), .int (w17 0 19)])), ((p0a 4), .inl ((p0k 4), 16, .inl (w17 4))), ((p0a 8), .inl ((p0k 8), 4, .inl (w17 8))), ((p0a 11), .inl ((p0k 11), 8, .inl (w17 11))), ((p0a 12), .inl ((p0k 12), 8, .inl (w17 12))), ((p0a 13), .inl ((p0k 13), 8, .inl (w17 13))), ((p0a 14), .inl ((p0k 14), 8, .inl (w17 14))), ((p0a 15), .inl ((p0k 15), 32, .inl (w17 15))), ((p0a 17), .inl ((p0k 17), (p0n 17), .inl (w17 17))), ((p0a 19), .inl ((p0k 19), 512, .inl (w17 19)))], (oX6 (p0a 5) p0_4a p0_4k p0_4w p0_4l)] : List va_W)) := vD_perm hD ((bP (List.Perm.refl _)).trans (List.Perm.append_right _ (List.perm_middle (a := (((p0a 16), .inl ((p0k 16), 2560, .inl (w17 16))) : Nat × va_E)) (l₁ := ([((p0a 0), .inr (10, [.int (w17 0 0), .int (w17 0 1), .int (w17 0 2), .ref (p0a 4), .ref (p0a 5), .ref (p0a 6), .ref (p0a 7), .ref (p0a 8), .int (w17 0 8), .int (w17 0 9), .ref (p0a 11), .ref (p0a 12), .ref (p0a 13), .ref (p0a 14), .ref (p0a 15), .ref (p0a 16), .ref (p0a 17), .int (w17 0 17), .ref (p0a 19), .int (w17 0 19)])), ((p0a 4), .inl ((p0k 4), 16, .inl (w17 4))), ((p0a 8), .inl ((p0k 8), 4, .inl (w17 8))), ((p0a 11), .inl ((p0k 11), 8, .inl (w17 11))), ((p0a 12), .inl ((p0k 12), 8, .inl (w17 12))), ((p0a 13), .inl ((p0k 13), 8, .inl (w17 13))), ((p0a 14), .inl ((p0k 14), 8, .inl (w17 14))), ((p0a 15), .inl ((p0k 15), 32, .inl (w17 15)))] : va_W)) (l₂ := ([((p0a 17), .inl ((p0k 17), (p0n 17), .inl (w17 17))), ((p0a 19), .inl ((p0k 19), 512, .inl (w17 19)))] : va_W)))))
      have hK2 : va_K (dC, dI) cls (List.flatten ([[((p0k 16), .int)], [((p0k 4), .int), ((p0k 8), .int), ((p0k 11), .int), ((p0k 12), .int), ((p0k 13), .int), ((p0k 14), .int), ((p0k 15), .int), ((p0k 17), .int), ((p0k 19), .int)], (tX6 p0_4k)] : List (List (ClassId × FieldType)))) s := vK_perm hK ((bP (List.Perm.refl _)).trans (List.Perm.append_right _ (List.perm_middle (a := (((p0k 16), .int) : ClassId × FieldType)) (l₁ := ([((p0k 4), .int), ((p0k 8), .int), ((p0k 11), .int), ((p0k 12), .int), ((p0k 13), .int), ((p0k 14), .int), ((p0k 15), .int)] : List (ClassId × FieldType))) (l₂ := ([((p0k 17), .int), ((p0k 19), .int)] : List (ClassId × FieldType))))))
      have hPx : va_P (dC, dI) cls ((List.flatten ([[((p0a 16), .inl ((p0k 16), 2560, .inl (w17 16)))]] : List va_W)) ++ (List.flatten ([[((p0a 0), .inr (10, [.int (w17 0 0), .int (w17 0 1), .int (w17 0 2), .ref (p0a 4), .ref (p0a 5), .ref (p0a 6), .ref (p0a 7), .ref (p0a 8), .int (w17 0 8), .int (w17 0 9), .ref (p0a 11), .ref (p0a 12), .ref (p0a 13), .ref (p0a 14), .ref (p0a 15), .ref (p0a 16), .ref (p0a 17), .int (w17 0 17), .ref (p0a 19), .int (w17 0 19)])), ((p0a 4), .inl ((p0k 4), 16, .inl (w17 4))), ((p0a 8), .inl ((p0k 8), 4, .inl (w17 8))), ((p0a 11), .inl ((p0k 11), 8, .inl (w17 11))), ((p0a 12), .inl ((p0k 12), 8, .inl (w17 12))), ((p0a 13), .inl ((p0k 13), 8, .inl (w17 13))), ((p0a 14), .inl ((p0k 14), 8, .inl (w17 14))), ((p0a 15), .inl ((p0k 15), 32, .inl (w17 15))), ((p0a 17), .inl ((p0k 17), (p0n 17), .inl (w17 17))), ((p0a 19), .inl ((p0k 19), 512, .inl (w17 19)))], (oX6 (p0a 5) p0_4a p0_4k p0_4w p0_4l)] : List va_W))) H := vP_fa (vP_perm hP2 (bP (List.Perm.refl _)))
      have hDx : va_D A ((List.flatten ([[((p0a 16), .inl ((p0k 16), 2560, .inl (w17 16)))]] : List va_W)) ++ (List.flatten ([[((p0a 0), .inr (10, [.int (w17 0 0), .int (w17 0 1), .int (w17 0 2), .ref (p0a 4), .ref (p0a 5), .ref (p0a 6), .ref (p0a 7), .ref (p0a 8), .int (w17 0 8), .int (w17 0 9), .ref (p0a 11), .ref (p0a 12), .ref (p0a 13), .ref (p0a 14), .ref (p0a 15), .ref (p0a 16), .ref (p0a 17), .int (w17 0 17), .ref (p0a 19), .int (w17 0 19)])), ((p0a 4), .inl ((p0k 4), 16, .inl (w17 4))), ((p0a 8), .inl ((p0k 8), 4, .inl (w17 8))), ((p0a 11), .inl ((p0k 11), 8, .inl (w17 11))), ((p0a 12), .inl ((p0k 12), 8, .inl (w17 12))), ((p0a 13), .inl ((p0k 13), 8, .inl (w17 13))), ((p0a 14), .inl ((p0k 14), 8, .inl (w17 14))), ((p0a 15), .inl ((p0k 15), 32, .inl (w17 15))), ((p0a 17), .inl ((p0k 17), (p0n 17), .inl (w17 17))), ((p0a 19), .inl ((p0k 19), 512, .inl (w17 19)))], (oX6 (p0a 5) p0_4a p0_4k p0_4w p0_4l)] : List va_W))) := vD_fa (vD_perm hD2 (bP (List.Perm.refl _)))
      have hKx : va_K (dC, dI) cls ((List.flatten ([[((p0k 16), .int)]] : List (List (ClassId × FieldType)))) ++ (List.flatten ([[((p0k 4), .int), ((p0k 8), .int), ((p0k 11), .int), ((p0k 12), .int), ((p0k 13), .int), ((p0k 14), .int), ((p0k 15), .int), ((p0k 17), .int), ((p0k 19), .int)], (tX6 p0_4k)] : List (List (ClassId × FieldType))))) s := vK_fa (vK_perm hK2 (bP (List.Perm.refl _)))
      have hPc := vP_l hPx
      have hDc := vD_l hDx
      have hKc := vK_l hKx
      have hFc := vfree hDx hS hA
      refine va_callv (va_runS (As := [.ref (p0a 16), .int ((p0w 0 9) * 320), .int (((p0w 0 9) + 1) * 320), .int 0]) (rest := []) ⟨hx, hb, hml, hown, hts⟩ (kJ7_fill_fda19 l dC dI (p0a := (p0a 16)) (p0k := (p0k 16)) (p0n := 2560) (p0f := (w17 16)) (p1 := ((p0w 0 9) * 320)) (p2 := (((p0w 0 9) + 1) * 320)) (p3 := 0) (sz := _) (o := o_18) (hrun := hc_18)) (va_cwS 4 hts (gi_S qw934 qw281 qw109 (gi_z qw279)) rfl rfl rfl (by decide +kernel) ⟨Nat.le_of_ble_eq_true rfl, Nat.le_of_ble_eq_true rfl⟩) ⟨PRE.blind, PRE.of hE hS hFc hPc hKc hDc⟩ rfl rfl hl.1 rfl (lv_room (Nat.le_of_ble_eq_true rfl)) dX3_enter_144 ⟨(Nat.le_of_ble_eq_true rfl), (Nat.le_of_ble_eq_true rfl)⟩) hS (fun q _ h => hFc q h) hFc (fun u t H locs ht hvm hw hB hz1 hk1 hS => ?_)
      obtain ⟨b1, b2, b3⟩ := hB
      rw [ht] at b1
      obtain ⟨hP, hD, hK⟩ := JOINC (wc := (List.flatten ([[((p0a 16), .inl ((p0k 16), 2560, .inl (w17 16)))]] : List va_W))) (wr := (List.flatten ([[((p0a 0), .inr (10, [.int (w17 0 0), .int (w17 0 1), .int (w17 0 2), .ref (p0a 4), .ref (p0a 5), .ref (p0a 6), .ref (p0a 7), .ref (p0a 8), .int (w17 0 8), .int (w17 0 9), .ref (p0a 11), .ref (p0a 12), .ref (p0a 13), .ref (p0a 14), .ref (p0a 15), .ref (p0a 16), .ref (p0a 17), .int (w17 0 17), .ref (p0a 19), .int (w17 0 19)])), ((p0a 4), .inl ((p0k 4), 16, .inl (w17 4))), ((p0a 8), .inl ((p0k 8), 4, .inl (w17 8))), ((p0a 11), .inl ((p0k 11), 8, .inl (w17 11))), ((p0a 12), .inl ((p0k 12), 8, .inl (w17 12))), ((p0a 13), .inl ((p0k 13), 8, .inl (w17 13))), ((p0a 14), .inl ((p0k 14), 8, .inl (w17 14))), ((p0a 15), .inl ((p0k 15), 32, .inl (w17 15))), ((p0a 17), .inl ((p0k 17), (p0n 17), .inl (w17 17))), ((p0a 19), .inl ((p0k 19), 512, .inl (w17 19)))], (oX6 (p0a 5) p0_4a p0_4k p0_4w p0_4l)] : List va_W))) (w1 := (List.flatten ([[((p0a 16), .inl ((p0k 16), 2560, .inl ((srw w17 16 o_18) 16)))]] : List va_W))) (t1 := (List.flatten ([[((p0k 16), .int)]] : List (List (ClassId × FieldType))))) hPx hDx hKx hk1 hFc b1 (va_K.moved hvm.symm b2) b3
      have hP3 : va_P (dC, dI) cls (List.flatten ([(oX3 (p0a 0) p0a p0k p0n (srw w17 16 o_18)), (oX6 (p0a 5) p0_4a p0_4k p0_4w p0_4l)] : List va_W)) H := vP_perm (vP_fb hP) ((bP (List.Perm.refl _)).trans (List.Perm.append_right _ (List.perm_middle (a := (((p0a 16), .inl ((p0k 16), 2560, .inl ((srw w17 16 o_18) 16))) : Nat × va_E)) (l₁ := ([((p0a 0), .inr (10, [.int ((srw w17 16 o_18) 0 0), .int ((srw w17 16 o_18) 0 1), .int ((srw w17 16 o_18) 0 2), .ref (p0a 4), .ref (p0a 5), .ref (p0a 6), .ref (p0a 7), .ref (p0a 8), .int ((srw w17 16 o_18) 0 8), .int ((srw w17 16 o_18) 0 9), .ref (p0a 11), .ref (p0a 12), .ref (p0a 13), .ref (p0a 14), .ref (p0a 15), .ref (p0a 16), .ref (p0a 17), .int ((srw w17 16 o_18) 0 17), .ref (p0a 19), .int ((srw w17 16 o_18) 0 19)])), ((p0a 4), .inl ((p0k 4), 16, .inl ((srw w17 16 o_18) 4))), ((p0a 8), .inl ((p0k 8), 4, .inl ((srw w17 16 o_18) 8))), ((p0a 11), .inl ((p0k 11), 8, .inl ((srw w17 16 o_18) 11))), ((p0a 12), .inl ((p0k 12), 8, .inl ((srw w17 16 o_18) 12))), ((p0a 13), .inl ((p0k 13), 8, .inl ((srw w17 16 o_18) 13))), ((p0a 14), .inl ((p0k 14), 8, .inl ((srw w17 16 o_18) 14))), ((p0a 15), .inl ((p0k 15), 32, .inl ((srw w17 16 o_18) 15)))] : va_W)) (l₂ := ([((p0a 17), .inl ((p0k 17), (p0n 17), .inl ((srw w17 16 o_18) 17))), ((p0a 19), .inl ((p0k 19), 512, .inl ((srw w17 16 o_18) 19)))] : va_W))).symm))
      have hD3 : va_D A (List.flatten ([(oX3 (p0a 0) p0a p0k p0n (srw w17 16 o_18)), (oX6 (p0a 5) p0_4a p0_4k p0_4w p0_4l)] : List va_W)) := vD_perm (vD_fb hD) ((bP (List.Perm.refl _)).trans (List.Perm.append_right _ (List.perm_middle (a := (((p0a 16), .inl ((p0k 16), 2560, .inl ((srw w17 16 o_18) 16))) : Nat × va_E)) (l₁ := ([((p0a 0), .inr (10, [.int ((srw w17 16 o_18) 0 0), .int ((srw w17 16 o_18) 0 1), .int ((srw w17 16 o_18) 0 2), .ref (p0a 4), .ref (p0a 5), .ref (p0a 6), .ref (p0a 7), .ref (p0a 8), .int ((srw w17 16 o_18) 0 8), .int ((srw w17 16 o_18) 0 9), .ref (p0a 11), .ref (p0a 12), .ref (p0a 13), .ref (p0a 14), .ref (p0a 15), .ref (p0a 16), .ref (p0a 17), .int ((srw w17 16 o_18) 0 17), .ref (p0a 19), .int ((srw w17 16 o_18) 0 19)])), ((p0a 4), .inl ((p0k 4), 16, .inl ((srw w17 16 o_18) 4))), ((p0a 8), .inl ((p0k 8), 4, .inl ((srw w17 16 o_18) 8))), ((p0a 11), .inl ((p0k 11), 8, .inl ((srw w17 16 o_18) 11))), ((p0a 12), .inl ((p0k 12), 8, .inl ((srw w17 16 o_18) 12))), ((p0a 13), .inl ((p0k 13), 8, .inl ((srw w17 16 o_18) 13))), ((p0a 14), .inl ((p0k 14), 8, .inl ((srw w17 16 o_18) 14))), ((p0a 15), .inl ((p0k 15), 32, .inl ((srw w17 16 o_18) 15)))] : va_W)) (l₂ := ([((p0a 17), .inl ((p0k 17), (p0n 17), .inl ((srw w17 16 o_18) 17))), ((p0a 19), .inl ((p0k 19), 512, .inl ((srw w17 16 o_18) 19)))] : va_W))).symm))
      have hK3 : va_K (dC, dI) cls (List.flatten ([(tX3 p0k), (tX6 p0_4k)] : List (List (ClassId × FieldType)))) s := vK_perm (vK_fb hK) ((bP (List.Perm.refl _)).trans (List.Perm.append_right _ (List.perm_middle (a := (((p0k 16), .int) : ClassId × FieldType)) (l₁ := ([((p0k 4), .int), ((p0k 8), .int), ((p0k 11), .int), ((p0k 12), .int), ((p0k 13), .int), ((p0k 14), .int), ((p0k 15), .int)] : List (ClassId × FieldType))) (l₂ := ([((p0k 17), .int), ((p0k 19), .int)] : List (ClassId × FieldType)))).symm))
      have hP : va_P (dC, dI) cls (List.flatten ([(oX3 (p0a 0) p0a p0k p0n (srw w17 16 o_18)), (oX6 (p0a 5) p0_4a p0_4k p0_4w p0_4l)] : List va_W)) H := vP_perm hP3 (bP (List.Perm.refl _))
      have hD : va_D A (List.flatten ([(oX3 (p0a 0) p0a p0k p0n (srw w17 16 o_18)), (oX6 (p0a 5) p0_4a p0_4k p0_4w p0_4l)] : List va_W)) := vD_perm hD3 (bP (List.Perm.refl _))
      have hK : va_K (dC, dI) cls (List.flatten ([(tX3 p0k), (tX6 p0_4k)] : List (List (ClassId × FieldType)))) s := vK_perm hK3 (bP (List.Perm.refl _))
      refine lv_aload_n hx hb dX3_enter_147 rfl (lv_at hl 0 rfl) ?_
      refine va_get (D := (dC, dI)) (ci := 10) (v := .ref (p0a 17)) (C := RX3) (T := TX3) (N := 20) hx hb hts i_X3 hown hK hP 0 rfl rfl 16 (by decide) (hts _ qw935) (fun _ h9 => h9) rfl dX3_enter_148 ?_
      refine lv_iload_n hx hb dX3_enter_151 rfl (lv_at hl 1 rfl) ?_
      refine lv_aload_n hx hb dX3_enter_152 rfl (lv_at hl 0 rfl) ?_
      refine va_get (D := (dC, dI)) (ci := 10) (v := .int ((srw w17 16 o_18) 0 17)) (C := RX3) (T := TX3) (N := 20) hx hb hts i_X3 hown hK hP 0 rfl rfl 17 (by decide) (hts _ qw936) (fun _ h9 => h9) rfl dX3_enter_153 ?_
      refine lv_imul hx hb dX3_enter_156 ?_
      refine lv_iload_n hx hb dX3_enter_157 rfl (lv_at hl 1 rfl) ?_
      refine lv_iconst (v := 1) hx hb dX3_enter_158 (by decide) ?_
      refine lv_iadd hx hb dX3_enter_159 ?_
      refine lv_aload_n hx hb dX3_enter_160 rfl (lv_at hl 0 rfl) ?_
      refine va_get (D := (dC, dI)) (ci := 10) (v := .int ((srw w17 16 o_18) 0 17)) (C := RX3) (T := TX3) (N := 20) hx hb hts i_X3 hown hK hP 0 rfl rfl 17 (by decide) (hts _ qw936) (fun _ h9 => h9) rfl dX3_enter_161 ?_
      refine lv_imul hx hb dX3_enter_164 ?_
      refine lv_iconst (v := 0) hx hb dX3_enter_165 (by decide) ?_
      obtain ⟨o_19, hc_19, hrun⟩ := bnd9 hrun
      have hP2 : va_P (dC, dI) cls (List.flatten ([[((p0a 17), .inl ((p0k 17), (p0n 17), .inl ((srw w17 16 o_18) 17)))], [((p0a 0), .inr (10, [.int ((srw w17 16 o_18) 0 0), .int ((srw w17 16 o_18) 0 1), .int ((srw w17 16 o_18) 0 2), .ref (p0a 4), .ref (p0a 5), .ref (p0a 6), .ref (p0a 7), .ref (p0a 8), .int ((srw w17 16 o_18) 0 8), .int ((srw w17 16 o_18) 0 9), .ref (p0a 11), .ref (p0a 12), .ref (p0a 13), .ref (p0a 14), .ref (p0a 15), .ref (p0a 16), .ref (p0a 17), .int ((srw w17 16 o_18) 0 17), .ref (p0a 19), .int ((srw w17 16 o_18) 0 19)])), ((p0a 4), .inl ((p0k 4), 16, .inl ((srw w17 16 o_18) 4))), ((p0a 8), .inl ((p0k 8), 4, .inl ((srw w17 16 o_18) 8))), ((p0a 11), .inl ((p0k 11), 8, .inl ((srw w17 16 o_18) 11))), ((p0a 12), .inl ((p0k 12), 8, .inl ((srw w17 16 o_18) 12))), ((p0a 13), .inl ((p0k 13), 8, .inl ((srw w17 16 o_18) 13))), ((p0a 14), .inl ((p0k 14), 8, .inl ((srw w17 16 o_18) 14))), ((p0a 15), .inl ((p0k 15), 32, .inl ((srw w17 16 o_18) 15))), ((p0a 16), .inl ((p0k 16), 2560, .inl ((srw w17 16 o_18) 16))), ((p0a 19), .inl ((p0k 19), 512, .inl ((srw w17 16 o_18) 19)))], (oX6 (p0a 5) p0_4a p0_4k p0_4w p0_4l)] : List va_W)) H := vP_perm hP ((bP (List.Perm.refl _)).trans (List.Perm.append_right _ (List.perm_middle (a := (((p0a 17), .inl ((p0k 17), (p0n 17), .inl ((srw w17 16 o_18) 17))) : Nat × va_E)) (l₁ := ([((p0a 0), .inr (10, [.int ((srw w17 16 o_18) 0 0), .int ((srw w17 16 o_18) 0 1), .int ((srw w17 16 o_18) 0 2), .ref (p0a 4), .ref (p0a 5), .ref (p0a 6), .ref (p0a 7), .ref (p0a 8), .int ((srw w17 16 o_18) 0 8), .int ((srw w17 16 o_18) 0 9), .ref (p0a 11), .ref (p0a 12), .ref (p0a 13), .ref (p0a 14), .ref (p0a 15), .ref (p0a 16), .ref (p0a 17), .int ((srw w17 16 o_18) 0 17), .ref (p0a 19), .int ((srw w17 16 o_18) 0 19)])), ((p0a 4), .inl ((p0k 4), 16, .inl ((srw w17 16 o_18) 4))), ((p0a 8), .inl ((p0k 8), 4, .inl ((srw w17 16 o_18) 8))), ((p0a 11), .inl ((p0k 11), 8, .inl ((srw w17 16 o_18) 11))), ((p0a 12), .inl ((p0k 12), 8, .inl ((srw w17 16 o_18) 12))), ((p0a 13), .inl ((p0k 13), 8, .inl ((srw w17 16 o_18) 13))), ((p0a 14), .inl ((p0k 14), 8, .inl ((srw w17 16 o_18) 14))), ((p0a 15), .inl ((p0k 15), 32, .inl ((srw w17 16 o_18) 15))), ((p0a 16), .inl ((p0k 16), 2560, .inl ((srw w17 16 o_18) 16)))] : va_W)) (l₂ := ([((p0a 19), .inl ((p0k 19), 512, .inl ((srw w17 16 o_18) 19)))] : va_W)))))
      have hD2 : va_D A (List.flatten ([[((p0a 17), .inl ((p0k 17), (p0n 17), .inl ((srw w17 16 o_18) 17)))], [((p0a 0), .inr (10, [.int ((srw w17 16 o_18) 0 0), .int ((srw w17 16 o_18) 0 1), .int ((srw w17 16 o_18) 0 2), .ref (p0a 4), .ref (p0a 5), .ref (p0a 6), .ref (p0a 7), .ref (p0a 8), .int ((srw w17 16 o_18) 0 8), .int ((srw w17 16 o_18) 0 9), .ref (p0a 11), .ref (p0a 12), .ref (p0a 13), .ref (p0a 14), .ref (p0a 15), .ref (p0a 16), .ref (p0a 17), .int ((srw w17 16 o_18) 0 17), .ref (p0a 19), .int ((srw w17 16 o_18) 0 19)])), ((p0a 4), .inl ((p0k 4), 16, .inl ((srw w17 16 o_18) 4))), ((p0a 8), .inl ((p0k 8), 4, .inl ((srw w17 16 o_18) 8))), ((p0a 11), .inl ((p0k 11), 8, .inl ((srw w17 16 o_18) 11))), ((p0a 12), .inl ((p0k 12), 8, .inl ((srw w17 16 o_18) 12))), ((p0a 13), .inl ((p0k 13), 8, .inl ((srw w17 16 o_18) 13))), ((p0a 14), .inl ((p0k 14), 8, .inl ((srw w17 16 o_18) 14))), ((p0a 15), .inl ((p0k 15), 32, .inl ((srw w17 16 o_18) 15))), ((p0a 16), .inl ((p0k 16), 2560, .inl ((srw w17 16 o_18) 16))), ((p0a 19), .inl ((p0k 19), 512, .inl ((srw w17 16 o_18) 19)))], (oX6 (p0a 5) p0_4a p0_4k p0_4w p0_4l)] : List va_W)) := vD_perm hD ((bP (List.Perm.refl _)).trans (List.Perm.append_right _ (List.perm_middle (a := (((p0a 17), .inl ((p0k 17), (p0n 17), .inl ((srw w17 16 o_18) 17))) : Nat × va_E)) (l₁ := ([((p0a 0), .inr (10, [.int ((srw w17 16 o_18) 0 0), .int ((srw w17 16 o_18) 0 1), .int ((srw w17 16 o_18) 0 2), .ref (p0a 4), .ref (p0a 5), .ref (p0a 6), .ref (p0a 7), .ref (p0a 8), .int ((srw w17 16 o_18) 0 8), .int ((srw w17 16 o_18) 0 9), .ref (p0a 11), .ref (p0a 12), .ref (p0a 13), .ref (p0a 14), .ref (p0a 15), .ref (p0a 16), .ref (p0a 17), .int ((srw w17 16 o_18) 0 17), .ref (p0a 19), .int ((srw w17 16 o_18) 0 19)])), ((p0a 4), .inl ((p0k 4), 16, .inl ((srw w17 16 o_18) 4))), ((p0a 8), .inl ((p0k 8), 4, .inl ((srw w17 16 o_18) 8))), ((p0a 11), .inl ((p0k 11), 8, .inl ((srw w17 16 o_18) 11))), ((p0a 12), .inl ((p0k 12), 8, .inl ((srw w17 16 o_18) 12))), ((p0a 13), .inl ((p0k 13), 8, .inl ((srw w17 16 o_18) 13))), ((p0a 14), .inl ((p0k 14), 8, .inl ((srw w17 16 o_18) 14))), ((p0a 15), .inl ((p0k 15), 32, .inl ((srw w17 16 o_18) 15))), ((p0a 16), .inl ((p0k 16), 2560, .inl ((srw w17 16 o_18) 16)))] : va_W)) (l₂ := ([((p0a 19), .inl ((p0k 19), 512, .inl ((srw w17 16 o_18) 19)))] : va_W)))))
      have hK2 : va_K (dC, dI) cls (List.flatten ([[((p0k 17), .int)], [((p0k 4), .int), ((p0k 8), .int), ((p0k 11), .int), ((p0k 12), .int), ((p0k 13), .int), ((p0k 14), .int), ((p0k 15), .int), ((p0k 16), .int), ((p0k 19), .int)], (tX6 p0_4k)] : List (List (ClassId × FieldType)))) s := vK_perm hK ((bP (List.Perm.refl _)).trans (List.Perm.append_right _ (List.perm_middle (a := (((p0k 17), .int) : ClassId × FieldType)) (l₁ := ([((p0k 4), .int), ((p0k 8), .int), ((p0k 11), .int), ((p0k 12), .int), ((p0k 13), .int), ((p0k 14), .int), ((p0k 15), .int), ((p0k 16), .int)] : List (ClassId × FieldType))) (l₂ := ([((p0k 19), .int)] : List (ClassId × FieldType))))))
      have hPx : va_P (dC, dI) cls ((List.flatten ([[((p0a 17), .inl ((p0k 17), (p0n 17), .inl ((srw w17 16 o_18) 17)))]] : List va_W)) ++ (List.flatten ([[((p0a 0), .inr (10, [.int ((srw w17 16 o_18) 0 0), .int ((srw w17 16 o_18) 0 1), .int ((srw w17 16 o_18) 0 2), .ref (p0a 4), .ref (p0a 5), .ref (p0a 6), .ref (p0a 7), .ref (p0a 8), .int ((srw w17 16 o_18) 0 8), .int ((srw w17 16 o_18) 0 9), .ref (p0a 11), .ref (p0a 12), .ref (p0a 13), .ref (p0a 14), .ref (p0a 15), .ref (p0a 16), .ref (p0a 17), .int ((srw w17 16 o_18) 0 17), .ref (p0a 19), .int ((srw w17 16 o_18) 0 19)])), ((p0a 4), .inl ((p0k 4), 16, .inl ((srw w17 16 o_18) 4))), ((p0a 8), .inl ((p0k 8), 4, .inl ((srw w17 16 o_18) 8))), ((p0a 11), .inl ((p0k 11), 8, .inl ((srw w17 16 o_18) 11))), ((p0a 12), .inl ((p0k 12), 8, .inl ((srw w17 16 o_18) 12))), ((p0a 13), .inl ((p0k 13), 8, .inl ((srw w17 16 o_18) 13))), ((p0a 14), .inl ((p0k 14), 8, .inl ((srw w17 16 o_18) 14))), ((p0a 15), .inl ((p0k 15), 32, .inl ((srw w17 16 o_18) 15))), ((p0a 16), .inl ((p0k 16), 2560, .inl ((srw w17 16 o_18) 16))), ((p0a 19), .inl ((p0k 19), 512, .inl ((srw w17 16 o_18) 19)))], (oX6 (p0a 5) p0_4a p0_4k p0_4w p0_4l)] : List va_W))) H := vP_fa (vP_perm hP2 (bP (List.Perm.refl _)))
      have hDx : va_D A ((List.flatten ([[((p0a 17), .inl ((p0k 17), (p0n 17), .inl ((srw w17 16 o_18) 17)))]] : List va_W)) ++ (List.flatten ([[((p0a 0), .inr (10, [.int ((srw w17 16 o_18) 0 0), .int ((srw w17 16 o_18) 0 1), .int ((srw w17 16 o_18) 0 2), .ref (p0a 4), .ref (p0a 5), .ref (p0a 6), .ref (p0a 7), .ref (p0a 8), .int ((srw w17 16 o_18) 0 8), .int ((srw w17 16 o_18) 0 9), .ref (p0a 11), .ref (p0a 12), .ref (p0a 13), .ref (p0a 14), .ref (p0a 15), .ref (p0a 16), .ref (p0a 17), .int ((srw w17 16 o_18) 0 17), .ref (p0a 19), .int ((srw w17 16 o_18) 0 19)])), ((p0a 4), .inl ((p0k 4), 16, .inl ((srw w17 16 o_18) 4))), ((p0a 8), .inl ((p0k 8), 4, .inl ((srw w17 16 o_18) 8))), ((p0a 11), .inl ((p0k 11), 8, .inl ((srw w17 16 o_18) 11))), ((p0a 12), .inl ((p0k 12), 8, .inl ((srw w17 16 o_18) 12))), ((p0a 13), .inl ((p0k 13), 8, .inl ((srw w17 16 o_18) 13))), ((p0a 14), .inl ((p0k 14), 8, .inl ((srw w17 16 o_18) 14))), ((p0a 15), .inl ((p0k 15), 32, .inl ((srw w17 16 o_18) 15))), ((p0a 16), .inl ((p0k 16), 2560, .inl ((srw w17 16 o_18) 16))), ((p0a 19), .inl ((p0k 19), 512, .inl ((srw w17 16 o_18) 19)))], (oX6 (p0a 5) p0_4a p0_4k p0_4w p0_4l)] : List va_W))) := vD_fa (vD_perm hD2 (bP (List.Perm.refl _)))
      have hKx : va_K (dC, dI) cls ((List.flatten ([[((p0k 17), .int)]] : List (List (ClassId × FieldType)))) ++ (List.flatten ([[((p0k 4), .int), ((p0k 8), .int), ((p0k 11), .int), ((p0k 12), .int), ((p0k 13), .int), ((p0k 14), .int), ((p0k 15), .int), ((p0k 16), .int), ((p0k 19), .int)], (tX6 p0_4k)] : List (List (ClassId × FieldType))))) s := vK_fa (vK_perm hK2 (bP (List.Perm.refl _)))
      have hPc := vP_l hPx
      have hDc := vD_l hDx
      have hKc := vK_l hKx
      have hFc := vfree hDx hS hA
      refine va_callv (va_runS (As := [.ref (p0a 17), .int ((p0w 0 9) * ((srw w17 16 o_18) 0 17)), .int (((p0w 0 9) + 1) * ((srw w17 16 o_18) 0 17)), .int 0]) (rest := []) ⟨hx, hb, hml, hown, hts⟩ (kJ7_fill_fda19 l dC dI (p0a := (p0a 17)) (p0k := (p0k 17)) (p0n := (p0n 17)) (p0f := ((srw w17 16 o_18) 17)) (p1 := ((p0w 0 9) * ((srw w17 16 o_18) 0 17))) (p2 := (((p0w 0 9) + 1) * ((srw w17 16 o_18) 0 17))) (p3 := 0) (sz := _) (o := o_19) (hrun := hc_19)) (va_cwS 4 hts (gi_S qw934 qw281 qw109 (gi_z qw279)) rfl rfl rfl (by decide +kernel) ⟨Nat.le_of_ble_eq_true rfl, Nat.le_of_ble_eq_true rfl⟩) ⟨PRE.blind, PRE.of hE hS hFc hPc hKc hDc⟩ rfl rfl hl.1 rfl (lv_room (Nat.le_of_ble_eq_true rfl)) dX3_enter_166 ⟨(Nat.le_of_ble_eq_true rfl), (Nat.le_of_ble_eq_true rfl)⟩) hS (fun q _ h => hFc q h) hFc (fun u t H locs ht hvm hw hB hz1 hk1 hS => ?_)
      obtain ⟨b1, b2, b3⟩ := hB
      rw [ht] at b1
      obtain ⟨hP, hD, hK⟩ := JOINC (wc := (List.flatten ([[((p0a 17), .inl ((p0k 17), (p0n 17), .inl ((srw w17 16 o_18) 17)))]] : List va_W))) (wr := (List.flatten ([[((p0a 0), .inr (10, [.int ((srw w17 16 o_18) 0 0), .int ((srw w17 16 o_18) 0 1), .int ((srw w17 16 o_18) 0 2), .ref (p0a 4), .ref (p0a 5), .ref (p0a 6), .ref (p0a 7), .ref (p0a 8), .int ((srw w17 16 o_18) 0 8), .int ((srw w17 16 o_18) 0 9), .ref (p0a 11), .ref (p0a 12), .ref (p0a 13), .ref (p0a 14), .ref (p0a 15), .ref (p0a 16), .ref (p0a 17), .int ((srw w17 16 o_18) 0 17), .ref (p0a 19), .int ((srw w17 16 o_18) 0 19)])), ((p0a 4), .inl ((p0k 4), 16, .inl ((srw w17 16 o_18) 4))), ((p0a 8), .inl ((p0k 8), 4, .inl ((srw w17 16 o_18) 8))), ((p0a 11), .inl ((p0k 11), 8, .inl ((srw w17 16 o_18) 11))), ((p0a 12), .inl ((p0k 12), 8, .inl ((srw w17 16 o_18) 12))), ((p0a 13), .inl ((p0k 13), 8, .inl ((srw w17 16 o_18) 13))), ((p0a 14), .inl ((p0k 14), 8, .inl ((srw w17 16 o_18) 14))), ((p0a 15), .inl ((p0k 15), 32, .inl ((srw w17 16 o_18) 15))), ((p0a 16), .inl ((p0k 16), 2560, .inl ((srw w17 16 o_18) 16))), ((p0a 19), .inl ((p0k 19), 512, .inl ((srw w17 16 o_18) 19)))], (oX6 (p0a 5) p0_4a p0_4k p0_4w p0_4l)] : List va_W))) (w1 := (List.flatten ([[((p0a 17), .inl ((p0k 17), (p0n 17), .inl ((srw (srw w17 16 o_18) 17 o_19) 17)))]] : List va_W))) (t1 := (List.flatten ([[((p0k 17), .int)]] : List (List (ClassId × FieldType))))) hPx hDx hKx hk1 hFc b1 (va_K.moved hvm.symm b2) b3
      have hP3 : va_P (dC, dI) cls (List.flatten ([(oX3 (p0a 0) p0a p0k p0n (srw (srw w17 16 o_18) 17 o_19)), (oX6 (p0a 5) p0_4a p0_4k p0_4w p0_4l)] : List va_W)) H := vP_perm (vP_fb hP) ((bP (List.Perm.refl _)).trans (List.Perm.append_right _ (List.perm_middle (a := (((p0a 17), .inl ((p0k 17), (p0n 17), .inl ((srw (srw w17 16 o_18) 17 o_19) 17))) : Nat × va_E)) (l₁ := ([((p0a 0), .inr (10, [.int ((srw (srw w17 16 o_18) 17 o_19) 0 0), .int ((srw (srw w17 16 o_18) 17 o_19) 0 1), .int ((srw (srw w17 16 o_18) 17 o_19) 0 2), .ref (p0a 4), .ref (p0a 5), .ref (p0a 6), .ref (p0a 7), .ref (p0a 8), .int ((srw (srw w17 16 o_18) 17 o_19) 0 8), .int ((srw (srw w17 16 o_18) 17 o_19) 0 9), .ref (p0a 11), .ref (p0a 12), .ref (p0a 13), .ref (p0a 14), .ref (p0a 15), .ref (p0a 16), .ref (p0a 17), .int ((srw (srw w17 16 o_18) 17 o_19) 0 17), .ref (p0a 19), .int ((srw (srw w17 16 o_18) 17 o_19) 0 19)])), ((p0a 4), .inl ((p0k 4), 16, .inl ((srw (srw w17 16 o_18) 17 o_19) 4))), ((p0a 8), .inl ((p0k 8), 4, .inl ((srw (srw w17 16 o_18) 17 o_19) 8))), ((p0a 11), .inl ((p0k 11), 8, .inl ((srw (srw w17 16 o_18) 17 o_19) 11))), ((p0a 12), .inl ((p0k 12), 8, .inl ((srw (srw w17 16 o_18) 17 o_19) 12))), ((p0a 13), .inl ((p0k 13), 8, .inl ((srw (srw w17 16 o_18) 17 o_19) 13))), ((p0a 14), .inl ((p0k 14), 8, .inl ((srw (srw w17 16 o_18) 17 o_19) 14))), ((p0a 15), .inl ((p0k 15), 32, .inl ((srw (srw w17 16 o_18) 17 o_19) 15))), ((p0a 16), .inl ((p0k 16), 2560, .inl ((srw (srw w17 16 o_18) 17 o_19) 16)))] : va_W)) (l₂ := ([((p0a 19), .inl ((p0k 19), 512, .inl ((srw (srw w17 16 o_18) 17 o_19) 19)))] : va_W))).symm))
      have hD3 : va_D A (List.flatten ([(oX3 (p0a 0) p0a p0k p0n (srw (srw w17 16 o_18) 17 o_19)), (oX6 (p0a 5) p0_4a p0_4k p0_4w p0_4l)] : List va_W)) := vD_perm (vD_fb hD) ((bP (List.Perm.refl _)).trans (List.Perm.append_right _ (List.perm_middle (a := (((p0a 17), .inl ((p0k 17), (p0n 17), .inl ((srw (srw w17 16 o_18) 17 o_19) 17))) : Nat × va_E)) (l₁ := ([((p0a 0), .inr (10, [.int ((srw (srw w17 16 o_18) 17 o_19) 0 0), .int ((srw (srw w17 16 o_18) 17 o_19) 0 1), .int ((srw (srw w17 16 o_18) 17 o_19) 0 2), .ref (p0a 4), .ref (p0a 5), .ref (p0a 6), .ref (p0a 7), .ref (p0a 8), .int ((srw (srw w17 16 o_18) 17 o_19) 0 8), .int ((srw (srw w17 16 o_18) 17 o_19) 0 9), .ref (p0a 11), .ref (p0a 12), .ref (p0a 13), .ref (p0a 14), .ref (p0a 15), .ref (p0a 16), .ref (p0a 17), .int ((srw (srw w17 16 o_18) 17 o_19) 0 17), .ref (p0a 19), .int ((srw (srw w17 16 o_18) 17 o_19) 0 19)])), ((p0a 4), .inl ((p0k 4), 16, .inl ((srw (srw w17 16 o_18) 17 o_19) 4))), ((p0a 8), .inl ((p0k 8), 4, .inl ((srw (srw w17 16 o_18) 17 o_19) 8))), ((p0a 11), .inl ((p0k 11), 8, .inl ((srw (srw w17 16 o_18) 17 o_19) 11))), ((p0a 12), .inl ((p0k 12), 8, .inl ((srw (srw w17 16 o_18) 17 o_19) 12))), ((p0a 13), .inl ((p0k 13), 8, .inl ((srw (srw w17 16 o_18) 17 o_19) 13))), ((p0a 14), .inl ((p0k 14), 8, .inl ((srw (srw w17 16 o_18) 17 o_19) 14))), ((p0a 15), .inl ((p0k 15), 32, .inl ((srw (srw w17 16 o_18) 17 o_19) 15))), ((p0a 16), .inl ((p0k 16), 2560, .inl ((srw (srw w17 16 o_18) 17 o_19) 16)))] : va_W)) (l₂ := ([((p0a 19), .inl ((p0k 19), 512, .inl ((srw (srw w17 16 o_18) 17 o_19) 19)))] : va_W))).symm))
      have hK3 : va_K (dC, dI) cls (List.flatten ([(tX3 p0k), (tX6 p0_4k)] : List (List (ClassId × FieldType)))) s := vK_perm (vK_fb hK) ((bP (List.Perm.refl _)).trans (List.Perm.append_right _ (List.perm_middle (a := (((p0k 17), .int) : ClassId × FieldType)) (l₁ := ([((p0k 4), .int), ((p0k 8), .int), ((p0k 11), .int), ((p0k 12), .int), ((p0k 13), .int), ((p0k 14), .int), ((p0k 15), .int), ((p0k 16), .int)] : List (ClassId × FieldType))) (l₂ := ([((p0k 19), .int)] : List (ClassId × FieldType)))).symm))
      have hP : va_P (dC, dI) cls (List.flatten ([(oX3 (p0a 0) p0a p0k p0n (srw (srw w17 16 o_18) 17 o_19)), (oX6 (p0a 5) p0_4a p0_4k p0_4w p0_4l)] : List va_W)) H := vP_perm hP3 (bP (List.Perm.refl _))
      have hD : va_D A (List.flatten ([(oX3 (p0a 0) p0a p0k p0n (srw (srw w17 16 o_18) 17 o_19)), (oX6 (p0a 5) p0_4a p0_4k p0_4w p0_4l)] : List va_W)) := vD_perm hD3 (bP (List.Perm.refl _))
      have hK : va_K (dC, dI) cls (List.flatten ([(tX3 p0k), (tX6 p0_4k)] : List (List (ClassId × FieldType)))) s := vK_perm hK3 (bP (List.Perm.refl _))
      have ho9 : (srw (srw w17 16 o_18) 17 o_19) = o := Option.some.inj hrun
      have hP9 : va_P (dC, dI) cls (List.flatten ([(oX3 (p0a 0) p0a p0k p0n o), (oX6 (p0a 5) p0_4a p0_4k p0_4w p0_4l)] : List va_W)) H := by first | exact hP | (rw [← ho9]; exact hP)
      have hD9 : va_D A (List.flatten ([(oX3 (p0a 0) p0a p0k p0n o), (oX6 (p0a 5) p0_4a p0_4k p0_4w p0_4l)] : List va_W)) := by first | exact hD | (rw [← ho9]; exact hD)
      subst hQ
      exact W.vret hx hb hr (fun t ht hW => ⟨⟨(), rfl, trivial, ⟨by rw [ht]; exact hP9, va_K.moved hW.alike hK, hD9⟩⟩, hS.F ht⟩) hS.2.2 dX3_enter_169
    rcases br9 hrun with ⟨hc20, hrun⟩ | ⟨hc20, hrun⟩
    · refine lv_if_ne (tgt := 115) hx hb dX3_enter_100 (by decide) (fun c => absurd hc20 c) (fun _ => ?_)
      refine lv_aload_n hx hb dX3_enter_103 rfl (lv_at hl 0 rfl) ?_
      refine va_get (D := (dC, dI)) (ci := 10) (v := .ref (p0a 5)) (C := RX3) (T := TX3) (N := 20) hx hb hts i_X3 hown hK hP 0 rfl rfl 4 (by decide) (hts _ qw890) (fun _ h9 => h9) rfl dX3_enter_104 ?_
      refine va_get (D := (dC, dI)) (ci := 2) (v := .ref (p0_4a 6)) (C := RX6) (T := TX6) (N := 13) hx hb hts i_X6 hown hK hP 11 rfl rfl 5 (by decide) (hts _ qw933) (fun _ h9 => h9) rfl dX3_enter_107 ?_
      refine lv_iload_n hx hb dX3_enter_110 rfl (lv_at hl 2 rfl) ?_
      obtain ⟨hq21, hrun⟩ := chk9 hrun
      refine va_iald hx hb hK hP 16 14 rfl rfl (ixb_in hq21) dX3_enter_111 ?_
      refine lv_goto (tgt := 126) hx hb dX3_enter_112 (by decide) ?_
      exact J126 (p0_4w 6 (nn p2)) _ _ _ hrun hP hD hK hS (lv_sub hl [0, 3] rfl)
    · refine lv_if_ne (tgt := 115) hx hb dX3_enter_100 (by decide) (fun _ => ?_) (fun c => absurd c hc20)
      refine lv_iload_n hx hb dX3_enter_115 rfl (lv_at hl 1 rfl) ?_
      refine lv_iconst (v := 1) hx hb dX3_enter_116 (by decide) ?_
      rcases br9 hrun with ⟨hc22, hrun⟩ | ⟨hc22, hrun⟩
      · refine lv_icmp_ne (tgt := 125) hx hb dX3_enter_117 (by decide) (fun c => absurd hc22 c) (fun _ => ?_)
        refine lv_bipush (v := (-2)) hx hb dX3_enter_120 (by decide) ?_
        refine lv_goto (tgt := 126) hx hb dX3_enter_122 (by decide) ?_
        exact J126 (-2) _ _ _ hrun hP hD hK hS (lv_sub hl [0, 3] rfl)
      · refine lv_icmp_ne (tgt := 125) hx hb dX3_enter_117 (by decide) (fun _ => ?_) (fun c => absurd c hc22)
        refine lv_iconst (v := 0) hx hb dX3_enter_125 (by decide) ?_
        exact J126 0 _ _ _ hrun hP hD hK hS (lv_sub hl [0, 3] rfl)
