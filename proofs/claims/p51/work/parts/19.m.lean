abbrev cX2_noteBlock : ByteArray := prog_4_method_4_code
def yX2_noteBlock : MethodName := ⟨RX2, "noteBlock", "(LGearbox$Flow;I)V"⟩
abbrev cJ7_fill_bad5a : ByteArray := prog_48_method_102_code
def yJ7_fill_bad5a : MethodName := ⟨RJ7, "fill", "([JIIJ)V"⟩
abbrev cX2_put : ByteArray := prog_4_method_6_code
def yX2_put : MethodName := ⟨RX2, "put", "([JII)V"⟩
abbrev cX2_noteUse : ByteArray := prog_4_method_5_code
def yX2_noteUse : MethodName := ⟨RX2, "noteUse", "(II)V"⟩
abbrev cX2_isIn : ByteArray := prog_4_method_7_code
def yX2_isIn : MethodName := ⟨RX2, "isIn", "([JII)Z"⟩
abbrev cX2_spreadLife : ByteArray := prog_4_method_8_code
def yX2_spreadLife : MethodName := ⟨RX2, "spreadLife", "(LGearbox$Flow;)V"⟩
abbrev cX2_spreadInto : ByteArray := prog_4_method_9_code
def yX2_spreadInto : MethodName := ⟨RX2, "spreadInto", "(II)Z"⟩
abbrev cX2_addLiveIn : ByteArray := prog_4_method_12_code
def yX2_addLiveIn : MethodName := ⟨RX2, "addLiveIn", "(I)V"⟩
abbrev cX2_listSteps : ByteArray := prog_4_method_11_code
def yX2_listSteps : MethodName := ⟨RX2, "listSteps", "(LGearbox$Flow;I)I"⟩
abbrev cX2_addLive : ByteArray := prog_4_method_13_code
def yX2_addLive : MethodName := ⟨RX2, "addLive", "(I)V"⟩
abbrev cX2_bitIn : ByteArray := prog_4_method_16_code
def yX2_bitIn : MethodName := ⟨RX2, "bitIn", "(II)J"⟩
theorem dJ7_fill_bad5a_0 : decode cJ7_fill_bad5a 0 = .ok (.aload_n 0, 1) := by decide +kernel
theorem dJ7_fill_bad5a_1 : decode cJ7_fill_bad5a 1 = .ok (.arraylength, 1) := by decide +kernel
theorem dJ7_fill_bad5a_2 : decode cJ7_fill_bad5a 2 = .ok (.iload_n 1, 1) := by decide +kernel
theorem dJ7_fill_bad5a_3 : decode cJ7_fill_bad5a 3 = .ok (.iload_n 2, 1) := by decide +kernel
theorem dJ7_fill_bad5a_4 : decode cJ7_fill_bad5a 4 = .ok (.invokestatic 13, 3) := by decide +kernel
theorem dJ7_fill_bad5a_7 : decode cJ7_fill_bad5a 7 = .ok (.iload_n 1, 1) := by decide +kernel
theorem dJ7_fill_bad5a_8 : decode cJ7_fill_bad5a 8 = .ok (.istore 5, 2) := by decide +kernel
theorem dJ7_fill_bad5a_10 : decode cJ7_fill_bad5a 10 = .ok (.iload 5, 2) := by decide +kernel
theorem dJ7_fill_bad5a_12 : decode cJ7_fill_bad5a 12 = .ok (.iload_n 2, 1) := by decide +kernel
theorem dJ7_fill_bad5a_13 : decode cJ7_fill_bad5a 13 = .ok (.if_icmp .ge 14, 3) := by decide +kernel
theorem dJ7_fill_bad5a_16 : decode cJ7_fill_bad5a 16 = .ok (.aload_n 0, 1) := by decide +kernel
theorem dJ7_fill_bad5a_17 : decode cJ7_fill_bad5a 17 = .ok (.iload 5, 2) := by decide +kernel
theorem dJ7_fill_bad5a_19 : decode cJ7_fill_bad5a 19 = .ok (.lload_n 3, 1) := by decide +kernel
theorem dJ7_fill_bad5a_20 : decode cJ7_fill_bad5a 20 = .ok (.lastore, 1) := by decide +kernel
theorem dJ7_fill_bad5a_21 : decode cJ7_fill_bad5a 21 = .ok (.iinc 5 1, 3) := by decide +kernel
theorem dJ7_fill_bad5a_24 : decode cJ7_fill_bad5a 24 = .ok (.goto (-14), 3) := by decide +kernel
theorem dJ7_fill_bad5a_27 : decode cJ7_fill_bad5a 27 = .ok (.return_, 1) := by decide +kernel
theorem dX2_addLive_0 : decode cX2_addLive 0 = .ok (.iload_n 1, 1) := by decide +kernel
theorem dX2_addLive_1 : decode cX2_addLive 1 = .ok (.aload_n 0, 1) := by decide +kernel
theorem dX2_addLive_2 : decode cX2_addLive 2 = .ok (.getfield 58, 3) := by decide +kernel
theorem dX2_addLive_5 : decode cX2_addLive 5 = .ok (.if_icmp .ge 14, 3) := by decide +kernel
theorem dX2_addLive_8 : decode cX2_addLive 8 = .ok (.aload_n 0, 1) := by decide +kernel
theorem dX2_addLive_9 : decode cX2_addLive 9 = .ok (.aload_n 0, 1) := by decide +kernel
theorem dX2_addLive_10 : decode cX2_addLive 10 = .ok (.getfield 21, 3) := by decide +kernel
theorem dX2_addLive_13 : decode cX2_addLive 13 = .ok (.iconst 0, 1) := by decide +kernel
theorem dX2_addLive_14 : decode cX2_addLive 14 = .ok (.iload_n 1, 1) := by decide +kernel
theorem dX2_addLive_15 : decode cX2_addLive 15 = .ok (.invokevirtual 140, 3) := by decide +kernel
theorem dX2_addLive_18 : decode cX2_addLive 18 = .ok (.return_, 1) := by decide +kernel
theorem dX2_addLive_19 : decode cX2_addLive 19 = .ok (.iconst 0, 1) := by decide +kernel
theorem dX2_addLive_20 : decode cX2_addLive 20 = .ok (.istore_n 2, 1) := by decide +kernel
theorem dX2_addLive_21 : decode cX2_addLive 21 = .ok (.iload_n 2, 1) := by decide +kernel
theorem dX2_addLive_22 : decode cX2_addLive 22 = .ok (.aload_n 0, 1) := by decide +kernel
theorem dX2_addLive_23 : decode cX2_addLive 23 = .ok (.getfield 180, 3) := by decide +kernel
theorem dX2_addLive_26 : decode cX2_addLive 26 = .ok (.if_icmp .ge 20, 3) := by decide +kernel
theorem dX2_addLive_29 : decode cX2_addLive 29 = .ok (.aload_n 0, 1) := by decide +kernel
theorem dX2_addLive_30 : decode cX2_addLive 30 = .ok (.getfield 24, 3) := by decide +kernel
theorem dX2_addLive_33 : decode cX2_addLive 33 = .ok (.iload_n 2, 1) := by decide +kernel
theorem dX2_addLive_34 : decode cX2_addLive 34 = .ok (.iaload, 1) := by decide +kernel
theorem dX2_addLive_35 : decode cX2_addLive 35 = .ok (.iload_n 1, 1) := by decide +kernel
theorem dX2_addLive_36 : decode cX2_addLive 36 = .ok (.if_icmp .ne 4, 3) := by decide +kernel
theorem dX2_addLive_39 : decode cX2_addLive 39 = .ok (.return_, 1) := by decide +kernel
theorem dX2_addLive_40 : decode cX2_addLive 40 = .ok (.iinc 2 1, 3) := by decide +kernel
theorem dX2_addLive_43 : decode cX2_addLive 43 = .ok (.goto (-22), 3) := by decide +kernel
theorem dX2_addLive_46 : decode cX2_addLive 46 = .ok (.aload_n 0, 1) := by decide +kernel
theorem dX2_addLive_47 : decode cX2_addLive 47 = .ok (.getfield 180, 3) := by decide +kernel
theorem dX2_addLive_50 : decode cX2_addLive 50 = .ok (.aload_n 0, 1) := by decide +kernel
theorem dX2_addLive_51 : decode cX2_addLive 51 = .ok (.getfield 24, 3) := by decide +kernel
theorem dX2_addLive_54 : decode cX2_addLive 54 = .ok (.arraylength, 1) := by decide +kernel
theorem dX2_addLive_55 : decode cX2_addLive 55 = .ok (.if_icmp .ge 23, 3) := by decide +kernel
theorem dX2_addLive_58 : decode cX2_addLive 58 = .ok (.aload_n 0, 1) := by decide +kernel
theorem dX2_addLive_59 : decode cX2_addLive 59 = .ok (.getfield 24, 3) := by decide +kernel
theorem dX2_addLive_62 : decode cX2_addLive 62 = .ok (.aload_n 0, 1) := by decide +kernel
theorem dX2_addLive_63 : decode cX2_addLive 63 = .ok (.getfield 180, 3) := by decide +kernel
theorem dX2_addLive_66 : decode cX2_addLive 66 = .ok (.iload_n 1, 1) := by decide +kernel
theorem dX2_addLive_67 : decode cX2_addLive 67 = .ok (.iastore, 1) := by decide +kernel
theorem dX2_addLive_68 : decode cX2_addLive 68 = .ok (.aload_n 0, 1) := by decide +kernel
theorem dX2_addLive_69 : decode cX2_addLive 69 = .ok (.dup, 1) := by decide +kernel
theorem dX2_addLive_70 : decode cX2_addLive 70 = .ok (.getfield 180, 3) := by decide +kernel
theorem dX2_addLive_73 : decode cX2_addLive 73 = .ok (.iconst 1, 1) := by decide +kernel
theorem dX2_addLive_74 : decode cX2_addLive 74 = .ok (.iadd, 1) := by decide +kernel
theorem dX2_addLive_75 : decode cX2_addLive 75 = .ok (.putfield 180, 3) := by decide +kernel
theorem dX2_addLive_78 : decode cX2_addLive 78 = .ok (.return_, 1) := by decide +kernel
theorem dX2_addLiveIn_0 : decode cX2_addLiveIn 0 = .ok (.iload_n 1, 1) := by decide +kernel
theorem dX2_addLiveIn_1 : decode cX2_addLiveIn 1 = .ok (.ifCond .lt 41, 3) := by decide +kernel
theorem dX2_addLiveIn_4 : decode cX2_addLiveIn 4 = .ok (.iconst 0, 1) := by decide +kernel
theorem dX2_addLiveIn_5 : decode cX2_addLiveIn 5 = .ok (.istore_n 2, 1) := by decide +kernel
theorem dX2_addLiveIn_6 : decode cX2_addLiveIn 6 = .ok (.iload_n 2, 1) := by decide +kernel
theorem dX2_addLiveIn_7 : decode cX2_addLiveIn 7 = .ok (.aload_n 0, 1) := by decide +kernel
theorem dX2_addLiveIn_8 : decode cX2_addLiveIn 8 = .ok (.getfield 65, 3) := by decide +kernel
theorem dX2_addLiveIn_11 : decode cX2_addLiveIn 11 = .ok (.if_icmp .ge 31, 3) := by decide +kernel
theorem dX2_addLiveIn_14 : decode cX2_addLiveIn 14 = .ok (.aload_n 0, 1) := by decide +kernel
theorem dX2_addLiveIn_15 : decode cX2_addLiveIn 15 = .ok (.getfield 21, 3) := by decide +kernel
theorem dX2_addLiveIn_18 : decode cX2_addLiveIn 18 = .ok (.iload_n 2, 1) := by decide +kernel
theorem dX2_addLiveIn_19 : decode cX2_addLiveIn 19 = .ok (.dup2, 1) := by decide +kernel
theorem dX2_addLiveIn_20 : decode cX2_addLiveIn 20 = .ok (.laload, 1) := by decide +kernel
theorem dX2_addLiveIn_21 : decode cX2_addLiveIn 21 = .ok (.aload_n 0, 1) := by decide +kernel
theorem dX2_addLiveIn_22 : decode cX2_addLiveIn 22 = .ok (.getfield 18, 3) := by decide +kernel
theorem dX2_addLiveIn_25 : decode cX2_addLiveIn 25 = .ok (.iload_n 1, 1) := by decide +kernel
theorem dX2_addLiveIn_26 : decode cX2_addLiveIn 26 = .ok (.aload_n 0, 1) := by decide +kernel
theorem dX2_addLiveIn_27 : decode cX2_addLiveIn 27 = .ok (.getfield 65, 3) := by decide +kernel
theorem dX2_addLiveIn_30 : decode cX2_addLiveIn 30 = .ok (.imul, 1) := by decide +kernel
theorem dX2_addLiveIn_31 : decode cX2_addLiveIn 31 = .ok (.iload_n 2, 1) := by decide +kernel
theorem dX2_addLiveIn_32 : decode cX2_addLiveIn 32 = .ok (.iadd, 1) := by decide +kernel
theorem dX2_addLiveIn_33 : decode cX2_addLiveIn 33 = .ok (.laload, 1) := by decide +kernel
theorem dX2_addLiveIn_34 : decode cX2_addLiveIn 34 = .ok (.lor, 1) := by decide +kernel
theorem dX2_addLiveIn_35 : decode cX2_addLiveIn 35 = .ok (.lastore, 1) := by decide +kernel
theorem dX2_addLiveIn_36 : decode cX2_addLiveIn 36 = .ok (.iinc 2 1, 3) := by decide +kernel
theorem dX2_addLiveIn_39 : decode cX2_addLiveIn 39 = .ok (.goto (-33), 3) := by decide +kernel
theorem dX2_addLiveIn_42 : decode cX2_addLiveIn 42 = .ok (.return_, 1) := by decide +kernel
theorem dX2_bitIn_0 : decode cX2_bitIn 0 = .ok (.iload_n 2, 1) := by decide +kernel
theorem dX2_bitIn_1 : decode cX2_bitIn 1 = .ok (.ifCond .lt 28, 3) := by decide +kernel
theorem dX2_bitIn_4 : decode cX2_bitIn 4 = .ok (.iload_n 2, 1) := by decide +kernel
theorem dX2_bitIn_5 : decode cX2_bitIn 5 = .ok (.aload_n 0, 1) := by decide +kernel
theorem dX2_bitIn_6 : decode cX2_bitIn 6 = .ok (.getfield 58, 3) := by decide +kernel
theorem dX2_bitIn_9 : decode cX2_bitIn 9 = .ok (.if_icmp .ge 20, 3) := by decide +kernel
theorem dX2_bitIn_12 : decode cX2_bitIn 12 = .ok (.iload_n 2, 1) := by decide +kernel
theorem dX2_bitIn_13 : decode cX2_bitIn 13 = .ok (.bipush 6, 2) := by decide +kernel
theorem dX2_bitIn_15 : decode cX2_bitIn 15 = .ok (.ishr, 1) := by decide +kernel
theorem dX2_bitIn_16 : decode cX2_bitIn 16 = .ok (.iload_n 1, 1) := by decide +kernel
theorem dX2_bitIn_17 : decode cX2_bitIn 17 = .ok (.if_icmp .ne 12, 3) := by decide +kernel
theorem dX2_bitIn_20 : decode cX2_bitIn 20 = .ok (.lconst 1, 1) := by decide +kernel
theorem dX2_bitIn_21 : decode cX2_bitIn 21 = .ok (.iload_n 2, 1) := by decide +kernel
theorem dX2_bitIn_22 : decode cX2_bitIn 22 = .ok (.bipush 63, 2) := by decide +kernel
theorem dX2_bitIn_24 : decode cX2_bitIn 24 = .ok (.iand, 1) := by decide +kernel
theorem dX2_bitIn_25 : decode cX2_bitIn 25 = .ok (.lshl, 1) := by decide +kernel
theorem dX2_bitIn_26 : decode cX2_bitIn 26 = .ok (.goto 4, 3) := by decide +kernel
theorem dX2_bitIn_29 : decode cX2_bitIn 29 = .ok (.lconst 0, 1) := by decide +kernel
theorem dX2_bitIn_30 : decode cX2_bitIn 30 = .ok (.lreturn, 1) := by decide +kernel
theorem dX2_isIn_0 : decode cX2_isIn 0 = .ok (.aload_n 1, 1) := by decide +kernel
theorem dX2_isIn_1 : decode cX2_isIn 1 = .ok (.iload_n 2, 1) := by decide +kernel
theorem dX2_isIn_2 : decode cX2_isIn 2 = .ok (.aload_n 0, 1) := by decide +kernel
theorem dX2_isIn_3 : decode cX2_isIn 3 = .ok (.getfield 65, 3) := by decide +kernel
theorem dX2_isIn_6 : decode cX2_isIn 6 = .ok (.imul, 1) := by decide +kernel
theorem dX2_isIn_7 : decode cX2_isIn 7 = .ok (.iload_n 3, 1) := by decide +kernel
theorem dX2_isIn_8 : decode cX2_isIn 8 = .ok (.bipush 6, 2) := by decide +kernel
theorem dX2_isIn_10 : decode cX2_isIn 10 = .ok (.ishr, 1) := by decide +kernel
theorem dX2_isIn_11 : decode cX2_isIn 11 = .ok (.iadd, 1) := by decide +kernel
theorem dX2_isIn_12 : decode cX2_isIn 12 = .ok (.laload, 1) := by decide +kernel
theorem dX2_isIn_13 : decode cX2_isIn 13 = .ok (.iload_n 3, 1) := by decide +kernel
theorem dX2_isIn_14 : decode cX2_isIn 14 = .ok (.bipush 63, 2) := by decide +kernel
theorem dX2_isIn_16 : decode cX2_isIn 16 = .ok (.iand, 1) := by decide +kernel
theorem dX2_isIn_17 : decode cX2_isIn 17 = .ok (.invokestatic 154, 3) := by decide +kernel
theorem dX2_isIn_20 : decode cX2_isIn 20 = .ok (.ireturn, 1) := by decide +kernel
theorem dX2_listSteps_0 : decode cX2_listSteps 0 = .ok (.iconst 0, 1) := by decide +kernel
theorem dX2_listSteps_1 : decode cX2_listSteps 1 = .ok (.istore_n 3, 1) := by decide +kernel
theorem dX2_listSteps_2 : decode cX2_listSteps 2 = .ok (.aload_n 1, 1) := by decide +kernel
theorem dX2_listSteps_3 : decode cX2_listSteps 3 = .ok (.getfield 114, 3) := by decide +kernel
theorem dX2_listSteps_6 : decode cX2_listSteps 6 = .ok (.iload_n 2, 1) := by decide +kernel
theorem dX2_listSteps_7 : decode cX2_listSteps 7 = .ok (.iaload, 1) := by decide +kernel
theorem dX2_listSteps_8 : decode cX2_listSteps 8 = .ok (.istore 4, 2) := by decide +kernel
theorem dX2_listSteps_10 : decode cX2_listSteps 10 = .ok (.iload 4, 2) := by decide +kernel
theorem dX2_listSteps_12 : decode cX2_listSteps 12 = .ok (.ifCond .lt 43, 3) := by decide +kernel
theorem dX2_listSteps_15 : decode cX2_listSteps 15 = .ok (.aload_n 0, 1) := by decide +kernel
theorem dX2_listSteps_16 : decode cX2_listSteps 16 = .ok (.aload_n 0, 1) := by decide +kernel
theorem dX2_listSteps_17 : decode cX2_listSteps 17 = .ok (.getfield 28, 3) := by decide +kernel
theorem dX2_listSteps_20 : decode cX2_listSteps 20 = .ok (.iload_n 3, 1) := by decide +kernel
theorem dX2_listSteps_21 : decode cX2_listSteps 21 = .ok (.iconst 1, 1) := by decide +kernel
theorem dX2_listSteps_22 : decode cX2_listSteps 22 = .ok (.iadd, 1) := by decide +kernel
theorem dX2_listSteps_23 : decode cX2_listSteps 23 = .ok (.invokestatic 107, 3) := by decide +kernel
theorem dX2_listSteps_26 : decode cX2_listSteps 26 = .ok (.putfield 28, 3) := by decide +kernel
theorem dX2_listSteps_29 : decode cX2_listSteps 29 = .ok (.aload_n 0, 1) := by decide +kernel
theorem dX2_listSteps_30 : decode cX2_listSteps 30 = .ok (.getfield 28, 3) := by decide +kernel
theorem dX2_listSteps_33 : decode cX2_listSteps 33 = .ok (.iload_n 3, 1) := by decide +kernel
theorem dX2_listSteps_34 : decode cX2_listSteps 34 = .ok (.iload 4, 2) := by decide +kernel
theorem dX2_listSteps_36 : decode cX2_listSteps 36 = .ok (.iastore, 1) := by decide +kernel
theorem dX2_listSteps_37 : decode cX2_listSteps 37 = .ok (.iinc 3 1, 3) := by decide +kernel
theorem dX2_listSteps_40 : decode cX2_listSteps 40 = .ok (.aload_n 1, 1) := by decide +kernel
theorem dX2_listSteps_41 : decode cX2_listSteps 41 = .ok (.getfield 110, 3) := by decide +kernel
theorem dX2_listSteps_44 : decode cX2_listSteps 44 = .ok (.getfield 144, 3) := by decide +kernel
theorem dX2_listSteps_47 : decode cX2_listSteps 47 = .ok (.iload 4, 2) := by decide +kernel
theorem dX2_listSteps_49 : decode cX2_listSteps 49 = .ok (.iaload, 1) := by decide +kernel
theorem dX2_listSteps_50 : decode cX2_listSteps 50 = .ok (.istore 4, 2) := by decide +kernel
theorem dX2_listSteps_52 : decode cX2_listSteps 52 = .ok (.goto (-42), 3) := by decide +kernel
theorem dX2_listSteps_55 : decode cX2_listSteps 55 = .ok (.iload_n 3, 1) := by decide +kernel
theorem dX2_listSteps_56 : decode cX2_listSteps 56 = .ok (.ireturn, 1) := by decide +kernel
theorem dX2_noteBlock_0 : decode cX2_noteBlock 0 = .ok (.aload_n 0, 1) := by decide +kernel
theorem dX2_noteBlock_1 : decode cX2_noteBlock 1 = .ok (.getfield 11, 3) := by decide +kernel
theorem dX2_noteBlock_4 : decode cX2_noteBlock 4 = .ok (.iload_n 2, 1) := by decide +kernel
theorem dX2_noteBlock_5 : decode cX2_noteBlock 5 = .ok (.aload_n 0, 1) := by decide +kernel
theorem dX2_noteBlock_6 : decode cX2_noteBlock 6 = .ok (.getfield 65, 3) := by decide +kernel
theorem dX2_noteBlock_9 : decode cX2_noteBlock 9 = .ok (.imul, 1) := by decide +kernel
theorem dX2_noteBlock_10 : decode cX2_noteBlock 10 = .ok (.iload_n 2, 1) := by decide +kernel
theorem dX2_noteBlock_11 : decode cX2_noteBlock 11 = .ok (.iconst 1, 1) := by decide +kernel
theorem dX2_noteBlock_12 : decode cX2_noteBlock 12 = .ok (.iadd, 1) := by decide +kernel
theorem dX2_noteBlock_13 : decode cX2_noteBlock 13 = .ok (.aload_n 0, 1) := by decide +kernel
theorem dX2_noteBlock_14 : decode cX2_noteBlock 14 = .ok (.getfield 65, 3) := by decide +kernel
theorem dX2_noteBlock_17 : decode cX2_noteBlock 17 = .ok (.imul, 1) := by decide +kernel
theorem dX2_noteBlock_18 : decode cX2_noteBlock 18 = .ok (.lconst 0, 1) := by decide +kernel
theorem dX2_noteBlock_19 : decode cX2_noteBlock 19 = .ok (.invokestatic 85, 3) := by decide +kernel
theorem dX2_noteBlock_22 : decode cX2_noteBlock 22 = .ok (.aload_n 0, 1) := by decide +kernel
theorem dX2_noteBlock_23 : decode cX2_noteBlock 23 = .ok (.getfield 15, 3) := by decide +kernel
theorem dX2_noteBlock_26 : decode cX2_noteBlock 26 = .ok (.iload_n 2, 1) := by decide +kernel
theorem dX2_noteBlock_27 : decode cX2_noteBlock 27 = .ok (.aload_n 0, 1) := by decide +kernel
theorem dX2_noteBlock_28 : decode cX2_noteBlock 28 = .ok (.getfield 65, 3) := by decide +kernel
theorem dX2_noteBlock_31 : decode cX2_noteBlock 31 = .ok (.imul, 1) := by decide +kernel
theorem dX2_noteBlock_32 : decode cX2_noteBlock 32 = .ok (.iload_n 2, 1) := by decide +kernel
theorem dX2_noteBlock_33 : decode cX2_noteBlock 33 = .ok (.iconst 1, 1) := by decide +kernel
theorem dX2_noteBlock_34 : decode cX2_noteBlock 34 = .ok (.iadd, 1) := by decide +kernel
theorem dX2_noteBlock_35 : decode cX2_noteBlock 35 = .ok (.aload_n 0, 1) := by decide +kernel
theorem dX2_noteBlock_36 : decode cX2_noteBlock 36 = .ok (.getfield 65, 3) := by decide +kernel
theorem dX2_noteBlock_39 : decode cX2_noteBlock 39 = .ok (.imul, 1) := by decide +kernel
theorem dX2_noteBlock_40 : decode cX2_noteBlock 40 = .ok (.lconst 0, 1) := by decide +kernel
theorem dX2_noteBlock_41 : decode cX2_noteBlock 41 = .ok (.invokestatic 85, 3) := by decide +kernel
theorem dX2_noteBlock_44 : decode cX2_noteBlock 44 = .ok (.aload_n 1, 1) := by decide +kernel
theorem dX2_noteBlock_45 : decode cX2_noteBlock 45 = .ok (.getfield 110, 3) := by decide +kernel
theorem dX2_noteBlock_48 : decode cX2_noteBlock 48 = .ok (.astore_n 3, 1) := by decide +kernel
theorem dX2_noteBlock_49 : decode cX2_noteBlock 49 = .ok (.aload_n 1, 1) := by decide +kernel
theorem dX2_noteBlock_50 : decode cX2_noteBlock 50 = .ok (.getfield 114, 3) := by decide +kernel
theorem dX2_noteBlock_53 : decode cX2_noteBlock 53 = .ok (.iload_n 2, 1) := by decide +kernel
theorem dX2_noteBlock_54 : decode cX2_noteBlock 54 = .ok (.iaload, 1) := by decide +kernel
theorem dX2_noteBlock_55 : decode cX2_noteBlock 55 = .ok (.istore 4, 2) := by decide +kernel
theorem dX2_noteBlock_57 : decode cX2_noteBlock 57 = .ok (.iload 4, 2) := by decide +kernel
theorem dX2_noteBlock_59 : decode cX2_noteBlock 59 = .ok (.ifCond .lt 105, 3) := by decide +kernel
theorem dX2_noteBlock_62 : decode cX2_noteBlock 62 = .ok (.aload_n 3, 1) := by decide +kernel
theorem dX2_noteBlock_63 : decode cX2_noteBlock 63 = .ok (.getfield 117, 3) := by decide +kernel
theorem dX2_noteBlock_66 : decode cX2_noteBlock 66 = .ok (.iload 4, 2) := by decide +kernel
theorem dX2_noteBlock_68 : decode cX2_noteBlock 68 = .ok (.iaload, 1) := by decide +kernel
theorem dX2_noteBlock_69 : decode cX2_noteBlock 69 = .ok (.invokestatic 122, 3) := by decide +kernel
theorem dX2_noteBlock_72 : decode cX2_noteBlock 72 = .ok (.ifCond .eq 15, 3) := by decide +kernel
theorem dX2_noteBlock_75 : decode cX2_noteBlock 75 = .ok (.aload_n 0, 1) := by decide +kernel
theorem dX2_noteBlock_76 : decode cX2_noteBlock 76 = .ok (.iload_n 2, 1) := by decide +kernel
theorem dX2_noteBlock_77 : decode cX2_noteBlock 77 = .ok (.aload_n 3, 1) := by decide +kernel
theorem dX2_noteBlock_78 : decode cX2_noteBlock 78 = .ok (.getfield 126, 3) := by decide +kernel
theorem dX2_noteBlock_81 : decode cX2_noteBlock 81 = .ok (.iload 4, 2) := by decide +kernel
theorem dX2_noteBlock_83 : decode cX2_noteBlock 83 = .ok (.iaload, 1) := by decide +kernel
theorem dX2_noteBlock_84 : decode cX2_noteBlock 84 = .ok (.invokevirtual 127, 3) := by decide +kernel
theorem dX2_noteBlock_87 : decode cX2_noteBlock 87 = .ok (.aload_n 3, 1) := by decide +kernel
theorem dX2_noteBlock_88 : decode cX2_noteBlock 88 = .ok (.getfield 117, 3) := by decide +kernel
theorem dX2_noteBlock_91 : decode cX2_noteBlock 91 = .ok (.iload 4, 2) := by decide +kernel
theorem dX2_noteBlock_93 : decode cX2_noteBlock 93 = .ok (.iaload, 1) := by decide +kernel
theorem dX2_noteBlock_94 : decode cX2_noteBlock 94 = .ok (.invokestatic 131, 3) := by decide +kernel
theorem dX2_noteBlock_97 : decode cX2_noteBlock 97 = .ok (.ifCond .eq 15, 3) := by decide +kernel
theorem dX2_noteBlock_100 : decode cX2_noteBlock 100 = .ok (.aload_n 0, 1) := by decide +kernel
theorem dX2_noteBlock_101 : decode cX2_noteBlock 101 = .ok (.iload_n 2, 1) := by decide +kernel
theorem dX2_noteBlock_102 : decode cX2_noteBlock 102 = .ok (.aload_n 3, 1) := by decide +kernel
theorem dX2_noteBlock_103 : decode cX2_noteBlock 103 = .ok (.getfield 134, 3) := by decide +kernel
theorem dX2_noteBlock_106 : decode cX2_noteBlock 106 = .ok (.iload 4, 2) := by decide +kernel
theorem dX2_noteBlock_108 : decode cX2_noteBlock 108 = .ok (.iaload, 1) := by decide +kernel
theorem dX2_noteBlock_109 : decode cX2_noteBlock 109 = .ok (.invokevirtual 127, 3) := by decide +kernel
theorem dX2_noteBlock_112 : decode cX2_noteBlock 112 = .ok (.aload_n 3, 1) := by decide +kernel
theorem dX2_noteBlock_113 : decode cX2_noteBlock 113 = .ok (.getfield 137, 3) := by decide +kernel
theorem dX2_noteBlock_116 : decode cX2_noteBlock 116 = .ok (.iload 4, 2) := by decide +kernel
theorem dX2_noteBlock_118 : decode cX2_noteBlock 118 = .ok (.iaload, 1) := by decide +kernel
theorem dX2_noteBlock_119 : decode cX2_noteBlock 119 = .ok (.ifCond .lt 33, 3) := by decide +kernel
theorem dX2_noteBlock_122 : decode cX2_noteBlock 122 = .ok (.aload_n 3, 1) := by decide +kernel
theorem dX2_noteBlock_123 : decode cX2_noteBlock 123 = .ok (.getfield 137, 3) := by decide +kernel
theorem dX2_noteBlock_126 : decode cX2_noteBlock 126 = .ok (.iload 4, 2) := by decide +kernel
theorem dX2_noteBlock_128 : decode cX2_noteBlock 128 = .ok (.iaload, 1) := by decide +kernel
theorem dX2_noteBlock_129 : decode cX2_noteBlock 129 = .ok (.aload_n 0, 1) := by decide +kernel
theorem dX2_noteBlock_130 : decode cX2_noteBlock 130 = .ok (.getfield 58, 3) := by decide +kernel
theorem dX2_noteBlock_133 : decode cX2_noteBlock 133 = .ok (.if_icmp .ge 19, 3) := by decide +kernel
theorem dX2_noteBlock_136 : decode cX2_noteBlock 136 = .ok (.aload_n 0, 1) := by decide +kernel
theorem dX2_noteBlock_137 : decode cX2_noteBlock 137 = .ok (.aload_n 0, 1) := by decide +kernel
theorem dX2_noteBlock_138 : decode cX2_noteBlock 138 = .ok (.getfield 15, 3) := by decide +kernel
theorem dX2_noteBlock_141 : decode cX2_noteBlock 141 = .ok (.iload_n 2, 1) := by decide +kernel
theorem dX2_noteBlock_142 : decode cX2_noteBlock 142 = .ok (.aload_n 3, 1) := by decide +kernel
theorem dX2_noteBlock_143 : decode cX2_noteBlock 143 = .ok (.getfield 137, 3) := by decide +kernel
theorem dX2_noteBlock_146 : decode cX2_noteBlock 146 = .ok (.iload 4, 2) := by decide +kernel
theorem dX2_noteBlock_148 : decode cX2_noteBlock 148 = .ok (.iaload, 1) := by decide +kernel
theorem dX2_noteBlock_149 : decode cX2_noteBlock 149 = .ok (.invokevirtual 140, 3) := by decide +kernel
theorem dX2_noteBlock_152 : decode cX2_noteBlock 152 = .ok (.aload_n 3, 1) := by decide +kernel
theorem dX2_noteBlock_153 : decode cX2_noteBlock 153 = .ok (.getfield 144, 3) := by decide +kernel
theorem dX2_noteBlock_156 : decode cX2_noteBlock 156 = .ok (.iload 4, 2) := by decide +kernel
theorem dX2_noteBlock_158 : decode cX2_noteBlock 158 = .ok (.iaload, 1) := by decide +kernel
theorem dX2_noteBlock_159 : decode cX2_noteBlock 159 = .ok (.istore 4, 2) := by decide +kernel
theorem dX2_noteBlock_161 : decode cX2_noteBlock 161 = .ok (.goto (-104), 3) := by decide +kernel
theorem dX2_noteBlock_164 : decode cX2_noteBlock 164 = .ok (.aload_n 1, 1) := by decide +kernel
theorem dX2_noteBlock_165 : decode cX2_noteBlock 165 = .ok (.getfield 147, 3) := by decide +kernel
theorem dX2_noteBlock_168 : decode cX2_noteBlock 168 = .ok (.iload_n 2, 1) := by decide +kernel
theorem dX2_noteBlock_169 : decode cX2_noteBlock 169 = .ok (.iaload, 1) := by decide +kernel
theorem dX2_noteBlock_170 : decode cX2_noteBlock 170 = .ok (.ifCond .lt 14, 3) := by decide +kernel
theorem dX2_noteBlock_173 : decode cX2_noteBlock 173 = .ok (.aload_n 0, 1) := by decide +kernel
theorem dX2_noteBlock_174 : decode cX2_noteBlock 174 = .ok (.iload_n 2, 1) := by decide +kernel
theorem dX2_noteBlock_175 : decode cX2_noteBlock 175 = .ok (.aload_n 1, 1) := by decide +kernel
theorem dX2_noteBlock_176 : decode cX2_noteBlock 176 = .ok (.getfield 147, 3) := by decide +kernel
theorem dX2_noteBlock_179 : decode cX2_noteBlock 179 = .ok (.iload_n 2, 1) := by decide +kernel
theorem dX2_noteBlock_180 : decode cX2_noteBlock 180 = .ok (.iaload, 1) := by decide +kernel
theorem dX2_noteBlock_181 : decode cX2_noteBlock 181 = .ok (.invokevirtual 127, 3) := by decide +kernel
theorem dX2_noteBlock_184 : decode cX2_noteBlock 184 = .ok (.return_, 1) := by decide +kernel
theorem dX2_noteUse_0 : decode cX2_noteUse 0 = .ok (.iload_n 2, 1) := by decide +kernel
theorem dX2_noteUse_1 : decode cX2_noteUse 1 = .ok (.aload_n 0, 1) := by decide +kernel
theorem dX2_noteUse_2 : decode cX2_noteUse 2 = .ok (.getfield 58, 3) := by decide +kernel
theorem dX2_noteUse_5 : decode cX2_noteUse 5 = .ok (.if_icmp .ge 26, 3) := by decide +kernel
theorem dX2_noteUse_8 : decode cX2_noteUse 8 = .ok (.aload_n 0, 1) := by decide +kernel
theorem dX2_noteUse_9 : decode cX2_noteUse 9 = .ok (.aload_n 0, 1) := by decide +kernel
theorem dX2_noteUse_10 : decode cX2_noteUse 10 = .ok (.getfield 15, 3) := by decide +kernel
theorem dX2_noteUse_13 : decode cX2_noteUse 13 = .ok (.iload_n 1, 1) := by decide +kernel
theorem dX2_noteUse_14 : decode cX2_noteUse 14 = .ok (.iload_n 2, 1) := by decide +kernel
theorem dX2_noteUse_15 : decode cX2_noteUse 15 = .ok (.invokevirtual 150, 3) := by decide +kernel
theorem dX2_noteUse_18 : decode cX2_noteUse 18 = .ok (.ifCond .ne 13, 3) := by decide +kernel
theorem dX2_noteUse_21 : decode cX2_noteUse 21 = .ok (.aload_n 0, 1) := by decide +kernel
theorem dX2_noteUse_22 : decode cX2_noteUse 22 = .ok (.aload_n 0, 1) := by decide +kernel
theorem dX2_noteUse_23 : decode cX2_noteUse 23 = .ok (.getfield 11, 3) := by decide +kernel
theorem dX2_noteUse_26 : decode cX2_noteUse 26 = .ok (.iload_n 1, 1) := by decide +kernel
theorem dX2_noteUse_27 : decode cX2_noteUse 27 = .ok (.iload_n 2, 1) := by decide +kernel
theorem dX2_noteUse_28 : decode cX2_noteUse 28 = .ok (.invokevirtual 140, 3) := by decide +kernel
theorem dX2_noteUse_31 : decode cX2_noteUse 31 = .ok (.return_, 1) := by decide +kernel
theorem dX2_put_0 : decode cX2_put 0 = .ok (.aload_n 1, 1) := by decide +kernel
theorem dX2_put_1 : decode cX2_put 1 = .ok (.iload_n 2, 1) := by decide +kernel
theorem dX2_put_2 : decode cX2_put 2 = .ok (.aload_n 0, 1) := by decide +kernel
theorem dX2_put_3 : decode cX2_put 3 = .ok (.getfield 65, 3) := by decide +kernel
theorem dX2_put_6 : decode cX2_put 6 = .ok (.imul, 1) := by decide +kernel
theorem dX2_put_7 : decode cX2_put 7 = .ok (.iload_n 3, 1) := by decide +kernel
theorem dX2_put_8 : decode cX2_put 8 = .ok (.bipush 6, 2) := by decide +kernel
theorem dX2_put_10 : decode cX2_put 10 = .ok (.ishr, 1) := by decide +kernel
theorem dX2_put_11 : decode cX2_put 11 = .ok (.iadd, 1) := by decide +kernel
theorem dX2_put_12 : decode cX2_put 12 = .ok (.dup2, 1) := by decide +kernel
theorem dX2_put_13 : decode cX2_put 13 = .ok (.laload, 1) := by decide +kernel
theorem dX2_put_14 : decode cX2_put 14 = .ok (.lconst 1, 1) := by decide +kernel
theorem dX2_put_15 : decode cX2_put 15 = .ok (.iload_n 3, 1) := by decide +kernel
theorem dX2_put_16 : decode cX2_put 16 = .ok (.bipush 63, 2) := by decide +kernel
theorem dX2_put_18 : decode cX2_put 18 = .ok (.iand, 1) := by decide +kernel
theorem dX2_put_19 : decode cX2_put 19 = .ok (.lshl, 1) := by decide +kernel
theorem dX2_put_20 : decode cX2_put 20 = .ok (.lor, 1) := by decide +kernel
theorem dX2_put_21 : decode cX2_put 21 = .ok (.lastore, 1) := by decide +kernel
theorem dX2_put_22 : decode cX2_put 22 = .ok (.return_, 1) := by decide +kernel
theorem dX2_spreadInto_0 : decode cX2_spreadInto 0 = .ok (.iload_n 1, 1) := by decide +kernel
theorem dX2_spreadInto_1 : decode cX2_spreadInto 1 = .ok (.ifCond .ge 5, 3) := by decide +kernel
theorem dX2_spreadInto_4 : decode cX2_spreadInto 4 = .ok (.iconst 0, 1) := by decide +kernel
theorem dX2_spreadInto_5 : decode cX2_spreadInto 5 = .ok (.ireturn, 1) := by decide +kernel
theorem dX2_spreadInto_6 : decode cX2_spreadInto 6 = .ok (.iconst 0, 1) := by decide +kernel
theorem dX2_spreadInto_7 : decode cX2_spreadInto 7 = .ok (.istore_n 3, 1) := by decide +kernel
theorem dX2_spreadInto_8 : decode cX2_spreadInto 8 = .ok (.iconst 0, 1) := by decide +kernel
theorem dX2_spreadInto_9 : decode cX2_spreadInto 9 = .ok (.istore 4, 2) := by decide +kernel
theorem dX2_spreadInto_11 : decode cX2_spreadInto 11 = .ok (.iload 4, 2) := by decide +kernel
theorem dX2_spreadInto_13 : decode cX2_spreadInto 13 = .ok (.aload_n 0, 1) := by decide +kernel
theorem dX2_spreadInto_14 : decode cX2_spreadInto 14 = .ok (.getfield 65, 3) := by decide +kernel
theorem dX2_spreadInto_17 : decode cX2_spreadInto 17 = .ok (.if_icmp .ge 99, 3) := by decide +kernel
theorem dX2_spreadInto_20 : decode cX2_spreadInto 20 = .ok (.aload_n 0, 1) := by decide +kernel
theorem dX2_spreadInto_21 : decode cX2_spreadInto 21 = .ok (.getfield 18, 3) := by decide +kernel
theorem dX2_spreadInto_24 : decode cX2_spreadInto 24 = .ok (.iload_n 1, 1) := by decide +kernel
theorem dX2_spreadInto_25 : decode cX2_spreadInto 25 = .ok (.aload_n 0, 1) := by decide +kernel
theorem dX2_spreadInto_26 : decode cX2_spreadInto 26 = .ok (.getfield 65, 3) := by decide +kernel
theorem dX2_spreadInto_29 : decode cX2_spreadInto 29 = .ok (.imul, 1) := by decide +kernel
theorem dX2_spreadInto_30 : decode cX2_spreadInto 30 = .ok (.iload 4, 2) := by decide +kernel
theorem dX2_spreadInto_32 : decode cX2_spreadInto 32 = .ok (.iadd, 1) := by decide +kernel
theorem dX2_spreadInto_33 : decode cX2_spreadInto 33 = .ok (.laload, 1) := by decide +kernel
theorem dX2_spreadInto_34 : decode cX2_spreadInto 34 = .ok (.aload_n 0, 1) := by decide +kernel
theorem dX2_spreadInto_35 : decode cX2_spreadInto 35 = .ok (.getfield 15, 3) := by decide +kernel
theorem dX2_spreadInto_38 : decode cX2_spreadInto 38 = .ok (.iload_n 2, 1) := by decide +kernel
theorem dX2_spreadInto_39 : decode cX2_spreadInto 39 = .ok (.aload_n 0, 1) := by decide +kernel
theorem dX2_spreadInto_40 : decode cX2_spreadInto 40 = .ok (.getfield 65, 3) := by decide +kernel
theorem dX2_spreadInto_43 : decode cX2_spreadInto 43 = .ok (.imul, 1) := by decide +kernel
theorem dX2_spreadInto_44 : decode cX2_spreadInto 44 = .ok (.iload 4, 2) := by decide +kernel
theorem dX2_spreadInto_46 : decode cX2_spreadInto 46 = .ok (.iadd, 1) := by decide +kernel
theorem dX2_spreadInto_47 : decode cX2_spreadInto 47 = .ok (.laload, 1) := by decide +kernel
theorem dX2_spreadInto_48 : decode cX2_spreadInto 48 = .ok (.ldc2_w 175, 3) := by decide +kernel
theorem dX2_spreadInto_51 : decode cX2_spreadInto 51 = .ok (.lxor, 1) := by decide +kernel
theorem dX2_spreadInto_52 : decode cX2_spreadInto 52 = .ok (.land, 1) := by decide +kernel
theorem dX2_spreadInto_53 : decode cX2_spreadInto 53 = .ok (.aload_n 0, 1) := by decide +kernel
theorem dX2_spreadInto_54 : decode cX2_spreadInto 54 = .ok (.getfield 18, 3) := by decide +kernel
theorem dX2_spreadInto_57 : decode cX2_spreadInto 57 = .ok (.iload_n 2, 1) := by decide +kernel
theorem dX2_spreadInto_58 : decode cX2_spreadInto 58 = .ok (.aload_n 0, 1) := by decide +kernel
theorem dX2_spreadInto_59 : decode cX2_spreadInto 59 = .ok (.getfield 65, 3) := by decide +kernel
theorem dX2_spreadInto_62 : decode cX2_spreadInto 62 = .ok (.imul, 1) := by decide +kernel
theorem dX2_spreadInto_63 : decode cX2_spreadInto 63 = .ok (.iload 4, 2) := by decide +kernel
theorem dX2_spreadInto_65 : decode cX2_spreadInto 65 = .ok (.iadd, 1) := by decide +kernel
theorem dX2_spreadInto_66 : decode cX2_spreadInto 66 = .ok (.laload, 1) := by decide +kernel
theorem dX2_spreadInto_67 : decode cX2_spreadInto 67 = .ok (.ldc2_w 175, 3) := by decide +kernel
theorem dX2_spreadInto_70 : decode cX2_spreadInto 70 = .ok (.lxor, 1) := by decide +kernel
theorem dX2_spreadInto_71 : decode cX2_spreadInto 71 = .ok (.land, 1) := by decide +kernel
theorem dX2_spreadInto_72 : decode cX2_spreadInto 72 = .ok (.lstore 5, 2) := by decide +kernel
theorem dX2_spreadInto_74 : decode cX2_spreadInto 74 = .ok (.aload_n 0, 1) := by decide +kernel
theorem dX2_spreadInto_75 : decode cX2_spreadInto 75 = .ok (.getfield 18, 3) := by decide +kernel
theorem dX2_spreadInto_78 : decode cX2_spreadInto 78 = .ok (.iload_n 2, 1) := by decide +kernel
theorem dX2_spreadInto_79 : decode cX2_spreadInto 79 = .ok (.aload_n 0, 1) := by decide +kernel
theorem dX2_spreadInto_80 : decode cX2_spreadInto 80 = .ok (.getfield 65, 3) := by decide +kernel
theorem dX2_spreadInto_83 : decode cX2_spreadInto 83 = .ok (.imul, 1) := by decide +kernel
theorem dX2_spreadInto_84 : decode cX2_spreadInto 84 = .ok (.iload 4, 2) := by decide +kernel
theorem dX2_spreadInto_86 : decode cX2_spreadInto 86 = .ok (.iadd, 1) := by decide +kernel
theorem dX2_spreadInto_87 : decode cX2_spreadInto 87 = .ok (.dup2, 1) := by decide +kernel
theorem dX2_spreadInto_88 : decode cX2_spreadInto 88 = .ok (.laload, 1) := by decide +kernel
theorem dX2_spreadInto_89 : decode cX2_spreadInto 89 = .ok (.lload 5, 2) := by decide +kernel
theorem dX2_spreadInto_91 : decode cX2_spreadInto 91 = .ok (.lor, 1) := by decide +kernel
theorem dX2_spreadInto_92 : decode cX2_spreadInto 92 = .ok (.lastore, 1) := by decide +kernel
theorem dX2_spreadInto_93 : decode cX2_spreadInto 93 = .ok (.iload_n 3, 1) := by decide +kernel
theorem dX2_spreadInto_94 : decode cX2_spreadInto 94 = .ok (.ifCond .ne 10, 3) := by decide +kernel
theorem dX2_spreadInto_97 : decode cX2_spreadInto 97 = .ok (.lload 5, 2) := by decide +kernel
theorem dX2_spreadInto_99 : decode cX2_spreadInto 99 = .ok (.lconst 0, 1) := by decide +kernel
theorem dX2_spreadInto_100 : decode cX2_spreadInto 100 = .ok (.lcmp, 1) := by decide +kernel
theorem dX2_spreadInto_101 : decode cX2_spreadInto 101 = .ok (.ifCond .eq 7, 3) := by decide +kernel
theorem dX2_spreadInto_104 : decode cX2_spreadInto 104 = .ok (.iconst 1, 1) := by decide +kernel
theorem dX2_spreadInto_105 : decode cX2_spreadInto 105 = .ok (.goto 4, 3) := by decide +kernel
theorem dX2_spreadInto_108 : decode cX2_spreadInto 108 = .ok (.iconst 0, 1) := by decide +kernel
theorem dX2_spreadInto_109 : decode cX2_spreadInto 109 = .ok (.istore_n 3, 1) := by decide +kernel
theorem dX2_spreadInto_110 : decode cX2_spreadInto 110 = .ok (.iinc 4 1, 3) := by decide +kernel
theorem dX2_spreadInto_113 : decode cX2_spreadInto 113 = .ok (.goto (-102), 3) := by decide +kernel
theorem dX2_spreadInto_116 : decode cX2_spreadInto 116 = .ok (.iload_n 3, 1) := by decide +kernel
theorem dX2_spreadInto_117 : decode cX2_spreadInto 117 = .ok (.ireturn, 1) := by decide +kernel
theorem dX2_spreadLife_0 : decode cX2_spreadLife 0 = .ok (.aload_n 0, 1) := by decide +kernel
theorem dX2_spreadLife_1 : decode cX2_spreadLife 1 = .ok (.getfield 11, 3) := by decide +kernel
theorem dX2_spreadLife_4 : decode cX2_spreadLife 4 = .ok (.iconst 0, 1) := by decide +kernel
theorem dX2_spreadLife_5 : decode cX2_spreadLife 5 = .ok (.aload_n 0, 1) := by decide +kernel
theorem dX2_spreadLife_6 : decode cX2_spreadLife 6 = .ok (.getfield 18, 3) := by decide +kernel
theorem dX2_spreadLife_9 : decode cX2_spreadLife 9 = .ok (.iconst 0, 1) := by decide +kernel
theorem dX2_spreadLife_10 : decode cX2_spreadLife 10 = .ok (.aload_n 1, 1) := by decide +kernel
theorem dX2_spreadLife_11 : decode cX2_spreadLife 11 = .ok (.getfield 68, 3) := by decide +kernel
theorem dX2_spreadLife_14 : decode cX2_spreadLife 14 = .ok (.aload_n 0, 1) := by decide +kernel
theorem dX2_spreadLife_15 : decode cX2_spreadLife 15 = .ok (.getfield 65, 3) := by decide +kernel
theorem dX2_spreadLife_18 : decode cX2_spreadLife 18 = .ok (.imul, 1) := by decide +kernel
theorem dX2_spreadLife_19 : decode cX2_spreadLife 19 = .ok (.invokestatic 158, 3) := by decide +kernel
theorem dX2_spreadLife_22 : decode cX2_spreadLife 22 = .ok (.iconst 1, 1) := by decide +kernel
theorem dX2_spreadLife_23 : decode cX2_spreadLife 23 = .ok (.istore_n 2, 1) := by decide +kernel
theorem dX2_spreadLife_24 : decode cX2_spreadLife 24 = .ok (.iconst 0, 1) := by decide +kernel
theorem dX2_spreadLife_25 : decode cX2_spreadLife 25 = .ok (.istore_n 3, 1) := by decide +kernel
theorem dX2_spreadLife_26 : decode cX2_spreadLife 26 = .ok (.iload_n 2, 1) := by decide +kernel
theorem dX2_spreadLife_27 : decode cX2_spreadLife 27 = .ok (.ifCond .eq 82, 3) := by decide +kernel
theorem dX2_spreadLife_30 : decode cX2_spreadLife 30 = .ok (.iload_n 3, 1) := by decide +kernel
theorem dX2_spreadLife_31 : decode cX2_spreadLife 31 = .ok (.ldc 164, 2) := by decide +kernel
theorem dX2_spreadLife_33 : decode cX2_spreadLife 33 = .ok (.if_icmp .ge 76, 3) := by decide +kernel
theorem dX2_spreadLife_36 : decode cX2_spreadLife 36 = .ok (.iconst 0, 1) := by decide +kernel
theorem dX2_spreadLife_37 : decode cX2_spreadLife 37 = .ok (.istore_n 2, 1) := by decide +kernel
theorem dX2_spreadLife_38 : decode cX2_spreadLife 38 = .ok (.aload_n 1, 1) := by decide +kernel
theorem dX2_spreadLife_39 : decode cX2_spreadLife 39 = .ok (.getfield 68, 3) := by decide +kernel
theorem dX2_spreadLife_42 : decode cX2_spreadLife 42 = .ok (.iconst 1, 1) := by decide +kernel
theorem dX2_spreadLife_43 : decode cX2_spreadLife 43 = .ok (.isub, 1) := by decide +kernel
theorem dX2_spreadLife_44 : decode cX2_spreadLife 44 = .ok (.istore 4, 2) := by decide +kernel
theorem dX2_spreadLife_46 : decode cX2_spreadLife 46 = .ok (.iload 4, 2) := by decide +kernel
theorem dX2_spreadLife_48 : decode cX2_spreadLife 48 = .ok (.ifCond .lt 55, 3) := by decide +kernel
theorem dX2_spreadLife_51 : decode cX2_spreadLife 51 = .ok (.aload_n 0, 1) := by decide +kernel
theorem dX2_spreadLife_52 : decode cX2_spreadLife 52 = .ok (.aload_n 1, 1) := by decide +kernel
theorem dX2_spreadLife_53 : decode cX2_spreadLife 53 = .ok (.getfield 165, 3) := by decide +kernel
theorem dX2_spreadLife_56 : decode cX2_spreadLife 56 = .ok (.iload 4, 2) := by decide +kernel
theorem dX2_spreadLife_58 : decode cX2_spreadLife 58 = .ok (.iaload, 1) := by decide +kernel
theorem dX2_spreadLife_59 : decode cX2_spreadLife 59 = .ok (.iload 4, 2) := by decide +kernel
theorem dX2_spreadLife_61 : decode cX2_spreadLife 61 = .ok (.invokevirtual 168, 3) := by decide +kernel
theorem dX2_spreadLife_64 : decode cX2_spreadLife 64 = .ok (.istore 5, 2) := by decide +kernel
theorem dX2_spreadLife_66 : decode cX2_spreadLife 66 = .ok (.aload_n 0, 1) := by decide +kernel
theorem dX2_spreadLife_67 : decode cX2_spreadLife 67 = .ok (.aload_n 1, 1) := by decide +kernel
theorem dX2_spreadLife_68 : decode cX2_spreadLife 68 = .ok (.getfield 172, 3) := by decide +kernel
theorem dX2_spreadLife_71 : decode cX2_spreadLife 71 = .ok (.iload 4, 2) := by decide +kernel
theorem dX2_spreadLife_73 : decode cX2_spreadLife 73 = .ok (.iaload, 1) := by decide +kernel
theorem dX2_spreadLife_74 : decode cX2_spreadLife 74 = .ok (.iload 4, 2) := by decide +kernel
theorem dX2_spreadLife_76 : decode cX2_spreadLife 76 = .ok (.invokevirtual 168, 3) := by decide +kernel
theorem dX2_spreadLife_79 : decode cX2_spreadLife 79 = .ok (.ifCond .ne 12, 3) := by decide +kernel
theorem dX2_spreadLife_82 : decode cX2_spreadLife 82 = .ok (.iload 5, 2) := by decide +kernel
theorem dX2_spreadLife_84 : decode cX2_spreadLife 84 = .ok (.ifCond .ne 7, 3) := by decide +kernel
theorem dX2_spreadLife_87 : decode cX2_spreadLife 87 = .ok (.iload_n 2, 1) := by decide +kernel
theorem dX2_spreadLife_88 : decode cX2_spreadLife 88 = .ok (.ifCond .eq 7, 3) := by decide +kernel
theorem dX2_spreadLife_91 : decode cX2_spreadLife 91 = .ok (.iconst 1, 1) := by decide +kernel
theorem dX2_spreadLife_92 : decode cX2_spreadLife 92 = .ok (.goto 4, 3) := by decide +kernel
theorem dX2_spreadLife_95 : decode cX2_spreadLife 95 = .ok (.iconst 0, 1) := by decide +kernel
theorem dX2_spreadLife_96 : decode cX2_spreadLife 96 = .ok (.istore_n 2, 1) := by decide +kernel
theorem dX2_spreadLife_97 : decode cX2_spreadLife 97 = .ok (.iinc 4 (-1), 3) := by decide +kernel
theorem dX2_spreadLife_100 : decode cX2_spreadLife 100 = .ok (.goto (-54), 3) := by decide +kernel
theorem dX2_spreadLife_103 : decode cX2_spreadLife 103 = .ok (.iinc 3 1, 3) := by decide +kernel
theorem dX2_spreadLife_106 : decode cX2_spreadLife 106 = .ok (.goto (-80), 3) := by decide +kernel
theorem dX2_spreadLife_109 : decode cX2_spreadLife 109 = .ok (.return_, 1) := by decide +kernel
theorem qw667 : Cond.fieldLink RX2 58 "Gearbox$Graph" "homes" "I" ∈ gw := mq_3 (i := 23) rfl rfl
theorem qw670 : Cond.fieldLink RX2 68 "Gearbox$Flow" "blocks" "I" ∈ gw := mq_1 (i := 212) rfl rfl
theorem qw694 : Cond.initialized RX2 ∈ gw := mq_1 (i := 25) rfl rfl
theorem qw695 : Cond.code yJ7_fill_bad5a cJ7_fill_bad5a 6 (Option.none : Option Jvm.ClassFile.FieldType) ∈ gw := mq_8 (i := 213) rfl rfl
theorem qw696 : Cond.methodLink RX2 85 yJ7_fill_bad5a ∈ gw := mq_8 (i := 211) rfl rfl
theorem qw697 : Cond.static yJ7_fill_bad5a ∈ gw := mq_8 (i := 212) rfl rfl
theorem qw698 : Cond.fieldLink RX2 110 "Gearbox$Flow" "steps" "LGearbox$Steps;" ∈ gw := mq_1 (i := 222) rfl rfl
theorem qw699 : Cond.fieldLink RX2 114 "Gearbox$Flow" "firstStep" "[I" ∈ gw := mq_1 (i := 229) rfl rfl
theorem qw700 : Cond.fieldLink RX2 117 "Gearbox$Steps" "kind" "[I" ∈ gw := mq_1 (i := 163) rfl rfl
theorem qw701 : Cond.fieldLink RX2 137 "Gearbox$Steps" "gives" "[I" ∈ gw := mq_1 (i := 170) rfl rfl
theorem qw702 : Cond.fieldLink RX2 144 "Gearbox$Steps" "next" "[I" ∈ gw := mq_1 (i := 191) rfl rfl
theorem qw703 : Cond.code yX2_put cX2_put 4 (Option.none : Option Jvm.ClassFile.FieldType) ∈ gw := mq_8 (i := 227) rfl rfl
theorem qw704 : Cond.methodLink RX2 140 yX2_put ∈ gw := mq_8 (i := 224) rfl rfl
theorem qw705 : Cond.instanceMethod yX2_put ∈ gw := mq_8 (i := 226) rfl rfl
theorem qw706 : Cond.selects RX2 yX2_put yX2_put ∈ gw := mk_s (i := 64) rfl rfl
theorem qw707 : Cond.fieldLink RX2 134 "Gearbox$Steps" "right" "[I" ∈ gw := mq_1 (i := 183) rfl rfl
theorem qw708 : Cond.code yX2_isIn cX2_isIn 4 (Option.some Jvm.ClassFile.FieldType.boolean) ∈ gw := mq_8 (i := 222) rfl rfl
theorem qw709 : Cond.methodLink RX2 150 yX2_isIn ∈ gw := mq_8 (i := 219) rfl rfl
theorem qw710 : Cond.instanceMethod yX2_isIn ∈ gw := mq_8 (i := 221) rfl rfl
theorem qw711 : Cond.selects RX2 yX2_isIn yX2_isIn ∈ gw := mk_s (i := 65) rfl rfl
theorem qw712 : Cond.code yX2_noteUse cX2_noteUse 3 (Option.none : Option Jvm.ClassFile.FieldType) ∈ gw := mq_8 (i := 218) rfl rfl
theorem qw713 : Cond.methodLink RX2 127 yX2_noteUse ∈ gw := mq_8 (i := 215) rfl rfl
theorem qw714 : Cond.instanceMethod yX2_noteUse ∈ gw := mq_8 (i := 217) rfl rfl
theorem qw715 : Cond.selects RX2 yX2_noteUse yX2_noteUse ∈ gw := mk_s (i := 66) rfl rfl
theorem qw716 : Cond.fieldLink RX2 126 "Gearbox$Steps" "left" "[I" ∈ gw := mq_1 (i := 177) rfl rfl
theorem qw717 : Cond.fieldLink RX2 147 "Gearbox$Flow" "endValue" "[I" ∈ gw := mq_2 (i := 13) rfl rfl
theorem qw722 : Cond.methodLink RX2 158 ⟨"java/lang/System", "arraycopy", "(Ljava/lang/Object;ILjava/lang/Object;II)V"⟩ ∈ gw := mq_8 (i := 233) rfl rfl
theorem qw723 : Cond.constant RX2 164 (1000000) ∈ gw := mq_8 (i := 234) rfl rfl
theorem qw724 : Cond.fieldLink RX2 165 "Gearbox$Flow" "first" "[I" ∈ gw := mq_2 (i := 21) rfl rfl
theorem qw725 : Cond.constantLong RX2 175 (-1) ∈ gw := mq_8 (i := 239) rfl rfl
theorem qw726 : Cond.code yX2_spreadInto cX2_spreadInto 7 (Option.some Jvm.ClassFile.FieldType.boolean) ∈ gw := mq_8 (i := 238) rfl rfl
theorem qw727 : Cond.methodLink RX2 168 yX2_spreadInto ∈ gw := mq_8 (i := 235) rfl rfl
theorem qw728 : Cond.instanceMethod yX2_spreadInto ∈ gw := mq_8 (i := 237) rfl rfl
theorem qw729 : Cond.selects RX2 yX2_spreadInto yX2_spreadInto ∈ gw := mk_s (i := 68) rfl rfl
theorem qw730 : Cond.fieldLink RX2 172 "Gearbox$Flow" "second" "[I" ∈ gw := mq_2 (i := 29) rfl rfl
theorem qw737 : Cond.fieldLink RX2 180 "Gearbox$Graph" "guests" "I" ∈ gw := mq_3 (i := 31) rfl rfl
theorem qw742 : Cond.fieldLink RX2 28 "Gearbox$Graph" "chain" "[I" ∈ gw := mq_3 (i := 32) rfl rfl
theorem qw747 : Cond.fieldLink RX2 24 "Gearbox$Graph" "liveGuests" "[I" ∈ gw := mq_3 (i := 30) rfl rfl
def fJ7_fill_bad5a_L10 (p0n : Nat) (p2 : Int32) (p3 : Int64) : Nat → Int32 → RL → Option RL
  | 0 => fun _ _ => none
  | n_10 + 1 => fun v5_10 p0f_10 => (if p2 ≤ v5_10 then some p0f_10 else (if ixb v5_10 p0n = true then (lt9 (vp_updL p0f_10 (nn v5_10) p3) fun (f4 : RL) => ((fJ7_fill_bad5a_L10 p0n p2 p3 n_10) (v5_10 + 1) f4)) else none))
def fJ7_fill_bad5a (p0n : Nat) (p0f : RL) (p1 : Int32) (p2 : Int32) (p3 : Int64) : Option RL := ((fJ7_rangeCheck_23922 (Int32.ofNat p0n) p1 p2).bind fun (o_1 : Unit) => ((fJ7_fill_bad5a_L10 p0n p2 p3 NF p1 p0f).bind fun (o10 : RL) => some o10))
set_option maxHeartbeats 16000000 in
set_option maxRecDepth 100000 in
theorem kJ7_fill_bad5a {zs : ZS} (l : Launch) (dC : Nat → ClassId) (dI : Nat → Nat → Nat) (p0a : Nat) (p0k : ClassId) (p0n : Nat) (p0f : RL) (p1 : Int32) (p2 : Int32) (p3 : Int64) (sz : Nat) (o : RL) (hrun : fJ7_fill_bad5a p0n p0f p1 p2 p3 = some o) : Met l yJ7_fill_bad5a (wz yJ7_fill_bad5a cJ7_fill_bad5a 6 (Option.none : Option Jvm.ClassFile.FieldType)) ({ frames := 1, cells := 0, slots := 0, locals := 22 } : Room) (va_Pc [.ref p0a, .int p1, .int p2, .long p3] (PRE zs dC dI (List.flatten ([[(p0a, .inl (p0k, p0n, .inr (.inl p0f)))]] : List va_W)) (List.flatten ([[(p0k, .long)]] : List (List (ClassId × FieldType)))) sz)) (va_Qv (fun (_ : Unit) => True) (fun _ t => POST dC dI (List.flatten ([[(p0a, .inl (p0k, p0n, .inr (.inl o)))]] : List va_W)) (List.flatten ([[(p0k, .long)]] : List (List (ClassId × FieldType)))) (va_A (List.flatten ([[(p0a, .inl (p0k, p0n, .inr (.inl p0f)))]] : List va_W)) sz) t) (va_A (List.flatten ([[(p0a, .inl (p0k, p0n, .inr (.inl p0f)))]] : List va_W)) sz)) 0 0 (va_A (List.flatten ([[(p0a, .inl (p0k, p0n, .inr (.inl p0f)))]] : List va_W)) sz) := by
  refine Met.ofW (cc := cJ7_fill_bad5a) (maxL := 6) (ret := (Option.none : Option Jvm.ClassFile.FieldType)) (by decide) rfl ?_
  intro p e s m args below meth c s₁ B hml hv
  obtain ⟨rfl, hsz, hP, hK, hD0, hE⟩ := hv
  have hx := B.exec
  have hb := B.bytes
  have hr := B.returns
  have hts0 := atoms_spec (ws := wz yJ7_fill_bad5a cJ7_fill_bad5a 6 (Option.none : Option Jvm.ClassFile.FieldType)) B.pre
  have hts : ∀ w ∈ gw, w.before _ s = true := fun w h => hts0 w (List.mem_cons_of_mem _ h)
  have hown : s.vm.findClass RJ7 = some m.cls := findClass_of_methodNamed B.named
  have hlocks := B.notSynchronized
  subst hsz
  have hD := hD0.self (sz := s.heap.size)
  refine gQ9 ?_
  intro Q hQ
  generalize hAe : va_A (List.flatten ([[(p0a, .inl (p0k, p0n, .inr (.inl p0f)))]] : List va_W)) s.heap.size = A at hD hE hQ
  have hA : ∀ q : Nat, s.heap.size ≤ q → A q := fun q h => by rw [← hAe]; exact Or.inr h
  have hS : va_S A s.heap s.heap [] := va_S.rf
  have hP : va_P (dC, dI) cls (List.flatten ([[(p0a, .inl (p0k, p0n, .inr (.inl p0f)))]] : List va_W)) s.heap := hP
  have hl := lv_entry ([.ref p0a, .int p1, .int p2, .long p3]) (n := 6) (Nat.le_of_ble_eq_true rfl)
  rw [lg_entry_eq]
  generalize (lg_sl ([.ref p0a, .int p1, .int p2, .long p3]) ++ List.replicate (6 - (lg_sl ([.ref p0a, .int p1, .int p2, .long p3])).length) Slot.unset).toArray = ls at hl ⊢
  have hl : lv_has ls 6 [(0, .ref p0a), (1, .int p1), (2, .int p2), (3, .long p3)] := hl
  obtain ⟨H, hHe⟩ : ∃ H, H = s.heap := ⟨_, rfl⟩
  obtain ⟨locs, hle⟩ : ∃ locs : List Loc, locs = [] := ⟨_, rfl⟩
  rw [← hHe] at hP
  have hS : va_S A s.heap H locs := by rw [hHe, hle]; exact hS
  show W p l e ({ frames := 1, cells := 0, slots := 0, locals := 22 } : Room) s m ([.ref p0a, .int p1, .int p2, .long p3] : List Value).toArray below meth c s.heap [] 0 0 Q (F0 m 0 ls [])
  rw [← hle]
  refine wH9 hHe ?_
  unfold fJ7_fill_bad5a at hrun
  refine lv_aload_n hx hb dJ7_fill_bad5a_0 rfl (lv_at hl 0 rfl) ?_
  refine va_alen (v := (Int32.ofNat p0n)) hx hb hK hP 0 0 rfl rfl rfl dJ7_fill_bad5a_1 ?_
  refine lv_iload_n hx hb dJ7_fill_bad5a_2 rfl (lv_at hl 1 rfl) ?_
  refine lv_iload_n hx hb dJ7_fill_bad5a_3 rfl (lv_at hl 2 rfl) ?_
  obtain ⟨o_1, hc_1, hrun⟩ := bnd9 hrun
  have hPx : va_P (dC, dI) cls ((List.flatten ([] : List va_W)) ++ (List.flatten ([[(p0a, .inl (p0k, p0n, .inr (.inl p0f)))]] : List va_W))) H := vP_fa (vP_perm hP (bP (List.Perm.refl _)))
  have hDx : va_D A ((List.flatten ([] : List va_W)) ++ (List.flatten ([[(p0a, .inl (p0k, p0n, .inr (.inl p0f)))]] : List va_W))) := vD_fa (vD_perm hD (bP (List.Perm.refl _)))
  have hKx : va_K (dC, dI) cls ((List.flatten ([] : List (List (ClassId × FieldType)))) ++ (List.flatten ([[(p0k, .long)]] : List (List (ClassId × FieldType))))) s := vK_fa (vK_perm hK (bP (List.Perm.refl _)))
  have hPc := vP_l hPx
  have hDc := vD_l hDx
  have hKc := vK_l hKx
  have hFc := vfree hDx hS hA
  refine va_callv (va_runS (As := [.int (Int32.ofNat p0n), .int p1, .int p2]) (rest := []) ⟨hx, hb, hml, hown, hts⟩ (kJ7_rangeCheck_23922 l dC dI (p0 := (Int32.ofNat p0n)) (p1 := p1) (p2 := p2) (sz := _) (o := o_1) (hrun := hc_1)) (va_cwS 3 hts (gi_S qw277 qw278 qw109 (gi_z qw276)) rfl rfl rfl (by decide +kernel) ⟨Nat.le_of_ble_eq_true rfl, Nat.le_of_ble_eq_true rfl⟩) ⟨PRE.blind, PRE.of hE hS hFc hPc hKc hDc⟩ rfl rfl hl.1 rfl (lv_room (Nat.le_of_ble_eq_true rfl)) dJ7_fill_bad5a_4 ⟨(Nat.le_of_ble_eq_true rfl), (Nat.le_of_ble_eq_true rfl)⟩) hS (fun q _ h => hFc q h) hFc (fun u t H locs ht hvm hw hB hz1 hk1 hS => ?_)
  obtain ⟨b1, b2, b3⟩ := hB
  rw [ht] at b1
  obtain ⟨hP, hD, hK⟩ := JOINC (wc := (List.flatten ([] : List va_W))) (wr := (List.flatten ([[(p0a, .inl (p0k, p0n, .inr (.inl p0f)))]] : List va_W))) (w1 := (List.flatten ([] : List va_W))) (t1 := (List.flatten ([] : List (List (ClassId × FieldType))))) hPx hDx hKx hk1 hFc b1 (va_K.moved hvm.symm b2) b3
  have hP : va_P (dC, dI) cls (List.flatten ([[(p0a, .inl (p0k, p0n, .inr (.inl p0f)))]] : List va_W)) H := vP_perm (vP_fb hP) (bP (List.Perm.refl _))
  have hD : va_D A (List.flatten ([[(p0a, .inl (p0k, p0n, .inr (.inl p0f)))]] : List va_W)) := vD_perm (vD_fb hD) (bP (List.Perm.refl _))
  have hK : va_K (dC, dI) cls (List.flatten ([[(p0k, .long)]] : List (List (ClassId × FieldType)))) s := vK_perm (vK_fb hK) (bP (List.Perm.refl _))
  refine lv_iload_n hx hb dJ7_fill_bad5a_7 rfl (lv_at hl 1 rfl) ?_
  refine lv_istore (lv' := [(5, .int p1), (0, .ref p0a), (1, .int p1), (2, .int p2), (3, .long p3)]) hx hb dJ7_fill_bad5a_8 hl (by decide) rfl (fun ls hl => ?_)
  have L10 : ∀ (n_10 : Nat) (v5_10 : Int32) (p0f_10 : RL) (o10 : RL) (H : Heap) (locs : List Loc) (ls : Array Slot), (fJ7_fill_bad5a_L10 p0n p2 p3 n_10) v5_10 p0f_10 = some o10 → va_P (dC, dI) cls (List.flatten ([[(p0a, .inl (p0k, p0n, .inr (.inl p0f_10)))]] : List va_W)) H → va_D A (List.flatten ([[(p0a, .inl (p0k, p0n, .inr (.inl p0f_10)))]] : List va_W)) → va_K (dC, dI) cls (List.flatten ([[(p0k, .long)]] : List (List (ClassId × FieldType)))) s → va_S A s.heap H locs → lv_has ls 6 [(0, .ref p0a), (2, .int p2), (3, .long p3), (5, .int v5_10)] → (∀ (H : Heap) (locs : List Loc) (ls : Array Slot), va_P (dC, dI) cls (List.flatten ([[(p0a, .inl (p0k, p0n, .inr (.inl o10)))]] : List va_W)) H → va_D A (List.flatten ([[(p0a, .inl (p0k, p0n, .inr (.inl o10)))]] : List va_W)) → va_K (dC, dI) cls (List.flatten ([[(p0k, .long)]] : List (List (ClassId × FieldType)))) s → va_S A s.heap H locs → lv_has ls 6 [] → W p l e ({ frames := 1, cells := 0, slots := 0, locals := 22 } : Room) s m ([.ref p0a, .int p1, .int p2, .long p3] : List Value).toArray below meth c H locs 0 0 Q (F0 m 27 ls [])) → W p l e ({ frames := 1, cells := 0, slots := 0, locals := 22 } : Room) s m ([.ref p0a, .int p1, .int p2, .long p3] : List Value).toArray below meth c H locs 0 0 Q (F0 m 10 ls []) := by
    intro n_10
    induction n_10 with
    | zero => intro v5_10 p0f_10 o10 H locs ls hrun; exact (no9 rfl hrun).elim
    | succ n_10 IH10 =>
      intro v5_10 p0f_10 o10 H locs ls hrun hP hD hK hS hl hk10
      unfold fJ7_fill_bad5a_L10 at hrun
      refine lv_iload hx hb dJ7_fill_bad5a_10 (lv_at hl 3 rfl) ?_
      refine lv_iload_n hx hb dJ7_fill_bad5a_12 rfl (lv_at hl 1 rfl) ?_
      rcases br9 hrun with ⟨hc2, hrun⟩ | ⟨hc2, hrun⟩
      · refine lv_icmp_ge (tgt := 27) hx hb dJ7_fill_bad5a_13 (by decide) (fun _ => ?_) (fun c => absurd hc2 c)
        obtain rfl := (Option.some.inj hrun)
        exact hk10 _ _ _ hP hD hK hS (lv_sub hl [] rfl)
      · refine lv_icmp_ge (tgt := 27) hx hb dJ7_fill_bad5a_13 (by decide) (fun c => absurd c hc2) (fun _ => ?_)
        refine lv_aload_n hx hb dJ7_fill_bad5a_16 rfl (lv_at hl 0 rfl) ?_
        refine lv_iload hx hb dJ7_fill_bad5a_17 (lv_at hl 3 rfl) ?_
        refine lv_lload_n hx hb dJ7_fill_bad5a_19 rfl (lv_at hl 2 rfl) ?_
        obtain ⟨hq3, hrun⟩ := chk9 hrun
        refine va_last hx hb hK hP hD hS 0 0 rfl rfl (ixb_in hq3) dJ7_fill_bad5a_20 (fun H locs hP hD hS => ?_)
        have hP : va_P (dC, dI) cls (List.flatten ([[(p0a, .inl (p0k, p0n, .inr (.inl (vp_updL p0f_10 (nn v5_10) p3))))]] : List va_W)) H := hP
        have hD : va_D A (List.flatten ([[(p0a, .inl (p0k, p0n, .inr (.inl (vp_updL p0f_10 (nn v5_10) p3))))]] : List va_W)) := hD
        obtain ⟨f4, ef4, hrun⟩ := let9 hrun
        rw [← ef4] at hP hD
        refine lv_iinc (v := (v5_10 + 1)) (lv' := [(5, .int (v5_10 + 1)), (0, .ref p0a), (2, .int p2), (3, .long p3)]) hx hb dJ7_fill_bad5a_21 hl (k := 3) rfl rfl (by decide) rfl (fun ls hl => ?_)
        refine lv_goto (tgt := 10) hx hb dJ7_fill_bad5a_24 (by decide) ?_
        exact IH10 (v5_10 + 1) f4 o10 _ _ _ hrun hP hD hK hS (lv_sub hl [1, 2, 3, 0] rfl) hk10
  obtain ⟨o10, hc10, hrun⟩ := bnd9 hrun
  refine L10 NF p1 p0f o10 _ _ _ hc10 hP hD hK hS (lv_sub hl [1, 3, 4, 0] rfl) ?_
  intro H locs ls hP hD hK hS hl
  have hl := hl
  have ho9 : o10 = o := Option.some.inj hrun
  have hP9 : va_P (dC, dI) cls (List.flatten ([[(p0a, .inl (p0k, p0n, .inr (.inl o)))]] : List va_W)) H := by first | exact hP | (rw [← ho9]; exact hP)
  have hD9 : va_D A (List.flatten ([[(p0a, .inl (p0k, p0n, .inr (.inl o)))]] : List va_W)) := by first | exact hD | (rw [← ho9]; exact hD)
  subst hQ
  exact W.vret hx hb hr (fun t ht hW => ⟨⟨(), rfl, trivial, ⟨by rw [ht]; exact hP9, va_K.moved hW.alike hK, hD9⟩⟩, hS.F ht⟩) hS.2.2 dJ7_fill_bad5a_27
def fX2_put (p0w : ST) (p1n : Nat) (p1f : RL) (p2 : Int32) (p3 : Int32) : Option RL := (if ixb ((p2 * (p0w 0 2)) + (p3 >>> (6 &&& 31))) p1n = true then (if ixb ((p2 * (p0w 0 2)) + (p3 >>> (6 &&& 31))) p1n = true then (lt9 (vp_updL p1f (nn ((p2 * (p0w 0 2)) + (p3 >>> (6 &&& 31)))) ((p1f (nn ((p2 * (p0w 0 2)) + (p3 >>> (6 &&& 31))))) ||| (((1 : Int64) <<< (((p3 &&& 63) : Int32).toInt64 &&& 63))))) fun (f3 : RL) => some f3) else none) else none)
set_option maxHeartbeats 16000000 in
set_option maxRecDepth 100000 in
theorem kX2_put {zs : ZS} (l : Launch) (dC : Nat → ClassId) (dI : Nat → Nat → Nat) (p0a : Nat → Nat) (p0k : Nat → ClassId) (p0n : Nat → Nat) (p0w : ST) (p0l : SL) (p1a : Nat) (p1k : ClassId) (p1n : Nat) (p1f : RL) (p2 : Int32) (p3 : Int32) (sz : Nat) (o : RL) (hrun : fX2_put p0w p1n p1f p2 p3 = some o) : Met l yX2_put (wz yX2_put cX2_put 4 (Option.none : Option Jvm.ClassFile.FieldType)) ({ frames := 0, cells := 0, slots := 0, locals := 0 } : Room) (va_Pc [.ref (p0a 0), .ref p1a, .int p2, .int p3] (PRE zs dC dI (List.flatten ([(oX2 (p0a 0) p0a p0k p0n p0w p0l), [(p1a, .inl (p1k, p1n, .inr (.inl p1f)))]] : List va_W)) (List.flatten ([(tX2 p0k), [(p1k, .long)]] : List (List (ClassId × FieldType)))) sz)) (va_Qv (fun (_ : Unit) => True) (fun _ t => POST dC dI (List.flatten ([(oX2 (p0a 0) p0a p0k p0n p0w p0l), [(p1a, .inl (p1k, p1n, .inr (.inl o)))]] : List va_W)) (List.flatten ([(tX2 p0k), [(p1k, .long)]] : List (List (ClassId × FieldType)))) (va_A (List.flatten ([(oX2 (p0a 0) p0a p0k p0n p0w p0l), [(p1a, .inl (p1k, p1n, .inr (.inl p1f)))]] : List va_W)) sz) t) (va_A (List.flatten ([(oX2 (p0a 0) p0a p0k p0n p0w p0l), [(p1a, .inl (p1k, p1n, .inr (.inl p1f)))]] : List va_W)) sz)) 0 0 (va_A (List.flatten ([(oX2 (p0a 0) p0a p0k p0n p0w p0l), [(p1a, .inl (p1k, p1n, .inr (.inl p1f)))]] : List va_W)) sz) := by
  refine Met.ofW (cc := cX2_put) (maxL := 4) (ret := (Option.none : Option Jvm.ClassFile.FieldType)) (by decide) rfl ?_
  intro p e s m args below meth c s₁ B hml hv
  obtain ⟨rfl, hsz, hP, hK, hD0, hE⟩ := hv
  have hx := B.exec
  have hb := B.bytes
  have hr := B.returns
  have hts0 := atoms_spec (ws := wz yX2_put cX2_put 4 (Option.none : Option Jvm.ClassFile.FieldType)) B.pre
  have hts : ∀ w ∈ gw, w.before _ s = true := fun w h => hts0 w (List.mem_cons_of_mem _ h)
  have hown : s.vm.findClass RX2 = some m.cls := findClass_of_methodNamed B.named
  have hlocks := B.notSynchronized
  subst hsz
  have hD := hD0.self (sz := s.heap.size)
  refine gQ9 ?_
  intro Q hQ
  generalize hAe : va_A (List.flatten ([(oX2 (p0a 0) p0a p0k p0n p0w p0l), [(p1a, .inl (p1k, p1n, .inr (.inl p1f)))]] : List va_W)) s.heap.size = A at hD hE hQ
  have hA : ∀ q : Nat, s.heap.size ≤ q → A q := fun q h => by rw [← hAe]; exact Or.inr h
  have hS : va_S A s.heap s.heap [] := va_S.rf
  have hP : va_P (dC, dI) cls (List.flatten ([(oX2 (p0a 0) p0a p0k p0n p0w p0l), [(p1a, .inl (p1k, p1n, .inr (.inl p1f)))]] : List va_W)) s.heap := hP
  have hl := lv_entry ([.ref (p0a 0), .ref p1a, .int p2, .int p3]) (n := 4) (Nat.le_of_ble_eq_true rfl)
  rw [lg_entry_eq]
  generalize (lg_sl ([.ref (p0a 0), .ref p1a, .int p2, .int p3]) ++ List.replicate (4 - (lg_sl ([.ref (p0a 0), .ref p1a, .int p2, .int p3])).length) Slot.unset).toArray = ls at hl ⊢
  have hl : lv_has ls 4 [(0, .ref (p0a 0)), (1, .ref p1a), (2, .int p2), (3, .int p3)] := hl
  obtain ⟨H, hHe⟩ : ∃ H, H = s.heap := ⟨_, rfl⟩
  obtain ⟨locs, hle⟩ : ∃ locs : List Loc, locs = [] := ⟨_, rfl⟩
  rw [← hHe] at hP
  have hS : va_S A s.heap H locs := by rw [hHe, hle]; exact hS
  show W p l e ({ frames := 0, cells := 0, slots := 0, locals := 0 } : Room) s m ([.ref (p0a 0), .ref p1a, .int p2, .int p3] : List Value).toArray below meth c s.heap [] 0 0 Q (F0 m 0 ls [])
  rw [← hle]
  refine wH9 hHe ?_
  unfold fX2_put at hrun
  refine lv_aload_n hx hb dX2_put_0 rfl (lv_at hl 1 rfl) ?_
  refine lv_iload_n hx hb dX2_put_1 rfl (lv_at hl 2 rfl) ?_
  refine lv_aload_n hx hb dX2_put_2 rfl (lv_at hl 0 rfl) ?_
  refine va_get (D := (dC, dI)) (ci := 9) (v := .int (p0w 0 2)) (C := RX2) (T := TX2) (N := 19) hx hb hts i_X2 hown hK hP 0 rfl rfl 2 (by decide) (hts _ qw669) (fun _ h9 => h9) rfl dX2_put_3 ?_
  refine lv_imul hx hb dX2_put_6 ?_
  refine lv_iload_n hx hb dX2_put_7 rfl (lv_at hl 3 rfl) ?_
  refine lv_bipush (v := 6) hx hb dX2_put_8 (by decide) ?_
  refine lv_ishr hx hb dX2_put_10 ?_
  refine lv_iadd hx hb dX2_put_11 ?_
  refine lv_dup2_11 hx hb dX2_put_12 rfl rfl ?_
  obtain ⟨hq1, hrun⟩ := chk9 hrun
  refine va_lald hx hb hK hP 16 15 rfl rfl (ixb_in hq1) dX2_put_13 ?_
  refine lv_lconst (v := 1) hx hb dX2_put_14 (by decide) ?_
  refine lv_iload_n hx hb dX2_put_15 rfl (lv_at hl 3 rfl) ?_
  refine lv_bipush (v := 63) hx hb dX2_put_16 (by decide) ?_
  refine lv_iand hx hb dX2_put_18 ?_
  refine lv_lshl (v := (((1 : Int64) <<< (((p3 &&& 63) : Int32).toInt64 &&& 63)))) hx hb dX2_put_19 rfl ?_
  refine lv_lor hx hb dX2_put_20 ?_
  obtain ⟨hq2, hrun⟩ := chk9 hrun
  refine va_last hx hb hK hP hD hS 16 15 rfl rfl (ixb_in hq2) dX2_put_21 (fun H locs hP hD hS => ?_)
  have hP : va_P (dC, dI) cls (List.flatten ([(oX2 (p0a 0) p0a p0k p0n p0w p0l), [(p1a, .inl (p1k, p1n, .inr (.inl (vp_updL p1f (nn ((p2 * (p0w 0 2)) + (p3 >>> (6 &&& 31)))) ((p1f (nn ((p2 * (p0w 0 2)) + (p3 >>> (6 &&& 31))))) ||| (((1 : Int64) <<< (((p3 &&& 63) : Int32).toInt64 &&& 63))))))))]] : List va_W)) H := hP
  have hD : va_D A (List.flatten ([(oX2 (p0a 0) p0a p0k p0n p0w p0l), [(p1a, .inl (p1k, p1n, .inr (.inl (vp_updL p1f (nn ((p2 * (p0w 0 2)) + (p3 >>> (6 &&& 31)))) ((p1f (nn ((p2 * (p0w 0 2)) + (p3 >>> (6 &&& 31))))) ||| (((1 : Int64) <<< (((p3 &&& 63) : Int32).toInt64 &&& 63))))))))]] : List va_W)) := hD
  obtain ⟨f3, ef3, hrun⟩ := let9 hrun
  rw [← ef3] at hP hD
  have ho9 : f3 = o := Option.some.inj hrun
  have hP9 : va_P (dC, dI) cls (List.flatten ([(oX2 (p0a 0) p0a p0k p0n p0w p0l), [(p1a, .inl (p1k, p1n, .inr (.inl o)))]] : List va_W)) H := by first | exact hP | (rw [← ho9]; exact hP)
  have hD9 : va_D A (List.flatten ([(oX2 (p0a 0) p0a p0k p0n p0w p0l), [(p1a, .inl (p1k, p1n, .inr (.inl o)))]] : List va_W)) := by first | exact hD | (rw [← ho9]; exact hD)
  subst hQ
  exact W.vret hx hb hr (fun t ht hW => ⟨⟨(), rfl, trivial, ⟨by rw [ht]; exact hP9, va_K.moved hW.alike hK, hD9⟩⟩, hS.F ht⟩) hS.2.2 dX2_put_22
def fX2_put_a1_p0_4 (p0n : Nat → Nat) (p0w : ST) (p0l : SL) (p2 : Int32) (p3 : Int32) : Option SL := (if ixb ((p2 * (p0w 0 2)) + (p3 >>> (6 &&& 31))) (p0n 5) = true then (if ixb ((p2 * (p0w 0 2)) + (p3 >>> (6 &&& 31))) (p0n 5) = true then (lt9 (upl p0l 5 (nn ((p2 * (p0w 0 2)) + (p3 >>> (6 &&& 31)))) ((p0l 5 (nn ((p2 * (p0w 0 2)) + (p3 >>> (6 &&& 31))))) ||| (((1 : Int64) <<< (((p3 &&& 63) : Int32).toInt64 &&& 63))))) fun (l3 : SL) => some l3) else none) else none)
set_option maxHeartbeats 16000000 in
set_option maxRecDepth 100000 in
theorem kX2_put_a1_p0_4 {zs : ZS} (l : Launch) (dC : Nat → ClassId) (dI : Nat → Nat → Nat) (p0a : Nat → Nat) (p0k : Nat → ClassId) (p0n : Nat → Nat) (p0w : ST) (p0l : SL) (p2 : Int32) (p3 : Int32) (sz : Nat) (o : SL) (hrun : fX2_put_a1_p0_4 p0n p0w p0l p2 p3 = some o) : Met l yX2_put (wz yX2_put cX2_put 4 (Option.none : Option Jvm.ClassFile.FieldType)) ({ frames := 0, cells := 0, slots := 0, locals := 0 } : Room) (va_Pc [.ref (p0a 0), .ref (p0a 5), .int p2, .int p3] (PRE zs dC dI (List.flatten ([(oX2 (p0a 0) p0a p0k p0n p0w p0l)] : List va_W)) (List.flatten ([(tX2 p0k)] : List (List (ClassId × FieldType)))) sz)) (va_Qv (fun (_ : Unit) => True) (fun _ t => POST dC dI (List.flatten ([(oX2 (p0a 0) p0a p0k p0n p0w o)] : List va_W)) (List.flatten ([(tX2 p0k)] : List (List (ClassId × FieldType)))) (va_A (List.flatten ([(oX2 (p0a 0) p0a p0k p0n p0w p0l)] : List va_W)) sz) t) (va_A (List.flatten ([(oX2 (p0a 0) p0a p0k p0n p0w p0l)] : List va_W)) sz)) 0 0 (va_A (List.flatten ([(oX2 (p0a 0) p0a p0k p0n p0w p0l)] : List va_W)) sz) := by
  refine Met.ofW (cc := cX2_put) (maxL := 4) (ret := (Option.none : Option Jvm.ClassFile.FieldType)) (by decide) rfl ?_
  intro p e s m args below meth c s₁ B hml hv
  obtain ⟨rfl, hsz, hP, hK, hD0, hE⟩ := hv
  have hx := B.exec
  have hb := B.bytes
  have hr := B.returns
  have hts0 := atoms_spec (ws := wz yX2_put cX2_put 4 (Option.none : Option Jvm.ClassFile.FieldType)) B.pre
  have hts : ∀ w ∈ gw, w.before _ s = true := fun w h => hts0 w (List.mem_cons_of_mem _ h)
  have hown : s.vm.findClass RX2 = some m.cls := findClass_of_methodNamed B.named
  have hlocks := B.notSynchronized
  subst hsz
  have hD := hD0.self (sz := s.heap.size)
  refine gQ9 ?_
  intro Q hQ
  generalize hAe : va_A (List.flatten ([(oX2 (p0a 0) p0a p0k p0n p0w p0l)] : List va_W)) s.heap.size = A at hD hE hQ
  have hA : ∀ q : Nat, s.heap.size ≤ q → A q := fun q h => by rw [← hAe]; exact Or.inr h
  have hS : va_S A s.heap s.heap [] := va_S.rf
  have hP : va_P (dC, dI) cls (List.flatten ([(oX2 (p0a 0) p0a p0k p0n p0w p0l)] : List va_W)) s.heap := hP
  have hl := lv_entry ([.ref (p0a 0), .ref (p0a 5), .int p2, .int p3]) (n := 4) (Nat.le_of_ble_eq_true rfl)
  rw [lg_entry_eq]
  generalize (lg_sl ([.ref (p0a 0), .ref (p0a 5), .int p2, .int p3]) ++ List.replicate (4 - (lg_sl ([.ref (p0a 0), .ref (p0a 5), .int p2, .int p3])).length) Slot.unset).toArray = ls at hl ⊢
  have hl : lv_has ls 4 [(0, .ref (p0a 0)), (1, .ref (p0a 5)), (2, .int p2), (3, .int p3)] := hl
  obtain ⟨H, hHe⟩ : ∃ H, H = s.heap := ⟨_, rfl⟩
  obtain ⟨locs, hle⟩ : ∃ locs : List Loc, locs = [] := ⟨_, rfl⟩
  rw [← hHe] at hP
  have hS : va_S A s.heap H locs := by rw [hHe, hle]; exact hS
  show W p l e ({ frames := 0, cells := 0, slots := 0, locals := 0 } : Room) s m ([.ref (p0a 0), .ref (p0a 5), .int p2, .int p3] : List Value).toArray below meth c s.heap [] 0 0 Q (F0 m 0 ls [])
  rw [← hle]
  refine wH9 hHe ?_
  unfold fX2_put_a1_p0_4 at hrun
  refine lv_aload_n hx hb dX2_put_0 rfl (lv_at hl 1 rfl) ?_
  refine lv_iload_n hx hb dX2_put_1 rfl (lv_at hl 2 rfl) ?_
  refine lv_aload_n hx hb dX2_put_2 rfl (lv_at hl 0 rfl) ?_
  refine va_get (D := (dC, dI)) (ci := 9) (v := .int (p0w 0 2)) (C := RX2) (T := TX2) (N := 19) hx hb hts i_X2 hown hK hP 0 rfl rfl 2 (by decide) (hts _ qw669) (fun _ h9 => h9) rfl dX2_put_3 ?_
  refine lv_imul hx hb dX2_put_6 ?_
  refine lv_iload_n hx hb dX2_put_7 rfl (lv_at hl 3 rfl) ?_
  refine lv_bipush (v := 6) hx hb dX2_put_8 (by decide) ?_
  refine lv_ishr hx hb dX2_put_10 ?_
  refine lv_iadd hx hb dX2_put_11 ?_
  refine lv_dup2_11 hx hb dX2_put_12 rfl rfl ?_
  obtain ⟨hq1, hrun⟩ := chk9 hrun
  refine va_lald hx hb hK hP 2 1 rfl rfl (ixb_in hq1) dX2_put_13 ?_
  refine lv_lconst (v := 1) hx hb dX2_put_14 (by decide) ?_
  refine lv_iload_n hx hb dX2_put_15 rfl (lv_at hl 3 rfl) ?_
  refine lv_bipush (v := 63) hx hb dX2_put_16 (by decide) ?_
  refine lv_iand hx hb dX2_put_18 ?_
  refine lv_lshl (v := (((1 : Int64) <<< (((p3 &&& 63) : Int32).toInt64 &&& 63)))) hx hb dX2_put_19 rfl ?_
  refine lv_lor hx hb dX2_put_20 ?_
  obtain ⟨hq2, hrun⟩ := chk9 hrun
  refine va_last hx hb hK hP hD hS 2 1 rfl rfl (ixb_in hq2) dX2_put_21 (fun H locs hP hD hS => ?_)
  have hP : va_P (dC, dI) cls (List.flatten ([(oX2 (p0a 0) p0a p0k p0n p0w (upl p0l 5 (nn ((p2 * (p0w 0 2)) + (p3 >>> (6 &&& 31)))) ((p0l 5 (nn ((p2 * (p0w 0 2)) + (p3 >>> (6 &&& 31))))) ||| (((1 : Int64) <<< (((p3 &&& 63) : Int32).toInt64 &&& 63))))))] : List va_W)) H := hP
  have hD : va_D A (List.flatten ([(oX2 (p0a 0) p0a p0k p0n p0w (upl p0l 5 (nn ((p2 * (p0w 0 2)) + (p3 >>> (6 &&& 31)))) ((p0l 5 (nn ((p2 * (p0w 0 2)) + (p3 >>> (6 &&& 31))))) ||| (((1 : Int64) <<< (((p3 &&& 63) : Int32).toInt64 &&& 63))))))] : List va_W)) := hD
  obtain ⟨l3, el3, hrun⟩ := let9 hrun
  rw [← el3] at hP hD
  have ho9 : l3 = o := Option.some.inj hrun
  have hP9 : va_P (dC, dI) cls (List.flatten ([(oX2 (p0a 0) p0a p0k p0n p0w o)] : List va_W)) H := by first | exact hP | (rw [← ho9]; exact hP)
  have hD9 : va_D A (List.flatten ([(oX2 (p0a 0) p0a p0k p0n p0w o)] : List va_W)) := by first | exact hD | (rw [← ho9]; exact hD)
  subst hQ
  exact W.vret hx hb hr (fun t ht hW => ⟨⟨(), rfl, trivial, ⟨by rw [ht]; exact hP9, va_K.moved hW.alike hK, hD9⟩⟩, hS.F ht⟩) hS.2.2 dX2_put_22
def fX2_isIn (p0w : ST) (p1n : Nat) (p1f : RL) (p2 : Int32) (p3 : Int32) : Option Int32 := (if ixb ((p2 * (p0w 0 2)) + (p3 >>> (6 &&& 31))) p1n = true then ((fX11_holds (p1f (nn ((p2 * (p0w 0 2)) + (p3 >>> (6 &&& 31))))) (p3 &&& 63)).bind fun (o_2 : Int32) => (if o_2 = 0 ∨ o_2 = 1 then some o_2 else none)) else none)
set_option maxHeartbeats 16000000 in
set_option maxRecDepth 100000 in
theorem kX2_isIn {zs : ZS} (l : Launch) (dC : Nat → ClassId) (dI : Nat → Nat → Nat) (p0a : Nat → Nat) (p0k : Nat → ClassId) (p0n : Nat → Nat) (p0w : ST) (p0l : SL) (p1a : Nat) (p1k : ClassId) (p1n : Nat) (p1f : RL) (p2 : Int32) (p3 : Int32) (sz : Nat) (o : Int32) (hrun : fX2_isIn p0w p1n p1f p2 p3 = some o) : Met l yX2_isIn (wz yX2_isIn cX2_isIn 4 (Option.some Jvm.ClassFile.FieldType.boolean)) ({ frames := 1, cells := 0, slots := 0, locals := 22 } : Room) (va_Pc [.ref (p0a 0), .ref p1a, .int p2, .int p3] (PRE zs dC dI (List.flatten ([(oX2 (p0a 0) p0a p0k p0n p0w p0l), [(p1a, .inl (p1k, p1n, .inr (.inl p1f)))]] : List va_W)) (List.flatten ([(tX2 p0k), [(p1k, .long)]] : List (List (ClassId × FieldType)))) sz)) (va_Qi (fun (r : Int32) (_ : Unit) => r = o) (fun _ t => POST dC dI (List.flatten ([(oX2 (p0a 0) p0a p0k p0n p0w p0l), [(p1a, .inl (p1k, p1n, .inr (.inl p1f)))]] : List va_W)) (List.flatten ([(tX2 p0k), [(p1k, .long)]] : List (List (ClassId × FieldType)))) (va_A (List.flatten ([(oX2 (p0a 0) p0a p0k p0n p0w p0l), [(p1a, .inl (p1k, p1n, .inr (.inl p1f)))]] : List va_W)) sz) t) (va_A (List.flatten ([(oX2 (p0a 0) p0a p0k p0n p0w p0l), [(p1a, .inl (p1k, p1n, .inr (.inl p1f)))]] : List va_W)) sz)) 0 0 (va_A (List.flatten ([(oX2 (p0a 0) p0a p0k p0n p0w p0l), [(p1a, .inl (p1k, p1n, .inr (.inl p1f)))]] : List va_W)) sz) := by
  refine Met.ofW (cc := cX2_isIn) (maxL := 4) (ret := (Option.some Jvm.ClassFile.FieldType.boolean)) (by decide) rfl ?_
  intro p e s m args below meth c s₁ B hml hv
  obtain ⟨rfl, hsz, hP, hK, hD0, hE⟩ := hv
  have hx := B.exec
  have hb := B.bytes
  have hr := B.returns
  have hts0 := atoms_spec (ws := wz yX2_isIn cX2_isIn 4 (Option.some Jvm.ClassFile.FieldType.boolean)) B.pre
  have hts : ∀ w ∈ gw, w.before _ s = true := fun w h => hts0 w (List.mem_cons_of_mem _ h)
  have hown : s.vm.findClass RX2 = some m.cls := findClass_of_methodNamed B.named
  have hlocks := B.notSynchronized
  subst hsz
  have hD := hD0.self (sz := s.heap.size)
  refine gQ9 ?_
  intro Q hQ
  generalize hAe : va_A (List.flatten ([(oX2 (p0a 0) p0a p0k p0n p0w p0l), [(p1a, .inl (p1k, p1n, .inr (.inl p1f)))]] : List va_W)) s.heap.size = A at hD hE hQ
  have hA : ∀ q : Nat, s.heap.size ≤ q → A q := fun q h => by rw [← hAe]; exact Or.inr h
  have hS : va_S A s.heap s.heap [] := va_S.rf
  have hP : va_P (dC, dI) cls (List.flatten ([(oX2 (p0a 0) p0a p0k p0n p0w p0l), [(p1a, .inl (p1k, p1n, .inr (.inl p1f)))]] : List va_W)) s.heap := hP
  have hl := lv_entry ([.ref (p0a 0), .ref p1a, .int p2, .int p3]) (n := 4) (Nat.le_of_ble_eq_true rfl)
  rw [lg_entry_eq]
  generalize (lg_sl ([.ref (p0a 0), .ref p1a, .int p2, .int p3]) ++ List.replicate (4 - (lg_sl ([.ref (p0a 0), .ref p1a, .int p2, .int p3])).length) Slot.unset).toArray = ls at hl ⊢
  have hl : lv_has ls 4 [(0, .ref (p0a 0)), (1, .ref p1a), (2, .int p2), (3, .int p3)] := hl
  obtain ⟨H, hHe⟩ : ∃ H, H = s.heap := ⟨_, rfl⟩
  obtain ⟨locs, hle⟩ : ∃ locs : List Loc, locs = [] := ⟨_, rfl⟩
  rw [← hHe] at hP
  have hS : va_S A s.heap H locs := by rw [hHe, hle]; exact hS
  show W p l e ({ frames := 1, cells := 0, slots := 0, locals := 22 } : Room) s m ([.ref (p0a 0), .ref p1a, .int p2, .int p3] : List Value).toArray below meth c s.heap [] 0 0 Q (F0 m 0 ls [])
  rw [← hle]
  refine wH9 hHe ?_
  unfold fX2_isIn at hrun
  refine lv_aload_n hx hb dX2_isIn_0 rfl (lv_at hl 1 rfl) ?_
  refine lv_iload_n hx hb dX2_isIn_1 rfl (lv_at hl 2 rfl) ?_
  refine lv_aload_n hx hb dX2_isIn_2 rfl (lv_at hl 0 rfl) ?_
  refine va_get (D := (dC, dI)) (ci := 9) (v := .int (p0w 0 2)) (C := RX2) (T := TX2) (N := 19) hx hb hts i_X2 hown hK hP 0 rfl rfl 2 (by decide) (hts _ qw669) (fun _ h9 => h9) rfl dX2_isIn_3 ?_
  refine lv_imul hx hb dX2_isIn_6 ?_
  refine lv_iload_n hx hb dX2_isIn_7 rfl (lv_at hl 3 rfl) ?_
  refine lv_bipush (v := 6) hx hb dX2_isIn_8 (by decide) ?_
  refine lv_ishr hx hb dX2_isIn_10 ?_
  refine lv_iadd hx hb dX2_isIn_11 ?_
  obtain ⟨hq1, hrun⟩ := chk9 hrun
  refine va_lald hx hb hK hP 16 15 rfl rfl (ixb_in hq1) dX2_isIn_12 ?_
  refine lv_iload_n hx hb dX2_isIn_13 rfl (lv_at hl 3 rfl) ?_
  refine lv_bipush (v := 63) hx hb dX2_isIn_14 (by decide) ?_
  refine lv_iand hx hb dX2_isIn_16 ?_
  obtain ⟨o_2, hc_2, hrun⟩ := bnd9 hrun
  have hPx : va_P (dC, dI) cls ((List.flatten ([] : List va_W)) ++ (List.flatten ([(oX2 (p0a 0) p0a p0k p0n p0w p0l), [(p1a, .inl (p1k, p1n, .inr (.inl p1f)))]] : List va_W))) H := vP_fa (vP_perm hP (bP (List.Perm.refl _)))
  have hDx : va_D A ((List.flatten ([] : List va_W)) ++ (List.flatten ([(oX2 (p0a 0) p0a p0k p0n p0w p0l), [(p1a, .inl (p1k, p1n, .inr (.inl p1f)))]] : List va_W))) := vD_fa (vD_perm hD (bP (List.Perm.refl _)))
  have hKx : va_K (dC, dI) cls ((List.flatten ([] : List (List (ClassId × FieldType)))) ++ (List.flatten ([(tX2 p0k), [(p1k, .long)]] : List (List (ClassId × FieldType))))) s := vK_fa (vK_perm hK (bP (List.Perm.refl _)))
  have hPc := vP_l hPx
  have hDc := vD_l hDx
  have hKc := vK_l hKx
  have hFc := vfree hDx hS hA
  refine va_calli (va_runSN (As := [.long (p1f (nn ((p2 * (p0w 0 2)) + (p3 >>> (6 &&& 31))))), .int (p3 &&& 63)]) (rest := []) ⟨hx, hb, hml, hown, hts⟩ (kX11_holds l dC dI (p0 := (p1f (nn ((p2 * (p0w 0 2)) + (p3 >>> (6 &&& 31)))))) (p1 := (p3 &&& 63)) (sz := _) (o := o_2) (hrun := hc_2)) ⟨(va_cnB 2 hts (gi_z qw192) rfl rfl rfl (hE.nw (List.mem_append_right _ (tbl_8 (i := 223) rfl)) rfl) (hts _ qw129) (by decide +kernel) ⟨Nat.le_of_ble_eq_true rfl, Nat.le_of_ble_eq_true rfl⟩), (hts _ qw193), trivial⟩ ⟨PRE.blind, PRE.of hE hS hFc hPc hKc hDc⟩ rfl rfl hl.1 rfl (lv_room (Nat.le_of_ble_eq_true rfl)) dX2_isIn_17 ⟨(Nat.le_of_ble_eq_true rfl), (Nat.le_of_ble_eq_true rfl)⟩) hS (fun q _ h => hFc q h) hFc (fun r3 u t H locs ht hvm hw hB hz1 hk1 hS => ?_)
  obtain ⟨b1, b2, b3⟩ := hB
  rw [ht] at b1
  obtain ⟨hP, hD, hK⟩ := JOINC (wc := (List.flatten ([] : List va_W))) (wr := (List.flatten ([(oX2 (p0a 0) p0a p0k p0n p0w p0l), [(p1a, .inl (p1k, p1n, .inr (.inl p1f)))]] : List va_W))) (w1 := (List.flatten ([] : List va_W))) (t1 := (List.flatten ([] : List (List (ClassId × FieldType))))) hPx hDx hKx hk1 hFc b1 (va_K.moved hvm.symm b2) b3
  have hP : va_P (dC, dI) cls (List.flatten ([(oX2 (p0a 0) p0a p0k p0n p0w p0l), [(p1a, .inl (p1k, p1n, .inr (.inl p1f)))]] : List va_W)) H := vP_perm (vP_fb hP) (bP (List.Perm.refl _))
  have hD : va_D A (List.flatten ([(oX2 (p0a 0) p0a p0k p0n p0w p0l), [(p1a, .inl (p1k, p1n, .inr (.inl p1f)))]] : List va_W)) := vD_perm (vD_fb hD) (bP (List.Perm.refl _))
  have hK : va_K (dC, dI) cls (List.flatten ([(tX2 p0k), [(p1k, .long)]] : List (List (ClassId × FieldType)))) s := vK_perm (vK_fb hK) (bP (List.Perm.refl _))
  obtain rfl : o_2 = r3 := hw.symm
  obtain ⟨hz9, hrun⟩ := chk9 hrun
  have ho9 : o_2 = o := Option.some.inj hrun
  have hP9 : va_P (dC, dI) cls (List.flatten ([(oX2 (p0a 0) p0a p0k p0n p0w p0l), [(p1a, .inl (p1k, p1n, .inr (.inl p1f)))]] : List va_W)) H := by first | exact hP | (rw [← ho9]; exact hP)
  have hD9 : va_D A (List.flatten ([(oX2 (p0a 0) p0a p0k p0n p0w p0l), [(p1a, .inl (p1k, p1n, .inr (.inl p1f)))]] : List va_W)) := by first | exact hD | (rw [← ho9]; exact hD)
  subst hQ
  exact W.zret (v := o_2) hx hb hr (bz9 hz9) (fun t ht hW => ⟨⟨o_2, (), rfl, (by rw [← ho9]), ⟨by rw [ht]; exact hP9, va_K.moved hW.alike hK, hD9⟩⟩, hS.F ht⟩) hS.2.2 dX2_isIn_20
def fX2_isIn_a1_p0_4 (p0n : Nat → Nat) (p0w : ST) (p0l : SL) (p2 : Int32) (p3 : Int32) : Option Int32 := (if ixb ((p2 * (p0w 0 2)) + (p3 >>> (6 &&& 31))) (p0n 5) = true then ((fX11_holds (p0l 5 (nn ((p2 * (p0w 0 2)) + (p3 >>> (6 &&& 31))))) (p3 &&& 63)).bind fun (o_2 : Int32) => (if o_2 = 0 ∨ o_2 = 1 then some o_2 else none)) else none)
set_option maxHeartbeats 16000000 in
set_option maxRecDepth 100000 in
theorem kX2_isIn_a1_p0_4 {zs : ZS} (l : Launch) (dC : Nat → ClassId) (dI : Nat → Nat → Nat) (p0a : Nat → Nat) (p0k : Nat → ClassId) (p0n : Nat → Nat) (p0w : ST) (p0l : SL) (p2 : Int32) (p3 : Int32) (sz : Nat) (o : Int32) (hrun : fX2_isIn_a1_p0_4 p0n p0w p0l p2 p3 = some o) : Met l yX2_isIn (wz yX2_isIn cX2_isIn 4 (Option.some Jvm.ClassFile.FieldType.boolean)) ({ frames := 1, cells := 0, slots := 0, locals := 22 } : Room) (va_Pc [.ref (p0a 0), .ref (p0a 5), .int p2, .int p3] (PRE zs dC dI (List.flatten ([(oX2 (p0a 0) p0a p0k p0n p0w p0l)] : List va_W)) (List.flatten ([(tX2 p0k)] : List (List (ClassId × FieldType)))) sz)) (va_Qi (fun (r : Int32) (_ : Unit) => r = o) (fun _ t => POST dC dI (List.flatten ([(oX2 (p0a 0) p0a p0k p0n p0w p0l)] : List va_W)) (List.flatten ([(tX2 p0k)] : List (List (ClassId × FieldType)))) (va_A (List.flatten ([(oX2 (p0a 0) p0a p0k p0n p0w p0l)] : List va_W)) sz) t) (va_A (List.flatten ([(oX2 (p0a 0) p0a p0k p0n p0w p0l)] : List va_W)) sz)) 0 0 (va_A (List.flatten ([(oX2 (p0a 0) p0a p0k p0n p0w p0l)] : List va_W)) sz) := by
  refine Met.ofW (cc := cX2_isIn) (maxL := 4) (ret := (Option.some Jvm.ClassFile.FieldType.boolean)) (by decide) rfl ?_
  intro p e s m args below meth c s₁ B hml hv
  obtain ⟨rfl, hsz, hP, hK, hD0, hE⟩ := hv
  have hx := B.exec
  have hb := B.bytes
  have hr := B.returns
  have hts0 := atoms_spec (ws := wz yX2_isIn cX2_isIn 4 (Option.some Jvm.ClassFile.FieldType.boolean)) B.pre
  have hts : ∀ w ∈ gw, w.before _ s = true := fun w h => hts0 w (List.mem_cons_of_mem _ h)
  have hown : s.vm.findClass RX2 = some m.cls := findClass_of_methodNamed B.named
  have hlocks := B.notSynchronized
  subst hsz
  have hD := hD0.self (sz := s.heap.size)
  refine gQ9 ?_
  intro Q hQ
  generalize hAe : va_A (List.flatten ([(oX2 (p0a 0) p0a p0k p0n p0w p0l)] : List va_W)) s.heap.size = A at hD hE hQ
  have hA : ∀ q : Nat, s.heap.size ≤ q → A q := fun q h => by rw [← hAe]; exact Or.inr h
  have hS : va_S A s.heap s.heap [] := va_S.rf
  have hP : va_P (dC, dI) cls (List.flatten ([(oX2 (p0a 0) p0a p0k p0n p0w p0l)] : List va_W)) s.heap := hP
  have hl := lv_entry ([.ref (p0a 0), .ref (p0a 5), .int p2, .int p3]) (n := 4) (Nat.le_of_ble_eq_true rfl)
  rw [lg_entry_eq]
  generalize (lg_sl ([.ref (p0a 0), .ref (p0a 5), .int p2, .int p3]) ++ List.replicate (4 - (lg_sl ([.ref (p0a 0), .ref (p0a 5), .int p2, .int p3])).length) Slot.unset).toArray = ls at hl ⊢
  have hl : lv_has ls 4 [(0, .ref (p0a 0)), (1, .ref (p0a 5)), (2, .int p2), (3, .int p3)] := hl
  obtain ⟨H, hHe⟩ : ∃ H, H = s.heap := ⟨_, rfl⟩
  obtain ⟨locs, hle⟩ : ∃ locs : List Loc, locs = [] := ⟨_, rfl⟩
  rw [← hHe] at hP
  have hS : va_S A s.heap H locs := by rw [hHe, hle]; exact hS
  show W p l e ({ frames := 1, cells := 0, slots := 0, locals := 22 } : Room) s m ([.ref (p0a 0), .ref (p0a 5), .int p2, .int p3] : List Value).toArray below meth c s.heap [] 0 0 Q (F0 m 0 ls [])
  rw [← hle]
  refine wH9 hHe ?_
  unfold fX2_isIn_a1_p0_4 at hrun
  refine lv_aload_n hx hb dX2_isIn_0 rfl (lv_at hl 1 rfl) ?_
  refine lv_iload_n hx hb dX2_isIn_1 rfl (lv_at hl 2 rfl) ?_
  refine lv_aload_n hx hb dX2_isIn_2 rfl (lv_at hl 0 rfl) ?_
  refine va_get (D := (dC, dI)) (ci := 9) (v := .int (p0w 0 2)) (C := RX2) (T := TX2) (N := 19) hx hb hts i_X2 hown hK hP 0 rfl rfl 2 (by decide) (hts _ qw669) (fun _ h9 => h9) rfl dX2_isIn_3 ?_
  refine lv_imul hx hb dX2_isIn_6 ?_
  refine lv_iload_n hx hb dX2_isIn_7 rfl (lv_at hl 3 rfl) ?_
  refine lv_bipush (v := 6) hx hb dX2_isIn_8 (by decide) ?_
  refine lv_ishr hx hb dX2_isIn_10 ?_
  refine lv_iadd hx hb dX2_isIn_11 ?_
  obtain ⟨hq1, hrun⟩ := chk9 hrun
  refine va_lald hx hb hK hP 2 1 rfl rfl (ixb_in hq1) dX2_isIn_12 ?_
  refine lv_iload_n hx hb dX2_isIn_13 rfl (lv_at hl 3 rfl) ?_
  refine lv_bipush (v := 63) hx hb dX2_isIn_14 (by decide) ?_
  refine lv_iand hx hb dX2_isIn_16 ?_
  obtain ⟨o_2, hc_2, hrun⟩ := bnd9 hrun
  have hPx : va_P (dC, dI) cls ((List.flatten ([] : List va_W)) ++ (List.flatten ([(oX2 (p0a 0) p0a p0k p0n p0w p0l)] : List va_W))) H := vP_fa (vP_perm hP (bP (List.Perm.refl _)))
  have hDx : va_D A ((List.flatten ([] : List va_W)) ++ (List.flatten ([(oX2 (p0a 0) p0a p0k p0n p0w p0l)] : List va_W))) := vD_fa (vD_perm hD (bP (List.Perm.refl _)))
  have hKx : va_K (dC, dI) cls ((List.flatten ([] : List (List (ClassId × FieldType)))) ++ (List.flatten ([(tX2 p0k)] : List (List (ClassId × FieldType))))) s := vK_fa (vK_perm hK (bP (List.Perm.refl _)))
  have hPc := vP_l hPx
  have hDc := vD_l hDx
  have hKc := vK_l hKx
  have hFc := vfree hDx hS hA
  refine va_calli (va_runSN (As := [.long (p0l 5 (nn ((p2 * (p0w 0 2)) + (p3 >>> (6 &&& 31))))), .int (p3 &&& 63)]) (rest := []) ⟨hx, hb, hml, hown, hts⟩ (kX11_holds l dC dI (p0 := (p0l 5 (nn ((p2 * (p0w 0 2)) + (p3 >>> (6 &&& 31)))))) (p1 := (p3 &&& 63)) (sz := _) (o := o_2) (hrun := hc_2)) ⟨(va_cnB 2 hts (gi_z qw192) rfl rfl rfl (hE.nw (List.mem_append_right _ (tbl_8 (i := 223) rfl)) rfl) (hts _ qw129) (by decide +kernel) ⟨Nat.le_of_ble_eq_true rfl, Nat.le_of_ble_eq_true rfl⟩), (hts _ qw193), trivial⟩ ⟨PRE.blind, PRE.of hE hS hFc hPc hKc hDc⟩ rfl rfl hl.1 rfl (lv_room (Nat.le_of_ble_eq_true rfl)) dX2_isIn_17 ⟨(Nat.le_of_ble_eq_true rfl), (Nat.le_of_ble_eq_true rfl)⟩) hS (fun q _ h => hFc q h) hFc (fun r3 u t H locs ht hvm hw hB hz1 hk1 hS => ?_)
  obtain ⟨b1, b2, b3⟩ := hB
  rw [ht] at b1
  obtain ⟨hP, hD, hK⟩ := JOINC (wc := (List.flatten ([] : List va_W))) (wr := (List.flatten ([(oX2 (p0a 0) p0a p0k p0n p0w p0l)] : List va_W))) (w1 := (List.flatten ([] : List va_W))) (t1 := (List.flatten ([] : List (List (ClassId × FieldType))))) hPx hDx hKx hk1 hFc b1 (va_K.moved hvm.symm b2) b3
  have hP : va_P (dC, dI) cls (List.flatten ([(oX2 (p0a 0) p0a p0k p0n p0w p0l)] : List va_W)) H := vP_perm (vP_fb hP) (bP (List.Perm.refl _))
  have hD : va_D A (List.flatten ([(oX2 (p0a 0) p0a p0k p0n p0w p0l)] : List va_W)) := vD_perm (vD_fb hD) (bP (List.Perm.refl _))
  have hK : va_K (dC, dI) cls (List.flatten ([(tX2 p0k)] : List (List (ClassId × FieldType)))) s := vK_perm (vK_fb hK) (bP (List.Perm.refl _))
  obtain rfl : o_2 = r3 := hw.symm
  obtain ⟨hz9, hrun⟩ := chk9 hrun
  have ho9 : o_2 = o := Option.some.inj hrun
  have hP9 : va_P (dC, dI) cls (List.flatten ([(oX2 (p0a 0) p0a p0k p0n p0w p0l)] : List va_W)) H := by first | exact hP | (rw [← ho9]; exact hP)
  have hD9 : va_D A (List.flatten ([(oX2 (p0a 0) p0a p0k p0n p0w p0l)] : List va_W)) := by first | exact hD | (rw [← ho9]; exact hD)
  subst hQ
  exact W.zret (v := o_2) hx hb hr (bz9 hz9) (fun t ht hW => ⟨⟨o_2, (), rfl, (by rw [← ho9]), ⟨by rw [ht]; exact hP9, va_K.moved hW.alike hK, hD9⟩⟩, hS.F ht⟩) hS.2.2 dX2_isIn_20
def fX2_put_a1_p0_3 (p0n : Nat → Nat) (p0w : ST) (p0l : SL) (p2 : Int32) (p3 : Int32) : Option SL := (if ixb ((p2 * (p0w 0 2)) + (p3 >>> (6 &&& 31))) (p0n 4) = true then (if ixb ((p2 * (p0w 0 2)) + (p3 >>> (6 &&& 31))) (p0n 4) = true then (lt9 (upl p0l 4 (nn ((p2 * (p0w 0 2)) + (p3 >>> (6 &&& 31)))) ((p0l 4 (nn ((p2 * (p0w 0 2)) + (p3 >>> (6 &&& 31))))) ||| (((1 : Int64) <<< (((p3 &&& 63) : Int32).toInt64 &&& 63))))) fun (l3 : SL) => some l3) else none) else none)
set_option maxHeartbeats 16000000 in
set_option maxRecDepth 100000 in
theorem kX2_put_a1_p0_3 {zs : ZS} (l : Launch) (dC : Nat → ClassId) (dI : Nat → Nat → Nat) (p0a : Nat → Nat) (p0k : Nat → ClassId) (p0n : Nat → Nat) (p0w : ST) (p0l : SL) (p2 : Int32) (p3 : Int32) (sz : Nat) (o : SL) (hrun : fX2_put_a1_p0_3 p0n p0w p0l p2 p3 = some o) : Met l yX2_put (wz yX2_put cX2_put 4 (Option.none : Option Jvm.ClassFile.FieldType)) ({ frames := 0, cells := 0, slots := 0, locals := 0 } : Room) (va_Pc [.ref (p0a 0), .ref (p0a 4), .int p2, .int p3] (PRE zs dC dI (List.flatten ([(oX2 (p0a 0) p0a p0k p0n p0w p0l)] : List va_W)) (List.flatten ([(tX2 p0k)] : List (List (ClassId × FieldType)))) sz)) (va_Qv (fun (_ : Unit) => True) (fun _ t => POST dC dI (List.flatten ([(oX2 (p0a 0) p0a p0k p0n p0w o)] : List va_W)) (List.flatten ([(tX2 p0k)] : List (List (ClassId × FieldType)))) (va_A (List.flatten ([(oX2 (p0a 0) p0a p0k p0n p0w p0l)] : List va_W)) sz) t) (va_A (List.flatten ([(oX2 (p0a 0) p0a p0k p0n p0w p0l)] : List va_W)) sz)) 0 0 (va_A (List.flatten ([(oX2 (p0a 0) p0a p0k p0n p0w p0l)] : List va_W)) sz) := by
  refine Met.ofW (cc := cX2_put) (maxL := 4) (ret := (Option.none : Option Jvm.ClassFile.FieldType)) (by decide) rfl ?_
  intro p e s m args below meth c s₁ B hml hv
  obtain ⟨rfl, hsz, hP, hK, hD0, hE⟩ := hv
  have hx := B.exec
  have hb := B.bytes
  have hr := B.returns
  have hts0 := atoms_spec (ws := wz yX2_put cX2_put 4 (Option.none : Option Jvm.ClassFile.FieldType)) B.pre
  have hts : ∀ w ∈ gw, w.before _ s = true := fun w h => hts0 w (List.mem_cons_of_mem _ h)
  have hown : s.vm.findClass RX2 = some m.cls := findClass_of_methodNamed B.named
  have hlocks := B.notSynchronized
  subst hsz
  have hD := hD0.self (sz := s.heap.size)
  refine gQ9 ?_
  intro Q hQ
  generalize hAe : va_A (List.flatten ([(oX2 (p0a 0) p0a p0k p0n p0w p0l)] : List va_W)) s.heap.size = A at hD hE hQ
  have hA : ∀ q : Nat, s.heap.size ≤ q → A q := fun q h => by rw [← hAe]; exact Or.inr h
  have hS : va_S A s.heap s.heap [] := va_S.rf
  have hP : va_P (dC, dI) cls (List.flatten ([(oX2 (p0a 0) p0a p0k p0n p0w p0l)] : List va_W)) s.heap := hP
  have hl := lv_entry ([.ref (p0a 0), .ref (p0a 4), .int p2, .int p3]) (n := 4) (Nat.le_of_ble_eq_true rfl)
  rw [lg_entry_eq]
  generalize (lg_sl ([.ref (p0a 0), .ref (p0a 4), .int p2, .int p3]) ++ List.replicate (4 - (lg_sl ([.ref (p0a 0), .ref (p0a 4), .int p2, .int p3])).length) Slot.unset).toArray = ls at hl ⊢
  have hl : lv_has ls 4 [(0, .ref (p0a 0)), (1, .ref (p0a 4)), (2, .int p2), (3, .int p3)] := hl
  obtain ⟨H, hHe⟩ : ∃ H, H = s.heap := ⟨_, rfl⟩
  obtain ⟨locs, hle⟩ : ∃ locs : List Loc, locs = [] := ⟨_, rfl⟩
  rw [← hHe] at hP
  have hS : va_S A s.heap H locs := by rw [hHe, hle]; exact hS
  show W p l e ({ frames := 0, cells := 0, slots := 0, locals := 0 } : Room) s m ([.ref (p0a 0), .ref (p0a 4), .int p2, .int p3] : List Value).toArray below meth c s.heap [] 0 0 Q (F0 m 0 ls [])
  rw [← hle]
  refine wH9 hHe ?_
  unfold fX2_put_a1_p0_3 at hrun
  refine lv_aload_n hx hb dX2_put_0 rfl (lv_at hl 1 rfl) ?_
  refine lv_iload_n hx hb dX2_put_1 rfl (lv_at hl 2 rfl) ?_
  refine lv_aload_n hx hb dX2_put_2 rfl (lv_at hl 0 rfl) ?_
  refine va_get (D := (dC, dI)) (ci := 9) (v := .int (p0w 0 2)) (C := RX2) (T := TX2) (N := 19) hx hb hts i_X2 hown hK hP 0 rfl rfl 2 (by decide) (hts _ qw669) (fun _ h9 => h9) rfl dX2_put_3 ?_
  refine lv_imul hx hb dX2_put_6 ?_
  refine lv_iload_n hx hb dX2_put_7 rfl (lv_at hl 3 rfl) ?_
  refine lv_bipush (v := 6) hx hb dX2_put_8 (by decide) ?_
  refine lv_ishr hx hb dX2_put_10 ?_
  refine lv_iadd hx hb dX2_put_11 ?_
  refine lv_dup2_11 hx hb dX2_put_12 rfl rfl ?_
  obtain ⟨hq1, hrun⟩ := chk9 hrun
  refine va_lald hx hb hK hP 1 0 rfl rfl (ixb_in hq1) dX2_put_13 ?_
  refine lv_lconst (v := 1) hx hb dX2_put_14 (by decide) ?_
  refine lv_iload_n hx hb dX2_put_15 rfl (lv_at hl 3 rfl) ?_
  refine lv_bipush (v := 63) hx hb dX2_put_16 (by decide) ?_
  refine lv_iand hx hb dX2_put_18 ?_
  refine lv_lshl (v := (((1 : Int64) <<< (((p3 &&& 63) : Int32).toInt64 &&& 63)))) hx hb dX2_put_19 rfl ?_
  refine lv_lor hx hb dX2_put_20 ?_
  obtain ⟨hq2, hrun⟩ := chk9 hrun
  refine va_last hx hb hK hP hD hS 1 0 rfl rfl (ixb_in hq2) dX2_put_21 (fun H locs hP hD hS => ?_)
  have hP : va_P (dC, dI) cls (List.flatten ([(oX2 (p0a 0) p0a p0k p0n p0w (upl p0l 4 (nn ((p2 * (p0w 0 2)) + (p3 >>> (6 &&& 31)))) ((p0l 4 (nn ((p2 * (p0w 0 2)) + (p3 >>> (6 &&& 31))))) ||| (((1 : Int64) <<< (((p3 &&& 63) : Int32).toInt64 &&& 63))))))] : List va_W)) H := hP
  have hD : va_D A (List.flatten ([(oX2 (p0a 0) p0a p0k p0n p0w (upl p0l 4 (nn ((p2 * (p0w 0 2)) + (p3 >>> (6 &&& 31)))) ((p0l 4 (nn ((p2 * (p0w 0 2)) + (p3 >>> (6 &&& 31))))) ||| (((1 : Int64) <<< (((p3 &&& 63) : Int32).toInt64 &&& 63))))))] : List va_W)) := hD
  obtain ⟨l3, el3, hrun⟩ := let9 hrun
  rw [← el3] at hP hD
  have ho9 : l3 = o := Option.some.inj hrun
  have hP9 : va_P (dC, dI) cls (List.flatten ([(oX2 (p0a 0) p0a p0k p0n p0w o)] : List va_W)) H := by first | exact hP | (rw [← ho9]; exact hP)
  have hD9 : va_D A (List.flatten ([(oX2 (p0a 0) p0a p0k p0n p0w o)] : List va_W)) := by first | exact hD | (rw [← ho9]; exact hD)
  subst hQ
  exact W.vret hx hb hr (fun t ht hW => ⟨⟨(), rfl, trivial, ⟨by rw [ht]; exact hP9, va_K.moved hW.alike hK, hD9⟩⟩, hS.F ht⟩) hS.2.2 dX2_put_22
def fX2_noteUse_J31 (p0l_31 : SL) : Option SL := some p0l_31
def fX2_noteUse (p0n : Nat → Nat) (p0w : ST) (p0l : SL) (p1 : Int32) (p2 : Int32) : Option SL := (if (p0w 0 0) ≤ p2 then (fX2_noteUse_J31 p0l) else ((fX2_isIn_a1_p0_4 p0n p0w p0l p1 p2).bind fun (o_2 : Int32) => (if o_2 = 0 then ((fX2_put_a1_p0_3 p0n p0w p0l p1 p2).bind fun (o_5 : SL) => (fX2_noteUse_J31 o_5)) else (fX2_noteUse_J31 p0l))))
set_option maxHeartbeats 16000000 in
set_option maxRecDepth 100000 in
theorem kX2_noteUse {zs : ZS} (l : Launch) (dC : Nat → ClassId) (dI : Nat → Nat → Nat) (p0a : Nat → Nat) (p0k : Nat → ClassId) (p0n : Nat → Nat) (p0w : ST) (p0l : SL) (p1 : Int32) (p2 : Int32) (sz : Nat) (o : SL) (hrun : fX2_noteUse p0n p0w p0l p1 p2 = some o) : Met l yX2_noteUse (wz yX2_noteUse cX2_noteUse 3 (Option.none : Option Jvm.ClassFile.FieldType)) ({ frames := 2, cells := 0, slots := 0, locals := 45 } : Room) (va_Pc [.ref (p0a 0), .int p1, .int p2] (PRE zs dC dI (List.flatten ([(oX2 (p0a 0) p0a p0k p0n p0w p0l)] : List va_W)) (List.flatten ([(tX2 p0k)] : List (List (ClassId × FieldType)))) sz)) (va_Qv (fun (_ : Unit) => True) (fun _ t => POST dC dI (List.flatten ([(oX2 (p0a 0) p0a p0k p0n p0w o)] : List va_W)) (List.flatten ([(tX2 p0k)] : List (List (ClassId × FieldType)))) (va_A (List.flatten ([(oX2 (p0a 0) p0a p0k p0n p0w p0l)] : List va_W)) sz) t) (va_A (List.flatten ([(oX2 (p0a 0) p0a p0k p0n p0w p0l)] : List va_W)) sz)) 0 0 (va_A (List.flatten ([(oX2 (p0a 0) p0a p0k p0n p0w p0l)] : List va_W)) sz) := by
  refine Met.ofW (cc := cX2_noteUse) (maxL := 3) (ret := (Option.none : Option Jvm.ClassFile.FieldType)) (by decide) rfl ?_
  intro p e s m args below meth c s₁ B hml hv
  obtain ⟨rfl, hsz, hP, hK, hD0, hE⟩ := hv
  have hx := B.exec
  have hb := B.bytes
  have hr := B.returns
  have hts0 := atoms_spec (ws := wz yX2_noteUse cX2_noteUse 3 (Option.none : Option Jvm.ClassFile.FieldType)) B.pre
  have hts : ∀ w ∈ gw, w.before _ s = true := fun w h => hts0 w (List.mem_cons_of_mem _ h)
  have hown : s.vm.findClass RX2 = some m.cls := findClass_of_methodNamed B.named
  have hlocks := B.notSynchronized
  subst hsz
  have hD := hD0.self (sz := s.heap.size)
  refine gQ9 ?_
  intro Q hQ
  generalize hAe : va_A (List.flatten ([(oX2 (p0a 0) p0a p0k p0n p0w p0l)] : List va_W)) s.heap.size = A at hD hE hQ
  have hA : ∀ q : Nat, s.heap.size ≤ q → A q := fun q h => by rw [← hAe]; exact Or.inr h
  have hS : va_S A s.heap s.heap [] := va_S.rf
  have hP : va_P (dC, dI) cls (List.flatten ([(oX2 (p0a 0) p0a p0k p0n p0w p0l)] : List va_W)) s.heap := hP
  have hl := lv_entry ([.ref (p0a 0), .int p1, .int p2]) (n := 3) (Nat.le_of_ble_eq_true rfl)
  rw [lg_entry_eq]
  generalize (lg_sl ([.ref (p0a 0), .int p1, .int p2]) ++ List.replicate (3 - (lg_sl ([.ref (p0a 0), .int p1, .int p2])).length) Slot.unset).toArray = ls at hl ⊢
  have hl : lv_has ls 3 [(0, .ref (p0a 0)), (1, .int p1), (2, .int p2)] := hl
  obtain ⟨H, hHe⟩ : ∃ H, H = s.heap := ⟨_, rfl⟩
  obtain ⟨locs, hle⟩ : ∃ locs : List Loc, locs = [] := ⟨_, rfl⟩
  rw [← hHe] at hP
  have hS : va_S A s.heap H locs := by rw [hHe, hle]; exact hS
  show W p l e ({ frames := 2, cells := 0, slots := 0, locals := 45 } : Room) s m ([.ref (p0a 0), .int p1, .int p2] : List Value).toArray below meth c s.heap [] 0 0 Q (F0 m 0 ls [])
  rw [← hle]
  refine wH9 hHe ?_
  unfold fX2_noteUse at hrun
  refine lv_iload_n hx hb dX2_noteUse_0 rfl (lv_at hl 2 rfl) ?_
  refine lv_aload_n hx hb dX2_noteUse_1 rfl (lv_at hl 0 rfl) ?_
  refine va_get (D := (dC, dI)) (ci := 9) (v := .int (p0w 0 0)) (C := RX2) (T := TX2) (N := 19) hx hb hts i_X2 hown hK hP 0 rfl rfl 0 (by decide) (hts _ qw667) (fun _ h9 => h9) rfl dX2_noteUse_2 ?_
  have J31 : ∀ (p0l_31 : SL) (H : Heap) (locs : List Loc) (ls : Array Slot), (fX2_noteUse_J31 p0l_31) = some o → va_P (dC, dI) cls (List.flatten ([(oX2 (p0a 0) p0a p0k p0n p0w p0l_31)] : List va_W)) H → va_D A (List.flatten ([(oX2 (p0a 0) p0a p0k p0n p0w p0l_31)] : List va_W)) → va_K (dC, dI) cls (List.flatten ([(tX2 p0k)] : List (List (ClassId × FieldType)))) s → va_S A s.heap H locs → lv_has ls 3 [] → W p l e ({ frames := 2, cells := 0, slots := 0, locals := 45 } : Room) s m ([.ref (p0a 0), .int p1, .int p2] : List Value).toArray below meth c H locs 0 0 Q (F0 m 31 ls []) := by
    intro p0l_31 H locs ls hrun hP hD hK hS hl 
    unfold fX2_noteUse_J31 at hrun
    have ho9 : p0l_31 = o := Option.some.inj hrun
    have hP9 : va_P (dC, dI) cls (List.flatten ([(oX2 (p0a 0) p0a p0k p0n p0w o)] : List va_W)) H := by first | exact hP | (rw [← ho9]; exact hP)
    have hD9 : va_D A (List.flatten ([(oX2 (p0a 0) p0a p0k p0n p0w o)] : List va_W)) := by first | exact hD | (rw [← ho9]; exact hD)
    subst hQ
    exact W.vret hx hb hr (fun t ht hW => ⟨⟨(), rfl, trivial, ⟨by rw [ht]; exact hP9, va_K.moved hW.alike hK, hD9⟩⟩, hS.F ht⟩) hS.2.2 dX2_noteUse_31
  rcases br9 hrun with ⟨hc1, hrun⟩ | ⟨hc1, hrun⟩
  · refine lv_icmp_ge (tgt := 31) hx hb dX2_noteUse_5 (by decide) (fun _ => ?_) (fun c => absurd hc1 c)
    exact J31 p0l _ _ _ hrun hP hD hK hS (lv_sub hl [] rfl)
  · refine lv_icmp_ge (tgt := 31) hx hb dX2_noteUse_5 (by decide) (fun c => absurd c hc1) (fun _ => ?_)
    refine lv_aload_n hx hb dX2_noteUse_8 rfl (lv_at hl 0 rfl) ?_
    refine lv_aload_n hx hb dX2_noteUse_9 rfl (lv_at hl 0 rfl) ?_
    refine va_get (D := (dC, dI)) (ci := 9) (v := .ref (p0a 5)) (C := RX2) (T := TX2) (N := 19) hx hb hts i_X2 hown hK hP 0 rfl rfl 4 (by decide) (hts _ qw678) (fun _ h9 => h9) rfl dX2_noteUse_10 ?_
    refine lv_iload_n hx hb dX2_noteUse_13 rfl (lv_at hl 1 rfl) ?_
    refine lv_iload_n hx hb dX2_noteUse_14 rfl (lv_at hl 2 rfl) ?_
    obtain ⟨o_2, hc_2, hrun⟩ := bnd9 hrun
    have hPx : va_P (dC, dI) cls ((List.flatten ([(oX2 (p0a 0) p0a p0k p0n p0w p0l)] : List va_W)) ++ (List.flatten ([] : List va_W))) H := vP_fa (vP_perm hP (bP (List.Perm.refl _)))
    have hDx : va_D A ((List.flatten ([(oX2 (p0a 0) p0a p0k p0n p0w p0l)] : List va_W)) ++ (List.flatten ([] : List va_W))) := vD_fa (vD_perm hD (bP (List.Perm.refl _)))
    have hKx : va_K (dC, dI) cls ((List.flatten ([(tX2 p0k)] : List (List (ClassId × FieldType)))) ++ (List.flatten ([] : List (List (ClassId × FieldType))))) s := vK_fa (vK_perm hK (bP (List.Perm.refl _)))
    have hPc := vP_l hPx
    have hDc := vD_l hDx
    have hKc := vK_l hKx
    have hFc := vfree hDx hS hA
    refine va_calli (va_runV (As := [.ref (p0a 5), .int p1, .int p2]) (rest := []) ⟨hx, hb, hml, hown, hts⟩ (kX2_isIn_a1_p0_4 l dC dI (p0a := p0a) (p0k := p0k) (p0n := p0n) (p0w := p0w) (p0l := p0l) (p2 := p1) (p3 := p2) (sz := _) (o := o_2) (hrun := hc_2)) (cwV 3 hts (gi_V qw709 qw710 qw711 qw694 (gi_z qw708)) rfl rfl rfl (by decide +kernel) ⟨Nat.le_of_ble_eq_true rfl, Nat.le_of_ble_eq_true rfl⟩) ⟨PRE.blind, va_recv hKc hPc (ci := 9) (q0 := 0) rfl rfl, PRE.of hE hS hFc hPc hKc hDc⟩ rfl rfl hl.1 rfl (lv_room (Nat.le_of_ble_eq_true rfl)) dX2_noteUse_15 ⟨(Nat.le_of_ble_eq_true rfl), (Nat.le_of_ble_eq_true rfl)⟩) hS (fun q _ h => hFc q h) hFc (fun r3 u t H locs ht hvm hw hB hz1 hk1 hS => ?_)
    obtain ⟨b1, b2, b3⟩ := hB
    rw [ht] at b1
    obtain ⟨hP, hD, hK⟩ := JOINC (wc := (List.flatten ([(oX2 (p0a 0) p0a p0k p0n p0w p0l)] : List va_W))) (wr := (List.flatten ([] : List va_W))) (w1 := (List.flatten ([(oX2 (p0a 0) p0a p0k p0n p0w p0l)] : List va_W))) (t1 := (List.flatten ([(tX2 p0k)] : List (List (ClassId × FieldType))))) hPx hDx hKx hk1 hFc b1 (va_K.moved hvm.symm b2) b3
    have hP : va_P (dC, dI) cls (List.flatten ([(oX2 (p0a 0) p0a p0k p0n p0w p0l)] : List va_W)) H := vP_perm (vP_fb hP) (bP (List.Perm.refl _))
    have hD : va_D A (List.flatten ([(oX2 (p0a 0) p0a p0k p0n p0w p0l)] : List va_W)) := vD_perm (vD_fb hD) (bP (List.Perm.refl _))
    have hK : va_K (dC, dI) cls (List.flatten ([(tX2 p0k)] : List (List (ClassId × FieldType)))) s := vK_perm (vK_fb hK) (bP (List.Perm.refl _))
    obtain rfl : o_2 = r3 := hw.symm
    rcases br9 hrun with ⟨hc4, hrun⟩ | ⟨hc4, hrun⟩
    · refine lv_if_ne (tgt := 31) hx hb dX2_noteUse_18 (by decide) (fun c => absurd hc4 c) (fun _ => ?_)
      refine lv_aload_n hx hb dX2_noteUse_21 rfl (lv_at hl 0 rfl) ?_
      refine lv_aload_n hx hb dX2_noteUse_22 rfl (lv_at hl 0 rfl) ?_
      refine va_get (D := (dC, dI)) (ci := 9) (v := .ref (p0a 4)) (C := RX2) (T := TX2) (N := 19) hx hb hts i_X2 hown hK hP 0 rfl rfl 3 (by decide) (hts _ qw671) (fun _ h9 => h9) rfl dX2_noteUse_23 ?_
      refine lv_iload_n hx hb dX2_noteUse_26 rfl (lv_at hl 1 rfl) ?_
      refine lv_iload_n hx hb dX2_noteUse_27 rfl (lv_at hl 2 rfl) ?_
      obtain ⟨o_5, hc_5, hrun⟩ := bnd9 hrun
      have hPx : va_P (dC, dI) cls ((List.flatten ([(oX2 (p0a 0) p0a p0k p0n p0w p0l)] : List va_W)) ++ (List.flatten ([] : List va_W))) H := vP_fa (vP_perm hP (bP (List.Perm.refl _)))
      have hDx : va_D A ((List.flatten ([(oX2 (p0a 0) p0a p0k p0n p0w p0l)] : List va_W)) ++ (List.flatten ([] : List va_W))) := vD_fa (vD_perm hD (bP (List.Perm.refl _)))
      have hKx : va_K (dC, dI) cls ((List.flatten ([(tX2 p0k)] : List (List (ClassId × FieldType)))) ++ (List.flatten ([] : List (List (ClassId × FieldType))))) s := vK_fa (vK_perm hK (bP (List.Perm.refl _)))
      have hPc := vP_l hPx
      have hDc := vD_l hDx
      have hKc := vK_l hKx
      have hFc := vfree hDx hS hA
      refine va_callv (va_runV (As := [.ref (p0a 4), .int p1, .int p2]) (rest := []) ⟨hx, hb, hml, hown, hts⟩ (kX2_put_a1_p0_3 l dC dI (p0a := p0a) (p0k := p0k) (p0n := p0n) (p0w := p0w) (p0l := p0l) (p2 := p1) (p3 := p2) (sz := _) (o := o_5) (hrun := hc_5)) (cwV 3 hts (gi_V qw704 qw705 qw706 qw694 (gi_z qw703)) rfl rfl rfl (by decide +kernel) ⟨Nat.le_of_ble_eq_true rfl, Nat.le_of_ble_eq_true rfl⟩) ⟨PRE.blind, va_recv hKc hPc (ci := 9) (q0 := 0) rfl rfl, PRE.of hE hS hFc hPc hKc hDc⟩ rfl rfl hl.1 rfl (lv_room (Nat.le_of_ble_eq_true rfl)) dX2_noteUse_28 ⟨(Nat.le_of_ble_eq_true rfl), (Nat.le_of_ble_eq_true rfl)⟩) hS (fun q _ h => hFc q h) hFc (fun u t H locs ht hvm hw hB hz1 hk1 hS => ?_)
      obtain ⟨b1, b2, b3⟩ := hB
      rw [ht] at b1
      obtain ⟨hP, hD, hK⟩ := JOINC (wc := (List.flatten ([(oX2 (p0a 0) p0a p0k p0n p0w p0l)] : List va_W))) (wr := (List.flatten ([] : List va_W))) (w1 := (List.flatten ([(oX2 (p0a 0) p0a p0k p0n p0w o_5)] : List va_W))) (t1 := (List.flatten ([(tX2 p0k)] : List (List (ClassId × FieldType))))) hPx hDx hKx hk1 hFc b1 (va_K.moved hvm.symm b2) b3
      have hP : va_P (dC, dI) cls (List.flatten ([(oX2 (p0a 0) p0a p0k p0n p0w o_5)] : List va_W)) H := vP_perm (vP_fb hP) (bP (List.Perm.refl _))
      have hD : va_D A (List.flatten ([(oX2 (p0a 0) p0a p0k p0n p0w o_5)] : List va_W)) := vD_perm (vD_fb hD) (bP (List.Perm.refl _))
      have hK : va_K (dC, dI) cls (List.flatten ([(tX2 p0k)] : List (List (ClassId × FieldType)))) s := vK_perm (vK_fb hK) (bP (List.Perm.refl _))
      exact J31 o_5 _ _ _ hrun hP hD hK hS (lv_sub hl [] rfl)
    · refine lv_if_ne (tgt := 31) hx hb dX2_noteUse_18 (by decide) (fun _ => ?_) (fun c => absurd c hc4)
      exact J31 p0l _ _ _ hrun hP hD hK hS (lv_sub hl [] rfl)
def fX2_noteBlock_J152 (kk57 : Int32 → SL → Option SL) (p1_2n : Nat → Nat) (p1_2w : ST) (v4_57 : Int32) (p0l_152 : SL) : Option SL := (if ixb v4_57 (p1_2n 6) = true then (kk57 (p1_2w 6 (nn v4_57)) p0l_152) else none)
def fX2_noteBlock_J112 (kk57 : Int32 → SL → Option SL) (p0n : Nat → Nat) (p0w : ST) (p2 : Int32) (p1_2n : Nat → Nat) (p1_2w : ST) (v4_57 : Int32) (p0l_112 : SL) : Option SL := (if ixb v4_57 (p1_2n 3) = true then (if (p1_2w 3 (nn v4_57)) < 0 then (fX2_noteBlock_J152 kk57 p1_2n p1_2w v4_57 p0l_112) else (if ixb v4_57 (p1_2n 3) = true then (if (p0w 0 0) ≤ (p1_2w 3 (nn v4_57)) then (fX2_noteBlock_J152 kk57 p1_2n p1_2w v4_57 p0l_112) else (if ixb v4_57 (p1_2n 3) = true then ((fX2_put_a1_p0_4 p0n p0w p0l_112 p2 (p1_2w 3 (nn v4_57))).bind fun (o_17 : SL) => (fX2_noteBlock_J152 kk57 p1_2n p1_2w v4_57 o_17)) else none)) else none)) else none)
def fX2_noteBlock_J87 (kk57 : Int32 → SL → Option SL) (p0n : Nat → Nat) (p0w : ST) (p2 : Int32) (p1_2n : Nat → Nat) (p1_2w : ST) (v4_57 : Int32) (p0l_87 : SL) : Option SL := (if ixb v4_57 (p1_2n 2) = true then ((fX11_usesRight (p1_2w 2 (nn v4_57))).bind fun (o_9 : Int32) => (if o_9 = 0 then (fX2_noteBlock_J112 kk57 p0n p0w p2 p1_2n p1_2w v4_57 p0l_87) else (if ixb v4_57 (p1_2n 5) = true then ((fX2_noteUse p0n p0w p0l_87 p2 (p1_2w 5 (nn v4_57))).bind fun (o_20 : SL) => (fX2_noteBlock_J112 kk57 p0n p0w p2 p1_2n p1_2w v4_57 o_20)) else none))) else none)
def fX2_noteBlock_L57 (p0n : Nat → Nat) (p0w : ST) (p2 : Int32) (p1_2n : Nat → Nat) (p1_2w : ST) : Nat → Int32 → SL → Option SL
  | 0 => fun _ _ => none
  | n_57 + 1 => fun v4_57 p0l_57 => (if v4_57 < 0 then some p0l_57 else (if ixb v4_57 (p1_2n 2) = true then ((fX11_usesLeft (p1_2w 2 (nn v4_57))).bind fun (o_6 : Int32) => (if o_6 = 0 then (fX2_noteBlock_J87 (fX2_noteBlock_L57 p0n p0w p2 p1_2n p1_2w n_57) p0n p0w p2 p1_2n p1_2w v4_57 p0l_57) else (if ixb v4_57 (p1_2n 4) = true then ((fX2_noteUse p0n p0w p0l_57 p2 (p1_2w 4 (nn v4_57))).bind fun (o_23 : SL) => (fX2_noteBlock_J87 (fX2_noteBlock_L57 p0n p0w p2 p1_2n p1_2w n_57) p0n p0w p2 p1_2n p1_2w v4_57 o_23)) else none))) else none))
def fX2_noteBlock_J184 (p0l_184 : SL) : Option SL := some p0l_184
def fX2_noteBlock (p0n : Nat → Nat) (p0w : ST) (p0l : SL) (p1w : ST) (p2 : Int32) (p1_2n : Nat → Nat) (p1_2w : ST) : Option SL := ((fJ7_fill_bad5a (p0n 4) (p0l 4) (p2 * (p0w 0 2)) ((p2 + 1) * (p0w 0 2)) 0).bind fun (o_1 : RL) => ((fJ7_fill_bad5a (p0n 5) ((srl p0l 4 o_1) 5) (p2 * (p0w 0 2)) ((p2 + 1) * (p0w 0 2)) 0).bind fun (o_2 : RL) => (if ixb p2 60 = true then ((fX2_noteBlock_L57 p0n p0w p2 p1_2n p1_2w NF (p1w 4 (nn p2)) (srl (srl p0l 4 o_1) 5 o_2)).bind fun (o57 : SL) => (if ixb p2 60 = true then (if (p1w 9 (nn p2)) < 0 then (fX2_noteBlock_J184 o57) else (if ixb p2 60 = true then ((fX2_noteUse p0n p0w o57 p2 (p1w 9 (nn p2))).bind fun (o_27 : SL) => (fX2_noteBlock_J184 o_27)) else none)) else none)) else none)))
set_option maxHeartbeats 16000000 in
set_option maxRecDepth 100000 in
theorem kX2_noteBlock {zs : ZS} (l : Launch) (dC : Nat → ClassId) (dI : Nat → Nat → Nat) (p0a : Nat → Nat) (p0k : Nat → ClassId) (p0n : Nat → Nat) (p0w : ST) (p0l : SL) (p1a : Nat → Nat) (p1k : Nat → ClassId) (p1n : Nat → Nat) (p1w : ST) (p1l : SL) (p2 : Int32) (p1_2a : Nat → Nat) (p1_2k : Nat → ClassId) (p1_2n : Nat → Nat) (p1_2w : ST) (sz : Nat) (o : SL) (hrun : fX2_noteBlock p0n p0w p0l p1w p2 p1_2n p1_2w = some o) : Met l yX2_noteBlock (wz yX2_noteBlock cX2_noteBlock 5 (Option.none : Option Jvm.ClassFile.FieldType)) ({ frames := 3, cells := 0, slots := 0, locals := 67 } : Room) (va_Pc [.ref (p0a 0), .ref (p1a 0), .int p2] (PRE zs dC dI (List.flatten ([(oX2 (p0a 0) p0a p0k p0n p0w p0l), (oX1 (p1a 0) p1a p1k p1n p1w p1l), (oX9 (p1a 3) p1_2a p1_2k p1_2n p1_2w)] : List va_W)) (List.flatten ([(tX2 p0k), (tX1 p1k), (tX9 p1_2k)] : List (List (ClassId × FieldType)))) sz)) (va_Qv (fun (_ : Unit) => True) (fun _ t => POST dC dI (List.flatten ([(oX2 (p0a 0) p0a p0k p0n p0w o), (oX1 (p1a 0) p1a p1k p1n p1w p1l), (oX9 (p1a 3) p1_2a p1_2k p1_2n p1_2w)] : List va_W)) (List.flatten ([(tX2 p0k), (tX1 p1k), (tX9 p1_2k)] : List (List (ClassId × FieldType)))) (va_A (List.flatten ([(oX2 (p0a 0) p0a p0k p0n p0w p0l), (oX1 (p1a 0) p1a p1k p1n p1w p1l), (oX9 (p1a 3) p1_2a p1_2k p1_2n p1_2w)] : List va_W)) sz) t) (va_A (List.flatten ([(oX2 (p0a 0) p0a p0k p0n p0w p0l), (oX1 (p1a 0) p1a p1k p1n p1w p1l), (oX9 (p1a 3) p1_2a p1_2k p1_2n p1_2w)] : List va_W)) sz)) 0 0 (va_A (List.flatten ([(oX2 (p0a 0) p0a p0k p0n p0w p0l), (oX1 (p1a 0) p1a p1k p1n p1w p1l), (oX9 (p1a 3) p1_2a p1_2k p1_2n p1_2w)] : List va_W)) sz) := by
  refine Met.ofW (cc := cX2_noteBlock) (maxL := 5) (ret := (Option.none : Option Jvm.ClassFile.FieldType)) (by decide) rfl ?_
  intro p e s m args below meth c s₁ B hml hv
  obtain ⟨rfl, hsz, hP, hK, hD0, hE⟩ := hv
  have hx := B.exec
  have hb := B.bytes
  have hr := B.returns
  have hts0 := atoms_spec (ws := wz yX2_noteBlock cX2_noteBlock 5 (Option.none : Option Jvm.ClassFile.FieldType)) B.pre
  have hts : ∀ w ∈ gw, w.before _ s = true := fun w h => hts0 w (List.mem_cons_of_mem _ h)
  have hown : s.vm.findClass RX2 = some m.cls := findClass_of_methodNamed B.named
  have hlocks := B.notSynchronized
  subst hsz
  have hD := hD0.self (sz := s.heap.size)
  refine gQ9 ?_
  intro Q hQ
  generalize hAe : va_A (List.flatten ([(oX2 (p0a 0) p0a p0k p0n p0w p0l), (oX1 (p1a 0) p1a p1k p1n p1w p1l), (oX9 (p1a 3) p1_2a p1_2k p1_2n p1_2w)] : List va_W)) s.heap.size = A at hD hE hQ
  have hA : ∀ q : Nat, s.heap.size ≤ q → A q := fun q h => by rw [← hAe]; exact Or.inr h
  have hS : va_S A s.heap s.heap [] := va_S.rf
  have hP : va_P (dC, dI) cls (List.flatten ([(oX2 (p0a 0) p0a p0k p0n p0w p0l), (oX1 (p1a 0) p1a p1k p1n p1w p1l), (oX9 (p1a 3) p1_2a p1_2k p1_2n p1_2w)] : List va_W)) s.heap := hP
  have hl := lv_entry ([.ref (p0a 0), .ref (p1a 0), .int p2]) (n := 5) (Nat.le_of_ble_eq_true rfl)
  rw [lg_entry_eq]
  generalize (lg_sl ([.ref (p0a 0), .ref (p1a 0), .int p2]) ++ List.replicate (5 - (lg_sl ([.ref (p0a 0), .ref (p1a 0), .int p2])).length) Slot.unset).toArray = ls at hl ⊢
  have hl : lv_has ls 5 [(0, .ref (p0a 0)), (1, .ref (p1a 0)), (2, .int p2)] := hl
  obtain ⟨H, hHe⟩ : ∃ H, H = s.heap := ⟨_, rfl⟩
  obtain ⟨locs, hle⟩ : ∃ locs : List Loc, locs = [] := ⟨_, rfl⟩
  rw [← hHe] at hP
  have hS : va_S A s.heap H locs := by rw [hHe, hle]; exact hS
  show W p l e ({ frames := 3, cells := 0, slots := 0, locals := 67 } : Room) s m ([.ref (p0a 0), .ref (p1a 0), .int p2] : List Value).toArray below meth c s.heap [] 0 0 Q (F0 m 0 ls [])
  rw [← hle]
  refine wH9 hHe ?_
  unfold fX2_noteBlock at hrun
  refine lv_aload_n hx hb dX2_noteBlock_0 rfl (lv_at hl 0 rfl) ?_
  refine va_get (D := (dC, dI)) (ci := 9) (v := .ref (p0a 4)) (C := RX2) (T := TX2) (N := 19) hx hb hts i_X2 hown hK hP 0 rfl rfl 3 (by decide) (hts _ qw671) (fun _ h9 => h9) rfl dX2_noteBlock_1 ?_
  refine lv_iload_n hx hb dX2_noteBlock_4 rfl (lv_at hl 2 rfl) ?_
  refine lv_aload_n hx hb dX2_noteBlock_5 rfl (lv_at hl 0 rfl) ?_
  refine va_get (D := (dC, dI)) (ci := 9) (v := .int (p0w 0 2)) (C := RX2) (T := TX2) (N := 19) hx hb hts i_X2 hown hK hP 0 rfl rfl 2 (by decide) (hts _ qw669) (fun _ h9 => h9) rfl dX2_noteBlock_6 ?_
  refine lv_imul hx hb dX2_noteBlock_9 ?_
  refine lv_iload_n hx hb dX2_noteBlock_10 rfl (lv_at hl 2 rfl) ?_
  refine lv_iconst (v := 1) hx hb dX2_noteBlock_11 (by decide) ?_
  refine lv_iadd hx hb dX2_noteBlock_12 ?_
  refine lv_aload_n hx hb dX2_noteBlock_13 rfl (lv_at hl 0 rfl) ?_
  refine va_get (D := (dC, dI)) (ci := 9) (v := .int (p0w 0 2)) (C := RX2) (T := TX2) (N := 19) hx hb hts i_X2 hown hK hP 0 rfl rfl 2 (by decide) (hts _ qw669) (fun _ h9 => h9) rfl dX2_noteBlock_14 ?_
  refine lv_imul hx hb dX2_noteBlock_17 ?_
  refine lv_lconst (v := 0) hx hb dX2_noteBlock_18 (by decide) ?_
  obtain ⟨o_1, hc_1, hrun⟩ := bnd9 hrun
  have hP2 : va_P (dC, dI) cls (List.flatten ([[((p0a 4), .inl ((p0k 4), (p0n 4), .inr (.inl (p0l 4))))], [((p0a 0), .inr (9, [.int (p0w 0 0), .int (p0w 0 1), .int (p0w 0 2), .ref (p0a 4), .ref (p0a 5), .ref (p0a 6), .ref (p0a 7), .ref (p0a 8), .int (p0w 0 8), .ref (p0a 10), .ref (p0a 11), .ref (p0a 12), .ref (p0a 13), .ref (p0a 14), .ref (p0a 15), .ref (p0a 16), .ref (p0a 17), .ref (p0a 18), .ref (p0a 19)])), ((p0a 5), .inl ((p0k 5), (p0n 5), .inr (.inl (p0l 5)))), ((p0a 6), .inl ((p0k 6), (p0n 6), .inr (.inl (p0l 6)))), ((p0a 7), .inl ((p0k 7), (p0n 7), .inr (.inl (p0l 7)))), ((p0a 8), .inl ((p0k 8), 2, .inl (p0w 8))), ((p0a 10), .inl ((p0k 10), (p0n 10), .inl (p0w 10))), ((p0a 11), .inl ((p0k 11), (p0n 11), .inr (.inl (p0l 11)))), ((p0a 12), .inl ((p0k 12), (p0n 12), .inl (p0w 12))), ((p0a 13), .inl ((p0k 13), (p0n 13), .inl (p0w 13))), ((p0a 14), .inl ((p0k 14), (p0n 14), .inr (.inl (p0l 14)))), ((p0a 15), .inl ((p0k 15), (p0n 15), .inl (p0w 15))), ((p0a 16), .inl ((p0k 16), (p0n 16), .inl (p0w 16))), ((p0a 17), .inl ((p0k 17), (p0n 17), .inl (p0w 17))), ((p0a 18), .inl ((p0k 18), (p0n 18), .inl (p0w 18))), ((p0a 19), .inl ((p0k 19), (p0n 19), .inl (p0w 19)))], (oX1 (p1a 0) p1a p1k p1n p1w p1l), (oX9 (p1a 3) p1_2a p1_2k p1_2n p1_2w)] : List va_W)) H := vP_perm hP ((bP (List.Perm.refl _)).trans (List.Perm.append_right _ (List.perm_middle (a := (((p0a 4), .inl ((p0k 4), (p0n 4), .inr (.inl (p0l 4)))) : Nat × va_E)) (l₁ := ([((p0a 0), .inr (9, [.int (p0w 0 0), .int (p0w 0 1), .int (p0w 0 2), .ref (p0a 4), .ref (p0a 5), .ref (p0a 6), .ref (p0a 7), .ref (p0a 8), .int (p0w 0 8), .ref (p0a 10), .ref (p0a 11), .ref (p0a 12), .ref (p0a 13), .ref (p0a 14), .ref (p0a 15), .ref (p0a 16), .ref (p0a 17), .ref (p0a 18), .ref (p0a 19)]))] : va_W)) (l₂ := ([((p0a 5), .inl ((p0k 5), (p0n 5), .inr (.inl (p0l 5)))), ((p0a 6), .inl ((p0k 6), (p0n 6), .inr (.inl (p0l 6)))), ((p0a 7), .inl ((p0k 7), (p0n 7), .inr (.inl (p0l 7)))), ((p0a 8), .inl ((p0k 8), 2, .inl (p0w 8))), ((p0a 10), .inl ((p0k 10), (p0n 10), .inl (p0w 10))), ((p0a 11), .inl ((p0k 11), (p0n 11), .inr (.inl (p0l 11)))), ((p0a 12), .inl ((p0k 12), (p0n 12), .inl (p0w 12))), ((p0a 13), .inl ((p0k 13), (p0n 13), .inl (p0w 13))), ((p0a 14), .inl ((p0k 14), (p0n 14), .inr (.inl (p0l 14)))), ((p0a 15), .inl ((p0k 15), (p0n 15), .inl (p0w 15))), ((p0a 16), .inl ((p0k 16), (p0n 16), .inl (p0w 16))), ((p0a 17), .inl ((p0k 17), (p0n 17), .inl (p0w 17))), ((p0a 18), .inl ((p0k 18), (p0n 18), .inl (p0w 18))), ((p0a 19), .inl ((p0k 19), (p0n 19), .inl (p0w 19)))] : va_W)))))
  have hD2 : va_D A (List.flatten ([[((p0a 4), .inl ((p0k 4), (p0n 4), .inr (.inl (p0l 4))))], [((p0a 0), .inr (9, [.int (p0w 0 0), .int (p0w 0 1), .int (p0w 0 2), .ref (p0a 4), .ref (p0a 5), .ref (p0a 6), .ref (p0a 7), .ref (p0a 8), .int (p0w 0 8), .ref (p0a 10), .ref (p0a 11), .ref (p0a 12), .ref (p0a 13), .ref (p0a 14), .ref (p0a 15), .ref (p0a 16), .ref (p0a 17), .ref (p0a 18), .ref (p0a 19)])), ((p0a 5), .inl ((p0k 5), (p0n 5), .inr (.inl (p0l 5)))), ((p0a 6), .inl ((p0k 6), (p0n 6), .inr (.inl (p0l 6)))), ((p0a 7), .inl ((p0k 7), (p0n 7), .inr (.inl (p0l 7)))), ((p0a 8), .inl ((p0k 8), 2, .inl (p0w 8))), ((p0a 10), .inl ((p0k 10), (p0n 10), .inl (p0w 10))), ((p0a 11), .inl ((p0k 11), (p0n 11), .inr (.inl (p0l 11)))), ((p0a 12), .inl ((p0k 12), (p0n 12), .inl (p0w 12))), ((p0a 13), .inl ((p0k 13), (p0n 13), .inl (p0w 13))), ((p0a 14), .inl ((p0k 14), (p0n 14), .inr (.inl (p0l 14)))), ((p0a 15), .inl ((p0k 15), (p0n 15), .inl (p0w 15))), ((p0a 16), .inl ((p0k 16), (p0n 16), .inl (p0w 16))), ((p0a 17), .inl ((p0k 17), (p0n 17), .inl (p0w 17))), ((p0a 18), .inl ((p0k 18), (p0n 18), .inl (p0w 18))), ((p0a 19), .inl ((p0k 19), (p0n 19), .inl (p0w 19)))], (oX1 (p1a 0) p1a p1k p1n p1w p1l), (oX9 (p1a 3) p1_2a p1_2k p1_2n p1_2w)] : List va_W)) := vD_perm hD ((bP (List.Perm.refl _)).trans (List.Perm.append_right _ (List.perm_middle (a := (((p0a 4), .inl ((p0k 4), (p0n 4), .inr (.inl (p0l 4)))) : Nat × va_E)) (l₁ := ([((p0a 0), .inr (9, [.int (p0w 0 0), .int (p0w 0 1), .int (p0w 0 2), .ref (p0a 4), .ref (p0a 5), .ref (p0a 6), .ref (p0a 7), .ref (p0a 8), .int (p0w 0 8), .ref (p0a 10), .ref (p0a 11), .ref (p0a 12), .ref (p0a 13), .ref (p0a 14), .ref (p0a 15), .ref (p0a 16), .ref (p0a 17), .ref (p0a 18), .ref (p0a 19)]))] : va_W)) (l₂ := ([((p0a 5), .inl ((p0k 5), (p0n 5), .inr (.inl (p0l 5)))), ((p0a 6), .inl ((p0k 6), (p0n 6), .inr (.inl (p0l 6)))), ((p0a 7), .inl ((p0k 7), (p0n 7), .inr (.inl (p0l 7)))), ((p0a 8), .inl ((p0k 8), 2, .inl (p0w 8))), ((p0a 10), .inl ((p0k 10), (p0n 10), .inl (p0w 10))), ((p0a 11), .inl ((p0k 11), (p0n 11), .inr (.inl (p0l 11)))), ((p0a 12), .inl ((p0k 12), (p0n 12), .inl (p0w 12))), ((p0a 13), .inl ((p0k 13), (p0n 13), .inl (p0w 13))), ((p0a 14), .inl ((p0k 14), (p0n 14), .inr (.inl (p0l 14)))), ((p0a 15), .inl ((p0k 15), (p0n 15), .inl (p0w 15))), ((p0a 16), .inl ((p0k 16), (p0n 16), .inl (p0w 16))), ((p0a 17), .inl ((p0k 17), (p0n 17), .inl (p0w 17))), ((p0a 18), .inl ((p0k 18), (p0n 18), .inl (p0w 18))), ((p0a 19), .inl ((p0k 19), (p0n 19), .inl (p0w 19)))] : va_W)))))
  have hK2 : va_K (dC, dI) cls (List.flatten ([[((p0k 4), .long)], [((p0k 5), .long), ((p0k 6), .long), ((p0k 7), .long), ((p0k 8), .int), ((p0k 10), .int), ((p0k 11), .long), ((p0k 12), .int), ((p0k 13), .int), ((p0k 14), .long), ((p0k 15), .int), ((p0k 16), .int), ((p0k 17), .int), ((p0k 18), .int), ((p0k 19), .int)], (tX1 p1k), (tX9 p1_2k)] : List (List (ClassId × FieldType)))) s := vK_perm hK ((bP (List.Perm.refl _)).trans (List.Perm.append_right _ (List.perm_middle (a := (((p0k 4), .long) : ClassId × FieldType)) (l₁ := ([] : List (ClassId × FieldType))) (l₂ := ([((p0k 5), .long), ((p0k 6), .long), ((p0k 7), .long), ((p0k 8), .int), ((p0k 10), .int), ((p0k 11), .long), ((p0k 12), .int), ((p0k 13), .int), ((p0k 14), .long), ((p0k 15), .int), ((p0k 16), .int), ((p0k 17), .int), ((p0k 18), .int), ((p0k 19), .int)] : List (ClassId × FieldType))))))
  have hPx : va_P (dC, dI) cls ((List.flatten ([[((p0a 4), .inl ((p0k 4), (p0n 4), .inr (.inl (p0l 4))))]] : List va_W)) ++ (List.flatten ([[((p0a 0), .inr (9, [.int (p0w 0 0), .int (p0w 0 1), .int (p0w 0 2), .ref (p0a 4), .ref (p0a 5), .ref (p0a 6), .ref (p0a 7), .ref (p0a 8), .int (p0w 0 8), .ref (p0a 10), .ref (p0a 11), .ref (p0a 12), .ref (p0a 13), .ref (p0a 14), .ref (p0a 15), .ref (p0a 16), .ref (p0a 17), .ref (p0a 18), .ref (p0a 19)])), ((p0a 5), .inl ((p0k 5), (p0n 5), .inr (.inl (p0l 5)))), ((p0a 6), .inl ((p0k 6), (p0n 6), .inr (.inl (p0l 6)))), ((p0a 7), .inl ((p0k 7), (p0n 7), .inr (.inl (p0l 7)))), ((p0a 8), .inl ((p0k 8), 2, .inl (p0w 8))), ((p0a 10), .inl ((p0k 10), (p0n 10), .inl (p0w 10))), ((p0a 11), .inl ((p0k 11), (p0n 11), .inr (.inl (p0l 11)))), ((p0a 12), .inl ((p0k 12), (p0n 12), .inl (p0w 12))), ((p0a 13), .inl ((p0k 13), (p0n 13), .inl (p0w 13))), ((p0a 14), .inl ((p0k 14), (p0n 14), .inr (.inl (p0l 14)))), ((p0a 15), .inl ((p0k 15), (p0n 15), .inl (p0w 15))), ((p0a 16), .inl ((p0k 16), (p0n 16), .inl (p0w 16))), ((p0a 17), .inl ((p0k 17), (p0n 17), .inl (p0w 17))), ((p0a 18), .inl ((p0k 18), (p0n 18), .inl (p0w 18))), ((p0a 19), .inl ((p0k 19), (p0n 19), .inl (p0w 19)))], (oX1 (p1a 0) p1a p1k p1n p1w p1l), (oX9 (p1a 3) p1_2a p1_2k p1_2n p1_2w)] : List va_W))) H := vP_fa (vP_perm hP2 (bP (List.Perm.refl _)))
  have hDx : va_D A ((List.flatten ([[((p0a 4), .inl ((p0k 4), (p0n 4), .inr (.inl (p0l 4))))]] : List va_W)) ++ (List.flatten ([[((p0a 0), .inr (9, [.int (p0w 0 0), .int (p0w 0 1), .int (p0w 0 2), .ref (p0a 4), .ref (p0a 5), .ref (p0a 6), .ref (p0a 7), .ref (p0a 8), .int (p0w 0 8), .ref (p0a 10), .ref (p0a 11), .ref (p0a 12), .ref (p0a 13), .ref (p0a 14), .ref (p0a 15), .ref (p0a 16), .ref (p0a 17), .ref (p0a 18), .ref (p0a 19)])), ((p0a 5), .inl ((p0k 5), (p0n 5), .inr (.inl (p0l 5)))), ((p0a 6), .inl ((p0k 6), (p0n 6), .inr (.inl (p0l 6)))), ((p0a 7), .inl ((p0k 7), (p0n 7), .inr (.inl (p0l 7)))), ((p0a 8), .inl ((p0k 8), 2, .inl (p0w 8))), ((p0a 10), .inl ((p0k 10), (p0n 10), .inl (p0w 10))), ((p0a 11), .inl ((p0k 11), (p0n 11), .inr (.inl (p0l 11)))), ((p0a 12), .inl ((p0k 12), (p0n 12), .inl (p0w 12))), ((p0a 13), .inl ((p0k 13), (p0n 13), .inl (p0w 13))), ((p0a 14), .inl ((p0k 14), (p0n 14), .inr (.inl (p0l 14)))), ((p0a 15), .inl ((p0k 15), (p0n 15), .inl (p0w 15))), ((p0a 16), .inl ((p0k 16), (p0n 16), .inl (p0w 16))), ((p0a 17), .inl ((p0k 17), (p0n 17), .inl (p0w 17))), ((p0a 18), .inl ((p0k 18), (p0n 18), .inl (p0w 18))), ((p0a 19), .inl ((p0k 19), (p0n 19), .inl (p0w 19)))], (oX1 (p1a 0) p1a p1k p1n p1w p1l), (oX9 (p1a 3) p1_2a p1_2k p1_2n p1_2w)] : List va_W))) := vD_fa (vD_perm hD2 (bP (List.Perm.refl _)))
  have hKx : va_K (dC, dI) cls ((List.flatten ([[((p0k 4), .long)]] : List (List (ClassId × FieldType)))) ++ (List.flatten ([[((p0k 5), .long), ((p0k 6), .long), ((p0k 7), .long), ((p0k 8), .int), ((p0k 10), .int), ((p0k 11), .long), ((p0k 12), .int), ((p0k 13), .int), ((p0k 14), .long), ((p0k 15), .int), ((p0k 16), .int), ((p0k 17), .int), ((p0k 18), .int), ((p0k 19), .int)], (tX1 p1k), (tX9 p1_2k)] : List (List (ClassId × FieldType))))) s := vK_fa (vK_perm hK2 (bP (List.Perm.refl _)))
  have hPc := vP_l hPx
  have hDc := vD_l hDx
  have hKc := vK_l hKx
  have hFc := vfree hDx hS hA
  refine va_callv (va_runS (As := [.ref (p0a 4), .int (p2 * (p0w 0 2)), .int ((p2 + 1) * (p0w 0 2)), .long 0]) (rest := []) ⟨hx, hb, hml, hown, hts⟩ (kJ7_fill_bad5a l dC dI (p0a := (p0a 4)) (p0k := (p0k 4)) (p0n := (p0n 4)) (p0f := (p0l 4)) (p1 := (p2 * (p0w 0 2))) (p2 := ((p2 + 1) * (p0w 0 2))) (p3 := 0) (sz := _) (o := o_1) (hrun := hc_1)) (va_cwS 4 hts (gi_S qw696 qw697 qw109 (gi_z qw695)) rfl rfl rfl (by decide +kernel) ⟨Nat.le_of_ble_eq_true rfl, Nat.le_of_ble_eq_true rfl⟩) ⟨PRE.blind, PRE.of hE hS hFc hPc hKc hDc⟩ rfl rfl hl.1 rfl (lv_room (Nat.le_of_ble_eq_true rfl)) dX2_noteBlock_19 ⟨(Nat.le_of_ble_eq_true rfl), (Nat.le_of_ble_eq_true rfl)⟩) hS (fun q _ h => hFc q h) hFc (fun u t H locs ht hvm hw hB hz1 hk1 hS => ?_)
  obtain ⟨b1, b2, b3⟩ := hB
  rw [ht] at b1
  obtain ⟨hP, hD, hK⟩ := JOINC (wc := (List.flatten ([[((p0a 4), .inl ((p0k 4), (p0n 4), .inr (.inl (p0l 4))))]] : List va_W))) (wr := (List.flatten ([[((p0a 0), .inr (9, [.int (p0w 0 0), .int (p0w 0 1), .int (p0w 0 2), .ref (p0a 4), .ref (p0a 5), .ref (p0a 6), .ref (p0a 7), .ref (p0a 8), .int (p0w 0 8), .ref (p0a 10), .ref (p0a 11), .ref (p0a 12), .ref (p0a 13), .ref (p0a 14), .ref (p0a 15), .ref (p0a 16), .ref (p0a 17), .ref (p0a 18), .ref (p0a 19)])), ((p0a 5), .inl ((p0k 5), (p0n 5), .inr (.inl (p0l 5)))), ((p0a 6), .inl ((p0k 6), (p0n 6), .inr (.inl (p0l 6)))), ((p0a 7), .inl ((p0k 7), (p0n 7), .inr (.inl (p0l 7)))), ((p0a 8), .inl ((p0k 8), 2, .inl (p0w 8))), ((p0a 10), .inl ((p0k 10), (p0n 10), .inl (p0w 10))), ((p0a 11), .inl ((p0k 11), (p0n 11), .inr (.inl (p0l 11)))), ((p0a 12), .inl ((p0k 12), (p0n 12), .inl (p0w 12))), ((p0a 13), .inl ((p0k 13), (p0n 13), .inl (p0w 13))), ((p0a 14), .inl ((p0k 14), (p0n 14), .inr (.inl (p0l 14)))), ((p0a 15), .inl ((p0k 15), (p0n 15), .inl (p0w 15))), ((p0a 16), .inl ((p0k 16), (p0n 16), .inl (p0w 16))), ((p0a 17), .inl ((p0k 17), (p0n 17), .inl (p0w 17))), ((p0a 18), .inl ((p0k 18), (p0n 18), .inl (p0w 18))), ((p0a 19), .inl ((p0k 19), (p0n 19), .inl (p0w 19)))], (oX1 (p1a 0) p1a p1k p1n p1w p1l), (oX9 (p1a 3) p1_2a p1_2k p1_2n p1_2w)] : List va_W))) (w1 := (List.flatten ([[((p0a 4), .inl ((p0k 4), (p0n 4), .inr (.inl ((srl p0l 4 o_1) 4))))]] : List va_W))) (t1 := (List.flatten ([[((p0k 4), .long)]] : List (List (ClassId × FieldType))))) hPx hDx hKx hk1 hFc b1 (va_K.moved hvm.symm b2) b3
  have hP3 : va_P (dC, dI) cls (List.flatten ([(oX2 (p0a 0) p0a p0k p0n p0w (srl p0l 4 o_1)), (oX1 (p1a 0) p1a p1k p1n p1w p1l), (oX9 (p1a 3) p1_2a p1_2k p1_2n p1_2w)] : List va_W)) H := vP_perm (vP_fb hP) ((bP (List.Perm.refl _)).trans (List.Perm.append_right _ (List.perm_middle (a := (((p0a 4), .inl ((p0k 4), (p0n 4), .inr (.inl ((srl p0l 4 o_1) 4)))) : Nat × va_E)) (l₁ := ([((p0a 0), .inr (9, [.int (p0w 0 0), .int (p0w 0 1), .int (p0w 0 2), .ref (p0a 4), .ref (p0a 5), .ref (p0a 6), .ref (p0a 7), .ref (p0a 8), .int (p0w 0 8), .ref (p0a 10), .ref (p0a 11), .ref (p0a 12), .ref (p0a 13), .ref (p0a 14), .ref (p0a 15), .ref (p0a 16), .ref (p0a 17), .ref (p0a 18), .ref (p0a 19)]))] : va_W)) (l₂ := ([((p0a 5), .inl ((p0k 5), (p0n 5), .inr (.inl ((srl p0l 4 o_1) 5)))), ((p0a 6), .inl ((p0k 6), (p0n 6), .inr (.inl ((srl p0l 4 o_1) 6)))), ((p0a 7), .inl ((p0k 7), (p0n 7), .inr (.inl ((srl p0l 4 o_1) 7)))), ((p0a 8), .inl ((p0k 8), 2, .inl (p0w 8))), ((p0a 10), .inl ((p0k 10), (p0n 10), .inl (p0w 10))), ((p0a 11), .inl ((p0k 11), (p0n 11), .inr (.inl ((srl p0l 4 o_1) 11)))), ((p0a 12), .inl ((p0k 12), (p0n 12), .inl (p0w 12))), ((p0a 13), .inl ((p0k 13), (p0n 13), .inl (p0w 13))), ((p0a 14), .inl ((p0k 14), (p0n 14), .inr (.inl ((srl p0l 4 o_1) 14)))), ((p0a 15), .inl ((p0k 15), (p0n 15), .inl (p0w 15))), ((p0a 16), .inl ((p0k 16), (p0n 16), .inl (p0w 16))), ((p0a 17), .inl ((p0k 17), (p0n 17), .inl (p0w 17))), ((p0a 18), .inl ((p0k 18), (p0n 18), .inl (p0w 18))), ((p0a 19), .inl ((p0k 19), (p0n 19), .inl (p0w 19)))] : va_W))).symm))
  have hD3 : va_D A (List.flatten ([(oX2 (p0a 0) p0a p0k p0n p0w (srl p0l 4 o_1)), (oX1 (p1a 0) p1a p1k p1n p1w p1l), (oX9 (p1a 3) p1_2a p1_2k p1_2n p1_2w)] : List va_W)) := vD_perm (vD_fb hD) ((bP (List.Perm.refl _)).trans (List.Perm.append_right _ (List.perm_middle (a := (((p0a 4), .inl ((p0k 4), (p0n 4), .inr (.inl ((srl p0l 4 o_1) 4)))) : Nat × va_E)) (l₁ := ([((p0a 0), .inr (9, [.int (p0w 0 0), .int (p0w 0 1), .int (p0w 0 2), .ref (p0a 4), .ref (p0a 5), .ref (p0a 6), .ref (p0a 7), .ref (p0a 8), .int (p0w 0 8), .ref (p0a 10), .ref (p0a 11), .ref (p0a 12), .ref (p0a 13), .ref (p0a 14), .ref (p0a 15), .ref (p0a 16), .ref (p0a 17), .ref (p0a 18), .ref (p0a 19)]))] : va_W)) (l₂ := ([((p0a 5), .inl ((p0k 5), (p0n 5), .inr (.inl ((srl p0l 4 o_1) 5)))), ((p0a 6), .inl ((p0k 6), (p0n 6), .inr (.inl ((srl p0l 4 o_1) 6)))), ((p0a 7), .inl ((p0k 7), (p0n 7), .inr (.inl ((srl p0l 4 o_1) 7)))), ((p0a 8), .inl ((p0k 8), 2, .inl (p0w 8))), ((p0a 10), .inl ((p0k 10), (p0n 10), .inl (p0w 10))), ((p0a 11), .inl ((p0k 11), (p0n 11), .inr (.inl ((srl p0l 4 o_1) 11)))), ((p0a 12), .inl ((p0k 12), (p0n 12), .inl (p0w 12))), ((p0a 13), .inl ((p0k 13), (p0n 13), .inl (p0w 13))), ((p0a 14), .inl ((p0k 14), (p0n 14), .inr (.inl ((srl p0l 4 o_1) 14)))), ((p0a 15), .inl ((p0k 15), (p0n 15), .inl (p0w 15))), ((p0a 16), .inl ((p0k 16), (p0n 16), .inl (p0w 16))), ((p0a 17), .inl ((p0k 17), (p0n 17), .inl (p0w 17))), ((p0a 18), .inl ((p0k 18), (p0n 18), .inl (p0w 18))), ((p0a 19), .inl ((p0k 19), (p0n 19), .inl (p0w 19)))] : va_W))).symm))
  have hK3 : va_K (dC, dI) cls (List.flatten ([(tX2 p0k), (tX1 p1k), (tX9 p1_2k)] : List (List (ClassId × FieldType)))) s := vK_perm (vK_fb hK) ((bP (List.Perm.refl _)).trans (List.Perm.append_right _ (List.perm_middle (a := (((p0k 4), .long) : ClassId × FieldType)) (l₁ := ([] : List (ClassId × FieldType))) (l₂ := ([((p0k 5), .long), ((p0k 6), .long), ((p0k 7), .long), ((p0k 8), .int), ((p0k 10), .int), ((p0k 11), .long), ((p0k 12), .int), ((p0k 13), .int), ((p0k 14), .long), ((p0k 15), .int), ((p0k 16), .int), ((p0k 17), .int), ((p0k 18), .int), ((p0k 19), .int)] : List (ClassId × FieldType)))).symm))
  have hP : va_P (dC, dI) cls (List.flatten ([(oX2 (p0a 0) p0a p0k p0n p0w (srl p0l 4 o_1)), (oX1 (p1a 0) p1a p1k p1n p1w p1l), (oX9 (p1a 3) p1_2a p1_2k p1_2n p1_2w)] : List va_W)) H := vP_perm hP3 (bP (List.Perm.refl _))
  have hD : va_D A (List.flatten ([(oX2 (p0a 0) p0a p0k p0n p0w (srl p0l 4 o_1)), (oX1 (p1a 0) p1a p1k p1n p1w p1l), (oX9 (p1a 3) p1_2a p1_2k p1_2n p1_2w)] : List va_W)) := vD_perm hD3 (bP (List.Perm.refl _))
  have hK : va_K (dC, dI) cls (List.flatten ([(tX2 p0k), (tX1 p1k), (tX9 p1_2k)] : List (List (ClassId × FieldType)))) s := vK_perm hK3 (bP (List.Perm.refl _))
  refine lv_aload_n hx hb dX2_noteBlock_22 rfl (lv_at hl 0 rfl) ?_
  refine va_get (D := (dC, dI)) (ci := 9) (v := .ref (p0a 5)) (C := RX2) (T := TX2) (N := 19) hx hb hts i_X2 hown hK hP 0 rfl rfl 4 (by decide) (hts _ qw678) (fun _ h9 => h9) rfl dX2_noteBlock_23 ?_
  refine lv_iload_n hx hb dX2_noteBlock_26 rfl (lv_at hl 2 rfl) ?_
  refine lv_aload_n hx hb dX2_noteBlock_27 rfl (lv_at hl 0 rfl) ?_
  refine va_get (D := (dC, dI)) (ci := 9) (v := .int (p0w 0 2)) (C := RX2) (T := TX2) (N := 19) hx hb hts i_X2 hown hK hP 0 rfl rfl 2 (by decide) (hts _ qw669) (fun _ h9 => h9) rfl dX2_noteBlock_28 ?_
  refine lv_imul hx hb dX2_noteBlock_31 ?_
  refine lv_iload_n hx hb dX2_noteBlock_32 rfl (lv_at hl 2 rfl) ?_
  refine lv_iconst (v := 1) hx hb dX2_noteBlock_33 (by decide) ?_
  refine lv_iadd hx hb dX2_noteBlock_34 ?_
  refine lv_aload_n hx hb dX2_noteBlock_35 rfl (lv_at hl 0 rfl) ?_
  refine va_get (D := (dC, dI)) (ci := 9) (v := .int (p0w 0 2)) (C := RX2) (T := TX2) (N := 19) hx hb hts i_X2 hown hK hP 0 rfl rfl 2 (by decide) (hts _ qw669) (fun _ h9 => h9) rfl dX2_noteBlock_36 ?_
  refine lv_imul hx hb dX2_noteBlock_39 ?_
  refine lv_lconst (v := 0) hx hb dX2_noteBlock_40 (by decide) ?_
  obtain ⟨o_2, hc_2, hrun⟩ := bnd9 hrun
  have hP2 : va_P (dC, dI) cls (List.flatten ([[((p0a 5), .inl ((p0k 5), (p0n 5), .inr (.inl ((srl p0l 4 o_1) 5))))], [((p0a 0), .inr (9, [.int (p0w 0 0), .int (p0w 0 1), .int (p0w 0 2), .ref (p0a 4), .ref (p0a 5), .ref (p0a 6), .ref (p0a 7), .ref (p0a 8), .int (p0w 0 8), .ref (p0a 10), .ref (p0a 11), .ref (p0a 12), .ref (p0a 13), .ref (p0a 14), .ref (p0a 15), .ref (p0a 16), .ref (p0a 17), .ref (p0a 18), .ref (p0a 19)])), ((p0a 4), .inl ((p0k 4), (p0n 4), .inr (.inl ((srl p0l 4 o_1) 4)))), ((p0a 6), .inl ((p0k 6), (p0n 6), .inr (.inl ((srl p0l 4 o_1) 6)))), ((p0a 7), .inl ((p0k 7), (p0n 7), .inr (.inl ((srl p0l 4 o_1) 7)))), ((p0a 8), .inl ((p0k 8), 2, .inl (p0w 8))), ((p0a 10), .inl ((p0k 10), (p0n 10), .inl (p0w 10))), ((p0a 11), .inl ((p0k 11), (p0n 11), .inr (.inl ((srl p0l 4 o_1) 11)))), ((p0a 12), .inl ((p0k 12), (p0n 12), .inl (p0w 12))), ((p0a 13), .inl ((p0k 13), (p0n 13), .inl (p0w 13))), ((p0a 14), .inl ((p0k 14), (p0n 14), .inr (.inl ((srl p0l 4 o_1) 14)))), ((p0a 15), .inl ((p0k 15), (p0n 15), .inl (p0w 15))), ((p0a 16), .inl ((p0k 16), (p0n 16), .inl (p0w 16))), ((p0a 17), .inl ((p0k 17), (p0n 17), .inl (p0w 17))), ((p0a 18), .inl ((p0k 18), (p0n 18), .inl (p0w 18))), ((p0a 19), .inl ((p0k 19), (p0n 19), .inl (p0w 19)))], (oX1 (p1a 0) p1a p1k p1n p1w p1l), (oX9 (p1a 3) p1_2a p1_2k p1_2n p1_2w)] : List va_W)) H := vP_perm hP ((bP (List.Perm.refl _)).trans (List.Perm.append_right _ (List.perm_middle (a := (((p0a 5), .inl ((p0k 5), (p0n 5), .inr (.inl ((srl p0l 4 o_1) 5)))) : Nat × va_E)) (l₁ := ([((p0a 0), .inr (9, [.int (p0w 0 0), .int (p0w 0 1), .int (p0w 0 2), .ref (p0a 4), .ref (p0a 5), .ref (p0a 6), .ref (p0a 7), .ref (p0a 8), .int (p0w 0 8), .ref (p0a 10), .ref (p0a 11), .ref (p0a 12), .ref (p0a 13), .ref (p0a 14), .ref (p0a 15), .ref (p0a 16), .ref (p0a 17), .ref (p0a 18), .ref (p0a 19)])), ((p0a 4), .inl ((p0k 4), (p0n 4), .inr (.inl ((srl p0l 4 o_1) 4))))] : va_W)) (l₂ := ([((p0a 6), .inl ((p0k 6), (p0n 6), .inr (.inl ((srl p0l 4 o_1) 6)))), ((p0a 7), .inl ((p0k 7), (p0n 7), .inr (.inl ((srl p0l 4 o_1) 7)))), ((p0a 8), .inl ((p0k 8), 2, .inl (p0w 8))), ((p0a 10), .inl ((p0k 10), (p0n 10), .inl (p0w 10))), ((p0a 11), .inl ((p0k 11), (p0n 11), .inr (.inl ((srl p0l 4 o_1) 11)))), ((p0a 12), .inl ((p0k 12), (p0n 12), .inl (p0w 12))), ((p0a 13), .inl ((p0k 13), (p0n 13), .inl (p0w 13))), ((p0a 14), .inl ((p0k 14), (p0n 14), .inr (.inl ((srl p0l 4 o_1) 14)))), ((p0a 15), .inl ((p0k 15), (p0n 15), .inl (p0w 15))), ((p0a 16), .inl ((p0k 16), (p0n 16), .inl (p0w 16))), ((p0a 17), .inl ((p0k 17), (p0n 17), .inl (p0w 17))), ((p0a 18), .inl ((p0k 18), (p0n 18), .inl (p0w 18))), ((p0a 19), .inl ((p0k 19), (p0n 19), .inl (p0w 19)))] : va_W)))))
  have hD2 : va_D A (List.flatten ([[((p0a 5), .inl ((p0k 5), (p0n 5), .inr (.inl ((srl p0l 4 o_1) 5))))], [((p0a 0), .inr (9, [.int (p0w 0 0), .int (p0w 0 1), .int (p0w 0 2), .ref (p0a 4), .ref (p0a 5), .ref (p0a 6), .ref (p0a 7), .ref (p0a 8), .int (p0w 0 8), .ref (p0a 10), .ref (p0a 11), .ref (p0a 12), .ref (p0a 13), .ref (p0a 14), .ref (p0a 15), .ref (p0a 16), .ref (p0a 17), .ref (p0a 18), .ref (p0a 19)])), ((p0a 4), .inl ((p0k 4), (p0n 4), .inr (.inl ((srl p0l 4 o_1) 4)))), ((p0a 6), .inl ((p0k 6), (p0n 6), .inr (.inl ((srl p0l 4 o_1) 6)))), ((p0a 7), .inl ((p0k 7), (p0n 7), .inr (.inl ((srl p0l 4 o_1) 7)))), ((p0a 8), .inl ((p0k 8), 2, .inl (p0w 8))), ((p0a 10), .inl ((p0k 10), (p0n 10), .inl (p0w 10))), ((p0a 11), .inl ((p0k 11), (p0n 11), .inr (.inl ((srl p0l 4 o_1) 11)))), ((p0a 12), .inl ((p0k 12), (p0n 12), .inl (p0w 12))), ((p0a 13), .inl ((p0k 13), (p0n 13), .inl (p0w 13))), ((p0a 14), .inl ((p0k 14), (p0n 14), .inr (.inl ((srl p0l 4 o_1) 14)))), ((p0a 15), .inl ((p0k 15), (p0n 15), .inl (p0w 15))), ((p0a 16), .inl ((p0k 16), (p0n 16), .inl (p0w 16))), ((p0a 17), .inl ((p0k 17), (p0n 17), .inl (p0w 17))), ((p0a 18), .inl ((p0k 18), (p0n 18), .inl (p0w 18))), ((p0a 19), .inl ((p0k 19), (p0n 19), .inl (p0w 19)))], (oX1 (p1a 0) p1a p1k p1n p1w p1l), (oX9 (p1a 3) p1_2a p1_2k p1_2n p1_2w)] : List va_W)) := vD_perm hD ((bP (List.Perm.refl _)).trans (List.Perm.append_right _ (List.perm_middle (a := (((p0a 5), .inl ((p0k 5), (p0n 5), .inr (.inl ((srl p0l 4 o_1) 5)))) : Nat × va_E)) (l₁ := ([((p0a 0), .inr (9, [.int (p0w 0 0), .int (p0w 0 1), .int (p0w 0 2), .ref (p0a 4), .ref (p0a 5), .ref (p0a 6), .ref (p0a 7), .ref (p0a 8), .int (p0w 0 8), .ref (p0a 10), .ref (p0a 11), .ref (p0a 12), .ref (p0a 13), .ref (p0a 14), .ref (p0a 15), .ref (p0a 16), .ref (p0a 17), .ref (p0a 18), .ref (p0a 19)])), ((p0a 4), .inl ((p0k 4), (p0n 4), .inr (.inl ((srl p0l 4 o_1) 4))))] : va_W)) (l₂ := ([((p0a 6), .inl ((p0k 6), (p0n 6), .inr (.inl ((srl p0l 4 o_1) 6)))), ((p0a 7), .inl ((p0k 7), (p0n 7), .inr (.inl ((srl p0l 4 o_1) 7)))), ((p0a 8), .inl ((p0k 8), 2, .inl (p0w 8))), ((p0a 10), .inl ((p0k 10), (p0n 10), .inl (p0w 10))), ((p0a 11), .inl ((p0k 11), (p0n 11), .inr (.inl ((srl p0l 4 o_1) 11)))), ((p0a 12), .inl ((p0k 12), (p0n 12), .inl (p0w 12))), ((p0a 13), .inl ((p0k 13), (p0n 13), .inl (p0w 13))), ((p0a 14), .inl ((p0k 14), (p0n 14), .inr (.inl ((srl p0l 4 o_1) 14)))), ((p0a 15), .inl ((p0k 15), (p0n 15), .inl (p0w 15))), ((p0a 16), .inl ((p0k 16), (p0n 16), .inl (p0w 16))), ((p0a 17), .inl ((p0k 17), (p0n 17), .inl (p0w 17))), ((p0a 18), .inl ((p0k 18), (p0n 18), .inl (p0w 18))), ((p0a 19), .inl ((p0k 19), (p0n 19), .inl (p0w 19)))] : va_W)))))
  have hK2 : va_K (dC, dI) cls (List.flatten ([[((p0k 5), .long)], [((p0k 4), .long), ((p0k 6), .long), ((p0k 7), .long), ((p0k 8), .int), ((p0k 10), .int), ((p0k 11), .long), ((p0k 12), .int), ((p0k 13), .int), ((p0k 14), .long), ((p0k 15), .int), ((p0k 16), .int), ((p0k 17), .int), ((p0k 18), .int), ((p0k 19), .int)], (tX1 p1k), (tX9 p1_2k)] : List (List (ClassId × FieldType)))) s := vK_perm hK ((bP (List.Perm.refl _)).trans (List.Perm.append_right _ (List.perm_middle (a := (((p0k 5), .long) : ClassId × FieldType)) (l₁ := ([((p0k 4), .long)] : List (ClassId × FieldType))) (l₂ := ([((p0k 6), .long), ((p0k 7), .long), ((p0k 8), .int), ((p0k 10), .int), ((p0k 11), .long), ((p0k 12), .int), ((p0k 13), .int), ((p0k 14), .long), ((p0k 15), .int), ((p0k 16), .int), ((p0k 17), .int), ((p0k 18), .int), ((p0k 19), .int)] : List (ClassId × FieldType))))))
  have hPx : va_P (dC, dI) cls ((List.flatten ([[((p0a 5), .inl ((p0k 5), (p0n 5), .inr (.inl ((srl p0l 4 o_1) 5))))]] : List va_W)) ++ (List.flatten ([[((p0a 0), .inr (9, [.int (p0w 0 0), .int (p0w 0 1), .int (p0w 0 2), .ref (p0a 4), .ref (p0a 5), .ref (p0a 6), .ref (p0a 7), .ref (p0a 8), .int (p0w 0 8), .ref (p0a 10), .ref (p0a 11), .ref (p0a 12), .ref (p0a 13), .ref (p0a 14), .ref (p0a 15), .ref (p0a 16), .ref (p0a 17), .ref (p0a 18), .ref (p0a 19)])), ((p0a 4), .inl ((p0k 4), (p0n 4), .inr (.inl ((srl p0l 4 o_1) 4)))), ((p0a 6), .inl ((p0k 6), (p0n 6), .inr (.inl ((srl p0l 4 o_1) 6)))), ((p0a 7), .inl ((p0k 7), (p0n 7), .inr (.inl ((srl p0l 4 o_1) 7)))), ((p0a 8), .inl ((p0k 8), 2, .inl (p0w 8))), ((p0a 10), .inl ((p0k 10), (p0n 10), .inl (p0w 10))), ((p0a 11), .inl ((p0k 11), (p0n 11), .inr (.inl ((srl p0l 4 o_1) 11)))), ((p0a 12), .inl ((p0k 12), (p0n 12), .inl (p0w 12))), ((p0a 13), .inl ((p0k 13), (p0n 13), .inl (p0w 13))), ((p0a 14), .inl ((p0k 14), (p0n 14), .inr (.inl ((srl p0l 4 o_1) 14)))), ((p0a 15), .inl ((p0k 15), (p0n 15), .inl (p0w 15))), ((p0a 16), .inl ((p0k 16), (p0n 16), .inl (p0w 16))), ((p0a 17), .inl ((p0k 17), (p0n 17), .inl (p0w 17))), ((p0a 18), .inl ((p0k 18), (p0n 18), .inl (p0w 18))), ((p0a 19), .inl ((p0k 19), (p0n 19), .inl (p0w 19)))], (oX1 (p1a 0) p1a p1k p1n p1w p1l), (oX9 (p1a 3) p1_2a p1_2k p1_2n p1_2w)] : List va_W))) H := vP_fa (vP_perm hP2 (bP (List.Perm.refl _)))
  have hDx : va_D A ((List.flatten ([[((p0a 5), .inl ((p0k 5), (p0n 5), .inr (.inl ((srl p0l 4 o_1) 5))))]] : List va_W)) ++ (List.flatten ([[((p0a 0), .inr (9, [.int (p0w 0 0), .int (p0w 0 1), .int (p0w 0 2), .ref (p0a 4), .ref (p0a 5), .ref (p0a 6), .ref (p0a 7), .ref (p0a 8), .int (p0w 0 8), .ref (p0a 10), .ref (p0a 11), .ref (p0a 12), .ref (p0a 13), .ref (p0a 14), .ref (p0a 15), .ref (p0a 16), .ref (p0a 17), .ref (p0a 18), .ref (p0a 19)])), ((p0a 4), .inl ((p0k 4), (p0n 4), .inr (.inl ((srl p0l 4 o_1) 4)))), ((p0a 6), .inl ((p0k 6), (p0n 6), .inr (.inl ((srl p0l 4 o_1) 6)))), ((p0a 7), .inl ((p0k 7), (p0n 7), .inr (.inl ((srl p0l 4 o_1) 7)))), ((p0a 8), .inl ((p0k 8), 2, .inl (p0w 8))), ((p0a 10), .inl ((p0k 10), (p0n 10), .inl (p0w 10))), ((p0a 11), .inl ((p0k 11), (p0n 11), .inr (.inl ((srl p0l 4 o_1) 11)))), ((p0a 12), .inl ((p0k 12), (p0n 12), .inl (p0w 12))), ((p0a 13), .inl ((p0k 13), (p0n 13), .inl (p0w 13))), ((p0a 14), .inl ((p0k 14), (p0n 14), .inr (.inl ((srl p0l 4 o_1) 14)))), ((p0a 15), .inl ((p0k 15), (p0n 15), .inl (p0w 15))), ((p0a 16), .inl ((p0k 16), (p0n 16), .inl (p0w 16))), ((p0a 17), .inl ((p0k 17), (p0n 17), .inl (p0w 17))), ((p0a 18), .inl ((p0k 18), (p0n 18), .inl (p0w 18))), ((p0a 19), .inl ((p0k 19), (p0n 19), .inl (p0w 19)))], (oX1 (p1a 0) p1a p1k p1n p1w p1l), (oX9 (p1a 3) p1_2a p1_2k p1_2n p1_2w)] : List va_W))) := vD_fa (vD_perm hD2 (bP (List.Perm.refl _)))
  have hKx : va_K (dC, dI) cls ((List.flatten ([[((p0k 5), .long)]] : List (List (ClassId × FieldType)))) ++ (List.flatten ([[((p0k 4), .long), ((p0k 6), .long), ((p0k 7), .long), ((p0k 8), .int), ((p0k 10), .int), ((p0k 11), .long), ((p0k 12), .int), ((p0k 13), .int), ((p0k 14), .long), ((p0k 15), .int), ((p0k 16), .int), ((p0k 17), .int), ((p0k 18), .int), ((p0k 19), .int)], (tX1 p1k), (tX9 p1_2k)] : List (List (ClassId × FieldType))))) s := vK_fa (vK_perm hK2 (bP (List.Perm.refl _)))
  have hPc := vP_l hPx
  have hDc := vD_l hDx
  have hKc := vK_l hKx
  have hFc := vfree hDx hS hA
  refine va_callv (va_runS (As := [.ref (p0a 5), .int (p2 * (p0w 0 2)), .int ((p2 + 1) * (p0w 0 2)), .long 0]) (rest := []) ⟨hx, hb, hml, hown, hts⟩ (kJ7_fill_bad5a l dC dI (p0a := (p0a 5)) (p0k := (p0k 5)) (p0n := (p0n 5)) (p0f := ((srl p0l 4 o_1) 5)) (p1 := (p2 * (p0w 0 2))) (p2 := ((p2 + 1) * (p0w 0 2))) (p3 := 0) (sz := _) (o := o_2) (hrun := hc_2)) (va_cwS 4 hts (gi_S qw696 qw697 qw109 (gi_z qw695)) rfl rfl rfl (by decide +kernel) ⟨Nat.le_of_ble_eq_true rfl, Nat.le_of_ble_eq_true rfl⟩) ⟨PRE.blind, PRE.of hE hS hFc hPc hKc hDc⟩ rfl rfl hl.1 rfl (lv_room (Nat.le_of_ble_eq_true rfl)) dX2_noteBlock_41 ⟨(Nat.le_of_ble_eq_true rfl), (Nat.le_of_ble_eq_true rfl)⟩) hS (fun q _ h => hFc q h) hFc (fun u t H locs ht hvm hw hB hz1 hk1 hS => ?_)
  obtain ⟨b1, b2, b3⟩ := hB
  rw [ht] at b1
  obtain ⟨hP, hD, hK⟩ := JOINC (wc := (List.flatten ([[((p0a 5), .inl ((p0k 5), (p0n 5), .inr (.inl ((srl p0l 4 o_1) 5))))]] : List va_W))) (wr := (List.flatten ([[((p0a 0), .inr (9, [.int (p0w 0 0), .int (p0w 0 1), .int (p0w 0 2), .ref (p0a 4), .ref (p0a 5), .ref (p0a 6), .ref (p0a 7), .ref (p0a 8), .int (p0w 0 8), .ref (p0a 10), .ref (p0a 11), .ref (p0a 12), .ref (p0a 13), .ref (p0a 14), .ref (p0a 15), .ref (p0a 16), .ref (p0a 17), .ref (p0a 18), .ref (p0a 19)])), ((p0a 4), .inl ((p0k 4), (p0n 4), .inr (.inl ((srl p0l 4 o_1) 4)))), ((p0a 6), .inl ((p0k 6), (p0n 6), .inr (.inl ((srl p0l 4 o_1) 6)))), ((p0a 7), .inl ((p0k 7), (p0n 7), .inr (.inl ((srl p0l 4 o_1) 7)))), ((p0a 8), .inl ((p0k 8), 2, .inl (p0w 8))), ((p0a 10), .inl ((p0k 10), (p0n 10), .inl (p0w 10))), ((p0a 11), .inl ((p0k 11), (p0n 11), .inr (.inl ((srl p0l 4 o_1) 11)))), ((p0a 12), .inl ((p0k 12), (p0n 12), .inl (p0w 12))), ((p0a 13), .inl ((p0k 13), (p0n 13), .inl (p0w 13))), ((p0a 14), .inl ((p0k 14), (p0n 14), .inr (.inl ((srl p0l 4 o_1) 14)))), ((p0a 15), .inl ((p0k 15), (p0n 15), .inl (p0w 15))), ((p0a 16), .inl ((p0k 16), (p0n 16), .inl (p0w 16))), ((p0a 17), .inl ((p0k 17), (p0n 17), .inl (p0w 17))), ((p0a 18), .inl ((p0k 18), (p0n 18), .inl (p0w 18))), ((p0a 19), .inl ((p0k 19), (p0n 19), .inl (p0w 19)))], (oX1 (p1a 0) p1a p1k p1n p1w p1l), (oX9 (p1a 3) p1_2a p1_2k p1_2n p1_2w)] : List va_W))) (w1 := (List.flatten ([[((p0a 5), .inl ((p0k 5), (p0n 5), .inr (.inl ((srl (srl p0l 4 o_1) 5 o_2) 5))))]] : List va_W))) (t1 := (List.flatten ([[((p0k 5), .long)]] : List (List (ClassId × FieldType))))) hPx hDx hKx hk1 hFc b1 (va_K.moved hvm.symm b2) b3
  have hP3 : va_P (dC, dI) cls (List.flatten ([(oX2 (p0a 0) p0a p0k p0n p0w (srl (srl p0l 4 o_1) 5 o_2)), (oX1 (p1a 0) p1a p1k p1n p1w p1l), (oX9 (p1a 3) p1_2a p1_2k p1_2n p1_2w)] : List va_W)) H := vP_perm (vP_fb hP) ((bP (List.Perm.refl _)).trans (List.Perm.append_right _ (List.perm_middle (a := (((p0a 5), .inl ((p0k 5), (p0n 5), .inr (.inl ((srl (srl p0l 4 o_1) 5 o_2) 5)))) : Nat × va_E)) (l₁ := ([((p0a 0), .inr (9, [.int (p0w 0 0), .int (p0w 0 1), .int (p0w 0 2), .ref (p0a 4), .ref (p0a 5), .ref (p0a 6), .ref (p0a 7), .ref (p0a 8), .int (p0w 0 8), .ref (p0a 10), .ref (p0a 11), .ref (p0a 12), .ref (p0a 13), .ref (p0a 14), .ref (p0a 15), .ref (p0a 16), .ref (p0a 17), .ref (p0a 18), .ref (p0a 19)])), ((p0a 4), .inl ((p0k 4), (p0n 4), .inr (.inl ((srl (srl p0l 4 o_1) 5 o_2) 4))))] : va_W)) (l₂ := ([((p0a 6), .inl ((p0k 6), (p0n 6), .inr (.inl ((srl (srl p0l 4 o_1) 5 o_2) 6)))), ((p0a 7), .inl ((p0k 7), (p0n 7), .inr (.inl ((srl (srl p0l 4 o_1) 5 o_2) 7)))), ((p0a 8), .inl ((p0k 8), 2, .inl (p0w 8))), ((p0a 10), .inl ((p0k 10), (p0n 10), .inl (p0w 10))), ((p0a 11), .inl ((p0k 11), (p0n 11), .inr (.inl ((srl (srl p0l 4 o_1) 5 o_2) 11)))), ((p0a 12), .inl ((p0k 12), (p0n 12), .inl (p0w 12))), ((p0a 13), .inl ((p0k 13), (p0n 13), .inl (p0w 13))), ((p0a 14), .inl ((p0k 14), (p0n 14), .inr (.inl ((srl (srl p0l 4 o_1) 5 o_2) 14)))), ((p0a 15), .inl ((p0k 15), (p0n 15), .inl (p0w 15))), ((p0a 16), .inl ((p0k 16), (p0n 16), .inl (p0w 16))), ((p0a 17), .inl ((p0k 17), (p0n 17), .inl (p0w 17))), ((p0a 18), .inl ((p0k 18), (p0n 18), .inl (p0w 18))), ((p0a 19), .inl ((p0k 19), (p0n 19), .inl (p0w 19)))] : va_W))).symm))
  have hD3 : va_D A (List.flatten ([(oX2 (p0a 0) p0a p0k p0n p0w (srl (srl p0l 4 o_1) 5 o_2)), (oX1 (p1a 0) p1a p1k p1n p1w p1l), (oX9 (p1a 3) p1_2a p1_2k p1_2n p1_2w)] : List va_W)) := vD_perm (vD_fb hD) ((bP (List.Perm.refl _)).trans (List.Perm.append_right _ (List.perm_middle (a := (((p0a 5), .inl ((p0k 5), (p0n 5), .inr (.inl ((srl (srl p0l 4 o_1) 5 o_2) 5)))) : Nat × va_E)) (l₁ := ([((p0a 0), .inr (9, [.int (p0w 0 0), .int (p0w 0 1), .int (p0w 0 2), .ref (p0a 4), .ref (p0a 5), .ref (p0a 6), .ref (p0a 7), .ref (p0a 8), .int (p0w 0 8), .ref (p0a 10), .ref (p0a 11), .ref (p0a 12), .ref (p0a 13), .ref (p0a 14), .ref (p0a 15), .ref (p0a 16), .ref (p0a 17), .ref (p0a 18), .ref (p0a 19)])), ((p0a 4), .inl ((p0k 4), (p0n 4), .inr (.inl ((srl (srl p0l 4 o_1) 5 o_2) 4))))] : va_W)) (l₂ := ([((p0a 6), .inl ((p0k 6), (p0n 6), .inr (.inl ((srl (srl p0l 4 o_1) 5 o_2) 6)))), ((p0a 7), .inl ((p0k 7), (p0n 7), .inr (.inl ((srl (srl p0l 4 o_1) 5 o_2) 7)))), ((p0a 8), .inl ((p0k 8), 2, .inl (p0w 8))), ((p0a 10), .inl ((p0k 10), (p0n 10), .inl (p0w 10))), ((p0a 11), .inl ((p0k 11), (p0n 11), .inr (.inl ((srl (srl p0l 4 o_1) 5 o_2) 11)))), ((p0a 12), .inl ((p0k 12), (p0n 12), .inl (p0w 12))), ((p0a 13), .inl ((p0k 13), (p0n 13), .inl (p0w 13))), ((p0a 14), .inl ((p0k 14), (p0n 14), .inr (.inl ((srl (srl p0l 4 o_1) 5 o_2) 14)))), ((p0a 15), .inl ((p0k 15), (p0n 15), .inl (p0w 15))), ((p0a 16), .inl ((p0k 16), (p0n 16), .inl (p0w 16))), ((p0a 17), .inl ((p0k 17), (p0n 17), .inl (p0w 17))), ((p0a 18), .inl ((p0k 18), (p0n 18), .inl (p0w 18))), ((p0a 19), .inl ((p0k 19), (p0n 19), .inl (p0w 19)))] : va_W))).symm))
  have hK3 : va_K (dC, dI) cls (List.flatten ([(tX2 p0k), (tX1 p1k), (tX9 p1_2k)] : List (List (ClassId × FieldType)))) s := vK_perm (vK_fb hK) ((bP (List.Perm.refl _)).trans (List.Perm.append_right _ (List.perm_middle (a := (((p0k 5), .long) : ClassId × FieldType)) (l₁ := ([((p0k 4), .long)] : List (ClassId × FieldType))) (l₂ := ([((p0k 6), .long), ((p0k 7), .long), ((p0k 8), .int), ((p0k 10), .int), ((p0k 11), .long), ((p0k 12), .int), ((p0k 13), .int), ((p0k 14), .long), ((p0k 15), .int), ((p0k 16), .int), ((p0k 17), .int), ((p0k 18), .int), ((p0k 19), .int)] : List (ClassId × FieldType)))).symm))
  have hP : va_P (dC, dI) cls (List.flatten ([(oX2 (p0a 0) p0a p0k p0n p0w (srl (srl p0l 4 o_1) 5 o_2)), (oX1 (p1a 0) p1a p1k p1n p1w p1l), (oX9 (p1a 3) p1_2a p1_2k p1_2n p1_2w)] : List va_W)) H := vP_perm hP3 (bP (List.Perm.refl _))
  have hD : va_D A (List.flatten ([(oX2 (p0a 0) p0a p0k p0n p0w (srl (srl p0l 4 o_1) 5 o_2)), (oX1 (p1a 0) p1a p1k p1n p1w p1l), (oX9 (p1a 3) p1_2a p1_2k p1_2n p1_2w)] : List va_W)) := vD_perm hD3 (bP (List.Perm.refl _))
  have hK : va_K (dC, dI) cls (List.flatten ([(tX2 p0k), (tX1 p1k), (tX9 p1_2k)] : List (List (ClassId × FieldType)))) s := vK_perm hK3 (bP (List.Perm.refl _))
  refine lv_aload_n hx hb dX2_noteBlock_44 rfl (lv_at hl 1 rfl) ?_
  refine va_get (D := (dC, dI)) (ci := 4) (v := .ref (p1a 3)) (C := RX1) (T := TX1) (N := 21) hx hb hts i_X1 hown hK hP 16 rfl rfl 2 (by decide) (hts _ qw698) (fun _ h9 => h9) rfl dX2_noteBlock_45 ?_
  refine lv_astore_n (lv' := [(3, .ref (p1a 3)), (0, .ref (p0a 0)), (1, .ref (p1a 0)), (2, .int p2)]) hx hb dX2_noteBlock_48 rfl hl (by decide) rfl (fun ls hl => ?_)
  refine lv_aload_n hx hb dX2_noteBlock_49 rfl (lv_at hl 2 rfl) ?_
  refine va_get (D := (dC, dI)) (ci := 4) (v := .ref (p1a 4)) (C := RX1) (T := TX1) (N := 21) hx hb hts i_X1 hown hK hP 16 rfl rfl 3 (by decide) (hts _ qw699) (fun _ h9 => h9) rfl dX2_noteBlock_50 ?_
  refine lv_iload_n hx hb dX2_noteBlock_53 rfl (lv_at hl 3 rfl) ?_
  obtain ⟨hq3, hrun⟩ := chk9 hrun
  refine va_iald hx hb hK hP 17 15 rfl rfl (ixb_in hq3) dX2_noteBlock_54 ?_
  refine lv_istore (lv' := [(4, .int (p1w 4 (nn p2))), (3, .ref (p1a 3)), (0, .ref (p0a 0)), (1, .ref (p1a 0)), (2, .int p2)]) hx hb dX2_noteBlock_55 hl (by decide) rfl (fun ls hl => ?_)
  have L57 : ∀ (n_57 : Nat) (v4_57 : Int32) (p0l_57 : SL) (o57 : SL) (H : Heap) (locs : List Loc) (ls : Array Slot), (fX2_noteBlock_L57 p0n p0w p2 p1_2n p1_2w n_57) v4_57 p0l_57 = some o57 → va_P (dC, dI) cls (List.flatten ([(oX2 (p0a 0) p0a p0k p0n p0w p0l_57), (oX1 (p1a 0) p1a p1k p1n p1w p1l), (oX9 (p1a 3) p1_2a p1_2k p1_2n p1_2w)] : List va_W)) H → va_D A (List.flatten ([(oX2 (p0a 0) p0a p0k p0n p0w p0l_57), (oX1 (p1a 0) p1a p1k p1n p1w p1l), (oX9 (p1a 3) p1_2a p1_2k p1_2n p1_2w)] : List va_W)) → va_K (dC, dI) cls (List.flatten ([(tX2 p0k), (tX1 p1k), (tX9 p1_2k)] : List (List (ClassId × FieldType)))) s → va_S A s.heap H locs → lv_has ls 5 [(0, .ref (p0a 0)), (1, .ref (p1a 0)), (2, .int p2), (3, .ref (p1a 3)), (4, .int v4_57)] → (∀ (H : Heap) (locs : List Loc) (ls : Array Slot), va_P (dC, dI) cls (List.flatten ([(oX2 (p0a 0) p0a p0k p0n p0w o57), (oX1 (p1a 0) p1a p1k p1n p1w p1l), (oX9 (p1a 3) p1_2a p1_2k p1_2n p1_2w)] : List va_W)) H → va_D A (List.flatten ([(oX2 (p0a 0) p0a p0k p0n p0w o57), (oX1 (p1a 0) p1a p1k p1n p1w p1l), (oX9 (p1a 3) p1_2a p1_2k p1_2n p1_2w)] : List va_W)) → va_K (dC, dI) cls (List.flatten ([(tX2 p0k), (tX1 p1k), (tX9 p1_2k)] : List (List (ClassId × FieldType)))) s → va_S A s.heap H locs → lv_has ls 5 [(0, .ref (p0a 0)), (1, .ref (p1a 0)), (2, .int p2)] → W p l e ({ frames := 3, cells := 0, slots := 0, locals := 67 } : Room) s m ([.ref (p0a 0), .ref (p1a 0), .int p2] : List Value).toArray below meth c H locs 0 0 Q (F0 m 164 ls [])) → W p l e ({ frames := 3, cells := 0, slots := 0, locals := 67 } : Room) s m ([.ref (p0a 0), .ref (p1a 0), .int p2] : List Value).toArray below meth c H locs 0 0 Q (F0 m 57 ls []) := by
    intro n_57
    induction n_57 with
    | zero => intro v4_57 p0l_57 o57 H locs ls hrun; exact (no9 rfl hrun).elim
    | succ n_57 IH57 =>
      intro v4_57 p0l_57 o57 H locs ls hrun hP hD hK hS hl hk57
      unfold fX2_noteBlock_L57 at hrun
      refine lv_iload hx hb dX2_noteBlock_57 (lv_at hl 4 rfl) ?_
      rcases br9 hrun with ⟨hc4, hrun⟩ | ⟨hc4, hrun⟩
      · refine lv_if_lt (tgt := 164) hx hb dX2_noteBlock_59 (by decide) (fun _ => ?_) (fun c => absurd hc4 c)
        obtain rfl := (Option.some.inj hrun)
        exact hk57 _ _ _ hP hD hK hS (lv_sub hl [0, 1, 2] rfl)
      · refine lv_if_lt (tgt := 164) hx hb dX2_noteBlock_59 (by decide) (fun c => absurd c hc4) (fun _ => ?_)
        refine lv_aload_n hx hb dX2_noteBlock_62 rfl (lv_at hl 3 rfl) ?_
        refine va_get (D := (dC, dI)) (ci := 3) (v := .ref (p1_2a 2)) (C := RX9) (T := TX9) (N := 6) hx hb hts i_X9 hown hK hP 34 rfl rfl 1 (by decide) (hts _ qw700) (fun _ h9 => h9) rfl dX2_noteBlock_63 ?_
        refine lv_iload hx hb dX2_noteBlock_66 (lv_at hl 4 rfl) ?_
        obtain ⟨hq5, hrun⟩ := chk9 hrun
        refine va_iald hx hb hK hP 35 32 rfl rfl (ixb_in hq5) dX2_noteBlock_68 ?_
        obtain ⟨o_6, hc_6, hrun⟩ := bnd9 hrun
        have hPx : va_P (dC, dI) cls ((List.flatten ([] : List va_W)) ++ (List.flatten ([(oX2 (p0a 0) p0a p0k p0n p0w p0l_57), (oX1 (p1a 0) p1a p1k p1n p1w p1l), (oX9 (p1a 3) p1_2a p1_2k p1_2n p1_2w)] : List va_W))) H := vP_fa (vP_perm hP (bP (List.Perm.refl _)))
        have hDx : va_D A ((List.flatten ([] : List va_W)) ++ (List.flatten ([(oX2 (p0a 0) p0a p0k p0n p0w p0l_57), (oX1 (p1a 0) p1a p1k p1n p1w p1l), (oX9 (p1a 3) p1_2a p1_2k p1_2n p1_2w)] : List va_W))) := vD_fa (vD_perm hD (bP (List.Perm.refl _)))
        have hKx : va_K (dC, dI) cls ((List.flatten ([] : List (List (ClassId × FieldType)))) ++ (List.flatten ([(tX2 p0k), (tX1 p1k), (tX9 p1_2k)] : List (List (ClassId × FieldType))))) s := vK_fa (vK_perm hK (bP (List.Perm.refl _)))
        have hPc := vP_l hPx
        have hDc := vD_l hDx
        have hKc := vK_l hKx
        have hFc := vfree hDx hS hA
        refine va_calli (va_runSN (As := [.int (p1_2w 2 (nn v4_57))]) (rest := []) ⟨hx, hb, hml, hown, hts⟩ (kX11_usesLeft l dC dI (p0 := (p1_2w 2 (nn v4_57))) (sz := _) (o := o_6) (hrun := hc_6)) ⟨(va_cnB 1 hts (gi_z qw446) rfl rfl rfl (hE.nw (List.mem_append_right _ (tbl_8 (i := 214) rfl)) rfl) (hts _ qw129) (by decide +kernel) ⟨Nat.le_of_ble_eq_true rfl, Nat.le_of_ble_eq_true rfl⟩), (hts _ qw447), trivial⟩ ⟨PRE.blind, PRE.of hE hS hFc hPc hKc hDc⟩ rfl rfl hl.1 rfl (lv_room (Nat.le_of_ble_eq_true rfl)) dX2_noteBlock_69 ⟨(Nat.le_of_ble_eq_true rfl), (Nat.le_of_ble_eq_true rfl)⟩) hS (fun q _ h => hFc q h) hFc (fun r7 u t H locs ht hvm hw hB hz1 hk1 hS => ?_)
        obtain ⟨b1, b2, b3⟩ := hB
        rw [ht] at b1
        obtain ⟨hP, hD, hK⟩ := JOINC (wc := (List.flatten ([] : List va_W))) (wr := (List.flatten ([(oX2 (p0a 0) p0a p0k p0n p0w p0l_57), (oX1 (p1a 0) p1a p1k p1n p1w p1l), (oX9 (p1a 3) p1_2a p1_2k p1_2n p1_2w)] : List va_W))) (w1 := (List.flatten ([] : List va_W))) (t1 := (List.flatten ([] : List (List (ClassId × FieldType))))) hPx hDx hKx hk1 hFc b1 (va_K.moved hvm.symm b2) b3
        have hP : va_P (dC, dI) cls (List.flatten ([(oX2 (p0a 0) p0a p0k p0n p0w p0l_57), (oX1 (p1a 0) p1a p1k p1n p1w p1l), (oX9 (p1a 3) p1_2a p1_2k p1_2n p1_2w)] : List va_W)) H := vP_perm (vP_fb hP) (bP (List.Perm.refl _))
        have hD : va_D A (List.flatten ([(oX2 (p0a 0) p0a p0k p0n p0w p0l_57), (oX1 (p1a 0) p1a p1k p1n p1w p1l), (oX9 (p1a 3) p1_2a p1_2k p1_2n p1_2w)] : List va_W)) := vD_perm (vD_fb hD) (bP (List.Perm.refl _))
        have hK : va_K (dC, dI) cls (List.flatten ([(tX2 p0k), (tX1 p1k), (tX9 p1_2k)] : List (List (ClassId × FieldType)))) s := vK_perm (vK_fb hK) (bP (List.Perm.refl _))
        obtain rfl : o_6 = r7 := hw.symm
        have J87 : ∀ (p0l_87 : SL) (H : Heap) (locs : List Loc) (ls : Array Slot), (fX2_noteBlock_J87 (fX2_noteBlock_L57 p0n p0w p2 p1_2n p1_2w n_57) p0n p0w p2 p1_2n p1_2w v4_57 p0l_87) = some o57 → va_P (dC, dI) cls (List.flatten ([(oX2 (p0a 0) p0a p0k p0n p0w p0l_87), (oX1 (p1a 0) p1a p1k p1n p1w p1l), (oX9 (p1a 3) p1_2a p1_2k p1_2n p1_2w)] : List va_W)) H → va_D A (List.flatten ([(oX2 (p0a 0) p0a p0k p0n p0w p0l_87), (oX1 (p1a 0) p1a p1k p1n p1w p1l), (oX9 (p1a 3) p1_2a p1_2k p1_2n p1_2w)] : List va_W)) → va_K (dC, dI) cls (List.flatten ([(tX2 p0k), (tX1 p1k), (tX9 p1_2k)] : List (List (ClassId × FieldType)))) s → va_S A s.heap H locs → lv_has ls 5 [(0, .ref (p0a 0)), (1, .ref (p1a 0)), (2, .int p2), (3, .ref (p1a 3)), (4, .int v4_57)] → W p l e ({ frames := 3, cells := 0, slots := 0, locals := 67 } : Room) s m ([.ref (p0a 0), .ref (p1a 0), .int p2] : List Value).toArray below meth c H locs 0 0 Q (F0 m 87 ls []) := by
          intro p0l_87 H locs ls hrun hP hD hK hS hl 
          unfold fX2_noteBlock_J87 at hrun
          refine lv_aload_n hx hb dX2_noteBlock_87 rfl (lv_at hl 3 rfl) ?_
          refine va_get (D := (dC, dI)) (ci := 3) (v := .ref (p1_2a 2)) (C := RX9) (T := TX9) (N := 6) hx hb hts i_X9 hown hK hP 34 rfl rfl 1 (by decide) (hts _ qw700) (fun _ h9 => h9) rfl dX2_noteBlock_88 ?_
          refine lv_iload hx hb dX2_noteBlock_91 (lv_at hl 4 rfl) ?_
          obtain ⟨hq8, hrun⟩ := chk9 hrun
          refine va_iald hx hb hK hP 35 32 rfl rfl (ixb_in hq8) dX2_noteBlock_93 ?_
          obtain ⟨o_9, hc_9, hrun⟩ := bnd9 hrun
          have hPx : va_P (dC, dI) cls ((List.flatten ([] : List va_W)) ++ (List.flatten ([(oX2 (p0a 0) p0a p0k p0n p0w p0l_87), (oX1 (p1a 0) p1a p1k p1n p1w p1l), (oX9 (p1a 3) p1_2a p1_2k p1_2n p1_2w)] : List va_W))) H := vP_fa (vP_perm hP (bP (List.Perm.refl _)))
          have hDx : va_D A ((List.flatten ([] : List va_W)) ++ (List.flatten ([(oX2 (p0a 0) p0a p0k p0n p0w p0l_87), (oX1 (p1a 0) p1a p1k p1n p1w p1l), (oX9 (p1a 3) p1_2a p1_2k p1_2n p1_2w)] : List va_W))) := vD_fa (vD_perm hD (bP (List.Perm.refl _)))
          have hKx : va_K (dC, dI) cls ((List.flatten ([] : List (List (ClassId × FieldType)))) ++ (List.flatten ([(tX2 p0k), (tX1 p1k), (tX9 p1_2k)] : List (List (ClassId × FieldType))))) s := vK_fa (vK_perm hK (bP (List.Perm.refl _)))
          have hPc := vP_l hPx
          have hDc := vD_l hDx
          have hKc := vK_l hKx
          have hFc := vfree hDx hS hA
          refine va_calli (va_runSN (As := [.int (p1_2w 2 (nn v4_57))]) (rest := []) ⟨hx, hb, hml, hown, hts⟩ (kX11_usesRight l dC dI (p0 := (p1_2w 2 (nn v4_57))) (sz := _) (o := o_9) (hrun := hc_9)) ⟨(va_cnB 1 hts (gi_z qw351) rfl rfl rfl (hE.nw (List.mem_append_right _ (tbl_8 (i := 228) rfl)) rfl) (hts _ qw129) (by decide +kernel) ⟨Nat.le_of_ble_eq_true rfl, Nat.le_of_ble_eq_true rfl⟩), (hts _ qw352), trivial⟩ ⟨PRE.blind, PRE.of hE hS hFc hPc hKc hDc⟩ rfl rfl hl.1 rfl (lv_room (Nat.le_of_ble_eq_true rfl)) dX2_noteBlock_94 ⟨(Nat.le_of_ble_eq_true rfl), (Nat.le_of_ble_eq_true rfl)⟩) hS (fun q _ h => hFc q h) hFc (fun r10 u t H locs ht hvm hw hB hz1 hk1 hS => ?_)
          obtain ⟨b1, b2, b3⟩ := hB
          rw [ht] at b1
          obtain ⟨hP, hD, hK⟩ := JOINC (wc := (List.flatten ([] : List va_W))) (wr := (List.flatten ([(oX2 (p0a 0) p0a p0k p0n p0w p0l_87), (oX1 (p1a 0) p1a p1k p1n p1w p1l), (oX9 (p1a 3) p1_2a p1_2k p1_2n p1_2w)] : List va_W))) (w1 := (List.flatten ([] : List va_W))) (t1 := (List.flatten ([] : List (List (ClassId × FieldType))))) hPx hDx hKx hk1 hFc b1 (va_K.moved hvm.symm b2) b3
          have hP : va_P (dC, dI) cls (List.flatten ([(oX2 (p0a 0) p0a p0k p0n p0w p0l_87), (oX1 (p1a 0) p1a p1k p1n p1w p1l), (oX9 (p1a 3) p1_2a p1_2k p1_2n p1_2w)] : List va_W)) H := vP_perm (vP_fb hP) (bP (List.Perm.refl _))
          have hD : va_D A (List.flatten ([(oX2 (p0a 0) p0a p0k p0n p0w p0l_87), (oX1 (p1a 0) p1a p1k p1n p1w p1l), (oX9 (p1a 3) p1_2a p1_2k p1_2n p1_2w)] : List va_W)) := vD_perm (vD_fb hD) (bP (List.Perm.refl _))
          have hK : va_K (dC, dI) cls (List.flatten ([(tX2 p0k), (tX1 p1k), (tX9 p1_2k)] : List (List (ClassId × FieldType)))) s := vK_perm (vK_fb hK) (bP (List.Perm.refl _))
          obtain rfl : o_9 = r10 := hw.symm
          have J112 : ∀ (p0l_112 : SL) (H : Heap) (locs : List Loc) (ls : Array Slot), (fX2_noteBlock_J112 (fX2_noteBlock_L57 p0n p0w p2 p1_2n p1_2w n_57) p0n p0w p2 p1_2n p1_2w v4_57 p0l_112) = some o57 → va_P (dC, dI) cls (List.flatten ([(oX2 (p0a 0) p0a p0k p0n p0w p0l_112), (oX1 (p1a 0) p1a p1k p1n p1w p1l), (oX9 (p1a 3) p1_2a p1_2k p1_2n p1_2w)] : List va_W)) H → va_D A (List.flatten ([(oX2 (p0a 0) p0a p0k p0n p0w p0l_112), (oX1 (p1a 0) p1a p1k p1n p1w p1l), (oX9 (p1a 3) p1_2a p1_2k p1_2n p1_2w)] : List va_W)) → va_K (dC, dI) cls (List.flatten ([(tX2 p0k), (tX1 p1k), (tX9 p1_2k)] : List (List (ClassId × FieldType)))) s → va_S A s.heap H locs → lv_has ls 5 [(0, .ref (p0a 0)), (1, .ref (p1a 0)), (2, .int p2), (3, .ref (p1a 3)), (4, .int v4_57)] → W p l e ({ frames := 3, cells := 0, slots := 0, locals := 67 } : Room) s m ([.ref (p0a 0), .ref (p1a 0), .int p2] : List Value).toArray below meth c H locs 0 0 Q (F0 m 112 ls []) := by
            intro p0l_112 H locs ls hrun hP hD hK hS hl 
            unfold fX2_noteBlock_J112 at hrun
            refine lv_aload_n hx hb dX2_noteBlock_112 rfl (lv_at hl 3 rfl) ?_
            refine va_get (D := (dC, dI)) (ci := 3) (v := .ref (p1_2a 3)) (C := RX9) (T := TX9) (N := 6) hx hb hts i_X9 hown hK hP 34 rfl rfl 2 (by decide) (hts _ qw701) (fun _ h9 => h9) rfl dX2_noteBlock_113 ?_
            refine lv_iload hx hb dX2_noteBlock_116 (lv_at hl 4 rfl) ?_
            obtain ⟨hq11, hrun⟩ := chk9 hrun
            refine va_iald hx hb hK hP 36 33 rfl rfl (ixb_in hq11) dX2_noteBlock_118 ?_
            have J152 : ∀ (p0l_152 : SL) (H : Heap) (locs : List Loc) (ls : Array Slot), (fX2_noteBlock_J152 (fX2_noteBlock_L57 p0n p0w p2 p1_2n p1_2w n_57) p1_2n p1_2w v4_57 p0l_152) = some o57 → va_P (dC, dI) cls (List.flatten ([(oX2 (p0a 0) p0a p0k p0n p0w p0l_152), (oX1 (p1a 0) p1a p1k p1n p1w p1l), (oX9 (p1a 3) p1_2a p1_2k p1_2n p1_2w)] : List va_W)) H → va_D A (List.flatten ([(oX2 (p0a 0) p0a p0k p0n p0w p0l_152), (oX1 (p1a 0) p1a p1k p1n p1w p1l), (oX9 (p1a 3) p1_2a p1_2k p1_2n p1_2w)] : List va_W)) → va_K (dC, dI) cls (List.flatten ([(tX2 p0k), (tX1 p1k), (tX9 p1_2k)] : List (List (ClassId × FieldType)))) s → va_S A s.heap H locs → lv_has ls 5 [(0, .ref (p0a 0)), (1, .ref (p1a 0)), (2, .int p2), (3, .ref (p1a 3)), (4, .int v4_57)] → W p l e ({ frames := 3, cells := 0, slots := 0, locals := 67 } : Room) s m ([.ref (p0a 0), .ref (p1a 0), .int p2] : List Value).toArray below meth c H locs 0 0 Q (F0 m 152 ls []) := by
              intro p0l_152 H locs ls hrun hP hD hK hS hl 
              unfold fX2_noteBlock_J152 at hrun
              refine lv_aload_n hx hb dX2_noteBlock_152 rfl (lv_at hl 3 rfl) ?_
              refine va_get (D := (dC, dI)) (ci := 3) (v := .ref (p1_2a 6)) (C := RX9) (T := TX9) (N := 6) hx hb hts i_X9 hown hK hP 34 rfl rfl 5 (by decide) (hts _ qw702) (fun _ h9 => h9) rfl dX2_noteBlock_153 ?_
              refine lv_iload hx hb dX2_noteBlock_156 (lv_at hl 4 rfl) ?_
              obtain ⟨hq12, hrun⟩ := chk9 hrun
              refine va_iald hx hb hK hP 39 36 rfl rfl (ixb_in hq12) dX2_noteBlock_158 ?_
              refine lv_istore (lv' := [(4, .int (p1_2w 6 (nn v4_57))), (0, .ref (p0a 0)), (1, .ref (p1a 0)), (2, .int p2), (3, .ref (p1a 3))]) hx hb dX2_noteBlock_159 hl (by decide) rfl (fun ls hl => ?_)
              refine lv_goto (tgt := 57) hx hb dX2_noteBlock_161 (by decide) ?_
              exact IH57 (p1_2w 6 (nn v4_57)) p0l_152 o57 _ _ _ hrun hP hD hK hS (lv_sub hl [1, 2, 3, 4, 0] rfl) hk57
            rcases br9 hrun with ⟨hc13, hrun⟩ | ⟨hc13, hrun⟩
            · refine lv_if_lt (tgt := 152) hx hb dX2_noteBlock_119 (by decide) (fun _ => ?_) (fun c => absurd hc13 c)
              exact J152 p0l_112 _ _ _ hrun hP hD hK hS (lv_sub hl [0, 1, 2, 3, 4] rfl)
            · refine lv_if_lt (tgt := 152) hx hb dX2_noteBlock_119 (by decide) (fun c => absurd c hc13) (fun _ => ?_)
              refine lv_aload_n hx hb dX2_noteBlock_122 rfl (lv_at hl 3 rfl) ?_
              refine va_get (D := (dC, dI)) (ci := 3) (v := .ref (p1_2a 3)) (C := RX9) (T := TX9) (N := 6) hx hb hts i_X9 hown hK hP 34 rfl rfl 2 (by decide) (hts _ qw701) (fun _ h9 => h9) rfl dX2_noteBlock_123 ?_
              refine lv_iload hx hb dX2_noteBlock_126 (lv_at hl 4 rfl) ?_
              obtain ⟨hq14, hrun⟩ := chk9 hrun
              refine va_iald hx hb hK hP 36 33 rfl rfl (ixb_in hq14) dX2_noteBlock_128 ?_
              refine lv_aload_n hx hb dX2_noteBlock_129 rfl (lv_at hl 0 rfl) ?_
              refine va_get (D := (dC, dI)) (ci := 9) (v := .int (p0w 0 0)) (C := RX2) (T := TX2) (N := 19) hx hb hts i_X2 hown hK hP 0 rfl rfl 0 (by decide) (hts _ qw667) (fun _ h9 => h9) rfl dX2_noteBlock_130 ?_
              rcases br9 hrun with ⟨hc15, hrun⟩ | ⟨hc15, hrun⟩
              · refine lv_icmp_ge (tgt := 152) hx hb dX2_noteBlock_133 (by decide) (fun _ => ?_) (fun c => absurd hc15 c)
                exact J152 p0l_112 _ _ _ hrun hP hD hK hS (lv_sub hl [0, 1, 2, 3, 4] rfl)
              · refine lv_icmp_ge (tgt := 152) hx hb dX2_noteBlock_133 (by decide) (fun c => absurd c hc15) (fun _ => ?_)
                refine lv_aload_n hx hb dX2_noteBlock_136 rfl (lv_at hl 0 rfl) ?_
                refine lv_aload_n hx hb dX2_noteBlock_137 rfl (lv_at hl 0 rfl) ?_
                refine va_get (D := (dC, dI)) (ci := 9) (v := .ref (p0a 5)) (C := RX2) (T := TX2) (N := 19) hx hb hts i_X2 hown hK hP 0 rfl rfl 4 (by decide) (hts _ qw678) (fun _ h9 => h9) rfl dX2_noteBlock_138 ?_
                refine lv_iload_n hx hb dX2_noteBlock_141 rfl (lv_at hl 2 rfl) ?_
                refine lv_aload_n hx hb dX2_noteBlock_142 rfl (lv_at hl 3 rfl) ?_
                refine va_get (D := (dC, dI)) (ci := 3) (v := .ref (p1_2a 3)) (C := RX9) (T := TX9) (N := 6) hx hb hts i_X9 hown hK hP 34 rfl rfl 2 (by decide) (hts _ qw701) (fun _ h9 => h9) rfl dX2_noteBlock_143 ?_
                refine lv_iload hx hb dX2_noteBlock_146 (lv_at hl 4 rfl) ?_
                obtain ⟨hq16, hrun⟩ := chk9 hrun
                refine va_iald hx hb hK hP 36 33 rfl rfl (ixb_in hq16) dX2_noteBlock_148 ?_
                obtain ⟨o_17, hc_17, hrun⟩ := bnd9 hrun
                have hPx : va_P (dC, dI) cls ((List.flatten ([(oX2 (p0a 0) p0a p0k p0n p0w p0l_112)] : List va_W)) ++ (List.flatten ([(oX1 (p1a 0) p1a p1k p1n p1w p1l), (oX9 (p1a 3) p1_2a p1_2k p1_2n p1_2w)] : List va_W))) H := vP_fa (vP_perm hP (bP (List.Perm.refl _)))
                have hDx : va_D A ((List.flatten ([(oX2 (p0a 0) p0a p0k p0n p0w p0l_112)] : List va_W)) ++ (List.flatten ([(oX1 (p1a 0) p1a p1k p1n p1w p1l), (oX9 (p1a 3) p1_2a p1_2k p1_2n p1_2w)] : List va_W))) := vD_fa (vD_perm hD (bP (List.Perm.refl _)))
                have hKx : va_K (dC, dI) cls ((List.flatten ([(tX2 p0k)] : List (List (ClassId × FieldType)))) ++ (List.flatten ([(tX1 p1k), (tX9 p1_2k)] : List (List (ClassId × FieldType))))) s := vK_fa (vK_perm hK (bP (List.Perm.refl _)))
                have hPc := vP_l hPx
                have hDc := vD_l hDx
                have hKc := vK_l hKx
                have hFc := vfree hDx hS hA
                refine va_callv (va_runV (As := [.ref (p0a 5), .int p2, .int (p1_2w 3 (nn v4_57))]) (rest := []) ⟨hx, hb, hml, hown, hts⟩ (kX2_put_a1_p0_4 l dC dI (p0a := p0a) (p0k := p0k) (p0n := p0n) (p0w := p0w) (p0l := p0l_112) (p2 := p2) (p3 := (p1_2w 3 (nn v4_57))) (sz := _) (o := o_17) (hrun := hc_17)) (cwV 3 hts (gi_V qw704 qw705 qw706 qw694 (gi_z qw703)) rfl rfl rfl (by decide +kernel) ⟨Nat.le_of_ble_eq_true rfl, Nat.le_of_ble_eq_true rfl⟩) ⟨PRE.blind, va_recv hKc hPc (ci := 9) (q0 := 0) rfl rfl, PRE.of hE hS hFc hPc hKc hDc⟩ rfl rfl hl.1 rfl (lv_room (Nat.le_of_ble_eq_true rfl)) dX2_noteBlock_149 ⟨(Nat.le_of_ble_eq_true rfl), (Nat.le_of_ble_eq_true rfl)⟩) hS (fun q _ h => hFc q h) hFc (fun u t H locs ht hvm hw hB hz1 hk1 hS => ?_)
                obtain ⟨b1, b2, b3⟩ := hB
                rw [ht] at b1
                obtain ⟨hP, hD, hK⟩ := JOINC (wc := (List.flatten ([(oX2 (p0a 0) p0a p0k p0n p0w p0l_112)] : List va_W))) (wr := (List.flatten ([(oX1 (p1a 0) p1a p1k p1n p1w p1l), (oX9 (p1a 3) p1_2a p1_2k p1_2n p1_2w)] : List va_W))) (w1 := (List.flatten ([(oX2 (p0a 0) p0a p0k p0n p0w o_17)] : List va_W))) (t1 := (List.flatten ([(tX2 p0k)] : List (List (ClassId × FieldType))))) hPx hDx hKx hk1 hFc b1 (va_K.moved hvm.symm b2) b3
                have hP : va_P (dC, dI) cls (List.flatten ([(oX2 (p0a 0) p0a p0k p0n p0w o_17), (oX1 (p1a 0) p1a p1k p1n p1w p1l), (oX9 (p1a 3) p1_2a p1_2k p1_2n p1_2w)] : List va_W)) H := vP_perm (vP_fb hP) (bP (List.Perm.refl _))
                have hD : va_D A (List.flatten ([(oX2 (p0a 0) p0a p0k p0n p0w o_17), (oX1 (p1a 0) p1a p1k p1n p1w p1l), (oX9 (p1a 3) p1_2a p1_2k p1_2n p1_2w)] : List va_W)) := vD_perm (vD_fb hD) (bP (List.Perm.refl _))
                have hK : va_K (dC, dI) cls (List.flatten ([(tX2 p0k), (tX1 p1k), (tX9 p1_2k)] : List (List (ClassId × FieldType)))) s := vK_perm (vK_fb hK) (bP (List.Perm.refl _))
                exact J152 o_17 _ _ _ hrun hP hD hK hS (lv_sub hl [0, 1, 2, 3, 4] rfl)
          rcases br9 hrun with ⟨hc18, hrun⟩ | ⟨hc18, hrun⟩
          · refine lv_if_eq (tgt := 112) hx hb dX2_noteBlock_97 (by decide) (fun _ => ?_) (fun c => absurd hc18 c)
            exact J112 p0l_87 _ _ _ hrun hP hD hK hS (lv_sub hl [0, 1, 2, 3, 4] rfl)
          · refine lv_if_eq (tgt := 112) hx hb dX2_noteBlock_97 (by decide) (fun c => absurd c hc18) (fun _ => ?_)
            refine lv_aload_n hx hb dX2_noteBlock_100 rfl (lv_at hl 0 rfl) ?_
            refine lv_iload_n hx hb dX2_noteBlock_101 rfl (lv_at hl 2 rfl) ?_
            refine lv_aload_n hx hb dX2_noteBlock_102 rfl (lv_at hl 3 rfl) ?_
            refine va_get (D := (dC, dI)) (ci := 3) (v := .ref (p1_2a 5)) (C := RX9) (T := TX9) (N := 6) hx hb hts i_X9 hown hK hP 34 rfl rfl 4 (by decide) (hts _ qw707) (fun _ h9 => h9) rfl dX2_noteBlock_103 ?_
            refine lv_iload hx hb dX2_noteBlock_106 (lv_at hl 4 rfl) ?_
            obtain ⟨hq19, hrun⟩ := chk9 hrun
            refine va_iald hx hb hK hP 38 35 rfl rfl (ixb_in hq19) dX2_noteBlock_108 ?_
            obtain ⟨o_20, hc_20, hrun⟩ := bnd9 hrun
            have hPx : va_P (dC, dI) cls ((List.flatten ([(oX2 (p0a 0) p0a p0k p0n p0w p0l_87)] : List va_W)) ++ (List.flatten ([(oX1 (p1a 0) p1a p1k p1n p1w p1l), (oX9 (p1a 3) p1_2a p1_2k p1_2n p1_2w)] : List va_W))) H := vP_fa (vP_perm hP (bP (List.Perm.refl _)))
            have hDx : va_D A ((List.flatten ([(oX2 (p0a 0) p0a p0k p0n p0w p0l_87)] : List va_W)) ++ (List.flatten ([(oX1 (p1a 0) p1a p1k p1n p1w p1l), (oX9 (p1a 3) p1_2a p1_2k p1_2n p1_2w)] : List va_W))) := vD_fa (vD_perm hD (bP (List.Perm.refl _)))
            have hKx : va_K (dC, dI) cls ((List.flatten ([(tX2 p0k)] : List (List (ClassId × FieldType)))) ++ (List.flatten ([(tX1 p1k), (tX9 p1_2k)] : List (List (ClassId × FieldType))))) s := vK_fa (vK_perm hK (bP (List.Perm.refl _)))
            have hPc := vP_l hPx
            have hDc := vD_l hDx
            have hKc := vK_l hKx
            have hFc := vfree hDx hS hA
            refine va_callv (va_runV (As := [.int p2, .int (p1_2w 5 (nn v4_57))]) (rest := []) ⟨hx, hb, hml, hown, hts⟩ (kX2_noteUse l dC dI (p0a := p0a) (p0k := p0k) (p0n := p0n) (p0w := p0w) (p0l := p0l_87) (p1 := p2) (p2 := (p1_2w 5 (nn v4_57))) (sz := _) (o := o_20) (hrun := hc_20)) (cwV 2 hts (gi_V qw713 qw714 qw715 qw694 (gi_z qw712)) rfl rfl rfl (by decide +kernel) ⟨Nat.le_of_ble_eq_true rfl, Nat.le_of_ble_eq_true rfl⟩) ⟨PRE.blind, va_recv hKc hPc (ci := 9) (q0 := 0) rfl rfl, PRE.of hE hS hFc hPc hKc hDc⟩ rfl rfl hl.1 rfl (lv_room (Nat.le_of_ble_eq_true rfl)) dX2_noteBlock_109 ⟨(Nat.le_of_ble_eq_true rfl), (Nat.le_of_ble_eq_true rfl)⟩) hS (fun q _ h => hFc q h) hFc (fun u t H locs ht hvm hw hB hz1 hk1 hS => ?_)
            obtain ⟨b1, b2, b3⟩ := hB
            rw [ht] at b1
            obtain ⟨hP, hD, hK⟩ := JOINC (wc := (List.flatten ([(oX2 (p0a 0) p0a p0k p0n p0w p0l_87)] : List va_W))) (wr := (List.flatten ([(oX1 (p1a 0) p1a p1k p1n p1w p1l), (oX9 (p1a 3) p1_2a p1_2k p1_2n p1_2w)] : List va_W))) (w1 := (List.flatten ([(oX2 (p0a 0) p0a p0k p0n p0w o_20)] : List va_W))) (t1 := (List.flatten ([(tX2 p0k)] : List (List (ClassId × FieldType))))) hPx hDx hKx hk1 hFc b1 (va_K.moved hvm.symm b2) b3
            have hP : va_P (dC, dI) cls (List.flatten ([(oX2 (p0a 0) p0a p0k p0n p0w o_20), (oX1 (p1a 0) p1a p1k p1n p1w p1l), (oX9 (p1a 3) p1_2a p1_2k p1_2n p1_2w)] : List va_W)) H := vP_perm (vP_fb hP) (bP (List.Perm.refl _))
            have hD : va_D A (List.flatten ([(oX2 (p0a 0) p0a p0k p0n p0w o_20), (oX1 (p1a 0) p1a p1k p1n p1w p1l), (oX9 (p1a 3) p1_2a p1_2k p1_2n p1_2w)] : List va_W)) := vD_perm (vD_fb hD) (bP (List.Perm.refl _))
            have hK : va_K (dC, dI) cls (List.flatten ([(tX2 p0k), (tX1 p1k), (tX9 p1_2k)] : List (List (ClassId × FieldType)))) s := vK_perm (vK_fb hK) (bP (List.Perm.refl _))
            exact J112 o_20 _ _ _ hrun hP hD hK hS (lv_sub hl [0, 1, 2, 3, 4] rfl)
        rcases br9 hrun with ⟨hc21, hrun⟩ | ⟨hc21, hrun⟩
        · refine lv_if_eq (tgt := 87) hx hb dX2_noteBlock_72 (by decide) (fun _ => ?_) (fun c => absurd hc21 c)
          exact J87 p0l_57 _ _ _ hrun hP hD hK hS (lv_sub hl [0, 1, 2, 3, 4] rfl)
        · refine lv_if_eq (tgt := 87) hx hb dX2_noteBlock_72 (by decide) (fun c => absurd c hc21) (fun _ => ?_)
          refine lv_aload_n hx hb dX2_noteBlock_75 rfl (lv_at hl 0 rfl) ?_
          refine lv_iload_n hx hb dX2_noteBlock_76 rfl (lv_at hl 2 rfl) ?_
          refine lv_aload_n hx hb dX2_noteBlock_77 rfl (lv_at hl 3 rfl) ?_
          refine va_get (D := (dC, dI)) (ci := 3) (v := .ref (p1_2a 4)) (C := RX9) (T := TX9) (N := 6) hx hb hts i_X9 hown hK hP 34 rfl rfl 3 (by decide) (hts _ qw716) (fun _ h9 => h9) rfl dX2_noteBlock_78 ?_
          refine lv_iload hx hb dX2_noteBlock_81 (lv_at hl 4 rfl) ?_
          obtain ⟨hq22, hrun⟩ := chk9 hrun
          refine va_iald hx hb hK hP 37 34 rfl rfl (ixb_in hq22) dX2_noteBlock_83 ?_
          obtain ⟨o_23, hc_23, hrun⟩ := bnd9 hrun
          have hPx : va_P (dC, dI) cls ((List.flatten ([(oX2 (p0a 0) p0a p0k p0n p0w p0l_57)] : List va_W)) ++ (List.flatten ([(oX1 (p1a 0) p1a p1k p1n p1w p1l), (oX9 (p1a 3) p1_2a p1_2k p1_2n p1_2w)] : List va_W))) H := vP_fa (vP_perm hP (bP (List.Perm.refl _)))
          have hDx : va_D A ((List.flatten ([(oX2 (p0a 0) p0a p0k p0n p0w p0l_57)] : List va_W)) ++ (List.flatten ([(oX1 (p1a 0) p1a p1k p1n p1w p1l), (oX9 (p1a 3) p1_2a p1_2k p1_2n p1_2w)] : List va_W))) := vD_fa (vD_perm hD (bP (List.Perm.refl _)))
          have hKx : va_K (dC, dI) cls ((List.flatten ([(tX2 p0k)] : List (List (ClassId × FieldType)))) ++ (List.flatten ([(tX1 p1k), (tX9 p1_2k)] : List (List (ClassId × FieldType))))) s := vK_fa (vK_perm hK (bP (List.Perm.refl _)))
          have hPc := vP_l hPx
          have hDc := vD_l hDx
          have hKc := vK_l hKx
          have hFc := vfree hDx hS hA
          refine va_callv (va_runV (As := [.int p2, .int (p1_2w 4 (nn v4_57))]) (rest := []) ⟨hx, hb, hml, hown, hts⟩ (kX2_noteUse l dC dI (p0a := p0a) (p0k := p0k) (p0n := p0n) (p0w := p0w) (p0l := p0l_57) (p1 := p2) (p2 := (p1_2w 4 (nn v4_57))) (sz := _) (o := o_23) (hrun := hc_23)) (cwV 2 hts (gi_V qw713 qw714 qw715 qw694 (gi_z qw712)) rfl rfl rfl (by decide +kernel) ⟨Nat.le_of_ble_eq_true rfl, Nat.le_of_ble_eq_true rfl⟩) ⟨PRE.blind, va_recv hKc hPc (ci := 9) (q0 := 0) rfl rfl, PRE.of hE hS hFc hPc hKc hDc⟩ rfl rfl hl.1 rfl (lv_room (Nat.le_of_ble_eq_true rfl)) dX2_noteBlock_84 ⟨(Nat.le_of_ble_eq_true rfl), (Nat.le_of_ble_eq_true rfl)⟩) hS (fun q _ h => hFc q h) hFc (fun u t H locs ht hvm hw hB hz1 hk1 hS => ?_)
          obtain ⟨b1, b2, b3⟩ := hB
          rw [ht] at b1
          obtain ⟨hP, hD, hK⟩ := JOINC (wc := (List.flatten ([(oX2 (p0a 0) p0a p0k p0n p0w p0l_57)] : List va_W))) (wr := (List.flatten ([(oX1 (p1a 0) p1a p1k p1n p1w p1l), (oX9 (p1a 3) p1_2a p1_2k p1_2n p1_2w)] : List va_W))) (w1 := (List.flatten ([(oX2 (p0a 0) p0a p0k p0n p0w o_23)] : List va_W))) (t1 := (List.flatten ([(tX2 p0k)] : List (List (ClassId × FieldType))))) hPx hDx hKx hk1 hFc b1 (va_K.moved hvm.symm b2) b3
          have hP : va_P (dC, dI) cls (List.flatten ([(oX2 (p0a 0) p0a p0k p0n p0w o_23), (oX1 (p1a 0) p1a p1k p1n p1w p1l), (oX9 (p1a 3) p1_2a p1_2k p1_2n p1_2w)] : List va_W)) H := vP_perm (vP_fb hP) (bP (List.Perm.refl _))
          have hD : va_D A (List.flatten ([(oX2 (p0a 0) p0a p0k p0n p0w o_23), (oX1 (p1a 0) p1a p1k p1n p1w p1l), (oX9 (p1a 3) p1_2a p1_2k p1_2n p1_2w)] : List va_W)) := vD_perm (vD_fb hD) (bP (List.Perm.refl _))
          have hK : va_K (dC, dI) cls (List.flatten ([(tX2 p0k), (tX1 p1k), (tX9 p1_2k)] : List (List (ClassId × FieldType)))) s := vK_perm (vK_fb hK) (bP (List.Perm.refl _))
          exact J87 o_23 _ _ _ hrun hP hD hK hS (lv_sub hl [0, 1, 2, 3, 4] rfl)
  obtain ⟨o57, hc57, hrun⟩ := bnd9 hrun
  refine L57 NF (p1w 4 (nn p2)) (srl (srl p0l 4 o_1) 5 o_2) o57 _ _ _ hc57 hP hD hK hS (lv_sub hl [2, 3, 4, 1, 0] rfl) ?_
  intro H locs ls hP hD hK hS hl
  have hl := hl
  refine lv_aload_n hx hb dX2_noteBlock_164 rfl (lv_at hl 1 rfl) ?_
  refine va_get (D := (dC, dI)) (ci := 4) (v := .ref (p1a 9)) (C := RX1) (T := TX1) (N := 21) hx hb hts i_X1 hown hK hP 16 rfl rfl 8 (by decide) (hts _ qw717) (fun _ h9 => h9) rfl dX2_noteBlock_165 ?_
  refine lv_iload_n hx hb dX2_noteBlock_168 rfl (lv_at hl 2 rfl) ?_
  obtain ⟨hq24, hrun⟩ := chk9 hrun
  refine va_iald hx hb hK hP 22 20 rfl rfl (ixb_in hq24) dX2_noteBlock_169 ?_
  have J184 : ∀ (p0l_184 : SL) (H : Heap) (locs : List Loc) (ls : Array Slot), (fX2_noteBlock_J184 p0l_184) = some o → va_P (dC, dI) cls (List.flatten ([(oX2 (p0a 0) p0a p0k p0n p0w p0l_184), (oX1 (p1a 0) p1a p1k p1n p1w p1l), (oX9 (p1a 3) p1_2a p1_2k p1_2n p1_2w)] : List va_W)) H → va_D A (List.flatten ([(oX2 (p0a 0) p0a p0k p0n p0w p0l_184), (oX1 (p1a 0) p1a p1k p1n p1w p1l), (oX9 (p1a 3) p1_2a p1_2k p1_2n p1_2w)] : List va_W)) → va_K (dC, dI) cls (List.flatten ([(tX2 p0k), (tX1 p1k), (tX9 p1_2k)] : List (List (ClassId × FieldType)))) s → va_S A s.heap H locs → lv_has ls 5 [] → W p l e ({ frames := 3, cells := 0, slots := 0, locals := 67 } : Room) s m ([.ref (p0a 0), .ref (p1a 0), .int p2] : List Value).toArray below meth c H locs 0 0 Q (F0 m 184 ls []) := by
    intro p0l_184 H locs ls hrun hP hD hK hS hl 
    unfold fX2_noteBlock_J184 at hrun
    have ho9 : p0l_184 = o := Option.some.inj hrun
    have hP9 : va_P (dC, dI) cls (List.flatten ([(oX2 (p0a 0) p0a p0k p0n p0w o), (oX1 (p1a 0) p1a p1k p1n p1w p1l), (oX9 (p1a 3) p1_2a p1_2k p1_2n p1_2w)] : List va_W)) H := by first | exact hP | (rw [← ho9]; exact hP)
    have hD9 : va_D A (List.flatten ([(oX2 (p0a 0) p0a p0k p0n p0w o), (oX1 (p1a 0) p1a p1k p1n p1w p1l), (oX9 (p1a 3) p1_2a p1_2k p1_2n p1_2w)] : List va_W)) := by first | exact hD | (rw [← ho9]; exact hD)
    subst hQ
    exact W.vret hx hb hr (fun t ht hW => ⟨⟨(), rfl, trivial, ⟨by rw [ht]; exact hP9, va_K.moved hW.alike hK, hD9⟩⟩, hS.F ht⟩) hS.2.2 dX2_noteBlock_184
  rcases br9 hrun with ⟨hc25, hrun⟩ | ⟨hc25, hrun⟩
  · refine lv_if_lt (tgt := 184) hx hb dX2_noteBlock_170 (by decide) (fun _ => ?_) (fun c => absurd hc25 c)
    exact J184 o57 _ _ _ hrun hP hD hK hS (lv_sub hl [] rfl)
  · refine lv_if_lt (tgt := 184) hx hb dX2_noteBlock_170 (by decide) (fun c => absurd c hc25) (fun _ => ?_)
    refine lv_aload_n hx hb dX2_noteBlock_173 rfl (lv_at hl 0 rfl) ?_
    refine lv_iload_n hx hb dX2_noteBlock_174 rfl (lv_at hl 2 rfl) ?_
    refine lv_aload_n hx hb dX2_noteBlock_175 rfl (lv_at hl 1 rfl) ?_
    refine va_get (D := (dC, dI)) (ci := 4) (v := .ref (p1a 9)) (C := RX1) (T := TX1) (N := 21) hx hb hts i_X1 hown hK hP 16 rfl rfl 8 (by decide) (hts _ qw717) (fun _ h9 => h9) rfl dX2_noteBlock_176 ?_
    refine lv_iload_n hx hb dX2_noteBlock_179 rfl (lv_at hl 2 rfl) ?_
    obtain ⟨hq26, hrun⟩ := chk9 hrun
    refine va_iald hx hb hK hP 22 20 rfl rfl (ixb_in hq26) dX2_noteBlock_180 ?_
    obtain ⟨o_27, hc_27, hrun⟩ := bnd9 hrun
    have hPx : va_P (dC, dI) cls ((List.flatten ([(oX2 (p0a 0) p0a p0k p0n p0w o57)] : List va_W)) ++ (List.flatten ([(oX1 (p1a 0) p1a p1k p1n p1w p1l), (oX9 (p1a 3) p1_2a p1_2k p1_2n p1_2w)] : List va_W))) H := vP_fa (vP_perm hP (bP (List.Perm.refl _)))
    have hDx : va_D A ((List.flatten ([(oX2 (p0a 0) p0a p0k p0n p0w o57)] : List va_W)) ++ (List.flatten ([(oX1 (p1a 0) p1a p1k p1n p1w p1l), (oX9 (p1a 3) p1_2a p1_2k p1_2n p1_2w)] : List va_W))) := vD_fa (vD_perm hD (bP (List.Perm.refl _)))
    have hKx : va_K (dC, dI) cls ((List.flatten ([(tX2 p0k)] : List (List (ClassId × FieldType)))) ++ (List.flatten ([(tX1 p1k), (tX9 p1_2k)] : List (List (ClassId × FieldType))))) s := vK_fa (vK_perm hK (bP (List.Perm.refl _)))
    have hPc := vP_l hPx
    have hDc := vD_l hDx
    have hKc := vK_l hKx
    have hFc := vfree hDx hS hA
    refine va_callv (va_runV (As := [.int p2, .int (p1w 9 (nn p2))]) (rest := []) ⟨hx, hb, hml, hown, hts⟩ (kX2_noteUse l dC dI (p0a := p0a) (p0k := p0k) (p0n := p0n) (p0w := p0w) (p0l := o57) (p1 := p2) (p2 := (p1w 9 (nn p2))) (sz := _) (o := o_27) (hrun := hc_27)) (cwV 2 hts (gi_V qw713 qw714 qw715 qw694 (gi_z qw712)) rfl rfl rfl (by decide +kernel) ⟨Nat.le_of_ble_eq_true rfl, Nat.le_of_ble_eq_true rfl⟩) ⟨PRE.blind, va_recv hKc hPc (ci := 9) (q0 := 0) rfl rfl, PRE.of hE hS hFc hPc hKc hDc⟩ rfl rfl hl.1 rfl (lv_room (Nat.le_of_ble_eq_true rfl)) dX2_noteBlock_181 ⟨(Nat.le_of_ble_eq_true rfl), (Nat.le_of_ble_eq_true rfl)⟩) hS (fun q _ h => hFc q h) hFc (fun u t H locs ht hvm hw hB hz1 hk1 hS => ?_)
    obtain ⟨b1, b2, b3⟩ := hB
    rw [ht] at b1
    obtain ⟨hP, hD, hK⟩ := JOINC (wc := (List.flatten ([(oX2 (p0a 0) p0a p0k p0n p0w o57)] : List va_W))) (wr := (List.flatten ([(oX1 (p1a 0) p1a p1k p1n p1w p1l), (oX9 (p1a 3) p1_2a p1_2k p1_2n p1_2w)] : List va_W))) (w1 := (List.flatten ([(oX2 (p0a 0) p0a p0k p0n p0w o_27)] : List va_W))) (t1 := (List.flatten ([(tX2 p0k)] : List (List (ClassId × FieldType))))) hPx hDx hKx hk1 hFc b1 (va_K.moved hvm.symm b2) b3
    have hP : va_P (dC, dI) cls (List.flatten ([(oX2 (p0a 0) p0a p0k p0n p0w o_27), (oX1 (p1a 0) p1a p1k p1n p1w p1l), (oX9 (p1a 3) p1_2a p1_2k p1_2n p1_2w)] : List va_W)) H := vP_perm (vP_fb hP) (bP (List.Perm.refl _))
    have hD : va_D A (List.flatten ([(oX2 (p0a 0) p0a p0k p0n p0w o_27), (oX1 (p1a 0) p1a p1k p1n p1w p1l), (oX9 (p1a 3) p1_2a p1_2k p1_2n p1_2w)] : List va_W)) := vD_perm (vD_fb hD) (bP (List.Perm.refl _))
    have hK : va_K (dC, dI) cls (List.flatten ([(tX2 p0k), (tX1 p1k), (tX9 p1_2k)] : List (List (ClassId × FieldType)))) s := vK_perm (vK_fb hK) (bP (List.Perm.refl _))
    exact J184 o_27 _ _ _ hrun hP hD hK hS (lv_sub hl [] rfl)
def fX2_spreadInto_J109 (kk11 : Int32 → Int32 → SL → Option (Int32 × SL)) (v4_11 : Int32) (l8 : SL) (y0_109 : Int32) : Option (Int32 × SL) := (kk11 y0_109 (v4_11 + 1) l8)
def fX2_spreadInto_J104 (kk11 : Int32 → Int32 → SL → Option (Int32 × SL)) (v4_11 : Int32) (l8 : SL) : Option (Int32 × SL) := (fX2_spreadInto_J109 kk11 v4_11 l8 1)
def fX2_spreadInto_L11 (p0n : Nat → Nat) (p0w : ST) (p1 : Int32) (p2 : Int32) : Nat → Int32 → Int32 → SL → Option (Int32 × SL)
  | 0 => fun _ _ _ => none
  | n_11 + 1 => fun v3_11 v4_11 p0l_11 => (if (p0w 0 2) ≤ v4_11 then some (v3_11, p0l_11) else (if ixb ((p1 * (p0w 0 2)) + v4_11) (p0n 6) = true then (if ixb ((p2 * (p0w 0 2)) + v4_11) (p0n 5) = true then (if ixb ((p2 * (p0w 0 2)) + v4_11) (p0n 6) = true then (if ixb ((p2 * (p0w 0 2)) + v4_11) (p0n 6) = true then (if ixb ((p2 * (p0w 0 2)) + v4_11) (p0n 6) = true then (lt9 (upl p0l_11 6 (nn ((p2 * (p0w 0 2)) + v4_11)) ((p0l_11 6 (nn ((p2 * (p0w 0 2)) + v4_11))) ||| (((p0l_11 6 (nn ((p1 * (p0w 0 2)) + v4_11))) &&& ((p0l_11 5 (nn ((p2 * (p0w 0 2)) + v4_11))) ^^^ ((-1) : Int64))) &&& ((p0l_11 6 (nn ((p2 * (p0w 0 2)) + v4_11))) ^^^ ((-1) : Int64))))) fun (l8 : SL) => (if v3_11 = 0 then (if (lg_cmp (((p0l_11 6 (nn ((p1 * (p0w 0 2)) + v4_11))) &&& ((p0l_11 5 (nn ((p2 * (p0w 0 2)) + v4_11))) ^^^ ((-1) : Int64))) &&& ((p0l_11 6 (nn ((p2 * (p0w 0 2)) + v4_11))) ^^^ ((-1) : Int64))) (0 : Int64)) = 0 then (fX2_spreadInto_J109 (fX2_spreadInto_L11 p0n p0w p1 p2 n_11) v4_11 l8 0) else (fX2_spreadInto_J104 (fX2_spreadInto_L11 p0n p0w p1 p2 n_11) v4_11 l8)) else (fX2_spreadInto_J104 (fX2_spreadInto_L11 p0n p0w p1 p2 n_11) v4_11 l8))) else none) else none) else none) else none) else none))
def fX2_spreadInto (p0n : Nat → Nat) (p0w : ST) (p0l : SL) (p1 : Int32) (p2 : Int32) : Option (Int32 × SL) := (if 0 ≤ p1 then ((fX2_spreadInto_L11 p0n p0w p1 p2 NF 0 0 p0l).bind fun (o11 : Int32 × SL) => (if (o11.1) = 0 ∨ (o11.1) = 1 then some ((o11.1), (o11.2)) else none)) else some (0, p0l))
set_option maxHeartbeats 16000000 in
set_option maxRecDepth 100000 in
theorem kX2_spreadInto {zs : ZS} (l : Launch) (dC : Nat → ClassId) (dI : Nat → Nat → Nat) (p0a : Nat → Nat) (p0k : Nat → ClassId) (p0n : Nat → Nat) (p0w : ST) (p0l : SL) (p1 : Int32) (p2 : Int32) (sz : Nat) (o : Int32 × SL) (hrun : fX2_spreadInto p0n p0w p0l p1 p2 = some o) : Met l yX2_spreadInto (wz yX2_spreadInto cX2_spreadInto 7 (Option.some Jvm.ClassFile.FieldType.boolean)) ({ frames := 0, cells := 0, slots := 0, locals := 0 } : Room) (va_Pc [.ref (p0a 0), .int p1, .int p2] (PRE zs dC dI (List.flatten ([(oX2 (p0a 0) p0a p0k p0n p0w p0l)] : List va_W)) (List.flatten ([(tX2 p0k)] : List (List (ClassId × FieldType)))) sz)) (va_Qi (fun (r : Int32) (_ : Unit) => r = (o.1)) (fun _ t => POST dC dI (List.flatten ([(oX2 (p0a 0) p0a p0k p0n p0w (o.2))] : List va_W)) (List.flatten ([(tX2 p0k)] : List (List (ClassId × FieldType)))) (va_A (List.flatten ([(oX2 (p0a 0) p0a p0k p0n p0w p0l)] : List va_W)) sz) t) (va_A (List.flatten ([(oX2 (p0a 0) p0a p0k p0n p0w p0l)] : List va_W)) sz)) 0 0 (va_A (List.flatten ([(oX2 (p0a 0) p0a p0k p0n p0w p0l)] : List va_W)) sz) := by
  refine Met.ofW (cc := cX2_spreadInto) (maxL := 7) (ret := (Option.some Jvm.ClassFile.FieldType.boolean)) (by decide) rfl ?_
  intro p e s m args below meth c s₁ B hml hv
  obtain ⟨rfl, hsz, hP, hK, hD0, hE⟩ := hv
  have hx := B.exec
  have hb := B.bytes
  have hr := B.returns
  have hts0 := atoms_spec (ws := wz yX2_spreadInto cX2_spreadInto 7 (Option.some Jvm.ClassFile.FieldType.boolean)) B.pre
  have hts : ∀ w ∈ gw, w.before _ s = true := fun w h => hts0 w (List.mem_cons_of_mem _ h)
  have hown : s.vm.findClass RX2 = some m.cls := findClass_of_methodNamed B.named
  have hlocks := B.notSynchronized
  subst hsz
  have hD := hD0.self (sz := s.heap.size)
  refine gQ9 ?_
  intro Q hQ
  generalize hAe : va_A (List.flatten ([(oX2 (p0a 0) p0a p0k p0n p0w p0l)] : List va_W)) s.heap.size = A at hD hE hQ
  have hA : ∀ q : Nat, s.heap.size ≤ q → A q := fun q h => by rw [← hAe]; exact Or.inr h
  have hS : va_S A s.heap s.heap [] := va_S.rf
  have hP : va_P (dC, dI) cls (List.flatten ([(oX2 (p0a 0) p0a p0k p0n p0w p0l)] : List va_W)) s.heap := hP
  have hl := lv_entry ([.ref (p0a 0), .int p1, .int p2]) (n := 7) (Nat.le_of_ble_eq_true rfl)
  rw [lg_entry_eq]
  generalize (lg_sl ([.ref (p0a 0), .int p1, .int p2]) ++ List.replicate (7 - (lg_sl ([.ref (p0a 0), .int p1, .int p2])).length) Slot.unset).toArray = ls at hl ⊢
  have hl : lv_has ls 7 [(0, .ref (p0a 0)), (1, .int p1), (2, .int p2)] := hl
  obtain ⟨H, hHe⟩ : ∃ H, H = s.heap := ⟨_, rfl⟩
  obtain ⟨locs, hle⟩ : ∃ locs : List Loc, locs = [] := ⟨_, rfl⟩
  rw [← hHe] at hP
  have hS : va_S A s.heap H locs := by rw [hHe, hle]; exact hS
  show W p l e ({ frames := 0, cells := 0, slots := 0, locals := 0 } : Room) s m ([.ref (p0a 0), .int p1, .int p2] : List Value).toArray below meth c s.heap [] 0 0 Q (F0 m 0 ls [])
  rw [← hle]
  refine wH9 hHe ?_
  unfold fX2_spreadInto at hrun
  refine lv_iload_n hx hb dX2_spreadInto_0 rfl (lv_at hl 1 rfl) ?_
  rcases br9 hrun with ⟨hc1, hrun⟩ | ⟨hc1, hrun⟩
  · refine lv_if_ge (tgt := 6) hx hb dX2_spreadInto_1 (by decide) (fun _ => ?_) (fun c => absurd hc1 c)
    refine lv_iconst (v := 0) hx hb dX2_spreadInto_6 (by decide) ?_
    refine lv_istore_n (lv' := [(3, .int 0), (0, .ref (p0a 0)), (1, .int p1), (2, .int p2)]) hx hb dX2_spreadInto_7 rfl hl (by decide) rfl (fun ls hl => ?_)
    refine lv_iconst (v := 0) hx hb dX2_spreadInto_8 (by decide) ?_
    refine lv_istore (lv' := [(4, .int 0), (3, .int 0), (0, .ref (p0a 0)), (1, .int p1), (2, .int p2)]) hx hb dX2_spreadInto_9 hl (by decide) rfl (fun ls hl => ?_)
    have L11 : ∀ (n_11 : Nat) (v3_11 : Int32) (v4_11 : Int32) (p0l_11 : SL) (o11 : Int32 × SL) (H : Heap) (locs : List Loc) (ls : Array Slot), (fX2_spreadInto_L11 p0n p0w p1 p2 n_11) v3_11 v4_11 p0l_11 = some o11 → va_P (dC, dI) cls (List.flatten ([(oX2 (p0a 0) p0a p0k p0n p0w p0l_11)] : List va_W)) H → va_D A (List.flatten ([(oX2 (p0a 0) p0a p0k p0n p0w p0l_11)] : List va_W)) → va_K (dC, dI) cls (List.flatten ([(tX2 p0k)] : List (List (ClassId × FieldType)))) s → va_S A s.heap H locs → lv_has ls 7 [(0, .ref (p0a 0)), (1, .int p1), (2, .int p2), (3, .int v3_11), (4, .int v4_11)] → (∀ (H : Heap) (locs : List Loc) (ls : Array Slot), va_P (dC, dI) cls (List.flatten ([(oX2 (p0a 0) p0a p0k p0n p0w (o11.2))] : List va_W)) H → va_D A (List.flatten ([(oX2 (p0a 0) p0a p0k p0n p0w (o11.2))] : List va_W)) → va_K (dC, dI) cls (List.flatten ([(tX2 p0k)] : List (List (ClassId × FieldType)))) s → va_S A s.heap H locs → lv_has ls 7 [(3, .int (o11.1))] → W p l e ({ frames := 0, cells := 0, slots := 0, locals := 0 } : Room) s m ([.ref (p0a 0), .int p1, .int p2] : List Value).toArray below meth c H locs 0 0 Q (F0 m 116 ls [])) → W p l e ({ frames := 0, cells := 0, slots := 0, locals := 0 } : Room) s m ([.ref (p0a 0), .int p1, .int p2] : List Value).toArray below meth c H locs 0 0 Q (F0 m 11 ls []) := by
      intro n_11
      induction n_11 with
      | zero => intro v3_11 v4_11 p0l_11 o11 H locs ls hrun; exact (no9 rfl hrun).elim
      | succ n_11 IH11 =>
        intro v3_11 v4_11 p0l_11 o11 H locs ls hrun hP hD hK hS hl hk11
        unfold fX2_spreadInto_L11 at hrun
        refine lv_iload hx hb dX2_spreadInto_11 (lv_at hl 4 rfl) ?_
        refine lv_aload_n hx hb dX2_spreadInto_13 rfl (lv_at hl 0 rfl) ?_
        refine va_get (D := (dC, dI)) (ci := 9) (v := .int (p0w 0 2)) (C := RX2) (T := TX2) (N := 19) hx hb hts i_X2 hown hK hP 0 rfl rfl 2 (by decide) (hts _ qw669) (fun _ h9 => h9) rfl dX2_spreadInto_14 ?_
        rcases br9 hrun with ⟨hc2, hrun⟩ | ⟨hc2, hrun⟩
        · refine lv_icmp_ge (tgt := 116) hx hb dX2_spreadInto_17 (by decide) (fun _ => ?_) (fun c => absurd hc2 c)
          obtain rfl := (Option.some.inj hrun)
          exact hk11 _ _ _ hP hD hK hS (lv_sub hl [3] rfl)
        · refine lv_icmp_ge (tgt := 116) hx hb dX2_spreadInto_17 (by decide) (fun c => absurd c hc2) (fun _ => ?_)
          refine lv_aload_n hx hb dX2_spreadInto_20 rfl (lv_at hl 0 rfl) ?_
          refine va_get (D := (dC, dI)) (ci := 9) (v := .ref (p0a 6)) (C := RX2) (T := TX2) (N := 19) hx hb hts i_X2 hown hK hP 0 rfl rfl 5 (by decide) (hts _ qw679) (fun _ h9 => h9) rfl dX2_spreadInto_21 ?_
          refine lv_iload_n hx hb dX2_spreadInto_24 rfl (lv_at hl 1 rfl) ?_
          refine lv_aload_n hx hb dX2_spreadInto_25 rfl (lv_at hl 0 rfl) ?_
          refine va_get (D := (dC, dI)) (ci := 9) (v := .int (p0w 0 2)) (C := RX2) (T := TX2) (N := 19) hx hb hts i_X2 hown hK hP 0 rfl rfl 2 (by decide) (hts _ qw669) (fun _ h9 => h9) rfl dX2_spreadInto_26 ?_
          refine lv_imul hx hb dX2_spreadInto_29 ?_
          refine lv_iload hx hb dX2_spreadInto_30 (lv_at hl 4 rfl) ?_
          refine lv_iadd hx hb dX2_spreadInto_32 ?_
          obtain ⟨hq3, hrun⟩ := chk9 hrun
          refine va_lald hx hb hK hP 3 2 rfl rfl (ixb_in hq3) dX2_spreadInto_33 ?_
          refine lv_aload_n hx hb dX2_spreadInto_34 rfl (lv_at hl 0 rfl) ?_
          refine va_get (D := (dC, dI)) (ci := 9) (v := .ref (p0a 5)) (C := RX2) (T := TX2) (N := 19) hx hb hts i_X2 hown hK hP 0 rfl rfl 4 (by decide) (hts _ qw678) (fun _ h9 => h9) rfl dX2_spreadInto_35 ?_
          refine lv_iload_n hx hb dX2_spreadInto_38 rfl (lv_at hl 2 rfl) ?_
          refine lv_aload_n hx hb dX2_spreadInto_39 rfl (lv_at hl 0 rfl) ?_
          refine va_get (D := (dC, dI)) (ci := 9) (v := .int (p0w 0 2)) (C := RX2) (T := TX2) (N := 19) hx hb hts i_X2 hown hK hP 0 rfl rfl 2 (by decide) (hts _ qw669) (fun _ h9 => h9) rfl dX2_spreadInto_40 ?_
          refine lv_imul hx hb dX2_spreadInto_43 ?_
          refine lv_iload hx hb dX2_spreadInto_44 (lv_at hl 4 rfl) ?_
          refine lv_iadd hx hb dX2_spreadInto_46 ?_
          obtain ⟨hq4, hrun⟩ := chk9 hrun
          refine va_lald hx hb hK hP 2 1 rfl rfl (ixb_in hq4) dX2_spreadInto_47 ?_
          refine lv_ldc2 (v := (-1)) hx hb hown (hts _ qw725) dX2_spreadInto_48 ?_
          refine lv_lxor hx hb dX2_spreadInto_51 ?_
          refine lv_land hx hb dX2_spreadInto_52 ?_
          refine lv_aload_n hx hb dX2_spreadInto_53 rfl (lv_at hl 0 rfl) ?_
          refine va_get (D := (dC, dI)) (ci := 9) (v := .ref (p0a 6)) (C := RX2) (T := TX2) (N := 19) hx hb hts i_X2 hown hK hP 0 rfl rfl 5 (by decide) (hts _ qw679) (fun _ h9 => h9) rfl dX2_spreadInto_54 ?_
          refine lv_iload_n hx hb dX2_spreadInto_57 rfl (lv_at hl 2 rfl) ?_
          refine lv_aload_n hx hb dX2_spreadInto_58 rfl (lv_at hl 0 rfl) ?_
          refine va_get (D := (dC, dI)) (ci := 9) (v := .int (p0w 0 2)) (C := RX2) (T := TX2) (N := 19) hx hb hts i_X2 hown hK hP 0 rfl rfl 2 (by decide) (hts _ qw669) (fun _ h9 => h9) rfl dX2_spreadInto_59 ?_
          refine lv_imul hx hb dX2_spreadInto_62 ?_
          refine lv_iload hx hb dX2_spreadInto_63 (lv_at hl 4 rfl) ?_
          refine lv_iadd hx hb dX2_spreadInto_65 ?_
          obtain ⟨hq5, hrun⟩ := chk9 hrun
          refine va_lald hx hb hK hP 3 2 rfl rfl (ixb_in hq5) dX2_spreadInto_66 ?_
          refine lv_ldc2 (v := (-1)) hx hb hown (hts _ qw725) dX2_spreadInto_67 ?_
          refine lv_lxor hx hb dX2_spreadInto_70 ?_
          refine lv_land hx hb dX2_spreadInto_71 ?_
          refine lv_lstore (lv' := [(5, .long (((p0l_11 6 (nn ((p1 * (p0w 0 2)) + v4_11))) &&& ((p0l_11 5 (nn ((p2 * (p0w 0 2)) + v4_11))) ^^^ ((-1) : Int64))) &&& ((p0l_11 6 (nn ((p2 * (p0w 0 2)) + v4_11))) ^^^ ((-1) : Int64)))), (0, .ref (p0a 0)), (1, .int p1), (2, .int p2), (3, .int v3_11), (4, .int v4_11)]) hx hb dX2_spreadInto_72 hl (by decide) rfl (fun ls hl => ?_)
          refine lv_aload_n hx hb dX2_spreadInto_74 rfl (lv_at hl 1 rfl) ?_
          refine va_get (D := (dC, dI)) (ci := 9) (v := .ref (p0a 6)) (C := RX2) (T := TX2) (N := 19) hx hb hts i_X2 hown hK hP 0 rfl rfl 5 (by decide) (hts _ qw679) (fun _ h9 => h9) rfl dX2_spreadInto_75 ?_
          refine lv_iload_n hx hb dX2_spreadInto_78 rfl (lv_at hl 3 rfl) ?_
          refine lv_aload_n hx hb dX2_spreadInto_79 rfl (lv_at hl 1 rfl) ?_
          refine va_get (D := (dC, dI)) (ci := 9) (v := .int (p0w 0 2)) (C := RX2) (T := TX2) (N := 19) hx hb hts i_X2 hown hK hP 0 rfl rfl 2 (by decide) (hts _ qw669) (fun _ h9 => h9) rfl dX2_spreadInto_80 ?_
          refine lv_imul hx hb dX2_spreadInto_83 ?_
          refine lv_iload hx hb dX2_spreadInto_84 (lv_at hl 5 rfl) ?_
          refine lv_iadd hx hb dX2_spreadInto_86 ?_
          refine lv_dup2_11 hx hb dX2_spreadInto_87 rfl rfl ?_
          obtain ⟨hq6, hrun⟩ := chk9 hrun
          refine va_lald hx hb hK hP 3 2 rfl rfl (ixb_in hq6) dX2_spreadInto_88 ?_
          refine lv_lload hx hb dX2_spreadInto_89 (lv_at hl 0 rfl) ?_
          refine lv_lor hx hb dX2_spreadInto_91 ?_
          obtain ⟨hq7, hrun⟩ := chk9 hrun
          refine va_last hx hb hK hP hD hS 3 2 rfl rfl (ixb_in hq7) dX2_spreadInto_92 (fun H locs hP hD hS => ?_)
          have hP : va_P (dC, dI) cls (List.flatten ([(oX2 (p0a 0) p0a p0k p0n p0w (upl p0l_11 6 (nn ((p2 * (p0w 0 2)) + v4_11)) ((p0l_11 6 (nn ((p2 * (p0w 0 2)) + v4_11))) ||| (((p0l_11 6 (nn ((p1 * (p0w 0 2)) + v4_11))) &&& ((p0l_11 5 (nn ((p2 * (p0w 0 2)) + v4_11))) ^^^ ((-1) : Int64))) &&& ((p0l_11 6 (nn ((p2 * (p0w 0 2)) + v4_11))) ^^^ ((-1) : Int64))))))] : List va_W)) H := hP
          have hD : va_D A (List.flatten ([(oX2 (p0a 0) p0a p0k p0n p0w (upl p0l_11 6 (nn ((p2 * (p0w 0 2)) + v4_11)) ((p0l_11 6 (nn ((p2 * (p0w 0 2)) + v4_11))) ||| (((p0l_11 6 (nn ((p1 * (p0w 0 2)) + v4_11))) &&& ((p0l_11 5 (nn ((p2 * (p0w 0 2)) + v4_11))) ^^^ ((-1) : Int64))) &&& ((p0l_11 6 (nn ((p2 * (p0w 0 2)) + v4_11))) ^^^ ((-1) : Int64))))))] : List va_W)) := hD
          obtain ⟨l8, el8, hrun⟩ := let9 hrun
          rw [← el8] at hP hD
          refine lv_iload_n hx hb dX2_spreadInto_93 rfl (lv_at hl 4 rfl) ?_
          have J109 : ∀ (y0_109 : Int32) (H : Heap) (locs : List Loc) (ls : Array Slot), (fX2_spreadInto_J109 (fX2_spreadInto_L11 p0n p0w p1 p2 n_11) v4_11 l8 y0_109) = some o11 → va_P (dC, dI) cls (List.flatten ([(oX2 (p0a 0) p0a p0k p0n p0w l8)] : List va_W)) H → va_D A (List.flatten ([(oX2 (p0a 0) p0a p0k p0n p0w l8)] : List va_W)) → va_K (dC, dI) cls (List.flatten ([(tX2 p0k)] : List (List (ClassId × FieldType)))) s → va_S A s.heap H locs → lv_has ls 7 [(0, .ref (p0a 0)), (1, .int p1), (2, .int p2), (4, .int v4_11)] → W p l e ({ frames := 0, cells := 0, slots := 0, locals := 0 } : Room) s m ([.ref (p0a 0), .int p1, .int p2] : List Value).toArray below meth c H locs 0 0 Q (F0 m 109 ls [.int y0_109]) := by
            intro y0_109 H locs ls hrun hP hD hK hS hl 
            unfold fX2_spreadInto_J109 at hrun
            refine lv_istore_n (lv' := [(3, .int y0_109), (0, .ref (p0a 0)), (1, .int p1), (2, .int p2), (4, .int v4_11)]) hx hb dX2_spreadInto_109 rfl hl (by decide) rfl (fun ls hl => ?_)
            refine lv_iinc (v := (v4_11 + 1)) (lv' := [(4, .int (v4_11 + 1)), (3, .int y0_109), (0, .ref (p0a 0)), (1, .int p1), (2, .int p2)]) hx hb dX2_spreadInto_110 hl (k := 4) rfl rfl (by decide) rfl (fun ls hl => ?_)
            refine lv_goto (tgt := 11) hx hb dX2_spreadInto_113 (by decide) ?_
            exact IH11 y0_109 (v4_11 + 1) l8 o11 _ _ _ hrun hP hD hK hS (lv_sub hl [2, 3, 4, 1, 0] rfl) hk11
          have J104 : ∀ (H : Heap) (locs : List Loc) (ls : Array Slot), (fX2_spreadInto_J104 (fX2_spreadInto_L11 p0n p0w p1 p2 n_11) v4_11 l8) = some o11 → va_P (dC, dI) cls (List.flatten ([(oX2 (p0a 0) p0a p0k p0n p0w l8)] : List va_W)) H → va_D A (List.flatten ([(oX2 (p0a 0) p0a p0k p0n p0w l8)] : List va_W)) → va_K (dC, dI) cls (List.flatten ([(tX2 p0k)] : List (List (ClassId × FieldType)))) s → va_S A s.heap H locs → lv_has ls 7 [(0, .ref (p0a 0)), (1, .int p1), (2, .int p2), (4, .int v4_11)] → W p l e ({ frames := 0, cells := 0, slots := 0, locals := 0 } : Room) s m ([.ref (p0a 0), .int p1, .int p2] : List Value).toArray below meth c H locs 0 0 Q (F0 m 104 ls []) := by
            intro  H locs ls hrun hP hD hK hS hl 
            unfold fX2_spreadInto_J104 at hrun
            refine lv_iconst (v := 1) hx hb dX2_spreadInto_104 (by decide) ?_
            refine lv_goto (tgt := 109) hx hb dX2_spreadInto_105 (by decide) ?_
            exact J109 1 _ _ _ hrun hP hD hK hS (lv_sub hl [0, 1, 2, 3] rfl)
          rcases br9 hrun with ⟨hc9, hrun⟩ | ⟨hc9, hrun⟩
          · refine lv_if_ne (tgt := 104) hx hb dX2_spreadInto_94 (by decide) (fun c => absurd hc9 c) (fun _ => ?_)
            refine lv_lload hx hb dX2_spreadInto_97 (lv_at hl 0 rfl) ?_
            refine lv_lconst (v := 0) hx hb dX2_spreadInto_99 (by decide) ?_
            refine W.lcmp hx hb dX2_spreadInto_100 ?_
            rcases br9 hrun with ⟨hc10, hrun⟩ | ⟨hc10, hrun⟩
            · refine lv_if_eq (tgt := 108) hx hb dX2_spreadInto_101 (by decide) (fun _ => ?_) (fun c => absurd hc10 c)
              refine lv_iconst (v := 0) hx hb dX2_spreadInto_108 (by decide) ?_
              exact J109 0 _ _ _ hrun hP hD hK hS (lv_sub hl [1, 2, 3, 5] rfl)
            · refine lv_if_eq (tgt := 108) hx hb dX2_spreadInto_101 (by decide) (fun c => absurd c hc10) (fun _ => ?_)
              exact J104 _ _ _ hrun hP hD hK hS (lv_sub hl [1, 2, 3, 5] rfl)
          · refine lv_if_ne (tgt := 104) hx hb dX2_spreadInto_94 (by decide) (fun _ => ?_) (fun c => absurd c hc9)
            exact J104 _ _ _ hrun hP hD hK hS (lv_sub hl [1, 2, 3, 5] rfl)
    obtain ⟨o11, hc11, hrun⟩ := bnd9 hrun
    refine L11 NF 0 0 p0l o11 _ _ _ hc11 hP hD hK hS (lv_sub hl [2, 3, 4, 1, 0] rfl) ?_
    intro H locs ls hP hD hK hS hl
    have hl := hl
    refine lv_iload_n hx hb dX2_spreadInto_116 rfl (lv_at hl 0 rfl) ?_
    obtain ⟨hz9, hrun⟩ := chk9 hrun
    have ho9 : ((o11.1), (o11.2)) = o := Option.some.inj hrun
    have hP9 : va_P (dC, dI) cls (List.flatten ([(oX2 (p0a 0) p0a p0k p0n p0w (o.2))] : List va_W)) H := by first | exact hP | (rw [← ho9]; exact hP)
    have hD9 : va_D A (List.flatten ([(oX2 (p0a 0) p0a p0k p0n p0w (o.2))] : List va_W)) := by first | exact hD | (rw [← ho9]; exact hD)
    subst hQ
    exact W.zret (v := (o11.1)) hx hb hr (bz9 hz9) (fun t ht hW => ⟨⟨(o11.1), (), rfl, (by rw [← ho9]), ⟨by rw [ht]; exact hP9, va_K.moved hW.alike hK, hD9⟩⟩, hS.F ht⟩) hS.2.2 dX2_spreadInto_117
  · refine lv_if_ge (tgt := 6) hx hb dX2_spreadInto_1 (by decide) (fun c => absurd c hc1) (fun _ => ?_)
    refine lv_iconst (v := 0) hx hb dX2_spreadInto_4 (by decide) ?_
    have ho9 : (0, p0l) = o := Option.some.inj hrun
    have hP9 : va_P (dC, dI) cls (List.flatten ([(oX2 (p0a 0) p0a p0k p0n p0w (o.2))] : List va_W)) H := by first | exact hP | (rw [← ho9]; exact hP)
    have hD9 : va_D A (List.flatten ([(oX2 (p0a 0) p0a p0k p0n p0w (o.2))] : List va_W)) := by first | exact hD | (rw [← ho9]; exact hD)
    subst hQ
    exact W.zret (v := 0) hx hb hr (by decide) (fun t ht hW => ⟨⟨0, (), rfl, (by rw [← ho9]), ⟨by rw [ht]; exact hP9, va_K.moved hW.alike hK, hD9⟩⟩, hS.F ht⟩) hS.2.2 dX2_spreadInto_5
def fX2_spreadLife_J96 (kk46 : Int32 → Int32 → SL → Option (Int32 × SL)) (v4_46 : Int32) (o_10 : Int32 × SL) (y0_96 : Int32) : Option (Int32 × SL) := (kk46 y0_96 (v4_46 + (-1)) (o_10.2))
def fX2_spreadLife_J91 (kk46 : Int32 → Int32 → SL → Option (Int32 × SL)) (v4_46 : Int32) (o_10 : Int32 × SL) : Option (Int32 × SL) := (fX2_spreadLife_J96 kk46 v4_46 o_10 1)
def fX2_spreadLife_L46 (p0n : Nat → Nat) (p0w : ST) (p1w : ST) : Nat → Int32 → Int32 → SL → Option (Int32 × SL)
  | 0 => fun _ _ _ => none
  | n_46 + 1 => fun v2_46 v4_46 p0l_46 => (if v4_46 < 0 then some (v2_46, p0l_46) else (if ixb v4_46 60 = true then ((fX2_spreadInto p0n p0w p0l_46 (p1w 10 (nn v4_46)) v4_46).bind fun (o_7 : Int32 × SL) => (if ixb v4_46 60 = true then ((fX2_spreadInto p0n p0w (o_7.2) (p1w 11 (nn v4_46)) v4_46).bind fun (o_10 : Int32 × SL) => (if (o_10.1) = 0 then (if (o_7.1) = 0 then (if v2_46 = 0 then (fX2_spreadLife_J96 (fX2_spreadLife_L46 p0n p0w p1w n_46) v4_46 o_10 0) else (fX2_spreadLife_J91 (fX2_spreadLife_L46 p0n p0w p1w n_46) v4_46 o_10)) else (fX2_spreadLife_J91 (fX2_spreadLife_L46 p0n p0w p1w n_46) v4_46 o_10)) else (fX2_spreadLife_J91 (fX2_spreadLife_L46 p0n p0w p1w n_46) v4_46 o_10))) else none)) else none))
def fX2_spreadLife_L26 (p0n : Nat → Nat) (p0w : ST) (p1w : ST) : Nat → Int32 → Int32 → SL → Option SL
  | 0 => fun _ _ _ => none
  | n_26 + 1 => fun v2_26 v3_26 p0l_26 => (if v2_26 = 0 then some p0l_26 else (if 1000000 ≤ v3_26 then some p0l_26 else ((fX2_spreadLife_L46 p0n p0w p1w NF 0 ((p1w 0 0) - 1) p0l_26).bind fun (o46 : Int32 × SL) => ((fX2_spreadLife_L26 p0n p0w p1w n_26) (o46.1) (v3_26 + 1) (o46.2)))))
def fX2_spreadLife (p0n : Nat → Nat) (p0w : ST) (p0l : SL) (p1w : ST) : Option SL := (if cpk 0 0 ((p1w 0 0) * (p0w 0 2)) (p0n 4) (p0n 6) = true then (lt9 (srl p0l 6 (va_cpy (p0l 4) (p0l 6) (nn 0) (nn 0) (nn ((p1w 0 0) * (p0w 0 2))))) fun (l2 : SL) => ((fX2_spreadLife_L26 p0n p0w p1w NF 1 0 l2).bind fun (o26 : SL) => some o26)) else none)
set_option maxHeartbeats 16000000 in
set_option maxRecDepth 100000 in
theorem kX2_spreadLife {zs : ZS} (l : Launch) (dC : Nat → ClassId) (dI : Nat → Nat → Nat) (p0a : Nat → Nat) (p0k : Nat → ClassId) (p0n : Nat → Nat) (p0w : ST) (p0l : SL) (p1a : Nat → Nat) (p1k : Nat → ClassId) (p1n : Nat → Nat) (p1w : ST) (p1l : SL) (sz : Nat) (o : SL) (hrun : fX2_spreadLife p0n p0w p0l p1w = some o) : Met l yX2_spreadLife (wz yX2_spreadLife cX2_spreadLife 6 (Option.none : Option Jvm.ClassFile.FieldType)) ({ frames := 1, cells := 0, slots := 0, locals := 40 } : Room) (va_Pc [.ref (p0a 0), .ref (p1a 0)] (PRE zs dC dI (List.flatten ([(oX2 (p0a 0) p0a p0k p0n p0w p0l), (oX1 (p1a 0) p1a p1k p1n p1w p1l)] : List va_W)) (List.flatten ([(tX2 p0k), (tX1 p1k)] : List (List (ClassId × FieldType)))) sz)) (va_Qv (fun (_ : Unit) => True) (fun _ t => POST dC dI (List.flatten ([(oX2 (p0a 0) p0a p0k p0n p0w o), (oX1 (p1a 0) p1a p1k p1n p1w p1l)] : List va_W)) (List.flatten ([(tX2 p0k), (tX1 p1k)] : List (List (ClassId × FieldType)))) (va_A (List.flatten ([(oX2 (p0a 0) p0a p0k p0n p0w p0l), (oX1 (p1a 0) p1a p1k p1n p1w p1l)] : List va_W)) sz) t) (va_A (List.flatten ([(oX2 (p0a 0) p0a p0k p0n p0w p0l), (oX1 (p1a 0) p1a p1k p1n p1w p1l)] : List va_W)) sz)) 0 0 (va_A (List.flatten ([(oX2 (p0a 0) p0a p0k p0n p0w p0l), (oX1 (p1a 0) p1a p1k p1n p1w p1l)] : List va_W)) sz) := by
  refine Met.ofW (cc := cX2_spreadLife) (maxL := 6) (ret := (Option.none : Option Jvm.ClassFile.FieldType)) (by decide) rfl ?_
  intro p e s m args below meth c s₁ B hml hv
  obtain ⟨rfl, hsz, hP, hK, hD0, hE⟩ := hv
  have hx := B.exec
  have hb := B.bytes
  have hr := B.returns
  have hts0 := atoms_spec (ws := wz yX2_spreadLife cX2_spreadLife 6 (Option.none : Option Jvm.ClassFile.FieldType)) B.pre
  have hts : ∀ w ∈ gw, w.before _ s = true := fun w h => hts0 w (List.mem_cons_of_mem _ h)
  have hown : s.vm.findClass RX2 = some m.cls := findClass_of_methodNamed B.named
  have hlocks := B.notSynchronized
  subst hsz
  have hD := hD0.self (sz := s.heap.size)
  refine gQ9 ?_
  intro Q hQ
  generalize hAe : va_A (List.flatten ([(oX2 (p0a 0) p0a p0k p0n p0w p0l), (oX1 (p1a 0) p1a p1k p1n p1w p1l)] : List va_W)) s.heap.size = A at hD hE hQ
  have hA : ∀ q : Nat, s.heap.size ≤ q → A q := fun q h => by rw [← hAe]; exact Or.inr h
  have hS : va_S A s.heap s.heap [] := va_S.rf
  have hP : va_P (dC, dI) cls (List.flatten ([(oX2 (p0a 0) p0a p0k p0n p0w p0l), (oX1 (p1a 0) p1a p1k p1n p1w p1l)] : List va_W)) s.heap := hP
  have hl := lv_entry ([.ref (p0a 0), .ref (p1a 0)]) (n := 6) (Nat.le_of_ble_eq_true rfl)
  rw [lg_entry_eq]
  generalize (lg_sl ([.ref (p0a 0), .ref (p1a 0)]) ++ List.replicate (6 - (lg_sl ([.ref (p0a 0), .ref (p1a 0)])).length) Slot.unset).toArray = ls at hl ⊢
  have hl : lv_has ls 6 [(0, .ref (p0a 0)), (1, .ref (p1a 0))] := hl
  obtain ⟨H, hHe⟩ : ∃ H, H = s.heap := ⟨_, rfl⟩
  obtain ⟨locs, hle⟩ : ∃ locs : List Loc, locs = [] := ⟨_, rfl⟩
  rw [← hHe] at hP
  have hS : va_S A s.heap H locs := by rw [hHe, hle]; exact hS
  show W p l e ({ frames := 1, cells := 0, slots := 0, locals := 40 } : Room) s m ([.ref (p0a 0), .ref (p1a 0)] : List Value).toArray below meth c s.heap [] 0 0 Q (F0 m 0 ls [])
  rw [← hle]
  refine wH9 hHe ?_
  unfold fX2_spreadLife at hrun
  refine lv_aload_n hx hb dX2_spreadLife_0 rfl (lv_at hl 0 rfl) ?_
  refine va_get (D := (dC, dI)) (ci := 9) (v := .ref (p0a 4)) (C := RX2) (T := TX2) (N := 19) hx hb hts i_X2 hown hK hP 0 rfl rfl 3 (by decide) (hts _ qw671) (fun _ h9 => h9) rfl dX2_spreadLife_1 ?_
  refine lv_iconst (v := 0) hx hb dX2_spreadLife_4 (by decide) ?_
  refine lv_aload_n hx hb dX2_spreadLife_5 rfl (lv_at hl 0 rfl) ?_
  refine va_get (D := (dC, dI)) (ci := 9) (v := .ref (p0a 6)) (C := RX2) (T := TX2) (N := 19) hx hb hts i_X2 hown hK hP 0 rfl rfl 5 (by decide) (hts _ qw679) (fun _ h9 => h9) rfl dX2_spreadLife_6 ?_
  refine lv_iconst (v := 0) hx hb dX2_spreadLife_9 (by decide) ?_
  refine lv_aload_n hx hb dX2_spreadLife_10 rfl (lv_at hl 1 rfl) ?_
  refine va_get (D := (dC, dI)) (ci := 4) (v := .int (p1w 0 0)) (C := RX1) (T := TX1) (N := 21) hx hb hts i_X1 hown hK hP 16 rfl rfl 0 (by decide) (hts _ qw670) (fun _ h9 => h9) rfl dX2_spreadLife_11 ?_
  refine lv_aload_n hx hb dX2_spreadLife_14 rfl (lv_at hl 0 rfl) ?_
  refine va_get (D := (dC, dI)) (ci := 9) (v := .int (p0w 0 2)) (C := RX2) (T := TX2) (N := 19) hx hb hts i_X2 hown hK hP 0 rfl rfl 2 (by decide) (hts _ qw669) (fun _ h9 => h9) rfl dX2_spreadLife_15 ?_
  refine lv_imul hx hb dX2_spreadLife_18 ?_
  obtain ⟨hq1, hrun⟩ := chk9 hrun
  refine va_copyl (ty := .long) (sp := 0) (dp := 0) (n := ((p1w 0 0) * (p0w 0 2))) hx hb (hml.trans hl.1.symm) hown (hts _ qw722) (hts _ qw103) (hts _ qw104) (hts _ qw105) hK hP hD hS 1 3 0 2 rfl rfl rfl rfl rfl (cpk_1 hq1) (cpk_2 hq1) (cpk_3 hq1) (cpk_4 hq1) (cpk_5 hq1) (fun _ _ => rfl) (Nat.le_of_ble_eq_true rfl) (Nat.le_of_ble_eq_true rfl) dX2_spreadLife_19 (fun H locs hP hD hS => ?_)
  have hP : va_P (dC, dI) cls (List.flatten ([(oX2 (p0a 0) p0a p0k p0n p0w (srl p0l 6 (va_cpy (p0l 4) (p0l 6) (nn 0) (nn 0) (nn ((p1w 0 0) * (p0w 0 2)))))), (oX1 (p1a 0) p1a p1k p1n p1w p1l)] : List va_W)) H := hP
  have hD : va_D A (List.flatten ([(oX2 (p0a 0) p0a p0k p0n p0w (srl p0l 6 (va_cpy (p0l 4) (p0l 6) (nn 0) (nn 0) (nn ((p1w 0 0) * (p0w 0 2)))))), (oX1 (p1a 0) p1a p1k p1n p1w p1l)] : List va_W)) := hD
  obtain ⟨l2, el2, hrun⟩ := let9 hrun
  rw [← el2] at hP hD
  refine lv_iconst (v := 1) hx hb dX2_spreadLife_22 (by decide) ?_
  refine lv_istore_n (lv' := [(2, .int 1), (0, .ref (p0a 0)), (1, .ref (p1a 0))]) hx hb dX2_spreadLife_23 rfl hl (by decide) rfl (fun ls hl => ?_)
  refine lv_iconst (v := 0) hx hb dX2_spreadLife_24 (by decide) ?_
  refine lv_istore_n (lv' := [(3, .int 0), (2, .int 1), (0, .ref (p0a 0)), (1, .ref (p1a 0))]) hx hb dX2_spreadLife_25 rfl hl (by decide) rfl (fun ls hl => ?_)
  have L26 : ∀ (n_26 : Nat) (v2_26 : Int32) (v3_26 : Int32) (p0l_26 : SL) (o26 : SL) (H : Heap) (locs : List Loc) (ls : Array Slot), (fX2_spreadLife_L26 p0n p0w p1w n_26) v2_26 v3_26 p0l_26 = some o26 → va_P (dC, dI) cls (List.flatten ([(oX2 (p0a 0) p0a p0k p0n p0w p0l_26), (oX1 (p1a 0) p1a p1k p1n p1w p1l)] : List va_W)) H → va_D A (List.flatten ([(oX2 (p0a 0) p0a p0k p0n p0w p0l_26), (oX1 (p1a 0) p1a p1k p1n p1w p1l)] : List va_W)) → va_K (dC, dI) cls (List.flatten ([(tX2 p0k), (tX1 p1k)] : List (List (ClassId × FieldType)))) s → va_S A s.heap H locs → lv_has ls 6 [(0, .ref (p0a 0)), (1, .ref (p1a 0)), (2, .int v2_26), (3, .int v3_26)] → (∀ (H : Heap) (locs : List Loc) (ls : Array Slot), va_P (dC, dI) cls (List.flatten ([(oX2 (p0a 0) p0a p0k p0n p0w o26), (oX1 (p1a 0) p1a p1k p1n p1w p1l)] : List va_W)) H → va_D A (List.flatten ([(oX2 (p0a 0) p0a p0k p0n p0w o26), (oX1 (p1a 0) p1a p1k p1n p1w p1l)] : List va_W)) → va_K (dC, dI) cls (List.flatten ([(tX2 p0k), (tX1 p1k)] : List (List (ClassId × FieldType)))) s → va_S A s.heap H locs → lv_has ls 6 [] → W p l e ({ frames := 1, cells := 0, slots := 0, locals := 40 } : Room) s m ([.ref (p0a 0), .ref (p1a 0)] : List Value).toArray below meth c H locs 0 0 Q (F0 m 109 ls [])) → W p l e ({ frames := 1, cells := 0, slots := 0, locals := 40 } : Room) s m ([.ref (p0a 0), .ref (p1a 0)] : List Value).toArray below meth c H locs 0 0 Q (F0 m 26 ls []) := by
    intro n_26
    induction n_26 with
    | zero => intro v2_26 v3_26 p0l_26 o26 H locs ls hrun; exact (no9 rfl hrun).elim
    | succ n_26 IH26 =>
      intro v2_26 v3_26 p0l_26 o26 H locs ls hrun hP hD hK hS hl hk26
      unfold fX2_spreadLife_L26 at hrun
      refine lv_iload_n hx hb dX2_spreadLife_26 rfl (lv_at hl 2 rfl) ?_
      rcases br9 hrun with ⟨hc3, hrun⟩ | ⟨hc3, hrun⟩
      · refine lv_if_eq (tgt := 109) hx hb dX2_spreadLife_27 (by decide) (fun _ => ?_) (fun c => absurd hc3 c)
        obtain rfl := (Option.some.inj hrun)
        exact hk26 _ _ _ hP hD hK hS (lv_sub hl [] rfl)
      · refine lv_if_eq (tgt := 109) hx hb dX2_spreadLife_27 (by decide) (fun c => absurd c hc3) (fun _ => ?_)
        refine lv_iload_n hx hb dX2_spreadLife_30 rfl (lv_at hl 3 rfl) ?_
        refine lv_ldc (v := 1000000) hx hb hown (hts _ qw723) dX2_spreadLife_31 ?_
        rcases br9 hrun with ⟨hc4, hrun⟩ | ⟨hc4, hrun⟩
        · refine lv_icmp_ge (tgt := 109) hx hb dX2_spreadLife_33 (by decide) (fun _ => ?_) (fun c => absurd hc4 c)
          obtain rfl := (Option.some.inj hrun)
          exact hk26 _ _ _ hP hD hK hS (lv_sub hl [] rfl)
        · refine lv_icmp_ge (tgt := 109) hx hb dX2_spreadLife_33 (by decide) (fun c => absurd c hc4) (fun _ => ?_)
          refine lv_iconst (v := 0) hx hb dX2_spreadLife_36 (by decide) ?_
          refine lv_istore_n (lv' := [(2, .int 0), (0, .ref (p0a 0)), (1, .ref (p1a 0)), (3, .int v3_26)]) hx hb dX2_spreadLife_37 rfl hl (by decide) rfl (fun ls hl => ?_)
          refine lv_aload_n hx hb dX2_spreadLife_38 rfl (lv_at hl 2 rfl) ?_
          refine va_get (D := (dC, dI)) (ci := 4) (v := .int (p1w 0 0)) (C := RX1) (T := TX1) (N := 21) hx hb hts i_X1 hown hK hP 16 rfl rfl 0 (by decide) (hts _ qw670) (fun _ h9 => h9) rfl dX2_spreadLife_39 ?_
          refine lv_iconst (v := 1) hx hb dX2_spreadLife_42 (by decide) ?_
          refine lv_isub hx hb dX2_spreadLife_43 ?_
          refine lv_istore (lv' := [(4, .int ((p1w 0 0) - 1)), (2, .int 0), (0, .ref (p0a 0)), (1, .ref (p1a 0)), (3, .int v3_26)]) hx hb dX2_spreadLife_44 hl (by decide) rfl (fun ls hl => ?_)
          have L46 : ∀ (n_46 : Nat) (v2_46 : Int32) (v4_46 : Int32) (p0l_46 : SL) (o46 : Int32 × SL) (H : Heap) (locs : List Loc) (ls : Array Slot), (fX2_spreadLife_L46 p0n p0w p1w n_46) v2_46 v4_46 p0l_46 = some o46 → va_P (dC, dI) cls (List.flatten ([(oX2 (p0a 0) p0a p0k p0n p0w p0l_46), (oX1 (p1a 0) p1a p1k p1n p1w p1l)] : List va_W)) H → va_D A (List.flatten ([(oX2 (p0a 0) p0a p0k p0n p0w p0l_46), (oX1 (p1a 0) p1a p1k p1n p1w p1l)] : List va_W)) → va_K (dC, dI) cls (List.flatten ([(tX2 p0k), (tX1 p1k)] : List (List (ClassId × FieldType)))) s → va_S A s.heap H locs → lv_has ls 6 [(0, .ref (p0a 0)), (1, .ref (p1a 0)), (2, .int v2_46), (3, .int v3_26), (4, .int v4_46)] → (∀ (H : Heap) (locs : List Loc) (ls : Array Slot), va_P (dC, dI) cls (List.flatten ([(oX2 (p0a 0) p0a p0k p0n p0w (o46.2)), (oX1 (p1a 0) p1a p1k p1n p1w p1l)] : List va_W)) H → va_D A (List.flatten ([(oX2 (p0a 0) p0a p0k p0n p0w (o46.2)), (oX1 (p1a 0) p1a p1k p1n p1w p1l)] : List va_W)) → va_K (dC, dI) cls (List.flatten ([(tX2 p0k), (tX1 p1k)] : List (List (ClassId × FieldType)))) s → va_S A s.heap H locs → lv_has ls 6 [(0, .ref (p0a 0)), (1, .ref (p1a 0)), (2, .int (o46.1)), (3, .int v3_26)] → W p l e ({ frames := 1, cells := 0, slots := 0, locals := 40 } : Room) s m ([.ref (p0a 0), .ref (p1a 0)] : List Value).toArray below meth c H locs 0 0 Q (F0 m 103 ls [])) → W p l e ({ frames := 1, cells := 0, slots := 0, locals := 40 } : Room) s m ([.ref (p0a 0), .ref (p1a 0)] : List Value).toArray below meth c H locs 0 0 Q (F0 m 46 ls []) := by
            intro n_46
            induction n_46 with
            | zero => intro v2_46 v4_46 p0l_46 o46 H locs ls hrun; exact (no9 rfl hrun).elim
            | succ n_46 IH46 =>
              intro v2_46 v4_46 p0l_46 o46 H locs ls hrun hP hD hK hS hl hk46
              unfold fX2_spreadLife_L46 at hrun
              refine lv_iload hx hb dX2_spreadLife_46 (lv_at hl 4 rfl) ?_
              rcases br9 hrun with ⟨hc5, hrun⟩ | ⟨hc5, hrun⟩
              · refine lv_if_lt (tgt := 103) hx hb dX2_spreadLife_48 (by decide) (fun _ => ?_) (fun c => absurd hc5 c)
                obtain rfl := (Option.some.inj hrun)
                exact hk46 _ _ _ hP hD hK hS (lv_sub hl [0, 1, 2, 3] rfl)
              · refine lv_if_lt (tgt := 103) hx hb dX2_spreadLife_48 (by decide) (fun c => absurd c hc5) (fun _ => ?_)
                refine lv_aload_n hx hb dX2_spreadLife_51 rfl (lv_at hl 0 rfl) ?_
                refine lv_aload_n hx hb dX2_spreadLife_52 rfl (lv_at hl 1 rfl) ?_
                refine va_get (D := (dC, dI)) (ci := 4) (v := .ref (p1a 10)) (C := RX1) (T := TX1) (N := 21) hx hb hts i_X1 hown hK hP 16 rfl rfl 9 (by decide) (hts _ qw724) (fun _ h9 => h9) rfl dX2_spreadLife_53 ?_
                refine lv_iload hx hb dX2_spreadLife_56 (lv_at hl 4 rfl) ?_
                obtain ⟨hq6, hrun⟩ := chk9 hrun
                refine va_iald hx hb hK hP 23 21 rfl rfl (ixb_in hq6) dX2_spreadLife_58 ?_
                refine lv_iload hx hb dX2_spreadLife_59 (lv_at hl 4 rfl) ?_
                obtain ⟨o_7, hc_7, hrun⟩ := bnd9 hrun
                have hPx : va_P (dC, dI) cls ((List.flatten ([(oX2 (p0a 0) p0a p0k p0n p0w p0l_46)] : List va_W)) ++ (List.flatten ([(oX1 (p1a 0) p1a p1k p1n p1w p1l)] : List va_W))) H := vP_fa (vP_perm hP (bP (List.Perm.refl _)))
                have hDx : va_D A ((List.flatten ([(oX2 (p0a 0) p0a p0k p0n p0w p0l_46)] : List va_W)) ++ (List.flatten ([(oX1 (p1a 0) p1a p1k p1n p1w p1l)] : List va_W))) := vD_fa (vD_perm hD (bP (List.Perm.refl _)))
                have hKx : va_K (dC, dI) cls ((List.flatten ([(tX2 p0k)] : List (List (ClassId × FieldType)))) ++ (List.flatten ([(tX1 p1k)] : List (List (ClassId × FieldType))))) s := vK_fa (vK_perm hK (bP (List.Perm.refl _)))
                have hPc := vP_l hPx
                have hDc := vD_l hDx
                have hKc := vK_l hKx
                have hFc := vfree hDx hS hA
                refine va_calli (va_runV (As := [.int (p1w 10 (nn v4_46)), .int v4_46]) (rest := []) ⟨hx, hb, hml, hown, hts⟩ (kX2_spreadInto l dC dI (p0a := p0a) (p0k := p0k) (p0n := p0n) (p0w := p0w) (p0l := p0l_46) (p1 := (p1w 10 (nn v4_46))) (p2 := v4_46) (sz := _) (o := o_7) (hrun := hc_7)) (cwV 2 hts (gi_V qw727 qw728 qw729 qw694 (gi_z qw726)) rfl rfl rfl (by decide +kernel) ⟨Nat.le_of_ble_eq_true rfl, Nat.le_of_ble_eq_true rfl⟩) ⟨PRE.blind, va_recv hKc hPc (ci := 9) (q0 := 0) rfl rfl, PRE.of hE hS hFc hPc hKc hDc⟩ rfl rfl hl.1 rfl (lv_room (Nat.le_of_ble_eq_true rfl)) dX2_spreadLife_61 ⟨(Nat.le_of_ble_eq_true rfl), (Nat.le_of_ble_eq_true rfl)⟩) hS (fun q _ h => hFc q h) hFc (fun r8 u t H locs ht hvm hw hB hz1 hk1 hS => ?_)
                obtain ⟨b1, b2, b3⟩ := hB
                rw [ht] at b1
                obtain ⟨hP, hD, hK⟩ := JOINC (wc := (List.flatten ([(oX2 (p0a 0) p0a p0k p0n p0w p0l_46)] : List va_W))) (wr := (List.flatten ([(oX1 (p1a 0) p1a p1k p1n p1w p1l)] : List va_W))) (w1 := (List.flatten ([(oX2 (p0a 0) p0a p0k p0n p0w (o_7.2))] : List va_W))) (t1 := (List.flatten ([(tX2 p0k)] : List (List (ClassId × FieldType))))) hPx hDx hKx hk1 hFc b1 (va_K.moved hvm.symm b2) b3
                have hP : va_P (dC, dI) cls (List.flatten ([(oX2 (p0a 0) p0a p0k p0n p0w (o_7.2)), (oX1 (p1a 0) p1a p1k p1n p1w p1l)] : List va_W)) H := vP_perm (vP_fb hP) (bP (List.Perm.refl _))
                have hD : va_D A (List.flatten ([(oX2 (p0a 0) p0a p0k p0n p0w (o_7.2)), (oX1 (p1a 0) p1a p1k p1n p1w p1l)] : List va_W)) := vD_perm (vD_fb hD) (bP (List.Perm.refl _))
                have hK : va_K (dC, dI) cls (List.flatten ([(tX2 p0k), (tX1 p1k)] : List (List (ClassId × FieldType)))) s := vK_perm (vK_fb hK) (bP (List.Perm.refl _))
                obtain rfl : r8 = (o_7.1) := hw
                refine lv_istore (lv' := [(5, .int (o_7.1)), (0, .ref (p0a 0)), (1, .ref (p1a 0)), (2, .int v2_46), (3, .int v3_26), (4, .int v4_46)]) hx hb dX2_spreadLife_64 hl (by decide) rfl (fun ls hl => ?_)
                refine lv_aload_n hx hb dX2_spreadLife_66 rfl (lv_at hl 1 rfl) ?_
                refine lv_aload_n hx hb dX2_spreadLife_67 rfl (lv_at hl 2 rfl) ?_
                refine va_get (D := (dC, dI)) (ci := 4) (v := .ref (p1a 11)) (C := RX1) (T := TX1) (N := 21) hx hb hts i_X1 hown hK hP 16 rfl rfl 10 (by decide) (hts _ qw730) (fun _ h9 => h9) rfl dX2_spreadLife_68 ?_
                refine lv_iload hx hb dX2_spreadLife_71 (lv_at hl 5 rfl) ?_
                obtain ⟨hq9, hrun⟩ := chk9 hrun
                refine va_iald hx hb hK hP 24 22 rfl rfl (ixb_in hq9) dX2_spreadLife_73 ?_
                refine lv_iload hx hb dX2_spreadLife_74 (lv_at hl 5 rfl) ?_
                obtain ⟨o_10, hc_10, hrun⟩ := bnd9 hrun
                have hPx : va_P (dC, dI) cls ((List.flatten ([(oX2 (p0a 0) p0a p0k p0n p0w (o_7.2))] : List va_W)) ++ (List.flatten ([(oX1 (p1a 0) p1a p1k p1n p1w p1l)] : List va_W))) H := vP_fa (vP_perm hP (bP (List.Perm.refl _)))
                have hDx : va_D A ((List.flatten ([(oX2 (p0a 0) p0a p0k p0n p0w (o_7.2))] : List va_W)) ++ (List.flatten ([(oX1 (p1a 0) p1a p1k p1n p1w p1l)] : List va_W))) := vD_fa (vD_perm hD (bP (List.Perm.refl _)))
                have hKx : va_K (dC, dI) cls ((List.flatten ([(tX2 p0k)] : List (List (ClassId × FieldType)))) ++ (List.flatten ([(tX1 p1k)] : List (List (ClassId × FieldType))))) s := vK_fa (vK_perm hK (bP (List.Perm.refl _)))
                have hPc := vP_l hPx
                have hDc := vD_l hDx
                have hKc := vK_l hKx
                have hFc := vfree hDx hS hA
                refine va_calli (va_runV (As := [.int (p1w 11 (nn v4_46)), .int v4_46]) (rest := []) ⟨hx, hb, hml, hown, hts⟩ (kX2_spreadInto l dC dI (p0a := p0a) (p0k := p0k) (p0n := p0n) (p0w := p0w) (p0l := (o_7.2)) (p1 := (p1w 11 (nn v4_46))) (p2 := v4_46) (sz := _) (o := o_10) (hrun := hc_10)) (cwV 2 hts (gi_V qw727 qw728 qw729 qw694 (gi_z qw726)) rfl rfl rfl (by decide +kernel) ⟨Nat.le_of_ble_eq_true rfl, Nat.le_of_ble_eq_true rfl⟩) ⟨PRE.blind, va_recv hKc hPc (ci := 9) (q0 := 0) rfl rfl, PRE.of hE hS hFc hPc hKc hDc⟩ rfl rfl hl.1 rfl (lv_room (Nat.le_of_ble_eq_true rfl)) dX2_spreadLife_76 ⟨(Nat.le_of_ble_eq_true rfl), (Nat.le_of_ble_eq_true rfl)⟩) hS (fun q _ h => hFc q h) hFc (fun r11 u t H locs ht hvm hw hB hz1 hk1 hS => ?_)
                obtain ⟨b1, b2, b3⟩ := hB
                rw [ht] at b1
                obtain ⟨hP, hD, hK⟩ := JOINC (wc := (List.flatten ([(oX2 (p0a 0) p0a p0k p0n p0w (o_7.2))] : List va_W))) (wr := (List.flatten ([(oX1 (p1a 0) p1a p1k p1n p1w p1l)] : List va_W))) (w1 := (List.flatten ([(oX2 (p0a 0) p0a p0k p0n p0w (o_10.2))] : List va_W))) (t1 := (List.flatten ([(tX2 p0k)] : List (List (ClassId × FieldType))))) hPx hDx hKx hk1 hFc b1 (va_K.moved hvm.symm b2) b3
                have hP : va_P (dC, dI) cls (List.flatten ([(oX2 (p0a 0) p0a p0k p0n p0w (o_10.2)), (oX1 (p1a 0) p1a p1k p1n p1w p1l)] : List va_W)) H := vP_perm (vP_fb hP) (bP (List.Perm.refl _))
                have hD : va_D A (List.flatten ([(oX2 (p0a 0) p0a p0k p0n p0w (o_10.2)), (oX1 (p1a 0) p1a p1k p1n p1w p1l)] : List va_W)) := vD_perm (vD_fb hD) (bP (List.Perm.refl _))
                have hK : va_K (dC, dI) cls (List.flatten ([(tX2 p0k), (tX1 p1k)] : List (List (ClassId × FieldType)))) s := vK_perm (vK_fb hK) (bP (List.Perm.refl _))
                obtain rfl : r11 = (o_10.1) := hw
                have J96 : ∀ (y0_96 : Int32) (H : Heap) (locs : List Loc) (ls : Array Slot), (fX2_spreadLife_J96 (fX2_spreadLife_L46 p0n p0w p1w n_46) v4_46 o_10 y0_96) = some o46 → va_P (dC, dI) cls (List.flatten ([(oX2 (p0a 0) p0a p0k p0n p0w (o_10.2)), (oX1 (p1a 0) p1a p1k p1n p1w p1l)] : List va_W)) H → va_D A (List.flatten ([(oX2 (p0a 0) p0a p0k p0n p0w (o_10.2)), (oX1 (p1a 0) p1a p1k p1n p1w p1l)] : List va_W)) → va_K (dC, dI) cls (List.flatten ([(tX2 p0k), (tX1 p1k)] : List (List (ClassId × FieldType)))) s → va_S A s.heap H locs → lv_has ls 6 [(0, .ref (p0a 0)), (1, .ref (p1a 0)), (3, .int v3_26), (4, .int v4_46)] → W p l e ({ frames := 1, cells := 0, slots := 0, locals := 40 } : Room) s m ([.ref (p0a 0), .ref (p1a 0)] : List Value).toArray below meth c H locs 0 0 Q (F0 m 96 ls [.int y0_96]) := by
                  intro y0_96 H locs ls hrun hP hD hK hS hl 
                  unfold fX2_spreadLife_J96 at hrun
                  refine lv_istore_n (lv' := [(2, .int y0_96), (0, .ref (p0a 0)), (1, .ref (p1a 0)), (3, .int v3_26), (4, .int v4_46)]) hx hb dX2_spreadLife_96 rfl hl (by decide) rfl (fun ls hl => ?_)
                  refine lv_iinc (v := (v4_46 + (-1))) (lv' := [(4, .int (v4_46 + (-1))), (2, .int y0_96), (0, .ref (p0a 0)), (1, .ref (p1a 0)), (3, .int v3_26)]) hx hb dX2_spreadLife_97 hl (k := 4) rfl rfl (by decide) rfl (fun ls hl => ?_)
                  refine lv_goto (tgt := 46) hx hb dX2_spreadLife_100 (by decide) ?_
                  exact IH46 y0_96 (v4_46 + (-1)) (o_10.2) o46 _ _ _ hrun hP hD hK hS (lv_sub hl [2, 3, 1, 4, 0] rfl) hk46
                have J91 : ∀ (H : Heap) (locs : List Loc) (ls : Array Slot), (fX2_spreadLife_J91 (fX2_spreadLife_L46 p0n p0w p1w n_46) v4_46 o_10) = some o46 → va_P (dC, dI) cls (List.flatten ([(oX2 (p0a 0) p0a p0k p0n p0w (o_10.2)), (oX1 (p1a 0) p1a p1k p1n p1w p1l)] : List va_W)) H → va_D A (List.flatten ([(oX2 (p0a 0) p0a p0k p0n p0w (o_10.2)), (oX1 (p1a 0) p1a p1k p1n p1w p1l)] : List va_W)) → va_K (dC, dI) cls (List.flatten ([(tX2 p0k), (tX1 p1k)] : List (List (ClassId × FieldType)))) s → va_S A s.heap H locs → lv_has ls 6 [(0, .ref (p0a 0)), (1, .ref (p1a 0)), (3, .int v3_26), (4, .int v4_46)] → W p l e ({ frames := 1, cells := 0, slots := 0, locals := 40 } : Room) s m ([.ref (p0a 0), .ref (p1a 0)] : List Value).toArray below meth c H locs 0 0 Q (F0 m 91 ls []) := by
                  intro  H locs ls hrun hP hD hK hS hl 
                  unfold fX2_spreadLife_J91 at hrun
                  refine lv_iconst (v := 1) hx hb dX2_spreadLife_91 (by decide) ?_
                  refine lv_goto (tgt := 96) hx hb dX2_spreadLife_92 (by decide) ?_
                  exact J96 1 _ _ _ hrun hP hD hK hS (lv_sub hl [0, 1, 2, 3] rfl)
                rcases br9 hrun with ⟨hc12, hrun⟩ | ⟨hc12, hrun⟩
                · refine lv_if_ne (tgt := 91) hx hb dX2_spreadLife_79 (by decide) (fun c => absurd hc12 c) (fun _ => ?_)
                  refine lv_iload hx hb dX2_spreadLife_82 (lv_at hl 0 rfl) ?_
                  rcases br9 hrun with ⟨hc13, hrun⟩ | ⟨hc13, hrun⟩
                  · refine lv_if_ne (tgt := 91) hx hb dX2_spreadLife_84 (by decide) (fun c => absurd hc13 c) (fun _ => ?_)
                    refine lv_iload_n hx hb dX2_spreadLife_87 rfl (lv_at hl 3 rfl) ?_
                    rcases br9 hrun with ⟨hc14, hrun⟩ | ⟨hc14, hrun⟩
                    · refine lv_if_eq (tgt := 95) hx hb dX2_spreadLife_88 (by decide) (fun _ => ?_) (fun c => absurd hc14 c)
                      refine lv_iconst (v := 0) hx hb dX2_spreadLife_95 (by decide) ?_
                      exact J96 0 _ _ _ hrun hP hD hK hS (lv_sub hl [1, 2, 4, 5] rfl)
                    · refine lv_if_eq (tgt := 95) hx hb dX2_spreadLife_88 (by decide) (fun c => absurd c hc14) (fun _ => ?_)
                      exact J91 _ _ _ hrun hP hD hK hS (lv_sub hl [1, 2, 4, 5] rfl)
                  · refine lv_if_ne (tgt := 91) hx hb dX2_spreadLife_84 (by decide) (fun _ => ?_) (fun c => absurd c hc13)
                    exact J91 _ _ _ hrun hP hD hK hS (lv_sub hl [1, 2, 4, 5] rfl)
                · refine lv_if_ne (tgt := 91) hx hb dX2_spreadLife_79 (by decide) (fun _ => ?_) (fun c => absurd c hc12)
                  exact J91 _ _ _ hrun hP hD hK hS (lv_sub hl [1, 2, 4, 5] rfl)
          obtain ⟨o46, hc46, hrun⟩ := bnd9 hrun
          refine L46 NF 0 ((p1w 0 0) - 1) p0l_26 o46 _ _ _ hc46 hP hD hK hS (lv_sub hl [2, 3, 1, 4, 0] rfl) ?_
          intro H locs ls hP hD hK hS hl
          have hl := hl
          refine lv_iinc (v := (v3_26 + 1)) (lv' := [(3, .int (v3_26 + 1)), (0, .ref (p0a 0)), (1, .ref (p1a 0)), (2, .int (o46.1))]) hx hb dX2_spreadLife_103 hl (k := 3) rfl rfl (by decide) rfl (fun ls hl => ?_)
          refine lv_goto (tgt := 26) hx hb dX2_spreadLife_106 (by decide) ?_
          exact IH26 (o46.1) (v3_26 + 1) (o46.2) o26 _ _ _ hrun hP hD hK hS (lv_sub hl [1, 2, 3, 0] rfl) hk26
  obtain ⟨o26, hc26, hrun⟩ := bnd9 hrun
  refine L26 NF 1 0 l2 o26 _ _ _ hc26 hP hD hK hS (lv_sub hl [2, 3, 1, 0] rfl) ?_
  intro H locs ls hP hD hK hS hl
  have hl := hl
  have ho9 : o26 = o := Option.some.inj hrun
  have hP9 : va_P (dC, dI) cls (List.flatten ([(oX2 (p0a 0) p0a p0k p0n p0w o), (oX1 (p1a 0) p1a p1k p1n p1w p1l)] : List va_W)) H := by first | exact hP | (rw [← ho9]; exact hP)
  have hD9 : va_D A (List.flatten ([(oX2 (p0a 0) p0a p0k p0n p0w o), (oX1 (p1a 0) p1a p1k p1n p1w p1l)] : List va_W)) := by first | exact hD | (rw [← ho9]; exact hD)
  subst hQ
  exact W.vret hx hb hr (fun t ht hW => ⟨⟨(), rfl, trivial, ⟨by rw [ht]; exact hP9, va_K.moved hW.alike hK, hD9⟩⟩, hS.F ht⟩) hS.2.2 dX2_spreadLife_109
def fX2_addLiveIn_J42 (p0l_42 : SL) : Option SL := some p0l_42
def fX2_addLiveIn_L6 (p0n : Nat → Nat) (p0w : ST) (p1 : Int32) : Nat → Int32 → SL → Option SL
  | 0 => fun _ _ => none
  | n_6 + 1 => fun v2_6 p0l_6 => (if (p0w 0 2) ≤ v2_6 then some p0l_6 else (if ixb v2_6 (p0n 7) = true then (if ixb ((p1 * (p0w 0 2)) + v2_6) (p0n 6) = true then (if ixb v2_6 (p0n 7) = true then (lt9 (upl p0l_6 7 (nn v2_6) ((p0l_6 7 (nn v2_6)) ||| (p0l_6 6 (nn ((p1 * (p0w 0 2)) + v2_6))))) fun (l6 : SL) => ((fX2_addLiveIn_L6 p0n p0w p1 n_6) (v2_6 + 1) l6)) else none) else none) else none))
def fX2_addLiveIn (p0n : Nat → Nat) (p0w : ST) (p0l : SL) (p1 : Int32) : Option SL := (if p1 < 0 then (fX2_addLiveIn_J42 p0l) else ((fX2_addLiveIn_L6 p0n p0w p1 NF 0 p0l).bind fun (o6 : SL) => (fX2_addLiveIn_J42 o6)))
set_option maxHeartbeats 16000000 in
set_option maxRecDepth 100000 in
theorem kX2_addLiveIn {zs : ZS} (l : Launch) (dC : Nat → ClassId) (dI : Nat → Nat → Nat) (p0a : Nat → Nat) (p0k : Nat → ClassId) (p0n : Nat → Nat) (p0w : ST) (p0l : SL) (p1 : Int32) (sz : Nat) (o : SL) (hrun : fX2_addLiveIn p0n p0w p0l p1 = some o) : Met l yX2_addLiveIn (wz yX2_addLiveIn cX2_addLiveIn 3 (Option.none : Option Jvm.ClassFile.FieldType)) ({ frames := 0, cells := 0, slots := 0, locals := 0 } : Room) (va_Pc [.ref (p0a 0), .int p1] (PRE zs dC dI (List.flatten ([(oX2 (p0a 0) p0a p0k p0n p0w p0l)] : List va_W)) (List.flatten ([(tX2 p0k)] : List (List (ClassId × FieldType)))) sz)) (va_Qv (fun (_ : Unit) => True) (fun _ t => POST dC dI (List.flatten ([(oX2 (p0a 0) p0a p0k p0n p0w o)] : List va_W)) (List.flatten ([(tX2 p0k)] : List (List (ClassId × FieldType)))) (va_A (List.flatten ([(oX2 (p0a 0) p0a p0k p0n p0w p0l)] : List va_W)) sz) t) (va_A (List.flatten ([(oX2 (p0a 0) p0a p0k p0n p0w p0l)] : List va_W)) sz)) 0 0 (va_A (List.flatten ([(oX2 (p0a 0) p0a p0k p0n p0w p0l)] : List va_W)) sz) := by
  refine Met.ofW (cc := cX2_addLiveIn) (maxL := 3) (ret := (Option.none : Option Jvm.ClassFile.FieldType)) (by decide) rfl ?_
  intro p e s m args below meth c s₁ B hml hv
  obtain ⟨rfl, hsz, hP, hK, hD0, hE⟩ := hv
  have hx := B.exec
  have hb := B.bytes
  have hr := B.returns
  have hts0 := atoms_spec (ws := wz yX2_addLiveIn cX2_addLiveIn 3 (Option.none : Option Jvm.ClassFile.FieldType)) B.pre
  have hts : ∀ w ∈ gw, w.before _ s = true := fun w h => hts0 w (List.mem_cons_of_mem _ h)
  have hown : s.vm.findClass RX2 = some m.cls := findClass_of_methodNamed B.named
  have hlocks := B.notSynchronized
  subst hsz
  have hD := hD0.self (sz := s.heap.size)
  refine gQ9 ?_
  intro Q hQ
  generalize hAe : va_A (List.flatten ([(oX2 (p0a 0) p0a p0k p0n p0w p0l)] : List va_W)) s.heap.size = A at hD hE hQ
  have hA : ∀ q : Nat, s.heap.size ≤ q → A q := fun q h => by rw [← hAe]; exact Or.inr h
  have hS : va_S A s.heap s.heap [] := va_S.rf
  have hP : va_P (dC, dI) cls (List.flatten ([(oX2 (p0a 0) p0a p0k p0n p0w p0l)] : List va_W)) s.heap := hP
  have hl := lv_entry ([.ref (p0a 0), .int p1]) (n := 3) (Nat.le_of_ble_eq_true rfl)
  rw [lg_entry_eq]
  generalize (lg_sl ([.ref (p0a 0), .int p1]) ++ List.replicate (3 - (lg_sl ([.ref (p0a 0), .int p1])).length) Slot.unset).toArray = ls at hl ⊢
  have hl : lv_has ls 3 [(0, .ref (p0a 0)), (1, .int p1)] := hl
  obtain ⟨H, hHe⟩ : ∃ H, H = s.heap := ⟨_, rfl⟩
  obtain ⟨locs, hle⟩ : ∃ locs : List Loc, locs = [] := ⟨_, rfl⟩
  rw [← hHe] at hP
  have hS : va_S A s.heap H locs := by rw [hHe, hle]; exact hS
  show W p l e ({ frames := 0, cells := 0, slots := 0, locals := 0 } : Room) s m ([.ref (p0a 0), .int p1] : List Value).toArray below meth c s.heap [] 0 0 Q (F0 m 0 ls [])
  rw [← hle]
  refine wH9 hHe ?_
  unfold fX2_addLiveIn at hrun
  refine lv_iload_n hx hb dX2_addLiveIn_0 rfl (lv_at hl 1 rfl) ?_
  have J42 : ∀ (p0l_42 : SL) (H : Heap) (locs : List Loc) (ls : Array Slot), (fX2_addLiveIn_J42 p0l_42) = some o → va_P (dC, dI) cls (List.flatten ([(oX2 (p0a 0) p0a p0k p0n p0w p0l_42)] : List va_W)) H → va_D A (List.flatten ([(oX2 (p0a 0) p0a p0k p0n p0w p0l_42)] : List va_W)) → va_K (dC, dI) cls (List.flatten ([(tX2 p0k)] : List (List (ClassId × FieldType)))) s → va_S A s.heap H locs → lv_has ls 3 [] → W p l e ({ frames := 0, cells := 0, slots := 0, locals := 0 } : Room) s m ([.ref (p0a 0), .int p1] : List Value).toArray below meth c H locs 0 0 Q (F0 m 42 ls []) := by
    intro p0l_42 H locs ls hrun hP hD hK hS hl 
    unfold fX2_addLiveIn_J42 at hrun
    have ho9 : p0l_42 = o := Option.some.inj hrun
    have hP9 : va_P (dC, dI) cls (List.flatten ([(oX2 (p0a 0) p0a p0k p0n p0w o)] : List va_W)) H := by first | exact hP | (rw [← ho9]; exact hP)
    have hD9 : va_D A (List.flatten ([(oX2 (p0a 0) p0a p0k p0n p0w o)] : List va_W)) := by first | exact hD | (rw [← ho9]; exact hD)
    subst hQ
    exact W.vret hx hb hr (fun t ht hW => ⟨⟨(), rfl, trivial, ⟨by rw [ht]; exact hP9, va_K.moved hW.alike hK, hD9⟩⟩, hS.F ht⟩) hS.2.2 dX2_addLiveIn_42
  rcases br9 hrun with ⟨hc1, hrun⟩ | ⟨hc1, hrun⟩
  · refine lv_if_lt (tgt := 42) hx hb dX2_addLiveIn_1 (by decide) (fun _ => ?_) (fun c => absurd hc1 c)
    exact J42 p0l _ _ _ hrun hP hD hK hS (lv_sub hl [] rfl)
  · refine lv_if_lt (tgt := 42) hx hb dX2_addLiveIn_1 (by decide) (fun c => absurd c hc1) (fun _ => ?_)
    refine lv_iconst (v := 0) hx hb dX2_addLiveIn_4 (by decide) ?_
    refine lv_istore_n (lv' := [(2, .int 0), (0, .ref (p0a 0)), (1, .int p1)]) hx hb dX2_addLiveIn_5 rfl hl (by decide) rfl (fun ls hl => ?_)
    have L6 : ∀ (n_6 : Nat) (v2_6 : Int32) (p0l_6 : SL) (o6 : SL) (H : Heap) (locs : List Loc) (ls : Array Slot), (fX2_addLiveIn_L6 p0n p0w p1 n_6) v2_6 p0l_6 = some o6 → va_P (dC, dI) cls (List.flatten ([(oX2 (p0a 0) p0a p0k p0n p0w p0l_6)] : List va_W)) H → va_D A (List.flatten ([(oX2 (p0a 0) p0a p0k p0n p0w p0l_6)] : List va_W)) → va_K (dC, dI) cls (List.flatten ([(tX2 p0k)] : List (List (ClassId × FieldType)))) s → va_S A s.heap H locs → lv_has ls 3 [(0, .ref (p0a 0)), (1, .int p1), (2, .int v2_6)] → (∀ (H : Heap) (locs : List Loc) (ls : Array Slot), va_P (dC, dI) cls (List.flatten ([(oX2 (p0a 0) p0a p0k p0n p0w o6)] : List va_W)) H → va_D A (List.flatten ([(oX2 (p0a 0) p0a p0k p0n p0w o6)] : List va_W)) → va_K (dC, dI) cls (List.flatten ([(tX2 p0k)] : List (List (ClassId × FieldType)))) s → va_S A s.heap H locs → lv_has ls 3 [] → W p l e ({ frames := 0, cells := 0, slots := 0, locals := 0 } : Room) s m ([.ref (p0a 0), .int p1] : List Value).toArray below meth c H locs 0 0 Q (F0 m 42 ls [])) → W p l e ({ frames := 0, cells := 0, slots := 0, locals := 0 } : Room) s m ([.ref (p0a 0), .int p1] : List Value).toArray below meth c H locs 0 0 Q (F0 m 6 ls []) := by
      intro n_6
      induction n_6 with
      | zero => intro v2_6 p0l_6 o6 H locs ls hrun; exact (no9 rfl hrun).elim
      | succ n_6 IH6 =>
        intro v2_6 p0l_6 o6 H locs ls hrun hP hD hK hS hl hk6
        unfold fX2_addLiveIn_L6 at hrun
        refine lv_iload_n hx hb dX2_addLiveIn_6 rfl (lv_at hl 2 rfl) ?_
        refine lv_aload_n hx hb dX2_addLiveIn_7 rfl (lv_at hl 0 rfl) ?_
        refine va_get (D := (dC, dI)) (ci := 9) (v := .int (p0w 0 2)) (C := RX2) (T := TX2) (N := 19) hx hb hts i_X2 hown hK hP 0 rfl rfl 2 (by decide) (hts _ qw669) (fun _ h9 => h9) rfl dX2_addLiveIn_8 ?_
        rcases br9 hrun with ⟨hc2, hrun⟩ | ⟨hc2, hrun⟩
        · refine lv_icmp_ge (tgt := 42) hx hb dX2_addLiveIn_11 (by decide) (fun _ => ?_) (fun c => absurd hc2 c)
          obtain rfl := (Option.some.inj hrun)
          exact hk6 _ _ _ hP hD hK hS (lv_sub hl [] rfl)
        · refine lv_icmp_ge (tgt := 42) hx hb dX2_addLiveIn_11 (by decide) (fun c => absurd c hc2) (fun _ => ?_)
          refine lv_aload_n hx hb dX2_addLiveIn_14 rfl (lv_at hl 0 rfl) ?_
          refine va_get (D := (dC, dI)) (ci := 9) (v := .ref (p0a 7)) (C := RX2) (T := TX2) (N := 19) hx hb hts i_X2 hown hK hP 0 rfl rfl 6 (by decide) (hts _ qw680) (fun _ h9 => h9) rfl dX2_addLiveIn_15 ?_
          refine lv_iload_n hx hb dX2_addLiveIn_18 rfl (lv_at hl 2 rfl) ?_
          refine lv_dup2_11 hx hb dX2_addLiveIn_19 rfl rfl ?_
          obtain ⟨hq3, hrun⟩ := chk9 hrun
          refine va_lald hx hb hK hP 4 3 rfl rfl (ixb_in hq3) dX2_addLiveIn_20 ?_
          refine lv_aload_n hx hb dX2_addLiveIn_21 rfl (lv_at hl 0 rfl) ?_
          refine va_get (D := (dC, dI)) (ci := 9) (v := .ref (p0a 6)) (C := RX2) (T := TX2) (N := 19) hx hb hts i_X2 hown hK hP 0 rfl rfl 5 (by decide) (hts _ qw679) (fun _ h9 => h9) rfl dX2_addLiveIn_22 ?_
          refine lv_iload_n hx hb dX2_addLiveIn_25 rfl (lv_at hl 1 rfl) ?_
          refine lv_aload_n hx hb dX2_addLiveIn_26 rfl (lv_at hl 0 rfl) ?_
          refine va_get (D := (dC, dI)) (ci := 9) (v := .int (p0w 0 2)) (C := RX2) (T := TX2) (N := 19) hx hb hts i_X2 hown hK hP 0 rfl rfl 2 (by decide) (hts _ qw669) (fun _ h9 => h9) rfl dX2_addLiveIn_27 ?_
          refine lv_imul hx hb dX2_addLiveIn_30 ?_
          refine lv_iload_n hx hb dX2_addLiveIn_31 rfl (lv_at hl 2 rfl) ?_
          refine lv_iadd hx hb dX2_addLiveIn_32 ?_
          obtain ⟨hq4, hrun⟩ := chk9 hrun
          refine va_lald hx hb hK hP 3 2 rfl rfl (ixb_in hq4) dX2_addLiveIn_33 ?_
          refine lv_lor hx hb dX2_addLiveIn_34 ?_
          obtain ⟨hq5, hrun⟩ := chk9 hrun
          refine va_last hx hb hK hP hD hS 4 3 rfl rfl (ixb_in hq5) dX2_addLiveIn_35 (fun H locs hP hD hS => ?_)
          have hP : va_P (dC, dI) cls (List.flatten ([(oX2 (p0a 0) p0a p0k p0n p0w (upl p0l_6 7 (nn v2_6) ((p0l_6 7 (nn v2_6)) ||| (p0l_6 6 (nn ((p1 * (p0w 0 2)) + v2_6))))))] : List va_W)) H := hP
          have hD : va_D A (List.flatten ([(oX2 (p0a 0) p0a p0k p0n p0w (upl p0l_6 7 (nn v2_6) ((p0l_6 7 (nn v2_6)) ||| (p0l_6 6 (nn ((p1 * (p0w 0 2)) + v2_6))))))] : List va_W)) := hD
          obtain ⟨l6, el6, hrun⟩ := let9 hrun
          rw [← el6] at hP hD
          refine lv_iinc (v := (v2_6 + 1)) (lv' := [(2, .int (v2_6 + 1)), (0, .ref (p0a 0)), (1, .int p1)]) hx hb dX2_addLiveIn_36 hl (k := 2) rfl rfl (by decide) rfl (fun ls hl => ?_)
          refine lv_goto (tgt := 6) hx hb dX2_addLiveIn_39 (by decide) ?_
          exact IH6 (v2_6 + 1) l6 o6 _ _ _ hrun hP hD hK hS (lv_sub hl [1, 2, 0] rfl) hk6
    obtain ⟨o6, hc6, hrun⟩ := bnd9 hrun
    refine L6 NF 0 p0l o6 _ _ _ hc6 hP hD hK hS (lv_sub hl [1, 2, 0] rfl) ?_
    intro H locs ls hP hD hK hS hl
    have hl := hl
    exact J42 o6 _ _ _ hrun hP hD hK hS (lv_sub hl [] rfl)
def fX2_listSteps_G29_8 (kk10 : Int32 → Int32 → ST → (Nat → Nat) → Option (Int32 × ST × (Nat → Nat))) (p1_2n : Nat → Nat) (p1_2w : ST) (v3_10 : Int32) (v4_10 : Int32) (n4 : Nat → Nat) (w5 : ST) : Option (Int32 × ST × (Nat → Nat)) := (if ixb v3_10 (n4 10) = true then (lt9 (upw w5 10 (nn v3_10) v4_10) fun (w10 : ST) => (if ixb v4_10 (p1_2n 6) = true then (kk10 (v3_10 + 1) (p1_2w 6 (nn v4_10)) w10 n4) else none)) else none)
theorem mo_fX2_listSteps_G29_8 {kk10 : Int32 → Int32 → ST → (Nat → Nat) → Option (Int32 × ST × (Nat → Nat))} {p1_2n : Nat → Nat} {p1_2w : ST} {v3_10 : Int32} {v4_10 : Int32} {n4 : Nat → Nat} {w5 : ST} {o9q : Int32 × ST × (Nat → Nat)} (hkk : ∀ (v3_10q : Int32) (v4_10q : Int32) (p0w_10q : ST) (p0n_10q : Nat → Nat) (r9 : Int32 × ST × (Nat → Nat)), kk10 v3_10q v4_10q p0w_10q p0n_10q = some r9 → glX2 p0n_10q (r9.2.2)) (hrun : fX2_listSteps_G29_8 kk10 p1_2n p1_2w v3_10 v4_10 n4 w5 = some o9q) : glX2 n4 (o9q.2.2) := by
  unfold fX2_listSteps_G29_8 at hrun
  obtain ⟨hq9, hrun⟩ := chk9 hrun
  obtain ⟨w10, ew10, hrun⟩ := let9 hrun
  obtain ⟨hq11, hrun⟩ := chk9 hrun
  exact (hkk _ _ _ _ _ hrun)
def fX2_listSteps_L10 (p1_2n : Nat → Nat) (p1_2w : ST) : Nat → Int32 → Int32 → ST → (Nat → Nat) → Option (Int32 × ST × (Nat → Nat))
  | 0 => fun _ _ _ _ => none
  | n_10 + 1 => fun v3_10 v4_10 p0w_10 p0n_10 => (if v4_10 < 0 then some (v3_10, p0w_10, p0n_10) else ((fX11_atLeast (p0n_10 10) (p0w_10 10) (v3_10 + 1)).bind fun (o_3 : Nat × RI) => (lt9 (stn p0n_10 10 (o_3.1)) fun (n4 : Nat → Nat) => (lt9 (srw p0w_10 10 (o_3.2)) fun (w5 : ST) => (fX2_listSteps_G29_8 (fX2_listSteps_L10 p1_2n p1_2w n_10) p1_2n p1_2w v3_10 v4_10 n4 w5)))))
theorem mo_fX2_listSteps_L10 {p1_2n : Nat → Nat} {p1_2w : ST} : ∀ (n_10 : Nat) (v3_10 : Int32) (v4_10 : Int32) (p0w_10 : ST) (p0n_10 : Nat → Nat) (o9q : Int32 × ST × (Nat → Nat)), (fX2_listSteps_L10 p1_2n p1_2w n_10) v3_10 v4_10 p0w_10 p0n_10 = some o9q → glX2 p0n_10 (o9q.2.2) := by
  intro n_10
  induction n_10 with
  | zero => intro v3_10 v4_10 p0w_10 p0n_10 o9q hrun; exact (no9 rfl hrun).elim
  | succ n_10 ih9 =>
    intro v3_10 v4_10 p0w_10 p0n_10 o9q hrun
    unfold fX2_listSteps_L10 at hrun
    rcases br9 hrun with ⟨hc2, hrun⟩ | ⟨hc2, hrun⟩
    · skip
      obtain rfl := (Option.some.inj hrun)
      exact (glX2_rf _)
    · skip
      obtain ⟨o_3, hc_3, hrun⟩ := bnd9 hrun
      obtain ⟨n4, en4, hrun⟩ := let9 hrun
      obtain ⟨w5, ew5, hrun⟩ := let9 hrun
      skip
      exact (glX2_tr (by rw [en4]; exact glX2_10 (mo_fX11_atLeast hc_3) : glX2 p0n_10 n4) (mo_fX2_listSteps_G29_8 ih9 hrun))
def fX2_listSteps_G55_12 (o10 : Int32 × ST × (Nat → Nat)) : Option (Int32 × ST × (Nat → Nat)) := some ((o10.1), (o10.2.1), (o10.2.2))
theorem mo_fX2_listSteps_G55_12 {o10 : Int32 × ST × (Nat → Nat)} {o9q : Int32 × ST × (Nat → Nat)} (hrun : fX2_listSteps_G55_12 o10 = some o9q) : glX2 (o10.2.2) (o9q.2.2) := by
  unfold fX2_listSteps_G55_12 at hrun
  obtain rfl := (Option.some.inj hrun)
  exact (glX2_rf _)
def fX2_listSteps (p0n : Nat → Nat) (p0w : ST) (p1w : ST) (p2 : Int32) (p1_2n : Nat → Nat) (p1_2w : ST) : Option (Int32 × ST × (Nat → Nat)) := (if ixb p2 60 = true then ((fX2_listSteps_L10 p1_2n p1_2w NF 0 (p1w 4 (nn p2)) p0w p0n).bind fun (o10 : Int32 × ST × (Nat → Nat)) => (fX2_listSteps_G55_12 o10)) else none)
theorem mo_fX2_listSteps {p0n : Nat → Nat} {p0w : ST} {p1w : ST} {p2 : Int32} {p1_2n : Nat → Nat} {p1_2w : ST} {o9q : Int32 × ST × (Nat → Nat)} (hrun : fX2_listSteps p0n p0w p1w p2 p1_2n p1_2w = some o9q) : glX2 p0n (o9q.2.2) := by
  unfold fX2_listSteps at hrun
  obtain ⟨hq1, hrun⟩ := chk9 hrun
  obtain ⟨o10, hc10, hrun⟩ := bnd9 hrun
  exact (glX2_tr (mo_fX2_listSteps_L10 _ _ _ _ _ _ hc10) (mo_fX2_listSteps_G55_12 hrun))
set_option maxHeartbeats 16000000 in
set_option maxRecDepth 100000 in
theorem kX2_listSteps {zs : ZS} (l : Launch) (dC : Nat → ClassId) (dI : Nat → Nat → Nat) (p0a : Nat → Nat) (p0k : Nat → ClassId) (p0n : Nat → Nat) (p0w : ST) (p0l : SL) (p1a : Nat → Nat) (p1k : Nat → ClassId) (p1n : Nat → Nat) (p1w : ST) (p1l : SL) (p2 : Int32) (p1_2a : Nat → Nat) (p1_2k : Nat → ClassId) (p1_2n : Nat → Nat) (p1_2w : ST) (sz : Nat) (o : Int32 × ST × (Nat → Nat)) (hrun : fX2_listSteps p0n p0w p1w p2 p1_2n p1_2w = some o) : Met l yX2_listSteps (wz yX2_listSteps cX2_listSteps 5 (Option.some Jvm.ClassFile.FieldType.int)) ({ frames := 3, cells := (hcX2 p0n (o.2.2)), slots := (3 * (gcX2 p0n (o.2.2))), locals := 83 } : Room) (va_Pc [.ref (p0a 0), .ref (p1a 0), .int p2] (PRE zs dC dI (List.flatten ([(oX2 (p0a 0) p0a p0k p0n p0w p0l), (oX1 (p1a 0) p1a p1k p1n p1w p1l), (oX9 (p1a 3) p1_2a p1_2k p1_2n p1_2w)] : List va_W)) (List.flatten ([(tX2 p0k), (tX1 p1k), (tX9 p1_2k)] : List (List (ClassId × FieldType)))) sz)) (va_Qi (fun (r : Int32) (_ : Unit) => r = (o.1)) (fun _ t => ∃ (xp0_3_z : Nat), ∃ (zp0_3_z : ClassId), ∃ (xp0_4_z : Nat), ∃ (zp0_4_z : ClassId), ∃ (xp0_5_z : Nat), ∃ (zp0_5_z : ClassId), ∃ (xp0_6_z : Nat), ∃ (zp0_6_z : ClassId), ∃ (xp0_9_z : Nat), ∃ (zp0_9_z : ClassId), ∃ (xp0_10_z : Nat), ∃ (zp0_10_z : ClassId), ∃ (xp0_11_z : Nat), ∃ (zp0_11_z : ClassId), ∃ (xp0_12_z : Nat), ∃ (zp0_12_z : ClassId), ∃ (xp0_13_z : Nat), ∃ (zp0_13_z : ClassId), ∃ (xp0_14_z : Nat), ∃ (zp0_14_z : ClassId), ∃ (xp0_15_z : Nat), ∃ (zp0_15_z : ClassId), ∃ (xp0_16_z : Nat), ∃ (zp0_16_z : ClassId), ∃ (xp0_17_z : Nat), ∃ (zp0_17_z : ClassId), ∃ (xp0_18_z : Nat), ∃ (zp0_18_z : ClassId), POST dC dI (List.flatten ([(oX2 (p0a 0) (st1 (st1 (st1 (st1 (st1 (st1 (st1 (st1 (st1 (st1 (st1 (st1 (st1 (st1 p0a 4 xp0_3_z) 5 xp0_4_z) 6 xp0_5_z) 7 xp0_6_z) 10 xp0_9_z) 11 xp0_10_z) 12 xp0_11_z) 13 xp0_12_z) 14 xp0_13_z) 15 xp0_14_z) 16 xp0_15_z) 17 xp0_16_z) 18 xp0_17_z) 19 xp0_18_z) (st1 (st1 (st1 (st1 (st1 (st1 (st1 (st1 (st1 (st1 (st1 (st1 (st1 (st1 p0k 4 zp0_3_z) 5 zp0_4_z) 6 zp0_5_z) 7 zp0_6_z) 10 zp0_9_z) 11 zp0_10_z) 12 zp0_11_z) 13 zp0_12_z) 14 zp0_13_z) 15 zp0_14_z) 16 zp0_15_z) 17 zp0_16_z) 18 zp0_17_z) 19 zp0_18_z) (o.2.2) (o.2.1) p0l), (oX1 (p1a 0) p1a p1k p1n p1w p1l), (oX9 (p1a 3) p1_2a p1_2k p1_2n p1_2w)] : List va_W)) (List.flatten ([(tX2 (st1 (st1 (st1 (st1 (st1 (st1 (st1 (st1 (st1 (st1 (st1 (st1 (st1 (st1 p0k 4 zp0_3_z) 5 zp0_4_z) 6 zp0_5_z) 7 zp0_6_z) 10 zp0_9_z) 11 zp0_10_z) 12 zp0_11_z) 13 zp0_12_z) 14 zp0_13_z) 15 zp0_14_z) 16 zp0_15_z) 17 zp0_16_z) 18 zp0_17_z) 19 zp0_18_z)), (tX1 p1k), (tX9 p1_2k)] : List (List (ClassId × FieldType)))) (va_A (List.flatten ([(oX2 (p0a 0) p0a p0k p0n p0w p0l), (oX1 (p1a 0) p1a p1k p1n p1w p1l), (oX9 (p1a 3) p1_2a p1_2k p1_2n p1_2w)] : List va_W)) sz) t) (va_A (List.flatten ([(oX2 (p0a 0) p0a p0k p0n p0w p0l), (oX1 (p1a 0) p1a p1k p1n p1w p1l), (oX9 (p1a 3) p1_2a p1_2k p1_2n p1_2w)] : List va_W)) sz)) (hcX2 p0n (o.2.2)) (3 * (gcX2 p0n (o.2.2))) (va_A (List.flatten ([(oX2 (p0a 0) p0a p0k p0n p0w p0l), (oX1 (p1a 0) p1a p1k p1n p1w p1l), (oX9 (p1a 3) p1_2a p1_2k p1_2n p1_2w)] : List va_W)) sz) := by
  refine Met.ofW (cc := cX2_listSteps) (maxL := 5) (ret := (Option.some Jvm.ClassFile.FieldType.int)) (by decide) rfl ?_
  intro p e s m args below meth c s₁ B hml hv
  obtain ⟨rfl, hsz, hP, hK, hD0, hE⟩ := hv
  have hx := B.exec
  have hb := B.bytes
  have hr := B.returns
  have hts0 := atoms_spec (ws := wz yX2_listSteps cX2_listSteps 5 (Option.some Jvm.ClassFile.FieldType.int)) B.pre
  have hts : ∀ w ∈ gw, w.before _ s = true := fun w h => hts0 w (List.mem_cons_of_mem _ h)
  have hown : s.vm.findClass RX2 = some m.cls := findClass_of_methodNamed B.named
  have hlocks := B.notSynchronized
  subst hsz
  have hD := hD0.self (sz := s.heap.size)
  refine gQ9 ?_
  intro Q hQ
  generalize hAe : va_A (List.flatten ([(oX2 (p0a 0) p0a p0k p0n p0w p0l), (oX1 (p1a 0) p1a p1k p1n p1w p1l), (oX9 (p1a 3) p1_2a p1_2k p1_2n p1_2w)] : List va_W)) s.heap.size = A at hD hE hQ
  have hA : ∀ q : Nat, s.heap.size ≤ q → A q := fun q h => by rw [← hAe]; exact Or.inr h
  have hS : va_S A s.heap s.heap [] := va_S.rf
  have hP : va_P (dC, dI) cls (List.flatten ([(oX2 (p0a 0) p0a p0k p0n p0w p0l), (oX1 (p1a 0) p1a p1k p1n p1w p1l), (oX9 (p1a 3) p1_2a p1_2k p1_2n p1_2w)] : List va_W)) s.heap := hP
  have hl := lv_entry ([.ref (p0a 0), .ref (p1a 0), .int p2]) (n := 5) (Nat.le_of_ble_eq_true rfl)
  rw [lg_entry_eq]
  generalize (lg_sl ([.ref (p0a 0), .ref (p1a 0), .int p2]) ++ List.replicate (5 - (lg_sl ([.ref (p0a 0), .ref (p1a 0), .int p2])).length) Slot.unset).toArray = ls at hl ⊢
  have hl : lv_has ls 5 [(0, .ref (p0a 0)), (1, .ref (p1a 0)), (2, .int p2)] := hl
  obtain ⟨H, hHe⟩ : ∃ H, H = s.heap := ⟨_, rfl⟩
  obtain ⟨locs, hle⟩ : ∃ locs : List Loc, locs = [] := ⟨_, rfl⟩
  rw [← hHe] at hP
  have hS : va_S A s.heap H locs := by rw [hHe, hle]; exact hS
  show W p l e ({ frames := 3, cells := (hcX2 p0n (o.2.2)), slots := (3 * (gcX2 p0n (o.2.2))), locals := 83 } : Room) s m ([.ref (p0a 0), .ref (p1a 0), .int p2] : List Value).toArray below meth c s.heap [] 0 0 Q (F0 m 0 ls [])
  rw [← hle]
  refine wH9 hHe ?_
  have hg_p0 := glX2_rf p0n
  have hgn_p0 : glX2 p0n (o.2.2) := (mo_fX2_listSteps hrun)
  refine W.widen (k := (hcX2 p0n p0n)) (n := (3 * (gcX2 p0n p0n))) (Nat.zero_le _) (Nat.zero_le _) ?_
  unfold fX2_listSteps at hrun
  refine lv_iconst (v := 0) hx hb dX2_listSteps_0 (by decide) ?_
  refine lv_istore_n (lv' := [(3, .int 0), (0, .ref (p0a 0)), (1, .ref (p1a 0)), (2, .int p2)]) hx hb dX2_listSteps_1 rfl hl (by decide) rfl (fun ls hl => ?_)
  refine lv_aload_n hx hb dX2_listSteps_2 rfl (lv_at hl 2 rfl) ?_
  refine va_get (D := (dC, dI)) (ci := 4) (v := .ref (p1a 4)) (C := RX1) (T := TX1) (N := 21) hx hb hts i_X1 hown hK hP 16 rfl rfl 3 (by decide) (hts _ qw699) (fun _ h9 => h9) rfl dX2_listSteps_3 ?_
  refine lv_iload_n hx hb dX2_listSteps_6 rfl (lv_at hl 3 rfl) ?_
  obtain ⟨hq1, hrun⟩ := chk9 hrun
  refine va_iald hx hb hK hP 17 15 rfl rfl (ixb_in hq1) dX2_listSteps_7 ?_
  refine lv_istore (lv' := [(4, .int (p1w 4 (nn p2))), (3, .int 0), (0, .ref (p0a 0)), (1, .ref (p1a 0)), (2, .int p2)]) hx hb dX2_listSteps_8 hl (by decide) rfl (fun ls hl => ?_)
  obtain ⟨o10, hc10, hrun⟩ := bnd9 hrun
  have hgn_p0 : glX2 (o10.2.2) (o.2.2) := (mo_fX2_listSteps_G55_12 hrun)
  have L10 : ∀ (n_10 : Nat) (v3_10 : Int32) (v4_10 : Int32) (p0w_10 : ST) (p0n_10 : Nat → Nat) (xp0_3_10 : Nat) (zp0_3_10 : ClassId) (xp0_4_10 : Nat) (zp0_4_10 : ClassId) (xp0_5_10 : Nat) (zp0_5_10 : ClassId) (xp0_6_10 : Nat) (zp0_6_10 : ClassId) (xp0_9_10 : Nat) (zp0_9_10 : ClassId) (xp0_10_10 : Nat) (zp0_10_10 : ClassId) (xp0_11_10 : Nat) (zp0_11_10 : ClassId) (xp0_12_10 : Nat) (zp0_12_10 : ClassId) (xp0_13_10 : Nat) (zp0_13_10 : ClassId) (xp0_14_10 : Nat) (zp0_14_10 : ClassId) (xp0_15_10 : Nat) (zp0_15_10 : ClassId) (xp0_16_10 : Nat) (zp0_16_10 : ClassId) (xp0_17_10 : Nat) (zp0_17_10 : ClassId) (xp0_18_10 : Nat) (zp0_18_10 : ClassId) (o10 : Int32 × ST × (Nat → Nat)) (H : Heap) (locs : List Loc) (ls : Array Slot), (fX2_listSteps_L10 p1_2n p1_2w n_10) v3_10 v4_10 p0w_10 p0n_10 = some o10 → va_P (dC, dI) cls (List.flatten ([(oX2 (p0a 0) (st1 (st1 (st1 (st1 (st1 (st1 (st1 (st1 (st1 (st1 (st1 (st1 (st1 (st1 p0a 4 xp0_3_10) 5 xp0_4_10) 6 xp0_5_10) 7 xp0_6_10) 10 xp0_9_10) 11 xp0_10_10) 12 xp0_11_10) 13 xp0_12_10) 14 xp0_13_10) 15 xp0_14_10) 16 xp0_15_10) 17 xp0_16_10) 18 xp0_17_10) 19 xp0_18_10) (st1 (st1 (st1 (st1 (st1 (st1 (st1 (st1 (st1 (st1 (st1 (st1 (st1 (st1 p0k 4 zp0_3_10) 5 zp0_4_10) 6 zp0_5_10) 7 zp0_6_10) 10 zp0_9_10) 11 zp0_10_10) 12 zp0_11_10) 13 zp0_12_10) 14 zp0_13_10) 15 zp0_14_10) 16 zp0_15_10) 17 zp0_16_10) 18 zp0_17_10) 19 zp0_18_10) p0n_10 p0w_10 p0l), (oX1 (p1a 0) p1a p1k p1n p1w p1l), (oX9 (p1a 3) p1_2a p1_2k p1_2n p1_2w)] : List va_W)) H → va_D A (List.flatten ([(oX2 (p0a 0) (st1 (st1 (st1 (st1 (st1 (st1 (st1 (st1 (st1 (st1 (st1 (st1 (st1 (st1 p0a 4 xp0_3_10) 5 xp0_4_10) 6 xp0_5_10) 7 xp0_6_10) 10 xp0_9_10) 11 xp0_10_10) 12 xp0_11_10) 13 xp0_12_10) 14 xp0_13_10) 15 xp0_14_10) 16 xp0_15_10) 17 xp0_16_10) 18 xp0_17_10) 19 xp0_18_10) (st1 (st1 (st1 (st1 (st1 (st1 (st1 (st1 (st1 (st1 (st1 (st1 (st1 (st1 p0k 4 zp0_3_10) 5 zp0_4_10) 6 zp0_5_10) 7 zp0_6_10) 10 zp0_9_10) 11 zp0_10_10) 12 zp0_11_10) 13 zp0_12_10) 14 zp0_13_10) 15 zp0_14_10) 16 zp0_15_10) 17 zp0_16_10) 18 zp0_17_10) 19 zp0_18_10) p0n_10 p0w_10 p0l), (oX1 (p1a 0) p1a p1k p1n p1w p1l), (oX9 (p1a 3) p1_2a p1_2k p1_2n p1_2w)] : List va_W)) → va_K (dC, dI) cls (List.flatten ([(tX2 (st1 (st1 (st1 (st1 (st1 (st1 (st1 (st1 (st1 (st1 (st1 (st1 (st1 (st1 p0k 4 zp0_3_10) 5 zp0_4_10) 6 zp0_5_10) 7 zp0_6_10) 10 zp0_9_10) 11 zp0_10_10) 12 zp0_11_10) 13 zp0_12_10) 14 zp0_13_10) 15 zp0_14_10) 16 zp0_15_10) 17 zp0_16_10) 18 zp0_17_10) 19 zp0_18_10)), (tX1 p1k), (tX9 p1_2k)] : List (List (ClassId × FieldType)))) s → va_S A s.heap H locs → lv_has ls 5 [(0, .ref (p0a 0)), (1, .ref (p1a 0)), (3, .int v3_10), (4, .int v4_10)] → glX2 p0n p0n_10 → glX2 (o10.2.2) (o.2.2) → (∀ (xp0_3_10x : Nat) (zp0_3_10x : ClassId) (xp0_4_10x : Nat) (zp0_4_10x : ClassId) (xp0_5_10x : Nat) (zp0_5_10x : ClassId) (xp0_6_10x : Nat) (zp0_6_10x : ClassId) (xp0_9_10x : Nat) (zp0_9_10x : ClassId) (xp0_10_10x : Nat) (zp0_10_10x : ClassId) (xp0_11_10x : Nat) (zp0_11_10x : ClassId) (xp0_12_10x : Nat) (zp0_12_10x : ClassId) (xp0_13_10x : Nat) (zp0_13_10x : ClassId) (xp0_14_10x : Nat) (zp0_14_10x : ClassId) (xp0_15_10x : Nat) (zp0_15_10x : ClassId) (xp0_16_10x : Nat) (zp0_16_10x : ClassId) (xp0_17_10x : Nat) (zp0_17_10x : ClassId) (xp0_18_10x : Nat) (zp0_18_10x : ClassId) (H : Heap) (locs : List Loc) (ls : Array Slot), va_P (dC, dI) cls (List.flatten ([(oX2 (p0a 0) (st1 (st1 (st1 (st1 (st1 (st1 (st1 (st1 (st1 (st1 (st1 (st1 (st1 (st1 p0a 4 xp0_3_10x) 5 xp0_4_10x) 6 xp0_5_10x) 7 xp0_6_10x) 10 xp0_9_10x) 11 xp0_10_10x) 12 xp0_11_10x) 13 xp0_12_10x) 14 xp0_13_10x) 15 xp0_14_10x) 16 xp0_15_10x) 17 xp0_16_10x) 18 xp0_17_10x) 19 xp0_18_10x) (st1 (st1 (st1 (st1 (st1 (st1 (st1 (st1 (st1 (st1 (st1 (st1 (st1 (st1 p0k 4 zp0_3_10x) 5 zp0_4_10x) 6 zp0_5_10x) 7 zp0_6_10x) 10 zp0_9_10x) 11 zp0_10_10x) 12 zp0_11_10x) 13 zp0_12_10x) 14 zp0_13_10x) 15 zp0_14_10x) 16 zp0_15_10x) 17 zp0_16_10x) 18 zp0_17_10x) 19 zp0_18_10x) (o10.2.2) (o10.2.1) p0l), (oX1 (p1a 0) p1a p1k p1n p1w p1l), (oX9 (p1a 3) p1_2a p1_2k p1_2n p1_2w)] : List va_W)) H → va_D A (List.flatten ([(oX2 (p0a 0) (st1 (st1 (st1 (st1 (st1 (st1 (st1 (st1 (st1 (st1 (st1 (st1 (st1 (st1 p0a 4 xp0_3_10x) 5 xp0_4_10x) 6 xp0_5_10x) 7 xp0_6_10x) 10 xp0_9_10x) 11 xp0_10_10x) 12 xp0_11_10x) 13 xp0_12_10x) 14 xp0_13_10x) 15 xp0_14_10x) 16 xp0_15_10x) 17 xp0_16_10x) 18 xp0_17_10x) 19 xp0_18_10x) (st1 (st1 (st1 (st1 (st1 (st1 (st1 (st1 (st1 (st1 (st1 (st1 (st1 (st1 p0k 4 zp0_3_10x) 5 zp0_4_10x) 6 zp0_5_10x) 7 zp0_6_10x) 10 zp0_9_10x) 11 zp0_10_10x) 12 zp0_11_10x) 13 zp0_12_10x) 14 zp0_13_10x) 15 zp0_14_10x) 16 zp0_15_10x) 17 zp0_16_10x) 18 zp0_17_10x) 19 zp0_18_10x) (o10.2.2) (o10.2.1) p0l), (oX1 (p1a 0) p1a p1k p1n p1w p1l), (oX9 (p1a 3) p1_2a p1_2k p1_2n p1_2w)] : List va_W)) → va_K (dC, dI) cls (List.flatten ([(tX2 (st1 (st1 (st1 (st1 (st1 (st1 (st1 (st1 (st1 (st1 (st1 (st1 (st1 (st1 p0k 4 zp0_3_10x) 5 zp0_4_10x) 6 zp0_5_10x) 7 zp0_6_10x) 10 zp0_9_10x) 11 zp0_10_10x) 12 zp0_11_10x) 13 zp0_12_10x) 14 zp0_13_10x) 15 zp0_14_10x) 16 zp0_15_10x) 17 zp0_16_10x) 18 zp0_17_10x) 19 zp0_18_10x)), (tX1 p1k), (tX9 p1_2k)] : List (List (ClassId × FieldType)))) s → va_S A s.heap H locs → lv_has ls 5 [(3, .int (o10.1))] → glX2 p0n (o10.2.2) → W p l e ({ frames := 3, cells := (hcX2 p0n (o.2.2)), slots := (3 * (gcX2 p0n (o.2.2))), locals := 83 } : Room) s m ([.ref (p0a 0), .ref (p1a 0), .int p2] : List Value).toArray below meth c H locs (hcX2 p0n (o10.2.2)) (3 * (gcX2 p0n (o10.2.2))) Q (F0 m 55 ls [])) → W p l e ({ frames := 3, cells := (hcX2 p0n (o.2.2)), slots := (3 * (gcX2 p0n (o.2.2))), locals := 83 } : Room) s m ([.ref (p0a 0), .ref (p1a 0), .int p2] : List Value).toArray below meth c H locs (hcX2 p0n p0n_10) (3 * (gcX2 p0n p0n_10)) Q (F0 m 10 ls []) := by
    intro n_10
    induction n_10 with
    | zero => intro v3_10 v4_10 p0w_10 p0n_10 xp0_3_10 zp0_3_10 xp0_4_10 zp0_4_10 xp0_5_10 zp0_5_10 xp0_6_10 zp0_6_10 xp0_9_10 zp0_9_10 xp0_10_10 zp0_10_10 xp0_11_10 zp0_11_10 xp0_12_10 zp0_12_10 xp0_13_10 zp0_13_10 xp0_14_10 zp0_14_10 xp0_15_10 zp0_15_10 xp0_16_10 zp0_16_10 xp0_17_10 zp0_17_10 xp0_18_10 zp0_18_10 o10 H locs ls hrun; exact (no9 rfl hrun).elim
    | succ n_10 IH10 =>
      intro v3_10 v4_10 p0w_10 p0n_10 xp0_3_10 zp0_3_10 xp0_4_10 zp0_4_10 xp0_5_10 zp0_5_10 xp0_6_10 zp0_6_10 xp0_9_10 zp0_9_10 xp0_10_10 zp0_10_10 xp0_11_10 zp0_11_10 xp0_12_10 zp0_12_10 xp0_13_10 zp0_13_10 xp0_14_10 zp0_14_10 xp0_15_10 zp0_15_10 xp0_16_10 zp0_16_10 xp0_17_10 zp0_17_10 xp0_18_10 zp0_18_10 o10 H locs ls hrun hP hD hK hS hl hg_p0 hgo_p0 hk10
      have hgn_p0 : glX2 p0n_10 (o.2.2) := (glX2_tr (mo_fX2_listSteps_L10 (n_10 + 1) _ _ _ _ _ hrun) hgo_p0)
      unfold fX2_listSteps_L10 at hrun
      refine lv_iload hx hb dX2_listSteps_10 (lv_at hl 3 rfl) ?_
      rcases br9 hrun with ⟨hc2, hrun⟩ | ⟨hc2, hrun⟩
      · refine lv_if_lt (tgt := 55) hx hb dX2_listSteps_12 (by decide) (fun _ => ?_) (fun c => absurd hc2 c)
        obtain rfl := (Option.some.inj hrun)
        exact hk10 xp0_3_10 zp0_3_10 xp0_4_10 zp0_4_10 xp0_5_10 zp0_5_10 xp0_6_10 zp0_6_10 xp0_9_10 zp0_9_10 xp0_10_10 zp0_10_10 xp0_11_10 zp0_11_10 xp0_12_10 zp0_12_10 xp0_13_10 zp0_13_10 xp0_14_10 zp0_14_10 xp0_15_10 zp0_15_10 xp0_16_10 zp0_16_10 xp0_17_10 zp0_17_10 xp0_18_10 zp0_18_10 _ _ _ hP hD hK hS (lv_sub hl [2] rfl) hg_p0
      · refine lv_if_lt (tgt := 55) hx hb dX2_listSteps_12 (by decide) (fun c => absurd c hc2) (fun _ => ?_)
        refine lv_aload_n hx hb dX2_listSteps_15 rfl (lv_at hl 0 rfl) ?_
        refine lv_aload_n hx hb dX2_listSteps_16 rfl (lv_at hl 0 rfl) ?_
        refine va_get (D := (dC, dI)) (ci := 9) (v := .ref xp0_9_10) (C := RX2) (T := TX2) (N := 19) hx hb hts i_X2 hown hK hP 0 rfl rfl 9 (by decide) (hts _ qw742) (fun _ h9 => h9) rfl dX2_listSteps_17 ?_
        refine lv_iload_n hx hb dX2_listSteps_20 rfl (lv_at hl 2 rfl) ?_
        refine lv_iconst (v := 1) hx hb dX2_listSteps_21 (by decide) ?_
        refine lv_iadd hx hb dX2_listSteps_22 ?_
        obtain ⟨o_3, hc_3, hrun⟩ := bnd9 hrun
        obtain ⟨n4, en4, hrun⟩ := let9 hrun
        obtain ⟨w5, ew5, hrun⟩ := let9 hrun
        have hst7 : glX2 p0n_10 n4 := by rw [en4]; exact glX2_10 (mo_fX11_atLeast hc_3)
        have hgn_p0 : glX2 n4 (o.2.2) := (glX2_tr (mo_fX2_listSteps_G29_8 (mo_fX2_listSteps_L10 n_10) hrun) hgo_p0)
        have hP2 : va_P (dC, dI) cls (List.flatten ([[(xp0_9_10, .inl (zp0_9_10, (p0n_10 10), .inl (p0w_10 10)))], [((p0a 0), .inr (9, [.int (p0w_10 0 0), .int (p0w_10 0 1), .int (p0w_10 0 2), .ref xp0_3_10, .ref xp0_4_10, .ref xp0_5_10, .ref xp0_6_10, .ref (p0a 8), .int (p0w_10 0 8), .ref xp0_9_10, .ref xp0_10_10, .ref xp0_11_10, .ref xp0_12_10, .ref xp0_13_10, .ref xp0_14_10, .ref xp0_15_10, .ref xp0_16_10, .ref xp0_17_10, .ref xp0_18_10])), (xp0_3_10, .inl (zp0_3_10, (p0n_10 4), .inr (.inl (p0l 4)))), (xp0_4_10, .inl (zp0_4_10, (p0n_10 5), .inr (.inl (p0l 5)))), (xp0_5_10, .inl (zp0_5_10, (p0n_10 6), .inr (.inl (p0l 6)))), (xp0_6_10, .inl (zp0_6_10, (p0n_10 7), .inr (.inl (p0l 7)))), ((p0a 8), .inl ((p0k 8), 2, .inl (p0w_10 8))), (xp0_10_10, .inl (zp0_10_10, (p0n_10 11), .inr (.inl (p0l 11)))), (xp0_11_10, .inl (zp0_11_10, (p0n_10 12), .inl (p0w_10 12))), (xp0_12_10, .inl (zp0_12_10, (p0n_10 13), .inl (p0w_10 13))), (xp0_13_10, .inl (zp0_13_10, (p0n_10 14), .inr (.inl (p0l 14)))), (xp0_14_10, .inl (zp0_14_10, (p0n_10 15), .inl (p0w_10 15))), (xp0_15_10, .inl (zp0_15_10, (p0n_10 16), .inl (p0w_10 16))), (xp0_16_10, .inl (zp0_16_10, (p0n_10 17), .inl (p0w_10 17))), (xp0_17_10, .inl (zp0_17_10, (p0n_10 18), .inl (p0w_10 18))), (xp0_18_10, .inl (zp0_18_10, (p0n_10 19), .inl (p0w_10 19)))], (oX1 (p1a 0) p1a p1k p1n p1w p1l), (oX9 (p1a 3) p1_2a p1_2k p1_2n p1_2w)] : List va_W)) H := vP_perm hP ((bP (List.Perm.refl _)).trans (List.Perm.append_right _ (List.perm_middle (a := ((xp0_9_10, .inl (zp0_9_10, (p0n_10 10), .inl (p0w_10 10))) : Nat × va_E)) (l₁ := ([((p0a 0), .inr (9, [.int (p0w_10 0 0), .int (p0w_10 0 1), .int (p0w_10 0 2), .ref xp0_3_10, .ref xp0_4_10, .ref xp0_5_10, .ref xp0_6_10, .ref (p0a 8), .int (p0w_10 0 8), .ref xp0_9_10, .ref xp0_10_10, .ref xp0_11_10, .ref xp0_12_10, .ref xp0_13_10, .ref xp0_14_10, .ref xp0_15_10, .ref xp0_16_10, .ref xp0_17_10, .ref xp0_18_10])), (xp0_3_10, .inl (zp0_3_10, (p0n_10 4), .inr (.inl (p0l 4)))), (xp0_4_10, .inl (zp0_4_10, (p0n_10 5), .inr (.inl (p0l 5)))), (xp0_5_10, .inl (zp0_5_10, (p0n_10 6), .inr (.inl (p0l 6)))), (xp0_6_10, .inl (zp0_6_10, (p0n_10 7), .inr (.inl (p0l 7)))), ((p0a 8), .inl ((p0k 8), 2, .inl (p0w_10 8)))] : va_W)) (l₂ := ([(xp0_10_10, .inl (zp0_10_10, (p0n_10 11), .inr (.inl (p0l 11)))), (xp0_11_10, .inl (zp0_11_10, (p0n_10 12), .inl (p0w_10 12))), (xp0_12_10, .inl (zp0_12_10, (p0n_10 13), .inl (p0w_10 13))), (xp0_13_10, .inl (zp0_13_10, (p0n_10 14), .inr (.inl (p0l 14)))), (xp0_14_10, .inl (zp0_14_10, (p0n_10 15), .inl (p0w_10 15))), (xp0_15_10, .inl (zp0_15_10, (p0n_10 16), .inl (p0w_10 16))), (xp0_16_10, .inl (zp0_16_10, (p0n_10 17), .inl (p0w_10 17))), (xp0_17_10, .inl (zp0_17_10, (p0n_10 18), .inl (p0w_10 18))), (xp0_18_10, .inl (zp0_18_10, (p0n_10 19), .inl (p0w_10 19)))] : va_W)))))
        have hD2 : va_D A (List.flatten ([[(xp0_9_10, .inl (zp0_9_10, (p0n_10 10), .inl (p0w_10 10)))], [((p0a 0), .inr (9, [.int (p0w_10 0 0), .int (p0w_10 0 1), .int (p0w_10 0 2), .ref xp0_3_10, .ref xp0_4_10, .ref xp0_5_10, .ref xp0_6_10, .ref (p0a 8), .int (p0w_10 0 8), .ref xp0_9_10, .ref xp0_10_10, .ref xp0_11_10, .ref xp0_12_10, .ref xp0_13_10, .ref xp0_14_10, .ref xp0_15_10, .ref xp0_16_10, .ref xp0_17_10, .ref xp0_18_10])), (xp0_3_10, .inl (zp0_3_10, (p0n_10 4), .inr (.inl (p0l 4)))), (xp0_4_10, .inl (zp0_4_10, (p0n_10 5), .inr (.inl (p0l 5)))), (xp0_5_10, .inl (zp0_5_10, (p0n_10 6), .inr (.inl (p0l 6)))), (xp0_6_10, .inl (zp0_6_10, (p0n_10 7), .inr (.inl (p0l 7)))), ((p0a 8), .inl ((p0k 8), 2, .inl (p0w_10 8))), (xp0_10_10, .inl (zp0_10_10, (p0n_10 11), .inr (.inl (p0l 11)))), (xp0_11_10, .inl (zp0_11_10, (p0n_10 12), .inl (p0w_10 12))), (xp0_12_10, .inl (zp0_12_10, (p0n_10 13), .inl (p0w_10 13))), (xp0_13_10, .inl (zp0_13_10, (p0n_10 14), .inr (.inl (p0l 14)))), (xp0_14_10, .inl (zp0_14_10, (p0n_10 15), .inl (p0w_10 15))), (xp0_15_10, .inl (zp0_15_10, (p0n_10 16), .inl (p0w_10 16))), (xp0_16_10, .inl (zp0_16_10, (p0n_10 17), .inl (p0w_10 17))), (xp0_17_10, .inl (zp0_17_10, (p0n_10 18), .inl (p0w_10 18))), (xp0_18_10, .inl (zp0_18_10, (p0n_10 19), .inl (p0w_10 19)))], (oX1 (p1a 0) p1a p1k p1n p1w p1l), (oX9 (p1a 3) p1_2a p1_2k p1_2n p1_2w)] : List va_W)) := vD_perm hD ((bP (List.Perm.refl _)).trans (List.Perm.append_right _ (List.perm_middle (a := ((xp0_9_10, .inl (zp0_9_10, (p0n_10 10), .inl (p0w_10 10))) : Nat × va_E)) (l₁ := ([((p0a 0), .inr (9, [.int (p0w_10 0 0), .int (p0w_10 0 1), .int (p0w_10 0 2), .ref xp0_3_10, .ref xp0_4_10, .ref xp0_5_10, .ref xp0_6_10, .ref (p0a 8), .int (p0w_10 0 8), .ref xp0_9_10, .ref xp0_10_10, .ref xp0_11_10, .ref xp0_12_10, .ref xp0_13_10, .ref xp0_14_10, .ref xp0_15_10, .ref xp0_16_10, .ref xp0_17_10, .ref xp0_18_10])), (xp0_3_10, .inl (zp0_3_10, (p0n_10 4), .inr (.inl (p0l 4)))), (xp0_4_10, .inl (zp0_4_10, (p0n_10 5), .inr (.inl (p0l 5)))), (xp0_5_10, .inl (zp0_5_10, (p0n_10 6), .inr (.inl (p0l 6)))), (xp0_6_10, .inl (zp0_6_10, (p0n_10 7), .inr (.inl (p0l 7)))), ((p0a 8), .inl ((p0k 8), 2, .inl (p0w_10 8)))] : va_W)) (l₂ := ([(xp0_10_10, .inl (zp0_10_10, (p0n_10 11), .inr (.inl (p0l 11)))), (xp0_11_10, .inl (zp0_11_10, (p0n_10 12), .inl (p0w_10 12))), (xp0_12_10, .inl (zp0_12_10, (p0n_10 13), .inl (p0w_10 13))), (xp0_13_10, .inl (zp0_13_10, (p0n_10 14), .inr (.inl (p0l 14)))), (xp0_14_10, .inl (zp0_14_10, (p0n_10 15), .inl (p0w_10 15))), (xp0_15_10, .inl (zp0_15_10, (p0n_10 16), .inl (p0w_10 16))), (xp0_16_10, .inl (zp0_16_10, (p0n_10 17), .inl (p0w_10 17))), (xp0_17_10, .inl (zp0_17_10, (p0n_10 18), .inl (p0w_10 18))), (xp0_18_10, .inl (zp0_18_10, (p0n_10 19), .inl (p0w_10 19)))] : va_W)))))
        have hK2 : va_K (dC, dI) cls (List.flatten ([[(zp0_9_10, .int)], [(zp0_3_10, .long), (zp0_4_10, .long), (zp0_5_10, .long), (zp0_6_10, .long), ((p0k 8), .int), (zp0_10_10, .long), (zp0_11_10, .int), (zp0_12_10, .int), (zp0_13_10, .long), (zp0_14_10, .int), (zp0_15_10, .int), (zp0_16_10, .int), (zp0_17_10, .int), (zp0_18_10, .int)], (tX1 p1k), (tX9 p1_2k)] : List (List (ClassId × FieldType)))) s := vK_perm hK ((bP (List.Perm.refl _)).trans (List.Perm.append_right _ (List.perm_middle (a := ((zp0_9_10, .int) : ClassId × FieldType)) (l₁ := ([(zp0_3_10, .long), (zp0_4_10, .long), (zp0_5_10, .long), (zp0_6_10, .long), ((p0k 8), .int)] : List (ClassId × FieldType))) (l₂ := ([(zp0_10_10, .long), (zp0_11_10, .int), (zp0_12_10, .int), (zp0_13_10, .long), (zp0_14_10, .int), (zp0_15_10, .int), (zp0_16_10, .int), (zp0_17_10, .int), (zp0_18_10, .int)] : List (ClassId × FieldType))))))
        have hPx : va_P (dC, dI) cls ((List.flatten ([[(xp0_9_10, .inl (zp0_9_10, (p0n_10 10), .inl (p0w_10 10)))]] : List va_W)) ++ (List.flatten ([[((p0a 0), .inr (9, [.int (p0w_10 0 0), .int (p0w_10 0 1), .int (p0w_10 0 2), .ref xp0_3_10, .ref xp0_4_10, .ref xp0_5_10, .ref xp0_6_10, .ref (p0a 8), .int (p0w_10 0 8), .ref xp0_9_10, .ref xp0_10_10, .ref xp0_11_10, .ref xp0_12_10, .ref xp0_13_10, .ref xp0_14_10, .ref xp0_15_10, .ref xp0_16_10, .ref xp0_17_10, .ref xp0_18_10])), (xp0_3_10, .inl (zp0_3_10, (p0n_10 4), .inr (.inl (p0l 4)))), (xp0_4_10, .inl (zp0_4_10, (p0n_10 5), .inr (.inl (p0l 5)))), (xp0_5_10, .inl (zp0_5_10, (p0n_10 6), .inr (.inl (p0l 6)))), (xp0_6_10, .inl (zp0_6_10, (p0n_10 7), .inr (.inl (p0l 7)))), ((p0a 8), .inl ((p0k 8), 2, .inl (p0w_10 8))), (xp0_10_10, .inl (zp0_10_10, (p0n_10 11), .inr (.inl (p0l 11)))), (xp0_11_10, .inl (zp0_11_10, (p0n_10 12), .inl (p0w_10 12))), (xp0_12_10, .inl (zp0_12_10, (p0n_10 13), .inl (p0w_10 13))), (xp0_13_10, .inl (zp0_13_10, (p0n_10 14), .inr (.inl (p0l 14)))), (xp0_14_10, .inl (zp0_14_10, (p0n_10 15), .inl (p0w_10 15))), (xp0_15_10, .inl (zp0_15_10, (p0n_10 16), .inl (p0w_10 16))), (xp0_16_10, .inl (zp0_16_10, (p0n_10 17), .inl (p0w_10 17))), (xp0_17_10, .inl (zp0_17_10, (p0n_10 18), .inl (p0w_10 18))), (xp0_18_10, .inl (zp0_18_10, (p0n_10 19), .inl (p0w_10 19)))], (oX1 (p1a 0) p1a p1k p1n p1w p1l), (oX9 (p1a 3) p1_2a p1_2k p1_2n p1_2w)] : List va_W))) H := vP_fa (vP_perm hP2 (bP (List.Perm.refl _)))
        have hDx : va_D A ((List.flatten ([[(xp0_9_10, .inl (zp0_9_10, (p0n_10 10), .inl (p0w_10 10)))]] : List va_W)) ++ (List.flatten ([[((p0a 0), .inr (9, [.int (p0w_10 0 0), .int (p0w_10 0 1), .int (p0w_10 0 2), .ref xp0_3_10, .ref xp0_4_10, .ref xp0_5_10, .ref xp0_6_10, .ref (p0a 8), .int (p0w_10 0 8), .ref xp0_9_10, .ref xp0_10_10, .ref xp0_11_10, .ref xp0_12_10, .ref xp0_13_10, .ref xp0_14_10, .ref xp0_15_10, .ref xp0_16_10, .ref xp0_17_10, .ref xp0_18_10])), (xp0_3_10, .inl (zp0_3_10, (p0n_10 4), .inr (.inl (p0l 4)))), (xp0_4_10, .inl (zp0_4_10, (p0n_10 5), .inr (.inl (p0l 5)))), (xp0_5_10, .inl (zp0_5_10, (p0n_10 6), .inr (.inl (p0l 6)))), (xp0_6_10, .inl (zp0_6_10, (p0n_10 7), .inr (.inl (p0l 7)))), ((p0a 8), .inl ((p0k 8), 2, .inl (p0w_10 8))), (xp0_10_10, .inl (zp0_10_10, (p0n_10 11), .inr (.inl (p0l 11)))), (xp0_11_10, .inl (zp0_11_10, (p0n_10 12), .inl (p0w_10 12))), (xp0_12_10, .inl (zp0_12_10, (p0n_10 13), .inl (p0w_10 13))), (xp0_13_10, .inl (zp0_13_10, (p0n_10 14), .inr (.inl (p0l 14)))), (xp0_14_10, .inl (zp0_14_10, (p0n_10 15), .inl (p0w_10 15))), (xp0_15_10, .inl (zp0_15_10, (p0n_10 16), .inl (p0w_10 16))), (xp0_16_10, .inl (zp0_16_10, (p0n_10 17), .inl (p0w_10 17))), (xp0_17_10, .inl (zp0_17_10, (p0n_10 18), .inl (p0w_10 18))), (xp0_18_10, .inl (zp0_18_10, (p0n_10 19), .inl (p0w_10 19)))], (oX1 (p1a 0) p1a p1k p1n p1w p1l), (oX9 (p1a 3) p1_2a p1_2k p1_2n p1_2w)] : List va_W))) := vD_fa (vD_perm hD2 (bP (List.Perm.refl _)))
        have hKx : va_K (dC, dI) cls ((List.flatten ([[(zp0_9_10, .int)]] : List (List (ClassId × FieldType)))) ++ (List.flatten ([[(zp0_3_10, .long), (zp0_4_10, .long), (zp0_5_10, .long), (zp0_6_10, .long), ((p0k 8), .int), (zp0_10_10, .long), (zp0_11_10, .int), (zp0_12_10, .int), (zp0_13_10, .long), (zp0_14_10, .int), (zp0_15_10, .int), (zp0_16_10, .int), (zp0_17_10, .int), (zp0_18_10, .int)], (tX1 p1k), (tX9 p1_2k)] : List (List (ClassId × FieldType))))) s := vK_fa (vK_perm hK2 (bP (List.Perm.refl _)))
        have hPc := vP_l hPx
        have hDc := vD_l hDx
        have hKc := vK_l hKx
        have hFc := vfree hDx hS hA
        refine va_callr (va_runSN (As := [.ref xp0_9_10, .int (v3_10 + 1)]) (rest := [.ref (p0a 0)]) ⟨hx, hb, hml, hown, hts⟩ (kX11_atLeast l dC dI (p0a := xp0_9_10) (p0k := zp0_9_10) (p0n := (p0n_10 10)) (p0f := (p0w_10 10)) (p1 := (v3_10 + 1)) (sz := _) (o := o_3) (hrun := hc_3)) ⟨(va_cnB 2 hts (gi_z qw128) rfl rfl rfl (hE.nw (List.mem_append_right _ (tbl_8 (i := 206) rfl)) rfl) (hts _ qw129) (by decide +kernel) ⟨Nat.le_of_ble_eq_true rfl, Nat.le_of_ble_eq_true rfl⟩), (hts _ qw130), trivial⟩ ⟨PRE.blind, PRE.of hE hS hFc hPc hKc hDc⟩ rfl rfl hl.1 rfl (lv_room (Nat.le_of_ble_eq_true rfl)) dX2_listSteps_23 ⟨(show (hcX2 p0n p0n_10) + (lgP o_3.1 - lgP (p0n_10 10)) ≤ (hcX2 p0n (o.2.2)) from by have q0 := gsX2 hg_p0 hst7 hgn_p0; have q5 := gcX2_10 (n := p0n_10) (mo_fX11_atLeast hc_3); rw [← en4] at q5; omega), (show (3 * (gcX2 p0n p0n_10)) + (3 * (o_3.1 - (p0n_10 10))) ≤ (3 * (gcX2 p0n (o.2.2))) from by have q0 := gsX2 hg_p0 hst7 hgn_p0; have q5 := gcX2_10 (n := p0n_10) (mo_fX11_atLeast hc_3); rw [← en4] at q5; omega)⟩) hS (fun q _ h => hFc q h) hFc (fun u ra7 t H locs ht hvm hw hB hz1 hk1 hS => ?_)
        obtain ⟨z6, hB⟩ := hB
        obtain ⟨b1, b2, b3⟩ := hB
        rw [ht] at b1
        obtain ⟨hP, hD, hK⟩ := JOINC (wc := (List.flatten ([[(xp0_9_10, .inl (zp0_9_10, (p0n_10 10), .inl (p0w_10 10)))]] : List va_W))) (wr := (List.flatten ([[((p0a 0), .inr (9, [.int (p0w_10 0 0), .int (p0w_10 0 1), .int (p0w_10 0 2), .ref xp0_3_10, .ref xp0_4_10, .ref xp0_5_10, .ref xp0_6_10, .ref (p0a 8), .int (p0w_10 0 8), .ref xp0_9_10, .ref xp0_10_10, .ref xp0_11_10, .ref xp0_12_10, .ref xp0_13_10, .ref xp0_14_10, .ref xp0_15_10, .ref xp0_16_10, .ref xp0_17_10, .ref xp0_18_10])), (xp0_3_10, .inl (zp0_3_10, (p0n_10 4), .inr (.inl (p0l 4)))), (xp0_4_10, .inl (zp0_4_10, (p0n_10 5), .inr (.inl (p0l 5)))), (xp0_5_10, .inl (zp0_5_10, (p0n_10 6), .inr (.inl (p0l 6)))), (xp0_6_10, .inl (zp0_6_10, (p0n_10 7), .inr (.inl (p0l 7)))), ((p0a 8), .inl ((p0k 8), 2, .inl (p0w_10 8))), (xp0_10_10, .inl (zp0_10_10, (p0n_10 11), .inr (.inl (p0l 11)))), (xp0_11_10, .inl (zp0_11_10, (p0n_10 12), .inl (p0w_10 12))), (xp0_12_10, .inl (zp0_12_10, (p0n_10 13), .inl (p0w_10 13))), (xp0_13_10, .inl (zp0_13_10, (p0n_10 14), .inr (.inl (p0l 14)))), (xp0_14_10, .inl (zp0_14_10, (p0n_10 15), .inl (p0w_10 15))), (xp0_15_10, .inl (zp0_15_10, (p0n_10 16), .inl (p0w_10 16))), (xp0_16_10, .inl (zp0_16_10, (p0n_10 17), .inl (p0w_10 17))), (xp0_17_10, .inl (zp0_17_10, (p0n_10 18), .inl (p0w_10 18))), (xp0_18_10, .inl (zp0_18_10, (p0n_10 19), .inl (p0w_10 19)))], (oX1 (p1a 0) p1a p1k p1n p1w p1l), (oX9 (p1a 3) p1_2a p1_2k p1_2n p1_2w)] : List va_W))) (w1 := [(ra7, .inl (z6, o_3.1, .inl o_3.2))]) (t1 := [(z6, .int)]) hPx hDx hKx hk1 hFc b1 (va_K.moved hvm.symm b2) b3
        refine va_put (D := (dC, dI)) (ci := 9) (v := .ref ra7) (ty := .array .int) (C := RX2) (T := TX2) (N := 19) hx hb hts i_X2 tyX2 tyX2_ok nmX2 hown hK hP hD hS 1 rfl rfl 9 (by decide) (hts _ qw742) (fun _ h9 => h9) rfl (by decide +kernel) rfl rfl (Nat.le_of_ble_eq_true rfl) dX2_listSteps_26 (fun H locs hP hD hS => ?_)
        have hP : va_P (dC, dI) cls (List.flatten ([[(ra7, .inl (z6, (n4 10), .inl (w5 10)))], [((p0a 0), .inr (9, [.int (w5 0 0), .int (w5 0 1), .int (w5 0 2), .ref xp0_3_10, .ref xp0_4_10, .ref xp0_5_10, .ref xp0_6_10, .ref (p0a 8), .int (w5 0 8), .ref ra7, .ref xp0_10_10, .ref xp0_11_10, .ref xp0_12_10, .ref xp0_13_10, .ref xp0_14_10, .ref xp0_15_10, .ref xp0_16_10, .ref xp0_17_10, .ref xp0_18_10])), (xp0_3_10, .inl (zp0_3_10, (n4 4), .inr (.inl (p0l 4)))), (xp0_4_10, .inl (zp0_4_10, (n4 5), .inr (.inl (p0l 5)))), (xp0_5_10, .inl (zp0_5_10, (n4 6), .inr (.inl (p0l 6)))), (xp0_6_10, .inl (zp0_6_10, (n4 7), .inr (.inl (p0l 7)))), ((p0a 8), .inl ((p0k 8), 2, .inl (w5 8))), (xp0_10_10, .inl (zp0_10_10, (n4 11), .inr (.inl (p0l 11)))), (xp0_11_10, .inl (zp0_11_10, (n4 12), .inl (w5 12))), (xp0_12_10, .inl (zp0_12_10, (n4 13), .inl (w5 13))), (xp0_13_10, .inl (zp0_13_10, (n4 14), .inr (.inl (p0l 14)))), (xp0_14_10, .inl (zp0_14_10, (n4 15), .inl (w5 15))), (xp0_15_10, .inl (zp0_15_10, (n4 16), .inl (w5 16))), (xp0_16_10, .inl (zp0_16_10, (n4 17), .inl (w5 17))), (xp0_17_10, .inl (zp0_17_10, (n4 18), .inl (w5 18))), (xp0_18_10, .inl (zp0_18_10, (n4 19), .inl (w5 19)))], (oX1 (p1a 0) p1a p1k p1n p1w p1l), (oX9 (p1a 3) p1_2a p1_2k p1_2n p1_2w)] : List va_W)) H := by rw [en4, ew5]; exact hP
        have hD : va_D A (List.flatten ([[(ra7, .inl (z6, (n4 10), .inl (w5 10)))], [((p0a 0), .inr (9, [.int (w5 0 0), .int (w5 0 1), .int (w5 0 2), .ref xp0_3_10, .ref xp0_4_10, .ref xp0_5_10, .ref xp0_6_10, .ref (p0a 8), .int (w5 0 8), .ref ra7, .ref xp0_10_10, .ref xp0_11_10, .ref xp0_12_10, .ref xp0_13_10, .ref xp0_14_10, .ref xp0_15_10, .ref xp0_16_10, .ref xp0_17_10, .ref xp0_18_10])), (xp0_3_10, .inl (zp0_3_10, (n4 4), .inr (.inl (p0l 4)))), (xp0_4_10, .inl (zp0_4_10, (n4 5), .inr (.inl (p0l 5)))), (xp0_5_10, .inl (zp0_5_10, (n4 6), .inr (.inl (p0l 6)))), (xp0_6_10, .inl (zp0_6_10, (n4 7), .inr (.inl (p0l 7)))), ((p0a 8), .inl ((p0k 8), 2, .inl (w5 8))), (xp0_10_10, .inl (zp0_10_10, (n4 11), .inr (.inl (p0l 11)))), (xp0_11_10, .inl (zp0_11_10, (n4 12), .inl (w5 12))), (xp0_12_10, .inl (zp0_12_10, (n4 13), .inl (w5 13))), (xp0_13_10, .inl (zp0_13_10, (n4 14), .inr (.inl (p0l 14)))), (xp0_14_10, .inl (zp0_14_10, (n4 15), .inl (w5 15))), (xp0_15_10, .inl (zp0_15_10, (n4 16), .inl (w5 16))), (xp0_16_10, .inl (zp0_16_10, (n4 17), .inl (w5 17))), (xp0_17_10, .inl (zp0_17_10, (n4 18), .inl (w5 18))), (xp0_18_10, .inl (zp0_18_10, (n4 19), .inl (w5 19)))], (oX1 (p1a 0) p1a p1k p1n p1w p1l), (oX9 (p1a 3) p1_2a p1_2k p1_2n p1_2w)] : List va_W)) := by rw [en4, ew5]; exact hD
        have hK : va_K (dC, dI) cls (List.flatten ([[(z6, .int)], [(zp0_3_10, .long), (zp0_4_10, .long), (zp0_5_10, .long), (zp0_6_10, .long), ((p0k 8), .int), (zp0_10_10, .long), (zp0_11_10, .int), (zp0_12_10, .int), (zp0_13_10, .long), (zp0_14_10, .int), (zp0_15_10, .int), (zp0_16_10, .int), (zp0_17_10, .int), (zp0_18_10, .int)], (tX1 p1k), (tX9 p1_2k)] : List (List (ClassId × FieldType)))) s := hK
        have hP3 : va_P (dC, dI) cls (List.flatten ([(oX2 (p0a 0) (st1 (st1 (st1 (st1 (st1 (st1 (st1 (st1 (st1 (st1 (st1 (st1 (st1 (st1 p0a 4 xp0_3_10) 5 xp0_4_10) 6 xp0_5_10) 7 xp0_6_10) 10 ra7) 11 xp0_10_10) 12 xp0_11_10) 13 xp0_12_10) 14 xp0_13_10) 15 xp0_14_10) 16 xp0_15_10) 17 xp0_16_10) 18 xp0_17_10) 19 xp0_18_10) (st1 (st1 (st1 (st1 (st1 (st1 (st1 (st1 (st1 (st1 (st1 (st1 (st1 (st1 p0k 4 zp0_3_10) 5 zp0_4_10) 6 zp0_5_10) 7 zp0_6_10) 10 z6) 11 zp0_10_10) 12 zp0_11_10) 13 zp0_12_10) 14 zp0_13_10) 15 zp0_14_10) 16 zp0_15_10) 17 zp0_16_10) 18 zp0_17_10) 19 zp0_18_10) n4 w5 p0l), (oX1 (p1a 0) p1a p1k p1n p1w p1l), (oX9 (p1a 3) p1_2a p1_2k p1_2n p1_2w)] : List va_W)) H := vP_perm hP ((bP (List.Perm.refl _)).trans (List.Perm.append_right _ (List.perm_middle (a := ((ra7, .inl (z6, (n4 10), .inl (w5 10))) : Nat × va_E)) (l₁ := ([((p0a 0), .inr (9, [.int (w5 0 0), .int (w5 0 1), .int (w5 0 2), .ref xp0_3_10, .ref xp0_4_10, .ref xp0_5_10, .ref xp0_6_10, .ref (p0a 8), .int (w5 0 8), .ref ra7, .ref xp0_10_10, .ref xp0_11_10, .ref xp0_12_10, .ref xp0_13_10, .ref xp0_14_10, .ref xp0_15_10, .ref xp0_16_10, .ref xp0_17_10, .ref xp0_18_10])), (xp0_3_10, .inl (zp0_3_10, (n4 4), .inr (.inl (p0l 4)))), (xp0_4_10, .inl (zp0_4_10, (n4 5), .inr (.inl (p0l 5)))), (xp0_5_10, .inl (zp0_5_10, (n4 6), .inr (.inl (p0l 6)))), (xp0_6_10, .inl (zp0_6_10, (n4 7), .inr (.inl (p0l 7)))), ((p0a 8), .inl ((p0k 8), 2, .inl (w5 8)))] : va_W)) (l₂ := ([(xp0_10_10, .inl (zp0_10_10, (n4 11), .inr (.inl (p0l 11)))), (xp0_11_10, .inl (zp0_11_10, (n4 12), .inl (w5 12))), (xp0_12_10, .inl (zp0_12_10, (n4 13), .inl (w5 13))), (xp0_13_10, .inl (zp0_13_10, (n4 14), .inr (.inl (p0l 14)))), (xp0_14_10, .inl (zp0_14_10, (n4 15), .inl (w5 15))), (xp0_15_10, .inl (zp0_15_10, (n4 16), .inl (w5 16))), (xp0_16_10, .inl (zp0_16_10, (n4 17), .inl (w5 17))), (xp0_17_10, .inl (zp0_17_10, (n4 18), .inl (w5 18))), (xp0_18_10, .inl (zp0_18_10, (n4 19), .inl (w5 19)))] : va_W))).symm))
        have hD3 : va_D A (List.flatten ([(oX2 (p0a 0) (st1 (st1 (st1 (st1 (st1 (st1 (st1 (st1 (st1 (st1 (st1 (st1 (st1 (st1 p0a 4 xp0_3_10) 5 xp0_4_10) 6 xp0_5_10) 7 xp0_6_10) 10 ra7) 11 xp0_10_10) 12 xp0_11_10) 13 xp0_12_10) 14 xp0_13_10) 15 xp0_14_10) 16 xp0_15_10) 17 xp0_16_10) 18 xp0_17_10) 19 xp0_18_10) (st1 (st1 (st1 (st1 (st1 (st1 (st1 (st1 (st1 (st1 (st1 (st1 (st1 (st1 p0k 4 zp0_3_10) 5 zp0_4_10) 6 zp0_5_10) 7 zp0_6_10) 10 z6) 11 zp0_10_10) 12 zp0_11_10) 13 zp0_12_10) 14 zp0_13_10) 15 zp0_14_10) 16 zp0_15_10) 17 zp0_16_10) 18 zp0_17_10) 19 zp0_18_10) n4 w5 p0l), (oX1 (p1a 0) p1a p1k p1n p1w p1l), (oX9 (p1a 3) p1_2a p1_2k p1_2n p1_2w)] : List va_W)) := vD_perm hD ((bP (List.Perm.refl _)).trans (List.Perm.append_right _ (List.perm_middle (a := ((ra7, .inl (z6, (n4 10), .inl (w5 10))) : Nat × va_E)) (l₁ := ([((p0a 0), .inr (9, [.int (w5 0 0), .int (w5 0 1), .int (w5 0 2), .ref xp0_3_10, .ref xp0_4_10, .ref xp0_5_10, .ref xp0_6_10, .ref (p0a 8), .int (w5 0 8), .ref ra7, .ref xp0_10_10, .ref xp0_11_10, .ref xp0_12_10, .ref xp0_13_10, .ref xp0_14_10, .ref xp0_15_10, .ref xp0_16_10, .ref xp0_17_10, .ref xp0_18_10])), (xp0_3_10, .inl (zp0_3_10, (n4 4), .inr (.inl (p0l 4)))), (xp0_4_10, .inl (zp0_4_10, (n4 5), .inr (.inl (p0l 5)))), (xp0_5_10, .inl (zp0_5_10, (n4 6), .inr (.inl (p0l 6)))), (xp0_6_10, .inl (zp0_6_10, (n4 7), .inr (.inl (p0l 7)))), ((p0a 8), .inl ((p0k 8), 2, .inl (w5 8)))] : va_W)) (l₂ := ([(xp0_10_10, .inl (zp0_10_10, (n4 11), .inr (.inl (p0l 11)))), (xp0_11_10, .inl (zp0_11_10, (n4 12), .inl (w5 12))), (xp0_12_10, .inl (zp0_12_10, (n4 13), .inl (w5 13))), (xp0_13_10, .inl (zp0_13_10, (n4 14), .inr (.inl (p0l 14)))), (xp0_14_10, .inl (zp0_14_10, (n4 15), .inl (w5 15))), (xp0_15_10, .inl (zp0_15_10, (n4 16), .inl (w5 16))), (xp0_16_10, .inl (zp0_16_10, (n4 17), .inl (w5 17))), (xp0_17_10, .inl (zp0_17_10, (n4 18), .inl (w5 18))), (xp0_18_10, .inl (zp0_18_10, (n4 19), .inl (w5 19)))] : va_W))).symm))
        have hK3 : va_K (dC, dI) cls (List.flatten ([(tX2 (st1 (st1 (st1 (st1 (st1 (st1 (st1 (st1 (st1 (st1 (st1 (st1 (st1 (st1 p0k 4 zp0_3_10) 5 zp0_4_10) 6 zp0_5_10) 7 zp0_6_10) 10 z6) 11 zp0_10_10) 12 zp0_11_10) 13 zp0_12_10) 14 zp0_13_10) 15 zp0_14_10) 16 zp0_15_10) 17 zp0_16_10) 18 zp0_17_10) 19 zp0_18_10)), (tX1 p1k), (tX9 p1_2k)] : List (List (ClassId × FieldType)))) s := vK_perm hK ((bP (List.Perm.refl _)).trans (List.Perm.append_right _ (List.perm_middle (a := ((z6, .int) : ClassId × FieldType)) (l₁ := ([(zp0_3_10, .long), (zp0_4_10, .long), (zp0_5_10, .long), (zp0_6_10, .long), ((p0k 8), .int)] : List (ClassId × FieldType))) (l₂ := ([(zp0_10_10, .long), (zp0_11_10, .int), (zp0_12_10, .int), (zp0_13_10, .long), (zp0_14_10, .int), (zp0_15_10, .int), (zp0_16_10, .int), (zp0_17_10, .int), (zp0_18_10, .int)] : List (ClassId × FieldType)))).symm))
        have hP : va_P (dC, dI) cls (List.flatten ([(oX2 (p0a 0) (st1 (st1 (st1 (st1 (st1 (st1 (st1 (st1 (st1 (st1 (st1 (st1 (st1 (st1 p0a 4 xp0_3_10) 5 xp0_4_10) 6 xp0_5_10) 7 xp0_6_10) 10 ra7) 11 xp0_10_10) 12 xp0_11_10) 13 xp0_12_10) 14 xp0_13_10) 15 xp0_14_10) 16 xp0_15_10) 17 xp0_16_10) 18 xp0_17_10) 19 xp0_18_10) (st1 (st1 (st1 (st1 (st1 (st1 (st1 (st1 (st1 (st1 (st1 (st1 (st1 (st1 p0k 4 zp0_3_10) 5 zp0_4_10) 6 zp0_5_10) 7 zp0_6_10) 10 z6) 11 zp0_10_10) 12 zp0_11_10) 13 zp0_12_10) 14 zp0_13_10) 15 zp0_14_10) 16 zp0_15_10) 17 zp0_16_10) 18 zp0_17_10) 19 zp0_18_10) n4 w5 p0l), (oX1 (p1a 0) p1a p1k p1n p1w p1l), (oX9 (p1a 3) p1_2a p1_2k p1_2n p1_2w)] : List va_W)) H := vP_perm hP3 (bP (List.Perm.refl _))
        have hD : va_D A (List.flatten ([(oX2 (p0a 0) (st1 (st1 (st1 (st1 (st1 (st1 (st1 (st1 (st1 (st1 (st1 (st1 (st1 (st1 p0a 4 xp0_3_10) 5 xp0_4_10) 6 xp0_5_10) 7 xp0_6_10) 10 ra7) 11 xp0_10_10) 12 xp0_11_10) 13 xp0_12_10) 14 xp0_13_10) 15 xp0_14_10) 16 xp0_15_10) 17 xp0_16_10) 18 xp0_17_10) 19 xp0_18_10) (st1 (st1 (st1 (st1 (st1 (st1 (st1 (st1 (st1 (st1 (st1 (st1 (st1 (st1 p0k 4 zp0_3_10) 5 zp0_4_10) 6 zp0_5_10) 7 zp0_6_10) 10 z6) 11 zp0_10_10) 12 zp0_11_10) 13 zp0_12_10) 14 zp0_13_10) 15 zp0_14_10) 16 zp0_15_10) 17 zp0_16_10) 18 zp0_17_10) 19 zp0_18_10) n4 w5 p0l), (oX1 (p1a 0) p1a p1k p1n p1w p1l), (oX9 (p1a 3) p1_2a p1_2k p1_2n p1_2w)] : List va_W)) := vD_perm hD3 (bP (List.Perm.refl _))
        have hK : va_K (dC, dI) cls (List.flatten ([(tX2 (st1 (st1 (st1 (st1 (st1 (st1 (st1 (st1 (st1 (st1 (st1 (st1 (st1 (st1 p0k 4 zp0_3_10) 5 zp0_4_10) 6 zp0_5_10) 7 zp0_6_10) 10 z6) 11 zp0_10_10) 12 zp0_11_10) 13 zp0_12_10) 14 zp0_13_10) 15 zp0_14_10) 16 zp0_15_10) 17 zp0_16_10) 18 zp0_17_10) 19 zp0_18_10)), (tX1 p1k), (tX9 p1_2k)] : List (List (ClassId × FieldType)))) s := vK_perm hK3 (bP (List.Perm.refl _))
        refine W.widen (k := (hcX2 p0n n4)) (n := (3 * (gcX2 p0n n4))) (by have a0 := gcX2_add hg_p0 hst7; have q5 := gcX2_10 (n := p0n_10) (mo_fX11_atLeast hc_3); rw [← en4] at q5; omega) (by have a0 := gcX2_add hg_p0 hst7; have q5 := gcX2_10 (n := p0n_10) (mo_fX11_atLeast hc_3); rw [← en4] at q5; omega) ?_
        have hg_p0 : glX2 p0n n4 := glX2_tr hg_p0 hst7
        unfold fX2_listSteps_G29_8 at hrun
        refine lv_aload_n hx hb dX2_listSteps_29 rfl (lv_at hl 0 rfl) ?_
        refine va_get (D := (dC, dI)) (ci := 9) (v := .ref ra7) (C := RX2) (T := TX2) (N := 19) hx hb hts i_X2 hown hK hP 0 rfl rfl 9 (by decide) (hts _ qw742) (fun _ h9 => h9) rfl dX2_listSteps_30 ?_
        refine lv_iload_n hx hb dX2_listSteps_33 rfl (lv_at hl 2 rfl) ?_
        refine lv_iload hx hb dX2_listSteps_34 (lv_at hl 3 rfl) ?_
        obtain ⟨hq9, hrun⟩ := chk9 hrun
        refine va_iast hx hb hK hP hD hS 6 5 rfl rfl (ixb_in hq9) dX2_listSteps_36 (fun H locs hP hD hS => ?_)
        have hP : va_P (dC, dI) cls (List.flatten ([(oX2 (p0a 0) (st1 (st1 (st1 (st1 (st1 (st1 (st1 (st1 (st1 (st1 (st1 (st1 (st1 (st1 p0a 4 xp0_3_10) 5 xp0_4_10) 6 xp0_5_10) 7 xp0_6_10) 10 ra7) 11 xp0_10_10) 12 xp0_11_10) 13 xp0_12_10) 14 xp0_13_10) 15 xp0_14_10) 16 xp0_15_10) 17 xp0_16_10) 18 xp0_17_10) 19 xp0_18_10) (st1 (st1 (st1 (st1 (st1 (st1 (st1 (st1 (st1 (st1 (st1 (st1 (st1 (st1 p0k 4 zp0_3_10) 5 zp0_4_10) 6 zp0_5_10) 7 zp0_6_10) 10 z6) 11 zp0_10_10) 12 zp0_11_10) 13 zp0_12_10) 14 zp0_13_10) 15 zp0_14_10) 16 zp0_15_10) 17 zp0_16_10) 18 zp0_17_10) 19 zp0_18_10) n4 (upw w5 10 (nn v3_10) v4_10) p0l), (oX1 (p1a 0) p1a p1k p1n p1w p1l), (oX9 (p1a 3) p1_2a p1_2k p1_2n p1_2w)] : List va_W)) H := hP
        have hD : va_D A (List.flatten ([(oX2 (p0a 0) (st1 (st1 (st1 (st1 (st1 (st1 (st1 (st1 (st1 (st1 (st1 (st1 (st1 (st1 p0a 4 xp0_3_10) 5 xp0_4_10) 6 xp0_5_10) 7 xp0_6_10) 10 ra7) 11 xp0_10_10) 12 xp0_11_10) 13 xp0_12_10) 14 xp0_13_10) 15 xp0_14_10) 16 xp0_15_10) 17 xp0_16_10) 18 xp0_17_10) 19 xp0_18_10) (st1 (st1 (st1 (st1 (st1 (st1 (st1 (st1 (st1 (st1 (st1 (st1 (st1 (st1 p0k 4 zp0_3_10) 5 zp0_4_10) 6 zp0_5_10) 7 zp0_6_10) 10 z6) 11 zp0_10_10) 12 zp0_11_10) 13 zp0_12_10) 14 zp0_13_10) 15 zp0_14_10) 16 zp0_15_10) 17 zp0_16_10) 18 zp0_17_10) 19 zp0_18_10) n4 (upw w5 10 (nn v3_10) v4_10) p0l), (oX1 (p1a 0) p1a p1k p1n p1w p1l), (oX9 (p1a 3) p1_2a p1_2k p1_2n p1_2w)] : List va_W)) := hD
        obtain ⟨w10, ew10, hrun⟩ := let9 hrun
        rw [← ew10] at hP hD
        refine lv_iinc (v := (v3_10 + 1)) (lv' := [(3, .int (v3_10 + 1)), (0, .ref (p0a 0)), (1, .ref (p1a 0)), (4, .int v4_10)]) hx hb dX2_listSteps_37 hl (k := 2) rfl rfl (by decide) rfl (fun ls hl => ?_)
        refine lv_aload_n hx hb dX2_listSteps_40 rfl (lv_at hl 2 rfl) ?_
        refine va_get (D := (dC, dI)) (ci := 4) (v := .ref (p1a 3)) (C := RX1) (T := TX1) (N := 21) hx hb hts i_X1 hown hK hP 16 rfl rfl 2 (by decide) (hts _ qw698) (fun _ h9 => h9) rfl dX2_listSteps_41 ?_
        refine va_get (D := (dC, dI)) (ci := 3) (v := .ref (p1_2a 6)) (C := RX9) (T := TX9) (N := 6) hx hb hts i_X9 hown hK hP 34 rfl rfl 5 (by decide) (hts _ qw702) (fun _ h9 => h9) rfl dX2_listSteps_44 ?_
        refine lv_iload hx hb dX2_listSteps_47 (lv_at hl 3 rfl) ?_
        obtain ⟨hq11, hrun⟩ := chk9 hrun
        refine va_iald hx hb hK hP 39 36 rfl rfl (ixb_in hq11) dX2_listSteps_49 ?_
        refine lv_istore (lv' := [(4, .int (p1_2w 6 (nn v4_10))), (3, .int (v3_10 + 1)), (0, .ref (p0a 0)), (1, .ref (p1a 0))]) hx hb dX2_listSteps_50 hl (by decide) rfl (fun ls hl => ?_)
        refine lv_goto (tgt := 10) hx hb dX2_listSteps_52 (by decide) ?_
        exact IH10 (v3_10 + 1) (p1_2w 6 (nn v4_10)) w10 n4 xp0_3_10 zp0_3_10 xp0_4_10 zp0_4_10 xp0_5_10 zp0_5_10 xp0_6_10 zp0_6_10 ra7 z6 xp0_10_10 zp0_10_10 xp0_11_10 zp0_11_10 xp0_12_10 zp0_12_10 xp0_13_10 zp0_13_10 xp0_14_10 zp0_14_10 xp0_15_10 zp0_15_10 xp0_16_10 zp0_16_10 xp0_17_10 zp0_17_10 xp0_18_10 zp0_18_10 o10 _ _ _ hrun hP hD hK hS (lv_sub hl [2, 3, 1, 0] rfl) hg_p0 hgo_p0 hk10
  refine L10 NF 0 (p1w 4 (nn p2)) p0w p0n (p0a 4) (p0k 4) (p0a 5) (p0k 5) (p0a 6) (p0k 6) (p0a 7) (p0k 7) (p0a 10) (p0k 10) (p0a 11) (p0k 11) (p0a 12) (p0k 12) (p0a 13) (p0k 13) (p0a 14) (p0k 14) (p0a 15) (p0k 15) (p0a 16) (p0k 16) (p0a 17) (p0k 17) (p0a 18) (p0k 18) (p0a 19) (p0k 19) o10 _ _ _ hc10 hP hD hK hS (lv_sub hl [2, 3, 1, 0] rfl) hg_p0 hgn_p0 ?_
  intro xp0_3_10x zp0_3_10x xp0_4_10x zp0_4_10x xp0_5_10x zp0_5_10x xp0_6_10x zp0_6_10x xp0_9_10x zp0_9_10x xp0_10_10x zp0_10_10x xp0_11_10x zp0_11_10x xp0_12_10x zp0_12_10x xp0_13_10x zp0_13_10x xp0_14_10x zp0_14_10x xp0_15_10x zp0_15_10x xp0_16_10x zp0_16_10x xp0_17_10x zp0_17_10x xp0_18_10x zp0_18_10x H locs ls hP hD hK hS hl hg_p0
  have hl := hl
  unfold fX2_listSteps_G55_12 at hrun
  refine lv_iload_n hx hb dX2_listSteps_55 rfl (lv_at hl 0 rfl) ?_
  have ho9 : ((o10.1), (o10.2.1), (o10.2.2)) = o := Option.some.inj hrun
  subst ho9
  subst hQ
  exact W.iret (v := (o10.1)) hx hb hr (fun t ht hW => ⟨⟨(o10.1), (), rfl, rfl, ⟨xp0_3_10x, zp0_3_10x, xp0_4_10x, zp0_4_10x, xp0_5_10x, zp0_5_10x, xp0_6_10x, zp0_6_10x, xp0_9_10x, zp0_9_10x, xp0_10_10x, zp0_10_10x, xp0_11_10x, zp0_11_10x, xp0_12_10x, zp0_12_10x, xp0_13_10x, zp0_13_10x, xp0_14_10x, zp0_14_10x, xp0_15_10x, zp0_15_10x, xp0_16_10x, zp0_16_10x, xp0_17_10x, zp0_17_10x, xp0_18_10x, zp0_18_10x, by rw [ht]; exact hP, va_K.moved hW.alike hK, hD⟩⟩, hS.F ht⟩) hS.2.2 dX2_listSteps_56
def fX2_put_a1_p0_6 (p0n : Nat → Nat) (p0w : ST) (p0l : SL) (p2 : Int32) (p3 : Int32) : Option SL := (if ixb ((p2 * (p0w 0 2)) + (p3 >>> (6 &&& 31))) (p0n 7) = true then (if ixb ((p2 * (p0w 0 2)) + (p3 >>> (6 &&& 31))) (p0n 7) = true then (lt9 (upl p0l 7 (nn ((p2 * (p0w 0 2)) + (p3 >>> (6 &&& 31)))) ((p0l 7 (nn ((p2 * (p0w 0 2)) + (p3 >>> (6 &&& 31))))) ||| (((1 : Int64) <<< (((p3 &&& 63) : Int32).toInt64 &&& 63))))) fun (l3 : SL) => some l3) else none) else none)
set_option maxHeartbeats 16000000 in
set_option maxRecDepth 100000 in
theorem kX2_put_a1_p0_6 {zs : ZS} (l : Launch) (dC : Nat → ClassId) (dI : Nat → Nat → Nat) (p0a : Nat → Nat) (p0k : Nat → ClassId) (p0n : Nat → Nat) (p0w : ST) (p0l : SL) (p2 : Int32) (p3 : Int32) (sz : Nat) (o : SL) (hrun : fX2_put_a1_p0_6 p0n p0w p0l p2 p3 = some o) : Met l yX2_put (wz yX2_put cX2_put 4 (Option.none : Option Jvm.ClassFile.FieldType)) ({ frames := 0, cells := 0, slots := 0, locals := 0 } : Room) (va_Pc [.ref (p0a 0), .ref (p0a 7), .int p2, .int p3] (PRE zs dC dI (List.flatten ([(oX2 (p0a 0) p0a p0k p0n p0w p0l)] : List va_W)) (List.flatten ([(tX2 p0k)] : List (List (ClassId × FieldType)))) sz)) (va_Qv (fun (_ : Unit) => True) (fun _ t => POST dC dI (List.flatten ([(oX2 (p0a 0) p0a p0k p0n p0w o)] : List va_W)) (List.flatten ([(tX2 p0k)] : List (List (ClassId × FieldType)))) (va_A (List.flatten ([(oX2 (p0a 0) p0a p0k p0n p0w p0l)] : List va_W)) sz) t) (va_A (List.flatten ([(oX2 (p0a 0) p0a p0k p0n p0w p0l)] : List va_W)) sz)) 0 0 (va_A (List.flatten ([(oX2 (p0a 0) p0a p0k p0n p0w p0l)] : List va_W)) sz) := by
  refine Met.ofW (cc := cX2_put) (maxL := 4) (ret := (Option.none : Option Jvm.ClassFile.FieldType)) (by decide) rfl ?_
  intro p e s m args below meth c s₁ B hml hv
  obtain ⟨rfl, hsz, hP, hK, hD0, hE⟩ := hv
  have hx := B.exec
  have hb := B.bytes
  have hr := B.returns
  have hts0 := atoms_spec (ws := wz yX2_put cX2_put 4 (Option.none : Option Jvm.ClassFile.FieldType)) B.pre
  have hts : ∀ w ∈ gw, w.before _ s = true := fun w h => hts0 w (List.mem_cons_of_mem _ h)
  have hown : s.vm.findClass RX2 = some m.cls := findClass_of_methodNamed B.named
  have hlocks := B.notSynchronized
  subst hsz
  have hD := hD0.self (sz := s.heap.size)
  refine gQ9 ?_
  intro Q hQ
  generalize hAe : va_A (List.flatten ([(oX2 (p0a 0) p0a p0k p0n p0w p0l)] : List va_W)) s.heap.size = A at hD hE hQ
  have hA : ∀ q : Nat, s.heap.size ≤ q → A q := fun q h => by rw [← hAe]; exact Or.inr h
  have hS : va_S A s.heap s.heap [] := va_S.rf
  have hP : va_P (dC, dI) cls (List.flatten ([(oX2 (p0a 0) p0a p0k p0n p0w p0l)] : List va_W)) s.heap := hP
  have hl := lv_entry ([.ref (p0a 0), .ref (p0a 7), .int p2, .int p3]) (n := 4) (Nat.le_of_ble_eq_true rfl)
  rw [lg_entry_eq]
  generalize (lg_sl ([.ref (p0a 0), .ref (p0a 7), .int p2, .int p3]) ++ List.replicate (4 - (lg_sl ([.ref (p0a 0), .ref (p0a 7), .int p2, .int p3])).length) Slot.unset).toArray = ls at hl ⊢
  have hl : lv_has ls 4 [(0, .ref (p0a 0)), (1, .ref (p0a 7)), (2, .int p2), (3, .int p3)] := hl
  obtain ⟨H, hHe⟩ : ∃ H, H = s.heap := ⟨_, rfl⟩
  obtain ⟨locs, hle⟩ : ∃ locs : List Loc, locs = [] := ⟨_, rfl⟩
  rw [← hHe] at hP
  have hS : va_S A s.heap H locs := by rw [hHe, hle]; exact hS
  show W p l e ({ frames := 0, cells := 0, slots := 0, locals := 0 } : Room) s m ([.ref (p0a 0), .ref (p0a 7), .int p2, .int p3] : List Value).toArray below meth c s.heap [] 0 0 Q (F0 m 0 ls [])
  rw [← hle]
  refine wH9 hHe ?_
  unfold fX2_put_a1_p0_6 at hrun
  refine lv_aload_n hx hb dX2_put_0 rfl (lv_at hl 1 rfl) ?_
  refine lv_iload_n hx hb dX2_put_1 rfl (lv_at hl 2 rfl) ?_
  refine lv_aload_n hx hb dX2_put_2 rfl (lv_at hl 0 rfl) ?_
  refine va_get (D := (dC, dI)) (ci := 9) (v := .int (p0w 0 2)) (C := RX2) (T := TX2) (N := 19) hx hb hts i_X2 hown hK hP 0 rfl rfl 2 (by decide) (hts _ qw669) (fun _ h9 => h9) rfl dX2_put_3 ?_
  refine lv_imul hx hb dX2_put_6 ?_
  refine lv_iload_n hx hb dX2_put_7 rfl (lv_at hl 3 rfl) ?_
  refine lv_bipush (v := 6) hx hb dX2_put_8 (by decide) ?_
  refine lv_ishr hx hb dX2_put_10 ?_
  refine lv_iadd hx hb dX2_put_11 ?_
  refine lv_dup2_11 hx hb dX2_put_12 rfl rfl ?_
  obtain ⟨hq1, hrun⟩ := chk9 hrun
  refine va_lald hx hb hK hP 4 3 rfl rfl (ixb_in hq1) dX2_put_13 ?_
  refine lv_lconst (v := 1) hx hb dX2_put_14 (by decide) ?_
  refine lv_iload_n hx hb dX2_put_15 rfl (lv_at hl 3 rfl) ?_
  refine lv_bipush (v := 63) hx hb dX2_put_16 (by decide) ?_
  refine lv_iand hx hb dX2_put_18 ?_
  refine lv_lshl (v := (((1 : Int64) <<< (((p3 &&& 63) : Int32).toInt64 &&& 63)))) hx hb dX2_put_19 rfl ?_
  refine lv_lor hx hb dX2_put_20 ?_
  obtain ⟨hq2, hrun⟩ := chk9 hrun
  refine va_last hx hb hK hP hD hS 4 3 rfl rfl (ixb_in hq2) dX2_put_21 (fun H locs hP hD hS => ?_)
  have hP : va_P (dC, dI) cls (List.flatten ([(oX2 (p0a 0) p0a p0k p0n p0w (upl p0l 7 (nn ((p2 * (p0w 0 2)) + (p3 >>> (6 &&& 31)))) ((p0l 7 (nn ((p2 * (p0w 0 2)) + (p3 >>> (6 &&& 31))))) ||| (((1 : Int64) <<< (((p3 &&& 63) : Int32).toInt64 &&& 63))))))] : List va_W)) H := hP
  have hD : va_D A (List.flatten ([(oX2 (p0a 0) p0a p0k p0n p0w (upl p0l 7 (nn ((p2 * (p0w 0 2)) + (p3 >>> (6 &&& 31)))) ((p0l 7 (nn ((p2 * (p0w 0 2)) + (p3 >>> (6 &&& 31))))) ||| (((1 : Int64) <<< (((p3 &&& 63) : Int32).toInt64 &&& 63))))))] : List va_W)) := hD
  obtain ⟨l3, el3, hrun⟩ := let9 hrun
  rw [← el3] at hP hD
  have ho9 : l3 = o := Option.some.inj hrun
  have hP9 : va_P (dC, dI) cls (List.flatten ([(oX2 (p0a 0) p0a p0k p0n p0w o)] : List va_W)) H := by first | exact hP | (rw [← ho9]; exact hP)
  have hD9 : va_D A (List.flatten ([(oX2 (p0a 0) p0a p0k p0n p0w o)] : List va_W)) := by first | exact hD | (rw [← ho9]; exact hD)
  subst hQ
  exact W.vret hx hb hr (fun t ht hW => ⟨⟨(), rfl, trivial, ⟨by rw [ht]; exact hP9, va_K.moved hW.alike hK, hD9⟩⟩, hS.F ht⟩) hS.2.2 dX2_put_22
def fX2_addLive_L21 (p0w : ST) (p0l : SL) (p1 : Int32) : Nat → Int32 → Option (Sum (ST × SL) Unit)
  | 0 => fun _ => none
  | n_21 + 1 => fun v2_21 => (if (p0w 0 8) ≤ v2_21 then some (Sum.inr ()) else (if ixb v2_21 2 = true then (if (p0w 8 (nn v2_21)) = p1 then some (Sum.inl (p0w, p0l)) else ((fX2_addLive_L21 p0w p0l p1 n_21) (v2_21 + 1))) else none))
def fX2_addLive_J78 (p0l : SL) (p0w_78 : ST) : Option (ST × SL) := some (p0w_78, p0l)
def fX2_addLive (p0n : Nat → Nat) (p0w : ST) (p0l : SL) (p1 : Int32) : Option (ST × SL) := (if (p0w 0 0) ≤ p1 then ((fX2_addLive_L21 p0w p0l p1 NF 0).bind fun (o21 : (Sum (ST × SL) Unit)) => Sum.elim (fun r => some r) (fun (t21 : Unit) => (if 2 ≤ (p0w 0 8) then (fX2_addLive_J78 p0l p0w) else (if ixb (p0w 0 8) 2 = true then (lt9 (upw p0w 8 (nn (p0w 0 8)) p1) fun (w7 : ST) => (lt9 (upw w7 0 8 ((w7 0 8) + 1)) fun (w8 : ST) => (fX2_addLive_J78 p0l w8))) else none))) o21) else ((fX2_put_a1_p0_6 p0n p0w p0l 0 p1).bind fun (o_9 : SL) => some (p0w, o_9)))
set_option maxHeartbeats 16000000 in
set_option maxRecDepth 100000 in
theorem kX2_addLive {zs : ZS} (l : Launch) (dC : Nat → ClassId) (dI : Nat → Nat → Nat) (p0a : Nat → Nat) (p0k : Nat → ClassId) (p0n : Nat → Nat) (p0w : ST) (p0l : SL) (p1 : Int32) (sz : Nat) (o : ST × SL) (hrun : fX2_addLive p0n p0w p0l p1 = some o) : Met l yX2_addLive (wz yX2_addLive cX2_addLive 3 (Option.none : Option Jvm.ClassFile.FieldType)) ({ frames := 1, cells := 0, slots := 0, locals := 23 } : Room) (va_Pc [.ref (p0a 0), .int p1] (PRE zs dC dI (List.flatten ([(oX2 (p0a 0) p0a p0k p0n p0w p0l)] : List va_W)) (List.flatten ([(tX2 p0k)] : List (List (ClassId × FieldType)))) sz)) (va_Qv (fun (_ : Unit) => True) (fun _ t => POST dC dI (List.flatten ([(oX2 (p0a 0) p0a p0k p0n (o.1) (o.2))] : List va_W)) (List.flatten ([(tX2 p0k)] : List (List (ClassId × FieldType)))) (va_A (List.flatten ([(oX2 (p0a 0) p0a p0k p0n p0w p0l)] : List va_W)) sz) t) (va_A (List.flatten ([(oX2 (p0a 0) p0a p0k p0n p0w p0l)] : List va_W)) sz)) 0 0 (va_A (List.flatten ([(oX2 (p0a 0) p0a p0k p0n p0w p0l)] : List va_W)) sz) := by
  refine Met.ofW (cc := cX2_addLive) (maxL := 3) (ret := (Option.none : Option Jvm.ClassFile.FieldType)) (by decide) rfl ?_
  intro p e s m args below meth c s₁ B hml hv
  obtain ⟨rfl, hsz, hP, hK, hD0, hE⟩ := hv
  have hx := B.exec
  have hb := B.bytes
  have hr := B.returns
  have hts0 := atoms_spec (ws := wz yX2_addLive cX2_addLive 3 (Option.none : Option Jvm.ClassFile.FieldType)) B.pre
  have hts : ∀ w ∈ gw, w.before _ s = true := fun w h => hts0 w (List.mem_cons_of_mem _ h)
  have hown : s.vm.findClass RX2 = some m.cls := findClass_of_methodNamed B.named
  have hlocks := B.notSynchronized
  subst hsz
  have hD := hD0.self (sz := s.heap.size)
  refine gQ9 ?_
  intro Q hQ
  generalize hAe : va_A (List.flatten ([(oX2 (p0a 0) p0a p0k p0n p0w p0l)] : List va_W)) s.heap.size = A at hD hE hQ
  have hA : ∀ q : Nat, s.heap.size ≤ q → A q := fun q h => by rw [← hAe]; exact Or.inr h
  have hS : va_S A s.heap s.heap [] := va_S.rf
  have hP : va_P (dC, dI) cls (List.flatten ([(oX2 (p0a 0) p0a p0k p0n p0w p0l)] : List va_W)) s.heap := hP
  have hl := lv_entry ([.ref (p0a 0), .int p1]) (n := 3) (Nat.le_of_ble_eq_true rfl)
  rw [lg_entry_eq]
  generalize (lg_sl ([.ref (p0a 0), .int p1]) ++ List.replicate (3 - (lg_sl ([.ref (p0a 0), .int p1])).length) Slot.unset).toArray = ls at hl ⊢
  have hl : lv_has ls 3 [(0, .ref (p0a 0)), (1, .int p1)] := hl
  obtain ⟨H, hHe⟩ : ∃ H, H = s.heap := ⟨_, rfl⟩
  obtain ⟨locs, hle⟩ : ∃ locs : List Loc, locs = [] := ⟨_, rfl⟩
  rw [← hHe] at hP
  have hS : va_S A s.heap H locs := by rw [hHe, hle]; exact hS
  show W p l e ({ frames := 1, cells := 0, slots := 0, locals := 23 } : Room) s m ([.ref (p0a 0), .int p1] : List Value).toArray below meth c s.heap [] 0 0 Q (F0 m 0 ls [])
  rw [← hle]
  refine wH9 hHe ?_
  unfold fX2_addLive at hrun
  refine lv_iload_n hx hb dX2_addLive_0 rfl (lv_at hl 1 rfl) ?_
  refine lv_aload_n hx hb dX2_addLive_1 rfl (lv_at hl 0 rfl) ?_
  refine va_get (D := (dC, dI)) (ci := 9) (v := .int (p0w 0 0)) (C := RX2) (T := TX2) (N := 19) hx hb hts i_X2 hown hK hP 0 rfl rfl 0 (by decide) (hts _ qw667) (fun _ h9 => h9) rfl dX2_addLive_2 ?_
  rcases br9 hrun with ⟨hc1, hrun⟩ | ⟨hc1, hrun⟩
  · refine lv_icmp_ge (tgt := 19) hx hb dX2_addLive_5 (by decide) (fun _ => ?_) (fun c => absurd hc1 c)
    refine lv_iconst (v := 0) hx hb dX2_addLive_19 (by decide) ?_
    refine lv_istore_n (lv' := [(2, .int 0), (0, .ref (p0a 0)), (1, .int p1)]) hx hb dX2_addLive_20 rfl hl (by decide) rfl (fun ls hl => ?_)
    have L21 : ∀ (n_21 : Nat) (v2_21 : Int32) (o21 : (Sum (ST × SL) Unit)) (H : Heap) (locs : List Loc) (ls : Array Slot), (fX2_addLive_L21 p0w p0l p1 n_21) v2_21 = some o21 → va_P (dC, dI) cls (List.flatten ([(oX2 (p0a 0) p0a p0k p0n p0w p0l)] : List va_W)) H → va_D A (List.flatten ([(oX2 (p0a 0) p0a p0k p0n p0w p0l)] : List va_W)) → va_K (dC, dI) cls (List.flatten ([(tX2 p0k)] : List (List (ClassId × FieldType)))) s → va_S A s.heap H locs → lv_has ls 3 [(0, .ref (p0a 0)), (1, .int p1), (2, .int v2_21)] → (∀ r, o21 = Sum.inl r → r = o) → (∀ (t21 : Unit), o21 = Sum.inr t21 → ∀ (H : Heap) (locs : List Loc) (ls : Array Slot), va_P (dC, dI) cls (List.flatten ([(oX2 (p0a 0) p0a p0k p0n p0w p0l)] : List va_W)) H → va_D A (List.flatten ([(oX2 (p0a 0) p0a p0k p0n p0w p0l)] : List va_W)) → va_K (dC, dI) cls (List.flatten ([(tX2 p0k)] : List (List (ClassId × FieldType)))) s → va_S A s.heap H locs → lv_has ls 3 [(0, .ref (p0a 0)), (1, .int p1)] → W p l e ({ frames := 1, cells := 0, slots := 0, locals := 23 } : Room) s m ([.ref (p0a 0), .int p1] : List Value).toArray below meth c H locs 0 0 Q (F0 m 46 ls [])) → W p l e ({ frames := 1, cells := 0, slots := 0, locals := 23 } : Room) s m ([.ref (p0a 0), .int p1] : List Value).toArray below meth c H locs 0 0 Q (F0 m 21 ls []) := by
      intro n_21
      induction n_21 with
      | zero => intro v2_21 o21 H locs ls hrun; exact (no9 rfl hrun).elim
      | succ n_21 IH21 =>
        intro v2_21 o21 H locs ls hrun hP hD hK hS hl hr21 hk21
        unfold fX2_addLive_L21 at hrun
        refine lv_iload_n hx hb dX2_addLive_21 rfl (lv_at hl 2 rfl) ?_
        refine lv_aload_n hx hb dX2_addLive_22 rfl (lv_at hl 0 rfl) ?_
        refine va_get (D := (dC, dI)) (ci := 9) (v := .int (p0w 0 8)) (C := RX2) (T := TX2) (N := 19) hx hb hts i_X2 hown hK hP 0 rfl rfl 8 (by decide) (hts _ qw737) (fun _ h9 => h9) rfl dX2_addLive_23 ?_
        rcases br9 hrun with ⟨hc2, hrun⟩ | ⟨hc2, hrun⟩
        · refine lv_icmp_ge (tgt := 46) hx hb dX2_addLive_26 (by decide) (fun _ => ?_) (fun c => absurd hc2 c)
          obtain rfl := (Option.some.inj hrun)
          exact hk21 _ rfl _ _ _ hP hD hK hS (lv_sub hl [0, 1] rfl)
        · refine lv_icmp_ge (tgt := 46) hx hb dX2_addLive_26 (by decide) (fun c => absurd c hc2) (fun _ => ?_)
          refine lv_aload_n hx hb dX2_addLive_29 rfl (lv_at hl 0 rfl) ?_
          refine va_get (D := (dC, dI)) (ci := 9) (v := .ref (p0a 8)) (C := RX2) (T := TX2) (N := 19) hx hb hts i_X2 hown hK hP 0 rfl rfl 7 (by decide) (hts _ qw747) (fun _ h9 => h9) rfl dX2_addLive_30 ?_
          refine lv_iload_n hx hb dX2_addLive_33 rfl (lv_at hl 2 rfl) ?_
          obtain ⟨hq3, hrun⟩ := chk9 hrun
          refine va_iald hx hb hK hP 5 4 rfl rfl (ixb_in hq3) dX2_addLive_34 ?_
          refine lv_iload_n hx hb dX2_addLive_35 rfl (lv_at hl 1 rfl) ?_
          rcases br9 hrun with ⟨hc4, hrun⟩ | ⟨hc4, hrun⟩
          · refine lv_icmp_ne (tgt := 40) hx hb dX2_addLive_36 (by decide) (fun c => absurd hc4 c) (fun _ => ?_)
            have ho9 : (p0w, p0l) = o := hr21 _ (Option.some.inj hrun).symm
            have hP9 : va_P (dC, dI) cls (List.flatten ([(oX2 (p0a 0) p0a p0k p0n (o.1) (o.2))] : List va_W)) H := by first | exact hP | (rw [← ho9]; exact hP)
            have hD9 : va_D A (List.flatten ([(oX2 (p0a 0) p0a p0k p0n (o.1) (o.2))] : List va_W)) := by first | exact hD | (rw [← ho9]; exact hD)
            subst hQ
            exact W.vret hx hb hr (fun t ht hW => ⟨⟨(), rfl, trivial, ⟨by rw [ht]; exact hP9, va_K.moved hW.alike hK, hD9⟩⟩, hS.F ht⟩) hS.2.2 dX2_addLive_39
          · refine lv_icmp_ne (tgt := 40) hx hb dX2_addLive_36 (by decide) (fun _ => ?_) (fun c => absurd c hc4)
            refine lv_iinc (v := (v2_21 + 1)) (lv' := [(2, .int (v2_21 + 1)), (0, .ref (p0a 0)), (1, .int p1)]) hx hb dX2_addLive_40 hl (k := 2) rfl rfl (by decide) rfl (fun ls hl => ?_)
            refine lv_goto (tgt := 21) hx hb dX2_addLive_43 (by decide) ?_
            exact IH21 (v2_21 + 1) o21 _ _ _ hrun hP hD hK hS (lv_sub hl [1, 2, 0] rfl) hr21 hk21
    obtain ⟨o21, hc21, hrun⟩ := bnd9 hrun
    refine L21 NF 0 o21 _ _ _ hc21 hP hD hK hS (lv_sub hl [1, 2, 0] rfl) (fun r e9 => by subst e9; exact Option.some.inj hrun) ?_
    intro t21 e9
    subst e9
    replace hrun := el9 hrun
    intro H locs ls hP hD hK hS hl
    have hl := hl
    refine lv_aload_n hx hb dX2_addLive_46 rfl (lv_at hl 0 rfl) ?_
    refine va_get (D := (dC, dI)) (ci := 9) (v := .int (p0w 0 8)) (C := RX2) (T := TX2) (N := 19) hx hb hts i_X2 hown hK hP 0 rfl rfl 8 (by decide) (hts _ qw737) (fun _ h9 => h9) rfl dX2_addLive_47 ?_
    refine lv_aload_n hx hb dX2_addLive_50 rfl (lv_at hl 0 rfl) ?_
    refine va_get (D := (dC, dI)) (ci := 9) (v := .ref (p0a 8)) (C := RX2) (T := TX2) (N := 19) hx hb hts i_X2 hown hK hP 0 rfl rfl 7 (by decide) (hts _ qw747) (fun _ h9 => h9) rfl dX2_addLive_51 ?_
    refine va_alen (v := 2) hx hb hK hP 5 4 rfl rfl rfl dX2_addLive_54 ?_
    have J78 : ∀ (p0w_78 : ST) (H : Heap) (locs : List Loc) (ls : Array Slot), (fX2_addLive_J78 p0l p0w_78) = some o → va_P (dC, dI) cls (List.flatten ([(oX2 (p0a 0) p0a p0k p0n p0w_78 p0l)] : List va_W)) H → va_D A (List.flatten ([(oX2 (p0a 0) p0a p0k p0n p0w_78 p0l)] : List va_W)) → va_K (dC, dI) cls (List.flatten ([(tX2 p0k)] : List (List (ClassId × FieldType)))) s → va_S A s.heap H locs → lv_has ls 3 [] → W p l e ({ frames := 1, cells := 0, slots := 0, locals := 23 } : Room) s m ([.ref (p0a 0), .int p1] : List Value).toArray below meth c H locs 0 0 Q (F0 m 78 ls []) := by
      intro p0w_78 H locs ls hrun hP hD hK hS hl 
      unfold fX2_addLive_J78 at hrun
      have ho9 : (p0w_78, p0l) = o := Option.some.inj hrun
      have hP9 : va_P (dC, dI) cls (List.flatten ([(oX2 (p0a 0) p0a p0k p0n (o.1) (o.2))] : List va_W)) H := by first | exact hP | (rw [← ho9]; exact hP)
      have hD9 : va_D A (List.flatten ([(oX2 (p0a 0) p0a p0k p0n (o.1) (o.2))] : List va_W)) := by first | exact hD | (rw [← ho9]; exact hD)
      subst hQ
      exact W.vret hx hb hr (fun t ht hW => ⟨⟨(), rfl, trivial, ⟨by rw [ht]; exact hP9, va_K.moved hW.alike hK, hD9⟩⟩, hS.F ht⟩) hS.2.2 dX2_addLive_78
    rcases br9 hrun with ⟨hc5, hrun⟩ | ⟨hc5, hrun⟩
    · refine lv_icmp_ge (tgt := 78) hx hb dX2_addLive_55 (by decide) (fun _ => ?_) (fun c => absurd hc5 c)
      exact J78 p0w _ _ _ hrun hP hD hK hS (lv_sub hl [] rfl)
    · refine lv_icmp_ge (tgt := 78) hx hb dX2_addLive_55 (by decide) (fun c => absurd c hc5) (fun _ => ?_)
      refine lv_aload_n hx hb dX2_addLive_58 rfl (lv_at hl 0 rfl) ?_
      refine va_get (D := (dC, dI)) (ci := 9) (v := .ref (p0a 8)) (C := RX2) (T := TX2) (N := 19) hx hb hts i_X2 hown hK hP 0 rfl rfl 7 (by decide) (hts _ qw747) (fun _ h9 => h9) rfl dX2_addLive_59 ?_
      refine lv_aload_n hx hb dX2_addLive_62 rfl (lv_at hl 0 rfl) ?_
      refine va_get (D := (dC, dI)) (ci := 9) (v := .int (p0w 0 8)) (C := RX2) (T := TX2) (N := 19) hx hb hts i_X2 hown hK hP 0 rfl rfl 8 (by decide) (hts _ qw737) (fun _ h9 => h9) rfl dX2_addLive_63 ?_
      refine lv_iload_n hx hb dX2_addLive_66 rfl (lv_at hl 1 rfl) ?_
      obtain ⟨hq6, hrun⟩ := chk9 hrun
      refine va_iast hx hb hK hP hD hS 5 4 rfl rfl (ixb_in hq6) dX2_addLive_67 (fun H locs hP hD hS => ?_)
      have hP : va_P (dC, dI) cls (List.flatten ([(oX2 (p0a 0) p0a p0k p0n (upw p0w 8 (nn (p0w 0 8)) p1) p0l)] : List va_W)) H := hP
      have hD : va_D A (List.flatten ([(oX2 (p0a 0) p0a p0k p0n (upw p0w 8 (nn (p0w 0 8)) p1) p0l)] : List va_W)) := hD
      obtain ⟨w7, ew7, hrun⟩ := let9 hrun
      rw [← ew7] at hP hD
      refine lv_aload_n hx hb dX2_addLive_68 rfl (lv_at hl 0 rfl) ?_
      refine lv_dup hx hb dX2_addLive_69 rfl ?_
      refine va_get (D := (dC, dI)) (ci := 9) (v := .int (w7 0 8)) (C := RX2) (T := TX2) (N := 19) hx hb hts i_X2 hown hK hP 0 rfl rfl 8 (by decide) (hts _ qw737) (fun _ h9 => h9) rfl dX2_addLive_70 ?_
      refine lv_iconst (v := 1) hx hb dX2_addLive_73 (by decide) ?_
      refine lv_iadd hx hb dX2_addLive_74 ?_
      refine va_put (D := (dC, dI)) (ci := 9) (v := .int ((w7 0 8) + 1)) (ty := .int) (C := RX2) (T := TX2) (N := 19) hx hb hts i_X2 tyX2 tyX2_ok nmX2 hown hK hP hD hS 0 rfl rfl 8 (by decide) (hts _ qw737) (fun _ h9 => h9) rfl (by decide +kernel) rfl rfl (Nat.le_of_ble_eq_true rfl) dX2_addLive_75 (fun H locs hP hD hS => ?_)
      have hP : va_P (dC, dI) cls (List.flatten ([(oX2 (p0a 0) p0a p0k p0n (upw w7 0 8 ((w7 0 8) + 1)) p0l)] : List va_W)) H := hP
      have hD : va_D A (List.flatten ([(oX2 (p0a 0) p0a p0k p0n (upw w7 0 8 ((w7 0 8) + 1)) p0l)] : List va_W)) := hD
      obtain ⟨w8, ew8, hrun⟩ := let9 hrun
      rw [← ew8] at hP hD
      exact J78 w8 _ _ _ hrun hP hD hK hS (lv_sub hl [] rfl)
  · refine lv_icmp_ge (tgt := 19) hx hb dX2_addLive_5 (by decide) (fun c => absurd c hc1) (fun _ => ?_)
    refine lv_aload_n hx hb dX2_addLive_8 rfl (lv_at hl 0 rfl) ?_
    refine lv_aload_n hx hb dX2_addLive_9 rfl (lv_at hl 0 rfl) ?_
    refine va_get (D := (dC, dI)) (ci := 9) (v := .ref (p0a 7)) (C := RX2) (T := TX2) (N := 19) hx hb hts i_X2 hown hK hP 0 rfl rfl 6 (by decide) (hts _ qw680) (fun _ h9 => h9) rfl dX2_addLive_10 ?_
    refine lv_iconst (v := 0) hx hb dX2_addLive_13 (by decide) ?_
    refine lv_iload_n hx hb dX2_addLive_14 rfl (lv_at hl 1 rfl) ?_
    obtain ⟨o_9, hc_9, hrun⟩ := bnd9 hrun
    have hPx : va_P (dC, dI) cls ((List.flatten ([(oX2 (p0a 0) p0a p0k p0n p0w p0l)] : List va_W)) ++ (List.flatten ([] : List va_W))) H := vP_fa (vP_perm hP (bP (List.Perm.refl _)))
    have hDx : va_D A ((List.flatten ([(oX2 (p0a 0) p0a p0k p0n p0w p0l)] : List va_W)) ++ (List.flatten ([] : List va_W))) := vD_fa (vD_perm hD (bP (List.Perm.refl _)))
    have hKx : va_K (dC, dI) cls ((List.flatten ([(tX2 p0k)] : List (List (ClassId × FieldType)))) ++ (List.flatten ([] : List (List (ClassId × FieldType))))) s := vK_fa (vK_perm hK (bP (List.Perm.refl _)))
    have hPc := vP_l hPx
    have hDc := vD_l hDx
    have hKc := vK_l hKx
    have hFc := vfree hDx hS hA
    refine va_callv (va_runV (As := [.ref (p0a 7), .int 0, .int p1]) (rest := []) ⟨hx, hb, hml, hown, hts⟩ (kX2_put_a1_p0_6 l dC dI (p0a := p0a) (p0k := p0k) (p0n := p0n) (p0w := p0w) (p0l := p0l) (p2 := 0) (p3 := p1) (sz := _) (o := o_9) (hrun := hc_9)) (cwV 3 hts (gi_V qw704 qw705 qw706 qw694 (gi_z qw703)) rfl rfl rfl (by decide +kernel) ⟨Nat.le_of_ble_eq_true rfl, Nat.le_of_ble_eq_true rfl⟩) ⟨PRE.blind, va_recv hKc hPc (ci := 9) (q0 := 0) rfl rfl, PRE.of hE hS hFc hPc hKc hDc⟩ rfl rfl hl.1 rfl (lv_room (Nat.le_of_ble_eq_true rfl)) dX2_addLive_15 ⟨(Nat.le_of_ble_eq_true rfl), (Nat.le_of_ble_eq_true rfl)⟩) hS (fun q _ h => hFc q h) hFc (fun u t H locs ht hvm hw hB hz1 hk1 hS => ?_)
    obtain ⟨b1, b2, b3⟩ := hB
    rw [ht] at b1
    obtain ⟨hP, hD, hK⟩ := JOINC (wc := (List.flatten ([(oX2 (p0a 0) p0a p0k p0n p0w p0l)] : List va_W))) (wr := (List.flatten ([] : List va_W))) (w1 := (List.flatten ([(oX2 (p0a 0) p0a p0k p0n p0w o_9)] : List va_W))) (t1 := (List.flatten ([(tX2 p0k)] : List (List (ClassId × FieldType))))) hPx hDx hKx hk1 hFc b1 (va_K.moved hvm.symm b2) b3
    have hP : va_P (dC, dI) cls (List.flatten ([(oX2 (p0a 0) p0a p0k p0n p0w o_9)] : List va_W)) H := vP_perm (vP_fb hP) (bP (List.Perm.refl _))
    have hD : va_D A (List.flatten ([(oX2 (p0a 0) p0a p0k p0n p0w o_9)] : List va_W)) := vD_perm (vD_fb hD) (bP (List.Perm.refl _))
    have hK : va_K (dC, dI) cls (List.flatten ([(tX2 p0k)] : List (List (ClassId × FieldType)))) s := vK_perm (vK_fb hK) (bP (List.Perm.refl _))
    have ho9 : (p0w, o_9) = o := Option.some.inj hrun
    have hP9 : va_P (dC, dI) cls (List.flatten ([(oX2 (p0a 0) p0a p0k p0n (o.1) (o.2))] : List va_W)) H := by first | exact hP | (rw [← ho9]; exact hP)
    have hD9 : va_D A (List.flatten ([(oX2 (p0a 0) p0a p0k p0n (o.1) (o.2))] : List va_W)) := by first | exact hD | (rw [← ho9]; exact hD)
    subst hQ
    exact W.vret hx hb hr (fun t ht hW => ⟨⟨(), rfl, trivial, ⟨by rw [ht]; exact hP9, va_K.moved hW.alike hK, hD9⟩⟩, hS.F ht⟩) hS.2.2 dX2_addLive_18
def fX2_bitIn_J30 (y0_30 : Int64) : Option Int64 := some y0_30
def fX2_bitIn_J29  : Option Int64 := (fX2_bitIn_J30 0)
def fX2_bitIn (p0w : ST) (p1 : Int32) (p2 : Int32) : Option Int64 := (if p2 < 0 then (fX2_bitIn_J29) else (if (p0w 0 0) ≤ p2 then (fX2_bitIn_J29) else (if (p2 >>> (6 &&& 31)) = p1 then (fX2_bitIn_J30 (((1 : Int64) <<< (((p2 &&& 63) : Int32).toInt64 &&& 63)))) else (fX2_bitIn_J29))))
set_option maxHeartbeats 16000000 in
set_option maxRecDepth 100000 in
theorem kX2_bitIn {zs : ZS} (l : Launch) (dC : Nat → ClassId) (dI : Nat → Nat → Nat) (p0a : Nat → Nat) (p0k : Nat → ClassId) (p0n : Nat → Nat) (p0w : ST) (p0l : SL) (p1 : Int32) (p2 : Int32) (sz : Nat) (o : Int64) (hrun : fX2_bitIn p0w p1 p2 = some o) : Met l yX2_bitIn (wz yX2_bitIn cX2_bitIn 3 (Option.some Jvm.ClassFile.FieldType.long)) ({ frames := 0, cells := 0, slots := 0, locals := 0 } : Room) (va_Pc [.ref (p0a 0), .int p1, .int p2] (PRE zs dC dI (List.flatten ([(oX2 (p0a 0) p0a p0k p0n p0w p0l)] : List va_W)) (List.flatten ([(tX2 p0k)] : List (List (ClassId × FieldType)))) sz)) (va_Ql (fun (r : Int64) (_ : Unit) => r = o) (fun _ t => POST dC dI (List.flatten ([(oX2 (p0a 0) p0a p0k p0n p0w p0l)] : List va_W)) (List.flatten ([(tX2 p0k)] : List (List (ClassId × FieldType)))) (va_A (List.flatten ([(oX2 (p0a 0) p0a p0k p0n p0w p0l)] : List va_W)) sz) t) (va_A (List.flatten ([(oX2 (p0a 0) p0a p0k p0n p0w p0l)] : List va_W)) sz)) 0 0 (va_A (List.flatten ([(oX2 (p0a 0) p0a p0k p0n p0w p0l)] : List va_W)) sz) := by
  refine Met.ofW (cc := cX2_bitIn) (maxL := 3) (ret := (Option.some Jvm.ClassFile.FieldType.long)) (by decide) rfl ?_
  intro p e s m args below meth c s₁ B hml hv
  obtain ⟨rfl, hsz, hP, hK, hD0, hE⟩ := hv
  have hx := B.exec
  have hb := B.bytes
  have hr := B.returns
  have hts0 := atoms_spec (ws := wz yX2_bitIn cX2_bitIn 3 (Option.some Jvm.ClassFile.FieldType.long)) B.pre
  have hts : ∀ w ∈ gw, w.before _ s = true := fun w h => hts0 w (List.mem_cons_of_mem _ h)
  have hown : s.vm.findClass RX2 = some m.cls := findClass_of_methodNamed B.named
  have hlocks := B.notSynchronized
  subst hsz
  have hD := hD0.self (sz := s.heap.size)
  refine gQ9 ?_
  intro Q hQ
  generalize hAe : va_A (List.flatten ([(oX2 (p0a 0) p0a p0k p0n p0w p0l)] : List va_W)) s.heap.size = A at hD hE hQ
  have hA : ∀ q : Nat, s.heap.size ≤ q → A q := fun q h => by rw [← hAe]; exact Or.inr h
  have hS : va_S A s.heap s.heap [] := va_S.rf
  have hP : va_P (dC, dI) cls (List.flatten ([(oX2 (p0a 0) p0a p0k p0n p0w p0l)] : List va_W)) s.heap := hP
  have hl := lv_entry ([.ref (p0a 0), .int p1, .int p2]) (n := 3) (Nat.le_of_ble_eq_true rfl)
  rw [lg_entry_eq]
  generalize (lg_sl ([.ref (p0a 0), .int p1, .int p2]) ++ List.replicate (3 - (lg_sl ([.ref (p0a 0), .int p1, .int p2])).length) Slot.unset).toArray = ls at hl ⊢
  have hl : lv_has ls 3 [(0, .ref (p0a 0)), (1, .int p1), (2, .int p2)] := hl
  obtain ⟨H, hHe⟩ : ∃ H, H = s.heap := ⟨_, rfl⟩
  obtain ⟨locs, hle⟩ : ∃ locs : List Loc, locs = [] := ⟨_, rfl⟩
  rw [← hHe] at hP
  have hS : va_S A s.heap H locs := by rw [hHe, hle]; exact hS
  show W p l e ({ frames := 0, cells := 0, slots := 0, locals := 0 } : Room) s m ([.ref (p0a 0), .int p1, .int p2] : List Value).toArray below meth c s.heap [] 0 0 Q (F0 m 0 ls [])
  rw [← hle]
  refine wH9 hHe ?_
  unfold fX2_bitIn at hrun
  refine lv_iload_n hx hb dX2_bitIn_0 rfl (lv_at hl 2 rfl) ?_
  have J30 : ∀ (y0_30 : Int64) (H : Heap) (locs : List Loc) (ls : Array Slot), (fX2_bitIn_J30 y0_30) = some o → va_P (dC, dI) cls (List.flatten ([(oX2 (p0a 0) p0a p0k p0n p0w p0l)] : List va_W)) H → va_D A (List.flatten ([(oX2 (p0a 0) p0a p0k p0n p0w p0l)] : List va_W)) → va_K (dC, dI) cls (List.flatten ([(tX2 p0k)] : List (List (ClassId × FieldType)))) s → va_S A s.heap H locs → lv_has ls 3 [] → W p l e ({ frames := 0, cells := 0, slots := 0, locals := 0 } : Room) s m ([.ref (p0a 0), .int p1, .int p2] : List Value).toArray below meth c H locs 0 0 Q (F0 m 30 ls [.long y0_30]) := by
    intro y0_30 H locs ls hrun hP hD hK hS hl 
    unfold fX2_bitIn_J30 at hrun
    have ho9 : y0_30 = o := Option.some.inj hrun
    have hP9 : va_P (dC, dI) cls (List.flatten ([(oX2 (p0a 0) p0a p0k p0n p0w p0l)] : List va_W)) H := by first | exact hP | (rw [← ho9]; exact hP)
    have hD9 : va_D A (List.flatten ([(oX2 (p0a 0) p0a p0k p0n p0w p0l)] : List va_W)) := by first | exact hD | (rw [← ho9]; exact hD)
    subst hQ
    exact W.lret (v := y0_30) hx hb hr (fun t ht hW => ⟨⟨y0_30, (), rfl, (by rw [← ho9]), ⟨by rw [ht]; exact hP9, va_K.moved hW.alike hK, hD9⟩⟩, hS.F ht⟩) hS.2.2 dX2_bitIn_30
  have J29 : ∀ (H : Heap) (locs : List Loc) (ls : Array Slot), (fX2_bitIn_J29) = some o → va_P (dC, dI) cls (List.flatten ([(oX2 (p0a 0) p0a p0k p0n p0w p0l)] : List va_W)) H → va_D A (List.flatten ([(oX2 (p0a 0) p0a p0k p0n p0w p0l)] : List va_W)) → va_K (dC, dI) cls (List.flatten ([(tX2 p0k)] : List (List (ClassId × FieldType)))) s → va_S A s.heap H locs → lv_has ls 3 [] → W p l e ({ frames := 0, cells := 0, slots := 0, locals := 0 } : Room) s m ([.ref (p0a 0), .int p1, .int p2] : List Value).toArray below meth c H locs 0 0 Q (F0 m 29 ls []) := by
    intro  H locs ls hrun hP hD hK hS hl 
    unfold fX2_bitIn_J29 at hrun
    refine lv_lconst (v := 0) hx hb dX2_bitIn_29 (by decide) ?_
    exact J30 0 _ _ _ hrun hP hD hK hS (lv_sub hl [] rfl)
  rcases br9 hrun with ⟨hc1, hrun⟩ | ⟨hc1, hrun⟩
  · refine lv_if_lt (tgt := 29) hx hb dX2_bitIn_1 (by decide) (fun _ => ?_) (fun c => absurd hc1 c)
    exact J29 _ _ _ hrun hP hD hK hS (lv_sub hl [] rfl)
  · refine lv_if_lt (tgt := 29) hx hb dX2_bitIn_1 (by decide) (fun c => absurd c hc1) (fun _ => ?_)
    refine lv_iload_n hx hb dX2_bitIn_4 rfl (lv_at hl 2 rfl) ?_
    refine lv_aload_n hx hb dX2_bitIn_5 rfl (lv_at hl 0 rfl) ?_
    refine va_get (D := (dC, dI)) (ci := 9) (v := .int (p0w 0 0)) (C := RX2) (T := TX2) (N := 19) hx hb hts i_X2 hown hK hP 0 rfl rfl 0 (by decide) (hts _ qw667) (fun _ h9 => h9) rfl dX2_bitIn_6 ?_
    rcases br9 hrun with ⟨hc2, hrun⟩ | ⟨hc2, hrun⟩
    · refine lv_icmp_ge (tgt := 29) hx hb dX2_bitIn_9 (by decide) (fun _ => ?_) (fun c => absurd hc2 c)
      exact J29 _ _ _ hrun hP hD hK hS (lv_sub hl [] rfl)
    · refine lv_icmp_ge (tgt := 29) hx hb dX2_bitIn_9 (by decide) (fun c => absurd c hc2) (fun _ => ?_)
      refine lv_iload_n hx hb dX2_bitIn_12 rfl (lv_at hl 2 rfl) ?_
      refine lv_bipush (v := 6) hx hb dX2_bitIn_13 (by decide) ?_
      refine lv_ishr hx hb dX2_bitIn_15 ?_
      refine lv_iload_n hx hb dX2_bitIn_16 rfl (lv_at hl 1 rfl) ?_
      rcases br9 hrun with ⟨hc3, hrun⟩ | ⟨hc3, hrun⟩
      · refine lv_icmp_ne (tgt := 29) hx hb dX2_bitIn_17 (by decide) (fun c => absurd hc3 c) (fun _ => ?_)
        refine lv_lconst (v := 1) hx hb dX2_bitIn_20 (by decide) ?_
        refine lv_iload_n hx hb dX2_bitIn_21 rfl (lv_at hl 2 rfl) ?_
        refine lv_bipush (v := 63) hx hb dX2_bitIn_22 (by decide) ?_
        refine lv_iand hx hb dX2_bitIn_24 ?_
        refine lv_lshl (v := (((1 : Int64) <<< (((p2 &&& 63) : Int32).toInt64 &&& 63)))) hx hb dX2_bitIn_25 rfl ?_
        refine lv_goto (tgt := 30) hx hb dX2_bitIn_26 (by decide) ?_
        exact J30 (((1 : Int64) <<< (((p2 &&& 63) : Int32).toInt64 &&& 63))) _ _ _ hrun hP hD hK hS (lv_sub hl [] rfl)
      · refine lv_icmp_ne (tgt := 29) hx hb dX2_bitIn_17 (by decide) (fun _ => ?_) (fun c => absurd c hc3)
        exact J29 _ _ _ hrun hP hD hK hS (lv_sub hl [] rfl)
