abbrev cX2_removeLive : ByteArray := prog_4_method_14_code
def yX2_removeLive : MethodName := ⟨RX2, "removeLive", "(I)V"⟩
abbrev cX2_spreadInto : ByteArray := prog_4_method_9_code
def yX2_spreadInto : MethodName := ⟨RX2, "spreadInto", "(II)Z"⟩
abbrev cX2_spreadLife : ByteArray := prog_4_method_8_code
def yX2_spreadLife : MethodName := ⟨RX2, "spreadLife", "(LGearbox$Flow;)V"⟩
abbrev cX3_argumentOf : ByteArray := prog_5_method_15_code
def yX3_argumentOf : MethodName := ⟨RX3, "argumentOf", "(II)I"⟩
abbrev cX3_bringBack : ByteArray := prog_5_method_5_code
def yX3_bringBack : MethodName := ⟨RX3, "bringBack", "([I)V"⟩
abbrev cX3_close : ByteArray := prog_5_method_10_code
def yX3_close : MethodName := ⟨RX3, "close", "(I)Z"⟩
abbrev cX3_stop : ByteArray := prog_5_method_11_code
def yX3_stop : MethodName := ⟨RX3, "stop", "(I)V"⟩
abbrev cX3_endAlike : ByteArray := prog_5_method_6_code
def yX3_endAlike : MethodName := ⟨RX3, "endAlike", "([I[I)Z"⟩
abbrev cX3_enter : ByteArray := prog_5_method_9_code
def yX3_enter : MethodName := ⟨RX3, "enter", "(II)V"⟩
abbrev cX3_pop : ByteArray := prog_5_method_14_code
def yX3_pop : MethodName := ⟨RX3, "pop", "()I"⟩
abbrev cX3_enterBlock : ByteArray := prog_5_method_23_code
def yX3_enterBlock : MethodName := ⟨RX3, "enterBlock", "(LGearbox$Flow;I)V"⟩
abbrev cX3_tick : ByteArray := prog_5_method_12_code
def yX3_tick : MethodName := ⟨RX3, "tick", "(I)Z"⟩
abbrev cX3_giveBack : ByteArray := prog_5_method_25_code
def yX3_giveBack : MethodName := ⟨RX3, "giveBack", "(LGearbox$Flow;I)V"⟩
abbrev cX3_moveVariable : ByteArray := prog_5_method_20_code
def yX3_moveVariable : MethodName := ⟨RX3, "moveVariable", "(III)V"⟩
abbrev cX3_push : ByteArray := prog_5_method_13_code
def yX3_push : MethodName := ⟨RX3, "push", "(I)V"⟩
abbrev cX3_moveWord : ByteArray := prog_5_method_21_code
def yX3_moveWord : MethodName := ⟨RX3, "moveWord", "(III)V"⟩
abbrev cX3_readWord : ByteArray := prog_5_method_17_code
def yX3_readWord : MethodName := ⟨RX3, "readWord", "(I)I"⟩
abbrev cX3_writeWord : ByteArray := prog_5_method_18_code
def yX3_writeWord : MethodName := ⟨RX3, "writeWord", "(II)V"⟩
abbrev cX3_operate : ByteArray := prog_5_method_16_code
def yX3_operate : MethodName := ⟨RX3, "operate", "(III)I"⟩
theorem dX2_removeLive_0 : decode cX2_removeLive 0 = .ok (.iload_n 1, 1) := by decide +kernel
theorem dX2_removeLive_1 : decode cX2_removeLive 1 = .ok (.aload_n 0, 1) := by decide +kernel
theorem dX2_removeLive_2 : decode cX2_removeLive 2 = .ok (.getfield 58, 3) := by decide +kernel
theorem dX2_removeLive_5 : decode cX2_removeLive 5 = .ok (.if_icmp .ge 26, 3) := by decide +kernel
theorem dX2_removeLive_8 : decode cX2_removeLive 8 = .ok (.aload_n 0, 1) := by decide +kernel
theorem dX2_removeLive_9 : decode cX2_removeLive 9 = .ok (.getfield 21, 3) := by decide +kernel
theorem dX2_removeLive_12 : decode cX2_removeLive 12 = .ok (.iload_n 1, 1) := by decide +kernel
theorem dX2_removeLive_13 : decode cX2_removeLive 13 = .ok (.bipush 6, 2) := by decide +kernel
theorem dX2_removeLive_15 : decode cX2_removeLive 15 = .ok (.ishr, 1) := by decide +kernel
theorem dX2_removeLive_16 : decode cX2_removeLive 16 = .ok (.dup2, 1) := by decide +kernel
theorem dX2_removeLive_17 : decode cX2_removeLive 17 = .ok (.laload, 1) := by decide +kernel
theorem dX2_removeLive_18 : decode cX2_removeLive 18 = .ok (.lconst 1, 1) := by decide +kernel
theorem dX2_removeLive_19 : decode cX2_removeLive 19 = .ok (.iload_n 1, 1) := by decide +kernel
theorem dX2_removeLive_20 : decode cX2_removeLive 20 = .ok (.bipush 63, 2) := by decide +kernel
theorem dX2_removeLive_22 : decode cX2_removeLive 22 = .ok (.iand, 1) := by decide +kernel
theorem dX2_removeLive_23 : decode cX2_removeLive 23 = .ok (.lshl, 1) := by decide +kernel
theorem dX2_removeLive_24 : decode cX2_removeLive 24 = .ok (.ldc2_w 175, 3) := by decide +kernel
theorem dX2_removeLive_27 : decode cX2_removeLive 27 = .ok (.lxor, 1) := by decide +kernel
theorem dX2_removeLive_28 : decode cX2_removeLive 28 = .ok (.land, 1) := by decide +kernel
theorem dX2_removeLive_29 : decode cX2_removeLive 29 = .ok (.lastore, 1) := by decide +kernel
theorem dX2_removeLive_30 : decode cX2_removeLive 30 = .ok (.return_, 1) := by decide +kernel
theorem dX2_removeLive_31 : decode cX2_removeLive 31 = .ok (.iconst 0, 1) := by decide +kernel
theorem dX2_removeLive_32 : decode cX2_removeLive 32 = .ok (.istore_n 2, 1) := by decide +kernel
theorem dX2_removeLive_33 : decode cX2_removeLive 33 = .ok (.iload_n 2, 1) := by decide +kernel
theorem dX2_removeLive_34 : decode cX2_removeLive 34 = .ok (.aload_n 0, 1) := by decide +kernel
theorem dX2_removeLive_35 : decode cX2_removeLive 35 = .ok (.getfield 180, 3) := by decide +kernel
theorem dX2_removeLive_38 : decode cX2_removeLive 38 = .ok (.if_icmp .ge 45, 3) := by decide +kernel
theorem dX2_removeLive_41 : decode cX2_removeLive 41 = .ok (.aload_n 0, 1) := by decide +kernel
theorem dX2_removeLive_42 : decode cX2_removeLive 42 = .ok (.getfield 24, 3) := by decide +kernel
theorem dX2_removeLive_45 : decode cX2_removeLive 45 = .ok (.iload_n 2, 1) := by decide +kernel
theorem dX2_removeLive_46 : decode cX2_removeLive 46 = .ok (.iaload, 1) := by decide +kernel
theorem dX2_removeLive_47 : decode cX2_removeLive 47 = .ok (.iload_n 1, 1) := by decide +kernel
theorem dX2_removeLive_48 : decode cX2_removeLive 48 = .ok (.if_icmp .ne 29, 3) := by decide +kernel
theorem dX2_removeLive_51 : decode cX2_removeLive 51 = .ok (.aload_n 0, 1) := by decide +kernel
theorem dX2_removeLive_52 : decode cX2_removeLive 52 = .ok (.dup, 1) := by decide +kernel
theorem dX2_removeLive_53 : decode cX2_removeLive 53 = .ok (.getfield 180, 3) := by decide +kernel
theorem dX2_removeLive_56 : decode cX2_removeLive 56 = .ok (.iconst 1, 1) := by decide +kernel
theorem dX2_removeLive_57 : decode cX2_removeLive 57 = .ok (.isub, 1) := by decide +kernel
theorem dX2_removeLive_58 : decode cX2_removeLive 58 = .ok (.putfield 180, 3) := by decide +kernel
theorem dX2_removeLive_61 : decode cX2_removeLive 61 = .ok (.aload_n 0, 1) := by decide +kernel
theorem dX2_removeLive_62 : decode cX2_removeLive 62 = .ok (.getfield 24, 3) := by decide +kernel
theorem dX2_removeLive_65 : decode cX2_removeLive 65 = .ok (.iload_n 2, 1) := by decide +kernel
theorem dX2_removeLive_66 : decode cX2_removeLive 66 = .ok (.aload_n 0, 1) := by decide +kernel
theorem dX2_removeLive_67 : decode cX2_removeLive 67 = .ok (.getfield 24, 3) := by decide +kernel
theorem dX2_removeLive_70 : decode cX2_removeLive 70 = .ok (.aload_n 0, 1) := by decide +kernel
theorem dX2_removeLive_71 : decode cX2_removeLive 71 = .ok (.getfield 180, 3) := by decide +kernel
theorem dX2_removeLive_74 : decode cX2_removeLive 74 = .ok (.iaload, 1) := by decide +kernel
theorem dX2_removeLive_75 : decode cX2_removeLive 75 = .ok (.iastore, 1) := by decide +kernel
theorem dX2_removeLive_76 : decode cX2_removeLive 76 = .ok (.return_, 1) := by decide +kernel
theorem dX2_removeLive_77 : decode cX2_removeLive 77 = .ok (.iinc 2 1, 3) := by decide +kernel
theorem dX2_removeLive_80 : decode cX2_removeLive 80 = .ok (.goto (-47), 3) := by decide +kernel
theorem dX2_removeLive_83 : decode cX2_removeLive 83 = .ok (.return_, 1) := by decide +kernel
theorem dX2_spreadInto_0 : decode cX2_spreadInto 0 = .ok (.iload_n 1, 1) := by decide +kernel
theorem dX2_spreadInto_1 : decode cX2_spreadInto 1 = .ok (.ifCond .ge 5, 3) := by decide +kernel
theorem dX2_spreadInto_4 : decode cX2_spreadInto 4 = .ok (.iconst 0, 1) := by decide +kernel
theorem dX2_spreadInto_5 : decode cX2_spreadInto 5 = .ok (.ireturn, 1) := by decide +kernel
theorem dX2_spreadInto_6 : decode cX2_spreadInto 6 = .ok (.iconst 0, 1) := by decide +kernel
theorem dX2_spreadInto_7 : decode cX2_spreadInto 7 = .ok (.istore_n 3, 1) := by decide +kernel
theorem dX2_spreadInto_8 : decode cX2_spreadInto 8 = .ok (.iconst 0, 1) := by decide +kernel
theorem dX2_spreadInto_9 : decode cX2_spreadInto 9 = .ok (.istore 4, 2) := by decide +kernel
theorem dX2_spreadInto_11 : decode cX2_spreadInto 11 = .ok (.iload 4, 2) := by decide +kernel
theorem dX2_spreadInto_13 : decode cX2_spreadInto 13 = .ok (.aload_n 0, 1) := by decide +kernel
theorem dX2_spreadInto_14 : decode cX2_spreadInto 14 = .ok (.getfield 65, 3) := by decide +kernel
theorem dX2_spreadInto_17 : decode cX2_spreadInto 17 = .ok (.if_icmp .ge 99, 3) := by decide +kernel
theorem dX2_spreadInto_20 : decode cX2_spreadInto 20 = .ok (.aload_n 0, 1) := by decide +kernel
theorem dX2_spreadInto_21 : decode cX2_spreadInto 21 = .ok (.getfield 18, 3) := by decide +kernel
theorem dX2_spreadInto_24 : decode cX2_spreadInto 24 = .ok (.iload_n 1, 1) := by decide +kernel
theorem dX2_spreadInto_25 : decode cX2_spreadInto 25 = .ok (.aload_n 0, 1) := by decide +kernel
theorem dX2_spreadInto_26 : decode cX2_spreadInto 26 = .ok (.getfield 65, 3) := by decide +kernel
theorem dX2_spreadInto_29 : decode cX2_spreadInto 29 = .ok (.imul, 1) := by decide +kernel
theorem dX2_spreadInto_30 : decode cX2_spreadInto 30 = .ok (.iload 4, 2) := by decide +kernel
theorem dX2_spreadInto_32 : decode cX2_spreadInto 32 = .ok (.iadd, 1) := by decide +kernel
theorem dX2_spreadInto_33 : decode cX2_spreadInto 33 = .ok (.laload, 1) := by decide +kernel
theorem dX2_spreadInto_34 : decode cX2_spreadInto 34 = .ok (.aload_n 0, 1) := by decide +kernel
theorem dX2_spreadInto_35 : decode cX2_spreadInto 35 = .ok (.getfield 15, 3) := by decide +kernel
theorem dX2_spreadInto_38 : decode cX2_spreadInto 38 = .ok (.iload_n 2, 1) := by decide +kernel
theorem dX2_spreadInto_39 : decode cX2_spreadInto 39 = .ok (.aload_n 0, 1) := by decide +kernel
theorem dX2_spreadInto_40 : decode cX2_spreadInto 40 = .ok (.getfield 65, 3) := by decide +kernel
theorem dX2_spreadInto_43 : decode cX2_spreadInto 43 = .ok (.imul, 1) := by decide +kernel
theorem dX2_spreadInto_44 : decode cX2_spreadInto 44 = .ok (.iload 4, 2) := by decide +kernel
theorem dX2_spreadInto_46 : decode cX2_spreadInto 46 = .ok (.iadd, 1) := by decide +kernel
theorem dX2_spreadInto_47 : decode cX2_spreadInto 47 = .ok (.laload, 1) := by decide +kernel
theorem dX2_spreadInto_48 : decode cX2_spreadInto 48 = .ok (.ldc2_w 175, 3) := by decide +kernel
theorem dX2_spreadInto_51 : decode cX2_spreadInto 51 = .ok (.lxor, 1) := by decide +kernel
theorem dX2_spreadInto_52 : decode cX2_spreadInto 52 = .ok (.land, 1) := by decide +kernel
theorem dX2_spreadInto_53 : decode cX2_spreadInto 53 = .ok (.aload_n 0, 1) := by decide +kernel
theorem dX2_spreadInto_54 : decode cX2_spreadInto 54 = .ok (.getfield 18, 3) := by decide +kernel
theorem dX2_spreadInto_57 : decode cX2_spreadInto 57 = .ok (.iload_n 2, 1) := by decide +kernel
theorem dX2_spreadInto_58 : decode cX2_spreadInto 58 = .ok (.aload_n 0, 1) := by decide +kernel
theorem dX2_spreadInto_59 : decode cX2_spreadInto 59 = .ok (.getfield 65, 3) := by decide +kernel
theorem dX2_spreadInto_62 : decode cX2_spreadInto 62 = .ok (.imul, 1) := by decide +kernel
theorem dX2_spreadInto_63 : decode cX2_spreadInto 63 = .ok (.iload 4, 2) := by decide +kernel
theorem dX2_spreadInto_65 : decode cX2_spreadInto 65 = .ok (.iadd, 1) := by decide +kernel
theorem dX2_spreadInto_66 : decode cX2_spreadInto 66 = .ok (.laload, 1) := by decide +kernel
theorem dX2_spreadInto_67 : decode cX2_spreadInto 67 = .ok (.ldc2_w 175, 3) := by decide +kernel
theorem dX2_spreadInto_70 : decode cX2_spreadInto 70 = .ok (.lxor, 1) := by decide +kernel
theorem dX2_spreadInto_71 : decode cX2_spreadInto 71 = .ok (.land, 1) := by decide +kernel
theorem dX2_spreadInto_72 : decode cX2_spreadInto 72 = .ok (.lstore 5, 2) := by decide +kernel
theorem dX2_spreadInto_74 : decode cX2_spreadInto 74 = .ok (.aload_n 0, 1) := by decide +kernel
theorem dX2_spreadInto_75 : decode cX2_spreadInto 75 = .ok (.getfield 18, 3) := by decide +kernel
theorem dX2_spreadInto_78 : decode cX2_spreadInto 78 = .ok (.iload_n 2, 1) := by decide +kernel
theorem dX2_spreadInto_79 : decode cX2_spreadInto 79 = .ok (.aload_n 0, 1) := by decide +kernel
theorem dX2_spreadInto_80 : decode cX2_spreadInto 80 = .ok (.getfield 65, 3) := by decide +kernel
theorem dX2_spreadInto_83 : decode cX2_spreadInto 83 = .ok (.imul, 1) := by decide +kernel
theorem dX2_spreadInto_84 : decode cX2_spreadInto 84 = .ok (.iload 4, 2) := by decide +kernel
theorem dX2_spreadInto_86 : decode cX2_spreadInto 86 = .ok (.iadd, 1) := by decide +kernel
theorem dX2_spreadInto_87 : decode cX2_spreadInto 87 = .ok (.dup2, 1) := by decide +kernel
theorem dX2_spreadInto_88 : decode cX2_spreadInto 88 = .ok (.laload, 1) := by decide +kernel
theorem dX2_spreadInto_89 : decode cX2_spreadInto 89 = .ok (.lload 5, 2) := by decide +kernel
theorem dX2_spreadInto_91 : decode cX2_spreadInto 91 = .ok (.lor, 1) := by decide +kernel
theorem dX2_spreadInto_92 : decode cX2_spreadInto 92 = .ok (.lastore, 1) := by decide +kernel
theorem dX2_spreadInto_93 : decode cX2_spreadInto 93 = .ok (.iload_n 3, 1) := by decide +kernel
theorem dX2_spreadInto_94 : decode cX2_spreadInto 94 = .ok (.ifCond .ne 10, 3) := by decide +kernel
theorem dX2_spreadInto_97 : decode cX2_spreadInto 97 = .ok (.lload 5, 2) := by decide +kernel
theorem dX2_spreadInto_99 : decode cX2_spreadInto 99 = .ok (.lconst 0, 1) := by decide +kernel
theorem dX2_spreadInto_100 : decode cX2_spreadInto 100 = .ok (.lcmp, 1) := by decide +kernel
theorem dX2_spreadInto_101 : decode cX2_spreadInto 101 = .ok (.ifCond .eq 7, 3) := by decide +kernel
theorem dX2_spreadInto_104 : decode cX2_spreadInto 104 = .ok (.iconst 1, 1) := by decide +kernel
theorem dX2_spreadInto_105 : decode cX2_spreadInto 105 = .ok (.goto 4, 3) := by decide +kernel
theorem dX2_spreadInto_108 : decode cX2_spreadInto 108 = .ok (.iconst 0, 1) := by decide +kernel
theorem dX2_spreadInto_109 : decode cX2_spreadInto 109 = .ok (.istore_n 3, 1) := by decide +kernel
theorem dX2_spreadInto_110 : decode cX2_spreadInto 110 = .ok (.iinc 4 1, 3) := by decide +kernel
theorem dX2_spreadInto_113 : decode cX2_spreadInto 113 = .ok (.goto (-102), 3) := by decide +kernel
theorem dX2_spreadInto_116 : decode cX2_spreadInto 116 = .ok (.iload_n 3, 1) := by decide +kernel
theorem dX2_spreadInto_117 : decode cX2_spreadInto 117 = .ok (.ireturn, 1) := by decide +kernel
theorem dX2_spreadLife_0 : decode cX2_spreadLife 0 = .ok (.aload_n 0, 1) := by decide +kernel
theorem dX2_spreadLife_1 : decode cX2_spreadLife 1 = .ok (.getfield 11, 3) := by decide +kernel
theorem dX2_spreadLife_4 : decode cX2_spreadLife 4 = .ok (.iconst 0, 1) := by decide +kernel
theorem dX2_spreadLife_5 : decode cX2_spreadLife 5 = .ok (.aload_n 0, 1) := by decide +kernel
theorem dX2_spreadLife_6 : decode cX2_spreadLife 6 = .ok (.getfield 18, 3) := by decide +kernel
theorem dX2_spreadLife_9 : decode cX2_spreadLife 9 = .ok (.iconst 0, 1) := by decide +kernel
theorem dX2_spreadLife_10 : decode cX2_spreadLife 10 = .ok (.aload_n 1, 1) := by decide +kernel
theorem dX2_spreadLife_11 : decode cX2_spreadLife 11 = .ok (.getfield 68, 3) := by decide +kernel
theorem dX2_spreadLife_14 : decode cX2_spreadLife 14 = .ok (.aload_n 0, 1) := by decide +kernel
theorem dX2_spreadLife_15 : decode cX2_spreadLife 15 = .ok (.getfield 65, 3) := by decide +kernel
theorem dX2_spreadLife_18 : decode cX2_spreadLife 18 = .ok (.imul, 1) := by decide +kernel
theorem dX2_spreadLife_19 : decode cX2_spreadLife 19 = .ok (.invokestatic 158, 3) := by decide +kernel
theorem dX2_spreadLife_22 : decode cX2_spreadLife 22 = .ok (.iconst 1, 1) := by decide +kernel
theorem dX2_spreadLife_23 : decode cX2_spreadLife 23 = .ok (.istore_n 2, 1) := by decide +kernel
theorem dX2_spreadLife_24 : decode cX2_spreadLife 24 = .ok (.iconst 0, 1) := by decide +kernel
theorem dX2_spreadLife_25 : decode cX2_spreadLife 25 = .ok (.istore_n 3, 1) := by decide +kernel
theorem dX2_spreadLife_26 : decode cX2_spreadLife 26 = .ok (.iload_n 2, 1) := by decide +kernel
theorem dX2_spreadLife_27 : decode cX2_spreadLife 27 = .ok (.ifCond .eq 82, 3) := by decide +kernel
theorem dX2_spreadLife_30 : decode cX2_spreadLife 30 = .ok (.iload_n 3, 1) := by decide +kernel
theorem dX2_spreadLife_31 : decode cX2_spreadLife 31 = .ok (.ldc 164, 2) := by decide +kernel
theorem dX2_spreadLife_33 : decode cX2_spreadLife 33 = .ok (.if_icmp .ge 76, 3) := by decide +kernel
theorem dX2_spreadLife_36 : decode cX2_spreadLife 36 = .ok (.iconst 0, 1) := by decide +kernel
theorem dX2_spreadLife_37 : decode cX2_spreadLife 37 = .ok (.istore_n 2, 1) := by decide +kernel
theorem dX2_spreadLife_38 : decode cX2_spreadLife 38 = .ok (.aload_n 1, 1) := by decide +kernel
theorem dX2_spreadLife_39 : decode cX2_spreadLife 39 = .ok (.getfield 68, 3) := by decide +kernel
theorem dX2_spreadLife_42 : decode cX2_spreadLife 42 = .ok (.iconst 1, 1) := by decide +kernel
theorem dX2_spreadLife_43 : decode cX2_spreadLife 43 = .ok (.isub, 1) := by decide +kernel
theorem dX2_spreadLife_44 : decode cX2_spreadLife 44 = .ok (.istore 4, 2) := by decide +kernel
theorem dX2_spreadLife_46 : decode cX2_spreadLife 46 = .ok (.iload 4, 2) := by decide +kernel
theorem dX2_spreadLife_48 : decode cX2_spreadLife 48 = .ok (.ifCond .lt 55, 3) := by decide +kernel
theorem dX2_spreadLife_51 : decode cX2_spreadLife 51 = .ok (.aload_n 0, 1) := by decide +kernel
theorem dX2_spreadLife_52 : decode cX2_spreadLife 52 = .ok (.aload_n 1, 1) := by decide +kernel
theorem dX2_spreadLife_53 : decode cX2_spreadLife 53 = .ok (.getfield 165, 3) := by decide +kernel
theorem dX2_spreadLife_56 : decode cX2_spreadLife 56 = .ok (.iload 4, 2) := by decide +kernel
theorem dX2_spreadLife_58 : decode cX2_spreadLife 58 = .ok (.iaload, 1) := by decide +kernel
theorem dX2_spreadLife_59 : decode cX2_spreadLife 59 = .ok (.iload 4, 2) := by decide +kernel
theorem dX2_spreadLife_61 : decode cX2_spreadLife 61 = .ok (.invokevirtual 168, 3) := by decide +kernel
theorem dX2_spreadLife_64 : decode cX2_spreadLife 64 = .ok (.istore 5, 2) := by decide +kernel
theorem dX2_spreadLife_66 : decode cX2_spreadLife 66 = .ok (.aload_n 0, 1) := by decide +kernel
theorem dX2_spreadLife_67 : decode cX2_spreadLife 67 = .ok (.aload_n 1, 1) := by decide +kernel
theorem dX2_spreadLife_68 : decode cX2_spreadLife 68 = .ok (.getfield 172, 3) := by decide +kernel
theorem dX2_spreadLife_71 : decode cX2_spreadLife 71 = .ok (.iload 4, 2) := by decide +kernel
theorem dX2_spreadLife_73 : decode cX2_spreadLife 73 = .ok (.iaload, 1) := by decide +kernel
theorem dX2_spreadLife_74 : decode cX2_spreadLife 74 = .ok (.iload 4, 2) := by decide +kernel
theorem dX2_spreadLife_76 : decode cX2_spreadLife 76 = .ok (.invokevirtual 168, 3) := by decide +kernel
theorem dX2_spreadLife_79 : decode cX2_spreadLife 79 = .ok (.ifCond .ne 12, 3) := by decide +kernel
theorem dX2_spreadLife_82 : decode cX2_spreadLife 82 = .ok (.iload 5, 2) := by decide +kernel
theorem dX2_spreadLife_84 : decode cX2_spreadLife 84 = .ok (.ifCond .ne 7, 3) := by decide +kernel
theorem dX2_spreadLife_87 : decode cX2_spreadLife 87 = .ok (.iload_n 2, 1) := by decide +kernel
theorem dX2_spreadLife_88 : decode cX2_spreadLife 88 = .ok (.ifCond .eq 7, 3) := by decide +kernel
theorem dX2_spreadLife_91 : decode cX2_spreadLife 91 = .ok (.iconst 1, 1) := by decide +kernel
theorem dX2_spreadLife_92 : decode cX2_spreadLife 92 = .ok (.goto 4, 3) := by decide +kernel
theorem dX2_spreadLife_95 : decode cX2_spreadLife 95 = .ok (.iconst 0, 1) := by decide +kernel
theorem dX2_spreadLife_96 : decode cX2_spreadLife 96 = .ok (.istore_n 2, 1) := by decide +kernel
theorem dX2_spreadLife_97 : decode cX2_spreadLife 97 = .ok (.iinc 4 (-1), 3) := by decide +kernel
theorem dX2_spreadLife_100 : decode cX2_spreadLife 100 = .ok (.goto (-54), 3) := by decide +kernel
theorem dX2_spreadLife_103 : decode cX2_spreadLife 103 = .ok (.iinc 3 1, 3) := by decide +kernel
theorem dX2_spreadLife_106 : decode cX2_spreadLife 106 = .ok (.goto (-80), 3) := by decide +kernel
theorem dX2_spreadLife_109 : decode cX2_spreadLife 109 = .ok (.return_, 1) := by decide +kernel
theorem dX3_argumentOf_0 : decode cX3_argumentOf 0 = .ok (.aload_n 0, 1) := by decide +kernel
theorem dX3_argumentOf_1 : decode cX3_argumentOf 1 = .ok (.getfield 30, 3) := by decide +kernel
theorem dX3_argumentOf_4 : decode cX3_argumentOf 4 = .ok (.iload_n 1, 1) := by decide +kernel
theorem dX3_argumentOf_5 : decode cX3_argumentOf 5 = .ok (.iconst 4, 1) := by decide +kernel
theorem dX3_argumentOf_6 : decode cX3_argumentOf 6 = .ok (.imul, 1) := by decide +kernel
theorem dX3_argumentOf_7 : decode cX3_argumentOf 7 = .ok (.iload_n 2, 1) := by decide +kernel
theorem dX3_argumentOf_8 : decode cX3_argumentOf 8 = .ok (.iadd, 1) := by decide +kernel
theorem dX3_argumentOf_9 : decode cX3_argumentOf 9 = .ok (.iaload, 1) := by decide +kernel
theorem dX3_argumentOf_10 : decode cX3_argumentOf 10 = .ok (.ireturn, 1) := by decide +kernel
theorem dX3_bringBack_0 : decode cX3_bringBack 0 = .ok (.aload_n 0, 1) := by decide +kernel
theorem dX3_bringBack_1 : decode cX3_bringBack 1 = .ok (.aload_n 1, 1) := by decide +kernel
theorem dX3_bringBack_2 : decode cX3_bringBack 2 = .ok (.iconst 0, 1) := by decide +kernel
theorem dX3_bringBack_3 : decode cX3_bringBack 3 = .ok (.iaload, 1) := by decide +kernel
theorem dX3_bringBack_4 : decode cX3_bringBack 4 = .ok (.putfield 54, 3) := by decide +kernel
theorem dX3_bringBack_7 : decode cX3_bringBack 7 = .ok (.aload_n 0, 1) := by decide +kernel
theorem dX3_bringBack_8 : decode cX3_bringBack 8 = .ok (.aload_n 1, 1) := by decide +kernel
theorem dX3_bringBack_9 : decode cX3_bringBack 9 = .ok (.iconst 1, 1) := by decide +kernel
theorem dX3_bringBack_10 : decode cX3_bringBack 10 = .ok (.iaload, 1) := by decide +kernel
theorem dX3_bringBack_11 : decode cX3_bringBack 11 = .ok (.putfield 58, 3) := by decide +kernel
theorem dX3_bringBack_14 : decode cX3_bringBack 14 = .ok (.aload_n 0, 1) := by decide +kernel
theorem dX3_bringBack_15 : decode cX3_bringBack 15 = .ok (.aload_n 1, 1) := by decide +kernel
theorem dX3_bringBack_16 : decode cX3_bringBack 16 = .ok (.iconst 2, 1) := by decide +kernel
theorem dX3_bringBack_17 : decode cX3_bringBack 17 = .ok (.iaload, 1) := by decide +kernel
theorem dX3_bringBack_18 : decode cX3_bringBack 18 = .ok (.putfield 61, 3) := by decide +kernel
theorem dX3_bringBack_21 : decode cX3_bringBack 21 = .ok (.aload_n 1, 1) := by decide +kernel
theorem dX3_bringBack_22 : decode cX3_bringBack 22 = .ok (.iconst 3, 1) := by decide +kernel
theorem dX3_bringBack_23 : decode cX3_bringBack 23 = .ok (.aload_n 0, 1) := by decide +kernel
theorem dX3_bringBack_24 : decode cX3_bringBack 24 = .ok (.getfield 9, 3) := by decide +kernel
theorem dX3_bringBack_27 : decode cX3_bringBack 27 = .ok (.iconst 0, 1) := by decide +kernel
theorem dX3_bringBack_28 : decode cX3_bringBack 28 = .ok (.bipush 16, 2) := by decide +kernel
theorem dX3_bringBack_30 : decode cX3_bringBack 30 = .ok (.invokestatic 70, 3) := by decide +kernel
theorem dX3_bringBack_33 : decode cX3_bringBack 33 = .ok (.return_, 1) := by decide +kernel
theorem dX3_close_0 : decode cX3_close 0 = .ok (.aload_n 0, 1) := by decide +kernel
theorem dX3_close_1 : decode cX3_close 1 = .ok (.dup, 1) := by decide +kernel
theorem dX3_close_2 : decode cX3_close 2 = .ok (.getfield 84, 3) := by decide +kernel
theorem dX3_close_5 : decode cX3_close 5 = .ok (.iconst 1, 1) := by decide +kernel
theorem dX3_close_6 : decode cX3_close 6 = .ok (.isub, 1) := by decide +kernel
theorem dX3_close_7 : decode cX3_close 7 = .ok (.putfield 84, 3) := by decide +kernel
theorem dX3_close_10 : decode cX3_close 10 = .ok (.aload_n 0, 1) := by decide +kernel
theorem dX3_close_11 : decode cX3_close 11 = .ok (.getfield 84, 3) := by decide +kernel
theorem dX3_close_14 : decode cX3_close 14 = .ok (.ifCond .ne 13, 3) := by decide +kernel
theorem dX3_close_17 : decode cX3_close 17 = .ok (.aload_n 0, 1) := by decide +kernel
theorem dX3_close_18 : decode cX3_close 18 = .ok (.iconst 0, 1) := by decide +kernel
theorem dX3_close_19 : decode cX3_close 19 = .ok (.invokevirtual 137, 3) := by decide +kernel
theorem dX3_close_22 : decode cX3_close 22 = .ok (.aload_n 0, 1) := by decide +kernel
theorem dX3_close_23 : decode cX3_close 23 = .ok (.iload_n 1, 1) := by decide +kernel
theorem dX3_close_24 : decode cX3_close 24 = .ok (.putfield 58, 3) := by decide +kernel
theorem dX3_close_27 : decode cX3_close 27 = .ok (.aload_n 0, 1) := by decide +kernel
theorem dX3_close_28 : decode cX3_close 28 = .ok (.getfield 84, 3) := by decide +kernel
theorem dX3_close_31 : decode cX3_close 31 = .ok (.ifCond .le 7, 3) := by decide +kernel
theorem dX3_close_34 : decode cX3_close 34 = .ok (.iconst 1, 1) := by decide +kernel
theorem dX3_close_35 : decode cX3_close 35 = .ok (.goto 4, 3) := by decide +kernel
theorem dX3_close_38 : decode cX3_close 38 = .ok (.iconst 0, 1) := by decide +kernel
theorem dX3_close_39 : decode cX3_close 39 = .ok (.ireturn, 1) := by decide +kernel
theorem dX3_endAlike_0 : decode cX3_endAlike 0 = .ok (.iconst 0, 1) := by decide +kernel
theorem dX3_endAlike_1 : decode cX3_endAlike 1 = .ok (.istore_n 2, 1) := by decide +kernel
theorem dX3_endAlike_2 : decode cX3_endAlike 2 = .ok (.iload_n 2, 1) := by decide +kernel
theorem dX3_endAlike_3 : decode cX3_endAlike 3 = .ok (.bipush 19, 2) := by decide +kernel
theorem dX3_endAlike_5 : decode cX3_endAlike 5 = .ok (.if_icmp .ge 25, 3) := by decide +kernel
theorem dX3_endAlike_8 : decode cX3_endAlike 8 = .ok (.iload_n 2, 1) := by decide +kernel
theorem dX3_endAlike_9 : decode cX3_endAlike 9 = .ok (.iconst 2, 1) := by decide +kernel
theorem dX3_endAlike_10 : decode cX3_endAlike 10 = .ok (.if_icmp .eq 14, 3) := by decide +kernel
theorem dX3_endAlike_13 : decode cX3_endAlike 13 = .ok (.aload_n 0, 1) := by decide +kernel
theorem dX3_endAlike_14 : decode cX3_endAlike 14 = .ok (.iload_n 2, 1) := by decide +kernel
theorem dX3_endAlike_15 : decode cX3_endAlike 15 = .ok (.iaload, 1) := by decide +kernel
theorem dX3_endAlike_16 : decode cX3_endAlike 16 = .ok (.aload_n 1, 1) := by decide +kernel
theorem dX3_endAlike_17 : decode cX3_endAlike 17 = .ok (.iload_n 2, 1) := by decide +kernel
theorem dX3_endAlike_18 : decode cX3_endAlike 18 = .ok (.iaload, 1) := by decide +kernel
theorem dX3_endAlike_19 : decode cX3_endAlike 19 = .ok (.if_icmp .eq 5, 3) := by decide +kernel
theorem dX3_endAlike_22 : decode cX3_endAlike 22 = .ok (.iconst 0, 1) := by decide +kernel
theorem dX3_endAlike_23 : decode cX3_endAlike 23 = .ok (.ireturn, 1) := by decide +kernel
theorem dX3_endAlike_24 : decode cX3_endAlike 24 = .ok (.iinc 2 1, 3) := by decide +kernel
theorem dX3_endAlike_27 : decode cX3_endAlike 27 = .ok (.goto (-25), 3) := by decide +kernel
theorem dX3_endAlike_30 : decode cX3_endAlike 30 = .ok (.iconst 1, 1) := by decide +kernel
theorem dX3_endAlike_31 : decode cX3_endAlike 31 = .ok (.ireturn, 1) := by decide +kernel
theorem dX3_enter_0 : decode cX3_enter 0 = .ok (.aload_n 0, 1) := by decide +kernel
theorem dX3_enter_1 : decode cX3_enter 1 = .ok (.getfield 84, 3) := by decide +kernel
theorem dX3_enter_4 : decode cX3_enter 4 = .ok (.bipush 8, 2) := by decide +kernel
theorem dX3_enter_6 : decode cX3_enter 6 = .ok (.if_icmp .ne 9, 3) := by decide +kernel
theorem dX3_enter_9 : decode cX3_enter 9 = .ok (.aload_n 0, 1) := by decide +kernel
theorem dX3_enter_10 : decode cX3_enter 10 = .ok (.iconst 3, 1) := by decide +kernel
theorem dX3_enter_11 : decode cX3_enter 11 = .ok (.invokevirtual 137, 3) := by decide +kernel
theorem dX3_enter_14 : decode cX3_enter 14 = .ok (.return_, 1) := by decide +kernel
theorem dX3_enter_15 : decode cX3_enter 15 = .ok (.aload_n 0, 1) := by decide +kernel
theorem dX3_enter_16 : decode cX3_enter 16 = .ok (.getfield 84, 3) := by decide +kernel
theorem dX3_enter_19 : decode cX3_enter 19 = .ok (.istore_n 3, 1) := by decide +kernel
theorem dX3_enter_20 : decode cX3_enter 20 = .ok (.aload_n 0, 1) := by decide +kernel
theorem dX3_enter_21 : decode cX3_enter 21 = .ok (.dup, 1) := by decide +kernel
theorem dX3_enter_22 : decode cX3_enter 22 = .ok (.getfield 84, 3) := by decide +kernel
theorem dX3_enter_25 : decode cX3_enter 25 = .ok (.iconst 1, 1) := by decide +kernel
theorem dX3_enter_26 : decode cX3_enter 26 = .ok (.iadd, 1) := by decide +kernel
theorem dX3_enter_27 : decode cX3_enter 27 = .ok (.putfield 84, 3) := by decide +kernel
theorem dX3_enter_30 : decode cX3_enter 30 = .ok (.aload_n 0, 1) := by decide +kernel
theorem dX3_enter_31 : decode cX3_enter 31 = .ok (.getfield 42, 3) := by decide +kernel
theorem dX3_enter_34 : decode cX3_enter 34 = .ok (.getfield 94, 3) := by decide +kernel
theorem dX3_enter_37 : decode cX3_enter 37 = .ok (.iload_n 2, 1) := by decide +kernel
theorem dX3_enter_38 : decode cX3_enter 38 = .ok (.iaload, 1) := by decide +kernel
theorem dX3_enter_39 : decode cX3_enter 39 = .ok (.istore 4, 2) := by decide +kernel
theorem dX3_enter_41 : decode cX3_enter 41 = .ok (.iload 4, 2) := by decide +kernel
theorem dX3_enter_43 : decode cX3_enter 43 = .ok (.iconst 1, 1) := by decide +kernel
theorem dX3_enter_44 : decode cX3_enter 44 = .ok (.isub, 1) := by decide +kernel
theorem dX3_enter_45 : decode cX3_enter 45 = .ok (.istore 5, 2) := by decide +kernel
theorem dX3_enter_47 : decode cX3_enter 47 = .ok (.iload 5, 2) := by decide +kernel
theorem dX3_enter_49 : decode cX3_enter 49 = .ok (.ifCond .lt 24, 3) := by decide +kernel
theorem dX3_enter_52 : decode cX3_enter 52 = .ok (.aload_n 0, 1) := by decide +kernel
theorem dX3_enter_53 : decode cX3_enter 53 = .ok (.getfield 30, 3) := by decide +kernel
theorem dX3_enter_56 : decode cX3_enter 56 = .ok (.iload_n 3, 1) := by decide +kernel
theorem dX3_enter_57 : decode cX3_enter 57 = .ok (.iconst 4, 1) := by decide +kernel
theorem dX3_enter_58 : decode cX3_enter 58 = .ok (.imul, 1) := by decide +kernel
theorem dX3_enter_59 : decode cX3_enter 59 = .ok (.iload 5, 2) := by decide +kernel
theorem dX3_enter_61 : decode cX3_enter 61 = .ok (.iadd, 1) := by decide +kernel
theorem dX3_enter_62 : decode cX3_enter 62 = .ok (.aload_n 0, 1) := by decide +kernel
theorem dX3_enter_63 : decode cX3_enter 63 = .ok (.invokevirtual 140, 3) := by decide +kernel
theorem dX3_enter_66 : decode cX3_enter 66 = .ok (.iastore, 1) := by decide +kernel
theorem dX3_enter_67 : decode cX3_enter 67 = .ok (.iinc 5 (-1), 3) := by decide +kernel
theorem dX3_enter_70 : decode cX3_enter 70 = .ok (.goto (-23), 3) := by decide +kernel
theorem dX3_enter_73 : decode cX3_enter 73 = .ok (.aload_n 0, 1) := by decide +kernel
theorem dX3_enter_74 : decode cX3_enter 74 = .ok (.getfield 18, 3) := by decide +kernel
theorem dX3_enter_77 : decode cX3_enter 77 = .ok (.iload_n 3, 1) := by decide +kernel
theorem dX3_enter_78 : decode cX3_enter 78 = .ok (.iload_n 2, 1) := by decide +kernel
theorem dX3_enter_79 : decode cX3_enter 79 = .ok (.iastore, 1) := by decide +kernel
theorem dX3_enter_80 : decode cX3_enter 80 = .ok (.aload_n 0, 1) := by decide +kernel
theorem dX3_enter_81 : decode cX3_enter 81 = .ok (.getfield 24, 3) := by decide +kernel
theorem dX3_enter_84 : decode cX3_enter 84 = .ok (.iload_n 3, 1) := by decide +kernel
theorem dX3_enter_85 : decode cX3_enter 85 = .ok (.iconst 0, 1) := by decide +kernel
theorem dX3_enter_86 : decode cX3_enter 86 = .ok (.iastore, 1) := by decide +kernel
theorem dX3_enter_87 : decode cX3_enter 87 = .ok (.aload_n 0, 1) := by decide +kernel
theorem dX3_enter_88 : decode cX3_enter 88 = .ok (.getfield 27, 3) := by decide +kernel
theorem dX3_enter_91 : decode cX3_enter 91 = .ok (.iload_n 3, 1) := by decide +kernel
theorem dX3_enter_92 : decode cX3_enter 92 = .ok (.iconst (-1), 1) := by decide +kernel
theorem dX3_enter_93 : decode cX3_enter 93 = .ok (.iastore, 1) := by decide +kernel
theorem dX3_enter_94 : decode cX3_enter 94 = .ok (.aload_n 0, 1) := by decide +kernel
theorem dX3_enter_95 : decode cX3_enter 95 = .ok (.getfield 21, 3) := by decide +kernel
theorem dX3_enter_98 : decode cX3_enter 98 = .ok (.iload_n 3, 1) := by decide +kernel
theorem dX3_enter_99 : decode cX3_enter 99 = .ok (.iload_n 1, 1) := by decide +kernel
theorem dX3_enter_100 : decode cX3_enter 100 = .ok (.ifCond .ne 15, 3) := by decide +kernel
theorem dX3_enter_103 : decode cX3_enter 103 = .ok (.aload_n 0, 1) := by decide +kernel
theorem dX3_enter_104 : decode cX3_enter 104 = .ok (.getfield 42, 3) := by decide +kernel
theorem dX3_enter_107 : decode cX3_enter 107 = .ok (.getfield 144, 3) := by decide +kernel
theorem dX3_enter_110 : decode cX3_enter 110 = .ok (.iload_n 2, 1) := by decide +kernel
theorem dX3_enter_111 : decode cX3_enter 111 = .ok (.iaload, 1) := by decide +kernel
theorem dX3_enter_112 : decode cX3_enter 112 = .ok (.goto 14, 3) := by decide +kernel
theorem dX3_enter_115 : decode cX3_enter 115 = .ok (.iload_n 1, 1) := by decide +kernel
theorem dX3_enter_116 : decode cX3_enter 116 = .ok (.iconst 1, 1) := by decide +kernel
theorem dX3_enter_117 : decode cX3_enter 117 = .ok (.if_icmp .ne 8, 3) := by decide +kernel
theorem dX3_enter_120 : decode cX3_enter 120 = .ok (.bipush (-2), 2) := by decide +kernel
theorem dX3_enter_122 : decode cX3_enter 122 = .ok (.goto 4, 3) := by decide +kernel
theorem dX3_enter_125 : decode cX3_enter 125 = .ok (.iconst 0, 1) := by decide +kernel
theorem dX3_enter_126 : decode cX3_enter 126 = .ok (.iastore, 1) := by decide +kernel
theorem dX3_enter_127 : decode cX3_enter 127 = .ok (.aload_n 0, 1) := by decide +kernel
theorem dX3_enter_128 : decode cX3_enter 128 = .ok (.getfield 33, 3) := by decide +kernel
theorem dX3_enter_131 : decode cX3_enter 131 = .ok (.iload_n 3, 1) := by decide +kernel
theorem dX3_enter_132 : decode cX3_enter 132 = .ok (.sipush 320, 3) := by decide +kernel
theorem dX3_enter_135 : decode cX3_enter 135 = .ok (.imul, 1) := by decide +kernel
theorem dX3_enter_136 : decode cX3_enter 136 = .ok (.iload_n 3, 1) := by decide +kernel
theorem dX3_enter_137 : decode cX3_enter 137 = .ok (.iconst 1, 1) := by decide +kernel
theorem dX3_enter_138 : decode cX3_enter 138 = .ok (.iadd, 1) := by decide +kernel
theorem dX3_enter_139 : decode cX3_enter 139 = .ok (.sipush 320, 3) := by decide +kernel
theorem dX3_enter_142 : decode cX3_enter 142 = .ok (.imul, 1) := by decide +kernel
theorem dX3_enter_143 : decode cX3_enter 143 = .ok (.iconst 0, 1) := by decide +kernel
theorem dX3_enter_144 : decode cX3_enter 144 = .ok (.invokestatic 147, 3) := by decide +kernel
theorem dX3_enter_147 : decode cX3_enter 147 = .ok (.aload_n 0, 1) := by decide +kernel
theorem dX3_enter_148 : decode cX3_enter 148 = .ok (.getfield 36, 3) := by decide +kernel
theorem dX3_enter_151 : decode cX3_enter 151 = .ok (.iload_n 3, 1) := by decide +kernel
theorem dX3_enter_152 : decode cX3_enter 152 = .ok (.aload_n 0, 1) := by decide +kernel
theorem dX3_enter_153 : decode cX3_enter 153 = .ok (.getfield 116, 3) := by decide +kernel
theorem dX3_enter_156 : decode cX3_enter 156 = .ok (.imul, 1) := by decide +kernel
theorem dX3_enter_157 : decode cX3_enter 157 = .ok (.iload_n 3, 1) := by decide +kernel
theorem dX3_enter_158 : decode cX3_enter 158 = .ok (.iconst 1, 1) := by decide +kernel
theorem dX3_enter_159 : decode cX3_enter 159 = .ok (.iadd, 1) := by decide +kernel
theorem dX3_enter_160 : decode cX3_enter 160 = .ok (.aload_n 0, 1) := by decide +kernel
theorem dX3_enter_161 : decode cX3_enter 161 = .ok (.getfield 116, 3) := by decide +kernel
theorem dX3_enter_164 : decode cX3_enter 164 = .ok (.imul, 1) := by decide +kernel
theorem dX3_enter_165 : decode cX3_enter 165 = .ok (.iconst 0, 1) := by decide +kernel
theorem dX3_enter_166 : decode cX3_enter 166 = .ok (.invokestatic 147, 3) := by decide +kernel
theorem dX3_enter_169 : decode cX3_enter 169 = .ok (.return_, 1) := by decide +kernel
theorem dX3_enterBlock_0 : decode cX3_enterBlock 0 = .ok (.iload_n 2, 1) := by decide +kernel
theorem dX3_enterBlock_1 : decode cX3_enterBlock 1 = .ok (.sipush 320, 3) := by decide +kernel
theorem dX3_enterBlock_4 : decode cX3_enterBlock 4 = .ok (.imul, 1) := by decide +kernel
theorem dX3_enterBlock_5 : decode cX3_enterBlock 5 = .ok (.istore_n 3, 1) := by decide +kernel
theorem dX3_enterBlock_6 : decode cX3_enterBlock 6 = .ok (.aload_n 0, 1) := by decide +kernel
theorem dX3_enterBlock_7 : decode cX3_enterBlock 7 = .ok (.getfield 24, 3) := by decide +kernel
theorem dX3_enterBlock_10 : decode cX3_enterBlock 10 = .ok (.iload_n 2, 1) := by decide +kernel
theorem dX3_enterBlock_11 : decode cX3_enterBlock 11 = .ok (.iaload, 1) := by decide +kernel
theorem dX3_enterBlock_12 : decode cX3_enterBlock 12 = .ok (.istore 4, 2) := by decide +kernel
theorem dX3_enterBlock_14 : decode cX3_enterBlock 14 = .ok (.iconst 0, 1) := by decide +kernel
theorem dX3_enterBlock_15 : decode cX3_enterBlock 15 = .ok (.istore 5, 2) := by decide +kernel
theorem dX3_enterBlock_17 : decode cX3_enterBlock 17 = .ok (.aload_n 1, 1) := by decide +kernel
theorem dX3_enterBlock_18 : decode cX3_enterBlock 18 = .ok (.getfield 221, 3) := by decide +kernel
theorem dX3_enterBlock_21 : decode cX3_enterBlock 21 = .ok (.iload 4, 2) := by decide +kernel
theorem dX3_enterBlock_23 : decode cX3_enterBlock 23 = .ok (.iaload, 1) := by decide +kernel
theorem dX3_enterBlock_24 : decode cX3_enterBlock 24 = .ok (.istore 6, 2) := by decide +kernel
theorem dX3_enterBlock_26 : decode cX3_enterBlock 26 = .ok (.iload 6, 2) := by decide +kernel
theorem dX3_enterBlock_28 : decode cX3_enterBlock 28 = .ok (.ifCond .lt 53, 3) := by decide +kernel
theorem dX3_enterBlock_31 : decode cX3_enterBlock 31 = .ok (.aload_n 0, 1) := by decide +kernel
theorem dX3_enterBlock_32 : decode cX3_enterBlock 32 = .ok (.iconst 1, 1) := by decide +kernel
theorem dX3_enterBlock_33 : decode cX3_enterBlock 33 = .ok (.invokevirtual 161, 3) := by decide +kernel
theorem dX3_enterBlock_36 : decode cX3_enterBlock 36 = .ok (.ifCond .ne 4, 3) := by decide +kernel
theorem dX3_enterBlock_39 : decode cX3_enterBlock 39 = .ok (.return_, 1) := by decide +kernel
theorem dX3_enterBlock_40 : decode cX3_enterBlock 40 = .ok (.aload_n 0, 1) := by decide +kernel
theorem dX3_enterBlock_41 : decode cX3_enterBlock 41 = .ok (.getfield 39, 3) := by decide +kernel
theorem dX3_enterBlock_44 : decode cX3_enterBlock 44 = .ok (.iload 5, 2) := by decide +kernel
theorem dX3_enterBlock_46 : decode cX3_enterBlock 46 = .ok (.aload_n 0, 1) := by decide +kernel
theorem dX3_enterBlock_47 : decode cX3_enterBlock 47 = .ok (.getfield 33, 3) := by decide +kernel
theorem dX3_enterBlock_50 : decode cX3_enterBlock 50 = .ok (.iload_n 3, 1) := by decide +kernel
theorem dX3_enterBlock_51 : decode cX3_enterBlock 51 = .ok (.aload_n 1, 1) := by decide +kernel
theorem dX3_enterBlock_52 : decode cX3_enterBlock 52 = .ok (.iload 6, 2) := by decide +kernel
theorem dX3_enterBlock_54 : decode cX3_enterBlock 54 = .ok (.aload_n 0, 1) := by decide +kernel
theorem dX3_enterBlock_55 : decode cX3_enterBlock 55 = .ok (.getfield 27, 3) := by decide +kernel
theorem dX3_enterBlock_58 : decode cX3_enterBlock 58 = .ok (.iload_n 2, 1) := by decide +kernel
theorem dX3_enterBlock_59 : decode cX3_enterBlock 59 = .ok (.iaload, 1) := by decide +kernel
theorem dX3_enterBlock_60 : decode cX3_enterBlock 60 = .ok (.invokevirtual 224, 3) := by decide +kernel
theorem dX3_enterBlock_63 : decode cX3_enterBlock 63 = .ok (.iadd, 1) := by decide +kernel
theorem dX3_enterBlock_64 : decode cX3_enterBlock 64 = .ok (.iaload, 1) := by decide +kernel
theorem dX3_enterBlock_65 : decode cX3_enterBlock 65 = .ok (.iastore, 1) := by decide +kernel
theorem dX3_enterBlock_66 : decode cX3_enterBlock 66 = .ok (.iinc 5 1, 3) := by decide +kernel
theorem dX3_enterBlock_69 : decode cX3_enterBlock 69 = .ok (.aload_n 1, 1) := by decide +kernel
theorem dX3_enterBlock_70 : decode cX3_enterBlock 70 = .ok (.getfield 227, 3) := by decide +kernel
theorem dX3_enterBlock_73 : decode cX3_enterBlock 73 = .ok (.iload 6, 2) := by decide +kernel
theorem dX3_enterBlock_75 : decode cX3_enterBlock 75 = .ok (.iaload, 1) := by decide +kernel
theorem dX3_enterBlock_76 : decode cX3_enterBlock 76 = .ok (.istore 6, 2) := by decide +kernel
theorem dX3_enterBlock_78 : decode cX3_enterBlock 78 = .ok (.goto (-52), 3) := by decide +kernel
theorem dX3_enterBlock_81 : decode cX3_enterBlock 81 = .ok (.iconst 0, 1) := by decide +kernel
theorem dX3_enterBlock_82 : decode cX3_enterBlock 82 = .ok (.istore 5, 2) := by decide +kernel
theorem dX3_enterBlock_84 : decode cX3_enterBlock 84 = .ok (.aload_n 1, 1) := by decide +kernel
theorem dX3_enterBlock_85 : decode cX3_enterBlock 85 = .ok (.getfield 221, 3) := by decide +kernel
theorem dX3_enterBlock_88 : decode cX3_enterBlock 88 = .ok (.iload 4, 2) := by decide +kernel
theorem dX3_enterBlock_90 : decode cX3_enterBlock 90 = .ok (.iaload, 1) := by decide +kernel
theorem dX3_enterBlock_91 : decode cX3_enterBlock 91 = .ok (.istore 6, 2) := by decide +kernel
theorem dX3_enterBlock_93 : decode cX3_enterBlock 93 = .ok (.iload 6, 2) := by decide +kernel
theorem dX3_enterBlock_95 : decode cX3_enterBlock 95 = .ok (.ifCond .lt 39, 3) := by decide +kernel
theorem dX3_enterBlock_98 : decode cX3_enterBlock 98 = .ok (.aload_n 0, 1) := by decide +kernel
theorem dX3_enterBlock_99 : decode cX3_enterBlock 99 = .ok (.getfield 33, 3) := by decide +kernel
theorem dX3_enterBlock_102 : decode cX3_enterBlock 102 = .ok (.iload_n 3, 1) := by decide +kernel
theorem dX3_enterBlock_103 : decode cX3_enterBlock 103 = .ok (.aload_n 1, 1) := by decide +kernel
theorem dX3_enterBlock_104 : decode cX3_enterBlock 104 = .ok (.getfield 230, 3) := by decide +kernel
theorem dX3_enterBlock_107 : decode cX3_enterBlock 107 = .ok (.iload 6, 2) := by decide +kernel
theorem dX3_enterBlock_109 : decode cX3_enterBlock 109 = .ok (.iaload, 1) := by decide +kernel
theorem dX3_enterBlock_110 : decode cX3_enterBlock 110 = .ok (.iadd, 1) := by decide +kernel
theorem dX3_enterBlock_111 : decode cX3_enterBlock 111 = .ok (.aload_n 0, 1) := by decide +kernel
theorem dX3_enterBlock_112 : decode cX3_enterBlock 112 = .ok (.getfield 39, 3) := by decide +kernel
theorem dX3_enterBlock_115 : decode cX3_enterBlock 115 = .ok (.iload 5, 2) := by decide +kernel
theorem dX3_enterBlock_117 : decode cX3_enterBlock 117 = .ok (.iaload, 1) := by decide +kernel
theorem dX3_enterBlock_118 : decode cX3_enterBlock 118 = .ok (.iastore, 1) := by decide +kernel
theorem dX3_enterBlock_119 : decode cX3_enterBlock 119 = .ok (.iinc 5 1, 3) := by decide +kernel
theorem dX3_enterBlock_122 : decode cX3_enterBlock 122 = .ok (.aload_n 1, 1) := by decide +kernel
theorem dX3_enterBlock_123 : decode cX3_enterBlock 123 = .ok (.getfield 227, 3) := by decide +kernel
theorem dX3_enterBlock_126 : decode cX3_enterBlock 126 = .ok (.iload 6, 2) := by decide +kernel
theorem dX3_enterBlock_128 : decode cX3_enterBlock 128 = .ok (.iaload, 1) := by decide +kernel
theorem dX3_enterBlock_129 : decode cX3_enterBlock 129 = .ok (.istore 6, 2) := by decide +kernel
theorem dX3_enterBlock_131 : decode cX3_enterBlock 131 = .ok (.goto (-38), 3) := by decide +kernel
theorem dX3_enterBlock_134 : decode cX3_enterBlock 134 = .ok (.aload_n 0, 1) := by decide +kernel
theorem dX3_enterBlock_135 : decode cX3_enterBlock 135 = .ok (.getfield 21, 3) := by decide +kernel
theorem dX3_enterBlock_138 : decode cX3_enterBlock 138 = .ok (.iload_n 2, 1) := by decide +kernel
theorem dX3_enterBlock_139 : decode cX3_enterBlock 139 = .ok (.aload_n 1, 1) := by decide +kernel
theorem dX3_enterBlock_140 : decode cX3_enterBlock 140 = .ok (.getfield 233, 3) := by decide +kernel
theorem dX3_enterBlock_143 : decode cX3_enterBlock 143 = .ok (.iload 4, 2) := by decide +kernel
theorem dX3_enterBlock_145 : decode cX3_enterBlock 145 = .ok (.iaload, 1) := by decide +kernel
theorem dX3_enterBlock_146 : decode cX3_enterBlock 146 = .ok (.iastore, 1) := by decide +kernel
theorem dX3_enterBlock_147 : decode cX3_enterBlock 147 = .ok (.return_, 1) := by decide +kernel
theorem dX3_giveBack_0 : decode cX3_giveBack 0 = .ok (.aload_n 0, 1) := by decide +kernel
theorem dX3_giveBack_1 : decode cX3_giveBack 1 = .ok (.getfield 84, 3) := by decide +kernel
theorem dX3_giveBack_4 : decode cX3_giveBack 4 = .ok (.iconst 1, 1) := by decide +kernel
theorem dX3_giveBack_5 : decode cX3_giveBack 5 = .ok (.isub, 1) := by decide +kernel
theorem dX3_giveBack_6 : decode cX3_giveBack 6 = .ok (.istore_n 3, 1) := by decide +kernel
theorem dX3_giveBack_7 : decode cX3_giveBack 7 = .ok (.iconst (-1), 1) := by decide +kernel
theorem dX3_giveBack_8 : decode cX3_giveBack 8 = .ok (.istore 4, 2) := by decide +kernel
theorem dX3_giveBack_10 : decode cX3_giveBack 10 = .ok (.aload_n 1, 1) := by decide +kernel
theorem dX3_giveBack_11 : decode cX3_giveBack 11 = .ok (.getfield 233, 3) := by decide +kernel
theorem dX3_giveBack_14 : decode cX3_giveBack 14 = .ok (.aload_n 0, 1) := by decide +kernel
theorem dX3_giveBack_15 : decode cX3_giveBack 15 = .ok (.getfield 24, 3) := by decide +kernel
theorem dX3_giveBack_18 : decode cX3_giveBack 18 = .ok (.iload_n 3, 1) := by decide +kernel
theorem dX3_giveBack_19 : decode cX3_giveBack 19 = .ok (.iaload, 1) := by decide +kernel
theorem dX3_giveBack_20 : decode cX3_giveBack 20 = .ok (.iaload, 1) := by decide +kernel
theorem dX3_giveBack_21 : decode cX3_giveBack 21 = .ok (.istore 5, 2) := by decide +kernel
theorem dX3_giveBack_23 : decode cX3_giveBack 23 = .ok (.iload 5, 2) := by decide +kernel
theorem dX3_giveBack_25 : decode cX3_giveBack 25 = .ok (.ifCond .lt 33, 3) := by decide +kernel
theorem dX3_giveBack_28 : decode cX3_giveBack 28 = .ok (.iload 5, 2) := by decide +kernel
theorem dX3_giveBack_30 : decode cX3_giveBack 30 = .ok (.aload_n 0, 1) := by decide +kernel
theorem dX3_giveBack_31 : decode cX3_giveBack 31 = .ok (.getfield 21, 3) := by decide +kernel
theorem dX3_giveBack_34 : decode cX3_giveBack 34 = .ok (.iload_n 3, 1) := by decide +kernel
theorem dX3_giveBack_35 : decode cX3_giveBack 35 = .ok (.iaload, 1) := by decide +kernel
theorem dX3_giveBack_36 : decode cX3_giveBack 36 = .ok (.if_icmp .eq 22, 3) := by decide +kernel
theorem dX3_giveBack_39 : decode cX3_giveBack 39 = .ok (.iload 5, 2) := by decide +kernel
theorem dX3_giveBack_41 : decode cX3_giveBack 41 = .ok (.istore 4, 2) := by decide +kernel
theorem dX3_giveBack_43 : decode cX3_giveBack 43 = .ok (.aload_n 1, 1) := by decide +kernel
theorem dX3_giveBack_44 : decode cX3_giveBack 44 = .ok (.getfield 207, 3) := by decide +kernel
theorem dX3_giveBack_47 : decode cX3_giveBack 47 = .ok (.getfield 212, 3) := by decide +kernel
theorem dX3_giveBack_50 : decode cX3_giveBack 50 = .ok (.iload 5, 2) := by decide +kernel
theorem dX3_giveBack_52 : decode cX3_giveBack 52 = .ok (.iaload, 1) := by decide +kernel
theorem dX3_giveBack_53 : decode cX3_giveBack 53 = .ok (.istore 5, 2) := by decide +kernel
theorem dX3_giveBack_55 : decode cX3_giveBack 55 = .ok (.goto (-32), 3) := by decide +kernel
theorem dX3_giveBack_58 : decode cX3_giveBack 58 = .ok (.iload 4, 2) := by decide +kernel
theorem dX3_giveBack_60 : decode cX3_giveBack 60 = .ok (.ifCond .lt 25, 3) := by decide +kernel
theorem dX3_giveBack_63 : decode cX3_giveBack 63 = .ok (.aload_n 0, 1) := by decide +kernel
theorem dX3_giveBack_64 : decode cX3_giveBack 64 = .ok (.getfield 33, 3) := by decide +kernel
theorem dX3_giveBack_67 : decode cX3_giveBack 67 = .ok (.iload_n 3, 1) := by decide +kernel
theorem dX3_giveBack_68 : decode cX3_giveBack 68 = .ok (.sipush 320, 3) := by decide +kernel
theorem dX3_giveBack_71 : decode cX3_giveBack 71 = .ok (.imul, 1) := by decide +kernel
theorem dX3_giveBack_72 : decode cX3_giveBack 72 = .ok (.aload_n 1, 1) := by decide +kernel
theorem dX3_giveBack_73 : decode cX3_giveBack 73 = .ok (.getfield 207, 3) := by decide +kernel
theorem dX3_giveBack_76 : decode cX3_giveBack 76 = .ok (.getfield 251, 3) := by decide +kernel
theorem dX3_giveBack_79 : decode cX3_giveBack 79 = .ok (.iload 4, 2) := by decide +kernel
theorem dX3_giveBack_81 : decode cX3_giveBack 81 = .ok (.iaload, 1) := by decide +kernel
theorem dX3_giveBack_82 : decode cX3_giveBack 82 = .ok (.iadd, 1) := by decide +kernel
theorem dX3_giveBack_83 : decode cX3_giveBack 83 = .ok (.iload_n 2, 1) := by decide +kernel
theorem dX3_giveBack_84 : decode cX3_giveBack 84 = .ok (.iastore, 1) := by decide +kernel
theorem dX3_giveBack_85 : decode cX3_giveBack 85 = .ok (.return_, 1) := by decide +kernel
theorem dX3_moveVariable_0 : decode cX3_moveVariable 0 = .ok (.iload_n 1, 1) := by decide +kernel
theorem dX3_moveVariable_1 : decode cX3_moveVariable 1 = .ok (.sipush 320, 3) := by decide +kernel
theorem dX3_moveVariable_4 : decode cX3_moveVariable 4 = .ok (.imul, 1) := by decide +kernel
theorem dX3_moveVariable_5 : decode cX3_moveVariable 5 = .ok (.istore 4, 2) := by decide +kernel
theorem dX3_moveVariable_7 : decode cX3_moveVariable 7 = .ok (.iload_n 2, 1) := by decide +kernel
theorem dX3_moveVariable_8 : decode cX3_moveVariable 8 = .ok (.tableswitch 213 22 36 #[137, 213, 213, 213, 213, 213, 213, 213, 76, 92, 108, 155, 180, 213, 205], 76) := by decide +kernel
theorem dX3_moveVariable_84 : decode cX3_moveVariable 84 = .ok (.aload_n 0, 1) := by decide +kernel
theorem dX3_moveVariable_85 : decode cX3_moveVariable 85 = .ok (.aload_n 0, 1) := by decide +kernel
theorem dX3_moveVariable_86 : decode cX3_moveVariable 86 = .ok (.getfield 33, 3) := by decide +kernel
theorem dX3_moveVariable_89 : decode cX3_moveVariable 89 = .ok (.iload 4, 2) := by decide +kernel
theorem dX3_moveVariable_91 : decode cX3_moveVariable 91 = .ok (.iload_n 3, 1) := by decide +kernel
theorem dX3_moveVariable_92 : decode cX3_moveVariable 92 = .ok (.iadd, 1) := by decide +kernel
theorem dX3_moveVariable_93 : decode cX3_moveVariable 93 = .ok (.iaload, 1) := by decide +kernel
theorem dX3_moveVariable_94 : decode cX3_moveVariable 94 = .ok (.invokevirtual 99, 3) := by decide +kernel
theorem dX3_moveVariable_97 : decode cX3_moveVariable 97 = .ok (.goto 124, 3) := by decide +kernel
theorem dX3_moveVariable_100 : decode cX3_moveVariable 100 = .ok (.aload_n 0, 1) := by decide +kernel
theorem dX3_moveVariable_101 : decode cX3_moveVariable 101 = .ok (.getfield 33, 3) := by decide +kernel
theorem dX3_moveVariable_104 : decode cX3_moveVariable 104 = .ok (.iload 4, 2) := by decide +kernel
theorem dX3_moveVariable_106 : decode cX3_moveVariable 106 = .ok (.iload_n 3, 1) := by decide +kernel
theorem dX3_moveVariable_107 : decode cX3_moveVariable 107 = .ok (.iadd, 1) := by decide +kernel
theorem dX3_moveVariable_108 : decode cX3_moveVariable 108 = .ok (.aload_n 0, 1) := by decide +kernel
theorem dX3_moveVariable_109 : decode cX3_moveVariable 109 = .ok (.invokevirtual 140, 3) := by decide +kernel
theorem dX3_moveVariable_112 : decode cX3_moveVariable 112 = .ok (.iastore, 1) := by decide +kernel
theorem dX3_moveVariable_113 : decode cX3_moveVariable 113 = .ok (.goto 108, 3) := by decide +kernel
theorem dX3_moveVariable_116 : decode cX3_moveVariable 116 = .ok (.aload_n 0, 1) := by decide +kernel
theorem dX3_moveVariable_117 : decode cX3_moveVariable 117 = .ok (.getfield 33, 3) := by decide +kernel
theorem dX3_moveVariable_120 : decode cX3_moveVariable 120 = .ok (.iload 4, 2) := by decide +kernel
theorem dX3_moveVariable_122 : decode cX3_moveVariable 122 = .ok (.iload_n 3, 1) := by decide +kernel
theorem dX3_moveVariable_123 : decode cX3_moveVariable 123 = .ok (.iadd, 1) := by decide +kernel
theorem dX3_moveVariable_124 : decode cX3_moveVariable 124 = .ok (.aload_n 0, 1) := by decide +kernel
theorem dX3_moveVariable_125 : decode cX3_moveVariable 125 = .ok (.invokevirtual 140, 3) := by decide +kernel
theorem dX3_moveVariable_128 : decode cX3_moveVariable 128 = .ok (.iastore, 1) := by decide +kernel
theorem dX3_moveVariable_129 : decode cX3_moveVariable 129 = .ok (.aload_n 0, 1) := by decide +kernel
theorem dX3_moveVariable_130 : decode cX3_moveVariable 130 = .ok (.aload_n 0, 1) := by decide +kernel
theorem dX3_moveVariable_131 : decode cX3_moveVariable 131 = .ok (.getfield 33, 3) := by decide +kernel
theorem dX3_moveVariable_134 : decode cX3_moveVariable 134 = .ok (.iload 4, 2) := by decide +kernel
theorem dX3_moveVariable_136 : decode cX3_moveVariable 136 = .ok (.iload_n 3, 1) := by decide +kernel
theorem dX3_moveVariable_137 : decode cX3_moveVariable 137 = .ok (.iadd, 1) := by decide +kernel
theorem dX3_moveVariable_138 : decode cX3_moveVariable 138 = .ok (.iaload, 1) := by decide +kernel
theorem dX3_moveVariable_139 : decode cX3_moveVariable 139 = .ok (.invokevirtual 99, 3) := by decide +kernel
theorem dX3_moveVariable_142 : decode cX3_moveVariable 142 = .ok (.goto 79, 3) := by decide +kernel
theorem dX3_moveVariable_145 : decode cX3_moveVariable 145 = .ok (.aload_n 0, 1) := by decide +kernel
theorem dX3_moveVariable_146 : decode cX3_moveVariable 146 = .ok (.getfield 21, 3) := by decide +kernel
theorem dX3_moveVariable_149 : decode cX3_moveVariable 149 = .ok (.iload_n 1, 1) := by decide +kernel
theorem dX3_moveVariable_150 : decode cX3_moveVariable 150 = .ok (.aload_n 0, 1) := by decide +kernel
theorem dX3_moveVariable_151 : decode cX3_moveVariable 151 = .ok (.getfield 42, 3) := by decide +kernel
theorem dX3_moveVariable_154 : decode cX3_moveVariable 154 = .ok (.getfield 184, 3) := by decide +kernel
theorem dX3_moveVariable_157 : decode cX3_moveVariable 157 = .ok (.iload_n 3, 1) := by decide +kernel
theorem dX3_moveVariable_158 : decode cX3_moveVariable 158 = .ok (.iaload, 1) := by decide +kernel
theorem dX3_moveVariable_159 : decode cX3_moveVariable 159 = .ok (.iastore, 1) := by decide +kernel
theorem dX3_moveVariable_160 : decode cX3_moveVariable 160 = .ok (.goto 61, 3) := by decide +kernel
theorem dX3_moveVariable_163 : decode cX3_moveVariable 163 = .ok (.aload_n 0, 1) := by decide +kernel
theorem dX3_moveVariable_164 : decode cX3_moveVariable 164 = .ok (.invokevirtual 140, 3) := by decide +kernel
theorem dX3_moveVariable_167 : decode cX3_moveVariable 167 = .ok (.ifCond .ne 54, 3) := by decide +kernel
theorem dX3_moveVariable_170 : decode cX3_moveVariable 170 = .ok (.aload_n 0, 1) := by decide +kernel
theorem dX3_moveVariable_171 : decode cX3_moveVariable 171 = .ok (.getfield 21, 3) := by decide +kernel
theorem dX3_moveVariable_174 : decode cX3_moveVariable 174 = .ok (.iload_n 1, 1) := by decide +kernel
theorem dX3_moveVariable_175 : decode cX3_moveVariable 175 = .ok (.aload_n 0, 1) := by decide +kernel
theorem dX3_moveVariable_176 : decode cX3_moveVariable 176 = .ok (.getfield 42, 3) := by decide +kernel
theorem dX3_moveVariable_179 : decode cX3_moveVariable 179 = .ok (.getfield 184, 3) := by decide +kernel
theorem dX3_moveVariable_182 : decode cX3_moveVariable 182 = .ok (.iload_n 3, 1) := by decide +kernel
theorem dX3_moveVariable_183 : decode cX3_moveVariable 183 = .ok (.iaload, 1) := by decide +kernel
theorem dX3_moveVariable_184 : decode cX3_moveVariable 184 = .ok (.iastore, 1) := by decide +kernel
theorem dX3_moveVariable_185 : decode cX3_moveVariable 185 = .ok (.goto 36, 3) := by decide +kernel
theorem dX3_moveVariable_188 : decode cX3_moveVariable 188 = .ok (.aload_n 0, 1) := by decide +kernel
theorem dX3_moveVariable_189 : decode cX3_moveVariable 189 = .ok (.invokevirtual 140, 3) := by decide +kernel
theorem dX3_moveVariable_192 : decode cX3_moveVariable 192 = .ok (.ifCond .eq 29, 3) := by decide +kernel
theorem dX3_moveVariable_195 : decode cX3_moveVariable 195 = .ok (.aload_n 0, 1) := by decide +kernel
theorem dX3_moveVariable_196 : decode cX3_moveVariable 196 = .ok (.getfield 21, 3) := by decide +kernel
theorem dX3_moveVariable_199 : decode cX3_moveVariable 199 = .ok (.iload_n 1, 1) := by decide +kernel
theorem dX3_moveVariable_200 : decode cX3_moveVariable 200 = .ok (.aload_n 0, 1) := by decide +kernel
theorem dX3_moveVariable_201 : decode cX3_moveVariable 201 = .ok (.getfield 42, 3) := by decide +kernel
theorem dX3_moveVariable_204 : decode cX3_moveVariable 204 = .ok (.getfield 184, 3) := by decide +kernel
theorem dX3_moveVariable_207 : decode cX3_moveVariable 207 = .ok (.iload_n 3, 1) := by decide +kernel
theorem dX3_moveVariable_208 : decode cX3_moveVariable 208 = .ok (.iaload, 1) := by decide +kernel
theorem dX3_moveVariable_209 : decode cX3_moveVariable 209 = .ok (.iastore, 1) := by decide +kernel
theorem dX3_moveVariable_210 : decode cX3_moveVariable 210 = .ok (.goto 11, 3) := by decide +kernel
theorem dX3_moveVariable_213 : decode cX3_moveVariable 213 = .ok (.aload_n 0, 1) := by decide +kernel
theorem dX3_moveVariable_214 : decode cX3_moveVariable 214 = .ok (.invokevirtual 140, 3) := by decide +kernel
theorem dX3_moveVariable_217 : decode cX3_moveVariable 217 = .ok (.pop, 1) := by decide +kernel
theorem dX3_moveVariable_218 : decode cX3_moveVariable 218 = .ok (.goto 3, 3) := by decide +kernel
theorem dX3_moveVariable_221 : decode cX3_moveVariable 221 = .ok (.return_, 1) := by decide +kernel
theorem dX3_moveWord_0 : decode cX3_moveWord 0 = .ok (.iload_n 2, 1) := by decide +kernel
theorem dX3_moveWord_1 : decode cX3_moveWord 1 = .ok (.lookupswitch 155 #[(0, 59), (17, 67), (18, 82), (20, 122), (21, 101), (24, 131)], 59) := by decide +kernel
theorem dX3_moveWord_60 : decode cX3_moveWord 60 = .ok (.aload_n 0, 1) := by decide +kernel
theorem dX3_moveWord_61 : decode cX3_moveWord 61 = .ok (.iload_n 3, 1) := by decide +kernel
theorem dX3_moveWord_62 : decode cX3_moveWord 62 = .ok (.invokevirtual 99, 3) := by decide +kernel
theorem dX3_moveWord_65 : decode cX3_moveWord 65 = .ok (.goto 91, 3) := by decide +kernel
theorem dX3_moveWord_68 : decode cX3_moveWord 68 = .ok (.aload_n 0, 1) := by decide +kernel
theorem dX3_moveWord_69 : decode cX3_moveWord 69 = .ok (.aload_n 0, 1) := by decide +kernel
theorem dX3_moveWord_70 : decode cX3_moveWord 70 = .ok (.aload_n 0, 1) := by decide +kernel
theorem dX3_moveWord_71 : decode cX3_moveWord 71 = .ok (.invokevirtual 140, 3) := by decide +kernel
theorem dX3_moveWord_74 : decode cX3_moveWord 74 = .ok (.invokevirtual 187, 3) := by decide +kernel
theorem dX3_moveWord_77 : decode cX3_moveWord 77 = .ok (.invokevirtual 99, 3) := by decide +kernel
theorem dX3_moveWord_80 : decode cX3_moveWord 80 = .ok (.goto 76, 3) := by decide +kernel
theorem dX3_moveWord_83 : decode cX3_moveWord 83 = .ok (.aload_n 0, 1) := by decide +kernel
theorem dX3_moveWord_84 : decode cX3_moveWord 84 = .ok (.invokevirtual 140, 3) := by decide +kernel
theorem dX3_moveWord_87 : decode cX3_moveWord 87 = .ok (.istore 4, 2) := by decide +kernel
theorem dX3_moveWord_89 : decode cX3_moveWord 89 = .ok (.aload_n 0, 1) := by decide +kernel
theorem dX3_moveWord_90 : decode cX3_moveWord 90 = .ok (.aload_n 0, 1) := by decide +kernel
theorem dX3_moveWord_91 : decode cX3_moveWord 91 = .ok (.invokevirtual 140, 3) := by decide +kernel
theorem dX3_moveWord_94 : decode cX3_moveWord 94 = .ok (.iload 4, 2) := by decide +kernel
theorem dX3_moveWord_96 : decode cX3_moveWord 96 = .ok (.invokevirtual 191, 3) := by decide +kernel
theorem dX3_moveWord_99 : decode cX3_moveWord 99 = .ok (.goto 57, 3) := by decide +kernel
theorem dX3_moveWord_102 : decode cX3_moveWord 102 = .ok (.aload_n 0, 1) := by decide +kernel
theorem dX3_moveWord_103 : decode cX3_moveWord 103 = .ok (.getfield 33, 3) := by decide +kernel
theorem dX3_moveWord_106 : decode cX3_moveWord 106 = .ok (.iload_n 1, 1) := by decide +kernel
theorem dX3_moveWord_107 : decode cX3_moveWord 107 = .ok (.sipush 320, 3) := by decide +kernel
theorem dX3_moveWord_110 : decode cX3_moveWord 110 = .ok (.imul, 1) := by decide +kernel
theorem dX3_moveWord_111 : decode cX3_moveWord 111 = .ok (.iload_n 3, 1) := by decide +kernel
theorem dX3_moveWord_112 : decode cX3_moveWord 112 = .ok (.iadd, 1) := by decide +kernel
theorem dX3_moveWord_113 : decode cX3_moveWord 113 = .ok (.aload_n 0, 1) := by decide +kernel
theorem dX3_moveWord_114 : decode cX3_moveWord 114 = .ok (.iload_n 1, 1) := by decide +kernel
theorem dX3_moveWord_115 : decode cX3_moveWord 115 = .ok (.iload_n 3, 1) := by decide +kernel
theorem dX3_moveWord_116 : decode cX3_moveWord 116 = .ok (.invokevirtual 194, 3) := by decide +kernel
theorem dX3_moveWord_119 : decode cX3_moveWord 119 = .ok (.iastore, 1) := by decide +kernel
theorem dX3_moveWord_120 : decode cX3_moveWord 120 = .ok (.goto 36, 3) := by decide +kernel
theorem dX3_moveWord_123 : decode cX3_moveWord 123 = .ok (.aload_n 0, 1) := by decide +kernel
theorem dX3_moveWord_124 : decode cX3_moveWord 124 = .ok (.iconst 0, 1) := by decide +kernel
theorem dX3_moveWord_125 : decode cX3_moveWord 125 = .ok (.iload_n 3, 1) := by decide +kernel
theorem dX3_moveWord_126 : decode cX3_moveWord 126 = .ok (.invokevirtual 102, 3) := by decide +kernel
theorem dX3_moveWord_129 : decode cX3_moveWord 129 = .ok (.goto 27, 3) := by decide +kernel
theorem dX3_moveWord_132 : decode cX3_moveWord 132 = .ok (.aload_n 0, 1) := by decide +kernel
theorem dX3_moveWord_133 : decode cX3_moveWord 133 = .ok (.invokevirtual 140, 3) := by decide +kernel
theorem dX3_moveWord_136 : decode cX3_moveWord 136 = .ok (.istore 5, 2) := by decide +kernel
theorem dX3_moveWord_138 : decode cX3_moveWord 138 = .ok (.aload_n 0, 1) := by decide +kernel
theorem dX3_moveWord_139 : decode cX3_moveWord 139 = .ok (.iload 5, 2) := by decide +kernel
theorem dX3_moveWord_141 : decode cX3_moveWord 141 = .ok (.invokevirtual 197, 3) := by decide +kernel
theorem dX3_moveWord_144 : decode cX3_moveWord 144 = .ok (.ifCond .eq 12, 3) := by decide +kernel
theorem dX3_moveWord_147 : decode cX3_moveWord 147 = .ok (.aload_n 0, 1) := by decide +kernel
theorem dX3_moveWord_148 : decode cX3_moveWord 148 = .ok (.iload 5, 2) := by decide +kernel
theorem dX3_moveWord_150 : decode cX3_moveWord 150 = .ok (.invokevirtual 99, 3) := by decide +kernel
theorem dX3_moveWord_153 : decode cX3_moveWord 153 = .ok (.goto 3, 3) := by decide +kernel
theorem dX3_moveWord_156 : decode cX3_moveWord 156 = .ok (.return_, 1) := by decide +kernel
theorem dX3_operate_0 : decode cX3_operate 0 = .ok (.iload_n 1, 1) := by decide +kernel
theorem dX3_operate_1 : decode cX3_operate 1 = .ok (.iload_n 3, 1) := by decide +kernel
theorem dX3_operate_2 : decode cX3_operate 2 = .ok (.invokestatic 150, 3) := by decide +kernel
theorem dX3_operate_5 : decode cX3_operate 5 = .ok (.ifCond .eq 10, 3) := by decide +kernel
theorem dX3_operate_8 : decode cX3_operate 8 = .ok (.aload_n 0, 1) := by decide +kernel
theorem dX3_operate_9 : decode cX3_operate 9 = .ok (.iconst 1, 1) := by decide +kernel
theorem dX3_operate_10 : decode cX3_operate 10 = .ok (.invokevirtual 137, 3) := by decide +kernel
theorem dX3_operate_13 : decode cX3_operate 13 = .ok (.iconst 0, 1) := by decide +kernel
theorem dX3_operate_14 : decode cX3_operate 14 = .ok (.ireturn, 1) := by decide +kernel
theorem dX3_operate_15 : decode cX3_operate 15 = .ok (.iload_n 1, 1) := by decide +kernel
theorem dX3_operate_16 : decode cX3_operate 16 = .ok (.iload_n 2, 1) := by decide +kernel
theorem dX3_operate_17 : decode cX3_operate 17 = .ok (.iload_n 3, 1) := by decide +kernel
theorem dX3_operate_18 : decode cX3_operate 18 = .ok (.invokestatic 154, 3) := by decide +kernel
theorem dX3_operate_21 : decode cX3_operate 21 = .ok (.ireturn, 1) := by decide +kernel
theorem dX3_pop_0 : decode cX3_pop 0 = .ok (.aload_n 0, 1) := by decide +kernel
theorem dX3_pop_1 : decode cX3_pop 1 = .ok (.getfield 87, 3) := by decide +kernel
theorem dX3_pop_4 : decode cX3_pop 4 = .ok (.ifCond .ne 5, 3) := by decide +kernel
theorem dX3_pop_7 : decode cX3_pop 7 = .ok (.iconst 0, 1) := by decide +kernel
theorem dX3_pop_8 : decode cX3_pop 8 = .ok (.ireturn, 1) := by decide +kernel
theorem dX3_pop_9 : decode cX3_pop 9 = .ok (.aload_n 0, 1) := by decide +kernel
theorem dX3_pop_10 : decode cX3_pop 10 = .ok (.dup, 1) := by decide +kernel
theorem dX3_pop_11 : decode cX3_pop 11 = .ok (.getfield 87, 3) := by decide +kernel
theorem dX3_pop_14 : decode cX3_pop 14 = .ok (.iconst 1, 1) := by decide +kernel
theorem dX3_pop_15 : decode cX3_pop 15 = .ok (.isub, 1) := by decide +kernel
theorem dX3_pop_16 : decode cX3_pop 16 = .ok (.putfield 87, 3) := by decide +kernel
theorem dX3_pop_19 : decode cX3_pop 19 = .ok (.aload_n 0, 1) := by decide +kernel
theorem dX3_pop_20 : decode cX3_pop 20 = .ok (.getfield 39, 3) := by decide +kernel
theorem dX3_pop_23 : decode cX3_pop 23 = .ok (.aload_n 0, 1) := by decide +kernel
theorem dX3_pop_24 : decode cX3_pop 24 = .ok (.getfield 87, 3) := by decide +kernel
theorem dX3_pop_27 : decode cX3_pop 27 = .ok (.iaload, 1) := by decide +kernel
theorem dX3_pop_28 : decode cX3_pop 28 = .ok (.ireturn, 1) := by decide +kernel
theorem dX3_push_0 : decode cX3_push 0 = .ok (.aload_n 0, 1) := by decide +kernel
theorem dX3_push_1 : decode cX3_push 1 = .ok (.getfield 87, 3) := by decide +kernel
theorem dX3_push_4 : decode cX3_push 4 = .ok (.sipush 512, 3) := by decide +kernel
theorem dX3_push_7 : decode cX3_push 7 = .ok (.if_icmp .ge 23, 3) := by decide +kernel
theorem dX3_push_10 : decode cX3_push 10 = .ok (.aload_n 0, 1) := by decide +kernel
theorem dX3_push_11 : decode cX3_push 11 = .ok (.getfield 39, 3) := by decide +kernel
theorem dX3_push_14 : decode cX3_push 14 = .ok (.aload_n 0, 1) := by decide +kernel
theorem dX3_push_15 : decode cX3_push 15 = .ok (.getfield 87, 3) := by decide +kernel
theorem dX3_push_18 : decode cX3_push 18 = .ok (.iload_n 1, 1) := by decide +kernel
theorem dX3_push_19 : decode cX3_push 19 = .ok (.iastore, 1) := by decide +kernel
theorem dX3_push_20 : decode cX3_push 20 = .ok (.aload_n 0, 1) := by decide +kernel
theorem dX3_push_21 : decode cX3_push 21 = .ok (.dup, 1) := by decide +kernel
theorem dX3_push_22 : decode cX3_push 22 = .ok (.getfield 87, 3) := by decide +kernel
theorem dX3_push_25 : decode cX3_push 25 = .ok (.iconst 1, 1) := by decide +kernel
theorem dX3_push_26 : decode cX3_push 26 = .ok (.iadd, 1) := by decide +kernel
theorem dX3_push_27 : decode cX3_push 27 = .ok (.putfield 87, 3) := by decide +kernel
theorem dX3_push_30 : decode cX3_push 30 = .ok (.return_, 1) := by decide +kernel
theorem dX3_readWord_0 : decode cX3_readWord 0 = .ok (.aload_n 0, 1) := by decide +kernel
theorem dX3_readWord_1 : decode cX3_readWord 1 = .ok (.getfield 9, 3) := by decide +kernel
theorem dX3_readWord_4 : decode cX3_readWord 4 = .ok (.iload_n 1, 1) := by decide +kernel
theorem dX3_readWord_5 : decode cX3_readWord 5 = .ok (.bipush 15, 2) := by decide +kernel
theorem dX3_readWord_7 : decode cX3_readWord 7 = .ok (.iand, 1) := by decide +kernel
theorem dX3_readWord_8 : decode cX3_readWord 8 = .ok (.iaload, 1) := by decide +kernel
theorem dX3_readWord_9 : decode cX3_readWord 9 = .ok (.ireturn, 1) := by decide +kernel
theorem dX3_stop_0 : decode cX3_stop 0 = .ok (.aload_n 0, 1) := by decide +kernel
theorem dX3_stop_1 : decode cX3_stop 1 = .ok (.iload_n 1, 1) := by decide +kernel
theorem dX3_stop_2 : decode cX3_stop 2 = .ok (.putfield 54, 3) := by decide +kernel
theorem dX3_stop_5 : decode cX3_stop 5 = .ok (.aload_n 0, 1) := by decide +kernel
theorem dX3_stop_6 : decode cX3_stop 6 = .ok (.iconst 0, 1) := by decide +kernel
theorem dX3_stop_7 : decode cX3_stop 7 = .ok (.putfield 80, 3) := by decide +kernel
theorem dX3_stop_10 : decode cX3_stop 10 = .ok (.return_, 1) := by decide +kernel
theorem dX3_tick_0 : decode cX3_tick 0 = .ok (.aload_n 0, 1) := by decide +kernel
theorem dX3_tick_1 : decode cX3_tick 1 = .ok (.getfield 61, 3) := by decide +kernel
theorem dX3_tick_4 : decode cX3_tick 4 = .ok (.iload_n 1, 1) := by decide +kernel
theorem dX3_tick_5 : decode cX3_tick 5 = .ok (.iadd, 1) := by decide +kernel
theorem dX3_tick_6 : decode cX3_tick 6 = .ok (.sipush 5000, 3) := by decide +kernel
theorem dX3_tick_9 : decode cX3_tick 9 = .ok (.if_icmp .le 17, 3) := by decide +kernel
theorem dX3_tick_12 : decode cX3_tick 12 = .ok (.aload_n 0, 1) := by decide +kernel
theorem dX3_tick_13 : decode cX3_tick 13 = .ok (.sipush 5000, 3) := by decide +kernel
theorem dX3_tick_16 : decode cX3_tick 16 = .ok (.putfield 61, 3) := by decide +kernel
theorem dX3_tick_19 : decode cX3_tick 19 = .ok (.aload_n 0, 1) := by decide +kernel
theorem dX3_tick_20 : decode cX3_tick 20 = .ok (.iconst 2, 1) := by decide +kernel
theorem dX3_tick_21 : decode cX3_tick 21 = .ok (.invokevirtual 137, 3) := by decide +kernel
theorem dX3_tick_24 : decode cX3_tick 24 = .ok (.iconst 0, 1) := by decide +kernel
theorem dX3_tick_25 : decode cX3_tick 25 = .ok (.ireturn, 1) := by decide +kernel
theorem dX3_tick_26 : decode cX3_tick 26 = .ok (.aload_n 0, 1) := by decide +kernel
theorem dX3_tick_27 : decode cX3_tick 27 = .ok (.dup, 1) := by decide +kernel
theorem dX3_tick_28 : decode cX3_tick 28 = .ok (.getfield 61, 3) := by decide +kernel
theorem dX3_tick_31 : decode cX3_tick 31 = .ok (.iload_n 1, 1) := by decide +kernel
theorem dX3_tick_32 : decode cX3_tick 32 = .ok (.iadd, 1) := by decide +kernel
theorem dX3_tick_33 : decode cX3_tick 33 = .ok (.putfield 61, 3) := by decide +kernel
theorem dX3_tick_36 : decode cX3_tick 36 = .ok (.iconst 1, 1) := by decide +kernel
theorem dX3_tick_37 : decode cX3_tick 37 = .ok (.ireturn, 1) := by decide +kernel
theorem dX3_writeWord_0 : decode cX3_writeWord 0 = .ok (.aload_n 0, 1) := by decide +kernel
theorem dX3_writeWord_1 : decode cX3_writeWord 1 = .ok (.getfield 9, 3) := by decide +kernel
theorem dX3_writeWord_4 : decode cX3_writeWord 4 = .ok (.iload_n 1, 1) := by decide +kernel
theorem dX3_writeWord_5 : decode cX3_writeWord 5 = .ok (.bipush 15, 2) := by decide +kernel
theorem dX3_writeWord_7 : decode cX3_writeWord 7 = .ok (.iand, 1) := by decide +kernel
theorem dX3_writeWord_8 : decode cX3_writeWord 8 = .ok (.iload_n 2, 1) := by decide +kernel
theorem dX3_writeWord_9 : decode cX3_writeWord 9 = .ok (.iastore, 1) := by decide +kernel
theorem dX3_writeWord_10 : decode cX3_writeWord 10 = .ok (.return_, 1) := by decide +kernel
theorem qw693 : Cond.fieldLink RX2 165 "Gearbox$Flow" "first" "[I" ∈ gw := mq_2 (i := 21) rfl rfl
theorem qw698 : Cond.fieldLink RX2 172 "Gearbox$Flow" "second" "[I" ∈ gw := mq_2 (i := 29) rfl rfl
theorem qw704 : Cond.methodLink RX2 158 ⟨"java/lang/System", "arraycopy", "(Ljava/lang/Object;ILjava/lang/Object;II)V"⟩ ∈ gw := mq_8 (i := 233) rfl rfl
theorem qw705 : Cond.constant RX2 164 (1000000) ∈ gw := mq_8 (i := 234) rfl rfl
theorem qw706 : Cond.code yX2_spreadInto cX2_spreadInto 7 (Option.some Jvm.ClassFile.FieldType.boolean) ∈ gw := mq_8 (i := 238) rfl rfl
theorem qw707 : Cond.methodLink RX2 168 yX2_spreadInto ∈ gw := mq_8 (i := 235) rfl rfl
theorem qw708 : Cond.instanceMethod yX2_spreadInto ∈ gw := mq_8 (i := 237) rfl rfl
theorem qw709 : Cond.selects RX2 yX2_spreadInto yX2_spreadInto ∈ gw := mk_s (i := 68) rfl rfl
theorem qw710 : Cond.fieldLink RX3 30 "Gearbox$Machine" "arguments" "[I" ∈ gw := mq_4 (i := 0) rfl rfl
theorem qw711 : Cond.fieldLink RX3 54 "Gearbox$Machine" "outcome" "I" ∈ gw := mq_3 (i := 222) rfl rfl
theorem qw712 : Cond.fieldLink RX3 58 "Gearbox$Machine" "result" "I" ∈ gw := mq_3 (i := 224) rfl rfl
theorem qw713 : Cond.fieldLink RX3 61 "Gearbox$Machine" "steps" "I" ∈ gw := mq_3 (i := 226) rfl rfl
theorem qw714 : Cond.fieldLink RX3 9 "Gearbox$Machine" "memory" "[I" ∈ gw := mq_3 (i := 228) rfl rfl
theorem qw715 : Cond.methodLink RX3 70 ⟨"java/lang/System", "arraycopy", "(Ljava/lang/Object;ILjava/lang/Object;II)V"⟩ ∈ gw := mq_10 (i := 49) rfl rfl
theorem qw716 : Cond.fieldLink RX3 84 "Gearbox$Machine" "calls" "I" ∈ gw := mq_3 (i := 235) rfl rfl
theorem qw717 : Cond.fieldLink RX3 80 "Gearbox$Machine" "isRunning" "Z" ∈ gw := mq_3 (i := 234) rfl rfl
theorem qw718 : Cond.code yX3_stop cX3_stop 2 (Option.none : Option Jvm.ClassFile.FieldType) ∈ gw := mq_9 (i := 191) rfl rfl
theorem qw719 : Cond.methodLink RX3 137 yX3_stop ∈ gw := mq_9 (i := 188) rfl rfl
theorem qw720 : Cond.instanceMethod yX3_stop ∈ gw := mq_9 (i := 190) rfl rfl
theorem qw721 : Cond.selects RX3 yX3_stop yX3_stop ∈ gw := mk_s (i := 69) rfl rfl
theorem qw722 : Cond.initialized RX3 ∈ gw := mq_1 (i := 27) rfl rfl
theorem qw723 : Cond.fieldLink RX3 24 "Gearbox$Machine" "block" "[I" ∈ gw := mq_3 (i := 238) rfl rfl
theorem qw725 : Cond.fieldLink RX3 33 "Gearbox$Machine" "cells" "[I" ∈ gw := mq_4 (i := 1) rfl rfl
theorem qw727 : Cond.code yX3_close cX3_close 2 (Option.some Jvm.ClassFile.FieldType.boolean) ∈ gw := mq_9 (i := 236) rfl rfl
theorem qw728 : Cond.methodLink RX3 197 yX3_close ∈ gw := mq_9 (i := 233) rfl rfl
theorem qw729 : Cond.instanceMethod yX3_close ∈ gw := mq_9 (i := 235) rfl rfl
theorem qw730 : Cond.selects RX3 yX3_close yX3_close ∈ gw := mk_s (i := 70) rfl rfl
theorem qw732 : Cond.fieldLink RX3 18 "Gearbox$Machine" "function" "[I" ∈ gw := mq_3 (i := 236) rfl rfl
theorem qw733 : Cond.fieldLink RX3 42 "Gearbox$Machine" "program" "LGearbox$Program;" ∈ gw := mq_3 (i := 230) rfl rfl
theorem qw734 : Cond.fieldLink RX3 94 "Gearbox$Program" "parameters" "[I" ∈ gw := mq_3 (i := 163) rfl rfl
theorem qw735 : Cond.fieldLink RX3 87 "Gearbox$Machine" "count" "I" ∈ gw := mq_4 (i := 5) rfl rfl
theorem qw736 : Cond.fieldLink RX3 39 "Gearbox$Machine" "waiting" "[I" ∈ gw := mq_4 (i := 4) rfl rfl
theorem qw737 : Cond.code yX3_pop cX3_pop 1 (Option.some Jvm.ClassFile.FieldType.int) ∈ gw := mq_9 (i := 195) rfl rfl
theorem qw738 : Cond.methodLink RX3 140 yX3_pop ∈ gw := mq_9 (i := 192) rfl rfl
theorem qw739 : Cond.instanceMethod yX3_pop ∈ gw := mq_9 (i := 194) rfl rfl
theorem qw740 : Cond.selects RX3 yX3_pop yX3_pop ∈ gw := mk_s (i := 71) rfl rfl
theorem qw741 : Cond.fieldLink RX3 27 "Gearbox$Machine" "blockAhead" "[I" ∈ gw := mq_3 (i := 239) rfl rfl
theorem qw742 : Cond.fieldLink RX3 21 "Gearbox$Machine" "at" "[I" ∈ gw := mq_3 (i := 237) rfl rfl
theorem qw743 : Cond.fieldLink RX3 144 "Gearbox$Program" "from" "[I" ∈ gw := mq_3 (i := 171) rfl rfl
theorem qw744 : Cond.methodLink RX3 147 yJ7_fill_fda19 ∈ gw := mq_9 (i := 196) rfl rfl
theorem qw745 : Cond.fieldLink RX3 36 "Gearbox$Machine" "slots" "[I" ∈ gw := mq_4 (i := 2) rfl rfl
theorem qw746 : Cond.fieldLink RX3 116 "Gearbox$Machine" "slotRoom" "I" ∈ gw := mq_4 (i := 3) rfl rfl
theorem qw747 : Cond.fieldLink RX3 221 "Gearbox$Flow" "firstPhi" "[I" ∈ gw := mq_2 (i := 0) rfl rfl
theorem qw748 : Cond.code yX3_tick cX3_tick 2 (Option.some Jvm.ClassFile.FieldType.boolean) ∈ gw := mq_9 (i := 205) rfl rfl
theorem qw749 : Cond.methodLink RX3 161 yX3_tick ∈ gw := mq_9 (i := 202) rfl rfl
theorem qw750 : Cond.instanceMethod yX3_tick ∈ gw := mq_9 (i := 204) rfl rfl
theorem qw751 : Cond.selects RX3 yX3_tick yX3_tick ∈ gw := mk_s (i := 72) rfl rfl
theorem qw752 : Cond.methodLink RX3 224 yX1_take ∈ gw := mq_10 (i := 5) rfl rfl
theorem qw753 : Cond.fieldLink RX3 227 "Gearbox$Flow" "phiNext" "[I" ∈ gw := mq_2 (i := 68) rfl rfl
theorem qw754 : Cond.fieldLink RX3 230 "Gearbox$Flow" "phiGives" "[I" ∈ gw := mq_2 (i := 61) rfl rfl
theorem qw755 : Cond.fieldLink RX3 233 "Gearbox$Flow" "firstStep" "[I" ∈ gw := mq_1 (i := 231) rfl rfl
theorem qw756 : Cond.fieldLink RX3 207 "Gearbox$Flow" "steps" "LGearbox$Steps;" ∈ gw := mq_1 (i := 224) rfl rfl
theorem qw757 : Cond.fieldLink RX3 212 "Gearbox$Steps" "next" "[I" ∈ gw := mq_1 (i := 194) rfl rfl
theorem qw758 : Cond.fieldLink RX3 251 "Gearbox$Steps" "gives" "[I" ∈ gw := mq_1 (i := 173) rfl rfl
theorem qw767 : Cond.fieldLink RX3 184 "Gearbox$Program" "labelAt" "[I" ∈ gw := mq_3 (i := 188) rfl rfl
theorem qw768 : Cond.code yX3_push cX3_push 2 (Option.none : Option Jvm.ClassFile.FieldType) ∈ gw := mq_9 (i := 183) rfl rfl
theorem qw769 : Cond.methodLink RX3 99 yX3_push ∈ gw := mq_9 (i := 180) rfl rfl
theorem qw770 : Cond.instanceMethod yX3_push ∈ gw := mq_9 (i := 182) rfl rfl
theorem qw771 : Cond.selects RX3 yX3_push yX3_push ∈ gw := mk_s (i := 73) rfl rfl
theorem qw776 : Cond.code yX3_readWord cX3_readWord 2 (Option.some Jvm.ClassFile.FieldType.int) ∈ gw := mq_9 (i := 224) rfl rfl
theorem qw777 : Cond.methodLink RX3 187 yX3_readWord ∈ gw := mq_9 (i := 221) rfl rfl
theorem qw778 : Cond.instanceMethod yX3_readWord ∈ gw := mq_9 (i := 223) rfl rfl
theorem qw779 : Cond.selects RX3 yX3_readWord yX3_readWord ∈ gw := mk_s (i := 75) rfl rfl
theorem qw780 : Cond.code yX3_writeWord cX3_writeWord 3 (Option.none : Option Jvm.ClassFile.FieldType) ∈ gw := mq_9 (i := 228) rfl rfl
theorem qw781 : Cond.methodLink RX3 191 yX3_writeWord ∈ gw := mq_9 (i := 225) rfl rfl
theorem qw782 : Cond.instanceMethod yX3_writeWord ∈ gw := mq_9 (i := 227) rfl rfl
theorem qw783 : Cond.selects RX3 yX3_writeWord yX3_writeWord ∈ gw := mk_s (i := 76) rfl rfl
theorem qw784 : Cond.code yX3_enter cX3_enter 6 (Option.none : Option Jvm.ClassFile.FieldType) ∈ gw := mq_9 (i := 187) rfl rfl
theorem qw785 : Cond.methodLink RX3 102 yX3_enter ∈ gw := mq_9 (i := 184) rfl rfl
theorem qw786 : Cond.instanceMethod yX3_enter ∈ gw := mq_9 (i := 186) rfl rfl
theorem qw787 : Cond.selects RX3 yX3_enter yX3_enter ∈ gw := mk_s (i := 77) rfl rfl
theorem qw788 : Cond.code yX3_argumentOf cX3_argumentOf 3 (Option.some Jvm.ClassFile.FieldType.int) ∈ gw := mq_9 (i := 232) rfl rfl
theorem qw789 : Cond.methodLink RX3 194 yX3_argumentOf ∈ gw := mq_9 (i := 229) rfl rfl
theorem qw790 : Cond.instanceMethod yX3_argumentOf ∈ gw := mq_9 (i := 231) rfl rfl
theorem qw791 : Cond.selects RX3 yX3_argumentOf yX3_argumentOf ∈ gw := mk_s (i := 78) rfl rfl
def fX2_removeLive_L33 (p0w : ST) (p0l : SL) (p1 : Int32) : Nat → Int32 → Option (Sum (ST × SL) Unit)
  | 0 => fun _ => none
  | n_33 + 1 => fun v2_33 => (if (p0w 0 8) ≤ v2_33 then some (Sum.inr ()) else (if ixb v2_33 2 = true then (if (p0w 8 (nn v2_33)) = p1 then (lt9 (upw p0w 0 8 ((p0w 0 8) - 1)) fun (w5 : ST) => (if ixb (w5 0 8) 2 = true then (if ixb v2_33 2 = true then (lt9 (upw w5 8 (nn v2_33) (w5 8 (nn (w5 0 8)))) fun (w8 : ST) => some (Sum.inl (w8, p0l))) else none) else none)) else ((fX2_removeLive_L33 p0w p0l p1 n_33) (v2_33 + 1))) else none))
def fX2_removeLive (p0n : Nat → Nat) (p0w : ST) (p0l : SL) (p1 : Int32) : Option (ST × SL) := (if (p0w 0 0) ≤ p1 then ((fX2_removeLive_L33 p0w p0l p1 NF 0).bind fun (o33 : (Sum (ST × SL) Unit)) => Sum.elim (fun r => some r) (fun (t33 : Unit) => some (p0w, p0l)) o33) else (if ixb (p1 >>> (6 &&& 31)) (p0n 7) = true then (if ixb (p1 >>> (6 &&& 31)) (p0n 7) = true then (lt9 (upl p0l 7 (nn (p1 >>> (6 &&& 31))) ((p0l 7 (nn (p1 >>> (6 &&& 31)))) &&& ((((1 : Int64) <<< (((p1 &&& 63) : Int32).toInt64 &&& 63))) ^^^ ((-1) : Int64)))) fun (l11 : SL) => some (p0w, l11)) else none) else none))
set_option maxHeartbeats 16000000 in
set_option maxRecDepth 100000 in
theorem kX2_removeLive {zs : Nat × Nat} (l : Launch) (dC : Nat → ClassId) (dI : Nat → Nat → Nat) (p0a : Nat → Nat) (p0k : Nat → ClassId) (p0n : Nat → Nat) (p0w : ST) (p0l : SL) (p1 : Int32) (sz : Nat) (o : ST × SL) (hrun : fX2_removeLive p0n p0w p0l p1 = some o) : Met l yX2_removeLive (wz yX2_removeLive cX2_removeLive 3 (Option.none : Option Jvm.ClassFile.FieldType)) ({ frames := 0, cells := 0, slots := 0, locals := 0 } : Room) (va_Pc [.ref (p0a 0), .int p1] (PRE zs dC dI (oX2 (p0a 0) p0a p0k p0n p0w p0l) (tX2 p0k) sz)) (va_Qv (fun (_ : Unit) => True) (fun _ t => POST dC dI (oX2 (p0a 0) p0a p0k p0n (o.1) (o.2)) (tX2 p0k) (va_A (oX2 (p0a 0) p0a p0k p0n p0w p0l) sz) t) (va_A (oX2 (p0a 0) p0a p0k p0n p0w p0l) sz)) 0 0 (va_A (oX2 (p0a 0) p0a p0k p0n p0w p0l) sz) := by
  refine Met.ofW (cc := cX2_removeLive) (maxL := 3) (ret := (Option.none : Option Jvm.ClassFile.FieldType)) (by decide) rfl ?_
  intro p e s m args below meth c s₁ B hml hv
  obtain ⟨rfl, hsz, hP, hK, hD0, hE⟩ := hv
  have hx := B.exec
  have hb := B.bytes
  have hr := B.returns
  have hts0 := atoms_spec (ws := wz yX2_removeLive cX2_removeLive 3 (Option.none : Option Jvm.ClassFile.FieldType)) B.pre
  have hts : ∀ w ∈ gw, w.before _ s = true := fun w h => hts0 w (List.mem_cons_of_mem _ h)
  have hown : s.vm.findClass RX2 = some m.cls := findClass_of_methodNamed B.named
  have hlocks := B.notSynchronized
  subst hsz
  have hD := hD0.self (sz := s.heap.size)
  refine gQ9 ?_
  intro Q hQ
  generalize hAe : va_A (oX2 (p0a 0) p0a p0k p0n p0w p0l) s.heap.size = A at hD hE hQ
  have hA : ∀ q : Nat, s.heap.size ≤ q → A q := fun q h => by rw [← hAe]; exact Or.inr h
  have hS : va_S A s.heap s.heap [] := va_S.rf
  have hP : va_P (dC, dI) cls (oX2 (p0a 0) p0a p0k p0n p0w p0l) s.heap := hP
  have hl := lv_entry ([.ref (p0a 0), .int p1]) (n := 3) (Nat.le_of_ble_eq_true rfl)
  rw [lg_entry_eq]
  generalize (lg_sl ([.ref (p0a 0), .int p1]) ++ List.replicate (3 - (lg_sl ([.ref (p0a 0), .int p1])).length) Slot.unset).toArray = ls at hl ⊢
  have hl : lv_has ls 3 [(0, .ref (p0a 0)), (1, .int p1)] := hl
  obtain ⟨H, hHe⟩ : ∃ H, H = s.heap := ⟨_, rfl⟩
  obtain ⟨locs, hle⟩ : ∃ locs : List Loc, locs = [] := ⟨_, rfl⟩
  rw [← hHe] at hP
  have hS : va_S A s.heap H locs := by rw [hHe, hle]; exact hS
  show W p l e ({ frames := 0, cells := 0, slots := 0, locals := 0 } : Room) s m ([.ref (p0a 0), .int p1] : List Value).toArray below meth c s.heap [] 0 0 Q (F0 m 0 ls [])
  rw [← hle]
  refine wH9 hHe ?_
  unfold fX2_removeLive at hrun
  refine lv_iload_n hx hb dX2_removeLive_0 rfl (lv_at hl 1 rfl) ?_
  refine lv_aload_n hx hb dX2_removeLive_1 rfl (lv_at hl 0 rfl) ?_
  refine va_get (D := (dC, dI)) (ci := 9) (v := .int (p0w 0 0)) (C := RX2) (T := TX2) (N := 19) hx hb hts i_X2 hown hK hP 0 rfl rfl 0 (by decide) (hts _ qw588) (fun _ h9 => h9) rfl dX2_removeLive_2 ?_
  rcases br9 hrun with ⟨hc1, hrun⟩ | ⟨hc1, hrun⟩
  · refine lv_icmp_ge (tgt := 31) hx hb dX2_removeLive_5 (by decide) (fun _ => ?_) (fun c => absurd hc1 c)
    refine lv_iconst (v := 0) hx hb dX2_removeLive_31 (by decide) ?_
    refine lv_istore_n (lv' := [(2, .int 0), (0, .ref (p0a 0)), (1, .int p1)]) hx hb dX2_removeLive_32 rfl hl (by decide) rfl (fun ls hl => ?_)
    have L33 : ∀ (n_33 : Nat) (v2_33 : Int32) (o33 : (Sum (ST × SL) Unit)) (H : Heap) (locs : List Loc) (ls : Array Slot), (fX2_removeLive_L33 p0w p0l p1 n_33) v2_33 = some o33 → va_P (dC, dI) cls (oX2 (p0a 0) p0a p0k p0n p0w p0l) H → va_D A (oX2 (p0a 0) p0a p0k p0n p0w p0l) → va_S A s.heap H locs → lv_has ls 3 [(0, .ref (p0a 0)), (1, .int p1), (2, .int v2_33)] → (∀ r, o33 = Sum.inl r → r = o) → (∀ (t33 : Unit), o33 = Sum.inr t33 → ∀ (H : Heap) (locs : List Loc) (ls : Array Slot), va_P (dC, dI) cls (oX2 (p0a 0) p0a p0k p0n p0w p0l) H → va_D A (oX2 (p0a 0) p0a p0k p0n p0w p0l) → va_S A s.heap H locs → lv_has ls 3 [] → W p l e ({ frames := 0, cells := 0, slots := 0, locals := 0 } : Room) s m ([.ref (p0a 0), .int p1] : List Value).toArray below meth c H locs 0 0 Q (F0 m 83 ls [])) → W p l e ({ frames := 0, cells := 0, slots := 0, locals := 0 } : Room) s m ([.ref (p0a 0), .int p1] : List Value).toArray below meth c H locs 0 0 Q (F0 m 33 ls []) := by
      intro n_33
      induction n_33 with
      | zero => intro v2_33 o33 H locs ls hrun; exact (no9 rfl hrun).elim
      | succ n_33 IH33 =>
        intro v2_33 o33 H locs ls hrun hP hD hS hl hr33 hk33
        unfold fX2_removeLive_L33 at hrun
        refine lv_iload_n hx hb dX2_removeLive_33 rfl (lv_at hl 2 rfl) ?_
        refine lv_aload_n hx hb dX2_removeLive_34 rfl (lv_at hl 0 rfl) ?_
        refine va_get (D := (dC, dI)) (ci := 9) (v := .int (p0w 0 8)) (C := RX2) (T := TX2) (N := 19) hx hb hts i_X2 hown hK hP 0 rfl rfl 8 (by decide) (hts _ qw630) (fun _ h9 => h9) rfl dX2_removeLive_35 ?_
        rcases br9 hrun with ⟨hc2, hrun⟩ | ⟨hc2, hrun⟩
        · refine lv_icmp_ge (tgt := 83) hx hb dX2_removeLive_38 (by decide) (fun _ => ?_) (fun c => absurd hc2 c)
          obtain rfl := (Option.some.inj hrun)
          exact hk33 _ rfl _ _ _ hP hD hS (lv_sub hl [] rfl)
        · refine lv_icmp_ge (tgt := 83) hx hb dX2_removeLive_38 (by decide) (fun c => absurd c hc2) (fun _ => ?_)
          refine lv_aload_n hx hb dX2_removeLive_41 rfl (lv_at hl 0 rfl) ?_
          refine va_get (D := (dC, dI)) (ci := 9) (v := .ref (p0a 8)) (C := RX2) (T := TX2) (N := 19) hx hb hts i_X2 hown hK hP 0 rfl rfl 7 (by decide) (hts _ qw631) (fun _ h9 => h9) rfl dX2_removeLive_42 ?_
          refine lv_iload_n hx hb dX2_removeLive_45 rfl (lv_at hl 2 rfl) ?_
          obtain ⟨hq3, hrun⟩ := chk9 hrun
          refine va_iald hx hb hK hP 5 4 rfl rfl (ixb_in hq3) dX2_removeLive_46 ?_
          refine lv_iload_n hx hb dX2_removeLive_47 rfl (lv_at hl 1 rfl) ?_
          rcases br9 hrun with ⟨hc4, hrun⟩ | ⟨hc4, hrun⟩
          · refine lv_icmp_ne (tgt := 77) hx hb dX2_removeLive_48 (by decide) (fun c => absurd hc4 c) (fun _ => ?_)
            refine lv_aload_n hx hb dX2_removeLive_51 rfl (lv_at hl 0 rfl) ?_
            refine lv_dup hx hb dX2_removeLive_52 rfl ?_
            refine va_get (D := (dC, dI)) (ci := 9) (v := .int (p0w 0 8)) (C := RX2) (T := TX2) (N := 19) hx hb hts i_X2 hown hK hP 0 rfl rfl 8 (by decide) (hts _ qw630) (fun _ h9 => h9) rfl dX2_removeLive_53 ?_
            refine lv_iconst (v := 1) hx hb dX2_removeLive_56 (by decide) ?_
            refine lv_isub hx hb dX2_removeLive_57 ?_
            refine va_put (D := (dC, dI)) (ci := 9) (v := .int ((p0w 0 8) - 1)) (ty := .int) (C := RX2) (T := TX2) (N := 19) hx hb hts i_X2 tyX2 tyX2_ok nmX2 hown hK hP hD hS 0 rfl rfl 8 (by decide) (hts _ qw630) (fun _ h9 => h9) rfl (by decide +kernel) rfl rfl (Nat.le_of_ble_eq_true rfl) dX2_removeLive_58 (fun H locs hP hD hS => ?_)
            have hP : va_P (dC, dI) cls (oX2 (p0a 0) p0a p0k p0n (upw p0w 0 8 ((p0w 0 8) - 1)) p0l) H := hP
            have hD : va_D A (oX2 (p0a 0) p0a p0k p0n (upw p0w 0 8 ((p0w 0 8) - 1)) p0l) := hD
            obtain ⟨w5, ew5, hrun⟩ := let9 hrun
            rw [← ew5] at hP hD
            refine lv_aload_n hx hb dX2_removeLive_61 rfl (lv_at hl 0 rfl) ?_
            refine va_get (D := (dC, dI)) (ci := 9) (v := .ref (p0a 8)) (C := RX2) (T := TX2) (N := 19) hx hb hts i_X2 hown hK hP 0 rfl rfl 7 (by decide) (hts _ qw631) (fun _ h9 => h9) rfl dX2_removeLive_62 ?_
            refine lv_iload_n hx hb dX2_removeLive_65 rfl (lv_at hl 2 rfl) ?_
            refine lv_aload_n hx hb dX2_removeLive_66 rfl (lv_at hl 0 rfl) ?_
            refine va_get (D := (dC, dI)) (ci := 9) (v := .ref (p0a 8)) (C := RX2) (T := TX2) (N := 19) hx hb hts i_X2 hown hK hP 0 rfl rfl 7 (by decide) (hts _ qw631) (fun _ h9 => h9) rfl dX2_removeLive_67 ?_
            refine lv_aload_n hx hb dX2_removeLive_70 rfl (lv_at hl 0 rfl) ?_
            refine va_get (D := (dC, dI)) (ci := 9) (v := .int (w5 0 8)) (C := RX2) (T := TX2) (N := 19) hx hb hts i_X2 hown hK hP 0 rfl rfl 8 (by decide) (hts _ qw630) (fun _ h9 => h9) rfl dX2_removeLive_71 ?_
            obtain ⟨hq6, hrun⟩ := chk9 hrun
            refine va_iald hx hb hK hP 5 4 rfl rfl (ixb_in hq6) dX2_removeLive_74 ?_
            obtain ⟨hq7, hrun⟩ := chk9 hrun
            refine va_iast hx hb hK hP hD hS 5 4 rfl rfl (ixb_in hq7) dX2_removeLive_75 (fun H locs hP hD hS => ?_)
            have hP : va_P (dC, dI) cls (oX2 (p0a 0) p0a p0k p0n (upw w5 8 (nn v2_33) (w5 8 (nn (w5 0 8)))) p0l) H := hP
            have hD : va_D A (oX2 (p0a 0) p0a p0k p0n (upw w5 8 (nn v2_33) (w5 8 (nn (w5 0 8)))) p0l) := hD
            obtain ⟨w8, ew8, hrun⟩ := let9 hrun
            rw [← ew8] at hP hD
            have ho9 : (w8, p0l) = o := hr33 _ (Option.some.inj hrun).symm
            have hP9 : va_P (dC, dI) cls (oX2 (p0a 0) p0a p0k p0n (o.1) (o.2)) H := by first | exact hP | (rw [← ho9]; exact hP)
            have hD9 : va_D A (oX2 (p0a 0) p0a p0k p0n (o.1) (o.2)) := by first | exact hD | (rw [← ho9]; exact hD)
            subst hQ
            exact W.vret hx hb hr (fun t ht hW => ⟨⟨(), rfl, trivial, ⟨by rw [ht]; exact hP9, va_K.moved hW.alike hK, hD9⟩⟩, hS.F ht⟩) hS.2.2 dX2_removeLive_76
          · refine lv_icmp_ne (tgt := 77) hx hb dX2_removeLive_48 (by decide) (fun _ => ?_) (fun c => absurd c hc4)
            refine lv_iinc (v := (v2_33 + 1)) (lv' := [(2, .int (v2_33 + 1)), (0, .ref (p0a 0)), (1, .int p1)]) hx hb dX2_removeLive_77 hl (k := 2) rfl rfl (by decide) rfl (fun ls hl => ?_)
            refine lv_goto (tgt := 33) hx hb dX2_removeLive_80 (by decide) ?_
            exact IH33 (v2_33 + 1) o33 _ _ _ hrun hP hD hS (lv_sub hl [1, 2, 0] rfl) hr33 hk33
    obtain ⟨o33, hc33, hrun⟩ := bnd9 hrun
    refine L33 NF 0 o33 _ _ _ hc33 hP hD hS (lv_sub hl [1, 2, 0] rfl) (fun r e9 => by subst e9; exact Option.some.inj hrun) ?_
    intro t33 e9
    subst e9
    replace hrun := el9 hrun
    intro H locs ls hP hD hS hl
    have hl := hl
    have ho9 : (p0w, p0l) = o := Option.some.inj hrun
    have hP9 : va_P (dC, dI) cls (oX2 (p0a 0) p0a p0k p0n (o.1) (o.2)) H := by first | exact hP | (rw [← ho9]; exact hP)
    have hD9 : va_D A (oX2 (p0a 0) p0a p0k p0n (o.1) (o.2)) := by first | exact hD | (rw [← ho9]; exact hD)
    subst hQ
    exact W.vret hx hb hr (fun t ht hW => ⟨⟨(), rfl, trivial, ⟨by rw [ht]; exact hP9, va_K.moved hW.alike hK, hD9⟩⟩, hS.F ht⟩) hS.2.2 dX2_removeLive_83
  · refine lv_icmp_ge (tgt := 31) hx hb dX2_removeLive_5 (by decide) (fun c => absurd c hc1) (fun _ => ?_)
    refine lv_aload_n hx hb dX2_removeLive_8 rfl (lv_at hl 0 rfl) ?_
    refine va_get (D := (dC, dI)) (ci := 9) (v := .ref (p0a 7)) (C := RX2) (T := TX2) (N := 19) hx hb hts i_X2 hown hK hP 0 rfl rfl 6 (by decide) (hts _ qw632) (fun _ h9 => h9) rfl dX2_removeLive_9 ?_
    refine lv_iload_n hx hb dX2_removeLive_12 rfl (lv_at hl 1 rfl) ?_
    refine lv_bipush (v := 6) hx hb dX2_removeLive_13 (by decide) ?_
    refine lv_ishr hx hb dX2_removeLive_15 ?_
    refine lv_dup2_11 hx hb dX2_removeLive_16 rfl rfl ?_
    obtain ⟨hq9, hrun⟩ := chk9 hrun
    refine va_lald hx hb hK hP 4 3 rfl rfl (ixb_in hq9) dX2_removeLive_17 ?_
    refine lv_lconst (v := 1) hx hb dX2_removeLive_18 (by decide) ?_
    refine lv_iload_n hx hb dX2_removeLive_19 rfl (lv_at hl 1 rfl) ?_
    refine lv_bipush (v := 63) hx hb dX2_removeLive_20 (by decide) ?_
    refine lv_iand hx hb dX2_removeLive_22 ?_
    refine lv_lshl (v := (((1 : Int64) <<< (((p1 &&& 63) : Int32).toInt64 &&& 63)))) hx hb dX2_removeLive_23 rfl ?_
    refine lv_ldc2 (v := (-1)) hx hb hown (hts _ qw691) dX2_removeLive_24 ?_
    refine lv_lxor hx hb dX2_removeLive_27 ?_
    refine lv_land hx hb dX2_removeLive_28 ?_
    obtain ⟨hq10, hrun⟩ := chk9 hrun
    refine va_last hx hb hK hP hD hS 4 3 rfl rfl (ixb_in hq10) dX2_removeLive_29 (fun H locs hP hD hS => ?_)
    have hP : va_P (dC, dI) cls (oX2 (p0a 0) p0a p0k p0n p0w (upl p0l 7 (nn (p1 >>> (6 &&& 31))) ((p0l 7 (nn (p1 >>> (6 &&& 31)))) &&& ((((1 : Int64) <<< (((p1 &&& 63) : Int32).toInt64 &&& 63))) ^^^ ((-1) : Int64))))) H := hP
    have hD : va_D A (oX2 (p0a 0) p0a p0k p0n p0w (upl p0l 7 (nn (p1 >>> (6 &&& 31))) ((p0l 7 (nn (p1 >>> (6 &&& 31)))) &&& ((((1 : Int64) <<< (((p1 &&& 63) : Int32).toInt64 &&& 63))) ^^^ ((-1) : Int64))))) := hD
    obtain ⟨l11, el11, hrun⟩ := let9 hrun
    rw [← el11] at hP hD
    have ho9 : (p0w, l11) = o := Option.some.inj hrun
    have hP9 : va_P (dC, dI) cls (oX2 (p0a 0) p0a p0k p0n (o.1) (o.2)) H := by first | exact hP | (rw [← ho9]; exact hP)
    have hD9 : va_D A (oX2 (p0a 0) p0a p0k p0n (o.1) (o.2)) := by first | exact hD | (rw [← ho9]; exact hD)
    subst hQ
    exact W.vret hx hb hr (fun t ht hW => ⟨⟨(), rfl, trivial, ⟨by rw [ht]; exact hP9, va_K.moved hW.alike hK, hD9⟩⟩, hS.F ht⟩) hS.2.2 dX2_removeLive_30
def fX2_spreadInto_J109 (kk11 : Int32 → Int32 → SL → Option (Int32 × SL)) (v4_11 : Int32) (l8 : SL) (y0_109 : Int32) : Option (Int32 × SL) := (kk11 y0_109 (v4_11 + 1) l8)
def fX2_spreadInto_J104 (kk11 : Int32 → Int32 → SL → Option (Int32 × SL)) (v4_11 : Int32) (l8 : SL) : Option (Int32 × SL) := (fX2_spreadInto_J109 kk11 v4_11 l8 1)
def fX2_spreadInto_L11 (p0n : Nat → Nat) (p0w : ST) (p1 : Int32) (p2 : Int32) : Nat → Int32 → Int32 → SL → Option (Int32 × SL)
  | 0 => fun _ _ _ => none
  | n_11 + 1 => fun v3_11 v4_11 p0l_11 => (if (p0w 0 2) ≤ v4_11 then some (v3_11, p0l_11) else (if ixb ((p1 * (p0w 0 2)) + v4_11) (p0n 6) = true then (if ixb ((p2 * (p0w 0 2)) + v4_11) (p0n 5) = true then (if ixb ((p2 * (p0w 0 2)) + v4_11) (p0n 6) = true then (if ixb ((p2 * (p0w 0 2)) + v4_11) (p0n 6) = true then (if ixb ((p2 * (p0w 0 2)) + v4_11) (p0n 6) = true then (lt9 (upl p0l_11 6 (nn ((p2 * (p0w 0 2)) + v4_11)) ((p0l_11 6 (nn ((p2 * (p0w 0 2)) + v4_11))) ||| (((p0l_11 6 (nn ((p1 * (p0w 0 2)) + v4_11))) &&& ((p0l_11 5 (nn ((p2 * (p0w 0 2)) + v4_11))) ^^^ ((-1) : Int64))) &&& ((p0l_11 6 (nn ((p2 * (p0w 0 2)) + v4_11))) ^^^ ((-1) : Int64))))) fun (l8 : SL) => (if v3_11 = 0 then (if (lg_cmp (((p0l_11 6 (nn ((p1 * (p0w 0 2)) + v4_11))) &&& ((p0l_11 5 (nn ((p2 * (p0w 0 2)) + v4_11))) ^^^ ((-1) : Int64))) &&& ((p0l_11 6 (nn ((p2 * (p0w 0 2)) + v4_11))) ^^^ ((-1) : Int64))) (0 : Int64)) = 0 then (fX2_spreadInto_J109 (fX2_spreadInto_L11 p0n p0w p1 p2 n_11) v4_11 l8 0) else (fX2_spreadInto_J104 (fX2_spreadInto_L11 p0n p0w p1 p2 n_11) v4_11 l8)) else (fX2_spreadInto_J104 (fX2_spreadInto_L11 p0n p0w p1 p2 n_11) v4_11 l8))) else none) else none) else none) else none) else none))
def fX2_spreadInto (p0n : Nat → Nat) (p0w : ST) (p0l : SL) (p1 : Int32) (p2 : Int32) : Option (Int32 × SL) := (if 0 ≤ p1 then ((fX2_spreadInto_L11 p0n p0w p1 p2 NF 0 0 p0l).bind fun (o11 : Int32 × SL) => (if (o11.1) = 0 ∨ (o11.1) = 1 then some ((o11.1), (o11.2)) else none)) else some (0, p0l))
set_option maxHeartbeats 16000000 in
set_option maxRecDepth 100000 in
theorem kX2_spreadInto {zs : Nat × Nat} (l : Launch) (dC : Nat → ClassId) (dI : Nat → Nat → Nat) (p0a : Nat → Nat) (p0k : Nat → ClassId) (p0n : Nat → Nat) (p0w : ST) (p0l : SL) (p1 : Int32) (p2 : Int32) (sz : Nat) (o : Int32 × SL) (hrun : fX2_spreadInto p0n p0w p0l p1 p2 = some o) : Met l yX2_spreadInto (wz yX2_spreadInto cX2_spreadInto 7 (Option.some Jvm.ClassFile.FieldType.boolean)) ({ frames := 0, cells := 0, slots := 0, locals := 0 } : Room) (va_Pc [.ref (p0a 0), .int p1, .int p2] (PRE zs dC dI (oX2 (p0a 0) p0a p0k p0n p0w p0l) (tX2 p0k) sz)) (va_Qi (fun (r : Int32) (_ : Unit) => r = (o.1)) (fun _ t => POST dC dI (oX2 (p0a 0) p0a p0k p0n p0w (o.2)) (tX2 p0k) (va_A (oX2 (p0a 0) p0a p0k p0n p0w p0l) sz) t) (va_A (oX2 (p0a 0) p0a p0k p0n p0w p0l) sz)) 0 0 (va_A (oX2 (p0a 0) p0a p0k p0n p0w p0l) sz) := by
  refine Met.ofW (cc := cX2_spreadInto) (maxL := 7) (ret := (Option.some Jvm.ClassFile.FieldType.boolean)) (by decide) rfl ?_
  intro p e s m args below meth c s₁ B hml hv
  obtain ⟨rfl, hsz, hP, hK, hD0, hE⟩ := hv
  have hx := B.exec
  have hb := B.bytes
  have hr := B.returns
  have hts0 := atoms_spec (ws := wz yX2_spreadInto cX2_spreadInto 7 (Option.some Jvm.ClassFile.FieldType.boolean)) B.pre
  have hts : ∀ w ∈ gw, w.before _ s = true := fun w h => hts0 w (List.mem_cons_of_mem _ h)
  have hown : s.vm.findClass RX2 = some m.cls := findClass_of_methodNamed B.named
  have hlocks := B.notSynchronized
  subst hsz
  have hD := hD0.self (sz := s.heap.size)
  refine gQ9 ?_
  intro Q hQ
  generalize hAe : va_A (oX2 (p0a 0) p0a p0k p0n p0w p0l) s.heap.size = A at hD hE hQ
  have hA : ∀ q : Nat, s.heap.size ≤ q → A q := fun q h => by rw [← hAe]; exact Or.inr h
  have hS : va_S A s.heap s.heap [] := va_S.rf
  have hP : va_P (dC, dI) cls (oX2 (p0a 0) p0a p0k p0n p0w p0l) s.heap := hP
  have hl := lv_entry ([.ref (p0a 0), .int p1, .int p2]) (n := 7) (Nat.le_of_ble_eq_true rfl)
  rw [lg_entry_eq]
  generalize (lg_sl ([.ref (p0a 0), .int p1, .int p2]) ++ List.replicate (7 - (lg_sl ([.ref (p0a 0), .int p1, .int p2])).length) Slot.unset).toArray = ls at hl ⊢
  have hl : lv_has ls 7 [(0, .ref (p0a 0)), (1, .int p1), (2, .int p2)] := hl
  obtain ⟨H, hHe⟩ : ∃ H, H = s.heap := ⟨_, rfl⟩
  obtain ⟨locs, hle⟩ : ∃ locs : List Loc, locs = [] := ⟨_, rfl⟩
  rw [← hHe] at hP
  have hS : va_S A s.heap H locs := by rw [hHe, hle]; exact hS
  show W p l e ({ frames := 0, cells := 0, slots := 0, locals := 0 } : Room) s m ([.ref (p0a 0), .int p1, .int p2] : List Value).toArray below meth c s.heap [] 0 0 Q (F0 m 0 ls [])
  rw [← hle]
  refine wH9 hHe ?_
  unfold fX2_spreadInto at hrun
  refine lv_iload_n hx hb dX2_spreadInto_0 rfl (lv_at hl 1 rfl) ?_
  rcases br9 hrun with ⟨hc1, hrun⟩ | ⟨hc1, hrun⟩
  · refine lv_if_ge (tgt := 6) hx hb dX2_spreadInto_1 (by decide) (fun _ => ?_) (fun c => absurd hc1 c)
    refine lv_iconst (v := 0) hx hb dX2_spreadInto_6 (by decide) ?_
    refine lv_istore_n (lv' := [(3, .int 0), (0, .ref (p0a 0)), (1, .int p1), (2, .int p2)]) hx hb dX2_spreadInto_7 rfl hl (by decide) rfl (fun ls hl => ?_)
    refine lv_iconst (v := 0) hx hb dX2_spreadInto_8 (by decide) ?_
    refine lv_istore (lv' := [(4, .int 0), (3, .int 0), (0, .ref (p0a 0)), (1, .int p1), (2, .int p2)]) hx hb dX2_spreadInto_9 hl (by decide) rfl (fun ls hl => ?_)
    have L11 : ∀ (n_11 : Nat) (v3_11 : Int32) (v4_11 : Int32) (p0l_11 : SL) (o11 : Int32 × SL) (H : Heap) (locs : List Loc) (ls : Array Slot), (fX2_spreadInto_L11 p0n p0w p1 p2 n_11) v3_11 v4_11 p0l_11 = some o11 → va_P (dC, dI) cls (oX2 (p0a 0) p0a p0k p0n p0w p0l_11) H → va_D A (oX2 (p0a 0) p0a p0k p0n p0w p0l_11) → va_S A s.heap H locs → lv_has ls 7 [(0, .ref (p0a 0)), (1, .int p1), (2, .int p2), (3, .int v3_11), (4, .int v4_11)] → (∀ (H : Heap) (locs : List Loc) (ls : Array Slot), va_P (dC, dI) cls (oX2 (p0a 0) p0a p0k p0n p0w (o11.2)) H → va_D A (oX2 (p0a 0) p0a p0k p0n p0w (o11.2)) → va_S A s.heap H locs → lv_has ls 7 [(3, .int (o11.1))] → W p l e ({ frames := 0, cells := 0, slots := 0, locals := 0 } : Room) s m ([.ref (p0a 0), .int p1, .int p2] : List Value).toArray below meth c H locs 0 0 Q (F0 m 116 ls [])) → W p l e ({ frames := 0, cells := 0, slots := 0, locals := 0 } : Room) s m ([.ref (p0a 0), .int p1, .int p2] : List Value).toArray below meth c H locs 0 0 Q (F0 m 11 ls []) := by
      intro n_11
      induction n_11 with
      | zero => intro v3_11 v4_11 p0l_11 o11 H locs ls hrun; exact (no9 rfl hrun).elim
      | succ n_11 IH11 =>
        intro v3_11 v4_11 p0l_11 o11 H locs ls hrun hP hD hS hl hk11
        unfold fX2_spreadInto_L11 at hrun
        refine lv_iload hx hb dX2_spreadInto_11 (lv_at hl 4 rfl) ?_
        refine lv_aload_n hx hb dX2_spreadInto_13 rfl (lv_at hl 0 rfl) ?_
        refine va_get (D := (dC, dI)) (ci := 9) (v := .int (p0w 0 2)) (C := RX2) (T := TX2) (N := 19) hx hb hts i_X2 hown hK hP 0 rfl rfl 2 (by decide) (hts _ qw590) (fun _ h9 => h9) rfl dX2_spreadInto_14 ?_
        rcases br9 hrun with ⟨hc2, hrun⟩ | ⟨hc2, hrun⟩
        · refine lv_icmp_ge (tgt := 116) hx hb dX2_spreadInto_17 (by decide) (fun _ => ?_) (fun c => absurd hc2 c)
          obtain rfl := (Option.some.inj hrun)
          exact hk11 _ _ _ hP hD hS (lv_sub hl [3] rfl)
        · refine lv_icmp_ge (tgt := 116) hx hb dX2_spreadInto_17 (by decide) (fun c => absurd c hc2) (fun _ => ?_)
          refine lv_aload_n hx hb dX2_spreadInto_20 rfl (lv_at hl 0 rfl) ?_
          refine va_get (D := (dC, dI)) (ci := 9) (v := .ref (p0a 6)) (C := RX2) (T := TX2) (N := 19) hx hb hts i_X2 hown hK hP 0 rfl rfl 5 (by decide) (hts _ qw637) (fun _ h9 => h9) rfl dX2_spreadInto_21 ?_
          refine lv_iload_n hx hb dX2_spreadInto_24 rfl (lv_at hl 1 rfl) ?_
          refine lv_aload_n hx hb dX2_spreadInto_25 rfl (lv_at hl 0 rfl) ?_
          refine va_get (D := (dC, dI)) (ci := 9) (v := .int (p0w 0 2)) (C := RX2) (T := TX2) (N := 19) hx hb hts i_X2 hown hK hP 0 rfl rfl 2 (by decide) (hts _ qw590) (fun _ h9 => h9) rfl dX2_spreadInto_26 ?_
          refine lv_imul hx hb dX2_spreadInto_29 ?_
          refine lv_iload hx hb dX2_spreadInto_30 (lv_at hl 4 rfl) ?_
          refine lv_iadd hx hb dX2_spreadInto_32 ?_
          obtain ⟨hq3, hrun⟩ := chk9 hrun
          refine va_lald hx hb hK hP 3 2 rfl rfl (ixb_in hq3) dX2_spreadInto_33 ?_
          refine lv_aload_n hx hb dX2_spreadInto_34 rfl (lv_at hl 0 rfl) ?_
          refine va_get (D := (dC, dI)) (ci := 9) (v := .ref (p0a 5)) (C := RX2) (T := TX2) (N := 19) hx hb hts i_X2 hown hK hP 0 rfl rfl 4 (by decide) (hts _ qw699) (fun _ h9 => h9) rfl dX2_spreadInto_35 ?_
          refine lv_iload_n hx hb dX2_spreadInto_38 rfl (lv_at hl 2 rfl) ?_
          refine lv_aload_n hx hb dX2_spreadInto_39 rfl (lv_at hl 0 rfl) ?_
          refine va_get (D := (dC, dI)) (ci := 9) (v := .int (p0w 0 2)) (C := RX2) (T := TX2) (N := 19) hx hb hts i_X2 hown hK hP 0 rfl rfl 2 (by decide) (hts _ qw590) (fun _ h9 => h9) rfl dX2_spreadInto_40 ?_
          refine lv_imul hx hb dX2_spreadInto_43 ?_
          refine lv_iload hx hb dX2_spreadInto_44 (lv_at hl 4 rfl) ?_
          refine lv_iadd hx hb dX2_spreadInto_46 ?_
          obtain ⟨hq4, hrun⟩ := chk9 hrun
          refine va_lald hx hb hK hP 2 1 rfl rfl (ixb_in hq4) dX2_spreadInto_47 ?_
          refine lv_ldc2 (v := (-1)) hx hb hown (hts _ qw691) dX2_spreadInto_48 ?_
          refine lv_lxor hx hb dX2_spreadInto_51 ?_
          refine lv_land hx hb dX2_spreadInto_52 ?_
          refine lv_aload_n hx hb dX2_spreadInto_53 rfl (lv_at hl 0 rfl) ?_
          refine va_get (D := (dC, dI)) (ci := 9) (v := .ref (p0a 6)) (C := RX2) (T := TX2) (N := 19) hx hb hts i_X2 hown hK hP 0 rfl rfl 5 (by decide) (hts _ qw637) (fun _ h9 => h9) rfl dX2_spreadInto_54 ?_
          refine lv_iload_n hx hb dX2_spreadInto_57 rfl (lv_at hl 2 rfl) ?_
          refine lv_aload_n hx hb dX2_spreadInto_58 rfl (lv_at hl 0 rfl) ?_
          refine va_get (D := (dC, dI)) (ci := 9) (v := .int (p0w 0 2)) (C := RX2) (T := TX2) (N := 19) hx hb hts i_X2 hown hK hP 0 rfl rfl 2 (by decide) (hts _ qw590) (fun _ h9 => h9) rfl dX2_spreadInto_59 ?_
          refine lv_imul hx hb dX2_spreadInto_62 ?_
          refine lv_iload hx hb dX2_spreadInto_63 (lv_at hl 4 rfl) ?_
          refine lv_iadd hx hb dX2_spreadInto_65 ?_
          obtain ⟨hq5, hrun⟩ := chk9 hrun
          refine va_lald hx hb hK hP 3 2 rfl rfl (ixb_in hq5) dX2_spreadInto_66 ?_
          refine lv_ldc2 (v := (-1)) hx hb hown (hts _ qw691) dX2_spreadInto_67 ?_
          refine lv_lxor hx hb dX2_spreadInto_70 ?_
          refine lv_land hx hb dX2_spreadInto_71 ?_
          refine lv_lstore (lv' := [(5, .long (((p0l_11 6 (nn ((p1 * (p0w 0 2)) + v4_11))) &&& ((p0l_11 5 (nn ((p2 * (p0w 0 2)) + v4_11))) ^^^ ((-1) : Int64))) &&& ((p0l_11 6 (nn ((p2 * (p0w 0 2)) + v4_11))) ^^^ ((-1) : Int64)))), (0, .ref (p0a 0)), (1, .int p1), (2, .int p2), (3, .int v3_11), (4, .int v4_11)]) hx hb dX2_spreadInto_72 hl (by decide) rfl (fun ls hl => ?_)
          refine lv_aload_n hx hb dX2_spreadInto_74 rfl (lv_at hl 1 rfl) ?_
          refine va_get (D := (dC, dI)) (ci := 9) (v := .ref (p0a 6)) (C := RX2) (T := TX2) (N := 19) hx hb hts i_X2 hown hK hP 0 rfl rfl 5 (by decide) (hts _ qw637) (fun _ h9 => h9) rfl dX2_spreadInto_75 ?_
          refine lv_iload_n hx hb dX2_spreadInto_78 rfl (lv_at hl 3 rfl) ?_
          refine lv_aload_n hx hb dX2_spreadInto_79 rfl (lv_at hl 1 rfl) ?_
          refine va_get (D := (dC, dI)) (ci := 9) (v := .int (p0w 0 2)) (C := RX2) (T := TX2) (N := 19) hx hb hts i_X2 hown hK hP 0 rfl rfl 2 (by decide) (hts _ qw590) (fun _ h9 => h9) rfl dX2_spreadInto_80 ?_
          refine lv_imul hx hb dX2_spreadInto_83 ?_
          refine lv_iload hx hb dX2_spreadInto_84 (lv_at hl 5 rfl) ?_
          refine lv_iadd hx hb dX2_spreadInto_86 ?_
          refine lv_dup2_11 hx hb dX2_spreadInto_87 rfl rfl ?_
          obtain ⟨hq6, hrun⟩ := chk9 hrun
          refine va_lald hx hb hK hP 3 2 rfl rfl (ixb_in hq6) dX2_spreadInto_88 ?_
          refine lv_lload hx hb dX2_spreadInto_89 (lv_at hl 0 rfl) ?_
          refine lv_lor hx hb dX2_spreadInto_91 ?_
          obtain ⟨hq7, hrun⟩ := chk9 hrun
          refine va_last hx hb hK hP hD hS 3 2 rfl rfl (ixb_in hq7) dX2_spreadInto_92 (fun H locs hP hD hS => ?_)
          have hP : va_P (dC, dI) cls (oX2 (p0a 0) p0a p0k p0n p0w (upl p0l_11 6 (nn ((p2 * (p0w 0 2)) + v4_11)) ((p0l_11 6 (nn ((p2 * (p0w 0 2)) + v4_11))) ||| (((p0l_11 6 (nn ((p1 * (p0w 0 2)) + v4_11))) &&& ((p0l_11 5 (nn ((p2 * (p0w 0 2)) + v4_11))) ^^^ ((-1) : Int64))) &&& ((p0l_11 6 (nn ((p2 * (p0w 0 2)) + v4_11))) ^^^ ((-1) : Int64)))))) H := hP
          have hD : va_D A (oX2 (p0a 0) p0a p0k p0n p0w (upl p0l_11 6 (nn ((p2 * (p0w 0 2)) + v4_11)) ((p0l_11 6 (nn ((p2 * (p0w 0 2)) + v4_11))) ||| (((p0l_11 6 (nn ((p1 * (p0w 0 2)) + v4_11))) &&& ((p0l_11 5 (nn ((p2 * (p0w 0 2)) + v4_11))) ^^^ ((-1) : Int64))) &&& ((p0l_11 6 (nn ((p2 * (p0w 0 2)) + v4_11))) ^^^ ((-1) : Int64)))))) := hD
          obtain ⟨l8, el8, hrun⟩ := let9 hrun
          rw [← el8] at hP hD
          refine lv_iload_n hx hb dX2_spreadInto_93 rfl (lv_at hl 4 rfl) ?_
          have J109 : ∀ (y0_109 : Int32) (H : Heap) (locs : List Loc) (ls : Array Slot), (fX2_spreadInto_J109 (fX2_spreadInto_L11 p0n p0w p1 p2 n_11) v4_11 l8 y0_109) = some o11 → va_P (dC, dI) cls (oX2 (p0a 0) p0a p0k p0n p0w l8) H → va_D A (oX2 (p0a 0) p0a p0k p0n p0w l8) → va_S A s.heap H locs → lv_has ls 7 [(0, .ref (p0a 0)), (1, .int p1), (2, .int p2), (4, .int v4_11)] → W p l e ({ frames := 0, cells := 0, slots := 0, locals := 0 } : Room) s m ([.ref (p0a 0), .int p1, .int p2] : List Value).toArray below meth c H locs 0 0 Q (F0 m 109 ls [.int y0_109]) := by
            intro y0_109 H locs ls hrun hP hD hS hl
            unfold fX2_spreadInto_J109 at hrun
            refine lv_istore_n (lv' := [(3, .int y0_109), (0, .ref (p0a 0)), (1, .int p1), (2, .int p2), (4, .int v4_11)]) hx hb dX2_spreadInto_109 rfl hl (by decide) rfl (fun ls hl => ?_)
            refine lv_iinc (v := (v4_11 + 1)) (lv' := [(4, .int (v4_11 + 1)), (3, .int y0_109), (0, .ref (p0a 0)), (1, .int p1), (2, .int p2)]) hx hb dX2_spreadInto_110 hl (k := 4) rfl rfl (by decide) rfl (fun ls hl => ?_)
            refine lv_goto (tgt := 11) hx hb dX2_spreadInto_113 (by decide) ?_
            exact IH11 y0_109 (v4_11 + 1) l8 o11 _ _ _ hrun hP hD hS (lv_sub hl [2, 3, 4, 1, 0] rfl) hk11
          have J104 : ∀ (H : Heap) (locs : List Loc) (ls : Array Slot), (fX2_spreadInto_J104 (fX2_spreadInto_L11 p0n p0w p1 p2 n_11) v4_11 l8) = some o11 → va_P (dC, dI) cls (oX2 (p0a 0) p0a p0k p0n p0w l8) H → va_D A (oX2 (p0a 0) p0a p0k p0n p0w l8) → va_S A s.heap H locs → lv_has ls 7 [(0, .ref (p0a 0)), (1, .int p1), (2, .int p2), (4, .int v4_11)] → W p l e ({ frames := 0, cells := 0, slots := 0, locals := 0 } : Room) s m ([.ref (p0a 0), .int p1, .int p2] : List Value).toArray below meth c H locs 0 0 Q (F0 m 104 ls []) := by
            intro  H locs ls hrun hP hD hS hl
            unfold fX2_spreadInto_J104 at hrun
            refine lv_iconst (v := 1) hx hb dX2_spreadInto_104 (by decide) ?_
            refine lv_goto (tgt := 109) hx hb dX2_spreadInto_105 (by decide) ?_
            exact J109 1 _ _ _ hrun hP hD hS (lv_sub hl [0, 1, 2, 3] rfl)
          rcases br9 hrun with ⟨hc9, hrun⟩ | ⟨hc9, hrun⟩
          · refine lv_if_ne (tgt := 104) hx hb dX2_spreadInto_94 (by decide) (fun c => absurd hc9 c) (fun _ => ?_)
            refine lv_lload hx hb dX2_spreadInto_97 (lv_at hl 0 rfl) ?_
            refine lv_lconst (v := 0) hx hb dX2_spreadInto_99 (by decide) ?_
            refine W.lcmp hx hb dX2_spreadInto_100 ?_
            rcases br9 hrun with ⟨hc10, hrun⟩ | ⟨hc10, hrun⟩
            · refine lv_if_eq (tgt := 108) hx hb dX2_spreadInto_101 (by decide) (fun _ => ?_) (fun c => absurd hc10 c)
              refine lv_iconst (v := 0) hx hb dX2_spreadInto_108 (by decide) ?_
              exact J109 0 _ _ _ hrun hP hD hS (lv_sub hl [1, 2, 3, 5] rfl)
            · refine lv_if_eq (tgt := 108) hx hb dX2_spreadInto_101 (by decide) (fun c => absurd c hc10) (fun _ => ?_)
              exact J104 _ _ _ hrun hP hD hS (lv_sub hl [1, 2, 3, 5] rfl)
          · refine lv_if_ne (tgt := 104) hx hb dX2_spreadInto_94 (by decide) (fun _ => ?_) (fun c => absurd c hc9)
            exact J104 _ _ _ hrun hP hD hS (lv_sub hl [1, 2, 3, 5] rfl)
    obtain ⟨o11, hc11, hrun⟩ := bnd9 hrun
    refine L11 NF 0 0 p0l o11 _ _ _ hc11 hP hD hS (lv_sub hl [2, 3, 4, 1, 0] rfl) ?_
    intro H locs ls hP hD hS hl
    have hl := hl
    refine lv_iload_n hx hb dX2_spreadInto_116 rfl (lv_at hl 0 rfl) ?_
    obtain ⟨hz9, hrun⟩ := chk9 hrun
    have ho9 : ((o11.1), (o11.2)) = o := Option.some.inj hrun
    have hP9 : va_P (dC, dI) cls (oX2 (p0a 0) p0a p0k p0n p0w (o.2)) H := by first | exact hP | (rw [← ho9]; exact hP)
    have hD9 : va_D A (oX2 (p0a 0) p0a p0k p0n p0w (o.2)) := by first | exact hD | (rw [← ho9]; exact hD)
    subst hQ
    exact W.zret (v := (o11.1)) hx hb hr (bz9 hz9) (fun t ht hW => ⟨⟨(o11.1), (), rfl, (by rw [← ho9]), ⟨by rw [ht]; exact hP9, va_K.moved hW.alike hK, hD9⟩⟩, hS.F ht⟩) hS.2.2 dX2_spreadInto_117
  · refine lv_if_ge (tgt := 6) hx hb dX2_spreadInto_1 (by decide) (fun c => absurd c hc1) (fun _ => ?_)
    refine lv_iconst (v := 0) hx hb dX2_spreadInto_4 (by decide) ?_
    have ho9 : (0, p0l) = o := Option.some.inj hrun
    have hP9 : va_P (dC, dI) cls (oX2 (p0a 0) p0a p0k p0n p0w (o.2)) H := by first | exact hP | (rw [← ho9]; exact hP)
    have hD9 : va_D A (oX2 (p0a 0) p0a p0k p0n p0w (o.2)) := by first | exact hD | (rw [← ho9]; exact hD)
    subst hQ
    exact W.zret (v := 0) hx hb hr (by decide) (fun t ht hW => ⟨⟨0, (), rfl, (by rw [← ho9]), ⟨by rw [ht]; exact hP9, va_K.moved hW.alike hK, hD9⟩⟩, hS.F ht⟩) hS.2.2 dX2_spreadInto_5
def fX2_spreadLife_J96 (kk46 : Int32 → Int32 → SL → Option (Int32 × SL)) (v4_46 : Int32) (o_10 : Int32 × SL) (y0_96 : Int32) : Option (Int32 × SL) := (kk46 y0_96 (v4_46 + (-1)) (o_10.2))
def fX2_spreadLife_J91 (kk46 : Int32 → Int32 → SL → Option (Int32 × SL)) (v4_46 : Int32) (o_10 : Int32 × SL) : Option (Int32 × SL) := (fX2_spreadLife_J96 kk46 v4_46 o_10 1)
def fX2_spreadLife_L46 (p0n : Nat → Nat) (p0w : ST) (p1w : ST) : Nat → Int32 → Int32 → SL → Option (Int32 × SL)
  | 0 => fun _ _ _ => none
  | n_46 + 1 => fun v2_46 v4_46 p0l_46 => (if v4_46 < 0 then some (v2_46, p0l_46) else (if ixb v4_46 60 = true then ((fX2_spreadInto p0n p0w p0l_46 (p1w 10 (nn v4_46)) v4_46).bind fun (o_7 : Int32 × SL) => (if ixb v4_46 60 = true then ((fX2_spreadInto p0n p0w (o_7.2) (p1w 11 (nn v4_46)) v4_46).bind fun (o_10 : Int32 × SL) => (if (o_10.1) = 0 then (if (o_7.1) = 0 then (if v2_46 = 0 then (fX2_spreadLife_J96 (fX2_spreadLife_L46 p0n p0w p1w n_46) v4_46 o_10 0) else (fX2_spreadLife_J91 (fX2_spreadLife_L46 p0n p0w p1w n_46) v4_46 o_10)) else (fX2_spreadLife_J91 (fX2_spreadLife_L46 p0n p0w p1w n_46) v4_46 o_10)) else (fX2_spreadLife_J91 (fX2_spreadLife_L46 p0n p0w p1w n_46) v4_46 o_10))) else none)) else none))
def fX2_spreadLife_L26 (p0n : Nat → Nat) (p0w : ST) (p1w : ST) : Nat → Int32 → Int32 → SL → Option SL
  | 0 => fun _ _ _ => none
  | n_26 + 1 => fun v2_26 v3_26 p0l_26 => (if v2_26 = 0 then some p0l_26 else (if 1000000 ≤ v3_26 then some p0l_26 else ((fX2_spreadLife_L46 p0n p0w p1w NF 0 ((p1w 0 0) - 1) p0l_26).bind fun (o46 : Int32 × SL) => ((fX2_spreadLife_L26 p0n p0w p1w n_26) (o46.1) (v3_26 + 1) (o46.2)))))
def fX2_spreadLife (p0n : Nat → Nat) (p0w : ST) (p0l : SL) (p1w : ST) : Option SL := (if cpk 0 0 ((p1w 0 0) * (p0w 0 2)) (p0n 4) (p0n 6) = true then (lt9 (srl p0l 6 (va_cpy (p0l 4) (p0l 6) (nn 0) (nn 0) (nn ((p1w 0 0) * (p0w 0 2))))) fun (l2 : SL) => ((fX2_spreadLife_L26 p0n p0w p1w NF 1 0 l2).bind fun (o26 : SL) => some o26)) else none)
set_option maxHeartbeats 16000000 in
set_option maxRecDepth 100000 in
theorem kX2_spreadLife {zs : Nat × Nat} (l : Launch) (dC : Nat → ClassId) (dI : Nat → Nat → Nat) (p0a : Nat → Nat) (p0k : Nat → ClassId) (p0n : Nat → Nat) (p0w : ST) (p0l : SL) (p1a : Nat → Nat) (p1k : Nat → ClassId) (p1n : Nat → Nat) (p1w : ST) (p1l : SL) (sz : Nat) (o : SL) (hrun : fX2_spreadLife p0n p0w p0l p1w = some o) : Met l yX2_spreadLife (wz yX2_spreadLife cX2_spreadLife 6 (Option.none : Option Jvm.ClassFile.FieldType)) ({ frames := 1, cells := 0, slots := 0, locals := 40 } : Room) (va_Pc [.ref (p0a 0), .ref (p1a 0)] (PRE zs dC dI ((oX2 (p0a 0) p0a p0k p0n p0w p0l) ++ (oX1 (p1a 0) p1a p1k p1n p1w p1l)) ((tX2 p0k) ++ (tX1 p1k)) sz)) (va_Qv (fun (_ : Unit) => True) (fun _ t => POST dC dI ((oX2 (p0a 0) p0a p0k p0n p0w o) ++ (oX1 (p1a 0) p1a p1k p1n p1w p1l)) ((tX2 p0k) ++ (tX1 p1k)) (va_A ((oX2 (p0a 0) p0a p0k p0n p0w p0l) ++ (oX1 (p1a 0) p1a p1k p1n p1w p1l)) sz) t) (va_A ((oX2 (p0a 0) p0a p0k p0n p0w p0l) ++ (oX1 (p1a 0) p1a p1k p1n p1w p1l)) sz)) 0 0 (va_A ((oX2 (p0a 0) p0a p0k p0n p0w p0l) ++ (oX1 (p1a 0) p1a p1k p1n p1w p1l)) sz) := by
  refine Met.ofW (cc := cX2_spreadLife) (maxL := 6) (ret := (Option.none : Option Jvm.ClassFile.FieldType)) (by decide) rfl ?_
  intro p e s m args below meth c s₁ B hml hv
  obtain ⟨rfl, hsz, hP, hK, hD0, hE⟩ := hv
  have hx := B.exec
  have hb := B.bytes
  have hr := B.returns
  have hts0 := atoms_spec (ws := wz yX2_spreadLife cX2_spreadLife 6 (Option.none : Option Jvm.ClassFile.FieldType)) B.pre
  have hts : ∀ w ∈ gw, w.before _ s = true := fun w h => hts0 w (List.mem_cons_of_mem _ h)
  have hown : s.vm.findClass RX2 = some m.cls := findClass_of_methodNamed B.named
  have hlocks := B.notSynchronized
  subst hsz
  have hD := hD0.self (sz := s.heap.size)
  refine gQ9 ?_
  intro Q hQ
  generalize hAe : va_A ((oX2 (p0a 0) p0a p0k p0n p0w p0l) ++ (oX1 (p1a 0) p1a p1k p1n p1w p1l)) s.heap.size = A at hD hE hQ
  have hA : ∀ q : Nat, s.heap.size ≤ q → A q := fun q h => by rw [← hAe]; exact Or.inr h
  have hS : va_S A s.heap s.heap [] := va_S.rf
  have hP : va_P (dC, dI) cls ((oX2 (p0a 0) p0a p0k p0n p0w p0l) ++ (oX1 (p1a 0) p1a p1k p1n p1w p1l)) s.heap := hP
  have hl := lv_entry ([.ref (p0a 0), .ref (p1a 0)]) (n := 6) (Nat.le_of_ble_eq_true rfl)
  rw [lg_entry_eq]
  generalize (lg_sl ([.ref (p0a 0), .ref (p1a 0)]) ++ List.replicate (6 - (lg_sl ([.ref (p0a 0), .ref (p1a 0)])).length) Slot.unset).toArray = ls at hl ⊢
  have hl : lv_has ls 6 [(0, .ref (p0a 0)), (1, .ref (p1a 0))] := hl
  obtain ⟨H, hHe⟩ : ∃ H, H = s.heap := ⟨_, rfl⟩
  obtain ⟨locs, hle⟩ : ∃ locs : List Loc, locs = [] := ⟨_, rfl⟩
  rw [← hHe] at hP
  have hS : va_S A s.heap H locs := by rw [hHe, hle]; exact hS
  show W p l e ({ frames := 1, cells := 0, slots := 0, locals := 40 } : Room) s m ([.ref (p0a 0), .ref (p1a 0)] : List Value).toArray below meth c s.heap [] 0 0 Q (F0 m 0 ls [])
  rw [← hle]
  refine wH9 hHe ?_
  unfold fX2_spreadLife at hrun
  refine lv_aload_n hx hb dX2_spreadLife_0 rfl (lv_at hl 0 rfl) ?_
  refine va_get (D := (dC, dI)) (ci := 9) (v := .ref (p0a 4)) (C := RX2) (T := TX2) (N := 19) hx hb hts i_X2 hown hK hP 0 rfl rfl 3 (by decide) (hts _ qw686) (fun _ h9 => h9) rfl dX2_spreadLife_1 ?_
  refine lv_iconst (v := 0) hx hb dX2_spreadLife_4 (by decide) ?_
  refine lv_aload_n hx hb dX2_spreadLife_5 rfl (lv_at hl 0 rfl) ?_
  refine va_get (D := (dC, dI)) (ci := 9) (v := .ref (p0a 6)) (C := RX2) (T := TX2) (N := 19) hx hb hts i_X2 hown hK hP 0 rfl rfl 5 (by decide) (hts _ qw637) (fun _ h9 => h9) rfl dX2_spreadLife_6 ?_
  refine lv_iconst (v := 0) hx hb dX2_spreadLife_9 (by decide) ?_
  refine lv_aload_n hx hb dX2_spreadLife_10 rfl (lv_at hl 1 rfl) ?_
  refine va_get (D := (dC, dI)) (ci := 4) (v := .int (p1w 0 0)) (C := RX1) (T := TX1) (N := 21) hx hb hts i_X1 hown hK hP 16 rfl rfl 0 (by decide) (hts _ qw645) (fun _ h9 => h9) rfl dX2_spreadLife_11 ?_
  refine lv_aload_n hx hb dX2_spreadLife_14 rfl (lv_at hl 0 rfl) ?_
  refine va_get (D := (dC, dI)) (ci := 9) (v := .int (p0w 0 2)) (C := RX2) (T := TX2) (N := 19) hx hb hts i_X2 hown hK hP 0 rfl rfl 2 (by decide) (hts _ qw590) (fun _ h9 => h9) rfl dX2_spreadLife_15 ?_
  refine lv_imul hx hb dX2_spreadLife_18 ?_
  obtain ⟨hq1, hrun⟩ := chk9 hrun
  refine va_copyl (ty := .long) (sp := 0) (dp := 0) (n := ((p1w 0 0) * (p0w 0 2))) hx hb (hml.trans hl.1.symm) hown (hts _ qw704) (hts _ qw194) (hts _ qw195) (hts _ qw196) hK hP hD hS 1 3 0 2 rfl rfl rfl rfl rfl (cpk_1 hq1) (cpk_2 hq1) (cpk_3 hq1) (cpk_4 hq1) (cpk_5 hq1) (fun _ _ => rfl) (Nat.le_of_ble_eq_true rfl) (Nat.le_of_ble_eq_true rfl) dX2_spreadLife_19 (fun H locs hP hD hS => ?_)
  have hP : va_P (dC, dI) cls ((oX2 (p0a 0) p0a p0k p0n p0w (srl p0l 6 (va_cpy (p0l 4) (p0l 6) (nn 0) (nn 0) (nn ((p1w 0 0) * (p0w 0 2)))))) ++ (oX1 (p1a 0) p1a p1k p1n p1w p1l)) H := hP
  have hD : va_D A ((oX2 (p0a 0) p0a p0k p0n p0w (srl p0l 6 (va_cpy (p0l 4) (p0l 6) (nn 0) (nn 0) (nn ((p1w 0 0) * (p0w 0 2)))))) ++ (oX1 (p1a 0) p1a p1k p1n p1w p1l)) := hD
  obtain ⟨l2, el2, hrun⟩ := let9 hrun
  rw [← el2] at hP hD
  refine lv_iconst (v := 1) hx hb dX2_spreadLife_22 (by decide) ?_
  refine lv_istore_n (lv' := [(2, .int 1), (0, .ref (p0a 0)), (1, .ref (p1a 0))]) hx hb dX2_spreadLife_23 rfl hl (by decide) rfl (fun ls hl => ?_)
  refine lv_iconst (v := 0) hx hb dX2_spreadLife_24 (by decide) ?_
  refine lv_istore_n (lv' := [(3, .int 0), (2, .int 1), (0, .ref (p0a 0)), (1, .ref (p1a 0))]) hx hb dX2_spreadLife_25 rfl hl (by decide) rfl (fun ls hl => ?_)
  have L26 : ∀ (n_26 : Nat) (v2_26 : Int32) (v3_26 : Int32) (p0l_26 : SL) (o26 : SL) (H : Heap) (locs : List Loc) (ls : Array Slot), (fX2_spreadLife_L26 p0n p0w p1w n_26) v2_26 v3_26 p0l_26 = some o26 → va_P (dC, dI) cls ((oX2 (p0a 0) p0a p0k p0n p0w p0l_26) ++ (oX1 (p1a 0) p1a p1k p1n p1w p1l)) H → va_D A ((oX2 (p0a 0) p0a p0k p0n p0w p0l_26) ++ (oX1 (p1a 0) p1a p1k p1n p1w p1l)) → va_S A s.heap H locs → lv_has ls 6 [(0, .ref (p0a 0)), (1, .ref (p1a 0)), (2, .int v2_26), (3, .int v3_26)] → (∀ (H : Heap) (locs : List Loc) (ls : Array Slot), va_P (dC, dI) cls ((oX2 (p0a 0) p0a p0k p0n p0w o26) ++ (oX1 (p1a 0) p1a p1k p1n p1w p1l)) H → va_D A ((oX2 (p0a 0) p0a p0k p0n p0w o26) ++ (oX1 (p1a 0) p1a p1k p1n p1w p1l)) → va_S A s.heap H locs → lv_has ls 6 [] → W p l e ({ frames := 1, cells := 0, slots := 0, locals := 40 } : Room) s m ([.ref (p0a 0), .ref (p1a 0)] : List Value).toArray below meth c H locs 0 0 Q (F0 m 109 ls [])) → W p l e ({ frames := 1, cells := 0, slots := 0, locals := 40 } : Room) s m ([.ref (p0a 0), .ref (p1a 0)] : List Value).toArray below meth c H locs 0 0 Q (F0 m 26 ls []) := by
    intro n_26
    induction n_26 with
    | zero => intro v2_26 v3_26 p0l_26 o26 H locs ls hrun; exact (no9 rfl hrun).elim
    | succ n_26 IH26 =>
      intro v2_26 v3_26 p0l_26 o26 H locs ls hrun hP hD hS hl hk26
      unfold fX2_spreadLife_L26 at hrun
      refine lv_iload_n hx hb dX2_spreadLife_26 rfl (lv_at hl 2 rfl) ?_
      rcases br9 hrun with ⟨hc3, hrun⟩ | ⟨hc3, hrun⟩
      · refine lv_if_eq (tgt := 109) hx hb dX2_spreadLife_27 (by decide) (fun _ => ?_) (fun c => absurd hc3 c)
        obtain rfl := (Option.some.inj hrun)
        exact hk26 _ _ _ hP hD hS (lv_sub hl [] rfl)
      · refine lv_if_eq (tgt := 109) hx hb dX2_spreadLife_27 (by decide) (fun c => absurd c hc3) (fun _ => ?_)
        refine lv_iload_n hx hb dX2_spreadLife_30 rfl (lv_at hl 3 rfl) ?_
        refine lv_ldc (v := 1000000) hx hb hown (hts _ qw705) dX2_spreadLife_31 ?_
        rcases br9 hrun with ⟨hc4, hrun⟩ | ⟨hc4, hrun⟩
        · refine lv_icmp_ge (tgt := 109) hx hb dX2_spreadLife_33 (by decide) (fun _ => ?_) (fun c => absurd hc4 c)
          obtain rfl := (Option.some.inj hrun)
          exact hk26 _ _ _ hP hD hS (lv_sub hl [] rfl)
        · refine lv_icmp_ge (tgt := 109) hx hb dX2_spreadLife_33 (by decide) (fun c => absurd c hc4) (fun _ => ?_)
          refine lv_iconst (v := 0) hx hb dX2_spreadLife_36 (by decide) ?_
          refine lv_istore_n (lv' := [(2, .int 0), (0, .ref (p0a 0)), (1, .ref (p1a 0)), (3, .int v3_26)]) hx hb dX2_spreadLife_37 rfl hl (by decide) rfl (fun ls hl => ?_)
          refine lv_aload_n hx hb dX2_spreadLife_38 rfl (lv_at hl 2 rfl) ?_
          refine va_get (D := (dC, dI)) (ci := 4) (v := .int (p1w 0 0)) (C := RX1) (T := TX1) (N := 21) hx hb hts i_X1 hown hK hP 16 rfl rfl 0 (by decide) (hts _ qw645) (fun _ h9 => h9) rfl dX2_spreadLife_39 ?_
          refine lv_iconst (v := 1) hx hb dX2_spreadLife_42 (by decide) ?_
          refine lv_isub hx hb dX2_spreadLife_43 ?_
          refine lv_istore (lv' := [(4, .int ((p1w 0 0) - 1)), (2, .int 0), (0, .ref (p0a 0)), (1, .ref (p1a 0)), (3, .int v3_26)]) hx hb dX2_spreadLife_44 hl (by decide) rfl (fun ls hl => ?_)
          have L46 : ∀ (n_46 : Nat) (v2_46 : Int32) (v4_46 : Int32) (p0l_46 : SL) (o46 : Int32 × SL) (H : Heap) (locs : List Loc) (ls : Array Slot), (fX2_spreadLife_L46 p0n p0w p1w n_46) v2_46 v4_46 p0l_46 = some o46 → va_P (dC, dI) cls ((oX2 (p0a 0) p0a p0k p0n p0w p0l_46) ++ (oX1 (p1a 0) p1a p1k p1n p1w p1l)) H → va_D A ((oX2 (p0a 0) p0a p0k p0n p0w p0l_46) ++ (oX1 (p1a 0) p1a p1k p1n p1w p1l)) → va_S A s.heap H locs → lv_has ls 6 [(0, .ref (p0a 0)), (1, .ref (p1a 0)), (2, .int v2_46), (3, .int v3_26), (4, .int v4_46)] → (∀ (H : Heap) (locs : List Loc) (ls : Array Slot), va_P (dC, dI) cls ((oX2 (p0a 0) p0a p0k p0n p0w (o46.2)) ++ (oX1 (p1a 0) p1a p1k p1n p1w p1l)) H → va_D A ((oX2 (p0a 0) p0a p0k p0n p0w (o46.2)) ++ (oX1 (p1a 0) p1a p1k p1n p1w p1l)) → va_S A s.heap H locs → lv_has ls 6 [(0, .ref (p0a 0)), (1, .ref (p1a 0)), (2, .int (o46.1)), (3, .int v3_26)] → W p l e ({ frames := 1, cells := 0, slots := 0, locals := 40 } : Room) s m ([.ref (p0a 0), .ref (p1a 0)] : List Value).toArray below meth c H locs 0 0 Q (F0 m 103 ls [])) → W p l e ({ frames := 1, cells := 0, slots := 0, locals := 40 } : Room) s m ([.ref (p0a 0), .ref (p1a 0)] : List Value).toArray below meth c H locs 0 0 Q (F0 m 46 ls []) := by
            intro n_46
            induction n_46 with
            | zero => intro v2_46 v4_46 p0l_46 o46 H locs ls hrun; exact (no9 rfl hrun).elim
            | succ n_46 IH46 =>
              intro v2_46 v4_46 p0l_46 o46 H locs ls hrun hP hD hS hl hk46
              unfold fX2_spreadLife_L46 at hrun
              refine lv_iload hx hb dX2_spreadLife_46 (lv_at hl 4 rfl) ?_
              rcases br9 hrun with ⟨hc5, hrun⟩ | ⟨hc5, hrun⟩
              · refine lv_if_lt (tgt := 103) hx hb dX2_spreadLife_48 (by decide) (fun _ => ?_) (fun c => absurd hc5 c)
                obtain rfl := (Option.some.inj hrun)
                exact hk46 _ _ _ hP hD hS (lv_sub hl [0, 1, 2, 3] rfl)
              · refine lv_if_lt (tgt := 103) hx hb dX2_spreadLife_48 (by decide) (fun c => absurd c hc5) (fun _ => ?_)
                refine lv_aload_n hx hb dX2_spreadLife_51 rfl (lv_at hl 0 rfl) ?_
                refine lv_aload_n hx hb dX2_spreadLife_52 rfl (lv_at hl 1 rfl) ?_
                refine va_get (D := (dC, dI)) (ci := 4) (v := .ref (p1a 10)) (C := RX1) (T := TX1) (N := 21) hx hb hts i_X1 hown hK hP 16 rfl rfl 9 (by decide) (hts _ qw693) (fun _ h9 => h9) rfl dX2_spreadLife_53 ?_
                refine lv_iload hx hb dX2_spreadLife_56 (lv_at hl 4 rfl) ?_
                obtain ⟨hq6, hrun⟩ := chk9 hrun
                refine va_iald hx hb hK hP 23 21 rfl rfl (ixb_in hq6) dX2_spreadLife_58 ?_
                refine lv_iload hx hb dX2_spreadLife_59 (lv_at hl 4 rfl) ?_
                obtain ⟨o_7, hc_7, hrun⟩ := bnd9 hrun
                have hPc := hP.sub (ws' := (oX2 (p0a 0) p0a p0k p0n p0w p0l_46)) [0, 1, 2, 3, 4, 5, 6, 7, 8, 9, 10, 11, 12, 13, 14, 15] rfl
                have hDc := hD.sub (ws' := (oX2 (p0a 0) p0a p0k p0n p0w p0l_46)) [0, 1, 2, 3, 4, 5, 6, 7, 8, 9, 10, 11, 12, 13, 14, 15] (by decide) rfl
                have hKc := hK.sub (tys' := (tX2 p0k)) [0, 1, 2, 3, 4, 5, 6, 7, 8, 9, 10, 11, 12, 13, 14] rfl
                have hFc := va_free (wc := (oX2 (p0a 0) p0a p0k p0n p0w p0l_46)) hD hS hA [0, 1, 2, 3, 4, 5, 6, 7, 8, 9, 10, 11, 12, 13, 14, 15] rfl
                refine va_calli (va_runV (As := [.int (p1w 10 (nn v4_46)), .int v4_46]) (rest := []) ⟨hx, hb, hml, hown, hts⟩ (kX2_spreadInto l dC dI (p0a := (st0 (p0a 0) p0a)) (p0k := p0k) (p0n := p0n) (p0w := p0w) (p0l := p0l_46) (p1 := (p1w 10 (nn v4_46))) (p2 := v4_46) (sz := _) (o := o_7) (hrun := hc_7)) (cwV 2 hts (gi_V qw707 qw708 qw709 qw595 (gi_z qw706)) rfl rfl rfl (by decide +kernel) ⟨Nat.le_of_ble_eq_true rfl, Nat.le_of_ble_eq_true rfl⟩) ⟨PRE.blind, va_recv hKc hPc (ci := 9) (q0 := 0) rfl rfl, PRE.of hE hS hFc hPc hKc hDc⟩ rfl rfl hl.1 rfl (lv_room (Nat.le_of_ble_eq_true rfl)) dX2_spreadLife_61 ⟨Nat.le_of_ble_eq_true rfl, Nat.le_of_ble_eq_true rfl⟩) hS (fun q _ h => hFc q h) hFc (fun r8 u t H locs ht hvm hw hB hz1 hk1 hS => ?_)
                obtain ⟨hP, hD, hK⟩ := JOIN (wr := (oX1 (p1a 0) p1a p1k p1n p1w p1l)) hP hD hK [0, 1, 2, 3, 4, 5, 6, 7, 8, 9, 10, 11, 12, 13, 14, 15] [16, 17, 18, 19, 20, 21, 22, 23, 24, 25, 26, 27, 28, 29, 30, 31, 32, 33] [15, 16, 17, 18, 19, 20, 21, 22, 23, 24, 25, 26, 27, 28, 29, 30, 31] rfl rfl (by decide) (by decide) rfl hk1 hFc ht hvm hB
                have hP : va_P (dC, dI) cls ((oX2 (p0a 0) p0a p0k p0n p0w (o_7.2)) ++ (oX1 (p1a 0) p1a p1k p1n p1w p1l)) H := hP.sub [18, 19, 20, 21, 22, 23, 24, 25, 26, 27, 28, 29, 30, 31, 32, 33, 0, 1, 2, 3, 4, 5, 6, 7, 8, 9, 10, 11, 12, 13, 14, 15, 16, 17] rfl
                have hD : va_D A ((oX2 (p0a 0) p0a p0k p0n p0w (o_7.2)) ++ (oX1 (p1a 0) p1a p1k p1n p1w p1l)) := hD.sub [18, 19, 20, 21, 22, 23, 24, 25, 26, 27, 28, 29, 30, 31, 32, 33, 0, 1, 2, 3, 4, 5, 6, 7, 8, 9, 10, 11, 12, 13, 14, 15, 16, 17] (by decide) rfl
                have hK : va_K (dC, dI) cls ((tX2 p0k) ++ (tX1 p1k)) s := hK.sub [17, 18, 19, 20, 21, 22, 23, 24, 25, 26, 27, 28, 29, 30, 31, 0, 1, 2, 3, 4, 5, 6, 7, 8, 9, 10, 11, 12, 13, 14, 15, 16] rfl
                obtain rfl : r8 = (o_7.1) := hw
                refine lv_istore (lv' := [(5, .int (o_7.1)), (0, .ref (p0a 0)), (1, .ref (p1a 0)), (2, .int v2_46), (3, .int v3_26), (4, .int v4_46)]) hx hb dX2_spreadLife_64 hl (by decide) rfl (fun ls hl => ?_)
                refine lv_aload_n hx hb dX2_spreadLife_66 rfl (lv_at hl 1 rfl) ?_
                refine lv_aload_n hx hb dX2_spreadLife_67 rfl (lv_at hl 2 rfl) ?_
                refine va_get (D := (dC, dI)) (ci := 4) (v := .ref (p1a 11)) (C := RX1) (T := TX1) (N := 21) hx hb hts i_X1 hown hK hP 16 rfl rfl 10 (by decide) (hts _ qw698) (fun _ h9 => h9) rfl dX2_spreadLife_68 ?_
                refine lv_iload hx hb dX2_spreadLife_71 (lv_at hl 5 rfl) ?_
                obtain ⟨hq9, hrun⟩ := chk9 hrun
                refine va_iald hx hb hK hP 24 22 rfl rfl (ixb_in hq9) dX2_spreadLife_73 ?_
                refine lv_iload hx hb dX2_spreadLife_74 (lv_at hl 5 rfl) ?_
                obtain ⟨o_10, hc_10, hrun⟩ := bnd9 hrun
                have hPc := hP.sub (ws' := (oX2 (p0a 0) p0a p0k p0n p0w (o_7.2))) [0, 1, 2, 3, 4, 5, 6, 7, 8, 9, 10, 11, 12, 13, 14, 15] rfl
                have hDc := hD.sub (ws' := (oX2 (p0a 0) p0a p0k p0n p0w (o_7.2))) [0, 1, 2, 3, 4, 5, 6, 7, 8, 9, 10, 11, 12, 13, 14, 15] (by decide) rfl
                have hKc := hK.sub (tys' := (tX2 p0k)) [0, 1, 2, 3, 4, 5, 6, 7, 8, 9, 10, 11, 12, 13, 14] rfl
                have hFc := va_free (wc := (oX2 (p0a 0) p0a p0k p0n p0w (o_7.2))) hD hS hA [0, 1, 2, 3, 4, 5, 6, 7, 8, 9, 10, 11, 12, 13, 14, 15] rfl
                refine va_calli (va_runV (As := [.int (p1w 11 (nn v4_46)), .int v4_46]) (rest := []) ⟨hx, hb, hml, hown, hts⟩ (kX2_spreadInto l dC dI (p0a := (st0 (p0a 0) p0a)) (p0k := p0k) (p0n := p0n) (p0w := p0w) (p0l := (o_7.2)) (p1 := (p1w 11 (nn v4_46))) (p2 := v4_46) (sz := _) (o := o_10) (hrun := hc_10)) (cwV 2 hts (gi_V qw707 qw708 qw709 qw595 (gi_z qw706)) rfl rfl rfl (by decide +kernel) ⟨Nat.le_of_ble_eq_true rfl, Nat.le_of_ble_eq_true rfl⟩) ⟨PRE.blind, va_recv hKc hPc (ci := 9) (q0 := 0) rfl rfl, PRE.of hE hS hFc hPc hKc hDc⟩ rfl rfl hl.1 rfl (lv_room (Nat.le_of_ble_eq_true rfl)) dX2_spreadLife_76 ⟨Nat.le_of_ble_eq_true rfl, Nat.le_of_ble_eq_true rfl⟩) hS (fun q _ h => hFc q h) hFc (fun r11 u t H locs ht hvm hw hB hz1 hk1 hS => ?_)
                obtain ⟨hP, hD, hK⟩ := JOIN (wr := (oX1 (p1a 0) p1a p1k p1n p1w p1l)) hP hD hK [0, 1, 2, 3, 4, 5, 6, 7, 8, 9, 10, 11, 12, 13, 14, 15] [16, 17, 18, 19, 20, 21, 22, 23, 24, 25, 26, 27, 28, 29, 30, 31, 32, 33] [15, 16, 17, 18, 19, 20, 21, 22, 23, 24, 25, 26, 27, 28, 29, 30, 31] rfl rfl (by decide) (by decide) rfl hk1 hFc ht hvm hB
                have hP : va_P (dC, dI) cls ((oX2 (p0a 0) p0a p0k p0n p0w (o_10.2)) ++ (oX1 (p1a 0) p1a p1k p1n p1w p1l)) H := hP.sub [18, 19, 20, 21, 22, 23, 24, 25, 26, 27, 28, 29, 30, 31, 32, 33, 0, 1, 2, 3, 4, 5, 6, 7, 8, 9, 10, 11, 12, 13, 14, 15, 16, 17] rfl
                have hD : va_D A ((oX2 (p0a 0) p0a p0k p0n p0w (o_10.2)) ++ (oX1 (p1a 0) p1a p1k p1n p1w p1l)) := hD.sub [18, 19, 20, 21, 22, 23, 24, 25, 26, 27, 28, 29, 30, 31, 32, 33, 0, 1, 2, 3, 4, 5, 6, 7, 8, 9, 10, 11, 12, 13, 14, 15, 16, 17] (by decide) rfl
                have hK : va_K (dC, dI) cls ((tX2 p0k) ++ (tX1 p1k)) s := hK.sub [17, 18, 19, 20, 21, 22, 23, 24, 25, 26, 27, 28, 29, 30, 31, 0, 1, 2, 3, 4, 5, 6, 7, 8, 9, 10, 11, 12, 13, 14, 15, 16] rfl
                obtain rfl : r11 = (o_10.1) := hw
                have J96 : ∀ (y0_96 : Int32) (H : Heap) (locs : List Loc) (ls : Array Slot), (fX2_spreadLife_J96 (fX2_spreadLife_L46 p0n p0w p1w n_46) v4_46 o_10 y0_96) = some o46 → va_P (dC, dI) cls ((oX2 (p0a 0) p0a p0k p0n p0w (o_10.2)) ++ (oX1 (p1a 0) p1a p1k p1n p1w p1l)) H → va_D A ((oX2 (p0a 0) p0a p0k p0n p0w (o_10.2)) ++ (oX1 (p1a 0) p1a p1k p1n p1w p1l)) → va_S A s.heap H locs → lv_has ls 6 [(0, .ref (p0a 0)), (1, .ref (p1a 0)), (3, .int v3_26), (4, .int v4_46)] → W p l e ({ frames := 1, cells := 0, slots := 0, locals := 40 } : Room) s m ([.ref (p0a 0), .ref (p1a 0)] : List Value).toArray below meth c H locs 0 0 Q (F0 m 96 ls [.int y0_96]) := by
                  intro y0_96 H locs ls hrun hP hD hS hl
                  unfold fX2_spreadLife_J96 at hrun
                  refine lv_istore_n (lv' := [(2, .int y0_96), (0, .ref (p0a 0)), (1, .ref (p1a 0)), (3, .int v3_26), (4, .int v4_46)]) hx hb dX2_spreadLife_96 rfl hl (by decide) rfl (fun ls hl => ?_)
                  refine lv_iinc (v := (v4_46 + (-1))) (lv' := [(4, .int (v4_46 + (-1))), (2, .int y0_96), (0, .ref (p0a 0)), (1, .ref (p1a 0)), (3, .int v3_26)]) hx hb dX2_spreadLife_97 hl (k := 4) rfl rfl (by decide) rfl (fun ls hl => ?_)
                  refine lv_goto (tgt := 46) hx hb dX2_spreadLife_100 (by decide) ?_
                  exact IH46 y0_96 (v4_46 + (-1)) (o_10.2) o46 _ _ _ hrun hP hD hS (lv_sub hl [2, 3, 1, 4, 0] rfl) hk46
                have J91 : ∀ (H : Heap) (locs : List Loc) (ls : Array Slot), (fX2_spreadLife_J91 (fX2_spreadLife_L46 p0n p0w p1w n_46) v4_46 o_10) = some o46 → va_P (dC, dI) cls ((oX2 (p0a 0) p0a p0k p0n p0w (o_10.2)) ++ (oX1 (p1a 0) p1a p1k p1n p1w p1l)) H → va_D A ((oX2 (p0a 0) p0a p0k p0n p0w (o_10.2)) ++ (oX1 (p1a 0) p1a p1k p1n p1w p1l)) → va_S A s.heap H locs → lv_has ls 6 [(0, .ref (p0a 0)), (1, .ref (p1a 0)), (3, .int v3_26), (4, .int v4_46)] → W p l e ({ frames := 1, cells := 0, slots := 0, locals := 40 } : Room) s m ([.ref (p0a 0), .ref (p1a 0)] : List Value).toArray below meth c H locs 0 0 Q (F0 m 91 ls []) := by
                  intro  H locs ls hrun hP hD hS hl
                  unfold fX2_spreadLife_J91 at hrun
                  refine lv_iconst (v := 1) hx hb dX2_spreadLife_91 (by decide) ?_
                  refine lv_goto (tgt := 96) hx hb dX2_spreadLife_92 (by decide) ?_
                  exact J96 1 _ _ _ hrun hP hD hS (lv_sub hl [0, 1, 2, 3] rfl)
                rcases br9 hrun with ⟨hc12, hrun⟩ | ⟨hc12, hrun⟩
                · refine lv_if_ne (tgt := 91) hx hb dX2_spreadLife_79 (by decide) (fun c => absurd hc12 c) (fun _ => ?_)
                  refine lv_iload hx hb dX2_spreadLife_82 (lv_at hl 0 rfl) ?_
                  rcases br9 hrun with ⟨hc13, hrun⟩ | ⟨hc13, hrun⟩
                  · refine lv_if_ne (tgt := 91) hx hb dX2_spreadLife_84 (by decide) (fun c => absurd hc13 c) (fun _ => ?_)
                    refine lv_iload_n hx hb dX2_spreadLife_87 rfl (lv_at hl 3 rfl) ?_
                    rcases br9 hrun with ⟨hc14, hrun⟩ | ⟨hc14, hrun⟩
                    · refine lv_if_eq (tgt := 95) hx hb dX2_spreadLife_88 (by decide) (fun _ => ?_) (fun c => absurd hc14 c)
                      refine lv_iconst (v := 0) hx hb dX2_spreadLife_95 (by decide) ?_
                      exact J96 0 _ _ _ hrun hP hD hS (lv_sub hl [1, 2, 4, 5] rfl)
                    · refine lv_if_eq (tgt := 95) hx hb dX2_spreadLife_88 (by decide) (fun c => absurd c hc14) (fun _ => ?_)
                      exact J91 _ _ _ hrun hP hD hS (lv_sub hl [1, 2, 4, 5] rfl)
                  · refine lv_if_ne (tgt := 91) hx hb dX2_spreadLife_84 (by decide) (fun _ => ?_) (fun c => absurd c hc13)
                    exact J91 _ _ _ hrun hP hD hS (lv_sub hl [1, 2, 4, 5] rfl)
                · refine lv_if_ne (tgt := 91) hx hb dX2_spreadLife_79 (by decide) (fun _ => ?_) (fun c => absurd c hc12)
                  exact J91 _ _ _ hrun hP hD hS (lv_sub hl [1, 2, 4, 5] rfl)
          obtain ⟨o46, hc46, hrun⟩ := bnd9 hrun
          refine L46 NF 0 ((p1w 0 0) - 1) p0l_26 o46 _ _ _ hc46 hP hD hS (lv_sub hl [2, 3, 1, 4, 0] rfl) ?_
          intro H locs ls hP hD hS hl
          have hl := hl
          refine lv_iinc (v := (v3_26 + 1)) (lv' := [(3, .int (v3_26 + 1)), (0, .ref (p0a 0)), (1, .ref (p1a 0)), (2, .int (o46.1))]) hx hb dX2_spreadLife_103 hl (k := 3) rfl rfl (by decide) rfl (fun ls hl => ?_)
          refine lv_goto (tgt := 26) hx hb dX2_spreadLife_106 (by decide) ?_
          exact IH26 (o46.1) (v3_26 + 1) (o46.2) o26 _ _ _ hrun hP hD hS (lv_sub hl [1, 2, 3, 0] rfl) hk26
  obtain ⟨o26, hc26, hrun⟩ := bnd9 hrun
  refine L26 NF 1 0 l2 o26 _ _ _ hc26 hP hD hS (lv_sub hl [2, 3, 1, 0] rfl) ?_
  intro H locs ls hP hD hS hl
  have hl := hl
  have ho9 : o26 = o := Option.some.inj hrun
  have hP9 : va_P (dC, dI) cls ((oX2 (p0a 0) p0a p0k p0n p0w o) ++ (oX1 (p1a 0) p1a p1k p1n p1w p1l)) H := by first | exact hP | (rw [← ho9]; exact hP)
  have hD9 : va_D A ((oX2 (p0a 0) p0a p0k p0n p0w o) ++ (oX1 (p1a 0) p1a p1k p1n p1w p1l)) := by first | exact hD | (rw [← ho9]; exact hD)
  subst hQ
  exact W.vret hx hb hr (fun t ht hW => ⟨⟨(), rfl, trivial, ⟨by rw [ht]; exact hP9, va_K.moved hW.alike hK, hD9⟩⟩, hS.F ht⟩) hS.2.2 dX2_spreadLife_109
def fX3_argumentOf (p0w : ST) (p1 : Int32) (p2 : Int32) : Option Int32 := (if ixb ((p1 * 4) + p2) 32 = true then some (p0w 15 (nn ((p1 * 4) + p2))) else none)
set_option maxHeartbeats 16000000 in
set_option maxRecDepth 100000 in
theorem kX3_argumentOf {zs : Nat × Nat} (l : Launch) (dC : Nat → ClassId) (dI : Nat → Nat → Nat) (p0a : Nat → Nat) (p0k : Nat → ClassId) (p0n : Nat → Nat) (p0w : ST) (p1 : Int32) (p2 : Int32) (sz : Nat) (o : Int32) (hrun : fX3_argumentOf p0w p1 p2 = some o) : Met l yX3_argumentOf (wz yX3_argumentOf cX3_argumentOf 3 (Option.some Jvm.ClassFile.FieldType.int)) ({ frames := 0, cells := 0, slots := 0, locals := 0 } : Room) (va_Pc [.ref (p0a 0), .int p1, .int p2] (PRE zs dC dI (oX3 (p0a 0) p0a p0k p0n p0w) (tX3 p0k) sz)) (va_Qi (fun (r : Int32) (_ : Unit) => r = o) (fun _ t => POST dC dI (oX3 (p0a 0) p0a p0k p0n p0w) (tX3 p0k) (va_A (oX3 (p0a 0) p0a p0k p0n p0w) sz) t) (va_A (oX3 (p0a 0) p0a p0k p0n p0w) sz)) 0 0 (va_A (oX3 (p0a 0) p0a p0k p0n p0w) sz) := by
  refine Met.ofW (cc := cX3_argumentOf) (maxL := 3) (ret := (Option.some Jvm.ClassFile.FieldType.int)) (by decide) rfl ?_
  intro p e s m args below meth c s₁ B hml hv
  obtain ⟨rfl, hsz, hP, hK, hD0, hE⟩ := hv
  have hx := B.exec
  have hb := B.bytes
  have hr := B.returns
  have hts0 := atoms_spec (ws := wz yX3_argumentOf cX3_argumentOf 3 (Option.some Jvm.ClassFile.FieldType.int)) B.pre
  have hts : ∀ w ∈ gw, w.before _ s = true := fun w h => hts0 w (List.mem_cons_of_mem _ h)
  have hown : s.vm.findClass RX3 = some m.cls := findClass_of_methodNamed B.named
  have hlocks := B.notSynchronized
  subst hsz
  have hD := hD0.self (sz := s.heap.size)
  refine gQ9 ?_
  intro Q hQ
  generalize hAe : va_A (oX3 (p0a 0) p0a p0k p0n p0w) s.heap.size = A at hD hE hQ
  have hA : ∀ q : Nat, s.heap.size ≤ q → A q := fun q h => by rw [← hAe]; exact Or.inr h
  have hS : va_S A s.heap s.heap [] := va_S.rf
  have hP : va_P (dC, dI) cls (oX3 (p0a 0) p0a p0k p0n p0w) s.heap := hP
  have hl := lv_entry ([.ref (p0a 0), .int p1, .int p2]) (n := 3) (Nat.le_of_ble_eq_true rfl)
  rw [lg_entry_eq]
  generalize (lg_sl ([.ref (p0a 0), .int p1, .int p2]) ++ List.replicate (3 - (lg_sl ([.ref (p0a 0), .int p1, .int p2])).length) Slot.unset).toArray = ls at hl ⊢
  have hl : lv_has ls 3 [(0, .ref (p0a 0)), (1, .int p1), (2, .int p2)] := hl
  obtain ⟨H, hHe⟩ : ∃ H, H = s.heap := ⟨_, rfl⟩
  obtain ⟨locs, hle⟩ : ∃ locs : List Loc, locs = [] := ⟨_, rfl⟩
  rw [← hHe] at hP
  have hS : va_S A s.heap H locs := by rw [hHe, hle]; exact hS
  show W p l e ({ frames := 0, cells := 0, slots := 0, locals := 0 } : Room) s m ([.ref (p0a 0), .int p1, .int p2] : List Value).toArray below meth c s.heap [] 0 0 Q (F0 m 0 ls [])
  rw [← hle]
  refine wH9 hHe ?_
  unfold fX3_argumentOf at hrun
  refine lv_aload_n hx hb dX3_argumentOf_0 rfl (lv_at hl 0 rfl) ?_
  refine va_get (D := (dC, dI)) (ci := 10) (v := .ref (p0a 15)) (C := RX3) (T := TX3) (N := 20) hx hb hts i_X3 hown hK hP 0 rfl rfl 14 (by decide) (hts _ qw710) (fun _ h9 => h9) rfl dX3_argumentOf_1 ?_
  refine lv_iload_n hx hb dX3_argumentOf_4 rfl (lv_at hl 1 rfl) ?_
  refine lv_iconst (v := 4) hx hb dX3_argumentOf_5 (by decide) ?_
  refine lv_imul hx hb dX3_argumentOf_6 ?_
  refine lv_iload_n hx hb dX3_argumentOf_7 rfl (lv_at hl 2 rfl) ?_
  refine lv_iadd hx hb dX3_argumentOf_8 ?_
  obtain ⟨hq1, hrun⟩ := chk9 hrun
  refine va_iald hx hb hK hP 7 6 rfl rfl (ixb_in hq1) dX3_argumentOf_9 ?_
  have ho9 : (p0w 15 (nn ((p1 * 4) + p2))) = o := Option.some.inj hrun
  have hP9 : va_P (dC, dI) cls (oX3 (p0a 0) p0a p0k p0n p0w) H := by first | exact hP | (rw [← ho9]; exact hP)
  have hD9 : va_D A (oX3 (p0a 0) p0a p0k p0n p0w) := by first | exact hD | (rw [← ho9]; exact hD)
  subst hQ
  exact W.iret (v := (p0w 15 (nn ((p1 * 4) + p2)))) hx hb hr (fun t ht hW => ⟨⟨(p0w 15 (nn ((p1 * 4) + p2))), (), rfl, (by rw [← ho9]), ⟨by rw [ht]; exact hP9, va_K.moved hW.alike hK, hD9⟩⟩, hS.F ht⟩) hS.2.2 dX3_argumentOf_10
def fX3_bringBack (p0w : ST) (p1n : Nat) (p1f : RI) : Option ST := (if ixb 0 p1n = true then (lt9 (upw p0w 0 0 (p1f (nn 0))) fun (w2 : ST) => (if ixb 1 p1n = true then (lt9 (upw w2 0 1 (p1f (nn 1))) fun (w4 : ST) => (if ixb 2 p1n = true then (lt9 (upw w4 0 2 (p1f (nn 2))) fun (w6 : ST) => (if cpk 3 0 16 p1n 16 = true then (lt9 (srw w6 4 (va_cpy p1f (w6 4) (nn 3) (nn 0) (nn 16))) fun (w8 : ST) => some w8) else none)) else none)) else none)) else none)
set_option maxHeartbeats 16000000 in
set_option maxRecDepth 100000 in
theorem kX3_bringBack {zs : Nat × Nat} (l : Launch) (dC : Nat → ClassId) (dI : Nat → Nat → Nat) (p0a : Nat → Nat) (p0k : Nat → ClassId) (p0n : Nat → Nat) (p0w : ST) (p1a : Nat) (p1k : ClassId) (p1n : Nat) (p1f : RI) (sz : Nat) (o : ST) (hrun : fX3_bringBack p0w p1n p1f = some o) : Met l yX3_bringBack (wz yX3_bringBack cX3_bringBack 2 (Option.none : Option Jvm.ClassFile.FieldType)) ({ frames := 1, cells := 0, slots := 0, locals := 40 } : Room) (va_Pc [.ref (p0a 0), .ref p1a] (PRE zs dC dI ((oX3 (p0a 0) p0a p0k p0n p0w) ++ [(p1a, .inl (p1k, p1n, .inl p1f))]) ((tX3 p0k) ++ [(p1k, .int)]) sz)) (va_Qv (fun (_ : Unit) => True) (fun _ t => POST dC dI ((oX3 (p0a 0) p0a p0k p0n o) ++ [(p1a, .inl (p1k, p1n, .inl p1f))]) ((tX3 p0k) ++ [(p1k, .int)]) (va_A ((oX3 (p0a 0) p0a p0k p0n p0w) ++ [(p1a, .inl (p1k, p1n, .inl p1f))]) sz) t) (va_A ((oX3 (p0a 0) p0a p0k p0n p0w) ++ [(p1a, .inl (p1k, p1n, .inl p1f))]) sz)) 0 0 (va_A ((oX3 (p0a 0) p0a p0k p0n p0w) ++ [(p1a, .inl (p1k, p1n, .inl p1f))]) sz) := by
  refine Met.ofW (cc := cX3_bringBack) (maxL := 2) (ret := (Option.none : Option Jvm.ClassFile.FieldType)) (by decide) rfl ?_
  intro p e s m args below meth c s₁ B hml hv
  obtain ⟨rfl, hsz, hP, hK, hD0, hE⟩ := hv
  have hx := B.exec
  have hb := B.bytes
  have hr := B.returns
  have hts0 := atoms_spec (ws := wz yX3_bringBack cX3_bringBack 2 (Option.none : Option Jvm.ClassFile.FieldType)) B.pre
  have hts : ∀ w ∈ gw, w.before _ s = true := fun w h => hts0 w (List.mem_cons_of_mem _ h)
  have hown : s.vm.findClass RX3 = some m.cls := findClass_of_methodNamed B.named
  have hlocks := B.notSynchronized
  subst hsz
  have hD := hD0.self (sz := s.heap.size)
  refine gQ9 ?_
  intro Q hQ
  generalize hAe : va_A ((oX3 (p0a 0) p0a p0k p0n p0w) ++ [(p1a, .inl (p1k, p1n, .inl p1f))]) s.heap.size = A at hD hE hQ
  have hA : ∀ q : Nat, s.heap.size ≤ q → A q := fun q h => by rw [← hAe]; exact Or.inr h
  have hS : va_S A s.heap s.heap [] := va_S.rf
  have hP : va_P (dC, dI) cls ((oX3 (p0a 0) p0a p0k p0n p0w) ++ [(p1a, .inl (p1k, p1n, .inl p1f))]) s.heap := hP
  have hl := lv_entry ([.ref (p0a 0), .ref p1a]) (n := 2) (Nat.le_of_ble_eq_true rfl)
  rw [lg_entry_eq]
  generalize (lg_sl ([.ref (p0a 0), .ref p1a]) ++ List.replicate (2 - (lg_sl ([.ref (p0a 0), .ref p1a])).length) Slot.unset).toArray = ls at hl ⊢
  have hl : lv_has ls 2 [(0, .ref (p0a 0)), (1, .ref p1a)] := hl
  obtain ⟨H, hHe⟩ : ∃ H, H = s.heap := ⟨_, rfl⟩
  obtain ⟨locs, hle⟩ : ∃ locs : List Loc, locs = [] := ⟨_, rfl⟩
  rw [← hHe] at hP
  have hS : va_S A s.heap H locs := by rw [hHe, hle]; exact hS
  show W p l e ({ frames := 1, cells := 0, slots := 0, locals := 40 } : Room) s m ([.ref (p0a 0), .ref p1a] : List Value).toArray below meth c s.heap [] 0 0 Q (F0 m 0 ls [])
  rw [← hle]
  refine wH9 hHe ?_
  unfold fX3_bringBack at hrun
  refine lv_aload_n hx hb dX3_bringBack_0 rfl (lv_at hl 0 rfl) ?_
  refine lv_aload_n hx hb dX3_bringBack_1 rfl (lv_at hl 1 rfl) ?_
  refine lv_iconst (v := 0) hx hb dX3_bringBack_2 (by decide) ?_
  obtain ⟨hq1, hrun⟩ := chk9 hrun
  refine va_iald hx hb hK hP 11 10 rfl rfl (ixb_in hq1) dX3_bringBack_3 ?_
  refine va_put (D := (dC, dI)) (ci := 10) (v := .int (p1f (nn 0))) (ty := .int) (C := RX3) (T := TX3) (N := 20) hx hb hts i_X3 tyX3 tyX3_ok nmX3 hown hK hP hD hS 0 rfl rfl 0 (by decide) (hts _ qw711) (fun _ h9 => h9) rfl (by decide +kernel) rfl rfl (Nat.le_of_ble_eq_true rfl) dX3_bringBack_4 (fun H locs hP hD hS => ?_)
  have hP : va_P (dC, dI) cls ((oX3 (p0a 0) p0a p0k p0n (upw p0w 0 0 (p1f (nn 0)))) ++ [(p1a, .inl (p1k, p1n, .inl p1f))]) H := hP
  have hD : va_D A ((oX3 (p0a 0) p0a p0k p0n (upw p0w 0 0 (p1f (nn 0)))) ++ [(p1a, .inl (p1k, p1n, .inl p1f))]) := hD
  obtain ⟨w2, ew2, hrun⟩ := let9 hrun
  rw [← ew2] at hP hD
  refine lv_aload_n hx hb dX3_bringBack_7 rfl (lv_at hl 0 rfl) ?_
  refine lv_aload_n hx hb dX3_bringBack_8 rfl (lv_at hl 1 rfl) ?_
  refine lv_iconst (v := 1) hx hb dX3_bringBack_9 (by decide) ?_
  obtain ⟨hq3, hrun⟩ := chk9 hrun
  refine va_iald hx hb hK hP 11 10 rfl rfl (ixb_in hq3) dX3_bringBack_10 ?_
  refine va_put (D := (dC, dI)) (ci := 10) (v := .int (p1f (nn 1))) (ty := .int) (C := RX3) (T := TX3) (N := 20) hx hb hts i_X3 tyX3 tyX3_ok nmX3 hown hK hP hD hS 0 rfl rfl 1 (by decide) (hts _ qw712) (fun _ h9 => h9) rfl (by decide +kernel) rfl rfl (Nat.le_of_ble_eq_true rfl) dX3_bringBack_11 (fun H locs hP hD hS => ?_)
  have hP : va_P (dC, dI) cls ((oX3 (p0a 0) p0a p0k p0n (upw w2 0 1 (p1f (nn 1)))) ++ [(p1a, .inl (p1k, p1n, .inl p1f))]) H := hP
  have hD : va_D A ((oX3 (p0a 0) p0a p0k p0n (upw w2 0 1 (p1f (nn 1)))) ++ [(p1a, .inl (p1k, p1n, .inl p1f))]) := hD
  obtain ⟨w4, ew4, hrun⟩ := let9 hrun
  rw [← ew4] at hP hD
  refine lv_aload_n hx hb dX3_bringBack_14 rfl (lv_at hl 0 rfl) ?_
  refine lv_aload_n hx hb dX3_bringBack_15 rfl (lv_at hl 1 rfl) ?_
  refine lv_iconst (v := 2) hx hb dX3_bringBack_16 (by decide) ?_
  obtain ⟨hq5, hrun⟩ := chk9 hrun
  refine va_iald hx hb hK hP 11 10 rfl rfl (ixb_in hq5) dX3_bringBack_17 ?_
  refine va_put (D := (dC, dI)) (ci := 10) (v := .int (p1f (nn 2))) (ty := .int) (C := RX3) (T := TX3) (N := 20) hx hb hts i_X3 tyX3 tyX3_ok nmX3 hown hK hP hD hS 0 rfl rfl 2 (by decide) (hts _ qw713) (fun _ h9 => h9) rfl (by decide +kernel) rfl rfl (Nat.le_of_ble_eq_true rfl) dX3_bringBack_18 (fun H locs hP hD hS => ?_)
  have hP : va_P (dC, dI) cls ((oX3 (p0a 0) p0a p0k p0n (upw w4 0 2 (p1f (nn 2)))) ++ [(p1a, .inl (p1k, p1n, .inl p1f))]) H := hP
  have hD : va_D A ((oX3 (p0a 0) p0a p0k p0n (upw w4 0 2 (p1f (nn 2)))) ++ [(p1a, .inl (p1k, p1n, .inl p1f))]) := hD
  obtain ⟨w6, ew6, hrun⟩ := let9 hrun
  rw [← ew6] at hP hD
  refine lv_aload_n hx hb dX3_bringBack_21 rfl (lv_at hl 1 rfl) ?_
  refine lv_iconst (v := 3) hx hb dX3_bringBack_22 (by decide) ?_
  refine lv_aload_n hx hb dX3_bringBack_23 rfl (lv_at hl 0 rfl) ?_
  refine va_get (D := (dC, dI)) (ci := 10) (v := .ref (p0a 4)) (C := RX3) (T := TX3) (N := 20) hx hb hts i_X3 hown hK hP 0 rfl rfl 3 (by decide) (hts _ qw714) (fun _ h9 => h9) rfl dX3_bringBack_24 ?_
  refine lv_iconst (v := 0) hx hb dX3_bringBack_27 (by decide) ?_
  refine lv_bipush (v := 16) hx hb dX3_bringBack_28 (by decide) ?_
  obtain ⟨hq7, hrun⟩ := chk9 hrun
  refine va_copyi (ty := .int) (sp := 3) (dp := 0) (n := 16) hx hb (hml.trans hl.1.symm) hown (hts _ qw715) (hts _ qw194) (hts _ qw195) (hts _ qw196) hK hP hD hS 11 1 10 0 rfl rfl rfl rfl rfl (cpk_1 hq7) (cpk_2 hq7) (cpk_3 hq7) (cpk_4 hq7) (cpk_5 hq7) (fun _ _ => rfl) (Nat.le_of_ble_eq_true rfl) (Nat.le_of_ble_eq_true rfl) dX3_bringBack_30 (fun H locs hP hD hS => ?_)
  have hP : va_P (dC, dI) cls ((oX3 (p0a 0) p0a p0k p0n (srw w6 4 (va_cpy p1f (w6 4) (nn 3) (nn 0) (nn 16)))) ++ [(p1a, .inl (p1k, p1n, .inl p1f))]) H := hP
  have hD : va_D A ((oX3 (p0a 0) p0a p0k p0n (srw w6 4 (va_cpy p1f (w6 4) (nn 3) (nn 0) (nn 16)))) ++ [(p1a, .inl (p1k, p1n, .inl p1f))]) := hD
  obtain ⟨w8, ew8, hrun⟩ := let9 hrun
  rw [← ew8] at hP hD
  have ho9 : w8 = o := Option.some.inj hrun
  have hP9 : va_P (dC, dI) cls ((oX3 (p0a 0) p0a p0k p0n o) ++ [(p1a, .inl (p1k, p1n, .inl p1f))]) H := by first | exact hP | (rw [← ho9]; exact hP)
  have hD9 : va_D A ((oX3 (p0a 0) p0a p0k p0n o) ++ [(p1a, .inl (p1k, p1n, .inl p1f))]) := by first | exact hD | (rw [← ho9]; exact hD)
  subst hQ
  exact W.vret hx hb hr (fun t ht hW => ⟨⟨(), rfl, trivial, ⟨by rw [ht]; exact hP9, va_K.moved hW.alike hK, hD9⟩⟩, hS.F ht⟩) hS.2.2 dX3_bringBack_33
def fX3_stop (p0w : ST) (p1 : Int32) : Option ST := (lt9 (upw p0w 0 0 p1) fun (w1 : ST) => (lt9 (upw w1 0 8 0) fun (w2 : ST) => some w2))
set_option maxHeartbeats 16000000 in
set_option maxRecDepth 100000 in
theorem kX3_stop {zs : Nat × Nat} (l : Launch) (dC : Nat → ClassId) (dI : Nat → Nat → Nat) (p0a : Nat → Nat) (p0k : Nat → ClassId) (p0n : Nat → Nat) (p0w : ST) (p1 : Int32) (sz : Nat) (o : ST) (hrun : fX3_stop p0w p1 = some o) : Met l yX3_stop (wz yX3_stop cX3_stop 2 (Option.none : Option Jvm.ClassFile.FieldType)) ({ frames := 0, cells := 0, slots := 0, locals := 0 } : Room) (va_Pc [.ref (p0a 0), .int p1] (PRE zs dC dI (oX3 (p0a 0) p0a p0k p0n p0w) (tX3 p0k) sz)) (va_Qv (fun (_ : Unit) => True) (fun _ t => POST dC dI (oX3 (p0a 0) p0a p0k p0n o) (tX3 p0k) (va_A (oX3 (p0a 0) p0a p0k p0n p0w) sz) t) (va_A (oX3 (p0a 0) p0a p0k p0n p0w) sz)) 0 0 (va_A (oX3 (p0a 0) p0a p0k p0n p0w) sz) := by
  refine Met.ofW (cc := cX3_stop) (maxL := 2) (ret := (Option.none : Option Jvm.ClassFile.FieldType)) (by decide) rfl ?_
  intro p e s m args below meth c s₁ B hml hv
  obtain ⟨rfl, hsz, hP, hK, hD0, hE⟩ := hv
  have hx := B.exec
  have hb := B.bytes
  have hr := B.returns
  have hts0 := atoms_spec (ws := wz yX3_stop cX3_stop 2 (Option.none : Option Jvm.ClassFile.FieldType)) B.pre
  have hts : ∀ w ∈ gw, w.before _ s = true := fun w h => hts0 w (List.mem_cons_of_mem _ h)
  have hown : s.vm.findClass RX3 = some m.cls := findClass_of_methodNamed B.named
  have hlocks := B.notSynchronized
  subst hsz
  have hD := hD0.self (sz := s.heap.size)
  refine gQ9 ?_
  intro Q hQ
  generalize hAe : va_A (oX3 (p0a 0) p0a p0k p0n p0w) s.heap.size = A at hD hE hQ
  have hA : ∀ q : Nat, s.heap.size ≤ q → A q := fun q h => by rw [← hAe]; exact Or.inr h
  have hS : va_S A s.heap s.heap [] := va_S.rf
  have hP : va_P (dC, dI) cls (oX3 (p0a 0) p0a p0k p0n p0w) s.heap := hP
  have hl := lv_entry ([.ref (p0a 0), .int p1]) (n := 2) (Nat.le_of_ble_eq_true rfl)
  rw [lg_entry_eq]
  generalize (lg_sl ([.ref (p0a 0), .int p1]) ++ List.replicate (2 - (lg_sl ([.ref (p0a 0), .int p1])).length) Slot.unset).toArray = ls at hl ⊢
  have hl : lv_has ls 2 [(0, .ref (p0a 0)), (1, .int p1)] := hl
  obtain ⟨H, hHe⟩ : ∃ H, H = s.heap := ⟨_, rfl⟩
  obtain ⟨locs, hle⟩ : ∃ locs : List Loc, locs = [] := ⟨_, rfl⟩
  rw [← hHe] at hP
  have hS : va_S A s.heap H locs := by rw [hHe, hle]; exact hS
  show W p l e ({ frames := 0, cells := 0, slots := 0, locals := 0 } : Room) s m ([.ref (p0a 0), .int p1] : List Value).toArray below meth c s.heap [] 0 0 Q (F0 m 0 ls [])
  rw [← hle]
  refine wH9 hHe ?_
  unfold fX3_stop at hrun
  refine lv_aload_n hx hb dX3_stop_0 rfl (lv_at hl 0 rfl) ?_
  refine lv_iload_n hx hb dX3_stop_1 rfl (lv_at hl 1 rfl) ?_
  refine va_put (D := (dC, dI)) (ci := 10) (v := .int p1) (ty := .int) (C := RX3) (T := TX3) (N := 20) hx hb hts i_X3 tyX3 tyX3_ok nmX3 hown hK hP hD hS 0 rfl rfl 0 (by decide) (hts _ qw711) (fun _ h9 => h9) rfl (by decide +kernel) rfl rfl (Nat.le_of_ble_eq_true rfl) dX3_stop_2 (fun H locs hP hD hS => ?_)
  have hP : va_P (dC, dI) cls (oX3 (p0a 0) p0a p0k p0n (upw p0w 0 0 p1)) H := hP
  have hD : va_D A (oX3 (p0a 0) p0a p0k p0n (upw p0w 0 0 p1)) := hD
  obtain ⟨w1, ew1, hrun⟩ := let9 hrun
  rw [← ew1] at hP hD
  refine lv_aload_n hx hb dX3_stop_5 rfl (lv_at hl 0 rfl) ?_
  refine lv_iconst (v := 0) hx hb dX3_stop_6 (by decide) ?_
  refine va_put (D := (dC, dI)) (ci := 10) (v := .int 0) (ty := .boolean) (C := RX3) (T := TX3) (N := 20) hx hb hts i_X3 tyX3 tyX3_ok nmX3 hown hK hP hD hS 0 rfl rfl 8 (by decide) (hts _ qw717) (fun _ h9 => h9) rfl (by decide +kernel) rfl rfl (Nat.le_of_ble_eq_true rfl) dX3_stop_7 (fun H locs hP hD hS => ?_)
  have hP : va_P (dC, dI) cls (oX3 (p0a 0) p0a p0k p0n (upw w1 0 8 0)) H := hP
  have hD : va_D A (oX3 (p0a 0) p0a p0k p0n (upw w1 0 8 0)) := hD
  obtain ⟨w2, ew2, hrun⟩ := let9 hrun
  rw [← ew2] at hP hD
  have ho9 : w2 = o := Option.some.inj hrun
  have hP9 : va_P (dC, dI) cls (oX3 (p0a 0) p0a p0k p0n o) H := by first | exact hP | (rw [← ho9]; exact hP)
  have hD9 : va_D A (oX3 (p0a 0) p0a p0k p0n o) := by first | exact hD | (rw [← ho9]; exact hD)
  subst hQ
  exact W.vret hx hb hr (fun t ht hW => ⟨⟨(), rfl, trivial, ⟨by rw [ht]; exact hP9, va_K.moved hW.alike hK, hD9⟩⟩, hS.F ht⟩) hS.2.2 dX3_stop_10
def fX3_close_J39 (p0w_27 : ST) (y0_39 : Int32) : Option (Int32 × ST) := (if y0_39 = 0 ∨ y0_39 = 1 then some (y0_39, p0w_27) else none)
def fX3_close_J27 (p0w_27 : ST) : Option (Int32 × ST) := (if (p0w_27 0 9) ≤ 0 then (fX3_close_J39 p0w_27 0) else (fX3_close_J39 p0w_27 1))
def fX3_close (p0w : ST) (p1 : Int32) : Option (Int32 × ST) := (lt9 (upw p0w 0 9 ((p0w 0 9) - 1)) fun (w1 : ST) => (if (w1 0 9) = 0 then ((fX3_stop w1 0).bind fun (o_4 : ST) => (lt9 (upw o_4 0 1 p1) fun (w5 : ST) => (fX3_close_J27 w5))) else (fX3_close_J27 w1)))
set_option maxHeartbeats 16000000 in
set_option maxRecDepth 100000 in
theorem kX3_close {zs : Nat × Nat} (l : Launch) (dC : Nat → ClassId) (dI : Nat → Nat → Nat) (p0a : Nat → Nat) (p0k : Nat → ClassId) (p0n : Nat → Nat) (p0w : ST) (p1 : Int32) (sz : Nat) (o : Int32 × ST) (hrun : fX3_close p0w p1 = some o) : Met l yX3_close (wz yX3_close cX3_close 2 (Option.some Jvm.ClassFile.FieldType.boolean)) ({ frames := 1, cells := 0, slots := 0, locals := 21 } : Room) (va_Pc [.ref (p0a 0), .int p1] (PRE zs dC dI (oX3 (p0a 0) p0a p0k p0n p0w) (tX3 p0k) sz)) (va_Qi (fun (r : Int32) (_ : Unit) => r = (o.1)) (fun _ t => POST dC dI (oX3 (p0a 0) p0a p0k p0n (o.2)) (tX3 p0k) (va_A (oX3 (p0a 0) p0a p0k p0n p0w) sz) t) (va_A (oX3 (p0a 0) p0a p0k p0n p0w) sz)) 0 0 (va_A (oX3 (p0a 0) p0a p0k p0n p0w) sz) := by
  refine Met.ofW (cc := cX3_close) (maxL := 2) (ret := (Option.some Jvm.ClassFile.FieldType.boolean)) (by decide) rfl ?_
  intro p e s m args below meth c s₁ B hml hv
  obtain ⟨rfl, hsz, hP, hK, hD0, hE⟩ := hv
  have hx := B.exec
  have hb := B.bytes
  have hr := B.returns
  have hts0 := atoms_spec (ws := wz yX3_close cX3_close 2 (Option.some Jvm.ClassFile.FieldType.boolean)) B.pre
  have hts : ∀ w ∈ gw, w.before _ s = true := fun w h => hts0 w (List.mem_cons_of_mem _ h)
  have hown : s.vm.findClass RX3 = some m.cls := findClass_of_methodNamed B.named
  have hlocks := B.notSynchronized
  subst hsz
  have hD := hD0.self (sz := s.heap.size)
  refine gQ9 ?_
  intro Q hQ
  generalize hAe : va_A (oX3 (p0a 0) p0a p0k p0n p0w) s.heap.size = A at hD hE hQ
  have hA : ∀ q : Nat, s.heap.size ≤ q → A q := fun q h => by rw [← hAe]; exact Or.inr h
  have hS : va_S A s.heap s.heap [] := va_S.rf
  have hP : va_P (dC, dI) cls (oX3 (p0a 0) p0a p0k p0n p0w) s.heap := hP
  have hl := lv_entry ([.ref (p0a 0), .int p1]) (n := 2) (Nat.le_of_ble_eq_true rfl)
  rw [lg_entry_eq]
  generalize (lg_sl ([.ref (p0a 0), .int p1]) ++ List.replicate (2 - (lg_sl ([.ref (p0a 0), .int p1])).length) Slot.unset).toArray = ls at hl ⊢
  have hl : lv_has ls 2 [(0, .ref (p0a 0)), (1, .int p1)] := hl
  obtain ⟨H, hHe⟩ : ∃ H, H = s.heap := ⟨_, rfl⟩
  obtain ⟨locs, hle⟩ : ∃ locs : List Loc, locs = [] := ⟨_, rfl⟩
  rw [← hHe] at hP
  have hS : va_S A s.heap H locs := by rw [hHe, hle]; exact hS
  show W p l e ({ frames := 1, cells := 0, slots := 0, locals := 21 } : Room) s m ([.ref (p0a 0), .int p1] : List Value).toArray below meth c s.heap [] 0 0 Q (F0 m 0 ls [])
  rw [← hle]
  refine wH9 hHe ?_
  unfold fX3_close at hrun
  refine lv_aload_n hx hb dX3_close_0 rfl (lv_at hl 0 rfl) ?_
  refine lv_dup hx hb dX3_close_1 rfl ?_
  refine va_get (D := (dC, dI)) (ci := 10) (v := .int (p0w 0 9)) (C := RX3) (T := TX3) (N := 20) hx hb hts i_X3 hown hK hP 0 rfl rfl 9 (by decide) (hts _ qw716) (fun _ h9 => h9) rfl dX3_close_2 ?_
  refine lv_iconst (v := 1) hx hb dX3_close_5 (by decide) ?_
  refine lv_isub hx hb dX3_close_6 ?_
  refine va_put (D := (dC, dI)) (ci := 10) (v := .int ((p0w 0 9) - 1)) (ty := .int) (C := RX3) (T := TX3) (N := 20) hx hb hts i_X3 tyX3 tyX3_ok nmX3 hown hK hP hD hS 0 rfl rfl 9 (by decide) (hts _ qw716) (fun _ h9 => h9) rfl (by decide +kernel) rfl rfl (Nat.le_of_ble_eq_true rfl) dX3_close_7 (fun H locs hP hD hS => ?_)
  have hP : va_P (dC, dI) cls (oX3 (p0a 0) p0a p0k p0n (upw p0w 0 9 ((p0w 0 9) - 1))) H := hP
  have hD : va_D A (oX3 (p0a 0) p0a p0k p0n (upw p0w 0 9 ((p0w 0 9) - 1))) := hD
  obtain ⟨w1, ew1, hrun⟩ := let9 hrun
  rw [← ew1] at hP hD
  refine lv_aload_n hx hb dX3_close_10 rfl (lv_at hl 0 rfl) ?_
  refine va_get (D := (dC, dI)) (ci := 10) (v := .int (w1 0 9)) (C := RX3) (T := TX3) (N := 20) hx hb hts i_X3 hown hK hP 0 rfl rfl 9 (by decide) (hts _ qw716) (fun _ h9 => h9) rfl dX3_close_11 ?_
  have J27 : ∀ (p0w_27 : ST) (H : Heap) (locs : List Loc) (ls : Array Slot), (fX3_close_J27 p0w_27) = some o → va_P (dC, dI) cls (oX3 (p0a 0) p0a p0k p0n p0w_27) H → va_D A (oX3 (p0a 0) p0a p0k p0n p0w_27) → va_S A s.heap H locs → lv_has ls 2 [(0, .ref (p0a 0))] → W p l e ({ frames := 1, cells := 0, slots := 0, locals := 21 } : Room) s m ([.ref (p0a 0), .int p1] : List Value).toArray below meth c H locs 0 0 Q (F0 m 27 ls []) := by
    intro p0w_27 H locs ls hrun hP hD hS hl
    unfold fX3_close_J27 at hrun
    refine lv_aload_n hx hb dX3_close_27 rfl (lv_at hl 0 rfl) ?_
    refine va_get (D := (dC, dI)) (ci := 10) (v := .int (p0w_27 0 9)) (C := RX3) (T := TX3) (N := 20) hx hb hts i_X3 hown hK hP 0 rfl rfl 9 (by decide) (hts _ qw716) (fun _ h9 => h9) rfl dX3_close_28 ?_
    have J39 : ∀ (y0_39 : Int32) (H : Heap) (locs : List Loc) (ls : Array Slot), (fX3_close_J39 p0w_27 y0_39) = some o → va_P (dC, dI) cls (oX3 (p0a 0) p0a p0k p0n p0w_27) H → va_D A (oX3 (p0a 0) p0a p0k p0n p0w_27) → va_S A s.heap H locs → lv_has ls 2 [] → W p l e ({ frames := 1, cells := 0, slots := 0, locals := 21 } : Room) s m ([.ref (p0a 0), .int p1] : List Value).toArray below meth c H locs 0 0 Q (F0 m 39 ls [.int y0_39]) := by
      intro y0_39 H locs ls hrun hP hD hS hl
      unfold fX3_close_J39 at hrun
      obtain ⟨hz9, hrun⟩ := chk9 hrun
      have ho9 : (y0_39, p0w_27) = o := Option.some.inj hrun
      have hP9 : va_P (dC, dI) cls (oX3 (p0a 0) p0a p0k p0n (o.2)) H := by first | exact hP | (rw [← ho9]; exact hP)
      have hD9 : va_D A (oX3 (p0a 0) p0a p0k p0n (o.2)) := by first | exact hD | (rw [← ho9]; exact hD)
      subst hQ
      exact W.zret (v := y0_39) hx hb hr (bz9 hz9) (fun t ht hW => ⟨⟨y0_39, (), rfl, (by rw [← ho9]), ⟨by rw [ht]; exact hP9, va_K.moved hW.alike hK, hD9⟩⟩, hS.F ht⟩) hS.2.2 dX3_close_39
    rcases br9 hrun with ⟨hc2, hrun⟩ | ⟨hc2, hrun⟩
    · refine lv_if_le (tgt := 38) hx hb dX3_close_31 (by decide) (fun _ => ?_) (fun c => absurd hc2 c)
      refine lv_iconst (v := 0) hx hb dX3_close_38 (by decide) ?_
      exact J39 0 _ _ _ hrun hP hD hS (lv_sub hl [] rfl)
    · refine lv_if_le (tgt := 38) hx hb dX3_close_31 (by decide) (fun c => absurd c hc2) (fun _ => ?_)
      refine lv_iconst (v := 1) hx hb dX3_close_34 (by decide) ?_
      refine lv_goto (tgt := 39) hx hb dX3_close_35 (by decide) ?_
      exact J39 1 _ _ _ hrun hP hD hS (lv_sub hl [] rfl)
  rcases br9 hrun with ⟨hc3, hrun⟩ | ⟨hc3, hrun⟩
  · refine lv_if_ne (tgt := 27) hx hb dX3_close_14 (by decide) (fun c => absurd hc3 c) (fun _ => ?_)
    refine lv_aload_n hx hb dX3_close_17 rfl (lv_at hl 0 rfl) ?_
    refine lv_iconst (v := 0) hx hb dX3_close_18 (by decide) ?_
    obtain ⟨o_4, hc_4, hrun⟩ := bnd9 hrun
    have hPc := hP.sub (ws' := (oX3 (p0a 0) p0a p0k p0n w1)) [0, 1, 2, 3, 4, 5, 6, 7, 8, 9, 10] rfl
    have hDc := hD.sub (ws' := (oX3 (p0a 0) p0a p0k p0n w1)) [0, 1, 2, 3, 4, 5, 6, 7, 8, 9, 10] (by decide) rfl
    have hKc := hK.sub (tys' := (tX3 p0k)) [0, 1, 2, 3, 4, 5, 6, 7, 8, 9] rfl
    have hFc := va_free (wc := (oX3 (p0a 0) p0a p0k p0n w1)) hD hS hA [0, 1, 2, 3, 4, 5, 6, 7, 8, 9, 10] rfl
    refine va_callv (va_runV (As := [.int 0]) (rest := []) ⟨hx, hb, hml, hown, hts⟩ (kX3_stop l dC dI (p0a := (st0 (p0a 0) p0a)) (p0k := p0k) (p0n := p0n) (p0w := w1) (p1 := 0) (sz := _) (o := o_4) (hrun := hc_4)) (cwV 1 hts (gi_V qw719 qw720 qw721 qw722 (gi_z qw718)) rfl rfl rfl (by decide +kernel) ⟨Nat.le_of_ble_eq_true rfl, Nat.le_of_ble_eq_true rfl⟩) ⟨PRE.blind, va_recv hKc hPc (ci := 10) (q0 := 0) rfl rfl, PRE.of hE hS hFc hPc hKc hDc⟩ rfl rfl hl.1 rfl (lv_room (Nat.le_of_ble_eq_true rfl)) dX3_close_19 ⟨Nat.le_of_ble_eq_true rfl, Nat.le_of_ble_eq_true rfl⟩) hS (fun q _ h => hFc q h) hFc (fun u t H locs ht hvm hw hB hz1 hk1 hS => ?_)
    obtain ⟨hP, hD, hK⟩ := JOIN (wr := ([] : va_W)) hP hD hK [0, 1, 2, 3, 4, 5, 6, 7, 8, 9, 10] [] [] rfl rfl (by decide) (by decide) rfl hk1 hFc ht hvm hB
    have hP : va_P (dC, dI) cls (oX3 (p0a 0) p0a p0k p0n o_4) H := hP.sub [0, 1, 2, 3, 4, 5, 6, 7, 8, 9, 10] rfl
    have hD : va_D A (oX3 (p0a 0) p0a p0k p0n o_4) := hD.sub [0, 1, 2, 3, 4, 5, 6, 7, 8, 9, 10] (by decide) rfl
    have hK : va_K (dC, dI) cls (tX3 p0k) s := hK.sub [0, 1, 2, 3, 4, 5, 6, 7, 8, 9] rfl
    refine lv_aload_n hx hb dX3_close_22 rfl (lv_at hl 0 rfl) ?_
    refine lv_iload_n hx hb dX3_close_23 rfl (lv_at hl 1 rfl) ?_
    refine va_put (D := (dC, dI)) (ci := 10) (v := .int p1) (ty := .int) (C := RX3) (T := TX3) (N := 20) hx hb hts i_X3 tyX3 tyX3_ok nmX3 hown hK hP hD hS 0 rfl rfl 1 (by decide) (hts _ qw712) (fun _ h9 => h9) rfl (by decide +kernel) rfl rfl (Nat.le_of_ble_eq_true rfl) dX3_close_24 (fun H locs hP hD hS => ?_)
    have hP : va_P (dC, dI) cls (oX3 (p0a 0) p0a p0k p0n (upw o_4 0 1 p1)) H := hP
    have hD : va_D A (oX3 (p0a 0) p0a p0k p0n (upw o_4 0 1 p1)) := hD
    obtain ⟨w5, ew5, hrun⟩ := let9 hrun
    rw [← ew5] at hP hD
    exact J27 w5 _ _ _ hrun hP hD hS (lv_sub hl [0] rfl)
  · refine lv_if_ne (tgt := 27) hx hb dX3_close_14 (by decide) (fun _ => ?_) (fun c => absurd c hc3)
    exact J27 w1 _ _ _ hrun hP hD hS (lv_sub hl [0] rfl)
def fX3_endAlike_J24 (kk2 : Int32 → Option (Sum Int32 Unit)) (v2_2 : Int32) : Option (Sum Int32 Unit) := (kk2 (v2_2 + 1))
def fX3_endAlike_L2 (p0n : Nat) (p0f : RI) (p1n : Nat) (p1f : RI) : Nat → Int32 → Option (Sum Int32 Unit)
  | 0 => fun _ => none
  | n_2 + 1 => fun v2_2 => (if 19 ≤ v2_2 then some (Sum.inr ()) else (if v2_2 = 2 then (fX3_endAlike_J24 (fX3_endAlike_L2 p0n p0f p1n p1f n_2) v2_2) else (if ixb v2_2 p0n = true then (if ixb v2_2 p1n = true then (if (p0f (nn v2_2)) = (p1f (nn v2_2)) then (fX3_endAlike_J24 (fX3_endAlike_L2 p0n p0f p1n p1f n_2) v2_2) else some (Sum.inl 0)) else none) else none)))
def fX3_endAlike (p0n : Nat) (p0f : RI) (p1n : Nat) (p1f : RI) : Option Int32 := ((fX3_endAlike_L2 p0n p0f p1n p1f NF 0).bind fun (o2 : (Sum Int32 Unit)) => Sum.elim (fun r => some r) (fun (t2 : Unit) => some 1) o2)
set_option maxHeartbeats 16000000 in
set_option maxRecDepth 100000 in
theorem kX3_endAlike {zs : Nat × Nat} (l : Launch) (dC : Nat → ClassId) (dI : Nat → Nat → Nat) (p0a : Nat) (p0k : ClassId) (p0n : Nat) (p0f : RI) (p1a : Nat) (p1k : ClassId) (p1n : Nat) (p1f : RI) (sz : Nat) (o : Int32) (hrun : fX3_endAlike p0n p0f p1n p1f = some o) : Met l yX3_endAlike (wz yX3_endAlike cX3_endAlike 3 (Option.some Jvm.ClassFile.FieldType.boolean)) ({ frames := 0, cells := 0, slots := 0, locals := 0 } : Room) (va_Pc [.ref p0a, .ref p1a] (PRE zs dC dI [(p0a, .inl (p0k, p0n, .inl p0f)), (p1a, .inl (p1k, p1n, .inl p1f))] [(p0k, .int), (p1k, .int)] sz)) (va_Qi (fun (r : Int32) (_ : Unit) => r = o) (fun _ t => POST dC dI [(p0a, .inl (p0k, p0n, .inl p0f)), (p1a, .inl (p1k, p1n, .inl p1f))] [(p0k, .int), (p1k, .int)] (va_A [(p0a, .inl (p0k, p0n, .inl p0f)), (p1a, .inl (p1k, p1n, .inl p1f))] sz) t) (va_A [(p0a, .inl (p0k, p0n, .inl p0f)), (p1a, .inl (p1k, p1n, .inl p1f))] sz)) 0 0 (va_A [(p0a, .inl (p0k, p0n, .inl p0f)), (p1a, .inl (p1k, p1n, .inl p1f))] sz) := by
  refine Met.ofW (cc := cX3_endAlike) (maxL := 3) (ret := (Option.some Jvm.ClassFile.FieldType.boolean)) (by decide) rfl ?_
  intro p e s m args below meth c s₁ B hml hv
  obtain ⟨rfl, hsz, hP, hK, hD0, hE⟩ := hv
  have hx := B.exec
  have hb := B.bytes
  have hr := B.returns
  have hts0 := atoms_spec (ws := wz yX3_endAlike cX3_endAlike 3 (Option.some Jvm.ClassFile.FieldType.boolean)) B.pre
  have hts : ∀ w ∈ gw, w.before _ s = true := fun w h => hts0 w (List.mem_cons_of_mem _ h)
  have hown : s.vm.findClass RX3 = some m.cls := findClass_of_methodNamed B.named
  have hlocks := B.notSynchronized
  subst hsz
  have hD := hD0.self (sz := s.heap.size)
  refine gQ9 ?_
  intro Q hQ
  generalize hAe : va_A [(p0a, .inl (p0k, p0n, .inl p0f)), (p1a, .inl (p1k, p1n, .inl p1f))] s.heap.size = A at hD hE hQ
  have hA : ∀ q : Nat, s.heap.size ≤ q → A q := fun q h => by rw [← hAe]; exact Or.inr h
  have hS : va_S A s.heap s.heap [] := va_S.rf
  have hP : va_P (dC, dI) cls [(p0a, .inl (p0k, p0n, .inl p0f)), (p1a, .inl (p1k, p1n, .inl p1f))] s.heap := hP
  have hl := lv_entry ([.ref p0a, .ref p1a]) (n := 3) (Nat.le_of_ble_eq_true rfl)
  rw [lg_entry_eq]
  generalize (lg_sl ([.ref p0a, .ref p1a]) ++ List.replicate (3 - (lg_sl ([.ref p0a, .ref p1a])).length) Slot.unset).toArray = ls at hl ⊢
  have hl : lv_has ls 3 [(0, .ref p0a), (1, .ref p1a)] := hl
  obtain ⟨H, hHe⟩ : ∃ H, H = s.heap := ⟨_, rfl⟩
  obtain ⟨locs, hle⟩ : ∃ locs : List Loc, locs = [] := ⟨_, rfl⟩
  rw [← hHe] at hP
  have hS : va_S A s.heap H locs := by rw [hHe, hle]; exact hS
  show W p l e ({ frames := 0, cells := 0, slots := 0, locals := 0 } : Room) s m ([.ref p0a, .ref p1a] : List Value).toArray below meth c s.heap [] 0 0 Q (F0 m 0 ls [])
  rw [← hle]
  refine wH9 hHe ?_
  unfold fX3_endAlike at hrun
  refine lv_iconst (v := 0) hx hb dX3_endAlike_0 (by decide) ?_
  refine lv_istore_n (lv' := [(2, .int 0), (0, .ref p0a), (1, .ref p1a)]) hx hb dX3_endAlike_1 rfl hl (by decide) rfl (fun ls hl => ?_)
  have L2 : ∀ (n_2 : Nat) (v2_2 : Int32) (o2 : (Sum Int32 Unit)) (H : Heap) (locs : List Loc) (ls : Array Slot), (fX3_endAlike_L2 p0n p0f p1n p1f n_2) v2_2 = some o2 → va_P (dC, dI) cls [(p0a, .inl (p0k, p0n, .inl p0f)), (p1a, .inl (p1k, p1n, .inl p1f))] H → va_D A [(p0a, .inl (p0k, p0n, .inl p0f)), (p1a, .inl (p1k, p1n, .inl p1f))] → va_S A s.heap H locs → lv_has ls 3 [(0, .ref p0a), (1, .ref p1a), (2, .int v2_2)] → (∀ r, o2 = Sum.inl r → r = o) → (∀ (t2 : Unit), o2 = Sum.inr t2 → ∀ (H : Heap) (locs : List Loc) (ls : Array Slot), va_P (dC, dI) cls [(p0a, .inl (p0k, p0n, .inl p0f)), (p1a, .inl (p1k, p1n, .inl p1f))] H → va_D A [(p0a, .inl (p0k, p0n, .inl p0f)), (p1a, .inl (p1k, p1n, .inl p1f))] → va_S A s.heap H locs → lv_has ls 3 [] → W p l e ({ frames := 0, cells := 0, slots := 0, locals := 0 } : Room) s m ([.ref p0a, .ref p1a] : List Value).toArray below meth c H locs 0 0 Q (F0 m 30 ls [])) → W p l e ({ frames := 0, cells := 0, slots := 0, locals := 0 } : Room) s m ([.ref p0a, .ref p1a] : List Value).toArray below meth c H locs 0 0 Q (F0 m 2 ls []) := by
    intro n_2
    induction n_2 with
    | zero => intro v2_2 o2 H locs ls hrun; exact (no9 rfl hrun).elim
    | succ n_2 IH2 =>
      intro v2_2 o2 H locs ls hrun hP hD hS hl hr2 hk2
      unfold fX3_endAlike_L2 at hrun
      refine lv_iload_n hx hb dX3_endAlike_2 rfl (lv_at hl 2 rfl) ?_
      refine lv_bipush (v := 19) hx hb dX3_endAlike_3 (by decide) ?_
      rcases br9 hrun with ⟨hc1, hrun⟩ | ⟨hc1, hrun⟩
      · refine lv_icmp_ge (tgt := 30) hx hb dX3_endAlike_5 (by decide) (fun _ => ?_) (fun c => absurd hc1 c)
        obtain rfl := (Option.some.inj hrun)
        exact hk2 _ rfl _ _ _ hP hD hS (lv_sub hl [] rfl)
      · refine lv_icmp_ge (tgt := 30) hx hb dX3_endAlike_5 (by decide) (fun c => absurd c hc1) (fun _ => ?_)
        refine lv_iload_n hx hb dX3_endAlike_8 rfl (lv_at hl 2 rfl) ?_
        refine lv_iconst (v := 2) hx hb dX3_endAlike_9 (by decide) ?_
        have J24 : ∀ (H : Heap) (locs : List Loc) (ls : Array Slot), (fX3_endAlike_J24 (fX3_endAlike_L2 p0n p0f p1n p1f n_2) v2_2) = some o2 → va_P (dC, dI) cls [(p0a, .inl (p0k, p0n, .inl p0f)), (p1a, .inl (p1k, p1n, .inl p1f))] H → va_D A [(p0a, .inl (p0k, p0n, .inl p0f)), (p1a, .inl (p1k, p1n, .inl p1f))] → va_S A s.heap H locs → lv_has ls 3 [(0, .ref p0a), (1, .ref p1a), (2, .int v2_2)] → W p l e ({ frames := 0, cells := 0, slots := 0, locals := 0 } : Room) s m ([.ref p0a, .ref p1a] : List Value).toArray below meth c H locs 0 0 Q (F0 m 24 ls []) := by
          intro  H locs ls hrun hP hD hS hl
          unfold fX3_endAlike_J24 at hrun
          refine lv_iinc (v := (v2_2 + 1)) (lv' := [(2, .int (v2_2 + 1)), (0, .ref p0a), (1, .ref p1a)]) hx hb dX3_endAlike_24 hl (k := 2) rfl rfl (by decide) rfl (fun ls hl => ?_)
          refine lv_goto (tgt := 2) hx hb dX3_endAlike_27 (by decide) ?_
          exact IH2 (v2_2 + 1) o2 _ _ _ hrun hP hD hS (lv_sub hl [1, 2, 0] rfl) hr2 hk2
        rcases br9 hrun with ⟨hc2, hrun⟩ | ⟨hc2, hrun⟩
        · refine lv_icmp_eq (tgt := 24) hx hb dX3_endAlike_10 (by decide) (fun _ => ?_) (fun c => absurd hc2 c)
          exact J24 _ _ _ hrun hP hD hS (lv_sub hl [0, 1, 2] rfl)
        · refine lv_icmp_eq (tgt := 24) hx hb dX3_endAlike_10 (by decide) (fun c => absurd c hc2) (fun _ => ?_)
          refine lv_aload_n hx hb dX3_endAlike_13 rfl (lv_at hl 0 rfl) ?_
          refine lv_iload_n hx hb dX3_endAlike_14 rfl (lv_at hl 2 rfl) ?_
          obtain ⟨hq3, hrun⟩ := chk9 hrun
          refine va_iald hx hb hK hP 0 0 rfl rfl (ixb_in hq3) dX3_endAlike_15 ?_
          refine lv_aload_n hx hb dX3_endAlike_16 rfl (lv_at hl 1 rfl) ?_
          refine lv_iload_n hx hb dX3_endAlike_17 rfl (lv_at hl 2 rfl) ?_
          obtain ⟨hq4, hrun⟩ := chk9 hrun
          refine va_iald hx hb hK hP 1 1 rfl rfl (ixb_in hq4) dX3_endAlike_18 ?_
          rcases br9 hrun with ⟨hc5, hrun⟩ | ⟨hc5, hrun⟩
          · refine lv_icmp_eq (tgt := 24) hx hb dX3_endAlike_19 (by decide) (fun _ => ?_) (fun c => absurd hc5 c)
            exact J24 _ _ _ hrun hP hD hS (lv_sub hl [0, 1, 2] rfl)
          · refine lv_icmp_eq (tgt := 24) hx hb dX3_endAlike_19 (by decide) (fun c => absurd c hc5) (fun _ => ?_)
            refine lv_iconst (v := 0) hx hb dX3_endAlike_22 (by decide) ?_
            have ho9 : 0 = o := hr2 _ (Option.some.inj hrun).symm
            have hP9 : va_P (dC, dI) cls [(p0a, .inl (p0k, p0n, .inl p0f)), (p1a, .inl (p1k, p1n, .inl p1f))] H := by first | exact hP | (rw [← ho9]; exact hP)
            have hD9 : va_D A [(p0a, .inl (p0k, p0n, .inl p0f)), (p1a, .inl (p1k, p1n, .inl p1f))] := by first | exact hD | (rw [← ho9]; exact hD)
            subst hQ
            exact W.zret (v := 0) hx hb hr (by decide) (fun t ht hW => ⟨⟨0, (), rfl, (by rw [← ho9]), ⟨by rw [ht]; exact hP9, va_K.moved hW.alike hK, hD9⟩⟩, hS.F ht⟩) hS.2.2 dX3_endAlike_23
  obtain ⟨o2, hc2, hrun⟩ := bnd9 hrun
  refine L2 NF 0 o2 _ _ _ hc2 hP hD hS (lv_sub hl [1, 2, 0] rfl) (fun r e9 => by subst e9; exact Option.some.inj hrun) ?_
  intro t2 e9
  subst e9
  replace hrun := el9 hrun
  intro H locs ls hP hD hS hl
  have hl := hl
  refine lv_iconst (v := 1) hx hb dX3_endAlike_30 (by decide) ?_
  have ho9 : 1 = o := Option.some.inj hrun
  have hP9 : va_P (dC, dI) cls [(p0a, .inl (p0k, p0n, .inl p0f)), (p1a, .inl (p1k, p1n, .inl p1f))] H := by first | exact hP | (rw [← ho9]; exact hP)
  have hD9 : va_D A [(p0a, .inl (p0k, p0n, .inl p0f)), (p1a, .inl (p1k, p1n, .inl p1f))] := by first | exact hD | (rw [← ho9]; exact hD)
  subst hQ
  exact W.zret (v := 1) hx hb hr (by decide) (fun t ht hW => ⟨⟨1, (), rfl, (by rw [← ho9]), ⟨by rw [ht]; exact hP9, va_K.moved hW.alike hK, hD9⟩⟩, hS.F ht⟩) hS.2.2 dX3_endAlike_31
def fX3_pop (p0w : ST) : Option (Int32 × ST) := (if (p0w 0 19) = 0 then some (0, p0w) else (lt9 (upw p0w 0 19 ((p0w 0 19) - 1)) fun (w2 : ST) => (if ixb (w2 0 19) 512 = true then some ((w2 19 (nn (w2 0 19))), w2) else none)))
set_option maxHeartbeats 16000000 in
set_option maxRecDepth 100000 in
theorem kX3_pop {zs : Nat × Nat} (l : Launch) (dC : Nat → ClassId) (dI : Nat → Nat → Nat) (p0a : Nat → Nat) (p0k : Nat → ClassId) (p0n : Nat → Nat) (p0w : ST) (sz : Nat) (o : Int32 × ST) (hrun : fX3_pop p0w = some o) : Met l yX3_pop (wz yX3_pop cX3_pop 1 (Option.some Jvm.ClassFile.FieldType.int)) ({ frames := 0, cells := 0, slots := 0, locals := 0 } : Room) (va_Pc [.ref (p0a 0)] (PRE zs dC dI (oX3 (p0a 0) p0a p0k p0n p0w) (tX3 p0k) sz)) (va_Qi (fun (r : Int32) (_ : Unit) => r = (o.1)) (fun _ t => POST dC dI (oX3 (p0a 0) p0a p0k p0n (o.2)) (tX3 p0k) (va_A (oX3 (p0a 0) p0a p0k p0n p0w) sz) t) (va_A (oX3 (p0a 0) p0a p0k p0n p0w) sz)) 0 0 (va_A (oX3 (p0a 0) p0a p0k p0n p0w) sz) := by
  refine Met.ofW (cc := cX3_pop) (maxL := 1) (ret := (Option.some Jvm.ClassFile.FieldType.int)) (by decide) rfl ?_
  intro p e s m args below meth c s₁ B hml hv
  obtain ⟨rfl, hsz, hP, hK, hD0, hE⟩ := hv
  have hx := B.exec
  have hb := B.bytes
  have hr := B.returns
  have hts0 := atoms_spec (ws := wz yX3_pop cX3_pop 1 (Option.some Jvm.ClassFile.FieldType.int)) B.pre
  have hts : ∀ w ∈ gw, w.before _ s = true := fun w h => hts0 w (List.mem_cons_of_mem _ h)
  have hown : s.vm.findClass RX3 = some m.cls := findClass_of_methodNamed B.named
  have hlocks := B.notSynchronized
  subst hsz
  have hD := hD0.self (sz := s.heap.size)
  refine gQ9 ?_
  intro Q hQ
  generalize hAe : va_A (oX3 (p0a 0) p0a p0k p0n p0w) s.heap.size = A at hD hE hQ
  have hA : ∀ q : Nat, s.heap.size ≤ q → A q := fun q h => by rw [← hAe]; exact Or.inr h
  have hS : va_S A s.heap s.heap [] := va_S.rf
  have hP : va_P (dC, dI) cls (oX3 (p0a 0) p0a p0k p0n p0w) s.heap := hP
  have hl := lv_entry ([.ref (p0a 0)]) (n := 1) (Nat.le_of_ble_eq_true rfl)
  rw [lg_entry_eq]
  generalize (lg_sl ([.ref (p0a 0)]) ++ List.replicate (1 - (lg_sl ([.ref (p0a 0)])).length) Slot.unset).toArray = ls at hl ⊢
  have hl : lv_has ls 1 [(0, .ref (p0a 0))] := hl
  obtain ⟨H, hHe⟩ : ∃ H, H = s.heap := ⟨_, rfl⟩
  obtain ⟨locs, hle⟩ : ∃ locs : List Loc, locs = [] := ⟨_, rfl⟩
  rw [← hHe] at hP
  have hS : va_S A s.heap H locs := by rw [hHe, hle]; exact hS
  show W p l e ({ frames := 0, cells := 0, slots := 0, locals := 0 } : Room) s m ([.ref (p0a 0)] : List Value).toArray below meth c s.heap [] 0 0 Q (F0 m 0 ls [])
  rw [← hle]
  refine wH9 hHe ?_
  unfold fX3_pop at hrun
  refine lv_aload_n hx hb dX3_pop_0 rfl (lv_at hl 0 rfl) ?_
  refine va_get (D := (dC, dI)) (ci := 10) (v := .int (p0w 0 19)) (C := RX3) (T := TX3) (N := 20) hx hb hts i_X3 hown hK hP 0 rfl rfl 19 (by decide) (hts _ qw735) (fun _ h9 => h9) rfl dX3_pop_1 ?_
  rcases br9 hrun with ⟨hc1, hrun⟩ | ⟨hc1, hrun⟩
  · refine lv_if_ne (tgt := 9) hx hb dX3_pop_4 (by decide) (fun c => absurd hc1 c) (fun _ => ?_)
    refine lv_iconst (v := 0) hx hb dX3_pop_7 (by decide) ?_
    have ho9 : (0, p0w) = o := Option.some.inj hrun
    have hP9 : va_P (dC, dI) cls (oX3 (p0a 0) p0a p0k p0n (o.2)) H := by first | exact hP | (rw [← ho9]; exact hP)
    have hD9 : va_D A (oX3 (p0a 0) p0a p0k p0n (o.2)) := by first | exact hD | (rw [← ho9]; exact hD)
    subst hQ
    exact W.iret (v := 0) hx hb hr (fun t ht hW => ⟨⟨0, (), rfl, (by rw [← ho9]), ⟨by rw [ht]; exact hP9, va_K.moved hW.alike hK, hD9⟩⟩, hS.F ht⟩) hS.2.2 dX3_pop_8
  · refine lv_if_ne (tgt := 9) hx hb dX3_pop_4 (by decide) (fun _ => ?_) (fun c => absurd c hc1)
    refine lv_aload_n hx hb dX3_pop_9 rfl (lv_at hl 0 rfl) ?_
    refine lv_dup hx hb dX3_pop_10 rfl ?_
    refine va_get (D := (dC, dI)) (ci := 10) (v := .int (p0w 0 19)) (C := RX3) (T := TX3) (N := 20) hx hb hts i_X3 hown hK hP 0 rfl rfl 19 (by decide) (hts _ qw735) (fun _ h9 => h9) rfl dX3_pop_11 ?_
    refine lv_iconst (v := 1) hx hb dX3_pop_14 (by decide) ?_
    refine lv_isub hx hb dX3_pop_15 ?_
    refine va_put (D := (dC, dI)) (ci := 10) (v := .int ((p0w 0 19) - 1)) (ty := .int) (C := RX3) (T := TX3) (N := 20) hx hb hts i_X3 tyX3 tyX3_ok nmX3 hown hK hP hD hS 0 rfl rfl 19 (by decide) (hts _ qw735) (fun _ h9 => h9) rfl (by decide +kernel) rfl rfl (Nat.le_of_ble_eq_true rfl) dX3_pop_16 (fun H locs hP hD hS => ?_)
    have hP : va_P (dC, dI) cls (oX3 (p0a 0) p0a p0k p0n (upw p0w 0 19 ((p0w 0 19) - 1))) H := hP
    have hD : va_D A (oX3 (p0a 0) p0a p0k p0n (upw p0w 0 19 ((p0w 0 19) - 1))) := hD
    obtain ⟨w2, ew2, hrun⟩ := let9 hrun
    rw [← ew2] at hP hD
    refine lv_aload_n hx hb dX3_pop_19 rfl (lv_at hl 0 rfl) ?_
    refine va_get (D := (dC, dI)) (ci := 10) (v := .ref (p0a 19)) (C := RX3) (T := TX3) (N := 20) hx hb hts i_X3 hown hK hP 0 rfl rfl 18 (by decide) (hts _ qw736) (fun _ h9 => h9) rfl dX3_pop_20 ?_
    refine lv_aload_n hx hb dX3_pop_23 rfl (lv_at hl 0 rfl) ?_
    refine va_get (D := (dC, dI)) (ci := 10) (v := .int (w2 0 19)) (C := RX3) (T := TX3) (N := 20) hx hb hts i_X3 hown hK hP 0 rfl rfl 19 (by decide) (hts _ qw735) (fun _ h9 => h9) rfl dX3_pop_24 ?_
    obtain ⟨hq3, hrun⟩ := chk9 hrun
    refine va_iald hx hb hK hP 10 9 rfl rfl (ixb_in hq3) dX3_pop_27 ?_
    have ho9 : ((w2 19 (nn (w2 0 19))), w2) = o := Option.some.inj hrun
    have hP9 : va_P (dC, dI) cls (oX3 (p0a 0) p0a p0k p0n (o.2)) H := by first | exact hP | (rw [← ho9]; exact hP)
    have hD9 : va_D A (oX3 (p0a 0) p0a p0k p0n (o.2)) := by first | exact hD | (rw [← ho9]; exact hD)
    subst hQ
    exact W.iret (v := (w2 19 (nn (w2 0 19)))) hx hb hr (fun t ht hW => ⟨⟨(w2 19 (nn (w2 0 19))), (), rfl, (by rw [← ho9]), ⟨by rw [ht]; exact hP9, va_K.moved hW.alike hK, hD9⟩⟩, hS.F ht⟩) hS.2.2 dX3_pop_28
def fX3_enter_L47 (p0w : ST) : Nat → Int32 → ST → Option ST
  | 0 => fun _ _ => none
  | n_47 + 1 => fun v5_47 p0w_47 => (if v5_47 < 0 then some p0w_47 else ((fX3_pop p0w_47).bind fun (o_6 : Int32 × ST) => (if ixb (((p0w 0 9) * 4) + v5_47) 32 = true then (lt9 (upw (o_6.2) 15 (nn (((p0w 0 9) * 4) + v5_47)) (o_6.1)) fun (w9 : ST) => ((fX3_enter_L47 p0w n_47) (v5_47 + (-1)) w9)) else none)))
def fX3_enter_J126 (p0n : Nat → Nat) (p0w : ST) (w15 : ST) (y0_126 : Int32) : Option ST := (if ixb (p0w 0 9) 8 = true then (lt9 (upw w15 12 (nn (p0w 0 9)) y0_126) fun (w17 : ST) => ((fJ7_fill_fda19 2560 (w17 16) ((p0w 0 9) * 320) (((p0w 0 9) + 1) * 320) 0).bind fun (o_18 : RI) => ((fJ7_fill_fda19 (p0n 17) ((srw w17 16 o_18) 17) ((p0w 0 9) * ((srw w17 16 o_18) 0 17)) (((p0w 0 9) + 1) * ((srw w17 16 o_18) 0 17)) 0).bind fun (o_19 : RI) => some (srw (srw w17 16 o_18) 17 o_19)))) else none)
def fX3_enter (p0n : Nat → Nat) (p0w : ST) (p1 : Int32) (p2 : Int32) (p0_4w : ST) : Option ST := (if (p0w 0 9) = 8 then ((fX3_stop p0w 3).bind fun (o_2 : ST) => some o_2) else (lt9 (upw p0w 0 9 ((p0w 0 9) + 1)) fun (w3 : ST) => (if ixb p2 6 = true then ((fX3_enter_L47 p0w NF ((p0_4w 4 (nn p2)) - 1) w3).bind fun (o47 : ST) => (if ixb (p0w 0 9) 8 = true then (lt9 (upw o47 11 (nn (p0w 0 9)) p2) fun (w11 : ST) => (if ixb (p0w 0 9) 8 = true then (lt9 (upw w11 13 (nn (p0w 0 9)) 0) fun (w13 : ST) => (if ixb (p0w 0 9) 8 = true then (lt9 (upw w13 14 (nn (p0w 0 9)) (-1)) fun (w15 : ST) => (if p1 = 0 then (if ixb p2 6 = true then (fX3_enter_J126 p0n p0w w15 (p0_4w 6 (nn p2))) else none) else (if p1 = 1 then (fX3_enter_J126 p0n p0w w15 (-2)) else (fX3_enter_J126 p0n p0w w15 0)))) else none)) else none)) else none)) else none)))
set_option maxHeartbeats 16000000 in
set_option maxRecDepth 100000 in
theorem kX3_enter {zs : Nat × Nat} (l : Launch) (dC : Nat → ClassId) (dI : Nat → Nat → Nat) (p0a : Nat → Nat) (p0k : Nat → ClassId) (p0n : Nat → Nat) (p0w : ST) (p1 : Int32) (p2 : Int32) (p0_4a : Nat → Nat) (p0_4k : Nat → ClassId) (p0_4w : ST) (p0_4l : SL) (sz : Nat) (o : ST) (hrun : fX3_enter p0n p0w p1 p2 p0_4w = some o) : Met l yX3_enter (wz yX3_enter cX3_enter 6 (Option.none : Option Jvm.ClassFile.FieldType)) ({ frames := 2, cells := 0, slots := 0, locals := 46 } : Room) (va_Pc [.ref (p0a 0), .int p1, .int p2] (PRE zs dC dI ((oX3 (p0a 0) p0a p0k p0n p0w) ++ (oX6 (p0a 5) p0_4a p0_4k p0_4w p0_4l)) ((tX3 p0k) ++ (tX6 p0_4k)) sz)) (va_Qv (fun (_ : Unit) => True) (fun _ t => POST dC dI ((oX3 (p0a 0) p0a p0k p0n o) ++ (oX6 (p0a 5) p0_4a p0_4k p0_4w p0_4l)) ((tX3 p0k) ++ (tX6 p0_4k)) (va_A ((oX3 (p0a 0) p0a p0k p0n p0w) ++ (oX6 (p0a 5) p0_4a p0_4k p0_4w p0_4l)) sz) t) (va_A ((oX3 (p0a 0) p0a p0k p0n p0w) ++ (oX6 (p0a 5) p0_4a p0_4k p0_4w p0_4l)) sz)) 0 0 (va_A ((oX3 (p0a 0) p0a p0k p0n p0w) ++ (oX6 (p0a 5) p0_4a p0_4k p0_4w p0_4l)) sz) := by
  refine Met.ofW (cc := cX3_enter) (maxL := 6) (ret := (Option.none : Option Jvm.ClassFile.FieldType)) (by decide) rfl ?_
  intro p e s m args below meth c s₁ B hml hv
  obtain ⟨rfl, hsz, hP, hK, hD0, hE⟩ := hv
  have hx := B.exec
  have hb := B.bytes
  have hr := B.returns
  have hts0 := atoms_spec (ws := wz yX3_enter cX3_enter 6 (Option.none : Option Jvm.ClassFile.FieldType)) B.pre
  have hts : ∀ w ∈ gw, w.before _ s = true := fun w h => hts0 w (List.mem_cons_of_mem _ h)
  have hown : s.vm.findClass RX3 = some m.cls := findClass_of_methodNamed B.named
  have hlocks := B.notSynchronized
  subst hsz
  have hD := hD0.self (sz := s.heap.size)
  refine gQ9 ?_
  intro Q hQ
  generalize hAe : va_A ((oX3 (p0a 0) p0a p0k p0n p0w) ++ (oX6 (p0a 5) p0_4a p0_4k p0_4w p0_4l)) s.heap.size = A at hD hE hQ
  have hA : ∀ q : Nat, s.heap.size ≤ q → A q := fun q h => by rw [← hAe]; exact Or.inr h
  have hS : va_S A s.heap s.heap [] := va_S.rf
  have hP : va_P (dC, dI) cls ((oX3 (p0a 0) p0a p0k p0n p0w) ++ (oX6 (p0a 5) p0_4a p0_4k p0_4w p0_4l)) s.heap := hP
  have hl := lv_entry ([.ref (p0a 0), .int p1, .int p2]) (n := 6) (Nat.le_of_ble_eq_true rfl)
  rw [lg_entry_eq]
  generalize (lg_sl ([.ref (p0a 0), .int p1, .int p2]) ++ List.replicate (6 - (lg_sl ([.ref (p0a 0), .int p1, .int p2])).length) Slot.unset).toArray = ls at hl ⊢
  have hl : lv_has ls 6 [(0, .ref (p0a 0)), (1, .int p1), (2, .int p2)] := hl
  obtain ⟨H, hHe⟩ : ∃ H, H = s.heap := ⟨_, rfl⟩
  obtain ⟨locs, hle⟩ : ∃ locs : List Loc, locs = [] := ⟨_, rfl⟩
  rw [← hHe] at hP
  have hS : va_S A s.heap H locs := by rw [hHe, hle]; exact hS
  show W p l e ({ frames := 2, cells := 0, slots := 0, locals := 46 } : Room) s m ([.ref (p0a 0), .int p1, .int p2] : List Value).toArray below meth c s.heap [] 0 0 Q (F0 m 0 ls [])
  rw [← hle]
  refine wH9 hHe ?_
  unfold fX3_enter at hrun
  refine lv_aload_n hx hb dX3_enter_0 rfl (lv_at hl 0 rfl) ?_
  refine va_get (D := (dC, dI)) (ci := 10) (v := .int (p0w 0 9)) (C := RX3) (T := TX3) (N := 20) hx hb hts i_X3 hown hK hP 0 rfl rfl 9 (by decide) (hts _ qw716) (fun _ h9 => h9) rfl dX3_enter_1 ?_
  refine lv_bipush (v := 8) hx hb dX3_enter_4 (by decide) ?_
  rcases br9 hrun with ⟨hc1, hrun⟩ | ⟨hc1, hrun⟩
  · refine lv_icmp_ne (tgt := 15) hx hb dX3_enter_6 (by decide) (fun c => absurd hc1 c) (fun _ => ?_)
    refine lv_aload_n hx hb dX3_enter_9 rfl (lv_at hl 0 rfl) ?_
    refine lv_iconst (v := 3) hx hb dX3_enter_10 (by decide) ?_
    obtain ⟨o_2, hc_2, hrun⟩ := bnd9 hrun
    have hPc := hP.sub (ws' := (oX3 (p0a 0) p0a p0k p0n p0w)) [0, 1, 2, 3, 4, 5, 6, 7, 8, 9, 10] rfl
    have hDc := hD.sub (ws' := (oX3 (p0a 0) p0a p0k p0n p0w)) [0, 1, 2, 3, 4, 5, 6, 7, 8, 9, 10] (by decide) rfl
    have hKc := hK.sub (tys' := (tX3 p0k)) [0, 1, 2, 3, 4, 5, 6, 7, 8, 9] rfl
    have hFc := va_free (wc := (oX3 (p0a 0) p0a p0k p0n p0w)) hD hS hA [0, 1, 2, 3, 4, 5, 6, 7, 8, 9, 10] rfl
    refine va_callv (va_runV (As := [.int 3]) (rest := []) ⟨hx, hb, hml, hown, hts⟩ (kX3_stop l dC dI (p0a := (st0 (p0a 0) p0a)) (p0k := p0k) (p0n := p0n) (p0w := p0w) (p1 := 3) (sz := _) (o := o_2) (hrun := hc_2)) (cwV 1 hts (gi_V qw719 qw720 qw721 qw722 (gi_z qw718)) rfl rfl rfl (by decide +kernel) ⟨Nat.le_of_ble_eq_true rfl, Nat.le_of_ble_eq_true rfl⟩) ⟨PRE.blind, va_recv hKc hPc (ci := 10) (q0 := 0) rfl rfl, PRE.of hE hS hFc hPc hKc hDc⟩ rfl rfl hl.1 rfl (lv_room (Nat.le_of_ble_eq_true rfl)) dX3_enter_11 ⟨Nat.le_of_ble_eq_true rfl, Nat.le_of_ble_eq_true rfl⟩) hS (fun q _ h => hFc q h) hFc (fun u t H locs ht hvm hw hB hz1 hk1 hS => ?_)
    obtain ⟨hP, hD, hK⟩ := JOIN (wr := (oX6 (p0a 5) p0_4a p0_4k p0_4w p0_4l)) hP hD hK [0, 1, 2, 3, 4, 5, 6, 7, 8, 9, 10] [11, 12, 13, 14, 15, 16, 17, 18, 19, 20, 21] [10, 11, 12, 13, 14, 15, 16, 17, 18, 19] rfl rfl (by decide) (by decide) rfl hk1 hFc ht hvm hB
    have hP : va_P (dC, dI) cls ((oX3 (p0a 0) p0a p0k p0n o_2) ++ (oX6 (p0a 5) p0_4a p0_4k p0_4w p0_4l)) H := hP.sub [11, 12, 13, 14, 15, 16, 17, 18, 19, 20, 21, 0, 1, 2, 3, 4, 5, 6, 7, 8, 9, 10] rfl
    have hD : va_D A ((oX3 (p0a 0) p0a p0k p0n o_2) ++ (oX6 (p0a 5) p0_4a p0_4k p0_4w p0_4l)) := hD.sub [11, 12, 13, 14, 15, 16, 17, 18, 19, 20, 21, 0, 1, 2, 3, 4, 5, 6, 7, 8, 9, 10] (by decide) rfl
    have hK : va_K (dC, dI) cls ((tX3 p0k) ++ (tX6 p0_4k)) s := hK.sub [10, 11, 12, 13, 14, 15, 16, 17, 18, 19, 0, 1, 2, 3, 4, 5, 6, 7, 8, 9] rfl
    have ho9 : o_2 = o := Option.some.inj hrun
    have hP9 : va_P (dC, dI) cls ((oX3 (p0a 0) p0a p0k p0n o) ++ (oX6 (p0a 5) p0_4a p0_4k p0_4w p0_4l)) H := by first | exact hP | (rw [← ho9]; exact hP)
    have hD9 : va_D A ((oX3 (p0a 0) p0a p0k p0n o) ++ (oX6 (p0a 5) p0_4a p0_4k p0_4w p0_4l)) := by first | exact hD | (rw [← ho9]; exact hD)
    subst hQ
    exact W.vret hx hb hr (fun t ht hW => ⟨⟨(), rfl, trivial, ⟨by rw [ht]; exact hP9, va_K.moved hW.alike hK, hD9⟩⟩, hS.F ht⟩) hS.2.2 dX3_enter_14
  · refine lv_icmp_ne (tgt := 15) hx hb dX3_enter_6 (by decide) (fun _ => ?_) (fun c => absurd c hc1)
    refine lv_aload_n hx hb dX3_enter_15 rfl (lv_at hl 0 rfl) ?_
    refine va_get (D := (dC, dI)) (ci := 10) (v := .int (p0w 0 9)) (C := RX3) (T := TX3) (N := 20) hx hb hts i_X3 hown hK hP 0 rfl rfl 9 (by decide) (hts _ qw716) (fun _ h9 => h9) rfl dX3_enter_16 ?_
    refine lv_istore_n (lv' := [(3, .int (p0w 0 9)), (0, .ref (p0a 0)), (1, .int p1), (2, .int p2)]) hx hb dX3_enter_19 rfl hl (by decide) rfl (fun ls hl => ?_)
    refine lv_aload_n hx hb dX3_enter_20 rfl (lv_at hl 1 rfl) ?_
    refine lv_dup hx hb dX3_enter_21 rfl ?_
    refine va_get (D := (dC, dI)) (ci := 10) (v := .int (p0w 0 9)) (C := RX3) (T := TX3) (N := 20) hx hb hts i_X3 hown hK hP 0 rfl rfl 9 (by decide) (hts _ qw716) (fun _ h9 => h9) rfl dX3_enter_22 ?_
    refine lv_iconst (v := 1) hx hb dX3_enter_25 (by decide) ?_
    refine lv_iadd hx hb dX3_enter_26 ?_
    refine va_put (D := (dC, dI)) (ci := 10) (v := .int ((p0w 0 9) + 1)) (ty := .int) (C := RX3) (T := TX3) (N := 20) hx hb hts i_X3 tyX3 tyX3_ok nmX3 hown hK hP hD hS 0 rfl rfl 9 (by decide) (hts _ qw716) (fun _ h9 => h9) rfl (by decide +kernel) rfl rfl (Nat.le_of_ble_eq_true rfl) dX3_enter_27 (fun H locs hP hD hS => ?_)
    have hP : va_P (dC, dI) cls ((oX3 (p0a 0) p0a p0k p0n (upw p0w 0 9 ((p0w 0 9) + 1))) ++ (oX6 (p0a 5) p0_4a p0_4k p0_4w p0_4l)) H := hP
    have hD : va_D A ((oX3 (p0a 0) p0a p0k p0n (upw p0w 0 9 ((p0w 0 9) + 1))) ++ (oX6 (p0a 5) p0_4a p0_4k p0_4w p0_4l)) := hD
    obtain ⟨w3, ew3, hrun⟩ := let9 hrun
    rw [← ew3] at hP hD
    refine lv_aload_n hx hb dX3_enter_30 rfl (lv_at hl 1 rfl) ?_
    refine va_get (D := (dC, dI)) (ci := 10) (v := .ref (p0a 5)) (C := RX3) (T := TX3) (N := 20) hx hb hts i_X3 hown hK hP 0 rfl rfl 4 (by decide) (hts _ qw733) (fun _ h9 => h9) rfl dX3_enter_31 ?_
    refine va_get (D := (dC, dI)) (ci := 2) (v := .ref (p0_4a 4)) (C := RX6) (T := TX6) (N := 13) hx hb hts i_X6 hown hK hP 11 rfl rfl 3 (by decide) (hts _ qw734) (fun _ h9 => h9) rfl dX3_enter_34 ?_
    refine lv_iload_n hx hb dX3_enter_37 rfl (lv_at hl 3 rfl) ?_
    obtain ⟨hq4, hrun⟩ := chk9 hrun
    refine va_iald hx hb hK hP 14 12 rfl rfl (ixb_in hq4) dX3_enter_38 ?_
    refine lv_istore (lv' := [(4, .int (p0_4w 4 (nn p2))), (3, .int (p0w 0 9)), (0, .ref (p0a 0)), (1, .int p1), (2, .int p2)]) hx hb dX3_enter_39 hl (by decide) rfl (fun ls hl => ?_)
    refine lv_iload hx hb dX3_enter_41 (lv_at hl 0 rfl) ?_
    refine lv_iconst (v := 1) hx hb dX3_enter_43 (by decide) ?_
    refine lv_isub hx hb dX3_enter_44 ?_
    refine lv_istore (lv' := [(5, .int ((p0_4w 4 (nn p2)) - 1)), (4, .int (p0_4w 4 (nn p2))), (3, .int (p0w 0 9)), (0, .ref (p0a 0)), (1, .int p1), (2, .int p2)]) hx hb dX3_enter_45 hl (by decide) rfl (fun ls hl => ?_)
    have L47 : ∀ (n_47 : Nat) (v5_47 : Int32) (p0w_47 : ST) (o47 : ST) (H : Heap) (locs : List Loc) (ls : Array Slot), (fX3_enter_L47 p0w n_47) v5_47 p0w_47 = some o47 → va_P (dC, dI) cls ((oX3 (p0a 0) p0a p0k p0n p0w_47) ++ (oX6 (p0a 5) p0_4a p0_4k p0_4w p0_4l)) H → va_D A ((oX3 (p0a 0) p0a p0k p0n p0w_47) ++ (oX6 (p0a 5) p0_4a p0_4k p0_4w p0_4l)) → va_S A s.heap H locs → lv_has ls 6 [(0, .ref (p0a 0)), (1, .int p1), (2, .int p2), (3, .int (p0w 0 9)), (5, .int v5_47)] → (∀ (H : Heap) (locs : List Loc) (ls : Array Slot), va_P (dC, dI) cls ((oX3 (p0a 0) p0a p0k p0n o47) ++ (oX6 (p0a 5) p0_4a p0_4k p0_4w p0_4l)) H → va_D A ((oX3 (p0a 0) p0a p0k p0n o47) ++ (oX6 (p0a 5) p0_4a p0_4k p0_4w p0_4l)) → va_S A s.heap H locs → lv_has ls 6 [(0, .ref (p0a 0)), (1, .int p1), (2, .int p2), (3, .int (p0w 0 9))] → W p l e ({ frames := 2, cells := 0, slots := 0, locals := 46 } : Room) s m ([.ref (p0a 0), .int p1, .int p2] : List Value).toArray below meth c H locs 0 0 Q (F0 m 73 ls [])) → W p l e ({ frames := 2, cells := 0, slots := 0, locals := 46 } : Room) s m ([.ref (p0a 0), .int p1, .int p2] : List Value).toArray below meth c H locs 0 0 Q (F0 m 47 ls []) := by
      intro n_47
      induction n_47 with
      | zero => intro v5_47 p0w_47 o47 H locs ls hrun; exact (no9 rfl hrun).elim
      | succ n_47 IH47 =>
        intro v5_47 p0w_47 o47 H locs ls hrun hP hD hS hl hk47
        unfold fX3_enter_L47 at hrun
        refine lv_iload hx hb dX3_enter_47 (lv_at hl 4 rfl) ?_
        rcases br9 hrun with ⟨hc5, hrun⟩ | ⟨hc5, hrun⟩
        · refine lv_if_lt (tgt := 73) hx hb dX3_enter_49 (by decide) (fun _ => ?_) (fun c => absurd hc5 c)
          obtain rfl := (Option.some.inj hrun)
          exact hk47 _ _ _ hP hD hS (lv_sub hl [0, 1, 2, 3] rfl)
        · refine lv_if_lt (tgt := 73) hx hb dX3_enter_49 (by decide) (fun c => absurd c hc5) (fun _ => ?_)
          refine lv_aload_n hx hb dX3_enter_52 rfl (lv_at hl 0 rfl) ?_
          refine va_get (D := (dC, dI)) (ci := 10) (v := .ref (p0a 15)) (C := RX3) (T := TX3) (N := 20) hx hb hts i_X3 hown hK hP 0 rfl rfl 14 (by decide) (hts _ qw710) (fun _ h9 => h9) rfl dX3_enter_53 ?_
          refine lv_iload_n hx hb dX3_enter_56 rfl (lv_at hl 3 rfl) ?_
          refine lv_iconst (v := 4) hx hb dX3_enter_57 (by decide) ?_
          refine lv_imul hx hb dX3_enter_58 ?_
          refine lv_iload hx hb dX3_enter_59 (lv_at hl 4 rfl) ?_
          refine lv_iadd hx hb dX3_enter_61 ?_
          refine lv_aload_n hx hb dX3_enter_62 rfl (lv_at hl 0 rfl) ?_
          obtain ⟨o_6, hc_6, hrun⟩ := bnd9 hrun
          have hPc := hP.sub (ws' := (oX3 (p0a 0) p0a p0k p0n p0w_47)) [0, 1, 2, 3, 4, 5, 6, 7, 8, 9, 10] rfl
          have hDc := hD.sub (ws' := (oX3 (p0a 0) p0a p0k p0n p0w_47)) [0, 1, 2, 3, 4, 5, 6, 7, 8, 9, 10] (by decide) rfl
          have hKc := hK.sub (tys' := (tX3 p0k)) [0, 1, 2, 3, 4, 5, 6, 7, 8, 9] rfl
          have hFc := va_free (wc := (oX3 (p0a 0) p0a p0k p0n p0w_47)) hD hS hA [0, 1, 2, 3, 4, 5, 6, 7, 8, 9, 10] rfl
          refine va_calli (va_runV (As := []) (rest := [.int (((p0w 0 9) * 4) + v5_47), .ref (p0a 15)]) ⟨hx, hb, hml, hown, hts⟩ (kX3_pop l dC dI (p0a := (st0 (p0a 0) p0a)) (p0k := p0k) (p0n := p0n) (p0w := p0w_47) (sz := _) (o := o_6) (hrun := hc_6)) (cwV 0 hts (gi_V qw738 qw739 qw740 qw722 (gi_z qw737)) rfl rfl rfl (by decide +kernel) ⟨Nat.le_of_ble_eq_true rfl, Nat.le_of_ble_eq_true rfl⟩) ⟨PRE.blind, va_recv hKc hPc (ci := 10) (q0 := 0) rfl rfl, PRE.of hE hS hFc hPc hKc hDc⟩ rfl rfl hl.1 rfl (lv_room (Nat.le_of_ble_eq_true rfl)) dX3_enter_63 ⟨Nat.le_of_ble_eq_true rfl, Nat.le_of_ble_eq_true rfl⟩) hS (fun q _ h => hFc q h) hFc (fun r7 u t H locs ht hvm hw hB hz1 hk1 hS => ?_)
          obtain ⟨hP, hD, hK⟩ := JOIN (wr := (oX6 (p0a 5) p0_4a p0_4k p0_4w p0_4l)) hP hD hK [0, 1, 2, 3, 4, 5, 6, 7, 8, 9, 10] [11, 12, 13, 14, 15, 16, 17, 18, 19, 20, 21] [10, 11, 12, 13, 14, 15, 16, 17, 18, 19] rfl rfl (by decide) (by decide) rfl hk1 hFc ht hvm hB
          have hP : va_P (dC, dI) cls ((oX3 (p0a 0) p0a p0k p0n (o_6.2)) ++ (oX6 (p0a 5) p0_4a p0_4k p0_4w p0_4l)) H := hP.sub [11, 12, 13, 14, 15, 16, 17, 18, 19, 20, 21, 0, 1, 2, 3, 4, 5, 6, 7, 8, 9, 10] rfl
          have hD : va_D A ((oX3 (p0a 0) p0a p0k p0n (o_6.2)) ++ (oX6 (p0a 5) p0_4a p0_4k p0_4w p0_4l)) := hD.sub [11, 12, 13, 14, 15, 16, 17, 18, 19, 20, 21, 0, 1, 2, 3, 4, 5, 6, 7, 8, 9, 10] (by decide) rfl
          have hK : va_K (dC, dI) cls ((tX3 p0k) ++ (tX6 p0_4k)) s := hK.sub [10, 11, 12, 13, 14, 15, 16, 17, 18, 19, 0, 1, 2, 3, 4, 5, 6, 7, 8, 9] rfl
          obtain rfl : r7 = (o_6.1) := hw
          obtain ⟨hq8, hrun⟩ := chk9 hrun
          refine va_iast hx hb hK hP hD hS 7 6 rfl rfl (ixb_in hq8) dX3_enter_66 (fun H locs hP hD hS => ?_)
          have hP : va_P (dC, dI) cls ((oX3 (p0a 0) p0a p0k p0n (upw (o_6.2) 15 (nn (((p0w 0 9) * 4) + v5_47)) (o_6.1))) ++ (oX6 (p0a 5) p0_4a p0_4k p0_4w p0_4l)) H := hP
          have hD : va_D A ((oX3 (p0a 0) p0a p0k p0n (upw (o_6.2) 15 (nn (((p0w 0 9) * 4) + v5_47)) (o_6.1))) ++ (oX6 (p0a 5) p0_4a p0_4k p0_4w p0_4l)) := hD
          obtain ⟨w9, ew9, hrun⟩ := let9 hrun
          rw [← ew9] at hP hD
          refine lv_iinc (v := (v5_47 + (-1))) (lv' := [(5, .int (v5_47 + (-1))), (0, .ref (p0a 0)), (1, .int p1), (2, .int p2), (3, .int (p0w 0 9))]) hx hb dX3_enter_67 hl (k := 4) rfl rfl (by decide) rfl (fun ls hl => ?_)
          refine lv_goto (tgt := 47) hx hb dX3_enter_70 (by decide) ?_
          exact IH47 (v5_47 + (-1)) w9 o47 _ _ _ hrun hP hD hS (lv_sub hl [1, 2, 3, 4, 0] rfl) hk47
    obtain ⟨o47, hc47, hrun⟩ := bnd9 hrun
    refine L47 NF ((p0_4w 4 (nn p2)) - 1) w3 o47 _ _ _ hc47 hP hD hS (lv_sub hl [3, 4, 5, 2, 0] rfl) ?_
    intro H locs ls hP hD hS hl
    have hl := hl
    refine lv_aload_n hx hb dX3_enter_73 rfl (lv_at hl 0 rfl) ?_
    refine va_get (D := (dC, dI)) (ci := 10) (v := .ref (p0a 11)) (C := RX3) (T := TX3) (N := 20) hx hb hts i_X3 hown hK hP 0 rfl rfl 10 (by decide) (hts _ qw732) (fun _ h9 => h9) rfl dX3_enter_74 ?_
    refine lv_iload_n hx hb dX3_enter_77 rfl (lv_at hl 3 rfl) ?_
    refine lv_iload_n hx hb dX3_enter_78 rfl (lv_at hl 2 rfl) ?_
    obtain ⟨hq10, hrun⟩ := chk9 hrun
    refine va_iast hx hb hK hP hD hS 3 2 rfl rfl (ixb_in hq10) dX3_enter_79 (fun H locs hP hD hS => ?_)
    have hP : va_P (dC, dI) cls ((oX3 (p0a 0) p0a p0k p0n (upw o47 11 (nn (p0w 0 9)) p2)) ++ (oX6 (p0a 5) p0_4a p0_4k p0_4w p0_4l)) H := hP
    have hD : va_D A ((oX3 (p0a 0) p0a p0k p0n (upw o47 11 (nn (p0w 0 9)) p2)) ++ (oX6 (p0a 5) p0_4a p0_4k p0_4w p0_4l)) := hD
    obtain ⟨w11, ew11, hrun⟩ := let9 hrun
    rw [← ew11] at hP hD
    refine lv_aload_n hx hb dX3_enter_80 rfl (lv_at hl 0 rfl) ?_
    refine va_get (D := (dC, dI)) (ci := 10) (v := .ref (p0a 13)) (C := RX3) (T := TX3) (N := 20) hx hb hts i_X3 hown hK hP 0 rfl rfl 12 (by decide) (hts _ qw723) (fun _ h9 => h9) rfl dX3_enter_81 ?_
    refine lv_iload_n hx hb dX3_enter_84 rfl (lv_at hl 3 rfl) ?_
    refine lv_iconst (v := 0) hx hb dX3_enter_85 (by decide) ?_
    obtain ⟨hq12, hrun⟩ := chk9 hrun
    refine va_iast hx hb hK hP hD hS 5 4 rfl rfl (ixb_in hq12) dX3_enter_86 (fun H locs hP hD hS => ?_)
    have hP : va_P (dC, dI) cls ((oX3 (p0a 0) p0a p0k p0n (upw w11 13 (nn (p0w 0 9)) 0)) ++ (oX6 (p0a 5) p0_4a p0_4k p0_4w p0_4l)) H := hP
    have hD : va_D A ((oX3 (p0a 0) p0a p0k p0n (upw w11 13 (nn (p0w 0 9)) 0)) ++ (oX6 (p0a 5) p0_4a p0_4k p0_4w p0_4l)) := hD
    obtain ⟨w13, ew13, hrun⟩ := let9 hrun
    rw [← ew13] at hP hD
    refine lv_aload_n hx hb dX3_enter_87 rfl (lv_at hl 0 rfl) ?_
    refine va_get (D := (dC, dI)) (ci := 10) (v := .ref (p0a 14)) (C := RX3) (T := TX3) (N := 20) hx hb hts i_X3 hown hK hP 0 rfl rfl 13 (by decide) (hts _ qw741) (fun _ h9 => h9) rfl dX3_enter_88 ?_
    refine lv_iload_n hx hb dX3_enter_91 rfl (lv_at hl 3 rfl) ?_
    refine lv_iconst (v := (-1)) hx hb dX3_enter_92 (by decide) ?_
    obtain ⟨hq14, hrun⟩ := chk9 hrun
    refine va_iast hx hb hK hP hD hS 6 5 rfl rfl (ixb_in hq14) dX3_enter_93 (fun H locs hP hD hS => ?_)
    have hP : va_P (dC, dI) cls ((oX3 (p0a 0) p0a p0k p0n (upw w13 14 (nn (p0w 0 9)) (-1))) ++ (oX6 (p0a 5) p0_4a p0_4k p0_4w p0_4l)) H := hP
    have hD : va_D A ((oX3 (p0a 0) p0a p0k p0n (upw w13 14 (nn (p0w 0 9)) (-1))) ++ (oX6 (p0a 5) p0_4a p0_4k p0_4w p0_4l)) := hD
    obtain ⟨w15, ew15, hrun⟩ := let9 hrun
    rw [← ew15] at hP hD
    refine lv_aload_n hx hb dX3_enter_94 rfl (lv_at hl 0 rfl) ?_
    refine va_get (D := (dC, dI)) (ci := 10) (v := .ref (p0a 12)) (C := RX3) (T := TX3) (N := 20) hx hb hts i_X3 hown hK hP 0 rfl rfl 11 (by decide) (hts _ qw742) (fun _ h9 => h9) rfl dX3_enter_95 ?_
    refine lv_iload_n hx hb dX3_enter_98 rfl (lv_at hl 3 rfl) ?_
    refine lv_iload_n hx hb dX3_enter_99 rfl (lv_at hl 1 rfl) ?_
    have J126 : ∀ (y0_126 : Int32) (H : Heap) (locs : List Loc) (ls : Array Slot), (fX3_enter_J126 p0n p0w w15 y0_126) = some o → va_P (dC, dI) cls ((oX3 (p0a 0) p0a p0k p0n w15) ++ (oX6 (p0a 5) p0_4a p0_4k p0_4w p0_4l)) H → va_D A ((oX3 (p0a 0) p0a p0k p0n w15) ++ (oX6 (p0a 5) p0_4a p0_4k p0_4w p0_4l)) → va_S A s.heap H locs → lv_has ls 6 [(0, .ref (p0a 0)), (3, .int (p0w 0 9))] → W p l e ({ frames := 2, cells := 0, slots := 0, locals := 46 } : Room) s m ([.ref (p0a 0), .int p1, .int p2] : List Value).toArray below meth c H locs 0 0 Q (F0 m 126 ls [.int y0_126, .int (p0w 0 9), .ref (p0a 12)]) := by
      intro y0_126 H locs ls hrun hP hD hS hl
      unfold fX3_enter_J126 at hrun
      obtain ⟨hq16, hrun⟩ := chk9 hrun
      refine va_iast hx hb hK hP hD hS 4 3 rfl rfl (ixb_in hq16) dX3_enter_126 (fun H locs hP hD hS => ?_)
      have hP : va_P (dC, dI) cls ((oX3 (p0a 0) p0a p0k p0n (upw w15 12 (nn (p0w 0 9)) y0_126)) ++ (oX6 (p0a 5) p0_4a p0_4k p0_4w p0_4l)) H := hP
      have hD : va_D A ((oX3 (p0a 0) p0a p0k p0n (upw w15 12 (nn (p0w 0 9)) y0_126)) ++ (oX6 (p0a 5) p0_4a p0_4k p0_4w p0_4l)) := hD
      obtain ⟨w17, ew17, hrun⟩ := let9 hrun
      rw [← ew17] at hP hD
      refine lv_aload_n hx hb dX3_enter_127 rfl (lv_at hl 0 rfl) ?_
      refine va_get (D := (dC, dI)) (ci := 10) (v := .ref (p0a 16)) (C := RX3) (T := TX3) (N := 20) hx hb hts i_X3 hown hK hP 0 rfl rfl 15 (by decide) (hts _ qw725) (fun _ h9 => h9) rfl dX3_enter_128 ?_
      refine lv_iload_n hx hb dX3_enter_131 rfl (lv_at hl 1 rfl) ?_
      refine lv_sipush (v := 320) hx hb dX3_enter_132 (by decide) ?_
      refine lv_imul hx hb dX3_enter_135 ?_
      refine lv_iload_n hx hb dX3_enter_136 rfl (lv_at hl 1 rfl) ?_
      refine lv_iconst (v := 1) hx hb dX3_enter_137 (by decide) ?_
      refine lv_iadd hx hb dX3_enter_138 ?_
      refine lv_sipush (v := 320) hx hb dX3_enter_139 (by decide) ?_
      refine lv_imul hx hb dX3_enter_142 ?_
      refine lv_iconst (v := 0) hx hb dX3_enter_143 (by decide) ?_
      obtain ⟨o_18, hc_18, hrun⟩ := bnd9 hrun
      have hPc := hP.sub (ws' := [((p0a 16), .inl ((p0k 16), 2560, .inl (w17 16)))]) [8] rfl
      have hDc := hD.sub (ws' := [((p0a 16), .inl ((p0k 16), 2560, .inl (w17 16)))]) [8] (by decide) rfl
      have hKc := hK.sub (tys' := [((p0k 16), .int)]) [7] rfl
      have hFc := va_free (wc := [((p0a 16), .inl ((p0k 16), 2560, .inl (w17 16)))]) hD hS hA [8] rfl
      refine va_callv (va_runS (As := [.ref (p0a 16), .int ((p0w 0 9) * 320), .int (((p0w 0 9) + 1) * 320), .int 0]) (rest := []) ⟨hx, hb, hml, hown, hts⟩ (kJ7_fill_fda19 l dC dI (p0a := (p0a 16)) (p0k := (p0k 16)) (p0n := 2560) (p0f := (w17 16)) (p1 := ((p0w 0 9) * 320)) (p2 := (((p0w 0 9) + 1) * 320)) (p3 := 0) (sz := _) (o := o_18) (hrun := hc_18)) (va_cwS 4 hts (gi_S qw744 qw252 qw186 (gi_z qw250)) rfl rfl rfl (by decide +kernel) ⟨Nat.le_of_ble_eq_true rfl, Nat.le_of_ble_eq_true rfl⟩) ⟨PRE.blind, PRE.of hE hS hFc hPc hKc hDc⟩ rfl rfl hl.1 rfl (lv_room (Nat.le_of_ble_eq_true rfl)) dX3_enter_144 ⟨Nat.le_of_ble_eq_true rfl, Nat.le_of_ble_eq_true rfl⟩) hS (fun q _ h => hFc q h) hFc (fun u t H locs ht hvm hw hB hz1 hk1 hS => ?_)
      obtain ⟨hP, hD, hK⟩ := JOIN (wr := ([((p0a 0), .inr (10, [.int (w17 0 0), .int (w17 0 1), .int (w17 0 2), .ref (p0a 4), .ref (p0a 5), .ref (p0a 6), .ref (p0a 7), .ref (p0a 8), .int (w17 0 8), .int (w17 0 9), .ref (p0a 11), .ref (p0a 12), .ref (p0a 13), .ref (p0a 14), .ref (p0a 15), .ref (p0a 16), .ref (p0a 17), .int (w17 0 17), .ref (p0a 19), .int (w17 0 19)])), ((p0a 4), .inl ((p0k 4), 16, .inl (w17 4))), ((p0a 8), .inl ((p0k 8), 4, .inl (w17 8))), ((p0a 11), .inl ((p0k 11), 8, .inl (w17 11))), ((p0a 12), .inl ((p0k 12), 8, .inl (w17 12))), ((p0a 13), .inl ((p0k 13), 8, .inl (w17 13))), ((p0a 14), .inl ((p0k 14), 8, .inl (w17 14))), ((p0a 15), .inl ((p0k 15), 32, .inl (w17 15))), ((p0a 17), .inl ((p0k 17), (p0n 17), .inl (w17 17))), ((p0a 19), .inl ((p0k 19), 512, .inl (w17 19)))] ++ (oX6 (p0a 5) p0_4a p0_4k p0_4w p0_4l))) hP hD hK [8] [0, 1, 2, 3, 4, 5, 6, 7, 9, 10, 11, 12, 13, 14, 15, 16, 17, 18, 19, 20, 21] [0, 1, 2, 3, 4, 5, 6, 8, 9, 10, 11, 12, 13, 14, 15, 16, 17, 18, 19] rfl rfl (by decide) (by decide) rfl hk1 hFc ht hvm hB
      have hP : va_P (dC, dI) cls ((oX3 (p0a 0) p0a p0k p0n (srw w17 16 o_18)) ++ (oX6 (p0a 5) p0_4a p0_4k p0_4w p0_4l)) H := hP.sub [0, 1, 2, 3, 4, 5, 6, 7, 21, 8, 9, 10, 11, 12, 13, 14, 15, 16, 17, 18, 19, 20] rfl
      have hD : va_D A ((oX3 (p0a 0) p0a p0k p0n (srw w17 16 o_18)) ++ (oX6 (p0a 5) p0_4a p0_4k p0_4w p0_4l)) := hD.sub [0, 1, 2, 3, 4, 5, 6, 7, 21, 8, 9, 10, 11, 12, 13, 14, 15, 16, 17, 18, 19, 20] (by decide) rfl
      have hK : va_K (dC, dI) cls ((tX3 p0k) ++ (tX6 p0_4k)) s := hK.sub [0, 1, 2, 3, 4, 5, 6, 19, 7, 8, 9, 10, 11, 12, 13, 14, 15, 16, 17, 18] rfl
      refine lv_aload_n hx hb dX3_enter_147 rfl (lv_at hl 0 rfl) ?_
      refine va_get (D := (dC, dI)) (ci := 10) (v := .ref (p0a 17)) (C := RX3) (T := TX3) (N := 20) hx hb hts i_X3 hown hK hP 0 rfl rfl 16 (by decide) (hts _ qw745) (fun _ h9 => h9) rfl dX3_enter_148 ?_
      refine lv_iload_n hx hb dX3_enter_151 rfl (lv_at hl 1 rfl) ?_
      refine lv_aload_n hx hb dX3_enter_152 rfl (lv_at hl 0 rfl) ?_
      refine va_get (D := (dC, dI)) (ci := 10) (v := .int ((srw w17 16 o_18) 0 17)) (C := RX3) (T := TX3) (N := 20) hx hb hts i_X3 hown hK hP 0 rfl rfl 17 (by decide) (hts _ qw746) (fun _ h9 => h9) rfl dX3_enter_153 ?_
      refine lv_imul hx hb dX3_enter_156 ?_
      refine lv_iload_n hx hb dX3_enter_157 rfl (lv_at hl 1 rfl) ?_
      refine lv_iconst (v := 1) hx hb dX3_enter_158 (by decide) ?_
      refine lv_iadd hx hb dX3_enter_159 ?_
      refine lv_aload_n hx hb dX3_enter_160 rfl (lv_at hl 0 rfl) ?_
      refine va_get (D := (dC, dI)) (ci := 10) (v := .int ((srw w17 16 o_18) 0 17)) (C := RX3) (T := TX3) (N := 20) hx hb hts i_X3 hown hK hP 0 rfl rfl 17 (by decide) (hts _ qw746) (fun _ h9 => h9) rfl dX3_enter_161 ?_
      refine lv_imul hx hb dX3_enter_164 ?_
      refine lv_iconst (v := 0) hx hb dX3_enter_165 (by decide) ?_
      obtain ⟨o_19, hc_19, hrun⟩ := bnd9 hrun
      have hPc := hP.sub (ws' := [((p0a 17), .inl ((p0k 17), (p0n 17), .inl ((srw w17 16 o_18) 17)))]) [9] rfl
      have hDc := hD.sub (ws' := [((p0a 17), .inl ((p0k 17), (p0n 17), .inl ((srw w17 16 o_18) 17)))]) [9] (by decide) rfl
      have hKc := hK.sub (tys' := [((p0k 17), .int)]) [8] rfl
      have hFc := va_free (wc := [((p0a 17), .inl ((p0k 17), (p0n 17), .inl ((srw w17 16 o_18) 17)))]) hD hS hA [9] rfl
      refine va_callv (va_runS (As := [.ref (p0a 17), .int ((p0w 0 9) * ((srw w17 16 o_18) 0 17)), .int (((p0w 0 9) + 1) * ((srw w17 16 o_18) 0 17)), .int 0]) (rest := []) ⟨hx, hb, hml, hown, hts⟩ (kJ7_fill_fda19 l dC dI (p0a := (p0a 17)) (p0k := (p0k 17)) (p0n := (p0n 17)) (p0f := ((srw w17 16 o_18) 17)) (p1 := ((p0w 0 9) * ((srw w17 16 o_18) 0 17))) (p2 := (((p0w 0 9) + 1) * ((srw w17 16 o_18) 0 17))) (p3 := 0) (sz := _) (o := o_19) (hrun := hc_19)) (va_cwS 4 hts (gi_S qw744 qw252 qw186 (gi_z qw250)) rfl rfl rfl (by decide +kernel) ⟨Nat.le_of_ble_eq_true rfl, Nat.le_of_ble_eq_true rfl⟩) ⟨PRE.blind, PRE.of hE hS hFc hPc hKc hDc⟩ rfl rfl hl.1 rfl (lv_room (Nat.le_of_ble_eq_true rfl)) dX3_enter_166 ⟨Nat.le_of_ble_eq_true rfl, Nat.le_of_ble_eq_true rfl⟩) hS (fun q _ h => hFc q h) hFc (fun u t H locs ht hvm hw hB hz1 hk1 hS => ?_)
      obtain ⟨hP, hD, hK⟩ := JOIN (wr := ([((p0a 0), .inr (10, [.int ((srw w17 16 o_18) 0 0), .int ((srw w17 16 o_18) 0 1), .int ((srw w17 16 o_18) 0 2), .ref (p0a 4), .ref (p0a 5), .ref (p0a 6), .ref (p0a 7), .ref (p0a 8), .int ((srw w17 16 o_18) 0 8), .int ((srw w17 16 o_18) 0 9), .ref (p0a 11), .ref (p0a 12), .ref (p0a 13), .ref (p0a 14), .ref (p0a 15), .ref (p0a 16), .ref (p0a 17), .int ((srw w17 16 o_18) 0 17), .ref (p0a 19), .int ((srw w17 16 o_18) 0 19)])), ((p0a 4), .inl ((p0k 4), 16, .inl ((srw w17 16 o_18) 4))), ((p0a 8), .inl ((p0k 8), 4, .inl ((srw w17 16 o_18) 8))), ((p0a 11), .inl ((p0k 11), 8, .inl ((srw w17 16 o_18) 11))), ((p0a 12), .inl ((p0k 12), 8, .inl ((srw w17 16 o_18) 12))), ((p0a 13), .inl ((p0k 13), 8, .inl ((srw w17 16 o_18) 13))), ((p0a 14), .inl ((p0k 14), 8, .inl ((srw w17 16 o_18) 14))), ((p0a 15), .inl ((p0k 15), 32, .inl ((srw w17 16 o_18) 15))), ((p0a 16), .inl ((p0k 16), 2560, .inl ((srw w17 16 o_18) 16))), ((p0a 19), .inl ((p0k 19), 512, .inl ((srw w17 16 o_18) 19)))] ++ (oX6 (p0a 5) p0_4a p0_4k p0_4w p0_4l))) hP hD hK [9] [0, 1, 2, 3, 4, 5, 6, 7, 8, 10, 11, 12, 13, 14, 15, 16, 17, 18, 19, 20, 21] [0, 1, 2, 3, 4, 5, 6, 7, 9, 10, 11, 12, 13, 14, 15, 16, 17, 18, 19] rfl rfl (by decide) (by decide) rfl hk1 hFc ht hvm hB
      have hP : va_P (dC, dI) cls ((oX3 (p0a 0) p0a p0k p0n (srw (srw w17 16 o_18) 17 o_19)) ++ (oX6 (p0a 5) p0_4a p0_4k p0_4w p0_4l)) H := hP.sub [0, 1, 2, 3, 4, 5, 6, 7, 8, 21, 9, 10, 11, 12, 13, 14, 15, 16, 17, 18, 19, 20] rfl
      have hD : va_D A ((oX3 (p0a 0) p0a p0k p0n (srw (srw w17 16 o_18) 17 o_19)) ++ (oX6 (p0a 5) p0_4a p0_4k p0_4w p0_4l)) := hD.sub [0, 1, 2, 3, 4, 5, 6, 7, 8, 21, 9, 10, 11, 12, 13, 14, 15, 16, 17, 18, 19, 20] (by decide) rfl
      have hK : va_K (dC, dI) cls ((tX3 p0k) ++ (tX6 p0_4k)) s := hK.sub [0, 1, 2, 3, 4, 5, 6, 7, 19, 8, 9, 10, 11, 12, 13, 14, 15, 16, 17, 18] rfl
      have ho9 : (srw (srw w17 16 o_18) 17 o_19) = o := Option.some.inj hrun
      have hP9 : va_P (dC, dI) cls ((oX3 (p0a 0) p0a p0k p0n o) ++ (oX6 (p0a 5) p0_4a p0_4k p0_4w p0_4l)) H := by first | exact hP | (rw [← ho9]; exact hP)
      have hD9 : va_D A ((oX3 (p0a 0) p0a p0k p0n o) ++ (oX6 (p0a 5) p0_4a p0_4k p0_4w p0_4l)) := by first | exact hD | (rw [← ho9]; exact hD)
      subst hQ
      exact W.vret hx hb hr (fun t ht hW => ⟨⟨(), rfl, trivial, ⟨by rw [ht]; exact hP9, va_K.moved hW.alike hK, hD9⟩⟩, hS.F ht⟩) hS.2.2 dX3_enter_169
    rcases br9 hrun with ⟨hc20, hrun⟩ | ⟨hc20, hrun⟩
    · refine lv_if_ne (tgt := 115) hx hb dX3_enter_100 (by decide) (fun c => absurd hc20 c) (fun _ => ?_)
      refine lv_aload_n hx hb dX3_enter_103 rfl (lv_at hl 0 rfl) ?_
      refine va_get (D := (dC, dI)) (ci := 10) (v := .ref (p0a 5)) (C := RX3) (T := TX3) (N := 20) hx hb hts i_X3 hown hK hP 0 rfl rfl 4 (by decide) (hts _ qw733) (fun _ h9 => h9) rfl dX3_enter_104 ?_
      refine va_get (D := (dC, dI)) (ci := 2) (v := .ref (p0_4a 6)) (C := RX6) (T := TX6) (N := 13) hx hb hts i_X6 hown hK hP 11 rfl rfl 5 (by decide) (hts _ qw743) (fun _ h9 => h9) rfl dX3_enter_107 ?_
      refine lv_iload_n hx hb dX3_enter_110 rfl (lv_at hl 2 rfl) ?_
      obtain ⟨hq21, hrun⟩ := chk9 hrun
      refine va_iald hx hb hK hP 16 14 rfl rfl (ixb_in hq21) dX3_enter_111 ?_
      refine lv_goto (tgt := 126) hx hb dX3_enter_112 (by decide) ?_
      exact J126 (p0_4w 6 (nn p2)) _ _ _ hrun hP hD hS (lv_sub hl [0, 3] rfl)
    · refine lv_if_ne (tgt := 115) hx hb dX3_enter_100 (by decide) (fun _ => ?_) (fun c => absurd c hc20)
      refine lv_iload_n hx hb dX3_enter_115 rfl (lv_at hl 1 rfl) ?_
      refine lv_iconst (v := 1) hx hb dX3_enter_116 (by decide) ?_
      rcases br9 hrun with ⟨hc22, hrun⟩ | ⟨hc22, hrun⟩
      · refine lv_icmp_ne (tgt := 125) hx hb dX3_enter_117 (by decide) (fun c => absurd hc22 c) (fun _ => ?_)
        refine lv_bipush (v := (-2)) hx hb dX3_enter_120 (by decide) ?_
        refine lv_goto (tgt := 126) hx hb dX3_enter_122 (by decide) ?_
        exact J126 (-2) _ _ _ hrun hP hD hS (lv_sub hl [0, 3] rfl)
      · refine lv_icmp_ne (tgt := 125) hx hb dX3_enter_117 (by decide) (fun _ => ?_) (fun c => absurd c hc22)
        refine lv_iconst (v := 0) hx hb dX3_enter_125 (by decide) ?_
        exact J126 0 _ _ _ hrun hP hD hS (lv_sub hl [0, 3] rfl)
def fX3_tick (p0w : ST) (p1 : Int32) : Option (Int32 × ST) := (if ((p0w 0 2) + p1) ≤ 5000 then (lt9 (upw p0w 0 2 ((p0w 0 2) + p1)) fun (w2 : ST) => some (1, w2)) else (lt9 (upw p0w 0 2 5000) fun (w3 : ST) => ((fX3_stop w3 2).bind fun (o_4 : ST) => some (0, o_4))))
set_option maxHeartbeats 16000000 in
set_option maxRecDepth 100000 in
theorem kX3_tick {zs : Nat × Nat} (l : Launch) (dC : Nat → ClassId) (dI : Nat → Nat → Nat) (p0a : Nat → Nat) (p0k : Nat → ClassId) (p0n : Nat → Nat) (p0w : ST) (p1 : Int32) (sz : Nat) (o : Int32 × ST) (hrun : fX3_tick p0w p1 = some o) : Met l yX3_tick (wz yX3_tick cX3_tick 2 (Option.some Jvm.ClassFile.FieldType.boolean)) ({ frames := 1, cells := 0, slots := 0, locals := 21 } : Room) (va_Pc [.ref (p0a 0), .int p1] (PRE zs dC dI (oX3 (p0a 0) p0a p0k p0n p0w) (tX3 p0k) sz)) (va_Qi (fun (r : Int32) (_ : Unit) => r = (o.1)) (fun _ t => POST dC dI (oX3 (p0a 0) p0a p0k p0n (o.2)) (tX3 p0k) (va_A (oX3 (p0a 0) p0a p0k p0n p0w) sz) t) (va_A (oX3 (p0a 0) p0a p0k p0n p0w) sz)) 0 0 (va_A (oX3 (p0a 0) p0a p0k p0n p0w) sz) := by
  refine Met.ofW (cc := cX3_tick) (maxL := 2) (ret := (Option.some Jvm.ClassFile.FieldType.boolean)) (by decide) rfl ?_
  intro p e s m args below meth c s₁ B hml hv
  obtain ⟨rfl, hsz, hP, hK, hD0, hE⟩ := hv
  have hx := B.exec
  have hb := B.bytes
  have hr := B.returns
  have hts0 := atoms_spec (ws := wz yX3_tick cX3_tick 2 (Option.some Jvm.ClassFile.FieldType.boolean)) B.pre
  have hts : ∀ w ∈ gw, w.before _ s = true := fun w h => hts0 w (List.mem_cons_of_mem _ h)
  have hown : s.vm.findClass RX3 = some m.cls := findClass_of_methodNamed B.named
  have hlocks := B.notSynchronized
  subst hsz
  have hD := hD0.self (sz := s.heap.size)
  refine gQ9 ?_
  intro Q hQ
  generalize hAe : va_A (oX3 (p0a 0) p0a p0k p0n p0w) s.heap.size = A at hD hE hQ
  have hA : ∀ q : Nat, s.heap.size ≤ q → A q := fun q h => by rw [← hAe]; exact Or.inr h
  have hS : va_S A s.heap s.heap [] := va_S.rf
  have hP : va_P (dC, dI) cls (oX3 (p0a 0) p0a p0k p0n p0w) s.heap := hP
  have hl := lv_entry ([.ref (p0a 0), .int p1]) (n := 2) (Nat.le_of_ble_eq_true rfl)
  rw [lg_entry_eq]
  generalize (lg_sl ([.ref (p0a 0), .int p1]) ++ List.replicate (2 - (lg_sl ([.ref (p0a 0), .int p1])).length) Slot.unset).toArray = ls at hl ⊢
  have hl : lv_has ls 2 [(0, .ref (p0a 0)), (1, .int p1)] := hl
  obtain ⟨H, hHe⟩ : ∃ H, H = s.heap := ⟨_, rfl⟩
  obtain ⟨locs, hle⟩ : ∃ locs : List Loc, locs = [] := ⟨_, rfl⟩
  rw [← hHe] at hP
  have hS : va_S A s.heap H locs := by rw [hHe, hle]; exact hS
  show W p l e ({ frames := 1, cells := 0, slots := 0, locals := 21 } : Room) s m ([.ref (p0a 0), .int p1] : List Value).toArray below meth c s.heap [] 0 0 Q (F0 m 0 ls [])
  rw [← hle]
  refine wH9 hHe ?_
  unfold fX3_tick at hrun
  refine lv_aload_n hx hb dX3_tick_0 rfl (lv_at hl 0 rfl) ?_
  refine va_get (D := (dC, dI)) (ci := 10) (v := .int (p0w 0 2)) (C := RX3) (T := TX3) (N := 20) hx hb hts i_X3 hown hK hP 0 rfl rfl 2 (by decide) (hts _ qw713) (fun _ h9 => h9) rfl dX3_tick_1 ?_
  refine lv_iload_n hx hb dX3_tick_4 rfl (lv_at hl 1 rfl) ?_
  refine lv_iadd hx hb dX3_tick_5 ?_
  refine lv_sipush (v := 5000) hx hb dX3_tick_6 (by decide) ?_
  rcases br9 hrun with ⟨hc1, hrun⟩ | ⟨hc1, hrun⟩
  · refine lv_icmp_le (tgt := 26) hx hb dX3_tick_9 (by decide) (fun _ => ?_) (fun c => absurd hc1 c)
    refine lv_aload_n hx hb dX3_tick_26 rfl (lv_at hl 0 rfl) ?_
    refine lv_dup hx hb dX3_tick_27 rfl ?_
    refine va_get (D := (dC, dI)) (ci := 10) (v := .int (p0w 0 2)) (C := RX3) (T := TX3) (N := 20) hx hb hts i_X3 hown hK hP 0 rfl rfl 2 (by decide) (hts _ qw713) (fun _ h9 => h9) rfl dX3_tick_28 ?_
    refine lv_iload_n hx hb dX3_tick_31 rfl (lv_at hl 1 rfl) ?_
    refine lv_iadd hx hb dX3_tick_32 ?_
    refine va_put (D := (dC, dI)) (ci := 10) (v := .int ((p0w 0 2) + p1)) (ty := .int) (C := RX3) (T := TX3) (N := 20) hx hb hts i_X3 tyX3 tyX3_ok nmX3 hown hK hP hD hS 0 rfl rfl 2 (by decide) (hts _ qw713) (fun _ h9 => h9) rfl (by decide +kernel) rfl rfl (Nat.le_of_ble_eq_true rfl) dX3_tick_33 (fun H locs hP hD hS => ?_)
    have hP : va_P (dC, dI) cls (oX3 (p0a 0) p0a p0k p0n (upw p0w 0 2 ((p0w 0 2) + p1))) H := hP
    have hD : va_D A (oX3 (p0a 0) p0a p0k p0n (upw p0w 0 2 ((p0w 0 2) + p1))) := hD
    obtain ⟨w2, ew2, hrun⟩ := let9 hrun
    rw [← ew2] at hP hD
    refine lv_iconst (v := 1) hx hb dX3_tick_36 (by decide) ?_
    have ho9 : (1, w2) = o := Option.some.inj hrun
    have hP9 : va_P (dC, dI) cls (oX3 (p0a 0) p0a p0k p0n (o.2)) H := by first | exact hP | (rw [← ho9]; exact hP)
    have hD9 : va_D A (oX3 (p0a 0) p0a p0k p0n (o.2)) := by first | exact hD | (rw [← ho9]; exact hD)
    subst hQ
    exact W.zret (v := 1) hx hb hr (by decide) (fun t ht hW => ⟨⟨1, (), rfl, (by rw [← ho9]), ⟨by rw [ht]; exact hP9, va_K.moved hW.alike hK, hD9⟩⟩, hS.F ht⟩) hS.2.2 dX3_tick_37
  · refine lv_icmp_le (tgt := 26) hx hb dX3_tick_9 (by decide) (fun c => absurd c hc1) (fun _ => ?_)
    refine lv_aload_n hx hb dX3_tick_12 rfl (lv_at hl 0 rfl) ?_
    refine lv_sipush (v := 5000) hx hb dX3_tick_13 (by decide) ?_
    refine va_put (D := (dC, dI)) (ci := 10) (v := .int 5000) (ty := .int) (C := RX3) (T := TX3) (N := 20) hx hb hts i_X3 tyX3 tyX3_ok nmX3 hown hK hP hD hS 0 rfl rfl 2 (by decide) (hts _ qw713) (fun _ h9 => h9) rfl (by decide +kernel) rfl rfl (Nat.le_of_ble_eq_true rfl) dX3_tick_16 (fun H locs hP hD hS => ?_)
    have hP : va_P (dC, dI) cls (oX3 (p0a 0) p0a p0k p0n (upw p0w 0 2 5000)) H := hP
    have hD : va_D A (oX3 (p0a 0) p0a p0k p0n (upw p0w 0 2 5000)) := hD
    obtain ⟨w3, ew3, hrun⟩ := let9 hrun
    rw [← ew3] at hP hD
    refine lv_aload_n hx hb dX3_tick_19 rfl (lv_at hl 0 rfl) ?_
    refine lv_iconst (v := 2) hx hb dX3_tick_20 (by decide) ?_
    obtain ⟨o_4, hc_4, hrun⟩ := bnd9 hrun
    have hPc := hP.sub (ws' := (oX3 (p0a 0) p0a p0k p0n w3)) [0, 1, 2, 3, 4, 5, 6, 7, 8, 9, 10] rfl
    have hDc := hD.sub (ws' := (oX3 (p0a 0) p0a p0k p0n w3)) [0, 1, 2, 3, 4, 5, 6, 7, 8, 9, 10] (by decide) rfl
    have hKc := hK.sub (tys' := (tX3 p0k)) [0, 1, 2, 3, 4, 5, 6, 7, 8, 9] rfl
    have hFc := va_free (wc := (oX3 (p0a 0) p0a p0k p0n w3)) hD hS hA [0, 1, 2, 3, 4, 5, 6, 7, 8, 9, 10] rfl
    refine va_callv (va_runV (As := [.int 2]) (rest := []) ⟨hx, hb, hml, hown, hts⟩ (kX3_stop l dC dI (p0a := (st0 (p0a 0) p0a)) (p0k := p0k) (p0n := p0n) (p0w := w3) (p1 := 2) (sz := _) (o := o_4) (hrun := hc_4)) (cwV 1 hts (gi_V qw719 qw720 qw721 qw722 (gi_z qw718)) rfl rfl rfl (by decide +kernel) ⟨Nat.le_of_ble_eq_true rfl, Nat.le_of_ble_eq_true rfl⟩) ⟨PRE.blind, va_recv hKc hPc (ci := 10) (q0 := 0) rfl rfl, PRE.of hE hS hFc hPc hKc hDc⟩ rfl rfl hl.1 rfl (lv_room (Nat.le_of_ble_eq_true rfl)) dX3_tick_21 ⟨Nat.le_of_ble_eq_true rfl, Nat.le_of_ble_eq_true rfl⟩) hS (fun q _ h => hFc q h) hFc (fun u t H locs ht hvm hw hB hz1 hk1 hS => ?_)
    obtain ⟨hP, hD, hK⟩ := JOIN (wr := ([] : va_W)) hP hD hK [0, 1, 2, 3, 4, 5, 6, 7, 8, 9, 10] [] [] rfl rfl (by decide) (by decide) rfl hk1 hFc ht hvm hB
    have hP : va_P (dC, dI) cls (oX3 (p0a 0) p0a p0k p0n o_4) H := hP.sub [0, 1, 2, 3, 4, 5, 6, 7, 8, 9, 10] rfl
    have hD : va_D A (oX3 (p0a 0) p0a p0k p0n o_4) := hD.sub [0, 1, 2, 3, 4, 5, 6, 7, 8, 9, 10] (by decide) rfl
    have hK : va_K (dC, dI) cls (tX3 p0k) s := hK.sub [0, 1, 2, 3, 4, 5, 6, 7, 8, 9] rfl
    refine lv_iconst (v := 0) hx hb dX3_tick_24 (by decide) ?_
    have ho9 : (0, o_4) = o := Option.some.inj hrun
    have hP9 : va_P (dC, dI) cls (oX3 (p0a 0) p0a p0k p0n (o.2)) H := by first | exact hP | (rw [← ho9]; exact hP)
    have hD9 : va_D A (oX3 (p0a 0) p0a p0k p0n (o.2)) := by first | exact hD | (rw [← ho9]; exact hD)
    subst hQ
    exact W.zret (v := 0) hx hb hr (by decide) (fun t ht hW => ⟨⟨0, (), rfl, (by rw [← ho9]), ⟨by rw [ht]; exact hP9, va_K.moved hW.alike hK, hD9⟩⟩, hS.F ht⟩) hS.2.2 dX3_tick_25
def fX3_enterBlock_L26 (p1n : Nat → Nat) (p1w : ST) (p2 : Int32) : Nat → Int32 → Int32 → ST → Option (Sum ST ST)
  | 0 => fun _ _ _ => none
  | n_26 + 1 => fun v5_26 v6_26 p0w_26 => (if v6_26 < 0 then some (Sum.inr p0w_26) else ((fX3_tick p0w_26 1).bind fun (o_4 : Int32 × ST) => (if (o_4.1) = 0 then some (Sum.inl (o_4.2)) else (if ixb p2 8 = true then ((fX1_take p1n p1w v6_26 (((o_4.2) 14) (nn p2))).bind fun (o_8 : Int32) => (if ixb ((p2 * 320) + o_8) 2560 = true then (if ixb v5_26 512 = true then (lt9 (upw (o_4.2) 19 (nn v5_26) (((o_4.2) 16) (nn ((p2 * 320) + o_8)))) fun (w12 : ST) => (if ixb v6_26 (p1n 20) = true then ((fX3_enterBlock_L26 p1n p1w p2 n_26) (v5_26 + 1) (p1w 20 (nn v6_26)) w12) else none)) else none) else none)) else none))))
def fX3_enterBlock_L93 (p1n : Nat → Nat) (p1w : ST) (p2 : Int32) : Nat → Int32 → Int32 → ST → Option ST
  | 0 => fun _ _ _ => none
  | n_93 + 1 => fun v5_93 v6_93 p0w_93 => (if v6_93 < 0 then some p0w_93 else (if ixb v6_93 (p1n 19) = true then (if ixb v5_93 512 = true then (if ixb ((p2 * 320) + (p1w 19 (nn v6_93))) 2560 = true then (lt9 (upw p0w_93 16 (nn ((p2 * 320) + (p1w 19 (nn v6_93)))) (p0w_93 19 (nn v5_93))) fun (w19 : ST) => (if ixb v6_93 (p1n 20) = true then ((fX3_enterBlock_L93 p1n p1w p2 n_93) (v5_93 + 1) (p1w 20 (nn v6_93)) w19) else none)) else none) else none) else none))
def fX3_enterBlock (p0w : ST) (p1n : Nat → Nat) (p1w : ST) (p2 : Int32) : Option ST := (if ixb p2 8 = true then (if ixb (p0w 13 (nn p2)) 60 = true then ((fX3_enterBlock_L26 p1n p1w p2 NF 0 (p1w 6 (nn (p0w 13 (nn p2)))) p0w).bind fun (o26 : (Sum ST ST)) => Sum.elim (fun r => some r) (fun (t26 : ST) => (if ixb (p0w 13 (nn p2)) 60 = true then ((fX3_enterBlock_L93 p1n p1w p2 NF 0 (p1w 6 (nn (p0w 13 (nn p2)))) t26).bind fun (o93 : ST) => (if ixb (p0w 13 (nn p2)) 60 = true then (if ixb p2 8 = true then (lt9 (upw o93 12 (nn p2) (p1w 4 (nn (p0w 13 (nn p2))))) fun (w23 : ST) => some w23) else none) else none)) else none)) o26) else none) else none)
set_option maxHeartbeats 16000000 in
set_option maxRecDepth 100000 in
theorem kX3_enterBlock {zs : Nat × Nat} (l : Launch) (dC : Nat → ClassId) (dI : Nat → Nat → Nat) (p0a : Nat → Nat) (p0k : Nat → ClassId) (p0n : Nat → Nat) (p0w : ST) (p1a : Nat → Nat) (p1k : Nat → ClassId) (p1n : Nat → Nat) (p1w : ST) (p1l : SL) (p2 : Int32) (sz : Nat) (o : ST) (hrun : fX3_enterBlock p0w p1n p1w p2 = some o) : Met l yX3_enterBlock (wz yX3_enterBlock cX3_enterBlock 7 (Option.none : Option Jvm.ClassFile.FieldType)) ({ frames := 2, cells := 0, slots := 0, locals := 42 } : Room) (va_Pc [.ref (p0a 0), .ref (p1a 0), .int p2] (PRE zs dC dI ((oX3 (p0a 0) p0a p0k p0n p0w) ++ (oX1 (p1a 0) p1a p1k p1n p1w p1l)) ((tX3 p0k) ++ (tX1 p1k)) sz)) (va_Qv (fun (_ : Unit) => True) (fun _ t => POST dC dI ((oX3 (p0a 0) p0a p0k p0n o) ++ (oX1 (p1a 0) p1a p1k p1n p1w p1l)) ((tX3 p0k) ++ (tX1 p1k)) (va_A ((oX3 (p0a 0) p0a p0k p0n p0w) ++ (oX1 (p1a 0) p1a p1k p1n p1w p1l)) sz) t) (va_A ((oX3 (p0a 0) p0a p0k p0n p0w) ++ (oX1 (p1a 0) p1a p1k p1n p1w p1l)) sz)) 0 0 (va_A ((oX3 (p0a 0) p0a p0k p0n p0w) ++ (oX1 (p1a 0) p1a p1k p1n p1w p1l)) sz) := by
  refine Met.ofW (cc := cX3_enterBlock) (maxL := 7) (ret := (Option.none : Option Jvm.ClassFile.FieldType)) (by decide) rfl ?_
  intro p e s m args below meth c s₁ B hml hv
  obtain ⟨rfl, hsz, hP, hK, hD0, hE⟩ := hv
  have hx := B.exec
  have hb := B.bytes
  have hr := B.returns
  have hts0 := atoms_spec (ws := wz yX3_enterBlock cX3_enterBlock 7 (Option.none : Option Jvm.ClassFile.FieldType)) B.pre
  have hts : ∀ w ∈ gw, w.before _ s = true := fun w h => hts0 w (List.mem_cons_of_mem _ h)
  have hown : s.vm.findClass RX3 = some m.cls := findClass_of_methodNamed B.named
  have hlocks := B.notSynchronized
  subst hsz
  have hD := hD0.self (sz := s.heap.size)
  refine gQ9 ?_
  intro Q hQ
  generalize hAe : va_A ((oX3 (p0a 0) p0a p0k p0n p0w) ++ (oX1 (p1a 0) p1a p1k p1n p1w p1l)) s.heap.size = A at hD hE hQ
  have hA : ∀ q : Nat, s.heap.size ≤ q → A q := fun q h => by rw [← hAe]; exact Or.inr h
  have hS : va_S A s.heap s.heap [] := va_S.rf
  have hP : va_P (dC, dI) cls ((oX3 (p0a 0) p0a p0k p0n p0w) ++ (oX1 (p1a 0) p1a p1k p1n p1w p1l)) s.heap := hP
  have hl := lv_entry ([.ref (p0a 0), .ref (p1a 0), .int p2]) (n := 7) (Nat.le_of_ble_eq_true rfl)
  rw [lg_entry_eq]
  generalize (lg_sl ([.ref (p0a 0), .ref (p1a 0), .int p2]) ++ List.replicate (7 - (lg_sl ([.ref (p0a 0), .ref (p1a 0), .int p2])).length) Slot.unset).toArray = ls at hl ⊢
  have hl : lv_has ls 7 [(0, .ref (p0a 0)), (1, .ref (p1a 0)), (2, .int p2)] := hl
  obtain ⟨H, hHe⟩ : ∃ H, H = s.heap := ⟨_, rfl⟩
  obtain ⟨locs, hle⟩ : ∃ locs : List Loc, locs = [] := ⟨_, rfl⟩
  rw [← hHe] at hP
  have hS : va_S A s.heap H locs := by rw [hHe, hle]; exact hS
  show W p l e ({ frames := 2, cells := 0, slots := 0, locals := 42 } : Room) s m ([.ref (p0a 0), .ref (p1a 0), .int p2] : List Value).toArray below meth c s.heap [] 0 0 Q (F0 m 0 ls [])
  rw [← hle]
  refine wH9 hHe ?_
  unfold fX3_enterBlock at hrun
  refine lv_iload_n hx hb dX3_enterBlock_0 rfl (lv_at hl 2 rfl) ?_
  refine lv_sipush (v := 320) hx hb dX3_enterBlock_1 (by decide) ?_
  refine lv_imul hx hb dX3_enterBlock_4 ?_
  refine lv_istore_n (lv' := [(3, .int (p2 * 320)), (0, .ref (p0a 0)), (1, .ref (p1a 0)), (2, .int p2)]) hx hb dX3_enterBlock_5 rfl hl (by decide) rfl (fun ls hl => ?_)
  refine lv_aload_n hx hb dX3_enterBlock_6 rfl (lv_at hl 1 rfl) ?_
  refine va_get (D := (dC, dI)) (ci := 10) (v := .ref (p0a 13)) (C := RX3) (T := TX3) (N := 20) hx hb hts i_X3 hown hK hP 0 rfl rfl 12 (by decide) (hts _ qw723) (fun _ h9 => h9) rfl dX3_enterBlock_7 ?_
  refine lv_iload_n hx hb dX3_enterBlock_10 rfl (lv_at hl 3 rfl) ?_
  obtain ⟨hq1, hrun⟩ := chk9 hrun
  refine va_iald hx hb hK hP 5 4 rfl rfl (ixb_in hq1) dX3_enterBlock_11 ?_
  refine lv_istore (lv' := [(4, .int (p0w 13 (nn p2))), (3, .int (p2 * 320)), (0, .ref (p0a 0)), (1, .ref (p1a 0)), (2, .int p2)]) hx hb dX3_enterBlock_12 hl (by decide) rfl (fun ls hl => ?_)
  refine lv_iconst (v := 0) hx hb dX3_enterBlock_14 (by decide) ?_
  refine lv_istore (lv' := [(5, .int 0), (4, .int (p0w 13 (nn p2))), (3, .int (p2 * 320)), (0, .ref (p0a 0)), (1, .ref (p1a 0)), (2, .int p2)]) hx hb dX3_enterBlock_15 hl (by decide) rfl (fun ls hl => ?_)
  refine lv_aload_n hx hb dX3_enterBlock_17 rfl (lv_at hl 4 rfl) ?_
  refine va_get (D := (dC, dI)) (ci := 4) (v := .ref (p1a 6)) (C := RX1) (T := TX1) (N := 21) hx hb hts i_X1 hown hK hP 11 rfl rfl 5 (by decide) (hts _ qw747) (fun _ h9 => h9) rfl dX3_enterBlock_18 ?_
  refine lv_iload hx hb dX3_enterBlock_21 (lv_at hl 1 rfl) ?_
  obtain ⟨hq2, hrun⟩ := chk9 hrun
  refine va_iald hx hb hK hP 14 12 rfl rfl (ixb_in hq2) dX3_enterBlock_23 ?_
  refine lv_istore (lv' := [(6, .int (p1w 6 (nn (p0w 13 (nn p2))))), (5, .int 0), (4, .int (p0w 13 (nn p2))), (3, .int (p2 * 320)), (0, .ref (p0a 0)), (1, .ref (p1a 0)), (2, .int p2)]) hx hb dX3_enterBlock_24 hl (by decide) rfl (fun ls hl => ?_)
  have L26 : ∀ (n_26 : Nat) (v5_26 : Int32) (v6_26 : Int32) (p0w_26 : ST) (o26 : (Sum ST ST)) (H : Heap) (locs : List Loc) (ls : Array Slot), (fX3_enterBlock_L26 p1n p1w p2 n_26) v5_26 v6_26 p0w_26 = some o26 → va_P (dC, dI) cls ((oX3 (p0a 0) p0a p0k p0n p0w_26) ++ (oX1 (p1a 0) p1a p1k p1n p1w p1l)) H → va_D A ((oX3 (p0a 0) p0a p0k p0n p0w_26) ++ (oX1 (p1a 0) p1a p1k p1n p1w p1l)) → va_S A s.heap H locs → lv_has ls 7 [(0, .ref (p0a 0)), (1, .ref (p1a 0)), (2, .int p2), (3, .int (p2 * 320)), (4, .int (p0w 13 (nn p2))), (5, .int v5_26), (6, .int v6_26)] → (∀ r, o26 = Sum.inl r → r = o) → (∀ (t26 : ST), o26 = Sum.inr t26 → ∀ (H : Heap) (locs : List Loc) (ls : Array Slot), va_P (dC, dI) cls ((oX3 (p0a 0) p0a p0k p0n t26) ++ (oX1 (p1a 0) p1a p1k p1n p1w p1l)) H → va_D A ((oX3 (p0a 0) p0a p0k p0n t26) ++ (oX1 (p1a 0) p1a p1k p1n p1w p1l)) → va_S A s.heap H locs → lv_has ls 7 [(0, .ref (p0a 0)), (1, .ref (p1a 0)), (2, .int p2), (3, .int (p2 * 320)), (4, .int (p0w 13 (nn p2)))] → W p l e ({ frames := 2, cells := 0, slots := 0, locals := 42 } : Room) s m ([.ref (p0a 0), .ref (p1a 0), .int p2] : List Value).toArray below meth c H locs 0 0 Q (F0 m 81 ls [])) → W p l e ({ frames := 2, cells := 0, slots := 0, locals := 42 } : Room) s m ([.ref (p0a 0), .ref (p1a 0), .int p2] : List Value).toArray below meth c H locs 0 0 Q (F0 m 26 ls []) := by
    intro n_26
    induction n_26 with
    | zero => intro v5_26 v6_26 p0w_26 o26 H locs ls hrun; exact (no9 rfl hrun).elim
    | succ n_26 IH26 =>
      intro v5_26 v6_26 p0w_26 o26 H locs ls hrun hP hD hS hl hr26 hk26
      unfold fX3_enterBlock_L26 at hrun
      refine lv_iload hx hb dX3_enterBlock_26 (lv_at hl 6 rfl) ?_
      rcases br9 hrun with ⟨hc3, hrun⟩ | ⟨hc3, hrun⟩
      · refine lv_if_lt (tgt := 81) hx hb dX3_enterBlock_28 (by decide) (fun _ => ?_) (fun c => absurd hc3 c)
        obtain rfl := (Option.some.inj hrun)
        exact hk26 _ rfl _ _ _ hP hD hS (lv_sub hl [0, 1, 2, 3, 4] rfl)
      · refine lv_if_lt (tgt := 81) hx hb dX3_enterBlock_28 (by decide) (fun c => absurd c hc3) (fun _ => ?_)
        refine lv_aload_n hx hb dX3_enterBlock_31 rfl (lv_at hl 0 rfl) ?_
        refine lv_iconst (v := 1) hx hb dX3_enterBlock_32 (by decide) ?_
        obtain ⟨o_4, hc_4, hrun⟩ := bnd9 hrun
        have hPc := hP.sub (ws' := (oX3 (p0a 0) p0a p0k p0n p0w_26)) [0, 1, 2, 3, 4, 5, 6, 7, 8, 9, 10] rfl
        have hDc := hD.sub (ws' := (oX3 (p0a 0) p0a p0k p0n p0w_26)) [0, 1, 2, 3, 4, 5, 6, 7, 8, 9, 10] (by decide) rfl
        have hKc := hK.sub (tys' := (tX3 p0k)) [0, 1, 2, 3, 4, 5, 6, 7, 8, 9] rfl
        have hFc := va_free (wc := (oX3 (p0a 0) p0a p0k p0n p0w_26)) hD hS hA [0, 1, 2, 3, 4, 5, 6, 7, 8, 9, 10] rfl
        refine va_calli (va_runV (As := [.int 1]) (rest := []) ⟨hx, hb, hml, hown, hts⟩ (kX3_tick l dC dI (p0a := (st0 (p0a 0) p0a)) (p0k := p0k) (p0n := p0n) (p0w := p0w_26) (p1 := 1) (sz := _) (o := o_4) (hrun := hc_4)) (cwV 1 hts (gi_V qw749 qw750 qw751 qw722 (gi_z qw748)) rfl rfl rfl (by decide +kernel) ⟨Nat.le_of_ble_eq_true rfl, Nat.le_of_ble_eq_true rfl⟩) ⟨PRE.blind, va_recv hKc hPc (ci := 10) (q0 := 0) rfl rfl, PRE.of hE hS hFc hPc hKc hDc⟩ rfl rfl hl.1 rfl (lv_room (Nat.le_of_ble_eq_true rfl)) dX3_enterBlock_33 ⟨Nat.le_of_ble_eq_true rfl, Nat.le_of_ble_eq_true rfl⟩) hS (fun q _ h => hFc q h) hFc (fun r5 u t H locs ht hvm hw hB hz1 hk1 hS => ?_)
        obtain ⟨hP, hD, hK⟩ := JOIN (wr := (oX1 (p1a 0) p1a p1k p1n p1w p1l)) hP hD hK [0, 1, 2, 3, 4, 5, 6, 7, 8, 9, 10] [11, 12, 13, 14, 15, 16, 17, 18, 19, 20, 21, 22, 23, 24, 25, 26, 27, 28] [10, 11, 12, 13, 14, 15, 16, 17, 18, 19, 20, 21, 22, 23, 24, 25, 26] rfl rfl (by decide) (by decide) rfl hk1 hFc ht hvm hB
        have hP : va_P (dC, dI) cls ((oX3 (p0a 0) p0a p0k p0n (o_4.2)) ++ (oX1 (p1a 0) p1a p1k p1n p1w p1l)) H := hP.sub [18, 19, 20, 21, 22, 23, 24, 25, 26, 27, 28, 0, 1, 2, 3, 4, 5, 6, 7, 8, 9, 10, 11, 12, 13, 14, 15, 16, 17] rfl
        have hD : va_D A ((oX3 (p0a 0) p0a p0k p0n (o_4.2)) ++ (oX1 (p1a 0) p1a p1k p1n p1w p1l)) := hD.sub [18, 19, 20, 21, 22, 23, 24, 25, 26, 27, 28, 0, 1, 2, 3, 4, 5, 6, 7, 8, 9, 10, 11, 12, 13, 14, 15, 16, 17] (by decide) rfl
        have hK : va_K (dC, dI) cls ((tX3 p0k) ++ (tX1 p1k)) s := hK.sub [17, 18, 19, 20, 21, 22, 23, 24, 25, 26, 0, 1, 2, 3, 4, 5, 6, 7, 8, 9, 10, 11, 12, 13, 14, 15, 16] rfl
        obtain rfl : r5 = (o_4.1) := hw
        rcases br9 hrun with ⟨hc6, hrun⟩ | ⟨hc6, hrun⟩
        · refine lv_if_ne (tgt := 40) hx hb dX3_enterBlock_36 (by decide) (fun c => absurd hc6 c) (fun _ => ?_)
          have ho9 : (o_4.2) = o := hr26 _ (Option.some.inj hrun).symm
          have hP9 : va_P (dC, dI) cls ((oX3 (p0a 0) p0a p0k p0n o) ++ (oX1 (p1a 0) p1a p1k p1n p1w p1l)) H := by first | exact hP | (rw [← ho9]; exact hP)
          have hD9 : va_D A ((oX3 (p0a 0) p0a p0k p0n o) ++ (oX1 (p1a 0) p1a p1k p1n p1w p1l)) := by first | exact hD | (rw [← ho9]; exact hD)
          subst hQ
          exact W.vret hx hb hr (fun t ht hW => ⟨⟨(), rfl, trivial, ⟨by rw [ht]; exact hP9, va_K.moved hW.alike hK, hD9⟩⟩, hS.F ht⟩) hS.2.2 dX3_enterBlock_39
        · refine lv_if_ne (tgt := 40) hx hb dX3_enterBlock_36 (by decide) (fun _ => ?_) (fun c => absurd c hc6)
          refine lv_aload_n hx hb dX3_enterBlock_40 rfl (lv_at hl 0 rfl) ?_
          refine va_get (D := (dC, dI)) (ci := 10) (v := .ref (p0a 19)) (C := RX3) (T := TX3) (N := 20) hx hb hts i_X3 hown hK hP 0 rfl rfl 18 (by decide) (hts _ qw736) (fun _ h9 => h9) rfl dX3_enterBlock_41 ?_
          refine lv_iload hx hb dX3_enterBlock_44 (lv_at hl 5 rfl) ?_
          refine lv_aload_n hx hb dX3_enterBlock_46 rfl (lv_at hl 0 rfl) ?_
          refine va_get (D := (dC, dI)) (ci := 10) (v := .ref (p0a 16)) (C := RX3) (T := TX3) (N := 20) hx hb hts i_X3 hown hK hP 0 rfl rfl 15 (by decide) (hts _ qw725) (fun _ h9 => h9) rfl dX3_enterBlock_47 ?_
          refine lv_iload_n hx hb dX3_enterBlock_50 rfl (lv_at hl 3 rfl) ?_
          refine lv_aload_n hx hb dX3_enterBlock_51 rfl (lv_at hl 1 rfl) ?_
          refine lv_iload hx hb dX3_enterBlock_52 (lv_at hl 6 rfl) ?_
          refine lv_aload_n hx hb dX3_enterBlock_54 rfl (lv_at hl 0 rfl) ?_
          refine va_get (D := (dC, dI)) (ci := 10) (v := .ref (p0a 14)) (C := RX3) (T := TX3) (N := 20) hx hb hts i_X3 hown hK hP 0 rfl rfl 13 (by decide) (hts _ qw741) (fun _ h9 => h9) rfl dX3_enterBlock_55 ?_
          refine lv_iload_n hx hb dX3_enterBlock_58 rfl (lv_at hl 2 rfl) ?_
          obtain ⟨hq7, hrun⟩ := chk9 hrun
          refine va_iald hx hb hK hP 6 5 rfl rfl (ixb_in hq7) dX3_enterBlock_59 ?_
          obtain ⟨o_8, hc_8, hrun⟩ := bnd9 hrun
          have hPc := hP.sub (ws' := (oX1 (p1a 0) p1a p1k p1n p1w p1l)) [11, 12, 13, 14, 15, 16, 17, 18, 19, 20, 21, 22, 23, 24, 25, 26, 27, 28] rfl
          have hDc := hD.sub (ws' := (oX1 (p1a 0) p1a p1k p1n p1w p1l)) [11, 12, 13, 14, 15, 16, 17, 18, 19, 20, 21, 22, 23, 24, 25, 26, 27, 28] (by decide) rfl
          have hKc := hK.sub (tys' := (tX1 p1k)) [10, 11, 12, 13, 14, 15, 16, 17, 18, 19, 20, 21, 22, 23, 24, 25, 26] rfl
          have hFc := va_free (wc := (oX1 (p1a 0) p1a p1k p1n p1w p1l)) hD hS hA [11, 12, 13, 14, 15, 16, 17, 18, 19, 20, 21, 22, 23, 24, 25, 26, 27, 28] rfl
          refine va_calli (va_runV (As := [.int v6_26, .int (((o_4.2) 14) (nn p2))]) (rest := [.int (p2 * 320), .ref (p0a 16), .int v5_26, .ref (p0a 19)]) ⟨hx, hb, hml, hown, hts⟩ (kX1_take l dC dI (p0a := (st0 (p1a 0) p1a)) (p0k := p1k) (p0n := p1n) (p0w := p1w) (p0l := p1l) (p1 := v6_26) (p2 := (((o_4.2) 14) (nn p2))) (sz := _) (o := o_8) (hrun := hc_8)) (cwV 2 hts (gi_V qw752 qw418 qw419 qw113 (gi_z qw416)) rfl rfl rfl (by decide +kernel) ⟨Nat.le_of_ble_eq_true rfl, Nat.le_of_ble_eq_true rfl⟩) ⟨PRE.blind, va_recv hKc hPc (ci := 4) (q0 := 0) rfl rfl, PRE.of hE hS hFc hPc hKc hDc⟩ rfl rfl hl.1 rfl (lv_room (Nat.le_of_ble_eq_true rfl)) dX3_enterBlock_60 ⟨Nat.le_of_ble_eq_true rfl, Nat.le_of_ble_eq_true rfl⟩) hS (fun q _ h => hFc q h) hFc (fun r9 u t H locs ht hvm hw hB hz1 hk1 hS => ?_)
          obtain ⟨hP, hD, hK⟩ := JOIN (wr := (oX3 (p0a 0) p0a p0k p0n (o_4.2))) hP hD hK [11, 12, 13, 14, 15, 16, 17, 18, 19, 20, 21, 22, 23, 24, 25, 26, 27, 28] [0, 1, 2, 3, 4, 5, 6, 7, 8, 9, 10] [0, 1, 2, 3, 4, 5, 6, 7, 8, 9] rfl rfl (by decide) (by decide) rfl hk1 hFc ht hvm hB
          have hP : va_P (dC, dI) cls ((oX3 (p0a 0) p0a p0k p0n (o_4.2)) ++ (oX1 (p1a 0) p1a p1k p1n p1w p1l)) H := hP.sub [0, 1, 2, 3, 4, 5, 6, 7, 8, 9, 10, 11, 12, 13, 14, 15, 16, 17, 18, 19, 20, 21, 22, 23, 24, 25, 26, 27, 28] rfl
          have hD : va_D A ((oX3 (p0a 0) p0a p0k p0n (o_4.2)) ++ (oX1 (p1a 0) p1a p1k p1n p1w p1l)) := hD.sub [0, 1, 2, 3, 4, 5, 6, 7, 8, 9, 10, 11, 12, 13, 14, 15, 16, 17, 18, 19, 20, 21, 22, 23, 24, 25, 26, 27, 28] (by decide) rfl
          have hK : va_K (dC, dI) cls ((tX3 p0k) ++ (tX1 p1k)) s := hK.sub [0, 1, 2, 3, 4, 5, 6, 7, 8, 9, 10, 11, 12, 13, 14, 15, 16, 17, 18, 19, 20, 21, 22, 23, 24, 25, 26] rfl
          obtain rfl : o_8 = r9 := hw.symm
          refine lv_iadd hx hb dX3_enterBlock_63 ?_
          obtain ⟨hq10, hrun⟩ := chk9 hrun
          refine va_iald hx hb hK hP 8 7 rfl rfl (ixb_in hq10) dX3_enterBlock_64 ?_
          obtain ⟨hq11, hrun⟩ := chk9 hrun
          refine va_iast hx hb hK hP hD hS 10 9 rfl rfl (ixb_in hq11) dX3_enterBlock_65 (fun H locs hP hD hS => ?_)
          have hP : va_P (dC, dI) cls ((oX3 (p0a 0) p0a p0k p0n (upw (o_4.2) 19 (nn v5_26) (((o_4.2) 16) (nn ((p2 * 320) + o_8))))) ++ (oX1 (p1a 0) p1a p1k p1n p1w p1l)) H := hP
          have hD : va_D A ((oX3 (p0a 0) p0a p0k p0n (upw (o_4.2) 19 (nn v5_26) (((o_4.2) 16) (nn ((p2 * 320) + o_8))))) ++ (oX1 (p1a 0) p1a p1k p1n p1w p1l)) := hD
          obtain ⟨w12, ew12, hrun⟩ := let9 hrun
          rw [← ew12] at hP hD
          refine lv_iinc (v := (v5_26 + 1)) (lv' := [(5, .int (v5_26 + 1)), (0, .ref (p0a 0)), (1, .ref (p1a 0)), (2, .int p2), (3, .int (p2 * 320)), (4, .int (p0w 13 (nn p2))), (6, .int v6_26)]) hx hb dX3_enterBlock_66 hl (k := 5) rfl rfl (by decide) rfl (fun ls hl => ?_)
          refine lv_aload_n hx hb dX3_enterBlock_69 rfl (lv_at hl 2 rfl) ?_
          refine va_get (D := (dC, dI)) (ci := 4) (v := .ref (p1a 20)) (C := RX1) (T := TX1) (N := 21) hx hb hts i_X1 hown hK hP 11 rfl rfl 19 (by decide) (hts _ qw753) (fun _ h9 => h9) rfl dX3_enterBlock_70 ?_
          refine lv_iload hx hb dX3_enterBlock_73 (lv_at hl 6 rfl) ?_
          obtain ⟨hq13, hrun⟩ := chk9 hrun
          refine va_iald hx hb hK hP 27 25 rfl rfl (ixb_in hq13) dX3_enterBlock_75 ?_
          refine lv_istore (lv' := [(6, .int (p1w 20 (nn v6_26))), (5, .int (v5_26 + 1)), (0, .ref (p0a 0)), (1, .ref (p1a 0)), (2, .int p2), (3, .int (p2 * 320)), (4, .int (p0w 13 (nn p2)))]) hx hb dX3_enterBlock_76 hl (by decide) rfl (fun ls hl => ?_)
          refine lv_goto (tgt := 26) hx hb dX3_enterBlock_78 (by decide) ?_
          exact IH26 (v5_26 + 1) (p1w 20 (nn v6_26)) w12 o26 _ _ _ hrun hP hD hS (lv_sub hl [2, 3, 4, 5, 6, 1, 0] rfl) hr26 hk26
  obtain ⟨o26, hc26, hrun⟩ := bnd9 hrun
  refine L26 NF 0 (p1w 6 (nn (p0w 13 (nn p2)))) p0w o26 _ _ _ hc26 hP hD hS (lv_sub hl [4, 5, 6, 3, 2, 1, 0] rfl) (fun r e9 => by subst e9; exact Option.some.inj hrun) ?_
  intro t26 e9
  subst e9
  replace hrun := el9 hrun
  intro H locs ls hP hD hS hl
  have hl := hl
  refine lv_iconst (v := 0) hx hb dX3_enterBlock_81 (by decide) ?_
  refine lv_istore (lv' := [(5, .int 0), (0, .ref (p0a 0)), (1, .ref (p1a 0)), (2, .int p2), (3, .int (p2 * 320)), (4, .int (p0w 13 (nn p2)))]) hx hb dX3_enterBlock_82 hl (by decide) rfl (fun ls hl => ?_)
  refine lv_aload_n hx hb dX3_enterBlock_84 rfl (lv_at hl 2 rfl) ?_
  refine va_get (D := (dC, dI)) (ci := 4) (v := .ref (p1a 6)) (C := RX1) (T := TX1) (N := 21) hx hb hts i_X1 hown hK hP 11 rfl rfl 5 (by decide) (hts _ qw747) (fun _ h9 => h9) rfl dX3_enterBlock_85 ?_
  refine lv_iload hx hb dX3_enterBlock_88 (lv_at hl 5 rfl) ?_
  obtain ⟨hq14, hrun⟩ := chk9 hrun
  refine va_iald hx hb hK hP 14 12 rfl rfl (ixb_in hq14) dX3_enterBlock_90 ?_
  refine lv_istore (lv' := [(6, .int (p1w 6 (nn (p0w 13 (nn p2))))), (5, .int 0), (0, .ref (p0a 0)), (1, .ref (p1a 0)), (2, .int p2), (3, .int (p2 * 320)), (4, .int (p0w 13 (nn p2)))]) hx hb dX3_enterBlock_91 hl (by decide) rfl (fun ls hl => ?_)
  have L93 : ∀ (n_93 : Nat) (v5_93 : Int32) (v6_93 : Int32) (p0w_93 : ST) (o93 : ST) (H : Heap) (locs : List Loc) (ls : Array Slot), (fX3_enterBlock_L93 p1n p1w p2 n_93) v5_93 v6_93 p0w_93 = some o93 → va_P (dC, dI) cls ((oX3 (p0a 0) p0a p0k p0n p0w_93) ++ (oX1 (p1a 0) p1a p1k p1n p1w p1l)) H → va_D A ((oX3 (p0a 0) p0a p0k p0n p0w_93) ++ (oX1 (p1a 0) p1a p1k p1n p1w p1l)) → va_S A s.heap H locs → lv_has ls 7 [(0, .ref (p0a 0)), (1, .ref (p1a 0)), (2, .int p2), (3, .int (p2 * 320)), (4, .int (p0w 13 (nn p2))), (5, .int v5_93), (6, .int v6_93)] → (∀ (H : Heap) (locs : List Loc) (ls : Array Slot), va_P (dC, dI) cls ((oX3 (p0a 0) p0a p0k p0n o93) ++ (oX1 (p1a 0) p1a p1k p1n p1w p1l)) H → va_D A ((oX3 (p0a 0) p0a p0k p0n o93) ++ (oX1 (p1a 0) p1a p1k p1n p1w p1l)) → va_S A s.heap H locs → lv_has ls 7 [(0, .ref (p0a 0)), (1, .ref (p1a 0)), (2, .int p2), (4, .int (p0w 13 (nn p2)))] → W p l e ({ frames := 2, cells := 0, slots := 0, locals := 42 } : Room) s m ([.ref (p0a 0), .ref (p1a 0), .int p2] : List Value).toArray below meth c H locs 0 0 Q (F0 m 134 ls [])) → W p l e ({ frames := 2, cells := 0, slots := 0, locals := 42 } : Room) s m ([.ref (p0a 0), .ref (p1a 0), .int p2] : List Value).toArray below meth c H locs 0 0 Q (F0 m 93 ls []) := by
    intro n_93
    induction n_93 with
    | zero => intro v5_93 v6_93 p0w_93 o93 H locs ls hrun; exact (no9 rfl hrun).elim
    | succ n_93 IH93 =>
      intro v5_93 v6_93 p0w_93 o93 H locs ls hrun hP hD hS hl hk93
      unfold fX3_enterBlock_L93 at hrun
      refine lv_iload hx hb dX3_enterBlock_93 (lv_at hl 6 rfl) ?_
      rcases br9 hrun with ⟨hc15, hrun⟩ | ⟨hc15, hrun⟩
      · refine lv_if_lt (tgt := 134) hx hb dX3_enterBlock_95 (by decide) (fun _ => ?_) (fun c => absurd hc15 c)
        obtain rfl := (Option.some.inj hrun)
        exact hk93 _ _ _ hP hD hS (lv_sub hl [0, 1, 2, 4] rfl)
      · refine lv_if_lt (tgt := 134) hx hb dX3_enterBlock_95 (by decide) (fun c => absurd c hc15) (fun _ => ?_)
        refine lv_aload_n hx hb dX3_enterBlock_98 rfl (lv_at hl 0 rfl) ?_
        refine va_get (D := (dC, dI)) (ci := 10) (v := .ref (p0a 16)) (C := RX3) (T := TX3) (N := 20) hx hb hts i_X3 hown hK hP 0 rfl rfl 15 (by decide) (hts _ qw725) (fun _ h9 => h9) rfl dX3_enterBlock_99 ?_
        refine lv_iload_n hx hb dX3_enterBlock_102 rfl (lv_at hl 3 rfl) ?_
        refine lv_aload_n hx hb dX3_enterBlock_103 rfl (lv_at hl 1 rfl) ?_
        refine va_get (D := (dC, dI)) (ci := 4) (v := .ref (p1a 19)) (C := RX1) (T := TX1) (N := 21) hx hb hts i_X1 hown hK hP 11 rfl rfl 18 (by decide) (hts _ qw754) (fun _ h9 => h9) rfl dX3_enterBlock_104 ?_
        refine lv_iload hx hb dX3_enterBlock_107 (lv_at hl 6 rfl) ?_
        obtain ⟨hq16, hrun⟩ := chk9 hrun
        refine va_iald hx hb hK hP 26 24 rfl rfl (ixb_in hq16) dX3_enterBlock_109 ?_
        refine lv_iadd hx hb dX3_enterBlock_110 ?_
        refine lv_aload_n hx hb dX3_enterBlock_111 rfl (lv_at hl 0 rfl) ?_
        refine va_get (D := (dC, dI)) (ci := 10) (v := .ref (p0a 19)) (C := RX3) (T := TX3) (N := 20) hx hb hts i_X3 hown hK hP 0 rfl rfl 18 (by decide) (hts _ qw736) (fun _ h9 => h9) rfl dX3_enterBlock_112 ?_
        refine lv_iload hx hb dX3_enterBlock_115 (lv_at hl 5 rfl) ?_
        obtain ⟨hq17, hrun⟩ := chk9 hrun
        refine va_iald hx hb hK hP 10 9 rfl rfl (ixb_in hq17) dX3_enterBlock_117 ?_
        obtain ⟨hq18, hrun⟩ := chk9 hrun
        refine va_iast hx hb hK hP hD hS 8 7 rfl rfl (ixb_in hq18) dX3_enterBlock_118 (fun H locs hP hD hS => ?_)
        have hP : va_P (dC, dI) cls ((oX3 (p0a 0) p0a p0k p0n (upw p0w_93 16 (nn ((p2 * 320) + (p1w 19 (nn v6_93)))) (p0w_93 19 (nn v5_93)))) ++ (oX1 (p1a 0) p1a p1k p1n p1w p1l)) H := hP
        have hD : va_D A ((oX3 (p0a 0) p0a p0k p0n (upw p0w_93 16 (nn ((p2 * 320) + (p1w 19 (nn v6_93)))) (p0w_93 19 (nn v5_93)))) ++ (oX1 (p1a 0) p1a p1k p1n p1w p1l)) := hD
        obtain ⟨w19, ew19, hrun⟩ := let9 hrun
        rw [← ew19] at hP hD
        refine lv_iinc (v := (v5_93 + 1)) (lv' := [(5, .int (v5_93 + 1)), (0, .ref (p0a 0)), (1, .ref (p1a 0)), (2, .int p2), (3, .int (p2 * 320)), (4, .int (p0w 13 (nn p2))), (6, .int v6_93)]) hx hb dX3_enterBlock_119 hl (k := 5) rfl rfl (by decide) rfl (fun ls hl => ?_)
        refine lv_aload_n hx hb dX3_enterBlock_122 rfl (lv_at hl 2 rfl) ?_
        refine va_get (D := (dC, dI)) (ci := 4) (v := .ref (p1a 20)) (C := RX1) (T := TX1) (N := 21) hx hb hts i_X1 hown hK hP 11 rfl rfl 19 (by decide) (hts _ qw753) (fun _ h9 => h9) rfl dX3_enterBlock_123 ?_
        refine lv_iload hx hb dX3_enterBlock_126 (lv_at hl 6 rfl) ?_
        obtain ⟨hq20, hrun⟩ := chk9 hrun
        refine va_iald hx hb hK hP 27 25 rfl rfl (ixb_in hq20) dX3_enterBlock_128 ?_
        refine lv_istore (lv' := [(6, .int (p1w 20 (nn v6_93))), (5, .int (v5_93 + 1)), (0, .ref (p0a 0)), (1, .ref (p1a 0)), (2, .int p2), (3, .int (p2 * 320)), (4, .int (p0w 13 (nn p2)))]) hx hb dX3_enterBlock_129 hl (by decide) rfl (fun ls hl => ?_)
        refine lv_goto (tgt := 93) hx hb dX3_enterBlock_131 (by decide) ?_
        exact IH93 (v5_93 + 1) (p1w 20 (nn v6_93)) w19 o93 _ _ _ hrun hP hD hS (lv_sub hl [2, 3, 4, 5, 6, 1, 0] rfl) hk93
  obtain ⟨o93, hc93, hrun⟩ := bnd9 hrun
  refine L93 NF 0 (p1w 6 (nn (p0w 13 (nn p2)))) t26 o93 _ _ _ hc93 hP hD hS (lv_sub hl [2, 3, 4, 5, 6, 1, 0] rfl) ?_
  intro H locs ls hP hD hS hl
  have hl := hl
  refine lv_aload_n hx hb dX3_enterBlock_134 rfl (lv_at hl 0 rfl) ?_
  refine va_get (D := (dC, dI)) (ci := 10) (v := .ref (p0a 12)) (C := RX3) (T := TX3) (N := 20) hx hb hts i_X3 hown hK hP 0 rfl rfl 11 (by decide) (hts _ qw742) (fun _ h9 => h9) rfl dX3_enterBlock_135 ?_
  refine lv_iload_n hx hb dX3_enterBlock_138 rfl (lv_at hl 2 rfl) ?_
  refine lv_aload_n hx hb dX3_enterBlock_139 rfl (lv_at hl 1 rfl) ?_
  refine va_get (D := (dC, dI)) (ci := 4) (v := .ref (p1a 4)) (C := RX1) (T := TX1) (N := 21) hx hb hts i_X1 hown hK hP 11 rfl rfl 3 (by decide) (hts _ qw755) (fun _ h9 => h9) rfl dX3_enterBlock_140 ?_
  refine lv_iload hx hb dX3_enterBlock_143 (lv_at hl 3 rfl) ?_
  obtain ⟨hq21, hrun⟩ := chk9 hrun
  refine va_iald hx hb hK hP 12 10 rfl rfl (ixb_in hq21) dX3_enterBlock_145 ?_
  obtain ⟨hq22, hrun⟩ := chk9 hrun
  refine va_iast hx hb hK hP hD hS 4 3 rfl rfl (ixb_in hq22) dX3_enterBlock_146 (fun H locs hP hD hS => ?_)
  have hP : va_P (dC, dI) cls ((oX3 (p0a 0) p0a p0k p0n (upw o93 12 (nn p2) (p1w 4 (nn (p0w 13 (nn p2)))))) ++ (oX1 (p1a 0) p1a p1k p1n p1w p1l)) H := hP
  have hD : va_D A ((oX3 (p0a 0) p0a p0k p0n (upw o93 12 (nn p2) (p1w 4 (nn (p0w 13 (nn p2)))))) ++ (oX1 (p1a 0) p1a p1k p1n p1w p1l)) := hD
  obtain ⟨w23, ew23, hrun⟩ := let9 hrun
  rw [← ew23] at hP hD
  have ho9 : w23 = o := Option.some.inj hrun
  have hP9 : va_P (dC, dI) cls ((oX3 (p0a 0) p0a p0k p0n o) ++ (oX1 (p1a 0) p1a p1k p1n p1w p1l)) H := by first | exact hP | (rw [← ho9]; exact hP)
  have hD9 : va_D A ((oX3 (p0a 0) p0a p0k p0n o) ++ (oX1 (p1a 0) p1a p1k p1n p1w p1l)) := by first | exact hD | (rw [← ho9]; exact hD)
  subst hQ
  exact W.vret hx hb hr (fun t ht hW => ⟨⟨(), rfl, trivial, ⟨by rw [ht]; exact hP9, va_K.moved hW.alike hK, hD9⟩⟩, hS.F ht⟩) hS.2.2 dX3_enterBlock_147
def fX3_giveBack_L23 (p0w : ST) (p1_2n : Nat → Nat) (p1_2w : ST) : Nat → Int32 → Int32 → Option Int32
  | 0 => fun _ _ => none
  | n_23 + 1 => fun v4_23 v5_23 => (if v5_23 < 0 then some v4_23 else (if ixb ((p0w 0 9) - 1) 8 = true then (if v5_23 = (p0w 12 (nn ((p0w 0 9) - 1))) then some v4_23 else (if ixb v5_23 (p1_2n 6) = true then ((fX3_giveBack_L23 p0w p1_2n p1_2w n_23) v5_23 (p1_2w 6 (nn v5_23))) else none)) else none))
def fX3_giveBack_J85 (p0w_85 : ST) : Option ST := some p0w_85
def fX3_giveBack (p0w : ST) (p1w : ST) (p2 : Int32) (p1_2n : Nat → Nat) (p1_2w : ST) : Option ST := (if ixb ((p0w 0 9) - 1) 8 = true then (if ixb (p0w 13 (nn ((p0w 0 9) - 1))) 60 = true then ((fX3_giveBack_L23 p0w p1_2n p1_2w NF (-1) (p1w 4 (nn (p0w 13 (nn ((p0w 0 9) - 1)))))).bind fun (o23 : Int32) => (if o23 < 0 then (fX3_giveBack_J85 p0w) else (if ixb o23 (p1_2n 3) = true then (if ixb ((((p0w 0 9) - 1) * 320) + (p1_2w 3 (nn o23))) 2560 = true then (lt9 (upw p0w 16 (nn ((((p0w 0 9) - 1) * 320) + (p1_2w 3 (nn o23)))) p2) fun (w10 : ST) => (fX3_giveBack_J85 w10)) else none) else none))) else none) else none)
set_option maxHeartbeats 16000000 in
set_option maxRecDepth 100000 in
theorem kX3_giveBack {zs : Nat × Nat} (l : Launch) (dC : Nat → ClassId) (dI : Nat → Nat → Nat) (p0a : Nat → Nat) (p0k : Nat → ClassId) (p0n : Nat → Nat) (p0w : ST) (p1a : Nat → Nat) (p1k : Nat → ClassId) (p1n : Nat → Nat) (p1w : ST) (p1l : SL) (p2 : Int32) (p1_2a : Nat → Nat) (p1_2k : Nat → ClassId) (p1_2n : Nat → Nat) (p1_2w : ST) (sz : Nat) (o : ST) (hrun : fX3_giveBack p0w p1w p2 p1_2n p1_2w = some o) : Met l yX3_giveBack (wz yX3_giveBack cX3_giveBack 6 (Option.none : Option Jvm.ClassFile.FieldType)) ({ frames := 0, cells := 0, slots := 0, locals := 0 } : Room) (va_Pc [.ref (p0a 0), .ref (p1a 0), .int p2] (PRE zs dC dI ((oX3 (p0a 0) p0a p0k p0n p0w) ++ (oX1 (p1a 0) p1a p1k p1n p1w p1l) ++ (oX9 (p1a 3) p1_2a p1_2k p1_2n p1_2w)) ((tX3 p0k) ++ (tX1 p1k) ++ (tX9 p1_2k)) sz)) (va_Qv (fun (_ : Unit) => True) (fun _ t => POST dC dI ((oX3 (p0a 0) p0a p0k p0n o) ++ (oX1 (p1a 0) p1a p1k p1n p1w p1l) ++ (oX9 (p1a 3) p1_2a p1_2k p1_2n p1_2w)) ((tX3 p0k) ++ (tX1 p1k) ++ (tX9 p1_2k)) (va_A ((oX3 (p0a 0) p0a p0k p0n p0w) ++ (oX1 (p1a 0) p1a p1k p1n p1w p1l) ++ (oX9 (p1a 3) p1_2a p1_2k p1_2n p1_2w)) sz) t) (va_A ((oX3 (p0a 0) p0a p0k p0n p0w) ++ (oX1 (p1a 0) p1a p1k p1n p1w p1l) ++ (oX9 (p1a 3) p1_2a p1_2k p1_2n p1_2w)) sz)) 0 0 (va_A ((oX3 (p0a 0) p0a p0k p0n p0w) ++ (oX1 (p1a 0) p1a p1k p1n p1w p1l) ++ (oX9 (p1a 3) p1_2a p1_2k p1_2n p1_2w)) sz) := by
  refine Met.ofW (cc := cX3_giveBack) (maxL := 6) (ret := (Option.none : Option Jvm.ClassFile.FieldType)) (by decide) rfl ?_
  intro p e s m args below meth c s₁ B hml hv
  obtain ⟨rfl, hsz, hP, hK, hD0, hE⟩ := hv
  have hx := B.exec
  have hb := B.bytes
  have hr := B.returns
  have hts0 := atoms_spec (ws := wz yX3_giveBack cX3_giveBack 6 (Option.none : Option Jvm.ClassFile.FieldType)) B.pre
  have hts : ∀ w ∈ gw, w.before _ s = true := fun w h => hts0 w (List.mem_cons_of_mem _ h)
  have hown : s.vm.findClass RX3 = some m.cls := findClass_of_methodNamed B.named
  have hlocks := B.notSynchronized
  subst hsz
  have hD := hD0.self (sz := s.heap.size)
  refine gQ9 ?_
  intro Q hQ
  generalize hAe : va_A ((oX3 (p0a 0) p0a p0k p0n p0w) ++ (oX1 (p1a 0) p1a p1k p1n p1w p1l) ++ (oX9 (p1a 3) p1_2a p1_2k p1_2n p1_2w)) s.heap.size = A at hD hE hQ
  have hA : ∀ q : Nat, s.heap.size ≤ q → A q := fun q h => by rw [← hAe]; exact Or.inr h
  have hS : va_S A s.heap s.heap [] := va_S.rf
  have hP : va_P (dC, dI) cls ((oX3 (p0a 0) p0a p0k p0n p0w) ++ (oX1 (p1a 0) p1a p1k p1n p1w p1l) ++ (oX9 (p1a 3) p1_2a p1_2k p1_2n p1_2w)) s.heap := hP
  have hl := lv_entry ([.ref (p0a 0), .ref (p1a 0), .int p2]) (n := 6) (Nat.le_of_ble_eq_true rfl)
  rw [lg_entry_eq]
  generalize (lg_sl ([.ref (p0a 0), .ref (p1a 0), .int p2]) ++ List.replicate (6 - (lg_sl ([.ref (p0a 0), .ref (p1a 0), .int p2])).length) Slot.unset).toArray = ls at hl ⊢
  have hl : lv_has ls 6 [(0, .ref (p0a 0)), (1, .ref (p1a 0)), (2, .int p2)] := hl
  obtain ⟨H, hHe⟩ : ∃ H, H = s.heap := ⟨_, rfl⟩
  obtain ⟨locs, hle⟩ : ∃ locs : List Loc, locs = [] := ⟨_, rfl⟩
  rw [← hHe] at hP
  have hS : va_S A s.heap H locs := by rw [hHe, hle]; exact hS
  show W p l e ({ frames := 0, cells := 0, slots := 0, locals := 0 } : Room) s m ([.ref (p0a 0), .ref (p1a 0), .int p2] : List Value).toArray below meth c s.heap [] 0 0 Q (F0 m 0 ls [])
  rw [← hle]
  refine wH9 hHe ?_
  unfold fX3_giveBack at hrun
  refine lv_aload_n hx hb dX3_giveBack_0 rfl (lv_at hl 0 rfl) ?_
  refine va_get (D := (dC, dI)) (ci := 10) (v := .int (p0w 0 9)) (C := RX3) (T := TX3) (N := 20) hx hb hts i_X3 hown hK hP 0 rfl rfl 9 (by decide) (hts _ qw716) (fun _ h9 => h9) rfl dX3_giveBack_1 ?_
  refine lv_iconst (v := 1) hx hb dX3_giveBack_4 (by decide) ?_
  refine lv_isub hx hb dX3_giveBack_5 ?_
  refine lv_istore_n (lv' := [(3, .int ((p0w 0 9) - 1)), (0, .ref (p0a 0)), (1, .ref (p1a 0)), (2, .int p2)]) hx hb dX3_giveBack_6 rfl hl (by decide) rfl (fun ls hl => ?_)
  refine lv_iconst (v := (-1)) hx hb dX3_giveBack_7 (by decide) ?_
  refine lv_istore (lv' := [(4, .int (-1)), (3, .int ((p0w 0 9) - 1)), (0, .ref (p0a 0)), (1, .ref (p1a 0)), (2, .int p2)]) hx hb dX3_giveBack_8 hl (by decide) rfl (fun ls hl => ?_)
  refine lv_aload_n hx hb dX3_giveBack_10 rfl (lv_at hl 3 rfl) ?_
  refine va_get (D := (dC, dI)) (ci := 4) (v := .ref (p1a 4)) (C := RX1) (T := TX1) (N := 21) hx hb hts i_X1 hown hK hP 11 rfl rfl 3 (by decide) (hts _ qw755) (fun _ h9 => h9) rfl dX3_giveBack_11 ?_
  refine lv_aload_n hx hb dX3_giveBack_14 rfl (lv_at hl 2 rfl) ?_
  refine va_get (D := (dC, dI)) (ci := 10) (v := .ref (p0a 13)) (C := RX3) (T := TX3) (N := 20) hx hb hts i_X3 hown hK hP 0 rfl rfl 12 (by decide) (hts _ qw723) (fun _ h9 => h9) rfl dX3_giveBack_15 ?_
  refine lv_iload_n hx hb dX3_giveBack_18 rfl (lv_at hl 1 rfl) ?_
  obtain ⟨hq1, hrun⟩ := chk9 hrun
  refine va_iald hx hb hK hP 5 4 rfl rfl (ixb_in hq1) dX3_giveBack_19 ?_
  obtain ⟨hq2, hrun⟩ := chk9 hrun
  refine va_iald hx hb hK hP 12 10 rfl rfl (ixb_in hq2) dX3_giveBack_20 ?_
  refine lv_istore (lv' := [(5, .int (p1w 4 (nn (p0w 13 (nn ((p0w 0 9) - 1)))))), (4, .int (-1)), (3, .int ((p0w 0 9) - 1)), (0, .ref (p0a 0)), (1, .ref (p1a 0)), (2, .int p2)]) hx hb dX3_giveBack_21 hl (by decide) rfl (fun ls hl => ?_)
  have L23 : ∀ (n_23 : Nat) (v4_23 : Int32) (v5_23 : Int32) (o23 : Int32) (H : Heap) (locs : List Loc) (ls : Array Slot), (fX3_giveBack_L23 p0w p1_2n p1_2w n_23) v4_23 v5_23 = some o23 → va_P (dC, dI) cls ((oX3 (p0a 0) p0a p0k p0n p0w) ++ (oX1 (p1a 0) p1a p1k p1n p1w p1l) ++ (oX9 (p1a 3) p1_2a p1_2k p1_2n p1_2w)) H → va_D A ((oX3 (p0a 0) p0a p0k p0n p0w) ++ (oX1 (p1a 0) p1a p1k p1n p1w p1l) ++ (oX9 (p1a 3) p1_2a p1_2k p1_2n p1_2w)) → va_S A s.heap H locs → lv_has ls 6 [(0, .ref (p0a 0)), (1, .ref (p1a 0)), (2, .int p2), (3, .int ((p0w 0 9) - 1)), (4, .int v4_23), (5, .int v5_23)] → (∀ (H : Heap) (locs : List Loc) (ls : Array Slot), va_P (dC, dI) cls ((oX3 (p0a 0) p0a p0k p0n p0w) ++ (oX1 (p1a 0) p1a p1k p1n p1w p1l) ++ (oX9 (p1a 3) p1_2a p1_2k p1_2n p1_2w)) H → va_D A ((oX3 (p0a 0) p0a p0k p0n p0w) ++ (oX1 (p1a 0) p1a p1k p1n p1w p1l) ++ (oX9 (p1a 3) p1_2a p1_2k p1_2n p1_2w)) → va_S A s.heap H locs → lv_has ls 6 [(0, .ref (p0a 0)), (1, .ref (p1a 0)), (2, .int p2), (3, .int ((p0w 0 9) - 1)), (4, .int o23)] → W p l e ({ frames := 0, cells := 0, slots := 0, locals := 0 } : Room) s m ([.ref (p0a 0), .ref (p1a 0), .int p2] : List Value).toArray below meth c H locs 0 0 Q (F0 m 58 ls [])) → W p l e ({ frames := 0, cells := 0, slots := 0, locals := 0 } : Room) s m ([.ref (p0a 0), .ref (p1a 0), .int p2] : List Value).toArray below meth c H locs 0 0 Q (F0 m 23 ls []) := by
    intro n_23
    induction n_23 with
    | zero => intro v4_23 v5_23 o23 H locs ls hrun; exact (no9 rfl hrun).elim
    | succ n_23 IH23 =>
      intro v4_23 v5_23 o23 H locs ls hrun hP hD hS hl hk23
      unfold fX3_giveBack_L23 at hrun
      refine lv_iload hx hb dX3_giveBack_23 (lv_at hl 5 rfl) ?_
      rcases br9 hrun with ⟨hc3, hrun⟩ | ⟨hc3, hrun⟩
      · refine lv_if_lt (tgt := 58) hx hb dX3_giveBack_25 (by decide) (fun _ => ?_) (fun c => absurd hc3 c)
        obtain rfl := (Option.some.inj hrun)
        exact hk23 _ _ _ hP hD hS (lv_sub hl [0, 1, 2, 3, 4] rfl)
      · refine lv_if_lt (tgt := 58) hx hb dX3_giveBack_25 (by decide) (fun c => absurd c hc3) (fun _ => ?_)
        refine lv_iload hx hb dX3_giveBack_28 (lv_at hl 5 rfl) ?_
        refine lv_aload_n hx hb dX3_giveBack_30 rfl (lv_at hl 0 rfl) ?_
        refine va_get (D := (dC, dI)) (ci := 10) (v := .ref (p0a 12)) (C := RX3) (T := TX3) (N := 20) hx hb hts i_X3 hown hK hP 0 rfl rfl 11 (by decide) (hts _ qw742) (fun _ h9 => h9) rfl dX3_giveBack_31 ?_
        refine lv_iload_n hx hb dX3_giveBack_34 rfl (lv_at hl 3 rfl) ?_
        obtain ⟨hq4, hrun⟩ := chk9 hrun
        refine va_iald hx hb hK hP 4 3 rfl rfl (ixb_in hq4) dX3_giveBack_35 ?_
        rcases br9 hrun with ⟨hc5, hrun⟩ | ⟨hc5, hrun⟩
        · refine lv_icmp_eq (tgt := 58) hx hb dX3_giveBack_36 (by decide) (fun _ => ?_) (fun c => absurd hc5 c)
          obtain rfl := (Option.some.inj hrun)
          exact hk23 _ _ _ hP hD hS (lv_sub hl [0, 1, 2, 3, 4] rfl)
        · refine lv_icmp_eq (tgt := 58) hx hb dX3_giveBack_36 (by decide) (fun c => absurd c hc5) (fun _ => ?_)
          refine lv_iload hx hb dX3_giveBack_39 (lv_at hl 5 rfl) ?_
          refine lv_istore (lv' := [(4, .int v5_23), (0, .ref (p0a 0)), (1, .ref (p1a 0)), (2, .int p2), (3, .int ((p0w 0 9) - 1)), (5, .int v5_23)]) hx hb dX3_giveBack_41 hl (by decide) rfl (fun ls hl => ?_)
          refine lv_aload_n hx hb dX3_giveBack_43 rfl (lv_at hl 2 rfl) ?_
          refine va_get (D := (dC, dI)) (ci := 4) (v := .ref (p1a 3)) (C := RX1) (T := TX1) (N := 21) hx hb hts i_X1 hown hK hP 11 rfl rfl 2 (by decide) (hts _ qw756) (fun _ h9 => h9) rfl dX3_giveBack_44 ?_
          refine va_get (D := (dC, dI)) (ci := 3) (v := .ref (p1_2a 6)) (C := RX9) (T := TX9) (N := 6) hx hb hts i_X9 hown hK hP 29 rfl rfl 5 (by decide) (hts _ qw757) (fun _ h9 => h9) rfl dX3_giveBack_47 ?_
          refine lv_iload hx hb dX3_giveBack_50 (lv_at hl 5 rfl) ?_
          obtain ⟨hq6, hrun⟩ := chk9 hrun
          refine va_iald hx hb hK hP 34 31 rfl rfl (ixb_in hq6) dX3_giveBack_52 ?_
          refine lv_istore (lv' := [(5, .int (p1_2w 6 (nn v5_23))), (4, .int v5_23), (0, .ref (p0a 0)), (1, .ref (p1a 0)), (2, .int p2), (3, .int ((p0w 0 9) - 1))]) hx hb dX3_giveBack_53 hl (by decide) rfl (fun ls hl => ?_)
          refine lv_goto (tgt := 23) hx hb dX3_giveBack_55 (by decide) ?_
          exact IH23 v5_23 (p1_2w 6 (nn v5_23)) o23 _ _ _ hrun hP hD hS (lv_sub hl [2, 3, 4, 5, 1, 0] rfl) hk23
  obtain ⟨o23, hc23, hrun⟩ := bnd9 hrun
  refine L23 NF (-1) (p1w 4 (nn (p0w 13 (nn ((p0w 0 9) - 1))))) o23 _ _ _ hc23 hP hD hS (lv_sub hl [3, 4, 5, 2, 1, 0] rfl) ?_
  intro H locs ls hP hD hS hl
  have hl := hl
  refine lv_iload hx hb dX3_giveBack_58 (lv_at hl 4 rfl) ?_
  have J85 : ∀ (p0w_85 : ST) (H : Heap) (locs : List Loc) (ls : Array Slot), (fX3_giveBack_J85 p0w_85) = some o → va_P (dC, dI) cls ((oX3 (p0a 0) p0a p0k p0n p0w_85) ++ (oX1 (p1a 0) p1a p1k p1n p1w p1l) ++ (oX9 (p1a 3) p1_2a p1_2k p1_2n p1_2w)) H → va_D A ((oX3 (p0a 0) p0a p0k p0n p0w_85) ++ (oX1 (p1a 0) p1a p1k p1n p1w p1l) ++ (oX9 (p1a 3) p1_2a p1_2k p1_2n p1_2w)) → va_S A s.heap H locs → lv_has ls 6 [] → W p l e ({ frames := 0, cells := 0, slots := 0, locals := 0 } : Room) s m ([.ref (p0a 0), .ref (p1a 0), .int p2] : List Value).toArray below meth c H locs 0 0 Q (F0 m 85 ls []) := by
    intro p0w_85 H locs ls hrun hP hD hS hl
    unfold fX3_giveBack_J85 at hrun
    have ho9 : p0w_85 = o := Option.some.inj hrun
    have hP9 : va_P (dC, dI) cls ((oX3 (p0a 0) p0a p0k p0n o) ++ (oX1 (p1a 0) p1a p1k p1n p1w p1l) ++ (oX9 (p1a 3) p1_2a p1_2k p1_2n p1_2w)) H := by first | exact hP | (rw [← ho9]; exact hP)
    have hD9 : va_D A ((oX3 (p0a 0) p0a p0k p0n o) ++ (oX1 (p1a 0) p1a p1k p1n p1w p1l) ++ (oX9 (p1a 3) p1_2a p1_2k p1_2n p1_2w)) := by first | exact hD | (rw [← ho9]; exact hD)
    subst hQ
    exact W.vret hx hb hr (fun t ht hW => ⟨⟨(), rfl, trivial, ⟨by rw [ht]; exact hP9, va_K.moved hW.alike hK, hD9⟩⟩, hS.F ht⟩) hS.2.2 dX3_giveBack_85
  rcases br9 hrun with ⟨hc7, hrun⟩ | ⟨hc7, hrun⟩
  · refine lv_if_lt (tgt := 85) hx hb dX3_giveBack_60 (by decide) (fun _ => ?_) (fun c => absurd hc7 c)
    exact J85 p0w _ _ _ hrun hP hD hS (lv_sub hl [] rfl)
  · refine lv_if_lt (tgt := 85) hx hb dX3_giveBack_60 (by decide) (fun c => absurd c hc7) (fun _ => ?_)
    refine lv_aload_n hx hb dX3_giveBack_63 rfl (lv_at hl 0 rfl) ?_
    refine va_get (D := (dC, dI)) (ci := 10) (v := .ref (p0a 16)) (C := RX3) (T := TX3) (N := 20) hx hb hts i_X3 hown hK hP 0 rfl rfl 15 (by decide) (hts _ qw725) (fun _ h9 => h9) rfl dX3_giveBack_64 ?_
    refine lv_iload_n hx hb dX3_giveBack_67 rfl (lv_at hl 3 rfl) ?_
    refine lv_sipush (v := 320) hx hb dX3_giveBack_68 (by decide) ?_
    refine lv_imul hx hb dX3_giveBack_71 ?_
    refine lv_aload_n hx hb dX3_giveBack_72 rfl (lv_at hl 1 rfl) ?_
    refine va_get (D := (dC, dI)) (ci := 4) (v := .ref (p1a 3)) (C := RX1) (T := TX1) (N := 21) hx hb hts i_X1 hown hK hP 11 rfl rfl 2 (by decide) (hts _ qw756) (fun _ h9 => h9) rfl dX3_giveBack_73 ?_
    refine va_get (D := (dC, dI)) (ci := 3) (v := .ref (p1_2a 3)) (C := RX9) (T := TX9) (N := 6) hx hb hts i_X9 hown hK hP 29 rfl rfl 2 (by decide) (hts _ qw758) (fun _ h9 => h9) rfl dX3_giveBack_76 ?_
    refine lv_iload hx hb dX3_giveBack_79 (lv_at hl 4 rfl) ?_
    obtain ⟨hq8, hrun⟩ := chk9 hrun
    refine va_iald hx hb hK hP 31 28 rfl rfl (ixb_in hq8) dX3_giveBack_81 ?_
    refine lv_iadd hx hb dX3_giveBack_82 ?_
    refine lv_iload_n hx hb dX3_giveBack_83 rfl (lv_at hl 2 rfl) ?_
    obtain ⟨hq9, hrun⟩ := chk9 hrun
    refine va_iast hx hb hK hP hD hS 8 7 rfl rfl (ixb_in hq9) dX3_giveBack_84 (fun H locs hP hD hS => ?_)
    have hP : va_P (dC, dI) cls ((oX3 (p0a 0) p0a p0k p0n (upw p0w 16 (nn ((((p0w 0 9) - 1) * 320) + (p1_2w 3 (nn o23)))) p2)) ++ (oX1 (p1a 0) p1a p1k p1n p1w p1l) ++ (oX9 (p1a 3) p1_2a p1_2k p1_2n p1_2w)) H := hP
    have hD : va_D A ((oX3 (p0a 0) p0a p0k p0n (upw p0w 16 (nn ((((p0w 0 9) - 1) * 320) + (p1_2w 3 (nn o23)))) p2)) ++ (oX1 (p1a 0) p1a p1k p1n p1w p1l) ++ (oX9 (p1a 3) p1_2a p1_2k p1_2n p1_2w)) := hD
    obtain ⟨w10, ew10, hrun⟩ := let9 hrun
    rw [← ew10] at hP hD
    exact J85 w10 _ _ _ hrun hP hD hS (lv_sub hl [] rfl)
def fX3_push_J30 (p0w_30 : ST) : Option ST := some p0w_30
def fX3_push (p0w : ST) (p1 : Int32) : Option ST := (if 512 ≤ (p0w 0 19) then (fX3_push_J30 p0w) else (if ixb (p0w 0 19) 512 = true then (lt9 (upw p0w 19 (nn (p0w 0 19)) p1) fun (w3 : ST) => (lt9 (upw w3 0 19 ((w3 0 19) + 1)) fun (w4 : ST) => (fX3_push_J30 w4))) else none))
set_option maxHeartbeats 16000000 in
set_option maxRecDepth 100000 in
theorem kX3_push {zs : Nat × Nat} (l : Launch) (dC : Nat → ClassId) (dI : Nat → Nat → Nat) (p0a : Nat → Nat) (p0k : Nat → ClassId) (p0n : Nat → Nat) (p0w : ST) (p1 : Int32) (sz : Nat) (o : ST) (hrun : fX3_push p0w p1 = some o) : Met l yX3_push (wz yX3_push cX3_push 2 (Option.none : Option Jvm.ClassFile.FieldType)) ({ frames := 0, cells := 0, slots := 0, locals := 0 } : Room) (va_Pc [.ref (p0a 0), .int p1] (PRE zs dC dI (oX3 (p0a 0) p0a p0k p0n p0w) (tX3 p0k) sz)) (va_Qv (fun (_ : Unit) => True) (fun _ t => POST dC dI (oX3 (p0a 0) p0a p0k p0n o) (tX3 p0k) (va_A (oX3 (p0a 0) p0a p0k p0n p0w) sz) t) (va_A (oX3 (p0a 0) p0a p0k p0n p0w) sz)) 0 0 (va_A (oX3 (p0a 0) p0a p0k p0n p0w) sz) := by
  refine Met.ofW (cc := cX3_push) (maxL := 2) (ret := (Option.none : Option Jvm.ClassFile.FieldType)) (by decide) rfl ?_
  intro p e s m args below meth c s₁ B hml hv
  obtain ⟨rfl, hsz, hP, hK, hD0, hE⟩ := hv
  have hx := B.exec
  have hb := B.bytes
  have hr := B.returns
  have hts0 := atoms_spec (ws := wz yX3_push cX3_push 2 (Option.none : Option Jvm.ClassFile.FieldType)) B.pre
  have hts : ∀ w ∈ gw, w.before _ s = true := fun w h => hts0 w (List.mem_cons_of_mem _ h)
  have hown : s.vm.findClass RX3 = some m.cls := findClass_of_methodNamed B.named
  have hlocks := B.notSynchronized
  subst hsz
  have hD := hD0.self (sz := s.heap.size)
  refine gQ9 ?_
  intro Q hQ
  generalize hAe : va_A (oX3 (p0a 0) p0a p0k p0n p0w) s.heap.size = A at hD hE hQ
  have hA : ∀ q : Nat, s.heap.size ≤ q → A q := fun q h => by rw [← hAe]; exact Or.inr h
  have hS : va_S A s.heap s.heap [] := va_S.rf
  have hP : va_P (dC, dI) cls (oX3 (p0a 0) p0a p0k p0n p0w) s.heap := hP
  have hl := lv_entry ([.ref (p0a 0), .int p1]) (n := 2) (Nat.le_of_ble_eq_true rfl)
  rw [lg_entry_eq]
  generalize (lg_sl ([.ref (p0a 0), .int p1]) ++ List.replicate (2 - (lg_sl ([.ref (p0a 0), .int p1])).length) Slot.unset).toArray = ls at hl ⊢
  have hl : lv_has ls 2 [(0, .ref (p0a 0)), (1, .int p1)] := hl
  obtain ⟨H, hHe⟩ : ∃ H, H = s.heap := ⟨_, rfl⟩
  obtain ⟨locs, hle⟩ : ∃ locs : List Loc, locs = [] := ⟨_, rfl⟩
  rw [← hHe] at hP
  have hS : va_S A s.heap H locs := by rw [hHe, hle]; exact hS
  show W p l e ({ frames := 0, cells := 0, slots := 0, locals := 0 } : Room) s m ([.ref (p0a 0), .int p1] : List Value).toArray below meth c s.heap [] 0 0 Q (F0 m 0 ls [])
  rw [← hle]
  refine wH9 hHe ?_
  unfold fX3_push at hrun
  refine lv_aload_n hx hb dX3_push_0 rfl (lv_at hl 0 rfl) ?_
  refine va_get (D := (dC, dI)) (ci := 10) (v := .int (p0w 0 19)) (C := RX3) (T := TX3) (N := 20) hx hb hts i_X3 hown hK hP 0 rfl rfl 19 (by decide) (hts _ qw735) (fun _ h9 => h9) rfl dX3_push_1 ?_
  refine lv_sipush (v := 512) hx hb dX3_push_4 (by decide) ?_
  have J30 : ∀ (p0w_30 : ST) (H : Heap) (locs : List Loc) (ls : Array Slot), (fX3_push_J30 p0w_30) = some o → va_P (dC, dI) cls (oX3 (p0a 0) p0a p0k p0n p0w_30) H → va_D A (oX3 (p0a 0) p0a p0k p0n p0w_30) → va_S A s.heap H locs → lv_has ls 2 [] → W p l e ({ frames := 0, cells := 0, slots := 0, locals := 0 } : Room) s m ([.ref (p0a 0), .int p1] : List Value).toArray below meth c H locs 0 0 Q (F0 m 30 ls []) := by
    intro p0w_30 H locs ls hrun hP hD hS hl
    unfold fX3_push_J30 at hrun
    have ho9 : p0w_30 = o := Option.some.inj hrun
    have hP9 : va_P (dC, dI) cls (oX3 (p0a 0) p0a p0k p0n o) H := by first | exact hP | (rw [← ho9]; exact hP)
    have hD9 : va_D A (oX3 (p0a 0) p0a p0k p0n o) := by first | exact hD | (rw [← ho9]; exact hD)
    subst hQ
    exact W.vret hx hb hr (fun t ht hW => ⟨⟨(), rfl, trivial, ⟨by rw [ht]; exact hP9, va_K.moved hW.alike hK, hD9⟩⟩, hS.F ht⟩) hS.2.2 dX3_push_30
  rcases br9 hrun with ⟨hc1, hrun⟩ | ⟨hc1, hrun⟩
  · refine lv_icmp_ge (tgt := 30) hx hb dX3_push_7 (by decide) (fun _ => ?_) (fun c => absurd hc1 c)
    exact J30 p0w _ _ _ hrun hP hD hS (lv_sub hl [] rfl)
  · refine lv_icmp_ge (tgt := 30) hx hb dX3_push_7 (by decide) (fun c => absurd c hc1) (fun _ => ?_)
    refine lv_aload_n hx hb dX3_push_10 rfl (lv_at hl 0 rfl) ?_
    refine va_get (D := (dC, dI)) (ci := 10) (v := .ref (p0a 19)) (C := RX3) (T := TX3) (N := 20) hx hb hts i_X3 hown hK hP 0 rfl rfl 18 (by decide) (hts _ qw736) (fun _ h9 => h9) rfl dX3_push_11 ?_
    refine lv_aload_n hx hb dX3_push_14 rfl (lv_at hl 0 rfl) ?_
    refine va_get (D := (dC, dI)) (ci := 10) (v := .int (p0w 0 19)) (C := RX3) (T := TX3) (N := 20) hx hb hts i_X3 hown hK hP 0 rfl rfl 19 (by decide) (hts _ qw735) (fun _ h9 => h9) rfl dX3_push_15 ?_
    refine lv_iload_n hx hb dX3_push_18 rfl (lv_at hl 1 rfl) ?_
    obtain ⟨hq2, hrun⟩ := chk9 hrun
    refine va_iast hx hb hK hP hD hS 10 9 rfl rfl (ixb_in hq2) dX3_push_19 (fun H locs hP hD hS => ?_)
    have hP : va_P (dC, dI) cls (oX3 (p0a 0) p0a p0k p0n (upw p0w 19 (nn (p0w 0 19)) p1)) H := hP
    have hD : va_D A (oX3 (p0a 0) p0a p0k p0n (upw p0w 19 (nn (p0w 0 19)) p1)) := hD
    obtain ⟨w3, ew3, hrun⟩ := let9 hrun
    rw [← ew3] at hP hD
    refine lv_aload_n hx hb dX3_push_20 rfl (lv_at hl 0 rfl) ?_
    refine lv_dup hx hb dX3_push_21 rfl ?_
    refine va_get (D := (dC, dI)) (ci := 10) (v := .int (w3 0 19)) (C := RX3) (T := TX3) (N := 20) hx hb hts i_X3 hown hK hP 0 rfl rfl 19 (by decide) (hts _ qw735) (fun _ h9 => h9) rfl dX3_push_22 ?_
    refine lv_iconst (v := 1) hx hb dX3_push_25 (by decide) ?_
    refine lv_iadd hx hb dX3_push_26 ?_
    refine va_put (D := (dC, dI)) (ci := 10) (v := .int ((w3 0 19) + 1)) (ty := .int) (C := RX3) (T := TX3) (N := 20) hx hb hts i_X3 tyX3 tyX3_ok nmX3 hown hK hP hD hS 0 rfl rfl 19 (by decide) (hts _ qw735) (fun _ h9 => h9) rfl (by decide +kernel) rfl rfl (Nat.le_of_ble_eq_true rfl) dX3_push_27 (fun H locs hP hD hS => ?_)
    have hP : va_P (dC, dI) cls (oX3 (p0a 0) p0a p0k p0n (upw w3 0 19 ((w3 0 19) + 1))) H := hP
    have hD : va_D A (oX3 (p0a 0) p0a p0k p0n (upw w3 0 19 ((w3 0 19) + 1))) := hD
    obtain ⟨w4, ew4, hrun⟩ := let9 hrun
    rw [← ew4] at hP hD
    exact J30 w4 _ _ _ hrun hP hD hS (lv_sub hl [] rfl)
def fX3_moveVariable_J221 (p0w_221 : ST) : Option ST := some p0w_221
def fX3_moveVariable (p0w : ST) (p1 : Int32) (p2 : Int32) (p3 : Int32) (p0_4w : ST) : Option ST := (if p2 = 22 then (if ixb p3 640 = true then (if ixb p1 8 = true then (lt9 (upw p0w 12 (nn p1) (p0_4w 13 (nn p3))) fun (w4 : ST) => (fX3_moveVariable_J221 w4)) else none) else none) else (if p2 = 23 then (fX3_moveVariable_J221 p0w) else (if p2 = 24 then (fX3_moveVariable_J221 p0w) else (if p2 = 25 then (fX3_moveVariable_J221 p0w) else (if p2 = 26 then (fX3_moveVariable_J221 p0w) else (if p2 = 27 then (fX3_moveVariable_J221 p0w) else (if p2 = 28 then (fX3_moveVariable_J221 p0w) else (if p2 = 29 then (fX3_moveVariable_J221 p0w) else (if p2 = 30 then (if ixb ((p1 * 320) + p3) 2560 = true then ((fX3_push p0w (p0w 16 (nn ((p1 * 320) + p3)))).bind fun (o_14 : ST) => (fX3_moveVariable_J221 o_14)) else none) else (if p2 = 31 then ((fX3_pop p0w).bind fun (o_16 : Int32 × ST) => (if ixb ((p1 * 320) + p3) 2560 = true then (lt9 (upw (o_16.2) 16 (nn ((p1 * 320) + p3)) (o_16.1)) fun (w19 : ST) => (fX3_moveVariable_J221 w19)) else none)) else (if p2 = 32 then ((fX3_pop p0w).bind fun (o_21 : Int32 × ST) => (if ixb ((p1 * 320) + p3) 2560 = true then (lt9 (upw (o_21.2) 16 (nn ((p1 * 320) + p3)) (o_21.1)) fun (w24 : ST) => (if ixb ((p1 * 320) + p3) 2560 = true then ((fX3_push w24 (w24 16 (nn ((p1 * 320) + p3)))).bind fun (o_26 : ST) => (fX3_moveVariable_J221 o_26)) else none)) else none)) else (if p2 = 33 then ((fX3_pop p0w).bind fun (o_28 : Int32 × ST) => (if (o_28.1) = 0 then (if ixb p3 640 = true then (if ixb p1 8 = true then (lt9 (upw (o_28.2) 12 (nn p1) (p0_4w 13 (nn p3))) fun (w33 : ST) => (fX3_moveVariable_J221 w33)) else none) else none) else (fX3_moveVariable_J221 (o_28.2)))) else (if p2 = 34 then ((fX3_pop p0w).bind fun (o_35 : Int32 × ST) => (if (o_35.1) = 0 then (fX3_moveVariable_J221 (o_35.2)) else (if ixb p3 640 = true then (if ixb p1 8 = true then (lt9 (upw (o_35.2) 12 (nn p1) (p0_4w 13 (nn p3))) fun (w40 : ST) => (fX3_moveVariable_J221 w40)) else none) else none))) else (if p2 = 35 then (fX3_moveVariable_J221 p0w) else (if p2 = 36 then ((fX3_pop p0w).bind fun (o_43 : Int32 × ST) => (fX3_moveVariable_J221 (o_43.2))) else (fX3_moveVariable_J221 p0w))))))))))))))))
set_option maxHeartbeats 16000000 in
set_option maxRecDepth 100000 in
theorem kX3_moveVariable {zs : Nat × Nat} (l : Launch) (dC : Nat → ClassId) (dI : Nat → Nat → Nat) (p0a : Nat → Nat) (p0k : Nat → ClassId) (p0n : Nat → Nat) (p0w : ST) (p1 : Int32) (p2 : Int32) (p3 : Int32) (p0_4a : Nat → Nat) (p0_4k : Nat → ClassId) (p0_4w : ST) (p0_4l : SL) (sz : Nat) (o : ST) (hrun : fX3_moveVariable p0w p1 p2 p3 p0_4w = some o) : Met l yX3_moveVariable (wz yX3_moveVariable cX3_moveVariable 5 (Option.none : Option Jvm.ClassFile.FieldType)) ({ frames := 1, cells := 0, slots := 0, locals := 21 } : Room) (va_Pc [.ref (p0a 0), .int p1, .int p2, .int p3] (PRE zs dC dI ((oX3 (p0a 0) p0a p0k p0n p0w) ++ (oX6 (p0a 5) p0_4a p0_4k p0_4w p0_4l)) ((tX3 p0k) ++ (tX6 p0_4k)) sz)) (va_Qv (fun (_ : Unit) => True) (fun _ t => POST dC dI ((oX3 (p0a 0) p0a p0k p0n o) ++ (oX6 (p0a 5) p0_4a p0_4k p0_4w p0_4l)) ((tX3 p0k) ++ (tX6 p0_4k)) (va_A ((oX3 (p0a 0) p0a p0k p0n p0w) ++ (oX6 (p0a 5) p0_4a p0_4k p0_4w p0_4l)) sz) t) (va_A ((oX3 (p0a 0) p0a p0k p0n p0w) ++ (oX6 (p0a 5) p0_4a p0_4k p0_4w p0_4l)) sz)) 0 0 (va_A ((oX3 (p0a 0) p0a p0k p0n p0w) ++ (oX6 (p0a 5) p0_4a p0_4k p0_4w p0_4l)) sz) := by
  refine Met.ofW (cc := cX3_moveVariable) (maxL := 5) (ret := (Option.none : Option Jvm.ClassFile.FieldType)) (by decide) rfl ?_
  intro p e s m args below meth c s₁ B hml hv
  obtain ⟨rfl, hsz, hP, hK, hD0, hE⟩ := hv
  have hx := B.exec
  have hb := B.bytes
  have hr := B.returns
  have hts0 := atoms_spec (ws := wz yX3_moveVariable cX3_moveVariable 5 (Option.none : Option Jvm.ClassFile.FieldType)) B.pre
  have hts : ∀ w ∈ gw, w.before _ s = true := fun w h => hts0 w (List.mem_cons_of_mem _ h)
  have hown : s.vm.findClass RX3 = some m.cls := findClass_of_methodNamed B.named
  have hlocks := B.notSynchronized
  subst hsz
  have hD := hD0.self (sz := s.heap.size)
  refine gQ9 ?_
  intro Q hQ
  generalize hAe : va_A ((oX3 (p0a 0) p0a p0k p0n p0w) ++ (oX6 (p0a 5) p0_4a p0_4k p0_4w p0_4l)) s.heap.size = A at hD hE hQ
  have hA : ∀ q : Nat, s.heap.size ≤ q → A q := fun q h => by rw [← hAe]; exact Or.inr h
  have hS : va_S A s.heap s.heap [] := va_S.rf
  have hP : va_P (dC, dI) cls ((oX3 (p0a 0) p0a p0k p0n p0w) ++ (oX6 (p0a 5) p0_4a p0_4k p0_4w p0_4l)) s.heap := hP
  have hl := lv_entry ([.ref (p0a 0), .int p1, .int p2, .int p3]) (n := 5) (Nat.le_of_ble_eq_true rfl)
  rw [lg_entry_eq]
  generalize (lg_sl ([.ref (p0a 0), .int p1, .int p2, .int p3]) ++ List.replicate (5 - (lg_sl ([.ref (p0a 0), .int p1, .int p2, .int p3])).length) Slot.unset).toArray = ls at hl ⊢
  have hl : lv_has ls 5 [(0, .ref (p0a 0)), (1, .int p1), (2, .int p2), (3, .int p3)] := hl
  obtain ⟨H, hHe⟩ : ∃ H, H = s.heap := ⟨_, rfl⟩
  obtain ⟨locs, hle⟩ : ∃ locs : List Loc, locs = [] := ⟨_, rfl⟩
  rw [← hHe] at hP
  have hS : va_S A s.heap H locs := by rw [hHe, hle]; exact hS
  show W p l e ({ frames := 1, cells := 0, slots := 0, locals := 21 } : Room) s m ([.ref (p0a 0), .int p1, .int p2, .int p3] : List Value).toArray below meth c s.heap [] 0 0 Q (F0 m 0 ls [])
  rw [← hle]
  refine wH9 hHe ?_
  unfold fX3_moveVariable at hrun
  refine lv_iload_n hx hb dX3_moveVariable_0 rfl (lv_at hl 1 rfl) ?_
  refine lv_sipush (v := 320) hx hb dX3_moveVariable_1 (by decide) ?_
  refine lv_imul hx hb dX3_moveVariable_4 ?_
  refine lv_istore (lv' := [(4, .int (p1 * 320)), (0, .ref (p0a 0)), (1, .int p1), (2, .int p2), (3, .int p3)]) hx hb dX3_moveVariable_5 hl (by decide) rfl (fun ls hl => ?_)
  refine lv_iload_n hx hb dX3_moveVariable_7 rfl (lv_at hl 3 rfl) ?_
  have J221 : ∀ (p0w_221 : ST) (H : Heap) (locs : List Loc) (ls : Array Slot), (fX3_moveVariable_J221 p0w_221) = some o → va_P (dC, dI) cls ((oX3 (p0a 0) p0a p0k p0n p0w_221) ++ (oX6 (p0a 5) p0_4a p0_4k p0_4w p0_4l)) H → va_D A ((oX3 (p0a 0) p0a p0k p0n p0w_221) ++ (oX6 (p0a 5) p0_4a p0_4k p0_4w p0_4l)) → va_S A s.heap H locs → lv_has ls 5 [] → W p l e ({ frames := 1, cells := 0, slots := 0, locals := 21 } : Room) s m ([.ref (p0a 0), .int p1, .int p2, .int p3] : List Value).toArray below meth c H locs 0 0 Q (F0 m 221 ls []) := by
    intro p0w_221 H locs ls hrun hP hD hS hl
    unfold fX3_moveVariable_J221 at hrun
    have ho9 : p0w_221 = o := Option.some.inj hrun
    have hP9 : va_P (dC, dI) cls ((oX3 (p0a 0) p0a p0k p0n o) ++ (oX6 (p0a 5) p0_4a p0_4k p0_4w p0_4l)) H := by first | exact hP | (rw [← ho9]; exact hP)
    have hD9 : va_D A ((oX3 (p0a 0) p0a p0k p0n o) ++ (oX6 (p0a 5) p0_4a p0_4k p0_4w p0_4l)) := by first | exact hD | (rw [← ho9]; exact hD)
    subst hQ
    exact W.vret hx hb hr (fun t ht hW => ⟨⟨(), rfl, trivial, ⟨by rw [ht]; exact hP9, va_K.moved hW.alike hK, hD9⟩⟩, hS.F ht⟩) hS.2.2 dX3_moveVariable_221
  rcases br9 hrun with ⟨hc1, hrun⟩ | ⟨hc1, hrun⟩
  · refine lv_tableIn (off := 137) (tgt := 145) hx hb dX3_moveVariable_8 (by rw [hc1]; decide) (by rw [hc1]; decide) (by rw [hc1]; rfl) (by decide) ?_
    refine lv_aload_n hx hb dX3_moveVariable_145 rfl (lv_at hl 1 rfl) ?_
    refine va_get (D := (dC, dI)) (ci := 10) (v := .ref (p0a 12)) (C := RX3) (T := TX3) (N := 20) hx hb hts i_X3 hown hK hP 0 rfl rfl 11 (by decide) (hts _ qw742) (fun _ h9 => h9) rfl dX3_moveVariable_146 ?_
    refine lv_iload_n hx hb dX3_moveVariable_149 rfl (lv_at hl 2 rfl) ?_
    refine lv_aload_n hx hb dX3_moveVariable_150 rfl (lv_at hl 1 rfl) ?_
    refine va_get (D := (dC, dI)) (ci := 10) (v := .ref (p0a 5)) (C := RX3) (T := TX3) (N := 20) hx hb hts i_X3 hown hK hP 0 rfl rfl 4 (by decide) (hts _ qw733) (fun _ h9 => h9) rfl dX3_moveVariable_151 ?_
    refine va_get (D := (dC, dI)) (ci := 2) (v := .ref (p0_4a 13)) (C := RX6) (T := TX6) (N := 13) hx hb hts i_X6 hown hK hP 11 rfl rfl 12 (by decide) (hts _ qw767) (fun _ h9 => h9) rfl dX3_moveVariable_154 ?_
    refine lv_iload_n hx hb dX3_moveVariable_157 rfl (lv_at hl 4 rfl) ?_
    obtain ⟨hq2, hrun⟩ := chk9 hrun
    refine va_iald hx hb hK hP 21 19 rfl rfl (ixb_in hq2) dX3_moveVariable_158 ?_
    obtain ⟨hq3, hrun⟩ := chk9 hrun
    refine va_iast hx hb hK hP hD hS 4 3 rfl rfl (ixb_in hq3) dX3_moveVariable_159 (fun H locs hP hD hS => ?_)
    have hP : va_P (dC, dI) cls ((oX3 (p0a 0) p0a p0k p0n (upw p0w 12 (nn p1) (p0_4w 13 (nn p3)))) ++ (oX6 (p0a 5) p0_4a p0_4k p0_4w p0_4l)) H := hP
    have hD : va_D A ((oX3 (p0a 0) p0a p0k p0n (upw p0w 12 (nn p1) (p0_4w 13 (nn p3)))) ++ (oX6 (p0a 5) p0_4a p0_4k p0_4w p0_4l)) := hD
    obtain ⟨w4, ew4, hrun⟩ := let9 hrun
    rw [← ew4] at hP hD
    refine lv_goto (tgt := 221) hx hb dX3_moveVariable_160 (by decide) ?_
    exact J221 w4 _ _ _ hrun hP hD hS (lv_sub hl [] rfl)
  rcases br9 hrun with ⟨hc5, hrun⟩ | ⟨hc5, hrun⟩
  · refine lv_tableIn (off := 213) (tgt := 221) hx hb dX3_moveVariable_8 (by rw [hc5]; decide) (by rw [hc5]; decide) (by rw [hc5]; rfl) (by decide) ?_
    exact J221 p0w _ _ _ hrun hP hD hS (lv_sub hl [] rfl)
  rcases br9 hrun with ⟨hc6, hrun⟩ | ⟨hc6, hrun⟩
  · refine lv_tableIn (off := 213) (tgt := 221) hx hb dX3_moveVariable_8 (by rw [hc6]; decide) (by rw [hc6]; decide) (by rw [hc6]; rfl) (by decide) ?_
    exact J221 p0w _ _ _ hrun hP hD hS (lv_sub hl [] rfl)
  rcases br9 hrun with ⟨hc7, hrun⟩ | ⟨hc7, hrun⟩
  · refine lv_tableIn (off := 213) (tgt := 221) hx hb dX3_moveVariable_8 (by rw [hc7]; decide) (by rw [hc7]; decide) (by rw [hc7]; rfl) (by decide) ?_
    exact J221 p0w _ _ _ hrun hP hD hS (lv_sub hl [] rfl)
  rcases br9 hrun with ⟨hc8, hrun⟩ | ⟨hc8, hrun⟩
  · refine lv_tableIn (off := 213) (tgt := 221) hx hb dX3_moveVariable_8 (by rw [hc8]; decide) (by rw [hc8]; decide) (by rw [hc8]; rfl) (by decide) ?_
    exact J221 p0w _ _ _ hrun hP hD hS (lv_sub hl [] rfl)
  rcases br9 hrun with ⟨hc9, hrun⟩ | ⟨hc9, hrun⟩
  · refine lv_tableIn (off := 213) (tgt := 221) hx hb dX3_moveVariable_8 (by rw [hc9]; decide) (by rw [hc9]; decide) (by rw [hc9]; rfl) (by decide) ?_
    exact J221 p0w _ _ _ hrun hP hD hS (lv_sub hl [] rfl)
  rcases br9 hrun with ⟨hc10, hrun⟩ | ⟨hc10, hrun⟩
  · refine lv_tableIn (off := 213) (tgt := 221) hx hb dX3_moveVariable_8 (by rw [hc10]; decide) (by rw [hc10]; decide) (by rw [hc10]; rfl) (by decide) ?_
    exact J221 p0w _ _ _ hrun hP hD hS (lv_sub hl [] rfl)
  rcases br9 hrun with ⟨hc11, hrun⟩ | ⟨hc11, hrun⟩
  · refine lv_tableIn (off := 213) (tgt := 221) hx hb dX3_moveVariable_8 (by rw [hc11]; decide) (by rw [hc11]; decide) (by rw [hc11]; rfl) (by decide) ?_
    exact J221 p0w _ _ _ hrun hP hD hS (lv_sub hl [] rfl)
  rcases br9 hrun with ⟨hc12, hrun⟩ | ⟨hc12, hrun⟩
  · refine lv_tableIn (off := 76) (tgt := 84) hx hb dX3_moveVariable_8 (by rw [hc12]; decide) (by rw [hc12]; decide) (by rw [hc12]; rfl) (by decide) ?_
    refine lv_aload_n hx hb dX3_moveVariable_84 rfl (lv_at hl 1 rfl) ?_
    refine lv_aload_n hx hb dX3_moveVariable_85 rfl (lv_at hl 1 rfl) ?_
    refine va_get (D := (dC, dI)) (ci := 10) (v := .ref (p0a 16)) (C := RX3) (T := TX3) (N := 20) hx hb hts i_X3 hown hK hP 0 rfl rfl 15 (by decide) (hts _ qw725) (fun _ h9 => h9) rfl dX3_moveVariable_86 ?_
    refine lv_iload hx hb dX3_moveVariable_89 (lv_at hl 0 rfl) ?_
    refine lv_iload_n hx hb dX3_moveVariable_91 rfl (lv_at hl 4 rfl) ?_
    refine lv_iadd hx hb dX3_moveVariable_92 ?_
    obtain ⟨hq13, hrun⟩ := chk9 hrun
    refine va_iald hx hb hK hP 8 7 rfl rfl (ixb_in hq13) dX3_moveVariable_93 ?_
    obtain ⟨o_14, hc_14, hrun⟩ := bnd9 hrun
    have hPc := hP.sub (ws' := (oX3 (p0a 0) p0a p0k p0n p0w)) [0, 1, 2, 3, 4, 5, 6, 7, 8, 9, 10] rfl
    have hDc := hD.sub (ws' := (oX3 (p0a 0) p0a p0k p0n p0w)) [0, 1, 2, 3, 4, 5, 6, 7, 8, 9, 10] (by decide) rfl
    have hKc := hK.sub (tys' := (tX3 p0k)) [0, 1, 2, 3, 4, 5, 6, 7, 8, 9] rfl
    have hFc := va_free (wc := (oX3 (p0a 0) p0a p0k p0n p0w)) hD hS hA [0, 1, 2, 3, 4, 5, 6, 7, 8, 9, 10] rfl
    refine va_callv (va_runV (As := [.int (p0w 16 (nn ((p1 * 320) + p3)))]) (rest := []) ⟨hx, hb, hml, hown, hts⟩ (kX3_push l dC dI (p0a := (st0 (p0a 0) p0a)) (p0k := p0k) (p0n := p0n) (p0w := p0w) (p1 := (p0w 16 (nn ((p1 * 320) + p3)))) (sz := _) (o := o_14) (hrun := hc_14)) (cwV 1 hts (gi_V qw769 qw770 qw771 qw722 (gi_z qw768)) rfl rfl rfl (by decide +kernel) ⟨Nat.le_of_ble_eq_true rfl, Nat.le_of_ble_eq_true rfl⟩) ⟨PRE.blind, va_recv hKc hPc (ci := 10) (q0 := 0) rfl rfl, PRE.of hE hS hFc hPc hKc hDc⟩ rfl rfl hl.1 rfl (lv_room (Nat.le_of_ble_eq_true rfl)) dX3_moveVariable_94 ⟨Nat.le_of_ble_eq_true rfl, Nat.le_of_ble_eq_true rfl⟩) hS (fun q _ h => hFc q h) hFc (fun u t H locs ht hvm hw hB hz1 hk1 hS => ?_)
    obtain ⟨hP, hD, hK⟩ := JOIN (wr := (oX6 (p0a 5) p0_4a p0_4k p0_4w p0_4l)) hP hD hK [0, 1, 2, 3, 4, 5, 6, 7, 8, 9, 10] [11, 12, 13, 14, 15, 16, 17, 18, 19, 20, 21] [10, 11, 12, 13, 14, 15, 16, 17, 18, 19] rfl rfl (by decide) (by decide) rfl hk1 hFc ht hvm hB
    have hP : va_P (dC, dI) cls ((oX3 (p0a 0) p0a p0k p0n o_14) ++ (oX6 (p0a 5) p0_4a p0_4k p0_4w p0_4l)) H := hP.sub [11, 12, 13, 14, 15, 16, 17, 18, 19, 20, 21, 0, 1, 2, 3, 4, 5, 6, 7, 8, 9, 10] rfl
    have hD : va_D A ((oX3 (p0a 0) p0a p0k p0n o_14) ++ (oX6 (p0a 5) p0_4a p0_4k p0_4w p0_4l)) := hD.sub [11, 12, 13, 14, 15, 16, 17, 18, 19, 20, 21, 0, 1, 2, 3, 4, 5, 6, 7, 8, 9, 10] (by decide) rfl
    have hK : va_K (dC, dI) cls ((tX3 p0k) ++ (tX6 p0_4k)) s := hK.sub [10, 11, 12, 13, 14, 15, 16, 17, 18, 19, 0, 1, 2, 3, 4, 5, 6, 7, 8, 9] rfl
    refine lv_goto (tgt := 221) hx hb dX3_moveVariable_97 (by decide) ?_
    exact J221 o_14 _ _ _ hrun hP hD hS (lv_sub hl [] rfl)
  rcases br9 hrun with ⟨hc15, hrun⟩ | ⟨hc15, hrun⟩
  · refine lv_tableIn (off := 92) (tgt := 100) hx hb dX3_moveVariable_8 (by rw [hc15]; decide) (by rw [hc15]; decide) (by rw [hc15]; rfl) (by decide) ?_
    refine lv_aload_n hx hb dX3_moveVariable_100 rfl (lv_at hl 1 rfl) ?_
    refine va_get (D := (dC, dI)) (ci := 10) (v := .ref (p0a 16)) (C := RX3) (T := TX3) (N := 20) hx hb hts i_X3 hown hK hP 0 rfl rfl 15 (by decide) (hts _ qw725) (fun _ h9 => h9) rfl dX3_moveVariable_101 ?_
    refine lv_iload hx hb dX3_moveVariable_104 (lv_at hl 0 rfl) ?_
    refine lv_iload_n hx hb dX3_moveVariable_106 rfl (lv_at hl 4 rfl) ?_
    refine lv_iadd hx hb dX3_moveVariable_107 ?_
    refine lv_aload_n hx hb dX3_moveVariable_108 rfl (lv_at hl 1 rfl) ?_
    obtain ⟨o_16, hc_16, hrun⟩ := bnd9 hrun
    have hPc := hP.sub (ws' := (oX3 (p0a 0) p0a p0k p0n p0w)) [0, 1, 2, 3, 4, 5, 6, 7, 8, 9, 10] rfl
    have hDc := hD.sub (ws' := (oX3 (p0a 0) p0a p0k p0n p0w)) [0, 1, 2, 3, 4, 5, 6, 7, 8, 9, 10] (by decide) rfl
    have hKc := hK.sub (tys' := (tX3 p0k)) [0, 1, 2, 3, 4, 5, 6, 7, 8, 9] rfl
    have hFc := va_free (wc := (oX3 (p0a 0) p0a p0k p0n p0w)) hD hS hA [0, 1, 2, 3, 4, 5, 6, 7, 8, 9, 10] rfl
    refine va_calli (va_runV (As := []) (rest := [.int ((p1 * 320) + p3), .ref (p0a 16)]) ⟨hx, hb, hml, hown, hts⟩ (kX3_pop l dC dI (p0a := (st0 (p0a 0) p0a)) (p0k := p0k) (p0n := p0n) (p0w := p0w) (sz := _) (o := o_16) (hrun := hc_16)) (cwV 0 hts (gi_V qw738 qw739 qw740 qw722 (gi_z qw737)) rfl rfl rfl (by decide +kernel) ⟨Nat.le_of_ble_eq_true rfl, Nat.le_of_ble_eq_true rfl⟩) ⟨PRE.blind, va_recv hKc hPc (ci := 10) (q0 := 0) rfl rfl, PRE.of hE hS hFc hPc hKc hDc⟩ rfl rfl hl.1 rfl (lv_room (Nat.le_of_ble_eq_true rfl)) dX3_moveVariable_109 ⟨Nat.le_of_ble_eq_true rfl, Nat.le_of_ble_eq_true rfl⟩) hS (fun q _ h => hFc q h) hFc (fun r17 u t H locs ht hvm hw hB hz1 hk1 hS => ?_)
    obtain ⟨hP, hD, hK⟩ := JOIN (wr := (oX6 (p0a 5) p0_4a p0_4k p0_4w p0_4l)) hP hD hK [0, 1, 2, 3, 4, 5, 6, 7, 8, 9, 10] [11, 12, 13, 14, 15, 16, 17, 18, 19, 20, 21] [10, 11, 12, 13, 14, 15, 16, 17, 18, 19] rfl rfl (by decide) (by decide) rfl hk1 hFc ht hvm hB
    have hP : va_P (dC, dI) cls ((oX3 (p0a 0) p0a p0k p0n (o_16.2)) ++ (oX6 (p0a 5) p0_4a p0_4k p0_4w p0_4l)) H := hP.sub [11, 12, 13, 14, 15, 16, 17, 18, 19, 20, 21, 0, 1, 2, 3, 4, 5, 6, 7, 8, 9, 10] rfl
    have hD : va_D A ((oX3 (p0a 0) p0a p0k p0n (o_16.2)) ++ (oX6 (p0a 5) p0_4a p0_4k p0_4w p0_4l)) := hD.sub [11, 12, 13, 14, 15, 16, 17, 18, 19, 20, 21, 0, 1, 2, 3, 4, 5, 6, 7, 8, 9, 10] (by decide) rfl
    have hK : va_K (dC, dI) cls ((tX3 p0k) ++ (tX6 p0_4k)) s := hK.sub [10, 11, 12, 13, 14, 15, 16, 17, 18, 19, 0, 1, 2, 3, 4, 5, 6, 7, 8, 9] rfl
    obtain rfl : r17 = (o_16.1) := hw
    obtain ⟨hq18, hrun⟩ := chk9 hrun
    refine va_iast hx hb hK hP hD hS 8 7 rfl rfl (ixb_in hq18) dX3_moveVariable_112 (fun H locs hP hD hS => ?_)
    have hP : va_P (dC, dI) cls ((oX3 (p0a 0) p0a p0k p0n (upw (o_16.2) 16 (nn ((p1 * 320) + p3)) (o_16.1))) ++ (oX6 (p0a 5) p0_4a p0_4k p0_4w p0_4l)) H := hP
    have hD : va_D A ((oX3 (p0a 0) p0a p0k p0n (upw (o_16.2) 16 (nn ((p1 * 320) + p3)) (o_16.1))) ++ (oX6 (p0a 5) p0_4a p0_4k p0_4w p0_4l)) := hD
    obtain ⟨w19, ew19, hrun⟩ := let9 hrun
    rw [← ew19] at hP hD
    refine lv_goto (tgt := 221) hx hb dX3_moveVariable_113 (by decide) ?_
    exact J221 w19 _ _ _ hrun hP hD hS (lv_sub hl [] rfl)
  rcases br9 hrun with ⟨hc20, hrun⟩ | ⟨hc20, hrun⟩
  · refine lv_tableIn (off := 108) (tgt := 116) hx hb dX3_moveVariable_8 (by rw [hc20]; decide) (by rw [hc20]; decide) (by rw [hc20]; rfl) (by decide) ?_
    refine lv_aload_n hx hb dX3_moveVariable_116 rfl (lv_at hl 1 rfl) ?_
    refine va_get (D := (dC, dI)) (ci := 10) (v := .ref (p0a 16)) (C := RX3) (T := TX3) (N := 20) hx hb hts i_X3 hown hK hP 0 rfl rfl 15 (by decide) (hts _ qw725) (fun _ h9 => h9) rfl dX3_moveVariable_117 ?_
    refine lv_iload hx hb dX3_moveVariable_120 (lv_at hl 0 rfl) ?_
    refine lv_iload_n hx hb dX3_moveVariable_122 rfl (lv_at hl 4 rfl) ?_
    refine lv_iadd hx hb dX3_moveVariable_123 ?_
    refine lv_aload_n hx hb dX3_moveVariable_124 rfl (lv_at hl 1 rfl) ?_
    obtain ⟨o_21, hc_21, hrun⟩ := bnd9 hrun
    have hPc := hP.sub (ws' := (oX3 (p0a 0) p0a p0k p0n p0w)) [0, 1, 2, 3, 4, 5, 6, 7, 8, 9, 10] rfl
    have hDc := hD.sub (ws' := (oX3 (p0a 0) p0a p0k p0n p0w)) [0, 1, 2, 3, 4, 5, 6, 7, 8, 9, 10] (by decide) rfl
    have hKc := hK.sub (tys' := (tX3 p0k)) [0, 1, 2, 3, 4, 5, 6, 7, 8, 9] rfl
    have hFc := va_free (wc := (oX3 (p0a 0) p0a p0k p0n p0w)) hD hS hA [0, 1, 2, 3, 4, 5, 6, 7, 8, 9, 10] rfl
    refine va_calli (va_runV (As := []) (rest := [.int ((p1 * 320) + p3), .ref (p0a 16)]) ⟨hx, hb, hml, hown, hts⟩ (kX3_pop l dC dI (p0a := (st0 (p0a 0) p0a)) (p0k := p0k) (p0n := p0n) (p0w := p0w) (sz := _) (o := o_21) (hrun := hc_21)) (cwV 0 hts (gi_V qw738 qw739 qw740 qw722 (gi_z qw737)) rfl rfl rfl (by decide +kernel) ⟨Nat.le_of_ble_eq_true rfl, Nat.le_of_ble_eq_true rfl⟩) ⟨PRE.blind, va_recv hKc hPc (ci := 10) (q0 := 0) rfl rfl, PRE.of hE hS hFc hPc hKc hDc⟩ rfl rfl hl.1 rfl (lv_room (Nat.le_of_ble_eq_true rfl)) dX3_moveVariable_125 ⟨Nat.le_of_ble_eq_true rfl, Nat.le_of_ble_eq_true rfl⟩) hS (fun q _ h => hFc q h) hFc (fun r22 u t H locs ht hvm hw hB hz1 hk1 hS => ?_)
    obtain ⟨hP, hD, hK⟩ := JOIN (wr := (oX6 (p0a 5) p0_4a p0_4k p0_4w p0_4l)) hP hD hK [0, 1, 2, 3, 4, 5, 6, 7, 8, 9, 10] [11, 12, 13, 14, 15, 16, 17, 18, 19, 20, 21] [10, 11, 12, 13, 14, 15, 16, 17, 18, 19] rfl rfl (by decide) (by decide) rfl hk1 hFc ht hvm hB
    have hP : va_P (dC, dI) cls ((oX3 (p0a 0) p0a p0k p0n (o_21.2)) ++ (oX6 (p0a 5) p0_4a p0_4k p0_4w p0_4l)) H := hP.sub [11, 12, 13, 14, 15, 16, 17, 18, 19, 20, 21, 0, 1, 2, 3, 4, 5, 6, 7, 8, 9, 10] rfl
    have hD : va_D A ((oX3 (p0a 0) p0a p0k p0n (o_21.2)) ++ (oX6 (p0a 5) p0_4a p0_4k p0_4w p0_4l)) := hD.sub [11, 12, 13, 14, 15, 16, 17, 18, 19, 20, 21, 0, 1, 2, 3, 4, 5, 6, 7, 8, 9, 10] (by decide) rfl
    have hK : va_K (dC, dI) cls ((tX3 p0k) ++ (tX6 p0_4k)) s := hK.sub [10, 11, 12, 13, 14, 15, 16, 17, 18, 19, 0, 1, 2, 3, 4, 5, 6, 7, 8, 9] rfl
    obtain rfl : r22 = (o_21.1) := hw
    obtain ⟨hq23, hrun⟩ := chk9 hrun
    refine va_iast hx hb hK hP hD hS 8 7 rfl rfl (ixb_in hq23) dX3_moveVariable_128 (fun H locs hP hD hS => ?_)
    have hP : va_P (dC, dI) cls ((oX3 (p0a 0) p0a p0k p0n (upw (o_21.2) 16 (nn ((p1 * 320) + p3)) (o_21.1))) ++ (oX6 (p0a 5) p0_4a p0_4k p0_4w p0_4l)) H := hP
    have hD : va_D A ((oX3 (p0a 0) p0a p0k p0n (upw (o_21.2) 16 (nn ((p1 * 320) + p3)) (o_21.1))) ++ (oX6 (p0a 5) p0_4a p0_4k p0_4w p0_4l)) := hD
    obtain ⟨w24, ew24, hrun⟩ := let9 hrun
    rw [← ew24] at hP hD
    refine lv_aload_n hx hb dX3_moveVariable_129 rfl (lv_at hl 1 rfl) ?_
    refine lv_aload_n hx hb dX3_moveVariable_130 rfl (lv_at hl 1 rfl) ?_
    refine va_get (D := (dC, dI)) (ci := 10) (v := .ref (p0a 16)) (C := RX3) (T := TX3) (N := 20) hx hb hts i_X3 hown hK hP 0 rfl rfl 15 (by decide) (hts _ qw725) (fun _ h9 => h9) rfl dX3_moveVariable_131 ?_
    refine lv_iload hx hb dX3_moveVariable_134 (lv_at hl 0 rfl) ?_
    refine lv_iload_n hx hb dX3_moveVariable_136 rfl (lv_at hl 4 rfl) ?_
    refine lv_iadd hx hb dX3_moveVariable_137 ?_
    obtain ⟨hq25, hrun⟩ := chk9 hrun
    refine va_iald hx hb hK hP 8 7 rfl rfl (ixb_in hq25) dX3_moveVariable_138 ?_
    obtain ⟨o_26, hc_26, hrun⟩ := bnd9 hrun
    have hPc := hP.sub (ws' := (oX3 (p0a 0) p0a p0k p0n w24)) [0, 1, 2, 3, 4, 5, 6, 7, 8, 9, 10] rfl
    have hDc := hD.sub (ws' := (oX3 (p0a 0) p0a p0k p0n w24)) [0, 1, 2, 3, 4, 5, 6, 7, 8, 9, 10] (by decide) rfl
    have hKc := hK.sub (tys' := (tX3 p0k)) [0, 1, 2, 3, 4, 5, 6, 7, 8, 9] rfl
    have hFc := va_free (wc := (oX3 (p0a 0) p0a p0k p0n w24)) hD hS hA [0, 1, 2, 3, 4, 5, 6, 7, 8, 9, 10] rfl
    refine va_callv (va_runV (As := [.int (w24 16 (nn ((p1 * 320) + p3)))]) (rest := []) ⟨hx, hb, hml, hown, hts⟩ (kX3_push l dC dI (p0a := (st0 (p0a 0) p0a)) (p0k := p0k) (p0n := p0n) (p0w := w24) (p1 := (w24 16 (nn ((p1 * 320) + p3)))) (sz := _) (o := o_26) (hrun := hc_26)) (cwV 1 hts (gi_V qw769 qw770 qw771 qw722 (gi_z qw768)) rfl rfl rfl (by decide +kernel) ⟨Nat.le_of_ble_eq_true rfl, Nat.le_of_ble_eq_true rfl⟩) ⟨PRE.blind, va_recv hKc hPc (ci := 10) (q0 := 0) rfl rfl, PRE.of hE hS hFc hPc hKc hDc⟩ rfl rfl hl.1 rfl (lv_room (Nat.le_of_ble_eq_true rfl)) dX3_moveVariable_139 ⟨Nat.le_of_ble_eq_true rfl, Nat.le_of_ble_eq_true rfl⟩) hS (fun q _ h => hFc q h) hFc (fun u t H locs ht hvm hw hB hz1 hk1 hS => ?_)
    obtain ⟨hP, hD, hK⟩ := JOIN (wr := (oX6 (p0a 5) p0_4a p0_4k p0_4w p0_4l)) hP hD hK [0, 1, 2, 3, 4, 5, 6, 7, 8, 9, 10] [11, 12, 13, 14, 15, 16, 17, 18, 19, 20, 21] [10, 11, 12, 13, 14, 15, 16, 17, 18, 19] rfl rfl (by decide) (by decide) rfl hk1 hFc ht hvm hB
    have hP : va_P (dC, dI) cls ((oX3 (p0a 0) p0a p0k p0n o_26) ++ (oX6 (p0a 5) p0_4a p0_4k p0_4w p0_4l)) H := hP.sub [11, 12, 13, 14, 15, 16, 17, 18, 19, 20, 21, 0, 1, 2, 3, 4, 5, 6, 7, 8, 9, 10] rfl
    have hD : va_D A ((oX3 (p0a 0) p0a p0k p0n o_26) ++ (oX6 (p0a 5) p0_4a p0_4k p0_4w p0_4l)) := hD.sub [11, 12, 13, 14, 15, 16, 17, 18, 19, 20, 21, 0, 1, 2, 3, 4, 5, 6, 7, 8, 9, 10] (by decide) rfl
    have hK : va_K (dC, dI) cls ((tX3 p0k) ++ (tX6 p0_4k)) s := hK.sub [10, 11, 12, 13, 14, 15, 16, 17, 18, 19, 0, 1, 2, 3, 4, 5, 6, 7, 8, 9] rfl
    refine lv_goto (tgt := 221) hx hb dX3_moveVariable_142 (by decide) ?_
    exact J221 o_26 _ _ _ hrun hP hD hS (lv_sub hl [] rfl)
  rcases br9 hrun with ⟨hc27, hrun⟩ | ⟨hc27, hrun⟩
  · refine lv_tableIn (off := 155) (tgt := 163) hx hb dX3_moveVariable_8 (by rw [hc27]; decide) (by rw [hc27]; decide) (by rw [hc27]; rfl) (by decide) ?_
    refine lv_aload_n hx hb dX3_moveVariable_163 rfl (lv_at hl 1 rfl) ?_
    obtain ⟨o_28, hc_28, hrun⟩ := bnd9 hrun
    have hPc := hP.sub (ws' := (oX3 (p0a 0) p0a p0k p0n p0w)) [0, 1, 2, 3, 4, 5, 6, 7, 8, 9, 10] rfl
    have hDc := hD.sub (ws' := (oX3 (p0a 0) p0a p0k p0n p0w)) [0, 1, 2, 3, 4, 5, 6, 7, 8, 9, 10] (by decide) rfl
    have hKc := hK.sub (tys' := (tX3 p0k)) [0, 1, 2, 3, 4, 5, 6, 7, 8, 9] rfl
    have hFc := va_free (wc := (oX3 (p0a 0) p0a p0k p0n p0w)) hD hS hA [0, 1, 2, 3, 4, 5, 6, 7, 8, 9, 10] rfl
    refine va_calli (va_runV (As := []) (rest := []) ⟨hx, hb, hml, hown, hts⟩ (kX3_pop l dC dI (p0a := (st0 (p0a 0) p0a)) (p0k := p0k) (p0n := p0n) (p0w := p0w) (sz := _) (o := o_28) (hrun := hc_28)) (cwV 0 hts (gi_V qw738 qw739 qw740 qw722 (gi_z qw737)) rfl rfl rfl (by decide +kernel) ⟨Nat.le_of_ble_eq_true rfl, Nat.le_of_ble_eq_true rfl⟩) ⟨PRE.blind, va_recv hKc hPc (ci := 10) (q0 := 0) rfl rfl, PRE.of hE hS hFc hPc hKc hDc⟩ rfl rfl hl.1 rfl (lv_room (Nat.le_of_ble_eq_true rfl)) dX3_moveVariable_164 ⟨Nat.le_of_ble_eq_true rfl, Nat.le_of_ble_eq_true rfl⟩) hS (fun q _ h => hFc q h) hFc (fun r29 u t H locs ht hvm hw hB hz1 hk1 hS => ?_)
    obtain ⟨hP, hD, hK⟩ := JOIN (wr := (oX6 (p0a 5) p0_4a p0_4k p0_4w p0_4l)) hP hD hK [0, 1, 2, 3, 4, 5, 6, 7, 8, 9, 10] [11, 12, 13, 14, 15, 16, 17, 18, 19, 20, 21] [10, 11, 12, 13, 14, 15, 16, 17, 18, 19] rfl rfl (by decide) (by decide) rfl hk1 hFc ht hvm hB
    have hP : va_P (dC, dI) cls ((oX3 (p0a 0) p0a p0k p0n (o_28.2)) ++ (oX6 (p0a 5) p0_4a p0_4k p0_4w p0_4l)) H := hP.sub [11, 12, 13, 14, 15, 16, 17, 18, 19, 20, 21, 0, 1, 2, 3, 4, 5, 6, 7, 8, 9, 10] rfl
    have hD : va_D A ((oX3 (p0a 0) p0a p0k p0n (o_28.2)) ++ (oX6 (p0a 5) p0_4a p0_4k p0_4w p0_4l)) := hD.sub [11, 12, 13, 14, 15, 16, 17, 18, 19, 20, 21, 0, 1, 2, 3, 4, 5, 6, 7, 8, 9, 10] (by decide) rfl
    have hK : va_K (dC, dI) cls ((tX3 p0k) ++ (tX6 p0_4k)) s := hK.sub [10, 11, 12, 13, 14, 15, 16, 17, 18, 19, 0, 1, 2, 3, 4, 5, 6, 7, 8, 9] rfl
    obtain rfl : r29 = (o_28.1) := hw
    rcases br9 hrun with ⟨hc30, hrun⟩ | ⟨hc30, hrun⟩
    · refine lv_if_ne (tgt := 221) hx hb dX3_moveVariable_167 (by decide) (fun c => absurd hc30 c) (fun _ => ?_)
      refine lv_aload_n hx hb dX3_moveVariable_170 rfl (lv_at hl 1 rfl) ?_
      refine va_get (D := (dC, dI)) (ci := 10) (v := .ref (p0a 12)) (C := RX3) (T := TX3) (N := 20) hx hb hts i_X3 hown hK hP 0 rfl rfl 11 (by decide) (hts _ qw742) (fun _ h9 => h9) rfl dX3_moveVariable_171 ?_
      refine lv_iload_n hx hb dX3_moveVariable_174 rfl (lv_at hl 2 rfl) ?_
      refine lv_aload_n hx hb dX3_moveVariable_175 rfl (lv_at hl 1 rfl) ?_
      refine va_get (D := (dC, dI)) (ci := 10) (v := .ref (p0a 5)) (C := RX3) (T := TX3) (N := 20) hx hb hts i_X3 hown hK hP 0 rfl rfl 4 (by decide) (hts _ qw733) (fun _ h9 => h9) rfl dX3_moveVariable_176 ?_
      refine va_get (D := (dC, dI)) (ci := 2) (v := .ref (p0_4a 13)) (C := RX6) (T := TX6) (N := 13) hx hb hts i_X6 hown hK hP 11 rfl rfl 12 (by decide) (hts _ qw767) (fun _ h9 => h9) rfl dX3_moveVariable_179 ?_
      refine lv_iload_n hx hb dX3_moveVariable_182 rfl (lv_at hl 4 rfl) ?_
      obtain ⟨hq31, hrun⟩ := chk9 hrun
      refine va_iald hx hb hK hP 21 19 rfl rfl (ixb_in hq31) dX3_moveVariable_183 ?_
      obtain ⟨hq32, hrun⟩ := chk9 hrun
      refine va_iast hx hb hK hP hD hS 4 3 rfl rfl (ixb_in hq32) dX3_moveVariable_184 (fun H locs hP hD hS => ?_)
      have hP : va_P (dC, dI) cls ((oX3 (p0a 0) p0a p0k p0n (upw (o_28.2) 12 (nn p1) (p0_4w 13 (nn p3)))) ++ (oX6 (p0a 5) p0_4a p0_4k p0_4w p0_4l)) H := hP
      have hD : va_D A ((oX3 (p0a 0) p0a p0k p0n (upw (o_28.2) 12 (nn p1) (p0_4w 13 (nn p3)))) ++ (oX6 (p0a 5) p0_4a p0_4k p0_4w p0_4l)) := hD
      obtain ⟨w33, ew33, hrun⟩ := let9 hrun
      rw [← ew33] at hP hD
      refine lv_goto (tgt := 221) hx hb dX3_moveVariable_185 (by decide) ?_
      exact J221 w33 _ _ _ hrun hP hD hS (lv_sub hl [] rfl)
    · refine lv_if_ne (tgt := 221) hx hb dX3_moveVariable_167 (by decide) (fun _ => ?_) (fun c => absurd c hc30)
      exact J221 (o_28.2) _ _ _ hrun hP hD hS (lv_sub hl [] rfl)
  rcases br9 hrun with ⟨hc34, hrun⟩ | ⟨hc34, hrun⟩
  · refine lv_tableIn (off := 180) (tgt := 188) hx hb dX3_moveVariable_8 (by rw [hc34]; decide) (by rw [hc34]; decide) (by rw [hc34]; rfl) (by decide) ?_
    refine lv_aload_n hx hb dX3_moveVariable_188 rfl (lv_at hl 1 rfl) ?_
    obtain ⟨o_35, hc_35, hrun⟩ := bnd9 hrun
    have hPc := hP.sub (ws' := (oX3 (p0a 0) p0a p0k p0n p0w)) [0, 1, 2, 3, 4, 5, 6, 7, 8, 9, 10] rfl
    have hDc := hD.sub (ws' := (oX3 (p0a 0) p0a p0k p0n p0w)) [0, 1, 2, 3, 4, 5, 6, 7, 8, 9, 10] (by decide) rfl
    have hKc := hK.sub (tys' := (tX3 p0k)) [0, 1, 2, 3, 4, 5, 6, 7, 8, 9] rfl
    have hFc := va_free (wc := (oX3 (p0a 0) p0a p0k p0n p0w)) hD hS hA [0, 1, 2, 3, 4, 5, 6, 7, 8, 9, 10] rfl
    refine va_calli (va_runV (As := []) (rest := []) ⟨hx, hb, hml, hown, hts⟩ (kX3_pop l dC dI (p0a := (st0 (p0a 0) p0a)) (p0k := p0k) (p0n := p0n) (p0w := p0w) (sz := _) (o := o_35) (hrun := hc_35)) (cwV 0 hts (gi_V qw738 qw739 qw740 qw722 (gi_z qw737)) rfl rfl rfl (by decide +kernel) ⟨Nat.le_of_ble_eq_true rfl, Nat.le_of_ble_eq_true rfl⟩) ⟨PRE.blind, va_recv hKc hPc (ci := 10) (q0 := 0) rfl rfl, PRE.of hE hS hFc hPc hKc hDc⟩ rfl rfl hl.1 rfl (lv_room (Nat.le_of_ble_eq_true rfl)) dX3_moveVariable_189 ⟨Nat.le_of_ble_eq_true rfl, Nat.le_of_ble_eq_true rfl⟩) hS (fun q _ h => hFc q h) hFc (fun r36 u t H locs ht hvm hw hB hz1 hk1 hS => ?_)
    obtain ⟨hP, hD, hK⟩ := JOIN (wr := (oX6 (p0a 5) p0_4a p0_4k p0_4w p0_4l)) hP hD hK [0, 1, 2, 3, 4, 5, 6, 7, 8, 9, 10] [11, 12, 13, 14, 15, 16, 17, 18, 19, 20, 21] [10, 11, 12, 13, 14, 15, 16, 17, 18, 19] rfl rfl (by decide) (by decide) rfl hk1 hFc ht hvm hB
    have hP : va_P (dC, dI) cls ((oX3 (p0a 0) p0a p0k p0n (o_35.2)) ++ (oX6 (p0a 5) p0_4a p0_4k p0_4w p0_4l)) H := hP.sub [11, 12, 13, 14, 15, 16, 17, 18, 19, 20, 21, 0, 1, 2, 3, 4, 5, 6, 7, 8, 9, 10] rfl
    have hD : va_D A ((oX3 (p0a 0) p0a p0k p0n (o_35.2)) ++ (oX6 (p0a 5) p0_4a p0_4k p0_4w p0_4l)) := hD.sub [11, 12, 13, 14, 15, 16, 17, 18, 19, 20, 21, 0, 1, 2, 3, 4, 5, 6, 7, 8, 9, 10] (by decide) rfl
    have hK : va_K (dC, dI) cls ((tX3 p0k) ++ (tX6 p0_4k)) s := hK.sub [10, 11, 12, 13, 14, 15, 16, 17, 18, 19, 0, 1, 2, 3, 4, 5, 6, 7, 8, 9] rfl
    obtain rfl : r36 = (o_35.1) := hw
    rcases br9 hrun with ⟨hc37, hrun⟩ | ⟨hc37, hrun⟩
    · refine lv_if_eq (tgt := 221) hx hb dX3_moveVariable_192 (by decide) (fun _ => ?_) (fun c => absurd hc37 c)
      exact J221 (o_35.2) _ _ _ hrun hP hD hS (lv_sub hl [] rfl)
    · refine lv_if_eq (tgt := 221) hx hb dX3_moveVariable_192 (by decide) (fun c => absurd c hc37) (fun _ => ?_)
      refine lv_aload_n hx hb dX3_moveVariable_195 rfl (lv_at hl 1 rfl) ?_
      refine va_get (D := (dC, dI)) (ci := 10) (v := .ref (p0a 12)) (C := RX3) (T := TX3) (N := 20) hx hb hts i_X3 hown hK hP 0 rfl rfl 11 (by decide) (hts _ qw742) (fun _ h9 => h9) rfl dX3_moveVariable_196 ?_
      refine lv_iload_n hx hb dX3_moveVariable_199 rfl (lv_at hl 2 rfl) ?_
      refine lv_aload_n hx hb dX3_moveVariable_200 rfl (lv_at hl 1 rfl) ?_
      refine va_get (D := (dC, dI)) (ci := 10) (v := .ref (p0a 5)) (C := RX3) (T := TX3) (N := 20) hx hb hts i_X3 hown hK hP 0 rfl rfl 4 (by decide) (hts _ qw733) (fun _ h9 => h9) rfl dX3_moveVariable_201 ?_
      refine va_get (D := (dC, dI)) (ci := 2) (v := .ref (p0_4a 13)) (C := RX6) (T := TX6) (N := 13) hx hb hts i_X6 hown hK hP 11 rfl rfl 12 (by decide) (hts _ qw767) (fun _ h9 => h9) rfl dX3_moveVariable_204 ?_
      refine lv_iload_n hx hb dX3_moveVariable_207 rfl (lv_at hl 4 rfl) ?_
      obtain ⟨hq38, hrun⟩ := chk9 hrun
      refine va_iald hx hb hK hP 21 19 rfl rfl (ixb_in hq38) dX3_moveVariable_208 ?_
      obtain ⟨hq39, hrun⟩ := chk9 hrun
      refine va_iast hx hb hK hP hD hS 4 3 rfl rfl (ixb_in hq39) dX3_moveVariable_209 (fun H locs hP hD hS => ?_)
      have hP : va_P (dC, dI) cls ((oX3 (p0a 0) p0a p0k p0n (upw (o_35.2) 12 (nn p1) (p0_4w 13 (nn p3)))) ++ (oX6 (p0a 5) p0_4a p0_4k p0_4w p0_4l)) H := hP
      have hD : va_D A ((oX3 (p0a 0) p0a p0k p0n (upw (o_35.2) 12 (nn p1) (p0_4w 13 (nn p3)))) ++ (oX6 (p0a 5) p0_4a p0_4k p0_4w p0_4l)) := hD
      obtain ⟨w40, ew40, hrun⟩ := let9 hrun
      rw [← ew40] at hP hD
      refine lv_goto (tgt := 221) hx hb dX3_moveVariable_210 (by decide) ?_
      exact J221 w40 _ _ _ hrun hP hD hS (lv_sub hl [] rfl)
  rcases br9 hrun with ⟨hc41, hrun⟩ | ⟨hc41, hrun⟩
  · refine lv_tableIn (off := 213) (tgt := 221) hx hb dX3_moveVariable_8 (by rw [hc41]; decide) (by rw [hc41]; decide) (by rw [hc41]; rfl) (by decide) ?_
    exact J221 p0w _ _ _ hrun hP hD hS (lv_sub hl [] rfl)
  rcases br9 hrun with ⟨hc42, hrun⟩ | ⟨hc42, hrun⟩
  · refine lv_tableIn (off := 205) (tgt := 213) hx hb dX3_moveVariable_8 (by rw [hc42]; decide) (by rw [hc42]; decide) (by rw [hc42]; rfl) (by decide) ?_
    refine lv_aload_n hx hb dX3_moveVariable_213 rfl (lv_at hl 1 rfl) ?_
    obtain ⟨o_43, hc_43, hrun⟩ := bnd9 hrun
    have hPc := hP.sub (ws' := (oX3 (p0a 0) p0a p0k p0n p0w)) [0, 1, 2, 3, 4, 5, 6, 7, 8, 9, 10] rfl
    have hDc := hD.sub (ws' := (oX3 (p0a 0) p0a p0k p0n p0w)) [0, 1, 2, 3, 4, 5, 6, 7, 8, 9, 10] (by decide) rfl
    have hKc := hK.sub (tys' := (tX3 p0k)) [0, 1, 2, 3, 4, 5, 6, 7, 8, 9] rfl
    have hFc := va_free (wc := (oX3 (p0a 0) p0a p0k p0n p0w)) hD hS hA [0, 1, 2, 3, 4, 5, 6, 7, 8, 9, 10] rfl
    refine va_calli (va_runV (As := []) (rest := []) ⟨hx, hb, hml, hown, hts⟩ (kX3_pop l dC dI (p0a := (st0 (p0a 0) p0a)) (p0k := p0k) (p0n := p0n) (p0w := p0w) (sz := _) (o := o_43) (hrun := hc_43)) (cwV 0 hts (gi_V qw738 qw739 qw740 qw722 (gi_z qw737)) rfl rfl rfl (by decide +kernel) ⟨Nat.le_of_ble_eq_true rfl, Nat.le_of_ble_eq_true rfl⟩) ⟨PRE.blind, va_recv hKc hPc (ci := 10) (q0 := 0) rfl rfl, PRE.of hE hS hFc hPc hKc hDc⟩ rfl rfl hl.1 rfl (lv_room (Nat.le_of_ble_eq_true rfl)) dX3_moveVariable_214 ⟨Nat.le_of_ble_eq_true rfl, Nat.le_of_ble_eq_true rfl⟩) hS (fun q _ h => hFc q h) hFc (fun r44 u t H locs ht hvm hw hB hz1 hk1 hS => ?_)
    obtain ⟨hP, hD, hK⟩ := JOIN (wr := (oX6 (p0a 5) p0_4a p0_4k p0_4w p0_4l)) hP hD hK [0, 1, 2, 3, 4, 5, 6, 7, 8, 9, 10] [11, 12, 13, 14, 15, 16, 17, 18, 19, 20, 21] [10, 11, 12, 13, 14, 15, 16, 17, 18, 19] rfl rfl (by decide) (by decide) rfl hk1 hFc ht hvm hB
    have hP : va_P (dC, dI) cls ((oX3 (p0a 0) p0a p0k p0n (o_43.2)) ++ (oX6 (p0a 5) p0_4a p0_4k p0_4w p0_4l)) H := hP.sub [11, 12, 13, 14, 15, 16, 17, 18, 19, 20, 21, 0, 1, 2, 3, 4, 5, 6, 7, 8, 9, 10] rfl
    have hD : va_D A ((oX3 (p0a 0) p0a p0k p0n (o_43.2)) ++ (oX6 (p0a 5) p0_4a p0_4k p0_4w p0_4l)) := hD.sub [11, 12, 13, 14, 15, 16, 17, 18, 19, 20, 21, 0, 1, 2, 3, 4, 5, 6, 7, 8, 9, 10] (by decide) rfl
    have hK : va_K (dC, dI) cls ((tX3 p0k) ++ (tX6 p0_4k)) s := hK.sub [10, 11, 12, 13, 14, 15, 16, 17, 18, 19, 0, 1, 2, 3, 4, 5, 6, 7, 8, 9] rfl
    obtain rfl : r44 = (o_43.1) := hw
    refine lv_pop hx hb dX3_moveVariable_217 rfl ?_
    refine lv_goto (tgt := 221) hx hb dX3_moveVariable_218 (by decide) ?_
    exact J221 (o_43.2) _ _ _ hrun hP hD hS (lv_sub hl [] rfl)
  refine lv_tableOut (tgt := 221) hx hb dX3_moveVariable_8 (by have g0 := lv_neT hc1 (show Int32.toInt 22 = 22 by decide); have g1 := lv_neT hc5 (show Int32.toInt 23 = 23 by decide); have g2 := lv_neT hc6 (show Int32.toInt 24 = 24 by decide); have g3 := lv_neT hc7 (show Int32.toInt 25 = 25 by decide); have g4 := lv_neT hc8 (show Int32.toInt 26 = 26 by decide); have g5 := lv_neT hc9 (show Int32.toInt 27 = 27 by decide); have g6 := lv_neT hc10 (show Int32.toInt 28 = 28 by decide); have g7 := lv_neT hc11 (show Int32.toInt 29 = 29 by decide); have g8 := lv_neT hc12 (show Int32.toInt 30 = 30 by decide); have g9 := lv_neT hc15 (show Int32.toInt 31 = 31 by decide); have g10 := lv_neT hc20 (show Int32.toInt 32 = 32 by decide); have g11 := lv_neT hc27 (show Int32.toInt 33 = 33 by decide); have g12 := lv_neT hc34 (show Int32.toInt 34 = 34 by decide); have g13 := lv_neT hc41 (show Int32.toInt 35 = 35 by decide); have g14 := lv_neT hc42 (show Int32.toInt 36 = 36 by decide); omega) (by decide) ?_
  exact J221 p0w _ _ _ hrun hP hD hS (lv_sub hl [] rfl)
def fX3_readWord (p0w : ST) (p1 : Int32) : Option Int32 := (if ixb (p1 &&& 15) 16 = true then some (p0w 4 (nn (p1 &&& 15))) else none)
set_option maxHeartbeats 16000000 in
set_option maxRecDepth 100000 in
theorem kX3_readWord {zs : Nat × Nat} (l : Launch) (dC : Nat → ClassId) (dI : Nat → Nat → Nat) (p0a : Nat → Nat) (p0k : Nat → ClassId) (p0n : Nat → Nat) (p0w : ST) (p1 : Int32) (sz : Nat) (o : Int32) (hrun : fX3_readWord p0w p1 = some o) : Met l yX3_readWord (wz yX3_readWord cX3_readWord 2 (Option.some Jvm.ClassFile.FieldType.int)) ({ frames := 0, cells := 0, slots := 0, locals := 0 } : Room) (va_Pc [.ref (p0a 0), .int p1] (PRE zs dC dI (oX3 (p0a 0) p0a p0k p0n p0w) (tX3 p0k) sz)) (va_Qi (fun (r : Int32) (_ : Unit) => r = o) (fun _ t => POST dC dI (oX3 (p0a 0) p0a p0k p0n p0w) (tX3 p0k) (va_A (oX3 (p0a 0) p0a p0k p0n p0w) sz) t) (va_A (oX3 (p0a 0) p0a p0k p0n p0w) sz)) 0 0 (va_A (oX3 (p0a 0) p0a p0k p0n p0w) sz) := by
  refine Met.ofW (cc := cX3_readWord) (maxL := 2) (ret := (Option.some Jvm.ClassFile.FieldType.int)) (by decide) rfl ?_
  intro p e s m args below meth c s₁ B hml hv
  obtain ⟨rfl, hsz, hP, hK, hD0, hE⟩ := hv
  have hx := B.exec
  have hb := B.bytes
  have hr := B.returns
  have hts0 := atoms_spec (ws := wz yX3_readWord cX3_readWord 2 (Option.some Jvm.ClassFile.FieldType.int)) B.pre
  have hts : ∀ w ∈ gw, w.before _ s = true := fun w h => hts0 w (List.mem_cons_of_mem _ h)
  have hown : s.vm.findClass RX3 = some m.cls := findClass_of_methodNamed B.named
  have hlocks := B.notSynchronized
  subst hsz
  have hD := hD0.self (sz := s.heap.size)
  refine gQ9 ?_
  intro Q hQ
  generalize hAe : va_A (oX3 (p0a 0) p0a p0k p0n p0w) s.heap.size = A at hD hE hQ
  have hA : ∀ q : Nat, s.heap.size ≤ q → A q := fun q h => by rw [← hAe]; exact Or.inr h
  have hS : va_S A s.heap s.heap [] := va_S.rf
  have hP : va_P (dC, dI) cls (oX3 (p0a 0) p0a p0k p0n p0w) s.heap := hP
  have hl := lv_entry ([.ref (p0a 0), .int p1]) (n := 2) (Nat.le_of_ble_eq_true rfl)
  rw [lg_entry_eq]
  generalize (lg_sl ([.ref (p0a 0), .int p1]) ++ List.replicate (2 - (lg_sl ([.ref (p0a 0), .int p1])).length) Slot.unset).toArray = ls at hl ⊢
  have hl : lv_has ls 2 [(0, .ref (p0a 0)), (1, .int p1)] := hl
  obtain ⟨H, hHe⟩ : ∃ H, H = s.heap := ⟨_, rfl⟩
  obtain ⟨locs, hle⟩ : ∃ locs : List Loc, locs = [] := ⟨_, rfl⟩
  rw [← hHe] at hP
  have hS : va_S A s.heap H locs := by rw [hHe, hle]; exact hS
  show W p l e ({ frames := 0, cells := 0, slots := 0, locals := 0 } : Room) s m ([.ref (p0a 0), .int p1] : List Value).toArray below meth c s.heap [] 0 0 Q (F0 m 0 ls [])
  rw [← hle]
  refine wH9 hHe ?_
  unfold fX3_readWord at hrun
  refine lv_aload_n hx hb dX3_readWord_0 rfl (lv_at hl 0 rfl) ?_
  refine va_get (D := (dC, dI)) (ci := 10) (v := .ref (p0a 4)) (C := RX3) (T := TX3) (N := 20) hx hb hts i_X3 hown hK hP 0 rfl rfl 3 (by decide) (hts _ qw714) (fun _ h9 => h9) rfl dX3_readWord_1 ?_
  refine lv_iload_n hx hb dX3_readWord_4 rfl (lv_at hl 1 rfl) ?_
  refine lv_bipush (v := 15) hx hb dX3_readWord_5 (by decide) ?_
  refine lv_iand hx hb dX3_readWord_7 ?_
  obtain ⟨hq1, hrun⟩ := chk9 hrun
  refine va_iald hx hb hK hP 1 0 rfl rfl (ixb_in hq1) dX3_readWord_8 ?_
  have ho9 : (p0w 4 (nn (p1 &&& 15))) = o := Option.some.inj hrun
  have hP9 : va_P (dC, dI) cls (oX3 (p0a 0) p0a p0k p0n p0w) H := by first | exact hP | (rw [← ho9]; exact hP)
  have hD9 : va_D A (oX3 (p0a 0) p0a p0k p0n p0w) := by first | exact hD | (rw [← ho9]; exact hD)
  subst hQ
  exact W.iret (v := (p0w 4 (nn (p1 &&& 15)))) hx hb hr (fun t ht hW => ⟨⟨(p0w 4 (nn (p1 &&& 15))), (), rfl, (by rw [← ho9]), ⟨by rw [ht]; exact hP9, va_K.moved hW.alike hK, hD9⟩⟩, hS.F ht⟩) hS.2.2 dX3_readWord_9
def fX3_writeWord (p0w : ST) (p1 : Int32) (p2 : Int32) : Option ST := (if ixb (p1 &&& 15) 16 = true then (lt9 (upw p0w 4 (nn (p1 &&& 15)) p2) fun (w2 : ST) => some w2) else none)
set_option maxHeartbeats 16000000 in
set_option maxRecDepth 100000 in
theorem kX3_writeWord {zs : Nat × Nat} (l : Launch) (dC : Nat → ClassId) (dI : Nat → Nat → Nat) (p0a : Nat → Nat) (p0k : Nat → ClassId) (p0n : Nat → Nat) (p0w : ST) (p1 : Int32) (p2 : Int32) (sz : Nat) (o : ST) (hrun : fX3_writeWord p0w p1 p2 = some o) : Met l yX3_writeWord (wz yX3_writeWord cX3_writeWord 3 (Option.none : Option Jvm.ClassFile.FieldType)) ({ frames := 0, cells := 0, slots := 0, locals := 0 } : Room) (va_Pc [.ref (p0a 0), .int p1, .int p2] (PRE zs dC dI (oX3 (p0a 0) p0a p0k p0n p0w) (tX3 p0k) sz)) (va_Qv (fun (_ : Unit) => True) (fun _ t => POST dC dI (oX3 (p0a 0) p0a p0k p0n o) (tX3 p0k) (va_A (oX3 (p0a 0) p0a p0k p0n p0w) sz) t) (va_A (oX3 (p0a 0) p0a p0k p0n p0w) sz)) 0 0 (va_A (oX3 (p0a 0) p0a p0k p0n p0w) sz) := by
  refine Met.ofW (cc := cX3_writeWord) (maxL := 3) (ret := (Option.none : Option Jvm.ClassFile.FieldType)) (by decide) rfl ?_
  intro p e s m args below meth c s₁ B hml hv
  obtain ⟨rfl, hsz, hP, hK, hD0, hE⟩ := hv
  have hx := B.exec
  have hb := B.bytes
  have hr := B.returns
  have hts0 := atoms_spec (ws := wz yX3_writeWord cX3_writeWord 3 (Option.none : Option Jvm.ClassFile.FieldType)) B.pre
  have hts : ∀ w ∈ gw, w.before _ s = true := fun w h => hts0 w (List.mem_cons_of_mem _ h)
  have hown : s.vm.findClass RX3 = some m.cls := findClass_of_methodNamed B.named
  have hlocks := B.notSynchronized
  subst hsz
  have hD := hD0.self (sz := s.heap.size)
  refine gQ9 ?_
  intro Q hQ
  generalize hAe : va_A (oX3 (p0a 0) p0a p0k p0n p0w) s.heap.size = A at hD hE hQ
  have hA : ∀ q : Nat, s.heap.size ≤ q → A q := fun q h => by rw [← hAe]; exact Or.inr h
  have hS : va_S A s.heap s.heap [] := va_S.rf
  have hP : va_P (dC, dI) cls (oX3 (p0a 0) p0a p0k p0n p0w) s.heap := hP
  have hl := lv_entry ([.ref (p0a 0), .int p1, .int p2]) (n := 3) (Nat.le_of_ble_eq_true rfl)
  rw [lg_entry_eq]
  generalize (lg_sl ([.ref (p0a 0), .int p1, .int p2]) ++ List.replicate (3 - (lg_sl ([.ref (p0a 0), .int p1, .int p2])).length) Slot.unset).toArray = ls at hl ⊢
  have hl : lv_has ls 3 [(0, .ref (p0a 0)), (1, .int p1), (2, .int p2)] := hl
  obtain ⟨H, hHe⟩ : ∃ H, H = s.heap := ⟨_, rfl⟩
  obtain ⟨locs, hle⟩ : ∃ locs : List Loc, locs = [] := ⟨_, rfl⟩
  rw [← hHe] at hP
  have hS : va_S A s.heap H locs := by rw [hHe, hle]; exact hS
  show W p l e ({ frames := 0, cells := 0, slots := 0, locals := 0 } : Room) s m ([.ref (p0a 0), .int p1, .int p2] : List Value).toArray below meth c s.heap [] 0 0 Q (F0 m 0 ls [])
  rw [← hle]
  refine wH9 hHe ?_
  unfold fX3_writeWord at hrun
  refine lv_aload_n hx hb dX3_writeWord_0 rfl (lv_at hl 0 rfl) ?_
  refine va_get (D := (dC, dI)) (ci := 10) (v := .ref (p0a 4)) (C := RX3) (T := TX3) (N := 20) hx hb hts i_X3 hown hK hP 0 rfl rfl 3 (by decide) (hts _ qw714) (fun _ h9 => h9) rfl dX3_writeWord_1 ?_
  refine lv_iload_n hx hb dX3_writeWord_4 rfl (lv_at hl 1 rfl) ?_
  refine lv_bipush (v := 15) hx hb dX3_writeWord_5 (by decide) ?_
  refine lv_iand hx hb dX3_writeWord_7 ?_
  refine lv_iload_n hx hb dX3_writeWord_8 rfl (lv_at hl 2 rfl) ?_
  obtain ⟨hq1, hrun⟩ := chk9 hrun
  refine va_iast hx hb hK hP hD hS 1 0 rfl rfl (ixb_in hq1) dX3_writeWord_9 (fun H locs hP hD hS => ?_)
  have hP : va_P (dC, dI) cls (oX3 (p0a 0) p0a p0k p0n (upw p0w 4 (nn (p1 &&& 15)) p2)) H := hP
  have hD : va_D A (oX3 (p0a 0) p0a p0k p0n (upw p0w 4 (nn (p1 &&& 15)) p2)) := hD
  obtain ⟨w2, ew2, hrun⟩ := let9 hrun
  rw [← ew2] at hP hD
  have ho9 : w2 = o := Option.some.inj hrun
  have hP9 : va_P (dC, dI) cls (oX3 (p0a 0) p0a p0k p0n o) H := by first | exact hP | (rw [← ho9]; exact hP)
  have hD9 : va_D A (oX3 (p0a 0) p0a p0k p0n o) := by first | exact hD | (rw [← ho9]; exact hD)
  subst hQ
  exact W.vret hx hb hr (fun t ht hW => ⟨⟨(), rfl, trivial, ⟨by rw [ht]; exact hP9, va_K.moved hW.alike hK, hD9⟩⟩, hS.F ht⟩) hS.2.2 dX3_writeWord_10
def fX3_moveWord_J156 (p0w_156 : ST) : Option ST := some p0w_156
def fX3_moveWord (p0n : Nat → Nat) (p0w : ST) (p1 : Int32) (p2 : Int32) (p3 : Int32) (p0_4w : ST) : Option ST := (if p2 = 0 then ((fX3_push p0w p3).bind fun (o_2 : ST) => (fX3_moveWord_J156 o_2)) else (if p2 = 17 then ((fX3_pop p0w).bind fun (o_4 : Int32 × ST) => ((fX3_readWord (o_4.2) (o_4.1)).bind fun (o_6 : Int32) => ((fX3_push (o_4.2) o_6).bind fun (o_8 : ST) => (fX3_moveWord_J156 o_8)))) else (if p2 = 18 then ((fX3_pop p0w).bind fun (o_10 : Int32 × ST) => ((fX3_pop (o_10.2)).bind fun (o_12 : Int32 × ST) => ((fX3_writeWord (o_12.2) (o_12.1) (o_10.1)).bind fun (o_14 : ST) => (fX3_moveWord_J156 o_14)))) else (if p2 = 20 then ((fX3_enter p0n p0w 0 p3 p0_4w).bind fun (o_16 : ST) => (fX3_moveWord_J156 o_16)) else (if p2 = 21 then ((fX3_argumentOf p0w p1 p3).bind fun (o_18 : Int32) => (if ixb ((p1 * 320) + p3) 2560 = true then (lt9 (upw p0w 16 (nn ((p1 * 320) + p3)) o_18) fun (w21 : ST) => (fX3_moveWord_J156 w21)) else none)) else (if p2 = 24 then ((fX3_pop p0w).bind fun (o_23 : Int32 × ST) => ((fX3_close (o_23.2) (o_23.1)).bind fun (o_25 : Int32 × ST) => (if (o_25.1) = 0 then (fX3_moveWord_J156 (o_25.2)) else ((fX3_push (o_25.2) (o_23.1)).bind fun (o_28 : ST) => (fX3_moveWord_J156 o_28))))) else (fX3_moveWord_J156 p0w)))))))
set_option maxHeartbeats 16000000 in
set_option maxRecDepth 100000 in
theorem kX3_moveWord {zs : Nat × Nat} (l : Launch) (dC : Nat → ClassId) (dI : Nat → Nat → Nat) (p0a : Nat → Nat) (p0k : Nat → ClassId) (p0n : Nat → Nat) (p0w : ST) (p1 : Int32) (p2 : Int32) (p3 : Int32) (p0_4a : Nat → Nat) (p0_4k : Nat → ClassId) (p0_4w : ST) (p0_4l : SL) (sz : Nat) (o : ST) (hrun : fX3_moveWord p0n p0w p1 p2 p3 p0_4w = some o) : Met l yX3_moveWord (wz yX3_moveWord cX3_moveWord 6 (Option.none : Option Jvm.ClassFile.FieldType)) ({ frames := 3, cells := 0, slots := 0, locals := 71 } : Room) (va_Pc [.ref (p0a 0), .int p1, .int p2, .int p3] (PRE zs dC dI ((oX3 (p0a 0) p0a p0k p0n p0w) ++ (oX6 (p0a 5) p0_4a p0_4k p0_4w p0_4l)) ((tX3 p0k) ++ (tX6 p0_4k)) sz)) (va_Qv (fun (_ : Unit) => True) (fun _ t => POST dC dI ((oX3 (p0a 0) p0a p0k p0n o) ++ (oX6 (p0a 5) p0_4a p0_4k p0_4w p0_4l)) ((tX3 p0k) ++ (tX6 p0_4k)) (va_A ((oX3 (p0a 0) p0a p0k p0n p0w) ++ (oX6 (p0a 5) p0_4a p0_4k p0_4w p0_4l)) sz) t) (va_A ((oX3 (p0a 0) p0a p0k p0n p0w) ++ (oX6 (p0a 5) p0_4a p0_4k p0_4w p0_4l)) sz)) 0 0 (va_A ((oX3 (p0a 0) p0a p0k p0n p0w) ++ (oX6 (p0a 5) p0_4a p0_4k p0_4w p0_4l)) sz) := by
  refine Met.ofW (cc := cX3_moveWord) (maxL := 6) (ret := (Option.none : Option Jvm.ClassFile.FieldType)) (by decide) rfl ?_
  intro p e s m args below meth c s₁ B hml hv
  obtain ⟨rfl, hsz, hP, hK, hD0, hE⟩ := hv
  have hx := B.exec
  have hb := B.bytes
  have hr := B.returns
  have hts0 := atoms_spec (ws := wz yX3_moveWord cX3_moveWord 6 (Option.none : Option Jvm.ClassFile.FieldType)) B.pre
  have hts : ∀ w ∈ gw, w.before _ s = true := fun w h => hts0 w (List.mem_cons_of_mem _ h)
  have hown : s.vm.findClass RX3 = some m.cls := findClass_of_methodNamed B.named
  have hlocks := B.notSynchronized
  subst hsz
  have hD := hD0.self (sz := s.heap.size)
  refine gQ9 ?_
  intro Q hQ
  generalize hAe : va_A ((oX3 (p0a 0) p0a p0k p0n p0w) ++ (oX6 (p0a 5) p0_4a p0_4k p0_4w p0_4l)) s.heap.size = A at hD hE hQ
  have hA : ∀ q : Nat, s.heap.size ≤ q → A q := fun q h => by rw [← hAe]; exact Or.inr h
  have hS : va_S A s.heap s.heap [] := va_S.rf
  have hP : va_P (dC, dI) cls ((oX3 (p0a 0) p0a p0k p0n p0w) ++ (oX6 (p0a 5) p0_4a p0_4k p0_4w p0_4l)) s.heap := hP
  have hl := lv_entry ([.ref (p0a 0), .int p1, .int p2, .int p3]) (n := 6) (Nat.le_of_ble_eq_true rfl)
  rw [lg_entry_eq]
  generalize (lg_sl ([.ref (p0a 0), .int p1, .int p2, .int p3]) ++ List.replicate (6 - (lg_sl ([.ref (p0a 0), .int p1, .int p2, .int p3])).length) Slot.unset).toArray = ls at hl ⊢
  have hl : lv_has ls 6 [(0, .ref (p0a 0)), (1, .int p1), (2, .int p2), (3, .int p3)] := hl
  obtain ⟨H, hHe⟩ : ∃ H, H = s.heap := ⟨_, rfl⟩
  obtain ⟨locs, hle⟩ : ∃ locs : List Loc, locs = [] := ⟨_, rfl⟩
  rw [← hHe] at hP
  have hS : va_S A s.heap H locs := by rw [hHe, hle]; exact hS
  show W p l e ({ frames := 3, cells := 0, slots := 0, locals := 71 } : Room) s m ([.ref (p0a 0), .int p1, .int p2, .int p3] : List Value).toArray below meth c s.heap [] 0 0 Q (F0 m 0 ls [])
  rw [← hle]
  refine wH9 hHe ?_
  unfold fX3_moveWord at hrun
  refine lv_iload_n hx hb dX3_moveWord_0 rfl (lv_at hl 2 rfl) ?_
  have J156 : ∀ (p0w_156 : ST) (H : Heap) (locs : List Loc) (ls : Array Slot), (fX3_moveWord_J156 p0w_156) = some o → va_P (dC, dI) cls ((oX3 (p0a 0) p0a p0k p0n p0w_156) ++ (oX6 (p0a 5) p0_4a p0_4k p0_4w p0_4l)) H → va_D A ((oX3 (p0a 0) p0a p0k p0n p0w_156) ++ (oX6 (p0a 5) p0_4a p0_4k p0_4w p0_4l)) → va_S A s.heap H locs → lv_has ls 6 [] → W p l e ({ frames := 3, cells := 0, slots := 0, locals := 71 } : Room) s m ([.ref (p0a 0), .int p1, .int p2, .int p3] : List Value).toArray below meth c H locs 0 0 Q (F0 m 156 ls []) := by
    intro p0w_156 H locs ls hrun hP hD hS hl
    unfold fX3_moveWord_J156 at hrun
    have ho9 : p0w_156 = o := Option.some.inj hrun
    have hP9 : va_P (dC, dI) cls ((oX3 (p0a 0) p0a p0k p0n o) ++ (oX6 (p0a 5) p0_4a p0_4k p0_4w p0_4l)) H := by first | exact hP | (rw [← ho9]; exact hP)
    have hD9 : va_D A ((oX3 (p0a 0) p0a p0k p0n o) ++ (oX6 (p0a 5) p0_4a p0_4k p0_4w p0_4l)) := by first | exact hD | (rw [← ho9]; exact hD)
    subst hQ
    exact W.vret hx hb hr (fun t ht hW => ⟨⟨(), rfl, trivial, ⟨by rw [ht]; exact hP9, va_K.moved hW.alike hK, hD9⟩⟩, hS.F ht⟩) hS.2.2 dX3_moveWord_156
  rcases br9 hrun with ⟨hc1, hrun⟩ | ⟨hc1, hrun⟩
  · refine lv_lookup (off := 59) (tgt := 60) hx hb dX3_moveWord_1 (by decide) (by rw [hc1]; decide) (by decide) ?_
    refine lv_aload_n hx hb dX3_moveWord_60 rfl (lv_at hl 0 rfl) ?_
    refine lv_iload_n hx hb dX3_moveWord_61 rfl (lv_at hl 3 rfl) ?_
    obtain ⟨o_2, hc_2, hrun⟩ := bnd9 hrun
    have hPc := hP.sub (ws' := (oX3 (p0a 0) p0a p0k p0n p0w)) [0, 1, 2, 3, 4, 5, 6, 7, 8, 9, 10] rfl
    have hDc := hD.sub (ws' := (oX3 (p0a 0) p0a p0k p0n p0w)) [0, 1, 2, 3, 4, 5, 6, 7, 8, 9, 10] (by decide) rfl
    have hKc := hK.sub (tys' := (tX3 p0k)) [0, 1, 2, 3, 4, 5, 6, 7, 8, 9] rfl
    have hFc := va_free (wc := (oX3 (p0a 0) p0a p0k p0n p0w)) hD hS hA [0, 1, 2, 3, 4, 5, 6, 7, 8, 9, 10] rfl
    refine va_callv (va_runV (As := [.int p3]) (rest := []) ⟨hx, hb, hml, hown, hts⟩ (kX3_push l dC dI (p0a := (st0 (p0a 0) p0a)) (p0k := p0k) (p0n := p0n) (p0w := p0w) (p1 := p3) (sz := _) (o := o_2) (hrun := hc_2)) (cwV 1 hts (gi_V qw769 qw770 qw771 qw722 (gi_z qw768)) rfl rfl rfl (by decide +kernel) ⟨Nat.le_of_ble_eq_true rfl, Nat.le_of_ble_eq_true rfl⟩) ⟨PRE.blind, va_recv hKc hPc (ci := 10) (q0 := 0) rfl rfl, PRE.of hE hS hFc hPc hKc hDc⟩ rfl rfl hl.1 rfl (lv_room (Nat.le_of_ble_eq_true rfl)) dX3_moveWord_62 ⟨Nat.le_of_ble_eq_true rfl, Nat.le_of_ble_eq_true rfl⟩) hS (fun q _ h => hFc q h) hFc (fun u t H locs ht hvm hw hB hz1 hk1 hS => ?_)
    obtain ⟨hP, hD, hK⟩ := JOIN (wr := (oX6 (p0a 5) p0_4a p0_4k p0_4w p0_4l)) hP hD hK [0, 1, 2, 3, 4, 5, 6, 7, 8, 9, 10] [11, 12, 13, 14, 15, 16, 17, 18, 19, 20, 21] [10, 11, 12, 13, 14, 15, 16, 17, 18, 19] rfl rfl (by decide) (by decide) rfl hk1 hFc ht hvm hB
    have hP : va_P (dC, dI) cls ((oX3 (p0a 0) p0a p0k p0n o_2) ++ (oX6 (p0a 5) p0_4a p0_4k p0_4w p0_4l)) H := hP.sub [11, 12, 13, 14, 15, 16, 17, 18, 19, 20, 21, 0, 1, 2, 3, 4, 5, 6, 7, 8, 9, 10] rfl
    have hD : va_D A ((oX3 (p0a 0) p0a p0k p0n o_2) ++ (oX6 (p0a 5) p0_4a p0_4k p0_4w p0_4l)) := hD.sub [11, 12, 13, 14, 15, 16, 17, 18, 19, 20, 21, 0, 1, 2, 3, 4, 5, 6, 7, 8, 9, 10] (by decide) rfl
    have hK : va_K (dC, dI) cls ((tX3 p0k) ++ (tX6 p0_4k)) s := hK.sub [10, 11, 12, 13, 14, 15, 16, 17, 18, 19, 0, 1, 2, 3, 4, 5, 6, 7, 8, 9] rfl
    refine lv_goto (tgt := 156) hx hb dX3_moveWord_65 (by decide) ?_
    exact J156 o_2 _ _ _ hrun hP hD hS (lv_sub hl [] rfl)
  rcases br9 hrun with ⟨hc3, hrun⟩ | ⟨hc3, hrun⟩
  · refine lv_lookup (off := 67) (tgt := 68) hx hb dX3_moveWord_1 (by decide) (by rw [hc3]; decide) (by decide) ?_
    refine lv_aload_n hx hb dX3_moveWord_68 rfl (lv_at hl 0 rfl) ?_
    refine lv_aload_n hx hb dX3_moveWord_69 rfl (lv_at hl 0 rfl) ?_
    refine lv_aload_n hx hb dX3_moveWord_70 rfl (lv_at hl 0 rfl) ?_
    obtain ⟨o_4, hc_4, hrun⟩ := bnd9 hrun
    have hPc := hP.sub (ws' := (oX3 (p0a 0) p0a p0k p0n p0w)) [0, 1, 2, 3, 4, 5, 6, 7, 8, 9, 10] rfl
    have hDc := hD.sub (ws' := (oX3 (p0a 0) p0a p0k p0n p0w)) [0, 1, 2, 3, 4, 5, 6, 7, 8, 9, 10] (by decide) rfl
    have hKc := hK.sub (tys' := (tX3 p0k)) [0, 1, 2, 3, 4, 5, 6, 7, 8, 9] rfl
    have hFc := va_free (wc := (oX3 (p0a 0) p0a p0k p0n p0w)) hD hS hA [0, 1, 2, 3, 4, 5, 6, 7, 8, 9, 10] rfl
    refine va_calli (va_runV (As := []) (rest := [.ref (p0a 0), .ref (p0a 0)]) ⟨hx, hb, hml, hown, hts⟩ (kX3_pop l dC dI (p0a := (st0 (p0a 0) p0a)) (p0k := p0k) (p0n := p0n) (p0w := p0w) (sz := _) (o := o_4) (hrun := hc_4)) (cwV 0 hts (gi_V qw738 qw739 qw740 qw722 (gi_z qw737)) rfl rfl rfl (by decide +kernel) ⟨Nat.le_of_ble_eq_true rfl, Nat.le_of_ble_eq_true rfl⟩) ⟨PRE.blind, va_recv hKc hPc (ci := 10) (q0 := 0) rfl rfl, PRE.of hE hS hFc hPc hKc hDc⟩ rfl rfl hl.1 rfl (lv_room (Nat.le_of_ble_eq_true rfl)) dX3_moveWord_71 ⟨Nat.le_of_ble_eq_true rfl, Nat.le_of_ble_eq_true rfl⟩) hS (fun q _ h => hFc q h) hFc (fun r5 u t H locs ht hvm hw hB hz1 hk1 hS => ?_)
    obtain ⟨hP, hD, hK⟩ := JOIN (wr := (oX6 (p0a 5) p0_4a p0_4k p0_4w p0_4l)) hP hD hK [0, 1, 2, 3, 4, 5, 6, 7, 8, 9, 10] [11, 12, 13, 14, 15, 16, 17, 18, 19, 20, 21] [10, 11, 12, 13, 14, 15, 16, 17, 18, 19] rfl rfl (by decide) (by decide) rfl hk1 hFc ht hvm hB
    have hP : va_P (dC, dI) cls ((oX3 (p0a 0) p0a p0k p0n (o_4.2)) ++ (oX6 (p0a 5) p0_4a p0_4k p0_4w p0_4l)) H := hP.sub [11, 12, 13, 14, 15, 16, 17, 18, 19, 20, 21, 0, 1, 2, 3, 4, 5, 6, 7, 8, 9, 10] rfl
    have hD : va_D A ((oX3 (p0a 0) p0a p0k p0n (o_4.2)) ++ (oX6 (p0a 5) p0_4a p0_4k p0_4w p0_4l)) := hD.sub [11, 12, 13, 14, 15, 16, 17, 18, 19, 20, 21, 0, 1, 2, 3, 4, 5, 6, 7, 8, 9, 10] (by decide) rfl
    have hK : va_K (dC, dI) cls ((tX3 p0k) ++ (tX6 p0_4k)) s := hK.sub [10, 11, 12, 13, 14, 15, 16, 17, 18, 19, 0, 1, 2, 3, 4, 5, 6, 7, 8, 9] rfl
    obtain rfl : r5 = (o_4.1) := hw
    obtain ⟨o_6, hc_6, hrun⟩ := bnd9 hrun
    have hPc := hP.sub (ws' := (oX3 (p0a 0) p0a p0k p0n (o_4.2))) [0, 1, 2, 3, 4, 5, 6, 7, 8, 9, 10] rfl
    have hDc := hD.sub (ws' := (oX3 (p0a 0) p0a p0k p0n (o_4.2))) [0, 1, 2, 3, 4, 5, 6, 7, 8, 9, 10] (by decide) rfl
    have hKc := hK.sub (tys' := (tX3 p0k)) [0, 1, 2, 3, 4, 5, 6, 7, 8, 9] rfl
    have hFc := va_free (wc := (oX3 (p0a 0) p0a p0k p0n (o_4.2))) hD hS hA [0, 1, 2, 3, 4, 5, 6, 7, 8, 9, 10] rfl
    refine va_calli (va_runV (As := [.int (o_4.1)]) (rest := [.ref (p0a 0)]) ⟨hx, hb, hml, hown, hts⟩ (kX3_readWord l dC dI (p0a := (st0 (p0a 0) p0a)) (p0k := p0k) (p0n := p0n) (p0w := (o_4.2)) (p1 := (o_4.1)) (sz := _) (o := o_6) (hrun := hc_6)) (cwV 1 hts (gi_V qw777 qw778 qw779 qw722 (gi_z qw776)) rfl rfl rfl (by decide +kernel) ⟨Nat.le_of_ble_eq_true rfl, Nat.le_of_ble_eq_true rfl⟩) ⟨PRE.blind, va_recv hKc hPc (ci := 10) (q0 := 0) rfl rfl, PRE.of hE hS hFc hPc hKc hDc⟩ rfl rfl hl.1 rfl (lv_room (Nat.le_of_ble_eq_true rfl)) dX3_moveWord_74 ⟨Nat.le_of_ble_eq_true rfl, Nat.le_of_ble_eq_true rfl⟩) hS (fun q _ h => hFc q h) hFc (fun r7 u t H locs ht hvm hw hB hz1 hk1 hS => ?_)
    obtain ⟨hP, hD, hK⟩ := JOIN (wr := (oX6 (p0a 5) p0_4a p0_4k p0_4w p0_4l)) hP hD hK [0, 1, 2, 3, 4, 5, 6, 7, 8, 9, 10] [11, 12, 13, 14, 15, 16, 17, 18, 19, 20, 21] [10, 11, 12, 13, 14, 15, 16, 17, 18, 19] rfl rfl (by decide) (by decide) rfl hk1 hFc ht hvm hB
    have hP : va_P (dC, dI) cls ((oX3 (p0a 0) p0a p0k p0n (o_4.2)) ++ (oX6 (p0a 5) p0_4a p0_4k p0_4w p0_4l)) H := hP.sub [11, 12, 13, 14, 15, 16, 17, 18, 19, 20, 21, 0, 1, 2, 3, 4, 5, 6, 7, 8, 9, 10] rfl
    have hD : va_D A ((oX3 (p0a 0) p0a p0k p0n (o_4.2)) ++ (oX6 (p0a 5) p0_4a p0_4k p0_4w p0_4l)) := hD.sub [11, 12, 13, 14, 15, 16, 17, 18, 19, 20, 21, 0, 1, 2, 3, 4, 5, 6, 7, 8, 9, 10] (by decide) rfl
    have hK : va_K (dC, dI) cls ((tX3 p0k) ++ (tX6 p0_4k)) s := hK.sub [10, 11, 12, 13, 14, 15, 16, 17, 18, 19, 0, 1, 2, 3, 4, 5, 6, 7, 8, 9] rfl
    obtain rfl : o_6 = r7 := hw.symm
    obtain ⟨o_8, hc_8, hrun⟩ := bnd9 hrun
    have hPc := hP.sub (ws' := (oX3 (p0a 0) p0a p0k p0n (o_4.2))) [0, 1, 2, 3, 4, 5, 6, 7, 8, 9, 10] rfl
    have hDc := hD.sub (ws' := (oX3 (p0a 0) p0a p0k p0n (o_4.2))) [0, 1, 2, 3, 4, 5, 6, 7, 8, 9, 10] (by decide) rfl
    have hKc := hK.sub (tys' := (tX3 p0k)) [0, 1, 2, 3, 4, 5, 6, 7, 8, 9] rfl
    have hFc := va_free (wc := (oX3 (p0a 0) p0a p0k p0n (o_4.2))) hD hS hA [0, 1, 2, 3, 4, 5, 6, 7, 8, 9, 10] rfl
    refine va_callv (va_runV (As := [.int o_6]) (rest := []) ⟨hx, hb, hml, hown, hts⟩ (kX3_push l dC dI (p0a := (st0 (p0a 0) p0a)) (p0k := p0k) (p0n := p0n) (p0w := (o_4.2)) (p1 := o_6) (sz := _) (o := o_8) (hrun := hc_8)) (cwV 1 hts (gi_V qw769 qw770 qw771 qw722 (gi_z qw768)) rfl rfl rfl (by decide +kernel) ⟨Nat.le_of_ble_eq_true rfl, Nat.le_of_ble_eq_true rfl⟩) ⟨PRE.blind, va_recv hKc hPc (ci := 10) (q0 := 0) rfl rfl, PRE.of hE hS hFc hPc hKc hDc⟩ rfl rfl hl.1 rfl (lv_room (Nat.le_of_ble_eq_true rfl)) dX3_moveWord_77 ⟨Nat.le_of_ble_eq_true rfl, Nat.le_of_ble_eq_true rfl⟩) hS (fun q _ h => hFc q h) hFc (fun u t H locs ht hvm hw hB hz1 hk1 hS => ?_)
    obtain ⟨hP, hD, hK⟩ := JOIN (wr := (oX6 (p0a 5) p0_4a p0_4k p0_4w p0_4l)) hP hD hK [0, 1, 2, 3, 4, 5, 6, 7, 8, 9, 10] [11, 12, 13, 14, 15, 16, 17, 18, 19, 20, 21] [10, 11, 12, 13, 14, 15, 16, 17, 18, 19] rfl rfl (by decide) (by decide) rfl hk1 hFc ht hvm hB
    have hP : va_P (dC, dI) cls ((oX3 (p0a 0) p0a p0k p0n o_8) ++ (oX6 (p0a 5) p0_4a p0_4k p0_4w p0_4l)) H := hP.sub [11, 12, 13, 14, 15, 16, 17, 18, 19, 20, 21, 0, 1, 2, 3, 4, 5, 6, 7, 8, 9, 10] rfl
    have hD : va_D A ((oX3 (p0a 0) p0a p0k p0n o_8) ++ (oX6 (p0a 5) p0_4a p0_4k p0_4w p0_4l)) := hD.sub [11, 12, 13, 14, 15, 16, 17, 18, 19, 20, 21, 0, 1, 2, 3, 4, 5, 6, 7, 8, 9, 10] (by decide) rfl
    have hK : va_K (dC, dI) cls ((tX3 p0k) ++ (tX6 p0_4k)) s := hK.sub [10, 11, 12, 13, 14, 15, 16, 17, 18, 19, 0, 1, 2, 3, 4, 5, 6, 7, 8, 9] rfl
    refine lv_goto (tgt := 156) hx hb dX3_moveWord_80 (by decide) ?_
    exact J156 o_8 _ _ _ hrun hP hD hS (lv_sub hl [] rfl)
  rcases br9 hrun with ⟨hc9, hrun⟩ | ⟨hc9, hrun⟩
  · refine lv_lookup (off := 82) (tgt := 83) hx hb dX3_moveWord_1 (by decide) (by rw [hc9]; decide) (by decide) ?_
    refine lv_aload_n hx hb dX3_moveWord_83 rfl (lv_at hl 0 rfl) ?_
    obtain ⟨o_10, hc_10, hrun⟩ := bnd9 hrun
    have hPc := hP.sub (ws' := (oX3 (p0a 0) p0a p0k p0n p0w)) [0, 1, 2, 3, 4, 5, 6, 7, 8, 9, 10] rfl
    have hDc := hD.sub (ws' := (oX3 (p0a 0) p0a p0k p0n p0w)) [0, 1, 2, 3, 4, 5, 6, 7, 8, 9, 10] (by decide) rfl
    have hKc := hK.sub (tys' := (tX3 p0k)) [0, 1, 2, 3, 4, 5, 6, 7, 8, 9] rfl
    have hFc := va_free (wc := (oX3 (p0a 0) p0a p0k p0n p0w)) hD hS hA [0, 1, 2, 3, 4, 5, 6, 7, 8, 9, 10] rfl
    refine va_calli (va_runV (As := []) (rest := []) ⟨hx, hb, hml, hown, hts⟩ (kX3_pop l dC dI (p0a := (st0 (p0a 0) p0a)) (p0k := p0k) (p0n := p0n) (p0w := p0w) (sz := _) (o := o_10) (hrun := hc_10)) (cwV 0 hts (gi_V qw738 qw739 qw740 qw722 (gi_z qw737)) rfl rfl rfl (by decide +kernel) ⟨Nat.le_of_ble_eq_true rfl, Nat.le_of_ble_eq_true rfl⟩) ⟨PRE.blind, va_recv hKc hPc (ci := 10) (q0 := 0) rfl rfl, PRE.of hE hS hFc hPc hKc hDc⟩ rfl rfl hl.1 rfl (lv_room (Nat.le_of_ble_eq_true rfl)) dX3_moveWord_84 ⟨Nat.le_of_ble_eq_true rfl, Nat.le_of_ble_eq_true rfl⟩) hS (fun q _ h => hFc q h) hFc (fun r11 u t H locs ht hvm hw hB hz1 hk1 hS => ?_)
    obtain ⟨hP, hD, hK⟩ := JOIN (wr := (oX6 (p0a 5) p0_4a p0_4k p0_4w p0_4l)) hP hD hK [0, 1, 2, 3, 4, 5, 6, 7, 8, 9, 10] [11, 12, 13, 14, 15, 16, 17, 18, 19, 20, 21] [10, 11, 12, 13, 14, 15, 16, 17, 18, 19] rfl rfl (by decide) (by decide) rfl hk1 hFc ht hvm hB
    have hP : va_P (dC, dI) cls ((oX3 (p0a 0) p0a p0k p0n (o_10.2)) ++ (oX6 (p0a 5) p0_4a p0_4k p0_4w p0_4l)) H := hP.sub [11, 12, 13, 14, 15, 16, 17, 18, 19, 20, 21, 0, 1, 2, 3, 4, 5, 6, 7, 8, 9, 10] rfl
    have hD : va_D A ((oX3 (p0a 0) p0a p0k p0n (o_10.2)) ++ (oX6 (p0a 5) p0_4a p0_4k p0_4w p0_4l)) := hD.sub [11, 12, 13, 14, 15, 16, 17, 18, 19, 20, 21, 0, 1, 2, 3, 4, 5, 6, 7, 8, 9, 10] (by decide) rfl
    have hK : va_K (dC, dI) cls ((tX3 p0k) ++ (tX6 p0_4k)) s := hK.sub [10, 11, 12, 13, 14, 15, 16, 17, 18, 19, 0, 1, 2, 3, 4, 5, 6, 7, 8, 9] rfl
    obtain rfl : r11 = (o_10.1) := hw
    refine lv_istore (lv' := [(4, .int (o_10.1)), (0, .ref (p0a 0)), (1, .int p1), (2, .int p2), (3, .int p3)]) hx hb dX3_moveWord_87 hl (by decide) rfl (fun ls hl => ?_)
    refine lv_aload_n hx hb dX3_moveWord_89 rfl (lv_at hl 1 rfl) ?_
    refine lv_aload_n hx hb dX3_moveWord_90 rfl (lv_at hl 1 rfl) ?_
    obtain ⟨o_12, hc_12, hrun⟩ := bnd9 hrun
    have hPc := hP.sub (ws' := (oX3 (p0a 0) p0a p0k p0n (o_10.2))) [0, 1, 2, 3, 4, 5, 6, 7, 8, 9, 10] rfl
    have hDc := hD.sub (ws' := (oX3 (p0a 0) p0a p0k p0n (o_10.2))) [0, 1, 2, 3, 4, 5, 6, 7, 8, 9, 10] (by decide) rfl
    have hKc := hK.sub (tys' := (tX3 p0k)) [0, 1, 2, 3, 4, 5, 6, 7, 8, 9] rfl
    have hFc := va_free (wc := (oX3 (p0a 0) p0a p0k p0n (o_10.2))) hD hS hA [0, 1, 2, 3, 4, 5, 6, 7, 8, 9, 10] rfl
    refine va_calli (va_runV (As := []) (rest := [.ref (p0a 0)]) ⟨hx, hb, hml, hown, hts⟩ (kX3_pop l dC dI (p0a := (st0 (p0a 0) p0a)) (p0k := p0k) (p0n := p0n) (p0w := (o_10.2)) (sz := _) (o := o_12) (hrun := hc_12)) (cwV 0 hts (gi_V qw738 qw739 qw740 qw722 (gi_z qw737)) rfl rfl rfl (by decide +kernel) ⟨Nat.le_of_ble_eq_true rfl, Nat.le_of_ble_eq_true rfl⟩) ⟨PRE.blind, va_recv hKc hPc (ci := 10) (q0 := 0) rfl rfl, PRE.of hE hS hFc hPc hKc hDc⟩ rfl rfl hl.1 rfl (lv_room (Nat.le_of_ble_eq_true rfl)) dX3_moveWord_91 ⟨Nat.le_of_ble_eq_true rfl, Nat.le_of_ble_eq_true rfl⟩) hS (fun q _ h => hFc q h) hFc (fun r13 u t H locs ht hvm hw hB hz1 hk1 hS => ?_)
    obtain ⟨hP, hD, hK⟩ := JOIN (wr := (oX6 (p0a 5) p0_4a p0_4k p0_4w p0_4l)) hP hD hK [0, 1, 2, 3, 4, 5, 6, 7, 8, 9, 10] [11, 12, 13, 14, 15, 16, 17, 18, 19, 20, 21] [10, 11, 12, 13, 14, 15, 16, 17, 18, 19] rfl rfl (by decide) (by decide) rfl hk1 hFc ht hvm hB
    have hP : va_P (dC, dI) cls ((oX3 (p0a 0) p0a p0k p0n (o_12.2)) ++ (oX6 (p0a 5) p0_4a p0_4k p0_4w p0_4l)) H := hP.sub [11, 12, 13, 14, 15, 16, 17, 18, 19, 20, 21, 0, 1, 2, 3, 4, 5, 6, 7, 8, 9, 10] rfl
    have hD : va_D A ((oX3 (p0a 0) p0a p0k p0n (o_12.2)) ++ (oX6 (p0a 5) p0_4a p0_4k p0_4w p0_4l)) := hD.sub [11, 12, 13, 14, 15, 16, 17, 18, 19, 20, 21, 0, 1, 2, 3, 4, 5, 6, 7, 8, 9, 10] (by decide) rfl
    have hK : va_K (dC, dI) cls ((tX3 p0k) ++ (tX6 p0_4k)) s := hK.sub [10, 11, 12, 13, 14, 15, 16, 17, 18, 19, 0, 1, 2, 3, 4, 5, 6, 7, 8, 9] rfl
    obtain rfl : r13 = (o_12.1) := hw
    refine lv_iload hx hb dX3_moveWord_94 (lv_at hl 0 rfl) ?_
    obtain ⟨o_14, hc_14, hrun⟩ := bnd9 hrun
    have hPc := hP.sub (ws' := (oX3 (p0a 0) p0a p0k p0n (o_12.2))) [0, 1, 2, 3, 4, 5, 6, 7, 8, 9, 10] rfl
    have hDc := hD.sub (ws' := (oX3 (p0a 0) p0a p0k p0n (o_12.2))) [0, 1, 2, 3, 4, 5, 6, 7, 8, 9, 10] (by decide) rfl
    have hKc := hK.sub (tys' := (tX3 p0k)) [0, 1, 2, 3, 4, 5, 6, 7, 8, 9] rfl
    have hFc := va_free (wc := (oX3 (p0a 0) p0a p0k p0n (o_12.2))) hD hS hA [0, 1, 2, 3, 4, 5, 6, 7, 8, 9, 10] rfl
    refine va_callv (va_runV (As := [.int (o_12.1), .int (o_10.1)]) (rest := []) ⟨hx, hb, hml, hown, hts⟩ (kX3_writeWord l dC dI (p0a := (st0 (p0a 0) p0a)) (p0k := p0k) (p0n := p0n) (p0w := (o_12.2)) (p1 := (o_12.1)) (p2 := (o_10.1)) (sz := _) (o := o_14) (hrun := hc_14)) (cwV 2 hts (gi_V qw781 qw782 qw783 qw722 (gi_z qw780)) rfl rfl rfl (by decide +kernel) ⟨Nat.le_of_ble_eq_true rfl, Nat.le_of_ble_eq_true rfl⟩) ⟨PRE.blind, va_recv hKc hPc (ci := 10) (q0 := 0) rfl rfl, PRE.of hE hS hFc hPc hKc hDc⟩ rfl rfl hl.1 rfl (lv_room (Nat.le_of_ble_eq_true rfl)) dX3_moveWord_96 ⟨Nat.le_of_ble_eq_true rfl, Nat.le_of_ble_eq_true rfl⟩) hS (fun q _ h => hFc q h) hFc (fun u t H locs ht hvm hw hB hz1 hk1 hS => ?_)
    obtain ⟨hP, hD, hK⟩ := JOIN (wr := (oX6 (p0a 5) p0_4a p0_4k p0_4w p0_4l)) hP hD hK [0, 1, 2, 3, 4, 5, 6, 7, 8, 9, 10] [11, 12, 13, 14, 15, 16, 17, 18, 19, 20, 21] [10, 11, 12, 13, 14, 15, 16, 17, 18, 19] rfl rfl (by decide) (by decide) rfl hk1 hFc ht hvm hB
    have hP : va_P (dC, dI) cls ((oX3 (p0a 0) p0a p0k p0n o_14) ++ (oX6 (p0a 5) p0_4a p0_4k p0_4w p0_4l)) H := hP.sub [11, 12, 13, 14, 15, 16, 17, 18, 19, 20, 21, 0, 1, 2, 3, 4, 5, 6, 7, 8, 9, 10] rfl
    have hD : va_D A ((oX3 (p0a 0) p0a p0k p0n o_14) ++ (oX6 (p0a 5) p0_4a p0_4k p0_4w p0_4l)) := hD.sub [11, 12, 13, 14, 15, 16, 17, 18, 19, 20, 21, 0, 1, 2, 3, 4, 5, 6, 7, 8, 9, 10] (by decide) rfl
    have hK : va_K (dC, dI) cls ((tX3 p0k) ++ (tX6 p0_4k)) s := hK.sub [10, 11, 12, 13, 14, 15, 16, 17, 18, 19, 0, 1, 2, 3, 4, 5, 6, 7, 8, 9] rfl
    refine lv_goto (tgt := 156) hx hb dX3_moveWord_99 (by decide) ?_
    exact J156 o_14 _ _ _ hrun hP hD hS (lv_sub hl [] rfl)
  rcases br9 hrun with ⟨hc15, hrun⟩ | ⟨hc15, hrun⟩
  · refine lv_lookup (off := 122) (tgt := 123) hx hb dX3_moveWord_1 (by decide) (by rw [hc15]; decide) (by decide) ?_
    refine lv_aload_n hx hb dX3_moveWord_123 rfl (lv_at hl 0 rfl) ?_
    refine lv_iconst (v := 0) hx hb dX3_moveWord_124 (by decide) ?_
    refine lv_iload_n hx hb dX3_moveWord_125 rfl (lv_at hl 3 rfl) ?_
    obtain ⟨o_16, hc_16, hrun⟩ := bnd9 hrun
    have hPc := hP.sub (ws' := ((oX3 (p0a 0) p0a p0k p0n p0w) ++ (oX6 (p0a 5) p0_4a p0_4k p0_4w p0_4l))) [0, 1, 2, 3, 4, 5, 6, 7, 8, 9, 10, 11, 12, 13, 14, 15, 16, 17, 18, 19, 20, 21] rfl
    have hDc := hD.sub (ws' := ((oX3 (p0a 0) p0a p0k p0n p0w) ++ (oX6 (p0a 5) p0_4a p0_4k p0_4w p0_4l))) [0, 1, 2, 3, 4, 5, 6, 7, 8, 9, 10, 11, 12, 13, 14, 15, 16, 17, 18, 19, 20, 21] (by decide) rfl
    have hKc := hK.sub (tys' := ((tX3 p0k) ++ (tX6 p0_4k))) [0, 1, 2, 3, 4, 5, 6, 7, 8, 9, 10, 11, 12, 13, 14, 15, 16, 17, 18, 19] rfl
    have hFc := va_free (wc := ((oX3 (p0a 0) p0a p0k p0n p0w) ++ (oX6 (p0a 5) p0_4a p0_4k p0_4w p0_4l))) hD hS hA [0, 1, 2, 3, 4, 5, 6, 7, 8, 9, 10, 11, 12, 13, 14, 15, 16, 17, 18, 19, 20, 21] rfl
    refine va_callv (va_runV (As := [.int 0, .int p3]) (rest := []) ⟨hx, hb, hml, hown, hts⟩ (kX3_enter l dC dI (p0a := (st0 (p0a 0) p0a)) (p0k := p0k) (p0n := p0n) (p0w := p0w) (p1 := 0) (p2 := p3) (p0_4a := p0_4a) (p0_4k := p0_4k) (p0_4w := p0_4w) (p0_4l := p0_4l) (sz := _) (o := o_16) (hrun := hc_16)) (cwV 2 hts (gi_V qw785 qw786 qw787 qw722 (gi_z qw784)) rfl rfl rfl (by decide +kernel) ⟨Nat.le_of_ble_eq_true rfl, Nat.le_of_ble_eq_true rfl⟩) ⟨PRE.blind, va_recv hKc hPc (ci := 10) (q0 := 0) rfl rfl, PRE.of hE hS hFc hPc hKc hDc⟩ rfl rfl hl.1 rfl (lv_room (Nat.le_of_ble_eq_true rfl)) dX3_moveWord_126 ⟨Nat.le_of_ble_eq_true rfl, Nat.le_of_ble_eq_true rfl⟩) hS (fun q _ h => hFc q h) hFc (fun u t H locs ht hvm hw hB hz1 hk1 hS => ?_)
    obtain ⟨hP, hD, hK⟩ := JOIN (wr := ([] : va_W)) hP hD hK [0, 1, 2, 3, 4, 5, 6, 7, 8, 9, 10, 11, 12, 13, 14, 15, 16, 17, 18, 19, 20, 21] [] [] rfl rfl (by decide) (by decide) rfl hk1 hFc ht hvm hB
    have hP : va_P (dC, dI) cls ((oX3 (p0a 0) p0a p0k p0n o_16) ++ (oX6 (p0a 5) p0_4a p0_4k p0_4w p0_4l)) H := hP.sub [0, 1, 2, 3, 4, 5, 6, 7, 8, 9, 10, 11, 12, 13, 14, 15, 16, 17, 18, 19, 20, 21] rfl
    have hD : va_D A ((oX3 (p0a 0) p0a p0k p0n o_16) ++ (oX6 (p0a 5) p0_4a p0_4k p0_4w p0_4l)) := hD.sub [0, 1, 2, 3, 4, 5, 6, 7, 8, 9, 10, 11, 12, 13, 14, 15, 16, 17, 18, 19, 20, 21] (by decide) rfl
    have hK : va_K (dC, dI) cls ((tX3 p0k) ++ (tX6 p0_4k)) s := hK.sub [0, 1, 2, 3, 4, 5, 6, 7, 8, 9, 10, 11, 12, 13, 14, 15, 16, 17, 18, 19] rfl
    refine lv_goto (tgt := 156) hx hb dX3_moveWord_129 (by decide) ?_
    exact J156 o_16 _ _ _ hrun hP hD hS (lv_sub hl [] rfl)
  rcases br9 hrun with ⟨hc17, hrun⟩ | ⟨hc17, hrun⟩
  · refine lv_lookup (off := 101) (tgt := 102) hx hb dX3_moveWord_1 (by decide) (by rw [hc17]; decide) (by decide) ?_
    refine lv_aload_n hx hb dX3_moveWord_102 rfl (lv_at hl 0 rfl) ?_
    refine va_get (D := (dC, dI)) (ci := 10) (v := .ref (p0a 16)) (C := RX3) (T := TX3) (N := 20) hx hb hts i_X3 hown hK hP 0 rfl rfl 15 (by decide) (hts _ qw725) (fun _ h9 => h9) rfl dX3_moveWord_103 ?_
    refine lv_iload_n hx hb dX3_moveWord_106 rfl (lv_at hl 1 rfl) ?_
    refine lv_sipush (v := 320) hx hb dX3_moveWord_107 (by decide) ?_
    refine lv_imul hx hb dX3_moveWord_110 ?_
    refine lv_iload_n hx hb dX3_moveWord_111 rfl (lv_at hl 3 rfl) ?_
    refine lv_iadd hx hb dX3_moveWord_112 ?_
    refine lv_aload_n hx hb dX3_moveWord_113 rfl (lv_at hl 0 rfl) ?_
    refine lv_iload_n hx hb dX3_moveWord_114 rfl (lv_at hl 1 rfl) ?_
    refine lv_iload_n hx hb dX3_moveWord_115 rfl (lv_at hl 3 rfl) ?_
    obtain ⟨o_18, hc_18, hrun⟩ := bnd9 hrun
    have hPc := hP.sub (ws' := (oX3 (p0a 0) p0a p0k p0n p0w)) [0, 1, 2, 3, 4, 5, 6, 7, 8, 9, 10] rfl
    have hDc := hD.sub (ws' := (oX3 (p0a 0) p0a p0k p0n p0w)) [0, 1, 2, 3, 4, 5, 6, 7, 8, 9, 10] (by decide) rfl
    have hKc := hK.sub (tys' := (tX3 p0k)) [0, 1, 2, 3, 4, 5, 6, 7, 8, 9] rfl
    have hFc := va_free (wc := (oX3 (p0a 0) p0a p0k p0n p0w)) hD hS hA [0, 1, 2, 3, 4, 5, 6, 7, 8, 9, 10] rfl
    refine va_calli (va_runV (As := [.int p1, .int p3]) (rest := [.int ((p1 * 320) + p3), .ref (p0a 16)]) ⟨hx, hb, hml, hown, hts⟩ (kX3_argumentOf l dC dI (p0a := (st0 (p0a 0) p0a)) (p0k := p0k) (p0n := p0n) (p0w := p0w) (p1 := p1) (p2 := p3) (sz := _) (o := o_18) (hrun := hc_18)) (cwV 2 hts (gi_V qw789 qw790 qw791 qw722 (gi_z qw788)) rfl rfl rfl (by decide +kernel) ⟨Nat.le_of_ble_eq_true rfl, Nat.le_of_ble_eq_true rfl⟩) ⟨PRE.blind, va_recv hKc hPc (ci := 10) (q0 := 0) rfl rfl, PRE.of hE hS hFc hPc hKc hDc⟩ rfl rfl hl.1 rfl (lv_room (Nat.le_of_ble_eq_true rfl)) dX3_moveWord_116 ⟨Nat.le_of_ble_eq_true rfl, Nat.le_of_ble_eq_true rfl⟩) hS (fun q _ h => hFc q h) hFc (fun r19 u t H locs ht hvm hw hB hz1 hk1 hS => ?_)
    obtain ⟨hP, hD, hK⟩ := JOIN (wr := (oX6 (p0a 5) p0_4a p0_4k p0_4w p0_4l)) hP hD hK [0, 1, 2, 3, 4, 5, 6, 7, 8, 9, 10] [11, 12, 13, 14, 15, 16, 17, 18, 19, 20, 21] [10, 11, 12, 13, 14, 15, 16, 17, 18, 19] rfl rfl (by decide) (by decide) rfl hk1 hFc ht hvm hB
    have hP : va_P (dC, dI) cls ((oX3 (p0a 0) p0a p0k p0n p0w) ++ (oX6 (p0a 5) p0_4a p0_4k p0_4w p0_4l)) H := hP.sub [11, 12, 13, 14, 15, 16, 17, 18, 19, 20, 21, 0, 1, 2, 3, 4, 5, 6, 7, 8, 9, 10] rfl
    have hD : va_D A ((oX3 (p0a 0) p0a p0k p0n p0w) ++ (oX6 (p0a 5) p0_4a p0_4k p0_4w p0_4l)) := hD.sub [11, 12, 13, 14, 15, 16, 17, 18, 19, 20, 21, 0, 1, 2, 3, 4, 5, 6, 7, 8, 9, 10] (by decide) rfl
    have hK : va_K (dC, dI) cls ((tX3 p0k) ++ (tX6 p0_4k)) s := hK.sub [10, 11, 12, 13, 14, 15, 16, 17, 18, 19, 0, 1, 2, 3, 4, 5, 6, 7, 8, 9] rfl
    obtain rfl : o_18 = r19 := hw.symm
    obtain ⟨hq20, hrun⟩ := chk9 hrun
    refine va_iast hx hb hK hP hD hS 8 7 rfl rfl (ixb_in hq20) dX3_moveWord_119 (fun H locs hP hD hS => ?_)
    have hP : va_P (dC, dI) cls ((oX3 (p0a 0) p0a p0k p0n (upw p0w 16 (nn ((p1 * 320) + p3)) o_18)) ++ (oX6 (p0a 5) p0_4a p0_4k p0_4w p0_4l)) H := hP
    have hD : va_D A ((oX3 (p0a 0) p0a p0k p0n (upw p0w 16 (nn ((p1 * 320) + p3)) o_18)) ++ (oX6 (p0a 5) p0_4a p0_4k p0_4w p0_4l)) := hD
    obtain ⟨w21, ew21, hrun⟩ := let9 hrun
    rw [← ew21] at hP hD
    refine lv_goto (tgt := 156) hx hb dX3_moveWord_120 (by decide) ?_
    exact J156 w21 _ _ _ hrun hP hD hS (lv_sub hl [] rfl)
  rcases br9 hrun with ⟨hc22, hrun⟩ | ⟨hc22, hrun⟩
  · refine lv_lookup (off := 131) (tgt := 132) hx hb dX3_moveWord_1 (by decide) (by rw [hc22]; decide) (by decide) ?_
    refine lv_aload_n hx hb dX3_moveWord_132 rfl (lv_at hl 0 rfl) ?_
    obtain ⟨o_23, hc_23, hrun⟩ := bnd9 hrun
    have hPc := hP.sub (ws' := (oX3 (p0a 0) p0a p0k p0n p0w)) [0, 1, 2, 3, 4, 5, 6, 7, 8, 9, 10] rfl
    have hDc := hD.sub (ws' := (oX3 (p0a 0) p0a p0k p0n p0w)) [0, 1, 2, 3, 4, 5, 6, 7, 8, 9, 10] (by decide) rfl
    have hKc := hK.sub (tys' := (tX3 p0k)) [0, 1, 2, 3, 4, 5, 6, 7, 8, 9] rfl
    have hFc := va_free (wc := (oX3 (p0a 0) p0a p0k p0n p0w)) hD hS hA [0, 1, 2, 3, 4, 5, 6, 7, 8, 9, 10] rfl
    refine va_calli (va_runV (As := []) (rest := []) ⟨hx, hb, hml, hown, hts⟩ (kX3_pop l dC dI (p0a := (st0 (p0a 0) p0a)) (p0k := p0k) (p0n := p0n) (p0w := p0w) (sz := _) (o := o_23) (hrun := hc_23)) (cwV 0 hts (gi_V qw738 qw739 qw740 qw722 (gi_z qw737)) rfl rfl rfl (by decide +kernel) ⟨Nat.le_of_ble_eq_true rfl, Nat.le_of_ble_eq_true rfl⟩) ⟨PRE.blind, va_recv hKc hPc (ci := 10) (q0 := 0) rfl rfl, PRE.of hE hS hFc hPc hKc hDc⟩ rfl rfl hl.1 rfl (lv_room (Nat.le_of_ble_eq_true rfl)) dX3_moveWord_133 ⟨Nat.le_of_ble_eq_true rfl, Nat.le_of_ble_eq_true rfl⟩) hS (fun q _ h => hFc q h) hFc (fun r24 u t H locs ht hvm hw hB hz1 hk1 hS => ?_)
    obtain ⟨hP, hD, hK⟩ := JOIN (wr := (oX6 (p0a 5) p0_4a p0_4k p0_4w p0_4l)) hP hD hK [0, 1, 2, 3, 4, 5, 6, 7, 8, 9, 10] [11, 12, 13, 14, 15, 16, 17, 18, 19, 20, 21] [10, 11, 12, 13, 14, 15, 16, 17, 18, 19] rfl rfl (by decide) (by decide) rfl hk1 hFc ht hvm hB
    have hP : va_P (dC, dI) cls ((oX3 (p0a 0) p0a p0k p0n (o_23.2)) ++ (oX6 (p0a 5) p0_4a p0_4k p0_4w p0_4l)) H := hP.sub [11, 12, 13, 14, 15, 16, 17, 18, 19, 20, 21, 0, 1, 2, 3, 4, 5, 6, 7, 8, 9, 10] rfl
    have hD : va_D A ((oX3 (p0a 0) p0a p0k p0n (o_23.2)) ++ (oX6 (p0a 5) p0_4a p0_4k p0_4w p0_4l)) := hD.sub [11, 12, 13, 14, 15, 16, 17, 18, 19, 20, 21, 0, 1, 2, 3, 4, 5, 6, 7, 8, 9, 10] (by decide) rfl
    have hK : va_K (dC, dI) cls ((tX3 p0k) ++ (tX6 p0_4k)) s := hK.sub [10, 11, 12, 13, 14, 15, 16, 17, 18, 19, 0, 1, 2, 3, 4, 5, 6, 7, 8, 9] rfl
    obtain rfl : r24 = (o_23.1) := hw
    refine lv_istore (lv' := [(5, .int (o_23.1)), (0, .ref (p0a 0)), (1, .int p1), (2, .int p2), (3, .int p3)]) hx hb dX3_moveWord_136 hl (by decide) rfl (fun ls hl => ?_)
    refine lv_aload_n hx hb dX3_moveWord_138 rfl (lv_at hl 1 rfl) ?_
    refine lv_iload hx hb dX3_moveWord_139 (lv_at hl 0 rfl) ?_
    obtain ⟨o_25, hc_25, hrun⟩ := bnd9 hrun
    have hPc := hP.sub (ws' := (oX3 (p0a 0) p0a p0k p0n (o_23.2))) [0, 1, 2, 3, 4, 5, 6, 7, 8, 9, 10] rfl
    have hDc := hD.sub (ws' := (oX3 (p0a 0) p0a p0k p0n (o_23.2))) [0, 1, 2, 3, 4, 5, 6, 7, 8, 9, 10] (by decide) rfl
    have hKc := hK.sub (tys' := (tX3 p0k)) [0, 1, 2, 3, 4, 5, 6, 7, 8, 9] rfl
    have hFc := va_free (wc := (oX3 (p0a 0) p0a p0k p0n (o_23.2))) hD hS hA [0, 1, 2, 3, 4, 5, 6, 7, 8, 9, 10] rfl
    refine va_calli (va_runV (As := [.int (o_23.1)]) (rest := []) ⟨hx, hb, hml, hown, hts⟩ (kX3_close l dC dI (p0a := (st0 (p0a 0) p0a)) (p0k := p0k) (p0n := p0n) (p0w := (o_23.2)) (p1 := (o_23.1)) (sz := _) (o := o_25) (hrun := hc_25)) (cwV 1 hts (gi_V qw728 qw729 qw730 qw722 (gi_z qw727)) rfl rfl rfl (by decide +kernel) ⟨Nat.le_of_ble_eq_true rfl, Nat.le_of_ble_eq_true rfl⟩) ⟨PRE.blind, va_recv hKc hPc (ci := 10) (q0 := 0) rfl rfl, PRE.of hE hS hFc hPc hKc hDc⟩ rfl rfl hl.1 rfl (lv_room (Nat.le_of_ble_eq_true rfl)) dX3_moveWord_141 ⟨Nat.le_of_ble_eq_true rfl, Nat.le_of_ble_eq_true rfl⟩) hS (fun q _ h => hFc q h) hFc (fun r26 u t H locs ht hvm hw hB hz1 hk1 hS => ?_)
    obtain ⟨hP, hD, hK⟩ := JOIN (wr := (oX6 (p0a 5) p0_4a p0_4k p0_4w p0_4l)) hP hD hK [0, 1, 2, 3, 4, 5, 6, 7, 8, 9, 10] [11, 12, 13, 14, 15, 16, 17, 18, 19, 20, 21] [10, 11, 12, 13, 14, 15, 16, 17, 18, 19] rfl rfl (by decide) (by decide) rfl hk1 hFc ht hvm hB
    have hP : va_P (dC, dI) cls ((oX3 (p0a 0) p0a p0k p0n (o_25.2)) ++ (oX6 (p0a 5) p0_4a p0_4k p0_4w p0_4l)) H := hP.sub [11, 12, 13, 14, 15, 16, 17, 18, 19, 20, 21, 0, 1, 2, 3, 4, 5, 6, 7, 8, 9, 10] rfl
    have hD : va_D A ((oX3 (p0a 0) p0a p0k p0n (o_25.2)) ++ (oX6 (p0a 5) p0_4a p0_4k p0_4w p0_4l)) := hD.sub [11, 12, 13, 14, 15, 16, 17, 18, 19, 20, 21, 0, 1, 2, 3, 4, 5, 6, 7, 8, 9, 10] (by decide) rfl
    have hK : va_K (dC, dI) cls ((tX3 p0k) ++ (tX6 p0_4k)) s := hK.sub [10, 11, 12, 13, 14, 15, 16, 17, 18, 19, 0, 1, 2, 3, 4, 5, 6, 7, 8, 9] rfl
    obtain rfl : r26 = (o_25.1) := hw
    rcases br9 hrun with ⟨hc27, hrun⟩ | ⟨hc27, hrun⟩
    · refine lv_if_eq (tgt := 156) hx hb dX3_moveWord_144 (by decide) (fun _ => ?_) (fun c => absurd hc27 c)
      exact J156 (o_25.2) _ _ _ hrun hP hD hS (lv_sub hl [] rfl)
    · refine lv_if_eq (tgt := 156) hx hb dX3_moveWord_144 (by decide) (fun c => absurd c hc27) (fun _ => ?_)
      refine lv_aload_n hx hb dX3_moveWord_147 rfl (lv_at hl 1 rfl) ?_
      refine lv_iload hx hb dX3_moveWord_148 (lv_at hl 0 rfl) ?_
      obtain ⟨o_28, hc_28, hrun⟩ := bnd9 hrun
      have hPc := hP.sub (ws' := (oX3 (p0a 0) p0a p0k p0n (o_25.2))) [0, 1, 2, 3, 4, 5, 6, 7, 8, 9, 10] rfl
      have hDc := hD.sub (ws' := (oX3 (p0a 0) p0a p0k p0n (o_25.2))) [0, 1, 2, 3, 4, 5, 6, 7, 8, 9, 10] (by decide) rfl
      have hKc := hK.sub (tys' := (tX3 p0k)) [0, 1, 2, 3, 4, 5, 6, 7, 8, 9] rfl
      have hFc := va_free (wc := (oX3 (p0a 0) p0a p0k p0n (o_25.2))) hD hS hA [0, 1, 2, 3, 4, 5, 6, 7, 8, 9, 10] rfl
      refine va_callv (va_runV (As := [.int (o_23.1)]) (rest := []) ⟨hx, hb, hml, hown, hts⟩ (kX3_push l dC dI (p0a := (st0 (p0a 0) p0a)) (p0k := p0k) (p0n := p0n) (p0w := (o_25.2)) (p1 := (o_23.1)) (sz := _) (o := o_28) (hrun := hc_28)) (cwV 1 hts (gi_V qw769 qw770 qw771 qw722 (gi_z qw768)) rfl rfl rfl (by decide +kernel) ⟨Nat.le_of_ble_eq_true rfl, Nat.le_of_ble_eq_true rfl⟩) ⟨PRE.blind, va_recv hKc hPc (ci := 10) (q0 := 0) rfl rfl, PRE.of hE hS hFc hPc hKc hDc⟩ rfl rfl hl.1 rfl (lv_room (Nat.le_of_ble_eq_true rfl)) dX3_moveWord_150 ⟨Nat.le_of_ble_eq_true rfl, Nat.le_of_ble_eq_true rfl⟩) hS (fun q _ h => hFc q h) hFc (fun u t H locs ht hvm hw hB hz1 hk1 hS => ?_)
      obtain ⟨hP, hD, hK⟩ := JOIN (wr := (oX6 (p0a 5) p0_4a p0_4k p0_4w p0_4l)) hP hD hK [0, 1, 2, 3, 4, 5, 6, 7, 8, 9, 10] [11, 12, 13, 14, 15, 16, 17, 18, 19, 20, 21] [10, 11, 12, 13, 14, 15, 16, 17, 18, 19] rfl rfl (by decide) (by decide) rfl hk1 hFc ht hvm hB
      have hP : va_P (dC, dI) cls ((oX3 (p0a 0) p0a p0k p0n o_28) ++ (oX6 (p0a 5) p0_4a p0_4k p0_4w p0_4l)) H := hP.sub [11, 12, 13, 14, 15, 16, 17, 18, 19, 20, 21, 0, 1, 2, 3, 4, 5, 6, 7, 8, 9, 10] rfl
      have hD : va_D A ((oX3 (p0a 0) p0a p0k p0n o_28) ++ (oX6 (p0a 5) p0_4a p0_4k p0_4w p0_4l)) := hD.sub [11, 12, 13, 14, 15, 16, 17, 18, 19, 20, 21, 0, 1, 2, 3, 4, 5, 6, 7, 8, 9, 10] (by decide) rfl
      have hK : va_K (dC, dI) cls ((tX3 p0k) ++ (tX6 p0_4k)) s := hK.sub [10, 11, 12, 13, 14, 15, 16, 17, 18, 19, 0, 1, 2, 3, 4, 5, 6, 7, 8, 9] rfl
      refine lv_goto (tgt := 156) hx hb dX3_moveWord_153 (by decide) ?_
      exact J156 o_28 _ _ _ hrun hP hD hS (lv_sub hl [] rfl)
  refine lv_lookup (off := 155) (tgt := 156) hx hb dX3_moveWord_1 (by decide) (by rw [lv_osw hc1 (by decide), lv_osw hc3 (by decide), lv_osw hc9 (by decide), lv_osw hc15 (by decide), lv_osw hc17 (by decide), lv_osw hc22 (by decide)]; rfl) (by decide) ?_
  exact J156 p0w _ _ _ hrun hP hD hS (lv_sub hl [] rfl)
def fX3_operate (p0w : ST) (p1 : Int32) (p2 : Int32) (p3 : Int32) : Option (Int32 × ST) := ((fX11_isFailing p1 p3).bind fun (o_1 : Int32) => (if o_1 = 0 then ((fX11_compute p1 p2 p3).bind fun (o_4 : Int32) => some (o_4, p0w)) else ((fX3_stop p0w 1).bind fun (o_6 : ST) => some (0, o_6))))
set_option maxHeartbeats 16000000 in
set_option maxRecDepth 100000 in
theorem kX3_operate {zs : Nat × Nat} (l : Launch) (dC : Nat → ClassId) (dI : Nat → Nat → Nat) (p0a : Nat → Nat) (p0k : Nat → ClassId) (p0n : Nat → Nat) (p0w : ST) (p1 : Int32) (p2 : Int32) (p3 : Int32) (sz : Nat) (o : Int32 × ST) (hrun : fX3_operate p0w p1 p2 p3 = some o) : Met l yX3_operate (wz yX3_operate cX3_operate 4 (Option.some Jvm.ClassFile.FieldType.int)) ({ frames := 1, cells := 0, slots := 0, locals := 22 } : Room) (va_Pc [.ref (p0a 0), .int p1, .int p2, .int p3] (PRE zs dC dI (oX3 (p0a 0) p0a p0k p0n p0w) (tX3 p0k) sz)) (va_Qi (fun (r : Int32) (_ : Unit) => r = (o.1)) (fun _ t => POST dC dI (oX3 (p0a 0) p0a p0k p0n (o.2)) (tX3 p0k) (va_A (oX3 (p0a 0) p0a p0k p0n p0w) sz) t) (va_A (oX3 (p0a 0) p0a p0k p0n p0w) sz)) 0 0 (va_A (oX3 (p0a 0) p0a p0k p0n p0w) sz) := by
  refine Met.ofW (cc := cX3_operate) (maxL := 4) (ret := (Option.some Jvm.ClassFile.FieldType.int)) (by decide) rfl ?_
  intro p e s m args below meth c s₁ B hml hv
  obtain ⟨rfl, hsz, hP, hK, hD0, hE⟩ := hv
  have hx := B.exec
  have hb := B.bytes
  have hr := B.returns
  have hts0 := atoms_spec (ws := wz yX3_operate cX3_operate 4 (Option.some Jvm.ClassFile.FieldType.int)) B.pre
  have hts : ∀ w ∈ gw, w.before _ s = true := fun w h => hts0 w (List.mem_cons_of_mem _ h)
  have hown : s.vm.findClass RX3 = some m.cls := findClass_of_methodNamed B.named
  have hlocks := B.notSynchronized
  subst hsz
  have hD := hD0.self (sz := s.heap.size)
  refine gQ9 ?_
  intro Q hQ
  generalize hAe : va_A (oX3 (p0a 0) p0a p0k p0n p0w) s.heap.size = A at hD hE hQ
  have hA : ∀ q : Nat, s.heap.size ≤ q → A q := fun q h => by rw [← hAe]; exact Or.inr h
  have hS : va_S A s.heap s.heap [] := va_S.rf
  have hP : va_P (dC, dI) cls (oX3 (p0a 0) p0a p0k p0n p0w) s.heap := hP
  have hl := lv_entry ([.ref (p0a 0), .int p1, .int p2, .int p3]) (n := 4) (Nat.le_of_ble_eq_true rfl)
  rw [lg_entry_eq]
  generalize (lg_sl ([.ref (p0a 0), .int p1, .int p2, .int p3]) ++ List.replicate (4 - (lg_sl ([.ref (p0a 0), .int p1, .int p2, .int p3])).length) Slot.unset).toArray = ls at hl ⊢
  have hl : lv_has ls 4 [(0, .ref (p0a 0)), (1, .int p1), (2, .int p2), (3, .int p3)] := hl
  obtain ⟨H, hHe⟩ : ∃ H, H = s.heap := ⟨_, rfl⟩
  obtain ⟨locs, hle⟩ : ∃ locs : List Loc, locs = [] := ⟨_, rfl⟩
  rw [← hHe] at hP
  have hS : va_S A s.heap H locs := by rw [hHe, hle]; exact hS
  show W p l e ({ frames := 1, cells := 0, slots := 0, locals := 22 } : Room) s m ([.ref (p0a 0), .int p1, .int p2, .int p3] : List Value).toArray below meth c s.heap [] 0 0 Q (F0 m 0 ls [])
  rw [← hle]
  refine wH9 hHe ?_
  unfold fX3_operate at hrun
  refine lv_iload_n hx hb dX3_operate_0 rfl (lv_at hl 1 rfl) ?_
  refine lv_iload_n hx hb dX3_operate_1 rfl (lv_at hl 3 rfl) ?_
  obtain ⟨o_1, hc_1, hrun⟩ := bnd9 hrun
  have hPc := hP.sub (ws' := ([] : va_W)) [] rfl
  have hDc := hD.sub (ws' := ([] : va_W)) [] (by decide) rfl
  have hKc := hK.sub (tys' := ([] : List (ClassId × FieldType))) [] rfl
  have hFc := va_free (wc := ([] : va_W)) hD hS hA [] rfl
  refine va_calli (va_runSN (As := [.int p1, .int p3]) (rest := []) ⟨hx, hb, hml, hown, hts⟩ (kX11_isFailing l dC dI (p0 := p1) (p1 := p3) (sz := _) (o := o_1) (hrun := hc_1)) ⟨(va_cnB 2 hts (gi_z qw455) rfl rfl rfl (hE.nw (List.mem_append_right _ (tbl_9 (i := 211) rfl)) rfl) (hts _ qw159) (by decide +kernel) ⟨Nat.le_of_ble_eq_true rfl, Nat.le_of_ble_eq_true rfl⟩), (hts _ qw456), trivial⟩ ⟨PRE.blind, PRE.of hE hS hFc hPc hKc hDc⟩ rfl rfl hl.1 rfl (lv_room (Nat.le_of_ble_eq_true rfl)) dX3_operate_2 ⟨Nat.le_of_ble_eq_true rfl, Nat.le_of_ble_eq_true rfl⟩) hS (fun q _ h => hFc q h) hFc (fun r2 u t H locs ht hvm hw hB hz1 hk1 hS => ?_)
  obtain ⟨hP, hD, hK⟩ := JOIN (wr := (oX3 (p0a 0) p0a p0k p0n p0w)) hP hD hK [] [0, 1, 2, 3, 4, 5, 6, 7, 8, 9, 10] [0, 1, 2, 3, 4, 5, 6, 7, 8, 9] rfl rfl (by decide) (by decide) rfl hk1 hFc ht hvm hB
  have hP : va_P (dC, dI) cls (oX3 (p0a 0) p0a p0k p0n p0w) H := hP.sub [0, 1, 2, 3, 4, 5, 6, 7, 8, 9, 10] rfl
  have hD : va_D A (oX3 (p0a 0) p0a p0k p0n p0w) := hD.sub [0, 1, 2, 3, 4, 5, 6, 7, 8, 9, 10] (by decide) rfl
  have hK : va_K (dC, dI) cls (tX3 p0k) s := hK.sub [0, 1, 2, 3, 4, 5, 6, 7, 8, 9] rfl
  obtain rfl : o_1 = r2 := hw.symm
  rcases br9 hrun with ⟨hc3, hrun⟩ | ⟨hc3, hrun⟩
  · refine lv_if_eq (tgt := 15) hx hb dX3_operate_5 (by decide) (fun _ => ?_) (fun c => absurd hc3 c)
    refine lv_iload_n hx hb dX3_operate_15 rfl (lv_at hl 1 rfl) ?_
    refine lv_iload_n hx hb dX3_operate_16 rfl (lv_at hl 2 rfl) ?_
    refine lv_iload_n hx hb dX3_operate_17 rfl (lv_at hl 3 rfl) ?_
    obtain ⟨o_4, hc_4, hrun⟩ := bnd9 hrun
    have hPc := hP.sub (ws' := ([] : va_W)) [] rfl
    have hDc := hD.sub (ws' := ([] : va_W)) [] (by decide) rfl
    have hKc := hK.sub (tys' := ([] : List (ClassId × FieldType))) [] rfl
    have hFc := va_free (wc := ([] : va_W)) hD hS hA [] rfl
    refine va_calli (va_runSN (As := [.int p1, .int p2, .int p3]) (rest := []) ⟨hx, hb, hml, hown, hts⟩ (kX11_compute l dC dI (p0 := p1) (p1 := p2) (p2 := p3) (sz := _) (o := o_4) (hrun := hc_4)) ⟨(va_cnB 3 hts (gi_z qw457) rfl rfl rfl (hE.nw (List.mem_append_right _ (tbl_9 (i := 212) rfl)) rfl) (hts _ qw159) (by decide +kernel) ⟨Nat.le_of_ble_eq_true rfl, Nat.le_of_ble_eq_true rfl⟩), (hts _ qw458), trivial⟩ ⟨PRE.blind, PRE.of hE hS hFc hPc hKc hDc⟩ rfl rfl hl.1 rfl (lv_room (Nat.le_of_ble_eq_true rfl)) dX3_operate_18 ⟨Nat.le_of_ble_eq_true rfl, Nat.le_of_ble_eq_true rfl⟩) hS (fun q _ h => hFc q h) hFc (fun r5 u t H locs ht hvm hw hB hz1 hk1 hS => ?_)
    obtain ⟨hP, hD, hK⟩ := JOIN (wr := (oX3 (p0a 0) p0a p0k p0n p0w)) hP hD hK [] [0, 1, 2, 3, 4, 5, 6, 7, 8, 9, 10] [0, 1, 2, 3, 4, 5, 6, 7, 8, 9] rfl rfl (by decide) (by decide) rfl hk1 hFc ht hvm hB
    have hP : va_P (dC, dI) cls (oX3 (p0a 0) p0a p0k p0n p0w) H := hP.sub [0, 1, 2, 3, 4, 5, 6, 7, 8, 9, 10] rfl
    have hD : va_D A (oX3 (p0a 0) p0a p0k p0n p0w) := hD.sub [0, 1, 2, 3, 4, 5, 6, 7, 8, 9, 10] (by decide) rfl
    have hK : va_K (dC, dI) cls (tX3 p0k) s := hK.sub [0, 1, 2, 3, 4, 5, 6, 7, 8, 9] rfl
    obtain rfl : o_4 = r5 := hw.symm
    have ho9 : (o_4, p0w) = o := Option.some.inj hrun
    have hP9 : va_P (dC, dI) cls (oX3 (p0a 0) p0a p0k p0n (o.2)) H := by first | exact hP | (rw [← ho9]; exact hP)
    have hD9 : va_D A (oX3 (p0a 0) p0a p0k p0n (o.2)) := by first | exact hD | (rw [← ho9]; exact hD)
    subst hQ
    exact W.iret (v := o_4) hx hb hr (fun t ht hW => ⟨⟨o_4, (), rfl, (by rw [← ho9]), ⟨by rw [ht]; exact hP9, va_K.moved hW.alike hK, hD9⟩⟩, hS.F ht⟩) hS.2.2 dX3_operate_21
  · refine lv_if_eq (tgt := 15) hx hb dX3_operate_5 (by decide) (fun c => absurd c hc3) (fun _ => ?_)
    refine lv_aload_n hx hb dX3_operate_8 rfl (lv_at hl 0 rfl) ?_
    refine lv_iconst (v := 1) hx hb dX3_operate_9 (by decide) ?_
    obtain ⟨o_6, hc_6, hrun⟩ := bnd9 hrun
    have hPc := hP.sub (ws' := (oX3 (p0a 0) p0a p0k p0n p0w)) [0, 1, 2, 3, 4, 5, 6, 7, 8, 9, 10] rfl
    have hDc := hD.sub (ws' := (oX3 (p0a 0) p0a p0k p0n p0w)) [0, 1, 2, 3, 4, 5, 6, 7, 8, 9, 10] (by decide) rfl
    have hKc := hK.sub (tys' := (tX3 p0k)) [0, 1, 2, 3, 4, 5, 6, 7, 8, 9] rfl
    have hFc := va_free (wc := (oX3 (p0a 0) p0a p0k p0n p0w)) hD hS hA [0, 1, 2, 3, 4, 5, 6, 7, 8, 9, 10] rfl
    refine va_callv (va_runV (As := [.int 1]) (rest := []) ⟨hx, hb, hml, hown, hts⟩ (kX3_stop l dC dI (p0a := (st0 (p0a 0) p0a)) (p0k := p0k) (p0n := p0n) (p0w := p0w) (p1 := 1) (sz := _) (o := o_6) (hrun := hc_6)) (cwV 1 hts (gi_V qw719 qw720 qw721 qw722 (gi_z qw718)) rfl rfl rfl (by decide +kernel) ⟨Nat.le_of_ble_eq_true rfl, Nat.le_of_ble_eq_true rfl⟩) ⟨PRE.blind, va_recv hKc hPc (ci := 10) (q0 := 0) rfl rfl, PRE.of hE hS hFc hPc hKc hDc⟩ rfl rfl hl.1 rfl (lv_room (Nat.le_of_ble_eq_true rfl)) dX3_operate_10 ⟨Nat.le_of_ble_eq_true rfl, Nat.le_of_ble_eq_true rfl⟩) hS (fun q _ h => hFc q h) hFc (fun u t H locs ht hvm hw hB hz1 hk1 hS => ?_)
    obtain ⟨hP, hD, hK⟩ := JOIN (wr := ([] : va_W)) hP hD hK [0, 1, 2, 3, 4, 5, 6, 7, 8, 9, 10] [] [] rfl rfl (by decide) (by decide) rfl hk1 hFc ht hvm hB
    have hP : va_P (dC, dI) cls (oX3 (p0a 0) p0a p0k p0n o_6) H := hP.sub [0, 1, 2, 3, 4, 5, 6, 7, 8, 9, 10] rfl
    have hD : va_D A (oX3 (p0a 0) p0a p0k p0n o_6) := hD.sub [0, 1, 2, 3, 4, 5, 6, 7, 8, 9, 10] (by decide) rfl
    have hK : va_K (dC, dI) cls (tX3 p0k) s := hK.sub [0, 1, 2, 3, 4, 5, 6, 7, 8, 9] rfl
    refine lv_iconst (v := 0) hx hb dX3_operate_13 (by decide) ?_
    have ho9 : (0, o_6) = o := Option.some.inj hrun
    have hP9 : va_P (dC, dI) cls (oX3 (p0a 0) p0a p0k p0n (o.2)) H := by first | exact hP | (rw [← ho9]; exact hP)
    have hD9 : va_D A (oX3 (p0a 0) p0a p0k p0n (o.2)) := by first | exact hD | (rw [← ho9]; exact hD)
    subst hQ
    exact W.iret (v := 0) hx hb hr (fun t ht hW => ⟨⟨0, (), rfl, (by rw [← ho9]), ⟨by rw [ht]; exact hP9, va_K.moved hW.alike hK, hD9⟩⟩, hS.F ht⟩) hS.2.2 dX3_operate_14
