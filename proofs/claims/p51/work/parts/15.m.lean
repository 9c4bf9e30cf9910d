abbrev cX5_foldNumbers : ByteArray := prog_7_method_7_code
def yX5_foldNumbers : MethodName := ⟨RX5, "foldNumbers", "(LGearbox$Flow;)I"⟩
abbrev cX5_isAlwaysZero : ByteArray := prog_7_method_26_code
def yX5_isAlwaysZero : MethodName := ⟨RX5, "isAlwaysZero", "(LGearbox$Flow;III)Z"⟩
abbrev cX5_isNumber_ : ByteArray := prog_7_method_5_code
def yX5_isNumber_ : MethodName := ⟨RX5, "isNumber", "(LGearbox$Flow;II)Z"⟩
abbrev cX5_isEitherWay : ByteArray := prog_7_method_27_code
def yX5_isEitherWay : MethodName := ⟨RX5, "isEitherWay", "(I)Z"⟩
abbrev cX5_isLeftAlone : ByteArray := prog_7_method_24_code
def yX5_isLeftAlone : MethodName := ⟨RX5, "isLeftAlone", "(LGearbox$Flow;III)Z"⟩
abbrev cX5_isRightAlone : ByteArray := prog_7_method_25_code
def yX5_isRightAlone : MethodName := ⟨RX5, "isRightAlone", "(LGearbox$Flow;III)Z"⟩
abbrev cX5_joinPhi : ByteArray := prog_7_method_20_code
def yX5_joinPhi : MethodName := ⟨RX5, "joinPhi", "(LGearbox$Flow;II)V"⟩
abbrev cX5_onlyTake : ByteArray := prog_7_method_21_code
def yX5_onlyTake : MethodName := ⟨RX5, "onlyTake", "(LGearbox$Flow;II)I"⟩
abbrev cX5_standInOf : ByteArray := prog_7_method_17_code
def yX5_standInOf : MethodName := ⟨RX5, "standInOf", "(I)I"⟩
abbrev cX5_takeAlike : ByteArray := prog_7_method_22_code
def yX5_takeAlike : MethodName := ⟨RX5, "takeAlike", "(LGearbox$Flow;III)Z"⟩
abbrev cX5_joinSeen : ByteArray := prog_7_method_28_code
def yX5_joinSeen : MethodName := ⟨RX5, "joinSeen", "(LGearbox$Flow;II)V"⟩
theorem dX5_foldNumbers_0 : decode cX5_foldNumbers 0 = .ok (.aload_n 0, 1) := by decide +kernel
theorem dX5_foldNumbers_1 : decode cX5_foldNumbers 1 = .ok (.getfield 18, 3) := by decide +kernel
theorem dX5_foldNumbers_4 : decode cX5_foldNumbers 4 = .ok (.iconst 0, 1) := by decide +kernel
theorem dX5_foldNumbers_5 : decode cX5_foldNumbers 5 = .ok (.invokestatic 43, 3) := by decide +kernel
theorem dX5_foldNumbers_8 : decode cX5_foldNumbers 8 = .ok (.aload_n 0, 1) := by decide +kernel
theorem dX5_foldNumbers_9 : decode cX5_foldNumbers 9 = .ok (.lconst 1, 1) := by decide +kernel
theorem dX5_foldNumbers_10 : decode cX5_foldNumbers 10 = .ok (.putfield 96, 3) := by decide +kernel
theorem dX5_foldNumbers_13 : decode cX5_foldNumbers 13 = .ok (.iconst 1, 1) := by decide +kernel
theorem dX5_foldNumbers_14 : decode cX5_foldNumbers 14 = .ok (.istore_n 2, 1) := by decide +kernel
theorem dX5_foldNumbers_15 : decode cX5_foldNumbers 15 = .ok (.iconst 0, 1) := by decide +kernel
theorem dX5_foldNumbers_16 : decode cX5_foldNumbers 16 = .ok (.istore_n 3, 1) := by decide +kernel
theorem dX5_foldNumbers_17 : decode cX5_foldNumbers 17 = .ok (.iload_n 2, 1) := by decide +kernel
theorem dX5_foldNumbers_18 : decode cX5_foldNumbers 18 = .ok (.ifCond .eq 59, 3) := by decide +kernel
theorem dX5_foldNumbers_21 : decode cX5_foldNumbers 21 = .ok (.iload_n 3, 1) := by decide +kernel
theorem dX5_foldNumbers_22 : decode cX5_foldNumbers 22 = .ok (.ldc 100, 2) := by decide +kernel
theorem dX5_foldNumbers_24 : decode cX5_foldNumbers 24 = .ok (.if_icmp .ge 53, 3) := by decide +kernel
theorem dX5_foldNumbers_27 : decode cX5_foldNumbers 27 = .ok (.iconst 0, 1) := by decide +kernel
theorem dX5_foldNumbers_28 : decode cX5_foldNumbers 28 = .ok (.istore_n 2, 1) := by decide +kernel
theorem dX5_foldNumbers_29 : decode cX5_foldNumbers 29 = .ok (.iconst 0, 1) := by decide +kernel
theorem dX5_foldNumbers_30 : decode cX5_foldNumbers 30 = .ok (.istore 4, 2) := by decide +kernel
theorem dX5_foldNumbers_32 : decode cX5_foldNumbers 32 = .ok (.iload 4, 2) := by decide +kernel
theorem dX5_foldNumbers_34 : decode cX5_foldNumbers 34 = .ok (.aload_n 1, 1) := by decide +kernel
theorem dX5_foldNumbers_35 : decode cX5_foldNumbers 35 = .ok (.getfield 49, 3) := by decide +kernel
theorem dX5_foldNumbers_38 : decode cX5_foldNumbers 38 = .ok (.if_icmp .ge 33, 3) := by decide +kernel
theorem dX5_foldNumbers_41 : decode cX5_foldNumbers 41 = .ok (.aload_n 0, 1) := by decide +kernel
theorem dX5_foldNumbers_42 : decode cX5_foldNumbers 42 = .ok (.getfield 96, 3) := by decide +kernel
theorem dX5_foldNumbers_45 : decode cX5_foldNumbers 45 = .ok (.iload 4, 2) := by decide +kernel
theorem dX5_foldNumbers_47 : decode cX5_foldNumbers 47 = .ok (.invokestatic 101, 3) := by decide +kernel
theorem dX5_foldNumbers_50 : decode cX5_foldNumbers 50 = .ok (.ifCond .eq 15, 3) := by decide +kernel
theorem dX5_foldNumbers_53 : decode cX5_foldNumbers 53 = .ok (.aload_n 0, 1) := by decide +kernel
theorem dX5_foldNumbers_54 : decode cX5_foldNumbers 54 = .ok (.aload_n 1, 1) := by decide +kernel
theorem dX5_foldNumbers_55 : decode cX5_foldNumbers 55 = .ok (.iload 4, 2) := by decide +kernel
theorem dX5_foldNumbers_57 : decode cX5_foldNumbers 57 = .ok (.invokevirtual 105, 3) := by decide +kernel
theorem dX5_foldNumbers_60 : decode cX5_foldNumbers 60 = .ok (.ifCond .eq 5, 3) := by decide +kernel
theorem dX5_foldNumbers_63 : decode cX5_foldNumbers 63 = .ok (.iconst 1, 1) := by decide +kernel
theorem dX5_foldNumbers_64 : decode cX5_foldNumbers 64 = .ok (.istore_n 2, 1) := by decide +kernel
theorem dX5_foldNumbers_65 : decode cX5_foldNumbers 65 = .ok (.iinc 4 1, 3) := by decide +kernel
theorem dX5_foldNumbers_68 : decode cX5_foldNumbers 68 = .ok (.goto (-36), 3) := by decide +kernel
theorem dX5_foldNumbers_71 : decode cX5_foldNumbers 71 = .ok (.iinc 3 1, 3) := by decide +kernel
theorem dX5_foldNumbers_74 : decode cX5_foldNumbers 74 = .ok (.goto (-57), 3) := by decide +kernel
theorem dX5_foldNumbers_77 : decode cX5_foldNumbers 77 = .ok (.iconst 0, 1) := by decide +kernel
theorem dX5_foldNumbers_78 : decode cX5_foldNumbers 78 = .ok (.istore_n 3, 1) := by decide +kernel
theorem dX5_foldNumbers_79 : decode cX5_foldNumbers 79 = .ok (.iconst 0, 1) := by decide +kernel
theorem dX5_foldNumbers_80 : decode cX5_foldNumbers 80 = .ok (.istore 4, 2) := by decide +kernel
theorem dX5_foldNumbers_82 : decode cX5_foldNumbers 82 = .ok (.iload 4, 2) := by decide +kernel
theorem dX5_foldNumbers_84 : decode cX5_foldNumbers 84 = .ok (.aload_n 1, 1) := by decide +kernel
theorem dX5_foldNumbers_85 : decode cX5_foldNumbers 85 = .ok (.getfield 49, 3) := by decide +kernel
theorem dX5_foldNumbers_88 : decode cX5_foldNumbers 88 = .ok (.if_icmp .ge 31, 3) := by decide +kernel
theorem dX5_foldNumbers_91 : decode cX5_foldNumbers 91 = .ok (.aload_n 0, 1) := by decide +kernel
theorem dX5_foldNumbers_92 : decode cX5_foldNumbers 92 = .ok (.getfield 96, 3) := by decide +kernel
theorem dX5_foldNumbers_95 : decode cX5_foldNumbers 95 = .ok (.iload 4, 2) := by decide +kernel
theorem dX5_foldNumbers_97 : decode cX5_foldNumbers 97 = .ok (.invokestatic 101, 3) := by decide +kernel
theorem dX5_foldNumbers_100 : decode cX5_foldNumbers 100 = .ok (.ifCond .eq 13, 3) := by decide +kernel
theorem dX5_foldNumbers_103 : decode cX5_foldNumbers 103 = .ok (.iload_n 3, 1) := by decide +kernel
theorem dX5_foldNumbers_104 : decode cX5_foldNumbers 104 = .ok (.aload_n 0, 1) := by decide +kernel
theorem dX5_foldNumbers_105 : decode cX5_foldNumbers 105 = .ok (.aload_n 1, 1) := by decide +kernel
theorem dX5_foldNumbers_106 : decode cX5_foldNumbers 106 = .ok (.iload 4, 2) := by decide +kernel
theorem dX5_foldNumbers_108 : decode cX5_foldNumbers 108 = .ok (.invokevirtual 108, 3) := by decide +kernel
theorem dX5_foldNumbers_111 : decode cX5_foldNumbers 111 = .ok (.iadd, 1) := by decide +kernel
theorem dX5_foldNumbers_112 : decode cX5_foldNumbers 112 = .ok (.istore_n 3, 1) := by decide +kernel
theorem dX5_foldNumbers_113 : decode cX5_foldNumbers 113 = .ok (.iinc 4 1, 3) := by decide +kernel
theorem dX5_foldNumbers_116 : decode cX5_foldNumbers 116 = .ok (.goto (-34), 3) := by decide +kernel
theorem dX5_foldNumbers_119 : decode cX5_foldNumbers 119 = .ok (.iload_n 3, 1) := by decide +kernel
theorem dX5_foldNumbers_120 : decode cX5_foldNumbers 120 = .ok (.ifCond .le 11, 3) := by decide +kernel
theorem dX5_foldNumbers_123 : decode cX5_foldNumbers 123 = .ok (.aload_n 0, 1) := by decide +kernel
theorem dX5_foldNumbers_124 : decode cX5_foldNumbers 124 = .ok (.getfield 39, 3) := by decide +kernel
theorem dX5_foldNumbers_127 : decode cX5_foldNumbers 127 = .ok (.aload_n 1, 1) := by decide +kernel
theorem dX5_foldNumbers_128 : decode cX5_foldNumbers 128 = .ok (.invokevirtual 111, 3) := by decide +kernel
theorem dX5_foldNumbers_131 : decode cX5_foldNumbers 131 = .ok (.iload_n 3, 1) := by decide +kernel
theorem dX5_foldNumbers_132 : decode cX5_foldNumbers 132 = .ok (.ireturn, 1) := by decide +kernel
theorem dX5_isAlwaysZero_0 : decode cX5_isAlwaysZero 0 = .ok (.iload_n 2, 1) := by decide +kernel
theorem dX5_isAlwaysZero_1 : decode cX5_isAlwaysZero 1 = .ok (.tableswitch 123 2 16 #[111, 75, 123, 102, 75, 123, 111, 123, 123, 111, 123, 111, 123, 123, 111], 75) := by decide +kernel
theorem dX5_isAlwaysZero_76 : decode cX5_isAlwaysZero 76 = .ok (.aload_n 0, 1) := by decide +kernel
theorem dX5_isAlwaysZero_77 : decode cX5_isAlwaysZero 77 = .ok (.aload_n 1, 1) := by decide +kernel
theorem dX5_isAlwaysZero_78 : decode cX5_isAlwaysZero 78 = .ok (.iload_n 3, 1) := by decide +kernel
theorem dX5_isAlwaysZero_79 : decode cX5_isAlwaysZero 79 = .ok (.iconst 0, 1) := by decide +kernel
theorem dX5_isAlwaysZero_80 : decode cX5_isAlwaysZero 80 = .ok (.invokevirtual 257, 3) := by decide +kernel
theorem dX5_isAlwaysZero_83 : decode cX5_isAlwaysZero 83 = .ok (.ifCond .ne 14, 3) := by decide +kernel
theorem dX5_isAlwaysZero_86 : decode cX5_isAlwaysZero 86 = .ok (.aload_n 0, 1) := by decide +kernel
theorem dX5_isAlwaysZero_87 : decode cX5_isAlwaysZero 87 = .ok (.aload_n 1, 1) := by decide +kernel
theorem dX5_isAlwaysZero_88 : decode cX5_isAlwaysZero 88 = .ok (.iload 4, 2) := by decide +kernel
theorem dX5_isAlwaysZero_90 : decode cX5_isAlwaysZero 90 = .ok (.iconst 0, 1) := by decide +kernel
theorem dX5_isAlwaysZero_91 : decode cX5_isAlwaysZero 91 = .ok (.invokevirtual 257, 3) := by decide +kernel
theorem dX5_isAlwaysZero_94 : decode cX5_isAlwaysZero 94 = .ok (.ifCond .eq 7, 3) := by decide +kernel
theorem dX5_isAlwaysZero_97 : decode cX5_isAlwaysZero 97 = .ok (.iconst 1, 1) := by decide +kernel
theorem dX5_isAlwaysZero_98 : decode cX5_isAlwaysZero 98 = .ok (.goto 4, 3) := by decide +kernel
theorem dX5_isAlwaysZero_101 : decode cX5_isAlwaysZero 101 = .ok (.iconst 0, 1) := by decide +kernel
theorem dX5_isAlwaysZero_102 : decode cX5_isAlwaysZero 102 = .ok (.ireturn, 1) := by decide +kernel
theorem dX5_isAlwaysZero_103 : decode cX5_isAlwaysZero 103 = .ok (.aload_n 0, 1) := by decide +kernel
theorem dX5_isAlwaysZero_104 : decode cX5_isAlwaysZero 104 = .ok (.aload_n 1, 1) := by decide +kernel
theorem dX5_isAlwaysZero_105 : decode cX5_isAlwaysZero 105 = .ok (.iload 4, 2) := by decide +kernel
theorem dX5_isAlwaysZero_107 : decode cX5_isAlwaysZero 107 = .ok (.iconst 1, 1) := by decide +kernel
theorem dX5_isAlwaysZero_108 : decode cX5_isAlwaysZero 108 = .ok (.invokevirtual 257, 3) := by decide +kernel
theorem dX5_isAlwaysZero_111 : decode cX5_isAlwaysZero 111 = .ok (.ireturn, 1) := by decide +kernel
theorem dX5_isAlwaysZero_112 : decode cX5_isAlwaysZero 112 = .ok (.iload_n 3, 1) := by decide +kernel
theorem dX5_isAlwaysZero_113 : decode cX5_isAlwaysZero 113 = .ok (.iload 4, 2) := by decide +kernel
theorem dX5_isAlwaysZero_115 : decode cX5_isAlwaysZero 115 = .ok (.if_icmp .ne 7, 3) := by decide +kernel
theorem dX5_isAlwaysZero_118 : decode cX5_isAlwaysZero 118 = .ok (.iconst 1, 1) := by decide +kernel
theorem dX5_isAlwaysZero_119 : decode cX5_isAlwaysZero 119 = .ok (.goto 4, 3) := by decide +kernel
theorem dX5_isAlwaysZero_122 : decode cX5_isAlwaysZero 122 = .ok (.iconst 0, 1) := by decide +kernel
theorem dX5_isAlwaysZero_123 : decode cX5_isAlwaysZero 123 = .ok (.ireturn, 1) := by decide +kernel
theorem dX5_isAlwaysZero_124 : decode cX5_isAlwaysZero 124 = .ok (.iconst 0, 1) := by decide +kernel
theorem dX5_isAlwaysZero_125 : decode cX5_isAlwaysZero 125 = .ok (.ireturn, 1) := by decide +kernel
theorem dX5_isEitherWay_0 : decode cX5_isEitherWay 0 = .ok (.iload_n 0, 1) := by decide +kernel
theorem dX5_isEitherWay_1 : decode cX5_isEitherWay 1 = .ok (.iconst 1, 1) := by decide +kernel
theorem dX5_isEitherWay_2 : decode cX5_isEitherWay 2 = .ok (.if_icmp .eq 38, 3) := by decide +kernel
theorem dX5_isEitherWay_5 : decode cX5_isEitherWay 5 = .ok (.iload_n 0, 1) := by decide +kernel
theorem dX5_isEitherWay_6 : decode cX5_isEitherWay 6 = .ok (.iconst 3, 1) := by decide +kernel
theorem dX5_isEitherWay_7 : decode cX5_isEitherWay 7 = .ok (.if_icmp .eq 33, 3) := by decide +kernel
theorem dX5_isEitherWay_10 : decode cX5_isEitherWay 10 = .ok (.iload_n 0, 1) := by decide +kernel
theorem dX5_isEitherWay_11 : decode cX5_isEitherWay 11 = .ok (.bipush 6, 2) := by decide +kernel
theorem dX5_isEitherWay_13 : decode cX5_isEitherWay 13 = .ok (.if_icmp .eq 27, 3) := by decide +kernel
theorem dX5_isEitherWay_16 : decode cX5_isEitherWay 16 = .ok (.iload_n 0, 1) := by decide +kernel
theorem dX5_isEitherWay_17 : decode cX5_isEitherWay 17 = .ok (.bipush 7, 2) := by decide +kernel
theorem dX5_isEitherWay_19 : decode cX5_isEitherWay 19 = .ok (.if_icmp .eq 21, 3) := by decide +kernel
theorem dX5_isEitherWay_22 : decode cX5_isEitherWay 22 = .ok (.iload_n 0, 1) := by decide +kernel
theorem dX5_isEitherWay_23 : decode cX5_isEitherWay 23 = .ok (.bipush 8, 2) := by decide +kernel
theorem dX5_isEitherWay_25 : decode cX5_isEitherWay 25 = .ok (.if_icmp .eq 15, 3) := by decide +kernel
theorem dX5_isEitherWay_28 : decode cX5_isEitherWay 28 = .ok (.iload_n 0, 1) := by decide +kernel
theorem dX5_isEitherWay_29 : decode cX5_isEitherWay 29 = .ok (.bipush 15, 2) := by decide +kernel
theorem dX5_isEitherWay_31 : decode cX5_isEitherWay 31 = .ok (.if_icmp .eq 9, 3) := by decide +kernel
theorem dX5_isEitherWay_34 : decode cX5_isEitherWay 34 = .ok (.iload_n 0, 1) := by decide +kernel
theorem dX5_isEitherWay_35 : decode cX5_isEitherWay 35 = .ok (.bipush 16, 2) := by decide +kernel
theorem dX5_isEitherWay_37 : decode cX5_isEitherWay 37 = .ok (.if_icmp .ne 7, 3) := by decide +kernel
theorem dX5_isEitherWay_40 : decode cX5_isEitherWay 40 = .ok (.iconst 1, 1) := by decide +kernel
theorem dX5_isEitherWay_41 : decode cX5_isEitherWay 41 = .ok (.goto 4, 3) := by decide +kernel
theorem dX5_isEitherWay_44 : decode cX5_isEitherWay 44 = .ok (.iconst 0, 1) := by decide +kernel
theorem dX5_isEitherWay_45 : decode cX5_isEitherWay 45 = .ok (.ireturn, 1) := by decide +kernel
theorem dX5_isLeftAlone_0 : decode cX5_isLeftAlone 0 = .ok (.iload_n 2, 1) := by decide +kernel
theorem dX5_isLeftAlone_1 : decode cX5_isLeftAlone 1 = .ok (.tableswitch 108 1 10 #[55, 55, 99, 99, 108, 87, 64, 55, 55, 55], 55) := by decide +kernel
theorem dX5_isLeftAlone_56 : decode cX5_isLeftAlone 56 = .ok (.aload_n 0, 1) := by decide +kernel
theorem dX5_isLeftAlone_57 : decode cX5_isLeftAlone 57 = .ok (.aload_n 1, 1) := by decide +kernel
theorem dX5_isLeftAlone_58 : decode cX5_isLeftAlone 58 = .ok (.iload 4, 2) := by decide +kernel
theorem dX5_isLeftAlone_60 : decode cX5_isLeftAlone 60 = .ok (.iconst 0, 1) := by decide +kernel
theorem dX5_isLeftAlone_61 : decode cX5_isLeftAlone 61 = .ok (.invokevirtual 257, 3) := by decide +kernel
theorem dX5_isLeftAlone_64 : decode cX5_isLeftAlone 64 = .ok (.ireturn, 1) := by decide +kernel
theorem dX5_isLeftAlone_65 : decode cX5_isLeftAlone 65 = .ok (.aload_n 0, 1) := by decide +kernel
theorem dX5_isLeftAlone_66 : decode cX5_isLeftAlone 66 = .ok (.aload_n 1, 1) := by decide +kernel
theorem dX5_isLeftAlone_67 : decode cX5_isLeftAlone 67 = .ok (.iload 4, 2) := by decide +kernel
theorem dX5_isLeftAlone_69 : decode cX5_isLeftAlone 69 = .ok (.iconst 0, 1) := by decide +kernel
theorem dX5_isLeftAlone_70 : decode cX5_isLeftAlone 70 = .ok (.invokevirtual 257, 3) := by decide +kernel
theorem dX5_isLeftAlone_73 : decode cX5_isLeftAlone 73 = .ok (.ifCond .ne 9, 3) := by decide +kernel
theorem dX5_isLeftAlone_76 : decode cX5_isLeftAlone 76 = .ok (.iload_n 3, 1) := by decide +kernel
theorem dX5_isLeftAlone_77 : decode cX5_isLeftAlone 77 = .ok (.iload 4, 2) := by decide +kernel
theorem dX5_isLeftAlone_79 : decode cX5_isLeftAlone 79 = .ok (.if_icmp .ne 7, 3) := by decide +kernel
theorem dX5_isLeftAlone_82 : decode cX5_isLeftAlone 82 = .ok (.iconst 1, 1) := by decide +kernel
theorem dX5_isLeftAlone_83 : decode cX5_isLeftAlone 83 = .ok (.goto 4, 3) := by decide +kernel
theorem dX5_isLeftAlone_86 : decode cX5_isLeftAlone 86 = .ok (.iconst 0, 1) := by decide +kernel
theorem dX5_isLeftAlone_87 : decode cX5_isLeftAlone 87 = .ok (.ireturn, 1) := by decide +kernel
theorem dX5_isLeftAlone_88 : decode cX5_isLeftAlone 88 = .ok (.iload_n 3, 1) := by decide +kernel
theorem dX5_isLeftAlone_89 : decode cX5_isLeftAlone 89 = .ok (.iload 4, 2) := by decide +kernel
theorem dX5_isLeftAlone_91 : decode cX5_isLeftAlone 91 = .ok (.if_icmp .ne 7, 3) := by decide +kernel
theorem dX5_isLeftAlone_94 : decode cX5_isLeftAlone 94 = .ok (.iconst 1, 1) := by decide +kernel
theorem dX5_isLeftAlone_95 : decode cX5_isLeftAlone 95 = .ok (.goto 4, 3) := by decide +kernel
theorem dX5_isLeftAlone_98 : decode cX5_isLeftAlone 98 = .ok (.iconst 0, 1) := by decide +kernel
theorem dX5_isLeftAlone_99 : decode cX5_isLeftAlone 99 = .ok (.ireturn, 1) := by decide +kernel
theorem dX5_isLeftAlone_100 : decode cX5_isLeftAlone 100 = .ok (.aload_n 0, 1) := by decide +kernel
theorem dX5_isLeftAlone_101 : decode cX5_isLeftAlone 101 = .ok (.aload_n 1, 1) := by decide +kernel
theorem dX5_isLeftAlone_102 : decode cX5_isLeftAlone 102 = .ok (.iload 4, 2) := by decide +kernel
theorem dX5_isLeftAlone_104 : decode cX5_isLeftAlone 104 = .ok (.iconst 1, 1) := by decide +kernel
theorem dX5_isLeftAlone_105 : decode cX5_isLeftAlone 105 = .ok (.invokevirtual 257, 3) := by decide +kernel
theorem dX5_isLeftAlone_108 : decode cX5_isLeftAlone 108 = .ok (.ireturn, 1) := by decide +kernel
theorem dX5_isLeftAlone_109 : decode cX5_isLeftAlone 109 = .ok (.iconst 0, 1) := by decide +kernel
theorem dX5_isLeftAlone_110 : decode cX5_isLeftAlone 110 = .ok (.ireturn, 1) := by decide +kernel
theorem dX5_isNumber__0 : decode cX5_isNumber_ 0 = .ok (.aload_n 0, 1) := by decide +kernel
theorem dX5_isNumber__1 : decode cX5_isNumber_ 1 = .ok (.aload_n 1, 1) := by decide +kernel
theorem dX5_isNumber__2 : decode cX5_isNumber_ 2 = .ok (.iload_n 2, 1) := by decide +kernel
theorem dX5_isNumber__3 : decode cX5_isNumber_ 3 = .ok (.invokevirtual 85, 3) := by decide +kernel
theorem dX5_isNumber__6 : decode cX5_isNumber_ 6 = .ok (.ifCond .eq 17, 3) := by decide +kernel
theorem dX5_isNumber__9 : decode cX5_isNumber_ 9 = .ok (.aload_n 0, 1) := by decide +kernel
theorem dX5_isNumber__10 : decode cX5_isNumber_ 10 = .ok (.aload_n 1, 1) := by decide +kernel
theorem dX5_isNumber__11 : decode cX5_isNumber_ 11 = .ok (.iload_n 2, 1) := by decide +kernel
theorem dX5_isNumber__12 : decode cX5_isNumber_ 12 = .ok (.invokevirtual 89, 3) := by decide +kernel
theorem dX5_isNumber__15 : decode cX5_isNumber_ 15 = .ok (.iload_n 3, 1) := by decide +kernel
theorem dX5_isNumber__16 : decode cX5_isNumber_ 16 = .ok (.if_icmp .ne 7, 3) := by decide +kernel
theorem dX5_isNumber__19 : decode cX5_isNumber_ 19 = .ok (.iconst 1, 1) := by decide +kernel
theorem dX5_isNumber__20 : decode cX5_isNumber_ 20 = .ok (.goto 4, 3) := by decide +kernel
theorem dX5_isNumber__23 : decode cX5_isNumber_ 23 = .ok (.iconst 0, 1) := by decide +kernel
theorem dX5_isNumber__24 : decode cX5_isNumber_ 24 = .ok (.ireturn, 1) := by decide +kernel
theorem dX5_isRightAlone_0 : decode cX5_isRightAlone 0 = .ok (.iload_n 2, 1) := by decide +kernel
theorem dX5_isRightAlone_1 : decode cX5_isRightAlone 1 = .ok (.iconst 1, 1) := by decide +kernel
theorem dX5_isRightAlone_2 : decode cX5_isRightAlone 2 = .ok (.if_icmp .eq 15, 3) := by decide +kernel
theorem dX5_isRightAlone_5 : decode cX5_isRightAlone 5 = .ok (.iload_n 2, 1) := by decide +kernel
theorem dX5_isRightAlone_6 : decode cX5_isRightAlone 6 = .ok (.bipush 7, 2) := by decide +kernel
theorem dX5_isRightAlone_8 : decode cX5_isRightAlone 8 = .ok (.if_icmp .eq 9, 3) := by decide +kernel
theorem dX5_isRightAlone_11 : decode cX5_isRightAlone 11 = .ok (.iload_n 2, 1) := by decide +kernel
theorem dX5_isRightAlone_12 : decode cX5_isRightAlone 12 = .ok (.bipush 8, 2) := by decide +kernel
theorem dX5_isRightAlone_14 : decode cX5_isRightAlone 14 = .ok (.if_icmp .ne 11, 3) := by decide +kernel
theorem dX5_isRightAlone_17 : decode cX5_isRightAlone 17 = .ok (.aload_n 0, 1) := by decide +kernel
theorem dX5_isRightAlone_18 : decode cX5_isRightAlone 18 = .ok (.aload_n 1, 1) := by decide +kernel
theorem dX5_isRightAlone_19 : decode cX5_isRightAlone 19 = .ok (.iload_n 3, 1) := by decide +kernel
theorem dX5_isRightAlone_20 : decode cX5_isRightAlone 20 = .ok (.iconst 0, 1) := by decide +kernel
theorem dX5_isRightAlone_21 : decode cX5_isRightAlone 21 = .ok (.invokevirtual 257, 3) := by decide +kernel
theorem dX5_isRightAlone_24 : decode cX5_isRightAlone 24 = .ok (.ireturn, 1) := by decide +kernel
theorem dX5_isRightAlone_25 : decode cX5_isRightAlone 25 = .ok (.iload_n 2, 1) := by decide +kernel
theorem dX5_isRightAlone_26 : decode cX5_isRightAlone 26 = .ok (.iconst 3, 1) := by decide +kernel
theorem dX5_isRightAlone_27 : decode cX5_isRightAlone 27 = .ok (.if_icmp .ne 17, 3) := by decide +kernel
theorem dX5_isRightAlone_30 : decode cX5_isRightAlone 30 = .ok (.aload_n 0, 1) := by decide +kernel
theorem dX5_isRightAlone_31 : decode cX5_isRightAlone 31 = .ok (.aload_n 1, 1) := by decide +kernel
theorem dX5_isRightAlone_32 : decode cX5_isRightAlone 32 = .ok (.iload_n 3, 1) := by decide +kernel
theorem dX5_isRightAlone_33 : decode cX5_isRightAlone 33 = .ok (.iconst 1, 1) := by decide +kernel
theorem dX5_isRightAlone_34 : decode cX5_isRightAlone 34 = .ok (.invokevirtual 257, 3) := by decide +kernel
theorem dX5_isRightAlone_37 : decode cX5_isRightAlone 37 = .ok (.ifCond .eq 7, 3) := by decide +kernel
theorem dX5_isRightAlone_40 : decode cX5_isRightAlone 40 = .ok (.iconst 1, 1) := by decide +kernel
theorem dX5_isRightAlone_41 : decode cX5_isRightAlone 41 = .ok (.goto 4, 3) := by decide +kernel
theorem dX5_isRightAlone_44 : decode cX5_isRightAlone 44 = .ok (.iconst 0, 1) := by decide +kernel
theorem dX5_isRightAlone_45 : decode cX5_isRightAlone 45 = .ok (.ireturn, 1) := by decide +kernel
theorem dX5_joinPhi_0 : decode cX5_joinPhi 0 = .ok (.aload_n 1, 1) := by decide +kernel
theorem dX5_joinPhi_1 : decode cX5_joinPhi 1 = .ok (.getfield 58, 3) := by decide +kernel
theorem dX5_joinPhi_4 : decode cX5_joinPhi 4 = .ok (.iload_n 3, 1) := by decide +kernel
theorem dX5_joinPhi_5 : decode cX5_joinPhi 5 = .ok (.iaload, 1) := by decide +kernel
theorem dX5_joinPhi_6 : decode cX5_joinPhi 6 = .ok (.istore 4, 2) := by decide +kernel
theorem dX5_joinPhi_8 : decode cX5_joinPhi 8 = .ok (.aload_n 0, 1) := by decide +kernel
theorem dX5_joinPhi_9 : decode cX5_joinPhi 9 = .ok (.aload_n 1, 1) := by decide +kernel
theorem dX5_joinPhi_10 : decode cX5_joinPhi 10 = .ok (.iload_n 2, 1) := by decide +kernel
theorem dX5_joinPhi_11 : decode cX5_joinPhi 11 = .ok (.iload_n 3, 1) := by decide +kernel
theorem dX5_joinPhi_12 : decode cX5_joinPhi 12 = .ok (.invokevirtual 237, 3) := by decide +kernel
theorem dX5_joinPhi_15 : decode cX5_joinPhi 15 = .ok (.istore 5, 2) := by decide +kernel
theorem dX5_joinPhi_17 : decode cX5_joinPhi 17 = .ok (.iload 5, 2) := by decide +kernel
theorem dX5_joinPhi_19 : decode cX5_joinPhi 19 = .ok (.ifCond .lt 13, 3) := by decide +kernel
theorem dX5_joinPhi_22 : decode cX5_joinPhi 22 = .ok (.aload_n 0, 1) := by decide +kernel
theorem dX5_joinPhi_23 : decode cX5_joinPhi 23 = .ok (.getfield 24, 3) := by decide +kernel
theorem dX5_joinPhi_26 : decode cX5_joinPhi 26 = .ok (.iload 4, 2) := by decide +kernel
theorem dX5_joinPhi_28 : decode cX5_joinPhi 28 = .ok (.iload 5, 2) := by decide +kernel
theorem dX5_joinPhi_30 : decode cX5_joinPhi 30 = .ok (.iastore, 1) := by decide +kernel
theorem dX5_joinPhi_31 : decode cX5_joinPhi 31 = .ok (.return_, 1) := by decide +kernel
theorem dX5_joinPhi_32 : decode cX5_joinPhi 32 = .ok (.aload_n 1, 1) := by decide +kernel
theorem dX5_joinPhi_33 : decode cX5_joinPhi 33 = .ok (.getfield 55, 3) := by decide +kernel
theorem dX5_joinPhi_36 : decode cX5_joinPhi 36 = .ok (.iload_n 2, 1) := by decide +kernel
theorem dX5_joinPhi_37 : decode cX5_joinPhi 37 = .ok (.iaload, 1) := by decide +kernel
theorem dX5_joinPhi_38 : decode cX5_joinPhi 38 = .ok (.istore 6, 2) := by decide +kernel
theorem dX5_joinPhi_40 : decode cX5_joinPhi 40 = .ok (.iload 6, 2) := by decide +kernel
theorem dX5_joinPhi_42 : decode cX5_joinPhi 42 = .ok (.ifCond .lt 63, 3) := by decide +kernel
theorem dX5_joinPhi_45 : decode cX5_joinPhi 45 = .ok (.iload 6, 2) := by decide +kernel
theorem dX5_joinPhi_47 : decode cX5_joinPhi 47 = .ok (.iload_n 3, 1) := by decide +kernel
theorem dX5_joinPhi_48 : decode cX5_joinPhi 48 = .ok (.if_icmp .eq 57, 3) := by decide +kernel
theorem dX5_joinPhi_51 : decode cX5_joinPhi 51 = .ok (.aload_n 0, 1) := by decide +kernel
theorem dX5_joinPhi_52 : decode cX5_joinPhi 52 = .ok (.getfield 24, 3) := by decide +kernel
theorem dX5_joinPhi_55 : decode cX5_joinPhi 55 = .ok (.aload_n 1, 1) := by decide +kernel
theorem dX5_joinPhi_56 : decode cX5_joinPhi 56 = .ok (.getfield 58, 3) := by decide +kernel
theorem dX5_joinPhi_59 : decode cX5_joinPhi 59 = .ok (.iload 6, 2) := by decide +kernel
theorem dX5_joinPhi_61 : decode cX5_joinPhi 61 = .ok (.iaload, 1) := by decide +kernel
theorem dX5_joinPhi_62 : decode cX5_joinPhi 62 = .ok (.iaload, 1) := by decide +kernel
theorem dX5_joinPhi_63 : decode cX5_joinPhi 63 = .ok (.ifCond .ge 30, 3) := by decide +kernel
theorem dX5_joinPhi_66 : decode cX5_joinPhi 66 = .ok (.aload_n 0, 1) := by decide +kernel
theorem dX5_joinPhi_67 : decode cX5_joinPhi 67 = .ok (.aload_n 1, 1) := by decide +kernel
theorem dX5_joinPhi_68 : decode cX5_joinPhi 68 = .ok (.iload_n 2, 1) := by decide +kernel
theorem dX5_joinPhi_69 : decode cX5_joinPhi 69 = .ok (.iload 6, 2) := by decide +kernel
theorem dX5_joinPhi_71 : decode cX5_joinPhi 71 = .ok (.iload_n 3, 1) := by decide +kernel
theorem dX5_joinPhi_72 : decode cX5_joinPhi 72 = .ok (.invokevirtual 241, 3) := by decide +kernel
theorem dX5_joinPhi_75 : decode cX5_joinPhi 75 = .ok (.ifCond .eq 18, 3) := by decide +kernel
theorem dX5_joinPhi_78 : decode cX5_joinPhi 78 = .ok (.aload_n 0, 1) := by decide +kernel
theorem dX5_joinPhi_79 : decode cX5_joinPhi 79 = .ok (.getfield 24, 3) := by decide +kernel
theorem dX5_joinPhi_82 : decode cX5_joinPhi 82 = .ok (.iload 4, 2) := by decide +kernel
theorem dX5_joinPhi_84 : decode cX5_joinPhi 84 = .ok (.aload_n 1, 1) := by decide +kernel
theorem dX5_joinPhi_85 : decode cX5_joinPhi 85 = .ok (.getfield 58, 3) := by decide +kernel
theorem dX5_joinPhi_88 : decode cX5_joinPhi 88 = .ok (.iload 6, 2) := by decide +kernel
theorem dX5_joinPhi_90 : decode cX5_joinPhi 90 = .ok (.iaload, 1) := by decide +kernel
theorem dX5_joinPhi_91 : decode cX5_joinPhi 91 = .ok (.iastore, 1) := by decide +kernel
theorem dX5_joinPhi_92 : decode cX5_joinPhi 92 = .ok (.return_, 1) := by decide +kernel
theorem dX5_joinPhi_93 : decode cX5_joinPhi 93 = .ok (.aload_n 1, 1) := by decide +kernel
theorem dX5_joinPhi_94 : decode cX5_joinPhi 94 = .ok (.getfield 61, 3) := by decide +kernel
theorem dX5_joinPhi_97 : decode cX5_joinPhi 97 = .ok (.iload 6, 2) := by decide +kernel
theorem dX5_joinPhi_99 : decode cX5_joinPhi 99 = .ok (.iaload, 1) := by decide +kernel
theorem dX5_joinPhi_100 : decode cX5_joinPhi 100 = .ok (.istore 6, 2) := by decide +kernel
theorem dX5_joinPhi_102 : decode cX5_joinPhi 102 = .ok (.goto (-62), 3) := by decide +kernel
theorem dX5_joinPhi_105 : decode cX5_joinPhi 105 = .ok (.return_, 1) := by decide +kernel
theorem dX5_joinSeen_0 : decode cX5_joinSeen 0 = .ok (.aload_n 1, 1) := by decide +kernel
theorem dX5_joinSeen_1 : decode cX5_joinSeen 1 = .ok (.getfield 67, 3) := by decide +kernel
theorem dX5_joinSeen_4 : decode cX5_joinSeen 4 = .ok (.astore 4, 2) := by decide +kernel
theorem dX5_joinSeen_6 : decode cX5_joinSeen 6 = .ok (.iconst 0, 1) := by decide +kernel
theorem dX5_joinSeen_7 : decode cX5_joinSeen 7 = .ok (.istore 5, 2) := by decide +kernel
theorem dX5_joinSeen_9 : decode cX5_joinSeen 9 = .ok (.iload 5, 2) := by decide +kernel
theorem dX5_joinSeen_11 : decode cX5_joinSeen 11 = .ok (.aload_n 0, 1) := by decide +kernel
theorem dX5_joinSeen_12 : decode cX5_joinSeen 12 = .ok (.getfield 194, 3) := by decide +kernel
theorem dX5_joinSeen_15 : decode cX5_joinSeen 15 = .ok (.if_icmp .ge 124, 3) := by decide +kernel
theorem dX5_joinSeen_18 : decode cX5_joinSeen 18 = .ok (.aload_n 0, 1) := by decide +kernel
theorem dX5_joinSeen_19 : decode cX5_joinSeen 19 = .ok (.getfield 30, 3) := by decide +kernel
theorem dX5_joinSeen_22 : decode cX5_joinSeen 22 = .ok (.iload 5, 2) := by decide +kernel
theorem dX5_joinSeen_24 : decode cX5_joinSeen 24 = .ok (.iaload, 1) := by decide +kernel
theorem dX5_joinSeen_25 : decode cX5_joinSeen 25 = .ok (.istore 6, 2) := by decide +kernel
theorem dX5_joinSeen_27 : decode cX5_joinSeen 27 = .ok (.aload 4, 2) := by decide +kernel
theorem dX5_joinSeen_29 : decode cX5_joinSeen 29 = .ok (.getfield 79, 3) := by decide +kernel
theorem dX5_joinSeen_32 : decode cX5_joinSeen 32 = .ok (.iload 6, 2) := by decide +kernel
theorem dX5_joinSeen_34 : decode cX5_joinSeen 34 = .ok (.iaload, 1) := by decide +kernel
theorem dX5_joinSeen_35 : decode cX5_joinSeen 35 = .ok (.aload 4, 2) := by decide +kernel
theorem dX5_joinSeen_37 : decode cX5_joinSeen 37 = .ok (.getfield 79, 3) := by decide +kernel
theorem dX5_joinSeen_40 : decode cX5_joinSeen 40 = .ok (.iload_n 3, 1) := by decide +kernel
theorem dX5_joinSeen_41 : decode cX5_joinSeen 41 = .ok (.iaload, 1) := by decide +kernel
theorem dX5_joinSeen_42 : decode cX5_joinSeen 42 = .ok (.if_icmp .ne 43, 3) := by decide +kernel
theorem dX5_joinSeen_45 : decode cX5_joinSeen 45 = .ok (.aload 4, 2) := by decide +kernel
theorem dX5_joinSeen_47 : decode cX5_joinSeen 47 = .ok (.getfield 82, 3) := by decide +kernel
theorem dX5_joinSeen_50 : decode cX5_joinSeen 50 = .ok (.iload 6, 2) := by decide +kernel
theorem dX5_joinSeen_52 : decode cX5_joinSeen 52 = .ok (.iaload, 1) := by decide +kernel
theorem dX5_joinSeen_53 : decode cX5_joinSeen 53 = .ok (.aload 4, 2) := by decide +kernel
theorem dX5_joinSeen_55 : decode cX5_joinSeen 55 = .ok (.getfield 82, 3) := by decide +kernel
theorem dX5_joinSeen_58 : decode cX5_joinSeen 58 = .ok (.iload_n 3, 1) := by decide +kernel
theorem dX5_joinSeen_59 : decode cX5_joinSeen 59 = .ok (.iaload, 1) := by decide +kernel
theorem dX5_joinSeen_60 : decode cX5_joinSeen 60 = .ok (.if_icmp .ne 25, 3) := by decide +kernel
theorem dX5_joinSeen_63 : decode cX5_joinSeen 63 = .ok (.aload 4, 2) := by decide +kernel
theorem dX5_joinSeen_65 : decode cX5_joinSeen 65 = .ok (.getfield 93, 3) := by decide +kernel
theorem dX5_joinSeen_68 : decode cX5_joinSeen 68 = .ok (.iload 6, 2) := by decide +kernel
theorem dX5_joinSeen_70 : decode cX5_joinSeen 70 = .ok (.iaload, 1) := by decide +kernel
theorem dX5_joinSeen_71 : decode cX5_joinSeen 71 = .ok (.aload 4, 2) := by decide +kernel
theorem dX5_joinSeen_73 : decode cX5_joinSeen 73 = .ok (.getfield 93, 3) := by decide +kernel
theorem dX5_joinSeen_76 : decode cX5_joinSeen 76 = .ok (.iload_n 3, 1) := by decide +kernel
theorem dX5_joinSeen_77 : decode cX5_joinSeen 77 = .ok (.iaload, 1) := by decide +kernel
theorem dX5_joinSeen_78 : decode cX5_joinSeen 78 = .ok (.if_icmp .ne 7, 3) := by decide +kernel
theorem dX5_joinSeen_81 : decode cX5_joinSeen 81 = .ok (.iconst 1, 1) := by decide +kernel
theorem dX5_joinSeen_82 : decode cX5_joinSeen 82 = .ok (.goto 4, 3) := by decide +kernel
theorem dX5_joinSeen_85 : decode cX5_joinSeen 85 = .ok (.iconst 0, 1) := by decide +kernel
theorem dX5_joinSeen_86 : decode cX5_joinSeen 86 = .ok (.istore 7, 2) := by decide +kernel
theorem dX5_joinSeen_88 : decode cX5_joinSeen 88 = .ok (.iload 7, 2) := by decide +kernel
theorem dX5_joinSeen_90 : decode cX5_joinSeen 90 = .ok (.ifCond .eq 43, 3) := by decide +kernel
theorem dX5_joinSeen_93 : decode cX5_joinSeen 93 = .ok (.aload_n 1, 1) := by decide +kernel
theorem dX5_joinSeen_94 : decode cX5_joinSeen 94 = .ok (.getfield 259, 3) := by decide +kernel
theorem dX5_joinSeen_97 : decode cX5_joinSeen 97 = .ok (.iload_n 2, 1) := by decide +kernel
theorem dX5_joinSeen_98 : decode cX5_joinSeen 98 = .ok (.laload, 1) := by decide +kernel
theorem dX5_joinSeen_99 : decode cX5_joinSeen 99 = .ok (.aload_n 0, 1) := by decide +kernel
theorem dX5_joinSeen_100 : decode cX5_joinSeen 100 = .ok (.getfield 33, 3) := by decide +kernel
theorem dX5_joinSeen_103 : decode cX5_joinSeen 103 = .ok (.iload 5, 2) := by decide +kernel
theorem dX5_joinSeen_105 : decode cX5_joinSeen 105 = .ok (.iaload, 1) := by decide +kernel
theorem dX5_joinSeen_106 : decode cX5_joinSeen 106 = .ok (.invokestatic 101, 3) := by decide +kernel
theorem dX5_joinSeen_109 : decode cX5_joinSeen 109 = .ok (.ifCond .eq 24, 3) := by decide +kernel
theorem dX5_joinSeen_112 : decode cX5_joinSeen 112 = .ok (.aload_n 0, 1) := by decide +kernel
theorem dX5_joinSeen_113 : decode cX5_joinSeen 113 = .ok (.getfield 24, 3) := by decide +kernel
theorem dX5_joinSeen_116 : decode cX5_joinSeen 116 = .ok (.aload 4, 2) := by decide +kernel
theorem dX5_joinSeen_118 : decode cX5_joinSeen 118 = .ok (.getfield 71, 3) := by decide +kernel
theorem dX5_joinSeen_121 : decode cX5_joinSeen 121 = .ok (.iload_n 3, 1) := by decide +kernel
theorem dX5_joinSeen_122 : decode cX5_joinSeen 122 = .ok (.iaload, 1) := by decide +kernel
theorem dX5_joinSeen_123 : decode cX5_joinSeen 123 = .ok (.aload 4, 2) := by decide +kernel
theorem dX5_joinSeen_125 : decode cX5_joinSeen 125 = .ok (.getfield 71, 3) := by decide +kernel
theorem dX5_joinSeen_128 : decode cX5_joinSeen 128 = .ok (.iload 6, 2) := by decide +kernel
theorem dX5_joinSeen_130 : decode cX5_joinSeen 130 = .ok (.iaload, 1) := by decide +kernel
theorem dX5_joinSeen_131 : decode cX5_joinSeen 131 = .ok (.iastore, 1) := by decide +kernel
theorem dX5_joinSeen_132 : decode cX5_joinSeen 132 = .ok (.return_, 1) := by decide +kernel
theorem dX5_joinSeen_133 : decode cX5_joinSeen 133 = .ok (.iinc 5 1, 3) := by decide +kernel
theorem dX5_joinSeen_136 : decode cX5_joinSeen 136 = .ok (.goto (-127), 3) := by decide +kernel
theorem dX5_joinSeen_139 : decode cX5_joinSeen 139 = .ok (.aload_n 0, 1) := by decide +kernel
theorem dX5_joinSeen_140 : decode cX5_joinSeen 140 = .ok (.getfield 194, 3) := by decide +kernel
theorem dX5_joinSeen_143 : decode cX5_joinSeen 143 = .ok (.sipush 250, 3) := by decide +kernel
theorem dX5_joinSeen_146 : decode cX5_joinSeen 146 = .ok (.if_icmp .ge 33, 3) := by decide +kernel
theorem dX5_joinSeen_149 : decode cX5_joinSeen 149 = .ok (.aload_n 0, 1) := by decide +kernel
theorem dX5_joinSeen_150 : decode cX5_joinSeen 150 = .ok (.getfield 30, 3) := by decide +kernel
theorem dX5_joinSeen_153 : decode cX5_joinSeen 153 = .ok (.aload_n 0, 1) := by decide +kernel
theorem dX5_joinSeen_154 : decode cX5_joinSeen 154 = .ok (.getfield 194, 3) := by decide +kernel
theorem dX5_joinSeen_157 : decode cX5_joinSeen 157 = .ok (.iload_n 3, 1) := by decide +kernel
theorem dX5_joinSeen_158 : decode cX5_joinSeen 158 = .ok (.iastore, 1) := by decide +kernel
theorem dX5_joinSeen_159 : decode cX5_joinSeen 159 = .ok (.aload_n 0, 1) := by decide +kernel
theorem dX5_joinSeen_160 : decode cX5_joinSeen 160 = .ok (.getfield 33, 3) := by decide +kernel
theorem dX5_joinSeen_163 : decode cX5_joinSeen 163 = .ok (.aload_n 0, 1) := by decide +kernel
theorem dX5_joinSeen_164 : decode cX5_joinSeen 164 = .ok (.getfield 194, 3) := by decide +kernel
theorem dX5_joinSeen_167 : decode cX5_joinSeen 167 = .ok (.iload_n 2, 1) := by decide +kernel
theorem dX5_joinSeen_168 : decode cX5_joinSeen 168 = .ok (.iastore, 1) := by decide +kernel
theorem dX5_joinSeen_169 : decode cX5_joinSeen 169 = .ok (.aload_n 0, 1) := by decide +kernel
theorem dX5_joinSeen_170 : decode cX5_joinSeen 170 = .ok (.dup, 1) := by decide +kernel
theorem dX5_joinSeen_171 : decode cX5_joinSeen 171 = .ok (.getfield 194, 3) := by decide +kernel
theorem dX5_joinSeen_174 : decode cX5_joinSeen 174 = .ok (.iconst 1, 1) := by decide +kernel
theorem dX5_joinSeen_175 : decode cX5_joinSeen 175 = .ok (.iadd, 1) := by decide +kernel
theorem dX5_joinSeen_176 : decode cX5_joinSeen 176 = .ok (.putfield 194, 3) := by decide +kernel
theorem dX5_joinSeen_179 : decode cX5_joinSeen 179 = .ok (.return_, 1) := by decide +kernel
theorem dX5_onlyTake_0 : decode cX5_onlyTake 0 = .ok (.iconst (-1), 1) := by decide +kernel
theorem dX5_onlyTake_1 : decode cX5_onlyTake 1 = .ok (.istore 4, 2) := by decide +kernel
theorem dX5_onlyTake_3 : decode cX5_onlyTake 3 = .ok (.iconst 0, 1) := by decide +kernel
theorem dX5_onlyTake_4 : decode cX5_onlyTake 4 = .ok (.istore 5, 2) := by decide +kernel
theorem dX5_onlyTake_6 : decode cX5_onlyTake 6 = .ok (.iload 5, 2) := by decide +kernel
theorem dX5_onlyTake_8 : decode cX5_onlyTake 8 = .ok (.aload_n 1, 1) := by decide +kernel
theorem dX5_onlyTake_9 : decode cX5_onlyTake 9 = .ok (.iload_n 2, 1) := by decide +kernel
theorem dX5_onlyTake_10 : decode cX5_onlyTake 10 = .ok (.invokevirtual 134, 3) := by decide +kernel
theorem dX5_onlyTake_13 : decode cX5_onlyTake 13 = .ok (.if_icmp .ge 56, 3) := by decide +kernel
theorem dX5_onlyTake_16 : decode cX5_onlyTake 16 = .ok (.aload_n 0, 1) := by decide +kernel
theorem dX5_onlyTake_17 : decode cX5_onlyTake 17 = .ok (.aload_n 1, 1) := by decide +kernel
theorem dX5_onlyTake_18 : decode cX5_onlyTake 18 = .ok (.iload_n 3, 1) := by decide +kernel
theorem dX5_onlyTake_19 : decode cX5_onlyTake 19 = .ok (.aload_n 1, 1) := by decide +kernel
theorem dX5_onlyTake_20 : decode cX5_onlyTake 20 = .ok (.iload_n 2, 1) := by decide +kernel
theorem dX5_onlyTake_21 : decode cX5_onlyTake 21 = .ok (.iload 5, 2) := by decide +kernel
theorem dX5_onlyTake_23 : decode cX5_onlyTake 23 = .ok (.invokevirtual 138, 3) := by decide +kernel
theorem dX5_onlyTake_26 : decode cX5_onlyTake 26 = .ok (.invokevirtual 142, 3) := by decide +kernel
theorem dX5_onlyTake_29 : decode cX5_onlyTake 29 = .ok (.invokevirtual 214, 3) := by decide +kernel
theorem dX5_onlyTake_32 : decode cX5_onlyTake 32 = .ok (.istore 6, 2) := by decide +kernel
theorem dX5_onlyTake_34 : decode cX5_onlyTake 34 = .ok (.iload 6, 2) := by decide +kernel
theorem dX5_onlyTake_36 : decode cX5_onlyTake 36 = .ok (.aload_n 1, 1) := by decide +kernel
theorem dX5_onlyTake_37 : decode cX5_onlyTake 37 = .ok (.getfield 58, 3) := by decide +kernel
theorem dX5_onlyTake_40 : decode cX5_onlyTake 40 = .ok (.iload_n 3, 1) := by decide +kernel
theorem dX5_onlyTake_41 : decode cX5_onlyTake 41 = .ok (.iaload, 1) := by decide +kernel
theorem dX5_onlyTake_42 : decode cX5_onlyTake 42 = .ok (.if_icmp .eq 21, 3) := by decide +kernel
theorem dX5_onlyTake_45 : decode cX5_onlyTake 45 = .ok (.iload 6, 2) := by decide +kernel
theorem dX5_onlyTake_47 : decode cX5_onlyTake 47 = .ok (.iload 4, 2) := by decide +kernel
theorem dX5_onlyTake_49 : decode cX5_onlyTake 49 = .ok (.if_icmp .eq 14, 3) := by decide +kernel
theorem dX5_onlyTake_52 : decode cX5_onlyTake 52 = .ok (.iload 4, 2) := by decide +kernel
theorem dX5_onlyTake_54 : decode cX5_onlyTake 54 = .ok (.ifCond .lt 5, 3) := by decide +kernel
theorem dX5_onlyTake_57 : decode cX5_onlyTake 57 = .ok (.iconst (-1), 1) := by decide +kernel
theorem dX5_onlyTake_58 : decode cX5_onlyTake 58 = .ok (.ireturn, 1) := by decide +kernel
theorem dX5_onlyTake_59 : decode cX5_onlyTake 59 = .ok (.iload 6, 2) := by decide +kernel
theorem dX5_onlyTake_61 : decode cX5_onlyTake 61 = .ok (.istore 4, 2) := by decide +kernel
theorem dX5_onlyTake_63 : decode cX5_onlyTake 63 = .ok (.iinc 5 1, 3) := by decide +kernel
theorem dX5_onlyTake_66 : decode cX5_onlyTake 66 = .ok (.goto (-60), 3) := by decide +kernel
theorem dX5_onlyTake_69 : decode cX5_onlyTake 69 = .ok (.iload 4, 2) := by decide +kernel
theorem dX5_onlyTake_71 : decode cX5_onlyTake 71 = .ok (.ireturn, 1) := by decide +kernel
theorem dX5_standInOf_0 : decode cX5_standInOf 0 = .ok (.iload_n 1, 1) := by decide +kernel
theorem dX5_standInOf_1 : decode cX5_standInOf 1 = .ok (.istore_n 2, 1) := by decide +kernel
theorem dX5_standInOf_2 : decode cX5_standInOf 2 = .ok (.iconst 0, 1) := by decide +kernel
theorem dX5_standInOf_3 : decode cX5_standInOf 3 = .ok (.istore_n 3, 1) := by decide +kernel
theorem dX5_standInOf_4 : decode cX5_standInOf 4 = .ok (.iload_n 3, 1) := by decide +kernel
theorem dX5_standInOf_5 : decode cX5_standInOf 5 = .ok (.sipush 250, 3) := by decide +kernel
theorem dX5_standInOf_8 : decode cX5_standInOf 8 = .ok (.if_icmp .ge 25, 3) := by decide +kernel
theorem dX5_standInOf_11 : decode cX5_standInOf 11 = .ok (.aload_n 0, 1) := by decide +kernel
theorem dX5_standInOf_12 : decode cX5_standInOf 12 = .ok (.getfield 24, 3) := by decide +kernel
theorem dX5_standInOf_15 : decode cX5_standInOf 15 = .ok (.iload_n 2, 1) := by decide +kernel
theorem dX5_standInOf_16 : decode cX5_standInOf 16 = .ok (.iaload, 1) := by decide +kernel
theorem dX5_standInOf_17 : decode cX5_standInOf 17 = .ok (.ifCond .lt 16, 3) := by decide +kernel
theorem dX5_standInOf_20 : decode cX5_standInOf 20 = .ok (.aload_n 0, 1) := by decide +kernel
theorem dX5_standInOf_21 : decode cX5_standInOf 21 = .ok (.getfield 24, 3) := by decide +kernel
theorem dX5_standInOf_24 : decode cX5_standInOf 24 = .ok (.iload_n 2, 1) := by decide +kernel
theorem dX5_standInOf_25 : decode cX5_standInOf 25 = .ok (.iaload, 1) := by decide +kernel
theorem dX5_standInOf_26 : decode cX5_standInOf 26 = .ok (.istore_n 2, 1) := by decide +kernel
theorem dX5_standInOf_27 : decode cX5_standInOf 27 = .ok (.iinc 3 1, 3) := by decide +kernel
theorem dX5_standInOf_30 : decode cX5_standInOf 30 = .ok (.goto (-26), 3) := by decide +kernel
theorem dX5_standInOf_33 : decode cX5_standInOf 33 = .ok (.iload_n 2, 1) := by decide +kernel
theorem dX5_standInOf_34 : decode cX5_standInOf 34 = .ok (.ireturn, 1) := by decide +kernel
theorem dX5_takeAlike_0 : decode cX5_takeAlike 0 = .ok (.iconst 0, 1) := by decide +kernel
theorem dX5_takeAlike_1 : decode cX5_takeAlike 1 = .ok (.istore 5, 2) := by decide +kernel
theorem dX5_takeAlike_3 : decode cX5_takeAlike 3 = .ok (.iload 5, 2) := by decide +kernel
theorem dX5_takeAlike_5 : decode cX5_takeAlike 5 = .ok (.aload_n 1, 1) := by decide +kernel
theorem dX5_takeAlike_6 : decode cX5_takeAlike 6 = .ok (.iload_n 2, 1) := by decide +kernel
theorem dX5_takeAlike_7 : decode cX5_takeAlike 7 = .ok (.invokevirtual 134, 3) := by decide +kernel
theorem dX5_takeAlike_10 : decode cX5_takeAlike 10 = .ok (.if_icmp .ge 46, 3) := by decide +kernel
theorem dX5_takeAlike_13 : decode cX5_takeAlike 13 = .ok (.aload_n 1, 1) := by decide +kernel
theorem dX5_takeAlike_14 : decode cX5_takeAlike 14 = .ok (.iload_n 2, 1) := by decide +kernel
theorem dX5_takeAlike_15 : decode cX5_takeAlike 15 = .ok (.iload 5, 2) := by decide +kernel
theorem dX5_takeAlike_17 : decode cX5_takeAlike 17 = .ok (.invokevirtual 138, 3) := by decide +kernel
theorem dX5_takeAlike_20 : decode cX5_takeAlike 20 = .ok (.istore 6, 2) := by decide +kernel
theorem dX5_takeAlike_22 : decode cX5_takeAlike 22 = .ok (.aload_n 0, 1) := by decide +kernel
theorem dX5_takeAlike_23 : decode cX5_takeAlike 23 = .ok (.aload_n 1, 1) := by decide +kernel
theorem dX5_takeAlike_24 : decode cX5_takeAlike 24 = .ok (.iload_n 3, 1) := by decide +kernel
theorem dX5_takeAlike_25 : decode cX5_takeAlike 25 = .ok (.iload 6, 2) := by decide +kernel
theorem dX5_takeAlike_27 : decode cX5_takeAlike 27 = .ok (.invokevirtual 142, 3) := by decide +kernel
theorem dX5_takeAlike_30 : decode cX5_takeAlike 30 = .ok (.invokevirtual 214, 3) := by decide +kernel
theorem dX5_takeAlike_33 : decode cX5_takeAlike 33 = .ok (.aload_n 0, 1) := by decide +kernel
theorem dX5_takeAlike_34 : decode cX5_takeAlike 34 = .ok (.aload_n 1, 1) := by decide +kernel
theorem dX5_takeAlike_35 : decode cX5_takeAlike 35 = .ok (.iload 4, 2) := by decide +kernel
theorem dX5_takeAlike_37 : decode cX5_takeAlike 37 = .ok (.iload 6, 2) := by decide +kernel
theorem dX5_takeAlike_39 : decode cX5_takeAlike 39 = .ok (.invokevirtual 142, 3) := by decide +kernel
theorem dX5_takeAlike_42 : decode cX5_takeAlike 42 = .ok (.invokevirtual 214, 3) := by decide +kernel
theorem dX5_takeAlike_45 : decode cX5_takeAlike 45 = .ok (.if_icmp .eq 5, 3) := by decide +kernel
theorem dX5_takeAlike_48 : decode cX5_takeAlike 48 = .ok (.iconst 0, 1) := by decide +kernel
theorem dX5_takeAlike_49 : decode cX5_takeAlike 49 = .ok (.ireturn, 1) := by decide +kernel
theorem dX5_takeAlike_50 : decode cX5_takeAlike 50 = .ok (.iinc 5 1, 3) := by decide +kernel
theorem dX5_takeAlike_53 : decode cX5_takeAlike 53 = .ok (.goto (-50), 3) := by decide +kernel
theorem dX5_takeAlike_56 : decode cX5_takeAlike 56 = .ok (.iconst 1, 1) := by decide +kernel
theorem dX5_takeAlike_57 : decode cX5_takeAlike 57 = .ok (.ireturn, 1) := by decide +kernel
theorem qw525 : Cond.code yX5_learnBlock cX5_learnBlock 6 (Option.some Jvm.ClassFile.FieldType.boolean) ∈ gw := mq_7 (i := 150) rfl rfl
theorem qw526 : Cond.methodLink RX5 105 yX5_learnBlock ∈ gw := mq_7 (i := 147) rfl rfl
theorem qw527 : Cond.instanceMethod yX5_learnBlock ∈ gw := mq_7 (i := 149) rfl rfl
theorem qw528 : Cond.selects RX5 yX5_learnBlock yX5_learnBlock ∈ gw := mk_s (i := 42) rfl rfl
theorem qw529 : Cond.code yX5_foldBlock cX5_foldBlock 8 (Option.some Jvm.ClassFile.FieldType.int) ∈ gw := mq_7 (i := 183) rfl rfl
theorem qw530 : Cond.methodLink RX5 108 yX5_foldBlock ∈ gw := mq_7 (i := 180) rfl rfl
theorem qw531 : Cond.instanceMethod yX5_foldBlock ∈ gw := mq_7 (i := 182) rfl rfl
theorem qw532 : Cond.selects RX5 yX5_foldBlock yX5_foldBlock ∈ gw := mk_s (i := 43) rfl rfl
theorem qw533 : Cond.fieldLink RX5 39 "Gearbox$Passes" "shape" "LGearbox$Shape;" ∈ gw := mq_2 (i := 210) rfl rfl
theorem qw534 : Cond.methodLink RX5 111 yX8_renumber ∈ gw := mq_7 (i := 202) rfl rfl
theorem qw535 : Cond.code yX5_isNumber_ cX5_isNumber_ 4 (Option.some Jvm.ClassFile.FieldType.boolean) ∈ gw := mq_8 (i := 14) rfl rfl
theorem qw536 : Cond.methodLink RX5 257 yX5_isNumber_ ∈ gw := mq_8 (i := 11) rfl rfl
theorem qw537 : Cond.instanceMethod yX5_isNumber_ ∈ gw := mq_8 (i := 13) rfl rfl
theorem qw538 : Cond.selects RX5 yX5_isNumber_ yX5_isNumber_ ∈ gw := mk_s (i := 44) rfl rfl
theorem qw539 : Cond.fieldLink RX5 24 "Gearbox$Passes" "standIn" "[I" ∈ gw := mq_2 (i := 215) rfl rfl
theorem qw540 : Cond.code yX5_standInOf cX5_standInOf 4 (Option.some Jvm.ClassFile.FieldType.int) ∈ gw := mq_7 (i := 230) rfl rfl
theorem qw541 : Cond.methodLink RX5 214 yX5_standInOf ∈ gw := mq_7 (i := 227) rfl rfl
theorem qw542 : Cond.instanceMethod yX5_standInOf ∈ gw := mq_7 (i := 229) rfl rfl
theorem qw543 : Cond.selects RX5 yX5_standInOf yX5_standInOf ∈ gw := mk_s (i := 45) rfl rfl
theorem qw544 : Cond.code yX5_onlyTake cX5_onlyTake 7 (Option.some Jvm.ClassFile.FieldType.int) ∈ gw := mq_7 (i := 226) rfl rfl
theorem qw545 : Cond.methodLink RX5 237 yX5_onlyTake ∈ gw := mq_7 (i := 223) rfl rfl
theorem qw546 : Cond.instanceMethod yX5_onlyTake ∈ gw := mq_7 (i := 225) rfl rfl
theorem qw547 : Cond.selects RX5 yX5_onlyTake yX5_onlyTake ∈ gw := mk_s (i := 46) rfl rfl
theorem qw548 : Cond.code yX5_takeAlike cX5_takeAlike 7 (Option.some Jvm.ClassFile.FieldType.boolean) ∈ gw := mq_7 (i := 234) rfl rfl
theorem qw549 : Cond.methodLink RX5 241 yX5_takeAlike ∈ gw := mq_7 (i := 231) rfl rfl
theorem qw550 : Cond.instanceMethod yX5_takeAlike ∈ gw := mq_7 (i := 233) rfl rfl
theorem qw551 : Cond.selects RX5 yX5_takeAlike yX5_takeAlike ∈ gw := mk_s (i := 47) rfl rfl
theorem qw556 : Cond.fieldLink RX5 194 "Gearbox$Passes" "seen" "I" ∈ gw := mq_2 (i := 220) rfl rfl
theorem qw557 : Cond.fieldLink RX5 30 "Gearbox$Passes" "seenStep" "[I" ∈ gw := mq_2 (i := 218) rfl rfl
theorem qw558 : Cond.fieldLink RX5 259 "Gearbox$Flow" "dominators" "[J" ∈ gw := mq_2 (i := 51) rfl rfl
theorem qw559 : Cond.fieldLink RX5 33 "Gearbox$Passes" "seenBlock" "[I" ∈ gw := mq_2 (i := 219) rfl rfl
def fX5_foldNumbers_J65 (kk32 : Int32 → Int32 → ST → SL → Option (Int32 × ST × SL)) (v4_32 : Int32) (v2_65 : Int32) (p0w_65 : ST) (p0l_65 : SL) : Option (Int32 × ST × SL) := (kk32 v2_65 (v4_32 + 1) p0w_65 p0l_65)
def fX5_foldNumbers_L32 (p1n : Nat → Nat) (p1w : ST) (p1_2n : Nat → Nat) (p1_2w : ST) : Nat → Int32 → Int32 → ST → SL → Option (Int32 × ST × SL)
  | 0 => fun _ _ _ _ => none
  | n_32 + 1 => fun v2_32 v4_32 p0w_32 p0l_32 => (if (p1w 0 0) ≤ v4_32 then some (v2_32, p0w_32, p0l_32) else ((fX11_holds (p0l_32 0 7) v4_32).bind fun (o_6 : Int32) => (if o_6 = 0 then (fX5_foldNumbers_J65 (fX5_foldNumbers_L32 p1n p1w p1_2n p1_2w n_32) v4_32 v2_32 p0w_32 p0l_32) else ((fX5_learnBlock p0w_32 p0l_32 p1n p1w v4_32 p1_2n p1_2w).bind fun (o_9 : Int32 × ST × SL) => (if (o_9.1) = 0 then (fX5_foldNumbers_J65 (fX5_foldNumbers_L32 p1n p1w p1_2n p1_2w n_32) v4_32 v2_32 (o_9.2.1) (o_9.2.2)) else (fX5_foldNumbers_J65 (fX5_foldNumbers_L32 p1n p1w p1_2n p1_2w n_32) v4_32 1 (o_9.2.1) (o_9.2.2)))))))
def fX5_foldNumbers_L17 (p1n : Nat → Nat) (p1w : ST) (p1_2n : Nat → Nat) (p1_2w : ST) : Nat → Int32 → Int32 → ST → SL → Option (ST × SL)
  | 0 => fun _ _ _ _ => none
  | n_17 + 1 => fun v2_17 v3_17 p0w_17 p0l_17 => (if v2_17 = 0 then some (p0w_17, p0l_17) else (if 1000000 ≤ v3_17 then some (p0w_17, p0l_17) else ((fX5_foldNumbers_L32 p1n p1w p1_2n p1_2w NF 0 0 p0w_17 p0l_17).bind fun (o32 : Int32 × ST × SL) => ((fX5_foldNumbers_L17 p1n p1w p1_2n p1_2w n_17) (o32.1) (v3_17 + 1) (o32.2.1) (o32.2.2)))))
def fX5_foldNumbers_J113 (kk82 : Int32 → Int32 → ST → ST → (Nat → Nat) → Option (Int32 × ST × ST × (Nat → Nat))) (v4_82 : Int32) (v3_113 : Int32) (p1w_113 : ST) (p1_2w_113 : ST) (p1_2n_113 : Nat → Nat) : Option (Int32 × ST × ST × (Nat → Nat)) := (kk82 v3_113 (v4_82 + 1) p1w_113 p1_2w_113 p1_2n_113)
theorem mo_fX5_foldNumbers_J113 {kk82 : Int32 → Int32 → ST → ST → (Nat → Nat) → Option (Int32 × ST × ST × (Nat → Nat))} {v4_82 : Int32} {v3_113 : Int32} {p1w_113 : ST} {p1_2w_113 : ST} {p1_2n_113 : Nat → Nat} {o9q : Int32 × ST × ST × (Nat → Nat)} (hkk : ∀ (v3_82q : Int32) (v4_82q : Int32) (p1w_82q : ST) (p1_2w_82q : ST) (p1_2n_82q : Nat → Nat) (r9 : Int32 × ST × ST × (Nat → Nat)), kk82 v3_82q v4_82q p1w_82q p1_2w_82q p1_2n_82q = some r9 → glX9 p1_2n_82q (r9.2.2.2)) (hrun : fX5_foldNumbers_J113 kk82 v4_82 v3_113 p1w_113 p1_2w_113 p1_2n_113 = some o9q) : glX9 p1_2n_113 (o9q.2.2.2) := by
  unfold fX5_foldNumbers_J113 at hrun
  exact (hkk _ _ _ _ _ _ hrun)
def fX5_foldNumbers_G111_28 (kk82 : Int32 → Int32 → ST → ST → (Nat → Nat) → Option (Int32 × ST × ST × (Nat → Nat))) (v3_82 : Int32) (v4_82 : Int32) (o_16 : Int32 × ST × ST × (Nat → Nat)) : Option (Int32 × ST × ST × (Nat → Nat)) := (fX5_foldNumbers_J113 kk82 v4_82 (v3_82 + (o_16.1)) (o_16.2.1) (o_16.2.2.1) (o_16.2.2.2))
theorem mo_fX5_foldNumbers_G111_28 {kk82 : Int32 → Int32 → ST → ST → (Nat → Nat) → Option (Int32 × ST × ST × (Nat → Nat))} {v3_82 : Int32} {v4_82 : Int32} {o_16 : Int32 × ST × ST × (Nat → Nat)} {o9q : Int32 × ST × ST × (Nat → Nat)} (hkk : ∀ (v3_82q : Int32) (v4_82q : Int32) (p1w_82q : ST) (p1_2w_82q : ST) (p1_2n_82q : Nat → Nat) (r9 : Int32 × ST × ST × (Nat → Nat)), kk82 v3_82q v4_82q p1w_82q p1_2w_82q p1_2n_82q = some r9 → glX9 p1_2n_82q (r9.2.2.2)) (hrun : fX5_foldNumbers_G111_28 kk82 v3_82 v4_82 o_16 = some o9q) : glX9 (o_16.2.2.2) (o9q.2.2.2) := by
  unfold fX5_foldNumbers_G111_28 at hrun
  exact (mo_fX5_foldNumbers_J113 hkk hrun)
def fX5_foldNumbers_L82 (p1n : Nat → Nat) (o17 : ST × SL) : Nat → Int32 → Int32 → ST → ST → (Nat → Nat) → Option (Int32 × ST × ST × (Nat → Nat))
  | 0 => fun _ _ _ _ _ => none
  | n_82 + 1 => fun v3_82 v4_82 p1w_82 p1_2w_82 p1_2n_82 => (if (p1w_82 0 0) ≤ v4_82 then some (v3_82, p1w_82, p1_2w_82, p1_2n_82) else ((fX11_holds ((o17.2) 0 7) v4_82).bind fun (o_13 : Int32) => (if o_13 = 0 then (fX5_foldNumbers_J113 (fX5_foldNumbers_L82 p1n o17 n_82) v4_82 v3_82 p1w_82 p1_2w_82 p1_2n_82) else ((fX5_foldBlock (o17.1) p1n p1w_82 v4_82 p1_2n_82 p1_2w_82).bind fun (o_16 : Int32 × ST × ST × (Nat → Nat)) => (fX5_foldNumbers_G111_28 (fX5_foldNumbers_L82 p1n o17 n_82) v3_82 v4_82 o_16)))))
theorem mo_fX5_foldNumbers_L82 {p1n : Nat → Nat} {o17 : ST × SL} : ∀ (n_82 : Nat) (v3_82 : Int32) (v4_82 : Int32) (p1w_82 : ST) (p1_2w_82 : ST) (p1_2n_82 : Nat → Nat) (o9q : Int32 × ST × ST × (Nat → Nat)), (fX5_foldNumbers_L82 p1n o17 n_82) v3_82 v4_82 p1w_82 p1_2w_82 p1_2n_82 = some o9q → glX9 p1_2n_82 (o9q.2.2.2) := by
  intro n_82
  induction n_82 with
  | zero => intro v3_82 v4_82 p1w_82 p1_2w_82 p1_2n_82 o9q hrun; exact (no9 rfl hrun).elim
  | succ n_82 ih9 =>
    intro v3_82 v4_82 p1w_82 p1_2w_82 p1_2n_82 o9q hrun
    unfold fX5_foldNumbers_L82 at hrun
    rcases br9 hrun with ⟨hc12, hrun⟩ | ⟨hc12, hrun⟩
    · skip
      obtain rfl := (Option.some.inj hrun)
      exact (glX9_rf _)
    · skip
      obtain ⟨o_13, hc_13, hrun⟩ := bnd9 hrun
      rcases br9 hrun with ⟨hc15, hrun⟩ | ⟨hc15, hrun⟩
      · skip
        exact (mo_fX5_foldNumbers_J113 ih9 hrun)
      · skip
        obtain ⟨o_16, hc_16, hrun⟩ := bnd9 hrun
        exact (glX9_tr (mo_fX5_foldBlock hc_16) (mo_fX5_foldNumbers_G111_28 ih9 hrun))
def fX5_foldNumbers_J131 (o17 : ST × SL) (o82 : Int32 × ST × ST × (Nat → Nat)) (p1w_131 : ST) (p1l_131 : SL) (p0_0w_131 : ST) : Option (Int32 × ST × SL × ST × SL × ST × (Nat → Nat) × ST) := some ((o82.1), (o17.1), (o17.2), p1w_131, p1l_131, (o82.2.2.1), (o82.2.2.2), p0_0w_131)
theorem mo_fX5_foldNumbers_J131 {o17 : ST × SL} {o82 : Int32 × ST × ST × (Nat → Nat)} {p1w_131 : ST} {p1l_131 : SL} {p0_0w_131 : ST} {o9q : Int32 × ST × SL × ST × SL × ST × (Nat → Nat) × ST} (hrun : fX5_foldNumbers_J131 o17 o82 p1w_131 p1l_131 p0_0w_131 = some o9q) : glX9 (o82.2.2.2) (o9q.2.2.2.2.2.2.1) := by
  unfold fX5_foldNumbers_J131 at hrun
  obtain rfl := (Option.some.inj hrun)
  exact (glX9_rf _)
def fX5_foldNumbers_G119_29 (p1n : Nat → Nat) (p1l : SL) (p0_0w : ST) (o17 : ST × SL) (o82 : Int32 × ST × ST × (Nat → Nat)) : Option (Int32 × ST × SL × ST × SL × ST × (Nat → Nat) × ST) := (if (o82.1) ≤ 0 then (fX5_foldNumbers_J131 o17 o82 (o82.2.1) p1l p0_0w) else ((fX8_renumber p0_0w p1n (o82.2.1) p1l).bind fun (o_31 : ST × ST × SL) => (fX5_foldNumbers_J131 o17 o82 (o_31.2.1) (o_31.2.2) (o_31.1))))
theorem mo_fX5_foldNumbers_G119_29 {p1n : Nat → Nat} {p1l : SL} {p0_0w : ST} {o17 : ST × SL} {o82 : Int32 × ST × ST × (Nat → Nat)} {o9q : Int32 × ST × SL × ST × SL × ST × (Nat → Nat) × ST} (hrun : fX5_foldNumbers_G119_29 p1n p1l p0_0w o17 o82 = some o9q) : glX9 (o82.2.2.2) (o9q.2.2.2.2.2.2.1) := by
  unfold fX5_foldNumbers_G119_29 at hrun
  rcases br9 hrun with ⟨hc30, hrun⟩ | ⟨hc30, hrun⟩
  · skip
    exact (mo_fX5_foldNumbers_J131 hrun)
  · skip
    obtain ⟨o_31, hc_31, hrun⟩ := bnd9 hrun
    exact (mo_fX5_foldNumbers_J131 hrun)
def fX5_foldNumbers (p0w : ST) (p0l : SL) (p1n : Nat → Nat) (p1w : ST) (p1l : SL) (p1_2n : Nat → Nat) (p1_2w : ST) (p0_0w : ST) : Option (Int32 × ST × SL × ST × SL × ST × (Nat → Nat) × ST) := ((fJ7_fill_53178 250 (p0w 4) 0).bind fun (o_1 : RI) => (lt9 (upl p0l 0 7 1) fun (l2 : SL) => ((fX5_foldNumbers_L17 p1n p1w p1_2n p1_2w NF 1 0 (srw p0w 4 o_1) l2).bind fun (o17 : ST × SL) => ((fX5_foldNumbers_L82 p1n o17 NF 0 0 p1w p1_2w p1_2n).bind fun (o82 : Int32 × ST × ST × (Nat → Nat)) => (fX5_foldNumbers_G119_29 p1n p1l p0_0w o17 o82)))))
theorem mo_fX5_foldNumbers {p0w : ST} {p0l : SL} {p1n : Nat → Nat} {p1w : ST} {p1l : SL} {p1_2n : Nat → Nat} {p1_2w : ST} {p0_0w : ST} {o9q : Int32 × ST × SL × ST × SL × ST × (Nat → Nat) × ST} (hrun : fX5_foldNumbers p0w p0l p1n p1w p1l p1_2n p1_2w p0_0w = some o9q) : glX9 p1_2n (o9q.2.2.2.2.2.2.1) := by
  unfold fX5_foldNumbers at hrun
  obtain ⟨o_1, hc_1, hrun⟩ := bnd9 hrun
  obtain ⟨l2, el2, hrun⟩ := let9 hrun
  obtain ⟨o17, hc17, hrun⟩ := bnd9 hrun
  obtain ⟨o82, hc82, hrun⟩ := bnd9 hrun
  exact (glX9_tr (mo_fX5_foldNumbers_L82 _ _ _ _ _ _ _ hc82) (mo_fX5_foldNumbers_G119_29 hrun))
set_option maxHeartbeats 16000000 in
set_option maxRecDepth 100000 in
theorem kX5_foldNumbers {zs : ZS} (l : Launch) (dC : Nat → ClassId) (dI : Nat → Nat → Nat) (p0a : Nat → Nat) (p0k : Nat → ClassId) (p0w : ST) (p0l : SL) (p1a : Nat → Nat) (p1k : Nat → ClassId) (p1n : Nat → Nat) (p1w : ST) (p1l : SL) (p1_2a : Nat → Nat) (p1_2k : Nat → ClassId) (p1_2n : Nat → Nat) (p1_2w : ST) (p0_0a : Nat → Nat) (p0_0k : Nat → ClassId) (p0_0w : ST) (sz : Nat) (o : Int32 × ST × SL × ST × SL × ST × (Nat → Nat) × ST) (hrun : fX5_foldNumbers p0w p0l p1n p1w p1l p1_2n p1_2w p0_0w = some o) : Met l yX5_foldNumbers (wz yX5_foldNumbers cX5_foldNumbers 5 (Option.some Jvm.ClassFile.FieldType.int)) ({ frames := 5, cells := (hcX9 p1_2n (o.2.2.2.2.2.2.1)), slots := (3 * (gcX9 p1_2n (o.2.2.2.2.2.2.1))), locals := 140 } : Room) (va_Pc [.ref (p0a 0), .ref (p1a 0)] (PRE zs dC dI (List.flatten ([(oX5 (p0a 0) p0a p0k p0w p0l), (oX1 (p1a 0) p1a p1k p1n p1w p1l), (oX9 (p1a 3) p1_2a p1_2k p1_2n p1_2w), (oX8 (p0a 1) p0_0a p0_0k p0_0w)] : List va_W)) (List.flatten ([(tX5 p0k), (tX1 p1k), (tX9 p1_2k), (tX8 p0_0k)] : List (List (ClassId × FieldType)))) sz)) (va_Qi (fun (r : Int32) (_ : Unit) => r = (o.1)) (fun _ t => ∃ (xp1_2_1_z : Nat), ∃ (zp1_2_1_z : ClassId), ∃ (xp1_2_2_z : Nat), ∃ (zp1_2_2_z : ClassId), ∃ (xp1_2_3_z : Nat), ∃ (zp1_2_3_z : ClassId), ∃ (xp1_2_4_z : Nat), ∃ (zp1_2_4_z : ClassId), ∃ (xp1_2_5_z : Nat), ∃ (zp1_2_5_z : ClassId), POST dC dI (List.flatten ([(oX5 (p0a 0) p0a p0k (o.2.1) (o.2.2.1)), (oX1 (p1a 0) p1a p1k p1n (o.2.2.2.1) (o.2.2.2.2.1)), (oX9 (p1a 3) (st1 (st1 (st1 (st1 (st1 p1_2a 2 xp1_2_1_z) 3 xp1_2_2_z) 4 xp1_2_3_z) 5 xp1_2_4_z) 6 xp1_2_5_z) (st1 (st1 (st1 (st1 (st1 p1_2k 2 zp1_2_1_z) 3 zp1_2_2_z) 4 zp1_2_3_z) 5 zp1_2_4_z) 6 zp1_2_5_z) (o.2.2.2.2.2.2.1) (o.2.2.2.2.2.1)), (oX8 (p0a 1) p0_0a p0_0k (o.2.2.2.2.2.2.2))] : List va_W)) (List.flatten ([(tX5 p0k), (tX1 p1k), (tX9 (st1 (st1 (st1 (st1 (st1 p1_2k 2 zp1_2_1_z) 3 zp1_2_2_z) 4 zp1_2_3_z) 5 zp1_2_4_z) 6 zp1_2_5_z)), (tX8 p0_0k)] : List (List (ClassId × FieldType)))) (va_A (List.flatten ([(oX5 (p0a 0) p0a p0k p0w p0l), (oX1 (p1a 0) p1a p1k p1n p1w p1l), (oX9 (p1a 3) p1_2a p1_2k p1_2n p1_2w), (oX8 (p0a 1) p0_0a p0_0k p0_0w)] : List va_W)) sz) t) (va_A (List.flatten ([(oX5 (p0a 0) p0a p0k p0w p0l), (oX1 (p1a 0) p1a p1k p1n p1w p1l), (oX9 (p1a 3) p1_2a p1_2k p1_2n p1_2w), (oX8 (p0a 1) p0_0a p0_0k p0_0w)] : List va_W)) sz)) (hcX9 p1_2n (o.2.2.2.2.2.2.1)) (3 * (gcX9 p1_2n (o.2.2.2.2.2.2.1))) (va_A (List.flatten ([(oX5 (p0a 0) p0a p0k p0w p0l), (oX1 (p1a 0) p1a p1k p1n p1w p1l), (oX9 (p1a 3) p1_2a p1_2k p1_2n p1_2w), (oX8 (p0a 1) p0_0a p0_0k p0_0w)] : List va_W)) sz) := by
  refine Met.ofW (cc := cX5_foldNumbers) (maxL := 5) (ret := (Option.some Jvm.ClassFile.FieldType.int)) (by decide) rfl ?_
  intro p e s m args below meth c s₁ B hml hv
  obtain ⟨rfl, hsz, hP, hK, hD0, hE⟩ := hv
  have hx := B.exec
  have hb := B.bytes
  have hr := B.returns
  have hts0 := atoms_spec (ws := wz yX5_foldNumbers cX5_foldNumbers 5 (Option.some Jvm.ClassFile.FieldType.int)) B.pre
  have hts : ∀ w ∈ gw, w.before _ s = true := fun w h => hts0 w (List.mem_cons_of_mem _ h)
  have hown : s.vm.findClass RX5 = some m.cls := findClass_of_methodNamed B.named
  have hlocks := B.notSynchronized
  subst hsz
  have hD := hD0.self (sz := s.heap.size)
  refine gQ9 ?_
  intro Q hQ
  generalize hAe : va_A (List.flatten ([(oX5 (p0a 0) p0a p0k p0w p0l), (oX1 (p1a 0) p1a p1k p1n p1w p1l), (oX9 (p1a 3) p1_2a p1_2k p1_2n p1_2w), (oX8 (p0a 1) p0_0a p0_0k p0_0w)] : List va_W)) s.heap.size = A at hD hE hQ
  have hA : ∀ q : Nat, s.heap.size ≤ q → A q := fun q h => by rw [← hAe]; exact Or.inr h
  have hS : va_S A s.heap s.heap [] := va_S.rf
  have hP : va_P (dC, dI) cls (List.flatten ([(oX5 (p0a 0) p0a p0k p0w p0l), (oX1 (p1a 0) p1a p1k p1n p1w p1l), (oX9 (p1a 3) p1_2a p1_2k p1_2n p1_2w), (oX8 (p0a 1) p0_0a p0_0k p0_0w)] : List va_W)) s.heap := hP
  have hl := lv_entry ([.ref (p0a 0), .ref (p1a 0)]) (n := 5) (Nat.le_of_ble_eq_true rfl)
  rw [lg_entry_eq]
  generalize (lg_sl ([.ref (p0a 0), .ref (p1a 0)]) ++ List.replicate (5 - (lg_sl ([.ref (p0a 0), .ref (p1a 0)])).length) Slot.unset).toArray = ls at hl ⊢
  have hl : lv_has ls 5 [(0, .ref (p0a 0)), (1, .ref (p1a 0))] := hl
  obtain ⟨H, hHe⟩ : ∃ H, H = s.heap := ⟨_, rfl⟩
  obtain ⟨locs, hle⟩ : ∃ locs : List Loc, locs = [] := ⟨_, rfl⟩
  rw [← hHe] at hP
  have hS : va_S A s.heap H locs := by rw [hHe, hle]; exact hS
  show W p l e ({ frames := 5, cells := (hcX9 p1_2n (o.2.2.2.2.2.2.1)), slots := (3 * (gcX9 p1_2n (o.2.2.2.2.2.2.1))), locals := 140 } : Room) s m ([.ref (p0a 0), .ref (p1a 0)] : List Value).toArray below meth c s.heap [] 0 0 Q (F0 m 0 ls [])
  rw [← hle]
  refine wH9 hHe ?_
  have hg_p1_2 := glX9_rf p1_2n
  have hgn_p1_2 : glX9 p1_2n (o.2.2.2.2.2.2.1) := (mo_fX5_foldNumbers hrun)
  refine W.widen (k := (hcX9 p1_2n p1_2n)) (n := (3 * (gcX9 p1_2n p1_2n))) (Nat.zero_le _) (Nat.zero_le _) ?_
  unfold fX5_foldNumbers at hrun
  refine lv_aload_n hx hb dX5_foldNumbers_0 rfl (lv_at hl 0 rfl) ?_
  refine va_get (D := (dC, dI)) (ci := 7) (v := .ref (p0a 4)) (C := RX5) (T := TX5) (N := 12) hx hb hts i_X5 hown hK hP 0 rfl rfl 3 (by decide) (hts _ qw490) (fun _ h9 => h9) rfl dX5_foldNumbers_1 ?_
  refine lv_iconst (v := 0) hx hb dX5_foldNumbers_4 (by decide) ?_
  obtain ⟨o_1, hc_1, hrun⟩ := bnd9 hrun
  have hP2 : va_P (dC, dI) cls (List.flatten ([[((p0a 4), .inl ((p0k 4), 250, .inl (p0w 4)))], [((p0a 0), .inr (7, [.ref (p0a 1), .ref (p0a 2), .ref (p0a 3), .ref (p0a 4), .ref (p0a 5), .ref (p0a 6), .ref (p0a 7), .long (p0l 0 7), .ref (p0a 9), .ref (p0a 10), .int (p0w 0 10), .ref (p0a 12)])), ((p0a 2), .inl ((p0k 2), 250, .inl (p0w 2))), ((p0a 3), .inl ((p0k 3), 250, .inl (p0w 3))), ((p0a 5), .inl ((p0k 5), 250, .inl (p0w 5))), ((p0a 6), .inl ((p0k 6), 250, .inl (p0w 6))), ((p0a 7), .inl ((p0k 7), 250, .inl (p0w 7))), ((p0a 9), .inl ((p0k 9), 250, .inl (p0w 9))), ((p0a 10), .inl ((p0k 10), 250, .inl (p0w 10))), ((p0a 12), .inl ((p0k 12), 60, .inl (p0w 12)))], (oX1 (p1a 0) p1a p1k p1n p1w p1l), (oX9 (p1a 3) p1_2a p1_2k p1_2n p1_2w), (oX8 (p0a 1) p0_0a p0_0k p0_0w)] : List va_W)) H := vP_perm hP ((bP (List.Perm.refl _)).trans (List.Perm.append_right _ (List.perm_middle (a := (((p0a 4), .inl ((p0k 4), 250, .inl (p0w 4))) : Nat × va_E)) (l₁ := ([((p0a 0), .inr (7, [.ref (p0a 1), .ref (p0a 2), .ref (p0a 3), .ref (p0a 4), .ref (p0a 5), .ref (p0a 6), .ref (p0a 7), .long (p0l 0 7), .ref (p0a 9), .ref (p0a 10), .int (p0w 0 10), .ref (p0a 12)])), ((p0a 2), .inl ((p0k 2), 250, .inl (p0w 2))), ((p0a 3), .inl ((p0k 3), 250, .inl (p0w 3)))] : va_W)) (l₂ := ([((p0a 5), .inl ((p0k 5), 250, .inl (p0w 5))), ((p0a 6), .inl ((p0k 6), 250, .inl (p0w 6))), ((p0a 7), .inl ((p0k 7), 250, .inl (p0w 7))), ((p0a 9), .inl ((p0k 9), 250, .inl (p0w 9))), ((p0a 10), .inl ((p0k 10), 250, .inl (p0w 10))), ((p0a 12), .inl ((p0k 12), 60, .inl (p0w 12)))] : va_W)))))
  have hD2 : va_D A (List.flatten ([[((p0a 4), .inl ((p0k 4), 250, .inl (p0w 4)))], [((p0a 0), .inr (7, [.ref (p0a 1), .ref (p0a 2), .ref (p0a 3), .ref (p0a 4), .ref (p0a 5), .ref (p0a 6), .ref (p0a 7), .long (p0l 0 7), .ref (p0a 9), .ref (p0a 10), .int (p0w 0 10), .ref (p0a 12)])), ((p0a 2), .inl ((p0k 2), 250, .inl (p0w 2))), ((p0a 3), .inl ((p0k 3), 250, .inl (p0w 3))), ((p0a 5), .inl ((p0k 5), 250, .inl (p0w 5))), ((p0a 6), .inl ((p0k 6), 250, .inl (p0w 6))), ((p0a 7), .inl ((p0k 7), 250, .inl (p0w 7))), ((p0a 9), .inl ((p0k 9), 250, .inl (p0w 9))), ((p0a 10), .inl ((p0k 10), 250, .inl (p0w 10))), ((p0a 12), .inl ((p0k 12), 60, .inl (p0w 12)))], (oX1 (p1a 0) p1a p1k p1n p1w p1l), (oX9 (p1a 3) p1_2a p1_2k p1_2n p1_2w), (oX8 (p0a 1) p0_0a p0_0k p0_0w)] : List va_W)) := vD_perm hD ((bP (List.Perm.refl _)).trans (List.Perm.append_right _ (List.perm_middle (a := (((p0a 4), .inl ((p0k 4), 250, .inl (p0w 4))) : Nat × va_E)) (l₁ := ([((p0a 0), .inr (7, [.ref (p0a 1), .ref (p0a 2), .ref (p0a 3), .ref (p0a 4), .ref (p0a 5), .ref (p0a 6), .ref (p0a 7), .long (p0l 0 7), .ref (p0a 9), .ref (p0a 10), .int (p0w 0 10), .ref (p0a 12)])), ((p0a 2), .inl ((p0k 2), 250, .inl (p0w 2))), ((p0a 3), .inl ((p0k 3), 250, .inl (p0w 3)))] : va_W)) (l₂ := ([((p0a 5), .inl ((p0k 5), 250, .inl (p0w 5))), ((p0a 6), .inl ((p0k 6), 250, .inl (p0w 6))), ((p0a 7), .inl ((p0k 7), 250, .inl (p0w 7))), ((p0a 9), .inl ((p0k 9), 250, .inl (p0w 9))), ((p0a 10), .inl ((p0k 10), 250, .inl (p0w 10))), ((p0a 12), .inl ((p0k 12), 60, .inl (p0w 12)))] : va_W)))))
  have hK2 : va_K (dC, dI) cls (List.flatten ([[((p0k 4), .int)], [((p0k 2), .int), ((p0k 3), .int), ((p0k 5), .int), ((p0k 6), .int), ((p0k 7), .int), ((p0k 9), .int), ((p0k 10), .int), ((p0k 12), .int)], (tX1 p1k), (tX9 p1_2k), (tX8 p0_0k)] : List (List (ClassId × FieldType)))) s := vK_perm hK ((bP (List.Perm.refl _)).trans (List.Perm.append_right _ (List.perm_middle (a := (((p0k 4), .int) : ClassId × FieldType)) (l₁ := ([((p0k 2), .int), ((p0k 3), .int)] : List (ClassId × FieldType))) (l₂ := ([((p0k 5), .int), ((p0k 6), .int), ((p0k 7), .int), ((p0k 9), .int), ((p0k 10), .int), ((p0k 12), .int)] : List (ClassId × FieldType))))))
  have hPx : va_P (dC, dI) cls ((List.flatten ([[((p0a 4), .inl ((p0k 4), 250, .inl (p0w 4)))]] : List va_W)) ++ (List.flatten ([[((p0a 0), .inr (7, [.ref (p0a 1), .ref (p0a 2), .ref (p0a 3), .ref (p0a 4), .ref (p0a 5), .ref (p0a 6), .ref (p0a 7), .long (p0l 0 7), .ref (p0a 9), .ref (p0a 10), .int (p0w 0 10), .ref (p0a 12)])), ((p0a 2), .inl ((p0k 2), 250, .inl (p0w 2))), ((p0a 3), .inl ((p0k 3), 250, .inl (p0w 3))), ((p0a 5), .inl ((p0k 5), 250, .inl (p0w 5))), ((p0a 6), .inl ((p0k 6), 250, .inl (p0w 6))), ((p0a 7), .inl ((p0k 7), 250, .inl (p0w 7))), ((p0a 9), .inl ((p0k 9), 250, .inl (p0w 9))), ((p0a 10), .inl ((p0k 10), 250, .inl (p0w 10))), ((p0a 12), .inl ((p0k 12), 60, .inl (p0w 12)))], (oX1 (p1a 0) p1a p1k p1n p1w p1l), (oX9 (p1a 3) p1_2a p1_2k p1_2n p1_2w), (oX8 (p0a 1) p0_0a p0_0k p0_0w)] : List va_W))) H := vP_fa (vP_perm hP2 (bP (List.Perm.refl _)))
  have hDx : va_D A ((List.flatten ([[((p0a 4), .inl ((p0k 4), 250, .inl (p0w 4)))]] : List va_W)) ++ (List.flatten ([[((p0a 0), .inr (7, [.ref (p0a 1), .ref (p0a 2), .ref (p0a 3), .ref (p0a 4), .ref (p0a 5), .ref (p0a 6), .ref (p0a 7), .long (p0l 0 7), .ref (p0a 9), .ref (p0a 10), .int (p0w 0 10), .ref (p0a 12)])), ((p0a 2), .inl ((p0k 2), 250, .inl (p0w 2))), ((p0a 3), .inl ((p0k 3), 250, .inl (p0w 3))), ((p0a 5), .inl ((p0k 5), 250, .inl (p0w 5))), ((p0a 6), .inl ((p0k 6), 250, .inl (p0w 6))), ((p0a 7), .inl ((p0k 7), 250, .inl (p0w 7))), ((p0a 9), .inl ((p0k 9), 250, .inl (p0w 9))), ((p0a 10), .inl ((p0k 10), 250, .inl (p0w 10))), ((p0a 12), .inl ((p0k 12), 60, .inl (p0w 12)))], (oX1 (p1a 0) p1a p1k p1n p1w p1l), (oX9 (p1a 3) p1_2a p1_2k p1_2n p1_2w), (oX8 (p0a 1) p0_0a p0_0k p0_0w)] : List va_W))) := vD_fa (vD_perm hD2 (bP (List.Perm.refl _)))
  have hKx : va_K (dC, dI) cls ((List.flatten ([[((p0k 4), .int)]] : List (List (ClassId × FieldType)))) ++ (List.flatten ([[((p0k 2), .int), ((p0k 3), .int), ((p0k 5), .int), ((p0k 6), .int), ((p0k 7), .int), ((p0k 9), .int), ((p0k 10), .int), ((p0k 12), .int)], (tX1 p1k), (tX9 p1_2k), (tX8 p0_0k)] : List (List (ClassId × FieldType))))) s := vK_fa (vK_perm hK2 (bP (List.Perm.refl _)))
  have hPc := vP_l hPx
  have hDc := vD_l hDx
  have hKc := vK_l hKx
  have hFc := vfree hDx hS hA
  refine va_callv (va_runS (As := [.ref (p0a 4), .int 0]) (rest := []) ⟨hx, hb, hml, hown, hts⟩ (kJ7_fill_53178 l dC dI (p0a := (p0a 4)) (p0k := (p0k 4)) (p0n := 250) (p0f := (p0w 4)) (p1 := 0) (sz := _) (o := o_1) (hrun := hc_1)) (va_cwS 2 hts (gi_S qw428 qw218 qw109 (gi_z qw216)) rfl rfl rfl (by decide +kernel) ⟨Nat.le_of_ble_eq_true rfl, Nat.le_of_ble_eq_true rfl⟩) ⟨PRE.blind, PRE.of hE hS hFc hPc hKc hDc⟩ rfl rfl hl.1 rfl (lv_room (Nat.le_of_ble_eq_true rfl)) dX5_foldNumbers_5 ⟨(show (hcX9 p1_2n p1_2n) + 0 ≤ (hcX9 p1_2n (o.2.2.2.2.2.2.1)) from by have q0 := gmX9 hg_p1_2 hgn_p1_2; omega), (show (3 * (gcX9 p1_2n p1_2n)) + 0 ≤ (3 * (gcX9 p1_2n (o.2.2.2.2.2.2.1))) from by have q0 := gmX9 hg_p1_2 hgn_p1_2; omega)⟩) hS (fun q _ h => hFc q h) hFc (fun u t H locs ht hvm hw hB hz1 hk1 hS => ?_)
  obtain ⟨b1, b2, b3⟩ := hB
  rw [ht] at b1
  obtain ⟨hP, hD, hK⟩ := JOINC (wc := (List.flatten ([[((p0a 4), .inl ((p0k 4), 250, .inl (p0w 4)))]] : List va_W))) (wr := (List.flatten ([[((p0a 0), .inr (7, [.ref (p0a 1), .ref (p0a 2), .ref (p0a 3), .ref (p0a 4), .ref (p0a 5), .ref (p0a 6), .ref (p0a 7), .long (p0l 0 7), .ref (p0a 9), .ref (p0a 10), .int (p0w 0 10), .ref (p0a 12)])), ((p0a 2), .inl ((p0k 2), 250, .inl (p0w 2))), ((p0a 3), .inl ((p0k 3), 250, .inl (p0w 3))), ((p0a 5), .inl ((p0k 5), 250, .inl (p0w 5))), ((p0a 6), .inl ((p0k 6), 250, .inl (p0w 6))), ((p0a 7), .inl ((p0k 7), 250, .inl (p0w 7))), ((p0a 9), .inl ((p0k 9), 250, .inl (p0w 9))), ((p0a 10), .inl ((p0k 10), 250, .inl (p0w 10))), ((p0a 12), .inl ((p0k 12), 60, .inl (p0w 12)))], (oX1 (p1a 0) p1a p1k p1n p1w p1l), (oX9 (p1a 3) p1_2a p1_2k p1_2n p1_2w), (oX8 (p0a 1) p0_0a p0_0k p0_0w)] : List va_W))) (w1 := (List.flatten ([[((p0a 4), .inl ((p0k 4), 250, .inl ((srw p0w 4 o_1) 4)))]] : List va_W))) (t1 := (List.flatten ([[((p0k 4), .int)]] : List (List (ClassId × FieldType))))) hPx hDx hKx hk1 hFc b1 (va_K.moved hvm.symm b2) b3
  have hP3 : va_P (dC, dI) cls (List.flatten ([(oX5 (p0a 0) p0a p0k (srw p0w 4 o_1) p0l), (oX1 (p1a 0) p1a p1k p1n p1w p1l), (oX9 (p1a 3) p1_2a p1_2k p1_2n p1_2w), (oX8 (p0a 1) p0_0a p0_0k p0_0w)] : List va_W)) H := vP_perm (vP_fb hP) ((bP (List.Perm.refl _)).trans (List.Perm.append_right _ (List.perm_middle (a := (((p0a 4), .inl ((p0k 4), 250, .inl ((srw p0w 4 o_1) 4))) : Nat × va_E)) (l₁ := ([((p0a 0), .inr (7, [.ref (p0a 1), .ref (p0a 2), .ref (p0a 3), .ref (p0a 4), .ref (p0a 5), .ref (p0a 6), .ref (p0a 7), .long (p0l 0 7), .ref (p0a 9), .ref (p0a 10), .int ((srw p0w 4 o_1) 0 10), .ref (p0a 12)])), ((p0a 2), .inl ((p0k 2), 250, .inl ((srw p0w 4 o_1) 2))), ((p0a 3), .inl ((p0k 3), 250, .inl ((srw p0w 4 o_1) 3)))] : va_W)) (l₂ := ([((p0a 5), .inl ((p0k 5), 250, .inl ((srw p0w 4 o_1) 5))), ((p0a 6), .inl ((p0k 6), 250, .inl ((srw p0w 4 o_1) 6))), ((p0a 7), .inl ((p0k 7), 250, .inl ((srw p0w 4 o_1) 7))), ((p0a 9), .inl ((p0k 9), 250, .inl ((srw p0w 4 o_1) 9))), ((p0a 10), .inl ((p0k 10), 250, .inl ((srw p0w 4 o_1) 10))), ((p0a 12), .inl ((p0k 12), 60, .inl ((srw p0w 4 o_1) 12)))] : va_W))).symm))
  have hD3 : va_D A (List.flatten ([(oX5 (p0a 0) p0a p0k (srw p0w 4 o_1) p0l), (oX1 (p1a 0) p1a p1k p1n p1w p1l), (oX9 (p1a 3) p1_2a p1_2k p1_2n p1_2w), (oX8 (p0a 1) p0_0a p0_0k p0_0w)] : List va_W)) := vD_perm (vD_fb hD) ((bP (List.Perm.refl _)).trans (List.Perm.append_right _ (List.perm_middle (a := (((p0a 4), .inl ((p0k 4), 250, .inl ((srw p0w 4 o_1) 4))) : Nat × va_E)) (l₁ := ([((p0a 0), .inr (7, [.ref (p0a 1), .ref (p0a 2), .ref (p0a 3), .ref (p0a 4), .ref (p0a 5), .ref (p0a 6), .ref (p0a 7), .long (p0l 0 7), .ref (p0a 9), .ref (p0a 10), .int ((srw p0w 4 o_1) 0 10), .ref (p0a 12)])), ((p0a 2), .inl ((p0k 2), 250, .inl ((srw p0w 4 o_1) 2))), ((p0a 3), .inl ((p0k 3), 250, .inl ((srw p0w 4 o_1) 3)))] : va_W)) (l₂ := ([((p0a 5), .inl ((p0k 5), 250, .inl ((srw p0w 4 o_1) 5))), ((p0a 6), .inl ((p0k 6), 250, .inl ((srw p0w 4 o_1) 6))), ((p0a 7), .inl ((p0k 7), 250, .inl ((srw p0w 4 o_1) 7))), ((p0a 9), .inl ((p0k 9), 250, .inl ((srw p0w 4 o_1) 9))), ((p0a 10), .inl ((p0k 10), 250, .inl ((srw p0w 4 o_1) 10))), ((p0a 12), .inl ((p0k 12), 60, .inl ((srw p0w 4 o_1) 12)))] : va_W))).symm))
  have hK3 : va_K (dC, dI) cls (List.flatten ([(tX5 p0k), (tX1 p1k), (tX9 p1_2k), (tX8 p0_0k)] : List (List (ClassId × FieldType)))) s := vK_perm (vK_fb hK) ((bP (List.Perm.refl _)).trans (List.Perm.append_right _ (List.perm_middle (a := (((p0k 4), .int) : ClassId × FieldType)) (l₁ := ([((p0k 2), .int), ((p0k 3), .int)] : List (ClassId × FieldType))) (l₂ := ([((p0k 5), .int), ((p0k 6), .int), ((p0k 7), .int), ((p0k 9), .int), ((p0k 10), .int), ((p0k 12), .int)] : List (ClassId × FieldType)))).symm))
  have hP : va_P (dC, dI) cls (List.flatten ([(oX5 (p0a 0) p0a p0k (srw p0w 4 o_1) p0l), (oX1 (p1a 0) p1a p1k p1n p1w p1l), (oX9 (p1a 3) p1_2a p1_2k p1_2n p1_2w), (oX8 (p0a 1) p0_0a p0_0k p0_0w)] : List va_W)) H := vP_perm hP3 (bP (List.Perm.refl _))
  have hD : va_D A (List.flatten ([(oX5 (p0a 0) p0a p0k (srw p0w 4 o_1) p0l), (oX1 (p1a 0) p1a p1k p1n p1w p1l), (oX9 (p1a 3) p1_2a p1_2k p1_2n p1_2w), (oX8 (p0a 1) p0_0a p0_0k p0_0w)] : List va_W)) := vD_perm hD3 (bP (List.Perm.refl _))
  have hK : va_K (dC, dI) cls (List.flatten ([(tX5 p0k), (tX1 p1k), (tX9 p1_2k), (tX8 p0_0k)] : List (List (ClassId × FieldType)))) s := vK_perm hK3 (bP (List.Perm.refl _))
  refine lv_aload_n hx hb dX5_foldNumbers_8 rfl (lv_at hl 0 rfl) ?_
  refine lv_lconst (v := 1) hx hb dX5_foldNumbers_9 (by decide) ?_
  refine va_put (D := (dC, dI)) (ci := 7) (v := .long 1) (ty := .long) (C := RX5) (T := TX5) (N := 12) hx hb hts i_X5 tyX5 tyX5_ok nmX5 hown hK hP hD hS 0 rfl rfl 7 (by decide) (hts _ qw504) (fun _ h9 => h9) rfl (by decide +kernel) rfl rfl (Nat.le_of_ble_eq_true rfl) dX5_foldNumbers_10 (fun H locs hP hD hS => ?_)
  have hP : va_P (dC, dI) cls (List.flatten ([(oX5 (p0a 0) p0a p0k (srw p0w 4 o_1) (upl p0l 0 7 1)), (oX1 (p1a 0) p1a p1k p1n p1w p1l), (oX9 (p1a 3) p1_2a p1_2k p1_2n p1_2w), (oX8 (p0a 1) p0_0a p0_0k p0_0w)] : List va_W)) H := hP
  have hD : va_D A (List.flatten ([(oX5 (p0a 0) p0a p0k (srw p0w 4 o_1) (upl p0l 0 7 1)), (oX1 (p1a 0) p1a p1k p1n p1w p1l), (oX9 (p1a 3) p1_2a p1_2k p1_2n p1_2w), (oX8 (p0a 1) p0_0a p0_0k p0_0w)] : List va_W)) := hD
  obtain ⟨l2, el2, hrun⟩ := let9 hrun
  rw [← el2] at hP hD
  refine lv_iconst (v := 1) hx hb dX5_foldNumbers_13 (by decide) ?_
  refine lv_istore_n (lv' := [(2, .int 1), (0, .ref (p0a 0)), (1, .ref (p1a 0))]) hx hb dX5_foldNumbers_14 rfl hl (by decide) rfl (fun ls hl => ?_)
  refine lv_iconst (v := 0) hx hb dX5_foldNumbers_15 (by decide) ?_
  refine lv_istore_n (lv' := [(3, .int 0), (2, .int 1), (0, .ref (p0a 0)), (1, .ref (p1a 0))]) hx hb dX5_foldNumbers_16 rfl hl (by decide) rfl (fun ls hl => ?_)
  have L17 : ∀ (n_17 : Nat) (v2_17 : Int32) (v3_17 : Int32) (p0w_17 : ST) (p0l_17 : SL) (o17 : ST × SL) (H : Heap) (locs : List Loc) (ls : Array Slot), (fX5_foldNumbers_L17 p1n p1w p1_2n p1_2w n_17) v2_17 v3_17 p0w_17 p0l_17 = some o17 → va_P (dC, dI) cls (List.flatten ([(oX5 (p0a 0) p0a p0k p0w_17 p0l_17), (oX1 (p1a 0) p1a p1k p1n p1w p1l), (oX9 (p1a 3) p1_2a p1_2k p1_2n p1_2w), (oX8 (p0a 1) p0_0a p0_0k p0_0w)] : List va_W)) H → va_D A (List.flatten ([(oX5 (p0a 0) p0a p0k p0w_17 p0l_17), (oX1 (p1a 0) p1a p1k p1n p1w p1l), (oX9 (p1a 3) p1_2a p1_2k p1_2n p1_2w), (oX8 (p0a 1) p0_0a p0_0k p0_0w)] : List va_W)) → va_K (dC, dI) cls (List.flatten ([(tX5 p0k), (tX1 p1k), (tX9 p1_2k), (tX8 p0_0k)] : List (List (ClassId × FieldType)))) s → va_S A s.heap H locs → lv_has ls 5 [(0, .ref (p0a 0)), (1, .ref (p1a 0)), (2, .int v2_17), (3, .int v3_17)] → glX9 p1_2n p1_2n → (∀ (H : Heap) (locs : List Loc) (ls : Array Slot), va_P (dC, dI) cls (List.flatten ([(oX5 (p0a 0) p0a p0k (o17.1) (o17.2)), (oX1 (p1a 0) p1a p1k p1n p1w p1l), (oX9 (p1a 3) p1_2a p1_2k p1_2n p1_2w), (oX8 (p0a 1) p0_0a p0_0k p0_0w)] : List va_W)) H → va_D A (List.flatten ([(oX5 (p0a 0) p0a p0k (o17.1) (o17.2)), (oX1 (p1a 0) p1a p1k p1n p1w p1l), (oX9 (p1a 3) p1_2a p1_2k p1_2n p1_2w), (oX8 (p0a 1) p0_0a p0_0k p0_0w)] : List va_W)) → va_K (dC, dI) cls (List.flatten ([(tX5 p0k), (tX1 p1k), (tX9 p1_2k), (tX8 p0_0k)] : List (List (ClassId × FieldType)))) s → va_S A s.heap H locs → lv_has ls 5 [(0, .ref (p0a 0)), (1, .ref (p1a 0))] → glX9 p1_2n p1_2n → W p l e ({ frames := 5, cells := (hcX9 p1_2n (o.2.2.2.2.2.2.1)), slots := (3 * (gcX9 p1_2n (o.2.2.2.2.2.2.1))), locals := 140 } : Room) s m ([.ref (p0a 0), .ref (p1a 0)] : List Value).toArray below meth c H locs (hcX9 p1_2n p1_2n) (3 * (gcX9 p1_2n p1_2n)) Q (F0 m 77 ls [])) → W p l e ({ frames := 5, cells := (hcX9 p1_2n (o.2.2.2.2.2.2.1)), slots := (3 * (gcX9 p1_2n (o.2.2.2.2.2.2.1))), locals := 140 } : Room) s m ([.ref (p0a 0), .ref (p1a 0)] : List Value).toArray below meth c H locs (hcX9 p1_2n p1_2n) (3 * (gcX9 p1_2n p1_2n)) Q (F0 m 17 ls []) := by
    intro n_17
    induction n_17 with
    | zero => intro v2_17 v3_17 p0w_17 p0l_17 o17 H locs ls hrun; exact (no9 rfl hrun).elim
    | succ n_17 IH17 =>
      intro v2_17 v3_17 p0w_17 p0l_17 o17 H locs ls hrun hP hD hK hS hl hg_p1_2 hk17
      unfold fX5_foldNumbers_L17 at hrun
      refine lv_iload_n hx hb dX5_foldNumbers_17 rfl (lv_at hl 2 rfl) ?_
      rcases br9 hrun with ⟨hc3, hrun⟩ | ⟨hc3, hrun⟩
      · refine lv_if_eq (tgt := 77) hx hb dX5_foldNumbers_18 (by decide) (fun _ => ?_) (fun c => absurd hc3 c)
        obtain rfl := (Option.some.inj hrun)
        exact hk17 _ _ _ hP hD hK hS (lv_sub hl [0, 1] rfl) hg_p1_2
      · refine lv_if_eq (tgt := 77) hx hb dX5_foldNumbers_18 (by decide) (fun c => absurd c hc3) (fun _ => ?_)
        refine lv_iload_n hx hb dX5_foldNumbers_21 rfl (lv_at hl 3 rfl) ?_
        refine lv_ldc (v := 1000000) hx hb hown (hts _ qw444) dX5_foldNumbers_22 ?_
        rcases br9 hrun with ⟨hc4, hrun⟩ | ⟨hc4, hrun⟩
        · refine lv_icmp_ge (tgt := 77) hx hb dX5_foldNumbers_24 (by decide) (fun _ => ?_) (fun c => absurd hc4 c)
          obtain rfl := (Option.some.inj hrun)
          exact hk17 _ _ _ hP hD hK hS (lv_sub hl [0, 1] rfl) hg_p1_2
        · refine lv_icmp_ge (tgt := 77) hx hb dX5_foldNumbers_24 (by decide) (fun c => absurd c hc4) (fun _ => ?_)
          refine lv_iconst (v := 0) hx hb dX5_foldNumbers_27 (by decide) ?_
          refine lv_istore_n (lv' := [(2, .int 0), (0, .ref (p0a 0)), (1, .ref (p1a 0)), (3, .int v3_17)]) hx hb dX5_foldNumbers_28 rfl hl (by decide) rfl (fun ls hl => ?_)
          refine lv_iconst (v := 0) hx hb dX5_foldNumbers_29 (by decide) ?_
          refine lv_istore (lv' := [(4, .int 0), (2, .int 0), (0, .ref (p0a 0)), (1, .ref (p1a 0)), (3, .int v3_17)]) hx hb dX5_foldNumbers_30 hl (by decide) rfl (fun ls hl => ?_)
          have L32 : ∀ (n_32 : Nat) (v2_32 : Int32) (v4_32 : Int32) (p0w_32 : ST) (p0l_32 : SL) (o32 : Int32 × ST × SL) (H : Heap) (locs : List Loc) (ls : Array Slot), (fX5_foldNumbers_L32 p1n p1w p1_2n p1_2w n_32) v2_32 v4_32 p0w_32 p0l_32 = some o32 → va_P (dC, dI) cls (List.flatten ([(oX5 (p0a 0) p0a p0k p0w_32 p0l_32), (oX1 (p1a 0) p1a p1k p1n p1w p1l), (oX9 (p1a 3) p1_2a p1_2k p1_2n p1_2w), (oX8 (p0a 1) p0_0a p0_0k p0_0w)] : List va_W)) H → va_D A (List.flatten ([(oX5 (p0a 0) p0a p0k p0w_32 p0l_32), (oX1 (p1a 0) p1a p1k p1n p1w p1l), (oX9 (p1a 3) p1_2a p1_2k p1_2n p1_2w), (oX8 (p0a 1) p0_0a p0_0k p0_0w)] : List va_W)) → va_K (dC, dI) cls (List.flatten ([(tX5 p0k), (tX1 p1k), (tX9 p1_2k), (tX8 p0_0k)] : List (List (ClassId × FieldType)))) s → va_S A s.heap H locs → lv_has ls 5 [(0, .ref (p0a 0)), (1, .ref (p1a 0)), (2, .int v2_32), (3, .int v3_17), (4, .int v4_32)] → glX9 p1_2n p1_2n → (∀ (H : Heap) (locs : List Loc) (ls : Array Slot), va_P (dC, dI) cls (List.flatten ([(oX5 (p0a 0) p0a p0k (o32.2.1) (o32.2.2)), (oX1 (p1a 0) p1a p1k p1n p1w p1l), (oX9 (p1a 3) p1_2a p1_2k p1_2n p1_2w), (oX8 (p0a 1) p0_0a p0_0k p0_0w)] : List va_W)) H → va_D A (List.flatten ([(oX5 (p0a 0) p0a p0k (o32.2.1) (o32.2.2)), (oX1 (p1a 0) p1a p1k p1n p1w p1l), (oX9 (p1a 3) p1_2a p1_2k p1_2n p1_2w), (oX8 (p0a 1) p0_0a p0_0k p0_0w)] : List va_W)) → va_K (dC, dI) cls (List.flatten ([(tX5 p0k), (tX1 p1k), (tX9 p1_2k), (tX8 p0_0k)] : List (List (ClassId × FieldType)))) s → va_S A s.heap H locs → lv_has ls 5 [(0, .ref (p0a 0)), (1, .ref (p1a 0)), (2, .int (o32.1)), (3, .int v3_17)] → glX9 p1_2n p1_2n → W p l e ({ frames := 5, cells := (hcX9 p1_2n (o.2.2.2.2.2.2.1)), slots := (3 * (gcX9 p1_2n (o.2.2.2.2.2.2.1))), locals := 140 } : Room) s m ([.ref (p0a 0), .ref (p1a 0)] : List Value).toArray below meth c H locs (hcX9 p1_2n p1_2n) (3 * (gcX9 p1_2n p1_2n)) Q (F0 m 71 ls [])) → W p l e ({ frames := 5, cells := (hcX9 p1_2n (o.2.2.2.2.2.2.1)), slots := (3 * (gcX9 p1_2n (o.2.2.2.2.2.2.1))), locals := 140 } : Room) s m ([.ref (p0a 0), .ref (p1a 0)] : List Value).toArray below meth c H locs (hcX9 p1_2n p1_2n) (3 * (gcX9 p1_2n p1_2n)) Q (F0 m 32 ls []) := by
            intro n_32
            induction n_32 with
            | zero => intro v2_32 v4_32 p0w_32 p0l_32 o32 H locs ls hrun; exact (no9 rfl hrun).elim
            | succ n_32 IH32 =>
              intro v2_32 v4_32 p0w_32 p0l_32 o32 H locs ls hrun hP hD hK hS hl hg_p1_2 hk32
              unfold fX5_foldNumbers_L32 at hrun
              refine lv_iload hx hb dX5_foldNumbers_32 (lv_at hl 4 rfl) ?_
              refine lv_aload_n hx hb dX5_foldNumbers_34 rfl (lv_at hl 1 rfl) ?_
              refine va_get (D := (dC, dI)) (ci := 4) (v := .int (p1w 0 0)) (C := RX1) (T := TX1) (N := 21) hx hb hts i_X1 hown hK hP 10 rfl rfl 0 (by decide) (hts _ qw430) (fun _ h9 => h9) rfl dX5_foldNumbers_35 ?_
              rcases br9 hrun with ⟨hc5, hrun⟩ | ⟨hc5, hrun⟩
              · refine lv_icmp_ge (tgt := 71) hx hb dX5_foldNumbers_38 (by decide) (fun _ => ?_) (fun c => absurd hc5 c)
                obtain rfl := (Option.some.inj hrun)
                exact hk32 _ _ _ hP hD hK hS (lv_sub hl [0, 1, 2, 3] rfl) hg_p1_2
              · refine lv_icmp_ge (tgt := 71) hx hb dX5_foldNumbers_38 (by decide) (fun c => absurd c hc5) (fun _ => ?_)
                refine lv_aload_n hx hb dX5_foldNumbers_41 rfl (lv_at hl 0 rfl) ?_
                refine va_get (D := (dC, dI)) (ci := 7) (v := .long (p0l_32 0 7)) (C := RX5) (T := TX5) (N := 12) hx hb hts i_X5 hown hK hP 0 rfl rfl 7 (by decide) (hts _ qw504) (fun _ h9 => h9) rfl dX5_foldNumbers_42 ?_
                refine lv_iload hx hb dX5_foldNumbers_45 (lv_at hl 4 rfl) ?_
                obtain ⟨o_6, hc_6, hrun⟩ := bnd9 hrun
                have hPx : va_P (dC, dI) cls ((List.flatten ([] : List va_W)) ++ (List.flatten ([(oX5 (p0a 0) p0a p0k p0w_32 p0l_32), (oX1 (p1a 0) p1a p1k p1n p1w p1l), (oX9 (p1a 3) p1_2a p1_2k p1_2n p1_2w), (oX8 (p0a 1) p0_0a p0_0k p0_0w)] : List va_W))) H := vP_fa (vP_perm hP (bP (List.Perm.refl _)))
                have hDx : va_D A ((List.flatten ([] : List va_W)) ++ (List.flatten ([(oX5 (p0a 0) p0a p0k p0w_32 p0l_32), (oX1 (p1a 0) p1a p1k p1n p1w p1l), (oX9 (p1a 3) p1_2a p1_2k p1_2n p1_2w), (oX8 (p0a 1) p0_0a p0_0k p0_0w)] : List va_W))) := vD_fa (vD_perm hD (bP (List.Perm.refl _)))
                have hKx : va_K (dC, dI) cls ((List.flatten ([] : List (List (ClassId × FieldType)))) ++ (List.flatten ([(tX5 p0k), (tX1 p1k), (tX9 p1_2k), (tX8 p0_0k)] : List (List (ClassId × FieldType))))) s := vK_fa (vK_perm hK (bP (List.Perm.refl _)))
                have hPc := vP_l hPx
                have hDc := vD_l hDx
                have hKc := vK_l hKx
                have hFc := vfree hDx hS hA
                refine va_calli (va_runSN (As := [.long (p0l_32 0 7), .int v4_32]) (rest := []) ⟨hx, hb, hml, hown, hts⟩ (kX11_holds l dC dI (p0 := (p0l_32 0 7)) (p1 := v4_32) (sz := _) (o := o_6) (hrun := hc_6)) ⟨(va_cnB 2 hts (gi_z qw192) rfl rfl rfl (hE.nw (List.mem_append_right _ (tbl_7 (i := 146) rfl)) rfl) (hts _ qw129) (by decide +kernel) ⟨Nat.le_of_ble_eq_true rfl, Nat.le_of_ble_eq_true rfl⟩), (hts _ qw193), trivial⟩ ⟨PRE.blind, PRE.of hE hS hFc hPc hKc hDc⟩ rfl rfl hl.1 rfl (lv_room (Nat.le_of_ble_eq_true rfl)) dX5_foldNumbers_47 ⟨(show (hcX9 p1_2n p1_2n) + 0 ≤ (hcX9 p1_2n (o.2.2.2.2.2.2.1)) from by have q0 := gmX9 hg_p1_2 hgn_p1_2; omega), (show (3 * (gcX9 p1_2n p1_2n)) + 0 ≤ (3 * (gcX9 p1_2n (o.2.2.2.2.2.2.1))) from by have q0 := gmX9 hg_p1_2 hgn_p1_2; omega)⟩) hS (fun q _ h => hFc q h) hFc (fun r7 u t H locs ht hvm hw hB hz1 hk1 hS => ?_)
                obtain ⟨b1, b2, b3⟩ := hB
                rw [ht] at b1
                obtain ⟨hP, hD, hK⟩ := JOINC (wc := (List.flatten ([] : List va_W))) (wr := (List.flatten ([(oX5 (p0a 0) p0a p0k p0w_32 p0l_32), (oX1 (p1a 0) p1a p1k p1n p1w p1l), (oX9 (p1a 3) p1_2a p1_2k p1_2n p1_2w), (oX8 (p0a 1) p0_0a p0_0k p0_0w)] : List va_W))) (w1 := (List.flatten ([] : List va_W))) (t1 := (List.flatten ([] : List (List (ClassId × FieldType))))) hPx hDx hKx hk1 hFc b1 (va_K.moved hvm.symm b2) b3
                have hP : va_P (dC, dI) cls (List.flatten ([(oX5 (p0a 0) p0a p0k p0w_32 p0l_32), (oX1 (p1a 0) p1a p1k p1n p1w p1l), (oX9 (p1a 3) p1_2a p1_2k p1_2n p1_2w), (oX8 (p0a 1) p0_0a p0_0k p0_0w)] : List va_W)) H := vP_perm (vP_fb hP) (bP (List.Perm.refl _))
                have hD : va_D A (List.flatten ([(oX5 (p0a 0) p0a p0k p0w_32 p0l_32), (oX1 (p1a 0) p1a p1k p1n p1w p1l), (oX9 (p1a 3) p1_2a p1_2k p1_2n p1_2w), (oX8 (p0a 1) p0_0a p0_0k p0_0w)] : List va_W)) := vD_perm (vD_fb hD) (bP (List.Perm.refl _))
                have hK : va_K (dC, dI) cls (List.flatten ([(tX5 p0k), (tX1 p1k), (tX9 p1_2k), (tX8 p0_0k)] : List (List (ClassId × FieldType)))) s := vK_perm (vK_fb hK) (bP (List.Perm.refl _))
                obtain rfl : o_6 = r7 := hw.symm
                have J65 : ∀ (v2_65 : Int32) (p0w_65 : ST) (p0l_65 : SL) (H : Heap) (locs : List Loc) (ls : Array Slot), (fX5_foldNumbers_J65 (fX5_foldNumbers_L32 p1n p1w p1_2n p1_2w n_32) v4_32 v2_65 p0w_65 p0l_65) = some o32 → va_P (dC, dI) cls (List.flatten ([(oX5 (p0a 0) p0a p0k p0w_65 p0l_65), (oX1 (p1a 0) p1a p1k p1n p1w p1l), (oX9 (p1a 3) p1_2a p1_2k p1_2n p1_2w), (oX8 (p0a 1) p0_0a p0_0k p0_0w)] : List va_W)) H → va_D A (List.flatten ([(oX5 (p0a 0) p0a p0k p0w_65 p0l_65), (oX1 (p1a 0) p1a p1k p1n p1w p1l), (oX9 (p1a 3) p1_2a p1_2k p1_2n p1_2w), (oX8 (p0a 1) p0_0a p0_0k p0_0w)] : List va_W)) → va_K (dC, dI) cls (List.flatten ([(tX5 p0k), (tX1 p1k), (tX9 p1_2k), (tX8 p0_0k)] : List (List (ClassId × FieldType)))) s → va_S A s.heap H locs → lv_has ls 5 [(0, .ref (p0a 0)), (1, .ref (p1a 0)), (2, .int v2_65), (3, .int v3_17), (4, .int v4_32)] → glX9 p1_2n p1_2n → W p l e ({ frames := 5, cells := (hcX9 p1_2n (o.2.2.2.2.2.2.1)), slots := (3 * (gcX9 p1_2n (o.2.2.2.2.2.2.1))), locals := 140 } : Room) s m ([.ref (p0a 0), .ref (p1a 0)] : List Value).toArray below meth c H locs (hcX9 p1_2n p1_2n) (3 * (gcX9 p1_2n p1_2n)) Q (F0 m 65 ls []) := by
                  intro v2_65 p0w_65 p0l_65 H locs ls hrun hP hD hK hS hl hg_p1_2 
                  unfold fX5_foldNumbers_J65 at hrun
                  refine lv_iinc (v := (v4_32 + 1)) (lv' := [(4, .int (v4_32 + 1)), (0, .ref (p0a 0)), (1, .ref (p1a 0)), (2, .int v2_65), (3, .int v3_17)]) hx hb dX5_foldNumbers_65 hl (k := 4) rfl rfl (by decide) rfl (fun ls hl => ?_)
                  refine lv_goto (tgt := 32) hx hb dX5_foldNumbers_68 (by decide) ?_
                  exact IH32 v2_65 (v4_32 + 1) p0w_65 p0l_65 o32 _ _ _ hrun hP hD hK hS (lv_sub hl [1, 2, 3, 4, 0] rfl) hg_p1_2 hk32
                rcases br9 hrun with ⟨hc8, hrun⟩ | ⟨hc8, hrun⟩
                · refine lv_if_eq (tgt := 65) hx hb dX5_foldNumbers_50 (by decide) (fun _ => ?_) (fun c => absurd hc8 c)
                  exact J65 v2_32 p0w_32 p0l_32 _ _ _ hrun hP hD hK hS (lv_sub hl [0, 1, 2, 3, 4] rfl) hg_p1_2
                · refine lv_if_eq (tgt := 65) hx hb dX5_foldNumbers_50 (by decide) (fun c => absurd c hc8) (fun _ => ?_)
                  refine lv_aload_n hx hb dX5_foldNumbers_53 rfl (lv_at hl 0 rfl) ?_
                  refine lv_aload_n hx hb dX5_foldNumbers_54 rfl (lv_at hl 1 rfl) ?_
                  refine lv_iload hx hb dX5_foldNumbers_55 (lv_at hl 4 rfl) ?_
                  obtain ⟨o_9, hc_9, hrun⟩ := bnd9 hrun
                  have hPx : va_P (dC, dI) cls ((List.flatten ([(oX5 (p0a 0) p0a p0k p0w_32 p0l_32), (oX1 (p1a 0) p1a p1k p1n p1w p1l), (oX9 (p1a 3) p1_2a p1_2k p1_2n p1_2w)] : List va_W)) ++ (List.flatten ([(oX8 (p0a 1) p0_0a p0_0k p0_0w)] : List va_W))) H := vP_fa (vP_perm hP (bP (List.Perm.refl _)))
                  have hDx : va_D A ((List.flatten ([(oX5 (p0a 0) p0a p0k p0w_32 p0l_32), (oX1 (p1a 0) p1a p1k p1n p1w p1l), (oX9 (p1a 3) p1_2a p1_2k p1_2n p1_2w)] : List va_W)) ++ (List.flatten ([(oX8 (p0a 1) p0_0a p0_0k p0_0w)] : List va_W))) := vD_fa (vD_perm hD (bP (List.Perm.refl _)))
                  have hKx : va_K (dC, dI) cls ((List.flatten ([(tX5 p0k), (tX1 p1k), (tX9 p1_2k)] : List (List (ClassId × FieldType)))) ++ (List.flatten ([(tX8 p0_0k)] : List (List (ClassId × FieldType))))) s := vK_fa (vK_perm hK (bP (List.Perm.refl _)))
                  have hPc := vP_l hPx
                  have hDc := vD_l hDx
                  have hKc := vK_l hKx
                  have hFc := vfree hDx hS hA
                  refine va_calli (va_runV (As := [.ref (p1a 0), .int v4_32]) (rest := []) ⟨hx, hb, hml, hown, hts⟩ (kX5_learnBlock l dC dI (p0a := p0a) (p0k := p0k) (p0w := p0w_32) (p0l := p0l_32) (p1a := p1a) (p1k := p1k) (p1n := p1n) (p1w := p1w) (p1l := p1l) (p2 := v4_32) (p1_2a := p1_2a) (p1_2k := p1_2k) (p1_2n := p1_2n) (p1_2w := p1_2w) (sz := _) (o := o_9) (hrun := hc_9)) (cwV 2 hts (gi_V qw526 qw527 qw528 qw442 (gi_z qw525)) rfl rfl rfl (by decide +kernel) ⟨Nat.le_of_ble_eq_true rfl, Nat.le_of_ble_eq_true rfl⟩) ⟨PRE.blind, va_recv hKc hPc (ci := 7) (q0 := 0) rfl rfl, PRE.of hE hS hFc hPc hKc hDc⟩ rfl rfl hl.1 rfl (lv_room (Nat.le_of_ble_eq_true rfl)) dX5_foldNumbers_57 ⟨(show (hcX9 p1_2n p1_2n) + 0 ≤ (hcX9 p1_2n (o.2.2.2.2.2.2.1)) from by have q0 := gmX9 hg_p1_2 hgn_p1_2; omega), (show (3 * (gcX9 p1_2n p1_2n)) + 0 ≤ (3 * (gcX9 p1_2n (o.2.2.2.2.2.2.1))) from by have q0 := gmX9 hg_p1_2 hgn_p1_2; omega)⟩) hS (fun q _ h => hFc q h) hFc (fun r10 u t H locs ht hvm hw hB hz1 hk1 hS => ?_)
                  obtain ⟨b1, b2, b3⟩ := hB
                  rw [ht] at b1
                  obtain ⟨hP, hD, hK⟩ := JOINC (wc := (List.flatten ([(oX5 (p0a 0) p0a p0k p0w_32 p0l_32), (oX1 (p1a 0) p1a p1k p1n p1w p1l), (oX9 (p1a 3) p1_2a p1_2k p1_2n p1_2w)] : List va_W))) (wr := (List.flatten ([(oX8 (p0a 1) p0_0a p0_0k p0_0w)] : List va_W))) (w1 := (List.flatten ([(oX5 (p0a 0) p0a p0k (o_9.2.1) (o_9.2.2)), (oX1 (p1a 0) p1a p1k p1n p1w p1l), (oX9 (p1a 3) p1_2a p1_2k p1_2n p1_2w)] : List va_W))) (t1 := (List.flatten ([(tX5 p0k), (tX1 p1k), (tX9 p1_2k)] : List (List (ClassId × FieldType))))) hPx hDx hKx hk1 hFc b1 (va_K.moved hvm.symm b2) b3
                  have hP : va_P (dC, dI) cls (List.flatten ([(oX5 (p0a 0) p0a p0k (o_9.2.1) (o_9.2.2)), (oX1 (p1a 0) p1a p1k p1n p1w p1l), (oX9 (p1a 3) p1_2a p1_2k p1_2n p1_2w), (oX8 (p0a 1) p0_0a p0_0k p0_0w)] : List va_W)) H := vP_perm (vP_fb hP) (bP (List.Perm.refl _))
                  have hD : va_D A (List.flatten ([(oX5 (p0a 0) p0a p0k (o_9.2.1) (o_9.2.2)), (oX1 (p1a 0) p1a p1k p1n p1w p1l), (oX9 (p1a 3) p1_2a p1_2k p1_2n p1_2w), (oX8 (p0a 1) p0_0a p0_0k p0_0w)] : List va_W)) := vD_perm (vD_fb hD) (bP (List.Perm.refl _))
                  have hK : va_K (dC, dI) cls (List.flatten ([(tX5 p0k), (tX1 p1k), (tX9 p1_2k), (tX8 p0_0k)] : List (List (ClassId × FieldType)))) s := vK_perm (vK_fb hK) (bP (List.Perm.refl _))
                  obtain rfl : r10 = (o_9.1) := hw
                  rcases br9 hrun with ⟨hc11, hrun⟩ | ⟨hc11, hrun⟩
                  · refine lv_if_eq (tgt := 65) hx hb dX5_foldNumbers_60 (by decide) (fun _ => ?_) (fun c => absurd hc11 c)
                    exact J65 v2_32 (o_9.2.1) (o_9.2.2) _ _ _ hrun hP hD hK hS (lv_sub hl [0, 1, 2, 3, 4] rfl) hg_p1_2
                  · refine lv_if_eq (tgt := 65) hx hb dX5_foldNumbers_60 (by decide) (fun c => absurd c hc11) (fun _ => ?_)
                    refine lv_iconst (v := 1) hx hb dX5_foldNumbers_63 (by decide) ?_
                    refine lv_istore_n (lv' := [(2, .int 1), (0, .ref (p0a 0)), (1, .ref (p1a 0)), (3, .int v3_17), (4, .int v4_32)]) hx hb dX5_foldNumbers_64 rfl hl (by decide) rfl (fun ls hl => ?_)
                    exact J65 1 (o_9.2.1) (o_9.2.2) _ _ _ hrun hP hD hK hS (lv_sub hl [1, 2, 0, 3, 4] rfl) hg_p1_2
          obtain ⟨o32, hc32, hrun⟩ := bnd9 hrun
          refine L32 NF 0 0 p0w_17 p0l_17 o32 _ _ _ hc32 hP hD hK hS (lv_sub hl [2, 3, 1, 4, 0] rfl) hg_p1_2 ?_
          intro H locs ls hP hD hK hS hl hg_p1_2
          have hl := hl
          refine lv_iinc (v := (v3_17 + 1)) (lv' := [(3, .int (v3_17 + 1)), (0, .ref (p0a 0)), (1, .ref (p1a 0)), (2, .int (o32.1))]) hx hb dX5_foldNumbers_71 hl (k := 3) rfl rfl (by decide) rfl (fun ls hl => ?_)
          refine lv_goto (tgt := 17) hx hb dX5_foldNumbers_74 (by decide) ?_
          exact IH17 (o32.1) (v3_17 + 1) (o32.2.1) (o32.2.2) o17 _ _ _ hrun hP hD hK hS (lv_sub hl [1, 2, 3, 0] rfl) hg_p1_2 hk17
  obtain ⟨o17, hc17, hrun⟩ := bnd9 hrun
  refine L17 NF 1 0 (srw p0w 4 o_1) l2 o17 _ _ _ hc17 hP hD hK hS (lv_sub hl [2, 3, 1, 0] rfl) hg_p1_2 ?_
  intro H locs ls hP hD hK hS hl hg_p1_2
  have hl := hl
  refine lv_iconst (v := 0) hx hb dX5_foldNumbers_77 (by decide) ?_
  refine lv_istore_n (lv' := [(3, .int 0), (0, .ref (p0a 0)), (1, .ref (p1a 0))]) hx hb dX5_foldNumbers_78 rfl hl (by decide) rfl (fun ls hl => ?_)
  refine lv_iconst (v := 0) hx hb dX5_foldNumbers_79 (by decide) ?_
  refine lv_istore (lv' := [(4, .int 0), (3, .int 0), (0, .ref (p0a 0)), (1, .ref (p1a 0))]) hx hb dX5_foldNumbers_80 hl (by decide) rfl (fun ls hl => ?_)
  obtain ⟨o82, hc82, hrun⟩ := bnd9 hrun
  have hgn_p1_2 : glX9 (o82.2.2.2) (o.2.2.2.2.2.2.1) := (mo_fX5_foldNumbers_G119_29 hrun)
  have L82 : ∀ (n_82 : Nat) (v3_82 : Int32) (v4_82 : Int32) (p1w_82 : ST) (p1_2w_82 : ST) (p1_2n_82 : Nat → Nat) (xp1_2_1_82 : Nat) (zp1_2_1_82 : ClassId) (xp1_2_2_82 : Nat) (zp1_2_2_82 : ClassId) (xp1_2_3_82 : Nat) (zp1_2_3_82 : ClassId) (xp1_2_4_82 : Nat) (zp1_2_4_82 : ClassId) (xp1_2_5_82 : Nat) (zp1_2_5_82 : ClassId) (o82 : Int32 × ST × ST × (Nat → Nat)) (H : Heap) (locs : List Loc) (ls : Array Slot), (fX5_foldNumbers_L82 p1n o17 n_82) v3_82 v4_82 p1w_82 p1_2w_82 p1_2n_82 = some o82 → va_P (dC, dI) cls (List.flatten ([(oX5 (p0a 0) p0a p0k (o17.1) (o17.2)), (oX1 (p1a 0) p1a p1k p1n p1w_82 p1l), (oX9 (p1a 3) (st1 (st1 (st1 (st1 (st1 p1_2a 2 xp1_2_1_82) 3 xp1_2_2_82) 4 xp1_2_3_82) 5 xp1_2_4_82) 6 xp1_2_5_82) (st1 (st1 (st1 (st1 (st1 p1_2k 2 zp1_2_1_82) 3 zp1_2_2_82) 4 zp1_2_3_82) 5 zp1_2_4_82) 6 zp1_2_5_82) p1_2n_82 p1_2w_82), (oX8 (p0a 1) p0_0a p0_0k p0_0w)] : List va_W)) H → va_D A (List.flatten ([(oX5 (p0a 0) p0a p0k (o17.1) (o17.2)), (oX1 (p1a 0) p1a p1k p1n p1w_82 p1l), (oX9 (p1a 3) (st1 (st1 (st1 (st1 (st1 p1_2a 2 xp1_2_1_82) 3 xp1_2_2_82) 4 xp1_2_3_82) 5 xp1_2_4_82) 6 xp1_2_5_82) (st1 (st1 (st1 (st1 (st1 p1_2k 2 zp1_2_1_82) 3 zp1_2_2_82) 4 zp1_2_3_82) 5 zp1_2_4_82) 6 zp1_2_5_82) p1_2n_82 p1_2w_82), (oX8 (p0a 1) p0_0a p0_0k p0_0w)] : List va_W)) → va_K (dC, dI) cls (List.flatten ([(tX5 p0k), (tX1 p1k), (tX9 (st1 (st1 (st1 (st1 (st1 p1_2k 2 zp1_2_1_82) 3 zp1_2_2_82) 4 zp1_2_3_82) 5 zp1_2_4_82) 6 zp1_2_5_82)), (tX8 p0_0k)] : List (List (ClassId × FieldType)))) s → va_S A s.heap H locs → lv_has ls 5 [(0, .ref (p0a 0)), (1, .ref (p1a 0)), (3, .int v3_82), (4, .int v4_82)] → glX9 p1_2n p1_2n_82 → glX9 (o82.2.2.2) (o.2.2.2.2.2.2.1) → (∀ (xp1_2_1_82x : Nat) (zp1_2_1_82x : ClassId) (xp1_2_2_82x : Nat) (zp1_2_2_82x : ClassId) (xp1_2_3_82x : Nat) (zp1_2_3_82x : ClassId) (xp1_2_4_82x : Nat) (zp1_2_4_82x : ClassId) (xp1_2_5_82x : Nat) (zp1_2_5_82x : ClassId) (H : Heap) (locs : List Loc) (ls : Array Slot), va_P (dC, dI) cls (List.flatten ([(oX5 (p0a 0) p0a p0k (o17.1) (o17.2)), (oX1 (p1a 0) p1a p1k p1n (o82.2.1) p1l), (oX9 (p1a 3) (st1 (st1 (st1 (st1 (st1 p1_2a 2 xp1_2_1_82x) 3 xp1_2_2_82x) 4 xp1_2_3_82x) 5 xp1_2_4_82x) 6 xp1_2_5_82x) (st1 (st1 (st1 (st1 (st1 p1_2k 2 zp1_2_1_82x) 3 zp1_2_2_82x) 4 zp1_2_3_82x) 5 zp1_2_4_82x) 6 zp1_2_5_82x) (o82.2.2.2) (o82.2.2.1)), (oX8 (p0a 1) p0_0a p0_0k p0_0w)] : List va_W)) H → va_D A (List.flatten ([(oX5 (p0a 0) p0a p0k (o17.1) (o17.2)), (oX1 (p1a 0) p1a p1k p1n (o82.2.1) p1l), (oX9 (p1a 3) (st1 (st1 (st1 (st1 (st1 p1_2a 2 xp1_2_1_82x) 3 xp1_2_2_82x) 4 xp1_2_3_82x) 5 xp1_2_4_82x) 6 xp1_2_5_82x) (st1 (st1 (st1 (st1 (st1 p1_2k 2 zp1_2_1_82x) 3 zp1_2_2_82x) 4 zp1_2_3_82x) 5 zp1_2_4_82x) 6 zp1_2_5_82x) (o82.2.2.2) (o82.2.2.1)), (oX8 (p0a 1) p0_0a p0_0k p0_0w)] : List va_W)) → va_K (dC, dI) cls (List.flatten ([(tX5 p0k), (tX1 p1k), (tX9 (st1 (st1 (st1 (st1 (st1 p1_2k 2 zp1_2_1_82x) 3 zp1_2_2_82x) 4 zp1_2_3_82x) 5 zp1_2_4_82x) 6 zp1_2_5_82x)), (tX8 p0_0k)] : List (List (ClassId × FieldType)))) s → va_S A s.heap H locs → lv_has ls 5 [(0, .ref (p0a 0)), (1, .ref (p1a 0)), (3, .int (o82.1))] → glX9 p1_2n (o82.2.2.2) → W p l e ({ frames := 5, cells := (hcX9 p1_2n (o.2.2.2.2.2.2.1)), slots := (3 * (gcX9 p1_2n (o.2.2.2.2.2.2.1))), locals := 140 } : Room) s m ([.ref (p0a 0), .ref (p1a 0)] : List Value).toArray below meth c H locs (hcX9 p1_2n (o82.2.2.2)) (3 * (gcX9 p1_2n (o82.2.2.2))) Q (F0 m 119 ls [])) → W p l e ({ frames := 5, cells := (hcX9 p1_2n (o.2.2.2.2.2.2.1)), slots := (3 * (gcX9 p1_2n (o.2.2.2.2.2.2.1))), locals := 140 } : Room) s m ([.ref (p0a 0), .ref (p1a 0)] : List Value).toArray below meth c H locs (hcX9 p1_2n p1_2n_82) (3 * (gcX9 p1_2n p1_2n_82)) Q (F0 m 82 ls []) := by
    intro n_82
    induction n_82 with
    | zero => intro v3_82 v4_82 p1w_82 p1_2w_82 p1_2n_82 xp1_2_1_82 zp1_2_1_82 xp1_2_2_82 zp1_2_2_82 xp1_2_3_82 zp1_2_3_82 xp1_2_4_82 zp1_2_4_82 xp1_2_5_82 zp1_2_5_82 o82 H locs ls hrun; exact (no9 rfl hrun).elim
    | succ n_82 IH82 =>
      intro v3_82 v4_82 p1w_82 p1_2w_82 p1_2n_82 xp1_2_1_82 zp1_2_1_82 xp1_2_2_82 zp1_2_2_82 xp1_2_3_82 zp1_2_3_82 xp1_2_4_82 zp1_2_4_82 xp1_2_5_82 zp1_2_5_82 o82 H locs ls hrun hP hD hK hS hl hg_p1_2 hgo_p1_2 hk82
      have hgn_p1_2 : glX9 p1_2n_82 (o.2.2.2.2.2.2.1) := (glX9_tr (mo_fX5_foldNumbers_L82 (n_82 + 1) _ _ _ _ _ _ hrun) hgo_p1_2)
      unfold fX5_foldNumbers_L82 at hrun
      refine lv_iload hx hb dX5_foldNumbers_82 (lv_at hl 3 rfl) ?_
      refine lv_aload_n hx hb dX5_foldNumbers_84 rfl (lv_at hl 1 rfl) ?_
      refine va_get (D := (dC, dI)) (ci := 4) (v := .int (p1w_82 0 0)) (C := RX1) (T := TX1) (N := 21) hx hb hts i_X1 hown hK hP 10 rfl rfl 0 (by decide) (hts _ qw430) (fun _ h9 => h9) rfl dX5_foldNumbers_85 ?_
      rcases br9 hrun with ⟨hc12, hrun⟩ | ⟨hc12, hrun⟩
      · refine lv_icmp_ge (tgt := 119) hx hb dX5_foldNumbers_88 (by decide) (fun _ => ?_) (fun c => absurd hc12 c)
        obtain rfl := (Option.some.inj hrun)
        exact hk82 xp1_2_1_82 zp1_2_1_82 xp1_2_2_82 zp1_2_2_82 xp1_2_3_82 zp1_2_3_82 xp1_2_4_82 zp1_2_4_82 xp1_2_5_82 zp1_2_5_82 _ _ _ hP hD hK hS (lv_sub hl [0, 1, 2] rfl) hg_p1_2
      · refine lv_icmp_ge (tgt := 119) hx hb dX5_foldNumbers_88 (by decide) (fun c => absurd c hc12) (fun _ => ?_)
        refine lv_aload_n hx hb dX5_foldNumbers_91 rfl (lv_at hl 0 rfl) ?_
        refine va_get (D := (dC, dI)) (ci := 7) (v := .long ((o17.2) 0 7)) (C := RX5) (T := TX5) (N := 12) hx hb hts i_X5 hown hK hP 0 rfl rfl 7 (by decide) (hts _ qw504) (fun _ h9 => h9) rfl dX5_foldNumbers_92 ?_
        refine lv_iload hx hb dX5_foldNumbers_95 (lv_at hl 3 rfl) ?_
        obtain ⟨o_13, hc_13, hrun⟩ := bnd9 hrun
        have hPx : va_P (dC, dI) cls ((List.flatten ([] : List va_W)) ++ (List.flatten ([(oX5 (p0a 0) p0a p0k (o17.1) (o17.2)), (oX1 (p1a 0) p1a p1k p1n p1w_82 p1l), (oX9 (p1a 3) (st1 (st1 (st1 (st1 (st1 p1_2a 2 xp1_2_1_82) 3 xp1_2_2_82) 4 xp1_2_3_82) 5 xp1_2_4_82) 6 xp1_2_5_82) (st1 (st1 (st1 (st1 (st1 p1_2k 2 zp1_2_1_82) 3 zp1_2_2_82) 4 zp1_2_3_82) 5 zp1_2_4_82) 6 zp1_2_5_82) p1_2n_82 p1_2w_82), (oX8 (p0a 1) p0_0a p0_0k p0_0w)] : List va_W))) H := vP_fa (vP_perm hP (bP (List.Perm.refl _)))
        have hDx : va_D A ((List.flatten ([] : List va_W)) ++ (List.flatten ([(oX5 (p0a 0) p0a p0k (o17.1) (o17.2)), (oX1 (p1a 0) p1a p1k p1n p1w_82 p1l), (oX9 (p1a 3) (st1 (st1 (st1 (st1 (st1 p1_2a 2 xp1_2_1_82) 3 xp1_2_2_82) 4 xp1_2_3_82) 5 xp1_2_4_82) 6 xp1_2_5_82) (st1 (st1 (st1 (st1 (st1 p1_2k 2 zp1_2_1_82) 3 zp1_2_2_82) 4 zp1_2_3_82) 5 zp1_2_4_82) 6 zp1_2_5_82) p1_2n_82 p1_2w_82), (oX8 (p0a 1) p0_0a p0_0k p0_0w)] : List va_W))) := vD_fa (vD_perm hD (bP (List.Perm.refl _)))
        have hKx : va_K (dC, dI) cls ((List.flatten ([] : List (List (ClassId × FieldType)))) ++ (List.flatten ([(tX5 p0k), (tX1 p1k), (tX9 (st1 (st1 (st1 (st1 (st1 p1_2k 2 zp1_2_1_82) 3 zp1_2_2_82) 4 zp1_2_3_82) 5 zp1_2_4_82) 6 zp1_2_5_82)), (tX8 p0_0k)] : List (List (ClassId × FieldType))))) s := vK_fa (vK_perm hK (bP (List.Perm.refl _)))
        have hPc := vP_l hPx
        have hDc := vD_l hDx
        have hKc := vK_l hKx
        have hFc := vfree hDx hS hA
        refine va_calli (va_runSN (As := [.long ((o17.2) 0 7), .int v4_82]) (rest := []) ⟨hx, hb, hml, hown, hts⟩ (kX11_holds l dC dI (p0 := ((o17.2) 0 7)) (p1 := v4_82) (sz := _) (o := o_13) (hrun := hc_13)) ⟨(va_cnB 2 hts (gi_z qw192) rfl rfl rfl (hE.nw (List.mem_append_right _ (tbl_7 (i := 146) rfl)) rfl) (hts _ qw129) (by decide +kernel) ⟨Nat.le_of_ble_eq_true rfl, Nat.le_of_ble_eq_true rfl⟩), (hts _ qw193), trivial⟩ ⟨PRE.blind, PRE.of hE hS hFc hPc hKc hDc⟩ rfl rfl hl.1 rfl (lv_room (Nat.le_of_ble_eq_true rfl)) dX5_foldNumbers_97 ⟨(show (hcX9 p1_2n p1_2n_82) + 0 ≤ (hcX9 p1_2n (o.2.2.2.2.2.2.1)) from by have q0 := gmX9 hg_p1_2 hgn_p1_2; omega), (show (3 * (gcX9 p1_2n p1_2n_82)) + 0 ≤ (3 * (gcX9 p1_2n (o.2.2.2.2.2.2.1))) from by have q0 := gmX9 hg_p1_2 hgn_p1_2; omega)⟩) hS (fun q _ h => hFc q h) hFc (fun r14 u t H locs ht hvm hw hB hz1 hk1 hS => ?_)
        obtain ⟨b1, b2, b3⟩ := hB
        rw [ht] at b1
        obtain ⟨hP, hD, hK⟩ := JOINC (wc := (List.flatten ([] : List va_W))) (wr := (List.flatten ([(oX5 (p0a 0) p0a p0k (o17.1) (o17.2)), (oX1 (p1a 0) p1a p1k p1n p1w_82 p1l), (oX9 (p1a 3) (st1 (st1 (st1 (st1 (st1 p1_2a 2 xp1_2_1_82) 3 xp1_2_2_82) 4 xp1_2_3_82) 5 xp1_2_4_82) 6 xp1_2_5_82) (st1 (st1 (st1 (st1 (st1 p1_2k 2 zp1_2_1_82) 3 zp1_2_2_82) 4 zp1_2_3_82) 5 zp1_2_4_82) 6 zp1_2_5_82) p1_2n_82 p1_2w_82), (oX8 (p0a 1) p0_0a p0_0k p0_0w)] : List va_W))) (w1 := (List.flatten ([] : List va_W))) (t1 := (List.flatten ([] : List (List (ClassId × FieldType))))) hPx hDx hKx hk1 hFc b1 (va_K.moved hvm.symm b2) b3
        have hP : va_P (dC, dI) cls (List.flatten ([(oX5 (p0a 0) p0a p0k (o17.1) (o17.2)), (oX1 (p1a 0) p1a p1k p1n p1w_82 p1l), (oX9 (p1a 3) (st1 (st1 (st1 (st1 (st1 p1_2a 2 xp1_2_1_82) 3 xp1_2_2_82) 4 xp1_2_3_82) 5 xp1_2_4_82) 6 xp1_2_5_82) (st1 (st1 (st1 (st1 (st1 p1_2k 2 zp1_2_1_82) 3 zp1_2_2_82) 4 zp1_2_3_82) 5 zp1_2_4_82) 6 zp1_2_5_82) p1_2n_82 p1_2w_82), (oX8 (p0a 1) p0_0a p0_0k p0_0w)] : List va_W)) H := vP_perm (vP_fb hP) (bP (List.Perm.refl _))
        have hD : va_D A (List.flatten ([(oX5 (p0a 0) p0a p0k (o17.1) (o17.2)), (oX1 (p1a 0) p1a p1k p1n p1w_82 p1l), (oX9 (p1a 3) (st1 (st1 (st1 (st1 (st1 p1_2a 2 xp1_2_1_82) 3 xp1_2_2_82) 4 xp1_2_3_82) 5 xp1_2_4_82) 6 xp1_2_5_82) (st1 (st1 (st1 (st1 (st1 p1_2k 2 zp1_2_1_82) 3 zp1_2_2_82) 4 zp1_2_3_82) 5 zp1_2_4_82) 6 zp1_2_5_82) p1_2n_82 p1_2w_82), (oX8 (p0a 1) p0_0a p0_0k p0_0w)] : List va_W)) := vD_perm (vD_fb hD) (bP (List.Perm.refl _))
        have hK : va_K (dC, dI) cls (List.flatten ([(tX5 p0k), (tX1 p1k), (tX9 (st1 (st1 (st1 (st1 (st1 p1_2k 2 zp1_2_1_82) 3 zp1_2_2_82) 4 zp1_2_3_82) 5 zp1_2_4_82) 6 zp1_2_5_82)), (tX8 p0_0k)] : List (List (ClassId × FieldType)))) s := vK_perm (vK_fb hK) (bP (List.Perm.refl _))
        obtain rfl : o_13 = r14 := hw.symm
        have J113 : ∀ (v3_113 : Int32) (p1w_113 : ST) (p1_2w_113 : ST) (p1_2n_113 : Nat → Nat) (xp1_2_1_113 : Nat) (zp1_2_1_113 : ClassId) (xp1_2_2_113 : Nat) (zp1_2_2_113 : ClassId) (xp1_2_3_113 : Nat) (zp1_2_3_113 : ClassId) (xp1_2_4_113 : Nat) (zp1_2_4_113 : ClassId) (xp1_2_5_113 : Nat) (zp1_2_5_113 : ClassId) (H : Heap) (locs : List Loc) (ls : Array Slot), (fX5_foldNumbers_J113 (fX5_foldNumbers_L82 p1n o17 n_82) v4_82 v3_113 p1w_113 p1_2w_113 p1_2n_113) = some o82 → va_P (dC, dI) cls (List.flatten ([(oX5 (p0a 0) p0a p0k (o17.1) (o17.2)), (oX1 (p1a 0) p1a p1k p1n p1w_113 p1l), (oX9 (p1a 3) (st1 (st1 (st1 (st1 (st1 p1_2a 2 xp1_2_1_113) 3 xp1_2_2_113) 4 xp1_2_3_113) 5 xp1_2_4_113) 6 xp1_2_5_113) (st1 (st1 (st1 (st1 (st1 p1_2k 2 zp1_2_1_113) 3 zp1_2_2_113) 4 zp1_2_3_113) 5 zp1_2_4_113) 6 zp1_2_5_113) p1_2n_113 p1_2w_113), (oX8 (p0a 1) p0_0a p0_0k p0_0w)] : List va_W)) H → va_D A (List.flatten ([(oX5 (p0a 0) p0a p0k (o17.1) (o17.2)), (oX1 (p1a 0) p1a p1k p1n p1w_113 p1l), (oX9 (p1a 3) (st1 (st1 (st1 (st1 (st1 p1_2a 2 xp1_2_1_113) 3 xp1_2_2_113) 4 xp1_2_3_113) 5 xp1_2_4_113) 6 xp1_2_5_113) (st1 (st1 (st1 (st1 (st1 p1_2k 2 zp1_2_1_113) 3 zp1_2_2_113) 4 zp1_2_3_113) 5 zp1_2_4_113) 6 zp1_2_5_113) p1_2n_113 p1_2w_113), (oX8 (p0a 1) p0_0a p0_0k p0_0w)] : List va_W)) → va_K (dC, dI) cls (List.flatten ([(tX5 p0k), (tX1 p1k), (tX9 (st1 (st1 (st1 (st1 (st1 p1_2k 2 zp1_2_1_113) 3 zp1_2_2_113) 4 zp1_2_3_113) 5 zp1_2_4_113) 6 zp1_2_5_113)), (tX8 p0_0k)] : List (List (ClassId × FieldType)))) s → va_S A s.heap H locs → lv_has ls 5 [(0, .ref (p0a 0)), (1, .ref (p1a 0)), (3, .int v3_113), (4, .int v4_82)] → glX9 p1_2n p1_2n_113 → W p l e ({ frames := 5, cells := (hcX9 p1_2n (o.2.2.2.2.2.2.1)), slots := (3 * (gcX9 p1_2n (o.2.2.2.2.2.2.1))), locals := 140 } : Room) s m ([.ref (p0a 0), .ref (p1a 0)] : List Value).toArray below meth c H locs (hcX9 p1_2n p1_2n_113) (3 * (gcX9 p1_2n p1_2n_113)) Q (F0 m 113 ls []) := by
          intro v3_113 p1w_113 p1_2w_113 p1_2n_113 xp1_2_1_113 zp1_2_1_113 xp1_2_2_113 zp1_2_2_113 xp1_2_3_113 zp1_2_3_113 xp1_2_4_113 zp1_2_4_113 xp1_2_5_113 zp1_2_5_113 H locs ls hrun hP hD hK hS hl hg_p1_2 
          have hgn_p1_2 : glX9 p1_2n_113 (o.2.2.2.2.2.2.1) := (glX9_tr (mo_fX5_foldNumbers_J113 (mo_fX5_foldNumbers_L82 n_82) hrun) hgo_p1_2)
          unfold fX5_foldNumbers_J113 at hrun
          refine lv_iinc (v := (v4_82 + 1)) (lv' := [(4, .int (v4_82 + 1)), (0, .ref (p0a 0)), (1, .ref (p1a 0)), (3, .int v3_113)]) hx hb dX5_foldNumbers_113 hl (k := 3) rfl rfl (by decide) rfl (fun ls hl => ?_)
          refine lv_goto (tgt := 82) hx hb dX5_foldNumbers_116 (by decide) ?_
          exact IH82 v3_113 (v4_82 + 1) p1w_113 p1_2w_113 p1_2n_113 xp1_2_1_113 zp1_2_1_113 xp1_2_2_113 zp1_2_2_113 xp1_2_3_113 zp1_2_3_113 xp1_2_4_113 zp1_2_4_113 xp1_2_5_113 zp1_2_5_113 o82 _ _ _ hrun hP hD hK hS (lv_sub hl [1, 2, 3, 0] rfl) hg_p1_2 hgo_p1_2 hk82
        rcases br9 hrun with ⟨hc15, hrun⟩ | ⟨hc15, hrun⟩
        · refine lv_if_eq (tgt := 113) hx hb dX5_foldNumbers_100 (by decide) (fun _ => ?_) (fun c => absurd hc15 c)
          exact J113 v3_82 p1w_82 p1_2w_82 p1_2n_82 xp1_2_1_82 zp1_2_1_82 xp1_2_2_82 zp1_2_2_82 xp1_2_3_82 zp1_2_3_82 xp1_2_4_82 zp1_2_4_82 xp1_2_5_82 zp1_2_5_82 _ _ _ hrun hP hD hK hS (lv_sub hl [0, 1, 2, 3] rfl) hg_p1_2
        · refine lv_if_eq (tgt := 113) hx hb dX5_foldNumbers_100 (by decide) (fun c => absurd c hc15) (fun _ => ?_)
          refine lv_iload_n hx hb dX5_foldNumbers_103 rfl (lv_at hl 2 rfl) ?_
          refine lv_aload_n hx hb dX5_foldNumbers_104 rfl (lv_at hl 0 rfl) ?_
          refine lv_aload_n hx hb dX5_foldNumbers_105 rfl (lv_at hl 1 rfl) ?_
          refine lv_iload hx hb dX5_foldNumbers_106 (lv_at hl 3 rfl) ?_
          obtain ⟨o_16, hc_16, hrun⟩ := bnd9 hrun
          have hPx : va_P (dC, dI) cls ((List.flatten ([(oX5 (p0a 0) p0a p0k (o17.1) (o17.2)), (oX1 (p1a 0) p1a p1k p1n p1w_82 p1l), (oX9 (p1a 3) (st1 (st1 (st1 (st1 (st1 p1_2a 2 xp1_2_1_82) 3 xp1_2_2_82) 4 xp1_2_3_82) 5 xp1_2_4_82) 6 xp1_2_5_82) (st1 (st1 (st1 (st1 (st1 p1_2k 2 zp1_2_1_82) 3 zp1_2_2_82) 4 zp1_2_3_82) 5 zp1_2_4_82) 6 zp1_2_5_82) p1_2n_82 p1_2w_82)] : List va_W)) ++ (List.flatten ([(oX8 (p0a 1) p0_0a p0_0k p0_0w)] : List va_W))) H := vP_fa (vP_perm hP (bP (List.Perm.refl _)))
          have hDx : va_D A ((List.flatten ([(oX5 (p0a 0) p0a p0k (o17.1) (o17.2)), (oX1 (p1a 0) p1a p1k p1n p1w_82 p1l), (oX9 (p1a 3) (st1 (st1 (st1 (st1 (st1 p1_2a 2 xp1_2_1_82) 3 xp1_2_2_82) 4 xp1_2_3_82) 5 xp1_2_4_82) 6 xp1_2_5_82) (st1 (st1 (st1 (st1 (st1 p1_2k 2 zp1_2_1_82) 3 zp1_2_2_82) 4 zp1_2_3_82) 5 zp1_2_4_82) 6 zp1_2_5_82) p1_2n_82 p1_2w_82)] : List va_W)) ++ (List.flatten ([(oX8 (p0a 1) p0_0a p0_0k p0_0w)] : List va_W))) := vD_fa (vD_perm hD (bP (List.Perm.refl _)))
          have hKx : va_K (dC, dI) cls ((List.flatten ([(tX5 p0k), (tX1 p1k), (tX9 (st1 (st1 (st1 (st1 (st1 p1_2k 2 zp1_2_1_82) 3 zp1_2_2_82) 4 zp1_2_3_82) 5 zp1_2_4_82) 6 zp1_2_5_82))] : List (List (ClassId × FieldType)))) ++ (List.flatten ([(tX8 p0_0k)] : List (List (ClassId × FieldType))))) s := vK_fa (vK_perm hK (bP (List.Perm.refl _)))
          have hPc := vP_l hPx
          have hDc := vD_l hDx
          have hKc := vK_l hKx
          have hFc := vfree hDx hS hA
          have hgn_p1_2 : glX9 (o_16.2.2.2) (o.2.2.2.2.2.2.1) := (glX9_tr (mo_fX5_foldNumbers_G111_28 (mo_fX5_foldNumbers_L82 n_82) hrun) hgo_p1_2)
          refine va_calli (va_runV (As := [.ref (p1a 0), .int v4_82]) (rest := [.int v3_82]) ⟨hx, hb, hml, hown, hts⟩ (kX5_foldBlock l dC dI (p0a := p0a) (p0k := p0k) (p0w := (o17.1)) (p0l := (o17.2)) (p1a := p1a) (p1k := p1k) (p1n := p1n) (p1w := p1w_82) (p1l := p1l) (p2 := v4_82) (p1_2a := (st1 (st1 (st1 (st1 (st1 p1_2a 2 xp1_2_1_82) 3 xp1_2_2_82) 4 xp1_2_3_82) 5 xp1_2_4_82) 6 xp1_2_5_82)) (p1_2k := (st1 (st1 (st1 (st1 (st1 p1_2k 2 zp1_2_1_82) 3 zp1_2_2_82) 4 zp1_2_3_82) 5 zp1_2_4_82) 6 zp1_2_5_82)) (p1_2n := p1_2n_82) (p1_2w := p1_2w_82) (sz := _) (o := o_16) (hrun := hc_16)) (cwV 2 hts (gi_V qw530 qw531 qw532 qw442 (gi_z qw529)) rfl rfl rfl (by decide +kernel) ⟨Nat.le_of_ble_eq_true rfl, Nat.le_of_ble_eq_true rfl⟩) ⟨PRE.blind, va_recv hKc hPc (ci := 7) (q0 := 0) rfl rfl, PRE.of hE hS hFc hPc hKc hDc⟩ rfl rfl hl.1 rfl (lv_room (Nat.le_of_ble_eq_true rfl)) dX5_foldNumbers_108 ⟨(show (hcX9 p1_2n p1_2n_82) + (hcX9 p1_2n_82 (o_16.2.2.2)) ≤ (hcX9 p1_2n (o.2.2.2.2.2.2.1)) from by have q0 := gsX9 hg_p1_2 (mo_fX5_foldBlock hc_16) hgn_p1_2; omega), (show (3 * (gcX9 p1_2n p1_2n_82)) + (3 * (gcX9 p1_2n_82 (o_16.2.2.2))) ≤ (3 * (gcX9 p1_2n (o.2.2.2.2.2.2.1))) from by have q0 := gsX9 hg_p1_2 (mo_fX5_foldBlock hc_16) hgn_p1_2; omega)⟩) hS (fun q _ h => hFc q h) hFc (fun r17 u t H locs ht hvm hw hB hz1 hk1 hS => ?_)
          obtain ⟨x18, z19, x20, z21, x22, z23, x24, z25, x26, z27, hB⟩ := hB
          obtain ⟨b1, b2, b3⟩ := hB
          rw [ht] at b1
          obtain ⟨hP, hD, hK⟩ := JOINC (wc := (List.flatten ([(oX5 (p0a 0) p0a p0k (o17.1) (o17.2)), (oX1 (p1a 0) p1a p1k p1n p1w_82 p1l), (oX9 (p1a 3) (st1 (st1 (st1 (st1 (st1 p1_2a 2 xp1_2_1_82) 3 xp1_2_2_82) 4 xp1_2_3_82) 5 xp1_2_4_82) 6 xp1_2_5_82) (st1 (st1 (st1 (st1 (st1 p1_2k 2 zp1_2_1_82) 3 zp1_2_2_82) 4 zp1_2_3_82) 5 zp1_2_4_82) 6 zp1_2_5_82) p1_2n_82 p1_2w_82)] : List va_W))) (wr := (List.flatten ([(oX8 (p0a 1) p0_0a p0_0k p0_0w)] : List va_W))) (w1 := (List.flatten ([(oX5 (p0a 0) p0a p0k (o17.1) (o17.2)), (oX1 (p1a 0) p1a p1k p1n (o_16.2.1) p1l), (oX9 (p1a 3) (st1 (st1 (st1 (st1 (st1 p1_2a 2 x18) 3 x20) 4 x22) 5 x24) 6 x26) (st1 (st1 (st1 (st1 (st1 p1_2k 2 z19) 3 z21) 4 z23) 5 z25) 6 z27) (o_16.2.2.2) (o_16.2.2.1))] : List va_W))) (t1 := (List.flatten ([(tX5 p0k), (tX1 p1k), (tX9 (st1 (st1 (st1 (st1 (st1 p1_2k 2 z19) 3 z21) 4 z23) 5 z25) 6 z27))] : List (List (ClassId × FieldType))))) hPx hDx hKx hk1 hFc b1 (va_K.moved hvm.symm b2) b3
          have hP : va_P (dC, dI) cls (List.flatten ([(oX5 (p0a 0) p0a p0k (o17.1) (o17.2)), (oX1 (p1a 0) p1a p1k p1n (o_16.2.1) p1l), (oX9 (p1a 3) (st1 (st1 (st1 (st1 (st1 p1_2a 2 x18) 3 x20) 4 x22) 5 x24) 6 x26) (st1 (st1 (st1 (st1 (st1 p1_2k 2 z19) 3 z21) 4 z23) 5 z25) 6 z27) (o_16.2.2.2) (o_16.2.2.1)), (oX8 (p0a 1) p0_0a p0_0k p0_0w)] : List va_W)) H := vP_perm (vP_fb hP) (bP (List.Perm.refl _))
          have hD : va_D A (List.flatten ([(oX5 (p0a 0) p0a p0k (o17.1) (o17.2)), (oX1 (p1a 0) p1a p1k p1n (o_16.2.1) p1l), (oX9 (p1a 3) (st1 (st1 (st1 (st1 (st1 p1_2a 2 x18) 3 x20) 4 x22) 5 x24) 6 x26) (st1 (st1 (st1 (st1 (st1 p1_2k 2 z19) 3 z21) 4 z23) 5 z25) 6 z27) (o_16.2.2.2) (o_16.2.2.1)), (oX8 (p0a 1) p0_0a p0_0k p0_0w)] : List va_W)) := vD_perm (vD_fb hD) (bP (List.Perm.refl _))
          have hK : va_K (dC, dI) cls (List.flatten ([(tX5 p0k), (tX1 p1k), (tX9 (st1 (st1 (st1 (st1 (st1 p1_2k 2 z19) 3 z21) 4 z23) 5 z25) 6 z27)), (tX8 p0_0k)] : List (List (ClassId × FieldType)))) s := vK_perm (vK_fb hK) (bP (List.Perm.refl _))
          obtain rfl : r17 = (o_16.1) := hw
          refine W.widen (k := (hcX9 p1_2n (o_16.2.2.2))) (n := (3 * (gcX9 p1_2n (o_16.2.2.2)))) (by have a0 := gcX9_add hg_p1_2 (mo_fX5_foldBlock hc_16); omega) (by have a0 := gcX9_add hg_p1_2 (mo_fX5_foldBlock hc_16); omega) ?_
          have hg_p1_2 : glX9 p1_2n (o_16.2.2.2) := glX9_tr hg_p1_2 (mo_fX5_foldBlock hc_16)
          unfold fX5_foldNumbers_G111_28 at hrun
          refine lv_iadd hx hb dX5_foldNumbers_111 ?_
          refine lv_istore_n (lv' := [(3, .int (v3_82 + (o_16.1))), (0, .ref (p0a 0)), (1, .ref (p1a 0)), (4, .int v4_82)]) hx hb dX5_foldNumbers_112 rfl hl (by decide) rfl (fun ls hl => ?_)
          exact J113 (v3_82 + (o_16.1)) (o_16.2.1) (o_16.2.2.1) (o_16.2.2.2) x18 z19 x20 z21 x22 z23 x24 z25 x26 z27 _ _ _ hrun hP hD hK hS (lv_sub hl [1, 2, 0, 3] rfl) hg_p1_2
  refine L82 NF 0 0 p1w p1_2w p1_2n (p1_2a 2) (p1_2k 2) (p1_2a 3) (p1_2k 3) (p1_2a 4) (p1_2k 4) (p1_2a 5) (p1_2k 5) (p1_2a 6) (p1_2k 6) o82 _ _ _ hc82 hP hD hK hS (lv_sub hl [2, 3, 1, 0] rfl) hg_p1_2 hgn_p1_2 ?_
  intro xp1_2_1_82x zp1_2_1_82x xp1_2_2_82x zp1_2_2_82x xp1_2_3_82x zp1_2_3_82x xp1_2_4_82x zp1_2_4_82x xp1_2_5_82x zp1_2_5_82x H locs ls hP hD hK hS hl hg_p1_2
  have hl := hl
  unfold fX5_foldNumbers_G119_29 at hrun
  refine lv_iload_n hx hb dX5_foldNumbers_119 rfl (lv_at hl 2 rfl) ?_
  have J131 : ∀ (p1w_131 : ST) (p1l_131 : SL) (p0_0w_131 : ST) (H : Heap) (locs : List Loc) (ls : Array Slot), (fX5_foldNumbers_J131 o17 o82 p1w_131 p1l_131 p0_0w_131) = some o → va_P (dC, dI) cls (List.flatten ([(oX5 (p0a 0) p0a p0k (o17.1) (o17.2)), (oX1 (p1a 0) p1a p1k p1n p1w_131 p1l_131), (oX9 (p1a 3) (st1 (st1 (st1 (st1 (st1 p1_2a 2 xp1_2_1_82x) 3 xp1_2_2_82x) 4 xp1_2_3_82x) 5 xp1_2_4_82x) 6 xp1_2_5_82x) (st1 (st1 (st1 (st1 (st1 p1_2k 2 zp1_2_1_82x) 3 zp1_2_2_82x) 4 zp1_2_3_82x) 5 zp1_2_4_82x) 6 zp1_2_5_82x) (o82.2.2.2) (o82.2.2.1)), (oX8 (p0a 1) p0_0a p0_0k p0_0w_131)] : List va_W)) H → va_D A (List.flatten ([(oX5 (p0a 0) p0a p0k (o17.1) (o17.2)), (oX1 (p1a 0) p1a p1k p1n p1w_131 p1l_131), (oX9 (p1a 3) (st1 (st1 (st1 (st1 (st1 p1_2a 2 xp1_2_1_82x) 3 xp1_2_2_82x) 4 xp1_2_3_82x) 5 xp1_2_4_82x) 6 xp1_2_5_82x) (st1 (st1 (st1 (st1 (st1 p1_2k 2 zp1_2_1_82x) 3 zp1_2_2_82x) 4 zp1_2_3_82x) 5 zp1_2_4_82x) 6 zp1_2_5_82x) (o82.2.2.2) (o82.2.2.1)), (oX8 (p0a 1) p0_0a p0_0k p0_0w_131)] : List va_W)) → va_K (dC, dI) cls (List.flatten ([(tX5 p0k), (tX1 p1k), (tX9 (st1 (st1 (st1 (st1 (st1 p1_2k 2 zp1_2_1_82x) 3 zp1_2_2_82x) 4 zp1_2_3_82x) 5 zp1_2_4_82x) 6 zp1_2_5_82x)), (tX8 p0_0k)] : List (List (ClassId × FieldType)))) s → va_S A s.heap H locs → lv_has ls 5 [(3, .int (o82.1))] → glX9 p1_2n (o82.2.2.2) → W p l e ({ frames := 5, cells := (hcX9 p1_2n (o.2.2.2.2.2.2.1)), slots := (3 * (gcX9 p1_2n (o.2.2.2.2.2.2.1))), locals := 140 } : Room) s m ([.ref (p0a 0), .ref (p1a 0)] : List Value).toArray below meth c H locs (hcX9 p1_2n (o82.2.2.2)) (3 * (gcX9 p1_2n (o82.2.2.2))) Q (F0 m 131 ls []) := by
    intro p1w_131 p1l_131 p0_0w_131 H locs ls hrun hP hD hK hS hl hg_p1_2 
    have hgn_p1_2 : glX9 (o82.2.2.2) (o.2.2.2.2.2.2.1) := (mo_fX5_foldNumbers_J131 hrun)
    unfold fX5_foldNumbers_J131 at hrun
    refine lv_iload_n hx hb dX5_foldNumbers_131 rfl (lv_at hl 0 rfl) ?_
    have ho9 : ((o82.1), (o17.1), (o17.2), p1w_131, p1l_131, (o82.2.2.1), (o82.2.2.2), p0_0w_131) = o := Option.some.inj hrun
    subst ho9
    subst hQ
    exact W.iret (v := (o82.1)) hx hb hr (fun t ht hW => ⟨⟨(o82.1), (), rfl, rfl, ⟨xp1_2_1_82x, zp1_2_1_82x, xp1_2_2_82x, zp1_2_2_82x, xp1_2_3_82x, zp1_2_3_82x, xp1_2_4_82x, zp1_2_4_82x, xp1_2_5_82x, zp1_2_5_82x, by rw [ht]; exact hP, va_K.moved hW.alike hK, hD⟩⟩, hS.F ht⟩) hS.2.2 dX5_foldNumbers_132
  rcases br9 hrun with ⟨hc30, hrun⟩ | ⟨hc30, hrun⟩
  · refine lv_if_le (tgt := 131) hx hb dX5_foldNumbers_120 (by decide) (fun _ => ?_) (fun c => absurd hc30 c)
    exact J131 (o82.2.1) p1l p0_0w _ _ _ hrun hP hD hK hS (lv_sub hl [2] rfl) hg_p1_2
  · refine lv_if_le (tgt := 131) hx hb dX5_foldNumbers_120 (by decide) (fun c => absurd c hc30) (fun _ => ?_)
    refine lv_aload_n hx hb dX5_foldNumbers_123 rfl (lv_at hl 0 rfl) ?_
    refine va_get (D := (dC, dI)) (ci := 7) (v := .ref (p0a 1)) (C := RX5) (T := TX5) (N := 12) hx hb hts i_X5 hown hK hP 0 rfl rfl 0 (by decide) (hts _ qw533) (fun _ h9 => h9) rfl dX5_foldNumbers_124 ?_
    refine lv_aload_n hx hb dX5_foldNumbers_127 rfl (lv_at hl 1 rfl) ?_
    obtain ⟨o_31, hc_31, hrun⟩ := bnd9 hrun
    have hPx : va_P (dC, dI) cls ((List.flatten ([(oX8 (p0a 1) p0_0a p0_0k p0_0w), (oX1 (p1a 0) p1a p1k p1n (o82.2.1) p1l)] : List va_W)) ++ (List.flatten ([(oX5 (p0a 0) p0a p0k (o17.1) (o17.2)), (oX9 (p1a 3) (st1 (st1 (st1 (st1 (st1 p1_2a 2 xp1_2_1_82x) 3 xp1_2_2_82x) 4 xp1_2_3_82x) 5 xp1_2_4_82x) 6 xp1_2_5_82x) (st1 (st1 (st1 (st1 (st1 p1_2k 2 zp1_2_1_82x) 3 zp1_2_2_82x) 4 zp1_2_3_82x) 5 zp1_2_4_82x) 6 zp1_2_5_82x) (o82.2.2.2) (o82.2.2.1))] : List va_W))) H := vP_fa (vP_perm hP (bP ((((((((((((List.Perm.refl _)).cons _).trans (List.Perm.swap _ _ _))).cons _).trans (List.Perm.swap _ _ _))).cons _).trans (List.Perm.swap _ _ _))).trans ((((((List.Perm.refl _)).cons _).trans (List.Perm.swap _ _ _))).cons _))))
    have hDx : va_D A ((List.flatten ([(oX8 (p0a 1) p0_0a p0_0k p0_0w), (oX1 (p1a 0) p1a p1k p1n (o82.2.1) p1l)] : List va_W)) ++ (List.flatten ([(oX5 (p0a 0) p0a p0k (o17.1) (o17.2)), (oX9 (p1a 3) (st1 (st1 (st1 (st1 (st1 p1_2a 2 xp1_2_1_82x) 3 xp1_2_2_82x) 4 xp1_2_3_82x) 5 xp1_2_4_82x) 6 xp1_2_5_82x) (st1 (st1 (st1 (st1 (st1 p1_2k 2 zp1_2_1_82x) 3 zp1_2_2_82x) 4 zp1_2_3_82x) 5 zp1_2_4_82x) 6 zp1_2_5_82x) (o82.2.2.2) (o82.2.2.1))] : List va_W))) := vD_fa (vD_perm hD (bP ((((((((((((List.Perm.refl _)).cons _).trans (List.Perm.swap _ _ _))).cons _).trans (List.Perm.swap _ _ _))).cons _).trans (List.Perm.swap _ _ _))).trans ((((((List.Perm.refl _)).cons _).trans (List.Perm.swap _ _ _))).cons _))))
    have hKx : va_K (dC, dI) cls ((List.flatten ([(tX8 p0_0k), (tX1 p1k)] : List (List (ClassId × FieldType)))) ++ (List.flatten ([(tX5 p0k), (tX9 (st1 (st1 (st1 (st1 (st1 p1_2k 2 zp1_2_1_82x) 3 zp1_2_2_82x) 4 zp1_2_3_82x) 5 zp1_2_4_82x) 6 zp1_2_5_82x))] : List (List (ClassId × FieldType))))) s := vK_fa (vK_perm hK (bP ((((((((((((List.Perm.refl _)).cons _).trans (List.Perm.swap _ _ _))).cons _).trans (List.Perm.swap _ _ _))).cons _).trans (List.Perm.swap _ _ _))).trans ((((((List.Perm.refl _)).cons _).trans (List.Perm.swap _ _ _))).cons _))))
    have hPc := vP_l hPx
    have hDc := vD_l hDx
    have hKc := vK_l hKx
    have hFc := vfree hDx hS hA
    refine va_callv (va_runV (As := [.ref (p1a 0)]) (rest := []) ⟨hx, hb, hml, hown, hts⟩ (kX8_renumber l dC dI (p0a := (st0 (p0a 1) p0_0a)) (p0k := p0_0k) (p0w := p0_0w) (p1a := p1a) (p1k := p1k) (p1n := p1n) (p1w := (o82.2.1)) (p1l := p1l) (sz := _) (o := o_31) (hrun := hc_31)) (cwV 1 hts (gi_V qw534 qw381 qw382 qw197 (gi_z qw379)) rfl rfl rfl (by decide +kernel) ⟨Nat.le_of_ble_eq_true rfl, Nat.le_of_ble_eq_true rfl⟩) ⟨PRE.blind, va_recv hKc hPc (ci := 5) (q0 := 0) rfl rfl, PRE.of hE hS hFc hPc hKc hDc⟩ rfl rfl hl.1 rfl (lv_room (Nat.le_of_ble_eq_true rfl)) dX5_foldNumbers_128 ⟨(show (hcX9 p1_2n (o82.2.2.2)) + 0 ≤ (hcX9 p1_2n (o.2.2.2.2.2.2.1)) from by have q0 := gmX9 hg_p1_2 hgn_p1_2; omega), (show (3 * (gcX9 p1_2n (o82.2.2.2))) + 0 ≤ (3 * (gcX9 p1_2n (o.2.2.2.2.2.2.1))) from by have q0 := gmX9 hg_p1_2 hgn_p1_2; omega)⟩) hS (fun q _ h => hFc q h) hFc (fun u t H locs ht hvm hw hB hz1 hk1 hS => ?_)
    obtain ⟨b1, b2, b3⟩ := hB
    rw [ht] at b1
    obtain ⟨hP, hD, hK⟩ := JOINC (wc := (List.flatten ([(oX8 (p0a 1) p0_0a p0_0k p0_0w), (oX1 (p1a 0) p1a p1k p1n (o82.2.1) p1l)] : List va_W))) (wr := (List.flatten ([(oX5 (p0a 0) p0a p0k (o17.1) (o17.2)), (oX9 (p1a 3) (st1 (st1 (st1 (st1 (st1 p1_2a 2 xp1_2_1_82x) 3 xp1_2_2_82x) 4 xp1_2_3_82x) 5 xp1_2_4_82x) 6 xp1_2_5_82x) (st1 (st1 (st1 (st1 (st1 p1_2k 2 zp1_2_1_82x) 3 zp1_2_2_82x) 4 zp1_2_3_82x) 5 zp1_2_4_82x) 6 zp1_2_5_82x) (o82.2.2.2) (o82.2.2.1))] : List va_W))) (w1 := (List.flatten ([(oX8 (p0a 1) p0_0a p0_0k (o_31.1)), (oX1 (p1a 0) p1a p1k p1n (o_31.2.1) (o_31.2.2))] : List va_W))) (t1 := (List.flatten ([(tX8 p0_0k), (tX1 p1k)] : List (List (ClassId × FieldType))))) hPx hDx hKx hk1 hFc b1 (va_K.moved hvm.symm b2) b3
    have hP : va_P (dC, dI) cls (List.flatten ([(oX5 (p0a 0) p0a p0k (o17.1) (o17.2)), (oX1 (p1a 0) p1a p1k p1n (o_31.2.1) (o_31.2.2)), (oX9 (p1a 3) (st1 (st1 (st1 (st1 (st1 p1_2a 2 xp1_2_1_82x) 3 xp1_2_2_82x) 4 xp1_2_3_82x) 5 xp1_2_4_82x) 6 xp1_2_5_82x) (st1 (st1 (st1 (st1 (st1 p1_2k 2 zp1_2_1_82x) 3 zp1_2_2_82x) 4 zp1_2_3_82x) 5 zp1_2_4_82x) 6 zp1_2_5_82x) (o82.2.2.2) (o82.2.2.1)), (oX8 (p0a 1) p0_0a p0_0k (o_31.1))] : List va_W)) H := vP_perm (vP_fb hP) (bP (((((((((List.Perm.refl _)).cons _).trans (List.Perm.swap _ _ _))).cons _).trans (List.Perm.swap _ _ _))).trans ((((((((List.Perm.refl _)).cons _).trans (List.Perm.swap _ _ _))).trans ((((((List.Perm.refl _)).cons _).trans (List.Perm.swap _ _ _))).cons _))).cons _)))
    have hD : va_D A (List.flatten ([(oX5 (p0a 0) p0a p0k (o17.1) (o17.2)), (oX1 (p1a 0) p1a p1k p1n (o_31.2.1) (o_31.2.2)), (oX9 (p1a 3) (st1 (st1 (st1 (st1 (st1 p1_2a 2 xp1_2_1_82x) 3 xp1_2_2_82x) 4 xp1_2_3_82x) 5 xp1_2_4_82x) 6 xp1_2_5_82x) (st1 (st1 (st1 (st1 (st1 p1_2k 2 zp1_2_1_82x) 3 zp1_2_2_82x) 4 zp1_2_3_82x) 5 zp1_2_4_82x) 6 zp1_2_5_82x) (o82.2.2.2) (o82.2.2.1)), (oX8 (p0a 1) p0_0a p0_0k (o_31.1))] : List va_W)) := vD_perm (vD_fb hD) (bP (((((((((List.Perm.refl _)).cons _).trans (List.Perm.swap _ _ _))).cons _).trans (List.Perm.swap _ _ _))).trans ((((((((List.Perm.refl _)).cons _).trans (List.Perm.swap _ _ _))).trans ((((((List.Perm.refl _)).cons _).trans (List.Perm.swap _ _ _))).cons _))).cons _)))
    have hK : va_K (dC, dI) cls (List.flatten ([(tX5 p0k), (tX1 p1k), (tX9 (st1 (st1 (st1 (st1 (st1 p1_2k 2 zp1_2_1_82x) 3 zp1_2_2_82x) 4 zp1_2_3_82x) 5 zp1_2_4_82x) 6 zp1_2_5_82x)), (tX8 p0_0k)] : List (List (ClassId × FieldType)))) s := vK_perm (vK_fb hK) (bP (((((((((List.Perm.refl _)).cons _).trans (List.Perm.swap _ _ _))).cons _).trans (List.Perm.swap _ _ _))).trans ((((((((List.Perm.refl _)).cons _).trans (List.Perm.swap _ _ _))).trans ((((((List.Perm.refl _)).cons _).trans (List.Perm.swap _ _ _))).cons _))).cons _)))
    exact J131 (o_31.2.1) (o_31.2.2) (o_31.1) _ _ _ hrun hP hD hK hS (lv_sub hl [2] rfl) hg_p1_2
def fX5_isNumber__J24 (y0_24 : Int32) : Option Int32 := (if y0_24 = 0 ∨ y0_24 = 1 then some y0_24 else none)
def fX5_isNumber__J23  : Option Int32 := (fX5_isNumber__J24 0)
def fX5_isNumber_ (p0w : ST) (p2 : Int32) (p3 : Int32) (p1_2n : Nat → Nat) (p1_2w : ST) : Option Int32 := ((fX5_isNumber p0w p2 p1_2n p1_2w).bind fun (o_1 : Int32) => (if o_1 = 0 then (fX5_isNumber__J23) else ((fX5_numberOf p0w p2 p1_2n p1_2w).bind fun (o_4 : Int32) => (if o_4 = p3 then (fX5_isNumber__J24 1) else (fX5_isNumber__J23)))))
set_option maxHeartbeats 16000000 in
set_option maxRecDepth 100000 in
theorem kX5_isNumber_ {zs : ZS} (l : Launch) (dC : Nat → ClassId) (dI : Nat → Nat → Nat) (p0a : Nat → Nat) (p0k : Nat → ClassId) (p0w : ST) (p0l : SL) (p1a : Nat → Nat) (p1k : Nat → ClassId) (p1n : Nat → Nat) (p1w : ST) (p1l : SL) (p2 : Int32) (p3 : Int32) (p1_2a : Nat → Nat) (p1_2k : Nat → ClassId) (p1_2n : Nat → Nat) (p1_2w : ST) (sz : Nat) (o : Int32) (hrun : fX5_isNumber_ p0w p2 p3 p1_2n p1_2w = some o) : Met l yX5_isNumber_ (wz yX5_isNumber_ cX5_isNumber_ 4 (Option.some Jvm.ClassFile.FieldType.boolean)) ({ frames := 1, cells := 0, slots := 0, locals := 22 } : Room) (va_Pc [.ref (p0a 0), .ref (p1a 0), .int p2, .int p3] (PRE zs dC dI (List.flatten ([(oX5 (p0a 0) p0a p0k p0w p0l), (oX1 (p1a 0) p1a p1k p1n p1w p1l), (oX9 (p1a 3) p1_2a p1_2k p1_2n p1_2w)] : List va_W)) (List.flatten ([(tX5 p0k), (tX1 p1k), (tX9 p1_2k)] : List (List (ClassId × FieldType)))) sz)) (va_Qi (fun (r : Int32) (_ : Unit) => r = o) (fun _ t => POST dC dI (List.flatten ([(oX5 (p0a 0) p0a p0k p0w p0l), (oX1 (p1a 0) p1a p1k p1n p1w p1l), (oX9 (p1a 3) p1_2a p1_2k p1_2n p1_2w)] : List va_W)) (List.flatten ([(tX5 p0k), (tX1 p1k), (tX9 p1_2k)] : List (List (ClassId × FieldType)))) (va_A (List.flatten ([(oX5 (p0a 0) p0a p0k p0w p0l), (oX1 (p1a 0) p1a p1k p1n p1w p1l), (oX9 (p1a 3) p1_2a p1_2k p1_2n p1_2w)] : List va_W)) sz) t) (va_A (List.flatten ([(oX5 (p0a 0) p0a p0k p0w p0l), (oX1 (p1a 0) p1a p1k p1n p1w p1l), (oX9 (p1a 3) p1_2a p1_2k p1_2n p1_2w)] : List va_W)) sz)) 0 0 (va_A (List.flatten ([(oX5 (p0a 0) p0a p0k p0w p0l), (oX1 (p1a 0) p1a p1k p1n p1w p1l), (oX9 (p1a 3) p1_2a p1_2k p1_2n p1_2w)] : List va_W)) sz) := by
  refine Met.ofW (cc := cX5_isNumber_) (maxL := 4) (ret := (Option.some Jvm.ClassFile.FieldType.boolean)) (by decide) rfl ?_
  intro p e s m args below meth c s₁ B hml hv
  obtain ⟨rfl, hsz, hP, hK, hD0, hE⟩ := hv
  have hx := B.exec
  have hb := B.bytes
  have hr := B.returns
  have hts0 := atoms_spec (ws := wz yX5_isNumber_ cX5_isNumber_ 4 (Option.some Jvm.ClassFile.FieldType.boolean)) B.pre
  have hts : ∀ w ∈ gw, w.before _ s = true := fun w h => hts0 w (List.mem_cons_of_mem _ h)
  have hown : s.vm.findClass RX5 = some m.cls := findClass_of_methodNamed B.named
  have hlocks := B.notSynchronized
  subst hsz
  have hD := hD0.self (sz := s.heap.size)
  refine gQ9 ?_
  intro Q hQ
  generalize hAe : va_A (List.flatten ([(oX5 (p0a 0) p0a p0k p0w p0l), (oX1 (p1a 0) p1a p1k p1n p1w p1l), (oX9 (p1a 3) p1_2a p1_2k p1_2n p1_2w)] : List va_W)) s.heap.size = A at hD hE hQ
  have hA : ∀ q : Nat, s.heap.size ≤ q → A q := fun q h => by rw [← hAe]; exact Or.inr h
  have hS : va_S A s.heap s.heap [] := va_S.rf
  have hP : va_P (dC, dI) cls (List.flatten ([(oX5 (p0a 0) p0a p0k p0w p0l), (oX1 (p1a 0) p1a p1k p1n p1w p1l), (oX9 (p1a 3) p1_2a p1_2k p1_2n p1_2w)] : List va_W)) s.heap := hP
  have hl := lv_entry ([.ref (p0a 0), .ref (p1a 0), .int p2, .int p3]) (n := 4) (Nat.le_of_ble_eq_true rfl)
  rw [lg_entry_eq]
  generalize (lg_sl ([.ref (p0a 0), .ref (p1a 0), .int p2, .int p3]) ++ List.replicate (4 - (lg_sl ([.ref (p0a 0), .ref (p1a 0), .int p2, .int p3])).length) Slot.unset).toArray = ls at hl ⊢
  have hl : lv_has ls 4 [(0, .ref (p0a 0)), (1, .ref (p1a 0)), (2, .int p2), (3, .int p3)] := hl
  obtain ⟨H, hHe⟩ : ∃ H, H = s.heap := ⟨_, rfl⟩
  obtain ⟨locs, hle⟩ : ∃ locs : List Loc, locs = [] := ⟨_, rfl⟩
  rw [← hHe] at hP
  have hS : va_S A s.heap H locs := by rw [hHe, hle]; exact hS
  show W p l e ({ frames := 1, cells := 0, slots := 0, locals := 22 } : Room) s m ([.ref (p0a 0), .ref (p1a 0), .int p2, .int p3] : List Value).toArray below meth c s.heap [] 0 0 Q (F0 m 0 ls [])
  rw [← hle]
  refine wH9 hHe ?_
  unfold fX5_isNumber_ at hrun
  refine lv_aload_n hx hb dX5_isNumber__0 rfl (lv_at hl 0 rfl) ?_
  refine lv_aload_n hx hb dX5_isNumber__1 rfl (lv_at hl 1 rfl) ?_
  refine lv_iload_n hx hb dX5_isNumber__2 rfl (lv_at hl 2 rfl) ?_
  obtain ⟨o_1, hc_1, hrun⟩ := bnd9 hrun
  have hPx : va_P (dC, dI) cls ((List.flatten ([(oX5 (p0a 0) p0a p0k p0w p0l), (oX1 (p1a 0) p1a p1k p1n p1w p1l), (oX9 (p1a 3) p1_2a p1_2k p1_2n p1_2w)] : List va_W)) ++ (List.flatten ([] : List va_W))) H := vP_fa (vP_perm hP (bP (List.Perm.refl _)))
  have hDx : va_D A ((List.flatten ([(oX5 (p0a 0) p0a p0k p0w p0l), (oX1 (p1a 0) p1a p1k p1n p1w p1l), (oX9 (p1a 3) p1_2a p1_2k p1_2n p1_2w)] : List va_W)) ++ (List.flatten ([] : List va_W))) := vD_fa (vD_perm hD (bP (List.Perm.refl _)))
  have hKx : va_K (dC, dI) cls ((List.flatten ([(tX5 p0k), (tX1 p1k), (tX9 p1_2k)] : List (List (ClassId × FieldType)))) ++ (List.flatten ([] : List (List (ClassId × FieldType))))) s := vK_fa (vK_perm hK (bP (List.Perm.refl _)))
  have hPc := vP_l hPx
  have hDc := vD_l hDx
  have hKc := vK_l hKx
  have hFc := vfree hDx hS hA
  refine va_calli (va_runV (As := [.ref (p1a 0), .int p2]) (rest := []) ⟨hx, hb, hml, hown, hts⟩ (kX5_isNumber l dC dI (p0a := p0a) (p0k := p0k) (p0w := p0w) (p0l := p0l) (p1a := p1a) (p1k := p1k) (p1n := p1n) (p1w := p1w) (p1l := p1l) (p2 := p2) (p1_2a := p1_2a) (p1_2k := p1_2k) (p1_2n := p1_2n) (p1_2w := p1_2w) (sz := _) (o := o_1) (hrun := hc_1)) (cwV 2 hts (gi_V qw457 qw458 qw459 qw442 (gi_z qw456)) rfl rfl rfl (by decide +kernel) ⟨Nat.le_of_ble_eq_true rfl, Nat.le_of_ble_eq_true rfl⟩) ⟨PRE.blind, va_recv hKc hPc (ci := 7) (q0 := 0) rfl rfl, PRE.of hE hS hFc hPc hKc hDc⟩ rfl rfl hl.1 rfl (lv_room (Nat.le_of_ble_eq_true rfl)) dX5_isNumber__3 ⟨(Nat.le_of_ble_eq_true rfl), (Nat.le_of_ble_eq_true rfl)⟩) hS (fun q _ h => hFc q h) hFc (fun r2 u t H locs ht hvm hw hB hz1 hk1 hS => ?_)
  obtain ⟨b1, b2, b3⟩ := hB
  rw [ht] at b1
  obtain ⟨hP, hD, hK⟩ := JOINC (wc := (List.flatten ([(oX5 (p0a 0) p0a p0k p0w p0l), (oX1 (p1a 0) p1a p1k p1n p1w p1l), (oX9 (p1a 3) p1_2a p1_2k p1_2n p1_2w)] : List va_W))) (wr := (List.flatten ([] : List va_W))) (w1 := (List.flatten ([(oX5 (p0a 0) p0a p0k p0w p0l), (oX1 (p1a 0) p1a p1k p1n p1w p1l), (oX9 (p1a 3) p1_2a p1_2k p1_2n p1_2w)] : List va_W))) (t1 := (List.flatten ([(tX5 p0k), (tX1 p1k), (tX9 p1_2k)] : List (List (ClassId × FieldType))))) hPx hDx hKx hk1 hFc b1 (va_K.moved hvm.symm b2) b3
  have hP : va_P (dC, dI) cls (List.flatten ([(oX5 (p0a 0) p0a p0k p0w p0l), (oX1 (p1a 0) p1a p1k p1n p1w p1l), (oX9 (p1a 3) p1_2a p1_2k p1_2n p1_2w)] : List va_W)) H := vP_perm (vP_fb hP) (bP (List.Perm.refl _))
  have hD : va_D A (List.flatten ([(oX5 (p0a 0) p0a p0k p0w p0l), (oX1 (p1a 0) p1a p1k p1n p1w p1l), (oX9 (p1a 3) p1_2a p1_2k p1_2n p1_2w)] : List va_W)) := vD_perm (vD_fb hD) (bP (List.Perm.refl _))
  have hK : va_K (dC, dI) cls (List.flatten ([(tX5 p0k), (tX1 p1k), (tX9 p1_2k)] : List (List (ClassId × FieldType)))) s := vK_perm (vK_fb hK) (bP (List.Perm.refl _))
  obtain rfl : o_1 = r2 := hw.symm
  have J24 : ∀ (y0_24 : Int32) (H : Heap) (locs : List Loc) (ls : Array Slot), (fX5_isNumber__J24 y0_24) = some o → va_P (dC, dI) cls (List.flatten ([(oX5 (p0a 0) p0a p0k p0w p0l), (oX1 (p1a 0) p1a p1k p1n p1w p1l), (oX9 (p1a 3) p1_2a p1_2k p1_2n p1_2w)] : List va_W)) H → va_D A (List.flatten ([(oX5 (p0a 0) p0a p0k p0w p0l), (oX1 (p1a 0) p1a p1k p1n p1w p1l), (oX9 (p1a 3) p1_2a p1_2k p1_2n p1_2w)] : List va_W)) → va_K (dC, dI) cls (List.flatten ([(tX5 p0k), (tX1 p1k), (tX9 p1_2k)] : List (List (ClassId × FieldType)))) s → va_S A s.heap H locs → lv_has ls 4 [] → W p l e ({ frames := 1, cells := 0, slots := 0, locals := 22 } : Room) s m ([.ref (p0a 0), .ref (p1a 0), .int p2, .int p3] : List Value).toArray below meth c H locs 0 0 Q (F0 m 24 ls [.int y0_24]) := by
    intro y0_24 H locs ls hrun hP hD hK hS hl 
    unfold fX5_isNumber__J24 at hrun
    obtain ⟨hz9, hrun⟩ := chk9 hrun
    have ho9 : y0_24 = o := Option.some.inj hrun
    have hP9 : va_P (dC, dI) cls (List.flatten ([(oX5 (p0a 0) p0a p0k p0w p0l), (oX1 (p1a 0) p1a p1k p1n p1w p1l), (oX9 (p1a 3) p1_2a p1_2k p1_2n p1_2w)] : List va_W)) H := by first | exact hP | (rw [← ho9]; exact hP)
    have hD9 : va_D A (List.flatten ([(oX5 (p0a 0) p0a p0k p0w p0l), (oX1 (p1a 0) p1a p1k p1n p1w p1l), (oX9 (p1a 3) p1_2a p1_2k p1_2n p1_2w)] : List va_W)) := by first | exact hD | (rw [← ho9]; exact hD)
    subst hQ
    exact W.zret (v := y0_24) hx hb hr (bz9 hz9) (fun t ht hW => ⟨⟨y0_24, (), rfl, (by rw [← ho9]), ⟨by rw [ht]; exact hP9, va_K.moved hW.alike hK, hD9⟩⟩, hS.F ht⟩) hS.2.2 dX5_isNumber__24
  have J23 : ∀ (H : Heap) (locs : List Loc) (ls : Array Slot), (fX5_isNumber__J23) = some o → va_P (dC, dI) cls (List.flatten ([(oX5 (p0a 0) p0a p0k p0w p0l), (oX1 (p1a 0) p1a p1k p1n p1w p1l), (oX9 (p1a 3) p1_2a p1_2k p1_2n p1_2w)] : List va_W)) H → va_D A (List.flatten ([(oX5 (p0a 0) p0a p0k p0w p0l), (oX1 (p1a 0) p1a p1k p1n p1w p1l), (oX9 (p1a 3) p1_2a p1_2k p1_2n p1_2w)] : List va_W)) → va_K (dC, dI) cls (List.flatten ([(tX5 p0k), (tX1 p1k), (tX9 p1_2k)] : List (List (ClassId × FieldType)))) s → va_S A s.heap H locs → lv_has ls 4 [] → W p l e ({ frames := 1, cells := 0, slots := 0, locals := 22 } : Room) s m ([.ref (p0a 0), .ref (p1a 0), .int p2, .int p3] : List Value).toArray below meth c H locs 0 0 Q (F0 m 23 ls []) := by
    intro  H locs ls hrun hP hD hK hS hl 
    unfold fX5_isNumber__J23 at hrun
    refine lv_iconst (v := 0) hx hb dX5_isNumber__23 (by decide) ?_
    exact J24 0 _ _ _ hrun hP hD hK hS (lv_sub hl [] rfl)
  rcases br9 hrun with ⟨hc3, hrun⟩ | ⟨hc3, hrun⟩
  · refine lv_if_eq (tgt := 23) hx hb dX5_isNumber__6 (by decide) (fun _ => ?_) (fun c => absurd hc3 c)
    exact J23 _ _ _ hrun hP hD hK hS (lv_sub hl [] rfl)
  · refine lv_if_eq (tgt := 23) hx hb dX5_isNumber__6 (by decide) (fun c => absurd c hc3) (fun _ => ?_)
    refine lv_aload_n hx hb dX5_isNumber__9 rfl (lv_at hl 0 rfl) ?_
    refine lv_aload_n hx hb dX5_isNumber__10 rfl (lv_at hl 1 rfl) ?_
    refine lv_iload_n hx hb dX5_isNumber__11 rfl (lv_at hl 2 rfl) ?_
    obtain ⟨o_4, hc_4, hrun⟩ := bnd9 hrun
    have hPx : va_P (dC, dI) cls ((List.flatten ([(oX5 (p0a 0) p0a p0k p0w p0l), (oX1 (p1a 0) p1a p1k p1n p1w p1l), (oX9 (p1a 3) p1_2a p1_2k p1_2n p1_2w)] : List va_W)) ++ (List.flatten ([] : List va_W))) H := vP_fa (vP_perm hP (bP (List.Perm.refl _)))
    have hDx : va_D A ((List.flatten ([(oX5 (p0a 0) p0a p0k p0w p0l), (oX1 (p1a 0) p1a p1k p1n p1w p1l), (oX9 (p1a 3) p1_2a p1_2k p1_2n p1_2w)] : List va_W)) ++ (List.flatten ([] : List va_W))) := vD_fa (vD_perm hD (bP (List.Perm.refl _)))
    have hKx : va_K (dC, dI) cls ((List.flatten ([(tX5 p0k), (tX1 p1k), (tX9 p1_2k)] : List (List (ClassId × FieldType)))) ++ (List.flatten ([] : List (List (ClassId × FieldType))))) s := vK_fa (vK_perm hK (bP (List.Perm.refl _)))
    have hPc := vP_l hPx
    have hDc := vD_l hDx
    have hKc := vK_l hKx
    have hFc := vfree hDx hS hA
    refine va_calli (va_runV (As := [.ref (p1a 0), .int p2]) (rest := []) ⟨hx, hb, hml, hown, hts⟩ (kX5_numberOf l dC dI (p0a := p0a) (p0k := p0k) (p0w := p0w) (p0l := p0l) (p1a := p1a) (p1k := p1k) (p1n := p1n) (p1w := p1w) (p1l := p1l) (p2 := p2) (p1_2a := p1_2a) (p1_2k := p1_2k) (p1_2n := p1_2n) (p1_2w := p1_2w) (sz := _) (o := o_4) (hrun := hc_4)) (cwV 2 hts (gi_V qw461 qw462 qw463 qw442 (gi_z qw460)) rfl rfl rfl (by decide +kernel) ⟨Nat.le_of_ble_eq_true rfl, Nat.le_of_ble_eq_true rfl⟩) ⟨PRE.blind, va_recv hKc hPc (ci := 7) (q0 := 0) rfl rfl, PRE.of hE hS hFc hPc hKc hDc⟩ rfl rfl hl.1 rfl (lv_room (Nat.le_of_ble_eq_true rfl)) dX5_isNumber__12 ⟨(Nat.le_of_ble_eq_true rfl), (Nat.le_of_ble_eq_true rfl)⟩) hS (fun q _ h => hFc q h) hFc (fun r5 u t H locs ht hvm hw hB hz1 hk1 hS => ?_)
    obtain ⟨b1, b2, b3⟩ := hB
    rw [ht] at b1
    obtain ⟨hP, hD, hK⟩ := JOINC (wc := (List.flatten ([(oX5 (p0a 0) p0a p0k p0w p0l), (oX1 (p1a 0) p1a p1k p1n p1w p1l), (oX9 (p1a 3) p1_2a p1_2k p1_2n p1_2w)] : List va_W))) (wr := (List.flatten ([] : List va_W))) (w1 := (List.flatten ([(oX5 (p0a 0) p0a p0k p0w p0l), (oX1 (p1a 0) p1a p1k p1n p1w p1l), (oX9 (p1a 3) p1_2a p1_2k p1_2n p1_2w)] : List va_W))) (t1 := (List.flatten ([(tX5 p0k), (tX1 p1k), (tX9 p1_2k)] : List (List (ClassId × FieldType))))) hPx hDx hKx hk1 hFc b1 (va_K.moved hvm.symm b2) b3
    have hP : va_P (dC, dI) cls (List.flatten ([(oX5 (p0a 0) p0a p0k p0w p0l), (oX1 (p1a 0) p1a p1k p1n p1w p1l), (oX9 (p1a 3) p1_2a p1_2k p1_2n p1_2w)] : List va_W)) H := vP_perm (vP_fb hP) (bP (List.Perm.refl _))
    have hD : va_D A (List.flatten ([(oX5 (p0a 0) p0a p0k p0w p0l), (oX1 (p1a 0) p1a p1k p1n p1w p1l), (oX9 (p1a 3) p1_2a p1_2k p1_2n p1_2w)] : List va_W)) := vD_perm (vD_fb hD) (bP (List.Perm.refl _))
    have hK : va_K (dC, dI) cls (List.flatten ([(tX5 p0k), (tX1 p1k), (tX9 p1_2k)] : List (List (ClassId × FieldType)))) s := vK_perm (vK_fb hK) (bP (List.Perm.refl _))
    obtain rfl : o_4 = r5 := hw.symm
    refine lv_iload_n hx hb dX5_isNumber__15 rfl (lv_at hl 3 rfl) ?_
    rcases br9 hrun with ⟨hc6, hrun⟩ | ⟨hc6, hrun⟩
    · refine lv_icmp_ne (tgt := 23) hx hb dX5_isNumber__16 (by decide) (fun c => absurd hc6 c) (fun _ => ?_)
      refine lv_iconst (v := 1) hx hb dX5_isNumber__19 (by decide) ?_
      refine lv_goto (tgt := 24) hx hb dX5_isNumber__20 (by decide) ?_
      exact J24 1 _ _ _ hrun hP hD hK hS (lv_sub hl [] rfl)
    · refine lv_icmp_ne (tgt := 23) hx hb dX5_isNumber__16 (by decide) (fun _ => ?_) (fun c => absurd c hc6)
      exact J23 _ _ _ hrun hP hD hK hS (lv_sub hl [] rfl)
def fX5_isAlwaysZero_J124  : Option Int32 := some 0
def fX5_isAlwaysZero_J123 (y0_123 : Int32) : Option Int32 := (if y0_123 = 0 ∨ y0_123 = 1 then some y0_123 else none)
def fX5_isAlwaysZero_J112 (p3 : Int32) (p4 : Int32) : Option Int32 := (if p3 = p4 then (fX5_isAlwaysZero_J123 1) else (fX5_isAlwaysZero_J123 0))
def fX5_isAlwaysZero_J102 (y0_102 : Int32) : Option Int32 := (if y0_102 = 0 ∨ y0_102 = 1 then some y0_102 else none)
def fX5_isAlwaysZero_J97  : Option Int32 := (fX5_isAlwaysZero_J102 1)
def fX5_isAlwaysZero_J76 (p0w : ST) (p3 : Int32) (p4 : Int32) (p1_2n : Nat → Nat) (p1_2w : ST) : Option Int32 := ((fX5_isNumber_ p0w p3 0 p1_2n p1_2w).bind fun (o_2 : Int32) => (if o_2 = 0 then ((fX5_isNumber_ p0w p4 0 p1_2n p1_2w).bind fun (o_5 : Int32) => (if o_5 = 0 then (fX5_isAlwaysZero_J102 0) else (fX5_isAlwaysZero_J97))) else (fX5_isAlwaysZero_J97)))
def fX5_isAlwaysZero (p0w : ST) (p2 : Int32) (p3 : Int32) (p4 : Int32) (p1_2n : Nat → Nat) (p1_2w : ST) : Option Int32 := (if p2 = 2 then (fX5_isAlwaysZero_J112 p3 p4) else (if p2 = 3 then (fX5_isAlwaysZero_J76 p0w p3 p4 p1_2n p1_2w) else (if p2 = 4 then (fX5_isAlwaysZero_J124) else (if p2 = 5 then ((fX5_isNumber_ p0w p4 1 p1_2n p1_2w).bind fun (o_12 : Int32) => (if o_12 = 0 ∨ o_12 = 1 then some o_12 else none)) else (if p2 = 6 then (fX5_isAlwaysZero_J76 p0w p3 p4 p1_2n p1_2w) else (if p2 = 7 then (fX5_isAlwaysZero_J124) else (if p2 = 8 then (fX5_isAlwaysZero_J112 p3 p4) else (if p2 = 9 then (fX5_isAlwaysZero_J124) else (if p2 = 10 then (fX5_isAlwaysZero_J124) else (if p2 = 11 then (fX5_isAlwaysZero_J112 p3 p4) else (if p2 = 12 then (fX5_isAlwaysZero_J124) else (if p2 = 13 then (fX5_isAlwaysZero_J112 p3 p4) else (if p2 = 14 then (fX5_isAlwaysZero_J124) else (if p2 = 15 then (fX5_isAlwaysZero_J124) else (if p2 = 16 then (fX5_isAlwaysZero_J112 p3 p4) else (fX5_isAlwaysZero_J124))))))))))))))))
set_option maxHeartbeats 16000000 in
set_option maxRecDepth 100000 in
theorem kX5_isAlwaysZero {zs : ZS} (l : Launch) (dC : Nat → ClassId) (dI : Nat → Nat → Nat) (p0a : Nat → Nat) (p0k : Nat → ClassId) (p0w : ST) (p0l : SL) (p1a : Nat → Nat) (p1k : Nat → ClassId) (p1n : Nat → Nat) (p1w : ST) (p1l : SL) (p2 : Int32) (p3 : Int32) (p4 : Int32) (p1_2a : Nat → Nat) (p1_2k : Nat → ClassId) (p1_2n : Nat → Nat) (p1_2w : ST) (sz : Nat) (o : Int32) (hrun : fX5_isAlwaysZero p0w p2 p3 p4 p1_2n p1_2w = some o) : Met l yX5_isAlwaysZero (wz yX5_isAlwaysZero cX5_isAlwaysZero 5 (Option.some Jvm.ClassFile.FieldType.boolean)) ({ frames := 2, cells := 0, slots := 0, locals := 45 } : Room) (va_Pc [.ref (p0a 0), .ref (p1a 0), .int p2, .int p3, .int p4] (PRE zs dC dI (List.flatten ([(oX5 (p0a 0) p0a p0k p0w p0l), (oX1 (p1a 0) p1a p1k p1n p1w p1l), (oX9 (p1a 3) p1_2a p1_2k p1_2n p1_2w)] : List va_W)) (List.flatten ([(tX5 p0k), (tX1 p1k), (tX9 p1_2k)] : List (List (ClassId × FieldType)))) sz)) (va_Qi (fun (r : Int32) (_ : Unit) => r = o) (fun _ t => POST dC dI (List.flatten ([(oX5 (p0a 0) p0a p0k p0w p0l), (oX1 (p1a 0) p1a p1k p1n p1w p1l), (oX9 (p1a 3) p1_2a p1_2k p1_2n p1_2w)] : List va_W)) (List.flatten ([(tX5 p0k), (tX1 p1k), (tX9 p1_2k)] : List (List (ClassId × FieldType)))) (va_A (List.flatten ([(oX5 (p0a 0) p0a p0k p0w p0l), (oX1 (p1a 0) p1a p1k p1n p1w p1l), (oX9 (p1a 3) p1_2a p1_2k p1_2n p1_2w)] : List va_W)) sz) t) (va_A (List.flatten ([(oX5 (p0a 0) p0a p0k p0w p0l), (oX1 (p1a 0) p1a p1k p1n p1w p1l), (oX9 (p1a 3) p1_2a p1_2k p1_2n p1_2w)] : List va_W)) sz)) 0 0 (va_A (List.flatten ([(oX5 (p0a 0) p0a p0k p0w p0l), (oX1 (p1a 0) p1a p1k p1n p1w p1l), (oX9 (p1a 3) p1_2a p1_2k p1_2n p1_2w)] : List va_W)) sz) := by
  refine Met.ofW (cc := cX5_isAlwaysZero) (maxL := 5) (ret := (Option.some Jvm.ClassFile.FieldType.boolean)) (by decide) rfl ?_
  intro p e s m args below meth c s₁ B hml hv
  obtain ⟨rfl, hsz, hP, hK, hD0, hE⟩ := hv
  have hx := B.exec
  have hb := B.bytes
  have hr := B.returns
  have hts0 := atoms_spec (ws := wz yX5_isAlwaysZero cX5_isAlwaysZero 5 (Option.some Jvm.ClassFile.FieldType.boolean)) B.pre
  have hts : ∀ w ∈ gw, w.before _ s = true := fun w h => hts0 w (List.mem_cons_of_mem _ h)
  have hown : s.vm.findClass RX5 = some m.cls := findClass_of_methodNamed B.named
  have hlocks := B.notSynchronized
  subst hsz
  have hD := hD0.self (sz := s.heap.size)
  refine gQ9 ?_
  intro Q hQ
  generalize hAe : va_A (List.flatten ([(oX5 (p0a 0) p0a p0k p0w p0l), (oX1 (p1a 0) p1a p1k p1n p1w p1l), (oX9 (p1a 3) p1_2a p1_2k p1_2n p1_2w)] : List va_W)) s.heap.size = A at hD hE hQ
  have hA : ∀ q : Nat, s.heap.size ≤ q → A q := fun q h => by rw [← hAe]; exact Or.inr h
  have hS : va_S A s.heap s.heap [] := va_S.rf
  have hP : va_P (dC, dI) cls (List.flatten ([(oX5 (p0a 0) p0a p0k p0w p0l), (oX1 (p1a 0) p1a p1k p1n p1w p1l), (oX9 (p1a 3) p1_2a p1_2k p1_2n p1_2w)] : List va_W)) s.heap := hP
  have hl := lv_entry ([.ref (p0a 0), .ref (p1a 0), .int p2, .int p3, .int p4]) (n := 5) (Nat.le_of_ble_eq_true rfl)
  rw [lg_entry_eq]
  generalize (lg_sl ([.ref (p0a 0), .ref (p1a 0), .int p2, .int p3, .int p4]) ++ List.replicate (5 - (lg_sl ([.ref (p0a 0), .ref (p1a 0), .int p2, .int p3, .int p4])).length) Slot.unset).toArray = ls at hl ⊢
  have hl : lv_has ls 5 [(0, .ref (p0a 0)), (1, .ref (p1a 0)), (2, .int p2), (3, .int p3), (4, .int p4)] := hl
  obtain ⟨H, hHe⟩ : ∃ H, H = s.heap := ⟨_, rfl⟩
  obtain ⟨locs, hle⟩ : ∃ locs : List Loc, locs = [] := ⟨_, rfl⟩
  rw [← hHe] at hP
  have hS : va_S A s.heap H locs := by rw [hHe, hle]; exact hS
  show W p l e ({ frames := 2, cells := 0, slots := 0, locals := 45 } : Room) s m ([.ref (p0a 0), .ref (p1a 0), .int p2, .int p3, .int p4] : List Value).toArray below meth c s.heap [] 0 0 Q (F0 m 0 ls [])
  rw [← hle]
  refine wH9 hHe ?_
  unfold fX5_isAlwaysZero at hrun
  refine lv_iload_n hx hb dX5_isAlwaysZero_0 rfl (lv_at hl 2 rfl) ?_
  have J124 : ∀ (H : Heap) (locs : List Loc) (ls : Array Slot), (fX5_isAlwaysZero_J124) = some o → va_P (dC, dI) cls (List.flatten ([(oX5 (p0a 0) p0a p0k p0w p0l), (oX1 (p1a 0) p1a p1k p1n p1w p1l), (oX9 (p1a 3) p1_2a p1_2k p1_2n p1_2w)] : List va_W)) H → va_D A (List.flatten ([(oX5 (p0a 0) p0a p0k p0w p0l), (oX1 (p1a 0) p1a p1k p1n p1w p1l), (oX9 (p1a 3) p1_2a p1_2k p1_2n p1_2w)] : List va_W)) → va_K (dC, dI) cls (List.flatten ([(tX5 p0k), (tX1 p1k), (tX9 p1_2k)] : List (List (ClassId × FieldType)))) s → va_S A s.heap H locs → lv_has ls 5 [] → W p l e ({ frames := 2, cells := 0, slots := 0, locals := 45 } : Room) s m ([.ref (p0a 0), .ref (p1a 0), .int p2, .int p3, .int p4] : List Value).toArray below meth c H locs 0 0 Q (F0 m 124 ls []) := by
    intro  H locs ls hrun hP hD hK hS hl 
    unfold fX5_isAlwaysZero_J124 at hrun
    refine lv_iconst (v := 0) hx hb dX5_isAlwaysZero_124 (by decide) ?_
    have ho9 : 0 = o := Option.some.inj hrun
    have hP9 : va_P (dC, dI) cls (List.flatten ([(oX5 (p0a 0) p0a p0k p0w p0l), (oX1 (p1a 0) p1a p1k p1n p1w p1l), (oX9 (p1a 3) p1_2a p1_2k p1_2n p1_2w)] : List va_W)) H := by first | exact hP | (rw [← ho9]; exact hP)
    have hD9 : va_D A (List.flatten ([(oX5 (p0a 0) p0a p0k p0w p0l), (oX1 (p1a 0) p1a p1k p1n p1w p1l), (oX9 (p1a 3) p1_2a p1_2k p1_2n p1_2w)] : List va_W)) := by first | exact hD | (rw [← ho9]; exact hD)
    subst hQ
    exact W.zret (v := 0) hx hb hr (by decide) (fun t ht hW => ⟨⟨0, (), rfl, (by rw [← ho9]), ⟨by rw [ht]; exact hP9, va_K.moved hW.alike hK, hD9⟩⟩, hS.F ht⟩) hS.2.2 dX5_isAlwaysZero_125
  have J112 : ∀ (H : Heap) (locs : List Loc) (ls : Array Slot), (fX5_isAlwaysZero_J112 p3 p4) = some o → va_P (dC, dI) cls (List.flatten ([(oX5 (p0a 0) p0a p0k p0w p0l), (oX1 (p1a 0) p1a p1k p1n p1w p1l), (oX9 (p1a 3) p1_2a p1_2k p1_2n p1_2w)] : List va_W)) H → va_D A (List.flatten ([(oX5 (p0a 0) p0a p0k p0w p0l), (oX1 (p1a 0) p1a p1k p1n p1w p1l), (oX9 (p1a 3) p1_2a p1_2k p1_2n p1_2w)] : List va_W)) → va_K (dC, dI) cls (List.flatten ([(tX5 p0k), (tX1 p1k), (tX9 p1_2k)] : List (List (ClassId × FieldType)))) s → va_S A s.heap H locs → lv_has ls 5 [(3, .int p3), (4, .int p4)] → W p l e ({ frames := 2, cells := 0, slots := 0, locals := 45 } : Room) s m ([.ref (p0a 0), .ref (p1a 0), .int p2, .int p3, .int p4] : List Value).toArray below meth c H locs 0 0 Q (F0 m 112 ls []) := by
    intro  H locs ls hrun hP hD hK hS hl 
    unfold fX5_isAlwaysZero_J112 at hrun
    refine lv_iload_n hx hb dX5_isAlwaysZero_112 rfl (lv_at hl 0 rfl) ?_
    refine lv_iload hx hb dX5_isAlwaysZero_113 (lv_at hl 1 rfl) ?_
    have J123 : ∀ (y0_123 : Int32) (H : Heap) (locs : List Loc) (ls : Array Slot), (fX5_isAlwaysZero_J123 y0_123) = some o → va_P (dC, dI) cls (List.flatten ([(oX5 (p0a 0) p0a p0k p0w p0l), (oX1 (p1a 0) p1a p1k p1n p1w p1l), (oX9 (p1a 3) p1_2a p1_2k p1_2n p1_2w)] : List va_W)) H → va_D A (List.flatten ([(oX5 (p0a 0) p0a p0k p0w p0l), (oX1 (p1a 0) p1a p1k p1n p1w p1l), (oX9 (p1a 3) p1_2a p1_2k p1_2n p1_2w)] : List va_W)) → va_K (dC, dI) cls (List.flatten ([(tX5 p0k), (tX1 p1k), (tX9 p1_2k)] : List (List (ClassId × FieldType)))) s → va_S A s.heap H locs → lv_has ls 5 [] → W p l e ({ frames := 2, cells := 0, slots := 0, locals := 45 } : Room) s m ([.ref (p0a 0), .ref (p1a 0), .int p2, .int p3, .int p4] : List Value).toArray below meth c H locs 0 0 Q (F0 m 123 ls [.int y0_123]) := by
      intro y0_123 H locs ls hrun hP hD hK hS hl 
      unfold fX5_isAlwaysZero_J123 at hrun
      obtain ⟨hz9, hrun⟩ := chk9 hrun
      have ho9 : y0_123 = o := Option.some.inj hrun
      have hP9 : va_P (dC, dI) cls (List.flatten ([(oX5 (p0a 0) p0a p0k p0w p0l), (oX1 (p1a 0) p1a p1k p1n p1w p1l), (oX9 (p1a 3) p1_2a p1_2k p1_2n p1_2w)] : List va_W)) H := by first | exact hP | (rw [← ho9]; exact hP)
      have hD9 : va_D A (List.flatten ([(oX5 (p0a 0) p0a p0k p0w p0l), (oX1 (p1a 0) p1a p1k p1n p1w p1l), (oX9 (p1a 3) p1_2a p1_2k p1_2n p1_2w)] : List va_W)) := by first | exact hD | (rw [← ho9]; exact hD)
      subst hQ
      exact W.zret (v := y0_123) hx hb hr (bz9 hz9) (fun t ht hW => ⟨⟨y0_123, (), rfl, (by rw [← ho9]), ⟨by rw [ht]; exact hP9, va_K.moved hW.alike hK, hD9⟩⟩, hS.F ht⟩) hS.2.2 dX5_isAlwaysZero_123
    rcases br9 hrun with ⟨hc1, hrun⟩ | ⟨hc1, hrun⟩
    · refine lv_icmp_ne (tgt := 122) hx hb dX5_isAlwaysZero_115 (by decide) (fun c => absurd hc1 c) (fun _ => ?_)
      refine lv_iconst (v := 1) hx hb dX5_isAlwaysZero_118 (by decide) ?_
      refine lv_goto (tgt := 123) hx hb dX5_isAlwaysZero_119 (by decide) ?_
      exact J123 1 _ _ _ hrun hP hD hK hS (lv_sub hl [] rfl)
    · refine lv_icmp_ne (tgt := 122) hx hb dX5_isAlwaysZero_115 (by decide) (fun _ => ?_) (fun c => absurd c hc1)
      refine lv_iconst (v := 0) hx hb dX5_isAlwaysZero_122 (by decide) ?_
      exact J123 0 _ _ _ hrun hP hD hK hS (lv_sub hl [] rfl)
  have J76 : ∀ (H : Heap) (locs : List Loc) (ls : Array Slot), (fX5_isAlwaysZero_J76 p0w p3 p4 p1_2n p1_2w) = some o → va_P (dC, dI) cls (List.flatten ([(oX5 (p0a 0) p0a p0k p0w p0l), (oX1 (p1a 0) p1a p1k p1n p1w p1l), (oX9 (p1a 3) p1_2a p1_2k p1_2n p1_2w)] : List va_W)) H → va_D A (List.flatten ([(oX5 (p0a 0) p0a p0k p0w p0l), (oX1 (p1a 0) p1a p1k p1n p1w p1l), (oX9 (p1a 3) p1_2a p1_2k p1_2n p1_2w)] : List va_W)) → va_K (dC, dI) cls (List.flatten ([(tX5 p0k), (tX1 p1k), (tX9 p1_2k)] : List (List (ClassId × FieldType)))) s → va_S A s.heap H locs → lv_has ls 5 [(0, .ref (p0a 0)), (1, .ref (p1a 0)), (3, .int p3), (4, .int p4)] → W p l e ({ frames := 2, cells := 0, slots := 0, locals := 45 } : Room) s m ([.ref (p0a 0), .ref (p1a 0), .int p2, .int p3, .int p4] : List Value).toArray below meth c H locs 0 0 Q (F0 m 76 ls []) := by
    intro  H locs ls hrun hP hD hK hS hl 
    unfold fX5_isAlwaysZero_J76 at hrun
    refine lv_aload_n hx hb dX5_isAlwaysZero_76 rfl (lv_at hl 0 rfl) ?_
    refine lv_aload_n hx hb dX5_isAlwaysZero_77 rfl (lv_at hl 1 rfl) ?_
    refine lv_iload_n hx hb dX5_isAlwaysZero_78 rfl (lv_at hl 2 rfl) ?_
    refine lv_iconst (v := 0) hx hb dX5_isAlwaysZero_79 (by decide) ?_
    obtain ⟨o_2, hc_2, hrun⟩ := bnd9 hrun
    have hPx : va_P (dC, dI) cls ((List.flatten ([(oX5 (p0a 0) p0a p0k p0w p0l), (oX1 (p1a 0) p1a p1k p1n p1w p1l), (oX9 (p1a 3) p1_2a p1_2k p1_2n p1_2w)] : List va_W)) ++ (List.flatten ([] : List va_W))) H := vP_fa (vP_perm hP (bP (List.Perm.refl _)))
    have hDx : va_D A ((List.flatten ([(oX5 (p0a 0) p0a p0k p0w p0l), (oX1 (p1a 0) p1a p1k p1n p1w p1l), (oX9 (p1a 3) p1_2a p1_2k p1_2n p1_2w)] : List va_W)) ++ (List.flatten ([] : List va_W))) := vD_fa (vD_perm hD (bP (List.Perm.refl _)))
    have hKx : va_K (dC, dI) cls ((List.flatten ([(tX5 p0k), (tX1 p1k), (tX9 p1_2k)] : List (List (ClassId × FieldType)))) ++ (List.flatten ([] : List (List (ClassId × FieldType))))) s := vK_fa (vK_perm hK (bP (List.Perm.refl _)))
    have hPc := vP_l hPx
    have hDc := vD_l hDx
    have hKc := vK_l hKx
    have hFc := vfree hDx hS hA
    refine va_calli (va_runV (As := [.ref (p1a 0), .int p3, .int 0]) (rest := []) ⟨hx, hb, hml, hown, hts⟩ (kX5_isNumber_ l dC dI (p0a := p0a) (p0k := p0k) (p0w := p0w) (p0l := p0l) (p1a := p1a) (p1k := p1k) (p1n := p1n) (p1w := p1w) (p1l := p1l) (p2 := p3) (p3 := 0) (p1_2a := p1_2a) (p1_2k := p1_2k) (p1_2n := p1_2n) (p1_2w := p1_2w) (sz := _) (o := o_2) (hrun := hc_2)) (cwV 3 hts (gi_V qw536 qw537 qw538 qw442 (gi_z qw535)) rfl rfl rfl (by decide +kernel) ⟨Nat.le_of_ble_eq_true rfl, Nat.le_of_ble_eq_true rfl⟩) ⟨PRE.blind, va_recv hKc hPc (ci := 7) (q0 := 0) rfl rfl, PRE.of hE hS hFc hPc hKc hDc⟩ rfl rfl hl.1 rfl (lv_room (Nat.le_of_ble_eq_true rfl)) dX5_isAlwaysZero_80 ⟨(Nat.le_of_ble_eq_true rfl), (Nat.le_of_ble_eq_true rfl)⟩) hS (fun q _ h => hFc q h) hFc (fun r3 u t H locs ht hvm hw hB hz1 hk1 hS => ?_)
    obtain ⟨b1, b2, b3⟩ := hB
    rw [ht] at b1
    obtain ⟨hP, hD, hK⟩ := JOINC (wc := (List.flatten ([(oX5 (p0a 0) p0a p0k p0w p0l), (oX1 (p1a 0) p1a p1k p1n p1w p1l), (oX9 (p1a 3) p1_2a p1_2k p1_2n p1_2w)] : List va_W))) (wr := (List.flatten ([] : List va_W))) (w1 := (List.flatten ([(oX5 (p0a 0) p0a p0k p0w p0l), (oX1 (p1a 0) p1a p1k p1n p1w p1l), (oX9 (p1a 3) p1_2a p1_2k p1_2n p1_2w)] : List va_W))) (t1 := (List.flatten ([(tX5 p0k), (tX1 p1k), (tX9 p1_2k)] : List (List (ClassId × FieldType))))) hPx hDx hKx hk1 hFc b1 (va_K.moved hvm.symm b2) b3
    have hP : va_P (dC, dI) cls (List.flatten ([(oX5 (p0a 0) p0a p0k p0w p0l), (oX1 (p1a 0) p1a p1k p1n p1w p1l), (oX9 (p1a 3) p1_2a p1_2k p1_2n p1_2w)] : List va_W)) H := vP_perm (vP_fb hP) (bP (List.Perm.refl _))
    have hD : va_D A (List.flatten ([(oX5 (p0a 0) p0a p0k p0w p0l), (oX1 (p1a 0) p1a p1k p1n p1w p1l), (oX9 (p1a 3) p1_2a p1_2k p1_2n p1_2w)] : List va_W)) := vD_perm (vD_fb hD) (bP (List.Perm.refl _))
    have hK : va_K (dC, dI) cls (List.flatten ([(tX5 p0k), (tX1 p1k), (tX9 p1_2k)] : List (List (ClassId × FieldType)))) s := vK_perm (vK_fb hK) (bP (List.Perm.refl _))
    obtain rfl : o_2 = r3 := hw.symm
    have J102 : ∀ (y0_102 : Int32) (H : Heap) (locs : List Loc) (ls : Array Slot), (fX5_isAlwaysZero_J102 y0_102) = some o → va_P (dC, dI) cls (List.flatten ([(oX5 (p0a 0) p0a p0k p0w p0l), (oX1 (p1a 0) p1a p1k p1n p1w p1l), (oX9 (p1a 3) p1_2a p1_2k p1_2n p1_2w)] : List va_W)) H → va_D A (List.flatten ([(oX5 (p0a 0) p0a p0k p0w p0l), (oX1 (p1a 0) p1a p1k p1n p1w p1l), (oX9 (p1a 3) p1_2a p1_2k p1_2n p1_2w)] : List va_W)) → va_K (dC, dI) cls (List.flatten ([(tX5 p0k), (tX1 p1k), (tX9 p1_2k)] : List (List (ClassId × FieldType)))) s → va_S A s.heap H locs → lv_has ls 5 [] → W p l e ({ frames := 2, cells := 0, slots := 0, locals := 45 } : Room) s m ([.ref (p0a 0), .ref (p1a 0), .int p2, .int p3, .int p4] : List Value).toArray below meth c H locs 0 0 Q (F0 m 102 ls [.int y0_102]) := by
      intro y0_102 H locs ls hrun hP hD hK hS hl 
      unfold fX5_isAlwaysZero_J102 at hrun
      obtain ⟨hz9, hrun⟩ := chk9 hrun
      have ho9 : y0_102 = o := Option.some.inj hrun
      have hP9 : va_P (dC, dI) cls (List.flatten ([(oX5 (p0a 0) p0a p0k p0w p0l), (oX1 (p1a 0) p1a p1k p1n p1w p1l), (oX9 (p1a 3) p1_2a p1_2k p1_2n p1_2w)] : List va_W)) H := by first | exact hP | (rw [← ho9]; exact hP)
      have hD9 : va_D A (List.flatten ([(oX5 (p0a 0) p0a p0k p0w p0l), (oX1 (p1a 0) p1a p1k p1n p1w p1l), (oX9 (p1a 3) p1_2a p1_2k p1_2n p1_2w)] : List va_W)) := by first | exact hD | (rw [← ho9]; exact hD)
      subst hQ
      exact W.zret (v := y0_102) hx hb hr (bz9 hz9) (fun t ht hW => ⟨⟨y0_102, (), rfl, (by rw [← ho9]), ⟨by rw [ht]; exact hP9, va_K.moved hW.alike hK, hD9⟩⟩, hS.F ht⟩) hS.2.2 dX5_isAlwaysZero_102
    have J97 : ∀ (H : Heap) (locs : List Loc) (ls : Array Slot), (fX5_isAlwaysZero_J97) = some o → va_P (dC, dI) cls (List.flatten ([(oX5 (p0a 0) p0a p0k p0w p0l), (oX1 (p1a 0) p1a p1k p1n p1w p1l), (oX9 (p1a 3) p1_2a p1_2k p1_2n p1_2w)] : List va_W)) H → va_D A (List.flatten ([(oX5 (p0a 0) p0a p0k p0w p0l), (oX1 (p1a 0) p1a p1k p1n p1w p1l), (oX9 (p1a 3) p1_2a p1_2k p1_2n p1_2w)] : List va_W)) → va_K (dC, dI) cls (List.flatten ([(tX5 p0k), (tX1 p1k), (tX9 p1_2k)] : List (List (ClassId × FieldType)))) s → va_S A s.heap H locs → lv_has ls 5 [] → W p l e ({ frames := 2, cells := 0, slots := 0, locals := 45 } : Room) s m ([.ref (p0a 0), .ref (p1a 0), .int p2, .int p3, .int p4] : List Value).toArray below meth c H locs 0 0 Q (F0 m 97 ls []) := by
      intro  H locs ls hrun hP hD hK hS hl 
      unfold fX5_isAlwaysZero_J97 at hrun
      refine lv_iconst (v := 1) hx hb dX5_isAlwaysZero_97 (by decide) ?_
      refine lv_goto (tgt := 102) hx hb dX5_isAlwaysZero_98 (by decide) ?_
      exact J102 1 _ _ _ hrun hP hD hK hS (lv_sub hl [] rfl)
    rcases br9 hrun with ⟨hc4, hrun⟩ | ⟨hc4, hrun⟩
    · refine lv_if_ne (tgt := 97) hx hb dX5_isAlwaysZero_83 (by decide) (fun c => absurd hc4 c) (fun _ => ?_)
      refine lv_aload_n hx hb dX5_isAlwaysZero_86 rfl (lv_at hl 0 rfl) ?_
      refine lv_aload_n hx hb dX5_isAlwaysZero_87 rfl (lv_at hl 1 rfl) ?_
      refine lv_iload hx hb dX5_isAlwaysZero_88 (lv_at hl 3 rfl) ?_
      refine lv_iconst (v := 0) hx hb dX5_isAlwaysZero_90 (by decide) ?_
      obtain ⟨o_5, hc_5, hrun⟩ := bnd9 hrun
      have hPx : va_P (dC, dI) cls ((List.flatten ([(oX5 (p0a 0) p0a p0k p0w p0l), (oX1 (p1a 0) p1a p1k p1n p1w p1l), (oX9 (p1a 3) p1_2a p1_2k p1_2n p1_2w)] : List va_W)) ++ (List.flatten ([] : List va_W))) H := vP_fa (vP_perm hP (bP (List.Perm.refl _)))
      have hDx : va_D A ((List.flatten ([(oX5 (p0a 0) p0a p0k p0w p0l), (oX1 (p1a 0) p1a p1k p1n p1w p1l), (oX9 (p1a 3) p1_2a p1_2k p1_2n p1_2w)] : List va_W)) ++ (List.flatten ([] : List va_W))) := vD_fa (vD_perm hD (bP (List.Perm.refl _)))
      have hKx : va_K (dC, dI) cls ((List.flatten ([(tX5 p0k), (tX1 p1k), (tX9 p1_2k)] : List (List (ClassId × FieldType)))) ++ (List.flatten ([] : List (List (ClassId × FieldType))))) s := vK_fa (vK_perm hK (bP (List.Perm.refl _)))
      have hPc := vP_l hPx
      have hDc := vD_l hDx
      have hKc := vK_l hKx
      have hFc := vfree hDx hS hA
      refine va_calli (va_runV (As := [.ref (p1a 0), .int p4, .int 0]) (rest := []) ⟨hx, hb, hml, hown, hts⟩ (kX5_isNumber_ l dC dI (p0a := p0a) (p0k := p0k) (p0w := p0w) (p0l := p0l) (p1a := p1a) (p1k := p1k) (p1n := p1n) (p1w := p1w) (p1l := p1l) (p2 := p4) (p3 := 0) (p1_2a := p1_2a) (p1_2k := p1_2k) (p1_2n := p1_2n) (p1_2w := p1_2w) (sz := _) (o := o_5) (hrun := hc_5)) (cwV 3 hts (gi_V qw536 qw537 qw538 qw442 (gi_z qw535)) rfl rfl rfl (by decide +kernel) ⟨Nat.le_of_ble_eq_true rfl, Nat.le_of_ble_eq_true rfl⟩) ⟨PRE.blind, va_recv hKc hPc (ci := 7) (q0 := 0) rfl rfl, PRE.of hE hS hFc hPc hKc hDc⟩ rfl rfl hl.1 rfl (lv_room (Nat.le_of_ble_eq_true rfl)) dX5_isAlwaysZero_91 ⟨(Nat.le_of_ble_eq_true rfl), (Nat.le_of_ble_eq_true rfl)⟩) hS (fun q _ h => hFc q h) hFc (fun r6 u t H locs ht hvm hw hB hz1 hk1 hS => ?_)
      obtain ⟨b1, b2, b3⟩ := hB
      rw [ht] at b1
      obtain ⟨hP, hD, hK⟩ := JOINC (wc := (List.flatten ([(oX5 (p0a 0) p0a p0k p0w p0l), (oX1 (p1a 0) p1a p1k p1n p1w p1l), (oX9 (p1a 3) p1_2a p1_2k p1_2n p1_2w)] : List va_W))) (wr := (List.flatten ([] : List va_W))) (w1 := (List.flatten ([(oX5 (p0a 0) p0a p0k p0w p0l), (oX1 (p1a 0) p1a p1k p1n p1w p1l), (oX9 (p1a 3) p1_2a p1_2k p1_2n p1_2w)] : List va_W))) (t1 := (List.flatten ([(tX5 p0k), (tX1 p1k), (tX9 p1_2k)] : List (List (ClassId × FieldType))))) hPx hDx hKx hk1 hFc b1 (va_K.moved hvm.symm b2) b3
      have hP : va_P (dC, dI) cls (List.flatten ([(oX5 (p0a 0) p0a p0k p0w p0l), (oX1 (p1a 0) p1a p1k p1n p1w p1l), (oX9 (p1a 3) p1_2a p1_2k p1_2n p1_2w)] : List va_W)) H := vP_perm (vP_fb hP) (bP (List.Perm.refl _))
      have hD : va_D A (List.flatten ([(oX5 (p0a 0) p0a p0k p0w p0l), (oX1 (p1a 0) p1a p1k p1n p1w p1l), (oX9 (p1a 3) p1_2a p1_2k p1_2n p1_2w)] : List va_W)) := vD_perm (vD_fb hD) (bP (List.Perm.refl _))
      have hK : va_K (dC, dI) cls (List.flatten ([(tX5 p0k), (tX1 p1k), (tX9 p1_2k)] : List (List (ClassId × FieldType)))) s := vK_perm (vK_fb hK) (bP (List.Perm.refl _))
      obtain rfl : o_5 = r6 := hw.symm
      rcases br9 hrun with ⟨hc7, hrun⟩ | ⟨hc7, hrun⟩
      · refine lv_if_eq (tgt := 101) hx hb dX5_isAlwaysZero_94 (by decide) (fun _ => ?_) (fun c => absurd hc7 c)
        refine lv_iconst (v := 0) hx hb dX5_isAlwaysZero_101 (by decide) ?_
        exact J102 0 _ _ _ hrun hP hD hK hS (lv_sub hl [] rfl)
      · refine lv_if_eq (tgt := 101) hx hb dX5_isAlwaysZero_94 (by decide) (fun c => absurd c hc7) (fun _ => ?_)
        exact J97 _ _ _ hrun hP hD hK hS (lv_sub hl [] rfl)
    · refine lv_if_ne (tgt := 97) hx hb dX5_isAlwaysZero_83 (by decide) (fun _ => ?_) (fun c => absurd c hc4)
      exact J97 _ _ _ hrun hP hD hK hS (lv_sub hl [] rfl)
  rcases br9 hrun with ⟨hc8, hrun⟩ | ⟨hc8, hrun⟩
  · refine lv_tableIn (off := 111) (tgt := 112) hx hb dX5_isAlwaysZero_1 (by rw [hc8]; decide) (by rw [hc8]; decide) (by rw [hc8]; rfl) (by decide) ?_
    exact J112 _ _ _ hrun hP hD hK hS (lv_sub hl [3, 4] rfl)
  rcases br9 hrun with ⟨hc9, hrun⟩ | ⟨hc9, hrun⟩
  · refine lv_tableIn (off := 75) (tgt := 76) hx hb dX5_isAlwaysZero_1 (by rw [hc9]; decide) (by rw [hc9]; decide) (by rw [hc9]; rfl) (by decide) ?_
    exact J76 _ _ _ hrun hP hD hK hS (lv_sub hl [0, 1, 3, 4] rfl)
  rcases br9 hrun with ⟨hc10, hrun⟩ | ⟨hc10, hrun⟩
  · refine lv_tableIn (off := 123) (tgt := 124) hx hb dX5_isAlwaysZero_1 (by rw [hc10]; decide) (by rw [hc10]; decide) (by rw [hc10]; rfl) (by decide) ?_
    exact J124 _ _ _ hrun hP hD hK hS (lv_sub hl [] rfl)
  rcases br9 hrun with ⟨hc11, hrun⟩ | ⟨hc11, hrun⟩
  · refine lv_tableIn (off := 102) (tgt := 103) hx hb dX5_isAlwaysZero_1 (by rw [hc11]; decide) (by rw [hc11]; decide) (by rw [hc11]; rfl) (by decide) ?_
    refine lv_aload_n hx hb dX5_isAlwaysZero_103 rfl (lv_at hl 0 rfl) ?_
    refine lv_aload_n hx hb dX5_isAlwaysZero_104 rfl (lv_at hl 1 rfl) ?_
    refine lv_iload hx hb dX5_isAlwaysZero_105 (lv_at hl 4 rfl) ?_
    refine lv_iconst (v := 1) hx hb dX5_isAlwaysZero_107 (by decide) ?_
    obtain ⟨o_12, hc_12, hrun⟩ := bnd9 hrun
    have hPx : va_P (dC, dI) cls ((List.flatten ([(oX5 (p0a 0) p0a p0k p0w p0l), (oX1 (p1a 0) p1a p1k p1n p1w p1l), (oX9 (p1a 3) p1_2a p1_2k p1_2n p1_2w)] : List va_W)) ++ (List.flatten ([] : List va_W))) H := vP_fa (vP_perm hP (bP (List.Perm.refl _)))
    have hDx : va_D A ((List.flatten ([(oX5 (p0a 0) p0a p0k p0w p0l), (oX1 (p1a 0) p1a p1k p1n p1w p1l), (oX9 (p1a 3) p1_2a p1_2k p1_2n p1_2w)] : List va_W)) ++ (List.flatten ([] : List va_W))) := vD_fa (vD_perm hD (bP (List.Perm.refl _)))
    have hKx : va_K (dC, dI) cls ((List.flatten ([(tX5 p0k), (tX1 p1k), (tX9 p1_2k)] : List (List (ClassId × FieldType)))) ++ (List.flatten ([] : List (List (ClassId × FieldType))))) s := vK_fa (vK_perm hK (bP (List.Perm.refl _)))
    have hPc := vP_l hPx
    have hDc := vD_l hDx
    have hKc := vK_l hKx
    have hFc := vfree hDx hS hA
    refine va_calli (va_runV (As := [.ref (p1a 0), .int p4, .int 1]) (rest := []) ⟨hx, hb, hml, hown, hts⟩ (kX5_isNumber_ l dC dI (p0a := p0a) (p0k := p0k) (p0w := p0w) (p0l := p0l) (p1a := p1a) (p1k := p1k) (p1n := p1n) (p1w := p1w) (p1l := p1l) (p2 := p4) (p3 := 1) (p1_2a := p1_2a) (p1_2k := p1_2k) (p1_2n := p1_2n) (p1_2w := p1_2w) (sz := _) (o := o_12) (hrun := hc_12)) (cwV 3 hts (gi_V qw536 qw537 qw538 qw442 (gi_z qw535)) rfl rfl rfl (by decide +kernel) ⟨Nat.le_of_ble_eq_true rfl, Nat.le_of_ble_eq_true rfl⟩) ⟨PRE.blind, va_recv hKc hPc (ci := 7) (q0 := 0) rfl rfl, PRE.of hE hS hFc hPc hKc hDc⟩ rfl rfl hl.1 rfl (lv_room (Nat.le_of_ble_eq_true rfl)) dX5_isAlwaysZero_108 ⟨(Nat.le_of_ble_eq_true rfl), (Nat.le_of_ble_eq_true rfl)⟩) hS (fun q _ h => hFc q h) hFc (fun r13 u t H locs ht hvm hw hB hz1 hk1 hS => ?_)
    obtain ⟨b1, b2, b3⟩ := hB
    rw [ht] at b1
    obtain ⟨hP, hD, hK⟩ := JOINC (wc := (List.flatten ([(oX5 (p0a 0) p0a p0k p0w p0l), (oX1 (p1a 0) p1a p1k p1n p1w p1l), (oX9 (p1a 3) p1_2a p1_2k p1_2n p1_2w)] : List va_W))) (wr := (List.flatten ([] : List va_W))) (w1 := (List.flatten ([(oX5 (p0a 0) p0a p0k p0w p0l), (oX1 (p1a 0) p1a p1k p1n p1w p1l), (oX9 (p1a 3) p1_2a p1_2k p1_2n p1_2w)] : List va_W))) (t1 := (List.flatten ([(tX5 p0k), (tX1 p1k), (tX9 p1_2k)] : List (List (ClassId × FieldType))))) hPx hDx hKx hk1 hFc b1 (va_K.moved hvm.symm b2) b3
    have hP : va_P (dC, dI) cls (List.flatten ([(oX5 (p0a 0) p0a p0k p0w p0l), (oX1 (p1a 0) p1a p1k p1n p1w p1l), (oX9 (p1a 3) p1_2a p1_2k p1_2n p1_2w)] : List va_W)) H := vP_perm (vP_fb hP) (bP (List.Perm.refl _))
    have hD : va_D A (List.flatten ([(oX5 (p0a 0) p0a p0k p0w p0l), (oX1 (p1a 0) p1a p1k p1n p1w p1l), (oX9 (p1a 3) p1_2a p1_2k p1_2n p1_2w)] : List va_W)) := vD_perm (vD_fb hD) (bP (List.Perm.refl _))
    have hK : va_K (dC, dI) cls (List.flatten ([(tX5 p0k), (tX1 p1k), (tX9 p1_2k)] : List (List (ClassId × FieldType)))) s := vK_perm (vK_fb hK) (bP (List.Perm.refl _))
    obtain rfl : o_12 = r13 := hw.symm
    obtain ⟨hz9, hrun⟩ := chk9 hrun
    have ho9 : o_12 = o := Option.some.inj hrun
    have hP9 : va_P (dC, dI) cls (List.flatten ([(oX5 (p0a 0) p0a p0k p0w p0l), (oX1 (p1a 0) p1a p1k p1n p1w p1l), (oX9 (p1a 3) p1_2a p1_2k p1_2n p1_2w)] : List va_W)) H := by first | exact hP | (rw [← ho9]; exact hP)
    have hD9 : va_D A (List.flatten ([(oX5 (p0a 0) p0a p0k p0w p0l), (oX1 (p1a 0) p1a p1k p1n p1w p1l), (oX9 (p1a 3) p1_2a p1_2k p1_2n p1_2w)] : List va_W)) := by first | exact hD | (rw [← ho9]; exact hD)
    subst hQ
    exact W.zret (v := o_12) hx hb hr (bz9 hz9) (fun t ht hW => ⟨⟨o_12, (), rfl, (by rw [← ho9]), ⟨by rw [ht]; exact hP9, va_K.moved hW.alike hK, hD9⟩⟩, hS.F ht⟩) hS.2.2 dX5_isAlwaysZero_111
  rcases br9 hrun with ⟨hc14, hrun⟩ | ⟨hc14, hrun⟩
  · refine lv_tableIn (off := 75) (tgt := 76) hx hb dX5_isAlwaysZero_1 (by rw [hc14]; decide) (by rw [hc14]; decide) (by rw [hc14]; rfl) (by decide) ?_
    exact J76 _ _ _ hrun hP hD hK hS (lv_sub hl [0, 1, 3, 4] rfl)
  rcases br9 hrun with ⟨hc15, hrun⟩ | ⟨hc15, hrun⟩
  · refine lv_tableIn (off := 123) (tgt := 124) hx hb dX5_isAlwaysZero_1 (by rw [hc15]; decide) (by rw [hc15]; decide) (by rw [hc15]; rfl) (by decide) ?_
    exact J124 _ _ _ hrun hP hD hK hS (lv_sub hl [] rfl)
  rcases br9 hrun with ⟨hc16, hrun⟩ | ⟨hc16, hrun⟩
  · refine lv_tableIn (off := 111) (tgt := 112) hx hb dX5_isAlwaysZero_1 (by rw [hc16]; decide) (by rw [hc16]; decide) (by rw [hc16]; rfl) (by decide) ?_
    exact J112 _ _ _ hrun hP hD hK hS (lv_sub hl [3, 4] rfl)
  rcases br9 hrun with ⟨hc17, hrun⟩ | ⟨hc17, hrun⟩
  · refine lv_tableIn (off := 123) (tgt := 124) hx hb dX5_isAlwaysZero_1 (by rw [hc17]; decide) (by rw [hc17]; decide) (by rw [hc17]; rfl) (by decide) ?_
    exact J124 _ _ _ hrun hP hD hK hS (lv_sub hl [] rfl)
  rcases br9 hrun with ⟨hc18, hrun⟩ | ⟨hc18, hrun⟩
  · refine lv_tableIn (off := 123) (tgt := 124) hx hb dX5_isAlwaysZero_1 (by rw [hc18]; decide) (by rw [hc18]; decide) (by rw [hc18]; rfl) (by decide) ?_
    exact J124 _ _ _ hrun hP hD hK hS (lv_sub hl [] rfl)
  rcases br9 hrun with ⟨hc19, hrun⟩ | ⟨hc19, hrun⟩
  · refine lv_tableIn (off := 111) (tgt := 112) hx hb dX5_isAlwaysZero_1 (by rw [hc19]; decide) (by rw [hc19]; decide) (by rw [hc19]; rfl) (by decide) ?_
    exact J112 _ _ _ hrun hP hD hK hS (lv_sub hl [3, 4] rfl)
  rcases br9 hrun with ⟨hc20, hrun⟩ | ⟨hc20, hrun⟩
  · refine lv_tableIn (off := 123) (tgt := 124) hx hb dX5_isAlwaysZero_1 (by rw [hc20]; decide) (by rw [hc20]; decide) (by rw [hc20]; rfl) (by decide) ?_
    exact J124 _ _ _ hrun hP hD hK hS (lv_sub hl [] rfl)
  rcases br9 hrun with ⟨hc21, hrun⟩ | ⟨hc21, hrun⟩
  · refine lv_tableIn (off := 111) (tgt := 112) hx hb dX5_isAlwaysZero_1 (by rw [hc21]; decide) (by rw [hc21]; decide) (by rw [hc21]; rfl) (by decide) ?_
    exact J112 _ _ _ hrun hP hD hK hS (lv_sub hl [3, 4] rfl)
  rcases br9 hrun with ⟨hc22, hrun⟩ | ⟨hc22, hrun⟩
  · refine lv_tableIn (off := 123) (tgt := 124) hx hb dX5_isAlwaysZero_1 (by rw [hc22]; decide) (by rw [hc22]; decide) (by rw [hc22]; rfl) (by decide) ?_
    exact J124 _ _ _ hrun hP hD hK hS (lv_sub hl [] rfl)
  rcases br9 hrun with ⟨hc23, hrun⟩ | ⟨hc23, hrun⟩
  · refine lv_tableIn (off := 123) (tgt := 124) hx hb dX5_isAlwaysZero_1 (by rw [hc23]; decide) (by rw [hc23]; decide) (by rw [hc23]; rfl) (by decide) ?_
    exact J124 _ _ _ hrun hP hD hK hS (lv_sub hl [] rfl)
  rcases br9 hrun with ⟨hc24, hrun⟩ | ⟨hc24, hrun⟩
  · refine lv_tableIn (off := 111) (tgt := 112) hx hb dX5_isAlwaysZero_1 (by rw [hc24]; decide) (by rw [hc24]; decide) (by rw [hc24]; rfl) (by decide) ?_
    exact J112 _ _ _ hrun hP hD hK hS (lv_sub hl [3, 4] rfl)
  refine lv_tableOut (tgt := 124) hx hb dX5_isAlwaysZero_1 (by have g0 := lv_neT hc8 (show Int32.toInt 2 = 2 by decide); have g1 := lv_neT hc9 (show Int32.toInt 3 = 3 by decide); have g2 := lv_neT hc10 (show Int32.toInt 4 = 4 by decide); have g3 := lv_neT hc11 (show Int32.toInt 5 = 5 by decide); have g4 := lv_neT hc14 (show Int32.toInt 6 = 6 by decide); have g5 := lv_neT hc15 (show Int32.toInt 7 = 7 by decide); have g6 := lv_neT hc16 (show Int32.toInt 8 = 8 by decide); have g7 := lv_neT hc17 (show Int32.toInt 9 = 9 by decide); have g8 := lv_neT hc18 (show Int32.toInt 10 = 10 by decide); have g9 := lv_neT hc19 (show Int32.toInt 11 = 11 by decide); have g10 := lv_neT hc20 (show Int32.toInt 12 = 12 by decide); have g11 := lv_neT hc21 (show Int32.toInt 13 = 13 by decide); have g12 := lv_neT hc22 (show Int32.toInt 14 = 14 by decide); have g13 := lv_neT hc23 (show Int32.toInt 15 = 15 by decide); have g14 := lv_neT hc24 (show Int32.toInt 16 = 16 by decide); omega) (by decide) ?_
  exact J124 _ _ _ hrun hP hD hK hS (lv_sub hl [] rfl)
def fX5_isEitherWay_J45 (y0_45 : Int32) : Option Int32 := (if y0_45 = 0 ∨ y0_45 = 1 then some y0_45 else none)
def fX5_isEitherWay_J40  : Option Int32 := (fX5_isEitherWay_J45 1)
def fX5_isEitherWay (p0 : Int32) : Option Int32 := (if p0 = 1 then (fX5_isEitherWay_J40) else (if p0 = 3 then (fX5_isEitherWay_J40) else (if p0 = 6 then (fX5_isEitherWay_J40) else (if p0 = 7 then (fX5_isEitherWay_J40) else (if p0 = 8 then (fX5_isEitherWay_J40) else (if p0 = 15 then (fX5_isEitherWay_J40) else (if p0 = 16 then (fX5_isEitherWay_J40) else (fX5_isEitherWay_J45 0))))))))
set_option maxHeartbeats 16000000 in
set_option maxRecDepth 100000 in
theorem kX5_isEitherWay {zs : ZS} (l : Launch) (dC : Nat → ClassId) (dI : Nat → Nat → Nat) (p0 : Int32) (sz : Nat) (o : Int32) (hrun : fX5_isEitherWay p0 = some o) : Met l yX5_isEitherWay (wz yX5_isEitherWay cX5_isEitherWay 1 (Option.some Jvm.ClassFile.FieldType.boolean)) ({ frames := 0, cells := 0, slots := 0, locals := 0 } : Room) (va_Pc [.int p0] (PRE zs dC dI (List.flatten ([] : List va_W)) (List.flatten ([] : List (List (ClassId × FieldType)))) sz)) (va_Qi (fun (r : Int32) (_ : Unit) => r = o) (fun _ t => POST dC dI (List.flatten ([] : List va_W)) (List.flatten ([] : List (List (ClassId × FieldType)))) (va_A (List.flatten ([] : List va_W)) sz) t) (va_A (List.flatten ([] : List va_W)) sz)) 0 0 (va_A (List.flatten ([] : List va_W)) sz) := by
  refine Met.ofW (cc := cX5_isEitherWay) (maxL := 1) (ret := (Option.some Jvm.ClassFile.FieldType.boolean)) (by decide) rfl ?_
  intro p e s m args below meth c s₁ B hml hv
  obtain ⟨rfl, hsz, hP, hK, hD0, hE⟩ := hv
  have hx := B.exec
  have hb := B.bytes
  have hr := B.returns
  have hts0 := atoms_spec (ws := wz yX5_isEitherWay cX5_isEitherWay 1 (Option.some Jvm.ClassFile.FieldType.boolean)) B.pre
  have hts : ∀ w ∈ gw, w.before _ s = true := fun w h => hts0 w (List.mem_cons_of_mem _ h)
  have hown : s.vm.findClass RX5 = some m.cls := findClass_of_methodNamed B.named
  have hlocks := B.notSynchronized
  subst hsz
  have hD := hD0.self (sz := s.heap.size)
  refine gQ9 ?_
  intro Q hQ
  generalize hAe : va_A (List.flatten ([] : List va_W)) s.heap.size = A at hD hE hQ
  have hA : ∀ q : Nat, s.heap.size ≤ q → A q := fun q h => by rw [← hAe]; exact Or.inr h
  have hS : va_S A s.heap s.heap [] := va_S.rf
  have hP : va_P (dC, dI) cls (List.flatten ([] : List va_W)) s.heap := hP
  have hl := lv_entry ([.int p0]) (n := 1) (Nat.le_of_ble_eq_true rfl)
  rw [lg_entry_eq]
  generalize (lg_sl ([.int p0]) ++ List.replicate (1 - (lg_sl ([.int p0])).length) Slot.unset).toArray = ls at hl ⊢
  have hl : lv_has ls 1 [(0, .int p0)] := hl
  obtain ⟨H, hHe⟩ : ∃ H, H = s.heap := ⟨_, rfl⟩
  obtain ⟨locs, hle⟩ : ∃ locs : List Loc, locs = [] := ⟨_, rfl⟩
  rw [← hHe] at hP
  have hS : va_S A s.heap H locs := by rw [hHe, hle]; exact hS
  show W p l e ({ frames := 0, cells := 0, slots := 0, locals := 0 } : Room) s m ([.int p0] : List Value).toArray below meth c s.heap [] 0 0 Q (F0 m 0 ls [])
  rw [← hle]
  refine wH9 hHe ?_
  unfold fX5_isEitherWay at hrun
  refine lv_iload_n hx hb dX5_isEitherWay_0 rfl (lv_at hl 0 rfl) ?_
  refine lv_iconst (v := 1) hx hb dX5_isEitherWay_1 (by decide) ?_
  have J45 : ∀ (y0_45 : Int32) (H : Heap) (locs : List Loc) (ls : Array Slot), (fX5_isEitherWay_J45 y0_45) = some o → va_P (dC, dI) cls (List.flatten ([] : List va_W)) H → va_D A (List.flatten ([] : List va_W)) → va_K (dC, dI) cls (List.flatten ([] : List (List (ClassId × FieldType)))) s → va_S A s.heap H locs → lv_has ls 1 [] → W p l e ({ frames := 0, cells := 0, slots := 0, locals := 0 } : Room) s m ([.int p0] : List Value).toArray below meth c H locs 0 0 Q (F0 m 45 ls [.int y0_45]) := by
    intro y0_45 H locs ls hrun hP hD hK hS hl 
    unfold fX5_isEitherWay_J45 at hrun
    obtain ⟨hz9, hrun⟩ := chk9 hrun
    have ho9 : y0_45 = o := Option.some.inj hrun
    have hP9 : va_P (dC, dI) cls (List.flatten ([] : List va_W)) H := by first | exact hP | (rw [← ho9]; exact hP)
    have hD9 : va_D A (List.flatten ([] : List va_W)) := by first | exact hD | (rw [← ho9]; exact hD)
    subst hQ
    exact W.zret (v := y0_45) hx hb hr (bz9 hz9) (fun t ht hW => ⟨⟨y0_45, (), rfl, (by rw [← ho9]), ⟨by rw [ht]; exact hP9, va_K.moved hW.alike hK, hD9⟩⟩, hS.F ht⟩) hS.2.2 dX5_isEitherWay_45
  have J40 : ∀ (H : Heap) (locs : List Loc) (ls : Array Slot), (fX5_isEitherWay_J40) = some o → va_P (dC, dI) cls (List.flatten ([] : List va_W)) H → va_D A (List.flatten ([] : List va_W)) → va_K (dC, dI) cls (List.flatten ([] : List (List (ClassId × FieldType)))) s → va_S A s.heap H locs → lv_has ls 1 [] → W p l e ({ frames := 0, cells := 0, slots := 0, locals := 0 } : Room) s m ([.int p0] : List Value).toArray below meth c H locs 0 0 Q (F0 m 40 ls []) := by
    intro  H locs ls hrun hP hD hK hS hl 
    unfold fX5_isEitherWay_J40 at hrun
    refine lv_iconst (v := 1) hx hb dX5_isEitherWay_40 (by decide) ?_
    refine lv_goto (tgt := 45) hx hb dX5_isEitherWay_41 (by decide) ?_
    exact J45 1 _ _ _ hrun hP hD hK hS (lv_sub hl [] rfl)
  rcases br9 hrun with ⟨hc1, hrun⟩ | ⟨hc1, hrun⟩
  · refine lv_icmp_eq (tgt := 40) hx hb dX5_isEitherWay_2 (by decide) (fun _ => ?_) (fun c => absurd hc1 c)
    exact J40 _ _ _ hrun hP hD hK hS (lv_sub hl [] rfl)
  · refine lv_icmp_eq (tgt := 40) hx hb dX5_isEitherWay_2 (by decide) (fun c => absurd c hc1) (fun _ => ?_)
    refine lv_iload_n hx hb dX5_isEitherWay_5 rfl (lv_at hl 0 rfl) ?_
    refine lv_iconst (v := 3) hx hb dX5_isEitherWay_6 (by decide) ?_
    rcases br9 hrun with ⟨hc2, hrun⟩ | ⟨hc2, hrun⟩
    · refine lv_icmp_eq (tgt := 40) hx hb dX5_isEitherWay_7 (by decide) (fun _ => ?_) (fun c => absurd hc2 c)
      exact J40 _ _ _ hrun hP hD hK hS (lv_sub hl [] rfl)
    · refine lv_icmp_eq (tgt := 40) hx hb dX5_isEitherWay_7 (by decide) (fun c => absurd c hc2) (fun _ => ?_)
      refine lv_iload_n hx hb dX5_isEitherWay_10 rfl (lv_at hl 0 rfl) ?_
      refine lv_bipush (v := 6) hx hb dX5_isEitherWay_11 (by decide) ?_
      rcases br9 hrun with ⟨hc3, hrun⟩ | ⟨hc3, hrun⟩
      · refine lv_icmp_eq (tgt := 40) hx hb dX5_isEitherWay_13 (by decide) (fun _ => ?_) (fun c => absurd hc3 c)
        exact J40 _ _ _ hrun hP hD hK hS (lv_sub hl [] rfl)
      · refine lv_icmp_eq (tgt := 40) hx hb dX5_isEitherWay_13 (by decide) (fun c => absurd c hc3) (fun _ => ?_)
        refine lv_iload_n hx hb dX5_isEitherWay_16 rfl (lv_at hl 0 rfl) ?_
        refine lv_bipush (v := 7) hx hb dX5_isEitherWay_17 (by decide) ?_
        rcases br9 hrun with ⟨hc4, hrun⟩ | ⟨hc4, hrun⟩
        · refine lv_icmp_eq (tgt := 40) hx hb dX5_isEitherWay_19 (by decide) (fun _ => ?_) (fun c => absurd hc4 c)
          exact J40 _ _ _ hrun hP hD hK hS (lv_sub hl [] rfl)
        · refine lv_icmp_eq (tgt := 40) hx hb dX5_isEitherWay_19 (by decide) (fun c => absurd c hc4) (fun _ => ?_)
          refine lv_iload_n hx hb dX5_isEitherWay_22 rfl (lv_at hl 0 rfl) ?_
          refine lv_bipush (v := 8) hx hb dX5_isEitherWay_23 (by decide) ?_
          rcases br9 hrun with ⟨hc5, hrun⟩ | ⟨hc5, hrun⟩
          · refine lv_icmp_eq (tgt := 40) hx hb dX5_isEitherWay_25 (by decide) (fun _ => ?_) (fun c => absurd hc5 c)
            exact J40 _ _ _ hrun hP hD hK hS (lv_sub hl [] rfl)
          · refine lv_icmp_eq (tgt := 40) hx hb dX5_isEitherWay_25 (by decide) (fun c => absurd c hc5) (fun _ => ?_)
            refine lv_iload_n hx hb dX5_isEitherWay_28 rfl (lv_at hl 0 rfl) ?_
            refine lv_bipush (v := 15) hx hb dX5_isEitherWay_29 (by decide) ?_
            rcases br9 hrun with ⟨hc6, hrun⟩ | ⟨hc6, hrun⟩
            · refine lv_icmp_eq (tgt := 40) hx hb dX5_isEitherWay_31 (by decide) (fun _ => ?_) (fun c => absurd hc6 c)
              exact J40 _ _ _ hrun hP hD hK hS (lv_sub hl [] rfl)
            · refine lv_icmp_eq (tgt := 40) hx hb dX5_isEitherWay_31 (by decide) (fun c => absurd c hc6) (fun _ => ?_)
              refine lv_iload_n hx hb dX5_isEitherWay_34 rfl (lv_at hl 0 rfl) ?_
              refine lv_bipush (v := 16) hx hb dX5_isEitherWay_35 (by decide) ?_
              rcases br9 hrun with ⟨hc7, hrun⟩ | ⟨hc7, hrun⟩
              · refine lv_icmp_ne (tgt := 44) hx hb dX5_isEitherWay_37 (by decide) (fun c => absurd hc7 c) (fun _ => ?_)
                exact J40 _ _ _ hrun hP hD hK hS (lv_sub hl [] rfl)
              · refine lv_icmp_ne (tgt := 44) hx hb dX5_isEitherWay_37 (by decide) (fun _ => ?_) (fun c => absurd c hc7)
                refine lv_iconst (v := 0) hx hb dX5_isEitherWay_44 (by decide) ?_
                exact J45 0 _ _ _ hrun hP hD hK hS (lv_sub hl [] rfl)
def fX5_isLeftAlone_J109  : Option Int32 := some 0
def fX5_isLeftAlone_J100 (p0w : ST) (p4 : Int32) (p1_2n : Nat → Nat) (p1_2w : ST) : Option Int32 := ((fX5_isNumber_ p0w p4 1 p1_2n p1_2w).bind fun (o_1 : Int32) => (if o_1 = 0 ∨ o_1 = 1 then some o_1 else none))
def fX5_isLeftAlone_J56 (p0w : ST) (p4 : Int32) (p1_2n : Nat → Nat) (p1_2w : ST) : Option Int32 := ((fX5_isNumber_ p0w p4 0 p1_2n p1_2w).bind fun (o_3 : Int32) => (if o_3 = 0 ∨ o_3 = 1 then some o_3 else none))
def fX5_isLeftAlone_J99 (y0_99 : Int32) : Option Int32 := (if y0_99 = 0 ∨ y0_99 = 1 then some y0_99 else none)
def fX5_isLeftAlone_J87 (y0_87 : Int32) : Option Int32 := (if y0_87 = 0 ∨ y0_87 = 1 then some y0_87 else none)
def fX5_isLeftAlone_J82  : Option Int32 := (fX5_isLeftAlone_J87 1)
def fX5_isLeftAlone (p0w : ST) (p2 : Int32) (p3 : Int32) (p4 : Int32) (p1_2n : Nat → Nat) (p1_2w : ST) : Option Int32 := (if p2 = 1 then (fX5_isLeftAlone_J56 p0w p4 p1_2n p1_2w) else (if p2 = 2 then (fX5_isLeftAlone_J56 p0w p4 p1_2n p1_2w) else (if p2 = 3 then (fX5_isLeftAlone_J100 p0w p4 p1_2n p1_2w) else (if p2 = 4 then (fX5_isLeftAlone_J100 p0w p4 p1_2n p1_2w) else (if p2 = 5 then (fX5_isLeftAlone_J109) else (if p2 = 6 then (if p3 = p4 then (fX5_isLeftAlone_J99 1) else (fX5_isLeftAlone_J99 0)) else (if p2 = 7 then ((fX5_isNumber_ p0w p4 0 p1_2n p1_2w).bind fun (o_13 : Int32) => (if o_13 = 0 then (if p3 = p4 then (fX5_isLeftAlone_J82) else (fX5_isLeftAlone_J87 0)) else (fX5_isLeftAlone_J82))) else (if p2 = 8 then (fX5_isLeftAlone_J56 p0w p4 p1_2n p1_2w) else (if p2 = 9 then (fX5_isLeftAlone_J56 p0w p4 p1_2n p1_2w) else (if p2 = 10 then (fX5_isLeftAlone_J56 p0w p4 p1_2n p1_2w) else (fX5_isLeftAlone_J109)))))))))))
set_option maxHeartbeats 16000000 in
set_option maxRecDepth 100000 in
theorem kX5_isLeftAlone {zs : ZS} (l : Launch) (dC : Nat → ClassId) (dI : Nat → Nat → Nat) (p0a : Nat → Nat) (p0k : Nat → ClassId) (p0w : ST) (p0l : SL) (p1a : Nat → Nat) (p1k : Nat → ClassId) (p1n : Nat → Nat) (p1w : ST) (p1l : SL) (p2 : Int32) (p3 : Int32) (p4 : Int32) (p1_2a : Nat → Nat) (p1_2k : Nat → ClassId) (p1_2n : Nat → Nat) (p1_2w : ST) (sz : Nat) (o : Int32) (hrun : fX5_isLeftAlone p0w p2 p3 p4 p1_2n p1_2w = some o) : Met l yX5_isLeftAlone (wz yX5_isLeftAlone cX5_isLeftAlone 5 (Option.some Jvm.ClassFile.FieldType.boolean)) ({ frames := 2, cells := 0, slots := 0, locals := 45 } : Room) (va_Pc [.ref (p0a 0), .ref (p1a 0), .int p2, .int p3, .int p4] (PRE zs dC dI (List.flatten ([(oX5 (p0a 0) p0a p0k p0w p0l), (oX1 (p1a 0) p1a p1k p1n p1w p1l), (oX9 (p1a 3) p1_2a p1_2k p1_2n p1_2w)] : List va_W)) (List.flatten ([(tX5 p0k), (tX1 p1k), (tX9 p1_2k)] : List (List (ClassId × FieldType)))) sz)) (va_Qi (fun (r : Int32) (_ : Unit) => r = o) (fun _ t => POST dC dI (List.flatten ([(oX5 (p0a 0) p0a p0k p0w p0l), (oX1 (p1a 0) p1a p1k p1n p1w p1l), (oX9 (p1a 3) p1_2a p1_2k p1_2n p1_2w)] : List va_W)) (List.flatten ([(tX5 p0k), (tX1 p1k), (tX9 p1_2k)] : List (List (ClassId × FieldType)))) (va_A (List.flatten ([(oX5 (p0a 0) p0a p0k p0w p0l), (oX1 (p1a 0) p1a p1k p1n p1w p1l), (oX9 (p1a 3) p1_2a p1_2k p1_2n p1_2w)] : List va_W)) sz) t) (va_A (List.flatten ([(oX5 (p0a 0) p0a p0k p0w p0l), (oX1 (p1a 0) p1a p1k p1n p1w p1l), (oX9 (p1a 3) p1_2a p1_2k p1_2n p1_2w)] : List va_W)) sz)) 0 0 (va_A (List.flatten ([(oX5 (p0a 0) p0a p0k p0w p0l), (oX1 (p1a 0) p1a p1k p1n p1w p1l), (oX9 (p1a 3) p1_2a p1_2k p1_2n p1_2w)] : List va_W)) sz) := by
  refine Met.ofW (cc := cX5_isLeftAlone) (maxL := 5) (ret := (Option.some Jvm.ClassFile.FieldType.boolean)) (by decide) rfl ?_
  intro p e s m args below meth c s₁ B hml hv
  obtain ⟨rfl, hsz, hP, hK, hD0, hE⟩ := hv
  have hx := B.exec
  have hb := B.bytes
  have hr := B.returns
  have hts0 := atoms_spec (ws := wz yX5_isLeftAlone cX5_isLeftAlone 5 (Option.some Jvm.ClassFile.FieldType.boolean)) B.pre
  have hts : ∀ w ∈ gw, w.before _ s = true := fun w h => hts0 w (List.mem_cons_of_mem _ h)
  have hown : s.vm.findClass RX5 = some m.cls := findClass_of_methodNamed B.named
  have hlocks := B.notSynchronized
  subst hsz
  have hD := hD0.self (sz := s.heap.size)
  refine gQ9 ?_
  intro Q hQ
  generalize hAe : va_A (List.flatten ([(oX5 (p0a 0) p0a p0k p0w p0l), (oX1 (p1a 0) p1a p1k p1n p1w p1l), (oX9 (p1a 3) p1_2a p1_2k p1_2n p1_2w)] : List va_W)) s.heap.size = A at hD hE hQ
  have hA : ∀ q : Nat, s.heap.size ≤ q → A q := fun q h => by rw [← hAe]; exact Or.inr h
  have hS : va_S A s.heap s.heap [] := va_S.rf
  have hP : va_P (dC, dI) cls (List.flatten ([(oX5 (p0a 0) p0a p0k p0w p0l), (oX1 (p1a 0) p1a p1k p1n p1w p1l), (oX9 (p1a 3) p1_2a p1_2k p1_2n p1_2w)] : List va_W)) s.heap := hP
  have hl := lv_entry ([.ref (p0a 0), .ref (p1a 0), .int p2, .int p3, .int p4]) (n := 5) (Nat.le_of_ble_eq_true rfl)
  rw [lg_entry_eq]
  generalize (lg_sl ([.ref (p0a 0), .ref (p1a 0), .int p2, .int p3, .int p4]) ++ List.replicate (5 - (lg_sl ([.ref (p0a 0), .ref (p1a 0), .int p2, .int p3, .int p4])).length) Slot.unset).toArray = ls at hl ⊢
  have hl : lv_has ls 5 [(0, .ref (p0a 0)), (1, .ref (p1a 0)), (2, .int p2), (3, .int p3), (4, .int p4)] := hl
  obtain ⟨H, hHe⟩ : ∃ H, H = s.heap := ⟨_, rfl⟩
  obtain ⟨locs, hle⟩ : ∃ locs : List Loc, locs = [] := ⟨_, rfl⟩
  rw [← hHe] at hP
  have hS : va_S A s.heap H locs := by rw [hHe, hle]; exact hS
  show W p l e ({ frames := 2, cells := 0, slots := 0, locals := 45 } : Room) s m ([.ref (p0a 0), .ref (p1a 0), .int p2, .int p3, .int p4] : List Value).toArray below meth c s.heap [] 0 0 Q (F0 m 0 ls [])
  rw [← hle]
  refine wH9 hHe ?_
  unfold fX5_isLeftAlone at hrun
  refine lv_iload_n hx hb dX5_isLeftAlone_0 rfl (lv_at hl 2 rfl) ?_
  have J109 : ∀ (H : Heap) (locs : List Loc) (ls : Array Slot), (fX5_isLeftAlone_J109) = some o → va_P (dC, dI) cls (List.flatten ([(oX5 (p0a 0) p0a p0k p0w p0l), (oX1 (p1a 0) p1a p1k p1n p1w p1l), (oX9 (p1a 3) p1_2a p1_2k p1_2n p1_2w)] : List va_W)) H → va_D A (List.flatten ([(oX5 (p0a 0) p0a p0k p0w p0l), (oX1 (p1a 0) p1a p1k p1n p1w p1l), (oX9 (p1a 3) p1_2a p1_2k p1_2n p1_2w)] : List va_W)) → va_K (dC, dI) cls (List.flatten ([(tX5 p0k), (tX1 p1k), (tX9 p1_2k)] : List (List (ClassId × FieldType)))) s → va_S A s.heap H locs → lv_has ls 5 [] → W p l e ({ frames := 2, cells := 0, slots := 0, locals := 45 } : Room) s m ([.ref (p0a 0), .ref (p1a 0), .int p2, .int p3, .int p4] : List Value).toArray below meth c H locs 0 0 Q (F0 m 109 ls []) := by
    intro  H locs ls hrun hP hD hK hS hl 
    unfold fX5_isLeftAlone_J109 at hrun
    refine lv_iconst (v := 0) hx hb dX5_isLeftAlone_109 (by decide) ?_
    have ho9 : 0 = o := Option.some.inj hrun
    have hP9 : va_P (dC, dI) cls (List.flatten ([(oX5 (p0a 0) p0a p0k p0w p0l), (oX1 (p1a 0) p1a p1k p1n p1w p1l), (oX9 (p1a 3) p1_2a p1_2k p1_2n p1_2w)] : List va_W)) H := by first | exact hP | (rw [← ho9]; exact hP)
    have hD9 : va_D A (List.flatten ([(oX5 (p0a 0) p0a p0k p0w p0l), (oX1 (p1a 0) p1a p1k p1n p1w p1l), (oX9 (p1a 3) p1_2a p1_2k p1_2n p1_2w)] : List va_W)) := by first | exact hD | (rw [← ho9]; exact hD)
    subst hQ
    exact W.zret (v := 0) hx hb hr (by decide) (fun t ht hW => ⟨⟨0, (), rfl, (by rw [← ho9]), ⟨by rw [ht]; exact hP9, va_K.moved hW.alike hK, hD9⟩⟩, hS.F ht⟩) hS.2.2 dX5_isLeftAlone_110
  have J100 : ∀ (H : Heap) (locs : List Loc) (ls : Array Slot), (fX5_isLeftAlone_J100 p0w p4 p1_2n p1_2w) = some o → va_P (dC, dI) cls (List.flatten ([(oX5 (p0a 0) p0a p0k p0w p0l), (oX1 (p1a 0) p1a p1k p1n p1w p1l), (oX9 (p1a 3) p1_2a p1_2k p1_2n p1_2w)] : List va_W)) H → va_D A (List.flatten ([(oX5 (p0a 0) p0a p0k p0w p0l), (oX1 (p1a 0) p1a p1k p1n p1w p1l), (oX9 (p1a 3) p1_2a p1_2k p1_2n p1_2w)] : List va_W)) → va_K (dC, dI) cls (List.flatten ([(tX5 p0k), (tX1 p1k), (tX9 p1_2k)] : List (List (ClassId × FieldType)))) s → va_S A s.heap H locs → lv_has ls 5 [(0, .ref (p0a 0)), (1, .ref (p1a 0)), (4, .int p4)] → W p l e ({ frames := 2, cells := 0, slots := 0, locals := 45 } : Room) s m ([.ref (p0a 0), .ref (p1a 0), .int p2, .int p3, .int p4] : List Value).toArray below meth c H locs 0 0 Q (F0 m 100 ls []) := by
    intro  H locs ls hrun hP hD hK hS hl 
    unfold fX5_isLeftAlone_J100 at hrun
    refine lv_aload_n hx hb dX5_isLeftAlone_100 rfl (lv_at hl 0 rfl) ?_
    refine lv_aload_n hx hb dX5_isLeftAlone_101 rfl (lv_at hl 1 rfl) ?_
    refine lv_iload hx hb dX5_isLeftAlone_102 (lv_at hl 2 rfl) ?_
    refine lv_iconst (v := 1) hx hb dX5_isLeftAlone_104 (by decide) ?_
    obtain ⟨o_1, hc_1, hrun⟩ := bnd9 hrun
    have hPx : va_P (dC, dI) cls ((List.flatten ([(oX5 (p0a 0) p0a p0k p0w p0l), (oX1 (p1a 0) p1a p1k p1n p1w p1l), (oX9 (p1a 3) p1_2a p1_2k p1_2n p1_2w)] : List va_W)) ++ (List.flatten ([] : List va_W))) H := vP_fa (vP_perm hP (bP (List.Perm.refl _)))
    have hDx : va_D A ((List.flatten ([(oX5 (p0a 0) p0a p0k p0w p0l), (oX1 (p1a 0) p1a p1k p1n p1w p1l), (oX9 (p1a 3) p1_2a p1_2k p1_2n p1_2w)] : List va_W)) ++ (List.flatten ([] : List va_W))) := vD_fa (vD_perm hD (bP (List.Perm.refl _)))
    have hKx : va_K (dC, dI) cls ((List.flatten ([(tX5 p0k), (tX1 p1k), (tX9 p1_2k)] : List (List (ClassId × FieldType)))) ++ (List.flatten ([] : List (List (ClassId × FieldType))))) s := vK_fa (vK_perm hK (bP (List.Perm.refl _)))
    have hPc := vP_l hPx
    have hDc := vD_l hDx
    have hKc := vK_l hKx
    have hFc := vfree hDx hS hA
    refine va_calli (va_runV (As := [.ref (p1a 0), .int p4, .int 1]) (rest := []) ⟨hx, hb, hml, hown, hts⟩ (kX5_isNumber_ l dC dI (p0a := p0a) (p0k := p0k) (p0w := p0w) (p0l := p0l) (p1a := p1a) (p1k := p1k) (p1n := p1n) (p1w := p1w) (p1l := p1l) (p2 := p4) (p3 := 1) (p1_2a := p1_2a) (p1_2k := p1_2k) (p1_2n := p1_2n) (p1_2w := p1_2w) (sz := _) (o := o_1) (hrun := hc_1)) (cwV 3 hts (gi_V qw536 qw537 qw538 qw442 (gi_z qw535)) rfl rfl rfl (by decide +kernel) ⟨Nat.le_of_ble_eq_true rfl, Nat.le_of_ble_eq_true rfl⟩) ⟨PRE.blind, va_recv hKc hPc (ci := 7) (q0 := 0) rfl rfl, PRE.of hE hS hFc hPc hKc hDc⟩ rfl rfl hl.1 rfl (lv_room (Nat.le_of_ble_eq_true rfl)) dX5_isLeftAlone_105 ⟨(Nat.le_of_ble_eq_true rfl), (Nat.le_of_ble_eq_true rfl)⟩) hS (fun q _ h => hFc q h) hFc (fun r2 u t H locs ht hvm hw hB hz1 hk1 hS => ?_)
    obtain ⟨b1, b2, b3⟩ := hB
    rw [ht] at b1
    obtain ⟨hP, hD, hK⟩ := JOINC (wc := (List.flatten ([(oX5 (p0a 0) p0a p0k p0w p0l), (oX1 (p1a 0) p1a p1k p1n p1w p1l), (oX9 (p1a 3) p1_2a p1_2k p1_2n p1_2w)] : List va_W))) (wr := (List.flatten ([] : List va_W))) (w1 := (List.flatten ([(oX5 (p0a 0) p0a p0k p0w p0l), (oX1 (p1a 0) p1a p1k p1n p1w p1l), (oX9 (p1a 3) p1_2a p1_2k p1_2n p1_2w)] : List va_W))) (t1 := (List.flatten ([(tX5 p0k), (tX1 p1k), (tX9 p1_2k)] : List (List (ClassId × FieldType))))) hPx hDx hKx hk1 hFc b1 (va_K.moved hvm.symm b2) b3
    have hP : va_P (dC, dI) cls (List.flatten ([(oX5 (p0a 0) p0a p0k p0w p0l), (oX1 (p1a 0) p1a p1k p1n p1w p1l), (oX9 (p1a 3) p1_2a p1_2k p1_2n p1_2w)] : List va_W)) H := vP_perm (vP_fb hP) (bP (List.Perm.refl _))
    have hD : va_D A (List.flatten ([(oX5 (p0a 0) p0a p0k p0w p0l), (oX1 (p1a 0) p1a p1k p1n p1w p1l), (oX9 (p1a 3) p1_2a p1_2k p1_2n p1_2w)] : List va_W)) := vD_perm (vD_fb hD) (bP (List.Perm.refl _))
    have hK : va_K (dC, dI) cls (List.flatten ([(tX5 p0k), (tX1 p1k), (tX9 p1_2k)] : List (List (ClassId × FieldType)))) s := vK_perm (vK_fb hK) (bP (List.Perm.refl _))
    obtain rfl : o_1 = r2 := hw.symm
    obtain ⟨hz9, hrun⟩ := chk9 hrun
    have ho9 : o_1 = o := Option.some.inj hrun
    have hP9 : va_P (dC, dI) cls (List.flatten ([(oX5 (p0a 0) p0a p0k p0w p0l), (oX1 (p1a 0) p1a p1k p1n p1w p1l), (oX9 (p1a 3) p1_2a p1_2k p1_2n p1_2w)] : List va_W)) H := by first | exact hP | (rw [← ho9]; exact hP)
    have hD9 : va_D A (List.flatten ([(oX5 (p0a 0) p0a p0k p0w p0l), (oX1 (p1a 0) p1a p1k p1n p1w p1l), (oX9 (p1a 3) p1_2a p1_2k p1_2n p1_2w)] : List va_W)) := by first | exact hD | (rw [← ho9]; exact hD)
    subst hQ
    exact W.zret (v := o_1) hx hb hr (bz9 hz9) (fun t ht hW => ⟨⟨o_1, (), rfl, (by rw [← ho9]), ⟨by rw [ht]; exact hP9, va_K.moved hW.alike hK, hD9⟩⟩, hS.F ht⟩) hS.2.2 dX5_isLeftAlone_108
  have J56 : ∀ (H : Heap) (locs : List Loc) (ls : Array Slot), (fX5_isLeftAlone_J56 p0w p4 p1_2n p1_2w) = some o → va_P (dC, dI) cls (List.flatten ([(oX5 (p0a 0) p0a p0k p0w p0l), (oX1 (p1a 0) p1a p1k p1n p1w p1l), (oX9 (p1a 3) p1_2a p1_2k p1_2n p1_2w)] : List va_W)) H → va_D A (List.flatten ([(oX5 (p0a 0) p0a p0k p0w p0l), (oX1 (p1a 0) p1a p1k p1n p1w p1l), (oX9 (p1a 3) p1_2a p1_2k p1_2n p1_2w)] : List va_W)) → va_K (dC, dI) cls (List.flatten ([(tX5 p0k), (tX1 p1k), (tX9 p1_2k)] : List (List (ClassId × FieldType)))) s → va_S A s.heap H locs → lv_has ls 5 [(0, .ref (p0a 0)), (1, .ref (p1a 0)), (4, .int p4)] → W p l e ({ frames := 2, cells := 0, slots := 0, locals := 45 } : Room) s m ([.ref (p0a 0), .ref (p1a 0), .int p2, .int p3, .int p4] : List Value).toArray below meth c H locs 0 0 Q (F0 m 56 ls []) := by
    intro  H locs ls hrun hP hD hK hS hl 
    unfold fX5_isLeftAlone_J56 at hrun
    refine lv_aload_n hx hb dX5_isLeftAlone_56 rfl (lv_at hl 0 rfl) ?_
    refine lv_aload_n hx hb dX5_isLeftAlone_57 rfl (lv_at hl 1 rfl) ?_
    refine lv_iload hx hb dX5_isLeftAlone_58 (lv_at hl 2 rfl) ?_
    refine lv_iconst (v := 0) hx hb dX5_isLeftAlone_60 (by decide) ?_
    obtain ⟨o_3, hc_3, hrun⟩ := bnd9 hrun
    have hPx : va_P (dC, dI) cls ((List.flatten ([(oX5 (p0a 0) p0a p0k p0w p0l), (oX1 (p1a 0) p1a p1k p1n p1w p1l), (oX9 (p1a 3) p1_2a p1_2k p1_2n p1_2w)] : List va_W)) ++ (List.flatten ([] : List va_W))) H := vP_fa (vP_perm hP (bP (List.Perm.refl _)))
    have hDx : va_D A ((List.flatten ([(oX5 (p0a 0) p0a p0k p0w p0l), (oX1 (p1a 0) p1a p1k p1n p1w p1l), (oX9 (p1a 3) p1_2a p1_2k p1_2n p1_2w)] : List va_W)) ++ (List.flatten ([] : List va_W))) := vD_fa (vD_perm hD (bP (List.Perm.refl _)))
    have hKx : va_K (dC, dI) cls ((List.flatten ([(tX5 p0k), (tX1 p1k), (tX9 p1_2k)] : List (List (ClassId × FieldType)))) ++ (List.flatten ([] : List (List (ClassId × FieldType))))) s := vK_fa (vK_perm hK (bP (List.Perm.refl _)))
    have hPc := vP_l hPx
    have hDc := vD_l hDx
    have hKc := vK_l hKx
    have hFc := vfree hDx hS hA
    refine va_calli (va_runV (As := [.ref (p1a 0), .int p4, .int 0]) (rest := []) ⟨hx, hb, hml, hown, hts⟩ (kX5_isNumber_ l dC dI (p0a := p0a) (p0k := p0k) (p0w := p0w) (p0l := p0l) (p1a := p1a) (p1k := p1k) (p1n := p1n) (p1w := p1w) (p1l := p1l) (p2 := p4) (p3 := 0) (p1_2a := p1_2a) (p1_2k := p1_2k) (p1_2n := p1_2n) (p1_2w := p1_2w) (sz := _) (o := o_3) (hrun := hc_3)) (cwV 3 hts (gi_V qw536 qw537 qw538 qw442 (gi_z qw535)) rfl rfl rfl (by decide +kernel) ⟨Nat.le_of_ble_eq_true rfl, Nat.le_of_ble_eq_true rfl⟩) ⟨PRE.blind, va_recv hKc hPc (ci := 7) (q0 := 0) rfl rfl, PRE.of hE hS hFc hPc hKc hDc⟩ rfl rfl hl.1 rfl (lv_room (Nat.le_of_ble_eq_true rfl)) dX5_isLeftAlone_61 ⟨(Nat.le_of_ble_eq_true rfl), (Nat.le_of_ble_eq_true rfl)⟩) hS (fun q _ h => hFc q h) hFc (fun r4 u t H locs ht hvm hw hB hz1 hk1 hS => ?_)
    obtain ⟨b1, b2, b3⟩ := hB
    rw [ht] at b1
    obtain ⟨hP, hD, hK⟩ := JOINC (wc := (List.flatten ([(oX5 (p0a 0) p0a p0k p0w p0l), (oX1 (p1a 0) p1a p1k p1n p1w p1l), (oX9 (p1a 3) p1_2a p1_2k p1_2n p1_2w)] : List va_W))) (wr := (List.flatten ([] : List va_W))) (w1 := (List.flatten ([(oX5 (p0a 0) p0a p0k p0w p0l), (oX1 (p1a 0) p1a p1k p1n p1w p1l), (oX9 (p1a 3) p1_2a p1_2k p1_2n p1_2w)] : List va_W))) (t1 := (List.flatten ([(tX5 p0k), (tX1 p1k), (tX9 p1_2k)] : List (List (ClassId × FieldType))))) hPx hDx hKx hk1 hFc b1 (va_K.moved hvm.symm b2) b3
    have hP : va_P (dC, dI) cls (List.flatten ([(oX5 (p0a 0) p0a p0k p0w p0l), (oX1 (p1a 0) p1a p1k p1n p1w p1l), (oX9 (p1a 3) p1_2a p1_2k p1_2n p1_2w)] : List va_W)) H := vP_perm (vP_fb hP) (bP (List.Perm.refl _))
    have hD : va_D A (List.flatten ([(oX5 (p0a 0) p0a p0k p0w p0l), (oX1 (p1a 0) p1a p1k p1n p1w p1l), (oX9 (p1a 3) p1_2a p1_2k p1_2n p1_2w)] : List va_W)) := vD_perm (vD_fb hD) (bP (List.Perm.refl _))
    have hK : va_K (dC, dI) cls (List.flatten ([(tX5 p0k), (tX1 p1k), (tX9 p1_2k)] : List (List (ClassId × FieldType)))) s := vK_perm (vK_fb hK) (bP (List.Perm.refl _))
    obtain rfl : o_3 = r4 := hw.symm
    obtain ⟨hz9, hrun⟩ := chk9 hrun
    have ho9 : o_3 = o := Option.some.inj hrun
    have hP9 : va_P (dC, dI) cls (List.flatten ([(oX5 (p0a 0) p0a p0k p0w p0l), (oX1 (p1a 0) p1a p1k p1n p1w p1l), (oX9 (p1a 3) p1_2a p1_2k p1_2n p1_2w)] : List va_W)) H := by first | exact hP | (rw [← ho9]; exact hP)
    have hD9 : va_D A (List.flatten ([(oX5 (p0a 0) p0a p0k p0w p0l), (oX1 (p1a 0) p1a p1k p1n p1w p1l), (oX9 (p1a 3) p1_2a p1_2k p1_2n p1_2w)] : List va_W)) := by first | exact hD | (rw [← ho9]; exact hD)
    subst hQ
    exact W.zret (v := o_3) hx hb hr (bz9 hz9) (fun t ht hW => ⟨⟨o_3, (), rfl, (by rw [← ho9]), ⟨by rw [ht]; exact hP9, va_K.moved hW.alike hK, hD9⟩⟩, hS.F ht⟩) hS.2.2 dX5_isLeftAlone_64
  rcases br9 hrun with ⟨hc5, hrun⟩ | ⟨hc5, hrun⟩
  · refine lv_tableIn (off := 55) (tgt := 56) hx hb dX5_isLeftAlone_1 (by rw [hc5]; decide) (by rw [hc5]; decide) (by rw [hc5]; rfl) (by decide) ?_
    exact J56 _ _ _ hrun hP hD hK hS (lv_sub hl [0, 1, 4] rfl)
  rcases br9 hrun with ⟨hc6, hrun⟩ | ⟨hc6, hrun⟩
  · refine lv_tableIn (off := 55) (tgt := 56) hx hb dX5_isLeftAlone_1 (by rw [hc6]; decide) (by rw [hc6]; decide) (by rw [hc6]; rfl) (by decide) ?_
    exact J56 _ _ _ hrun hP hD hK hS (lv_sub hl [0, 1, 4] rfl)
  rcases br9 hrun with ⟨hc7, hrun⟩ | ⟨hc7, hrun⟩
  · refine lv_tableIn (off := 99) (tgt := 100) hx hb dX5_isLeftAlone_1 (by rw [hc7]; decide) (by rw [hc7]; decide) (by rw [hc7]; rfl) (by decide) ?_
    exact J100 _ _ _ hrun hP hD hK hS (lv_sub hl [0, 1, 4] rfl)
  rcases br9 hrun with ⟨hc8, hrun⟩ | ⟨hc8, hrun⟩
  · refine lv_tableIn (off := 99) (tgt := 100) hx hb dX5_isLeftAlone_1 (by rw [hc8]; decide) (by rw [hc8]; decide) (by rw [hc8]; rfl) (by decide) ?_
    exact J100 _ _ _ hrun hP hD hK hS (lv_sub hl [0, 1, 4] rfl)
  rcases br9 hrun with ⟨hc9, hrun⟩ | ⟨hc9, hrun⟩
  · refine lv_tableIn (off := 108) (tgt := 109) hx hb dX5_isLeftAlone_1 (by rw [hc9]; decide) (by rw [hc9]; decide) (by rw [hc9]; rfl) (by decide) ?_
    exact J109 _ _ _ hrun hP hD hK hS (lv_sub hl [] rfl)
  rcases br9 hrun with ⟨hc10, hrun⟩ | ⟨hc10, hrun⟩
  · refine lv_tableIn (off := 87) (tgt := 88) hx hb dX5_isLeftAlone_1 (by rw [hc10]; decide) (by rw [hc10]; decide) (by rw [hc10]; rfl) (by decide) ?_
    refine lv_iload_n hx hb dX5_isLeftAlone_88 rfl (lv_at hl 3 rfl) ?_
    refine lv_iload hx hb dX5_isLeftAlone_89 (lv_at hl 4 rfl) ?_
    have J99 : ∀ (y0_99 : Int32) (H : Heap) (locs : List Loc) (ls : Array Slot), (fX5_isLeftAlone_J99 y0_99) = some o → va_P (dC, dI) cls (List.flatten ([(oX5 (p0a 0) p0a p0k p0w p0l), (oX1 (p1a 0) p1a p1k p1n p1w p1l), (oX9 (p1a 3) p1_2a p1_2k p1_2n p1_2w)] : List va_W)) H → va_D A (List.flatten ([(oX5 (p0a 0) p0a p0k p0w p0l), (oX1 (p1a 0) p1a p1k p1n p1w p1l), (oX9 (p1a 3) p1_2a p1_2k p1_2n p1_2w)] : List va_W)) → va_K (dC, dI) cls (List.flatten ([(tX5 p0k), (tX1 p1k), (tX9 p1_2k)] : List (List (ClassId × FieldType)))) s → va_S A s.heap H locs → lv_has ls 5 [] → W p l e ({ frames := 2, cells := 0, slots := 0, locals := 45 } : Room) s m ([.ref (p0a 0), .ref (p1a 0), .int p2, .int p3, .int p4] : List Value).toArray below meth c H locs 0 0 Q (F0 m 99 ls [.int y0_99]) := by
      intro y0_99 H locs ls hrun hP hD hK hS hl 
      unfold fX5_isLeftAlone_J99 at hrun
      obtain ⟨hz9, hrun⟩ := chk9 hrun
      have ho9 : y0_99 = o := Option.some.inj hrun
      have hP9 : va_P (dC, dI) cls (List.flatten ([(oX5 (p0a 0) p0a p0k p0w p0l), (oX1 (p1a 0) p1a p1k p1n p1w p1l), (oX9 (p1a 3) p1_2a p1_2k p1_2n p1_2w)] : List va_W)) H := by first | exact hP | (rw [← ho9]; exact hP)
      have hD9 : va_D A (List.flatten ([(oX5 (p0a 0) p0a p0k p0w p0l), (oX1 (p1a 0) p1a p1k p1n p1w p1l), (oX9 (p1a 3) p1_2a p1_2k p1_2n p1_2w)] : List va_W)) := by first | exact hD | (rw [← ho9]; exact hD)
      subst hQ
      exact W.zret (v := y0_99) hx hb hr (bz9 hz9) (fun t ht hW => ⟨⟨y0_99, (), rfl, (by rw [← ho9]), ⟨by rw [ht]; exact hP9, va_K.moved hW.alike hK, hD9⟩⟩, hS.F ht⟩) hS.2.2 dX5_isLeftAlone_99
    rcases br9 hrun with ⟨hc11, hrun⟩ | ⟨hc11, hrun⟩
    · refine lv_icmp_ne (tgt := 98) hx hb dX5_isLeftAlone_91 (by decide) (fun c => absurd hc11 c) (fun _ => ?_)
      refine lv_iconst (v := 1) hx hb dX5_isLeftAlone_94 (by decide) ?_
      refine lv_goto (tgt := 99) hx hb dX5_isLeftAlone_95 (by decide) ?_
      exact J99 1 _ _ _ hrun hP hD hK hS (lv_sub hl [] rfl)
    · refine lv_icmp_ne (tgt := 98) hx hb dX5_isLeftAlone_91 (by decide) (fun _ => ?_) (fun c => absurd c hc11)
      refine lv_iconst (v := 0) hx hb dX5_isLeftAlone_98 (by decide) ?_
      exact J99 0 _ _ _ hrun hP hD hK hS (lv_sub hl [] rfl)
  rcases br9 hrun with ⟨hc12, hrun⟩ | ⟨hc12, hrun⟩
  · refine lv_tableIn (off := 64) (tgt := 65) hx hb dX5_isLeftAlone_1 (by rw [hc12]; decide) (by rw [hc12]; decide) (by rw [hc12]; rfl) (by decide) ?_
    refine lv_aload_n hx hb dX5_isLeftAlone_65 rfl (lv_at hl 0 rfl) ?_
    refine lv_aload_n hx hb dX5_isLeftAlone_66 rfl (lv_at hl 1 rfl) ?_
    refine lv_iload hx hb dX5_isLeftAlone_67 (lv_at hl 4 rfl) ?_
    refine lv_iconst (v := 0) hx hb dX5_isLeftAlone_69 (by decide) ?_
    obtain ⟨o_13, hc_13, hrun⟩ := bnd9 hrun
    have hPx : va_P (dC, dI) cls ((List.flatten ([(oX5 (p0a 0) p0a p0k p0w p0l), (oX1 (p1a 0) p1a p1k p1n p1w p1l), (oX9 (p1a 3) p1_2a p1_2k p1_2n p1_2w)] : List va_W)) ++ (List.flatten ([] : List va_W))) H := vP_fa (vP_perm hP (bP (List.Perm.refl _)))
    have hDx : va_D A ((List.flatten ([(oX5 (p0a 0) p0a p0k p0w p0l), (oX1 (p1a 0) p1a p1k p1n p1w p1l), (oX9 (p1a 3) p1_2a p1_2k p1_2n p1_2w)] : List va_W)) ++ (List.flatten ([] : List va_W))) := vD_fa (vD_perm hD (bP (List.Perm.refl _)))
    have hKx : va_K (dC, dI) cls ((List.flatten ([(tX5 p0k), (tX1 p1k), (tX9 p1_2k)] : List (List (ClassId × FieldType)))) ++ (List.flatten ([] : List (List (ClassId × FieldType))))) s := vK_fa (vK_perm hK (bP (List.Perm.refl _)))
    have hPc := vP_l hPx
    have hDc := vD_l hDx
    have hKc := vK_l hKx
    have hFc := vfree hDx hS hA
    refine va_calli (va_runV (As := [.ref (p1a 0), .int p4, .int 0]) (rest := []) ⟨hx, hb, hml, hown, hts⟩ (kX5_isNumber_ l dC dI (p0a := p0a) (p0k := p0k) (p0w := p0w) (p0l := p0l) (p1a := p1a) (p1k := p1k) (p1n := p1n) (p1w := p1w) (p1l := p1l) (p2 := p4) (p3 := 0) (p1_2a := p1_2a) (p1_2k := p1_2k) (p1_2n := p1_2n) (p1_2w := p1_2w) (sz := _) (o := o_13) (hrun := hc_13)) (cwV 3 hts (gi_V qw536 qw537 qw538 qw442 (gi_z qw535)) rfl rfl rfl (by decide +kernel) ⟨Nat.le_of_ble_eq_true rfl, Nat.le_of_ble_eq_true rfl⟩) ⟨PRE.blind, va_recv hKc hPc (ci := 7) (q0 := 0) rfl rfl, PRE.of hE hS hFc hPc hKc hDc⟩ rfl rfl hl.1 rfl (lv_room (Nat.le_of_ble_eq_true rfl)) dX5_isLeftAlone_70 ⟨(Nat.le_of_ble_eq_true rfl), (Nat.le_of_ble_eq_true rfl)⟩) hS (fun q _ h => hFc q h) hFc (fun r14 u t H locs ht hvm hw hB hz1 hk1 hS => ?_)
    obtain ⟨b1, b2, b3⟩ := hB
    rw [ht] at b1
    obtain ⟨hP, hD, hK⟩ := JOINC (wc := (List.flatten ([(oX5 (p0a 0) p0a p0k p0w p0l), (oX1 (p1a 0) p1a p1k p1n p1w p1l), (oX9 (p1a 3) p1_2a p1_2k p1_2n p1_2w)] : List va_W))) (wr := (List.flatten ([] : List va_W))) (w1 := (List.flatten ([(oX5 (p0a 0) p0a p0k p0w p0l), (oX1 (p1a 0) p1a p1k p1n p1w p1l), (oX9 (p1a 3) p1_2a p1_2k p1_2n p1_2w)] : List va_W))) (t1 := (List.flatten ([(tX5 p0k), (tX1 p1k), (tX9 p1_2k)] : List (List (ClassId × FieldType))))) hPx hDx hKx hk1 hFc b1 (va_K.moved hvm.symm b2) b3
    have hP : va_P (dC, dI) cls (List.flatten ([(oX5 (p0a 0) p0a p0k p0w p0l), (oX1 (p1a 0) p1a p1k p1n p1w p1l), (oX9 (p1a 3) p1_2a p1_2k p1_2n p1_2w)] : List va_W)) H := vP_perm (vP_fb hP) (bP (List.Perm.refl _))
    have hD : va_D A (List.flatten ([(oX5 (p0a 0) p0a p0k p0w p0l), (oX1 (p1a 0) p1a p1k p1n p1w p1l), (oX9 (p1a 3) p1_2a p1_2k p1_2n p1_2w)] : List va_W)) := vD_perm (vD_fb hD) (bP (List.Perm.refl _))
    have hK : va_K (dC, dI) cls (List.flatten ([(tX5 p0k), (tX1 p1k), (tX9 p1_2k)] : List (List (ClassId × FieldType)))) s := vK_perm (vK_fb hK) (bP (List.Perm.refl _))
    obtain rfl : o_13 = r14 := hw.symm
    have J87 : ∀ (y0_87 : Int32) (H : Heap) (locs : List Loc) (ls : Array Slot), (fX5_isLeftAlone_J87 y0_87) = some o → va_P (dC, dI) cls (List.flatten ([(oX5 (p0a 0) p0a p0k p0w p0l), (oX1 (p1a 0) p1a p1k p1n p1w p1l), (oX9 (p1a 3) p1_2a p1_2k p1_2n p1_2w)] : List va_W)) H → va_D A (List.flatten ([(oX5 (p0a 0) p0a p0k p0w p0l), (oX1 (p1a 0) p1a p1k p1n p1w p1l), (oX9 (p1a 3) p1_2a p1_2k p1_2n p1_2w)] : List va_W)) → va_K (dC, dI) cls (List.flatten ([(tX5 p0k), (tX1 p1k), (tX9 p1_2k)] : List (List (ClassId × FieldType)))) s → va_S A s.heap H locs → lv_has ls 5 [] → W p l e ({ frames := 2, cells := 0, slots := 0, locals := 45 } : Room) s m ([.ref (p0a 0), .ref (p1a 0), .int p2, .int p3, .int p4] : List Value).toArray below meth c H locs 0 0 Q (F0 m 87 ls [.int y0_87]) := by
      intro y0_87 H locs ls hrun hP hD hK hS hl 
      unfold fX5_isLeftAlone_J87 at hrun
      obtain ⟨hz9, hrun⟩ := chk9 hrun
      have ho9 : y0_87 = o := Option.some.inj hrun
      have hP9 : va_P (dC, dI) cls (List.flatten ([(oX5 (p0a 0) p0a p0k p0w p0l), (oX1 (p1a 0) p1a p1k p1n p1w p1l), (oX9 (p1a 3) p1_2a p1_2k p1_2n p1_2w)] : List va_W)) H := by first | exact hP | (rw [← ho9]; exact hP)
      have hD9 : va_D A (List.flatten ([(oX5 (p0a 0) p0a p0k p0w p0l), (oX1 (p1a 0) p1a p1k p1n p1w p1l), (oX9 (p1a 3) p1_2a p1_2k p1_2n p1_2w)] : List va_W)) := by first | exact hD | (rw [← ho9]; exact hD)
      subst hQ
      exact W.zret (v := y0_87) hx hb hr (bz9 hz9) (fun t ht hW => ⟨⟨y0_87, (), rfl, (by rw [← ho9]), ⟨by rw [ht]; exact hP9, va_K.moved hW.alike hK, hD9⟩⟩, hS.F ht⟩) hS.2.2 dX5_isLeftAlone_87
    have J82 : ∀ (H : Heap) (locs : List Loc) (ls : Array Slot), (fX5_isLeftAlone_J82) = some o → va_P (dC, dI) cls (List.flatten ([(oX5 (p0a 0) p0a p0k p0w p0l), (oX1 (p1a 0) p1a p1k p1n p1w p1l), (oX9 (p1a 3) p1_2a p1_2k p1_2n p1_2w)] : List va_W)) H → va_D A (List.flatten ([(oX5 (p0a 0) p0a p0k p0w p0l), (oX1 (p1a 0) p1a p1k p1n p1w p1l), (oX9 (p1a 3) p1_2a p1_2k p1_2n p1_2w)] : List va_W)) → va_K (dC, dI) cls (List.flatten ([(tX5 p0k), (tX1 p1k), (tX9 p1_2k)] : List (List (ClassId × FieldType)))) s → va_S A s.heap H locs → lv_has ls 5 [] → W p l e ({ frames := 2, cells := 0, slots := 0, locals := 45 } : Room) s m ([.ref (p0a 0), .ref (p1a 0), .int p2, .int p3, .int p4] : List Value).toArray below meth c H locs 0 0 Q (F0 m 82 ls []) := by
      intro  H locs ls hrun hP hD hK hS hl 
      unfold fX5_isLeftAlone_J82 at hrun
      refine lv_iconst (v := 1) hx hb dX5_isLeftAlone_82 (by decide) ?_
      refine lv_goto (tgt := 87) hx hb dX5_isLeftAlone_83 (by decide) ?_
      exact J87 1 _ _ _ hrun hP hD hK hS (lv_sub hl [] rfl)
    rcases br9 hrun with ⟨hc15, hrun⟩ | ⟨hc15, hrun⟩
    · refine lv_if_ne (tgt := 82) hx hb dX5_isLeftAlone_73 (by decide) (fun c => absurd hc15 c) (fun _ => ?_)
      refine lv_iload_n hx hb dX5_isLeftAlone_76 rfl (lv_at hl 3 rfl) ?_
      refine lv_iload hx hb dX5_isLeftAlone_77 (lv_at hl 4 rfl) ?_
      rcases br9 hrun with ⟨hc16, hrun⟩ | ⟨hc16, hrun⟩
      · refine lv_icmp_ne (tgt := 86) hx hb dX5_isLeftAlone_79 (by decide) (fun c => absurd hc16 c) (fun _ => ?_)
        exact J82 _ _ _ hrun hP hD hK hS (lv_sub hl [] rfl)
      · refine lv_icmp_ne (tgt := 86) hx hb dX5_isLeftAlone_79 (by decide) (fun _ => ?_) (fun c => absurd c hc16)
        refine lv_iconst (v := 0) hx hb dX5_isLeftAlone_86 (by decide) ?_
        exact J87 0 _ _ _ hrun hP hD hK hS (lv_sub hl [] rfl)
    · refine lv_if_ne (tgt := 82) hx hb dX5_isLeftAlone_73 (by decide) (fun _ => ?_) (fun c => absurd c hc15)
      exact J82 _ _ _ hrun hP hD hK hS (lv_sub hl [] rfl)
  rcases br9 hrun with ⟨hc17, hrun⟩ | ⟨hc17, hrun⟩
  · refine lv_tableIn (off := 55) (tgt := 56) hx hb dX5_isLeftAlone_1 (by rw [hc17]; decide) (by rw [hc17]; decide) (by rw [hc17]; rfl) (by decide) ?_
    exact J56 _ _ _ hrun hP hD hK hS (lv_sub hl [0, 1, 4] rfl)
  rcases br9 hrun with ⟨hc18, hrun⟩ | ⟨hc18, hrun⟩
  · refine lv_tableIn (off := 55) (tgt := 56) hx hb dX5_isLeftAlone_1 (by rw [hc18]; decide) (by rw [hc18]; decide) (by rw [hc18]; rfl) (by decide) ?_
    exact J56 _ _ _ hrun hP hD hK hS (lv_sub hl [0, 1, 4] rfl)
  rcases br9 hrun with ⟨hc19, hrun⟩ | ⟨hc19, hrun⟩
  · refine lv_tableIn (off := 55) (tgt := 56) hx hb dX5_isLeftAlone_1 (by rw [hc19]; decide) (by rw [hc19]; decide) (by rw [hc19]; rfl) (by decide) ?_
    exact J56 _ _ _ hrun hP hD hK hS (lv_sub hl [0, 1, 4] rfl)
  refine lv_tableOut (tgt := 109) hx hb dX5_isLeftAlone_1 (by have g0 := lv_neT hc5 (show Int32.toInt 1 = 1 by decide); have g1 := lv_neT hc6 (show Int32.toInt 2 = 2 by decide); have g2 := lv_neT hc7 (show Int32.toInt 3 = 3 by decide); have g3 := lv_neT hc8 (show Int32.toInt 4 = 4 by decide); have g4 := lv_neT hc9 (show Int32.toInt 5 = 5 by decide); have g5 := lv_neT hc10 (show Int32.toInt 6 = 6 by decide); have g6 := lv_neT hc12 (show Int32.toInt 7 = 7 by decide); have g7 := lv_neT hc17 (show Int32.toInt 8 = 8 by decide); have g8 := lv_neT hc18 (show Int32.toInt 9 = 9 by decide); have g9 := lv_neT hc19 (show Int32.toInt 10 = 10 by decide); omega) (by decide) ?_
  exact J109 _ _ _ hrun hP hD hK hS (lv_sub hl [] rfl)
def fX5_isRightAlone_J17 (p0w : ST) (p3 : Int32) (p1_2n : Nat → Nat) (p1_2w : ST) : Option Int32 := ((fX5_isNumber_ p0w p3 0 p1_2n p1_2w).bind fun (o_1 : Int32) => (if o_1 = 0 ∨ o_1 = 1 then some o_1 else none))
def fX5_isRightAlone_J45 (y0_45 : Int32) : Option Int32 := (if y0_45 = 0 ∨ y0_45 = 1 then some y0_45 else none)
def fX5_isRightAlone_J44  : Option Int32 := (fX5_isRightAlone_J45 0)
def fX5_isRightAlone (p0w : ST) (p2 : Int32) (p3 : Int32) (p1_2n : Nat → Nat) (p1_2w : ST) : Option Int32 := (if p2 = 1 then (fX5_isRightAlone_J17 p0w p3 p1_2n p1_2w) else (if p2 = 7 then (fX5_isRightAlone_J17 p0w p3 p1_2n p1_2w) else (if p2 = 8 then (fX5_isRightAlone_J17 p0w p3 p1_2n p1_2w) else (if p2 = 3 then ((fX5_isNumber_ p0w p3 1 p1_2n p1_2w).bind fun (o_7 : Int32) => (if o_7 = 0 then (fX5_isRightAlone_J44) else (fX5_isRightAlone_J45 1))) else (fX5_isRightAlone_J44)))))
set_option maxHeartbeats 16000000 in
set_option maxRecDepth 100000 in
theorem kX5_isRightAlone {zs : ZS} (l : Launch) (dC : Nat → ClassId) (dI : Nat → Nat → Nat) (p0a : Nat → Nat) (p0k : Nat → ClassId) (p0w : ST) (p0l : SL) (p1a : Nat → Nat) (p1k : Nat → ClassId) (p1n : Nat → Nat) (p1w : ST) (p1l : SL) (p2 : Int32) (p3 : Int32) (p4 : Int32) (p1_2a : Nat → Nat) (p1_2k : Nat → ClassId) (p1_2n : Nat → Nat) (p1_2w : ST) (sz : Nat) (o : Int32) (hrun : fX5_isRightAlone p0w p2 p3 p1_2n p1_2w = some o) : Met l yX5_isRightAlone (wz yX5_isRightAlone cX5_isRightAlone 5 (Option.some Jvm.ClassFile.FieldType.boolean)) ({ frames := 2, cells := 0, slots := 0, locals := 45 } : Room) (va_Pc [.ref (p0a 0), .ref (p1a 0), .int p2, .int p3, .int p4] (PRE zs dC dI (List.flatten ([(oX5 (p0a 0) p0a p0k p0w p0l), (oX1 (p1a 0) p1a p1k p1n p1w p1l), (oX9 (p1a 3) p1_2a p1_2k p1_2n p1_2w)] : List va_W)) (List.flatten ([(tX5 p0k), (tX1 p1k), (tX9 p1_2k)] : List (List (ClassId × FieldType)))) sz)) (va_Qi (fun (r : Int32) (_ : Unit) => r = o) (fun _ t => POST dC dI (List.flatten ([(oX5 (p0a 0) p0a p0k p0w p0l), (oX1 (p1a 0) p1a p1k p1n p1w p1l), (oX9 (p1a 3) p1_2a p1_2k p1_2n p1_2w)] : List va_W)) (List.flatten ([(tX5 p0k), (tX1 p1k), (tX9 p1_2k)] : List (List (ClassId × FieldType)))) (va_A (List.flatten ([(oX5 (p0a 0) p0a p0k p0w p0l), (oX1 (p1a 0) p1a p1k p1n p1w p1l), (oX9 (p1a 3) p1_2a p1_2k p1_2n p1_2w)] : List va_W)) sz) t) (va_A (List.flatten ([(oX5 (p0a 0) p0a p0k p0w p0l), (oX1 (p1a 0) p1a p1k p1n p1w p1l), (oX9 (p1a 3) p1_2a p1_2k p1_2n p1_2w)] : List va_W)) sz)) 0 0 (va_A (List.flatten ([(oX5 (p0a 0) p0a p0k p0w p0l), (oX1 (p1a 0) p1a p1k p1n p1w p1l), (oX9 (p1a 3) p1_2a p1_2k p1_2n p1_2w)] : List va_W)) sz) := by
  refine Met.ofW (cc := cX5_isRightAlone) (maxL := 5) (ret := (Option.some Jvm.ClassFile.FieldType.boolean)) (by decide) rfl ?_
  intro p e s m args below meth c s₁ B hml hv
  obtain ⟨rfl, hsz, hP, hK, hD0, hE⟩ := hv
  have hx := B.exec
  have hb := B.bytes
  have hr := B.returns
  have hts0 := atoms_spec (ws := wz yX5_isRightAlone cX5_isRightAlone 5 (Option.some Jvm.ClassFile.FieldType.boolean)) B.pre
  have hts : ∀ w ∈ gw, w.before _ s = true := fun w h => hts0 w (List.mem_cons_of_mem _ h)
  have hown : s.vm.findClass RX5 = some m.cls := findClass_of_methodNamed B.named
  have hlocks := B.notSynchronized
  subst hsz
  have hD := hD0.self (sz := s.heap.size)
  refine gQ9 ?_
  intro Q hQ
  generalize hAe : va_A (List.flatten ([(oX5 (p0a 0) p0a p0k p0w p0l), (oX1 (p1a 0) p1a p1k p1n p1w p1l), (oX9 (p1a 3) p1_2a p1_2k p1_2n p1_2w)] : List va_W)) s.heap.size = A at hD hE hQ
  have hA : ∀ q : Nat, s.heap.size ≤ q → A q := fun q h => by rw [← hAe]; exact Or.inr h
  have hS : va_S A s.heap s.heap [] := va_S.rf
  have hP : va_P (dC, dI) cls (List.flatten ([(oX5 (p0a 0) p0a p0k p0w p0l), (oX1 (p1a 0) p1a p1k p1n p1w p1l), (oX9 (p1a 3) p1_2a p1_2k p1_2n p1_2w)] : List va_W)) s.heap := hP
  have hl := lv_entry ([.ref (p0a 0), .ref (p1a 0), .int p2, .int p3, .int p4]) (n := 5) (Nat.le_of_ble_eq_true rfl)
  rw [lg_entry_eq]
  generalize (lg_sl ([.ref (p0a 0), .ref (p1a 0), .int p2, .int p3, .int p4]) ++ List.replicate (5 - (lg_sl ([.ref (p0a 0), .ref (p1a 0), .int p2, .int p3, .int p4])).length) Slot.unset).toArray = ls at hl ⊢
  have hl : lv_has ls 5 [(0, .ref (p0a 0)), (1, .ref (p1a 0)), (2, .int p2), (3, .int p3), (4, .int p4)] := hl
  obtain ⟨H, hHe⟩ : ∃ H, H = s.heap := ⟨_, rfl⟩
  obtain ⟨locs, hle⟩ : ∃ locs : List Loc, locs = [] := ⟨_, rfl⟩
  rw [← hHe] at hP
  have hS : va_S A s.heap H locs := by rw [hHe, hle]; exact hS
  show W p l e ({ frames := 2, cells := 0, slots := 0, locals := 45 } : Room) s m ([.ref (p0a 0), .ref (p1a 0), .int p2, .int p3, .int p4] : List Value).toArray below meth c s.heap [] 0 0 Q (F0 m 0 ls [])
  rw [← hle]
  refine wH9 hHe ?_
  unfold fX5_isRightAlone at hrun
  refine lv_iload_n hx hb dX5_isRightAlone_0 rfl (lv_at hl 2 rfl) ?_
  refine lv_iconst (v := 1) hx hb dX5_isRightAlone_1 (by decide) ?_
  have J17 : ∀ (H : Heap) (locs : List Loc) (ls : Array Slot), (fX5_isRightAlone_J17 p0w p3 p1_2n p1_2w) = some o → va_P (dC, dI) cls (List.flatten ([(oX5 (p0a 0) p0a p0k p0w p0l), (oX1 (p1a 0) p1a p1k p1n p1w p1l), (oX9 (p1a 3) p1_2a p1_2k p1_2n p1_2w)] : List va_W)) H → va_D A (List.flatten ([(oX5 (p0a 0) p0a p0k p0w p0l), (oX1 (p1a 0) p1a p1k p1n p1w p1l), (oX9 (p1a 3) p1_2a p1_2k p1_2n p1_2w)] : List va_W)) → va_K (dC, dI) cls (List.flatten ([(tX5 p0k), (tX1 p1k), (tX9 p1_2k)] : List (List (ClassId × FieldType)))) s → va_S A s.heap H locs → lv_has ls 5 [(0, .ref (p0a 0)), (1, .ref (p1a 0)), (3, .int p3)] → W p l e ({ frames := 2, cells := 0, slots := 0, locals := 45 } : Room) s m ([.ref (p0a 0), .ref (p1a 0), .int p2, .int p3, .int p4] : List Value).toArray below meth c H locs 0 0 Q (F0 m 17 ls []) := by
    intro  H locs ls hrun hP hD hK hS hl 
    unfold fX5_isRightAlone_J17 at hrun
    refine lv_aload_n hx hb dX5_isRightAlone_17 rfl (lv_at hl 0 rfl) ?_
    refine lv_aload_n hx hb dX5_isRightAlone_18 rfl (lv_at hl 1 rfl) ?_
    refine lv_iload_n hx hb dX5_isRightAlone_19 rfl (lv_at hl 2 rfl) ?_
    refine lv_iconst (v := 0) hx hb dX5_isRightAlone_20 (by decide) ?_
    obtain ⟨o_1, hc_1, hrun⟩ := bnd9 hrun
    have hPx : va_P (dC, dI) cls ((List.flatten ([(oX5 (p0a 0) p0a p0k p0w p0l), (oX1 (p1a 0) p1a p1k p1n p1w p1l), (oX9 (p1a 3) p1_2a p1_2k p1_2n p1_2w)] : List va_W)) ++ (List.flatten ([] : List va_W))) H := vP_fa (vP_perm hP (bP (List.Perm.refl _)))
    have hDx : va_D A ((List.flatten ([(oX5 (p0a 0) p0a p0k p0w p0l), (oX1 (p1a 0) p1a p1k p1n p1w p1l), (oX9 (p1a 3) p1_2a p1_2k p1_2n p1_2w)] : List va_W)) ++ (List.flatten ([] : List va_W))) := vD_fa (vD_perm hD (bP (List.Perm.refl _)))
    have hKx : va_K (dC, dI) cls ((List.flatten ([(tX5 p0k), (tX1 p1k), (tX9 p1_2k)] : List (List (ClassId × FieldType)))) ++ (List.flatten ([] : List (List (ClassId × FieldType))))) s := vK_fa (vK_perm hK (bP (List.Perm.refl _)))
    have hPc := vP_l hPx
    have hDc := vD_l hDx
    have hKc := vK_l hKx
    have hFc := vfree hDx hS hA
    refine va_calli (va_runV (As := [.ref (p1a 0), .int p3, .int 0]) (rest := []) ⟨hx, hb, hml, hown, hts⟩ (kX5_isNumber_ l dC dI (p0a := p0a) (p0k := p0k) (p0w := p0w) (p0l := p0l) (p1a := p1a) (p1k := p1k) (p1n := p1n) (p1w := p1w) (p1l := p1l) (p2 := p3) (p3 := 0) (p1_2a := p1_2a) (p1_2k := p1_2k) (p1_2n := p1_2n) (p1_2w := p1_2w) (sz := _) (o := o_1) (hrun := hc_1)) (cwV 3 hts (gi_V qw536 qw537 qw538 qw442 (gi_z qw535)) rfl rfl rfl (by decide +kernel) ⟨Nat.le_of_ble_eq_true rfl, Nat.le_of_ble_eq_true rfl⟩) ⟨PRE.blind, va_recv hKc hPc (ci := 7) (q0 := 0) rfl rfl, PRE.of hE hS hFc hPc hKc hDc⟩ rfl rfl hl.1 rfl (lv_room (Nat.le_of_ble_eq_true rfl)) dX5_isRightAlone_21 ⟨(Nat.le_of_ble_eq_true rfl), (Nat.le_of_ble_eq_true rfl)⟩) hS (fun q _ h => hFc q h) hFc (fun r2 u t H locs ht hvm hw hB hz1 hk1 hS => ?_)
    obtain ⟨b1, b2, b3⟩ := hB
    rw [ht] at b1
    obtain ⟨hP, hD, hK⟩ := JOINC (wc := (List.flatten ([(oX5 (p0a 0) p0a p0k p0w p0l), (oX1 (p1a 0) p1a p1k p1n p1w p1l), (oX9 (p1a 3) p1_2a p1_2k p1_2n p1_2w)] : List va_W))) (wr := (List.flatten ([] : List va_W))) (w1 := (List.flatten ([(oX5 (p0a 0) p0a p0k p0w p0l), (oX1 (p1a 0) p1a p1k p1n p1w p1l), (oX9 (p1a 3) p1_2a p1_2k p1_2n p1_2w)] : List va_W))) (t1 := (List.flatten ([(tX5 p0k), (tX1 p1k), (tX9 p1_2k)] : List (List (ClassId × FieldType))))) hPx hDx hKx hk1 hFc b1 (va_K.moved hvm.symm b2) b3
    have hP : va_P (dC, dI) cls (List.flatten ([(oX5 (p0a 0) p0a p0k p0w p0l), (oX1 (p1a 0) p1a p1k p1n p1w p1l), (oX9 (p1a 3) p1_2a p1_2k p1_2n p1_2w)] : List va_W)) H := vP_perm (vP_fb hP) (bP (List.Perm.refl _))
    have hD : va_D A (List.flatten ([(oX5 (p0a 0) p0a p0k p0w p0l), (oX1 (p1a 0) p1a p1k p1n p1w p1l), (oX9 (p1a 3) p1_2a p1_2k p1_2n p1_2w)] : List va_W)) := vD_perm (vD_fb hD) (bP (List.Perm.refl _))
    have hK : va_K (dC, dI) cls (List.flatten ([(tX5 p0k), (tX1 p1k), (tX9 p1_2k)] : List (List (ClassId × FieldType)))) s := vK_perm (vK_fb hK) (bP (List.Perm.refl _))
    obtain rfl : o_1 = r2 := hw.symm
    obtain ⟨hz9, hrun⟩ := chk9 hrun
    have ho9 : o_1 = o := Option.some.inj hrun
    have hP9 : va_P (dC, dI) cls (List.flatten ([(oX5 (p0a 0) p0a p0k p0w p0l), (oX1 (p1a 0) p1a p1k p1n p1w p1l), (oX9 (p1a 3) p1_2a p1_2k p1_2n p1_2w)] : List va_W)) H := by first | exact hP | (rw [← ho9]; exact hP)
    have hD9 : va_D A (List.flatten ([(oX5 (p0a 0) p0a p0k p0w p0l), (oX1 (p1a 0) p1a p1k p1n p1w p1l), (oX9 (p1a 3) p1_2a p1_2k p1_2n p1_2w)] : List va_W)) := by first | exact hD | (rw [← ho9]; exact hD)
    subst hQ
    exact W.zret (v := o_1) hx hb hr (bz9 hz9) (fun t ht hW => ⟨⟨o_1, (), rfl, (by rw [← ho9]), ⟨by rw [ht]; exact hP9, va_K.moved hW.alike hK, hD9⟩⟩, hS.F ht⟩) hS.2.2 dX5_isRightAlone_24
  rcases br9 hrun with ⟨hc3, hrun⟩ | ⟨hc3, hrun⟩
  · refine lv_icmp_eq (tgt := 17) hx hb dX5_isRightAlone_2 (by decide) (fun _ => ?_) (fun c => absurd hc3 c)
    exact J17 _ _ _ hrun hP hD hK hS (lv_sub hl [0, 1, 3] rfl)
  · refine lv_icmp_eq (tgt := 17) hx hb dX5_isRightAlone_2 (by decide) (fun c => absurd c hc3) (fun _ => ?_)
    refine lv_iload_n hx hb dX5_isRightAlone_5 rfl (lv_at hl 2 rfl) ?_
    refine lv_bipush (v := 7) hx hb dX5_isRightAlone_6 (by decide) ?_
    rcases br9 hrun with ⟨hc4, hrun⟩ | ⟨hc4, hrun⟩
    · refine lv_icmp_eq (tgt := 17) hx hb dX5_isRightAlone_8 (by decide) (fun _ => ?_) (fun c => absurd hc4 c)
      exact J17 _ _ _ hrun hP hD hK hS (lv_sub hl [0, 1, 3] rfl)
    · refine lv_icmp_eq (tgt := 17) hx hb dX5_isRightAlone_8 (by decide) (fun c => absurd c hc4) (fun _ => ?_)
      refine lv_iload_n hx hb dX5_isRightAlone_11 rfl (lv_at hl 2 rfl) ?_
      refine lv_bipush (v := 8) hx hb dX5_isRightAlone_12 (by decide) ?_
      rcases br9 hrun with ⟨hc5, hrun⟩ | ⟨hc5, hrun⟩
      · refine lv_icmp_ne (tgt := 25) hx hb dX5_isRightAlone_14 (by decide) (fun c => absurd hc5 c) (fun _ => ?_)
        exact J17 _ _ _ hrun hP hD hK hS (lv_sub hl [0, 1, 3] rfl)
      · refine lv_icmp_ne (tgt := 25) hx hb dX5_isRightAlone_14 (by decide) (fun _ => ?_) (fun c => absurd c hc5)
        refine lv_iload_n hx hb dX5_isRightAlone_25 rfl (lv_at hl 2 rfl) ?_
        refine lv_iconst (v := 3) hx hb dX5_isRightAlone_26 (by decide) ?_
        have J45 : ∀ (y0_45 : Int32) (H : Heap) (locs : List Loc) (ls : Array Slot), (fX5_isRightAlone_J45 y0_45) = some o → va_P (dC, dI) cls (List.flatten ([(oX5 (p0a 0) p0a p0k p0w p0l), (oX1 (p1a 0) p1a p1k p1n p1w p1l), (oX9 (p1a 3) p1_2a p1_2k p1_2n p1_2w)] : List va_W)) H → va_D A (List.flatten ([(oX5 (p0a 0) p0a p0k p0w p0l), (oX1 (p1a 0) p1a p1k p1n p1w p1l), (oX9 (p1a 3) p1_2a p1_2k p1_2n p1_2w)] : List va_W)) → va_K (dC, dI) cls (List.flatten ([(tX5 p0k), (tX1 p1k), (tX9 p1_2k)] : List (List (ClassId × FieldType)))) s → va_S A s.heap H locs → lv_has ls 5 [] → W p l e ({ frames := 2, cells := 0, slots := 0, locals := 45 } : Room) s m ([.ref (p0a 0), .ref (p1a 0), .int p2, .int p3, .int p4] : List Value).toArray below meth c H locs 0 0 Q (F0 m 45 ls [.int y0_45]) := by
          intro y0_45 H locs ls hrun hP hD hK hS hl 
          unfold fX5_isRightAlone_J45 at hrun
          obtain ⟨hz9, hrun⟩ := chk9 hrun
          have ho9 : y0_45 = o := Option.some.inj hrun
          have hP9 : va_P (dC, dI) cls (List.flatten ([(oX5 (p0a 0) p0a p0k p0w p0l), (oX1 (p1a 0) p1a p1k p1n p1w p1l), (oX9 (p1a 3) p1_2a p1_2k p1_2n p1_2w)] : List va_W)) H := by first | exact hP | (rw [← ho9]; exact hP)
          have hD9 : va_D A (List.flatten ([(oX5 (p0a 0) p0a p0k p0w p0l), (oX1 (p1a 0) p1a p1k p1n p1w p1l), (oX9 (p1a 3) p1_2a p1_2k p1_2n p1_2w)] : List va_W)) := by first | exact hD | (rw [← ho9]; exact hD)
          subst hQ
          exact W.zret (v := y0_45) hx hb hr (bz9 hz9) (fun t ht hW => ⟨⟨y0_45, (), rfl, (by rw [← ho9]), ⟨by rw [ht]; exact hP9, va_K.moved hW.alike hK, hD9⟩⟩, hS.F ht⟩) hS.2.2 dX5_isRightAlone_45
        have J44 : ∀ (H : Heap) (locs : List Loc) (ls : Array Slot), (fX5_isRightAlone_J44) = some o → va_P (dC, dI) cls (List.flatten ([(oX5 (p0a 0) p0a p0k p0w p0l), (oX1 (p1a 0) p1a p1k p1n p1w p1l), (oX9 (p1a 3) p1_2a p1_2k p1_2n p1_2w)] : List va_W)) H → va_D A (List.flatten ([(oX5 (p0a 0) p0a p0k p0w p0l), (oX1 (p1a 0) p1a p1k p1n p1w p1l), (oX9 (p1a 3) p1_2a p1_2k p1_2n p1_2w)] : List va_W)) → va_K (dC, dI) cls (List.flatten ([(tX5 p0k), (tX1 p1k), (tX9 p1_2k)] : List (List (ClassId × FieldType)))) s → va_S A s.heap H locs → lv_has ls 5 [] → W p l e ({ frames := 2, cells := 0, slots := 0, locals := 45 } : Room) s m ([.ref (p0a 0), .ref (p1a 0), .int p2, .int p3, .int p4] : List Value).toArray below meth c H locs 0 0 Q (F0 m 44 ls []) := by
          intro  H locs ls hrun hP hD hK hS hl 
          unfold fX5_isRightAlone_J44 at hrun
          refine lv_iconst (v := 0) hx hb dX5_isRightAlone_44 (by decide) ?_
          exact J45 0 _ _ _ hrun hP hD hK hS (lv_sub hl [] rfl)
        rcases br9 hrun with ⟨hc6, hrun⟩ | ⟨hc6, hrun⟩
        · refine lv_icmp_ne (tgt := 44) hx hb dX5_isRightAlone_27 (by decide) (fun c => absurd hc6 c) (fun _ => ?_)
          refine lv_aload_n hx hb dX5_isRightAlone_30 rfl (lv_at hl 0 rfl) ?_
          refine lv_aload_n hx hb dX5_isRightAlone_31 rfl (lv_at hl 1 rfl) ?_
          refine lv_iload_n hx hb dX5_isRightAlone_32 rfl (lv_at hl 3 rfl) ?_
          refine lv_iconst (v := 1) hx hb dX5_isRightAlone_33 (by decide) ?_
          obtain ⟨o_7, hc_7, hrun⟩ := bnd9 hrun
          have hPx : va_P (dC, dI) cls ((List.flatten ([(oX5 (p0a 0) p0a p0k p0w p0l), (oX1 (p1a 0) p1a p1k p1n p1w p1l), (oX9 (p1a 3) p1_2a p1_2k p1_2n p1_2w)] : List va_W)) ++ (List.flatten ([] : List va_W))) H := vP_fa (vP_perm hP (bP (List.Perm.refl _)))
          have hDx : va_D A ((List.flatten ([(oX5 (p0a 0) p0a p0k p0w p0l), (oX1 (p1a 0) p1a p1k p1n p1w p1l), (oX9 (p1a 3) p1_2a p1_2k p1_2n p1_2w)] : List va_W)) ++ (List.flatten ([] : List va_W))) := vD_fa (vD_perm hD (bP (List.Perm.refl _)))
          have hKx : va_K (dC, dI) cls ((List.flatten ([(tX5 p0k), (tX1 p1k), (tX9 p1_2k)] : List (List (ClassId × FieldType)))) ++ (List.flatten ([] : List (List (ClassId × FieldType))))) s := vK_fa (vK_perm hK (bP (List.Perm.refl _)))
          have hPc := vP_l hPx
          have hDc := vD_l hDx
          have hKc := vK_l hKx
          have hFc := vfree hDx hS hA
          refine va_calli (va_runV (As := [.ref (p1a 0), .int p3, .int 1]) (rest := []) ⟨hx, hb, hml, hown, hts⟩ (kX5_isNumber_ l dC dI (p0a := p0a) (p0k := p0k) (p0w := p0w) (p0l := p0l) (p1a := p1a) (p1k := p1k) (p1n := p1n) (p1w := p1w) (p1l := p1l) (p2 := p3) (p3 := 1) (p1_2a := p1_2a) (p1_2k := p1_2k) (p1_2n := p1_2n) (p1_2w := p1_2w) (sz := _) (o := o_7) (hrun := hc_7)) (cwV 3 hts (gi_V qw536 qw537 qw538 qw442 (gi_z qw535)) rfl rfl rfl (by decide +kernel) ⟨Nat.le_of_ble_eq_true rfl, Nat.le_of_ble_eq_true rfl⟩) ⟨PRE.blind, va_recv hKc hPc (ci := 7) (q0 := 0) rfl rfl, PRE.of hE hS hFc hPc hKc hDc⟩ rfl rfl hl.1 rfl (lv_room (Nat.le_of_ble_eq_true rfl)) dX5_isRightAlone_34 ⟨(Nat.le_of_ble_eq_true rfl), (Nat.le_of_ble_eq_true rfl)⟩) hS (fun q _ h => hFc q h) hFc (fun r8 u t H locs ht hvm hw hB hz1 hk1 hS => ?_)
          obtain ⟨b1, b2, b3⟩ := hB
          rw [ht] at b1
          obtain ⟨hP, hD, hK⟩ := JOINC (wc := (List.flatten ([(oX5 (p0a 0) p0a p0k p0w p0l), (oX1 (p1a 0) p1a p1k p1n p1w p1l), (oX9 (p1a 3) p1_2a p1_2k p1_2n p1_2w)] : List va_W))) (wr := (List.flatten ([] : List va_W))) (w1 := (List.flatten ([(oX5 (p0a 0) p0a p0k p0w p0l), (oX1 (p1a 0) p1a p1k p1n p1w p1l), (oX9 (p1a 3) p1_2a p1_2k p1_2n p1_2w)] : List va_W))) (t1 := (List.flatten ([(tX5 p0k), (tX1 p1k), (tX9 p1_2k)] : List (List (ClassId × FieldType))))) hPx hDx hKx hk1 hFc b1 (va_K.moved hvm.symm b2) b3
          have hP : va_P (dC, dI) cls (List.flatten ([(oX5 (p0a 0) p0a p0k p0w p0l), (oX1 (p1a 0) p1a p1k p1n p1w p1l), (oX9 (p1a 3) p1_2a p1_2k p1_2n p1_2w)] : List va_W)) H := vP_perm (vP_fb hP) (bP (List.Perm.refl _))
          have hD : va_D A (List.flatten ([(oX5 (p0a 0) p0a p0k p0w p0l), (oX1 (p1a 0) p1a p1k p1n p1w p1l), (oX9 (p1a 3) p1_2a p1_2k p1_2n p1_2w)] : List va_W)) := vD_perm (vD_fb hD) (bP (List.Perm.refl _))
          have hK : va_K (dC, dI) cls (List.flatten ([(tX5 p0k), (tX1 p1k), (tX9 p1_2k)] : List (List (ClassId × FieldType)))) s := vK_perm (vK_fb hK) (bP (List.Perm.refl _))
          obtain rfl : o_7 = r8 := hw.symm
          rcases br9 hrun with ⟨hc9, hrun⟩ | ⟨hc9, hrun⟩
          · refine lv_if_eq (tgt := 44) hx hb dX5_isRightAlone_37 (by decide) (fun _ => ?_) (fun c => absurd hc9 c)
            exact J44 _ _ _ hrun hP hD hK hS (lv_sub hl [] rfl)
          · refine lv_if_eq (tgt := 44) hx hb dX5_isRightAlone_37 (by decide) (fun c => absurd c hc9) (fun _ => ?_)
            refine lv_iconst (v := 1) hx hb dX5_isRightAlone_40 (by decide) ?_
            refine lv_goto (tgt := 45) hx hb dX5_isRightAlone_41 (by decide) ?_
            exact J45 1 _ _ _ hrun hP hD hK hS (lv_sub hl [] rfl)
        · refine lv_icmp_ne (tgt := 44) hx hb dX5_isRightAlone_27 (by decide) (fun _ => ?_) (fun c => absurd c hc6)
          exact J44 _ _ _ hrun hP hD hK hS (lv_sub hl [] rfl)
def fX5_standInOf_L4 (p0w : ST) : Nat → Int32 → Int32 → Option Int32
  | 0 => fun _ _ => none
  | n_4 + 1 => fun v2_4 v3_4 => (if 250 ≤ v3_4 then some v2_4 else (if ixb v2_4 250 = true then (if (p0w 6 (nn v2_4)) < 0 then some v2_4 else (if ixb v2_4 250 = true then ((fX5_standInOf_L4 p0w n_4) (p0w 6 (nn v2_4)) (v3_4 + 1)) else none)) else none))
def fX5_standInOf (p0w : ST) (p1 : Int32) : Option Int32 := ((fX5_standInOf_L4 p0w NF p1 0).bind fun (o4 : Int32) => some o4)
set_option maxHeartbeats 16000000 in
set_option maxRecDepth 100000 in
theorem kX5_standInOf {zs : ZS} (l : Launch) (dC : Nat → ClassId) (dI : Nat → Nat → Nat) (p0a : Nat → Nat) (p0k : Nat → ClassId) (p0w : ST) (p0l : SL) (p1 : Int32) (sz : Nat) (o : Int32) (hrun : fX5_standInOf p0w p1 = some o) : Met l yX5_standInOf (wz yX5_standInOf cX5_standInOf 4 (Option.some Jvm.ClassFile.FieldType.int)) ({ frames := 0, cells := 0, slots := 0, locals := 0 } : Room) (va_Pc [.ref (p0a 0), .int p1] (PRE zs dC dI (List.flatten ([(oX5 (p0a 0) p0a p0k p0w p0l)] : List va_W)) (List.flatten ([(tX5 p0k)] : List (List (ClassId × FieldType)))) sz)) (va_Qi (fun (r : Int32) (_ : Unit) => r = o) (fun _ t => POST dC dI (List.flatten ([(oX5 (p0a 0) p0a p0k p0w p0l)] : List va_W)) (List.flatten ([(tX5 p0k)] : List (List (ClassId × FieldType)))) (va_A (List.flatten ([(oX5 (p0a 0) p0a p0k p0w p0l)] : List va_W)) sz) t) (va_A (List.flatten ([(oX5 (p0a 0) p0a p0k p0w p0l)] : List va_W)) sz)) 0 0 (va_A (List.flatten ([(oX5 (p0a 0) p0a p0k p0w p0l)] : List va_W)) sz) := by
  refine Met.ofW (cc := cX5_standInOf) (maxL := 4) (ret := (Option.some Jvm.ClassFile.FieldType.int)) (by decide) rfl ?_
  intro p e s m args below meth c s₁ B hml hv
  obtain ⟨rfl, hsz, hP, hK, hD0, hE⟩ := hv
  have hx := B.exec
  have hb := B.bytes
  have hr := B.returns
  have hts0 := atoms_spec (ws := wz yX5_standInOf cX5_standInOf 4 (Option.some Jvm.ClassFile.FieldType.int)) B.pre
  have hts : ∀ w ∈ gw, w.before _ s = true := fun w h => hts0 w (List.mem_cons_of_mem _ h)
  have hown : s.vm.findClass RX5 = some m.cls := findClass_of_methodNamed B.named
  have hlocks := B.notSynchronized
  subst hsz
  have hD := hD0.self (sz := s.heap.size)
  refine gQ9 ?_
  intro Q hQ
  generalize hAe : va_A (List.flatten ([(oX5 (p0a 0) p0a p0k p0w p0l)] : List va_W)) s.heap.size = A at hD hE hQ
  have hA : ∀ q : Nat, s.heap.size ≤ q → A q := fun q h => by rw [← hAe]; exact Or.inr h
  have hS : va_S A s.heap s.heap [] := va_S.rf
  have hP : va_P (dC, dI) cls (List.flatten ([(oX5 (p0a 0) p0a p0k p0w p0l)] : List va_W)) s.heap := hP
  have hl := lv_entry ([.ref (p0a 0), .int p1]) (n := 4) (Nat.le_of_ble_eq_true rfl)
  rw [lg_entry_eq]
  generalize (lg_sl ([.ref (p0a 0), .int p1]) ++ List.replicate (4 - (lg_sl ([.ref (p0a 0), .int p1])).length) Slot.unset).toArray = ls at hl ⊢
  have hl : lv_has ls 4 [(0, .ref (p0a 0)), (1, .int p1)] := hl
  obtain ⟨H, hHe⟩ : ∃ H, H = s.heap := ⟨_, rfl⟩
  obtain ⟨locs, hle⟩ : ∃ locs : List Loc, locs = [] := ⟨_, rfl⟩
  rw [← hHe] at hP
  have hS : va_S A s.heap H locs := by rw [hHe, hle]; exact hS
  show W p l e ({ frames := 0, cells := 0, slots := 0, locals := 0 } : Room) s m ([.ref (p0a 0), .int p1] : List Value).toArray below meth c s.heap [] 0 0 Q (F0 m 0 ls [])
  rw [← hle]
  refine wH9 hHe ?_
  unfold fX5_standInOf at hrun
  refine lv_iload_n hx hb dX5_standInOf_0 rfl (lv_at hl 1 rfl) ?_
  refine lv_istore_n (lv' := [(2, .int p1), (0, .ref (p0a 0)), (1, .int p1)]) hx hb dX5_standInOf_1 rfl hl (by decide) rfl (fun ls hl => ?_)
  refine lv_iconst (v := 0) hx hb dX5_standInOf_2 (by decide) ?_
  refine lv_istore_n (lv' := [(3, .int 0), (2, .int p1), (0, .ref (p0a 0)), (1, .int p1)]) hx hb dX5_standInOf_3 rfl hl (by decide) rfl (fun ls hl => ?_)
  have L4 : ∀ (n_4 : Nat) (v2_4 : Int32) (v3_4 : Int32) (o4 : Int32) (H : Heap) (locs : List Loc) (ls : Array Slot), (fX5_standInOf_L4 p0w n_4) v2_4 v3_4 = some o4 → va_P (dC, dI) cls (List.flatten ([(oX5 (p0a 0) p0a p0k p0w p0l)] : List va_W)) H → va_D A (List.flatten ([(oX5 (p0a 0) p0a p0k p0w p0l)] : List va_W)) → va_K (dC, dI) cls (List.flatten ([(tX5 p0k)] : List (List (ClassId × FieldType)))) s → va_S A s.heap H locs → lv_has ls 4 [(0, .ref (p0a 0)), (2, .int v2_4), (3, .int v3_4)] → (∀ (H : Heap) (locs : List Loc) (ls : Array Slot), va_P (dC, dI) cls (List.flatten ([(oX5 (p0a 0) p0a p0k p0w p0l)] : List va_W)) H → va_D A (List.flatten ([(oX5 (p0a 0) p0a p0k p0w p0l)] : List va_W)) → va_K (dC, dI) cls (List.flatten ([(tX5 p0k)] : List (List (ClassId × FieldType)))) s → va_S A s.heap H locs → lv_has ls 4 [(2, .int o4)] → W p l e ({ frames := 0, cells := 0, slots := 0, locals := 0 } : Room) s m ([.ref (p0a 0), .int p1] : List Value).toArray below meth c H locs 0 0 Q (F0 m 33 ls [])) → W p l e ({ frames := 0, cells := 0, slots := 0, locals := 0 } : Room) s m ([.ref (p0a 0), .int p1] : List Value).toArray below meth c H locs 0 0 Q (F0 m 4 ls []) := by
    intro n_4
    induction n_4 with
    | zero => intro v2_4 v3_4 o4 H locs ls hrun; exact (no9 rfl hrun).elim
    | succ n_4 IH4 =>
      intro v2_4 v3_4 o4 H locs ls hrun hP hD hK hS hl hk4
      unfold fX5_standInOf_L4 at hrun
      refine lv_iload_n hx hb dX5_standInOf_4 rfl (lv_at hl 2 rfl) ?_
      refine lv_sipush (v := 250) hx hb dX5_standInOf_5 (by decide) ?_
      rcases br9 hrun with ⟨hc1, hrun⟩ | ⟨hc1, hrun⟩
      · refine lv_icmp_ge (tgt := 33) hx hb dX5_standInOf_8 (by decide) (fun _ => ?_) (fun c => absurd hc1 c)
        obtain rfl := (Option.some.inj hrun)
        exact hk4 _ _ _ hP hD hK hS (lv_sub hl [1] rfl)
      · refine lv_icmp_ge (tgt := 33) hx hb dX5_standInOf_8 (by decide) (fun c => absurd c hc1) (fun _ => ?_)
        refine lv_aload_n hx hb dX5_standInOf_11 rfl (lv_at hl 0 rfl) ?_
        refine va_get (D := (dC, dI)) (ci := 7) (v := .ref (p0a 6)) (C := RX5) (T := TX5) (N := 12) hx hb hts i_X5 hown hK hP 0 rfl rfl 5 (by decide) (hts _ qw539) (fun _ h9 => h9) rfl dX5_standInOf_12 ?_
        refine lv_iload_n hx hb dX5_standInOf_15 rfl (lv_at hl 1 rfl) ?_
        obtain ⟨hq2, hrun⟩ := chk9 hrun
        refine va_iald hx hb hK hP 5 4 rfl rfl (ixb_in hq2) dX5_standInOf_16 ?_
        rcases br9 hrun with ⟨hc3, hrun⟩ | ⟨hc3, hrun⟩
        · refine lv_if_lt (tgt := 33) hx hb dX5_standInOf_17 (by decide) (fun _ => ?_) (fun c => absurd hc3 c)
          obtain rfl := (Option.some.inj hrun)
          exact hk4 _ _ _ hP hD hK hS (lv_sub hl [1] rfl)
        · refine lv_if_lt (tgt := 33) hx hb dX5_standInOf_17 (by decide) (fun c => absurd c hc3) (fun _ => ?_)
          refine lv_aload_n hx hb dX5_standInOf_20 rfl (lv_at hl 0 rfl) ?_
          refine va_get (D := (dC, dI)) (ci := 7) (v := .ref (p0a 6)) (C := RX5) (T := TX5) (N := 12) hx hb hts i_X5 hown hK hP 0 rfl rfl 5 (by decide) (hts _ qw539) (fun _ h9 => h9) rfl dX5_standInOf_21 ?_
          refine lv_iload_n hx hb dX5_standInOf_24 rfl (lv_at hl 1 rfl) ?_
          obtain ⟨hq4, hrun⟩ := chk9 hrun
          refine va_iald hx hb hK hP 5 4 rfl rfl (ixb_in hq4) dX5_standInOf_25 ?_
          refine lv_istore_n (lv' := [(2, .int (p0w 6 (nn v2_4))), (0, .ref (p0a 0)), (3, .int v3_4)]) hx hb dX5_standInOf_26 rfl hl (by decide) rfl (fun ls hl => ?_)
          refine lv_iinc (v := (v3_4 + 1)) (lv' := [(3, .int (v3_4 + 1)), (2, .int (p0w 6 (nn v2_4))), (0, .ref (p0a 0))]) hx hb dX5_standInOf_27 hl (k := 2) rfl rfl (by decide) rfl (fun ls hl => ?_)
          refine lv_goto (tgt := 4) hx hb dX5_standInOf_30 (by decide) ?_
          exact IH4 (p0w 6 (nn v2_4)) (v3_4 + 1) o4 _ _ _ hrun hP hD hK hS (lv_sub hl [2, 1, 0] rfl) hk4
  obtain ⟨o4, hc4, hrun⟩ := bnd9 hrun
  refine L4 NF p1 0 o4 _ _ _ hc4 hP hD hK hS (lv_sub hl [2, 1, 0] rfl) ?_
  intro H locs ls hP hD hK hS hl
  have hl := hl
  refine lv_iload_n hx hb dX5_standInOf_33 rfl (lv_at hl 0 rfl) ?_
  have ho9 : o4 = o := Option.some.inj hrun
  have hP9 : va_P (dC, dI) cls (List.flatten ([(oX5 (p0a 0) p0a p0k p0w p0l)] : List va_W)) H := by first | exact hP | (rw [← ho9]; exact hP)
  have hD9 : va_D A (List.flatten ([(oX5 (p0a 0) p0a p0k p0w p0l)] : List va_W)) := by first | exact hD | (rw [← ho9]; exact hD)
  subst hQ
  exact W.iret (v := o4) hx hb hr (fun t ht hW => ⟨⟨o4, (), rfl, (by rw [← ho9]), ⟨by rw [ht]; exact hP9, va_K.moved hW.alike hK, hD9⟩⟩, hS.F ht⟩) hS.2.2 dX5_standInOf_34
def fX5_onlyTake_J63 (kk6 : Int32 → Int32 → Option (Sum Int32 Int32)) (v5_6 : Int32) (v4_63 : Int32) : Option (Sum Int32 Int32) := (kk6 v4_63 (v5_6 + 1))
def fX5_onlyTake_L6 (p0w : ST) (p1n : Nat → Nat) (p1w : ST) (p2 : Int32) (p3 : Int32) : Nat → Int32 → Int32 → Option (Sum Int32 Int32)
  | 0 => fun _ _ => none
  | n_6 + 1 => fun v4_6 v5_6 => ((fX1_waysTo p1w p2).bind fun (o_1 : Int32) => (if o_1 ≤ v5_6 then some (Sum.inr v4_6) else ((fX1_wayFrom p1w p2 v5_6).bind fun (o_4 : Int32) => ((fX1_take p1n p1w p3 o_4).bind fun (o_6 : Int32) => ((fX5_standInOf p0w o_6).bind fun (o_8 : Int32) => (if ixb p3 (p1n 19) = true then (if o_8 = (p1w 19 (nn p3)) then (fX5_onlyTake_J63 (fX5_onlyTake_L6 p0w p1n p1w p2 p3 n_6) v5_6 v4_6) else (if o_8 = v4_6 then (fX5_onlyTake_J63 (fX5_onlyTake_L6 p0w p1n p1w p2 p3 n_6) v5_6 v4_6) else (if v4_6 < 0 then (fX5_onlyTake_J63 (fX5_onlyTake_L6 p0w p1n p1w p2 p3 n_6) v5_6 o_8) else some (Sum.inl (-1))))) else none))))))
def fX5_onlyTake (p0w : ST) (p1n : Nat → Nat) (p1w : ST) (p2 : Int32) (p3 : Int32) : Option Int32 := ((fX5_onlyTake_L6 p0w p1n p1w p2 p3 NF (-1) 0).bind fun (o6 : (Sum Int32 Int32)) => Sum.elim (fun r => some r) (fun (t6 : Int32) => some t6) o6)
set_option maxHeartbeats 16000000 in
set_option maxRecDepth 100000 in
theorem kX5_onlyTake {zs : ZS} (l : Launch) (dC : Nat → ClassId) (dI : Nat → Nat → Nat) (p0a : Nat → Nat) (p0k : Nat → ClassId) (p0w : ST) (p0l : SL) (p1a : Nat → Nat) (p1k : Nat → ClassId) (p1n : Nat → Nat) (p1w : ST) (p1l : SL) (p2 : Int32) (p3 : Int32) (sz : Nat) (o : Int32) (hrun : fX5_onlyTake p0w p1n p1w p2 p3 = some o) : Met l yX5_onlyTake (wz yX5_onlyTake cX5_onlyTake 7 (Option.some Jvm.ClassFile.FieldType.int)) ({ frames := 1, cells := 0, slots := 0, locals := 23 } : Room) (va_Pc [.ref (p0a 0), .ref (p1a 0), .int p2, .int p3] (PRE zs dC dI (List.flatten ([(oX5 (p0a 0) p0a p0k p0w p0l), (oX1 (p1a 0) p1a p1k p1n p1w p1l)] : List va_W)) (List.flatten ([(tX5 p0k), (tX1 p1k)] : List (List (ClassId × FieldType)))) sz)) (va_Qi (fun (r : Int32) (_ : Unit) => r = o) (fun _ t => POST dC dI (List.flatten ([(oX5 (p0a 0) p0a p0k p0w p0l), (oX1 (p1a 0) p1a p1k p1n p1w p1l)] : List va_W)) (List.flatten ([(tX5 p0k), (tX1 p1k)] : List (List (ClassId × FieldType)))) (va_A (List.flatten ([(oX5 (p0a 0) p0a p0k p0w p0l), (oX1 (p1a 0) p1a p1k p1n p1w p1l)] : List va_W)) sz) t) (va_A (List.flatten ([(oX5 (p0a 0) p0a p0k p0w p0l), (oX1 (p1a 0) p1a p1k p1n p1w p1l)] : List va_W)) sz)) 0 0 (va_A (List.flatten ([(oX5 (p0a 0) p0a p0k p0w p0l), (oX1 (p1a 0) p1a p1k p1n p1w p1l)] : List va_W)) sz) := by
  refine Met.ofW (cc := cX5_onlyTake) (maxL := 7) (ret := (Option.some Jvm.ClassFile.FieldType.int)) (by decide) rfl ?_
  intro p e s m args below meth c s₁ B hml hv
  obtain ⟨rfl, hsz, hP, hK, hD0, hE⟩ := hv
  have hx := B.exec
  have hb := B.bytes
  have hr := B.returns
  have hts0 := atoms_spec (ws := wz yX5_onlyTake cX5_onlyTake 7 (Option.some Jvm.ClassFile.FieldType.int)) B.pre
  have hts : ∀ w ∈ gw, w.before _ s = true := fun w h => hts0 w (List.mem_cons_of_mem _ h)
  have hown : s.vm.findClass RX5 = some m.cls := findClass_of_methodNamed B.named
  have hlocks := B.notSynchronized
  subst hsz
  have hD := hD0.self (sz := s.heap.size)
  refine gQ9 ?_
  intro Q hQ
  generalize hAe : va_A (List.flatten ([(oX5 (p0a 0) p0a p0k p0w p0l), (oX1 (p1a 0) p1a p1k p1n p1w p1l)] : List va_W)) s.heap.size = A at hD hE hQ
  have hA : ∀ q : Nat, s.heap.size ≤ q → A q := fun q h => by rw [← hAe]; exact Or.inr h
  have hS : va_S A s.heap s.heap [] := va_S.rf
  have hP : va_P (dC, dI) cls (List.flatten ([(oX5 (p0a 0) p0a p0k p0w p0l), (oX1 (p1a 0) p1a p1k p1n p1w p1l)] : List va_W)) s.heap := hP
  have hl := lv_entry ([.ref (p0a 0), .ref (p1a 0), .int p2, .int p3]) (n := 7) (Nat.le_of_ble_eq_true rfl)
  rw [lg_entry_eq]
  generalize (lg_sl ([.ref (p0a 0), .ref (p1a 0), .int p2, .int p3]) ++ List.replicate (7 - (lg_sl ([.ref (p0a 0), .ref (p1a 0), .int p2, .int p3])).length) Slot.unset).toArray = ls at hl ⊢
  have hl : lv_has ls 7 [(0, .ref (p0a 0)), (1, .ref (p1a 0)), (2, .int p2), (3, .int p3)] := hl
  obtain ⟨H, hHe⟩ : ∃ H, H = s.heap := ⟨_, rfl⟩
  obtain ⟨locs, hle⟩ : ∃ locs : List Loc, locs = [] := ⟨_, rfl⟩
  rw [← hHe] at hP
  have hS : va_S A s.heap H locs := by rw [hHe, hle]; exact hS
  show W p l e ({ frames := 1, cells := 0, slots := 0, locals := 23 } : Room) s m ([.ref (p0a 0), .ref (p1a 0), .int p2, .int p3] : List Value).toArray below meth c s.heap [] 0 0 Q (F0 m 0 ls [])
  rw [← hle]
  refine wH9 hHe ?_
  unfold fX5_onlyTake at hrun
  refine lv_iconst (v := (-1)) hx hb dX5_onlyTake_0 (by decide) ?_
  refine lv_istore (lv' := [(4, .int (-1)), (0, .ref (p0a 0)), (1, .ref (p1a 0)), (2, .int p2), (3, .int p3)]) hx hb dX5_onlyTake_1 hl (by decide) rfl (fun ls hl => ?_)
  refine lv_iconst (v := 0) hx hb dX5_onlyTake_3 (by decide) ?_
  refine lv_istore (lv' := [(5, .int 0), (4, .int (-1)), (0, .ref (p0a 0)), (1, .ref (p1a 0)), (2, .int p2), (3, .int p3)]) hx hb dX5_onlyTake_4 hl (by decide) rfl (fun ls hl => ?_)
  have L6 : ∀ (n_6 : Nat) (v4_6 : Int32) (v5_6 : Int32) (o6 : (Sum Int32 Int32)) (H : Heap) (locs : List Loc) (ls : Array Slot), (fX5_onlyTake_L6 p0w p1n p1w p2 p3 n_6) v4_6 v5_6 = some o6 → va_P (dC, dI) cls (List.flatten ([(oX5 (p0a 0) p0a p0k p0w p0l), (oX1 (p1a 0) p1a p1k p1n p1w p1l)] : List va_W)) H → va_D A (List.flatten ([(oX5 (p0a 0) p0a p0k p0w p0l), (oX1 (p1a 0) p1a p1k p1n p1w p1l)] : List va_W)) → va_K (dC, dI) cls (List.flatten ([(tX5 p0k), (tX1 p1k)] : List (List (ClassId × FieldType)))) s → va_S A s.heap H locs → lv_has ls 7 [(0, .ref (p0a 0)), (1, .ref (p1a 0)), (2, .int p2), (3, .int p3), (4, .int v4_6), (5, .int v5_6)] → (∀ r, o6 = Sum.inl r → r = o) → (∀ (t6 : Int32), o6 = Sum.inr t6 → ∀ (H : Heap) (locs : List Loc) (ls : Array Slot), va_P (dC, dI) cls (List.flatten ([(oX5 (p0a 0) p0a p0k p0w p0l), (oX1 (p1a 0) p1a p1k p1n p1w p1l)] : List va_W)) H → va_D A (List.flatten ([(oX5 (p0a 0) p0a p0k p0w p0l), (oX1 (p1a 0) p1a p1k p1n p1w p1l)] : List va_W)) → va_K (dC, dI) cls (List.flatten ([(tX5 p0k), (tX1 p1k)] : List (List (ClassId × FieldType)))) s → va_S A s.heap H locs → lv_has ls 7 [(4, .int t6)] → W p l e ({ frames := 1, cells := 0, slots := 0, locals := 23 } : Room) s m ([.ref (p0a 0), .ref (p1a 0), .int p2, .int p3] : List Value).toArray below meth c H locs 0 0 Q (F0 m 69 ls [])) → W p l e ({ frames := 1, cells := 0, slots := 0, locals := 23 } : Room) s m ([.ref (p0a 0), .ref (p1a 0), .int p2, .int p3] : List Value).toArray below meth c H locs 0 0 Q (F0 m 6 ls []) := by
    intro n_6
    induction n_6 with
    | zero => intro v4_6 v5_6 o6 H locs ls hrun; exact (no9 rfl hrun).elim
    | succ n_6 IH6 =>
      intro v4_6 v5_6 o6 H locs ls hrun hP hD hK hS hl hr6 hk6
      unfold fX5_onlyTake_L6 at hrun
      refine lv_iload hx hb dX5_onlyTake_6 (lv_at hl 5 rfl) ?_
      refine lv_aload_n hx hb dX5_onlyTake_8 rfl (lv_at hl 1 rfl) ?_
      refine lv_iload_n hx hb dX5_onlyTake_9 rfl (lv_at hl 2 rfl) ?_
      obtain ⟨o_1, hc_1, hrun⟩ := bnd9 hrun
      have hPx : va_P (dC, dI) cls ((List.flatten ([(oX1 (p1a 0) p1a p1k p1n p1w p1l)] : List va_W)) ++ (List.flatten ([(oX5 (p0a 0) p0a p0k p0w p0l)] : List va_W))) H := vP_fa (vP_perm hP (bP ((((List.Perm.refl _)).cons _).trans (List.Perm.swap _ _ _))))
      have hDx : va_D A ((List.flatten ([(oX1 (p1a 0) p1a p1k p1n p1w p1l)] : List va_W)) ++ (List.flatten ([(oX5 (p0a 0) p0a p0k p0w p0l)] : List va_W))) := vD_fa (vD_perm hD (bP ((((List.Perm.refl _)).cons _).trans (List.Perm.swap _ _ _))))
      have hKx : va_K (dC, dI) cls ((List.flatten ([(tX1 p1k)] : List (List (ClassId × FieldType)))) ++ (List.flatten ([(tX5 p0k)] : List (List (ClassId × FieldType))))) s := vK_fa (vK_perm hK (bP ((((List.Perm.refl _)).cons _).trans (List.Perm.swap _ _ _))))
      have hPc := vP_l hPx
      have hDc := vD_l hDx
      have hKc := vK_l hKx
      have hFc := vfree hDx hS hA
      refine va_calli (va_runV (As := [.int p2]) (rest := [.int v5_6]) ⟨hx, hb, hml, hown, hts⟩ (kX1_waysTo l dC dI (p0a := p1a) (p0k := p1k) (p0n := p1n) (p0w := p1w) (p0l := p1l) (p1 := p2) (sz := _) (o := o_1) (hrun := hc_1)) (cwV 1 hts (gi_V qw423 qw185 qw186 qw126 (gi_z qw183)) rfl rfl rfl (by decide +kernel) ⟨Nat.le_of_ble_eq_true rfl, Nat.le_of_ble_eq_true rfl⟩) ⟨PRE.blind, va_recv hKc hPc (ci := 4) (q0 := 0) rfl rfl, PRE.of hE hS hFc hPc hKc hDc⟩ rfl rfl hl.1 rfl (lv_room (Nat.le_of_ble_eq_true rfl)) dX5_onlyTake_10 ⟨(Nat.le_of_ble_eq_true rfl), (Nat.le_of_ble_eq_true rfl)⟩) hS (fun q _ h => hFc q h) hFc (fun r2 u t H locs ht hvm hw hB hz1 hk1 hS => ?_)
      obtain ⟨b1, b2, b3⟩ := hB
      rw [ht] at b1
      obtain ⟨hP, hD, hK⟩ := JOINC (wc := (List.flatten ([(oX1 (p1a 0) p1a p1k p1n p1w p1l)] : List va_W))) (wr := (List.flatten ([(oX5 (p0a 0) p0a p0k p0w p0l)] : List va_W))) (w1 := (List.flatten ([(oX1 (p1a 0) p1a p1k p1n p1w p1l)] : List va_W))) (t1 := (List.flatten ([(tX1 p1k)] : List (List (ClassId × FieldType))))) hPx hDx hKx hk1 hFc b1 (va_K.moved hvm.symm b2) b3
      have hP : va_P (dC, dI) cls (List.flatten ([(oX5 (p0a 0) p0a p0k p0w p0l), (oX1 (p1a 0) p1a p1k p1n p1w p1l)] : List va_W)) H := vP_perm (vP_fb hP) (bP ((((List.Perm.refl _)).cons _).trans (List.Perm.swap _ _ _)))
      have hD : va_D A (List.flatten ([(oX5 (p0a 0) p0a p0k p0w p0l), (oX1 (p1a 0) p1a p1k p1n p1w p1l)] : List va_W)) := vD_perm (vD_fb hD) (bP ((((List.Perm.refl _)).cons _).trans (List.Perm.swap _ _ _)))
      have hK : va_K (dC, dI) cls (List.flatten ([(tX5 p0k), (tX1 p1k)] : List (List (ClassId × FieldType)))) s := vK_perm (vK_fb hK) (bP ((((List.Perm.refl _)).cons _).trans (List.Perm.swap _ _ _)))
      obtain rfl : o_1 = r2 := hw.symm
      rcases br9 hrun with ⟨hc3, hrun⟩ | ⟨hc3, hrun⟩
      · refine lv_icmp_ge (tgt := 69) hx hb dX5_onlyTake_13 (by decide) (fun _ => ?_) (fun c => absurd hc3 c)
        obtain rfl := (Option.some.inj hrun)
        exact hk6 _ rfl _ _ _ hP hD hK hS (lv_sub hl [4] rfl)
      · refine lv_icmp_ge (tgt := 69) hx hb dX5_onlyTake_13 (by decide) (fun c => absurd c hc3) (fun _ => ?_)
        refine lv_aload_n hx hb dX5_onlyTake_16 rfl (lv_at hl 0 rfl) ?_
        refine lv_aload_n hx hb dX5_onlyTake_17 rfl (lv_at hl 1 rfl) ?_
        refine lv_iload_n hx hb dX5_onlyTake_18 rfl (lv_at hl 3 rfl) ?_
        refine lv_aload_n hx hb dX5_onlyTake_19 rfl (lv_at hl 1 rfl) ?_
        refine lv_iload_n hx hb dX5_onlyTake_20 rfl (lv_at hl 2 rfl) ?_
        refine lv_iload hx hb dX5_onlyTake_21 (lv_at hl 5 rfl) ?_
        obtain ⟨o_4, hc_4, hrun⟩ := bnd9 hrun
        have hPx : va_P (dC, dI) cls ((List.flatten ([(oX1 (p1a 0) p1a p1k p1n p1w p1l)] : List va_W)) ++ (List.flatten ([(oX5 (p0a 0) p0a p0k p0w p0l)] : List va_W))) H := vP_fa (vP_perm hP (bP ((((List.Perm.refl _)).cons _).trans (List.Perm.swap _ _ _))))
        have hDx : va_D A ((List.flatten ([(oX1 (p1a 0) p1a p1k p1n p1w p1l)] : List va_W)) ++ (List.flatten ([(oX5 (p0a 0) p0a p0k p0w p0l)] : List va_W))) := vD_fa (vD_perm hD (bP ((((List.Perm.refl _)).cons _).trans (List.Perm.swap _ _ _))))
        have hKx : va_K (dC, dI) cls ((List.flatten ([(tX1 p1k)] : List (List (ClassId × FieldType)))) ++ (List.flatten ([(tX5 p0k)] : List (List (ClassId × FieldType))))) s := vK_fa (vK_perm hK (bP ((((List.Perm.refl _)).cons _).trans (List.Perm.swap _ _ _))))
        have hPc := vP_l hPx
        have hDc := vD_l hDx
        have hKc := vK_l hKx
        have hFc := vfree hDx hS hA
        refine va_calli (va_runV (As := [.int p2, .int v5_6]) (rest := [.int p3, .ref (p1a 0), .ref (p0a 0)]) ⟨hx, hb, hml, hown, hts⟩ (kX1_wayFrom l dC dI (p0a := p1a) (p0k := p1k) (p0n := p1n) (p0w := p1w) (p0l := p1l) (p1 := p2) (p2 := v5_6) (sz := _) (o := o_4) (hrun := hc_4)) (cwV 2 hts (gi_V qw424 qw189 qw190 qw126 (gi_z qw187)) rfl rfl rfl (by decide +kernel) ⟨Nat.le_of_ble_eq_true rfl, Nat.le_of_ble_eq_true rfl⟩) ⟨PRE.blind, va_recv hKc hPc (ci := 4) (q0 := 0) rfl rfl, PRE.of hE hS hFc hPc hKc hDc⟩ rfl rfl hl.1 rfl (lv_room (Nat.le_of_ble_eq_true rfl)) dX5_onlyTake_23 ⟨(Nat.le_of_ble_eq_true rfl), (Nat.le_of_ble_eq_true rfl)⟩) hS (fun q _ h => hFc q h) hFc (fun r5 u t H locs ht hvm hw hB hz1 hk1 hS => ?_)
        obtain ⟨b1, b2, b3⟩ := hB
        rw [ht] at b1
        obtain ⟨hP, hD, hK⟩ := JOINC (wc := (List.flatten ([(oX1 (p1a 0) p1a p1k p1n p1w p1l)] : List va_W))) (wr := (List.flatten ([(oX5 (p0a 0) p0a p0k p0w p0l)] : List va_W))) (w1 := (List.flatten ([(oX1 (p1a 0) p1a p1k p1n p1w p1l)] : List va_W))) (t1 := (List.flatten ([(tX1 p1k)] : List (List (ClassId × FieldType))))) hPx hDx hKx hk1 hFc b1 (va_K.moved hvm.symm b2) b3
        have hP : va_P (dC, dI) cls (List.flatten ([(oX5 (p0a 0) p0a p0k p0w p0l), (oX1 (p1a 0) p1a p1k p1n p1w p1l)] : List va_W)) H := vP_perm (vP_fb hP) (bP ((((List.Perm.refl _)).cons _).trans (List.Perm.swap _ _ _)))
        have hD : va_D A (List.flatten ([(oX5 (p0a 0) p0a p0k p0w p0l), (oX1 (p1a 0) p1a p1k p1n p1w p1l)] : List va_W)) := vD_perm (vD_fb hD) (bP ((((List.Perm.refl _)).cons _).trans (List.Perm.swap _ _ _)))
        have hK : va_K (dC, dI) cls (List.flatten ([(tX5 p0k), (tX1 p1k)] : List (List (ClassId × FieldType)))) s := vK_perm (vK_fb hK) (bP ((((List.Perm.refl _)).cons _).trans (List.Perm.swap _ _ _)))
        obtain rfl : o_4 = r5 := hw.symm
        obtain ⟨o_6, hc_6, hrun⟩ := bnd9 hrun
        have hPx : va_P (dC, dI) cls ((List.flatten ([(oX1 (p1a 0) p1a p1k p1n p1w p1l)] : List va_W)) ++ (List.flatten ([(oX5 (p0a 0) p0a p0k p0w p0l)] : List va_W))) H := vP_fa (vP_perm hP (bP ((((List.Perm.refl _)).cons _).trans (List.Perm.swap _ _ _))))
        have hDx : va_D A ((List.flatten ([(oX1 (p1a 0) p1a p1k p1n p1w p1l)] : List va_W)) ++ (List.flatten ([(oX5 (p0a 0) p0a p0k p0w p0l)] : List va_W))) := vD_fa (vD_perm hD (bP ((((List.Perm.refl _)).cons _).trans (List.Perm.swap _ _ _))))
        have hKx : va_K (dC, dI) cls ((List.flatten ([(tX1 p1k)] : List (List (ClassId × FieldType)))) ++ (List.flatten ([(tX5 p0k)] : List (List (ClassId × FieldType))))) s := vK_fa (vK_perm hK (bP ((((List.Perm.refl _)).cons _).trans (List.Perm.swap _ _ _))))
        have hPc := vP_l hPx
        have hDc := vD_l hDx
        have hKc := vK_l hKx
        have hFc := vfree hDx hS hA
        refine va_calli (va_runV (As := [.int p3, .int o_4]) (rest := [.ref (p0a 0)]) ⟨hx, hb, hml, hown, hts⟩ (kX1_take l dC dI (p0a := p1a) (p0k := p1k) (p0n := p1n) (p0w := p1w) (p0l := p1l) (p1 := p3) (p2 := o_4) (sz := _) (o := o_6) (hrun := hc_6)) (cwV 2 hts (gi_V qw469 qw470 qw471 qw126 (gi_z qw468)) rfl rfl rfl (by decide +kernel) ⟨Nat.le_of_ble_eq_true rfl, Nat.le_of_ble_eq_true rfl⟩) ⟨PRE.blind, va_recv hKc hPc (ci := 4) (q0 := 0) rfl rfl, PRE.of hE hS hFc hPc hKc hDc⟩ rfl rfl hl.1 rfl (lv_room (Nat.le_of_ble_eq_true rfl)) dX5_onlyTake_26 ⟨(Nat.le_of_ble_eq_true rfl), (Nat.le_of_ble_eq_true rfl)⟩) hS (fun q _ h => hFc q h) hFc (fun r7 u t H locs ht hvm hw hB hz1 hk1 hS => ?_)
        obtain ⟨b1, b2, b3⟩ := hB
        rw [ht] at b1
        obtain ⟨hP, hD, hK⟩ := JOINC (wc := (List.flatten ([(oX1 (p1a 0) p1a p1k p1n p1w p1l)] : List va_W))) (wr := (List.flatten ([(oX5 (p0a 0) p0a p0k p0w p0l)] : List va_W))) (w1 := (List.flatten ([(oX1 (p1a 0) p1a p1k p1n p1w p1l)] : List va_W))) (t1 := (List.flatten ([(tX1 p1k)] : List (List (ClassId × FieldType))))) hPx hDx hKx hk1 hFc b1 (va_K.moved hvm.symm b2) b3
        have hP : va_P (dC, dI) cls (List.flatten ([(oX5 (p0a 0) p0a p0k p0w p0l), (oX1 (p1a 0) p1a p1k p1n p1w p1l)] : List va_W)) H := vP_perm (vP_fb hP) (bP ((((List.Perm.refl _)).cons _).trans (List.Perm.swap _ _ _)))
        have hD : va_D A (List.flatten ([(oX5 (p0a 0) p0a p0k p0w p0l), (oX1 (p1a 0) p1a p1k p1n p1w p1l)] : List va_W)) := vD_perm (vD_fb hD) (bP ((((List.Perm.refl _)).cons _).trans (List.Perm.swap _ _ _)))
        have hK : va_K (dC, dI) cls (List.flatten ([(tX5 p0k), (tX1 p1k)] : List (List (ClassId × FieldType)))) s := vK_perm (vK_fb hK) (bP ((((List.Perm.refl _)).cons _).trans (List.Perm.swap _ _ _)))
        obtain rfl : o_6 = r7 := hw.symm
        obtain ⟨o_8, hc_8, hrun⟩ := bnd9 hrun
        have hPx : va_P (dC, dI) cls ((List.flatten ([(oX5 (p0a 0) p0a p0k p0w p0l)] : List va_W)) ++ (List.flatten ([(oX1 (p1a 0) p1a p1k p1n p1w p1l)] : List va_W))) H := vP_fa (vP_perm hP (bP (List.Perm.refl _)))
        have hDx : va_D A ((List.flatten ([(oX5 (p0a 0) p0a p0k p0w p0l)] : List va_W)) ++ (List.flatten ([(oX1 (p1a 0) p1a p1k p1n p1w p1l)] : List va_W))) := vD_fa (vD_perm hD (bP (List.Perm.refl _)))
        have hKx : va_K (dC, dI) cls ((List.flatten ([(tX5 p0k)] : List (List (ClassId × FieldType)))) ++ (List.flatten ([(tX1 p1k)] : List (List (ClassId × FieldType))))) s := vK_fa (vK_perm hK (bP (List.Perm.refl _)))
        have hPc := vP_l hPx
        have hDc := vD_l hDx
        have hKc := vK_l hKx
        have hFc := vfree hDx hS hA
        refine va_calli (va_runV (As := [.int o_6]) (rest := []) ⟨hx, hb, hml, hown, hts⟩ (kX5_standInOf l dC dI (p0a := p0a) (p0k := p0k) (p0w := p0w) (p0l := p0l) (p1 := o_6) (sz := _) (o := o_8) (hrun := hc_8)) (cwV 1 hts (gi_V qw541 qw542 qw543 qw442 (gi_z qw540)) rfl rfl rfl (by decide +kernel) ⟨Nat.le_of_ble_eq_true rfl, Nat.le_of_ble_eq_true rfl⟩) ⟨PRE.blind, va_recv hKc hPc (ci := 7) (q0 := 0) rfl rfl, PRE.of hE hS hFc hPc hKc hDc⟩ rfl rfl hl.1 rfl (lv_room (Nat.le_of_ble_eq_true rfl)) dX5_onlyTake_29 ⟨(Nat.le_of_ble_eq_true rfl), (Nat.le_of_ble_eq_true rfl)⟩) hS (fun q _ h => hFc q h) hFc (fun r9 u t H locs ht hvm hw hB hz1 hk1 hS => ?_)
        obtain ⟨b1, b2, b3⟩ := hB
        rw [ht] at b1
        obtain ⟨hP, hD, hK⟩ := JOINC (wc := (List.flatten ([(oX5 (p0a 0) p0a p0k p0w p0l)] : List va_W))) (wr := (List.flatten ([(oX1 (p1a 0) p1a p1k p1n p1w p1l)] : List va_W))) (w1 := (List.flatten ([(oX5 (p0a 0) p0a p0k p0w p0l)] : List va_W))) (t1 := (List.flatten ([(tX5 p0k)] : List (List (ClassId × FieldType))))) hPx hDx hKx hk1 hFc b1 (va_K.moved hvm.symm b2) b3
        have hP : va_P (dC, dI) cls (List.flatten ([(oX5 (p0a 0) p0a p0k p0w p0l), (oX1 (p1a 0) p1a p1k p1n p1w p1l)] : List va_W)) H := vP_perm (vP_fb hP) (bP (List.Perm.refl _))
        have hD : va_D A (List.flatten ([(oX5 (p0a 0) p0a p0k p0w p0l), (oX1 (p1a 0) p1a p1k p1n p1w p1l)] : List va_W)) := vD_perm (vD_fb hD) (bP (List.Perm.refl _))
        have hK : va_K (dC, dI) cls (List.flatten ([(tX5 p0k), (tX1 p1k)] : List (List (ClassId × FieldType)))) s := vK_perm (vK_fb hK) (bP (List.Perm.refl _))
        obtain rfl : o_8 = r9 := hw.symm
        refine lv_istore (lv' := [(6, .int o_8), (0, .ref (p0a 0)), (1, .ref (p1a 0)), (2, .int p2), (3, .int p3), (4, .int v4_6), (5, .int v5_6)]) hx hb dX5_onlyTake_32 hl (by decide) rfl (fun ls hl => ?_)
        refine lv_iload hx hb dX5_onlyTake_34 (lv_at hl 0 rfl) ?_
        refine lv_aload_n hx hb dX5_onlyTake_36 rfl (lv_at hl 2 rfl) ?_
        refine va_get (D := (dC, dI)) (ci := 4) (v := .ref (p1a 19)) (C := RX1) (T := TX1) (N := 21) hx hb hts i_X1 hown hK hP 10 rfl rfl 18 (by decide) (hts _ qw432) (fun _ h9 => h9) rfl dX5_onlyTake_37 ?_
        refine lv_iload_n hx hb dX5_onlyTake_40 rfl (lv_at hl 4 rfl) ?_
        obtain ⟨hq10, hrun⟩ := chk9 hrun
        refine va_iald hx hb hK hP 25 23 rfl rfl (ixb_in hq10) dX5_onlyTake_41 ?_
        have J63 : ∀ (v4_63 : Int32) (H : Heap) (locs : List Loc) (ls : Array Slot), (fX5_onlyTake_J63 (fX5_onlyTake_L6 p0w p1n p1w p2 p3 n_6) v5_6 v4_63) = some o6 → va_P (dC, dI) cls (List.flatten ([(oX5 (p0a 0) p0a p0k p0w p0l), (oX1 (p1a 0) p1a p1k p1n p1w p1l)] : List va_W)) H → va_D A (List.flatten ([(oX5 (p0a 0) p0a p0k p0w p0l), (oX1 (p1a 0) p1a p1k p1n p1w p1l)] : List va_W)) → va_K (dC, dI) cls (List.flatten ([(tX5 p0k), (tX1 p1k)] : List (List (ClassId × FieldType)))) s → va_S A s.heap H locs → lv_has ls 7 [(0, .ref (p0a 0)), (1, .ref (p1a 0)), (2, .int p2), (3, .int p3), (4, .int v4_63), (5, .int v5_6)] → W p l e ({ frames := 1, cells := 0, slots := 0, locals := 23 } : Room) s m ([.ref (p0a 0), .ref (p1a 0), .int p2, .int p3] : List Value).toArray below meth c H locs 0 0 Q (F0 m 63 ls []) := by
          intro v4_63 H locs ls hrun hP hD hK hS hl 
          unfold fX5_onlyTake_J63 at hrun
          refine lv_iinc (v := (v5_6 + 1)) (lv' := [(5, .int (v5_6 + 1)), (0, .ref (p0a 0)), (1, .ref (p1a 0)), (2, .int p2), (3, .int p3), (4, .int v4_63)]) hx hb dX5_onlyTake_63 hl (k := 5) rfl rfl (by decide) rfl (fun ls hl => ?_)
          refine lv_goto (tgt := 6) hx hb dX5_onlyTake_66 (by decide) ?_
          exact IH6 v4_63 (v5_6 + 1) o6 _ _ _ hrun hP hD hK hS (lv_sub hl [1, 2, 3, 4, 5, 0] rfl) hr6 hk6
        rcases br9 hrun with ⟨hc11, hrun⟩ | ⟨hc11, hrun⟩
        · refine lv_icmp_eq (tgt := 63) hx hb dX5_onlyTake_42 (by decide) (fun _ => ?_) (fun c => absurd hc11 c)
          exact J63 v4_6 _ _ _ hrun hP hD hK hS (lv_sub hl [1, 2, 3, 4, 5, 6] rfl)
        · refine lv_icmp_eq (tgt := 63) hx hb dX5_onlyTake_42 (by decide) (fun c => absurd c hc11) (fun _ => ?_)
          refine lv_iload hx hb dX5_onlyTake_45 (lv_at hl 0 rfl) ?_
          refine lv_iload hx hb dX5_onlyTake_47 (lv_at hl 5 rfl) ?_
          rcases br9 hrun with ⟨hc12, hrun⟩ | ⟨hc12, hrun⟩
          · refine lv_icmp_eq (tgt := 63) hx hb dX5_onlyTake_49 (by decide) (fun _ => ?_) (fun c => absurd hc12 c)
            exact J63 v4_6 _ _ _ hrun hP hD hK hS (lv_sub hl [1, 2, 3, 4, 5, 6] rfl)
          · refine lv_icmp_eq (tgt := 63) hx hb dX5_onlyTake_49 (by decide) (fun c => absurd c hc12) (fun _ => ?_)
            refine lv_iload hx hb dX5_onlyTake_52 (lv_at hl 5 rfl) ?_
            rcases br9 hrun with ⟨hc13, hrun⟩ | ⟨hc13, hrun⟩
            · refine lv_if_lt (tgt := 59) hx hb dX5_onlyTake_54 (by decide) (fun _ => ?_) (fun c => absurd hc13 c)
              refine lv_iload hx hb dX5_onlyTake_59 (lv_at hl 0 rfl) ?_
              refine lv_istore (lv' := [(4, .int o_8), (6, .int o_8), (0, .ref (p0a 0)), (1, .ref (p1a 0)), (2, .int p2), (3, .int p3), (5, .int v5_6)]) hx hb dX5_onlyTake_61 hl (by decide) rfl (fun ls hl => ?_)
              exact J63 o_8 _ _ _ hrun hP hD hK hS (lv_sub hl [2, 3, 4, 5, 0, 6] rfl)
            · refine lv_if_lt (tgt := 59) hx hb dX5_onlyTake_54 (by decide) (fun c => absurd c hc13) (fun _ => ?_)
              refine lv_iconst (v := (-1)) hx hb dX5_onlyTake_57 (by decide) ?_
              have ho9 : (-1) = o := hr6 _ (Option.some.inj hrun).symm
              have hP9 : va_P (dC, dI) cls (List.flatten ([(oX5 (p0a 0) p0a p0k p0w p0l), (oX1 (p1a 0) p1a p1k p1n p1w p1l)] : List va_W)) H := by first | exact hP | (rw [← ho9]; exact hP)
              have hD9 : va_D A (List.flatten ([(oX5 (p0a 0) p0a p0k p0w p0l), (oX1 (p1a 0) p1a p1k p1n p1w p1l)] : List va_W)) := by first | exact hD | (rw [← ho9]; exact hD)
              subst hQ
              exact W.iret (v := (-1)) hx hb hr (fun t ht hW => ⟨⟨(-1), (), rfl, (by rw [← ho9]), ⟨by rw [ht]; exact hP9, va_K.moved hW.alike hK, hD9⟩⟩, hS.F ht⟩) hS.2.2 dX5_onlyTake_58
  obtain ⟨o6, hc6, hrun⟩ := bnd9 hrun
  refine L6 NF (-1) 0 o6 _ _ _ hc6 hP hD hK hS (lv_sub hl [2, 3, 4, 5, 1, 0] rfl) (fun r e9 => by subst e9; exact Option.some.inj hrun) ?_
  intro t6 e9
  subst e9
  replace hrun := el9 hrun
  intro H locs ls hP hD hK hS hl
  have hl := hl
  refine lv_iload hx hb dX5_onlyTake_69 (lv_at hl 0 rfl) ?_
  have ho9 : t6 = o := Option.some.inj hrun
  have hP9 : va_P (dC, dI) cls (List.flatten ([(oX5 (p0a 0) p0a p0k p0w p0l), (oX1 (p1a 0) p1a p1k p1n p1w p1l)] : List va_W)) H := by first | exact hP | (rw [← ho9]; exact hP)
  have hD9 : va_D A (List.flatten ([(oX5 (p0a 0) p0a p0k p0w p0l), (oX1 (p1a 0) p1a p1k p1n p1w p1l)] : List va_W)) := by first | exact hD | (rw [← ho9]; exact hD)
  subst hQ
  exact W.iret (v := t6) hx hb hr (fun t ht hW => ⟨⟨t6, (), rfl, (by rw [← ho9]), ⟨by rw [ht]; exact hP9, va_K.moved hW.alike hK, hD9⟩⟩, hS.F ht⟩) hS.2.2 dX5_onlyTake_71
def fX5_takeAlike_L3 (p0w : ST) (p1n : Nat → Nat) (p1w : ST) (p2 : Int32) (p3 : Int32) (p4 : Int32) : Nat → Int32 → Option (Sum Int32 Unit)
  | 0 => fun _ => none
  | n_3 + 1 => fun v5_3 => ((fX1_waysTo p1w p2).bind fun (o_1 : Int32) => (if o_1 ≤ v5_3 then some (Sum.inr ()) else ((fX1_wayFrom p1w p2 v5_3).bind fun (o_4 : Int32) => ((fX1_take p1n p1w p3 o_4).bind fun (o_6 : Int32) => ((fX5_standInOf p0w o_6).bind fun (o_8 : Int32) => ((fX1_take p1n p1w p4 o_4).bind fun (o_10 : Int32) => ((fX5_standInOf p0w o_10).bind fun (o_12 : Int32) => (if o_8 = o_12 then ((fX5_takeAlike_L3 p0w p1n p1w p2 p3 p4 n_3) (v5_3 + 1)) else some (Sum.inl 0)))))))))
def fX5_takeAlike (p0w : ST) (p1n : Nat → Nat) (p1w : ST) (p2 : Int32) (p3 : Int32) (p4 : Int32) : Option Int32 := ((fX5_takeAlike_L3 p0w p1n p1w p2 p3 p4 NF 0).bind fun (o3 : (Sum Int32 Unit)) => Sum.elim (fun r => some r) (fun (t3 : Unit) => some 1) o3)
set_option maxHeartbeats 16000000 in
set_option maxRecDepth 100000 in
theorem kX5_takeAlike {zs : ZS} (l : Launch) (dC : Nat → ClassId) (dI : Nat → Nat → Nat) (p0a : Nat → Nat) (p0k : Nat → ClassId) (p0w : ST) (p0l : SL) (p1a : Nat → Nat) (p1k : Nat → ClassId) (p1n : Nat → Nat) (p1w : ST) (p1l : SL) (p2 : Int32) (p3 : Int32) (p4 : Int32) (sz : Nat) (o : Int32) (hrun : fX5_takeAlike p0w p1n p1w p2 p3 p4 = some o) : Met l yX5_takeAlike (wz yX5_takeAlike cX5_takeAlike 7 (Option.some Jvm.ClassFile.FieldType.boolean)) ({ frames := 1, cells := 0, slots := 0, locals := 23 } : Room) (va_Pc [.ref (p0a 0), .ref (p1a 0), .int p2, .int p3, .int p4] (PRE zs dC dI (List.flatten ([(oX5 (p0a 0) p0a p0k p0w p0l), (oX1 (p1a 0) p1a p1k p1n p1w p1l)] : List va_W)) (List.flatten ([(tX5 p0k), (tX1 p1k)] : List (List (ClassId × FieldType)))) sz)) (va_Qi (fun (r : Int32) (_ : Unit) => r = o) (fun _ t => POST dC dI (List.flatten ([(oX5 (p0a 0) p0a p0k p0w p0l), (oX1 (p1a 0) p1a p1k p1n p1w p1l)] : List va_W)) (List.flatten ([(tX5 p0k), (tX1 p1k)] : List (List (ClassId × FieldType)))) (va_A (List.flatten ([(oX5 (p0a 0) p0a p0k p0w p0l), (oX1 (p1a 0) p1a p1k p1n p1w p1l)] : List va_W)) sz) t) (va_A (List.flatten ([(oX5 (p0a 0) p0a p0k p0w p0l), (oX1 (p1a 0) p1a p1k p1n p1w p1l)] : List va_W)) sz)) 0 0 (va_A (List.flatten ([(oX5 (p0a 0) p0a p0k p0w p0l), (oX1 (p1a 0) p1a p1k p1n p1w p1l)] : List va_W)) sz) := by
  refine Met.ofW (cc := cX5_takeAlike) (maxL := 7) (ret := (Option.some Jvm.ClassFile.FieldType.boolean)) (by decide) rfl ?_
  intro p e s m args below meth c s₁ B hml hv
  obtain ⟨rfl, hsz, hP, hK, hD0, hE⟩ := hv
  have hx := B.exec
  have hb := B.bytes
  have hr := B.returns
  have hts0 := atoms_spec (ws := wz yX5_takeAlike cX5_takeAlike 7 (Option.some Jvm.ClassFile.FieldType.boolean)) B.pre
  have hts : ∀ w ∈ gw, w.before _ s = true := fun w h => hts0 w (List.mem_cons_of_mem _ h)
  have hown : s.vm.findClass RX5 = some m.cls := findClass_of_methodNamed B.named
  have hlocks := B.notSynchronized
  subst hsz
  have hD := hD0.self (sz := s.heap.size)
  refine gQ9 ?_
  intro Q hQ
  generalize hAe : va_A (List.flatten ([(oX5 (p0a 0) p0a p0k p0w p0l), (oX1 (p1a 0) p1a p1k p1n p1w p1l)] : List va_W)) s.heap.size = A at hD hE hQ
  have hA : ∀ q : Nat, s.heap.size ≤ q → A q := fun q h => by rw [← hAe]; exact Or.inr h
  have hS : va_S A s.heap s.heap [] := va_S.rf
  have hP : va_P (dC, dI) cls (List.flatten ([(oX5 (p0a 0) p0a p0k p0w p0l), (oX1 (p1a 0) p1a p1k p1n p1w p1l)] : List va_W)) s.heap := hP
  have hl := lv_entry ([.ref (p0a 0), .ref (p1a 0), .int p2, .int p3, .int p4]) (n := 7) (Nat.le_of_ble_eq_true rfl)
  rw [lg_entry_eq]
  generalize (lg_sl ([.ref (p0a 0), .ref (p1a 0), .int p2, .int p3, .int p4]) ++ List.replicate (7 - (lg_sl ([.ref (p0a 0), .ref (p1a 0), .int p2, .int p3, .int p4])).length) Slot.unset).toArray = ls at hl ⊢
  have hl : lv_has ls 7 [(0, .ref (p0a 0)), (1, .ref (p1a 0)), (2, .int p2), (3, .int p3), (4, .int p4)] := hl
  obtain ⟨H, hHe⟩ : ∃ H, H = s.heap := ⟨_, rfl⟩
  obtain ⟨locs, hle⟩ : ∃ locs : List Loc, locs = [] := ⟨_, rfl⟩
  rw [← hHe] at hP
  have hS : va_S A s.heap H locs := by rw [hHe, hle]; exact hS
  show W p l e ({ frames := 1, cells := 0, slots := 0, locals := 23 } : Room) s m ([.ref (p0a 0), .ref (p1a 0), .int p2, .int p3, .int p4] : List Value).toArray below meth c s.heap [] 0 0 Q (F0 m 0 ls [])
  rw [← hle]
  refine wH9 hHe ?_
  unfold fX5_takeAlike at hrun
  refine lv_iconst (v := 0) hx hb dX5_takeAlike_0 (by decide) ?_
  refine lv_istore (lv' := [(5, .int 0), (0, .ref (p0a 0)), (1, .ref (p1a 0)), (2, .int p2), (3, .int p3), (4, .int p4)]) hx hb dX5_takeAlike_1 hl (by decide) rfl (fun ls hl => ?_)
  have L3 : ∀ (n_3 : Nat) (v5_3 : Int32) (o3 : (Sum Int32 Unit)) (H : Heap) (locs : List Loc) (ls : Array Slot), (fX5_takeAlike_L3 p0w p1n p1w p2 p3 p4 n_3) v5_3 = some o3 → va_P (dC, dI) cls (List.flatten ([(oX5 (p0a 0) p0a p0k p0w p0l), (oX1 (p1a 0) p1a p1k p1n p1w p1l)] : List va_W)) H → va_D A (List.flatten ([(oX5 (p0a 0) p0a p0k p0w p0l), (oX1 (p1a 0) p1a p1k p1n p1w p1l)] : List va_W)) → va_K (dC, dI) cls (List.flatten ([(tX5 p0k), (tX1 p1k)] : List (List (ClassId × FieldType)))) s → va_S A s.heap H locs → lv_has ls 7 [(0, .ref (p0a 0)), (1, .ref (p1a 0)), (2, .int p2), (3, .int p3), (4, .int p4), (5, .int v5_3)] → (∀ r, o3 = Sum.inl r → r = o) → (∀ (t3 : Unit), o3 = Sum.inr t3 → ∀ (H : Heap) (locs : List Loc) (ls : Array Slot), va_P (dC, dI) cls (List.flatten ([(oX5 (p0a 0) p0a p0k p0w p0l), (oX1 (p1a 0) p1a p1k p1n p1w p1l)] : List va_W)) H → va_D A (List.flatten ([(oX5 (p0a 0) p0a p0k p0w p0l), (oX1 (p1a 0) p1a p1k p1n p1w p1l)] : List va_W)) → va_K (dC, dI) cls (List.flatten ([(tX5 p0k), (tX1 p1k)] : List (List (ClassId × FieldType)))) s → va_S A s.heap H locs → lv_has ls 7 [] → W p l e ({ frames := 1, cells := 0, slots := 0, locals := 23 } : Room) s m ([.ref (p0a 0), .ref (p1a 0), .int p2, .int p3, .int p4] : List Value).toArray below meth c H locs 0 0 Q (F0 m 56 ls [])) → W p l e ({ frames := 1, cells := 0, slots := 0, locals := 23 } : Room) s m ([.ref (p0a 0), .ref (p1a 0), .int p2, .int p3, .int p4] : List Value).toArray below meth c H locs 0 0 Q (F0 m 3 ls []) := by
    intro n_3
    induction n_3 with
    | zero => intro v5_3 o3 H locs ls hrun; exact (no9 rfl hrun).elim
    | succ n_3 IH3 =>
      intro v5_3 o3 H locs ls hrun hP hD hK hS hl hr3 hk3
      unfold fX5_takeAlike_L3 at hrun
      refine lv_iload hx hb dX5_takeAlike_3 (lv_at hl 5 rfl) ?_
      refine lv_aload_n hx hb dX5_takeAlike_5 rfl (lv_at hl 1 rfl) ?_
      refine lv_iload_n hx hb dX5_takeAlike_6 rfl (lv_at hl 2 rfl) ?_
      obtain ⟨o_1, hc_1, hrun⟩ := bnd9 hrun
      have hPx : va_P (dC, dI) cls ((List.flatten ([(oX1 (p1a 0) p1a p1k p1n p1w p1l)] : List va_W)) ++ (List.flatten ([(oX5 (p0a 0) p0a p0k p0w p0l)] : List va_W))) H := vP_fa (vP_perm hP (bP ((((List.Perm.refl _)).cons _).trans (List.Perm.swap _ _ _))))
      have hDx : va_D A ((List.flatten ([(oX1 (p1a 0) p1a p1k p1n p1w p1l)] : List va_W)) ++ (List.flatten ([(oX5 (p0a 0) p0a p0k p0w p0l)] : List va_W))) := vD_fa (vD_perm hD (bP ((((List.Perm.refl _)).cons _).trans (List.Perm.swap _ _ _))))
      have hKx : va_K (dC, dI) cls ((List.flatten ([(tX1 p1k)] : List (List (ClassId × FieldType)))) ++ (List.flatten ([(tX5 p0k)] : List (List (ClassId × FieldType))))) s := vK_fa (vK_perm hK (bP ((((List.Perm.refl _)).cons _).trans (List.Perm.swap _ _ _))))
      have hPc := vP_l hPx
      have hDc := vD_l hDx
      have hKc := vK_l hKx
      have hFc := vfree hDx hS hA
      refine va_calli (va_runV (As := [.int p2]) (rest := [.int v5_3]) ⟨hx, hb, hml, hown, hts⟩ (kX1_waysTo l dC dI (p0a := p1a) (p0k := p1k) (p0n := p1n) (p0w := p1w) (p0l := p1l) (p1 := p2) (sz := _) (o := o_1) (hrun := hc_1)) (cwV 1 hts (gi_V qw423 qw185 qw186 qw126 (gi_z qw183)) rfl rfl rfl (by decide +kernel) ⟨Nat.le_of_ble_eq_true rfl, Nat.le_of_ble_eq_true rfl⟩) ⟨PRE.blind, va_recv hKc hPc (ci := 4) (q0 := 0) rfl rfl, PRE.of hE hS hFc hPc hKc hDc⟩ rfl rfl hl.1 rfl (lv_room (Nat.le_of_ble_eq_true rfl)) dX5_takeAlike_7 ⟨(Nat.le_of_ble_eq_true rfl), (Nat.le_of_ble_eq_true rfl)⟩) hS (fun q _ h => hFc q h) hFc (fun r2 u t H locs ht hvm hw hB hz1 hk1 hS => ?_)
      obtain ⟨b1, b2, b3⟩ := hB
      rw [ht] at b1
      obtain ⟨hP, hD, hK⟩ := JOINC (wc := (List.flatten ([(oX1 (p1a 0) p1a p1k p1n p1w p1l)] : List va_W))) (wr := (List.flatten ([(oX5 (p0a 0) p0a p0k p0w p0l)] : List va_W))) (w1 := (List.flatten ([(oX1 (p1a 0) p1a p1k p1n p1w p1l)] : List va_W))) (t1 := (List.flatten ([(tX1 p1k)] : List (List (ClassId × FieldType))))) hPx hDx hKx hk1 hFc b1 (va_K.moved hvm.symm b2) b3
      have hP : va_P (dC, dI) cls (List.flatten ([(oX5 (p0a 0) p0a p0k p0w p0l), (oX1 (p1a 0) p1a p1k p1n p1w p1l)] : List va_W)) H := vP_perm (vP_fb hP) (bP ((((List.Perm.refl _)).cons _).trans (List.Perm.swap _ _ _)))
      have hD : va_D A (List.flatten ([(oX5 (p0a 0) p0a p0k p0w p0l), (oX1 (p1a 0) p1a p1k p1n p1w p1l)] : List va_W)) := vD_perm (vD_fb hD) (bP ((((List.Perm.refl _)).cons _).trans (List.Perm.swap _ _ _)))
      have hK : va_K (dC, dI) cls (List.flatten ([(tX5 p0k), (tX1 p1k)] : List (List (ClassId × FieldType)))) s := vK_perm (vK_fb hK) (bP ((((List.Perm.refl _)).cons _).trans (List.Perm.swap _ _ _)))
      obtain rfl : o_1 = r2 := hw.symm
      rcases br9 hrun with ⟨hc3, hrun⟩ | ⟨hc3, hrun⟩
      · refine lv_icmp_ge (tgt := 56) hx hb dX5_takeAlike_10 (by decide) (fun _ => ?_) (fun c => absurd hc3 c)
        obtain rfl := (Option.some.inj hrun)
        exact hk3 _ rfl _ _ _ hP hD hK hS (lv_sub hl [] rfl)
      · refine lv_icmp_ge (tgt := 56) hx hb dX5_takeAlike_10 (by decide) (fun c => absurd c hc3) (fun _ => ?_)
        refine lv_aload_n hx hb dX5_takeAlike_13 rfl (lv_at hl 1 rfl) ?_
        refine lv_iload_n hx hb dX5_takeAlike_14 rfl (lv_at hl 2 rfl) ?_
        refine lv_iload hx hb dX5_takeAlike_15 (lv_at hl 5 rfl) ?_
        obtain ⟨o_4, hc_4, hrun⟩ := bnd9 hrun
        have hPx : va_P (dC, dI) cls ((List.flatten ([(oX1 (p1a 0) p1a p1k p1n p1w p1l)] : List va_W)) ++ (List.flatten ([(oX5 (p0a 0) p0a p0k p0w p0l)] : List va_W))) H := vP_fa (vP_perm hP (bP ((((List.Perm.refl _)).cons _).trans (List.Perm.swap _ _ _))))
        have hDx : va_D A ((List.flatten ([(oX1 (p1a 0) p1a p1k p1n p1w p1l)] : List va_W)) ++ (List.flatten ([(oX5 (p0a 0) p0a p0k p0w p0l)] : List va_W))) := vD_fa (vD_perm hD (bP ((((List.Perm.refl _)).cons _).trans (List.Perm.swap _ _ _))))
        have hKx : va_K (dC, dI) cls ((List.flatten ([(tX1 p1k)] : List (List (ClassId × FieldType)))) ++ (List.flatten ([(tX5 p0k)] : List (List (ClassId × FieldType))))) s := vK_fa (vK_perm hK (bP ((((List.Perm.refl _)).cons _).trans (List.Perm.swap _ _ _))))
        have hPc := vP_l hPx
        have hDc := vD_l hDx
        have hKc := vK_l hKx
        have hFc := vfree hDx hS hA
        refine va_calli (va_runV (As := [.int p2, .int v5_3]) (rest := []) ⟨hx, hb, hml, hown, hts⟩ (kX1_wayFrom l dC dI (p0a := p1a) (p0k := p1k) (p0n := p1n) (p0w := p1w) (p0l := p1l) (p1 := p2) (p2 := v5_3) (sz := _) (o := o_4) (hrun := hc_4)) (cwV 2 hts (gi_V qw424 qw189 qw190 qw126 (gi_z qw187)) rfl rfl rfl (by decide +kernel) ⟨Nat.le_of_ble_eq_true rfl, Nat.le_of_ble_eq_true rfl⟩) ⟨PRE.blind, va_recv hKc hPc (ci := 4) (q0 := 0) rfl rfl, PRE.of hE hS hFc hPc hKc hDc⟩ rfl rfl hl.1 rfl (lv_room (Nat.le_of_ble_eq_true rfl)) dX5_takeAlike_17 ⟨(Nat.le_of_ble_eq_true rfl), (Nat.le_of_ble_eq_true rfl)⟩) hS (fun q _ h => hFc q h) hFc (fun r5 u t H locs ht hvm hw hB hz1 hk1 hS => ?_)
        obtain ⟨b1, b2, b3⟩ := hB
        rw [ht] at b1
        obtain ⟨hP, hD, hK⟩ := JOINC (wc := (List.flatten ([(oX1 (p1a 0) p1a p1k p1n p1w p1l)] : List va_W))) (wr := (List.flatten ([(oX5 (p0a 0) p0a p0k p0w p0l)] : List va_W))) (w1 := (List.flatten ([(oX1 (p1a 0) p1a p1k p1n p1w p1l)] : List va_W))) (t1 := (List.flatten ([(tX1 p1k)] : List (List (ClassId × FieldType))))) hPx hDx hKx hk1 hFc b1 (va_K.moved hvm.symm b2) b3
        have hP : va_P (dC, dI) cls (List.flatten ([(oX5 (p0a 0) p0a p0k p0w p0l), (oX1 (p1a 0) p1a p1k p1n p1w p1l)] : List va_W)) H := vP_perm (vP_fb hP) (bP ((((List.Perm.refl _)).cons _).trans (List.Perm.swap _ _ _)))
        have hD : va_D A (List.flatten ([(oX5 (p0a 0) p0a p0k p0w p0l), (oX1 (p1a 0) p1a p1k p1n p1w p1l)] : List va_W)) := vD_perm (vD_fb hD) (bP ((((List.Perm.refl _)).cons _).trans (List.Perm.swap _ _ _)))
        have hK : va_K (dC, dI) cls (List.flatten ([(tX5 p0k), (tX1 p1k)] : List (List (ClassId × FieldType)))) s := vK_perm (vK_fb hK) (bP ((((List.Perm.refl _)).cons _).trans (List.Perm.swap _ _ _)))
        obtain rfl : o_4 = r5 := hw.symm
        refine lv_istore (lv' := [(6, .int o_4), (0, .ref (p0a 0)), (1, .ref (p1a 0)), (2, .int p2), (3, .int p3), (4, .int p4), (5, .int v5_3)]) hx hb dX5_takeAlike_20 hl (by decide) rfl (fun ls hl => ?_)
        refine lv_aload_n hx hb dX5_takeAlike_22 rfl (lv_at hl 1 rfl) ?_
        refine lv_aload_n hx hb dX5_takeAlike_23 rfl (lv_at hl 2 rfl) ?_
        refine lv_iload_n hx hb dX5_takeAlike_24 rfl (lv_at hl 4 rfl) ?_
        refine lv_iload hx hb dX5_takeAlike_25 (lv_at hl 0 rfl) ?_
        obtain ⟨o_6, hc_6, hrun⟩ := bnd9 hrun
        have hPx : va_P (dC, dI) cls ((List.flatten ([(oX1 (p1a 0) p1a p1k p1n p1w p1l)] : List va_W)) ++ (List.flatten ([(oX5 (p0a 0) p0a p0k p0w p0l)] : List va_W))) H := vP_fa (vP_perm hP (bP ((((List.Perm.refl _)).cons _).trans (List.Perm.swap _ _ _))))
        have hDx : va_D A ((List.flatten ([(oX1 (p1a 0) p1a p1k p1n p1w p1l)] : List va_W)) ++ (List.flatten ([(oX5 (p0a 0) p0a p0k p0w p0l)] : List va_W))) := vD_fa (vD_perm hD (bP ((((List.Perm.refl _)).cons _).trans (List.Perm.swap _ _ _))))
        have hKx : va_K (dC, dI) cls ((List.flatten ([(tX1 p1k)] : List (List (ClassId × FieldType)))) ++ (List.flatten ([(tX5 p0k)] : List (List (ClassId × FieldType))))) s := vK_fa (vK_perm hK (bP ((((List.Perm.refl _)).cons _).trans (List.Perm.swap _ _ _))))
        have hPc := vP_l hPx
        have hDc := vD_l hDx
        have hKc := vK_l hKx
        have hFc := vfree hDx hS hA
        refine va_calli (va_runV (As := [.int p3, .int o_4]) (rest := [.ref (p0a 0)]) ⟨hx, hb, hml, hown, hts⟩ (kX1_take l dC dI (p0a := p1a) (p0k := p1k) (p0n := p1n) (p0w := p1w) (p0l := p1l) (p1 := p3) (p2 := o_4) (sz := _) (o := o_6) (hrun := hc_6)) (cwV 2 hts (gi_V qw469 qw470 qw471 qw126 (gi_z qw468)) rfl rfl rfl (by decide +kernel) ⟨Nat.le_of_ble_eq_true rfl, Nat.le_of_ble_eq_true rfl⟩) ⟨PRE.blind, va_recv hKc hPc (ci := 4) (q0 := 0) rfl rfl, PRE.of hE hS hFc hPc hKc hDc⟩ rfl rfl hl.1 rfl (lv_room (Nat.le_of_ble_eq_true rfl)) dX5_takeAlike_27 ⟨(Nat.le_of_ble_eq_true rfl), (Nat.le_of_ble_eq_true rfl)⟩) hS (fun q _ h => hFc q h) hFc (fun r7 u t H locs ht hvm hw hB hz1 hk1 hS => ?_)
        obtain ⟨b1, b2, b3⟩ := hB
        rw [ht] at b1
        obtain ⟨hP, hD, hK⟩ := JOINC (wc := (List.flatten ([(oX1 (p1a 0) p1a p1k p1n p1w p1l)] : List va_W))) (wr := (List.flatten ([(oX5 (p0a 0) p0a p0k p0w p0l)] : List va_W))) (w1 := (List.flatten ([(oX1 (p1a 0) p1a p1k p1n p1w p1l)] : List va_W))) (t1 := (List.flatten ([(tX1 p1k)] : List (List (ClassId × FieldType))))) hPx hDx hKx hk1 hFc b1 (va_K.moved hvm.symm b2) b3
        have hP : va_P (dC, dI) cls (List.flatten ([(oX5 (p0a 0) p0a p0k p0w p0l), (oX1 (p1a 0) p1a p1k p1n p1w p1l)] : List va_W)) H := vP_perm (vP_fb hP) (bP ((((List.Perm.refl _)).cons _).trans (List.Perm.swap _ _ _)))
        have hD : va_D A (List.flatten ([(oX5 (p0a 0) p0a p0k p0w p0l), (oX1 (p1a 0) p1a p1k p1n p1w p1l)] : List va_W)) := vD_perm (vD_fb hD) (bP ((((List.Perm.refl _)).cons _).trans (List.Perm.swap _ _ _)))
        have hK : va_K (dC, dI) cls (List.flatten ([(tX5 p0k), (tX1 p1k)] : List (List (ClassId × FieldType)))) s := vK_perm (vK_fb hK) (bP ((((List.Perm.refl _)).cons _).trans (List.Perm.swap _ _ _)))
        obtain rfl : o_6 = r7 := hw.symm
        obtain ⟨o_8, hc_8, hrun⟩ := bnd9 hrun
        have hPx : va_P (dC, dI) cls ((List.flatten ([(oX5 (p0a 0) p0a p0k p0w p0l)] : List va_W)) ++ (List.flatten ([(oX1 (p1a 0) p1a p1k p1n p1w p1l)] : List va_W))) H := vP_fa (vP_perm hP (bP (List.Perm.refl _)))
        have hDx : va_D A ((List.flatten ([(oX5 (p0a 0) p0a p0k p0w p0l)] : List va_W)) ++ (List.flatten ([(oX1 (p1a 0) p1a p1k p1n p1w p1l)] : List va_W))) := vD_fa (vD_perm hD (bP (List.Perm.refl _)))
        have hKx : va_K (dC, dI) cls ((List.flatten ([(tX5 p0k)] : List (List (ClassId × FieldType)))) ++ (List.flatten ([(tX1 p1k)] : List (List (ClassId × FieldType))))) s := vK_fa (vK_perm hK (bP (List.Perm.refl _)))
        have hPc := vP_l hPx
        have hDc := vD_l hDx
        have hKc := vK_l hKx
        have hFc := vfree hDx hS hA
        refine va_calli (va_runV (As := [.int o_6]) (rest := []) ⟨hx, hb, hml, hown, hts⟩ (kX5_standInOf l dC dI (p0a := p0a) (p0k := p0k) (p0w := p0w) (p0l := p0l) (p1 := o_6) (sz := _) (o := o_8) (hrun := hc_8)) (cwV 1 hts (gi_V qw541 qw542 qw543 qw442 (gi_z qw540)) rfl rfl rfl (by decide +kernel) ⟨Nat.le_of_ble_eq_true rfl, Nat.le_of_ble_eq_true rfl⟩) ⟨PRE.blind, va_recv hKc hPc (ci := 7) (q0 := 0) rfl rfl, PRE.of hE hS hFc hPc hKc hDc⟩ rfl rfl hl.1 rfl (lv_room (Nat.le_of_ble_eq_true rfl)) dX5_takeAlike_30 ⟨(Nat.le_of_ble_eq_true rfl), (Nat.le_of_ble_eq_true rfl)⟩) hS (fun q _ h => hFc q h) hFc (fun r9 u t H locs ht hvm hw hB hz1 hk1 hS => ?_)
        obtain ⟨b1, b2, b3⟩ := hB
        rw [ht] at b1
        obtain ⟨hP, hD, hK⟩ := JOINC (wc := (List.flatten ([(oX5 (p0a 0) p0a p0k p0w p0l)] : List va_W))) (wr := (List.flatten ([(oX1 (p1a 0) p1a p1k p1n p1w p1l)] : List va_W))) (w1 := (List.flatten ([(oX5 (p0a 0) p0a p0k p0w p0l)] : List va_W))) (t1 := (List.flatten ([(tX5 p0k)] : List (List (ClassId × FieldType))))) hPx hDx hKx hk1 hFc b1 (va_K.moved hvm.symm b2) b3
        have hP : va_P (dC, dI) cls (List.flatten ([(oX5 (p0a 0) p0a p0k p0w p0l), (oX1 (p1a 0) p1a p1k p1n p1w p1l)] : List va_W)) H := vP_perm (vP_fb hP) (bP (List.Perm.refl _))
        have hD : va_D A (List.flatten ([(oX5 (p0a 0) p0a p0k p0w p0l), (oX1 (p1a 0) p1a p1k p1n p1w p1l)] : List va_W)) := vD_perm (vD_fb hD) (bP (List.Perm.refl _))
        have hK : va_K (dC, dI) cls (List.flatten ([(tX5 p0k), (tX1 p1k)] : List (List (ClassId × FieldType)))) s := vK_perm (vK_fb hK) (bP (List.Perm.refl _))
        obtain rfl : o_8 = r9 := hw.symm
        refine lv_aload_n hx hb dX5_takeAlike_33 rfl (lv_at hl 1 rfl) ?_
        refine lv_aload_n hx hb dX5_takeAlike_34 rfl (lv_at hl 2 rfl) ?_
        refine lv_iload hx hb dX5_takeAlike_35 (lv_at hl 5 rfl) ?_
        refine lv_iload hx hb dX5_takeAlike_37 (lv_at hl 0 rfl) ?_
        obtain ⟨o_10, hc_10, hrun⟩ := bnd9 hrun
        have hPx : va_P (dC, dI) cls ((List.flatten ([(oX1 (p1a 0) p1a p1k p1n p1w p1l)] : List va_W)) ++ (List.flatten ([(oX5 (p0a 0) p0a p0k p0w p0l)] : List va_W))) H := vP_fa (vP_perm hP (bP ((((List.Perm.refl _)).cons _).trans (List.Perm.swap _ _ _))))
        have hDx : va_D A ((List.flatten ([(oX1 (p1a 0) p1a p1k p1n p1w p1l)] : List va_W)) ++ (List.flatten ([(oX5 (p0a 0) p0a p0k p0w p0l)] : List va_W))) := vD_fa (vD_perm hD (bP ((((List.Perm.refl _)).cons _).trans (List.Perm.swap _ _ _))))
        have hKx : va_K (dC, dI) cls ((List.flatten ([(tX1 p1k)] : List (List (ClassId × FieldType)))) ++ (List.flatten ([(tX5 p0k)] : List (List (ClassId × FieldType))))) s := vK_fa (vK_perm hK (bP ((((List.Perm.refl _)).cons _).trans (List.Perm.swap _ _ _))))
        have hPc := vP_l hPx
        have hDc := vD_l hDx
        have hKc := vK_l hKx
        have hFc := vfree hDx hS hA
        refine va_calli (va_runV (As := [.int p4, .int o_4]) (rest := [.ref (p0a 0), .int o_8]) ⟨hx, hb, hml, hown, hts⟩ (kX1_take l dC dI (p0a := p1a) (p0k := p1k) (p0n := p1n) (p0w := p1w) (p0l := p1l) (p1 := p4) (p2 := o_4) (sz := _) (o := o_10) (hrun := hc_10)) (cwV 2 hts (gi_V qw469 qw470 qw471 qw126 (gi_z qw468)) rfl rfl rfl (by decide +kernel) ⟨Nat.le_of_ble_eq_true rfl, Nat.le_of_ble_eq_true rfl⟩) ⟨PRE.blind, va_recv hKc hPc (ci := 4) (q0 := 0) rfl rfl, PRE.of hE hS hFc hPc hKc hDc⟩ rfl rfl hl.1 rfl (lv_room (Nat.le_of_ble_eq_true rfl)) dX5_takeAlike_39 ⟨(Nat.le_of_ble_eq_true rfl), (Nat.le_of_ble_eq_true rfl)⟩) hS (fun q _ h => hFc q h) hFc (fun r11 u t H locs ht hvm hw hB hz1 hk1 hS => ?_)
        obtain ⟨b1, b2, b3⟩ := hB
        rw [ht] at b1
        obtain ⟨hP, hD, hK⟩ := JOINC (wc := (List.flatten ([(oX1 (p1a 0) p1a p1k p1n p1w p1l)] : List va_W))) (wr := (List.flatten ([(oX5 (p0a 0) p0a p0k p0w p0l)] : List va_W))) (w1 := (List.flatten ([(oX1 (p1a 0) p1a p1k p1n p1w p1l)] : List va_W))) (t1 := (List.flatten ([(tX1 p1k)] : List (List (ClassId × FieldType))))) hPx hDx hKx hk1 hFc b1 (va_K.moved hvm.symm b2) b3
        have hP : va_P (dC, dI) cls (List.flatten ([(oX5 (p0a 0) p0a p0k p0w p0l), (oX1 (p1a 0) p1a p1k p1n p1w p1l)] : List va_W)) H := vP_perm (vP_fb hP) (bP ((((List.Perm.refl _)).cons _).trans (List.Perm.swap _ _ _)))
        have hD : va_D A (List.flatten ([(oX5 (p0a 0) p0a p0k p0w p0l), (oX1 (p1a 0) p1a p1k p1n p1w p1l)] : List va_W)) := vD_perm (vD_fb hD) (bP ((((List.Perm.refl _)).cons _).trans (List.Perm.swap _ _ _)))
        have hK : va_K (dC, dI) cls (List.flatten ([(tX5 p0k), (tX1 p1k)] : List (List (ClassId × FieldType)))) s := vK_perm (vK_fb hK) (bP ((((List.Perm.refl _)).cons _).trans (List.Perm.swap _ _ _)))
        obtain rfl : o_10 = r11 := hw.symm
        obtain ⟨o_12, hc_12, hrun⟩ := bnd9 hrun
        have hPx : va_P (dC, dI) cls ((List.flatten ([(oX5 (p0a 0) p0a p0k p0w p0l)] : List va_W)) ++ (List.flatten ([(oX1 (p1a 0) p1a p1k p1n p1w p1l)] : List va_W))) H := vP_fa (vP_perm hP (bP (List.Perm.refl _)))
        have hDx : va_D A ((List.flatten ([(oX5 (p0a 0) p0a p0k p0w p0l)] : List va_W)) ++ (List.flatten ([(oX1 (p1a 0) p1a p1k p1n p1w p1l)] : List va_W))) := vD_fa (vD_perm hD (bP (List.Perm.refl _)))
        have hKx : va_K (dC, dI) cls ((List.flatten ([(tX5 p0k)] : List (List (ClassId × FieldType)))) ++ (List.flatten ([(tX1 p1k)] : List (List (ClassId × FieldType))))) s := vK_fa (vK_perm hK (bP (List.Perm.refl _)))
        have hPc := vP_l hPx
        have hDc := vD_l hDx
        have hKc := vK_l hKx
        have hFc := vfree hDx hS hA
        refine va_calli (va_runV (As := [.int o_10]) (rest := [.int o_8]) ⟨hx, hb, hml, hown, hts⟩ (kX5_standInOf l dC dI (p0a := p0a) (p0k := p0k) (p0w := p0w) (p0l := p0l) (p1 := o_10) (sz := _) (o := o_12) (hrun := hc_12)) (cwV 1 hts (gi_V qw541 qw542 qw543 qw442 (gi_z qw540)) rfl rfl rfl (by decide +kernel) ⟨Nat.le_of_ble_eq_true rfl, Nat.le_of_ble_eq_true rfl⟩) ⟨PRE.blind, va_recv hKc hPc (ci := 7) (q0 := 0) rfl rfl, PRE.of hE hS hFc hPc hKc hDc⟩ rfl rfl hl.1 rfl (lv_room (Nat.le_of_ble_eq_true rfl)) dX5_takeAlike_42 ⟨(Nat.le_of_ble_eq_true rfl), (Nat.le_of_ble_eq_true rfl)⟩) hS (fun q _ h => hFc q h) hFc (fun r13 u t H locs ht hvm hw hB hz1 hk1 hS => ?_)
        obtain ⟨b1, b2, b3⟩ := hB
        rw [ht] at b1
        obtain ⟨hP, hD, hK⟩ := JOINC (wc := (List.flatten ([(oX5 (p0a 0) p0a p0k p0w p0l)] : List va_W))) (wr := (List.flatten ([(oX1 (p1a 0) p1a p1k p1n p1w p1l)] : List va_W))) (w1 := (List.flatten ([(oX5 (p0a 0) p0a p0k p0w p0l)] : List va_W))) (t1 := (List.flatten ([(tX5 p0k)] : List (List (ClassId × FieldType))))) hPx hDx hKx hk1 hFc b1 (va_K.moved hvm.symm b2) b3
        have hP : va_P (dC, dI) cls (List.flatten ([(oX5 (p0a 0) p0a p0k p0w p0l), (oX1 (p1a 0) p1a p1k p1n p1w p1l)] : List va_W)) H := vP_perm (vP_fb hP) (bP (List.Perm.refl _))
        have hD : va_D A (List.flatten ([(oX5 (p0a 0) p0a p0k p0w p0l), (oX1 (p1a 0) p1a p1k p1n p1w p1l)] : List va_W)) := vD_perm (vD_fb hD) (bP (List.Perm.refl _))
        have hK : va_K (dC, dI) cls (List.flatten ([(tX5 p0k), (tX1 p1k)] : List (List (ClassId × FieldType)))) s := vK_perm (vK_fb hK) (bP (List.Perm.refl _))
        obtain rfl : o_12 = r13 := hw.symm
        rcases br9 hrun with ⟨hc14, hrun⟩ | ⟨hc14, hrun⟩
        · refine lv_icmp_eq (tgt := 50) hx hb dX5_takeAlike_45 (by decide) (fun _ => ?_) (fun c => absurd hc14 c)
          refine lv_iinc (v := (v5_3 + 1)) (lv' := [(5, .int (v5_3 + 1)), (6, .int o_4), (0, .ref (p0a 0)), (1, .ref (p1a 0)), (2, .int p2), (3, .int p3), (4, .int p4)]) hx hb dX5_takeAlike_50 hl (k := 6) rfl rfl (by decide) rfl (fun ls hl => ?_)
          refine lv_goto (tgt := 3) hx hb dX5_takeAlike_53 (by decide) ?_
          exact IH3 (v5_3 + 1) o3 _ _ _ hrun hP hD hK hS (lv_sub hl [2, 3, 4, 5, 6, 0] rfl) hr3 hk3
        · refine lv_icmp_eq (tgt := 50) hx hb dX5_takeAlike_45 (by decide) (fun c => absurd c hc14) (fun _ => ?_)
          refine lv_iconst (v := 0) hx hb dX5_takeAlike_48 (by decide) ?_
          have ho9 : 0 = o := hr3 _ (Option.some.inj hrun).symm
          have hP9 : va_P (dC, dI) cls (List.flatten ([(oX5 (p0a 0) p0a p0k p0w p0l), (oX1 (p1a 0) p1a p1k p1n p1w p1l)] : List va_W)) H := by first | exact hP | (rw [← ho9]; exact hP)
          have hD9 : va_D A (List.flatten ([(oX5 (p0a 0) p0a p0k p0w p0l), (oX1 (p1a 0) p1a p1k p1n p1w p1l)] : List va_W)) := by first | exact hD | (rw [← ho9]; exact hD)
          subst hQ
          exact W.zret (v := 0) hx hb hr (by decide) (fun t ht hW => ⟨⟨0, (), rfl, (by rw [← ho9]), ⟨by rw [ht]; exact hP9, va_K.moved hW.alike hK, hD9⟩⟩, hS.F ht⟩) hS.2.2 dX5_takeAlike_49
  obtain ⟨o3, hc3, hrun⟩ := bnd9 hrun
  refine L3 NF 0 o3 _ _ _ hc3 hP hD hK hS (lv_sub hl [1, 2, 3, 4, 5, 0] rfl) (fun r e9 => by subst e9; exact Option.some.inj hrun) ?_
  intro t3 e9
  subst e9
  replace hrun := el9 hrun
  intro H locs ls hP hD hK hS hl
  have hl := hl
  refine lv_iconst (v := 1) hx hb dX5_takeAlike_56 (by decide) ?_
  have ho9 : 1 = o := Option.some.inj hrun
  have hP9 : va_P (dC, dI) cls (List.flatten ([(oX5 (p0a 0) p0a p0k p0w p0l), (oX1 (p1a 0) p1a p1k p1n p1w p1l)] : List va_W)) H := by first | exact hP | (rw [← ho9]; exact hP)
  have hD9 : va_D A (List.flatten ([(oX5 (p0a 0) p0a p0k p0w p0l), (oX1 (p1a 0) p1a p1k p1n p1w p1l)] : List va_W)) := by first | exact hD | (rw [← ho9]; exact hD)
  subst hQ
  exact W.zret (v := 1) hx hb hr (by decide) (fun t ht hW => ⟨⟨1, (), rfl, (by rw [← ho9]), ⟨by rw [ht]; exact hP9, va_K.moved hW.alike hK, hD9⟩⟩, hS.F ht⟩) hS.2.2 dX5_takeAlike_57
def fX5_joinPhi_J93 (kk40 : Int32 → Option (Sum ST Unit)) (p1n : Nat → Nat) (p1w : ST) (v6_40 : Int32) : Option (Sum ST Unit) := (if ixb v6_40 (p1n 20) = true then (kk40 (p1w 20 (nn v6_40))) else none)
def fX5_joinPhi_L40 (p0w : ST) (p1n : Nat → Nat) (p1w : ST) (p2 : Int32) (p3 : Int32) : Nat → Int32 → Option (Sum ST Unit)
  | 0 => fun _ => none
  | n_40 + 1 => fun v6_40 => (if v6_40 < 0 then some (Sum.inr ()) else (if v6_40 = p3 then some (Sum.inr ()) else (if ixb v6_40 (p1n 19) = true then (if ixb (p1w 19 (nn v6_40)) 250 = true then (if 0 ≤ (p0w 6 (nn (p1w 19 (nn v6_40)))) then (fX5_joinPhi_J93 (fX5_joinPhi_L40 p0w p1n p1w p2 p3 n_40) p1n p1w v6_40) else ((fX5_takeAlike p0w p1n p1w p2 v6_40 p3).bind fun (o_12 : Int32) => (if o_12 = 0 then (fX5_joinPhi_J93 (fX5_joinPhi_L40 p0w p1n p1w p2 p3 n_40) p1n p1w v6_40) else (if ixb v6_40 (p1n 19) = true then (if ixb (p1w 19 (nn p3)) 250 = true then (lt9 (upw p0w 6 (nn (p1w 19 (nn p3))) (p1w 19 (nn v6_40))) fun (w17 : ST) => some (Sum.inl w17)) else none) else none)))) else none) else none)))
def fX5_joinPhi (p0w : ST) (p1n : Nat → Nat) (p1w : ST) (p2 : Int32) (p3 : Int32) : Option ST := (if ixb p3 (p1n 19) = true then ((fX5_onlyTake p0w p1n p1w p2 p3).bind fun (o_2 : Int32) => (if o_2 < 0 then (if ixb p2 60 = true then ((fX5_joinPhi_L40 p0w p1n p1w p2 p3 NF (p1w 6 (nn p2))).bind fun (o40 : (Sum ST Unit)) => Sum.elim (fun r => some r) (fun (t40 : Unit) => some p0w) o40) else none) else (if ixb (p1w 19 (nn p3)) 250 = true then (lt9 (upw p0w 6 (nn (p1w 19 (nn p3))) o_2) fun (w19 : ST) => some w19) else none))) else none)
set_option maxHeartbeats 16000000 in
set_option maxRecDepth 100000 in
theorem kX5_joinPhi {zs : ZS} (l : Launch) (dC : Nat → ClassId) (dI : Nat → Nat → Nat) (p0a : Nat → Nat) (p0k : Nat → ClassId) (p0w : ST) (p0l : SL) (p1a : Nat → Nat) (p1k : Nat → ClassId) (p1n : Nat → Nat) (p1w : ST) (p1l : SL) (p2 : Int32) (p3 : Int32) (sz : Nat) (o : ST) (hrun : fX5_joinPhi p0w p1n p1w p2 p3 = some o) : Met l yX5_joinPhi (wz yX5_joinPhi cX5_joinPhi 7 (Option.none : Option Jvm.ClassFile.FieldType)) ({ frames := 2, cells := 0, slots := 0, locals := 49 } : Room) (va_Pc [.ref (p0a 0), .ref (p1a 0), .int p2, .int p3] (PRE zs dC dI (List.flatten ([(oX5 (p0a 0) p0a p0k p0w p0l), (oX1 (p1a 0) p1a p1k p1n p1w p1l)] : List va_W)) (List.flatten ([(tX5 p0k), (tX1 p1k)] : List (List (ClassId × FieldType)))) sz)) (va_Qv (fun (_ : Unit) => True) (fun _ t => POST dC dI (List.flatten ([(oX5 (p0a 0) p0a p0k o p0l), (oX1 (p1a 0) p1a p1k p1n p1w p1l)] : List va_W)) (List.flatten ([(tX5 p0k), (tX1 p1k)] : List (List (ClassId × FieldType)))) (va_A (List.flatten ([(oX5 (p0a 0) p0a p0k p0w p0l), (oX1 (p1a 0) p1a p1k p1n p1w p1l)] : List va_W)) sz) t) (va_A (List.flatten ([(oX5 (p0a 0) p0a p0k p0w p0l), (oX1 (p1a 0) p1a p1k p1n p1w p1l)] : List va_W)) sz)) 0 0 (va_A (List.flatten ([(oX5 (p0a 0) p0a p0k p0w p0l), (oX1 (p1a 0) p1a p1k p1n p1w p1l)] : List va_W)) sz) := by
  refine Met.ofW (cc := cX5_joinPhi) (maxL := 7) (ret := (Option.none : Option Jvm.ClassFile.FieldType)) (by decide) rfl ?_
  intro p e s m args below meth c s₁ B hml hv
  obtain ⟨rfl, hsz, hP, hK, hD0, hE⟩ := hv
  have hx := B.exec
  have hb := B.bytes
  have hr := B.returns
  have hts0 := atoms_spec (ws := wz yX5_joinPhi cX5_joinPhi 7 (Option.none : Option Jvm.ClassFile.FieldType)) B.pre
  have hts : ∀ w ∈ gw, w.before _ s = true := fun w h => hts0 w (List.mem_cons_of_mem _ h)
  have hown : s.vm.findClass RX5 = some m.cls := findClass_of_methodNamed B.named
  have hlocks := B.notSynchronized
  subst hsz
  have hD := hD0.self (sz := s.heap.size)
  refine gQ9 ?_
  intro Q hQ
  generalize hAe : va_A (List.flatten ([(oX5 (p0a 0) p0a p0k p0w p0l), (oX1 (p1a 0) p1a p1k p1n p1w p1l)] : List va_W)) s.heap.size = A at hD hE hQ
  have hA : ∀ q : Nat, s.heap.size ≤ q → A q := fun q h => by rw [← hAe]; exact Or.inr h
  have hS : va_S A s.heap s.heap [] := va_S.rf
  have hP : va_P (dC, dI) cls (List.flatten ([(oX5 (p0a 0) p0a p0k p0w p0l), (oX1 (p1a 0) p1a p1k p1n p1w p1l)] : List va_W)) s.heap := hP
  have hl := lv_entry ([.ref (p0a 0), .ref (p1a 0), .int p2, .int p3]) (n := 7) (Nat.le_of_ble_eq_true rfl)
  rw [lg_entry_eq]
  generalize (lg_sl ([.ref (p0a 0), .ref (p1a 0), .int p2, .int p3]) ++ List.replicate (7 - (lg_sl ([.ref (p0a 0), .ref (p1a 0), .int p2, .int p3])).length) Slot.unset).toArray = ls at hl ⊢
  have hl : lv_has ls 7 [(0, .ref (p0a 0)), (1, .ref (p1a 0)), (2, .int p2), (3, .int p3)] := hl
  obtain ⟨H, hHe⟩ : ∃ H, H = s.heap := ⟨_, rfl⟩
  obtain ⟨locs, hle⟩ : ∃ locs : List Loc, locs = [] := ⟨_, rfl⟩
  rw [← hHe] at hP
  have hS : va_S A s.heap H locs := by rw [hHe, hle]; exact hS
  show W p l e ({ frames := 2, cells := 0, slots := 0, locals := 49 } : Room) s m ([.ref (p0a 0), .ref (p1a 0), .int p2, .int p3] : List Value).toArray below meth c s.heap [] 0 0 Q (F0 m 0 ls [])
  rw [← hle]
  refine wH9 hHe ?_
  unfold fX5_joinPhi at hrun
  refine lv_aload_n hx hb dX5_joinPhi_0 rfl (lv_at hl 1 rfl) ?_
  refine va_get (D := (dC, dI)) (ci := 4) (v := .ref (p1a 19)) (C := RX1) (T := TX1) (N := 21) hx hb hts i_X1 hown hK hP 10 rfl rfl 18 (by decide) (hts _ qw432) (fun _ h9 => h9) rfl dX5_joinPhi_1 ?_
  refine lv_iload_n hx hb dX5_joinPhi_4 rfl (lv_at hl 3 rfl) ?_
  obtain ⟨hq1, hrun⟩ := chk9 hrun
  refine va_iald hx hb hK hP 25 23 rfl rfl (ixb_in hq1) dX5_joinPhi_5 ?_
  refine lv_istore (lv' := [(4, .int (p1w 19 (nn p3))), (0, .ref (p0a 0)), (1, .ref (p1a 0)), (2, .int p2), (3, .int p3)]) hx hb dX5_joinPhi_6 hl (by decide) rfl (fun ls hl => ?_)
  refine lv_aload_n hx hb dX5_joinPhi_8 rfl (lv_at hl 1 rfl) ?_
  refine lv_aload_n hx hb dX5_joinPhi_9 rfl (lv_at hl 2 rfl) ?_
  refine lv_iload_n hx hb dX5_joinPhi_10 rfl (lv_at hl 3 rfl) ?_
  refine lv_iload_n hx hb dX5_joinPhi_11 rfl (lv_at hl 4 rfl) ?_
  obtain ⟨o_2, hc_2, hrun⟩ := bnd9 hrun
  have hPx : va_P (dC, dI) cls ((List.flatten ([(oX5 (p0a 0) p0a p0k p0w p0l), (oX1 (p1a 0) p1a p1k p1n p1w p1l)] : List va_W)) ++ (List.flatten ([] : List va_W))) H := vP_fa (vP_perm hP (bP (List.Perm.refl _)))
  have hDx : va_D A ((List.flatten ([(oX5 (p0a 0) p0a p0k p0w p0l), (oX1 (p1a 0) p1a p1k p1n p1w p1l)] : List va_W)) ++ (List.flatten ([] : List va_W))) := vD_fa (vD_perm hD (bP (List.Perm.refl _)))
  have hKx : va_K (dC, dI) cls ((List.flatten ([(tX5 p0k), (tX1 p1k)] : List (List (ClassId × FieldType)))) ++ (List.flatten ([] : List (List (ClassId × FieldType))))) s := vK_fa (vK_perm hK (bP (List.Perm.refl _)))
  have hPc := vP_l hPx
  have hDc := vD_l hDx
  have hKc := vK_l hKx
  have hFc := vfree hDx hS hA
  refine va_calli (va_runV (As := [.ref (p1a 0), .int p2, .int p3]) (rest := []) ⟨hx, hb, hml, hown, hts⟩ (kX5_onlyTake l dC dI (p0a := p0a) (p0k := p0k) (p0w := p0w) (p0l := p0l) (p1a := p1a) (p1k := p1k) (p1n := p1n) (p1w := p1w) (p1l := p1l) (p2 := p2) (p3 := p3) (sz := _) (o := o_2) (hrun := hc_2)) (cwV 3 hts (gi_V qw545 qw546 qw547 qw442 (gi_z qw544)) rfl rfl rfl (by decide +kernel) ⟨Nat.le_of_ble_eq_true rfl, Nat.le_of_ble_eq_true rfl⟩) ⟨PRE.blind, va_recv hKc hPc (ci := 7) (q0 := 0) rfl rfl, PRE.of hE hS hFc hPc hKc hDc⟩ rfl rfl hl.1 rfl (lv_room (Nat.le_of_ble_eq_true rfl)) dX5_joinPhi_12 ⟨(Nat.le_of_ble_eq_true rfl), (Nat.le_of_ble_eq_true rfl)⟩) hS (fun q _ h => hFc q h) hFc (fun r3 u t H locs ht hvm hw hB hz1 hk1 hS => ?_)
  obtain ⟨b1, b2, b3⟩ := hB
  rw [ht] at b1
  obtain ⟨hP, hD, hK⟩ := JOINC (wc := (List.flatten ([(oX5 (p0a 0) p0a p0k p0w p0l), (oX1 (p1a 0) p1a p1k p1n p1w p1l)] : List va_W))) (wr := (List.flatten ([] : List va_W))) (w1 := (List.flatten ([(oX5 (p0a 0) p0a p0k p0w p0l), (oX1 (p1a 0) p1a p1k p1n p1w p1l)] : List va_W))) (t1 := (List.flatten ([(tX5 p0k), (tX1 p1k)] : List (List (ClassId × FieldType))))) hPx hDx hKx hk1 hFc b1 (va_K.moved hvm.symm b2) b3
  have hP : va_P (dC, dI) cls (List.flatten ([(oX5 (p0a 0) p0a p0k p0w p0l), (oX1 (p1a 0) p1a p1k p1n p1w p1l)] : List va_W)) H := vP_perm (vP_fb hP) (bP (List.Perm.refl _))
  have hD : va_D A (List.flatten ([(oX5 (p0a 0) p0a p0k p0w p0l), (oX1 (p1a 0) p1a p1k p1n p1w p1l)] : List va_W)) := vD_perm (vD_fb hD) (bP (List.Perm.refl _))
  have hK : va_K (dC, dI) cls (List.flatten ([(tX5 p0k), (tX1 p1k)] : List (List (ClassId × FieldType)))) s := vK_perm (vK_fb hK) (bP (List.Perm.refl _))
  obtain rfl : o_2 = r3 := hw.symm
  refine lv_istore (lv' := [(5, .int o_2), (4, .int (p1w 19 (nn p3))), (0, .ref (p0a 0)), (1, .ref (p1a 0)), (2, .int p2), (3, .int p3)]) hx hb dX5_joinPhi_15 hl (by decide) rfl (fun ls hl => ?_)
  refine lv_iload hx hb dX5_joinPhi_17 (lv_at hl 0 rfl) ?_
  rcases br9 hrun with ⟨hc4, hrun⟩ | ⟨hc4, hrun⟩
  · refine lv_if_lt (tgt := 32) hx hb dX5_joinPhi_19 (by decide) (fun _ => ?_) (fun c => absurd hc4 c)
    refine lv_aload_n hx hb dX5_joinPhi_32 rfl (lv_at hl 3 rfl) ?_
    refine va_get (D := (dC, dI)) (ci := 4) (v := .ref (p1a 6)) (C := RX1) (T := TX1) (N := 21) hx hb hts i_X1 hown hK hP 10 rfl rfl 5 (by decide) (hts _ qw431) (fun _ h9 => h9) rfl dX5_joinPhi_33 ?_
    refine lv_iload_n hx hb dX5_joinPhi_36 rfl (lv_at hl 4 rfl) ?_
    obtain ⟨hq5, hrun⟩ := chk9 hrun
    refine va_iald hx hb hK hP 13 11 rfl rfl (ixb_in hq5) dX5_joinPhi_37 ?_
    refine lv_istore (lv' := [(6, .int (p1w 6 (nn p2))), (5, .int o_2), (4, .int (p1w 19 (nn p3))), (0, .ref (p0a 0)), (1, .ref (p1a 0)), (2, .int p2), (3, .int p3)]) hx hb dX5_joinPhi_38 hl (by decide) rfl (fun ls hl => ?_)
    have L40 : ∀ (n_40 : Nat) (v6_40 : Int32) (o40 : (Sum ST Unit)) (H : Heap) (locs : List Loc) (ls : Array Slot), (fX5_joinPhi_L40 p0w p1n p1w p2 p3 n_40) v6_40 = some o40 → va_P (dC, dI) cls (List.flatten ([(oX5 (p0a 0) p0a p0k p0w p0l), (oX1 (p1a 0) p1a p1k p1n p1w p1l)] : List va_W)) H → va_D A (List.flatten ([(oX5 (p0a 0) p0a p0k p0w p0l), (oX1 (p1a 0) p1a p1k p1n p1w p1l)] : List va_W)) → va_K (dC, dI) cls (List.flatten ([(tX5 p0k), (tX1 p1k)] : List (List (ClassId × FieldType)))) s → va_S A s.heap H locs → lv_has ls 7 [(0, .ref (p0a 0)), (1, .ref (p1a 0)), (2, .int p2), (3, .int p3), (4, .int (p1w 19 (nn p3))), (6, .int v6_40)] → (∀ r, o40 = Sum.inl r → r = o) → (∀ (t40 : Unit), o40 = Sum.inr t40 → ∀ (H : Heap) (locs : List Loc) (ls : Array Slot), va_P (dC, dI) cls (List.flatten ([(oX5 (p0a 0) p0a p0k p0w p0l), (oX1 (p1a 0) p1a p1k p1n p1w p1l)] : List va_W)) H → va_D A (List.flatten ([(oX5 (p0a 0) p0a p0k p0w p0l), (oX1 (p1a 0) p1a p1k p1n p1w p1l)] : List va_W)) → va_K (dC, dI) cls (List.flatten ([(tX5 p0k), (tX1 p1k)] : List (List (ClassId × FieldType)))) s → va_S A s.heap H locs → lv_has ls 7 [] → W p l e ({ frames := 2, cells := 0, slots := 0, locals := 49 } : Room) s m ([.ref (p0a 0), .ref (p1a 0), .int p2, .int p3] : List Value).toArray below meth c H locs 0 0 Q (F0 m 105 ls [])) → W p l e ({ frames := 2, cells := 0, slots := 0, locals := 49 } : Room) s m ([.ref (p0a 0), .ref (p1a 0), .int p2, .int p3] : List Value).toArray below meth c H locs 0 0 Q (F0 m 40 ls []) := by
      intro n_40
      induction n_40 with
      | zero => intro v6_40 o40 H locs ls hrun; exact (no9 rfl hrun).elim
      | succ n_40 IH40 =>
        intro v6_40 o40 H locs ls hrun hP hD hK hS hl hr40 hk40
        unfold fX5_joinPhi_L40 at hrun
        refine lv_iload hx hb dX5_joinPhi_40 (lv_at hl 5 rfl) ?_
        rcases br9 hrun with ⟨hc6, hrun⟩ | ⟨hc6, hrun⟩
        · refine lv_if_lt (tgt := 105) hx hb dX5_joinPhi_42 (by decide) (fun _ => ?_) (fun c => absurd hc6 c)
          obtain rfl := (Option.some.inj hrun)
          exact hk40 _ rfl _ _ _ hP hD hK hS (lv_sub hl [] rfl)
        · refine lv_if_lt (tgt := 105) hx hb dX5_joinPhi_42 (by decide) (fun c => absurd c hc6) (fun _ => ?_)
          refine lv_iload hx hb dX5_joinPhi_45 (lv_at hl 5 rfl) ?_
          refine lv_iload_n hx hb dX5_joinPhi_47 rfl (lv_at hl 3 rfl) ?_
          rcases br9 hrun with ⟨hc7, hrun⟩ | ⟨hc7, hrun⟩
          · refine lv_icmp_eq (tgt := 105) hx hb dX5_joinPhi_48 (by decide) (fun _ => ?_) (fun c => absurd hc7 c)
            obtain rfl := (Option.some.inj hrun)
            exact hk40 _ rfl _ _ _ hP hD hK hS (lv_sub hl [] rfl)
          · refine lv_icmp_eq (tgt := 105) hx hb dX5_joinPhi_48 (by decide) (fun c => absurd c hc7) (fun _ => ?_)
            refine lv_aload_n hx hb dX5_joinPhi_51 rfl (lv_at hl 0 rfl) ?_
            refine va_get (D := (dC, dI)) (ci := 7) (v := .ref (p0a 6)) (C := RX5) (T := TX5) (N := 12) hx hb hts i_X5 hown hK hP 0 rfl rfl 5 (by decide) (hts _ qw539) (fun _ h9 => h9) rfl dX5_joinPhi_52 ?_
            refine lv_aload_n hx hb dX5_joinPhi_55 rfl (lv_at hl 1 rfl) ?_
            refine va_get (D := (dC, dI)) (ci := 4) (v := .ref (p1a 19)) (C := RX1) (T := TX1) (N := 21) hx hb hts i_X1 hown hK hP 10 rfl rfl 18 (by decide) (hts _ qw432) (fun _ h9 => h9) rfl dX5_joinPhi_56 ?_
            refine lv_iload hx hb dX5_joinPhi_59 (lv_at hl 5 rfl) ?_
            obtain ⟨hq8, hrun⟩ := chk9 hrun
            refine va_iald hx hb hK hP 25 23 rfl rfl (ixb_in hq8) dX5_joinPhi_61 ?_
            obtain ⟨hq9, hrun⟩ := chk9 hrun
            refine va_iald hx hb hK hP 5 4 rfl rfl (ixb_in hq9) dX5_joinPhi_62 ?_
            have J93 : ∀ (H : Heap) (locs : List Loc) (ls : Array Slot), (fX5_joinPhi_J93 (fX5_joinPhi_L40 p0w p1n p1w p2 p3 n_40) p1n p1w v6_40) = some o40 → va_P (dC, dI) cls (List.flatten ([(oX5 (p0a 0) p0a p0k p0w p0l), (oX1 (p1a 0) p1a p1k p1n p1w p1l)] : List va_W)) H → va_D A (List.flatten ([(oX5 (p0a 0) p0a p0k p0w p0l), (oX1 (p1a 0) p1a p1k p1n p1w p1l)] : List va_W)) → va_K (dC, dI) cls (List.flatten ([(tX5 p0k), (tX1 p1k)] : List (List (ClassId × FieldType)))) s → va_S A s.heap H locs → lv_has ls 7 [(0, .ref (p0a 0)), (1, .ref (p1a 0)), (2, .int p2), (3, .int p3), (4, .int (p1w 19 (nn p3))), (6, .int v6_40)] → W p l e ({ frames := 2, cells := 0, slots := 0, locals := 49 } : Room) s m ([.ref (p0a 0), .ref (p1a 0), .int p2, .int p3] : List Value).toArray below meth c H locs 0 0 Q (F0 m 93 ls []) := by
              intro  H locs ls hrun hP hD hK hS hl 
              unfold fX5_joinPhi_J93 at hrun
              refine lv_aload_n hx hb dX5_joinPhi_93 rfl (lv_at hl 1 rfl) ?_
              refine va_get (D := (dC, dI)) (ci := 4) (v := .ref (p1a 20)) (C := RX1) (T := TX1) (N := 21) hx hb hts i_X1 hown hK hP 10 rfl rfl 19 (by decide) (hts _ qw433) (fun _ h9 => h9) rfl dX5_joinPhi_94 ?_
              refine lv_iload hx hb dX5_joinPhi_97 (lv_at hl 5 rfl) ?_
              obtain ⟨hq10, hrun⟩ := chk9 hrun
              refine va_iald hx hb hK hP 26 24 rfl rfl (ixb_in hq10) dX5_joinPhi_99 ?_
              refine lv_istore (lv' := [(6, .int (p1w 20 (nn v6_40))), (0, .ref (p0a 0)), (1, .ref (p1a 0)), (2, .int p2), (3, .int p3), (4, .int (p1w 19 (nn p3)))]) hx hb dX5_joinPhi_100 hl (by decide) rfl (fun ls hl => ?_)
              refine lv_goto (tgt := 40) hx hb dX5_joinPhi_102 (by decide) ?_
              exact IH40 (p1w 20 (nn v6_40)) o40 _ _ _ hrun hP hD hK hS (lv_sub hl [1, 2, 3, 4, 5, 0] rfl) hr40 hk40
            rcases br9 hrun with ⟨hc11, hrun⟩ | ⟨hc11, hrun⟩
            · refine lv_if_ge (tgt := 93) hx hb dX5_joinPhi_63 (by decide) (fun _ => ?_) (fun c => absurd hc11 c)
              exact J93 _ _ _ hrun hP hD hK hS (lv_sub hl [0, 1, 2, 3, 4, 5] rfl)
            · refine lv_if_ge (tgt := 93) hx hb dX5_joinPhi_63 (by decide) (fun c => absurd c hc11) (fun _ => ?_)
              refine lv_aload_n hx hb dX5_joinPhi_66 rfl (lv_at hl 0 rfl) ?_
              refine lv_aload_n hx hb dX5_joinPhi_67 rfl (lv_at hl 1 rfl) ?_
              refine lv_iload_n hx hb dX5_joinPhi_68 rfl (lv_at hl 2 rfl) ?_
              refine lv_iload hx hb dX5_joinPhi_69 (lv_at hl 5 rfl) ?_
              refine lv_iload_n hx hb dX5_joinPhi_71 rfl (lv_at hl 3 rfl) ?_
              obtain ⟨o_12, hc_12, hrun⟩ := bnd9 hrun
              have hPx : va_P (dC, dI) cls ((List.flatten ([(oX5 (p0a 0) p0a p0k p0w p0l), (oX1 (p1a 0) p1a p1k p1n p1w p1l)] : List va_W)) ++ (List.flatten ([] : List va_W))) H := vP_fa (vP_perm hP (bP (List.Perm.refl _)))
              have hDx : va_D A ((List.flatten ([(oX5 (p0a 0) p0a p0k p0w p0l), (oX1 (p1a 0) p1a p1k p1n p1w p1l)] : List va_W)) ++ (List.flatten ([] : List va_W))) := vD_fa (vD_perm hD (bP (List.Perm.refl _)))
              have hKx : va_K (dC, dI) cls ((List.flatten ([(tX5 p0k), (tX1 p1k)] : List (List (ClassId × FieldType)))) ++ (List.flatten ([] : List (List (ClassId × FieldType))))) s := vK_fa (vK_perm hK (bP (List.Perm.refl _)))
              have hPc := vP_l hPx
              have hDc := vD_l hDx
              have hKc := vK_l hKx
              have hFc := vfree hDx hS hA
              refine va_calli (va_runV (As := [.ref (p1a 0), .int p2, .int v6_40, .int p3]) (rest := []) ⟨hx, hb, hml, hown, hts⟩ (kX5_takeAlike l dC dI (p0a := p0a) (p0k := p0k) (p0w := p0w) (p0l := p0l) (p1a := p1a) (p1k := p1k) (p1n := p1n) (p1w := p1w) (p1l := p1l) (p2 := p2) (p3 := v6_40) (p4 := p3) (sz := _) (o := o_12) (hrun := hc_12)) (cwV 4 hts (gi_V qw549 qw550 qw551 qw442 (gi_z qw548)) rfl rfl rfl (by decide +kernel) ⟨Nat.le_of_ble_eq_true rfl, Nat.le_of_ble_eq_true rfl⟩) ⟨PRE.blind, va_recv hKc hPc (ci := 7) (q0 := 0) rfl rfl, PRE.of hE hS hFc hPc hKc hDc⟩ rfl rfl hl.1 rfl (lv_room (Nat.le_of_ble_eq_true rfl)) dX5_joinPhi_72 ⟨(Nat.le_of_ble_eq_true rfl), (Nat.le_of_ble_eq_true rfl)⟩) hS (fun q _ h => hFc q h) hFc (fun r13 u t H locs ht hvm hw hB hz1 hk1 hS => ?_)
              obtain ⟨b1, b2, b3⟩ := hB
              rw [ht] at b1
              obtain ⟨hP, hD, hK⟩ := JOINC (wc := (List.flatten ([(oX5 (p0a 0) p0a p0k p0w p0l), (oX1 (p1a 0) p1a p1k p1n p1w p1l)] : List va_W))) (wr := (List.flatten ([] : List va_W))) (w1 := (List.flatten ([(oX5 (p0a 0) p0a p0k p0w p0l), (oX1 (p1a 0) p1a p1k p1n p1w p1l)] : List va_W))) (t1 := (List.flatten ([(tX5 p0k), (tX1 p1k)] : List (List (ClassId × FieldType))))) hPx hDx hKx hk1 hFc b1 (va_K.moved hvm.symm b2) b3
              have hP : va_P (dC, dI) cls (List.flatten ([(oX5 (p0a 0) p0a p0k p0w p0l), (oX1 (p1a 0) p1a p1k p1n p1w p1l)] : List va_W)) H := vP_perm (vP_fb hP) (bP (List.Perm.refl _))
              have hD : va_D A (List.flatten ([(oX5 (p0a 0) p0a p0k p0w p0l), (oX1 (p1a 0) p1a p1k p1n p1w p1l)] : List va_W)) := vD_perm (vD_fb hD) (bP (List.Perm.refl _))
              have hK : va_K (dC, dI) cls (List.flatten ([(tX5 p0k), (tX1 p1k)] : List (List (ClassId × FieldType)))) s := vK_perm (vK_fb hK) (bP (List.Perm.refl _))
              obtain rfl : o_12 = r13 := hw.symm
              rcases br9 hrun with ⟨hc14, hrun⟩ | ⟨hc14, hrun⟩
              · refine lv_if_eq (tgt := 93) hx hb dX5_joinPhi_75 (by decide) (fun _ => ?_) (fun c => absurd hc14 c)
                exact J93 _ _ _ hrun hP hD hK hS (lv_sub hl [0, 1, 2, 3, 4, 5] rfl)
              · refine lv_if_eq (tgt := 93) hx hb dX5_joinPhi_75 (by decide) (fun c => absurd c hc14) (fun _ => ?_)
                refine lv_aload_n hx hb dX5_joinPhi_78 rfl (lv_at hl 0 rfl) ?_
                refine va_get (D := (dC, dI)) (ci := 7) (v := .ref (p0a 6)) (C := RX5) (T := TX5) (N := 12) hx hb hts i_X5 hown hK hP 0 rfl rfl 5 (by decide) (hts _ qw539) (fun _ h9 => h9) rfl dX5_joinPhi_79 ?_
                refine lv_iload hx hb dX5_joinPhi_82 (lv_at hl 4 rfl) ?_
                refine lv_aload_n hx hb dX5_joinPhi_84 rfl (lv_at hl 1 rfl) ?_
                refine va_get (D := (dC, dI)) (ci := 4) (v := .ref (p1a 19)) (C := RX1) (T := TX1) (N := 21) hx hb hts i_X1 hown hK hP 10 rfl rfl 18 (by decide) (hts _ qw432) (fun _ h9 => h9) rfl dX5_joinPhi_85 ?_
                refine lv_iload hx hb dX5_joinPhi_88 (lv_at hl 5 rfl) ?_
                obtain ⟨hq15, hrun⟩ := chk9 hrun
                refine va_iald hx hb hK hP 25 23 rfl rfl (ixb_in hq15) dX5_joinPhi_90 ?_
                obtain ⟨hq16, hrun⟩ := chk9 hrun
                refine va_iast hx hb hK hP hD hS 5 4 rfl rfl (ixb_in hq16) dX5_joinPhi_91 (fun H locs hP hD hS => ?_)
                have hP : va_P (dC, dI) cls (List.flatten ([(oX5 (p0a 0) p0a p0k (upw p0w 6 (nn (p1w 19 (nn p3))) (p1w 19 (nn v6_40))) p0l), (oX1 (p1a 0) p1a p1k p1n p1w p1l)] : List va_W)) H := hP
                have hD : va_D A (List.flatten ([(oX5 (p0a 0) p0a p0k (upw p0w 6 (nn (p1w 19 (nn p3))) (p1w 19 (nn v6_40))) p0l), (oX1 (p1a 0) p1a p1k p1n p1w p1l)] : List va_W)) := hD
                obtain ⟨w17, ew17, hrun⟩ := let9 hrun
                rw [← ew17] at hP hD
                have ho9 : w17 = o := hr40 _ (Option.some.inj hrun).symm
                have hP9 : va_P (dC, dI) cls (List.flatten ([(oX5 (p0a 0) p0a p0k o p0l), (oX1 (p1a 0) p1a p1k p1n p1w p1l)] : List va_W)) H := by first | exact hP | (rw [← ho9]; exact hP)
                have hD9 : va_D A (List.flatten ([(oX5 (p0a 0) p0a p0k o p0l), (oX1 (p1a 0) p1a p1k p1n p1w p1l)] : List va_W)) := by first | exact hD | (rw [← ho9]; exact hD)
                subst hQ
                exact W.vret hx hb hr (fun t ht hW => ⟨⟨(), rfl, trivial, ⟨by rw [ht]; exact hP9, va_K.moved hW.alike hK, hD9⟩⟩, hS.F ht⟩) hS.2.2 dX5_joinPhi_92
    obtain ⟨o40, hc40, hrun⟩ := bnd9 hrun
    refine L40 NF (p1w 6 (nn p2)) o40 _ _ _ hc40 hP hD hK hS (lv_sub hl [3, 4, 5, 6, 2, 0] rfl) (fun r e9 => by subst e9; exact Option.some.inj hrun) ?_
    intro t40 e9
    subst e9
    replace hrun := el9 hrun
    intro H locs ls hP hD hK hS hl
    have hl := hl
    have ho9 : p0w = o := Option.some.inj hrun
    have hP9 : va_P (dC, dI) cls (List.flatten ([(oX5 (p0a 0) p0a p0k o p0l), (oX1 (p1a 0) p1a p1k p1n p1w p1l)] : List va_W)) H := by first | exact hP | (rw [← ho9]; exact hP)
    have hD9 : va_D A (List.flatten ([(oX5 (p0a 0) p0a p0k o p0l), (oX1 (p1a 0) p1a p1k p1n p1w p1l)] : List va_W)) := by first | exact hD | (rw [← ho9]; exact hD)
    subst hQ
    exact W.vret hx hb hr (fun t ht hW => ⟨⟨(), rfl, trivial, ⟨by rw [ht]; exact hP9, va_K.moved hW.alike hK, hD9⟩⟩, hS.F ht⟩) hS.2.2 dX5_joinPhi_105
  · refine lv_if_lt (tgt := 32) hx hb dX5_joinPhi_19 (by decide) (fun c => absurd c hc4) (fun _ => ?_)
    refine lv_aload_n hx hb dX5_joinPhi_22 rfl (lv_at hl 2 rfl) ?_
    refine va_get (D := (dC, dI)) (ci := 7) (v := .ref (p0a 6)) (C := RX5) (T := TX5) (N := 12) hx hb hts i_X5 hown hK hP 0 rfl rfl 5 (by decide) (hts _ qw539) (fun _ h9 => h9) rfl dX5_joinPhi_23 ?_
    refine lv_iload hx hb dX5_joinPhi_26 (lv_at hl 1 rfl) ?_
    refine lv_iload hx hb dX5_joinPhi_28 (lv_at hl 0 rfl) ?_
    obtain ⟨hq18, hrun⟩ := chk9 hrun
    refine va_iast hx hb hK hP hD hS 5 4 rfl rfl (ixb_in hq18) dX5_joinPhi_30 (fun H locs hP hD hS => ?_)
    have hP : va_P (dC, dI) cls (List.flatten ([(oX5 (p0a 0) p0a p0k (upw p0w 6 (nn (p1w 19 (nn p3))) o_2) p0l), (oX1 (p1a 0) p1a p1k p1n p1w p1l)] : List va_W)) H := hP
    have hD : va_D A (List.flatten ([(oX5 (p0a 0) p0a p0k (upw p0w 6 (nn (p1w 19 (nn p3))) o_2) p0l), (oX1 (p1a 0) p1a p1k p1n p1w p1l)] : List va_W)) := hD
    obtain ⟨w19, ew19, hrun⟩ := let9 hrun
    rw [← ew19] at hP hD
    have ho9 : w19 = o := Option.some.inj hrun
    have hP9 : va_P (dC, dI) cls (List.flatten ([(oX5 (p0a 0) p0a p0k o p0l), (oX1 (p1a 0) p1a p1k p1n p1w p1l)] : List va_W)) H := by first | exact hP | (rw [← ho9]; exact hP)
    have hD9 : va_D A (List.flatten ([(oX5 (p0a 0) p0a p0k o p0l), (oX1 (p1a 0) p1a p1k p1n p1w p1l)] : List va_W)) := by first | exact hD | (rw [← ho9]; exact hD)
    subst hQ
    exact W.vret hx hb hr (fun t ht hW => ⟨⟨(), rfl, trivial, ⟨by rw [ht]; exact hP9, va_K.moved hW.alike hK, hD9⟩⟩, hS.F ht⟩) hS.2.2 dX5_joinPhi_31
def fX5_joinSeen_J133 (kk9 : Int32 → Option (Sum ST Unit)) (v5_9 : Int32) : Option (Sum ST Unit) := (kk9 (v5_9 + 1))
def fX5_joinSeen_J86 (kk9 : Int32 → Option (Sum ST Unit)) (p0w : ST) (p1l : SL) (p2 : Int32) (p3 : Int32) (p1_2n : Nat → Nat) (p1_2w : ST) (v5_9 : Int32) (y0_86 : Int32) : Option (Sum ST Unit) := (if y0_86 = 0 then (fX5_joinSeen_J133 kk9 v5_9) else (if ixb p2 60 = true then (if ixb v5_9 250 = true then ((fX11_holds (p1l 16 (nn p2)) (p0w 10 (nn v5_9))).bind fun (o_8 : Int32) => (if o_8 = 0 then (fX5_joinSeen_J133 kk9 v5_9) else (if ixb p3 (p1_2n 3) = true then (if ixb (p0w 9 (nn v5_9)) (p1_2n 3) = true then (if ixb (p1_2w 3 (nn p3)) 250 = true then (lt9 (upw p0w 6 (nn (p1_2w 3 (nn p3))) (p1_2w 3 (nn (p0w 9 (nn v5_9))))) fun (w14 : ST) => some (Sum.inl w14)) else none) else none) else none))) else none) else none))
def fX5_joinSeen_J85 (kk9 : Int32 → Option (Sum ST Unit)) (p0w : ST) (p1l : SL) (p2 : Int32) (p3 : Int32) (p1_2n : Nat → Nat) (p1_2w : ST) (v5_9 : Int32) : Option (Sum ST Unit) := (fX5_joinSeen_J86 kk9 p0w p1l p2 p3 p1_2n p1_2w v5_9 0)
def fX5_joinSeen_L9 (p0w : ST) (p1l : SL) (p2 : Int32) (p3 : Int32) (p1_2n : Nat → Nat) (p1_2w : ST) : Nat → Int32 → Option (Sum ST Unit)
  | 0 => fun _ => none
  | n_9 + 1 => fun v5_9 => (if (p0w 0 10) ≤ v5_9 then some (Sum.inr ()) else (if ixb v5_9 250 = true then (if ixb (p0w 9 (nn v5_9)) (p1_2n 2) = true then (if ixb p3 (p1_2n 2) = true then (if (p1_2w 2 (nn (p0w 9 (nn v5_9)))) = (p1_2w 2 (nn p3)) then (if ixb (p0w 9 (nn v5_9)) (p1_2n 4) = true then (if ixb p3 (p1_2n 4) = true then (if (p1_2w 4 (nn (p0w 9 (nn v5_9)))) = (p1_2w 4 (nn p3)) then (if ixb (p0w 9 (nn v5_9)) (p1_2n 5) = true then (if ixb p3 (p1_2n 5) = true then (if (p1_2w 5 (nn (p0w 9 (nn v5_9)))) = (p1_2w 5 (nn p3)) then (fX5_joinSeen_J86 (fX5_joinSeen_L9 p0w p1l p2 p3 p1_2n p1_2w n_9) p0w p1l p2 p3 p1_2n p1_2w v5_9 1) else (fX5_joinSeen_J85 (fX5_joinSeen_L9 p0w p1l p2 p3 p1_2n p1_2w n_9) p0w p1l p2 p3 p1_2n p1_2w v5_9)) else none) else none) else (fX5_joinSeen_J85 (fX5_joinSeen_L9 p0w p1l p2 p3 p1_2n p1_2w n_9) p0w p1l p2 p3 p1_2n p1_2w v5_9)) else none) else none) else (fX5_joinSeen_J85 (fX5_joinSeen_L9 p0w p1l p2 p3 p1_2n p1_2w n_9) p0w p1l p2 p3 p1_2n p1_2w v5_9)) else none) else none) else none))
def fX5_joinSeen_J179 (p0w_179 : ST) : Option ST := some p0w_179
def fX5_joinSeen (p0w : ST) (p1l : SL) (p2 : Int32) (p3 : Int32) (p1_2n : Nat → Nat) (p1_2w : ST) : Option ST := ((fX5_joinSeen_L9 p0w p1l p2 p3 p1_2n p1_2w NF 0).bind fun (o9 : (Sum ST Unit)) => Sum.elim (fun r => some r) (fun (t9 : Unit) => (if 250 ≤ (p0w 0 10) then (fX5_joinSeen_J179 p0w) else (if ixb (p0w 0 10) 250 = true then (lt9 (upw p0w 9 (nn (p0w 0 10)) p3) fun (w24 : ST) => (if ixb (w24 0 10) 250 = true then (lt9 (upw w24 10 (nn (w24 0 10)) p2) fun (w26 : ST) => (lt9 (upw w26 0 10 ((w26 0 10) + 1)) fun (w27 : ST) => (fX5_joinSeen_J179 w27))) else none)) else none))) o9)
set_option maxHeartbeats 16000000 in
set_option maxRecDepth 100000 in
theorem kX5_joinSeen {zs : ZS} (l : Launch) (dC : Nat → ClassId) (dI : Nat → Nat → Nat) (p0a : Nat → Nat) (p0k : Nat → ClassId) (p0w : ST) (p0l : SL) (p1a : Nat → Nat) (p1k : Nat → ClassId) (p1n : Nat → Nat) (p1w : ST) (p1l : SL) (p2 : Int32) (p3 : Int32) (p1_2a : Nat → Nat) (p1_2k : Nat → ClassId) (p1_2n : Nat → Nat) (p1_2w : ST) (sz : Nat) (o : ST) (hrun : fX5_joinSeen p0w p1l p2 p3 p1_2n p1_2w = some o) : Met l yX5_joinSeen (wz yX5_joinSeen cX5_joinSeen 8 (Option.none : Option Jvm.ClassFile.FieldType)) ({ frames := 1, cells := 0, slots := 0, locals := 22 } : Room) (va_Pc [.ref (p0a 0), .ref (p1a 0), .int p2, .int p3] (PRE zs dC dI (List.flatten ([(oX5 (p0a 0) p0a p0k p0w p0l), (oX1 (p1a 0) p1a p1k p1n p1w p1l), (oX9 (p1a 3) p1_2a p1_2k p1_2n p1_2w)] : List va_W)) (List.flatten ([(tX5 p0k), (tX1 p1k), (tX9 p1_2k)] : List (List (ClassId × FieldType)))) sz)) (va_Qv (fun (_ : Unit) => True) (fun _ t => POST dC dI (List.flatten ([(oX5 (p0a 0) p0a p0k o p0l), (oX1 (p1a 0) p1a p1k p1n p1w p1l), (oX9 (p1a 3) p1_2a p1_2k p1_2n p1_2w)] : List va_W)) (List.flatten ([(tX5 p0k), (tX1 p1k), (tX9 p1_2k)] : List (List (ClassId × FieldType)))) (va_A (List.flatten ([(oX5 (p0a 0) p0a p0k p0w p0l), (oX1 (p1a 0) p1a p1k p1n p1w p1l), (oX9 (p1a 3) p1_2a p1_2k p1_2n p1_2w)] : List va_W)) sz) t) (va_A (List.flatten ([(oX5 (p0a 0) p0a p0k p0w p0l), (oX1 (p1a 0) p1a p1k p1n p1w p1l), (oX9 (p1a 3) p1_2a p1_2k p1_2n p1_2w)] : List va_W)) sz)) 0 0 (va_A (List.flatten ([(oX5 (p0a 0) p0a p0k p0w p0l), (oX1 (p1a 0) p1a p1k p1n p1w p1l), (oX9 (p1a 3) p1_2a p1_2k p1_2n p1_2w)] : List va_W)) sz) := by
  refine Met.ofW (cc := cX5_joinSeen) (maxL := 8) (ret := (Option.none : Option Jvm.ClassFile.FieldType)) (by decide) rfl ?_
  intro p e s m args below meth c s₁ B hml hv
  obtain ⟨rfl, hsz, hP, hK, hD0, hE⟩ := hv
  have hx := B.exec
  have hb := B.bytes
  have hr := B.returns
  have hts0 := atoms_spec (ws := wz yX5_joinSeen cX5_joinSeen 8 (Option.none : Option Jvm.ClassFile.FieldType)) B.pre
  have hts : ∀ w ∈ gw, w.before _ s = true := fun w h => hts0 w (List.mem_cons_of_mem _ h)
  have hown : s.vm.findClass RX5 = some m.cls := findClass_of_methodNamed B.named
  have hlocks := B.notSynchronized
  subst hsz
  have hD := hD0.self (sz := s.heap.size)
  refine gQ9 ?_
  intro Q hQ
  generalize hAe : va_A (List.flatten ([(oX5 (p0a 0) p0a p0k p0w p0l), (oX1 (p1a 0) p1a p1k p1n p1w p1l), (oX9 (p1a 3) p1_2a p1_2k p1_2n p1_2w)] : List va_W)) s.heap.size = A at hD hE hQ
  have hA : ∀ q : Nat, s.heap.size ≤ q → A q := fun q h => by rw [← hAe]; exact Or.inr h
  have hS : va_S A s.heap s.heap [] := va_S.rf
  have hP : va_P (dC, dI) cls (List.flatten ([(oX5 (p0a 0) p0a p0k p0w p0l), (oX1 (p1a 0) p1a p1k p1n p1w p1l), (oX9 (p1a 3) p1_2a p1_2k p1_2n p1_2w)] : List va_W)) s.heap := hP
  have hl := lv_entry ([.ref (p0a 0), .ref (p1a 0), .int p2, .int p3]) (n := 8) (Nat.le_of_ble_eq_true rfl)
  rw [lg_entry_eq]
  generalize (lg_sl ([.ref (p0a 0), .ref (p1a 0), .int p2, .int p3]) ++ List.replicate (8 - (lg_sl ([.ref (p0a 0), .ref (p1a 0), .int p2, .int p3])).length) Slot.unset).toArray = ls at hl ⊢
  have hl : lv_has ls 8 [(0, .ref (p0a 0)), (1, .ref (p1a 0)), (2, .int p2), (3, .int p3)] := hl
  obtain ⟨H, hHe⟩ : ∃ H, H = s.heap := ⟨_, rfl⟩
  obtain ⟨locs, hle⟩ : ∃ locs : List Loc, locs = [] := ⟨_, rfl⟩
  rw [← hHe] at hP
  have hS : va_S A s.heap H locs := by rw [hHe, hle]; exact hS
  show W p l e ({ frames := 1, cells := 0, slots := 0, locals := 22 } : Room) s m ([.ref (p0a 0), .ref (p1a 0), .int p2, .int p3] : List Value).toArray below meth c s.heap [] 0 0 Q (F0 m 0 ls [])
  rw [← hle]
  refine wH9 hHe ?_
  unfold fX5_joinSeen at hrun
  refine lv_aload_n hx hb dX5_joinSeen_0 rfl (lv_at hl 1 rfl) ?_
  refine va_get (D := (dC, dI)) (ci := 4) (v := .ref (p1a 3)) (C := RX1) (T := TX1) (N := 21) hx hb hts i_X1 hown hK hP 10 rfl rfl 2 (by decide) (hts _ qw435) (fun _ h9 => h9) rfl dX5_joinSeen_1 ?_
  refine lv_astore (lv' := [(4, .ref (p1a 3)), (0, .ref (p0a 0)), (1, .ref (p1a 0)), (2, .int p2), (3, .int p3)]) hx hb dX5_joinSeen_4 hl (by decide) rfl (fun ls hl => ?_)
  refine lv_iconst (v := 0) hx hb dX5_joinSeen_6 (by decide) ?_
  refine lv_istore (lv' := [(5, .int 0), (4, .ref (p1a 3)), (0, .ref (p0a 0)), (1, .ref (p1a 0)), (2, .int p2), (3, .int p3)]) hx hb dX5_joinSeen_7 hl (by decide) rfl (fun ls hl => ?_)
  have L9 : ∀ (n_9 : Nat) (v5_9 : Int32) (o9 : (Sum ST Unit)) (H : Heap) (locs : List Loc) (ls : Array Slot), (fX5_joinSeen_L9 p0w p1l p2 p3 p1_2n p1_2w n_9) v5_9 = some o9 → va_P (dC, dI) cls (List.flatten ([(oX5 (p0a 0) p0a p0k p0w p0l), (oX1 (p1a 0) p1a p1k p1n p1w p1l), (oX9 (p1a 3) p1_2a p1_2k p1_2n p1_2w)] : List va_W)) H → va_D A (List.flatten ([(oX5 (p0a 0) p0a p0k p0w p0l), (oX1 (p1a 0) p1a p1k p1n p1w p1l), (oX9 (p1a 3) p1_2a p1_2k p1_2n p1_2w)] : List va_W)) → va_K (dC, dI) cls (List.flatten ([(tX5 p0k), (tX1 p1k), (tX9 p1_2k)] : List (List (ClassId × FieldType)))) s → va_S A s.heap H locs → lv_has ls 8 [(0, .ref (p0a 0)), (1, .ref (p1a 0)), (2, .int p2), (3, .int p3), (4, .ref (p1a 3)), (5, .int v5_9)] → (∀ r, o9 = Sum.inl r → r = o) → (∀ (t9 : Unit), o9 = Sum.inr t9 → ∀ (H : Heap) (locs : List Loc) (ls : Array Slot), va_P (dC, dI) cls (List.flatten ([(oX5 (p0a 0) p0a p0k p0w p0l), (oX1 (p1a 0) p1a p1k p1n p1w p1l), (oX9 (p1a 3) p1_2a p1_2k p1_2n p1_2w)] : List va_W)) H → va_D A (List.flatten ([(oX5 (p0a 0) p0a p0k p0w p0l), (oX1 (p1a 0) p1a p1k p1n p1w p1l), (oX9 (p1a 3) p1_2a p1_2k p1_2n p1_2w)] : List va_W)) → va_K (dC, dI) cls (List.flatten ([(tX5 p0k), (tX1 p1k), (tX9 p1_2k)] : List (List (ClassId × FieldType)))) s → va_S A s.heap H locs → lv_has ls 8 [(0, .ref (p0a 0)), (2, .int p2), (3, .int p3)] → W p l e ({ frames := 1, cells := 0, slots := 0, locals := 22 } : Room) s m ([.ref (p0a 0), .ref (p1a 0), .int p2, .int p3] : List Value).toArray below meth c H locs 0 0 Q (F0 m 139 ls [])) → W p l e ({ frames := 1, cells := 0, slots := 0, locals := 22 } : Room) s m ([.ref (p0a 0), .ref (p1a 0), .int p2, .int p3] : List Value).toArray below meth c H locs 0 0 Q (F0 m 9 ls []) := by
    intro n_9
    induction n_9 with
    | zero => intro v5_9 o9 H locs ls hrun; exact (no9 rfl hrun).elim
    | succ n_9 IH9 =>
      intro v5_9 o9 H locs ls hrun hP hD hK hS hl hr9 hk9
      unfold fX5_joinSeen_L9 at hrun
      refine lv_iload hx hb dX5_joinSeen_9 (lv_at hl 5 rfl) ?_
      refine lv_aload_n hx hb dX5_joinSeen_11 rfl (lv_at hl 0 rfl) ?_
      refine va_get (D := (dC, dI)) (ci := 7) (v := .int (p0w 0 10)) (C := RX5) (T := TX5) (N := 12) hx hb hts i_X5 hown hK hP 0 rfl rfl 10 (by decide) (hts _ qw556) (fun _ h9 => h9) rfl dX5_joinSeen_12 ?_
      rcases br9 hrun with ⟨hc1, hrun⟩ | ⟨hc1, hrun⟩
      · refine lv_icmp_ge (tgt := 139) hx hb dX5_joinSeen_15 (by decide) (fun _ => ?_) (fun c => absurd hc1 c)
        obtain rfl := (Option.some.inj hrun)
        exact hk9 _ rfl _ _ _ hP hD hK hS (lv_sub hl [0, 2, 3] rfl)
      · refine lv_icmp_ge (tgt := 139) hx hb dX5_joinSeen_15 (by decide) (fun c => absurd c hc1) (fun _ => ?_)
        refine lv_aload_n hx hb dX5_joinSeen_18 rfl (lv_at hl 0 rfl) ?_
        refine va_get (D := (dC, dI)) (ci := 7) (v := .ref (p0a 9)) (C := RX5) (T := TX5) (N := 12) hx hb hts i_X5 hown hK hP 0 rfl rfl 8 (by decide) (hts _ qw557) (fun _ h9 => h9) rfl dX5_joinSeen_19 ?_
        refine lv_iload hx hb dX5_joinSeen_22 (lv_at hl 5 rfl) ?_
        obtain ⟨hq2, hrun⟩ := chk9 hrun
        refine va_iald hx hb hK hP 7 6 rfl rfl (ixb_in hq2) dX5_joinSeen_24 ?_
        refine lv_istore (lv' := [(6, .int (p0w 9 (nn v5_9))), (0, .ref (p0a 0)), (1, .ref (p1a 0)), (2, .int p2), (3, .int p3), (4, .ref (p1a 3)), (5, .int v5_9)]) hx hb dX5_joinSeen_25 hl (by decide) rfl (fun ls hl => ?_)
        refine lv_aload hx hb dX5_joinSeen_27 (lv_at hl 5 rfl) ?_
        refine va_get (D := (dC, dI)) (ci := 3) (v := .ref (p1_2a 2)) (C := RX9) (T := TX9) (N := 6) hx hb hts i_X9 hown hK hP 28 rfl rfl 1 (by decide) (hts _ qw420) (fun _ h9 => h9) rfl dX5_joinSeen_29 ?_
        refine lv_iload hx hb dX5_joinSeen_32 (lv_at hl 0 rfl) ?_
        obtain ⟨hq3, hrun⟩ := chk9 hrun
        refine va_iald hx hb hK hP 29 26 rfl rfl (ixb_in hq3) dX5_joinSeen_34 ?_
        refine lv_aload hx hb dX5_joinSeen_35 (lv_at hl 5 rfl) ?_
        refine va_get (D := (dC, dI)) (ci := 3) (v := .ref (p1_2a 2)) (C := RX9) (T := TX9) (N := 6) hx hb hts i_X9 hown hK hP 28 rfl rfl 1 (by decide) (hts _ qw420) (fun _ h9 => h9) rfl dX5_joinSeen_37 ?_
        refine lv_iload_n hx hb dX5_joinSeen_40 rfl (lv_at hl 4 rfl) ?_
        obtain ⟨hq4, hrun⟩ := chk9 hrun
        refine va_iald hx hb hK hP 29 26 rfl rfl (ixb_in hq4) dX5_joinSeen_41 ?_
        have J86 : ∀ (y0_86 : Int32) (H : Heap) (locs : List Loc) (ls : Array Slot), (fX5_joinSeen_J86 (fX5_joinSeen_L9 p0w p1l p2 p3 p1_2n p1_2w n_9) p0w p1l p2 p3 p1_2n p1_2w v5_9 y0_86) = some o9 → va_P (dC, dI) cls (List.flatten ([(oX5 (p0a 0) p0a p0k p0w p0l), (oX1 (p1a 0) p1a p1k p1n p1w p1l), (oX9 (p1a 3) p1_2a p1_2k p1_2n p1_2w)] : List va_W)) H → va_D A (List.flatten ([(oX5 (p0a 0) p0a p0k p0w p0l), (oX1 (p1a 0) p1a p1k p1n p1w p1l), (oX9 (p1a 3) p1_2a p1_2k p1_2n p1_2w)] : List va_W)) → va_K (dC, dI) cls (List.flatten ([(tX5 p0k), (tX1 p1k), (tX9 p1_2k)] : List (List (ClassId × FieldType)))) s → va_S A s.heap H locs → lv_has ls 8 [(0, .ref (p0a 0)), (1, .ref (p1a 0)), (2, .int p2), (3, .int p3), (4, .ref (p1a 3)), (5, .int v5_9), (6, .int (p0w 9 (nn v5_9)))] → W p l e ({ frames := 1, cells := 0, slots := 0, locals := 22 } : Room) s m ([.ref (p0a 0), .ref (p1a 0), .int p2, .int p3] : List Value).toArray below meth c H locs 0 0 Q (F0 m 86 ls [.int y0_86]) := by
          intro y0_86 H locs ls hrun hP hD hK hS hl 
          unfold fX5_joinSeen_J86 at hrun
          refine lv_istore (lv' := [(7, .int y0_86), (0, .ref (p0a 0)), (1, .ref (p1a 0)), (2, .int p2), (3, .int p3), (4, .ref (p1a 3)), (5, .int v5_9), (6, .int (p0w 9 (nn v5_9)))]) hx hb dX5_joinSeen_86 hl (by decide) rfl (fun ls hl => ?_)
          refine lv_iload hx hb dX5_joinSeen_88 (lv_at hl 0 rfl) ?_
          have J133 : ∀ (H : Heap) (locs : List Loc) (ls : Array Slot), (fX5_joinSeen_J133 (fX5_joinSeen_L9 p0w p1l p2 p3 p1_2n p1_2w n_9) v5_9) = some o9 → va_P (dC, dI) cls (List.flatten ([(oX5 (p0a 0) p0a p0k p0w p0l), (oX1 (p1a 0) p1a p1k p1n p1w p1l), (oX9 (p1a 3) p1_2a p1_2k p1_2n p1_2w)] : List va_W)) H → va_D A (List.flatten ([(oX5 (p0a 0) p0a p0k p0w p0l), (oX1 (p1a 0) p1a p1k p1n p1w p1l), (oX9 (p1a 3) p1_2a p1_2k p1_2n p1_2w)] : List va_W)) → va_K (dC, dI) cls (List.flatten ([(tX5 p0k), (tX1 p1k), (tX9 p1_2k)] : List (List (ClassId × FieldType)))) s → va_S A s.heap H locs → lv_has ls 8 [(0, .ref (p0a 0)), (1, .ref (p1a 0)), (2, .int p2), (3, .int p3), (4, .ref (p1a 3)), (5, .int v5_9)] → W p l e ({ frames := 1, cells := 0, slots := 0, locals := 22 } : Room) s m ([.ref (p0a 0), .ref (p1a 0), .int p2, .int p3] : List Value).toArray below meth c H locs 0 0 Q (F0 m 133 ls []) := by
            intro  H locs ls hrun hP hD hK hS hl 
            unfold fX5_joinSeen_J133 at hrun
            refine lv_iinc (v := (v5_9 + 1)) (lv' := [(5, .int (v5_9 + 1)), (0, .ref (p0a 0)), (1, .ref (p1a 0)), (2, .int p2), (3, .int p3), (4, .ref (p1a 3))]) hx hb dX5_joinSeen_133 hl (k := 5) rfl rfl (by decide) rfl (fun ls hl => ?_)
            refine lv_goto (tgt := 9) hx hb dX5_joinSeen_136 (by decide) ?_
            exact IH9 (v5_9 + 1) o9 _ _ _ hrun hP hD hK hS (lv_sub hl [1, 2, 3, 4, 5, 0] rfl) hr9 hk9
          rcases br9 hrun with ⟨hc5, hrun⟩ | ⟨hc5, hrun⟩
          · refine lv_if_eq (tgt := 133) hx hb dX5_joinSeen_90 (by decide) (fun _ => ?_) (fun c => absurd hc5 c)
            exact J133 _ _ _ hrun hP hD hK hS (lv_sub hl [1, 2, 3, 4, 5, 6] rfl)
          · refine lv_if_eq (tgt := 133) hx hb dX5_joinSeen_90 (by decide) (fun c => absurd c hc5) (fun _ => ?_)
            refine lv_aload_n hx hb dX5_joinSeen_93 rfl (lv_at hl 2 rfl) ?_
            refine va_get (D := (dC, dI)) (ci := 4) (v := .ref (p1a 16)) (C := RX1) (T := TX1) (N := 21) hx hb hts i_X1 hown hK hP 10 rfl rfl 15 (by decide) (hts _ qw558) (fun _ h9 => h9) rfl dX5_joinSeen_94 ?_
            refine lv_iload_n hx hb dX5_joinSeen_97 rfl (lv_at hl 3 rfl) ?_
            obtain ⟨hq6, hrun⟩ := chk9 hrun
            refine va_lald hx hb hK hP 23 21 rfl rfl (ixb_in hq6) dX5_joinSeen_98 ?_
            refine lv_aload_n hx hb dX5_joinSeen_99 rfl (lv_at hl 1 rfl) ?_
            refine va_get (D := (dC, dI)) (ci := 7) (v := .ref (p0a 10)) (C := RX5) (T := TX5) (N := 12) hx hb hts i_X5 hown hK hP 0 rfl rfl 9 (by decide) (hts _ qw559) (fun _ h9 => h9) rfl dX5_joinSeen_100 ?_
            refine lv_iload hx hb dX5_joinSeen_103 (lv_at hl 6 rfl) ?_
            obtain ⟨hq7, hrun⟩ := chk9 hrun
            refine va_iald hx hb hK hP 8 7 rfl rfl (ixb_in hq7) dX5_joinSeen_105 ?_
            obtain ⟨o_8, hc_8, hrun⟩ := bnd9 hrun
            have hPx : va_P (dC, dI) cls ((List.flatten ([] : List va_W)) ++ (List.flatten ([(oX5 (p0a 0) p0a p0k p0w p0l), (oX1 (p1a 0) p1a p1k p1n p1w p1l), (oX9 (p1a 3) p1_2a p1_2k p1_2n p1_2w)] : List va_W))) H := vP_fa (vP_perm hP (bP (List.Perm.refl _)))
            have hDx : va_D A ((List.flatten ([] : List va_W)) ++ (List.flatten ([(oX5 (p0a 0) p0a p0k p0w p0l), (oX1 (p1a 0) p1a p1k p1n p1w p1l), (oX9 (p1a 3) p1_2a p1_2k p1_2n p1_2w)] : List va_W))) := vD_fa (vD_perm hD (bP (List.Perm.refl _)))
            have hKx : va_K (dC, dI) cls ((List.flatten ([] : List (List (ClassId × FieldType)))) ++ (List.flatten ([(tX5 p0k), (tX1 p1k), (tX9 p1_2k)] : List (List (ClassId × FieldType))))) s := vK_fa (vK_perm hK (bP (List.Perm.refl _)))
            have hPc := vP_l hPx
            have hDc := vD_l hDx
            have hKc := vK_l hKx
            have hFc := vfree hDx hS hA
            refine va_calli (va_runSN (As := [.long (p1l 16 (nn p2)), .int (p0w 10 (nn v5_9))]) (rest := []) ⟨hx, hb, hml, hown, hts⟩ (kX11_holds l dC dI (p0 := (p1l 16 (nn p2))) (p1 := (p0w 10 (nn v5_9))) (sz := _) (o := o_8) (hrun := hc_8)) ⟨(va_cnB 2 hts (gi_z qw192) rfl rfl rfl (hE.nw (List.mem_append_right _ (tbl_7 (i := 146) rfl)) rfl) (hts _ qw129) (by decide +kernel) ⟨Nat.le_of_ble_eq_true rfl, Nat.le_of_ble_eq_true rfl⟩), (hts _ qw193), trivial⟩ ⟨PRE.blind, PRE.of hE hS hFc hPc hKc hDc⟩ rfl rfl hl.1 rfl (lv_room (Nat.le_of_ble_eq_true rfl)) dX5_joinSeen_106 ⟨(Nat.le_of_ble_eq_true rfl), (Nat.le_of_ble_eq_true rfl)⟩) hS (fun q _ h => hFc q h) hFc (fun r9 u t H locs ht hvm hw hB hz1 hk1 hS => ?_)
            obtain ⟨b1, b2, b3⟩ := hB
            rw [ht] at b1
            obtain ⟨hP, hD, hK⟩ := JOINC (wc := (List.flatten ([] : List va_W))) (wr := (List.flatten ([(oX5 (p0a 0) p0a p0k p0w p0l), (oX1 (p1a 0) p1a p1k p1n p1w p1l), (oX9 (p1a 3) p1_2a p1_2k p1_2n p1_2w)] : List va_W))) (w1 := (List.flatten ([] : List va_W))) (t1 := (List.flatten ([] : List (List (ClassId × FieldType))))) hPx hDx hKx hk1 hFc b1 (va_K.moved hvm.symm b2) b3
            have hP : va_P (dC, dI) cls (List.flatten ([(oX5 (p0a 0) p0a p0k p0w p0l), (oX1 (p1a 0) p1a p1k p1n p1w p1l), (oX9 (p1a 3) p1_2a p1_2k p1_2n p1_2w)] : List va_W)) H := vP_perm (vP_fb hP) (bP (List.Perm.refl _))
            have hD : va_D A (List.flatten ([(oX5 (p0a 0) p0a p0k p0w p0l), (oX1 (p1a 0) p1a p1k p1n p1w p1l), (oX9 (p1a 3) p1_2a p1_2k p1_2n p1_2w)] : List va_W)) := vD_perm (vD_fb hD) (bP (List.Perm.refl _))
            have hK : va_K (dC, dI) cls (List.flatten ([(tX5 p0k), (tX1 p1k), (tX9 p1_2k)] : List (List (ClassId × FieldType)))) s := vK_perm (vK_fb hK) (bP (List.Perm.refl _))
            obtain rfl : o_8 = r9 := hw.symm
            rcases br9 hrun with ⟨hc10, hrun⟩ | ⟨hc10, hrun⟩
            · refine lv_if_eq (tgt := 133) hx hb dX5_joinSeen_109 (by decide) (fun _ => ?_) (fun c => absurd hc10 c)
              exact J133 _ _ _ hrun hP hD hK hS (lv_sub hl [1, 2, 3, 4, 5, 6] rfl)
            · refine lv_if_eq (tgt := 133) hx hb dX5_joinSeen_109 (by decide) (fun c => absurd c hc10) (fun _ => ?_)
              refine lv_aload_n hx hb dX5_joinSeen_112 rfl (lv_at hl 1 rfl) ?_
              refine va_get (D := (dC, dI)) (ci := 7) (v := .ref (p0a 6)) (C := RX5) (T := TX5) (N := 12) hx hb hts i_X5 hown hK hP 0 rfl rfl 5 (by decide) (hts _ qw539) (fun _ h9 => h9) rfl dX5_joinSeen_113 ?_
              refine lv_aload hx hb dX5_joinSeen_116 (lv_at hl 5 rfl) ?_
              refine va_get (D := (dC, dI)) (ci := 3) (v := .ref (p1_2a 3)) (C := RX9) (T := TX9) (N := 6) hx hb hts i_X9 hown hK hP 28 rfl rfl 2 (by decide) (hts _ qw436) (fun _ h9 => h9) rfl dX5_joinSeen_118 ?_
              refine lv_iload_n hx hb dX5_joinSeen_121 rfl (lv_at hl 4 rfl) ?_
              obtain ⟨hq11, hrun⟩ := chk9 hrun
              refine va_iald hx hb hK hP 30 27 rfl rfl (ixb_in hq11) dX5_joinSeen_122 ?_
              refine lv_aload hx hb dX5_joinSeen_123 (lv_at hl 5 rfl) ?_
              refine va_get (D := (dC, dI)) (ci := 3) (v := .ref (p1_2a 3)) (C := RX9) (T := TX9) (N := 6) hx hb hts i_X9 hown hK hP 28 rfl rfl 2 (by decide) (hts _ qw436) (fun _ h9 => h9) rfl dX5_joinSeen_125 ?_
              refine lv_iload hx hb dX5_joinSeen_128 (lv_at hl 7 rfl) ?_
              obtain ⟨hq12, hrun⟩ := chk9 hrun
              refine va_iald hx hb hK hP 30 27 rfl rfl (ixb_in hq12) dX5_joinSeen_130 ?_
              obtain ⟨hq13, hrun⟩ := chk9 hrun
              refine va_iast hx hb hK hP hD hS 5 4 rfl rfl (ixb_in hq13) dX5_joinSeen_131 (fun H locs hP hD hS => ?_)
              have hP : va_P (dC, dI) cls (List.flatten ([(oX5 (p0a 0) p0a p0k (upw p0w 6 (nn (p1_2w 3 (nn p3))) (p1_2w 3 (nn (p0w 9 (nn v5_9))))) p0l), (oX1 (p1a 0) p1a p1k p1n p1w p1l), (oX9 (p1a 3) p1_2a p1_2k p1_2n p1_2w)] : List va_W)) H := hP
              have hD : va_D A (List.flatten ([(oX5 (p0a 0) p0a p0k (upw p0w 6 (nn (p1_2w 3 (nn p3))) (p1_2w 3 (nn (p0w 9 (nn v5_9))))) p0l), (oX1 (p1a 0) p1a p1k p1n p1w p1l), (oX9 (p1a 3) p1_2a p1_2k p1_2n p1_2w)] : List va_W)) := hD
              obtain ⟨w14, ew14, hrun⟩ := let9 hrun
              rw [← ew14] at hP hD
              have ho9 : w14 = o := hr9 _ (Option.some.inj hrun).symm
              have hP9 : va_P (dC, dI) cls (List.flatten ([(oX5 (p0a 0) p0a p0k o p0l), (oX1 (p1a 0) p1a p1k p1n p1w p1l), (oX9 (p1a 3) p1_2a p1_2k p1_2n p1_2w)] : List va_W)) H := by first | exact hP | (rw [← ho9]; exact hP)
              have hD9 : va_D A (List.flatten ([(oX5 (p0a 0) p0a p0k o p0l), (oX1 (p1a 0) p1a p1k p1n p1w p1l), (oX9 (p1a 3) p1_2a p1_2k p1_2n p1_2w)] : List va_W)) := by first | exact hD | (rw [← ho9]; exact hD)
              subst hQ
              exact W.vret hx hb hr (fun t ht hW => ⟨⟨(), rfl, trivial, ⟨by rw [ht]; exact hP9, va_K.moved hW.alike hK, hD9⟩⟩, hS.F ht⟩) hS.2.2 dX5_joinSeen_132
        have J85 : ∀ (H : Heap) (locs : List Loc) (ls : Array Slot), (fX5_joinSeen_J85 (fX5_joinSeen_L9 p0w p1l p2 p3 p1_2n p1_2w n_9) p0w p1l p2 p3 p1_2n p1_2w v5_9) = some o9 → va_P (dC, dI) cls (List.flatten ([(oX5 (p0a 0) p0a p0k p0w p0l), (oX1 (p1a 0) p1a p1k p1n p1w p1l), (oX9 (p1a 3) p1_2a p1_2k p1_2n p1_2w)] : List va_W)) H → va_D A (List.flatten ([(oX5 (p0a 0) p0a p0k p0w p0l), (oX1 (p1a 0) p1a p1k p1n p1w p1l), (oX9 (p1a 3) p1_2a p1_2k p1_2n p1_2w)] : List va_W)) → va_K (dC, dI) cls (List.flatten ([(tX5 p0k), (tX1 p1k), (tX9 p1_2k)] : List (List (ClassId × FieldType)))) s → va_S A s.heap H locs → lv_has ls 8 [(0, .ref (p0a 0)), (1, .ref (p1a 0)), (2, .int p2), (3, .int p3), (4, .ref (p1a 3)), (5, .int v5_9), (6, .int (p0w 9 (nn v5_9)))] → W p l e ({ frames := 1, cells := 0, slots := 0, locals := 22 } : Room) s m ([.ref (p0a 0), .ref (p1a 0), .int p2, .int p3] : List Value).toArray below meth c H locs 0 0 Q (F0 m 85 ls []) := by
          intro  H locs ls hrun hP hD hK hS hl 
          unfold fX5_joinSeen_J85 at hrun
          refine lv_iconst (v := 0) hx hb dX5_joinSeen_85 (by decide) ?_
          exact J86 0 _ _ _ hrun hP hD hK hS (lv_sub hl [0, 1, 2, 3, 4, 5, 6] rfl)
        rcases br9 hrun with ⟨hc15, hrun⟩ | ⟨hc15, hrun⟩
        · refine lv_icmp_ne (tgt := 85) hx hb dX5_joinSeen_42 (by decide) (fun c => absurd hc15 c) (fun _ => ?_)
          refine lv_aload hx hb dX5_joinSeen_45 (lv_at hl 5 rfl) ?_
          refine va_get (D := (dC, dI)) (ci := 3) (v := .ref (p1_2a 4)) (C := RX9) (T := TX9) (N := 6) hx hb hts i_X9 hown hK hP 28 rfl rfl 3 (by decide) (hts _ qw421) (fun _ h9 => h9) rfl dX5_joinSeen_47 ?_
          refine lv_iload hx hb dX5_joinSeen_50 (lv_at hl 0 rfl) ?_
          obtain ⟨hq16, hrun⟩ := chk9 hrun
          refine va_iald hx hb hK hP 31 28 rfl rfl (ixb_in hq16) dX5_joinSeen_52 ?_
          refine lv_aload hx hb dX5_joinSeen_53 (lv_at hl 5 rfl) ?_
          refine va_get (D := (dC, dI)) (ci := 3) (v := .ref (p1_2a 4)) (C := RX9) (T := TX9) (N := 6) hx hb hts i_X9 hown hK hP 28 rfl rfl 3 (by decide) (hts _ qw421) (fun _ h9 => h9) rfl dX5_joinSeen_55 ?_
          refine lv_iload_n hx hb dX5_joinSeen_58 rfl (lv_at hl 4 rfl) ?_
          obtain ⟨hq17, hrun⟩ := chk9 hrun
          refine va_iald hx hb hK hP 31 28 rfl rfl (ixb_in hq17) dX5_joinSeen_59 ?_
          rcases br9 hrun with ⟨hc18, hrun⟩ | ⟨hc18, hrun⟩
          · refine lv_icmp_ne (tgt := 85) hx hb dX5_joinSeen_60 (by decide) (fun c => absurd hc18 c) (fun _ => ?_)
            refine lv_aload hx hb dX5_joinSeen_63 (lv_at hl 5 rfl) ?_
            refine va_get (D := (dC, dI)) (ci := 3) (v := .ref (p1_2a 5)) (C := RX9) (T := TX9) (N := 6) hx hb hts i_X9 hown hK hP 28 rfl rfl 4 (by decide) (hts _ qw422) (fun _ h9 => h9) rfl dX5_joinSeen_65 ?_
            refine lv_iload hx hb dX5_joinSeen_68 (lv_at hl 0 rfl) ?_
            obtain ⟨hq19, hrun⟩ := chk9 hrun
            refine va_iald hx hb hK hP 32 29 rfl rfl (ixb_in hq19) dX5_joinSeen_70 ?_
            refine lv_aload hx hb dX5_joinSeen_71 (lv_at hl 5 rfl) ?_
            refine va_get (D := (dC, dI)) (ci := 3) (v := .ref (p1_2a 5)) (C := RX9) (T := TX9) (N := 6) hx hb hts i_X9 hown hK hP 28 rfl rfl 4 (by decide) (hts _ qw422) (fun _ h9 => h9) rfl dX5_joinSeen_73 ?_
            refine lv_iload_n hx hb dX5_joinSeen_76 rfl (lv_at hl 4 rfl) ?_
            obtain ⟨hq20, hrun⟩ := chk9 hrun
            refine va_iald hx hb hK hP 32 29 rfl rfl (ixb_in hq20) dX5_joinSeen_77 ?_
            rcases br9 hrun with ⟨hc21, hrun⟩ | ⟨hc21, hrun⟩
            · refine lv_icmp_ne (tgt := 85) hx hb dX5_joinSeen_78 (by decide) (fun c => absurd hc21 c) (fun _ => ?_)
              refine lv_iconst (v := 1) hx hb dX5_joinSeen_81 (by decide) ?_
              refine lv_goto (tgt := 86) hx hb dX5_joinSeen_82 (by decide) ?_
              exact J86 1 _ _ _ hrun hP hD hK hS (lv_sub hl [1, 2, 3, 4, 5, 6, 0] rfl)
            · refine lv_icmp_ne (tgt := 85) hx hb dX5_joinSeen_78 (by decide) (fun _ => ?_) (fun c => absurd c hc21)
              exact J85 _ _ _ hrun hP hD hK hS (lv_sub hl [1, 2, 3, 4, 5, 6, 0] rfl)
          · refine lv_icmp_ne (tgt := 85) hx hb dX5_joinSeen_60 (by decide) (fun _ => ?_) (fun c => absurd c hc18)
            exact J85 _ _ _ hrun hP hD hK hS (lv_sub hl [1, 2, 3, 4, 5, 6, 0] rfl)
        · refine lv_icmp_ne (tgt := 85) hx hb dX5_joinSeen_42 (by decide) (fun _ => ?_) (fun c => absurd c hc15)
          exact J85 _ _ _ hrun hP hD hK hS (lv_sub hl [1, 2, 3, 4, 5, 6, 0] rfl)
  obtain ⟨o9, hc9, hrun⟩ := bnd9 hrun
  refine L9 NF 0 o9 _ _ _ hc9 hP hD hK hS (lv_sub hl [2, 3, 4, 5, 1, 0] rfl) (fun r e9 => by subst e9; exact Option.some.inj hrun) ?_
  intro t9 e9
  subst e9
  replace hrun := el9 hrun
  intro H locs ls hP hD hK hS hl
  have hl := hl
  refine lv_aload_n hx hb dX5_joinSeen_139 rfl (lv_at hl 0 rfl) ?_
  refine va_get (D := (dC, dI)) (ci := 7) (v := .int (p0w 0 10)) (C := RX5) (T := TX5) (N := 12) hx hb hts i_X5 hown hK hP 0 rfl rfl 10 (by decide) (hts _ qw556) (fun _ h9 => h9) rfl dX5_joinSeen_140 ?_
  refine lv_sipush (v := 250) hx hb dX5_joinSeen_143 (by decide) ?_
  have J179 : ∀ (p0w_179 : ST) (H : Heap) (locs : List Loc) (ls : Array Slot), (fX5_joinSeen_J179 p0w_179) = some o → va_P (dC, dI) cls (List.flatten ([(oX5 (p0a 0) p0a p0k p0w_179 p0l), (oX1 (p1a 0) p1a p1k p1n p1w p1l), (oX9 (p1a 3) p1_2a p1_2k p1_2n p1_2w)] : List va_W)) H → va_D A (List.flatten ([(oX5 (p0a 0) p0a p0k p0w_179 p0l), (oX1 (p1a 0) p1a p1k p1n p1w p1l), (oX9 (p1a 3) p1_2a p1_2k p1_2n p1_2w)] : List va_W)) → va_K (dC, dI) cls (List.flatten ([(tX5 p0k), (tX1 p1k), (tX9 p1_2k)] : List (List (ClassId × FieldType)))) s → va_S A s.heap H locs → lv_has ls 8 [] → W p l e ({ frames := 1, cells := 0, slots := 0, locals := 22 } : Room) s m ([.ref (p0a 0), .ref (p1a 0), .int p2, .int p3] : List Value).toArray below meth c H locs 0 0 Q (F0 m 179 ls []) := by
    intro p0w_179 H locs ls hrun hP hD hK hS hl 
    unfold fX5_joinSeen_J179 at hrun
    have ho9 : p0w_179 = o := Option.some.inj hrun
    have hP9 : va_P (dC, dI) cls (List.flatten ([(oX5 (p0a 0) p0a p0k o p0l), (oX1 (p1a 0) p1a p1k p1n p1w p1l), (oX9 (p1a 3) p1_2a p1_2k p1_2n p1_2w)] : List va_W)) H := by first | exact hP | (rw [← ho9]; exact hP)
    have hD9 : va_D A (List.flatten ([(oX5 (p0a 0) p0a p0k o p0l), (oX1 (p1a 0) p1a p1k p1n p1w p1l), (oX9 (p1a 3) p1_2a p1_2k p1_2n p1_2w)] : List va_W)) := by first | exact hD | (rw [← ho9]; exact hD)
    subst hQ
    exact W.vret hx hb hr (fun t ht hW => ⟨⟨(), rfl, trivial, ⟨by rw [ht]; exact hP9, va_K.moved hW.alike hK, hD9⟩⟩, hS.F ht⟩) hS.2.2 dX5_joinSeen_179
  rcases br9 hrun with ⟨hc22, hrun⟩ | ⟨hc22, hrun⟩
  · refine lv_icmp_ge (tgt := 179) hx hb dX5_joinSeen_146 (by decide) (fun _ => ?_) (fun c => absurd hc22 c)
    exact J179 p0w _ _ _ hrun hP hD hK hS (lv_sub hl [] rfl)
  · refine lv_icmp_ge (tgt := 179) hx hb dX5_joinSeen_146 (by decide) (fun c => absurd c hc22) (fun _ => ?_)
    refine lv_aload_n hx hb dX5_joinSeen_149 rfl (lv_at hl 0 rfl) ?_
    refine va_get (D := (dC, dI)) (ci := 7) (v := .ref (p0a 9)) (C := RX5) (T := TX5) (N := 12) hx hb hts i_X5 hown hK hP 0 rfl rfl 8 (by decide) (hts _ qw557) (fun _ h9 => h9) rfl dX5_joinSeen_150 ?_
    refine lv_aload_n hx hb dX5_joinSeen_153 rfl (lv_at hl 0 rfl) ?_
    refine va_get (D := (dC, dI)) (ci := 7) (v := .int (p0w 0 10)) (C := RX5) (T := TX5) (N := 12) hx hb hts i_X5 hown hK hP 0 rfl rfl 10 (by decide) (hts _ qw556) (fun _ h9 => h9) rfl dX5_joinSeen_154 ?_
    refine lv_iload_n hx hb dX5_joinSeen_157 rfl (lv_at hl 2 rfl) ?_
    obtain ⟨hq23, hrun⟩ := chk9 hrun
    refine va_iast hx hb hK hP hD hS 7 6 rfl rfl (ixb_in hq23) dX5_joinSeen_158 (fun H locs hP hD hS => ?_)
    have hP : va_P (dC, dI) cls (List.flatten ([(oX5 (p0a 0) p0a p0k (upw p0w 9 (nn (p0w 0 10)) p3) p0l), (oX1 (p1a 0) p1a p1k p1n p1w p1l), (oX9 (p1a 3) p1_2a p1_2k p1_2n p1_2w)] : List va_W)) H := hP
    have hD : va_D A (List.flatten ([(oX5 (p0a 0) p0a p0k (upw p0w 9 (nn (p0w 0 10)) p3) p0l), (oX1 (p1a 0) p1a p1k p1n p1w p1l), (oX9 (p1a 3) p1_2a p1_2k p1_2n p1_2w)] : List va_W)) := hD
    obtain ⟨w24, ew24, hrun⟩ := let9 hrun
    rw [← ew24] at hP hD
    refine lv_aload_n hx hb dX5_joinSeen_159 rfl (lv_at hl 0 rfl) ?_
    refine va_get (D := (dC, dI)) (ci := 7) (v := .ref (p0a 10)) (C := RX5) (T := TX5) (N := 12) hx hb hts i_X5 hown hK hP 0 rfl rfl 9 (by decide) (hts _ qw559) (fun _ h9 => h9) rfl dX5_joinSeen_160 ?_
    refine lv_aload_n hx hb dX5_joinSeen_163 rfl (lv_at hl 0 rfl) ?_
    refine va_get (D := (dC, dI)) (ci := 7) (v := .int (w24 0 10)) (C := RX5) (T := TX5) (N := 12) hx hb hts i_X5 hown hK hP 0 rfl rfl 10 (by decide) (hts _ qw556) (fun _ h9 => h9) rfl dX5_joinSeen_164 ?_
    refine lv_iload_n hx hb dX5_joinSeen_167 rfl (lv_at hl 1 rfl) ?_
    obtain ⟨hq25, hrun⟩ := chk9 hrun
    refine va_iast hx hb hK hP hD hS 8 7 rfl rfl (ixb_in hq25) dX5_joinSeen_168 (fun H locs hP hD hS => ?_)
    have hP : va_P (dC, dI) cls (List.flatten ([(oX5 (p0a 0) p0a p0k (upw w24 10 (nn (w24 0 10)) p2) p0l), (oX1 (p1a 0) p1a p1k p1n p1w p1l), (oX9 (p1a 3) p1_2a p1_2k p1_2n p1_2w)] : List va_W)) H := hP
    have hD : va_D A (List.flatten ([(oX5 (p0a 0) p0a p0k (upw w24 10 (nn (w24 0 10)) p2) p0l), (oX1 (p1a 0) p1a p1k p1n p1w p1l), (oX9 (p1a 3) p1_2a p1_2k p1_2n p1_2w)] : List va_W)) := hD
    obtain ⟨w26, ew26, hrun⟩ := let9 hrun
    rw [← ew26] at hP hD
    refine lv_aload_n hx hb dX5_joinSeen_169 rfl (lv_at hl 0 rfl) ?_
    refine lv_dup hx hb dX5_joinSeen_170 rfl ?_
    refine va_get (D := (dC, dI)) (ci := 7) (v := .int (w26 0 10)) (C := RX5) (T := TX5) (N := 12) hx hb hts i_X5 hown hK hP 0 rfl rfl 10 (by decide) (hts _ qw556) (fun _ h9 => h9) rfl dX5_joinSeen_171 ?_
    refine lv_iconst (v := 1) hx hb dX5_joinSeen_174 (by decide) ?_
    refine lv_iadd hx hb dX5_joinSeen_175 ?_
    refine va_put (D := (dC, dI)) (ci := 7) (v := .int ((w26 0 10) + 1)) (ty := .int) (C := RX5) (T := TX5) (N := 12) hx hb hts i_X5 tyX5 tyX5_ok nmX5 hown hK hP hD hS 0 rfl rfl 10 (by decide) (hts _ qw556) (fun _ h9 => h9) rfl (by decide +kernel) rfl rfl (Nat.le_of_ble_eq_true rfl) dX5_joinSeen_176 (fun H locs hP hD hS => ?_)
    have hP : va_P (dC, dI) cls (List.flatten ([(oX5 (p0a 0) p0a p0k (upw w26 0 10 ((w26 0 10) + 1)) p0l), (oX1 (p1a 0) p1a p1k p1n p1w p1l), (oX9 (p1a 3) p1_2a p1_2k p1_2n p1_2w)] : List va_W)) H := hP
    have hD : va_D A (List.flatten ([(oX5 (p0a 0) p0a p0k (upw w26 0 10 ((w26 0 10) + 1)) p0l), (oX1 (p1a 0) p1a p1k p1n p1w p1l), (oX9 (p1a 3) p1_2a p1_2k p1_2n p1_2w)] : List va_W)) := hD
    obtain ⟨w27, ew27, hrun⟩ := let9 hrun
    rw [← ew27] at hP hD
    exact J179 w27 _ _ _ hrun hP hD hK hS (lv_sub hl [] rfl)
