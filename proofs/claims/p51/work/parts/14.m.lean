abbrev cX5_isEitherWay : ByteArray := prog_7_method_27_code
def yX5_isEitherWay : MethodName := ⟨RX5, "isEitherWay", "(I)Z"⟩
abbrev cX5_isLeftAlone : ByteArray := prog_7_method_24_code
def yX5_isLeftAlone : MethodName := ⟨RX5, "isLeftAlone", "(LGearbox$Flow;III)Z"⟩
abbrev cX5_isRightAlone : ByteArray := prog_7_method_25_code
def yX5_isRightAlone : MethodName := ⟨RX5, "isRightAlone", "(LGearbox$Flow;III)Z"⟩
abbrev cX5_joinBlock : ByteArray := prog_7_method_19_code
def yX5_joinBlock : MethodName := ⟨RX5, "joinBlock", "(LGearbox$Flow;I)V"⟩
abbrev cX5_joinPhi : ByteArray := prog_7_method_20_code
def yX5_joinPhi : MethodName := ⟨RX5, "joinPhi", "(LGearbox$Flow;II)V"⟩
abbrev cX5_onlyTake : ByteArray := prog_7_method_21_code
def yX5_onlyTake : MethodName := ⟨RX5, "onlyTake", "(LGearbox$Flow;II)I"⟩
abbrev cX5_standInOf : ByteArray := prog_7_method_17_code
def yX5_standInOf : MethodName := ⟨RX5, "standInOf", "(I)I"⟩
abbrev cX5_takeAlike : ByteArray := prog_7_method_22_code
def yX5_takeAlike : MethodName := ⟨RX5, "takeAlike", "(LGearbox$Flow;III)Z"⟩
abbrev cX5_joinSeen : ByteArray := prog_7_method_28_code
def yX5_joinSeen : MethodName := ⟨RX5, "joinSeen", "(LGearbox$Flow;II)V"⟩
abbrev cX5_joinOperator : ByteArray := prog_7_method_23_code
def yX5_joinOperator : MethodName := ⟨RX5, "joinOperator", "(LGearbox$Flow;I)V"⟩
theorem dX5_isEitherWay_0 : decode cX5_isEitherWay 0 = .ok (.iload_n 0, 1) := by decide +kernel
theorem dX5_isEitherWay_1 : decode cX5_isEitherWay 1 = .ok (.iconst 1, 1) := by decide +kernel
theorem dX5_isEitherWay_2 : decode cX5_isEitherWay 2 = .ok (.if_icmp .eq 38, 3) := by decide +kernel
theorem dX5_isEitherWay_5 : decode cX5_isEitherWay 5 = .ok (.iload_n 0, 1) := by decide +kernel
theorem dX5_isEitherWay_6 : decode cX5_isEitherWay 6 = .ok (.iconst 3, 1) := by decide +kernel
theorem dX5_isEitherWay_7 : decode cX5_isEitherWay 7 = .ok (.if_icmp .eq 33, 3) := by decide +kernel
theorem dX5_isEitherWay_10 : decode cX5_isEitherWay 10 = .ok (.iload_n 0, 1) := by decide +kernel
theorem dX5_isEitherWay_11 : decode cX5_isEitherWay 11 = .ok (.bipush 6, 2) := by decide +kernel
theorem dX5_isEitherWay_13 : decode cX5_isEitherWay 13 = .ok (.if_icmp .eq 27, 3) := by decide +kernel
theorem dX5_isEitherWay_16 : decode cX5_isEitherWay 16 = .ok (.iload_n 0, 1) := by decide +kernel
theorem dX5_isEitherWay_17 : decode cX5_isEitherWay 17 = .ok (.bipush 7, 2) := by decide +kernel
theorem dX5_isEitherWay_19 : decode cX5_isEitherWay 19 = .ok (.if_icmp .eq 21, 3) := by decide +kernel
theorem dX5_isEitherWay_22 : decode cX5_isEitherWay 22 = .ok (.iload_n 0, 1) := by decide +kernel
theorem dX5_isEitherWay_23 : decode cX5_isEitherWay 23 = .ok (.bipush 8, 2) := by decide +kernel
theorem dX5_isEitherWay_25 : decode cX5_isEitherWay 25 = .ok (.if_icmp .eq 15, 3) := by decide +kernel
theorem dX5_isEitherWay_28 : decode cX5_isEitherWay 28 = .ok (.iload_n 0, 1) := by decide +kernel
theorem dX5_isEitherWay_29 : decode cX5_isEitherWay 29 = .ok (.bipush 15, 2) := by decide +kernel
theorem dX5_isEitherWay_31 : decode cX5_isEitherWay 31 = .ok (.if_icmp .eq 9, 3) := by decide +kernel
theorem dX5_isEitherWay_34 : decode cX5_isEitherWay 34 = .ok (.iload_n 0, 1) := by decide +kernel
theorem dX5_isEitherWay_35 : decode cX5_isEitherWay 35 = .ok (.bipush 16, 2) := by decide +kernel
theorem dX5_isEitherWay_37 : decode cX5_isEitherWay 37 = .ok (.if_icmp .ne 7, 3) := by decide +kernel
theorem dX5_isEitherWay_40 : decode cX5_isEitherWay 40 = .ok (.iconst 1, 1) := by decide +kernel
theorem dX5_isEitherWay_41 : decode cX5_isEitherWay 41 = .ok (.goto 4, 3) := by decide +kernel
theorem dX5_isEitherWay_44 : decode cX5_isEitherWay 44 = .ok (.iconst 0, 1) := by decide +kernel
theorem dX5_isEitherWay_45 : decode cX5_isEitherWay 45 = .ok (.ireturn, 1) := by decide +kernel
theorem dX5_isLeftAlone_0 : decode cX5_isLeftAlone 0 = .ok (.iload_n 2, 1) := by decide +kernel
theorem dX5_isLeftAlone_1 : decode cX5_isLeftAlone 1 = .ok (.tableswitch 108 1 10 #[55, 55, 99, 99, 108, 87, 64, 55, 55, 55], 55) := by decide +kernel
theorem dX5_isLeftAlone_56 : decode cX5_isLeftAlone 56 = .ok (.aload_n 0, 1) := by decide +kernel
theorem dX5_isLeftAlone_57 : decode cX5_isLeftAlone 57 = .ok (.aload_n 1, 1) := by decide +kernel
theorem dX5_isLeftAlone_58 : decode cX5_isLeftAlone 58 = .ok (.iload 4, 2) := by decide +kernel
theorem dX5_isLeftAlone_60 : decode cX5_isLeftAlone 60 = .ok (.iconst 0, 1) := by decide +kernel
theorem dX5_isLeftAlone_61 : decode cX5_isLeftAlone 61 = .ok (.invokevirtual 257, 3) := by decide +kernel
theorem dX5_isLeftAlone_64 : decode cX5_isLeftAlone 64 = .ok (.ireturn, 1) := by decide +kernel
theorem dX5_isLeftAlone_65 : decode cX5_isLeftAlone 65 = .ok (.aload_n 0, 1) := by decide +kernel
theorem dX5_isLeftAlone_66 : decode cX5_isLeftAlone 66 = .ok (.aload_n 1, 1) := by decide +kernel
theorem dX5_isLeftAlone_67 : decode cX5_isLeftAlone 67 = .ok (.iload 4, 2) := by decide +kernel
theorem dX5_isLeftAlone_69 : decode cX5_isLeftAlone 69 = .ok (.iconst 0, 1) := by decide +kernel
theorem dX5_isLeftAlone_70 : decode cX5_isLeftAlone 70 = .ok (.invokevirtual 257, 3) := by decide +kernel
theorem dX5_isLeftAlone_73 : decode cX5_isLeftAlone 73 = .ok (.ifCond .ne 9, 3) := by decide +kernel
theorem dX5_isLeftAlone_76 : decode cX5_isLeftAlone 76 = .ok (.iload_n 3, 1) := by decide +kernel
theorem dX5_isLeftAlone_77 : decode cX5_isLeftAlone 77 = .ok (.iload 4, 2) := by decide +kernel
theorem dX5_isLeftAlone_79 : decode cX5_isLeftAlone 79 = .ok (.if_icmp .ne 7, 3) := by decide +kernel
theorem dX5_isLeftAlone_82 : decode cX5_isLeftAlone 82 = .ok (.iconst 1, 1) := by decide +kernel
theorem dX5_isLeftAlone_83 : decode cX5_isLeftAlone 83 = .ok (.goto 4, 3) := by decide +kernel
theorem dX5_isLeftAlone_86 : decode cX5_isLeftAlone 86 = .ok (.iconst 0, 1) := by decide +kernel
theorem dX5_isLeftAlone_87 : decode cX5_isLeftAlone 87 = .ok (.ireturn, 1) := by decide +kernel
theorem dX5_isLeftAlone_88 : decode cX5_isLeftAlone 88 = .ok (.iload_n 3, 1) := by decide +kernel
theorem dX5_isLeftAlone_89 : decode cX5_isLeftAlone 89 = .ok (.iload 4, 2) := by decide +kernel
theorem dX5_isLeftAlone_91 : decode cX5_isLeftAlone 91 = .ok (.if_icmp .ne 7, 3) := by decide +kernel
theorem dX5_isLeftAlone_94 : decode cX5_isLeftAlone 94 = .ok (.iconst 1, 1) := by decide +kernel
theorem dX5_isLeftAlone_95 : decode cX5_isLeftAlone 95 = .ok (.goto 4, 3) := by decide +kernel
theorem dX5_isLeftAlone_98 : decode cX5_isLeftAlone 98 = .ok (.iconst 0, 1) := by decide +kernel
theorem dX5_isLeftAlone_99 : decode cX5_isLeftAlone 99 = .ok (.ireturn, 1) := by decide +kernel
theorem dX5_isLeftAlone_100 : decode cX5_isLeftAlone 100 = .ok (.aload_n 0, 1) := by decide +kernel
theorem dX5_isLeftAlone_101 : decode cX5_isLeftAlone 101 = .ok (.aload_n 1, 1) := by decide +kernel
theorem dX5_isLeftAlone_102 : decode cX5_isLeftAlone 102 = .ok (.iload 4, 2) := by decide +kernel
theorem dX5_isLeftAlone_104 : decode cX5_isLeftAlone 104 = .ok (.iconst 1, 1) := by decide +kernel
theorem dX5_isLeftAlone_105 : decode cX5_isLeftAlone 105 = .ok (.invokevirtual 257, 3) := by decide +kernel
theorem dX5_isLeftAlone_108 : decode cX5_isLeftAlone 108 = .ok (.ireturn, 1) := by decide +kernel
theorem dX5_isLeftAlone_109 : decode cX5_isLeftAlone 109 = .ok (.iconst 0, 1) := by decide +kernel
theorem dX5_isLeftAlone_110 : decode cX5_isLeftAlone 110 = .ok (.ireturn, 1) := by decide +kernel
theorem dX5_isRightAlone_0 : decode cX5_isRightAlone 0 = .ok (.iload_n 2, 1) := by decide +kernel
theorem dX5_isRightAlone_1 : decode cX5_isRightAlone 1 = .ok (.iconst 1, 1) := by decide +kernel
theorem dX5_isRightAlone_2 : decode cX5_isRightAlone 2 = .ok (.if_icmp .eq 15, 3) := by decide +kernel
theorem dX5_isRightAlone_5 : decode cX5_isRightAlone 5 = .ok (.iload_n 2, 1) := by decide +kernel
theorem dX5_isRightAlone_6 : decode cX5_isRightAlone 6 = .ok (.bipush 7, 2) := by decide +kernel
theorem dX5_isRightAlone_8 : decode cX5_isRightAlone 8 = .ok (.if_icmp .eq 9, 3) := by decide +kernel
theorem dX5_isRightAlone_11 : decode cX5_isRightAlone 11 = .ok (.iload_n 2, 1) := by decide +kernel
theorem dX5_isRightAlone_12 : decode cX5_isRightAlone 12 = .ok (.bipush 8, 2) := by decide +kernel
theorem dX5_isRightAlone_14 : decode cX5_isRightAlone 14 = .ok (.if_icmp .ne 11, 3) := by decide +kernel
theorem dX5_isRightAlone_17 : decode cX5_isRightAlone 17 = .ok (.aload_n 0, 1) := by decide +kernel
theorem dX5_isRightAlone_18 : decode cX5_isRightAlone 18 = .ok (.aload_n 1, 1) := by decide +kernel
theorem dX5_isRightAlone_19 : decode cX5_isRightAlone 19 = .ok (.iload_n 3, 1) := by decide +kernel
theorem dX5_isRightAlone_20 : decode cX5_isRightAlone 20 = .ok (.iconst 0, 1) := by decide +kernel
theorem dX5_isRightAlone_21 : decode cX5_isRightAlone 21 = .ok (.invokevirtual 257, 3) := by decide +kernel
theorem dX5_isRightAlone_24 : decode cX5_isRightAlone 24 = .ok (.ireturn, 1) := by decide +kernel
theorem dX5_isRightAlone_25 : decode cX5_isRightAlone 25 = .ok (.iload_n 2, 1) := by decide +kernel
theorem dX5_isRightAlone_26 : decode cX5_isRightAlone 26 = .ok (.iconst 3, 1) := by decide +kernel
theorem dX5_isRightAlone_27 : decode cX5_isRightAlone 27 = .ok (.if_icmp .ne 17, 3) := by decide +kernel
theorem dX5_isRightAlone_30 : decode cX5_isRightAlone 30 = .ok (.aload_n 0, 1) := by decide +kernel
theorem dX5_isRightAlone_31 : decode cX5_isRightAlone 31 = .ok (.aload_n 1, 1) := by decide +kernel
theorem dX5_isRightAlone_32 : decode cX5_isRightAlone 32 = .ok (.iload_n 3, 1) := by decide +kernel
theorem dX5_isRightAlone_33 : decode cX5_isRightAlone 33 = .ok (.iconst 1, 1) := by decide +kernel
theorem dX5_isRightAlone_34 : decode cX5_isRightAlone 34 = .ok (.invokevirtual 257, 3) := by decide +kernel
theorem dX5_isRightAlone_37 : decode cX5_isRightAlone 37 = .ok (.ifCond .eq 7, 3) := by decide +kernel
theorem dX5_isRightAlone_40 : decode cX5_isRightAlone 40 = .ok (.iconst 1, 1) := by decide +kernel
theorem dX5_isRightAlone_41 : decode cX5_isRightAlone 41 = .ok (.goto 4, 3) := by decide +kernel
theorem dX5_isRightAlone_44 : decode cX5_isRightAlone 44 = .ok (.iconst 0, 1) := by decide +kernel
theorem dX5_isRightAlone_45 : decode cX5_isRightAlone 45 = .ok (.ireturn, 1) := by decide +kernel
theorem dX5_joinBlock_0 : decode cX5_joinBlock 0 = .ok (.aload_n 1, 1) := by decide +kernel
theorem dX5_joinBlock_1 : decode cX5_joinBlock 1 = .ok (.getfield 55, 3) := by decide +kernel
theorem dX5_joinBlock_4 : decode cX5_joinBlock 4 = .ok (.iload_n 2, 1) := by decide +kernel
theorem dX5_joinBlock_5 : decode cX5_joinBlock 5 = .ok (.iaload, 1) := by decide +kernel
theorem dX5_joinBlock_6 : decode cX5_joinBlock 6 = .ok (.istore_n 3, 1) := by decide +kernel
theorem dX5_joinBlock_7 : decode cX5_joinBlock 7 = .ok (.iload_n 3, 1) := by decide +kernel
theorem dX5_joinBlock_8 : decode cX5_joinBlock 8 = .ok (.ifCond .lt 20, 3) := by decide +kernel
theorem dX5_joinBlock_11 : decode cX5_joinBlock 11 = .ok (.aload_n 0, 1) := by decide +kernel
theorem dX5_joinBlock_12 : decode cX5_joinBlock 12 = .ok (.aload_n 1, 1) := by decide +kernel
theorem dX5_joinBlock_13 : decode cX5_joinBlock 13 = .ok (.iload_n 2, 1) := by decide +kernel
theorem dX5_joinBlock_14 : decode cX5_joinBlock 14 = .ok (.iload_n 3, 1) := by decide +kernel
theorem dX5_joinBlock_15 : decode cX5_joinBlock 15 = .ok (.invokevirtual 227, 3) := by decide +kernel
theorem dX5_joinBlock_18 : decode cX5_joinBlock 18 = .ok (.aload_n 1, 1) := by decide +kernel
theorem dX5_joinBlock_19 : decode cX5_joinBlock 19 = .ok (.getfield 61, 3) := by decide +kernel
theorem dX5_joinBlock_22 : decode cX5_joinBlock 22 = .ok (.iload_n 3, 1) := by decide +kernel
theorem dX5_joinBlock_23 : decode cX5_joinBlock 23 = .ok (.iaload, 1) := by decide +kernel
theorem dX5_joinBlock_24 : decode cX5_joinBlock 24 = .ok (.istore_n 3, 1) := by decide +kernel
theorem dX5_joinBlock_25 : decode cX5_joinBlock 25 = .ok (.goto (-18), 3) := by decide +kernel
theorem dX5_joinBlock_28 : decode cX5_joinBlock 28 = .ok (.aload_n 1, 1) := by decide +kernel
theorem dX5_joinBlock_29 : decode cX5_joinBlock 29 = .ok (.getfield 64, 3) := by decide +kernel
theorem dX5_joinBlock_32 : decode cX5_joinBlock 32 = .ok (.iload_n 2, 1) := by decide +kernel
theorem dX5_joinBlock_33 : decode cX5_joinBlock 33 = .ok (.iaload, 1) := by decide +kernel
theorem dX5_joinBlock_34 : decode cX5_joinBlock 34 = .ok (.istore_n 3, 1) := by decide +kernel
theorem dX5_joinBlock_35 : decode cX5_joinBlock 35 = .ok (.iload_n 3, 1) := by decide +kernel
theorem dX5_joinBlock_36 : decode cX5_joinBlock 36 = .ok (.ifCond .lt 84, 3) := by decide +kernel
theorem dX5_joinBlock_39 : decode cX5_joinBlock 39 = .ok (.aload_n 1, 1) := by decide +kernel
theorem dX5_joinBlock_40 : decode cX5_joinBlock 40 = .ok (.getfield 67, 3) := by decide +kernel
theorem dX5_joinBlock_43 : decode cX5_joinBlock 43 = .ok (.getfield 71, 3) := by decide +kernel
theorem dX5_joinBlock_46 : decode cX5_joinBlock 46 = .ok (.iload_n 3, 1) := by decide +kernel
theorem dX5_joinBlock_47 : decode cX5_joinBlock 47 = .ok (.iaload, 1) := by decide +kernel
theorem dX5_joinBlock_48 : decode cX5_joinBlock 48 = .ok (.istore 4, 2) := by decide +kernel
theorem dX5_joinBlock_50 : decode cX5_joinBlock 50 = .ok (.aload_n 1, 1) := by decide +kernel
theorem dX5_joinBlock_51 : decode cX5_joinBlock 51 = .ok (.getfield 67, 3) := by decide +kernel
theorem dX5_joinBlock_54 : decode cX5_joinBlock 54 = .ok (.getfield 79, 3) := by decide +kernel
theorem dX5_joinBlock_57 : decode cX5_joinBlock 57 = .ok (.iload_n 3, 1) := by decide +kernel
theorem dX5_joinBlock_58 : decode cX5_joinBlock 58 = .ok (.iaload, 1) := by decide +kernel
theorem dX5_joinBlock_59 : decode cX5_joinBlock 59 = .ok (.invokestatic 149, 3) := by decide +kernel
theorem dX5_joinBlock_62 : decode cX5_joinBlock 62 = .ok (.ifCond .eq 9, 3) := by decide +kernel
theorem dX5_joinBlock_65 : decode cX5_joinBlock 65 = .ok (.aload_n 0, 1) := by decide +kernel
theorem dX5_joinBlock_66 : decode cX5_joinBlock 66 = .ok (.aload_n 1, 1) := by decide +kernel
theorem dX5_joinBlock_67 : decode cX5_joinBlock 67 = .ok (.iload_n 3, 1) := by decide +kernel
theorem dX5_joinBlock_68 : decode cX5_joinBlock 68 = .ok (.invokevirtual 231, 3) := by decide +kernel
theorem dX5_joinBlock_71 : decode cX5_joinBlock 71 = .ok (.iload 4, 2) := by decide +kernel
theorem dX5_joinBlock_73 : decode cX5_joinBlock 73 = .ok (.ifCond .lt 34, 3) := by decide +kernel
theorem dX5_joinBlock_76 : decode cX5_joinBlock 76 = .ok (.aload_n 1, 1) := by decide +kernel
theorem dX5_joinBlock_77 : decode cX5_joinBlock 77 = .ok (.getfield 67, 3) := by decide +kernel
theorem dX5_joinBlock_80 : decode cX5_joinBlock 80 = .ok (.getfield 79, 3) := by decide +kernel
theorem dX5_joinBlock_83 : decode cX5_joinBlock 83 = .ok (.iload_n 3, 1) := by decide +kernel
theorem dX5_joinBlock_84 : decode cX5_joinBlock 84 = .ok (.iaload, 1) := by decide +kernel
theorem dX5_joinBlock_85 : decode cX5_joinBlock 85 = .ok (.bipush 16, 2) := by decide +kernel
theorem dX5_joinBlock_87 : decode cX5_joinBlock 87 = .ok (.if_icmp .gt 20, 3) := by decide +kernel
theorem dX5_joinBlock_90 : decode cX5_joinBlock 90 = .ok (.aload_n 0, 1) := by decide +kernel
theorem dX5_joinBlock_91 : decode cX5_joinBlock 91 = .ok (.getfield 24, 3) := by decide +kernel
theorem dX5_joinBlock_94 : decode cX5_joinBlock 94 = .ok (.iload 4, 2) := by decide +kernel
theorem dX5_joinBlock_96 : decode cX5_joinBlock 96 = .ok (.iaload, 1) := by decide +kernel
theorem dX5_joinBlock_97 : decode cX5_joinBlock 97 = .ok (.ifCond .ge 10, 3) := by decide +kernel
theorem dX5_joinBlock_100 : decode cX5_joinBlock 100 = .ok (.aload_n 0, 1) := by decide +kernel
theorem dX5_joinBlock_101 : decode cX5_joinBlock 101 = .ok (.aload_n 1, 1) := by decide +kernel
theorem dX5_joinBlock_102 : decode cX5_joinBlock 102 = .ok (.iload_n 2, 1) := by decide +kernel
theorem dX5_joinBlock_103 : decode cX5_joinBlock 103 = .ok (.iload_n 3, 1) := by decide +kernel
theorem dX5_joinBlock_104 : decode cX5_joinBlock 104 = .ok (.invokevirtual 234, 3) := by decide +kernel
theorem dX5_joinBlock_107 : decode cX5_joinBlock 107 = .ok (.aload_n 1, 1) := by decide +kernel
theorem dX5_joinBlock_108 : decode cX5_joinBlock 108 = .ok (.getfield 67, 3) := by decide +kernel
theorem dX5_joinBlock_111 : decode cX5_joinBlock 111 = .ok (.getfield 76, 3) := by decide +kernel
theorem dX5_joinBlock_114 : decode cX5_joinBlock 114 = .ok (.iload_n 3, 1) := by decide +kernel
theorem dX5_joinBlock_115 : decode cX5_joinBlock 115 = .ok (.iaload, 1) := by decide +kernel
theorem dX5_joinBlock_116 : decode cX5_joinBlock 116 = .ok (.istore_n 3, 1) := by decide +kernel
theorem dX5_joinBlock_117 : decode cX5_joinBlock 117 = .ok (.goto (-82), 3) := by decide +kernel
theorem dX5_joinBlock_120 : decode cX5_joinBlock 120 = .ok (.return_, 1) := by decide +kernel
theorem dX5_joinOperator_0 : decode cX5_joinOperator 0 = .ok (.aload_n 1, 1) := by decide +kernel
theorem dX5_joinOperator_1 : decode cX5_joinOperator 1 = .ok (.getfield 67, 3) := by decide +kernel
theorem dX5_joinOperator_4 : decode cX5_joinOperator 4 = .ok (.astore_n 3, 1) := by decide +kernel
theorem dX5_joinOperator_5 : decode cX5_joinOperator 5 = .ok (.aload_n 3, 1) := by decide +kernel
theorem dX5_joinOperator_6 : decode cX5_joinOperator 6 = .ok (.getfield 79, 3) := by decide +kernel
theorem dX5_joinOperator_9 : decode cX5_joinOperator 9 = .ok (.iload_n 2, 1) := by decide +kernel
theorem dX5_joinOperator_10 : decode cX5_joinOperator 10 = .ok (.iaload, 1) := by decide +kernel
theorem dX5_joinOperator_11 : decode cX5_joinOperator 11 = .ok (.istore 4, 2) := by decide +kernel
theorem dX5_joinOperator_13 : decode cX5_joinOperator 13 = .ok (.aload_n 3, 1) := by decide +kernel
theorem dX5_joinOperator_14 : decode cX5_joinOperator 14 = .ok (.getfield 71, 3) := by decide +kernel
theorem dX5_joinOperator_17 : decode cX5_joinOperator 17 = .ok (.iload_n 2, 1) := by decide +kernel
theorem dX5_joinOperator_18 : decode cX5_joinOperator 18 = .ok (.iaload, 1) := by decide +kernel
theorem dX5_joinOperator_19 : decode cX5_joinOperator 19 = .ok (.istore 5, 2) := by decide +kernel
theorem dX5_joinOperator_21 : decode cX5_joinOperator 21 = .ok (.aload_n 0, 1) := by decide +kernel
theorem dX5_joinOperator_22 : decode cX5_joinOperator 22 = .ok (.aload_n 3, 1) := by decide +kernel
theorem dX5_joinOperator_23 : decode cX5_joinOperator 23 = .ok (.getfield 82, 3) := by decide +kernel
theorem dX5_joinOperator_26 : decode cX5_joinOperator 26 = .ok (.iload_n 2, 1) := by decide +kernel
theorem dX5_joinOperator_27 : decode cX5_joinOperator 27 = .ok (.iaload, 1) := by decide +kernel
theorem dX5_joinOperator_28 : decode cX5_joinOperator 28 = .ok (.invokevirtual 214, 3) := by decide +kernel
theorem dX5_joinOperator_31 : decode cX5_joinOperator 31 = .ok (.istore 6, 2) := by decide +kernel
theorem dX5_joinOperator_33 : decode cX5_joinOperator 33 = .ok (.aload_n 0, 1) := by decide +kernel
theorem dX5_joinOperator_34 : decode cX5_joinOperator 34 = .ok (.aload_n 3, 1) := by decide +kernel
theorem dX5_joinOperator_35 : decode cX5_joinOperator 35 = .ok (.getfield 93, 3) := by decide +kernel
theorem dX5_joinOperator_38 : decode cX5_joinOperator 38 = .ok (.iload_n 2, 1) := by decide +kernel
theorem dX5_joinOperator_39 : decode cX5_joinOperator 39 = .ok (.iaload, 1) := by decide +kernel
theorem dX5_joinOperator_40 : decode cX5_joinOperator 40 = .ok (.invokevirtual 214, 3) := by decide +kernel
theorem dX5_joinOperator_43 : decode cX5_joinOperator 43 = .ok (.istore 7, 2) := by decide +kernel
theorem dX5_joinOperator_45 : decode cX5_joinOperator 45 = .ok (.aload_n 3, 1) := by decide +kernel
theorem dX5_joinOperator_46 : decode cX5_joinOperator 46 = .ok (.getfield 82, 3) := by decide +kernel
theorem dX5_joinOperator_49 : decode cX5_joinOperator 49 = .ok (.iload_n 2, 1) := by decide +kernel
theorem dX5_joinOperator_50 : decode cX5_joinOperator 50 = .ok (.iload 6, 2) := by decide +kernel
theorem dX5_joinOperator_52 : decode cX5_joinOperator 52 = .ok (.iastore, 1) := by decide +kernel
theorem dX5_joinOperator_53 : decode cX5_joinOperator 53 = .ok (.aload_n 3, 1) := by decide +kernel
theorem dX5_joinOperator_54 : decode cX5_joinOperator 54 = .ok (.getfield 93, 3) := by decide +kernel
theorem dX5_joinOperator_57 : decode cX5_joinOperator 57 = .ok (.iload_n 2, 1) := by decide +kernel
theorem dX5_joinOperator_58 : decode cX5_joinOperator 58 = .ok (.iload 7, 2) := by decide +kernel
theorem dX5_joinOperator_60 : decode cX5_joinOperator 60 = .ok (.iastore, 1) := by decide +kernel
theorem dX5_joinOperator_61 : decode cX5_joinOperator 61 = .ok (.aload_n 0, 1) := by decide +kernel
theorem dX5_joinOperator_62 : decode cX5_joinOperator 62 = .ok (.aload_n 1, 1) := by decide +kernel
theorem dX5_joinOperator_63 : decode cX5_joinOperator 63 = .ok (.iload 6, 2) := by decide +kernel
theorem dX5_joinOperator_65 : decode cX5_joinOperator 65 = .ok (.invokevirtual 85, 3) := by decide +kernel
theorem dX5_joinOperator_68 : decode cX5_joinOperator 68 = .ok (.ifCond .eq 63, 3) := by decide +kernel
theorem dX5_joinOperator_71 : decode cX5_joinOperator 71 = .ok (.aload_n 0, 1) := by decide +kernel
theorem dX5_joinOperator_72 : decode cX5_joinOperator 72 = .ok (.aload_n 1, 1) := by decide +kernel
theorem dX5_joinOperator_73 : decode cX5_joinOperator 73 = .ok (.iload 7, 2) := by decide +kernel
theorem dX5_joinOperator_75 : decode cX5_joinOperator 75 = .ok (.invokevirtual 85, 3) := by decide +kernel
theorem dX5_joinOperator_78 : decode cX5_joinOperator 78 = .ok (.ifCond .eq 53, 3) := by decide +kernel
theorem dX5_joinOperator_81 : decode cX5_joinOperator 81 = .ok (.iload 4, 2) := by decide +kernel
theorem dX5_joinOperator_83 : decode cX5_joinOperator 83 = .ok (.aload_n 0, 1) := by decide +kernel
theorem dX5_joinOperator_84 : decode cX5_joinOperator 84 = .ok (.aload_n 1, 1) := by decide +kernel
theorem dX5_joinOperator_85 : decode cX5_joinOperator 85 = .ok (.iload 7, 2) := by decide +kernel
theorem dX5_joinOperator_87 : decode cX5_joinOperator 87 = .ok (.invokevirtual 89, 3) := by decide +kernel
theorem dX5_joinOperator_90 : decode cX5_joinOperator 90 = .ok (.invokestatic 153, 3) := by decide +kernel
theorem dX5_joinOperator_93 : decode cX5_joinOperator 93 = .ok (.ifCond .ne 38, 3) := by decide +kernel
theorem dX5_joinOperator_96 : decode cX5_joinOperator 96 = .ok (.aload_n 0, 1) := by decide +kernel
theorem dX5_joinOperator_97 : decode cX5_joinOperator 97 = .ok (.getfield 27, 3) := by decide +kernel
theorem dX5_joinOperator_100 : decode cX5_joinOperator 100 = .ok (.iload 5, 2) := by decide +kernel
theorem dX5_joinOperator_102 : decode cX5_joinOperator 102 = .ok (.iconst 1, 1) := by decide +kernel
theorem dX5_joinOperator_103 : decode cX5_joinOperator 103 = .ok (.iastore, 1) := by decide +kernel
theorem dX5_joinOperator_104 : decode cX5_joinOperator 104 = .ok (.aload_n 3, 1) := by decide +kernel
theorem dX5_joinOperator_105 : decode cX5_joinOperator 105 = .ok (.iload_n 2, 1) := by decide +kernel
theorem dX5_joinOperator_106 : decode cX5_joinOperator 106 = .ok (.iload 4, 2) := by decide +kernel
theorem dX5_joinOperator_108 : decode cX5_joinOperator 108 = .ok (.aload_n 0, 1) := by decide +kernel
theorem dX5_joinOperator_109 : decode cX5_joinOperator 109 = .ok (.aload_n 1, 1) := by decide +kernel
theorem dX5_joinOperator_110 : decode cX5_joinOperator 110 = .ok (.iload 6, 2) := by decide +kernel
theorem dX5_joinOperator_112 : decode cX5_joinOperator 112 = .ok (.invokevirtual 89, 3) := by decide +kernel
theorem dX5_joinOperator_115 : decode cX5_joinOperator 115 = .ok (.aload_n 0, 1) := by decide +kernel
theorem dX5_joinOperator_116 : decode cX5_joinOperator 116 = .ok (.aload_n 1, 1) := by decide +kernel
theorem dX5_joinOperator_117 : decode cX5_joinOperator 117 = .ok (.iload 7, 2) := by decide +kernel
theorem dX5_joinOperator_119 : decode cX5_joinOperator 119 = .ok (.invokevirtual 89, 3) := by decide +kernel
theorem dX5_joinOperator_122 : decode cX5_joinOperator 122 = .ok (.invokestatic 157, 3) := by decide +kernel
theorem dX5_joinOperator_125 : decode cX5_joinOperator 125 = .ok (.invokestatic 181, 3) := by decide +kernel
theorem dX5_joinOperator_128 : decode cX5_joinOperator 128 = .ok (.goto 162, 3) := by decide +kernel
theorem dX5_joinOperator_131 : decode cX5_joinOperator 131 = .ok (.aload_n 0, 1) := by decide +kernel
theorem dX5_joinOperator_132 : decode cX5_joinOperator 132 = .ok (.aload_n 1, 1) := by decide +kernel
theorem dX5_joinOperator_133 : decode cX5_joinOperator 133 = .ok (.iload 4, 2) := by decide +kernel
theorem dX5_joinOperator_135 : decode cX5_joinOperator 135 = .ok (.iload 6, 2) := by decide +kernel
theorem dX5_joinOperator_137 : decode cX5_joinOperator 137 = .ok (.iload 7, 2) := by decide +kernel
theorem dX5_joinOperator_139 : decode cX5_joinOperator 139 = .ok (.invokevirtual 245, 3) := by decide +kernel
theorem dX5_joinOperator_142 : decode cX5_joinOperator 142 = .ok (.ifCond .eq 15, 3) := by decide +kernel
theorem dX5_joinOperator_145 : decode cX5_joinOperator 145 = .ok (.aload_n 0, 1) := by decide +kernel
theorem dX5_joinOperator_146 : decode cX5_joinOperator 146 = .ok (.getfield 24, 3) := by decide +kernel
theorem dX5_joinOperator_149 : decode cX5_joinOperator 149 = .ok (.iload 5, 2) := by decide +kernel
theorem dX5_joinOperator_151 : decode cX5_joinOperator 151 = .ok (.iload 6, 2) := by decide +kernel
theorem dX5_joinOperator_153 : decode cX5_joinOperator 153 = .ok (.iastore, 1) := by decide +kernel
theorem dX5_joinOperator_154 : decode cX5_joinOperator 154 = .ok (.goto 136, 3) := by decide +kernel
theorem dX5_joinOperator_157 : decode cX5_joinOperator 157 = .ok (.aload_n 0, 1) := by decide +kernel
theorem dX5_joinOperator_158 : decode cX5_joinOperator 158 = .ok (.aload_n 1, 1) := by decide +kernel
theorem dX5_joinOperator_159 : decode cX5_joinOperator 159 = .ok (.iload 4, 2) := by decide +kernel
theorem dX5_joinOperator_161 : decode cX5_joinOperator 161 = .ok (.iload 6, 2) := by decide +kernel
theorem dX5_joinOperator_163 : decode cX5_joinOperator 163 = .ok (.iload 7, 2) := by decide +kernel
theorem dX5_joinOperator_165 : decode cX5_joinOperator 165 = .ok (.invokevirtual 248, 3) := by decide +kernel
theorem dX5_joinOperator_168 : decode cX5_joinOperator 168 = .ok (.ifCond .eq 15, 3) := by decide +kernel
theorem dX5_joinOperator_171 : decode cX5_joinOperator 171 = .ok (.aload_n 0, 1) := by decide +kernel
theorem dX5_joinOperator_172 : decode cX5_joinOperator 172 = .ok (.getfield 24, 3) := by decide +kernel
theorem dX5_joinOperator_175 : decode cX5_joinOperator 175 = .ok (.iload 5, 2) := by decide +kernel
theorem dX5_joinOperator_177 : decode cX5_joinOperator 177 = .ok (.iload 7, 2) := by decide +kernel
theorem dX5_joinOperator_179 : decode cX5_joinOperator 179 = .ok (.iastore, 1) := by decide +kernel
theorem dX5_joinOperator_180 : decode cX5_joinOperator 180 = .ok (.goto 110, 3) := by decide +kernel
theorem dX5_joinOperator_183 : decode cX5_joinOperator 183 = .ok (.aload_n 0, 1) := by decide +kernel
theorem dX5_joinOperator_184 : decode cX5_joinOperator 184 = .ok (.aload_n 1, 1) := by decide +kernel
theorem dX5_joinOperator_185 : decode cX5_joinOperator 185 = .ok (.iload 4, 2) := by decide +kernel
theorem dX5_joinOperator_187 : decode cX5_joinOperator 187 = .ok (.iload 6, 2) := by decide +kernel
theorem dX5_joinOperator_189 : decode cX5_joinOperator 189 = .ok (.iload 7, 2) := by decide +kernel
theorem dX5_joinOperator_191 : decode cX5_joinOperator 191 = .ok (.invokevirtual 251, 3) := by decide +kernel
theorem dX5_joinOperator_194 : decode cX5_joinOperator 194 = .ok (.ifCond .eq 20, 3) := by decide +kernel
theorem dX5_joinOperator_197 : decode cX5_joinOperator 197 = .ok (.aload_n 0, 1) := by decide +kernel
theorem dX5_joinOperator_198 : decode cX5_joinOperator 198 = .ok (.getfield 27, 3) := by decide +kernel
theorem dX5_joinOperator_201 : decode cX5_joinOperator 201 = .ok (.iload 5, 2) := by decide +kernel
theorem dX5_joinOperator_203 : decode cX5_joinOperator 203 = .ok (.iconst 1, 1) := by decide +kernel
theorem dX5_joinOperator_204 : decode cX5_joinOperator 204 = .ok (.iastore, 1) := by decide +kernel
theorem dX5_joinOperator_205 : decode cX5_joinOperator 205 = .ok (.aload_n 3, 1) := by decide +kernel
theorem dX5_joinOperator_206 : decode cX5_joinOperator 206 = .ok (.iload_n 2, 1) := by decide +kernel
theorem dX5_joinOperator_207 : decode cX5_joinOperator 207 = .ok (.iconst 0, 1) := by decide +kernel
theorem dX5_joinOperator_208 : decode cX5_joinOperator 208 = .ok (.invokestatic 181, 3) := by decide +kernel
theorem dX5_joinOperator_211 : decode cX5_joinOperator 211 = .ok (.goto 79, 3) := by decide +kernel
theorem dX5_joinOperator_214 : decode cX5_joinOperator 214 = .ok (.iload 6, 2) := by decide +kernel
theorem dX5_joinOperator_216 : decode cX5_joinOperator 216 = .ok (.iload 7, 2) := by decide +kernel
theorem dX5_joinOperator_218 : decode cX5_joinOperator 218 = .ok (.if_icmp .ne 41, 3) := by decide +kernel
theorem dX5_joinOperator_221 : decode cX5_joinOperator 221 = .ok (.iload 4, 2) := by decide +kernel
theorem dX5_joinOperator_223 : decode cX5_joinOperator 223 = .ok (.bipush 15, 2) := by decide +kernel
theorem dX5_joinOperator_225 : decode cX5_joinOperator 225 = .ok (.if_icmp .eq 17, 3) := by decide +kernel
theorem dX5_joinOperator_228 : decode cX5_joinOperator 228 = .ok (.iload 4, 2) := by decide +kernel
theorem dX5_joinOperator_230 : decode cX5_joinOperator 230 = .ok (.bipush 12, 2) := by decide +kernel
theorem dX5_joinOperator_232 : decode cX5_joinOperator 232 = .ok (.if_icmp .eq 10, 3) := by decide +kernel
theorem dX5_joinOperator_235 : decode cX5_joinOperator 235 = .ok (.iload 4, 2) := by decide +kernel
theorem dX5_joinOperator_237 : decode cX5_joinOperator 237 = .ok (.bipush 14, 2) := by decide +kernel
theorem dX5_joinOperator_239 : decode cX5_joinOperator 239 = .ok (.if_icmp .ne 20, 3) := by decide +kernel
theorem dX5_joinOperator_242 : decode cX5_joinOperator 242 = .ok (.aload_n 0, 1) := by decide +kernel
theorem dX5_joinOperator_243 : decode cX5_joinOperator 243 = .ok (.getfield 27, 3) := by decide +kernel
theorem dX5_joinOperator_246 : decode cX5_joinOperator 246 = .ok (.iload 5, 2) := by decide +kernel
theorem dX5_joinOperator_248 : decode cX5_joinOperator 248 = .ok (.iconst 1, 1) := by decide +kernel
theorem dX5_joinOperator_249 : decode cX5_joinOperator 249 = .ok (.iastore, 1) := by decide +kernel
theorem dX5_joinOperator_250 : decode cX5_joinOperator 250 = .ok (.aload_n 3, 1) := by decide +kernel
theorem dX5_joinOperator_251 : decode cX5_joinOperator 251 = .ok (.iload_n 2, 1) := by decide +kernel
theorem dX5_joinOperator_252 : decode cX5_joinOperator 252 = .ok (.iconst 1, 1) := by decide +kernel
theorem dX5_joinOperator_253 : decode cX5_joinOperator 253 = .ok (.invokestatic 181, 3) := by decide +kernel
theorem dX5_joinOperator_256 : decode cX5_joinOperator 256 = .ok (.goto 34, 3) := by decide +kernel
theorem dX5_joinOperator_259 : decode cX5_joinOperator 259 = .ok (.iload 6, 2) := by decide +kernel
theorem dX5_joinOperator_261 : decode cX5_joinOperator 261 = .ok (.iload 7, 2) := by decide +kernel
theorem dX5_joinOperator_263 : decode cX5_joinOperator 263 = .ok (.if_icmp .le 27, 3) := by decide +kernel
theorem dX5_joinOperator_266 : decode cX5_joinOperator 266 = .ok (.iload 4, 2) := by decide +kernel
theorem dX5_joinOperator_268 : decode cX5_joinOperator 268 = .ok (.invokestatic 254, 3) := by decide +kernel
theorem dX5_joinOperator_271 : decode cX5_joinOperator 271 = .ok (.ifCond .eq 19, 3) := by decide +kernel
theorem dX5_joinOperator_274 : decode cX5_joinOperator 274 = .ok (.aload_n 3, 1) := by decide +kernel
theorem dX5_joinOperator_275 : decode cX5_joinOperator 275 = .ok (.getfield 82, 3) := by decide +kernel
theorem dX5_joinOperator_278 : decode cX5_joinOperator 278 = .ok (.iload_n 2, 1) := by decide +kernel
theorem dX5_joinOperator_279 : decode cX5_joinOperator 279 = .ok (.iload 7, 2) := by decide +kernel
theorem dX5_joinOperator_281 : decode cX5_joinOperator 281 = .ok (.iastore, 1) := by decide +kernel
theorem dX5_joinOperator_282 : decode cX5_joinOperator 282 = .ok (.aload_n 3, 1) := by decide +kernel
theorem dX5_joinOperator_283 : decode cX5_joinOperator 283 = .ok (.getfield 93, 3) := by decide +kernel
theorem dX5_joinOperator_286 : decode cX5_joinOperator 286 = .ok (.iload_n 2, 1) := by decide +kernel
theorem dX5_joinOperator_287 : decode cX5_joinOperator 287 = .ok (.iload 6, 2) := by decide +kernel
theorem dX5_joinOperator_289 : decode cX5_joinOperator 289 = .ok (.iastore, 1) := by decide +kernel
theorem dX5_joinOperator_290 : decode cX5_joinOperator 290 = .ok (.return_, 1) := by decide +kernel
theorem dX5_joinPhi_0 : decode cX5_joinPhi 0 = .ok (.aload_n 1, 1) := by decide +kernel
theorem dX5_joinPhi_1 : decode cX5_joinPhi 1 = .ok (.getfield 58, 3) := by decide +kernel
theorem dX5_joinPhi_4 : decode cX5_joinPhi 4 = .ok (.iload_n 3, 1) := by decide +kernel
theorem dX5_joinPhi_5 : decode cX5_joinPhi 5 = .ok (.iaload, 1) := by decide +kernel
theorem dX5_joinPhi_6 : decode cX5_joinPhi 6 = .ok (.istore 4, 2) := by decide +kernel
theorem dX5_joinPhi_8 : decode cX5_joinPhi 8 = .ok (.aload_n 0, 1) := by decide +kernel
theorem dX5_joinPhi_9 : decode cX5_joinPhi 9 = .ok (.aload_n 1, 1) := by decide +kernel
theorem dX5_joinPhi_10 : decode cX5_joinPhi 10 = .ok (.iload_n 2, 1) := by decide +kernel
theorem dX5_joinPhi_11 : decode cX5_joinPhi 11 = .ok (.iload_n 3, 1) := by decide +kernel
theorem dX5_joinPhi_12 : decode cX5_joinPhi 12 = .ok (.invokevirtual 237, 3) := by decide +kernel
theorem dX5_joinPhi_15 : decode cX5_joinPhi 15 = .ok (.istore 5, 2) := by decide +kernel
theorem dX5_joinPhi_17 : decode cX5_joinPhi 17 = .ok (.iload 5, 2) := by decide +kernel
theorem dX5_joinPhi_19 : decode cX5_joinPhi 19 = .ok (.ifCond .lt 13, 3) := by decide +kernel
theorem dX5_joinPhi_22 : decode cX5_joinPhi 22 = .ok (.aload_n 0, 1) := by decide +kernel
theorem dX5_joinPhi_23 : decode cX5_joinPhi 23 = .ok (.getfield 24, 3) := by decide +kernel
theorem dX5_joinPhi_26 : decode cX5_joinPhi 26 = .ok (.iload 4, 2) := by decide +kernel
theorem dX5_joinPhi_28 : decode cX5_joinPhi 28 = .ok (.iload 5, 2) := by decide +kernel
theorem dX5_joinPhi_30 : decode cX5_joinPhi 30 = .ok (.iastore, 1) := by decide +kernel
theorem dX5_joinPhi_31 : decode cX5_joinPhi 31 = .ok (.return_, 1) := by decide +kernel
theorem dX5_joinPhi_32 : decode cX5_joinPhi 32 = .ok (.aload_n 1, 1) := by decide +kernel
theorem dX5_joinPhi_33 : decode cX5_joinPhi 33 = .ok (.getfield 55, 3) := by decide +kernel
theorem dX5_joinPhi_36 : decode cX5_joinPhi 36 = .ok (.iload_n 2, 1) := by decide +kernel
theorem dX5_joinPhi_37 : decode cX5_joinPhi 37 = .ok (.iaload, 1) := by decide +kernel
theorem dX5_joinPhi_38 : decode cX5_joinPhi 38 = .ok (.istore 6, 2) := by decide +kernel
theorem dX5_joinPhi_40 : decode cX5_joinPhi 40 = .ok (.iload 6, 2) := by decide +kernel
theorem dX5_joinPhi_42 : decode cX5_joinPhi 42 = .ok (.ifCond .lt 63, 3) := by decide +kernel
theorem dX5_joinPhi_45 : decode cX5_joinPhi 45 = .ok (.iload 6, 2) := by decide +kernel
theorem dX5_joinPhi_47 : decode cX5_joinPhi 47 = .ok (.iload_n 3, 1) := by decide +kernel
theorem dX5_joinPhi_48 : decode cX5_joinPhi 48 = .ok (.if_icmp .eq 57, 3) := by decide +kernel
theorem dX5_joinPhi_51 : decode cX5_joinPhi 51 = .ok (.aload_n 0, 1) := by decide +kernel
theorem dX5_joinPhi_52 : decode cX5_joinPhi 52 = .ok (.getfield 24, 3) := by decide +kernel
theorem dX5_joinPhi_55 : decode cX5_joinPhi 55 = .ok (.aload_n 1, 1) := by decide +kernel
theorem dX5_joinPhi_56 : decode cX5_joinPhi 56 = .ok (.getfield 58, 3) := by decide +kernel
theorem dX5_joinPhi_59 : decode cX5_joinPhi 59 = .ok (.iload 6, 2) := by decide +kernel
theorem dX5_joinPhi_61 : decode cX5_joinPhi 61 = .ok (.iaload, 1) := by decide +kernel
theorem dX5_joinPhi_62 : decode cX5_joinPhi 62 = .ok (.iaload, 1) := by decide +kernel
theorem dX5_joinPhi_63 : decode cX5_joinPhi 63 = .ok (.ifCond .ge 30, 3) := by decide +kernel
theorem dX5_joinPhi_66 : decode cX5_joinPhi 66 = .ok (.aload_n 0, 1) := by decide +kernel
theorem dX5_joinPhi_67 : decode cX5_joinPhi 67 = .ok (.aload_n 1, 1) := by decide +kernel
theorem dX5_joinPhi_68 : decode cX5_joinPhi 68 = .ok (.iload_n 2, 1) := by decide +kernel
theorem dX5_joinPhi_69 : decode cX5_joinPhi 69 = .ok (.iload 6, 2) := by decide +kernel
theorem dX5_joinPhi_71 : decode cX5_joinPhi 71 = .ok (.iload_n 3, 1) := by decide +kernel
theorem dX5_joinPhi_72 : decode cX5_joinPhi 72 = .ok (.invokevirtual 241, 3) := by decide +kernel
theorem dX5_joinPhi_75 : decode cX5_joinPhi 75 = .ok (.ifCond .eq 18, 3) := by decide +kernel
theorem dX5_joinPhi_78 : decode cX5_joinPhi 78 = .ok (.aload_n 0, 1) := by decide +kernel
theorem dX5_joinPhi_79 : decode cX5_joinPhi 79 = .ok (.getfield 24, 3) := by decide +kernel
theorem dX5_joinPhi_82 : decode cX5_joinPhi 82 = .ok (.iload 4, 2) := by decide +kernel
theorem dX5_joinPhi_84 : decode cX5_joinPhi 84 = .ok (.aload_n 1, 1) := by decide +kernel
theorem dX5_joinPhi_85 : decode cX5_joinPhi 85 = .ok (.getfield 58, 3) := by decide +kernel
theorem dX5_joinPhi_88 : decode cX5_joinPhi 88 = .ok (.iload 6, 2) := by decide +kernel
theorem dX5_joinPhi_90 : decode cX5_joinPhi 90 = .ok (.iaload, 1) := by decide +kernel
theorem dX5_joinPhi_91 : decode cX5_joinPhi 91 = .ok (.iastore, 1) := by decide +kernel
theorem dX5_joinPhi_92 : decode cX5_joinPhi 92 = .ok (.return_, 1) := by decide +kernel
theorem dX5_joinPhi_93 : decode cX5_joinPhi 93 = .ok (.aload_n 1, 1) := by decide +kernel
theorem dX5_joinPhi_94 : decode cX5_joinPhi 94 = .ok (.getfield 61, 3) := by decide +kernel
theorem dX5_joinPhi_97 : decode cX5_joinPhi 97 = .ok (.iload 6, 2) := by decide +kernel
theorem dX5_joinPhi_99 : decode cX5_joinPhi 99 = .ok (.iaload, 1) := by decide +kernel
theorem dX5_joinPhi_100 : decode cX5_joinPhi 100 = .ok (.istore 6, 2) := by decide +kernel
theorem dX5_joinPhi_102 : decode cX5_joinPhi 102 = .ok (.goto (-62), 3) := by decide +kernel
theorem dX5_joinPhi_105 : decode cX5_joinPhi 105 = .ok (.return_, 1) := by decide +kernel
theorem dX5_joinSeen_0 : decode cX5_joinSeen 0 = .ok (.aload_n 1, 1) := by decide +kernel
theorem dX5_joinSeen_1 : decode cX5_joinSeen 1 = .ok (.getfield 67, 3) := by decide +kernel
theorem dX5_joinSeen_4 : decode cX5_joinSeen 4 = .ok (.astore 4, 2) := by decide +kernel
theorem dX5_joinSeen_6 : decode cX5_joinSeen 6 = .ok (.iconst 0, 1) := by decide +kernel
theorem dX5_joinSeen_7 : decode cX5_joinSeen 7 = .ok (.istore 5, 2) := by decide +kernel
theorem dX5_joinSeen_9 : decode cX5_joinSeen 9 = .ok (.iload 5, 2) := by decide +kernel
theorem dX5_joinSeen_11 : decode cX5_joinSeen 11 = .ok (.aload_n 0, 1) := by decide +kernel
theorem dX5_joinSeen_12 : decode cX5_joinSeen 12 = .ok (.getfield 194, 3) := by decide +kernel
theorem dX5_joinSeen_15 : decode cX5_joinSeen 15 = .ok (.if_icmp .ge 124, 3) := by decide +kernel
theorem dX5_joinSeen_18 : decode cX5_joinSeen 18 = .ok (.aload_n 0, 1) := by decide +kernel
theorem dX5_joinSeen_19 : decode cX5_joinSeen 19 = .ok (.getfield 30, 3) := by decide +kernel
theorem dX5_joinSeen_22 : decode cX5_joinSeen 22 = .ok (.iload 5, 2) := by decide +kernel
theorem dX5_joinSeen_24 : decode cX5_joinSeen 24 = .ok (.iaload, 1) := by decide +kernel
theorem dX5_joinSeen_25 : decode cX5_joinSeen 25 = .ok (.istore 6, 2) := by decide +kernel
theorem dX5_joinSeen_27 : decode cX5_joinSeen 27 = .ok (.aload 4, 2) := by decide +kernel
theorem dX5_joinSeen_29 : decode cX5_joinSeen 29 = .ok (.getfield 79, 3) := by decide +kernel
theorem dX5_joinSeen_32 : decode cX5_joinSeen 32 = .ok (.iload 6, 2) := by decide +kernel
theorem dX5_joinSeen_34 : decode cX5_joinSeen 34 = .ok (.iaload, 1) := by decide +kernel
theorem dX5_joinSeen_35 : decode cX5_joinSeen 35 = .ok (.aload 4, 2) := by decide +kernel
theorem dX5_joinSeen_37 : decode cX5_joinSeen 37 = .ok (.getfield 79, 3) := by decide +kernel
theorem dX5_joinSeen_40 : decode cX5_joinSeen 40 = .ok (.iload_n 3, 1) := by decide +kernel
theorem dX5_joinSeen_41 : decode cX5_joinSeen 41 = .ok (.iaload, 1) := by decide +kernel
theorem dX5_joinSeen_42 : decode cX5_joinSeen 42 = .ok (.if_icmp .ne 43, 3) := by decide +kernel
theorem dX5_joinSeen_45 : decode cX5_joinSeen 45 = .ok (.aload 4, 2) := by decide +kernel
theorem dX5_joinSeen_47 : decode cX5_joinSeen 47 = .ok (.getfield 82, 3) := by decide +kernel
theorem dX5_joinSeen_50 : decode cX5_joinSeen 50 = .ok (.iload 6, 2) := by decide +kernel
theorem dX5_joinSeen_52 : decode cX5_joinSeen 52 = .ok (.iaload, 1) := by decide +kernel
theorem dX5_joinSeen_53 : decode cX5_joinSeen 53 = .ok (.aload 4, 2) := by decide +kernel
theorem dX5_joinSeen_55 : decode cX5_joinSeen 55 = .ok (.getfield 82, 3) := by decide +kernel
theorem dX5_joinSeen_58 : decode cX5_joinSeen 58 = .ok (.iload_n 3, 1) := by decide +kernel
theorem dX5_joinSeen_59 : decode cX5_joinSeen 59 = .ok (.iaload, 1) := by decide +kernel
theorem dX5_joinSeen_60 : decode cX5_joinSeen 60 = .ok (.if_icmp .ne 25, 3) := by decide +kernel
theorem dX5_joinSeen_63 : decode cX5_joinSeen 63 = .ok (.aload 4, 2) := by decide +kernel
theorem dX5_joinSeen_65 : decode cX5_joinSeen 65 = .ok (.getfield 93, 3) := by decide +kernel
theorem dX5_joinSeen_68 : decode cX5_joinSeen 68 = .ok (.iload 6, 2) := by decide +kernel
theorem dX5_joinSeen_70 : decode cX5_joinSeen 70 = .ok (.iaload, 1) := by decide +kernel
theorem dX5_joinSeen_71 : decode cX5_joinSeen 71 = .ok (.aload 4, 2) := by decide +kernel
theorem dX5_joinSeen_73 : decode cX5_joinSeen 73 = .ok (.getfield 93, 3) := by decide +kernel
theorem dX5_joinSeen_76 : decode cX5_joinSeen 76 = .ok (.iload_n 3, 1) := by decide +kernel
theorem dX5_joinSeen_77 : decode cX5_joinSeen 77 = .ok (.iaload, 1) := by decide +kernel
theorem dX5_joinSeen_78 : decode cX5_joinSeen 78 = .ok (.if_icmp .ne 7, 3) := by decide +kernel
theorem dX5_joinSeen_81 : decode cX5_joinSeen 81 = .ok (.iconst 1, 1) := by decide +kernel
theorem dX5_joinSeen_82 : decode cX5_joinSeen 82 = .ok (.goto 4, 3) := by decide +kernel
theorem dX5_joinSeen_85 : decode cX5_joinSeen 85 = .ok (.iconst 0, 1) := by decide +kernel
theorem dX5_joinSeen_86 : decode cX5_joinSeen 86 = .ok (.istore 7, 2) := by decide +kernel
theorem dX5_joinSeen_88 : decode cX5_joinSeen 88 = .ok (.iload 7, 2) := by decide +kernel
theorem dX5_joinSeen_90 : decode cX5_joinSeen 90 = .ok (.ifCond .eq 43, 3) := by decide +kernel
theorem dX5_joinSeen_93 : decode cX5_joinSeen 93 = .ok (.aload_n 1, 1) := by decide +kernel
theorem dX5_joinSeen_94 : decode cX5_joinSeen 94 = .ok (.getfield 259, 3) := by decide +kernel
theorem dX5_joinSeen_97 : decode cX5_joinSeen 97 = .ok (.iload_n 2, 1) := by decide +kernel
theorem dX5_joinSeen_98 : decode cX5_joinSeen 98 = .ok (.laload, 1) := by decide +kernel
theorem dX5_joinSeen_99 : decode cX5_joinSeen 99 = .ok (.aload_n 0, 1) := by decide +kernel
theorem dX5_joinSeen_100 : decode cX5_joinSeen 100 = .ok (.getfield 33, 3) := by decide +kernel
theorem dX5_joinSeen_103 : decode cX5_joinSeen 103 = .ok (.iload 5, 2) := by decide +kernel
theorem dX5_joinSeen_105 : decode cX5_joinSeen 105 = .ok (.iaload, 1) := by decide +kernel
theorem dX5_joinSeen_106 : decode cX5_joinSeen 106 = .ok (.invokestatic 101, 3) := by decide +kernel
theorem dX5_joinSeen_109 : decode cX5_joinSeen 109 = .ok (.ifCond .eq 24, 3) := by decide +kernel
theorem dX5_joinSeen_112 : decode cX5_joinSeen 112 = .ok (.aload_n 0, 1) := by decide +kernel
theorem dX5_joinSeen_113 : decode cX5_joinSeen 113 = .ok (.getfield 24, 3) := by decide +kernel
theorem dX5_joinSeen_116 : decode cX5_joinSeen 116 = .ok (.aload 4, 2) := by decide +kernel
theorem dX5_joinSeen_118 : decode cX5_joinSeen 118 = .ok (.getfield 71, 3) := by decide +kernel
theorem dX5_joinSeen_121 : decode cX5_joinSeen 121 = .ok (.iload_n 3, 1) := by decide +kernel
theorem dX5_joinSeen_122 : decode cX5_joinSeen 122 = .ok (.iaload, 1) := by decide +kernel
theorem dX5_joinSeen_123 : decode cX5_joinSeen 123 = .ok (.aload 4, 2) := by decide +kernel
theorem dX5_joinSeen_125 : decode cX5_joinSeen 125 = .ok (.getfield 71, 3) := by decide +kernel
theorem dX5_joinSeen_128 : decode cX5_joinSeen 128 = .ok (.iload 6, 2) := by decide +kernel
theorem dX5_joinSeen_130 : decode cX5_joinSeen 130 = .ok (.iaload, 1) := by decide +kernel
theorem dX5_joinSeen_131 : decode cX5_joinSeen 131 = .ok (.iastore, 1) := by decide +kernel
theorem dX5_joinSeen_132 : decode cX5_joinSeen 132 = .ok (.return_, 1) := by decide +kernel
theorem dX5_joinSeen_133 : decode cX5_joinSeen 133 = .ok (.iinc 5 1, 3) := by decide +kernel
theorem dX5_joinSeen_136 : decode cX5_joinSeen 136 = .ok (.goto (-127), 3) := by decide +kernel
theorem dX5_joinSeen_139 : decode cX5_joinSeen 139 = .ok (.aload_n 0, 1) := by decide +kernel
theorem dX5_joinSeen_140 : decode cX5_joinSeen 140 = .ok (.getfield 194, 3) := by decide +kernel
theorem dX5_joinSeen_143 : decode cX5_joinSeen 143 = .ok (.sipush 250, 3) := by decide +kernel
theorem dX5_joinSeen_146 : decode cX5_joinSeen 146 = .ok (.if_icmp .ge 33, 3) := by decide +kernel
theorem dX5_joinSeen_149 : decode cX5_joinSeen 149 = .ok (.aload_n 0, 1) := by decide +kernel
theorem dX5_joinSeen_150 : decode cX5_joinSeen 150 = .ok (.getfield 30, 3) := by decide +kernel
theorem dX5_joinSeen_153 : decode cX5_joinSeen 153 = .ok (.aload_n 0, 1) := by decide +kernel
theorem dX5_joinSeen_154 : decode cX5_joinSeen 154 = .ok (.getfield 194, 3) := by decide +kernel
theorem dX5_joinSeen_157 : decode cX5_joinSeen 157 = .ok (.iload_n 3, 1) := by decide +kernel
theorem dX5_joinSeen_158 : decode cX5_joinSeen 158 = .ok (.iastore, 1) := by decide +kernel
theorem dX5_joinSeen_159 : decode cX5_joinSeen 159 = .ok (.aload_n 0, 1) := by decide +kernel
theorem dX5_joinSeen_160 : decode cX5_joinSeen 160 = .ok (.getfield 33, 3) := by decide +kernel
theorem dX5_joinSeen_163 : decode cX5_joinSeen 163 = .ok (.aload_n 0, 1) := by decide +kernel
theorem dX5_joinSeen_164 : decode cX5_joinSeen 164 = .ok (.getfield 194, 3) := by decide +kernel
theorem dX5_joinSeen_167 : decode cX5_joinSeen 167 = .ok (.iload_n 2, 1) := by decide +kernel
theorem dX5_joinSeen_168 : decode cX5_joinSeen 168 = .ok (.iastore, 1) := by decide +kernel
theorem dX5_joinSeen_169 : decode cX5_joinSeen 169 = .ok (.aload_n 0, 1) := by decide +kernel
theorem dX5_joinSeen_170 : decode cX5_joinSeen 170 = .ok (.dup, 1) := by decide +kernel
theorem dX5_joinSeen_171 : decode cX5_joinSeen 171 = .ok (.getfield 194, 3) := by decide +kernel
theorem dX5_joinSeen_174 : decode cX5_joinSeen 174 = .ok (.iconst 1, 1) := by decide +kernel
theorem dX5_joinSeen_175 : decode cX5_joinSeen 175 = .ok (.iadd, 1) := by decide +kernel
theorem dX5_joinSeen_176 : decode cX5_joinSeen 176 = .ok (.putfield 194, 3) := by decide +kernel
theorem dX5_joinSeen_179 : decode cX5_joinSeen 179 = .ok (.return_, 1) := by decide +kernel
theorem dX5_onlyTake_0 : decode cX5_onlyTake 0 = .ok (.iconst (-1), 1) := by decide +kernel
theorem dX5_onlyTake_1 : decode cX5_onlyTake 1 = .ok (.istore 4, 2) := by decide +kernel
theorem dX5_onlyTake_3 : decode cX5_onlyTake 3 = .ok (.iconst 0, 1) := by decide +kernel
theorem dX5_onlyTake_4 : decode cX5_onlyTake 4 = .ok (.istore 5, 2) := by decide +kernel
theorem dX5_onlyTake_6 : decode cX5_onlyTake 6 = .ok (.iload 5, 2) := by decide +kernel
theorem dX5_onlyTake_8 : decode cX5_onlyTake 8 = .ok (.aload_n 1, 1) := by decide +kernel
theorem dX5_onlyTake_9 : decode cX5_onlyTake 9 = .ok (.iload_n 2, 1) := by decide +kernel
theorem dX5_onlyTake_10 : decode cX5_onlyTake 10 = .ok (.invokevirtual 134, 3) := by decide +kernel
theorem dX5_onlyTake_13 : decode cX5_onlyTake 13 = .ok (.if_icmp .ge 56, 3) := by decide +kernel
theorem dX5_onlyTake_16 : decode cX5_onlyTake 16 = .ok (.aload_n 0, 1) := by decide +kernel
theorem dX5_onlyTake_17 : decode cX5_onlyTake 17 = .ok (.aload_n 1, 1) := by decide +kernel
theorem dX5_onlyTake_18 : decode cX5_onlyTake 18 = .ok (.iload_n 3, 1) := by decide +kernel
theorem dX5_onlyTake_19 : decode cX5_onlyTake 19 = .ok (.aload_n 1, 1) := by decide +kernel
theorem dX5_onlyTake_20 : decode cX5_onlyTake 20 = .ok (.iload_n 2, 1) := by decide +kernel
theorem dX5_onlyTake_21 : decode cX5_onlyTake 21 = .ok (.iload 5, 2) := by decide +kernel
theorem dX5_onlyTake_23 : decode cX5_onlyTake 23 = .ok (.invokevirtual 138, 3) := by decide +kernel
theorem dX5_onlyTake_26 : decode cX5_onlyTake 26 = .ok (.invokevirtual 142, 3) := by decide +kernel
theorem dX5_onlyTake_29 : decode cX5_onlyTake 29 = .ok (.invokevirtual 214, 3) := by decide +kernel
theorem dX5_onlyTake_32 : decode cX5_onlyTake 32 = .ok (.istore 6, 2) := by decide +kernel
theorem dX5_onlyTake_34 : decode cX5_onlyTake 34 = .ok (.iload 6, 2) := by decide +kernel
theorem dX5_onlyTake_36 : decode cX5_onlyTake 36 = .ok (.aload_n 1, 1) := by decide +kernel
theorem dX5_onlyTake_37 : decode cX5_onlyTake 37 = .ok (.getfield 58, 3) := by decide +kernel
theorem dX5_onlyTake_40 : decode cX5_onlyTake 40 = .ok (.iload_n 3, 1) := by decide +kernel
theorem dX5_onlyTake_41 : decode cX5_onlyTake 41 = .ok (.iaload, 1) := by decide +kernel
theorem dX5_onlyTake_42 : decode cX5_onlyTake 42 = .ok (.if_icmp .eq 21, 3) := by decide +kernel
theorem dX5_onlyTake_45 : decode cX5_onlyTake 45 = .ok (.iload 6, 2) := by decide +kernel
theorem dX5_onlyTake_47 : decode cX5_onlyTake 47 = .ok (.iload 4, 2) := by decide +kernel
theorem dX5_onlyTake_49 : decode cX5_onlyTake 49 = .ok (.if_icmp .eq 14, 3) := by decide +kernel
theorem dX5_onlyTake_52 : decode cX5_onlyTake 52 = .ok (.iload 4, 2) := by decide +kernel
theorem dX5_onlyTake_54 : decode cX5_onlyTake 54 = .ok (.ifCond .lt 5, 3) := by decide +kernel
theorem dX5_onlyTake_57 : decode cX5_onlyTake 57 = .ok (.iconst (-1), 1) := by decide +kernel
theorem dX5_onlyTake_58 : decode cX5_onlyTake 58 = .ok (.ireturn, 1) := by decide +kernel
theorem dX5_onlyTake_59 : decode cX5_onlyTake 59 = .ok (.iload 6, 2) := by decide +kernel
theorem dX5_onlyTake_61 : decode cX5_onlyTake 61 = .ok (.istore 4, 2) := by decide +kernel
theorem dX5_onlyTake_63 : decode cX5_onlyTake 63 = .ok (.iinc 5 1, 3) := by decide +kernel
theorem dX5_onlyTake_66 : decode cX5_onlyTake 66 = .ok (.goto (-60), 3) := by decide +kernel
theorem dX5_onlyTake_69 : decode cX5_onlyTake 69 = .ok (.iload 4, 2) := by decide +kernel
theorem dX5_onlyTake_71 : decode cX5_onlyTake 71 = .ok (.ireturn, 1) := by decide +kernel
theorem dX5_standInOf_0 : decode cX5_standInOf 0 = .ok (.iload_n 1, 1) := by decide +kernel
theorem dX5_standInOf_1 : decode cX5_standInOf 1 = .ok (.istore_n 2, 1) := by decide +kernel
theorem dX5_standInOf_2 : decode cX5_standInOf 2 = .ok (.iconst 0, 1) := by decide +kernel
theorem dX5_standInOf_3 : decode cX5_standInOf 3 = .ok (.istore_n 3, 1) := by decide +kernel
theorem dX5_standInOf_4 : decode cX5_standInOf 4 = .ok (.iload_n 3, 1) := by decide +kernel
theorem dX5_standInOf_5 : decode cX5_standInOf 5 = .ok (.sipush 250, 3) := by decide +kernel
theorem dX5_standInOf_8 : decode cX5_standInOf 8 = .ok (.if_icmp .ge 25, 3) := by decide +kernel
theorem dX5_standInOf_11 : decode cX5_standInOf 11 = .ok (.aload_n 0, 1) := by decide +kernel
theorem dX5_standInOf_12 : decode cX5_standInOf 12 = .ok (.getfield 24, 3) := by decide +kernel
theorem dX5_standInOf_15 : decode cX5_standInOf 15 = .ok (.iload_n 2, 1) := by decide +kernel
theorem dX5_standInOf_16 : decode cX5_standInOf 16 = .ok (.iaload, 1) := by decide +kernel
theorem dX5_standInOf_17 : decode cX5_standInOf 17 = .ok (.ifCond .lt 16, 3) := by decide +kernel
theorem dX5_standInOf_20 : decode cX5_standInOf 20 = .ok (.aload_n 0, 1) := by decide +kernel
theorem dX5_standInOf_21 : decode cX5_standInOf 21 = .ok (.getfield 24, 3) := by decide +kernel
theorem dX5_standInOf_24 : decode cX5_standInOf 24 = .ok (.iload_n 2, 1) := by decide +kernel
theorem dX5_standInOf_25 : decode cX5_standInOf 25 = .ok (.iaload, 1) := by decide +kernel
theorem dX5_standInOf_26 : decode cX5_standInOf 26 = .ok (.istore_n 2, 1) := by decide +kernel
theorem dX5_standInOf_27 : decode cX5_standInOf 27 = .ok (.iinc 3 1, 3) := by decide +kernel
theorem dX5_standInOf_30 : decode cX5_standInOf 30 = .ok (.goto (-26), 3) := by decide +kernel
theorem dX5_standInOf_33 : decode cX5_standInOf 33 = .ok (.iload_n 2, 1) := by decide +kernel
theorem dX5_standInOf_34 : decode cX5_standInOf 34 = .ok (.ireturn, 1) := by decide +kernel
theorem dX5_takeAlike_0 : decode cX5_takeAlike 0 = .ok (.iconst 0, 1) := by decide +kernel
theorem dX5_takeAlike_1 : decode cX5_takeAlike 1 = .ok (.istore 5, 2) := by decide +kernel
theorem dX5_takeAlike_3 : decode cX5_takeAlike 3 = .ok (.iload 5, 2) := by decide +kernel
theorem dX5_takeAlike_5 : decode cX5_takeAlike 5 = .ok (.aload_n 1, 1) := by decide +kernel
theorem dX5_takeAlike_6 : decode cX5_takeAlike 6 = .ok (.iload_n 2, 1) := by decide +kernel
theorem dX5_takeAlike_7 : decode cX5_takeAlike 7 = .ok (.invokevirtual 134, 3) := by decide +kernel
theorem dX5_takeAlike_10 : decode cX5_takeAlike 10 = .ok (.if_icmp .ge 46, 3) := by decide +kernel
theorem dX5_takeAlike_13 : decode cX5_takeAlike 13 = .ok (.aload_n 1, 1) := by decide +kernel
theorem dX5_takeAlike_14 : decode cX5_takeAlike 14 = .ok (.iload_n 2, 1) := by decide +kernel
theorem dX5_takeAlike_15 : decode cX5_takeAlike 15 = .ok (.iload 5, 2) := by decide +kernel
theorem dX5_takeAlike_17 : decode cX5_takeAlike 17 = .ok (.invokevirtual 138, 3) := by decide +kernel
theorem dX5_takeAlike_20 : decode cX5_takeAlike 20 = .ok (.istore 6, 2) := by decide +kernel
theorem dX5_takeAlike_22 : decode cX5_takeAlike 22 = .ok (.aload_n 0, 1) := by decide +kernel
theorem dX5_takeAlike_23 : decode cX5_takeAlike 23 = .ok (.aload_n 1, 1) := by decide +kernel
theorem dX5_takeAlike_24 : decode cX5_takeAlike 24 = .ok (.iload_n 3, 1) := by decide +kernel
theorem dX5_takeAlike_25 : decode cX5_takeAlike 25 = .ok (.iload 6, 2) := by decide +kernel
theorem dX5_takeAlike_27 : decode cX5_takeAlike 27 = .ok (.invokevirtual 142, 3) := by decide +kernel
theorem dX5_takeAlike_30 : decode cX5_takeAlike 30 = .ok (.invokevirtual 214, 3) := by decide +kernel
theorem dX5_takeAlike_33 : decode cX5_takeAlike 33 = .ok (.aload_n 0, 1) := by decide +kernel
theorem dX5_takeAlike_34 : decode cX5_takeAlike 34 = .ok (.aload_n 1, 1) := by decide +kernel
theorem dX5_takeAlike_35 : decode cX5_takeAlike 35 = .ok (.iload 4, 2) := by decide +kernel
theorem dX5_takeAlike_37 : decode cX5_takeAlike 37 = .ok (.iload 6, 2) := by decide +kernel
theorem dX5_takeAlike_39 : decode cX5_takeAlike 39 = .ok (.invokevirtual 142, 3) := by decide +kernel
theorem dX5_takeAlike_42 : decode cX5_takeAlike 42 = .ok (.invokevirtual 214, 3) := by decide +kernel
theorem dX5_takeAlike_45 : decode cX5_takeAlike 45 = .ok (.if_icmp .eq 5, 3) := by decide +kernel
theorem dX5_takeAlike_48 : decode cX5_takeAlike 48 = .ok (.iconst 0, 1) := by decide +kernel
theorem dX5_takeAlike_49 : decode cX5_takeAlike 49 = .ok (.ireturn, 1) := by decide +kernel
theorem dX5_takeAlike_50 : decode cX5_takeAlike 50 = .ok (.iinc 5 1, 3) := by decide +kernel
theorem dX5_takeAlike_53 : decode cX5_takeAlike 53 = .ok (.goto (-50), 3) := by decide +kernel
theorem dX5_takeAlike_56 : decode cX5_takeAlike 56 = .ok (.iconst 1, 1) := by decide +kernel
theorem dX5_takeAlike_57 : decode cX5_takeAlike 57 = .ok (.ireturn, 1) := by decide +kernel
theorem qw539 : Cond.fieldLink RX5 24 "Gearbox$Passes" "standIn" "[I" ∈ gw := mq_2 (i := 215) rfl rfl
theorem qw540 : Cond.code yX5_standInOf cX5_standInOf 4 (Option.some Jvm.ClassFile.FieldType.int) ∈ gw := mq_7 (i := 230) rfl rfl
theorem qw541 : Cond.methodLink RX5 214 yX5_standInOf ∈ gw := mq_7 (i := 227) rfl rfl
theorem qw542 : Cond.instanceMethod yX5_standInOf ∈ gw := mq_7 (i := 229) rfl rfl
theorem qw543 : Cond.selects RX5 yX5_standInOf yX5_standInOf ∈ gw := mk_s (i := 45) rfl rfl
theorem qw544 : Cond.code yX5_onlyTake cX5_onlyTake 7 (Option.some Jvm.ClassFile.FieldType.int) ∈ gw := mq_7 (i := 226) rfl rfl
theorem qw545 : Cond.methodLink RX5 237 yX5_onlyTake ∈ gw := mq_7 (i := 223) rfl rfl
theorem qw546 : Cond.instanceMethod yX5_onlyTake ∈ gw := mq_7 (i := 225) rfl rfl
theorem qw547 : Cond.selects RX5 yX5_onlyTake yX5_onlyTake ∈ gw := mk_s (i := 46) rfl rfl
theorem qw548 : Cond.code yX5_takeAlike cX5_takeAlike 7 (Option.some Jvm.ClassFile.FieldType.boolean) ∈ gw := mq_7 (i := 234) rfl rfl
theorem qw549 : Cond.methodLink RX5 241 yX5_takeAlike ∈ gw := mq_7 (i := 231) rfl rfl
theorem qw550 : Cond.instanceMethod yX5_takeAlike ∈ gw := mq_7 (i := 233) rfl rfl
theorem qw551 : Cond.selects RX5 yX5_takeAlike yX5_takeAlike ∈ gw := mk_s (i := 47) rfl rfl
theorem qw552 : Cond.code yX5_joinPhi cX5_joinPhi 7 (Option.none : Option Jvm.ClassFile.FieldType) ∈ gw := mq_7 (i := 222) rfl rfl
theorem qw553 : Cond.methodLink RX5 227 yX5_joinPhi ∈ gw := mq_7 (i := 219) rfl rfl
theorem qw554 : Cond.instanceMethod yX5_joinPhi ∈ gw := mq_7 (i := 221) rfl rfl
theorem qw555 : Cond.selects RX5 yX5_joinPhi yX5_joinPhi ∈ gw := mk_s (i := 48) rfl rfl
theorem qw556 : Cond.fieldLink RX5 194 "Gearbox$Passes" "seen" "I" ∈ gw := mq_2 (i := 220) rfl rfl
theorem qw557 : Cond.fieldLink RX5 30 "Gearbox$Passes" "seenStep" "[I" ∈ gw := mq_2 (i := 218) rfl rfl
theorem qw558 : Cond.fieldLink RX5 259 "Gearbox$Flow" "dominators" "[J" ∈ gw := mq_2 (i := 51) rfl rfl
theorem qw559 : Cond.fieldLink RX5 33 "Gearbox$Passes" "seenBlock" "[I" ∈ gw := mq_2 (i := 219) rfl rfl
theorem qw560 : Cond.code yX5_joinSeen cX5_joinSeen 8 (Option.none : Option Jvm.ClassFile.FieldType) ∈ gw := mq_8 (i := 29) rfl rfl
theorem qw561 : Cond.methodLink RX5 234 yX5_joinSeen ∈ gw := mq_8 (i := 26) rfl rfl
theorem qw562 : Cond.instanceMethod yX5_joinSeen ∈ gw := mq_8 (i := 28) rfl rfl
theorem qw563 : Cond.selects RX5 yX5_joinSeen yX5_joinSeen ∈ gw := mk_s (i := 49) rfl rfl
theorem qw564 : Cond.code yX5_isLeftAlone cX5_isLeftAlone 5 (Option.some Jvm.ClassFile.FieldType.boolean) ∈ gw := mq_8 (i := 10) rfl rfl
theorem qw565 : Cond.methodLink RX5 245 yX5_isLeftAlone ∈ gw := mq_8 (i := 7) rfl rfl
theorem qw566 : Cond.instanceMethod yX5_isLeftAlone ∈ gw := mq_8 (i := 9) rfl rfl
theorem qw567 : Cond.selects RX5 yX5_isLeftAlone yX5_isLeftAlone ∈ gw := mk_s (i := 50) rfl rfl
theorem qw568 : Cond.code yX5_isRightAlone cX5_isRightAlone 5 (Option.some Jvm.ClassFile.FieldType.boolean) ∈ gw := mq_8 (i := 18) rfl rfl
theorem qw569 : Cond.methodLink RX5 248 yX5_isRightAlone ∈ gw := mq_8 (i := 15) rfl rfl
theorem qw570 : Cond.instanceMethod yX5_isRightAlone ∈ gw := mq_8 (i := 17) rfl rfl
theorem qw571 : Cond.selects RX5 yX5_isRightAlone yX5_isRightAlone ∈ gw := mk_s (i := 51) rfl rfl
theorem qw572 : Cond.code yX5_isAlwaysZero cX5_isAlwaysZero 5 (Option.some Jvm.ClassFile.FieldType.boolean) ∈ gw := mq_8 (i := 22) rfl rfl
theorem qw573 : Cond.methodLink RX5 251 yX5_isAlwaysZero ∈ gw := mq_8 (i := 19) rfl rfl
theorem qw574 : Cond.instanceMethod yX5_isAlwaysZero ∈ gw := mq_8 (i := 21) rfl rfl
theorem qw575 : Cond.selects RX5 yX5_isAlwaysZero yX5_isAlwaysZero ∈ gw := mk_s (i := 52) rfl rfl
theorem qw576 : Cond.code yX5_isEitherWay cX5_isEitherWay 1 (Option.some Jvm.ClassFile.FieldType.boolean) ∈ gw := mq_8 (i := 25) rfl rfl
theorem qw577 : Cond.methodLink RX5 254 yX5_isEitherWay ∈ gw := mq_8 (i := 23) rfl rfl
theorem qw578 : Cond.static yX5_isEitherWay ∈ gw := mq_8 (i := 24) rfl rfl
theorem qw579 : Cond.code yX5_joinOperator cX5_joinOperator 8 (Option.none : Option Jvm.ClassFile.FieldType) ∈ gw := mq_7 (i := 238) rfl rfl
theorem qw580 : Cond.methodLink RX5 231 yX5_joinOperator ∈ gw := mq_7 (i := 235) rfl rfl
theorem qw581 : Cond.instanceMethod yX5_joinOperator ∈ gw := mq_7 (i := 237) rfl rfl
theorem qw582 : Cond.selects RX5 yX5_joinOperator yX5_joinOperator ∈ gw := mk_s (i := 53) rfl rfl
def fX5_isEitherWay_J45 (y0_45 : Int32) : Option Int32 := (if y0_45 = 0 ∨ y0_45 = 1 then some y0_45 else none)
def fX5_isEitherWay_J40  : Option Int32 := (fX5_isEitherWay_J45 1)
def fX5_isEitherWay (p0 : Int32) : Option Int32 := (if p0 = 1 then (fX5_isEitherWay_J40) else (if p0 = 3 then (fX5_isEitherWay_J40) else (if p0 = 6 then (fX5_isEitherWay_J40) else (if p0 = 7 then (fX5_isEitherWay_J40) else (if p0 = 8 then (fX5_isEitherWay_J40) else (if p0 = 15 then (fX5_isEitherWay_J40) else (if p0 = 16 then (fX5_isEitherWay_J40) else (fX5_isEitherWay_J45 0))))))))
set_option maxHeartbeats 16000000 in
set_option maxRecDepth 100000 in
theorem kX5_isEitherWay {zs : Nat × Nat} (l : Launch) (dC : Nat → ClassId) (dI : Nat → Nat → Nat) (p0 : Int32) (sz : Nat) (o : Int32) (hrun : fX5_isEitherWay p0 = some o) : Met l yX5_isEitherWay (wz yX5_isEitherWay cX5_isEitherWay 1 (Option.some Jvm.ClassFile.FieldType.boolean)) ({ frames := 0, cells := 0, slots := 0, locals := 0 } : Room) (va_Pc [.int p0] (PRE zs dC dI ([] : va_W) ([] : List (ClassId × FieldType)) sz)) (va_Qi (fun (r : Int32) (_ : Unit) => r = o) (fun _ t => POST dC dI ([] : va_W) ([] : List (ClassId × FieldType)) (va_A ([] : va_W) sz) t) (va_A ([] : va_W) sz)) 0 0 (va_A ([] : va_W) sz) := by
  refine Met.ofW (cc := cX5_isEitherWay) (maxL := 1) (ret := (Option.some Jvm.ClassFile.FieldType.boolean)) (by decide) rfl ?_
  intro p e s m args below meth c s₁ B hml hv
  obtain ⟨rfl, hsz, hP, hK, hD0, hE⟩ := hv
  have hx := B.exec
  have hb := B.bytes
  have hr := B.returns
  have hts0 := atoms_spec (ws := wz yX5_isEitherWay cX5_isEitherWay 1 (Option.some Jvm.ClassFile.FieldType.boolean)) B.pre
  have hts : ∀ w ∈ gw, w.before _ s = true := fun w h => hts0 w (List.mem_cons_of_mem _ h)
  have hown : s.vm.findClass RX5 = some m.cls := findClass_of_methodNamed B.named
  have hlocks := B.notSynchronized
  subst hsz
  have hD := hD0.self (sz := s.heap.size)
  refine gQ9 ?_
  intro Q hQ
  generalize hAe : va_A ([] : va_W) s.heap.size = A at hD hE hQ
  have hA : ∀ q : Nat, s.heap.size ≤ q → A q := fun q h => by rw [← hAe]; exact Or.inr h
  have hS : va_S A s.heap s.heap [] := va_S.rf
  have hP : va_P (dC, dI) cls ([] : va_W) s.heap := hP
  have hl := lv_entry ([.int p0]) (n := 1) (Nat.le_of_ble_eq_true rfl)
  rw [lg_entry_eq]
  generalize (lg_sl ([.int p0]) ++ List.replicate (1 - (lg_sl ([.int p0])).length) Slot.unset).toArray = ls at hl ⊢
  have hl : lv_has ls 1 [(0, .int p0)] := hl
  obtain ⟨H, hHe⟩ : ∃ H, H = s.heap := ⟨_, rfl⟩
  obtain ⟨locs, hle⟩ : ∃ locs : List Loc, locs = [] := ⟨_, rfl⟩
  rw [← hHe] at hP
  have hS : va_S A s.heap H locs := by rw [hHe, hle]; exact hS
  show W p l e ({ frames := 0, cells := 0, slots := 0, locals := 0 } : Room) s m ([.int p0] : List Value).toArray below meth c s.heap [] 0 0 Q (F0 m 0 ls [])
  rw [← hle]
  refine wH9 hHe ?_
  unfold fX5_isEitherWay at hrun
  refine lv_iload_n hx hb dX5_isEitherWay_0 rfl (lv_at hl 0 rfl) ?_
  refine lv_iconst (v := 1) hx hb dX5_isEitherWay_1 (by decide) ?_
  have J45 : ∀ (y0_45 : Int32) (H : Heap) (locs : List Loc) (ls : Array Slot), (fX5_isEitherWay_J45 y0_45) = some o → va_P (dC, dI) cls ([] : va_W) H → va_D A ([] : va_W) → va_K (dC, dI) cls ([] : List (ClassId × FieldType)) s → va_S A s.heap H locs → lv_has ls 1 [] → W p l e ({ frames := 0, cells := 0, slots := 0, locals := 0 } : Room) s m ([.int p0] : List Value).toArray below meth c H locs 0 0 Q (F0 m 45 ls [.int y0_45]) := by
    intro y0_45 H locs ls hrun hP hD hK hS hl 
    unfold fX5_isEitherWay_J45 at hrun
    obtain ⟨hz9, hrun⟩ := chk9 hrun
    have ho9 : y0_45 = o := Option.some.inj hrun
    have hP9 : va_P (dC, dI) cls ([] : va_W) H := by first | exact hP | (rw [← ho9]; exact hP)
    have hD9 : va_D A ([] : va_W) := by first | exact hD | (rw [← ho9]; exact hD)
    subst hQ
    exact W.zret (v := y0_45) hx hb hr (bz9 hz9) (fun t ht hW => ⟨⟨y0_45, (), rfl, (by rw [← ho9]), ⟨by rw [ht]; exact hP9, va_K.moved hW.alike hK, hD9⟩⟩, hS.F ht⟩) hS.2.2 dX5_isEitherWay_45
  have J40 : ∀ (H : Heap) (locs : List Loc) (ls : Array Slot), (fX5_isEitherWay_J40) = some o → va_P (dC, dI) cls ([] : va_W) H → va_D A ([] : va_W) → va_K (dC, dI) cls ([] : List (ClassId × FieldType)) s → va_S A s.heap H locs → lv_has ls 1 [] → W p l e ({ frames := 0, cells := 0, slots := 0, locals := 0 } : Room) s m ([.int p0] : List Value).toArray below meth c H locs 0 0 Q (F0 m 40 ls []) := by
    intro  H locs ls hrun hP hD hK hS hl 
    unfold fX5_isEitherWay_J40 at hrun
    refine lv_iconst (v := 1) hx hb dX5_isEitherWay_40 (by decide) ?_
    refine lv_goto (tgt := 45) hx hb dX5_isEitherWay_41 (by decide) ?_
    exact J45 1 _ _ _ hrun hP hD hK hS (lv_sub hl [] rfl)
  rcases br9 hrun with ⟨hc1, hrun⟩ | ⟨hc1, hrun⟩
  · refine lv_icmp_eq (tgt := 40) hx hb dX5_isEitherWay_2 (by decide) (fun _ => ?_) (fun c => absurd hc1 c)
    exact J40 _ _ _ hrun hP hD hK hS (lv_sub hl [] rfl)
  · refine lv_icmp_eq (tgt := 40) hx hb dX5_isEitherWay_2 (by decide) (fun c => absurd c hc1) (fun _ => ?_)
    refine lv_iload_n hx hb dX5_isEitherWay_5 rfl (lv_at hl 0 rfl) ?_
    refine lv_iconst (v := 3) hx hb dX5_isEitherWay_6 (by decide) ?_
    rcases br9 hrun with ⟨hc2, hrun⟩ | ⟨hc2, hrun⟩
    · refine lv_icmp_eq (tgt := 40) hx hb dX5_isEitherWay_7 (by decide) (fun _ => ?_) (fun c => absurd hc2 c)
      exact J40 _ _ _ hrun hP hD hK hS (lv_sub hl [] rfl)
    · refine lv_icmp_eq (tgt := 40) hx hb dX5_isEitherWay_7 (by decide) (fun c => absurd c hc2) (fun _ => ?_)
      refine lv_iload_n hx hb dX5_isEitherWay_10 rfl (lv_at hl 0 rfl) ?_
      refine lv_bipush (v := 6) hx hb dX5_isEitherWay_11 (by decide) ?_
      rcases br9 hrun with ⟨hc3, hrun⟩ | ⟨hc3, hrun⟩
      · refine lv_icmp_eq (tgt := 40) hx hb dX5_isEitherWay_13 (by decide) (fun _ => ?_) (fun c => absurd hc3 c)
        exact J40 _ _ _ hrun hP hD hK hS (lv_sub hl [] rfl)
      · refine lv_icmp_eq (tgt := 40) hx hb dX5_isEitherWay_13 (by decide) (fun c => absurd c hc3) (fun _ => ?_)
        refine lv_iload_n hx hb dX5_isEitherWay_16 rfl (lv_at hl 0 rfl) ?_
        refine lv_bipush (v := 7) hx hb dX5_isEitherWay_17 (by decide) ?_
        rcases br9 hrun with ⟨hc4, hrun⟩ | ⟨hc4, hrun⟩
        · refine lv_icmp_eq (tgt := 40) hx hb dX5_isEitherWay_19 (by decide) (fun _ => ?_) (fun c => absurd hc4 c)
          exact J40 _ _ _ hrun hP hD hK hS (lv_sub hl [] rfl)
        · refine lv_icmp_eq (tgt := 40) hx hb dX5_isEitherWay_19 (by decide) (fun c => absurd c hc4) (fun _ => ?_)
          refine lv_iload_n hx hb dX5_isEitherWay_22 rfl (lv_at hl 0 rfl) ?_
          refine lv_bipush (v := 8) hx hb dX5_isEitherWay_23 (by decide) ?_
          rcases br9 hrun with ⟨hc5, hrun⟩ | ⟨hc5, hrun⟩
          · refine lv_icmp_eq (tgt := 40) hx hb dX5_isEitherWay_25 (by decide) (fun _ => ?_) (fun c => absurd hc5 c)
            exact J40 _ _ _ hrun hP hD hK hS (lv_sub hl [] rfl)
          · refine lv_icmp_eq (tgt := 40) hx hb dX5_isEitherWay_25 (by decide) (fun c => absurd c hc5) (fun _ => ?_)
            refine lv_iload_n hx hb dX5_isEitherWay_28 rfl (lv_at hl 0 rfl) ?_
            refine lv_bipush (v := 15) hx hb dX5_isEitherWay_29 (by decide) ?_
            rcases br9 hrun with ⟨hc6, hrun⟩ | ⟨hc6, hrun⟩
            · refine lv_icmp_eq (tgt := 40) hx hb dX5_isEitherWay_31 (by decide) (fun _ => ?_) (fun c => absurd hc6 c)
              exact J40 _ _ _ hrun hP hD hK hS (lv_sub hl [] rfl)
            · refine lv_icmp_eq (tgt := 40) hx hb dX5_isEitherWay_31 (by decide) (fun c => absurd c hc6) (fun _ => ?_)
              refine lv_iload_n hx hb dX5_isEitherWay_34 rfl (lv_at hl 0 rfl) ?_
              refine lv_bipush (v := 16) hx hb dX5_isEitherWay_35 (by decide) ?_
              rcases br9 hrun with ⟨hc7, hrun⟩ | ⟨hc7, hrun⟩
              · refine lv_icmp_ne (tgt := 44) hx hb dX5_isEitherWay_37 (by decide) (fun c => absurd hc7 c) (fun _ => ?_)
                exact J40 _ _ _ hrun hP hD hK hS (lv_sub hl [] rfl)
              · refine lv_icmp_ne (tgt := 44) hx hb dX5_isEitherWay_37 (by decide) (fun _ => ?_) (fun c => absurd c hc7)
                refine lv_iconst (v := 0) hx hb dX5_isEitherWay_44 (by decide) ?_
                exact J45 0 _ _ _ hrun hP hD hK hS (lv_sub hl [] rfl)
def fX5_isLeftAlone_J99 (y0_99 : Int32) : Option Int32 := (if y0_99 = 0 ∨ y0_99 = 1 then some y0_99 else none)
def fX5_isLeftAlone_J87 (y0_87 : Int32) : Option Int32 := (if y0_87 = 0 ∨ y0_87 = 1 then some y0_87 else none)
def fX5_isLeftAlone_J82  : Option Int32 := (fX5_isLeftAlone_J87 1)
def fX5_isLeftAlone (p0w : ST) (p2 : Int32) (p3 : Int32) (p4 : Int32) (p1_2n : Nat → Nat) (p1_2w : ST) : Option Int32 := (if p2 = 1 then ((fX5_isNumber_ p0w p4 0 p1_2n p1_2w).bind fun (o_2 : Int32) => (if o_2 = 0 ∨ o_2 = 1 then some o_2 else none)) else (if p2 = 2 then ((fX5_isNumber_ p0w p4 0 p1_2n p1_2w).bind fun (o_5 : Int32) => (if o_5 = 0 ∨ o_5 = 1 then some o_5 else none)) else (if p2 = 3 then ((fX5_isNumber_ p0w p4 1 p1_2n p1_2w).bind fun (o_8 : Int32) => (if o_8 = 0 ∨ o_8 = 1 then some o_8 else none)) else (if p2 = 4 then ((fX5_isNumber_ p0w p4 1 p1_2n p1_2w).bind fun (o_11 : Int32) => (if o_11 = 0 ∨ o_11 = 1 then some o_11 else none)) else (if p2 = 5 then some 0 else (if p2 = 6 then (if p3 = p4 then (fX5_isLeftAlone_J99 1) else (fX5_isLeftAlone_J99 0)) else (if p2 = 7 then ((fX5_isNumber_ p0w p4 0 p1_2n p1_2w).bind fun (o_17 : Int32) => (if o_17 = 0 then (if p3 = p4 then (fX5_isLeftAlone_J82) else (fX5_isLeftAlone_J87 0)) else (fX5_isLeftAlone_J82))) else (if p2 = 8 then ((fX5_isNumber_ p0w p4 0 p1_2n p1_2w).bind fun (o_22 : Int32) => (if o_22 = 0 ∨ o_22 = 1 then some o_22 else none)) else (if p2 = 9 then ((fX5_isNumber_ p0w p4 0 p1_2n p1_2w).bind fun (o_25 : Int32) => (if o_25 = 0 ∨ o_25 = 1 then some o_25 else none)) else (if p2 = 10 then ((fX5_isNumber_ p0w p4 0 p1_2n p1_2w).bind fun (o_28 : Int32) => (if o_28 = 0 ∨ o_28 = 1 then some o_28 else none)) else some 0))))))))))
set_option maxHeartbeats 16000000 in
set_option maxRecDepth 100000 in
theorem kX5_isLeftAlone {zs : Nat × Nat} (l : Launch) (dC : Nat → ClassId) (dI : Nat → Nat → Nat) (p0a : Nat → Nat) (p0k : Nat → ClassId) (p0w : ST) (p0l : SL) (p1a : Nat → Nat) (p1k : Nat → ClassId) (p1n : Nat → Nat) (p1w : ST) (p1l : SL) (p2 : Int32) (p3 : Int32) (p4 : Int32) (p1_2a : Nat → Nat) (p1_2k : Nat → ClassId) (p1_2n : Nat → Nat) (p1_2w : ST) (sz : Nat) (o : Int32) (hrun : fX5_isLeftAlone p0w p2 p3 p4 p1_2n p1_2w = some o) : Met l yX5_isLeftAlone (wz yX5_isLeftAlone cX5_isLeftAlone 5 (Option.some Jvm.ClassFile.FieldType.boolean)) ({ frames := 2, cells := 0, slots := 0, locals := 45 } : Room) (va_Pc [.ref (p0a 0), .ref (p1a 0), .int p2, .int p3, .int p4] (PRE zs dC dI ((oX5 (p0a 0) p0a p0k p0w p0l) ++ (oX1 (p1a 0) p1a p1k p1n p1w p1l) ++ (oX9 (p1a 3) p1_2a p1_2k p1_2n p1_2w)) ((tX5 p0k) ++ (tX1 p1k) ++ (tX9 p1_2k)) sz)) (va_Qi (fun (r : Int32) (_ : Unit) => r = o) (fun _ t => POST dC dI ((oX5 (p0a 0) p0a p0k p0w p0l) ++ (oX1 (p1a 0) p1a p1k p1n p1w p1l) ++ (oX9 (p1a 3) p1_2a p1_2k p1_2n p1_2w)) ((tX5 p0k) ++ (tX1 p1k) ++ (tX9 p1_2k)) (va_A ((oX5 (p0a 0) p0a p0k p0w p0l) ++ (oX1 (p1a 0) p1a p1k p1n p1w p1l) ++ (oX9 (p1a 3) p1_2a p1_2k p1_2n p1_2w)) sz) t) (va_A ((oX5 (p0a 0) p0a p0k p0w p0l) ++ (oX1 (p1a 0) p1a p1k p1n p1w p1l) ++ (oX9 (p1a 3) p1_2a p1_2k p1_2n p1_2w)) sz)) 0 0 (va_A ((oX5 (p0a 0) p0a p0k p0w p0l) ++ (oX1 (p1a 0) p1a p1k p1n p1w p1l) ++ (oX9 (p1a 3) p1_2a p1_2k p1_2n p1_2w)) sz) := by
  refine Met.ofW (cc := cX5_isLeftAlone) (maxL := 5) (ret := (Option.some Jvm.ClassFile.FieldType.boolean)) (by decide) rfl ?_
  intro p e s m args below meth c s₁ B hml hv
  obtain ⟨rfl, hsz, hP, hK, hD0, hE⟩ := hv
  have hx := B.exec
  have hb := B.bytes
  have hr := B.returns
  have hts0 := atoms_spec (ws := wz yX5_isLeftAlone cX5_isLeftAlone 5 (Option.some Jvm.ClassFile.FieldType.boolean)) B.pre
  have hts : ∀ w ∈ gw, w.before _ s = true := fun w h => hts0 w (List.mem_cons_of_mem _ h)
  have hown : s.vm.findClass RX5 = some m.cls := findClass_of_methodNamed B.named
  have hlocks := B.notSynchronized
  subst hsz
  have hD := hD0.self (sz := s.heap.size)
  refine gQ9 ?_
  intro Q hQ
  generalize hAe : va_A ((oX5 (p0a 0) p0a p0k p0w p0l) ++ (oX1 (p1a 0) p1a p1k p1n p1w p1l) ++ (oX9 (p1a 3) p1_2a p1_2k p1_2n p1_2w)) s.heap.size = A at hD hE hQ
  have hA : ∀ q : Nat, s.heap.size ≤ q → A q := fun q h => by rw [← hAe]; exact Or.inr h
  have hS : va_S A s.heap s.heap [] := va_S.rf
  have hP : va_P (dC, dI) cls ((oX5 (p0a 0) p0a p0k p0w p0l) ++ (oX1 (p1a 0) p1a p1k p1n p1w p1l) ++ (oX9 (p1a 3) p1_2a p1_2k p1_2n p1_2w)) s.heap := hP
  have hl := lv_entry ([.ref (p0a 0), .ref (p1a 0), .int p2, .int p3, .int p4]) (n := 5) (Nat.le_of_ble_eq_true rfl)
  rw [lg_entry_eq]
  generalize (lg_sl ([.ref (p0a 0), .ref (p1a 0), .int p2, .int p3, .int p4]) ++ List.replicate (5 - (lg_sl ([.ref (p0a 0), .ref (p1a 0), .int p2, .int p3, .int p4])).length) Slot.unset).toArray = ls at hl ⊢
  have hl : lv_has ls 5 [(0, .ref (p0a 0)), (1, .ref (p1a 0)), (2, .int p2), (3, .int p3), (4, .int p4)] := hl
  obtain ⟨H, hHe⟩ : ∃ H, H = s.heap := ⟨_, rfl⟩
  obtain ⟨locs, hle⟩ : ∃ locs : List Loc, locs = [] := ⟨_, rfl⟩
  rw [← hHe] at hP
  have hS : va_S A s.heap H locs := by rw [hHe, hle]; exact hS
  show W p l e ({ frames := 2, cells := 0, slots := 0, locals := 45 } : Room) s m ([.ref (p0a 0), .ref (p1a 0), .int p2, .int p3, .int p4] : List Value).toArray below meth c s.heap [] 0 0 Q (F0 m 0 ls [])
  rw [← hle]
  refine wH9 hHe ?_
  unfold fX5_isLeftAlone at hrun
  refine lv_iload_n hx hb dX5_isLeftAlone_0 rfl (lv_at hl 2 rfl) ?_
  rcases br9 hrun with ⟨hc1, hrun⟩ | ⟨hc1, hrun⟩
  · refine lv_tableIn (off := 55) (tgt := 56) hx hb dX5_isLeftAlone_1 (by rw [hc1]; decide) (by rw [hc1]; decide) (by rw [hc1]; rfl) (by decide) ?_
    refine lv_aload_n hx hb dX5_isLeftAlone_56 rfl (lv_at hl 0 rfl) ?_
    refine lv_aload_n hx hb dX5_isLeftAlone_57 rfl (lv_at hl 1 rfl) ?_
    refine lv_iload hx hb dX5_isLeftAlone_58 (lv_at hl 4 rfl) ?_
    refine lv_iconst (v := 0) hx hb dX5_isLeftAlone_60 (by decide) ?_
    obtain ⟨o_2, hc_2, hrun⟩ := bnd9 hrun
    have hPc := hP.sub (ws' := ((oX5 (p0a 0) p0a p0k p0w p0l) ++ (oX1 (p1a 0) p1a p1k p1n p1w p1l) ++ (oX9 (p1a 3) p1_2a p1_2k p1_2n p1_2w))) [0, 1, 2, 3, 4, 5, 6, 7, 8, 9, 10, 11, 12, 13, 14, 15, 16, 17, 18, 19, 20, 21, 22, 23, 24, 25, 26, 27, 28, 29, 30, 31, 32, 33] rfl
    have hDc := hD.sub (ws' := ((oX5 (p0a 0) p0a p0k p0w p0l) ++ (oX1 (p1a 0) p1a p1k p1n p1w p1l) ++ (oX9 (p1a 3) p1_2a p1_2k p1_2n p1_2w))) [0, 1, 2, 3, 4, 5, 6, 7, 8, 9, 10, 11, 12, 13, 14, 15, 16, 17, 18, 19, 20, 21, 22, 23, 24, 25, 26, 27, 28, 29, 30, 31, 32, 33] (by decide) rfl
    have hKc := hK.sub (tys' := ((tX5 p0k) ++ (tX1 p1k) ++ (tX9 p1_2k))) [0, 1, 2, 3, 4, 5, 6, 7, 8, 9, 10, 11, 12, 13, 14, 15, 16, 17, 18, 19, 20, 21, 22, 23, 24, 25, 26, 27, 28, 29, 30] rfl
    have hFc := va_free (wc := ((oX5 (p0a 0) p0a p0k p0w p0l) ++ (oX1 (p1a 0) p1a p1k p1n p1w p1l) ++ (oX9 (p1a 3) p1_2a p1_2k p1_2n p1_2w))) hD hS hA [0, 1, 2, 3, 4, 5, 6, 7, 8, 9, 10, 11, 12, 13, 14, 15, 16, 17, 18, 19, 20, 21, 22, 23, 24, 25, 26, 27, 28, 29, 30, 31, 32, 33] rfl
    refine va_calli (va_runV (As := [.ref (p1a 0), .int p4, .int 0]) (rest := []) ⟨hx, hb, hml, hown, hts⟩ (kX5_isNumber_ l dC dI (p0a := (st0 (p0a 0) p0a)) (p0k := p0k) (p0w := p0w) (p0l := p0l) (p1a := (st0 (p1a 0) p1a)) (p1k := p1k) (p1n := p1n) (p1w := p1w) (p1l := p1l) (p2 := p4) (p3 := 0) (p1_2a := p1_2a) (p1_2k := p1_2k) (p1_2n := p1_2n) (p1_2w := p1_2w) (sz := _) (o := o_2) (hrun := hc_2)) (cwV 3 hts (gi_V qw536 qw537 qw538 qw442 (gi_z qw535)) rfl rfl rfl (by decide +kernel) ⟨Nat.le_of_ble_eq_true rfl, Nat.le_of_ble_eq_true rfl⟩) ⟨PRE.blind, va_recv hKc hPc (ci := 7) (q0 := 0) rfl rfl, PRE.of hE hS hFc hPc hKc hDc⟩ rfl rfl hl.1 rfl (lv_room (Nat.le_of_ble_eq_true rfl)) dX5_isLeftAlone_61 ⟨(Nat.le_of_ble_eq_true rfl), (Nat.le_of_ble_eq_true rfl)⟩) hS (fun q _ h => hFc q h) hFc (fun r3 u t H locs ht hvm hw hB hz1 hk1 hS => ?_)
    obtain ⟨hP, hD, hK⟩ := JOIN (wr := ([] : va_W)) hP hD hK [0, 1, 2, 3, 4, 5, 6, 7, 8, 9, 10, 11, 12, 13, 14, 15, 16, 17, 18, 19, 20, 21, 22, 23, 24, 25, 26, 27, 28, 29, 30, 31, 32, 33] [] [] rfl rfl (by decide) (by decide) rfl hk1 hFc ht hvm hB
    have hP : va_P (dC, dI) cls ((oX5 (p0a 0) p0a p0k p0w p0l) ++ (oX1 (p1a 0) p1a p1k p1n p1w p1l) ++ (oX9 (p1a 3) p1_2a p1_2k p1_2n p1_2w)) H := hP.sub [0, 1, 2, 3, 4, 5, 6, 7, 8, 9, 10, 11, 12, 13, 14, 15, 16, 17, 18, 19, 20, 21, 22, 23, 24, 25, 26, 27, 28, 29, 30, 31, 32, 33] rfl
    have hD : va_D A ((oX5 (p0a 0) p0a p0k p0w p0l) ++ (oX1 (p1a 0) p1a p1k p1n p1w p1l) ++ (oX9 (p1a 3) p1_2a p1_2k p1_2n p1_2w)) := hD.sub [0, 1, 2, 3, 4, 5, 6, 7, 8, 9, 10, 11, 12, 13, 14, 15, 16, 17, 18, 19, 20, 21, 22, 23, 24, 25, 26, 27, 28, 29, 30, 31, 32, 33] (by decide) rfl
    have hK : va_K (dC, dI) cls ((tX5 p0k) ++ (tX1 p1k) ++ (tX9 p1_2k)) s := hK.sub [0, 1, 2, 3, 4, 5, 6, 7, 8, 9, 10, 11, 12, 13, 14, 15, 16, 17, 18, 19, 20, 21, 22, 23, 24, 25, 26, 27, 28, 29, 30] rfl
    obtain rfl : o_2 = r3 := hw.symm
    obtain ⟨hz9, hrun⟩ := chk9 hrun
    have ho9 : o_2 = o := Option.some.inj hrun
    have hP9 : va_P (dC, dI) cls ((oX5 (p0a 0) p0a p0k p0w p0l) ++ (oX1 (p1a 0) p1a p1k p1n p1w p1l) ++ (oX9 (p1a 3) p1_2a p1_2k p1_2n p1_2w)) H := by first | exact hP | (rw [← ho9]; exact hP)
    have hD9 : va_D A ((oX5 (p0a 0) p0a p0k p0w p0l) ++ (oX1 (p1a 0) p1a p1k p1n p1w p1l) ++ (oX9 (p1a 3) p1_2a p1_2k p1_2n p1_2w)) := by first | exact hD | (rw [← ho9]; exact hD)
    subst hQ
    exact W.zret (v := o_2) hx hb hr (bz9 hz9) (fun t ht hW => ⟨⟨o_2, (), rfl, (by rw [← ho9]), ⟨by rw [ht]; exact hP9, va_K.moved hW.alike hK, hD9⟩⟩, hS.F ht⟩) hS.2.2 dX5_isLeftAlone_64
  rcases br9 hrun with ⟨hc4, hrun⟩ | ⟨hc4, hrun⟩
  · refine lv_tableIn (off := 55) (tgt := 56) hx hb dX5_isLeftAlone_1 (by rw [hc4]; decide) (by rw [hc4]; decide) (by rw [hc4]; rfl) (by decide) ?_
    refine lv_aload_n hx hb dX5_isLeftAlone_56 rfl (lv_at hl 0 rfl) ?_
    refine lv_aload_n hx hb dX5_isLeftAlone_57 rfl (lv_at hl 1 rfl) ?_
    refine lv_iload hx hb dX5_isLeftAlone_58 (lv_at hl 4 rfl) ?_
    refine lv_iconst (v := 0) hx hb dX5_isLeftAlone_60 (by decide) ?_
    obtain ⟨o_5, hc_5, hrun⟩ := bnd9 hrun
    have hPc := hP.sub (ws' := ((oX5 (p0a 0) p0a p0k p0w p0l) ++ (oX1 (p1a 0) p1a p1k p1n p1w p1l) ++ (oX9 (p1a 3) p1_2a p1_2k p1_2n p1_2w))) [0, 1, 2, 3, 4, 5, 6, 7, 8, 9, 10, 11, 12, 13, 14, 15, 16, 17, 18, 19, 20, 21, 22, 23, 24, 25, 26, 27, 28, 29, 30, 31, 32, 33] rfl
    have hDc := hD.sub (ws' := ((oX5 (p0a 0) p0a p0k p0w p0l) ++ (oX1 (p1a 0) p1a p1k p1n p1w p1l) ++ (oX9 (p1a 3) p1_2a p1_2k p1_2n p1_2w))) [0, 1, 2, 3, 4, 5, 6, 7, 8, 9, 10, 11, 12, 13, 14, 15, 16, 17, 18, 19, 20, 21, 22, 23, 24, 25, 26, 27, 28, 29, 30, 31, 32, 33] (by decide) rfl
    have hKc := hK.sub (tys' := ((tX5 p0k) ++ (tX1 p1k) ++ (tX9 p1_2k))) [0, 1, 2, 3, 4, 5, 6, 7, 8, 9, 10, 11, 12, 13, 14, 15, 16, 17, 18, 19, 20, 21, 22, 23, 24, 25, 26, 27, 28, 29, 30] rfl
    have hFc := va_free (wc := ((oX5 (p0a 0) p0a p0k p0w p0l) ++ (oX1 (p1a 0) p1a p1k p1n p1w p1l) ++ (oX9 (p1a 3) p1_2a p1_2k p1_2n p1_2w))) hD hS hA [0, 1, 2, 3, 4, 5, 6, 7, 8, 9, 10, 11, 12, 13, 14, 15, 16, 17, 18, 19, 20, 21, 22, 23, 24, 25, 26, 27, 28, 29, 30, 31, 32, 33] rfl
    refine va_calli (va_runV (As := [.ref (p1a 0), .int p4, .int 0]) (rest := []) ⟨hx, hb, hml, hown, hts⟩ (kX5_isNumber_ l dC dI (p0a := (st0 (p0a 0) p0a)) (p0k := p0k) (p0w := p0w) (p0l := p0l) (p1a := (st0 (p1a 0) p1a)) (p1k := p1k) (p1n := p1n) (p1w := p1w) (p1l := p1l) (p2 := p4) (p3 := 0) (p1_2a := p1_2a) (p1_2k := p1_2k) (p1_2n := p1_2n) (p1_2w := p1_2w) (sz := _) (o := o_5) (hrun := hc_5)) (cwV 3 hts (gi_V qw536 qw537 qw538 qw442 (gi_z qw535)) rfl rfl rfl (by decide +kernel) ⟨Nat.le_of_ble_eq_true rfl, Nat.le_of_ble_eq_true rfl⟩) ⟨PRE.blind, va_recv hKc hPc (ci := 7) (q0 := 0) rfl rfl, PRE.of hE hS hFc hPc hKc hDc⟩ rfl rfl hl.1 rfl (lv_room (Nat.le_of_ble_eq_true rfl)) dX5_isLeftAlone_61 ⟨(Nat.le_of_ble_eq_true rfl), (Nat.le_of_ble_eq_true rfl)⟩) hS (fun q _ h => hFc q h) hFc (fun r6 u t H locs ht hvm hw hB hz1 hk1 hS => ?_)
    obtain ⟨hP, hD, hK⟩ := JOIN (wr := ([] : va_W)) hP hD hK [0, 1, 2, 3, 4, 5, 6, 7, 8, 9, 10, 11, 12, 13, 14, 15, 16, 17, 18, 19, 20, 21, 22, 23, 24, 25, 26, 27, 28, 29, 30, 31, 32, 33] [] [] rfl rfl (by decide) (by decide) rfl hk1 hFc ht hvm hB
    have hP : va_P (dC, dI) cls ((oX5 (p0a 0) p0a p0k p0w p0l) ++ (oX1 (p1a 0) p1a p1k p1n p1w p1l) ++ (oX9 (p1a 3) p1_2a p1_2k p1_2n p1_2w)) H := hP.sub [0, 1, 2, 3, 4, 5, 6, 7, 8, 9, 10, 11, 12, 13, 14, 15, 16, 17, 18, 19, 20, 21, 22, 23, 24, 25, 26, 27, 28, 29, 30, 31, 32, 33] rfl
    have hD : va_D A ((oX5 (p0a 0) p0a p0k p0w p0l) ++ (oX1 (p1a 0) p1a p1k p1n p1w p1l) ++ (oX9 (p1a 3) p1_2a p1_2k p1_2n p1_2w)) := hD.sub [0, 1, 2, 3, 4, 5, 6, 7, 8, 9, 10, 11, 12, 13, 14, 15, 16, 17, 18, 19, 20, 21, 22, 23, 24, 25, 26, 27, 28, 29, 30, 31, 32, 33] (by decide) rfl
    have hK : va_K (dC, dI) cls ((tX5 p0k) ++ (tX1 p1k) ++ (tX9 p1_2k)) s := hK.sub [0, 1, 2, 3, 4, 5, 6, 7, 8, 9, 10, 11, 12, 13, 14, 15, 16, 17, 18, 19, 20, 21, 22, 23, 24, 25, 26, 27, 28, 29, 30] rfl
    obtain rfl : o_5 = r6 := hw.symm
    obtain ⟨hz9, hrun⟩ := chk9 hrun
    have ho9 : o_5 = o := Option.some.inj hrun
    have hP9 : va_P (dC, dI) cls ((oX5 (p0a 0) p0a p0k p0w p0l) ++ (oX1 (p1a 0) p1a p1k p1n p1w p1l) ++ (oX9 (p1a 3) p1_2a p1_2k p1_2n p1_2w)) H := by first | exact hP | (rw [← ho9]; exact hP)
    have hD9 : va_D A ((oX5 (p0a 0) p0a p0k p0w p0l) ++ (oX1 (p1a 0) p1a p1k p1n p1w p1l) ++ (oX9 (p1a 3) p1_2a p1_2k p1_2n p1_2w)) := by first | exact hD | (rw [← ho9]; exact hD)
    subst hQ
    exact W.zret (v := o_5) hx hb hr (bz9 hz9) (fun t ht hW => ⟨⟨o_5, (), rfl, (by rw [← ho9]), ⟨by rw [ht]; exact hP9, va_K.moved hW.alike hK, hD9⟩⟩, hS.F ht⟩) hS.2.2 dX5_isLeftAlone_64
  rcases br9 hrun with ⟨hc7, hrun⟩ | ⟨hc7, hrun⟩
  · refine lv_tableIn (off := 99) (tgt := 100) hx hb dX5_isLeftAlone_1 (by rw [hc7]; decide) (by rw [hc7]; decide) (by rw [hc7]; rfl) (by decide) ?_
    refine lv_aload_n hx hb dX5_isLeftAlone_100 rfl (lv_at hl 0 rfl) ?_
    refine lv_aload_n hx hb dX5_isLeftAlone_101 rfl (lv_at hl 1 rfl) ?_
    refine lv_iload hx hb dX5_isLeftAlone_102 (lv_at hl 4 rfl) ?_
    refine lv_iconst (v := 1) hx hb dX5_isLeftAlone_104 (by decide) ?_
    obtain ⟨o_8, hc_8, hrun⟩ := bnd9 hrun
    have hPc := hP.sub (ws' := ((oX5 (p0a 0) p0a p0k p0w p0l) ++ (oX1 (p1a 0) p1a p1k p1n p1w p1l) ++ (oX9 (p1a 3) p1_2a p1_2k p1_2n p1_2w))) [0, 1, 2, 3, 4, 5, 6, 7, 8, 9, 10, 11, 12, 13, 14, 15, 16, 17, 18, 19, 20, 21, 22, 23, 24, 25, 26, 27, 28, 29, 30, 31, 32, 33] rfl
    have hDc := hD.sub (ws' := ((oX5 (p0a 0) p0a p0k p0w p0l) ++ (oX1 (p1a 0) p1a p1k p1n p1w p1l) ++ (oX9 (p1a 3) p1_2a p1_2k p1_2n p1_2w))) [0, 1, 2, 3, 4, 5, 6, 7, 8, 9, 10, 11, 12, 13, 14, 15, 16, 17, 18, 19, 20, 21, 22, 23, 24, 25, 26, 27, 28, 29, 30, 31, 32, 33] (by decide) rfl
    have hKc := hK.sub (tys' := ((tX5 p0k) ++ (tX1 p1k) ++ (tX9 p1_2k))) [0, 1, 2, 3, 4, 5, 6, 7, 8, 9, 10, 11, 12, 13, 14, 15, 16, 17, 18, 19, 20, 21, 22, 23, 24, 25, 26, 27, 28, 29, 30] rfl
    have hFc := va_free (wc := ((oX5 (p0a 0) p0a p0k p0w p0l) ++ (oX1 (p1a 0) p1a p1k p1n p1w p1l) ++ (oX9 (p1a 3) p1_2a p1_2k p1_2n p1_2w))) hD hS hA [0, 1, 2, 3, 4, 5, 6, 7, 8, 9, 10, 11, 12, 13, 14, 15, 16, 17, 18, 19, 20, 21, 22, 23, 24, 25, 26, 27, 28, 29, 30, 31, 32, 33] rfl
    refine va_calli (va_runV (As := [.ref (p1a 0), .int p4, .int 1]) (rest := []) ⟨hx, hb, hml, hown, hts⟩ (kX5_isNumber_ l dC dI (p0a := (st0 (p0a 0) p0a)) (p0k := p0k) (p0w := p0w) (p0l := p0l) (p1a := (st0 (p1a 0) p1a)) (p1k := p1k) (p1n := p1n) (p1w := p1w) (p1l := p1l) (p2 := p4) (p3 := 1) (p1_2a := p1_2a) (p1_2k := p1_2k) (p1_2n := p1_2n) (p1_2w := p1_2w) (sz := _) (o := o_8) (hrun := hc_8)) (cwV 3 hts (gi_V qw536 qw537 qw538 qw442 (gi_z qw535)) rfl rfl rfl (by decide +kernel) ⟨Nat.le_of_ble_eq_true rfl, Nat.le_of_ble_eq_true rfl⟩) ⟨PRE.blind, va_recv hKc hPc (ci := 7) (q0 := 0) rfl rfl, PRE.of hE hS hFc hPc hKc hDc⟩ rfl rfl hl.1 rfl (lv_room (Nat.le_of_ble_eq_true rfl)) dX5_isLeftAlone_105 ⟨(Nat.le_of_ble_eq_true rfl), (Nat.le_of_ble_eq_true rfl)⟩) hS (fun q _ h => hFc q h) hFc (fun r9 u t H locs ht hvm hw hB hz1 hk1 hS => ?_)
    obtain ⟨hP, hD, hK⟩ := JOIN (wr := ([] : va_W)) hP hD hK [0, 1, 2, 3, 4, 5, 6, 7, 8, 9, 10, 11, 12, 13, 14, 15, 16, 17, 18, 19, 20, 21, 22, 23, 24, 25, 26, 27, 28, 29, 30, 31, 32, 33] [] [] rfl rfl (by decide) (by decide) rfl hk1 hFc ht hvm hB
    have hP : va_P (dC, dI) cls ((oX5 (p0a 0) p0a p0k p0w p0l) ++ (oX1 (p1a 0) p1a p1k p1n p1w p1l) ++ (oX9 (p1a 3) p1_2a p1_2k p1_2n p1_2w)) H := hP.sub [0, 1, 2, 3, 4, 5, 6, 7, 8, 9, 10, 11, 12, 13, 14, 15, 16, 17, 18, 19, 20, 21, 22, 23, 24, 25, 26, 27, 28, 29, 30, 31, 32, 33] rfl
    have hD : va_D A ((oX5 (p0a 0) p0a p0k p0w p0l) ++ (oX1 (p1a 0) p1a p1k p1n p1w p1l) ++ (oX9 (p1a 3) p1_2a p1_2k p1_2n p1_2w)) := hD.sub [0, 1, 2, 3, 4, 5, 6, 7, 8, 9, 10, 11, 12, 13, 14, 15, 16, 17, 18, 19, 20, 21, 22, 23, 24, 25, 26, 27, 28, 29, 30, 31, 32, 33] (by decide) rfl
    have hK : va_K (dC, dI) cls ((tX5 p0k) ++ (tX1 p1k) ++ (tX9 p1_2k)) s := hK.sub [0, 1, 2, 3, 4, 5, 6, 7, 8, 9, 10, 11, 12, 13, 14, 15, 16, 17, 18, 19, 20, 21, 22, 23, 24, 25, 26, 27, 28, 29, 30] rfl
    obtain rfl : o_8 = r9 := hw.symm
    obtain ⟨hz9, hrun⟩ := chk9 hrun
    have ho9 : o_8 = o := Option.some.inj hrun
    have hP9 : va_P (dC, dI) cls ((oX5 (p0a 0) p0a p0k p0w p0l) ++ (oX1 (p1a 0) p1a p1k p1n p1w p1l) ++ (oX9 (p1a 3) p1_2a p1_2k p1_2n p1_2w)) H := by first | exact hP | (rw [← ho9]; exact hP)
    have hD9 : va_D A ((oX5 (p0a 0) p0a p0k p0w p0l) ++ (oX1 (p1a 0) p1a p1k p1n p1w p1l) ++ (oX9 (p1a 3) p1_2a p1_2k p1_2n p1_2w)) := by first | exact hD | (rw [← ho9]; exact hD)
    subst hQ
    exact W.zret (v := o_8) hx hb hr (bz9 hz9) (fun t ht hW => ⟨⟨o_8, (), rfl, (by rw [← ho9]), ⟨by rw [ht]; exact hP9, va_K.moved hW.alike hK, hD9⟩⟩, hS.F ht⟩) hS.2.2 dX5_isLeftAlone_108
  rcases br9 hrun with ⟨hc10, hrun⟩ | ⟨hc10, hrun⟩
  · refine lv_tableIn (off := 99) (tgt := 100) hx hb dX5_isLeftAlone_1 (by rw [hc10]; decide) (by rw [hc10]; decide) (by rw [hc10]; rfl) (by decide) ?_
    refine lv_aload_n hx hb dX5_isLeftAlone_100 rfl (lv_at hl 0 rfl) ?_
    refine lv_aload_n hx hb dX5_isLeftAlone_101 rfl (lv_at hl 1 rfl) ?_
    refine lv_iload hx hb dX5_isLeftAlone_102 (lv_at hl 4 rfl) ?_
    refine lv_iconst (v := 1) hx hb dX5_isLeftAlone_104 (by decide) ?_
    obtain ⟨o_11, hc_11, hrun⟩ := bnd9 hrun
    have hPc := hP.sub (ws' := ((oX5 (p0a 0) p0a p0k p0w p0l) ++ (oX1 (p1a 0) p1a p1k p1n p1w p1l) ++ (oX9 (p1a 3) p1_2a p1_2k p1_2n p1_2w))) [0, 1, 2, 3, 4, 5, 6, 7, 8, 9, 10, 11, 12, 13, 14, 15, 16, 17, 18, 19, 20, 21, 22, 23, 24, 25, 26, 27, 28, 29, 30, 31, 32, 33] rfl
    have hDc := hD.sub (ws' := ((oX5 (p0a 0) p0a p0k p0w p0l) ++ (oX1 (p1a 0) p1a p1k p1n p1w p1l) ++ (oX9 (p1a 3) p1_2a p1_2k p1_2n p1_2w))) [0, 1, 2, 3, 4, 5, 6, 7, 8, 9, 10, 11, 12, 13, 14, 15, 16, 17, 18, 19, 20, 21, 22, 23, 24, 25, 26, 27, 28, 29, 30, 31, 32, 33] (by decide) rfl
    have hKc := hK.sub (tys' := ((tX5 p0k) ++ (tX1 p1k) ++ (tX9 p1_2k))) [0, 1, 2, 3, 4, 5, 6, 7, 8, 9, 10, 11, 12, 13, 14, 15, 16, 17, 18, 19, 20, 21, 22, 23, 24, 25, 26, 27, 28, 29, 30] rfl
    have hFc := va_free (wc := ((oX5 (p0a 0) p0a p0k p0w p0l) ++ (oX1 (p1a 0) p1a p1k p1n p1w p1l) ++ (oX9 (p1a 3) p1_2a p1_2k p1_2n p1_2w))) hD hS hA [0, 1, 2, 3, 4, 5, 6, 7, 8, 9, 10, 11, 12, 13, 14, 15, 16, 17, 18, 19, 20, 21, 22, 23, 24, 25, 26, 27, 28, 29, 30, 31, 32, 33] rfl
    refine va_calli (va_runV (As := [.ref (p1a 0), .int p4, .int 1]) (rest := []) ⟨hx, hb, hml, hown, hts⟩ (kX5_isNumber_ l dC dI (p0a := (st0 (p0a 0) p0a)) (p0k := p0k) (p0w := p0w) (p0l := p0l) (p1a := (st0 (p1a 0) p1a)) (p1k := p1k) (p1n := p1n) (p1w := p1w) (p1l := p1l) (p2 := p4) (p3 := 1) (p1_2a := p1_2a) (p1_2k := p1_2k) (p1_2n := p1_2n) (p1_2w := p1_2w) (sz := _) (o := o_11) (hrun := hc_11)) (cwV 3 hts (gi_V qw536 qw537 qw538 qw442 (gi_z qw535)) rfl rfl rfl (by decide +kernel) ⟨Nat.le_of_ble_eq_true rfl, Nat.le_of_ble_eq_true rfl⟩) ⟨PRE.blind, va_recv hKc hPc (ci := 7) (q0 := 0) rfl rfl, PRE.of hE hS hFc hPc hKc hDc⟩ rfl rfl hl.1 rfl (lv_room (Nat.le_of_ble_eq_true rfl)) dX5_isLeftAlone_105 ⟨(Nat.le_of_ble_eq_true rfl), (Nat.le_of_ble_eq_true rfl)⟩) hS (fun q _ h => hFc q h) hFc (fun r12 u t H locs ht hvm hw hB hz1 hk1 hS => ?_)
    obtain ⟨hP, hD, hK⟩ := JOIN (wr := ([] : va_W)) hP hD hK [0, 1, 2, 3, 4, 5, 6, 7, 8, 9, 10, 11, 12, 13, 14, 15, 16, 17, 18, 19, 20, 21, 22, 23, 24, 25, 26, 27, 28, 29, 30, 31, 32, 33] [] [] rfl rfl (by decide) (by decide) rfl hk1 hFc ht hvm hB
    have hP : va_P (dC, dI) cls ((oX5 (p0a 0) p0a p0k p0w p0l) ++ (oX1 (p1a 0) p1a p1k p1n p1w p1l) ++ (oX9 (p1a 3) p1_2a p1_2k p1_2n p1_2w)) H := hP.sub [0, 1, 2, 3, 4, 5, 6, 7, 8, 9, 10, 11, 12, 13, 14, 15, 16, 17, 18, 19, 20, 21, 22, 23, 24, 25, 26, 27, 28, 29, 30, 31, 32, 33] rfl
    have hD : va_D A ((oX5 (p0a 0) p0a p0k p0w p0l) ++ (oX1 (p1a 0) p1a p1k p1n p1w p1l) ++ (oX9 (p1a 3) p1_2a p1_2k p1_2n p1_2w)) := hD.sub [0, 1, 2, 3, 4, 5, 6, 7, 8, 9, 10, 11, 12, 13, 14, 15, 16, 17, 18, 19, 20, 21, 22, 23, 24, 25, 26, 27, 28, 29, 30, 31, 32, 33] (by decide) rfl
    have hK : va_K (dC, dI) cls ((tX5 p0k) ++ (tX1 p1k) ++ (tX9 p1_2k)) s := hK.sub [0, 1, 2, 3, 4, 5, 6, 7, 8, 9, 10, 11, 12, 13, 14, 15, 16, 17, 18, 19, 20, 21, 22, 23, 24, 25, 26, 27, 28, 29, 30] rfl
    obtain rfl : o_11 = r12 := hw.symm
    obtain ⟨hz9, hrun⟩ := chk9 hrun
    have ho9 : o_11 = o := Option.some.inj hrun
    have hP9 : va_P (dC, dI) cls ((oX5 (p0a 0) p0a p0k p0w p0l) ++ (oX1 (p1a 0) p1a p1k p1n p1w p1l) ++ (oX9 (p1a 3) p1_2a p1_2k p1_2n p1_2w)) H := by first | exact hP | (rw [← ho9]; exact hP)
    have hD9 : va_D A ((oX5 (p0a 0) p0a p0k p0w p0l) ++ (oX1 (p1a 0) p1a p1k p1n p1w p1l) ++ (oX9 (p1a 3) p1_2a p1_2k p1_2n p1_2w)) := by first | exact hD | (rw [← ho9]; exact hD)
    subst hQ
    exact W.zret (v := o_11) hx hb hr (bz9 hz9) (fun t ht hW => ⟨⟨o_11, (), rfl, (by rw [← ho9]), ⟨by rw [ht]; exact hP9, va_K.moved hW.alike hK, hD9⟩⟩, hS.F ht⟩) hS.2.2 dX5_isLeftAlone_108
  rcases br9 hrun with ⟨hc13, hrun⟩ | ⟨hc13, hrun⟩
  · refine lv_tableIn (off := 108) (tgt := 109) hx hb dX5_isLeftAlone_1 (by rw [hc13]; decide) (by rw [hc13]; decide) (by rw [hc13]; rfl) (by decide) ?_
    refine lv_iconst (v := 0) hx hb dX5_isLeftAlone_109 (by decide) ?_
    have ho9 : 0 = o := Option.some.inj hrun
    have hP9 : va_P (dC, dI) cls ((oX5 (p0a 0) p0a p0k p0w p0l) ++ (oX1 (p1a 0) p1a p1k p1n p1w p1l) ++ (oX9 (p1a 3) p1_2a p1_2k p1_2n p1_2w)) H := by first | exact hP | (rw [← ho9]; exact hP)
    have hD9 : va_D A ((oX5 (p0a 0) p0a p0k p0w p0l) ++ (oX1 (p1a 0) p1a p1k p1n p1w p1l) ++ (oX9 (p1a 3) p1_2a p1_2k p1_2n p1_2w)) := by first | exact hD | (rw [← ho9]; exact hD)
    subst hQ
    exact W.zret (v := 0) hx hb hr (by decide) (fun t ht hW => ⟨⟨0, (), rfl, (by rw [← ho9]), ⟨by rw [ht]; exact hP9, va_K.moved hW.alike hK, hD9⟩⟩, hS.F ht⟩) hS.2.2 dX5_isLeftAlone_110
  rcases br9 hrun with ⟨hc14, hrun⟩ | ⟨hc14, hrun⟩
  · refine lv_tableIn (off := 87) (tgt := 88) hx hb dX5_isLeftAlone_1 (by rw [hc14]; decide) (by rw [hc14]; decide) (by rw [hc14]; rfl) (by decide) ?_
    refine lv_iload_n hx hb dX5_isLeftAlone_88 rfl (lv_at hl 3 rfl) ?_
    refine lv_iload hx hb dX5_isLeftAlone_89 (lv_at hl 4 rfl) ?_
    have J99 : ∀ (y0_99 : Int32) (H : Heap) (locs : List Loc) (ls : Array Slot), (fX5_isLeftAlone_J99 y0_99) = some o → va_P (dC, dI) cls ((oX5 (p0a 0) p0a p0k p0w p0l) ++ (oX1 (p1a 0) p1a p1k p1n p1w p1l) ++ (oX9 (p1a 3) p1_2a p1_2k p1_2n p1_2w)) H → va_D A ((oX5 (p0a 0) p0a p0k p0w p0l) ++ (oX1 (p1a 0) p1a p1k p1n p1w p1l) ++ (oX9 (p1a 3) p1_2a p1_2k p1_2n p1_2w)) → va_K (dC, dI) cls ((tX5 p0k) ++ (tX1 p1k) ++ (tX9 p1_2k)) s → va_S A s.heap H locs → lv_has ls 5 [] → W p l e ({ frames := 2, cells := 0, slots := 0, locals := 45 } : Room) s m ([.ref (p0a 0), .ref (p1a 0), .int p2, .int p3, .int p4] : List Value).toArray below meth c H locs 0 0 Q (F0 m 99 ls [.int y0_99]) := by
      intro y0_99 H locs ls hrun hP hD hK hS hl 
      unfold fX5_isLeftAlone_J99 at hrun
      obtain ⟨hz9, hrun⟩ := chk9 hrun
      have ho9 : y0_99 = o := Option.some.inj hrun
      have hP9 : va_P (dC, dI) cls ((oX5 (p0a 0) p0a p0k p0w p0l) ++ (oX1 (p1a 0) p1a p1k p1n p1w p1l) ++ (oX9 (p1a 3) p1_2a p1_2k p1_2n p1_2w)) H := by first | exact hP | (rw [← ho9]; exact hP)
      have hD9 : va_D A ((oX5 (p0a 0) p0a p0k p0w p0l) ++ (oX1 (p1a 0) p1a p1k p1n p1w p1l) ++ (oX9 (p1a 3) p1_2a p1_2k p1_2n p1_2w)) := by first | exact hD | (rw [← ho9]; exact hD)
      subst hQ
      exact W.zret (v := y0_99) hx hb hr (bz9 hz9) (fun t ht hW => ⟨⟨y0_99, (), rfl, (by rw [← ho9]), ⟨by rw [ht]; exact hP9, va_K.moved hW.alike hK, hD9⟩⟩, hS.F ht⟩) hS.2.2 dX5_isLeftAlone_99
    rcases br9 hrun with ⟨hc15, hrun⟩ | ⟨hc15, hrun⟩
    · refine lv_icmp_ne (tgt := 98) hx hb dX5_isLeftAlone_91 (by decide) (fun c => absurd hc15 c) (fun _ => ?_)
      refine lv_iconst (v := 1) hx hb dX5_isLeftAlone_94 (by decide) ?_
      refine lv_goto (tgt := 99) hx hb dX5_isLeftAlone_95 (by decide) ?_
      exact J99 1 _ _ _ hrun hP hD hK hS (lv_sub hl [] rfl)
    · refine lv_icmp_ne (tgt := 98) hx hb dX5_isLeftAlone_91 (by decide) (fun _ => ?_) (fun c => absurd c hc15)
      refine lv_iconst (v := 0) hx hb dX5_isLeftAlone_98 (by decide) ?_
      exact J99 0 _ _ _ hrun hP hD hK hS (lv_sub hl [] rfl)
  rcases br9 hrun with ⟨hc16, hrun⟩ | ⟨hc16, hrun⟩
  · refine lv_tableIn (off := 64) (tgt := 65) hx hb dX5_isLeftAlone_1 (by rw [hc16]; decide) (by rw [hc16]; decide) (by rw [hc16]; rfl) (by decide) ?_
    refine lv_aload_n hx hb dX5_isLeftAlone_65 rfl (lv_at hl 0 rfl) ?_
    refine lv_aload_n hx hb dX5_isLeftAlone_66 rfl (lv_at hl 1 rfl) ?_
    refine lv_iload hx hb dX5_isLeftAlone_67 (lv_at hl 4 rfl) ?_
    refine lv_iconst (v := 0) hx hb dX5_isLeftAlone_69 (by decide) ?_
    obtain ⟨o_17, hc_17, hrun⟩ := bnd9 hrun
    have hPc := hP.sub (ws' := ((oX5 (p0a 0) p0a p0k p0w p0l) ++ (oX1 (p1a 0) p1a p1k p1n p1w p1l) ++ (oX9 (p1a 3) p1_2a p1_2k p1_2n p1_2w))) [0, 1, 2, 3, 4, 5, 6, 7, 8, 9, 10, 11, 12, 13, 14, 15, 16, 17, 18, 19, 20, 21, 22, 23, 24, 25, 26, 27, 28, 29, 30, 31, 32, 33] rfl
    have hDc := hD.sub (ws' := ((oX5 (p0a 0) p0a p0k p0w p0l) ++ (oX1 (p1a 0) p1a p1k p1n p1w p1l) ++ (oX9 (p1a 3) p1_2a p1_2k p1_2n p1_2w))) [0, 1, 2, 3, 4, 5, 6, 7, 8, 9, 10, 11, 12, 13, 14, 15, 16, 17, 18, 19, 20, 21, 22, 23, 24, 25, 26, 27, 28, 29, 30, 31, 32, 33] (by decide) rfl
    have hKc := hK.sub (tys' := ((tX5 p0k) ++ (tX1 p1k) ++ (tX9 p1_2k))) [0, 1, 2, 3, 4, 5, 6, 7, 8, 9, 10, 11, 12, 13, 14, 15, 16, 17, 18, 19, 20, 21, 22, 23, 24, 25, 26, 27, 28, 29, 30] rfl
    have hFc := va_free (wc := ((oX5 (p0a 0) p0a p0k p0w p0l) ++ (oX1 (p1a 0) p1a p1k p1n p1w p1l) ++ (oX9 (p1a 3) p1_2a p1_2k p1_2n p1_2w))) hD hS hA [0, 1, 2, 3, 4, 5, 6, 7, 8, 9, 10, 11, 12, 13, 14, 15, 16, 17, 18, 19, 20, 21, 22, 23, 24, 25, 26, 27, 28, 29, 30, 31, 32, 33] rfl
    refine va_calli (va_runV (As := [.ref (p1a 0), .int p4, .int 0]) (rest := []) ⟨hx, hb, hml, hown, hts⟩ (kX5_isNumber_ l dC dI (p0a := (st0 (p0a 0) p0a)) (p0k := p0k) (p0w := p0w) (p0l := p0l) (p1a := (st0 (p1a 0) p1a)) (p1k := p1k) (p1n := p1n) (p1w := p1w) (p1l := p1l) (p2 := p4) (p3 := 0) (p1_2a := p1_2a) (p1_2k := p1_2k) (p1_2n := p1_2n) (p1_2w := p1_2w) (sz := _) (o := o_17) (hrun := hc_17)) (cwV 3 hts (gi_V qw536 qw537 qw538 qw442 (gi_z qw535)) rfl rfl rfl (by decide +kernel) ⟨Nat.le_of_ble_eq_true rfl, Nat.le_of_ble_eq_true rfl⟩) ⟨PRE.blind, va_recv hKc hPc (ci := 7) (q0 := 0) rfl rfl, PRE.of hE hS hFc hPc hKc hDc⟩ rfl rfl hl.1 rfl (lv_room (Nat.le_of_ble_eq_true rfl)) dX5_isLeftAlone_70 ⟨(Nat.le_of_ble_eq_true rfl), (Nat.le_of_ble_eq_true rfl)⟩) hS (fun q _ h => hFc q h) hFc (fun r18 u t H locs ht hvm hw hB hz1 hk1 hS => ?_)
    obtain ⟨hP, hD, hK⟩ := JOIN (wr := ([] : va_W)) hP hD hK [0, 1, 2, 3, 4, 5, 6, 7, 8, 9, 10, 11, 12, 13, 14, 15, 16, 17, 18, 19, 20, 21, 22, 23, 24, 25, 26, 27, 28, 29, 30, 31, 32, 33] [] [] rfl rfl (by decide) (by decide) rfl hk1 hFc ht hvm hB
    have hP : va_P (dC, dI) cls ((oX5 (p0a 0) p0a p0k p0w p0l) ++ (oX1 (p1a 0) p1a p1k p1n p1w p1l) ++ (oX9 (p1a 3) p1_2a p1_2k p1_2n p1_2w)) H := hP.sub [0, 1, 2, 3, 4, 5, 6, 7, 8, 9, 10, 11, 12, 13, 14, 15, 16, 17, 18, 19, 20, 21, 22, 23, 24, 25, 26, 27, 28, 29, 30, 31, 32, 33] rfl
    have hD : va_D A ((oX5 (p0a 0) p0a p0k p0w p0l) ++ (oX1 (p1a 0) p1a p1k p1n p1w p1l) ++ (oX9 (p1a 3) p1_2a p1_2k p1_2n p1_2w)) := hD.sub [0, 1, 2, 3, 4, 5, 6, 7, 8, 9, 10, 11, 12, 13, 14, 15, 16, 17, 18, 19, 20, 21, 22, 23, 24, 25, 26, 27, 28, 29, 30, 31, 32, 33] (by decide) rfl
    have hK : va_K (dC, dI) cls ((tX5 p0k) ++ (tX1 p1k) ++ (tX9 p1_2k)) s := hK.sub [0, 1, 2, 3, 4, 5, 6, 7, 8, 9, 10, 11, 12, 13, 14, 15, 16, 17, 18, 19, 20, 21, 22, 23, 24, 25, 26, 27, 28, 29, 30] rfl
    obtain rfl : o_17 = r18 := hw.symm
    have J87 : ∀ (y0_87 : Int32) (H : Heap) (locs : List Loc) (ls : Array Slot), (fX5_isLeftAlone_J87 y0_87) = some o → va_P (dC, dI) cls ((oX5 (p0a 0) p0a p0k p0w p0l) ++ (oX1 (p1a 0) p1a p1k p1n p1w p1l) ++ (oX9 (p1a 3) p1_2a p1_2k p1_2n p1_2w)) H → va_D A ((oX5 (p0a 0) p0a p0k p0w p0l) ++ (oX1 (p1a 0) p1a p1k p1n p1w p1l) ++ (oX9 (p1a 3) p1_2a p1_2k p1_2n p1_2w)) → va_K (dC, dI) cls ((tX5 p0k) ++ (tX1 p1k) ++ (tX9 p1_2k)) s → va_S A s.heap H locs → lv_has ls 5 [] → W p l e ({ frames := 2, cells := 0, slots := 0, locals := 45 } : Room) s m ([.ref (p0a 0), .ref (p1a 0), .int p2, .int p3, .int p4] : List Value).toArray below meth c H locs 0 0 Q (F0 m 87 ls [.int y0_87]) := by
      intro y0_87 H locs ls hrun hP hD hK hS hl 
      unfold fX5_isLeftAlone_J87 at hrun
      obtain ⟨hz9, hrun⟩ := chk9 hrun
      have ho9 : y0_87 = o := Option.some.inj hrun
      have hP9 : va_P (dC, dI) cls ((oX5 (p0a 0) p0a p0k p0w p0l) ++ (oX1 (p1a 0) p1a p1k p1n p1w p1l) ++ (oX9 (p1a 3) p1_2a p1_2k p1_2n p1_2w)) H := by first | exact hP | (rw [← ho9]; exact hP)
      have hD9 : va_D A ((oX5 (p0a 0) p0a p0k p0w p0l) ++ (oX1 (p1a 0) p1a p1k p1n p1w p1l) ++ (oX9 (p1a 3) p1_2a p1_2k p1_2n p1_2w)) := by first | exact hD | (rw [← ho9]; exact hD)
      subst hQ
      exact W.zret (v := y0_87) hx hb hr (bz9 hz9) (fun t ht hW => ⟨⟨y0_87, (), rfl, (by rw [← ho9]), ⟨by rw [ht]; exact hP9, va_K.moved hW.alike hK, hD9⟩⟩, hS.F ht⟩) hS.2.2 dX5_isLeftAlone_87
    have J82 : ∀ (H : Heap) (locs : List Loc) (ls : Array Slot), (fX5_isLeftAlone_J82) = some o → va_P (dC, dI) cls ((oX5 (p0a 0) p0a p0k p0w p0l) ++ (oX1 (p1a 0) p1a p1k p1n p1w p1l) ++ (oX9 (p1a 3) p1_2a p1_2k p1_2n p1_2w)) H → va_D A ((oX5 (p0a 0) p0a p0k p0w p0l) ++ (oX1 (p1a 0) p1a p1k p1n p1w p1l) ++ (oX9 (p1a 3) p1_2a p1_2k p1_2n p1_2w)) → va_K (dC, dI) cls ((tX5 p0k) ++ (tX1 p1k) ++ (tX9 p1_2k)) s → va_S A s.heap H locs → lv_has ls 5 [] → W p l e ({ frames := 2, cells := 0, slots := 0, locals := 45 } : Room) s m ([.ref (p0a 0), .ref (p1a 0), .int p2, .int p3, .int p4] : List Value).toArray below meth c H locs 0 0 Q (F0 m 82 ls []) := by
      intro  H locs ls hrun hP hD hK hS hl 
      unfold fX5_isLeftAlone_J82 at hrun
      refine lv_iconst (v := 1) hx hb dX5_isLeftAlone_82 (by decide) ?_
      refine lv_goto (tgt := 87) hx hb dX5_isLeftAlone_83 (by decide) ?_
      exact J87 1 _ _ _ hrun hP hD hK hS (lv_sub hl [] rfl)
    rcases br9 hrun with ⟨hc19, hrun⟩ | ⟨hc19, hrun⟩
    · refine lv_if_ne (tgt := 82) hx hb dX5_isLeftAlone_73 (by decide) (fun c => absurd hc19 c) (fun _ => ?_)
      refine lv_iload_n hx hb dX5_isLeftAlone_76 rfl (lv_at hl 3 rfl) ?_
      refine lv_iload hx hb dX5_isLeftAlone_77 (lv_at hl 4 rfl) ?_
      rcases br9 hrun with ⟨hc20, hrun⟩ | ⟨hc20, hrun⟩
      · refine lv_icmp_ne (tgt := 86) hx hb dX5_isLeftAlone_79 (by decide) (fun c => absurd hc20 c) (fun _ => ?_)
        exact J82 _ _ _ hrun hP hD hK hS (lv_sub hl [] rfl)
      · refine lv_icmp_ne (tgt := 86) hx hb dX5_isLeftAlone_79 (by decide) (fun _ => ?_) (fun c => absurd c hc20)
        refine lv_iconst (v := 0) hx hb dX5_isLeftAlone_86 (by decide) ?_
        exact J87 0 _ _ _ hrun hP hD hK hS (lv_sub hl [] rfl)
    · refine lv_if_ne (tgt := 82) hx hb dX5_isLeftAlone_73 (by decide) (fun _ => ?_) (fun c => absurd c hc19)
      exact J82 _ _ _ hrun hP hD hK hS (lv_sub hl [] rfl)
  rcases br9 hrun with ⟨hc21, hrun⟩ | ⟨hc21, hrun⟩
  · refine lv_tableIn (off := 55) (tgt := 56) hx hb dX5_isLeftAlone_1 (by rw [hc21]; decide) (by rw [hc21]; decide) (by rw [hc21]; rfl) (by decide) ?_
    refine lv_aload_n hx hb dX5_isLeftAlone_56 rfl (lv_at hl 0 rfl) ?_
    refine lv_aload_n hx hb dX5_isLeftAlone_57 rfl (lv_at hl 1 rfl) ?_
    refine lv_iload hx hb dX5_isLeftAlone_58 (lv_at hl 4 rfl) ?_
    refine lv_iconst (v := 0) hx hb dX5_isLeftAlone_60 (by decide) ?_
    obtain ⟨o_22, hc_22, hrun⟩ := bnd9 hrun
    have hPc := hP.sub (ws' := ((oX5 (p0a 0) p0a p0k p0w p0l) ++ (oX1 (p1a 0) p1a p1k p1n p1w p1l) ++ (oX9 (p1a 3) p1_2a p1_2k p1_2n p1_2w))) [0, 1, 2, 3, 4, 5, 6, 7, 8, 9, 10, 11, 12, 13, 14, 15, 16, 17, 18, 19, 20, 21, 22, 23, 24, 25, 26, 27, 28, 29, 30, 31, 32, 33] rfl
    have hDc := hD.sub (ws' := ((oX5 (p0a 0) p0a p0k p0w p0l) ++ (oX1 (p1a 0) p1a p1k p1n p1w p1l) ++ (oX9 (p1a 3) p1_2a p1_2k p1_2n p1_2w))) [0, 1, 2, 3, 4, 5, 6, 7, 8, 9, 10, 11, 12, 13, 14, 15, 16, 17, 18, 19, 20, 21, 22, 23, 24, 25, 26, 27, 28, 29, 30, 31, 32, 33] (by decide) rfl
    have hKc := hK.sub (tys' := ((tX5 p0k) ++ (tX1 p1k) ++ (tX9 p1_2k))) [0, 1, 2, 3, 4, 5, 6, 7, 8, 9, 10, 11, 12, 13, 14, 15, 16, 17, 18, 19, 20, 21, 22, 23, 24, 25, 26, 27, 28, 29, 30] rfl
    have hFc := va_free (wc := ((oX5 (p0a 0) p0a p0k p0w p0l) ++ (oX1 (p1a 0) p1a p1k p1n p1w p1l) ++ (oX9 (p1a 3) p1_2a p1_2k p1_2n p1_2w))) hD hS hA [0, 1, 2, 3, 4, 5, 6, 7, 8, 9, 10, 11, 12, 13, 14, 15, 16, 17, 18, 19, 20, 21, 22, 23, 24, 25, 26, 27, 28, 29, 30, 31, 32, 33] rfl
    refine va_calli (va_runV (As := [.ref (p1a 0), .int p4, .int 0]) (rest := []) ⟨hx, hb, hml, hown, hts⟩ (kX5_isNumber_ l dC dI (p0a := (st0 (p0a 0) p0a)) (p0k := p0k) (p0w := p0w) (p0l := p0l) (p1a := (st0 (p1a 0) p1a)) (p1k := p1k) (p1n := p1n) (p1w := p1w) (p1l := p1l) (p2 := p4) (p3 := 0) (p1_2a := p1_2a) (p1_2k := p1_2k) (p1_2n := p1_2n) (p1_2w := p1_2w) (sz := _) (o := o_22) (hrun := hc_22)) (cwV 3 hts (gi_V qw536 qw537 qw538 qw442 (gi_z qw535)) rfl rfl rfl (by decide +kernel) ⟨Nat.le_of_ble_eq_true rfl, Nat.le_of_ble_eq_true rfl⟩) ⟨PRE.blind, va_recv hKc hPc (ci := 7) (q0 := 0) rfl rfl, PRE.of hE hS hFc hPc hKc hDc⟩ rfl rfl hl.1 rfl (lv_room (Nat.le_of_ble_eq_true rfl)) dX5_isLeftAlone_61 ⟨(Nat.le_of_ble_eq_true rfl), (Nat.le_of_ble_eq_true rfl)⟩) hS (fun q _ h => hFc q h) hFc (fun r23 u t H locs ht hvm hw hB hz1 hk1 hS => ?_)
    obtain ⟨hP, hD, hK⟩ := JOIN (wr := ([] : va_W)) hP hD hK [0, 1, 2, 3, 4, 5, 6, 7, 8, 9, 10, 11, 12, 13, 14, 15, 16, 17, 18, 19, 20, 21, 22, 23, 24, 25, 26, 27, 28, 29, 30, 31, 32, 33] [] [] rfl rfl (by decide) (by decide) rfl hk1 hFc ht hvm hB
    have hP : va_P (dC, dI) cls ((oX5 (p0a 0) p0a p0k p0w p0l) ++ (oX1 (p1a 0) p1a p1k p1n p1w p1l) ++ (oX9 (p1a 3) p1_2a p1_2k p1_2n p1_2w)) H := hP.sub [0, 1, 2, 3, 4, 5, 6, 7, 8, 9, 10, 11, 12, 13, 14, 15, 16, 17, 18, 19, 20, 21, 22, 23, 24, 25, 26, 27, 28, 29, 30, 31, 32, 33] rfl
    have hD : va_D A ((oX5 (p0a 0) p0a p0k p0w p0l) ++ (oX1 (p1a 0) p1a p1k p1n p1w p1l) ++ (oX9 (p1a 3) p1_2a p1_2k p1_2n p1_2w)) := hD.sub [0, 1, 2, 3, 4, 5, 6, 7, 8, 9, 10, 11, 12, 13, 14, 15, 16, 17, 18, 19, 20, 21, 22, 23, 24, 25, 26, 27, 28, 29, 30, 31, 32, 33] (by decide) rfl
    have hK : va_K (dC, dI) cls ((tX5 p0k) ++ (tX1 p1k) ++ (tX9 p1_2k)) s := hK.sub [0, 1, 2, 3, 4, 5, 6, 7, 8, 9, 10, 11, 12, 13, 14, 15, 16, 17, 18, 19, 20, 21, 22, 23, 24, 25, 26, 27, 28, 29, 30] rfl
    obtain rfl : o_22 = r23 := hw.symm
    obtain ⟨hz9, hrun⟩ := chk9 hrun
    have ho9 : o_22 = o := Option.some.inj hrun
    have hP9 : va_P (dC, dI) cls ((oX5 (p0a 0) p0a p0k p0w p0l) ++ (oX1 (p1a 0) p1a p1k p1n p1w p1l) ++ (oX9 (p1a 3) p1_2a p1_2k p1_2n p1_2w)) H := by first | exact hP | (rw [← ho9]; exact hP)
    have hD9 : va_D A ((oX5 (p0a 0) p0a p0k p0w p0l) ++ (oX1 (p1a 0) p1a p1k p1n p1w p1l) ++ (oX9 (p1a 3) p1_2a p1_2k p1_2n p1_2w)) := by first | exact hD | (rw [← ho9]; exact hD)
    subst hQ
    exact W.zret (v := o_22) hx hb hr (bz9 hz9) (fun t ht hW => ⟨⟨o_22, (), rfl, (by rw [← ho9]), ⟨by rw [ht]; exact hP9, va_K.moved hW.alike hK, hD9⟩⟩, hS.F ht⟩) hS.2.2 dX5_isLeftAlone_64
  rcases br9 hrun with ⟨hc24, hrun⟩ | ⟨hc24, hrun⟩
  · refine lv_tableIn (off := 55) (tgt := 56) hx hb dX5_isLeftAlone_1 (by rw [hc24]; decide) (by rw [hc24]; decide) (by rw [hc24]; rfl) (by decide) ?_
    refine lv_aload_n hx hb dX5_isLeftAlone_56 rfl (lv_at hl 0 rfl) ?_
    refine lv_aload_n hx hb dX5_isLeftAlone_57 rfl (lv_at hl 1 rfl) ?_
    refine lv_iload hx hb dX5_isLeftAlone_58 (lv_at hl 4 rfl) ?_
    refine lv_iconst (v := 0) hx hb dX5_isLeftAlone_60 (by decide) ?_
    obtain ⟨o_25, hc_25, hrun⟩ := bnd9 hrun
    have hPc := hP.sub (ws' := ((oX5 (p0a 0) p0a p0k p0w p0l) ++ (oX1 (p1a 0) p1a p1k p1n p1w p1l) ++ (oX9 (p1a 3) p1_2a p1_2k p1_2n p1_2w))) [0, 1, 2, 3, 4, 5, 6, 7, 8, 9, 10, 11, 12, 13, 14, 15, 16, 17, 18, 19, 20, 21, 22, 23, 24, 25, 26, 27, 28, 29, 30, 31, 32, 33] rfl
    have hDc := hD.sub (ws' := ((oX5 (p0a 0) p0a p0k p0w p0l) ++ (oX1 (p1a 0) p1a p1k p1n p1w p1l) ++ (oX9 (p1a 3) p1_2a p1_2k p1_2n p1_2w))) [0, 1, 2, 3, 4, 5, 6, 7, 8, 9, 10, 11, 12, 13, 14, 15, 16, 17, 18, 19, 20, 21, 22, 23, 24, 25, 26, 27, 28, 29, 30, 31, 32, 33] (by decide) rfl
    have hKc := hK.sub (tys' := ((tX5 p0k) ++ (tX1 p1k) ++ (tX9 p1_2k))) [0, 1, 2, 3, 4, 5, 6, 7, 8, 9, 10, 11, 12, 13, 14, 15, 16, 17, 18, 19, 20, 21, 22, 23, 24, 25, 26, 27, 28, 29, 30] rfl
    have hFc := va_free (wc := ((oX5 (p0a 0) p0a p0k p0w p0l) ++ (oX1 (p1a 0) p1a p1k p1n p1w p1l) ++ (oX9 (p1a 3) p1_2a p1_2k p1_2n p1_2w))) hD hS hA [0, 1, 2, 3, 4, 5, 6, 7, 8, 9, 10, 11, 12, 13, 14, 15, 16, 17, 18, 19, 20, 21, 22, 23, 24, 25, 26, 27, 28, 29, 30, 31, 32, 33] rfl
    refine va_calli (va_runV (As := [.ref (p1a 0), .int p4, .int 0]) (rest := []) ⟨hx, hb, hml, hown, hts⟩ (kX5_isNumber_ l dC dI (p0a := (st0 (p0a 0) p0a)) (p0k := p0k) (p0w := p0w) (p0l := p0l) (p1a := (st0 (p1a 0) p1a)) (p1k := p1k) (p1n := p1n) (p1w := p1w) (p1l := p1l) (p2 := p4) (p3 := 0) (p1_2a := p1_2a) (p1_2k := p1_2k) (p1_2n := p1_2n) (p1_2w := p1_2w) (sz := _) (o := o_25) (hrun := hc_25)) (cwV 3 hts (gi_V qw536 qw537 qw538 qw442 (gi_z qw535)) rfl rfl rfl (by decide +kernel) ⟨Nat.le_of_ble_eq_true rfl, Nat.le_of_ble_eq_true rfl⟩) ⟨PRE.blind, va_recv hKc hPc (ci := 7) (q0 := 0) rfl rfl, PRE.of hE hS hFc hPc hKc hDc⟩ rfl rfl hl.1 rfl (lv_room (Nat.le_of_ble_eq_true rfl)) dX5_isLeftAlone_61 ⟨(Nat.le_of_ble_eq_true rfl), (Nat.le_of_ble_eq_true rfl)⟩) hS (fun q _ h => hFc q h) hFc (fun r26 u t H locs ht hvm hw hB hz1 hk1 hS => ?_)
    obtain ⟨hP, hD, hK⟩ := JOIN (wr := ([] : va_W)) hP hD hK [0, 1, 2, 3, 4, 5, 6, 7, 8, 9, 10, 11, 12, 13, 14, 15, 16, 17, 18, 19, 20, 21, 22, 23, 24, 25, 26, 27, 28, 29, 30, 31, 32, 33] [] [] rfl rfl (by decide) (by decide) rfl hk1 hFc ht hvm hB
    have hP : va_P (dC, dI) cls ((oX5 (p0a 0) p0a p0k p0w p0l) ++ (oX1 (p1a 0) p1a p1k p1n p1w p1l) ++ (oX9 (p1a 3) p1_2a p1_2k p1_2n p1_2w)) H := hP.sub [0, 1, 2, 3, 4, 5, 6, 7, 8, 9, 10, 11, 12, 13, 14, 15, 16, 17, 18, 19, 20, 21, 22, 23, 24, 25, 26, 27, 28, 29, 30, 31, 32, 33] rfl
    have hD : va_D A ((oX5 (p0a 0) p0a p0k p0w p0l) ++ (oX1 (p1a 0) p1a p1k p1n p1w p1l) ++ (oX9 (p1a 3) p1_2a p1_2k p1_2n p1_2w)) := hD.sub [0, 1, 2, 3, 4, 5, 6, 7, 8, 9, 10, 11, 12, 13, 14, 15, 16, 17, 18, 19, 20, 21, 22, 23, 24, 25, 26, 27, 28, 29, 30, 31, 32, 33] (by decide) rfl
    have hK : va_K (dC, dI) cls ((tX5 p0k) ++ (tX1 p1k) ++ (tX9 p1_2k)) s := hK.sub [0, 1, 2, 3, 4, 5, 6, 7, 8, 9, 10, 11, 12, 13, 14, 15, 16, 17, 18, 19, 20, 21, 22, 23, 24, 25, 26, 27, 28, 29, 30] rfl
    obtain rfl : o_25 = r26 := hw.symm
    obtain ⟨hz9, hrun⟩ := chk9 hrun
    have ho9 : o_25 = o := Option.some.inj hrun
    have hP9 : va_P (dC, dI) cls ((oX5 (p0a 0) p0a p0k p0w p0l) ++ (oX1 (p1a 0) p1a p1k p1n p1w p1l) ++ (oX9 (p1a 3) p1_2a p1_2k p1_2n p1_2w)) H := by first | exact hP | (rw [← ho9]; exact hP)
    have hD9 : va_D A ((oX5 (p0a 0) p0a p0k p0w p0l) ++ (oX1 (p1a 0) p1a p1k p1n p1w p1l) ++ (oX9 (p1a 3) p1_2a p1_2k p1_2n p1_2w)) := by first | exact hD | (rw [← ho9]; exact hD)
    subst hQ
    exact W.zret (v := o_25) hx hb hr (bz9 hz9) (fun t ht hW => ⟨⟨o_25, (), rfl, (by rw [← ho9]), ⟨by rw [ht]; exact hP9, va_K.moved hW.alike hK, hD9⟩⟩, hS.F ht⟩) hS.2.2 dX5_isLeftAlone_64
  rcases br9 hrun with ⟨hc27, hrun⟩ | ⟨hc27, hrun⟩
  · refine lv_tableIn (off := 55) (tgt := 56) hx hb dX5_isLeftAlone_1 (by rw [hc27]; decide) (by rw [hc27]; decide) (by rw [hc27]; rfl) (by decide) ?_
    refine lv_aload_n hx hb dX5_isLeftAlone_56 rfl (lv_at hl 0 rfl) ?_
    refine lv_aload_n hx hb dX5_isLeftAlone_57 rfl (lv_at hl 1 rfl) ?_
    refine lv_iload hx hb dX5_isLeftAlone_58 (lv_at hl 4 rfl) ?_
    refine lv_iconst (v := 0) hx hb dX5_isLeftAlone_60 (by decide) ?_
    obtain ⟨o_28, hc_28, hrun⟩ := bnd9 hrun
    have hPc := hP.sub (ws' := ((oX5 (p0a 0) p0a p0k p0w p0l) ++ (oX1 (p1a 0) p1a p1k p1n p1w p1l) ++ (oX9 (p1a 3) p1_2a p1_2k p1_2n p1_2w))) [0, 1, 2, 3, 4, 5, 6, 7, 8, 9, 10, 11, 12, 13, 14, 15, 16, 17, 18, 19, 20, 21, 22, 23, 24, 25, 26, 27, 28, 29, 30, 31, 32, 33] rfl
    have hDc := hD.sub (ws' := ((oX5 (p0a 0) p0a p0k p0w p0l) ++ (oX1 (p1a 0) p1a p1k p1n p1w p1l) ++ (oX9 (p1a 3) p1_2a p1_2k p1_2n p1_2w))) [0, 1, 2, 3, 4, 5, 6, 7, 8, 9, 10, 11, 12, 13, 14, 15, 16, 17, 18, 19, 20, 21, 22, 23, 24, 25, 26, 27, 28, 29, 30, 31, 32, 33] (by decide) rfl
    have hKc := hK.sub (tys' := ((tX5 p0k) ++ (tX1 p1k) ++ (tX9 p1_2k))) [0, 1, 2, 3, 4, 5, 6, 7, 8, 9, 10, 11, 12, 13, 14, 15, 16, 17, 18, 19, 20, 21, 22, 23, 24, 25, 26, 27, 28, 29, 30] rfl
    have hFc := va_free (wc := ((oX5 (p0a 0) p0a p0k p0w p0l) ++ (oX1 (p1a 0) p1a p1k p1n p1w p1l) ++ (oX9 (p1a 3) p1_2a p1_2k p1_2n p1_2w))) hD hS hA [0, 1, 2, 3, 4, 5, 6, 7, 8, 9, 10, 11, 12, 13, 14, 15, 16, 17, 18, 19, 20, 21, 22, 23, 24, 25, 26, 27, 28, 29, 30, 31, 32, 33] rfl
    refine va_calli (va_runV (As := [.ref (p1a 0), .int p4, .int 0]) (rest := []) ⟨hx, hb, hml, hown, hts⟩ (kX5_isNumber_ l dC dI (p0a := (st0 (p0a 0) p0a)) (p0k := p0k) (p0w := p0w) (p0l := p0l) (p1a := (st0 (p1a 0) p1a)) (p1k := p1k) (p1n := p1n) (p1w := p1w) (p1l := p1l) (p2 := p4) (p3 := 0) (p1_2a := p1_2a) (p1_2k := p1_2k) (p1_2n := p1_2n) (p1_2w := p1_2w) (sz := _) (o := o_28) (hrun := hc_28)) (cwV 3 hts (gi_V qw536 qw537 qw538 qw442 (gi_z qw535)) rfl rfl rfl (by decide +kernel) ⟨Nat.le_of_ble_eq_true rfl, Nat.le_of_ble_eq_true rfl⟩) ⟨PRE.blind, va_recv hKc hPc (ci := 7) (q0 := 0) rfl rfl, PRE.of hE hS hFc hPc hKc hDc⟩ rfl rfl hl.1 rfl (lv_room (Nat.le_of_ble_eq_true rfl)) dX5_isLeftAlone_61 ⟨(Nat.le_of_ble_eq_true rfl), (Nat.le_of_ble_eq_true rfl)⟩) hS (fun q _ h => hFc q h) hFc (fun r29 u t H locs ht hvm hw hB hz1 hk1 hS => ?_)
    obtain ⟨hP, hD, hK⟩ := JOIN (wr := ([] : va_W)) hP hD hK [0, 1, 2, 3, 4, 5, 6, 7, 8, 9, 10, 11, 12, 13, 14, 15, 16, 17, 18, 19, 20, 21, 22, 23, 24, 25, 26, 27, 28, 29, 30, 31, 32, 33] [] [] rfl rfl (by decide) (by decide) rfl hk1 hFc ht hvm hB
    have hP : va_P (dC, dI) cls ((oX5 (p0a 0) p0a p0k p0w p0l) ++ (oX1 (p1a 0) p1a p1k p1n p1w p1l) ++ (oX9 (p1a 3) p1_2a p1_2k p1_2n p1_2w)) H := hP.sub [0, 1, 2, 3, 4, 5, 6, 7, 8, 9, 10, 11, 12, 13, 14, 15, 16, 17, 18, 19, 20, 21, 22, 23, 24, 25, 26, 27, 28, 29, 30, 31, 32, 33] rfl
    have hD : va_D A ((oX5 (p0a 0) p0a p0k p0w p0l) ++ (oX1 (p1a 0) p1a p1k p1n p1w p1l) ++ (oX9 (p1a 3) p1_2a p1_2k p1_2n p1_2w)) := hD.sub [0, 1, 2, 3, 4, 5, 6, 7, 8, 9, 10, 11, 12, 13, 14, 15, 16, 17, 18, 19, 20, 21, 22, 23, 24, 25, 26, 27, 28, 29, 30, 31, 32, 33] (by decide) rfl
    have hK : va_K (dC, dI) cls ((tX5 p0k) ++ (tX1 p1k) ++ (tX9 p1_2k)) s := hK.sub [0, 1, 2, 3, 4, 5, 6, 7, 8, 9, 10, 11, 12, 13, 14, 15, 16, 17, 18, 19, 20, 21, 22, 23, 24, 25, 26, 27, 28, 29, 30] rfl
    obtain rfl : o_28 = r29 := hw.symm
    obtain ⟨hz9, hrun⟩ := chk9 hrun
    have ho9 : o_28 = o := Option.some.inj hrun
    have hP9 : va_P (dC, dI) cls ((oX5 (p0a 0) p0a p0k p0w p0l) ++ (oX1 (p1a 0) p1a p1k p1n p1w p1l) ++ (oX9 (p1a 3) p1_2a p1_2k p1_2n p1_2w)) H := by first | exact hP | (rw [← ho9]; exact hP)
    have hD9 : va_D A ((oX5 (p0a 0) p0a p0k p0w p0l) ++ (oX1 (p1a 0) p1a p1k p1n p1w p1l) ++ (oX9 (p1a 3) p1_2a p1_2k p1_2n p1_2w)) := by first | exact hD | (rw [← ho9]; exact hD)
    subst hQ
    exact W.zret (v := o_28) hx hb hr (bz9 hz9) (fun t ht hW => ⟨⟨o_28, (), rfl, (by rw [← ho9]), ⟨by rw [ht]; exact hP9, va_K.moved hW.alike hK, hD9⟩⟩, hS.F ht⟩) hS.2.2 dX5_isLeftAlone_64
  refine lv_tableOut (tgt := 109) hx hb dX5_isLeftAlone_1 (by have g0 := lv_neT hc1 (show Int32.toInt 1 = 1 by decide); have g1 := lv_neT hc4 (show Int32.toInt 2 = 2 by decide); have g2 := lv_neT hc7 (show Int32.toInt 3 = 3 by decide); have g3 := lv_neT hc10 (show Int32.toInt 4 = 4 by decide); have g4 := lv_neT hc13 (show Int32.toInt 5 = 5 by decide); have g5 := lv_neT hc14 (show Int32.toInt 6 = 6 by decide); have g6 := lv_neT hc16 (show Int32.toInt 7 = 7 by decide); have g7 := lv_neT hc21 (show Int32.toInt 8 = 8 by decide); have g8 := lv_neT hc24 (show Int32.toInt 9 = 9 by decide); have g9 := lv_neT hc27 (show Int32.toInt 10 = 10 by decide); omega) (by decide) ?_
  refine lv_iconst (v := 0) hx hb dX5_isLeftAlone_109 (by decide) ?_
  have ho9 : 0 = o := Option.some.inj hrun
  have hP9 : va_P (dC, dI) cls ((oX5 (p0a 0) p0a p0k p0w p0l) ++ (oX1 (p1a 0) p1a p1k p1n p1w p1l) ++ (oX9 (p1a 3) p1_2a p1_2k p1_2n p1_2w)) H := by first | exact hP | (rw [← ho9]; exact hP)
  have hD9 : va_D A ((oX5 (p0a 0) p0a p0k p0w p0l) ++ (oX1 (p1a 0) p1a p1k p1n p1w p1l) ++ (oX9 (p1a 3) p1_2a p1_2k p1_2n p1_2w)) := by first | exact hD | (rw [← ho9]; exact hD)
  subst hQ
  exact W.zret (v := 0) hx hb hr (by decide) (fun t ht hW => ⟨⟨0, (), rfl, (by rw [← ho9]), ⟨by rw [ht]; exact hP9, va_K.moved hW.alike hK, hD9⟩⟩, hS.F ht⟩) hS.2.2 dX5_isLeftAlone_110
def fX5_isRightAlone_J17 (p0w : ST) (p3 : Int32) (p1_2n : Nat → Nat) (p1_2w : ST) : Option Int32 := ((fX5_isNumber_ p0w p3 0 p1_2n p1_2w).bind fun (o_1 : Int32) => (if o_1 = 0 ∨ o_1 = 1 then some o_1 else none))
def fX5_isRightAlone_J45 (y0_45 : Int32) : Option Int32 := (if y0_45 = 0 ∨ y0_45 = 1 then some y0_45 else none)
def fX5_isRightAlone_J44  : Option Int32 := (fX5_isRightAlone_J45 0)
def fX5_isRightAlone (p0w : ST) (p2 : Int32) (p3 : Int32) (p1_2n : Nat → Nat) (p1_2w : ST) : Option Int32 := (if p2 = 1 then (fX5_isRightAlone_J17 p0w p3 p1_2n p1_2w) else (if p2 = 7 then (fX5_isRightAlone_J17 p0w p3 p1_2n p1_2w) else (if p2 = 8 then (fX5_isRightAlone_J17 p0w p3 p1_2n p1_2w) else (if p2 = 3 then ((fX5_isNumber_ p0w p3 1 p1_2n p1_2w).bind fun (o_7 : Int32) => (if o_7 = 0 then (fX5_isRightAlone_J44) else (fX5_isRightAlone_J45 1))) else (fX5_isRightAlone_J44)))))
set_option maxHeartbeats 16000000 in
set_option maxRecDepth 100000 in
theorem kX5_isRightAlone {zs : Nat × Nat} (l : Launch) (dC : Nat → ClassId) (dI : Nat → Nat → Nat) (p0a : Nat → Nat) (p0k : Nat → ClassId) (p0w : ST) (p0l : SL) (p1a : Nat → Nat) (p1k : Nat → ClassId) (p1n : Nat → Nat) (p1w : ST) (p1l : SL) (p2 : Int32) (p3 : Int32) (p4 : Int32) (p1_2a : Nat → Nat) (p1_2k : Nat → ClassId) (p1_2n : Nat → Nat) (p1_2w : ST) (sz : Nat) (o : Int32) (hrun : fX5_isRightAlone p0w p2 p3 p1_2n p1_2w = some o) : Met l yX5_isRightAlone (wz yX5_isRightAlone cX5_isRightAlone 5 (Option.some Jvm.ClassFile.FieldType.boolean)) ({ frames := 2, cells := 0, slots := 0, locals := 45 } : Room) (va_Pc [.ref (p0a 0), .ref (p1a 0), .int p2, .int p3, .int p4] (PRE zs dC dI ((oX5 (p0a 0) p0a p0k p0w p0l) ++ (oX1 (p1a 0) p1a p1k p1n p1w p1l) ++ (oX9 (p1a 3) p1_2a p1_2k p1_2n p1_2w)) ((tX5 p0k) ++ (tX1 p1k) ++ (tX9 p1_2k)) sz)) (va_Qi (fun (r : Int32) (_ : Unit) => r = o) (fun _ t => POST dC dI ((oX5 (p0a 0) p0a p0k p0w p0l) ++ (oX1 (p1a 0) p1a p1k p1n p1w p1l) ++ (oX9 (p1a 3) p1_2a p1_2k p1_2n p1_2w)) ((tX5 p0k) ++ (tX1 p1k) ++ (tX9 p1_2k)) (va_A ((oX5 (p0a 0) p0a p0k p0w p0l) ++ (oX1 (p1a 0) p1a p1k p1n p1w p1l) ++ (oX9 (p1a 3) p1_2a p1_2k p1_2n p1_2w)) sz) t) (va_A ((oX5 (p0a 0) p0a p0k p0w p0l) ++ (oX1 (p1a 0) p1a p1k p1n p1w p1l) ++ (oX9 (p1a 3) p1_2a p1_2k p1_2n p1_2w)) sz)) 0 0 (va_A ((oX5 (p0a 0) p0a p0k p0w p0l) ++ (oX1 (p1a 0) p1a p1k p1n p1w p1l) ++ (oX9 (p1a 3) p1_2a p1_2k p1_2n p1_2w)) sz) := by
  refine Met.ofW (cc := cX5_isRightAlone) (maxL := 5) (ret := (Option.some Jvm.ClassFile.FieldType.boolean)) (by decide) rfl ?_
  intro p e s m args below meth c s₁ B hml hv
  obtain ⟨rfl, hsz, hP, hK, hD0, hE⟩ := hv
  have hx := B.exec
  have hb := B.bytes
  have hr := B.returns
  have hts0 := atoms_spec (ws := wz yX5_isRightAlone cX5_isRightAlone 5 (Option.some Jvm.ClassFile.FieldType.boolean)) B.pre
  have hts : ∀ w ∈ gw, w.before _ s = true := fun w h => hts0 w (List.mem_cons_of_mem _ h)
  have hown : s.vm.findClass RX5 = some m.cls := findClass_of_methodNamed B.named
  have hlocks := B.notSynchronized
  subst hsz
  have hD := hD0.self (sz := s.heap.size)
  refine gQ9 ?_
  intro Q hQ
  generalize hAe : va_A ((oX5 (p0a 0) p0a p0k p0w p0l) ++ (oX1 (p1a 0) p1a p1k p1n p1w p1l) ++ (oX9 (p1a 3) p1_2a p1_2k p1_2n p1_2w)) s.heap.size = A at hD hE hQ
  have hA : ∀ q : Nat, s.heap.size ≤ q → A q := fun q h => by rw [← hAe]; exact Or.inr h
  have hS : va_S A s.heap s.heap [] := va_S.rf
  have hP : va_P (dC, dI) cls ((oX5 (p0a 0) p0a p0k p0w p0l) ++ (oX1 (p1a 0) p1a p1k p1n p1w p1l) ++ (oX9 (p1a 3) p1_2a p1_2k p1_2n p1_2w)) s.heap := hP
  have hl := lv_entry ([.ref (p0a 0), .ref (p1a 0), .int p2, .int p3, .int p4]) (n := 5) (Nat.le_of_ble_eq_true rfl)
  rw [lg_entry_eq]
  generalize (lg_sl ([.ref (p0a 0), .ref (p1a 0), .int p2, .int p3, .int p4]) ++ List.replicate (5 - (lg_sl ([.ref (p0a 0), .ref (p1a 0), .int p2, .int p3, .int p4])).length) Slot.unset).toArray = ls at hl ⊢
  have hl : lv_has ls 5 [(0, .ref (p0a 0)), (1, .ref (p1a 0)), (2, .int p2), (3, .int p3), (4, .int p4)] := hl
  obtain ⟨H, hHe⟩ : ∃ H, H = s.heap := ⟨_, rfl⟩
  obtain ⟨locs, hle⟩ : ∃ locs : List Loc, locs = [] := ⟨_, rfl⟩
  rw [← hHe] at hP
  have hS : va_S A s.heap H locs := by rw [hHe, hle]; exact hS
  show W p l e ({ frames := 2, cells := 0, slots := 0, locals := 45 } : Room) s m ([.ref (p0a 0), .ref (p1a 0), .int p2, .int p3, .int p4] : List Value).toArray below meth c s.heap [] 0 0 Q (F0 m 0 ls [])
  rw [← hle]
  refine wH9 hHe ?_
  unfold fX5_isRightAlone at hrun
  refine lv_iload_n hx hb dX5_isRightAlone_0 rfl (lv_at hl 2 rfl) ?_
  refine lv_iconst (v := 1) hx hb dX5_isRightAlone_1 (by decide) ?_
  have J17 : ∀ (H : Heap) (locs : List Loc) (ls : Array Slot), (fX5_isRightAlone_J17 p0w p3 p1_2n p1_2w) = some o → va_P (dC, dI) cls ((oX5 (p0a 0) p0a p0k p0w p0l) ++ (oX1 (p1a 0) p1a p1k p1n p1w p1l) ++ (oX9 (p1a 3) p1_2a p1_2k p1_2n p1_2w)) H → va_D A ((oX5 (p0a 0) p0a p0k p0w p0l) ++ (oX1 (p1a 0) p1a p1k p1n p1w p1l) ++ (oX9 (p1a 3) p1_2a p1_2k p1_2n p1_2w)) → va_K (dC, dI) cls ((tX5 p0k) ++ (tX1 p1k) ++ (tX9 p1_2k)) s → va_S A s.heap H locs → lv_has ls 5 [(0, .ref (p0a 0)), (1, .ref (p1a 0)), (3, .int p3)] → W p l e ({ frames := 2, cells := 0, slots := 0, locals := 45 } : Room) s m ([.ref (p0a 0), .ref (p1a 0), .int p2, .int p3, .int p4] : List Value).toArray below meth c H locs 0 0 Q (F0 m 17 ls []) := by
    intro  H locs ls hrun hP hD hK hS hl 
    unfold fX5_isRightAlone_J17 at hrun
    refine lv_aload_n hx hb dX5_isRightAlone_17 rfl (lv_at hl 0 rfl) ?_
    refine lv_aload_n hx hb dX5_isRightAlone_18 rfl (lv_at hl 1 rfl) ?_
    refine lv_iload_n hx hb dX5_isRightAlone_19 rfl (lv_at hl 2 rfl) ?_
    refine lv_iconst (v := 0) hx hb dX5_isRightAlone_20 (by decide) ?_
    obtain ⟨o_1, hc_1, hrun⟩ := bnd9 hrun
    have hPc := hP.sub (ws' := ((oX5 (p0a 0) p0a p0k p0w p0l) ++ (oX1 (p1a 0) p1a p1k p1n p1w p1l) ++ (oX9 (p1a 3) p1_2a p1_2k p1_2n p1_2w))) [0, 1, 2, 3, 4, 5, 6, 7, 8, 9, 10, 11, 12, 13, 14, 15, 16, 17, 18, 19, 20, 21, 22, 23, 24, 25, 26, 27, 28, 29, 30, 31, 32, 33] rfl
    have hDc := hD.sub (ws' := ((oX5 (p0a 0) p0a p0k p0w p0l) ++ (oX1 (p1a 0) p1a p1k p1n p1w p1l) ++ (oX9 (p1a 3) p1_2a p1_2k p1_2n p1_2w))) [0, 1, 2, 3, 4, 5, 6, 7, 8, 9, 10, 11, 12, 13, 14, 15, 16, 17, 18, 19, 20, 21, 22, 23, 24, 25, 26, 27, 28, 29, 30, 31, 32, 33] (by decide) rfl
    have hKc := hK.sub (tys' := ((tX5 p0k) ++ (tX1 p1k) ++ (tX9 p1_2k))) [0, 1, 2, 3, 4, 5, 6, 7, 8, 9, 10, 11, 12, 13, 14, 15, 16, 17, 18, 19, 20, 21, 22, 23, 24, 25, 26, 27, 28, 29, 30] rfl
    have hFc := va_free (wc := ((oX5 (p0a 0) p0a p0k p0w p0l) ++ (oX1 (p1a 0) p1a p1k p1n p1w p1l) ++ (oX9 (p1a 3) p1_2a p1_2k p1_2n p1_2w))) hD hS hA [0, 1, 2, 3, 4, 5, 6, 7, 8, 9, 10, 11, 12, 13, 14, 15, 16, 17, 18, 19, 20, 21, 22, 23, 24, 25, 26, 27, 28, 29, 30, 31, 32, 33] rfl
    refine va_calli (va_runV (As := [.ref (p1a 0), .int p3, .int 0]) (rest := []) ⟨hx, hb, hml, hown, hts⟩ (kX5_isNumber_ l dC dI (p0a := (st0 (p0a 0) p0a)) (p0k := p0k) (p0w := p0w) (p0l := p0l) (p1a := (st0 (p1a 0) p1a)) (p1k := p1k) (p1n := p1n) (p1w := p1w) (p1l := p1l) (p2 := p3) (p3 := 0) (p1_2a := p1_2a) (p1_2k := p1_2k) (p1_2n := p1_2n) (p1_2w := p1_2w) (sz := _) (o := o_1) (hrun := hc_1)) (cwV 3 hts (gi_V qw536 qw537 qw538 qw442 (gi_z qw535)) rfl rfl rfl (by decide +kernel) ⟨Nat.le_of_ble_eq_true rfl, Nat.le_of_ble_eq_true rfl⟩) ⟨PRE.blind, va_recv hKc hPc (ci := 7) (q0 := 0) rfl rfl, PRE.of hE hS hFc hPc hKc hDc⟩ rfl rfl hl.1 rfl (lv_room (Nat.le_of_ble_eq_true rfl)) dX5_isRightAlone_21 ⟨(Nat.le_of_ble_eq_true rfl), (Nat.le_of_ble_eq_true rfl)⟩) hS (fun q _ h => hFc q h) hFc (fun r2 u t H locs ht hvm hw hB hz1 hk1 hS => ?_)
    obtain ⟨hP, hD, hK⟩ := JOIN (wr := ([] : va_W)) hP hD hK [0, 1, 2, 3, 4, 5, 6, 7, 8, 9, 10, 11, 12, 13, 14, 15, 16, 17, 18, 19, 20, 21, 22, 23, 24, 25, 26, 27, 28, 29, 30, 31, 32, 33] [] [] rfl rfl (by decide) (by decide) rfl hk1 hFc ht hvm hB
    have hP : va_P (dC, dI) cls ((oX5 (p0a 0) p0a p0k p0w p0l) ++ (oX1 (p1a 0) p1a p1k p1n p1w p1l) ++ (oX9 (p1a 3) p1_2a p1_2k p1_2n p1_2w)) H := hP.sub [0, 1, 2, 3, 4, 5, 6, 7, 8, 9, 10, 11, 12, 13, 14, 15, 16, 17, 18, 19, 20, 21, 22, 23, 24, 25, 26, 27, 28, 29, 30, 31, 32, 33] rfl
    have hD : va_D A ((oX5 (p0a 0) p0a p0k p0w p0l) ++ (oX1 (p1a 0) p1a p1k p1n p1w p1l) ++ (oX9 (p1a 3) p1_2a p1_2k p1_2n p1_2w)) := hD.sub [0, 1, 2, 3, 4, 5, 6, 7, 8, 9, 10, 11, 12, 13, 14, 15, 16, 17, 18, 19, 20, 21, 22, 23, 24, 25, 26, 27, 28, 29, 30, 31, 32, 33] (by decide) rfl
    have hK : va_K (dC, dI) cls ((tX5 p0k) ++ (tX1 p1k) ++ (tX9 p1_2k)) s := hK.sub [0, 1, 2, 3, 4, 5, 6, 7, 8, 9, 10, 11, 12, 13, 14, 15, 16, 17, 18, 19, 20, 21, 22, 23, 24, 25, 26, 27, 28, 29, 30] rfl
    obtain rfl : o_1 = r2 := hw.symm
    obtain ⟨hz9, hrun⟩ := chk9 hrun
    have ho9 : o_1 = o := Option.some.inj hrun
    have hP9 : va_P (dC, dI) cls ((oX5 (p0a 0) p0a p0k p0w p0l) ++ (oX1 (p1a 0) p1a p1k p1n p1w p1l) ++ (oX9 (p1a 3) p1_2a p1_2k p1_2n p1_2w)) H := by first | exact hP | (rw [← ho9]; exact hP)
    have hD9 : va_D A ((oX5 (p0a 0) p0a p0k p0w p0l) ++ (oX1 (p1a 0) p1a p1k p1n p1w p1l) ++ (oX9 (p1a 3) p1_2a p1_2k p1_2n p1_2w)) := by first | exact hD | (rw [← ho9]; exact hD)
    subst hQ
    exact W.zret (v := o_1) hx hb hr (bz9 hz9) (fun t ht hW => ⟨⟨o_1, (), rfl, (by rw [← ho9]), ⟨by rw [ht]; exact hP9, va_K.moved hW.alike hK, hD9⟩⟩, hS.F ht⟩) hS.2.2 dX5_isRightAlone_24
  rcases br9 hrun with ⟨hc3, hrun⟩ | ⟨hc3, hrun⟩
  · refine lv_icmp_eq (tgt := 17) hx hb dX5_isRightAlone_2 (by decide) (fun _ => ?_) (fun c => absurd hc3 c)
    exact J17 _ _ _ hrun hP hD hK hS (lv_sub hl [0, 1, 3] rfl)
  · refine lv_icmp_eq (tgt := 17) hx hb dX5_isRightAlone_2 (by decide) (fun c => absurd c hc3) (fun _ => ?_)
    refine lv_iload_n hx hb dX5_isRightAlone_5 rfl (lv_at hl 2 rfl) ?_
    refine lv_bipush (v := 7) hx hb dX5_isRightAlone_6 (by decide) ?_
    rcases br9 hrun with ⟨hc4, hrun⟩ | ⟨hc4, hrun⟩
    · refine lv_icmp_eq (tgt := 17) hx hb dX5_isRightAlone_8 (by decide) (fun _ => ?_) (fun c => absurd hc4 c)
      exact J17 _ _ _ hrun hP hD hK hS (lv_sub hl [0, 1, 3] rfl)
    · refine lv_icmp_eq (tgt := 17) hx hb dX5_isRightAlone_8 (by decide) (fun c => absurd c hc4) (fun _ => ?_)
      refine lv_iload_n hx hb dX5_isRightAlone_11 rfl (lv_at hl 2 rfl) ?_
      refine lv_bipush (v := 8) hx hb dX5_isRightAlone_12 (by decide) ?_
      rcases br9 hrun with ⟨hc5, hrun⟩ | ⟨hc5, hrun⟩
      · refine lv_icmp_ne (tgt := 25) hx hb dX5_isRightAlone_14 (by decide) (fun c => absurd hc5 c) (fun _ => ?_)
        exact J17 _ _ _ hrun hP hD hK hS (lv_sub hl [0, 1, 3] rfl)
      · refine lv_icmp_ne (tgt := 25) hx hb dX5_isRightAlone_14 (by decide) (fun _ => ?_) (fun c => absurd c hc5)
        refine lv_iload_n hx hb dX5_isRightAlone_25 rfl (lv_at hl 2 rfl) ?_
        refine lv_iconst (v := 3) hx hb dX5_isRightAlone_26 (by decide) ?_
        have J45 : ∀ (y0_45 : Int32) (H : Heap) (locs : List Loc) (ls : Array Slot), (fX5_isRightAlone_J45 y0_45) = some o → va_P (dC, dI) cls ((oX5 (p0a 0) p0a p0k p0w p0l) ++ (oX1 (p1a 0) p1a p1k p1n p1w p1l) ++ (oX9 (p1a 3) p1_2a p1_2k p1_2n p1_2w)) H → va_D A ((oX5 (p0a 0) p0a p0k p0w p0l) ++ (oX1 (p1a 0) p1a p1k p1n p1w p1l) ++ (oX9 (p1a 3) p1_2a p1_2k p1_2n p1_2w)) → va_K (dC, dI) cls ((tX5 p0k) ++ (tX1 p1k) ++ (tX9 p1_2k)) s → va_S A s.heap H locs → lv_has ls 5 [] → W p l e ({ frames := 2, cells := 0, slots := 0, locals := 45 } : Room) s m ([.ref (p0a 0), .ref (p1a 0), .int p2, .int p3, .int p4] : List Value).toArray below meth c H locs 0 0 Q (F0 m 45 ls [.int y0_45]) := by
          intro y0_45 H locs ls hrun hP hD hK hS hl 
          unfold fX5_isRightAlone_J45 at hrun
          obtain ⟨hz9, hrun⟩ := chk9 hrun
          have ho9 : y0_45 = o := Option.some.inj hrun
          have hP9 : va_P (dC, dI) cls ((oX5 (p0a 0) p0a p0k p0w p0l) ++ (oX1 (p1a 0) p1a p1k p1n p1w p1l) ++ (oX9 (p1a 3) p1_2a p1_2k p1_2n p1_2w)) H := by first | exact hP | (rw [← ho9]; exact hP)
          have hD9 : va_D A ((oX5 (p0a 0) p0a p0k p0w p0l) ++ (oX1 (p1a 0) p1a p1k p1n p1w p1l) ++ (oX9 (p1a 3) p1_2a p1_2k p1_2n p1_2w)) := by first | exact hD | (rw [← ho9]; exact hD)
          subst hQ
          exact W.zret (v := y0_45) hx hb hr (bz9 hz9) (fun t ht hW => ⟨⟨y0_45, (), rfl, (by rw [← ho9]), ⟨by rw [ht]; exact hP9, va_K.moved hW.alike hK, hD9⟩⟩, hS.F ht⟩) hS.2.2 dX5_isRightAlone_45
        have J44 : ∀ (H : Heap) (locs : List Loc) (ls : Array Slot), (fX5_isRightAlone_J44) = some o → va_P (dC, dI) cls ((oX5 (p0a 0) p0a p0k p0w p0l) ++ (oX1 (p1a 0) p1a p1k p1n p1w p1l) ++ (oX9 (p1a 3) p1_2a p1_2k p1_2n p1_2w)) H → va_D A ((oX5 (p0a 0) p0a p0k p0w p0l) ++ (oX1 (p1a 0) p1a p1k p1n p1w p1l) ++ (oX9 (p1a 3) p1_2a p1_2k p1_2n p1_2w)) → va_K (dC, dI) cls ((tX5 p0k) ++ (tX1 p1k) ++ (tX9 p1_2k)) s → va_S A s.heap H locs → lv_has ls 5 [] → W p l e ({ frames := 2, cells := 0, slots := 0, locals := 45 } : Room) s m ([.ref (p0a 0), .ref (p1a 0), .int p2, .int p3, .int p4] : List Value).toArray below meth c H locs 0 0 Q (F0 m 44 ls []) := by
          intro  H locs ls hrun hP hD hK hS hl 
          unfold fX5_isRightAlone_J44 at hrun
          refine lv_iconst (v := 0) hx hb dX5_isRightAlone_44 (by decide) ?_
          exact J45 0 _ _ _ hrun hP hD hK hS (lv_sub hl [] rfl)
        rcases br9 hrun with ⟨hc6, hrun⟩ | ⟨hc6, hrun⟩
        · refine lv_icmp_ne (tgt := 44) hx hb dX5_isRightAlone_27 (by decide) (fun c => absurd hc6 c) (fun _ => ?_)
          refine lv_aload_n hx hb dX5_isRightAlone_30 rfl (lv_at hl 0 rfl) ?_
          refine lv_aload_n hx hb dX5_isRightAlone_31 rfl (lv_at hl 1 rfl) ?_
          refine lv_iload_n hx hb dX5_isRightAlone_32 rfl (lv_at hl 3 rfl) ?_
          refine lv_iconst (v := 1) hx hb dX5_isRightAlone_33 (by decide) ?_
          obtain ⟨o_7, hc_7, hrun⟩ := bnd9 hrun
          have hPc := hP.sub (ws' := ((oX5 (p0a 0) p0a p0k p0w p0l) ++ (oX1 (p1a 0) p1a p1k p1n p1w p1l) ++ (oX9 (p1a 3) p1_2a p1_2k p1_2n p1_2w))) [0, 1, 2, 3, 4, 5, 6, 7, 8, 9, 10, 11, 12, 13, 14, 15, 16, 17, 18, 19, 20, 21, 22, 23, 24, 25, 26, 27, 28, 29, 30, 31, 32, 33] rfl
          have hDc := hD.sub (ws' := ((oX5 (p0a 0) p0a p0k p0w p0l) ++ (oX1 (p1a 0) p1a p1k p1n p1w p1l) ++ (oX9 (p1a 3) p1_2a p1_2k p1_2n p1_2w))) [0, 1, 2, 3, 4, 5, 6, 7, 8, 9, 10, 11, 12, 13, 14, 15, 16, 17, 18, 19, 20, 21, 22, 23, 24, 25, 26, 27, 28, 29, 30, 31, 32, 33] (by decide) rfl
          have hKc := hK.sub (tys' := ((tX5 p0k) ++ (tX1 p1k) ++ (tX9 p1_2k))) [0, 1, 2, 3, 4, 5, 6, 7, 8, 9, 10, 11, 12, 13, 14, 15, 16, 17, 18, 19, 20, 21, 22, 23, 24, 25, 26, 27, 28, 29, 30] rfl
          have hFc := va_free (wc := ((oX5 (p0a 0) p0a p0k p0w p0l) ++ (oX1 (p1a 0) p1a p1k p1n p1w p1l) ++ (oX9 (p1a 3) p1_2a p1_2k p1_2n p1_2w))) hD hS hA [0, 1, 2, 3, 4, 5, 6, 7, 8, 9, 10, 11, 12, 13, 14, 15, 16, 17, 18, 19, 20, 21, 22, 23, 24, 25, 26, 27, 28, 29, 30, 31, 32, 33] rfl
          refine va_calli (va_runV (As := [.ref (p1a 0), .int p3, .int 1]) (rest := []) ⟨hx, hb, hml, hown, hts⟩ (kX5_isNumber_ l dC dI (p0a := (st0 (p0a 0) p0a)) (p0k := p0k) (p0w := p0w) (p0l := p0l) (p1a := (st0 (p1a 0) p1a)) (p1k := p1k) (p1n := p1n) (p1w := p1w) (p1l := p1l) (p2 := p3) (p3 := 1) (p1_2a := p1_2a) (p1_2k := p1_2k) (p1_2n := p1_2n) (p1_2w := p1_2w) (sz := _) (o := o_7) (hrun := hc_7)) (cwV 3 hts (gi_V qw536 qw537 qw538 qw442 (gi_z qw535)) rfl rfl rfl (by decide +kernel) ⟨Nat.le_of_ble_eq_true rfl, Nat.le_of_ble_eq_true rfl⟩) ⟨PRE.blind, va_recv hKc hPc (ci := 7) (q0 := 0) rfl rfl, PRE.of hE hS hFc hPc hKc hDc⟩ rfl rfl hl.1 rfl (lv_room (Nat.le_of_ble_eq_true rfl)) dX5_isRightAlone_34 ⟨(Nat.le_of_ble_eq_true rfl), (Nat.le_of_ble_eq_true rfl)⟩) hS (fun q _ h => hFc q h) hFc (fun r8 u t H locs ht hvm hw hB hz1 hk1 hS => ?_)
          obtain ⟨hP, hD, hK⟩ := JOIN (wr := ([] : va_W)) hP hD hK [0, 1, 2, 3, 4, 5, 6, 7, 8, 9, 10, 11, 12, 13, 14, 15, 16, 17, 18, 19, 20, 21, 22, 23, 24, 25, 26, 27, 28, 29, 30, 31, 32, 33] [] [] rfl rfl (by decide) (by decide) rfl hk1 hFc ht hvm hB
          have hP : va_P (dC, dI) cls ((oX5 (p0a 0) p0a p0k p0w p0l) ++ (oX1 (p1a 0) p1a p1k p1n p1w p1l) ++ (oX9 (p1a 3) p1_2a p1_2k p1_2n p1_2w)) H := hP.sub [0, 1, 2, 3, 4, 5, 6, 7, 8, 9, 10, 11, 12, 13, 14, 15, 16, 17, 18, 19, 20, 21, 22, 23, 24, 25, 26, 27, 28, 29, 30, 31, 32, 33] rfl
          have hD : va_D A ((oX5 (p0a 0) p0a p0k p0w p0l) ++ (oX1 (p1a 0) p1a p1k p1n p1w p1l) ++ (oX9 (p1a 3) p1_2a p1_2k p1_2n p1_2w)) := hD.sub [0, 1, 2, 3, 4, 5, 6, 7, 8, 9, 10, 11, 12, 13, 14, 15, 16, 17, 18, 19, 20, 21, 22, 23, 24, 25, 26, 27, 28, 29, 30, 31, 32, 33] (by decide) rfl
          have hK : va_K (dC, dI) cls ((tX5 p0k) ++ (tX1 p1k) ++ (tX9 p1_2k)) s := hK.sub [0, 1, 2, 3, 4, 5, 6, 7, 8, 9, 10, 11, 12, 13, 14, 15, 16, 17, 18, 19, 20, 21, 22, 23, 24, 25, 26, 27, 28, 29, 30] rfl
          obtain rfl : o_7 = r8 := hw.symm
          rcases br9 hrun with ⟨hc9, hrun⟩ | ⟨hc9, hrun⟩
          · refine lv_if_eq (tgt := 44) hx hb dX5_isRightAlone_37 (by decide) (fun _ => ?_) (fun c => absurd hc9 c)
            exact J44 _ _ _ hrun hP hD hK hS (lv_sub hl [] rfl)
          · refine lv_if_eq (tgt := 44) hx hb dX5_isRightAlone_37 (by decide) (fun c => absurd c hc9) (fun _ => ?_)
            refine lv_iconst (v := 1) hx hb dX5_isRightAlone_40 (by decide) ?_
            refine lv_goto (tgt := 45) hx hb dX5_isRightAlone_41 (by decide) ?_
            exact J45 1 _ _ _ hrun hP hD hK hS (lv_sub hl [] rfl)
        · refine lv_icmp_ne (tgt := 44) hx hb dX5_isRightAlone_27 (by decide) (fun _ => ?_) (fun c => absurd c hc6)
          exact J44 _ _ _ hrun hP hD hK hS (lv_sub hl [] rfl)
def fX5_standInOf_L4 (p0w : ST) : Nat → Int32 → Int32 → Option Int32
  | 0 => fun _ _ => none
  | n_4 + 1 => fun v2_4 v3_4 => (if 250 ≤ v3_4 then some v2_4 else (if ixb v2_4 250 = true then (if (p0w 6 (nn v2_4)) < 0 then some v2_4 else (if ixb v2_4 250 = true then ((fX5_standInOf_L4 p0w n_4) (p0w 6 (nn v2_4)) (v3_4 + 1)) else none)) else none))
def fX5_standInOf (p0w : ST) (p1 : Int32) : Option Int32 := ((fX5_standInOf_L4 p0w NF p1 0).bind fun (o4 : Int32) => some o4)
set_option maxHeartbeats 16000000 in
set_option maxRecDepth 100000 in
theorem kX5_standInOf {zs : Nat × Nat} (l : Launch) (dC : Nat → ClassId) (dI : Nat → Nat → Nat) (p0a : Nat → Nat) (p0k : Nat → ClassId) (p0w : ST) (p0l : SL) (p1 : Int32) (sz : Nat) (o : Int32) (hrun : fX5_standInOf p0w p1 = some o) : Met l yX5_standInOf (wz yX5_standInOf cX5_standInOf 4 (Option.some Jvm.ClassFile.FieldType.int)) ({ frames := 0, cells := 0, slots := 0, locals := 0 } : Room) (va_Pc [.ref (p0a 0), .int p1] (PRE zs dC dI (oX5 (p0a 0) p0a p0k p0w p0l) (tX5 p0k) sz)) (va_Qi (fun (r : Int32) (_ : Unit) => r = o) (fun _ t => POST dC dI (oX5 (p0a 0) p0a p0k p0w p0l) (tX5 p0k) (va_A (oX5 (p0a 0) p0a p0k p0w p0l) sz) t) (va_A (oX5 (p0a 0) p0a p0k p0w p0l) sz)) 0 0 (va_A (oX5 (p0a 0) p0a p0k p0w p0l) sz) := by
  refine Met.ofW (cc := cX5_standInOf) (maxL := 4) (ret := (Option.some Jvm.ClassFile.FieldType.int)) (by decide) rfl ?_
  intro p e s m args below meth c s₁ B hml hv
  obtain ⟨rfl, hsz, hP, hK, hD0, hE⟩ := hv
  have hx := B.exec
  have hb := B.bytes
  have hr := B.returns
  have hts0 := atoms_spec (ws := wz yX5_standInOf cX5_standInOf 4 (Option.some Jvm.ClassFile.FieldType.int)) B.pre
  have hts : ∀ w ∈ gw, w.before _ s = true := fun w h => hts0 w (List.mem_cons_of_mem _ h)
  have hown : s.vm.findClass RX5 = some m.cls := findClass_of_methodNamed B.named
  have hlocks := B.notSynchronized
  subst hsz
  have hD := hD0.self (sz := s.heap.size)
  refine gQ9 ?_
  intro Q hQ
  generalize hAe : va_A (oX5 (p0a 0) p0a p0k p0w p0l) s.heap.size = A at hD hE hQ
  have hA : ∀ q : Nat, s.heap.size ≤ q → A q := fun q h => by rw [← hAe]; exact Or.inr h
  have hS : va_S A s.heap s.heap [] := va_S.rf
  have hP : va_P (dC, dI) cls (oX5 (p0a 0) p0a p0k p0w p0l) s.heap := hP
  have hl := lv_entry ([.ref (p0a 0), .int p1]) (n := 4) (Nat.le_of_ble_eq_true rfl)
  rw [lg_entry_eq]
  generalize (lg_sl ([.ref (p0a 0), .int p1]) ++ List.replicate (4 - (lg_sl ([.ref (p0a 0), .int p1])).length) Slot.unset).toArray = ls at hl ⊢
  have hl : lv_has ls 4 [(0, .ref (p0a 0)), (1, .int p1)] := hl
  obtain ⟨H, hHe⟩ : ∃ H, H = s.heap := ⟨_, rfl⟩
  obtain ⟨locs, hle⟩ : ∃ locs : List Loc, locs = [] := ⟨_, rfl⟩
  rw [← hHe] at hP
  have hS : va_S A s.heap H locs := by rw [hHe, hle]; exact hS
  show W p l e ({ frames := 0, cells := 0, slots := 0, locals := 0 } : Room) s m ([.ref (p0a 0), .int p1] : List Value).toArray below meth c s.heap [] 0 0 Q (F0 m 0 ls [])
  rw [← hle]
  refine wH9 hHe ?_
  unfold fX5_standInOf at hrun
  refine lv_iload_n hx hb dX5_standInOf_0 rfl (lv_at hl 1 rfl) ?_
  refine lv_istore_n (lv' := [(2, .int p1), (0, .ref (p0a 0)), (1, .int p1)]) hx hb dX5_standInOf_1 rfl hl (by decide) rfl (fun ls hl => ?_)
  refine lv_iconst (v := 0) hx hb dX5_standInOf_2 (by decide) ?_
  refine lv_istore_n (lv' := [(3, .int 0), (2, .int p1), (0, .ref (p0a 0)), (1, .int p1)]) hx hb dX5_standInOf_3 rfl hl (by decide) rfl (fun ls hl => ?_)
  have L4 : ∀ (n_4 : Nat) (v2_4 : Int32) (v3_4 : Int32) (o4 : Int32) (H : Heap) (locs : List Loc) (ls : Array Slot), (fX5_standInOf_L4 p0w n_4) v2_4 v3_4 = some o4 → va_P (dC, dI) cls (oX5 (p0a 0) p0a p0k p0w p0l) H → va_D A (oX5 (p0a 0) p0a p0k p0w p0l) → va_K (dC, dI) cls (tX5 p0k) s → va_S A s.heap H locs → lv_has ls 4 [(0, .ref (p0a 0)), (2, .int v2_4), (3, .int v3_4)] → (∀ (H : Heap) (locs : List Loc) (ls : Array Slot), va_P (dC, dI) cls (oX5 (p0a 0) p0a p0k p0w p0l) H → va_D A (oX5 (p0a 0) p0a p0k p0w p0l) → va_K (dC, dI) cls (tX5 p0k) s → va_S A s.heap H locs → lv_has ls 4 [(2, .int o4)] → W p l e ({ frames := 0, cells := 0, slots := 0, locals := 0 } : Room) s m ([.ref (p0a 0), .int p1] : List Value).toArray below meth c H locs 0 0 Q (F0 m 33 ls [])) → W p l e ({ frames := 0, cells := 0, slots := 0, locals := 0 } : Room) s m ([.ref (p0a 0), .int p1] : List Value).toArray below meth c H locs 0 0 Q (F0 m 4 ls []) := by
    intro n_4
    induction n_4 with
    | zero => intro v2_4 v3_4 o4 H locs ls hrun; exact (no9 rfl hrun).elim
    | succ n_4 IH4 =>
      intro v2_4 v3_4 o4 H locs ls hrun hP hD hK hS hl hk4
      unfold fX5_standInOf_L4 at hrun
      refine lv_iload_n hx hb dX5_standInOf_4 rfl (lv_at hl 2 rfl) ?_
      refine lv_sipush (v := 250) hx hb dX5_standInOf_5 (by decide) ?_
      rcases br9 hrun with ⟨hc1, hrun⟩ | ⟨hc1, hrun⟩
      · refine lv_icmp_ge (tgt := 33) hx hb dX5_standInOf_8 (by decide) (fun _ => ?_) (fun c => absurd hc1 c)
        obtain rfl := (Option.some.inj hrun)
        exact hk4 _ _ _ hP hD hK hS (lv_sub hl [1] rfl)
      · refine lv_icmp_ge (tgt := 33) hx hb dX5_standInOf_8 (by decide) (fun c => absurd c hc1) (fun _ => ?_)
        refine lv_aload_n hx hb dX5_standInOf_11 rfl (lv_at hl 0 rfl) ?_
        refine va_get (D := (dC, dI)) (ci := 7) (v := .ref (p0a 6)) (C := RX5) (T := TX5) (N := 12) hx hb hts i_X5 hown hK hP 0 rfl rfl 5 (by decide) (hts _ qw539) (fun _ h9 => h9) rfl dX5_standInOf_12 ?_
        refine lv_iload_n hx hb dX5_standInOf_15 rfl (lv_at hl 1 rfl) ?_
        obtain ⟨hq2, hrun⟩ := chk9 hrun
        refine va_iald hx hb hK hP 5 4 rfl rfl (ixb_in hq2) dX5_standInOf_16 ?_
        rcases br9 hrun with ⟨hc3, hrun⟩ | ⟨hc3, hrun⟩
        · refine lv_if_lt (tgt := 33) hx hb dX5_standInOf_17 (by decide) (fun _ => ?_) (fun c => absurd hc3 c)
          obtain rfl := (Option.some.inj hrun)
          exact hk4 _ _ _ hP hD hK hS (lv_sub hl [1] rfl)
        · refine lv_if_lt (tgt := 33) hx hb dX5_standInOf_17 (by decide) (fun c => absurd c hc3) (fun _ => ?_)
          refine lv_aload_n hx hb dX5_standInOf_20 rfl (lv_at hl 0 rfl) ?_
          refine va_get (D := (dC, dI)) (ci := 7) (v := .ref (p0a 6)) (C := RX5) (T := TX5) (N := 12) hx hb hts i_X5 hown hK hP 0 rfl rfl 5 (by decide) (hts _ qw539) (fun _ h9 => h9) rfl dX5_standInOf_21 ?_
          refine lv_iload_n hx hb dX5_standInOf_24 rfl (lv_at hl 1 rfl) ?_
          obtain ⟨hq4, hrun⟩ := chk9 hrun
          refine va_iald hx hb hK hP 5 4 rfl rfl (ixb_in hq4) dX5_standInOf_25 ?_
          refine lv_istore_n (lv' := [(2, .int (p0w 6 (nn v2_4))), (0, .ref (p0a 0)), (3, .int v3_4)]) hx hb dX5_standInOf_26 rfl hl (by decide) rfl (fun ls hl => ?_)
          refine lv_iinc (v := (v3_4 + 1)) (lv' := [(3, .int (v3_4 + 1)), (2, .int (p0w 6 (nn v2_4))), (0, .ref (p0a 0))]) hx hb dX5_standInOf_27 hl (k := 2) rfl rfl (by decide) rfl (fun ls hl => ?_)
          refine lv_goto (tgt := 4) hx hb dX5_standInOf_30 (by decide) ?_
          exact IH4 (p0w 6 (nn v2_4)) (v3_4 + 1) o4 _ _ _ hrun hP hD hK hS (lv_sub hl [2, 1, 0] rfl) hk4
  obtain ⟨o4, hc4, hrun⟩ := bnd9 hrun
  refine L4 NF p1 0 o4 _ _ _ hc4 hP hD hK hS (lv_sub hl [2, 1, 0] rfl) ?_
  intro H locs ls hP hD hK hS hl
  have hl := hl
  refine lv_iload_n hx hb dX5_standInOf_33 rfl (lv_at hl 0 rfl) ?_
  have ho9 : o4 = o := Option.some.inj hrun
  have hP9 : va_P (dC, dI) cls (oX5 (p0a 0) p0a p0k p0w p0l) H := by first | exact hP | (rw [← ho9]; exact hP)
  have hD9 : va_D A (oX5 (p0a 0) p0a p0k p0w p0l) := by first | exact hD | (rw [← ho9]; exact hD)
  subst hQ
  exact W.iret (v := o4) hx hb hr (fun t ht hW => ⟨⟨o4, (), rfl, (by rw [← ho9]), ⟨by rw [ht]; exact hP9, va_K.moved hW.alike hK, hD9⟩⟩, hS.F ht⟩) hS.2.2 dX5_standInOf_34
def fX5_onlyTake_J63 (kk6 : Int32 → Int32 → Option (Sum Int32 Int32)) (v5_6 : Int32) (v4_63 : Int32) : Option (Sum Int32 Int32) := (kk6 v4_63 (v5_6 + 1))
def fX5_onlyTake_L6 (p0w : ST) (p1n : Nat → Nat) (p1w : ST) (p2 : Int32) (p3 : Int32) : Nat → Int32 → Int32 → Option (Sum Int32 Int32)
  | 0 => fun _ _ => none
  | n_6 + 1 => fun v4_6 v5_6 => ((fX1_waysTo p1w p2).bind fun (o_1 : Int32) => (if o_1 ≤ v5_6 then some (Sum.inr v4_6) else ((fX1_wayFrom p1w p2 v5_6).bind fun (o_4 : Int32) => ((fX1_take p1n p1w p3 o_4).bind fun (o_6 : Int32) => ((fX5_standInOf p0w o_6).bind fun (o_8 : Int32) => (if ixb p3 (p1n 19) = true then (if o_8 = (p1w 19 (nn p3)) then (fX5_onlyTake_J63 (fX5_onlyTake_L6 p0w p1n p1w p2 p3 n_6) v5_6 v4_6) else (if o_8 = v4_6 then (fX5_onlyTake_J63 (fX5_onlyTake_L6 p0w p1n p1w p2 p3 n_6) v5_6 v4_6) else (if v4_6 < 0 then (fX5_onlyTake_J63 (fX5_onlyTake_L6 p0w p1n p1w p2 p3 n_6) v5_6 o_8) else some (Sum.inl (-1))))) else none))))))
def fX5_onlyTake (p0w : ST) (p1n : Nat → Nat) (p1w : ST) (p2 : Int32) (p3 : Int32) : Option Int32 := ((fX5_onlyTake_L6 p0w p1n p1w p2 p3 NF (-1) 0).bind fun (o6 : (Sum Int32 Int32)) => Sum.elim (fun r => some r) (fun (t6 : Int32) => some t6) o6)
set_option maxHeartbeats 16000000 in
set_option maxRecDepth 100000 in
theorem kX5_onlyTake {zs : Nat × Nat} (l : Launch) (dC : Nat → ClassId) (dI : Nat → Nat → Nat) (p0a : Nat → Nat) (p0k : Nat → ClassId) (p0w : ST) (p0l : SL) (p1a : Nat → Nat) (p1k : Nat → ClassId) (p1n : Nat → Nat) (p1w : ST) (p1l : SL) (p2 : Int32) (p3 : Int32) (sz : Nat) (o : Int32) (hrun : fX5_onlyTake p0w p1n p1w p2 p3 = some o) : Met l yX5_onlyTake (wz yX5_onlyTake cX5_onlyTake 7 (Option.some Jvm.ClassFile.FieldType.int)) ({ frames := 1, cells := 0, slots := 0, locals := 23 } : Room) (va_Pc [.ref (p0a 0), .ref (p1a 0), .int p2, .int p3] (PRE zs dC dI ((oX5 (p0a 0) p0a p0k p0w p0l) ++ (oX1 (p1a 0) p1a p1k p1n p1w p1l)) ((tX5 p0k) ++ (tX1 p1k)) sz)) (va_Qi (fun (r : Int32) (_ : Unit) => r = o) (fun _ t => POST dC dI ((oX5 (p0a 0) p0a p0k p0w p0l) ++ (oX1 (p1a 0) p1a p1k p1n p1w p1l)) ((tX5 p0k) ++ (tX1 p1k)) (va_A ((oX5 (p0a 0) p0a p0k p0w p0l) ++ (oX1 (p1a 0) p1a p1k p1n p1w p1l)) sz) t) (va_A ((oX5 (p0a 0) p0a p0k p0w p0l) ++ (oX1 (p1a 0) p1a p1k p1n p1w p1l)) sz)) 0 0 (va_A ((oX5 (p0a 0) p0a p0k p0w p0l) ++ (oX1 (p1a 0) p1a p1k p1n p1w p1l)) sz) := by
  refine Met.ofW (cc := cX5_onlyTake) (maxL := 7) (ret := (Option.some Jvm.ClassFile.FieldType.int)) (by decide) rfl ?_
  intro p e s m args below meth c s₁ B hml hv
  obtain ⟨rfl, hsz, hP, hK, hD0, hE⟩ := hv
  have hx := B.exec
  have hb := B.bytes
  have hr := B.returns
  have hts0 := atoms_spec (ws := wz yX5_onlyTake cX5_onlyTake 7 (Option.some Jvm.ClassFile.FieldType.int)) B.pre
  have hts : ∀ w ∈ gw, w.before _ s = true := fun w h => hts0 w (List.mem_cons_of_mem _ h)
  have hown : s.vm.findClass RX5 = some m.cls := findClass_of_methodNamed B.named
  have hlocks := B.notSynchronized
  subst hsz
  have hD := hD0.self (sz := s.heap.size)
  refine gQ9 ?_
  intro Q hQ
  generalize hAe : va_A ((oX5 (p0a 0) p0a p0k p0w p0l) ++ (oX1 (p1a 0) p1a p1k p1n p1w p1l)) s.heap.size = A at hD hE hQ
  have hA : ∀ q : Nat, s.heap.size ≤ q → A q := fun q h => by rw [← hAe]; exact Or.inr h
  have hS : va_S A s.heap s.heap [] := va_S.rf
  have hP : va_P (dC, dI) cls ((oX5 (p0a 0) p0a p0k p0w p0l) ++ (oX1 (p1a 0) p1a p1k p1n p1w p1l)) s.heap := hP
  have hl := lv_entry ([.ref (p0a 0), .ref (p1a 0), .int p2, .int p3]) (n := 7) (Nat.le_of_ble_eq_true rfl)
  rw [lg_entry_eq]
  generalize (lg_sl ([.ref (p0a 0), .ref (p1a 0), .int p2, .int p3]) ++ List.replicate (7 - (lg_sl ([.ref (p0a 0), .ref (p1a 0), .int p2, .int p3])).length) Slot.unset).toArray = ls at hl ⊢
  have hl : lv_has ls 7 [(0, .ref (p0a 0)), (1, .ref (p1a 0)), (2, .int p2), (3, .int p3)] := hl
  obtain ⟨H, hHe⟩ : ∃ H, H = s.heap := ⟨_, rfl⟩
  obtain ⟨locs, hle⟩ : ∃ locs : List Loc, locs = [] := ⟨_, rfl⟩
  rw [← hHe] at hP
  have hS : va_S A s.heap H locs := by rw [hHe, hle]; exact hS
  show W p l e ({ frames := 1, cells := 0, slots := 0, locals := 23 } : Room) s m ([.ref (p0a 0), .ref (p1a 0), .int p2, .int p3] : List Value).toArray below meth c s.heap [] 0 0 Q (F0 m 0 ls [])
  rw [← hle]
  refine wH9 hHe ?_
  unfold fX5_onlyTake at hrun
  refine lv_iconst (v := (-1)) hx hb dX5_onlyTake_0 (by decide) ?_
  refine lv_istore (lv' := [(4, .int (-1)), (0, .ref (p0a 0)), (1, .ref (p1a 0)), (2, .int p2), (3, .int p3)]) hx hb dX5_onlyTake_1 hl (by decide) rfl (fun ls hl => ?_)
  refine lv_iconst (v := 0) hx hb dX5_onlyTake_3 (by decide) ?_
  refine lv_istore (lv' := [(5, .int 0), (4, .int (-1)), (0, .ref (p0a 0)), (1, .ref (p1a 0)), (2, .int p2), (3, .int p3)]) hx hb dX5_onlyTake_4 hl (by decide) rfl (fun ls hl => ?_)
  have L6 : ∀ (n_6 : Nat) (v4_6 : Int32) (v5_6 : Int32) (o6 : (Sum Int32 Int32)) (H : Heap) (locs : List Loc) (ls : Array Slot), (fX5_onlyTake_L6 p0w p1n p1w p2 p3 n_6) v4_6 v5_6 = some o6 → va_P (dC, dI) cls ((oX5 (p0a 0) p0a p0k p0w p0l) ++ (oX1 (p1a 0) p1a p1k p1n p1w p1l)) H → va_D A ((oX5 (p0a 0) p0a p0k p0w p0l) ++ (oX1 (p1a 0) p1a p1k p1n p1w p1l)) → va_K (dC, dI) cls ((tX5 p0k) ++ (tX1 p1k)) s → va_S A s.heap H locs → lv_has ls 7 [(0, .ref (p0a 0)), (1, .ref (p1a 0)), (2, .int p2), (3, .int p3), (4, .int v4_6), (5, .int v5_6)] → (∀ r, o6 = Sum.inl r → r = o) → (∀ (t6 : Int32), o6 = Sum.inr t6 → ∀ (H : Heap) (locs : List Loc) (ls : Array Slot), va_P (dC, dI) cls ((oX5 (p0a 0) p0a p0k p0w p0l) ++ (oX1 (p1a 0) p1a p1k p1n p1w p1l)) H → va_D A ((oX5 (p0a 0) p0a p0k p0w p0l) ++ (oX1 (p1a 0) p1a p1k p1n p1w p1l)) → va_K (dC, dI) cls ((tX5 p0k) ++ (tX1 p1k)) s → va_S A s.heap H locs → lv_has ls 7 [(4, .int t6)] → W p l e ({ frames := 1, cells := 0, slots := 0, locals := 23 } : Room) s m ([.ref (p0a 0), .ref (p1a 0), .int p2, .int p3] : List Value).toArray below meth c H locs 0 0 Q (F0 m 69 ls [])) → W p l e ({ frames := 1, cells := 0, slots := 0, locals := 23 } : Room) s m ([.ref (p0a 0), .ref (p1a 0), .int p2, .int p3] : List Value).toArray below meth c H locs 0 0 Q (F0 m 6 ls []) := by
    intro n_6
    induction n_6 with
    | zero => intro v4_6 v5_6 o6 H locs ls hrun; exact (no9 rfl hrun).elim
    | succ n_6 IH6 =>
      intro v4_6 v5_6 o6 H locs ls hrun hP hD hK hS hl hr6 hk6
      unfold fX5_onlyTake_L6 at hrun
      refine lv_iload hx hb dX5_onlyTake_6 (lv_at hl 5 rfl) ?_
      refine lv_aload_n hx hb dX5_onlyTake_8 rfl (lv_at hl 1 rfl) ?_
      refine lv_iload_n hx hb dX5_onlyTake_9 rfl (lv_at hl 2 rfl) ?_
      obtain ⟨o_1, hc_1, hrun⟩ := bnd9 hrun
      have hPc := hP.sub (ws' := (oX1 (p1a 0) p1a p1k p1n p1w p1l)) [10, 11, 12, 13, 14, 15, 16, 17, 18, 19, 20, 21, 22, 23, 24, 25, 26, 27] rfl
      have hDc := hD.sub (ws' := (oX1 (p1a 0) p1a p1k p1n p1w p1l)) [10, 11, 12, 13, 14, 15, 16, 17, 18, 19, 20, 21, 22, 23, 24, 25, 26, 27] (by decide) rfl
      have hKc := hK.sub (tys' := (tX1 p1k)) [9, 10, 11, 12, 13, 14, 15, 16, 17, 18, 19, 20, 21, 22, 23, 24, 25] rfl
      have hFc := va_free (wc := (oX1 (p1a 0) p1a p1k p1n p1w p1l)) hD hS hA [10, 11, 12, 13, 14, 15, 16, 17, 18, 19, 20, 21, 22, 23, 24, 25, 26, 27] rfl
      refine va_calli (va_runV (As := [.int p2]) (rest := [.int v5_6]) ⟨hx, hb, hml, hown, hts⟩ (kX1_waysTo l dC dI (p0a := (st0 (p1a 0) p1a)) (p0k := p1k) (p0n := p1n) (p0w := p1w) (p0l := p1l) (p1 := p2) (sz := _) (o := o_1) (hrun := hc_1)) (cwV 1 hts (gi_V qw423 qw185 qw186 qw126 (gi_z qw183)) rfl rfl rfl (by decide +kernel) ⟨Nat.le_of_ble_eq_true rfl, Nat.le_of_ble_eq_true rfl⟩) ⟨PRE.blind, va_recv hKc hPc (ci := 4) (q0 := 0) rfl rfl, PRE.of hE hS hFc hPc hKc hDc⟩ rfl rfl hl.1 rfl (lv_room (Nat.le_of_ble_eq_true rfl)) dX5_onlyTake_10 ⟨(Nat.le_of_ble_eq_true rfl), (Nat.le_of_ble_eq_true rfl)⟩) hS (fun q _ h => hFc q h) hFc (fun r2 u t H locs ht hvm hw hB hz1 hk1 hS => ?_)
      obtain ⟨hP, hD, hK⟩ := JOIN (wr := (oX5 (p0a 0) p0a p0k p0w p0l)) hP hD hK [10, 11, 12, 13, 14, 15, 16, 17, 18, 19, 20, 21, 22, 23, 24, 25, 26, 27] [0, 1, 2, 3, 4, 5, 6, 7, 8, 9] [0, 1, 2, 3, 4, 5, 6, 7, 8] rfl rfl (by decide) (by decide) rfl hk1 hFc ht hvm hB
      have hP : va_P (dC, dI) cls ((oX5 (p0a 0) p0a p0k p0w p0l) ++ (oX1 (p1a 0) p1a p1k p1n p1w p1l)) H := hP.sub [0, 1, 2, 3, 4, 5, 6, 7, 8, 9, 10, 11, 12, 13, 14, 15, 16, 17, 18, 19, 20, 21, 22, 23, 24, 25, 26, 27] rfl
      have hD : va_D A ((oX5 (p0a 0) p0a p0k p0w p0l) ++ (oX1 (p1a 0) p1a p1k p1n p1w p1l)) := hD.sub [0, 1, 2, 3, 4, 5, 6, 7, 8, 9, 10, 11, 12, 13, 14, 15, 16, 17, 18, 19, 20, 21, 22, 23, 24, 25, 26, 27] (by decide) rfl
      have hK : va_K (dC, dI) cls ((tX5 p0k) ++ (tX1 p1k)) s := hK.sub [0, 1, 2, 3, 4, 5, 6, 7, 8, 9, 10, 11, 12, 13, 14, 15, 16, 17, 18, 19, 20, 21, 22, 23, 24, 25] rfl
      obtain rfl : o_1 = r2 := hw.symm
      rcases br9 hrun with ⟨hc3, hrun⟩ | ⟨hc3, hrun⟩
      · refine lv_icmp_ge (tgt := 69) hx hb dX5_onlyTake_13 (by decide) (fun _ => ?_) (fun c => absurd hc3 c)
        obtain rfl := (Option.some.inj hrun)
        exact hk6 _ rfl _ _ _ hP hD hK hS (lv_sub hl [4] rfl)
      · refine lv_icmp_ge (tgt := 69) hx hb dX5_onlyTake_13 (by decide) (fun c => absurd c hc3) (fun _ => ?_)
        refine lv_aload_n hx hb dX5_onlyTake_16 rfl (lv_at hl 0 rfl) ?_
        refine lv_aload_n hx hb dX5_onlyTake_17 rfl (lv_at hl 1 rfl) ?_
        refine lv_iload_n hx hb dX5_onlyTake_18 rfl (lv_at hl 3 rfl) ?_
        refine lv_aload_n hx hb dX5_onlyTake_19 rfl (lv_at hl 1 rfl) ?_
        refine lv_iload_n hx hb dX5_onlyTake_20 rfl (lv_at hl 2 rfl) ?_
        refine lv_iload hx hb dX5_onlyTake_21 (lv_at hl 5 rfl) ?_
        obtain ⟨o_4, hc_4, hrun⟩ := bnd9 hrun
        have hPc := hP.sub (ws' := (oX1 (p1a 0) p1a p1k p1n p1w p1l)) [10, 11, 12, 13, 14, 15, 16, 17, 18, 19, 20, 21, 22, 23, 24, 25, 26, 27] rfl
        have hDc := hD.sub (ws' := (oX1 (p1a 0) p1a p1k p1n p1w p1l)) [10, 11, 12, 13, 14, 15, 16, 17, 18, 19, 20, 21, 22, 23, 24, 25, 26, 27] (by decide) rfl
        have hKc := hK.sub (tys' := (tX1 p1k)) [9, 10, 11, 12, 13, 14, 15, 16, 17, 18, 19, 20, 21, 22, 23, 24, 25] rfl
        have hFc := va_free (wc := (oX1 (p1a 0) p1a p1k p1n p1w p1l)) hD hS hA [10, 11, 12, 13, 14, 15, 16, 17, 18, 19, 20, 21, 22, 23, 24, 25, 26, 27] rfl
        refine va_calli (va_runV (As := [.int p2, .int v5_6]) (rest := [.int p3, .ref (p1a 0), .ref (p0a 0)]) ⟨hx, hb, hml, hown, hts⟩ (kX1_wayFrom l dC dI (p0a := (st0 (p1a 0) p1a)) (p0k := p1k) (p0n := p1n) (p0w := p1w) (p0l := p1l) (p1 := p2) (p2 := v5_6) (sz := _) (o := o_4) (hrun := hc_4)) (cwV 2 hts (gi_V qw424 qw189 qw190 qw126 (gi_z qw187)) rfl rfl rfl (by decide +kernel) ⟨Nat.le_of_ble_eq_true rfl, Nat.le_of_ble_eq_true rfl⟩) ⟨PRE.blind, va_recv hKc hPc (ci := 4) (q0 := 0) rfl rfl, PRE.of hE hS hFc hPc hKc hDc⟩ rfl rfl hl.1 rfl (lv_room (Nat.le_of_ble_eq_true rfl)) dX5_onlyTake_23 ⟨(Nat.le_of_ble_eq_true rfl), (Nat.le_of_ble_eq_true rfl)⟩) hS (fun q _ h => hFc q h) hFc (fun r5 u t H locs ht hvm hw hB hz1 hk1 hS => ?_)
        obtain ⟨hP, hD, hK⟩ := JOIN (wr := (oX5 (p0a 0) p0a p0k p0w p0l)) hP hD hK [10, 11, 12, 13, 14, 15, 16, 17, 18, 19, 20, 21, 22, 23, 24, 25, 26, 27] [0, 1, 2, 3, 4, 5, 6, 7, 8, 9] [0, 1, 2, 3, 4, 5, 6, 7, 8] rfl rfl (by decide) (by decide) rfl hk1 hFc ht hvm hB
        have hP : va_P (dC, dI) cls ((oX5 (p0a 0) p0a p0k p0w p0l) ++ (oX1 (p1a 0) p1a p1k p1n p1w p1l)) H := hP.sub [0, 1, 2, 3, 4, 5, 6, 7, 8, 9, 10, 11, 12, 13, 14, 15, 16, 17, 18, 19, 20, 21, 22, 23, 24, 25, 26, 27] rfl
        have hD : va_D A ((oX5 (p0a 0) p0a p0k p0w p0l) ++ (oX1 (p1a 0) p1a p1k p1n p1w p1l)) := hD.sub [0, 1, 2, 3, 4, 5, 6, 7, 8, 9, 10, 11, 12, 13, 14, 15, 16, 17, 18, 19, 20, 21, 22, 23, 24, 25, 26, 27] (by decide) rfl
        have hK : va_K (dC, dI) cls ((tX5 p0k) ++ (tX1 p1k)) s := hK.sub [0, 1, 2, 3, 4, 5, 6, 7, 8, 9, 10, 11, 12, 13, 14, 15, 16, 17, 18, 19, 20, 21, 22, 23, 24, 25] rfl
        obtain rfl : o_4 = r5 := hw.symm
        obtain ⟨o_6, hc_6, hrun⟩ := bnd9 hrun
        have hPc := hP.sub (ws' := (oX1 (p1a 0) p1a p1k p1n p1w p1l)) [10, 11, 12, 13, 14, 15, 16, 17, 18, 19, 20, 21, 22, 23, 24, 25, 26, 27] rfl
        have hDc := hD.sub (ws' := (oX1 (p1a 0) p1a p1k p1n p1w p1l)) [10, 11, 12, 13, 14, 15, 16, 17, 18, 19, 20, 21, 22, 23, 24, 25, 26, 27] (by decide) rfl
        have hKc := hK.sub (tys' := (tX1 p1k)) [9, 10, 11, 12, 13, 14, 15, 16, 17, 18, 19, 20, 21, 22, 23, 24, 25] rfl
        have hFc := va_free (wc := (oX1 (p1a 0) p1a p1k p1n p1w p1l)) hD hS hA [10, 11, 12, 13, 14, 15, 16, 17, 18, 19, 20, 21, 22, 23, 24, 25, 26, 27] rfl
        refine va_calli (va_runV (As := [.int p3, .int o_4]) (rest := [.ref (p0a 0)]) ⟨hx, hb, hml, hown, hts⟩ (kX1_take l dC dI (p0a := (st0 (p1a 0) p1a)) (p0k := p1k) (p0n := p1n) (p0w := p1w) (p0l := p1l) (p1 := p3) (p2 := o_4) (sz := _) (o := o_6) (hrun := hc_6)) (cwV 2 hts (gi_V qw469 qw470 qw471 qw126 (gi_z qw468)) rfl rfl rfl (by decide +kernel) ⟨Nat.le_of_ble_eq_true rfl, Nat.le_of_ble_eq_true rfl⟩) ⟨PRE.blind, va_recv hKc hPc (ci := 4) (q0 := 0) rfl rfl, PRE.of hE hS hFc hPc hKc hDc⟩ rfl rfl hl.1 rfl (lv_room (Nat.le_of_ble_eq_true rfl)) dX5_onlyTake_26 ⟨(Nat.le_of_ble_eq_true rfl), (Nat.le_of_ble_eq_true rfl)⟩) hS (fun q _ h => hFc q h) hFc (fun r7 u t H locs ht hvm hw hB hz1 hk1 hS => ?_)
        obtain ⟨hP, hD, hK⟩ := JOIN (wr := (oX5 (p0a 0) p0a p0k p0w p0l)) hP hD hK [10, 11, 12, 13, 14, 15, 16, 17, 18, 19, 20, 21, 22, 23, 24, 25, 26, 27] [0, 1, 2, 3, 4, 5, 6, 7, 8, 9] [0, 1, 2, 3, 4, 5, 6, 7, 8] rfl rfl (by decide) (by decide) rfl hk1 hFc ht hvm hB
        have hP : va_P (dC, dI) cls ((oX5 (p0a 0) p0a p0k p0w p0l) ++ (oX1 (p1a 0) p1a p1k p1n p1w p1l)) H := hP.sub [0, 1, 2, 3, 4, 5, 6, 7, 8, 9, 10, 11, 12, 13, 14, 15, 16, 17, 18, 19, 20, 21, 22, 23, 24, 25, 26, 27] rfl
        have hD : va_D A ((oX5 (p0a 0) p0a p0k p0w p0l) ++ (oX1 (p1a 0) p1a p1k p1n p1w p1l)) := hD.sub [0, 1, 2, 3, 4, 5, 6, 7, 8, 9, 10, 11, 12, 13, 14, 15, 16, 17, 18, 19, 20, 21, 22, 23, 24, 25, 26, 27] (by decide) rfl
        have hK : va_K (dC, dI) cls ((tX5 p0k) ++ (tX1 p1k)) s := hK.sub [0, 1, 2, 3, 4, 5, 6, 7, 8, 9, 10, 11, 12, 13, 14, 15, 16, 17, 18, 19, 20, 21, 22, 23, 24, 25] rfl
        obtain rfl : o_6 = r7 := hw.symm
        obtain ⟨o_8, hc_8, hrun⟩ := bnd9 hrun
        have hPc := hP.sub (ws' := (oX5 (p0a 0) p0a p0k p0w p0l)) [0, 1, 2, 3, 4, 5, 6, 7, 8, 9] rfl
        have hDc := hD.sub (ws' := (oX5 (p0a 0) p0a p0k p0w p0l)) [0, 1, 2, 3, 4, 5, 6, 7, 8, 9] (by decide) rfl
        have hKc := hK.sub (tys' := (tX5 p0k)) [0, 1, 2, 3, 4, 5, 6, 7, 8] rfl
        have hFc := va_free (wc := (oX5 (p0a 0) p0a p0k p0w p0l)) hD hS hA [0, 1, 2, 3, 4, 5, 6, 7, 8, 9] rfl
        refine va_calli (va_runV (As := [.int o_6]) (rest := []) ⟨hx, hb, hml, hown, hts⟩ (kX5_standInOf l dC dI (p0a := (st0 (p0a 0) p0a)) (p0k := p0k) (p0w := p0w) (p0l := p0l) (p1 := o_6) (sz := _) (o := o_8) (hrun := hc_8)) (cwV 1 hts (gi_V qw541 qw542 qw543 qw442 (gi_z qw540)) rfl rfl rfl (by decide +kernel) ⟨Nat.le_of_ble_eq_true rfl, Nat.le_of_ble_eq_true rfl⟩) ⟨PRE.blind, va_recv hKc hPc (ci := 7) (q0 := 0) rfl rfl, PRE.of hE hS hFc hPc hKc hDc⟩ rfl rfl hl.1 rfl (lv_room (Nat.le_of_ble_eq_true rfl)) dX5_onlyTake_29 ⟨(Nat.le_of_ble_eq_true rfl), (Nat.le_of_ble_eq_true rfl)⟩) hS (fun q _ h => hFc q h) hFc (fun r9 u t H locs ht hvm hw hB hz1 hk1 hS => ?_)
        obtain ⟨hP, hD, hK⟩ := JOIN (wr := (oX1 (p1a 0) p1a p1k p1n p1w p1l)) hP hD hK [0, 1, 2, 3, 4, 5, 6, 7, 8, 9] [10, 11, 12, 13, 14, 15, 16, 17, 18, 19, 20, 21, 22, 23, 24, 25, 26, 27] [9, 10, 11, 12, 13, 14, 15, 16, 17, 18, 19, 20, 21, 22, 23, 24, 25] rfl rfl (by decide) (by decide) rfl hk1 hFc ht hvm hB
        have hP : va_P (dC, dI) cls ((oX5 (p0a 0) p0a p0k p0w p0l) ++ (oX1 (p1a 0) p1a p1k p1n p1w p1l)) H := hP.sub [18, 19, 20, 21, 22, 23, 24, 25, 26, 27, 0, 1, 2, 3, 4, 5, 6, 7, 8, 9, 10, 11, 12, 13, 14, 15, 16, 17] rfl
        have hD : va_D A ((oX5 (p0a 0) p0a p0k p0w p0l) ++ (oX1 (p1a 0) p1a p1k p1n p1w p1l)) := hD.sub [18, 19, 20, 21, 22, 23, 24, 25, 26, 27, 0, 1, 2, 3, 4, 5, 6, 7, 8, 9, 10, 11, 12, 13, 14, 15, 16, 17] (by decide) rfl
        have hK : va_K (dC, dI) cls ((tX5 p0k) ++ (tX1 p1k)) s := hK.sub [17, 18, 19, 20, 21, 22, 23, 24, 25, 0, 1, 2, 3, 4, 5, 6, 7, 8, 9, 10, 11, 12, 13, 14, 15, 16] rfl
        obtain rfl : o_8 = r9 := hw.symm
        refine lv_istore (lv' := [(6, .int o_8), (0, .ref (p0a 0)), (1, .ref (p1a 0)), (2, .int p2), (3, .int p3), (4, .int v4_6), (5, .int v5_6)]) hx hb dX5_onlyTake_32 hl (by decide) rfl (fun ls hl => ?_)
        refine lv_iload hx hb dX5_onlyTake_34 (lv_at hl 0 rfl) ?_
        refine lv_aload_n hx hb dX5_onlyTake_36 rfl (lv_at hl 2 rfl) ?_
        refine va_get (D := (dC, dI)) (ci := 4) (v := .ref (p1a 19)) (C := RX1) (T := TX1) (N := 21) hx hb hts i_X1 hown hK hP 10 rfl rfl 18 (by decide) (hts _ qw432) (fun _ h9 => h9) rfl dX5_onlyTake_37 ?_
        refine lv_iload_n hx hb dX5_onlyTake_40 rfl (lv_at hl 4 rfl) ?_
        obtain ⟨hq10, hrun⟩ := chk9 hrun
        refine va_iald hx hb hK hP 25 23 rfl rfl (ixb_in hq10) dX5_onlyTake_41 ?_
        have J63 : ∀ (v4_63 : Int32) (H : Heap) (locs : List Loc) (ls : Array Slot), (fX5_onlyTake_J63 (fX5_onlyTake_L6 p0w p1n p1w p2 p3 n_6) v5_6 v4_63) = some o6 → va_P (dC, dI) cls ((oX5 (p0a 0) p0a p0k p0w p0l) ++ (oX1 (p1a 0) p1a p1k p1n p1w p1l)) H → va_D A ((oX5 (p0a 0) p0a p0k p0w p0l) ++ (oX1 (p1a 0) p1a p1k p1n p1w p1l)) → va_K (dC, dI) cls ((tX5 p0k) ++ (tX1 p1k)) s → va_S A s.heap H locs → lv_has ls 7 [(0, .ref (p0a 0)), (1, .ref (p1a 0)), (2, .int p2), (3, .int p3), (4, .int v4_63), (5, .int v5_6)] → W p l e ({ frames := 1, cells := 0, slots := 0, locals := 23 } : Room) s m ([.ref (p0a 0), .ref (p1a 0), .int p2, .int p3] : List Value).toArray below meth c H locs 0 0 Q (F0 m 63 ls []) := by
          intro v4_63 H locs ls hrun hP hD hK hS hl 
          unfold fX5_onlyTake_J63 at hrun
          refine lv_iinc (v := (v5_6 + 1)) (lv' := [(5, .int (v5_6 + 1)), (0, .ref (p0a 0)), (1, .ref (p1a 0)), (2, .int p2), (3, .int p3), (4, .int v4_63)]) hx hb dX5_onlyTake_63 hl (k := 5) rfl rfl (by decide) rfl (fun ls hl => ?_)
          refine lv_goto (tgt := 6) hx hb dX5_onlyTake_66 (by decide) ?_
          exact IH6 v4_63 (v5_6 + 1) o6 _ _ _ hrun hP hD hK hS (lv_sub hl [1, 2, 3, 4, 5, 0] rfl) hr6 hk6
        rcases br9 hrun with ⟨hc11, hrun⟩ | ⟨hc11, hrun⟩
        · refine lv_icmp_eq (tgt := 63) hx hb dX5_onlyTake_42 (by decide) (fun _ => ?_) (fun c => absurd hc11 c)
          exact J63 v4_6 _ _ _ hrun hP hD hK hS (lv_sub hl [1, 2, 3, 4, 5, 6] rfl)
        · refine lv_icmp_eq (tgt := 63) hx hb dX5_onlyTake_42 (by decide) (fun c => absurd c hc11) (fun _ => ?_)
          refine lv_iload hx hb dX5_onlyTake_45 (lv_at hl 0 rfl) ?_
          refine lv_iload hx hb dX5_onlyTake_47 (lv_at hl 5 rfl) ?_
          rcases br9 hrun with ⟨hc12, hrun⟩ | ⟨hc12, hrun⟩
          · refine lv_icmp_eq (tgt := 63) hx hb dX5_onlyTake_49 (by decide) (fun _ => ?_) (fun c => absurd hc12 c)
            exact J63 v4_6 _ _ _ hrun hP hD hK hS (lv_sub hl [1, 2, 3, 4, 5, 6] rfl)
          · refine lv_icmp_eq (tgt := 63) hx hb dX5_onlyTake_49 (by decide) (fun c => absurd c hc12) (fun _ => ?_)
            refine lv_iload hx hb dX5_onlyTake_52 (lv_at hl 5 rfl) ?_
            rcases br9 hrun with ⟨hc13, hrun⟩ | ⟨hc13, hrun⟩
            · refine lv_if_lt (tgt := 59) hx hb dX5_onlyTake_54 (by decide) (fun _ => ?_) (fun c => absurd hc13 c)
              refine lv_iload hx hb dX5_onlyTake_59 (lv_at hl 0 rfl) ?_
              refine lv_istore (lv' := [(4, .int o_8), (6, .int o_8), (0, .ref (p0a 0)), (1, .ref (p1a 0)), (2, .int p2), (3, .int p3), (5, .int v5_6)]) hx hb dX5_onlyTake_61 hl (by decide) rfl (fun ls hl => ?_)
              exact J63 o_8 _ _ _ hrun hP hD hK hS (lv_sub hl [2, 3, 4, 5, 0, 6] rfl)
            · refine lv_if_lt (tgt := 59) hx hb dX5_onlyTake_54 (by decide) (fun c => absurd c hc13) (fun _ => ?_)
              refine lv_iconst (v := (-1)) hx hb dX5_onlyTake_57 (by decide) ?_
              have ho9 : (-1) = o := hr6 _ (Option.some.inj hrun).symm
              have hP9 : va_P (dC, dI) cls ((oX5 (p0a 0) p0a p0k p0w p0l) ++ (oX1 (p1a 0) p1a p1k p1n p1w p1l)) H := by first | exact hP | (rw [← ho9]; exact hP)
              have hD9 : va_D A ((oX5 (p0a 0) p0a p0k p0w p0l) ++ (oX1 (p1a 0) p1a p1k p1n p1w p1l)) := by first | exact hD | (rw [← ho9]; exact hD)
              subst hQ
              exact W.iret (v := (-1)) hx hb hr (fun t ht hW => ⟨⟨(-1), (), rfl, (by rw [← ho9]), ⟨by rw [ht]; exact hP9, va_K.moved hW.alike hK, hD9⟩⟩, hS.F ht⟩) hS.2.2 dX5_onlyTake_58
  obtain ⟨o6, hc6, hrun⟩ := bnd9 hrun
  refine L6 NF (-1) 0 o6 _ _ _ hc6 hP hD hK hS (lv_sub hl [2, 3, 4, 5, 1, 0] rfl) (fun r e9 => by subst e9; exact Option.some.inj hrun) ?_
  intro t6 e9
  subst e9
  replace hrun := el9 hrun
  intro H locs ls hP hD hK hS hl
  have hl := hl
  refine lv_iload hx hb dX5_onlyTake_69 (lv_at hl 0 rfl) ?_
  have ho9 : t6 = o := Option.some.inj hrun
  have hP9 : va_P (dC, dI) cls ((oX5 (p0a 0) p0a p0k p0w p0l) ++ (oX1 (p1a 0) p1a p1k p1n p1w p1l)) H := by first | exact hP | (rw [← ho9]; exact hP)
  have hD9 : va_D A ((oX5 (p0a 0) p0a p0k p0w p0l) ++ (oX1 (p1a 0) p1a p1k p1n p1w p1l)) := by first | exact hD | (rw [← ho9]; exact hD)
  subst hQ
  exact W.iret (v := t6) hx hb hr (fun t ht hW => ⟨⟨t6, (), rfl, (by rw [← ho9]), ⟨by rw [ht]; exact hP9, va_K.moved hW.alike hK, hD9⟩⟩, hS.F ht⟩) hS.2.2 dX5_onlyTake_71
def fX5_takeAlike_L3 (p0w : ST) (p1n : Nat → Nat) (p1w : ST) (p2 : Int32) (p3 : Int32) (p4 : Int32) : Nat → Int32 → Option (Sum Int32 Unit)
  | 0 => fun _ => none
  | n_3 + 1 => fun v5_3 => ((fX1_waysTo p1w p2).bind fun (o_1 : Int32) => (if o_1 ≤ v5_3 then some (Sum.inr ()) else ((fX1_wayFrom p1w p2 v5_3).bind fun (o_4 : Int32) => ((fX1_take p1n p1w p3 o_4).bind fun (o_6 : Int32) => ((fX5_standInOf p0w o_6).bind fun (o_8 : Int32) => ((fX1_take p1n p1w p4 o_4).bind fun (o_10 : Int32) => ((fX5_standInOf p0w o_10).bind fun (o_12 : Int32) => (if o_8 = o_12 then ((fX5_takeAlike_L3 p0w p1n p1w p2 p3 p4 n_3) (v5_3 + 1)) else some (Sum.inl 0)))))))))
def fX5_takeAlike (p0w : ST) (p1n : Nat → Nat) (p1w : ST) (p2 : Int32) (p3 : Int32) (p4 : Int32) : Option Int32 := ((fX5_takeAlike_L3 p0w p1n p1w p2 p3 p4 NF 0).bind fun (o3 : (Sum Int32 Unit)) => Sum.elim (fun r => some r) (fun (t3 : Unit) => some 1) o3)
set_option maxHeartbeats 16000000 in
set_option maxRecDepth 100000 in
theorem kX5_takeAlike {zs : Nat × Nat} (l : Launch) (dC : Nat → ClassId) (dI : Nat → Nat → Nat) (p0a : Nat → Nat) (p0k : Nat → ClassId) (p0w : ST) (p0l : SL) (p1a : Nat → Nat) (p1k : Nat → ClassId) (p1n : Nat → Nat) (p1w : ST) (p1l : SL) (p2 : Int32) (p3 : Int32) (p4 : Int32) (sz : Nat) (o : Int32) (hrun : fX5_takeAlike p0w p1n p1w p2 p3 p4 = some o) : Met l yX5_takeAlike (wz yX5_takeAlike cX5_takeAlike 7 (Option.some Jvm.ClassFile.FieldType.boolean)) ({ frames := 1, cells := 0, slots := 0, locals := 23 } : Room) (va_Pc [.ref (p0a 0), .ref (p1a 0), .int p2, .int p3, .int p4] (PRE zs dC dI ((oX5 (p0a 0) p0a p0k p0w p0l) ++ (oX1 (p1a 0) p1a p1k p1n p1w p1l)) ((tX5 p0k) ++ (tX1 p1k)) sz)) (va_Qi (fun (r : Int32) (_ : Unit) => r = o) (fun _ t => POST dC dI ((oX5 (p0a 0) p0a p0k p0w p0l) ++ (oX1 (p1a 0) p1a p1k p1n p1w p1l)) ((tX5 p0k) ++ (tX1 p1k)) (va_A ((oX5 (p0a 0) p0a p0k p0w p0l) ++ (oX1 (p1a 0) p1a p1k p1n p1w p1l)) sz) t) (va_A ((oX5 (p0a 0) p0a p0k p0w p0l) ++ (oX1 (p1a 0) p1a p1k p1n p1w p1l)) sz)) 0 0 (va_A ((oX5 (p0a 0) p0a p0k p0w p0l) ++ (oX1 (p1a 0) p1a p1k p1n p1w p1l)) sz) := by
  refine Met.ofW (cc := cX5_takeAlike) (maxL := 7) (ret := (Option.some Jvm.ClassFile.FieldType.boolean)) (by decide) rfl ?_
  intro p e s m args below meth c s₁ B hml hv
  obtain ⟨rfl, hsz, hP, hK, hD0, hE⟩ := hv
  have hx := B.exec
  have hb := B.bytes
  have hr := B.returns
  have hts0 := atoms_spec (ws := wz yX5_takeAlike cX5_takeAlike 7 (Option.some Jvm.ClassFile.FieldType.boolean)) B.pre
  have hts : ∀ w ∈ gw, w.before _ s = true := fun w h => hts0 w (List.mem_cons_of_mem _ h)
  have hown : s.vm.findClass RX5 = some m.cls := findClass_of_methodNamed B.named
  have hlocks := B.notSynchronized
  subst hsz
  have hD := hD0.self (sz := s.heap.size)
  refine gQ9 ?_
  intro Q hQ
  generalize hAe : va_A ((oX5 (p0a 0) p0a p0k p0w p0l) ++ (oX1 (p1a 0) p1a p1k p1n p1w p1l)) s.heap.size = A at hD hE hQ
  have hA : ∀ q : Nat, s.heap.size ≤ q → A q := fun q h => by rw [← hAe]; exact Or.inr h
  have hS : va_S A s.heap s.heap [] := va_S.rf
  have hP : va_P (dC, dI) cls ((oX5 (p0a 0) p0a p0k p0w p0l) ++ (oX1 (p1a 0) p1a p1k p1n p1w p1l)) s.heap := hP
  have hl := lv_entry ([.ref (p0a 0), .ref (p1a 0), .int p2, .int p3, .int p4]) (n := 7) (Nat.le_of_ble_eq_true rfl)
  rw [lg_entry_eq]
  generalize (lg_sl ([.ref (p0a 0), .ref (p1a 0), .int p2, .int p3, .int p4]) ++ List.replicate (7 - (lg_sl ([.ref (p0a 0), .ref (p1a 0), .int p2, .int p3, .int p4])).length) Slot.unset).toArray = ls at hl ⊢
  have hl : lv_has ls 7 [(0, .ref (p0a 0)), (1, .ref (p1a 0)), (2, .int p2), (3, .int p3), (4, .int p4)] := hl
  obtain ⟨H, hHe⟩ : ∃ H, H = s.heap := ⟨_, rfl⟩
  obtain ⟨locs, hle⟩ : ∃ locs : List Loc, locs = [] := ⟨_, rfl⟩
  rw [← hHe] at hP
  have hS : va_S A s.heap H locs := by rw [hHe, hle]; exact hS
  show W p l e ({ frames := 1, cells := 0, slots := 0, locals := 23 } : Room) s m ([.ref (p0a 0), .ref (p1a 0), .int p2, .int p3, .int p4] : List Value).toArray below meth c s.heap [] 0 0 Q (F0 m 0 ls [])
  rw [← hle]
  refine wH9 hHe ?_
  unfold fX5_takeAlike at hrun
  refine lv_iconst (v := 0) hx hb dX5_takeAlike_0 (by decide) ?_
  refine lv_istore (lv' := [(5, .int 0), (0, .ref (p0a 0)), (1, .ref (p1a 0)), (2, .int p2), (3, .int p3), (4, .int p4)]) hx hb dX5_takeAlike_1 hl (by decide) rfl (fun ls hl => ?_)
  have L3 : ∀ (n_3 : Nat) (v5_3 : Int32) (o3 : (Sum Int32 Unit)) (H : Heap) (locs : List Loc) (ls : Array Slot), (fX5_takeAlike_L3 p0w p1n p1w p2 p3 p4 n_3) v5_3 = some o3 → va_P (dC, dI) cls ((oX5 (p0a 0) p0a p0k p0w p0l) ++ (oX1 (p1a 0) p1a p1k p1n p1w p1l)) H → va_D A ((oX5 (p0a 0) p0a p0k p0w p0l) ++ (oX1 (p1a 0) p1a p1k p1n p1w p1l)) → va_K (dC, dI) cls ((tX5 p0k) ++ (tX1 p1k)) s → va_S A s.heap H locs → lv_has ls 7 [(0, .ref (p0a 0)), (1, .ref (p1a 0)), (2, .int p2), (3, .int p3), (4, .int p4), (5, .int v5_3)] → (∀ r, o3 = Sum.inl r → r = o) → (∀ (t3 : Unit), o3 = Sum.inr t3 → ∀ (H : Heap) (locs : List Loc) (ls : Array Slot), va_P (dC, dI) cls ((oX5 (p0a 0) p0a p0k p0w p0l) ++ (oX1 (p1a 0) p1a p1k p1n p1w p1l)) H → va_D A ((oX5 (p0a 0) p0a p0k p0w p0l) ++ (oX1 (p1a 0) p1a p1k p1n p1w p1l)) → va_K (dC, dI) cls ((tX5 p0k) ++ (tX1 p1k)) s → va_S A s.heap H locs → lv_has ls 7 [] → W p l e ({ frames := 1, cells := 0, slots := 0, locals := 23 } : Room) s m ([.ref (p0a 0), .ref (p1a 0), .int p2, .int p3, .int p4] : List Value).toArray below meth c H locs 0 0 Q (F0 m 56 ls [])) → W p l e ({ frames := 1, cells := 0, slots := 0, locals := 23 } : Room) s m ([.ref (p0a 0), .ref (p1a 0), .int p2, .int p3, .int p4] : List Value).toArray below meth c H locs 0 0 Q (F0 m 3 ls []) := by
    intro n_3
    induction n_3 with
    | zero => intro v5_3 o3 H locs ls hrun; exact (no9 rfl hrun).elim
    | succ n_3 IH3 =>
      intro v5_3 o3 H locs ls hrun hP hD hK hS hl hr3 hk3
      unfold fX5_takeAlike_L3 at hrun
      refine lv_iload hx hb dX5_takeAlike_3 (lv_at hl 5 rfl) ?_
      refine lv_aload_n hx hb dX5_takeAlike_5 rfl (lv_at hl 1 rfl) ?_
      refine lv_iload_n hx hb dX5_takeAlike_6 rfl (lv_at hl 2 rfl) ?_
      obtain ⟨o_1, hc_1, hrun⟩ := bnd9 hrun
      have hPc := hP.sub (ws' := (oX1 (p1a 0) p1a p1k p1n p1w p1l)) [10, 11, 12, 13, 14, 15, 16, 17, 18, 19, 20, 21, 22, 23, 24, 25, 26, 27] rfl
      have hDc := hD.sub (ws' := (oX1 (p1a 0) p1a p1k p1n p1w p1l)) [10, 11, 12, 13, 14, 15, 16, 17, 18, 19, 20, 21, 22, 23, 24, 25, 26, 27] (by decide) rfl
      have hKc := hK.sub (tys' := (tX1 p1k)) [9, 10, 11, 12, 13, 14, 15, 16, 17, 18, 19, 20, 21, 22, 23, 24, 25] rfl
      have hFc := va_free (wc := (oX1 (p1a 0) p1a p1k p1n p1w p1l)) hD hS hA [10, 11, 12, 13, 14, 15, 16, 17, 18, 19, 20, 21, 22, 23, 24, 25, 26, 27] rfl
      refine va_calli (va_runV (As := [.int p2]) (rest := [.int v5_3]) ⟨hx, hb, hml, hown, hts⟩ (kX1_waysTo l dC dI (p0a := (st0 (p1a 0) p1a)) (p0k := p1k) (p0n := p1n) (p0w := p1w) (p0l := p1l) (p1 := p2) (sz := _) (o := o_1) (hrun := hc_1)) (cwV 1 hts (gi_V qw423 qw185 qw186 qw126 (gi_z qw183)) rfl rfl rfl (by decide +kernel) ⟨Nat.le_of_ble_eq_true rfl, Nat.le_of_ble_eq_true rfl⟩) ⟨PRE.blind, va_recv hKc hPc (ci := 4) (q0 := 0) rfl rfl, PRE.of hE hS hFc hPc hKc hDc⟩ rfl rfl hl.1 rfl (lv_room (Nat.le_of_ble_eq_true rfl)) dX5_takeAlike_7 ⟨(Nat.le_of_ble_eq_true rfl), (Nat.le_of_ble_eq_true rfl)⟩) hS (fun q _ h => hFc q h) hFc (fun r2 u t H locs ht hvm hw hB hz1 hk1 hS => ?_)
      obtain ⟨hP, hD, hK⟩ := JOIN (wr := (oX5 (p0a 0) p0a p0k p0w p0l)) hP hD hK [10, 11, 12, 13, 14, 15, 16, 17, 18, 19, 20, 21, 22, 23, 24, 25, 26, 27] [0, 1, 2, 3, 4, 5, 6, 7, 8, 9] [0, 1, 2, 3, 4, 5, 6, 7, 8] rfl rfl (by decide) (by decide) rfl hk1 hFc ht hvm hB
      have hP : va_P (dC, dI) cls ((oX5 (p0a 0) p0a p0k p0w p0l) ++ (oX1 (p1a 0) p1a p1k p1n p1w p1l)) H := hP.sub [0, 1, 2, 3, 4, 5, 6, 7, 8, 9, 10, 11, 12, 13, 14, 15, 16, 17, 18, 19, 20, 21, 22, 23, 24, 25, 26, 27] rfl
      have hD : va_D A ((oX5 (p0a 0) p0a p0k p0w p0l) ++ (oX1 (p1a 0) p1a p1k p1n p1w p1l)) := hD.sub [0, 1, 2, 3, 4, 5, 6, 7, 8, 9, 10, 11, 12, 13, 14, 15, 16, 17, 18, 19, 20, 21, 22, 23, 24, 25, 26, 27] (by decide) rfl
      have hK : va_K (dC, dI) cls ((tX5 p0k) ++ (tX1 p1k)) s := hK.sub [0, 1, 2, 3, 4, 5, 6, 7, 8, 9, 10, 11, 12, 13, 14, 15, 16, 17, 18, 19, 20, 21, 22, 23, 24, 25] rfl
      obtain rfl : o_1 = r2 := hw.symm
      rcases br9 hrun with ⟨hc3, hrun⟩ | ⟨hc3, hrun⟩
      · refine lv_icmp_ge (tgt := 56) hx hb dX5_takeAlike_10 (by decide) (fun _ => ?_) (fun c => absurd hc3 c)
        obtain rfl := (Option.some.inj hrun)
        exact hk3 _ rfl _ _ _ hP hD hK hS (lv_sub hl [] rfl)
      · refine lv_icmp_ge (tgt := 56) hx hb dX5_takeAlike_10 (by decide) (fun c => absurd c hc3) (fun _ => ?_)
        refine lv_aload_n hx hb dX5_takeAlike_13 rfl (lv_at hl 1 rfl) ?_
        refine lv_iload_n hx hb dX5_takeAlike_14 rfl (lv_at hl 2 rfl) ?_
        refine lv_iload hx hb dX5_takeAlike_15 (lv_at hl 5 rfl) ?_
        obtain ⟨o_4, hc_4, hrun⟩ := bnd9 hrun
        have hPc := hP.sub (ws' := (oX1 (p1a 0) p1a p1k p1n p1w p1l)) [10, 11, 12, 13, 14, 15, 16, 17, 18, 19, 20, 21, 22, 23, 24, 25, 26, 27] rfl
        have hDc := hD.sub (ws' := (oX1 (p1a 0) p1a p1k p1n p1w p1l)) [10, 11, 12, 13, 14, 15, 16, 17, 18, 19, 20, 21, 22, 23, 24, 25, 26, 27] (by decide) rfl
        have hKc := hK.sub (tys' := (tX1 p1k)) [9, 10, 11, 12, 13, 14, 15, 16, 17, 18, 19, 20, 21, 22, 23, 24, 25] rfl
        have hFc := va_free (wc := (oX1 (p1a 0) p1a p1k p1n p1w p1l)) hD hS hA [10, 11, 12, 13, 14, 15, 16, 17, 18, 19, 20, 21, 22, 23, 24, 25, 26, 27] rfl
        refine va_calli (va_runV (As := [.int p2, .int v5_3]) (rest := []) ⟨hx, hb, hml, hown, hts⟩ (kX1_wayFrom l dC dI (p0a := (st0 (p1a 0) p1a)) (p0k := p1k) (p0n := p1n) (p0w := p1w) (p0l := p1l) (p1 := p2) (p2 := v5_3) (sz := _) (o := o_4) (hrun := hc_4)) (cwV 2 hts (gi_V qw424 qw189 qw190 qw126 (gi_z qw187)) rfl rfl rfl (by decide +kernel) ⟨Nat.le_of_ble_eq_true rfl, Nat.le_of_ble_eq_true rfl⟩) ⟨PRE.blind, va_recv hKc hPc (ci := 4) (q0 := 0) rfl rfl, PRE.of hE hS hFc hPc hKc hDc⟩ rfl rfl hl.1 rfl (lv_room (Nat.le_of_ble_eq_true rfl)) dX5_takeAlike_17 ⟨(Nat.le_of_ble_eq_true rfl), (Nat.le_of_ble_eq_true rfl)⟩) hS (fun q _ h => hFc q h) hFc (fun r5 u t H locs ht hvm hw hB hz1 hk1 hS => ?_)
        obtain ⟨hP, hD, hK⟩ := JOIN (wr := (oX5 (p0a 0) p0a p0k p0w p0l)) hP hD hK [10, 11, 12, 13, 14, 15, 16, 17, 18, 19, 20, 21, 22, 23, 24, 25, 26, 27] [0, 1, 2, 3, 4, 5, 6, 7, 8, 9] [0, 1, 2, 3, 4, 5, 6, 7, 8] rfl rfl (by decide) (by decide) rfl hk1 hFc ht hvm hB
        have hP : va_P (dC, dI) cls ((oX5 (p0a 0) p0a p0k p0w p0l) ++ (oX1 (p1a 0) p1a p1k p1n p1w p1l)) H := hP.sub [0, 1, 2, 3, 4, 5, 6, 7, 8, 9, 10, 11, 12, 13, 14, 15, 16, 17, 18, 19, 20, 21, 22, 23, 24, 25, 26, 27] rfl
        have hD : va_D A ((oX5 (p0a 0) p0a p0k p0w p0l) ++ (oX1 (p1a 0) p1a p1k p1n p1w p1l)) := hD.sub [0, 1, 2, 3, 4, 5, 6, 7, 8, 9, 10, 11, 12, 13, 14, 15, 16, 17, 18, 19, 20, 21, 22, 23, 24, 25, 26, 27] (by decide) rfl
        have hK : va_K (dC, dI) cls ((tX5 p0k) ++ (tX1 p1k)) s := hK.sub [0, 1, 2, 3, 4, 5, 6, 7, 8, 9, 10, 11, 12, 13, 14, 15, 16, 17, 18, 19, 20, 21, 22, 23, 24, 25] rfl
        obtain rfl : o_4 = r5 := hw.symm
        refine lv_istore (lv' := [(6, .int o_4), (0, .ref (p0a 0)), (1, .ref (p1a 0)), (2, .int p2), (3, .int p3), (4, .int p4), (5, .int v5_3)]) hx hb dX5_takeAlike_20 hl (by decide) rfl (fun ls hl => ?_)
        refine lv_aload_n hx hb dX5_takeAlike_22 rfl (lv_at hl 1 rfl) ?_
        refine lv_aload_n hx hb dX5_takeAlike_23 rfl (lv_at hl 2 rfl) ?_
        refine lv_iload_n hx hb dX5_takeAlike_24 rfl (lv_at hl 4 rfl) ?_
        refine lv_iload hx hb dX5_takeAlike_25 (lv_at hl 0 rfl) ?_
        obtain ⟨o_6, hc_6, hrun⟩ := bnd9 hrun
        have hPc := hP.sub (ws' := (oX1 (p1a 0) p1a p1k p1n p1w p1l)) [10, 11, 12, 13, 14, 15, 16, 17, 18, 19, 20, 21, 22, 23, 24, 25, 26, 27] rfl
        have hDc := hD.sub (ws' := (oX1 (p1a 0) p1a p1k p1n p1w p1l)) [10, 11, 12, 13, 14, 15, 16, 17, 18, 19, 20, 21, 22, 23, 24, 25, 26, 27] (by decide) rfl
        have hKc := hK.sub (tys' := (tX1 p1k)) [9, 10, 11, 12, 13, 14, 15, 16, 17, 18, 19, 20, 21, 22, 23, 24, 25] rfl
        have hFc := va_free (wc := (oX1 (p1a 0) p1a p1k p1n p1w p1l)) hD hS hA [10, 11, 12, 13, 14, 15, 16, 17, 18, 19, 20, 21, 22, 23, 24, 25, 26, 27] rfl
        refine va_calli (va_runV (As := [.int p3, .int o_4]) (rest := [.ref (p0a 0)]) ⟨hx, hb, hml, hown, hts⟩ (kX1_take l dC dI (p0a := (st0 (p1a 0) p1a)) (p0k := p1k) (p0n := p1n) (p0w := p1w) (p0l := p1l) (p1 := p3) (p2 := o_4) (sz := _) (o := o_6) (hrun := hc_6)) (cwV 2 hts (gi_V qw469 qw470 qw471 qw126 (gi_z qw468)) rfl rfl rfl (by decide +kernel) ⟨Nat.le_of_ble_eq_true rfl, Nat.le_of_ble_eq_true rfl⟩) ⟨PRE.blind, va_recv hKc hPc (ci := 4) (q0 := 0) rfl rfl, PRE.of hE hS hFc hPc hKc hDc⟩ rfl rfl hl.1 rfl (lv_room (Nat.le_of_ble_eq_true rfl)) dX5_takeAlike_27 ⟨(Nat.le_of_ble_eq_true rfl), (Nat.le_of_ble_eq_true rfl)⟩) hS (fun q _ h => hFc q h) hFc (fun r7 u t H locs ht hvm hw hB hz1 hk1 hS => ?_)
        obtain ⟨hP, hD, hK⟩ := JOIN (wr := (oX5 (p0a 0) p0a p0k p0w p0l)) hP hD hK [10, 11, 12, 13, 14, 15, 16, 17, 18, 19, 20, 21, 22, 23, 24, 25, 26, 27] [0, 1, 2, 3, 4, 5, 6, 7, 8, 9] [0, 1, 2, 3, 4, 5, 6, 7, 8] rfl rfl (by decide) (by decide) rfl hk1 hFc ht hvm hB
        have hP : va_P (dC, dI) cls ((oX5 (p0a 0) p0a p0k p0w p0l) ++ (oX1 (p1a 0) p1a p1k p1n p1w p1l)) H := hP.sub [0, 1, 2, 3, 4, 5, 6, 7, 8, 9, 10, 11, 12, 13, 14, 15, 16, 17, 18, 19, 20, 21, 22, 23, 24, 25, 26, 27] rfl
        have hD : va_D A ((oX5 (p0a 0) p0a p0k p0w p0l) ++ (oX1 (p1a 0) p1a p1k p1n p1w p1l)) := hD.sub [0, 1, 2, 3, 4, 5, 6, 7, 8, 9, 10, 11, 12, 13, 14, 15, 16, 17, 18, 19, 20, 21, 22, 23, 24, 25, 26, 27] (by decide) rfl
        have hK : va_K (dC, dI) cls ((tX5 p0k) ++ (tX1 p1k)) s := hK.sub [0, 1, 2, 3, 4, 5, 6, 7, 8, 9, 10, 11, 12, 13, 14, 15, 16, 17, 18, 19, 20, 21, 22, 23, 24, 25] rfl
        obtain rfl : o_6 = r7 := hw.symm
        obtain ⟨o_8, hc_8, hrun⟩ := bnd9 hrun
        have hPc := hP.sub (ws' := (oX5 (p0a 0) p0a p0k p0w p0l)) [0, 1, 2, 3, 4, 5, 6, 7, 8, 9] rfl
        have hDc := hD.sub (ws' := (oX5 (p0a 0) p0a p0k p0w p0l)) [0, 1, 2, 3, 4, 5, 6, 7, 8, 9] (by decide) rfl
        have hKc := hK.sub (tys' := (tX5 p0k)) [0, 1, 2, 3, 4, 5, 6, 7, 8] rfl
        have hFc := va_free (wc := (oX5 (p0a 0) p0a p0k p0w p0l)) hD hS hA [0, 1, 2, 3, 4, 5, 6, 7, 8, 9] rfl
        refine va_calli (va_runV (As := [.int o_6]) (rest := []) ⟨hx, hb, hml, hown, hts⟩ (kX5_standInOf l dC dI (p0a := (st0 (p0a 0) p0a)) (p0k := p0k) (p0w := p0w) (p0l := p0l) (p1 := o_6) (sz := _) (o := o_8) (hrun := hc_8)) (cwV 1 hts (gi_V qw541 qw542 qw543 qw442 (gi_z qw540)) rfl rfl rfl (by decide +kernel) ⟨Nat.le_of_ble_eq_true rfl, Nat.le_of_ble_eq_true rfl⟩) ⟨PRE.blind, va_recv hKc hPc (ci := 7) (q0 := 0) rfl rfl, PRE.of hE hS hFc hPc hKc hDc⟩ rfl rfl hl.1 rfl (lv_room (Nat.le_of_ble_eq_true rfl)) dX5_takeAlike_30 ⟨(Nat.le_of_ble_eq_true rfl), (Nat.le_of_ble_eq_true rfl)⟩) hS (fun q _ h => hFc q h) hFc (fun r9 u t H locs ht hvm hw hB hz1 hk1 hS => ?_)
        obtain ⟨hP, hD, hK⟩ := JOIN (wr := (oX1 (p1a 0) p1a p1k p1n p1w p1l)) hP hD hK [0, 1, 2, 3, 4, 5, 6, 7, 8, 9] [10, 11, 12, 13, 14, 15, 16, 17, 18, 19, 20, 21, 22, 23, 24, 25, 26, 27] [9, 10, 11, 12, 13, 14, 15, 16, 17, 18, 19, 20, 21, 22, 23, 24, 25] rfl rfl (by decide) (by decide) rfl hk1 hFc ht hvm hB
        have hP : va_P (dC, dI) cls ((oX5 (p0a 0) p0a p0k p0w p0l) ++ (oX1 (p1a 0) p1a p1k p1n p1w p1l)) H := hP.sub [18, 19, 20, 21, 22, 23, 24, 25, 26, 27, 0, 1, 2, 3, 4, 5, 6, 7, 8, 9, 10, 11, 12, 13, 14, 15, 16, 17] rfl
        have hD : va_D A ((oX5 (p0a 0) p0a p0k p0w p0l) ++ (oX1 (p1a 0) p1a p1k p1n p1w p1l)) := hD.sub [18, 19, 20, 21, 22, 23, 24, 25, 26, 27, 0, 1, 2, 3, 4, 5, 6, 7, 8, 9, 10, 11, 12, 13, 14, 15, 16, 17] (by decide) rfl
        have hK : va_K (dC, dI) cls ((tX5 p0k) ++ (tX1 p1k)) s := hK.sub [17, 18, 19, 20, 21, 22, 23, 24, 25, 0, 1, 2, 3, 4, 5, 6, 7, 8, 9, 10, 11, 12, 13, 14, 15, 16] rfl
        obtain rfl : o_8 = r9 := hw.symm
        refine lv_aload_n hx hb dX5_takeAlike_33 rfl (lv_at hl 1 rfl) ?_
        refine lv_aload_n hx hb dX5_takeAlike_34 rfl (lv_at hl 2 rfl) ?_
        refine lv_iload hx hb dX5_takeAlike_35 (lv_at hl 5 rfl) ?_
        refine lv_iload hx hb dX5_takeAlike_37 (lv_at hl 0 rfl) ?_
        obtain ⟨o_10, hc_10, hrun⟩ := bnd9 hrun
        have hPc := hP.sub (ws' := (oX1 (p1a 0) p1a p1k p1n p1w p1l)) [10, 11, 12, 13, 14, 15, 16, 17, 18, 19, 20, 21, 22, 23, 24, 25, 26, 27] rfl
        have hDc := hD.sub (ws' := (oX1 (p1a 0) p1a p1k p1n p1w p1l)) [10, 11, 12, 13, 14, 15, 16, 17, 18, 19, 20, 21, 22, 23, 24, 25, 26, 27] (by decide) rfl
        have hKc := hK.sub (tys' := (tX1 p1k)) [9, 10, 11, 12, 13, 14, 15, 16, 17, 18, 19, 20, 21, 22, 23, 24, 25] rfl
        have hFc := va_free (wc := (oX1 (p1a 0) p1a p1k p1n p1w p1l)) hD hS hA [10, 11, 12, 13, 14, 15, 16, 17, 18, 19, 20, 21, 22, 23, 24, 25, 26, 27] rfl
        refine va_calli (va_runV (As := [.int p4, .int o_4]) (rest := [.ref (p0a 0), .int o_8]) ⟨hx, hb, hml, hown, hts⟩ (kX1_take l dC dI (p0a := (st0 (p1a 0) p1a)) (p0k := p1k) (p0n := p1n) (p0w := p1w) (p0l := p1l) (p1 := p4) (p2 := o_4) (sz := _) (o := o_10) (hrun := hc_10)) (cwV 2 hts (gi_V qw469 qw470 qw471 qw126 (gi_z qw468)) rfl rfl rfl (by decide +kernel) ⟨Nat.le_of_ble_eq_true rfl, Nat.le_of_ble_eq_true rfl⟩) ⟨PRE.blind, va_recv hKc hPc (ci := 4) (q0 := 0) rfl rfl, PRE.of hE hS hFc hPc hKc hDc⟩ rfl rfl hl.1 rfl (lv_room (Nat.le_of_ble_eq_true rfl)) dX5_takeAlike_39 ⟨(Nat.le_of_ble_eq_true rfl), (Nat.le_of_ble_eq_true rfl)⟩) hS (fun q _ h => hFc q h) hFc (fun r11 u t H locs ht hvm hw hB hz1 hk1 hS => ?_)
        obtain ⟨hP, hD, hK⟩ := JOIN (wr := (oX5 (p0a 0) p0a p0k p0w p0l)) hP hD hK [10, 11, 12, 13, 14, 15, 16, 17, 18, 19, 20, 21, 22, 23, 24, 25, 26, 27] [0, 1, 2, 3, 4, 5, 6, 7, 8, 9] [0, 1, 2, 3, 4, 5, 6, 7, 8] rfl rfl (by decide) (by decide) rfl hk1 hFc ht hvm hB
        have hP : va_P (dC, dI) cls ((oX5 (p0a 0) p0a p0k p0w p0l) ++ (oX1 (p1a 0) p1a p1k p1n p1w p1l)) H := hP.sub [0, 1, 2, 3, 4, 5, 6, 7, 8, 9, 10, 11, 12, 13, 14, 15, 16, 17, 18, 19, 20, 21, 22, 23, 24, 25, 26, 27] rfl
        have hD : va_D A ((oX5 (p0a 0) p0a p0k p0w p0l) ++ (oX1 (p1a 0) p1a p1k p1n p1w p1l)) := hD.sub [0, 1, 2, 3, 4, 5, 6, 7, 8, 9, 10, 11, 12, 13, 14, 15, 16, 17, 18, 19, 20, 21, 22, 23, 24, 25, 26, 27] (by decide) rfl
        have hK : va_K (dC, dI) cls ((tX5 p0k) ++ (tX1 p1k)) s := hK.sub [0, 1, 2, 3, 4, 5, 6, 7, 8, 9, 10, 11, 12, 13, 14, 15, 16, 17, 18, 19, 20, 21, 22, 23, 24, 25] rfl
        obtain rfl : o_10 = r11 := hw.symm
        obtain ⟨o_12, hc_12, hrun⟩ := bnd9 hrun
        have hPc := hP.sub (ws' := (oX5 (p0a 0) p0a p0k p0w p0l)) [0, 1, 2, 3, 4, 5, 6, 7, 8, 9] rfl
        have hDc := hD.sub (ws' := (oX5 (p0a 0) p0a p0k p0w p0l)) [0, 1, 2, 3, 4, 5, 6, 7, 8, 9] (by decide) rfl
        have hKc := hK.sub (tys' := (tX5 p0k)) [0, 1, 2, 3, 4, 5, 6, 7, 8] rfl
        have hFc := va_free (wc := (oX5 (p0a 0) p0a p0k p0w p0l)) hD hS hA [0, 1, 2, 3, 4, 5, 6, 7, 8, 9] rfl
        refine va_calli (va_runV (As := [.int o_10]) (rest := [.int o_8]) ⟨hx, hb, hml, hown, hts⟩ (kX5_standInOf l dC dI (p0a := (st0 (p0a 0) p0a)) (p0k := p0k) (p0w := p0w) (p0l := p0l) (p1 := o_10) (sz := _) (o := o_12) (hrun := hc_12)) (cwV 1 hts (gi_V qw541 qw542 qw543 qw442 (gi_z qw540)) rfl rfl rfl (by decide +kernel) ⟨Nat.le_of_ble_eq_true rfl, Nat.le_of_ble_eq_true rfl⟩) ⟨PRE.blind, va_recv hKc hPc (ci := 7) (q0 := 0) rfl rfl, PRE.of hE hS hFc hPc hKc hDc⟩ rfl rfl hl.1 rfl (lv_room (Nat.le_of_ble_eq_true rfl)) dX5_takeAlike_42 ⟨(Nat.le_of_ble_eq_true rfl), (Nat.le_of_ble_eq_true rfl)⟩) hS (fun q _ h => hFc q h) hFc (fun r13 u t H locs ht hvm hw hB hz1 hk1 hS => ?_)
        obtain ⟨hP, hD, hK⟩ := JOIN (wr := (oX1 (p1a 0) p1a p1k p1n p1w p1l)) hP hD hK [0, 1, 2, 3, 4, 5, 6, 7, 8, 9] [10, 11, 12, 13, 14, 15, 16, 17, 18, 19, 20, 21, 22, 23, 24, 25, 26, 27] [9, 10, 11, 12, 13, 14, 15, 16, 17, 18, 19, 20, 21, 22, 23, 24, 25] rfl rfl (by decide) (by decide) rfl hk1 hFc ht hvm hB
        have hP : va_P (dC, dI) cls ((oX5 (p0a 0) p0a p0k p0w p0l) ++ (oX1 (p1a 0) p1a p1k p1n p1w p1l)) H := hP.sub [18, 19, 20, 21, 22, 23, 24, 25, 26, 27, 0, 1, 2, 3, 4, 5, 6, 7, 8, 9, 10, 11, 12, 13, 14, 15, 16, 17] rfl
        have hD : va_D A ((oX5 (p0a 0) p0a p0k p0w p0l) ++ (oX1 (p1a 0) p1a p1k p1n p1w p1l)) := hD.sub [18, 19, 20, 21, 22, 23, 24, 25, 26, 27, 0, 1, 2, 3, 4, 5, 6, 7, 8, 9, 10, 11, 12, 13, 14, 15, 16, 17] (by decide) rfl
        have hK : va_K (dC, dI) cls ((tX5 p0k) ++ (tX1 p1k)) s := hK.sub [17, 18, 19, 20, 21, 22, 23, 24, 25, 0, 1, 2, 3, 4, 5, 6, 7, 8, 9, 10, 11, 12, 13, 14, 15, 16] rfl
        obtain rfl : o_12 = r13 := hw.symm
        rcases br9 hrun with ⟨hc14, hrun⟩ | ⟨hc14, hrun⟩
        · refine lv_icmp_eq (tgt := 50) hx hb dX5_takeAlike_45 (by decide) (fun _ => ?_) (fun c => absurd hc14 c)
          refine lv_iinc (v := (v5_3 + 1)) (lv' := [(5, .int (v5_3 + 1)), (6, .int o_4), (0, .ref (p0a 0)), (1, .ref (p1a 0)), (2, .int p2), (3, .int p3), (4, .int p4)]) hx hb dX5_takeAlike_50 hl (k := 6) rfl rfl (by decide) rfl (fun ls hl => ?_)
          refine lv_goto (tgt := 3) hx hb dX5_takeAlike_53 (by decide) ?_
          exact IH3 (v5_3 + 1) o3 _ _ _ hrun hP hD hK hS (lv_sub hl [2, 3, 4, 5, 6, 0] rfl) hr3 hk3
        · refine lv_icmp_eq (tgt := 50) hx hb dX5_takeAlike_45 (by decide) (fun c => absurd c hc14) (fun _ => ?_)
          refine lv_iconst (v := 0) hx hb dX5_takeAlike_48 (by decide) ?_
          have ho9 : 0 = o := hr3 _ (Option.some.inj hrun).symm
          have hP9 : va_P (dC, dI) cls ((oX5 (p0a 0) p0a p0k p0w p0l) ++ (oX1 (p1a 0) p1a p1k p1n p1w p1l)) H := by first | exact hP | (rw [← ho9]; exact hP)
          have hD9 : va_D A ((oX5 (p0a 0) p0a p0k p0w p0l) ++ (oX1 (p1a 0) p1a p1k p1n p1w p1l)) := by first | exact hD | (rw [← ho9]; exact hD)
          subst hQ
          exact W.zret (v := 0) hx hb hr (by decide) (fun t ht hW => ⟨⟨0, (), rfl, (by rw [← ho9]), ⟨by rw [ht]; exact hP9, va_K.moved hW.alike hK, hD9⟩⟩, hS.F ht⟩) hS.2.2 dX5_takeAlike_49
  obtain ⟨o3, hc3, hrun⟩ := bnd9 hrun
  refine L3 NF 0 o3 _ _ _ hc3 hP hD hK hS (lv_sub hl [1, 2, 3, 4, 5, 0] rfl) (fun r e9 => by subst e9; exact Option.some.inj hrun) ?_
  intro t3 e9
  subst e9
  replace hrun := el9 hrun
  intro H locs ls hP hD hK hS hl
  have hl := hl
  refine lv_iconst (v := 1) hx hb dX5_takeAlike_56 (by decide) ?_
  have ho9 : 1 = o := Option.some.inj hrun
  have hP9 : va_P (dC, dI) cls ((oX5 (p0a 0) p0a p0k p0w p0l) ++ (oX1 (p1a 0) p1a p1k p1n p1w p1l)) H := by first | exact hP | (rw [← ho9]; exact hP)
  have hD9 : va_D A ((oX5 (p0a 0) p0a p0k p0w p0l) ++ (oX1 (p1a 0) p1a p1k p1n p1w p1l)) := by first | exact hD | (rw [← ho9]; exact hD)
  subst hQ
  exact W.zret (v := 1) hx hb hr (by decide) (fun t ht hW => ⟨⟨1, (), rfl, (by rw [← ho9]), ⟨by rw [ht]; exact hP9, va_K.moved hW.alike hK, hD9⟩⟩, hS.F ht⟩) hS.2.2 dX5_takeAlike_57
def fX5_joinPhi_J93 (kk40 : Int32 → Option (Sum ST Unit)) (p1n : Nat → Nat) (p1w : ST) (v6_40 : Int32) : Option (Sum ST Unit) := (if ixb v6_40 (p1n 20) = true then (kk40 (p1w 20 (nn v6_40))) else none)
def fX5_joinPhi_L40 (p0w : ST) (p1n : Nat → Nat) (p1w : ST) (p2 : Int32) (p3 : Int32) : Nat → Int32 → Option (Sum ST Unit)
  | 0 => fun _ => none
  | n_40 + 1 => fun v6_40 => (if v6_40 < 0 then some (Sum.inr ()) else (if v6_40 = p3 then some (Sum.inr ()) else (if ixb v6_40 (p1n 19) = true then (if ixb (p1w 19 (nn v6_40)) 250 = true then (if 0 ≤ (p0w 6 (nn (p1w 19 (nn v6_40)))) then (fX5_joinPhi_J93 (fX5_joinPhi_L40 p0w p1n p1w p2 p3 n_40) p1n p1w v6_40) else ((fX5_takeAlike p0w p1n p1w p2 v6_40 p3).bind fun (o_12 : Int32) => (if o_12 = 0 then (fX5_joinPhi_J93 (fX5_joinPhi_L40 p0w p1n p1w p2 p3 n_40) p1n p1w v6_40) else (if ixb v6_40 (p1n 19) = true then (if ixb (p1w 19 (nn p3)) 250 = true then (lt9 (upw p0w 6 (nn (p1w 19 (nn p3))) (p1w 19 (nn v6_40))) fun (w17 : ST) => some (Sum.inl w17)) else none) else none)))) else none) else none)))
def fX5_joinPhi (p0w : ST) (p1n : Nat → Nat) (p1w : ST) (p2 : Int32) (p3 : Int32) : Option ST := (if ixb p3 (p1n 19) = true then ((fX5_onlyTake p0w p1n p1w p2 p3).bind fun (o_2 : Int32) => (if o_2 < 0 then (if ixb p2 60 = true then ((fX5_joinPhi_L40 p0w p1n p1w p2 p3 NF (p1w 6 (nn p2))).bind fun (o40 : (Sum ST Unit)) => Sum.elim (fun r => some r) (fun (t40 : Unit) => some p0w) o40) else none) else (if ixb (p1w 19 (nn p3)) 250 = true then (lt9 (upw p0w 6 (nn (p1w 19 (nn p3))) o_2) fun (w19 : ST) => some w19) else none))) else none)
set_option maxHeartbeats 16000000 in
set_option maxRecDepth 100000 in
theorem kX5_joinPhi {zs : Nat × Nat} (l : Launch) (dC : Nat → ClassId) (dI : Nat → Nat → Nat) (p0a : Nat → Nat) (p0k : Nat → ClassId) (p0w : ST) (p0l : SL) (p1a : Nat → Nat) (p1k : Nat → ClassId) (p1n : Nat → Nat) (p1w : ST) (p1l : SL) (p2 : Int32) (p3 : Int32) (sz : Nat) (o : ST) (hrun : fX5_joinPhi p0w p1n p1w p2 p3 = some o) : Met l yX5_joinPhi (wz yX5_joinPhi cX5_joinPhi 7 (Option.none : Option Jvm.ClassFile.FieldType)) ({ frames := 2, cells := 0, slots := 0, locals := 49 } : Room) (va_Pc [.ref (p0a 0), .ref (p1a 0), .int p2, .int p3] (PRE zs dC dI ((oX5 (p0a 0) p0a p0k p0w p0l) ++ (oX1 (p1a 0) p1a p1k p1n p1w p1l)) ((tX5 p0k) ++ (tX1 p1k)) sz)) (va_Qv (fun (_ : Unit) => True) (fun _ t => POST dC dI ((oX5 (p0a 0) p0a p0k o p0l) ++ (oX1 (p1a 0) p1a p1k p1n p1w p1l)) ((tX5 p0k) ++ (tX1 p1k)) (va_A ((oX5 (p0a 0) p0a p0k p0w p0l) ++ (oX1 (p1a 0) p1a p1k p1n p1w p1l)) sz) t) (va_A ((oX5 (p0a 0) p0a p0k p0w p0l) ++ (oX1 (p1a 0) p1a p1k p1n p1w p1l)) sz)) 0 0 (va_A ((oX5 (p0a 0) p0a p0k p0w p0l) ++ (oX1 (p1a 0) p1a p1k p1n p1w p1l)) sz) := by
  refine Met.ofW (cc := cX5_joinPhi) (maxL := 7) (ret := (Option.none : Option Jvm.ClassFile.FieldType)) (by decide) rfl ?_
  intro p e s m args below meth c s₁ B hml hv
  obtain ⟨rfl, hsz, hP, hK, hD0, hE⟩ := hv
  have hx := B.exec
  have hb := B.bytes
  have hr := B.returns
  have hts0 := atoms_spec (ws := wz yX5_joinPhi cX5_joinPhi 7 (Option.none : Option Jvm.ClassFile.FieldType)) B.pre
  have hts : ∀ w ∈ gw, w.before _ s = true := fun w h => hts0 w (List.mem_cons_of_mem _ h)
  have hown : s.vm.findClass RX5 = some m.cls := findClass_of_methodNamed B.named
  have hlocks := B.notSynchronized
  subst hsz
  have hD := hD0.self (sz := s.heap.size)
  refine gQ9 ?_
  intro Q hQ
  generalize hAe : va_A ((oX5 (p0a 0) p0a p0k p0w p0l) ++ (oX1 (p1a 0) p1a p1k p1n p1w p1l)) s.heap.size = A at hD hE hQ
  have hA : ∀ q : Nat, s.heap.size ≤ q → A q := fun q h => by rw [← hAe]; exact Or.inr h
  have hS : va_S A s.heap s.heap [] := va_S.rf
  have hP : va_P (dC, dI) cls ((oX5 (p0a 0) p0a p0k p0w p0l) ++ (oX1 (p1a 0) p1a p1k p1n p1w p1l)) s.heap := hP
  have hl := lv_entry ([.ref (p0a 0), .ref (p1a 0), .int p2, .int p3]) (n := 7) (Nat.le_of_ble_eq_true rfl)
  rw [lg_entry_eq]
  generalize (lg_sl ([.ref (p0a 0), .ref (p1a 0), .int p2, .int p3]) ++ List.replicate (7 - (lg_sl ([.ref (p0a 0), .ref (p1a 0), .int p2, .int p3])).length) Slot.unset).toArray = ls at hl ⊢
  have hl : lv_has ls 7 [(0, .ref (p0a 0)), (1, .ref (p1a 0)), (2, .int p2), (3, .int p3)] := hl
  obtain ⟨H, hHe⟩ : ∃ H, H = s.heap := ⟨_, rfl⟩
  obtain ⟨locs, hle⟩ : ∃ locs : List Loc, locs = [] := ⟨_, rfl⟩
  rw [← hHe] at hP
  have hS : va_S A s.heap H locs := by rw [hHe, hle]; exact hS
  show W p l e ({ frames := 2, cells := 0, slots := 0, locals := 49 } : Room) s m ([.ref (p0a 0), .ref (p1a 0), .int p2, .int p3] : List Value).toArray below meth c s.heap [] 0 0 Q (F0 m 0 ls [])
  rw [← hle]
  refine wH9 hHe ?_
  unfold fX5_joinPhi at hrun
  refine lv_aload_n hx hb dX5_joinPhi_0 rfl (lv_at hl 1 rfl) ?_
  refine va_get (D := (dC, dI)) (ci := 4) (v := .ref (p1a 19)) (C := RX1) (T := TX1) (N := 21) hx hb hts i_X1 hown hK hP 10 rfl rfl 18 (by decide) (hts _ qw432) (fun _ h9 => h9) rfl dX5_joinPhi_1 ?_
  refine lv_iload_n hx hb dX5_joinPhi_4 rfl (lv_at hl 3 rfl) ?_
  obtain ⟨hq1, hrun⟩ := chk9 hrun
  refine va_iald hx hb hK hP 25 23 rfl rfl (ixb_in hq1) dX5_joinPhi_5 ?_
  refine lv_istore (lv' := [(4, .int (p1w 19 (nn p3))), (0, .ref (p0a 0)), (1, .ref (p1a 0)), (2, .int p2), (3, .int p3)]) hx hb dX5_joinPhi_6 hl (by decide) rfl (fun ls hl => ?_)
  refine lv_aload_n hx hb dX5_joinPhi_8 rfl (lv_at hl 1 rfl) ?_
  refine lv_aload_n hx hb dX5_joinPhi_9 rfl (lv_at hl 2 rfl) ?_
  refine lv_iload_n hx hb dX5_joinPhi_10 rfl (lv_at hl 3 rfl) ?_
  refine lv_iload_n hx hb dX5_joinPhi_11 rfl (lv_at hl 4 rfl) ?_
  obtain ⟨o_2, hc_2, hrun⟩ := bnd9 hrun
  have hPc := hP.sub (ws' := ((oX5 (p0a 0) p0a p0k p0w p0l) ++ (oX1 (p1a 0) p1a p1k p1n p1w p1l))) [0, 1, 2, 3, 4, 5, 6, 7, 8, 9, 10, 11, 12, 13, 14, 15, 16, 17, 18, 19, 20, 21, 22, 23, 24, 25, 26, 27] rfl
  have hDc := hD.sub (ws' := ((oX5 (p0a 0) p0a p0k p0w p0l) ++ (oX1 (p1a 0) p1a p1k p1n p1w p1l))) [0, 1, 2, 3, 4, 5, 6, 7, 8, 9, 10, 11, 12, 13, 14, 15, 16, 17, 18, 19, 20, 21, 22, 23, 24, 25, 26, 27] (by decide) rfl
  have hKc := hK.sub (tys' := ((tX5 p0k) ++ (tX1 p1k))) [0, 1, 2, 3, 4, 5, 6, 7, 8, 9, 10, 11, 12, 13, 14, 15, 16, 17, 18, 19, 20, 21, 22, 23, 24, 25] rfl
  have hFc := va_free (wc := ((oX5 (p0a 0) p0a p0k p0w p0l) ++ (oX1 (p1a 0) p1a p1k p1n p1w p1l))) hD hS hA [0, 1, 2, 3, 4, 5, 6, 7, 8, 9, 10, 11, 12, 13, 14, 15, 16, 17, 18, 19, 20, 21, 22, 23, 24, 25, 26, 27] rfl
  refine va_calli (va_runV (As := [.ref (p1a 0), .int p2, .int p3]) (rest := []) ⟨hx, hb, hml, hown, hts⟩ (kX5_onlyTake l dC dI (p0a := (st0 (p0a 0) p0a)) (p0k := p0k) (p0w := p0w) (p0l := p0l) (p1a := (st0 (p1a 0) p1a)) (p1k := p1k) (p1n := p1n) (p1w := p1w) (p1l := p1l) (p2 := p2) (p3 := p3) (sz := _) (o := o_2) (hrun := hc_2)) (cwV 3 hts (gi_V qw545 qw546 qw547 qw442 (gi_z qw544)) rfl rfl rfl (by decide +kernel) ⟨Nat.le_of_ble_eq_true rfl, Nat.le_of_ble_eq_true rfl⟩) ⟨PRE.blind, va_recv hKc hPc (ci := 7) (q0 := 0) rfl rfl, PRE.of hE hS hFc hPc hKc hDc⟩ rfl rfl hl.1 rfl (lv_room (Nat.le_of_ble_eq_true rfl)) dX5_joinPhi_12 ⟨(Nat.le_of_ble_eq_true rfl), (Nat.le_of_ble_eq_true rfl)⟩) hS (fun q _ h => hFc q h) hFc (fun r3 u t H locs ht hvm hw hB hz1 hk1 hS => ?_)
  obtain ⟨hP, hD, hK⟩ := JOIN (wr := ([] : va_W)) hP hD hK [0, 1, 2, 3, 4, 5, 6, 7, 8, 9, 10, 11, 12, 13, 14, 15, 16, 17, 18, 19, 20, 21, 22, 23, 24, 25, 26, 27] [] [] rfl rfl (by decide) (by decide) rfl hk1 hFc ht hvm hB
  have hP : va_P (dC, dI) cls ((oX5 (p0a 0) p0a p0k p0w p0l) ++ (oX1 (p1a 0) p1a p1k p1n p1w p1l)) H := hP.sub [0, 1, 2, 3, 4, 5, 6, 7, 8, 9, 10, 11, 12, 13, 14, 15, 16, 17, 18, 19, 20, 21, 22, 23, 24, 25, 26, 27] rfl
  have hD : va_D A ((oX5 (p0a 0) p0a p0k p0w p0l) ++ (oX1 (p1a 0) p1a p1k p1n p1w p1l)) := hD.sub [0, 1, 2, 3, 4, 5, 6, 7, 8, 9, 10, 11, 12, 13, 14, 15, 16, 17, 18, 19, 20, 21, 22, 23, 24, 25, 26, 27] (by decide) rfl
  have hK : va_K (dC, dI) cls ((tX5 p0k) ++ (tX1 p1k)) s := hK.sub [0, 1, 2, 3, 4, 5, 6, 7, 8, 9, 10, 11, 12, 13, 14, 15, 16, 17, 18, 19, 20, 21, 22, 23, 24, 25] rfl
  obtain rfl : o_2 = r3 := hw.symm
  refine lv_istore (lv' := [(5, .int o_2), (4, .int (p1w 19 (nn p3))), (0, .ref (p0a 0)), (1, .ref (p1a 0)), (2, .int p2), (3, .int p3)]) hx hb dX5_joinPhi_15 hl (by decide) rfl (fun ls hl => ?_)
  refine lv_iload hx hb dX5_joinPhi_17 (lv_at hl 0 rfl) ?_
  rcases br9 hrun with ⟨hc4, hrun⟩ | ⟨hc4, hrun⟩
  · refine lv_if_lt (tgt := 32) hx hb dX5_joinPhi_19 (by decide) (fun _ => ?_) (fun c => absurd hc4 c)
    refine lv_aload_n hx hb dX5_joinPhi_32 rfl (lv_at hl 3 rfl) ?_
    refine va_get (D := (dC, dI)) (ci := 4) (v := .ref (p1a 6)) (C := RX1) (T := TX1) (N := 21) hx hb hts i_X1 hown hK hP 10 rfl rfl 5 (by decide) (hts _ qw431) (fun _ h9 => h9) rfl dX5_joinPhi_33 ?_
    refine lv_iload_n hx hb dX5_joinPhi_36 rfl (lv_at hl 4 rfl) ?_
    obtain ⟨hq5, hrun⟩ := chk9 hrun
    refine va_iald hx hb hK hP 13 11 rfl rfl (ixb_in hq5) dX5_joinPhi_37 ?_
    refine lv_istore (lv' := [(6, .int (p1w 6 (nn p2))), (5, .int o_2), (4, .int (p1w 19 (nn p3))), (0, .ref (p0a 0)), (1, .ref (p1a 0)), (2, .int p2), (3, .int p3)]) hx hb dX5_joinPhi_38 hl (by decide) rfl (fun ls hl => ?_)
    have L40 : ∀ (n_40 : Nat) (v6_40 : Int32) (o40 : (Sum ST Unit)) (H : Heap) (locs : List Loc) (ls : Array Slot), (fX5_joinPhi_L40 p0w p1n p1w p2 p3 n_40) v6_40 = some o40 → va_P (dC, dI) cls ((oX5 (p0a 0) p0a p0k p0w p0l) ++ (oX1 (p1a 0) p1a p1k p1n p1w p1l)) H → va_D A ((oX5 (p0a 0) p0a p0k p0w p0l) ++ (oX1 (p1a 0) p1a p1k p1n p1w p1l)) → va_K (dC, dI) cls ((tX5 p0k) ++ (tX1 p1k)) s → va_S A s.heap H locs → lv_has ls 7 [(0, .ref (p0a 0)), (1, .ref (p1a 0)), (2, .int p2), (3, .int p3), (4, .int (p1w 19 (nn p3))), (6, .int v6_40)] → (∀ r, o40 = Sum.inl r → r = o) → (∀ (t40 : Unit), o40 = Sum.inr t40 → ∀ (H : Heap) (locs : List Loc) (ls : Array Slot), va_P (dC, dI) cls ((oX5 (p0a 0) p0a p0k p0w p0l) ++ (oX1 (p1a 0) p1a p1k p1n p1w p1l)) H → va_D A ((oX5 (p0a 0) p0a p0k p0w p0l) ++ (oX1 (p1a 0) p1a p1k p1n p1w p1l)) → va_K (dC, dI) cls ((tX5 p0k) ++ (tX1 p1k)) s → va_S A s.heap H locs → lv_has ls 7 [] → W p l e ({ frames := 2, cells := 0, slots := 0, locals := 49 } : Room) s m ([.ref (p0a 0), .ref (p1a 0), .int p2, .int p3] : List Value).toArray below meth c H locs 0 0 Q (F0 m 105 ls [])) → W p l e ({ frames := 2, cells := 0, slots := 0, locals := 49 } : Room) s m ([.ref (p0a 0), .ref (p1a 0), .int p2, .int p3] : List Value).toArray below meth c H locs 0 0 Q (F0 m 40 ls []) := by
      intro n_40
      induction n_40 with
      | zero => intro v6_40 o40 H locs ls hrun; exact (no9 rfl hrun).elim
      | succ n_40 IH40 =>
        intro v6_40 o40 H locs ls hrun hP hD hK hS hl hr40 hk40
        unfold fX5_joinPhi_L40 at hrun
        refine lv_iload hx hb dX5_joinPhi_40 (lv_at hl 5 rfl) ?_
        rcases br9 hrun with ⟨hc6, hrun⟩ | ⟨hc6, hrun⟩
        · refine lv_if_lt (tgt := 105) hx hb dX5_joinPhi_42 (by decide) (fun _ => ?_) (fun c => absurd hc6 c)
          obtain rfl := (Option.some.inj hrun)
          exact hk40 _ rfl _ _ _ hP hD hK hS (lv_sub hl [] rfl)
        · refine lv_if_lt (tgt := 105) hx hb dX5_joinPhi_42 (by decide) (fun c => absurd c hc6) (fun _ => ?_)
          refine lv_iload hx hb dX5_joinPhi_45 (lv_at hl 5 rfl) ?_
          refine lv_iload_n hx hb dX5_joinPhi_47 rfl (lv_at hl 3 rfl) ?_
          rcases br9 hrun with ⟨hc7, hrun⟩ | ⟨hc7, hrun⟩
          · refine lv_icmp_eq (tgt := 105) hx hb dX5_joinPhi_48 (by decide) (fun _ => ?_) (fun c => absurd hc7 c)
            obtain rfl := (Option.some.inj hrun)
            exact hk40 _ rfl _ _ _ hP hD hK hS (lv_sub hl [] rfl)
          · refine lv_icmp_eq (tgt := 105) hx hb dX5_joinPhi_48 (by decide) (fun c => absurd c hc7) (fun _ => ?_)
            refine lv_aload_n hx hb dX5_joinPhi_51 rfl (lv_at hl 0 rfl) ?_
            refine va_get (D := (dC, dI)) (ci := 7) (v := .ref (p0a 6)) (C := RX5) (T := TX5) (N := 12) hx hb hts i_X5 hown hK hP 0 rfl rfl 5 (by decide) (hts _ qw539) (fun _ h9 => h9) rfl dX5_joinPhi_52 ?_
            refine lv_aload_n hx hb dX5_joinPhi_55 rfl (lv_at hl 1 rfl) ?_
            refine va_get (D := (dC, dI)) (ci := 4) (v := .ref (p1a 19)) (C := RX1) (T := TX1) (N := 21) hx hb hts i_X1 hown hK hP 10 rfl rfl 18 (by decide) (hts _ qw432) (fun _ h9 => h9) rfl dX5_joinPhi_56 ?_
            refine lv_iload hx hb dX5_joinPhi_59 (lv_at hl 5 rfl) ?_
            obtain ⟨hq8, hrun⟩ := chk9 hrun
            refine va_iald hx hb hK hP 25 23 rfl rfl (ixb_in hq8) dX5_joinPhi_61 ?_
            obtain ⟨hq9, hrun⟩ := chk9 hrun
            refine va_iald hx hb hK hP 5 4 rfl rfl (ixb_in hq9) dX5_joinPhi_62 ?_
            have J93 : ∀ (H : Heap) (locs : List Loc) (ls : Array Slot), (fX5_joinPhi_J93 (fX5_joinPhi_L40 p0w p1n p1w p2 p3 n_40) p1n p1w v6_40) = some o40 → va_P (dC, dI) cls ((oX5 (p0a 0) p0a p0k p0w p0l) ++ (oX1 (p1a 0) p1a p1k p1n p1w p1l)) H → va_D A ((oX5 (p0a 0) p0a p0k p0w p0l) ++ (oX1 (p1a 0) p1a p1k p1n p1w p1l)) → va_K (dC, dI) cls ((tX5 p0k) ++ (tX1 p1k)) s → va_S A s.heap H locs → lv_has ls 7 [(0, .ref (p0a 0)), (1, .ref (p1a 0)), (2, .int p2), (3, .int p3), (4, .int (p1w 19 (nn p3))), (6, .int v6_40)] → W p l e ({ frames := 2, cells := 0, slots := 0, locals := 49 } : Room) s m ([.ref (p0a 0), .ref (p1a 0), .int p2, .int p3] : List Value).toArray below meth c H locs 0 0 Q (F0 m 93 ls []) := by
              intro  H locs ls hrun hP hD hK hS hl 
              unfold fX5_joinPhi_J93 at hrun
              refine lv_aload_n hx hb dX5_joinPhi_93 rfl (lv_at hl 1 rfl) ?_
              refine va_get (D := (dC, dI)) (ci := 4) (v := .ref (p1a 20)) (C := RX1) (T := TX1) (N := 21) hx hb hts i_X1 hown hK hP 10 rfl rfl 19 (by decide) (hts _ qw433) (fun _ h9 => h9) rfl dX5_joinPhi_94 ?_
              refine lv_iload hx hb dX5_joinPhi_97 (lv_at hl 5 rfl) ?_
              obtain ⟨hq10, hrun⟩ := chk9 hrun
              refine va_iald hx hb hK hP 26 24 rfl rfl (ixb_in hq10) dX5_joinPhi_99 ?_
              refine lv_istore (lv' := [(6, .int (p1w 20 (nn v6_40))), (0, .ref (p0a 0)), (1, .ref (p1a 0)), (2, .int p2), (3, .int p3), (4, .int (p1w 19 (nn p3)))]) hx hb dX5_joinPhi_100 hl (by decide) rfl (fun ls hl => ?_)
              refine lv_goto (tgt := 40) hx hb dX5_joinPhi_102 (by decide) ?_
              exact IH40 (p1w 20 (nn v6_40)) o40 _ _ _ hrun hP hD hK hS (lv_sub hl [1, 2, 3, 4, 5, 0] rfl) hr40 hk40
            rcases br9 hrun with ⟨hc11, hrun⟩ | ⟨hc11, hrun⟩
            · refine lv_if_ge (tgt := 93) hx hb dX5_joinPhi_63 (by decide) (fun _ => ?_) (fun c => absurd hc11 c)
              exact J93 _ _ _ hrun hP hD hK hS (lv_sub hl [0, 1, 2, 3, 4, 5] rfl)
            · refine lv_if_ge (tgt := 93) hx hb dX5_joinPhi_63 (by decide) (fun c => absurd c hc11) (fun _ => ?_)
              refine lv_aload_n hx hb dX5_joinPhi_66 rfl (lv_at hl 0 rfl) ?_
              refine lv_aload_n hx hb dX5_joinPhi_67 rfl (lv_at hl 1 rfl) ?_
              refine lv_iload_n hx hb dX5_joinPhi_68 rfl (lv_at hl 2 rfl) ?_
              refine lv_iload hx hb dX5_joinPhi_69 (lv_at hl 5 rfl) ?_
              refine lv_iload_n hx hb dX5_joinPhi_71 rfl (lv_at hl 3 rfl) ?_
              obtain ⟨o_12, hc_12, hrun⟩ := bnd9 hrun
              have hPc := hP.sub (ws' := ((oX5 (p0a 0) p0a p0k p0w p0l) ++ (oX1 (p1a 0) p1a p1k p1n p1w p1l))) [0, 1, 2, 3, 4, 5, 6, 7, 8, 9, 10, 11, 12, 13, 14, 15, 16, 17, 18, 19, 20, 21, 22, 23, 24, 25, 26, 27] rfl
              have hDc := hD.sub (ws' := ((oX5 (p0a 0) p0a p0k p0w p0l) ++ (oX1 (p1a 0) p1a p1k p1n p1w p1l))) [0, 1, 2, 3, 4, 5, 6, 7, 8, 9, 10, 11, 12, 13, 14, 15, 16, 17, 18, 19, 20, 21, 22, 23, 24, 25, 26, 27] (by decide) rfl
              have hKc := hK.sub (tys' := ((tX5 p0k) ++ (tX1 p1k))) [0, 1, 2, 3, 4, 5, 6, 7, 8, 9, 10, 11, 12, 13, 14, 15, 16, 17, 18, 19, 20, 21, 22, 23, 24, 25] rfl
              have hFc := va_free (wc := ((oX5 (p0a 0) p0a p0k p0w p0l) ++ (oX1 (p1a 0) p1a p1k p1n p1w p1l))) hD hS hA [0, 1, 2, 3, 4, 5, 6, 7, 8, 9, 10, 11, 12, 13, 14, 15, 16, 17, 18, 19, 20, 21, 22, 23, 24, 25, 26, 27] rfl
              refine va_calli (va_runV (As := [.ref (p1a 0), .int p2, .int v6_40, .int p3]) (rest := []) ⟨hx, hb, hml, hown, hts⟩ (kX5_takeAlike l dC dI (p0a := (st0 (p0a 0) p0a)) (p0k := p0k) (p0w := p0w) (p0l := p0l) (p1a := (st0 (p1a 0) p1a)) (p1k := p1k) (p1n := p1n) (p1w := p1w) (p1l := p1l) (p2 := p2) (p3 := v6_40) (p4 := p3) (sz := _) (o := o_12) (hrun := hc_12)) (cwV 4 hts (gi_V qw549 qw550 qw551 qw442 (gi_z qw548)) rfl rfl rfl (by decide +kernel) ⟨Nat.le_of_ble_eq_true rfl, Nat.le_of_ble_eq_true rfl⟩) ⟨PRE.blind, va_recv hKc hPc (ci := 7) (q0 := 0) rfl rfl, PRE.of hE hS hFc hPc hKc hDc⟩ rfl rfl hl.1 rfl (lv_room (Nat.le_of_ble_eq_true rfl)) dX5_joinPhi_72 ⟨(Nat.le_of_ble_eq_true rfl), (Nat.le_of_ble_eq_true rfl)⟩) hS (fun q _ h => hFc q h) hFc (fun r13 u t H locs ht hvm hw hB hz1 hk1 hS => ?_)
              obtain ⟨hP, hD, hK⟩ := JOIN (wr := ([] : va_W)) hP hD hK [0, 1, 2, 3, 4, 5, 6, 7, 8, 9, 10, 11, 12, 13, 14, 15, 16, 17, 18, 19, 20, 21, 22, 23, 24, 25, 26, 27] [] [] rfl rfl (by decide) (by decide) rfl hk1 hFc ht hvm hB
              have hP : va_P (dC, dI) cls ((oX5 (p0a 0) p0a p0k p0w p0l) ++ (oX1 (p1a 0) p1a p1k p1n p1w p1l)) H := hP.sub [0, 1, 2, 3, 4, 5, 6, 7, 8, 9, 10, 11, 12, 13, 14, 15, 16, 17, 18, 19, 20, 21, 22, 23, 24, 25, 26, 27] rfl
              have hD : va_D A ((oX5 (p0a 0) p0a p0k p0w p0l) ++ (oX1 (p1a 0) p1a p1k p1n p1w p1l)) := hD.sub [0, 1, 2, 3, 4, 5, 6, 7, 8, 9, 10, 11, 12, 13, 14, 15, 16, 17, 18, 19, 20, 21, 22, 23, 24, 25, 26, 27] (by decide) rfl
              have hK : va_K (dC, dI) cls ((tX5 p0k) ++ (tX1 p1k)) s := hK.sub [0, 1, 2, 3, 4, 5, 6, 7, 8, 9, 10, 11, 12, 13, 14, 15, 16, 17, 18, 19, 20, 21, 22, 23, 24, 25] rfl
              obtain rfl : o_12 = r13 := hw.symm
              rcases br9 hrun with ⟨hc14, hrun⟩ | ⟨hc14, hrun⟩
              · refine lv_if_eq (tgt := 93) hx hb dX5_joinPhi_75 (by decide) (fun _ => ?_) (fun c => absurd hc14 c)
                exact J93 _ _ _ hrun hP hD hK hS (lv_sub hl [0, 1, 2, 3, 4, 5] rfl)
              · refine lv_if_eq (tgt := 93) hx hb dX5_joinPhi_75 (by decide) (fun c => absurd c hc14) (fun _ => ?_)
                refine lv_aload_n hx hb dX5_joinPhi_78 rfl (lv_at hl 0 rfl) ?_
                refine va_get (D := (dC, dI)) (ci := 7) (v := .ref (p0a 6)) (C := RX5) (T := TX5) (N := 12) hx hb hts i_X5 hown hK hP 0 rfl rfl 5 (by decide) (hts _ qw539) (fun _ h9 => h9) rfl dX5_joinPhi_79 ?_
                refine lv_iload hx hb dX5_joinPhi_82 (lv_at hl 4 rfl) ?_
                refine lv_aload_n hx hb dX5_joinPhi_84 rfl (lv_at hl 1 rfl) ?_
                refine va_get (D := (dC, dI)) (ci := 4) (v := .ref (p1a 19)) (C := RX1) (T := TX1) (N := 21) hx hb hts i_X1 hown hK hP 10 rfl rfl 18 (by decide) (hts _ qw432) (fun _ h9 => h9) rfl dX5_joinPhi_85 ?_
                refine lv_iload hx hb dX5_joinPhi_88 (lv_at hl 5 rfl) ?_
                obtain ⟨hq15, hrun⟩ := chk9 hrun
                refine va_iald hx hb hK hP 25 23 rfl rfl (ixb_in hq15) dX5_joinPhi_90 ?_
                obtain ⟨hq16, hrun⟩ := chk9 hrun
                refine va_iast hx hb hK hP hD hS 5 4 rfl rfl (ixb_in hq16) dX5_joinPhi_91 (fun H locs hP hD hS => ?_)
                have hP : va_P (dC, dI) cls ((oX5 (p0a 0) p0a p0k (upw p0w 6 (nn (p1w 19 (nn p3))) (p1w 19 (nn v6_40))) p0l) ++ (oX1 (p1a 0) p1a p1k p1n p1w p1l)) H := hP
                have hD : va_D A ((oX5 (p0a 0) p0a p0k (upw p0w 6 (nn (p1w 19 (nn p3))) (p1w 19 (nn v6_40))) p0l) ++ (oX1 (p1a 0) p1a p1k p1n p1w p1l)) := hD
                obtain ⟨w17, ew17, hrun⟩ := let9 hrun
                rw [← ew17] at hP hD
                have ho9 : w17 = o := hr40 _ (Option.some.inj hrun).symm
                have hP9 : va_P (dC, dI) cls ((oX5 (p0a 0) p0a p0k o p0l) ++ (oX1 (p1a 0) p1a p1k p1n p1w p1l)) H := by first | exact hP | (rw [← ho9]; exact hP)
                have hD9 : va_D A ((oX5 (p0a 0) p0a p0k o p0l) ++ (oX1 (p1a 0) p1a p1k p1n p1w p1l)) := by first | exact hD | (rw [← ho9]; exact hD)
                subst hQ
                exact W.vret hx hb hr (fun t ht hW => ⟨⟨(), rfl, trivial, ⟨by rw [ht]; exact hP9, va_K.moved hW.alike hK, hD9⟩⟩, hS.F ht⟩) hS.2.2 dX5_joinPhi_92
    obtain ⟨o40, hc40, hrun⟩ := bnd9 hrun
    refine L40 NF (p1w 6 (nn p2)) o40 _ _ _ hc40 hP hD hK hS (lv_sub hl [3, 4, 5, 6, 2, 0] rfl) (fun r e9 => by subst e9; exact Option.some.inj hrun) ?_
    intro t40 e9
    subst e9
    replace hrun := el9 hrun
    intro H locs ls hP hD hK hS hl
    have hl := hl
    have ho9 : p0w = o := Option.some.inj hrun
    have hP9 : va_P (dC, dI) cls ((oX5 (p0a 0) p0a p0k o p0l) ++ (oX1 (p1a 0) p1a p1k p1n p1w p1l)) H := by first | exact hP | (rw [← ho9]; exact hP)
    have hD9 : va_D A ((oX5 (p0a 0) p0a p0k o p0l) ++ (oX1 (p1a 0) p1a p1k p1n p1w p1l)) := by first | exact hD | (rw [← ho9]; exact hD)
    subst hQ
    exact W.vret hx hb hr (fun t ht hW => ⟨⟨(), rfl, trivial, ⟨by rw [ht]; exact hP9, va_K.moved hW.alike hK, hD9⟩⟩, hS.F ht⟩) hS.2.2 dX5_joinPhi_105
  · refine lv_if_lt (tgt := 32) hx hb dX5_joinPhi_19 (by decide) (fun c => absurd c hc4) (fun _ => ?_)
    refine lv_aload_n hx hb dX5_joinPhi_22 rfl (lv_at hl 2 rfl) ?_
    refine va_get (D := (dC, dI)) (ci := 7) (v := .ref (p0a 6)) (C := RX5) (T := TX5) (N := 12) hx hb hts i_X5 hown hK hP 0 rfl rfl 5 (by decide) (hts _ qw539) (fun _ h9 => h9) rfl dX5_joinPhi_23 ?_
    refine lv_iload hx hb dX5_joinPhi_26 (lv_at hl 1 rfl) ?_
    refine lv_iload hx hb dX5_joinPhi_28 (lv_at hl 0 rfl) ?_
    obtain ⟨hq18, hrun⟩ := chk9 hrun
    refine va_iast hx hb hK hP hD hS 5 4 rfl rfl (ixb_in hq18) dX5_joinPhi_30 (fun H locs hP hD hS => ?_)
    have hP : va_P (dC, dI) cls ((oX5 (p0a 0) p0a p0k (upw p0w 6 (nn (p1w 19 (nn p3))) o_2) p0l) ++ (oX1 (p1a 0) p1a p1k p1n p1w p1l)) H := hP
    have hD : va_D A ((oX5 (p0a 0) p0a p0k (upw p0w 6 (nn (p1w 19 (nn p3))) o_2) p0l) ++ (oX1 (p1a 0) p1a p1k p1n p1w p1l)) := hD
    obtain ⟨w19, ew19, hrun⟩ := let9 hrun
    rw [← ew19] at hP hD
    have ho9 : w19 = o := Option.some.inj hrun
    have hP9 : va_P (dC, dI) cls ((oX5 (p0a 0) p0a p0k o p0l) ++ (oX1 (p1a 0) p1a p1k p1n p1w p1l)) H := by first | exact hP | (rw [← ho9]; exact hP)
    have hD9 : va_D A ((oX5 (p0a 0) p0a p0k o p0l) ++ (oX1 (p1a 0) p1a p1k p1n p1w p1l)) := by first | exact hD | (rw [← ho9]; exact hD)
    subst hQ
    exact W.vret hx hb hr (fun t ht hW => ⟨⟨(), rfl, trivial, ⟨by rw [ht]; exact hP9, va_K.moved hW.alike hK, hD9⟩⟩, hS.F ht⟩) hS.2.2 dX5_joinPhi_31
def fX5_joinSeen_J133 (kk9 : Int32 → Option (Sum ST Unit)) (v5_9 : Int32) : Option (Sum ST Unit) := (kk9 (v5_9 + 1))
def fX5_joinSeen_J86 (kk9 : Int32 → Option (Sum ST Unit)) (p0w : ST) (p1l : SL) (p2 : Int32) (p3 : Int32) (p1_2n : Nat → Nat) (p1_2w : ST) (v5_9 : Int32) (y0_86 : Int32) : Option (Sum ST Unit) := (if y0_86 = 0 then (fX5_joinSeen_J133 kk9 v5_9) else (if ixb p2 60 = true then (if ixb v5_9 250 = true then ((fX11_holds (p1l 16 (nn p2)) (p0w 10 (nn v5_9))).bind fun (o_8 : Int32) => (if o_8 = 0 then (fX5_joinSeen_J133 kk9 v5_9) else (if ixb p3 (p1_2n 3) = true then (if ixb (p0w 9 (nn v5_9)) (p1_2n 3) = true then (if ixb (p1_2w 3 (nn p3)) 250 = true then (lt9 (upw p0w 6 (nn (p1_2w 3 (nn p3))) (p1_2w 3 (nn (p0w 9 (nn v5_9))))) fun (w14 : ST) => some (Sum.inl w14)) else none) else none) else none))) else none) else none))
def fX5_joinSeen_J85 (kk9 : Int32 → Option (Sum ST Unit)) (p0w : ST) (p1l : SL) (p2 : Int32) (p3 : Int32) (p1_2n : Nat → Nat) (p1_2w : ST) (v5_9 : Int32) : Option (Sum ST Unit) := (fX5_joinSeen_J86 kk9 p0w p1l p2 p3 p1_2n p1_2w v5_9 0)
def fX5_joinSeen_L9 (p0w : ST) (p1l : SL) (p2 : Int32) (p3 : Int32) (p1_2n : Nat → Nat) (p1_2w : ST) : Nat → Int32 → Option (Sum ST Unit)
  | 0 => fun _ => none
  | n_9 + 1 => fun v5_9 => (if (p0w 0 10) ≤ v5_9 then some (Sum.inr ()) else (if ixb v5_9 250 = true then (if ixb (p0w 9 (nn v5_9)) (p1_2n 2) = true then (if ixb p3 (p1_2n 2) = true then (if (p1_2w 2 (nn (p0w 9 (nn v5_9)))) = (p1_2w 2 (nn p3)) then (if ixb (p0w 9 (nn v5_9)) (p1_2n 4) = true then (if ixb p3 (p1_2n 4) = true then (if (p1_2w 4 (nn (p0w 9 (nn v5_9)))) = (p1_2w 4 (nn p3)) then (if ixb (p0w 9 (nn v5_9)) (p1_2n 5) = true then (if ixb p3 (p1_2n 5) = true then (if (p1_2w 5 (nn (p0w 9 (nn v5_9)))) = (p1_2w 5 (nn p3)) then (fX5_joinSeen_J86 (fX5_joinSeen_L9 p0w p1l p2 p3 p1_2n p1_2w n_9) p0w p1l p2 p3 p1_2n p1_2w v5_9 1) else (fX5_joinSeen_J85 (fX5_joinSeen_L9 p0w p1l p2 p3 p1_2n p1_2w n_9) p0w p1l p2 p3 p1_2n p1_2w v5_9)) else none) else none) else (fX5_joinSeen_J85 (fX5_joinSeen_L9 p0w p1l p2 p3 p1_2n p1_2w n_9) p0w p1l p2 p3 p1_2n p1_2w v5_9)) else none) else none) else (fX5_joinSeen_J85 (fX5_joinSeen_L9 p0w p1l p2 p3 p1_2n p1_2w n_9) p0w p1l p2 p3 p1_2n p1_2w v5_9)) else none) else none) else none))
def fX5_joinSeen_J179 (p0w_179 : ST) : Option ST := some p0w_179
def fX5_joinSeen (p0w : ST) (p1l : SL) (p2 : Int32) (p3 : Int32) (p1_2n : Nat → Nat) (p1_2w : ST) : Option ST := ((fX5_joinSeen_L9 p0w p1l p2 p3 p1_2n p1_2w NF 0).bind fun (o9 : (Sum ST Unit)) => Sum.elim (fun r => some r) (fun (t9 : Unit) => (if 250 ≤ (p0w 0 10) then (fX5_joinSeen_J179 p0w) else (if ixb (p0w 0 10) 250 = true then (lt9 (upw p0w 9 (nn (p0w 0 10)) p3) fun (w24 : ST) => (if ixb (w24 0 10) 250 = true then (lt9 (upw w24 10 (nn (w24 0 10)) p2) fun (w26 : ST) => (lt9 (upw w26 0 10 ((w26 0 10) + 1)) fun (w27 : ST) => (fX5_joinSeen_J179 w27))) else none)) else none))) o9)
set_option maxHeartbeats 16000000 in
set_option maxRecDepth 100000 in
theorem kX5_joinSeen {zs : Nat × Nat} (l : Launch) (dC : Nat → ClassId) (dI : Nat → Nat → Nat) (p0a : Nat → Nat) (p0k : Nat → ClassId) (p0w : ST) (p0l : SL) (p1a : Nat → Nat) (p1k : Nat → ClassId) (p1n : Nat → Nat) (p1w : ST) (p1l : SL) (p2 : Int32) (p3 : Int32) (p1_2a : Nat → Nat) (p1_2k : Nat → ClassId) (p1_2n : Nat → Nat) (p1_2w : ST) (sz : Nat) (o : ST) (hrun : fX5_joinSeen p0w p1l p2 p3 p1_2n p1_2w = some o) : Met l yX5_joinSeen (wz yX5_joinSeen cX5_joinSeen 8 (Option.none : Option Jvm.ClassFile.FieldType)) ({ frames := 1, cells := 0, slots := 0, locals := 22 } : Room) (va_Pc [.ref (p0a 0), .ref (p1a 0), .int p2, .int p3] (PRE zs dC dI ((oX5 (p0a 0) p0a p0k p0w p0l) ++ (oX1 (p1a 0) p1a p1k p1n p1w p1l) ++ (oX9 (p1a 3) p1_2a p1_2k p1_2n p1_2w)) ((tX5 p0k) ++ (tX1 p1k) ++ (tX9 p1_2k)) sz)) (va_Qv (fun (_ : Unit) => True) (fun _ t => POST dC dI ((oX5 (p0a 0) p0a p0k o p0l) ++ (oX1 (p1a 0) p1a p1k p1n p1w p1l) ++ (oX9 (p1a 3) p1_2a p1_2k p1_2n p1_2w)) ((tX5 p0k) ++ (tX1 p1k) ++ (tX9 p1_2k)) (va_A ((oX5 (p0a 0) p0a p0k p0w p0l) ++ (oX1 (p1a 0) p1a p1k p1n p1w p1l) ++ (oX9 (p1a 3) p1_2a p1_2k p1_2n p1_2w)) sz) t) (va_A ((oX5 (p0a 0) p0a p0k p0w p0l) ++ (oX1 (p1a 0) p1a p1k p1n p1w p1l) ++ (oX9 (p1a 3) p1_2a p1_2k p1_2n p1_2w)) sz)) 0 0 (va_A ((oX5 (p0a 0) p0a p0k p0w p0l) ++ (oX1 (p1a 0) p1a p1k p1n p1w p1l) ++ (oX9 (p1a 3) p1_2a p1_2k p1_2n p1_2w)) sz) := by
  refine Met.ofW (cc := cX5_joinSeen) (maxL := 8) (ret := (Option.none : Option Jvm.ClassFile.FieldType)) (by decide) rfl ?_
  intro p e s m args below meth c s₁ B hml hv
  obtain ⟨rfl, hsz, hP, hK, hD0, hE⟩ := hv
  have hx := B.exec
  have hb := B.bytes
  have hr := B.returns
  have hts0 := atoms_spec (ws := wz yX5_joinSeen cX5_joinSeen 8 (Option.none : Option Jvm.ClassFile.FieldType)) B.pre
  have hts : ∀ w ∈ gw, w.before _ s = true := fun w h => hts0 w (List.mem_cons_of_mem _ h)
  have hown : s.vm.findClass RX5 = some m.cls := findClass_of_methodNamed B.named
  have hlocks := B.notSynchronized
  subst hsz
  have hD := hD0.self (sz := s.heap.size)
  refine gQ9 ?_
  intro Q hQ
  generalize hAe : va_A ((oX5 (p0a 0) p0a p0k p0w p0l) ++ (oX1 (p1a 0) p1a p1k p1n p1w p1l) ++ (oX9 (p1a 3) p1_2a p1_2k p1_2n p1_2w)) s.heap.size = A at hD hE hQ
  have hA : ∀ q : Nat, s.heap.size ≤ q → A q := fun q h => by rw [← hAe]; exact Or.inr h
  have hS : va_S A s.heap s.heap [] := va_S.rf
  have hP : va_P (dC, dI) cls ((oX5 (p0a 0) p0a p0k p0w p0l) ++ (oX1 (p1a 0) p1a p1k p1n p1w p1l) ++ (oX9 (p1a 3) p1_2a p1_2k p1_2n p1_2w)) s.heap := hP
  have hl := lv_entry ([.ref (p0a 0), .ref (p1a 0), .int p2, .int p3]) (n := 8) (Nat.le_of_ble_eq_true rfl)
  rw [lg_entry_eq]
  generalize (lg_sl ([.ref (p0a 0), .ref (p1a 0), .int p2, .int p3]) ++ List.replicate (8 - (lg_sl ([.ref (p0a 0), .ref (p1a 0), .int p2, .int p3])).length) Slot.unset).toArray = ls at hl ⊢
  have hl : lv_has ls 8 [(0, .ref (p0a 0)), (1, .ref (p1a 0)), (2, .int p2), (3, .int p3)] := hl
  obtain ⟨H, hHe⟩ : ∃ H, H = s.heap := ⟨_, rfl⟩
  obtain ⟨locs, hle⟩ : ∃ locs : List Loc, locs = [] := ⟨_, rfl⟩
  rw [← hHe] at hP
  have hS : va_S A s.heap H locs := by rw [hHe, hle]; exact hS
  show W p l e ({ frames := 1, cells := 0, slots := 0, locals := 22 } : Room) s m ([.ref (p0a 0), .ref (p1a 0), .int p2, .int p3] : List Value).toArray below meth c s.heap [] 0 0 Q (F0 m 0 ls [])
  rw [← hle]
  refine wH9 hHe ?_
  unfold fX5_joinSeen at hrun
  refine lv_aload_n hx hb dX5_joinSeen_0 rfl (lv_at hl 1 rfl) ?_
  refine va_get (D := (dC, dI)) (ci := 4) (v := .ref (p1a 3)) (C := RX1) (T := TX1) (N := 21) hx hb hts i_X1 hown hK hP 10 rfl rfl 2 (by decide) (hts _ qw435) (fun _ h9 => h9) rfl dX5_joinSeen_1 ?_
  refine lv_astore (lv' := [(4, .ref (p1a 3)), (0, .ref (p0a 0)), (1, .ref (p1a 0)), (2, .int p2), (3, .int p3)]) hx hb dX5_joinSeen_4 hl (by decide) rfl (fun ls hl => ?_)
  refine lv_iconst (v := 0) hx hb dX5_joinSeen_6 (by decide) ?_
  refine lv_istore (lv' := [(5, .int 0), (4, .ref (p1a 3)), (0, .ref (p0a 0)), (1, .ref (p1a 0)), (2, .int p2), (3, .int p3)]) hx hb dX5_joinSeen_7 hl (by decide) rfl (fun ls hl => ?_)
  have L9 : ∀ (n_9 : Nat) (v5_9 : Int32) (o9 : (Sum ST Unit)) (H : Heap) (locs : List Loc) (ls : Array Slot), (fX5_joinSeen_L9 p0w p1l p2 p3 p1_2n p1_2w n_9) v5_9 = some o9 → va_P (dC, dI) cls ((oX5 (p0a 0) p0a p0k p0w p0l) ++ (oX1 (p1a 0) p1a p1k p1n p1w p1l) ++ (oX9 (p1a 3) p1_2a p1_2k p1_2n p1_2w)) H → va_D A ((oX5 (p0a 0) p0a p0k p0w p0l) ++ (oX1 (p1a 0) p1a p1k p1n p1w p1l) ++ (oX9 (p1a 3) p1_2a p1_2k p1_2n p1_2w)) → va_K (dC, dI) cls ((tX5 p0k) ++ (tX1 p1k) ++ (tX9 p1_2k)) s → va_S A s.heap H locs → lv_has ls 8 [(0, .ref (p0a 0)), (1, .ref (p1a 0)), (2, .int p2), (3, .int p3), (4, .ref (p1a 3)), (5, .int v5_9)] → (∀ r, o9 = Sum.inl r → r = o) → (∀ (t9 : Unit), o9 = Sum.inr t9 → ∀ (H : Heap) (locs : List Loc) (ls : Array Slot), va_P (dC, dI) cls ((oX5 (p0a 0) p0a p0k p0w p0l) ++ (oX1 (p1a 0) p1a p1k p1n p1w p1l) ++ (oX9 (p1a 3) p1_2a p1_2k p1_2n p1_2w)) H → va_D A ((oX5 (p0a 0) p0a p0k p0w p0l) ++ (oX1 (p1a 0) p1a p1k p1n p1w p1l) ++ (oX9 (p1a 3) p1_2a p1_2k p1_2n p1_2w)) → va_K (dC, dI) cls ((tX5 p0k) ++ (tX1 p1k) ++ (tX9 p1_2k)) s → va_S A s.heap H locs → lv_has ls 8 [(0, .ref (p0a 0)), (2, .int p2), (3, .int p3)] → W p l e ({ frames := 1, cells := 0, slots := 0, locals := 22 } : Room) s m ([.ref (p0a 0), .ref (p1a 0), .int p2, .int p3] : List Value).toArray below meth c H locs 0 0 Q (F0 m 139 ls [])) → W p l e ({ frames := 1, cells := 0, slots := 0, locals := 22 } : Room) s m ([.ref (p0a 0), .ref (p1a 0), .int p2, .int p3] : List Value).toArray below meth c H locs 0 0 Q (F0 m 9 ls []) := by
    intro n_9
    induction n_9 with
    | zero => intro v5_9 o9 H locs ls hrun; exact (no9 rfl hrun).elim
    | succ n_9 IH9 =>
      intro v5_9 o9 H locs ls hrun hP hD hK hS hl hr9 hk9
      unfold fX5_joinSeen_L9 at hrun
      refine lv_iload hx hb dX5_joinSeen_9 (lv_at hl 5 rfl) ?_
      refine lv_aload_n hx hb dX5_joinSeen_11 rfl (lv_at hl 0 rfl) ?_
      refine va_get (D := (dC, dI)) (ci := 7) (v := .int (p0w 0 10)) (C := RX5) (T := TX5) (N := 12) hx hb hts i_X5 hown hK hP 0 rfl rfl 10 (by decide) (hts _ qw556) (fun _ h9 => h9) rfl dX5_joinSeen_12 ?_
      rcases br9 hrun with ⟨hc1, hrun⟩ | ⟨hc1, hrun⟩
      · refine lv_icmp_ge (tgt := 139) hx hb dX5_joinSeen_15 (by decide) (fun _ => ?_) (fun c => absurd hc1 c)
        obtain rfl := (Option.some.inj hrun)
        exact hk9 _ rfl _ _ _ hP hD hK hS (lv_sub hl [0, 2, 3] rfl)
      · refine lv_icmp_ge (tgt := 139) hx hb dX5_joinSeen_15 (by decide) (fun c => absurd c hc1) (fun _ => ?_)
        refine lv_aload_n hx hb dX5_joinSeen_18 rfl (lv_at hl 0 rfl) ?_
        refine va_get (D := (dC, dI)) (ci := 7) (v := .ref (p0a 9)) (C := RX5) (T := TX5) (N := 12) hx hb hts i_X5 hown hK hP 0 rfl rfl 8 (by decide) (hts _ qw557) (fun _ h9 => h9) rfl dX5_joinSeen_19 ?_
        refine lv_iload hx hb dX5_joinSeen_22 (lv_at hl 5 rfl) ?_
        obtain ⟨hq2, hrun⟩ := chk9 hrun
        refine va_iald hx hb hK hP 7 6 rfl rfl (ixb_in hq2) dX5_joinSeen_24 ?_
        refine lv_istore (lv' := [(6, .int (p0w 9 (nn v5_9))), (0, .ref (p0a 0)), (1, .ref (p1a 0)), (2, .int p2), (3, .int p3), (4, .ref (p1a 3)), (5, .int v5_9)]) hx hb dX5_joinSeen_25 hl (by decide) rfl (fun ls hl => ?_)
        refine lv_aload hx hb dX5_joinSeen_27 (lv_at hl 5 rfl) ?_
        refine va_get (D := (dC, dI)) (ci := 3) (v := .ref (p1_2a 2)) (C := RX9) (T := TX9) (N := 6) hx hb hts i_X9 hown hK hP 28 rfl rfl 1 (by decide) (hts _ qw420) (fun _ h9 => h9) rfl dX5_joinSeen_29 ?_
        refine lv_iload hx hb dX5_joinSeen_32 (lv_at hl 0 rfl) ?_
        obtain ⟨hq3, hrun⟩ := chk9 hrun
        refine va_iald hx hb hK hP 29 26 rfl rfl (ixb_in hq3) dX5_joinSeen_34 ?_
        refine lv_aload hx hb dX5_joinSeen_35 (lv_at hl 5 rfl) ?_
        refine va_get (D := (dC, dI)) (ci := 3) (v := .ref (p1_2a 2)) (C := RX9) (T := TX9) (N := 6) hx hb hts i_X9 hown hK hP 28 rfl rfl 1 (by decide) (hts _ qw420) (fun _ h9 => h9) rfl dX5_joinSeen_37 ?_
        refine lv_iload_n hx hb dX5_joinSeen_40 rfl (lv_at hl 4 rfl) ?_
        obtain ⟨hq4, hrun⟩ := chk9 hrun
        refine va_iald hx hb hK hP 29 26 rfl rfl (ixb_in hq4) dX5_joinSeen_41 ?_
        have J86 : ∀ (y0_86 : Int32) (H : Heap) (locs : List Loc) (ls : Array Slot), (fX5_joinSeen_J86 (fX5_joinSeen_L9 p0w p1l p2 p3 p1_2n p1_2w n_9) p0w p1l p2 p3 p1_2n p1_2w v5_9 y0_86) = some o9 → va_P (dC, dI) cls ((oX5 (p0a 0) p0a p0k p0w p0l) ++ (oX1 (p1a 0) p1a p1k p1n p1w p1l) ++ (oX9 (p1a 3) p1_2a p1_2k p1_2n p1_2w)) H → va_D A ((oX5 (p0a 0) p0a p0k p0w p0l) ++ (oX1 (p1a 0) p1a p1k p1n p1w p1l) ++ (oX9 (p1a 3) p1_2a p1_2k p1_2n p1_2w)) → va_K (dC, dI) cls ((tX5 p0k) ++ (tX1 p1k) ++ (tX9 p1_2k)) s → va_S A s.heap H locs → lv_has ls 8 [(0, .ref (p0a 0)), (1, .ref (p1a 0)), (2, .int p2), (3, .int p3), (4, .ref (p1a 3)), (5, .int v5_9), (6, .int (p0w 9 (nn v5_9)))] → W p l e ({ frames := 1, cells := 0, slots := 0, locals := 22 } : Room) s m ([.ref (p0a 0), .ref (p1a 0), .int p2, .int p3] : List Value).toArray below meth c H locs 0 0 Q (F0 m 86 ls [.int y0_86]) := by
          intro y0_86 H locs ls hrun hP hD hK hS hl 
          unfold fX5_joinSeen_J86 at hrun
          refine lv_istore (lv' := [(7, .int y0_86), (0, .ref (p0a 0)), (1, .ref (p1a 0)), (2, .int p2), (3, .int p3), (4, .ref (p1a 3)), (5, .int v5_9), (6, .int (p0w 9 (nn v5_9)))]) hx hb dX5_joinSeen_86 hl (by decide) rfl (fun ls hl => ?_)
          refine lv_iload hx hb dX5_joinSeen_88 (lv_at hl 0 rfl) ?_
          have J133 : ∀ (H : Heap) (locs : List Loc) (ls : Array Slot), (fX5_joinSeen_J133 (fX5_joinSeen_L9 p0w p1l p2 p3 p1_2n p1_2w n_9) v5_9) = some o9 → va_P (dC, dI) cls ((oX5 (p0a 0) p0a p0k p0w p0l) ++ (oX1 (p1a 0) p1a p1k p1n p1w p1l) ++ (oX9 (p1a 3) p1_2a p1_2k p1_2n p1_2w)) H → va_D A ((oX5 (p0a 0) p0a p0k p0w p0l) ++ (oX1 (p1a 0) p1a p1k p1n p1w p1l) ++ (oX9 (p1a 3) p1_2a p1_2k p1_2n p1_2w)) → va_K (dC, dI) cls ((tX5 p0k) ++ (tX1 p1k) ++ (tX9 p1_2k)) s → va_S A s.heap H locs → lv_has ls 8 [(0, .ref (p0a 0)), (1, .ref (p1a 0)), (2, .int p2), (3, .int p3), (4, .ref (p1a 3)), (5, .int v5_9)] → W p l e ({ frames := 1, cells := 0, slots := 0, locals := 22 } : Room) s m ([.ref (p0a 0), .ref (p1a 0), .int p2, .int p3] : List Value).toArray below meth c H locs 0 0 Q (F0 m 133 ls []) := by
            intro  H locs ls hrun hP hD hK hS hl 
            unfold fX5_joinSeen_J133 at hrun
            refine lv_iinc (v := (v5_9 + 1)) (lv' := [(5, .int (v5_9 + 1)), (0, .ref (p0a 0)), (1, .ref (p1a 0)), (2, .int p2), (3, .int p3), (4, .ref (p1a 3))]) hx hb dX5_joinSeen_133 hl (k := 5) rfl rfl (by decide) rfl (fun ls hl => ?_)
            refine lv_goto (tgt := 9) hx hb dX5_joinSeen_136 (by decide) ?_
            exact IH9 (v5_9 + 1) o9 _ _ _ hrun hP hD hK hS (lv_sub hl [1, 2, 3, 4, 5, 0] rfl) hr9 hk9
          rcases br9 hrun with ⟨hc5, hrun⟩ | ⟨hc5, hrun⟩
          · refine lv_if_eq (tgt := 133) hx hb dX5_joinSeen_90 (by decide) (fun _ => ?_) (fun c => absurd hc5 c)
            exact J133 _ _ _ hrun hP hD hK hS (lv_sub hl [1, 2, 3, 4, 5, 6] rfl)
          · refine lv_if_eq (tgt := 133) hx hb dX5_joinSeen_90 (by decide) (fun c => absurd c hc5) (fun _ => ?_)
            refine lv_aload_n hx hb dX5_joinSeen_93 rfl (lv_at hl 2 rfl) ?_
            refine va_get (D := (dC, dI)) (ci := 4) (v := .ref (p1a 16)) (C := RX1) (T := TX1) (N := 21) hx hb hts i_X1 hown hK hP 10 rfl rfl 15 (by decide) (hts _ qw558) (fun _ h9 => h9) rfl dX5_joinSeen_94 ?_
            refine lv_iload_n hx hb dX5_joinSeen_97 rfl (lv_at hl 3 rfl) ?_
            obtain ⟨hq6, hrun⟩ := chk9 hrun
            refine va_lald hx hb hK hP 23 21 rfl rfl (ixb_in hq6) dX5_joinSeen_98 ?_
            refine lv_aload_n hx hb dX5_joinSeen_99 rfl (lv_at hl 1 rfl) ?_
            refine va_get (D := (dC, dI)) (ci := 7) (v := .ref (p0a 10)) (C := RX5) (T := TX5) (N := 12) hx hb hts i_X5 hown hK hP 0 rfl rfl 9 (by decide) (hts _ qw559) (fun _ h9 => h9) rfl dX5_joinSeen_100 ?_
            refine lv_iload hx hb dX5_joinSeen_103 (lv_at hl 6 rfl) ?_
            obtain ⟨hq7, hrun⟩ := chk9 hrun
            refine va_iald hx hb hK hP 8 7 rfl rfl (ixb_in hq7) dX5_joinSeen_105 ?_
            obtain ⟨o_8, hc_8, hrun⟩ := bnd9 hrun
            have hPc := hP.sub (ws' := ([] : va_W)) [] rfl
            have hDc := hD.sub (ws' := ([] : va_W)) [] (by decide) rfl
            have hKc := hK.sub (tys' := ([] : List (ClassId × FieldType))) [] rfl
            have hFc := va_free (wc := ([] : va_W)) hD hS hA [] rfl
            refine va_calli (va_runSN (As := [.long (p1l 16 (nn p2)), .int (p0w 10 (nn v5_9))]) (rest := []) ⟨hx, hb, hml, hown, hts⟩ (kX11_holds l dC dI (p0 := (p1l 16 (nn p2))) (p1 := (p0w 10 (nn v5_9))) (sz := _) (o := o_8) (hrun := hc_8)) ⟨(va_cnB 2 hts (gi_z qw192) rfl rfl rfl (hE.nw (List.mem_append_right _ (tbl_7 (i := 146) rfl)) rfl) (hts _ qw129) (by decide +kernel) ⟨Nat.le_of_ble_eq_true rfl, Nat.le_of_ble_eq_true rfl⟩), (hts _ qw193), trivial⟩ ⟨PRE.blind, PRE.of hE hS hFc hPc hKc hDc⟩ rfl rfl hl.1 rfl (lv_room (Nat.le_of_ble_eq_true rfl)) dX5_joinSeen_106 ⟨(Nat.le_of_ble_eq_true rfl), (Nat.le_of_ble_eq_true rfl)⟩) hS (fun q _ h => hFc q h) hFc (fun r9 u t H locs ht hvm hw hB hz1 hk1 hS => ?_)
            obtain ⟨hP, hD, hK⟩ := JOIN (wr := ((oX5 (p0a 0) p0a p0k p0w p0l) ++ (oX1 (p1a 0) p1a p1k p1n p1w p1l) ++ (oX9 (p1a 3) p1_2a p1_2k p1_2n p1_2w))) hP hD hK [] [0, 1, 2, 3, 4, 5, 6, 7, 8, 9, 10, 11, 12, 13, 14, 15, 16, 17, 18, 19, 20, 21, 22, 23, 24, 25, 26, 27, 28, 29, 30, 31, 32, 33] [0, 1, 2, 3, 4, 5, 6, 7, 8, 9, 10, 11, 12, 13, 14, 15, 16, 17, 18, 19, 20, 21, 22, 23, 24, 25, 26, 27, 28, 29, 30] rfl rfl (by decide) (by decide) rfl hk1 hFc ht hvm hB
            have hP : va_P (dC, dI) cls ((oX5 (p0a 0) p0a p0k p0w p0l) ++ (oX1 (p1a 0) p1a p1k p1n p1w p1l) ++ (oX9 (p1a 3) p1_2a p1_2k p1_2n p1_2w)) H := hP.sub [0, 1, 2, 3, 4, 5, 6, 7, 8, 9, 10, 11, 12, 13, 14, 15, 16, 17, 18, 19, 20, 21, 22, 23, 24, 25, 26, 27, 28, 29, 30, 31, 32, 33] rfl
            have hD : va_D A ((oX5 (p0a 0) p0a p0k p0w p0l) ++ (oX1 (p1a 0) p1a p1k p1n p1w p1l) ++ (oX9 (p1a 3) p1_2a p1_2k p1_2n p1_2w)) := hD.sub [0, 1, 2, 3, 4, 5, 6, 7, 8, 9, 10, 11, 12, 13, 14, 15, 16, 17, 18, 19, 20, 21, 22, 23, 24, 25, 26, 27, 28, 29, 30, 31, 32, 33] (by decide) rfl
            have hK : va_K (dC, dI) cls ((tX5 p0k) ++ (tX1 p1k) ++ (tX9 p1_2k)) s := hK.sub [0, 1, 2, 3, 4, 5, 6, 7, 8, 9, 10, 11, 12, 13, 14, 15, 16, 17, 18, 19, 20, 21, 22, 23, 24, 25, 26, 27, 28, 29, 30] rfl
            obtain rfl : o_8 = r9 := hw.symm
            rcases br9 hrun with ⟨hc10, hrun⟩ | ⟨hc10, hrun⟩
            · refine lv_if_eq (tgt := 133) hx hb dX5_joinSeen_109 (by decide) (fun _ => ?_) (fun c => absurd hc10 c)
              exact J133 _ _ _ hrun hP hD hK hS (lv_sub hl [1, 2, 3, 4, 5, 6] rfl)
            · refine lv_if_eq (tgt := 133) hx hb dX5_joinSeen_109 (by decide) (fun c => absurd c hc10) (fun _ => ?_)
              refine lv_aload_n hx hb dX5_joinSeen_112 rfl (lv_at hl 1 rfl) ?_
              refine va_get (D := (dC, dI)) (ci := 7) (v := .ref (p0a 6)) (C := RX5) (T := TX5) (N := 12) hx hb hts i_X5 hown hK hP 0 rfl rfl 5 (by decide) (hts _ qw539) (fun _ h9 => h9) rfl dX5_joinSeen_113 ?_
              refine lv_aload hx hb dX5_joinSeen_116 (lv_at hl 5 rfl) ?_
              refine va_get (D := (dC, dI)) (ci := 3) (v := .ref (p1_2a 3)) (C := RX9) (T := TX9) (N := 6) hx hb hts i_X9 hown hK hP 28 rfl rfl 2 (by decide) (hts _ qw436) (fun _ h9 => h9) rfl dX5_joinSeen_118 ?_
              refine lv_iload_n hx hb dX5_joinSeen_121 rfl (lv_at hl 4 rfl) ?_
              obtain ⟨hq11, hrun⟩ := chk9 hrun
              refine va_iald hx hb hK hP 30 27 rfl rfl (ixb_in hq11) dX5_joinSeen_122 ?_
              refine lv_aload hx hb dX5_joinSeen_123 (lv_at hl 5 rfl) ?_
              refine va_get (D := (dC, dI)) (ci := 3) (v := .ref (p1_2a 3)) (C := RX9) (T := TX9) (N := 6) hx hb hts i_X9 hown hK hP 28 rfl rfl 2 (by decide) (hts _ qw436) (fun _ h9 => h9) rfl dX5_joinSeen_125 ?_
              refine lv_iload hx hb dX5_joinSeen_128 (lv_at hl 7 rfl) ?_
              obtain ⟨hq12, hrun⟩ := chk9 hrun
              refine va_iald hx hb hK hP 30 27 rfl rfl (ixb_in hq12) dX5_joinSeen_130 ?_
              obtain ⟨hq13, hrun⟩ := chk9 hrun
              refine va_iast hx hb hK hP hD hS 5 4 rfl rfl (ixb_in hq13) dX5_joinSeen_131 (fun H locs hP hD hS => ?_)
              have hP : va_P (dC, dI) cls ((oX5 (p0a 0) p0a p0k (upw p0w 6 (nn (p1_2w 3 (nn p3))) (p1_2w 3 (nn (p0w 9 (nn v5_9))))) p0l) ++ (oX1 (p1a 0) p1a p1k p1n p1w p1l) ++ (oX9 (p1a 3) p1_2a p1_2k p1_2n p1_2w)) H := hP
              have hD : va_D A ((oX5 (p0a 0) p0a p0k (upw p0w 6 (nn (p1_2w 3 (nn p3))) (p1_2w 3 (nn (p0w 9 (nn v5_9))))) p0l) ++ (oX1 (p1a 0) p1a p1k p1n p1w p1l) ++ (oX9 (p1a 3) p1_2a p1_2k p1_2n p1_2w)) := hD
              obtain ⟨w14, ew14, hrun⟩ := let9 hrun
              rw [← ew14] at hP hD
              have ho9 : w14 = o := hr9 _ (Option.some.inj hrun).symm
              have hP9 : va_P (dC, dI) cls ((oX5 (p0a 0) p0a p0k o p0l) ++ (oX1 (p1a 0) p1a p1k p1n p1w p1l) ++ (oX9 (p1a 3) p1_2a p1_2k p1_2n p1_2w)) H := by first | exact hP | (rw [← ho9]; exact hP)
              have hD9 : va_D A ((oX5 (p0a 0) p0a p0k o p0l) ++ (oX1 (p1a 0) p1a p1k p1n p1w p1l) ++ (oX9 (p1a 3) p1_2a p1_2k p1_2n p1_2w)) := by first | exact hD | (rw [← ho9]; exact hD)
              subst hQ
              exact W.vret hx hb hr (fun t ht hW => ⟨⟨(), rfl, trivial, ⟨by rw [ht]; exact hP9, va_K.moved hW.alike hK, hD9⟩⟩, hS.F ht⟩) hS.2.2 dX5_joinSeen_132
        have J85 : ∀ (H : Heap) (locs : List Loc) (ls : Array Slot), (fX5_joinSeen_J85 (fX5_joinSeen_L9 p0w p1l p2 p3 p1_2n p1_2w n_9) p0w p1l p2 p3 p1_2n p1_2w v5_9) = some o9 → va_P (dC, dI) cls ((oX5 (p0a 0) p0a p0k p0w p0l) ++ (oX1 (p1a 0) p1a p1k p1n p1w p1l) ++ (oX9 (p1a 3) p1_2a p1_2k p1_2n p1_2w)) H → va_D A ((oX5 (p0a 0) p0a p0k p0w p0l) ++ (oX1 (p1a 0) p1a p1k p1n p1w p1l) ++ (oX9 (p1a 3) p1_2a p1_2k p1_2n p1_2w)) → va_K (dC, dI) cls ((tX5 p0k) ++ (tX1 p1k) ++ (tX9 p1_2k)) s → va_S A s.heap H locs → lv_has ls 8 [(0, .ref (p0a 0)), (1, .ref (p1a 0)), (2, .int p2), (3, .int p3), (4, .ref (p1a 3)), (5, .int v5_9), (6, .int (p0w 9 (nn v5_9)))] → W p l e ({ frames := 1, cells := 0, slots := 0, locals := 22 } : Room) s m ([.ref (p0a 0), .ref (p1a 0), .int p2, .int p3] : List Value).toArray below meth c H locs 0 0 Q (F0 m 85 ls []) := by
          intro  H locs ls hrun hP hD hK hS hl 
          unfold fX5_joinSeen_J85 at hrun
          refine lv_iconst (v := 0) hx hb dX5_joinSeen_85 (by decide) ?_
          exact J86 0 _ _ _ hrun hP hD hK hS (lv_sub hl [0, 1, 2, 3, 4, 5, 6] rfl)
        rcases br9 hrun with ⟨hc15, hrun⟩ | ⟨hc15, hrun⟩
        · refine lv_icmp_ne (tgt := 85) hx hb dX5_joinSeen_42 (by decide) (fun c => absurd hc15 c) (fun _ => ?_)
          refine lv_aload hx hb dX5_joinSeen_45 (lv_at hl 5 rfl) ?_
          refine va_get (D := (dC, dI)) (ci := 3) (v := .ref (p1_2a 4)) (C := RX9) (T := TX9) (N := 6) hx hb hts i_X9 hown hK hP 28 rfl rfl 3 (by decide) (hts _ qw421) (fun _ h9 => h9) rfl dX5_joinSeen_47 ?_
          refine lv_iload hx hb dX5_joinSeen_50 (lv_at hl 0 rfl) ?_
          obtain ⟨hq16, hrun⟩ := chk9 hrun
          refine va_iald hx hb hK hP 31 28 rfl rfl (ixb_in hq16) dX5_joinSeen_52 ?_
          refine lv_aload hx hb dX5_joinSeen_53 (lv_at hl 5 rfl) ?_
          refine va_get (D := (dC, dI)) (ci := 3) (v := .ref (p1_2a 4)) (C := RX9) (T := TX9) (N := 6) hx hb hts i_X9 hown hK hP 28 rfl rfl 3 (by decide) (hts _ qw421) (fun _ h9 => h9) rfl dX5_joinSeen_55 ?_
          refine lv_iload_n hx hb dX5_joinSeen_58 rfl (lv_at hl 4 rfl) ?_
          obtain ⟨hq17, hrun⟩ := chk9 hrun
          refine va_iald hx hb hK hP 31 28 rfl rfl (ixb_in hq17) dX5_joinSeen_59 ?_
          rcases br9 hrun with ⟨hc18, hrun⟩ | ⟨hc18, hrun⟩
          · refine lv_icmp_ne (tgt := 85) hx hb dX5_joinSeen_60 (by decide) (fun c => absurd hc18 c) (fun _ => ?_)
            refine lv_aload hx hb dX5_joinSeen_63 (lv_at hl 5 rfl) ?_
            refine va_get (D := (dC, dI)) (ci := 3) (v := .ref (p1_2a 5)) (C := RX9) (T := TX9) (N := 6) hx hb hts i_X9 hown hK hP 28 rfl rfl 4 (by decide) (hts _ qw422) (fun _ h9 => h9) rfl dX5_joinSeen_65 ?_
            refine lv_iload hx hb dX5_joinSeen_68 (lv_at hl 0 rfl) ?_
            obtain ⟨hq19, hrun⟩ := chk9 hrun
            refine va_iald hx hb hK hP 32 29 rfl rfl (ixb_in hq19) dX5_joinSeen_70 ?_
            refine lv_aload hx hb dX5_joinSeen_71 (lv_at hl 5 rfl) ?_
            refine va_get (D := (dC, dI)) (ci := 3) (v := .ref (p1_2a 5)) (C := RX9) (T := TX9) (N := 6) hx hb hts i_X9 hown hK hP 28 rfl rfl 4 (by decide) (hts _ qw422) (fun _ h9 => h9) rfl dX5_joinSeen_73 ?_
            refine lv_iload_n hx hb dX5_joinSeen_76 rfl (lv_at hl 4 rfl) ?_
            obtain ⟨hq20, hrun⟩ := chk9 hrun
            refine va_iald hx hb hK hP 32 29 rfl rfl (ixb_in hq20) dX5_joinSeen_77 ?_
            rcases br9 hrun with ⟨hc21, hrun⟩ | ⟨hc21, hrun⟩
            · refine lv_icmp_ne (tgt := 85) hx hb dX5_joinSeen_78 (by decide) (fun c => absurd hc21 c) (fun _ => ?_)
              refine lv_iconst (v := 1) hx hb dX5_joinSeen_81 (by decide) ?_
              refine lv_goto (tgt := 86) hx hb dX5_joinSeen_82 (by decide) ?_
              exact J86 1 _ _ _ hrun hP hD hK hS (lv_sub hl [1, 2, 3, 4, 5, 6, 0] rfl)
            · refine lv_icmp_ne (tgt := 85) hx hb dX5_joinSeen_78 (by decide) (fun _ => ?_) (fun c => absurd c hc21)
              exact J85 _ _ _ hrun hP hD hK hS (lv_sub hl [1, 2, 3, 4, 5, 6, 0] rfl)
          · refine lv_icmp_ne (tgt := 85) hx hb dX5_joinSeen_60 (by decide) (fun _ => ?_) (fun c => absurd c hc18)
            exact J85 _ _ _ hrun hP hD hK hS (lv_sub hl [1, 2, 3, 4, 5, 6, 0] rfl)
        · refine lv_icmp_ne (tgt := 85) hx hb dX5_joinSeen_42 (by decide) (fun _ => ?_) (fun c => absurd c hc15)
          exact J85 _ _ _ hrun hP hD hK hS (lv_sub hl [1, 2, 3, 4, 5, 6, 0] rfl)
  obtain ⟨o9, hc9, hrun⟩ := bnd9 hrun
  refine L9 NF 0 o9 _ _ _ hc9 hP hD hK hS (lv_sub hl [2, 3, 4, 5, 1, 0] rfl) (fun r e9 => by subst e9; exact Option.some.inj hrun) ?_
  intro t9 e9
  subst e9
  replace hrun := el9 hrun
  intro H locs ls hP hD hK hS hl
  have hl := hl
  refine lv_aload_n hx hb dX5_joinSeen_139 rfl (lv_at hl 0 rfl) ?_
  refine va_get (D := (dC, dI)) (ci := 7) (v := .int (p0w 0 10)) (C := RX5) (T := TX5) (N := 12) hx hb hts i_X5 hown hK hP 0 rfl rfl 10 (by decide) (hts _ qw556) (fun _ h9 => h9) rfl dX5_joinSeen_140 ?_
  refine lv_sipush (v := 250) hx hb dX5_joinSeen_143 (by decide) ?_
  have J179 : ∀ (p0w_179 : ST) (H : Heap) (locs : List Loc) (ls : Array Slot), (fX5_joinSeen_J179 p0w_179) = some o → va_P (dC, dI) cls ((oX5 (p0a 0) p0a p0k p0w_179 p0l) ++ (oX1 (p1a 0) p1a p1k p1n p1w p1l) ++ (oX9 (p1a 3) p1_2a p1_2k p1_2n p1_2w)) H → va_D A ((oX5 (p0a 0) p0a p0k p0w_179 p0l) ++ (oX1 (p1a 0) p1a p1k p1n p1w p1l) ++ (oX9 (p1a 3) p1_2a p1_2k p1_2n p1_2w)) → va_K (dC, dI) cls ((tX5 p0k) ++ (tX1 p1k) ++ (tX9 p1_2k)) s → va_S A s.heap H locs → lv_has ls 8 [] → W p l e ({ frames := 1, cells := 0, slots := 0, locals := 22 } : Room) s m ([.ref (p0a 0), .ref (p1a 0), .int p2, .int p3] : List Value).toArray below meth c H locs 0 0 Q (F0 m 179 ls []) := by
    intro p0w_179 H locs ls hrun hP hD hK hS hl 
    unfold fX5_joinSeen_J179 at hrun
    have ho9 : p0w_179 = o := Option.some.inj hrun
    have hP9 : va_P (dC, dI) cls ((oX5 (p0a 0) p0a p0k o p0l) ++ (oX1 (p1a 0) p1a p1k p1n p1w p1l) ++ (oX9 (p1a 3) p1_2a p1_2k p1_2n p1_2w)) H := by first | exact hP | (rw [← ho9]; exact hP)
    have hD9 : va_D A ((oX5 (p0a 0) p0a p0k o p0l) ++ (oX1 (p1a 0) p1a p1k p1n p1w p1l) ++ (oX9 (p1a 3) p1_2a p1_2k p1_2n p1_2w)) := by first | exact hD | (rw [← ho9]; exact hD)
    subst hQ
    exact W.vret hx hb hr (fun t ht hW => ⟨⟨(), rfl, trivial, ⟨by rw [ht]; exact hP9, va_K.moved hW.alike hK, hD9⟩⟩, hS.F ht⟩) hS.2.2 dX5_joinSeen_179
  rcases br9 hrun with ⟨hc22, hrun⟩ | ⟨hc22, hrun⟩
  · refine lv_icmp_ge (tgt := 179) hx hb dX5_joinSeen_146 (by decide) (fun _ => ?_) (fun c => absurd hc22 c)
    exact J179 p0w _ _ _ hrun hP hD hK hS (lv_sub hl [] rfl)
  · refine lv_icmp_ge (tgt := 179) hx hb dX5_joinSeen_146 (by decide) (fun c => absurd c hc22) (fun _ => ?_)
    refine lv_aload_n hx hb dX5_joinSeen_149 rfl (lv_at hl 0 rfl) ?_
    refine va_get (D := (dC, dI)) (ci := 7) (v := .ref (p0a 9)) (C := RX5) (T := TX5) (N := 12) hx hb hts i_X5 hown hK hP 0 rfl rfl 8 (by decide) (hts _ qw557) (fun _ h9 => h9) rfl dX5_joinSeen_150 ?_
    refine lv_aload_n hx hb dX5_joinSeen_153 rfl (lv_at hl 0 rfl) ?_
    refine va_get (D := (dC, dI)) (ci := 7) (v := .int (p0w 0 10)) (C := RX5) (T := TX5) (N := 12) hx hb hts i_X5 hown hK hP 0 rfl rfl 10 (by decide) (hts _ qw556) (fun _ h9 => h9) rfl dX5_joinSeen_154 ?_
    refine lv_iload_n hx hb dX5_joinSeen_157 rfl (lv_at hl 2 rfl) ?_
    obtain ⟨hq23, hrun⟩ := chk9 hrun
    refine va_iast hx hb hK hP hD hS 7 6 rfl rfl (ixb_in hq23) dX5_joinSeen_158 (fun H locs hP hD hS => ?_)
    have hP : va_P (dC, dI) cls ((oX5 (p0a 0) p0a p0k (upw p0w 9 (nn (p0w 0 10)) p3) p0l) ++ (oX1 (p1a 0) p1a p1k p1n p1w p1l) ++ (oX9 (p1a 3) p1_2a p1_2k p1_2n p1_2w)) H := hP
    have hD : va_D A ((oX5 (p0a 0) p0a p0k (upw p0w 9 (nn (p0w 0 10)) p3) p0l) ++ (oX1 (p1a 0) p1a p1k p1n p1w p1l) ++ (oX9 (p1a 3) p1_2a p1_2k p1_2n p1_2w)) := hD
    obtain ⟨w24, ew24, hrun⟩ := let9 hrun
    rw [← ew24] at hP hD
    refine lv_aload_n hx hb dX5_joinSeen_159 rfl (lv_at hl 0 rfl) ?_
    refine va_get (D := (dC, dI)) (ci := 7) (v := .ref (p0a 10)) (C := RX5) (T := TX5) (N := 12) hx hb hts i_X5 hown hK hP 0 rfl rfl 9 (by decide) (hts _ qw559) (fun _ h9 => h9) rfl dX5_joinSeen_160 ?_
    refine lv_aload_n hx hb dX5_joinSeen_163 rfl (lv_at hl 0 rfl) ?_
    refine va_get (D := (dC, dI)) (ci := 7) (v := .int (w24 0 10)) (C := RX5) (T := TX5) (N := 12) hx hb hts i_X5 hown hK hP 0 rfl rfl 10 (by decide) (hts _ qw556) (fun _ h9 => h9) rfl dX5_joinSeen_164 ?_
    refine lv_iload_n hx hb dX5_joinSeen_167 rfl (lv_at hl 1 rfl) ?_
    obtain ⟨hq25, hrun⟩ := chk9 hrun
    refine va_iast hx hb hK hP hD hS 8 7 rfl rfl (ixb_in hq25) dX5_joinSeen_168 (fun H locs hP hD hS => ?_)
    have hP : va_P (dC, dI) cls ((oX5 (p0a 0) p0a p0k (upw w24 10 (nn (w24 0 10)) p2) p0l) ++ (oX1 (p1a 0) p1a p1k p1n p1w p1l) ++ (oX9 (p1a 3) p1_2a p1_2k p1_2n p1_2w)) H := hP
    have hD : va_D A ((oX5 (p0a 0) p0a p0k (upw w24 10 (nn (w24 0 10)) p2) p0l) ++ (oX1 (p1a 0) p1a p1k p1n p1w p1l) ++ (oX9 (p1a 3) p1_2a p1_2k p1_2n p1_2w)) := hD
    obtain ⟨w26, ew26, hrun⟩ := let9 hrun
    rw [← ew26] at hP hD
    refine lv_aload_n hx hb dX5_joinSeen_169 rfl (lv_at hl 0 rfl) ?_
    refine lv_dup hx hb dX5_joinSeen_170 rfl ?_
    refine va_get (D := (dC, dI)) (ci := 7) (v := .int (w26 0 10)) (C := RX5) (T := TX5) (N := 12) hx hb hts i_X5 hown hK hP 0 rfl rfl 10 (by decide) (hts _ qw556) (fun _ h9 => h9) rfl dX5_joinSeen_171 ?_
    refine lv_iconst (v := 1) hx hb dX5_joinSeen_174 (by decide) ?_
    refine lv_iadd hx hb dX5_joinSeen_175 ?_
    refine va_put (D := (dC, dI)) (ci := 7) (v := .int ((w26 0 10) + 1)) (ty := .int) (C := RX5) (T := TX5) (N := 12) hx hb hts i_X5 tyX5 tyX5_ok nmX5 hown hK hP hD hS 0 rfl rfl 10 (by decide) (hts _ qw556) (fun _ h9 => h9) rfl (by decide +kernel) rfl rfl (Nat.le_of_ble_eq_true rfl) dX5_joinSeen_176 (fun H locs hP hD hS => ?_)
    have hP : va_P (dC, dI) cls ((oX5 (p0a 0) p0a p0k (upw w26 0 10 ((w26 0 10) + 1)) p0l) ++ (oX1 (p1a 0) p1a p1k p1n p1w p1l) ++ (oX9 (p1a 3) p1_2a p1_2k p1_2n p1_2w)) H := hP
    have hD : va_D A ((oX5 (p0a 0) p0a p0k (upw w26 0 10 ((w26 0 10) + 1)) p0l) ++ (oX1 (p1a 0) p1a p1k p1n p1w p1l) ++ (oX9 (p1a 3) p1_2a p1_2k p1_2n p1_2w)) := hD
    obtain ⟨w27, ew27, hrun⟩ := let9 hrun
    rw [← ew27] at hP hD
    exact J179 w27 _ _ _ hrun hP hD hK hS (lv_sub hl [] rfl)
def fX5_joinOperator_J290 (p0w_290 : ST) (p1_2w_290 : ST) : Option (ST × ST) := some (p0w_290, p1_2w_290)
def fX5_joinOperator_J259 (p0w : ST) (p2 : Int32) (p1_2n : Nat → Nat) (p1_2w : ST) (o_4 : Int32) (o_7 : Int32) (w12 : ST) : Option (ST × ST) := (if o_4 ≤ o_7 then (fX5_joinOperator_J290 p0w w12) else ((fX5_isEitherWay (p1_2w 2 (nn p2))).bind fun (o_25 : Int32) => (if o_25 = 0 then (fX5_joinOperator_J290 p0w w12) else (if ixb p2 (p1_2n 4) = true then (lt9 (upw w12 4 (nn p2) o_7) fun (w29 : ST) => (if ixb p2 (p1_2n 5) = true then (lt9 (upw w29 5 (nn p2) o_4) fun (w31 : ST) => (fX5_joinOperator_J290 p0w w31)) else none)) else none))))
def fX5_joinOperator_J242 (p0w : ST) (p2 : Int32) (p1_2n : Nat → Nat) (p1_2w : ST) (w12 : ST) : Option (ST × ST) := (if ixb (p1_2w 3 (nn p2)) 250 = true then (lt9 (upw p0w 7 (nn (p1_2w 3 (nn p2))) 1) fun (w34 : ST) => ((fX5_becomeNumber p1_2n w12 p2 1).bind fun (o_35 : ST) => (fX5_joinOperator_J290 w34 o_35))) else none)
def fX5_joinOperator_J131 (p0w : ST) (p2 : Int32) (p1_2n : Nat → Nat) (p1_2w : ST) (o_4 : Int32) (o_7 : Int32) (w12 : ST) : Option (ST × ST) := ((fX5_isLeftAlone p0w (p1_2w 2 (nn p2)) o_4 o_7 p1_2n w12).bind fun (o_15 : Int32) => (if o_15 = 0 then ((fX5_isRightAlone p0w (p1_2w 2 (nn p2)) o_4 p1_2n w12).bind fun (o_18 : Int32) => (if o_18 = 0 then ((fX5_isAlwaysZero p0w (p1_2w 2 (nn p2)) o_4 o_7 p1_2n w12).bind fun (o_21 : Int32) => (if o_21 = 0 then (if o_4 = o_7 then (if (p1_2w 2 (nn p2)) = 15 then (fX5_joinOperator_J242 p0w p2 p1_2n p1_2w w12) else (if (p1_2w 2 (nn p2)) = 12 then (fX5_joinOperator_J242 p0w p2 p1_2n p1_2w w12) else (if (p1_2w 2 (nn p2)) = 14 then (fX5_joinOperator_J242 p0w p2 p1_2n p1_2w w12) else (fX5_joinOperator_J259 p0w p2 p1_2n p1_2w o_4 o_7 w12)))) else (fX5_joinOperator_J259 p0w p2 p1_2n p1_2w o_4 o_7 w12)) else (if ixb (p1_2w 3 (nn p2)) 250 = true then (lt9 (upw p0w 7 (nn (p1_2w 3 (nn p2))) 1) fun (w40 : ST) => ((fX5_becomeNumber p1_2n w12 p2 0).bind fun (o_41 : ST) => (fX5_joinOperator_J290 w40 o_41))) else none))) else (if ixb (p1_2w 3 (nn p2)) 250 = true then (lt9 (upw p0w 6 (nn (p1_2w 3 (nn p2))) o_7) fun (w43 : ST) => (fX5_joinOperator_J290 w43 w12)) else none))) else (if ixb (p1_2w 3 (nn p2)) 250 = true then (lt9 (upw p0w 6 (nn (p1_2w 3 (nn p2))) o_4) fun (w45 : ST) => (fX5_joinOperator_J290 w45 w12)) else none)))
def fX5_joinOperator (p0w : ST) (p2 : Int32) (p1_2n : Nat → Nat) (p1_2w : ST) : Option (ST × ST) := (if ixb p2 (p1_2n 2) = true then (if ixb p2 (p1_2n 3) = true then (if ixb p2 (p1_2n 4) = true then ((fX5_standInOf p0w (p1_2w 4 (nn p2))).bind fun (o_4 : Int32) => (if ixb p2 (p1_2n 5) = true then ((fX5_standInOf p0w (p1_2w 5 (nn p2))).bind fun (o_7 : Int32) => (if ixb p2 (p1_2n 4) = true then (lt9 (upw p1_2w 4 (nn p2) o_4) fun (w10 : ST) => (if ixb p2 (p1_2n 5) = true then (lt9 (upw w10 5 (nn p2) o_7) fun (w12 : ST) => ((fX5_isNumber p0w o_4 p1_2n w12).bind fun (o_13 : Int32) => (if o_13 = 0 then (fX5_joinOperator_J131 p0w p2 p1_2n p1_2w o_4 o_7 w12) else ((fX5_isNumber p0w o_7 p1_2n w12).bind fun (o_47 : Int32) => (if o_47 = 0 then (fX5_joinOperator_J131 p0w p2 p1_2n p1_2w o_4 o_7 w12) else ((fX5_numberOf p0w o_7 p1_2n w12).bind fun (o_50 : Int32) => ((fX11_isFailing (p1_2w 2 (nn p2)) o_50).bind fun (o_52 : Int32) => (if o_52 = 0 then (if ixb (p1_2w 3 (nn p2)) 250 = true then (lt9 (upw p0w 7 (nn (p1_2w 3 (nn p2))) 1) fun (w56 : ST) => ((fX5_numberOf w56 o_4 p1_2n w12).bind fun (o_57 : Int32) => ((fX5_numberOf w56 o_7 p1_2n w12).bind fun (o_59 : Int32) => ((fX11_compute (p1_2w 2 (nn p2)) o_57 o_59).bind fun (o_61 : Int32) => ((fX5_becomeNumber p1_2n w12 p2 o_61).bind fun (o_63 : ST) => (fX5_joinOperator_J290 w56 o_63)))))) else none) else (fX5_joinOperator_J131 p0w p2 p1_2n p1_2w o_4 o_7 w12))))))))) else none)) else none)) else none)) else none) else none) else none)
set_option maxHeartbeats 16000000 in
set_option maxRecDepth 100000 in
theorem kX5_joinOperator {zs : Nat × Nat} (l : Launch) (dC : Nat → ClassId) (dI : Nat → Nat → Nat) (p0a : Nat → Nat) (p0k : Nat → ClassId) (p0w : ST) (p0l : SL) (p1a : Nat → Nat) (p1k : Nat → ClassId) (p1n : Nat → Nat) (p1w : ST) (p1l : SL) (p2 : Int32) (p1_2a : Nat → Nat) (p1_2k : Nat → ClassId) (p1_2n : Nat → Nat) (p1_2w : ST) (sz : Nat) (o : ST × ST) (hrun : fX5_joinOperator p0w p2 p1_2n p1_2w = some o) : Met l yX5_joinOperator (wz yX5_joinOperator cX5_joinOperator 8 (Option.none : Option Jvm.ClassFile.FieldType)) ({ frames := 3, cells := 0, slots := 0, locals := 69 } : Room) (va_Pc [.ref (p0a 0), .ref (p1a 0), .int p2] (PRE zs dC dI ((oX5 (p0a 0) p0a p0k p0w p0l) ++ (oX1 (p1a 0) p1a p1k p1n p1w p1l) ++ (oX9 (p1a 3) p1_2a p1_2k p1_2n p1_2w)) ((tX5 p0k) ++ (tX1 p1k) ++ (tX9 p1_2k)) sz)) (va_Qv (fun (_ : Unit) => True) (fun _ t => POST dC dI ((oX5 (p0a 0) p0a p0k (o.1) p0l) ++ (oX1 (p1a 0) p1a p1k p1n p1w p1l) ++ (oX9 (p1a 3) p1_2a p1_2k p1_2n (o.2))) ((tX5 p0k) ++ (tX1 p1k) ++ (tX9 p1_2k)) (va_A ((oX5 (p0a 0) p0a p0k p0w p0l) ++ (oX1 (p1a 0) p1a p1k p1n p1w p1l) ++ (oX9 (p1a 3) p1_2a p1_2k p1_2n p1_2w)) sz) t) (va_A ((oX5 (p0a 0) p0a p0k p0w p0l) ++ (oX1 (p1a 0) p1a p1k p1n p1w p1l) ++ (oX9 (p1a 3) p1_2a p1_2k p1_2n p1_2w)) sz)) 0 0 (va_A ((oX5 (p0a 0) p0a p0k p0w p0l) ++ (oX1 (p1a 0) p1a p1k p1n p1w p1l) ++ (oX9 (p1a 3) p1_2a p1_2k p1_2n p1_2w)) sz) := by
  refine Met.ofW (cc := cX5_joinOperator) (maxL := 8) (ret := (Option.none : Option Jvm.ClassFile.FieldType)) (by decide) rfl ?_
  intro p e s m args below meth c s₁ B hml hv
  obtain ⟨rfl, hsz, hP, hK, hD0, hE⟩ := hv
  have hx := B.exec
  have hb := B.bytes
  have hr := B.returns
  have hts0 := atoms_spec (ws := wz yX5_joinOperator cX5_joinOperator 8 (Option.none : Option Jvm.ClassFile.FieldType)) B.pre
  have hts : ∀ w ∈ gw, w.before _ s = true := fun w h => hts0 w (List.mem_cons_of_mem _ h)
  have hown : s.vm.findClass RX5 = some m.cls := findClass_of_methodNamed B.named
  have hlocks := B.notSynchronized
  subst hsz
  have hD := hD0.self (sz := s.heap.size)
  refine gQ9 ?_
  intro Q hQ
  generalize hAe : va_A ((oX5 (p0a 0) p0a p0k p0w p0l) ++ (oX1 (p1a 0) p1a p1k p1n p1w p1l) ++ (oX9 (p1a 3) p1_2a p1_2k p1_2n p1_2w)) s.heap.size = A at hD hE hQ
  have hA : ∀ q : Nat, s.heap.size ≤ q → A q := fun q h => by rw [← hAe]; exact Or.inr h
  have hS : va_S A s.heap s.heap [] := va_S.rf
  have hP : va_P (dC, dI) cls ((oX5 (p0a 0) p0a p0k p0w p0l) ++ (oX1 (p1a 0) p1a p1k p1n p1w p1l) ++ (oX9 (p1a 3) p1_2a p1_2k p1_2n p1_2w)) s.heap := hP
  have hl := lv_entry ([.ref (p0a 0), .ref (p1a 0), .int p2]) (n := 8) (Nat.le_of_ble_eq_true rfl)
  rw [lg_entry_eq]
  generalize (lg_sl ([.ref (p0a 0), .ref (p1a 0), .int p2]) ++ List.replicate (8 - (lg_sl ([.ref (p0a 0), .ref (p1a 0), .int p2])).length) Slot.unset).toArray = ls at hl ⊢
  have hl : lv_has ls 8 [(0, .ref (p0a 0)), (1, .ref (p1a 0)), (2, .int p2)] := hl
  obtain ⟨H, hHe⟩ : ∃ H, H = s.heap := ⟨_, rfl⟩
  obtain ⟨locs, hle⟩ : ∃ locs : List Loc, locs = [] := ⟨_, rfl⟩
  rw [← hHe] at hP
  have hS : va_S A s.heap H locs := by rw [hHe, hle]; exact hS
  show W p l e ({ frames := 3, cells := 0, slots := 0, locals := 69 } : Room) s m ([.ref (p0a 0), .ref (p1a 0), .int p2] : List Value).toArray below meth c s.heap [] 0 0 Q (F0 m 0 ls [])
  rw [← hle]
  refine wH9 hHe ?_
  unfold fX5_joinOperator at hrun
  refine lv_aload_n hx hb dX5_joinOperator_0 rfl (lv_at hl 1 rfl) ?_
  refine va_get (D := (dC, dI)) (ci := 4) (v := .ref (p1a 3)) (C := RX1) (T := TX1) (N := 21) hx hb hts i_X1 hown hK hP 10 rfl rfl 2 (by decide) (hts _ qw435) (fun _ h9 => h9) rfl dX5_joinOperator_1 ?_
  refine lv_astore_n (lv' := [(3, .ref (p1a 3)), (0, .ref (p0a 0)), (1, .ref (p1a 0)), (2, .int p2)]) hx hb dX5_joinOperator_4 rfl hl (by decide) rfl (fun ls hl => ?_)
  refine lv_aload_n hx hb dX5_joinOperator_5 rfl (lv_at hl 0 rfl) ?_
  refine va_get (D := (dC, dI)) (ci := 3) (v := .ref (p1_2a 2)) (C := RX9) (T := TX9) (N := 6) hx hb hts i_X9 hown hK hP 28 rfl rfl 1 (by decide) (hts _ qw420) (fun _ h9 => h9) rfl dX5_joinOperator_6 ?_
  refine lv_iload_n hx hb dX5_joinOperator_9 rfl (lv_at hl 3 rfl) ?_
  obtain ⟨hq1, hrun⟩ := chk9 hrun
  refine va_iald hx hb hK hP 29 26 rfl rfl (ixb_in hq1) dX5_joinOperator_10 ?_
  refine lv_istore (lv' := [(4, .int (p1_2w 2 (nn p2))), (3, .ref (p1a 3)), (0, .ref (p0a 0)), (1, .ref (p1a 0)), (2, .int p2)]) hx hb dX5_joinOperator_11 hl (by decide) rfl (fun ls hl => ?_)
  refine lv_aload_n hx hb dX5_joinOperator_13 rfl (lv_at hl 1 rfl) ?_
  refine va_get (D := (dC, dI)) (ci := 3) (v := .ref (p1_2a 3)) (C := RX9) (T := TX9) (N := 6) hx hb hts i_X9 hown hK hP 28 rfl rfl 2 (by decide) (hts _ qw436) (fun _ h9 => h9) rfl dX5_joinOperator_14 ?_
  refine lv_iload_n hx hb dX5_joinOperator_17 rfl (lv_at hl 4 rfl) ?_
  obtain ⟨hq2, hrun⟩ := chk9 hrun
  refine va_iald hx hb hK hP 30 27 rfl rfl (ixb_in hq2) dX5_joinOperator_18 ?_
  refine lv_istore (lv' := [(5, .int (p1_2w 3 (nn p2))), (4, .int (p1_2w 2 (nn p2))), (3, .ref (p1a 3)), (0, .ref (p0a 0)), (1, .ref (p1a 0)), (2, .int p2)]) hx hb dX5_joinOperator_19 hl (by decide) rfl (fun ls hl => ?_)
  refine lv_aload_n hx hb dX5_joinOperator_21 rfl (lv_at hl 3 rfl) ?_
  refine lv_aload_n hx hb dX5_joinOperator_22 rfl (lv_at hl 2 rfl) ?_
  refine va_get (D := (dC, dI)) (ci := 3) (v := .ref (p1_2a 4)) (C := RX9) (T := TX9) (N := 6) hx hb hts i_X9 hown hK hP 28 rfl rfl 3 (by decide) (hts _ qw421) (fun _ h9 => h9) rfl dX5_joinOperator_23 ?_
  refine lv_iload_n hx hb dX5_joinOperator_26 rfl (lv_at hl 5 rfl) ?_
  obtain ⟨hq3, hrun⟩ := chk9 hrun
  refine va_iald hx hb hK hP 31 28 rfl rfl (ixb_in hq3) dX5_joinOperator_27 ?_
  obtain ⟨o_4, hc_4, hrun⟩ := bnd9 hrun
  have hPc := hP.sub (ws' := (oX5 (p0a 0) p0a p0k p0w p0l)) [0, 1, 2, 3, 4, 5, 6, 7, 8, 9] rfl
  have hDc := hD.sub (ws' := (oX5 (p0a 0) p0a p0k p0w p0l)) [0, 1, 2, 3, 4, 5, 6, 7, 8, 9] (by decide) rfl
  have hKc := hK.sub (tys' := (tX5 p0k)) [0, 1, 2, 3, 4, 5, 6, 7, 8] rfl
  have hFc := va_free (wc := (oX5 (p0a 0) p0a p0k p0w p0l)) hD hS hA [0, 1, 2, 3, 4, 5, 6, 7, 8, 9] rfl
  refine va_calli (va_runV (As := [.int (p1_2w 4 (nn p2))]) (rest := []) ⟨hx, hb, hml, hown, hts⟩ (kX5_standInOf l dC dI (p0a := (st0 (p0a 0) p0a)) (p0k := p0k) (p0w := p0w) (p0l := p0l) (p1 := (p1_2w 4 (nn p2))) (sz := _) (o := o_4) (hrun := hc_4)) (cwV 1 hts (gi_V qw541 qw542 qw543 qw442 (gi_z qw540)) rfl rfl rfl (by decide +kernel) ⟨Nat.le_of_ble_eq_true rfl, Nat.le_of_ble_eq_true rfl⟩) ⟨PRE.blind, va_recv hKc hPc (ci := 7) (q0 := 0) rfl rfl, PRE.of hE hS hFc hPc hKc hDc⟩ rfl rfl hl.1 rfl (lv_room (Nat.le_of_ble_eq_true rfl)) dX5_joinOperator_28 ⟨(Nat.le_of_ble_eq_true rfl), (Nat.le_of_ble_eq_true rfl)⟩) hS (fun q _ h => hFc q h) hFc (fun r5 u t H locs ht hvm hw hB hz1 hk1 hS => ?_)
  obtain ⟨hP, hD, hK⟩ := JOIN (wr := ((oX1 (p1a 0) p1a p1k p1n p1w p1l) ++ (oX9 (p1a 3) p1_2a p1_2k p1_2n p1_2w))) hP hD hK [0, 1, 2, 3, 4, 5, 6, 7, 8, 9] [10, 11, 12, 13, 14, 15, 16, 17, 18, 19, 20, 21, 22, 23, 24, 25, 26, 27, 28, 29, 30, 31, 32, 33] [9, 10, 11, 12, 13, 14, 15, 16, 17, 18, 19, 20, 21, 22, 23, 24, 25, 26, 27, 28, 29, 30] rfl rfl (by decide) (by decide) rfl hk1 hFc ht hvm hB
  have hP : va_P (dC, dI) cls ((oX5 (p0a 0) p0a p0k p0w p0l) ++ (oX1 (p1a 0) p1a p1k p1n p1w p1l) ++ (oX9 (p1a 3) p1_2a p1_2k p1_2n p1_2w)) H := hP.sub [24, 25, 26, 27, 28, 29, 30, 31, 32, 33, 0, 1, 2, 3, 4, 5, 6, 7, 8, 9, 10, 11, 12, 13, 14, 15, 16, 17, 18, 19, 20, 21, 22, 23] rfl
  have hD : va_D A ((oX5 (p0a 0) p0a p0k p0w p0l) ++ (oX1 (p1a 0) p1a p1k p1n p1w p1l) ++ (oX9 (p1a 3) p1_2a p1_2k p1_2n p1_2w)) := hD.sub [24, 25, 26, 27, 28, 29, 30, 31, 32, 33, 0, 1, 2, 3, 4, 5, 6, 7, 8, 9, 10, 11, 12, 13, 14, 15, 16, 17, 18, 19, 20, 21, 22, 23] (by decide) rfl
  have hK : va_K (dC, dI) cls ((tX5 p0k) ++ (tX1 p1k) ++ (tX9 p1_2k)) s := hK.sub [22, 23, 24, 25, 26, 27, 28, 29, 30, 0, 1, 2, 3, 4, 5, 6, 7, 8, 9, 10, 11, 12, 13, 14, 15, 16, 17, 18, 19, 20, 21] rfl
  obtain rfl : o_4 = r5 := hw.symm
  refine lv_istore (lv' := [(6, .int o_4), (5, .int (p1_2w 3 (nn p2))), (4, .int (p1_2w 2 (nn p2))), (3, .ref (p1a 3)), (0, .ref (p0a 0)), (1, .ref (p1a 0)), (2, .int p2)]) hx hb dX5_joinOperator_31 hl (by decide) rfl (fun ls hl => ?_)
  refine lv_aload_n hx hb dX5_joinOperator_33 rfl (lv_at hl 4 rfl) ?_
  refine lv_aload_n hx hb dX5_joinOperator_34 rfl (lv_at hl 3 rfl) ?_
  refine va_get (D := (dC, dI)) (ci := 3) (v := .ref (p1_2a 5)) (C := RX9) (T := TX9) (N := 6) hx hb hts i_X9 hown hK hP 28 rfl rfl 4 (by decide) (hts _ qw422) (fun _ h9 => h9) rfl dX5_joinOperator_35 ?_
  refine lv_iload_n hx hb dX5_joinOperator_38 rfl (lv_at hl 6 rfl) ?_
  obtain ⟨hq6, hrun⟩ := chk9 hrun
  refine va_iald hx hb hK hP 32 29 rfl rfl (ixb_in hq6) dX5_joinOperator_39 ?_
  obtain ⟨o_7, hc_7, hrun⟩ := bnd9 hrun
  have hPc := hP.sub (ws' := (oX5 (p0a 0) p0a p0k p0w p0l)) [0, 1, 2, 3, 4, 5, 6, 7, 8, 9] rfl
  have hDc := hD.sub (ws' := (oX5 (p0a 0) p0a p0k p0w p0l)) [0, 1, 2, 3, 4, 5, 6, 7, 8, 9] (by decide) rfl
  have hKc := hK.sub (tys' := (tX5 p0k)) [0, 1, 2, 3, 4, 5, 6, 7, 8] rfl
  have hFc := va_free (wc := (oX5 (p0a 0) p0a p0k p0w p0l)) hD hS hA [0, 1, 2, 3, 4, 5, 6, 7, 8, 9] rfl
  refine va_calli (va_runV (As := [.int (p1_2w 5 (nn p2))]) (rest := []) ⟨hx, hb, hml, hown, hts⟩ (kX5_standInOf l dC dI (p0a := (st0 (p0a 0) p0a)) (p0k := p0k) (p0w := p0w) (p0l := p0l) (p1 := (p1_2w 5 (nn p2))) (sz := _) (o := o_7) (hrun := hc_7)) (cwV 1 hts (gi_V qw541 qw542 qw543 qw442 (gi_z qw540)) rfl rfl rfl (by decide +kernel) ⟨Nat.le_of_ble_eq_true rfl, Nat.le_of_ble_eq_true rfl⟩) ⟨PRE.blind, va_recv hKc hPc (ci := 7) (q0 := 0) rfl rfl, PRE.of hE hS hFc hPc hKc hDc⟩ rfl rfl hl.1 rfl (lv_room (Nat.le_of_ble_eq_true rfl)) dX5_joinOperator_40 ⟨(Nat.le_of_ble_eq_true rfl), (Nat.le_of_ble_eq_true rfl)⟩) hS (fun q _ h => hFc q h) hFc (fun r8 u t H locs ht hvm hw hB hz1 hk1 hS => ?_)
  obtain ⟨hP, hD, hK⟩ := JOIN (wr := ((oX1 (p1a 0) p1a p1k p1n p1w p1l) ++ (oX9 (p1a 3) p1_2a p1_2k p1_2n p1_2w))) hP hD hK [0, 1, 2, 3, 4, 5, 6, 7, 8, 9] [10, 11, 12, 13, 14, 15, 16, 17, 18, 19, 20, 21, 22, 23, 24, 25, 26, 27, 28, 29, 30, 31, 32, 33] [9, 10, 11, 12, 13, 14, 15, 16, 17, 18, 19, 20, 21, 22, 23, 24, 25, 26, 27, 28, 29, 30] rfl rfl (by decide) (by decide) rfl hk1 hFc ht hvm hB
  have hP : va_P (dC, dI) cls ((oX5 (p0a 0) p0a p0k p0w p0l) ++ (oX1 (p1a 0) p1a p1k p1n p1w p1l) ++ (oX9 (p1a 3) p1_2a p1_2k p1_2n p1_2w)) H := hP.sub [24, 25, 26, 27, 28, 29, 30, 31, 32, 33, 0, 1, 2, 3, 4, 5, 6, 7, 8, 9, 10, 11, 12, 13, 14, 15, 16, 17, 18, 19, 20, 21, 22, 23] rfl
  have hD : va_D A ((oX5 (p0a 0) p0a p0k p0w p0l) ++ (oX1 (p1a 0) p1a p1k p1n p1w p1l) ++ (oX9 (p1a 3) p1_2a p1_2k p1_2n p1_2w)) := hD.sub [24, 25, 26, 27, 28, 29, 30, 31, 32, 33, 0, 1, 2, 3, 4, 5, 6, 7, 8, 9, 10, 11, 12, 13, 14, 15, 16, 17, 18, 19, 20, 21, 22, 23] (by decide) rfl
  have hK : va_K (dC, dI) cls ((tX5 p0k) ++ (tX1 p1k) ++ (tX9 p1_2k)) s := hK.sub [22, 23, 24, 25, 26, 27, 28, 29, 30, 0, 1, 2, 3, 4, 5, 6, 7, 8, 9, 10, 11, 12, 13, 14, 15, 16, 17, 18, 19, 20, 21] rfl
  obtain rfl : o_7 = r8 := hw.symm
  refine lv_istore (lv' := [(7, .int o_7), (6, .int o_4), (5, .int (p1_2w 3 (nn p2))), (4, .int (p1_2w 2 (nn p2))), (3, .ref (p1a 3)), (0, .ref (p0a 0)), (1, .ref (p1a 0)), (2, .int p2)]) hx hb dX5_joinOperator_43 hl (by decide) rfl (fun ls hl => ?_)
  refine lv_aload_n hx hb dX5_joinOperator_45 rfl (lv_at hl 4 rfl) ?_
  refine va_get (D := (dC, dI)) (ci := 3) (v := .ref (p1_2a 4)) (C := RX9) (T := TX9) (N := 6) hx hb hts i_X9 hown hK hP 28 rfl rfl 3 (by decide) (hts _ qw421) (fun _ h9 => h9) rfl dX5_joinOperator_46 ?_
  refine lv_iload_n hx hb dX5_joinOperator_49 rfl (lv_at hl 7 rfl) ?_
  refine lv_iload hx hb dX5_joinOperator_50 (lv_at hl 1 rfl) ?_
  obtain ⟨hq9, hrun⟩ := chk9 hrun
  refine va_iast hx hb hK hP hD hS 31 28 rfl rfl (ixb_in hq9) dX5_joinOperator_52 (fun H locs hP hD hS => ?_)
  have hP : va_P (dC, dI) cls ((oX5 (p0a 0) p0a p0k p0w p0l) ++ (oX1 (p1a 0) p1a p1k p1n p1w p1l) ++ (oX9 (p1a 3) p1_2a p1_2k p1_2n (upw p1_2w 4 (nn p2) o_4))) H := hP
  have hD : va_D A ((oX5 (p0a 0) p0a p0k p0w p0l) ++ (oX1 (p1a 0) p1a p1k p1n p1w p1l) ++ (oX9 (p1a 3) p1_2a p1_2k p1_2n (upw p1_2w 4 (nn p2) o_4))) := hD
  obtain ⟨w10, ew10, hrun⟩ := let9 hrun
  rw [← ew10] at hP hD
  refine lv_aload_n hx hb dX5_joinOperator_53 rfl (lv_at hl 4 rfl) ?_
  refine va_get (D := (dC, dI)) (ci := 3) (v := .ref (p1_2a 5)) (C := RX9) (T := TX9) (N := 6) hx hb hts i_X9 hown hK hP 28 rfl rfl 4 (by decide) (hts _ qw422) (fun _ h9 => h9) rfl dX5_joinOperator_54 ?_
  refine lv_iload_n hx hb dX5_joinOperator_57 rfl (lv_at hl 7 rfl) ?_
  refine lv_iload hx hb dX5_joinOperator_58 (lv_at hl 0 rfl) ?_
  obtain ⟨hq11, hrun⟩ := chk9 hrun
  refine va_iast hx hb hK hP hD hS 32 29 rfl rfl (ixb_in hq11) dX5_joinOperator_60 (fun H locs hP hD hS => ?_)
  have hP : va_P (dC, dI) cls ((oX5 (p0a 0) p0a p0k p0w p0l) ++ (oX1 (p1a 0) p1a p1k p1n p1w p1l) ++ (oX9 (p1a 3) p1_2a p1_2k p1_2n (upw w10 5 (nn p2) o_7))) H := hP
  have hD : va_D A ((oX5 (p0a 0) p0a p0k p0w p0l) ++ (oX1 (p1a 0) p1a p1k p1n p1w p1l) ++ (oX9 (p1a 3) p1_2a p1_2k p1_2n (upw w10 5 (nn p2) o_7))) := hD
  obtain ⟨w12, ew12, hrun⟩ := let9 hrun
  rw [← ew12] at hP hD
  refine lv_aload_n hx hb dX5_joinOperator_61 rfl (lv_at hl 5 rfl) ?_
  refine lv_aload_n hx hb dX5_joinOperator_62 rfl (lv_at hl 6 rfl) ?_
  refine lv_iload hx hb dX5_joinOperator_63 (lv_at hl 1 rfl) ?_
  obtain ⟨o_13, hc_13, hrun⟩ := bnd9 hrun
  have hPc := hP.sub (ws' := ((oX5 (p0a 0) p0a p0k p0w p0l) ++ (oX1 (p1a 0) p1a p1k p1n p1w p1l) ++ (oX9 (p1a 3) p1_2a p1_2k p1_2n w12))) [0, 1, 2, 3, 4, 5, 6, 7, 8, 9, 10, 11, 12, 13, 14, 15, 16, 17, 18, 19, 20, 21, 22, 23, 24, 25, 26, 27, 28, 29, 30, 31, 32, 33] rfl
  have hDc := hD.sub (ws' := ((oX5 (p0a 0) p0a p0k p0w p0l) ++ (oX1 (p1a 0) p1a p1k p1n p1w p1l) ++ (oX9 (p1a 3) p1_2a p1_2k p1_2n w12))) [0, 1, 2, 3, 4, 5, 6, 7, 8, 9, 10, 11, 12, 13, 14, 15, 16, 17, 18, 19, 20, 21, 22, 23, 24, 25, 26, 27, 28, 29, 30, 31, 32, 33] (by decide) rfl
  have hKc := hK.sub (tys' := ((tX5 p0k) ++ (tX1 p1k) ++ (tX9 p1_2k))) [0, 1, 2, 3, 4, 5, 6, 7, 8, 9, 10, 11, 12, 13, 14, 15, 16, 17, 18, 19, 20, 21, 22, 23, 24, 25, 26, 27, 28, 29, 30] rfl
  have hFc := va_free (wc := ((oX5 (p0a 0) p0a p0k p0w p0l) ++ (oX1 (p1a 0) p1a p1k p1n p1w p1l) ++ (oX9 (p1a 3) p1_2a p1_2k p1_2n w12))) hD hS hA [0, 1, 2, 3, 4, 5, 6, 7, 8, 9, 10, 11, 12, 13, 14, 15, 16, 17, 18, 19, 20, 21, 22, 23, 24, 25, 26, 27, 28, 29, 30, 31, 32, 33] rfl
  refine va_calli (va_runV (As := [.ref (p1a 0), .int o_4]) (rest := []) ⟨hx, hb, hml, hown, hts⟩ (kX5_isNumber l dC dI (p0a := (st0 (p0a 0) p0a)) (p0k := p0k) (p0w := p0w) (p0l := p0l) (p1a := (st0 (p1a 0) p1a)) (p1k := p1k) (p1n := p1n) (p1w := p1w) (p1l := p1l) (p2 := o_4) (p1_2a := p1_2a) (p1_2k := p1_2k) (p1_2n := p1_2n) (p1_2w := w12) (sz := _) (o := o_13) (hrun := hc_13)) (cwV 2 hts (gi_V qw457 qw458 qw459 qw442 (gi_z qw456)) rfl rfl rfl (by decide +kernel) ⟨Nat.le_of_ble_eq_true rfl, Nat.le_of_ble_eq_true rfl⟩) ⟨PRE.blind, va_recv hKc hPc (ci := 7) (q0 := 0) rfl rfl, PRE.of hE hS hFc hPc hKc hDc⟩ rfl rfl hl.1 rfl (lv_room (Nat.le_of_ble_eq_true rfl)) dX5_joinOperator_65 ⟨(Nat.le_of_ble_eq_true rfl), (Nat.le_of_ble_eq_true rfl)⟩) hS (fun q _ h => hFc q h) hFc (fun r14 u t H locs ht hvm hw hB hz1 hk1 hS => ?_)
  obtain ⟨hP, hD, hK⟩ := JOIN (wr := ([] : va_W)) hP hD hK [0, 1, 2, 3, 4, 5, 6, 7, 8, 9, 10, 11, 12, 13, 14, 15, 16, 17, 18, 19, 20, 21, 22, 23, 24, 25, 26, 27, 28, 29, 30, 31, 32, 33] [] [] rfl rfl (by decide) (by decide) rfl hk1 hFc ht hvm hB
  have hP : va_P (dC, dI) cls ((oX5 (p0a 0) p0a p0k p0w p0l) ++ (oX1 (p1a 0) p1a p1k p1n p1w p1l) ++ (oX9 (p1a 3) p1_2a p1_2k p1_2n w12)) H := hP.sub [0, 1, 2, 3, 4, 5, 6, 7, 8, 9, 10, 11, 12, 13, 14, 15, 16, 17, 18, 19, 20, 21, 22, 23, 24, 25, 26, 27, 28, 29, 30, 31, 32, 33] rfl
  have hD : va_D A ((oX5 (p0a 0) p0a p0k p0w p0l) ++ (oX1 (p1a 0) p1a p1k p1n p1w p1l) ++ (oX9 (p1a 3) p1_2a p1_2k p1_2n w12)) := hD.sub [0, 1, 2, 3, 4, 5, 6, 7, 8, 9, 10, 11, 12, 13, 14, 15, 16, 17, 18, 19, 20, 21, 22, 23, 24, 25, 26, 27, 28, 29, 30, 31, 32, 33] (by decide) rfl
  have hK : va_K (dC, dI) cls ((tX5 p0k) ++ (tX1 p1k) ++ (tX9 p1_2k)) s := hK.sub [0, 1, 2, 3, 4, 5, 6, 7, 8, 9, 10, 11, 12, 13, 14, 15, 16, 17, 18, 19, 20, 21, 22, 23, 24, 25, 26, 27, 28, 29, 30] rfl
  obtain rfl : o_13 = r14 := hw.symm
  have J290 : ∀ (p0w_290 : ST) (p1_2w_290 : ST) (H : Heap) (locs : List Loc) (ls : Array Slot), (fX5_joinOperator_J290 p0w_290 p1_2w_290) = some o → va_P (dC, dI) cls ((oX5 (p0a 0) p0a p0k p0w_290 p0l) ++ (oX1 (p1a 0) p1a p1k p1n p1w p1l) ++ (oX9 (p1a 3) p1_2a p1_2k p1_2n p1_2w_290)) H → va_D A ((oX5 (p0a 0) p0a p0k p0w_290 p0l) ++ (oX1 (p1a 0) p1a p1k p1n p1w p1l) ++ (oX9 (p1a 3) p1_2a p1_2k p1_2n p1_2w_290)) → va_K (dC, dI) cls ((tX5 p0k) ++ (tX1 p1k) ++ (tX9 p1_2k)) s → va_S A s.heap H locs → lv_has ls 8 [] → W p l e ({ frames := 3, cells := 0, slots := 0, locals := 69 } : Room) s m ([.ref (p0a 0), .ref (p1a 0), .int p2] : List Value).toArray below meth c H locs 0 0 Q (F0 m 290 ls []) := by
    intro p0w_290 p1_2w_290 H locs ls hrun hP hD hK hS hl 
    unfold fX5_joinOperator_J290 at hrun
    have ho9 : (p0w_290, p1_2w_290) = o := Option.some.inj hrun
    have hP9 : va_P (dC, dI) cls ((oX5 (p0a 0) p0a p0k (o.1) p0l) ++ (oX1 (p1a 0) p1a p1k p1n p1w p1l) ++ (oX9 (p1a 3) p1_2a p1_2k p1_2n (o.2))) H := by first | exact hP | (rw [← ho9]; exact hP)
    have hD9 : va_D A ((oX5 (p0a 0) p0a p0k (o.1) p0l) ++ (oX1 (p1a 0) p1a p1k p1n p1w p1l) ++ (oX9 (p1a 3) p1_2a p1_2k p1_2n (o.2))) := by first | exact hD | (rw [← ho9]; exact hD)
    subst hQ
    exact W.vret hx hb hr (fun t ht hW => ⟨⟨(), rfl, trivial, ⟨by rw [ht]; exact hP9, va_K.moved hW.alike hK, hD9⟩⟩, hS.F ht⟩) hS.2.2 dX5_joinOperator_290
  have J131 : ∀ (H : Heap) (locs : List Loc) (ls : Array Slot), (fX5_joinOperator_J131 p0w p2 p1_2n p1_2w o_4 o_7 w12) = some o → va_P (dC, dI) cls ((oX5 (p0a 0) p0a p0k p0w p0l) ++ (oX1 (p1a 0) p1a p1k p1n p1w p1l) ++ (oX9 (p1a 3) p1_2a p1_2k p1_2n w12)) H → va_D A ((oX5 (p0a 0) p0a p0k p0w p0l) ++ (oX1 (p1a 0) p1a p1k p1n p1w p1l) ++ (oX9 (p1a 3) p1_2a p1_2k p1_2n w12)) → va_K (dC, dI) cls ((tX5 p0k) ++ (tX1 p1k) ++ (tX9 p1_2k)) s → va_S A s.heap H locs → lv_has ls 8 [(0, .ref (p0a 0)), (1, .ref (p1a 0)), (2, .int p2), (3, .ref (p1a 3)), (4, .int (p1_2w 2 (nn p2))), (5, .int (p1_2w 3 (nn p2))), (6, .int o_4), (7, .int o_7)] → W p l e ({ frames := 3, cells := 0, slots := 0, locals := 69 } : Room) s m ([.ref (p0a 0), .ref (p1a 0), .int p2] : List Value).toArray below meth c H locs 0 0 Q (F0 m 131 ls []) := by
    intro  H locs ls hrun hP hD hK hS hl 
    unfold fX5_joinOperator_J131 at hrun
    refine lv_aload_n hx hb dX5_joinOperator_131 rfl (lv_at hl 0 rfl) ?_
    refine lv_aload_n hx hb dX5_joinOperator_132 rfl (lv_at hl 1 rfl) ?_
    refine lv_iload hx hb dX5_joinOperator_133 (lv_at hl 4 rfl) ?_
    refine lv_iload hx hb dX5_joinOperator_135 (lv_at hl 6 rfl) ?_
    refine lv_iload hx hb dX5_joinOperator_137 (lv_at hl 7 rfl) ?_
    obtain ⟨o_15, hc_15, hrun⟩ := bnd9 hrun
    have hPc := hP.sub (ws' := ((oX5 (p0a 0) p0a p0k p0w p0l) ++ (oX1 (p1a 0) p1a p1k p1n p1w p1l) ++ (oX9 (p1a 3) p1_2a p1_2k p1_2n w12))) [0, 1, 2, 3, 4, 5, 6, 7, 8, 9, 10, 11, 12, 13, 14, 15, 16, 17, 18, 19, 20, 21, 22, 23, 24, 25, 26, 27, 28, 29, 30, 31, 32, 33] rfl
    have hDc := hD.sub (ws' := ((oX5 (p0a 0) p0a p0k p0w p0l) ++ (oX1 (p1a 0) p1a p1k p1n p1w p1l) ++ (oX9 (p1a 3) p1_2a p1_2k p1_2n w12))) [0, 1, 2, 3, 4, 5, 6, 7, 8, 9, 10, 11, 12, 13, 14, 15, 16, 17, 18, 19, 20, 21, 22, 23, 24, 25, 26, 27, 28, 29, 30, 31, 32, 33] (by decide) rfl
    have hKc := hK.sub (tys' := ((tX5 p0k) ++ (tX1 p1k) ++ (tX9 p1_2k))) [0, 1, 2, 3, 4, 5, 6, 7, 8, 9, 10, 11, 12, 13, 14, 15, 16, 17, 18, 19, 20, 21, 22, 23, 24, 25, 26, 27, 28, 29, 30] rfl
    have hFc := va_free (wc := ((oX5 (p0a 0) p0a p0k p0w p0l) ++ (oX1 (p1a 0) p1a p1k p1n p1w p1l) ++ (oX9 (p1a 3) p1_2a p1_2k p1_2n w12))) hD hS hA [0, 1, 2, 3, 4, 5, 6, 7, 8, 9, 10, 11, 12, 13, 14, 15, 16, 17, 18, 19, 20, 21, 22, 23, 24, 25, 26, 27, 28, 29, 30, 31, 32, 33] rfl
    refine va_calli (va_runV (As := [.ref (p1a 0), .int (p1_2w 2 (nn p2)), .int o_4, .int o_7]) (rest := []) ⟨hx, hb, hml, hown, hts⟩ (kX5_isLeftAlone l dC dI (p0a := (st0 (p0a 0) p0a)) (p0k := p0k) (p0w := p0w) (p0l := p0l) (p1a := (st0 (p1a 0) p1a)) (p1k := p1k) (p1n := p1n) (p1w := p1w) (p1l := p1l) (p2 := (p1_2w 2 (nn p2))) (p3 := o_4) (p4 := o_7) (p1_2a := p1_2a) (p1_2k := p1_2k) (p1_2n := p1_2n) (p1_2w := w12) (sz := _) (o := o_15) (hrun := hc_15)) (cwV 4 hts (gi_V qw565 qw566 qw567 qw442 (gi_z qw564)) rfl rfl rfl (by decide +kernel) ⟨Nat.le_of_ble_eq_true rfl, Nat.le_of_ble_eq_true rfl⟩) ⟨PRE.blind, va_recv hKc hPc (ci := 7) (q0 := 0) rfl rfl, PRE.of hE hS hFc hPc hKc hDc⟩ rfl rfl hl.1 rfl (lv_room (Nat.le_of_ble_eq_true rfl)) dX5_joinOperator_139 ⟨(Nat.le_of_ble_eq_true rfl), (Nat.le_of_ble_eq_true rfl)⟩) hS (fun q _ h => hFc q h) hFc (fun r16 u t H locs ht hvm hw hB hz1 hk1 hS => ?_)
    obtain ⟨hP, hD, hK⟩ := JOIN (wr := ([] : va_W)) hP hD hK [0, 1, 2, 3, 4, 5, 6, 7, 8, 9, 10, 11, 12, 13, 14, 15, 16, 17, 18, 19, 20, 21, 22, 23, 24, 25, 26, 27, 28, 29, 30, 31, 32, 33] [] [] rfl rfl (by decide) (by decide) rfl hk1 hFc ht hvm hB
    have hP : va_P (dC, dI) cls ((oX5 (p0a 0) p0a p0k p0w p0l) ++ (oX1 (p1a 0) p1a p1k p1n p1w p1l) ++ (oX9 (p1a 3) p1_2a p1_2k p1_2n w12)) H := hP.sub [0, 1, 2, 3, 4, 5, 6, 7, 8, 9, 10, 11, 12, 13, 14, 15, 16, 17, 18, 19, 20, 21, 22, 23, 24, 25, 26, 27, 28, 29, 30, 31, 32, 33] rfl
    have hD : va_D A ((oX5 (p0a 0) p0a p0k p0w p0l) ++ (oX1 (p1a 0) p1a p1k p1n p1w p1l) ++ (oX9 (p1a 3) p1_2a p1_2k p1_2n w12)) := hD.sub [0, 1, 2, 3, 4, 5, 6, 7, 8, 9, 10, 11, 12, 13, 14, 15, 16, 17, 18, 19, 20, 21, 22, 23, 24, 25, 26, 27, 28, 29, 30, 31, 32, 33] (by decide) rfl
    have hK : va_K (dC, dI) cls ((tX5 p0k) ++ (tX1 p1k) ++ (tX9 p1_2k)) s := hK.sub [0, 1, 2, 3, 4, 5, 6, 7, 8, 9, 10, 11, 12, 13, 14, 15, 16, 17, 18, 19, 20, 21, 22, 23, 24, 25, 26, 27, 28, 29, 30] rfl
    obtain rfl : o_15 = r16 := hw.symm
    rcases br9 hrun with ⟨hc17, hrun⟩ | ⟨hc17, hrun⟩
    · refine lv_if_eq (tgt := 157) hx hb dX5_joinOperator_142 (by decide) (fun _ => ?_) (fun c => absurd hc17 c)
      refine lv_aload_n hx hb dX5_joinOperator_157 rfl (lv_at hl 0 rfl) ?_
      refine lv_aload_n hx hb dX5_joinOperator_158 rfl (lv_at hl 1 rfl) ?_
      refine lv_iload hx hb dX5_joinOperator_159 (lv_at hl 4 rfl) ?_
      refine lv_iload hx hb dX5_joinOperator_161 (lv_at hl 6 rfl) ?_
      refine lv_iload hx hb dX5_joinOperator_163 (lv_at hl 7 rfl) ?_
      obtain ⟨o_18, hc_18, hrun⟩ := bnd9 hrun
      have hPc := hP.sub (ws' := ((oX5 (p0a 0) p0a p0k p0w p0l) ++ (oX1 (p1a 0) p1a p1k p1n p1w p1l) ++ (oX9 (p1a 3) p1_2a p1_2k p1_2n w12))) [0, 1, 2, 3, 4, 5, 6, 7, 8, 9, 10, 11, 12, 13, 14, 15, 16, 17, 18, 19, 20, 21, 22, 23, 24, 25, 26, 27, 28, 29, 30, 31, 32, 33] rfl
      have hDc := hD.sub (ws' := ((oX5 (p0a 0) p0a p0k p0w p0l) ++ (oX1 (p1a 0) p1a p1k p1n p1w p1l) ++ (oX9 (p1a 3) p1_2a p1_2k p1_2n w12))) [0, 1, 2, 3, 4, 5, 6, 7, 8, 9, 10, 11, 12, 13, 14, 15, 16, 17, 18, 19, 20, 21, 22, 23, 24, 25, 26, 27, 28, 29, 30, 31, 32, 33] (by decide) rfl
      have hKc := hK.sub (tys' := ((tX5 p0k) ++ (tX1 p1k) ++ (tX9 p1_2k))) [0, 1, 2, 3, 4, 5, 6, 7, 8, 9, 10, 11, 12, 13, 14, 15, 16, 17, 18, 19, 20, 21, 22, 23, 24, 25, 26, 27, 28, 29, 30] rfl
      have hFc := va_free (wc := ((oX5 (p0a 0) p0a p0k p0w p0l) ++ (oX1 (p1a 0) p1a p1k p1n p1w p1l) ++ (oX9 (p1a 3) p1_2a p1_2k p1_2n w12))) hD hS hA [0, 1, 2, 3, 4, 5, 6, 7, 8, 9, 10, 11, 12, 13, 14, 15, 16, 17, 18, 19, 20, 21, 22, 23, 24, 25, 26, 27, 28, 29, 30, 31, 32, 33] rfl
      refine va_calli (va_runV (As := [.ref (p1a 0), .int (p1_2w 2 (nn p2)), .int o_4, .int o_7]) (rest := []) ⟨hx, hb, hml, hown, hts⟩ (kX5_isRightAlone l dC dI (p0a := (st0 (p0a 0) p0a)) (p0k := p0k) (p0w := p0w) (p0l := p0l) (p1a := (st0 (p1a 0) p1a)) (p1k := p1k) (p1n := p1n) (p1w := p1w) (p1l := p1l) (p2 := (p1_2w 2 (nn p2))) (p3 := o_4) (p4 := o_7) (p1_2a := p1_2a) (p1_2k := p1_2k) (p1_2n := p1_2n) (p1_2w := w12) (sz := _) (o := o_18) (hrun := hc_18)) (cwV 4 hts (gi_V qw569 qw570 qw571 qw442 (gi_z qw568)) rfl rfl rfl (by decide +kernel) ⟨Nat.le_of_ble_eq_true rfl, Nat.le_of_ble_eq_true rfl⟩) ⟨PRE.blind, va_recv hKc hPc (ci := 7) (q0 := 0) rfl rfl, PRE.of hE hS hFc hPc hKc hDc⟩ rfl rfl hl.1 rfl (lv_room (Nat.le_of_ble_eq_true rfl)) dX5_joinOperator_165 ⟨(Nat.le_of_ble_eq_true rfl), (Nat.le_of_ble_eq_true rfl)⟩) hS (fun q _ h => hFc q h) hFc (fun r19 u t H locs ht hvm hw hB hz1 hk1 hS => ?_)
      obtain ⟨hP, hD, hK⟩ := JOIN (wr := ([] : va_W)) hP hD hK [0, 1, 2, 3, 4, 5, 6, 7, 8, 9, 10, 11, 12, 13, 14, 15, 16, 17, 18, 19, 20, 21, 22, 23, 24, 25, 26, 27, 28, 29, 30, 31, 32, 33] [] [] rfl rfl (by decide) (by decide) rfl hk1 hFc ht hvm hB
      have hP : va_P (dC, dI) cls ((oX5 (p0a 0) p0a p0k p0w p0l) ++ (oX1 (p1a 0) p1a p1k p1n p1w p1l) ++ (oX9 (p1a 3) p1_2a p1_2k p1_2n w12)) H := hP.sub [0, 1, 2, 3, 4, 5, 6, 7, 8, 9, 10, 11, 12, 13, 14, 15, 16, 17, 18, 19, 20, 21, 22, 23, 24, 25, 26, 27, 28, 29, 30, 31, 32, 33] rfl
      have hD : va_D A ((oX5 (p0a 0) p0a p0k p0w p0l) ++ (oX1 (p1a 0) p1a p1k p1n p1w p1l) ++ (oX9 (p1a 3) p1_2a p1_2k p1_2n w12)) := hD.sub [0, 1, 2, 3, 4, 5, 6, 7, 8, 9, 10, 11, 12, 13, 14, 15, 16, 17, 18, 19, 20, 21, 22, 23, 24, 25, 26, 27, 28, 29, 30, 31, 32, 33] (by decide) rfl
      have hK : va_K (dC, dI) cls ((tX5 p0k) ++ (tX1 p1k) ++ (tX9 p1_2k)) s := hK.sub [0, 1, 2, 3, 4, 5, 6, 7, 8, 9, 10, 11, 12, 13, 14, 15, 16, 17, 18, 19, 20, 21, 22, 23, 24, 25, 26, 27, 28, 29, 30] rfl
      obtain rfl : o_18 = r19 := hw.symm
      rcases br9 hrun with ⟨hc20, hrun⟩ | ⟨hc20, hrun⟩
      · refine lv_if_eq (tgt := 183) hx hb dX5_joinOperator_168 (by decide) (fun _ => ?_) (fun c => absurd hc20 c)
        refine lv_aload_n hx hb dX5_joinOperator_183 rfl (lv_at hl 0 rfl) ?_
        refine lv_aload_n hx hb dX5_joinOperator_184 rfl (lv_at hl 1 rfl) ?_
        refine lv_iload hx hb dX5_joinOperator_185 (lv_at hl 4 rfl) ?_
        refine lv_iload hx hb dX5_joinOperator_187 (lv_at hl 6 rfl) ?_
        refine lv_iload hx hb dX5_joinOperator_189 (lv_at hl 7 rfl) ?_
        obtain ⟨o_21, hc_21, hrun⟩ := bnd9 hrun
        have hPc := hP.sub (ws' := ((oX5 (p0a 0) p0a p0k p0w p0l) ++ (oX1 (p1a 0) p1a p1k p1n p1w p1l) ++ (oX9 (p1a 3) p1_2a p1_2k p1_2n w12))) [0, 1, 2, 3, 4, 5, 6, 7, 8, 9, 10, 11, 12, 13, 14, 15, 16, 17, 18, 19, 20, 21, 22, 23, 24, 25, 26, 27, 28, 29, 30, 31, 32, 33] rfl
        have hDc := hD.sub (ws' := ((oX5 (p0a 0) p0a p0k p0w p0l) ++ (oX1 (p1a 0) p1a p1k p1n p1w p1l) ++ (oX9 (p1a 3) p1_2a p1_2k p1_2n w12))) [0, 1, 2, 3, 4, 5, 6, 7, 8, 9, 10, 11, 12, 13, 14, 15, 16, 17, 18, 19, 20, 21, 22, 23, 24, 25, 26, 27, 28, 29, 30, 31, 32, 33] (by decide) rfl
        have hKc := hK.sub (tys' := ((tX5 p0k) ++ (tX1 p1k) ++ (tX9 p1_2k))) [0, 1, 2, 3, 4, 5, 6, 7, 8, 9, 10, 11, 12, 13, 14, 15, 16, 17, 18, 19, 20, 21, 22, 23, 24, 25, 26, 27, 28, 29, 30] rfl
        have hFc := va_free (wc := ((oX5 (p0a 0) p0a p0k p0w p0l) ++ (oX1 (p1a 0) p1a p1k p1n p1w p1l) ++ (oX9 (p1a 3) p1_2a p1_2k p1_2n w12))) hD hS hA [0, 1, 2, 3, 4, 5, 6, 7, 8, 9, 10, 11, 12, 13, 14, 15, 16, 17, 18, 19, 20, 21, 22, 23, 24, 25, 26, 27, 28, 29, 30, 31, 32, 33] rfl
        refine va_calli (va_runV (As := [.ref (p1a 0), .int (p1_2w 2 (nn p2)), .int o_4, .int o_7]) (rest := []) ⟨hx, hb, hml, hown, hts⟩ (kX5_isAlwaysZero l dC dI (p0a := (st0 (p0a 0) p0a)) (p0k := p0k) (p0w := p0w) (p0l := p0l) (p1a := (st0 (p1a 0) p1a)) (p1k := p1k) (p1n := p1n) (p1w := p1w) (p1l := p1l) (p2 := (p1_2w 2 (nn p2))) (p3 := o_4) (p4 := o_7) (p1_2a := p1_2a) (p1_2k := p1_2k) (p1_2n := p1_2n) (p1_2w := w12) (sz := _) (o := o_21) (hrun := hc_21)) (cwV 4 hts (gi_V qw573 qw574 qw575 qw442 (gi_z qw572)) rfl rfl rfl (by decide +kernel) ⟨Nat.le_of_ble_eq_true rfl, Nat.le_of_ble_eq_true rfl⟩) ⟨PRE.blind, va_recv hKc hPc (ci := 7) (q0 := 0) rfl rfl, PRE.of hE hS hFc hPc hKc hDc⟩ rfl rfl hl.1 rfl (lv_room (Nat.le_of_ble_eq_true rfl)) dX5_joinOperator_191 ⟨(Nat.le_of_ble_eq_true rfl), (Nat.le_of_ble_eq_true rfl)⟩) hS (fun q _ h => hFc q h) hFc (fun r22 u t H locs ht hvm hw hB hz1 hk1 hS => ?_)
        obtain ⟨hP, hD, hK⟩ := JOIN (wr := ([] : va_W)) hP hD hK [0, 1, 2, 3, 4, 5, 6, 7, 8, 9, 10, 11, 12, 13, 14, 15, 16, 17, 18, 19, 20, 21, 22, 23, 24, 25, 26, 27, 28, 29, 30, 31, 32, 33] [] [] rfl rfl (by decide) (by decide) rfl hk1 hFc ht hvm hB
        have hP : va_P (dC, dI) cls ((oX5 (p0a 0) p0a p0k p0w p0l) ++ (oX1 (p1a 0) p1a p1k p1n p1w p1l) ++ (oX9 (p1a 3) p1_2a p1_2k p1_2n w12)) H := hP.sub [0, 1, 2, 3, 4, 5, 6, 7, 8, 9, 10, 11, 12, 13, 14, 15, 16, 17, 18, 19, 20, 21, 22, 23, 24, 25, 26, 27, 28, 29, 30, 31, 32, 33] rfl
        have hD : va_D A ((oX5 (p0a 0) p0a p0k p0w p0l) ++ (oX1 (p1a 0) p1a p1k p1n p1w p1l) ++ (oX9 (p1a 3) p1_2a p1_2k p1_2n w12)) := hD.sub [0, 1, 2, 3, 4, 5, 6, 7, 8, 9, 10, 11, 12, 13, 14, 15, 16, 17, 18, 19, 20, 21, 22, 23, 24, 25, 26, 27, 28, 29, 30, 31, 32, 33] (by decide) rfl
        have hK : va_K (dC, dI) cls ((tX5 p0k) ++ (tX1 p1k) ++ (tX9 p1_2k)) s := hK.sub [0, 1, 2, 3, 4, 5, 6, 7, 8, 9, 10, 11, 12, 13, 14, 15, 16, 17, 18, 19, 20, 21, 22, 23, 24, 25, 26, 27, 28, 29, 30] rfl
        obtain rfl : o_21 = r22 := hw.symm
        rcases br9 hrun with ⟨hc23, hrun⟩ | ⟨hc23, hrun⟩
        · refine lv_if_eq (tgt := 214) hx hb dX5_joinOperator_194 (by decide) (fun _ => ?_) (fun c => absurd hc23 c)
          refine lv_iload hx hb dX5_joinOperator_214 (lv_at hl 6 rfl) ?_
          refine lv_iload hx hb dX5_joinOperator_216 (lv_at hl 7 rfl) ?_
          have J259 : ∀ (H : Heap) (locs : List Loc) (ls : Array Slot), (fX5_joinOperator_J259 p0w p2 p1_2n p1_2w o_4 o_7 w12) = some o → va_P (dC, dI) cls ((oX5 (p0a 0) p0a p0k p0w p0l) ++ (oX1 (p1a 0) p1a p1k p1n p1w p1l) ++ (oX9 (p1a 3) p1_2a p1_2k p1_2n w12)) H → va_D A ((oX5 (p0a 0) p0a p0k p0w p0l) ++ (oX1 (p1a 0) p1a p1k p1n p1w p1l) ++ (oX9 (p1a 3) p1_2a p1_2k p1_2n w12)) → va_K (dC, dI) cls ((tX5 p0k) ++ (tX1 p1k) ++ (tX9 p1_2k)) s → va_S A s.heap H locs → lv_has ls 8 [(2, .int p2), (3, .ref (p1a 3)), (4, .int (p1_2w 2 (nn p2))), (6, .int o_4), (7, .int o_7)] → W p l e ({ frames := 3, cells := 0, slots := 0, locals := 69 } : Room) s m ([.ref (p0a 0), .ref (p1a 0), .int p2] : List Value).toArray below meth c H locs 0 0 Q (F0 m 259 ls []) := by
            intro  H locs ls hrun hP hD hK hS hl 
            unfold fX5_joinOperator_J259 at hrun
            refine lv_iload hx hb dX5_joinOperator_259 (lv_at hl 3 rfl) ?_
            refine lv_iload hx hb dX5_joinOperator_261 (lv_at hl 4 rfl) ?_
            rcases br9 hrun with ⟨hc24, hrun⟩ | ⟨hc24, hrun⟩
            · refine lv_icmp_le (tgt := 290) hx hb dX5_joinOperator_263 (by decide) (fun _ => ?_) (fun c => absurd hc24 c)
              exact J290 p0w w12 _ _ _ hrun hP hD hK hS (lv_sub hl [] rfl)
            · refine lv_icmp_le (tgt := 290) hx hb dX5_joinOperator_263 (by decide) (fun c => absurd c hc24) (fun _ => ?_)
              refine lv_iload hx hb dX5_joinOperator_266 (lv_at hl 2 rfl) ?_
              obtain ⟨o_25, hc_25, hrun⟩ := bnd9 hrun
              have hPc := hP.sub (ws' := ([] : va_W)) [] rfl
              have hDc := hD.sub (ws' := ([] : va_W)) [] (by decide) rfl
              have hKc := hK.sub (tys' := ([] : List (ClassId × FieldType))) [] rfl
              have hFc := va_free (wc := ([] : va_W)) hD hS hA [] rfl
              refine va_calli (va_runS (As := [.int (p1_2w 2 (nn p2))]) (rest := []) ⟨hx, hb, hml, hown, hts⟩ (kX5_isEitherWay l dC dI (p0 := (p1_2w 2 (nn p2))) (sz := _) (o := o_25) (hrun := hc_25)) (va_cwS 1 hts (gi_S qw577 qw578 qw442 (gi_z qw576)) rfl rfl rfl (by decide +kernel) ⟨Nat.le_of_ble_eq_true rfl, Nat.le_of_ble_eq_true rfl⟩) ⟨PRE.blind, PRE.of hE hS hFc hPc hKc hDc⟩ rfl rfl hl.1 rfl (lv_room (Nat.le_of_ble_eq_true rfl)) dX5_joinOperator_268 ⟨(Nat.le_of_ble_eq_true rfl), (Nat.le_of_ble_eq_true rfl)⟩) hS (fun q _ h => hFc q h) hFc (fun r26 u t H locs ht hvm hw hB hz1 hk1 hS => ?_)
              obtain ⟨hP, hD, hK⟩ := JOIN (wr := ((oX5 (p0a 0) p0a p0k p0w p0l) ++ (oX1 (p1a 0) p1a p1k p1n p1w p1l) ++ (oX9 (p1a 3) p1_2a p1_2k p1_2n w12))) hP hD hK [] [0, 1, 2, 3, 4, 5, 6, 7, 8, 9, 10, 11, 12, 13, 14, 15, 16, 17, 18, 19, 20, 21, 22, 23, 24, 25, 26, 27, 28, 29, 30, 31, 32, 33] [0, 1, 2, 3, 4, 5, 6, 7, 8, 9, 10, 11, 12, 13, 14, 15, 16, 17, 18, 19, 20, 21, 22, 23, 24, 25, 26, 27, 28, 29, 30] rfl rfl (by decide) (by decide) rfl hk1 hFc ht hvm hB
              have hP : va_P (dC, dI) cls ((oX5 (p0a 0) p0a p0k p0w p0l) ++ (oX1 (p1a 0) p1a p1k p1n p1w p1l) ++ (oX9 (p1a 3) p1_2a p1_2k p1_2n w12)) H := hP.sub [0, 1, 2, 3, 4, 5, 6, 7, 8, 9, 10, 11, 12, 13, 14, 15, 16, 17, 18, 19, 20, 21, 22, 23, 24, 25, 26, 27, 28, 29, 30, 31, 32, 33] rfl
              have hD : va_D A ((oX5 (p0a 0) p0a p0k p0w p0l) ++ (oX1 (p1a 0) p1a p1k p1n p1w p1l) ++ (oX9 (p1a 3) p1_2a p1_2k p1_2n w12)) := hD.sub [0, 1, 2, 3, 4, 5, 6, 7, 8, 9, 10, 11, 12, 13, 14, 15, 16, 17, 18, 19, 20, 21, 22, 23, 24, 25, 26, 27, 28, 29, 30, 31, 32, 33] (by decide) rfl
              have hK : va_K (dC, dI) cls ((tX5 p0k) ++ (tX1 p1k) ++ (tX9 p1_2k)) s := hK.sub [0, 1, 2, 3, 4, 5, 6, 7, 8, 9, 10, 11, 12, 13, 14, 15, 16, 17, 18, 19, 20, 21, 22, 23, 24, 25, 26, 27, 28, 29, 30] rfl
              obtain rfl : o_25 = r26 := hw.symm
              rcases br9 hrun with ⟨hc27, hrun⟩ | ⟨hc27, hrun⟩
              · refine lv_if_eq (tgt := 290) hx hb dX5_joinOperator_271 (by decide) (fun _ => ?_) (fun c => absurd hc27 c)
                exact J290 p0w w12 _ _ _ hrun hP hD hK hS (lv_sub hl [] rfl)
              · refine lv_if_eq (tgt := 290) hx hb dX5_joinOperator_271 (by decide) (fun c => absurd c hc27) (fun _ => ?_)
                refine lv_aload_n hx hb dX5_joinOperator_274 rfl (lv_at hl 1 rfl) ?_
                refine va_get (D := (dC, dI)) (ci := 3) (v := .ref (p1_2a 4)) (C := RX9) (T := TX9) (N := 6) hx hb hts i_X9 hown hK hP 28 rfl rfl 3 (by decide) (hts _ qw421) (fun _ h9 => h9) rfl dX5_joinOperator_275 ?_
                refine lv_iload_n hx hb dX5_joinOperator_278 rfl (lv_at hl 0 rfl) ?_
                refine lv_iload hx hb dX5_joinOperator_279 (lv_at hl 4 rfl) ?_
                obtain ⟨hq28, hrun⟩ := chk9 hrun
                refine va_iast hx hb hK hP hD hS 31 28 rfl rfl (ixb_in hq28) dX5_joinOperator_281 (fun H locs hP hD hS => ?_)
                have hP : va_P (dC, dI) cls ((oX5 (p0a 0) p0a p0k p0w p0l) ++ (oX1 (p1a 0) p1a p1k p1n p1w p1l) ++ (oX9 (p1a 3) p1_2a p1_2k p1_2n (upw w12 4 (nn p2) o_7))) H := hP
                have hD : va_D A ((oX5 (p0a 0) p0a p0k p0w p0l) ++ (oX1 (p1a 0) p1a p1k p1n p1w p1l) ++ (oX9 (p1a 3) p1_2a p1_2k p1_2n (upw w12 4 (nn p2) o_7))) := hD
                obtain ⟨w29, ew29, hrun⟩ := let9 hrun
                rw [← ew29] at hP hD
                refine lv_aload_n hx hb dX5_joinOperator_282 rfl (lv_at hl 1 rfl) ?_
                refine va_get (D := (dC, dI)) (ci := 3) (v := .ref (p1_2a 5)) (C := RX9) (T := TX9) (N := 6) hx hb hts i_X9 hown hK hP 28 rfl rfl 4 (by decide) (hts _ qw422) (fun _ h9 => h9) rfl dX5_joinOperator_283 ?_
                refine lv_iload_n hx hb dX5_joinOperator_286 rfl (lv_at hl 0 rfl) ?_
                refine lv_iload hx hb dX5_joinOperator_287 (lv_at hl 3 rfl) ?_
                obtain ⟨hq30, hrun⟩ := chk9 hrun
                refine va_iast hx hb hK hP hD hS 32 29 rfl rfl (ixb_in hq30) dX5_joinOperator_289 (fun H locs hP hD hS => ?_)
                have hP : va_P (dC, dI) cls ((oX5 (p0a 0) p0a p0k p0w p0l) ++ (oX1 (p1a 0) p1a p1k p1n p1w p1l) ++ (oX9 (p1a 3) p1_2a p1_2k p1_2n (upw w29 5 (nn p2) o_4))) H := hP
                have hD : va_D A ((oX5 (p0a 0) p0a p0k p0w p0l) ++ (oX1 (p1a 0) p1a p1k p1n p1w p1l) ++ (oX9 (p1a 3) p1_2a p1_2k p1_2n (upw w29 5 (nn p2) o_4))) := hD
                obtain ⟨w31, ew31, hrun⟩ := let9 hrun
                rw [← ew31] at hP hD
                exact J290 p0w w31 _ _ _ hrun hP hD hK hS (lv_sub hl [] rfl)
          rcases br9 hrun with ⟨hc32, hrun⟩ | ⟨hc32, hrun⟩
          · refine lv_icmp_ne (tgt := 259) hx hb dX5_joinOperator_218 (by decide) (fun c => absurd hc32 c) (fun _ => ?_)
            refine lv_iload hx hb dX5_joinOperator_221 (lv_at hl 4 rfl) ?_
            refine lv_bipush (v := 15) hx hb dX5_joinOperator_223 (by decide) ?_
            have J242 : ∀ (H : Heap) (locs : List Loc) (ls : Array Slot), (fX5_joinOperator_J242 p0w p2 p1_2n p1_2w w12) = some o → va_P (dC, dI) cls ((oX5 (p0a 0) p0a p0k p0w p0l) ++ (oX1 (p1a 0) p1a p1k p1n p1w p1l) ++ (oX9 (p1a 3) p1_2a p1_2k p1_2n w12)) H → va_D A ((oX5 (p0a 0) p0a p0k p0w p0l) ++ (oX1 (p1a 0) p1a p1k p1n p1w p1l) ++ (oX9 (p1a 3) p1_2a p1_2k p1_2n w12)) → va_K (dC, dI) cls ((tX5 p0k) ++ (tX1 p1k) ++ (tX9 p1_2k)) s → va_S A s.heap H locs → lv_has ls 8 [(0, .ref (p0a 0)), (2, .int p2), (3, .ref (p1a 3)), (5, .int (p1_2w 3 (nn p2)))] → W p l e ({ frames := 3, cells := 0, slots := 0, locals := 69 } : Room) s m ([.ref (p0a 0), .ref (p1a 0), .int p2] : List Value).toArray below meth c H locs 0 0 Q (F0 m 242 ls []) := by
              intro  H locs ls hrun hP hD hK hS hl 
              unfold fX5_joinOperator_J242 at hrun
              refine lv_aload_n hx hb dX5_joinOperator_242 rfl (lv_at hl 0 rfl) ?_
              refine va_get (D := (dC, dI)) (ci := 7) (v := .ref (p0a 7)) (C := RX5) (T := TX5) (N := 12) hx hb hts i_X5 hown hK hP 0 rfl rfl 6 (by decide) (hts _ qw443) (fun _ h9 => h9) rfl dX5_joinOperator_243 ?_
              refine lv_iload hx hb dX5_joinOperator_246 (lv_at hl 3 rfl) ?_
              refine lv_iconst (v := 1) hx hb dX5_joinOperator_248 (by decide) ?_
              obtain ⟨hq33, hrun⟩ := chk9 hrun
              refine va_iast hx hb hK hP hD hS 6 5 rfl rfl (ixb_in hq33) dX5_joinOperator_249 (fun H locs hP hD hS => ?_)
              have hP : va_P (dC, dI) cls ((oX5 (p0a 0) p0a p0k (upw p0w 7 (nn (p1_2w 3 (nn p2))) 1) p0l) ++ (oX1 (p1a 0) p1a p1k p1n p1w p1l) ++ (oX9 (p1a 3) p1_2a p1_2k p1_2n w12)) H := hP
              have hD : va_D A ((oX5 (p0a 0) p0a p0k (upw p0w 7 (nn (p1_2w 3 (nn p2))) 1) p0l) ++ (oX1 (p1a 0) p1a p1k p1n p1w p1l) ++ (oX9 (p1a 3) p1_2a p1_2k p1_2n w12)) := hD
              obtain ⟨w34, ew34, hrun⟩ := let9 hrun
              rw [← ew34] at hP hD
              refine lv_aload_n hx hb dX5_joinOperator_250 rfl (lv_at hl 2 rfl) ?_
              refine lv_iload_n hx hb dX5_joinOperator_251 rfl (lv_at hl 1 rfl) ?_
              refine lv_iconst (v := 1) hx hb dX5_joinOperator_252 (by decide) ?_
              obtain ⟨o_35, hc_35, hrun⟩ := bnd9 hrun
              have hPc := hP.sub (ws' := (oX9 (p1a 3) p1_2a p1_2k p1_2n w12)) [28, 29, 30, 31, 32, 33] rfl
              have hDc := hD.sub (ws' := (oX9 (p1a 3) p1_2a p1_2k p1_2n w12)) [28, 29, 30, 31, 32, 33] (by decide) rfl
              have hKc := hK.sub (tys' := (tX9 p1_2k)) [26, 27, 28, 29, 30] rfl
              have hFc := va_free (wc := (oX9 (p1a 3) p1_2a p1_2k p1_2n w12)) hD hS hA [28, 29, 30, 31, 32, 33] rfl
              refine va_callv (va_runS (As := [.ref (p1a 3), .int p2, .int 1]) (rest := []) ⟨hx, hb, hml, hown, hts⟩ (kX5_becomeNumber l dC dI (p0a := (st0 (p1a 3) p1_2a)) (p0k := p1_2k) (p0n := p1_2n) (p0w := w12) (p1 := p2) (p2 := 1) (sz := _) (o := o_35) (hrun := hc_35)) (va_cwS 3 hts (gi_S qw496 qw497 qw442 (gi_z qw495)) rfl rfl rfl (by decide +kernel) ⟨Nat.le_of_ble_eq_true rfl, Nat.le_of_ble_eq_true rfl⟩) ⟨PRE.blind, PRE.of hE hS hFc hPc hKc hDc⟩ rfl rfl hl.1 rfl (lv_room (Nat.le_of_ble_eq_true rfl)) dX5_joinOperator_253 ⟨(Nat.le_of_ble_eq_true rfl), (Nat.le_of_ble_eq_true rfl)⟩) hS (fun q _ h => hFc q h) hFc (fun u t H locs ht hvm hw hB hz1 hk1 hS => ?_)
              obtain ⟨hP, hD, hK⟩ := JOIN (wr := ((oX5 (p0a 0) p0a p0k w34 p0l) ++ (oX1 (p1a 0) p1a p1k p1n p1w p1l))) hP hD hK [28, 29, 30, 31, 32, 33] [0, 1, 2, 3, 4, 5, 6, 7, 8, 9, 10, 11, 12, 13, 14, 15, 16, 17, 18, 19, 20, 21, 22, 23, 24, 25, 26, 27] [0, 1, 2, 3, 4, 5, 6, 7, 8, 9, 10, 11, 12, 13, 14, 15, 16, 17, 18, 19, 20, 21, 22, 23, 24, 25] rfl rfl (by decide) (by decide) rfl hk1 hFc ht hvm hB
              have hP : va_P (dC, dI) cls ((oX5 (p0a 0) p0a p0k w34 p0l) ++ (oX1 (p1a 0) p1a p1k p1n p1w p1l) ++ (oX9 (p1a 3) p1_2a p1_2k p1_2n o_35)) H := hP.sub [0, 1, 2, 3, 4, 5, 6, 7, 8, 9, 10, 11, 12, 13, 14, 15, 16, 17, 18, 19, 20, 21, 22, 23, 24, 25, 26, 27, 28, 29, 30, 31, 32, 33] rfl
              have hD : va_D A ((oX5 (p0a 0) p0a p0k w34 p0l) ++ (oX1 (p1a 0) p1a p1k p1n p1w p1l) ++ (oX9 (p1a 3) p1_2a p1_2k p1_2n o_35)) := hD.sub [0, 1, 2, 3, 4, 5, 6, 7, 8, 9, 10, 11, 12, 13, 14, 15, 16, 17, 18, 19, 20, 21, 22, 23, 24, 25, 26, 27, 28, 29, 30, 31, 32, 33] (by decide) rfl
              have hK : va_K (dC, dI) cls ((tX5 p0k) ++ (tX1 p1k) ++ (tX9 p1_2k)) s := hK.sub [0, 1, 2, 3, 4, 5, 6, 7, 8, 9, 10, 11, 12, 13, 14, 15, 16, 17, 18, 19, 20, 21, 22, 23, 24, 25, 26, 27, 28, 29, 30] rfl
              refine lv_goto (tgt := 290) hx hb dX5_joinOperator_256 (by decide) ?_
              exact J290 w34 o_35 _ _ _ hrun hP hD hK hS (lv_sub hl [] rfl)
            rcases br9 hrun with ⟨hc36, hrun⟩ | ⟨hc36, hrun⟩
            · refine lv_icmp_eq (tgt := 242) hx hb dX5_joinOperator_225 (by decide) (fun _ => ?_) (fun c => absurd hc36 c)
              exact J242 _ _ _ hrun hP hD hK hS (lv_sub hl [0, 2, 3, 5] rfl)
            · refine lv_icmp_eq (tgt := 242) hx hb dX5_joinOperator_225 (by decide) (fun c => absurd c hc36) (fun _ => ?_)
              refine lv_iload hx hb dX5_joinOperator_228 (lv_at hl 4 rfl) ?_
              refine lv_bipush (v := 12) hx hb dX5_joinOperator_230 (by decide) ?_
              rcases br9 hrun with ⟨hc37, hrun⟩ | ⟨hc37, hrun⟩
              · refine lv_icmp_eq (tgt := 242) hx hb dX5_joinOperator_232 (by decide) (fun _ => ?_) (fun c => absurd hc37 c)
                exact J242 _ _ _ hrun hP hD hK hS (lv_sub hl [0, 2, 3, 5] rfl)
              · refine lv_icmp_eq (tgt := 242) hx hb dX5_joinOperator_232 (by decide) (fun c => absurd c hc37) (fun _ => ?_)
                refine lv_iload hx hb dX5_joinOperator_235 (lv_at hl 4 rfl) ?_
                refine lv_bipush (v := 14) hx hb dX5_joinOperator_237 (by decide) ?_
                rcases br9 hrun with ⟨hc38, hrun⟩ | ⟨hc38, hrun⟩
                · refine lv_icmp_ne (tgt := 259) hx hb dX5_joinOperator_239 (by decide) (fun c => absurd hc38 c) (fun _ => ?_)
                  exact J242 _ _ _ hrun hP hD hK hS (lv_sub hl [0, 2, 3, 5] rfl)
                · refine lv_icmp_ne (tgt := 259) hx hb dX5_joinOperator_239 (by decide) (fun _ => ?_) (fun c => absurd c hc38)
                  exact J259 _ _ _ hrun hP hD hK hS (lv_sub hl [2, 3, 4, 6, 7] rfl)
          · refine lv_icmp_ne (tgt := 259) hx hb dX5_joinOperator_218 (by decide) (fun _ => ?_) (fun c => absurd c hc32)
            exact J259 _ _ _ hrun hP hD hK hS (lv_sub hl [2, 3, 4, 6, 7] rfl)
        · refine lv_if_eq (tgt := 214) hx hb dX5_joinOperator_194 (by decide) (fun c => absurd c hc23) (fun _ => ?_)
          refine lv_aload_n hx hb dX5_joinOperator_197 rfl (lv_at hl 0 rfl) ?_
          refine va_get (D := (dC, dI)) (ci := 7) (v := .ref (p0a 7)) (C := RX5) (T := TX5) (N := 12) hx hb hts i_X5 hown hK hP 0 rfl rfl 6 (by decide) (hts _ qw443) (fun _ h9 => h9) rfl dX5_joinOperator_198 ?_
          refine lv_iload hx hb dX5_joinOperator_201 (lv_at hl 5 rfl) ?_
          refine lv_iconst (v := 1) hx hb dX5_joinOperator_203 (by decide) ?_
          obtain ⟨hq39, hrun⟩ := chk9 hrun
          refine va_iast hx hb hK hP hD hS 6 5 rfl rfl (ixb_in hq39) dX5_joinOperator_204 (fun H locs hP hD hS => ?_)
          have hP : va_P (dC, dI) cls ((oX5 (p0a 0) p0a p0k (upw p0w 7 (nn (p1_2w 3 (nn p2))) 1) p0l) ++ (oX1 (p1a 0) p1a p1k p1n p1w p1l) ++ (oX9 (p1a 3) p1_2a p1_2k p1_2n w12)) H := hP
          have hD : va_D A ((oX5 (p0a 0) p0a p0k (upw p0w 7 (nn (p1_2w 3 (nn p2))) 1) p0l) ++ (oX1 (p1a 0) p1a p1k p1n p1w p1l) ++ (oX9 (p1a 3) p1_2a p1_2k p1_2n w12)) := hD
          obtain ⟨w40, ew40, hrun⟩ := let9 hrun
          rw [← ew40] at hP hD
          refine lv_aload_n hx hb dX5_joinOperator_205 rfl (lv_at hl 3 rfl) ?_
          refine lv_iload_n hx hb dX5_joinOperator_206 rfl (lv_at hl 2 rfl) ?_
          refine lv_iconst (v := 0) hx hb dX5_joinOperator_207 (by decide) ?_
          obtain ⟨o_41, hc_41, hrun⟩ := bnd9 hrun
          have hPc := hP.sub (ws' := (oX9 (p1a 3) p1_2a p1_2k p1_2n w12)) [28, 29, 30, 31, 32, 33] rfl
          have hDc := hD.sub (ws' := (oX9 (p1a 3) p1_2a p1_2k p1_2n w12)) [28, 29, 30, 31, 32, 33] (by decide) rfl
          have hKc := hK.sub (tys' := (tX9 p1_2k)) [26, 27, 28, 29, 30] rfl
          have hFc := va_free (wc := (oX9 (p1a 3) p1_2a p1_2k p1_2n w12)) hD hS hA [28, 29, 30, 31, 32, 33] rfl
          refine va_callv (va_runS (As := [.ref (p1a 3), .int p2, .int 0]) (rest := []) ⟨hx, hb, hml, hown, hts⟩ (kX5_becomeNumber l dC dI (p0a := (st0 (p1a 3) p1_2a)) (p0k := p1_2k) (p0n := p1_2n) (p0w := w12) (p1 := p2) (p2 := 0) (sz := _) (o := o_41) (hrun := hc_41)) (va_cwS 3 hts (gi_S qw496 qw497 qw442 (gi_z qw495)) rfl rfl rfl (by decide +kernel) ⟨Nat.le_of_ble_eq_true rfl, Nat.le_of_ble_eq_true rfl⟩) ⟨PRE.blind, PRE.of hE hS hFc hPc hKc hDc⟩ rfl rfl hl.1 rfl (lv_room (Nat.le_of_ble_eq_true rfl)) dX5_joinOperator_208 ⟨(Nat.le_of_ble_eq_true rfl), (Nat.le_of_ble_eq_true rfl)⟩) hS (fun q _ h => hFc q h) hFc (fun u t H locs ht hvm hw hB hz1 hk1 hS => ?_)
          obtain ⟨hP, hD, hK⟩ := JOIN (wr := ((oX5 (p0a 0) p0a p0k w40 p0l) ++ (oX1 (p1a 0) p1a p1k p1n p1w p1l))) hP hD hK [28, 29, 30, 31, 32, 33] [0, 1, 2, 3, 4, 5, 6, 7, 8, 9, 10, 11, 12, 13, 14, 15, 16, 17, 18, 19, 20, 21, 22, 23, 24, 25, 26, 27] [0, 1, 2, 3, 4, 5, 6, 7, 8, 9, 10, 11, 12, 13, 14, 15, 16, 17, 18, 19, 20, 21, 22, 23, 24, 25] rfl rfl (by decide) (by decide) rfl hk1 hFc ht hvm hB
          have hP : va_P (dC, dI) cls ((oX5 (p0a 0) p0a p0k w40 p0l) ++ (oX1 (p1a 0) p1a p1k p1n p1w p1l) ++ (oX9 (p1a 3) p1_2a p1_2k p1_2n o_41)) H := hP.sub [0, 1, 2, 3, 4, 5, 6, 7, 8, 9, 10, 11, 12, 13, 14, 15, 16, 17, 18, 19, 20, 21, 22, 23, 24, 25, 26, 27, 28, 29, 30, 31, 32, 33] rfl
          have hD : va_D A ((oX5 (p0a 0) p0a p0k w40 p0l) ++ (oX1 (p1a 0) p1a p1k p1n p1w p1l) ++ (oX9 (p1a 3) p1_2a p1_2k p1_2n o_41)) := hD.sub [0, 1, 2, 3, 4, 5, 6, 7, 8, 9, 10, 11, 12, 13, 14, 15, 16, 17, 18, 19, 20, 21, 22, 23, 24, 25, 26, 27, 28, 29, 30, 31, 32, 33] (by decide) rfl
          have hK : va_K (dC, dI) cls ((tX5 p0k) ++ (tX1 p1k) ++ (tX9 p1_2k)) s := hK.sub [0, 1, 2, 3, 4, 5, 6, 7, 8, 9, 10, 11, 12, 13, 14, 15, 16, 17, 18, 19, 20, 21, 22, 23, 24, 25, 26, 27, 28, 29, 30] rfl
          refine lv_goto (tgt := 290) hx hb dX5_joinOperator_211 (by decide) ?_
          exact J290 w40 o_41 _ _ _ hrun hP hD hK hS (lv_sub hl [] rfl)
      · refine lv_if_eq (tgt := 183) hx hb dX5_joinOperator_168 (by decide) (fun c => absurd c hc20) (fun _ => ?_)
        refine lv_aload_n hx hb dX5_joinOperator_171 rfl (lv_at hl 0 rfl) ?_
        refine va_get (D := (dC, dI)) (ci := 7) (v := .ref (p0a 6)) (C := RX5) (T := TX5) (N := 12) hx hb hts i_X5 hown hK hP 0 rfl rfl 5 (by decide) (hts _ qw539) (fun _ h9 => h9) rfl dX5_joinOperator_172 ?_
        refine lv_iload hx hb dX5_joinOperator_175 (lv_at hl 5 rfl) ?_
        refine lv_iload hx hb dX5_joinOperator_177 (lv_at hl 7 rfl) ?_
        obtain ⟨hq42, hrun⟩ := chk9 hrun
        refine va_iast hx hb hK hP hD hS 5 4 rfl rfl (ixb_in hq42) dX5_joinOperator_179 (fun H locs hP hD hS => ?_)
        have hP : va_P (dC, dI) cls ((oX5 (p0a 0) p0a p0k (upw p0w 6 (nn (p1_2w 3 (nn p2))) o_7) p0l) ++ (oX1 (p1a 0) p1a p1k p1n p1w p1l) ++ (oX9 (p1a 3) p1_2a p1_2k p1_2n w12)) H := hP
        have hD : va_D A ((oX5 (p0a 0) p0a p0k (upw p0w 6 (nn (p1_2w 3 (nn p2))) o_7) p0l) ++ (oX1 (p1a 0) p1a p1k p1n p1w p1l) ++ (oX9 (p1a 3) p1_2a p1_2k p1_2n w12)) := hD
        obtain ⟨w43, ew43, hrun⟩ := let9 hrun
        rw [← ew43] at hP hD
        refine lv_goto (tgt := 290) hx hb dX5_joinOperator_180 (by decide) ?_
        exact J290 w43 w12 _ _ _ hrun hP hD hK hS (lv_sub hl [] rfl)
    · refine lv_if_eq (tgt := 157) hx hb dX5_joinOperator_142 (by decide) (fun c => absurd c hc17) (fun _ => ?_)
      refine lv_aload_n hx hb dX5_joinOperator_145 rfl (lv_at hl 0 rfl) ?_
      refine va_get (D := (dC, dI)) (ci := 7) (v := .ref (p0a 6)) (C := RX5) (T := TX5) (N := 12) hx hb hts i_X5 hown hK hP 0 rfl rfl 5 (by decide) (hts _ qw539) (fun _ h9 => h9) rfl dX5_joinOperator_146 ?_
      refine lv_iload hx hb dX5_joinOperator_149 (lv_at hl 5 rfl) ?_
      refine lv_iload hx hb dX5_joinOperator_151 (lv_at hl 6 rfl) ?_
      obtain ⟨hq44, hrun⟩ := chk9 hrun
      refine va_iast hx hb hK hP hD hS 5 4 rfl rfl (ixb_in hq44) dX5_joinOperator_153 (fun H locs hP hD hS => ?_)
      have hP : va_P (dC, dI) cls ((oX5 (p0a 0) p0a p0k (upw p0w 6 (nn (p1_2w 3 (nn p2))) o_4) p0l) ++ (oX1 (p1a 0) p1a p1k p1n p1w p1l) ++ (oX9 (p1a 3) p1_2a p1_2k p1_2n w12)) H := hP
      have hD : va_D A ((oX5 (p0a 0) p0a p0k (upw p0w 6 (nn (p1_2w 3 (nn p2))) o_4) p0l) ++ (oX1 (p1a 0) p1a p1k p1n p1w p1l) ++ (oX9 (p1a 3) p1_2a p1_2k p1_2n w12)) := hD
      obtain ⟨w45, ew45, hrun⟩ := let9 hrun
      rw [← ew45] at hP hD
      refine lv_goto (tgt := 290) hx hb dX5_joinOperator_154 (by decide) ?_
      exact J290 w45 w12 _ _ _ hrun hP hD hK hS (lv_sub hl [] rfl)
  rcases br9 hrun with ⟨hc46, hrun⟩ | ⟨hc46, hrun⟩
  · refine lv_if_eq (tgt := 131) hx hb dX5_joinOperator_68 (by decide) (fun _ => ?_) (fun c => absurd hc46 c)
    exact J131 _ _ _ hrun hP hD hK hS (lv_sub hl [5, 6, 7, 4, 3, 2, 1, 0] rfl)
  · refine lv_if_eq (tgt := 131) hx hb dX5_joinOperator_68 (by decide) (fun c => absurd c hc46) (fun _ => ?_)
    refine lv_aload_n hx hb dX5_joinOperator_71 rfl (lv_at hl 5 rfl) ?_
    refine lv_aload_n hx hb dX5_joinOperator_72 rfl (lv_at hl 6 rfl) ?_
    refine lv_iload hx hb dX5_joinOperator_73 (lv_at hl 0 rfl) ?_
    obtain ⟨o_47, hc_47, hrun⟩ := bnd9 hrun
    have hPc := hP.sub (ws' := ((oX5 (p0a 0) p0a p0k p0w p0l) ++ (oX1 (p1a 0) p1a p1k p1n p1w p1l) ++ (oX9 (p1a 3) p1_2a p1_2k p1_2n w12))) [0, 1, 2, 3, 4, 5, 6, 7, 8, 9, 10, 11, 12, 13, 14, 15, 16, 17, 18, 19, 20, 21, 22, 23, 24, 25, 26, 27, 28, 29, 30, 31, 32, 33] rfl
    have hDc := hD.sub (ws' := ((oX5 (p0a 0) p0a p0k p0w p0l) ++ (oX1 (p1a 0) p1a p1k p1n p1w p1l) ++ (oX9 (p1a 3) p1_2a p1_2k p1_2n w12))) [0, 1, 2, 3, 4, 5, 6, 7, 8, 9, 10, 11, 12, 13, 14, 15, 16, 17, 18, 19, 20, 21, 22, 23, 24, 25, 26, 27, 28, 29, 30, 31, 32, 33] (by decide) rfl
    have hKc := hK.sub (tys' := ((tX5 p0k) ++ (tX1 p1k) ++ (tX9 p1_2k))) [0, 1, 2, 3, 4, 5, 6, 7, 8, 9, 10, 11, 12, 13, 14, 15, 16, 17, 18, 19, 20, 21, 22, 23, 24, 25, 26, 27, 28, 29, 30] rfl
    have hFc := va_free (wc := ((oX5 (p0a 0) p0a p0k p0w p0l) ++ (oX1 (p1a 0) p1a p1k p1n p1w p1l) ++ (oX9 (p1a 3) p1_2a p1_2k p1_2n w12))) hD hS hA [0, 1, 2, 3, 4, 5, 6, 7, 8, 9, 10, 11, 12, 13, 14, 15, 16, 17, 18, 19, 20, 21, 22, 23, 24, 25, 26, 27, 28, 29, 30, 31, 32, 33] rfl
    refine va_calli (va_runV (As := [.ref (p1a 0), .int o_7]) (rest := []) ⟨hx, hb, hml, hown, hts⟩ (kX5_isNumber l dC dI (p0a := (st0 (p0a 0) p0a)) (p0k := p0k) (p0w := p0w) (p0l := p0l) (p1a := (st0 (p1a 0) p1a)) (p1k := p1k) (p1n := p1n) (p1w := p1w) (p1l := p1l) (p2 := o_7) (p1_2a := p1_2a) (p1_2k := p1_2k) (p1_2n := p1_2n) (p1_2w := w12) (sz := _) (o := o_47) (hrun := hc_47)) (cwV 2 hts (gi_V qw457 qw458 qw459 qw442 (gi_z qw456)) rfl rfl rfl (by decide +kernel) ⟨Nat.le_of_ble_eq_true rfl, Nat.le_of_ble_eq_true rfl⟩) ⟨PRE.blind, va_recv hKc hPc (ci := 7) (q0 := 0) rfl rfl, PRE.of hE hS hFc hPc hKc hDc⟩ rfl rfl hl.1 rfl (lv_room (Nat.le_of_ble_eq_true rfl)) dX5_joinOperator_75 ⟨(Nat.le_of_ble_eq_true rfl), (Nat.le_of_ble_eq_true rfl)⟩) hS (fun q _ h => hFc q h) hFc (fun r48 u t H locs ht hvm hw hB hz1 hk1 hS => ?_)
    obtain ⟨hP, hD, hK⟩ := JOIN (wr := ([] : va_W)) hP hD hK [0, 1, 2, 3, 4, 5, 6, 7, 8, 9, 10, 11, 12, 13, 14, 15, 16, 17, 18, 19, 20, 21, 22, 23, 24, 25, 26, 27, 28, 29, 30, 31, 32, 33] [] [] rfl rfl (by decide) (by decide) rfl hk1 hFc ht hvm hB
    have hP : va_P (dC, dI) cls ((oX5 (p0a 0) p0a p0k p0w p0l) ++ (oX1 (p1a 0) p1a p1k p1n p1w p1l) ++ (oX9 (p1a 3) p1_2a p1_2k p1_2n w12)) H := hP.sub [0, 1, 2, 3, 4, 5, 6, 7, 8, 9, 10, 11, 12, 13, 14, 15, 16, 17, 18, 19, 20, 21, 22, 23, 24, 25, 26, 27, 28, 29, 30, 31, 32, 33] rfl
    have hD : va_D A ((oX5 (p0a 0) p0a p0k p0w p0l) ++ (oX1 (p1a 0) p1a p1k p1n p1w p1l) ++ (oX9 (p1a 3) p1_2a p1_2k p1_2n w12)) := hD.sub [0, 1, 2, 3, 4, 5, 6, 7, 8, 9, 10, 11, 12, 13, 14, 15, 16, 17, 18, 19, 20, 21, 22, 23, 24, 25, 26, 27, 28, 29, 30, 31, 32, 33] (by decide) rfl
    have hK : va_K (dC, dI) cls ((tX5 p0k) ++ (tX1 p1k) ++ (tX9 p1_2k)) s := hK.sub [0, 1, 2, 3, 4, 5, 6, 7, 8, 9, 10, 11, 12, 13, 14, 15, 16, 17, 18, 19, 20, 21, 22, 23, 24, 25, 26, 27, 28, 29, 30] rfl
    obtain rfl : o_47 = r48 := hw.symm
    rcases br9 hrun with ⟨hc49, hrun⟩ | ⟨hc49, hrun⟩
    · refine lv_if_eq (tgt := 131) hx hb dX5_joinOperator_78 (by decide) (fun _ => ?_) (fun c => absurd hc49 c)
      exact J131 _ _ _ hrun hP hD hK hS (lv_sub hl [5, 6, 7, 4, 3, 2, 1, 0] rfl)
    · refine lv_if_eq (tgt := 131) hx hb dX5_joinOperator_78 (by decide) (fun c => absurd c hc49) (fun _ => ?_)
      refine lv_iload hx hb dX5_joinOperator_81 (lv_at hl 3 rfl) ?_
      refine lv_aload_n hx hb dX5_joinOperator_83 rfl (lv_at hl 5 rfl) ?_
      refine lv_aload_n hx hb dX5_joinOperator_84 rfl (lv_at hl 6 rfl) ?_
      refine lv_iload hx hb dX5_joinOperator_85 (lv_at hl 0 rfl) ?_
      obtain ⟨o_50, hc_50, hrun⟩ := bnd9 hrun
      have hPc := hP.sub (ws' := ((oX5 (p0a 0) p0a p0k p0w p0l) ++ (oX1 (p1a 0) p1a p1k p1n p1w p1l) ++ (oX9 (p1a 3) p1_2a p1_2k p1_2n w12))) [0, 1, 2, 3, 4, 5, 6, 7, 8, 9, 10, 11, 12, 13, 14, 15, 16, 17, 18, 19, 20, 21, 22, 23, 24, 25, 26, 27, 28, 29, 30, 31, 32, 33] rfl
      have hDc := hD.sub (ws' := ((oX5 (p0a 0) p0a p0k p0w p0l) ++ (oX1 (p1a 0) p1a p1k p1n p1w p1l) ++ (oX9 (p1a 3) p1_2a p1_2k p1_2n w12))) [0, 1, 2, 3, 4, 5, 6, 7, 8, 9, 10, 11, 12, 13, 14, 15, 16, 17, 18, 19, 20, 21, 22, 23, 24, 25, 26, 27, 28, 29, 30, 31, 32, 33] (by decide) rfl
      have hKc := hK.sub (tys' := ((tX5 p0k) ++ (tX1 p1k) ++ (tX9 p1_2k))) [0, 1, 2, 3, 4, 5, 6, 7, 8, 9, 10, 11, 12, 13, 14, 15, 16, 17, 18, 19, 20, 21, 22, 23, 24, 25, 26, 27, 28, 29, 30] rfl
      have hFc := va_free (wc := ((oX5 (p0a 0) p0a p0k p0w p0l) ++ (oX1 (p1a 0) p1a p1k p1n p1w p1l) ++ (oX9 (p1a 3) p1_2a p1_2k p1_2n w12))) hD hS hA [0, 1, 2, 3, 4, 5, 6, 7, 8, 9, 10, 11, 12, 13, 14, 15, 16, 17, 18, 19, 20, 21, 22, 23, 24, 25, 26, 27, 28, 29, 30, 31, 32, 33] rfl
      refine va_calli (va_runV (As := [.ref (p1a 0), .int o_7]) (rest := [.int (p1_2w 2 (nn p2))]) ⟨hx, hb, hml, hown, hts⟩ (kX5_numberOf l dC dI (p0a := (st0 (p0a 0) p0a)) (p0k := p0k) (p0w := p0w) (p0l := p0l) (p1a := (st0 (p1a 0) p1a)) (p1k := p1k) (p1n := p1n) (p1w := p1w) (p1l := p1l) (p2 := o_7) (p1_2a := p1_2a) (p1_2k := p1_2k) (p1_2n := p1_2n) (p1_2w := w12) (sz := _) (o := o_50) (hrun := hc_50)) (cwV 2 hts (gi_V qw461 qw462 qw463 qw442 (gi_z qw460)) rfl rfl rfl (by decide +kernel) ⟨Nat.le_of_ble_eq_true rfl, Nat.le_of_ble_eq_true rfl⟩) ⟨PRE.blind, va_recv hKc hPc (ci := 7) (q0 := 0) rfl rfl, PRE.of hE hS hFc hPc hKc hDc⟩ rfl rfl hl.1 rfl (lv_room (Nat.le_of_ble_eq_true rfl)) dX5_joinOperator_87 ⟨(Nat.le_of_ble_eq_true rfl), (Nat.le_of_ble_eq_true rfl)⟩) hS (fun q _ h => hFc q h) hFc (fun r51 u t H locs ht hvm hw hB hz1 hk1 hS => ?_)
      obtain ⟨hP, hD, hK⟩ := JOIN (wr := ([] : va_W)) hP hD hK [0, 1, 2, 3, 4, 5, 6, 7, 8, 9, 10, 11, 12, 13, 14, 15, 16, 17, 18, 19, 20, 21, 22, 23, 24, 25, 26, 27, 28, 29, 30, 31, 32, 33] [] [] rfl rfl (by decide) (by decide) rfl hk1 hFc ht hvm hB
      have hP : va_P (dC, dI) cls ((oX5 (p0a 0) p0a p0k p0w p0l) ++ (oX1 (p1a 0) p1a p1k p1n p1w p1l) ++ (oX9 (p1a 3) p1_2a p1_2k p1_2n w12)) H := hP.sub [0, 1, 2, 3, 4, 5, 6, 7, 8, 9, 10, 11, 12, 13, 14, 15, 16, 17, 18, 19, 20, 21, 22, 23, 24, 25, 26, 27, 28, 29, 30, 31, 32, 33] rfl
      have hD : va_D A ((oX5 (p0a 0) p0a p0k p0w p0l) ++ (oX1 (p1a 0) p1a p1k p1n p1w p1l) ++ (oX9 (p1a 3) p1_2a p1_2k p1_2n w12)) := hD.sub [0, 1, 2, 3, 4, 5, 6, 7, 8, 9, 10, 11, 12, 13, 14, 15, 16, 17, 18, 19, 20, 21, 22, 23, 24, 25, 26, 27, 28, 29, 30, 31, 32, 33] (by decide) rfl
      have hK : va_K (dC, dI) cls ((tX5 p0k) ++ (tX1 p1k) ++ (tX9 p1_2k)) s := hK.sub [0, 1, 2, 3, 4, 5, 6, 7, 8, 9, 10, 11, 12, 13, 14, 15, 16, 17, 18, 19, 20, 21, 22, 23, 24, 25, 26, 27, 28, 29, 30] rfl
      obtain rfl : o_50 = r51 := hw.symm
      obtain ⟨o_52, hc_52, hrun⟩ := bnd9 hrun
      have hPc := hP.sub (ws' := ([] : va_W)) [] rfl
      have hDc := hD.sub (ws' := ([] : va_W)) [] (by decide) rfl
      have hKc := hK.sub (tys' := ([] : List (ClassId × FieldType))) [] rfl
      have hFc := va_free (wc := ([] : va_W)) hD hS hA [] rfl
      refine va_calli (va_runSN (As := [.int (p1_2w 2 (nn p2)), .int o_50]) (rest := []) ⟨hx, hb, hml, hown, hts⟩ (kX11_isFailing l dC dI (p0 := (p1_2w 2 (nn p2))) (p1 := o_50) (sz := _) (o := o_52) (hrun := hc_52)) ⟨(va_cnB 2 hts (gi_z qw517) rfl rfl rfl (hE.nw (List.mem_append_right _ (tbl_7 (i := 174) rfl)) rfl) (hts _ qw129) (by decide +kernel) ⟨Nat.le_of_ble_eq_true rfl, Nat.le_of_ble_eq_true rfl⟩), (hts _ qw518), trivial⟩ ⟨PRE.blind, PRE.of hE hS hFc hPc hKc hDc⟩ rfl rfl hl.1 rfl (lv_room (Nat.le_of_ble_eq_true rfl)) dX5_joinOperator_90 ⟨(Nat.le_of_ble_eq_true rfl), (Nat.le_of_ble_eq_true rfl)⟩) hS (fun q _ h => hFc q h) hFc (fun r53 u t H locs ht hvm hw hB hz1 hk1 hS => ?_)
      obtain ⟨hP, hD, hK⟩ := JOIN (wr := ((oX5 (p0a 0) p0a p0k p0w p0l) ++ (oX1 (p1a 0) p1a p1k p1n p1w p1l) ++ (oX9 (p1a 3) p1_2a p1_2k p1_2n w12))) hP hD hK [] [0, 1, 2, 3, 4, 5, 6, 7, 8, 9, 10, 11, 12, 13, 14, 15, 16, 17, 18, 19, 20, 21, 22, 23, 24, 25, 26, 27, 28, 29, 30, 31, 32, 33] [0, 1, 2, 3, 4, 5, 6, 7, 8, 9, 10, 11, 12, 13, 14, 15, 16, 17, 18, 19, 20, 21, 22, 23, 24, 25, 26, 27, 28, 29, 30] rfl rfl (by decide) (by decide) rfl hk1 hFc ht hvm hB
      have hP : va_P (dC, dI) cls ((oX5 (p0a 0) p0a p0k p0w p0l) ++ (oX1 (p1a 0) p1a p1k p1n p1w p1l) ++ (oX9 (p1a 3) p1_2a p1_2k p1_2n w12)) H := hP.sub [0, 1, 2, 3, 4, 5, 6, 7, 8, 9, 10, 11, 12, 13, 14, 15, 16, 17, 18, 19, 20, 21, 22, 23, 24, 25, 26, 27, 28, 29, 30, 31, 32, 33] rfl
      have hD : va_D A ((oX5 (p0a 0) p0a p0k p0w p0l) ++ (oX1 (p1a 0) p1a p1k p1n p1w p1l) ++ (oX9 (p1a 3) p1_2a p1_2k p1_2n w12)) := hD.sub [0, 1, 2, 3, 4, 5, 6, 7, 8, 9, 10, 11, 12, 13, 14, 15, 16, 17, 18, 19, 20, 21, 22, 23, 24, 25, 26, 27, 28, 29, 30, 31, 32, 33] (by decide) rfl
      have hK : va_K (dC, dI) cls ((tX5 p0k) ++ (tX1 p1k) ++ (tX9 p1_2k)) s := hK.sub [0, 1, 2, 3, 4, 5, 6, 7, 8, 9, 10, 11, 12, 13, 14, 15, 16, 17, 18, 19, 20, 21, 22, 23, 24, 25, 26, 27, 28, 29, 30] rfl
      obtain rfl : o_52 = r53 := hw.symm
      rcases br9 hrun with ⟨hc54, hrun⟩ | ⟨hc54, hrun⟩
      · refine lv_if_ne (tgt := 131) hx hb dX5_joinOperator_93 (by decide) (fun c => absurd hc54 c) (fun _ => ?_)
        refine lv_aload_n hx hb dX5_joinOperator_96 rfl (lv_at hl 5 rfl) ?_
        refine va_get (D := (dC, dI)) (ci := 7) (v := .ref (p0a 7)) (C := RX5) (T := TX5) (N := 12) hx hb hts i_X5 hown hK hP 0 rfl rfl 6 (by decide) (hts _ qw443) (fun _ h9 => h9) rfl dX5_joinOperator_97 ?_
        refine lv_iload hx hb dX5_joinOperator_100 (lv_at hl 2 rfl) ?_
        refine lv_iconst (v := 1) hx hb dX5_joinOperator_102 (by decide) ?_
        obtain ⟨hq55, hrun⟩ := chk9 hrun
        refine va_iast hx hb hK hP hD hS 6 5 rfl rfl (ixb_in hq55) dX5_joinOperator_103 (fun H locs hP hD hS => ?_)
        have hP : va_P (dC, dI) cls ((oX5 (p0a 0) p0a p0k (upw p0w 7 (nn (p1_2w 3 (nn p2))) 1) p0l) ++ (oX1 (p1a 0) p1a p1k p1n p1w p1l) ++ (oX9 (p1a 3) p1_2a p1_2k p1_2n w12)) H := hP
        have hD : va_D A ((oX5 (p0a 0) p0a p0k (upw p0w 7 (nn (p1_2w 3 (nn p2))) 1) p0l) ++ (oX1 (p1a 0) p1a p1k p1n p1w p1l) ++ (oX9 (p1a 3) p1_2a p1_2k p1_2n w12)) := hD
        obtain ⟨w56, ew56, hrun⟩ := let9 hrun
        rw [← ew56] at hP hD
        refine lv_aload_n hx hb dX5_joinOperator_104 rfl (lv_at hl 4 rfl) ?_
        refine lv_iload_n hx hb dX5_joinOperator_105 rfl (lv_at hl 7 rfl) ?_
        refine lv_iload hx hb dX5_joinOperator_106 (lv_at hl 3 rfl) ?_
        refine lv_aload_n hx hb dX5_joinOperator_108 rfl (lv_at hl 5 rfl) ?_
        refine lv_aload_n hx hb dX5_joinOperator_109 rfl (lv_at hl 6 rfl) ?_
        refine lv_iload hx hb dX5_joinOperator_110 (lv_at hl 1 rfl) ?_
        obtain ⟨o_57, hc_57, hrun⟩ := bnd9 hrun
        have hPc := hP.sub (ws' := ((oX5 (p0a 0) p0a p0k w56 p0l) ++ (oX1 (p1a 0) p1a p1k p1n p1w p1l) ++ (oX9 (p1a 3) p1_2a p1_2k p1_2n w12))) [0, 1, 2, 3, 4, 5, 6, 7, 8, 9, 10, 11, 12, 13, 14, 15, 16, 17, 18, 19, 20, 21, 22, 23, 24, 25, 26, 27, 28, 29, 30, 31, 32, 33] rfl
        have hDc := hD.sub (ws' := ((oX5 (p0a 0) p0a p0k w56 p0l) ++ (oX1 (p1a 0) p1a p1k p1n p1w p1l) ++ (oX9 (p1a 3) p1_2a p1_2k p1_2n w12))) [0, 1, 2, 3, 4, 5, 6, 7, 8, 9, 10, 11, 12, 13, 14, 15, 16, 17, 18, 19, 20, 21, 22, 23, 24, 25, 26, 27, 28, 29, 30, 31, 32, 33] (by decide) rfl
        have hKc := hK.sub (tys' := ((tX5 p0k) ++ (tX1 p1k) ++ (tX9 p1_2k))) [0, 1, 2, 3, 4, 5, 6, 7, 8, 9, 10, 11, 12, 13, 14, 15, 16, 17, 18, 19, 20, 21, 22, 23, 24, 25, 26, 27, 28, 29, 30] rfl
        have hFc := va_free (wc := ((oX5 (p0a 0) p0a p0k w56 p0l) ++ (oX1 (p1a 0) p1a p1k p1n p1w p1l) ++ (oX9 (p1a 3) p1_2a p1_2k p1_2n w12))) hD hS hA [0, 1, 2, 3, 4, 5, 6, 7, 8, 9, 10, 11, 12, 13, 14, 15, 16, 17, 18, 19, 20, 21, 22, 23, 24, 25, 26, 27, 28, 29, 30, 31, 32, 33] rfl
        refine va_calli (va_runV (As := [.ref (p1a 0), .int o_4]) (rest := [.int (p1_2w 2 (nn p2)), .int p2, .ref (p1a 3)]) ⟨hx, hb, hml, hown, hts⟩ (kX5_numberOf l dC dI (p0a := (st0 (p0a 0) p0a)) (p0k := p0k) (p0w := w56) (p0l := p0l) (p1a := (st0 (p1a 0) p1a)) (p1k := p1k) (p1n := p1n) (p1w := p1w) (p1l := p1l) (p2 := o_4) (p1_2a := p1_2a) (p1_2k := p1_2k) (p1_2n := p1_2n) (p1_2w := w12) (sz := _) (o := o_57) (hrun := hc_57)) (cwV 2 hts (gi_V qw461 qw462 qw463 qw442 (gi_z qw460)) rfl rfl rfl (by decide +kernel) ⟨Nat.le_of_ble_eq_true rfl, Nat.le_of_ble_eq_true rfl⟩) ⟨PRE.blind, va_recv hKc hPc (ci := 7) (q0 := 0) rfl rfl, PRE.of hE hS hFc hPc hKc hDc⟩ rfl rfl hl.1 rfl (lv_room (Nat.le_of_ble_eq_true rfl)) dX5_joinOperator_112 ⟨(Nat.le_of_ble_eq_true rfl), (Nat.le_of_ble_eq_true rfl)⟩) hS (fun q _ h => hFc q h) hFc (fun r58 u t H locs ht hvm hw hB hz1 hk1 hS => ?_)
        obtain ⟨hP, hD, hK⟩ := JOIN (wr := ([] : va_W)) hP hD hK [0, 1, 2, 3, 4, 5, 6, 7, 8, 9, 10, 11, 12, 13, 14, 15, 16, 17, 18, 19, 20, 21, 22, 23, 24, 25, 26, 27, 28, 29, 30, 31, 32, 33] [] [] rfl rfl (by decide) (by decide) rfl hk1 hFc ht hvm hB
        have hP : va_P (dC, dI) cls ((oX5 (p0a 0) p0a p0k w56 p0l) ++ (oX1 (p1a 0) p1a p1k p1n p1w p1l) ++ (oX9 (p1a 3) p1_2a p1_2k p1_2n w12)) H := hP.sub [0, 1, 2, 3, 4, 5, 6, 7, 8, 9, 10, 11, 12, 13, 14, 15, 16, 17, 18, 19, 20, 21, 22, 23, 24, 25, 26, 27, 28, 29, 30, 31, 32, 33] rfl
        have hD : va_D A ((oX5 (p0a 0) p0a p0k w56 p0l) ++ (oX1 (p1a 0) p1a p1k p1n p1w p1l) ++ (oX9 (p1a 3) p1_2a p1_2k p1_2n w12)) := hD.sub [0, 1, 2, 3, 4, 5, 6, 7, 8, 9, 10, 11, 12, 13, 14, 15, 16, 17, 18, 19, 20, 21, 22, 23, 24, 25, 26, 27, 28, 29, 30, 31, 32, 33] (by decide) rfl
        have hK : va_K (dC, dI) cls ((tX5 p0k) ++ (tX1 p1k) ++ (tX9 p1_2k)) s := hK.sub [0, 1, 2, 3, 4, 5, 6, 7, 8, 9, 10, 11, 12, 13, 14, 15, 16, 17, 18, 19, 20, 21, 22, 23, 24, 25, 26, 27, 28, 29, 30] rfl
        obtain rfl : o_57 = r58 := hw.symm
        refine lv_aload_n hx hb dX5_joinOperator_115 rfl (lv_at hl 5 rfl) ?_
        refine lv_aload_n hx hb dX5_joinOperator_116 rfl (lv_at hl 6 rfl) ?_
        refine lv_iload hx hb dX5_joinOperator_117 (lv_at hl 0 rfl) ?_
        obtain ⟨o_59, hc_59, hrun⟩ := bnd9 hrun
        have hPc := hP.sub (ws' := ((oX5 (p0a 0) p0a p0k w56 p0l) ++ (oX1 (p1a 0) p1a p1k p1n p1w p1l) ++ (oX9 (p1a 3) p1_2a p1_2k p1_2n w12))) [0, 1, 2, 3, 4, 5, 6, 7, 8, 9, 10, 11, 12, 13, 14, 15, 16, 17, 18, 19, 20, 21, 22, 23, 24, 25, 26, 27, 28, 29, 30, 31, 32, 33] rfl
        have hDc := hD.sub (ws' := ((oX5 (p0a 0) p0a p0k w56 p0l) ++ (oX1 (p1a 0) p1a p1k p1n p1w p1l) ++ (oX9 (p1a 3) p1_2a p1_2k p1_2n w12))) [0, 1, 2, 3, 4, 5, 6, 7, 8, 9, 10, 11, 12, 13, 14, 15, 16, 17, 18, 19, 20, 21, 22, 23, 24, 25, 26, 27, 28, 29, 30, 31, 32, 33] (by decide) rfl
        have hKc := hK.sub (tys' := ((tX5 p0k) ++ (tX1 p1k) ++ (tX9 p1_2k))) [0, 1, 2, 3, 4, 5, 6, 7, 8, 9, 10, 11, 12, 13, 14, 15, 16, 17, 18, 19, 20, 21, 22, 23, 24, 25, 26, 27, 28, 29, 30] rfl
        have hFc := va_free (wc := ((oX5 (p0a 0) p0a p0k w56 p0l) ++ (oX1 (p1a 0) p1a p1k p1n p1w p1l) ++ (oX9 (p1a 3) p1_2a p1_2k p1_2n w12))) hD hS hA [0, 1, 2, 3, 4, 5, 6, 7, 8, 9, 10, 11, 12, 13, 14, 15, 16, 17, 18, 19, 20, 21, 22, 23, 24, 25, 26, 27, 28, 29, 30, 31, 32, 33] rfl
        refine va_calli (va_runV (As := [.ref (p1a 0), .int o_7]) (rest := [.int o_57, .int (p1_2w 2 (nn p2)), .int p2, .ref (p1a 3)]) ⟨hx, hb, hml, hown, hts⟩ (kX5_numberOf l dC dI (p0a := (st0 (p0a 0) p0a)) (p0k := p0k) (p0w := w56) (p0l := p0l) (p1a := (st0 (p1a 0) p1a)) (p1k := p1k) (p1n := p1n) (p1w := p1w) (p1l := p1l) (p2 := o_7) (p1_2a := p1_2a) (p1_2k := p1_2k) (p1_2n := p1_2n) (p1_2w := w12) (sz := _) (o := o_59) (hrun := hc_59)) (cwV 2 hts (gi_V qw461 qw462 qw463 qw442 (gi_z qw460)) rfl rfl rfl (by decide +kernel) ⟨Nat.le_of_ble_eq_true rfl, Nat.le_of_ble_eq_true rfl⟩) ⟨PRE.blind, va_recv hKc hPc (ci := 7) (q0 := 0) rfl rfl, PRE.of hE hS hFc hPc hKc hDc⟩ rfl rfl hl.1 rfl (lv_room (Nat.le_of_ble_eq_true rfl)) dX5_joinOperator_119 ⟨(Nat.le_of_ble_eq_true rfl), (Nat.le_of_ble_eq_true rfl)⟩) hS (fun q _ h => hFc q h) hFc (fun r60 u t H locs ht hvm hw hB hz1 hk1 hS => ?_)
        obtain ⟨hP, hD, hK⟩ := JOIN (wr := ([] : va_W)) hP hD hK [0, 1, 2, 3, 4, 5, 6, 7, 8, 9, 10, 11, 12, 13, 14, 15, 16, 17, 18, 19, 20, 21, 22, 23, 24, 25, 26, 27, 28, 29, 30, 31, 32, 33] [] [] rfl rfl (by decide) (by decide) rfl hk1 hFc ht hvm hB
        have hP : va_P (dC, dI) cls ((oX5 (p0a 0) p0a p0k w56 p0l) ++ (oX1 (p1a 0) p1a p1k p1n p1w p1l) ++ (oX9 (p1a 3) p1_2a p1_2k p1_2n w12)) H := hP.sub [0, 1, 2, 3, 4, 5, 6, 7, 8, 9, 10, 11, 12, 13, 14, 15, 16, 17, 18, 19, 20, 21, 22, 23, 24, 25, 26, 27, 28, 29, 30, 31, 32, 33] rfl
        have hD : va_D A ((oX5 (p0a 0) p0a p0k w56 p0l) ++ (oX1 (p1a 0) p1a p1k p1n p1w p1l) ++ (oX9 (p1a 3) p1_2a p1_2k p1_2n w12)) := hD.sub [0, 1, 2, 3, 4, 5, 6, 7, 8, 9, 10, 11, 12, 13, 14, 15, 16, 17, 18, 19, 20, 21, 22, 23, 24, 25, 26, 27, 28, 29, 30, 31, 32, 33] (by decide) rfl
        have hK : va_K (dC, dI) cls ((tX5 p0k) ++ (tX1 p1k) ++ (tX9 p1_2k)) s := hK.sub [0, 1, 2, 3, 4, 5, 6, 7, 8, 9, 10, 11, 12, 13, 14, 15, 16, 17, 18, 19, 20, 21, 22, 23, 24, 25, 26, 27, 28, 29, 30] rfl
        obtain rfl : o_59 = r60 := hw.symm
        obtain ⟨o_61, hc_61, hrun⟩ := bnd9 hrun
        have hPc := hP.sub (ws' := ([] : va_W)) [] rfl
        have hDc := hD.sub (ws' := ([] : va_W)) [] (by decide) rfl
        have hKc := hK.sub (tys' := ([] : List (ClassId × FieldType))) [] rfl
        have hFc := va_free (wc := ([] : va_W)) hD hS hA [] rfl
        refine va_calli (va_runSN (As := [.int (p1_2w 2 (nn p2)), .int o_57, .int o_59]) (rest := [.int p2, .ref (p1a 3)]) ⟨hx, hb, hml, hown, hts⟩ (kX11_compute l dC dI (p0 := (p1_2w 2 (nn p2))) (p1 := o_57) (p2 := o_59) (sz := _) (o := o_61) (hrun := hc_61)) ⟨(va_cnB 3 hts (gi_z qw519) rfl rfl rfl (hE.nw (List.mem_append_right _ (tbl_7 (i := 177) rfl)) rfl) (hts _ qw129) (by decide +kernel) ⟨Nat.le_of_ble_eq_true rfl, Nat.le_of_ble_eq_true rfl⟩), (hts _ qw520), trivial⟩ ⟨PRE.blind, PRE.of hE hS hFc hPc hKc hDc⟩ rfl rfl hl.1 rfl (lv_room (Nat.le_of_ble_eq_true rfl)) dX5_joinOperator_122 ⟨(Nat.le_of_ble_eq_true rfl), (Nat.le_of_ble_eq_true rfl)⟩) hS (fun q _ h => hFc q h) hFc (fun r62 u t H locs ht hvm hw hB hz1 hk1 hS => ?_)
        obtain ⟨hP, hD, hK⟩ := JOIN (wr := ((oX5 (p0a 0) p0a p0k w56 p0l) ++ (oX1 (p1a 0) p1a p1k p1n p1w p1l) ++ (oX9 (p1a 3) p1_2a p1_2k p1_2n w12))) hP hD hK [] [0, 1, 2, 3, 4, 5, 6, 7, 8, 9, 10, 11, 12, 13, 14, 15, 16, 17, 18, 19, 20, 21, 22, 23, 24, 25, 26, 27, 28, 29, 30, 31, 32, 33] [0, 1, 2, 3, 4, 5, 6, 7, 8, 9, 10, 11, 12, 13, 14, 15, 16, 17, 18, 19, 20, 21, 22, 23, 24, 25, 26, 27, 28, 29, 30] rfl rfl (by decide) (by decide) rfl hk1 hFc ht hvm hB
        have hP : va_P (dC, dI) cls ((oX5 (p0a 0) p0a p0k w56 p0l) ++ (oX1 (p1a 0) p1a p1k p1n p1w p1l) ++ (oX9 (p1a 3) p1_2a p1_2k p1_2n w12)) H := hP.sub [0, 1, 2, 3, 4, 5, 6, 7, 8, 9, 10, 11, 12, 13, 14, 15, 16, 17, 18, 19, 20, 21, 22, 23, 24, 25, 26, 27, 28, 29, 30, 31, 32, 33] rfl
        have hD : va_D A ((oX5 (p0a 0) p0a p0k w56 p0l) ++ (oX1 (p1a 0) p1a p1k p1n p1w p1l) ++ (oX9 (p1a 3) p1_2a p1_2k p1_2n w12)) := hD.sub [0, 1, 2, 3, 4, 5, 6, 7, 8, 9, 10, 11, 12, 13, 14, 15, 16, 17, 18, 19, 20, 21, 22, 23, 24, 25, 26, 27, 28, 29, 30, 31, 32, 33] (by decide) rfl
        have hK : va_K (dC, dI) cls ((tX5 p0k) ++ (tX1 p1k) ++ (tX9 p1_2k)) s := hK.sub [0, 1, 2, 3, 4, 5, 6, 7, 8, 9, 10, 11, 12, 13, 14, 15, 16, 17, 18, 19, 20, 21, 22, 23, 24, 25, 26, 27, 28, 29, 30] rfl
        obtain rfl : o_61 = r62 := hw.symm
        obtain ⟨o_63, hc_63, hrun⟩ := bnd9 hrun
        have hPc := hP.sub (ws' := (oX9 (p1a 3) p1_2a p1_2k p1_2n w12)) [28, 29, 30, 31, 32, 33] rfl
        have hDc := hD.sub (ws' := (oX9 (p1a 3) p1_2a p1_2k p1_2n w12)) [28, 29, 30, 31, 32, 33] (by decide) rfl
        have hKc := hK.sub (tys' := (tX9 p1_2k)) [26, 27, 28, 29, 30] rfl
        have hFc := va_free (wc := (oX9 (p1a 3) p1_2a p1_2k p1_2n w12)) hD hS hA [28, 29, 30, 31, 32, 33] rfl
        refine va_callv (va_runS (As := [.ref (p1a 3), .int p2, .int o_61]) (rest := []) ⟨hx, hb, hml, hown, hts⟩ (kX5_becomeNumber l dC dI (p0a := (st0 (p1a 3) p1_2a)) (p0k := p1_2k) (p0n := p1_2n) (p0w := w12) (p1 := p2) (p2 := o_61) (sz := _) (o := o_63) (hrun := hc_63)) (va_cwS 3 hts (gi_S qw496 qw497 qw442 (gi_z qw495)) rfl rfl rfl (by decide +kernel) ⟨Nat.le_of_ble_eq_true rfl, Nat.le_of_ble_eq_true rfl⟩) ⟨PRE.blind, PRE.of hE hS hFc hPc hKc hDc⟩ rfl rfl hl.1 rfl (lv_room (Nat.le_of_ble_eq_true rfl)) dX5_joinOperator_125 ⟨(Nat.le_of_ble_eq_true rfl), (Nat.le_of_ble_eq_true rfl)⟩) hS (fun q _ h => hFc q h) hFc (fun u t H locs ht hvm hw hB hz1 hk1 hS => ?_)
        obtain ⟨hP, hD, hK⟩ := JOIN (wr := ((oX5 (p0a 0) p0a p0k w56 p0l) ++ (oX1 (p1a 0) p1a p1k p1n p1w p1l))) hP hD hK [28, 29, 30, 31, 32, 33] [0, 1, 2, 3, 4, 5, 6, 7, 8, 9, 10, 11, 12, 13, 14, 15, 16, 17, 18, 19, 20, 21, 22, 23, 24, 25, 26, 27] [0, 1, 2, 3, 4, 5, 6, 7, 8, 9, 10, 11, 12, 13, 14, 15, 16, 17, 18, 19, 20, 21, 22, 23, 24, 25] rfl rfl (by decide) (by decide) rfl hk1 hFc ht hvm hB
        have hP : va_P (dC, dI) cls ((oX5 (p0a 0) p0a p0k w56 p0l) ++ (oX1 (p1a 0) p1a p1k p1n p1w p1l) ++ (oX9 (p1a 3) p1_2a p1_2k p1_2n o_63)) H := hP.sub [0, 1, 2, 3, 4, 5, 6, 7, 8, 9, 10, 11, 12, 13, 14, 15, 16, 17, 18, 19, 20, 21, 22, 23, 24, 25, 26, 27, 28, 29, 30, 31, 32, 33] rfl
        have hD : va_D A ((oX5 (p0a 0) p0a p0k w56 p0l) ++ (oX1 (p1a 0) p1a p1k p1n p1w p1l) ++ (oX9 (p1a 3) p1_2a p1_2k p1_2n o_63)) := hD.sub [0, 1, 2, 3, 4, 5, 6, 7, 8, 9, 10, 11, 12, 13, 14, 15, 16, 17, 18, 19, 20, 21, 22, 23, 24, 25, 26, 27, 28, 29, 30, 31, 32, 33] (by decide) rfl
        have hK : va_K (dC, dI) cls ((tX5 p0k) ++ (tX1 p1k) ++ (tX9 p1_2k)) s := hK.sub [0, 1, 2, 3, 4, 5, 6, 7, 8, 9, 10, 11, 12, 13, 14, 15, 16, 17, 18, 19, 20, 21, 22, 23, 24, 25, 26, 27, 28, 29, 30] rfl
        refine lv_goto (tgt := 290) hx hb dX5_joinOperator_128 (by decide) ?_
        exact J290 w56 o_63 _ _ _ hrun hP hD hK hS (lv_sub hl [] rfl)
      · refine lv_if_ne (tgt := 131) hx hb dX5_joinOperator_93 (by decide) (fun _ => ?_) (fun c => absurd c hc54)
        exact J131 _ _ _ hrun hP hD hK hS (lv_sub hl [5, 6, 7, 4, 3, 2, 1, 0] rfl)
def fX5_joinBlock_L7 (p1n : Nat → Nat) (p1w : ST) (p2 : Int32) : Nat → Int32 → ST → Option ST
  | 0 => fun _ _ => none
  | n_7 + 1 => fun v3_7 p0w_7 => (if v3_7 < 0 then some p0w_7 else ((fX5_joinPhi p0w_7 p1n p1w p2 v3_7).bind fun (o_3 : ST) => (if ixb v3_7 (p1n 20) = true then ((fX5_joinBlock_L7 p1n p1w p2 n_7) (p1w 20 (nn v3_7)) o_3) else none)))
def fX5_joinBlock_J107 (kk35 : Int32 → ST → ST → Option (ST × ST)) (p1_2n : Nat → Nat) (v3_35 : Int32) (p1_2w_71 : ST) (p0w_107 : ST) : Option (ST × ST) := (if ixb v3_35 (p1_2n 6) = true then (kk35 (p1_2w_71 6 (nn v3_35)) p0w_107 p1_2w_71) else none)
def fX5_joinBlock_J71 (kk35 : Int32 → ST → ST → Option (ST × ST)) (p1l : SL) (p2 : Int32) (p1_2n : Nat → Nat) (v3_35 : Int32) (p1_2w_35 : ST) (p0w_71 : ST) (p1_2w_71 : ST) : Option (ST × ST) := (if (p1_2w_35 3 (nn v3_35)) < 0 then (fX5_joinBlock_J107 kk35 p1_2n v3_35 p1_2w_71 p0w_71) else (if ixb v3_35 (p1_2n 2) = true then (if 16 < (p1_2w_71 2 (nn v3_35)) then (fX5_joinBlock_J107 kk35 p1_2n v3_35 p1_2w_71 p0w_71) else (if ixb (p1_2w_35 3 (nn v3_35)) 250 = true then (if 0 ≤ (p0w_71 6 (nn (p1_2w_35 3 (nn v3_35)))) then (fX5_joinBlock_J107 kk35 p1_2n v3_35 p1_2w_71 p0w_71) else ((fX5_joinSeen p0w_71 p1l p2 v3_35 p1_2n p1_2w_71).bind fun (o_17 : ST) => (fX5_joinBlock_J107 kk35 p1_2n v3_35 p1_2w_71 o_17))) else none)) else none))
def fX5_joinBlock_L35 (p1l : SL) (p2 : Int32) (p1_2n : Nat → Nat) : Nat → Int32 → ST → ST → Option (ST × ST)
  | 0 => fun _ _ _ => none
  | n_35 + 1 => fun v3_35 p0w_35 p1_2w_35 => (if v3_35 < 0 then some (p0w_35, p1_2w_35) else (if ixb v3_35 (p1_2n 3) = true then (if ixb v3_35 (p1_2n 2) = true then ((fX11_isOperator (p1_2w_35 2 (nn v3_35))).bind fun (o_9 : Int32) => (if o_9 = 0 then (fX5_joinBlock_J71 (fX5_joinBlock_L35 p1l p2 p1_2n n_35) p1l p2 p1_2n v3_35 p1_2w_35 p0w_35 p1_2w_35) else ((fX5_joinOperator p0w_35 v3_35 p1_2n p1_2w_35).bind fun (o_19 : ST × ST) => (fX5_joinBlock_J71 (fX5_joinBlock_L35 p1l p2 p1_2n n_35) p1l p2 p1_2n v3_35 p1_2w_35 (o_19.1) (o_19.2))))) else none) else none))
def fX5_joinBlock (p0w : ST) (p1n : Nat → Nat) (p1w : ST) (p1l : SL) (p2 : Int32) (p1_2n : Nat → Nat) (p1_2w : ST) : Option (ST × ST) := (if ixb p2 60 = true then ((fX5_joinBlock_L7 p1n p1w p2 NF (p1w 6 (nn p2)) p0w).bind fun (o7 : ST) => (if ixb p2 60 = true then ((fX5_joinBlock_L35 p1l p2 p1_2n NF (p1w 4 (nn p2)) o7 p1_2w).bind fun (o35 : ST × ST) => some ((o35.1), (o35.2))) else none)) else none)
set_option maxHeartbeats 16000000 in
set_option maxRecDepth 100000 in
theorem kX5_joinBlock {zs : Nat × Nat} (l : Launch) (dC : Nat → ClassId) (dI : Nat → Nat → Nat) (p0a : Nat → Nat) (p0k : Nat → ClassId) (p0w : ST) (p0l : SL) (p1a : Nat → Nat) (p1k : Nat → ClassId) (p1n : Nat → Nat) (p1w : ST) (p1l : SL) (p2 : Int32) (p1_2a : Nat → Nat) (p1_2k : Nat → ClassId) (p1_2n : Nat → Nat) (p1_2w : ST) (sz : Nat) (o : ST × ST) (hrun : fX5_joinBlock p0w p1n p1w p1l p2 p1_2n p1_2w = some o) : Met l yX5_joinBlock (wz yX5_joinBlock cX5_joinBlock 5 (Option.none : Option Jvm.ClassFile.FieldType)) ({ frames := 4, cells := 0, slots := 0, locals := 96 } : Room) (va_Pc [.ref (p0a 0), .ref (p1a 0), .int p2] (PRE zs dC dI ((oX5 (p0a 0) p0a p0k p0w p0l) ++ (oX1 (p1a 0) p1a p1k p1n p1w p1l) ++ (oX9 (p1a 3) p1_2a p1_2k p1_2n p1_2w)) ((tX5 p0k) ++ (tX1 p1k) ++ (tX9 p1_2k)) sz)) (va_Qv (fun (_ : Unit) => True) (fun _ t => POST dC dI ((oX5 (p0a 0) p0a p0k (o.1) p0l) ++ (oX1 (p1a 0) p1a p1k p1n p1w p1l) ++ (oX9 (p1a 3) p1_2a p1_2k p1_2n (o.2))) ((tX5 p0k) ++ (tX1 p1k) ++ (tX9 p1_2k)) (va_A ((oX5 (p0a 0) p0a p0k p0w p0l) ++ (oX1 (p1a 0) p1a p1k p1n p1w p1l) ++ (oX9 (p1a 3) p1_2a p1_2k p1_2n p1_2w)) sz) t) (va_A ((oX5 (p0a 0) p0a p0k p0w p0l) ++ (oX1 (p1a 0) p1a p1k p1n p1w p1l) ++ (oX9 (p1a 3) p1_2a p1_2k p1_2n p1_2w)) sz)) 0 0 (va_A ((oX5 (p0a 0) p0a p0k p0w p0l) ++ (oX1 (p1a 0) p1a p1k p1n p1w p1l) ++ (oX9 (p1a 3) p1_2a p1_2k p1_2n p1_2w)) sz) := by
  refine Met.ofW (cc := cX5_joinBlock) (maxL := 5) (ret := (Option.none : Option Jvm.ClassFile.FieldType)) (by decide) rfl ?_
  intro p e s m args below meth c s₁ B hml hv
  obtain ⟨rfl, hsz, hP, hK, hD0, hE⟩ := hv
  have hx := B.exec
  have hb := B.bytes
  have hr := B.returns
  have hts0 := atoms_spec (ws := wz yX5_joinBlock cX5_joinBlock 5 (Option.none : Option Jvm.ClassFile.FieldType)) B.pre
  have hts : ∀ w ∈ gw, w.before _ s = true := fun w h => hts0 w (List.mem_cons_of_mem _ h)
  have hown : s.vm.findClass RX5 = some m.cls := findClass_of_methodNamed B.named
  have hlocks := B.notSynchronized
  subst hsz
  have hD := hD0.self (sz := s.heap.size)
  refine gQ9 ?_
  intro Q hQ
  generalize hAe : va_A ((oX5 (p0a 0) p0a p0k p0w p0l) ++ (oX1 (p1a 0) p1a p1k p1n p1w p1l) ++ (oX9 (p1a 3) p1_2a p1_2k p1_2n p1_2w)) s.heap.size = A at hD hE hQ
  have hA : ∀ q : Nat, s.heap.size ≤ q → A q := fun q h => by rw [← hAe]; exact Or.inr h
  have hS : va_S A s.heap s.heap [] := va_S.rf
  have hP : va_P (dC, dI) cls ((oX5 (p0a 0) p0a p0k p0w p0l) ++ (oX1 (p1a 0) p1a p1k p1n p1w p1l) ++ (oX9 (p1a 3) p1_2a p1_2k p1_2n p1_2w)) s.heap := hP
  have hl := lv_entry ([.ref (p0a 0), .ref (p1a 0), .int p2]) (n := 5) (Nat.le_of_ble_eq_true rfl)
  rw [lg_entry_eq]
  generalize (lg_sl ([.ref (p0a 0), .ref (p1a 0), .int p2]) ++ List.replicate (5 - (lg_sl ([.ref (p0a 0), .ref (p1a 0), .int p2])).length) Slot.unset).toArray = ls at hl ⊢
  have hl : lv_has ls 5 [(0, .ref (p0a 0)), (1, .ref (p1a 0)), (2, .int p2)] := hl
  obtain ⟨H, hHe⟩ : ∃ H, H = s.heap := ⟨_, rfl⟩
  obtain ⟨locs, hle⟩ : ∃ locs : List Loc, locs = [] := ⟨_, rfl⟩
  rw [← hHe] at hP
  have hS : va_S A s.heap H locs := by rw [hHe, hle]; exact hS
  show W p l e ({ frames := 4, cells := 0, slots := 0, locals := 96 } : Room) s m ([.ref (p0a 0), .ref (p1a 0), .int p2] : List Value).toArray below meth c s.heap [] 0 0 Q (F0 m 0 ls [])
  rw [← hle]
  refine wH9 hHe ?_
  unfold fX5_joinBlock at hrun
  refine lv_aload_n hx hb dX5_joinBlock_0 rfl (lv_at hl 1 rfl) ?_
  refine va_get (D := (dC, dI)) (ci := 4) (v := .ref (p1a 6)) (C := RX1) (T := TX1) (N := 21) hx hb hts i_X1 hown hK hP 10 rfl rfl 5 (by decide) (hts _ qw431) (fun _ h9 => h9) rfl dX5_joinBlock_1 ?_
  refine lv_iload_n hx hb dX5_joinBlock_4 rfl (lv_at hl 2 rfl) ?_
  obtain ⟨hq1, hrun⟩ := chk9 hrun
  refine va_iald hx hb hK hP 13 11 rfl rfl (ixb_in hq1) dX5_joinBlock_5 ?_
  refine lv_istore_n (lv' := [(3, .int (p1w 6 (nn p2))), (0, .ref (p0a 0)), (1, .ref (p1a 0)), (2, .int p2)]) hx hb dX5_joinBlock_6 rfl hl (by decide) rfl (fun ls hl => ?_)
  have L7 : ∀ (n_7 : Nat) (v3_7 : Int32) (p0w_7 : ST) (o7 : ST) (H : Heap) (locs : List Loc) (ls : Array Slot), (fX5_joinBlock_L7 p1n p1w p2 n_7) v3_7 p0w_7 = some o7 → va_P (dC, dI) cls ((oX5 (p0a 0) p0a p0k p0w_7 p0l) ++ (oX1 (p1a 0) p1a p1k p1n p1w p1l) ++ (oX9 (p1a 3) p1_2a p1_2k p1_2n p1_2w)) H → va_D A ((oX5 (p0a 0) p0a p0k p0w_7 p0l) ++ (oX1 (p1a 0) p1a p1k p1n p1w p1l) ++ (oX9 (p1a 3) p1_2a p1_2k p1_2n p1_2w)) → va_K (dC, dI) cls ((tX5 p0k) ++ (tX1 p1k) ++ (tX9 p1_2k)) s → va_S A s.heap H locs → lv_has ls 5 [(0, .ref (p0a 0)), (1, .ref (p1a 0)), (2, .int p2), (3, .int v3_7)] → (∀ (H : Heap) (locs : List Loc) (ls : Array Slot), va_P (dC, dI) cls ((oX5 (p0a 0) p0a p0k o7 p0l) ++ (oX1 (p1a 0) p1a p1k p1n p1w p1l) ++ (oX9 (p1a 3) p1_2a p1_2k p1_2n p1_2w)) H → va_D A ((oX5 (p0a 0) p0a p0k o7 p0l) ++ (oX1 (p1a 0) p1a p1k p1n p1w p1l) ++ (oX9 (p1a 3) p1_2a p1_2k p1_2n p1_2w)) → va_K (dC, dI) cls ((tX5 p0k) ++ (tX1 p1k) ++ (tX9 p1_2k)) s → va_S A s.heap H locs → lv_has ls 5 [(0, .ref (p0a 0)), (1, .ref (p1a 0)), (2, .int p2)] → W p l e ({ frames := 4, cells := 0, slots := 0, locals := 96 } : Room) s m ([.ref (p0a 0), .ref (p1a 0), .int p2] : List Value).toArray below meth c H locs 0 0 Q (F0 m 28 ls [])) → W p l e ({ frames := 4, cells := 0, slots := 0, locals := 96 } : Room) s m ([.ref (p0a 0), .ref (p1a 0), .int p2] : List Value).toArray below meth c H locs 0 0 Q (F0 m 7 ls []) := by
    intro n_7
    induction n_7 with
    | zero => intro v3_7 p0w_7 o7 H locs ls hrun; exact (no9 rfl hrun).elim
    | succ n_7 IH7 =>
      intro v3_7 p0w_7 o7 H locs ls hrun hP hD hK hS hl hk7
      unfold fX5_joinBlock_L7 at hrun
      refine lv_iload_n hx hb dX5_joinBlock_7 rfl (lv_at hl 3 rfl) ?_
      rcases br9 hrun with ⟨hc2, hrun⟩ | ⟨hc2, hrun⟩
      · refine lv_if_lt (tgt := 28) hx hb dX5_joinBlock_8 (by decide) (fun _ => ?_) (fun c => absurd hc2 c)
        obtain rfl := (Option.some.inj hrun)
        exact hk7 _ _ _ hP hD hK hS (lv_sub hl [0, 1, 2] rfl)
      · refine lv_if_lt (tgt := 28) hx hb dX5_joinBlock_8 (by decide) (fun c => absurd c hc2) (fun _ => ?_)
        refine lv_aload_n hx hb dX5_joinBlock_11 rfl (lv_at hl 0 rfl) ?_
        refine lv_aload_n hx hb dX5_joinBlock_12 rfl (lv_at hl 1 rfl) ?_
        refine lv_iload_n hx hb dX5_joinBlock_13 rfl (lv_at hl 2 rfl) ?_
        refine lv_iload_n hx hb dX5_joinBlock_14 rfl (lv_at hl 3 rfl) ?_
        obtain ⟨o_3, hc_3, hrun⟩ := bnd9 hrun
        have hPc := hP.sub (ws' := ((oX5 (p0a 0) p0a p0k p0w_7 p0l) ++ (oX1 (p1a 0) p1a p1k p1n p1w p1l))) [0, 1, 2, 3, 4, 5, 6, 7, 8, 9, 10, 11, 12, 13, 14, 15, 16, 17, 18, 19, 20, 21, 22, 23, 24, 25, 26, 27] rfl
        have hDc := hD.sub (ws' := ((oX5 (p0a 0) p0a p0k p0w_7 p0l) ++ (oX1 (p1a 0) p1a p1k p1n p1w p1l))) [0, 1, 2, 3, 4, 5, 6, 7, 8, 9, 10, 11, 12, 13, 14, 15, 16, 17, 18, 19, 20, 21, 22, 23, 24, 25, 26, 27] (by decide) rfl
        have hKc := hK.sub (tys' := ((tX5 p0k) ++ (tX1 p1k))) [0, 1, 2, 3, 4, 5, 6, 7, 8, 9, 10, 11, 12, 13, 14, 15, 16, 17, 18, 19, 20, 21, 22, 23, 24, 25] rfl
        have hFc := va_free (wc := ((oX5 (p0a 0) p0a p0k p0w_7 p0l) ++ (oX1 (p1a 0) p1a p1k p1n p1w p1l))) hD hS hA [0, 1, 2, 3, 4, 5, 6, 7, 8, 9, 10, 11, 12, 13, 14, 15, 16, 17, 18, 19, 20, 21, 22, 23, 24, 25, 26, 27] rfl
        refine va_callv (va_runV (As := [.ref (p1a 0), .int p2, .int v3_7]) (rest := []) ⟨hx, hb, hml, hown, hts⟩ (kX5_joinPhi l dC dI (p0a := (st0 (p0a 0) p0a)) (p0k := p0k) (p0w := p0w_7) (p0l := p0l) (p1a := (st0 (p1a 0) p1a)) (p1k := p1k) (p1n := p1n) (p1w := p1w) (p1l := p1l) (p2 := p2) (p3 := v3_7) (sz := _) (o := o_3) (hrun := hc_3)) (cwV 3 hts (gi_V qw553 qw554 qw555 qw442 (gi_z qw552)) rfl rfl rfl (by decide +kernel) ⟨Nat.le_of_ble_eq_true rfl, Nat.le_of_ble_eq_true rfl⟩) ⟨PRE.blind, va_recv hKc hPc (ci := 7) (q0 := 0) rfl rfl, PRE.of hE hS hFc hPc hKc hDc⟩ rfl rfl hl.1 rfl (lv_room (Nat.le_of_ble_eq_true rfl)) dX5_joinBlock_15 ⟨(Nat.le_of_ble_eq_true rfl), (Nat.le_of_ble_eq_true rfl)⟩) hS (fun q _ h => hFc q h) hFc (fun u t H locs ht hvm hw hB hz1 hk1 hS => ?_)
        obtain ⟨hP, hD, hK⟩ := JOIN (wr := (oX9 (p1a 3) p1_2a p1_2k p1_2n p1_2w)) hP hD hK [0, 1, 2, 3, 4, 5, 6, 7, 8, 9, 10, 11, 12, 13, 14, 15, 16, 17, 18, 19, 20, 21, 22, 23, 24, 25, 26, 27] [28, 29, 30, 31, 32, 33] [26, 27, 28, 29, 30] rfl rfl (by decide) (by decide) rfl hk1 hFc ht hvm hB
        have hP : va_P (dC, dI) cls ((oX5 (p0a 0) p0a p0k o_3 p0l) ++ (oX1 (p1a 0) p1a p1k p1n p1w p1l) ++ (oX9 (p1a 3) p1_2a p1_2k p1_2n p1_2w)) H := hP.sub [6, 7, 8, 9, 10, 11, 12, 13, 14, 15, 16, 17, 18, 19, 20, 21, 22, 23, 24, 25, 26, 27, 28, 29, 30, 31, 32, 33, 0, 1, 2, 3, 4, 5] rfl
        have hD : va_D A ((oX5 (p0a 0) p0a p0k o_3 p0l) ++ (oX1 (p1a 0) p1a p1k p1n p1w p1l) ++ (oX9 (p1a 3) p1_2a p1_2k p1_2n p1_2w)) := hD.sub [6, 7, 8, 9, 10, 11, 12, 13, 14, 15, 16, 17, 18, 19, 20, 21, 22, 23, 24, 25, 26, 27, 28, 29, 30, 31, 32, 33, 0, 1, 2, 3, 4, 5] (by decide) rfl
        have hK : va_K (dC, dI) cls ((tX5 p0k) ++ (tX1 p1k) ++ (tX9 p1_2k)) s := hK.sub [5, 6, 7, 8, 9, 10, 11, 12, 13, 14, 15, 16, 17, 18, 19, 20, 21, 22, 23, 24, 25, 26, 27, 28, 29, 30, 0, 1, 2, 3, 4] rfl
        refine lv_aload_n hx hb dX5_joinBlock_18 rfl (lv_at hl 1 rfl) ?_
        refine va_get (D := (dC, dI)) (ci := 4) (v := .ref (p1a 20)) (C := RX1) (T := TX1) (N := 21) hx hb hts i_X1 hown hK hP 10 rfl rfl 19 (by decide) (hts _ qw433) (fun _ h9 => h9) rfl dX5_joinBlock_19 ?_
        refine lv_iload_n hx hb dX5_joinBlock_22 rfl (lv_at hl 3 rfl) ?_
        obtain ⟨hq4, hrun⟩ := chk9 hrun
        refine va_iald hx hb hK hP 26 24 rfl rfl (ixb_in hq4) dX5_joinBlock_23 ?_
        refine lv_istore_n (lv' := [(3, .int (p1w 20 (nn v3_7))), (0, .ref (p0a 0)), (1, .ref (p1a 0)), (2, .int p2)]) hx hb dX5_joinBlock_24 rfl hl (by decide) rfl (fun ls hl => ?_)
        refine lv_goto (tgt := 7) hx hb dX5_joinBlock_25 (by decide) ?_
        exact IH7 (p1w 20 (nn v3_7)) o_3 o7 _ _ _ hrun hP hD hK hS (lv_sub hl [1, 2, 3, 0] rfl) hk7
  obtain ⟨o7, hc7, hrun⟩ := bnd9 hrun
  refine L7 NF (p1w 6 (nn p2)) p0w o7 _ _ _ hc7 hP hD hK hS (lv_sub hl [1, 2, 3, 0] rfl) ?_
  intro H locs ls hP hD hK hS hl
  have hl := hl
  refine lv_aload_n hx hb dX5_joinBlock_28 rfl (lv_at hl 1 rfl) ?_
  refine va_get (D := (dC, dI)) (ci := 4) (v := .ref (p1a 4)) (C := RX1) (T := TX1) (N := 21) hx hb hts i_X1 hown hK hP 10 rfl rfl 3 (by decide) (hts _ qw434) (fun _ h9 => h9) rfl dX5_joinBlock_29 ?_
  refine lv_iload_n hx hb dX5_joinBlock_32 rfl (lv_at hl 2 rfl) ?_
  obtain ⟨hq5, hrun⟩ := chk9 hrun
  refine va_iald hx hb hK hP 11 9 rfl rfl (ixb_in hq5) dX5_joinBlock_33 ?_
  refine lv_istore_n (lv' := [(3, .int (p1w 4 (nn p2))), (0, .ref (p0a 0)), (1, .ref (p1a 0)), (2, .int p2)]) hx hb dX5_joinBlock_34 rfl hl (by decide) rfl (fun ls hl => ?_)
  have L35 : ∀ (n_35 : Nat) (v3_35 : Int32) (p0w_35 : ST) (p1_2w_35 : ST) (o35 : ST × ST) (H : Heap) (locs : List Loc) (ls : Array Slot), (fX5_joinBlock_L35 p1l p2 p1_2n n_35) v3_35 p0w_35 p1_2w_35 = some o35 → va_P (dC, dI) cls ((oX5 (p0a 0) p0a p0k p0w_35 p0l) ++ (oX1 (p1a 0) p1a p1k p1n p1w p1l) ++ (oX9 (p1a 3) p1_2a p1_2k p1_2n p1_2w_35)) H → va_D A ((oX5 (p0a 0) p0a p0k p0w_35 p0l) ++ (oX1 (p1a 0) p1a p1k p1n p1w p1l) ++ (oX9 (p1a 3) p1_2a p1_2k p1_2n p1_2w_35)) → va_K (dC, dI) cls ((tX5 p0k) ++ (tX1 p1k) ++ (tX9 p1_2k)) s → va_S A s.heap H locs → lv_has ls 5 [(0, .ref (p0a 0)), (1, .ref (p1a 0)), (2, .int p2), (3, .int v3_35)] → (∀ (H : Heap) (locs : List Loc) (ls : Array Slot), va_P (dC, dI) cls ((oX5 (p0a 0) p0a p0k (o35.1) p0l) ++ (oX1 (p1a 0) p1a p1k p1n p1w p1l) ++ (oX9 (p1a 3) p1_2a p1_2k p1_2n (o35.2))) H → va_D A ((oX5 (p0a 0) p0a p0k (o35.1) p0l) ++ (oX1 (p1a 0) p1a p1k p1n p1w p1l) ++ (oX9 (p1a 3) p1_2a p1_2k p1_2n (o35.2))) → va_K (dC, dI) cls ((tX5 p0k) ++ (tX1 p1k) ++ (tX9 p1_2k)) s → va_S A s.heap H locs → lv_has ls 5 [] → W p l e ({ frames := 4, cells := 0, slots := 0, locals := 96 } : Room) s m ([.ref (p0a 0), .ref (p1a 0), .int p2] : List Value).toArray below meth c H locs 0 0 Q (F0 m 120 ls [])) → W p l e ({ frames := 4, cells := 0, slots := 0, locals := 96 } : Room) s m ([.ref (p0a 0), .ref (p1a 0), .int p2] : List Value).toArray below meth c H locs 0 0 Q (F0 m 35 ls []) := by
    intro n_35
    induction n_35 with
    | zero => intro v3_35 p0w_35 p1_2w_35 o35 H locs ls hrun; exact (no9 rfl hrun).elim
    | succ n_35 IH35 =>
      intro v3_35 p0w_35 p1_2w_35 o35 H locs ls hrun hP hD hK hS hl hk35
      unfold fX5_joinBlock_L35 at hrun
      refine lv_iload_n hx hb dX5_joinBlock_35 rfl (lv_at hl 3 rfl) ?_
      rcases br9 hrun with ⟨hc6, hrun⟩ | ⟨hc6, hrun⟩
      · refine lv_if_lt (tgt := 120) hx hb dX5_joinBlock_36 (by decide) (fun _ => ?_) (fun c => absurd hc6 c)
        obtain rfl := (Option.some.inj hrun)
        exact hk35 _ _ _ hP hD hK hS (lv_sub hl [] rfl)
      · refine lv_if_lt (tgt := 120) hx hb dX5_joinBlock_36 (by decide) (fun c => absurd c hc6) (fun _ => ?_)
        refine lv_aload_n hx hb dX5_joinBlock_39 rfl (lv_at hl 1 rfl) ?_
        refine va_get (D := (dC, dI)) (ci := 4) (v := .ref (p1a 3)) (C := RX1) (T := TX1) (N := 21) hx hb hts i_X1 hown hK hP 10 rfl rfl 2 (by decide) (hts _ qw435) (fun _ h9 => h9) rfl dX5_joinBlock_40 ?_
        refine va_get (D := (dC, dI)) (ci := 3) (v := .ref (p1_2a 3)) (C := RX9) (T := TX9) (N := 6) hx hb hts i_X9 hown hK hP 28 rfl rfl 2 (by decide) (hts _ qw436) (fun _ h9 => h9) rfl dX5_joinBlock_43 ?_
        refine lv_iload_n hx hb dX5_joinBlock_46 rfl (lv_at hl 3 rfl) ?_
        obtain ⟨hq7, hrun⟩ := chk9 hrun
        refine va_iald hx hb hK hP 30 27 rfl rfl (ixb_in hq7) dX5_joinBlock_47 ?_
        refine lv_istore (lv' := [(4, .int (p1_2w_35 3 (nn v3_35))), (0, .ref (p0a 0)), (1, .ref (p1a 0)), (2, .int p2), (3, .int v3_35)]) hx hb dX5_joinBlock_48 hl (by decide) rfl (fun ls hl => ?_)
        refine lv_aload_n hx hb dX5_joinBlock_50 rfl (lv_at hl 2 rfl) ?_
        refine va_get (D := (dC, dI)) (ci := 4) (v := .ref (p1a 3)) (C := RX1) (T := TX1) (N := 21) hx hb hts i_X1 hown hK hP 10 rfl rfl 2 (by decide) (hts _ qw435) (fun _ h9 => h9) rfl dX5_joinBlock_51 ?_
        refine va_get (D := (dC, dI)) (ci := 3) (v := .ref (p1_2a 2)) (C := RX9) (T := TX9) (N := 6) hx hb hts i_X9 hown hK hP 28 rfl rfl 1 (by decide) (hts _ qw420) (fun _ h9 => h9) rfl dX5_joinBlock_54 ?_
        refine lv_iload_n hx hb dX5_joinBlock_57 rfl (lv_at hl 4 rfl) ?_
        obtain ⟨hq8, hrun⟩ := chk9 hrun
        refine va_iald hx hb hK hP 29 26 rfl rfl (ixb_in hq8) dX5_joinBlock_58 ?_
        obtain ⟨o_9, hc_9, hrun⟩ := bnd9 hrun
        have hPc := hP.sub (ws' := ([] : va_W)) [] rfl
        have hDc := hD.sub (ws' := ([] : va_W)) [] (by decide) rfl
        have hKc := hK.sub (tys' := ([] : List (ClassId × FieldType))) [] rfl
        have hFc := va_free (wc := ([] : va_W)) hD hS hA [] rfl
        refine va_calli (va_runSN (As := [.int (p1_2w_35 2 (nn v3_35))]) (rest := []) ⟨hx, hb, hml, hown, hts⟩ (kX11_isOperator l dC dI (p0 := (p1_2w_35 2 (nn v3_35))) (sz := _) (o := o_9) (hrun := hc_9)) ⟨(va_cnB 1 hts (gi_z qw348) rfl rfl rfl (hE.nw (List.mem_append_right _ (tbl_7 (i := 173) rfl)) rfl) (hts _ qw129) (by decide +kernel) ⟨Nat.le_of_ble_eq_true rfl, Nat.le_of_ble_eq_true rfl⟩), (hts _ qw350), trivial⟩ ⟨PRE.blind, PRE.of hE hS hFc hPc hKc hDc⟩ rfl rfl hl.1 rfl (lv_room (Nat.le_of_ble_eq_true rfl)) dX5_joinBlock_59 ⟨(Nat.le_of_ble_eq_true rfl), (Nat.le_of_ble_eq_true rfl)⟩) hS (fun q _ h => hFc q h) hFc (fun r10 u t H locs ht hvm hw hB hz1 hk1 hS => ?_)
        obtain ⟨hP, hD, hK⟩ := JOIN (wr := ((oX5 (p0a 0) p0a p0k p0w_35 p0l) ++ (oX1 (p1a 0) p1a p1k p1n p1w p1l) ++ (oX9 (p1a 3) p1_2a p1_2k p1_2n p1_2w_35))) hP hD hK [] [0, 1, 2, 3, 4, 5, 6, 7, 8, 9, 10, 11, 12, 13, 14, 15, 16, 17, 18, 19, 20, 21, 22, 23, 24, 25, 26, 27, 28, 29, 30, 31, 32, 33] [0, 1, 2, 3, 4, 5, 6, 7, 8, 9, 10, 11, 12, 13, 14, 15, 16, 17, 18, 19, 20, 21, 22, 23, 24, 25, 26, 27, 28, 29, 30] rfl rfl (by decide) (by decide) rfl hk1 hFc ht hvm hB
        have hP : va_P (dC, dI) cls ((oX5 (p0a 0) p0a p0k p0w_35 p0l) ++ (oX1 (p1a 0) p1a p1k p1n p1w p1l) ++ (oX9 (p1a 3) p1_2a p1_2k p1_2n p1_2w_35)) H := hP.sub [0, 1, 2, 3, 4, 5, 6, 7, 8, 9, 10, 11, 12, 13, 14, 15, 16, 17, 18, 19, 20, 21, 22, 23, 24, 25, 26, 27, 28, 29, 30, 31, 32, 33] rfl
        have hD : va_D A ((oX5 (p0a 0) p0a p0k p0w_35 p0l) ++ (oX1 (p1a 0) p1a p1k p1n p1w p1l) ++ (oX9 (p1a 3) p1_2a p1_2k p1_2n p1_2w_35)) := hD.sub [0, 1, 2, 3, 4, 5, 6, 7, 8, 9, 10, 11, 12, 13, 14, 15, 16, 17, 18, 19, 20, 21, 22, 23, 24, 25, 26, 27, 28, 29, 30, 31, 32, 33] (by decide) rfl
        have hK : va_K (dC, dI) cls ((tX5 p0k) ++ (tX1 p1k) ++ (tX9 p1_2k)) s := hK.sub [0, 1, 2, 3, 4, 5, 6, 7, 8, 9, 10, 11, 12, 13, 14, 15, 16, 17, 18, 19, 20, 21, 22, 23, 24, 25, 26, 27, 28, 29, 30] rfl
        obtain rfl : o_9 = r10 := hw.symm
        have J71 : ∀ (p0w_71 : ST) (p1_2w_71 : ST) (H : Heap) (locs : List Loc) (ls : Array Slot), (fX5_joinBlock_J71 (fX5_joinBlock_L35 p1l p2 p1_2n n_35) p1l p2 p1_2n v3_35 p1_2w_35 p0w_71 p1_2w_71) = some o35 → va_P (dC, dI) cls ((oX5 (p0a 0) p0a p0k p0w_71 p0l) ++ (oX1 (p1a 0) p1a p1k p1n p1w p1l) ++ (oX9 (p1a 3) p1_2a p1_2k p1_2n p1_2w_71)) H → va_D A ((oX5 (p0a 0) p0a p0k p0w_71 p0l) ++ (oX1 (p1a 0) p1a p1k p1n p1w p1l) ++ (oX9 (p1a 3) p1_2a p1_2k p1_2n p1_2w_71)) → va_K (dC, dI) cls ((tX5 p0k) ++ (tX1 p1k) ++ (tX9 p1_2k)) s → va_S A s.heap H locs → lv_has ls 5 [(0, .ref (p0a 0)), (1, .ref (p1a 0)), (2, .int p2), (3, .int v3_35), (4, .int (p1_2w_35 3 (nn v3_35)))] → W p l e ({ frames := 4, cells := 0, slots := 0, locals := 96 } : Room) s m ([.ref (p0a 0), .ref (p1a 0), .int p2] : List Value).toArray below meth c H locs 0 0 Q (F0 m 71 ls []) := by
          intro p0w_71 p1_2w_71 H locs ls hrun hP hD hK hS hl 
          unfold fX5_joinBlock_J71 at hrun
          refine lv_iload hx hb dX5_joinBlock_71 (lv_at hl 4 rfl) ?_
          have J107 : ∀ (p0w_107 : ST) (H : Heap) (locs : List Loc) (ls : Array Slot), (fX5_joinBlock_J107 (fX5_joinBlock_L35 p1l p2 p1_2n n_35) p1_2n v3_35 p1_2w_71 p0w_107) = some o35 → va_P (dC, dI) cls ((oX5 (p0a 0) p0a p0k p0w_107 p0l) ++ (oX1 (p1a 0) p1a p1k p1n p1w p1l) ++ (oX9 (p1a 3) p1_2a p1_2k p1_2n p1_2w_71)) H → va_D A ((oX5 (p0a 0) p0a p0k p0w_107 p0l) ++ (oX1 (p1a 0) p1a p1k p1n p1w p1l) ++ (oX9 (p1a 3) p1_2a p1_2k p1_2n p1_2w_71)) → va_K (dC, dI) cls ((tX5 p0k) ++ (tX1 p1k) ++ (tX9 p1_2k)) s → va_S A s.heap H locs → lv_has ls 5 [(0, .ref (p0a 0)), (1, .ref (p1a 0)), (2, .int p2), (3, .int v3_35)] → W p l e ({ frames := 4, cells := 0, slots := 0, locals := 96 } : Room) s m ([.ref (p0a 0), .ref (p1a 0), .int p2] : List Value).toArray below meth c H locs 0 0 Q (F0 m 107 ls []) := by
            intro p0w_107 H locs ls hrun hP hD hK hS hl 
            unfold fX5_joinBlock_J107 at hrun
            refine lv_aload_n hx hb dX5_joinBlock_107 rfl (lv_at hl 1 rfl) ?_
            refine va_get (D := (dC, dI)) (ci := 4) (v := .ref (p1a 3)) (C := RX1) (T := TX1) (N := 21) hx hb hts i_X1 hown hK hP 10 rfl rfl 2 (by decide) (hts _ qw435) (fun _ h9 => h9) rfl dX5_joinBlock_108 ?_
            refine va_get (D := (dC, dI)) (ci := 3) (v := .ref (p1_2a 6)) (C := RX9) (T := TX9) (N := 6) hx hb hts i_X9 hown hK hP 28 rfl rfl 5 (by decide) (hts _ qw437) (fun _ h9 => h9) rfl dX5_joinBlock_111 ?_
            refine lv_iload_n hx hb dX5_joinBlock_114 rfl (lv_at hl 3 rfl) ?_
            obtain ⟨hq11, hrun⟩ := chk9 hrun
            refine va_iald hx hb hK hP 33 30 rfl rfl (ixb_in hq11) dX5_joinBlock_115 ?_
            refine lv_istore_n (lv' := [(3, .int (p1_2w_71 6 (nn v3_35))), (0, .ref (p0a 0)), (1, .ref (p1a 0)), (2, .int p2)]) hx hb dX5_joinBlock_116 rfl hl (by decide) rfl (fun ls hl => ?_)
            refine lv_goto (tgt := 35) hx hb dX5_joinBlock_117 (by decide) ?_
            exact IH35 (p1_2w_71 6 (nn v3_35)) p0w_107 p1_2w_71 o35 _ _ _ hrun hP hD hK hS (lv_sub hl [1, 2, 3, 0] rfl) hk35
          rcases br9 hrun with ⟨hc12, hrun⟩ | ⟨hc12, hrun⟩
          · refine lv_if_lt (tgt := 107) hx hb dX5_joinBlock_73 (by decide) (fun _ => ?_) (fun c => absurd hc12 c)
            exact J107 p0w_71 _ _ _ hrun hP hD hK hS (lv_sub hl [0, 1, 2, 3] rfl)
          · refine lv_if_lt (tgt := 107) hx hb dX5_joinBlock_73 (by decide) (fun c => absurd c hc12) (fun _ => ?_)
            refine lv_aload_n hx hb dX5_joinBlock_76 rfl (lv_at hl 1 rfl) ?_
            refine va_get (D := (dC, dI)) (ci := 4) (v := .ref (p1a 3)) (C := RX1) (T := TX1) (N := 21) hx hb hts i_X1 hown hK hP 10 rfl rfl 2 (by decide) (hts _ qw435) (fun _ h9 => h9) rfl dX5_joinBlock_77 ?_
            refine va_get (D := (dC, dI)) (ci := 3) (v := .ref (p1_2a 2)) (C := RX9) (T := TX9) (N := 6) hx hb hts i_X9 hown hK hP 28 rfl rfl 1 (by decide) (hts _ qw420) (fun _ h9 => h9) rfl dX5_joinBlock_80 ?_
            refine lv_iload_n hx hb dX5_joinBlock_83 rfl (lv_at hl 3 rfl) ?_
            obtain ⟨hq13, hrun⟩ := chk9 hrun
            refine va_iald hx hb hK hP 29 26 rfl rfl (ixb_in hq13) dX5_joinBlock_84 ?_
            refine lv_bipush (v := 16) hx hb dX5_joinBlock_85 (by decide) ?_
            rcases br9 hrun with ⟨hc14, hrun⟩ | ⟨hc14, hrun⟩
            · refine lv_icmp_gt (tgt := 107) hx hb dX5_joinBlock_87 (by decide) (fun _ => ?_) (fun c => absurd hc14 c)
              exact J107 p0w_71 _ _ _ hrun hP hD hK hS (lv_sub hl [0, 1, 2, 3] rfl)
            · refine lv_icmp_gt (tgt := 107) hx hb dX5_joinBlock_87 (by decide) (fun c => absurd c hc14) (fun _ => ?_)
              refine lv_aload_n hx hb dX5_joinBlock_90 rfl (lv_at hl 0 rfl) ?_
              refine va_get (D := (dC, dI)) (ci := 7) (v := .ref (p0a 6)) (C := RX5) (T := TX5) (N := 12) hx hb hts i_X5 hown hK hP 0 rfl rfl 5 (by decide) (hts _ qw539) (fun _ h9 => h9) rfl dX5_joinBlock_91 ?_
              refine lv_iload hx hb dX5_joinBlock_94 (lv_at hl 4 rfl) ?_
              obtain ⟨hq15, hrun⟩ := chk9 hrun
              refine va_iald hx hb hK hP 5 4 rfl rfl (ixb_in hq15) dX5_joinBlock_96 ?_
              rcases br9 hrun with ⟨hc16, hrun⟩ | ⟨hc16, hrun⟩
              · refine lv_if_ge (tgt := 107) hx hb dX5_joinBlock_97 (by decide) (fun _ => ?_) (fun c => absurd hc16 c)
                exact J107 p0w_71 _ _ _ hrun hP hD hK hS (lv_sub hl [0, 1, 2, 3] rfl)
              · refine lv_if_ge (tgt := 107) hx hb dX5_joinBlock_97 (by decide) (fun c => absurd c hc16) (fun _ => ?_)
                refine lv_aload_n hx hb dX5_joinBlock_100 rfl (lv_at hl 0 rfl) ?_
                refine lv_aload_n hx hb dX5_joinBlock_101 rfl (lv_at hl 1 rfl) ?_
                refine lv_iload_n hx hb dX5_joinBlock_102 rfl (lv_at hl 2 rfl) ?_
                refine lv_iload_n hx hb dX5_joinBlock_103 rfl (lv_at hl 3 rfl) ?_
                obtain ⟨o_17, hc_17, hrun⟩ := bnd9 hrun
                have hPc := hP.sub (ws' := ((oX5 (p0a 0) p0a p0k p0w_71 p0l) ++ (oX1 (p1a 0) p1a p1k p1n p1w p1l) ++ (oX9 (p1a 3) p1_2a p1_2k p1_2n p1_2w_71))) [0, 1, 2, 3, 4, 5, 6, 7, 8, 9, 10, 11, 12, 13, 14, 15, 16, 17, 18, 19, 20, 21, 22, 23, 24, 25, 26, 27, 28, 29, 30, 31, 32, 33] rfl
                have hDc := hD.sub (ws' := ((oX5 (p0a 0) p0a p0k p0w_71 p0l) ++ (oX1 (p1a 0) p1a p1k p1n p1w p1l) ++ (oX9 (p1a 3) p1_2a p1_2k p1_2n p1_2w_71))) [0, 1, 2, 3, 4, 5, 6, 7, 8, 9, 10, 11, 12, 13, 14, 15, 16, 17, 18, 19, 20, 21, 22, 23, 24, 25, 26, 27, 28, 29, 30, 31, 32, 33] (by decide) rfl
                have hKc := hK.sub (tys' := ((tX5 p0k) ++ (tX1 p1k) ++ (tX9 p1_2k))) [0, 1, 2, 3, 4, 5, 6, 7, 8, 9, 10, 11, 12, 13, 14, 15, 16, 17, 18, 19, 20, 21, 22, 23, 24, 25, 26, 27, 28, 29, 30] rfl
                have hFc := va_free (wc := ((oX5 (p0a 0) p0a p0k p0w_71 p0l) ++ (oX1 (p1a 0) p1a p1k p1n p1w p1l) ++ (oX9 (p1a 3) p1_2a p1_2k p1_2n p1_2w_71))) hD hS hA [0, 1, 2, 3, 4, 5, 6, 7, 8, 9, 10, 11, 12, 13, 14, 15, 16, 17, 18, 19, 20, 21, 22, 23, 24, 25, 26, 27, 28, 29, 30, 31, 32, 33] rfl
                refine va_callv (va_runV (As := [.ref (p1a 0), .int p2, .int v3_35]) (rest := []) ⟨hx, hb, hml, hown, hts⟩ (kX5_joinSeen l dC dI (p0a := (st0 (p0a 0) p0a)) (p0k := p0k) (p0w := p0w_71) (p0l := p0l) (p1a := (st0 (p1a 0) p1a)) (p1k := p1k) (p1n := p1n) (p1w := p1w) (p1l := p1l) (p2 := p2) (p3 := v3_35) (p1_2a := p1_2a) (p1_2k := p1_2k) (p1_2n := p1_2n) (p1_2w := p1_2w_71) (sz := _) (o := o_17) (hrun := hc_17)) (cwV 3 hts (gi_V qw561 qw562 qw563 qw442 (gi_z qw560)) rfl rfl rfl (by decide +kernel) ⟨Nat.le_of_ble_eq_true rfl, Nat.le_of_ble_eq_true rfl⟩) ⟨PRE.blind, va_recv hKc hPc (ci := 7) (q0 := 0) rfl rfl, PRE.of hE hS hFc hPc hKc hDc⟩ rfl rfl hl.1 rfl (lv_room (Nat.le_of_ble_eq_true rfl)) dX5_joinBlock_104 ⟨(Nat.le_of_ble_eq_true rfl), (Nat.le_of_ble_eq_true rfl)⟩) hS (fun q _ h => hFc q h) hFc (fun u t H locs ht hvm hw hB hz1 hk1 hS => ?_)
                obtain ⟨hP, hD, hK⟩ := JOIN (wr := ([] : va_W)) hP hD hK [0, 1, 2, 3, 4, 5, 6, 7, 8, 9, 10, 11, 12, 13, 14, 15, 16, 17, 18, 19, 20, 21, 22, 23, 24, 25, 26, 27, 28, 29, 30, 31, 32, 33] [] [] rfl rfl (by decide) (by decide) rfl hk1 hFc ht hvm hB
                have hP : va_P (dC, dI) cls ((oX5 (p0a 0) p0a p0k o_17 p0l) ++ (oX1 (p1a 0) p1a p1k p1n p1w p1l) ++ (oX9 (p1a 3) p1_2a p1_2k p1_2n p1_2w_71)) H := hP.sub [0, 1, 2, 3, 4, 5, 6, 7, 8, 9, 10, 11, 12, 13, 14, 15, 16, 17, 18, 19, 20, 21, 22, 23, 24, 25, 26, 27, 28, 29, 30, 31, 32, 33] rfl
                have hD : va_D A ((oX5 (p0a 0) p0a p0k o_17 p0l) ++ (oX1 (p1a 0) p1a p1k p1n p1w p1l) ++ (oX9 (p1a 3) p1_2a p1_2k p1_2n p1_2w_71)) := hD.sub [0, 1, 2, 3, 4, 5, 6, 7, 8, 9, 10, 11, 12, 13, 14, 15, 16, 17, 18, 19, 20, 21, 22, 23, 24, 25, 26, 27, 28, 29, 30, 31, 32, 33] (by decide) rfl
                have hK : va_K (dC, dI) cls ((tX5 p0k) ++ (tX1 p1k) ++ (tX9 p1_2k)) s := hK.sub [0, 1, 2, 3, 4, 5, 6, 7, 8, 9, 10, 11, 12, 13, 14, 15, 16, 17, 18, 19, 20, 21, 22, 23, 24, 25, 26, 27, 28, 29, 30] rfl
                exact J107 o_17 _ _ _ hrun hP hD hK hS (lv_sub hl [0, 1, 2, 3] rfl)
        rcases br9 hrun with ⟨hc18, hrun⟩ | ⟨hc18, hrun⟩
        · refine lv_if_eq (tgt := 71) hx hb dX5_joinBlock_62 (by decide) (fun _ => ?_) (fun c => absurd hc18 c)
          exact J71 p0w_35 p1_2w_35 _ _ _ hrun hP hD hK hS (lv_sub hl [1, 2, 3, 4, 0] rfl)
        · refine lv_if_eq (tgt := 71) hx hb dX5_joinBlock_62 (by decide) (fun c => absurd c hc18) (fun _ => ?_)
          refine lv_aload_n hx hb dX5_joinBlock_65 rfl (lv_at hl 1 rfl) ?_
          refine lv_aload_n hx hb dX5_joinBlock_66 rfl (lv_at hl 2 rfl) ?_
          refine lv_iload_n hx hb dX5_joinBlock_67 rfl (lv_at hl 4 rfl) ?_
          obtain ⟨o_19, hc_19, hrun⟩ := bnd9 hrun
          have hPc := hP.sub (ws' := ((oX5 (p0a 0) p0a p0k p0w_35 p0l) ++ (oX1 (p1a 0) p1a p1k p1n p1w p1l) ++ (oX9 (p1a 3) p1_2a p1_2k p1_2n p1_2w_35))) [0, 1, 2, 3, 4, 5, 6, 7, 8, 9, 10, 11, 12, 13, 14, 15, 16, 17, 18, 19, 20, 21, 22, 23, 24, 25, 26, 27, 28, 29, 30, 31, 32, 33] rfl
          have hDc := hD.sub (ws' := ((oX5 (p0a 0) p0a p0k p0w_35 p0l) ++ (oX1 (p1a 0) p1a p1k p1n p1w p1l) ++ (oX9 (p1a 3) p1_2a p1_2k p1_2n p1_2w_35))) [0, 1, 2, 3, 4, 5, 6, 7, 8, 9, 10, 11, 12, 13, 14, 15, 16, 17, 18, 19, 20, 21, 22, 23, 24, 25, 26, 27, 28, 29, 30, 31, 32, 33] (by decide) rfl
          have hKc := hK.sub (tys' := ((tX5 p0k) ++ (tX1 p1k) ++ (tX9 p1_2k))) [0, 1, 2, 3, 4, 5, 6, 7, 8, 9, 10, 11, 12, 13, 14, 15, 16, 17, 18, 19, 20, 21, 22, 23, 24, 25, 26, 27, 28, 29, 30] rfl
          have hFc := va_free (wc := ((oX5 (p0a 0) p0a p0k p0w_35 p0l) ++ (oX1 (p1a 0) p1a p1k p1n p1w p1l) ++ (oX9 (p1a 3) p1_2a p1_2k p1_2n p1_2w_35))) hD hS hA [0, 1, 2, 3, 4, 5, 6, 7, 8, 9, 10, 11, 12, 13, 14, 15, 16, 17, 18, 19, 20, 21, 22, 23, 24, 25, 26, 27, 28, 29, 30, 31, 32, 33] rfl
          refine va_callv (va_runV (As := [.ref (p1a 0), .int v3_35]) (rest := []) ⟨hx, hb, hml, hown, hts⟩ (kX5_joinOperator l dC dI (p0a := (st0 (p0a 0) p0a)) (p0k := p0k) (p0w := p0w_35) (p0l := p0l) (p1a := (st0 (p1a 0) p1a)) (p1k := p1k) (p1n := p1n) (p1w := p1w) (p1l := p1l) (p2 := v3_35) (p1_2a := p1_2a) (p1_2k := p1_2k) (p1_2n := p1_2n) (p1_2w := p1_2w_35) (sz := _) (o := o_19) (hrun := hc_19)) (cwV 2 hts (gi_V qw580 qw581 qw582 qw442 (gi_z qw579)) rfl rfl rfl (by decide +kernel) ⟨Nat.le_of_ble_eq_true rfl, Nat.le_of_ble_eq_true rfl⟩) ⟨PRE.blind, va_recv hKc hPc (ci := 7) (q0 := 0) rfl rfl, PRE.of hE hS hFc hPc hKc hDc⟩ rfl rfl hl.1 rfl (lv_room (Nat.le_of_ble_eq_true rfl)) dX5_joinBlock_68 ⟨(Nat.le_of_ble_eq_true rfl), (Nat.le_of_ble_eq_true rfl)⟩) hS (fun q _ h => hFc q h) hFc (fun u t H locs ht hvm hw hB hz1 hk1 hS => ?_)
          obtain ⟨hP, hD, hK⟩ := JOIN (wr := ([] : va_W)) hP hD hK [0, 1, 2, 3, 4, 5, 6, 7, 8, 9, 10, 11, 12, 13, 14, 15, 16, 17, 18, 19, 20, 21, 22, 23, 24, 25, 26, 27, 28, 29, 30, 31, 32, 33] [] [] rfl rfl (by decide) (by decide) rfl hk1 hFc ht hvm hB
          have hP : va_P (dC, dI) cls ((oX5 (p0a 0) p0a p0k (o_19.1) p0l) ++ (oX1 (p1a 0) p1a p1k p1n p1w p1l) ++ (oX9 (p1a 3) p1_2a p1_2k p1_2n (o_19.2))) H := hP.sub [0, 1, 2, 3, 4, 5, 6, 7, 8, 9, 10, 11, 12, 13, 14, 15, 16, 17, 18, 19, 20, 21, 22, 23, 24, 25, 26, 27, 28, 29, 30, 31, 32, 33] rfl
          have hD : va_D A ((oX5 (p0a 0) p0a p0k (o_19.1) p0l) ++ (oX1 (p1a 0) p1a p1k p1n p1w p1l) ++ (oX9 (p1a 3) p1_2a p1_2k p1_2n (o_19.2))) := hD.sub [0, 1, 2, 3, 4, 5, 6, 7, 8, 9, 10, 11, 12, 13, 14, 15, 16, 17, 18, 19, 20, 21, 22, 23, 24, 25, 26, 27, 28, 29, 30, 31, 32, 33] (by decide) rfl
          have hK : va_K (dC, dI) cls ((tX5 p0k) ++ (tX1 p1k) ++ (tX9 p1_2k)) s := hK.sub [0, 1, 2, 3, 4, 5, 6, 7, 8, 9, 10, 11, 12, 13, 14, 15, 16, 17, 18, 19, 20, 21, 22, 23, 24, 25, 26, 27, 28, 29, 30] rfl
          exact J71 (o_19.1) (o_19.2) _ _ _ hrun hP hD hK hS (lv_sub hl [1, 2, 3, 4, 0] rfl)
  obtain ⟨o35, hc35, hrun⟩ := bnd9 hrun
  refine L35 NF (p1w 4 (nn p2)) o7 p1_2w o35 _ _ _ hc35 hP hD hK hS (lv_sub hl [1, 2, 3, 0] rfl) ?_
  intro H locs ls hP hD hK hS hl
  have hl := hl
  have ho9 : ((o35.1), (o35.2)) = o := Option.some.inj hrun
  have hP9 : va_P (dC, dI) cls ((oX5 (p0a 0) p0a p0k (o.1) p0l) ++ (oX1 (p1a 0) p1a p1k p1n p1w p1l) ++ (oX9 (p1a 3) p1_2a p1_2k p1_2n (o.2))) H := by first | exact hP | (rw [← ho9]; exact hP)
  have hD9 : va_D A ((oX5 (p0a 0) p0a p0k (o.1) p0l) ++ (oX1 (p1a 0) p1a p1k p1n p1w p1l) ++ (oX9 (p1a 3) p1_2a p1_2k p1_2n (o.2))) := by first | exact hD | (rw [← ho9]; exact hD)
  subst hQ
  exact W.vret hx hb hr (fun t ht hW => ⟨⟨(), rfl, trivial, ⟨by rw [ht]; exact hP9, va_K.moved hW.alike hK, hD9⟩⟩, hS.F ht⟩) hS.2.2 dX5_joinBlock_120
