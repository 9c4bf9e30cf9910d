abbrev cX4_addPiece : ByteArray := prog_6_method_5_code
def yX4_addPiece : MethodName := ⟨RX4, "addPiece", "(IIII)V"⟩
abbrev cX4_blockOfPiece : ByteArray := prog_6_method_13_code
def yX4_blockOfPiece : MethodName := ⟨RX4, "blockOfPiece", "(I)I"⟩
abbrev cX4_valueAt : ByteArray := prog_6_method_9_code
def yX4_valueAt : MethodName := ⟨RX4, "valueAt", "(I)I"⟩
abbrev cX4_isIn : ByteArray := prog_6_method_20_code
def yX4_isIn : MethodName := ⟨RX4, "isIn", "(JI)Z"⟩
abbrev cX4_waitingAt : ByteArray := prog_6_method_8_code
def yX4_waitingAt : MethodName := ⟨RX4, "waitingAt", "(I)I"⟩
abbrev cX4_opsFrom : ByteArray := prog_6_method_15_code
def yX4_opsFrom : MethodName := ⟨RX4, "opsFrom", "(I)I"⟩
abbrev cX4_opsTo : ByteArray := prog_6_method_16_code
def yX4_opsTo : MethodName := ⟨RX4, "opsTo", "(I)I"⟩
abbrev cX4_reachOne : ByteArray := prog_6_method_12_code
def yX4_reachOne : MethodName := ⟨RX4, "reachOne", "(II)I"⟩
abbrev cX4_splitWay : ByteArray := prog_6_method_14_code
def yX4_splitWay : MethodName := ⟨RX4, "splitWay", "(LGearbox$Flow;I[I)Z"⟩
abbrev cX4_takesOne : ByteArray := prog_6_method_7_code
def yX4_takesOne : MethodName := ⟨RX4, "takesOne", "(I)Z"⟩
theorem dX4_addPiece_0 : decode cX4_addPiece 0 = .ok (.aload_n 0, 1) := by decide +kernel
theorem dX4_addPiece_1 : decode cX4_addPiece 1 = .ok (.getfield 130, 3) := by decide +kernel
theorem dX4_addPiece_4 : decode cX4_addPiece 4 = .ok (.sipush 640, 3) := by decide +kernel
theorem dX4_addPiece_7 : decode cX4_addPiece 7 = .ok (.if_icmp .ge 54, 3) := by decide +kernel
theorem dX4_addPiece_10 : decode cX4_addPiece 10 = .ok (.aload_n 0, 1) := by decide +kernel
theorem dX4_addPiece_11 : decode cX4_addPiece 11 = .ok (.getfield 24, 3) := by decide +kernel
theorem dX4_addPiece_14 : decode cX4_addPiece 14 = .ok (.aload_n 0, 1) := by decide +kernel
theorem dX4_addPiece_15 : decode cX4_addPiece 15 = .ok (.getfield 130, 3) := by decide +kernel
theorem dX4_addPiece_18 : decode cX4_addPiece 18 = .ok (.iload_n 1, 1) := by decide +kernel
theorem dX4_addPiece_19 : decode cX4_addPiece 19 = .ok (.iastore, 1) := by decide +kernel
theorem dX4_addPiece_20 : decode cX4_addPiece 20 = .ok (.aload_n 0, 1) := by decide +kernel
theorem dX4_addPiece_21 : decode cX4_addPiece 21 = .ok (.getfield 27, 3) := by decide +kernel
theorem dX4_addPiece_24 : decode cX4_addPiece 24 = .ok (.aload_n 0, 1) := by decide +kernel
theorem dX4_addPiece_25 : decode cX4_addPiece 25 = .ok (.getfield 130, 3) := by decide +kernel
theorem dX4_addPiece_28 : decode cX4_addPiece 28 = .ok (.iload_n 2, 1) := by decide +kernel
theorem dX4_addPiece_29 : decode cX4_addPiece 29 = .ok (.iastore, 1) := by decide +kernel
theorem dX4_addPiece_30 : decode cX4_addPiece 30 = .ok (.aload_n 0, 1) := by decide +kernel
theorem dX4_addPiece_31 : decode cX4_addPiece 31 = .ok (.getfield 30, 3) := by decide +kernel
theorem dX4_addPiece_34 : decode cX4_addPiece 34 = .ok (.aload_n 0, 1) := by decide +kernel
theorem dX4_addPiece_35 : decode cX4_addPiece 35 = .ok (.getfield 130, 3) := by decide +kernel
theorem dX4_addPiece_38 : decode cX4_addPiece 38 = .ok (.iload_n 3, 1) := by decide +kernel
theorem dX4_addPiece_39 : decode cX4_addPiece 39 = .ok (.iastore, 1) := by decide +kernel
theorem dX4_addPiece_40 : decode cX4_addPiece 40 = .ok (.aload_n 0, 1) := by decide +kernel
theorem dX4_addPiece_41 : decode cX4_addPiece 41 = .ok (.getfield 33, 3) := by decide +kernel
theorem dX4_addPiece_44 : decode cX4_addPiece 44 = .ok (.aload_n 0, 1) := by decide +kernel
theorem dX4_addPiece_45 : decode cX4_addPiece 45 = .ok (.getfield 130, 3) := by decide +kernel
theorem dX4_addPiece_48 : decode cX4_addPiece 48 = .ok (.iload 4, 2) := by decide +kernel
theorem dX4_addPiece_50 : decode cX4_addPiece 50 = .ok (.iastore, 1) := by decide +kernel
theorem dX4_addPiece_51 : decode cX4_addPiece 51 = .ok (.aload_n 0, 1) := by decide +kernel
theorem dX4_addPiece_52 : decode cX4_addPiece 52 = .ok (.dup, 1) := by decide +kernel
theorem dX4_addPiece_53 : decode cX4_addPiece 53 = .ok (.getfield 130, 3) := by decide +kernel
theorem dX4_addPiece_56 : decode cX4_addPiece 56 = .ok (.iconst 1, 1) := by decide +kernel
theorem dX4_addPiece_57 : decode cX4_addPiece 57 = .ok (.iadd, 1) := by decide +kernel
theorem dX4_addPiece_58 : decode cX4_addPiece 58 = .ok (.putfield 130, 3) := by decide +kernel
theorem dX4_addPiece_61 : decode cX4_addPiece 61 = .ok (.return_, 1) := by decide +kernel
theorem dX4_blockOfPiece_0 : decode cX4_blockOfPiece 0 = .ok (.iload_n 1, 1) := by decide +kernel
theorem dX4_blockOfPiece_1 : decode cX4_blockOfPiece 1 = .ok (.ifCond .lt 11, 3) := by decide +kernel
theorem dX4_blockOfPiece_4 : decode cX4_blockOfPiece 4 = .ok (.iload_n 1, 1) := by decide +kernel
theorem dX4_blockOfPiece_5 : decode cX4_blockOfPiece 5 = .ok (.aload_n 0, 1) := by decide +kernel
theorem dX4_blockOfPiece_6 : decode cX4_blockOfPiece 6 = .ok (.getfield 130, 3) := by decide +kernel
theorem dX4_blockOfPiece_9 : decode cX4_blockOfPiece 9 = .ok (.if_icmp .lt 7, 3) := by decide +kernel
theorem dX4_blockOfPiece_12 : decode cX4_blockOfPiece 12 = .ok (.iconst (-1), 1) := by decide +kernel
theorem dX4_blockOfPiece_13 : decode cX4_blockOfPiece 13 = .ok (.goto 9, 3) := by decide +kernel
theorem dX4_blockOfPiece_16 : decode cX4_blockOfPiece 16 = .ok (.aload_n 0, 1) := by decide +kernel
theorem dX4_blockOfPiece_17 : decode cX4_blockOfPiece 17 = .ok (.getfield 39, 3) := by decide +kernel
theorem dX4_blockOfPiece_20 : decode cX4_blockOfPiece 20 = .ok (.iload_n 1, 1) := by decide +kernel
theorem dX4_blockOfPiece_21 : decode cX4_blockOfPiece 21 = .ok (.iaload, 1) := by decide +kernel
theorem dX4_blockOfPiece_22 : decode cX4_blockOfPiece 22 = .ok (.ireturn, 1) := by decide +kernel
theorem dX4_isIn_0 : decode cX4_isIn 0 = .ok (.iload_n 2, 1) := by decide +kernel
theorem dX4_isIn_1 : decode cX4_isIn 1 = .ok (.ifCond .lt 15, 3) := by decide +kernel
theorem dX4_isIn_4 : decode cX4_isIn 4 = .ok (.lload_n 0, 1) := by decide +kernel
theorem dX4_isIn_5 : decode cX4_isIn 5 = .ok (.iload_n 2, 1) := by decide +kernel
theorem dX4_isIn_6 : decode cX4_isIn 6 = .ok (.invokestatic 214, 3) := by decide +kernel
theorem dX4_isIn_9 : decode cX4_isIn 9 = .ok (.ifCond .eq 7, 3) := by decide +kernel
theorem dX4_isIn_12 : decode cX4_isIn 12 = .ok (.iconst 1, 1) := by decide +kernel
theorem dX4_isIn_13 : decode cX4_isIn 13 = .ok (.goto 4, 3) := by decide +kernel
theorem dX4_isIn_16 : decode cX4_isIn 16 = .ok (.iconst 0, 1) := by decide +kernel
theorem dX4_isIn_17 : decode cX4_isIn 17 = .ok (.ireturn, 1) := by decide +kernel
theorem dX4_opsFrom_0 : decode cX4_opsFrom 0 = .ok (.aload_n 0, 1) := by decide +kernel
theorem dX4_opsFrom_1 : decode cX4_opsFrom 1 = .ok (.getfield 48, 3) := by decide +kernel
theorem dX4_opsFrom_4 : decode cX4_opsFrom 4 = .ok (.iload_n 1, 1) := by decide +kernel
theorem dX4_opsFrom_5 : decode cX4_opsFrom 5 = .ok (.iaload, 1) := by decide +kernel
theorem dX4_opsFrom_6 : decode cX4_opsFrom 6 = .ok (.ifCond .ge 7, 3) := by decide +kernel
theorem dX4_opsFrom_9 : decode cX4_opsFrom 9 = .ok (.iconst 0, 1) := by decide +kernel
theorem dX4_opsFrom_10 : decode cX4_opsFrom 10 = .ok (.goto 14, 3) := by decide +kernel
theorem dX4_opsFrom_13 : decode cX4_opsFrom 13 = .ok (.aload_n 0, 1) := by decide +kernel
theorem dX4_opsFrom_14 : decode cX4_opsFrom 14 = .ok (.getfield 24, 3) := by decide +kernel
theorem dX4_opsFrom_17 : decode cX4_opsFrom 17 = .ok (.aload_n 0, 1) := by decide +kernel
theorem dX4_opsFrom_18 : decode cX4_opsFrom 18 = .ok (.getfield 48, 3) := by decide +kernel
theorem dX4_opsFrom_21 : decode cX4_opsFrom 21 = .ok (.iload_n 1, 1) := by decide +kernel
theorem dX4_opsFrom_22 : decode cX4_opsFrom 22 = .ok (.iaload, 1) := by decide +kernel
theorem dX4_opsFrom_23 : decode cX4_opsFrom 23 = .ok (.iaload, 1) := by decide +kernel
theorem dX4_opsFrom_24 : decode cX4_opsFrom 24 = .ok (.ireturn, 1) := by decide +kernel
theorem dX4_opsTo_0 : decode cX4_opsTo 0 = .ok (.aload_n 0, 1) := by decide +kernel
theorem dX4_opsTo_1 : decode cX4_opsTo 1 = .ok (.getfield 48, 3) := by decide +kernel
theorem dX4_opsTo_4 : decode cX4_opsTo 4 = .ok (.iload_n 1, 1) := by decide +kernel
theorem dX4_opsTo_5 : decode cX4_opsTo 5 = .ok (.iaload, 1) := by decide +kernel
theorem dX4_opsTo_6 : decode cX4_opsTo 6 = .ok (.ifCond .ge 7, 3) := by decide +kernel
theorem dX4_opsTo_9 : decode cX4_opsTo 9 = .ok (.iconst 0, 1) := by decide +kernel
theorem dX4_opsTo_10 : decode cX4_opsTo 10 = .ok (.goto 14, 3) := by decide +kernel
theorem dX4_opsTo_13 : decode cX4_opsTo 13 = .ok (.aload_n 0, 1) := by decide +kernel
theorem dX4_opsTo_14 : decode cX4_opsTo 14 = .ok (.getfield 27, 3) := by decide +kernel
theorem dX4_opsTo_17 : decode cX4_opsTo 17 = .ok (.aload_n 0, 1) := by decide +kernel
theorem dX4_opsTo_18 : decode cX4_opsTo 18 = .ok (.getfield 48, 3) := by decide +kernel
theorem dX4_opsTo_21 : decode cX4_opsTo 21 = .ok (.iload_n 1, 1) := by decide +kernel
theorem dX4_opsTo_22 : decode cX4_opsTo 22 = .ok (.iaload, 1) := by decide +kernel
theorem dX4_opsTo_23 : decode cX4_opsTo 23 = .ok (.iaload, 1) := by decide +kernel
theorem dX4_opsTo_24 : decode cX4_opsTo 24 = .ok (.ireturn, 1) := by decide +kernel
theorem dX4_reachOne_0 : decode cX4_reachOne 0 = .ok (.iload_n 1, 1) := by decide +kernel
theorem dX4_reachOne_1 : decode cX4_reachOne 1 = .ok (.ifCond .lt 11, 3) := by decide +kernel
theorem dX4_reachOne_4 : decode cX4_reachOne 4 = .ok (.iload_n 1, 1) := by decide +kernel
theorem dX4_reachOne_5 : decode cX4_reachOne 5 = .ok (.aload_n 0, 1) := by decide +kernel
theorem dX4_reachOne_6 : decode cX4_reachOne 6 = .ok (.getfield 130, 3) := by decide +kernel
theorem dX4_reachOne_9 : decode cX4_reachOne 9 = .ok (.if_icmp .lt 5, 3) := by decide +kernel
theorem dX4_reachOne_12 : decode cX4_reachOne 12 = .ok (.iload_n 2, 1) := by decide +kernel
theorem dX4_reachOne_13 : decode cX4_reachOne 13 = .ok (.ireturn, 1) := by decide +kernel
theorem dX4_reachOne_14 : decode cX4_reachOne 14 = .ok (.aload_n 0, 1) := by decide +kernel
theorem dX4_reachOne_15 : decode cX4_reachOne 15 = .ok (.getfield 36, 3) := by decide +kernel
theorem dX4_reachOne_18 : decode cX4_reachOne 18 = .ok (.iload_n 1, 1) := by decide +kernel
theorem dX4_reachOne_19 : decode cX4_reachOne 19 = .ok (.dup2, 1) := by decide +kernel
theorem dX4_reachOne_20 : decode cX4_reachOne 20 = .ok (.iaload, 1) := by decide +kernel
theorem dX4_reachOne_21 : decode cX4_reachOne 21 = .ok (.iconst 1, 1) := by decide +kernel
theorem dX4_reachOne_22 : decode cX4_reachOne 22 = .ok (.iadd, 1) := by decide +kernel
theorem dX4_reachOne_23 : decode cX4_reachOne 23 = .ok (.iastore, 1) := by decide +kernel
theorem dX4_reachOne_24 : decode cX4_reachOne 24 = .ok (.aload_n 0, 1) := by decide +kernel
theorem dX4_reachOne_25 : decode cX4_reachOne 25 = .ok (.getfield 39, 3) := by decide +kernel
theorem dX4_reachOne_28 : decode cX4_reachOne 28 = .ok (.iload_n 1, 1) := by decide +kernel
theorem dX4_reachOne_29 : decode cX4_reachOne 29 = .ok (.iaload, 1) := by decide +kernel
theorem dX4_reachOne_30 : decode cX4_reachOne 30 = .ok (.ifCond .lt 5, 3) := by decide +kernel
theorem dX4_reachOne_33 : decode cX4_reachOne 33 = .ok (.iload_n 2, 1) := by decide +kernel
theorem dX4_reachOne_34 : decode cX4_reachOne 34 = .ok (.ireturn, 1) := by decide +kernel
theorem dX4_reachOne_35 : decode cX4_reachOne 35 = .ok (.aload_n 0, 1) := by decide +kernel
theorem dX4_reachOne_36 : decode cX4_reachOne 36 = .ok (.getfield 39, 3) := by decide +kernel
theorem dX4_reachOne_39 : decode cX4_reachOne 39 = .ok (.iload_n 1, 1) := by decide +kernel
theorem dX4_reachOne_40 : decode cX4_reachOne 40 = .ok (.iload_n 2, 1) := by decide +kernel
theorem dX4_reachOne_41 : decode cX4_reachOne 41 = .ok (.iastore, 1) := by decide +kernel
theorem dX4_reachOne_42 : decode cX4_reachOne 42 = .ok (.aload_n 0, 1) := by decide +kernel
theorem dX4_reachOne_43 : decode cX4_reachOne 43 = .ok (.getfield 45, 3) := by decide +kernel
theorem dX4_reachOne_46 : decode cX4_reachOne 46 = .ok (.iload_n 2, 1) := by decide +kernel
theorem dX4_reachOne_47 : decode cX4_reachOne 47 = .ok (.iload_n 1, 1) := by decide +kernel
theorem dX4_reachOne_48 : decode cX4_reachOne 48 = .ok (.iastore, 1) := by decide +kernel
theorem dX4_reachOne_49 : decode cX4_reachOne 49 = .ok (.iload_n 2, 1) := by decide +kernel
theorem dX4_reachOne_50 : decode cX4_reachOne 50 = .ok (.iconst 1, 1) := by decide +kernel
theorem dX4_reachOne_51 : decode cX4_reachOne 51 = .ok (.iadd, 1) := by decide +kernel
theorem dX4_reachOne_52 : decode cX4_reachOne 52 = .ok (.ireturn, 1) := by decide +kernel
theorem dX4_splitWay_0 : decode cX4_splitWay 0 = .ok (.aload_n 3, 1) := by decide +kernel
theorem dX4_splitWay_1 : decode cX4_splitWay 1 = .ok (.iload_n 2, 1) := by decide +kernel
theorem dX4_splitWay_2 : decode cX4_splitWay 2 = .ok (.iaload, 1) := by decide +kernel
theorem dX4_splitWay_3 : decode cX4_splitWay 3 = .ok (.istore 4, 2) := by decide +kernel
theorem dX4_splitWay_5 : decode cX4_splitWay 5 = .ok (.iload 4, 2) := by decide +kernel
theorem dX4_splitWay_7 : decode cX4_splitWay 7 = .ok (.ifCond .lt 19, 3) := by decide +kernel
theorem dX4_splitWay_10 : decode cX4_splitWay 10 = .ok (.aload_n 0, 1) := by decide +kernel
theorem dX4_splitWay_11 : decode cX4_splitWay 11 = .ok (.getfield 36, 3) := by decide +kernel
theorem dX4_splitWay_14 : decode cX4_splitWay 14 = .ok (.aload_n 0, 1) := by decide +kernel
theorem dX4_splitWay_15 : decode cX4_splitWay 15 = .ok (.getfield 48, 3) := by decide +kernel
theorem dX4_splitWay_18 : decode cX4_splitWay 18 = .ok (.iload 4, 2) := by decide +kernel
theorem dX4_splitWay_20 : decode cX4_splitWay 20 = .ok (.iaload, 1) := by decide +kernel
theorem dX4_splitWay_21 : decode cX4_splitWay 21 = .ok (.iaload, 1) := by decide +kernel
theorem dX4_splitWay_22 : decode cX4_splitWay 22 = .ok (.iconst 2, 1) := by decide +kernel
theorem dX4_splitWay_23 : decode cX4_splitWay 23 = .ok (.if_icmp .ge 5, 3) := by decide +kernel
theorem dX4_splitWay_26 : decode cX4_splitWay 26 = .ok (.iconst 1, 1) := by decide +kernel
theorem dX4_splitWay_27 : decode cX4_splitWay 27 = .ok (.ireturn, 1) := by decide +kernel
theorem dX4_splitWay_28 : decode cX4_splitWay 28 = .ok (.aload_n 1, 1) := by decide +kernel
theorem dX4_splitWay_29 : decode cX4_splitWay 29 = .ok (.getfield 87, 3) := by decide +kernel
theorem dX4_splitWay_32 : decode cX4_splitWay 32 = .ok (.bipush 60, 2) := by decide +kernel
theorem dX4_splitWay_34 : decode cX4_splitWay 34 = .ok (.if_icmp .lt 5, 3) := by decide +kernel
theorem dX4_splitWay_37 : decode cX4_splitWay 37 = .ok (.iconst 0, 1) := by decide +kernel
theorem dX4_splitWay_38 : decode cX4_splitWay 38 = .ok (.ireturn, 1) := by decide +kernel
theorem dX4_splitWay_39 : decode cX4_splitWay 39 = .ok (.aload_n 0, 1) := by decide +kernel
theorem dX4_splitWay_40 : decode cX4_splitWay 40 = .ok (.getfield 48, 3) := by decide +kernel
theorem dX4_splitWay_43 : decode cX4_splitWay 43 = .ok (.aload_n 1, 1) := by decide +kernel
theorem dX4_splitWay_44 : decode cX4_splitWay 44 = .ok (.getfield 87, 3) := by decide +kernel
theorem dX4_splitWay_47 : decode cX4_splitWay 47 = .ok (.iconst (-1), 1) := by decide +kernel
theorem dX4_splitWay_48 : decode cX4_splitWay 48 = .ok (.iastore, 1) := by decide +kernel
theorem dX4_splitWay_49 : decode cX4_splitWay 49 = .ok (.aload_n 3, 1) := by decide +kernel
theorem dX4_splitWay_50 : decode cX4_splitWay 50 = .ok (.iload_n 2, 1) := by decide +kernel
theorem dX4_splitWay_51 : decode cX4_splitWay 51 = .ok (.aload_n 1, 1) := by decide +kernel
theorem dX4_splitWay_52 : decode cX4_splitWay 52 = .ok (.bipush 22, 2) := by decide +kernel
theorem dX4_splitWay_54 : decode cX4_splitWay 54 = .ok (.iconst (-1), 1) := by decide +kernel
theorem dX4_splitWay_55 : decode cX4_splitWay 55 = .ok (.iload 4, 2) := by decide +kernel
theorem dX4_splitWay_57 : decode cX4_splitWay 57 = .ok (.iconst (-1), 1) := by decide +kernel
theorem dX4_splitWay_58 : decode cX4_splitWay 58 = .ok (.invokevirtual 179, 3) := by decide +kernel
theorem dX4_splitWay_61 : decode cX4_splitWay 61 = .ok (.iastore, 1) := by decide +kernel
theorem dX4_splitWay_62 : decode cX4_splitWay 62 = .ok (.iconst 1, 1) := by decide +kernel
theorem dX4_splitWay_63 : decode cX4_splitWay 63 = .ok (.ireturn, 1) := by decide +kernel
theorem dX4_takesOne_0 : decode cX4_takesOne 0 = .ok (.iload_n 0, 1) := by decide +kernel
theorem dX4_takesOne_1 : decode cX4_takesOne 1 = .ok (.bipush 17, 2) := by decide +kernel
theorem dX4_takesOne_3 : decode cX4_takesOne 3 = .ok (.if_icmp .eq 33, 3) := by decide +kernel
theorem dX4_takesOne_6 : decode cX4_takesOne 6 = .ok (.iload_n 0, 1) := by decide +kernel
theorem dX4_takesOne_7 : decode cX4_takesOne 7 = .ok (.bipush 31, 2) := by decide +kernel
theorem dX4_takesOne_9 : decode cX4_takesOne 9 = .ok (.if_icmp .eq 27, 3) := by decide +kernel
theorem dX4_takesOne_12 : decode cX4_takesOne 12 = .ok (.iload_n 0, 1) := by decide +kernel
theorem dX4_takesOne_13 : decode cX4_takesOne 13 = .ok (.bipush 36, 2) := by decide +kernel
theorem dX4_takesOne_15 : decode cX4_takesOne 15 = .ok (.if_icmp .eq 21, 3) := by decide +kernel
theorem dX4_takesOne_18 : decode cX4_takesOne 18 = .ok (.iload_n 0, 1) := by decide +kernel
theorem dX4_takesOne_19 : decode cX4_takesOne 19 = .ok (.bipush 24, 2) := by decide +kernel
theorem dX4_takesOne_21 : decode cX4_takesOne 21 = .ok (.if_icmp .eq 15, 3) := by decide +kernel
theorem dX4_takesOne_24 : decode cX4_takesOne 24 = .ok (.iload_n 0, 1) := by decide +kernel
theorem dX4_takesOne_25 : decode cX4_takesOne 25 = .ok (.bipush 33, 2) := by decide +kernel
theorem dX4_takesOne_27 : decode cX4_takesOne 27 = .ok (.if_icmp .eq 9, 3) := by decide +kernel
theorem dX4_takesOne_30 : decode cX4_takesOne 30 = .ok (.iload_n 0, 1) := by decide +kernel
theorem dX4_takesOne_31 : decode cX4_takesOne 31 = .ok (.bipush 34, 2) := by decide +kernel
theorem dX4_takesOne_33 : decode cX4_takesOne 33 = .ok (.if_icmp .ne 7, 3) := by decide +kernel
theorem dX4_takesOne_36 : decode cX4_takesOne 36 = .ok (.iconst 1, 1) := by decide +kernel
theorem dX4_takesOne_37 : decode cX4_takesOne 37 = .ok (.goto 4, 3) := by decide +kernel
theorem dX4_takesOne_40 : decode cX4_takesOne 40 = .ok (.iconst 0, 1) := by decide +kernel
theorem dX4_takesOne_41 : decode cX4_takesOne 41 = .ok (.ireturn, 1) := by decide +kernel
theorem dX4_valueAt_0 : decode cX4_valueAt 0 = .ok (.iload_n 1, 1) := by decide +kernel
theorem dX4_valueAt_1 : decode cX4_valueAt 1 = .ok (.ifCond .ge 7, 3) := by decide +kernel
theorem dX4_valueAt_4 : decode cX4_valueAt 4 = .ok (.iconst (-1), 1) := by decide +kernel
theorem dX4_valueAt_5 : decode cX4_valueAt 5 = .ok (.goto 9, 3) := by decide +kernel
theorem dX4_valueAt_8 : decode cX4_valueAt 8 = .ok (.aload_n 0, 1) := by decide +kernel
theorem dX4_valueAt_9 : decode cX4_valueAt 9 = .ok (.getfield 18, 3) := by decide +kernel
theorem dX4_valueAt_12 : decode cX4_valueAt 12 = .ok (.iload_n 1, 1) := by decide +kernel
theorem dX4_valueAt_13 : decode cX4_valueAt 13 = .ok (.iaload, 1) := by decide +kernel
theorem dX4_valueAt_14 : decode cX4_valueAt 14 = .ok (.ireturn, 1) := by decide +kernel
theorem dX4_waitingAt_0 : decode cX4_waitingAt 0 = .ok (.iload_n 1, 1) := by decide +kernel
theorem dX4_waitingAt_1 : decode cX4_waitingAt 1 = .ok (.ifCond .lt 10, 3) := by decide +kernel
theorem dX4_waitingAt_4 : decode cX4_waitingAt 4 = .ok (.iload_n 1, 1) := by decide +kernel
theorem dX4_waitingAt_5 : decode cX4_waitingAt 5 = .ok (.sipush 512, 3) := by decide +kernel
theorem dX4_waitingAt_8 : decode cX4_waitingAt 8 = .ok (.if_icmp .lt 7, 3) := by decide +kernel
theorem dX4_waitingAt_11 : decode cX4_waitingAt 11 = .ok (.iconst (-1), 1) := by decide +kernel
theorem dX4_waitingAt_12 : decode cX4_waitingAt 12 = .ok (.goto 9, 3) := by decide +kernel
theorem dX4_waitingAt_15 : decode cX4_waitingAt 15 = .ok (.aload_n 0, 1) := by decide +kernel
theorem dX4_waitingAt_16 : decode cX4_waitingAt 16 = .ok (.getfield 21, 3) := by decide +kernel
theorem dX4_waitingAt_19 : decode cX4_waitingAt 19 = .ok (.iload_n 1, 1) := by decide +kernel
theorem dX4_waitingAt_20 : decode cX4_waitingAt 20 = .ok (.iaload, 1) := by decide +kernel
theorem dX4_waitingAt_21 : decode cX4_waitingAt 21 = .ok (.ireturn, 1) := by decide +kernel
theorem qw142 : Cond.initialized RX1 ∈ gw := mq_1 (i := 19) rfl rfl
theorem qw245 : Cond.code yX11_holds cX11_holds 3 (Option.some Jvm.ClassFile.FieldType.boolean) ∈ gw := mq_6 (i := 52) rfl rfl
theorem qw246 : Cond.static yX11_holds ∈ gw := mq_6 (i := 51) rfl rfl
theorem qw256 : Cond.fieldLink RX4 130 "Gearbox$Maker" "pieces" "I" ∈ gw := mq_2 (i := 148) rfl rfl
theorem qw265 : Cond.fieldLink RX4 87 "Gearbox$Flow" "blocks" "I" ∈ gw := mq_1 (i := 213) rfl rfl
theorem qw292 : Cond.code yX1_addBlock cX1_addBlock 6 (Option.some Jvm.ClassFile.FieldType.int) ∈ gw := mq_5 (i := 238) rfl rfl
theorem qw293 : Cond.methodLink RX4 179 yX1_addBlock ∈ gw := mq_5 (i := 235) rfl rfl
theorem qw294 : Cond.instanceMethod yX1_addBlock ∈ gw := mq_5 (i := 236) rfl rfl
theorem qw295 : Cond.selects RX1 yX1_addBlock yX1_addBlock ∈ gw := mq_5 (i := 237) rfl rfl
def sX4_addPiece_0_5 (pieces : Int32) : Int32 := (if 640 ≤ pieces then pieces else (pieces + 1))
def sX4_addPiece_1 (pieces : Int32) (pieceFromF : Nat → Int32) (p0 : Int32) : Nat → Int32 := (if 640 ≤ pieces then pieceFromF else (upd pieceFromF (Int32.toNatClampNeg pieces) p0))
def sX4_addPiece_2 (pieces : Int32) (pieceToF : Nat → Int32) (p1 : Int32) : Nat → Int32 := (if 640 ≤ pieces then pieceToF else (upd pieceToF (Int32.toNatClampNeg pieces) p1))
def sX4_addPiece_3 (pieces : Int32) (pieceFirstF : Nat → Int32) (p2 : Int32) : Nat → Int32 := (if 640 ≤ pieces then pieceFirstF else (upd pieceFirstF (Int32.toNatClampNeg pieces) p2))
def sX4_addPiece_4 (pieces : Int32) (pieceSecondF : Nat → Int32) (p3 : Int32) : Nat → Int32 := (if 640 ≤ pieces then pieceSecondF else (upd pieceSecondF (Int32.toNatClampNeg pieces) p3))
set_option maxHeartbeats 4000000 in
set_option maxRecDepth 100000 in
theorem kX4_addPiece {zs : Nat × Nat} (l : Launch) (dC : Nat → ClassId) (dI : Nat → Nat → Nat) (h0 : Nat) (leftOpA : Nat) (rightOpA : Nat) (valueOfA : Nat) (waitingA : Nat) (pieces : Int32) (pieceFromA : Nat) (pieceFromC : ClassId) (pieceFromF : Nat → Int32) (pieceToA : Nat) (pieceToC : ClassId) (pieceToF : Nat → Int32) (pieceFirstA : Nat) (pieceFirstC : ClassId) (pieceFirstF : Nat → Int32) (pieceSecondA : Nat) (pieceSecondC : ClassId) (pieceSecondF : Nat → Int32) (pieceWaysA : Nat) (pieceBlockA : Nat) (labelPieceA : Nat) (foundA : Nat) (pieceOfA : Nat) (usesA : Nat) (assignsA : Nat) (borderA : Nat) (phiVariableA : Nat) (nowA : Nat) (shapeO : Nat) (p0 : Int32) (p1 : Int32) (p2 : Int32) (p3 : Int32) (sz : Nat) (hq1 : ¬ (640 ≤ pieces) → vp_in pieces 640) : Met l yX4_addPiece (wz yX4_addPiece cX4_addPiece 5 (Option.none : Option Jvm.ClassFile.FieldType)) ({ frames := 0, cells := 0, slots := 0, locals := 0 }) (va_Pc [.ref h0, .int p0, .int p1, .int p2, .int p3] (PRE zs dC dI [(h0, .inr (6, [.ref shapeO, .ref leftOpA, .ref rightOpA, .ref valueOfA, .ref waitingA, .int pieces, .ref pieceFromA, .ref pieceToA, .ref pieceFirstA, .ref pieceSecondA, .ref pieceWaysA, .ref pieceBlockA, .ref labelPieceA, .ref foundA, .ref pieceOfA, .ref usesA, .ref assignsA, .ref borderA, .ref phiVariableA, .ref nowA])), (pieceFromA, .inl (pieceFromC, 640, .inl pieceFromF)), (pieceToA, .inl (pieceToC, 640, .inl pieceToF)), (pieceFirstA, .inl (pieceFirstC, 640, .inl pieceFirstF)), (pieceSecondA, .inl (pieceSecondC, 640, .inl pieceSecondF))] [(pieceFromC, .int), (pieceToC, .int), (pieceFirstC, .int), (pieceSecondC, .int)] sz)) (va_Qv (fun (_ : Unit) => True) (fun _ t => POST dC dI [(h0, .inr (6, [.ref shapeO, .ref leftOpA, .ref rightOpA, .ref valueOfA, .ref waitingA, .int (sX4_addPiece_0_5 pieces), .ref pieceFromA, .ref pieceToA, .ref pieceFirstA, .ref pieceSecondA, .ref pieceWaysA, .ref pieceBlockA, .ref labelPieceA, .ref foundA, .ref pieceOfA, .ref usesA, .ref assignsA, .ref borderA, .ref phiVariableA, .ref nowA])), (pieceFromA, .inl (pieceFromC, 640, .inl (sX4_addPiece_1 pieces pieceFromF p0))), (pieceToA, .inl (pieceToC, 640, .inl (sX4_addPiece_2 pieces pieceToF p1))), (pieceFirstA, .inl (pieceFirstC, 640, .inl (sX4_addPiece_3 pieces pieceFirstF p2))), (pieceSecondA, .inl (pieceSecondC, 640, .inl (sX4_addPiece_4 pieces pieceSecondF p3)))] [(pieceFromC, .int), (pieceToC, .int), (pieceFirstC, .int), (pieceSecondC, .int)] (va_A [(h0, .inr (6, [.ref shapeO, .ref leftOpA, .ref rightOpA, .ref valueOfA, .ref waitingA, .int pieces, .ref pieceFromA, .ref pieceToA, .ref pieceFirstA, .ref pieceSecondA, .ref pieceWaysA, .ref pieceBlockA, .ref labelPieceA, .ref foundA, .ref pieceOfA, .ref usesA, .ref assignsA, .ref borderA, .ref phiVariableA, .ref nowA])), (pieceFromA, .inl (pieceFromC, 640, .inl pieceFromF)), (pieceToA, .inl (pieceToC, 640, .inl pieceToF)), (pieceFirstA, .inl (pieceFirstC, 640, .inl pieceFirstF)), (pieceSecondA, .inl (pieceSecondC, 640, .inl pieceSecondF))] sz) t) (va_A [(h0, .inr (6, [.ref shapeO, .ref leftOpA, .ref rightOpA, .ref valueOfA, .ref waitingA, .int pieces, .ref pieceFromA, .ref pieceToA, .ref pieceFirstA, .ref pieceSecondA, .ref pieceWaysA, .ref pieceBlockA, .ref labelPieceA, .ref foundA, .ref pieceOfA, .ref usesA, .ref assignsA, .ref borderA, .ref phiVariableA, .ref nowA])), (pieceFromA, .inl (pieceFromC, 640, .inl pieceFromF)), (pieceToA, .inl (pieceToC, 640, .inl pieceToF)), (pieceFirstA, .inl (pieceFirstC, 640, .inl pieceFirstF)), (pieceSecondA, .inl (pieceSecondC, 640, .inl pieceSecondF))] sz)) 0 0 (va_A [(h0, .inr (6, [.ref shapeO, .ref leftOpA, .ref rightOpA, .ref valueOfA, .ref waitingA, .int pieces, .ref pieceFromA, .ref pieceToA, .ref pieceFirstA, .ref pieceSecondA, .ref pieceWaysA, .ref pieceBlockA, .ref labelPieceA, .ref foundA, .ref pieceOfA, .ref usesA, .ref assignsA, .ref borderA, .ref phiVariableA, .ref nowA])), (pieceFromA, .inl (pieceFromC, 640, .inl pieceFromF)), (pieceToA, .inl (pieceToC, 640, .inl pieceToF)), (pieceFirstA, .inl (pieceFirstC, 640, .inl pieceFirstF)), (pieceSecondA, .inl (pieceSecondC, 640, .inl pieceSecondF))] sz) := by
  refine Met.ofW (cc := cX4_addPiece) (maxL := 5) (ret := (Option.none : Option Jvm.ClassFile.FieldType)) (by decide) rfl ?_
  intro p e s m args below meth c s₁ B hml hv
  obtain ⟨rfl, hsz, hP, hK, hD0, hE⟩ := hv
  have hx := B.exec
  have hb := B.bytes
  have hr := B.returns
  have hts0 := atoms_spec (ws := wz yX4_addPiece cX4_addPiece 5 (Option.none : Option Jvm.ClassFile.FieldType)) B.pre
  have hts : ∀ w ∈ gw, w.before _ s = true := fun w h => hts0 w (List.mem_cons_of_mem _ h)
  have hown : s.vm.findClass RX4 = some m.cls := findClass_of_methodNamed B.named
  have hlocks := B.notSynchronized
  subst hsz
  have hD := hD0.self (sz := s.heap.size)
  generalize hAe : va_A [(h0, .inr (6, [.ref shapeO, .ref leftOpA, .ref rightOpA, .ref valueOfA, .ref waitingA, .int pieces, .ref pieceFromA, .ref pieceToA, .ref pieceFirstA, .ref pieceSecondA, .ref pieceWaysA, .ref pieceBlockA, .ref labelPieceA, .ref foundA, .ref pieceOfA, .ref usesA, .ref assignsA, .ref borderA, .ref phiVariableA, .ref nowA])), (pieceFromA, .inl (pieceFromC, 640, .inl pieceFromF)), (pieceToA, .inl (pieceToC, 640, .inl pieceToF)), (pieceFirstA, .inl (pieceFirstC, 640, .inl pieceFirstF)), (pieceSecondA, .inl (pieceSecondC, 640, .inl pieceSecondF))] s.heap.size = A at hD hE ⊢
  have hA : ∀ q : Nat, s.heap.size ≤ q → A q := fun q h => by rw [← hAe]; exact Or.inr h
  have hS : va_S A s.heap s.heap [] := va_S.rf
  have hP : va_P (dC, dI) cls [(h0, .inr (6, [.ref shapeO, .ref leftOpA, .ref rightOpA, .ref valueOfA, .ref waitingA, .int pieces, .ref pieceFromA, .ref pieceToA, .ref pieceFirstA, .ref pieceSecondA, .ref pieceWaysA, .ref pieceBlockA, .ref labelPieceA, .ref foundA, .ref pieceOfA, .ref usesA, .ref assignsA, .ref borderA, .ref phiVariableA, .ref nowA])), (pieceFromA, .inl (pieceFromC, 640, .inl pieceFromF)), (pieceToA, .inl (pieceToC, 640, .inl pieceToF)), (pieceFirstA, .inl (pieceFirstC, 640, .inl pieceFirstF)), (pieceSecondA, .inl (pieceSecondC, 640, .inl pieceSecondF))] s.heap := hP
  have hl := lv_entry ([.ref h0, .int p0, .int p1, .int p2, .int p3]) (n := 5) (Nat.le_of_ble_eq_true rfl)
  rw [lg_entry_eq]
  generalize (lg_sl ([.ref h0, .int p0, .int p1, .int p2, .int p3]) ++ List.replicate (5 - (lg_sl ([.ref h0, .int p0, .int p1, .int p2, .int p3])).length) Slot.unset).toArray = ls at hl ⊢
  have hl : lv_has ls 5 [(0, .ref h0), (1, .int p0), (2, .int p1), (3, .int p2), (4, .int p3)] := hl
  refine lv_aload_n hx hb dX4_addPiece_0 rfl (lv_at hl 0 rfl) ?_
  refine va_get (D := (dC, dI)) (ci := 6) (v := .int pieces) (C := RX4) (T := TX4) (N := 20) hx hb hts i_X4 hown hK hP 0 rfl rfl 5 (by decide) (hts _ qw256) (fun _ h9 => h9) rfl dX4_addPiece_1 ?_
  refine lv_sipush (v := 640) hx hb dX4_addPiece_4 (by decide) ?_
  by_cases hc1 : 640 ≤ pieces
  · refine lv_icmp_ge (tgt := 61) hx hb dX4_addPiece_7 (by decide) (fun _ => ?_) (fun c => absurd hc1 c)
    have e_sX4_addPiece_0_5 : sX4_addPiece_0_5 pieces = pieces := by unfold sX4_addPiece_0_5; rw [if_pos hc1]
    have e_sX4_addPiece_1 : sX4_addPiece_1 pieces pieceFromF p0 = pieceFromF := by unfold sX4_addPiece_1; rw [if_pos hc1]
    have e_sX4_addPiece_2 : sX4_addPiece_2 pieces pieceToF p1 = pieceToF := by unfold sX4_addPiece_2; rw [if_pos hc1]
    have e_sX4_addPiece_3 : sX4_addPiece_3 pieces pieceFirstF p2 = pieceFirstF := by unfold sX4_addPiece_3; rw [if_pos hc1]
    have e_sX4_addPiece_4 : sX4_addPiece_4 pieces pieceSecondF p3 = pieceSecondF := by unfold sX4_addPiece_4; rw [if_pos hc1]
    have hP9 : va_P (dC, dI) cls [(h0, .inr (6, [.ref shapeO, .ref leftOpA, .ref rightOpA, .ref valueOfA, .ref waitingA, .int (sX4_addPiece_0_5 pieces), .ref pieceFromA, .ref pieceToA, .ref pieceFirstA, .ref pieceSecondA, .ref pieceWaysA, .ref pieceBlockA, .ref labelPieceA, .ref foundA, .ref pieceOfA, .ref usesA, .ref assignsA, .ref borderA, .ref phiVariableA, .ref nowA])), (pieceFromA, .inl (pieceFromC, 640, .inl (sX4_addPiece_1 pieces pieceFromF p0))), (pieceToA, .inl (pieceToC, 640, .inl (sX4_addPiece_2 pieces pieceToF p1))), (pieceFirstA, .inl (pieceFirstC, 640, .inl (sX4_addPiece_3 pieces pieceFirstF p2))), (pieceSecondA, .inl (pieceSecondC, 640, .inl (sX4_addPiece_4 pieces pieceSecondF p3)))] s.heap := by rw [e_sX4_addPiece_0_5, e_sX4_addPiece_1, e_sX4_addPiece_2, e_sX4_addPiece_3, e_sX4_addPiece_4]; exact hP.sub [0, 1, 2, 3, 4] rfl
    have hD9 : va_D A [(h0, .inr (6, [.ref shapeO, .ref leftOpA, .ref rightOpA, .ref valueOfA, .ref waitingA, .int (sX4_addPiece_0_5 pieces), .ref pieceFromA, .ref pieceToA, .ref pieceFirstA, .ref pieceSecondA, .ref pieceWaysA, .ref pieceBlockA, .ref labelPieceA, .ref foundA, .ref pieceOfA, .ref usesA, .ref assignsA, .ref borderA, .ref phiVariableA, .ref nowA])), (pieceFromA, .inl (pieceFromC, 640, .inl (sX4_addPiece_1 pieces pieceFromF p0))), (pieceToA, .inl (pieceToC, 640, .inl (sX4_addPiece_2 pieces pieceToF p1))), (pieceFirstA, .inl (pieceFirstC, 640, .inl (sX4_addPiece_3 pieces pieceFirstF p2))), (pieceSecondA, .inl (pieceSecondC, 640, .inl (sX4_addPiece_4 pieces pieceSecondF p3)))] := by rw [e_sX4_addPiece_0_5, e_sX4_addPiece_1, e_sX4_addPiece_2, e_sX4_addPiece_3, e_sX4_addPiece_4]; exact hD.sub [0, 1, 2, 3, 4] (by decide) rfl
    have hK9 : va_K (dC, dI) cls [(pieceFromC, .int), (pieceToC, .int), (pieceFirstC, .int), (pieceSecondC, .int)] s := hK.sub [0, 1, 2, 3] rfl
    refine W.widen (k := 0) (n := 0) (Nat.le_of_ble_eq_true rfl) (Nat.le_of_ble_eq_true rfl) ?_
    exact W.vret hx hb hr (fun t ht hW => ⟨⟨(), rfl, trivial, ⟨by rw [ht]; exact hP9, va_K.moved hW.alike hK9, hD9⟩⟩, hS.F ht⟩) hS.2.2 dX4_addPiece_61
  · refine lv_icmp_ge (tgt := 61) hx hb dX4_addPiece_7 (by decide) (fun c => absurd c hc1) (fun _ => ?_)
    refine lv_aload_n hx hb dX4_addPiece_10 rfl (lv_at hl 0 rfl) ?_
    refine va_get (D := (dC, dI)) (ci := 6) (v := .ref pieceFromA) (C := RX4) (T := TX4) (N := 20) hx hb hts i_X4 hown hK hP 0 rfl rfl 6 (by decide) (hts _ qw68) (fun _ h9 => h9) rfl dX4_addPiece_11 ?_
    refine lv_aload_n hx hb dX4_addPiece_14 rfl (lv_at hl 0 rfl) ?_
    refine va_get (D := (dC, dI)) (ci := 6) (v := .int pieces) (C := RX4) (T := TX4) (N := 20) hx hb hts i_X4 hown hK hP 0 rfl rfl 5 (by decide) (hts _ qw256) (fun _ h9 => h9) rfl dX4_addPiece_15 ?_
    refine lv_iload_n hx hb dX4_addPiece_18 rfl (lv_at hl 1 rfl) ?_
    refine va_iast hx hb hK hP hD hS 1 0 rfl rfl (hq1 hc1) dX4_addPiece_19 (fun H locs hP hD hS => ?_)
    have hP : va_P (dC, dI) cls [(h0, .inr (6, [.ref shapeO, .ref leftOpA, .ref rightOpA, .ref valueOfA, .ref waitingA, .int pieces, .ref pieceFromA, .ref pieceToA, .ref pieceFirstA, .ref pieceSecondA, .ref pieceWaysA, .ref pieceBlockA, .ref labelPieceA, .ref foundA, .ref pieceOfA, .ref usesA, .ref assignsA, .ref borderA, .ref phiVariableA, .ref nowA])), (pieceFromA, .inl (pieceFromC, 640, .inl (upd pieceFromF (Int32.toNatClampNeg pieces) p0))), (pieceToA, .inl (pieceToC, 640, .inl pieceToF)), (pieceFirstA, .inl (pieceFirstC, 640, .inl pieceFirstF)), (pieceSecondA, .inl (pieceSecondC, 640, .inl pieceSecondF))] H := hP
    have hD : va_D A [(h0, .inr (6, [.ref shapeO, .ref leftOpA, .ref rightOpA, .ref valueOfA, .ref waitingA, .int pieces, .ref pieceFromA, .ref pieceToA, .ref pieceFirstA, .ref pieceSecondA, .ref pieceWaysA, .ref pieceBlockA, .ref labelPieceA, .ref foundA, .ref pieceOfA, .ref usesA, .ref assignsA, .ref borderA, .ref phiVariableA, .ref nowA])), (pieceFromA, .inl (pieceFromC, 640, .inl (upd pieceFromF (Int32.toNatClampNeg pieces) p0))), (pieceToA, .inl (pieceToC, 640, .inl pieceToF)), (pieceFirstA, .inl (pieceFirstC, 640, .inl pieceFirstF)), (pieceSecondA, .inl (pieceSecondC, 640, .inl pieceSecondF))] := hD
    refine lv_aload_n hx hb dX4_addPiece_20 rfl (lv_at hl 0 rfl) ?_
    refine va_get (D := (dC, dI)) (ci := 6) (v := .ref pieceToA) (C := RX4) (T := TX4) (N := 20) hx hb hts i_X4 hown hK hP 0 rfl rfl 7 (by decide) (hts _ qw69) (fun _ h9 => h9) rfl dX4_addPiece_21 ?_
    refine lv_aload_n hx hb dX4_addPiece_24 rfl (lv_at hl 0 rfl) ?_
    refine va_get (D := (dC, dI)) (ci := 6) (v := .int pieces) (C := RX4) (T := TX4) (N := 20) hx hb hts i_X4 hown hK hP 0 rfl rfl 5 (by decide) (hts _ qw256) (fun _ h9 => h9) rfl dX4_addPiece_25 ?_
    refine lv_iload_n hx hb dX4_addPiece_28 rfl (lv_at hl 2 rfl) ?_
    refine va_iast hx hb hK hP hD hS 2 1 rfl rfl (hq1 hc1) dX4_addPiece_29 (fun H locs hP hD hS => ?_)
    have hP : va_P (dC, dI) cls [(h0, .inr (6, [.ref shapeO, .ref leftOpA, .ref rightOpA, .ref valueOfA, .ref waitingA, .int pieces, .ref pieceFromA, .ref pieceToA, .ref pieceFirstA, .ref pieceSecondA, .ref pieceWaysA, .ref pieceBlockA, .ref labelPieceA, .ref foundA, .ref pieceOfA, .ref usesA, .ref assignsA, .ref borderA, .ref phiVariableA, .ref nowA])), (pieceFromA, .inl (pieceFromC, 640, .inl (upd pieceFromF (Int32.toNatClampNeg pieces) p0))), (pieceToA, .inl (pieceToC, 640, .inl (upd pieceToF (Int32.toNatClampNeg pieces) p1))), (pieceFirstA, .inl (pieceFirstC, 640, .inl pieceFirstF)), (pieceSecondA, .inl (pieceSecondC, 640, .inl pieceSecondF))] H := hP
    have hD : va_D A [(h0, .inr (6, [.ref shapeO, .ref leftOpA, .ref rightOpA, .ref valueOfA, .ref waitingA, .int pieces, .ref pieceFromA, .ref pieceToA, .ref pieceFirstA, .ref pieceSecondA, .ref pieceWaysA, .ref pieceBlockA, .ref labelPieceA, .ref foundA, .ref pieceOfA, .ref usesA, .ref assignsA, .ref borderA, .ref phiVariableA, .ref nowA])), (pieceFromA, .inl (pieceFromC, 640, .inl (upd pieceFromF (Int32.toNatClampNeg pieces) p0))), (pieceToA, .inl (pieceToC, 640, .inl (upd pieceToF (Int32.toNatClampNeg pieces) p1))), (pieceFirstA, .inl (pieceFirstC, 640, .inl pieceFirstF)), (pieceSecondA, .inl (pieceSecondC, 640, .inl pieceSecondF))] := hD
    refine lv_aload_n hx hb dX4_addPiece_30 rfl (lv_at hl 0 rfl) ?_
    refine va_get (D := (dC, dI)) (ci := 6) (v := .ref pieceFirstA) (C := RX4) (T := TX4) (N := 20) hx hb hts i_X4 hown hK hP 0 rfl rfl 8 (by decide) (hts _ qw70) (fun _ h9 => h9) rfl dX4_addPiece_31 ?_
    refine lv_aload_n hx hb dX4_addPiece_34 rfl (lv_at hl 0 rfl) ?_
    refine va_get (D := (dC, dI)) (ci := 6) (v := .int pieces) (C := RX4) (T := TX4) (N := 20) hx hb hts i_X4 hown hK hP 0 rfl rfl 5 (by decide) (hts _ qw256) (fun _ h9 => h9) rfl dX4_addPiece_35 ?_
    refine lv_iload_n hx hb dX4_addPiece_38 rfl (lv_at hl 3 rfl) ?_
    refine va_iast hx hb hK hP hD hS 3 2 rfl rfl (hq1 hc1) dX4_addPiece_39 (fun H locs hP hD hS => ?_)
    have hP : va_P (dC, dI) cls [(h0, .inr (6, [.ref shapeO, .ref leftOpA, .ref rightOpA, .ref valueOfA, .ref waitingA, .int pieces, .ref pieceFromA, .ref pieceToA, .ref pieceFirstA, .ref pieceSecondA, .ref pieceWaysA, .ref pieceBlockA, .ref labelPieceA, .ref foundA, .ref pieceOfA, .ref usesA, .ref assignsA, .ref borderA, .ref phiVariableA, .ref nowA])), (pieceFromA, .inl (pieceFromC, 640, .inl (upd pieceFromF (Int32.toNatClampNeg pieces) p0))), (pieceToA, .inl (pieceToC, 640, .inl (upd pieceToF (Int32.toNatClampNeg pieces) p1))), (pieceFirstA, .inl (pieceFirstC, 640, .inl (upd pieceFirstF (Int32.toNatClampNeg pieces) p2))), (pieceSecondA, .inl (pieceSecondC, 640, .inl pieceSecondF))] H := hP
    have hD : va_D A [(h0, .inr (6, [.ref shapeO, .ref leftOpA, .ref rightOpA, .ref valueOfA, .ref waitingA, .int pieces, .ref pieceFromA, .ref pieceToA, .ref pieceFirstA, .ref pieceSecondA, .ref pieceWaysA, .ref pieceBlockA, .ref labelPieceA, .ref foundA, .ref pieceOfA, .ref usesA, .ref assignsA, .ref borderA, .ref phiVariableA, .ref nowA])), (pieceFromA, .inl (pieceFromC, 640, .inl (upd pieceFromF (Int32.toNatClampNeg pieces) p0))), (pieceToA, .inl (pieceToC, 640, .inl (upd pieceToF (Int32.toNatClampNeg pieces) p1))), (pieceFirstA, .inl (pieceFirstC, 640, .inl (upd pieceFirstF (Int32.toNatClampNeg pieces) p2))), (pieceSecondA, .inl (pieceSecondC, 640, .inl pieceSecondF))] := hD
    refine lv_aload_n hx hb dX4_addPiece_40 rfl (lv_at hl 0 rfl) ?_
    refine va_get (D := (dC, dI)) (ci := 6) (v := .ref pieceSecondA) (C := RX4) (T := TX4) (N := 20) hx hb hts i_X4 hown hK hP 0 rfl rfl 9 (by decide) (hts _ qw71) (fun _ h9 => h9) rfl dX4_addPiece_41 ?_
    refine lv_aload_n hx hb dX4_addPiece_44 rfl (lv_at hl 0 rfl) ?_
    refine va_get (D := (dC, dI)) (ci := 6) (v := .int pieces) (C := RX4) (T := TX4) (N := 20) hx hb hts i_X4 hown hK hP 0 rfl rfl 5 (by decide) (hts _ qw256) (fun _ h9 => h9) rfl dX4_addPiece_45 ?_
    refine lv_iload hx hb dX4_addPiece_48 (lv_at hl 4 rfl) ?_
    refine va_iast hx hb hK hP hD hS 4 3 rfl rfl (hq1 hc1) dX4_addPiece_50 (fun H locs hP hD hS => ?_)
    have hP : va_P (dC, dI) cls [(h0, .inr (6, [.ref shapeO, .ref leftOpA, .ref rightOpA, .ref valueOfA, .ref waitingA, .int pieces, .ref pieceFromA, .ref pieceToA, .ref pieceFirstA, .ref pieceSecondA, .ref pieceWaysA, .ref pieceBlockA, .ref labelPieceA, .ref foundA, .ref pieceOfA, .ref usesA, .ref assignsA, .ref borderA, .ref phiVariableA, .ref nowA])), (pieceFromA, .inl (pieceFromC, 640, .inl (upd pieceFromF (Int32.toNatClampNeg pieces) p0))), (pieceToA, .inl (pieceToC, 640, .inl (upd pieceToF (Int32.toNatClampNeg pieces) p1))), (pieceFirstA, .inl (pieceFirstC, 640, .inl (upd pieceFirstF (Int32.toNatClampNeg pieces) p2))), (pieceSecondA, .inl (pieceSecondC, 640, .inl (upd pieceSecondF (Int32.toNatClampNeg pieces) p3)))] H := hP
    have hD : va_D A [(h0, .inr (6, [.ref shapeO, .ref leftOpA, .ref rightOpA, .ref valueOfA, .ref waitingA, .int pieces, .ref pieceFromA, .ref pieceToA, .ref pieceFirstA, .ref pieceSecondA, .ref pieceWaysA, .ref pieceBlockA, .ref labelPieceA, .ref foundA, .ref pieceOfA, .ref usesA, .ref assignsA, .ref borderA, .ref phiVariableA, .ref nowA])), (pieceFromA, .inl (pieceFromC, 640, .inl (upd pieceFromF (Int32.toNatClampNeg pieces) p0))), (pieceToA, .inl (pieceToC, 640, .inl (upd pieceToF (Int32.toNatClampNeg pieces) p1))), (pieceFirstA, .inl (pieceFirstC, 640, .inl (upd pieceFirstF (Int32.toNatClampNeg pieces) p2))), (pieceSecondA, .inl (pieceSecondC, 640, .inl (upd pieceSecondF (Int32.toNatClampNeg pieces) p3)))] := hD
    refine lv_aload_n hx hb dX4_addPiece_51 rfl (lv_at hl 0 rfl) ?_
    refine lv_dup hx hb dX4_addPiece_52 rfl ?_
    refine va_get (D := (dC, dI)) (ci := 6) (v := .int pieces) (C := RX4) (T := TX4) (N := 20) hx hb hts i_X4 hown hK hP 0 rfl rfl 5 (by decide) (hts _ qw256) (fun _ h9 => h9) rfl dX4_addPiece_53 ?_
    refine lv_iconst (v := 1) hx hb dX4_addPiece_56 (by decide) ?_
    refine lv_iadd hx hb dX4_addPiece_57 ?_
    refine va_put (D := (dC, dI)) (ci := 6) (v := .int (pieces + 1)) (ty := .int) (C := RX4) (T := TX4) (N := 20) hx hb hts i_X4 tyX4 tyX4_ok nmX4 hown hK hP hD hS 0 rfl rfl 5 (by decide) (hts _ qw256) (fun _ h9 => h9) rfl (by decide +kernel) rfl rfl (Nat.le_of_ble_eq_true rfl) dX4_addPiece_58 (fun H locs hP hD hS => ?_)
    have hP : va_P (dC, dI) cls [(h0, .inr (6, [.ref shapeO, .ref leftOpA, .ref rightOpA, .ref valueOfA, .ref waitingA, .int (pieces + 1), .ref pieceFromA, .ref pieceToA, .ref pieceFirstA, .ref pieceSecondA, .ref pieceWaysA, .ref pieceBlockA, .ref labelPieceA, .ref foundA, .ref pieceOfA, .ref usesA, .ref assignsA, .ref borderA, .ref phiVariableA, .ref nowA])), (pieceFromA, .inl (pieceFromC, 640, .inl (upd pieceFromF (Int32.toNatClampNeg pieces) p0))), (pieceToA, .inl (pieceToC, 640, .inl (upd pieceToF (Int32.toNatClampNeg pieces) p1))), (pieceFirstA, .inl (pieceFirstC, 640, .inl (upd pieceFirstF (Int32.toNatClampNeg pieces) p2))), (pieceSecondA, .inl (pieceSecondC, 640, .inl (upd pieceSecondF (Int32.toNatClampNeg pieces) p3)))] H := hP
    have hD : va_D A [(h0, .inr (6, [.ref shapeO, .ref leftOpA, .ref rightOpA, .ref valueOfA, .ref waitingA, .int (pieces + 1), .ref pieceFromA, .ref pieceToA, .ref pieceFirstA, .ref pieceSecondA, .ref pieceWaysA, .ref pieceBlockA, .ref labelPieceA, .ref foundA, .ref pieceOfA, .ref usesA, .ref assignsA, .ref borderA, .ref phiVariableA, .ref nowA])), (pieceFromA, .inl (pieceFromC, 640, .inl (upd pieceFromF (Int32.toNatClampNeg pieces) p0))), (pieceToA, .inl (pieceToC, 640, .inl (upd pieceToF (Int32.toNatClampNeg pieces) p1))), (pieceFirstA, .inl (pieceFirstC, 640, .inl (upd pieceFirstF (Int32.toNatClampNeg pieces) p2))), (pieceSecondA, .inl (pieceSecondC, 640, .inl (upd pieceSecondF (Int32.toNatClampNeg pieces) p3)))] := hD
    have e_sX4_addPiece_0_5 : sX4_addPiece_0_5 pieces = (pieces + 1) := by unfold sX4_addPiece_0_5; rw [if_neg hc1]
    have e_sX4_addPiece_1 : sX4_addPiece_1 pieces pieceFromF p0 = (upd pieceFromF (Int32.toNatClampNeg pieces) p0) := by unfold sX4_addPiece_1; rw [if_neg hc1]
    have e_sX4_addPiece_2 : sX4_addPiece_2 pieces pieceToF p1 = (upd pieceToF (Int32.toNatClampNeg pieces) p1) := by unfold sX4_addPiece_2; rw [if_neg hc1]
    have e_sX4_addPiece_3 : sX4_addPiece_3 pieces pieceFirstF p2 = (upd pieceFirstF (Int32.toNatClampNeg pieces) p2) := by unfold sX4_addPiece_3; rw [if_neg hc1]
    have e_sX4_addPiece_4 : sX4_addPiece_4 pieces pieceSecondF p3 = (upd pieceSecondF (Int32.toNatClampNeg pieces) p3) := by unfold sX4_addPiece_4; rw [if_neg hc1]
    have hP9 : va_P (dC, dI) cls [(h0, .inr (6, [.ref shapeO, .ref leftOpA, .ref rightOpA, .ref valueOfA, .ref waitingA, .int (sX4_addPiece_0_5 pieces), .ref pieceFromA, .ref pieceToA, .ref pieceFirstA, .ref pieceSecondA, .ref pieceWaysA, .ref pieceBlockA, .ref labelPieceA, .ref foundA, .ref pieceOfA, .ref usesA, .ref assignsA, .ref borderA, .ref phiVariableA, .ref nowA])), (pieceFromA, .inl (pieceFromC, 640, .inl (sX4_addPiece_1 pieces pieceFromF p0))), (pieceToA, .inl (pieceToC, 640, .inl (sX4_addPiece_2 pieces pieceToF p1))), (pieceFirstA, .inl (pieceFirstC, 640, .inl (sX4_addPiece_3 pieces pieceFirstF p2))), (pieceSecondA, .inl (pieceSecondC, 640, .inl (sX4_addPiece_4 pieces pieceSecondF p3)))] H := by rw [e_sX4_addPiece_0_5, e_sX4_addPiece_1, e_sX4_addPiece_2, e_sX4_addPiece_3, e_sX4_addPiece_4]; exact hP.sub [0, 1, 2, 3, 4] rfl
    have hD9 : va_D A [(h0, .inr (6, [.ref shapeO, .ref leftOpA, .ref rightOpA, .ref valueOfA, .ref waitingA, .int (sX4_addPiece_0_5 pieces), .ref pieceFromA, .ref pieceToA, .ref pieceFirstA, .ref pieceSecondA, .ref pieceWaysA, .ref pieceBlockA, .ref labelPieceA, .ref foundA, .ref pieceOfA, .ref usesA, .ref assignsA, .ref borderA, .ref phiVariableA, .ref nowA])), (pieceFromA, .inl (pieceFromC, 640, .inl (sX4_addPiece_1 pieces pieceFromF p0))), (pieceToA, .inl (pieceToC, 640, .inl (sX4_addPiece_2 pieces pieceToF p1))), (pieceFirstA, .inl (pieceFirstC, 640, .inl (sX4_addPiece_3 pieces pieceFirstF p2))), (pieceSecondA, .inl (pieceSecondC, 640, .inl (sX4_addPiece_4 pieces pieceSecondF p3)))] := by rw [e_sX4_addPiece_0_5, e_sX4_addPiece_1, e_sX4_addPiece_2, e_sX4_addPiece_3, e_sX4_addPiece_4]; exact hD.sub [0, 1, 2, 3, 4] (by decide) rfl
    have hK9 : va_K (dC, dI) cls [(pieceFromC, .int), (pieceToC, .int), (pieceFirstC, .int), (pieceSecondC, .int)] s := hK.sub [0, 1, 2, 3] rfl
    refine W.widen (k := 0) (n := 0) (Nat.le_of_ble_eq_true rfl) (Nat.le_of_ble_eq_true rfl) ?_
    exact W.vret hx hb hr (fun t ht hW => ⟨⟨(), rfl, trivial, ⟨by rw [ht]; exact hP9, va_K.moved hW.alike hK9, hD9⟩⟩, hS.F ht⟩) hS.2.2 dX4_addPiece_61
def sX4_blockOfPiece_r (pieces : Int32) (pieceBlockF : Nat → Int32) (p0 : Int32) : Int32 := (if p0 < 0 then (-1) else (if p0 < pieces then (pieceBlockF (Int32.toNatClampNeg p0)) else (-1)))
set_option maxHeartbeats 4000000 in
set_option maxRecDepth 100000 in
theorem kX4_blockOfPiece {zs : Nat × Nat} (l : Launch) (dC : Nat → ClassId) (dI : Nat → Nat → Nat) (h0 : Nat) (leftOpA : Nat) (rightOpA : Nat) (valueOfA : Nat) (waitingA : Nat) (pieces : Int32) (pieceFromA : Nat) (pieceToA : Nat) (pieceFirstA : Nat) (pieceSecondA : Nat) (pieceWaysA : Nat) (pieceBlockA : Nat) (pieceBlockC : ClassId) (pieceBlockF : Nat → Int32) (labelPieceA : Nat) (foundA : Nat) (pieceOfA : Nat) (usesA : Nat) (assignsA : Nat) (borderA : Nat) (phiVariableA : Nat) (nowA : Nat) (shapeO : Nat) (p0 : Int32) (sz : Nat) (hq1 : ¬ (p0 < 0) → p0 < pieces → vp_in p0 640) : Met l yX4_blockOfPiece (wz yX4_blockOfPiece cX4_blockOfPiece 2 (Option.some Jvm.ClassFile.FieldType.int)) ({ frames := 0, cells := 0, slots := 0, locals := 0 }) (va_Pc [.ref h0, .int p0] (PRE zs dC dI [(h0, .inr (6, [.ref shapeO, .ref leftOpA, .ref rightOpA, .ref valueOfA, .ref waitingA, .int pieces, .ref pieceFromA, .ref pieceToA, .ref pieceFirstA, .ref pieceSecondA, .ref pieceWaysA, .ref pieceBlockA, .ref labelPieceA, .ref foundA, .ref pieceOfA, .ref usesA, .ref assignsA, .ref borderA, .ref phiVariableA, .ref nowA])), (pieceBlockA, .inl (pieceBlockC, 640, .inl pieceBlockF))] [(pieceBlockC, .int)] sz)) (va_Qi (fun (r : Int32) (_ : Unit) => r = (sX4_blockOfPiece_r pieces pieceBlockF p0)) (fun _ t => POST dC dI [(h0, .inr (6, [.ref shapeO, .ref leftOpA, .ref rightOpA, .ref valueOfA, .ref waitingA, .int pieces, .ref pieceFromA, .ref pieceToA, .ref pieceFirstA, .ref pieceSecondA, .ref pieceWaysA, .ref pieceBlockA, .ref labelPieceA, .ref foundA, .ref pieceOfA, .ref usesA, .ref assignsA, .ref borderA, .ref phiVariableA, .ref nowA])), (pieceBlockA, .inl (pieceBlockC, 640, .inl pieceBlockF))] [(pieceBlockC, .int)] (va_A [(h0, .inr (6, [.ref shapeO, .ref leftOpA, .ref rightOpA, .ref valueOfA, .ref waitingA, .int pieces, .ref pieceFromA, .ref pieceToA, .ref pieceFirstA, .ref pieceSecondA, .ref pieceWaysA, .ref pieceBlockA, .ref labelPieceA, .ref foundA, .ref pieceOfA, .ref usesA, .ref assignsA, .ref borderA, .ref phiVariableA, .ref nowA])), (pieceBlockA, .inl (pieceBlockC, 640, .inl pieceBlockF))] sz) t) (va_A [(h0, .inr (6, [.ref shapeO, .ref leftOpA, .ref rightOpA, .ref valueOfA, .ref waitingA, .int pieces, .ref pieceFromA, .ref pieceToA, .ref pieceFirstA, .ref pieceSecondA, .ref pieceWaysA, .ref pieceBlockA, .ref labelPieceA, .ref foundA, .ref pieceOfA, .ref usesA, .ref assignsA, .ref borderA, .ref phiVariableA, .ref nowA])), (pieceBlockA, .inl (pieceBlockC, 640, .inl pieceBlockF))] sz)) 0 0 (va_A [(h0, .inr (6, [.ref shapeO, .ref leftOpA, .ref rightOpA, .ref valueOfA, .ref waitingA, .int pieces, .ref pieceFromA, .ref pieceToA, .ref pieceFirstA, .ref pieceSecondA, .ref pieceWaysA, .ref pieceBlockA, .ref labelPieceA, .ref foundA, .ref pieceOfA, .ref usesA, .ref assignsA, .ref borderA, .ref phiVariableA, .ref nowA])), (pieceBlockA, .inl (pieceBlockC, 640, .inl pieceBlockF))] sz) := by
  refine Met.ofW (cc := cX4_blockOfPiece) (maxL := 2) (ret := (Option.some Jvm.ClassFile.FieldType.int)) (by decide) rfl ?_
  intro p e s m args below meth c s₁ B hml hv
  obtain ⟨rfl, hsz, hP, hK, hD0, hE⟩ := hv
  have hx := B.exec
  have hb := B.bytes
  have hr := B.returns
  have hts0 := atoms_spec (ws := wz yX4_blockOfPiece cX4_blockOfPiece 2 (Option.some Jvm.ClassFile.FieldType.int)) B.pre
  have hts : ∀ w ∈ gw, w.before _ s = true := fun w h => hts0 w (List.mem_cons_of_mem _ h)
  have hown : s.vm.findClass RX4 = some m.cls := findClass_of_methodNamed B.named
  have hlocks := B.notSynchronized
  subst hsz
  have hD := hD0.self (sz := s.heap.size)
  generalize hAe : va_A [(h0, .inr (6, [.ref shapeO, .ref leftOpA, .ref rightOpA, .ref valueOfA, .ref waitingA, .int pieces, .ref pieceFromA, .ref pieceToA, .ref pieceFirstA, .ref pieceSecondA, .ref pieceWaysA, .ref pieceBlockA, .ref labelPieceA, .ref foundA, .ref pieceOfA, .ref usesA, .ref assignsA, .ref borderA, .ref phiVariableA, .ref nowA])), (pieceBlockA, .inl (pieceBlockC, 640, .inl pieceBlockF))] s.heap.size = A at hD hE ⊢
  have hA : ∀ q : Nat, s.heap.size ≤ q → A q := fun q h => by rw [← hAe]; exact Or.inr h
  have hS : va_S A s.heap s.heap [] := va_S.rf
  have hP : va_P (dC, dI) cls [(h0, .inr (6, [.ref shapeO, .ref leftOpA, .ref rightOpA, .ref valueOfA, .ref waitingA, .int pieces, .ref pieceFromA, .ref pieceToA, .ref pieceFirstA, .ref pieceSecondA, .ref pieceWaysA, .ref pieceBlockA, .ref labelPieceA, .ref foundA, .ref pieceOfA, .ref usesA, .ref assignsA, .ref borderA, .ref phiVariableA, .ref nowA])), (pieceBlockA, .inl (pieceBlockC, 640, .inl pieceBlockF))] s.heap := hP
  have hl := lv_entry ([.ref h0, .int p0]) (n := 2) (Nat.le_of_ble_eq_true rfl)
  rw [lg_entry_eq]
  generalize (lg_sl ([.ref h0, .int p0]) ++ List.replicate (2 - (lg_sl ([.ref h0, .int p0])).length) Slot.unset).toArray = ls at hl ⊢
  have hl : lv_has ls 2 [(0, .ref h0), (1, .int p0)] := hl
  refine lv_iload_n hx hb dX4_blockOfPiece_0 rfl (lv_at hl 1 rfl) ?_
  by_cases hc1 : p0 < 0
  · refine lv_if_lt (tgt := 12) hx hb dX4_blockOfPiece_1 (by decide) (fun _ => ?_) (fun c => absurd hc1 c)
    refine lv_iconst (v := (-1)) hx hb dX4_blockOfPiece_12 (by decide) ?_
    refine lv_goto (tgt := 22) hx hb dX4_blockOfPiece_13 (by decide) ?_
    have e_sX4_blockOfPiece_r : sX4_blockOfPiece_r pieces pieceBlockF p0 = (-1) := by unfold sX4_blockOfPiece_r; rw [if_pos hc1]
    have hP9 : va_P (dC, dI) cls [(h0, .inr (6, [.ref shapeO, .ref leftOpA, .ref rightOpA, .ref valueOfA, .ref waitingA, .int pieces, .ref pieceFromA, .ref pieceToA, .ref pieceFirstA, .ref pieceSecondA, .ref pieceWaysA, .ref pieceBlockA, .ref labelPieceA, .ref foundA, .ref pieceOfA, .ref usesA, .ref assignsA, .ref borderA, .ref phiVariableA, .ref nowA])), (pieceBlockA, .inl (pieceBlockC, 640, .inl pieceBlockF))] s.heap := by exact hP.sub [0, 1] rfl
    have hD9 : va_D A [(h0, .inr (6, [.ref shapeO, .ref leftOpA, .ref rightOpA, .ref valueOfA, .ref waitingA, .int pieces, .ref pieceFromA, .ref pieceToA, .ref pieceFirstA, .ref pieceSecondA, .ref pieceWaysA, .ref pieceBlockA, .ref labelPieceA, .ref foundA, .ref pieceOfA, .ref usesA, .ref assignsA, .ref borderA, .ref phiVariableA, .ref nowA])), (pieceBlockA, .inl (pieceBlockC, 640, .inl pieceBlockF))] := by exact hD.sub [0, 1] (by decide) rfl
    have hK9 : va_K (dC, dI) cls [(pieceBlockC, .int)] s := hK.sub [0] rfl
    refine W.widen (k := 0) (n := 0) (Nat.le_of_ble_eq_true rfl) (Nat.le_of_ble_eq_true rfl) ?_
    exact W.iret (v := (-1)) hx hb hr (fun t ht hW => ⟨⟨(-1), (), rfl, e_sX4_blockOfPiece_r.symm, ⟨by rw [ht]; exact hP9, va_K.moved hW.alike hK9, hD9⟩⟩, hS.F ht⟩) hS.2.2 dX4_blockOfPiece_22
  · refine lv_if_lt (tgt := 12) hx hb dX4_blockOfPiece_1 (by decide) (fun c => absurd c hc1) (fun _ => ?_)
    refine lv_iload_n hx hb dX4_blockOfPiece_4 rfl (lv_at hl 1 rfl) ?_
    refine lv_aload_n hx hb dX4_blockOfPiece_5 rfl (lv_at hl 0 rfl) ?_
    refine va_get (D := (dC, dI)) (ci := 6) (v := .int pieces) (C := RX4) (T := TX4) (N := 20) hx hb hts i_X4 hown hK hP 0 rfl rfl 5 (by decide) (hts _ qw256) (fun _ h9 => h9) rfl dX4_blockOfPiece_6 ?_
    by_cases hc2 : p0 < pieces
    · refine lv_icmp_lt (tgt := 16) hx hb dX4_blockOfPiece_9 (by decide) (fun _ => ?_) (fun c => absurd hc2 c)
      refine lv_aload_n hx hb dX4_blockOfPiece_16 rfl (lv_at hl 0 rfl) ?_
      refine va_get (D := (dC, dI)) (ci := 6) (v := .ref pieceBlockA) (C := RX4) (T := TX4) (N := 20) hx hb hts i_X4 hown hK hP 0 rfl rfl 11 (by decide) (hts _ qw73) (fun _ h9 => h9) rfl dX4_blockOfPiece_17 ?_
      refine lv_iload_n hx hb dX4_blockOfPiece_20 rfl (lv_at hl 1 rfl) ?_
      refine va_iald hx hb hK hP 1 0 rfl rfl (hq1 hc1 hc2) dX4_blockOfPiece_21 ?_
      have e_sX4_blockOfPiece_r : sX4_blockOfPiece_r pieces pieceBlockF p0 = (pieceBlockF (Int32.toNatClampNeg p0)) := by unfold sX4_blockOfPiece_r; rw [if_neg hc1, if_pos hc2]
      have hP9 : va_P (dC, dI) cls [(h0, .inr (6, [.ref shapeO, .ref leftOpA, .ref rightOpA, .ref valueOfA, .ref waitingA, .int pieces, .ref pieceFromA, .ref pieceToA, .ref pieceFirstA, .ref pieceSecondA, .ref pieceWaysA, .ref pieceBlockA, .ref labelPieceA, .ref foundA, .ref pieceOfA, .ref usesA, .ref assignsA, .ref borderA, .ref phiVariableA, .ref nowA])), (pieceBlockA, .inl (pieceBlockC, 640, .inl pieceBlockF))] s.heap := by exact hP.sub [0, 1] rfl
      have hD9 : va_D A [(h0, .inr (6, [.ref shapeO, .ref leftOpA, .ref rightOpA, .ref valueOfA, .ref waitingA, .int pieces, .ref pieceFromA, .ref pieceToA, .ref pieceFirstA, .ref pieceSecondA, .ref pieceWaysA, .ref pieceBlockA, .ref labelPieceA, .ref foundA, .ref pieceOfA, .ref usesA, .ref assignsA, .ref borderA, .ref phiVariableA, .ref nowA])), (pieceBlockA, .inl (pieceBlockC, 640, .inl pieceBlockF))] := by exact hD.sub [0, 1] (by decide) rfl
      have hK9 : va_K (dC, dI) cls [(pieceBlockC, .int)] s := hK.sub [0] rfl
      refine W.widen (k := 0) (n := 0) (Nat.le_of_ble_eq_true rfl) (Nat.le_of_ble_eq_true rfl) ?_
      exact W.iret (v := (pieceBlockF (Int32.toNatClampNeg p0))) hx hb hr (fun t ht hW => ⟨⟨(pieceBlockF (Int32.toNatClampNeg p0)), (), rfl, e_sX4_blockOfPiece_r.symm, ⟨by rw [ht]; exact hP9, va_K.moved hW.alike hK9, hD9⟩⟩, hS.F ht⟩) hS.2.2 dX4_blockOfPiece_22
    · refine lv_icmp_lt (tgt := 16) hx hb dX4_blockOfPiece_9 (by decide) (fun c => absurd c hc2) (fun _ => ?_)
      refine lv_iconst (v := (-1)) hx hb dX4_blockOfPiece_12 (by decide) ?_
      refine lv_goto (tgt := 22) hx hb dX4_blockOfPiece_13 (by decide) ?_
      have e_sX4_blockOfPiece_r : sX4_blockOfPiece_r pieces pieceBlockF p0 = (-1) := by unfold sX4_blockOfPiece_r; rw [if_neg hc1, if_neg hc2]
      have hP9 : va_P (dC, dI) cls [(h0, .inr (6, [.ref shapeO, .ref leftOpA, .ref rightOpA, .ref valueOfA, .ref waitingA, .int pieces, .ref pieceFromA, .ref pieceToA, .ref pieceFirstA, .ref pieceSecondA, .ref pieceWaysA, .ref pieceBlockA, .ref labelPieceA, .ref foundA, .ref pieceOfA, .ref usesA, .ref assignsA, .ref borderA, .ref phiVariableA, .ref nowA])), (pieceBlockA, .inl (pieceBlockC, 640, .inl pieceBlockF))] s.heap := by exact hP.sub [0, 1] rfl
      have hD9 : va_D A [(h0, .inr (6, [.ref shapeO, .ref leftOpA, .ref rightOpA, .ref valueOfA, .ref waitingA, .int pieces, .ref pieceFromA, .ref pieceToA, .ref pieceFirstA, .ref pieceSecondA, .ref pieceWaysA, .ref pieceBlockA, .ref labelPieceA, .ref foundA, .ref pieceOfA, .ref usesA, .ref assignsA, .ref borderA, .ref phiVariableA, .ref nowA])), (pieceBlockA, .inl (pieceBlockC, 640, .inl pieceBlockF))] := by exact hD.sub [0, 1] (by decide) rfl
      have hK9 : va_K (dC, dI) cls [(pieceBlockC, .int)] s := hK.sub [0] rfl
      refine W.widen (k := 0) (n := 0) (Nat.le_of_ble_eq_true rfl) (Nat.le_of_ble_eq_true rfl) ?_
      exact W.iret (v := (-1)) hx hb hr (fun t ht hW => ⟨⟨(-1), (), rfl, e_sX4_blockOfPiece_r.symm, ⟨by rw [ht]; exact hP9, va_K.moved hW.alike hK9, hD9⟩⟩, hS.F ht⟩) hS.2.2 dX4_blockOfPiece_22
def sX4_isIn_r (p0 : Int64) (p1 : Int32) : Int32 := (if p1 < 0 then 0 else (if (sX11_holds_r p0 p1) = 0 then 0 else 1))
set_option maxHeartbeats 4000000 in
set_option maxRecDepth 100000 in
theorem kX4_isIn {zs : Nat × Nat} (l : Launch) (dC : Nat → ClassId) (dI : Nat → Nat → Nat) (p0 : Int64) (p1 : Int32) (sz : Nat)  : Met l yX4_isIn (wz yX4_isIn cX4_isIn 3 (Option.some Jvm.ClassFile.FieldType.boolean)) ({ frames := 1, cells := 0, slots := 0, locals := 22 }) (va_Pc [.long p0, .int p1] (PRE zs dC dI [] [] sz)) (va_Qi (fun (r : Int32) (_ : Unit) => r = (sX4_isIn_r p0 p1)) (fun _ t => POST dC dI [] [] (va_A [] sz) t) (va_A [] sz)) 0 0 (va_A [] sz) := by
  refine Met.ofW (cc := cX4_isIn) (maxL := 3) (ret := (Option.some Jvm.ClassFile.FieldType.boolean)) (by decide) rfl ?_
  intro p e s m args below meth c s₁ B hml hv
  obtain ⟨rfl, hsz, hP, hK, hD0, hE⟩ := hv
  have hx := B.exec
  have hb := B.bytes
  have hr := B.returns
  have hts0 := atoms_spec (ws := wz yX4_isIn cX4_isIn 3 (Option.some Jvm.ClassFile.FieldType.boolean)) B.pre
  have hts : ∀ w ∈ gw, w.before _ s = true := fun w h => hts0 w (List.mem_cons_of_mem _ h)
  have hown : s.vm.findClass RX4 = some m.cls := findClass_of_methodNamed B.named
  have hlocks := B.notSynchronized
  subst hsz
  have hD := hD0.self (sz := s.heap.size)
  generalize hAe : va_A [] s.heap.size = A at hD hE ⊢
  have hA : ∀ q : Nat, s.heap.size ≤ q → A q := fun q h => by rw [← hAe]; exact Or.inr h
  have hS : va_S A s.heap s.heap [] := va_S.rf
  have hP : va_P (dC, dI) cls [] s.heap := hP
  have hl := lv_entry ([.long p0, .int p1]) (n := 3) (Nat.le_of_ble_eq_true rfl)
  rw [lg_entry_eq]
  generalize (lg_sl ([.long p0, .int p1]) ++ List.replicate (3 - (lg_sl ([.long p0, .int p1])).length) Slot.unset).toArray = ls at hl ⊢
  have hl : lv_has ls 3 [(0, .long p0), (2, .int p1)] := hl
  refine lv_iload_n hx hb dX4_isIn_0 rfl (lv_at hl 1 rfl) ?_
  by_cases hc1 : p1 < 0
  · refine lv_if_lt (tgt := 16) hx hb dX4_isIn_1 (by decide) (fun _ => ?_) (fun c => absurd hc1 c)
    refine lv_iconst (v := 0) hx hb dX4_isIn_16 (by decide) ?_
    have e_sX4_isIn_r : sX4_isIn_r p0 p1 = 0 := by unfold sX4_isIn_r; rw [if_pos hc1]
    have hP9 : va_P (dC, dI) cls [] s.heap := by exact hP.sub [] rfl
    have hD9 : va_D A [] := by exact hD.sub [] (by decide) rfl
    have hK9 : va_K (dC, dI) cls [] s := hK.sub [] rfl
    refine W.widen (k := 0) (n := 0) (Nat.le_of_ble_eq_true rfl) (Nat.le_of_ble_eq_true rfl) ?_
    exact W.zret (v := 0) hx hb hr (by decide) (fun t ht hW => ⟨⟨0, (), rfl, e_sX4_isIn_r.symm, ⟨by rw [ht]; exact hP9, va_K.moved hW.alike hK9, hD9⟩⟩, hS.F ht⟩) hS.2.2 dX4_isIn_17
  · refine lv_if_lt (tgt := 16) hx hb dX4_isIn_1 (by decide) (fun c => absurd c hc1) (fun _ => ?_)
    refine lv_lload_n hx hb dX4_isIn_4 rfl (lv_at hl 0 rfl) ?_
    refine lv_iload_n hx hb dX4_isIn_5 rfl (lv_at hl 1 rfl) ?_
    have hPc := hP.sub (ws' := []) [] rfl
    have hDc := hD.sub (ws' := []) [] (by decide) rfl
    have hKc := hK.sub (tys' := []) [] rfl
    have hFc := va_free (wc := []) hD hS hA [] rfl
    refine va_calli (va_runSN (As := [.long p0, .int p1]) (rest := []) ⟨hx, hb, hml, hown, hts⟩ (kX11_holds l dC dI (p0 := p0) (p1 := p1) (sz := _)) ⟨(va_cnB 2 hts (gi_z qw245) rfl rfl rfl (hE.nw (List.mem_append_right _ (tbl_6 (i := 75) rfl)) rfl) (hts _ qw120) (by decide +kernel) ⟨Nat.le_of_ble_eq_true rfl, Nat.le_of_ble_eq_true rfl⟩), (hts _ qw246), trivial⟩ ⟨PRE.blind, PRE.of hE hS hFc hPc hKc hDc⟩ rfl rfl hl.1 rfl (lv_room (Nat.le_of_ble_eq_true rfl)) dX4_isIn_6 ⟨Nat.le_of_ble_eq_true rfl, Nat.le_of_ble_eq_true rfl⟩) hS (fun q _ h => hFc q h) hFc (fun r1 u t H locs ht hvm hw hB hz1 hk1 hS => ?_)
    obtain ⟨hP, hD, hK⟩ := JOIN (wr := []) hP hD hK [] [] [] rfl rfl (by decide) (by decide) rfl hk1 hFc ht hvm hB
    have hP : va_P (dC, dI) cls [] H := hP
    have hD : va_D A [] := hD
    have hK : va_K (dC, dI) cls [] s := hK
    refine W.widen (k := 0) (n := 0) (Nat.le_of_ble_eq_true rfl) (Nat.le_of_ble_eq_true rfl) ?_
    obtain rfl : r1 = (sX11_holds_r p0 p1) := hw
    by_cases hc2 : (sX11_holds_r p0 p1) = 0
    · refine lv_if_eq (tgt := 16) hx hb dX4_isIn_9 (by decide) (fun _ => ?_) (fun c => absurd hc2 c)
      refine lv_iconst (v := 0) hx hb dX4_isIn_16 (by decide) ?_
      have e_sX4_isIn_r : sX4_isIn_r p0 p1 = 0 := by unfold sX4_isIn_r; rw [if_neg hc1, if_pos hc2]
      have hP9 : va_P (dC, dI) cls [] H := by exact hP.sub [] rfl
      have hD9 : va_D A [] := by exact hD.sub [] (by decide) rfl
      have hK9 : va_K (dC, dI) cls [] s := hK.sub [] rfl
      refine W.widen (k := 0) (n := 0) (Nat.le_of_ble_eq_true rfl) (Nat.le_of_ble_eq_true rfl) ?_
      exact W.zret (v := 0) hx hb hr (by decide) (fun t ht hW => ⟨⟨0, (), rfl, e_sX4_isIn_r.symm, ⟨by rw [ht]; exact hP9, va_K.moved hW.alike hK9, hD9⟩⟩, hS.F ht⟩) hS.2.2 dX4_isIn_17
    · refine lv_if_eq (tgt := 16) hx hb dX4_isIn_9 (by decide) (fun c => absurd c hc2) (fun _ => ?_)
      refine lv_iconst (v := 1) hx hb dX4_isIn_12 (by decide) ?_
      refine lv_goto (tgt := 17) hx hb dX4_isIn_13 (by decide) ?_
      have e_sX4_isIn_r : sX4_isIn_r p0 p1 = 1 := by unfold sX4_isIn_r; rw [if_neg hc1, if_neg hc2]
      have hP9 : va_P (dC, dI) cls [] H := by exact hP.sub [] rfl
      have hD9 : va_D A [] := by exact hD.sub [] (by decide) rfl
      have hK9 : va_K (dC, dI) cls [] s := hK.sub [] rfl
      refine W.widen (k := 0) (n := 0) (Nat.le_of_ble_eq_true rfl) (Nat.le_of_ble_eq_true rfl) ?_
      exact W.zret (v := 1) hx hb hr (by decide) (fun t ht hW => ⟨⟨1, (), rfl, e_sX4_isIn_r.symm, ⟨by rw [ht]; exact hP9, va_K.moved hW.alike hK9, hD9⟩⟩, hS.F ht⟩) hS.2.2 dX4_isIn_17
def sX4_opsFrom_r (pieceFromF : Nat → Int32) (pieceOfF : Nat → Int32) (p0 : Int32) : Int32 := (if 0 ≤ (pieceOfF (Int32.toNatClampNeg p0)) then (pieceFromF (Int32.toNatClampNeg (pieceOfF (Int32.toNatClampNeg p0)))) else 0)
set_option maxHeartbeats 4000000 in
set_option maxRecDepth 100000 in
theorem kX4_opsFrom {zs : Nat × Nat} (l : Launch) (dC : Nat → ClassId) (dI : Nat → Nat → Nat) (h0 : Nat) (leftOpA : Nat) (rightOpA : Nat) (valueOfA : Nat) (waitingA : Nat) (pieces : Int32) (pieceFromA : Nat) (pieceFromC : ClassId) (pieceFromF : Nat → Int32) (pieceToA : Nat) (pieceFirstA : Nat) (pieceSecondA : Nat) (pieceWaysA : Nat) (pieceBlockA : Nat) (labelPieceA : Nat) (foundA : Nat) (pieceOfA : Nat) (pieceOfC : ClassId) (pieceOfF : Nat → Int32) (usesA : Nat) (assignsA : Nat) (borderA : Nat) (phiVariableA : Nat) (nowA : Nat) (shapeO : Nat) (p0 : Int32) (sz : Nat) (hq1 : vp_in p0 60) (hq2 : 0 ≤ (pieceOfF (Int32.toNatClampNeg p0)) → vp_in (pieceOfF (Int32.toNatClampNeg p0)) 640) : Met l yX4_opsFrom (wz yX4_opsFrom cX4_opsFrom 2 (Option.some Jvm.ClassFile.FieldType.int)) ({ frames := 0, cells := 0, slots := 0, locals := 0 }) (va_Pc [.ref h0, .int p0] (PRE zs dC dI [(h0, .inr (6, [.ref shapeO, .ref leftOpA, .ref rightOpA, .ref valueOfA, .ref waitingA, .int pieces, .ref pieceFromA, .ref pieceToA, .ref pieceFirstA, .ref pieceSecondA, .ref pieceWaysA, .ref pieceBlockA, .ref labelPieceA, .ref foundA, .ref pieceOfA, .ref usesA, .ref assignsA, .ref borderA, .ref phiVariableA, .ref nowA])), (pieceFromA, .inl (pieceFromC, 640, .inl pieceFromF)), (pieceOfA, .inl (pieceOfC, 60, .inl pieceOfF))] [(pieceFromC, .int), (pieceOfC, .int)] sz)) (va_Qi (fun (r : Int32) (_ : Unit) => r = (sX4_opsFrom_r pieceFromF pieceOfF p0)) (fun _ t => POST dC dI [(h0, .inr (6, [.ref shapeO, .ref leftOpA, .ref rightOpA, .ref valueOfA, .ref waitingA, .int pieces, .ref pieceFromA, .ref pieceToA, .ref pieceFirstA, .ref pieceSecondA, .ref pieceWaysA, .ref pieceBlockA, .ref labelPieceA, .ref foundA, .ref pieceOfA, .ref usesA, .ref assignsA, .ref borderA, .ref phiVariableA, .ref nowA])), (pieceFromA, .inl (pieceFromC, 640, .inl pieceFromF)), (pieceOfA, .inl (pieceOfC, 60, .inl pieceOfF))] [(pieceFromC, .int), (pieceOfC, .int)] (va_A [(h0, .inr (6, [.ref shapeO, .ref leftOpA, .ref rightOpA, .ref valueOfA, .ref waitingA, .int pieces, .ref pieceFromA, .ref pieceToA, .ref pieceFirstA, .ref pieceSecondA, .ref pieceWaysA, .ref pieceBlockA, .ref labelPieceA, .ref foundA, .ref pieceOfA, .ref usesA, .ref assignsA, .ref borderA, .ref phiVariableA, .ref nowA])), (pieceFromA, .inl (pieceFromC, 640, .inl pieceFromF)), (pieceOfA, .inl (pieceOfC, 60, .inl pieceOfF))] sz) t) (va_A [(h0, .inr (6, [.ref shapeO, .ref leftOpA, .ref rightOpA, .ref valueOfA, .ref waitingA, .int pieces, .ref pieceFromA, .ref pieceToA, .ref pieceFirstA, .ref pieceSecondA, .ref pieceWaysA, .ref pieceBlockA, .ref labelPieceA, .ref foundA, .ref pieceOfA, .ref usesA, .ref assignsA, .ref borderA, .ref phiVariableA, .ref nowA])), (pieceFromA, .inl (pieceFromC, 640, .inl pieceFromF)), (pieceOfA, .inl (pieceOfC, 60, .inl pieceOfF))] sz)) 0 0 (va_A [(h0, .inr (6, [.ref shapeO, .ref leftOpA, .ref rightOpA, .ref valueOfA, .ref waitingA, .int pieces, .ref pieceFromA, .ref pieceToA, .ref pieceFirstA, .ref pieceSecondA, .ref pieceWaysA, .ref pieceBlockA, .ref labelPieceA, .ref foundA, .ref pieceOfA, .ref usesA, .ref assignsA, .ref borderA, .ref phiVariableA, .ref nowA])), (pieceFromA, .inl (pieceFromC, 640, .inl pieceFromF)), (pieceOfA, .inl (pieceOfC, 60, .inl pieceOfF))] sz) := by
  refine Met.ofW (cc := cX4_opsFrom) (maxL := 2) (ret := (Option.some Jvm.ClassFile.FieldType.int)) (by decide) rfl ?_
  intro p e s m args below meth c s₁ B hml hv
  obtain ⟨rfl, hsz, hP, hK, hD0, hE⟩ := hv
  have hx := B.exec
  have hb := B.bytes
  have hr := B.returns
  have hts0 := atoms_spec (ws := wz yX4_opsFrom cX4_opsFrom 2 (Option.some Jvm.ClassFile.FieldType.int)) B.pre
  have hts : ∀ w ∈ gw, w.before _ s = true := fun w h => hts0 w (List.mem_cons_of_mem _ h)
  have hown : s.vm.findClass RX4 = some m.cls := findClass_of_methodNamed B.named
  have hlocks := B.notSynchronized
  subst hsz
  have hD := hD0.self (sz := s.heap.size)
  generalize hAe : va_A [(h0, .inr (6, [.ref shapeO, .ref leftOpA, .ref rightOpA, .ref valueOfA, .ref waitingA, .int pieces, .ref pieceFromA, .ref pieceToA, .ref pieceFirstA, .ref pieceSecondA, .ref pieceWaysA, .ref pieceBlockA, .ref labelPieceA, .ref foundA, .ref pieceOfA, .ref usesA, .ref assignsA, .ref borderA, .ref phiVariableA, .ref nowA])), (pieceFromA, .inl (pieceFromC, 640, .inl pieceFromF)), (pieceOfA, .inl (pieceOfC, 60, .inl pieceOfF))] s.heap.size = A at hD hE ⊢
  have hA : ∀ q : Nat, s.heap.size ≤ q → A q := fun q h => by rw [← hAe]; exact Or.inr h
  have hS : va_S A s.heap s.heap [] := va_S.rf
  have hP : va_P (dC, dI) cls [(h0, .inr (6, [.ref shapeO, .ref leftOpA, .ref rightOpA, .ref valueOfA, .ref waitingA, .int pieces, .ref pieceFromA, .ref pieceToA, .ref pieceFirstA, .ref pieceSecondA, .ref pieceWaysA, .ref pieceBlockA, .ref labelPieceA, .ref foundA, .ref pieceOfA, .ref usesA, .ref assignsA, .ref borderA, .ref phiVariableA, .ref nowA])), (pieceFromA, .inl (pieceFromC, 640, .inl pieceFromF)), (pieceOfA, .inl (pieceOfC, 60, .inl pieceOfF))] s.heap := hP
  have hl := lv_entry ([.ref h0, .int p0]) (n := 2) (Nat.le_of_ble_eq_true rfl)
  rw [lg_entry_eq]
  generalize (lg_sl ([.ref h0, .int p0]) ++ List.replicate (2 - (lg_sl ([.ref h0, .int p0])).length) Slot.unset).toArray = ls at hl ⊢
  have hl : lv_has ls 2 [(0, .ref h0), (1, .int p0)] := hl
  refine lv_aload_n hx hb dX4_opsFrom_0 rfl (lv_at hl 0 rfl) ?_
  refine va_get (D := (dC, dI)) (ci := 6) (v := .ref pieceOfA) (C := RX4) (T := TX4) (N := 20) hx hb hts i_X4 hown hK hP 0 rfl rfl 14 (by decide) (hts _ qw76) (fun _ h9 => h9) rfl dX4_opsFrom_1 ?_
  refine lv_iload_n hx hb dX4_opsFrom_4 rfl (lv_at hl 1 rfl) ?_
  refine va_iald hx hb hK hP 2 1 rfl rfl (hq1) dX4_opsFrom_5 ?_
  by_cases hc1 : 0 ≤ (pieceOfF (Int32.toNatClampNeg p0))
  · refine lv_if_ge (tgt := 13) hx hb dX4_opsFrom_6 (by decide) (fun _ => ?_) (fun c => absurd hc1 c)
    refine lv_aload_n hx hb dX4_opsFrom_13 rfl (lv_at hl 0 rfl) ?_
    refine va_get (D := (dC, dI)) (ci := 6) (v := .ref pieceFromA) (C := RX4) (T := TX4) (N := 20) hx hb hts i_X4 hown hK hP 0 rfl rfl 6 (by decide) (hts _ qw68) (fun _ h9 => h9) rfl dX4_opsFrom_14 ?_
    refine lv_aload_n hx hb dX4_opsFrom_17 rfl (lv_at hl 0 rfl) ?_
    refine va_get (D := (dC, dI)) (ci := 6) (v := .ref pieceOfA) (C := RX4) (T := TX4) (N := 20) hx hb hts i_X4 hown hK hP 0 rfl rfl 14 (by decide) (hts _ qw76) (fun _ h9 => h9) rfl dX4_opsFrom_18 ?_
    refine lv_iload_n hx hb dX4_opsFrom_21 rfl (lv_at hl 1 rfl) ?_
    refine va_iald hx hb hK hP 2 1 rfl rfl (hq1) dX4_opsFrom_22 ?_
    refine va_iald hx hb hK hP 1 0 rfl rfl (hq2 hc1) dX4_opsFrom_23 ?_
    have e_sX4_opsFrom_r : sX4_opsFrom_r pieceFromF pieceOfF p0 = (pieceFromF (Int32.toNatClampNeg (pieceOfF (Int32.toNatClampNeg p0)))) := by unfold sX4_opsFrom_r; rw [if_pos hc1]
    have hP9 : va_P (dC, dI) cls [(h0, .inr (6, [.ref shapeO, .ref leftOpA, .ref rightOpA, .ref valueOfA, .ref waitingA, .int pieces, .ref pieceFromA, .ref pieceToA, .ref pieceFirstA, .ref pieceSecondA, .ref pieceWaysA, .ref pieceBlockA, .ref labelPieceA, .ref foundA, .ref pieceOfA, .ref usesA, .ref assignsA, .ref borderA, .ref phiVariableA, .ref nowA])), (pieceFromA, .inl (pieceFromC, 640, .inl pieceFromF)), (pieceOfA, .inl (pieceOfC, 60, .inl pieceOfF))] s.heap := by exact hP.sub [0, 1, 2] rfl
    have hD9 : va_D A [(h0, .inr (6, [.ref shapeO, .ref leftOpA, .ref rightOpA, .ref valueOfA, .ref waitingA, .int pieces, .ref pieceFromA, .ref pieceToA, .ref pieceFirstA, .ref pieceSecondA, .ref pieceWaysA, .ref pieceBlockA, .ref labelPieceA, .ref foundA, .ref pieceOfA, .ref usesA, .ref assignsA, .ref borderA, .ref phiVariableA, .ref nowA])), (pieceFromA, .inl (pieceFromC, 640, .inl pieceFromF)), (pieceOfA, .inl (pieceOfC, 60, .inl pieceOfF))] := by exact hD.sub [0, 1, 2] (by decide) rfl
    have hK9 : va_K (dC, dI) cls [(pieceFromC, .int), (pieceOfC, .int)] s := hK.sub [0, 1] rfl
    refine W.widen (k := 0) (n := 0) (Nat.le_of_ble_eq_true rfl) (Nat.le_of_ble_eq_true rfl) ?_
    exact W.iret (v := (pieceFromF (Int32.toNatClampNeg (pieceOfF (Int32.toNatClampNeg p0))))) hx hb hr (fun t ht hW => ⟨⟨(pieceFromF (Int32.toNatClampNeg (pieceOfF (Int32.toNatClampNeg p0)))), (), rfl, e_sX4_opsFrom_r.symm, ⟨by rw [ht]; exact hP9, va_K.moved hW.alike hK9, hD9⟩⟩, hS.F ht⟩) hS.2.2 dX4_opsFrom_24
  · refine lv_if_ge (tgt := 13) hx hb dX4_opsFrom_6 (by decide) (fun c => absurd c hc1) (fun _ => ?_)
    refine lv_iconst (v := 0) hx hb dX4_opsFrom_9 (by decide) ?_
    refine lv_goto (tgt := 24) hx hb dX4_opsFrom_10 (by decide) ?_
    have e_sX4_opsFrom_r : sX4_opsFrom_r pieceFromF pieceOfF p0 = 0 := by unfold sX4_opsFrom_r; rw [if_neg hc1]
    have hP9 : va_P (dC, dI) cls [(h0, .inr (6, [.ref shapeO, .ref leftOpA, .ref rightOpA, .ref valueOfA, .ref waitingA, .int pieces, .ref pieceFromA, .ref pieceToA, .ref pieceFirstA, .ref pieceSecondA, .ref pieceWaysA, .ref pieceBlockA, .ref labelPieceA, .ref foundA, .ref pieceOfA, .ref usesA, .ref assignsA, .ref borderA, .ref phiVariableA, .ref nowA])), (pieceFromA, .inl (pieceFromC, 640, .inl pieceFromF)), (pieceOfA, .inl (pieceOfC, 60, .inl pieceOfF))] s.heap := by exact hP.sub [0, 1, 2] rfl
    have hD9 : va_D A [(h0, .inr (6, [.ref shapeO, .ref leftOpA, .ref rightOpA, .ref valueOfA, .ref waitingA, .int pieces, .ref pieceFromA, .ref pieceToA, .ref pieceFirstA, .ref pieceSecondA, .ref pieceWaysA, .ref pieceBlockA, .ref labelPieceA, .ref foundA, .ref pieceOfA, .ref usesA, .ref assignsA, .ref borderA, .ref phiVariableA, .ref nowA])), (pieceFromA, .inl (pieceFromC, 640, .inl pieceFromF)), (pieceOfA, .inl (pieceOfC, 60, .inl pieceOfF))] := by exact hD.sub [0, 1, 2] (by decide) rfl
    have hK9 : va_K (dC, dI) cls [(pieceFromC, .int), (pieceOfC, .int)] s := hK.sub [0, 1] rfl
    refine W.widen (k := 0) (n := 0) (Nat.le_of_ble_eq_true rfl) (Nat.le_of_ble_eq_true rfl) ?_
    exact W.iret (v := 0) hx hb hr (fun t ht hW => ⟨⟨0, (), rfl, e_sX4_opsFrom_r.symm, ⟨by rw [ht]; exact hP9, va_K.moved hW.alike hK9, hD9⟩⟩, hS.F ht⟩) hS.2.2 dX4_opsFrom_24
def sX4_opsTo_r (pieceToF : Nat → Int32) (pieceOfF : Nat → Int32) (p0 : Int32) : Int32 := (if 0 ≤ (pieceOfF (Int32.toNatClampNeg p0)) then (pieceToF (Int32.toNatClampNeg (pieceOfF (Int32.toNatClampNeg p0)))) else 0)
set_option maxHeartbeats 4000000 in
set_option maxRecDepth 100000 in
theorem kX4_opsTo {zs : Nat × Nat} (l : Launch) (dC : Nat → ClassId) (dI : Nat → Nat → Nat) (h0 : Nat) (leftOpA : Nat) (rightOpA : Nat) (valueOfA : Nat) (waitingA : Nat) (pieces : Int32) (pieceFromA : Nat) (pieceToA : Nat) (pieceToC : ClassId) (pieceToF : Nat → Int32) (pieceFirstA : Nat) (pieceSecondA : Nat) (pieceWaysA : Nat) (pieceBlockA : Nat) (labelPieceA : Nat) (foundA : Nat) (pieceOfA : Nat) (pieceOfC : ClassId) (pieceOfF : Nat → Int32) (usesA : Nat) (assignsA : Nat) (borderA : Nat) (phiVariableA : Nat) (nowA : Nat) (shapeO : Nat) (p0 : Int32) (sz : Nat) (hq1 : vp_in p0 60) (hq2 : 0 ≤ (pieceOfF (Int32.toNatClampNeg p0)) → vp_in (pieceOfF (Int32.toNatClampNeg p0)) 640) : Met l yX4_opsTo (wz yX4_opsTo cX4_opsTo 2 (Option.some Jvm.ClassFile.FieldType.int)) ({ frames := 0, cells := 0, slots := 0, locals := 0 }) (va_Pc [.ref h0, .int p0] (PRE zs dC dI [(h0, .inr (6, [.ref shapeO, .ref leftOpA, .ref rightOpA, .ref valueOfA, .ref waitingA, .int pieces, .ref pieceFromA, .ref pieceToA, .ref pieceFirstA, .ref pieceSecondA, .ref pieceWaysA, .ref pieceBlockA, .ref labelPieceA, .ref foundA, .ref pieceOfA, .ref usesA, .ref assignsA, .ref borderA, .ref phiVariableA, .ref nowA])), (pieceToA, .inl (pieceToC, 640, .inl pieceToF)), (pieceOfA, .inl (pieceOfC, 60, .inl pieceOfF))] [(pieceToC, .int), (pieceOfC, .int)] sz)) (va_Qi (fun (r : Int32) (_ : Unit) => r = (sX4_opsTo_r pieceToF pieceOfF p0)) (fun _ t => POST dC dI [(h0, .inr (6, [.ref shapeO, .ref leftOpA, .ref rightOpA, .ref valueOfA, .ref waitingA, .int pieces, .ref pieceFromA, .ref pieceToA, .ref pieceFirstA, .ref pieceSecondA, .ref pieceWaysA, .ref pieceBlockA, .ref labelPieceA, .ref foundA, .ref pieceOfA, .ref usesA, .ref assignsA, .ref borderA, .ref phiVariableA, .ref nowA])), (pieceToA, .inl (pieceToC, 640, .inl pieceToF)), (pieceOfA, .inl (pieceOfC, 60, .inl pieceOfF))] [(pieceToC, .int), (pieceOfC, .int)] (va_A [(h0, .inr (6, [.ref shapeO, .ref leftOpA, .ref rightOpA, .ref valueOfA, .ref waitingA, .int pieces, .ref pieceFromA, .ref pieceToA, .ref pieceFirstA, .ref pieceSecondA, .ref pieceWaysA, .ref pieceBlockA, .ref labelPieceA, .ref foundA, .ref pieceOfA, .ref usesA, .ref assignsA, .ref borderA, .ref phiVariableA, .ref nowA])), (pieceToA, .inl (pieceToC, 640, .inl pieceToF)), (pieceOfA, .inl (pieceOfC, 60, .inl pieceOfF))] sz) t) (va_A [(h0, .inr (6, [.ref shapeO, .ref leftOpA, .ref rightOpA, .ref valueOfA, .ref waitingA, .int pieces, .ref pieceFromA, .ref pieceToA, .ref pieceFirstA, .ref pieceSecondA, .ref pieceWaysA, .ref pieceBlockA, .ref labelPieceA, .ref foundA, .ref pieceOfA, .ref usesA, .ref assignsA, .ref borderA, .ref phiVariableA, .ref nowA])), (pieceToA, .inl (pieceToC, 640, .inl pieceToF)), (pieceOfA, .inl (pieceOfC, 60, .inl pieceOfF))] sz)) 0 0 (va_A [(h0, .inr (6, [.ref shapeO, .ref leftOpA, .ref rightOpA, .ref valueOfA, .ref waitingA, .int pieces, .ref pieceFromA, .ref pieceToA, .ref pieceFirstA, .ref pieceSecondA, .ref pieceWaysA, .ref pieceBlockA, .ref labelPieceA, .ref foundA, .ref pieceOfA, .ref usesA, .ref assignsA, .ref borderA, .ref phiVariableA, .ref nowA])), (pieceToA, .inl (pieceToC, 640, .inl pieceToF)), (pieceOfA, .inl (pieceOfC, 60, .inl pieceOfF))] sz) := by
  refine Met.ofW (cc := cX4_opsTo) (maxL := 2) (ret := (Option.some Jvm.ClassFile.FieldType.int)) (by decide) rfl ?_
  intro p e s m args below meth c s₁ B hml hv
  obtain ⟨rfl, hsz, hP, hK, hD0, hE⟩ := hv
  have hx := B.exec
  have hb := B.bytes
  have hr := B.returns
  have hts0 := atoms_spec (ws := wz yX4_opsTo cX4_opsTo 2 (Option.some Jvm.ClassFile.FieldType.int)) B.pre
  have hts : ∀ w ∈ gw, w.before _ s = true := fun w h => hts0 w (List.mem_cons_of_mem _ h)
  have hown : s.vm.findClass RX4 = some m.cls := findClass_of_methodNamed B.named
  have hlocks := B.notSynchronized
  subst hsz
  have hD := hD0.self (sz := s.heap.size)
  generalize hAe : va_A [(h0, .inr (6, [.ref shapeO, .ref leftOpA, .ref rightOpA, .ref valueOfA, .ref waitingA, .int pieces, .ref pieceFromA, .ref pieceToA, .ref pieceFirstA, .ref pieceSecondA, .ref pieceWaysA, .ref pieceBlockA, .ref labelPieceA, .ref foundA, .ref pieceOfA, .ref usesA, .ref assignsA, .ref borderA, .ref phiVariableA, .ref nowA])), (pieceToA, .inl (pieceToC, 640, .inl pieceToF)), (pieceOfA, .inl (pieceOfC, 60, .inl pieceOfF))] s.heap.size = A at hD hE ⊢
  have hA : ∀ q : Nat, s.heap.size ≤ q → A q := fun q h => by rw [← hAe]; exact Or.inr h
  have hS : va_S A s.heap s.heap [] := va_S.rf
  have hP : va_P (dC, dI) cls [(h0, .inr (6, [.ref shapeO, .ref leftOpA, .ref rightOpA, .ref valueOfA, .ref waitingA, .int pieces, .ref pieceFromA, .ref pieceToA, .ref pieceFirstA, .ref pieceSecondA, .ref pieceWaysA, .ref pieceBlockA, .ref labelPieceA, .ref foundA, .ref pieceOfA, .ref usesA, .ref assignsA, .ref borderA, .ref phiVariableA, .ref nowA])), (pieceToA, .inl (pieceToC, 640, .inl pieceToF)), (pieceOfA, .inl (pieceOfC, 60, .inl pieceOfF))] s.heap := hP
  have hl := lv_entry ([.ref h0, .int p0]) (n := 2) (Nat.le_of_ble_eq_true rfl)
  rw [lg_entry_eq]
  generalize (lg_sl ([.ref h0, .int p0]) ++ List.replicate (2 - (lg_sl ([.ref h0, .int p0])).length) Slot.unset).toArray = ls at hl ⊢
  have hl : lv_has ls 2 [(0, .ref h0), (1, .int p0)] := hl
  refine lv_aload_n hx hb dX4_opsTo_0 rfl (lv_at hl 0 rfl) ?_
  refine va_get (D := (dC, dI)) (ci := 6) (v := .ref pieceOfA) (C := RX4) (T := TX4) (N := 20) hx hb hts i_X4 hown hK hP 0 rfl rfl 14 (by decide) (hts _ qw76) (fun _ h9 => h9) rfl dX4_opsTo_1 ?_
  refine lv_iload_n hx hb dX4_opsTo_4 rfl (lv_at hl 1 rfl) ?_
  refine va_iald hx hb hK hP 2 1 rfl rfl (hq1) dX4_opsTo_5 ?_
  by_cases hc1 : 0 ≤ (pieceOfF (Int32.toNatClampNeg p0))
  · refine lv_if_ge (tgt := 13) hx hb dX4_opsTo_6 (by decide) (fun _ => ?_) (fun c => absurd hc1 c)
    refine lv_aload_n hx hb dX4_opsTo_13 rfl (lv_at hl 0 rfl) ?_
    refine va_get (D := (dC, dI)) (ci := 6) (v := .ref pieceToA) (C := RX4) (T := TX4) (N := 20) hx hb hts i_X4 hown hK hP 0 rfl rfl 7 (by decide) (hts _ qw69) (fun _ h9 => h9) rfl dX4_opsTo_14 ?_
    refine lv_aload_n hx hb dX4_opsTo_17 rfl (lv_at hl 0 rfl) ?_
    refine va_get (D := (dC, dI)) (ci := 6) (v := .ref pieceOfA) (C := RX4) (T := TX4) (N := 20) hx hb hts i_X4 hown hK hP 0 rfl rfl 14 (by decide) (hts _ qw76) (fun _ h9 => h9) rfl dX4_opsTo_18 ?_
    refine lv_iload_n hx hb dX4_opsTo_21 rfl (lv_at hl 1 rfl) ?_
    refine va_iald hx hb hK hP 2 1 rfl rfl (hq1) dX4_opsTo_22 ?_
    refine va_iald hx hb hK hP 1 0 rfl rfl (hq2 hc1) dX4_opsTo_23 ?_
    have e_sX4_opsTo_r : sX4_opsTo_r pieceToF pieceOfF p0 = (pieceToF (Int32.toNatClampNeg (pieceOfF (Int32.toNatClampNeg p0)))) := by unfold sX4_opsTo_r; rw [if_pos hc1]
    have hP9 : va_P (dC, dI) cls [(h0, .inr (6, [.ref shapeO, .ref leftOpA, .ref rightOpA, .ref valueOfA, .ref waitingA, .int pieces, .ref pieceFromA, .ref pieceToA, .ref pieceFirstA, .ref pieceSecondA, .ref pieceWaysA, .ref pieceBlockA, .ref labelPieceA, .ref foundA, .ref pieceOfA, .ref usesA, .ref assignsA, .ref borderA, .ref phiVariableA, .ref nowA])), (pieceToA, .inl (pieceToC, 640, .inl pieceToF)), (pieceOfA, .inl (pieceOfC, 60, .inl pieceOfF))] s.heap := by exact hP.sub [0, 1, 2] rfl
    have hD9 : va_D A [(h0, .inr (6, [.ref shapeO, .ref leftOpA, .ref rightOpA, .ref valueOfA, .ref waitingA, .int pieces, .ref pieceFromA, .ref pieceToA, .ref pieceFirstA, .ref pieceSecondA, .ref pieceWaysA, .ref pieceBlockA, .ref labelPieceA, .ref foundA, .ref pieceOfA, .ref usesA, .ref assignsA, .ref borderA, .ref phiVariableA, .ref nowA])), (pieceToA, .inl (pieceToC, 640, .inl pieceToF)), (pieceOfA, .inl (pieceOfC, 60, .inl pieceOfF))] := by exact hD.sub [0, 1, 2] (by decide) rfl
    have hK9 : va_K (dC, dI) cls [(pieceToC, .int), (pieceOfC, .int)] s := hK.sub [0, 1] rfl
    refine W.widen (k := 0) (n := 0) (Nat.le_of_ble_eq_true rfl) (Nat.le_of_ble_eq_true rfl) ?_
    exact W.iret (v := (pieceToF (Int32.toNatClampNeg (pieceOfF (Int32.toNatClampNeg p0))))) hx hb hr (fun t ht hW => ⟨⟨(pieceToF (Int32.toNatClampNeg (pieceOfF (Int32.toNatClampNeg p0)))), (), rfl, e_sX4_opsTo_r.symm, ⟨by rw [ht]; exact hP9, va_K.moved hW.alike hK9, hD9⟩⟩, hS.F ht⟩) hS.2.2 dX4_opsTo_24
  · refine lv_if_ge (tgt := 13) hx hb dX4_opsTo_6 (by decide) (fun c => absurd c hc1) (fun _ => ?_)
    refine lv_iconst (v := 0) hx hb dX4_opsTo_9 (by decide) ?_
    refine lv_goto (tgt := 24) hx hb dX4_opsTo_10 (by decide) ?_
    have e_sX4_opsTo_r : sX4_opsTo_r pieceToF pieceOfF p0 = 0 := by unfold sX4_opsTo_r; rw [if_neg hc1]
    have hP9 : va_P (dC, dI) cls [(h0, .inr (6, [.ref shapeO, .ref leftOpA, .ref rightOpA, .ref valueOfA, .ref waitingA, .int pieces, .ref pieceFromA, .ref pieceToA, .ref pieceFirstA, .ref pieceSecondA, .ref pieceWaysA, .ref pieceBlockA, .ref labelPieceA, .ref foundA, .ref pieceOfA, .ref usesA, .ref assignsA, .ref borderA, .ref phiVariableA, .ref nowA])), (pieceToA, .inl (pieceToC, 640, .inl pieceToF)), (pieceOfA, .inl (pieceOfC, 60, .inl pieceOfF))] s.heap := by exact hP.sub [0, 1, 2] rfl
    have hD9 : va_D A [(h0, .inr (6, [.ref shapeO, .ref leftOpA, .ref rightOpA, .ref valueOfA, .ref waitingA, .int pieces, .ref pieceFromA, .ref pieceToA, .ref pieceFirstA, .ref pieceSecondA, .ref pieceWaysA, .ref pieceBlockA, .ref labelPieceA, .ref foundA, .ref pieceOfA, .ref usesA, .ref assignsA, .ref borderA, .ref phiVariableA, .ref nowA])), (pieceToA, .inl (pieceToC, 640, .inl pieceToF)), (pieceOfA, .inl (pieceOfC, 60, .inl pieceOfF))] := by exact hD.sub [0, 1, 2] (by decide) rfl
    have hK9 : va_K (dC, dI) cls [(pieceToC, .int), (pieceOfC, .int)] s := hK.sub [0, 1] rfl
    refine W.widen (k := 0) (n := 0) (Nat.le_of_ble_eq_true rfl) (Nat.le_of_ble_eq_true rfl) ?_
    exact W.iret (v := 0) hx hb hr (fun t ht hW => ⟨⟨0, (), rfl, e_sX4_opsTo_r.symm, ⟨by rw [ht]; exact hP9, va_K.moved hW.alike hK9, hD9⟩⟩, hS.F ht⟩) hS.2.2 dX4_opsTo_24
def sX4_reachOne_1 (pieces : Int32) (pieceWaysF : Nat → Int32) (pieceBlockF : Nat → Int32) (p0 : Int32) : Nat → Int32 := (if p0 < 0 then pieceWaysF else (if p0 < pieces then (if (pieceBlockF (Int32.toNatClampNeg p0)) < 0 then (upd pieceWaysF (Int32.toNatClampNeg p0) ((pieceWaysF (Int32.toNatClampNeg p0)) + 1)) else (upd pieceWaysF (Int32.toNatClampNeg p0) ((pieceWaysF (Int32.toNatClampNeg p0)) + 1))) else pieceWaysF))
def sX4_reachOne_2 (pieces : Int32) (pieceBlockF : Nat → Int32) (p0 : Int32) (p1 : Int32) : Nat → Int32 := (if p0 < 0 then pieceBlockF else (if p0 < pieces then (if (pieceBlockF (Int32.toNatClampNeg p0)) < 0 then (upd pieceBlockF (Int32.toNatClampNeg p0) p1) else pieceBlockF) else pieceBlockF))
def sX4_reachOne_3 (pieces : Int32) (pieceBlockF : Nat → Int32) (foundF : Nat → Int32) (p0 : Int32) (p1 : Int32) : Nat → Int32 := (if p0 < 0 then foundF else (if p0 < pieces then (if (pieceBlockF (Int32.toNatClampNeg p0)) < 0 then (upd foundF (Int32.toNatClampNeg p1) p0) else foundF) else foundF))
def sX4_reachOne_r (pieces : Int32) (pieceBlockF : Nat → Int32) (p0 : Int32) (p1 : Int32) : Int32 := (if p0 < 0 then p1 else (if p0 < pieces then (if (pieceBlockF (Int32.toNatClampNeg p0)) < 0 then (p1 + 1) else p1) else p1))
set_option maxHeartbeats 4000000 in
set_option maxRecDepth 100000 in
theorem kX4_reachOne {zs : Nat × Nat} (l : Launch) (dC : Nat → ClassId) (dI : Nat → Nat → Nat) (h0 : Nat) (leftOpA : Nat) (rightOpA : Nat) (valueOfA : Nat) (waitingA : Nat) (pieces : Int32) (pieceFromA : Nat) (pieceToA : Nat) (pieceFirstA : Nat) (pieceSecondA : Nat) (pieceWaysA : Nat) (pieceWaysC : ClassId) (pieceWaysF : Nat → Int32) (pieceBlockA : Nat) (pieceBlockC : ClassId) (pieceBlockF : Nat → Int32) (labelPieceA : Nat) (foundA : Nat) (foundC : ClassId) (foundF : Nat → Int32) (pieceOfA : Nat) (usesA : Nat) (assignsA : Nat) (borderA : Nat) (phiVariableA : Nat) (nowA : Nat) (shapeO : Nat) (p0 : Int32) (p1 : Int32) (sz : Nat) (hq1 : ¬ (p0 < 0) → p0 < pieces → vp_in p0 640) (hq2 : ¬ (p0 < 0) → p0 < pieces → (pieceBlockF (Int32.toNatClampNeg p0)) < 0 → vp_in p1 640) : Met l yX4_reachOne (wz yX4_reachOne cX4_reachOne 3 (Option.some Jvm.ClassFile.FieldType.int)) ({ frames := 0, cells := 0, slots := 0, locals := 0 }) (va_Pc [.ref h0, .int p0, .int p1] (PRE zs dC dI [(h0, .inr (6, [.ref shapeO, .ref leftOpA, .ref rightOpA, .ref valueOfA, .ref waitingA, .int pieces, .ref pieceFromA, .ref pieceToA, .ref pieceFirstA, .ref pieceSecondA, .ref pieceWaysA, .ref pieceBlockA, .ref labelPieceA, .ref foundA, .ref pieceOfA, .ref usesA, .ref assignsA, .ref borderA, .ref phiVariableA, .ref nowA])), (pieceWaysA, .inl (pieceWaysC, 640, .inl pieceWaysF)), (pieceBlockA, .inl (pieceBlockC, 640, .inl pieceBlockF)), (foundA, .inl (foundC, 640, .inl foundF))] [(pieceWaysC, .int), (pieceBlockC, .int), (foundC, .int)] sz)) (va_Qi (fun (r : Int32) (_ : Unit) => r = (sX4_reachOne_r pieces pieceBlockF p0 p1)) (fun _ t => POST dC dI [(h0, .inr (6, [.ref shapeO, .ref leftOpA, .ref rightOpA, .ref valueOfA, .ref waitingA, .int pieces, .ref pieceFromA, .ref pieceToA, .ref pieceFirstA, .ref pieceSecondA, .ref pieceWaysA, .ref pieceBlockA, .ref labelPieceA, .ref foundA, .ref pieceOfA, .ref usesA, .ref assignsA, .ref borderA, .ref phiVariableA, .ref nowA])), (pieceWaysA, .inl (pieceWaysC, 640, .inl (sX4_reachOne_1 pieces pieceWaysF pieceBlockF p0))), (pieceBlockA, .inl (pieceBlockC, 640, .inl (sX4_reachOne_2 pieces pieceBlockF p0 p1))), (foundA, .inl (foundC, 640, .inl (sX4_reachOne_3 pieces pieceBlockF foundF p0 p1)))] [(pieceWaysC, .int), (pieceBlockC, .int), (foundC, .int)] (va_A [(h0, .inr (6, [.ref shapeO, .ref leftOpA, .ref rightOpA, .ref valueOfA, .ref waitingA, .int pieces, .ref pieceFromA, .ref pieceToA, .ref pieceFirstA, .ref pieceSecondA, .ref pieceWaysA, .ref pieceBlockA, .ref labelPieceA, .ref foundA, .ref pieceOfA, .ref usesA, .ref assignsA, .ref borderA, .ref phiVariableA, .ref nowA])), (pieceWaysA, .inl (pieceWaysC, 640, .inl pieceWaysF)), (pieceBlockA, .inl (pieceBlockC, 640, .inl pieceBlockF)), (foundA, .inl (foundC, 640, .inl foundF))] sz) t) (va_A [(h0, .inr (6, [.ref shapeO, .ref leftOpA, .ref rightOpA, .ref valueOfA, .ref waitingA, .int pieces, .ref pieceFromA, .ref pieceToA, .ref pieceFirstA, .ref pieceSecondA, .ref pieceWaysA, .ref pieceBlockA, .ref labelPieceA, .ref foundA, .ref pieceOfA, .ref usesA, .ref assignsA, .ref borderA, .ref phiVariableA, .ref nowA])), (pieceWaysA, .inl (pieceWaysC, 640, .inl pieceWaysF)), (pieceBlockA, .inl (pieceBlockC, 640, .inl pieceBlockF)), (foundA, .inl (foundC, 640, .inl foundF))] sz)) 0 0 (va_A [(h0, .inr (6, [.ref shapeO, .ref leftOpA, .ref rightOpA, .ref valueOfA, .ref waitingA, .int pieces, .ref pieceFromA, .ref pieceToA, .ref pieceFirstA, .ref pieceSecondA, .ref pieceWaysA, .ref pieceBlockA, .ref labelPieceA, .ref foundA, .ref pieceOfA, .ref usesA, .ref assignsA, .ref borderA, .ref phiVariableA, .ref nowA])), (pieceWaysA, .inl (pieceWaysC, 640, .inl pieceWaysF)), (pieceBlockA, .inl (pieceBlockC, 640, .inl pieceBlockF)), (foundA, .inl (foundC, 640, .inl foundF))] sz) := by
  refine Met.ofW (cc := cX4_reachOne) (maxL := 3) (ret := (Option.some Jvm.ClassFile.FieldType.int)) (by decide) rfl ?_
  intro p e s m args below meth c s₁ B hml hv
  obtain ⟨rfl, hsz, hP, hK, hD0, hE⟩ := hv
  have hx := B.exec
  have hb := B.bytes
  have hr := B.returns
  have hts0 := atoms_spec (ws := wz yX4_reachOne cX4_reachOne 3 (Option.some Jvm.ClassFile.FieldType.int)) B.pre
  have hts : ∀ w ∈ gw, w.before _ s = true := fun w h => hts0 w (List.mem_cons_of_mem _ h)
  have hown : s.vm.findClass RX4 = some m.cls := findClass_of_methodNamed B.named
  have hlocks := B.notSynchronized
  subst hsz
  have hD := hD0.self (sz := s.heap.size)
  generalize hAe : va_A [(h0, .inr (6, [.ref shapeO, .ref leftOpA, .ref rightOpA, .ref valueOfA, .ref waitingA, .int pieces, .ref pieceFromA, .ref pieceToA, .ref pieceFirstA, .ref pieceSecondA, .ref pieceWaysA, .ref pieceBlockA, .ref labelPieceA, .ref foundA, .ref pieceOfA, .ref usesA, .ref assignsA, .ref borderA, .ref phiVariableA, .ref nowA])), (pieceWaysA, .inl (pieceWaysC, 640, .inl pieceWaysF)), (pieceBlockA, .inl (pieceBlockC, 640, .inl pieceBlockF)), (foundA, .inl (foundC, 640, .inl foundF))] s.heap.size = A at hD hE ⊢
  have hA : ∀ q : Nat, s.heap.size ≤ q → A q := fun q h => by rw [← hAe]; exact Or.inr h
  have hS : va_S A s.heap s.heap [] := va_S.rf
  have hP : va_P (dC, dI) cls [(h0, .inr (6, [.ref shapeO, .ref leftOpA, .ref rightOpA, .ref valueOfA, .ref waitingA, .int pieces, .ref pieceFromA, .ref pieceToA, .ref pieceFirstA, .ref pieceSecondA, .ref pieceWaysA, .ref pieceBlockA, .ref labelPieceA, .ref foundA, .ref pieceOfA, .ref usesA, .ref assignsA, .ref borderA, .ref phiVariableA, .ref nowA])), (pieceWaysA, .inl (pieceWaysC, 640, .inl pieceWaysF)), (pieceBlockA, .inl (pieceBlockC, 640, .inl pieceBlockF)), (foundA, .inl (foundC, 640, .inl foundF))] s.heap := hP
  have hl := lv_entry ([.ref h0, .int p0, .int p1]) (n := 3) (Nat.le_of_ble_eq_true rfl)
  rw [lg_entry_eq]
  generalize (lg_sl ([.ref h0, .int p0, .int p1]) ++ List.replicate (3 - (lg_sl ([.ref h0, .int p0, .int p1])).length) Slot.unset).toArray = ls at hl ⊢
  have hl : lv_has ls 3 [(0, .ref h0), (1, .int p0), (2, .int p1)] := hl
  refine lv_iload_n hx hb dX4_reachOne_0 rfl (lv_at hl 1 rfl) ?_
  by_cases hc1 : p0 < 0
  · refine lv_if_lt (tgt := 12) hx hb dX4_reachOne_1 (by decide) (fun _ => ?_) (fun c => absurd hc1 c)
    refine lv_iload_n hx hb dX4_reachOne_12 rfl (lv_at hl 2 rfl) ?_
    have e_sX4_reachOne_1 : sX4_reachOne_1 pieces pieceWaysF pieceBlockF p0 = pieceWaysF := by unfold sX4_reachOne_1; rw [if_pos hc1]
    have e_sX4_reachOne_2 : sX4_reachOne_2 pieces pieceBlockF p0 p1 = pieceBlockF := by unfold sX4_reachOne_2; rw [if_pos hc1]
    have e_sX4_reachOne_3 : sX4_reachOne_3 pieces pieceBlockF foundF p0 p1 = foundF := by unfold sX4_reachOne_3; rw [if_pos hc1]
    have e_sX4_reachOne_r : sX4_reachOne_r pieces pieceBlockF p0 p1 = p1 := by unfold sX4_reachOne_r; rw [if_pos hc1]
    have hP9 : va_P (dC, dI) cls [(h0, .inr (6, [.ref shapeO, .ref leftOpA, .ref rightOpA, .ref valueOfA, .ref waitingA, .int pieces, .ref pieceFromA, .ref pieceToA, .ref pieceFirstA, .ref pieceSecondA, .ref pieceWaysA, .ref pieceBlockA, .ref labelPieceA, .ref foundA, .ref pieceOfA, .ref usesA, .ref assignsA, .ref borderA, .ref phiVariableA, .ref nowA])), (pieceWaysA, .inl (pieceWaysC, 640, .inl (sX4_reachOne_1 pieces pieceWaysF pieceBlockF p0))), (pieceBlockA, .inl (pieceBlockC, 640, .inl (sX4_reachOne_2 pieces pieceBlockF p0 p1))), (foundA, .inl (foundC, 640, .inl (sX4_reachOne_3 pieces pieceBlockF foundF p0 p1)))] s.heap := by rw [e_sX4_reachOne_1, e_sX4_reachOne_2, e_sX4_reachOne_3]; exact hP.sub [0, 1, 2, 3] rfl
    have hD9 : va_D A [(h0, .inr (6, [.ref shapeO, .ref leftOpA, .ref rightOpA, .ref valueOfA, .ref waitingA, .int pieces, .ref pieceFromA, .ref pieceToA, .ref pieceFirstA, .ref pieceSecondA, .ref pieceWaysA, .ref pieceBlockA, .ref labelPieceA, .ref foundA, .ref pieceOfA, .ref usesA, .ref assignsA, .ref borderA, .ref phiVariableA, .ref nowA])), (pieceWaysA, .inl (pieceWaysC, 640, .inl (sX4_reachOne_1 pieces pieceWaysF pieceBlockF p0))), (pieceBlockA, .inl (pieceBlockC, 640, .inl (sX4_reachOne_2 pieces pieceBlockF p0 p1))), (foundA, .inl (foundC, 640, .inl (sX4_reachOne_3 pieces pieceBlockF foundF p0 p1)))] := by rw [e_sX4_reachOne_1, e_sX4_reachOne_2, e_sX4_reachOne_3]; exact hD.sub [0, 1, 2, 3] (by decide) rfl
    have hK9 : va_K (dC, dI) cls [(pieceWaysC, .int), (pieceBlockC, .int), (foundC, .int)] s := hK.sub [0, 1, 2] rfl
    refine W.widen (k := 0) (n := 0) (Nat.le_of_ble_eq_true rfl) (Nat.le_of_ble_eq_true rfl) ?_
    exact W.iret (v := p1) hx hb hr (fun t ht hW => ⟨⟨p1, (), rfl, e_sX4_reachOne_r.symm, ⟨by rw [ht]; exact hP9, va_K.moved hW.alike hK9, hD9⟩⟩, hS.F ht⟩) hS.2.2 dX4_reachOne_13
  · refine lv_if_lt (tgt := 12) hx hb dX4_reachOne_1 (by decide) (fun c => absurd c hc1) (fun _ => ?_)
    refine lv_iload_n hx hb dX4_reachOne_4 rfl (lv_at hl 1 rfl) ?_
    refine lv_aload_n hx hb dX4_reachOne_5 rfl (lv_at hl 0 rfl) ?_
    refine va_get (D := (dC, dI)) (ci := 6) (v := .int pieces) (C := RX4) (T := TX4) (N := 20) hx hb hts i_X4 hown hK hP 0 rfl rfl 5 (by decide) (hts _ qw256) (fun _ h9 => h9) rfl dX4_reachOne_6 ?_
    by_cases hc2 : p0 < pieces
    · refine lv_icmp_lt (tgt := 14) hx hb dX4_reachOne_9 (by decide) (fun _ => ?_) (fun c => absurd hc2 c)
      refine lv_aload_n hx hb dX4_reachOne_14 rfl (lv_at hl 0 rfl) ?_
      refine va_get (D := (dC, dI)) (ci := 6) (v := .ref pieceWaysA) (C := RX4) (T := TX4) (N := 20) hx hb hts i_X4 hown hK hP 0 rfl rfl 10 (by decide) (hts _ qw72) (fun _ h9 => h9) rfl dX4_reachOne_15 ?_
      refine lv_iload_n hx hb dX4_reachOne_18 rfl (lv_at hl 1 rfl) ?_
      refine lv_dup2_11 hx hb dX4_reachOne_19 rfl rfl ?_
      refine va_iald hx hb hK hP 1 0 rfl rfl (hq1 hc1 hc2) dX4_reachOne_20 ?_
      refine lv_iconst (v := 1) hx hb dX4_reachOne_21 (by decide) ?_
      refine lv_iadd hx hb dX4_reachOne_22 ?_
      refine va_iast hx hb hK hP hD hS 1 0 rfl rfl (hq1 hc1 hc2) dX4_reachOne_23 (fun H locs hP hD hS => ?_)
      have hP : va_P (dC, dI) cls [(h0, .inr (6, [.ref shapeO, .ref leftOpA, .ref rightOpA, .ref valueOfA, .ref waitingA, .int pieces, .ref pieceFromA, .ref pieceToA, .ref pieceFirstA, .ref pieceSecondA, .ref pieceWaysA, .ref pieceBlockA, .ref labelPieceA, .ref foundA, .ref pieceOfA, .ref usesA, .ref assignsA, .ref borderA, .ref phiVariableA, .ref nowA])), (pieceWaysA, .inl (pieceWaysC, 640, .inl (upd pieceWaysF (Int32.toNatClampNeg p0) ((pieceWaysF (Int32.toNatClampNeg p0)) + 1)))), (pieceBlockA, .inl (pieceBlockC, 640, .inl pieceBlockF)), (foundA, .inl (foundC, 640, .inl foundF))] H := hP
      have hD : va_D A [(h0, .inr (6, [.ref shapeO, .ref leftOpA, .ref rightOpA, .ref valueOfA, .ref waitingA, .int pieces, .ref pieceFromA, .ref pieceToA, .ref pieceFirstA, .ref pieceSecondA, .ref pieceWaysA, .ref pieceBlockA, .ref labelPieceA, .ref foundA, .ref pieceOfA, .ref usesA, .ref assignsA, .ref borderA, .ref phiVariableA, .ref nowA])), (pieceWaysA, .inl (pieceWaysC, 640, .inl (upd pieceWaysF (Int32.toNatClampNeg p0) ((pieceWaysF (Int32.toNatClampNeg p0)) + 1)))), (pieceBlockA, .inl (pieceBlockC, 640, .inl pieceBlockF)), (foundA, .inl (foundC, 640, .inl foundF))] := hD
      refine lv_aload_n hx hb dX4_reachOne_24 rfl (lv_at hl 0 rfl) ?_
      refine va_get (D := (dC, dI)) (ci := 6) (v := .ref pieceBlockA) (C := RX4) (T := TX4) (N := 20) hx hb hts i_X4 hown hK hP 0 rfl rfl 11 (by decide) (hts _ qw73) (fun _ h9 => h9) rfl dX4_reachOne_25 ?_
      refine lv_iload_n hx hb dX4_reachOne_28 rfl (lv_at hl 1 rfl) ?_
      refine va_iald hx hb hK hP 2 1 rfl rfl (hq1 hc1 hc2) dX4_reachOne_29 ?_
      by_cases hc3 : (pieceBlockF (Int32.toNatClampNeg p0)) < 0
      · refine lv_if_lt (tgt := 35) hx hb dX4_reachOne_30 (by decide) (fun _ => ?_) (fun c => absurd hc3 c)
        refine lv_aload_n hx hb dX4_reachOne_35 rfl (lv_at hl 0 rfl) ?_
        refine va_get (D := (dC, dI)) (ci := 6) (v := .ref pieceBlockA) (C := RX4) (T := TX4) (N := 20) hx hb hts i_X4 hown hK hP 0 rfl rfl 11 (by decide) (hts _ qw73) (fun _ h9 => h9) rfl dX4_reachOne_36 ?_
        refine lv_iload_n hx hb dX4_reachOne_39 rfl (lv_at hl 1 rfl) ?_
        refine lv_iload_n hx hb dX4_reachOne_40 rfl (lv_at hl 2 rfl) ?_
        refine va_iast hx hb hK hP hD hS 2 1 rfl rfl (hq1 hc1 hc2) dX4_reachOne_41 (fun H locs hP hD hS => ?_)
        have hP : va_P (dC, dI) cls [(h0, .inr (6, [.ref shapeO, .ref leftOpA, .ref rightOpA, .ref valueOfA, .ref waitingA, .int pieces, .ref pieceFromA, .ref pieceToA, .ref pieceFirstA, .ref pieceSecondA, .ref pieceWaysA, .ref pieceBlockA, .ref labelPieceA, .ref foundA, .ref pieceOfA, .ref usesA, .ref assignsA, .ref borderA, .ref phiVariableA, .ref nowA])), (pieceWaysA, .inl (pieceWaysC, 640, .inl (upd pieceWaysF (Int32.toNatClampNeg p0) ((pieceWaysF (Int32.toNatClampNeg p0)) + 1)))), (pieceBlockA, .inl (pieceBlockC, 640, .inl (upd pieceBlockF (Int32.toNatClampNeg p0) p1))), (foundA, .inl (foundC, 640, .inl foundF))] H := hP
        have hD : va_D A [(h0, .inr (6, [.ref shapeO, .ref leftOpA, .ref rightOpA, .ref valueOfA, .ref waitingA, .int pieces, .ref pieceFromA, .ref pieceToA, .ref pieceFirstA, .ref pieceSecondA, .ref pieceWaysA, .ref pieceBlockA, .ref labelPieceA, .ref foundA, .ref pieceOfA, .ref usesA, .ref assignsA, .ref borderA, .ref phiVariableA, .ref nowA])), (pieceWaysA, .inl (pieceWaysC, 640, .inl (upd pieceWaysF (Int32.toNatClampNeg p0) ((pieceWaysF (Int32.toNatClampNeg p0)) + 1)))), (pieceBlockA, .inl (pieceBlockC, 640, .inl (upd pieceBlockF (Int32.toNatClampNeg p0) p1))), (foundA, .inl (foundC, 640, .inl foundF))] := hD
        refine lv_aload_n hx hb dX4_reachOne_42 rfl (lv_at hl 0 rfl) ?_
        refine va_get (D := (dC, dI)) (ci := 6) (v := .ref foundA) (C := RX4) (T := TX4) (N := 20) hx hb hts i_X4 hown hK hP 0 rfl rfl 13 (by decide) (hts _ qw75) (fun _ h9 => h9) rfl dX4_reachOne_43 ?_
        refine lv_iload_n hx hb dX4_reachOne_46 rfl (lv_at hl 2 rfl) ?_
        refine lv_iload_n hx hb dX4_reachOne_47 rfl (lv_at hl 1 rfl) ?_
        refine va_iast hx hb hK hP hD hS 3 2 rfl rfl (hq2 hc1 hc2 hc3) dX4_reachOne_48 (fun H locs hP hD hS => ?_)
        have hP : va_P (dC, dI) cls [(h0, .inr (6, [.ref shapeO, .ref leftOpA, .ref rightOpA, .ref valueOfA, .ref waitingA, .int pieces, .ref pieceFromA, .ref pieceToA, .ref pieceFirstA, .ref pieceSecondA, .ref pieceWaysA, .ref pieceBlockA, .ref labelPieceA, .ref foundA, .ref pieceOfA, .ref usesA, .ref assignsA, .ref borderA, .ref phiVariableA, .ref nowA])), (pieceWaysA, .inl (pieceWaysC, 640, .inl (upd pieceWaysF (Int32.toNatClampNeg p0) ((pieceWaysF (Int32.toNatClampNeg p0)) + 1)))), (pieceBlockA, .inl (pieceBlockC, 640, .inl (upd pieceBlockF (Int32.toNatClampNeg p0) p1))), (foundA, .inl (foundC, 640, .inl (upd foundF (Int32.toNatClampNeg p1) p0)))] H := hP
        have hD : va_D A [(h0, .inr (6, [.ref shapeO, .ref leftOpA, .ref rightOpA, .ref valueOfA, .ref waitingA, .int pieces, .ref pieceFromA, .ref pieceToA, .ref pieceFirstA, .ref pieceSecondA, .ref pieceWaysA, .ref pieceBlockA, .ref labelPieceA, .ref foundA, .ref pieceOfA, .ref usesA, .ref assignsA, .ref borderA, .ref phiVariableA, .ref nowA])), (pieceWaysA, .inl (pieceWaysC, 640, .inl (upd pieceWaysF (Int32.toNatClampNeg p0) ((pieceWaysF (Int32.toNatClampNeg p0)) + 1)))), (pieceBlockA, .inl (pieceBlockC, 640, .inl (upd pieceBlockF (Int32.toNatClampNeg p0) p1))), (foundA, .inl (foundC, 640, .inl (upd foundF (Int32.toNatClampNeg p1) p0)))] := hD
        refine lv_iload_n hx hb dX4_reachOne_49 rfl (lv_at hl 2 rfl) ?_
        refine lv_iconst (v := 1) hx hb dX4_reachOne_50 (by decide) ?_
        refine lv_iadd hx hb dX4_reachOne_51 ?_
        have e_sX4_reachOne_1 : sX4_reachOne_1 pieces pieceWaysF pieceBlockF p0 = (upd pieceWaysF (Int32.toNatClampNeg p0) ((pieceWaysF (Int32.toNatClampNeg p0)) + 1)) := by unfold sX4_reachOne_1; rw [if_neg hc1, if_pos hc2, if_pos hc3]
        have e_sX4_reachOne_2 : sX4_reachOne_2 pieces pieceBlockF p0 p1 = (upd pieceBlockF (Int32.toNatClampNeg p0) p1) := by unfold sX4_reachOne_2; rw [if_neg hc1, if_pos hc2, if_pos hc3]
        have e_sX4_reachOne_3 : sX4_reachOne_3 pieces pieceBlockF foundF p0 p1 = (upd foundF (Int32.toNatClampNeg p1) p0) := by unfold sX4_reachOne_3; rw [if_neg hc1, if_pos hc2, if_pos hc3]
        have e_sX4_reachOne_r : sX4_reachOne_r pieces pieceBlockF p0 p1 = (p1 + 1) := by unfold sX4_reachOne_r; rw [if_neg hc1, if_pos hc2, if_pos hc3]
        have hP9 : va_P (dC, dI) cls [(h0, .inr (6, [.ref shapeO, .ref leftOpA, .ref rightOpA, .ref valueOfA, .ref waitingA, .int pieces, .ref pieceFromA, .ref pieceToA, .ref pieceFirstA, .ref pieceSecondA, .ref pieceWaysA, .ref pieceBlockA, .ref labelPieceA, .ref foundA, .ref pieceOfA, .ref usesA, .ref assignsA, .ref borderA, .ref phiVariableA, .ref nowA])), (pieceWaysA, .inl (pieceWaysC, 640, .inl (sX4_reachOne_1 pieces pieceWaysF pieceBlockF p0))), (pieceBlockA, .inl (pieceBlockC, 640, .inl (sX4_reachOne_2 pieces pieceBlockF p0 p1))), (foundA, .inl (foundC, 640, .inl (sX4_reachOne_3 pieces pieceBlockF foundF p0 p1)))] H := by rw [e_sX4_reachOne_1, e_sX4_reachOne_2, e_sX4_reachOne_3]; exact hP.sub [0, 1, 2, 3] rfl
        have hD9 : va_D A [(h0, .inr (6, [.ref shapeO, .ref leftOpA, .ref rightOpA, .ref valueOfA, .ref waitingA, .int pieces, .ref pieceFromA, .ref pieceToA, .ref pieceFirstA, .ref pieceSecondA, .ref pieceWaysA, .ref pieceBlockA, .ref labelPieceA, .ref foundA, .ref pieceOfA, .ref usesA, .ref assignsA, .ref borderA, .ref phiVariableA, .ref nowA])), (pieceWaysA, .inl (pieceWaysC, 640, .inl (sX4_reachOne_1 pieces pieceWaysF pieceBlockF p0))), (pieceBlockA, .inl (pieceBlockC, 640, .inl (sX4_reachOne_2 pieces pieceBlockF p0 p1))), (foundA, .inl (foundC, 640, .inl (sX4_reachOne_3 pieces pieceBlockF foundF p0 p1)))] := by rw [e_sX4_reachOne_1, e_sX4_reachOne_2, e_sX4_reachOne_3]; exact hD.sub [0, 1, 2, 3] (by decide) rfl
        have hK9 : va_K (dC, dI) cls [(pieceWaysC, .int), (pieceBlockC, .int), (foundC, .int)] s := hK.sub [0, 1, 2] rfl
        refine W.widen (k := 0) (n := 0) (Nat.le_of_ble_eq_true rfl) (Nat.le_of_ble_eq_true rfl) ?_
        exact W.iret (v := (p1 + 1)) hx hb hr (fun t ht hW => ⟨⟨(p1 + 1), (), rfl, e_sX4_reachOne_r.symm, ⟨by rw [ht]; exact hP9, va_K.moved hW.alike hK9, hD9⟩⟩, hS.F ht⟩) hS.2.2 dX4_reachOne_52
      · refine lv_if_lt (tgt := 35) hx hb dX4_reachOne_30 (by decide) (fun c => absurd c hc3) (fun _ => ?_)
        refine lv_iload_n hx hb dX4_reachOne_33 rfl (lv_at hl 2 rfl) ?_
        have e_sX4_reachOne_1 : sX4_reachOne_1 pieces pieceWaysF pieceBlockF p0 = (upd pieceWaysF (Int32.toNatClampNeg p0) ((pieceWaysF (Int32.toNatClampNeg p0)) + 1)) := by unfold sX4_reachOne_1; rw [if_neg hc1, if_pos hc2, if_neg hc3]
        have e_sX4_reachOne_2 : sX4_reachOne_2 pieces pieceBlockF p0 p1 = pieceBlockF := by unfold sX4_reachOne_2; rw [if_neg hc1, if_pos hc2, if_neg hc3]
        have e_sX4_reachOne_3 : sX4_reachOne_3 pieces pieceBlockF foundF p0 p1 = foundF := by unfold sX4_reachOne_3; rw [if_neg hc1, if_pos hc2, if_neg hc3]
        have e_sX4_reachOne_r : sX4_reachOne_r pieces pieceBlockF p0 p1 = p1 := by unfold sX4_reachOne_r; rw [if_neg hc1, if_pos hc2, if_neg hc3]
        have hP9 : va_P (dC, dI) cls [(h0, .inr (6, [.ref shapeO, .ref leftOpA, .ref rightOpA, .ref valueOfA, .ref waitingA, .int pieces, .ref pieceFromA, .ref pieceToA, .ref pieceFirstA, .ref pieceSecondA, .ref pieceWaysA, .ref pieceBlockA, .ref labelPieceA, .ref foundA, .ref pieceOfA, .ref usesA, .ref assignsA, .ref borderA, .ref phiVariableA, .ref nowA])), (pieceWaysA, .inl (pieceWaysC, 640, .inl (sX4_reachOne_1 pieces pieceWaysF pieceBlockF p0))), (pieceBlockA, .inl (pieceBlockC, 640, .inl (sX4_reachOne_2 pieces pieceBlockF p0 p1))), (foundA, .inl (foundC, 640, .inl (sX4_reachOne_3 pieces pieceBlockF foundF p0 p1)))] H := by rw [e_sX4_reachOne_1, e_sX4_reachOne_2, e_sX4_reachOne_3]; exact hP.sub [0, 1, 2, 3] rfl
        have hD9 : va_D A [(h0, .inr (6, [.ref shapeO, .ref leftOpA, .ref rightOpA, .ref valueOfA, .ref waitingA, .int pieces, .ref pieceFromA, .ref pieceToA, .ref pieceFirstA, .ref pieceSecondA, .ref pieceWaysA, .ref pieceBlockA, .ref labelPieceA, .ref foundA, .ref pieceOfA, .ref usesA, .ref assignsA, .ref borderA, .ref phiVariableA, .ref nowA])), (pieceWaysA, .inl (pieceWaysC, 640, .inl (sX4_reachOne_1 pieces pieceWaysF pieceBlockF p0))), (pieceBlockA, .inl (pieceBlockC, 640, .inl (sX4_reachOne_2 pieces pieceBlockF p0 p1))), (foundA, .inl (foundC, 640, .inl (sX4_reachOne_3 pieces pieceBlockF foundF p0 p1)))] := by rw [e_sX4_reachOne_1, e_sX4_reachOne_2, e_sX4_reachOne_3]; exact hD.sub [0, 1, 2, 3] (by decide) rfl
        have hK9 : va_K (dC, dI) cls [(pieceWaysC, .int), (pieceBlockC, .int), (foundC, .int)] s := hK.sub [0, 1, 2] rfl
        refine W.widen (k := 0) (n := 0) (Nat.le_of_ble_eq_true rfl) (Nat.le_of_ble_eq_true rfl) ?_
        exact W.iret (v := p1) hx hb hr (fun t ht hW => ⟨⟨p1, (), rfl, e_sX4_reachOne_r.symm, ⟨by rw [ht]; exact hP9, va_K.moved hW.alike hK9, hD9⟩⟩, hS.F ht⟩) hS.2.2 dX4_reachOne_34
    · refine lv_icmp_lt (tgt := 14) hx hb dX4_reachOne_9 (by decide) (fun c => absurd c hc2) (fun _ => ?_)
      refine lv_iload_n hx hb dX4_reachOne_12 rfl (lv_at hl 2 rfl) ?_
      have e_sX4_reachOne_1 : sX4_reachOne_1 pieces pieceWaysF pieceBlockF p0 = pieceWaysF := by unfold sX4_reachOne_1; rw [if_neg hc1, if_neg hc2]
      have e_sX4_reachOne_2 : sX4_reachOne_2 pieces pieceBlockF p0 p1 = pieceBlockF := by unfold sX4_reachOne_2; rw [if_neg hc1, if_neg hc2]
      have e_sX4_reachOne_3 : sX4_reachOne_3 pieces pieceBlockF foundF p0 p1 = foundF := by unfold sX4_reachOne_3; rw [if_neg hc1, if_neg hc2]
      have e_sX4_reachOne_r : sX4_reachOne_r pieces pieceBlockF p0 p1 = p1 := by unfold sX4_reachOne_r; rw [if_neg hc1, if_neg hc2]
      have hP9 : va_P (dC, dI) cls [(h0, .inr (6, [.ref shapeO, .ref leftOpA, .ref rightOpA, .ref valueOfA, .ref waitingA, .int pieces, .ref pieceFromA, .ref pieceToA, .ref pieceFirstA, .ref pieceSecondA, .ref pieceWaysA, .ref pieceBlockA, .ref labelPieceA, .ref foundA, .ref pieceOfA, .ref usesA, .ref assignsA, .ref borderA, .ref phiVariableA, .ref nowA])), (pieceWaysA, .inl (pieceWaysC, 640, .inl (sX4_reachOne_1 pieces pieceWaysF pieceBlockF p0))), (pieceBlockA, .inl (pieceBlockC, 640, .inl (sX4_reachOne_2 pieces pieceBlockF p0 p1))), (foundA, .inl (foundC, 640, .inl (sX4_reachOne_3 pieces pieceBlockF foundF p0 p1)))] s.heap := by rw [e_sX4_reachOne_1, e_sX4_reachOne_2, e_sX4_reachOne_3]; exact hP.sub [0, 1, 2, 3] rfl
      have hD9 : va_D A [(h0, .inr (6, [.ref shapeO, .ref leftOpA, .ref rightOpA, .ref valueOfA, .ref waitingA, .int pieces, .ref pieceFromA, .ref pieceToA, .ref pieceFirstA, .ref pieceSecondA, .ref pieceWaysA, .ref pieceBlockA, .ref labelPieceA, .ref foundA, .ref pieceOfA, .ref usesA, .ref assignsA, .ref borderA, .ref phiVariableA, .ref nowA])), (pieceWaysA, .inl (pieceWaysC, 640, .inl (sX4_reachOne_1 pieces pieceWaysF pieceBlockF p0))), (pieceBlockA, .inl (pieceBlockC, 640, .inl (sX4_reachOne_2 pieces pieceBlockF p0 p1))), (foundA, .inl (foundC, 640, .inl (sX4_reachOne_3 pieces pieceBlockF foundF p0 p1)))] := by rw [e_sX4_reachOne_1, e_sX4_reachOne_2, e_sX4_reachOne_3]; exact hD.sub [0, 1, 2, 3] (by decide) rfl
      have hK9 : va_K (dC, dI) cls [(pieceWaysC, .int), (pieceBlockC, .int), (foundC, .int)] s := hK.sub [0, 1, 2] rfl
      refine W.widen (k := 0) (n := 0) (Nat.le_of_ble_eq_true rfl) (Nat.le_of_ble_eq_true rfl) ?_
      exact W.iret (v := p1) hx hb hr (fun t ht hW => ⟨⟨p1, (), rfl, e_sX4_reachOne_r.symm, ⟨by rw [ht]; exact hP9, va_K.moved hW.alike hK9, hD9⟩⟩, hS.F ht⟩) hS.2.2 dX4_reachOne_13
def sX4_splitWay_2 (pieceWaysF : Nat → Int32) (pieceOfF : Nat → Int32) (p0blocks : Int32) (p1 : Int32) (p2F : Nat → Int32) : Nat → Int32 := (if (p2F (Int32.toNatClampNeg p1)) < 0 then pieceOfF else (if 2 ≤ (pieceWaysF (Int32.toNatClampNeg (pieceOfF (Int32.toNatClampNeg (p2F (Int32.toNatClampNeg p1)))))) then (if p0blocks < 60 then (upd pieceOfF (Int32.toNatClampNeg p0blocks) (-1)) else pieceOfF) else pieceOfF))
def sX4_splitWay_3_0 (pieceWaysF : Nat → Int32) (pieceOfF : Nat → Int32) (p0blocks : Int32) (p1 : Int32) (p2F : Nat → Int32) : Int32 := (if (p2F (Int32.toNatClampNeg p1)) < 0 then p0blocks else (if 2 ≤ (pieceWaysF (Int32.toNatClampNeg (pieceOfF (Int32.toNatClampNeg (p2F (Int32.toNatClampNeg p1)))))) then (if p0blocks < 60 then (p0blocks + 1) else p0blocks) else p0blocks))
def sX4_splitWay_4 (pieceWaysF : Nat → Int32) (pieceOfF : Nat → Int32) (p0blocks : Int32) (p0firstStepF : Nat → Int32) (p1 : Int32) (p2F : Nat → Int32) : Nat → Int32 := (if (p2F (Int32.toNatClampNeg p1)) < 0 then p0firstStepF else (if 2 ≤ (pieceWaysF (Int32.toNatClampNeg (pieceOfF (Int32.toNatClampNeg (p2F (Int32.toNatClampNeg p1)))))) then (if p0blocks < 60 then (upd p0firstStepF (Int32.toNatClampNeg p0blocks) (-1)) else p0firstStepF) else p0firstStepF))
def sX4_splitWay_5 (pieceWaysF : Nat → Int32) (pieceOfF : Nat → Int32) (p0blocks : Int32) (p0lastStepF : Nat → Int32) (p1 : Int32) (p2F : Nat → Int32) : Nat → Int32 := (if (p2F (Int32.toNatClampNeg p1)) < 0 then p0lastStepF else (if 2 ≤ (pieceWaysF (Int32.toNatClampNeg (pieceOfF (Int32.toNatClampNeg (p2F (Int32.toNatClampNeg p1)))))) then (if p0blocks < 60 then (upd p0lastStepF (Int32.toNatClampNeg p0blocks) (-1)) else p0lastStepF) else p0lastStepF))
def sX4_splitWay_6 (pieceWaysF : Nat → Int32) (pieceOfF : Nat → Int32) (p0blocks : Int32) (p0firstPhiF : Nat → Int32) (p1 : Int32) (p2F : Nat → Int32) : Nat → Int32 := (if (p2F (Int32.toNatClampNeg p1)) < 0 then p0firstPhiF else (if 2 ≤ (pieceWaysF (Int32.toNatClampNeg (pieceOfF (Int32.toNatClampNeg (p2F (Int32.toNatClampNeg p1)))))) then (if p0blocks < 60 then (upd p0firstPhiF (Int32.toNatClampNeg p0blocks) (-1)) else p0firstPhiF) else p0firstPhiF))
def sX4_splitWay_7 (pieceWaysF : Nat → Int32) (pieceOfF : Nat → Int32) (p0blocks : Int32) (p0lastPhiF : Nat → Int32) (p1 : Int32) (p2F : Nat → Int32) : Nat → Int32 := (if (p2F (Int32.toNatClampNeg p1)) < 0 then p0lastPhiF else (if 2 ≤ (pieceWaysF (Int32.toNatClampNeg (pieceOfF (Int32.toNatClampNeg (p2F (Int32.toNatClampNeg p1)))))) then (if p0blocks < 60 then (upd p0lastPhiF (Int32.toNatClampNeg p0blocks) (-1)) else p0lastPhiF) else p0lastPhiF))
def sX4_splitWay_8 (pieceWaysF : Nat → Int32) (pieceOfF : Nat → Int32) (p0blocks : Int32) (p0endF : Nat → Int32) (p1 : Int32) (p2F : Nat → Int32) : Nat → Int32 := (if (p2F (Int32.toNatClampNeg p1)) < 0 then p0endF else (if 2 ≤ (pieceWaysF (Int32.toNatClampNeg (pieceOfF (Int32.toNatClampNeg (p2F (Int32.toNatClampNeg p1)))))) then (if p0blocks < 60 then (upd p0endF (Int32.toNatClampNeg p0blocks) 22) else p0endF) else p0endF))
def sX4_splitWay_9 (pieceWaysF : Nat → Int32) (pieceOfF : Nat → Int32) (p0blocks : Int32) (p0endValueF : Nat → Int32) (p1 : Int32) (p2F : Nat → Int32) : Nat → Int32 := (if (p2F (Int32.toNatClampNeg p1)) < 0 then p0endValueF else (if 2 ≤ (pieceWaysF (Int32.toNatClampNeg (pieceOfF (Int32.toNatClampNeg (p2F (Int32.toNatClampNeg p1)))))) then (if p0blocks < 60 then (upd p0endValueF (Int32.toNatClampNeg p0blocks) (-1)) else p0endValueF) else p0endValueF))
def sX4_splitWay_10 (pieceWaysF : Nat → Int32) (pieceOfF : Nat → Int32) (p0blocks : Int32) (p0firstF : Nat → Int32) (p1 : Int32) (p2F : Nat → Int32) : Nat → Int32 := (if (p2F (Int32.toNatClampNeg p1)) < 0 then p0firstF else (if 2 ≤ (pieceWaysF (Int32.toNatClampNeg (pieceOfF (Int32.toNatClampNeg (p2F (Int32.toNatClampNeg p1)))))) then (if p0blocks < 60 then (upd p0firstF (Int32.toNatClampNeg p0blocks) (p2F (Int32.toNatClampNeg p1))) else p0firstF) else p0firstF))
def sX4_splitWay_11 (pieceWaysF : Nat → Int32) (pieceOfF : Nat → Int32) (p0blocks : Int32) (p0secondF : Nat → Int32) (p1 : Int32) (p2F : Nat → Int32) : Nat → Int32 := (if (p2F (Int32.toNatClampNeg p1)) < 0 then p0secondF else (if 2 ≤ (pieceWaysF (Int32.toNatClampNeg (pieceOfF (Int32.toNatClampNeg (p2F (Int32.toNatClampNeg p1)))))) then (if p0blocks < 60 then (upd p0secondF (Int32.toNatClampNeg p0blocks) (-1)) else p0secondF) else p0secondF))
def sX4_splitWay_12 (pieceWaysF : Nat → Int32) (pieceOfF : Nat → Int32) (p0blocks : Int32) (p1 : Int32) (p2F : Nat → Int32) : Nat → Int32 := (if (p2F (Int32.toNatClampNeg p1)) < 0 then p2F else (if 2 ≤ (pieceWaysF (Int32.toNatClampNeg (pieceOfF (Int32.toNatClampNeg (p2F (Int32.toNatClampNeg p1)))))) then (if p0blocks < 60 then (upd p2F (Int32.toNatClampNeg p1) p0blocks) else p2F) else p2F))
def sX4_splitWay_r (pieceWaysF : Nat → Int32) (pieceOfF : Nat → Int32) (p0blocks : Int32) (p1 : Int32) (p2F : Nat → Int32) : Int32 := (if (p2F (Int32.toNatClampNeg p1)) < 0 then 1 else (if 2 ≤ (pieceWaysF (Int32.toNatClampNeg (pieceOfF (Int32.toNatClampNeg (p2F (Int32.toNatClampNeg p1)))))) then (if p0blocks < 60 then 1 else 0) else 1))
set_option maxHeartbeats 4000000 in
set_option maxRecDepth 100000 in
theorem kX4_splitWay {zs : Nat × Nat} (l : Launch) (dC : Nat → ClassId) (dI : Nat → Nat → Nat) (h0 : Nat) (leftOpA : Nat) (rightOpA : Nat) (valueOfA : Nat) (waitingA : Nat) (pieces : Int32) (pieceFromA : Nat) (pieceToA : Nat) (pieceFirstA : Nat) (pieceSecondA : Nat) (pieceWaysA : Nat) (pieceWaysC : ClassId) (pieceWaysF : Nat → Int32) (pieceBlockA : Nat) (labelPieceA : Nat) (foundA : Nat) (pieceOfA : Nat) (pieceOfC : ClassId) (pieceOfF : Nat → Int32) (usesA : Nat) (assignsA : Nat) (borderA : Nat) (phiVariableA : Nat) (nowA : Nat) (shapeO : Nat) (p0O : Nat) (p0blocks : Int32) (p0limit : Int32) (p0firstStepA : Nat) (p0firstStepC : ClassId) (p0firstStepF : Nat → Int32) (p0lastStepA : Nat) (p0lastStepC : ClassId) (p0lastStepF : Nat → Int32) (p0firstPhiA : Nat) (p0firstPhiC : ClassId) (p0firstPhiF : Nat → Int32) (p0lastPhiA : Nat) (p0lastPhiC : ClassId) (p0lastPhiF : Nat → Int32) (p0endA : Nat) (p0endC : ClassId) (p0endF : Nat → Int32) (p0endValueA : Nat) (p0endValueC : ClassId) (p0endValueF : Nat → Int32) (p0firstA : Nat) (p0firstC : ClassId) (p0firstF : Nat → Int32) (p0secondA : Nat) (p0secondC : ClassId) (p0secondF : Nat → Int32) (p0dominatorA : Nat) (p0depthA : Nat) (p0waysBeginA : Nat) (p0waysA : Nat) (p0dominatorsA : Nat) (p0loopA : Nat) (p0phiCount : Int32) (p0phiGivesA : Nat) (p0phiNextA : Nat) (p0takesA : Nat) (p0stepsO : Nat) (p1 : Int32) (p2A : Nat) (p2C : ClassId) (p2N : Nat) (p2F : Nat → Int32) (sz : Nat) (hq1 : vp_in p1 p2N) (hq2 : ¬ ((p2F (Int32.toNatClampNeg p1)) < 0) → vp_in (p2F (Int32.toNatClampNeg p1)) 60) (hq3 : ¬ ((p2F (Int32.toNatClampNeg p1)) < 0) → vp_in (pieceOfF (Int32.toNatClampNeg (p2F (Int32.toNatClampNeg p1)))) 640) (hq4 : ¬ ((p2F (Int32.toNatClampNeg p1)) < 0) → 2 ≤ (pieceWaysF (Int32.toNatClampNeg (pieceOfF (Int32.toNatClampNeg (p2F (Int32.toNatClampNeg p1)))))) → p0blocks < 60 → vp_in p0blocks 60) : Met l yX4_splitWay (wz yX4_splitWay cX4_splitWay 5 (Option.some Jvm.ClassFile.FieldType.boolean)) ({ frames := 1, cells := 0, slots := 0, locals := 25 }) (va_Pc [.ref h0, .ref p0O, .int p1, .ref p2A] (PRE zs dC dI [(h0, .inr (6, [.ref shapeO, .ref leftOpA, .ref rightOpA, .ref valueOfA, .ref waitingA, .int pieces, .ref pieceFromA, .ref pieceToA, .ref pieceFirstA, .ref pieceSecondA, .ref pieceWaysA, .ref pieceBlockA, .ref labelPieceA, .ref foundA, .ref pieceOfA, .ref usesA, .ref assignsA, .ref borderA, .ref phiVariableA, .ref nowA])), (pieceWaysA, .inl (pieceWaysC, 640, .inl pieceWaysF)), (pieceOfA, .inl (pieceOfC, 60, .inl pieceOfF)), (p0O, .inr (4, [.int p0blocks, .int p0limit, .ref p0stepsO, .ref p0firstStepA, .ref p0lastStepA, .ref p0firstPhiA, .ref p0lastPhiA, .ref p0endA, .ref p0endValueA, .ref p0firstA, .ref p0secondA, .ref p0dominatorA, .ref p0depthA, .ref p0waysBeginA, .ref p0waysA, .ref p0dominatorsA, .ref p0loopA, .int p0phiCount, .ref p0phiGivesA, .ref p0phiNextA, .ref p0takesA])), (p0firstStepA, .inl (p0firstStepC, 60, .inl p0firstStepF)), (p0lastStepA, .inl (p0lastStepC, 60, .inl p0lastStepF)), (p0firstPhiA, .inl (p0firstPhiC, 60, .inl p0firstPhiF)), (p0lastPhiA, .inl (p0lastPhiC, 60, .inl p0lastPhiF)), (p0endA, .inl (p0endC, 60, .inl p0endF)), (p0endValueA, .inl (p0endValueC, 60, .inl p0endValueF)), (p0firstA, .inl (p0firstC, 60, .inl p0firstF)), (p0secondA, .inl (p0secondC, 60, .inl p0secondF)), (p2A, .inl (p2C, p2N, .inl p2F))] [(pieceWaysC, .int), (pieceOfC, .int), (p0firstStepC, .int), (p0lastStepC, .int), (p0firstPhiC, .int), (p0lastPhiC, .int), (p0endC, .int), (p0endValueC, .int), (p0firstC, .int), (p0secondC, .int), (p2C, .int)] sz)) (va_Qi (fun (r : Int32) (_ : Unit) => r = (sX4_splitWay_r pieceWaysF pieceOfF p0blocks p1 p2F)) (fun _ t => POST dC dI [(h0, .inr (6, [.ref shapeO, .ref leftOpA, .ref rightOpA, .ref valueOfA, .ref waitingA, .int pieces, .ref pieceFromA, .ref pieceToA, .ref pieceFirstA, .ref pieceSecondA, .ref pieceWaysA, .ref pieceBlockA, .ref labelPieceA, .ref foundA, .ref pieceOfA, .ref usesA, .ref assignsA, .ref borderA, .ref phiVariableA, .ref nowA])), (pieceWaysA, .inl (pieceWaysC, 640, .inl pieceWaysF)), (pieceOfA, .inl (pieceOfC, 60, .inl (sX4_splitWay_2 pieceWaysF pieceOfF p0blocks p1 p2F))), (p0O, .inr (4, [.int (sX4_splitWay_3_0 pieceWaysF pieceOfF p0blocks p1 p2F), .int p0limit, .ref p0stepsO, .ref p0firstStepA, .ref p0lastStepA, .ref p0firstPhiA, .ref p0lastPhiA, .ref p0endA, .ref p0endValueA, .ref p0firstA, .ref p0secondA, .ref p0dominatorA, .ref p0depthA, .ref p0waysBeginA, .ref p0waysA, .ref p0dominatorsA, .ref p0loopA, .int p0phiCount, .ref p0phiGivesA, .ref p0phiNextA, .ref p0takesA])), (p0firstStepA, .inl (p0firstStepC, 60, .inl (sX4_splitWay_4 pieceWaysF pieceOfF p0blocks p0firstStepF p1 p2F))), (p0lastStepA, .inl (p0lastStepC, 60, .inl (sX4_splitWay_5 pieceWaysF pieceOfF p0blocks p0lastStepF p1 p2F))), (p0firstPhiA, .inl (p0firstPhiC, 60, .inl (sX4_splitWay_6 pieceWaysF pieceOfF p0blocks p0firstPhiF p1 p2F))), (p0lastPhiA, .inl (p0lastPhiC, 60, .inl (sX4_splitWay_7 pieceWaysF pieceOfF p0blocks p0lastPhiF p1 p2F))), (p0endA, .inl (p0endC, 60, .inl (sX4_splitWay_8 pieceWaysF pieceOfF p0blocks p0endF p1 p2F))), (p0endValueA, .inl (p0endValueC, 60, .inl (sX4_splitWay_9 pieceWaysF pieceOfF p0blocks p0endValueF p1 p2F))), (p0firstA, .inl (p0firstC, 60, .inl (sX4_splitWay_10 pieceWaysF pieceOfF p0blocks p0firstF p1 p2F))), (p0secondA, .inl (p0secondC, 60, .inl (sX4_splitWay_11 pieceWaysF pieceOfF p0blocks p0secondF p1 p2F))), (p2A, .inl (p2C, p2N, .inl (sX4_splitWay_12 pieceWaysF pieceOfF p0blocks p1 p2F)))] [(pieceWaysC, .int), (pieceOfC, .int), (p0firstStepC, .int), (p0lastStepC, .int), (p0firstPhiC, .int), (p0lastPhiC, .int), (p0endC, .int), (p0endValueC, .int), (p0firstC, .int), (p0secondC, .int), (p2C, .int)] (va_A [(h0, .inr (6, [.ref shapeO, .ref leftOpA, .ref rightOpA, .ref valueOfA, .ref waitingA, .int pieces, .ref pieceFromA, .ref pieceToA, .ref pieceFirstA, .ref pieceSecondA, .ref pieceWaysA, .ref pieceBlockA, .ref labelPieceA, .ref foundA, .ref pieceOfA, .ref usesA, .ref assignsA, .ref borderA, .ref phiVariableA, .ref nowA])), (pieceWaysA, .inl (pieceWaysC, 640, .inl pieceWaysF)), (pieceOfA, .inl (pieceOfC, 60, .inl pieceOfF)), (p0O, .inr (4, [.int p0blocks, .int p0limit, .ref p0stepsO, .ref p0firstStepA, .ref p0lastStepA, .ref p0firstPhiA, .ref p0lastPhiA, .ref p0endA, .ref p0endValueA, .ref p0firstA, .ref p0secondA, .ref p0dominatorA, .ref p0depthA, .ref p0waysBeginA, .ref p0waysA, .ref p0dominatorsA, .ref p0loopA, .int p0phiCount, .ref p0phiGivesA, .ref p0phiNextA, .ref p0takesA])), (p0firstStepA, .inl (p0firstStepC, 60, .inl p0firstStepF)), (p0lastStepA, .inl (p0lastStepC, 60, .inl p0lastStepF)), (p0firstPhiA, .inl (p0firstPhiC, 60, .inl p0firstPhiF)), (p0lastPhiA, .inl (p0lastPhiC, 60, .inl p0lastPhiF)), (p0endA, .inl (p0endC, 60, .inl p0endF)), (p0endValueA, .inl (p0endValueC, 60, .inl p0endValueF)), (p0firstA, .inl (p0firstC, 60, .inl p0firstF)), (p0secondA, .inl (p0secondC, 60, .inl p0secondF)), (p2A, .inl (p2C, p2N, .inl p2F))] sz) t) (va_A [(h0, .inr (6, [.ref shapeO, .ref leftOpA, .ref rightOpA, .ref valueOfA, .ref waitingA, .int pieces, .ref pieceFromA, .ref pieceToA, .ref pieceFirstA, .ref pieceSecondA, .ref pieceWaysA, .ref pieceBlockA, .ref labelPieceA, .ref foundA, .ref pieceOfA, .ref usesA, .ref assignsA, .ref borderA, .ref phiVariableA, .ref nowA])), (pieceWaysA, .inl (pieceWaysC, 640, .inl pieceWaysF)), (pieceOfA, .inl (pieceOfC, 60, .inl pieceOfF)), (p0O, .inr (4, [.int p0blocks, .int p0limit, .ref p0stepsO, .ref p0firstStepA, .ref p0lastStepA, .ref p0firstPhiA, .ref p0lastPhiA, .ref p0endA, .ref p0endValueA, .ref p0firstA, .ref p0secondA, .ref p0dominatorA, .ref p0depthA, .ref p0waysBeginA, .ref p0waysA, .ref p0dominatorsA, .ref p0loopA, .int p0phiCount, .ref p0phiGivesA, .ref p0phiNextA, .ref p0takesA])), (p0firstStepA, .inl (p0firstStepC, 60, .inl p0firstStepF)), (p0lastStepA, .inl (p0lastStepC, 60, .inl p0lastStepF)), (p0firstPhiA, .inl (p0firstPhiC, 60, .inl p0firstPhiF)), (p0lastPhiA, .inl (p0lastPhiC, 60, .inl p0lastPhiF)), (p0endA, .inl (p0endC, 60, .inl p0endF)), (p0endValueA, .inl (p0endValueC, 60, .inl p0endValueF)), (p0firstA, .inl (p0firstC, 60, .inl p0firstF)), (p0secondA, .inl (p0secondC, 60, .inl p0secondF)), (p2A, .inl (p2C, p2N, .inl p2F))] sz)) 0 0 (va_A [(h0, .inr (6, [.ref shapeO, .ref leftOpA, .ref rightOpA, .ref valueOfA, .ref waitingA, .int pieces, .ref pieceFromA, .ref pieceToA, .ref pieceFirstA, .ref pieceSecondA, .ref pieceWaysA, .ref pieceBlockA, .ref labelPieceA, .ref foundA, .ref pieceOfA, .ref usesA, .ref assignsA, .ref borderA, .ref phiVariableA, .ref nowA])), (pieceWaysA, .inl (pieceWaysC, 640, .inl pieceWaysF)), (pieceOfA, .inl (pieceOfC, 60, .inl pieceOfF)), (p0O, .inr (4, [.int p0blocks, .int p0limit, .ref p0stepsO, .ref p0firstStepA, .ref p0lastStepA, .ref p0firstPhiA, .ref p0lastPhiA, .ref p0endA, .ref p0endValueA, .ref p0firstA, .ref p0secondA, .ref p0dominatorA, .ref p0depthA, .ref p0waysBeginA, .ref p0waysA, .ref p0dominatorsA, .ref p0loopA, .int p0phiCount, .ref p0phiGivesA, .ref p0phiNextA, .ref p0takesA])), (p0firstStepA, .inl (p0firstStepC, 60, .inl p0firstStepF)), (p0lastStepA, .inl (p0lastStepC, 60, .inl p0lastStepF)), (p0firstPhiA, .inl (p0firstPhiC, 60, .inl p0firstPhiF)), (p0lastPhiA, .inl (p0lastPhiC, 60, .inl p0lastPhiF)), (p0endA, .inl (p0endC, 60, .inl p0endF)), (p0endValueA, .inl (p0endValueC, 60, .inl p0endValueF)), (p0firstA, .inl (p0firstC, 60, .inl p0firstF)), (p0secondA, .inl (p0secondC, 60, .inl p0secondF)), (p2A, .inl (p2C, p2N, .inl p2F))] sz) := by
  refine Met.ofW (cc := cX4_splitWay) (maxL := 5) (ret := (Option.some Jvm.ClassFile.FieldType.boolean)) (by decide) rfl ?_
  intro p e s m args below meth c s₁ B hml hv
  obtain ⟨rfl, hsz, hP, hK, hD0, hE⟩ := hv
  have hx := B.exec
  have hb := B.bytes
  have hr := B.returns
  have hts0 := atoms_spec (ws := wz yX4_splitWay cX4_splitWay 5 (Option.some Jvm.ClassFile.FieldType.boolean)) B.pre
  have hts : ∀ w ∈ gw, w.before _ s = true := fun w h => hts0 w (List.mem_cons_of_mem _ h)
  have hown : s.vm.findClass RX4 = some m.cls := findClass_of_methodNamed B.named
  have hlocks := B.notSynchronized
  subst hsz
  have hD := hD0.self (sz := s.heap.size)
  generalize hAe : va_A [(h0, .inr (6, [.ref shapeO, .ref leftOpA, .ref rightOpA, .ref valueOfA, .ref waitingA, .int pieces, .ref pieceFromA, .ref pieceToA, .ref pieceFirstA, .ref pieceSecondA, .ref pieceWaysA, .ref pieceBlockA, .ref labelPieceA, .ref foundA, .ref pieceOfA, .ref usesA, .ref assignsA, .ref borderA, .ref phiVariableA, .ref nowA])), (pieceWaysA, .inl (pieceWaysC, 640, .inl pieceWaysF)), (pieceOfA, .inl (pieceOfC, 60, .inl pieceOfF)), (p0O, .inr (4, [.int p0blocks, .int p0limit, .ref p0stepsO, .ref p0firstStepA, .ref p0lastStepA, .ref p0firstPhiA, .ref p0lastPhiA, .ref p0endA, .ref p0endValueA, .ref p0firstA, .ref p0secondA, .ref p0dominatorA, .ref p0depthA, .ref p0waysBeginA, .ref p0waysA, .ref p0dominatorsA, .ref p0loopA, .int p0phiCount, .ref p0phiGivesA, .ref p0phiNextA, .ref p0takesA])), (p0firstStepA, .inl (p0firstStepC, 60, .inl p0firstStepF)), (p0lastStepA, .inl (p0lastStepC, 60, .inl p0lastStepF)), (p0firstPhiA, .inl (p0firstPhiC, 60, .inl p0firstPhiF)), (p0lastPhiA, .inl (p0lastPhiC, 60, .inl p0lastPhiF)), (p0endA, .inl (p0endC, 60, .inl p0endF)), (p0endValueA, .inl (p0endValueC, 60, .inl p0endValueF)), (p0firstA, .inl (p0firstC, 60, .inl p0firstF)), (p0secondA, .inl (p0secondC, 60, .inl p0secondF)), (p2A, .inl (p2C, p2N, .inl p2F))] s.heap.size = A at hD hE ⊢
  have hA : ∀ q : Nat, s.heap.size ≤ q → A q := fun q h => by rw [← hAe]; exact Or.inr h
  have hS : va_S A s.heap s.heap [] := va_S.rf
  have hP : va_P (dC, dI) cls [(h0, .inr (6, [.ref shapeO, .ref leftOpA, .ref rightOpA, .ref valueOfA, .ref waitingA, .int pieces, .ref pieceFromA, .ref pieceToA, .ref pieceFirstA, .ref pieceSecondA, .ref pieceWaysA, .ref pieceBlockA, .ref labelPieceA, .ref foundA, .ref pieceOfA, .ref usesA, .ref assignsA, .ref borderA, .ref phiVariableA, .ref nowA])), (pieceWaysA, .inl (pieceWaysC, 640, .inl pieceWaysF)), (pieceOfA, .inl (pieceOfC, 60, .inl pieceOfF)), (p0O, .inr (4, [.int p0blocks, .int p0limit, .ref p0stepsO, .ref p0firstStepA, .ref p0lastStepA, .ref p0firstPhiA, .ref p0lastPhiA, .ref p0endA, .ref p0endValueA, .ref p0firstA, .ref p0secondA, .ref p0dominatorA, .ref p0depthA, .ref p0waysBeginA, .ref p0waysA, .ref p0dominatorsA, .ref p0loopA, .int p0phiCount, .ref p0phiGivesA, .ref p0phiNextA, .ref p0takesA])), (p0firstStepA, .inl (p0firstStepC, 60, .inl p0firstStepF)), (p0lastStepA, .inl (p0lastStepC, 60, .inl p0lastStepF)), (p0firstPhiA, .inl (p0firstPhiC, 60, .inl p0firstPhiF)), (p0lastPhiA, .inl (p0lastPhiC, 60, .inl p0lastPhiF)), (p0endA, .inl (p0endC, 60, .inl p0endF)), (p0endValueA, .inl (p0endValueC, 60, .inl p0endValueF)), (p0firstA, .inl (p0firstC, 60, .inl p0firstF)), (p0secondA, .inl (p0secondC, 60, .inl p0secondF)), (p2A, .inl (p2C, p2N, .inl p2F))] s.heap := hP
  have hl := lv_entry ([.ref h0, .ref p0O, .int p1, .ref p2A]) (n := 5) (Nat.le_of_ble_eq_true rfl)
  rw [lg_entry_eq]
  generalize (lg_sl ([.ref h0, .ref p0O, .int p1, .ref p2A]) ++ List.replicate (5 - (lg_sl ([.ref h0, .ref p0O, .int p1, .ref p2A])).length) Slot.unset).toArray = ls at hl ⊢
  have hl : lv_has ls 5 [(0, .ref h0), (1, .ref p0O), (2, .int p1), (3, .ref p2A)] := hl
  refine lv_aload_n hx hb dX4_splitWay_0 rfl (lv_at hl 3 rfl) ?_
  refine lv_iload_n hx hb dX4_splitWay_1 rfl (lv_at hl 2 rfl) ?_
  refine va_iald hx hb hK hP 12 10 rfl rfl (hq1) dX4_splitWay_2 ?_
  refine lv_istore (lv' := [(4, .int (p2F (Int32.toNatClampNeg p1))), (0, .ref h0), (1, .ref p0O), (2, .int p1), (3, .ref p2A)]) hx hb dX4_splitWay_3 hl (by decide) rfl (fun ls hl => ?_)
  refine lv_iload hx hb dX4_splitWay_5 (lv_at hl 0 rfl) ?_
  by_cases hc1 : (p2F (Int32.toNatClampNeg p1)) < 0
  · refine lv_if_lt (tgt := 26) hx hb dX4_splitWay_7 (by decide) (fun _ => ?_) (fun c => absurd hc1 c)
    refine lv_iconst (v := 1) hx hb dX4_splitWay_26 (by decide) ?_
    have e_sX4_splitWay_2 : sX4_splitWay_2 pieceWaysF pieceOfF p0blocks p1 p2F = pieceOfF := by unfold sX4_splitWay_2; rw [if_pos hc1]
    have e_sX4_splitWay_3_0 : sX4_splitWay_3_0 pieceWaysF pieceOfF p0blocks p1 p2F = p0blocks := by unfold sX4_splitWay_3_0; rw [if_pos hc1]
    have e_sX4_splitWay_4 : sX4_splitWay_4 pieceWaysF pieceOfF p0blocks p0firstStepF p1 p2F = p0firstStepF := by unfold sX4_splitWay_4; rw [if_pos hc1]
    have e_sX4_splitWay_5 : sX4_splitWay_5 pieceWaysF pieceOfF p0blocks p0lastStepF p1 p2F = p0lastStepF := by unfold sX4_splitWay_5; rw [if_pos hc1]
    have e_sX4_splitWay_6 : sX4_splitWay_6 pieceWaysF pieceOfF p0blocks p0firstPhiF p1 p2F = p0firstPhiF := by unfold sX4_splitWay_6; rw [if_pos hc1]
    have e_sX4_splitWay_7 : sX4_splitWay_7 pieceWaysF pieceOfF p0blocks p0lastPhiF p1 p2F = p0lastPhiF := by unfold sX4_splitWay_7; rw [if_pos hc1]
    have e_sX4_splitWay_8 : sX4_splitWay_8 pieceWaysF pieceOfF p0blocks p0endF p1 p2F = p0endF := by unfold sX4_splitWay_8; rw [if_pos hc1]
    have e_sX4_splitWay_9 : sX4_splitWay_9 pieceWaysF pieceOfF p0blocks p0endValueF p1 p2F = p0endValueF := by unfold sX4_splitWay_9; rw [if_pos hc1]
    have e_sX4_splitWay_10 : sX4_splitWay_10 pieceWaysF pieceOfF p0blocks p0firstF p1 p2F = p0firstF := by unfold sX4_splitWay_10; rw [if_pos hc1]
    have e_sX4_splitWay_11 : sX4_splitWay_11 pieceWaysF pieceOfF p0blocks p0secondF p1 p2F = p0secondF := by unfold sX4_splitWay_11; rw [if_pos hc1]
    have e_sX4_splitWay_12 : sX4_splitWay_12 pieceWaysF pieceOfF p0blocks p1 p2F = p2F := by unfold sX4_splitWay_12; rw [if_pos hc1]
    have e_sX4_splitWay_r : sX4_splitWay_r pieceWaysF pieceOfF p0blocks p1 p2F = 1 := by unfold sX4_splitWay_r; rw [if_pos hc1]
    have hP9 : va_P (dC, dI) cls [(h0, .inr (6, [.ref shapeO, .ref leftOpA, .ref rightOpA, .ref valueOfA, .ref waitingA, .int pieces, .ref pieceFromA, .ref pieceToA, .ref pieceFirstA, .ref pieceSecondA, .ref pieceWaysA, .ref pieceBlockA, .ref labelPieceA, .ref foundA, .ref pieceOfA, .ref usesA, .ref assignsA, .ref borderA, .ref phiVariableA, .ref nowA])), (pieceWaysA, .inl (pieceWaysC, 640, .inl pieceWaysF)), (pieceOfA, .inl (pieceOfC, 60, .inl (sX4_splitWay_2 pieceWaysF pieceOfF p0blocks p1 p2F))), (p0O, .inr (4, [.int (sX4_splitWay_3_0 pieceWaysF pieceOfF p0blocks p1 p2F), .int p0limit, .ref p0stepsO, .ref p0firstStepA, .ref p0lastStepA, .ref p0firstPhiA, .ref p0lastPhiA, .ref p0endA, .ref p0endValueA, .ref p0firstA, .ref p0secondA, .ref p0dominatorA, .ref p0depthA, .ref p0waysBeginA, .ref p0waysA, .ref p0dominatorsA, .ref p0loopA, .int p0phiCount, .ref p0phiGivesA, .ref p0phiNextA, .ref p0takesA])), (p0firstStepA, .inl (p0firstStepC, 60, .inl (sX4_splitWay_4 pieceWaysF pieceOfF p0blocks p0firstStepF p1 p2F))), (p0lastStepA, .inl (p0lastStepC, 60, .inl (sX4_splitWay_5 pieceWaysF pieceOfF p0blocks p0lastStepF p1 p2F))), (p0firstPhiA, .inl (p0firstPhiC, 60, .inl (sX4_splitWay_6 pieceWaysF pieceOfF p0blocks p0firstPhiF p1 p2F))), (p0lastPhiA, .inl (p0lastPhiC, 60, .inl (sX4_splitWay_7 pieceWaysF pieceOfF p0blocks p0lastPhiF p1 p2F))), (p0endA, .inl (p0endC, 60, .inl (sX4_splitWay_8 pieceWaysF pieceOfF p0blocks p0endF p1 p2F))), (p0endValueA, .inl (p0endValueC, 60, .inl (sX4_splitWay_9 pieceWaysF pieceOfF p0blocks p0endValueF p1 p2F))), (p0firstA, .inl (p0firstC, 60, .inl (sX4_splitWay_10 pieceWaysF pieceOfF p0blocks p0firstF p1 p2F))), (p0secondA, .inl (p0secondC, 60, .inl (sX4_splitWay_11 pieceWaysF pieceOfF p0blocks p0secondF p1 p2F))), (p2A, .inl (p2C, p2N, .inl (sX4_splitWay_12 pieceWaysF pieceOfF p0blocks p1 p2F)))] s.heap := by rw [e_sX4_splitWay_2, e_sX4_splitWay_3_0, e_sX4_splitWay_4, e_sX4_splitWay_5, e_sX4_splitWay_6, e_sX4_splitWay_7, e_sX4_splitWay_8, e_sX4_splitWay_9, e_sX4_splitWay_10, e_sX4_splitWay_11, e_sX4_splitWay_12]; exact hP.sub [0, 1, 2, 3, 4, 5, 6, 7, 8, 9, 10, 11, 12] rfl
    have hD9 : va_D A [(h0, .inr (6, [.ref shapeO, .ref leftOpA, .ref rightOpA, .ref valueOfA, .ref waitingA, .int pieces, .ref pieceFromA, .ref pieceToA, .ref pieceFirstA, .ref pieceSecondA, .ref pieceWaysA, .ref pieceBlockA, .ref labelPieceA, .ref foundA, .ref pieceOfA, .ref usesA, .ref assignsA, .ref borderA, .ref phiVariableA, .ref nowA])), (pieceWaysA, .inl (pieceWaysC, 640, .inl pieceWaysF)), (pieceOfA, .inl (pieceOfC, 60, .inl (sX4_splitWay_2 pieceWaysF pieceOfF p0blocks p1 p2F))), (p0O, .inr (4, [.int (sX4_splitWay_3_0 pieceWaysF pieceOfF p0blocks p1 p2F), .int p0limit, .ref p0stepsO, .ref p0firstStepA, .ref p0lastStepA, .ref p0firstPhiA, .ref p0lastPhiA, .ref p0endA, .ref p0endValueA, .ref p0firstA, .ref p0secondA, .ref p0dominatorA, .ref p0depthA, .ref p0waysBeginA, .ref p0waysA, .ref p0dominatorsA, .ref p0loopA, .int p0phiCount, .ref p0phiGivesA, .ref p0phiNextA, .ref p0takesA])), (p0firstStepA, .inl (p0firstStepC, 60, .inl (sX4_splitWay_4 pieceWaysF pieceOfF p0blocks p0firstStepF p1 p2F))), (p0lastStepA, .inl (p0lastStepC, 60, .inl (sX4_splitWay_5 pieceWaysF pieceOfF p0blocks p0lastStepF p1 p2F))), (p0firstPhiA, .inl (p0firstPhiC, 60, .inl (sX4_splitWay_6 pieceWaysF pieceOfF p0blocks p0firstPhiF p1 p2F))), (p0lastPhiA, .inl (p0lastPhiC, 60, .inl (sX4_splitWay_7 pieceWaysF pieceOfF p0blocks p0lastPhiF p1 p2F))), (p0endA, .inl (p0endC, 60, .inl (sX4_splitWay_8 pieceWaysF pieceOfF p0blocks p0endF p1 p2F))), (p0endValueA, .inl (p0endValueC, 60, .inl (sX4_splitWay_9 pieceWaysF pieceOfF p0blocks p0endValueF p1 p2F))), (p0firstA, .inl (p0firstC, 60, .inl (sX4_splitWay_10 pieceWaysF pieceOfF p0blocks p0firstF p1 p2F))), (p0secondA, .inl (p0secondC, 60, .inl (sX4_splitWay_11 pieceWaysF pieceOfF p0blocks p0secondF p1 p2F))), (p2A, .inl (p2C, p2N, .inl (sX4_splitWay_12 pieceWaysF pieceOfF p0blocks p1 p2F)))] := by rw [e_sX4_splitWay_2, e_sX4_splitWay_3_0, e_sX4_splitWay_4, e_sX4_splitWay_5, e_sX4_splitWay_6, e_sX4_splitWay_7, e_sX4_splitWay_8, e_sX4_splitWay_9, e_sX4_splitWay_10, e_sX4_splitWay_11, e_sX4_splitWay_12]; exact hD.sub [0, 1, 2, 3, 4, 5, 6, 7, 8, 9, 10, 11, 12] (by decide) rfl
    have hK9 : va_K (dC, dI) cls [(pieceWaysC, .int), (pieceOfC, .int), (p0firstStepC, .int), (p0lastStepC, .int), (p0firstPhiC, .int), (p0lastPhiC, .int), (p0endC, .int), (p0endValueC, .int), (p0firstC, .int), (p0secondC, .int), (p2C, .int)] s := hK.sub [0, 1, 2, 3, 4, 5, 6, 7, 8, 9, 10] rfl
    refine W.widen (k := 0) (n := 0) (Nat.le_of_ble_eq_true rfl) (Nat.le_of_ble_eq_true rfl) ?_
    exact W.zret (v := 1) hx hb hr (by decide) (fun t ht hW => ⟨⟨1, (), rfl, e_sX4_splitWay_r.symm, ⟨by rw [ht]; exact hP9, va_K.moved hW.alike hK9, hD9⟩⟩, hS.F ht⟩) hS.2.2 dX4_splitWay_27
  · refine lv_if_lt (tgt := 26) hx hb dX4_splitWay_7 (by decide) (fun c => absurd c hc1) (fun _ => ?_)
    refine lv_aload_n hx hb dX4_splitWay_10 rfl (lv_at hl 1 rfl) ?_
    refine va_get (D := (dC, dI)) (ci := 6) (v := .ref pieceWaysA) (C := RX4) (T := TX4) (N := 20) hx hb hts i_X4 hown hK hP 0 rfl rfl 10 (by decide) (hts _ qw72) (fun _ h9 => h9) rfl dX4_splitWay_11 ?_
    refine lv_aload_n hx hb dX4_splitWay_14 rfl (lv_at hl 1 rfl) ?_
    refine va_get (D := (dC, dI)) (ci := 6) (v := .ref pieceOfA) (C := RX4) (T := TX4) (N := 20) hx hb hts i_X4 hown hK hP 0 rfl rfl 14 (by decide) (hts _ qw76) (fun _ h9 => h9) rfl dX4_splitWay_15 ?_
    refine lv_iload hx hb dX4_splitWay_18 (lv_at hl 0 rfl) ?_
    refine va_iald hx hb hK hP 2 1 rfl rfl (hq2 hc1) dX4_splitWay_20 ?_
    refine va_iald hx hb hK hP 1 0 rfl rfl (hq3 hc1) dX4_splitWay_21 ?_
    refine lv_iconst (v := 2) hx hb dX4_splitWay_22 (by decide) ?_
    by_cases hc2 : 2 ≤ (pieceWaysF (Int32.toNatClampNeg (pieceOfF (Int32.toNatClampNeg (p2F (Int32.toNatClampNeg p1))))))
    · refine lv_icmp_ge (tgt := 28) hx hb dX4_splitWay_23 (by decide) (fun _ => ?_) (fun c => absurd hc2 c)
      refine lv_aload_n hx hb dX4_splitWay_28 rfl (lv_at hl 2 rfl) ?_
      refine va_get (D := (dC, dI)) (ci := 4) (v := .int p0blocks) (C := RX1) (T := TX1) (N := 21) hx hb hts i_X1 hown hK hP 3 rfl rfl 0 (by decide) (hts _ qw265) (fun _ h9 => h9) rfl dX4_splitWay_29 ?_
      refine lv_bipush (v := 60) hx hb dX4_splitWay_32 (by decide) ?_
      by_cases hc3 : p0blocks < 60
      · refine lv_icmp_lt (tgt := 39) hx hb dX4_splitWay_34 (by decide) (fun _ => ?_) (fun c => absurd hc3 c)
        refine lv_aload_n hx hb dX4_splitWay_39 rfl (lv_at hl 1 rfl) ?_
        refine va_get (D := (dC, dI)) (ci := 6) (v := .ref pieceOfA) (C := RX4) (T := TX4) (N := 20) hx hb hts i_X4 hown hK hP 0 rfl rfl 14 (by decide) (hts _ qw76) (fun _ h9 => h9) rfl dX4_splitWay_40 ?_
        refine lv_aload_n hx hb dX4_splitWay_43 rfl (lv_at hl 2 rfl) ?_
        refine va_get (D := (dC, dI)) (ci := 4) (v := .int p0blocks) (C := RX1) (T := TX1) (N := 21) hx hb hts i_X1 hown hK hP 3 rfl rfl 0 (by decide) (hts _ qw265) (fun _ h9 => h9) rfl dX4_splitWay_44 ?_
        refine lv_iconst (v := (-1)) hx hb dX4_splitWay_47 (by decide) ?_
        refine va_iast hx hb hK hP hD hS 2 1 rfl rfl (hq4 hc1 hc2 hc3) dX4_splitWay_48 (fun H locs hP hD hS => ?_)
        have hP : va_P (dC, dI) cls [(h0, .inr (6, [.ref shapeO, .ref leftOpA, .ref rightOpA, .ref valueOfA, .ref waitingA, .int pieces, .ref pieceFromA, .ref pieceToA, .ref pieceFirstA, .ref pieceSecondA, .ref pieceWaysA, .ref pieceBlockA, .ref labelPieceA, .ref foundA, .ref pieceOfA, .ref usesA, .ref assignsA, .ref borderA, .ref phiVariableA, .ref nowA])), (pieceWaysA, .inl (pieceWaysC, 640, .inl pieceWaysF)), (pieceOfA, .inl (pieceOfC, 60, .inl (upd pieceOfF (Int32.toNatClampNeg p0blocks) (-1)))), (p0O, .inr (4, [.int p0blocks, .int p0limit, .ref p0stepsO, .ref p0firstStepA, .ref p0lastStepA, .ref p0firstPhiA, .ref p0lastPhiA, .ref p0endA, .ref p0endValueA, .ref p0firstA, .ref p0secondA, .ref p0dominatorA, .ref p0depthA, .ref p0waysBeginA, .ref p0waysA, .ref p0dominatorsA, .ref p0loopA, .int p0phiCount, .ref p0phiGivesA, .ref p0phiNextA, .ref p0takesA])), (p0firstStepA, .inl (p0firstStepC, 60, .inl p0firstStepF)), (p0lastStepA, .inl (p0lastStepC, 60, .inl p0lastStepF)), (p0firstPhiA, .inl (p0firstPhiC, 60, .inl p0firstPhiF)), (p0lastPhiA, .inl (p0lastPhiC, 60, .inl p0lastPhiF)), (p0endA, .inl (p0endC, 60, .inl p0endF)), (p0endValueA, .inl (p0endValueC, 60, .inl p0endValueF)), (p0firstA, .inl (p0firstC, 60, .inl p0firstF)), (p0secondA, .inl (p0secondC, 60, .inl p0secondF)), (p2A, .inl (p2C, p2N, .inl p2F))] H := hP
        have hD : va_D A [(h0, .inr (6, [.ref shapeO, .ref leftOpA, .ref rightOpA, .ref valueOfA, .ref waitingA, .int pieces, .ref pieceFromA, .ref pieceToA, .ref pieceFirstA, .ref pieceSecondA, .ref pieceWaysA, .ref pieceBlockA, .ref labelPieceA, .ref foundA, .ref pieceOfA, .ref usesA, .ref assignsA, .ref borderA, .ref phiVariableA, .ref nowA])), (pieceWaysA, .inl (pieceWaysC, 640, .inl pieceWaysF)), (pieceOfA, .inl (pieceOfC, 60, .inl (upd pieceOfF (Int32.toNatClampNeg p0blocks) (-1)))), (p0O, .inr (4, [.int p0blocks, .int p0limit, .ref p0stepsO, .ref p0firstStepA, .ref p0lastStepA, .ref p0firstPhiA, .ref p0lastPhiA, .ref p0endA, .ref p0endValueA, .ref p0firstA, .ref p0secondA, .ref p0dominatorA, .ref p0depthA, .ref p0waysBeginA, .ref p0waysA, .ref p0dominatorsA, .ref p0loopA, .int p0phiCount, .ref p0phiGivesA, .ref p0phiNextA, .ref p0takesA])), (p0firstStepA, .inl (p0firstStepC, 60, .inl p0firstStepF)), (p0lastStepA, .inl (p0lastStepC, 60, .inl p0lastStepF)), (p0firstPhiA, .inl (p0firstPhiC, 60, .inl p0firstPhiF)), (p0lastPhiA, .inl (p0lastPhiC, 60, .inl p0lastPhiF)), (p0endA, .inl (p0endC, 60, .inl p0endF)), (p0endValueA, .inl (p0endValueC, 60, .inl p0endValueF)), (p0firstA, .inl (p0firstC, 60, .inl p0firstF)), (p0secondA, .inl (p0secondC, 60, .inl p0secondF)), (p2A, .inl (p2C, p2N, .inl p2F))] := hD
        refine lv_aload_n hx hb dX4_splitWay_49 rfl (lv_at hl 4 rfl) ?_
        refine lv_iload_n hx hb dX4_splitWay_50 rfl (lv_at hl 3 rfl) ?_
        refine lv_aload_n hx hb dX4_splitWay_51 rfl (lv_at hl 2 rfl) ?_
        refine lv_bipush (v := 22) hx hb dX4_splitWay_52 (by decide) ?_
        refine lv_iconst (v := (-1)) hx hb dX4_splitWay_54 (by decide) ?_
        refine lv_iload hx hb dX4_splitWay_55 (lv_at hl 0 rfl) ?_
        refine lv_iconst (v := (-1)) hx hb dX4_splitWay_57 (by decide) ?_
        have hPc := hP.sub (ws' := [(p0O, .inr (4, [.int p0blocks, .int p0limit, .ref p0stepsO, .ref p0firstStepA, .ref p0lastStepA, .ref p0firstPhiA, .ref p0lastPhiA, .ref p0endA, .ref p0endValueA, .ref p0firstA, .ref p0secondA, .ref p0dominatorA, .ref p0depthA, .ref p0waysBeginA, .ref p0waysA, .ref p0dominatorsA, .ref p0loopA, .int p0phiCount, .ref p0phiGivesA, .ref p0phiNextA, .ref p0takesA])), (p0firstStepA, .inl (p0firstStepC, 60, .inl p0firstStepF)), (p0lastStepA, .inl (p0lastStepC, 60, .inl p0lastStepF)), (p0firstPhiA, .inl (p0firstPhiC, 60, .inl p0firstPhiF)), (p0lastPhiA, .inl (p0lastPhiC, 60, .inl p0lastPhiF)), (p0endA, .inl (p0endC, 60, .inl p0endF)), (p0endValueA, .inl (p0endValueC, 60, .inl p0endValueF)), (p0firstA, .inl (p0firstC, 60, .inl p0firstF)), (p0secondA, .inl (p0secondC, 60, .inl p0secondF))]) [3, 4, 5, 6, 7, 8, 9, 10, 11] rfl
        have hDc := hD.sub (ws' := [(p0O, .inr (4, [.int p0blocks, .int p0limit, .ref p0stepsO, .ref p0firstStepA, .ref p0lastStepA, .ref p0firstPhiA, .ref p0lastPhiA, .ref p0endA, .ref p0endValueA, .ref p0firstA, .ref p0secondA, .ref p0dominatorA, .ref p0depthA, .ref p0waysBeginA, .ref p0waysA, .ref p0dominatorsA, .ref p0loopA, .int p0phiCount, .ref p0phiGivesA, .ref p0phiNextA, .ref p0takesA])), (p0firstStepA, .inl (p0firstStepC, 60, .inl p0firstStepF)), (p0lastStepA, .inl (p0lastStepC, 60, .inl p0lastStepF)), (p0firstPhiA, .inl (p0firstPhiC, 60, .inl p0firstPhiF)), (p0lastPhiA, .inl (p0lastPhiC, 60, .inl p0lastPhiF)), (p0endA, .inl (p0endC, 60, .inl p0endF)), (p0endValueA, .inl (p0endValueC, 60, .inl p0endValueF)), (p0firstA, .inl (p0firstC, 60, .inl p0firstF)), (p0secondA, .inl (p0secondC, 60, .inl p0secondF))]) [3, 4, 5, 6, 7, 8, 9, 10, 11] (by decide) rfl
        have hKc := hK.sub (tys' := [(p0firstStepC, .int), (p0lastStepC, .int), (p0firstPhiC, .int), (p0lastPhiC, .int), (p0endC, .int), (p0endValueC, .int), (p0firstC, .int), (p0secondC, .int)]) [2, 3, 4, 5, 6, 7, 8, 9] rfl
        have hFc := va_free (wc := [(p0O, .inr (4, [.int p0blocks, .int p0limit, .ref p0stepsO, .ref p0firstStepA, .ref p0lastStepA, .ref p0firstPhiA, .ref p0lastPhiA, .ref p0endA, .ref p0endValueA, .ref p0firstA, .ref p0secondA, .ref p0dominatorA, .ref p0depthA, .ref p0waysBeginA, .ref p0waysA, .ref p0dominatorsA, .ref p0loopA, .int p0phiCount, .ref p0phiGivesA, .ref p0phiNextA, .ref p0takesA])), (p0firstStepA, .inl (p0firstStepC, 60, .inl p0firstStepF)), (p0lastStepA, .inl (p0lastStepC, 60, .inl p0lastStepF)), (p0firstPhiA, .inl (p0firstPhiC, 60, .inl p0firstPhiF)), (p0lastPhiA, .inl (p0lastPhiC, 60, .inl p0lastPhiF)), (p0endA, .inl (p0endC, 60, .inl p0endF)), (p0endValueA, .inl (p0endValueC, 60, .inl p0endValueF)), (p0firstA, .inl (p0firstC, 60, .inl p0firstF)), (p0secondA, .inl (p0secondC, 60, .inl p0secondF))]) hD hS hA [3, 4, 5, 6, 7, 8, 9, 10, 11] rfl
        refine va_calli (va_runV (As := [.int 22, .int (-1), .int (p2F (Int32.toNatClampNeg p1)), .int (-1)]) (rest := [.int p1, .ref p2A]) ⟨hx, hb, hml, hown, hts⟩ (kX1_addBlock l dC dI (h0 := p0O) (blocks := p0blocks) (limit := p0limit) (firstStepA := p0firstStepA) (firstStepC := p0firstStepC) (firstStepF := p0firstStepF) (lastStepA := p0lastStepA) (lastStepC := p0lastStepC) (lastStepF := p0lastStepF) (firstPhiA := p0firstPhiA) (firstPhiC := p0firstPhiC) (firstPhiF := p0firstPhiF) (lastPhiA := p0lastPhiA) (lastPhiC := p0lastPhiC) (lastPhiF := p0lastPhiF) (endA := p0endA) (endC := p0endC) (endF := p0endF) (endValueA := p0endValueA) (endValueC := p0endValueC) (endValueF := p0endValueF) (firstA := p0firstA) (firstC := p0firstC) (firstF := p0firstF) (secondA := p0secondA) (secondC := p0secondC) (secondF := p0secondF) (dominatorA := p0dominatorA) (depthA := p0depthA) (waysBeginA := p0waysBeginA) (waysA := p0waysA) (dominatorsA := p0dominatorsA) (loopA := p0loopA) (phiCount := p0phiCount) (phiGivesA := p0phiGivesA) (phiNextA := p0phiNextA) (takesA := p0takesA) (stepsO := p0stepsO) (p0 := 22) (p1 := (-1)) (p2 := (p2F (Int32.toNatClampNeg p1))) (p3 := (-1)) (sz := _) (hq1 := (hq4 hc1 hc2 hc3))) (cwV 4 hts (gi_V qw293 qw294 qw295 qw142 (gi_z qw292)) rfl rfl rfl (by decide +kernel) ⟨Nat.le_of_ble_eq_true rfl, Nat.le_of_ble_eq_true rfl⟩) ⟨PRE.blind, va_recv hKc hPc (ci := 4) (q0 := 0) rfl rfl, PRE.of hE hS hFc hPc hKc hDc⟩ rfl rfl hl.1 rfl (lv_room (Nat.le_of_ble_eq_true rfl)) dX4_splitWay_58 ⟨Nat.le_of_ble_eq_true rfl, Nat.le_of_ble_eq_true rfl⟩) hS (fun q _ h => hFc q h) hFc (fun r1 u t H locs ht hvm hw hB hz1 hk1 hS => ?_)
        obtain ⟨hP, hD, hK⟩ := JOIN (wr := [(h0, .inr (6, [.ref shapeO, .ref leftOpA, .ref rightOpA, .ref valueOfA, .ref waitingA, .int pieces, .ref pieceFromA, .ref pieceToA, .ref pieceFirstA, .ref pieceSecondA, .ref pieceWaysA, .ref pieceBlockA, .ref labelPieceA, .ref foundA, .ref pieceOfA, .ref usesA, .ref assignsA, .ref borderA, .ref phiVariableA, .ref nowA])), (pieceWaysA, .inl (pieceWaysC, 640, .inl pieceWaysF)), (pieceOfA, .inl (pieceOfC, 60, .inl (upd pieceOfF (Int32.toNatClampNeg p0blocks) (-1)))), (p2A, .inl (p2C, p2N, .inl p2F))]) hP hD hK [3, 4, 5, 6, 7, 8, 9, 10, 11] [0, 1, 2, 12] [0, 1, 10] rfl rfl (by decide) (by decide) rfl hk1 hFc ht hvm hB
        have hP : va_P (dC, dI) cls [(h0, .inr (6, [.ref shapeO, .ref leftOpA, .ref rightOpA, .ref valueOfA, .ref waitingA, .int pieces, .ref pieceFromA, .ref pieceToA, .ref pieceFirstA, .ref pieceSecondA, .ref pieceWaysA, .ref pieceBlockA, .ref labelPieceA, .ref foundA, .ref pieceOfA, .ref usesA, .ref assignsA, .ref borderA, .ref phiVariableA, .ref nowA])), (pieceWaysA, .inl (pieceWaysC, 640, .inl pieceWaysF)), (pieceOfA, .inl (pieceOfC, 60, .inl (upd pieceOfF (Int32.toNatClampNeg p0blocks) (-1)))), (p2A, .inl (p2C, p2N, .inl p2F)), (p0O, .inr (4, [.int (p0blocks + 1), .int p0limit, .ref p0stepsO, .ref p0firstStepA, .ref p0lastStepA, .ref p0firstPhiA, .ref p0lastPhiA, .ref p0endA, .ref p0endValueA, .ref p0firstA, .ref p0secondA, .ref p0dominatorA, .ref p0depthA, .ref p0waysBeginA, .ref p0waysA, .ref p0dominatorsA, .ref p0loopA, .int p0phiCount, .ref p0phiGivesA, .ref p0phiNextA, .ref p0takesA])), (p0firstStepA, .inl (p0firstStepC, 60, .inl (upd p0firstStepF (Int32.toNatClampNeg p0blocks) (-1)))), (p0lastStepA, .inl (p0lastStepC, 60, .inl (upd p0lastStepF (Int32.toNatClampNeg p0blocks) (-1)))), (p0firstPhiA, .inl (p0firstPhiC, 60, .inl (upd p0firstPhiF (Int32.toNatClampNeg p0blocks) (-1)))), (p0lastPhiA, .inl (p0lastPhiC, 60, .inl (upd p0lastPhiF (Int32.toNatClampNeg p0blocks) (-1)))), (p0endA, .inl (p0endC, 60, .inl (upd p0endF (Int32.toNatClampNeg p0blocks) 22))), (p0endValueA, .inl (p0endValueC, 60, .inl (upd p0endValueF (Int32.toNatClampNeg p0blocks) (-1)))), (p0firstA, .inl (p0firstC, 60, .inl (upd p0firstF (Int32.toNatClampNeg p0blocks) (p2F (Int32.toNatClampNeg p1))))), (p0secondA, .inl (p0secondC, 60, .inl (upd p0secondF (Int32.toNatClampNeg p0blocks) (-1))))] H := hP
        have hD : va_D A [(h0, .inr (6, [.ref shapeO, .ref leftOpA, .ref rightOpA, .ref valueOfA, .ref waitingA, .int pieces, .ref pieceFromA, .ref pieceToA, .ref pieceFirstA, .ref pieceSecondA, .ref pieceWaysA, .ref pieceBlockA, .ref labelPieceA, .ref foundA, .ref pieceOfA, .ref usesA, .ref assignsA, .ref borderA, .ref phiVariableA, .ref nowA])), (pieceWaysA, .inl (pieceWaysC, 640, .inl pieceWaysF)), (pieceOfA, .inl (pieceOfC, 60, .inl (upd pieceOfF (Int32.toNatClampNeg p0blocks) (-1)))), (p2A, .inl (p2C, p2N, .inl p2F)), (p0O, .inr (4, [.int (p0blocks + 1), .int p0limit, .ref p0stepsO, .ref p0firstStepA, .ref p0lastStepA, .ref p0firstPhiA, .ref p0lastPhiA, .ref p0endA, .ref p0endValueA, .ref p0firstA, .ref p0secondA, .ref p0dominatorA, .ref p0depthA, .ref p0waysBeginA, .ref p0waysA, .ref p0dominatorsA, .ref p0loopA, .int p0phiCount, .ref p0phiGivesA, .ref p0phiNextA, .ref p0takesA])), (p0firstStepA, .inl (p0firstStepC, 60, .inl (upd p0firstStepF (Int32.toNatClampNeg p0blocks) (-1)))), (p0lastStepA, .inl (p0lastStepC, 60, .inl (upd p0lastStepF (Int32.toNatClampNeg p0blocks) (-1)))), (p0firstPhiA, .inl (p0firstPhiC, 60, .inl (upd p0firstPhiF (Int32.toNatClampNeg p0blocks) (-1)))), (p0lastPhiA, .inl (p0lastPhiC, 60, .inl (upd p0lastPhiF (Int32.toNatClampNeg p0blocks) (-1)))), (p0endA, .inl (p0endC, 60, .inl (upd p0endF (Int32.toNatClampNeg p0blocks) 22))), (p0endValueA, .inl (p0endValueC, 60, .inl (upd p0endValueF (Int32.toNatClampNeg p0blocks) (-1)))), (p0firstA, .inl (p0firstC, 60, .inl (upd p0firstF (Int32.toNatClampNeg p0blocks) (p2F (Int32.toNatClampNeg p1))))), (p0secondA, .inl (p0secondC, 60, .inl (upd p0secondF (Int32.toNatClampNeg p0blocks) (-1))))] := hD
        have hK : va_K (dC, dI) cls [(pieceWaysC, .int), (pieceOfC, .int), (p2C, .int), (p0firstStepC, .int), (p0lastStepC, .int), (p0firstPhiC, .int), (p0lastPhiC, .int), (p0endC, .int), (p0endValueC, .int), (p0firstC, .int), (p0secondC, .int)] s := hK
        refine W.widen (k := 0) (n := 0) (Nat.le_of_ble_eq_true rfl) (Nat.le_of_ble_eq_true rfl) ?_
        obtain rfl : p0blocks = r1 := hw.symm
        refine va_iast hx hb hK hP hD hS 3 2 rfl rfl (hq1) dX4_splitWay_61 (fun H locs hP hD hS => ?_)
        have hP : va_P (dC, dI) cls [(h0, .inr (6, [.ref shapeO, .ref leftOpA, .ref rightOpA, .ref valueOfA, .ref waitingA, .int pieces, .ref pieceFromA, .ref pieceToA, .ref pieceFirstA, .ref pieceSecondA, .ref pieceWaysA, .ref pieceBlockA, .ref labelPieceA, .ref foundA, .ref pieceOfA, .ref usesA, .ref assignsA, .ref borderA, .ref phiVariableA, .ref nowA])), (pieceWaysA, .inl (pieceWaysC, 640, .inl pieceWaysF)), (pieceOfA, .inl (pieceOfC, 60, .inl (upd pieceOfF (Int32.toNatClampNeg p0blocks) (-1)))), (p2A, .inl (p2C, p2N, .inl (upd p2F (Int32.toNatClampNeg p1) p0blocks))), (p0O, .inr (4, [.int (p0blocks + 1), .int p0limit, .ref p0stepsO, .ref p0firstStepA, .ref p0lastStepA, .ref p0firstPhiA, .ref p0lastPhiA, .ref p0endA, .ref p0endValueA, .ref p0firstA, .ref p0secondA, .ref p0dominatorA, .ref p0depthA, .ref p0waysBeginA, .ref p0waysA, .ref p0dominatorsA, .ref p0loopA, .int p0phiCount, .ref p0phiGivesA, .ref p0phiNextA, .ref p0takesA])), (p0firstStepA, .inl (p0firstStepC, 60, .inl (upd p0firstStepF (Int32.toNatClampNeg p0blocks) (-1)))), (p0lastStepA, .inl (p0lastStepC, 60, .inl (upd p0lastStepF (Int32.toNatClampNeg p0blocks) (-1)))), (p0firstPhiA, .inl (p0firstPhiC, 60, .inl (upd p0firstPhiF (Int32.toNatClampNeg p0blocks) (-1)))), (p0lastPhiA, .inl (p0lastPhiC, 60, .inl (upd p0lastPhiF (Int32.toNatClampNeg p0blocks) (-1)))), (p0endA, .inl (p0endC, 60, .inl (upd p0endF (Int32.toNatClampNeg p0blocks) 22))), (p0endValueA, .inl (p0endValueC, 60, .inl (upd p0endValueF (Int32.toNatClampNeg p0blocks) (-1)))), (p0firstA, .inl (p0firstC, 60, .inl (upd p0firstF (Int32.toNatClampNeg p0blocks) (p2F (Int32.toNatClampNeg p1))))), (p0secondA, .inl (p0secondC, 60, .inl (upd p0secondF (Int32.toNatClampNeg p0blocks) (-1))))] H := hP
        have hD : va_D A [(h0, .inr (6, [.ref shapeO, .ref leftOpA, .ref rightOpA, .ref valueOfA, .ref waitingA, .int pieces, .ref pieceFromA, .ref pieceToA, .ref pieceFirstA, .ref pieceSecondA, .ref pieceWaysA, .ref pieceBlockA, .ref labelPieceA, .ref foundA, .ref pieceOfA, .ref usesA, .ref assignsA, .ref borderA, .ref phiVariableA, .ref nowA])), (pieceWaysA, .inl (pieceWaysC, 640, .inl pieceWaysF)), (pieceOfA, .inl (pieceOfC, 60, .inl (upd pieceOfF (Int32.toNatClampNeg p0blocks) (-1)))), (p2A, .inl (p2C, p2N, .inl (upd p2F (Int32.toNatClampNeg p1) p0blocks))), (p0O, .inr (4, [.int (p0blocks + 1), .int p0limit, .ref p0stepsO, .ref p0firstStepA, .ref p0lastStepA, .ref p0firstPhiA, .ref p0lastPhiA, .ref p0endA, .ref p0endValueA, .ref p0firstA, .ref p0secondA, .ref p0dominatorA, .ref p0depthA, .ref p0waysBeginA, .ref p0waysA, .ref p0dominatorsA, .ref p0loopA, .int p0phiCount, .ref p0phiGivesA, .ref p0phiNextA, .ref p0takesA])), (p0firstStepA, .inl (p0firstStepC, 60, .inl (upd p0firstStepF (Int32.toNatClampNeg p0blocks) (-1)))), (p0lastStepA, .inl (p0lastStepC, 60, .inl (upd p0lastStepF (Int32.toNatClampNeg p0blocks) (-1)))), (p0firstPhiA, .inl (p0firstPhiC, 60, .inl (upd p0firstPhiF (Int32.toNatClampNeg p0blocks) (-1)))), (p0lastPhiA, .inl (p0lastPhiC, 60, .inl (upd p0lastPhiF (Int32.toNatClampNeg p0blocks) (-1)))), (p0endA, .inl (p0endC, 60, .inl (upd p0endF (Int32.toNatClampNeg p0blocks) 22))), (p0endValueA, .inl (p0endValueC, 60, .inl (upd p0endValueF (Int32.toNatClampNeg p0blocks) (-1)))), (p0firstA, .inl (p0firstC, 60, .inl (upd p0firstF (Int32.toNatClampNeg p0blocks) (p2F (Int32.toNatClampNeg p1))))), (p0secondA, .inl (p0secondC, 60, .inl (upd p0secondF (Int32.toNatClampNeg p0blocks) (-1))))] := hD
        refine lv_iconst (v := 1) hx hb dX4_splitWay_62 (by decide) ?_
        have e_sX4_splitWay_2 : sX4_splitWay_2 pieceWaysF pieceOfF p0blocks p1 p2F = (upd pieceOfF (Int32.toNatClampNeg p0blocks) (-1)) := by unfold sX4_splitWay_2; rw [if_neg hc1, if_pos hc2, if_pos hc3]
        have e_sX4_splitWay_3_0 : sX4_splitWay_3_0 pieceWaysF pieceOfF p0blocks p1 p2F = (p0blocks + 1) := by unfold sX4_splitWay_3_0; rw [if_neg hc1, if_pos hc2, if_pos hc3]
        have e_sX4_splitWay_4 : sX4_splitWay_4 pieceWaysF pieceOfF p0blocks p0firstStepF p1 p2F = (upd p0firstStepF (Int32.toNatClampNeg p0blocks) (-1)) := by unfold sX4_splitWay_4; rw [if_neg hc1, if_pos hc2, if_pos hc3]
        have e_sX4_splitWay_5 : sX4_splitWay_5 pieceWaysF pieceOfF p0blocks p0lastStepF p1 p2F = (upd p0lastStepF (Int32.toNatClampNeg p0blocks) (-1)) := by unfold sX4_splitWay_5; rw [if_neg hc1, if_pos hc2, if_pos hc3]
        have e_sX4_splitWay_6 : sX4_splitWay_6 pieceWaysF pieceOfF p0blocks p0firstPhiF p1 p2F = (upd p0firstPhiF (Int32.toNatClampNeg p0blocks) (-1)) := by unfold sX4_splitWay_6; rw [if_neg hc1, if_pos hc2, if_pos hc3]
        have e_sX4_splitWay_7 : sX4_splitWay_7 pieceWaysF pieceOfF p0blocks p0lastPhiF p1 p2F = (upd p0lastPhiF (Int32.toNatClampNeg p0blocks) (-1)) := by unfold sX4_splitWay_7; rw [if_neg hc1, if_pos hc2, if_pos hc3]
        have e_sX4_splitWay_8 : sX4_splitWay_8 pieceWaysF pieceOfF p0blocks p0endF p1 p2F = (upd p0endF (Int32.toNatClampNeg p0blocks) 22) := by unfold sX4_splitWay_8; rw [if_neg hc1, if_pos hc2, if_pos hc3]
        have e_sX4_splitWay_9 : sX4_splitWay_9 pieceWaysF pieceOfF p0blocks p0endValueF p1 p2F = (upd p0endValueF (Int32.toNatClampNeg p0blocks) (-1)) := by unfold sX4_splitWay_9; rw [if_neg hc1, if_pos hc2, if_pos hc3]
        have e_sX4_splitWay_10 : sX4_splitWay_10 pieceWaysF pieceOfF p0blocks p0firstF p1 p2F = (upd p0firstF (Int32.toNatClampNeg p0blocks) (p2F (Int32.toNatClampNeg p1))) := by unfold sX4_splitWay_10; rw [if_neg hc1, if_pos hc2, if_pos hc3]
        have e_sX4_splitWay_11 : sX4_splitWay_11 pieceWaysF pieceOfF p0blocks p0secondF p1 p2F = (upd p0secondF (Int32.toNatClampNeg p0blocks) (-1)) := by unfold sX4_splitWay_11; rw [if_neg hc1, if_pos hc2, if_pos hc3]
        have e_sX4_splitWay_12 : sX4_splitWay_12 pieceWaysF pieceOfF p0blocks p1 p2F = (upd p2F (Int32.toNatClampNeg p1) p0blocks) := by unfold sX4_splitWay_12; rw [if_neg hc1, if_pos hc2, if_pos hc3]
        have e_sX4_splitWay_r : sX4_splitWay_r pieceWaysF pieceOfF p0blocks p1 p2F = 1 := by unfold sX4_splitWay_r; rw [if_neg hc1, if_pos hc2, if_pos hc3]
        have hP9 : va_P (dC, dI) cls [(h0, .inr (6, [.ref shapeO, .ref leftOpA, .ref rightOpA, .ref valueOfA, .ref waitingA, .int pieces, .ref pieceFromA, .ref pieceToA, .ref pieceFirstA, .ref pieceSecondA, .ref pieceWaysA, .ref pieceBlockA, .ref labelPieceA, .ref foundA, .ref pieceOfA, .ref usesA, .ref assignsA, .ref borderA, .ref phiVariableA, .ref nowA])), (pieceWaysA, .inl (pieceWaysC, 640, .inl pieceWaysF)), (pieceOfA, .inl (pieceOfC, 60, .inl (sX4_splitWay_2 pieceWaysF pieceOfF p0blocks p1 p2F))), (p0O, .inr (4, [.int (sX4_splitWay_3_0 pieceWaysF pieceOfF p0blocks p1 p2F), .int p0limit, .ref p0stepsO, .ref p0firstStepA, .ref p0lastStepA, .ref p0firstPhiA, .ref p0lastPhiA, .ref p0endA, .ref p0endValueA, .ref p0firstA, .ref p0secondA, .ref p0dominatorA, .ref p0depthA, .ref p0waysBeginA, .ref p0waysA, .ref p0dominatorsA, .ref p0loopA, .int p0phiCount, .ref p0phiGivesA, .ref p0phiNextA, .ref p0takesA])), (p0firstStepA, .inl (p0firstStepC, 60, .inl (sX4_splitWay_4 pieceWaysF pieceOfF p0blocks p0firstStepF p1 p2F))), (p0lastStepA, .inl (p0lastStepC, 60, .inl (sX4_splitWay_5 pieceWaysF pieceOfF p0blocks p0lastStepF p1 p2F))), (p0firstPhiA, .inl (p0firstPhiC, 60, .inl (sX4_splitWay_6 pieceWaysF pieceOfF p0blocks p0firstPhiF p1 p2F))), (p0lastPhiA, .inl (p0lastPhiC, 60, .inl (sX4_splitWay_7 pieceWaysF pieceOfF p0blocks p0lastPhiF p1 p2F))), (p0endA, .inl (p0endC, 60, .inl (sX4_splitWay_8 pieceWaysF pieceOfF p0blocks p0endF p1 p2F))), (p0endValueA, .inl (p0endValueC, 60, .inl (sX4_splitWay_9 pieceWaysF pieceOfF p0blocks p0endValueF p1 p2F))), (p0firstA, .inl (p0firstC, 60, .inl (sX4_splitWay_10 pieceWaysF pieceOfF p0blocks p0firstF p1 p2F))), (p0secondA, .inl (p0secondC, 60, .inl (sX4_splitWay_11 pieceWaysF pieceOfF p0blocks p0secondF p1 p2F))), (p2A, .inl (p2C, p2N, .inl (sX4_splitWay_12 pieceWaysF pieceOfF p0blocks p1 p2F)))] H := by rw [e_sX4_splitWay_2, e_sX4_splitWay_3_0, e_sX4_splitWay_4, e_sX4_splitWay_5, e_sX4_splitWay_6, e_sX4_splitWay_7, e_sX4_splitWay_8, e_sX4_splitWay_9, e_sX4_splitWay_10, e_sX4_splitWay_11, e_sX4_splitWay_12]; exact hP.sub [0, 1, 2, 4, 5, 6, 7, 8, 9, 10, 11, 12, 3] rfl
        have hD9 : va_D A [(h0, .inr (6, [.ref shapeO, .ref leftOpA, .ref rightOpA, .ref valueOfA, .ref waitingA, .int pieces, .ref pieceFromA, .ref pieceToA, .ref pieceFirstA, .ref pieceSecondA, .ref pieceWaysA, .ref pieceBlockA, .ref labelPieceA, .ref foundA, .ref pieceOfA, .ref usesA, .ref assignsA, .ref borderA, .ref phiVariableA, .ref nowA])), (pieceWaysA, .inl (pieceWaysC, 640, .inl pieceWaysF)), (pieceOfA, .inl (pieceOfC, 60, .inl (sX4_splitWay_2 pieceWaysF pieceOfF p0blocks p1 p2F))), (p0O, .inr (4, [.int (sX4_splitWay_3_0 pieceWaysF pieceOfF p0blocks p1 p2F), .int p0limit, .ref p0stepsO, .ref p0firstStepA, .ref p0lastStepA, .ref p0firstPhiA, .ref p0lastPhiA, .ref p0endA, .ref p0endValueA, .ref p0firstA, .ref p0secondA, .ref p0dominatorA, .ref p0depthA, .ref p0waysBeginA, .ref p0waysA, .ref p0dominatorsA, .ref p0loopA, .int p0phiCount, .ref p0phiGivesA, .ref p0phiNextA, .ref p0takesA])), (p0firstStepA, .inl (p0firstStepC, 60, .inl (sX4_splitWay_4 pieceWaysF pieceOfF p0blocks p0firstStepF p1 p2F))), (p0lastStepA, .inl (p0lastStepC, 60, .inl (sX4_splitWay_5 pieceWaysF pieceOfF p0blocks p0lastStepF p1 p2F))), (p0firstPhiA, .inl (p0firstPhiC, 60, .inl (sX4_splitWay_6 pieceWaysF pieceOfF p0blocks p0firstPhiF p1 p2F))), (p0lastPhiA, .inl (p0lastPhiC, 60, .inl (sX4_splitWay_7 pieceWaysF pieceOfF p0blocks p0lastPhiF p1 p2F))), (p0endA, .inl (p0endC, 60, .inl (sX4_splitWay_8 pieceWaysF pieceOfF p0blocks p0endF p1 p2F))), (p0endValueA, .inl (p0endValueC, 60, .inl (sX4_splitWay_9 pieceWaysF pieceOfF p0blocks p0endValueF p1 p2F))), (p0firstA, .inl (p0firstC, 60, .inl (sX4_splitWay_10 pieceWaysF pieceOfF p0blocks p0firstF p1 p2F))), (p0secondA, .inl (p0secondC, 60, .inl (sX4_splitWay_11 pieceWaysF pieceOfF p0blocks p0secondF p1 p2F))), (p2A, .inl (p2C, p2N, .inl (sX4_splitWay_12 pieceWaysF pieceOfF p0blocks p1 p2F)))] := by rw [e_sX4_splitWay_2, e_sX4_splitWay_3_0, e_sX4_splitWay_4, e_sX4_splitWay_5, e_sX4_splitWay_6, e_sX4_splitWay_7, e_sX4_splitWay_8, e_sX4_splitWay_9, e_sX4_splitWay_10, e_sX4_splitWay_11, e_sX4_splitWay_12]; exact hD.sub [0, 1, 2, 4, 5, 6, 7, 8, 9, 10, 11, 12, 3] (by decide) rfl
        have hK9 : va_K (dC, dI) cls [(pieceWaysC, .int), (pieceOfC, .int), (p0firstStepC, .int), (p0lastStepC, .int), (p0firstPhiC, .int), (p0lastPhiC, .int), (p0endC, .int), (p0endValueC, .int), (p0firstC, .int), (p0secondC, .int), (p2C, .int)] s := hK.sub [0, 1, 3, 4, 5, 6, 7, 8, 9, 10, 2] rfl
        refine W.widen (k := 0) (n := 0) (Nat.le_of_ble_eq_true rfl) (Nat.le_of_ble_eq_true rfl) ?_
        exact W.zret (v := 1) hx hb hr (by decide) (fun t ht hW => ⟨⟨1, (), rfl, e_sX4_splitWay_r.symm, ⟨by rw [ht]; exact hP9, va_K.moved hW.alike hK9, hD9⟩⟩, hS.F ht⟩) hS.2.2 dX4_splitWay_63
      · refine lv_icmp_lt (tgt := 39) hx hb dX4_splitWay_34 (by decide) (fun c => absurd c hc3) (fun _ => ?_)
        refine lv_iconst (v := 0) hx hb dX4_splitWay_37 (by decide) ?_
        have e_sX4_splitWay_2 : sX4_splitWay_2 pieceWaysF pieceOfF p0blocks p1 p2F = pieceOfF := by unfold sX4_splitWay_2; rw [if_neg hc1, if_pos hc2, if_neg hc3]
        have e_sX4_splitWay_3_0 : sX4_splitWay_3_0 pieceWaysF pieceOfF p0blocks p1 p2F = p0blocks := by unfold sX4_splitWay_3_0; rw [if_neg hc1, if_pos hc2, if_neg hc3]
        have e_sX4_splitWay_4 : sX4_splitWay_4 pieceWaysF pieceOfF p0blocks p0firstStepF p1 p2F = p0firstStepF := by unfold sX4_splitWay_4; rw [if_neg hc1, if_pos hc2, if_neg hc3]
        have e_sX4_splitWay_5 : sX4_splitWay_5 pieceWaysF pieceOfF p0blocks p0lastStepF p1 p2F = p0lastStepF := by unfold sX4_splitWay_5; rw [if_neg hc1, if_pos hc2, if_neg hc3]
        have e_sX4_splitWay_6 : sX4_splitWay_6 pieceWaysF pieceOfF p0blocks p0firstPhiF p1 p2F = p0firstPhiF := by unfold sX4_splitWay_6; rw [if_neg hc1, if_pos hc2, if_neg hc3]
        have e_sX4_splitWay_7 : sX4_splitWay_7 pieceWaysF pieceOfF p0blocks p0lastPhiF p1 p2F = p0lastPhiF := by unfold sX4_splitWay_7; rw [if_neg hc1, if_pos hc2, if_neg hc3]
        have e_sX4_splitWay_8 : sX4_splitWay_8 pieceWaysF pieceOfF p0blocks p0endF p1 p2F = p0endF := by unfold sX4_splitWay_8; rw [if_neg hc1, if_pos hc2, if_neg hc3]
        have e_sX4_splitWay_9 : sX4_splitWay_9 pieceWaysF pieceOfF p0blocks p0endValueF p1 p2F = p0endValueF := by unfold sX4_splitWay_9; rw [if_neg hc1, if_pos hc2, if_neg hc3]
        have e_sX4_splitWay_10 : sX4_splitWay_10 pieceWaysF pieceOfF p0blocks p0firstF p1 p2F = p0firstF := by unfold sX4_splitWay_10; rw [if_neg hc1, if_pos hc2, if_neg hc3]
        have e_sX4_splitWay_11 : sX4_splitWay_11 pieceWaysF pieceOfF p0blocks p0secondF p1 p2F = p0secondF := by unfold sX4_splitWay_11; rw [if_neg hc1, if_pos hc2, if_neg hc3]
        have e_sX4_splitWay_12 : sX4_splitWay_12 pieceWaysF pieceOfF p0blocks p1 p2F = p2F := by unfold sX4_splitWay_12; rw [if_neg hc1, if_pos hc2, if_neg hc3]
        have e_sX4_splitWay_r : sX4_splitWay_r pieceWaysF pieceOfF p0blocks p1 p2F = 0 := by unfold sX4_splitWay_r; rw [if_neg hc1, if_pos hc2, if_neg hc3]
        have hP9 : va_P (dC, dI) cls [(h0, .inr (6, [.ref shapeO, .ref leftOpA, .ref rightOpA, .ref valueOfA, .ref waitingA, .int pieces, .ref pieceFromA, .ref pieceToA, .ref pieceFirstA, .ref pieceSecondA, .ref pieceWaysA, .ref pieceBlockA, .ref labelPieceA, .ref foundA, .ref pieceOfA, .ref usesA, .ref assignsA, .ref borderA, .ref phiVariableA, .ref nowA])), (pieceWaysA, .inl (pieceWaysC, 640, .inl pieceWaysF)), (pieceOfA, .inl (pieceOfC, 60, .inl (sX4_splitWay_2 pieceWaysF pieceOfF p0blocks p1 p2F))), (p0O, .inr (4, [.int (sX4_splitWay_3_0 pieceWaysF pieceOfF p0blocks p1 p2F), .int p0limit, .ref p0stepsO, .ref p0firstStepA, .ref p0lastStepA, .ref p0firstPhiA, .ref p0lastPhiA, .ref p0endA, .ref p0endValueA, .ref p0firstA, .ref p0secondA, .ref p0dominatorA, .ref p0depthA, .ref p0waysBeginA, .ref p0waysA, .ref p0dominatorsA, .ref p0loopA, .int p0phiCount, .ref p0phiGivesA, .ref p0phiNextA, .ref p0takesA])), (p0firstStepA, .inl (p0firstStepC, 60, .inl (sX4_splitWay_4 pieceWaysF pieceOfF p0blocks p0firstStepF p1 p2F))), (p0lastStepA, .inl (p0lastStepC, 60, .inl (sX4_splitWay_5 pieceWaysF pieceOfF p0blocks p0lastStepF p1 p2F))), (p0firstPhiA, .inl (p0firstPhiC, 60, .inl (sX4_splitWay_6 pieceWaysF pieceOfF p0blocks p0firstPhiF p1 p2F))), (p0lastPhiA, .inl (p0lastPhiC, 60, .inl (sX4_splitWay_7 pieceWaysF pieceOfF p0blocks p0lastPhiF p1 p2F))), (p0endA, .inl (p0endC, 60, .inl (sX4_splitWay_8 pieceWaysF pieceOfF p0blocks p0endF p1 p2F))), (p0endValueA, .inl (p0endValueC, 60, .inl (sX4_splitWay_9 pieceWaysF pieceOfF p0blocks p0endValueF p1 p2F))), (p0firstA, .inl (p0firstC, 60, .inl (sX4_splitWay_10 pieceWaysF pieceOfF p0blocks p0firstF p1 p2F))), (p0secondA, .inl (p0secondC, 60, .inl (sX4_splitWay_11 pieceWaysF pieceOfF p0blocks p0secondF p1 p2F))), (p2A, .inl (p2C, p2N, .inl (sX4_splitWay_12 pieceWaysF pieceOfF p0blocks p1 p2F)))] s.heap := by rw [e_sX4_splitWay_2, e_sX4_splitWay_3_0, e_sX4_splitWay_4, e_sX4_splitWay_5, e_sX4_splitWay_6, e_sX4_splitWay_7, e_sX4_splitWay_8, e_sX4_splitWay_9, e_sX4_splitWay_10, e_sX4_splitWay_11, e_sX4_splitWay_12]; exact hP.sub [0, 1, 2, 3, 4, 5, 6, 7, 8, 9, 10, 11, 12] rfl
        have hD9 : va_D A [(h0, .inr (6, [.ref shapeO, .ref leftOpA, .ref rightOpA, .ref valueOfA, .ref waitingA, .int pieces, .ref pieceFromA, .ref pieceToA, .ref pieceFirstA, .ref pieceSecondA, .ref pieceWaysA, .ref pieceBlockA, .ref labelPieceA, .ref foundA, .ref pieceOfA, .ref usesA, .ref assignsA, .ref borderA, .ref phiVariableA, .ref nowA])), (pieceWaysA, .inl (pieceWaysC, 640, .inl pieceWaysF)), (pieceOfA, .inl (pieceOfC, 60, .inl (sX4_splitWay_2 pieceWaysF pieceOfF p0blocks p1 p2F))), (p0O, .inr (4, [.int (sX4_splitWay_3_0 pieceWaysF pieceOfF p0blocks p1 p2F), .int p0limit, .ref p0stepsO, .ref p0firstStepA, .ref p0lastStepA, .ref p0firstPhiA, .ref p0lastPhiA, .ref p0endA, .ref p0endValueA, .ref p0firstA, .ref p0secondA, .ref p0dominatorA, .ref p0depthA, .ref p0waysBeginA, .ref p0waysA, .ref p0dominatorsA, .ref p0loopA, .int p0phiCount, .ref p0phiGivesA, .ref p0phiNextA, .ref p0takesA])), (p0firstStepA, .inl (p0firstStepC, 60, .inl (sX4_splitWay_4 pieceWaysF pieceOfF p0blocks p0firstStepF p1 p2F))), (p0lastStepA, .inl (p0lastStepC, 60, .inl (sX4_splitWay_5 pieceWaysF pieceOfF p0blocks p0lastStepF p1 p2F))), (p0firstPhiA, .inl (p0firstPhiC, 60, .inl (sX4_splitWay_6 pieceWaysF pieceOfF p0blocks p0firstPhiF p1 p2F))), (p0lastPhiA, .inl (p0lastPhiC, 60, .inl (sX4_splitWay_7 pieceWaysF pieceOfF p0blocks p0lastPhiF p1 p2F))), (p0endA, .inl (p0endC, 60, .inl (sX4_splitWay_8 pieceWaysF pieceOfF p0blocks p0endF p1 p2F))), (p0endValueA, .inl (p0endValueC, 60, .inl (sX4_splitWay_9 pieceWaysF pieceOfF p0blocks p0endValueF p1 p2F))), (p0firstA, .inl (p0firstC, 60, .inl (sX4_splitWay_10 pieceWaysF pieceOfF p0blocks p0firstF p1 p2F))), (p0secondA, .inl (p0secondC, 60, .inl (sX4_splitWay_11 pieceWaysF pieceOfF p0blocks p0secondF p1 p2F))), (p2A, .inl (p2C, p2N, .inl (sX4_splitWay_12 pieceWaysF pieceOfF p0blocks p1 p2F)))] := by rw [e_sX4_splitWay_2, e_sX4_splitWay_3_0, e_sX4_splitWay_4, e_sX4_splitWay_5, e_sX4_splitWay_6, e_sX4_splitWay_7, e_sX4_splitWay_8, e_sX4_splitWay_9, e_sX4_splitWay_10, e_sX4_splitWay_11, e_sX4_splitWay_12]; exact hD.sub [0, 1, 2, 3, 4, 5, 6, 7, 8, 9, 10, 11, 12] (by decide) rfl
        have hK9 : va_K (dC, dI) cls [(pieceWaysC, .int), (pieceOfC, .int), (p0firstStepC, .int), (p0lastStepC, .int), (p0firstPhiC, .int), (p0lastPhiC, .int), (p0endC, .int), (p0endValueC, .int), (p0firstC, .int), (p0secondC, .int), (p2C, .int)] s := hK.sub [0, 1, 2, 3, 4, 5, 6, 7, 8, 9, 10] rfl
        refine W.widen (k := 0) (n := 0) (Nat.le_of_ble_eq_true rfl) (Nat.le_of_ble_eq_true rfl) ?_
        exact W.zret (v := 0) hx hb hr (by decide) (fun t ht hW => ⟨⟨0, (), rfl, e_sX4_splitWay_r.symm, ⟨by rw [ht]; exact hP9, va_K.moved hW.alike hK9, hD9⟩⟩, hS.F ht⟩) hS.2.2 dX4_splitWay_38
    · refine lv_icmp_ge (tgt := 28) hx hb dX4_splitWay_23 (by decide) (fun c => absurd c hc2) (fun _ => ?_)
      refine lv_iconst (v := 1) hx hb dX4_splitWay_26 (by decide) ?_
      have e_sX4_splitWay_2 : sX4_splitWay_2 pieceWaysF pieceOfF p0blocks p1 p2F = pieceOfF := by unfold sX4_splitWay_2; rw [if_neg hc1, if_neg hc2]
      have e_sX4_splitWay_3_0 : sX4_splitWay_3_0 pieceWaysF pieceOfF p0blocks p1 p2F = p0blocks := by unfold sX4_splitWay_3_0; rw [if_neg hc1, if_neg hc2]
      have e_sX4_splitWay_4 : sX4_splitWay_4 pieceWaysF pieceOfF p0blocks p0firstStepF p1 p2F = p0firstStepF := by unfold sX4_splitWay_4; rw [if_neg hc1, if_neg hc2]
      have e_sX4_splitWay_5 : sX4_splitWay_5 pieceWaysF pieceOfF p0blocks p0lastStepF p1 p2F = p0lastStepF := by unfold sX4_splitWay_5; rw [if_neg hc1, if_neg hc2]
      have e_sX4_splitWay_6 : sX4_splitWay_6 pieceWaysF pieceOfF p0blocks p0firstPhiF p1 p2F = p0firstPhiF := by unfold sX4_splitWay_6; rw [if_neg hc1, if_neg hc2]
      have e_sX4_splitWay_7 : sX4_splitWay_7 pieceWaysF pieceOfF p0blocks p0lastPhiF p1 p2F = p0lastPhiF := by unfold sX4_splitWay_7; rw [if_neg hc1, if_neg hc2]
      have e_sX4_splitWay_8 : sX4_splitWay_8 pieceWaysF pieceOfF p0blocks p0endF p1 p2F = p0endF := by unfold sX4_splitWay_8; rw [if_neg hc1, if_neg hc2]
      have e_sX4_splitWay_9 : sX4_splitWay_9 pieceWaysF pieceOfF p0blocks p0endValueF p1 p2F = p0endValueF := by unfold sX4_splitWay_9; rw [if_neg hc1, if_neg hc2]
      have e_sX4_splitWay_10 : sX4_splitWay_10 pieceWaysF pieceOfF p0blocks p0firstF p1 p2F = p0firstF := by unfold sX4_splitWay_10; rw [if_neg hc1, if_neg hc2]
      have e_sX4_splitWay_11 : sX4_splitWay_11 pieceWaysF pieceOfF p0blocks p0secondF p1 p2F = p0secondF := by unfold sX4_splitWay_11; rw [if_neg hc1, if_neg hc2]
      have e_sX4_splitWay_12 : sX4_splitWay_12 pieceWaysF pieceOfF p0blocks p1 p2F = p2F := by unfold sX4_splitWay_12; rw [if_neg hc1, if_neg hc2]
      have e_sX4_splitWay_r : sX4_splitWay_r pieceWaysF pieceOfF p0blocks p1 p2F = 1 := by unfold sX4_splitWay_r; rw [if_neg hc1, if_neg hc2]
      have hP9 : va_P (dC, dI) cls [(h0, .inr (6, [.ref shapeO, .ref leftOpA, .ref rightOpA, .ref valueOfA, .ref waitingA, .int pieces, .ref pieceFromA, .ref pieceToA, .ref pieceFirstA, .ref pieceSecondA, .ref pieceWaysA, .ref pieceBlockA, .ref labelPieceA, .ref foundA, .ref pieceOfA, .ref usesA, .ref assignsA, .ref borderA, .ref phiVariableA, .ref nowA])), (pieceWaysA, .inl (pieceWaysC, 640, .inl pieceWaysF)), (pieceOfA, .inl (pieceOfC, 60, .inl (sX4_splitWay_2 pieceWaysF pieceOfF p0blocks p1 p2F))), (p0O, .inr (4, [.int (sX4_splitWay_3_0 pieceWaysF pieceOfF p0blocks p1 p2F), .int p0limit, .ref p0stepsO, .ref p0firstStepA, .ref p0lastStepA, .ref p0firstPhiA, .ref p0lastPhiA, .ref p0endA, .ref p0endValueA, .ref p0firstA, .ref p0secondA, .ref p0dominatorA, .ref p0depthA, .ref p0waysBeginA, .ref p0waysA, .ref p0dominatorsA, .ref p0loopA, .int p0phiCount, .ref p0phiGivesA, .ref p0phiNextA, .ref p0takesA])), (p0firstStepA, .inl (p0firstStepC, 60, .inl (sX4_splitWay_4 pieceWaysF pieceOfF p0blocks p0firstStepF p1 p2F))), (p0lastStepA, .inl (p0lastStepC, 60, .inl (sX4_splitWay_5 pieceWaysF pieceOfF p0blocks p0lastStepF p1 p2F))), (p0firstPhiA, .inl (p0firstPhiC, 60, .inl (sX4_splitWay_6 pieceWaysF pieceOfF p0blocks p0firstPhiF p1 p2F))), (p0lastPhiA, .inl (p0lastPhiC, 60, .inl (sX4_splitWay_7 pieceWaysF pieceOfF p0blocks p0lastPhiF p1 p2F))), (p0endA, .inl (p0endC, 60, .inl (sX4_splitWay_8 pieceWaysF pieceOfF p0blocks p0endF p1 p2F))), (p0endValueA, .inl (p0endValueC, 60, .inl (sX4_splitWay_9 pieceWaysF pieceOfF p0blocks p0endValueF p1 p2F))), (p0firstA, .inl (p0firstC, 60, .inl (sX4_splitWay_10 pieceWaysF pieceOfF p0blocks p0firstF p1 p2F))), (p0secondA, .inl (p0secondC, 60, .inl (sX4_splitWay_11 pieceWaysF pieceOfF p0blocks p0secondF p1 p2F))), (p2A, .inl (p2C, p2N, .inl (sX4_splitWay_12 pieceWaysF pieceOfF p0blocks p1 p2F)))] s.heap := by rw [e_sX4_splitWay_2, e_sX4_splitWay_3_0, e_sX4_splitWay_4, e_sX4_splitWay_5, e_sX4_splitWay_6, e_sX4_splitWay_7, e_sX4_splitWay_8, e_sX4_splitWay_9, e_sX4_splitWay_10, e_sX4_splitWay_11, e_sX4_splitWay_12]; exact hP.sub [0, 1, 2, 3, 4, 5, 6, 7, 8, 9, 10, 11, 12] rfl
      have hD9 : va_D A [(h0, .inr (6, [.ref shapeO, .ref leftOpA, .ref rightOpA, .ref valueOfA, .ref waitingA, .int pieces, .ref pieceFromA, .ref pieceToA, .ref pieceFirstA, .ref pieceSecondA, .ref pieceWaysA, .ref pieceBlockA, .ref labelPieceA, .ref foundA, .ref pieceOfA, .ref usesA, .ref assignsA, .ref borderA, .ref phiVariableA, .ref nowA])), (pieceWaysA, .inl (pieceWaysC, 640, .inl pieceWaysF)), (pieceOfA, .inl (pieceOfC, 60, .inl (sX4_splitWay_2 pieceWaysF pieceOfF p0blocks p1 p2F))), (p0O, .inr (4, [.int (sX4_splitWay_3_0 pieceWaysF pieceOfF p0blocks p1 p2F), .int p0limit, .ref p0stepsO, .ref p0firstStepA, .ref p0lastStepA, .ref p0firstPhiA, .ref p0lastPhiA, .ref p0endA, .ref p0endValueA, .ref p0firstA, .ref p0secondA, .ref p0dominatorA, .ref p0depthA, .ref p0waysBeginA, .ref p0waysA, .ref p0dominatorsA, .ref p0loopA, .int p0phiCount, .ref p0phiGivesA, .ref p0phiNextA, .ref p0takesA])), (p0firstStepA, .inl (p0firstStepC, 60, .inl (sX4_splitWay_4 pieceWaysF pieceOfF p0blocks p0firstStepF p1 p2F))), (p0lastStepA, .inl (p0lastStepC, 60, .inl (sX4_splitWay_5 pieceWaysF pieceOfF p0blocks p0lastStepF p1 p2F))), (p0firstPhiA, .inl (p0firstPhiC, 60, .inl (sX4_splitWay_6 pieceWaysF pieceOfF p0blocks p0firstPhiF p1 p2F))), (p0lastPhiA, .inl (p0lastPhiC, 60, .inl (sX4_splitWay_7 pieceWaysF pieceOfF p0blocks p0lastPhiF p1 p2F))), (p0endA, .inl (p0endC, 60, .inl (sX4_splitWay_8 pieceWaysF pieceOfF p0blocks p0endF p1 p2F))), (p0endValueA, .inl (p0endValueC, 60, .inl (sX4_splitWay_9 pieceWaysF pieceOfF p0blocks p0endValueF p1 p2F))), (p0firstA, .inl (p0firstC, 60, .inl (sX4_splitWay_10 pieceWaysF pieceOfF p0blocks p0firstF p1 p2F))), (p0secondA, .inl (p0secondC, 60, .inl (sX4_splitWay_11 pieceWaysF pieceOfF p0blocks p0secondF p1 p2F))), (p2A, .inl (p2C, p2N, .inl (sX4_splitWay_12 pieceWaysF pieceOfF p0blocks p1 p2F)))] := by rw [e_sX4_splitWay_2, e_sX4_splitWay_3_0, e_sX4_splitWay_4, e_sX4_splitWay_5, e_sX4_splitWay_6, e_sX4_splitWay_7, e_sX4_splitWay_8, e_sX4_splitWay_9, e_sX4_splitWay_10, e_sX4_splitWay_11, e_sX4_splitWay_12]; exact hD.sub [0, 1, 2, 3, 4, 5, 6, 7, 8, 9, 10, 11, 12] (by decide) rfl
      have hK9 : va_K (dC, dI) cls [(pieceWaysC, .int), (pieceOfC, .int), (p0firstStepC, .int), (p0lastStepC, .int), (p0firstPhiC, .int), (p0lastPhiC, .int), (p0endC, .int), (p0endValueC, .int), (p0firstC, .int), (p0secondC, .int), (p2C, .int)] s := hK.sub [0, 1, 2, 3, 4, 5, 6, 7, 8, 9, 10] rfl
      refine W.widen (k := 0) (n := 0) (Nat.le_of_ble_eq_true rfl) (Nat.le_of_ble_eq_true rfl) ?_
      exact W.zret (v := 1) hx hb hr (by decide) (fun t ht hW => ⟨⟨1, (), rfl, e_sX4_splitWay_r.symm, ⟨by rw [ht]; exact hP9, va_K.moved hW.alike hK9, hD9⟩⟩, hS.F ht⟩) hS.2.2 dX4_splitWay_27
def sX4_takesOne_r (p0 : Int32) : Int32 := (if p0 = 17 then 1 else (if p0 = 31 then 1 else (if p0 = 36 then 1 else (if p0 = 24 then 1 else (if p0 = 33 then 1 else (if p0 = 34 then 1 else 0))))))
set_option maxHeartbeats 4000000 in
set_option maxRecDepth 100000 in
theorem kX4_takesOne {zs : Nat × Nat} (l : Launch) (dC : Nat → ClassId) (dI : Nat → Nat → Nat) (p0 : Int32) (sz : Nat)  : Met l yX4_takesOne (wz yX4_takesOne cX4_takesOne 1 (Option.some Jvm.ClassFile.FieldType.boolean)) ({ frames := 0, cells := 0, slots := 0, locals := 0 }) (va_Pc [.int p0] (PRE zs dC dI [] [] sz)) (va_Qi (fun (r : Int32) (_ : Unit) => r = (sX4_takesOne_r p0)) (fun _ t => POST dC dI [] [] (va_A [] sz) t) (va_A [] sz)) 0 0 (va_A [] sz) := by
  refine Met.ofW (cc := cX4_takesOne) (maxL := 1) (ret := (Option.some Jvm.ClassFile.FieldType.boolean)) (by decide) rfl ?_
  intro p e s m args below meth c s₁ B hml hv
  obtain ⟨rfl, hsz, hP, hK, hD0, hE⟩ := hv
  have hx := B.exec
  have hb := B.bytes
  have hr := B.returns
  have hts0 := atoms_spec (ws := wz yX4_takesOne cX4_takesOne 1 (Option.some Jvm.ClassFile.FieldType.boolean)) B.pre
  have hts : ∀ w ∈ gw, w.before _ s = true := fun w h => hts0 w (List.mem_cons_of_mem _ h)
  have hown : s.vm.findClass RX4 = some m.cls := findClass_of_methodNamed B.named
  have hlocks := B.notSynchronized
  subst hsz
  have hD := hD0.self (sz := s.heap.size)
  generalize hAe : va_A [] s.heap.size = A at hD hE ⊢
  have hA : ∀ q : Nat, s.heap.size ≤ q → A q := fun q h => by rw [← hAe]; exact Or.inr h
  have hS : va_S A s.heap s.heap [] := va_S.rf
  have hP : va_P (dC, dI) cls [] s.heap := hP
  have hl := lv_entry ([.int p0]) (n := 1) (Nat.le_of_ble_eq_true rfl)
  rw [lg_entry_eq]
  generalize (lg_sl ([.int p0]) ++ List.replicate (1 - (lg_sl ([.int p0])).length) Slot.unset).toArray = ls at hl ⊢
  have hl : lv_has ls 1 [(0, .int p0)] := hl
  refine lv_iload_n hx hb dX4_takesOne_0 rfl (lv_at hl 0 rfl) ?_
  refine lv_bipush (v := 17) hx hb dX4_takesOne_1 (by decide) ?_
  by_cases hc1 : p0 = 17
  · refine lv_icmp_eq (tgt := 36) hx hb dX4_takesOne_3 (by decide) (fun _ => ?_) (fun c => absurd hc1 c)
    refine lv_iconst (v := 1) hx hb dX4_takesOne_36 (by decide) ?_
    refine lv_goto (tgt := 41) hx hb dX4_takesOne_37 (by decide) ?_
    have e_sX4_takesOne_r : sX4_takesOne_r p0 = 1 := by unfold sX4_takesOne_r; rw [if_pos hc1]
    have hP9 : va_P (dC, dI) cls [] s.heap := by exact hP.sub [] rfl
    have hD9 : va_D A [] := by exact hD.sub [] (by decide) rfl
    have hK9 : va_K (dC, dI) cls [] s := hK.sub [] rfl
    refine W.widen (k := 0) (n := 0) (Nat.le_of_ble_eq_true rfl) (Nat.le_of_ble_eq_true rfl) ?_
    exact W.zret (v := 1) hx hb hr (by decide) (fun t ht hW => ⟨⟨1, (), rfl, e_sX4_takesOne_r.symm, ⟨by rw [ht]; exact hP9, va_K.moved hW.alike hK9, hD9⟩⟩, hS.F ht⟩) hS.2.2 dX4_takesOne_41
  · refine lv_icmp_eq (tgt := 36) hx hb dX4_takesOne_3 (by decide) (fun c => absurd c hc1) (fun _ => ?_)
    refine lv_iload_n hx hb dX4_takesOne_6 rfl (lv_at hl 0 rfl) ?_
    refine lv_bipush (v := 31) hx hb dX4_takesOne_7 (by decide) ?_
    by_cases hc2 : p0 = 31
    · refine lv_icmp_eq (tgt := 36) hx hb dX4_takesOne_9 (by decide) (fun _ => ?_) (fun c => absurd hc2 c)
      refine lv_iconst (v := 1) hx hb dX4_takesOne_36 (by decide) ?_
      refine lv_goto (tgt := 41) hx hb dX4_takesOne_37 (by decide) ?_
      have e_sX4_takesOne_r : sX4_takesOne_r p0 = 1 := by unfold sX4_takesOne_r; rw [if_neg hc1, if_pos hc2]
      have hP9 : va_P (dC, dI) cls [] s.heap := by exact hP.sub [] rfl
      have hD9 : va_D A [] := by exact hD.sub [] (by decide) rfl
      have hK9 : va_K (dC, dI) cls [] s := hK.sub [] rfl
      refine W.widen (k := 0) (n := 0) (Nat.le_of_ble_eq_true rfl) (Nat.le_of_ble_eq_true rfl) ?_
      exact W.zret (v := 1) hx hb hr (by decide) (fun t ht hW => ⟨⟨1, (), rfl, e_sX4_takesOne_r.symm, ⟨by rw [ht]; exact hP9, va_K.moved hW.alike hK9, hD9⟩⟩, hS.F ht⟩) hS.2.2 dX4_takesOne_41
    · refine lv_icmp_eq (tgt := 36) hx hb dX4_takesOne_9 (by decide) (fun c => absurd c hc2) (fun _ => ?_)
      refine lv_iload_n hx hb dX4_takesOne_12 rfl (lv_at hl 0 rfl) ?_
      refine lv_bipush (v := 36) hx hb dX4_takesOne_13 (by decide) ?_
      by_cases hc3 : p0 = 36
      · refine lv_icmp_eq (tgt := 36) hx hb dX4_takesOne_15 (by decide) (fun _ => ?_) (fun c => absurd hc3 c)
        refine lv_iconst (v := 1) hx hb dX4_takesOne_36 (by decide) ?_
        refine lv_goto (tgt := 41) hx hb dX4_takesOne_37 (by decide) ?_
        have e_sX4_takesOne_r : sX4_takesOne_r p0 = 1 := by unfold sX4_takesOne_r; rw [if_neg hc1, if_neg hc2, if_pos hc3]
        have hP9 : va_P (dC, dI) cls [] s.heap := by exact hP.sub [] rfl
        have hD9 : va_D A [] := by exact hD.sub [] (by decide) rfl
        have hK9 : va_K (dC, dI) cls [] s := hK.sub [] rfl
        refine W.widen (k := 0) (n := 0) (Nat.le_of_ble_eq_true rfl) (Nat.le_of_ble_eq_true rfl) ?_
        exact W.zret (v := 1) hx hb hr (by decide) (fun t ht hW => ⟨⟨1, (), rfl, e_sX4_takesOne_r.symm, ⟨by rw [ht]; exact hP9, va_K.moved hW.alike hK9, hD9⟩⟩, hS.F ht⟩) hS.2.2 dX4_takesOne_41
      · refine lv_icmp_eq (tgt := 36) hx hb dX4_takesOne_15 (by decide) (fun c => absurd c hc3) (fun _ => ?_)
        refine lv_iload_n hx hb dX4_takesOne_18 rfl (lv_at hl 0 rfl) ?_
        refine lv_bipush (v := 24) hx hb dX4_takesOne_19 (by decide) ?_
        by_cases hc4 : p0 = 24
        · refine lv_icmp_eq (tgt := 36) hx hb dX4_takesOne_21 (by decide) (fun _ => ?_) (fun c => absurd hc4 c)
          refine lv_iconst (v := 1) hx hb dX4_takesOne_36 (by decide) ?_
          refine lv_goto (tgt := 41) hx hb dX4_takesOne_37 (by decide) ?_
          have e_sX4_takesOne_r : sX4_takesOne_r p0 = 1 := by unfold sX4_takesOne_r; rw [if_neg hc1, if_neg hc2, if_neg hc3, if_pos hc4]
          have hP9 : va_P (dC, dI) cls [] s.heap := by exact hP.sub [] rfl
          have hD9 : va_D A [] := by exact hD.sub [] (by decide) rfl
          have hK9 : va_K (dC, dI) cls [] s := hK.sub [] rfl
          refine W.widen (k := 0) (n := 0) (Nat.le_of_ble_eq_true rfl) (Nat.le_of_ble_eq_true rfl) ?_
          exact W.zret (v := 1) hx hb hr (by decide) (fun t ht hW => ⟨⟨1, (), rfl, e_sX4_takesOne_r.symm, ⟨by rw [ht]; exact hP9, va_K.moved hW.alike hK9, hD9⟩⟩, hS.F ht⟩) hS.2.2 dX4_takesOne_41
        · refine lv_icmp_eq (tgt := 36) hx hb dX4_takesOne_21 (by decide) (fun c => absurd c hc4) (fun _ => ?_)
          refine lv_iload_n hx hb dX4_takesOne_24 rfl (lv_at hl 0 rfl) ?_
          refine lv_bipush (v := 33) hx hb dX4_takesOne_25 (by decide) ?_
          by_cases hc5 : p0 = 33
          · refine lv_icmp_eq (tgt := 36) hx hb dX4_takesOne_27 (by decide) (fun _ => ?_) (fun c => absurd hc5 c)
            refine lv_iconst (v := 1) hx hb dX4_takesOne_36 (by decide) ?_
            refine lv_goto (tgt := 41) hx hb dX4_takesOne_37 (by decide) ?_
            have e_sX4_takesOne_r : sX4_takesOne_r p0 = 1 := by unfold sX4_takesOne_r; rw [if_neg hc1, if_neg hc2, if_neg hc3, if_neg hc4, if_pos hc5]
            have hP9 : va_P (dC, dI) cls [] s.heap := by exact hP.sub [] rfl
            have hD9 : va_D A [] := by exact hD.sub [] (by decide) rfl
            have hK9 : va_K (dC, dI) cls [] s := hK.sub [] rfl
            refine W.widen (k := 0) (n := 0) (Nat.le_of_ble_eq_true rfl) (Nat.le_of_ble_eq_true rfl) ?_
            exact W.zret (v := 1) hx hb hr (by decide) (fun t ht hW => ⟨⟨1, (), rfl, e_sX4_takesOne_r.symm, ⟨by rw [ht]; exact hP9, va_K.moved hW.alike hK9, hD9⟩⟩, hS.F ht⟩) hS.2.2 dX4_takesOne_41
          · refine lv_icmp_eq (tgt := 36) hx hb dX4_takesOne_27 (by decide) (fun c => absurd c hc5) (fun _ => ?_)
            refine lv_iload_n hx hb dX4_takesOne_30 rfl (lv_at hl 0 rfl) ?_
            refine lv_bipush (v := 34) hx hb dX4_takesOne_31 (by decide) ?_
            by_cases hc6 : p0 = 34
            · refine lv_icmp_ne (tgt := 40) hx hb dX4_takesOne_33 (by decide) (fun c => absurd hc6 c) (fun _ => ?_)
              refine lv_iconst (v := 1) hx hb dX4_takesOne_36 (by decide) ?_
              refine lv_goto (tgt := 41) hx hb dX4_takesOne_37 (by decide) ?_
              have e_sX4_takesOne_r : sX4_takesOne_r p0 = 1 := by unfold sX4_takesOne_r; rw [if_neg hc1, if_neg hc2, if_neg hc3, if_neg hc4, if_neg hc5, if_pos hc6]
              have hP9 : va_P (dC, dI) cls [] s.heap := by exact hP.sub [] rfl
              have hD9 : va_D A [] := by exact hD.sub [] (by decide) rfl
              have hK9 : va_K (dC, dI) cls [] s := hK.sub [] rfl
              refine W.widen (k := 0) (n := 0) (Nat.le_of_ble_eq_true rfl) (Nat.le_of_ble_eq_true rfl) ?_
              exact W.zret (v := 1) hx hb hr (by decide) (fun t ht hW => ⟨⟨1, (), rfl, e_sX4_takesOne_r.symm, ⟨by rw [ht]; exact hP9, va_K.moved hW.alike hK9, hD9⟩⟩, hS.F ht⟩) hS.2.2 dX4_takesOne_41
            · refine lv_icmp_ne (tgt := 40) hx hb dX4_takesOne_33 (by decide) (fun _ => ?_) (fun c => absurd c hc6)
              refine lv_iconst (v := 0) hx hb dX4_takesOne_40 (by decide) ?_
              have e_sX4_takesOne_r : sX4_takesOne_r p0 = 0 := by unfold sX4_takesOne_r; rw [if_neg hc1, if_neg hc2, if_neg hc3, if_neg hc4, if_neg hc5, if_neg hc6]
              have hP9 : va_P (dC, dI) cls [] s.heap := by exact hP.sub [] rfl
              have hD9 : va_D A [] := by exact hD.sub [] (by decide) rfl
              have hK9 : va_K (dC, dI) cls [] s := hK.sub [] rfl
              refine W.widen (k := 0) (n := 0) (Nat.le_of_ble_eq_true rfl) (Nat.le_of_ble_eq_true rfl) ?_
              exact W.zret (v := 0) hx hb hr (by decide) (fun t ht hW => ⟨⟨0, (), rfl, e_sX4_takesOne_r.symm, ⟨by rw [ht]; exact hP9, va_K.moved hW.alike hK9, hD9⟩⟩, hS.F ht⟩) hS.2.2 dX4_takesOne_41
def sX4_valueAt_r (valueOfF : Nat → Int32) (p0 : Int32) : Int32 := (if 0 ≤ p0 then (valueOfF (Int32.toNatClampNeg p0)) else (-1))
set_option maxHeartbeats 4000000 in
set_option maxRecDepth 100000 in
theorem kX4_valueAt {zs : Nat × Nat} (l : Launch) (dC : Nat → ClassId) (dI : Nat → Nat → Nat) (h0 : Nat) (leftOpA : Nat) (rightOpA : Nat) (valueOfA : Nat) (valueOfC : ClassId) (valueOfF : Nat → Int32) (waitingA : Nat) (pieces : Int32) (pieceFromA : Nat) (pieceToA : Nat) (pieceFirstA : Nat) (pieceSecondA : Nat) (pieceWaysA : Nat) (pieceBlockA : Nat) (labelPieceA : Nat) (foundA : Nat) (pieceOfA : Nat) (usesA : Nat) (assignsA : Nat) (borderA : Nat) (phiVariableA : Nat) (nowA : Nat) (shapeO : Nat) (p0 : Int32) (sz : Nat) (hq1 : 0 ≤ p0 → vp_in p0 3200) : Met l yX4_valueAt (wz yX4_valueAt cX4_valueAt 2 (Option.some Jvm.ClassFile.FieldType.int)) ({ frames := 0, cells := 0, slots := 0, locals := 0 }) (va_Pc [.ref h0, .int p0] (PRE zs dC dI [(h0, .inr (6, [.ref shapeO, .ref leftOpA, .ref rightOpA, .ref valueOfA, .ref waitingA, .int pieces, .ref pieceFromA, .ref pieceToA, .ref pieceFirstA, .ref pieceSecondA, .ref pieceWaysA, .ref pieceBlockA, .ref labelPieceA, .ref foundA, .ref pieceOfA, .ref usesA, .ref assignsA, .ref borderA, .ref phiVariableA, .ref nowA])), (valueOfA, .inl (valueOfC, 3200, .inl valueOfF))] [(valueOfC, .int)] sz)) (va_Qi (fun (r : Int32) (_ : Unit) => r = (sX4_valueAt_r valueOfF p0)) (fun _ t => POST dC dI [(h0, .inr (6, [.ref shapeO, .ref leftOpA, .ref rightOpA, .ref valueOfA, .ref waitingA, .int pieces, .ref pieceFromA, .ref pieceToA, .ref pieceFirstA, .ref pieceSecondA, .ref pieceWaysA, .ref pieceBlockA, .ref labelPieceA, .ref foundA, .ref pieceOfA, .ref usesA, .ref assignsA, .ref borderA, .ref phiVariableA, .ref nowA])), (valueOfA, .inl (valueOfC, 3200, .inl valueOfF))] [(valueOfC, .int)] (va_A [(h0, .inr (6, [.ref shapeO, .ref leftOpA, .ref rightOpA, .ref valueOfA, .ref waitingA, .int pieces, .ref pieceFromA, .ref pieceToA, .ref pieceFirstA, .ref pieceSecondA, .ref pieceWaysA, .ref pieceBlockA, .ref labelPieceA, .ref foundA, .ref pieceOfA, .ref usesA, .ref assignsA, .ref borderA, .ref phiVariableA, .ref nowA])), (valueOfA, .inl (valueOfC, 3200, .inl valueOfF))] sz) t) (va_A [(h0, .inr (6, [.ref shapeO, .ref leftOpA, .ref rightOpA, .ref valueOfA, .ref waitingA, .int pieces, .ref pieceFromA, .ref pieceToA, .ref pieceFirstA, .ref pieceSecondA, .ref pieceWaysA, .ref pieceBlockA, .ref labelPieceA, .ref foundA, .ref pieceOfA, .ref usesA, .ref assignsA, .ref borderA, .ref phiVariableA, .ref nowA])), (valueOfA, .inl (valueOfC, 3200, .inl valueOfF))] sz)) 0 0 (va_A [(h0, .inr (6, [.ref shapeO, .ref leftOpA, .ref rightOpA, .ref valueOfA, .ref waitingA, .int pieces, .ref pieceFromA, .ref pieceToA, .ref pieceFirstA, .ref pieceSecondA, .ref pieceWaysA, .ref pieceBlockA, .ref labelPieceA, .ref foundA, .ref pieceOfA, .ref usesA, .ref assignsA, .ref borderA, .ref phiVariableA, .ref nowA])), (valueOfA, .inl (valueOfC, 3200, .inl valueOfF))] sz) := by
  refine Met.ofW (cc := cX4_valueAt) (maxL := 2) (ret := (Option.some Jvm.ClassFile.FieldType.int)) (by decide) rfl ?_
  intro p e s m args below meth c s₁ B hml hv
  obtain ⟨rfl, hsz, hP, hK, hD0, hE⟩ := hv
  have hx := B.exec
  have hb := B.bytes
  have hr := B.returns
  have hts0 := atoms_spec (ws := wz yX4_valueAt cX4_valueAt 2 (Option.some Jvm.ClassFile.FieldType.int)) B.pre
  have hts : ∀ w ∈ gw, w.before _ s = true := fun w h => hts0 w (List.mem_cons_of_mem _ h)
  have hown : s.vm.findClass RX4 = some m.cls := findClass_of_methodNamed B.named
  have hlocks := B.notSynchronized
  subst hsz
  have hD := hD0.self (sz := s.heap.size)
  generalize hAe : va_A [(h0, .inr (6, [.ref shapeO, .ref leftOpA, .ref rightOpA, .ref valueOfA, .ref waitingA, .int pieces, .ref pieceFromA, .ref pieceToA, .ref pieceFirstA, .ref pieceSecondA, .ref pieceWaysA, .ref pieceBlockA, .ref labelPieceA, .ref foundA, .ref pieceOfA, .ref usesA, .ref assignsA, .ref borderA, .ref phiVariableA, .ref nowA])), (valueOfA, .inl (valueOfC, 3200, .inl valueOfF))] s.heap.size = A at hD hE ⊢
  have hA : ∀ q : Nat, s.heap.size ≤ q → A q := fun q h => by rw [← hAe]; exact Or.inr h
  have hS : va_S A s.heap s.heap [] := va_S.rf
  have hP : va_P (dC, dI) cls [(h0, .inr (6, [.ref shapeO, .ref leftOpA, .ref rightOpA, .ref valueOfA, .ref waitingA, .int pieces, .ref pieceFromA, .ref pieceToA, .ref pieceFirstA, .ref pieceSecondA, .ref pieceWaysA, .ref pieceBlockA, .ref labelPieceA, .ref foundA, .ref pieceOfA, .ref usesA, .ref assignsA, .ref borderA, .ref phiVariableA, .ref nowA])), (valueOfA, .inl (valueOfC, 3200, .inl valueOfF))] s.heap := hP
  have hl := lv_entry ([.ref h0, .int p0]) (n := 2) (Nat.le_of_ble_eq_true rfl)
  rw [lg_entry_eq]
  generalize (lg_sl ([.ref h0, .int p0]) ++ List.replicate (2 - (lg_sl ([.ref h0, .int p0])).length) Slot.unset).toArray = ls at hl ⊢
  have hl : lv_has ls 2 [(0, .ref h0), (1, .int p0)] := hl
  refine lv_iload_n hx hb dX4_valueAt_0 rfl (lv_at hl 1 rfl) ?_
  by_cases hc1 : 0 ≤ p0
  · refine lv_if_ge (tgt := 8) hx hb dX4_valueAt_1 (by decide) (fun _ => ?_) (fun c => absurd hc1 c)
    refine lv_aload_n hx hb dX4_valueAt_8 rfl (lv_at hl 0 rfl) ?_
    refine va_get (D := (dC, dI)) (ci := 6) (v := .ref valueOfA) (C := RX4) (T := TX4) (N := 20) hx hb hts i_X4 hown hK hP 0 rfl rfl 3 (by decide) (hts _ qw66) (fun _ h9 => h9) rfl dX4_valueAt_9 ?_
    refine lv_iload_n hx hb dX4_valueAt_12 rfl (lv_at hl 1 rfl) ?_
    refine va_iald hx hb hK hP 1 0 rfl rfl (hq1 hc1) dX4_valueAt_13 ?_
    have e_sX4_valueAt_r : sX4_valueAt_r valueOfF p0 = (valueOfF (Int32.toNatClampNeg p0)) := by unfold sX4_valueAt_r; rw [if_pos hc1]
    have hP9 : va_P (dC, dI) cls [(h0, .inr (6, [.ref shapeO, .ref leftOpA, .ref rightOpA, .ref valueOfA, .ref waitingA, .int pieces, .ref pieceFromA, .ref pieceToA, .ref pieceFirstA, .ref pieceSecondA, .ref pieceWaysA, .ref pieceBlockA, .ref labelPieceA, .ref foundA, .ref pieceOfA, .ref usesA, .ref assignsA, .ref borderA, .ref phiVariableA, .ref nowA])), (valueOfA, .inl (valueOfC, 3200, .inl valueOfF))] s.heap := by exact hP.sub [0, 1] rfl
    have hD9 : va_D A [(h0, .inr (6, [.ref shapeO, .ref leftOpA, .ref rightOpA, .ref valueOfA, .ref waitingA, .int pieces, .ref pieceFromA, .ref pieceToA, .ref pieceFirstA, .ref pieceSecondA, .ref pieceWaysA, .ref pieceBlockA, .ref labelPieceA, .ref foundA, .ref pieceOfA, .ref usesA, .ref assignsA, .ref borderA, .ref phiVariableA, .ref nowA])), (valueOfA, .inl (valueOfC, 3200, .inl valueOfF))] := by exact hD.sub [0, 1] (by decide) rfl
    have hK9 : va_K (dC, dI) cls [(valueOfC, .int)] s := hK.sub [0] rfl
    refine W.widen (k := 0) (n := 0) (Nat.le_of_ble_eq_true rfl) (Nat.le_of_ble_eq_true rfl) ?_
    exact W.iret (v := (valueOfF (Int32.toNatClampNeg p0))) hx hb hr (fun t ht hW => ⟨⟨(valueOfF (Int32.toNatClampNeg p0)), (), rfl, e_sX4_valueAt_r.symm, ⟨by rw [ht]; exact hP9, va_K.moved hW.alike hK9, hD9⟩⟩, hS.F ht⟩) hS.2.2 dX4_valueAt_14
  · refine lv_if_ge (tgt := 8) hx hb dX4_valueAt_1 (by decide) (fun c => absurd c hc1) (fun _ => ?_)
    refine lv_iconst (v := (-1)) hx hb dX4_valueAt_4 (by decide) ?_
    refine lv_goto (tgt := 14) hx hb dX4_valueAt_5 (by decide) ?_
    have e_sX4_valueAt_r : sX4_valueAt_r valueOfF p0 = (-1) := by unfold sX4_valueAt_r; rw [if_neg hc1]
    have hP9 : va_P (dC, dI) cls [(h0, .inr (6, [.ref shapeO, .ref leftOpA, .ref rightOpA, .ref valueOfA, .ref waitingA, .int pieces, .ref pieceFromA, .ref pieceToA, .ref pieceFirstA, .ref pieceSecondA, .ref pieceWaysA, .ref pieceBlockA, .ref labelPieceA, .ref foundA, .ref pieceOfA, .ref usesA, .ref assignsA, .ref borderA, .ref phiVariableA, .ref nowA])), (valueOfA, .inl (valueOfC, 3200, .inl valueOfF))] s.heap := by exact hP.sub [0, 1] rfl
    have hD9 : va_D A [(h0, .inr (6, [.ref shapeO, .ref leftOpA, .ref rightOpA, .ref valueOfA, .ref waitingA, .int pieces, .ref pieceFromA, .ref pieceToA, .ref pieceFirstA, .ref pieceSecondA, .ref pieceWaysA, .ref pieceBlockA, .ref labelPieceA, .ref foundA, .ref pieceOfA, .ref usesA, .ref assignsA, .ref borderA, .ref phiVariableA, .ref nowA])), (valueOfA, .inl (valueOfC, 3200, .inl valueOfF))] := by exact hD.sub [0, 1] (by decide) rfl
    have hK9 : va_K (dC, dI) cls [(valueOfC, .int)] s := hK.sub [0] rfl
    refine W.widen (k := 0) (n := 0) (Nat.le_of_ble_eq_true rfl) (Nat.le_of_ble_eq_true rfl) ?_
    exact W.iret (v := (-1)) hx hb hr (fun t ht hW => ⟨⟨(-1), (), rfl, e_sX4_valueAt_r.symm, ⟨by rw [ht]; exact hP9, va_K.moved hW.alike hK9, hD9⟩⟩, hS.F ht⟩) hS.2.2 dX4_valueAt_14
def sX4_waitingAt_r (waitingF : Nat → Int32) (p0 : Int32) : Int32 := (if p0 < 0 then (-1) else (if p0 < 512 then (waitingF (Int32.toNatClampNeg p0)) else (-1)))
set_option maxHeartbeats 4000000 in
set_option maxRecDepth 100000 in
theorem kX4_waitingAt {zs : Nat × Nat} (l : Launch) (dC : Nat → ClassId) (dI : Nat → Nat → Nat) (h0 : Nat) (leftOpA : Nat) (rightOpA : Nat) (valueOfA : Nat) (waitingA : Nat) (waitingC : ClassId) (waitingF : Nat → Int32) (pieces : Int32) (pieceFromA : Nat) (pieceToA : Nat) (pieceFirstA : Nat) (pieceSecondA : Nat) (pieceWaysA : Nat) (pieceBlockA : Nat) (labelPieceA : Nat) (foundA : Nat) (pieceOfA : Nat) (usesA : Nat) (assignsA : Nat) (borderA : Nat) (phiVariableA : Nat) (nowA : Nat) (shapeO : Nat) (p0 : Int32) (sz : Nat)  : Met l yX4_waitingAt (wz yX4_waitingAt cX4_waitingAt 2 (Option.some Jvm.ClassFile.FieldType.int)) ({ frames := 0, cells := 0, slots := 0, locals := 0 }) (va_Pc [.ref h0, .int p0] (PRE zs dC dI [(h0, .inr (6, [.ref shapeO, .ref leftOpA, .ref rightOpA, .ref valueOfA, .ref waitingA, .int pieces, .ref pieceFromA, .ref pieceToA, .ref pieceFirstA, .ref pieceSecondA, .ref pieceWaysA, .ref pieceBlockA, .ref labelPieceA, .ref foundA, .ref pieceOfA, .ref usesA, .ref assignsA, .ref borderA, .ref phiVariableA, .ref nowA])), (waitingA, .inl (waitingC, 512, .inl waitingF))] [(waitingC, .int)] sz)) (va_Qi (fun (r : Int32) (_ : Unit) => r = (sX4_waitingAt_r waitingF p0)) (fun _ t => POST dC dI [(h0, .inr (6, [.ref shapeO, .ref leftOpA, .ref rightOpA, .ref valueOfA, .ref waitingA, .int pieces, .ref pieceFromA, .ref pieceToA, .ref pieceFirstA, .ref pieceSecondA, .ref pieceWaysA, .ref pieceBlockA, .ref labelPieceA, .ref foundA, .ref pieceOfA, .ref usesA, .ref assignsA, .ref borderA, .ref phiVariableA, .ref nowA])), (waitingA, .inl (waitingC, 512, .inl waitingF))] [(waitingC, .int)] (va_A [(h0, .inr (6, [.ref shapeO, .ref leftOpA, .ref rightOpA, .ref valueOfA, .ref waitingA, .int pieces, .ref pieceFromA, .ref pieceToA, .ref pieceFirstA, .ref pieceSecondA, .ref pieceWaysA, .ref pieceBlockA, .ref labelPieceA, .ref foundA, .ref pieceOfA, .ref usesA, .ref assignsA, .ref borderA, .ref phiVariableA, .ref nowA])), (waitingA, .inl (waitingC, 512, .inl waitingF))] sz) t) (va_A [(h0, .inr (6, [.ref shapeO, .ref leftOpA, .ref rightOpA, .ref valueOfA, .ref waitingA, .int pieces, .ref pieceFromA, .ref pieceToA, .ref pieceFirstA, .ref pieceSecondA, .ref pieceWaysA, .ref pieceBlockA, .ref labelPieceA, .ref foundA, .ref pieceOfA, .ref usesA, .ref assignsA, .ref borderA, .ref phiVariableA, .ref nowA])), (waitingA, .inl (waitingC, 512, .inl waitingF))] sz)) 0 0 (va_A [(h0, .inr (6, [.ref shapeO, .ref leftOpA, .ref rightOpA, .ref valueOfA, .ref waitingA, .int pieces, .ref pieceFromA, .ref pieceToA, .ref pieceFirstA, .ref pieceSecondA, .ref pieceWaysA, .ref pieceBlockA, .ref labelPieceA, .ref foundA, .ref pieceOfA, .ref usesA, .ref assignsA, .ref borderA, .ref phiVariableA, .ref nowA])), (waitingA, .inl (waitingC, 512, .inl waitingF))] sz) := by
  refine Met.ofW (cc := cX4_waitingAt) (maxL := 2) (ret := (Option.some Jvm.ClassFile.FieldType.int)) (by decide) rfl ?_
  intro p e s m args below meth c s₁ B hml hv
  obtain ⟨rfl, hsz, hP, hK, hD0, hE⟩ := hv
  have hx := B.exec
  have hb := B.bytes
  have hr := B.returns
  have hts0 := atoms_spec (ws := wz yX4_waitingAt cX4_waitingAt 2 (Option.some Jvm.ClassFile.FieldType.int)) B.pre
  have hts : ∀ w ∈ gw, w.before _ s = true := fun w h => hts0 w (List.mem_cons_of_mem _ h)
  have hown : s.vm.findClass RX4 = some m.cls := findClass_of_methodNamed B.named
  have hlocks := B.notSynchronized
  subst hsz
  have hD := hD0.self (sz := s.heap.size)
  generalize hAe : va_A [(h0, .inr (6, [.ref shapeO, .ref leftOpA, .ref rightOpA, .ref valueOfA, .ref waitingA, .int pieces, .ref pieceFromA, .ref pieceToA, .ref pieceFirstA, .ref pieceSecondA, .ref pieceWaysA, .ref pieceBlockA, .ref labelPieceA, .ref foundA, .ref pieceOfA, .ref usesA, .ref assignsA, .ref borderA, .ref phiVariableA, .ref nowA])), (waitingA, .inl (waitingC, 512, .inl waitingF))] s.heap.size = A at hD hE ⊢
  have hA : ∀ q : Nat, s.heap.size ≤ q → A q := fun q h => by rw [← hAe]; exact Or.inr h
  have hS : va_S A s.heap s.heap [] := va_S.rf
  have hP : va_P (dC, dI) cls [(h0, .inr (6, [.ref shapeO, .ref leftOpA, .ref rightOpA, .ref valueOfA, .ref waitingA, .int pieces, .ref pieceFromA, .ref pieceToA, .ref pieceFirstA, .ref pieceSecondA, .ref pieceWaysA, .ref pieceBlockA, .ref labelPieceA, .ref foundA, .ref pieceOfA, .ref usesA, .ref assignsA, .ref borderA, .ref phiVariableA, .ref nowA])), (waitingA, .inl (waitingC, 512, .inl waitingF))] s.heap := hP
  have hl := lv_entry ([.ref h0, .int p0]) (n := 2) (Nat.le_of_ble_eq_true rfl)
  rw [lg_entry_eq]
  generalize (lg_sl ([.ref h0, .int p0]) ++ List.replicate (2 - (lg_sl ([.ref h0, .int p0])).length) Slot.unset).toArray = ls at hl ⊢
  have hl : lv_has ls 2 [(0, .ref h0), (1, .int p0)] := hl
  refine lv_iload_n hx hb dX4_waitingAt_0 rfl (lv_at hl 1 rfl) ?_
  by_cases hc1 : p0 < 0
  · refine lv_if_lt (tgt := 11) hx hb dX4_waitingAt_1 (by decide) (fun _ => ?_) (fun c => absurd hc1 c)
    refine lv_iconst (v := (-1)) hx hb dX4_waitingAt_11 (by decide) ?_
    refine lv_goto (tgt := 21) hx hb dX4_waitingAt_12 (by decide) ?_
    have e_sX4_waitingAt_r : sX4_waitingAt_r waitingF p0 = (-1) := by unfold sX4_waitingAt_r; rw [if_pos hc1]
    have hP9 : va_P (dC, dI) cls [(h0, .inr (6, [.ref shapeO, .ref leftOpA, .ref rightOpA, .ref valueOfA, .ref waitingA, .int pieces, .ref pieceFromA, .ref pieceToA, .ref pieceFirstA, .ref pieceSecondA, .ref pieceWaysA, .ref pieceBlockA, .ref labelPieceA, .ref foundA, .ref pieceOfA, .ref usesA, .ref assignsA, .ref borderA, .ref phiVariableA, .ref nowA])), (waitingA, .inl (waitingC, 512, .inl waitingF))] s.heap := by exact hP.sub [0, 1] rfl
    have hD9 : va_D A [(h0, .inr (6, [.ref shapeO, .ref leftOpA, .ref rightOpA, .ref valueOfA, .ref waitingA, .int pieces, .ref pieceFromA, .ref pieceToA, .ref pieceFirstA, .ref pieceSecondA, .ref pieceWaysA, .ref pieceBlockA, .ref labelPieceA, .ref foundA, .ref pieceOfA, .ref usesA, .ref assignsA, .ref borderA, .ref phiVariableA, .ref nowA])), (waitingA, .inl (waitingC, 512, .inl waitingF))] := by exact hD.sub [0, 1] (by decide) rfl
    have hK9 : va_K (dC, dI) cls [(waitingC, .int)] s := hK.sub [0] rfl
    refine W.widen (k := 0) (n := 0) (Nat.le_of_ble_eq_true rfl) (Nat.le_of_ble_eq_true rfl) ?_
    exact W.iret (v := (-1)) hx hb hr (fun t ht hW => ⟨⟨(-1), (), rfl, e_sX4_waitingAt_r.symm, ⟨by rw [ht]; exact hP9, va_K.moved hW.alike hK9, hD9⟩⟩, hS.F ht⟩) hS.2.2 dX4_waitingAt_21
  · refine lv_if_lt (tgt := 11) hx hb dX4_waitingAt_1 (by decide) (fun c => absurd c hc1) (fun _ => ?_)
    refine lv_iload_n hx hb dX4_waitingAt_4 rfl (lv_at hl 1 rfl) ?_
    refine lv_sipush (v := 512) hx hb dX4_waitingAt_5 (by decide) ?_
    by_cases hc2 : p0 < 512
    · refine lv_icmp_lt (tgt := 15) hx hb dX4_waitingAt_8 (by decide) (fun _ => ?_) (fun c => absurd hc2 c)
      refine lv_aload_n hx hb dX4_waitingAt_15 rfl (lv_at hl 0 rfl) ?_
      refine va_get (D := (dC, dI)) (ci := 6) (v := .ref waitingA) (C := RX4) (T := TX4) (N := 20) hx hb hts i_X4 hown hK hP 0 rfl rfl 4 (by decide) (hts _ qw67) (fun _ h9 => h9) rfl dX4_waitingAt_16 ?_
      refine lv_iload_n hx hb dX4_waitingAt_19 rfl (lv_at hl 1 rfl) ?_
      refine va_iald hx hb hK hP 1 0 rfl rfl (inN (k := 512) (by decide) hc1 (fun c => absurd c (Int32.not_le.mpr hc2))) dX4_waitingAt_20 ?_
      have e_sX4_waitingAt_r : sX4_waitingAt_r waitingF p0 = (waitingF (Int32.toNatClampNeg p0)) := by unfold sX4_waitingAt_r; rw [if_neg hc1, if_pos hc2]
      have hP9 : va_P (dC, dI) cls [(h0, .inr (6, [.ref shapeO, .ref leftOpA, .ref rightOpA, .ref valueOfA, .ref waitingA, .int pieces, .ref pieceFromA, .ref pieceToA, .ref pieceFirstA, .ref pieceSecondA, .ref pieceWaysA, .ref pieceBlockA, .ref labelPieceA, .ref foundA, .ref pieceOfA, .ref usesA, .ref assignsA, .ref borderA, .ref phiVariableA, .ref nowA])), (waitingA, .inl (waitingC, 512, .inl waitingF))] s.heap := by exact hP.sub [0, 1] rfl
      have hD9 : va_D A [(h0, .inr (6, [.ref shapeO, .ref leftOpA, .ref rightOpA, .ref valueOfA, .ref waitingA, .int pieces, .ref pieceFromA, .ref pieceToA, .ref pieceFirstA, .ref pieceSecondA, .ref pieceWaysA, .ref pieceBlockA, .ref labelPieceA, .ref foundA, .ref pieceOfA, .ref usesA, .ref assignsA, .ref borderA, .ref phiVariableA, .ref nowA])), (waitingA, .inl (waitingC, 512, .inl waitingF))] := by exact hD.sub [0, 1] (by decide) rfl
      have hK9 : va_K (dC, dI) cls [(waitingC, .int)] s := hK.sub [0] rfl
      refine W.widen (k := 0) (n := 0) (Nat.le_of_ble_eq_true rfl) (Nat.le_of_ble_eq_true rfl) ?_
      exact W.iret (v := (waitingF (Int32.toNatClampNeg p0))) hx hb hr (fun t ht hW => ⟨⟨(waitingF (Int32.toNatClampNeg p0)), (), rfl, e_sX4_waitingAt_r.symm, ⟨by rw [ht]; exact hP9, va_K.moved hW.alike hK9, hD9⟩⟩, hS.F ht⟩) hS.2.2 dX4_waitingAt_21
    · refine lv_icmp_lt (tgt := 15) hx hb dX4_waitingAt_8 (by decide) (fun c => absurd c hc2) (fun _ => ?_)
      refine lv_iconst (v := (-1)) hx hb dX4_waitingAt_11 (by decide) ?_
      refine lv_goto (tgt := 21) hx hb dX4_waitingAt_12 (by decide) ?_
      have e_sX4_waitingAt_r : sX4_waitingAt_r waitingF p0 = (-1) := by unfold sX4_waitingAt_r; rw [if_neg hc1, if_neg hc2]
      have hP9 : va_P (dC, dI) cls [(h0, .inr (6, [.ref shapeO, .ref leftOpA, .ref rightOpA, .ref valueOfA, .ref waitingA, .int pieces, .ref pieceFromA, .ref pieceToA, .ref pieceFirstA, .ref pieceSecondA, .ref pieceWaysA, .ref pieceBlockA, .ref labelPieceA, .ref foundA, .ref pieceOfA, .ref usesA, .ref assignsA, .ref borderA, .ref phiVariableA, .ref nowA])), (waitingA, .inl (waitingC, 512, .inl waitingF))] s.heap := by exact hP.sub [0, 1] rfl
      have hD9 : va_D A [(h0, .inr (6, [.ref shapeO, .ref leftOpA, .ref rightOpA, .ref valueOfA, .ref waitingA, .int pieces, .ref pieceFromA, .ref pieceToA, .ref pieceFirstA, .ref pieceSecondA, .ref pieceWaysA, .ref pieceBlockA, .ref labelPieceA, .ref foundA, .ref pieceOfA, .ref usesA, .ref assignsA, .ref borderA, .ref phiVariableA, .ref nowA])), (waitingA, .inl (waitingC, 512, .inl waitingF))] := by exact hD.sub [0, 1] (by decide) rfl
      have hK9 : va_K (dC, dI) cls [(waitingC, .int)] s := hK.sub [0] rfl
      refine W.widen (k := 0) (n := 0) (Nat.le_of_ble_eq_true rfl) (Nat.le_of_ble_eq_true rfl) ?_
      exact W.iret (v := (-1)) hx hb hr (fun t ht hW => ⟨⟨(-1), (), rfl, e_sX4_waitingAt_r.symm, ⟨by rw [ht]; exact hP9, va_K.moved hW.alike hK9, hD9⟩⟩, hS.F ht⟩) hS.2.2 dX4_waitingAt_21
