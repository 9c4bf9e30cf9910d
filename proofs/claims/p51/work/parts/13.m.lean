abbrev cX5_becomeNumber : ByteArray := prog_7_method_15_code
def yX5_becomeNumber : MethodName := ⟨RX5, "becomeNumber", "(LGearbox$Steps;II)V"⟩
abbrev cX5_blockAhead : ByteArray := prog_7_method_35_code
def yX5_blockAhead : MethodName := ⟨RX5, "blockAhead", "(LGearbox$Flow;I)I"⟩
abbrev cX5_dropUnwanted : ByteArray := prog_7_method_29_code
def yX5_dropUnwanted : MethodName := ⟨RX5, "dropUnwanted", "(LGearbox$Flow;)I"⟩
abbrev cX5_findGivers : ByteArray := prog_7_method_2_code
def yX5_findGivers : MethodName := ⟨RX5, "findGivers", "(LGearbox$Flow;)V"⟩
abbrev cX5_wantInBlock : ByteArray := prog_7_method_30_code
def yX5_wantInBlock : MethodName := ⟨RX5, "wantInBlock", "(LGearbox$Flow;I)Z"⟩
abbrev cX5_wantUsed : ByteArray := prog_7_method_31_code
def yX5_wantUsed : MethodName := ⟨RX5, "wantUsed", "(LGearbox$Steps;I)Z"⟩
abbrev cX11_usesLeft : ByteArray := prog_1_method_67_code
def yX11_usesLeft : MethodName := ⟨RX11, "usesLeft", "(I)Z"⟩
abbrev cX5_want : ByteArray := prog_7_method_32_code
def yX5_want : MethodName := ⟨RX5, "want", "(I)Z"⟩
abbrev cX5_mayFail : ByteArray := prog_7_method_6_code
def yX5_mayFail : MethodName := ⟨RX5, "mayFail", "(LGearbox$Flow;I)Z"⟩
abbrev cX5_isNumber : ByteArray := prog_7_method_3_code
def yX5_isNumber : MethodName := ⟨RX5, "isNumber", "(LGearbox$Flow;I)Z"⟩
abbrev cX5_numberOf : ByteArray := prog_7_method_4_code
def yX5_numberOf : MethodName := ⟨RX5, "numberOf", "(LGearbox$Flow;I)I"⟩
abbrev cX5_keepUndroppable : ByteArray := prog_7_method_33_code
def yX5_keepUndroppable : MethodName := ⟨RX5, "keepUndroppable", "(LGearbox$Flow;)V"⟩
theorem dX11_usesLeft_0 : decode cX11_usesLeft 0 = .ok (.iload_n 0, 1) := by decide +kernel
theorem dX11_usesLeft_1 : decode cX11_usesLeft 1 = .ok (.iconst 1, 1) := by decide +kernel
theorem dX11_usesLeft_2 : decode cX11_usesLeft 2 = .ok (.if_icmp .lt 9, 3) := by decide +kernel
theorem dX11_usesLeft_5 : decode cX11_usesLeft 5 = .ok (.iload_n 0, 1) := by decide +kernel
theorem dX11_usesLeft_6 : decode cX11_usesLeft 6 = .ok (.bipush 19, 2) := by decide +kernel
theorem dX11_usesLeft_8 : decode cX11_usesLeft 8 = .ok (.if_icmp .le 15, 3) := by decide +kernel
theorem dX11_usesLeft_11 : decode cX11_usesLeft 11 = .ok (.iload_n 0, 1) := by decide +kernel
theorem dX11_usesLeft_12 : decode cX11_usesLeft 12 = .ok (.bipush 25, 2) := by decide +kernel
theorem dX11_usesLeft_14 : decode cX11_usesLeft 14 = .ok (.if_icmp .eq 9, 3) := by decide +kernel
theorem dX11_usesLeft_17 : decode cX11_usesLeft 17 = .ok (.iload_n 0, 1) := by decide +kernel
theorem dX11_usesLeft_18 : decode cX11_usesLeft 18 = .ok (.bipush 27, 2) := by decide +kernel
theorem dX11_usesLeft_20 : decode cX11_usesLeft 20 = .ok (.if_icmp .ne 7, 3) := by decide +kernel
theorem dX11_usesLeft_23 : decode cX11_usesLeft 23 = .ok (.iconst 1, 1) := by decide +kernel
theorem dX11_usesLeft_24 : decode cX11_usesLeft 24 = .ok (.goto 4, 3) := by decide +kernel
theorem dX11_usesLeft_27 : decode cX11_usesLeft 27 = .ok (.iconst 0, 1) := by decide +kernel
theorem dX11_usesLeft_28 : decode cX11_usesLeft 28 = .ok (.ireturn, 1) := by decide +kernel
theorem dX5_becomeNumber_0 : decode cX5_becomeNumber 0 = .ok (.aload_n 0, 1) := by decide +kernel
theorem dX5_becomeNumber_1 : decode cX5_becomeNumber 1 = .ok (.getfield 79, 3) := by decide +kernel
theorem dX5_becomeNumber_4 : decode cX5_becomeNumber 4 = .ok (.iload_n 1, 1) := by decide +kernel
theorem dX5_becomeNumber_5 : decode cX5_becomeNumber 5 = .ok (.iconst 0, 1) := by decide +kernel
theorem dX5_becomeNumber_6 : decode cX5_becomeNumber 6 = .ok (.iastore, 1) := by decide +kernel
theorem dX5_becomeNumber_7 : decode cX5_becomeNumber 7 = .ok (.aload_n 0, 1) := by decide +kernel
theorem dX5_becomeNumber_8 : decode cX5_becomeNumber 8 = .ok (.getfield 82, 3) := by decide +kernel
theorem dX5_becomeNumber_11 : decode cX5_becomeNumber 11 = .ok (.iload_n 1, 1) := by decide +kernel
theorem dX5_becomeNumber_12 : decode cX5_becomeNumber 12 = .ok (.iload_n 2, 1) := by decide +kernel
theorem dX5_becomeNumber_13 : decode cX5_becomeNumber 13 = .ok (.iastore, 1) := by decide +kernel
theorem dX5_becomeNumber_14 : decode cX5_becomeNumber 14 = .ok (.aload_n 0, 1) := by decide +kernel
theorem dX5_becomeNumber_15 : decode cX5_becomeNumber 15 = .ok (.getfield 93, 3) := by decide +kernel
theorem dX5_becomeNumber_18 : decode cX5_becomeNumber 18 = .ok (.iload_n 1, 1) := by decide +kernel
theorem dX5_becomeNumber_19 : decode cX5_becomeNumber 19 = .ok (.iconst (-1), 1) := by decide +kernel
theorem dX5_becomeNumber_20 : decode cX5_becomeNumber 20 = .ok (.iastore, 1) := by decide +kernel
theorem dX5_becomeNumber_21 : decode cX5_becomeNumber 21 = .ok (.return_, 1) := by decide +kernel
theorem dX5_blockAhead_0 : decode cX5_blockAhead 0 = .ok (.iconst (-1), 1) := by decide +kernel
theorem dX5_blockAhead_1 : decode cX5_blockAhead 1 = .ok (.istore_n 2, 1) := by decide +kernel
theorem dX5_blockAhead_2 : decode cX5_blockAhead 2 = .ok (.iconst 0, 1) := by decide +kernel
theorem dX5_blockAhead_3 : decode cX5_blockAhead 3 = .ok (.istore_n 3, 1) := by decide +kernel
theorem dX5_blockAhead_4 : decode cX5_blockAhead 4 = .ok (.iload_n 3, 1) := by decide +kernel
theorem dX5_blockAhead_5 : decode cX5_blockAhead 5 = .ok (.aload_n 0, 1) := by decide +kernel
theorem dX5_blockAhead_6 : decode cX5_blockAhead 6 = .ok (.iload_n 1, 1) := by decide +kernel
theorem dX5_blockAhead_7 : decode cX5_blockAhead 7 = .ok (.invokevirtual 134, 3) := by decide +kernel
theorem dX5_blockAhead_10 : decode cX5_blockAhead 10 = .ok (.if_icmp .ge 40, 3) := by decide +kernel
theorem dX5_blockAhead_13 : decode cX5_blockAhead 13 = .ok (.aload_n 0, 1) := by decide +kernel
theorem dX5_blockAhead_14 : decode cX5_blockAhead 14 = .ok (.iload_n 1, 1) := by decide +kernel
theorem dX5_blockAhead_15 : decode cX5_blockAhead 15 = .ok (.iload_n 3, 1) := by decide +kernel
theorem dX5_blockAhead_16 : decode cX5_blockAhead 16 = .ok (.invokevirtual 138, 3) := by decide +kernel
theorem dX5_blockAhead_19 : decode cX5_blockAhead 19 = .ok (.istore 4, 2) := by decide +kernel
theorem dX5_blockAhead_21 : decode cX5_blockAhead 21 = .ok (.aload_n 0, 1) := by decide +kernel
theorem dX5_blockAhead_22 : decode cX5_blockAhead 22 = .ok (.getfield 282, 3) := by decide +kernel
theorem dX5_blockAhead_25 : decode cX5_blockAhead 25 = .ok (.iload_n 1, 1) := by decide +kernel
theorem dX5_blockAhead_26 : decode cX5_blockAhead 26 = .ok (.laload, 1) := by decide +kernel
theorem dX5_blockAhead_27 : decode cX5_blockAhead 27 = .ok (.iload 4, 2) := by decide +kernel
theorem dX5_blockAhead_29 : decode cX5_blockAhead 29 = .ok (.invokestatic 101, 3) := by decide +kernel
theorem dX5_blockAhead_32 : decode cX5_blockAhead 32 = .ok (.ifCond .ne 12, 3) := by decide +kernel
theorem dX5_blockAhead_35 : decode cX5_blockAhead 35 = .ok (.iload_n 2, 1) := by decide +kernel
theorem dX5_blockAhead_36 : decode cX5_blockAhead 36 = .ok (.ifCond .lt 5, 3) := by decide +kernel
theorem dX5_blockAhead_39 : decode cX5_blockAhead 39 = .ok (.iconst (-1), 1) := by decide +kernel
theorem dX5_blockAhead_40 : decode cX5_blockAhead 40 = .ok (.ireturn, 1) := by decide +kernel
theorem dX5_blockAhead_41 : decode cX5_blockAhead 41 = .ok (.iload 4, 2) := by decide +kernel
theorem dX5_blockAhead_43 : decode cX5_blockAhead 43 = .ok (.istore_n 2, 1) := by decide +kernel
theorem dX5_blockAhead_44 : decode cX5_blockAhead 44 = .ok (.iinc 3 1, 3) := by decide +kernel
theorem dX5_blockAhead_47 : decode cX5_blockAhead 47 = .ok (.goto (-43), 3) := by decide +kernel
theorem dX5_blockAhead_50 : decode cX5_blockAhead 50 = .ok (.iload_n 2, 1) := by decide +kernel
theorem dX5_blockAhead_51 : decode cX5_blockAhead 51 = .ok (.ifCond .lt 18, 3) := by decide +kernel
theorem dX5_blockAhead_54 : decode cX5_blockAhead 54 = .ok (.aload_n 0, 1) := by decide +kernel
theorem dX5_blockAhead_55 : decode cX5_blockAhead 55 = .ok (.getfield 161, 3) := by decide +kernel
theorem dX5_blockAhead_58 : decode cX5_blockAhead 58 = .ok (.iload_n 2, 1) := by decide +kernel
theorem dX5_blockAhead_59 : decode cX5_blockAhead 59 = .ok (.iaload, 1) := by decide +kernel
theorem dX5_blockAhead_60 : decode cX5_blockAhead 60 = .ok (.bipush 22, 2) := by decide +kernel
theorem dX5_blockAhead_62 : decode cX5_blockAhead 62 = .ok (.if_icmp .ne 7, 3) := by decide +kernel
theorem dX5_blockAhead_65 : decode cX5_blockAhead 65 = .ok (.iload_n 2, 1) := by decide +kernel
theorem dX5_blockAhead_66 : decode cX5_blockAhead 66 = .ok (.goto 4, 3) := by decide +kernel
theorem dX5_blockAhead_69 : decode cX5_blockAhead 69 = .ok (.iconst (-1), 1) := by decide +kernel
theorem dX5_blockAhead_70 : decode cX5_blockAhead 70 = .ok (.ireturn, 1) := by decide +kernel
theorem dX5_dropUnwanted_0 : decode cX5_dropUnwanted 0 = .ok (.aload_n 0, 1) := by decide +kernel
theorem dX5_dropUnwanted_1 : decode cX5_dropUnwanted 1 = .ok (.aload_n 1, 1) := by decide +kernel
theorem dX5_dropUnwanted_2 : decode cX5_dropUnwanted 2 = .ok (.invokevirtual 191, 3) := by decide +kernel
theorem dX5_dropUnwanted_5 : decode cX5_dropUnwanted 5 = .ok (.aload_n 0, 1) := by decide +kernel
theorem dX5_dropUnwanted_6 : decode cX5_dropUnwanted 6 = .ok (.getfield 27, 3) := by decide +kernel
theorem dX5_dropUnwanted_9 : decode cX5_dropUnwanted 9 = .ok (.iconst 1, 1) := by decide +kernel
theorem dX5_dropUnwanted_10 : decode cX5_dropUnwanted 10 = .ok (.invokestatic 43, 3) := by decide +kernel
theorem dX5_dropUnwanted_13 : decode cX5_dropUnwanted 13 = .ok (.iconst 1, 1) := by decide +kernel
theorem dX5_dropUnwanted_14 : decode cX5_dropUnwanted 14 = .ok (.istore_n 2, 1) := by decide +kernel
theorem dX5_dropUnwanted_15 : decode cX5_dropUnwanted 15 = .ok (.iconst 0, 1) := by decide +kernel
theorem dX5_dropUnwanted_16 : decode cX5_dropUnwanted 16 = .ok (.istore_n 3, 1) := by decide +kernel
theorem dX5_dropUnwanted_17 : decode cX5_dropUnwanted 17 = .ok (.iload_n 2, 1) := by decide +kernel
theorem dX5_dropUnwanted_18 : decode cX5_dropUnwanted 18 = .ok (.ifCond .eq 48, 3) := by decide +kernel
theorem dX5_dropUnwanted_21 : decode cX5_dropUnwanted 21 = .ok (.iload_n 3, 1) := by decide +kernel
theorem dX5_dropUnwanted_22 : decode cX5_dropUnwanted 22 = .ok (.ldc 100, 2) := by decide +kernel
theorem dX5_dropUnwanted_24 : decode cX5_dropUnwanted 24 = .ok (.if_icmp .ge 42, 3) := by decide +kernel
theorem dX5_dropUnwanted_27 : decode cX5_dropUnwanted 27 = .ok (.iconst 0, 1) := by decide +kernel
theorem dX5_dropUnwanted_28 : decode cX5_dropUnwanted 28 = .ok (.istore_n 2, 1) := by decide +kernel
theorem dX5_dropUnwanted_29 : decode cX5_dropUnwanted 29 = .ok (.aload_n 1, 1) := by decide +kernel
theorem dX5_dropUnwanted_30 : decode cX5_dropUnwanted 30 = .ok (.getfield 49, 3) := by decide +kernel
theorem dX5_dropUnwanted_33 : decode cX5_dropUnwanted 33 = .ok (.iconst 1, 1) := by decide +kernel
theorem dX5_dropUnwanted_34 : decode cX5_dropUnwanted 34 = .ok (.isub, 1) := by decide +kernel
theorem dX5_dropUnwanted_35 : decode cX5_dropUnwanted 35 = .ok (.istore 4, 2) := by decide +kernel
theorem dX5_dropUnwanted_37 : decode cX5_dropUnwanted 37 = .ok (.iload 4, 2) := by decide +kernel
theorem dX5_dropUnwanted_39 : decode cX5_dropUnwanted 39 = .ok (.ifCond .lt 21, 3) := by decide +kernel
theorem dX5_dropUnwanted_42 : decode cX5_dropUnwanted 42 = .ok (.aload_n 0, 1) := by decide +kernel
theorem dX5_dropUnwanted_43 : decode cX5_dropUnwanted 43 = .ok (.aload_n 1, 1) := by decide +kernel
theorem dX5_dropUnwanted_44 : decode cX5_dropUnwanted 44 = .ok (.iload 4, 2) := by decide +kernel
theorem dX5_dropUnwanted_46 : decode cX5_dropUnwanted 46 = .ok (.invokevirtual 263, 3) := by decide +kernel
theorem dX5_dropUnwanted_49 : decode cX5_dropUnwanted 49 = .ok (.ifCond .eq 5, 3) := by decide +kernel
theorem dX5_dropUnwanted_52 : decode cX5_dropUnwanted 52 = .ok (.iconst 1, 1) := by decide +kernel
theorem dX5_dropUnwanted_53 : decode cX5_dropUnwanted 53 = .ok (.istore_n 2, 1) := by decide +kernel
theorem dX5_dropUnwanted_54 : decode cX5_dropUnwanted 54 = .ok (.iinc 4 (-1), 3) := by decide +kernel
theorem dX5_dropUnwanted_57 : decode cX5_dropUnwanted 57 = .ok (.goto (-20), 3) := by decide +kernel
theorem dX5_dropUnwanted_60 : decode cX5_dropUnwanted 60 = .ok (.iinc 3 1, 3) := by decide +kernel
theorem dX5_dropUnwanted_63 : decode cX5_dropUnwanted 63 = .ok (.goto (-46), 3) := by decide +kernel
theorem dX5_dropUnwanted_66 : decode cX5_dropUnwanted 66 = .ok (.aload_n 0, 1) := by decide +kernel
theorem dX5_dropUnwanted_67 : decode cX5_dropUnwanted 67 = .ok (.aload_n 1, 1) := by decide +kernel
theorem dX5_dropUnwanted_68 : decode cX5_dropUnwanted 68 = .ok (.invokevirtual 266, 3) := by decide +kernel
theorem dX5_dropUnwanted_71 : decode cX5_dropUnwanted 71 = .ok (.aload_n 1, 1) := by decide +kernel
theorem dX5_dropUnwanted_72 : decode cX5_dropUnwanted 72 = .ok (.invokevirtual 269, 3) := by decide +kernel
theorem dX5_dropUnwanted_75 : decode cX5_dropUnwanted 75 = .ok (.istore_n 3, 1) := by decide +kernel
theorem dX5_dropUnwanted_76 : decode cX5_dropUnwanted 76 = .ok (.aload_n 1, 1) := by decide +kernel
theorem dX5_dropUnwanted_77 : decode cX5_dropUnwanted 77 = .ok (.aload_n 0, 1) := by decide +kernel
theorem dX5_dropUnwanted_78 : decode cX5_dropUnwanted 78 = .ok (.getfield 27, 3) := by decide +kernel
theorem dX5_dropUnwanted_81 : decode cX5_dropUnwanted 81 = .ok (.invokevirtual 207, 3) := by decide +kernel
theorem dX5_dropUnwanted_84 : decode cX5_dropUnwanted 84 = .ok (.iload_n 3, 1) := by decide +kernel
theorem dX5_dropUnwanted_85 : decode cX5_dropUnwanted 85 = .ok (.aload_n 1, 1) := by decide +kernel
theorem dX5_dropUnwanted_86 : decode cX5_dropUnwanted 86 = .ok (.invokevirtual 269, 3) := by decide +kernel
theorem dX5_dropUnwanted_89 : decode cX5_dropUnwanted 89 = .ok (.isub, 1) := by decide +kernel
theorem dX5_dropUnwanted_90 : decode cX5_dropUnwanted 90 = .ok (.ireturn, 1) := by decide +kernel
theorem dX5_findGivers_0 : decode cX5_findGivers 0 = .ok (.aload_n 0, 1) := by decide +kernel
theorem dX5_findGivers_1 : decode cX5_findGivers 1 = .ok (.getfield 9, 3) := by decide +kernel
theorem dX5_findGivers_4 : decode cX5_findGivers 4 = .ok (.iconst (-1), 1) := by decide +kernel
theorem dX5_findGivers_5 : decode cX5_findGivers 5 = .ok (.invokestatic 43, 3) := by decide +kernel
theorem dX5_findGivers_8 : decode cX5_findGivers 8 = .ok (.aload_n 0, 1) := by decide +kernel
theorem dX5_findGivers_9 : decode cX5_findGivers 9 = .ok (.getfield 15, 3) := by decide +kernel
theorem dX5_findGivers_12 : decode cX5_findGivers 12 = .ok (.iconst (-1), 1) := by decide +kernel
theorem dX5_findGivers_13 : decode cX5_findGivers 13 = .ok (.invokestatic 43, 3) := by decide +kernel
theorem dX5_findGivers_16 : decode cX5_findGivers 16 = .ok (.iconst 0, 1) := by decide +kernel
theorem dX5_findGivers_17 : decode cX5_findGivers 17 = .ok (.istore_n 2, 1) := by decide +kernel
theorem dX5_findGivers_18 : decode cX5_findGivers 18 = .ok (.iload_n 2, 1) := by decide +kernel
theorem dX5_findGivers_19 : decode cX5_findGivers 19 = .ok (.aload_n 1, 1) := by decide +kernel
theorem dX5_findGivers_20 : decode cX5_findGivers 20 = .ok (.getfield 49, 3) := by decide +kernel
theorem dX5_findGivers_23 : decode cX5_findGivers 23 = .ok (.if_icmp .ge 98, 3) := by decide +kernel
theorem dX5_findGivers_26 : decode cX5_findGivers 26 = .ok (.aload_n 1, 1) := by decide +kernel
theorem dX5_findGivers_27 : decode cX5_findGivers 27 = .ok (.getfield 55, 3) := by decide +kernel
theorem dX5_findGivers_30 : decode cX5_findGivers 30 = .ok (.iload_n 2, 1) := by decide +kernel
theorem dX5_findGivers_31 : decode cX5_findGivers 31 = .ok (.iaload, 1) := by decide +kernel
theorem dX5_findGivers_32 : decode cX5_findGivers 32 = .ok (.istore_n 3, 1) := by decide +kernel
theorem dX5_findGivers_33 : decode cX5_findGivers 33 = .ok (.iload_n 3, 1) := by decide +kernel
theorem dX5_findGivers_34 : decode cX5_findGivers 34 = .ok (.ifCond .lt 25, 3) := by decide +kernel
theorem dX5_findGivers_37 : decode cX5_findGivers 37 = .ok (.aload_n 0, 1) := by decide +kernel
theorem dX5_findGivers_38 : decode cX5_findGivers 38 = .ok (.getfield 15, 3) := by decide +kernel
theorem dX5_findGivers_41 : decode cX5_findGivers 41 = .ok (.aload_n 1, 1) := by decide +kernel
theorem dX5_findGivers_42 : decode cX5_findGivers 42 = .ok (.getfield 58, 3) := by decide +kernel
theorem dX5_findGivers_45 : decode cX5_findGivers 45 = .ok (.iload_n 3, 1) := by decide +kernel
theorem dX5_findGivers_46 : decode cX5_findGivers 46 = .ok (.iaload, 1) := by decide +kernel
theorem dX5_findGivers_47 : decode cX5_findGivers 47 = .ok (.iload_n 2, 1) := by decide +kernel
theorem dX5_findGivers_48 : decode cX5_findGivers 48 = .ok (.iastore, 1) := by decide +kernel
theorem dX5_findGivers_49 : decode cX5_findGivers 49 = .ok (.aload_n 1, 1) := by decide +kernel
theorem dX5_findGivers_50 : decode cX5_findGivers 50 = .ok (.getfield 61, 3) := by decide +kernel
theorem dX5_findGivers_53 : decode cX5_findGivers 53 = .ok (.iload_n 3, 1) := by decide +kernel
theorem dX5_findGivers_54 : decode cX5_findGivers 54 = .ok (.iaload, 1) := by decide +kernel
theorem dX5_findGivers_55 : decode cX5_findGivers 55 = .ok (.istore_n 3, 1) := by decide +kernel
theorem dX5_findGivers_56 : decode cX5_findGivers 56 = .ok (.goto (-23), 3) := by decide +kernel
theorem dX5_findGivers_59 : decode cX5_findGivers 59 = .ok (.aload_n 1, 1) := by decide +kernel
theorem dX5_findGivers_60 : decode cX5_findGivers 60 = .ok (.getfield 64, 3) := by decide +kernel
theorem dX5_findGivers_63 : decode cX5_findGivers 63 = .ok (.iload_n 2, 1) := by decide +kernel
theorem dX5_findGivers_64 : decode cX5_findGivers 64 = .ok (.iaload, 1) := by decide +kernel
theorem dX5_findGivers_65 : decode cX5_findGivers 65 = .ok (.istore_n 3, 1) := by decide +kernel
theorem dX5_findGivers_66 : decode cX5_findGivers 66 = .ok (.iload_n 3, 1) := by decide +kernel
theorem dX5_findGivers_67 : decode cX5_findGivers 67 = .ok (.ifCond .lt 48, 3) := by decide +kernel
theorem dX5_findGivers_70 : decode cX5_findGivers 70 = .ok (.aload_n 1, 1) := by decide +kernel
theorem dX5_findGivers_71 : decode cX5_findGivers 71 = .ok (.getfield 67, 3) := by decide +kernel
theorem dX5_findGivers_74 : decode cX5_findGivers 74 = .ok (.getfield 71, 3) := by decide +kernel
theorem dX5_findGivers_77 : decode cX5_findGivers 77 = .ok (.iload_n 3, 1) := by decide +kernel
theorem dX5_findGivers_78 : decode cX5_findGivers 78 = .ok (.iaload, 1) := by decide +kernel
theorem dX5_findGivers_79 : decode cX5_findGivers 79 = .ok (.istore 4, 2) := by decide +kernel
theorem dX5_findGivers_81 : decode cX5_findGivers 81 = .ok (.iload 4, 2) := by decide +kernel
theorem dX5_findGivers_83 : decode cX5_findGivers 83 = .ok (.ifCond .lt 19, 3) := by decide +kernel
theorem dX5_findGivers_86 : decode cX5_findGivers 86 = .ok (.aload_n 0, 1) := by decide +kernel
theorem dX5_findGivers_87 : decode cX5_findGivers 87 = .ok (.getfield 9, 3) := by decide +kernel
theorem dX5_findGivers_90 : decode cX5_findGivers 90 = .ok (.iload 4, 2) := by decide +kernel
theorem dX5_findGivers_92 : decode cX5_findGivers 92 = .ok (.iload_n 3, 1) := by decide +kernel
theorem dX5_findGivers_93 : decode cX5_findGivers 93 = .ok (.iastore, 1) := by decide +kernel
theorem dX5_findGivers_94 : decode cX5_findGivers 94 = .ok (.aload_n 0, 1) := by decide +kernel
theorem dX5_findGivers_95 : decode cX5_findGivers 95 = .ok (.getfield 15, 3) := by decide +kernel
theorem dX5_findGivers_98 : decode cX5_findGivers 98 = .ok (.iload 4, 2) := by decide +kernel
theorem dX5_findGivers_100 : decode cX5_findGivers 100 = .ok (.iload_n 2, 1) := by decide +kernel
theorem dX5_findGivers_101 : decode cX5_findGivers 101 = .ok (.iastore, 1) := by decide +kernel
theorem dX5_findGivers_102 : decode cX5_findGivers 102 = .ok (.aload_n 1, 1) := by decide +kernel
theorem dX5_findGivers_103 : decode cX5_findGivers 103 = .ok (.getfield 67, 3) := by decide +kernel
theorem dX5_findGivers_106 : decode cX5_findGivers 106 = .ok (.getfield 76, 3) := by decide +kernel
theorem dX5_findGivers_109 : decode cX5_findGivers 109 = .ok (.iload_n 3, 1) := by decide +kernel
theorem dX5_findGivers_110 : decode cX5_findGivers 110 = .ok (.iaload, 1) := by decide +kernel
theorem dX5_findGivers_111 : decode cX5_findGivers 111 = .ok (.istore_n 3, 1) := by decide +kernel
theorem dX5_findGivers_112 : decode cX5_findGivers 112 = .ok (.goto (-46), 3) := by decide +kernel
theorem dX5_findGivers_115 : decode cX5_findGivers 115 = .ok (.iinc 2 1, 3) := by decide +kernel
theorem dX5_findGivers_118 : decode cX5_findGivers 118 = .ok (.goto (-100), 3) := by decide +kernel
theorem dX5_findGivers_121 : decode cX5_findGivers 121 = .ok (.return_, 1) := by decide +kernel
theorem dX5_isNumber_0 : decode cX5_isNumber 0 = .ok (.aload_n 0, 1) := by decide +kernel
theorem dX5_isNumber_1 : decode cX5_isNumber 1 = .ok (.getfield 9, 3) := by decide +kernel
theorem dX5_isNumber_4 : decode cX5_isNumber 4 = .ok (.iload_n 2, 1) := by decide +kernel
theorem dX5_isNumber_5 : decode cX5_isNumber 5 = .ok (.iaload, 1) := by decide +kernel
theorem dX5_isNumber_6 : decode cX5_isNumber 6 = .ok (.ifCond .lt 24, 3) := by decide +kernel
theorem dX5_isNumber_9 : decode cX5_isNumber 9 = .ok (.aload_n 1, 1) := by decide +kernel
theorem dX5_isNumber_10 : decode cX5_isNumber 10 = .ok (.getfield 67, 3) := by decide +kernel
theorem dX5_isNumber_13 : decode cX5_isNumber 13 = .ok (.getfield 79, 3) := by decide +kernel
theorem dX5_isNumber_16 : decode cX5_isNumber 16 = .ok (.aload_n 0, 1) := by decide +kernel
theorem dX5_isNumber_17 : decode cX5_isNumber 17 = .ok (.getfield 9, 3) := by decide +kernel
theorem dX5_isNumber_20 : decode cX5_isNumber 20 = .ok (.iload_n 2, 1) := by decide +kernel
theorem dX5_isNumber_21 : decode cX5_isNumber 21 = .ok (.iaload, 1) := by decide +kernel
theorem dX5_isNumber_22 : decode cX5_isNumber 22 = .ok (.iaload, 1) := by decide +kernel
theorem dX5_isNumber_23 : decode cX5_isNumber 23 = .ok (.ifCond .ne 7, 3) := by decide +kernel
theorem dX5_isNumber_26 : decode cX5_isNumber 26 = .ok (.iconst 1, 1) := by decide +kernel
theorem dX5_isNumber_27 : decode cX5_isNumber 27 = .ok (.goto 4, 3) := by decide +kernel
theorem dX5_isNumber_30 : decode cX5_isNumber 30 = .ok (.iconst 0, 1) := by decide +kernel
theorem dX5_isNumber_31 : decode cX5_isNumber 31 = .ok (.ireturn, 1) := by decide +kernel
theorem dX5_keepUndroppable_0 : decode cX5_keepUndroppable 0 = .ok (.iconst 0, 1) := by decide +kernel
theorem dX5_keepUndroppable_1 : decode cX5_keepUndroppable 1 = .ok (.istore_n 2, 1) := by decide +kernel
theorem dX5_keepUndroppable_2 : decode cX5_keepUndroppable 2 = .ok (.iload_n 2, 1) := by decide +kernel
theorem dX5_keepUndroppable_3 : decode cX5_keepUndroppable 3 = .ok (.aload_n 1, 1) := by decide +kernel
theorem dX5_keepUndroppable_4 : decode cX5_keepUndroppable 4 = .ok (.getfield 49, 3) := by decide +kernel
theorem dX5_keepUndroppable_7 : decode cX5_keepUndroppable 7 = .ok (.if_icmp .ge 61, 3) := by decide +kernel
theorem dX5_keepUndroppable_10 : decode cX5_keepUndroppable 10 = .ok (.aload_n 1, 1) := by decide +kernel
theorem dX5_keepUndroppable_11 : decode cX5_keepUndroppable 11 = .ok (.getfield 64, 3) := by decide +kernel
theorem dX5_keepUndroppable_14 : decode cX5_keepUndroppable 14 = .ok (.iload_n 2, 1) := by decide +kernel
theorem dX5_keepUndroppable_15 : decode cX5_keepUndroppable 15 = .ok (.iaload, 1) := by decide +kernel
theorem dX5_keepUndroppable_16 : decode cX5_keepUndroppable 16 = .ok (.istore_n 3, 1) := by decide +kernel
theorem dX5_keepUndroppable_17 : decode cX5_keepUndroppable 17 = .ok (.iload_n 3, 1) := by decide +kernel
theorem dX5_keepUndroppable_18 : decode cX5_keepUndroppable 18 = .ok (.ifCond .lt 44, 3) := by decide +kernel
theorem dX5_keepUndroppable_21 : decode cX5_keepUndroppable 21 = .ok (.aload_n 1, 1) := by decide +kernel
theorem dX5_keepUndroppable_22 : decode cX5_keepUndroppable 22 = .ok (.getfield 67, 3) := by decide +kernel
theorem dX5_keepUndroppable_25 : decode cX5_keepUndroppable 25 = .ok (.getfield 79, 3) := by decide +kernel
theorem dX5_keepUndroppable_28 : decode cX5_keepUndroppable 28 = .ok (.iload_n 3, 1) := by decide +kernel
theorem dX5_keepUndroppable_29 : decode cX5_keepUndroppable 29 = .ok (.iaload, 1) := by decide +kernel
theorem dX5_keepUndroppable_30 : decode cX5_keepUndroppable 30 = .ok (.bipush 20, 2) := by decide +kernel
theorem dX5_keepUndroppable_32 : decode cX5_keepUndroppable 32 = .ok (.if_icmp .ne 17, 3) := by decide +kernel
theorem dX5_keepUndroppable_35 : decode cX5_keepUndroppable 35 = .ok (.aload_n 0, 1) := by decide +kernel
theorem dX5_keepUndroppable_36 : decode cX5_keepUndroppable 36 = .ok (.aload_n 1, 1) := by decide +kernel
theorem dX5_keepUndroppable_37 : decode cX5_keepUndroppable 37 = .ok (.getfield 67, 3) := by decide +kernel
theorem dX5_keepUndroppable_40 : decode cX5_keepUndroppable 40 = .ok (.getfield 71, 3) := by decide +kernel
theorem dX5_keepUndroppable_43 : decode cX5_keepUndroppable 43 = .ok (.iload_n 3, 1) := by decide +kernel
theorem dX5_keepUndroppable_44 : decode cX5_keepUndroppable 44 = .ok (.iaload, 1) := by decide +kernel
theorem dX5_keepUndroppable_45 : decode cX5_keepUndroppable 45 = .ok (.invokevirtual 273, 3) := by decide +kernel
theorem dX5_keepUndroppable_48 : decode cX5_keepUndroppable 48 = .ok (.pop, 1) := by decide +kernel
theorem dX5_keepUndroppable_49 : decode cX5_keepUndroppable 49 = .ok (.aload_n 1, 1) := by decide +kernel
theorem dX5_keepUndroppable_50 : decode cX5_keepUndroppable 50 = .ok (.getfield 67, 3) := by decide +kernel
theorem dX5_keepUndroppable_53 : decode cX5_keepUndroppable 53 = .ok (.getfield 76, 3) := by decide +kernel
theorem dX5_keepUndroppable_56 : decode cX5_keepUndroppable 56 = .ok (.iload_n 3, 1) := by decide +kernel
theorem dX5_keepUndroppable_57 : decode cX5_keepUndroppable 57 = .ok (.iaload, 1) := by decide +kernel
theorem dX5_keepUndroppable_58 : decode cX5_keepUndroppable 58 = .ok (.istore_n 3, 1) := by decide +kernel
theorem dX5_keepUndroppable_59 : decode cX5_keepUndroppable 59 = .ok (.goto (-42), 3) := by decide +kernel
theorem dX5_keepUndroppable_62 : decode cX5_keepUndroppable 62 = .ok (.iinc 2 1, 3) := by decide +kernel
theorem dX5_keepUndroppable_65 : decode cX5_keepUndroppable 65 = .ok (.goto (-63), 3) := by decide +kernel
theorem dX5_keepUndroppable_68 : decode cX5_keepUndroppable 68 = .ok (.return_, 1) := by decide +kernel
theorem dX5_mayFail_0 : decode cX5_mayFail 0 = .ok (.aload_n 1, 1) := by decide +kernel
theorem dX5_mayFail_1 : decode cX5_mayFail 1 = .ok (.getfield 67, 3) := by decide +kernel
theorem dX5_mayFail_4 : decode cX5_mayFail 4 = .ok (.getfield 79, 3) := by decide +kernel
theorem dX5_mayFail_7 : decode cX5_mayFail 7 = .ok (.iload_n 2, 1) := by decide +kernel
theorem dX5_mayFail_8 : decode cX5_mayFail 8 = .ok (.iaload, 1) := by decide +kernel
theorem dX5_mayFail_9 : decode cX5_mayFail 9 = .ok (.istore_n 3, 1) := by decide +kernel
theorem dX5_mayFail_10 : decode cX5_mayFail 10 = .ok (.iload_n 3, 1) := by decide +kernel
theorem dX5_mayFail_11 : decode cX5_mayFail 11 = .ok (.iconst 4, 1) := by decide +kernel
theorem dX5_mayFail_12 : decode cX5_mayFail 12 = .ok (.if_icmp .eq 10, 3) := by decide +kernel
theorem dX5_mayFail_15 : decode cX5_mayFail 15 = .ok (.iload_n 3, 1) := by decide +kernel
theorem dX5_mayFail_16 : decode cX5_mayFail 16 = .ok (.iconst 5, 1) := by decide +kernel
theorem dX5_mayFail_17 : decode cX5_mayFail 17 = .ok (.if_icmp .eq 5, 3) := by decide +kernel
theorem dX5_mayFail_20 : decode cX5_mayFail 20 = .ok (.iconst 0, 1) := by decide +kernel
theorem dX5_mayFail_21 : decode cX5_mayFail 21 = .ok (.ireturn, 1) := by decide +kernel
theorem dX5_mayFail_22 : decode cX5_mayFail 22 = .ok (.aload_n 1, 1) := by decide +kernel
theorem dX5_mayFail_23 : decode cX5_mayFail 23 = .ok (.getfield 67, 3) := by decide +kernel
theorem dX5_mayFail_26 : decode cX5_mayFail 26 = .ok (.getfield 93, 3) := by decide +kernel
theorem dX5_mayFail_29 : decode cX5_mayFail 29 = .ok (.iload_n 2, 1) := by decide +kernel
theorem dX5_mayFail_30 : decode cX5_mayFail 30 = .ok (.iaload, 1) := by decide +kernel
theorem dX5_mayFail_31 : decode cX5_mayFail 31 = .ok (.istore 4, 2) := by decide +kernel
theorem dX5_mayFail_33 : decode cX5_mayFail 33 = .ok (.aload_n 0, 1) := by decide +kernel
theorem dX5_mayFail_34 : decode cX5_mayFail 34 = .ok (.aload_n 1, 1) := by decide +kernel
theorem dX5_mayFail_35 : decode cX5_mayFail 35 = .ok (.iload 4, 2) := by decide +kernel
theorem dX5_mayFail_37 : decode cX5_mayFail 37 = .ok (.invokevirtual 85, 3) := by decide +kernel
theorem dX5_mayFail_40 : decode cX5_mayFail 40 = .ok (.ifCond .eq 13, 3) := by decide +kernel
theorem dX5_mayFail_43 : decode cX5_mayFail 43 = .ok (.aload_n 0, 1) := by decide +kernel
theorem dX5_mayFail_44 : decode cX5_mayFail 44 = .ok (.aload_n 1, 1) := by decide +kernel
theorem dX5_mayFail_45 : decode cX5_mayFail 45 = .ok (.iload 4, 2) := by decide +kernel
theorem dX5_mayFail_47 : decode cX5_mayFail 47 = .ok (.invokevirtual 89, 3) := by decide +kernel
theorem dX5_mayFail_50 : decode cX5_mayFail 50 = .ok (.ifCond .ne 7, 3) := by decide +kernel
theorem dX5_mayFail_53 : decode cX5_mayFail 53 = .ok (.iconst 1, 1) := by decide +kernel
theorem dX5_mayFail_54 : decode cX5_mayFail 54 = .ok (.goto 4, 3) := by decide +kernel
theorem dX5_mayFail_57 : decode cX5_mayFail 57 = .ok (.iconst 0, 1) := by decide +kernel
theorem dX5_mayFail_58 : decode cX5_mayFail 58 = .ok (.ireturn, 1) := by decide +kernel
theorem dX5_numberOf_0 : decode cX5_numberOf 0 = .ok (.aload_n 1, 1) := by decide +kernel
theorem dX5_numberOf_1 : decode cX5_numberOf 1 = .ok (.getfield 67, 3) := by decide +kernel
theorem dX5_numberOf_4 : decode cX5_numberOf 4 = .ok (.getfield 82, 3) := by decide +kernel
theorem dX5_numberOf_7 : decode cX5_numberOf 7 = .ok (.aload_n 0, 1) := by decide +kernel
theorem dX5_numberOf_8 : decode cX5_numberOf 8 = .ok (.getfield 9, 3) := by decide +kernel
theorem dX5_numberOf_11 : decode cX5_numberOf 11 = .ok (.iload_n 2, 1) := by decide +kernel
theorem dX5_numberOf_12 : decode cX5_numberOf 12 = .ok (.iaload, 1) := by decide +kernel
theorem dX5_numberOf_13 : decode cX5_numberOf 13 = .ok (.iaload, 1) := by decide +kernel
theorem dX5_numberOf_14 : decode cX5_numberOf 14 = .ok (.ireturn, 1) := by decide +kernel
theorem dX5_want_0 : decode cX5_want 0 = .ok (.aload_n 0, 1) := by decide +kernel
theorem dX5_want_1 : decode cX5_want 1 = .ok (.getfield 27, 3) := by decide +kernel
theorem dX5_want_4 : decode cX5_want 4 = .ok (.iload_n 1, 1) := by decide +kernel
theorem dX5_want_5 : decode cX5_want 5 = .ok (.iaload, 1) := by decide +kernel
theorem dX5_want_6 : decode cX5_want 6 = .ok (.ifCond .eq 7, 3) := by decide +kernel
theorem dX5_want_9 : decode cX5_want 9 = .ok (.iconst 1, 1) := by decide +kernel
theorem dX5_want_10 : decode cX5_want 10 = .ok (.goto 4, 3) := by decide +kernel
theorem dX5_want_13 : decode cX5_want 13 = .ok (.iconst 0, 1) := by decide +kernel
theorem dX5_want_14 : decode cX5_want 14 = .ok (.istore_n 2, 1) := by decide +kernel
theorem dX5_want_15 : decode cX5_want 15 = .ok (.aload_n 0, 1) := by decide +kernel
theorem dX5_want_16 : decode cX5_want 16 = .ok (.getfield 27, 3) := by decide +kernel
theorem dX5_want_19 : decode cX5_want 19 = .ok (.iload_n 1, 1) := by decide +kernel
theorem dX5_want_20 : decode cX5_want 20 = .ok (.iconst 0, 1) := by decide +kernel
theorem dX5_want_21 : decode cX5_want 21 = .ok (.iastore, 1) := by decide +kernel
theorem dX5_want_22 : decode cX5_want 22 = .ok (.iload_n 2, 1) := by decide +kernel
theorem dX5_want_23 : decode cX5_want 23 = .ok (.ireturn, 1) := by decide +kernel
theorem dX5_wantInBlock_0 : decode cX5_wantInBlock 0 = .ok (.aload_n 1, 1) := by decide +kernel
theorem dX5_wantInBlock_1 : decode cX5_wantInBlock 1 = .ok (.getfield 164, 3) := by decide +kernel
theorem dX5_wantInBlock_4 : decode cX5_wantInBlock 4 = .ok (.iload_n 2, 1) := by decide +kernel
theorem dX5_wantInBlock_5 : decode cX5_wantInBlock 5 = .ok (.iaload, 1) := by decide +kernel
theorem dX5_wantInBlock_6 : decode cX5_wantInBlock 6 = .ok (.ifCond .lt 20, 3) := by decide +kernel
theorem dX5_wantInBlock_9 : decode cX5_wantInBlock 9 = .ok (.aload_n 0, 1) := by decide +kernel
theorem dX5_wantInBlock_10 : decode cX5_wantInBlock 10 = .ok (.aload_n 1, 1) := by decide +kernel
theorem dX5_wantInBlock_11 : decode cX5_wantInBlock 11 = .ok (.getfield 164, 3) := by decide +kernel
theorem dX5_wantInBlock_14 : decode cX5_wantInBlock 14 = .ok (.iload_n 2, 1) := by decide +kernel
theorem dX5_wantInBlock_15 : decode cX5_wantInBlock 15 = .ok (.iaload, 1) := by decide +kernel
theorem dX5_wantInBlock_16 : decode cX5_wantInBlock 16 = .ok (.invokevirtual 273, 3) := by decide +kernel
theorem dX5_wantInBlock_19 : decode cX5_wantInBlock 19 = .ok (.ifCond .eq 7, 3) := by decide +kernel
theorem dX5_wantInBlock_22 : decode cX5_wantInBlock 22 = .ok (.iconst 1, 1) := by decide +kernel
theorem dX5_wantInBlock_23 : decode cX5_wantInBlock 23 = .ok (.goto 4, 3) := by decide +kernel
theorem dX5_wantInBlock_26 : decode cX5_wantInBlock 26 = .ok (.iconst 0, 1) := by decide +kernel
theorem dX5_wantInBlock_27 : decode cX5_wantInBlock 27 = .ok (.istore_n 3, 1) := by decide +kernel
theorem dX5_wantInBlock_28 : decode cX5_wantInBlock 28 = .ok (.aload_n 1, 1) := by decide +kernel
theorem dX5_wantInBlock_29 : decode cX5_wantInBlock 29 = .ok (.getfield 67, 3) := by decide +kernel
theorem dX5_wantInBlock_32 : decode cX5_wantInBlock 32 = .ok (.astore 4, 2) := by decide +kernel
theorem dX5_wantInBlock_34 : decode cX5_wantInBlock 34 = .ok (.aload_n 1, 1) := by decide +kernel
theorem dX5_wantInBlock_35 : decode cX5_wantInBlock 35 = .ok (.getfield 64, 3) := by decide +kernel
theorem dX5_wantInBlock_38 : decode cX5_wantInBlock 38 = .ok (.iload_n 2, 1) := by decide +kernel
theorem dX5_wantInBlock_39 : decode cX5_wantInBlock 39 = .ok (.iaload, 1) := by decide +kernel
theorem dX5_wantInBlock_40 : decode cX5_wantInBlock 40 = .ok (.istore 5, 2) := by decide +kernel
theorem dX5_wantInBlock_42 : decode cX5_wantInBlock 42 = .ok (.iload 5, 2) := by decide +kernel
theorem dX5_wantInBlock_44 : decode cX5_wantInBlock 44 = .ok (.ifCond .lt 165, 3) := by decide +kernel
theorem dX5_wantInBlock_47 : decode cX5_wantInBlock 47 = .ok (.aload 4, 2) := by decide +kernel
theorem dX5_wantInBlock_49 : decode cX5_wantInBlock 49 = .ok (.getfield 79, 3) := by decide +kernel
theorem dX5_wantInBlock_52 : decode cX5_wantInBlock 52 = .ok (.iload 5, 2) := by decide +kernel
theorem dX5_wantInBlock_54 : decode cX5_wantInBlock 54 = .ok (.iaload, 1) := by decide +kernel
theorem dX5_wantInBlock_55 : decode cX5_wantInBlock 55 = .ok (.istore 6, 2) := by decide +kernel
theorem dX5_wantInBlock_57 : decode cX5_wantInBlock 57 = .ok (.iload 6, 2) := by decide +kernel
theorem dX5_wantInBlock_59 : decode cX5_wantInBlock 59 = .ok (.bipush 18, 2) := by decide +kernel
theorem dX5_wantInBlock_61 : decode cX5_wantInBlock 61 = .ok (.if_icmp .eq 20, 3) := by decide +kernel
theorem dX5_wantInBlock_64 : decode cX5_wantInBlock 64 = .ok (.iload 6, 2) := by decide +kernel
theorem dX5_wantInBlock_66 : decode cX5_wantInBlock 66 = .ok (.bipush 19, 2) := by decide +kernel
theorem dX5_wantInBlock_68 : decode cX5_wantInBlock 68 = .ok (.if_icmp .eq 13, 3) := by decide +kernel
theorem dX5_wantInBlock_71 : decode cX5_wantInBlock 71 = .ok (.aload_n 0, 1) := by decide +kernel
theorem dX5_wantInBlock_72 : decode cX5_wantInBlock 72 = .ok (.aload_n 1, 1) := by decide +kernel
theorem dX5_wantInBlock_73 : decode cX5_wantInBlock 73 = .ok (.iload 5, 2) := by decide +kernel
theorem dX5_wantInBlock_75 : decode cX5_wantInBlock 75 = .ok (.invokevirtual 276, 3) := by decide +kernel
theorem dX5_wantInBlock_78 : decode cX5_wantInBlock 78 = .ok (.ifCond .eq 24, 3) := by decide +kernel
theorem dX5_wantInBlock_81 : decode cX5_wantInBlock 81 = .ok (.aload_n 0, 1) := by decide +kernel
theorem dX5_wantInBlock_82 : decode cX5_wantInBlock 82 = .ok (.aload 4, 2) := by decide +kernel
theorem dX5_wantInBlock_84 : decode cX5_wantInBlock 84 = .ok (.iload 5, 2) := by decide +kernel
theorem dX5_wantInBlock_86 : decode cX5_wantInBlock 86 = .ok (.invokevirtual 279, 3) := by decide +kernel
theorem dX5_wantInBlock_89 : decode cX5_wantInBlock 89 = .ok (.ifCond .ne 7, 3) := by decide +kernel
theorem dX5_wantInBlock_92 : decode cX5_wantInBlock 92 = .ok (.iload_n 3, 1) := by decide +kernel
theorem dX5_wantInBlock_93 : decode cX5_wantInBlock 93 = .ok (.ifCond .eq 7, 3) := by decide +kernel
theorem dX5_wantInBlock_96 : decode cX5_wantInBlock 96 = .ok (.iconst 1, 1) := by decide +kernel
theorem dX5_wantInBlock_97 : decode cX5_wantInBlock 97 = .ok (.goto 4, 3) := by decide +kernel
theorem dX5_wantInBlock_100 : decode cX5_wantInBlock 100 = .ok (.iconst 0, 1) := by decide +kernel
theorem dX5_wantInBlock_101 : decode cX5_wantInBlock 101 = .ok (.istore_n 3, 1) := by decide +kernel
theorem dX5_wantInBlock_102 : decode cX5_wantInBlock 102 = .ok (.aload 4, 2) := by decide +kernel
theorem dX5_wantInBlock_104 : decode cX5_wantInBlock 104 = .ok (.getfield 71, 3) := by decide +kernel
theorem dX5_wantInBlock_107 : decode cX5_wantInBlock 107 = .ok (.iload 5, 2) := by decide +kernel
theorem dX5_wantInBlock_109 : decode cX5_wantInBlock 109 = .ok (.iaload, 1) := by decide +kernel
theorem dX5_wantInBlock_110 : decode cX5_wantInBlock 110 = .ok (.ifCond .lt 38, 3) := by decide +kernel
theorem dX5_wantInBlock_113 : decode cX5_wantInBlock 113 = .ok (.aload_n 0, 1) := by decide +kernel
theorem dX5_wantInBlock_114 : decode cX5_wantInBlock 114 = .ok (.aload_n 1, 1) := by decide +kernel
theorem dX5_wantInBlock_115 : decode cX5_wantInBlock 115 = .ok (.iload 5, 2) := by decide +kernel
theorem dX5_wantInBlock_117 : decode cX5_wantInBlock 117 = .ok (.invokevirtual 276, 3) := by decide +kernel
theorem dX5_wantInBlock_120 : decode cX5_wantInBlock 120 = .ok (.ifCond .eq 28, 3) := by decide +kernel
theorem dX5_wantInBlock_123 : decode cX5_wantInBlock 123 = .ok (.aload_n 0, 1) := by decide +kernel
theorem dX5_wantInBlock_124 : decode cX5_wantInBlock 124 = .ok (.aload 4, 2) := by decide +kernel
theorem dX5_wantInBlock_126 : decode cX5_wantInBlock 126 = .ok (.getfield 71, 3) := by decide +kernel
theorem dX5_wantInBlock_129 : decode cX5_wantInBlock 129 = .ok (.iload 5, 2) := by decide +kernel
theorem dX5_wantInBlock_131 : decode cX5_wantInBlock 131 = .ok (.iaload, 1) := by decide +kernel
theorem dX5_wantInBlock_132 : decode cX5_wantInBlock 132 = .ok (.invokevirtual 273, 3) := by decide +kernel
theorem dX5_wantInBlock_135 : decode cX5_wantInBlock 135 = .ok (.ifCond .ne 7, 3) := by decide +kernel
theorem dX5_wantInBlock_138 : decode cX5_wantInBlock 138 = .ok (.iload_n 3, 1) := by decide +kernel
theorem dX5_wantInBlock_139 : decode cX5_wantInBlock 139 = .ok (.ifCond .eq 7, 3) := by decide +kernel
theorem dX5_wantInBlock_142 : decode cX5_wantInBlock 142 = .ok (.iconst 1, 1) := by decide +kernel
theorem dX5_wantInBlock_143 : decode cX5_wantInBlock 143 = .ok (.goto 4, 3) := by decide +kernel
theorem dX5_wantInBlock_146 : decode cX5_wantInBlock 146 = .ok (.iconst 0, 1) := by decide +kernel
theorem dX5_wantInBlock_147 : decode cX5_wantInBlock 147 = .ok (.istore_n 3, 1) := by decide +kernel
theorem dX5_wantInBlock_148 : decode cX5_wantInBlock 148 = .ok (.aload 4, 2) := by decide +kernel
theorem dX5_wantInBlock_150 : decode cX5_wantInBlock 150 = .ok (.getfield 71, 3) := by decide +kernel
theorem dX5_wantInBlock_153 : decode cX5_wantInBlock 153 = .ok (.iload 5, 2) := by decide +kernel
theorem dX5_wantInBlock_155 : decode cX5_wantInBlock 155 = .ok (.iaload, 1) := by decide +kernel
theorem dX5_wantInBlock_156 : decode cX5_wantInBlock 156 = .ok (.ifCond .lt 40, 3) := by decide +kernel
theorem dX5_wantInBlock_159 : decode cX5_wantInBlock 159 = .ok (.aload_n 0, 1) := by decide +kernel
theorem dX5_wantInBlock_160 : decode cX5_wantInBlock 160 = .ok (.getfield 27, 3) := by decide +kernel
theorem dX5_wantInBlock_163 : decode cX5_wantInBlock 163 = .ok (.aload 4, 2) := by decide +kernel
theorem dX5_wantInBlock_165 : decode cX5_wantInBlock 165 = .ok (.getfield 71, 3) := by decide +kernel
theorem dX5_wantInBlock_168 : decode cX5_wantInBlock 168 = .ok (.iload 5, 2) := by decide +kernel
theorem dX5_wantInBlock_170 : decode cX5_wantInBlock 170 = .ok (.iaload, 1) := by decide +kernel
theorem dX5_wantInBlock_171 : decode cX5_wantInBlock 171 = .ok (.iaload, 1) := by decide +kernel
theorem dX5_wantInBlock_172 : decode cX5_wantInBlock 172 = .ok (.ifCond .ne 24, 3) := by decide +kernel
theorem dX5_wantInBlock_175 : decode cX5_wantInBlock 175 = .ok (.aload_n 0, 1) := by decide +kernel
theorem dX5_wantInBlock_176 : decode cX5_wantInBlock 176 = .ok (.aload 4, 2) := by decide +kernel
theorem dX5_wantInBlock_178 : decode cX5_wantInBlock 178 = .ok (.iload 5, 2) := by decide +kernel
theorem dX5_wantInBlock_180 : decode cX5_wantInBlock 180 = .ok (.invokevirtual 279, 3) := by decide +kernel
theorem dX5_wantInBlock_183 : decode cX5_wantInBlock 183 = .ok (.ifCond .ne 7, 3) := by decide +kernel
theorem dX5_wantInBlock_186 : decode cX5_wantInBlock 186 = .ok (.iload_n 3, 1) := by decide +kernel
theorem dX5_wantInBlock_187 : decode cX5_wantInBlock 187 = .ok (.ifCond .eq 7, 3) := by decide +kernel
theorem dX5_wantInBlock_190 : decode cX5_wantInBlock 190 = .ok (.iconst 1, 1) := by decide +kernel
theorem dX5_wantInBlock_191 : decode cX5_wantInBlock 191 = .ok (.goto 4, 3) := by decide +kernel
theorem dX5_wantInBlock_194 : decode cX5_wantInBlock 194 = .ok (.iconst 0, 1) := by decide +kernel
theorem dX5_wantInBlock_195 : decode cX5_wantInBlock 195 = .ok (.istore_n 3, 1) := by decide +kernel
theorem dX5_wantInBlock_196 : decode cX5_wantInBlock 196 = .ok (.aload 4, 2) := by decide +kernel
theorem dX5_wantInBlock_198 : decode cX5_wantInBlock 198 = .ok (.getfield 76, 3) := by decide +kernel
theorem dX5_wantInBlock_201 : decode cX5_wantInBlock 201 = .ok (.iload 5, 2) := by decide +kernel
theorem dX5_wantInBlock_203 : decode cX5_wantInBlock 203 = .ok (.iaload, 1) := by decide +kernel
theorem dX5_wantInBlock_204 : decode cX5_wantInBlock 204 = .ok (.istore 5, 2) := by decide +kernel
theorem dX5_wantInBlock_206 : decode cX5_wantInBlock 206 = .ok (.goto (-164), 3) := by decide +kernel
theorem dX5_wantInBlock_209 : decode cX5_wantInBlock 209 = .ok (.aload_n 1, 1) := by decide +kernel
theorem dX5_wantInBlock_210 : decode cX5_wantInBlock 210 = .ok (.getfield 55, 3) := by decide +kernel
theorem dX5_wantInBlock_213 : decode cX5_wantInBlock 213 = .ok (.iload_n 2, 1) := by decide +kernel
theorem dX5_wantInBlock_214 : decode cX5_wantInBlock 214 = .ok (.iaload, 1) := by decide +kernel
theorem dX5_wantInBlock_215 : decode cX5_wantInBlock 215 = .ok (.istore 5, 2) := by decide +kernel
theorem dX5_wantInBlock_217 : decode cX5_wantInBlock 217 = .ok (.iload 5, 2) := by decide +kernel
theorem dX5_wantInBlock_219 : decode cX5_wantInBlock 219 = .ok (.ifCond .lt 79, 3) := by decide +kernel
theorem dX5_wantInBlock_222 : decode cX5_wantInBlock 222 = .ok (.aload_n 0, 1) := by decide +kernel
theorem dX5_wantInBlock_223 : decode cX5_wantInBlock 223 = .ok (.getfield 27, 3) := by decide +kernel
theorem dX5_wantInBlock_226 : decode cX5_wantInBlock 226 = .ok (.aload_n 1, 1) := by decide +kernel
theorem dX5_wantInBlock_227 : decode cX5_wantInBlock 227 = .ok (.getfield 58, 3) := by decide +kernel
theorem dX5_wantInBlock_230 : decode cX5_wantInBlock 230 = .ok (.iload 5, 2) := by decide +kernel
theorem dX5_wantInBlock_232 : decode cX5_wantInBlock 232 = .ok (.iaload, 1) := by decide +kernel
theorem dX5_wantInBlock_233 : decode cX5_wantInBlock 233 = .ok (.iaload, 1) := by decide +kernel
theorem dX5_wantInBlock_234 : decode cX5_wantInBlock 234 = .ok (.ifCond .ne 52, 3) := by decide +kernel
theorem dX5_wantInBlock_237 : decode cX5_wantInBlock 237 = .ok (.iconst 0, 1) := by decide +kernel
theorem dX5_wantInBlock_238 : decode cX5_wantInBlock 238 = .ok (.istore 6, 2) := by decide +kernel
theorem dX5_wantInBlock_240 : decode cX5_wantInBlock 240 = .ok (.iload 6, 2) := by decide +kernel
theorem dX5_wantInBlock_242 : decode cX5_wantInBlock 242 = .ok (.aload_n 1, 1) := by decide +kernel
theorem dX5_wantInBlock_243 : decode cX5_wantInBlock 243 = .ok (.iload_n 2, 1) := by decide +kernel
theorem dX5_wantInBlock_244 : decode cX5_wantInBlock 244 = .ok (.invokevirtual 134, 3) := by decide +kernel
theorem dX5_wantInBlock_247 : decode cX5_wantInBlock 247 = .ok (.if_icmp .ge 39, 3) := by decide +kernel
theorem dX5_wantInBlock_250 : decode cX5_wantInBlock 250 = .ok (.aload_n 0, 1) := by decide +kernel
theorem dX5_wantInBlock_251 : decode cX5_wantInBlock 251 = .ok (.aload_n 1, 1) := by decide +kernel
theorem dX5_wantInBlock_252 : decode cX5_wantInBlock 252 = .ok (.iload 5, 2) := by decide +kernel
theorem dX5_wantInBlock_254 : decode cX5_wantInBlock 254 = .ok (.aload_n 1, 1) := by decide +kernel
theorem dX5_wantInBlock_255 : decode cX5_wantInBlock 255 = .ok (.iload_n 2, 1) := by decide +kernel
theorem dX5_wantInBlock_256 : decode cX5_wantInBlock 256 = .ok (.iload 6, 2) := by decide +kernel
theorem dX5_wantInBlock_258 : decode cX5_wantInBlock 258 = .ok (.invokevirtual 138, 3) := by decide +kernel
theorem dX5_wantInBlock_261 : decode cX5_wantInBlock 261 = .ok (.invokevirtual 142, 3) := by decide +kernel
theorem dX5_wantInBlock_264 : decode cX5_wantInBlock 264 = .ok (.invokevirtual 273, 3) := by decide +kernel
theorem dX5_wantInBlock_267 : decode cX5_wantInBlock 267 = .ok (.ifCond .ne 7, 3) := by decide +kernel
theorem dX5_wantInBlock_270 : decode cX5_wantInBlock 270 = .ok (.iload_n 3, 1) := by decide +kernel
theorem dX5_wantInBlock_271 : decode cX5_wantInBlock 271 = .ok (.ifCond .eq 7, 3) := by decide +kernel
theorem dX5_wantInBlock_274 : decode cX5_wantInBlock 274 = .ok (.iconst 1, 1) := by decide +kernel
theorem dX5_wantInBlock_275 : decode cX5_wantInBlock 275 = .ok (.goto 4, 3) := by decide +kernel
theorem dX5_wantInBlock_278 : decode cX5_wantInBlock 278 = .ok (.iconst 0, 1) := by decide +kernel
theorem dX5_wantInBlock_279 : decode cX5_wantInBlock 279 = .ok (.istore_n 3, 1) := by decide +kernel
theorem dX5_wantInBlock_280 : decode cX5_wantInBlock 280 = .ok (.iinc 6 1, 3) := by decide +kernel
theorem dX5_wantInBlock_283 : decode cX5_wantInBlock 283 = .ok (.goto (-43), 3) := by decide +kernel
theorem dX5_wantInBlock_286 : decode cX5_wantInBlock 286 = .ok (.aload_n 1, 1) := by decide +kernel
theorem dX5_wantInBlock_287 : decode cX5_wantInBlock 287 = .ok (.getfield 61, 3) := by decide +kernel
theorem dX5_wantInBlock_290 : decode cX5_wantInBlock 290 = .ok (.iload 5, 2) := by decide +kernel
theorem dX5_wantInBlock_292 : decode cX5_wantInBlock 292 = .ok (.iaload, 1) := by decide +kernel
theorem dX5_wantInBlock_293 : decode cX5_wantInBlock 293 = .ok (.istore 5, 2) := by decide +kernel
theorem dX5_wantInBlock_295 : decode cX5_wantInBlock 295 = .ok (.goto (-78), 3) := by decide +kernel
theorem dX5_wantInBlock_298 : decode cX5_wantInBlock 298 = .ok (.iload_n 3, 1) := by decide +kernel
theorem dX5_wantInBlock_299 : decode cX5_wantInBlock 299 = .ok (.ireturn, 1) := by decide +kernel
theorem dX5_wantUsed_0 : decode cX5_wantUsed 0 = .ok (.aload_n 1, 1) := by decide +kernel
theorem dX5_wantUsed_1 : decode cX5_wantUsed 1 = .ok (.getfield 79, 3) := by decide +kernel
theorem dX5_wantUsed_4 : decode cX5_wantUsed 4 = .ok (.iload_n 2, 1) := by decide +kernel
theorem dX5_wantUsed_5 : decode cX5_wantUsed 5 = .ok (.iaload, 1) := by decide +kernel
theorem dX5_wantUsed_6 : decode cX5_wantUsed 6 = .ok (.invokestatic 221, 3) := by decide +kernel
theorem dX5_wantUsed_9 : decode cX5_wantUsed 9 = .ok (.ifCond .eq 20, 3) := by decide +kernel
theorem dX5_wantUsed_12 : decode cX5_wantUsed 12 = .ok (.aload_n 0, 1) := by decide +kernel
theorem dX5_wantUsed_13 : decode cX5_wantUsed 13 = .ok (.aload_n 1, 1) := by decide +kernel
theorem dX5_wantUsed_14 : decode cX5_wantUsed 14 = .ok (.getfield 82, 3) := by decide +kernel
theorem dX5_wantUsed_17 : decode cX5_wantUsed 17 = .ok (.iload_n 2, 1) := by decide +kernel
theorem dX5_wantUsed_18 : decode cX5_wantUsed 18 = .ok (.iaload, 1) := by decide +kernel
theorem dX5_wantUsed_19 : decode cX5_wantUsed 19 = .ok (.invokevirtual 273, 3) := by decide +kernel
theorem dX5_wantUsed_22 : decode cX5_wantUsed 22 = .ok (.ifCond .eq 7, 3) := by decide +kernel
theorem dX5_wantUsed_25 : decode cX5_wantUsed 25 = .ok (.iconst 1, 1) := by decide +kernel
theorem dX5_wantUsed_26 : decode cX5_wantUsed 26 = .ok (.goto 4, 3) := by decide +kernel
theorem dX5_wantUsed_29 : decode cX5_wantUsed 29 = .ok (.iconst 0, 1) := by decide +kernel
theorem dX5_wantUsed_30 : decode cX5_wantUsed 30 = .ok (.istore_n 3, 1) := by decide +kernel
theorem dX5_wantUsed_31 : decode cX5_wantUsed 31 = .ok (.aload_n 1, 1) := by decide +kernel
theorem dX5_wantUsed_32 : decode cX5_wantUsed 32 = .ok (.getfield 79, 3) := by decide +kernel
theorem dX5_wantUsed_35 : decode cX5_wantUsed 35 = .ok (.iload_n 2, 1) := by decide +kernel
theorem dX5_wantUsed_36 : decode cX5_wantUsed 36 = .ok (.iaload, 1) := by decide +kernel
theorem dX5_wantUsed_37 : decode cX5_wantUsed 37 = .ok (.invokestatic 224, 3) := by decide +kernel
theorem dX5_wantUsed_40 : decode cX5_wantUsed 40 = .ok (.ifCond .eq 16, 3) := by decide +kernel
theorem dX5_wantUsed_43 : decode cX5_wantUsed 43 = .ok (.aload_n 0, 1) := by decide +kernel
theorem dX5_wantUsed_44 : decode cX5_wantUsed 44 = .ok (.aload_n 1, 1) := by decide +kernel
theorem dX5_wantUsed_45 : decode cX5_wantUsed 45 = .ok (.getfield 93, 3) := by decide +kernel
theorem dX5_wantUsed_48 : decode cX5_wantUsed 48 = .ok (.iload_n 2, 1) := by decide +kernel
theorem dX5_wantUsed_49 : decode cX5_wantUsed 49 = .ok (.iaload, 1) := by decide +kernel
theorem dX5_wantUsed_50 : decode cX5_wantUsed 50 = .ok (.invokevirtual 273, 3) := by decide +kernel
theorem dX5_wantUsed_53 : decode cX5_wantUsed 53 = .ok (.ifCond .ne 7, 3) := by decide +kernel
theorem dX5_wantUsed_56 : decode cX5_wantUsed 56 = .ok (.iload_n 3, 1) := by decide +kernel
theorem dX5_wantUsed_57 : decode cX5_wantUsed 57 = .ok (.ifCond .eq 7, 3) := by decide +kernel
theorem dX5_wantUsed_60 : decode cX5_wantUsed 60 = .ok (.iconst 1, 1) := by decide +kernel
theorem dX5_wantUsed_61 : decode cX5_wantUsed 61 = .ok (.goto 4, 3) := by decide +kernel
theorem dX5_wantUsed_64 : decode cX5_wantUsed 64 = .ok (.iconst 0, 1) := by decide +kernel
theorem dX5_wantUsed_65 : decode cX5_wantUsed 65 = .ok (.ireturn, 1) := by decide +kernel
theorem qw420 : Cond.fieldLink RX5 79 "Gearbox$Steps" "kind" "[I" ∈ gw := mq_1 (i := 162) rfl rfl
theorem qw421 : Cond.fieldLink RX5 82 "Gearbox$Steps" "left" "[I" ∈ gw := mq_1 (i := 176) rfl rfl
theorem qw422 : Cond.fieldLink RX5 93 "Gearbox$Steps" "right" "[I" ∈ gw := mq_1 (i := 185) rfl rfl
theorem qw423 : Cond.methodLink RX5 134 yX1_waysTo ∈ gw := mq_7 (i := 155) rfl rfl
theorem qw424 : Cond.methodLink RX5 138 yX1_wayFrom ∈ gw := mq_7 (i := 156) rfl rfl
theorem qw425 : Cond.fieldLink RX5 282 "Gearbox$Flow" "loop" "[J" ∈ gw := mq_2 (i := 54) rfl rfl
theorem qw426 : Cond.fieldLink RX5 161 "Gearbox$Flow" "end" "[I" ∈ gw := mq_2 (i := 7) rfl rfl
theorem qw427 : Cond.fieldLink RX5 9 "Gearbox$Passes" "giver" "[I" ∈ gw := mq_2 (i := 211) rfl rfl
theorem qw428 : Cond.methodLink RX5 43 yJ7_fill_53178 ∈ gw := mq_7 (i := 144) rfl rfl
theorem qw429 : Cond.fieldLink RX5 15 "Gearbox$Passes" "home" "[I" ∈ gw := mq_2 (i := 212) rfl rfl
theorem qw430 : Cond.fieldLink RX5 49 "Gearbox$Flow" "blocks" "I" ∈ gw := mq_1 (i := 211) rfl rfl
theorem qw431 : Cond.fieldLink RX5 55 "Gearbox$Flow" "firstPhi" "[I" ∈ gw := mq_1 (i := 236) rfl rfl
theorem qw432 : Cond.fieldLink RX5 58 "Gearbox$Flow" "phiGives" "[I" ∈ gw := mq_2 (i := 58) rfl rfl
theorem qw433 : Cond.fieldLink RX5 61 "Gearbox$Flow" "phiNext" "[I" ∈ gw := mq_2 (i := 64) rfl rfl
theorem qw434 : Cond.fieldLink RX5 64 "Gearbox$Flow" "firstStep" "[I" ∈ gw := mq_1 (i := 228) rfl rfl
theorem qw435 : Cond.fieldLink RX5 67 "Gearbox$Flow" "steps" "LGearbox$Steps;" ∈ gw := mq_1 (i := 221) rfl rfl
theorem qw436 : Cond.fieldLink RX5 71 "Gearbox$Steps" "gives" "[I" ∈ gw := mq_1 (i := 169) rfl rfl
theorem qw437 : Cond.fieldLink RX5 76 "Gearbox$Steps" "next" "[I" ∈ gw := mq_1 (i := 190) rfl rfl
theorem qw438 : Cond.code yX5_findGivers cX5_findGivers 5 (Option.none : Option Jvm.ClassFile.FieldType) ∈ gw := mq_7 (i := 214) rfl rfl
theorem qw439 : Cond.methodLink RX5 191 yX5_findGivers ∈ gw := mq_7 (i := 211) rfl rfl
theorem qw440 : Cond.instanceMethod yX5_findGivers ∈ gw := mq_7 (i := 213) rfl rfl
theorem qw441 : Cond.selects RX5 yX5_findGivers yX5_findGivers ∈ gw := mk_s (i := 29) rfl rfl
theorem qw442 : Cond.initialized RX5 ∈ gw := mq_1 (i := 23) rfl rfl
theorem qw443 : Cond.fieldLink RX5 27 "Gearbox$Passes" "marks" "[I" ∈ gw := mq_2 (i := 216) rfl rfl
theorem qw444 : Cond.constant RX5 100 (1000000) ∈ gw := mq_7 (i := 145) rfl rfl
theorem qw445 : Cond.fieldLink RX5 164 "Gearbox$Flow" "endValue" "[I" ∈ gw := mq_2 (i := 15) rfl rfl
theorem qw446 : Cond.code yX11_usesLeft cX11_usesLeft 1 (Option.some Jvm.ClassFile.FieldType.boolean) ∈ gw := mq_8 (i := 43) rfl rfl
theorem qw447 : Cond.static yX11_usesLeft ∈ gw := mq_8 (i := 42) rfl rfl
theorem qw448 : Cond.code yX5_want cX5_want 3 (Option.some Jvm.ClassFile.FieldType.boolean) ∈ gw := mq_8 (i := 60) rfl rfl
theorem qw449 : Cond.methodLink RX5 273 yX5_want ∈ gw := mq_8 (i := 57) rfl rfl
theorem qw450 : Cond.instanceMethod yX5_want ∈ gw := mq_8 (i := 59) rfl rfl
theorem qw451 : Cond.selects RX5 yX5_want yX5_want ∈ gw := mk_s (i := 30) rfl rfl
theorem qw452 : Cond.code yX5_wantUsed cX5_wantUsed 4 (Option.some Jvm.ClassFile.FieldType.boolean) ∈ gw := mq_8 (i := 68) rfl rfl
theorem qw453 : Cond.methodLink RX5 279 yX5_wantUsed ∈ gw := mq_8 (i := 65) rfl rfl
theorem qw454 : Cond.instanceMethod yX5_wantUsed ∈ gw := mq_8 (i := 67) rfl rfl
theorem qw455 : Cond.selects RX5 yX5_wantUsed yX5_wantUsed ∈ gw := mk_s (i := 31) rfl rfl
theorem qw456 : Cond.code yX5_isNumber cX5_isNumber 3 (Option.some Jvm.ClassFile.FieldType.boolean) ∈ gw := mq_8 (i := 2) rfl rfl
theorem qw457 : Cond.methodLink RX5 85 yX5_isNumber ∈ gw := mq_7 (i := 239) rfl rfl
theorem qw458 : Cond.instanceMethod yX5_isNumber ∈ gw := mq_8 (i := 1) rfl rfl
theorem qw459 : Cond.selects RX5 yX5_isNumber yX5_isNumber ∈ gw := mk_s (i := 32) rfl rfl
theorem qw460 : Cond.code yX5_numberOf cX5_numberOf 3 (Option.some Jvm.ClassFile.FieldType.int) ∈ gw := mq_8 (i := 6) rfl rfl
theorem qw461 : Cond.methodLink RX5 89 yX5_numberOf ∈ gw := mq_8 (i := 3) rfl rfl
theorem qw462 : Cond.instanceMethod yX5_numberOf ∈ gw := mq_8 (i := 5) rfl rfl
theorem qw463 : Cond.selects RX5 yX5_numberOf yX5_numberOf ∈ gw := mk_s (i := 33) rfl rfl
theorem qw464 : Cond.code yX5_mayFail cX5_mayFail 5 (Option.some Jvm.ClassFile.FieldType.boolean) ∈ gw := mq_8 (i := 64) rfl rfl
theorem qw465 : Cond.methodLink RX5 276 yX5_mayFail ∈ gw := mq_8 (i := 61) rfl rfl
theorem qw466 : Cond.instanceMethod yX5_mayFail ∈ gw := mq_8 (i := 63) rfl rfl
theorem qw467 : Cond.selects RX5 yX5_mayFail yX5_mayFail ∈ gw := mk_s (i := 34) rfl rfl
theorem qw468 : Cond.code yX1_take cX1_take 3 (Option.some Jvm.ClassFile.FieldType.int) ∈ gw := mq_7 (i := 160) rfl rfl
theorem qw469 : Cond.methodLink RX5 142 yX1_take ∈ gw := mq_7 (i := 157) rfl rfl
theorem qw470 : Cond.instanceMethod yX1_take ∈ gw := mq_7 (i := 158) rfl rfl
theorem qw471 : Cond.selects RX1 yX1_take yX1_take ∈ gw := mq_7 (i := 159) rfl rfl
theorem qw472 : Cond.code yX5_wantInBlock cX5_wantInBlock 7 (Option.some Jvm.ClassFile.FieldType.boolean) ∈ gw := mq_8 (i := 56) rfl rfl
theorem qw473 : Cond.methodLink RX5 263 yX5_wantInBlock ∈ gw := mq_8 (i := 53) rfl rfl
theorem qw474 : Cond.instanceMethod yX5_wantInBlock ∈ gw := mq_8 (i := 55) rfl rfl
theorem qw475 : Cond.selects RX5 yX5_wantInBlock yX5_wantInBlock ∈ gw := mk_s (i := 35) rfl rfl
theorem qw476 : Cond.code yX5_keepUndroppable cX5_keepUndroppable 4 (Option.none : Option Jvm.ClassFile.FieldType) ∈ gw := mq_8 (i := 72) rfl rfl
theorem qw477 : Cond.methodLink RX5 266 yX5_keepUndroppable ∈ gw := mq_8 (i := 69) rfl rfl
theorem qw478 : Cond.instanceMethod yX5_keepUndroppable ∈ gw := mq_8 (i := 71) rfl rfl
theorem qw479 : Cond.selects RX5 yX5_keepUndroppable yX5_keepUndroppable ∈ gw := mk_s (i := 36) rfl rfl
theorem qw480 : Cond.code yX1_countValues cX1_countValues 4 (Option.some Jvm.ClassFile.FieldType.int) ∈ gw := mq_8 (i := 76) rfl rfl
theorem qw481 : Cond.methodLink RX5 269 yX1_countValues ∈ gw := mq_8 (i := 73) rfl rfl
theorem qw482 : Cond.instanceMethod yX1_countValues ∈ gw := mq_8 (i := 74) rfl rfl
theorem qw483 : Cond.selects RX1 yX1_countValues yX1_countValues ∈ gw := mq_8 (i := 75) rfl rfl
theorem qw484 : Cond.code yX1_leaveOut cX1_leaveOut 6 (Option.none : Option Jvm.ClassFile.FieldType) ∈ gw := mq_8 (i := 33) rfl rfl
theorem qw485 : Cond.methodLink RX5 207 yX1_leaveOut ∈ gw := mq_8 (i := 30) rfl rfl
theorem qw486 : Cond.instanceMethod yX1_leaveOut ∈ gw := mq_8 (i := 31) rfl rfl
theorem qw487 : Cond.selects RX1 yX1_leaveOut yX1_leaveOut ∈ gw := mq_8 (i := 32) rfl rfl
def fX5_becomeNumber (p0n : Nat → Nat) (p0w : ST) (p1 : Int32) (p2 : Int32) : Option ST := (if ixb p1 (p0n 2) = true then (lt9 (upw p0w 2 (nn p1) 0) fun (w2 : ST) => (if ixb p1 (p0n 4) = true then (lt9 (upw w2 4 (nn p1) p2) fun (w4 : ST) => (if ixb p1 (p0n 5) = true then (lt9 (upw w4 5 (nn p1) (-1)) fun (w6 : ST) => some w6) else none)) else none)) else none)
set_option maxHeartbeats 16000000 in
set_option maxRecDepth 100000 in
theorem kX5_becomeNumber {zs : ZS} (l : Launch) (dC : Nat → ClassId) (dI : Nat → Nat → Nat) (p0a : Nat → Nat) (p0k : Nat → ClassId) (p0n : Nat → Nat) (p0w : ST) (p1 : Int32) (p2 : Int32) (sz : Nat) (o : ST) (hrun : fX5_becomeNumber p0n p0w p1 p2 = some o) : Met l yX5_becomeNumber (wz yX5_becomeNumber cX5_becomeNumber 3 (Option.none : Option Jvm.ClassFile.FieldType)) ({ frames := 0, cells := 0, slots := 0, locals := 0 } : Room) (va_Pc [.ref (p0a 0), .int p1, .int p2] (PRE zs dC dI (List.flatten ([(oX9 (p0a 0) p0a p0k p0n p0w)] : List va_W)) (List.flatten ([(tX9 p0k)] : List (List (ClassId × FieldType)))) sz)) (va_Qv (fun (_ : Unit) => True) (fun _ t => POST dC dI (List.flatten ([(oX9 (p0a 0) p0a p0k p0n o)] : List va_W)) (List.flatten ([(tX9 p0k)] : List (List (ClassId × FieldType)))) (va_A (List.flatten ([(oX9 (p0a 0) p0a p0k p0n p0w)] : List va_W)) sz) t) (va_A (List.flatten ([(oX9 (p0a 0) p0a p0k p0n p0w)] : List va_W)) sz)) 0 0 (va_A (List.flatten ([(oX9 (p0a 0) p0a p0k p0n p0w)] : List va_W)) sz) := by
  refine Met.ofW (cc := cX5_becomeNumber) (maxL := 3) (ret := (Option.none : Option Jvm.ClassFile.FieldType)) (by decide) rfl ?_
  intro p e s m args below meth c s₁ B hml hv
  obtain ⟨rfl, hsz, hP, hK, hD0, hE⟩ := hv
  have hx := B.exec
  have hb := B.bytes
  have hr := B.returns
  have hts0 := atoms_spec (ws := wz yX5_becomeNumber cX5_becomeNumber 3 (Option.none : Option Jvm.ClassFile.FieldType)) B.pre
  have hts : ∀ w ∈ gw, w.before _ s = true := fun w h => hts0 w (List.mem_cons_of_mem _ h)
  have hown : s.vm.findClass RX5 = some m.cls := findClass_of_methodNamed B.named
  have hlocks := B.notSynchronized
  subst hsz
  have hD := hD0.self (sz := s.heap.size)
  refine gQ9 ?_
  intro Q hQ
  generalize hAe : va_A (List.flatten ([(oX9 (p0a 0) p0a p0k p0n p0w)] : List va_W)) s.heap.size = A at hD hE hQ
  have hA : ∀ q : Nat, s.heap.size ≤ q → A q := fun q h => by rw [← hAe]; exact Or.inr h
  have hS : va_S A s.heap s.heap [] := va_S.rf
  have hP : va_P (dC, dI) cls (List.flatten ([(oX9 (p0a 0) p0a p0k p0n p0w)] : List va_W)) s.heap := hP
  have hl := lv_entry ([.ref (p0a 0), .int p1, .int p2]) (n := 3) (Nat.le_of_ble_eq_true rfl)
  rw [lg_entry_eq]
  generalize (lg_sl ([.ref (p0a 0), .int p1, .int p2]) ++ List.replicate (3 - (lg_sl ([.ref (p0a 0), .int p1, .int p2])).length) Slot.unset).toArray = ls at hl ⊢
  have hl : lv_has ls 3 [(0, .ref (p0a 0)), (1, .int p1), (2, .int p2)] := hl
  obtain ⟨H, hHe⟩ : ∃ H, H = s.heap := ⟨_, rfl⟩
  obtain ⟨locs, hle⟩ : ∃ locs : List Loc, locs = [] := ⟨_, rfl⟩
  rw [← hHe] at hP
  have hS : va_S A s.heap H locs := by rw [hHe, hle]; exact hS
  show W p l e ({ frames := 0, cells := 0, slots := 0, locals := 0 } : Room) s m ([.ref (p0a 0), .int p1, .int p2] : List Value).toArray below meth c s.heap [] 0 0 Q (F0 m 0 ls [])
  rw [← hle]
  refine wH9 hHe ?_
  unfold fX5_becomeNumber at hrun
  refine lv_aload_n hx hb dX5_becomeNumber_0 rfl (lv_at hl 0 rfl) ?_
  refine va_get (D := (dC, dI)) (ci := 3) (v := .ref (p0a 2)) (C := RX9) (T := TX9) (N := 6) hx hb hts i_X9 hown hK hP 0 rfl rfl 1 (by decide) (hts _ qw420) (fun _ h9 => h9) rfl dX5_becomeNumber_1 ?_
  refine lv_iload_n hx hb dX5_becomeNumber_4 rfl (lv_at hl 1 rfl) ?_
  refine lv_iconst (v := 0) hx hb dX5_becomeNumber_5 (by decide) ?_
  obtain ⟨hq1, hrun⟩ := chk9 hrun
  refine va_iast hx hb hK hP hD hS 1 0 rfl rfl (ixb_in hq1) dX5_becomeNumber_6 (fun H locs hP hD hS => ?_)
  have hP : va_P (dC, dI) cls (List.flatten ([(oX9 (p0a 0) p0a p0k p0n (upw p0w 2 (nn p1) 0))] : List va_W)) H := hP
  have hD : va_D A (List.flatten ([(oX9 (p0a 0) p0a p0k p0n (upw p0w 2 (nn p1) 0))] : List va_W)) := hD
  obtain ⟨w2, ew2, hrun⟩ := let9 hrun
  rw [← ew2] at hP hD
  refine lv_aload_n hx hb dX5_becomeNumber_7 rfl (lv_at hl 0 rfl) ?_
  refine va_get (D := (dC, dI)) (ci := 3) (v := .ref (p0a 4)) (C := RX9) (T := TX9) (N := 6) hx hb hts i_X9 hown hK hP 0 rfl rfl 3 (by decide) (hts _ qw421) (fun _ h9 => h9) rfl dX5_becomeNumber_8 ?_
  refine lv_iload_n hx hb dX5_becomeNumber_11 rfl (lv_at hl 1 rfl) ?_
  refine lv_iload_n hx hb dX5_becomeNumber_12 rfl (lv_at hl 2 rfl) ?_
  obtain ⟨hq3, hrun⟩ := chk9 hrun
  refine va_iast hx hb hK hP hD hS 3 2 rfl rfl (ixb_in hq3) dX5_becomeNumber_13 (fun H locs hP hD hS => ?_)
  have hP : va_P (dC, dI) cls (List.flatten ([(oX9 (p0a 0) p0a p0k p0n (upw w2 4 (nn p1) p2))] : List va_W)) H := hP
  have hD : va_D A (List.flatten ([(oX9 (p0a 0) p0a p0k p0n (upw w2 4 (nn p1) p2))] : List va_W)) := hD
  obtain ⟨w4, ew4, hrun⟩ := let9 hrun
  rw [← ew4] at hP hD
  refine lv_aload_n hx hb dX5_becomeNumber_14 rfl (lv_at hl 0 rfl) ?_
  refine va_get (D := (dC, dI)) (ci := 3) (v := .ref (p0a 5)) (C := RX9) (T := TX9) (N := 6) hx hb hts i_X9 hown hK hP 0 rfl rfl 4 (by decide) (hts _ qw422) (fun _ h9 => h9) rfl dX5_becomeNumber_15 ?_
  refine lv_iload_n hx hb dX5_becomeNumber_18 rfl (lv_at hl 1 rfl) ?_
  refine lv_iconst (v := (-1)) hx hb dX5_becomeNumber_19 (by decide) ?_
  obtain ⟨hq5, hrun⟩ := chk9 hrun
  refine va_iast hx hb hK hP hD hS 4 3 rfl rfl (ixb_in hq5) dX5_becomeNumber_20 (fun H locs hP hD hS => ?_)
  have hP : va_P (dC, dI) cls (List.flatten ([(oX9 (p0a 0) p0a p0k p0n (upw w4 5 (nn p1) (-1)))] : List va_W)) H := hP
  have hD : va_D A (List.flatten ([(oX9 (p0a 0) p0a p0k p0n (upw w4 5 (nn p1) (-1)))] : List va_W)) := hD
  obtain ⟨w6, ew6, hrun⟩ := let9 hrun
  rw [← ew6] at hP hD
  have ho9 : w6 = o := Option.some.inj hrun
  have hP9 : va_P (dC, dI) cls (List.flatten ([(oX9 (p0a 0) p0a p0k p0n o)] : List va_W)) H := by first | exact hP | (rw [← ho9]; exact hP)
  have hD9 : va_D A (List.flatten ([(oX9 (p0a 0) p0a p0k p0n o)] : List va_W)) := by first | exact hD | (rw [← ho9]; exact hD)
  subst hQ
  exact W.vret hx hb hr (fun t ht hW => ⟨⟨(), rfl, trivial, ⟨by rw [ht]; exact hP9, va_K.moved hW.alike hK, hD9⟩⟩, hS.F ht⟩) hS.2.2 dX5_becomeNumber_21
def fX5_blockAhead_J44 (kk4 : Int32 → Int32 → Option (Sum Int32 Int32)) (v3_4 : Int32) (v2_44 : Int32) : Option (Sum Int32 Int32) := (kk4 v2_44 (v3_4 + 1))
def fX5_blockAhead_L4 (p0w : ST) (p0l : SL) (p1 : Int32) : Nat → Int32 → Int32 → Option (Sum Int32 Int32)
  | 0 => fun _ _ => none
  | n_4 + 1 => fun v2_4 v3_4 => ((fX1_waysTo p0w p1).bind fun (o_1 : Int32) => (if o_1 ≤ v3_4 then some (Sum.inr v2_4) else ((fX1_wayFrom p0w p1 v3_4).bind fun (o_4 : Int32) => (if ixb p1 60 = true then ((fX11_holds (p0l 17 (nn p1)) o_4).bind fun (o_7 : Int32) => (if o_7 = 0 then (if v2_4 < 0 then (fX5_blockAhead_J44 (fX5_blockAhead_L4 p0w p0l p1 n_4) v3_4 o_4) else some (Sum.inl (-1))) else (fX5_blockAhead_J44 (fX5_blockAhead_L4 p0w p0l p1 n_4) v3_4 v2_4))) else none))))
def fX5_blockAhead_J70 (y0_70 : Int32) : Option Int32 := some y0_70
def fX5_blockAhead_J69  : Option Int32 := (fX5_blockAhead_J70 (-1))
def fX5_blockAhead (p0w : ST) (p0l : SL) (p1 : Int32) : Option Int32 := ((fX5_blockAhead_L4 p0w p0l p1 NF (-1) 0).bind fun (o4 : (Sum Int32 Int32)) => Sum.elim (fun r => some r) (fun (t4 : Int32) => (if t4 < 0 then (fX5_blockAhead_J69) else (if ixb t4 60 = true then (if (p0w 8 (nn t4)) = 22 then (fX5_blockAhead_J70 t4) else (fX5_blockAhead_J69)) else none))) o4)
set_option maxHeartbeats 16000000 in
set_option maxRecDepth 100000 in
theorem kX5_blockAhead {zs : ZS} (l : Launch) (dC : Nat → ClassId) (dI : Nat → Nat → Nat) (p0a : Nat → Nat) (p0k : Nat → ClassId) (p0n : Nat → Nat) (p0w : ST) (p0l : SL) (p1 : Int32) (sz : Nat) (o : Int32) (hrun : fX5_blockAhead p0w p0l p1 = some o) : Met l yX5_blockAhead (wz yX5_blockAhead cX5_blockAhead 5 (Option.some Jvm.ClassFile.FieldType.int)) ({ frames := 1, cells := 0, slots := 0, locals := 22 } : Room) (va_Pc [.ref (p0a 0), .int p1] (PRE zs dC dI (List.flatten ([(oX1 (p0a 0) p0a p0k p0n p0w p0l)] : List va_W)) (List.flatten ([(tX1 p0k)] : List (List (ClassId × FieldType)))) sz)) (va_Qi (fun (r : Int32) (_ : Unit) => r = o) (fun _ t => POST dC dI (List.flatten ([(oX1 (p0a 0) p0a p0k p0n p0w p0l)] : List va_W)) (List.flatten ([(tX1 p0k)] : List (List (ClassId × FieldType)))) (va_A (List.flatten ([(oX1 (p0a 0) p0a p0k p0n p0w p0l)] : List va_W)) sz) t) (va_A (List.flatten ([(oX1 (p0a 0) p0a p0k p0n p0w p0l)] : List va_W)) sz)) 0 0 (va_A (List.flatten ([(oX1 (p0a 0) p0a p0k p0n p0w p0l)] : List va_W)) sz) := by
  refine Met.ofW (cc := cX5_blockAhead) (maxL := 5) (ret := (Option.some Jvm.ClassFile.FieldType.int)) (by decide) rfl ?_
  intro p e s m args below meth c s₁ B hml hv
  obtain ⟨rfl, hsz, hP, hK, hD0, hE⟩ := hv
  have hx := B.exec
  have hb := B.bytes
  have hr := B.returns
  have hts0 := atoms_spec (ws := wz yX5_blockAhead cX5_blockAhead 5 (Option.some Jvm.ClassFile.FieldType.int)) B.pre
  have hts : ∀ w ∈ gw, w.before _ s = true := fun w h => hts0 w (List.mem_cons_of_mem _ h)
  have hown : s.vm.findClass RX5 = some m.cls := findClass_of_methodNamed B.named
  have hlocks := B.notSynchronized
  subst hsz
  have hD := hD0.self (sz := s.heap.size)
  refine gQ9 ?_
  intro Q hQ
  generalize hAe : va_A (List.flatten ([(oX1 (p0a 0) p0a p0k p0n p0w p0l)] : List va_W)) s.heap.size = A at hD hE hQ
  have hA : ∀ q : Nat, s.heap.size ≤ q → A q := fun q h => by rw [← hAe]; exact Or.inr h
  have hS : va_S A s.heap s.heap [] := va_S.rf
  have hP : va_P (dC, dI) cls (List.flatten ([(oX1 (p0a 0) p0a p0k p0n p0w p0l)] : List va_W)) s.heap := hP
  have hl := lv_entry ([.ref (p0a 0), .int p1]) (n := 5) (Nat.le_of_ble_eq_true rfl)
  rw [lg_entry_eq]
  generalize (lg_sl ([.ref (p0a 0), .int p1]) ++ List.replicate (5 - (lg_sl ([.ref (p0a 0), .int p1])).length) Slot.unset).toArray = ls at hl ⊢
  have hl : lv_has ls 5 [(0, .ref (p0a 0)), (1, .int p1)] := hl
  obtain ⟨H, hHe⟩ : ∃ H, H = s.heap := ⟨_, rfl⟩
  obtain ⟨locs, hle⟩ : ∃ locs : List Loc, locs = [] := ⟨_, rfl⟩
  rw [← hHe] at hP
  have hS : va_S A s.heap H locs := by rw [hHe, hle]; exact hS
  show W p l e ({ frames := 1, cells := 0, slots := 0, locals := 22 } : Room) s m ([.ref (p0a 0), .int p1] : List Value).toArray below meth c s.heap [] 0 0 Q (F0 m 0 ls [])
  rw [← hle]
  refine wH9 hHe ?_
  unfold fX5_blockAhead at hrun
  refine lv_iconst (v := (-1)) hx hb dX5_blockAhead_0 (by decide) ?_
  refine lv_istore_n (lv' := [(2, .int (-1)), (0, .ref (p0a 0)), (1, .int p1)]) hx hb dX5_blockAhead_1 rfl hl (by decide) rfl (fun ls hl => ?_)
  refine lv_iconst (v := 0) hx hb dX5_blockAhead_2 (by decide) ?_
  refine lv_istore_n (lv' := [(3, .int 0), (2, .int (-1)), (0, .ref (p0a 0)), (1, .int p1)]) hx hb dX5_blockAhead_3 rfl hl (by decide) rfl (fun ls hl => ?_)
  have L4 : ∀ (n_4 : Nat) (v2_4 : Int32) (v3_4 : Int32) (o4 : (Sum Int32 Int32)) (H : Heap) (locs : List Loc) (ls : Array Slot), (fX5_blockAhead_L4 p0w p0l p1 n_4) v2_4 v3_4 = some o4 → va_P (dC, dI) cls (List.flatten ([(oX1 (p0a 0) p0a p0k p0n p0w p0l)] : List va_W)) H → va_D A (List.flatten ([(oX1 (p0a 0) p0a p0k p0n p0w p0l)] : List va_W)) → va_K (dC, dI) cls (List.flatten ([(tX1 p0k)] : List (List (ClassId × FieldType)))) s → va_S A s.heap H locs → lv_has ls 5 [(0, .ref (p0a 0)), (1, .int p1), (2, .int v2_4), (3, .int v3_4)] → (∀ r, o4 = Sum.inl r → r = o) → (∀ (t4 : Int32), o4 = Sum.inr t4 → ∀ (H : Heap) (locs : List Loc) (ls : Array Slot), va_P (dC, dI) cls (List.flatten ([(oX1 (p0a 0) p0a p0k p0n p0w p0l)] : List va_W)) H → va_D A (List.flatten ([(oX1 (p0a 0) p0a p0k p0n p0w p0l)] : List va_W)) → va_K (dC, dI) cls (List.flatten ([(tX1 p0k)] : List (List (ClassId × FieldType)))) s → va_S A s.heap H locs → lv_has ls 5 [(0, .ref (p0a 0)), (2, .int t4)] → W p l e ({ frames := 1, cells := 0, slots := 0, locals := 22 } : Room) s m ([.ref (p0a 0), .int p1] : List Value).toArray below meth c H locs 0 0 Q (F0 m 50 ls [])) → W p l e ({ frames := 1, cells := 0, slots := 0, locals := 22 } : Room) s m ([.ref (p0a 0), .int p1] : List Value).toArray below meth c H locs 0 0 Q (F0 m 4 ls []) := by
    intro n_4
    induction n_4 with
    | zero => intro v2_4 v3_4 o4 H locs ls hrun; exact (no9 rfl hrun).elim
    | succ n_4 IH4 =>
      intro v2_4 v3_4 o4 H locs ls hrun hP hD hK hS hl hr4 hk4
      unfold fX5_blockAhead_L4 at hrun
      refine lv_iload_n hx hb dX5_blockAhead_4 rfl (lv_at hl 3 rfl) ?_
      refine lv_aload_n hx hb dX5_blockAhead_5 rfl (lv_at hl 0 rfl) ?_
      refine lv_iload_n hx hb dX5_blockAhead_6 rfl (lv_at hl 1 rfl) ?_
      obtain ⟨o_1, hc_1, hrun⟩ := bnd9 hrun
      have hPx : va_P (dC, dI) cls ((List.flatten ([(oX1 (p0a 0) p0a p0k p0n p0w p0l)] : List va_W)) ++ (List.flatten ([] : List va_W))) H := vP_fa (vP_perm hP (bP (List.Perm.refl _)))
      have hDx : va_D A ((List.flatten ([(oX1 (p0a 0) p0a p0k p0n p0w p0l)] : List va_W)) ++ (List.flatten ([] : List va_W))) := vD_fa (vD_perm hD (bP (List.Perm.refl _)))
      have hKx : va_K (dC, dI) cls ((List.flatten ([(tX1 p0k)] : List (List (ClassId × FieldType)))) ++ (List.flatten ([] : List (List (ClassId × FieldType))))) s := vK_fa (vK_perm hK (bP (List.Perm.refl _)))
      have hPc := vP_l hPx
      have hDc := vD_l hDx
      have hKc := vK_l hKx
      have hFc := vfree hDx hS hA
      refine va_calli (va_runV (As := [.int p1]) (rest := [.int v3_4]) ⟨hx, hb, hml, hown, hts⟩ (kX1_waysTo l dC dI (p0a := p0a) (p0k := p0k) (p0n := p0n) (p0w := p0w) (p0l := p0l) (p1 := p1) (sz := _) (o := o_1) (hrun := hc_1)) (cwV 1 hts (gi_V qw423 qw185 qw186 qw126 (gi_z qw183)) rfl rfl rfl (by decide +kernel) ⟨Nat.le_of_ble_eq_true rfl, Nat.le_of_ble_eq_true rfl⟩) ⟨PRE.blind, va_recv hKc hPc (ci := 4) (q0 := 0) rfl rfl, PRE.of hE hS hFc hPc hKc hDc⟩ rfl rfl hl.1 rfl (lv_room (Nat.le_of_ble_eq_true rfl)) dX5_blockAhead_7 ⟨(Nat.le_of_ble_eq_true rfl), (Nat.le_of_ble_eq_true rfl)⟩) hS (fun q _ h => hFc q h) hFc (fun r2 u t H locs ht hvm hw hB hz1 hk1 hS => ?_)
      obtain ⟨b1, b2, b3⟩ := hB
      rw [ht] at b1
      obtain ⟨hP, hD, hK⟩ := JOINC (wc := (List.flatten ([(oX1 (p0a 0) p0a p0k p0n p0w p0l)] : List va_W))) (wr := (List.flatten ([] : List va_W))) (w1 := (List.flatten ([(oX1 (p0a 0) p0a p0k p0n p0w p0l)] : List va_W))) (t1 := (List.flatten ([(tX1 p0k)] : List (List (ClassId × FieldType))))) hPx hDx hKx hk1 hFc b1 (va_K.moved hvm.symm b2) b3
      have hP : va_P (dC, dI) cls (List.flatten ([(oX1 (p0a 0) p0a p0k p0n p0w p0l)] : List va_W)) H := vP_perm (vP_fb hP) (bP (List.Perm.refl _))
      have hD : va_D A (List.flatten ([(oX1 (p0a 0) p0a p0k p0n p0w p0l)] : List va_W)) := vD_perm (vD_fb hD) (bP (List.Perm.refl _))
      have hK : va_K (dC, dI) cls (List.flatten ([(tX1 p0k)] : List (List (ClassId × FieldType)))) s := vK_perm (vK_fb hK) (bP (List.Perm.refl _))
      obtain rfl : o_1 = r2 := hw.symm
      rcases br9 hrun with ⟨hc3, hrun⟩ | ⟨hc3, hrun⟩
      · refine lv_icmp_ge (tgt := 50) hx hb dX5_blockAhead_10 (by decide) (fun _ => ?_) (fun c => absurd hc3 c)
        obtain rfl := (Option.some.inj hrun)
        exact hk4 _ rfl _ _ _ hP hD hK hS (lv_sub hl [0, 2] rfl)
      · refine lv_icmp_ge (tgt := 50) hx hb dX5_blockAhead_10 (by decide) (fun c => absurd c hc3) (fun _ => ?_)
        refine lv_aload_n hx hb dX5_blockAhead_13 rfl (lv_at hl 0 rfl) ?_
        refine lv_iload_n hx hb dX5_blockAhead_14 rfl (lv_at hl 1 rfl) ?_
        refine lv_iload_n hx hb dX5_blockAhead_15 rfl (lv_at hl 3 rfl) ?_
        obtain ⟨o_4, hc_4, hrun⟩ := bnd9 hrun
        have hPx : va_P (dC, dI) cls ((List.flatten ([(oX1 (p0a 0) p0a p0k p0n p0w p0l)] : List va_W)) ++ (List.flatten ([] : List va_W))) H := vP_fa (vP_perm hP (bP (List.Perm.refl _)))
        have hDx : va_D A ((List.flatten ([(oX1 (p0a 0) p0a p0k p0n p0w p0l)] : List va_W)) ++ (List.flatten ([] : List va_W))) := vD_fa (vD_perm hD (bP (List.Perm.refl _)))
        have hKx : va_K (dC, dI) cls ((List.flatten ([(tX1 p0k)] : List (List (ClassId × FieldType)))) ++ (List.flatten ([] : List (List (ClassId × FieldType))))) s := vK_fa (vK_perm hK (bP (List.Perm.refl _)))
        have hPc := vP_l hPx
        have hDc := vD_l hDx
        have hKc := vK_l hKx
        have hFc := vfree hDx hS hA
        refine va_calli (va_runV (As := [.int p1, .int v3_4]) (rest := []) ⟨hx, hb, hml, hown, hts⟩ (kX1_wayFrom l dC dI (p0a := p0a) (p0k := p0k) (p0n := p0n) (p0w := p0w) (p0l := p0l) (p1 := p1) (p2 := v3_4) (sz := _) (o := o_4) (hrun := hc_4)) (cwV 2 hts (gi_V qw424 qw189 qw190 qw126 (gi_z qw187)) rfl rfl rfl (by decide +kernel) ⟨Nat.le_of_ble_eq_true rfl, Nat.le_of_ble_eq_true rfl⟩) ⟨PRE.blind, va_recv hKc hPc (ci := 4) (q0 := 0) rfl rfl, PRE.of hE hS hFc hPc hKc hDc⟩ rfl rfl hl.1 rfl (lv_room (Nat.le_of_ble_eq_true rfl)) dX5_blockAhead_16 ⟨(Nat.le_of_ble_eq_true rfl), (Nat.le_of_ble_eq_true rfl)⟩) hS (fun q _ h => hFc q h) hFc (fun r5 u t H locs ht hvm hw hB hz1 hk1 hS => ?_)
        obtain ⟨b1, b2, b3⟩ := hB
        rw [ht] at b1
        obtain ⟨hP, hD, hK⟩ := JOINC (wc := (List.flatten ([(oX1 (p0a 0) p0a p0k p0n p0w p0l)] : List va_W))) (wr := (List.flatten ([] : List va_W))) (w1 := (List.flatten ([(oX1 (p0a 0) p0a p0k p0n p0w p0l)] : List va_W))) (t1 := (List.flatten ([(tX1 p0k)] : List (List (ClassId × FieldType))))) hPx hDx hKx hk1 hFc b1 (va_K.moved hvm.symm b2) b3
        have hP : va_P (dC, dI) cls (List.flatten ([(oX1 (p0a 0) p0a p0k p0n p0w p0l)] : List va_W)) H := vP_perm (vP_fb hP) (bP (List.Perm.refl _))
        have hD : va_D A (List.flatten ([(oX1 (p0a 0) p0a p0k p0n p0w p0l)] : List va_W)) := vD_perm (vD_fb hD) (bP (List.Perm.refl _))
        have hK : va_K (dC, dI) cls (List.flatten ([(tX1 p0k)] : List (List (ClassId × FieldType)))) s := vK_perm (vK_fb hK) (bP (List.Perm.refl _))
        obtain rfl : o_4 = r5 := hw.symm
        refine lv_istore (lv' := [(4, .int o_4), (0, .ref (p0a 0)), (1, .int p1), (2, .int v2_4), (3, .int v3_4)]) hx hb dX5_blockAhead_19 hl (by decide) rfl (fun ls hl => ?_)
        refine lv_aload_n hx hb dX5_blockAhead_21 rfl (lv_at hl 1 rfl) ?_
        refine va_get (D := (dC, dI)) (ci := 4) (v := .ref (p0a 17)) (C := RX1) (T := TX1) (N := 21) hx hb hts i_X1 hown hK hP 0 rfl rfl 16 (by decide) (hts _ qw425) (fun _ h9 => h9) rfl dX5_blockAhead_22 ?_
        refine lv_iload_n hx hb dX5_blockAhead_25 rfl (lv_at hl 2 rfl) ?_
        obtain ⟨hq6, hrun⟩ := chk9 hrun
        refine va_lald hx hb hK hP 14 13 rfl rfl (ixb_in hq6) dX5_blockAhead_26 ?_
        refine lv_iload hx hb dX5_blockAhead_27 (lv_at hl 0 rfl) ?_
        obtain ⟨o_7, hc_7, hrun⟩ := bnd9 hrun
        have hPx : va_P (dC, dI) cls ((List.flatten ([] : List va_W)) ++ (List.flatten ([(oX1 (p0a 0) p0a p0k p0n p0w p0l)] : List va_W))) H := vP_fa (vP_perm hP (bP (List.Perm.refl _)))
        have hDx : va_D A ((List.flatten ([] : List va_W)) ++ (List.flatten ([(oX1 (p0a 0) p0a p0k p0n p0w p0l)] : List va_W))) := vD_fa (vD_perm hD (bP (List.Perm.refl _)))
        have hKx : va_K (dC, dI) cls ((List.flatten ([] : List (List (ClassId × FieldType)))) ++ (List.flatten ([(tX1 p0k)] : List (List (ClassId × FieldType))))) s := vK_fa (vK_perm hK (bP (List.Perm.refl _)))
        have hPc := vP_l hPx
        have hDc := vD_l hDx
        have hKc := vK_l hKx
        have hFc := vfree hDx hS hA
        refine va_calli (va_runSN (As := [.long (p0l 17 (nn p1)), .int o_4]) (rest := []) ⟨hx, hb, hml, hown, hts⟩ (kX11_holds l dC dI (p0 := (p0l 17 (nn p1))) (p1 := o_4) (sz := _) (o := o_7) (hrun := hc_7)) ⟨(va_cnB 2 hts (gi_z qw192) rfl rfl rfl (hE.nw (List.mem_append_right _ (tbl_7 (i := 146) rfl)) rfl) (hts _ qw129) (by decide +kernel) ⟨Nat.le_of_ble_eq_true rfl, Nat.le_of_ble_eq_true rfl⟩), (hts _ qw193), trivial⟩ ⟨PRE.blind, PRE.of hE hS hFc hPc hKc hDc⟩ rfl rfl hl.1 rfl (lv_room (Nat.le_of_ble_eq_true rfl)) dX5_blockAhead_29 ⟨(Nat.le_of_ble_eq_true rfl), (Nat.le_of_ble_eq_true rfl)⟩) hS (fun q _ h => hFc q h) hFc (fun r8 u t H locs ht hvm hw hB hz1 hk1 hS => ?_)
        obtain ⟨b1, b2, b3⟩ := hB
        rw [ht] at b1
        obtain ⟨hP, hD, hK⟩ := JOINC (wc := (List.flatten ([] : List va_W))) (wr := (List.flatten ([(oX1 (p0a 0) p0a p0k p0n p0w p0l)] : List va_W))) (w1 := (List.flatten ([] : List va_W))) (t1 := (List.flatten ([] : List (List (ClassId × FieldType))))) hPx hDx hKx hk1 hFc b1 (va_K.moved hvm.symm b2) b3
        have hP : va_P (dC, dI) cls (List.flatten ([(oX1 (p0a 0) p0a p0k p0n p0w p0l)] : List va_W)) H := vP_perm (vP_fb hP) (bP (List.Perm.refl _))
        have hD : va_D A (List.flatten ([(oX1 (p0a 0) p0a p0k p0n p0w p0l)] : List va_W)) := vD_perm (vD_fb hD) (bP (List.Perm.refl _))
        have hK : va_K (dC, dI) cls (List.flatten ([(tX1 p0k)] : List (List (ClassId × FieldType)))) s := vK_perm (vK_fb hK) (bP (List.Perm.refl _))
        obtain rfl : o_7 = r8 := hw.symm
        have J44 : ∀ (v2_44 : Int32) (H : Heap) (locs : List Loc) (ls : Array Slot), (fX5_blockAhead_J44 (fX5_blockAhead_L4 p0w p0l p1 n_4) v3_4 v2_44) = some o4 → va_P (dC, dI) cls (List.flatten ([(oX1 (p0a 0) p0a p0k p0n p0w p0l)] : List va_W)) H → va_D A (List.flatten ([(oX1 (p0a 0) p0a p0k p0n p0w p0l)] : List va_W)) → va_K (dC, dI) cls (List.flatten ([(tX1 p0k)] : List (List (ClassId × FieldType)))) s → va_S A s.heap H locs → lv_has ls 5 [(0, .ref (p0a 0)), (1, .int p1), (2, .int v2_44), (3, .int v3_4)] → W p l e ({ frames := 1, cells := 0, slots := 0, locals := 22 } : Room) s m ([.ref (p0a 0), .int p1] : List Value).toArray below meth c H locs 0 0 Q (F0 m 44 ls []) := by
          intro v2_44 H locs ls hrun hP hD hK hS hl 
          unfold fX5_blockAhead_J44 at hrun
          refine lv_iinc (v := (v3_4 + 1)) (lv' := [(3, .int (v3_4 + 1)), (0, .ref (p0a 0)), (1, .int p1), (2, .int v2_44)]) hx hb dX5_blockAhead_44 hl (k := 3) rfl rfl (by decide) rfl (fun ls hl => ?_)
          refine lv_goto (tgt := 4) hx hb dX5_blockAhead_47 (by decide) ?_
          exact IH4 v2_44 (v3_4 + 1) o4 _ _ _ hrun hP hD hK hS (lv_sub hl [1, 2, 3, 0] rfl) hr4 hk4
        rcases br9 hrun with ⟨hc9, hrun⟩ | ⟨hc9, hrun⟩
        · refine lv_if_ne (tgt := 44) hx hb dX5_blockAhead_32 (by decide) (fun c => absurd hc9 c) (fun _ => ?_)
          refine lv_iload_n hx hb dX5_blockAhead_35 rfl (lv_at hl 3 rfl) ?_
          rcases br9 hrun with ⟨hc10, hrun⟩ | ⟨hc10, hrun⟩
          · refine lv_if_lt (tgt := 41) hx hb dX5_blockAhead_36 (by decide) (fun _ => ?_) (fun c => absurd hc10 c)
            refine lv_iload hx hb dX5_blockAhead_41 (lv_at hl 0 rfl) ?_
            refine lv_istore_n (lv' := [(2, .int o_4), (4, .int o_4), (0, .ref (p0a 0)), (1, .int p1), (3, .int v3_4)]) hx hb dX5_blockAhead_43 rfl hl (by decide) rfl (fun ls hl => ?_)
            exact J44 o_4 _ _ _ hrun hP hD hK hS (lv_sub hl [2, 3, 0, 4] rfl)
          · refine lv_if_lt (tgt := 41) hx hb dX5_blockAhead_36 (by decide) (fun c => absurd c hc10) (fun _ => ?_)
            refine lv_iconst (v := (-1)) hx hb dX5_blockAhead_39 (by decide) ?_
            have ho9 : (-1) = o := hr4 _ (Option.some.inj hrun).symm
            have hP9 : va_P (dC, dI) cls (List.flatten ([(oX1 (p0a 0) p0a p0k p0n p0w p0l)] : List va_W)) H := by first | exact hP | (rw [← ho9]; exact hP)
            have hD9 : va_D A (List.flatten ([(oX1 (p0a 0) p0a p0k p0n p0w p0l)] : List va_W)) := by first | exact hD | (rw [← ho9]; exact hD)
            subst hQ
            exact W.iret (v := (-1)) hx hb hr (fun t ht hW => ⟨⟨(-1), (), rfl, (by rw [← ho9]), ⟨by rw [ht]; exact hP9, va_K.moved hW.alike hK, hD9⟩⟩, hS.F ht⟩) hS.2.2 dX5_blockAhead_40
        · refine lv_if_ne (tgt := 44) hx hb dX5_blockAhead_32 (by decide) (fun _ => ?_) (fun c => absurd c hc9)
          exact J44 v2_4 _ _ _ hrun hP hD hK hS (lv_sub hl [1, 2, 3, 4] rfl)
  obtain ⟨o4, hc4, hrun⟩ := bnd9 hrun
  refine L4 NF (-1) 0 o4 _ _ _ hc4 hP hD hK hS (lv_sub hl [2, 3, 1, 0] rfl) (fun r e9 => by subst e9; exact Option.some.inj hrun) ?_
  intro t4 e9
  subst e9
  replace hrun := el9 hrun
  intro H locs ls hP hD hK hS hl
  have hl := hl
  refine lv_iload_n hx hb dX5_blockAhead_50 rfl (lv_at hl 1 rfl) ?_
  have J70 : ∀ (y0_70 : Int32) (H : Heap) (locs : List Loc) (ls : Array Slot), (fX5_blockAhead_J70 y0_70) = some o → va_P (dC, dI) cls (List.flatten ([(oX1 (p0a 0) p0a p0k p0n p0w p0l)] : List va_W)) H → va_D A (List.flatten ([(oX1 (p0a 0) p0a p0k p0n p0w p0l)] : List va_W)) → va_K (dC, dI) cls (List.flatten ([(tX1 p0k)] : List (List (ClassId × FieldType)))) s → va_S A s.heap H locs → lv_has ls 5 [] → W p l e ({ frames := 1, cells := 0, slots := 0, locals := 22 } : Room) s m ([.ref (p0a 0), .int p1] : List Value).toArray below meth c H locs 0 0 Q (F0 m 70 ls [.int y0_70]) := by
    intro y0_70 H locs ls hrun hP hD hK hS hl 
    unfold fX5_blockAhead_J70 at hrun
    have ho9 : y0_70 = o := Option.some.inj hrun
    have hP9 : va_P (dC, dI) cls (List.flatten ([(oX1 (p0a 0) p0a p0k p0n p0w p0l)] : List va_W)) H := by first | exact hP | (rw [← ho9]; exact hP)
    have hD9 : va_D A (List.flatten ([(oX1 (p0a 0) p0a p0k p0n p0w p0l)] : List va_W)) := by first | exact hD | (rw [← ho9]; exact hD)
    subst hQ
    exact W.iret (v := y0_70) hx hb hr (fun t ht hW => ⟨⟨y0_70, (), rfl, (by rw [← ho9]), ⟨by rw [ht]; exact hP9, va_K.moved hW.alike hK, hD9⟩⟩, hS.F ht⟩) hS.2.2 dX5_blockAhead_70
  have J69 : ∀ (H : Heap) (locs : List Loc) (ls : Array Slot), (fX5_blockAhead_J69) = some o → va_P (dC, dI) cls (List.flatten ([(oX1 (p0a 0) p0a p0k p0n p0w p0l)] : List va_W)) H → va_D A (List.flatten ([(oX1 (p0a 0) p0a p0k p0n p0w p0l)] : List va_W)) → va_K (dC, dI) cls (List.flatten ([(tX1 p0k)] : List (List (ClassId × FieldType)))) s → va_S A s.heap H locs → lv_has ls 5 [] → W p l e ({ frames := 1, cells := 0, slots := 0, locals := 22 } : Room) s m ([.ref (p0a 0), .int p1] : List Value).toArray below meth c H locs 0 0 Q (F0 m 69 ls []) := by
    intro  H locs ls hrun hP hD hK hS hl 
    unfold fX5_blockAhead_J69 at hrun
    refine lv_iconst (v := (-1)) hx hb dX5_blockAhead_69 (by decide) ?_
    exact J70 (-1) _ _ _ hrun hP hD hK hS (lv_sub hl [] rfl)
  rcases br9 hrun with ⟨hc11, hrun⟩ | ⟨hc11, hrun⟩
  · refine lv_if_lt (tgt := 69) hx hb dX5_blockAhead_51 (by decide) (fun _ => ?_) (fun c => absurd hc11 c)
    exact J69 _ _ _ hrun hP hD hK hS (lv_sub hl [] rfl)
  · refine lv_if_lt (tgt := 69) hx hb dX5_blockAhead_51 (by decide) (fun c => absurd c hc11) (fun _ => ?_)
    refine lv_aload_n hx hb dX5_blockAhead_54 rfl (lv_at hl 0 rfl) ?_
    refine va_get (D := (dC, dI)) (ci := 4) (v := .ref (p0a 8)) (C := RX1) (T := TX1) (N := 21) hx hb hts i_X1 hown hK hP 0 rfl rfl 7 (by decide) (hts _ qw426) (fun _ h9 => h9) rfl dX5_blockAhead_55 ?_
    refine lv_iload_n hx hb dX5_blockAhead_58 rfl (lv_at hl 1 rfl) ?_
    obtain ⟨hq12, hrun⟩ := chk9 hrun
    refine va_iald hx hb hK hP 5 4 rfl rfl (ixb_in hq12) dX5_blockAhead_59 ?_
    refine lv_bipush (v := 22) hx hb dX5_blockAhead_60 (by decide) ?_
    rcases br9 hrun with ⟨hc13, hrun⟩ | ⟨hc13, hrun⟩
    · refine lv_icmp_ne (tgt := 69) hx hb dX5_blockAhead_62 (by decide) (fun c => absurd hc13 c) (fun _ => ?_)
      refine lv_iload_n hx hb dX5_blockAhead_65 rfl (lv_at hl 1 rfl) ?_
      refine lv_goto (tgt := 70) hx hb dX5_blockAhead_66 (by decide) ?_
      exact J70 t4 _ _ _ hrun hP hD hK hS (lv_sub hl [] rfl)
    · refine lv_icmp_ne (tgt := 69) hx hb dX5_blockAhead_62 (by decide) (fun _ => ?_) (fun c => absurd c hc13)
      exact J69 _ _ _ hrun hP hD hK hS (lv_sub hl [] rfl)
def fX5_findGivers_L33 (p1n : Nat → Nat) (p1w : ST) (v2_18 : Int32) : Nat → Int32 → ST → Option ST
  | 0 => fun _ _ => none
  | n_33 + 1 => fun v3_33 p0w_33 => (if v3_33 < 0 then some p0w_33 else (if ixb v3_33 (p1n 19) = true then (if ixb (p1w 19 (nn v3_33)) 250 = true then (lt9 (upw p0w_33 3 (nn (p1w 19 (nn v3_33))) v2_18) fun (w8 : ST) => (if ixb v3_33 (p1n 20) = true then ((fX5_findGivers_L33 p1n p1w v2_18 n_33) (p1w 20 (nn v3_33)) w8) else none)) else none) else none))
def fX5_findGivers_J102 (kk66 : Int32 → ST → Option ST) (p1_2n : Nat → Nat) (p1_2w : ST) (v3_66 : Int32) (p0w_102 : ST) : Option ST := (if ixb v3_66 (p1_2n 6) = true then (kk66 (p1_2w 6 (nn v3_66)) p0w_102) else none)
def fX5_findGivers_L66 (p1_2n : Nat → Nat) (p1_2w : ST) (v2_18 : Int32) : Nat → Int32 → ST → Option ST
  | 0 => fun _ _ => none
  | n_66 + 1 => fun v3_66 p0w_66 => (if v3_66 < 0 then some p0w_66 else (if ixb v3_66 (p1_2n 3) = true then (if (p1_2w 3 (nn v3_66)) < 0 then (fX5_findGivers_J102 (fX5_findGivers_L66 p1_2n p1_2w v2_18 n_66) p1_2n p1_2w v3_66 p0w_66) else (if ixb (p1_2w 3 (nn v3_66)) 250 = true then (lt9 (upw p0w_66 2 (nn (p1_2w 3 (nn v3_66))) v3_66) fun (w16 : ST) => (if ixb (p1_2w 3 (nn v3_66)) 250 = true then (lt9 (upw w16 3 (nn (p1_2w 3 (nn v3_66))) v2_18) fun (w18 : ST) => (fX5_findGivers_J102 (fX5_findGivers_L66 p1_2n p1_2w v2_18 n_66) p1_2n p1_2w v3_66 w18)) else none)) else none)) else none))
def fX5_findGivers_L18 (p1n : Nat → Nat) (p1w : ST) (p1_2n : Nat → Nat) (p1_2w : ST) : Nat → Int32 → ST → Option ST
  | 0 => fun _ _ => none
  | n_18 + 1 => fun v2_18 p0w_18 => (if (p1w 0 0) ≤ v2_18 then some p0w_18 else (if ixb v2_18 60 = true then ((fX5_findGivers_L33 p1n p1w v2_18 NF (p1w 6 (nn v2_18)) p0w_18).bind fun (o33 : ST) => (if ixb v2_18 60 = true then ((fX5_findGivers_L66 p1_2n p1_2w v2_18 NF (p1w 4 (nn v2_18)) o33).bind fun (o66 : ST) => ((fX5_findGivers_L18 p1n p1w p1_2n p1_2w n_18) (v2_18 + 1) o66)) else none)) else none))
def fX5_findGivers (p0w : ST) (p1n : Nat → Nat) (p1w : ST) (p1_2n : Nat → Nat) (p1_2w : ST) : Option ST := ((fJ7_fill_53178 250 (p0w 2) (-1)).bind fun (o_1 : RI) => ((fJ7_fill_53178 250 ((srw p0w 2 o_1) 3) (-1)).bind fun (o_2 : RI) => ((fX5_findGivers_L18 p1n p1w p1_2n p1_2w NF 0 (srw (srw p0w 2 o_1) 3 o_2)).bind fun (o18 : ST) => some o18)))
set_option maxHeartbeats 16000000 in
set_option maxRecDepth 100000 in
theorem kX5_findGivers {zs : ZS} (l : Launch) (dC : Nat → ClassId) (dI : Nat → Nat → Nat) (p0a : Nat → Nat) (p0k : Nat → ClassId) (p0w : ST) (p0l : SL) (p1a : Nat → Nat) (p1k : Nat → ClassId) (p1n : Nat → Nat) (p1w : ST) (p1l : SL) (p1_2a : Nat → Nat) (p1_2k : Nat → ClassId) (p1_2n : Nat → Nat) (p1_2w : ST) (sz : Nat) (o : ST) (hrun : fX5_findGivers p0w p1n p1w p1_2n p1_2w = some o) : Met l yX5_findGivers (wz yX5_findGivers cX5_findGivers 5 (Option.none : Option Jvm.ClassFile.FieldType)) ({ frames := 1, cells := 0, slots := 0, locals := 23 } : Room) (va_Pc [.ref (p0a 0), .ref (p1a 0)] (PRE zs dC dI (List.flatten ([(oX5 (p0a 0) p0a p0k p0w p0l), (oX1 (p1a 0) p1a p1k p1n p1w p1l), (oX9 (p1a 3) p1_2a p1_2k p1_2n p1_2w)] : List va_W)) (List.flatten ([(tX5 p0k), (tX1 p1k), (tX9 p1_2k)] : List (List (ClassId × FieldType)))) sz)) (va_Qv (fun (_ : Unit) => True) (fun _ t => POST dC dI (List.flatten ([(oX5 (p0a 0) p0a p0k o p0l), (oX1 (p1a 0) p1a p1k p1n p1w p1l), (oX9 (p1a 3) p1_2a p1_2k p1_2n p1_2w)] : List va_W)) (List.flatten ([(tX5 p0k), (tX1 p1k), (tX9 p1_2k)] : List (List (ClassId × FieldType)))) (va_A (List.flatten ([(oX5 (p0a 0) p0a p0k p0w p0l), (oX1 (p1a 0) p1a p1k p1n p1w p1l), (oX9 (p1a 3) p1_2a p1_2k p1_2n p1_2w)] : List va_W)) sz) t) (va_A (List.flatten ([(oX5 (p0a 0) p0a p0k p0w p0l), (oX1 (p1a 0) p1a p1k p1n p1w p1l), (oX9 (p1a 3) p1_2a p1_2k p1_2n p1_2w)] : List va_W)) sz)) 0 0 (va_A (List.flatten ([(oX5 (p0a 0) p0a p0k p0w p0l), (oX1 (p1a 0) p1a p1k p1n p1w p1l), (oX9 (p1a 3) p1_2a p1_2k p1_2n p1_2w)] : List va_W)) sz) := by
  refine Met.ofW (cc := cX5_findGivers) (maxL := 5) (ret := (Option.none : Option Jvm.ClassFile.FieldType)) (by decide) rfl ?_
  intro p e s m args below meth c s₁ B hml hv
  obtain ⟨rfl, hsz, hP, hK, hD0, hE⟩ := hv
  have hx := B.exec
  have hb := B.bytes
  have hr := B.returns
  have hts0 := atoms_spec (ws := wz yX5_findGivers cX5_findGivers 5 (Option.none : Option Jvm.ClassFile.FieldType)) B.pre
  have hts : ∀ w ∈ gw, w.before _ s = true := fun w h => hts0 w (List.mem_cons_of_mem _ h)
  have hown : s.vm.findClass RX5 = some m.cls := findClass_of_methodNamed B.named
  have hlocks := B.notSynchronized
  subst hsz
  have hD := hD0.self (sz := s.heap.size)
  refine gQ9 ?_
  intro Q hQ
  generalize hAe : va_A (List.flatten ([(oX5 (p0a 0) p0a p0k p0w p0l), (oX1 (p1a 0) p1a p1k p1n p1w p1l), (oX9 (p1a 3) p1_2a p1_2k p1_2n p1_2w)] : List va_W)) s.heap.size = A at hD hE hQ
  have hA : ∀ q : Nat, s.heap.size ≤ q → A q := fun q h => by rw [← hAe]; exact Or.inr h
  have hS : va_S A s.heap s.heap [] := va_S.rf
  have hP : va_P (dC, dI) cls (List.flatten ([(oX5 (p0a 0) p0a p0k p0w p0l), (oX1 (p1a 0) p1a p1k p1n p1w p1l), (oX9 (p1a 3) p1_2a p1_2k p1_2n p1_2w)] : List va_W)) s.heap := hP
  have hl := lv_entry ([.ref (p0a 0), .ref (p1a 0)]) (n := 5) (Nat.le_of_ble_eq_true rfl)
  rw [lg_entry_eq]
  generalize (lg_sl ([.ref (p0a 0), .ref (p1a 0)]) ++ List.replicate (5 - (lg_sl ([.ref (p0a 0), .ref (p1a 0)])).length) Slot.unset).toArray = ls at hl ⊢
  have hl : lv_has ls 5 [(0, .ref (p0a 0)), (1, .ref (p1a 0))] := hl
  obtain ⟨H, hHe⟩ : ∃ H, H = s.heap := ⟨_, rfl⟩
  obtain ⟨locs, hle⟩ : ∃ locs : List Loc, locs = [] := ⟨_, rfl⟩
  rw [← hHe] at hP
  have hS : va_S A s.heap H locs := by rw [hHe, hle]; exact hS
  show W p l e ({ frames := 1, cells := 0, slots := 0, locals := 23 } : Room) s m ([.ref (p0a 0), .ref (p1a 0)] : List Value).toArray below meth c s.heap [] 0 0 Q (F0 m 0 ls [])
  rw [← hle]
  refine wH9 hHe ?_
  unfold fX5_findGivers at hrun
  refine lv_aload_n hx hb dX5_findGivers_0 rfl (lv_at hl 0 rfl) ?_
  refine va_get (D := (dC, dI)) (ci := 7) (v := .ref (p0a 2)) (C := RX5) (T := TX5) (N := 12) hx hb hts i_X5 hown hK hP 0 rfl rfl 1 (by decide) (hts _ qw427) (fun _ h9 => h9) rfl dX5_findGivers_1 ?_
  refine lv_iconst (v := (-1)) hx hb dX5_findGivers_4 (by decide) ?_
  obtain ⟨o_1, hc_1, hrun⟩ := bnd9 hrun
  have hP2 : va_P (dC, dI) cls (List.flatten ([[((p0a 2), .inl ((p0k 2), 250, .inl (p0w 2)))], [((p0a 0), .inr (7, [.ref (p0a 1), .ref (p0a 2), .ref (p0a 3), .ref (p0a 4), .ref (p0a 5), .ref (p0a 6), .ref (p0a 7), .long (p0l 0 7), .ref (p0a 9), .ref (p0a 10), .int (p0w 0 10), .ref (p0a 12)])), ((p0a 3), .inl ((p0k 3), 250, .inl (p0w 3))), ((p0a 4), .inl ((p0k 4), 250, .inl (p0w 4))), ((p0a 5), .inl ((p0k 5), 250, .inl (p0w 5))), ((p0a 6), .inl ((p0k 6), 250, .inl (p0w 6))), ((p0a 7), .inl ((p0k 7), 250, .inl (p0w 7))), ((p0a 9), .inl ((p0k 9), 250, .inl (p0w 9))), ((p0a 10), .inl ((p0k 10), 250, .inl (p0w 10))), ((p0a 12), .inl ((p0k 12), 60, .inl (p0w 12)))], (oX1 (p1a 0) p1a p1k p1n p1w p1l), (oX9 (p1a 3) p1_2a p1_2k p1_2n p1_2w)] : List va_W)) H := vP_perm hP ((bP (List.Perm.refl _)).trans (List.Perm.append_right _ (List.perm_middle (a := (((p0a 2), .inl ((p0k 2), 250, .inl (p0w 2))) : Nat × va_E)) (l₁ := ([((p0a 0), .inr (7, [.ref (p0a 1), .ref (p0a 2), .ref (p0a 3), .ref (p0a 4), .ref (p0a 5), .ref (p0a 6), .ref (p0a 7), .long (p0l 0 7), .ref (p0a 9), .ref (p0a 10), .int (p0w 0 10), .ref (p0a 12)]))] : va_W)) (l₂ := ([((p0a 3), .inl ((p0k 3), 250, .inl (p0w 3))), ((p0a 4), .inl ((p0k 4), 250, .inl (p0w 4))), ((p0a 5), .inl ((p0k 5), 250, .inl (p0w 5))), ((p0a 6), .inl ((p0k 6), 250, .inl (p0w 6))), ((p0a 7), .inl ((p0k 7), 250, .inl (p0w 7))), ((p0a 9), .inl ((p0k 9), 250, .inl (p0w 9))), ((p0a 10), .inl ((p0k 10), 250, .inl (p0w 10))), ((p0a 12), .inl ((p0k 12), 60, .inl (p0w 12)))] : va_W)))))
  have hD2 : va_D A (List.flatten ([[((p0a 2), .inl ((p0k 2), 250, .inl (p0w 2)))], [((p0a 0), .inr (7, [.ref (p0a 1), .ref (p0a 2), .ref (p0a 3), .ref (p0a 4), .ref (p0a 5), .ref (p0a 6), .ref (p0a 7), .long (p0l 0 7), .ref (p0a 9), .ref (p0a 10), .int (p0w 0 10), .ref (p0a 12)])), ((p0a 3), .inl ((p0k 3), 250, .inl (p0w 3))), ((p0a 4), .inl ((p0k 4), 250, .inl (p0w 4))), ((p0a 5), .inl ((p0k 5), 250, .inl (p0w 5))), ((p0a 6), .inl ((p0k 6), 250, .inl (p0w 6))), ((p0a 7), .inl ((p0k 7), 250, .inl (p0w 7))), ((p0a 9), .inl ((p0k 9), 250, .inl (p0w 9))), ((p0a 10), .inl ((p0k 10), 250, .inl (p0w 10))), ((p0a 12), .inl ((p0k 12), 60, .inl (p0w 12)))], (oX1 (p1a 0) p1a p1k p1n p1w p1l), (oX9 (p1a 3) p1_2a p1_2k p1_2n p1_2w)] : List va_W)) := vD_perm hD ((bP (List.Perm.refl _)).trans (List.Perm.append_right _ (List.perm_middle (a := (((p0a 2), .inl ((p0k 2), 250, .inl (p0w 2))) : Nat × va_E)) (l₁ := ([((p0a 0), .inr (7, [.ref (p0a 1), .ref (p0a 2), .ref (p0a 3), .ref (p0a 4), .ref (p0a 5), .ref (p0a 6), .ref (p0a 7), .long (p0l 0 7), .ref (p0a 9), .ref (p0a 10), .int (p0w 0 10), .ref (p0a 12)]))] : va_W)) (l₂ := ([((p0a 3), .inl ((p0k 3), 250, .inl (p0w 3))), ((p0a 4), .inl ((p0k 4), 250, .inl (p0w 4))), ((p0a 5), .inl ((p0k 5), 250, .inl (p0w 5))), ((p0a 6), .inl ((p0k 6), 250, .inl (p0w 6))), ((p0a 7), .inl ((p0k 7), 250, .inl (p0w 7))), ((p0a 9), .inl ((p0k 9), 250, .inl (p0w 9))), ((p0a 10), .inl ((p0k 10), 250, .inl (p0w 10))), ((p0a 12), .inl ((p0k 12), 60, .inl (p0w 12)))] : va_W)))))
  have hK2 : va_K (dC, dI) cls (List.flatten ([[((p0k 2), .int)], [((p0k 3), .int), ((p0k 4), .int), ((p0k 5), .int), ((p0k 6), .int), ((p0k 7), .int), ((p0k 9), .int), ((p0k 10), .int), ((p0k 12), .int)], (tX1 p1k), (tX9 p1_2k)] : List (List (ClassId × FieldType)))) s := vK_perm hK ((bP (List.Perm.refl _)).trans (List.Perm.append_right _ (List.perm_middle (a := (((p0k 2), .int) : ClassId × FieldType)) (l₁ := ([] : List (ClassId × FieldType))) (l₂ := ([((p0k 3), .int), ((p0k 4), .int), ((p0k 5), .int), ((p0k 6), .int), ((p0k 7), .int), ((p0k 9), .int), ((p0k 10), .int), ((p0k 12), .int)] : List (ClassId × FieldType))))))
  have hPx : va_P (dC, dI) cls ((List.flatten ([[((p0a 2), .inl ((p0k 2), 250, .inl (p0w 2)))]] : List va_W)) ++ (List.flatten ([[((p0a 0), .inr (7, [.ref (p0a 1), .ref (p0a 2), .ref (p0a 3), .ref (p0a 4), .ref (p0a 5), .ref (p0a 6), .ref (p0a 7), .long (p0l 0 7), .ref (p0a 9), .ref (p0a 10), .int (p0w 0 10), .ref (p0a 12)])), ((p0a 3), .inl ((p0k 3), 250, .inl (p0w 3))), ((p0a 4), .inl ((p0k 4), 250, .inl (p0w 4))), ((p0a 5), .inl ((p0k 5), 250, .inl (p0w 5))), ((p0a 6), .inl ((p0k 6), 250, .inl (p0w 6))), ((p0a 7), .inl ((p0k 7), 250, .inl (p0w 7))), ((p0a 9), .inl ((p0k 9), 250, .inl (p0w 9))), ((p0a 10), .inl ((p0k 10), 250, .inl (p0w 10))), ((p0a 12), .inl ((p0k 12), 60, .inl (p0w 12)))], (oX1 (p1a 0) p1a p1k p1n p1w p1l), (oX9 (p1a 3) p1_2a p1_2k p1_2n p1_2w)] : List va_W))) H := vP_fa (vP_perm hP2 (bP (List.Perm.refl _)))
  have hDx : va_D A ((List.flatten ([[((p0a 2), .inl ((p0k 2), 250, .inl (p0w 2)))]] : List va_W)) ++ (List.flatten ([[((p0a 0), .inr (7, [.ref (p0a 1), .ref (p0a 2), .ref (p0a 3), .ref (p0a 4), .ref (p0a 5), .ref (p0a 6), .ref (p0a 7), .long (p0l 0 7), .ref (p0a 9), .ref (p0a 10), .int (p0w 0 10), .ref (p0a 12)])), ((p0a 3), .inl ((p0k 3), 250, .inl (p0w 3))), ((p0a 4), .inl ((p0k 4), 250, .inl (p0w 4))), ((p0a 5), .inl ((p0k 5), 250, .inl (p0w 5))), ((p0a 6), .inl ((p0k 6), 250, .inl (p0w 6))), ((p0a 7), .inl ((p0k 7), 250, .inl (p0w 7))), ((p0a 9), .inl ((p0k 9), 250, .inl (p0w 9))), ((p0a 10), .inl ((p0k 10), 250, .inl (p0w 10))), ((p0a 12), .inl ((p0k 12), 60, .inl (p0w 12)))], (oX1 (p1a 0) p1a p1k p1n p1w p1l), (oX9 (p1a 3) p1_2a p1_2k p1_2n p1_2w)] : List va_W))) := vD_fa (vD_perm hD2 (bP (List.Perm.refl _)))
  have hKx : va_K (dC, dI) cls ((List.flatten ([[((p0k 2), .int)]] : List (List (ClassId × FieldType)))) ++ (List.flatten ([[((p0k 3), .int), ((p0k 4), .int), ((p0k 5), .int), ((p0k 6), .int), ((p0k 7), .int), ((p0k 9), .int), ((p0k 10), .int), ((p0k 12), .int)], (tX1 p1k), (tX9 p1_2k)] : List (List (ClassId × FieldType))))) s := vK_fa (vK_perm hK2 (bP (List.Perm.refl _)))
  have hPc := vP_l hPx
  have hDc := vD_l hDx
  have hKc := vK_l hKx
  have hFc := vfree hDx hS hA
  refine va_callv (va_runS (As := [.ref (p0a 2), .int (-1)]) (rest := []) ⟨hx, hb, hml, hown, hts⟩ (kJ7_fill_53178 l dC dI (p0a := (p0a 2)) (p0k := (p0k 2)) (p0n := 250) (p0f := (p0w 2)) (p1 := (-1)) (sz := _) (o := o_1) (hrun := hc_1)) (va_cwS 2 hts (gi_S qw428 qw218 qw109 (gi_z qw216)) rfl rfl rfl (by decide +kernel) ⟨Nat.le_of_ble_eq_true rfl, Nat.le_of_ble_eq_true rfl⟩) ⟨PRE.blind, PRE.of hE hS hFc hPc hKc hDc⟩ rfl rfl hl.1 rfl (lv_room (Nat.le_of_ble_eq_true rfl)) dX5_findGivers_5 ⟨(Nat.le_of_ble_eq_true rfl), (Nat.le_of_ble_eq_true rfl)⟩) hS (fun q _ h => hFc q h) hFc (fun u t H locs ht hvm hw hB hz1 hk1 hS => ?_)
  obtain ⟨b1, b2, b3⟩ := hB
  rw [ht] at b1
  obtain ⟨hP, hD, hK⟩ := JOINC (wc := (List.flatten ([[((p0a 2), .inl ((p0k 2), 250, .inl (p0w 2)))]] : List va_W))) (wr := (List.flatten ([[((p0a 0), .inr (7, [.ref (p0a 1), .ref (p0a 2), .ref (p0a 3), .ref (p0a 4), .ref (p0a 5), .ref (p0a 6), .ref (p0a 7), .long (p0l 0 7), .ref (p0a 9), .ref (p0a 10), .int (p0w 0 10), .ref (p0a 12)])), ((p0a 3), .inl ((p0k 3), 250, .inl (p0w 3))), ((p0a 4), .inl ((p0k 4), 250, .inl (p0w 4))), ((p0a 5), .inl ((p0k 5), 250, .inl (p0w 5))), ((p0a 6), .inl ((p0k 6), 250, .inl (p0w 6))), ((p0a 7), .inl ((p0k 7), 250, .inl (p0w 7))), ((p0a 9), .inl ((p0k 9), 250, .inl (p0w 9))), ((p0a 10), .inl ((p0k 10), 250, .inl (p0w 10))), ((p0a 12), .inl ((p0k 12), 60, .inl (p0w 12)))], (oX1 (p1a 0) p1a p1k p1n p1w p1l), (oX9 (p1a 3) p1_2a p1_2k p1_2n p1_2w)] : List va_W))) (w1 := (List.flatten ([[((p0a 2), .inl ((p0k 2), 250, .inl ((srw p0w 2 o_1) 2)))]] : List va_W))) (t1 := (List.flatten ([[((p0k 2), .int)]] : List (List (ClassId × FieldType))))) hPx hDx hKx hk1 hFc b1 (va_K.moved hvm.symm b2) b3
  have hP3 : va_P (dC, dI) cls (List.flatten ([(oX5 (p0a 0) p0a p0k (srw p0w 2 o_1) p0l), (oX1 (p1a 0) p1a p1k p1n p1w p1l), (oX9 (p1a 3) p1_2a p1_2k p1_2n p1_2w)] : List va_W)) H := vP_perm (vP_fb hP) ((bP (List.Perm.refl _)).trans (List.Perm.append_right _ (List.perm_middle (a := (((p0a 2), .inl ((p0k 2), 250, .inl ((srw p0w 2 o_1) 2))) : Nat × va_E)) (l₁ := ([((p0a 0), .inr (7, [.ref (p0a 1), .ref (p0a 2), .ref (p0a 3), .ref (p0a 4), .ref (p0a 5), .ref (p0a 6), .ref (p0a 7), .long (p0l 0 7), .ref (p0a 9), .ref (p0a 10), .int ((srw p0w 2 o_1) 0 10), .ref (p0a 12)]))] : va_W)) (l₂ := ([((p0a 3), .inl ((p0k 3), 250, .inl ((srw p0w 2 o_1) 3))), ((p0a 4), .inl ((p0k 4), 250, .inl ((srw p0w 2 o_1) 4))), ((p0a 5), .inl ((p0k 5), 250, .inl ((srw p0w 2 o_1) 5))), ((p0a 6), .inl ((p0k 6), 250, .inl ((srw p0w 2 o_1) 6))), ((p0a 7), .inl ((p0k 7), 250, .inl ((srw p0w 2 o_1) 7))), ((p0a 9), .inl ((p0k 9), 250, .inl ((srw p0w 2 o_1) 9))), ((p0a 10), .inl ((p0k 10), 250, .inl ((srw p0w 2 o_1) 10))), ((p0a 12), .inl ((p0k 12), 60, .inl ((srw p0w 2 o_1) 12)))] : va_W))).symm))
  have hD3 : va_D A (List.flatten ([(oX5 (p0a 0) p0a p0k (srw p0w 2 o_1) p0l), (oX1 (p1a 0) p1a p1k p1n p1w p1l), (oX9 (p1a 3) p1_2a p1_2k p1_2n p1_2w)] : List va_W)) := vD_perm (vD_fb hD) ((bP (List.Perm.refl _)).trans (List.Perm.append_right _ (List.perm_middle (a := (((p0a 2), .inl ((p0k 2), 250, .inl ((srw p0w 2 o_1) 2))) : Nat × va_E)) (l₁ := ([((p0a 0), .inr (7, [.ref (p0a 1), .ref (p0a 2), .ref (p0a 3), .ref (p0a 4), .ref (p0a 5), .ref (p0a 6), .ref (p0a 7), .long (p0l 0 7), .ref (p0a 9), .ref (p0a 10), .int ((srw p0w 2 o_1) 0 10), .ref (p0a 12)]))] : va_W)) (l₂ := ([((p0a 3), .inl ((p0k 3), 250, .inl ((srw p0w 2 o_1) 3))), ((p0a 4), .inl ((p0k 4), 250, .inl ((srw p0w 2 o_1) 4))), ((p0a 5), .inl ((p0k 5), 250, .inl ((srw p0w 2 o_1) 5))), ((p0a 6), .inl ((p0k 6), 250, .inl ((srw p0w 2 o_1) 6))), ((p0a 7), .inl ((p0k 7), 250, .inl ((srw p0w 2 o_1) 7))), ((p0a 9), .inl ((p0k 9), 250, .inl ((srw p0w 2 o_1) 9))), ((p0a 10), .inl ((p0k 10), 250, .inl ((srw p0w 2 o_1) 10))), ((p0a 12), .inl ((p0k 12), 60, .inl ((srw p0w 2 o_1) 12)))] : va_W))).symm))
  have hK3 : va_K (dC, dI) cls (List.flatten ([(tX5 p0k), (tX1 p1k), (tX9 p1_2k)] : List (List (ClassId × FieldType)))) s := vK_perm (vK_fb hK) ((bP (List.Perm.refl _)).trans (List.Perm.append_right _ (List.perm_middle (a := (((p0k 2), .int) : ClassId × FieldType)) (l₁ := ([] : List (ClassId × FieldType))) (l₂ := ([((p0k 3), .int), ((p0k 4), .int), ((p0k 5), .int), ((p0k 6), .int), ((p0k 7), .int), ((p0k 9), .int), ((p0k 10), .int), ((p0k 12), .int)] : List (ClassId × FieldType)))).symm))
  have hP : va_P (dC, dI) cls (List.flatten ([(oX5 (p0a 0) p0a p0k (srw p0w 2 o_1) p0l), (oX1 (p1a 0) p1a p1k p1n p1w p1l), (oX9 (p1a 3) p1_2a p1_2k p1_2n p1_2w)] : List va_W)) H := vP_perm hP3 (bP (List.Perm.refl _))
  have hD : va_D A (List.flatten ([(oX5 (p0a 0) p0a p0k (srw p0w 2 o_1) p0l), (oX1 (p1a 0) p1a p1k p1n p1w p1l), (oX9 (p1a 3) p1_2a p1_2k p1_2n p1_2w)] : List va_W)) := vD_perm hD3 (bP (List.Perm.refl _))
  have hK : va_K (dC, dI) cls (List.flatten ([(tX5 p0k), (tX1 p1k), (tX9 p1_2k)] : List (List (ClassId × FieldType)))) s := vK_perm hK3 (bP (List.Perm.refl _))
  refine lv_aload_n hx hb dX5_findGivers_8 rfl (lv_at hl 0 rfl) ?_
  refine va_get (D := (dC, dI)) (ci := 7) (v := .ref (p0a 3)) (C := RX5) (T := TX5) (N := 12) hx hb hts i_X5 hown hK hP 0 rfl rfl 2 (by decide) (hts _ qw429) (fun _ h9 => h9) rfl dX5_findGivers_9 ?_
  refine lv_iconst (v := (-1)) hx hb dX5_findGivers_12 (by decide) ?_
  obtain ⟨o_2, hc_2, hrun⟩ := bnd9 hrun
  have hP2 : va_P (dC, dI) cls (List.flatten ([[((p0a 3), .inl ((p0k 3), 250, .inl ((srw p0w 2 o_1) 3)))], [((p0a 0), .inr (7, [.ref (p0a 1), .ref (p0a 2), .ref (p0a 3), .ref (p0a 4), .ref (p0a 5), .ref (p0a 6), .ref (p0a 7), .long (p0l 0 7), .ref (p0a 9), .ref (p0a 10), .int ((srw p0w 2 o_1) 0 10), .ref (p0a 12)])), ((p0a 2), .inl ((p0k 2), 250, .inl ((srw p0w 2 o_1) 2))), ((p0a 4), .inl ((p0k 4), 250, .inl ((srw p0w 2 o_1) 4))), ((p0a 5), .inl ((p0k 5), 250, .inl ((srw p0w 2 o_1) 5))), ((p0a 6), .inl ((p0k 6), 250, .inl ((srw p0w 2 o_1) 6))), ((p0a 7), .inl ((p0k 7), 250, .inl ((srw p0w 2 o_1) 7))), ((p0a 9), .inl ((p0k 9), 250, .inl ((srw p0w 2 o_1) 9))), ((p0a 10), .inl ((p0k 10), 250, .inl ((srw p0w 2 o_1) 10))), ((p0a 12), .inl ((p0k 12), 60, .inl ((srw p0w 2 o_1) 12)))], (oX1 (p1a 0) p1a p1k p1n p1w p1l), (oX9 (p1a 3) p1_2a p1_2k p1_2n p1_2w)] : List va_W)) H := vP_perm hP ((bP (List.Perm.refl _)).trans (List.Perm.append_right _ (List.perm_middle (a := (((p0a 3), .inl ((p0k 3), 250, .inl ((srw p0w 2 o_1) 3))) : Nat × va_E)) (l₁ := ([((p0a 0), .inr (7, [.ref (p0a 1), .ref (p0a 2), .ref (p0a 3), .ref (p0a 4), .ref (p0a 5), .ref (p0a 6), .ref (p0a 7), .long (p0l 0 7), .ref (p0a 9), .ref (p0a 10), .int ((srw p0w 2 o_1) 0 10), .ref (p0a 12)])), ((p0a 2), .inl ((p0k 2), 250, .inl ((srw p0w 2 o_1) 2)))] : va_W)) (l₂ := ([((p0a 4), .inl ((p0k 4), 250, .inl ((srw p0w 2 o_1) 4))), ((p0a 5), .inl ((p0k 5), 250, .inl ((srw p0w 2 o_1) 5))), ((p0a 6), .inl ((p0k 6), 250, .inl ((srw p0w 2 o_1) 6))), ((p0a 7), .inl ((p0k 7), 250, .inl ((srw p0w 2 o_1) 7))), ((p0a 9), .inl ((p0k 9), 250, .inl ((srw p0w 2 o_1) 9))), ((p0a 10), .inl ((p0k 10), 250, .inl ((srw p0w 2 o_1) 10))), ((p0a 12), .inl ((p0k 12), 60, .inl ((srw p0w 2 o_1) 12)))] : va_W)))))
  have hD2 : va_D A (List.flatten ([[((p0a 3), .inl ((p0k 3), 250, .inl ((srw p0w 2 o_1) 3)))], [((p0a 0), .inr (7, [.ref (p0a 1), .ref (p0a 2), .ref (p0a 3), .ref (p0a 4), .ref (p0a 5), .ref (p0a 6), .ref (p0a 7), .long (p0l 0 7), .ref (p0a 9), .ref (p0a 10), .int ((srw p0w 2 o_1) 0 10), .ref (p0a 12)])), ((p0a 2), .inl ((p0k 2), 250, .inl ((srw p0w 2 o_1) 2))), ((p0a 4), .inl ((p0k 4), 250, .inl ((srw p0w 2 o_1) 4))), ((p0a 5), .inl ((p0k 5), 250, .inl ((srw p0w 2 o_1) 5))), ((p0a 6), .inl ((p0k 6), 250, .inl ((srw p0w 2 o_1) 6))), ((p0a 7), .inl ((p0k 7), 250, .inl ((srw p0w 2 o_1) 7))), ((p0a 9), .inl ((p0k 9), 250, .inl ((srw p0w 2 o_1) 9))), ((p0a 10), .inl ((p0k 10), 250, .inl ((srw p0w 2 o_1) 10))), ((p0a 12), .inl ((p0k 12), 60, .inl ((srw p0w 2 o_1) 12)))], (oX1 (p1a 0) p1a p1k p1n p1w p1l), (oX9 (p1a 3) p1_2a p1_2k p1_2n p1_2w)] : List va_W)) := vD_perm hD ((bP (List.Perm.refl _)).trans (List.Perm.append_right _ (List.perm_middle (a := (((p0a 3), .inl ((p0k 3), 250, .inl ((srw p0w 2 o_1) 3))) : Nat × va_E)) (l₁ := ([((p0a 0), .inr (7, [.ref (p0a 1), .ref (p0a 2), .ref (p0a 3), .ref (p0a 4), .ref (p0a 5), .ref (p0a 6), .ref (p0a 7), .long (p0l 0 7), .ref (p0a 9), .ref (p0a 10), .int ((srw p0w 2 o_1) 0 10), .ref (p0a 12)])), ((p0a 2), .inl ((p0k 2), 250, .inl ((srw p0w 2 o_1) 2)))] : va_W)) (l₂ := ([((p0a 4), .inl ((p0k 4), 250, .inl ((srw p0w 2 o_1) 4))), ((p0a 5), .inl ((p0k 5), 250, .inl ((srw p0w 2 o_1) 5))), ((p0a 6), .inl ((p0k 6), 250, .inl ((srw p0w 2 o_1) 6))), ((p0a 7), .inl ((p0k 7), 250, .inl ((srw p0w 2 o_1) 7))), ((p0a 9), .inl ((p0k 9), 250, .inl ((srw p0w 2 o_1) 9))), ((p0a 10), .inl ((p0k 10), 250, .inl ((srw p0w 2 o_1) 10))), ((p0a 12), .inl ((p0k 12), 60, .inl ((srw p0w 2 o_1) 12)))] : va_W)))))
  have hK2 : va_K (dC, dI) cls (List.flatten ([[((p0k 3), .int)], [((p0k 2), .int), ((p0k 4), .int), ((p0k 5), .int), ((p0k 6), .int), ((p0k 7), .int), ((p0k 9), .int), ((p0k 10), .int), ((p0k 12), .int)], (tX1 p1k), (tX9 p1_2k)] : List (List (ClassId × FieldType)))) s := vK_perm hK ((bP (List.Perm.refl _)).trans (List.Perm.append_right _ (List.perm_middle (a := (((p0k 3), .int) : ClassId × FieldType)) (l₁ := ([((p0k 2), .int)] : List (ClassId × FieldType))) (l₂ := ([((p0k 4), .int), ((p0k 5), .int), ((p0k 6), .int), ((p0k 7), .int), ((p0k 9), .int), ((p0k 10), .int), ((p0k 12), .int)] : List (ClassId × FieldType))))))
  have hPx : va_P (dC, dI) cls ((List.flatten ([[((p0a 3), .inl ((p0k 3), 250, .inl ((srw p0w 2 o_1) 3)))]] : List va_W)) ++ (List.flatten ([[((p0a 0), .inr (7, [.ref (p0a 1), .ref (p0a 2), .ref (p0a 3), .ref (p0a 4), .ref (p0a 5), .ref (p0a 6), .ref (p0a 7), .long (p0l 0 7), .ref (p0a 9), .ref (p0a 10), .int ((srw p0w 2 o_1) 0 10), .ref (p0a 12)])), ((p0a 2), .inl ((p0k 2), 250, .inl ((srw p0w 2 o_1) 2))), ((p0a 4), .inl ((p0k 4), 250, .inl ((srw p0w 2 o_1) 4))), ((p0a 5), .inl ((p0k 5), 250, .inl ((srw p0w 2 o_1) 5))), ((p0a 6), .inl ((p0k 6), 250, .inl ((srw p0w 2 o_1) 6))), ((p0a 7), .inl ((p0k 7), 250, .inl ((srw p0w 2 o_1) 7))), ((p0a 9), .inl ((p0k 9), 250, .inl ((srw p0w 2 o_1) 9))), ((p0a 10), .inl ((p0k 10), 250, .inl ((srw p0w 2 o_1) 10))), ((p0a 12), .inl ((p0k 12), 60, .inl ((srw p0w 2 o_1) 12)))], (oX1 (p1a 0) p1a p1k p1n p1w p1l), (oX9 (p1a 3) p1_2a p1_2k p1_2n p1_2w)] : List va_W))) H := vP_fa (vP_perm hP2 (bP (List.Perm.refl _)))
  have hDx : va_D A ((List.flatten ([[((p0a 3), .inl ((p0k 3), 250, .inl ((srw p0w 2 o_1) 3)))]] : List va_W)) ++ (List.flatten ([[((p0a 0), .inr (7, [.ref (p0a 1), .ref (p0a 2), .ref (p0a 3), .ref (p0a 4), .ref (p0a 5), .ref (p0a 6), .ref (p0a 7), .long (p0l 0 7), .ref (p0a 9), .ref (p0a 10), .int ((srw p0w 2 o_1) 0 10), .ref (p0a 12)])), ((p0a 2), .inl ((p0k 2), 250, .inl ((srw p0w 2 o_1) 2))), ((p0a 4), .inl ((p0k 4), 250, .inl ((srw p0w 2 o_1) 4))), ((p0a 5), .inl ((p0k 5), 250, .inl ((srw p0w 2 o_1) 5))), ((p0a 6), .inl ((p0k 6), 250, .inl ((srw p0w 2 o_1) 6))), ((p0a 7), .inl ((p0k 7), 250, .inl ((srw p0w 2 o_1) 7))), ((p0a 9), .inl ((p0k 9), 250, .inl ((srw p0w 2 o_1) 9))), ((p0a 10), .inl ((p0k 10), 250, .inl ((srw p0w 2 o_1) 10))), ((p0a 12), .inl ((p0k 12), 60, .inl ((srw p0w 2 o_1) 12)))], (oX1 (p1a 0) p1a p1k p1n p1w p1l), (oX9 (p1a 3) p1_2a p1_2k p1_2n p1_2w)] : List va_W))) := vD_fa (vD_perm hD2 (bP (List.Perm.refl _)))
  have hKx : va_K (dC, dI) cls ((List.flatten ([[((p0k 3), .int)]] : List (List (ClassId × FieldType)))) ++ (List.flatten ([[((p0k 2), .int), ((p0k 4), .int), ((p0k 5), .int), ((p0k 6), .int), ((p0k 7), .int), ((p0k 9), .int), ((p0k 10), .int), ((p0k 12), .int)], (tX1 p1k), (tX9 p1_2k)] : List (List (ClassId × FieldType))))) s := vK_fa (vK_perm hK2 (bP (List.Perm.refl _)))
  have hPc := vP_l hPx
  have hDc := vD_l hDx
  have hKc := vK_l hKx
  have hFc := vfree hDx hS hA
  refine va_callv (va_runS (As := [.ref (p0a 3), .int (-1)]) (rest := []) ⟨hx, hb, hml, hown, hts⟩ (kJ7_fill_53178 l dC dI (p0a := (p0a 3)) (p0k := (p0k 3)) (p0n := 250) (p0f := ((srw p0w 2 o_1) 3)) (p1 := (-1)) (sz := _) (o := o_2) (hrun := hc_2)) (va_cwS 2 hts (gi_S qw428 qw218 qw109 (gi_z qw216)) rfl rfl rfl (by decide +kernel) ⟨Nat.le_of_ble_eq_true rfl, Nat.le_of_ble_eq_true rfl⟩) ⟨PRE.blind, PRE.of hE hS hFc hPc hKc hDc⟩ rfl rfl hl.1 rfl (lv_room (Nat.le_of_ble_eq_true rfl)) dX5_findGivers_13 ⟨(Nat.le_of_ble_eq_true rfl), (Nat.le_of_ble_eq_true rfl)⟩) hS (fun q _ h => hFc q h) hFc (fun u t H locs ht hvm hw hB hz1 hk1 hS => ?_)
  obtain ⟨b1, b2, b3⟩ := hB
  rw [ht] at b1
  obtain ⟨hP, hD, hK⟩ := JOINC (wc := (List.flatten ([[((p0a 3), .inl ((p0k 3), 250, .inl ((srw p0w 2 o_1) 3)))]] : List va_W))) (wr := (List.flatten ([[((p0a 0), .inr (7, [.ref (p0a 1), .ref (p0a 2), .ref (p0a 3), .ref (p0a 4), .ref (p0a 5), .ref (p0a 6), .ref (p0a 7), .long (p0l 0 7), .ref (p0a 9), .ref (p0a 10), .int ((srw p0w 2 o_1) 0 10), .ref (p0a 12)])), ((p0a 2), .inl ((p0k 2), 250, .inl ((srw p0w 2 o_1) 2))), ((p0a 4), .inl ((p0k 4), 250, .inl ((srw p0w 2 o_1) 4))), ((p0a 5), .inl ((p0k 5), 250, .inl ((srw p0w 2 o_1) 5))), ((p0a 6), .inl ((p0k 6), 250, .inl ((srw p0w 2 o_1) 6))), ((p0a 7), .inl ((p0k 7), 250, .inl ((srw p0w 2 o_1) 7))), ((p0a 9), .inl ((p0k 9), 250, .inl ((srw p0w 2 o_1) 9))), ((p0a 10), .inl ((p0k 10), 250, .inl ((srw p0w 2 o_1) 10))), ((p0a 12), .inl ((p0k 12), 60, .inl ((srw p0w 2 o_1) 12)))], (oX1 (p1a 0) p1a p1k p1n p1w p1l), (oX9 (p1a 3) p1_2a p1_2k p1_2n p1_2w)] : List va_W))) (w1 := (List.flatten ([[((p0a 3), .inl ((p0k 3), 250, .inl ((srw (srw p0w 2 o_1) 3 o_2) 3)))]] : List va_W))) (t1 := (List.flatten ([[((p0k 3), .int)]] : List (List (ClassId × FieldType))))) hPx hDx hKx hk1 hFc b1 (va_K.moved hvm.symm b2) b3
  have hP3 : va_P (dC, dI) cls (List.flatten ([(oX5 (p0a 0) p0a p0k (srw (srw p0w 2 o_1) 3 o_2) p0l), (oX1 (p1a 0) p1a p1k p1n p1w p1l), (oX9 (p1a 3) p1_2a p1_2k p1_2n p1_2w)] : List va_W)) H := vP_perm (vP_fb hP) ((bP (List.Perm.refl _)).trans (List.Perm.append_right _ (List.perm_middle (a := (((p0a 3), .inl ((p0k 3), 250, .inl ((srw (srw p0w 2 o_1) 3 o_2) 3))) : Nat × va_E)) (l₁ := ([((p0a 0), .inr (7, [.ref (p0a 1), .ref (p0a 2), .ref (p0a 3), .ref (p0a 4), .ref (p0a 5), .ref (p0a 6), .ref (p0a 7), .long (p0l 0 7), .ref (p0a 9), .ref (p0a 10), .int ((srw (srw p0w 2 o_1) 3 o_2) 0 10), .ref (p0a 12)])), ((p0a 2), .inl ((p0k 2), 250, .inl ((srw (srw p0w 2 o_1) 3 o_2) 2)))] : va_W)) (l₂ := ([((p0a 4), .inl ((p0k 4), 250, .inl ((srw (srw p0w 2 o_1) 3 o_2) 4))), ((p0a 5), .inl ((p0k 5), 250, .inl ((srw (srw p0w 2 o_1) 3 o_2) 5))), ((p0a 6), .inl ((p0k 6), 250, .inl ((srw (srw p0w 2 o_1) 3 o_2) 6))), ((p0a 7), .inl ((p0k 7), 250, .inl ((srw (srw p0w 2 o_1) 3 o_2) 7))), ((p0a 9), .inl ((p0k 9), 250, .inl ((srw (srw p0w 2 o_1) 3 o_2) 9))), ((p0a 10), .inl ((p0k 10), 250, .inl ((srw (srw p0w 2 o_1) 3 o_2) 10))), ((p0a 12), .inl ((p0k 12), 60, .inl ((srw (srw p0w 2 o_1) 3 o_2) 12)))] : va_W))).symm))
  have hD3 : va_D A (List.flatten ([(oX5 (p0a 0) p0a p0k (srw (srw p0w 2 o_1) 3 o_2) p0l), (oX1 (p1a 0) p1a p1k p1n p1w p1l), (oX9 (p1a 3) p1_2a p1_2k p1_2n p1_2w)] : List va_W)) := vD_perm (vD_fb hD) ((bP (List.Perm.refl _)).trans (List.Perm.append_right _ (List.perm_middle (a := (((p0a 3), .inl ((p0k 3), 250, .inl ((srw (srw p0w 2 o_1) 3 o_2) 3))) : Nat × va_E)) (l₁ := ([((p0a 0), .inr (7, [.ref (p0a 1), .ref (p0a 2), .ref (p0a 3), .ref (p0a 4), .ref (p0a 5), .ref (p0a 6), .ref (p0a 7), .long (p0l 0 7), .ref (p0a 9), .ref (p0a 10), .int ((srw (srw p0w 2 o_1) 3 o_2) 0 10), .ref (p0a 12)])), ((p0a 2), .inl ((p0k 2), 250, .inl ((srw (srw p0w 2 o_1) 3 o_2) 2)))] : va_W)) (l₂ := ([((p0a 4), .inl ((p0k 4), 250, .inl ((srw (srw p0w 2 o_1) 3 o_2) 4))), ((p0a 5), .inl ((p0k 5), 250, .inl ((srw (srw p0w 2 o_1) 3 o_2) 5))), ((p0a 6), .inl ((p0k 6), 250, .inl ((srw (srw p0w 2 o_1) 3 o_2) 6))), ((p0a 7), .inl ((p0k 7), 250, .inl ((srw (srw p0w 2 o_1) 3 o_2) 7))), ((p0a 9), .inl ((p0k 9), 250, .inl ((srw (srw p0w 2 o_1) 3 o_2) 9))), ((p0a 10), .inl ((p0k 10), 250, .inl ((srw (srw p0w 2 o_1) 3 o_2) 10))), ((p0a 12), .inl ((p0k 12), 60, .inl ((srw (srw p0w 2 o_1) 3 o_2) 12)))] : va_W))).symm))
  have hK3 : va_K (dC, dI) cls (List.flatten ([(tX5 p0k), (tX1 p1k), (tX9 p1_2k)] : List (List (ClassId × FieldType)))) s := vK_perm (vK_fb hK) ((bP (List.Perm.refl _)).trans (List.Perm.append_right _ (List.perm_middle (a := (((p0k 3), .int) : ClassId × FieldType)) (l₁ := ([((p0k 2), .int)] : List (ClassId × FieldType))) (l₂ := ([((p0k 4), .int), ((p0k 5), .int), ((p0k 6), .int), ((p0k 7), .int), ((p0k 9), .int), ((p0k 10), .int), ((p0k 12), .int)] : List (ClassId × FieldType)))).symm))
  have hP : va_P (dC, dI) cls (List.flatten ([(oX5 (p0a 0) p0a p0k (srw (srw p0w 2 o_1) 3 o_2) p0l), (oX1 (p1a 0) p1a p1k p1n p1w p1l), (oX9 (p1a 3) p1_2a p1_2k p1_2n p1_2w)] : List va_W)) H := vP_perm hP3 (bP (List.Perm.refl _))
  have hD : va_D A (List.flatten ([(oX5 (p0a 0) p0a p0k (srw (srw p0w 2 o_1) 3 o_2) p0l), (oX1 (p1a 0) p1a p1k p1n p1w p1l), (oX9 (p1a 3) p1_2a p1_2k p1_2n p1_2w)] : List va_W)) := vD_perm hD3 (bP (List.Perm.refl _))
  have hK : va_K (dC, dI) cls (List.flatten ([(tX5 p0k), (tX1 p1k), (tX9 p1_2k)] : List (List (ClassId × FieldType)))) s := vK_perm hK3 (bP (List.Perm.refl _))
  refine lv_iconst (v := 0) hx hb dX5_findGivers_16 (by decide) ?_
  refine lv_istore_n (lv' := [(2, .int 0), (0, .ref (p0a 0)), (1, .ref (p1a 0))]) hx hb dX5_findGivers_17 rfl hl (by decide) rfl (fun ls hl => ?_)
  have L18 : ∀ (n_18 : Nat) (v2_18 : Int32) (p0w_18 : ST) (o18 : ST) (H : Heap) (locs : List Loc) (ls : Array Slot), (fX5_findGivers_L18 p1n p1w p1_2n p1_2w n_18) v2_18 p0w_18 = some o18 → va_P (dC, dI) cls (List.flatten ([(oX5 (p0a 0) p0a p0k p0w_18 p0l), (oX1 (p1a 0) p1a p1k p1n p1w p1l), (oX9 (p1a 3) p1_2a p1_2k p1_2n p1_2w)] : List va_W)) H → va_D A (List.flatten ([(oX5 (p0a 0) p0a p0k p0w_18 p0l), (oX1 (p1a 0) p1a p1k p1n p1w p1l), (oX9 (p1a 3) p1_2a p1_2k p1_2n p1_2w)] : List va_W)) → va_K (dC, dI) cls (List.flatten ([(tX5 p0k), (tX1 p1k), (tX9 p1_2k)] : List (List (ClassId × FieldType)))) s → va_S A s.heap H locs → lv_has ls 5 [(0, .ref (p0a 0)), (1, .ref (p1a 0)), (2, .int v2_18)] → (∀ (H : Heap) (locs : List Loc) (ls : Array Slot), va_P (dC, dI) cls (List.flatten ([(oX5 (p0a 0) p0a p0k o18 p0l), (oX1 (p1a 0) p1a p1k p1n p1w p1l), (oX9 (p1a 3) p1_2a p1_2k p1_2n p1_2w)] : List va_W)) H → va_D A (List.flatten ([(oX5 (p0a 0) p0a p0k o18 p0l), (oX1 (p1a 0) p1a p1k p1n p1w p1l), (oX9 (p1a 3) p1_2a p1_2k p1_2n p1_2w)] : List va_W)) → va_K (dC, dI) cls (List.flatten ([(tX5 p0k), (tX1 p1k), (tX9 p1_2k)] : List (List (ClassId × FieldType)))) s → va_S A s.heap H locs → lv_has ls 5 [] → W p l e ({ frames := 1, cells := 0, slots := 0, locals := 23 } : Room) s m ([.ref (p0a 0), .ref (p1a 0)] : List Value).toArray below meth c H locs 0 0 Q (F0 m 121 ls [])) → W p l e ({ frames := 1, cells := 0, slots := 0, locals := 23 } : Room) s m ([.ref (p0a 0), .ref (p1a 0)] : List Value).toArray below meth c H locs 0 0 Q (F0 m 18 ls []) := by
    intro n_18
    induction n_18 with
    | zero => intro v2_18 p0w_18 o18 H locs ls hrun; exact (no9 rfl hrun).elim
    | succ n_18 IH18 =>
      intro v2_18 p0w_18 o18 H locs ls hrun hP hD hK hS hl hk18
      unfold fX5_findGivers_L18 at hrun
      refine lv_iload_n hx hb dX5_findGivers_18 rfl (lv_at hl 2 rfl) ?_
      refine lv_aload_n hx hb dX5_findGivers_19 rfl (lv_at hl 1 rfl) ?_
      refine va_get (D := (dC, dI)) (ci := 4) (v := .int (p1w 0 0)) (C := RX1) (T := TX1) (N := 21) hx hb hts i_X1 hown hK hP 10 rfl rfl 0 (by decide) (hts _ qw430) (fun _ h9 => h9) rfl dX5_findGivers_20 ?_
      rcases br9 hrun with ⟨hc3, hrun⟩ | ⟨hc3, hrun⟩
      · refine lv_icmp_ge (tgt := 121) hx hb dX5_findGivers_23 (by decide) (fun _ => ?_) (fun c => absurd hc3 c)
        obtain rfl := (Option.some.inj hrun)
        exact hk18 _ _ _ hP hD hK hS (lv_sub hl [] rfl)
      · refine lv_icmp_ge (tgt := 121) hx hb dX5_findGivers_23 (by decide) (fun c => absurd c hc3) (fun _ => ?_)
        refine lv_aload_n hx hb dX5_findGivers_26 rfl (lv_at hl 1 rfl) ?_
        refine va_get (D := (dC, dI)) (ci := 4) (v := .ref (p1a 6)) (C := RX1) (T := TX1) (N := 21) hx hb hts i_X1 hown hK hP 10 rfl rfl 5 (by decide) (hts _ qw431) (fun _ h9 => h9) rfl dX5_findGivers_27 ?_
        refine lv_iload_n hx hb dX5_findGivers_30 rfl (lv_at hl 2 rfl) ?_
        obtain ⟨hq4, hrun⟩ := chk9 hrun
        refine va_iald hx hb hK hP 13 11 rfl rfl (ixb_in hq4) dX5_findGivers_31 ?_
        refine lv_istore_n (lv' := [(3, .int (p1w 6 (nn v2_18))), (0, .ref (p0a 0)), (1, .ref (p1a 0)), (2, .int v2_18)]) hx hb dX5_findGivers_32 rfl hl (by decide) rfl (fun ls hl => ?_)
        have L33 : ∀ (n_33 : Nat) (v3_33 : Int32) (p0w_33 : ST) (o33 : ST) (H : Heap) (locs : List Loc) (ls : Array Slot), (fX5_findGivers_L33 p1n p1w v2_18 n_33) v3_33 p0w_33 = some o33 → va_P (dC, dI) cls (List.flatten ([(oX5 (p0a 0) p0a p0k p0w_33 p0l), (oX1 (p1a 0) p1a p1k p1n p1w p1l), (oX9 (p1a 3) p1_2a p1_2k p1_2n p1_2w)] : List va_W)) H → va_D A (List.flatten ([(oX5 (p0a 0) p0a p0k p0w_33 p0l), (oX1 (p1a 0) p1a p1k p1n p1w p1l), (oX9 (p1a 3) p1_2a p1_2k p1_2n p1_2w)] : List va_W)) → va_K (dC, dI) cls (List.flatten ([(tX5 p0k), (tX1 p1k), (tX9 p1_2k)] : List (List (ClassId × FieldType)))) s → va_S A s.heap H locs → lv_has ls 5 [(0, .ref (p0a 0)), (1, .ref (p1a 0)), (2, .int v2_18), (3, .int v3_33)] → (∀ (H : Heap) (locs : List Loc) (ls : Array Slot), va_P (dC, dI) cls (List.flatten ([(oX5 (p0a 0) p0a p0k o33 p0l), (oX1 (p1a 0) p1a p1k p1n p1w p1l), (oX9 (p1a 3) p1_2a p1_2k p1_2n p1_2w)] : List va_W)) H → va_D A (List.flatten ([(oX5 (p0a 0) p0a p0k o33 p0l), (oX1 (p1a 0) p1a p1k p1n p1w p1l), (oX9 (p1a 3) p1_2a p1_2k p1_2n p1_2w)] : List va_W)) → va_K (dC, dI) cls (List.flatten ([(tX5 p0k), (tX1 p1k), (tX9 p1_2k)] : List (List (ClassId × FieldType)))) s → va_S A s.heap H locs → lv_has ls 5 [(0, .ref (p0a 0)), (1, .ref (p1a 0)), (2, .int v2_18)] → W p l e ({ frames := 1, cells := 0, slots := 0, locals := 23 } : Room) s m ([.ref (p0a 0), .ref (p1a 0)] : List Value).toArray below meth c H locs 0 0 Q (F0 m 59 ls [])) → W p l e ({ frames := 1, cells := 0, slots := 0, locals := 23 } : Room) s m ([.ref (p0a 0), .ref (p1a 0)] : List Value).toArray below meth c H locs 0 0 Q (F0 m 33 ls []) := by
          intro n_33
          induction n_33 with
          | zero => intro v3_33 p0w_33 o33 H locs ls hrun; exact (no9 rfl hrun).elim
          | succ n_33 IH33 =>
            intro v3_33 p0w_33 o33 H locs ls hrun hP hD hK hS hl hk33
            unfold fX5_findGivers_L33 at hrun
            refine lv_iload_n hx hb dX5_findGivers_33 rfl (lv_at hl 3 rfl) ?_
            rcases br9 hrun with ⟨hc5, hrun⟩ | ⟨hc5, hrun⟩
            · refine lv_if_lt (tgt := 59) hx hb dX5_findGivers_34 (by decide) (fun _ => ?_) (fun c => absurd hc5 c)
              obtain rfl := (Option.some.inj hrun)
              exact hk33 _ _ _ hP hD hK hS (lv_sub hl [0, 1, 2] rfl)
            · refine lv_if_lt (tgt := 59) hx hb dX5_findGivers_34 (by decide) (fun c => absurd c hc5) (fun _ => ?_)
              refine lv_aload_n hx hb dX5_findGivers_37 rfl (lv_at hl 0 rfl) ?_
              refine va_get (D := (dC, dI)) (ci := 7) (v := .ref (p0a 3)) (C := RX5) (T := TX5) (N := 12) hx hb hts i_X5 hown hK hP 0 rfl rfl 2 (by decide) (hts _ qw429) (fun _ h9 => h9) rfl dX5_findGivers_38 ?_
              refine lv_aload_n hx hb dX5_findGivers_41 rfl (lv_at hl 1 rfl) ?_
              refine va_get (D := (dC, dI)) (ci := 4) (v := .ref (p1a 19)) (C := RX1) (T := TX1) (N := 21) hx hb hts i_X1 hown hK hP 10 rfl rfl 18 (by decide) (hts _ qw432) (fun _ h9 => h9) rfl dX5_findGivers_42 ?_
              refine lv_iload_n hx hb dX5_findGivers_45 rfl (lv_at hl 3 rfl) ?_
              obtain ⟨hq6, hrun⟩ := chk9 hrun
              refine va_iald hx hb hK hP 25 23 rfl rfl (ixb_in hq6) dX5_findGivers_46 ?_
              refine lv_iload_n hx hb dX5_findGivers_47 rfl (lv_at hl 2 rfl) ?_
              obtain ⟨hq7, hrun⟩ := chk9 hrun
              refine va_iast hx hb hK hP hD hS 2 1 rfl rfl (ixb_in hq7) dX5_findGivers_48 (fun H locs hP hD hS => ?_)
              have hP : va_P (dC, dI) cls (List.flatten ([(oX5 (p0a 0) p0a p0k (upw p0w_33 3 (nn (p1w 19 (nn v3_33))) v2_18) p0l), (oX1 (p1a 0) p1a p1k p1n p1w p1l), (oX9 (p1a 3) p1_2a p1_2k p1_2n p1_2w)] : List va_W)) H := hP
              have hD : va_D A (List.flatten ([(oX5 (p0a 0) p0a p0k (upw p0w_33 3 (nn (p1w 19 (nn v3_33))) v2_18) p0l), (oX1 (p1a 0) p1a p1k p1n p1w p1l), (oX9 (p1a 3) p1_2a p1_2k p1_2n p1_2w)] : List va_W)) := hD
              obtain ⟨w8, ew8, hrun⟩ := let9 hrun
              rw [← ew8] at hP hD
              refine lv_aload_n hx hb dX5_findGivers_49 rfl (lv_at hl 1 rfl) ?_
              refine va_get (D := (dC, dI)) (ci := 4) (v := .ref (p1a 20)) (C := RX1) (T := TX1) (N := 21) hx hb hts i_X1 hown hK hP 10 rfl rfl 19 (by decide) (hts _ qw433) (fun _ h9 => h9) rfl dX5_findGivers_50 ?_
              refine lv_iload_n hx hb dX5_findGivers_53 rfl (lv_at hl 3 rfl) ?_
              obtain ⟨hq9, hrun⟩ := chk9 hrun
              refine va_iald hx hb hK hP 26 24 rfl rfl (ixb_in hq9) dX5_findGivers_54 ?_
              refine lv_istore_n (lv' := [(3, .int (p1w 20 (nn v3_33))), (0, .ref (p0a 0)), (1, .ref (p1a 0)), (2, .int v2_18)]) hx hb dX5_findGivers_55 rfl hl (by decide) rfl (fun ls hl => ?_)
              refine lv_goto (tgt := 33) hx hb dX5_findGivers_56 (by decide) ?_
              exact IH33 (p1w 20 (nn v3_33)) w8 o33 _ _ _ hrun hP hD hK hS (lv_sub hl [1, 2, 3, 0] rfl) hk33
        obtain ⟨o33, hc33, hrun⟩ := bnd9 hrun
        refine L33 NF (p1w 6 (nn v2_18)) p0w_18 o33 _ _ _ hc33 hP hD hK hS (lv_sub hl [1, 2, 3, 0] rfl) ?_
        intro H locs ls hP hD hK hS hl
        have hl := hl
        refine lv_aload_n hx hb dX5_findGivers_59 rfl (lv_at hl 1 rfl) ?_
        refine va_get (D := (dC, dI)) (ci := 4) (v := .ref (p1a 4)) (C := RX1) (T := TX1) (N := 21) hx hb hts i_X1 hown hK hP 10 rfl rfl 3 (by decide) (hts _ qw434) (fun _ h9 => h9) rfl dX5_findGivers_60 ?_
        refine lv_iload_n hx hb dX5_findGivers_63 rfl (lv_at hl 2 rfl) ?_
        obtain ⟨hq10, hrun⟩ := chk9 hrun
        refine va_iald hx hb hK hP 11 9 rfl rfl (ixb_in hq10) dX5_findGivers_64 ?_
        refine lv_istore_n (lv' := [(3, .int (p1w 4 (nn v2_18))), (0, .ref (p0a 0)), (1, .ref (p1a 0)), (2, .int v2_18)]) hx hb dX5_findGivers_65 rfl hl (by decide) rfl (fun ls hl => ?_)
        have L66 : ∀ (n_66 : Nat) (v3_66 : Int32) (p0w_66 : ST) (o66 : ST) (H : Heap) (locs : List Loc) (ls : Array Slot), (fX5_findGivers_L66 p1_2n p1_2w v2_18 n_66) v3_66 p0w_66 = some o66 → va_P (dC, dI) cls (List.flatten ([(oX5 (p0a 0) p0a p0k p0w_66 p0l), (oX1 (p1a 0) p1a p1k p1n p1w p1l), (oX9 (p1a 3) p1_2a p1_2k p1_2n p1_2w)] : List va_W)) H → va_D A (List.flatten ([(oX5 (p0a 0) p0a p0k p0w_66 p0l), (oX1 (p1a 0) p1a p1k p1n p1w p1l), (oX9 (p1a 3) p1_2a p1_2k p1_2n p1_2w)] : List va_W)) → va_K (dC, dI) cls (List.flatten ([(tX5 p0k), (tX1 p1k), (tX9 p1_2k)] : List (List (ClassId × FieldType)))) s → va_S A s.heap H locs → lv_has ls 5 [(0, .ref (p0a 0)), (1, .ref (p1a 0)), (2, .int v2_18), (3, .int v3_66)] → (∀ (H : Heap) (locs : List Loc) (ls : Array Slot), va_P (dC, dI) cls (List.flatten ([(oX5 (p0a 0) p0a p0k o66 p0l), (oX1 (p1a 0) p1a p1k p1n p1w p1l), (oX9 (p1a 3) p1_2a p1_2k p1_2n p1_2w)] : List va_W)) H → va_D A (List.flatten ([(oX5 (p0a 0) p0a p0k o66 p0l), (oX1 (p1a 0) p1a p1k p1n p1w p1l), (oX9 (p1a 3) p1_2a p1_2k p1_2n p1_2w)] : List va_W)) → va_K (dC, dI) cls (List.flatten ([(tX5 p0k), (tX1 p1k), (tX9 p1_2k)] : List (List (ClassId × FieldType)))) s → va_S A s.heap H locs → lv_has ls 5 [(0, .ref (p0a 0)), (1, .ref (p1a 0)), (2, .int v2_18)] → W p l e ({ frames := 1, cells := 0, slots := 0, locals := 23 } : Room) s m ([.ref (p0a 0), .ref (p1a 0)] : List Value).toArray below meth c H locs 0 0 Q (F0 m 115 ls [])) → W p l e ({ frames := 1, cells := 0, slots := 0, locals := 23 } : Room) s m ([.ref (p0a 0), .ref (p1a 0)] : List Value).toArray below meth c H locs 0 0 Q (F0 m 66 ls []) := by
          intro n_66
          induction n_66 with
          | zero => intro v3_66 p0w_66 o66 H locs ls hrun; exact (no9 rfl hrun).elim
          | succ n_66 IH66 =>
            intro v3_66 p0w_66 o66 H locs ls hrun hP hD hK hS hl hk66
            unfold fX5_findGivers_L66 at hrun
            refine lv_iload_n hx hb dX5_findGivers_66 rfl (lv_at hl 3 rfl) ?_
            rcases br9 hrun with ⟨hc11, hrun⟩ | ⟨hc11, hrun⟩
            · refine lv_if_lt (tgt := 115) hx hb dX5_findGivers_67 (by decide) (fun _ => ?_) (fun c => absurd hc11 c)
              obtain rfl := (Option.some.inj hrun)
              exact hk66 _ _ _ hP hD hK hS (lv_sub hl [0, 1, 2] rfl)
            · refine lv_if_lt (tgt := 115) hx hb dX5_findGivers_67 (by decide) (fun c => absurd c hc11) (fun _ => ?_)
              refine lv_aload_n hx hb dX5_findGivers_70 rfl (lv_at hl 1 rfl) ?_
              refine va_get (D := (dC, dI)) (ci := 4) (v := .ref (p1a 3)) (C := RX1) (T := TX1) (N := 21) hx hb hts i_X1 hown hK hP 10 rfl rfl 2 (by decide) (hts _ qw435) (fun _ h9 => h9) rfl dX5_findGivers_71 ?_
              refine va_get (D := (dC, dI)) (ci := 3) (v := .ref (p1_2a 3)) (C := RX9) (T := TX9) (N := 6) hx hb hts i_X9 hown hK hP 28 rfl rfl 2 (by decide) (hts _ qw436) (fun _ h9 => h9) rfl dX5_findGivers_74 ?_
              refine lv_iload_n hx hb dX5_findGivers_77 rfl (lv_at hl 3 rfl) ?_
              obtain ⟨hq12, hrun⟩ := chk9 hrun
              refine va_iald hx hb hK hP 30 27 rfl rfl (ixb_in hq12) dX5_findGivers_78 ?_
              refine lv_istore (lv' := [(4, .int (p1_2w 3 (nn v3_66))), (0, .ref (p0a 0)), (1, .ref (p1a 0)), (2, .int v2_18), (3, .int v3_66)]) hx hb dX5_findGivers_79 hl (by decide) rfl (fun ls hl => ?_)
              refine lv_iload hx hb dX5_findGivers_81 (lv_at hl 0 rfl) ?_
              have J102 : ∀ (p0w_102 : ST) (H : Heap) (locs : List Loc) (ls : Array Slot), (fX5_findGivers_J102 (fX5_findGivers_L66 p1_2n p1_2w v2_18 n_66) p1_2n p1_2w v3_66 p0w_102) = some o66 → va_P (dC, dI) cls (List.flatten ([(oX5 (p0a 0) p0a p0k p0w_102 p0l), (oX1 (p1a 0) p1a p1k p1n p1w p1l), (oX9 (p1a 3) p1_2a p1_2k p1_2n p1_2w)] : List va_W)) H → va_D A (List.flatten ([(oX5 (p0a 0) p0a p0k p0w_102 p0l), (oX1 (p1a 0) p1a p1k p1n p1w p1l), (oX9 (p1a 3) p1_2a p1_2k p1_2n p1_2w)] : List va_W)) → va_K (dC, dI) cls (List.flatten ([(tX5 p0k), (tX1 p1k), (tX9 p1_2k)] : List (List (ClassId × FieldType)))) s → va_S A s.heap H locs → lv_has ls 5 [(0, .ref (p0a 0)), (1, .ref (p1a 0)), (2, .int v2_18), (3, .int v3_66)] → W p l e ({ frames := 1, cells := 0, slots := 0, locals := 23 } : Room) s m ([.ref (p0a 0), .ref (p1a 0)] : List Value).toArray below meth c H locs 0 0 Q (F0 m 102 ls []) := by
                intro p0w_102 H locs ls hrun hP hD hK hS hl 
                unfold fX5_findGivers_J102 at hrun
                refine lv_aload_n hx hb dX5_findGivers_102 rfl (lv_at hl 1 rfl) ?_
                refine va_get (D := (dC, dI)) (ci := 4) (v := .ref (p1a 3)) (C := RX1) (T := TX1) (N := 21) hx hb hts i_X1 hown hK hP 10 rfl rfl 2 (by decide) (hts _ qw435) (fun _ h9 => h9) rfl dX5_findGivers_103 ?_
                refine va_get (D := (dC, dI)) (ci := 3) (v := .ref (p1_2a 6)) (C := RX9) (T := TX9) (N := 6) hx hb hts i_X9 hown hK hP 28 rfl rfl 5 (by decide) (hts _ qw437) (fun _ h9 => h9) rfl dX5_findGivers_106 ?_
                refine lv_iload_n hx hb dX5_findGivers_109 rfl (lv_at hl 3 rfl) ?_
                obtain ⟨hq13, hrun⟩ := chk9 hrun
                refine va_iald hx hb hK hP 33 30 rfl rfl (ixb_in hq13) dX5_findGivers_110 ?_
                refine lv_istore_n (lv' := [(3, .int (p1_2w 6 (nn v3_66))), (0, .ref (p0a 0)), (1, .ref (p1a 0)), (2, .int v2_18)]) hx hb dX5_findGivers_111 rfl hl (by decide) rfl (fun ls hl => ?_)
                refine lv_goto (tgt := 66) hx hb dX5_findGivers_112 (by decide) ?_
                exact IH66 (p1_2w 6 (nn v3_66)) p0w_102 o66 _ _ _ hrun hP hD hK hS (lv_sub hl [1, 2, 3, 0] rfl) hk66
              rcases br9 hrun with ⟨hc14, hrun⟩ | ⟨hc14, hrun⟩
              · refine lv_if_lt (tgt := 102) hx hb dX5_findGivers_83 (by decide) (fun _ => ?_) (fun c => absurd hc14 c)
                exact J102 p0w_66 _ _ _ hrun hP hD hK hS (lv_sub hl [1, 2, 3, 4] rfl)
              · refine lv_if_lt (tgt := 102) hx hb dX5_findGivers_83 (by decide) (fun c => absurd c hc14) (fun _ => ?_)
                refine lv_aload_n hx hb dX5_findGivers_86 rfl (lv_at hl 1 rfl) ?_
                refine va_get (D := (dC, dI)) (ci := 7) (v := .ref (p0a 2)) (C := RX5) (T := TX5) (N := 12) hx hb hts i_X5 hown hK hP 0 rfl rfl 1 (by decide) (hts _ qw427) (fun _ h9 => h9) rfl dX5_findGivers_87 ?_
                refine lv_iload hx hb dX5_findGivers_90 (lv_at hl 0 rfl) ?_
                refine lv_iload_n hx hb dX5_findGivers_92 rfl (lv_at hl 4 rfl) ?_
                obtain ⟨hq15, hrun⟩ := chk9 hrun
                refine va_iast hx hb hK hP hD hS 1 0 rfl rfl (ixb_in hq15) dX5_findGivers_93 (fun H locs hP hD hS => ?_)
                have hP : va_P (dC, dI) cls (List.flatten ([(oX5 (p0a 0) p0a p0k (upw p0w_66 2 (nn (p1_2w 3 (nn v3_66))) v3_66) p0l), (oX1 (p1a 0) p1a p1k p1n p1w p1l), (oX9 (p1a 3) p1_2a p1_2k p1_2n p1_2w)] : List va_W)) H := hP
                have hD : va_D A (List.flatten ([(oX5 (p0a 0) p0a p0k (upw p0w_66 2 (nn (p1_2w 3 (nn v3_66))) v3_66) p0l), (oX1 (p1a 0) p1a p1k p1n p1w p1l), (oX9 (p1a 3) p1_2a p1_2k p1_2n p1_2w)] : List va_W)) := hD
                obtain ⟨w16, ew16, hrun⟩ := let9 hrun
                rw [← ew16] at hP hD
                refine lv_aload_n hx hb dX5_findGivers_94 rfl (lv_at hl 1 rfl) ?_
                refine va_get (D := (dC, dI)) (ci := 7) (v := .ref (p0a 3)) (C := RX5) (T := TX5) (N := 12) hx hb hts i_X5 hown hK hP 0 rfl rfl 2 (by decide) (hts _ qw429) (fun _ h9 => h9) rfl dX5_findGivers_95 ?_
                refine lv_iload hx hb dX5_findGivers_98 (lv_at hl 0 rfl) ?_
                refine lv_iload_n hx hb dX5_findGivers_100 rfl (lv_at hl 3 rfl) ?_
                obtain ⟨hq17, hrun⟩ := chk9 hrun
                refine va_iast hx hb hK hP hD hS 2 1 rfl rfl (ixb_in hq17) dX5_findGivers_101 (fun H locs hP hD hS => ?_)
                have hP : va_P (dC, dI) cls (List.flatten ([(oX5 (p0a 0) p0a p0k (upw w16 3 (nn (p1_2w 3 (nn v3_66))) v2_18) p0l), (oX1 (p1a 0) p1a p1k p1n p1w p1l), (oX9 (p1a 3) p1_2a p1_2k p1_2n p1_2w)] : List va_W)) H := hP
                have hD : va_D A (List.flatten ([(oX5 (p0a 0) p0a p0k (upw w16 3 (nn (p1_2w 3 (nn v3_66))) v2_18) p0l), (oX1 (p1a 0) p1a p1k p1n p1w p1l), (oX9 (p1a 3) p1_2a p1_2k p1_2n p1_2w)] : List va_W)) := hD
                obtain ⟨w18, ew18, hrun⟩ := let9 hrun
                rw [← ew18] at hP hD
                exact J102 w18 _ _ _ hrun hP hD hK hS (lv_sub hl [1, 2, 3, 4] rfl)
        obtain ⟨o66, hc66, hrun⟩ := bnd9 hrun
        refine L66 NF (p1w 4 (nn v2_18)) o33 o66 _ _ _ hc66 hP hD hK hS (lv_sub hl [1, 2, 3, 0] rfl) ?_
        intro H locs ls hP hD hK hS hl
        have hl := hl
        refine lv_iinc (v := (v2_18 + 1)) (lv' := [(2, .int (v2_18 + 1)), (0, .ref (p0a 0)), (1, .ref (p1a 0))]) hx hb dX5_findGivers_115 hl (k := 2) rfl rfl (by decide) rfl (fun ls hl => ?_)
        refine lv_goto (tgt := 18) hx hb dX5_findGivers_118 (by decide) ?_
        exact IH18 (v2_18 + 1) o66 o18 _ _ _ hrun hP hD hK hS (lv_sub hl [1, 2, 0] rfl) hk18
  obtain ⟨o18, hc18, hrun⟩ := bnd9 hrun
  refine L18 NF 0 (srw (srw p0w 2 o_1) 3 o_2) o18 _ _ _ hc18 hP hD hK hS (lv_sub hl [1, 2, 0] rfl) ?_
  intro H locs ls hP hD hK hS hl
  have hl := hl
  have ho9 : o18 = o := Option.some.inj hrun
  have hP9 : va_P (dC, dI) cls (List.flatten ([(oX5 (p0a 0) p0a p0k o p0l), (oX1 (p1a 0) p1a p1k p1n p1w p1l), (oX9 (p1a 3) p1_2a p1_2k p1_2n p1_2w)] : List va_W)) H := by first | exact hP | (rw [← ho9]; exact hP)
  have hD9 : va_D A (List.flatten ([(oX5 (p0a 0) p0a p0k o p0l), (oX1 (p1a 0) p1a p1k p1n p1w p1l), (oX9 (p1a 3) p1_2a p1_2k p1_2n p1_2w)] : List va_W)) := by first | exact hD | (rw [← ho9]; exact hD)
  subst hQ
  exact W.vret hx hb hr (fun t ht hW => ⟨⟨(), rfl, trivial, ⟨by rw [ht]; exact hP9, va_K.moved hW.alike hK, hD9⟩⟩, hS.F ht⟩) hS.2.2 dX5_findGivers_121
def fX11_usesLeft_J28 (y0_28 : Int32) : Option Int32 := (if y0_28 = 0 ∨ y0_28 = 1 then some y0_28 else none)
def fX11_usesLeft_J23  : Option Int32 := (fX11_usesLeft_J28 1)
def fX11_usesLeft_J11 (p0 : Int32) : Option Int32 := (if p0 = 25 then (fX11_usesLeft_J23) else (if p0 = 27 then (fX11_usesLeft_J23) else (fX11_usesLeft_J28 0)))
def fX11_usesLeft (p0 : Int32) : Option Int32 := (if p0 < 1 then (fX11_usesLeft_J11 p0) else (if p0 ≤ 19 then (fX11_usesLeft_J23) else (fX11_usesLeft_J11 p0)))
set_option maxHeartbeats 16000000 in
set_option maxRecDepth 100000 in
theorem kX11_usesLeft {zs : ZS} (l : Launch) (dC : Nat → ClassId) (dI : Nat → Nat → Nat) (p0 : Int32) (sz : Nat) (o : Int32) (hrun : fX11_usesLeft p0 = some o) : Met l yX11_usesLeft (wz yX11_usesLeft cX11_usesLeft 1 (Option.some Jvm.ClassFile.FieldType.boolean)) ({ frames := 0, cells := 0, slots := 0, locals := 0 } : Room) (va_Pc [.int p0] (PRE zs dC dI (List.flatten ([] : List va_W)) (List.flatten ([] : List (List (ClassId × FieldType)))) sz)) (va_Qi (fun (r : Int32) (_ : Unit) => r = o) (fun _ t => POST dC dI (List.flatten ([] : List va_W)) (List.flatten ([] : List (List (ClassId × FieldType)))) (va_A (List.flatten ([] : List va_W)) sz) t) (va_A (List.flatten ([] : List va_W)) sz)) 0 0 (va_A (List.flatten ([] : List va_W)) sz) := by
  refine Met.ofW (cc := cX11_usesLeft) (maxL := 1) (ret := (Option.some Jvm.ClassFile.FieldType.boolean)) (by decide) rfl ?_
  intro p e s m args below meth c s₁ B hml hv
  obtain ⟨rfl, hsz, hP, hK, hD0, hE⟩ := hv
  have hx := B.exec
  have hb := B.bytes
  have hr := B.returns
  have hts0 := atoms_spec (ws := wz yX11_usesLeft cX11_usesLeft 1 (Option.some Jvm.ClassFile.FieldType.boolean)) B.pre
  have hts : ∀ w ∈ gw, w.before _ s = true := fun w h => hts0 w (List.mem_cons_of_mem _ h)
  have hown : s.vm.findClass RX11 = some m.cls := findClass_of_methodNamed B.named
  have hlocks := B.notSynchronized
  subst hsz
  have hD := hD0.self (sz := s.heap.size)
  refine gQ9 ?_
  intro Q hQ
  generalize hAe : va_A (List.flatten ([] : List va_W)) s.heap.size = A at hD hE hQ
  have hA : ∀ q : Nat, s.heap.size ≤ q → A q := fun q h => by rw [← hAe]; exact Or.inr h
  have hS : va_S A s.heap s.heap [] := va_S.rf
  have hP : va_P (dC, dI) cls (List.flatten ([] : List va_W)) s.heap := hP
  have hl := lv_entry ([.int p0]) (n := 1) (Nat.le_of_ble_eq_true rfl)
  rw [lg_entry_eq]
  generalize (lg_sl ([.int p0]) ++ List.replicate (1 - (lg_sl ([.int p0])).length) Slot.unset).toArray = ls at hl ⊢
  have hl : lv_has ls 1 [(0, .int p0)] := hl
  obtain ⟨H, hHe⟩ : ∃ H, H = s.heap := ⟨_, rfl⟩
  obtain ⟨locs, hle⟩ : ∃ locs : List Loc, locs = [] := ⟨_, rfl⟩
  rw [← hHe] at hP
  have hS : va_S A s.heap H locs := by rw [hHe, hle]; exact hS
  show W p l e ({ frames := 0, cells := 0, slots := 0, locals := 0 } : Room) s m ([.int p0] : List Value).toArray below meth c s.heap [] 0 0 Q (F0 m 0 ls [])
  rw [← hle]
  refine wH9 hHe ?_
  unfold fX11_usesLeft at hrun
  refine lv_iload_n hx hb dX11_usesLeft_0 rfl (lv_at hl 0 rfl) ?_
  refine lv_iconst (v := 1) hx hb dX11_usesLeft_1 (by decide) ?_
  have J28 : ∀ (y0_28 : Int32) (H : Heap) (locs : List Loc) (ls : Array Slot), (fX11_usesLeft_J28 y0_28) = some o → va_P (dC, dI) cls (List.flatten ([] : List va_W)) H → va_D A (List.flatten ([] : List va_W)) → va_K (dC, dI) cls (List.flatten ([] : List (List (ClassId × FieldType)))) s → va_S A s.heap H locs → lv_has ls 1 [] → W p l e ({ frames := 0, cells := 0, slots := 0, locals := 0 } : Room) s m ([.int p0] : List Value).toArray below meth c H locs 0 0 Q (F0 m 28 ls [.int y0_28]) := by
    intro y0_28 H locs ls hrun hP hD hK hS hl 
    unfold fX11_usesLeft_J28 at hrun
    obtain ⟨hz9, hrun⟩ := chk9 hrun
    have ho9 : y0_28 = o := Option.some.inj hrun
    have hP9 : va_P (dC, dI) cls (List.flatten ([] : List va_W)) H := by first | exact hP | (rw [← ho9]; exact hP)
    have hD9 : va_D A (List.flatten ([] : List va_W)) := by first | exact hD | (rw [← ho9]; exact hD)
    subst hQ
    exact W.zret (v := y0_28) hx hb hr (bz9 hz9) (fun t ht hW => ⟨⟨y0_28, (), rfl, (by rw [← ho9]), ⟨by rw [ht]; exact hP9, va_K.moved hW.alike hK, hD9⟩⟩, hS.F ht⟩) hS.2.2 dX11_usesLeft_28
  have J23 : ∀ (H : Heap) (locs : List Loc) (ls : Array Slot), (fX11_usesLeft_J23) = some o → va_P (dC, dI) cls (List.flatten ([] : List va_W)) H → va_D A (List.flatten ([] : List va_W)) → va_K (dC, dI) cls (List.flatten ([] : List (List (ClassId × FieldType)))) s → va_S A s.heap H locs → lv_has ls 1 [] → W p l e ({ frames := 0, cells := 0, slots := 0, locals := 0 } : Room) s m ([.int p0] : List Value).toArray below meth c H locs 0 0 Q (F0 m 23 ls []) := by
    intro  H locs ls hrun hP hD hK hS hl 
    unfold fX11_usesLeft_J23 at hrun
    refine lv_iconst (v := 1) hx hb dX11_usesLeft_23 (by decide) ?_
    refine lv_goto (tgt := 28) hx hb dX11_usesLeft_24 (by decide) ?_
    exact J28 1 _ _ _ hrun hP hD hK hS (lv_sub hl [] rfl)
  have J11 : ∀ (H : Heap) (locs : List Loc) (ls : Array Slot), (fX11_usesLeft_J11 p0) = some o → va_P (dC, dI) cls (List.flatten ([] : List va_W)) H → va_D A (List.flatten ([] : List va_W)) → va_K (dC, dI) cls (List.flatten ([] : List (List (ClassId × FieldType)))) s → va_S A s.heap H locs → lv_has ls 1 [(0, .int p0)] → W p l e ({ frames := 0, cells := 0, slots := 0, locals := 0 } : Room) s m ([.int p0] : List Value).toArray below meth c H locs 0 0 Q (F0 m 11 ls []) := by
    intro  H locs ls hrun hP hD hK hS hl 
    unfold fX11_usesLeft_J11 at hrun
    refine lv_iload_n hx hb dX11_usesLeft_11 rfl (lv_at hl 0 rfl) ?_
    refine lv_bipush (v := 25) hx hb dX11_usesLeft_12 (by decide) ?_
    rcases br9 hrun with ⟨hc1, hrun⟩ | ⟨hc1, hrun⟩
    · refine lv_icmp_eq (tgt := 23) hx hb dX11_usesLeft_14 (by decide) (fun _ => ?_) (fun c => absurd hc1 c)
      exact J23 _ _ _ hrun hP hD hK hS (lv_sub hl [] rfl)
    · refine lv_icmp_eq (tgt := 23) hx hb dX11_usesLeft_14 (by decide) (fun c => absurd c hc1) (fun _ => ?_)
      refine lv_iload_n hx hb dX11_usesLeft_17 rfl (lv_at hl 0 rfl) ?_
      refine lv_bipush (v := 27) hx hb dX11_usesLeft_18 (by decide) ?_
      rcases br9 hrun with ⟨hc2, hrun⟩ | ⟨hc2, hrun⟩
      · refine lv_icmp_ne (tgt := 27) hx hb dX11_usesLeft_20 (by decide) (fun c => absurd hc2 c) (fun _ => ?_)
        exact J23 _ _ _ hrun hP hD hK hS (lv_sub hl [] rfl)
      · refine lv_icmp_ne (tgt := 27) hx hb dX11_usesLeft_20 (by decide) (fun _ => ?_) (fun c => absurd c hc2)
        refine lv_iconst (v := 0) hx hb dX11_usesLeft_27 (by decide) ?_
        exact J28 0 _ _ _ hrun hP hD hK hS (lv_sub hl [] rfl)
  rcases br9 hrun with ⟨hc3, hrun⟩ | ⟨hc3, hrun⟩
  · refine lv_icmp_lt (tgt := 11) hx hb dX11_usesLeft_2 (by decide) (fun _ => ?_) (fun c => absurd hc3 c)
    exact J11 _ _ _ hrun hP hD hK hS (lv_sub hl [0] rfl)
  · refine lv_icmp_lt (tgt := 11) hx hb dX11_usesLeft_2 (by decide) (fun c => absurd c hc3) (fun _ => ?_)
    refine lv_iload_n hx hb dX11_usesLeft_5 rfl (lv_at hl 0 rfl) ?_
    refine lv_bipush (v := 19) hx hb dX11_usesLeft_6 (by decide) ?_
    rcases br9 hrun with ⟨hc4, hrun⟩ | ⟨hc4, hrun⟩
    · refine lv_icmp_le (tgt := 23) hx hb dX11_usesLeft_8 (by decide) (fun _ => ?_) (fun c => absurd hc4 c)
      exact J23 _ _ _ hrun hP hD hK hS (lv_sub hl [] rfl)
    · refine lv_icmp_le (tgt := 23) hx hb dX11_usesLeft_8 (by decide) (fun c => absurd c hc4) (fun _ => ?_)
      exact J11 _ _ _ hrun hP hD hK hS (lv_sub hl [0] rfl)
def fX5_want_J14 (p0w : ST) (p1 : Int32) (y0_14 : Int32) : Option (Int32 × ST) := (if ixb p1 250 = true then (lt9 (upw p0w 7 (nn p1) 0) fun (w3 : ST) => (if y0_14 = 0 ∨ y0_14 = 1 then some (y0_14, w3) else none)) else none)
def fX5_want (p0w : ST) (p1 : Int32) : Option (Int32 × ST) := (if ixb p1 250 = true then (if (p0w 7 (nn p1)) = 0 then (fX5_want_J14 p0w p1 0) else (fX5_want_J14 p0w p1 1)) else none)
set_option maxHeartbeats 16000000 in
set_option maxRecDepth 100000 in
theorem kX5_want {zs : ZS} (l : Launch) (dC : Nat → ClassId) (dI : Nat → Nat → Nat) (p0a : Nat → Nat) (p0k : Nat → ClassId) (p0w : ST) (p0l : SL) (p1 : Int32) (sz : Nat) (o : Int32 × ST) (hrun : fX5_want p0w p1 = some o) : Met l yX5_want (wz yX5_want cX5_want 3 (Option.some Jvm.ClassFile.FieldType.boolean)) ({ frames := 0, cells := 0, slots := 0, locals := 0 } : Room) (va_Pc [.ref (p0a 0), .int p1] (PRE zs dC dI (List.flatten ([(oX5 (p0a 0) p0a p0k p0w p0l)] : List va_W)) (List.flatten ([(tX5 p0k)] : List (List (ClassId × FieldType)))) sz)) (va_Qi (fun (r : Int32) (_ : Unit) => r = (o.1)) (fun _ t => POST dC dI (List.flatten ([(oX5 (p0a 0) p0a p0k (o.2) p0l)] : List va_W)) (List.flatten ([(tX5 p0k)] : List (List (ClassId × FieldType)))) (va_A (List.flatten ([(oX5 (p0a 0) p0a p0k p0w p0l)] : List va_W)) sz) t) (va_A (List.flatten ([(oX5 (p0a 0) p0a p0k p0w p0l)] : List va_W)) sz)) 0 0 (va_A (List.flatten ([(oX5 (p0a 0) p0a p0k p0w p0l)] : List va_W)) sz) := by
  refine Met.ofW (cc := cX5_want) (maxL := 3) (ret := (Option.some Jvm.ClassFile.FieldType.boolean)) (by decide) rfl ?_
  intro p e s m args below meth c s₁ B hml hv
  obtain ⟨rfl, hsz, hP, hK, hD0, hE⟩ := hv
  have hx := B.exec
  have hb := B.bytes
  have hr := B.returns
  have hts0 := atoms_spec (ws := wz yX5_want cX5_want 3 (Option.some Jvm.ClassFile.FieldType.boolean)) B.pre
  have hts : ∀ w ∈ gw, w.before _ s = true := fun w h => hts0 w (List.mem_cons_of_mem _ h)
  have hown : s.vm.findClass RX5 = some m.cls := findClass_of_methodNamed B.named
  have hlocks := B.notSynchronized
  subst hsz
  have hD := hD0.self (sz := s.heap.size)
  refine gQ9 ?_
  intro Q hQ
  generalize hAe : va_A (List.flatten ([(oX5 (p0a 0) p0a p0k p0w p0l)] : List va_W)) s.heap.size = A at hD hE hQ
  have hA : ∀ q : Nat, s.heap.size ≤ q → A q := fun q h => by rw [← hAe]; exact Or.inr h
  have hS : va_S A s.heap s.heap [] := va_S.rf
  have hP : va_P (dC, dI) cls (List.flatten ([(oX5 (p0a 0) p0a p0k p0w p0l)] : List va_W)) s.heap := hP
  have hl := lv_entry ([.ref (p0a 0), .int p1]) (n := 3) (Nat.le_of_ble_eq_true rfl)
  rw [lg_entry_eq]
  generalize (lg_sl ([.ref (p0a 0), .int p1]) ++ List.replicate (3 - (lg_sl ([.ref (p0a 0), .int p1])).length) Slot.unset).toArray = ls at hl ⊢
  have hl : lv_has ls 3 [(0, .ref (p0a 0)), (1, .int p1)] := hl
  obtain ⟨H, hHe⟩ : ∃ H, H = s.heap := ⟨_, rfl⟩
  obtain ⟨locs, hle⟩ : ∃ locs : List Loc, locs = [] := ⟨_, rfl⟩
  rw [← hHe] at hP
  have hS : va_S A s.heap H locs := by rw [hHe, hle]; exact hS
  show W p l e ({ frames := 0, cells := 0, slots := 0, locals := 0 } : Room) s m ([.ref (p0a 0), .int p1] : List Value).toArray below meth c s.heap [] 0 0 Q (F0 m 0 ls [])
  rw [← hle]
  refine wH9 hHe ?_
  unfold fX5_want at hrun
  refine lv_aload_n hx hb dX5_want_0 rfl (lv_at hl 0 rfl) ?_
  refine va_get (D := (dC, dI)) (ci := 7) (v := .ref (p0a 7)) (C := RX5) (T := TX5) (N := 12) hx hb hts i_X5 hown hK hP 0 rfl rfl 6 (by decide) (hts _ qw443) (fun _ h9 => h9) rfl dX5_want_1 ?_
  refine lv_iload_n hx hb dX5_want_4 rfl (lv_at hl 1 rfl) ?_
  obtain ⟨hq1, hrun⟩ := chk9 hrun
  refine va_iald hx hb hK hP 6 5 rfl rfl (ixb_in hq1) dX5_want_5 ?_
  have J14 : ∀ (y0_14 : Int32) (H : Heap) (locs : List Loc) (ls : Array Slot), (fX5_want_J14 p0w p1 y0_14) = some o → va_P (dC, dI) cls (List.flatten ([(oX5 (p0a 0) p0a p0k p0w p0l)] : List va_W)) H → va_D A (List.flatten ([(oX5 (p0a 0) p0a p0k p0w p0l)] : List va_W)) → va_K (dC, dI) cls (List.flatten ([(tX5 p0k)] : List (List (ClassId × FieldType)))) s → va_S A s.heap H locs → lv_has ls 3 [(0, .ref (p0a 0)), (1, .int p1)] → W p l e ({ frames := 0, cells := 0, slots := 0, locals := 0 } : Room) s m ([.ref (p0a 0), .int p1] : List Value).toArray below meth c H locs 0 0 Q (F0 m 14 ls [.int y0_14]) := by
    intro y0_14 H locs ls hrun hP hD hK hS hl 
    unfold fX5_want_J14 at hrun
    refine lv_istore_n (lv' := [(2, .int y0_14), (0, .ref (p0a 0)), (1, .int p1)]) hx hb dX5_want_14 rfl hl (by decide) rfl (fun ls hl => ?_)
    refine lv_aload_n hx hb dX5_want_15 rfl (lv_at hl 1 rfl) ?_
    refine va_get (D := (dC, dI)) (ci := 7) (v := .ref (p0a 7)) (C := RX5) (T := TX5) (N := 12) hx hb hts i_X5 hown hK hP 0 rfl rfl 6 (by decide) (hts _ qw443) (fun _ h9 => h9) rfl dX5_want_16 ?_
    refine lv_iload_n hx hb dX5_want_19 rfl (lv_at hl 2 rfl) ?_
    refine lv_iconst (v := 0) hx hb dX5_want_20 (by decide) ?_
    obtain ⟨hq2, hrun⟩ := chk9 hrun
    refine va_iast hx hb hK hP hD hS 6 5 rfl rfl (ixb_in hq2) dX5_want_21 (fun H locs hP hD hS => ?_)
    have hP : va_P (dC, dI) cls (List.flatten ([(oX5 (p0a 0) p0a p0k (upw p0w 7 (nn p1) 0) p0l)] : List va_W)) H := hP
    have hD : va_D A (List.flatten ([(oX5 (p0a 0) p0a p0k (upw p0w 7 (nn p1) 0) p0l)] : List va_W)) := hD
    obtain ⟨w3, ew3, hrun⟩ := let9 hrun
    rw [← ew3] at hP hD
    refine lv_iload_n hx hb dX5_want_22 rfl (lv_at hl 0 rfl) ?_
    obtain ⟨hz9, hrun⟩ := chk9 hrun
    have ho9 : (y0_14, w3) = o := Option.some.inj hrun
    have hP9 : va_P (dC, dI) cls (List.flatten ([(oX5 (p0a 0) p0a p0k (o.2) p0l)] : List va_W)) H := by first | exact hP | (rw [← ho9]; exact hP)
    have hD9 : va_D A (List.flatten ([(oX5 (p0a 0) p0a p0k (o.2) p0l)] : List va_W)) := by first | exact hD | (rw [← ho9]; exact hD)
    subst hQ
    exact W.zret (v := y0_14) hx hb hr (bz9 hz9) (fun t ht hW => ⟨⟨y0_14, (), rfl, (by rw [← ho9]), ⟨by rw [ht]; exact hP9, va_K.moved hW.alike hK, hD9⟩⟩, hS.F ht⟩) hS.2.2 dX5_want_23
  rcases br9 hrun with ⟨hc4, hrun⟩ | ⟨hc4, hrun⟩
  · refine lv_if_eq (tgt := 13) hx hb dX5_want_6 (by decide) (fun _ => ?_) (fun c => absurd hc4 c)
    refine lv_iconst (v := 0) hx hb dX5_want_13 (by decide) ?_
    exact J14 0 _ _ _ hrun hP hD hK hS (lv_sub hl [0, 1] rfl)
  · refine lv_if_eq (tgt := 13) hx hb dX5_want_6 (by decide) (fun c => absurd c hc4) (fun _ => ?_)
    refine lv_iconst (v := 1) hx hb dX5_want_9 (by decide) ?_
    refine lv_goto (tgt := 14) hx hb dX5_want_10 (by decide) ?_
    exact J14 1 _ _ _ hrun hP hD hK hS (lv_sub hl [0, 1] rfl)
def fX5_wantUsed_J65 (y0_65 : Int32) (p0w_65 : ST) : Option (Int32 × ST) := (if y0_65 = 0 ∨ y0_65 = 1 then some (y0_65, p0w_65) else none)
def fX5_wantUsed_J60 (p0w_60 : ST) : Option (Int32 × ST) := (fX5_wantUsed_J65 1 p0w_60)
def fX5_wantUsed_J56 (y0_30 : Int32) (p0w_56 : ST) : Option (Int32 × ST) := (if y0_30 = 0 then (fX5_wantUsed_J65 0 p0w_56) else (fX5_wantUsed_J60 p0w_56))
def fX5_wantUsed_J30 (p1n : Nat → Nat) (p1w : ST) (p2 : Int32) (y0_30 : Int32) (p0w_30 : ST) : Option (Int32 × ST) := (if ixb p2 (p1n 2) = true then ((fX11_usesRight (p1w 2 (nn p2))).bind fun (o_5 : Int32) => (if o_5 = 0 then (fX5_wantUsed_J56 y0_30 p0w_30) else (if ixb p2 (p1n 5) = true then ((fX5_want p0w_30 (p1w 5 (nn p2))).bind fun (o_10 : Int32 × ST) => (if (o_10.1) = 0 then (fX5_wantUsed_J56 y0_30 (o_10.2)) else (fX5_wantUsed_J60 (o_10.2)))) else none))) else none)
def fX5_wantUsed_J29 (p1n : Nat → Nat) (p1w : ST) (p2 : Int32) (p0w_29 : ST) : Option (Int32 × ST) := (fX5_wantUsed_J30 p1n p1w p2 0 p0w_29)
def fX5_wantUsed (p0w : ST) (p1n : Nat → Nat) (p1w : ST) (p2 : Int32) : Option (Int32 × ST) := (if ixb p2 (p1n 2) = true then ((fX11_usesLeft (p1w 2 (nn p2))).bind fun (o_2 : Int32) => (if o_2 = 0 then (fX5_wantUsed_J29 p1n p1w p2 p0w) else (if ixb p2 (p1n 4) = true then ((fX5_want p0w (p1w 4 (nn p2))).bind fun (o_15 : Int32 × ST) => (if (o_15.1) = 0 then (fX5_wantUsed_J29 p1n p1w p2 (o_15.2)) else (fX5_wantUsed_J30 p1n p1w p2 1 (o_15.2)))) else none))) else none)
set_option maxHeartbeats 16000000 in
set_option maxRecDepth 100000 in
theorem kX5_wantUsed {zs : ZS} (l : Launch) (dC : Nat → ClassId) (dI : Nat → Nat → Nat) (p0a : Nat → Nat) (p0k : Nat → ClassId) (p0w : ST) (p0l : SL) (p1a : Nat → Nat) (p1k : Nat → ClassId) (p1n : Nat → Nat) (p1w : ST) (p2 : Int32) (sz : Nat) (o : Int32 × ST) (hrun : fX5_wantUsed p0w p1n p1w p2 = some o) : Met l yX5_wantUsed (wz yX5_wantUsed cX5_wantUsed 4 (Option.some Jvm.ClassFile.FieldType.boolean)) ({ frames := 2, cells := 0, slots := 0, locals := 40 } : Room) (va_Pc [.ref (p0a 0), .ref (p1a 0), .int p2] (PRE zs dC dI (List.flatten ([(oX5 (p0a 0) p0a p0k p0w p0l), (oX9 (p1a 0) p1a p1k p1n p1w)] : List va_W)) (List.flatten ([(tX5 p0k), (tX9 p1k)] : List (List (ClassId × FieldType)))) sz)) (va_Qi (fun (r : Int32) (_ : Unit) => r = (o.1)) (fun _ t => POST dC dI (List.flatten ([(oX5 (p0a 0) p0a p0k (o.2) p0l), (oX9 (p1a 0) p1a p1k p1n p1w)] : List va_W)) (List.flatten ([(tX5 p0k), (tX9 p1k)] : List (List (ClassId × FieldType)))) (va_A (List.flatten ([(oX5 (p0a 0) p0a p0k p0w p0l), (oX9 (p1a 0) p1a p1k p1n p1w)] : List va_W)) sz) t) (va_A (List.flatten ([(oX5 (p0a 0) p0a p0k p0w p0l), (oX9 (p1a 0) p1a p1k p1n p1w)] : List va_W)) sz)) 0 0 (va_A (List.flatten ([(oX5 (p0a 0) p0a p0k p0w p0l), (oX9 (p1a 0) p1a p1k p1n p1w)] : List va_W)) sz) := by
  refine Met.ofW (cc := cX5_wantUsed) (maxL := 4) (ret := (Option.some Jvm.ClassFile.FieldType.boolean)) (by decide) rfl ?_
  intro p e s m args below meth c s₁ B hml hv
  obtain ⟨rfl, hsz, hP, hK, hD0, hE⟩ := hv
  have hx := B.exec
  have hb := B.bytes
  have hr := B.returns
  have hts0 := atoms_spec (ws := wz yX5_wantUsed cX5_wantUsed 4 (Option.some Jvm.ClassFile.FieldType.boolean)) B.pre
  have hts : ∀ w ∈ gw, w.before _ s = true := fun w h => hts0 w (List.mem_cons_of_mem _ h)
  have hown : s.vm.findClass RX5 = some m.cls := findClass_of_methodNamed B.named
  have hlocks := B.notSynchronized
  subst hsz
  have hD := hD0.self (sz := s.heap.size)
  refine gQ9 ?_
  intro Q hQ
  generalize hAe : va_A (List.flatten ([(oX5 (p0a 0) p0a p0k p0w p0l), (oX9 (p1a 0) p1a p1k p1n p1w)] : List va_W)) s.heap.size = A at hD hE hQ
  have hA : ∀ q : Nat, s.heap.size ≤ q → A q := fun q h => by rw [← hAe]; exact Or.inr h
  have hS : va_S A s.heap s.heap [] := va_S.rf
  have hP : va_P (dC, dI) cls (List.flatten ([(oX5 (p0a 0) p0a p0k p0w p0l), (oX9 (p1a 0) p1a p1k p1n p1w)] : List va_W)) s.heap := hP
  have hl := lv_entry ([.ref (p0a 0), .ref (p1a 0), .int p2]) (n := 4) (Nat.le_of_ble_eq_true rfl)
  rw [lg_entry_eq]
  generalize (lg_sl ([.ref (p0a 0), .ref (p1a 0), .int p2]) ++ List.replicate (4 - (lg_sl ([.ref (p0a 0), .ref (p1a 0), .int p2])).length) Slot.unset).toArray = ls at hl ⊢
  have hl : lv_has ls 4 [(0, .ref (p0a 0)), (1, .ref (p1a 0)), (2, .int p2)] := hl
  obtain ⟨H, hHe⟩ : ∃ H, H = s.heap := ⟨_, rfl⟩
  obtain ⟨locs, hle⟩ : ∃ locs : List Loc, locs = [] := ⟨_, rfl⟩
  rw [← hHe] at hP
  have hS : va_S A s.heap H locs := by rw [hHe, hle]; exact hS
  show W p l e ({ frames := 2, cells := 0, slots := 0, locals := 40 } : Room) s m ([.ref (p0a 0), .ref (p1a 0), .int p2] : List Value).toArray below meth c s.heap [] 0 0 Q (F0 m 0 ls [])
  rw [← hle]
  refine wH9 hHe ?_
  unfold fX5_wantUsed at hrun
  refine lv_aload_n hx hb dX5_wantUsed_0 rfl (lv_at hl 1 rfl) ?_
  refine va_get (D := (dC, dI)) (ci := 3) (v := .ref (p1a 2)) (C := RX9) (T := TX9) (N := 6) hx hb hts i_X9 hown hK hP 10 rfl rfl 1 (by decide) (hts _ qw420) (fun _ h9 => h9) rfl dX5_wantUsed_1 ?_
  refine lv_iload_n hx hb dX5_wantUsed_4 rfl (lv_at hl 2 rfl) ?_
  obtain ⟨hq1, hrun⟩ := chk9 hrun
  refine va_iald hx hb hK hP 11 9 rfl rfl (ixb_in hq1) dX5_wantUsed_5 ?_
  obtain ⟨o_2, hc_2, hrun⟩ := bnd9 hrun
  have hPx : va_P (dC, dI) cls ((List.flatten ([] : List va_W)) ++ (List.flatten ([(oX5 (p0a 0) p0a p0k p0w p0l), (oX9 (p1a 0) p1a p1k p1n p1w)] : List va_W))) H := vP_fa (vP_perm hP (bP (List.Perm.refl _)))
  have hDx : va_D A ((List.flatten ([] : List va_W)) ++ (List.flatten ([(oX5 (p0a 0) p0a p0k p0w p0l), (oX9 (p1a 0) p1a p1k p1n p1w)] : List va_W))) := vD_fa (vD_perm hD (bP (List.Perm.refl _)))
  have hKx : va_K (dC, dI) cls ((List.flatten ([] : List (List (ClassId × FieldType)))) ++ (List.flatten ([(tX5 p0k), (tX9 p1k)] : List (List (ClassId × FieldType))))) s := vK_fa (vK_perm hK (bP (List.Perm.refl _)))
  have hPc := vP_l hPx
  have hDc := vD_l hDx
  have hKc := vK_l hKx
  have hFc := vfree hDx hS hA
  refine va_calli (va_runSN (As := [.int (p1w 2 (nn p2))]) (rest := []) ⟨hx, hb, hml, hown, hts⟩ (kX11_usesLeft l dC dI (p0 := (p1w 2 (nn p2))) (sz := _) (o := o_2) (hrun := hc_2)) ⟨(va_cnB 1 hts (gi_z qw446) rfl rfl rfl (hE.nw (List.mem_append_right _ (tbl_8 (i := 41) rfl)) rfl) (hts _ qw129) (by decide +kernel) ⟨Nat.le_of_ble_eq_true rfl, Nat.le_of_ble_eq_true rfl⟩), (hts _ qw447), trivial⟩ ⟨PRE.blind, PRE.of hE hS hFc hPc hKc hDc⟩ rfl rfl hl.1 rfl (lv_room (Nat.le_of_ble_eq_true rfl)) dX5_wantUsed_6 ⟨(Nat.le_of_ble_eq_true rfl), (Nat.le_of_ble_eq_true rfl)⟩) hS (fun q _ h => hFc q h) hFc (fun r3 u t H locs ht hvm hw hB hz1 hk1 hS => ?_)
  obtain ⟨b1, b2, b3⟩ := hB
  rw [ht] at b1
  obtain ⟨hP, hD, hK⟩ := JOINC (wc := (List.flatten ([] : List va_W))) (wr := (List.flatten ([(oX5 (p0a 0) p0a p0k p0w p0l), (oX9 (p1a 0) p1a p1k p1n p1w)] : List va_W))) (w1 := (List.flatten ([] : List va_W))) (t1 := (List.flatten ([] : List (List (ClassId × FieldType))))) hPx hDx hKx hk1 hFc b1 (va_K.moved hvm.symm b2) b3
  have hP : va_P (dC, dI) cls (List.flatten ([(oX5 (p0a 0) p0a p0k p0w p0l), (oX9 (p1a 0) p1a p1k p1n p1w)] : List va_W)) H := vP_perm (vP_fb hP) (bP (List.Perm.refl _))
  have hD : va_D A (List.flatten ([(oX5 (p0a 0) p0a p0k p0w p0l), (oX9 (p1a 0) p1a p1k p1n p1w)] : List va_W)) := vD_perm (vD_fb hD) (bP (List.Perm.refl _))
  have hK : va_K (dC, dI) cls (List.flatten ([(tX5 p0k), (tX9 p1k)] : List (List (ClassId × FieldType)))) s := vK_perm (vK_fb hK) (bP (List.Perm.refl _))
  obtain rfl : o_2 = r3 := hw.symm
  have J30 : ∀ (y0_30 : Int32) (p0w_30 : ST) (H : Heap) (locs : List Loc) (ls : Array Slot), (fX5_wantUsed_J30 p1n p1w p2 y0_30 p0w_30) = some o → va_P (dC, dI) cls (List.flatten ([(oX5 (p0a 0) p0a p0k p0w_30 p0l), (oX9 (p1a 0) p1a p1k p1n p1w)] : List va_W)) H → va_D A (List.flatten ([(oX5 (p0a 0) p0a p0k p0w_30 p0l), (oX9 (p1a 0) p1a p1k p1n p1w)] : List va_W)) → va_K (dC, dI) cls (List.flatten ([(tX5 p0k), (tX9 p1k)] : List (List (ClassId × FieldType)))) s → va_S A s.heap H locs → lv_has ls 4 [(0, .ref (p0a 0)), (1, .ref (p1a 0)), (2, .int p2)] → W p l e ({ frames := 2, cells := 0, slots := 0, locals := 40 } : Room) s m ([.ref (p0a 0), .ref (p1a 0), .int p2] : List Value).toArray below meth c H locs 0 0 Q (F0 m 30 ls [.int y0_30]) := by
    intro y0_30 p0w_30 H locs ls hrun hP hD hK hS hl 
    unfold fX5_wantUsed_J30 at hrun
    refine lv_istore_n (lv' := [(3, .int y0_30), (0, .ref (p0a 0)), (1, .ref (p1a 0)), (2, .int p2)]) hx hb dX5_wantUsed_30 rfl hl (by decide) rfl (fun ls hl => ?_)
    refine lv_aload_n hx hb dX5_wantUsed_31 rfl (lv_at hl 2 rfl) ?_
    refine va_get (D := (dC, dI)) (ci := 3) (v := .ref (p1a 2)) (C := RX9) (T := TX9) (N := 6) hx hb hts i_X9 hown hK hP 10 rfl rfl 1 (by decide) (hts _ qw420) (fun _ h9 => h9) rfl dX5_wantUsed_32 ?_
    refine lv_iload_n hx hb dX5_wantUsed_35 rfl (lv_at hl 3 rfl) ?_
    obtain ⟨hq4, hrun⟩ := chk9 hrun
    refine va_iald hx hb hK hP 11 9 rfl rfl (ixb_in hq4) dX5_wantUsed_36 ?_
    obtain ⟨o_5, hc_5, hrun⟩ := bnd9 hrun
    have hPx : va_P (dC, dI) cls ((List.flatten ([] : List va_W)) ++ (List.flatten ([(oX5 (p0a 0) p0a p0k p0w_30 p0l), (oX9 (p1a 0) p1a p1k p1n p1w)] : List va_W))) H := vP_fa (vP_perm hP (bP (List.Perm.refl _)))
    have hDx : va_D A ((List.flatten ([] : List va_W)) ++ (List.flatten ([(oX5 (p0a 0) p0a p0k p0w_30 p0l), (oX9 (p1a 0) p1a p1k p1n p1w)] : List va_W))) := vD_fa (vD_perm hD (bP (List.Perm.refl _)))
    have hKx : va_K (dC, dI) cls ((List.flatten ([] : List (List (ClassId × FieldType)))) ++ (List.flatten ([(tX5 p0k), (tX9 p1k)] : List (List (ClassId × FieldType))))) s := vK_fa (vK_perm hK (bP (List.Perm.refl _)))
    have hPc := vP_l hPx
    have hDc := vD_l hDx
    have hKc := vK_l hKx
    have hFc := vfree hDx hS hA
    refine va_calli (va_runSN (As := [.int (p1w 2 (nn p2))]) (rest := []) ⟨hx, hb, hml, hown, hts⟩ (kX11_usesRight l dC dI (p0 := (p1w 2 (nn p2))) (sz := _) (o := o_5) (hrun := hc_5)) ⟨(va_cnB 1 hts (gi_z qw351) rfl rfl rfl (hE.nw (List.mem_append_right _ (tbl_8 (i := 44) rfl)) rfl) (hts _ qw129) (by decide +kernel) ⟨Nat.le_of_ble_eq_true rfl, Nat.le_of_ble_eq_true rfl⟩), (hts _ qw352), trivial⟩ ⟨PRE.blind, PRE.of hE hS hFc hPc hKc hDc⟩ rfl rfl hl.1 rfl (lv_room (Nat.le_of_ble_eq_true rfl)) dX5_wantUsed_37 ⟨(Nat.le_of_ble_eq_true rfl), (Nat.le_of_ble_eq_true rfl)⟩) hS (fun q _ h => hFc q h) hFc (fun r6 u t H locs ht hvm hw hB hz1 hk1 hS => ?_)
    obtain ⟨b1, b2, b3⟩ := hB
    rw [ht] at b1
    obtain ⟨hP, hD, hK⟩ := JOINC (wc := (List.flatten ([] : List va_W))) (wr := (List.flatten ([(oX5 (p0a 0) p0a p0k p0w_30 p0l), (oX9 (p1a 0) p1a p1k p1n p1w)] : List va_W))) (w1 := (List.flatten ([] : List va_W))) (t1 := (List.flatten ([] : List (List (ClassId × FieldType))))) hPx hDx hKx hk1 hFc b1 (va_K.moved hvm.symm b2) b3
    have hP : va_P (dC, dI) cls (List.flatten ([(oX5 (p0a 0) p0a p0k p0w_30 p0l), (oX9 (p1a 0) p1a p1k p1n p1w)] : List va_W)) H := vP_perm (vP_fb hP) (bP (List.Perm.refl _))
    have hD : va_D A (List.flatten ([(oX5 (p0a 0) p0a p0k p0w_30 p0l), (oX9 (p1a 0) p1a p1k p1n p1w)] : List va_W)) := vD_perm (vD_fb hD) (bP (List.Perm.refl _))
    have hK : va_K (dC, dI) cls (List.flatten ([(tX5 p0k), (tX9 p1k)] : List (List (ClassId × FieldType)))) s := vK_perm (vK_fb hK) (bP (List.Perm.refl _))
    obtain rfl : o_5 = r6 := hw.symm
    have J65 : ∀ (y0_65 : Int32) (p0w_65 : ST) (H : Heap) (locs : List Loc) (ls : Array Slot), (fX5_wantUsed_J65 y0_65 p0w_65) = some o → va_P (dC, dI) cls (List.flatten ([(oX5 (p0a 0) p0a p0k p0w_65 p0l), (oX9 (p1a 0) p1a p1k p1n p1w)] : List va_W)) H → va_D A (List.flatten ([(oX5 (p0a 0) p0a p0k p0w_65 p0l), (oX9 (p1a 0) p1a p1k p1n p1w)] : List va_W)) → va_K (dC, dI) cls (List.flatten ([(tX5 p0k), (tX9 p1k)] : List (List (ClassId × FieldType)))) s → va_S A s.heap H locs → lv_has ls 4 [] → W p l e ({ frames := 2, cells := 0, slots := 0, locals := 40 } : Room) s m ([.ref (p0a 0), .ref (p1a 0), .int p2] : List Value).toArray below meth c H locs 0 0 Q (F0 m 65 ls [.int y0_65]) := by
      intro y0_65 p0w_65 H locs ls hrun hP hD hK hS hl 
      unfold fX5_wantUsed_J65 at hrun
      obtain ⟨hz9, hrun⟩ := chk9 hrun
      have ho9 : (y0_65, p0w_65) = o := Option.some.inj hrun
      have hP9 : va_P (dC, dI) cls (List.flatten ([(oX5 (p0a 0) p0a p0k (o.2) p0l), (oX9 (p1a 0) p1a p1k p1n p1w)] : List va_W)) H := by first | exact hP | (rw [← ho9]; exact hP)
      have hD9 : va_D A (List.flatten ([(oX5 (p0a 0) p0a p0k (o.2) p0l), (oX9 (p1a 0) p1a p1k p1n p1w)] : List va_W)) := by first | exact hD | (rw [← ho9]; exact hD)
      subst hQ
      exact W.zret (v := y0_65) hx hb hr (bz9 hz9) (fun t ht hW => ⟨⟨y0_65, (), rfl, (by rw [← ho9]), ⟨by rw [ht]; exact hP9, va_K.moved hW.alike hK, hD9⟩⟩, hS.F ht⟩) hS.2.2 dX5_wantUsed_65
    have J60 : ∀ (p0w_60 : ST) (H : Heap) (locs : List Loc) (ls : Array Slot), (fX5_wantUsed_J60 p0w_60) = some o → va_P (dC, dI) cls (List.flatten ([(oX5 (p0a 0) p0a p0k p0w_60 p0l), (oX9 (p1a 0) p1a p1k p1n p1w)] : List va_W)) H → va_D A (List.flatten ([(oX5 (p0a 0) p0a p0k p0w_60 p0l), (oX9 (p1a 0) p1a p1k p1n p1w)] : List va_W)) → va_K (dC, dI) cls (List.flatten ([(tX5 p0k), (tX9 p1k)] : List (List (ClassId × FieldType)))) s → va_S A s.heap H locs → lv_has ls 4 [] → W p l e ({ frames := 2, cells := 0, slots := 0, locals := 40 } : Room) s m ([.ref (p0a 0), .ref (p1a 0), .int p2] : List Value).toArray below meth c H locs 0 0 Q (F0 m 60 ls []) := by
      intro p0w_60 H locs ls hrun hP hD hK hS hl 
      unfold fX5_wantUsed_J60 at hrun
      refine lv_iconst (v := 1) hx hb dX5_wantUsed_60 (by decide) ?_
      refine lv_goto (tgt := 65) hx hb dX5_wantUsed_61 (by decide) ?_
      exact J65 1 p0w_60 _ _ _ hrun hP hD hK hS (lv_sub hl [] rfl)
    have J56 : ∀ (p0w_56 : ST) (H : Heap) (locs : List Loc) (ls : Array Slot), (fX5_wantUsed_J56 y0_30 p0w_56) = some o → va_P (dC, dI) cls (List.flatten ([(oX5 (p0a 0) p0a p0k p0w_56 p0l), (oX9 (p1a 0) p1a p1k p1n p1w)] : List va_W)) H → va_D A (List.flatten ([(oX5 (p0a 0) p0a p0k p0w_56 p0l), (oX9 (p1a 0) p1a p1k p1n p1w)] : List va_W)) → va_K (dC, dI) cls (List.flatten ([(tX5 p0k), (tX9 p1k)] : List (List (ClassId × FieldType)))) s → va_S A s.heap H locs → lv_has ls 4 [(3, .int y0_30)] → W p l e ({ frames := 2, cells := 0, slots := 0, locals := 40 } : Room) s m ([.ref (p0a 0), .ref (p1a 0), .int p2] : List Value).toArray below meth c H locs 0 0 Q (F0 m 56 ls []) := by
      intro p0w_56 H locs ls hrun hP hD hK hS hl 
      unfold fX5_wantUsed_J56 at hrun
      refine lv_iload_n hx hb dX5_wantUsed_56 rfl (lv_at hl 0 rfl) ?_
      rcases br9 hrun with ⟨hc7, hrun⟩ | ⟨hc7, hrun⟩
      · refine lv_if_eq (tgt := 64) hx hb dX5_wantUsed_57 (by decide) (fun _ => ?_) (fun c => absurd hc7 c)
        refine lv_iconst (v := 0) hx hb dX5_wantUsed_64 (by decide) ?_
        exact J65 0 p0w_56 _ _ _ hrun hP hD hK hS (lv_sub hl [] rfl)
      · refine lv_if_eq (tgt := 64) hx hb dX5_wantUsed_57 (by decide) (fun c => absurd c hc7) (fun _ => ?_)
        exact J60 p0w_56 _ _ _ hrun hP hD hK hS (lv_sub hl [] rfl)
    rcases br9 hrun with ⟨hc8, hrun⟩ | ⟨hc8, hrun⟩
    · refine lv_if_eq (tgt := 56) hx hb dX5_wantUsed_40 (by decide) (fun _ => ?_) (fun c => absurd hc8 c)
      exact J56 p0w_30 _ _ _ hrun hP hD hK hS (lv_sub hl [0] rfl)
    · refine lv_if_eq (tgt := 56) hx hb dX5_wantUsed_40 (by decide) (fun c => absurd c hc8) (fun _ => ?_)
      refine lv_aload_n hx hb dX5_wantUsed_43 rfl (lv_at hl 1 rfl) ?_
      refine lv_aload_n hx hb dX5_wantUsed_44 rfl (lv_at hl 2 rfl) ?_
      refine va_get (D := (dC, dI)) (ci := 3) (v := .ref (p1a 5)) (C := RX9) (T := TX9) (N := 6) hx hb hts i_X9 hown hK hP 10 rfl rfl 4 (by decide) (hts _ qw422) (fun _ h9 => h9) rfl dX5_wantUsed_45 ?_
      refine lv_iload_n hx hb dX5_wantUsed_48 rfl (lv_at hl 3 rfl) ?_
      obtain ⟨hq9, hrun⟩ := chk9 hrun
      refine va_iald hx hb hK hP 14 12 rfl rfl (ixb_in hq9) dX5_wantUsed_49 ?_
      obtain ⟨o_10, hc_10, hrun⟩ := bnd9 hrun
      have hPx : va_P (dC, dI) cls ((List.flatten ([(oX5 (p0a 0) p0a p0k p0w_30 p0l)] : List va_W)) ++ (List.flatten ([(oX9 (p1a 0) p1a p1k p1n p1w)] : List va_W))) H := vP_fa (vP_perm hP (bP (List.Perm.refl _)))
      have hDx : va_D A ((List.flatten ([(oX5 (p0a 0) p0a p0k p0w_30 p0l)] : List va_W)) ++ (List.flatten ([(oX9 (p1a 0) p1a p1k p1n p1w)] : List va_W))) := vD_fa (vD_perm hD (bP (List.Perm.refl _)))
      have hKx : va_K (dC, dI) cls ((List.flatten ([(tX5 p0k)] : List (List (ClassId × FieldType)))) ++ (List.flatten ([(tX9 p1k)] : List (List (ClassId × FieldType))))) s := vK_fa (vK_perm hK (bP (List.Perm.refl _)))
      have hPc := vP_l hPx
      have hDc := vD_l hDx
      have hKc := vK_l hKx
      have hFc := vfree hDx hS hA
      refine va_calli (va_runV (As := [.int (p1w 5 (nn p2))]) (rest := []) ⟨hx, hb, hml, hown, hts⟩ (kX5_want l dC dI (p0a := p0a) (p0k := p0k) (p0w := p0w_30) (p0l := p0l) (p1 := (p1w 5 (nn p2))) (sz := _) (o := o_10) (hrun := hc_10)) (cwV 1 hts (gi_V qw449 qw450 qw451 qw442 (gi_z qw448)) rfl rfl rfl (by decide +kernel) ⟨Nat.le_of_ble_eq_true rfl, Nat.le_of_ble_eq_true rfl⟩) ⟨PRE.blind, va_recv hKc hPc (ci := 7) (q0 := 0) rfl rfl, PRE.of hE hS hFc hPc hKc hDc⟩ rfl rfl hl.1 rfl (lv_room (Nat.le_of_ble_eq_true rfl)) dX5_wantUsed_50 ⟨(Nat.le_of_ble_eq_true rfl), (Nat.le_of_ble_eq_true rfl)⟩) hS (fun q _ h => hFc q h) hFc (fun r11 u t H locs ht hvm hw hB hz1 hk1 hS => ?_)
      obtain ⟨b1, b2, b3⟩ := hB
      rw [ht] at b1
      obtain ⟨hP, hD, hK⟩ := JOINC (wc := (List.flatten ([(oX5 (p0a 0) p0a p0k p0w_30 p0l)] : List va_W))) (wr := (List.flatten ([(oX9 (p1a 0) p1a p1k p1n p1w)] : List va_W))) (w1 := (List.flatten ([(oX5 (p0a 0) p0a p0k (o_10.2) p0l)] : List va_W))) (t1 := (List.flatten ([(tX5 p0k)] : List (List (ClassId × FieldType))))) hPx hDx hKx hk1 hFc b1 (va_K.moved hvm.symm b2) b3
      have hP : va_P (dC, dI) cls (List.flatten ([(oX5 (p0a 0) p0a p0k (o_10.2) p0l), (oX9 (p1a 0) p1a p1k p1n p1w)] : List va_W)) H := vP_perm (vP_fb hP) (bP (List.Perm.refl _))
      have hD : va_D A (List.flatten ([(oX5 (p0a 0) p0a p0k (o_10.2) p0l), (oX9 (p1a 0) p1a p1k p1n p1w)] : List va_W)) := vD_perm (vD_fb hD) (bP (List.Perm.refl _))
      have hK : va_K (dC, dI) cls (List.flatten ([(tX5 p0k), (tX9 p1k)] : List (List (ClassId × FieldType)))) s := vK_perm (vK_fb hK) (bP (List.Perm.refl _))
      obtain rfl : r11 = (o_10.1) := hw
      rcases br9 hrun with ⟨hc12, hrun⟩ | ⟨hc12, hrun⟩
      · refine lv_if_ne (tgt := 60) hx hb dX5_wantUsed_53 (by decide) (fun c => absurd hc12 c) (fun _ => ?_)
        exact J56 (o_10.2) _ _ _ hrun hP hD hK hS (lv_sub hl [0] rfl)
      · refine lv_if_ne (tgt := 60) hx hb dX5_wantUsed_53 (by decide) (fun _ => ?_) (fun c => absurd c hc12)
        exact J60 (o_10.2) _ _ _ hrun hP hD hK hS (lv_sub hl [] rfl)
  have J29 : ∀ (p0w_29 : ST) (H : Heap) (locs : List Loc) (ls : Array Slot), (fX5_wantUsed_J29 p1n p1w p2 p0w_29) = some o → va_P (dC, dI) cls (List.flatten ([(oX5 (p0a 0) p0a p0k p0w_29 p0l), (oX9 (p1a 0) p1a p1k p1n p1w)] : List va_W)) H → va_D A (List.flatten ([(oX5 (p0a 0) p0a p0k p0w_29 p0l), (oX9 (p1a 0) p1a p1k p1n p1w)] : List va_W)) → va_K (dC, dI) cls (List.flatten ([(tX5 p0k), (tX9 p1k)] : List (List (ClassId × FieldType)))) s → va_S A s.heap H locs → lv_has ls 4 [(0, .ref (p0a 0)), (1, .ref (p1a 0)), (2, .int p2)] → W p l e ({ frames := 2, cells := 0, slots := 0, locals := 40 } : Room) s m ([.ref (p0a 0), .ref (p1a 0), .int p2] : List Value).toArray below meth c H locs 0 0 Q (F0 m 29 ls []) := by
    intro p0w_29 H locs ls hrun hP hD hK hS hl 
    unfold fX5_wantUsed_J29 at hrun
    refine lv_iconst (v := 0) hx hb dX5_wantUsed_29 (by decide) ?_
    exact J30 0 p0w_29 _ _ _ hrun hP hD hK hS (lv_sub hl [0, 1, 2] rfl)
  rcases br9 hrun with ⟨hc13, hrun⟩ | ⟨hc13, hrun⟩
  · refine lv_if_eq (tgt := 29) hx hb dX5_wantUsed_9 (by decide) (fun _ => ?_) (fun c => absurd hc13 c)
    exact J29 p0w _ _ _ hrun hP hD hK hS (lv_sub hl [0, 1, 2] rfl)
  · refine lv_if_eq (tgt := 29) hx hb dX5_wantUsed_9 (by decide) (fun c => absurd c hc13) (fun _ => ?_)
    refine lv_aload_n hx hb dX5_wantUsed_12 rfl (lv_at hl 0 rfl) ?_
    refine lv_aload_n hx hb dX5_wantUsed_13 rfl (lv_at hl 1 rfl) ?_
    refine va_get (D := (dC, dI)) (ci := 3) (v := .ref (p1a 4)) (C := RX9) (T := TX9) (N := 6) hx hb hts i_X9 hown hK hP 10 rfl rfl 3 (by decide) (hts _ qw421) (fun _ h9 => h9) rfl dX5_wantUsed_14 ?_
    refine lv_iload_n hx hb dX5_wantUsed_17 rfl (lv_at hl 2 rfl) ?_
    obtain ⟨hq14, hrun⟩ := chk9 hrun
    refine va_iald hx hb hK hP 13 11 rfl rfl (ixb_in hq14) dX5_wantUsed_18 ?_
    obtain ⟨o_15, hc_15, hrun⟩ := bnd9 hrun
    have hPx : va_P (dC, dI) cls ((List.flatten ([(oX5 (p0a 0) p0a p0k p0w p0l)] : List va_W)) ++ (List.flatten ([(oX9 (p1a 0) p1a p1k p1n p1w)] : List va_W))) H := vP_fa (vP_perm hP (bP (List.Perm.refl _)))
    have hDx : va_D A ((List.flatten ([(oX5 (p0a 0) p0a p0k p0w p0l)] : List va_W)) ++ (List.flatten ([(oX9 (p1a 0) p1a p1k p1n p1w)] : List va_W))) := vD_fa (vD_perm hD (bP (List.Perm.refl _)))
    have hKx : va_K (dC, dI) cls ((List.flatten ([(tX5 p0k)] : List (List (ClassId × FieldType)))) ++ (List.flatten ([(tX9 p1k)] : List (List (ClassId × FieldType))))) s := vK_fa (vK_perm hK (bP (List.Perm.refl _)))
    have hPc := vP_l hPx
    have hDc := vD_l hDx
    have hKc := vK_l hKx
    have hFc := vfree hDx hS hA
    refine va_calli (va_runV (As := [.int (p1w 4 (nn p2))]) (rest := []) ⟨hx, hb, hml, hown, hts⟩ (kX5_want l dC dI (p0a := p0a) (p0k := p0k) (p0w := p0w) (p0l := p0l) (p1 := (p1w 4 (nn p2))) (sz := _) (o := o_15) (hrun := hc_15)) (cwV 1 hts (gi_V qw449 qw450 qw451 qw442 (gi_z qw448)) rfl rfl rfl (by decide +kernel) ⟨Nat.le_of_ble_eq_true rfl, Nat.le_of_ble_eq_true rfl⟩) ⟨PRE.blind, va_recv hKc hPc (ci := 7) (q0 := 0) rfl rfl, PRE.of hE hS hFc hPc hKc hDc⟩ rfl rfl hl.1 rfl (lv_room (Nat.le_of_ble_eq_true rfl)) dX5_wantUsed_19 ⟨(Nat.le_of_ble_eq_true rfl), (Nat.le_of_ble_eq_true rfl)⟩) hS (fun q _ h => hFc q h) hFc (fun r16 u t H locs ht hvm hw hB hz1 hk1 hS => ?_)
    obtain ⟨b1, b2, b3⟩ := hB
    rw [ht] at b1
    obtain ⟨hP, hD, hK⟩ := JOINC (wc := (List.flatten ([(oX5 (p0a 0) p0a p0k p0w p0l)] : List va_W))) (wr := (List.flatten ([(oX9 (p1a 0) p1a p1k p1n p1w)] : List va_W))) (w1 := (List.flatten ([(oX5 (p0a 0) p0a p0k (o_15.2) p0l)] : List va_W))) (t1 := (List.flatten ([(tX5 p0k)] : List (List (ClassId × FieldType))))) hPx hDx hKx hk1 hFc b1 (va_K.moved hvm.symm b2) b3
    have hP : va_P (dC, dI) cls (List.flatten ([(oX5 (p0a 0) p0a p0k (o_15.2) p0l), (oX9 (p1a 0) p1a p1k p1n p1w)] : List va_W)) H := vP_perm (vP_fb hP) (bP (List.Perm.refl _))
    have hD : va_D A (List.flatten ([(oX5 (p0a 0) p0a p0k (o_15.2) p0l), (oX9 (p1a 0) p1a p1k p1n p1w)] : List va_W)) := vD_perm (vD_fb hD) (bP (List.Perm.refl _))
    have hK : va_K (dC, dI) cls (List.flatten ([(tX5 p0k), (tX9 p1k)] : List (List (ClassId × FieldType)))) s := vK_perm (vK_fb hK) (bP (List.Perm.refl _))
    obtain rfl : r16 = (o_15.1) := hw
    rcases br9 hrun with ⟨hc17, hrun⟩ | ⟨hc17, hrun⟩
    · refine lv_if_eq (tgt := 29) hx hb dX5_wantUsed_22 (by decide) (fun _ => ?_) (fun c => absurd hc17 c)
      exact J29 (o_15.2) _ _ _ hrun hP hD hK hS (lv_sub hl [0, 1, 2] rfl)
    · refine lv_if_eq (tgt := 29) hx hb dX5_wantUsed_22 (by decide) (fun c => absurd c hc17) (fun _ => ?_)
      refine lv_iconst (v := 1) hx hb dX5_wantUsed_25 (by decide) ?_
      refine lv_goto (tgt := 30) hx hb dX5_wantUsed_26 (by decide) ?_
      exact J30 1 (o_15.2) _ _ _ hrun hP hD hK hS (lv_sub hl [0, 1, 2] rfl)
def fX5_isNumber_J31 (y0_31 : Int32) : Option Int32 := (if y0_31 = 0 ∨ y0_31 = 1 then some y0_31 else none)
def fX5_isNumber_J30  : Option Int32 := (fX5_isNumber_J31 0)
def fX5_isNumber (p0w : ST) (p2 : Int32) (p1_2n : Nat → Nat) (p1_2w : ST) : Option Int32 := (if ixb p2 250 = true then (if (p0w 2 (nn p2)) < 0 then (fX5_isNumber_J30) else (if ixb p2 250 = true then (if ixb (p0w 2 (nn p2)) (p1_2n 2) = true then (if (p1_2w 2 (nn (p0w 2 (nn p2)))) = 0 then (fX5_isNumber_J31 1) else (fX5_isNumber_J30)) else none) else none)) else none)
set_option maxHeartbeats 16000000 in
set_option maxRecDepth 100000 in
theorem kX5_isNumber {zs : ZS} (l : Launch) (dC : Nat → ClassId) (dI : Nat → Nat → Nat) (p0a : Nat → Nat) (p0k : Nat → ClassId) (p0w : ST) (p0l : SL) (p1a : Nat → Nat) (p1k : Nat → ClassId) (p1n : Nat → Nat) (p1w : ST) (p1l : SL) (p2 : Int32) (p1_2a : Nat → Nat) (p1_2k : Nat → ClassId) (p1_2n : Nat → Nat) (p1_2w : ST) (sz : Nat) (o : Int32) (hrun : fX5_isNumber p0w p2 p1_2n p1_2w = some o) : Met l yX5_isNumber (wz yX5_isNumber cX5_isNumber 3 (Option.some Jvm.ClassFile.FieldType.boolean)) ({ frames := 0, cells := 0, slots := 0, locals := 0 } : Room) (va_Pc [.ref (p0a 0), .ref (p1a 0), .int p2] (PRE zs dC dI (List.flatten ([(oX5 (p0a 0) p0a p0k p0w p0l), (oX1 (p1a 0) p1a p1k p1n p1w p1l), (oX9 (p1a 3) p1_2a p1_2k p1_2n p1_2w)] : List va_W)) (List.flatten ([(tX5 p0k), (tX1 p1k), (tX9 p1_2k)] : List (List (ClassId × FieldType)))) sz)) (va_Qi (fun (r : Int32) (_ : Unit) => r = o) (fun _ t => POST dC dI (List.flatten ([(oX5 (p0a 0) p0a p0k p0w p0l), (oX1 (p1a 0) p1a p1k p1n p1w p1l), (oX9 (p1a 3) p1_2a p1_2k p1_2n p1_2w)] : List va_W)) (List.flatten ([(tX5 p0k), (tX1 p1k), (tX9 p1_2k)] : List (List (ClassId × FieldType)))) (va_A (List.flatten ([(oX5 (p0a 0) p0a p0k p0w p0l), (oX1 (p1a 0) p1a p1k p1n p1w p1l), (oX9 (p1a 3) p1_2a p1_2k p1_2n p1_2w)] : List va_W)) sz) t) (va_A (List.flatten ([(oX5 (p0a 0) p0a p0k p0w p0l), (oX1 (p1a 0) p1a p1k p1n p1w p1l), (oX9 (p1a 3) p1_2a p1_2k p1_2n p1_2w)] : List va_W)) sz)) 0 0 (va_A (List.flatten ([(oX5 (p0a 0) p0a p0k p0w p0l), (oX1 (p1a 0) p1a p1k p1n p1w p1l), (oX9 (p1a 3) p1_2a p1_2k p1_2n p1_2w)] : List va_W)) sz) := by
  refine Met.ofW (cc := cX5_isNumber) (maxL := 3) (ret := (Option.some Jvm.ClassFile.FieldType.boolean)) (by decide) rfl ?_
  intro p e s m args below meth c s₁ B hml hv
  obtain ⟨rfl, hsz, hP, hK, hD0, hE⟩ := hv
  have hx := B.exec
  have hb := B.bytes
  have hr := B.returns
  have hts0 := atoms_spec (ws := wz yX5_isNumber cX5_isNumber 3 (Option.some Jvm.ClassFile.FieldType.boolean)) B.pre
  have hts : ∀ w ∈ gw, w.before _ s = true := fun w h => hts0 w (List.mem_cons_of_mem _ h)
  have hown : s.vm.findClass RX5 = some m.cls := findClass_of_methodNamed B.named
  have hlocks := B.notSynchronized
  subst hsz
  have hD := hD0.self (sz := s.heap.size)
  refine gQ9 ?_
  intro Q hQ
  generalize hAe : va_A (List.flatten ([(oX5 (p0a 0) p0a p0k p0w p0l), (oX1 (p1a 0) p1a p1k p1n p1w p1l), (oX9 (p1a 3) p1_2a p1_2k p1_2n p1_2w)] : List va_W)) s.heap.size = A at hD hE hQ
  have hA : ∀ q : Nat, s.heap.size ≤ q → A q := fun q h => by rw [← hAe]; exact Or.inr h
  have hS : va_S A s.heap s.heap [] := va_S.rf
  have hP : va_P (dC, dI) cls (List.flatten ([(oX5 (p0a 0) p0a p0k p0w p0l), (oX1 (p1a 0) p1a p1k p1n p1w p1l), (oX9 (p1a 3) p1_2a p1_2k p1_2n p1_2w)] : List va_W)) s.heap := hP
  have hl := lv_entry ([.ref (p0a 0), .ref (p1a 0), .int p2]) (n := 3) (Nat.le_of_ble_eq_true rfl)
  rw [lg_entry_eq]
  generalize (lg_sl ([.ref (p0a 0), .ref (p1a 0), .int p2]) ++ List.replicate (3 - (lg_sl ([.ref (p0a 0), .ref (p1a 0), .int p2])).length) Slot.unset).toArray = ls at hl ⊢
  have hl : lv_has ls 3 [(0, .ref (p0a 0)), (1, .ref (p1a 0)), (2, .int p2)] := hl
  obtain ⟨H, hHe⟩ : ∃ H, H = s.heap := ⟨_, rfl⟩
  obtain ⟨locs, hle⟩ : ∃ locs : List Loc, locs = [] := ⟨_, rfl⟩
  rw [← hHe] at hP
  have hS : va_S A s.heap H locs := by rw [hHe, hle]; exact hS
  show W p l e ({ frames := 0, cells := 0, slots := 0, locals := 0 } : Room) s m ([.ref (p0a 0), .ref (p1a 0), .int p2] : List Value).toArray below meth c s.heap [] 0 0 Q (F0 m 0 ls [])
  rw [← hle]
  refine wH9 hHe ?_
  unfold fX5_isNumber at hrun
  refine lv_aload_n hx hb dX5_isNumber_0 rfl (lv_at hl 0 rfl) ?_
  refine va_get (D := (dC, dI)) (ci := 7) (v := .ref (p0a 2)) (C := RX5) (T := TX5) (N := 12) hx hb hts i_X5 hown hK hP 0 rfl rfl 1 (by decide) (hts _ qw427) (fun _ h9 => h9) rfl dX5_isNumber_1 ?_
  refine lv_iload_n hx hb dX5_isNumber_4 rfl (lv_at hl 2 rfl) ?_
  obtain ⟨hq1, hrun⟩ := chk9 hrun
  refine va_iald hx hb hK hP 1 0 rfl rfl (ixb_in hq1) dX5_isNumber_5 ?_
  have J31 : ∀ (y0_31 : Int32) (H : Heap) (locs : List Loc) (ls : Array Slot), (fX5_isNumber_J31 y0_31) = some o → va_P (dC, dI) cls (List.flatten ([(oX5 (p0a 0) p0a p0k p0w p0l), (oX1 (p1a 0) p1a p1k p1n p1w p1l), (oX9 (p1a 3) p1_2a p1_2k p1_2n p1_2w)] : List va_W)) H → va_D A (List.flatten ([(oX5 (p0a 0) p0a p0k p0w p0l), (oX1 (p1a 0) p1a p1k p1n p1w p1l), (oX9 (p1a 3) p1_2a p1_2k p1_2n p1_2w)] : List va_W)) → va_K (dC, dI) cls (List.flatten ([(tX5 p0k), (tX1 p1k), (tX9 p1_2k)] : List (List (ClassId × FieldType)))) s → va_S A s.heap H locs → lv_has ls 3 [] → W p l e ({ frames := 0, cells := 0, slots := 0, locals := 0 } : Room) s m ([.ref (p0a 0), .ref (p1a 0), .int p2] : List Value).toArray below meth c H locs 0 0 Q (F0 m 31 ls [.int y0_31]) := by
    intro y0_31 H locs ls hrun hP hD hK hS hl 
    unfold fX5_isNumber_J31 at hrun
    obtain ⟨hz9, hrun⟩ := chk9 hrun
    have ho9 : y0_31 = o := Option.some.inj hrun
    have hP9 : va_P (dC, dI) cls (List.flatten ([(oX5 (p0a 0) p0a p0k p0w p0l), (oX1 (p1a 0) p1a p1k p1n p1w p1l), (oX9 (p1a 3) p1_2a p1_2k p1_2n p1_2w)] : List va_W)) H := by first | exact hP | (rw [← ho9]; exact hP)
    have hD9 : va_D A (List.flatten ([(oX5 (p0a 0) p0a p0k p0w p0l), (oX1 (p1a 0) p1a p1k p1n p1w p1l), (oX9 (p1a 3) p1_2a p1_2k p1_2n p1_2w)] : List va_W)) := by first | exact hD | (rw [← ho9]; exact hD)
    subst hQ
    exact W.zret (v := y0_31) hx hb hr (bz9 hz9) (fun t ht hW => ⟨⟨y0_31, (), rfl, (by rw [← ho9]), ⟨by rw [ht]; exact hP9, va_K.moved hW.alike hK, hD9⟩⟩, hS.F ht⟩) hS.2.2 dX5_isNumber_31
  have J30 : ∀ (H : Heap) (locs : List Loc) (ls : Array Slot), (fX5_isNumber_J30) = some o → va_P (dC, dI) cls (List.flatten ([(oX5 (p0a 0) p0a p0k p0w p0l), (oX1 (p1a 0) p1a p1k p1n p1w p1l), (oX9 (p1a 3) p1_2a p1_2k p1_2n p1_2w)] : List va_W)) H → va_D A (List.flatten ([(oX5 (p0a 0) p0a p0k p0w p0l), (oX1 (p1a 0) p1a p1k p1n p1w p1l), (oX9 (p1a 3) p1_2a p1_2k p1_2n p1_2w)] : List va_W)) → va_K (dC, dI) cls (List.flatten ([(tX5 p0k), (tX1 p1k), (tX9 p1_2k)] : List (List (ClassId × FieldType)))) s → va_S A s.heap H locs → lv_has ls 3 [] → W p l e ({ frames := 0, cells := 0, slots := 0, locals := 0 } : Room) s m ([.ref (p0a 0), .ref (p1a 0), .int p2] : List Value).toArray below meth c H locs 0 0 Q (F0 m 30 ls []) := by
    intro  H locs ls hrun hP hD hK hS hl 
    unfold fX5_isNumber_J30 at hrun
    refine lv_iconst (v := 0) hx hb dX5_isNumber_30 (by decide) ?_
    exact J31 0 _ _ _ hrun hP hD hK hS (lv_sub hl [] rfl)
  rcases br9 hrun with ⟨hc2, hrun⟩ | ⟨hc2, hrun⟩
  · refine lv_if_lt (tgt := 30) hx hb dX5_isNumber_6 (by decide) (fun _ => ?_) (fun c => absurd hc2 c)
    exact J30 _ _ _ hrun hP hD hK hS (lv_sub hl [] rfl)
  · refine lv_if_lt (tgt := 30) hx hb dX5_isNumber_6 (by decide) (fun c => absurd c hc2) (fun _ => ?_)
    refine lv_aload_n hx hb dX5_isNumber_9 rfl (lv_at hl 1 rfl) ?_
    refine va_get (D := (dC, dI)) (ci := 4) (v := .ref (p1a 3)) (C := RX1) (T := TX1) (N := 21) hx hb hts i_X1 hown hK hP 10 rfl rfl 2 (by decide) (hts _ qw435) (fun _ h9 => h9) rfl dX5_isNumber_10 ?_
    refine va_get (D := (dC, dI)) (ci := 3) (v := .ref (p1_2a 2)) (C := RX9) (T := TX9) (N := 6) hx hb hts i_X9 hown hK hP 28 rfl rfl 1 (by decide) (hts _ qw420) (fun _ h9 => h9) rfl dX5_isNumber_13 ?_
    refine lv_aload_n hx hb dX5_isNumber_16 rfl (lv_at hl 0 rfl) ?_
    refine va_get (D := (dC, dI)) (ci := 7) (v := .ref (p0a 2)) (C := RX5) (T := TX5) (N := 12) hx hb hts i_X5 hown hK hP 0 rfl rfl 1 (by decide) (hts _ qw427) (fun _ h9 => h9) rfl dX5_isNumber_17 ?_
    refine lv_iload_n hx hb dX5_isNumber_20 rfl (lv_at hl 2 rfl) ?_
    obtain ⟨hq3, hrun⟩ := chk9 hrun
    refine va_iald hx hb hK hP 1 0 rfl rfl (ixb_in hq3) dX5_isNumber_21 ?_
    obtain ⟨hq4, hrun⟩ := chk9 hrun
    refine va_iald hx hb hK hP 29 26 rfl rfl (ixb_in hq4) dX5_isNumber_22 ?_
    rcases br9 hrun with ⟨hc5, hrun⟩ | ⟨hc5, hrun⟩
    · refine lv_if_ne (tgt := 30) hx hb dX5_isNumber_23 (by decide) (fun c => absurd hc5 c) (fun _ => ?_)
      refine lv_iconst (v := 1) hx hb dX5_isNumber_26 (by decide) ?_
      refine lv_goto (tgt := 31) hx hb dX5_isNumber_27 (by decide) ?_
      exact J31 1 _ _ _ hrun hP hD hK hS (lv_sub hl [] rfl)
    · refine lv_if_ne (tgt := 30) hx hb dX5_isNumber_23 (by decide) (fun _ => ?_) (fun c => absurd c hc5)
      exact J30 _ _ _ hrun hP hD hK hS (lv_sub hl [] rfl)
def fX5_numberOf (p0w : ST) (p2 : Int32) (p1_2n : Nat → Nat) (p1_2w : ST) : Option Int32 := (if ixb p2 250 = true then (if ixb (p0w 2 (nn p2)) (p1_2n 4) = true then some (p1_2w 4 (nn (p0w 2 (nn p2)))) else none) else none)
set_option maxHeartbeats 16000000 in
set_option maxRecDepth 100000 in
theorem kX5_numberOf {zs : ZS} (l : Launch) (dC : Nat → ClassId) (dI : Nat → Nat → Nat) (p0a : Nat → Nat) (p0k : Nat → ClassId) (p0w : ST) (p0l : SL) (p1a : Nat → Nat) (p1k : Nat → ClassId) (p1n : Nat → Nat) (p1w : ST) (p1l : SL) (p2 : Int32) (p1_2a : Nat → Nat) (p1_2k : Nat → ClassId) (p1_2n : Nat → Nat) (p1_2w : ST) (sz : Nat) (o : Int32) (hrun : fX5_numberOf p0w p2 p1_2n p1_2w = some o) : Met l yX5_numberOf (wz yX5_numberOf cX5_numberOf 3 (Option.some Jvm.ClassFile.FieldType.int)) ({ frames := 0, cells := 0, slots := 0, locals := 0 } : Room) (va_Pc [.ref (p0a 0), .ref (p1a 0), .int p2] (PRE zs dC dI (List.flatten ([(oX5 (p0a 0) p0a p0k p0w p0l), (oX1 (p1a 0) p1a p1k p1n p1w p1l), (oX9 (p1a 3) p1_2a p1_2k p1_2n p1_2w)] : List va_W)) (List.flatten ([(tX5 p0k), (tX1 p1k), (tX9 p1_2k)] : List (List (ClassId × FieldType)))) sz)) (va_Qi (fun (r : Int32) (_ : Unit) => r = o) (fun _ t => POST dC dI (List.flatten ([(oX5 (p0a 0) p0a p0k p0w p0l), (oX1 (p1a 0) p1a p1k p1n p1w p1l), (oX9 (p1a 3) p1_2a p1_2k p1_2n p1_2w)] : List va_W)) (List.flatten ([(tX5 p0k), (tX1 p1k), (tX9 p1_2k)] : List (List (ClassId × FieldType)))) (va_A (List.flatten ([(oX5 (p0a 0) p0a p0k p0w p0l), (oX1 (p1a 0) p1a p1k p1n p1w p1l), (oX9 (p1a 3) p1_2a p1_2k p1_2n p1_2w)] : List va_W)) sz) t) (va_A (List.flatten ([(oX5 (p0a 0) p0a p0k p0w p0l), (oX1 (p1a 0) p1a p1k p1n p1w p1l), (oX9 (p1a 3) p1_2a p1_2k p1_2n p1_2w)] : List va_W)) sz)) 0 0 (va_A (List.flatten ([(oX5 (p0a 0) p0a p0k p0w p0l), (oX1 (p1a 0) p1a p1k p1n p1w p1l), (oX9 (p1a 3) p1_2a p1_2k p1_2n p1_2w)] : List va_W)) sz) := by
  refine Met.ofW (cc := cX5_numberOf) (maxL := 3) (ret := (Option.some Jvm.ClassFile.FieldType.int)) (by decide) rfl ?_
  intro p e s m args below meth c s₁ B hml hv
  obtain ⟨rfl, hsz, hP, hK, hD0, hE⟩ := hv
  have hx := B.exec
  have hb := B.bytes
  have hr := B.returns
  have hts0 := atoms_spec (ws := wz yX5_numberOf cX5_numberOf 3 (Option.some Jvm.ClassFile.FieldType.int)) B.pre
  have hts : ∀ w ∈ gw, w.before _ s = true := fun w h => hts0 w (List.mem_cons_of_mem _ h)
  have hown : s.vm.findClass RX5 = some m.cls := findClass_of_methodNamed B.named
  have hlocks := B.notSynchronized
  subst hsz
  have hD := hD0.self (sz := s.heap.size)
  refine gQ9 ?_
  intro Q hQ
  generalize hAe : va_A (List.flatten ([(oX5 (p0a 0) p0a p0k p0w p0l), (oX1 (p1a 0) p1a p1k p1n p1w p1l), (oX9 (p1a 3) p1_2a p1_2k p1_2n p1_2w)] : List va_W)) s.heap.size = A at hD hE hQ
  have hA : ∀ q : Nat, s.heap.size ≤ q → A q := fun q h => by rw [← hAe]; exact Or.inr h
  have hS : va_S A s.heap s.heap [] := va_S.rf
  have hP : va_P (dC, dI) cls (List.flatten ([(oX5 (p0a 0) p0a p0k p0w p0l), (oX1 (p1a 0) p1a p1k p1n p1w p1l), (oX9 (p1a 3) p1_2a p1_2k p1_2n p1_2w)] : List va_W)) s.heap := hP
  have hl := lv_entry ([.ref (p0a 0), .ref (p1a 0), .int p2]) (n := 3) (Nat.le_of_ble_eq_true rfl)
  rw [lg_entry_eq]
  generalize (lg_sl ([.ref (p0a 0), .ref (p1a 0), .int p2]) ++ List.replicate (3 - (lg_sl ([.ref (p0a 0), .ref (p1a 0), .int p2])).length) Slot.unset).toArray = ls at hl ⊢
  have hl : lv_has ls 3 [(0, .ref (p0a 0)), (1, .ref (p1a 0)), (2, .int p2)] := hl
  obtain ⟨H, hHe⟩ : ∃ H, H = s.heap := ⟨_, rfl⟩
  obtain ⟨locs, hle⟩ : ∃ locs : List Loc, locs = [] := ⟨_, rfl⟩
  rw [← hHe] at hP
  have hS : va_S A s.heap H locs := by rw [hHe, hle]; exact hS
  show W p l e ({ frames := 0, cells := 0, slots := 0, locals := 0 } : Room) s m ([.ref (p0a 0), .ref (p1a 0), .int p2] : List Value).toArray below meth c s.heap [] 0 0 Q (F0 m 0 ls [])
  rw [← hle]
  refine wH9 hHe ?_
  unfold fX5_numberOf at hrun
  refine lv_aload_n hx hb dX5_numberOf_0 rfl (lv_at hl 1 rfl) ?_
  refine va_get (D := (dC, dI)) (ci := 4) (v := .ref (p1a 3)) (C := RX1) (T := TX1) (N := 21) hx hb hts i_X1 hown hK hP 10 rfl rfl 2 (by decide) (hts _ qw435) (fun _ h9 => h9) rfl dX5_numberOf_1 ?_
  refine va_get (D := (dC, dI)) (ci := 3) (v := .ref (p1_2a 4)) (C := RX9) (T := TX9) (N := 6) hx hb hts i_X9 hown hK hP 28 rfl rfl 3 (by decide) (hts _ qw421) (fun _ h9 => h9) rfl dX5_numberOf_4 ?_
  refine lv_aload_n hx hb dX5_numberOf_7 rfl (lv_at hl 0 rfl) ?_
  refine va_get (D := (dC, dI)) (ci := 7) (v := .ref (p0a 2)) (C := RX5) (T := TX5) (N := 12) hx hb hts i_X5 hown hK hP 0 rfl rfl 1 (by decide) (hts _ qw427) (fun _ h9 => h9) rfl dX5_numberOf_8 ?_
  refine lv_iload_n hx hb dX5_numberOf_11 rfl (lv_at hl 2 rfl) ?_
  obtain ⟨hq1, hrun⟩ := chk9 hrun
  refine va_iald hx hb hK hP 1 0 rfl rfl (ixb_in hq1) dX5_numberOf_12 ?_
  obtain ⟨hq2, hrun⟩ := chk9 hrun
  refine va_iald hx hb hK hP 31 28 rfl rfl (ixb_in hq2) dX5_numberOf_13 ?_
  have ho9 : (p1_2w 4 (nn (p0w 2 (nn p2)))) = o := Option.some.inj hrun
  have hP9 : va_P (dC, dI) cls (List.flatten ([(oX5 (p0a 0) p0a p0k p0w p0l), (oX1 (p1a 0) p1a p1k p1n p1w p1l), (oX9 (p1a 3) p1_2a p1_2k p1_2n p1_2w)] : List va_W)) H := by first | exact hP | (rw [← ho9]; exact hP)
  have hD9 : va_D A (List.flatten ([(oX5 (p0a 0) p0a p0k p0w p0l), (oX1 (p1a 0) p1a p1k p1n p1w p1l), (oX9 (p1a 3) p1_2a p1_2k p1_2n p1_2w)] : List va_W)) := by first | exact hD | (rw [← ho9]; exact hD)
  subst hQ
  exact W.iret (v := (p1_2w 4 (nn (p0w 2 (nn p2))))) hx hb hr (fun t ht hW => ⟨⟨(p1_2w 4 (nn (p0w 2 (nn p2)))), (), rfl, (by rw [← ho9]), ⟨by rw [ht]; exact hP9, va_K.moved hW.alike hK, hD9⟩⟩, hS.F ht⟩) hS.2.2 dX5_numberOf_14
def fX5_mayFail_J58 (y0_58 : Int32) : Option Int32 := (if y0_58 = 0 ∨ y0_58 = 1 then some y0_58 else none)
def fX5_mayFail_J53  : Option Int32 := (fX5_mayFail_J58 1)
def fX5_mayFail_J22 (p0w : ST) (p2 : Int32) (p1_2n : Nat → Nat) (p1_2w : ST) : Option Int32 := (if ixb p2 (p1_2n 5) = true then ((fX5_isNumber p0w (p1_2w 5 (nn p2)) p1_2n p1_2w).bind fun (o_3 : Int32) => (if o_3 = 0 then (fX5_mayFail_J53) else ((fX5_numberOf p0w (p1_2w 5 (nn p2)) p1_2n p1_2w).bind fun (o_6 : Int32) => (if o_6 = 0 then (fX5_mayFail_J53) else (fX5_mayFail_J58 0))))) else none)
def fX5_mayFail (p0w : ST) (p2 : Int32) (p1_2n : Nat → Nat) (p1_2w : ST) : Option Int32 := (if ixb p2 (p1_2n 2) = true then (if (p1_2w 2 (nn p2)) = 4 then (fX5_mayFail_J22 p0w p2 p1_2n p1_2w) else (if (p1_2w 2 (nn p2)) = 5 then (fX5_mayFail_J22 p0w p2 p1_2n p1_2w) else some 0)) else none)
set_option maxHeartbeats 16000000 in
set_option maxRecDepth 100000 in
theorem kX5_mayFail {zs : ZS} (l : Launch) (dC : Nat → ClassId) (dI : Nat → Nat → Nat) (p0a : Nat → Nat) (p0k : Nat → ClassId) (p0w : ST) (p0l : SL) (p1a : Nat → Nat) (p1k : Nat → ClassId) (p1n : Nat → Nat) (p1w : ST) (p1l : SL) (p2 : Int32) (p1_2a : Nat → Nat) (p1_2k : Nat → ClassId) (p1_2n : Nat → Nat) (p1_2w : ST) (sz : Nat) (o : Int32) (hrun : fX5_mayFail p0w p2 p1_2n p1_2w = some o) : Met l yX5_mayFail (wz yX5_mayFail cX5_mayFail 5 (Option.some Jvm.ClassFile.FieldType.boolean)) ({ frames := 1, cells := 0, slots := 0, locals := 22 } : Room) (va_Pc [.ref (p0a 0), .ref (p1a 0), .int p2] (PRE zs dC dI (List.flatten ([(oX5 (p0a 0) p0a p0k p0w p0l), (oX1 (p1a 0) p1a p1k p1n p1w p1l), (oX9 (p1a 3) p1_2a p1_2k p1_2n p1_2w)] : List va_W)) (List.flatten ([(tX5 p0k), (tX1 p1k), (tX9 p1_2k)] : List (List (ClassId × FieldType)))) sz)) (va_Qi (fun (r : Int32) (_ : Unit) => r = o) (fun _ t => POST dC dI (List.flatten ([(oX5 (p0a 0) p0a p0k p0w p0l), (oX1 (p1a 0) p1a p1k p1n p1w p1l), (oX9 (p1a 3) p1_2a p1_2k p1_2n p1_2w)] : List va_W)) (List.flatten ([(tX5 p0k), (tX1 p1k), (tX9 p1_2k)] : List (List (ClassId × FieldType)))) (va_A (List.flatten ([(oX5 (p0a 0) p0a p0k p0w p0l), (oX1 (p1a 0) p1a p1k p1n p1w p1l), (oX9 (p1a 3) p1_2a p1_2k p1_2n p1_2w)] : List va_W)) sz) t) (va_A (List.flatten ([(oX5 (p0a 0) p0a p0k p0w p0l), (oX1 (p1a 0) p1a p1k p1n p1w p1l), (oX9 (p1a 3) p1_2a p1_2k p1_2n p1_2w)] : List va_W)) sz)) 0 0 (va_A (List.flatten ([(oX5 (p0a 0) p0a p0k p0w p0l), (oX1 (p1a 0) p1a p1k p1n p1w p1l), (oX9 (p1a 3) p1_2a p1_2k p1_2n p1_2w)] : List va_W)) sz) := by
  refine Met.ofW (cc := cX5_mayFail) (maxL := 5) (ret := (Option.some Jvm.ClassFile.FieldType.boolean)) (by decide) rfl ?_
  intro p e s m args below meth c s₁ B hml hv
  obtain ⟨rfl, hsz, hP, hK, hD0, hE⟩ := hv
  have hx := B.exec
  have hb := B.bytes
  have hr := B.returns
  have hts0 := atoms_spec (ws := wz yX5_mayFail cX5_mayFail 5 (Option.some Jvm.ClassFile.FieldType.boolean)) B.pre
  have hts : ∀ w ∈ gw, w.before _ s = true := fun w h => hts0 w (List.mem_cons_of_mem _ h)
  have hown : s.vm.findClass RX5 = some m.cls := findClass_of_methodNamed B.named
  have hlocks := B.notSynchronized
  subst hsz
  have hD := hD0.self (sz := s.heap.size)
  refine gQ9 ?_
  intro Q hQ
  generalize hAe : va_A (List.flatten ([(oX5 (p0a 0) p0a p0k p0w p0l), (oX1 (p1a 0) p1a p1k p1n p1w p1l), (oX9 (p1a 3) p1_2a p1_2k p1_2n p1_2w)] : List va_W)) s.heap.size = A at hD hE hQ
  have hA : ∀ q : Nat, s.heap.size ≤ q → A q := fun q h => by rw [← hAe]; exact Or.inr h
  have hS : va_S A s.heap s.heap [] := va_S.rf
  have hP : va_P (dC, dI) cls (List.flatten ([(oX5 (p0a 0) p0a p0k p0w p0l), (oX1 (p1a 0) p1a p1k p1n p1w p1l), (oX9 (p1a 3) p1_2a p1_2k p1_2n p1_2w)] : List va_W)) s.heap := hP
  have hl := lv_entry ([.ref (p0a 0), .ref (p1a 0), .int p2]) (n := 5) (Nat.le_of_ble_eq_true rfl)
  rw [lg_entry_eq]
  generalize (lg_sl ([.ref (p0a 0), .ref (p1a 0), .int p2]) ++ List.replicate (5 - (lg_sl ([.ref (p0a 0), .ref (p1a 0), .int p2])).length) Slot.unset).toArray = ls at hl ⊢
  have hl : lv_has ls 5 [(0, .ref (p0a 0)), (1, .ref (p1a 0)), (2, .int p2)] := hl
  obtain ⟨H, hHe⟩ : ∃ H, H = s.heap := ⟨_, rfl⟩
  obtain ⟨locs, hle⟩ : ∃ locs : List Loc, locs = [] := ⟨_, rfl⟩
  rw [← hHe] at hP
  have hS : va_S A s.heap H locs := by rw [hHe, hle]; exact hS
  show W p l e ({ frames := 1, cells := 0, slots := 0, locals := 22 } : Room) s m ([.ref (p0a 0), .ref (p1a 0), .int p2] : List Value).toArray below meth c s.heap [] 0 0 Q (F0 m 0 ls [])
  rw [← hle]
  refine wH9 hHe ?_
  unfold fX5_mayFail at hrun
  refine lv_aload_n hx hb dX5_mayFail_0 rfl (lv_at hl 1 rfl) ?_
  refine va_get (D := (dC, dI)) (ci := 4) (v := .ref (p1a 3)) (C := RX1) (T := TX1) (N := 21) hx hb hts i_X1 hown hK hP 10 rfl rfl 2 (by decide) (hts _ qw435) (fun _ h9 => h9) rfl dX5_mayFail_1 ?_
  refine va_get (D := (dC, dI)) (ci := 3) (v := .ref (p1_2a 2)) (C := RX9) (T := TX9) (N := 6) hx hb hts i_X9 hown hK hP 28 rfl rfl 1 (by decide) (hts _ qw420) (fun _ h9 => h9) rfl dX5_mayFail_4 ?_
  refine lv_iload_n hx hb dX5_mayFail_7 rfl (lv_at hl 2 rfl) ?_
  obtain ⟨hq1, hrun⟩ := chk9 hrun
  refine va_iald hx hb hK hP 29 26 rfl rfl (ixb_in hq1) dX5_mayFail_8 ?_
  refine lv_istore_n (lv' := [(3, .int (p1_2w 2 (nn p2))), (0, .ref (p0a 0)), (1, .ref (p1a 0)), (2, .int p2)]) hx hb dX5_mayFail_9 rfl hl (by decide) rfl (fun ls hl => ?_)
  refine lv_iload_n hx hb dX5_mayFail_10 rfl (lv_at hl 0 rfl) ?_
  refine lv_iconst (v := 4) hx hb dX5_mayFail_11 (by decide) ?_
  have J22 : ∀ (H : Heap) (locs : List Loc) (ls : Array Slot), (fX5_mayFail_J22 p0w p2 p1_2n p1_2w) = some o → va_P (dC, dI) cls (List.flatten ([(oX5 (p0a 0) p0a p0k p0w p0l), (oX1 (p1a 0) p1a p1k p1n p1w p1l), (oX9 (p1a 3) p1_2a p1_2k p1_2n p1_2w)] : List va_W)) H → va_D A (List.flatten ([(oX5 (p0a 0) p0a p0k p0w p0l), (oX1 (p1a 0) p1a p1k p1n p1w p1l), (oX9 (p1a 3) p1_2a p1_2k p1_2n p1_2w)] : List va_W)) → va_K (dC, dI) cls (List.flatten ([(tX5 p0k), (tX1 p1k), (tX9 p1_2k)] : List (List (ClassId × FieldType)))) s → va_S A s.heap H locs → lv_has ls 5 [(0, .ref (p0a 0)), (1, .ref (p1a 0)), (2, .int p2)] → W p l e ({ frames := 1, cells := 0, slots := 0, locals := 22 } : Room) s m ([.ref (p0a 0), .ref (p1a 0), .int p2] : List Value).toArray below meth c H locs 0 0 Q (F0 m 22 ls []) := by
    intro  H locs ls hrun hP hD hK hS hl 
    unfold fX5_mayFail_J22 at hrun
    refine lv_aload_n hx hb dX5_mayFail_22 rfl (lv_at hl 1 rfl) ?_
    refine va_get (D := (dC, dI)) (ci := 4) (v := .ref (p1a 3)) (C := RX1) (T := TX1) (N := 21) hx hb hts i_X1 hown hK hP 10 rfl rfl 2 (by decide) (hts _ qw435) (fun _ h9 => h9) rfl dX5_mayFail_23 ?_
    refine va_get (D := (dC, dI)) (ci := 3) (v := .ref (p1_2a 5)) (C := RX9) (T := TX9) (N := 6) hx hb hts i_X9 hown hK hP 28 rfl rfl 4 (by decide) (hts _ qw422) (fun _ h9 => h9) rfl dX5_mayFail_26 ?_
    refine lv_iload_n hx hb dX5_mayFail_29 rfl (lv_at hl 2 rfl) ?_
    obtain ⟨hq2, hrun⟩ := chk9 hrun
    refine va_iald hx hb hK hP 32 29 rfl rfl (ixb_in hq2) dX5_mayFail_30 ?_
    refine lv_istore (lv' := [(4, .int (p1_2w 5 (nn p2))), (0, .ref (p0a 0)), (1, .ref (p1a 0)), (2, .int p2)]) hx hb dX5_mayFail_31 hl (by decide) rfl (fun ls hl => ?_)
    refine lv_aload_n hx hb dX5_mayFail_33 rfl (lv_at hl 1 rfl) ?_
    refine lv_aload_n hx hb dX5_mayFail_34 rfl (lv_at hl 2 rfl) ?_
    refine lv_iload hx hb dX5_mayFail_35 (lv_at hl 0 rfl) ?_
    obtain ⟨o_3, hc_3, hrun⟩ := bnd9 hrun
    have hPx : va_P (dC, dI) cls ((List.flatten ([(oX5 (p0a 0) p0a p0k p0w p0l), (oX1 (p1a 0) p1a p1k p1n p1w p1l), (oX9 (p1a 3) p1_2a p1_2k p1_2n p1_2w)] : List va_W)) ++ (List.flatten ([] : List va_W))) H := vP_fa (vP_perm hP (bP (List.Perm.refl _)))
    have hDx : va_D A ((List.flatten ([(oX5 (p0a 0) p0a p0k p0w p0l), (oX1 (p1a 0) p1a p1k p1n p1w p1l), (oX9 (p1a 3) p1_2a p1_2k p1_2n p1_2w)] : List va_W)) ++ (List.flatten ([] : List va_W))) := vD_fa (vD_perm hD (bP (List.Perm.refl _)))
    have hKx : va_K (dC, dI) cls ((List.flatten ([(tX5 p0k), (tX1 p1k), (tX9 p1_2k)] : List (List (ClassId × FieldType)))) ++ (List.flatten ([] : List (List (ClassId × FieldType))))) s := vK_fa (vK_perm hK (bP (List.Perm.refl _)))
    have hPc := vP_l hPx
    have hDc := vD_l hDx
    have hKc := vK_l hKx
    have hFc := vfree hDx hS hA
    refine va_calli (va_runV (As := [.ref (p1a 0), .int (p1_2w 5 (nn p2))]) (rest := []) ⟨hx, hb, hml, hown, hts⟩ (kX5_isNumber l dC dI (p0a := p0a) (p0k := p0k) (p0w := p0w) (p0l := p0l) (p1a := p1a) (p1k := p1k) (p1n := p1n) (p1w := p1w) (p1l := p1l) (p2 := (p1_2w 5 (nn p2))) (p1_2a := p1_2a) (p1_2k := p1_2k) (p1_2n := p1_2n) (p1_2w := p1_2w) (sz := _) (o := o_3) (hrun := hc_3)) (cwV 2 hts (gi_V qw457 qw458 qw459 qw442 (gi_z qw456)) rfl rfl rfl (by decide +kernel) ⟨Nat.le_of_ble_eq_true rfl, Nat.le_of_ble_eq_true rfl⟩) ⟨PRE.blind, va_recv hKc hPc (ci := 7) (q0 := 0) rfl rfl, PRE.of hE hS hFc hPc hKc hDc⟩ rfl rfl hl.1 rfl (lv_room (Nat.le_of_ble_eq_true rfl)) dX5_mayFail_37 ⟨(Nat.le_of_ble_eq_true rfl), (Nat.le_of_ble_eq_true rfl)⟩) hS (fun q _ h => hFc q h) hFc (fun r4 u t H locs ht hvm hw hB hz1 hk1 hS => ?_)
    obtain ⟨b1, b2, b3⟩ := hB
    rw [ht] at b1
    obtain ⟨hP, hD, hK⟩ := JOINC (wc := (List.flatten ([(oX5 (p0a 0) p0a p0k p0w p0l), (oX1 (p1a 0) p1a p1k p1n p1w p1l), (oX9 (p1a 3) p1_2a p1_2k p1_2n p1_2w)] : List va_W))) (wr := (List.flatten ([] : List va_W))) (w1 := (List.flatten ([(oX5 (p0a 0) p0a p0k p0w p0l), (oX1 (p1a 0) p1a p1k p1n p1w p1l), (oX9 (p1a 3) p1_2a p1_2k p1_2n p1_2w)] : List va_W))) (t1 := (List.flatten ([(tX5 p0k), (tX1 p1k), (tX9 p1_2k)] : List (List (ClassId × FieldType))))) hPx hDx hKx hk1 hFc b1 (va_K.moved hvm.symm b2) b3
    have hP : va_P (dC, dI) cls (List.flatten ([(oX5 (p0a 0) p0a p0k p0w p0l), (oX1 (p1a 0) p1a p1k p1n p1w p1l), (oX9 (p1a 3) p1_2a p1_2k p1_2n p1_2w)] : List va_W)) H := vP_perm (vP_fb hP) (bP (List.Perm.refl _))
    have hD : va_D A (List.flatten ([(oX5 (p0a 0) p0a p0k p0w p0l), (oX1 (p1a 0) p1a p1k p1n p1w p1l), (oX9 (p1a 3) p1_2a p1_2k p1_2n p1_2w)] : List va_W)) := vD_perm (vD_fb hD) (bP (List.Perm.refl _))
    have hK : va_K (dC, dI) cls (List.flatten ([(tX5 p0k), (tX1 p1k), (tX9 p1_2k)] : List (List (ClassId × FieldType)))) s := vK_perm (vK_fb hK) (bP (List.Perm.refl _))
    obtain rfl : o_3 = r4 := hw.symm
    have J58 : ∀ (y0_58 : Int32) (H : Heap) (locs : List Loc) (ls : Array Slot), (fX5_mayFail_J58 y0_58) = some o → va_P (dC, dI) cls (List.flatten ([(oX5 (p0a 0) p0a p0k p0w p0l), (oX1 (p1a 0) p1a p1k p1n p1w p1l), (oX9 (p1a 3) p1_2a p1_2k p1_2n p1_2w)] : List va_W)) H → va_D A (List.flatten ([(oX5 (p0a 0) p0a p0k p0w p0l), (oX1 (p1a 0) p1a p1k p1n p1w p1l), (oX9 (p1a 3) p1_2a p1_2k p1_2n p1_2w)] : List va_W)) → va_K (dC, dI) cls (List.flatten ([(tX5 p0k), (tX1 p1k), (tX9 p1_2k)] : List (List (ClassId × FieldType)))) s → va_S A s.heap H locs → lv_has ls 5 [] → W p l e ({ frames := 1, cells := 0, slots := 0, locals := 22 } : Room) s m ([.ref (p0a 0), .ref (p1a 0), .int p2] : List Value).toArray below meth c H locs 0 0 Q (F0 m 58 ls [.int y0_58]) := by
      intro y0_58 H locs ls hrun hP hD hK hS hl 
      unfold fX5_mayFail_J58 at hrun
      obtain ⟨hz9, hrun⟩ := chk9 hrun
      have ho9 : y0_58 = o := Option.some.inj hrun
      have hP9 : va_P (dC, dI) cls (List.flatten ([(oX5 (p0a 0) p0a p0k p0w p0l), (oX1 (p1a 0) p1a p1k p1n p1w p1l), (oX9 (p1a 3) p1_2a p1_2k p1_2n p1_2w)] : List va_W)) H := by first | exact hP | (rw [← ho9]; exact hP)
      have hD9 : va_D A (List.flatten ([(oX5 (p0a 0) p0a p0k p0w p0l), (oX1 (p1a 0) p1a p1k p1n p1w p1l), (oX9 (p1a 3) p1_2a p1_2k p1_2n p1_2w)] : List va_W)) := by first | exact hD | (rw [← ho9]; exact hD)
      subst hQ
      exact W.zret (v := y0_58) hx hb hr (bz9 hz9) (fun t ht hW => ⟨⟨y0_58, (), rfl, (by rw [← ho9]), ⟨by rw [ht]; exact hP9, va_K.moved hW.alike hK, hD9⟩⟩, hS.F ht⟩) hS.2.2 dX5_mayFail_58
    have J53 : ∀ (H : Heap) (locs : List Loc) (ls : Array Slot), (fX5_mayFail_J53) = some o → va_P (dC, dI) cls (List.flatten ([(oX5 (p0a 0) p0a p0k p0w p0l), (oX1 (p1a 0) p1a p1k p1n p1w p1l), (oX9 (p1a 3) p1_2a p1_2k p1_2n p1_2w)] : List va_W)) H → va_D A (List.flatten ([(oX5 (p0a 0) p0a p0k p0w p0l), (oX1 (p1a 0) p1a p1k p1n p1w p1l), (oX9 (p1a 3) p1_2a p1_2k p1_2n p1_2w)] : List va_W)) → va_K (dC, dI) cls (List.flatten ([(tX5 p0k), (tX1 p1k), (tX9 p1_2k)] : List (List (ClassId × FieldType)))) s → va_S A s.heap H locs → lv_has ls 5 [] → W p l e ({ frames := 1, cells := 0, slots := 0, locals := 22 } : Room) s m ([.ref (p0a 0), .ref (p1a 0), .int p2] : List Value).toArray below meth c H locs 0 0 Q (F0 m 53 ls []) := by
      intro  H locs ls hrun hP hD hK hS hl 
      unfold fX5_mayFail_J53 at hrun
      refine lv_iconst (v := 1) hx hb dX5_mayFail_53 (by decide) ?_
      refine lv_goto (tgt := 58) hx hb dX5_mayFail_54 (by decide) ?_
      exact J58 1 _ _ _ hrun hP hD hK hS (lv_sub hl [] rfl)
    rcases br9 hrun with ⟨hc5, hrun⟩ | ⟨hc5, hrun⟩
    · refine lv_if_eq (tgt := 53) hx hb dX5_mayFail_40 (by decide) (fun _ => ?_) (fun c => absurd hc5 c)
      exact J53 _ _ _ hrun hP hD hK hS (lv_sub hl [] rfl)
    · refine lv_if_eq (tgt := 53) hx hb dX5_mayFail_40 (by decide) (fun c => absurd c hc5) (fun _ => ?_)
      refine lv_aload_n hx hb dX5_mayFail_43 rfl (lv_at hl 1 rfl) ?_
      refine lv_aload_n hx hb dX5_mayFail_44 rfl (lv_at hl 2 rfl) ?_
      refine lv_iload hx hb dX5_mayFail_45 (lv_at hl 0 rfl) ?_
      obtain ⟨o_6, hc_6, hrun⟩ := bnd9 hrun
      have hPx : va_P (dC, dI) cls ((List.flatten ([(oX5 (p0a 0) p0a p0k p0w p0l), (oX1 (p1a 0) p1a p1k p1n p1w p1l), (oX9 (p1a 3) p1_2a p1_2k p1_2n p1_2w)] : List va_W)) ++ (List.flatten ([] : List va_W))) H := vP_fa (vP_perm hP (bP (List.Perm.refl _)))
      have hDx : va_D A ((List.flatten ([(oX5 (p0a 0) p0a p0k p0w p0l), (oX1 (p1a 0) p1a p1k p1n p1w p1l), (oX9 (p1a 3) p1_2a p1_2k p1_2n p1_2w)] : List va_W)) ++ (List.flatten ([] : List va_W))) := vD_fa (vD_perm hD (bP (List.Perm.refl _)))
      have hKx : va_K (dC, dI) cls ((List.flatten ([(tX5 p0k), (tX1 p1k), (tX9 p1_2k)] : List (List (ClassId × FieldType)))) ++ (List.flatten ([] : List (List (ClassId × FieldType))))) s := vK_fa (vK_perm hK (bP (List.Perm.refl _)))
      have hPc := vP_l hPx
      have hDc := vD_l hDx
      have hKc := vK_l hKx
      have hFc := vfree hDx hS hA
      refine va_calli (va_runV (As := [.ref (p1a 0), .int (p1_2w 5 (nn p2))]) (rest := []) ⟨hx, hb, hml, hown, hts⟩ (kX5_numberOf l dC dI (p0a := p0a) (p0k := p0k) (p0w := p0w) (p0l := p0l) (p1a := p1a) (p1k := p1k) (p1n := p1n) (p1w := p1w) (p1l := p1l) (p2 := (p1_2w 5 (nn p2))) (p1_2a := p1_2a) (p1_2k := p1_2k) (p1_2n := p1_2n) (p1_2w := p1_2w) (sz := _) (o := o_6) (hrun := hc_6)) (cwV 2 hts (gi_V qw461 qw462 qw463 qw442 (gi_z qw460)) rfl rfl rfl (by decide +kernel) ⟨Nat.le_of_ble_eq_true rfl, Nat.le_of_ble_eq_true rfl⟩) ⟨PRE.blind, va_recv hKc hPc (ci := 7) (q0 := 0) rfl rfl, PRE.of hE hS hFc hPc hKc hDc⟩ rfl rfl hl.1 rfl (lv_room (Nat.le_of_ble_eq_true rfl)) dX5_mayFail_47 ⟨(Nat.le_of_ble_eq_true rfl), (Nat.le_of_ble_eq_true rfl)⟩) hS (fun q _ h => hFc q h) hFc (fun r7 u t H locs ht hvm hw hB hz1 hk1 hS => ?_)
      obtain ⟨b1, b2, b3⟩ := hB
      rw [ht] at b1
      obtain ⟨hP, hD, hK⟩ := JOINC (wc := (List.flatten ([(oX5 (p0a 0) p0a p0k p0w p0l), (oX1 (p1a 0) p1a p1k p1n p1w p1l), (oX9 (p1a 3) p1_2a p1_2k p1_2n p1_2w)] : List va_W))) (wr := (List.flatten ([] : List va_W))) (w1 := (List.flatten ([(oX5 (p0a 0) p0a p0k p0w p0l), (oX1 (p1a 0) p1a p1k p1n p1w p1l), (oX9 (p1a 3) p1_2a p1_2k p1_2n p1_2w)] : List va_W))) (t1 := (List.flatten ([(tX5 p0k), (tX1 p1k), (tX9 p1_2k)] : List (List (ClassId × FieldType))))) hPx hDx hKx hk1 hFc b1 (va_K.moved hvm.symm b2) b3
      have hP : va_P (dC, dI) cls (List.flatten ([(oX5 (p0a 0) p0a p0k p0w p0l), (oX1 (p1a 0) p1a p1k p1n p1w p1l), (oX9 (p1a 3) p1_2a p1_2k p1_2n p1_2w)] : List va_W)) H := vP_perm (vP_fb hP) (bP (List.Perm.refl _))
      have hD : va_D A (List.flatten ([(oX5 (p0a 0) p0a p0k p0w p0l), (oX1 (p1a 0) p1a p1k p1n p1w p1l), (oX9 (p1a 3) p1_2a p1_2k p1_2n p1_2w)] : List va_W)) := vD_perm (vD_fb hD) (bP (List.Perm.refl _))
      have hK : va_K (dC, dI) cls (List.flatten ([(tX5 p0k), (tX1 p1k), (tX9 p1_2k)] : List (List (ClassId × FieldType)))) s := vK_perm (vK_fb hK) (bP (List.Perm.refl _))
      obtain rfl : o_6 = r7 := hw.symm
      rcases br9 hrun with ⟨hc8, hrun⟩ | ⟨hc8, hrun⟩
      · refine lv_if_ne (tgt := 57) hx hb dX5_mayFail_50 (by decide) (fun c => absurd hc8 c) (fun _ => ?_)
        exact J53 _ _ _ hrun hP hD hK hS (lv_sub hl [] rfl)
      · refine lv_if_ne (tgt := 57) hx hb dX5_mayFail_50 (by decide) (fun _ => ?_) (fun c => absurd c hc8)
        refine lv_iconst (v := 0) hx hb dX5_mayFail_57 (by decide) ?_
        exact J58 0 _ _ _ hrun hP hD hK hS (lv_sub hl [] rfl)
  rcases br9 hrun with ⟨hc9, hrun⟩ | ⟨hc9, hrun⟩
  · refine lv_icmp_eq (tgt := 22) hx hb dX5_mayFail_12 (by decide) (fun _ => ?_) (fun c => absurd hc9 c)
    exact J22 _ _ _ hrun hP hD hK hS (lv_sub hl [1, 2, 3] rfl)
  · refine lv_icmp_eq (tgt := 22) hx hb dX5_mayFail_12 (by decide) (fun c => absurd c hc9) (fun _ => ?_)
    refine lv_iload_n hx hb dX5_mayFail_15 rfl (lv_at hl 0 rfl) ?_
    refine lv_iconst (v := 5) hx hb dX5_mayFail_16 (by decide) ?_
    rcases br9 hrun with ⟨hc10, hrun⟩ | ⟨hc10, hrun⟩
    · refine lv_icmp_eq (tgt := 22) hx hb dX5_mayFail_17 (by decide) (fun _ => ?_) (fun c => absurd hc10 c)
      exact J22 _ _ _ hrun hP hD hK hS (lv_sub hl [1, 2, 3] rfl)
    · refine lv_icmp_eq (tgt := 22) hx hb dX5_mayFail_17 (by decide) (fun c => absurd c hc10) (fun _ => ?_)
      refine lv_iconst (v := 0) hx hb dX5_mayFail_20 (by decide) ?_
      have ho9 : 0 = o := Option.some.inj hrun
      have hP9 : va_P (dC, dI) cls (List.flatten ([(oX5 (p0a 0) p0a p0k p0w p0l), (oX1 (p1a 0) p1a p1k p1n p1w p1l), (oX9 (p1a 3) p1_2a p1_2k p1_2n p1_2w)] : List va_W)) H := by first | exact hP | (rw [← ho9]; exact hP)
      have hD9 : va_D A (List.flatten ([(oX5 (p0a 0) p0a p0k p0w p0l), (oX1 (p1a 0) p1a p1k p1n p1w p1l), (oX9 (p1a 3) p1_2a p1_2k p1_2n p1_2w)] : List va_W)) := by first | exact hD | (rw [← ho9]; exact hD)
      subst hQ
      exact W.zret (v := 0) hx hb hr (by decide) (fun t ht hW => ⟨⟨0, (), rfl, (by rw [← ho9]), ⟨by rw [ht]; exact hP9, va_K.moved hW.alike hK, hD9⟩⟩, hS.F ht⟩) hS.2.2 dX5_mayFail_21
def fX5_wantInBlock_J196 (kk42 : Int32 → Int32 → ST → Option (Int32 × ST)) (p1_2n : Nat → Nat) (p1_2w : ST) (v5_42 : Int32) (v3_196 : Int32) (p0w_196 : ST) : Option (Int32 × ST) := (if ixb v5_42 (p1_2n 6) = true then (kk42 v3_196 (p1_2w 6 (nn v5_42)) p0w_196) else none)
def fX5_wantInBlock_J195 (kk42 : Int32 → Int32 → ST → Option (Int32 × ST)) (p1_2n : Nat → Nat) (p1_2w : ST) (v5_42 : Int32) (o_12 : Int32 × ST) (y0_195 : Int32) : Option (Int32 × ST) := (fX5_wantInBlock_J196 kk42 p1_2n p1_2w v5_42 y0_195 (o_12.2))
def fX5_wantInBlock_J190 (kk42 : Int32 → Int32 → ST → Option (Int32 × ST)) (p1_2n : Nat → Nat) (p1_2w : ST) (v5_42 : Int32) (o_12 : Int32 × ST) : Option (Int32 × ST) := (fX5_wantInBlock_J195 kk42 p1_2n p1_2w v5_42 o_12 1)
def fX5_wantInBlock_J148 (kk42 : Int32 → Int32 → ST → Option (Int32 × ST)) (p1_2n : Nat → Nat) (p1_2w : ST) (v5_42 : Int32) (v3_148 : Int32) (p0w_148 : ST) : Option (Int32 × ST) := (if ixb v5_42 (p1_2n 3) = true then (if (p1_2w 3 (nn v5_42)) < 0 then (fX5_wantInBlock_J196 kk42 p1_2n p1_2w v5_42 v3_148 p0w_148) else (if ixb v5_42 (p1_2n 3) = true then (if ixb (p1_2w 3 (nn v5_42)) 250 = true then (if (p0w_148 7 (nn (p1_2w 3 (nn v5_42)))) = 0 then ((fX5_wantUsed p0w_148 p1_2n p1_2w v5_42).bind fun (o_12 : Int32 × ST) => (if (o_12.1) = 0 then (if v3_148 = 0 then (fX5_wantInBlock_J195 kk42 p1_2n p1_2w v5_42 o_12 0) else (fX5_wantInBlock_J190 kk42 p1_2n p1_2w v5_42 o_12)) else (fX5_wantInBlock_J190 kk42 p1_2n p1_2w v5_42 o_12))) else (fX5_wantInBlock_J196 kk42 p1_2n p1_2w v5_42 v3_148 p0w_148)) else none) else none)) else none)
def fX5_wantInBlock_J147 (kk42 : Int32 → Int32 → ST → Option (Int32 × ST)) (p1_2n : Nat → Nat) (p1_2w : ST) (v5_42 : Int32) (o_21 : Int32 × ST) (y0_147 : Int32) : Option (Int32 × ST) := (fX5_wantInBlock_J148 kk42 p1_2n p1_2w v5_42 y0_147 (o_21.2))
def fX5_wantInBlock_J142 (kk42 : Int32 → Int32 → ST → Option (Int32 × ST)) (p1_2n : Nat → Nat) (p1_2w : ST) (v5_42 : Int32) (o_21 : Int32 × ST) : Option (Int32 × ST) := (fX5_wantInBlock_J147 kk42 p1_2n p1_2w v5_42 o_21 1)
def fX5_wantInBlock_J102 (kk42 : Int32 → Int32 → ST → Option (Int32 × ST)) (p1_2n : Nat → Nat) (p1_2w : ST) (v5_42 : Int32) (v3_102 : Int32) (p0w_102 : ST) : Option (Int32 × ST) := (if ixb v5_42 (p1_2n 3) = true then (if (p1_2w 3 (nn v5_42)) < 0 then (fX5_wantInBlock_J148 kk42 p1_2n p1_2w v5_42 v3_102 p0w_102) else ((fX5_mayFail p0w_102 v5_42 p1_2n p1_2w).bind fun (o_17 : Int32) => (if o_17 = 0 then (fX5_wantInBlock_J148 kk42 p1_2n p1_2w v5_42 v3_102 p0w_102) else (if ixb v5_42 (p1_2n 3) = true then ((fX5_want p0w_102 (p1_2w 3 (nn v5_42))).bind fun (o_21 : Int32 × ST) => (if (o_21.1) = 0 then (if v3_102 = 0 then (fX5_wantInBlock_J147 kk42 p1_2n p1_2w v5_42 o_21 0) else (fX5_wantInBlock_J142 kk42 p1_2n p1_2w v5_42 o_21)) else (fX5_wantInBlock_J142 kk42 p1_2n p1_2w v5_42 o_21))) else none)))) else none)
def fX5_wantInBlock_J101 (kk42 : Int32 → Int32 → ST → Option (Int32 × ST)) (p1_2n : Nat → Nat) (p1_2w : ST) (v5_42 : Int32) (o_25 : Int32 × ST) (y0_101 : Int32) : Option (Int32 × ST) := (fX5_wantInBlock_J102 kk42 p1_2n p1_2w v5_42 y0_101 (o_25.2))
def fX5_wantInBlock_J96 (kk42 : Int32 → Int32 → ST → Option (Int32 × ST)) (p1_2n : Nat → Nat) (p1_2w : ST) (v5_42 : Int32) (o_25 : Int32 × ST) : Option (Int32 × ST) := (fX5_wantInBlock_J101 kk42 p1_2n p1_2w v5_42 o_25 1)
def fX5_wantInBlock_J81 (kk42 : Int32 → Int32 → ST → Option (Int32 × ST)) (p1_2n : Nat → Nat) (p1_2w : ST) (v3_42 : Int32) (v5_42 : Int32) (p0w_42 : ST) : Option (Int32 × ST) := ((fX5_wantUsed p0w_42 p1_2n p1_2w v5_42).bind fun (o_25 : Int32 × ST) => (if (o_25.1) = 0 then (if v3_42 = 0 then (fX5_wantInBlock_J101 kk42 p1_2n p1_2w v5_42 o_25 0) else (fX5_wantInBlock_J96 kk42 p1_2n p1_2w v5_42 o_25)) else (fX5_wantInBlock_J96 kk42 p1_2n p1_2w v5_42 o_25)))
def fX5_wantInBlock_L42 (p1_2n : Nat → Nat) (p1_2w : ST) : Nat → Int32 → Int32 → ST → Option (Int32 × ST)
  | 0 => fun _ _ _ => none
  | n_42 + 1 => fun v3_42 v5_42 p0w_42 => (if v5_42 < 0 then some (v3_42, p0w_42) else (if ixb v5_42 (p1_2n 2) = true then (if (p1_2w 2 (nn v5_42)) = 18 then (fX5_wantInBlock_J81 (fX5_wantInBlock_L42 p1_2n p1_2w n_42) p1_2n p1_2w v3_42 v5_42 p0w_42) else (if (p1_2w 2 (nn v5_42)) = 19 then (fX5_wantInBlock_J81 (fX5_wantInBlock_L42 p1_2n p1_2w n_42) p1_2n p1_2w v3_42 v5_42 p0w_42) else ((fX5_mayFail p0w_42 v5_42 p1_2n p1_2w).bind fun (o_31 : Int32) => (if o_31 = 0 then (fX5_wantInBlock_J102 (fX5_wantInBlock_L42 p1_2n p1_2w n_42) p1_2n p1_2w v5_42 v3_42 p0w_42) else (fX5_wantInBlock_J81 (fX5_wantInBlock_L42 p1_2n p1_2w n_42) p1_2n p1_2w v3_42 v5_42 p0w_42))))) else none))
def fX5_wantInBlock_J286 (kk217 : Int32 → Int32 → ST → Option (Int32 × ST)) (p1n : Nat → Nat) (p1w : ST) (v5_217 : Int32) (v3_286 : Int32) (p0w_286 : ST) : Option (Int32 × ST) := (if ixb v5_217 (p1n 20) = true then (kk217 v3_286 (p1w 20 (nn v5_217)) p0w_286) else none)
def fX5_wantInBlock_J279 (kk240 : Int32 → Int32 → ST → Option (Int32 × ST)) (v6_240 : Int32) (o_47 : Int32 × ST) (y0_279 : Int32) : Option (Int32 × ST) := (kk240 y0_279 (v6_240 + 1) (o_47.2))
def fX5_wantInBlock_J274 (kk240 : Int32 → Int32 → ST → Option (Int32 × ST)) (v6_240 : Int32) (o_47 : Int32 × ST) : Option (Int32 × ST) := (fX5_wantInBlock_J279 kk240 v6_240 o_47 1)
def fX5_wantInBlock_L240 (p1n : Nat → Nat) (p1w : ST) (p2 : Int32) (v5_217 : Int32) : Nat → Int32 → Int32 → ST → Option (Int32 × ST)
  | 0 => fun _ _ _ => none
  | n_240 + 1 => fun v3_240 v6_240 p0w_240 => ((fX1_waysTo p1w p2).bind fun (o_40 : Int32) => (if o_40 ≤ v6_240 then some (v3_240, p0w_240) else ((fX1_wayFrom p1w p2 v6_240).bind fun (o_43 : Int32) => ((fX1_take p1n p1w v5_217 o_43).bind fun (o_45 : Int32) => ((fX5_want p0w_240 o_45).bind fun (o_47 : Int32 × ST) => (if (o_47.1) = 0 then (if v3_240 = 0 then (fX5_wantInBlock_J279 (fX5_wantInBlock_L240 p1n p1w p2 v5_217 n_240) v6_240 o_47 0) else (fX5_wantInBlock_J274 (fX5_wantInBlock_L240 p1n p1w p2 v5_217 n_240) v6_240 o_47)) else (fX5_wantInBlock_J274 (fX5_wantInBlock_L240 p1n p1w p2 v5_217 n_240) v6_240 o_47)))))))
def fX5_wantInBlock_L217 (p1n : Nat → Nat) (p1w : ST) (p2 : Int32) : Nat → Int32 → Int32 → ST → Option (Int32 × ST)
  | 0 => fun _ _ _ => none
  | n_217 + 1 => fun v3_217 v5_217 p0w_217 => (if v5_217 < 0 then some (v3_217, p0w_217) else (if ixb v5_217 (p1n 19) = true then (if ixb (p1w 19 (nn v5_217)) 250 = true then (if (p0w_217 7 (nn (p1w 19 (nn v5_217)))) = 0 then ((fX5_wantInBlock_L240 p1n p1w p2 v5_217 NF v3_217 0 p0w_217).bind fun (o240 : Int32 × ST) => (fX5_wantInBlock_J286 (fX5_wantInBlock_L217 p1n p1w p2 n_217) p1n p1w v5_217 (o240.1) (o240.2))) else (fX5_wantInBlock_J286 (fX5_wantInBlock_L217 p1n p1w p2 n_217) p1n p1w v5_217 v3_217 p0w_217)) else none) else none))
def fX5_wantInBlock_J27 (p1n : Nat → Nat) (p1w : ST) (p2 : Int32) (p1_2n : Nat → Nat) (p1_2w : ST) (y0_27 : Int32) (p0w_27 : ST) : Option (Int32 × ST) := (if ixb p2 60 = true then ((fX5_wantInBlock_L42 p1_2n p1_2w NF y0_27 (p1w 4 (nn p2)) p0w_27).bind fun (o42 : Int32 × ST) => (if ixb p2 60 = true then ((fX5_wantInBlock_L217 p1n p1w p2 NF (o42.1) (p1w 6 (nn p2)) (o42.2)).bind fun (o217 : Int32 × ST) => (if (o217.1) = 0 ∨ (o217.1) = 1 then some ((o217.1), (o217.2)) else none)) else none)) else none)
def fX5_wantInBlock_J26 (p1n : Nat → Nat) (p1w : ST) (p2 : Int32) (p1_2n : Nat → Nat) (p1_2w : ST) (p0w_26 : ST) : Option (Int32 × ST) := (fX5_wantInBlock_J27 p1n p1w p2 p1_2n p1_2w 0 p0w_26)
def fX5_wantInBlock (p0w : ST) (p1n : Nat → Nat) (p1w : ST) (p2 : Int32) (p1_2n : Nat → Nat) (p1_2w : ST) : Option (Int32 × ST) := (if ixb p2 60 = true then (if (p1w 9 (nn p2)) < 0 then (fX5_wantInBlock_J26 p1n p1w p2 p1_2n p1_2w p0w) else (if ixb p2 60 = true then ((fX5_want p0w (p1w 9 (nn p2))).bind fun (o_53 : Int32 × ST) => (if (o_53.1) = 0 then (fX5_wantInBlock_J26 p1n p1w p2 p1_2n p1_2w (o_53.2)) else (fX5_wantInBlock_J27 p1n p1w p2 p1_2n p1_2w 1 (o_53.2)))) else none)) else none)
set_option maxHeartbeats 16000000 in
set_option maxRecDepth 100000 in
theorem kX5_wantInBlock {zs : ZS} (l : Launch) (dC : Nat → ClassId) (dI : Nat → Nat → Nat) (p0a : Nat → Nat) (p0k : Nat → ClassId) (p0w : ST) (p0l : SL) (p1a : Nat → Nat) (p1k : Nat → ClassId) (p1n : Nat → Nat) (p1w : ST) (p1l : SL) (p2 : Int32) (p1_2a : Nat → Nat) (p1_2k : Nat → ClassId) (p1_2n : Nat → Nat) (p1_2w : ST) (sz : Nat) (o : Int32 × ST) (hrun : fX5_wantInBlock p0w p1n p1w p2 p1_2n p1_2w = some o) : Met l yX5_wantInBlock (wz yX5_wantInBlock cX5_wantInBlock 7 (Option.some Jvm.ClassFile.FieldType.boolean)) ({ frames := 3, cells := 0, slots := 0, locals := 63 } : Room) (va_Pc [.ref (p0a 0), .ref (p1a 0), .int p2] (PRE zs dC dI (List.flatten ([(oX5 (p0a 0) p0a p0k p0w p0l), (oX1 (p1a 0) p1a p1k p1n p1w p1l), (oX9 (p1a 3) p1_2a p1_2k p1_2n p1_2w)] : List va_W)) (List.flatten ([(tX5 p0k), (tX1 p1k), (tX9 p1_2k)] : List (List (ClassId × FieldType)))) sz)) (va_Qi (fun (r : Int32) (_ : Unit) => r = (o.1)) (fun _ t => POST dC dI (List.flatten ([(oX5 (p0a 0) p0a p0k (o.2) p0l), (oX1 (p1a 0) p1a p1k p1n p1w p1l), (oX9 (p1a 3) p1_2a p1_2k p1_2n p1_2w)] : List va_W)) (List.flatten ([(tX5 p0k), (tX1 p1k), (tX9 p1_2k)] : List (List (ClassId × FieldType)))) (va_A (List.flatten ([(oX5 (p0a 0) p0a p0k p0w p0l), (oX1 (p1a 0) p1a p1k p1n p1w p1l), (oX9 (p1a 3) p1_2a p1_2k p1_2n p1_2w)] : List va_W)) sz) t) (va_A (List.flatten ([(oX5 (p0a 0) p0a p0k p0w p0l), (oX1 (p1a 0) p1a p1k p1n p1w p1l), (oX9 (p1a 3) p1_2a p1_2k p1_2n p1_2w)] : List va_W)) sz)) 0 0 (va_A (List.flatten ([(oX5 (p0a 0) p0a p0k p0w p0l), (oX1 (p1a 0) p1a p1k p1n p1w p1l), (oX9 (p1a 3) p1_2a p1_2k p1_2n p1_2w)] : List va_W)) sz) := by
  refine Met.ofW (cc := cX5_wantInBlock) (maxL := 7) (ret := (Option.some Jvm.ClassFile.FieldType.boolean)) (by decide) rfl ?_
  intro p e s m args below meth c s₁ B hml hv
  obtain ⟨rfl, hsz, hP, hK, hD0, hE⟩ := hv
  have hx := B.exec
  have hb := B.bytes
  have hr := B.returns
  have hts0 := atoms_spec (ws := wz yX5_wantInBlock cX5_wantInBlock 7 (Option.some Jvm.ClassFile.FieldType.boolean)) B.pre
  have hts : ∀ w ∈ gw, w.before _ s = true := fun w h => hts0 w (List.mem_cons_of_mem _ h)
  have hown : s.vm.findClass RX5 = some m.cls := findClass_of_methodNamed B.named
  have hlocks := B.notSynchronized
  subst hsz
  have hD := hD0.self (sz := s.heap.size)
  refine gQ9 ?_
  intro Q hQ
  generalize hAe : va_A (List.flatten ([(oX5 (p0a 0) p0a p0k p0w p0l), (oX1 (p1a 0) p1a p1k p1n p1w p1l), (oX9 (p1a 3) p1_2a p1_2k p1_2n p1_2w)] : List va_W)) s.heap.size = A at hD hE hQ
  have hA : ∀ q : Nat, s.heap.size ≤ q → A q := fun q h => by rw [← hAe]; exact Or.inr h
  have hS : va_S A s.heap s.heap [] := va_S.rf
  have hP : va_P (dC, dI) cls (List.flatten ([(oX5 (p0a 0) p0a p0k p0w p0l), (oX1 (p1a 0) p1a p1k p1n p1w p1l), (oX9 (p1a 3) p1_2a p1_2k p1_2n p1_2w)] : List va_W)) s.heap := hP
  have hl := lv_entry ([.ref (p0a 0), .ref (p1a 0), .int p2]) (n := 7) (Nat.le_of_ble_eq_true rfl)
  rw [lg_entry_eq]
  generalize (lg_sl ([.ref (p0a 0), .ref (p1a 0), .int p2]) ++ List.replicate (7 - (lg_sl ([.ref (p0a 0), .ref (p1a 0), .int p2])).length) Slot.unset).toArray = ls at hl ⊢
  have hl : lv_has ls 7 [(0, .ref (p0a 0)), (1, .ref (p1a 0)), (2, .int p2)] := hl
  obtain ⟨H, hHe⟩ : ∃ H, H = s.heap := ⟨_, rfl⟩
  obtain ⟨locs, hle⟩ : ∃ locs : List Loc, locs = [] := ⟨_, rfl⟩
  rw [← hHe] at hP
  have hS : va_S A s.heap H locs := by rw [hHe, hle]; exact hS
  show W p l e ({ frames := 3, cells := 0, slots := 0, locals := 63 } : Room) s m ([.ref (p0a 0), .ref (p1a 0), .int p2] : List Value).toArray below meth c s.heap [] 0 0 Q (F0 m 0 ls [])
  rw [← hle]
  refine wH9 hHe ?_
  unfold fX5_wantInBlock at hrun
  refine lv_aload_n hx hb dX5_wantInBlock_0 rfl (lv_at hl 1 rfl) ?_
  refine va_get (D := (dC, dI)) (ci := 4) (v := .ref (p1a 9)) (C := RX1) (T := TX1) (N := 21) hx hb hts i_X1 hown hK hP 10 rfl rfl 8 (by decide) (hts _ qw445) (fun _ h9 => h9) rfl dX5_wantInBlock_1 ?_
  refine lv_iload_n hx hb dX5_wantInBlock_4 rfl (lv_at hl 2 rfl) ?_
  obtain ⟨hq1, hrun⟩ := chk9 hrun
  refine va_iald hx hb hK hP 16 14 rfl rfl (ixb_in hq1) dX5_wantInBlock_5 ?_
  have J27 : ∀ (y0_27 : Int32) (p0w_27 : ST) (H : Heap) (locs : List Loc) (ls : Array Slot), (fX5_wantInBlock_J27 p1n p1w p2 p1_2n p1_2w y0_27 p0w_27) = some o → va_P (dC, dI) cls (List.flatten ([(oX5 (p0a 0) p0a p0k p0w_27 p0l), (oX1 (p1a 0) p1a p1k p1n p1w p1l), (oX9 (p1a 3) p1_2a p1_2k p1_2n p1_2w)] : List va_W)) H → va_D A (List.flatten ([(oX5 (p0a 0) p0a p0k p0w_27 p0l), (oX1 (p1a 0) p1a p1k p1n p1w p1l), (oX9 (p1a 3) p1_2a p1_2k p1_2n p1_2w)] : List va_W)) → va_K (dC, dI) cls (List.flatten ([(tX5 p0k), (tX1 p1k), (tX9 p1_2k)] : List (List (ClassId × FieldType)))) s → va_S A s.heap H locs → lv_has ls 7 [(0, .ref (p0a 0)), (1, .ref (p1a 0)), (2, .int p2)] → W p l e ({ frames := 3, cells := 0, slots := 0, locals := 63 } : Room) s m ([.ref (p0a 0), .ref (p1a 0), .int p2] : List Value).toArray below meth c H locs 0 0 Q (F0 m 27 ls [.int y0_27]) := by
    intro y0_27 p0w_27 H locs ls hrun hP hD hK hS hl 
    unfold fX5_wantInBlock_J27 at hrun
    refine lv_istore_n (lv' := [(3, .int y0_27), (0, .ref (p0a 0)), (1, .ref (p1a 0)), (2, .int p2)]) hx hb dX5_wantInBlock_27 rfl hl (by decide) rfl (fun ls hl => ?_)
    refine lv_aload_n hx hb dX5_wantInBlock_28 rfl (lv_at hl 2 rfl) ?_
    refine va_get (D := (dC, dI)) (ci := 4) (v := .ref (p1a 3)) (C := RX1) (T := TX1) (N := 21) hx hb hts i_X1 hown hK hP 10 rfl rfl 2 (by decide) (hts _ qw435) (fun _ h9 => h9) rfl dX5_wantInBlock_29 ?_
    refine lv_astore (lv' := [(4, .ref (p1a 3)), (3, .int y0_27), (0, .ref (p0a 0)), (1, .ref (p1a 0)), (2, .int p2)]) hx hb dX5_wantInBlock_32 hl (by decide) rfl (fun ls hl => ?_)
    refine lv_aload_n hx hb dX5_wantInBlock_34 rfl (lv_at hl 3 rfl) ?_
    refine va_get (D := (dC, dI)) (ci := 4) (v := .ref (p1a 4)) (C := RX1) (T := TX1) (N := 21) hx hb hts i_X1 hown hK hP 10 rfl rfl 3 (by decide) (hts _ qw434) (fun _ h9 => h9) rfl dX5_wantInBlock_35 ?_
    refine lv_iload_n hx hb dX5_wantInBlock_38 rfl (lv_at hl 4 rfl) ?_
    obtain ⟨hq2, hrun⟩ := chk9 hrun
    refine va_iald hx hb hK hP 11 9 rfl rfl (ixb_in hq2) dX5_wantInBlock_39 ?_
    refine lv_istore (lv' := [(5, .int (p1w 4 (nn p2))), (4, .ref (p1a 3)), (3, .int y0_27), (0, .ref (p0a 0)), (1, .ref (p1a 0)), (2, .int p2)]) hx hb dX5_wantInBlock_40 hl (by decide) rfl (fun ls hl => ?_)
    have L42 : ∀ (n_42 : Nat) (v3_42 : Int32) (v5_42 : Int32) (p0w_42 : ST) (o42 : Int32 × ST) (H : Heap) (locs : List Loc) (ls : Array Slot), (fX5_wantInBlock_L42 p1_2n p1_2w n_42) v3_42 v5_42 p0w_42 = some o42 → va_P (dC, dI) cls (List.flatten ([(oX5 (p0a 0) p0a p0k p0w_42 p0l), (oX1 (p1a 0) p1a p1k p1n p1w p1l), (oX9 (p1a 3) p1_2a p1_2k p1_2n p1_2w)] : List va_W)) H → va_D A (List.flatten ([(oX5 (p0a 0) p0a p0k p0w_42 p0l), (oX1 (p1a 0) p1a p1k p1n p1w p1l), (oX9 (p1a 3) p1_2a p1_2k p1_2n p1_2w)] : List va_W)) → va_K (dC, dI) cls (List.flatten ([(tX5 p0k), (tX1 p1k), (tX9 p1_2k)] : List (List (ClassId × FieldType)))) s → va_S A s.heap H locs → lv_has ls 7 [(0, .ref (p0a 0)), (1, .ref (p1a 0)), (2, .int p2), (3, .int v3_42), (4, .ref (p1a 3)), (5, .int v5_42)] → (∀ (H : Heap) (locs : List Loc) (ls : Array Slot), va_P (dC, dI) cls (List.flatten ([(oX5 (p0a 0) p0a p0k (o42.2) p0l), (oX1 (p1a 0) p1a p1k p1n p1w p1l), (oX9 (p1a 3) p1_2a p1_2k p1_2n p1_2w)] : List va_W)) H → va_D A (List.flatten ([(oX5 (p0a 0) p0a p0k (o42.2) p0l), (oX1 (p1a 0) p1a p1k p1n p1w p1l), (oX9 (p1a 3) p1_2a p1_2k p1_2n p1_2w)] : List va_W)) → va_K (dC, dI) cls (List.flatten ([(tX5 p0k), (tX1 p1k), (tX9 p1_2k)] : List (List (ClassId × FieldType)))) s → va_S A s.heap H locs → lv_has ls 7 [(0, .ref (p0a 0)), (1, .ref (p1a 0)), (2, .int p2), (3, .int (o42.1))] → W p l e ({ frames := 3, cells := 0, slots := 0, locals := 63 } : Room) s m ([.ref (p0a 0), .ref (p1a 0), .int p2] : List Value).toArray below meth c H locs 0 0 Q (F0 m 209 ls [])) → W p l e ({ frames := 3, cells := 0, slots := 0, locals := 63 } : Room) s m ([.ref (p0a 0), .ref (p1a 0), .int p2] : List Value).toArray below meth c H locs 0 0 Q (F0 m 42 ls []) := by
      intro n_42
      induction n_42 with
      | zero => intro v3_42 v5_42 p0w_42 o42 H locs ls hrun; exact (no9 rfl hrun).elim
      | succ n_42 IH42 =>
        intro v3_42 v5_42 p0w_42 o42 H locs ls hrun hP hD hK hS hl hk42
        unfold fX5_wantInBlock_L42 at hrun
        refine lv_iload hx hb dX5_wantInBlock_42 (lv_at hl 5 rfl) ?_
        rcases br9 hrun with ⟨hc3, hrun⟩ | ⟨hc3, hrun⟩
        · refine lv_if_lt (tgt := 209) hx hb dX5_wantInBlock_44 (by decide) (fun _ => ?_) (fun c => absurd hc3 c)
          obtain rfl := (Option.some.inj hrun)
          exact hk42 _ _ _ hP hD hK hS (lv_sub hl [0, 1, 2, 3] rfl)
        · refine lv_if_lt (tgt := 209) hx hb dX5_wantInBlock_44 (by decide) (fun c => absurd c hc3) (fun _ => ?_)
          refine lv_aload hx hb dX5_wantInBlock_47 (lv_at hl 4 rfl) ?_
          refine va_get (D := (dC, dI)) (ci := 3) (v := .ref (p1_2a 2)) (C := RX9) (T := TX9) (N := 6) hx hb hts i_X9 hown hK hP 28 rfl rfl 1 (by decide) (hts _ qw420) (fun _ h9 => h9) rfl dX5_wantInBlock_49 ?_
          refine lv_iload hx hb dX5_wantInBlock_52 (lv_at hl 5 rfl) ?_
          obtain ⟨hq4, hrun⟩ := chk9 hrun
          refine va_iald hx hb hK hP 29 26 rfl rfl (ixb_in hq4) dX5_wantInBlock_54 ?_
          refine lv_istore (lv' := [(6, .int (p1_2w 2 (nn v5_42))), (0, .ref (p0a 0)), (1, .ref (p1a 0)), (2, .int p2), (3, .int v3_42), (4, .ref (p1a 3)), (5, .int v5_42)]) hx hb dX5_wantInBlock_55 hl (by decide) rfl (fun ls hl => ?_)
          refine lv_iload hx hb dX5_wantInBlock_57 (lv_at hl 0 rfl) ?_
          refine lv_bipush (v := 18) hx hb dX5_wantInBlock_59 (by decide) ?_
          have J102 : ∀ (v3_102 : Int32) (p0w_102 : ST) (H : Heap) (locs : List Loc) (ls : Array Slot), (fX5_wantInBlock_J102 (fX5_wantInBlock_L42 p1_2n p1_2w n_42) p1_2n p1_2w v5_42 v3_102 p0w_102) = some o42 → va_P (dC, dI) cls (List.flatten ([(oX5 (p0a 0) p0a p0k p0w_102 p0l), (oX1 (p1a 0) p1a p1k p1n p1w p1l), (oX9 (p1a 3) p1_2a p1_2k p1_2n p1_2w)] : List va_W)) H → va_D A (List.flatten ([(oX5 (p0a 0) p0a p0k p0w_102 p0l), (oX1 (p1a 0) p1a p1k p1n p1w p1l), (oX9 (p1a 3) p1_2a p1_2k p1_2n p1_2w)] : List va_W)) → va_K (dC, dI) cls (List.flatten ([(tX5 p0k), (tX1 p1k), (tX9 p1_2k)] : List (List (ClassId × FieldType)))) s → va_S A s.heap H locs → lv_has ls 7 [(0, .ref (p0a 0)), (1, .ref (p1a 0)), (2, .int p2), (3, .int v3_102), (4, .ref (p1a 3)), (5, .int v5_42)] → W p l e ({ frames := 3, cells := 0, slots := 0, locals := 63 } : Room) s m ([.ref (p0a 0), .ref (p1a 0), .int p2] : List Value).toArray below meth c H locs 0 0 Q (F0 m 102 ls []) := by
            intro v3_102 p0w_102 H locs ls hrun hP hD hK hS hl 
            unfold fX5_wantInBlock_J102 at hrun
            refine lv_aload hx hb dX5_wantInBlock_102 (lv_at hl 4 rfl) ?_
            refine va_get (D := (dC, dI)) (ci := 3) (v := .ref (p1_2a 3)) (C := RX9) (T := TX9) (N := 6) hx hb hts i_X9 hown hK hP 28 rfl rfl 2 (by decide) (hts _ qw436) (fun _ h9 => h9) rfl dX5_wantInBlock_104 ?_
            refine lv_iload hx hb dX5_wantInBlock_107 (lv_at hl 5 rfl) ?_
            obtain ⟨hq5, hrun⟩ := chk9 hrun
            refine va_iald hx hb hK hP 30 27 rfl rfl (ixb_in hq5) dX5_wantInBlock_109 ?_
            have J148 : ∀ (v3_148 : Int32) (p0w_148 : ST) (H : Heap) (locs : List Loc) (ls : Array Slot), (fX5_wantInBlock_J148 (fX5_wantInBlock_L42 p1_2n p1_2w n_42) p1_2n p1_2w v5_42 v3_148 p0w_148) = some o42 → va_P (dC, dI) cls (List.flatten ([(oX5 (p0a 0) p0a p0k p0w_148 p0l), (oX1 (p1a 0) p1a p1k p1n p1w p1l), (oX9 (p1a 3) p1_2a p1_2k p1_2n p1_2w)] : List va_W)) H → va_D A (List.flatten ([(oX5 (p0a 0) p0a p0k p0w_148 p0l), (oX1 (p1a 0) p1a p1k p1n p1w p1l), (oX9 (p1a 3) p1_2a p1_2k p1_2n p1_2w)] : List va_W)) → va_K (dC, dI) cls (List.flatten ([(tX5 p0k), (tX1 p1k), (tX9 p1_2k)] : List (List (ClassId × FieldType)))) s → va_S A s.heap H locs → lv_has ls 7 [(0, .ref (p0a 0)), (1, .ref (p1a 0)), (2, .int p2), (3, .int v3_148), (4, .ref (p1a 3)), (5, .int v5_42)] → W p l e ({ frames := 3, cells := 0, slots := 0, locals := 63 } : Room) s m ([.ref (p0a 0), .ref (p1a 0), .int p2] : List Value).toArray below meth c H locs 0 0 Q (F0 m 148 ls []) := by
              intro v3_148 p0w_148 H locs ls hrun hP hD hK hS hl 
              unfold fX5_wantInBlock_J148 at hrun
              refine lv_aload hx hb dX5_wantInBlock_148 (lv_at hl 4 rfl) ?_
              refine va_get (D := (dC, dI)) (ci := 3) (v := .ref (p1_2a 3)) (C := RX9) (T := TX9) (N := 6) hx hb hts i_X9 hown hK hP 28 rfl rfl 2 (by decide) (hts _ qw436) (fun _ h9 => h9) rfl dX5_wantInBlock_150 ?_
              refine lv_iload hx hb dX5_wantInBlock_153 (lv_at hl 5 rfl) ?_
              obtain ⟨hq6, hrun⟩ := chk9 hrun
              refine va_iald hx hb hK hP 30 27 rfl rfl (ixb_in hq6) dX5_wantInBlock_155 ?_
              have J196 : ∀ (v3_196 : Int32) (p0w_196 : ST) (H : Heap) (locs : List Loc) (ls : Array Slot), (fX5_wantInBlock_J196 (fX5_wantInBlock_L42 p1_2n p1_2w n_42) p1_2n p1_2w v5_42 v3_196 p0w_196) = some o42 → va_P (dC, dI) cls (List.flatten ([(oX5 (p0a 0) p0a p0k p0w_196 p0l), (oX1 (p1a 0) p1a p1k p1n p1w p1l), (oX9 (p1a 3) p1_2a p1_2k p1_2n p1_2w)] : List va_W)) H → va_D A (List.flatten ([(oX5 (p0a 0) p0a p0k p0w_196 p0l), (oX1 (p1a 0) p1a p1k p1n p1w p1l), (oX9 (p1a 3) p1_2a p1_2k p1_2n p1_2w)] : List va_W)) → va_K (dC, dI) cls (List.flatten ([(tX5 p0k), (tX1 p1k), (tX9 p1_2k)] : List (List (ClassId × FieldType)))) s → va_S A s.heap H locs → lv_has ls 7 [(0, .ref (p0a 0)), (1, .ref (p1a 0)), (2, .int p2), (3, .int v3_196), (4, .ref (p1a 3)), (5, .int v5_42)] → W p l e ({ frames := 3, cells := 0, slots := 0, locals := 63 } : Room) s m ([.ref (p0a 0), .ref (p1a 0), .int p2] : List Value).toArray below meth c H locs 0 0 Q (F0 m 196 ls []) := by
                intro v3_196 p0w_196 H locs ls hrun hP hD hK hS hl 
                unfold fX5_wantInBlock_J196 at hrun
                refine lv_aload hx hb dX5_wantInBlock_196 (lv_at hl 4 rfl) ?_
                refine va_get (D := (dC, dI)) (ci := 3) (v := .ref (p1_2a 6)) (C := RX9) (T := TX9) (N := 6) hx hb hts i_X9 hown hK hP 28 rfl rfl 5 (by decide) (hts _ qw437) (fun _ h9 => h9) rfl dX5_wantInBlock_198 ?_
                refine lv_iload hx hb dX5_wantInBlock_201 (lv_at hl 5 rfl) ?_
                obtain ⟨hq7, hrun⟩ := chk9 hrun
                refine va_iald hx hb hK hP 33 30 rfl rfl (ixb_in hq7) dX5_wantInBlock_203 ?_
                refine lv_istore (lv' := [(5, .int (p1_2w 6 (nn v5_42))), (0, .ref (p0a 0)), (1, .ref (p1a 0)), (2, .int p2), (3, .int v3_196), (4, .ref (p1a 3))]) hx hb dX5_wantInBlock_204 hl (by decide) rfl (fun ls hl => ?_)
                refine lv_goto (tgt := 42) hx hb dX5_wantInBlock_206 (by decide) ?_
                exact IH42 v3_196 (p1_2w 6 (nn v5_42)) p0w_196 o42 _ _ _ hrun hP hD hK hS (lv_sub hl [1, 2, 3, 4, 5, 0] rfl) hk42
              rcases br9 hrun with ⟨hc8, hrun⟩ | ⟨hc8, hrun⟩
              · refine lv_if_lt (tgt := 196) hx hb dX5_wantInBlock_156 (by decide) (fun _ => ?_) (fun c => absurd hc8 c)
                exact J196 v3_148 p0w_148 _ _ _ hrun hP hD hK hS (lv_sub hl [0, 1, 2, 3, 4, 5] rfl)
              · refine lv_if_lt (tgt := 196) hx hb dX5_wantInBlock_156 (by decide) (fun c => absurd c hc8) (fun _ => ?_)
                refine lv_aload_n hx hb dX5_wantInBlock_159 rfl (lv_at hl 0 rfl) ?_
                refine va_get (D := (dC, dI)) (ci := 7) (v := .ref (p0a 7)) (C := RX5) (T := TX5) (N := 12) hx hb hts i_X5 hown hK hP 0 rfl rfl 6 (by decide) (hts _ qw443) (fun _ h9 => h9) rfl dX5_wantInBlock_160 ?_
                refine lv_aload hx hb dX5_wantInBlock_163 (lv_at hl 4 rfl) ?_
                refine va_get (D := (dC, dI)) (ci := 3) (v := .ref (p1_2a 3)) (C := RX9) (T := TX9) (N := 6) hx hb hts i_X9 hown hK hP 28 rfl rfl 2 (by decide) (hts _ qw436) (fun _ h9 => h9) rfl dX5_wantInBlock_165 ?_
                refine lv_iload hx hb dX5_wantInBlock_168 (lv_at hl 5 rfl) ?_
                obtain ⟨hq9, hrun⟩ := chk9 hrun
                refine va_iald hx hb hK hP 30 27 rfl rfl (ixb_in hq9) dX5_wantInBlock_170 ?_
                obtain ⟨hq10, hrun⟩ := chk9 hrun
                refine va_iald hx hb hK hP 6 5 rfl rfl (ixb_in hq10) dX5_wantInBlock_171 ?_
                rcases br9 hrun with ⟨hc11, hrun⟩ | ⟨hc11, hrun⟩
                · refine lv_if_ne (tgt := 196) hx hb dX5_wantInBlock_172 (by decide) (fun c => absurd hc11 c) (fun _ => ?_)
                  refine lv_aload_n hx hb dX5_wantInBlock_175 rfl (lv_at hl 0 rfl) ?_
                  refine lv_aload hx hb dX5_wantInBlock_176 (lv_at hl 4 rfl) ?_
                  refine lv_iload hx hb dX5_wantInBlock_178 (lv_at hl 5 rfl) ?_
                  obtain ⟨o_12, hc_12, hrun⟩ := bnd9 hrun
                  have hPx : va_P (dC, dI) cls ((List.flatten ([(oX5 (p0a 0) p0a p0k p0w_148 p0l), (oX9 (p1a 3) p1_2a p1_2k p1_2n p1_2w)] : List va_W)) ++ (List.flatten ([(oX1 (p1a 0) p1a p1k p1n p1w p1l)] : List va_W))) H := vP_fa (vP_perm hP (bP (((List.Perm.refl _)).trans ((((((List.Perm.refl _)).cons _).trans (List.Perm.swap _ _ _))).cons _))))
                  have hDx : va_D A ((List.flatten ([(oX5 (p0a 0) p0a p0k p0w_148 p0l), (oX9 (p1a 3) p1_2a p1_2k p1_2n p1_2w)] : List va_W)) ++ (List.flatten ([(oX1 (p1a 0) p1a p1k p1n p1w p1l)] : List va_W))) := vD_fa (vD_perm hD (bP (((List.Perm.refl _)).trans ((((((List.Perm.refl _)).cons _).trans (List.Perm.swap _ _ _))).cons _))))
                  have hKx : va_K (dC, dI) cls ((List.flatten ([(tX5 p0k), (tX9 p1_2k)] : List (List (ClassId × FieldType)))) ++ (List.flatten ([(tX1 p1k)] : List (List (ClassId × FieldType))))) s := vK_fa (vK_perm hK (bP (((List.Perm.refl _)).trans ((((((List.Perm.refl _)).cons _).trans (List.Perm.swap _ _ _))).cons _))))
                  have hPc := vP_l hPx
                  have hDc := vD_l hDx
                  have hKc := vK_l hKx
                  have hFc := vfree hDx hS hA
                  refine va_calli (va_runV (As := [.ref (p1a 3), .int v5_42]) (rest := []) ⟨hx, hb, hml, hown, hts⟩ (kX5_wantUsed l dC dI (p0a := p0a) (p0k := p0k) (p0w := p0w_148) (p0l := p0l) (p1a := (st0 (p1a 3) p1_2a)) (p1k := p1_2k) (p1n := p1_2n) (p1w := p1_2w) (p2 := v5_42) (sz := _) (o := o_12) (hrun := hc_12)) (cwV 2 hts (gi_V qw453 qw454 qw455 qw442 (gi_z qw452)) rfl rfl rfl (by decide +kernel) ⟨Nat.le_of_ble_eq_true rfl, Nat.le_of_ble_eq_true rfl⟩) ⟨PRE.blind, va_recv hKc hPc (ci := 7) (q0 := 0) rfl rfl, PRE.of hE hS hFc hPc hKc hDc⟩ rfl rfl hl.1 rfl (lv_room (Nat.le_of_ble_eq_true rfl)) dX5_wantInBlock_180 ⟨(Nat.le_of_ble_eq_true rfl), (Nat.le_of_ble_eq_true rfl)⟩) hS (fun q _ h => hFc q h) hFc (fun r13 u t H locs ht hvm hw hB hz1 hk1 hS => ?_)
                  obtain ⟨b1, b2, b3⟩ := hB
                  rw [ht] at b1
                  obtain ⟨hP, hD, hK⟩ := JOINC (wc := (List.flatten ([(oX5 (p0a 0) p0a p0k p0w_148 p0l), (oX9 (p1a 3) p1_2a p1_2k p1_2n p1_2w)] : List va_W))) (wr := (List.flatten ([(oX1 (p1a 0) p1a p1k p1n p1w p1l)] : List va_W))) (w1 := (List.flatten ([(oX5 (p0a 0) p0a p0k (o_12.2) p0l), (oX9 (p1a 3) p1_2a p1_2k p1_2n p1_2w)] : List va_W))) (t1 := (List.flatten ([(tX5 p0k), (tX9 p1_2k)] : List (List (ClassId × FieldType))))) hPx hDx hKx hk1 hFc b1 (va_K.moved hvm.symm b2) b3
                  have hP : va_P (dC, dI) cls (List.flatten ([(oX5 (p0a 0) p0a p0k (o_12.2) p0l), (oX1 (p1a 0) p1a p1k p1n p1w p1l), (oX9 (p1a 3) p1_2a p1_2k p1_2n p1_2w)] : List va_W)) H := vP_perm (vP_fb hP) (bP (((List.Perm.refl _)).trans ((((((List.Perm.refl _)).cons _).trans (List.Perm.swap _ _ _))).cons _)))
                  have hD : va_D A (List.flatten ([(oX5 (p0a 0) p0a p0k (o_12.2) p0l), (oX1 (p1a 0) p1a p1k p1n p1w p1l), (oX9 (p1a 3) p1_2a p1_2k p1_2n p1_2w)] : List va_W)) := vD_perm (vD_fb hD) (bP (((List.Perm.refl _)).trans ((((((List.Perm.refl _)).cons _).trans (List.Perm.swap _ _ _))).cons _)))
                  have hK : va_K (dC, dI) cls (List.flatten ([(tX5 p0k), (tX1 p1k), (tX9 p1_2k)] : List (List (ClassId × FieldType)))) s := vK_perm (vK_fb hK) (bP (((List.Perm.refl _)).trans ((((((List.Perm.refl _)).cons _).trans (List.Perm.swap _ _ _))).cons _)))
                  obtain rfl : r13 = (o_12.1) := hw
                  have J195 : ∀ (y0_195 : Int32) (H : Heap) (locs : List Loc) (ls : Array Slot), (fX5_wantInBlock_J195 (fX5_wantInBlock_L42 p1_2n p1_2w n_42) p1_2n p1_2w v5_42 o_12 y0_195) = some o42 → va_P (dC, dI) cls (List.flatten ([(oX5 (p0a 0) p0a p0k (o_12.2) p0l), (oX1 (p1a 0) p1a p1k p1n p1w p1l), (oX9 (p1a 3) p1_2a p1_2k p1_2n p1_2w)] : List va_W)) H → va_D A (List.flatten ([(oX5 (p0a 0) p0a p0k (o_12.2) p0l), (oX1 (p1a 0) p1a p1k p1n p1w p1l), (oX9 (p1a 3) p1_2a p1_2k p1_2n p1_2w)] : List va_W)) → va_K (dC, dI) cls (List.flatten ([(tX5 p0k), (tX1 p1k), (tX9 p1_2k)] : List (List (ClassId × FieldType)))) s → va_S A s.heap H locs → lv_has ls 7 [(0, .ref (p0a 0)), (1, .ref (p1a 0)), (2, .int p2), (4, .ref (p1a 3)), (5, .int v5_42)] → W p l e ({ frames := 3, cells := 0, slots := 0, locals := 63 } : Room) s m ([.ref (p0a 0), .ref (p1a 0), .int p2] : List Value).toArray below meth c H locs 0 0 Q (F0 m 195 ls [.int y0_195]) := by
                    intro y0_195 H locs ls hrun hP hD hK hS hl 
                    unfold fX5_wantInBlock_J195 at hrun
                    refine lv_istore_n (lv' := [(3, .int y0_195), (0, .ref (p0a 0)), (1, .ref (p1a 0)), (2, .int p2), (4, .ref (p1a 3)), (5, .int v5_42)]) hx hb dX5_wantInBlock_195 rfl hl (by decide) rfl (fun ls hl => ?_)
                    exact J196 y0_195 (o_12.2) _ _ _ hrun hP hD hK hS (lv_sub hl [1, 2, 3, 0, 4, 5] rfl)
                  have J190 : ∀ (H : Heap) (locs : List Loc) (ls : Array Slot), (fX5_wantInBlock_J190 (fX5_wantInBlock_L42 p1_2n p1_2w n_42) p1_2n p1_2w v5_42 o_12) = some o42 → va_P (dC, dI) cls (List.flatten ([(oX5 (p0a 0) p0a p0k (o_12.2) p0l), (oX1 (p1a 0) p1a p1k p1n p1w p1l), (oX9 (p1a 3) p1_2a p1_2k p1_2n p1_2w)] : List va_W)) H → va_D A (List.flatten ([(oX5 (p0a 0) p0a p0k (o_12.2) p0l), (oX1 (p1a 0) p1a p1k p1n p1w p1l), (oX9 (p1a 3) p1_2a p1_2k p1_2n p1_2w)] : List va_W)) → va_K (dC, dI) cls (List.flatten ([(tX5 p0k), (tX1 p1k), (tX9 p1_2k)] : List (List (ClassId × FieldType)))) s → va_S A s.heap H locs → lv_has ls 7 [(0, .ref (p0a 0)), (1, .ref (p1a 0)), (2, .int p2), (4, .ref (p1a 3)), (5, .int v5_42)] → W p l e ({ frames := 3, cells := 0, slots := 0, locals := 63 } : Room) s m ([.ref (p0a 0), .ref (p1a 0), .int p2] : List Value).toArray below meth c H locs 0 0 Q (F0 m 190 ls []) := by
                    intro  H locs ls hrun hP hD hK hS hl 
                    unfold fX5_wantInBlock_J190 at hrun
                    refine lv_iconst (v := 1) hx hb dX5_wantInBlock_190 (by decide) ?_
                    refine lv_goto (tgt := 195) hx hb dX5_wantInBlock_191 (by decide) ?_
                    exact J195 1 _ _ _ hrun hP hD hK hS (lv_sub hl [0, 1, 2, 3, 4] rfl)
                  rcases br9 hrun with ⟨hc14, hrun⟩ | ⟨hc14, hrun⟩
                  · refine lv_if_ne (tgt := 190) hx hb dX5_wantInBlock_183 (by decide) (fun c => absurd hc14 c) (fun _ => ?_)
                    refine lv_iload_n hx hb dX5_wantInBlock_186 rfl (lv_at hl 3 rfl) ?_
                    rcases br9 hrun with ⟨hc15, hrun⟩ | ⟨hc15, hrun⟩
                    · refine lv_if_eq (tgt := 194) hx hb dX5_wantInBlock_187 (by decide) (fun _ => ?_) (fun c => absurd hc15 c)
                      refine lv_iconst (v := 0) hx hb dX5_wantInBlock_194 (by decide) ?_
                      exact J195 0 _ _ _ hrun hP hD hK hS (lv_sub hl [0, 1, 2, 4, 5] rfl)
                    · refine lv_if_eq (tgt := 194) hx hb dX5_wantInBlock_187 (by decide) (fun c => absurd c hc15) (fun _ => ?_)
                      exact J190 _ _ _ hrun hP hD hK hS (lv_sub hl [0, 1, 2, 4, 5] rfl)
                  · refine lv_if_ne (tgt := 190) hx hb dX5_wantInBlock_183 (by decide) (fun _ => ?_) (fun c => absurd c hc14)
                    exact J190 _ _ _ hrun hP hD hK hS (lv_sub hl [0, 1, 2, 4, 5] rfl)
                · refine lv_if_ne (tgt := 196) hx hb dX5_wantInBlock_172 (by decide) (fun _ => ?_) (fun c => absurd c hc11)
                  exact J196 v3_148 p0w_148 _ _ _ hrun hP hD hK hS (lv_sub hl [0, 1, 2, 3, 4, 5] rfl)
            rcases br9 hrun with ⟨hc16, hrun⟩ | ⟨hc16, hrun⟩
            · refine lv_if_lt (tgt := 148) hx hb dX5_wantInBlock_110 (by decide) (fun _ => ?_) (fun c => absurd hc16 c)
              exact J148 v3_102 p0w_102 _ _ _ hrun hP hD hK hS (lv_sub hl [0, 1, 2, 3, 4, 5] rfl)
            · refine lv_if_lt (tgt := 148) hx hb dX5_wantInBlock_110 (by decide) (fun c => absurd c hc16) (fun _ => ?_)
              refine lv_aload_n hx hb dX5_wantInBlock_113 rfl (lv_at hl 0 rfl) ?_
              refine lv_aload_n hx hb dX5_wantInBlock_114 rfl (lv_at hl 1 rfl) ?_
              refine lv_iload hx hb dX5_wantInBlock_115 (lv_at hl 5 rfl) ?_
              obtain ⟨o_17, hc_17, hrun⟩ := bnd9 hrun
              have hPx : va_P (dC, dI) cls ((List.flatten ([(oX5 (p0a 0) p0a p0k p0w_102 p0l), (oX1 (p1a 0) p1a p1k p1n p1w p1l), (oX9 (p1a 3) p1_2a p1_2k p1_2n p1_2w)] : List va_W)) ++ (List.flatten ([] : List va_W))) H := vP_fa (vP_perm hP (bP (List.Perm.refl _)))
              have hDx : va_D A ((List.flatten ([(oX5 (p0a 0) p0a p0k p0w_102 p0l), (oX1 (p1a 0) p1a p1k p1n p1w p1l), (oX9 (p1a 3) p1_2a p1_2k p1_2n p1_2w)] : List va_W)) ++ (List.flatten ([] : List va_W))) := vD_fa (vD_perm hD (bP (List.Perm.refl _)))
              have hKx : va_K (dC, dI) cls ((List.flatten ([(tX5 p0k), (tX1 p1k), (tX9 p1_2k)] : List (List (ClassId × FieldType)))) ++ (List.flatten ([] : List (List (ClassId × FieldType))))) s := vK_fa (vK_perm hK (bP (List.Perm.refl _)))
              have hPc := vP_l hPx
              have hDc := vD_l hDx
              have hKc := vK_l hKx
              have hFc := vfree hDx hS hA
              refine va_calli (va_runV (As := [.ref (p1a 0), .int v5_42]) (rest := []) ⟨hx, hb, hml, hown, hts⟩ (kX5_mayFail l dC dI (p0a := p0a) (p0k := p0k) (p0w := p0w_102) (p0l := p0l) (p1a := p1a) (p1k := p1k) (p1n := p1n) (p1w := p1w) (p1l := p1l) (p2 := v5_42) (p1_2a := p1_2a) (p1_2k := p1_2k) (p1_2n := p1_2n) (p1_2w := p1_2w) (sz := _) (o := o_17) (hrun := hc_17)) (cwV 2 hts (gi_V qw465 qw466 qw467 qw442 (gi_z qw464)) rfl rfl rfl (by decide +kernel) ⟨Nat.le_of_ble_eq_true rfl, Nat.le_of_ble_eq_true rfl⟩) ⟨PRE.blind, va_recv hKc hPc (ci := 7) (q0 := 0) rfl rfl, PRE.of hE hS hFc hPc hKc hDc⟩ rfl rfl hl.1 rfl (lv_room (Nat.le_of_ble_eq_true rfl)) dX5_wantInBlock_117 ⟨(Nat.le_of_ble_eq_true rfl), (Nat.le_of_ble_eq_true rfl)⟩) hS (fun q _ h => hFc q h) hFc (fun r18 u t H locs ht hvm hw hB hz1 hk1 hS => ?_)
              obtain ⟨b1, b2, b3⟩ := hB
              rw [ht] at b1
              obtain ⟨hP, hD, hK⟩ := JOINC (wc := (List.flatten ([(oX5 (p0a 0) p0a p0k p0w_102 p0l), (oX1 (p1a 0) p1a p1k p1n p1w p1l), (oX9 (p1a 3) p1_2a p1_2k p1_2n p1_2w)] : List va_W))) (wr := (List.flatten ([] : List va_W))) (w1 := (List.flatten ([(oX5 (p0a 0) p0a p0k p0w_102 p0l), (oX1 (p1a 0) p1a p1k p1n p1w p1l), (oX9 (p1a 3) p1_2a p1_2k p1_2n p1_2w)] : List va_W))) (t1 := (List.flatten ([(tX5 p0k), (tX1 p1k), (tX9 p1_2k)] : List (List (ClassId × FieldType))))) hPx hDx hKx hk1 hFc b1 (va_K.moved hvm.symm b2) b3
              have hP : va_P (dC, dI) cls (List.flatten ([(oX5 (p0a 0) p0a p0k p0w_102 p0l), (oX1 (p1a 0) p1a p1k p1n p1w p1l), (oX9 (p1a 3) p1_2a p1_2k p1_2n p1_2w)] : List va_W)) H := vP_perm (vP_fb hP) (bP (List.Perm.refl _))
              have hD : va_D A (List.flatten ([(oX5 (p0a 0) p0a p0k p0w_102 p0l), (oX1 (p1a 0) p1a p1k p1n p1w p1l), (oX9 (p1a 3) p1_2a p1_2k p1_2n p1_2w)] : List va_W)) := vD_perm (vD_fb hD) (bP (List.Perm.refl _))
              have hK : va_K (dC, dI) cls (List.flatten ([(tX5 p0k), (tX1 p1k), (tX9 p1_2k)] : List (List (ClassId × FieldType)))) s := vK_perm (vK_fb hK) (bP (List.Perm.refl _))
              obtain rfl : o_17 = r18 := hw.symm
              rcases br9 hrun with ⟨hc19, hrun⟩ | ⟨hc19, hrun⟩
              · refine lv_if_eq (tgt := 148) hx hb dX5_wantInBlock_120 (by decide) (fun _ => ?_) (fun c => absurd hc19 c)
                exact J148 v3_102 p0w_102 _ _ _ hrun hP hD hK hS (lv_sub hl [0, 1, 2, 3, 4, 5] rfl)
              · refine lv_if_eq (tgt := 148) hx hb dX5_wantInBlock_120 (by decide) (fun c => absurd c hc19) (fun _ => ?_)
                refine lv_aload_n hx hb dX5_wantInBlock_123 rfl (lv_at hl 0 rfl) ?_
                refine lv_aload hx hb dX5_wantInBlock_124 (lv_at hl 4 rfl) ?_
                refine va_get (D := (dC, dI)) (ci := 3) (v := .ref (p1_2a 3)) (C := RX9) (T := TX9) (N := 6) hx hb hts i_X9 hown hK hP 28 rfl rfl 2 (by decide) (hts _ qw436) (fun _ h9 => h9) rfl dX5_wantInBlock_126 ?_
                refine lv_iload hx hb dX5_wantInBlock_129 (lv_at hl 5 rfl) ?_
                obtain ⟨hq20, hrun⟩ := chk9 hrun
                refine va_iald hx hb hK hP 30 27 rfl rfl (ixb_in hq20) dX5_wantInBlock_131 ?_
                obtain ⟨o_21, hc_21, hrun⟩ := bnd9 hrun
                have hPx : va_P (dC, dI) cls ((List.flatten ([(oX5 (p0a 0) p0a p0k p0w_102 p0l)] : List va_W)) ++ (List.flatten ([(oX1 (p1a 0) p1a p1k p1n p1w p1l), (oX9 (p1a 3) p1_2a p1_2k p1_2n p1_2w)] : List va_W))) H := vP_fa (vP_perm hP (bP (List.Perm.refl _)))
                have hDx : va_D A ((List.flatten ([(oX5 (p0a 0) p0a p0k p0w_102 p0l)] : List va_W)) ++ (List.flatten ([(oX1 (p1a 0) p1a p1k p1n p1w p1l), (oX9 (p1a 3) p1_2a p1_2k p1_2n p1_2w)] : List va_W))) := vD_fa (vD_perm hD (bP (List.Perm.refl _)))
                have hKx : va_K (dC, dI) cls ((List.flatten ([(tX5 p0k)] : List (List (ClassId × FieldType)))) ++ (List.flatten ([(tX1 p1k), (tX9 p1_2k)] : List (List (ClassId × FieldType))))) s := vK_fa (vK_perm hK (bP (List.Perm.refl _)))
                have hPc := vP_l hPx
                have hDc := vD_l hDx
                have hKc := vK_l hKx
                have hFc := vfree hDx hS hA
                refine va_calli (va_runV (As := [.int (p1_2w 3 (nn v5_42))]) (rest := []) ⟨hx, hb, hml, hown, hts⟩ (kX5_want l dC dI (p0a := p0a) (p0k := p0k) (p0w := p0w_102) (p0l := p0l) (p1 := (p1_2w 3 (nn v5_42))) (sz := _) (o := o_21) (hrun := hc_21)) (cwV 1 hts (gi_V qw449 qw450 qw451 qw442 (gi_z qw448)) rfl rfl rfl (by decide +kernel) ⟨Nat.le_of_ble_eq_true rfl, Nat.le_of_ble_eq_true rfl⟩) ⟨PRE.blind, va_recv hKc hPc (ci := 7) (q0 := 0) rfl rfl, PRE.of hE hS hFc hPc hKc hDc⟩ rfl rfl hl.1 rfl (lv_room (Nat.le_of_ble_eq_true rfl)) dX5_wantInBlock_132 ⟨(Nat.le_of_ble_eq_true rfl), (Nat.le_of_ble_eq_true rfl)⟩) hS (fun q _ h => hFc q h) hFc (fun r22 u t H locs ht hvm hw hB hz1 hk1 hS => ?_)
                obtain ⟨b1, b2, b3⟩ := hB
                rw [ht] at b1
                obtain ⟨hP, hD, hK⟩ := JOINC (wc := (List.flatten ([(oX5 (p0a 0) p0a p0k p0w_102 p0l)] : List va_W))) (wr := (List.flatten ([(oX1 (p1a 0) p1a p1k p1n p1w p1l), (oX9 (p1a 3) p1_2a p1_2k p1_2n p1_2w)] : List va_W))) (w1 := (List.flatten ([(oX5 (p0a 0) p0a p0k (o_21.2) p0l)] : List va_W))) (t1 := (List.flatten ([(tX5 p0k)] : List (List (ClassId × FieldType))))) hPx hDx hKx hk1 hFc b1 (va_K.moved hvm.symm b2) b3
                have hP : va_P (dC, dI) cls (List.flatten ([(oX5 (p0a 0) p0a p0k (o_21.2) p0l), (oX1 (p1a 0) p1a p1k p1n p1w p1l), (oX9 (p1a 3) p1_2a p1_2k p1_2n p1_2w)] : List va_W)) H := vP_perm (vP_fb hP) (bP (List.Perm.refl _))
                have hD : va_D A (List.flatten ([(oX5 (p0a 0) p0a p0k (o_21.2) p0l), (oX1 (p1a 0) p1a p1k p1n p1w p1l), (oX9 (p1a 3) p1_2a p1_2k p1_2n p1_2w)] : List va_W)) := vD_perm (vD_fb hD) (bP (List.Perm.refl _))
                have hK : va_K (dC, dI) cls (List.flatten ([(tX5 p0k), (tX1 p1k), (tX9 p1_2k)] : List (List (ClassId × FieldType)))) s := vK_perm (vK_fb hK) (bP (List.Perm.refl _))
                obtain rfl : r22 = (o_21.1) := hw
                have J147 : ∀ (y0_147 : Int32) (H : Heap) (locs : List Loc) (ls : Array Slot), (fX5_wantInBlock_J147 (fX5_wantInBlock_L42 p1_2n p1_2w n_42) p1_2n p1_2w v5_42 o_21 y0_147) = some o42 → va_P (dC, dI) cls (List.flatten ([(oX5 (p0a 0) p0a p0k (o_21.2) p0l), (oX1 (p1a 0) p1a p1k p1n p1w p1l), (oX9 (p1a 3) p1_2a p1_2k p1_2n p1_2w)] : List va_W)) H → va_D A (List.flatten ([(oX5 (p0a 0) p0a p0k (o_21.2) p0l), (oX1 (p1a 0) p1a p1k p1n p1w p1l), (oX9 (p1a 3) p1_2a p1_2k p1_2n p1_2w)] : List va_W)) → va_K (dC, dI) cls (List.flatten ([(tX5 p0k), (tX1 p1k), (tX9 p1_2k)] : List (List (ClassId × FieldType)))) s → va_S A s.heap H locs → lv_has ls 7 [(0, .ref (p0a 0)), (1, .ref (p1a 0)), (2, .int p2), (4, .ref (p1a 3)), (5, .int v5_42)] → W p l e ({ frames := 3, cells := 0, slots := 0, locals := 63 } : Room) s m ([.ref (p0a 0), .ref (p1a 0), .int p2] : List Value).toArray below meth c H locs 0 0 Q (F0 m 147 ls [.int y0_147]) := by
                  intro y0_147 H locs ls hrun hP hD hK hS hl 
                  unfold fX5_wantInBlock_J147 at hrun
                  refine lv_istore_n (lv' := [(3, .int y0_147), (0, .ref (p0a 0)), (1, .ref (p1a 0)), (2, .int p2), (4, .ref (p1a 3)), (5, .int v5_42)]) hx hb dX5_wantInBlock_147 rfl hl (by decide) rfl (fun ls hl => ?_)
                  exact J148 y0_147 (o_21.2) _ _ _ hrun hP hD hK hS (lv_sub hl [1, 2, 3, 0, 4, 5] rfl)
                have J142 : ∀ (H : Heap) (locs : List Loc) (ls : Array Slot), (fX5_wantInBlock_J142 (fX5_wantInBlock_L42 p1_2n p1_2w n_42) p1_2n p1_2w v5_42 o_21) = some o42 → va_P (dC, dI) cls (List.flatten ([(oX5 (p0a 0) p0a p0k (o_21.2) p0l), (oX1 (p1a 0) p1a p1k p1n p1w p1l), (oX9 (p1a 3) p1_2a p1_2k p1_2n p1_2w)] : List va_W)) H → va_D A (List.flatten ([(oX5 (p0a 0) p0a p0k (o_21.2) p0l), (oX1 (p1a 0) p1a p1k p1n p1w p1l), (oX9 (p1a 3) p1_2a p1_2k p1_2n p1_2w)] : List va_W)) → va_K (dC, dI) cls (List.flatten ([(tX5 p0k), (tX1 p1k), (tX9 p1_2k)] : List (List (ClassId × FieldType)))) s → va_S A s.heap H locs → lv_has ls 7 [(0, .ref (p0a 0)), (1, .ref (p1a 0)), (2, .int p2), (4, .ref (p1a 3)), (5, .int v5_42)] → W p l e ({ frames := 3, cells := 0, slots := 0, locals := 63 } : Room) s m ([.ref (p0a 0), .ref (p1a 0), .int p2] : List Value).toArray below meth c H locs 0 0 Q (F0 m 142 ls []) := by
                  intro  H locs ls hrun hP hD hK hS hl 
                  unfold fX5_wantInBlock_J142 at hrun
                  refine lv_iconst (v := 1) hx hb dX5_wantInBlock_142 (by decide) ?_
                  refine lv_goto (tgt := 147) hx hb dX5_wantInBlock_143 (by decide) ?_
                  exact J147 1 _ _ _ hrun hP hD hK hS (lv_sub hl [0, 1, 2, 3, 4] rfl)
                rcases br9 hrun with ⟨hc23, hrun⟩ | ⟨hc23, hrun⟩
                · refine lv_if_ne (tgt := 142) hx hb dX5_wantInBlock_135 (by decide) (fun c => absurd hc23 c) (fun _ => ?_)
                  refine lv_iload_n hx hb dX5_wantInBlock_138 rfl (lv_at hl 3 rfl) ?_
                  rcases br9 hrun with ⟨hc24, hrun⟩ | ⟨hc24, hrun⟩
                  · refine lv_if_eq (tgt := 146) hx hb dX5_wantInBlock_139 (by decide) (fun _ => ?_) (fun c => absurd hc24 c)
                    refine lv_iconst (v := 0) hx hb dX5_wantInBlock_146 (by decide) ?_
                    exact J147 0 _ _ _ hrun hP hD hK hS (lv_sub hl [0, 1, 2, 4, 5] rfl)
                  · refine lv_if_eq (tgt := 146) hx hb dX5_wantInBlock_139 (by decide) (fun c => absurd c hc24) (fun _ => ?_)
                    exact J142 _ _ _ hrun hP hD hK hS (lv_sub hl [0, 1, 2, 4, 5] rfl)
                · refine lv_if_ne (tgt := 142) hx hb dX5_wantInBlock_135 (by decide) (fun _ => ?_) (fun c => absurd c hc23)
                  exact J142 _ _ _ hrun hP hD hK hS (lv_sub hl [0, 1, 2, 4, 5] rfl)
          have J81 : ∀ (H : Heap) (locs : List Loc) (ls : Array Slot), (fX5_wantInBlock_J81 (fX5_wantInBlock_L42 p1_2n p1_2w n_42) p1_2n p1_2w v3_42 v5_42 p0w_42) = some o42 → va_P (dC, dI) cls (List.flatten ([(oX5 (p0a 0) p0a p0k p0w_42 p0l), (oX1 (p1a 0) p1a p1k p1n p1w p1l), (oX9 (p1a 3) p1_2a p1_2k p1_2n p1_2w)] : List va_W)) H → va_D A (List.flatten ([(oX5 (p0a 0) p0a p0k p0w_42 p0l), (oX1 (p1a 0) p1a p1k p1n p1w p1l), (oX9 (p1a 3) p1_2a p1_2k p1_2n p1_2w)] : List va_W)) → va_K (dC, dI) cls (List.flatten ([(tX5 p0k), (tX1 p1k), (tX9 p1_2k)] : List (List (ClassId × FieldType)))) s → va_S A s.heap H locs → lv_has ls 7 [(0, .ref (p0a 0)), (1, .ref (p1a 0)), (2, .int p2), (3, .int v3_42), (4, .ref (p1a 3)), (5, .int v5_42)] → W p l e ({ frames := 3, cells := 0, slots := 0, locals := 63 } : Room) s m ([.ref (p0a 0), .ref (p1a 0), .int p2] : List Value).toArray below meth c H locs 0 0 Q (F0 m 81 ls []) := by
            intro  H locs ls hrun hP hD hK hS hl 
            unfold fX5_wantInBlock_J81 at hrun
            refine lv_aload_n hx hb dX5_wantInBlock_81 rfl (lv_at hl 0 rfl) ?_
            refine lv_aload hx hb dX5_wantInBlock_82 (lv_at hl 4 rfl) ?_
            refine lv_iload hx hb dX5_wantInBlock_84 (lv_at hl 5 rfl) ?_
            obtain ⟨o_25, hc_25, hrun⟩ := bnd9 hrun
            have hPx : va_P (dC, dI) cls ((List.flatten ([(oX5 (p0a 0) p0a p0k p0w_42 p0l), (oX9 (p1a 3) p1_2a p1_2k p1_2n p1_2w)] : List va_W)) ++ (List.flatten ([(oX1 (p1a 0) p1a p1k p1n p1w p1l)] : List va_W))) H := vP_fa (vP_perm hP (bP (((List.Perm.refl _)).trans ((((((List.Perm.refl _)).cons _).trans (List.Perm.swap _ _ _))).cons _))))
            have hDx : va_D A ((List.flatten ([(oX5 (p0a 0) p0a p0k p0w_42 p0l), (oX9 (p1a 3) p1_2a p1_2k p1_2n p1_2w)] : List va_W)) ++ (List.flatten ([(oX1 (p1a 0) p1a p1k p1n p1w p1l)] : List va_W))) := vD_fa (vD_perm hD (bP (((List.Perm.refl _)).trans ((((((List.Perm.refl _)).cons _).trans (List.Perm.swap _ _ _))).cons _))))
            have hKx : va_K (dC, dI) cls ((List.flatten ([(tX5 p0k), (tX9 p1_2k)] : List (List (ClassId × FieldType)))) ++ (List.flatten ([(tX1 p1k)] : List (List (ClassId × FieldType))))) s := vK_fa (vK_perm hK (bP (((List.Perm.refl _)).trans ((((((List.Perm.refl _)).cons _).trans (List.Perm.swap _ _ _))).cons _))))
            have hPc := vP_l hPx
            have hDc := vD_l hDx
            have hKc := vK_l hKx
            have hFc := vfree hDx hS hA
            refine va_calli (va_runV (As := [.ref (p1a 3), .int v5_42]) (rest := []) ⟨hx, hb, hml, hown, hts⟩ (kX5_wantUsed l dC dI (p0a := p0a) (p0k := p0k) (p0w := p0w_42) (p0l := p0l) (p1a := (st0 (p1a 3) p1_2a)) (p1k := p1_2k) (p1n := p1_2n) (p1w := p1_2w) (p2 := v5_42) (sz := _) (o := o_25) (hrun := hc_25)) (cwV 2 hts (gi_V qw453 qw454 qw455 qw442 (gi_z qw452)) rfl rfl rfl (by decide +kernel) ⟨Nat.le_of_ble_eq_true rfl, Nat.le_of_ble_eq_true rfl⟩) ⟨PRE.blind, va_recv hKc hPc (ci := 7) (q0 := 0) rfl rfl, PRE.of hE hS hFc hPc hKc hDc⟩ rfl rfl hl.1 rfl (lv_room (Nat.le_of_ble_eq_true rfl)) dX5_wantInBlock_86 ⟨(Nat.le_of_ble_eq_true rfl), (Nat.le_of_ble_eq_true rfl)⟩) hS (fun q _ h => hFc q h) hFc (fun r26 u t H locs ht hvm hw hB hz1 hk1 hS => ?_)
            obtain ⟨b1, b2, b3⟩ := hB
            rw [ht] at b1
            obtain ⟨hP, hD, hK⟩ := JOINC (wc := (List.flatten ([(oX5 (p0a 0) p0a p0k p0w_42 p0l), (oX9 (p1a 3) p1_2a p1_2k p1_2n p1_2w)] : List va_W))) (wr := (List.flatten ([(oX1 (p1a 0) p1a p1k p1n p1w p1l)] : List va_W))) (w1 := (List.flatten ([(oX5 (p0a 0) p0a p0k (o_25.2) p0l), (oX9 (p1a 3) p1_2a p1_2k p1_2n p1_2w)] : List va_W))) (t1 := (List.flatten ([(tX5 p0k), (tX9 p1_2k)] : List (List (ClassId × FieldType))))) hPx hDx hKx hk1 hFc b1 (va_K.moved hvm.symm b2) b3
            have hP : va_P (dC, dI) cls (List.flatten ([(oX5 (p0a 0) p0a p0k (o_25.2) p0l), (oX1 (p1a 0) p1a p1k p1n p1w p1l), (oX9 (p1a 3) p1_2a p1_2k p1_2n p1_2w)] : List va_W)) H := vP_perm (vP_fb hP) (bP (((List.Perm.refl _)).trans ((((((List.Perm.refl _)).cons _).trans (List.Perm.swap _ _ _))).cons _)))
            have hD : va_D A (List.flatten ([(oX5 (p0a 0) p0a p0k (o_25.2) p0l), (oX1 (p1a 0) p1a p1k p1n p1w p1l), (oX9 (p1a 3) p1_2a p1_2k p1_2n p1_2w)] : List va_W)) := vD_perm (vD_fb hD) (bP (((List.Perm.refl _)).trans ((((((List.Perm.refl _)).cons _).trans (List.Perm.swap _ _ _))).cons _)))
            have hK : va_K (dC, dI) cls (List.flatten ([(tX5 p0k), (tX1 p1k), (tX9 p1_2k)] : List (List (ClassId × FieldType)))) s := vK_perm (vK_fb hK) (bP (((List.Perm.refl _)).trans ((((((List.Perm.refl _)).cons _).trans (List.Perm.swap _ _ _))).cons _)))
            obtain rfl : r26 = (o_25.1) := hw
            have J101 : ∀ (y0_101 : Int32) (H : Heap) (locs : List Loc) (ls : Array Slot), (fX5_wantInBlock_J101 (fX5_wantInBlock_L42 p1_2n p1_2w n_42) p1_2n p1_2w v5_42 o_25 y0_101) = some o42 → va_P (dC, dI) cls (List.flatten ([(oX5 (p0a 0) p0a p0k (o_25.2) p0l), (oX1 (p1a 0) p1a p1k p1n p1w p1l), (oX9 (p1a 3) p1_2a p1_2k p1_2n p1_2w)] : List va_W)) H → va_D A (List.flatten ([(oX5 (p0a 0) p0a p0k (o_25.2) p0l), (oX1 (p1a 0) p1a p1k p1n p1w p1l), (oX9 (p1a 3) p1_2a p1_2k p1_2n p1_2w)] : List va_W)) → va_K (dC, dI) cls (List.flatten ([(tX5 p0k), (tX1 p1k), (tX9 p1_2k)] : List (List (ClassId × FieldType)))) s → va_S A s.heap H locs → lv_has ls 7 [(0, .ref (p0a 0)), (1, .ref (p1a 0)), (2, .int p2), (4, .ref (p1a 3)), (5, .int v5_42)] → W p l e ({ frames := 3, cells := 0, slots := 0, locals := 63 } : Room) s m ([.ref (p0a 0), .ref (p1a 0), .int p2] : List Value).toArray below meth c H locs 0 0 Q (F0 m 101 ls [.int y0_101]) := by
              intro y0_101 H locs ls hrun hP hD hK hS hl 
              unfold fX5_wantInBlock_J101 at hrun
              refine lv_istore_n (lv' := [(3, .int y0_101), (0, .ref (p0a 0)), (1, .ref (p1a 0)), (2, .int p2), (4, .ref (p1a 3)), (5, .int v5_42)]) hx hb dX5_wantInBlock_101 rfl hl (by decide) rfl (fun ls hl => ?_)
              exact J102 y0_101 (o_25.2) _ _ _ hrun hP hD hK hS (lv_sub hl [1, 2, 3, 0, 4, 5] rfl)
            have J96 : ∀ (H : Heap) (locs : List Loc) (ls : Array Slot), (fX5_wantInBlock_J96 (fX5_wantInBlock_L42 p1_2n p1_2w n_42) p1_2n p1_2w v5_42 o_25) = some o42 → va_P (dC, dI) cls (List.flatten ([(oX5 (p0a 0) p0a p0k (o_25.2) p0l), (oX1 (p1a 0) p1a p1k p1n p1w p1l), (oX9 (p1a 3) p1_2a p1_2k p1_2n p1_2w)] : List va_W)) H → va_D A (List.flatten ([(oX5 (p0a 0) p0a p0k (o_25.2) p0l), (oX1 (p1a 0) p1a p1k p1n p1w p1l), (oX9 (p1a 3) p1_2a p1_2k p1_2n p1_2w)] : List va_W)) → va_K (dC, dI) cls (List.flatten ([(tX5 p0k), (tX1 p1k), (tX9 p1_2k)] : List (List (ClassId × FieldType)))) s → va_S A s.heap H locs → lv_has ls 7 [(0, .ref (p0a 0)), (1, .ref (p1a 0)), (2, .int p2), (4, .ref (p1a 3)), (5, .int v5_42)] → W p l e ({ frames := 3, cells := 0, slots := 0, locals := 63 } : Room) s m ([.ref (p0a 0), .ref (p1a 0), .int p2] : List Value).toArray below meth c H locs 0 0 Q (F0 m 96 ls []) := by
              intro  H locs ls hrun hP hD hK hS hl 
              unfold fX5_wantInBlock_J96 at hrun
              refine lv_iconst (v := 1) hx hb dX5_wantInBlock_96 (by decide) ?_
              refine lv_goto (tgt := 101) hx hb dX5_wantInBlock_97 (by decide) ?_
              exact J101 1 _ _ _ hrun hP hD hK hS (lv_sub hl [0, 1, 2, 3, 4] rfl)
            rcases br9 hrun with ⟨hc27, hrun⟩ | ⟨hc27, hrun⟩
            · refine lv_if_ne (tgt := 96) hx hb dX5_wantInBlock_89 (by decide) (fun c => absurd hc27 c) (fun _ => ?_)
              refine lv_iload_n hx hb dX5_wantInBlock_92 rfl (lv_at hl 3 rfl) ?_
              rcases br9 hrun with ⟨hc28, hrun⟩ | ⟨hc28, hrun⟩
              · refine lv_if_eq (tgt := 100) hx hb dX5_wantInBlock_93 (by decide) (fun _ => ?_) (fun c => absurd hc28 c)
                refine lv_iconst (v := 0) hx hb dX5_wantInBlock_100 (by decide) ?_
                exact J101 0 _ _ _ hrun hP hD hK hS (lv_sub hl [0, 1, 2, 4, 5] rfl)
              · refine lv_if_eq (tgt := 100) hx hb dX5_wantInBlock_93 (by decide) (fun c => absurd c hc28) (fun _ => ?_)
                exact J96 _ _ _ hrun hP hD hK hS (lv_sub hl [0, 1, 2, 4, 5] rfl)
            · refine lv_if_ne (tgt := 96) hx hb dX5_wantInBlock_89 (by decide) (fun _ => ?_) (fun c => absurd c hc27)
              exact J96 _ _ _ hrun hP hD hK hS (lv_sub hl [0, 1, 2, 4, 5] rfl)
          rcases br9 hrun with ⟨hc29, hrun⟩ | ⟨hc29, hrun⟩
          · refine lv_icmp_eq (tgt := 81) hx hb dX5_wantInBlock_61 (by decide) (fun _ => ?_) (fun c => absurd hc29 c)
            exact J81 _ _ _ hrun hP hD hK hS (lv_sub hl [1, 2, 3, 4, 5, 6] rfl)
          · refine lv_icmp_eq (tgt := 81) hx hb dX5_wantInBlock_61 (by decide) (fun c => absurd c hc29) (fun _ => ?_)
            refine lv_iload hx hb dX5_wantInBlock_64 (lv_at hl 0 rfl) ?_
            refine lv_bipush (v := 19) hx hb dX5_wantInBlock_66 (by decide) ?_
            rcases br9 hrun with ⟨hc30, hrun⟩ | ⟨hc30, hrun⟩
            · refine lv_icmp_eq (tgt := 81) hx hb dX5_wantInBlock_68 (by decide) (fun _ => ?_) (fun c => absurd hc30 c)
              exact J81 _ _ _ hrun hP hD hK hS (lv_sub hl [1, 2, 3, 4, 5, 6] rfl)
            · refine lv_icmp_eq (tgt := 81) hx hb dX5_wantInBlock_68 (by decide) (fun c => absurd c hc30) (fun _ => ?_)
              refine lv_aload_n hx hb dX5_wantInBlock_71 rfl (lv_at hl 1 rfl) ?_
              refine lv_aload_n hx hb dX5_wantInBlock_72 rfl (lv_at hl 2 rfl) ?_
              refine lv_iload hx hb dX5_wantInBlock_73 (lv_at hl 6 rfl) ?_
              obtain ⟨o_31, hc_31, hrun⟩ := bnd9 hrun
              have hPx : va_P (dC, dI) cls ((List.flatten ([(oX5 (p0a 0) p0a p0k p0w_42 p0l), (oX1 (p1a 0) p1a p1k p1n p1w p1l), (oX9 (p1a 3) p1_2a p1_2k p1_2n p1_2w)] : List va_W)) ++ (List.flatten ([] : List va_W))) H := vP_fa (vP_perm hP (bP (List.Perm.refl _)))
              have hDx : va_D A ((List.flatten ([(oX5 (p0a 0) p0a p0k p0w_42 p0l), (oX1 (p1a 0) p1a p1k p1n p1w p1l), (oX9 (p1a 3) p1_2a p1_2k p1_2n p1_2w)] : List va_W)) ++ (List.flatten ([] : List va_W))) := vD_fa (vD_perm hD (bP (List.Perm.refl _)))
              have hKx : va_K (dC, dI) cls ((List.flatten ([(tX5 p0k), (tX1 p1k), (tX9 p1_2k)] : List (List (ClassId × FieldType)))) ++ (List.flatten ([] : List (List (ClassId × FieldType))))) s := vK_fa (vK_perm hK (bP (List.Perm.refl _)))
              have hPc := vP_l hPx
              have hDc := vD_l hDx
              have hKc := vK_l hKx
              have hFc := vfree hDx hS hA
              refine va_calli (va_runV (As := [.ref (p1a 0), .int v5_42]) (rest := []) ⟨hx, hb, hml, hown, hts⟩ (kX5_mayFail l dC dI (p0a := p0a) (p0k := p0k) (p0w := p0w_42) (p0l := p0l) (p1a := p1a) (p1k := p1k) (p1n := p1n) (p1w := p1w) (p1l := p1l) (p2 := v5_42) (p1_2a := p1_2a) (p1_2k := p1_2k) (p1_2n := p1_2n) (p1_2w := p1_2w) (sz := _) (o := o_31) (hrun := hc_31)) (cwV 2 hts (gi_V qw465 qw466 qw467 qw442 (gi_z qw464)) rfl rfl rfl (by decide +kernel) ⟨Nat.le_of_ble_eq_true rfl, Nat.le_of_ble_eq_true rfl⟩) ⟨PRE.blind, va_recv hKc hPc (ci := 7) (q0 := 0) rfl rfl, PRE.of hE hS hFc hPc hKc hDc⟩ rfl rfl hl.1 rfl (lv_room (Nat.le_of_ble_eq_true rfl)) dX5_wantInBlock_75 ⟨(Nat.le_of_ble_eq_true rfl), (Nat.le_of_ble_eq_true rfl)⟩) hS (fun q _ h => hFc q h) hFc (fun r32 u t H locs ht hvm hw hB hz1 hk1 hS => ?_)
              obtain ⟨b1, b2, b3⟩ := hB
              rw [ht] at b1
              obtain ⟨hP, hD, hK⟩ := JOINC (wc := (List.flatten ([(oX5 (p0a 0) p0a p0k p0w_42 p0l), (oX1 (p1a 0) p1a p1k p1n p1w p1l), (oX9 (p1a 3) p1_2a p1_2k p1_2n p1_2w)] : List va_W))) (wr := (List.flatten ([] : List va_W))) (w1 := (List.flatten ([(oX5 (p0a 0) p0a p0k p0w_42 p0l), (oX1 (p1a 0) p1a p1k p1n p1w p1l), (oX9 (p1a 3) p1_2a p1_2k p1_2n p1_2w)] : List va_W))) (t1 := (List.flatten ([(tX5 p0k), (tX1 p1k), (tX9 p1_2k)] : List (List (ClassId × FieldType))))) hPx hDx hKx hk1 hFc b1 (va_K.moved hvm.symm b2) b3
              have hP : va_P (dC, dI) cls (List.flatten ([(oX5 (p0a 0) p0a p0k p0w_42 p0l), (oX1 (p1a 0) p1a p1k p1n p1w p1l), (oX9 (p1a 3) p1_2a p1_2k p1_2n p1_2w)] : List va_W)) H := vP_perm (vP_fb hP) (bP (List.Perm.refl _))
              have hD : va_D A (List.flatten ([(oX5 (p0a 0) p0a p0k p0w_42 p0l), (oX1 (p1a 0) p1a p1k p1n p1w p1l), (oX9 (p1a 3) p1_2a p1_2k p1_2n p1_2w)] : List va_W)) := vD_perm (vD_fb hD) (bP (List.Perm.refl _))
              have hK : va_K (dC, dI) cls (List.flatten ([(tX5 p0k), (tX1 p1k), (tX9 p1_2k)] : List (List (ClassId × FieldType)))) s := vK_perm (vK_fb hK) (bP (List.Perm.refl _))
              obtain rfl : o_31 = r32 := hw.symm
              rcases br9 hrun with ⟨hc33, hrun⟩ | ⟨hc33, hrun⟩
              · refine lv_if_eq (tgt := 102) hx hb dX5_wantInBlock_78 (by decide) (fun _ => ?_) (fun c => absurd hc33 c)
                exact J102 v3_42 p0w_42 _ _ _ hrun hP hD hK hS (lv_sub hl [1, 2, 3, 4, 5, 6] rfl)
              · refine lv_if_eq (tgt := 102) hx hb dX5_wantInBlock_78 (by decide) (fun c => absurd c hc33) (fun _ => ?_)
                exact J81 _ _ _ hrun hP hD hK hS (lv_sub hl [1, 2, 3, 4, 5, 6] rfl)
    obtain ⟨o42, hc42, hrun⟩ := bnd9 hrun
    refine L42 NF y0_27 (p1w 4 (nn p2)) p0w_27 o42 _ _ _ hc42 hP hD hK hS (lv_sub hl [3, 4, 5, 2, 1, 0] rfl) ?_
    intro H locs ls hP hD hK hS hl
    have hl := hl
    refine lv_aload_n hx hb dX5_wantInBlock_209 rfl (lv_at hl 1 rfl) ?_
    refine va_get (D := (dC, dI)) (ci := 4) (v := .ref (p1a 6)) (C := RX1) (T := TX1) (N := 21) hx hb hts i_X1 hown hK hP 10 rfl rfl 5 (by decide) (hts _ qw431) (fun _ h9 => h9) rfl dX5_wantInBlock_210 ?_
    refine lv_iload_n hx hb dX5_wantInBlock_213 rfl (lv_at hl 2 rfl) ?_
    obtain ⟨hq34, hrun⟩ := chk9 hrun
    refine va_iald hx hb hK hP 13 11 rfl rfl (ixb_in hq34) dX5_wantInBlock_214 ?_
    refine lv_istore (lv' := [(5, .int (p1w 6 (nn p2))), (0, .ref (p0a 0)), (1, .ref (p1a 0)), (2, .int p2), (3, .int (o42.1))]) hx hb dX5_wantInBlock_215 hl (by decide) rfl (fun ls hl => ?_)
    have L217 : ∀ (n_217 : Nat) (v3_217 : Int32) (v5_217 : Int32) (p0w_217 : ST) (o217 : Int32 × ST) (H : Heap) (locs : List Loc) (ls : Array Slot), (fX5_wantInBlock_L217 p1n p1w p2 n_217) v3_217 v5_217 p0w_217 = some o217 → va_P (dC, dI) cls (List.flatten ([(oX5 (p0a 0) p0a p0k p0w_217 p0l), (oX1 (p1a 0) p1a p1k p1n p1w p1l), (oX9 (p1a 3) p1_2a p1_2k p1_2n p1_2w)] : List va_W)) H → va_D A (List.flatten ([(oX5 (p0a 0) p0a p0k p0w_217 p0l), (oX1 (p1a 0) p1a p1k p1n p1w p1l), (oX9 (p1a 3) p1_2a p1_2k p1_2n p1_2w)] : List va_W)) → va_K (dC, dI) cls (List.flatten ([(tX5 p0k), (tX1 p1k), (tX9 p1_2k)] : List (List (ClassId × FieldType)))) s → va_S A s.heap H locs → lv_has ls 7 [(0, .ref (p0a 0)), (1, .ref (p1a 0)), (2, .int p2), (3, .int v3_217), (5, .int v5_217)] → (∀ (H : Heap) (locs : List Loc) (ls : Array Slot), va_P (dC, dI) cls (List.flatten ([(oX5 (p0a 0) p0a p0k (o217.2) p0l), (oX1 (p1a 0) p1a p1k p1n p1w p1l), (oX9 (p1a 3) p1_2a p1_2k p1_2n p1_2w)] : List va_W)) H → va_D A (List.flatten ([(oX5 (p0a 0) p0a p0k (o217.2) p0l), (oX1 (p1a 0) p1a p1k p1n p1w p1l), (oX9 (p1a 3) p1_2a p1_2k p1_2n p1_2w)] : List va_W)) → va_K (dC, dI) cls (List.flatten ([(tX5 p0k), (tX1 p1k), (tX9 p1_2k)] : List (List (ClassId × FieldType)))) s → va_S A s.heap H locs → lv_has ls 7 [(3, .int (o217.1))] → W p l e ({ frames := 3, cells := 0, slots := 0, locals := 63 } : Room) s m ([.ref (p0a 0), .ref (p1a 0), .int p2] : List Value).toArray below meth c H locs 0 0 Q (F0 m 298 ls [])) → W p l e ({ frames := 3, cells := 0, slots := 0, locals := 63 } : Room) s m ([.ref (p0a 0), .ref (p1a 0), .int p2] : List Value).toArray below meth c H locs 0 0 Q (F0 m 217 ls []) := by
      intro n_217
      induction n_217 with
      | zero => intro v3_217 v5_217 p0w_217 o217 H locs ls hrun; exact (no9 rfl hrun).elim
      | succ n_217 IH217 =>
        intro v3_217 v5_217 p0w_217 o217 H locs ls hrun hP hD hK hS hl hk217
        unfold fX5_wantInBlock_L217 at hrun
        refine lv_iload hx hb dX5_wantInBlock_217 (lv_at hl 4 rfl) ?_
        rcases br9 hrun with ⟨hc35, hrun⟩ | ⟨hc35, hrun⟩
        · refine lv_if_lt (tgt := 298) hx hb dX5_wantInBlock_219 (by decide) (fun _ => ?_) (fun c => absurd hc35 c)
          obtain rfl := (Option.some.inj hrun)
          exact hk217 _ _ _ hP hD hK hS (lv_sub hl [3] rfl)
        · refine lv_if_lt (tgt := 298) hx hb dX5_wantInBlock_219 (by decide) (fun c => absurd c hc35) (fun _ => ?_)
          refine lv_aload_n hx hb dX5_wantInBlock_222 rfl (lv_at hl 0 rfl) ?_
          refine va_get (D := (dC, dI)) (ci := 7) (v := .ref (p0a 7)) (C := RX5) (T := TX5) (N := 12) hx hb hts i_X5 hown hK hP 0 rfl rfl 6 (by decide) (hts _ qw443) (fun _ h9 => h9) rfl dX5_wantInBlock_223 ?_
          refine lv_aload_n hx hb dX5_wantInBlock_226 rfl (lv_at hl 1 rfl) ?_
          refine va_get (D := (dC, dI)) (ci := 4) (v := .ref (p1a 19)) (C := RX1) (T := TX1) (N := 21) hx hb hts i_X1 hown hK hP 10 rfl rfl 18 (by decide) (hts _ qw432) (fun _ h9 => h9) rfl dX5_wantInBlock_227 ?_
          refine lv_iload hx hb dX5_wantInBlock_230 (lv_at hl 4 rfl) ?_
          obtain ⟨hq36, hrun⟩ := chk9 hrun
          refine va_iald hx hb hK hP 25 23 rfl rfl (ixb_in hq36) dX5_wantInBlock_232 ?_
          obtain ⟨hq37, hrun⟩ := chk9 hrun
          refine va_iald hx hb hK hP 6 5 rfl rfl (ixb_in hq37) dX5_wantInBlock_233 ?_
          have J286 : ∀ (v3_286 : Int32) (p0w_286 : ST) (H : Heap) (locs : List Loc) (ls : Array Slot), (fX5_wantInBlock_J286 (fX5_wantInBlock_L217 p1n p1w p2 n_217) p1n p1w v5_217 v3_286 p0w_286) = some o217 → va_P (dC, dI) cls (List.flatten ([(oX5 (p0a 0) p0a p0k p0w_286 p0l), (oX1 (p1a 0) p1a p1k p1n p1w p1l), (oX9 (p1a 3) p1_2a p1_2k p1_2n p1_2w)] : List va_W)) H → va_D A (List.flatten ([(oX5 (p0a 0) p0a p0k p0w_286 p0l), (oX1 (p1a 0) p1a p1k p1n p1w p1l), (oX9 (p1a 3) p1_2a p1_2k p1_2n p1_2w)] : List va_W)) → va_K (dC, dI) cls (List.flatten ([(tX5 p0k), (tX1 p1k), (tX9 p1_2k)] : List (List (ClassId × FieldType)))) s → va_S A s.heap H locs → lv_has ls 7 [(0, .ref (p0a 0)), (1, .ref (p1a 0)), (2, .int p2), (3, .int v3_286), (5, .int v5_217)] → W p l e ({ frames := 3, cells := 0, slots := 0, locals := 63 } : Room) s m ([.ref (p0a 0), .ref (p1a 0), .int p2] : List Value).toArray below meth c H locs 0 0 Q (F0 m 286 ls []) := by
            intro v3_286 p0w_286 H locs ls hrun hP hD hK hS hl 
            unfold fX5_wantInBlock_J286 at hrun
            refine lv_aload_n hx hb dX5_wantInBlock_286 rfl (lv_at hl 1 rfl) ?_
            refine va_get (D := (dC, dI)) (ci := 4) (v := .ref (p1a 20)) (C := RX1) (T := TX1) (N := 21) hx hb hts i_X1 hown hK hP 10 rfl rfl 19 (by decide) (hts _ qw433) (fun _ h9 => h9) rfl dX5_wantInBlock_287 ?_
            refine lv_iload hx hb dX5_wantInBlock_290 (lv_at hl 4 rfl) ?_
            obtain ⟨hq38, hrun⟩ := chk9 hrun
            refine va_iald hx hb hK hP 26 24 rfl rfl (ixb_in hq38) dX5_wantInBlock_292 ?_
            refine lv_istore (lv' := [(5, .int (p1w 20 (nn v5_217))), (0, .ref (p0a 0)), (1, .ref (p1a 0)), (2, .int p2), (3, .int v3_286)]) hx hb dX5_wantInBlock_293 hl (by decide) rfl (fun ls hl => ?_)
            refine lv_goto (tgt := 217) hx hb dX5_wantInBlock_295 (by decide) ?_
            exact IH217 v3_286 (p1w 20 (nn v5_217)) p0w_286 o217 _ _ _ hrun hP hD hK hS (lv_sub hl [1, 2, 3, 4, 0] rfl) hk217
          rcases br9 hrun with ⟨hc39, hrun⟩ | ⟨hc39, hrun⟩
          · refine lv_if_ne (tgt := 286) hx hb dX5_wantInBlock_234 (by decide) (fun c => absurd hc39 c) (fun _ => ?_)
            refine lv_iconst (v := 0) hx hb dX5_wantInBlock_237 (by decide) ?_
            refine lv_istore (lv' := [(6, .int 0), (0, .ref (p0a 0)), (1, .ref (p1a 0)), (2, .int p2), (3, .int v3_217), (5, .int v5_217)]) hx hb dX5_wantInBlock_238 hl (by decide) rfl (fun ls hl => ?_)
            have L240 : ∀ (n_240 : Nat) (v3_240 : Int32) (v6_240 : Int32) (p0w_240 : ST) (o240 : Int32 × ST) (H : Heap) (locs : List Loc) (ls : Array Slot), (fX5_wantInBlock_L240 p1n p1w p2 v5_217 n_240) v3_240 v6_240 p0w_240 = some o240 → va_P (dC, dI) cls (List.flatten ([(oX5 (p0a 0) p0a p0k p0w_240 p0l), (oX1 (p1a 0) p1a p1k p1n p1w p1l), (oX9 (p1a 3) p1_2a p1_2k p1_2n p1_2w)] : List va_W)) H → va_D A (List.flatten ([(oX5 (p0a 0) p0a p0k p0w_240 p0l), (oX1 (p1a 0) p1a p1k p1n p1w p1l), (oX9 (p1a 3) p1_2a p1_2k p1_2n p1_2w)] : List va_W)) → va_K (dC, dI) cls (List.flatten ([(tX5 p0k), (tX1 p1k), (tX9 p1_2k)] : List (List (ClassId × FieldType)))) s → va_S A s.heap H locs → lv_has ls 7 [(0, .ref (p0a 0)), (1, .ref (p1a 0)), (2, .int p2), (3, .int v3_240), (5, .int v5_217), (6, .int v6_240)] → (∀ (H : Heap) (locs : List Loc) (ls : Array Slot), va_P (dC, dI) cls (List.flatten ([(oX5 (p0a 0) p0a p0k (o240.2) p0l), (oX1 (p1a 0) p1a p1k p1n p1w p1l), (oX9 (p1a 3) p1_2a p1_2k p1_2n p1_2w)] : List va_W)) H → va_D A (List.flatten ([(oX5 (p0a 0) p0a p0k (o240.2) p0l), (oX1 (p1a 0) p1a p1k p1n p1w p1l), (oX9 (p1a 3) p1_2a p1_2k p1_2n p1_2w)] : List va_W)) → va_K (dC, dI) cls (List.flatten ([(tX5 p0k), (tX1 p1k), (tX9 p1_2k)] : List (List (ClassId × FieldType)))) s → va_S A s.heap H locs → lv_has ls 7 [(0, .ref (p0a 0)), (1, .ref (p1a 0)), (2, .int p2), (3, .int (o240.1)), (5, .int v5_217)] → W p l e ({ frames := 3, cells := 0, slots := 0, locals := 63 } : Room) s m ([.ref (p0a 0), .ref (p1a 0), .int p2] : List Value).toArray below meth c H locs 0 0 Q (F0 m 286 ls [])) → W p l e ({ frames := 3, cells := 0, slots := 0, locals := 63 } : Room) s m ([.ref (p0a 0), .ref (p1a 0), .int p2] : List Value).toArray below meth c H locs 0 0 Q (F0 m 240 ls []) := by
              intro n_240
              induction n_240 with
              | zero => intro v3_240 v6_240 p0w_240 o240 H locs ls hrun; exact (no9 rfl hrun).elim
              | succ n_240 IH240 =>
                intro v3_240 v6_240 p0w_240 o240 H locs ls hrun hP hD hK hS hl hk240
                unfold fX5_wantInBlock_L240 at hrun
                refine lv_iload hx hb dX5_wantInBlock_240 (lv_at hl 5 rfl) ?_
                refine lv_aload_n hx hb dX5_wantInBlock_242 rfl (lv_at hl 1 rfl) ?_
                refine lv_iload_n hx hb dX5_wantInBlock_243 rfl (lv_at hl 2 rfl) ?_
                obtain ⟨o_40, hc_40, hrun⟩ := bnd9 hrun
                have hPx : va_P (dC, dI) cls ((List.flatten ([(oX1 (p1a 0) p1a p1k p1n p1w p1l)] : List va_W)) ++ (List.flatten ([(oX5 (p0a 0) p0a p0k p0w_240 p0l), (oX9 (p1a 3) p1_2a p1_2k p1_2n p1_2w)] : List va_W))) H := vP_fa (vP_perm hP (bP ((((List.Perm.refl _)).cons _).trans (List.Perm.swap _ _ _))))
                have hDx : va_D A ((List.flatten ([(oX1 (p1a 0) p1a p1k p1n p1w p1l)] : List va_W)) ++ (List.flatten ([(oX5 (p0a 0) p0a p0k p0w_240 p0l), (oX9 (p1a 3) p1_2a p1_2k p1_2n p1_2w)] : List va_W))) := vD_fa (vD_perm hD (bP ((((List.Perm.refl _)).cons _).trans (List.Perm.swap _ _ _))))
                have hKx : va_K (dC, dI) cls ((List.flatten ([(tX1 p1k)] : List (List (ClassId × FieldType)))) ++ (List.flatten ([(tX5 p0k), (tX9 p1_2k)] : List (List (ClassId × FieldType))))) s := vK_fa (vK_perm hK (bP ((((List.Perm.refl _)).cons _).trans (List.Perm.swap _ _ _))))
                have hPc := vP_l hPx
                have hDc := vD_l hDx
                have hKc := vK_l hKx
                have hFc := vfree hDx hS hA
                refine va_calli (va_runV (As := [.int p2]) (rest := [.int v6_240]) ⟨hx, hb, hml, hown, hts⟩ (kX1_waysTo l dC dI (p0a := p1a) (p0k := p1k) (p0n := p1n) (p0w := p1w) (p0l := p1l) (p1 := p2) (sz := _) (o := o_40) (hrun := hc_40)) (cwV 1 hts (gi_V qw423 qw185 qw186 qw126 (gi_z qw183)) rfl rfl rfl (by decide +kernel) ⟨Nat.le_of_ble_eq_true rfl, Nat.le_of_ble_eq_true rfl⟩) ⟨PRE.blind, va_recv hKc hPc (ci := 4) (q0 := 0) rfl rfl, PRE.of hE hS hFc hPc hKc hDc⟩ rfl rfl hl.1 rfl (lv_room (Nat.le_of_ble_eq_true rfl)) dX5_wantInBlock_244 ⟨(Nat.le_of_ble_eq_true rfl), (Nat.le_of_ble_eq_true rfl)⟩) hS (fun q _ h => hFc q h) hFc (fun r41 u t H locs ht hvm hw hB hz1 hk1 hS => ?_)
                obtain ⟨b1, b2, b3⟩ := hB
                rw [ht] at b1
                obtain ⟨hP, hD, hK⟩ := JOINC (wc := (List.flatten ([(oX1 (p1a 0) p1a p1k p1n p1w p1l)] : List va_W))) (wr := (List.flatten ([(oX5 (p0a 0) p0a p0k p0w_240 p0l), (oX9 (p1a 3) p1_2a p1_2k p1_2n p1_2w)] : List va_W))) (w1 := (List.flatten ([(oX1 (p1a 0) p1a p1k p1n p1w p1l)] : List va_W))) (t1 := (List.flatten ([(tX1 p1k)] : List (List (ClassId × FieldType))))) hPx hDx hKx hk1 hFc b1 (va_K.moved hvm.symm b2) b3
                have hP : va_P (dC, dI) cls (List.flatten ([(oX5 (p0a 0) p0a p0k p0w_240 p0l), (oX1 (p1a 0) p1a p1k p1n p1w p1l), (oX9 (p1a 3) p1_2a p1_2k p1_2n p1_2w)] : List va_W)) H := vP_perm (vP_fb hP) (bP ((((List.Perm.refl _)).cons _).trans (List.Perm.swap _ _ _)))
                have hD : va_D A (List.flatten ([(oX5 (p0a 0) p0a p0k p0w_240 p0l), (oX1 (p1a 0) p1a p1k p1n p1w p1l), (oX9 (p1a 3) p1_2a p1_2k p1_2n p1_2w)] : List va_W)) := vD_perm (vD_fb hD) (bP ((((List.Perm.refl _)).cons _).trans (List.Perm.swap _ _ _)))
                have hK : va_K (dC, dI) cls (List.flatten ([(tX5 p0k), (tX1 p1k), (tX9 p1_2k)] : List (List (ClassId × FieldType)))) s := vK_perm (vK_fb hK) (bP ((((List.Perm.refl _)).cons _).trans (List.Perm.swap _ _ _)))
                obtain rfl : o_40 = r41 := hw.symm
                rcases br9 hrun with ⟨hc42, hrun⟩ | ⟨hc42, hrun⟩
                · refine lv_icmp_ge (tgt := 286) hx hb dX5_wantInBlock_247 (by decide) (fun _ => ?_) (fun c => absurd hc42 c)
                  obtain rfl := (Option.some.inj hrun)
                  exact hk240 _ _ _ hP hD hK hS (lv_sub hl [0, 1, 2, 3, 4] rfl)
                · refine lv_icmp_ge (tgt := 286) hx hb dX5_wantInBlock_247 (by decide) (fun c => absurd c hc42) (fun _ => ?_)
                  refine lv_aload_n hx hb dX5_wantInBlock_250 rfl (lv_at hl 0 rfl) ?_
                  refine lv_aload_n hx hb dX5_wantInBlock_251 rfl (lv_at hl 1 rfl) ?_
                  refine lv_iload hx hb dX5_wantInBlock_252 (lv_at hl 4 rfl) ?_
                  refine lv_aload_n hx hb dX5_wantInBlock_254 rfl (lv_at hl 1 rfl) ?_
                  refine lv_iload_n hx hb dX5_wantInBlock_255 rfl (lv_at hl 2 rfl) ?_
                  refine lv_iload hx hb dX5_wantInBlock_256 (lv_at hl 5 rfl) ?_
                  obtain ⟨o_43, hc_43, hrun⟩ := bnd9 hrun
                  have hPx : va_P (dC, dI) cls ((List.flatten ([(oX1 (p1a 0) p1a p1k p1n p1w p1l)] : List va_W)) ++ (List.flatten ([(oX5 (p0a 0) p0a p0k p0w_240 p0l), (oX9 (p1a 3) p1_2a p1_2k p1_2n p1_2w)] : List va_W))) H := vP_fa (vP_perm hP (bP ((((List.Perm.refl _)).cons _).trans (List.Perm.swap _ _ _))))
                  have hDx : va_D A ((List.flatten ([(oX1 (p1a 0) p1a p1k p1n p1w p1l)] : List va_W)) ++ (List.flatten ([(oX5 (p0a 0) p0a p0k p0w_240 p0l), (oX9 (p1a 3) p1_2a p1_2k p1_2n p1_2w)] : List va_W))) := vD_fa (vD_perm hD (bP ((((List.Perm.refl _)).cons _).trans (List.Perm.swap _ _ _))))
                  have hKx : va_K (dC, dI) cls ((List.flatten ([(tX1 p1k)] : List (List (ClassId × FieldType)))) ++ (List.flatten ([(tX5 p0k), (tX9 p1_2k)] : List (List (ClassId × FieldType))))) s := vK_fa (vK_perm hK (bP ((((List.Perm.refl _)).cons _).trans (List.Perm.swap _ _ _))))
                  have hPc := vP_l hPx
                  have hDc := vD_l hDx
                  have hKc := vK_l hKx
                  have hFc := vfree hDx hS hA
                  refine va_calli (va_runV (As := [.int p2, .int v6_240]) (rest := [.int v5_217, .ref (p1a 0), .ref (p0a 0)]) ⟨hx, hb, hml, hown, hts⟩ (kX1_wayFrom l dC dI (p0a := p1a) (p0k := p1k) (p0n := p1n) (p0w := p1w) (p0l := p1l) (p1 := p2) (p2 := v6_240) (sz := _) (o := o_43) (hrun := hc_43)) (cwV 2 hts (gi_V qw424 qw189 qw190 qw126 (gi_z qw187)) rfl rfl rfl (by decide +kernel) ⟨Nat.le_of_ble_eq_true rfl, Nat.le_of_ble_eq_true rfl⟩) ⟨PRE.blind, va_recv hKc hPc (ci := 4) (q0 := 0) rfl rfl, PRE.of hE hS hFc hPc hKc hDc⟩ rfl rfl hl.1 rfl (lv_room (Nat.le_of_ble_eq_true rfl)) dX5_wantInBlock_258 ⟨(Nat.le_of_ble_eq_true rfl), (Nat.le_of_ble_eq_true rfl)⟩) hS (fun q _ h => hFc q h) hFc (fun r44 u t H locs ht hvm hw hB hz1 hk1 hS => ?_)
                  obtain ⟨b1, b2, b3⟩ := hB
                  rw [ht] at b1
                  obtain ⟨hP, hD, hK⟩ := JOINC (wc := (List.flatten ([(oX1 (p1a 0) p1a p1k p1n p1w p1l)] : List va_W))) (wr := (List.flatten ([(oX5 (p0a 0) p0a p0k p0w_240 p0l), (oX9 (p1a 3) p1_2a p1_2k p1_2n p1_2w)] : List va_W))) (w1 := (List.flatten ([(oX1 (p1a 0) p1a p1k p1n p1w p1l)] : List va_W))) (t1 := (List.flatten ([(tX1 p1k)] : List (List (ClassId × FieldType))))) hPx hDx hKx hk1 hFc b1 (va_K.moved hvm.symm b2) b3
                  have hP : va_P (dC, dI) cls (List.flatten ([(oX5 (p0a 0) p0a p0k p0w_240 p0l), (oX1 (p1a 0) p1a p1k p1n p1w p1l), (oX9 (p1a 3) p1_2a p1_2k p1_2n p1_2w)] : List va_W)) H := vP_perm (vP_fb hP) (bP ((((List.Perm.refl _)).cons _).trans (List.Perm.swap _ _ _)))
                  have hD : va_D A (List.flatten ([(oX5 (p0a 0) p0a p0k p0w_240 p0l), (oX1 (p1a 0) p1a p1k p1n p1w p1l), (oX9 (p1a 3) p1_2a p1_2k p1_2n p1_2w)] : List va_W)) := vD_perm (vD_fb hD) (bP ((((List.Perm.refl _)).cons _).trans (List.Perm.swap _ _ _)))
                  have hK : va_K (dC, dI) cls (List.flatten ([(tX5 p0k), (tX1 p1k), (tX9 p1_2k)] : List (List (ClassId × FieldType)))) s := vK_perm (vK_fb hK) (bP ((((List.Perm.refl _)).cons _).trans (List.Perm.swap _ _ _)))
                  obtain rfl : o_43 = r44 := hw.symm
                  obtain ⟨o_45, hc_45, hrun⟩ := bnd9 hrun
                  have hPx : va_P (dC, dI) cls ((List.flatten ([(oX1 (p1a 0) p1a p1k p1n p1w p1l)] : List va_W)) ++ (List.flatten ([(oX5 (p0a 0) p0a p0k p0w_240 p0l), (oX9 (p1a 3) p1_2a p1_2k p1_2n p1_2w)] : List va_W))) H := vP_fa (vP_perm hP (bP ((((List.Perm.refl _)).cons _).trans (List.Perm.swap _ _ _))))
                  have hDx : va_D A ((List.flatten ([(oX1 (p1a 0) p1a p1k p1n p1w p1l)] : List va_W)) ++ (List.flatten ([(oX5 (p0a 0) p0a p0k p0w_240 p0l), (oX9 (p1a 3) p1_2a p1_2k p1_2n p1_2w)] : List va_W))) := vD_fa (vD_perm hD (bP ((((List.Perm.refl _)).cons _).trans (List.Perm.swap _ _ _))))
                  have hKx : va_K (dC, dI) cls ((List.flatten ([(tX1 p1k)] : List (List (ClassId × FieldType)))) ++ (List.flatten ([(tX5 p0k), (tX9 p1_2k)] : List (List (ClassId × FieldType))))) s := vK_fa (vK_perm hK (bP ((((List.Perm.refl _)).cons _).trans (List.Perm.swap _ _ _))))
                  have hPc := vP_l hPx
                  have hDc := vD_l hDx
                  have hKc := vK_l hKx
                  have hFc := vfree hDx hS hA
                  refine va_calli (va_runV (As := [.int v5_217, .int o_43]) (rest := [.ref (p0a 0)]) ⟨hx, hb, hml, hown, hts⟩ (kX1_take l dC dI (p0a := p1a) (p0k := p1k) (p0n := p1n) (p0w := p1w) (p0l := p1l) (p1 := v5_217) (p2 := o_43) (sz := _) (o := o_45) (hrun := hc_45)) (cwV 2 hts (gi_V qw469 qw470 qw471 qw126 (gi_z qw468)) rfl rfl rfl (by decide +kernel) ⟨Nat.le_of_ble_eq_true rfl, Nat.le_of_ble_eq_true rfl⟩) ⟨PRE.blind, va_recv hKc hPc (ci := 4) (q0 := 0) rfl rfl, PRE.of hE hS hFc hPc hKc hDc⟩ rfl rfl hl.1 rfl (lv_room (Nat.le_of_ble_eq_true rfl)) dX5_wantInBlock_261 ⟨(Nat.le_of_ble_eq_true rfl), (Nat.le_of_ble_eq_true rfl)⟩) hS (fun q _ h => hFc q h) hFc (fun r46 u t H locs ht hvm hw hB hz1 hk1 hS => ?_)
                  obtain ⟨b1, b2, b3⟩ := hB
                  rw [ht] at b1
                  obtain ⟨hP, hD, hK⟩ := JOINC (wc := (List.flatten ([(oX1 (p1a 0) p1a p1k p1n p1w p1l)] : List va_W))) (wr := (List.flatten ([(oX5 (p0a 0) p0a p0k p0w_240 p0l), (oX9 (p1a 3) p1_2a p1_2k p1_2n p1_2w)] : List va_W))) (w1 := (List.flatten ([(oX1 (p1a 0) p1a p1k p1n p1w p1l)] : List va_W))) (t1 := (List.flatten ([(tX1 p1k)] : List (List (ClassId × FieldType))))) hPx hDx hKx hk1 hFc b1 (va_K.moved hvm.symm b2) b3
                  have hP : va_P (dC, dI) cls (List.flatten ([(oX5 (p0a 0) p0a p0k p0w_240 p0l), (oX1 (p1a 0) p1a p1k p1n p1w p1l), (oX9 (p1a 3) p1_2a p1_2k p1_2n p1_2w)] : List va_W)) H := vP_perm (vP_fb hP) (bP ((((List.Perm.refl _)).cons _).trans (List.Perm.swap _ _ _)))
                  have hD : va_D A (List.flatten ([(oX5 (p0a 0) p0a p0k p0w_240 p0l), (oX1 (p1a 0) p1a p1k p1n p1w p1l), (oX9 (p1a 3) p1_2a p1_2k p1_2n p1_2w)] : List va_W)) := vD_perm (vD_fb hD) (bP ((((List.Perm.refl _)).cons _).trans (List.Perm.swap _ _ _)))
                  have hK : va_K (dC, dI) cls (List.flatten ([(tX5 p0k), (tX1 p1k), (tX9 p1_2k)] : List (List (ClassId × FieldType)))) s := vK_perm (vK_fb hK) (bP ((((List.Perm.refl _)).cons _).trans (List.Perm.swap _ _ _)))
                  obtain rfl : o_45 = r46 := hw.symm
                  obtain ⟨o_47, hc_47, hrun⟩ := bnd9 hrun
                  have hPx : va_P (dC, dI) cls ((List.flatten ([(oX5 (p0a 0) p0a p0k p0w_240 p0l)] : List va_W)) ++ (List.flatten ([(oX1 (p1a 0) p1a p1k p1n p1w p1l), (oX9 (p1a 3) p1_2a p1_2k p1_2n p1_2w)] : List va_W))) H := vP_fa (vP_perm hP (bP (List.Perm.refl _)))
                  have hDx : va_D A ((List.flatten ([(oX5 (p0a 0) p0a p0k p0w_240 p0l)] : List va_W)) ++ (List.flatten ([(oX1 (p1a 0) p1a p1k p1n p1w p1l), (oX9 (p1a 3) p1_2a p1_2k p1_2n p1_2w)] : List va_W))) := vD_fa (vD_perm hD (bP (List.Perm.refl _)))
                  have hKx : va_K (dC, dI) cls ((List.flatten ([(tX5 p0k)] : List (List (ClassId × FieldType)))) ++ (List.flatten ([(tX1 p1k), (tX9 p1_2k)] : List (List (ClassId × FieldType))))) s := vK_fa (vK_perm hK (bP (List.Perm.refl _)))
                  have hPc := vP_l hPx
                  have hDc := vD_l hDx
                  have hKc := vK_l hKx
                  have hFc := vfree hDx hS hA
                  refine va_calli (va_runV (As := [.int o_45]) (rest := []) ⟨hx, hb, hml, hown, hts⟩ (kX5_want l dC dI (p0a := p0a) (p0k := p0k) (p0w := p0w_240) (p0l := p0l) (p1 := o_45) (sz := _) (o := o_47) (hrun := hc_47)) (cwV 1 hts (gi_V qw449 qw450 qw451 qw442 (gi_z qw448)) rfl rfl rfl (by decide +kernel) ⟨Nat.le_of_ble_eq_true rfl, Nat.le_of_ble_eq_true rfl⟩) ⟨PRE.blind, va_recv hKc hPc (ci := 7) (q0 := 0) rfl rfl, PRE.of hE hS hFc hPc hKc hDc⟩ rfl rfl hl.1 rfl (lv_room (Nat.le_of_ble_eq_true rfl)) dX5_wantInBlock_264 ⟨(Nat.le_of_ble_eq_true rfl), (Nat.le_of_ble_eq_true rfl)⟩) hS (fun q _ h => hFc q h) hFc (fun r48 u t H locs ht hvm hw hB hz1 hk1 hS => ?_)
                  obtain ⟨b1, b2, b3⟩ := hB
                  rw [ht] at b1
                  obtain ⟨hP, hD, hK⟩ := JOINC (wc := (List.flatten ([(oX5 (p0a 0) p0a p0k p0w_240 p0l)] : List va_W))) (wr := (List.flatten ([(oX1 (p1a 0) p1a p1k p1n p1w p1l), (oX9 (p1a 3) p1_2a p1_2k p1_2n p1_2w)] : List va_W))) (w1 := (List.flatten ([(oX5 (p0a 0) p0a p0k (o_47.2) p0l)] : List va_W))) (t1 := (List.flatten ([(tX5 p0k)] : List (List (ClassId × FieldType))))) hPx hDx hKx hk1 hFc b1 (va_K.moved hvm.symm b2) b3
                  have hP : va_P (dC, dI) cls (List.flatten ([(oX5 (p0a 0) p0a p0k (o_47.2) p0l), (oX1 (p1a 0) p1a p1k p1n p1w p1l), (oX9 (p1a 3) p1_2a p1_2k p1_2n p1_2w)] : List va_W)) H := vP_perm (vP_fb hP) (bP (List.Perm.refl _))
                  have hD : va_D A (List.flatten ([(oX5 (p0a 0) p0a p0k (o_47.2) p0l), (oX1 (p1a 0) p1a p1k p1n p1w p1l), (oX9 (p1a 3) p1_2a p1_2k p1_2n p1_2w)] : List va_W)) := vD_perm (vD_fb hD) (bP (List.Perm.refl _))
                  have hK : va_K (dC, dI) cls (List.flatten ([(tX5 p0k), (tX1 p1k), (tX9 p1_2k)] : List (List (ClassId × FieldType)))) s := vK_perm (vK_fb hK) (bP (List.Perm.refl _))
                  obtain rfl : r48 = (o_47.1) := hw
                  have J279 : ∀ (y0_279 : Int32) (H : Heap) (locs : List Loc) (ls : Array Slot), (fX5_wantInBlock_J279 (fX5_wantInBlock_L240 p1n p1w p2 v5_217 n_240) v6_240 o_47 y0_279) = some o240 → va_P (dC, dI) cls (List.flatten ([(oX5 (p0a 0) p0a p0k (o_47.2) p0l), (oX1 (p1a 0) p1a p1k p1n p1w p1l), (oX9 (p1a 3) p1_2a p1_2k p1_2n p1_2w)] : List va_W)) H → va_D A (List.flatten ([(oX5 (p0a 0) p0a p0k (o_47.2) p0l), (oX1 (p1a 0) p1a p1k p1n p1w p1l), (oX9 (p1a 3) p1_2a p1_2k p1_2n p1_2w)] : List va_W)) → va_K (dC, dI) cls (List.flatten ([(tX5 p0k), (tX1 p1k), (tX9 p1_2k)] : List (List (ClassId × FieldType)))) s → va_S A s.heap H locs → lv_has ls 7 [(0, .ref (p0a 0)), (1, .ref (p1a 0)), (2, .int p2), (5, .int v5_217), (6, .int v6_240)] → W p l e ({ frames := 3, cells := 0, slots := 0, locals := 63 } : Room) s m ([.ref (p0a 0), .ref (p1a 0), .int p2] : List Value).toArray below meth c H locs 0 0 Q (F0 m 279 ls [.int y0_279]) := by
                    intro y0_279 H locs ls hrun hP hD hK hS hl 
                    unfold fX5_wantInBlock_J279 at hrun
                    refine lv_istore_n (lv' := [(3, .int y0_279), (0, .ref (p0a 0)), (1, .ref (p1a 0)), (2, .int p2), (5, .int v5_217), (6, .int v6_240)]) hx hb dX5_wantInBlock_279 rfl hl (by decide) rfl (fun ls hl => ?_)
                    refine lv_iinc (v := (v6_240 + 1)) (lv' := [(6, .int (v6_240 + 1)), (3, .int y0_279), (0, .ref (p0a 0)), (1, .ref (p1a 0)), (2, .int p2), (5, .int v5_217)]) hx hb dX5_wantInBlock_280 hl (k := 5) rfl rfl (by decide) rfl (fun ls hl => ?_)
                    refine lv_goto (tgt := 240) hx hb dX5_wantInBlock_283 (by decide) ?_
                    exact IH240 y0_279 (v6_240 + 1) (o_47.2) o240 _ _ _ hrun hP hD hK hS (lv_sub hl [2, 3, 4, 1, 5, 0] rfl) hk240
                  have J274 : ∀ (H : Heap) (locs : List Loc) (ls : Array Slot), (fX5_wantInBlock_J274 (fX5_wantInBlock_L240 p1n p1w p2 v5_217 n_240) v6_240 o_47) = some o240 → va_P (dC, dI) cls (List.flatten ([(oX5 (p0a 0) p0a p0k (o_47.2) p0l), (oX1 (p1a 0) p1a p1k p1n p1w p1l), (oX9 (p1a 3) p1_2a p1_2k p1_2n p1_2w)] : List va_W)) H → va_D A (List.flatten ([(oX5 (p0a 0) p0a p0k (o_47.2) p0l), (oX1 (p1a 0) p1a p1k p1n p1w p1l), (oX9 (p1a 3) p1_2a p1_2k p1_2n p1_2w)] : List va_W)) → va_K (dC, dI) cls (List.flatten ([(tX5 p0k), (tX1 p1k), (tX9 p1_2k)] : List (List (ClassId × FieldType)))) s → va_S A s.heap H locs → lv_has ls 7 [(0, .ref (p0a 0)), (1, .ref (p1a 0)), (2, .int p2), (5, .int v5_217), (6, .int v6_240)] → W p l e ({ frames := 3, cells := 0, slots := 0, locals := 63 } : Room) s m ([.ref (p0a 0), .ref (p1a 0), .int p2] : List Value).toArray below meth c H locs 0 0 Q (F0 m 274 ls []) := by
                    intro  H locs ls hrun hP hD hK hS hl 
                    unfold fX5_wantInBlock_J274 at hrun
                    refine lv_iconst (v := 1) hx hb dX5_wantInBlock_274 (by decide) ?_
                    refine lv_goto (tgt := 279) hx hb dX5_wantInBlock_275 (by decide) ?_
                    exact J279 1 _ _ _ hrun hP hD hK hS (lv_sub hl [0, 1, 2, 3, 4] rfl)
                  rcases br9 hrun with ⟨hc49, hrun⟩ | ⟨hc49, hrun⟩
                  · refine lv_if_ne (tgt := 274) hx hb dX5_wantInBlock_267 (by decide) (fun c => absurd hc49 c) (fun _ => ?_)
                    refine lv_iload_n hx hb dX5_wantInBlock_270 rfl (lv_at hl 3 rfl) ?_
                    rcases br9 hrun with ⟨hc50, hrun⟩ | ⟨hc50, hrun⟩
                    · refine lv_if_eq (tgt := 278) hx hb dX5_wantInBlock_271 (by decide) (fun _ => ?_) (fun c => absurd hc50 c)
                      refine lv_iconst (v := 0) hx hb dX5_wantInBlock_278 (by decide) ?_
                      exact J279 0 _ _ _ hrun hP hD hK hS (lv_sub hl [0, 1, 2, 4, 5] rfl)
                    · refine lv_if_eq (tgt := 278) hx hb dX5_wantInBlock_271 (by decide) (fun c => absurd c hc50) (fun _ => ?_)
                      exact J274 _ _ _ hrun hP hD hK hS (lv_sub hl [0, 1, 2, 4, 5] rfl)
                  · refine lv_if_ne (tgt := 274) hx hb dX5_wantInBlock_267 (by decide) (fun _ => ?_) (fun c => absurd c hc49)
                    exact J274 _ _ _ hrun hP hD hK hS (lv_sub hl [0, 1, 2, 4, 5] rfl)
            obtain ⟨o240, hc240, hrun⟩ := bnd9 hrun
            refine L240 NF v3_217 0 p0w_217 o240 _ _ _ hc240 hP hD hK hS (lv_sub hl [1, 2, 3, 4, 5, 0] rfl) ?_
            intro H locs ls hP hD hK hS hl
            have hl := hl
            exact J286 (o240.1) (o240.2) _ _ _ hrun hP hD hK hS (lv_sub hl [0, 1, 2, 3, 4] rfl)
          · refine lv_if_ne (tgt := 286) hx hb dX5_wantInBlock_234 (by decide) (fun _ => ?_) (fun c => absurd c hc39)
            exact J286 v3_217 p0w_217 _ _ _ hrun hP hD hK hS (lv_sub hl [0, 1, 2, 3, 4] rfl)
    obtain ⟨o217, hc217, hrun⟩ := bnd9 hrun
    refine L217 NF (o42.1) (p1w 6 (nn p2)) (o42.2) o217 _ _ _ hc217 hP hD hK hS (lv_sub hl [1, 2, 3, 4, 0] rfl) ?_
    intro H locs ls hP hD hK hS hl
    have hl := hl
    refine lv_iload_n hx hb dX5_wantInBlock_298 rfl (lv_at hl 0 rfl) ?_
    obtain ⟨hz9, hrun⟩ := chk9 hrun
    have ho9 : ((o217.1), (o217.2)) = o := Option.some.inj hrun
    have hP9 : va_P (dC, dI) cls (List.flatten ([(oX5 (p0a 0) p0a p0k (o.2) p0l), (oX1 (p1a 0) p1a p1k p1n p1w p1l), (oX9 (p1a 3) p1_2a p1_2k p1_2n p1_2w)] : List va_W)) H := by first | exact hP | (rw [← ho9]; exact hP)
    have hD9 : va_D A (List.flatten ([(oX5 (p0a 0) p0a p0k (o.2) p0l), (oX1 (p1a 0) p1a p1k p1n p1w p1l), (oX9 (p1a 3) p1_2a p1_2k p1_2n p1_2w)] : List va_W)) := by first | exact hD | (rw [← ho9]; exact hD)
    subst hQ
    exact W.zret (v := (o217.1)) hx hb hr (bz9 hz9) (fun t ht hW => ⟨⟨(o217.1), (), rfl, (by rw [← ho9]), ⟨by rw [ht]; exact hP9, va_K.moved hW.alike hK, hD9⟩⟩, hS.F ht⟩) hS.2.2 dX5_wantInBlock_299
  have J26 : ∀ (p0w_26 : ST) (H : Heap) (locs : List Loc) (ls : Array Slot), (fX5_wantInBlock_J26 p1n p1w p2 p1_2n p1_2w p0w_26) = some o → va_P (dC, dI) cls (List.flatten ([(oX5 (p0a 0) p0a p0k p0w_26 p0l), (oX1 (p1a 0) p1a p1k p1n p1w p1l), (oX9 (p1a 3) p1_2a p1_2k p1_2n p1_2w)] : List va_W)) H → va_D A (List.flatten ([(oX5 (p0a 0) p0a p0k p0w_26 p0l), (oX1 (p1a 0) p1a p1k p1n p1w p1l), (oX9 (p1a 3) p1_2a p1_2k p1_2n p1_2w)] : List va_W)) → va_K (dC, dI) cls (List.flatten ([(tX5 p0k), (tX1 p1k), (tX9 p1_2k)] : List (List (ClassId × FieldType)))) s → va_S A s.heap H locs → lv_has ls 7 [(0, .ref (p0a 0)), (1, .ref (p1a 0)), (2, .int p2)] → W p l e ({ frames := 3, cells := 0, slots := 0, locals := 63 } : Room) s m ([.ref (p0a 0), .ref (p1a 0), .int p2] : List Value).toArray below meth c H locs 0 0 Q (F0 m 26 ls []) := by
    intro p0w_26 H locs ls hrun hP hD hK hS hl 
    unfold fX5_wantInBlock_J26 at hrun
    refine lv_iconst (v := 0) hx hb dX5_wantInBlock_26 (by decide) ?_
    exact J27 0 p0w_26 _ _ _ hrun hP hD hK hS (lv_sub hl [0, 1, 2] rfl)
  rcases br9 hrun with ⟨hc51, hrun⟩ | ⟨hc51, hrun⟩
  · refine lv_if_lt (tgt := 26) hx hb dX5_wantInBlock_6 (by decide) (fun _ => ?_) (fun c => absurd hc51 c)
    exact J26 p0w _ _ _ hrun hP hD hK hS (lv_sub hl [0, 1, 2] rfl)
  · refine lv_if_lt (tgt := 26) hx hb dX5_wantInBlock_6 (by decide) (fun c => absurd c hc51) (fun _ => ?_)
    refine lv_aload_n hx hb dX5_wantInBlock_9 rfl (lv_at hl 0 rfl) ?_
    refine lv_aload_n hx hb dX5_wantInBlock_10 rfl (lv_at hl 1 rfl) ?_
    refine va_get (D := (dC, dI)) (ci := 4) (v := .ref (p1a 9)) (C := RX1) (T := TX1) (N := 21) hx hb hts i_X1 hown hK hP 10 rfl rfl 8 (by decide) (hts _ qw445) (fun _ h9 => h9) rfl dX5_wantInBlock_11 ?_
    refine lv_iload_n hx hb dX5_wantInBlock_14 rfl (lv_at hl 2 rfl) ?_
    obtain ⟨hq52, hrun⟩ := chk9 hrun
    refine va_iald hx hb hK hP 16 14 rfl rfl (ixb_in hq52) dX5_wantInBlock_15 ?_
    obtain ⟨o_53, hc_53, hrun⟩ := bnd9 hrun
    have hPx : va_P (dC, dI) cls ((List.flatten ([(oX5 (p0a 0) p0a p0k p0w p0l)] : List va_W)) ++ (List.flatten ([(oX1 (p1a 0) p1a p1k p1n p1w p1l), (oX9 (p1a 3) p1_2a p1_2k p1_2n p1_2w)] : List va_W))) H := vP_fa (vP_perm hP (bP (List.Perm.refl _)))
    have hDx : va_D A ((List.flatten ([(oX5 (p0a 0) p0a p0k p0w p0l)] : List va_W)) ++ (List.flatten ([(oX1 (p1a 0) p1a p1k p1n p1w p1l), (oX9 (p1a 3) p1_2a p1_2k p1_2n p1_2w)] : List va_W))) := vD_fa (vD_perm hD (bP (List.Perm.refl _)))
    have hKx : va_K (dC, dI) cls ((List.flatten ([(tX5 p0k)] : List (List (ClassId × FieldType)))) ++ (List.flatten ([(tX1 p1k), (tX9 p1_2k)] : List (List (ClassId × FieldType))))) s := vK_fa (vK_perm hK (bP (List.Perm.refl _)))
    have hPc := vP_l hPx
    have hDc := vD_l hDx
    have hKc := vK_l hKx
    have hFc := vfree hDx hS hA
    refine va_calli (va_runV (As := [.int (p1w 9 (nn p2))]) (rest := []) ⟨hx, hb, hml, hown, hts⟩ (kX5_want l dC dI (p0a := p0a) (p0k := p0k) (p0w := p0w) (p0l := p0l) (p1 := (p1w 9 (nn p2))) (sz := _) (o := o_53) (hrun := hc_53)) (cwV 1 hts (gi_V qw449 qw450 qw451 qw442 (gi_z qw448)) rfl rfl rfl (by decide +kernel) ⟨Nat.le_of_ble_eq_true rfl, Nat.le_of_ble_eq_true rfl⟩) ⟨PRE.blind, va_recv hKc hPc (ci := 7) (q0 := 0) rfl rfl, PRE.of hE hS hFc hPc hKc hDc⟩ rfl rfl hl.1 rfl (lv_room (Nat.le_of_ble_eq_true rfl)) dX5_wantInBlock_16 ⟨(Nat.le_of_ble_eq_true rfl), (Nat.le_of_ble_eq_true rfl)⟩) hS (fun q _ h => hFc q h) hFc (fun r54 u t H locs ht hvm hw hB hz1 hk1 hS => ?_)
    obtain ⟨b1, b2, b3⟩ := hB
    rw [ht] at b1
    obtain ⟨hP, hD, hK⟩ := JOINC (wc := (List.flatten ([(oX5 (p0a 0) p0a p0k p0w p0l)] : List va_W))) (wr := (List.flatten ([(oX1 (p1a 0) p1a p1k p1n p1w p1l), (oX9 (p1a 3) p1_2a p1_2k p1_2n p1_2w)] : List va_W))) (w1 := (List.flatten ([(oX5 (p0a 0) p0a p0k (o_53.2) p0l)] : List va_W))) (t1 := (List.flatten ([(tX5 p0k)] : List (List (ClassId × FieldType))))) hPx hDx hKx hk1 hFc b1 (va_K.moved hvm.symm b2) b3
    have hP : va_P (dC, dI) cls (List.flatten ([(oX5 (p0a 0) p0a p0k (o_53.2) p0l), (oX1 (p1a 0) p1a p1k p1n p1w p1l), (oX9 (p1a 3) p1_2a p1_2k p1_2n p1_2w)] : List va_W)) H := vP_perm (vP_fb hP) (bP (List.Perm.refl _))
    have hD : va_D A (List.flatten ([(oX5 (p0a 0) p0a p0k (o_53.2) p0l), (oX1 (p1a 0) p1a p1k p1n p1w p1l), (oX9 (p1a 3) p1_2a p1_2k p1_2n p1_2w)] : List va_W)) := vD_perm (vD_fb hD) (bP (List.Perm.refl _))
    have hK : va_K (dC, dI) cls (List.flatten ([(tX5 p0k), (tX1 p1k), (tX9 p1_2k)] : List (List (ClassId × FieldType)))) s := vK_perm (vK_fb hK) (bP (List.Perm.refl _))
    obtain rfl : r54 = (o_53.1) := hw
    rcases br9 hrun with ⟨hc55, hrun⟩ | ⟨hc55, hrun⟩
    · refine lv_if_eq (tgt := 26) hx hb dX5_wantInBlock_19 (by decide) (fun _ => ?_) (fun c => absurd hc55 c)
      exact J26 (o_53.2) _ _ _ hrun hP hD hK hS (lv_sub hl [0, 1, 2] rfl)
    · refine lv_if_eq (tgt := 26) hx hb dX5_wantInBlock_19 (by decide) (fun c => absurd c hc55) (fun _ => ?_)
      refine lv_iconst (v := 1) hx hb dX5_wantInBlock_22 (by decide) ?_
      refine lv_goto (tgt := 27) hx hb dX5_wantInBlock_23 (by decide) ?_
      exact J27 1 (o_53.2) _ _ _ hrun hP hD hK hS (lv_sub hl [0, 1, 2] rfl)
def fX5_keepUndroppable_J49 (kk17 : Int32 → ST → Option ST) (p1_2n : Nat → Nat) (p1_2w : ST) (v3_17 : Int32) (p0w_49 : ST) : Option ST := (if ixb v3_17 (p1_2n 6) = true then (kk17 (p1_2w 6 (nn v3_17)) p0w_49) else none)
def fX5_keepUndroppable_L17 (p1_2n : Nat → Nat) (p1_2w : ST) : Nat → Int32 → ST → Option ST
  | 0 => fun _ _ => none
  | n_17 + 1 => fun v3_17 p0w_17 => (if v3_17 < 0 then some p0w_17 else (if ixb v3_17 (p1_2n 2) = true then (if (p1_2w 2 (nn v3_17)) = 20 then (if ixb v3_17 (p1_2n 3) = true then ((fX5_want p0w_17 (p1_2w 3 (nn v3_17))).bind fun (o_8 : Int32 × ST) => (fX5_keepUndroppable_J49 (fX5_keepUndroppable_L17 p1_2n p1_2w n_17) p1_2n p1_2w v3_17 (o_8.2))) else none) else (fX5_keepUndroppable_J49 (fX5_keepUndroppable_L17 p1_2n p1_2w n_17) p1_2n p1_2w v3_17 p0w_17)) else none))
def fX5_keepUndroppable_L2 (p1w : ST) (p1_2n : Nat → Nat) (p1_2w : ST) : Nat → Int32 → ST → Option ST
  | 0 => fun _ _ => none
  | n_2 + 1 => fun v2_2 p0w_2 => (if (p1w 0 0) ≤ v2_2 then some p0w_2 else (if ixb v2_2 60 = true then ((fX5_keepUndroppable_L17 p1_2n p1_2w NF (p1w 4 (nn v2_2)) p0w_2).bind fun (o17 : ST) => ((fX5_keepUndroppable_L2 p1w p1_2n p1_2w n_2) (v2_2 + 1) o17)) else none))
def fX5_keepUndroppable (p0w : ST) (p1w : ST) (p1_2n : Nat → Nat) (p1_2w : ST) : Option ST := ((fX5_keepUndroppable_L2 p1w p1_2n p1_2w NF 0 p0w).bind fun (o2 : ST) => some o2)
set_option maxHeartbeats 16000000 in
set_option maxRecDepth 100000 in
theorem kX5_keepUndroppable {zs : ZS} (l : Launch) (dC : Nat → ClassId) (dI : Nat → Nat → Nat) (p0a : Nat → Nat) (p0k : Nat → ClassId) (p0w : ST) (p0l : SL) (p1a : Nat → Nat) (p1k : Nat → ClassId) (p1n : Nat → Nat) (p1w : ST) (p1l : SL) (p1_2a : Nat → Nat) (p1_2k : Nat → ClassId) (p1_2n : Nat → Nat) (p1_2w : ST) (sz : Nat) (o : ST) (hrun : fX5_keepUndroppable p0w p1w p1_2n p1_2w = some o) : Met l yX5_keepUndroppable (wz yX5_keepUndroppable cX5_keepUndroppable 4 (Option.none : Option Jvm.ClassFile.FieldType)) ({ frames := 1, cells := 0, slots := 0, locals := 22 } : Room) (va_Pc [.ref (p0a 0), .ref (p1a 0)] (PRE zs dC dI (List.flatten ([(oX5 (p0a 0) p0a p0k p0w p0l), (oX1 (p1a 0) p1a p1k p1n p1w p1l), (oX9 (p1a 3) p1_2a p1_2k p1_2n p1_2w)] : List va_W)) (List.flatten ([(tX5 p0k), (tX1 p1k), (tX9 p1_2k)] : List (List (ClassId × FieldType)))) sz)) (va_Qv (fun (_ : Unit) => True) (fun _ t => POST dC dI (List.flatten ([(oX5 (p0a 0) p0a p0k o p0l), (oX1 (p1a 0) p1a p1k p1n p1w p1l), (oX9 (p1a 3) p1_2a p1_2k p1_2n p1_2w)] : List va_W)) (List.flatten ([(tX5 p0k), (tX1 p1k), (tX9 p1_2k)] : List (List (ClassId × FieldType)))) (va_A (List.flatten ([(oX5 (p0a 0) p0a p0k p0w p0l), (oX1 (p1a 0) p1a p1k p1n p1w p1l), (oX9 (p1a 3) p1_2a p1_2k p1_2n p1_2w)] : List va_W)) sz) t) (va_A (List.flatten ([(oX5 (p0a 0) p0a p0k p0w p0l), (oX1 (p1a 0) p1a p1k p1n p1w p1l), (oX9 (p1a 3) p1_2a p1_2k p1_2n p1_2w)] : List va_W)) sz)) 0 0 (va_A (List.flatten ([(oX5 (p0a 0) p0a p0k p0w p0l), (oX1 (p1a 0) p1a p1k p1n p1w p1l), (oX9 (p1a 3) p1_2a p1_2k p1_2n p1_2w)] : List va_W)) sz) := by
  refine Met.ofW (cc := cX5_keepUndroppable) (maxL := 4) (ret := (Option.none : Option Jvm.ClassFile.FieldType)) (by decide) rfl ?_
  intro p e s m args below meth c s₁ B hml hv
  obtain ⟨rfl, hsz, hP, hK, hD0, hE⟩ := hv
  have hx := B.exec
  have hb := B.bytes
  have hr := B.returns
  have hts0 := atoms_spec (ws := wz yX5_keepUndroppable cX5_keepUndroppable 4 (Option.none : Option Jvm.ClassFile.FieldType)) B.pre
  have hts : ∀ w ∈ gw, w.before _ s = true := fun w h => hts0 w (List.mem_cons_of_mem _ h)
  have hown : s.vm.findClass RX5 = some m.cls := findClass_of_methodNamed B.named
  have hlocks := B.notSynchronized
  subst hsz
  have hD := hD0.self (sz := s.heap.size)
  refine gQ9 ?_
  intro Q hQ
  generalize hAe : va_A (List.flatten ([(oX5 (p0a 0) p0a p0k p0w p0l), (oX1 (p1a 0) p1a p1k p1n p1w p1l), (oX9 (p1a 3) p1_2a p1_2k p1_2n p1_2w)] : List va_W)) s.heap.size = A at hD hE hQ
  have hA : ∀ q : Nat, s.heap.size ≤ q → A q := fun q h => by rw [← hAe]; exact Or.inr h
  have hS : va_S A s.heap s.heap [] := va_S.rf
  have hP : va_P (dC, dI) cls (List.flatten ([(oX5 (p0a 0) p0a p0k p0w p0l), (oX1 (p1a 0) p1a p1k p1n p1w p1l), (oX9 (p1a 3) p1_2a p1_2k p1_2n p1_2w)] : List va_W)) s.heap := hP
  have hl := lv_entry ([.ref (p0a 0), .ref (p1a 0)]) (n := 4) (Nat.le_of_ble_eq_true rfl)
  rw [lg_entry_eq]
  generalize (lg_sl ([.ref (p0a 0), .ref (p1a 0)]) ++ List.replicate (4 - (lg_sl ([.ref (p0a 0), .ref (p1a 0)])).length) Slot.unset).toArray = ls at hl ⊢
  have hl : lv_has ls 4 [(0, .ref (p0a 0)), (1, .ref (p1a 0))] := hl
  obtain ⟨H, hHe⟩ : ∃ H, H = s.heap := ⟨_, rfl⟩
  obtain ⟨locs, hle⟩ : ∃ locs : List Loc, locs = [] := ⟨_, rfl⟩
  rw [← hHe] at hP
  have hS : va_S A s.heap H locs := by rw [hHe, hle]; exact hS
  show W p l e ({ frames := 1, cells := 0, slots := 0, locals := 22 } : Room) s m ([.ref (p0a 0), .ref (p1a 0)] : List Value).toArray below meth c s.heap [] 0 0 Q (F0 m 0 ls [])
  rw [← hle]
  refine wH9 hHe ?_
  unfold fX5_keepUndroppable at hrun
  refine lv_iconst (v := 0) hx hb dX5_keepUndroppable_0 (by decide) ?_
  refine lv_istore_n (lv' := [(2, .int 0), (0, .ref (p0a 0)), (1, .ref (p1a 0))]) hx hb dX5_keepUndroppable_1 rfl hl (by decide) rfl (fun ls hl => ?_)
  have L2 : ∀ (n_2 : Nat) (v2_2 : Int32) (p0w_2 : ST) (o2 : ST) (H : Heap) (locs : List Loc) (ls : Array Slot), (fX5_keepUndroppable_L2 p1w p1_2n p1_2w n_2) v2_2 p0w_2 = some o2 → va_P (dC, dI) cls (List.flatten ([(oX5 (p0a 0) p0a p0k p0w_2 p0l), (oX1 (p1a 0) p1a p1k p1n p1w p1l), (oX9 (p1a 3) p1_2a p1_2k p1_2n p1_2w)] : List va_W)) H → va_D A (List.flatten ([(oX5 (p0a 0) p0a p0k p0w_2 p0l), (oX1 (p1a 0) p1a p1k p1n p1w p1l), (oX9 (p1a 3) p1_2a p1_2k p1_2n p1_2w)] : List va_W)) → va_K (dC, dI) cls (List.flatten ([(tX5 p0k), (tX1 p1k), (tX9 p1_2k)] : List (List (ClassId × FieldType)))) s → va_S A s.heap H locs → lv_has ls 4 [(0, .ref (p0a 0)), (1, .ref (p1a 0)), (2, .int v2_2)] → (∀ (H : Heap) (locs : List Loc) (ls : Array Slot), va_P (dC, dI) cls (List.flatten ([(oX5 (p0a 0) p0a p0k o2 p0l), (oX1 (p1a 0) p1a p1k p1n p1w p1l), (oX9 (p1a 3) p1_2a p1_2k p1_2n p1_2w)] : List va_W)) H → va_D A (List.flatten ([(oX5 (p0a 0) p0a p0k o2 p0l), (oX1 (p1a 0) p1a p1k p1n p1w p1l), (oX9 (p1a 3) p1_2a p1_2k p1_2n p1_2w)] : List va_W)) → va_K (dC, dI) cls (List.flatten ([(tX5 p0k), (tX1 p1k), (tX9 p1_2k)] : List (List (ClassId × FieldType)))) s → va_S A s.heap H locs → lv_has ls 4 [] → W p l e ({ frames := 1, cells := 0, slots := 0, locals := 22 } : Room) s m ([.ref (p0a 0), .ref (p1a 0)] : List Value).toArray below meth c H locs 0 0 Q (F0 m 68 ls [])) → W p l e ({ frames := 1, cells := 0, slots := 0, locals := 22 } : Room) s m ([.ref (p0a 0), .ref (p1a 0)] : List Value).toArray below meth c H locs 0 0 Q (F0 m 2 ls []) := by
    intro n_2
    induction n_2 with
    | zero => intro v2_2 p0w_2 o2 H locs ls hrun; exact (no9 rfl hrun).elim
    | succ n_2 IH2 =>
      intro v2_2 p0w_2 o2 H locs ls hrun hP hD hK hS hl hk2
      unfold fX5_keepUndroppable_L2 at hrun
      refine lv_iload_n hx hb dX5_keepUndroppable_2 rfl (lv_at hl 2 rfl) ?_
      refine lv_aload_n hx hb dX5_keepUndroppable_3 rfl (lv_at hl 1 rfl) ?_
      refine va_get (D := (dC, dI)) (ci := 4) (v := .int (p1w 0 0)) (C := RX1) (T := TX1) (N := 21) hx hb hts i_X1 hown hK hP 10 rfl rfl 0 (by decide) (hts _ qw430) (fun _ h9 => h9) rfl dX5_keepUndroppable_4 ?_
      rcases br9 hrun with ⟨hc1, hrun⟩ | ⟨hc1, hrun⟩
      · refine lv_icmp_ge (tgt := 68) hx hb dX5_keepUndroppable_7 (by decide) (fun _ => ?_) (fun c => absurd hc1 c)
        obtain rfl := (Option.some.inj hrun)
        exact hk2 _ _ _ hP hD hK hS (lv_sub hl [] rfl)
      · refine lv_icmp_ge (tgt := 68) hx hb dX5_keepUndroppable_7 (by decide) (fun c => absurd c hc1) (fun _ => ?_)
        refine lv_aload_n hx hb dX5_keepUndroppable_10 rfl (lv_at hl 1 rfl) ?_
        refine va_get (D := (dC, dI)) (ci := 4) (v := .ref (p1a 4)) (C := RX1) (T := TX1) (N := 21) hx hb hts i_X1 hown hK hP 10 rfl rfl 3 (by decide) (hts _ qw434) (fun _ h9 => h9) rfl dX5_keepUndroppable_11 ?_
        refine lv_iload_n hx hb dX5_keepUndroppable_14 rfl (lv_at hl 2 rfl) ?_
        obtain ⟨hq2, hrun⟩ := chk9 hrun
        refine va_iald hx hb hK hP 11 9 rfl rfl (ixb_in hq2) dX5_keepUndroppable_15 ?_
        refine lv_istore_n (lv' := [(3, .int (p1w 4 (nn v2_2))), (0, .ref (p0a 0)), (1, .ref (p1a 0)), (2, .int v2_2)]) hx hb dX5_keepUndroppable_16 rfl hl (by decide) rfl (fun ls hl => ?_)
        have L17 : ∀ (n_17 : Nat) (v3_17 : Int32) (p0w_17 : ST) (o17 : ST) (H : Heap) (locs : List Loc) (ls : Array Slot), (fX5_keepUndroppable_L17 p1_2n p1_2w n_17) v3_17 p0w_17 = some o17 → va_P (dC, dI) cls (List.flatten ([(oX5 (p0a 0) p0a p0k p0w_17 p0l), (oX1 (p1a 0) p1a p1k p1n p1w p1l), (oX9 (p1a 3) p1_2a p1_2k p1_2n p1_2w)] : List va_W)) H → va_D A (List.flatten ([(oX5 (p0a 0) p0a p0k p0w_17 p0l), (oX1 (p1a 0) p1a p1k p1n p1w p1l), (oX9 (p1a 3) p1_2a p1_2k p1_2n p1_2w)] : List va_W)) → va_K (dC, dI) cls (List.flatten ([(tX5 p0k), (tX1 p1k), (tX9 p1_2k)] : List (List (ClassId × FieldType)))) s → va_S A s.heap H locs → lv_has ls 4 [(0, .ref (p0a 0)), (1, .ref (p1a 0)), (2, .int v2_2), (3, .int v3_17)] → (∀ (H : Heap) (locs : List Loc) (ls : Array Slot), va_P (dC, dI) cls (List.flatten ([(oX5 (p0a 0) p0a p0k o17 p0l), (oX1 (p1a 0) p1a p1k p1n p1w p1l), (oX9 (p1a 3) p1_2a p1_2k p1_2n p1_2w)] : List va_W)) H → va_D A (List.flatten ([(oX5 (p0a 0) p0a p0k o17 p0l), (oX1 (p1a 0) p1a p1k p1n p1w p1l), (oX9 (p1a 3) p1_2a p1_2k p1_2n p1_2w)] : List va_W)) → va_K (dC, dI) cls (List.flatten ([(tX5 p0k), (tX1 p1k), (tX9 p1_2k)] : List (List (ClassId × FieldType)))) s → va_S A s.heap H locs → lv_has ls 4 [(0, .ref (p0a 0)), (1, .ref (p1a 0)), (2, .int v2_2)] → W p l e ({ frames := 1, cells := 0, slots := 0, locals := 22 } : Room) s m ([.ref (p0a 0), .ref (p1a 0)] : List Value).toArray below meth c H locs 0 0 Q (F0 m 62 ls [])) → W p l e ({ frames := 1, cells := 0, slots := 0, locals := 22 } : Room) s m ([.ref (p0a 0), .ref (p1a 0)] : List Value).toArray below meth c H locs 0 0 Q (F0 m 17 ls []) := by
          intro n_17
          induction n_17 with
          | zero => intro v3_17 p0w_17 o17 H locs ls hrun; exact (no9 rfl hrun).elim
          | succ n_17 IH17 =>
            intro v3_17 p0w_17 o17 H locs ls hrun hP hD hK hS hl hk17
            unfold fX5_keepUndroppable_L17 at hrun
            refine lv_iload_n hx hb dX5_keepUndroppable_17 rfl (lv_at hl 3 rfl) ?_
            rcases br9 hrun with ⟨hc3, hrun⟩ | ⟨hc3, hrun⟩
            · refine lv_if_lt (tgt := 62) hx hb dX5_keepUndroppable_18 (by decide) (fun _ => ?_) (fun c => absurd hc3 c)
              obtain rfl := (Option.some.inj hrun)
              exact hk17 _ _ _ hP hD hK hS (lv_sub hl [0, 1, 2] rfl)
            · refine lv_if_lt (tgt := 62) hx hb dX5_keepUndroppable_18 (by decide) (fun c => absurd c hc3) (fun _ => ?_)
              refine lv_aload_n hx hb dX5_keepUndroppable_21 rfl (lv_at hl 1 rfl) ?_
              refine va_get (D := (dC, dI)) (ci := 4) (v := .ref (p1a 3)) (C := RX1) (T := TX1) (N := 21) hx hb hts i_X1 hown hK hP 10 rfl rfl 2 (by decide) (hts _ qw435) (fun _ h9 => h9) rfl dX5_keepUndroppable_22 ?_
              refine va_get (D := (dC, dI)) (ci := 3) (v := .ref (p1_2a 2)) (C := RX9) (T := TX9) (N := 6) hx hb hts i_X9 hown hK hP 28 rfl rfl 1 (by decide) (hts _ qw420) (fun _ h9 => h9) rfl dX5_keepUndroppable_25 ?_
              refine lv_iload_n hx hb dX5_keepUndroppable_28 rfl (lv_at hl 3 rfl) ?_
              obtain ⟨hq4, hrun⟩ := chk9 hrun
              refine va_iald hx hb hK hP 29 26 rfl rfl (ixb_in hq4) dX5_keepUndroppable_29 ?_
              refine lv_bipush (v := 20) hx hb dX5_keepUndroppable_30 (by decide) ?_
              have J49 : ∀ (p0w_49 : ST) (H : Heap) (locs : List Loc) (ls : Array Slot), (fX5_keepUndroppable_J49 (fX5_keepUndroppable_L17 p1_2n p1_2w n_17) p1_2n p1_2w v3_17 p0w_49) = some o17 → va_P (dC, dI) cls (List.flatten ([(oX5 (p0a 0) p0a p0k p0w_49 p0l), (oX1 (p1a 0) p1a p1k p1n p1w p1l), (oX9 (p1a 3) p1_2a p1_2k p1_2n p1_2w)] : List va_W)) H → va_D A (List.flatten ([(oX5 (p0a 0) p0a p0k p0w_49 p0l), (oX1 (p1a 0) p1a p1k p1n p1w p1l), (oX9 (p1a 3) p1_2a p1_2k p1_2n p1_2w)] : List va_W)) → va_K (dC, dI) cls (List.flatten ([(tX5 p0k), (tX1 p1k), (tX9 p1_2k)] : List (List (ClassId × FieldType)))) s → va_S A s.heap H locs → lv_has ls 4 [(0, .ref (p0a 0)), (1, .ref (p1a 0)), (2, .int v2_2), (3, .int v3_17)] → W p l e ({ frames := 1, cells := 0, slots := 0, locals := 22 } : Room) s m ([.ref (p0a 0), .ref (p1a 0)] : List Value).toArray below meth c H locs 0 0 Q (F0 m 49 ls []) := by
                intro p0w_49 H locs ls hrun hP hD hK hS hl 
                unfold fX5_keepUndroppable_J49 at hrun
                refine lv_aload_n hx hb dX5_keepUndroppable_49 rfl (lv_at hl 1 rfl) ?_
                refine va_get (D := (dC, dI)) (ci := 4) (v := .ref (p1a 3)) (C := RX1) (T := TX1) (N := 21) hx hb hts i_X1 hown hK hP 10 rfl rfl 2 (by decide) (hts _ qw435) (fun _ h9 => h9) rfl dX5_keepUndroppable_50 ?_
                refine va_get (D := (dC, dI)) (ci := 3) (v := .ref (p1_2a 6)) (C := RX9) (T := TX9) (N := 6) hx hb hts i_X9 hown hK hP 28 rfl rfl 5 (by decide) (hts _ qw437) (fun _ h9 => h9) rfl dX5_keepUndroppable_53 ?_
                refine lv_iload_n hx hb dX5_keepUndroppable_56 rfl (lv_at hl 3 rfl) ?_
                obtain ⟨hq5, hrun⟩ := chk9 hrun
                refine va_iald hx hb hK hP 33 30 rfl rfl (ixb_in hq5) dX5_keepUndroppable_57 ?_
                refine lv_istore_n (lv' := [(3, .int (p1_2w 6 (nn v3_17))), (0, .ref (p0a 0)), (1, .ref (p1a 0)), (2, .int v2_2)]) hx hb dX5_keepUndroppable_58 rfl hl (by decide) rfl (fun ls hl => ?_)
                refine lv_goto (tgt := 17) hx hb dX5_keepUndroppable_59 (by decide) ?_
                exact IH17 (p1_2w 6 (nn v3_17)) p0w_49 o17 _ _ _ hrun hP hD hK hS (lv_sub hl [1, 2, 3, 0] rfl) hk17
              rcases br9 hrun with ⟨hc6, hrun⟩ | ⟨hc6, hrun⟩
              · refine lv_icmp_ne (tgt := 49) hx hb dX5_keepUndroppable_32 (by decide) (fun c => absurd hc6 c) (fun _ => ?_)
                refine lv_aload_n hx hb dX5_keepUndroppable_35 rfl (lv_at hl 0 rfl) ?_
                refine lv_aload_n hx hb dX5_keepUndroppable_36 rfl (lv_at hl 1 rfl) ?_
                refine va_get (D := (dC, dI)) (ci := 4) (v := .ref (p1a 3)) (C := RX1) (T := TX1) (N := 21) hx hb hts i_X1 hown hK hP 10 rfl rfl 2 (by decide) (hts _ qw435) (fun _ h9 => h9) rfl dX5_keepUndroppable_37 ?_
                refine va_get (D := (dC, dI)) (ci := 3) (v := .ref (p1_2a 3)) (C := RX9) (T := TX9) (N := 6) hx hb hts i_X9 hown hK hP 28 rfl rfl 2 (by decide) (hts _ qw436) (fun _ h9 => h9) rfl dX5_keepUndroppable_40 ?_
                refine lv_iload_n hx hb dX5_keepUndroppable_43 rfl (lv_at hl 3 rfl) ?_
                obtain ⟨hq7, hrun⟩ := chk9 hrun
                refine va_iald hx hb hK hP 30 27 rfl rfl (ixb_in hq7) dX5_keepUndroppable_44 ?_
                obtain ⟨o_8, hc_8, hrun⟩ := bnd9 hrun
                have hPx : va_P (dC, dI) cls ((List.flatten ([(oX5 (p0a 0) p0a p0k p0w_17 p0l)] : List va_W)) ++ (List.flatten ([(oX1 (p1a 0) p1a p1k p1n p1w p1l), (oX9 (p1a 3) p1_2a p1_2k p1_2n p1_2w)] : List va_W))) H := vP_fa (vP_perm hP (bP (List.Perm.refl _)))
                have hDx : va_D A ((List.flatten ([(oX5 (p0a 0) p0a p0k p0w_17 p0l)] : List va_W)) ++ (List.flatten ([(oX1 (p1a 0) p1a p1k p1n p1w p1l), (oX9 (p1a 3) p1_2a p1_2k p1_2n p1_2w)] : List va_W))) := vD_fa (vD_perm hD (bP (List.Perm.refl _)))
                have hKx : va_K (dC, dI) cls ((List.flatten ([(tX5 p0k)] : List (List (ClassId × FieldType)))) ++ (List.flatten ([(tX1 p1k), (tX9 p1_2k)] : List (List (ClassId × FieldType))))) s := vK_fa (vK_perm hK (bP (List.Perm.refl _)))
                have hPc := vP_l hPx
                have hDc := vD_l hDx
                have hKc := vK_l hKx
                have hFc := vfree hDx hS hA
                refine va_calli (va_runV (As := [.int (p1_2w 3 (nn v3_17))]) (rest := []) ⟨hx, hb, hml, hown, hts⟩ (kX5_want l dC dI (p0a := p0a) (p0k := p0k) (p0w := p0w_17) (p0l := p0l) (p1 := (p1_2w 3 (nn v3_17))) (sz := _) (o := o_8) (hrun := hc_8)) (cwV 1 hts (gi_V qw449 qw450 qw451 qw442 (gi_z qw448)) rfl rfl rfl (by decide +kernel) ⟨Nat.le_of_ble_eq_true rfl, Nat.le_of_ble_eq_true rfl⟩) ⟨PRE.blind, va_recv hKc hPc (ci := 7) (q0 := 0) rfl rfl, PRE.of hE hS hFc hPc hKc hDc⟩ rfl rfl hl.1 rfl (lv_room (Nat.le_of_ble_eq_true rfl)) dX5_keepUndroppable_45 ⟨(Nat.le_of_ble_eq_true rfl), (Nat.le_of_ble_eq_true rfl)⟩) hS (fun q _ h => hFc q h) hFc (fun r9 u t H locs ht hvm hw hB hz1 hk1 hS => ?_)
                obtain ⟨b1, b2, b3⟩ := hB
                rw [ht] at b1
                obtain ⟨hP, hD, hK⟩ := JOINC (wc := (List.flatten ([(oX5 (p0a 0) p0a p0k p0w_17 p0l)] : List va_W))) (wr := (List.flatten ([(oX1 (p1a 0) p1a p1k p1n p1w p1l), (oX9 (p1a 3) p1_2a p1_2k p1_2n p1_2w)] : List va_W))) (w1 := (List.flatten ([(oX5 (p0a 0) p0a p0k (o_8.2) p0l)] : List va_W))) (t1 := (List.flatten ([(tX5 p0k)] : List (List (ClassId × FieldType))))) hPx hDx hKx hk1 hFc b1 (va_K.moved hvm.symm b2) b3
                have hP : va_P (dC, dI) cls (List.flatten ([(oX5 (p0a 0) p0a p0k (o_8.2) p0l), (oX1 (p1a 0) p1a p1k p1n p1w p1l), (oX9 (p1a 3) p1_2a p1_2k p1_2n p1_2w)] : List va_W)) H := vP_perm (vP_fb hP) (bP (List.Perm.refl _))
                have hD : va_D A (List.flatten ([(oX5 (p0a 0) p0a p0k (o_8.2) p0l), (oX1 (p1a 0) p1a p1k p1n p1w p1l), (oX9 (p1a 3) p1_2a p1_2k p1_2n p1_2w)] : List va_W)) := vD_perm (vD_fb hD) (bP (List.Perm.refl _))
                have hK : va_K (dC, dI) cls (List.flatten ([(tX5 p0k), (tX1 p1k), (tX9 p1_2k)] : List (List (ClassId × FieldType)))) s := vK_perm (vK_fb hK) (bP (List.Perm.refl _))
                obtain rfl : r9 = (o_8.1) := hw
                refine lv_pop hx hb dX5_keepUndroppable_48 rfl ?_
                exact J49 (o_8.2) _ _ _ hrun hP hD hK hS (lv_sub hl [0, 1, 2, 3] rfl)
              · refine lv_icmp_ne (tgt := 49) hx hb dX5_keepUndroppable_32 (by decide) (fun _ => ?_) (fun c => absurd c hc6)
                exact J49 p0w_17 _ _ _ hrun hP hD hK hS (lv_sub hl [0, 1, 2, 3] rfl)
        obtain ⟨o17, hc17, hrun⟩ := bnd9 hrun
        refine L17 NF (p1w 4 (nn v2_2)) p0w_2 o17 _ _ _ hc17 hP hD hK hS (lv_sub hl [1, 2, 3, 0] rfl) ?_
        intro H locs ls hP hD hK hS hl
        have hl := hl
        refine lv_iinc (v := (v2_2 + 1)) (lv' := [(2, .int (v2_2 + 1)), (0, .ref (p0a 0)), (1, .ref (p1a 0))]) hx hb dX5_keepUndroppable_62 hl (k := 2) rfl rfl (by decide) rfl (fun ls hl => ?_)
        refine lv_goto (tgt := 2) hx hb dX5_keepUndroppable_65 (by decide) ?_
        exact IH2 (v2_2 + 1) o17 o2 _ _ _ hrun hP hD hK hS (lv_sub hl [1, 2, 0] rfl) hk2
  obtain ⟨o2, hc2, hrun⟩ := bnd9 hrun
  refine L2 NF 0 p0w o2 _ _ _ hc2 hP hD hK hS (lv_sub hl [1, 2, 0] rfl) ?_
  intro H locs ls hP hD hK hS hl
  have hl := hl
  have ho9 : o2 = o := Option.some.inj hrun
  have hP9 : va_P (dC, dI) cls (List.flatten ([(oX5 (p0a 0) p0a p0k o p0l), (oX1 (p1a 0) p1a p1k p1n p1w p1l), (oX9 (p1a 3) p1_2a p1_2k p1_2n p1_2w)] : List va_W)) H := by first | exact hP | (rw [← ho9]; exact hP)
  have hD9 : va_D A (List.flatten ([(oX5 (p0a 0) p0a p0k o p0l), (oX1 (p1a 0) p1a p1k p1n p1w p1l), (oX9 (p1a 3) p1_2a p1_2k p1_2n p1_2w)] : List va_W)) := by first | exact hD | (rw [← ho9]; exact hD)
  subst hQ
  exact W.vret hx hb hr (fun t ht hW => ⟨⟨(), rfl, trivial, ⟨by rw [ht]; exact hP9, va_K.moved hW.alike hK, hD9⟩⟩, hS.F ht⟩) hS.2.2 dX5_keepUndroppable_68
def fX5_dropUnwanted_J54 (kk37 : Int32 → Int32 → ST → Option (Int32 × ST)) (v4_37 : Int32) (o_6 : Int32 × ST) (v2_54 : Int32) : Option (Int32 × ST) := (kk37 v2_54 (v4_37 + (-1)) (o_6.2))
def fX5_dropUnwanted_L37 (p1n : Nat → Nat) (p1w : ST) (p1_2n : Nat → Nat) (p1_2w : ST) : Nat → Int32 → Int32 → ST → Option (Int32 × ST)
  | 0 => fun _ _ _ => none
  | n_37 + 1 => fun v2_37 v4_37 p0w_37 => (if v4_37 < 0 then some (v2_37, p0w_37) else ((fX5_wantInBlock p0w_37 p1n p1w v4_37 p1_2n p1_2w).bind fun (o_6 : Int32 × ST) => (if (o_6.1) = 0 then (fX5_dropUnwanted_J54 (fX5_dropUnwanted_L37 p1n p1w p1_2n p1_2w n_37) v4_37 o_6 v2_37) else (fX5_dropUnwanted_J54 (fX5_dropUnwanted_L37 p1n p1w p1_2n p1_2w n_37) v4_37 o_6 1))))
def fX5_dropUnwanted_L17 (p1n : Nat → Nat) (p1w : ST) (p1_2n : Nat → Nat) (p1_2w : ST) : Nat → Int32 → Int32 → ST → Option ST
  | 0 => fun _ _ _ => none
  | n_17 + 1 => fun v2_17 v3_17 p0w_17 => (if v2_17 = 0 then some p0w_17 else (if 1000000 ≤ v3_17 then some p0w_17 else ((fX5_dropUnwanted_L37 p1n p1w p1_2n p1_2w NF 0 ((p1w 0 0) - 1) p0w_17).bind fun (o37 : Int32 × ST) => ((fX5_dropUnwanted_L17 p1n p1w p1_2n p1_2w n_17) (o37.1) (v3_17 + 1) (o37.2)))))
def fX5_dropUnwanted (p0w : ST) (p1n : Nat → Nat) (p1w : ST) (p1_2n : Nat → Nat) (p1_2w : ST) : Option (Int32 × ST × ST × ST) := ((fX5_findGivers p0w p1n p1w p1_2n p1_2w).bind fun (o_1 : ST) => ((fJ7_fill_53178 250 (o_1 7) 1).bind fun (o_2 : RI) => ((fX5_dropUnwanted_L17 p1n p1w p1_2n p1_2w NF 1 0 (srw o_1 7 o_2)).bind fun (o17 : ST) => ((fX5_keepUndroppable o17 p1w p1_2n p1_2w).bind fun (o_9 : ST) => ((fX1_countValues p1n p1w p1_2n p1_2w).bind fun (o_10 : Int32) => ((fX1_leaveOut p1n p1w 250 (o_9 7) p1_2n p1_2w).bind fun (o_12 : ST × ST) => ((fX1_countValues p1n (o_12.1) p1_2n (o_12.2)).bind fun (o_13 : Int32) => some ((o_10 - o_13), o_9, (o_12.1), (o_12.2)))))))))
set_option maxHeartbeats 16000000 in
set_option maxRecDepth 100000 in
theorem kX5_dropUnwanted {zs : ZS} (l : Launch) (dC : Nat → ClassId) (dI : Nat → Nat → Nat) (p0a : Nat → Nat) (p0k : Nat → ClassId) (p0w : ST) (p0l : SL) (p1a : Nat → Nat) (p1k : Nat → ClassId) (p1n : Nat → Nat) (p1w : ST) (p1l : SL) (p1_2a : Nat → Nat) (p1_2k : Nat → ClassId) (p1_2n : Nat → Nat) (p1_2w : ST) (sz : Nat) (o : Int32 × ST × ST × ST) (hrun : fX5_dropUnwanted p0w p1n p1w p1_2n p1_2w = some o) : Met l yX5_dropUnwanted (wz yX5_dropUnwanted cX5_dropUnwanted 5 (Option.some Jvm.ClassFile.FieldType.int)) ({ frames := 4, cells := 0, slots := 0, locals := 89 } : Room) (va_Pc [.ref (p0a 0), .ref (p1a 0)] (PRE zs dC dI (List.flatten ([(oX5 (p0a 0) p0a p0k p0w p0l), (oX1 (p1a 0) p1a p1k p1n p1w p1l), (oX9 (p1a 3) p1_2a p1_2k p1_2n p1_2w)] : List va_W)) (List.flatten ([(tX5 p0k), (tX1 p1k), (tX9 p1_2k)] : List (List (ClassId × FieldType)))) sz)) (va_Qi (fun (r : Int32) (_ : Unit) => r = (o.1)) (fun _ t => POST dC dI (List.flatten ([(oX5 (p0a 0) p0a p0k (o.2.1) p0l), (oX1 (p1a 0) p1a p1k p1n (o.2.2.1) p1l), (oX9 (p1a 3) p1_2a p1_2k p1_2n (o.2.2.2))] : List va_W)) (List.flatten ([(tX5 p0k), (tX1 p1k), (tX9 p1_2k)] : List (List (ClassId × FieldType)))) (va_A (List.flatten ([(oX5 (p0a 0) p0a p0k p0w p0l), (oX1 (p1a 0) p1a p1k p1n p1w p1l), (oX9 (p1a 3) p1_2a p1_2k p1_2n p1_2w)] : List va_W)) sz) t) (va_A (List.flatten ([(oX5 (p0a 0) p0a p0k p0w p0l), (oX1 (p1a 0) p1a p1k p1n p1w p1l), (oX9 (p1a 3) p1_2a p1_2k p1_2n p1_2w)] : List va_W)) sz)) 0 0 (va_A (List.flatten ([(oX5 (p0a 0) p0a p0k p0w p0l), (oX1 (p1a 0) p1a p1k p1n p1w p1l), (oX9 (p1a 3) p1_2a p1_2k p1_2n p1_2w)] : List va_W)) sz) := by
  refine Met.ofW (cc := cX5_dropUnwanted) (maxL := 5) (ret := (Option.some Jvm.ClassFile.FieldType.int)) (by decide) rfl ?_
  intro p e s m args below meth c s₁ B hml hv
  obtain ⟨rfl, hsz, hP, hK, hD0, hE⟩ := hv
  have hx := B.exec
  have hb := B.bytes
  have hr := B.returns
  have hts0 := atoms_spec (ws := wz yX5_dropUnwanted cX5_dropUnwanted 5 (Option.some Jvm.ClassFile.FieldType.int)) B.pre
  have hts : ∀ w ∈ gw, w.before _ s = true := fun w h => hts0 w (List.mem_cons_of_mem _ h)
  have hown : s.vm.findClass RX5 = some m.cls := findClass_of_methodNamed B.named
  have hlocks := B.notSynchronized
  subst hsz
  have hD := hD0.self (sz := s.heap.size)
  refine gQ9 ?_
  intro Q hQ
  generalize hAe : va_A (List.flatten ([(oX5 (p0a 0) p0a p0k p0w p0l), (oX1 (p1a 0) p1a p1k p1n p1w p1l), (oX9 (p1a 3) p1_2a p1_2k p1_2n p1_2w)] : List va_W)) s.heap.size = A at hD hE hQ
  have hA : ∀ q : Nat, s.heap.size ≤ q → A q := fun q h => by rw [← hAe]; exact Or.inr h
  have hS : va_S A s.heap s.heap [] := va_S.rf
  have hP : va_P (dC, dI) cls (List.flatten ([(oX5 (p0a 0) p0a p0k p0w p0l), (oX1 (p1a 0) p1a p1k p1n p1w p1l), (oX9 (p1a 3) p1_2a p1_2k p1_2n p1_2w)] : List va_W)) s.heap := hP
  have hl := lv_entry ([.ref (p0a 0), .ref (p1a 0)]) (n := 5) (Nat.le_of_ble_eq_true rfl)
  rw [lg_entry_eq]
  generalize (lg_sl ([.ref (p0a 0), .ref (p1a 0)]) ++ List.replicate (5 - (lg_sl ([.ref (p0a 0), .ref (p1a 0)])).length) Slot.unset).toArray = ls at hl ⊢
  have hl : lv_has ls 5 [(0, .ref (p0a 0)), (1, .ref (p1a 0))] := hl
  obtain ⟨H, hHe⟩ : ∃ H, H = s.heap := ⟨_, rfl⟩
  obtain ⟨locs, hle⟩ : ∃ locs : List Loc, locs = [] := ⟨_, rfl⟩
  rw [← hHe] at hP
  have hS : va_S A s.heap H locs := by rw [hHe, hle]; exact hS
  show W p l e ({ frames := 4, cells := 0, slots := 0, locals := 89 } : Room) s m ([.ref (p0a 0), .ref (p1a 0)] : List Value).toArray below meth c s.heap [] 0 0 Q (F0 m 0 ls [])
  rw [← hle]
  refine wH9 hHe ?_
  unfold fX5_dropUnwanted at hrun
  refine lv_aload_n hx hb dX5_dropUnwanted_0 rfl (lv_at hl 0 rfl) ?_
  refine lv_aload_n hx hb dX5_dropUnwanted_1 rfl (lv_at hl 1 rfl) ?_
  obtain ⟨o_1, hc_1, hrun⟩ := bnd9 hrun
  have hPx : va_P (dC, dI) cls ((List.flatten ([(oX5 (p0a 0) p0a p0k p0w p0l), (oX1 (p1a 0) p1a p1k p1n p1w p1l), (oX9 (p1a 3) p1_2a p1_2k p1_2n p1_2w)] : List va_W)) ++ (List.flatten ([] : List va_W))) H := vP_fa (vP_perm hP (bP (List.Perm.refl _)))
  have hDx : va_D A ((List.flatten ([(oX5 (p0a 0) p0a p0k p0w p0l), (oX1 (p1a 0) p1a p1k p1n p1w p1l), (oX9 (p1a 3) p1_2a p1_2k p1_2n p1_2w)] : List va_W)) ++ (List.flatten ([] : List va_W))) := vD_fa (vD_perm hD (bP (List.Perm.refl _)))
  have hKx : va_K (dC, dI) cls ((List.flatten ([(tX5 p0k), (tX1 p1k), (tX9 p1_2k)] : List (List (ClassId × FieldType)))) ++ (List.flatten ([] : List (List (ClassId × FieldType))))) s := vK_fa (vK_perm hK (bP (List.Perm.refl _)))
  have hPc := vP_l hPx
  have hDc := vD_l hDx
  have hKc := vK_l hKx
  have hFc := vfree hDx hS hA
  refine va_callv (va_runV (As := [.ref (p1a 0)]) (rest := []) ⟨hx, hb, hml, hown, hts⟩ (kX5_findGivers l dC dI (p0a := p0a) (p0k := p0k) (p0w := p0w) (p0l := p0l) (p1a := p1a) (p1k := p1k) (p1n := p1n) (p1w := p1w) (p1l := p1l) (p1_2a := p1_2a) (p1_2k := p1_2k) (p1_2n := p1_2n) (p1_2w := p1_2w) (sz := _) (o := o_1) (hrun := hc_1)) (cwV 1 hts (gi_V qw439 qw440 qw441 qw442 (gi_z qw438)) rfl rfl rfl (by decide +kernel) ⟨Nat.le_of_ble_eq_true rfl, Nat.le_of_ble_eq_true rfl⟩) ⟨PRE.blind, va_recv hKc hPc (ci := 7) (q0 := 0) rfl rfl, PRE.of hE hS hFc hPc hKc hDc⟩ rfl rfl hl.1 rfl (lv_room (Nat.le_of_ble_eq_true rfl)) dX5_dropUnwanted_2 ⟨(Nat.le_of_ble_eq_true rfl), (Nat.le_of_ble_eq_true rfl)⟩) hS (fun q _ h => hFc q h) hFc (fun u t H locs ht hvm hw hB hz1 hk1 hS => ?_)
  obtain ⟨b1, b2, b3⟩ := hB
  rw [ht] at b1
  obtain ⟨hP, hD, hK⟩ := JOINC (wc := (List.flatten ([(oX5 (p0a 0) p0a p0k p0w p0l), (oX1 (p1a 0) p1a p1k p1n p1w p1l), (oX9 (p1a 3) p1_2a p1_2k p1_2n p1_2w)] : List va_W))) (wr := (List.flatten ([] : List va_W))) (w1 := (List.flatten ([(oX5 (p0a 0) p0a p0k o_1 p0l), (oX1 (p1a 0) p1a p1k p1n p1w p1l), (oX9 (p1a 3) p1_2a p1_2k p1_2n p1_2w)] : List va_W))) (t1 := (List.flatten ([(tX5 p0k), (tX1 p1k), (tX9 p1_2k)] : List (List (ClassId × FieldType))))) hPx hDx hKx hk1 hFc b1 (va_K.moved hvm.symm b2) b3
  have hP : va_P (dC, dI) cls (List.flatten ([(oX5 (p0a 0) p0a p0k o_1 p0l), (oX1 (p1a 0) p1a p1k p1n p1w p1l), (oX9 (p1a 3) p1_2a p1_2k p1_2n p1_2w)] : List va_W)) H := vP_perm (vP_fb hP) (bP (List.Perm.refl _))
  have hD : va_D A (List.flatten ([(oX5 (p0a 0) p0a p0k o_1 p0l), (oX1 (p1a 0) p1a p1k p1n p1w p1l), (oX9 (p1a 3) p1_2a p1_2k p1_2n p1_2w)] : List va_W)) := vD_perm (vD_fb hD) (bP (List.Perm.refl _))
  have hK : va_K (dC, dI) cls (List.flatten ([(tX5 p0k), (tX1 p1k), (tX9 p1_2k)] : List (List (ClassId × FieldType)))) s := vK_perm (vK_fb hK) (bP (List.Perm.refl _))
  refine lv_aload_n hx hb dX5_dropUnwanted_5 rfl (lv_at hl 0 rfl) ?_
  refine va_get (D := (dC, dI)) (ci := 7) (v := .ref (p0a 7)) (C := RX5) (T := TX5) (N := 12) hx hb hts i_X5 hown hK hP 0 rfl rfl 6 (by decide) (hts _ qw443) (fun _ h9 => h9) rfl dX5_dropUnwanted_6 ?_
  refine lv_iconst (v := 1) hx hb dX5_dropUnwanted_9 (by decide) ?_
  obtain ⟨o_2, hc_2, hrun⟩ := bnd9 hrun
  have hP2 : va_P (dC, dI) cls (List.flatten ([[((p0a 7), .inl ((p0k 7), 250, .inl (o_1 7)))], [((p0a 0), .inr (7, [.ref (p0a 1), .ref (p0a 2), .ref (p0a 3), .ref (p0a 4), .ref (p0a 5), .ref (p0a 6), .ref (p0a 7), .long (p0l 0 7), .ref (p0a 9), .ref (p0a 10), .int (o_1 0 10), .ref (p0a 12)])), ((p0a 2), .inl ((p0k 2), 250, .inl (o_1 2))), ((p0a 3), .inl ((p0k 3), 250, .inl (o_1 3))), ((p0a 4), .inl ((p0k 4), 250, .inl (o_1 4))), ((p0a 5), .inl ((p0k 5), 250, .inl (o_1 5))), ((p0a 6), .inl ((p0k 6), 250, .inl (o_1 6))), ((p0a 9), .inl ((p0k 9), 250, .inl (o_1 9))), ((p0a 10), .inl ((p0k 10), 250, .inl (o_1 10))), ((p0a 12), .inl ((p0k 12), 60, .inl (o_1 12)))], (oX1 (p1a 0) p1a p1k p1n p1w p1l), (oX9 (p1a 3) p1_2a p1_2k p1_2n p1_2w)] : List va_W)) H := vP_perm hP ((bP (List.Perm.refl _)).trans (List.Perm.append_right _ (List.perm_middle (a := (((p0a 7), .inl ((p0k 7), 250, .inl (o_1 7))) : Nat × va_E)) (l₁ := ([((p0a 0), .inr (7, [.ref (p0a 1), .ref (p0a 2), .ref (p0a 3), .ref (p0a 4), .ref (p0a 5), .ref (p0a 6), .ref (p0a 7), .long (p0l 0 7), .ref (p0a 9), .ref (p0a 10), .int (o_1 0 10), .ref (p0a 12)])), ((p0a 2), .inl ((p0k 2), 250, .inl (o_1 2))), ((p0a 3), .inl ((p0k 3), 250, .inl (o_1 3))), ((p0a 4), .inl ((p0k 4), 250, .inl (o_1 4))), ((p0a 5), .inl ((p0k 5), 250, .inl (o_1 5))), ((p0a 6), .inl ((p0k 6), 250, .inl (o_1 6)))] : va_W)) (l₂ := ([((p0a 9), .inl ((p0k 9), 250, .inl (o_1 9))), ((p0a 10), .inl ((p0k 10), 250, .inl (o_1 10))), ((p0a 12), .inl ((p0k 12), 60, .inl (o_1 12)))] : va_W)))))
  have hD2 : va_D A (List.flatten ([[((p0a 7), .inl ((p0k 7), 250, .inl (o_1 7)))], [((p0a 0), .inr (7, [.ref (p0a 1), .ref (p0a 2), .ref (p0a 3), .ref (p0a 4), .ref (p0a 5), .ref (p0a 6), .ref (p0a 7), .long (p0l 0 7), .ref (p0a 9), .ref (p0a 10), .int (o_1 0 10), .ref (p0a 12)])), ((p0a 2), .inl ((p0k 2), 250, .inl (o_1 2))), ((p0a 3), .inl ((p0k 3), 250, .inl (o_1 3))), ((p0a 4), .inl ((p0k 4), 250, .inl (o_1 4))), ((p0a 5), .inl ((p0k 5), 250, .inl (o_1 5))), ((p0a 6), .inl ((p0k 6), 250, .inl (o_1 6))), ((p0a 9), .inl ((p0k 9), 250, .inl (o_1 9))), ((p0a 10), .inl ((p0k 10), 250, .inl (o_1 10))), ((p0a 12), .inl ((p0k 12), 60, .inl (o_1 12)))], (oX1 (p1a 0) p1a p1k p1n p1w p1l), (oX9 (p1a 3) p1_2a p1_2k p1_2n p1_2w)] : List va_W)) := vD_perm hD ((bP (List.Perm.refl _)).trans (List.Perm.append_right _ (List.perm_middle (a := (((p0a 7), .inl ((p0k 7), 250, .inl (o_1 7))) : Nat × va_E)) (l₁ := ([((p0a 0), .inr (7, [.ref (p0a 1), .ref (p0a 2), .ref (p0a 3), .ref (p0a 4), .ref (p0a 5), .ref (p0a 6), .ref (p0a 7), .long (p0l 0 7), .ref (p0a 9), .ref (p0a 10), .int (o_1 0 10), .ref (p0a 12)])), ((p0a 2), .inl ((p0k 2), 250, .inl (o_1 2))), ((p0a 3), .inl ((p0k 3), 250, .inl (o_1 3))), ((p0a 4), .inl ((p0k 4), 250, .inl (o_1 4))), ((p0a 5), .inl ((p0k 5), 250, .inl (o_1 5))), ((p0a 6), .inl ((p0k 6), 250, .inl (o_1 6)))] : va_W)) (l₂ := ([((p0a 9), .inl ((p0k 9), 250, .inl (o_1 9))), ((p0a 10), .inl ((p0k 10), 250, .inl (o_1 10))), ((p0a 12), .inl ((p0k 12), 60, .inl (o_1 12)))] : va_W)))))
  have hK2 : va_K (dC, dI) cls (List.flatten ([[((p0k 7), .int)], [((p0k 2), .int), ((p0k 3), .int), ((p0k 4), .int), ((p0k 5), .int), ((p0k 6), .int), ((p0k 9), .int), ((p0k 10), .int), ((p0k 12), .int)], (tX1 p1k), (tX9 p1_2k)] : List (List (ClassId × FieldType)))) s := vK_perm hK ((bP (List.Perm.refl _)).trans (List.Perm.append_right _ (List.perm_middle (a := (((p0k 7), .int) : ClassId × FieldType)) (l₁ := ([((p0k 2), .int), ((p0k 3), .int), ((p0k 4), .int), ((p0k 5), .int), ((p0k 6), .int)] : List (ClassId × FieldType))) (l₂ := ([((p0k 9), .int), ((p0k 10), .int), ((p0k 12), .int)] : List (ClassId × FieldType))))))
  have hPx : va_P (dC, dI) cls ((List.flatten ([[((p0a 7), .inl ((p0k 7), 250, .inl (o_1 7)))]] : List va_W)) ++ (List.flatten ([[((p0a 0), .inr (7, [.ref (p0a 1), .ref (p0a 2), .ref (p0a 3), .ref (p0a 4), .ref (p0a 5), .ref (p0a 6), .ref (p0a 7), .long (p0l 0 7), .ref (p0a 9), .ref (p0a 10), .int (o_1 0 10), .ref (p0a 12)])), ((p0a 2), .inl ((p0k 2), 250, .inl (o_1 2))), ((p0a 3), .inl ((p0k 3), 250, .inl (o_1 3))), ((p0a 4), .inl ((p0k 4), 250, .inl (o_1 4))), ((p0a 5), .inl ((p0k 5), 250, .inl (o_1 5))), ((p0a 6), .inl ((p0k 6), 250, .inl (o_1 6))), ((p0a 9), .inl ((p0k 9), 250, .inl (o_1 9))), ((p0a 10), .inl ((p0k 10), 250, .inl (o_1 10))), ((p0a 12), .inl ((p0k 12), 60, .inl (o_1 12)))], (oX1 (p1a 0) p1a p1k p1n p1w p1l), (oX9 (p1a 3) p1_2a p1_2k p1_2n p1_2w)] : List va_W))) H := vP_fa (vP_perm hP2 (bP (List.Perm.refl _)))
  have hDx : va_D A ((List.flatten ([[((p0a 7), .inl ((p0k 7), 250, .inl (o_1 7)))]] : List va_W)) ++ (List.flatten ([[((p0a 0), .inr (7, [.ref (p0a 1), .ref (p0a 2), .ref (p0a 3), .ref (p0a 4), .ref (p0a 5), .ref (p0a 6), .ref (p0a 7), .long (p0l 0 7), .ref (p0a 9), .ref (p0a 10), .int (o_1 0 10), .ref (p0a 12)])), ((p0a 2), .inl ((p0k 2), 250, .inl (o_1 2))), ((p0a 3), .inl ((p0k 3), 250, .inl (o_1 3))), ((p0a 4), .inl ((p0k 4), 250, .inl (o_1 4))), ((p0a 5), .inl ((p0k 5), 250, .inl (o_1 5))), ((p0a 6), .inl ((p0k 6), 250, .inl (o_1 6))), ((p0a 9), .inl ((p0k 9), 250, .inl (o_1 9))), ((p0a 10), .inl ((p0k 10), 250, .inl (o_1 10))), ((p0a 12), .inl ((p0k 12), 60, .inl (o_1 12)))], (oX1 (p1a 0) p1a p1k p1n p1w p1l), (oX9 (p1a 3) p1_2a p1_2k p1_2n p1_2w)] : List va_W))) := vD_fa (vD_perm hD2 (bP (List.Perm.refl _)))
  have hKx : va_K (dC, dI) cls ((List.flatten ([[((p0k 7), .int)]] : List (List (ClassId × FieldType)))) ++ (List.flatten ([[((p0k 2), .int), ((p0k 3), .int), ((p0k 4), .int), ((p0k 5), .int), ((p0k 6), .int), ((p0k 9), .int), ((p0k 10), .int), ((p0k 12), .int)], (tX1 p1k), (tX9 p1_2k)] : List (List (ClassId × FieldType))))) s := vK_fa (vK_perm hK2 (bP (List.Perm.refl _)))
  have hPc := vP_l hPx
  have hDc := vD_l hDx
  have hKc := vK_l hKx
  have hFc := vfree hDx hS hA
  refine va_callv (va_runS (As := [.ref (p0a 7), .int 1]) (rest := []) ⟨hx, hb, hml, hown, hts⟩ (kJ7_fill_53178 l dC dI (p0a := (p0a 7)) (p0k := (p0k 7)) (p0n := 250) (p0f := (o_1 7)) (p1 := 1) (sz := _) (o := o_2) (hrun := hc_2)) (va_cwS 2 hts (gi_S qw428 qw218 qw109 (gi_z qw216)) rfl rfl rfl (by decide +kernel) ⟨Nat.le_of_ble_eq_true rfl, Nat.le_of_ble_eq_true rfl⟩) ⟨PRE.blind, PRE.of hE hS hFc hPc hKc hDc⟩ rfl rfl hl.1 rfl (lv_room (Nat.le_of_ble_eq_true rfl)) dX5_dropUnwanted_10 ⟨(Nat.le_of_ble_eq_true rfl), (Nat.le_of_ble_eq_true rfl)⟩) hS (fun q _ h => hFc q h) hFc (fun u t H locs ht hvm hw hB hz1 hk1 hS => ?_)
  obtain ⟨b1, b2, b3⟩ := hB
  rw [ht] at b1
  obtain ⟨hP, hD, hK⟩ := JOINC (wc := (List.flatten ([[((p0a 7), .inl ((p0k 7), 250, .inl (o_1 7)))]] : List va_W))) (wr := (List.flatten ([[((p0a 0), .inr (7, [.ref (p0a 1), .ref (p0a 2), .ref (p0a 3), .ref (p0a 4), .ref (p0a 5), .ref (p0a 6), .ref (p0a 7), .long (p0l 0 7), .ref (p0a 9), .ref (p0a 10), .int (o_1 0 10), .ref (p0a 12)])), ((p0a 2), .inl ((p0k 2), 250, .inl (o_1 2))), ((p0a 3), .inl ((p0k 3), 250, .inl (o_1 3))), ((p0a 4), .inl ((p0k 4), 250, .inl (o_1 4))), ((p0a 5), .inl ((p0k 5), 250, .inl (o_1 5))), ((p0a 6), .inl ((p0k 6), 250, .inl (o_1 6))), ((p0a 9), .inl ((p0k 9), 250, .inl (o_1 9))), ((p0a 10), .inl ((p0k 10), 250, .inl (o_1 10))), ((p0a 12), .inl ((p0k 12), 60, .inl (o_1 12)))], (oX1 (p1a 0) p1a p1k p1n p1w p1l), (oX9 (p1a 3) p1_2a p1_2k p1_2n p1_2w)] : List va_W))) (w1 := (List.flatten ([[((p0a 7), .inl ((p0k 7), 250, .inl ((srw o_1 7 o_2) 7)))]] : List va_W))) (t1 := (List.flatten ([[((p0k 7), .int)]] : List (List (ClassId × FieldType))))) hPx hDx hKx hk1 hFc b1 (va_K.moved hvm.symm b2) b3
  have hP3 : va_P (dC, dI) cls (List.flatten ([(oX5 (p0a 0) p0a p0k (srw o_1 7 o_2) p0l), (oX1 (p1a 0) p1a p1k p1n p1w p1l), (oX9 (p1a 3) p1_2a p1_2k p1_2n p1_2w)] : List va_W)) H := vP_perm (vP_fb hP) ((bP (List.Perm.refl _)).trans (List.Perm.append_right _ (List.perm_middle (a := (((p0a 7), .inl ((p0k 7), 250, .inl ((srw o_1 7 o_2) 7))) : Nat × va_E)) (l₁ := ([((p0a 0), .inr (7, [.ref (p0a 1), .ref (p0a 2), .ref (p0a 3), .ref (p0a 4), .ref (p0a 5), .ref (p0a 6), .ref (p0a 7), .long (p0l 0 7), .ref (p0a 9), .ref (p0a 10), .int ((srw o_1 7 o_2) 0 10), .ref (p0a 12)])), ((p0a 2), .inl ((p0k 2), 250, .inl ((srw o_1 7 o_2) 2))), ((p0a 3), .inl ((p0k 3), 250, .inl ((srw o_1 7 o_2) 3))), ((p0a 4), .inl ((p0k 4), 250, .inl ((srw o_1 7 o_2) 4))), ((p0a 5), .inl ((p0k 5), 250, .inl ((srw o_1 7 o_2) 5))), ((p0a 6), .inl ((p0k 6), 250, .inl ((srw o_1 7 o_2) 6)))] : va_W)) (l₂ := ([((p0a 9), .inl ((p0k 9), 250, .inl ((srw o_1 7 o_2) 9))), ((p0a 10), .inl ((p0k 10), 250, .inl ((srw o_1 7 o_2) 10))), ((p0a 12), .inl ((p0k 12), 60, .inl ((srw o_1 7 o_2) 12)))] : va_W))).symm))
  have hD3 : va_D A (List.flatten ([(oX5 (p0a 0) p0a p0k (srw o_1 7 o_2) p0l), (oX1 (p1a 0) p1a p1k p1n p1w p1l), (oX9 (p1a 3) p1_2a p1_2k p1_2n p1_2w)] : List va_W)) := vD_perm (vD_fb hD) ((bP (List.Perm.refl _)).trans (List.Perm.append_right _ (List.perm_middle (a := (((p0a 7), .inl ((p0k 7), 250, .inl ((srw o_1 7 o_2) 7))) : Nat × va_E)) (l₁ := ([((p0a 0), .inr (7, [.ref (p0a 1), .ref (p0a 2), .ref (p0a 3), .ref (p0a 4), .ref (p0a 5), .ref (p0a 6), .ref (p0a 7), .long (p0l 0 7), .ref (p0a 9), .ref (p0a 10), .int ((srw o_1 7 o_2) 0 10), .ref (p0a 12)])), ((p0a 2), .inl ((p0k 2), 250, .inl ((srw o_1 7 o_2) 2))), ((p0a 3), .inl ((p0k 3), 250, .inl ((srw o_1 7 o_2) 3))), ((p0a 4), .inl ((p0k 4), 250, .inl ((srw o_1 7 o_2) 4))), ((p0a 5), .inl ((p0k 5), 250, .inl ((srw o_1 7 o_2) 5))), ((p0a 6), .inl ((p0k 6), 250, .inl ((srw o_1 7 o_2) 6)))] : va_W)) (l₂ := ([((p0a 9), .inl ((p0k 9), 250, .inl ((srw o_1 7 o_2) 9))), ((p0a 10), .inl ((p0k 10), 250, .inl ((srw o_1 7 o_2) 10))), ((p0a 12), .inl ((p0k 12), 60, .inl ((srw o_1 7 o_2) 12)))] : va_W))).symm))
  have hK3 : va_K (dC, dI) cls (List.flatten ([(tX5 p0k), (tX1 p1k), (tX9 p1_2k)] : List (List (ClassId × FieldType)))) s := vK_perm (vK_fb hK) ((bP (List.Perm.refl _)).trans (List.Perm.append_right _ (List.perm_middle (a := (((p0k 7), .int) : ClassId × FieldType)) (l₁ := ([((p0k 2), .int), ((p0k 3), .int), ((p0k 4), .int), ((p0k 5), .int), ((p0k 6), .int)] : List (ClassId × FieldType))) (l₂ := ([((p0k 9), .int), ((p0k 10), .int), ((p0k 12), .int)] : List (ClassId × FieldType)))).symm))
  have hP : va_P (dC, dI) cls (List.flatten ([(oX5 (p0a 0) p0a p0k (srw o_1 7 o_2) p0l), (oX1 (p1a 0) p1a p1k p1n p1w p1l), (oX9 (p1a 3) p1_2a p1_2k p1_2n p1_2w)] : List va_W)) H := vP_perm hP3 (bP (List.Perm.refl _))
  have hD : va_D A (List.flatten ([(oX5 (p0a 0) p0a p0k (srw o_1 7 o_2) p0l), (oX1 (p1a 0) p1a p1k p1n p1w p1l), (oX9 (p1a 3) p1_2a p1_2k p1_2n p1_2w)] : List va_W)) := vD_perm hD3 (bP (List.Perm.refl _))
  have hK : va_K (dC, dI) cls (List.flatten ([(tX5 p0k), (tX1 p1k), (tX9 p1_2k)] : List (List (ClassId × FieldType)))) s := vK_perm hK3 (bP (List.Perm.refl _))
  refine lv_iconst (v := 1) hx hb dX5_dropUnwanted_13 (by decide) ?_
  refine lv_istore_n (lv' := [(2, .int 1), (0, .ref (p0a 0)), (1, .ref (p1a 0))]) hx hb dX5_dropUnwanted_14 rfl hl (by decide) rfl (fun ls hl => ?_)
  refine lv_iconst (v := 0) hx hb dX5_dropUnwanted_15 (by decide) ?_
  refine lv_istore_n (lv' := [(3, .int 0), (2, .int 1), (0, .ref (p0a 0)), (1, .ref (p1a 0))]) hx hb dX5_dropUnwanted_16 rfl hl (by decide) rfl (fun ls hl => ?_)
  have L17 : ∀ (n_17 : Nat) (v2_17 : Int32) (v3_17 : Int32) (p0w_17 : ST) (o17 : ST) (H : Heap) (locs : List Loc) (ls : Array Slot), (fX5_dropUnwanted_L17 p1n p1w p1_2n p1_2w n_17) v2_17 v3_17 p0w_17 = some o17 → va_P (dC, dI) cls (List.flatten ([(oX5 (p0a 0) p0a p0k p0w_17 p0l), (oX1 (p1a 0) p1a p1k p1n p1w p1l), (oX9 (p1a 3) p1_2a p1_2k p1_2n p1_2w)] : List va_W)) H → va_D A (List.flatten ([(oX5 (p0a 0) p0a p0k p0w_17 p0l), (oX1 (p1a 0) p1a p1k p1n p1w p1l), (oX9 (p1a 3) p1_2a p1_2k p1_2n p1_2w)] : List va_W)) → va_K (dC, dI) cls (List.flatten ([(tX5 p0k), (tX1 p1k), (tX9 p1_2k)] : List (List (ClassId × FieldType)))) s → va_S A s.heap H locs → lv_has ls 5 [(0, .ref (p0a 0)), (1, .ref (p1a 0)), (2, .int v2_17), (3, .int v3_17)] → (∀ (H : Heap) (locs : List Loc) (ls : Array Slot), va_P (dC, dI) cls (List.flatten ([(oX5 (p0a 0) p0a p0k o17 p0l), (oX1 (p1a 0) p1a p1k p1n p1w p1l), (oX9 (p1a 3) p1_2a p1_2k p1_2n p1_2w)] : List va_W)) H → va_D A (List.flatten ([(oX5 (p0a 0) p0a p0k o17 p0l), (oX1 (p1a 0) p1a p1k p1n p1w p1l), (oX9 (p1a 3) p1_2a p1_2k p1_2n p1_2w)] : List va_W)) → va_K (dC, dI) cls (List.flatten ([(tX5 p0k), (tX1 p1k), (tX9 p1_2k)] : List (List (ClassId × FieldType)))) s → va_S A s.heap H locs → lv_has ls 5 [(0, .ref (p0a 0)), (1, .ref (p1a 0))] → W p l e ({ frames := 4, cells := 0, slots := 0, locals := 89 } : Room) s m ([.ref (p0a 0), .ref (p1a 0)] : List Value).toArray below meth c H locs 0 0 Q (F0 m 66 ls [])) → W p l e ({ frames := 4, cells := 0, slots := 0, locals := 89 } : Room) s m ([.ref (p0a 0), .ref (p1a 0)] : List Value).toArray below meth c H locs 0 0 Q (F0 m 17 ls []) := by
    intro n_17
    induction n_17 with
    | zero => intro v2_17 v3_17 p0w_17 o17 H locs ls hrun; exact (no9 rfl hrun).elim
    | succ n_17 IH17 =>
      intro v2_17 v3_17 p0w_17 o17 H locs ls hrun hP hD hK hS hl hk17
      unfold fX5_dropUnwanted_L17 at hrun
      refine lv_iload_n hx hb dX5_dropUnwanted_17 rfl (lv_at hl 2 rfl) ?_
      rcases br9 hrun with ⟨hc3, hrun⟩ | ⟨hc3, hrun⟩
      · refine lv_if_eq (tgt := 66) hx hb dX5_dropUnwanted_18 (by decide) (fun _ => ?_) (fun c => absurd hc3 c)
        obtain rfl := (Option.some.inj hrun)
        exact hk17 _ _ _ hP hD hK hS (lv_sub hl [0, 1] rfl)
      · refine lv_if_eq (tgt := 66) hx hb dX5_dropUnwanted_18 (by decide) (fun c => absurd c hc3) (fun _ => ?_)
        refine lv_iload_n hx hb dX5_dropUnwanted_21 rfl (lv_at hl 3 rfl) ?_
        refine lv_ldc (v := 1000000) hx hb hown (hts _ qw444) dX5_dropUnwanted_22 ?_
        rcases br9 hrun with ⟨hc4, hrun⟩ | ⟨hc4, hrun⟩
        · refine lv_icmp_ge (tgt := 66) hx hb dX5_dropUnwanted_24 (by decide) (fun _ => ?_) (fun c => absurd hc4 c)
          obtain rfl := (Option.some.inj hrun)
          exact hk17 _ _ _ hP hD hK hS (lv_sub hl [0, 1] rfl)
        · refine lv_icmp_ge (tgt := 66) hx hb dX5_dropUnwanted_24 (by decide) (fun c => absurd c hc4) (fun _ => ?_)
          refine lv_iconst (v := 0) hx hb dX5_dropUnwanted_27 (by decide) ?_
          refine lv_istore_n (lv' := [(2, .int 0), (0, .ref (p0a 0)), (1, .ref (p1a 0)), (3, .int v3_17)]) hx hb dX5_dropUnwanted_28 rfl hl (by decide) rfl (fun ls hl => ?_)
          refine lv_aload_n hx hb dX5_dropUnwanted_29 rfl (lv_at hl 2 rfl) ?_
          refine va_get (D := (dC, dI)) (ci := 4) (v := .int (p1w 0 0)) (C := RX1) (T := TX1) (N := 21) hx hb hts i_X1 hown hK hP 10 rfl rfl 0 (by decide) (hts _ qw430) (fun _ h9 => h9) rfl dX5_dropUnwanted_30 ?_
          refine lv_iconst (v := 1) hx hb dX5_dropUnwanted_33 (by decide) ?_
          refine lv_isub hx hb dX5_dropUnwanted_34 ?_
          refine lv_istore (lv' := [(4, .int ((p1w 0 0) - 1)), (2, .int 0), (0, .ref (p0a 0)), (1, .ref (p1a 0)), (3, .int v3_17)]) hx hb dX5_dropUnwanted_35 hl (by decide) rfl (fun ls hl => ?_)
          have L37 : ∀ (n_37 : Nat) (v2_37 : Int32) (v4_37 : Int32) (p0w_37 : ST) (o37 : Int32 × ST) (H : Heap) (locs : List Loc) (ls : Array Slot), (fX5_dropUnwanted_L37 p1n p1w p1_2n p1_2w n_37) v2_37 v4_37 p0w_37 = some o37 → va_P (dC, dI) cls (List.flatten ([(oX5 (p0a 0) p0a p0k p0w_37 p0l), (oX1 (p1a 0) p1a p1k p1n p1w p1l), (oX9 (p1a 3) p1_2a p1_2k p1_2n p1_2w)] : List va_W)) H → va_D A (List.flatten ([(oX5 (p0a 0) p0a p0k p0w_37 p0l), (oX1 (p1a 0) p1a p1k p1n p1w p1l), (oX9 (p1a 3) p1_2a p1_2k p1_2n p1_2w)] : List va_W)) → va_K (dC, dI) cls (List.flatten ([(tX5 p0k), (tX1 p1k), (tX9 p1_2k)] : List (List (ClassId × FieldType)))) s → va_S A s.heap H locs → lv_has ls 5 [(0, .ref (p0a 0)), (1, .ref (p1a 0)), (2, .int v2_37), (3, .int v3_17), (4, .int v4_37)] → (∀ (H : Heap) (locs : List Loc) (ls : Array Slot), va_P (dC, dI) cls (List.flatten ([(oX5 (p0a 0) p0a p0k (o37.2) p0l), (oX1 (p1a 0) p1a p1k p1n p1w p1l), (oX9 (p1a 3) p1_2a p1_2k p1_2n p1_2w)] : List va_W)) H → va_D A (List.flatten ([(oX5 (p0a 0) p0a p0k (o37.2) p0l), (oX1 (p1a 0) p1a p1k p1n p1w p1l), (oX9 (p1a 3) p1_2a p1_2k p1_2n p1_2w)] : List va_W)) → va_K (dC, dI) cls (List.flatten ([(tX5 p0k), (tX1 p1k), (tX9 p1_2k)] : List (List (ClassId × FieldType)))) s → va_S A s.heap H locs → lv_has ls 5 [(0, .ref (p0a 0)), (1, .ref (p1a 0)), (2, .int (o37.1)), (3, .int v3_17)] → W p l e ({ frames := 4, cells := 0, slots := 0, locals := 89 } : Room) s m ([.ref (p0a 0), .ref (p1a 0)] : List Value).toArray below meth c H locs 0 0 Q (F0 m 60 ls [])) → W p l e ({ frames := 4, cells := 0, slots := 0, locals := 89 } : Room) s m ([.ref (p0a 0), .ref (p1a 0)] : List Value).toArray below meth c H locs 0 0 Q (F0 m 37 ls []) := by
            intro n_37
            induction n_37 with
            | zero => intro v2_37 v4_37 p0w_37 o37 H locs ls hrun; exact (no9 rfl hrun).elim
            | succ n_37 IH37 =>
              intro v2_37 v4_37 p0w_37 o37 H locs ls hrun hP hD hK hS hl hk37
              unfold fX5_dropUnwanted_L37 at hrun
              refine lv_iload hx hb dX5_dropUnwanted_37 (lv_at hl 4 rfl) ?_
              rcases br9 hrun with ⟨hc5, hrun⟩ | ⟨hc5, hrun⟩
              · refine lv_if_lt (tgt := 60) hx hb dX5_dropUnwanted_39 (by decide) (fun _ => ?_) (fun c => absurd hc5 c)
                obtain rfl := (Option.some.inj hrun)
                exact hk37 _ _ _ hP hD hK hS (lv_sub hl [0, 1, 2, 3] rfl)
              · refine lv_if_lt (tgt := 60) hx hb dX5_dropUnwanted_39 (by decide) (fun c => absurd c hc5) (fun _ => ?_)
                refine lv_aload_n hx hb dX5_dropUnwanted_42 rfl (lv_at hl 0 rfl) ?_
                refine lv_aload_n hx hb dX5_dropUnwanted_43 rfl (lv_at hl 1 rfl) ?_
                refine lv_iload hx hb dX5_dropUnwanted_44 (lv_at hl 4 rfl) ?_
                obtain ⟨o_6, hc_6, hrun⟩ := bnd9 hrun
                have hPx : va_P (dC, dI) cls ((List.flatten ([(oX5 (p0a 0) p0a p0k p0w_37 p0l), (oX1 (p1a 0) p1a p1k p1n p1w p1l), (oX9 (p1a 3) p1_2a p1_2k p1_2n p1_2w)] : List va_W)) ++ (List.flatten ([] : List va_W))) H := vP_fa (vP_perm hP (bP (List.Perm.refl _)))
                have hDx : va_D A ((List.flatten ([(oX5 (p0a 0) p0a p0k p0w_37 p0l), (oX1 (p1a 0) p1a p1k p1n p1w p1l), (oX9 (p1a 3) p1_2a p1_2k p1_2n p1_2w)] : List va_W)) ++ (List.flatten ([] : List va_W))) := vD_fa (vD_perm hD (bP (List.Perm.refl _)))
                have hKx : va_K (dC, dI) cls ((List.flatten ([(tX5 p0k), (tX1 p1k), (tX9 p1_2k)] : List (List (ClassId × FieldType)))) ++ (List.flatten ([] : List (List (ClassId × FieldType))))) s := vK_fa (vK_perm hK (bP (List.Perm.refl _)))
                have hPc := vP_l hPx
                have hDc := vD_l hDx
                have hKc := vK_l hKx
                have hFc := vfree hDx hS hA
                refine va_calli (va_runV (As := [.ref (p1a 0), .int v4_37]) (rest := []) ⟨hx, hb, hml, hown, hts⟩ (kX5_wantInBlock l dC dI (p0a := p0a) (p0k := p0k) (p0w := p0w_37) (p0l := p0l) (p1a := p1a) (p1k := p1k) (p1n := p1n) (p1w := p1w) (p1l := p1l) (p2 := v4_37) (p1_2a := p1_2a) (p1_2k := p1_2k) (p1_2n := p1_2n) (p1_2w := p1_2w) (sz := _) (o := o_6) (hrun := hc_6)) (cwV 2 hts (gi_V qw473 qw474 qw475 qw442 (gi_z qw472)) rfl rfl rfl (by decide +kernel) ⟨Nat.le_of_ble_eq_true rfl, Nat.le_of_ble_eq_true rfl⟩) ⟨PRE.blind, va_recv hKc hPc (ci := 7) (q0 := 0) rfl rfl, PRE.of hE hS hFc hPc hKc hDc⟩ rfl rfl hl.1 rfl (lv_room (Nat.le_of_ble_eq_true rfl)) dX5_dropUnwanted_46 ⟨(Nat.le_of_ble_eq_true rfl), (Nat.le_of_ble_eq_true rfl)⟩) hS (fun q _ h => hFc q h) hFc (fun r7 u t H locs ht hvm hw hB hz1 hk1 hS => ?_)
                obtain ⟨b1, b2, b3⟩ := hB
                rw [ht] at b1
                obtain ⟨hP, hD, hK⟩ := JOINC (wc := (List.flatten ([(oX5 (p0a 0) p0a p0k p0w_37 p0l), (oX1 (p1a 0) p1a p1k p1n p1w p1l), (oX9 (p1a 3) p1_2a p1_2k p1_2n p1_2w)] : List va_W))) (wr := (List.flatten ([] : List va_W))) (w1 := (List.flatten ([(oX5 (p0a 0) p0a p0k (o_6.2) p0l), (oX1 (p1a 0) p1a p1k p1n p1w p1l), (oX9 (p1a 3) p1_2a p1_2k p1_2n p1_2w)] : List va_W))) (t1 := (List.flatten ([(tX5 p0k), (tX1 p1k), (tX9 p1_2k)] : List (List (ClassId × FieldType))))) hPx hDx hKx hk1 hFc b1 (va_K.moved hvm.symm b2) b3
                have hP : va_P (dC, dI) cls (List.flatten ([(oX5 (p0a 0) p0a p0k (o_6.2) p0l), (oX1 (p1a 0) p1a p1k p1n p1w p1l), (oX9 (p1a 3) p1_2a p1_2k p1_2n p1_2w)] : List va_W)) H := vP_perm (vP_fb hP) (bP (List.Perm.refl _))
                have hD : va_D A (List.flatten ([(oX5 (p0a 0) p0a p0k (o_6.2) p0l), (oX1 (p1a 0) p1a p1k p1n p1w p1l), (oX9 (p1a 3) p1_2a p1_2k p1_2n p1_2w)] : List va_W)) := vD_perm (vD_fb hD) (bP (List.Perm.refl _))
                have hK : va_K (dC, dI) cls (List.flatten ([(tX5 p0k), (tX1 p1k), (tX9 p1_2k)] : List (List (ClassId × FieldType)))) s := vK_perm (vK_fb hK) (bP (List.Perm.refl _))
                obtain rfl : r7 = (o_6.1) := hw
                have J54 : ∀ (v2_54 : Int32) (H : Heap) (locs : List Loc) (ls : Array Slot), (fX5_dropUnwanted_J54 (fX5_dropUnwanted_L37 p1n p1w p1_2n p1_2w n_37) v4_37 o_6 v2_54) = some o37 → va_P (dC, dI) cls (List.flatten ([(oX5 (p0a 0) p0a p0k (o_6.2) p0l), (oX1 (p1a 0) p1a p1k p1n p1w p1l), (oX9 (p1a 3) p1_2a p1_2k p1_2n p1_2w)] : List va_W)) H → va_D A (List.flatten ([(oX5 (p0a 0) p0a p0k (o_6.2) p0l), (oX1 (p1a 0) p1a p1k p1n p1w p1l), (oX9 (p1a 3) p1_2a p1_2k p1_2n p1_2w)] : List va_W)) → va_K (dC, dI) cls (List.flatten ([(tX5 p0k), (tX1 p1k), (tX9 p1_2k)] : List (List (ClassId × FieldType)))) s → va_S A s.heap H locs → lv_has ls 5 [(0, .ref (p0a 0)), (1, .ref (p1a 0)), (2, .int v2_54), (3, .int v3_17), (4, .int v4_37)] → W p l e ({ frames := 4, cells := 0, slots := 0, locals := 89 } : Room) s m ([.ref (p0a 0), .ref (p1a 0)] : List Value).toArray below meth c H locs 0 0 Q (F0 m 54 ls []) := by
                  intro v2_54 H locs ls hrun hP hD hK hS hl 
                  unfold fX5_dropUnwanted_J54 at hrun
                  refine lv_iinc (v := (v4_37 + (-1))) (lv' := [(4, .int (v4_37 + (-1))), (0, .ref (p0a 0)), (1, .ref (p1a 0)), (2, .int v2_54), (3, .int v3_17)]) hx hb dX5_dropUnwanted_54 hl (k := 4) rfl rfl (by decide) rfl (fun ls hl => ?_)
                  refine lv_goto (tgt := 37) hx hb dX5_dropUnwanted_57 (by decide) ?_
                  exact IH37 v2_54 (v4_37 + (-1)) (o_6.2) o37 _ _ _ hrun hP hD hK hS (lv_sub hl [1, 2, 3, 4, 0] rfl) hk37
                rcases br9 hrun with ⟨hc8, hrun⟩ | ⟨hc8, hrun⟩
                · refine lv_if_eq (tgt := 54) hx hb dX5_dropUnwanted_49 (by decide) (fun _ => ?_) (fun c => absurd hc8 c)
                  exact J54 v2_37 _ _ _ hrun hP hD hK hS (lv_sub hl [0, 1, 2, 3, 4] rfl)
                · refine lv_if_eq (tgt := 54) hx hb dX5_dropUnwanted_49 (by decide) (fun c => absurd c hc8) (fun _ => ?_)
                  refine lv_iconst (v := 1) hx hb dX5_dropUnwanted_52 (by decide) ?_
                  refine lv_istore_n (lv' := [(2, .int 1), (0, .ref (p0a 0)), (1, .ref (p1a 0)), (3, .int v3_17), (4, .int v4_37)]) hx hb dX5_dropUnwanted_53 rfl hl (by decide) rfl (fun ls hl => ?_)
                  exact J54 1 _ _ _ hrun hP hD hK hS (lv_sub hl [1, 2, 0, 3, 4] rfl)
          obtain ⟨o37, hc37, hrun⟩ := bnd9 hrun
          refine L37 NF 0 ((p1w 0 0) - 1) p0w_17 o37 _ _ _ hc37 hP hD hK hS (lv_sub hl [2, 3, 1, 4, 0] rfl) ?_
          intro H locs ls hP hD hK hS hl
          have hl := hl
          refine lv_iinc (v := (v3_17 + 1)) (lv' := [(3, .int (v3_17 + 1)), (0, .ref (p0a 0)), (1, .ref (p1a 0)), (2, .int (o37.1))]) hx hb dX5_dropUnwanted_60 hl (k := 3) rfl rfl (by decide) rfl (fun ls hl => ?_)
          refine lv_goto (tgt := 17) hx hb dX5_dropUnwanted_63 (by decide) ?_
          exact IH17 (o37.1) (v3_17 + 1) (o37.2) o17 _ _ _ hrun hP hD hK hS (lv_sub hl [1, 2, 3, 0] rfl) hk17
  obtain ⟨o17, hc17, hrun⟩ := bnd9 hrun
  refine L17 NF 1 0 (srw o_1 7 o_2) o17 _ _ _ hc17 hP hD hK hS (lv_sub hl [2, 3, 1, 0] rfl) ?_
  intro H locs ls hP hD hK hS hl
  have hl := hl
  refine lv_aload_n hx hb dX5_dropUnwanted_66 rfl (lv_at hl 0 rfl) ?_
  refine lv_aload_n hx hb dX5_dropUnwanted_67 rfl (lv_at hl 1 rfl) ?_
  obtain ⟨o_9, hc_9, hrun⟩ := bnd9 hrun
  have hPx : va_P (dC, dI) cls ((List.flatten ([(oX5 (p0a 0) p0a p0k o17 p0l), (oX1 (p1a 0) p1a p1k p1n p1w p1l), (oX9 (p1a 3) p1_2a p1_2k p1_2n p1_2w)] : List va_W)) ++ (List.flatten ([] : List va_W))) H := vP_fa (vP_perm hP (bP (List.Perm.refl _)))
  have hDx : va_D A ((List.flatten ([(oX5 (p0a 0) p0a p0k o17 p0l), (oX1 (p1a 0) p1a p1k p1n p1w p1l), (oX9 (p1a 3) p1_2a p1_2k p1_2n p1_2w)] : List va_W)) ++ (List.flatten ([] : List va_W))) := vD_fa (vD_perm hD (bP (List.Perm.refl _)))
  have hKx : va_K (dC, dI) cls ((List.flatten ([(tX5 p0k), (tX1 p1k), (tX9 p1_2k)] : List (List (ClassId × FieldType)))) ++ (List.flatten ([] : List (List (ClassId × FieldType))))) s := vK_fa (vK_perm hK (bP (List.Perm.refl _)))
  have hPc := vP_l hPx
  have hDc := vD_l hDx
  have hKc := vK_l hKx
  have hFc := vfree hDx hS hA
  refine va_callv (va_runV (As := [.ref (p1a 0)]) (rest := []) ⟨hx, hb, hml, hown, hts⟩ (kX5_keepUndroppable l dC dI (p0a := p0a) (p0k := p0k) (p0w := o17) (p0l := p0l) (p1a := p1a) (p1k := p1k) (p1n := p1n) (p1w := p1w) (p1l := p1l) (p1_2a := p1_2a) (p1_2k := p1_2k) (p1_2n := p1_2n) (p1_2w := p1_2w) (sz := _) (o := o_9) (hrun := hc_9)) (cwV 1 hts (gi_V qw477 qw478 qw479 qw442 (gi_z qw476)) rfl rfl rfl (by decide +kernel) ⟨Nat.le_of_ble_eq_true rfl, Nat.le_of_ble_eq_true rfl⟩) ⟨PRE.blind, va_recv hKc hPc (ci := 7) (q0 := 0) rfl rfl, PRE.of hE hS hFc hPc hKc hDc⟩ rfl rfl hl.1 rfl (lv_room (Nat.le_of_ble_eq_true rfl)) dX5_dropUnwanted_68 ⟨(Nat.le_of_ble_eq_true rfl), (Nat.le_of_ble_eq_true rfl)⟩) hS (fun q _ h => hFc q h) hFc (fun u t H locs ht hvm hw hB hz1 hk1 hS => ?_)
  obtain ⟨b1, b2, b3⟩ := hB
  rw [ht] at b1
  obtain ⟨hP, hD, hK⟩ := JOINC (wc := (List.flatten ([(oX5 (p0a 0) p0a p0k o17 p0l), (oX1 (p1a 0) p1a p1k p1n p1w p1l), (oX9 (p1a 3) p1_2a p1_2k p1_2n p1_2w)] : List va_W))) (wr := (List.flatten ([] : List va_W))) (w1 := (List.flatten ([(oX5 (p0a 0) p0a p0k o_9 p0l), (oX1 (p1a 0) p1a p1k p1n p1w p1l), (oX9 (p1a 3) p1_2a p1_2k p1_2n p1_2w)] : List va_W))) (t1 := (List.flatten ([(tX5 p0k), (tX1 p1k), (tX9 p1_2k)] : List (List (ClassId × FieldType))))) hPx hDx hKx hk1 hFc b1 (va_K.moved hvm.symm b2) b3
  have hP : va_P (dC, dI) cls (List.flatten ([(oX5 (p0a 0) p0a p0k o_9 p0l), (oX1 (p1a 0) p1a p1k p1n p1w p1l), (oX9 (p1a 3) p1_2a p1_2k p1_2n p1_2w)] : List va_W)) H := vP_perm (vP_fb hP) (bP (List.Perm.refl _))
  have hD : va_D A (List.flatten ([(oX5 (p0a 0) p0a p0k o_9 p0l), (oX1 (p1a 0) p1a p1k p1n p1w p1l), (oX9 (p1a 3) p1_2a p1_2k p1_2n p1_2w)] : List va_W)) := vD_perm (vD_fb hD) (bP (List.Perm.refl _))
  have hK : va_K (dC, dI) cls (List.flatten ([(tX5 p0k), (tX1 p1k), (tX9 p1_2k)] : List (List (ClassId × FieldType)))) s := vK_perm (vK_fb hK) (bP (List.Perm.refl _))
  refine lv_aload_n hx hb dX5_dropUnwanted_71 rfl (lv_at hl 1 rfl) ?_
  obtain ⟨o_10, hc_10, hrun⟩ := bnd9 hrun
  have hPx : va_P (dC, dI) cls ((List.flatten ([(oX1 (p1a 0) p1a p1k p1n p1w p1l), (oX9 (p1a 3) p1_2a p1_2k p1_2n p1_2w)] : List va_W)) ++ (List.flatten ([(oX5 (p0a 0) p0a p0k o_9 p0l)] : List va_W))) H := vP_fa (vP_perm hP (bP ((((((List.Perm.refl _)).cons _).trans (List.Perm.swap _ _ _))).trans ((((((List.Perm.refl _)).cons _).trans (List.Perm.swap _ _ _))).cons _))))
  have hDx : va_D A ((List.flatten ([(oX1 (p1a 0) p1a p1k p1n p1w p1l), (oX9 (p1a 3) p1_2a p1_2k p1_2n p1_2w)] : List va_W)) ++ (List.flatten ([(oX5 (p0a 0) p0a p0k o_9 p0l)] : List va_W))) := vD_fa (vD_perm hD (bP ((((((List.Perm.refl _)).cons _).trans (List.Perm.swap _ _ _))).trans ((((((List.Perm.refl _)).cons _).trans (List.Perm.swap _ _ _))).cons _))))
  have hKx : va_K (dC, dI) cls ((List.flatten ([(tX1 p1k), (tX9 p1_2k)] : List (List (ClassId × FieldType)))) ++ (List.flatten ([(tX5 p0k)] : List (List (ClassId × FieldType))))) s := vK_fa (vK_perm hK (bP ((((((List.Perm.refl _)).cons _).trans (List.Perm.swap _ _ _))).trans ((((((List.Perm.refl _)).cons _).trans (List.Perm.swap _ _ _))).cons _))))
  have hPc := vP_l hPx
  have hDc := vD_l hDx
  have hKc := vK_l hKx
  have hFc := vfree hDx hS hA
  refine va_calli (va_runV (As := []) (rest := []) ⟨hx, hb, hml, hown, hts⟩ (kX1_countValues l dC dI (p0a := p1a) (p0k := p1k) (p0n := p1n) (p0w := p1w) (p0l := p1l) (p0_2a := p1_2a) (p0_2k := p1_2k) (p0_2n := p1_2n) (p0_2w := p1_2w) (sz := _) (o := o_10) (hrun := hc_10)) (cwV 0 hts (gi_V qw481 qw482 qw483 qw126 (gi_z qw480)) rfl rfl rfl (by decide +kernel) ⟨Nat.le_of_ble_eq_true rfl, Nat.le_of_ble_eq_true rfl⟩) ⟨PRE.blind, va_recv hKc hPc (ci := 4) (q0 := 0) rfl rfl, PRE.of hE hS hFc hPc hKc hDc⟩ rfl rfl hl.1 rfl (lv_room (Nat.le_of_ble_eq_true rfl)) dX5_dropUnwanted_72 ⟨(Nat.le_of_ble_eq_true rfl), (Nat.le_of_ble_eq_true rfl)⟩) hS (fun q _ h => hFc q h) hFc (fun r11 u t H locs ht hvm hw hB hz1 hk1 hS => ?_)
  obtain ⟨b1, b2, b3⟩ := hB
  rw [ht] at b1
  obtain ⟨hP, hD, hK⟩ := JOINC (wc := (List.flatten ([(oX1 (p1a 0) p1a p1k p1n p1w p1l), (oX9 (p1a 3) p1_2a p1_2k p1_2n p1_2w)] : List va_W))) (wr := (List.flatten ([(oX5 (p0a 0) p0a p0k o_9 p0l)] : List va_W))) (w1 := (List.flatten ([(oX1 (p1a 0) p1a p1k p1n p1w p1l), (oX9 (p1a 3) p1_2a p1_2k p1_2n p1_2w)] : List va_W))) (t1 := (List.flatten ([(tX1 p1k), (tX9 p1_2k)] : List (List (ClassId × FieldType))))) hPx hDx hKx hk1 hFc b1 (va_K.moved hvm.symm b2) b3
  have hP : va_P (dC, dI) cls (List.flatten ([(oX5 (p0a 0) p0a p0k o_9 p0l), (oX1 (p1a 0) p1a p1k p1n p1w p1l), (oX9 (p1a 3) p1_2a p1_2k p1_2n p1_2w)] : List va_W)) H := vP_perm (vP_fb hP) (bP (((((((List.Perm.refl _)).cons _).trans (List.Perm.swap _ _ _))).cons _).trans (List.Perm.swap _ _ _)))
  have hD : va_D A (List.flatten ([(oX5 (p0a 0) p0a p0k o_9 p0l), (oX1 (p1a 0) p1a p1k p1n p1w p1l), (oX9 (p1a 3) p1_2a p1_2k p1_2n p1_2w)] : List va_W)) := vD_perm (vD_fb hD) (bP (((((((List.Perm.refl _)).cons _).trans (List.Perm.swap _ _ _))).cons _).trans (List.Perm.swap _ _ _)))
  have hK : va_K (dC, dI) cls (List.flatten ([(tX5 p0k), (tX1 p1k), (tX9 p1_2k)] : List (List (ClassId × FieldType)))) s := vK_perm (vK_fb hK) (bP (((((((List.Perm.refl _)).cons _).trans (List.Perm.swap _ _ _))).cons _).trans (List.Perm.swap _ _ _)))
  obtain rfl : o_10 = r11 := hw.symm
  refine lv_istore_n (lv' := [(3, .int o_10), (0, .ref (p0a 0)), (1, .ref (p1a 0))]) hx hb dX5_dropUnwanted_75 rfl hl (by decide) rfl (fun ls hl => ?_)
  refine lv_aload_n hx hb dX5_dropUnwanted_76 rfl (lv_at hl 2 rfl) ?_
  refine lv_aload_n hx hb dX5_dropUnwanted_77 rfl (lv_at hl 1 rfl) ?_
  refine va_get (D := (dC, dI)) (ci := 7) (v := .ref (p0a 7)) (C := RX5) (T := TX5) (N := 12) hx hb hts i_X5 hown hK hP 0 rfl rfl 6 (by decide) (hts _ qw443) (fun _ h9 => h9) rfl dX5_dropUnwanted_78 ?_
  obtain ⟨o_12, hc_12, hrun⟩ := bnd9 hrun
  have hP2 : va_P (dC, dI) cls (List.flatten ([[((p0a 7), .inl ((p0k 7), 250, .inl (o_9 7)))], [((p0a 0), .inr (7, [.ref (p0a 1), .ref (p0a 2), .ref (p0a 3), .ref (p0a 4), .ref (p0a 5), .ref (p0a 6), .ref (p0a 7), .long (p0l 0 7), .ref (p0a 9), .ref (p0a 10), .int (o_9 0 10), .ref (p0a 12)])), ((p0a 2), .inl ((p0k 2), 250, .inl (o_9 2))), ((p0a 3), .inl ((p0k 3), 250, .inl (o_9 3))), ((p0a 4), .inl ((p0k 4), 250, .inl (o_9 4))), ((p0a 5), .inl ((p0k 5), 250, .inl (o_9 5))), ((p0a 6), .inl ((p0k 6), 250, .inl (o_9 6))), ((p0a 9), .inl ((p0k 9), 250, .inl (o_9 9))), ((p0a 10), .inl ((p0k 10), 250, .inl (o_9 10))), ((p0a 12), .inl ((p0k 12), 60, .inl (o_9 12)))], (oX1 (p1a 0) p1a p1k p1n p1w p1l), (oX9 (p1a 3) p1_2a p1_2k p1_2n p1_2w)] : List va_W)) H := vP_perm hP ((bP (List.Perm.refl _)).trans (List.Perm.append_right _ (List.perm_middle (a := (((p0a 7), .inl ((p0k 7), 250, .inl (o_9 7))) : Nat × va_E)) (l₁ := ([((p0a 0), .inr (7, [.ref (p0a 1), .ref (p0a 2), .ref (p0a 3), .ref (p0a 4), .ref (p0a 5), .ref (p0a 6), .ref (p0a 7), .long (p0l 0 7), .ref (p0a 9), .ref (p0a 10), .int (o_9 0 10), .ref (p0a 12)])), ((p0a 2), .inl ((p0k 2), 250, .inl (o_9 2))), ((p0a 3), .inl ((p0k 3), 250, .inl (o_9 3))), ((p0a 4), .inl ((p0k 4), 250, .inl (o_9 4))), ((p0a 5), .inl ((p0k 5), 250, .inl (o_9 5))), ((p0a 6), .inl ((p0k 6), 250, .inl (o_9 6)))] : va_W)) (l₂ := ([((p0a 9), .inl ((p0k 9), 250, .inl (o_9 9))), ((p0a 10), .inl ((p0k 10), 250, .inl (o_9 10))), ((p0a 12), .inl ((p0k 12), 60, .inl (o_9 12)))] : va_W)))))
  have hD2 : va_D A (List.flatten ([[((p0a 7), .inl ((p0k 7), 250, .inl (o_9 7)))], [((p0a 0), .inr (7, [.ref (p0a 1), .ref (p0a 2), .ref (p0a 3), .ref (p0a 4), .ref (p0a 5), .ref (p0a 6), .ref (p0a 7), .long (p0l 0 7), .ref (p0a 9), .ref (p0a 10), .int (o_9 0 10), .ref (p0a 12)])), ((p0a 2), .inl ((p0k 2), 250, .inl (o_9 2))), ((p0a 3), .inl ((p0k 3), 250, .inl (o_9 3))), ((p0a 4), .inl ((p0k 4), 250, .inl (o_9 4))), ((p0a 5), .inl ((p0k 5), 250, .inl (o_9 5))), ((p0a 6), .inl ((p0k 6), 250, .inl (o_9 6))), ((p0a 9), .inl ((p0k 9), 250, .inl (o_9 9))), ((p0a 10), .inl ((p0k 10), 250, .inl (o_9 10))), ((p0a 12), .inl ((p0k 12), 60, .inl (o_9 12)))], (oX1 (p1a 0) p1a p1k p1n p1w p1l), (oX9 (p1a 3) p1_2a p1_2k p1_2n p1_2w)] : List va_W)) := vD_perm hD ((bP (List.Perm.refl _)).trans (List.Perm.append_right _ (List.perm_middle (a := (((p0a 7), .inl ((p0k 7), 250, .inl (o_9 7))) : Nat × va_E)) (l₁ := ([((p0a 0), .inr (7, [.ref (p0a 1), .ref (p0a 2), .ref (p0a 3), .ref (p0a 4), .ref (p0a 5), .ref (p0a 6), .ref (p0a 7), .long (p0l 0 7), .ref (p0a 9), .ref (p0a 10), .int (o_9 0 10), .ref (p0a 12)])), ((p0a 2), .inl ((p0k 2), 250, .inl (o_9 2))), ((p0a 3), .inl ((p0k 3), 250, .inl (o_9 3))), ((p0a 4), .inl ((p0k 4), 250, .inl (o_9 4))), ((p0a 5), .inl ((p0k 5), 250, .inl (o_9 5))), ((p0a 6), .inl ((p0k 6), 250, .inl (o_9 6)))] : va_W)) (l₂ := ([((p0a 9), .inl ((p0k 9), 250, .inl (o_9 9))), ((p0a 10), .inl ((p0k 10), 250, .inl (o_9 10))), ((p0a 12), .inl ((p0k 12), 60, .inl (o_9 12)))] : va_W)))))
  have hK2 : va_K (dC, dI) cls (List.flatten ([[((p0k 7), .int)], [((p0k 2), .int), ((p0k 3), .int), ((p0k 4), .int), ((p0k 5), .int), ((p0k 6), .int), ((p0k 9), .int), ((p0k 10), .int), ((p0k 12), .int)], (tX1 p1k), (tX9 p1_2k)] : List (List (ClassId × FieldType)))) s := vK_perm hK ((bP (List.Perm.refl _)).trans (List.Perm.append_right _ (List.perm_middle (a := (((p0k 7), .int) : ClassId × FieldType)) (l₁ := ([((p0k 2), .int), ((p0k 3), .int), ((p0k 4), .int), ((p0k 5), .int), ((p0k 6), .int)] : List (ClassId × FieldType))) (l₂ := ([((p0k 9), .int), ((p0k 10), .int), ((p0k 12), .int)] : List (ClassId × FieldType))))))
  have hPx : va_P (dC, dI) cls ((List.flatten ([(oX1 (p1a 0) p1a p1k p1n p1w p1l), (oX9 (p1a 3) p1_2a p1_2k p1_2n p1_2w), [((p0a 7), .inl ((p0k 7), 250, .inl (o_9 7)))]] : List va_W)) ++ (List.flatten ([[((p0a 0), .inr (7, [.ref (p0a 1), .ref (p0a 2), .ref (p0a 3), .ref (p0a 4), .ref (p0a 5), .ref (p0a 6), .ref (p0a 7), .long (p0l 0 7), .ref (p0a 9), .ref (p0a 10), .int (o_9 0 10), .ref (p0a 12)])), ((p0a 2), .inl ((p0k 2), 250, .inl (o_9 2))), ((p0a 3), .inl ((p0k 3), 250, .inl (o_9 3))), ((p0a 4), .inl ((p0k 4), 250, .inl (o_9 4))), ((p0a 5), .inl ((p0k 5), 250, .inl (o_9 5))), ((p0a 6), .inl ((p0k 6), 250, .inl (o_9 6))), ((p0a 9), .inl ((p0k 9), 250, .inl (o_9 9))), ((p0a 10), .inl ((p0k 10), 250, .inl (o_9 10))), ((p0a 12), .inl ((p0k 12), 60, .inl (o_9 12)))]] : List va_W))) H := vP_fa (vP_perm hP2 (bP (((((((((List.Perm.refl _)).cons _).trans (List.Perm.swap _ _ _))).cons _).trans (List.Perm.swap _ _ _))).trans (((((((((List.Perm.refl _)).cons _).trans (List.Perm.swap _ _ _))).cons _).trans (List.Perm.swap _ _ _))).cons _))))
  have hDx : va_D A ((List.flatten ([(oX1 (p1a 0) p1a p1k p1n p1w p1l), (oX9 (p1a 3) p1_2a p1_2k p1_2n p1_2w), [((p0a 7), .inl ((p0k 7), 250, .inl (o_9 7)))]] : List va_W)) ++ (List.flatten ([[((p0a 0), .inr (7, [.ref (p0a 1), .ref (p0a 2), .ref (p0a 3), .ref (p0a 4), .ref (p0a 5), .ref (p0a 6), .ref (p0a 7), .long (p0l 0 7), .ref (p0a 9), .ref (p0a 10), .int (o_9 0 10), .ref (p0a 12)])), ((p0a 2), .inl ((p0k 2), 250, .inl (o_9 2))), ((p0a 3), .inl ((p0k 3), 250, .inl (o_9 3))), ((p0a 4), .inl ((p0k 4), 250, .inl (o_9 4))), ((p0a 5), .inl ((p0k 5), 250, .inl (o_9 5))), ((p0a 6), .inl ((p0k 6), 250, .inl (o_9 6))), ((p0a 9), .inl ((p0k 9), 250, .inl (o_9 9))), ((p0a 10), .inl ((p0k 10), 250, .inl (o_9 10))), ((p0a 12), .inl ((p0k 12), 60, .inl (o_9 12)))]] : List va_W))) := vD_fa (vD_perm hD2 (bP (((((((((List.Perm.refl _)).cons _).trans (List.Perm.swap _ _ _))).cons _).trans (List.Perm.swap _ _ _))).trans (((((((((List.Perm.refl _)).cons _).trans (List.Perm.swap _ _ _))).cons _).trans (List.Perm.swap _ _ _))).cons _))))
  have hKx : va_K (dC, dI) cls ((List.flatten ([(tX1 p1k), (tX9 p1_2k), [((p0k 7), .int)]] : List (List (ClassId × FieldType)))) ++ (List.flatten ([[((p0k 2), .int), ((p0k 3), .int), ((p0k 4), .int), ((p0k 5), .int), ((p0k 6), .int), ((p0k 9), .int), ((p0k 10), .int), ((p0k 12), .int)]] : List (List (ClassId × FieldType))))) s := vK_fa (vK_perm hK2 (bP (((((((((List.Perm.refl _)).cons _).trans (List.Perm.swap _ _ _))).cons _).trans (List.Perm.swap _ _ _))).trans (((((((((List.Perm.refl _)).cons _).trans (List.Perm.swap _ _ _))).cons _).trans (List.Perm.swap _ _ _))).cons _))))
  have hPc := vP_l hPx
  have hDc := vD_l hDx
  have hKc := vK_l hKx
  have hFc := vfree hDx hS hA
  refine va_callv (va_runV (As := [.ref (p0a 7)]) (rest := []) ⟨hx, hb, hml, hown, hts⟩ (kX1_leaveOut l dC dI (p0a := p1a) (p0k := p1k) (p0n := p1n) (p0w := p1w) (p0l := p1l) (p1a := (p0a 7)) (p1k := (p0k 7)) (p1n := 250) (p1f := (o_9 7)) (p0_2a := p1_2a) (p0_2k := p1_2k) (p0_2n := p1_2n) (p0_2w := p1_2w) (sz := _) (o := o_12) (hrun := hc_12)) (cwV 1 hts (gi_V qw485 qw486 qw487 qw126 (gi_z qw484)) rfl rfl rfl (by decide +kernel) ⟨Nat.le_of_ble_eq_true rfl, Nat.le_of_ble_eq_true rfl⟩) ⟨PRE.blind, va_recv hKc hPc (ci := 4) (q0 := 0) rfl rfl, PRE.of hE hS hFc hPc hKc hDc⟩ rfl rfl hl.1 rfl (lv_room (Nat.le_of_ble_eq_true rfl)) dX5_dropUnwanted_81 ⟨(Nat.le_of_ble_eq_true rfl), (Nat.le_of_ble_eq_true rfl)⟩) hS (fun q _ h => hFc q h) hFc (fun u t H locs ht hvm hw hB hz1 hk1 hS => ?_)
  obtain ⟨b1, b2, b3⟩ := hB
  rw [ht] at b1
  obtain ⟨hP, hD, hK⟩ := JOINC (wc := (List.flatten ([(oX1 (p1a 0) p1a p1k p1n p1w p1l), (oX9 (p1a 3) p1_2a p1_2k p1_2n p1_2w), [((p0a 7), .inl ((p0k 7), 250, .inl (o_9 7)))]] : List va_W))) (wr := (List.flatten ([[((p0a 0), .inr (7, [.ref (p0a 1), .ref (p0a 2), .ref (p0a 3), .ref (p0a 4), .ref (p0a 5), .ref (p0a 6), .ref (p0a 7), .long (p0l 0 7), .ref (p0a 9), .ref (p0a 10), .int (o_9 0 10), .ref (p0a 12)])), ((p0a 2), .inl ((p0k 2), 250, .inl (o_9 2))), ((p0a 3), .inl ((p0k 3), 250, .inl (o_9 3))), ((p0a 4), .inl ((p0k 4), 250, .inl (o_9 4))), ((p0a 5), .inl ((p0k 5), 250, .inl (o_9 5))), ((p0a 6), .inl ((p0k 6), 250, .inl (o_9 6))), ((p0a 9), .inl ((p0k 9), 250, .inl (o_9 9))), ((p0a 10), .inl ((p0k 10), 250, .inl (o_9 10))), ((p0a 12), .inl ((p0k 12), 60, .inl (o_9 12)))]] : List va_W))) (w1 := (List.flatten ([(oX1 (p1a 0) p1a p1k p1n (o_12.1) p1l), (oX9 (p1a 3) p1_2a p1_2k p1_2n (o_12.2)), [((p0a 7), .inl ((p0k 7), 250, .inl (o_9 7)))]] : List va_W))) (t1 := (List.flatten ([(tX1 p1k), (tX9 p1_2k), [((p0k 7), .int)]] : List (List (ClassId × FieldType))))) hPx hDx hKx hk1 hFc b1 (va_K.moved hvm.symm b2) b3
  have hP3 : va_P (dC, dI) cls (List.flatten ([(oX5 (p0a 0) p0a p0k o_9 p0l), (oX1 (p1a 0) p1a p1k p1n (o_12.1) p1l), (oX9 (p1a 3) p1_2a p1_2k p1_2n (o_12.2))] : List va_W)) H := vP_perm (vP_fb hP) ((bP (((((((((List.Perm.refl _)).cons _).trans (List.Perm.swap _ _ _))).cons _).trans (List.Perm.swap _ _ _))).trans (((((((((List.Perm.refl _)).cons _).trans (List.Perm.swap _ _ _))).cons _).trans (List.Perm.swap _ _ _))).cons _))).trans (List.Perm.append_right _ (List.perm_middle (a := (((p0a 7), .inl ((p0k 7), 250, .inl (o_9 7))) : Nat × va_E)) (l₁ := ([((p0a 0), .inr (7, [.ref (p0a 1), .ref (p0a 2), .ref (p0a 3), .ref (p0a 4), .ref (p0a 5), .ref (p0a 6), .ref (p0a 7), .long (p0l 0 7), .ref (p0a 9), .ref (p0a 10), .int (o_9 0 10), .ref (p0a 12)])), ((p0a 2), .inl ((p0k 2), 250, .inl (o_9 2))), ((p0a 3), .inl ((p0k 3), 250, .inl (o_9 3))), ((p0a 4), .inl ((p0k 4), 250, .inl (o_9 4))), ((p0a 5), .inl ((p0k 5), 250, .inl (o_9 5))), ((p0a 6), .inl ((p0k 6), 250, .inl (o_9 6)))] : va_W)) (l₂ := ([((p0a 9), .inl ((p0k 9), 250, .inl (o_9 9))), ((p0a 10), .inl ((p0k 10), 250, .inl (o_9 10))), ((p0a 12), .inl ((p0k 12), 60, .inl (o_9 12)))] : va_W))).symm))
  have hD3 : va_D A (List.flatten ([(oX5 (p0a 0) p0a p0k o_9 p0l), (oX1 (p1a 0) p1a p1k p1n (o_12.1) p1l), (oX9 (p1a 3) p1_2a p1_2k p1_2n (o_12.2))] : List va_W)) := vD_perm (vD_fb hD) ((bP (((((((((List.Perm.refl _)).cons _).trans (List.Perm.swap _ _ _))).cons _).trans (List.Perm.swap _ _ _))).trans (((((((((List.Perm.refl _)).cons _).trans (List.Perm.swap _ _ _))).cons _).trans (List.Perm.swap _ _ _))).cons _))).trans (List.Perm.append_right _ (List.perm_middle (a := (((p0a 7), .inl ((p0k 7), 250, .inl (o_9 7))) : Nat × va_E)) (l₁ := ([((p0a 0), .inr (7, [.ref (p0a 1), .ref (p0a 2), .ref (p0a 3), .ref (p0a 4), .ref (p0a 5), .ref (p0a 6), .ref (p0a 7), .long (p0l 0 7), .ref (p0a 9), .ref (p0a 10), .int (o_9 0 10), .ref (p0a 12)])), ((p0a 2), .inl ((p0k 2), 250, .inl (o_9 2))), ((p0a 3), .inl ((p0k 3), 250, .inl (o_9 3))), ((p0a 4), .inl ((p0k 4), 250, .inl (o_9 4))), ((p0a 5), .inl ((p0k 5), 250, .inl (o_9 5))), ((p0a 6), .inl ((p0k 6), 250, .inl (o_9 6)))] : va_W)) (l₂ := ([((p0a 9), .inl ((p0k 9), 250, .inl (o_9 9))), ((p0a 10), .inl ((p0k 10), 250, .inl (o_9 10))), ((p0a 12), .inl ((p0k 12), 60, .inl (o_9 12)))] : va_W))).symm))
  have hK3 : va_K (dC, dI) cls (List.flatten ([(tX5 p0k), (tX1 p1k), (tX9 p1_2k)] : List (List (ClassId × FieldType)))) s := vK_perm (vK_fb hK) ((bP (((((((((List.Perm.refl _)).cons _).trans (List.Perm.swap _ _ _))).cons _).trans (List.Perm.swap _ _ _))).trans (((((((((List.Perm.refl _)).cons _).trans (List.Perm.swap _ _ _))).cons _).trans (List.Perm.swap _ _ _))).cons _))).trans (List.Perm.append_right _ (List.perm_middle (a := (((p0k 7), .int) : ClassId × FieldType)) (l₁ := ([((p0k 2), .int), ((p0k 3), .int), ((p0k 4), .int), ((p0k 5), .int), ((p0k 6), .int)] : List (ClassId × FieldType))) (l₂ := ([((p0k 9), .int), ((p0k 10), .int), ((p0k 12), .int)] : List (ClassId × FieldType)))).symm))
  have hP : va_P (dC, dI) cls (List.flatten ([(oX5 (p0a 0) p0a p0k o_9 p0l), (oX1 (p1a 0) p1a p1k p1n (o_12.1) p1l), (oX9 (p1a 3) p1_2a p1_2k p1_2n (o_12.2))] : List va_W)) H := vP_perm hP3 (bP (List.Perm.refl _))
  have hD : va_D A (List.flatten ([(oX5 (p0a 0) p0a p0k o_9 p0l), (oX1 (p1a 0) p1a p1k p1n (o_12.1) p1l), (oX9 (p1a 3) p1_2a p1_2k p1_2n (o_12.2))] : List va_W)) := vD_perm hD3 (bP (List.Perm.refl _))
  have hK : va_K (dC, dI) cls (List.flatten ([(tX5 p0k), (tX1 p1k), (tX9 p1_2k)] : List (List (ClassId × FieldType)))) s := vK_perm hK3 (bP (List.Perm.refl _))
  refine lv_iload_n hx hb dX5_dropUnwanted_84 rfl (lv_at hl 0 rfl) ?_
  refine lv_aload_n hx hb dX5_dropUnwanted_85 rfl (lv_at hl 2 rfl) ?_
  obtain ⟨o_13, hc_13, hrun⟩ := bnd9 hrun
  have hPx : va_P (dC, dI) cls ((List.flatten ([(oX1 (p1a 0) p1a p1k p1n (o_12.1) p1l), (oX9 (p1a 3) p1_2a p1_2k p1_2n (o_12.2))] : List va_W)) ++ (List.flatten ([(oX5 (p0a 0) p0a p0k o_9 p0l)] : List va_W))) H := vP_fa (vP_perm hP (bP ((((((List.Perm.refl _)).cons _).trans (List.Perm.swap _ _ _))).trans ((((((List.Perm.refl _)).cons _).trans (List.Perm.swap _ _ _))).cons _))))
  have hDx : va_D A ((List.flatten ([(oX1 (p1a 0) p1a p1k p1n (o_12.1) p1l), (oX9 (p1a 3) p1_2a p1_2k p1_2n (o_12.2))] : List va_W)) ++ (List.flatten ([(oX5 (p0a 0) p0a p0k o_9 p0l)] : List va_W))) := vD_fa (vD_perm hD (bP ((((((List.Perm.refl _)).cons _).trans (List.Perm.swap _ _ _))).trans ((((((List.Perm.refl _)).cons _).trans (List.Perm.swap _ _ _))).cons _))))
  have hKx : va_K (dC, dI) cls ((List.flatten ([(tX1 p1k), (tX9 p1_2k)] : List (List (ClassId × FieldType)))) ++ (List.flatten ([(tX5 p0k)] : List (List (ClassId × FieldType))))) s := vK_fa (vK_perm hK (bP ((((((List.Perm.refl _)).cons _).trans (List.Perm.swap _ _ _))).trans ((((((List.Perm.refl _)).cons _).trans (List.Perm.swap _ _ _))).cons _))))
  have hPc := vP_l hPx
  have hDc := vD_l hDx
  have hKc := vK_l hKx
  have hFc := vfree hDx hS hA
  refine va_calli (va_runV (As := []) (rest := [.int o_10]) ⟨hx, hb, hml, hown, hts⟩ (kX1_countValues l dC dI (p0a := p1a) (p0k := p1k) (p0n := p1n) (p0w := (o_12.1)) (p0l := p1l) (p0_2a := p1_2a) (p0_2k := p1_2k) (p0_2n := p1_2n) (p0_2w := (o_12.2)) (sz := _) (o := o_13) (hrun := hc_13)) (cwV 0 hts (gi_V qw481 qw482 qw483 qw126 (gi_z qw480)) rfl rfl rfl (by decide +kernel) ⟨Nat.le_of_ble_eq_true rfl, Nat.le_of_ble_eq_true rfl⟩) ⟨PRE.blind, va_recv hKc hPc (ci := 4) (q0 := 0) rfl rfl, PRE.of hE hS hFc hPc hKc hDc⟩ rfl rfl hl.1 rfl (lv_room (Nat.le_of_ble_eq_true rfl)) dX5_dropUnwanted_86 ⟨(Nat.le_of_ble_eq_true rfl), (Nat.le_of_ble_eq_true rfl)⟩) hS (fun q _ h => hFc q h) hFc (fun r14 u t H locs ht hvm hw hB hz1 hk1 hS => ?_)
  obtain ⟨b1, b2, b3⟩ := hB
  rw [ht] at b1
  obtain ⟨hP, hD, hK⟩ := JOINC (wc := (List.flatten ([(oX1 (p1a 0) p1a p1k p1n (o_12.1) p1l), (oX9 (p1a 3) p1_2a p1_2k p1_2n (o_12.2))] : List va_W))) (wr := (List.flatten ([(oX5 (p0a 0) p0a p0k o_9 p0l)] : List va_W))) (w1 := (List.flatten ([(oX1 (p1a 0) p1a p1k p1n (o_12.1) p1l), (oX9 (p1a 3) p1_2a p1_2k p1_2n (o_12.2))] : List va_W))) (t1 := (List.flatten ([(tX1 p1k), (tX9 p1_2k)] : List (List (ClassId × FieldType))))) hPx hDx hKx hk1 hFc b1 (va_K.moved hvm.symm b2) b3
  have hP : va_P (dC, dI) cls (List.flatten ([(oX5 (p0a 0) p0a p0k o_9 p0l), (oX1 (p1a 0) p1a p1k p1n (o_12.1) p1l), (oX9 (p1a 3) p1_2a p1_2k p1_2n (o_12.2))] : List va_W)) H := vP_perm (vP_fb hP) (bP (((((((List.Perm.refl _)).cons _).trans (List.Perm.swap _ _ _))).cons _).trans (List.Perm.swap _ _ _)))
  have hD : va_D A (List.flatten ([(oX5 (p0a 0) p0a p0k o_9 p0l), (oX1 (p1a 0) p1a p1k p1n (o_12.1) p1l), (oX9 (p1a 3) p1_2a p1_2k p1_2n (o_12.2))] : List va_W)) := vD_perm (vD_fb hD) (bP (((((((List.Perm.refl _)).cons _).trans (List.Perm.swap _ _ _))).cons _).trans (List.Perm.swap _ _ _)))
  have hK : va_K (dC, dI) cls (List.flatten ([(tX5 p0k), (tX1 p1k), (tX9 p1_2k)] : List (List (ClassId × FieldType)))) s := vK_perm (vK_fb hK) (bP (((((((List.Perm.refl _)).cons _).trans (List.Perm.swap _ _ _))).cons _).trans (List.Perm.swap _ _ _)))
  obtain rfl : o_13 = r14 := hw.symm
  refine lv_isub hx hb dX5_dropUnwanted_89 ?_
  have ho9 : ((o_10 - o_13), o_9, (o_12.1), (o_12.2)) = o := Option.some.inj hrun
  have hP9 : va_P (dC, dI) cls (List.flatten ([(oX5 (p0a 0) p0a p0k (o.2.1) p0l), (oX1 (p1a 0) p1a p1k p1n (o.2.2.1) p1l), (oX9 (p1a 3) p1_2a p1_2k p1_2n (o.2.2.2))] : List va_W)) H := by first | exact hP | (rw [← ho9]; exact hP)
  have hD9 : va_D A (List.flatten ([(oX5 (p0a 0) p0a p0k (o.2.1) p0l), (oX1 (p1a 0) p1a p1k p1n (o.2.2.1) p1l), (oX9 (p1a 3) p1_2a p1_2k p1_2n (o.2.2.2))] : List va_W)) := by first | exact hD | (rw [← ho9]; exact hD)
  subst hQ
  exact W.iret (v := (o_10 - o_13)) hx hb hr (fun t ht hW => ⟨⟨(o_10 - o_13), (), rfl, (by rw [← ho9]), ⟨by rw [ht]; exact hP9, va_K.moved hW.alike hK, hD9⟩⟩, hS.F ht⟩) hS.2.2 dX5_dropUnwanted_90
