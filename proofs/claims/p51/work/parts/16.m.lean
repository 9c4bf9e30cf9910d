abbrev cX5_mergeBlocks : ByteArray := prog_7_method_38_code
def yX5_mergeBlocks : MethodName := ⟨RX5, "mergeBlocks", "(LGearbox$Flow;)I"⟩
abbrev cX0_endLines : ByteArray := prog_2_method_15_code
def yX0_endLines : MethodName := ⟨RX0, "endLines", "(I)I"⟩
abbrev cX0_fetch : ByteArray := prog_2_method_12_code
def yX0_fetch : MethodName := ⟨RX0, "fetch", "(II)I"⟩
abbrev cX0_findSlot : ByteArray := prog_2_method_10_code
def yX0_findSlot : MethodName := ⟨RX0, "findSlot", "(I)V"⟩
abbrev cX0_firstFree : ByteArray := prog_2_method_5_code
def yX0_firstFree : MethodName := ⟨RX0, "firstFree", "(I)I"⟩
abbrev cX0_isIdle : ByteArray := prog_2_method_14_code
def yX0_isIdle : MethodName := ⟨RX0, "isIdle", "(I)Z"⟩
abbrev cX0_putCopies : ByteArray := prog_2_method_4_code
def yX0_putCopies : MethodName := ⟨RX0, "putCopies", "(II)V"⟩
abbrev cX0_saveFirst : ByteArray := prog_2_method_6_code
def yX0_saveFirst : MethodName := ⟨RX0, "saveFirst", "(II)V"⟩
abbrev cX2_makeRoom : ByteArray := prog_4_method_3_code
def yX2_makeRoom : MethodName := ⟨RX2, "makeRoom", "(I)V"⟩
abbrev cX11_atLeast_ : ByteArray := prog_1_method_72_code
def yX11_atLeast_ : MethodName := ⟨RX11, "atLeast", "([JI)[J"⟩
abbrev cJ7_copyOf_c38d5 : ByteArray := prog_48_method_124_code
def yJ7_copyOf_c38d5 : MethodName := ⟨RJ7, "copyOf", "([JI)[J"⟩
theorem dJ7_copyOf_c38d5_0 : decode cJ7_copyOf_c38d5 0 = .ok (.iload_n 1, 1) := by decide +kernel
theorem dJ7_copyOf_c38d5_1 : decode cJ7_copyOf_c38d5 1 = .ok (.aload_n 0, 1) := by decide +kernel
theorem dJ7_copyOf_c38d5_2 : decode cJ7_copyOf_c38d5 2 = .ok (.arraylength, 1) := by decide +kernel
theorem dJ7_copyOf_c38d5_3 : decode cJ7_copyOf_c38d5 3 = .ok (.if_icmp .ne 11, 3) := by decide +kernel
theorem dJ7_copyOf_c38d5_6 : decode cJ7_copyOf_c38d5 6 = .ok (.aload_n 0, 1) := by decide +kernel
theorem dJ7_copyOf_c38d5_14 : decode cJ7_copyOf_c38d5 14 = .ok (.iload_n 1, 1) := by decide +kernel
theorem dJ7_copyOf_c38d5_15 : decode cJ7_copyOf_c38d5 15 = .ok (.newarray .long, 2) := by decide +kernel
theorem dJ7_copyOf_c38d5_17 : decode cJ7_copyOf_c38d5 17 = .ok (.astore_n 2, 1) := by decide +kernel
theorem dJ7_copyOf_c38d5_18 : decode cJ7_copyOf_c38d5 18 = .ok (.aload_n 0, 1) := by decide +kernel
theorem dJ7_copyOf_c38d5_19 : decode cJ7_copyOf_c38d5 19 = .ok (.iconst 0, 1) := by decide +kernel
theorem dJ7_copyOf_c38d5_20 : decode cJ7_copyOf_c38d5 20 = .ok (.aload_n 2, 1) := by decide +kernel
theorem dJ7_copyOf_c38d5_21 : decode cJ7_copyOf_c38d5 21 = .ok (.iconst 0, 1) := by decide +kernel
theorem dJ7_copyOf_c38d5_22 : decode cJ7_copyOf_c38d5 22 = .ok (.aload_n 0, 1) := by decide +kernel
theorem dJ7_copyOf_c38d5_23 : decode cJ7_copyOf_c38d5 23 = .ok (.arraylength, 1) := by decide +kernel
theorem dJ7_copyOf_c38d5_24 : decode cJ7_copyOf_c38d5 24 = .ok (.iload_n 1, 1) := by decide +kernel
theorem dJ7_copyOf_c38d5_25 : decode cJ7_copyOf_c38d5 25 = .ok (.invokestatic 304, 3) := by decide +kernel
theorem dJ7_copyOf_c38d5_28 : decode cJ7_copyOf_c38d5 28 = .ok (.invokestatic 150, 3) := by decide +kernel
theorem dJ7_copyOf_c38d5_31 : decode cJ7_copyOf_c38d5 31 = .ok (.aload_n 2, 1) := by decide +kernel
theorem dJ7_copyOf_c38d5_32 : decode cJ7_copyOf_c38d5 32 = .ok (.areturn, 1) := by decide +kernel
theorem dX0_endLines_0 : decode cX0_endLines 0 = .ok (.iload_n 1, 1) := by decide +kernel
theorem dX0_endLines_1 : decode cX0_endLines 1 = .ok (.iconst 1, 1) := by decide +kernel
theorem dX0_endLines_2 : decode cX0_endLines 2 = .ok (.iadd, 1) := by decide +kernel
theorem dX0_endLines_3 : decode cX0_endLines 3 = .ok (.istore_n 2, 1) := by decide +kernel
theorem dX0_endLines_4 : decode cX0_endLines 4 = .ok (.aload_n 0, 1) := by decide +kernel
theorem dX0_endLines_5 : decode cX0_endLines 5 = .ok (.getfield 12, 3) := by decide +kernel
theorem dX0_endLines_8 : decode cX0_endLines 8 = .ok (.getfield 241, 3) := by decide +kernel
theorem dX0_endLines_11 : decode cX0_endLines 11 = .ok (.iload_n 1, 1) := by decide +kernel
theorem dX0_endLines_12 : decode cX0_endLines 12 = .ok (.iaload, 1) := by decide +kernel
theorem dX0_endLines_13 : decode cX0_endLines 13 = .ok (.bipush 22, 2) := by decide +kernel
theorem dX0_endLines_15 : decode cX0_endLines 15 = .ok (.if_icmp .ne 22, 3) := by decide +kernel
theorem dX0_endLines_18 : decode cX0_endLines 18 = .ok (.aload_n 0, 1) := by decide +kernel
theorem dX0_endLines_19 : decode cX0_endLines 19 = .ok (.getfield 12, 3) := by decide +kernel
theorem dX0_endLines_22 : decode cX0_endLines 22 = .ok (.getfield 244, 3) := by decide +kernel
theorem dX0_endLines_25 : decode cX0_endLines 25 = .ok (.iload_n 1, 1) := by decide +kernel
theorem dX0_endLines_26 : decode cX0_endLines 26 = .ok (.iaload, 1) := by decide +kernel
theorem dX0_endLines_27 : decode cX0_endLines 27 = .ok (.iload_n 2, 1) := by decide +kernel
theorem dX0_endLines_28 : decode cX0_endLines 28 = .ok (.if_icmp .ne 7, 3) := by decide +kernel
theorem dX0_endLines_31 : decode cX0_endLines 31 = .ok (.iconst 0, 1) := by decide +kernel
theorem dX0_endLines_32 : decode cX0_endLines 32 = .ok (.goto 4, 3) := by decide +kernel
theorem dX0_endLines_35 : decode cX0_endLines 35 = .ok (.iconst 1, 1) := by decide +kernel
theorem dX0_endLines_36 : decode cX0_endLines 36 = .ok (.ireturn, 1) := by decide +kernel
theorem dX0_endLines_37 : decode cX0_endLines 37 = .ok (.aload_n 0, 1) := by decide +kernel
theorem dX0_endLines_38 : decode cX0_endLines 38 = .ok (.getfield 12, 3) := by decide +kernel
theorem dX0_endLines_41 : decode cX0_endLines 41 = .ok (.getfield 241, 3) := by decide +kernel
theorem dX0_endLines_44 : decode cX0_endLines 44 = .ok (.iload_n 1, 1) := by decide +kernel
theorem dX0_endLines_45 : decode cX0_endLines 45 = .ok (.iaload, 1) := by decide +kernel
theorem dX0_endLines_46 : decode cX0_endLines 46 = .ok (.bipush 23, 2) := by decide +kernel
theorem dX0_endLines_48 : decode cX0_endLines 48 = .ok (.if_icmp .ne 19, 3) := by decide +kernel
theorem dX0_endLines_51 : decode cX0_endLines 51 = .ok (.aload_n 0, 1) := by decide +kernel
theorem dX0_endLines_52 : decode cX0_endLines 52 = .ok (.getfield 12, 3) := by decide +kernel
theorem dX0_endLines_55 : decode cX0_endLines 55 = .ok (.iload_n 1, 1) := by decide +kernel
theorem dX0_endLines_56 : decode cX0_endLines 56 = .ok (.iload_n 2, 1) := by decide +kernel
theorem dX0_endLines_57 : decode cX0_endLines 57 = .ok (.invokevirtual 247, 3) := by decide +kernel
theorem dX0_endLines_60 : decode cX0_endLines 60 = .ok (.ifCond .ne 7, 3) := by decide +kernel
theorem dX0_endLines_63 : decode cX0_endLines 63 = .ok (.iconst 2, 1) := by decide +kernel
theorem dX0_endLines_64 : decode cX0_endLines 64 = .ok (.goto 4, 3) := by decide +kernel
theorem dX0_endLines_67 : decode cX0_endLines 67 = .ok (.iconst 1, 1) := by decide +kernel
theorem dX0_endLines_68 : decode cX0_endLines 68 = .ok (.ireturn, 1) := by decide +kernel
theorem dX0_fetch_0 : decode cX0_fetch 0 = .ok (.aload_n 0, 1) := by decide +kernel
theorem dX0_fetch_1 : decode cX0_fetch 1 = .ok (.getfield 41, 3) := by decide +kernel
theorem dX0_fetch_4 : decode cX0_fetch 4 = .ok (.iload_n 2, 1) := by decide +kernel
theorem dX0_fetch_5 : decode cX0_fetch 5 = .ok (.iaload, 1) := by decide +kernel
theorem dX0_fetch_6 : decode cX0_fetch 6 = .ok (.bipush (-2), 2) := by decide +kernel
theorem dX0_fetch_8 : decode cX0_fetch 8 = .ok (.if_icmp .ne 27, 3) := by decide +kernel
theorem dX0_fetch_11 : decode cX0_fetch 11 = .ok (.aload_n 0, 1) := by decide +kernel
theorem dX0_fetch_12 : decode cX0_fetch 12 = .ok (.getfield 12, 3) := by decide +kernel
theorem dX0_fetch_15 : decode cX0_fetch 15 = .ok (.iload_n 1, 1) := by decide +kernel
theorem dX0_fetch_16 : decode cX0_fetch 16 = .ok (.iconst 0, 1) := by decide +kernel
theorem dX0_fetch_17 : decode cX0_fetch 17 = .ok (.aload_n 0, 1) := by decide +kernel
theorem dX0_fetch_18 : decode cX0_fetch 18 = .ok (.getfield 90, 3) := by decide +kernel
theorem dX0_fetch_21 : decode cX0_fetch 21 = .ok (.aload_n 0, 1) := by decide +kernel
theorem dX0_fetch_22 : decode cX0_fetch 22 = .ok (.getfield 44, 3) := by decide +kernel
theorem dX0_fetch_25 : decode cX0_fetch 25 = .ok (.iload_n 2, 1) := by decide +kernel
theorem dX0_fetch_26 : decode cX0_fetch 26 = .ok (.iaload, 1) := by decide +kernel
theorem dX0_fetch_27 : decode cX0_fetch 27 = .ok (.iconst (-1), 1) := by decide +kernel
theorem dX0_fetch_28 : decode cX0_fetch 28 = .ok (.invokevirtual 145, 3) := by decide +kernel
theorem dX0_fetch_31 : decode cX0_fetch 31 = .ok (.pop, 1) := by decide +kernel
theorem dX0_fetch_32 : decode cX0_fetch 32 = .ok (.goto 25, 3) := by decide +kernel
theorem dX0_fetch_35 : decode cX0_fetch 35 = .ok (.aload_n 0, 1) := by decide +kernel
theorem dX0_fetch_36 : decode cX0_fetch 36 = .ok (.getfield 12, 3) := by decide +kernel
theorem dX0_fetch_39 : decode cX0_fetch 39 = .ok (.iload_n 1, 1) := by decide +kernel
theorem dX0_fetch_40 : decode cX0_fetch 40 = .ok (.bipush 26, 2) := by decide +kernel
theorem dX0_fetch_42 : decode cX0_fetch 42 = .ok (.aload_n 0, 1) := by decide +kernel
theorem dX0_fetch_43 : decode cX0_fetch 43 = .ok (.getfield 90, 3) := by decide +kernel
theorem dX0_fetch_46 : decode cX0_fetch 46 = .ok (.aload_n 0, 1) := by decide +kernel
theorem dX0_fetch_47 : decode cX0_fetch 47 = .ok (.getfield 41, 3) := by decide +kernel
theorem dX0_fetch_50 : decode cX0_fetch 50 = .ok (.iload_n 2, 1) := by decide +kernel
theorem dX0_fetch_51 : decode cX0_fetch 51 = .ok (.iaload, 1) := by decide +kernel
theorem dX0_fetch_52 : decode cX0_fetch 52 = .ok (.iconst (-1), 1) := by decide +kernel
theorem dX0_fetch_53 : decode cX0_fetch 53 = .ok (.invokevirtual 145, 3) := by decide +kernel
theorem dX0_fetch_56 : decode cX0_fetch 56 = .ok (.pop, 1) := by decide +kernel
theorem dX0_fetch_57 : decode cX0_fetch 57 = .ok (.aload_n 0, 1) := by decide +kernel
theorem dX0_fetch_58 : decode cX0_fetch 58 = .ok (.dup, 1) := by decide +kernel
theorem dX0_fetch_59 : decode cX0_fetch 59 = .ok (.getfield 90, 3) := by decide +kernel
theorem dX0_fetch_62 : decode cX0_fetch 62 = .ok (.iconst 1, 1) := by decide +kernel
theorem dX0_fetch_63 : decode cX0_fetch 63 = .ok (.iadd, 1) := by decide +kernel
theorem dX0_fetch_64 : decode cX0_fetch 64 = .ok (.putfield 90, 3) := by decide +kernel
theorem dX0_fetch_67 : decode cX0_fetch 67 = .ok (.aload_n 0, 1) := by decide +kernel
theorem dX0_fetch_68 : decode cX0_fetch 68 = .ok (.getfield 90, 3) := by decide +kernel
theorem dX0_fetch_71 : decode cX0_fetch 71 = .ok (.iconst 1, 1) := by decide +kernel
theorem dX0_fetch_72 : decode cX0_fetch 72 = .ok (.isub, 1) := by decide +kernel
theorem dX0_fetch_73 : decode cX0_fetch 73 = .ok (.ireturn, 1) := by decide +kernel
theorem dX0_findSlot_0 : decode cX0_findSlot 0 = .ok (.aload_n 0, 1) := by decide +kernel
theorem dX0_findSlot_1 : decode cX0_findSlot 1 = .ok (.getfield 37, 3) := by decide +kernel
theorem dX0_findSlot_4 : decode cX0_findSlot 4 = .ok (.getfield 225, 3) := by decide +kernel
theorem dX0_findSlot_7 : decode cX0_findSlot 7 = .ok (.iload_n 1, 1) := by decide +kernel
theorem dX0_findSlot_8 : decode cX0_findSlot 8 = .ok (.iaload, 1) := by decide +kernel
theorem dX0_findSlot_9 : decode cX0_findSlot 9 = .ok (.istore_n 2, 1) := by decide +kernel
theorem dX0_findSlot_10 : decode cX0_findSlot 10 = .ok (.aload_n 0, 1) := by decide +kernel
theorem dX0_findSlot_11 : decode cX0_findSlot 11 = .ok (.getfield 37, 3) := by decide +kernel
theorem dX0_findSlot_14 : decode cX0_findSlot 14 = .ok (.getfield 209, 3) := by decide +kernel
theorem dX0_findSlot_17 : decode cX0_findSlot 17 = .ok (.iload_n 1, 1) := by decide +kernel
theorem dX0_findSlot_18 : decode cX0_findSlot 18 = .ok (.iaload, 1) := by decide +kernel
theorem dX0_findSlot_19 : decode cX0_findSlot 19 = .ok (.iconst 1, 1) := by decide +kernel
theorem dX0_findSlot_20 : decode cX0_findSlot 20 = .ok (.if_icmp .ne 47, 3) := by decide +kernel
theorem dX0_findSlot_23 : decode cX0_findSlot 23 = .ok (.aload_n 0, 1) := by decide +kernel
theorem dX0_findSlot_24 : decode cX0_findSlot 24 = .ok (.getfield 12, 3) := by decide +kernel
theorem dX0_findSlot_27 : decode cX0_findSlot 27 = .ok (.getfield 155, 3) := by decide +kernel
theorem dX0_findSlot_30 : decode cX0_findSlot 30 = .ok (.getfield 159, 3) := by decide +kernel
theorem dX0_findSlot_33 : decode cX0_findSlot 33 = .ok (.iload_n 2, 1) := by decide +kernel
theorem dX0_findSlot_34 : decode cX0_findSlot 34 = .ok (.iaload, 1) := by decide +kernel
theorem dX0_findSlot_35 : decode cX0_findSlot 35 = .ok (.ifCond .ne 32, 3) := by decide +kernel
theorem dX0_findSlot_38 : decode cX0_findSlot 38 = .ok (.aload_n 0, 1) := by decide +kernel
theorem dX0_findSlot_39 : decode cX0_findSlot 39 = .ok (.getfield 41, 3) := by decide +kernel
theorem dX0_findSlot_42 : decode cX0_findSlot 42 = .ok (.iload_n 1, 1) := by decide +kernel
theorem dX0_findSlot_43 : decode cX0_findSlot 43 = .ok (.bipush (-2), 2) := by decide +kernel
theorem dX0_findSlot_45 : decode cX0_findSlot 45 = .ok (.iastore, 1) := by decide +kernel
theorem dX0_findSlot_46 : decode cX0_findSlot 46 = .ok (.aload_n 0, 1) := by decide +kernel
theorem dX0_findSlot_47 : decode cX0_findSlot 47 = .ok (.getfield 44, 3) := by decide +kernel
theorem dX0_findSlot_50 : decode cX0_findSlot 50 = .ok (.iload_n 1, 1) := by decide +kernel
theorem dX0_findSlot_51 : decode cX0_findSlot 51 = .ok (.aload_n 0, 1) := by decide +kernel
theorem dX0_findSlot_52 : decode cX0_findSlot 52 = .ok (.getfield 12, 3) := by decide +kernel
theorem dX0_findSlot_55 : decode cX0_findSlot 55 = .ok (.getfield 155, 3) := by decide +kernel
theorem dX0_findSlot_58 : decode cX0_findSlot 58 = .ok (.getfield 165, 3) := by decide +kernel
theorem dX0_findSlot_61 : decode cX0_findSlot 61 = .ok (.iload_n 2, 1) := by decide +kernel
theorem dX0_findSlot_62 : decode cX0_findSlot 62 = .ok (.iaload, 1) := by decide +kernel
theorem dX0_findSlot_63 : decode cX0_findSlot 63 = .ok (.iastore, 1) := by decide +kernel
theorem dX0_findSlot_64 : decode cX0_findSlot 64 = .ok (.goto 23, 3) := by decide +kernel
theorem dX0_findSlot_67 : decode cX0_findSlot 67 = .ok (.aload_n 0, 1) := by decide +kernel
theorem dX0_findSlot_68 : decode cX0_findSlot 68 = .ok (.getfield 41, 3) := by decide +kernel
theorem dX0_findSlot_71 : decode cX0_findSlot 71 = .ok (.iload_n 1, 1) := by decide +kernel
theorem dX0_findSlot_72 : decode cX0_findSlot 72 = .ok (.aload_n 0, 1) := by decide +kernel
theorem dX0_findSlot_73 : decode cX0_findSlot 73 = .ok (.getfield 71, 3) := by decide +kernel
theorem dX0_findSlot_76 : decode cX0_findSlot 76 = .ok (.iastore, 1) := by decide +kernel
theorem dX0_findSlot_77 : decode cX0_findSlot 77 = .ok (.aload_n 0, 1) := by decide +kernel
theorem dX0_findSlot_78 : decode cX0_findSlot 78 = .ok (.dup, 1) := by decide +kernel
theorem dX0_findSlot_79 : decode cX0_findSlot 79 = .ok (.getfield 71, 3) := by decide +kernel
theorem dX0_findSlot_82 : decode cX0_findSlot 82 = .ok (.iconst 1, 1) := by decide +kernel
theorem dX0_findSlot_83 : decode cX0_findSlot 83 = .ok (.iadd, 1) := by decide +kernel
theorem dX0_findSlot_84 : decode cX0_findSlot 84 = .ok (.putfield 71, 3) := by decide +kernel
theorem dX0_findSlot_87 : decode cX0_findSlot 87 = .ok (.return_, 1) := by decide +kernel
theorem dX0_firstFree_0 : decode cX0_firstFree 0 = .ok (.iconst 0, 1) := by decide +kernel
theorem dX0_firstFree_1 : decode cX0_firstFree 1 = .ok (.istore_n 2, 1) := by decide +kernel
theorem dX0_firstFree_2 : decode cX0_firstFree 2 = .ok (.iload_n 2, 1) := by decide +kernel
theorem dX0_firstFree_3 : decode cX0_firstFree 3 = .ok (.iload_n 1, 1) := by decide +kernel
theorem dX0_firstFree_4 : decode cX0_firstFree 4 = .ok (.if_icmp .ge 58, 3) := by decide +kernel
theorem dX0_firstFree_7 : decode cX0_firstFree 7 = .ok (.iconst 0, 1) := by decide +kernel
theorem dX0_firstFree_8 : decode cX0_firstFree 8 = .ok (.istore_n 3, 1) := by decide +kernel
theorem dX0_firstFree_9 : decode cX0_firstFree 9 = .ok (.iconst 0, 1) := by decide +kernel
theorem dX0_firstFree_10 : decode cX0_firstFree 10 = .ok (.istore 4, 2) := by decide +kernel
theorem dX0_firstFree_12 : decode cX0_firstFree 12 = .ok (.iload 4, 2) := by decide +kernel
theorem dX0_firstFree_14 : decode cX0_firstFree 14 = .ok (.iload_n 1, 1) := by decide +kernel
theorem dX0_firstFree_15 : decode cX0_firstFree 15 = .ok (.if_icmp .ge 35, 3) := by decide +kernel
theorem dX0_firstFree_18 : decode cX0_firstFree 18 = .ok (.iload_n 3, 1) := by decide +kernel
theorem dX0_firstFree_19 : decode cX0_firstFree 19 = .ok (.ifCond .ne 19, 3) := by decide +kernel
theorem dX0_firstFree_22 : decode cX0_firstFree 22 = .ok (.aload_n 0, 1) := by decide +kernel
theorem dX0_firstFree_23 : decode cX0_firstFree 23 = .ok (.getfield 50, 3) := by decide +kernel
theorem dX0_firstFree_26 : decode cX0_firstFree 26 = .ok (.iload 4, 2) := by decide +kernel
theorem dX0_firstFree_28 : decode cX0_firstFree 28 = .ok (.iaload, 1) := by decide +kernel
theorem dX0_firstFree_29 : decode cX0_firstFree 29 = .ok (.aload_n 0, 1) := by decide +kernel
theorem dX0_firstFree_30 : decode cX0_firstFree 30 = .ok (.getfield 47, 3) := by decide +kernel
theorem dX0_firstFree_33 : decode cX0_firstFree 33 = .ok (.iload_n 2, 1) := by decide +kernel
theorem dX0_firstFree_34 : decode cX0_firstFree 34 = .ok (.iaload, 1) := by decide +kernel
theorem dX0_firstFree_35 : decode cX0_firstFree 35 = .ok (.if_icmp .ne 7, 3) := by decide +kernel
theorem dX0_firstFree_38 : decode cX0_firstFree 38 = .ok (.iconst 1, 1) := by decide +kernel
theorem dX0_firstFree_39 : decode cX0_firstFree 39 = .ok (.goto 4, 3) := by decide +kernel
theorem dX0_firstFree_42 : decode cX0_firstFree 42 = .ok (.iconst 0, 1) := by decide +kernel
theorem dX0_firstFree_43 : decode cX0_firstFree 43 = .ok (.istore_n 3, 1) := by decide +kernel
theorem dX0_firstFree_44 : decode cX0_firstFree 44 = .ok (.iinc 4 1, 3) := by decide +kernel
theorem dX0_firstFree_47 : decode cX0_firstFree 47 = .ok (.goto (-35), 3) := by decide +kernel
theorem dX0_firstFree_50 : decode cX0_firstFree 50 = .ok (.iload_n 3, 1) := by decide +kernel
theorem dX0_firstFree_51 : decode cX0_firstFree 51 = .ok (.ifCond .ne 5, 3) := by decide +kernel
theorem dX0_firstFree_54 : decode cX0_firstFree 54 = .ok (.iload_n 2, 1) := by decide +kernel
theorem dX0_firstFree_55 : decode cX0_firstFree 55 = .ok (.ireturn, 1) := by decide +kernel
theorem dX0_firstFree_56 : decode cX0_firstFree 56 = .ok (.iinc 2 1, 3) := by decide +kernel
theorem dX0_firstFree_59 : decode cX0_firstFree 59 = .ok (.goto (-57), 3) := by decide +kernel
theorem dX0_firstFree_62 : decode cX0_firstFree 62 = .ok (.iconst (-1), 1) := by decide +kernel
theorem dX0_firstFree_63 : decode cX0_firstFree 63 = .ok (.ireturn, 1) := by decide +kernel
theorem dX0_isIdle_0 : decode cX0_isIdle 0 = .ok (.aload_n 0, 1) := by decide +kernel
theorem dX0_isIdle_1 : decode cX0_isIdle 1 = .ok (.getfield 12, 3) := by decide +kernel
theorem dX0_isIdle_4 : decode cX0_isIdle 4 = .ok (.getfield 155, 3) := by decide +kernel
theorem dX0_isIdle_7 : decode cX0_isIdle 7 = .ok (.astore_n 2, 1) := by decide +kernel
theorem dX0_isIdle_8 : decode cX0_isIdle 8 = .ok (.aload_n 2, 1) := by decide +kernel
theorem dX0_isIdle_9 : decode cX0_isIdle 9 = .ok (.getfield 159, 3) := by decide +kernel
theorem dX0_isIdle_12 : decode cX0_isIdle 12 = .ok (.iload_n 1, 1) := by decide +kernel
theorem dX0_isIdle_13 : decode cX0_isIdle 13 = .ok (.iaload, 1) := by decide +kernel
theorem dX0_isIdle_14 : decode cX0_isIdle 14 = .ok (.bipush 25, 2) := by decide +kernel
theorem dX0_isIdle_16 : decode cX0_isIdle 16 = .ok (.if_icmp .ne 38, 3) := by decide +kernel
theorem dX0_isIdle_19 : decode cX0_isIdle 19 = .ok (.aload_n 0, 1) := by decide +kernel
theorem dX0_isIdle_20 : decode cX0_isIdle 20 = .ok (.getfield 37, 3) := by decide +kernel
theorem dX0_isIdle_23 : decode cX0_isIdle 23 = .ok (.getfield 212, 3) := by decide +kernel
theorem dX0_isIdle_26 : decode cX0_isIdle 26 = .ok (.aload_n 2, 1) := by decide +kernel
theorem dX0_isIdle_27 : decode cX0_isIdle 27 = .ok (.getfield 162, 3) := by decide +kernel
theorem dX0_isIdle_30 : decode cX0_isIdle 30 = .ok (.iload_n 1, 1) := by decide +kernel
theorem dX0_isIdle_31 : decode cX0_isIdle 31 = .ok (.iaload, 1) := by decide +kernel
theorem dX0_isIdle_32 : decode cX0_isIdle 32 = .ok (.iaload, 1) := by decide +kernel
theorem dX0_isIdle_33 : decode cX0_isIdle 33 = .ok (.aload_n 0, 1) := by decide +kernel
theorem dX0_isIdle_34 : decode cX0_isIdle 34 = .ok (.getfield 37, 3) := by decide +kernel
theorem dX0_isIdle_37 : decode cX0_isIdle 37 = .ok (.getfield 212, 3) := by decide +kernel
theorem dX0_isIdle_40 : decode cX0_isIdle 40 = .ok (.aload_n 2, 1) := by decide +kernel
theorem dX0_isIdle_41 : decode cX0_isIdle 41 = .ok (.getfield 165, 3) := by decide +kernel
theorem dX0_isIdle_44 : decode cX0_isIdle 44 = .ok (.iload_n 1, 1) := by decide +kernel
theorem dX0_isIdle_45 : decode cX0_isIdle 45 = .ok (.iaload, 1) := by decide +kernel
theorem dX0_isIdle_46 : decode cX0_isIdle 46 = .ok (.iaload, 1) := by decide +kernel
theorem dX0_isIdle_47 : decode cX0_isIdle 47 = .ok (.if_icmp .ne 7, 3) := by decide +kernel
theorem dX0_isIdle_50 : decode cX0_isIdle 50 = .ok (.iconst 1, 1) := by decide +kernel
theorem dX0_isIdle_51 : decode cX0_isIdle 51 = .ok (.goto 4, 3) := by decide +kernel
theorem dX0_isIdle_54 : decode cX0_isIdle 54 = .ok (.iconst 0, 1) := by decide +kernel
theorem dX0_isIdle_55 : decode cX0_isIdle 55 = .ok (.ireturn, 1) := by decide +kernel
theorem dX0_putCopies_0 : decode cX0_putCopies 0 = .ok (.iconst 0, 1) := by decide +kernel
theorem dX0_putCopies_1 : decode cX0_putCopies 1 = .ok (.istore_n 3, 1) := by decide +kernel
theorem dX0_putCopies_2 : decode cX0_putCopies 2 = .ok (.aload_n 0, 1) := by decide +kernel
theorem dX0_putCopies_3 : decode cX0_putCopies 3 = .ok (.getfield 12, 3) := by decide +kernel
theorem dX0_putCopies_6 : decode cX0_putCopies 6 = .ok (.getfield 130, 3) := by decide +kernel
theorem dX0_putCopies_9 : decode cX0_putCopies 9 = .ok (.iload_n 1, 1) := by decide +kernel
theorem dX0_putCopies_10 : decode cX0_putCopies 10 = .ok (.iaload, 1) := by decide +kernel
theorem dX0_putCopies_11 : decode cX0_putCopies 11 = .ok (.istore 4, 2) := by decide +kernel
theorem dX0_putCopies_13 : decode cX0_putCopies 13 = .ok (.iload 4, 2) := by decide +kernel
theorem dX0_putCopies_15 : decode cX0_putCopies 15 = .ok (.ifCond .lt 79, 3) := by decide +kernel
theorem dX0_putCopies_18 : decode cX0_putCopies 18 = .ok (.aload_n 0, 1) := by decide +kernel
theorem dX0_putCopies_19 : decode cX0_putCopies 19 = .ok (.getfield 12, 3) := by decide +kernel
theorem dX0_putCopies_22 : decode cX0_putCopies 22 = .ok (.iload 4, 2) := by decide +kernel
theorem dX0_putCopies_24 : decode cX0_putCopies 24 = .ok (.iload_n 2, 1) := by decide +kernel
theorem dX0_putCopies_25 : decode cX0_putCopies 25 = .ok (.invokevirtual 133, 3) := by decide +kernel
theorem dX0_putCopies_28 : decode cX0_putCopies 28 = .ok (.istore 5, 2) := by decide +kernel
theorem dX0_putCopies_30 : decode cX0_putCopies 30 = .ok (.iload 5, 2) := by decide +kernel
theorem dX0_putCopies_32 : decode cX0_putCopies 32 = .ok (.aload_n 0, 1) := by decide +kernel
theorem dX0_putCopies_33 : decode cX0_putCopies 33 = .ok (.getfield 12, 3) := by decide +kernel
theorem dX0_putCopies_36 : decode cX0_putCopies 36 = .ok (.getfield 136, 3) := by decide +kernel
theorem dX0_putCopies_39 : decode cX0_putCopies 39 = .ok (.iload 4, 2) := by decide +kernel
theorem dX0_putCopies_41 : decode cX0_putCopies 41 = .ok (.iaload, 1) := by decide +kernel
theorem dX0_putCopies_42 : decode cX0_putCopies 42 = .ok (.if_icmp .eq 37, 3) := by decide +kernel
theorem dX0_putCopies_45 : decode cX0_putCopies 45 = .ok (.iload_n 3, 1) := by decide +kernel
theorem dX0_putCopies_46 : decode cX0_putCopies 46 = .ok (.sipush 250, 3) := by decide +kernel
theorem dX0_putCopies_49 : decode cX0_putCopies 49 = .ok (.if_icmp .ge 30, 3) := by decide +kernel
theorem dX0_putCopies_52 : decode cX0_putCopies 52 = .ok (.aload_n 0, 1) := by decide +kernel
theorem dX0_putCopies_53 : decode cX0_putCopies 53 = .ok (.getfield 47, 3) := by decide +kernel
theorem dX0_putCopies_56 : decode cX0_putCopies 56 = .ok (.iload_n 3, 1) := by decide +kernel
theorem dX0_putCopies_57 : decode cX0_putCopies 57 = .ok (.aload_n 0, 1) := by decide +kernel
theorem dX0_putCopies_58 : decode cX0_putCopies 58 = .ok (.getfield 12, 3) := by decide +kernel
theorem dX0_putCopies_61 : decode cX0_putCopies 61 = .ok (.getfield 136, 3) := by decide +kernel
theorem dX0_putCopies_64 : decode cX0_putCopies 64 = .ok (.iload 4, 2) := by decide +kernel
theorem dX0_putCopies_66 : decode cX0_putCopies 66 = .ok (.iaload, 1) := by decide +kernel
theorem dX0_putCopies_67 : decode cX0_putCopies 67 = .ok (.iastore, 1) := by decide +kernel
theorem dX0_putCopies_68 : decode cX0_putCopies 68 = .ok (.aload_n 0, 1) := by decide +kernel
theorem dX0_putCopies_69 : decode cX0_putCopies 69 = .ok (.getfield 50, 3) := by decide +kernel
theorem dX0_putCopies_72 : decode cX0_putCopies 72 = .ok (.iload_n 3, 1) := by decide +kernel
theorem dX0_putCopies_73 : decode cX0_putCopies 73 = .ok (.iload 5, 2) := by decide +kernel
theorem dX0_putCopies_75 : decode cX0_putCopies 75 = .ok (.iastore, 1) := by decide +kernel
theorem dX0_putCopies_76 : decode cX0_putCopies 76 = .ok (.iinc 3 1, 3) := by decide +kernel
theorem dX0_putCopies_79 : decode cX0_putCopies 79 = .ok (.aload_n 0, 1) := by decide +kernel
theorem dX0_putCopies_80 : decode cX0_putCopies 80 = .ok (.getfield 12, 3) := by decide +kernel
theorem dX0_putCopies_83 : decode cX0_putCopies 83 = .ok (.getfield 139, 3) := by decide +kernel
theorem dX0_putCopies_86 : decode cX0_putCopies 86 = .ok (.iload 4, 2) := by decide +kernel
theorem dX0_putCopies_88 : decode cX0_putCopies 88 = .ok (.iaload, 1) := by decide +kernel
theorem dX0_putCopies_89 : decode cX0_putCopies 89 = .ok (.istore 4, 2) := by decide +kernel
theorem dX0_putCopies_91 : decode cX0_putCopies 91 = .ok (.goto (-78), 3) := by decide +kernel
theorem dX0_putCopies_94 : decode cX0_putCopies 94 = .ok (.iconst 0, 1) := by decide +kernel
theorem dX0_putCopies_95 : decode cX0_putCopies 95 = .ok (.istore 4, 2) := by decide +kernel
theorem dX0_putCopies_97 : decode cX0_putCopies 97 = .ok (.iload_n 3, 1) := by decide +kernel
theorem dX0_putCopies_98 : decode cX0_putCopies 98 = .ok (.ifCond .le 115, 3) := by decide +kernel
theorem dX0_putCopies_101 : decode cX0_putCopies 101 = .ok (.iload 4, 2) := by decide +kernel
theorem dX0_putCopies_103 : decode cX0_putCopies 103 = .ok (.sipush 500, 3) := by decide +kernel
theorem dX0_putCopies_106 : decode cX0_putCopies 106 = .ok (.if_icmp .ge 107, 3) := by decide +kernel
theorem dX0_putCopies_109 : decode cX0_putCopies 109 = .ok (.aload_n 0, 1) := by decide +kernel
theorem dX0_putCopies_110 : decode cX0_putCopies 110 = .ok (.iload_n 3, 1) := by decide +kernel
theorem dX0_putCopies_111 : decode cX0_putCopies 111 = .ok (.invokevirtual 142, 3) := by decide +kernel
theorem dX0_putCopies_114 : decode cX0_putCopies 114 = .ok (.istore 5, 2) := by decide +kernel
theorem dX0_putCopies_116 : decode cX0_putCopies 116 = .ok (.iload 5, 2) := by decide +kernel
theorem dX0_putCopies_118 : decode cX0_putCopies 118 = .ok (.ifCond .lt 83, 3) := by decide +kernel
theorem dX0_putCopies_121 : decode cX0_putCopies 121 = .ok (.aload_n 0, 1) := by decide +kernel
theorem dX0_putCopies_122 : decode cX0_putCopies 122 = .ok (.getfield 12, 3) := by decide +kernel
theorem dX0_putCopies_125 : decode cX0_putCopies 125 = .ok (.iload_n 2, 1) := by decide +kernel
theorem dX0_putCopies_126 : decode cX0_putCopies 126 = .ok (.bipush 25, 2) := by decide +kernel
theorem dX0_putCopies_128 : decode cX0_putCopies 128 = .ok (.aload_n 0, 1) := by decide +kernel
theorem dX0_putCopies_129 : decode cX0_putCopies 129 = .ok (.getfield 47, 3) := by decide +kernel
theorem dX0_putCopies_132 : decode cX0_putCopies 132 = .ok (.iload 5, 2) := by decide +kernel
theorem dX0_putCopies_134 : decode cX0_putCopies 134 = .ok (.iaload, 1) := by decide +kernel
theorem dX0_putCopies_135 : decode cX0_putCopies 135 = .ok (.aload_n 0, 1) := by decide +kernel
theorem dX0_putCopies_136 : decode cX0_putCopies 136 = .ok (.getfield 50, 3) := by decide +kernel
theorem dX0_putCopies_139 : decode cX0_putCopies 139 = .ok (.iload 5, 2) := by decide +kernel
theorem dX0_putCopies_141 : decode cX0_putCopies 141 = .ok (.iaload, 1) := by decide +kernel
theorem dX0_putCopies_142 : decode cX0_putCopies 142 = .ok (.iconst (-1), 1) := by decide +kernel
theorem dX0_putCopies_143 : decode cX0_putCopies 143 = .ok (.invokevirtual 145, 3) := by decide +kernel
theorem dX0_putCopies_146 : decode cX0_putCopies 146 = .ok (.pop, 1) := by decide +kernel
theorem dX0_putCopies_147 : decode cX0_putCopies 147 = .ok (.iinc 3 (-1), 3) := by decide +kernel
theorem dX0_putCopies_150 : decode cX0_putCopies 150 = .ok (.iload 5, 2) := by decide +kernel
theorem dX0_putCopies_152 : decode cX0_putCopies 152 = .ok (.istore 6, 2) := by decide +kernel
theorem dX0_putCopies_154 : decode cX0_putCopies 154 = .ok (.iload 6, 2) := by decide +kernel
theorem dX0_putCopies_156 : decode cX0_putCopies 156 = .ok (.iload_n 3, 1) := by decide +kernel
theorem dX0_putCopies_157 : decode cX0_putCopies 157 = .ok (.if_icmp .ge 41, 3) := by decide +kernel
theorem dX0_putCopies_160 : decode cX0_putCopies 160 = .ok (.aload_n 0, 1) := by decide +kernel
theorem dX0_putCopies_161 : decode cX0_putCopies 161 = .ok (.getfield 47, 3) := by decide +kernel
theorem dX0_putCopies_164 : decode cX0_putCopies 164 = .ok (.iload 6, 2) := by decide +kernel
theorem dX0_putCopies_166 : decode cX0_putCopies 166 = .ok (.aload_n 0, 1) := by decide +kernel
theorem dX0_putCopies_167 : decode cX0_putCopies 167 = .ok (.getfield 47, 3) := by decide +kernel
theorem dX0_putCopies_170 : decode cX0_putCopies 170 = .ok (.iload 6, 2) := by decide +kernel
theorem dX0_putCopies_172 : decode cX0_putCopies 172 = .ok (.iconst 1, 1) := by decide +kernel
theorem dX0_putCopies_173 : decode cX0_putCopies 173 = .ok (.iadd, 1) := by decide +kernel
theorem dX0_putCopies_174 : decode cX0_putCopies 174 = .ok (.iaload, 1) := by decide +kernel
theorem dX0_putCopies_175 : decode cX0_putCopies 175 = .ok (.iastore, 1) := by decide +kernel
theorem dX0_putCopies_176 : decode cX0_putCopies 176 = .ok (.aload_n 0, 1) := by decide +kernel
theorem dX0_putCopies_177 : decode cX0_putCopies 177 = .ok (.getfield 50, 3) := by decide +kernel
theorem dX0_putCopies_180 : decode cX0_putCopies 180 = .ok (.iload 6, 2) := by decide +kernel
theorem dX0_putCopies_182 : decode cX0_putCopies 182 = .ok (.aload_n 0, 1) := by decide +kernel
theorem dX0_putCopies_183 : decode cX0_putCopies 183 = .ok (.getfield 50, 3) := by decide +kernel
theorem dX0_putCopies_186 : decode cX0_putCopies 186 = .ok (.iload 6, 2) := by decide +kernel
theorem dX0_putCopies_188 : decode cX0_putCopies 188 = .ok (.iconst 1, 1) := by decide +kernel
theorem dX0_putCopies_189 : decode cX0_putCopies 189 = .ok (.iadd, 1) := by decide +kernel
theorem dX0_putCopies_190 : decode cX0_putCopies 190 = .ok (.iaload, 1) := by decide +kernel
theorem dX0_putCopies_191 : decode cX0_putCopies 191 = .ok (.iastore, 1) := by decide +kernel
theorem dX0_putCopies_192 : decode cX0_putCopies 192 = .ok (.iinc 6 1, 3) := by decide +kernel
theorem dX0_putCopies_195 : decode cX0_putCopies 195 = .ok (.goto (-41), 3) := by decide +kernel
theorem dX0_putCopies_198 : decode cX0_putCopies 198 = .ok (.goto 9, 3) := by decide +kernel
theorem dX0_putCopies_201 : decode cX0_putCopies 201 = .ok (.aload_n 0, 1) := by decide +kernel
theorem dX0_putCopies_202 : decode cX0_putCopies 202 = .ok (.iload_n 2, 1) := by decide +kernel
theorem dX0_putCopies_203 : decode cX0_putCopies 203 = .ok (.iload_n 3, 1) := by decide +kernel
theorem dX0_putCopies_204 : decode cX0_putCopies 204 = .ok (.invokevirtual 149, 3) := by decide +kernel
theorem dX0_putCopies_207 : decode cX0_putCopies 207 = .ok (.iinc 4 1, 3) := by decide +kernel
theorem dX0_putCopies_210 : decode cX0_putCopies 210 = .ok (.goto (-113), 3) := by decide +kernel
theorem dX0_putCopies_213 : decode cX0_putCopies 213 = .ok (.return_, 1) := by decide +kernel
theorem dX0_saveFirst_0 : decode cX0_saveFirst 0 = .ok (.aload_n 0, 1) := by decide +kernel
theorem dX0_saveFirst_1 : decode cX0_saveFirst 1 = .ok (.getfield 47, 3) := by decide +kernel
theorem dX0_saveFirst_4 : decode cX0_saveFirst 4 = .ok (.iconst 0, 1) := by decide +kernel
theorem dX0_saveFirst_5 : decode cX0_saveFirst 5 = .ok (.iaload, 1) := by decide +kernel
theorem dX0_saveFirst_6 : decode cX0_saveFirst 6 = .ok (.istore_n 3, 1) := by decide +kernel
theorem dX0_saveFirst_7 : decode cX0_saveFirst 7 = .ok (.aload_n 0, 1) := by decide +kernel
theorem dX0_saveFirst_8 : decode cX0_saveFirst 8 = .ok (.getfield 12, 3) := by decide +kernel
theorem dX0_saveFirst_11 : decode cX0_saveFirst 11 = .ok (.iload_n 1, 1) := by decide +kernel
theorem dX0_saveFirst_12 : decode cX0_saveFirst 12 = .ok (.bipush 25, 2) := by decide +kernel
theorem dX0_saveFirst_14 : decode cX0_saveFirst 14 = .ok (.aload_n 0, 1) := by decide +kernel
theorem dX0_saveFirst_15 : decode cX0_saveFirst 15 = .ok (.getfield 90, 3) := by decide +kernel
theorem dX0_saveFirst_18 : decode cX0_saveFirst 18 = .ok (.iload_n 3, 1) := by decide +kernel
theorem dX0_saveFirst_19 : decode cX0_saveFirst 19 = .ok (.iconst (-1), 1) := by decide +kernel
theorem dX0_saveFirst_20 : decode cX0_saveFirst 20 = .ok (.invokevirtual 145, 3) := by decide +kernel
theorem dX0_saveFirst_23 : decode cX0_saveFirst 23 = .ok (.pop, 1) := by decide +kernel
theorem dX0_saveFirst_24 : decode cX0_saveFirst 24 = .ok (.iconst 0, 1) := by decide +kernel
theorem dX0_saveFirst_25 : decode cX0_saveFirst 25 = .ok (.istore 4, 2) := by decide +kernel
theorem dX0_saveFirst_27 : decode cX0_saveFirst 27 = .ok (.iload 4, 2) := by decide +kernel
theorem dX0_saveFirst_29 : decode cX0_saveFirst 29 = .ok (.iload_n 2, 1) := by decide +kernel
theorem dX0_saveFirst_30 : decode cX0_saveFirst 30 = .ok (.if_icmp .ge 31, 3) := by decide +kernel
theorem dX0_saveFirst_33 : decode cX0_saveFirst 33 = .ok (.aload_n 0, 1) := by decide +kernel
theorem dX0_saveFirst_34 : decode cX0_saveFirst 34 = .ok (.getfield 50, 3) := by decide +kernel
theorem dX0_saveFirst_37 : decode cX0_saveFirst 37 = .ok (.iload 4, 2) := by decide +kernel
theorem dX0_saveFirst_39 : decode cX0_saveFirst 39 = .ok (.iaload, 1) := by decide +kernel
theorem dX0_saveFirst_40 : decode cX0_saveFirst 40 = .ok (.iload_n 3, 1) := by decide +kernel
theorem dX0_saveFirst_41 : decode cX0_saveFirst 41 = .ok (.if_icmp .ne 14, 3) := by decide +kernel
theorem dX0_saveFirst_44 : decode cX0_saveFirst 44 = .ok (.aload_n 0, 1) := by decide +kernel
theorem dX0_saveFirst_45 : decode cX0_saveFirst 45 = .ok (.getfield 50, 3) := by decide +kernel
theorem dX0_saveFirst_48 : decode cX0_saveFirst 48 = .ok (.iload 4, 2) := by decide +kernel
theorem dX0_saveFirst_50 : decode cX0_saveFirst 50 = .ok (.aload_n 0, 1) := by decide +kernel
theorem dX0_saveFirst_51 : decode cX0_saveFirst 51 = .ok (.getfield 90, 3) := by decide +kernel
theorem dX0_saveFirst_54 : decode cX0_saveFirst 54 = .ok (.iastore, 1) := by decide +kernel
theorem dX0_saveFirst_55 : decode cX0_saveFirst 55 = .ok (.iinc 4 1, 3) := by decide +kernel
theorem dX0_saveFirst_58 : decode cX0_saveFirst 58 = .ok (.goto (-31), 3) := by decide +kernel
theorem dX0_saveFirst_61 : decode cX0_saveFirst 61 = .ok (.aload_n 0, 1) := by decide +kernel
theorem dX0_saveFirst_62 : decode cX0_saveFirst 62 = .ok (.dup, 1) := by decide +kernel
theorem dX0_saveFirst_63 : decode cX0_saveFirst 63 = .ok (.getfield 90, 3) := by decide +kernel
theorem dX0_saveFirst_66 : decode cX0_saveFirst 66 = .ok (.iconst 1, 1) := by decide +kernel
theorem dX0_saveFirst_67 : decode cX0_saveFirst 67 = .ok (.iadd, 1) := by decide +kernel
theorem dX0_saveFirst_68 : decode cX0_saveFirst 68 = .ok (.putfield 90, 3) := by decide +kernel
theorem dX0_saveFirst_71 : decode cX0_saveFirst 71 = .ok (.return_, 1) := by decide +kernel
theorem dX11_atLeast__0 : decode cX11_atLeast_ 0 = .ok (.aload_n 0, 1) := by decide +kernel
theorem dX11_atLeast__1 : decode cX11_atLeast_ 1 = .ok (.arraylength, 1) := by decide +kernel
theorem dX11_atLeast__2 : decode cX11_atLeast_ 2 = .ok (.iload_n 1, 1) := by decide +kernel
theorem dX11_atLeast__3 : decode cX11_atLeast_ 3 = .ok (.if_icmp .lt 7, 3) := by decide +kernel
theorem dX11_atLeast__6 : decode cX11_atLeast_ 6 = .ok (.aload_n 0, 1) := by decide +kernel
theorem dX11_atLeast__7 : decode cX11_atLeast_ 7 = .ok (.goto 12, 3) := by decide +kernel
theorem dX11_atLeast__10 : decode cX11_atLeast_ 10 = .ok (.aload_n 0, 1) := by decide +kernel
theorem dX11_atLeast__11 : decode cX11_atLeast_ 11 = .ok (.iload_n 1, 1) := by decide +kernel
theorem dX11_atLeast__12 : decode cX11_atLeast_ 12 = .ok (.iload_n 1, 1) := by decide +kernel
theorem dX11_atLeast__13 : decode cX11_atLeast_ 13 = .ok (.iconst 2, 1) := by decide +kernel
theorem dX11_atLeast__14 : decode cX11_atLeast_ 14 = .ok (.idiv, 1) := by decide +kernel
theorem dX11_atLeast__15 : decode cX11_atLeast_ 15 = .ok (.iadd, 1) := by decide +kernel
theorem dX11_atLeast__16 : decode cX11_atLeast_ 16 = .ok (.invokestatic 393, 3) := by decide +kernel
theorem dX11_atLeast__19 : decode cX11_atLeast_ 19 = .ok (.areturn, 1) := by decide +kernel
theorem dX2_makeRoom_0 : decode cX2_makeRoom 0 = .ok (.aload_n 0, 1) := by decide +kernel
theorem dX2_makeRoom_1 : decode cX2_makeRoom 1 = .ok (.aload_n 0, 1) := by decide +kernel
theorem dX2_makeRoom_2 : decode cX2_makeRoom 2 = .ok (.getfield 11, 3) := by decide +kernel
theorem dX2_makeRoom_5 : decode cX2_makeRoom 5 = .ok (.iload_n 1, 1) := by decide +kernel
theorem dX2_makeRoom_6 : decode cX2_makeRoom 6 = .ok (.aload_n 0, 1) := by decide +kernel
theorem dX2_makeRoom_7 : decode cX2_makeRoom 7 = .ok (.getfield 65, 3) := by decide +kernel
theorem dX2_makeRoom_10 : decode cX2_makeRoom 10 = .ok (.imul, 1) := by decide +kernel
theorem dX2_makeRoom_11 : decode cX2_makeRoom 11 = .ok (.invokestatic 103, 3) := by decide +kernel
theorem dX2_makeRoom_14 : decode cX2_makeRoom 14 = .ok (.putfield 11, 3) := by decide +kernel
theorem dX2_makeRoom_17 : decode cX2_makeRoom 17 = .ok (.aload_n 0, 1) := by decide +kernel
theorem dX2_makeRoom_18 : decode cX2_makeRoom 18 = .ok (.aload_n 0, 1) := by decide +kernel
theorem dX2_makeRoom_19 : decode cX2_makeRoom 19 = .ok (.getfield 15, 3) := by decide +kernel
theorem dX2_makeRoom_22 : decode cX2_makeRoom 22 = .ok (.iload_n 1, 1) := by decide +kernel
theorem dX2_makeRoom_23 : decode cX2_makeRoom 23 = .ok (.aload_n 0, 1) := by decide +kernel
theorem dX2_makeRoom_24 : decode cX2_makeRoom 24 = .ok (.getfield 65, 3) := by decide +kernel
theorem dX2_makeRoom_27 : decode cX2_makeRoom 27 = .ok (.imul, 1) := by decide +kernel
theorem dX2_makeRoom_28 : decode cX2_makeRoom 28 = .ok (.invokestatic 103, 3) := by decide +kernel
theorem dX2_makeRoom_31 : decode cX2_makeRoom 31 = .ok (.putfield 15, 3) := by decide +kernel
theorem dX2_makeRoom_34 : decode cX2_makeRoom 34 = .ok (.aload_n 0, 1) := by decide +kernel
theorem dX2_makeRoom_35 : decode cX2_makeRoom 35 = .ok (.aload_n 0, 1) := by decide +kernel
theorem dX2_makeRoom_36 : decode cX2_makeRoom 36 = .ok (.getfield 18, 3) := by decide +kernel
theorem dX2_makeRoom_39 : decode cX2_makeRoom 39 = .ok (.iload_n 1, 1) := by decide +kernel
theorem dX2_makeRoom_40 : decode cX2_makeRoom 40 = .ok (.aload_n 0, 1) := by decide +kernel
theorem dX2_makeRoom_41 : decode cX2_makeRoom 41 = .ok (.getfield 65, 3) := by decide +kernel
theorem dX2_makeRoom_44 : decode cX2_makeRoom 44 = .ok (.imul, 1) := by decide +kernel
theorem dX2_makeRoom_45 : decode cX2_makeRoom 45 = .ok (.invokestatic 103, 3) := by decide +kernel
theorem dX2_makeRoom_48 : decode cX2_makeRoom 48 = .ok (.putfield 18, 3) := by decide +kernel
theorem dX2_makeRoom_51 : decode cX2_makeRoom 51 = .ok (.aload_n 0, 1) := by decide +kernel
theorem dX2_makeRoom_52 : decode cX2_makeRoom 52 = .ok (.aload_n 0, 1) := by decide +kernel
theorem dX2_makeRoom_53 : decode cX2_makeRoom 53 = .ok (.getfield 21, 3) := by decide +kernel
theorem dX2_makeRoom_56 : decode cX2_makeRoom 56 = .ok (.aload_n 0, 1) := by decide +kernel
theorem dX2_makeRoom_57 : decode cX2_makeRoom 57 = .ok (.getfield 65, 3) := by decide +kernel
theorem dX2_makeRoom_60 : decode cX2_makeRoom 60 = .ok (.invokestatic 103, 3) := by decide +kernel
theorem dX2_makeRoom_63 : decode cX2_makeRoom 63 = .ok (.putfield 21, 3) := by decide +kernel
theorem dX2_makeRoom_66 : decode cX2_makeRoom 66 = .ok (.aload_n 0, 1) := by decide +kernel
theorem dX2_makeRoom_67 : decode cX2_makeRoom 67 = .ok (.aload_n 0, 1) := by decide +kernel
theorem dX2_makeRoom_68 : decode cX2_makeRoom 68 = .ok (.getfield 31, 3) := by decide +kernel
theorem dX2_makeRoom_71 : decode cX2_makeRoom 71 = .ok (.aload_n 0, 1) := by decide +kernel
theorem dX2_makeRoom_72 : decode cX2_makeRoom 72 = .ok (.getfield 62, 3) := by decide +kernel
theorem dX2_makeRoom_75 : decode cX2_makeRoom 75 = .ok (.aload_n 0, 1) := by decide +kernel
theorem dX2_makeRoom_76 : decode cX2_makeRoom 76 = .ok (.getfield 65, 3) := by decide +kernel
theorem dX2_makeRoom_79 : decode cX2_makeRoom 79 = .ok (.imul, 1) := by decide +kernel
theorem dX2_makeRoom_80 : decode cX2_makeRoom 80 = .ok (.invokestatic 103, 3) := by decide +kernel
theorem dX2_makeRoom_83 : decode cX2_makeRoom 83 = .ok (.putfield 31, 3) := by decide +kernel
theorem dX2_makeRoom_86 : decode cX2_makeRoom 86 = .ok (.aload_n 0, 1) := by decide +kernel
theorem dX2_makeRoom_87 : decode cX2_makeRoom 87 = .ok (.aload_n 0, 1) := by decide +kernel
theorem dX2_makeRoom_88 : decode cX2_makeRoom 88 = .ok (.getfield 34, 3) := by decide +kernel
theorem dX2_makeRoom_91 : decode cX2_makeRoom 91 = .ok (.aload_n 0, 1) := by decide +kernel
theorem dX2_makeRoom_92 : decode cX2_makeRoom 92 = .ok (.getfield 62, 3) := by decide +kernel
theorem dX2_makeRoom_95 : decode cX2_makeRoom 95 = .ok (.invokestatic 107, 3) := by decide +kernel
theorem dX2_makeRoom_98 : decode cX2_makeRoom 98 = .ok (.putfield 34, 3) := by decide +kernel
theorem dX2_makeRoom_101 : decode cX2_makeRoom 101 = .ok (.aload_n 0, 1) := by decide +kernel
theorem dX2_makeRoom_102 : decode cX2_makeRoom 102 = .ok (.aload_n 0, 1) := by decide +kernel
theorem dX2_makeRoom_103 : decode cX2_makeRoom 103 = .ok (.getfield 37, 3) := by decide +kernel
theorem dX2_makeRoom_106 : decode cX2_makeRoom 106 = .ok (.aload_n 0, 1) := by decide +kernel
theorem dX2_makeRoom_107 : decode cX2_makeRoom 107 = .ok (.getfield 62, 3) := by decide +kernel
theorem dX2_makeRoom_110 : decode cX2_makeRoom 110 = .ok (.invokestatic 107, 3) := by decide +kernel
theorem dX2_makeRoom_113 : decode cX2_makeRoom 113 = .ok (.putfield 37, 3) := by decide +kernel
theorem dX2_makeRoom_116 : decode cX2_makeRoom 116 = .ok (.aload_n 0, 1) := by decide +kernel
theorem dX2_makeRoom_117 : decode cX2_makeRoom 117 = .ok (.aload_n 0, 1) := by decide +kernel
theorem dX2_makeRoom_118 : decode cX2_makeRoom 118 = .ok (.getfield 40, 3) := by decide +kernel
theorem dX2_makeRoom_121 : decode cX2_makeRoom 121 = .ok (.aload_n 0, 1) := by decide +kernel
theorem dX2_makeRoom_122 : decode cX2_makeRoom 122 = .ok (.getfield 62, 3) := by decide +kernel
theorem dX2_makeRoom_125 : decode cX2_makeRoom 125 = .ok (.invokestatic 103, 3) := by decide +kernel
theorem dX2_makeRoom_128 : decode cX2_makeRoom 128 = .ok (.putfield 40, 3) := by decide +kernel
theorem dX2_makeRoom_131 : decode cX2_makeRoom 131 = .ok (.aload_n 0, 1) := by decide +kernel
theorem dX2_makeRoom_132 : decode cX2_makeRoom 132 = .ok (.aload_n 0, 1) := by decide +kernel
theorem dX2_makeRoom_133 : decode cX2_makeRoom 133 = .ok (.getfield 43, 3) := by decide +kernel
theorem dX2_makeRoom_136 : decode cX2_makeRoom 136 = .ok (.aload_n 0, 1) := by decide +kernel
theorem dX2_makeRoom_137 : decode cX2_makeRoom 137 = .ok (.getfield 62, 3) := by decide +kernel
theorem dX2_makeRoom_140 : decode cX2_makeRoom 140 = .ok (.invokestatic 107, 3) := by decide +kernel
theorem dX2_makeRoom_143 : decode cX2_makeRoom 143 = .ok (.putfield 43, 3) := by decide +kernel
theorem dX2_makeRoom_146 : decode cX2_makeRoom 146 = .ok (.aload_n 0, 1) := by decide +kernel
theorem dX2_makeRoom_147 : decode cX2_makeRoom 147 = .ok (.aload_n 0, 1) := by decide +kernel
theorem dX2_makeRoom_148 : decode cX2_makeRoom 148 = .ok (.getfield 46, 3) := by decide +kernel
theorem dX2_makeRoom_151 : decode cX2_makeRoom 151 = .ok (.aload_n 0, 1) := by decide +kernel
theorem dX2_makeRoom_152 : decode cX2_makeRoom 152 = .ok (.getfield 62, 3) := by decide +kernel
theorem dX2_makeRoom_155 : decode cX2_makeRoom 155 = .ok (.invokestatic 107, 3) := by decide +kernel
theorem dX2_makeRoom_158 : decode cX2_makeRoom 158 = .ok (.putfield 46, 3) := by decide +kernel
theorem dX2_makeRoom_161 : decode cX2_makeRoom 161 = .ok (.aload_n 0, 1) := by decide +kernel
theorem dX2_makeRoom_162 : decode cX2_makeRoom 162 = .ok (.aload_n 0, 1) := by decide +kernel
theorem dX2_makeRoom_163 : decode cX2_makeRoom 163 = .ok (.getfield 49, 3) := by decide +kernel
theorem dX2_makeRoom_166 : decode cX2_makeRoom 166 = .ok (.aload_n 0, 1) := by decide +kernel
theorem dX2_makeRoom_167 : decode cX2_makeRoom 167 = .ok (.getfield 62, 3) := by decide +kernel
theorem dX2_makeRoom_170 : decode cX2_makeRoom 170 = .ok (.invokestatic 107, 3) := by decide +kernel
theorem dX2_makeRoom_173 : decode cX2_makeRoom 173 = .ok (.putfield 49, 3) := by decide +kernel
theorem dX2_makeRoom_176 : decode cX2_makeRoom 176 = .ok (.aload_n 0, 1) := by decide +kernel
theorem dX2_makeRoom_177 : decode cX2_makeRoom 177 = .ok (.aload_n 0, 1) := by decide +kernel
theorem dX2_makeRoom_178 : decode cX2_makeRoom 178 = .ok (.getfield 52, 3) := by decide +kernel
theorem dX2_makeRoom_181 : decode cX2_makeRoom 181 = .ok (.aload_n 0, 1) := by decide +kernel
theorem dX2_makeRoom_182 : decode cX2_makeRoom 182 = .ok (.getfield 62, 3) := by decide +kernel
theorem dX2_makeRoom_185 : decode cX2_makeRoom 185 = .ok (.invokestatic 107, 3) := by decide +kernel
theorem dX2_makeRoom_188 : decode cX2_makeRoom 188 = .ok (.putfield 52, 3) := by decide +kernel
theorem dX2_makeRoom_191 : decode cX2_makeRoom 191 = .ok (.aload_n 0, 1) := by decide +kernel
theorem dX2_makeRoom_192 : decode cX2_makeRoom 192 = .ok (.aload_n 0, 1) := by decide +kernel
theorem dX2_makeRoom_193 : decode cX2_makeRoom 193 = .ok (.getfield 55, 3) := by decide +kernel
theorem dX2_makeRoom_196 : decode cX2_makeRoom 196 = .ok (.aload_n 0, 1) := by decide +kernel
theorem dX2_makeRoom_197 : decode cX2_makeRoom 197 = .ok (.getfield 62, 3) := by decide +kernel
theorem dX2_makeRoom_200 : decode cX2_makeRoom 200 = .ok (.invokestatic 107, 3) := by decide +kernel
theorem dX2_makeRoom_203 : decode cX2_makeRoom 203 = .ok (.putfield 55, 3) := by decide +kernel
theorem dX2_makeRoom_206 : decode cX2_makeRoom 206 = .ok (.return_, 1) := by decide +kernel
theorem dX5_mergeBlocks_0 : decode cX5_mergeBlocks 0 = .ok (.aload_n 0, 1) := by decide +kernel
theorem dX5_mergeBlocks_1 : decode cX5_mergeBlocks 1 = .ok (.getfield 24, 3) := by decide +kernel
theorem dX5_mergeBlocks_4 : decode cX5_mergeBlocks 4 = .ok (.iconst (-1), 1) := by decide +kernel
theorem dX5_mergeBlocks_5 : decode cX5_mergeBlocks 5 = .ok (.invokestatic 43, 3) := by decide +kernel
theorem dX5_mergeBlocks_8 : decode cX5_mergeBlocks 8 = .ok (.iconst 0, 1) := by decide +kernel
theorem dX5_mergeBlocks_9 : decode cX5_mergeBlocks 9 = .ok (.istore_n 2, 1) := by decide +kernel
theorem dX5_mergeBlocks_10 : decode cX5_mergeBlocks 10 = .ok (.aload_n 0, 1) := by decide +kernel
theorem dX5_mergeBlocks_11 : decode cX5_mergeBlocks 11 = .ok (.lconst 1, 1) := by decide +kernel
theorem dX5_mergeBlocks_12 : decode cX5_mergeBlocks 12 = .ok (.aload_n 1, 1) := by decide +kernel
theorem dX5_mergeBlocks_13 : decode cX5_mergeBlocks 13 = .ok (.getfield 49, 3) := by decide +kernel
theorem dX5_mergeBlocks_16 : decode cX5_mergeBlocks 16 = .ok (.lshl, 1) := by decide +kernel
theorem dX5_mergeBlocks_17 : decode cX5_mergeBlocks 17 = .ok (.lconst 1, 1) := by decide +kernel
theorem dX5_mergeBlocks_18 : decode cX5_mergeBlocks 18 = .ok (.lsub, 1) := by decide +kernel
theorem dX5_mergeBlocks_19 : decode cX5_mergeBlocks 19 = .ok (.putfield 96, 3) := by decide +kernel
theorem dX5_mergeBlocks_22 : decode cX5_mergeBlocks 22 = .ok (.iconst 1, 1) := by decide +kernel
theorem dX5_mergeBlocks_23 : decode cX5_mergeBlocks 23 = .ok (.istore_n 3, 1) := by decide +kernel
theorem dX5_mergeBlocks_24 : decode cX5_mergeBlocks 24 = .ok (.iconst 0, 1) := by decide +kernel
theorem dX5_mergeBlocks_25 : decode cX5_mergeBlocks 25 = .ok (.istore 4, 2) := by decide +kernel
theorem dX5_mergeBlocks_27 : decode cX5_mergeBlocks 27 = .ok (.iload_n 3, 1) := by decide +kernel
theorem dX5_mergeBlocks_28 : decode cX5_mergeBlocks 28 = .ok (.ifCond .eq 55, 3) := by decide +kernel
theorem dX5_mergeBlocks_31 : decode cX5_mergeBlocks 31 = .ok (.iload 4, 2) := by decide +kernel
theorem dX5_mergeBlocks_33 : decode cX5_mergeBlocks 33 = .ok (.bipush 60, 2) := by decide +kernel
theorem dX5_mergeBlocks_35 : decode cX5_mergeBlocks 35 = .ok (.if_icmp .gt 48, 3) := by decide +kernel
theorem dX5_mergeBlocks_38 : decode cX5_mergeBlocks 38 = .ok (.aload_n 0, 1) := by decide +kernel
theorem dX5_mergeBlocks_39 : decode cX5_mergeBlocks 39 = .ok (.aload_n 1, 1) := by decide +kernel
theorem dX5_mergeBlocks_40 : decode cX5_mergeBlocks 40 = .ok (.invokevirtual 296, 3) := by decide +kernel
theorem dX5_mergeBlocks_43 : decode cX5_mergeBlocks 43 = .ok (.istore 5, 2) := by decide +kernel
theorem dX5_mergeBlocks_45 : decode cX5_mergeBlocks 45 = .ok (.iload 5, 2) := by decide +kernel
theorem dX5_mergeBlocks_47 : decode cX5_mergeBlocks 47 = .ok (.ifCond .lt 7, 3) := by decide +kernel
theorem dX5_mergeBlocks_50 : decode cX5_mergeBlocks 50 = .ok (.iconst 1, 1) := by decide +kernel
theorem dX5_mergeBlocks_51 : decode cX5_mergeBlocks 51 = .ok (.goto 4, 3) := by decide +kernel
theorem dX5_mergeBlocks_54 : decode cX5_mergeBlocks 54 = .ok (.iconst 0, 1) := by decide +kernel
theorem dX5_mergeBlocks_55 : decode cX5_mergeBlocks 55 = .ok (.istore_n 3, 1) := by decide +kernel
theorem dX5_mergeBlocks_56 : decode cX5_mergeBlocks 56 = .ok (.iload_n 3, 1) := by decide +kernel
theorem dX5_mergeBlocks_57 : decode cX5_mergeBlocks 57 = .ok (.ifCond .eq 20, 3) := by decide +kernel
theorem dX5_mergeBlocks_60 : decode cX5_mergeBlocks 60 = .ok (.aload_n 0, 1) := by decide +kernel
theorem dX5_mergeBlocks_61 : decode cX5_mergeBlocks 61 = .ok (.aload_n 1, 1) := by decide +kernel
theorem dX5_mergeBlocks_62 : decode cX5_mergeBlocks 62 = .ok (.iload 5, 2) := by decide +kernel
theorem dX5_mergeBlocks_64 : decode cX5_mergeBlocks 64 = .ok (.aload_n 1, 1) := by decide +kernel
theorem dX5_mergeBlocks_65 : decode cX5_mergeBlocks 65 = .ok (.getfield 125, 3) := by decide +kernel
theorem dX5_mergeBlocks_68 : decode cX5_mergeBlocks 68 = .ok (.iload 5, 2) := by decide +kernel
theorem dX5_mergeBlocks_70 : decode cX5_mergeBlocks 70 = .ok (.iaload, 1) := by decide +kernel
theorem dX5_mergeBlocks_71 : decode cX5_mergeBlocks 71 = .ok (.invokevirtual 300, 3) := by decide +kernel
theorem dX5_mergeBlocks_74 : decode cX5_mergeBlocks 74 = .ok (.iinc 2 1, 3) := by decide +kernel
theorem dX5_mergeBlocks_77 : decode cX5_mergeBlocks 77 = .ok (.iinc 4 1, 3) := by decide +kernel
theorem dX5_mergeBlocks_80 : decode cX5_mergeBlocks 80 = .ok (.goto (-53), 3) := by decide +kernel
theorem dX5_mergeBlocks_83 : decode cX5_mergeBlocks 83 = .ok (.iload_n 2, 1) := by decide +kernel
theorem dX5_mergeBlocks_84 : decode cX5_mergeBlocks 84 = .ok (.ifCond .le 16, 3) := by decide +kernel
theorem dX5_mergeBlocks_87 : decode cX5_mergeBlocks 87 = .ok (.aload_n 0, 1) := by decide +kernel
theorem dX5_mergeBlocks_88 : decode cX5_mergeBlocks 88 = .ok (.getfield 39, 3) := by decide +kernel
theorem dX5_mergeBlocks_91 : decode cX5_mergeBlocks 91 = .ok (.aload_n 1, 1) := by decide +kernel
theorem dX5_mergeBlocks_92 : decode cX5_mergeBlocks 92 = .ok (.invokevirtual 111, 3) := by decide +kernel
theorem dX5_mergeBlocks_95 : decode cX5_mergeBlocks 95 = .ok (.aload_n 0, 1) := by decide +kernel
theorem dX5_mergeBlocks_96 : decode cX5_mergeBlocks 96 = .ok (.aload_n 1, 1) := by decide +kernel
theorem dX5_mergeBlocks_97 : decode cX5_mergeBlocks 97 = .ok (.invokevirtual 211, 3) := by decide +kernel
theorem dX5_mergeBlocks_100 : decode cX5_mergeBlocks 100 = .ok (.iload_n 2, 1) := by decide +kernel
theorem dX5_mergeBlocks_101 : decode cX5_mergeBlocks 101 = .ok (.ireturn, 1) := by decide +kernel
theorem qw606 : Cond.code yX5_mergeable cX5_mergeable 4 (Option.some Jvm.ClassFile.FieldType.int) ∈ gw := mq_8 (i := 111) rfl rfl
theorem qw607 : Cond.methodLink RX5 296 yX5_mergeable ∈ gw := mq_8 (i := 108) rfl rfl
theorem qw608 : Cond.instanceMethod yX5_mergeable ∈ gw := mq_8 (i := 110) rfl rfl
theorem qw609 : Cond.selects RX5 yX5_mergeable yX5_mergeable ∈ gw := mk_s (i := 58) rfl rfl
theorem qw614 : Cond.code yX5_mergeInto cX5_mergeInto 7 (Option.none : Option Jvm.ClassFile.FieldType) ∈ gw := mq_8 (i := 115) rfl rfl
theorem qw615 : Cond.methodLink RX5 300 yX5_mergeInto ∈ gw := mq_8 (i := 112) rfl rfl
theorem qw616 : Cond.instanceMethod yX5_mergeInto ∈ gw := mq_8 (i := 114) rfl rfl
theorem qw617 : Cond.selects RX5 yX5_mergeInto yX5_mergeInto ∈ gw := mk_s (i := 59) rfl rfl
theorem qw618 : Cond.fieldLink RX0 12 "Gearbox$Allocator" "work" "LGearbox$Flow;" ∈ gw := mq_3 (i := 85) rfl rfl
theorem qw619 : Cond.fieldLink RX0 241 "Gearbox$Flow" "end" "[I" ∈ gw := mq_2 (i := 8) rfl rfl
theorem qw620 : Cond.fieldLink RX0 244 "Gearbox$Flow" "first" "[I" ∈ gw := mq_2 (i := 24) rfl rfl
theorem qw621 : Cond.methodLink RX0 247 yX1_leads ∈ gw := mq_9 (i := 125) rfl rfl
theorem qw622 : Cond.fieldLink RX0 41 "Gearbox$Allocator" "slot" "[I" ∈ gw := mq_3 (i := 105) rfl rfl
theorem qw623 : Cond.fieldLink RX0 90 "Gearbox$Allocator" "values" "I" ∈ gw := mq_3 (i := 101) rfl rfl
theorem qw624 : Cond.fieldLink RX0 44 "Gearbox$Allocator" "number" "[I" ∈ gw := mq_3 (i := 106) rfl rfl
theorem qw625 : Cond.methodLink RX0 145 yX1_addStep ∈ gw := mq_8 (i := 181) rfl rfl
theorem qw626 : Cond.fieldLink RX0 37 "Gearbox$Allocator" "graph" "LGearbox$Graph;" ∈ gw := mq_3 (i := 99) rfl rfl
theorem qw627 : Cond.fieldLink RX0 225 "Gearbox$Graph" "giver" "[I" ∈ gw := mq_3 (i := 40) rfl rfl
theorem qw628 : Cond.fieldLink RX0 209 "Gearbox$Graph" "givers" "[I" ∈ gw := mq_3 (i := 38) rfl rfl
theorem qw629 : Cond.fieldLink RX0 155 "Gearbox$Flow" "steps" "LGearbox$Steps;" ∈ gw := mq_1 (i := 223) rfl rfl
theorem qw630 : Cond.fieldLink RX0 159 "Gearbox$Steps" "kind" "[I" ∈ gw := mq_1 (i := 165) rfl rfl
theorem qw631 : Cond.fieldLink RX0 165 "Gearbox$Steps" "left" "[I" ∈ gw := mq_1 (i := 179) rfl rfl
theorem qw632 : Cond.fieldLink RX0 71 "Gearbox$Allocator" "slotCount" "I" ∈ gw := mq_3 (i := 103) rfl rfl
theorem qw633 : Cond.fieldLink RX0 50 "Gearbox$Allocator" "copyFrom" "[I" ∈ gw := mq_3 (i := 108) rfl rfl
theorem qw634 : Cond.fieldLink RX0 47 "Gearbox$Allocator" "copyTo" "[I" ∈ gw := mq_3 (i := 107) rfl rfl
theorem qw635 : Cond.fieldLink RX0 212 "Gearbox$Graph" "register" "[I" ∈ gw := mq_3 (i := 42) rfl rfl
theorem qw636 : Cond.fieldLink RX0 162 "Gearbox$Steps" "gives" "[I" ∈ gw := mq_1 (i := 172) rfl rfl
theorem qw645 : Cond.fieldLink RX0 130 "Gearbox$Flow" "firstPhi" "[I" ∈ gw := mq_1 (i := 238) rfl rfl
theorem qw646 : Cond.methodLink RX0 133 yX1_take ∈ gw := mq_8 (i := 176) rfl rfl
theorem qw647 : Cond.fieldLink RX0 136 "Gearbox$Flow" "phiGives" "[I" ∈ gw := mq_2 (i := 59) rfl rfl
theorem qw648 : Cond.fieldLink RX0 139 "Gearbox$Flow" "phiNext" "[I" ∈ gw := mq_2 (i := 65) rfl rfl
theorem qw649 : Cond.code yX0_firstFree cX0_firstFree 5 (Option.some Jvm.ClassFile.FieldType.int) ∈ gw := mq_8 (i := 180) rfl rfl
theorem qw650 : Cond.methodLink RX0 142 yX0_firstFree ∈ gw := mq_8 (i := 177) rfl rfl
theorem qw651 : Cond.instanceMethod yX0_firstFree ∈ gw := mq_8 (i := 179) rfl rfl
theorem qw652 : Cond.selects RX0 yX0_firstFree yX0_firstFree ∈ gw := mk_s (i := 60) rfl rfl
theorem qw653 : Cond.initialized RX0 ∈ gw := mq_1 (i := 24) rfl rfl
theorem qw654 : Cond.code yX0_saveFirst cX0_saveFirst 5 (Option.none : Option Jvm.ClassFile.FieldType) ∈ gw := mq_8 (i := 185) rfl rfl
theorem qw655 : Cond.methodLink RX0 149 yX0_saveFirst ∈ gw := mq_8 (i := 182) rfl rfl
theorem qw656 : Cond.instanceMethod yX0_saveFirst ∈ gw := mq_8 (i := 184) rfl rfl
theorem qw657 : Cond.selects RX0 yX0_saveFirst yX0_saveFirst ∈ gw := mk_s (i := 61) rfl rfl
theorem qw666 : Cond.fieldLink RX2 62 "Gearbox$Graph" "values" "I" ∈ gw := mq_3 (i := 24) rfl rfl
theorem qw667 : Cond.fieldLink RX2 65 "Gearbox$Graph" "width" "I" ∈ gw := mq_3 (i := 25) rfl rfl
theorem qw669 : Cond.fieldLink RX2 11 "Gearbox$Graph" "uses" "[J" ∈ gw := mq_3 (i := 26) rfl rfl
theorem qw670 : Cond.arrayClass Jvm.ClassFile.FieldType.long ∈ gw := mq_1 (i := 143) rfl rfl
theorem qw671 : Cond.code yJ7_copyOf_c38d5 cJ7_copyOf_c38d5 3 (Option.some (Jvm.ClassFile.FieldType.array Jvm.ClassFile.FieldType.long)) ∈ gw := mq_8 (i := 200) rfl rfl
theorem qw672 : Cond.methodLink RX11 393 yJ7_copyOf_c38d5 ∈ gw := mq_8 (i := 198) rfl rfl
theorem qw673 : Cond.static yJ7_copyOf_c38d5 ∈ gw := mq_8 (i := 199) rfl rfl
theorem qw674 : Cond.code yX11_atLeast_ cX11_atLeast_ 2 (Option.some (Jvm.ClassFile.FieldType.array Jvm.ClassFile.FieldType.long)) ∈ gw := mq_8 (i := 197) rfl rfl
theorem qw675 : Cond.static yX11_atLeast_ ∈ gw := mq_8 (i := 196) rfl rfl
theorem qw676 : Cond.fieldLink RX2 15 "Gearbox$Graph" "givenIn" "[J" ∈ gw := mq_3 (i := 27) rfl rfl
theorem qw677 : Cond.fieldLink RX2 18 "Gearbox$Graph" "liveIn" "[J" ∈ gw := mq_3 (i := 28) rfl rfl
theorem qw678 : Cond.fieldLink RX2 21 "Gearbox$Graph" "live" "[J" ∈ gw := mq_3 (i := 29) rfl rfl
theorem qw679 : Cond.fieldLink RX2 31 "Gearbox$Graph" "near" "[J" ∈ gw := mq_3 (i := 33) rfl rfl
theorem qw680 : Cond.fieldLink RX2 34 "Gearbox$Graph" "mate" "[I" ∈ gw := mq_3 (i := 34) rfl rfl
theorem qw681 : Cond.fieldLink RX2 37 "Gearbox$Graph" "degree" "[I" ∈ gw := mq_3 (i := 35) rfl rfl
theorem qw682 : Cond.fieldLink RX2 40 "Gearbox$Graph" "cost" "[J" ∈ gw := mq_3 (i := 36) rfl rfl
theorem qw683 : Cond.fieldLink RX2 43 "Gearbox$Graph" "givers" "[I" ∈ gw := mq_3 (i := 37) rfl rfl
theorem qw684 : Cond.fieldLink RX2 46 "Gearbox$Graph" "giver" "[I" ∈ gw := mq_3 (i := 39) rfl rfl
theorem qw685 : Cond.fieldLink RX2 49 "Gearbox$Graph" "register" "[I" ∈ gw := mq_3 (i := 41) rfl rfl
theorem qw686 : Cond.fieldLink RX2 52 "Gearbox$Graph" "left" "[I" ∈ gw := mq_3 (i := 43) rfl rfl
theorem qw687 : Cond.fieldLink RX2 55 "Gearbox$Graph" "order" "[I" ∈ gw := mq_3 (i := 44) rfl rfl
def fX5_mergeBlocks_J77 (kk27 : Int32 → Int32 → Int32 → ST → SL → ST → ST → Option (Int32 × ST × SL × ST × ST)) (v4_27 : Int32) (y0_55 : Int32) (v2_77 : Int32) (p0w_77 : ST) (p0l_77 : SL) (p1w_77 : ST) (p1_2w_77 : ST) : Option (Int32 × ST × SL × ST × ST) := (kk27 v2_77 y0_55 (v4_27 + 1) p0w_77 p0l_77 p1w_77 p1_2w_77)
def fX5_mergeBlocks_J55 (kk27 : Int32 → Int32 → Int32 → ST → SL → ST → ST → Option (Int32 × ST × SL × ST × ST)) (p1n : Nat → Nat) (p1_2n : Nat → Nat) (v2_27 : Int32) (v4_27 : Int32) (p0w_27 : ST) (p0l_27 : SL) (p1w_27 : ST) (p1_2w_27 : ST) (o_5 : Int32) (y0_55 : Int32) : Option (Int32 × ST × SL × ST × ST) := (if y0_55 = 0 then (fX5_mergeBlocks_J77 kk27 v4_27 y0_55 v2_27 p0w_27 p0l_27 p1w_27 p1_2w_27) else (if ixb o_5 60 = true then ((fX5_mergeInto p0w_27 p0l_27 p1n p1w_27 o_5 (p1w_27 10 (nn o_5)) p1_2n p1_2w_27).bind fun (o_9 : ST × SL × ST × ST) => (fX5_mergeBlocks_J77 kk27 v4_27 y0_55 (v2_27 + 1) (o_9.1) (o_9.2.1) (o_9.2.2.1) (o_9.2.2.2))) else none))
def fX5_mergeBlocks_L27 (p1n : Nat → Nat) (p1_2n : Nat → Nat) : Nat → Int32 → Int32 → Int32 → ST → SL → ST → ST → Option (Int32 × ST × SL × ST × ST)
  | 0 => fun _ _ _ _ _ _ _ => none
  | n_27 + 1 => fun v2_27 v3_27 v4_27 p0w_27 p0l_27 p1w_27 p1_2w_27 => (if v3_27 = 0 then some (v2_27, p0w_27, p0l_27, p1w_27, p1_2w_27) else (if 60 < v4_27 then some (v2_27, p0w_27, p0l_27, p1w_27, p1_2w_27) else ((fX5_mergeable p0l_27 p1w_27).bind fun (o_5 : Int32) => (if o_5 < 0 then (fX5_mergeBlocks_J55 (fX5_mergeBlocks_L27 p1n p1_2n n_27) p1n p1_2n v2_27 v4_27 p0w_27 p0l_27 p1w_27 p1_2w_27 o_5 0) else (fX5_mergeBlocks_J55 (fX5_mergeBlocks_L27 p1n p1_2n n_27) p1n p1_2n v2_27 v4_27 p0w_27 p0l_27 p1w_27 p1_2w_27 o_5 1)))))
def fX5_mergeBlocks_J100 (o27 : Int32 × ST × SL × ST × ST) (p1w_100 : ST) (p1l_100 : SL) (p1_2w_100 : ST) (p0_0w_100 : ST) : Option (Int32 × ST × SL × ST × SL × ST × ST) := some ((o27.1), (o27.2.1), (o27.2.2.1), p1w_100, p1l_100, p1_2w_100, p0_0w_100)
def fX5_mergeBlocks (p0w : ST) (p0l : SL) (p1n : Nat → Nat) (p1w : ST) (p1l : SL) (p1_2n : Nat → Nat) (p1_2w : ST) (p0_0w : ST) : Option (Int32 × ST × SL × ST × SL × ST × ST) := ((fJ7_fill_53178 250 (p0w 6) (-1)).bind fun (o_1 : RI) => (lt9 (upl p0l 0 7 ((((1 : Int64) <<< (((p1w 0 0) : Int32).toInt64 &&& 63))) - (1 : Int64))) fun (l2 : SL) => ((fX5_mergeBlocks_L27 p1n p1_2n NF 0 1 0 (srw p0w 6 o_1) l2 p1w p1_2w).bind fun (o27 : Int32 × ST × SL × ST × ST) => (if (o27.1) ≤ 0 then (fX5_mergeBlocks_J100 o27 (o27.2.2.2.1) p1l (o27.2.2.2.2) p0_0w) else ((fX8_renumber p0_0w p1n (o27.2.2.2.1) p1l).bind fun (o_12 : ST × ST × SL) => ((fX5_useStandIns (o27.2.1) p1n (o_12.2.1) p1_2n (o27.2.2.2.2)).bind fun (o_13 : ST × ST) => (fX5_mergeBlocks_J100 o27 (o_13.1) (o_12.2.2) (o_13.2) (o_12.1))))))))
set_option maxHeartbeats 16000000 in
set_option maxRecDepth 100000 in
theorem kX5_mergeBlocks {zs : Nat × Nat} (l : Launch) (dC : Nat → ClassId) (dI : Nat → Nat → Nat) (p0a : Nat → Nat) (p0k : Nat → ClassId) (p0w : ST) (p0l : SL) (p1a : Nat → Nat) (p1k : Nat → ClassId) (p1n : Nat → Nat) (p1w : ST) (p1l : SL) (p1_2a : Nat → Nat) (p1_2k : Nat → ClassId) (p1_2n : Nat → Nat) (p1_2w : ST) (p0_0a : Nat → Nat) (p0_0k : Nat → ClassId) (p0_0w : ST) (sz : Nat) (o : Int32 × ST × SL × ST × SL × ST × ST) (hrun : fX5_mergeBlocks p0w p0l p1n p1w p1l p1_2n p1_2w p0_0w = some o) : Met l yX5_mergeBlocks (wz yX5_mergeBlocks cX5_mergeBlocks 6 (Option.some Jvm.ClassFile.FieldType.int)) ({ frames := 5, cells := 0, slots := 0, locals := 121 } : Room) (va_Pc [.ref (p0a 0), .ref (p1a 0)] (PRE zs dC dI ((oX5 (p0a 0) p0a p0k p0w p0l) ++ (oX1 (p1a 0) p1a p1k p1n p1w p1l) ++ (oX9 (p1a 3) p1_2a p1_2k p1_2n p1_2w) ++ (oX8 (p0a 1) p0_0a p0_0k p0_0w)) ((tX5 p0k) ++ (tX1 p1k) ++ (tX9 p1_2k) ++ (tX8 p0_0k)) sz)) (va_Qi (fun (r : Int32) (_ : Unit) => r = (o.1)) (fun _ t => POST dC dI ((oX5 (p0a 0) p0a p0k (o.2.1) (o.2.2.1)) ++ (oX1 (p1a 0) p1a p1k p1n (o.2.2.2.1) (o.2.2.2.2.1)) ++ (oX9 (p1a 3) p1_2a p1_2k p1_2n (o.2.2.2.2.2.1)) ++ (oX8 (p0a 1) p0_0a p0_0k (o.2.2.2.2.2.2))) ((tX5 p0k) ++ (tX1 p1k) ++ (tX9 p1_2k) ++ (tX8 p0_0k)) (va_A ((oX5 (p0a 0) p0a p0k p0w p0l) ++ (oX1 (p1a 0) p1a p1k p1n p1w p1l) ++ (oX9 (p1a 3) p1_2a p1_2k p1_2n p1_2w) ++ (oX8 (p0a 1) p0_0a p0_0k p0_0w)) sz) t) (va_A ((oX5 (p0a 0) p0a p0k p0w p0l) ++ (oX1 (p1a 0) p1a p1k p1n p1w p1l) ++ (oX9 (p1a 3) p1_2a p1_2k p1_2n p1_2w) ++ (oX8 (p0a 1) p0_0a p0_0k p0_0w)) sz)) 0 0 (va_A ((oX5 (p0a 0) p0a p0k p0w p0l) ++ (oX1 (p1a 0) p1a p1k p1n p1w p1l) ++ (oX9 (p1a 3) p1_2a p1_2k p1_2n p1_2w) ++ (oX8 (p0a 1) p0_0a p0_0k p0_0w)) sz) := by
  refine Met.ofW (cc := cX5_mergeBlocks) (maxL := 6) (ret := (Option.some Jvm.ClassFile.FieldType.int)) (by decide) rfl ?_
  intro p e s m args below meth c s₁ B hml hv
  obtain ⟨rfl, hsz, hP, hK, hD0, hE⟩ := hv
  have hx := B.exec
  have hb := B.bytes
  have hr := B.returns
  have hts0 := atoms_spec (ws := wz yX5_mergeBlocks cX5_mergeBlocks 6 (Option.some Jvm.ClassFile.FieldType.int)) B.pre
  have hts : ∀ w ∈ gw, w.before _ s = true := fun w h => hts0 w (List.mem_cons_of_mem _ h)
  have hown : s.vm.findClass RX5 = some m.cls := findClass_of_methodNamed B.named
  have hlocks := B.notSynchronized
  subst hsz
  have hD := hD0.self (sz := s.heap.size)
  refine gQ9 ?_
  intro Q hQ
  generalize hAe : va_A ((oX5 (p0a 0) p0a p0k p0w p0l) ++ (oX1 (p1a 0) p1a p1k p1n p1w p1l) ++ (oX9 (p1a 3) p1_2a p1_2k p1_2n p1_2w) ++ (oX8 (p0a 1) p0_0a p0_0k p0_0w)) s.heap.size = A at hD hE hQ
  have hA : ∀ q : Nat, s.heap.size ≤ q → A q := fun q h => by rw [← hAe]; exact Or.inr h
  have hS : va_S A s.heap s.heap [] := va_S.rf
  have hP : va_P (dC, dI) cls ((oX5 (p0a 0) p0a p0k p0w p0l) ++ (oX1 (p1a 0) p1a p1k p1n p1w p1l) ++ (oX9 (p1a 3) p1_2a p1_2k p1_2n p1_2w) ++ (oX8 (p0a 1) p0_0a p0_0k p0_0w)) s.heap := hP
  have hl := lv_entry ([.ref (p0a 0), .ref (p1a 0)]) (n := 6) (Nat.le_of_ble_eq_true rfl)
  rw [lg_entry_eq]
  generalize (lg_sl ([.ref (p0a 0), .ref (p1a 0)]) ++ List.replicate (6 - (lg_sl ([.ref (p0a 0), .ref (p1a 0)])).length) Slot.unset).toArray = ls at hl ⊢
  have hl : lv_has ls 6 [(0, .ref (p0a 0)), (1, .ref (p1a 0))] := hl
  obtain ⟨H, hHe⟩ : ∃ H, H = s.heap := ⟨_, rfl⟩
  obtain ⟨locs, hle⟩ : ∃ locs : List Loc, locs = [] := ⟨_, rfl⟩
  rw [← hHe] at hP
  have hS : va_S A s.heap H locs := by rw [hHe, hle]; exact hS
  show W p l e ({ frames := 5, cells := 0, slots := 0, locals := 121 } : Room) s m ([.ref (p0a 0), .ref (p1a 0)] : List Value).toArray below meth c s.heap [] 0 0 Q (F0 m 0 ls [])
  rw [← hle]
  refine wH9 hHe ?_
  unfold fX5_mergeBlocks at hrun
  refine lv_aload_n hx hb dX5_mergeBlocks_0 rfl (lv_at hl 0 rfl) ?_
  refine va_get (D := (dC, dI)) (ci := 7) (v := .ref (p0a 6)) (C := RX5) (T := TX5) (N := 12) hx hb hts i_X5 hown hK hP 0 rfl rfl 5 (by decide) (hts _ qw539) (fun _ h9 => h9) rfl dX5_mergeBlocks_1 ?_
  refine lv_iconst (v := (-1)) hx hb dX5_mergeBlocks_4 (by decide) ?_
  obtain ⟨o_1, hc_1, hrun⟩ := bnd9 hrun
  have hPc := hP.sub (ws' := [((p0a 6), .inl ((p0k 6), 250, .inl (p0w 6)))]) [5] rfl
  have hDc := hD.sub (ws' := [((p0a 6), .inl ((p0k 6), 250, .inl (p0w 6)))]) [5] (by decide) rfl
  have hKc := hK.sub (tys' := [((p0k 6), .int)]) [4] rfl
  have hFc := va_free (wc := [((p0a 6), .inl ((p0k 6), 250, .inl (p0w 6)))]) hD hS hA [5] rfl
  refine va_callv (va_runS (As := [.ref (p0a 6), .int (-1)]) (rest := []) ⟨hx, hb, hml, hown, hts⟩ (kJ7_fill_53178 l dC dI (p0a := (p0a 6)) (p0k := (p0k 6)) (p0n := 250) (p0f := (p0w 6)) (p1 := (-1)) (sz := _) (o := o_1) (hrun := hc_1)) (va_cwS 2 hts (gi_S qw428 qw218 qw109 (gi_z qw216)) rfl rfl rfl (by decide +kernel) ⟨Nat.le_of_ble_eq_true rfl, Nat.le_of_ble_eq_true rfl⟩) ⟨PRE.blind, PRE.of hE hS hFc hPc hKc hDc⟩ rfl rfl hl.1 rfl (lv_room (Nat.le_of_ble_eq_true rfl)) dX5_mergeBlocks_5 ⟨(Nat.le_of_ble_eq_true rfl), (Nat.le_of_ble_eq_true rfl)⟩) hS (fun q _ h => hFc q h) hFc (fun u t H locs ht hvm hw hB hz1 hk1 hS => ?_)
  obtain ⟨hP, hD, hK⟩ := JOIN (wr := ([((p0a 0), .inr (7, [.ref (p0a 1), .ref (p0a 2), .ref (p0a 3), .ref (p0a 4), .ref (p0a 5), .ref (p0a 6), .ref (p0a 7), .long (p0l 0 7), .ref (p0a 9), .ref (p0a 10), .int (p0w 0 10), .ref (p0a 12)])), ((p0a 2), .inl ((p0k 2), 250, .inl (p0w 2))), ((p0a 3), .inl ((p0k 3), 250, .inl (p0w 3))), ((p0a 4), .inl ((p0k 4), 250, .inl (p0w 4))), ((p0a 5), .inl ((p0k 5), 250, .inl (p0w 5))), ((p0a 7), .inl ((p0k 7), 250, .inl (p0w 7))), ((p0a 9), .inl ((p0k 9), 250, .inl (p0w 9))), ((p0a 10), .inl ((p0k 10), 250, .inl (p0w 10))), ((p0a 12), .inl ((p0k 12), 60, .inl (p0w 12)))] ++ (oX1 (p1a 0) p1a p1k p1n p1w p1l) ++ (oX9 (p1a 3) p1_2a p1_2k p1_2n p1_2w) ++ (oX8 (p0a 1) p0_0a p0_0k p0_0w))) hP hD hK [5] [0, 1, 2, 3, 4, 6, 7, 8, 9, 10, 11, 12, 13, 14, 15, 16, 17, 18, 19, 20, 21, 22, 23, 24, 25, 26, 27, 28, 29, 30, 31, 32, 33, 34, 35, 36, 37, 38, 39] [0, 1, 2, 3, 5, 6, 7, 8, 9, 10, 11, 12, 13, 14, 15, 16, 17, 18, 19, 20, 21, 22, 23, 24, 25, 26, 27, 28, 29, 30, 31, 32, 33, 34, 35] rfl rfl (by decide) (by decide) rfl hk1 hFc ht hvm hB
  have hP : va_P (dC, dI) cls ((oX5 (p0a 0) p0a p0k (srw p0w 6 o_1) p0l) ++ (oX1 (p1a 0) p1a p1k p1n p1w p1l) ++ (oX9 (p1a 3) p1_2a p1_2k p1_2n p1_2w) ++ (oX8 (p0a 1) p0_0a p0_0k p0_0w)) H := hP.sub [0, 1, 2, 3, 4, 39, 5, 6, 7, 8, 9, 10, 11, 12, 13, 14, 15, 16, 17, 18, 19, 20, 21, 22, 23, 24, 25, 26, 27, 28, 29, 30, 31, 32, 33, 34, 35, 36, 37, 38] rfl
  have hD : va_D A ((oX5 (p0a 0) p0a p0k (srw p0w 6 o_1) p0l) ++ (oX1 (p1a 0) p1a p1k p1n p1w p1l) ++ (oX9 (p1a 3) p1_2a p1_2k p1_2n p1_2w) ++ (oX8 (p0a 1) p0_0a p0_0k p0_0w)) := hD.sub [0, 1, 2, 3, 4, 39, 5, 6, 7, 8, 9, 10, 11, 12, 13, 14, 15, 16, 17, 18, 19, 20, 21, 22, 23, 24, 25, 26, 27, 28, 29, 30, 31, 32, 33, 34, 35, 36, 37, 38] (by decide) rfl
  have hK : va_K (dC, dI) cls ((tX5 p0k) ++ (tX1 p1k) ++ (tX9 p1_2k) ++ (tX8 p0_0k)) s := hK.sub [0, 1, 2, 3, 35, 4, 5, 6, 7, 8, 9, 10, 11, 12, 13, 14, 15, 16, 17, 18, 19, 20, 21, 22, 23, 24, 25, 26, 27, 28, 29, 30, 31, 32, 33, 34] rfl
  refine lv_iconst (v := 0) hx hb dX5_mergeBlocks_8 (by decide) ?_
  refine lv_istore_n (lv' := [(2, .int 0), (0, .ref (p0a 0)), (1, .ref (p1a 0))]) hx hb dX5_mergeBlocks_9 rfl hl (by decide) rfl (fun ls hl => ?_)
  refine lv_aload_n hx hb dX5_mergeBlocks_10 rfl (lv_at hl 1 rfl) ?_
  refine lv_lconst (v := 1) hx hb dX5_mergeBlocks_11 (by decide) ?_
  refine lv_aload_n hx hb dX5_mergeBlocks_12 rfl (lv_at hl 2 rfl) ?_
  refine va_get (D := (dC, dI)) (ci := 4) (v := .int (p1w 0 0)) (C := RX1) (T := TX1) (N := 21) hx hb hts i_X1 hown hK hP 10 rfl rfl 0 (by decide) (hts _ qw430) (fun _ h9 => h9) rfl dX5_mergeBlocks_13 ?_
  refine lv_lshl (v := (((1 : Int64) <<< (((p1w 0 0) : Int32).toInt64 &&& 63)))) hx hb dX5_mergeBlocks_16 rfl ?_
  refine lv_lconst (v := 1) hx hb dX5_mergeBlocks_17 (by decide) ?_
  refine lv_lsub hx hb dX5_mergeBlocks_18 ?_
  refine va_put (D := (dC, dI)) (ci := 7) (v := .long ((((1 : Int64) <<< (((p1w 0 0) : Int32).toInt64 &&& 63))) - (1 : Int64))) (ty := .long) (C := RX5) (T := TX5) (N := 12) hx hb hts i_X5 tyX5 tyX5_ok nmX5 hown hK hP hD hS 0 rfl rfl 7 (by decide) (hts _ qw504) (fun _ h9 => h9) rfl (by decide +kernel) rfl rfl (Nat.le_of_ble_eq_true rfl) dX5_mergeBlocks_19 (fun H locs hP hD hS => ?_)
  have hP : va_P (dC, dI) cls ((oX5 (p0a 0) p0a p0k (srw p0w 6 o_1) (upl p0l 0 7 ((((1 : Int64) <<< (((p1w 0 0) : Int32).toInt64 &&& 63))) - (1 : Int64)))) ++ (oX1 (p1a 0) p1a p1k p1n p1w p1l) ++ (oX9 (p1a 3) p1_2a p1_2k p1_2n p1_2w) ++ (oX8 (p0a 1) p0_0a p0_0k p0_0w)) H := hP
  have hD : va_D A ((oX5 (p0a 0) p0a p0k (srw p0w 6 o_1) (upl p0l 0 7 ((((1 : Int64) <<< (((p1w 0 0) : Int32).toInt64 &&& 63))) - (1 : Int64)))) ++ (oX1 (p1a 0) p1a p1k p1n p1w p1l) ++ (oX9 (p1a 3) p1_2a p1_2k p1_2n p1_2w) ++ (oX8 (p0a 1) p0_0a p0_0k p0_0w)) := hD
  obtain ⟨l2, el2, hrun⟩ := let9 hrun
  rw [← el2] at hP hD
  refine lv_iconst (v := 1) hx hb dX5_mergeBlocks_22 (by decide) ?_
  refine lv_istore_n (lv' := [(3, .int 1), (2, .int 0), (0, .ref (p0a 0)), (1, .ref (p1a 0))]) hx hb dX5_mergeBlocks_23 rfl hl (by decide) rfl (fun ls hl => ?_)
  refine lv_iconst (v := 0) hx hb dX5_mergeBlocks_24 (by decide) ?_
  refine lv_istore (lv' := [(4, .int 0), (3, .int 1), (2, .int 0), (0, .ref (p0a 0)), (1, .ref (p1a 0))]) hx hb dX5_mergeBlocks_25 hl (by decide) rfl (fun ls hl => ?_)
  have L27 : ∀ (n_27 : Nat) (v2_27 : Int32) (v3_27 : Int32) (v4_27 : Int32) (p0w_27 : ST) (p0l_27 : SL) (p1w_27 : ST) (p1_2w_27 : ST) (o27 : Int32 × ST × SL × ST × ST) (H : Heap) (locs : List Loc) (ls : Array Slot), (fX5_mergeBlocks_L27 p1n p1_2n n_27) v2_27 v3_27 v4_27 p0w_27 p0l_27 p1w_27 p1_2w_27 = some o27 → va_P (dC, dI) cls ((oX5 (p0a 0) p0a p0k p0w_27 p0l_27) ++ (oX1 (p1a 0) p1a p1k p1n p1w_27 p1l) ++ (oX9 (p1a 3) p1_2a p1_2k p1_2n p1_2w_27) ++ (oX8 (p0a 1) p0_0a p0_0k p0_0w)) H → va_D A ((oX5 (p0a 0) p0a p0k p0w_27 p0l_27) ++ (oX1 (p1a 0) p1a p1k p1n p1w_27 p1l) ++ (oX9 (p1a 3) p1_2a p1_2k p1_2n p1_2w_27) ++ (oX8 (p0a 1) p0_0a p0_0k p0_0w)) → va_K (dC, dI) cls ((tX5 p0k) ++ (tX1 p1k) ++ (tX9 p1_2k) ++ (tX8 p0_0k)) s → va_S A s.heap H locs → lv_has ls 6 [(0, .ref (p0a 0)), (1, .ref (p1a 0)), (2, .int v2_27), (3, .int v3_27), (4, .int v4_27)] → (∀ (H : Heap) (locs : List Loc) (ls : Array Slot), va_P (dC, dI) cls ((oX5 (p0a 0) p0a p0k (o27.2.1) (o27.2.2.1)) ++ (oX1 (p1a 0) p1a p1k p1n (o27.2.2.2.1) p1l) ++ (oX9 (p1a 3) p1_2a p1_2k p1_2n (o27.2.2.2.2)) ++ (oX8 (p0a 1) p0_0a p0_0k p0_0w)) H → va_D A ((oX5 (p0a 0) p0a p0k (o27.2.1) (o27.2.2.1)) ++ (oX1 (p1a 0) p1a p1k p1n (o27.2.2.2.1) p1l) ++ (oX9 (p1a 3) p1_2a p1_2k p1_2n (o27.2.2.2.2)) ++ (oX8 (p0a 1) p0_0a p0_0k p0_0w)) → va_K (dC, dI) cls ((tX5 p0k) ++ (tX1 p1k) ++ (tX9 p1_2k) ++ (tX8 p0_0k)) s → va_S A s.heap H locs → lv_has ls 6 [(0, .ref (p0a 0)), (1, .ref (p1a 0)), (2, .int (o27.1))] → W p l e ({ frames := 5, cells := 0, slots := 0, locals := 121 } : Room) s m ([.ref (p0a 0), .ref (p1a 0)] : List Value).toArray below meth c H locs 0 0 Q (F0 m 83 ls [])) → W p l e ({ frames := 5, cells := 0, slots := 0, locals := 121 } : Room) s m ([.ref (p0a 0), .ref (p1a 0)] : List Value).toArray below meth c H locs 0 0 Q (F0 m 27 ls []) := by
    intro n_27
    induction n_27 with
    | zero => intro v2_27 v3_27 v4_27 p0w_27 p0l_27 p1w_27 p1_2w_27 o27 H locs ls hrun; exact (no9 rfl hrun).elim
    | succ n_27 IH27 =>
      intro v2_27 v3_27 v4_27 p0w_27 p0l_27 p1w_27 p1_2w_27 o27 H locs ls hrun hP hD hK hS hl hk27
      unfold fX5_mergeBlocks_L27 at hrun
      refine lv_iload_n hx hb dX5_mergeBlocks_27 rfl (lv_at hl 3 rfl) ?_
      rcases br9 hrun with ⟨hc3, hrun⟩ | ⟨hc3, hrun⟩
      · refine lv_if_eq (tgt := 83) hx hb dX5_mergeBlocks_28 (by decide) (fun _ => ?_) (fun c => absurd hc3 c)
        obtain rfl := (Option.some.inj hrun)
        exact hk27 _ _ _ hP hD hK hS (lv_sub hl [0, 1, 2] rfl)
      · refine lv_if_eq (tgt := 83) hx hb dX5_mergeBlocks_28 (by decide) (fun c => absurd c hc3) (fun _ => ?_)
        refine lv_iload hx hb dX5_mergeBlocks_31 (lv_at hl 4 rfl) ?_
        refine lv_bipush (v := 60) hx hb dX5_mergeBlocks_33 (by decide) ?_
        rcases br9 hrun with ⟨hc4, hrun⟩ | ⟨hc4, hrun⟩
        · refine lv_icmp_gt (tgt := 83) hx hb dX5_mergeBlocks_35 (by decide) (fun _ => ?_) (fun c => absurd hc4 c)
          obtain rfl := (Option.some.inj hrun)
          exact hk27 _ _ _ hP hD hK hS (lv_sub hl [0, 1, 2] rfl)
        · refine lv_icmp_gt (tgt := 83) hx hb dX5_mergeBlocks_35 (by decide) (fun c => absurd c hc4) (fun _ => ?_)
          refine lv_aload_n hx hb dX5_mergeBlocks_38 rfl (lv_at hl 0 rfl) ?_
          refine lv_aload_n hx hb dX5_mergeBlocks_39 rfl (lv_at hl 1 rfl) ?_
          obtain ⟨o_5, hc_5, hrun⟩ := bnd9 hrun
          have hPc := hP.sub (ws' := ((oX5 (p0a 0) p0a p0k p0w_27 p0l_27) ++ (oX1 (p1a 0) p1a p1k p1n p1w_27 p1l))) [0, 1, 2, 3, 4, 5, 6, 7, 8, 9, 10, 11, 12, 13, 14, 15, 16, 17, 18, 19, 20, 21, 22, 23, 24, 25, 26, 27] rfl
          have hDc := hD.sub (ws' := ((oX5 (p0a 0) p0a p0k p0w_27 p0l_27) ++ (oX1 (p1a 0) p1a p1k p1n p1w_27 p1l))) [0, 1, 2, 3, 4, 5, 6, 7, 8, 9, 10, 11, 12, 13, 14, 15, 16, 17, 18, 19, 20, 21, 22, 23, 24, 25, 26, 27] (by decide) rfl
          have hKc := hK.sub (tys' := ((tX5 p0k) ++ (tX1 p1k))) [0, 1, 2, 3, 4, 5, 6, 7, 8, 9, 10, 11, 12, 13, 14, 15, 16, 17, 18, 19, 20, 21, 22, 23, 24, 25] rfl
          have hFc := va_free (wc := ((oX5 (p0a 0) p0a p0k p0w_27 p0l_27) ++ (oX1 (p1a 0) p1a p1k p1n p1w_27 p1l))) hD hS hA [0, 1, 2, 3, 4, 5, 6, 7, 8, 9, 10, 11, 12, 13, 14, 15, 16, 17, 18, 19, 20, 21, 22, 23, 24, 25, 26, 27] rfl
          refine va_calli (va_runV (As := [.ref (p1a 0)]) (rest := []) ⟨hx, hb, hml, hown, hts⟩ (kX5_mergeable l dC dI (p0a := (st0 (p0a 0) p0a)) (p0k := p0k) (p0w := p0w_27) (p0l := p0l_27) (p1a := (st0 (p1a 0) p1a)) (p1k := p1k) (p1n := p1n) (p1w := p1w_27) (p1l := p1l) (sz := _) (o := o_5) (hrun := hc_5)) (cwV 1 hts (gi_V qw607 qw608 qw609 qw442 (gi_z qw606)) rfl rfl rfl (by decide +kernel) ⟨Nat.le_of_ble_eq_true rfl, Nat.le_of_ble_eq_true rfl⟩) ⟨PRE.blind, va_recv hKc hPc (ci := 7) (q0 := 0) rfl rfl, PRE.of hE hS hFc hPc hKc hDc⟩ rfl rfl hl.1 rfl (lv_room (Nat.le_of_ble_eq_true rfl)) dX5_mergeBlocks_40 ⟨(Nat.le_of_ble_eq_true rfl), (Nat.le_of_ble_eq_true rfl)⟩) hS (fun q _ h => hFc q h) hFc (fun r6 u t H locs ht hvm hw hB hz1 hk1 hS => ?_)
          obtain ⟨hP, hD, hK⟩ := JOIN (wr := ((oX9 (p1a 3) p1_2a p1_2k p1_2n p1_2w_27) ++ (oX8 (p0a 1) p0_0a p0_0k p0_0w))) hP hD hK [0, 1, 2, 3, 4, 5, 6, 7, 8, 9, 10, 11, 12, 13, 14, 15, 16, 17, 18, 19, 20, 21, 22, 23, 24, 25, 26, 27] [28, 29, 30, 31, 32, 33, 34, 35, 36, 37, 38, 39] [26, 27, 28, 29, 30, 31, 32, 33, 34, 35] rfl rfl (by decide) (by decide) rfl hk1 hFc ht hvm hB
          have hP : va_P (dC, dI) cls ((oX5 (p0a 0) p0a p0k p0w_27 p0l_27) ++ (oX1 (p1a 0) p1a p1k p1n p1w_27 p1l) ++ (oX9 (p1a 3) p1_2a p1_2k p1_2n p1_2w_27) ++ (oX8 (p0a 1) p0_0a p0_0k p0_0w)) H := hP.sub [12, 13, 14, 15, 16, 17, 18, 19, 20, 21, 22, 23, 24, 25, 26, 27, 28, 29, 30, 31, 32, 33, 34, 35, 36, 37, 38, 39, 0, 1, 2, 3, 4, 5, 6, 7, 8, 9, 10, 11] rfl
          have hD : va_D A ((oX5 (p0a 0) p0a p0k p0w_27 p0l_27) ++ (oX1 (p1a 0) p1a p1k p1n p1w_27 p1l) ++ (oX9 (p1a 3) p1_2a p1_2k p1_2n p1_2w_27) ++ (oX8 (p0a 1) p0_0a p0_0k p0_0w)) := hD.sub [12, 13, 14, 15, 16, 17, 18, 19, 20, 21, 22, 23, 24, 25, 26, 27, 28, 29, 30, 31, 32, 33, 34, 35, 36, 37, 38, 39, 0, 1, 2, 3, 4, 5, 6, 7, 8, 9, 10, 11] (by decide) rfl
          have hK : va_K (dC, dI) cls ((tX5 p0k) ++ (tX1 p1k) ++ (tX9 p1_2k) ++ (tX8 p0_0k)) s := hK.sub [10, 11, 12, 13, 14, 15, 16, 17, 18, 19, 20, 21, 22, 23, 24, 25, 26, 27, 28, 29, 30, 31, 32, 33, 34, 35, 0, 1, 2, 3, 4, 5, 6, 7, 8, 9] rfl
          obtain rfl : o_5 = r6 := hw.symm
          refine lv_istore (lv' := [(5, .int o_5), (0, .ref (p0a 0)), (1, .ref (p1a 0)), (2, .int v2_27), (3, .int v3_27), (4, .int v4_27)]) hx hb dX5_mergeBlocks_43 hl (by decide) rfl (fun ls hl => ?_)
          refine lv_iload hx hb dX5_mergeBlocks_45 (lv_at hl 0 rfl) ?_
          have J55 : ∀ (y0_55 : Int32) (H : Heap) (locs : List Loc) (ls : Array Slot), (fX5_mergeBlocks_J55 (fX5_mergeBlocks_L27 p1n p1_2n n_27) p1n p1_2n v2_27 v4_27 p0w_27 p0l_27 p1w_27 p1_2w_27 o_5 y0_55) = some o27 → va_P (dC, dI) cls ((oX5 (p0a 0) p0a p0k p0w_27 p0l_27) ++ (oX1 (p1a 0) p1a p1k p1n p1w_27 p1l) ++ (oX9 (p1a 3) p1_2a p1_2k p1_2n p1_2w_27) ++ (oX8 (p0a 1) p0_0a p0_0k p0_0w)) H → va_D A ((oX5 (p0a 0) p0a p0k p0w_27 p0l_27) ++ (oX1 (p1a 0) p1a p1k p1n p1w_27 p1l) ++ (oX9 (p1a 3) p1_2a p1_2k p1_2n p1_2w_27) ++ (oX8 (p0a 1) p0_0a p0_0k p0_0w)) → va_K (dC, dI) cls ((tX5 p0k) ++ (tX1 p1k) ++ (tX9 p1_2k) ++ (tX8 p0_0k)) s → va_S A s.heap H locs → lv_has ls 6 [(0, .ref (p0a 0)), (1, .ref (p1a 0)), (2, .int v2_27), (4, .int v4_27), (5, .int o_5)] → W p l e ({ frames := 5, cells := 0, slots := 0, locals := 121 } : Room) s m ([.ref (p0a 0), .ref (p1a 0)] : List Value).toArray below meth c H locs 0 0 Q (F0 m 55 ls [.int y0_55]) := by
            intro y0_55 H locs ls hrun hP hD hK hS hl 
            unfold fX5_mergeBlocks_J55 at hrun
            refine lv_istore_n (lv' := [(3, .int y0_55), (0, .ref (p0a 0)), (1, .ref (p1a 0)), (2, .int v2_27), (4, .int v4_27), (5, .int o_5)]) hx hb dX5_mergeBlocks_55 rfl hl (by decide) rfl (fun ls hl => ?_)
            refine lv_iload_n hx hb dX5_mergeBlocks_56 rfl (lv_at hl 0 rfl) ?_
            have J77 : ∀ (v2_77 : Int32) (p0w_77 : ST) (p0l_77 : SL) (p1w_77 : ST) (p1_2w_77 : ST) (H : Heap) (locs : List Loc) (ls : Array Slot), (fX5_mergeBlocks_J77 (fX5_mergeBlocks_L27 p1n p1_2n n_27) v4_27 y0_55 v2_77 p0w_77 p0l_77 p1w_77 p1_2w_77) = some o27 → va_P (dC, dI) cls ((oX5 (p0a 0) p0a p0k p0w_77 p0l_77) ++ (oX1 (p1a 0) p1a p1k p1n p1w_77 p1l) ++ (oX9 (p1a 3) p1_2a p1_2k p1_2n p1_2w_77) ++ (oX8 (p0a 1) p0_0a p0_0k p0_0w)) H → va_D A ((oX5 (p0a 0) p0a p0k p0w_77 p0l_77) ++ (oX1 (p1a 0) p1a p1k p1n p1w_77 p1l) ++ (oX9 (p1a 3) p1_2a p1_2k p1_2n p1_2w_77) ++ (oX8 (p0a 1) p0_0a p0_0k p0_0w)) → va_K (dC, dI) cls ((tX5 p0k) ++ (tX1 p1k) ++ (tX9 p1_2k) ++ (tX8 p0_0k)) s → va_S A s.heap H locs → lv_has ls 6 [(0, .ref (p0a 0)), (1, .ref (p1a 0)), (2, .int v2_77), (3, .int y0_55), (4, .int v4_27)] → W p l e ({ frames := 5, cells := 0, slots := 0, locals := 121 } : Room) s m ([.ref (p0a 0), .ref (p1a 0)] : List Value).toArray below meth c H locs 0 0 Q (F0 m 77 ls []) := by
              intro v2_77 p0w_77 p0l_77 p1w_77 p1_2w_77 H locs ls hrun hP hD hK hS hl 
              unfold fX5_mergeBlocks_J77 at hrun
              refine lv_iinc (v := (v4_27 + 1)) (lv' := [(4, .int (v4_27 + 1)), (0, .ref (p0a 0)), (1, .ref (p1a 0)), (2, .int v2_77), (3, .int y0_55)]) hx hb dX5_mergeBlocks_77 hl (k := 4) rfl rfl (by decide) rfl (fun ls hl => ?_)
              refine lv_goto (tgt := 27) hx hb dX5_mergeBlocks_80 (by decide) ?_
              exact IH27 v2_77 y0_55 (v4_27 + 1) p0w_77 p0l_77 p1w_77 p1_2w_77 o27 _ _ _ hrun hP hD hK hS (lv_sub hl [1, 2, 3, 4, 0] rfl) hk27
            rcases br9 hrun with ⟨hc7, hrun⟩ | ⟨hc7, hrun⟩
            · refine lv_if_eq (tgt := 77) hx hb dX5_mergeBlocks_57 (by decide) (fun _ => ?_) (fun c => absurd hc7 c)
              exact J77 v2_27 p0w_27 p0l_27 p1w_27 p1_2w_27 _ _ _ hrun hP hD hK hS (lv_sub hl [1, 2, 3, 0, 4] rfl)
            · refine lv_if_eq (tgt := 77) hx hb dX5_mergeBlocks_57 (by decide) (fun c => absurd c hc7) (fun _ => ?_)
              refine lv_aload_n hx hb dX5_mergeBlocks_60 rfl (lv_at hl 1 rfl) ?_
              refine lv_aload_n hx hb dX5_mergeBlocks_61 rfl (lv_at hl 2 rfl) ?_
              refine lv_iload hx hb dX5_mergeBlocks_62 (lv_at hl 5 rfl) ?_
              refine lv_aload_n hx hb dX5_mergeBlocks_64 rfl (lv_at hl 2 rfl) ?_
              refine va_get (D := (dC, dI)) (ci := 4) (v := .ref (p1a 10)) (C := RX1) (T := TX1) (N := 21) hx hb hts i_X1 hown hK hP 10 rfl rfl 9 (by decide) (hts _ qw498) (fun _ h9 => h9) rfl dX5_mergeBlocks_65 ?_
              refine lv_iload hx hb dX5_mergeBlocks_68 (lv_at hl 5 rfl) ?_
              obtain ⟨hq8, hrun⟩ := chk9 hrun
              refine va_iald hx hb hK hP 17 15 rfl rfl (ixb_in hq8) dX5_mergeBlocks_70 ?_
              obtain ⟨o_9, hc_9, hrun⟩ := bnd9 hrun
              have hPc := hP.sub (ws' := ((oX5 (p0a 0) p0a p0k p0w_27 p0l_27) ++ (oX1 (p1a 0) p1a p1k p1n p1w_27 p1l) ++ (oX9 (p1a 3) p1_2a p1_2k p1_2n p1_2w_27))) [0, 1, 2, 3, 4, 5, 6, 7, 8, 9, 10, 11, 12, 13, 14, 15, 16, 17, 18, 19, 20, 21, 22, 23, 24, 25, 26, 27, 28, 29, 30, 31, 32, 33] rfl
              have hDc := hD.sub (ws' := ((oX5 (p0a 0) p0a p0k p0w_27 p0l_27) ++ (oX1 (p1a 0) p1a p1k p1n p1w_27 p1l) ++ (oX9 (p1a 3) p1_2a p1_2k p1_2n p1_2w_27))) [0, 1, 2, 3, 4, 5, 6, 7, 8, 9, 10, 11, 12, 13, 14, 15, 16, 17, 18, 19, 20, 21, 22, 23, 24, 25, 26, 27, 28, 29, 30, 31, 32, 33] (by decide) rfl
              have hKc := hK.sub (tys' := ((tX5 p0k) ++ (tX1 p1k) ++ (tX9 p1_2k))) [0, 1, 2, 3, 4, 5, 6, 7, 8, 9, 10, 11, 12, 13, 14, 15, 16, 17, 18, 19, 20, 21, 22, 23, 24, 25, 26, 27, 28, 29, 30] rfl
              have hFc := va_free (wc := ((oX5 (p0a 0) p0a p0k p0w_27 p0l_27) ++ (oX1 (p1a 0) p1a p1k p1n p1w_27 p1l) ++ (oX9 (p1a 3) p1_2a p1_2k p1_2n p1_2w_27))) hD hS hA [0, 1, 2, 3, 4, 5, 6, 7, 8, 9, 10, 11, 12, 13, 14, 15, 16, 17, 18, 19, 20, 21, 22, 23, 24, 25, 26, 27, 28, 29, 30, 31, 32, 33] rfl
              refine va_callv (va_runV (As := [.ref (p1a 0), .int o_5, .int (p1w_27 10 (nn o_5))]) (rest := []) ⟨hx, hb, hml, hown, hts⟩ (kX5_mergeInto l dC dI (p0a := (st0 (p0a 0) p0a)) (p0k := p0k) (p0w := p0w_27) (p0l := p0l_27) (p1a := (st0 (p1a 0) p1a)) (p1k := p1k) (p1n := p1n) (p1w := p1w_27) (p1l := p1l) (p2 := o_5) (p3 := (p1w_27 10 (nn o_5))) (p1_2a := p1_2a) (p1_2k := p1_2k) (p1_2n := p1_2n) (p1_2w := p1_2w_27) (sz := _) (o := o_9) (hrun := hc_9)) (cwV 3 hts (gi_V qw615 qw616 qw617 qw442 (gi_z qw614)) rfl rfl rfl (by decide +kernel) ⟨Nat.le_of_ble_eq_true rfl, Nat.le_of_ble_eq_true rfl⟩) ⟨PRE.blind, va_recv hKc hPc (ci := 7) (q0 := 0) rfl rfl, PRE.of hE hS hFc hPc hKc hDc⟩ rfl rfl hl.1 rfl (lv_room (Nat.le_of_ble_eq_true rfl)) dX5_mergeBlocks_71 ⟨(Nat.le_of_ble_eq_true rfl), (Nat.le_of_ble_eq_true rfl)⟩) hS (fun q _ h => hFc q h) hFc (fun u t H locs ht hvm hw hB hz1 hk1 hS => ?_)
              obtain ⟨hP, hD, hK⟩ := JOIN (wr := (oX8 (p0a 1) p0_0a p0_0k p0_0w)) hP hD hK [0, 1, 2, 3, 4, 5, 6, 7, 8, 9, 10, 11, 12, 13, 14, 15, 16, 17, 18, 19, 20, 21, 22, 23, 24, 25, 26, 27, 28, 29, 30, 31, 32, 33] [34, 35, 36, 37, 38, 39] [31, 32, 33, 34, 35] rfl rfl (by decide) (by decide) rfl hk1 hFc ht hvm hB
              have hP : va_P (dC, dI) cls ((oX5 (p0a 0) p0a p0k (o_9.1) (o_9.2.1)) ++ (oX1 (p1a 0) p1a p1k p1n (o_9.2.2.1) p1l) ++ (oX9 (p1a 3) p1_2a p1_2k p1_2n (o_9.2.2.2)) ++ (oX8 (p0a 1) p0_0a p0_0k p0_0w)) H := hP.sub [6, 7, 8, 9, 10, 11, 12, 13, 14, 15, 16, 17, 18, 19, 20, 21, 22, 23, 24, 25, 26, 27, 28, 29, 30, 31, 32, 33, 34, 35, 36, 37, 38, 39, 0, 1, 2, 3, 4, 5] rfl
              have hD : va_D A ((oX5 (p0a 0) p0a p0k (o_9.1) (o_9.2.1)) ++ (oX1 (p1a 0) p1a p1k p1n (o_9.2.2.1) p1l) ++ (oX9 (p1a 3) p1_2a p1_2k p1_2n (o_9.2.2.2)) ++ (oX8 (p0a 1) p0_0a p0_0k p0_0w)) := hD.sub [6, 7, 8, 9, 10, 11, 12, 13, 14, 15, 16, 17, 18, 19, 20, 21, 22, 23, 24, 25, 26, 27, 28, 29, 30, 31, 32, 33, 34, 35, 36, 37, 38, 39, 0, 1, 2, 3, 4, 5] (by decide) rfl
              have hK : va_K (dC, dI) cls ((tX5 p0k) ++ (tX1 p1k) ++ (tX9 p1_2k) ++ (tX8 p0_0k)) s := hK.sub [5, 6, 7, 8, 9, 10, 11, 12, 13, 14, 15, 16, 17, 18, 19, 20, 21, 22, 23, 24, 25, 26, 27, 28, 29, 30, 31, 32, 33, 34, 35, 0, 1, 2, 3, 4] rfl
              refine lv_iinc (v := (v2_27 + 1)) (lv' := [(2, .int (v2_27 + 1)), (3, .int y0_55), (0, .ref (p0a 0)), (1, .ref (p1a 0)), (4, .int v4_27), (5, .int o_5)]) hx hb dX5_mergeBlocks_74 hl (k := 3) rfl rfl (by decide) rfl (fun ls hl => ?_)
              exact J77 (v2_27 + 1) (o_9.1) (o_9.2.1) (o_9.2.2.1) (o_9.2.2.2) _ _ _ hrun hP hD hK hS (lv_sub hl [2, 3, 0, 1, 4] rfl)
          rcases br9 hrun with ⟨hc10, hrun⟩ | ⟨hc10, hrun⟩
          · refine lv_if_lt (tgt := 54) hx hb dX5_mergeBlocks_47 (by decide) (fun _ => ?_) (fun c => absurd hc10 c)
            refine lv_iconst (v := 0) hx hb dX5_mergeBlocks_54 (by decide) ?_
            exact J55 0 _ _ _ hrun hP hD hK hS (lv_sub hl [1, 2, 3, 5, 0] rfl)
          · refine lv_if_lt (tgt := 54) hx hb dX5_mergeBlocks_47 (by decide) (fun c => absurd c hc10) (fun _ => ?_)
            refine lv_iconst (v := 1) hx hb dX5_mergeBlocks_50 (by decide) ?_
            refine lv_goto (tgt := 55) hx hb dX5_mergeBlocks_51 (by decide) ?_
            exact J55 1 _ _ _ hrun hP hD hK hS (lv_sub hl [1, 2, 3, 5, 0] rfl)
  obtain ⟨o27, hc27, hrun⟩ := bnd9 hrun
  refine L27 NF 0 1 0 (srw p0w 6 o_1) l2 p1w p1_2w o27 _ _ _ hc27 hP hD hK hS (lv_sub hl [3, 4, 2, 1, 0] rfl) ?_
  intro H locs ls hP hD hK hS hl
  have hl := hl
  refine lv_iload_n hx hb dX5_mergeBlocks_83 rfl (lv_at hl 2 rfl) ?_
  have J100 : ∀ (p1w_100 : ST) (p1l_100 : SL) (p1_2w_100 : ST) (p0_0w_100 : ST) (H : Heap) (locs : List Loc) (ls : Array Slot), (fX5_mergeBlocks_J100 o27 p1w_100 p1l_100 p1_2w_100 p0_0w_100) = some o → va_P (dC, dI) cls ((oX5 (p0a 0) p0a p0k (o27.2.1) (o27.2.2.1)) ++ (oX1 (p1a 0) p1a p1k p1n p1w_100 p1l_100) ++ (oX9 (p1a 3) p1_2a p1_2k p1_2n p1_2w_100) ++ (oX8 (p0a 1) p0_0a p0_0k p0_0w_100)) H → va_D A ((oX5 (p0a 0) p0a p0k (o27.2.1) (o27.2.2.1)) ++ (oX1 (p1a 0) p1a p1k p1n p1w_100 p1l_100) ++ (oX9 (p1a 3) p1_2a p1_2k p1_2n p1_2w_100) ++ (oX8 (p0a 1) p0_0a p0_0k p0_0w_100)) → va_K (dC, dI) cls ((tX5 p0k) ++ (tX1 p1k) ++ (tX9 p1_2k) ++ (tX8 p0_0k)) s → va_S A s.heap H locs → lv_has ls 6 [(2, .int (o27.1))] → W p l e ({ frames := 5, cells := 0, slots := 0, locals := 121 } : Room) s m ([.ref (p0a 0), .ref (p1a 0)] : List Value).toArray below meth c H locs 0 0 Q (F0 m 100 ls []) := by
    intro p1w_100 p1l_100 p1_2w_100 p0_0w_100 H locs ls hrun hP hD hK hS hl 
    unfold fX5_mergeBlocks_J100 at hrun
    refine lv_iload_n hx hb dX5_mergeBlocks_100 rfl (lv_at hl 0 rfl) ?_
    have ho9 : ((o27.1), (o27.2.1), (o27.2.2.1), p1w_100, p1l_100, p1_2w_100, p0_0w_100) = o := Option.some.inj hrun
    have hP9 : va_P (dC, dI) cls ((oX5 (p0a 0) p0a p0k (o.2.1) (o.2.2.1)) ++ (oX1 (p1a 0) p1a p1k p1n (o.2.2.2.1) (o.2.2.2.2.1)) ++ (oX9 (p1a 3) p1_2a p1_2k p1_2n (o.2.2.2.2.2.1)) ++ (oX8 (p0a 1) p0_0a p0_0k (o.2.2.2.2.2.2))) H := by first | exact hP | (rw [← ho9]; exact hP)
    have hD9 : va_D A ((oX5 (p0a 0) p0a p0k (o.2.1) (o.2.2.1)) ++ (oX1 (p1a 0) p1a p1k p1n (o.2.2.2.1) (o.2.2.2.2.1)) ++ (oX9 (p1a 3) p1_2a p1_2k p1_2n (o.2.2.2.2.2.1)) ++ (oX8 (p0a 1) p0_0a p0_0k (o.2.2.2.2.2.2))) := by first | exact hD | (rw [← ho9]; exact hD)
    subst hQ
    exact W.iret (v := (o27.1)) hx hb hr (fun t ht hW => ⟨⟨(o27.1), (), rfl, (by rw [← ho9]), ⟨by rw [ht]; exact hP9, va_K.moved hW.alike hK, hD9⟩⟩, hS.F ht⟩) hS.2.2 dX5_mergeBlocks_101
  rcases br9 hrun with ⟨hc11, hrun⟩ | ⟨hc11, hrun⟩
  · refine lv_if_le (tgt := 100) hx hb dX5_mergeBlocks_84 (by decide) (fun _ => ?_) (fun c => absurd hc11 c)
    exact J100 (o27.2.2.2.1) p1l (o27.2.2.2.2) p0_0w _ _ _ hrun hP hD hK hS (lv_sub hl [2] rfl)
  · refine lv_if_le (tgt := 100) hx hb dX5_mergeBlocks_84 (by decide) (fun c => absurd c hc11) (fun _ => ?_)
    refine lv_aload_n hx hb dX5_mergeBlocks_87 rfl (lv_at hl 0 rfl) ?_
    refine va_get (D := (dC, dI)) (ci := 7) (v := .ref (p0a 1)) (C := RX5) (T := TX5) (N := 12) hx hb hts i_X5 hown hK hP 0 rfl rfl 0 (by decide) (hts _ qw533) (fun _ h9 => h9) rfl dX5_mergeBlocks_88 ?_
    refine lv_aload_n hx hb dX5_mergeBlocks_91 rfl (lv_at hl 1 rfl) ?_
    obtain ⟨o_12, hc_12, hrun⟩ := bnd9 hrun
    have hPc := hP.sub (ws' := ((oX8 (p0a 1) p0_0a p0_0k p0_0w) ++ (oX1 (p1a 0) p1a p1k p1n (o27.2.2.2.1) p1l))) [34, 35, 36, 37, 38, 39, 10, 11, 12, 13, 14, 15, 16, 17, 18, 19, 20, 21, 22, 23, 24, 25, 26, 27] rfl
    have hDc := hD.sub (ws' := ((oX8 (p0a 1) p0_0a p0_0k p0_0w) ++ (oX1 (p1a 0) p1a p1k p1n (o27.2.2.2.1) p1l))) [34, 35, 36, 37, 38, 39, 10, 11, 12, 13, 14, 15, 16, 17, 18, 19, 20, 21, 22, 23, 24, 25, 26, 27] (by decide) rfl
    have hKc := hK.sub (tys' := ((tX8 p0_0k) ++ (tX1 p1k))) [31, 32, 33, 34, 35, 9, 10, 11, 12, 13, 14, 15, 16, 17, 18, 19, 20, 21, 22, 23, 24, 25] rfl
    have hFc := va_free (wc := ((oX8 (p0a 1) p0_0a p0_0k p0_0w) ++ (oX1 (p1a 0) p1a p1k p1n (o27.2.2.2.1) p1l))) hD hS hA [34, 35, 36, 37, 38, 39, 10, 11, 12, 13, 14, 15, 16, 17, 18, 19, 20, 21, 22, 23, 24, 25, 26, 27] rfl
    refine va_callv (va_runV (As := [.ref (p1a 0)]) (rest := []) ⟨hx, hb, hml, hown, hts⟩ (kX8_renumber l dC dI (p0a := (st0 (p0a 1) p0_0a)) (p0k := p0_0k) (p0w := p0_0w) (p1a := (st0 (p1a 0) p1a)) (p1k := p1k) (p1n := p1n) (p1w := (o27.2.2.2.1)) (p1l := p1l) (sz := _) (o := o_12) (hrun := hc_12)) (cwV 1 hts (gi_V qw534 qw381 qw382 qw197 (gi_z qw379)) rfl rfl rfl (by decide +kernel) ⟨Nat.le_of_ble_eq_true rfl, Nat.le_of_ble_eq_true rfl⟩) ⟨PRE.blind, va_recv hKc hPc (ci := 5) (q0 := 0) rfl rfl, PRE.of hE hS hFc hPc hKc hDc⟩ rfl rfl hl.1 rfl (lv_room (Nat.le_of_ble_eq_true rfl)) dX5_mergeBlocks_92 ⟨(Nat.le_of_ble_eq_true rfl), (Nat.le_of_ble_eq_true rfl)⟩) hS (fun q _ h => hFc q h) hFc (fun u t H locs ht hvm hw hB hz1 hk1 hS => ?_)
    obtain ⟨hP, hD, hK⟩ := JOIN (wr := ((oX5 (p0a 0) p0a p0k (o27.2.1) (o27.2.2.1)) ++ (oX9 (p1a 3) p1_2a p1_2k p1_2n (o27.2.2.2.2)))) hP hD hK [34, 35, 36, 37, 38, 39, 10, 11, 12, 13, 14, 15, 16, 17, 18, 19, 20, 21, 22, 23, 24, 25, 26, 27] [0, 1, 2, 3, 4, 5, 6, 7, 8, 9, 28, 29, 30, 31, 32, 33] [0, 1, 2, 3, 4, 5, 6, 7, 8, 26, 27, 28, 29, 30] rfl rfl (by decide) (by decide) rfl hk1 hFc ht hvm hB
    have hP : va_P (dC, dI) cls ((oX5 (p0a 0) p0a p0k (o27.2.1) (o27.2.2.1)) ++ (oX1 (p1a 0) p1a p1k p1n (o_12.2.1) (o_12.2.2)) ++ (oX9 (p1a 3) p1_2a p1_2k p1_2n (o27.2.2.2.2)) ++ (oX8 (p0a 1) p0_0a p0_0k (o_12.1))) H := hP.sub [0, 1, 2, 3, 4, 5, 6, 7, 8, 9, 22, 23, 24, 25, 26, 27, 28, 29, 30, 31, 32, 33, 34, 35, 36, 37, 38, 39, 10, 11, 12, 13, 14, 15, 16, 17, 18, 19, 20, 21] rfl
    have hD : va_D A ((oX5 (p0a 0) p0a p0k (o27.2.1) (o27.2.2.1)) ++ (oX1 (p1a 0) p1a p1k p1n (o_12.2.1) (o_12.2.2)) ++ (oX9 (p1a 3) p1_2a p1_2k p1_2n (o27.2.2.2.2)) ++ (oX8 (p0a 1) p0_0a p0_0k (o_12.1))) := hD.sub [0, 1, 2, 3, 4, 5, 6, 7, 8, 9, 22, 23, 24, 25, 26, 27, 28, 29, 30, 31, 32, 33, 34, 35, 36, 37, 38, 39, 10, 11, 12, 13, 14, 15, 16, 17, 18, 19, 20, 21] (by decide) rfl
    have hK : va_K (dC, dI) cls ((tX5 p0k) ++ (tX1 p1k) ++ (tX9 p1_2k) ++ (tX8 p0_0k)) s := hK.sub [0, 1, 2, 3, 4, 5, 6, 7, 8, 19, 20, 21, 22, 23, 24, 25, 26, 27, 28, 29, 30, 31, 32, 33, 34, 35, 9, 10, 11, 12, 13, 14, 15, 16, 17, 18] rfl
    refine lv_aload_n hx hb dX5_mergeBlocks_95 rfl (lv_at hl 0 rfl) ?_
    refine lv_aload_n hx hb dX5_mergeBlocks_96 rfl (lv_at hl 1 rfl) ?_
    obtain ⟨o_13, hc_13, hrun⟩ := bnd9 hrun
    have hPc := hP.sub (ws' := ((oX5 (p0a 0) p0a p0k (o27.2.1) (o27.2.2.1)) ++ (oX1 (p1a 0) p1a p1k p1n (o_12.2.1) (o_12.2.2)) ++ (oX9 (p1a 3) p1_2a p1_2k p1_2n (o27.2.2.2.2)))) [0, 1, 2, 3, 4, 5, 6, 7, 8, 9, 10, 11, 12, 13, 14, 15, 16, 17, 18, 19, 20, 21, 22, 23, 24, 25, 26, 27, 28, 29, 30, 31, 32, 33] rfl
    have hDc := hD.sub (ws' := ((oX5 (p0a 0) p0a p0k (o27.2.1) (o27.2.2.1)) ++ (oX1 (p1a 0) p1a p1k p1n (o_12.2.1) (o_12.2.2)) ++ (oX9 (p1a 3) p1_2a p1_2k p1_2n (o27.2.2.2.2)))) [0, 1, 2, 3, 4, 5, 6, 7, 8, 9, 10, 11, 12, 13, 14, 15, 16, 17, 18, 19, 20, 21, 22, 23, 24, 25, 26, 27, 28, 29, 30, 31, 32, 33] (by decide) rfl
    have hKc := hK.sub (tys' := ((tX5 p0k) ++ (tX1 p1k) ++ (tX9 p1_2k))) [0, 1, 2, 3, 4, 5, 6, 7, 8, 9, 10, 11, 12, 13, 14, 15, 16, 17, 18, 19, 20, 21, 22, 23, 24, 25, 26, 27, 28, 29, 30] rfl
    have hFc := va_free (wc := ((oX5 (p0a 0) p0a p0k (o27.2.1) (o27.2.2.1)) ++ (oX1 (p1a 0) p1a p1k p1n (o_12.2.1) (o_12.2.2)) ++ (oX9 (p1a 3) p1_2a p1_2k p1_2n (o27.2.2.2.2)))) hD hS hA [0, 1, 2, 3, 4, 5, 6, 7, 8, 9, 10, 11, 12, 13, 14, 15, 16, 17, 18, 19, 20, 21, 22, 23, 24, 25, 26, 27, 28, 29, 30, 31, 32, 33] rfl
    refine va_callv (va_runV (As := [.ref (p1a 0)]) (rest := []) ⟨hx, hb, hml, hown, hts⟩ (kX5_useStandIns l dC dI (p0a := (st0 (p0a 0) p0a)) (p0k := p0k) (p0w := (o27.2.1)) (p0l := (o27.2.2.1)) (p1a := (st0 (p1a 0) p1a)) (p1k := p1k) (p1n := p1n) (p1w := (o_12.2.1)) (p1l := (o_12.2.2)) (p1_2a := p1_2a) (p1_2k := p1_2k) (p1_2n := p1_2n) (p1_2w := (o27.2.2.2.2)) (sz := _) (o := o_13) (hrun := hc_13)) (cwV 1 hts (gi_V qw592 qw593 qw594 qw442 (gi_z qw591)) rfl rfl rfl (by decide +kernel) ⟨Nat.le_of_ble_eq_true rfl, Nat.le_of_ble_eq_true rfl⟩) ⟨PRE.blind, va_recv hKc hPc (ci := 7) (q0 := 0) rfl rfl, PRE.of hE hS hFc hPc hKc hDc⟩ rfl rfl hl.1 rfl (lv_room (Nat.le_of_ble_eq_true rfl)) dX5_mergeBlocks_97 ⟨(Nat.le_of_ble_eq_true rfl), (Nat.le_of_ble_eq_true rfl)⟩) hS (fun q _ h => hFc q h) hFc (fun u t H locs ht hvm hw hB hz1 hk1 hS => ?_)
    obtain ⟨hP, hD, hK⟩ := JOIN (wr := (oX8 (p0a 1) p0_0a p0_0k (o_12.1))) hP hD hK [0, 1, 2, 3, 4, 5, 6, 7, 8, 9, 10, 11, 12, 13, 14, 15, 16, 17, 18, 19, 20, 21, 22, 23, 24, 25, 26, 27, 28, 29, 30, 31, 32, 33] [34, 35, 36, 37, 38, 39] [31, 32, 33, 34, 35] rfl rfl (by decide) (by decide) rfl hk1 hFc ht hvm hB
    have hP : va_P (dC, dI) cls ((oX5 (p0a 0) p0a p0k (o27.2.1) (o27.2.2.1)) ++ (oX1 (p1a 0) p1a p1k p1n (o_13.1) (o_12.2.2)) ++ (oX9 (p1a 3) p1_2a p1_2k p1_2n (o_13.2)) ++ (oX8 (p0a 1) p0_0a p0_0k (o_12.1))) H := hP.sub [6, 7, 8, 9, 10, 11, 12, 13, 14, 15, 16, 17, 18, 19, 20, 21, 22, 23, 24, 25, 26, 27, 28, 29, 30, 31, 32, 33, 34, 35, 36, 37, 38, 39, 0, 1, 2, 3, 4, 5] rfl
    have hD : va_D A ((oX5 (p0a 0) p0a p0k (o27.2.1) (o27.2.2.1)) ++ (oX1 (p1a 0) p1a p1k p1n (o_13.1) (o_12.2.2)) ++ (oX9 (p1a 3) p1_2a p1_2k p1_2n (o_13.2)) ++ (oX8 (p0a 1) p0_0a p0_0k (o_12.1))) := hD.sub [6, 7, 8, 9, 10, 11, 12, 13, 14, 15, 16, 17, 18, 19, 20, 21, 22, 23, 24, 25, 26, 27, 28, 29, 30, 31, 32, 33, 34, 35, 36, 37, 38, 39, 0, 1, 2, 3, 4, 5] (by decide) rfl
    have hK : va_K (dC, dI) cls ((tX5 p0k) ++ (tX1 p1k) ++ (tX9 p1_2k) ++ (tX8 p0_0k)) s := hK.sub [5, 6, 7, 8, 9, 10, 11, 12, 13, 14, 15, 16, 17, 18, 19, 20, 21, 22, 23, 24, 25, 26, 27, 28, 29, 30, 31, 32, 33, 34, 35, 0, 1, 2, 3, 4] rfl
    exact J100 (o_13.1) (o_12.2.2) (o_13.2) (o_12.1) _ _ _ hrun hP hD hK hS (lv_sub hl [2] rfl)
def fX0_endLines_J36 (y0_36 : Int32) : Option Int32 := some y0_36
def fX0_endLines_J68 (y0_68 : Int32) : Option Int32 := some y0_68
def fX0_endLines_J67  : Option Int32 := (fX0_endLines_J68 1)
def fX0_endLines (p1 : Int32) (p0_0w : ST) : Option Int32 := (if ixb p1 60 = true then (if (p0_0w 8 (nn p1)) = 22 then (if ixb p1 60 = true then (if (p0_0w 10 (nn p1)) = (p1 + 1) then (fX0_endLines_J36 0) else (fX0_endLines_J36 1)) else none) else (if ixb p1 60 = true then (if (p0_0w 8 (nn p1)) = 23 then ((fX1_leads p0_0w p1 (p1 + 1)).bind fun (o_7 : Int32) => (if o_7 = 0 then (fX0_endLines_J68 2) else (fX0_endLines_J67))) else (fX0_endLines_J67)) else none)) else none)
set_option maxHeartbeats 16000000 in
set_option maxRecDepth 100000 in
theorem kX0_endLines {zs : Nat × Nat} (l : Launch) (dC : Nat → ClassId) (dI : Nat → Nat → Nat) (p0a : Nat → Nat) (p0k : Nat → ClassId) (p0n : Nat → Nat) (p0w : ST) (p1 : Int32) (p0_0a : Nat → Nat) (p0_0k : Nat → ClassId) (p0_0n : Nat → Nat) (p0_0w : ST) (p0_0l : SL) (sz : Nat) (o : Int32) (hrun : fX0_endLines p1 p0_0w = some o) : Met l yX0_endLines (wz yX0_endLines cX0_endLines 3 (Option.some Jvm.ClassFile.FieldType.int)) ({ frames := 1, cells := 0, slots := 0, locals := 22 } : Room) (va_Pc [.ref (p0a 0), .int p1] (PRE zs dC dI ((oX0 (p0a 0) p0a p0k p0n p0w) ++ (oX1 (p0a 1) p0_0a p0_0k p0_0n p0_0w p0_0l)) ((tX0 p0k) ++ (tX1 p0_0k)) sz)) (va_Qi (fun (r : Int32) (_ : Unit) => r = o) (fun _ t => POST dC dI ((oX0 (p0a 0) p0a p0k p0n p0w) ++ (oX1 (p0a 1) p0_0a p0_0k p0_0n p0_0w p0_0l)) ((tX0 p0k) ++ (tX1 p0_0k)) (va_A ((oX0 (p0a 0) p0a p0k p0n p0w) ++ (oX1 (p0a 1) p0_0a p0_0k p0_0n p0_0w p0_0l)) sz) t) (va_A ((oX0 (p0a 0) p0a p0k p0n p0w) ++ (oX1 (p0a 1) p0_0a p0_0k p0_0n p0_0w p0_0l)) sz)) 0 0 (va_A ((oX0 (p0a 0) p0a p0k p0n p0w) ++ (oX1 (p0a 1) p0_0a p0_0k p0_0n p0_0w p0_0l)) sz) := by
  refine Met.ofW (cc := cX0_endLines) (maxL := 3) (ret := (Option.some Jvm.ClassFile.FieldType.int)) (by decide) rfl ?_
  intro p e s m args below meth c s₁ B hml hv
  obtain ⟨rfl, hsz, hP, hK, hD0, hE⟩ := hv
  have hx := B.exec
  have hb := B.bytes
  have hr := B.returns
  have hts0 := atoms_spec (ws := wz yX0_endLines cX0_endLines 3 (Option.some Jvm.ClassFile.FieldType.int)) B.pre
  have hts : ∀ w ∈ gw, w.before _ s = true := fun w h => hts0 w (List.mem_cons_of_mem _ h)
  have hown : s.vm.findClass RX0 = some m.cls := findClass_of_methodNamed B.named
  have hlocks := B.notSynchronized
  subst hsz
  have hD := hD0.self (sz := s.heap.size)
  refine gQ9 ?_
  intro Q hQ
  generalize hAe : va_A ((oX0 (p0a 0) p0a p0k p0n p0w) ++ (oX1 (p0a 1) p0_0a p0_0k p0_0n p0_0w p0_0l)) s.heap.size = A at hD hE hQ
  have hA : ∀ q : Nat, s.heap.size ≤ q → A q := fun q h => by rw [← hAe]; exact Or.inr h
  have hS : va_S A s.heap s.heap [] := va_S.rf
  have hP : va_P (dC, dI) cls ((oX0 (p0a 0) p0a p0k p0n p0w) ++ (oX1 (p0a 1) p0_0a p0_0k p0_0n p0_0w p0_0l)) s.heap := hP
  have hl := lv_entry ([.ref (p0a 0), .int p1]) (n := 3) (Nat.le_of_ble_eq_true rfl)
  rw [lg_entry_eq]
  generalize (lg_sl ([.ref (p0a 0), .int p1]) ++ List.replicate (3 - (lg_sl ([.ref (p0a 0), .int p1])).length) Slot.unset).toArray = ls at hl ⊢
  have hl : lv_has ls 3 [(0, .ref (p0a 0)), (1, .int p1)] := hl
  obtain ⟨H, hHe⟩ : ∃ H, H = s.heap := ⟨_, rfl⟩
  obtain ⟨locs, hle⟩ : ∃ locs : List Loc, locs = [] := ⟨_, rfl⟩
  rw [← hHe] at hP
  have hS : va_S A s.heap H locs := by rw [hHe, hle]; exact hS
  show W p l e ({ frames := 1, cells := 0, slots := 0, locals := 22 } : Room) s m ([.ref (p0a 0), .int p1] : List Value).toArray below meth c s.heap [] 0 0 Q (F0 m 0 ls [])
  rw [← hle]
  refine wH9 hHe ?_
  unfold fX0_endLines at hrun
  refine lv_iload_n hx hb dX0_endLines_0 rfl (lv_at hl 1 rfl) ?_
  refine lv_iconst (v := 1) hx hb dX0_endLines_1 (by decide) ?_
  refine lv_iadd hx hb dX0_endLines_2 ?_
  refine lv_istore_n (lv' := [(2, .int (p1 + 1)), (0, .ref (p0a 0)), (1, .int p1)]) hx hb dX0_endLines_3 rfl hl (by decide) rfl (fun ls hl => ?_)
  refine lv_aload_n hx hb dX0_endLines_4 rfl (lv_at hl 1 rfl) ?_
  refine va_get (D := (dC, dI)) (ci := 8) (v := .ref (p0a 1)) (C := RX0) (T := TX0) (N := 17) hx hb hts i_X0 hown hK hP 0 rfl rfl 0 (by decide) (hts _ qw618) (fun _ h9 => h9) rfl dX0_endLines_5 ?_
  refine va_get (D := (dC, dI)) (ci := 4) (v := .ref (p0_0a 8)) (C := RX1) (T := TX1) (N := 21) hx hb hts i_X1 hown hK hP 9 rfl rfl 7 (by decide) (hts _ qw619) (fun _ h9 => h9) rfl dX0_endLines_8 ?_
  refine lv_iload_n hx hb dX0_endLines_11 rfl (lv_at hl 2 rfl) ?_
  obtain ⟨hq1, hrun⟩ := chk9 hrun
  refine va_iald hx hb hK hP 14 12 rfl rfl (ixb_in hq1) dX0_endLines_12 ?_
  refine lv_bipush (v := 22) hx hb dX0_endLines_13 (by decide) ?_
  rcases br9 hrun with ⟨hc2, hrun⟩ | ⟨hc2, hrun⟩
  · refine lv_icmp_ne (tgt := 37) hx hb dX0_endLines_15 (by decide) (fun c => absurd hc2 c) (fun _ => ?_)
    refine lv_aload_n hx hb dX0_endLines_18 rfl (lv_at hl 1 rfl) ?_
    refine va_get (D := (dC, dI)) (ci := 8) (v := .ref (p0a 1)) (C := RX0) (T := TX0) (N := 17) hx hb hts i_X0 hown hK hP 0 rfl rfl 0 (by decide) (hts _ qw618) (fun _ h9 => h9) rfl dX0_endLines_19 ?_
    refine va_get (D := (dC, dI)) (ci := 4) (v := .ref (p0_0a 10)) (C := RX1) (T := TX1) (N := 21) hx hb hts i_X1 hown hK hP 9 rfl rfl 9 (by decide) (hts _ qw620) (fun _ h9 => h9) rfl dX0_endLines_22 ?_
    refine lv_iload_n hx hb dX0_endLines_25 rfl (lv_at hl 2 rfl) ?_
    obtain ⟨hq3, hrun⟩ := chk9 hrun
    refine va_iald hx hb hK hP 16 14 rfl rfl (ixb_in hq3) dX0_endLines_26 ?_
    refine lv_iload_n hx hb dX0_endLines_27 rfl (lv_at hl 0 rfl) ?_
    have J36 : ∀ (y0_36 : Int32) (H : Heap) (locs : List Loc) (ls : Array Slot), (fX0_endLines_J36 y0_36) = some o → va_P (dC, dI) cls ((oX0 (p0a 0) p0a p0k p0n p0w) ++ (oX1 (p0a 1) p0_0a p0_0k p0_0n p0_0w p0_0l)) H → va_D A ((oX0 (p0a 0) p0a p0k p0n p0w) ++ (oX1 (p0a 1) p0_0a p0_0k p0_0n p0_0w p0_0l)) → va_K (dC, dI) cls ((tX0 p0k) ++ (tX1 p0_0k)) s → va_S A s.heap H locs → lv_has ls 3 [] → W p l e ({ frames := 1, cells := 0, slots := 0, locals := 22 } : Room) s m ([.ref (p0a 0), .int p1] : List Value).toArray below meth c H locs 0 0 Q (F0 m 36 ls [.int y0_36]) := by
      intro y0_36 H locs ls hrun hP hD hK hS hl 
      unfold fX0_endLines_J36 at hrun
      have ho9 : y0_36 = o := Option.some.inj hrun
      have hP9 : va_P (dC, dI) cls ((oX0 (p0a 0) p0a p0k p0n p0w) ++ (oX1 (p0a 1) p0_0a p0_0k p0_0n p0_0w p0_0l)) H := by first | exact hP | (rw [← ho9]; exact hP)
      have hD9 : va_D A ((oX0 (p0a 0) p0a p0k p0n p0w) ++ (oX1 (p0a 1) p0_0a p0_0k p0_0n p0_0w p0_0l)) := by first | exact hD | (rw [← ho9]; exact hD)
      subst hQ
      exact W.iret (v := y0_36) hx hb hr (fun t ht hW => ⟨⟨y0_36, (), rfl, (by rw [← ho9]), ⟨by rw [ht]; exact hP9, va_K.moved hW.alike hK, hD9⟩⟩, hS.F ht⟩) hS.2.2 dX0_endLines_36
    rcases br9 hrun with ⟨hc4, hrun⟩ | ⟨hc4, hrun⟩
    · refine lv_icmp_ne (tgt := 35) hx hb dX0_endLines_28 (by decide) (fun c => absurd hc4 c) (fun _ => ?_)
      refine lv_iconst (v := 0) hx hb dX0_endLines_31 (by decide) ?_
      refine lv_goto (tgt := 36) hx hb dX0_endLines_32 (by decide) ?_
      exact J36 0 _ _ _ hrun hP hD hK hS (lv_sub hl [] rfl)
    · refine lv_icmp_ne (tgt := 35) hx hb dX0_endLines_28 (by decide) (fun _ => ?_) (fun c => absurd c hc4)
      refine lv_iconst (v := 1) hx hb dX0_endLines_35 (by decide) ?_
      exact J36 1 _ _ _ hrun hP hD hK hS (lv_sub hl [] rfl)
  · refine lv_icmp_ne (tgt := 37) hx hb dX0_endLines_15 (by decide) (fun _ => ?_) (fun c => absurd c hc2)
    refine lv_aload_n hx hb dX0_endLines_37 rfl (lv_at hl 1 rfl) ?_
    refine va_get (D := (dC, dI)) (ci := 8) (v := .ref (p0a 1)) (C := RX0) (T := TX0) (N := 17) hx hb hts i_X0 hown hK hP 0 rfl rfl 0 (by decide) (hts _ qw618) (fun _ h9 => h9) rfl dX0_endLines_38 ?_
    refine va_get (D := (dC, dI)) (ci := 4) (v := .ref (p0_0a 8)) (C := RX1) (T := TX1) (N := 21) hx hb hts i_X1 hown hK hP 9 rfl rfl 7 (by decide) (hts _ qw619) (fun _ h9 => h9) rfl dX0_endLines_41 ?_
    refine lv_iload_n hx hb dX0_endLines_44 rfl (lv_at hl 2 rfl) ?_
    obtain ⟨hq5, hrun⟩ := chk9 hrun
    refine va_iald hx hb hK hP 14 12 rfl rfl (ixb_in hq5) dX0_endLines_45 ?_
    refine lv_bipush (v := 23) hx hb dX0_endLines_46 (by decide) ?_
    have J68 : ∀ (y0_68 : Int32) (H : Heap) (locs : List Loc) (ls : Array Slot), (fX0_endLines_J68 y0_68) = some o → va_P (dC, dI) cls ((oX0 (p0a 0) p0a p0k p0n p0w) ++ (oX1 (p0a 1) p0_0a p0_0k p0_0n p0_0w p0_0l)) H → va_D A ((oX0 (p0a 0) p0a p0k p0n p0w) ++ (oX1 (p0a 1) p0_0a p0_0k p0_0n p0_0w p0_0l)) → va_K (dC, dI) cls ((tX0 p0k) ++ (tX1 p0_0k)) s → va_S A s.heap H locs → lv_has ls 3 [] → W p l e ({ frames := 1, cells := 0, slots := 0, locals := 22 } : Room) s m ([.ref (p0a 0), .int p1] : List Value).toArray below meth c H locs 0 0 Q (F0 m 68 ls [.int y0_68]) := by
      intro y0_68 H locs ls hrun hP hD hK hS hl 
      unfold fX0_endLines_J68 at hrun
      have ho9 : y0_68 = o := Option.some.inj hrun
      have hP9 : va_P (dC, dI) cls ((oX0 (p0a 0) p0a p0k p0n p0w) ++ (oX1 (p0a 1) p0_0a p0_0k p0_0n p0_0w p0_0l)) H := by first | exact hP | (rw [← ho9]; exact hP)
      have hD9 : va_D A ((oX0 (p0a 0) p0a p0k p0n p0w) ++ (oX1 (p0a 1) p0_0a p0_0k p0_0n p0_0w p0_0l)) := by first | exact hD | (rw [← ho9]; exact hD)
      subst hQ
      exact W.iret (v := y0_68) hx hb hr (fun t ht hW => ⟨⟨y0_68, (), rfl, (by rw [← ho9]), ⟨by rw [ht]; exact hP9, va_K.moved hW.alike hK, hD9⟩⟩, hS.F ht⟩) hS.2.2 dX0_endLines_68
    have J67 : ∀ (H : Heap) (locs : List Loc) (ls : Array Slot), (fX0_endLines_J67) = some o → va_P (dC, dI) cls ((oX0 (p0a 0) p0a p0k p0n p0w) ++ (oX1 (p0a 1) p0_0a p0_0k p0_0n p0_0w p0_0l)) H → va_D A ((oX0 (p0a 0) p0a p0k p0n p0w) ++ (oX1 (p0a 1) p0_0a p0_0k p0_0n p0_0w p0_0l)) → va_K (dC, dI) cls ((tX0 p0k) ++ (tX1 p0_0k)) s → va_S A s.heap H locs → lv_has ls 3 [] → W p l e ({ frames := 1, cells := 0, slots := 0, locals := 22 } : Room) s m ([.ref (p0a 0), .int p1] : List Value).toArray below meth c H locs 0 0 Q (F0 m 67 ls []) := by
      intro  H locs ls hrun hP hD hK hS hl 
      unfold fX0_endLines_J67 at hrun
      refine lv_iconst (v := 1) hx hb dX0_endLines_67 (by decide) ?_
      exact J68 1 _ _ _ hrun hP hD hK hS (lv_sub hl [] rfl)
    rcases br9 hrun with ⟨hc6, hrun⟩ | ⟨hc6, hrun⟩
    · refine lv_icmp_ne (tgt := 67) hx hb dX0_endLines_48 (by decide) (fun c => absurd hc6 c) (fun _ => ?_)
      refine lv_aload_n hx hb dX0_endLines_51 rfl (lv_at hl 1 rfl) ?_
      refine va_get (D := (dC, dI)) (ci := 8) (v := .ref (p0a 1)) (C := RX0) (T := TX0) (N := 17) hx hb hts i_X0 hown hK hP 0 rfl rfl 0 (by decide) (hts _ qw618) (fun _ h9 => h9) rfl dX0_endLines_52 ?_
      refine lv_iload_n hx hb dX0_endLines_55 rfl (lv_at hl 2 rfl) ?_
      refine lv_iload_n hx hb dX0_endLines_56 rfl (lv_at hl 0 rfl) ?_
      obtain ⟨o_7, hc_7, hrun⟩ := bnd9 hrun
      have hPc := hP.sub (ws' := (oX1 (p0a 1) p0_0a p0_0k p0_0n p0_0w p0_0l)) [9, 10, 11, 12, 13, 14, 15, 16, 17, 18, 19, 20, 21, 22, 23, 24, 25, 26] rfl
      have hDc := hD.sub (ws' := (oX1 (p0a 1) p0_0a p0_0k p0_0n p0_0w p0_0l)) [9, 10, 11, 12, 13, 14, 15, 16, 17, 18, 19, 20, 21, 22, 23, 24, 25, 26] (by decide) rfl
      have hKc := hK.sub (tys' := (tX1 p0_0k)) [8, 9, 10, 11, 12, 13, 14, 15, 16, 17, 18, 19, 20, 21, 22, 23, 24] rfl
      have hFc := va_free (wc := (oX1 (p0a 1) p0_0a p0_0k p0_0n p0_0w p0_0l)) hD hS hA [9, 10, 11, 12, 13, 14, 15, 16, 17, 18, 19, 20, 21, 22, 23, 24, 25, 26] rfl
      refine va_calli (va_runV (As := [.int p1, .int (p1 + 1)]) (rest := []) ⟨hx, hb, hml, hown, hts⟩ (kX1_leads l dC dI (p0a := (st0 (p0a 1) p0_0a)) (p0k := p0_0k) (p0n := p0_0n) (p0w := p0_0w) (p0l := p0_0l) (p1 := p1) (p2 := (p1 + 1)) (sz := _) (o := o_7) (hrun := hc_7)) (cwV 2 hts (gi_V qw621 qw204 qw205 qw126 (gi_z qw202)) rfl rfl rfl (by decide +kernel) ⟨Nat.le_of_ble_eq_true rfl, Nat.le_of_ble_eq_true rfl⟩) ⟨PRE.blind, va_recv hKc hPc (ci := 4) (q0 := 0) rfl rfl, PRE.of hE hS hFc hPc hKc hDc⟩ rfl rfl hl.1 rfl (lv_room (Nat.le_of_ble_eq_true rfl)) dX0_endLines_57 ⟨(Nat.le_of_ble_eq_true rfl), (Nat.le_of_ble_eq_true rfl)⟩) hS (fun q _ h => hFc q h) hFc (fun r8 u t H locs ht hvm hw hB hz1 hk1 hS => ?_)
      obtain ⟨hP, hD, hK⟩ := JOIN (wr := (oX0 (p0a 0) p0a p0k p0n p0w)) hP hD hK [9, 10, 11, 12, 13, 14, 15, 16, 17, 18, 19, 20, 21, 22, 23, 24, 25, 26] [0, 1, 2, 3, 4, 5, 6, 7, 8] [0, 1, 2, 3, 4, 5, 6, 7] rfl rfl (by decide) (by decide) rfl hk1 hFc ht hvm hB
      have hP : va_P (dC, dI) cls ((oX0 (p0a 0) p0a p0k p0n p0w) ++ (oX1 (p0a 1) p0_0a p0_0k p0_0n p0_0w p0_0l)) H := hP.sub [0, 1, 2, 3, 4, 5, 6, 7, 8, 9, 10, 11, 12, 13, 14, 15, 16, 17, 18, 19, 20, 21, 22, 23, 24, 25, 26] rfl
      have hD : va_D A ((oX0 (p0a 0) p0a p0k p0n p0w) ++ (oX1 (p0a 1) p0_0a p0_0k p0_0n p0_0w p0_0l)) := hD.sub [0, 1, 2, 3, 4, 5, 6, 7, 8, 9, 10, 11, 12, 13, 14, 15, 16, 17, 18, 19, 20, 21, 22, 23, 24, 25, 26] (by decide) rfl
      have hK : va_K (dC, dI) cls ((tX0 p0k) ++ (tX1 p0_0k)) s := hK.sub [0, 1, 2, 3, 4, 5, 6, 7, 8, 9, 10, 11, 12, 13, 14, 15, 16, 17, 18, 19, 20, 21, 22, 23, 24] rfl
      obtain rfl : o_7 = r8 := hw.symm
      rcases br9 hrun with ⟨hc9, hrun⟩ | ⟨hc9, hrun⟩
      · refine lv_if_ne (tgt := 67) hx hb dX0_endLines_60 (by decide) (fun c => absurd hc9 c) (fun _ => ?_)
        refine lv_iconst (v := 2) hx hb dX0_endLines_63 (by decide) ?_
        refine lv_goto (tgt := 68) hx hb dX0_endLines_64 (by decide) ?_
        exact J68 2 _ _ _ hrun hP hD hK hS (lv_sub hl [] rfl)
      · refine lv_if_ne (tgt := 67) hx hb dX0_endLines_60 (by decide) (fun _ => ?_) (fun c => absurd c hc9)
        exact J67 _ _ _ hrun hP hD hK hS (lv_sub hl [] rfl)
    · refine lv_icmp_ne (tgt := 67) hx hb dX0_endLines_48 (by decide) (fun _ => ?_) (fun c => absurd c hc6)
      exact J67 _ _ _ hrun hP hD hK hS (lv_sub hl [] rfl)
def fX0_fetch_J57 (p0w : ST) (p0_0w_57 : ST) (p0_0_2w_57 : ST) (p0_0_2n_57 : Nat → Nat) : Option (Int32 × ST × ST × ST × (Nat → Nat)) := (lt9 (upw p0w 0 8 ((p0w 0 8) + 1)) fun (w2 : ST) => some (((w2 0 8) - 1), w2, p0_0w_57, p0_0_2w_57, p0_0_2n_57))
theorem mo_fX0_fetch_J57 {p0w : ST} {p0_0w_57 : ST} {p0_0_2w_57 : ST} {p0_0_2n_57 : Nat → Nat} {o9q : Int32 × ST × ST × ST × (Nat → Nat)} (hrun : fX0_fetch_J57 p0w p0_0w_57 p0_0_2w_57 p0_0_2n_57 = some o9q) : glX9 p0_0_2n_57 (o9q.2.2.2.2) := by
  unfold fX0_fetch_J57 at hrun
  obtain ⟨w2, ew2, hrun⟩ := let9 hrun
  obtain rfl := (Option.some.inj hrun)
  exact (glX9_rf _)
def fX0_fetch_G31_17 (p0w : ST) (o_5 : Int32 × ST × ST × (Nat → Nat)) : Option (Int32 × ST × ST × ST × (Nat → Nat)) := (fX0_fetch_J57 p0w (o_5.2.1) (o_5.2.2.1) (o_5.2.2.2))
theorem mo_fX0_fetch_G31_17 {p0w : ST} {o_5 : Int32 × ST × ST × (Nat → Nat)} {o9q : Int32 × ST × ST × ST × (Nat → Nat)} (hrun : fX0_fetch_G31_17 p0w o_5 = some o9q) : glX9 (o_5.2.2.2) (o9q.2.2.2.2) := by
  unfold fX0_fetch_G31_17 at hrun
  exact (mo_fX0_fetch_J57 hrun)
def fX0_fetch_G56_31 (p0w : ST) (o_19 : Int32 × ST × ST × (Nat → Nat)) : Option (Int32 × ST × ST × ST × (Nat → Nat)) := (fX0_fetch_J57 p0w (o_19.2.1) (o_19.2.2.1) (o_19.2.2.2))
theorem mo_fX0_fetch_G56_31 {p0w : ST} {o_19 : Int32 × ST × ST × (Nat → Nat)} {o9q : Int32 × ST × ST × ST × (Nat → Nat)} (hrun : fX0_fetch_G56_31 p0w o_19 = some o9q) : glX9 (o_19.2.2.2) (o9q.2.2.2.2) := by
  unfold fX0_fetch_G56_31 at hrun
  exact (mo_fX0_fetch_J57 hrun)
def fX0_fetch (p0n : Nat → Nat) (p0w : ST) (p1 : Int32) (p2 : Int32) (p0_0w : ST) (p0_0_2n : Nat → Nat) (p0_0_2w : ST) : Option (Int32 × ST × ST × ST × (Nat → Nat)) := (if ixb p2 (p0n 13) = true then (if (p0w 13 (nn p2)) = (-2) then (if ixb p2 (p0n 14) = true then ((fX1_addStep p0_0w p1 0 (p0w 0 8) (p0w 14 (nn p2)) (-1) p0_0_2n p0_0_2w).bind fun (o_5 : Int32 × ST × ST × (Nat → Nat)) => (fX0_fetch_G31_17 p0w o_5)) else none) else (if ixb p2 (p0n 13) = true then ((fX1_addStep p0_0w p1 26 (p0w 0 8) (p0w 13 (nn p2)) (-1) p0_0_2n p0_0_2w).bind fun (o_19 : Int32 × ST × ST × (Nat → Nat)) => (fX0_fetch_G56_31 p0w o_19)) else none)) else none)
theorem mo_fX0_fetch {p0n : Nat → Nat} {p0w : ST} {p1 : Int32} {p2 : Int32} {p0_0w : ST} {p0_0_2n : Nat → Nat} {p0_0_2w : ST} {o9q : Int32 × ST × ST × ST × (Nat → Nat)} (hrun : fX0_fetch p0n p0w p1 p2 p0_0w p0_0_2n p0_0_2w = some o9q) : glX9 p0_0_2n (o9q.2.2.2.2) := by
  unfold fX0_fetch at hrun
  obtain ⟨hq1, hrun⟩ := chk9 hrun
  rcases br9 hrun with ⟨hc3, hrun⟩ | ⟨hc3, hrun⟩
  · skip
    obtain ⟨hq4, hrun⟩ := chk9 hrun
    obtain ⟨o_5, hc_5, hrun⟩ := bnd9 hrun
    exact (glX9_tr (mo_fX1_addStep hc_5) (mo_fX0_fetch_G31_17 hrun))
  · skip
    obtain ⟨hq18, hrun⟩ := chk9 hrun
    obtain ⟨o_19, hc_19, hrun⟩ := bnd9 hrun
    exact (glX9_tr (mo_fX1_addStep hc_19) (mo_fX0_fetch_G56_31 hrun))
set_option maxHeartbeats 16000000 in
set_option maxRecDepth 100000 in
theorem kX0_fetch {zs : Nat × Nat} (l : Launch) (dC : Nat → ClassId) (dI : Nat → Nat → Nat) (p0a : Nat → Nat) (p0k : Nat → ClassId) (p0n : Nat → Nat) (p0w : ST) (p1 : Int32) (p2 : Int32) (p0_0a : Nat → Nat) (p0_0k : Nat → ClassId) (p0_0n : Nat → Nat) (p0_0w : ST) (p0_0l : SL) (p0_0_2a : Nat → Nat) (p0_0_2k : Nat → ClassId) (p0_0_2n : Nat → Nat) (p0_0_2w : ST) (sz : Nat) (o : Int32 × ST × ST × ST × (Nat → Nat)) (hrun : fX0_fetch p0n p0w p1 p2 p0_0w p0_0_2n p0_0_2w = some o) : Met l yX0_fetch (wz yX0_fetch cX0_fetch 3 (Option.some Jvm.ClassFile.FieldType.int)) ({ frames := 4, cells := (gcX9 p0_0_2n (o.2.2.2.2)), slots := (3 * (gcX9 p0_0_2n (o.2.2.2.2))), locals := 113 } : Room) (va_Pc [.ref (p0a 0), .int p1, .int p2] (PRE zs dC dI ((oX0 (p0a 0) p0a p0k p0n p0w) ++ (oX1 (p0a 1) p0_0a p0_0k p0_0n p0_0w p0_0l) ++ (oX9 (p0_0a 3) p0_0_2a p0_0_2k p0_0_2n p0_0_2w)) ((tX0 p0k) ++ (tX1 p0_0k) ++ (tX9 p0_0_2k)) sz)) (va_Qi (fun (r : Int32) (_ : Unit) => r = (o.1)) (fun _ t => ∃ (xp0_0_2_1_z : Nat), ∃ (zp0_0_2_1_z : ClassId), ∃ (xp0_0_2_2_z : Nat), ∃ (zp0_0_2_2_z : ClassId), ∃ (xp0_0_2_3_z : Nat), ∃ (zp0_0_2_3_z : ClassId), ∃ (xp0_0_2_4_z : Nat), ∃ (zp0_0_2_4_z : ClassId), ∃ (xp0_0_2_5_z : Nat), ∃ (zp0_0_2_5_z : ClassId), POST dC dI ((oX0 (p0a 0) p0a p0k p0n (o.2.1)) ++ (oX1 (p0a 1) p0_0a p0_0k p0_0n (o.2.2.1) p0_0l) ++ (oX9 (p0_0a 3) (st1 (st1 (st1 (st1 (st1 p0_0_2a 2 xp0_0_2_1_z) 3 xp0_0_2_2_z) 4 xp0_0_2_3_z) 5 xp0_0_2_4_z) 6 xp0_0_2_5_z) (st1 (st1 (st1 (st1 (st1 p0_0_2k 2 zp0_0_2_1_z) 3 zp0_0_2_2_z) 4 zp0_0_2_3_z) 5 zp0_0_2_4_z) 6 zp0_0_2_5_z) (o.2.2.2.2) (o.2.2.2.1))) ((tX0 p0k) ++ (tX1 p0_0k) ++ (tX9 (st1 (st1 (st1 (st1 (st1 p0_0_2k 2 zp0_0_2_1_z) 3 zp0_0_2_2_z) 4 zp0_0_2_3_z) 5 zp0_0_2_4_z) 6 zp0_0_2_5_z))) (va_A ((oX0 (p0a 0) p0a p0k p0n p0w) ++ (oX1 (p0a 1) p0_0a p0_0k p0_0n p0_0w p0_0l) ++ (oX9 (p0_0a 3) p0_0_2a p0_0_2k p0_0_2n p0_0_2w)) sz) t) (va_A ((oX0 (p0a 0) p0a p0k p0n p0w) ++ (oX1 (p0a 1) p0_0a p0_0k p0_0n p0_0w p0_0l) ++ (oX9 (p0_0a 3) p0_0_2a p0_0_2k p0_0_2n p0_0_2w)) sz)) (gcX9 p0_0_2n (o.2.2.2.2)) (3 * (gcX9 p0_0_2n (o.2.2.2.2))) (va_A ((oX0 (p0a 0) p0a p0k p0n p0w) ++ (oX1 (p0a 1) p0_0a p0_0k p0_0n p0_0w p0_0l) ++ (oX9 (p0_0a 3) p0_0_2a p0_0_2k p0_0_2n p0_0_2w)) sz) := by
  refine Met.ofW (cc := cX0_fetch) (maxL := 3) (ret := (Option.some Jvm.ClassFile.FieldType.int)) (by decide) rfl ?_
  intro p e s m args below meth c s₁ B hml hv
  obtain ⟨rfl, hsz, hP, hK, hD0, hE⟩ := hv
  have hx := B.exec
  have hb := B.bytes
  have hr := B.returns
  have hts0 := atoms_spec (ws := wz yX0_fetch cX0_fetch 3 (Option.some Jvm.ClassFile.FieldType.int)) B.pre
  have hts : ∀ w ∈ gw, w.before _ s = true := fun w h => hts0 w (List.mem_cons_of_mem _ h)
  have hown : s.vm.findClass RX0 = some m.cls := findClass_of_methodNamed B.named
  have hlocks := B.notSynchronized
  subst hsz
  have hD := hD0.self (sz := s.heap.size)
  refine gQ9 ?_
  intro Q hQ
  generalize hAe : va_A ((oX0 (p0a 0) p0a p0k p0n p0w) ++ (oX1 (p0a 1) p0_0a p0_0k p0_0n p0_0w p0_0l) ++ (oX9 (p0_0a 3) p0_0_2a p0_0_2k p0_0_2n p0_0_2w)) s.heap.size = A at hD hE hQ
  have hA : ∀ q : Nat, s.heap.size ≤ q → A q := fun q h => by rw [← hAe]; exact Or.inr h
  have hS : va_S A s.heap s.heap [] := va_S.rf
  have hP : va_P (dC, dI) cls ((oX0 (p0a 0) p0a p0k p0n p0w) ++ (oX1 (p0a 1) p0_0a p0_0k p0_0n p0_0w p0_0l) ++ (oX9 (p0_0a 3) p0_0_2a p0_0_2k p0_0_2n p0_0_2w)) s.heap := hP
  have hl := lv_entry ([.ref (p0a 0), .int p1, .int p2]) (n := 3) (Nat.le_of_ble_eq_true rfl)
  rw [lg_entry_eq]
  generalize (lg_sl ([.ref (p0a 0), .int p1, .int p2]) ++ List.replicate (3 - (lg_sl ([.ref (p0a 0), .int p1, .int p2])).length) Slot.unset).toArray = ls at hl ⊢
  have hl : lv_has ls 3 [(0, .ref (p0a 0)), (1, .int p1), (2, .int p2)] := hl
  obtain ⟨H, hHe⟩ : ∃ H, H = s.heap := ⟨_, rfl⟩
  obtain ⟨locs, hle⟩ : ∃ locs : List Loc, locs = [] := ⟨_, rfl⟩
  rw [← hHe] at hP
  have hS : va_S A s.heap H locs := by rw [hHe, hle]; exact hS
  show W p l e ({ frames := 4, cells := (gcX9 p0_0_2n (o.2.2.2.2)), slots := (3 * (gcX9 p0_0_2n (o.2.2.2.2))), locals := 113 } : Room) s m ([.ref (p0a 0), .int p1, .int p2] : List Value).toArray below meth c s.heap [] 0 0 Q (F0 m 0 ls [])
  rw [← hle]
  refine wH9 hHe ?_
  have hg_p0_0_2 := glX9_rf p0_0_2n
  have hgn_p0_0_2 : glX9 p0_0_2n (o.2.2.2.2) := (mo_fX0_fetch hrun)
  refine W.widen (k := (gcX9 p0_0_2n p0_0_2n)) (n := (3 * (gcX9 p0_0_2n p0_0_2n))) (Nat.zero_le _) (Nat.zero_le _) ?_
  unfold fX0_fetch at hrun
  refine lv_aload_n hx hb dX0_fetch_0 rfl (lv_at hl 0 rfl) ?_
  refine va_get (D := (dC, dI)) (ci := 8) (v := .ref (p0a 13)) (C := RX0) (T := TX0) (N := 17) hx hb hts i_X0 hown hK hP 0 rfl rfl 12 (by decide) (hts _ qw622) (fun _ h9 => h9) rfl dX0_fetch_1 ?_
  refine lv_iload_n hx hb dX0_fetch_4 rfl (lv_at hl 2 rfl) ?_
  obtain ⟨hq1, hrun⟩ := chk9 hrun
  refine va_iald hx hb hK hP 4 3 rfl rfl (ixb_in hq1) dX0_fetch_5 ?_
  refine lv_bipush (v := (-2)) hx hb dX0_fetch_6 (by decide) ?_
  have J57 : ∀ (p0_0w_57 : ST) (p0_0_2w_57 : ST) (p0_0_2n_57 : Nat → Nat) (xp0_0_2_1_57 : Nat) (zp0_0_2_1_57 : ClassId) (xp0_0_2_2_57 : Nat) (zp0_0_2_2_57 : ClassId) (xp0_0_2_3_57 : Nat) (zp0_0_2_3_57 : ClassId) (xp0_0_2_4_57 : Nat) (zp0_0_2_4_57 : ClassId) (xp0_0_2_5_57 : Nat) (zp0_0_2_5_57 : ClassId) (H : Heap) (locs : List Loc) (ls : Array Slot), (fX0_fetch_J57 p0w p0_0w_57 p0_0_2w_57 p0_0_2n_57) = some o → va_P (dC, dI) cls ((oX0 (p0a 0) p0a p0k p0n p0w) ++ (oX1 (p0a 1) p0_0a p0_0k p0_0n p0_0w_57 p0_0l) ++ (oX9 (p0_0a 3) (st1 (st1 (st1 (st1 (st1 p0_0_2a 2 xp0_0_2_1_57) 3 xp0_0_2_2_57) 4 xp0_0_2_3_57) 5 xp0_0_2_4_57) 6 xp0_0_2_5_57) (st1 (st1 (st1 (st1 (st1 p0_0_2k 2 zp0_0_2_1_57) 3 zp0_0_2_2_57) 4 zp0_0_2_3_57) 5 zp0_0_2_4_57) 6 zp0_0_2_5_57) p0_0_2n_57 p0_0_2w_57)) H → va_D A ((oX0 (p0a 0) p0a p0k p0n p0w) ++ (oX1 (p0a 1) p0_0a p0_0k p0_0n p0_0w_57 p0_0l) ++ (oX9 (p0_0a 3) (st1 (st1 (st1 (st1 (st1 p0_0_2a 2 xp0_0_2_1_57) 3 xp0_0_2_2_57) 4 xp0_0_2_3_57) 5 xp0_0_2_4_57) 6 xp0_0_2_5_57) (st1 (st1 (st1 (st1 (st1 p0_0_2k 2 zp0_0_2_1_57) 3 zp0_0_2_2_57) 4 zp0_0_2_3_57) 5 zp0_0_2_4_57) 6 zp0_0_2_5_57) p0_0_2n_57 p0_0_2w_57)) → va_K (dC, dI) cls ((tX0 p0k) ++ (tX1 p0_0k) ++ (tX9 (st1 (st1 (st1 (st1 (st1 p0_0_2k 2 zp0_0_2_1_57) 3 zp0_0_2_2_57) 4 zp0_0_2_3_57) 5 zp0_0_2_4_57) 6 zp0_0_2_5_57))) s → va_S A s.heap H locs → lv_has ls 3 [(0, .ref (p0a 0))] → glX9 p0_0_2n p0_0_2n_57 → W p l e ({ frames := 4, cells := (gcX9 p0_0_2n (o.2.2.2.2)), slots := (3 * (gcX9 p0_0_2n (o.2.2.2.2))), locals := 113 } : Room) s m ([.ref (p0a 0), .int p1, .int p2] : List Value).toArray below meth c H locs (gcX9 p0_0_2n p0_0_2n_57) (3 * (gcX9 p0_0_2n p0_0_2n_57)) Q (F0 m 57 ls []) := by
    intro p0_0w_57 p0_0_2w_57 p0_0_2n_57 xp0_0_2_1_57 zp0_0_2_1_57 xp0_0_2_2_57 zp0_0_2_2_57 xp0_0_2_3_57 zp0_0_2_3_57 xp0_0_2_4_57 zp0_0_2_4_57 xp0_0_2_5_57 zp0_0_2_5_57 H locs ls hrun hP hD hK hS hl hg_p0_0_2 
    have hgn_p0_0_2 : glX9 p0_0_2n_57 (o.2.2.2.2) := (mo_fX0_fetch_J57 hrun)
    unfold fX0_fetch_J57 at hrun
    refine lv_aload_n hx hb dX0_fetch_57 rfl (lv_at hl 0 rfl) ?_
    refine lv_dup hx hb dX0_fetch_58 rfl ?_
    refine va_get (D := (dC, dI)) (ci := 8) (v := .int (p0w 0 8)) (C := RX0) (T := TX0) (N := 17) hx hb hts i_X0 hown hK hP 0 rfl rfl 8 (by decide) (hts _ qw623) (fun _ h9 => h9) rfl dX0_fetch_59 ?_
    refine lv_iconst (v := 1) hx hb dX0_fetch_62 (by decide) ?_
    refine lv_iadd hx hb dX0_fetch_63 ?_
    refine va_put (D := (dC, dI)) (ci := 8) (v := .int ((p0w 0 8) + 1)) (ty := .int) (C := RX0) (T := TX0) (N := 17) hx hb hts i_X0 tyX0 tyX0_ok nmX0 hown hK hP hD hS 0 rfl rfl 8 (by decide) (hts _ qw623) (fun _ h9 => h9) rfl (by decide +kernel) rfl rfl (Nat.le_of_ble_eq_true rfl) dX0_fetch_64 (fun H locs hP hD hS => ?_)
    have hP : va_P (dC, dI) cls ((oX0 (p0a 0) p0a p0k p0n (upw p0w 0 8 ((p0w 0 8) + 1))) ++ (oX1 (p0a 1) p0_0a p0_0k p0_0n p0_0w_57 p0_0l) ++ (oX9 (p0_0a 3) (st1 (st1 (st1 (st1 (st1 p0_0_2a 2 xp0_0_2_1_57) 3 xp0_0_2_2_57) 4 xp0_0_2_3_57) 5 xp0_0_2_4_57) 6 xp0_0_2_5_57) (st1 (st1 (st1 (st1 (st1 p0_0_2k 2 zp0_0_2_1_57) 3 zp0_0_2_2_57) 4 zp0_0_2_3_57) 5 zp0_0_2_4_57) 6 zp0_0_2_5_57) p0_0_2n_57 p0_0_2w_57)) H := hP
    have hD : va_D A ((oX0 (p0a 0) p0a p0k p0n (upw p0w 0 8 ((p0w 0 8) + 1))) ++ (oX1 (p0a 1) p0_0a p0_0k p0_0n p0_0w_57 p0_0l) ++ (oX9 (p0_0a 3) (st1 (st1 (st1 (st1 (st1 p0_0_2a 2 xp0_0_2_1_57) 3 xp0_0_2_2_57) 4 xp0_0_2_3_57) 5 xp0_0_2_4_57) 6 xp0_0_2_5_57) (st1 (st1 (st1 (st1 (st1 p0_0_2k 2 zp0_0_2_1_57) 3 zp0_0_2_2_57) 4 zp0_0_2_3_57) 5 zp0_0_2_4_57) 6 zp0_0_2_5_57) p0_0_2n_57 p0_0_2w_57)) := hD
    obtain ⟨w2, ew2, hrun⟩ := let9 hrun
    rw [← ew2] at hP hD
    refine lv_aload_n hx hb dX0_fetch_67 rfl (lv_at hl 0 rfl) ?_
    refine va_get (D := (dC, dI)) (ci := 8) (v := .int (w2 0 8)) (C := RX0) (T := TX0) (N := 17) hx hb hts i_X0 hown hK hP 0 rfl rfl 8 (by decide) (hts _ qw623) (fun _ h9 => h9) rfl dX0_fetch_68 ?_
    refine lv_iconst (v := 1) hx hb dX0_fetch_71 (by decide) ?_
    refine lv_isub hx hb dX0_fetch_72 ?_
    have ho9 : (((w2 0 8) - 1), w2, p0_0w_57, p0_0_2w_57, p0_0_2n_57) = o := Option.some.inj hrun
    subst ho9
    subst hQ
    exact W.iret (v := ((w2 0 8) - 1)) hx hb hr (fun t ht hW => ⟨⟨((w2 0 8) - 1), (), rfl, rfl, ⟨xp0_0_2_1_57, zp0_0_2_1_57, xp0_0_2_2_57, zp0_0_2_2_57, xp0_0_2_3_57, zp0_0_2_3_57, xp0_0_2_4_57, zp0_0_2_4_57, xp0_0_2_5_57, zp0_0_2_5_57, by rw [ht]; exact hP, va_K.moved hW.alike hK, hD⟩⟩, hS.F ht⟩) hS.2.2 dX0_fetch_73
  rcases br9 hrun with ⟨hc3, hrun⟩ | ⟨hc3, hrun⟩
  · refine lv_icmp_ne (tgt := 35) hx hb dX0_fetch_8 (by decide) (fun c => absurd hc3 c) (fun _ => ?_)
    refine lv_aload_n hx hb dX0_fetch_11 rfl (lv_at hl 0 rfl) ?_
    refine va_get (D := (dC, dI)) (ci := 8) (v := .ref (p0a 1)) (C := RX0) (T := TX0) (N := 17) hx hb hts i_X0 hown hK hP 0 rfl rfl 0 (by decide) (hts _ qw618) (fun _ h9 => h9) rfl dX0_fetch_12 ?_
    refine lv_iload_n hx hb dX0_fetch_15 rfl (lv_at hl 1 rfl) ?_
    refine lv_iconst (v := 0) hx hb dX0_fetch_16 (by decide) ?_
    refine lv_aload_n hx hb dX0_fetch_17 rfl (lv_at hl 0 rfl) ?_
    refine va_get (D := (dC, dI)) (ci := 8) (v := .int (p0w 0 8)) (C := RX0) (T := TX0) (N := 17) hx hb hts i_X0 hown hK hP 0 rfl rfl 8 (by decide) (hts _ qw623) (fun _ h9 => h9) rfl dX0_fetch_18 ?_
    refine lv_aload_n hx hb dX0_fetch_21 rfl (lv_at hl 0 rfl) ?_
    refine va_get (D := (dC, dI)) (ci := 8) (v := .ref (p0a 14)) (C := RX0) (T := TX0) (N := 17) hx hb hts i_X0 hown hK hP 0 rfl rfl 13 (by decide) (hts _ qw624) (fun _ h9 => h9) rfl dX0_fetch_22 ?_
    refine lv_iload_n hx hb dX0_fetch_25 rfl (lv_at hl 2 rfl) ?_
    obtain ⟨hq4, hrun⟩ := chk9 hrun
    refine va_iald hx hb hK hP 5 4 rfl rfl (ixb_in hq4) dX0_fetch_26 ?_
    refine lv_iconst (v := (-1)) hx hb dX0_fetch_27 (by decide) ?_
    obtain ⟨o_5, hc_5, hrun⟩ := bnd9 hrun
    have hPc := hP.sub (ws' := ((oX1 (p0a 1) p0_0a p0_0k p0_0n p0_0w p0_0l) ++ (oX9 (p0_0a 3) p0_0_2a p0_0_2k p0_0_2n p0_0_2w))) [9, 10, 11, 12, 13, 14, 15, 16, 17, 18, 19, 20, 21, 22, 23, 24, 25, 26, 27, 28, 29, 30, 31, 32] rfl
    have hDc := hD.sub (ws' := ((oX1 (p0a 1) p0_0a p0_0k p0_0n p0_0w p0_0l) ++ (oX9 (p0_0a 3) p0_0_2a p0_0_2k p0_0_2n p0_0_2w))) [9, 10, 11, 12, 13, 14, 15, 16, 17, 18, 19, 20, 21, 22, 23, 24, 25, 26, 27, 28, 29, 30, 31, 32] (by decide) rfl
    have hKc := hK.sub (tys' := ((tX1 p0_0k) ++ (tX9 p0_0_2k))) [8, 9, 10, 11, 12, 13, 14, 15, 16, 17, 18, 19, 20, 21, 22, 23, 24, 25, 26, 27, 28, 29] rfl
    have hFc := va_free (wc := ((oX1 (p0a 1) p0_0a p0_0k p0_0n p0_0w p0_0l) ++ (oX9 (p0_0a 3) p0_0_2a p0_0_2k p0_0_2n p0_0_2w))) hD hS hA [9, 10, 11, 12, 13, 14, 15, 16, 17, 18, 19, 20, 21, 22, 23, 24, 25, 26, 27, 28, 29, 30, 31, 32] rfl
    have hgn_p0_0_2 : glX9 (o_5.2.2.2) (o.2.2.2.2) := (mo_fX0_fetch_G31_17 hrun)
    refine va_calli (va_runV (As := [.int p1, .int 0, .int (p0w 0 8), .int (p0w 14 (nn p2)), .int (-1)]) (rest := []) ⟨hx, hb, hml, hown, hts⟩ (kX1_addStep l dC dI (p0a := (st0 (p0a 1) p0_0a)) (p0k := p0_0k) (p0n := p0_0n) (p0w := p0_0w) (p0l := p0_0l) (p1 := p1) (p2 := 0) (p3 := (p0w 0 8)) (p4 := (p0w 14 (nn p2))) (p5 := (-1)) (p0_2a := p0_0_2a) (p0_2k := p0_0_2k) (p0_2n := p0_0_2n) (p0_2w := p0_0_2w) (sz := _) (o := o_5) (hrun := hc_5)) (cwV 5 hts (gi_V qw625 qw165 qw166 qw126 (gi_z qw163)) rfl rfl rfl (by decide +kernel) ⟨Nat.le_of_ble_eq_true rfl, Nat.le_of_ble_eq_true rfl⟩) ⟨PRE.blind, va_recv hKc hPc (ci := 4) (q0 := 0) rfl rfl, PRE.of hE hS hFc hPc hKc hDc⟩ rfl rfl hl.1 rfl (lv_room (Nat.le_of_ble_eq_true rfl)) dX0_fetch_28 ⟨(show (gcX9 p0_0_2n p0_0_2n) + (gcX9 p0_0_2n (o_5.2.2.2)) ≤ (gcX9 p0_0_2n (o.2.2.2.2)) from by have q0 := gsX9 hg_p0_0_2 (mo_fX1_addStep hc_5) hgn_p0_0_2; omega), (show (3 * (gcX9 p0_0_2n p0_0_2n)) + (3 * ((gcX9 p0_0_2n (o_5.2.2.2)))) ≤ (3 * (gcX9 p0_0_2n (o.2.2.2.2))) from by have q0 := gsX9 hg_p0_0_2 (mo_fX1_addStep hc_5) hgn_p0_0_2; omega)⟩) hS (fun q _ h => hFc q h) hFc (fun r6 u t H locs ht hvm hw hB hz1 hk1 hS => ?_)
    obtain ⟨x7, z8, x9, z10, x11, z12, x13, z14, x15, z16, hB⟩ := hB
    obtain ⟨hP, hD, hK⟩ := JOIN (wr := (oX0 (p0a 0) p0a p0k p0n p0w)) hP hD hK [9, 10, 11, 12, 13, 14, 15, 16, 17, 18, 19, 20, 21, 22, 23, 24, 25, 26, 27, 28, 29, 30, 31, 32] [0, 1, 2, 3, 4, 5, 6, 7, 8] [0, 1, 2, 3, 4, 5, 6, 7] rfl rfl (by decide) (by decide) rfl hk1 hFc ht hvm hB
    have hP : va_P (dC, dI) cls ((oX0 (p0a 0) p0a p0k p0n p0w) ++ (oX1 (p0a 1) p0_0a p0_0k p0_0n (o_5.2.1) p0_0l) ++ (oX9 (p0_0a 3) (st1 (st1 (st1 (st1 (st1 p0_0_2a 2 x7) 3 x9) 4 x11) 5 x13) 6 x15) (st1 (st1 (st1 (st1 (st1 p0_0_2k 2 z8) 3 z10) 4 z12) 5 z14) 6 z16) (o_5.2.2.2) (o_5.2.2.1))) H := hP.sub [0, 1, 2, 3, 4, 5, 6, 7, 8, 9, 10, 11, 12, 13, 14, 15, 16, 17, 18, 19, 20, 21, 22, 23, 24, 25, 26, 27, 28, 29, 30, 31, 32] rfl
    have hD : va_D A ((oX0 (p0a 0) p0a p0k p0n p0w) ++ (oX1 (p0a 1) p0_0a p0_0k p0_0n (o_5.2.1) p0_0l) ++ (oX9 (p0_0a 3) (st1 (st1 (st1 (st1 (st1 p0_0_2a 2 x7) 3 x9) 4 x11) 5 x13) 6 x15) (st1 (st1 (st1 (st1 (st1 p0_0_2k 2 z8) 3 z10) 4 z12) 5 z14) 6 z16) (o_5.2.2.2) (o_5.2.2.1))) := hD.sub [0, 1, 2, 3, 4, 5, 6, 7, 8, 9, 10, 11, 12, 13, 14, 15, 16, 17, 18, 19, 20, 21, 22, 23, 24, 25, 26, 27, 28, 29, 30, 31, 32] (by decide) rfl
    have hK : va_K (dC, dI) cls ((tX0 p0k) ++ (tX1 p0_0k) ++ (tX9 (st1 (st1 (st1 (st1 (st1 p0_0_2k 2 z8) 3 z10) 4 z12) 5 z14) 6 z16))) s := hK.sub [0, 1, 2, 3, 4, 5, 6, 7, 8, 9, 10, 11, 12, 13, 14, 15, 16, 17, 18, 19, 20, 21, 22, 23, 24, 25, 26, 27, 28, 29] rfl
    obtain rfl : r6 = (o_5.1) := hw
    refine W.widen (k := (gcX9 p0_0_2n (o_5.2.2.2))) (n := (3 * (gcX9 p0_0_2n (o_5.2.2.2)))) (by have a0 := gcX9_add hg_p0_0_2 (mo_fX1_addStep hc_5); omega) (by have a0 := gcX9_add hg_p0_0_2 (mo_fX1_addStep hc_5); omega) ?_
    have hg_p0_0_2 : glX9 p0_0_2n (o_5.2.2.2) := glX9_tr hg_p0_0_2 (mo_fX1_addStep hc_5)
    unfold fX0_fetch_G31_17 at hrun
    refine lv_pop hx hb dX0_fetch_31 rfl ?_
    refine lv_goto (tgt := 57) hx hb dX0_fetch_32 (by decide) ?_
    exact J57 (o_5.2.1) (o_5.2.2.1) (o_5.2.2.2) x7 z8 x9 z10 x11 z12 x13 z14 x15 z16 _ _ _ hrun hP hD hK hS (lv_sub hl [0] rfl) hg_p0_0_2
  · refine lv_icmp_ne (tgt := 35) hx hb dX0_fetch_8 (by decide) (fun _ => ?_) (fun c => absurd c hc3)
    refine lv_aload_n hx hb dX0_fetch_35 rfl (lv_at hl 0 rfl) ?_
    refine va_get (D := (dC, dI)) (ci := 8) (v := .ref (p0a 1)) (C := RX0) (T := TX0) (N := 17) hx hb hts i_X0 hown hK hP 0 rfl rfl 0 (by decide) (hts _ qw618) (fun _ h9 => h9) rfl dX0_fetch_36 ?_
    refine lv_iload_n hx hb dX0_fetch_39 rfl (lv_at hl 1 rfl) ?_
    refine lv_bipush (v := 26) hx hb dX0_fetch_40 (by decide) ?_
    refine lv_aload_n hx hb dX0_fetch_42 rfl (lv_at hl 0 rfl) ?_
    refine va_get (D := (dC, dI)) (ci := 8) (v := .int (p0w 0 8)) (C := RX0) (T := TX0) (N := 17) hx hb hts i_X0 hown hK hP 0 rfl rfl 8 (by decide) (hts _ qw623) (fun _ h9 => h9) rfl dX0_fetch_43 ?_
    refine lv_aload_n hx hb dX0_fetch_46 rfl (lv_at hl 0 rfl) ?_
    refine va_get (D := (dC, dI)) (ci := 8) (v := .ref (p0a 13)) (C := RX0) (T := TX0) (N := 17) hx hb hts i_X0 hown hK hP 0 rfl rfl 12 (by decide) (hts _ qw622) (fun _ h9 => h9) rfl dX0_fetch_47 ?_
    refine lv_iload_n hx hb dX0_fetch_50 rfl (lv_at hl 2 rfl) ?_
    obtain ⟨hq18, hrun⟩ := chk9 hrun
    refine va_iald hx hb hK hP 4 3 rfl rfl (ixb_in hq18) dX0_fetch_51 ?_
    refine lv_iconst (v := (-1)) hx hb dX0_fetch_52 (by decide) ?_
    obtain ⟨o_19, hc_19, hrun⟩ := bnd9 hrun
    have hPc := hP.sub (ws' := ((oX1 (p0a 1) p0_0a p0_0k p0_0n p0_0w p0_0l) ++ (oX9 (p0_0a 3) p0_0_2a p0_0_2k p0_0_2n p0_0_2w))) [9, 10, 11, 12, 13, 14, 15, 16, 17, 18, 19, 20, 21, 22, 23, 24, 25, 26, 27, 28, 29, 30, 31, 32] rfl
    have hDc := hD.sub (ws' := ((oX1 (p0a 1) p0_0a p0_0k p0_0n p0_0w p0_0l) ++ (oX9 (p0_0a 3) p0_0_2a p0_0_2k p0_0_2n p0_0_2w))) [9, 10, 11, 12, 13, 14, 15, 16, 17, 18, 19, 20, 21, 22, 23, 24, 25, 26, 27, 28, 29, 30, 31, 32] (by decide) rfl
    have hKc := hK.sub (tys' := ((tX1 p0_0k) ++ (tX9 p0_0_2k))) [8, 9, 10, 11, 12, 13, 14, 15, 16, 17, 18, 19, 20, 21, 22, 23, 24, 25, 26, 27, 28, 29] rfl
    have hFc := va_free (wc := ((oX1 (p0a 1) p0_0a p0_0k p0_0n p0_0w p0_0l) ++ (oX9 (p0_0a 3) p0_0_2a p0_0_2k p0_0_2n p0_0_2w))) hD hS hA [9, 10, 11, 12, 13, 14, 15, 16, 17, 18, 19, 20, 21, 22, 23, 24, 25, 26, 27, 28, 29, 30, 31, 32] rfl
    have hgn_p0_0_2 : glX9 (o_19.2.2.2) (o.2.2.2.2) := (mo_fX0_fetch_G56_31 hrun)
    refine va_calli (va_runV (As := [.int p1, .int 26, .int (p0w 0 8), .int (p0w 13 (nn p2)), .int (-1)]) (rest := []) ⟨hx, hb, hml, hown, hts⟩ (kX1_addStep l dC dI (p0a := (st0 (p0a 1) p0_0a)) (p0k := p0_0k) (p0n := p0_0n) (p0w := p0_0w) (p0l := p0_0l) (p1 := p1) (p2 := 26) (p3 := (p0w 0 8)) (p4 := (p0w 13 (nn p2))) (p5 := (-1)) (p0_2a := p0_0_2a) (p0_2k := p0_0_2k) (p0_2n := p0_0_2n) (p0_2w := p0_0_2w) (sz := _) (o := o_19) (hrun := hc_19)) (cwV 5 hts (gi_V qw625 qw165 qw166 qw126 (gi_z qw163)) rfl rfl rfl (by decide +kernel) ⟨Nat.le_of_ble_eq_true rfl, Nat.le_of_ble_eq_true rfl⟩) ⟨PRE.blind, va_recv hKc hPc (ci := 4) (q0 := 0) rfl rfl, PRE.of hE hS hFc hPc hKc hDc⟩ rfl rfl hl.1 rfl (lv_room (Nat.le_of_ble_eq_true rfl)) dX0_fetch_53 ⟨(show (gcX9 p0_0_2n p0_0_2n) + (gcX9 p0_0_2n (o_19.2.2.2)) ≤ (gcX9 p0_0_2n (o.2.2.2.2)) from by have q0 := gsX9 hg_p0_0_2 (mo_fX1_addStep hc_19) hgn_p0_0_2; omega), (show (3 * (gcX9 p0_0_2n p0_0_2n)) + (3 * ((gcX9 p0_0_2n (o_19.2.2.2)))) ≤ (3 * (gcX9 p0_0_2n (o.2.2.2.2))) from by have q0 := gsX9 hg_p0_0_2 (mo_fX1_addStep hc_19) hgn_p0_0_2; omega)⟩) hS (fun q _ h => hFc q h) hFc (fun r20 u t H locs ht hvm hw hB hz1 hk1 hS => ?_)
    obtain ⟨x21, z22, x23, z24, x25, z26, x27, z28, x29, z30, hB⟩ := hB
    obtain ⟨hP, hD, hK⟩ := JOIN (wr := (oX0 (p0a 0) p0a p0k p0n p0w)) hP hD hK [9, 10, 11, 12, 13, 14, 15, 16, 17, 18, 19, 20, 21, 22, 23, 24, 25, 26, 27, 28, 29, 30, 31, 32] [0, 1, 2, 3, 4, 5, 6, 7, 8] [0, 1, 2, 3, 4, 5, 6, 7] rfl rfl (by decide) (by decide) rfl hk1 hFc ht hvm hB
    have hP : va_P (dC, dI) cls ((oX0 (p0a 0) p0a p0k p0n p0w) ++ (oX1 (p0a 1) p0_0a p0_0k p0_0n (o_19.2.1) p0_0l) ++ (oX9 (p0_0a 3) (st1 (st1 (st1 (st1 (st1 p0_0_2a 2 x21) 3 x23) 4 x25) 5 x27) 6 x29) (st1 (st1 (st1 (st1 (st1 p0_0_2k 2 z22) 3 z24) 4 z26) 5 z28) 6 z30) (o_19.2.2.2) (o_19.2.2.1))) H := hP.sub [0, 1, 2, 3, 4, 5, 6, 7, 8, 9, 10, 11, 12, 13, 14, 15, 16, 17, 18, 19, 20, 21, 22, 23, 24, 25, 26, 27, 28, 29, 30, 31, 32] rfl
    have hD : va_D A ((oX0 (p0a 0) p0a p0k p0n p0w) ++ (oX1 (p0a 1) p0_0a p0_0k p0_0n (o_19.2.1) p0_0l) ++ (oX9 (p0_0a 3) (st1 (st1 (st1 (st1 (st1 p0_0_2a 2 x21) 3 x23) 4 x25) 5 x27) 6 x29) (st1 (st1 (st1 (st1 (st1 p0_0_2k 2 z22) 3 z24) 4 z26) 5 z28) 6 z30) (o_19.2.2.2) (o_19.2.2.1))) := hD.sub [0, 1, 2, 3, 4, 5, 6, 7, 8, 9, 10, 11, 12, 13, 14, 15, 16, 17, 18, 19, 20, 21, 22, 23, 24, 25, 26, 27, 28, 29, 30, 31, 32] (by decide) rfl
    have hK : va_K (dC, dI) cls ((tX0 p0k) ++ (tX1 p0_0k) ++ (tX9 (st1 (st1 (st1 (st1 (st1 p0_0_2k 2 z22) 3 z24) 4 z26) 5 z28) 6 z30))) s := hK.sub [0, 1, 2, 3, 4, 5, 6, 7, 8, 9, 10, 11, 12, 13, 14, 15, 16, 17, 18, 19, 20, 21, 22, 23, 24, 25, 26, 27, 28, 29] rfl
    obtain rfl : r20 = (o_19.1) := hw
    refine W.widen (k := (gcX9 p0_0_2n (o_19.2.2.2))) (n := (3 * (gcX9 p0_0_2n (o_19.2.2.2)))) (by have a0 := gcX9_add hg_p0_0_2 (mo_fX1_addStep hc_19); omega) (by have a0 := gcX9_add hg_p0_0_2 (mo_fX1_addStep hc_19); omega) ?_
    have hg_p0_0_2 : glX9 p0_0_2n (o_19.2.2.2) := glX9_tr hg_p0_0_2 (mo_fX1_addStep hc_19)
    unfold fX0_fetch_G56_31 at hrun
    refine lv_pop hx hb dX0_fetch_56 rfl ?_
    exact J57 (o_19.2.1) (o_19.2.2.1) (o_19.2.2.2) x21 z22 x23 z24 x25 z26 x27 z28 x29 z30 _ _ _ hrun hP hD hK hS (lv_sub hl [0] rfl) hg_p0_0_2
def fX0_findSlot_J87 (p0w_87 : ST) : Option ST := some p0w_87
def fX0_findSlot_J67 (p0n : Nat → Nat) (p0w : ST) (p1 : Int32) : Option ST := (if ixb p1 (p0n 13) = true then (lt9 (upw p0w 13 (nn p1) (p0w 0 10)) fun (w4 : ST) => (lt9 (upw w4 0 10 ((w4 0 10) + 1)) fun (w5 : ST) => (fX0_findSlot_J87 w5))) else none)
def fX0_findSlot (p0n : Nat → Nat) (p0w : ST) (p1 : Int32) (p0_6n : Nat → Nat) (p0_6w : ST) (p0_0_2n : Nat → Nat) (p0_0_2w : ST) : Option ST := (if ixb p1 (p0_6n 16) = true then (if ixb p1 (p0_6n 15) = true then (if (p0_6w 15 (nn p1)) = 1 then (if ixb (p0_6w 16 (nn p1)) (p0_0_2n 2) = true then (if (p0_0_2w 2 (nn (p0_6w 16 (nn p1)))) = 0 then (if ixb p1 (p0n 13) = true then (lt9 (upw p0w 13 (nn p1) (-2)) fun (w10 : ST) => (if ixb (p0_6w 16 (nn p1)) (p0_0_2n 4) = true then (if ixb p1 (p0n 14) = true then (lt9 (upw w10 14 (nn p1) (p0_0_2w 4 (nn (p0_6w 16 (nn p1))))) fun (w13 : ST) => (fX0_findSlot_J87 w13)) else none) else none)) else none) else (fX0_findSlot_J67 p0n p0w p1)) else none) else (fX0_findSlot_J67 p0n p0w p1)) else none) else none)
set_option maxHeartbeats 16000000 in
set_option maxRecDepth 100000 in
theorem kX0_findSlot {zs : Nat × Nat} (l : Launch) (dC : Nat → ClassId) (dI : Nat → Nat → Nat) (p0a : Nat → Nat) (p0k : Nat → ClassId) (p0n : Nat → Nat) (p0w : ST) (p1 : Int32) (p0_6a : Nat → Nat) (p0_6k : Nat → ClassId) (p0_6n : Nat → Nat) (p0_6w : ST) (p0_6l : SL) (p0_0a : Nat → Nat) (p0_0k : Nat → ClassId) (p0_0n : Nat → Nat) (p0_0w : ST) (p0_0l : SL) (p0_0_2a : Nat → Nat) (p0_0_2k : Nat → ClassId) (p0_0_2n : Nat → Nat) (p0_0_2w : ST) (sz : Nat) (o : ST) (hrun : fX0_findSlot p0n p0w p1 p0_6n p0_6w p0_0_2n p0_0_2w = some o) : Met l yX0_findSlot (wz yX0_findSlot cX0_findSlot 3 (Option.none : Option Jvm.ClassFile.FieldType)) ({ frames := 0, cells := 0, slots := 0, locals := 0 } : Room) (va_Pc [.ref (p0a 0), .int p1] (PRE zs dC dI ((oX0 (p0a 0) p0a p0k p0n p0w) ++ (oX2 (p0a 7) p0_6a p0_6k p0_6n p0_6w p0_6l) ++ (oX1 (p0a 1) p0_0a p0_0k p0_0n p0_0w p0_0l) ++ (oX9 (p0_0a 3) p0_0_2a p0_0_2k p0_0_2n p0_0_2w)) ((tX0 p0k) ++ (tX2 p0_6k) ++ (tX1 p0_0k) ++ (tX9 p0_0_2k)) sz)) (va_Qv (fun (_ : Unit) => True) (fun _ t => POST dC dI ((oX0 (p0a 0) p0a p0k p0n o) ++ (oX2 (p0a 7) p0_6a p0_6k p0_6n p0_6w p0_6l) ++ (oX1 (p0a 1) p0_0a p0_0k p0_0n p0_0w p0_0l) ++ (oX9 (p0_0a 3) p0_0_2a p0_0_2k p0_0_2n p0_0_2w)) ((tX0 p0k) ++ (tX2 p0_6k) ++ (tX1 p0_0k) ++ (tX9 p0_0_2k)) (va_A ((oX0 (p0a 0) p0a p0k p0n p0w) ++ (oX2 (p0a 7) p0_6a p0_6k p0_6n p0_6w p0_6l) ++ (oX1 (p0a 1) p0_0a p0_0k p0_0n p0_0w p0_0l) ++ (oX9 (p0_0a 3) p0_0_2a p0_0_2k p0_0_2n p0_0_2w)) sz) t) (va_A ((oX0 (p0a 0) p0a p0k p0n p0w) ++ (oX2 (p0a 7) p0_6a p0_6k p0_6n p0_6w p0_6l) ++ (oX1 (p0a 1) p0_0a p0_0k p0_0n p0_0w p0_0l) ++ (oX9 (p0_0a 3) p0_0_2a p0_0_2k p0_0_2n p0_0_2w)) sz)) 0 0 (va_A ((oX0 (p0a 0) p0a p0k p0n p0w) ++ (oX2 (p0a 7) p0_6a p0_6k p0_6n p0_6w p0_6l) ++ (oX1 (p0a 1) p0_0a p0_0k p0_0n p0_0w p0_0l) ++ (oX9 (p0_0a 3) p0_0_2a p0_0_2k p0_0_2n p0_0_2w)) sz) := by
  refine Met.ofW (cc := cX0_findSlot) (maxL := 3) (ret := (Option.none : Option Jvm.ClassFile.FieldType)) (by decide) rfl ?_
  intro p e s m args below meth c s₁ B hml hv
  obtain ⟨rfl, hsz, hP, hK, hD0, hE⟩ := hv
  have hx := B.exec
  have hb := B.bytes
  have hr := B.returns
  have hts0 := atoms_spec (ws := wz yX0_findSlot cX0_findSlot 3 (Option.none : Option Jvm.ClassFile.FieldType)) B.pre
  have hts : ∀ w ∈ gw, w.before _ s = true := fun w h => hts0 w (List.mem_cons_of_mem _ h)
  have hown : s.vm.findClass RX0 = some m.cls := findClass_of_methodNamed B.named
  have hlocks := B.notSynchronized
  subst hsz
  have hD := hD0.self (sz := s.heap.size)
  refine gQ9 ?_
  intro Q hQ
  generalize hAe : va_A ((oX0 (p0a 0) p0a p0k p0n p0w) ++ (oX2 (p0a 7) p0_6a p0_6k p0_6n p0_6w p0_6l) ++ (oX1 (p0a 1) p0_0a p0_0k p0_0n p0_0w p0_0l) ++ (oX9 (p0_0a 3) p0_0_2a p0_0_2k p0_0_2n p0_0_2w)) s.heap.size = A at hD hE hQ
  have hA : ∀ q : Nat, s.heap.size ≤ q → A q := fun q h => by rw [← hAe]; exact Or.inr h
  have hS : va_S A s.heap s.heap [] := va_S.rf
  have hP : va_P (dC, dI) cls ((oX0 (p0a 0) p0a p0k p0n p0w) ++ (oX2 (p0a 7) p0_6a p0_6k p0_6n p0_6w p0_6l) ++ (oX1 (p0a 1) p0_0a p0_0k p0_0n p0_0w p0_0l) ++ (oX9 (p0_0a 3) p0_0_2a p0_0_2k p0_0_2n p0_0_2w)) s.heap := hP
  have hl := lv_entry ([.ref (p0a 0), .int p1]) (n := 3) (Nat.le_of_ble_eq_true rfl)
  rw [lg_entry_eq]
  generalize (lg_sl ([.ref (p0a 0), .int p1]) ++ List.replicate (3 - (lg_sl ([.ref (p0a 0), .int p1])).length) Slot.unset).toArray = ls at hl ⊢
  have hl : lv_has ls 3 [(0, .ref (p0a 0)), (1, .int p1)] := hl
  obtain ⟨H, hHe⟩ : ∃ H, H = s.heap := ⟨_, rfl⟩
  obtain ⟨locs, hle⟩ : ∃ locs : List Loc, locs = [] := ⟨_, rfl⟩
  rw [← hHe] at hP
  have hS : va_S A s.heap H locs := by rw [hHe, hle]; exact hS
  show W p l e ({ frames := 0, cells := 0, slots := 0, locals := 0 } : Room) s m ([.ref (p0a 0), .int p1] : List Value).toArray below meth c s.heap [] 0 0 Q (F0 m 0 ls [])
  rw [← hle]
  refine wH9 hHe ?_
  unfold fX0_findSlot at hrun
  refine lv_aload_n hx hb dX0_findSlot_0 rfl (lv_at hl 0 rfl) ?_
  refine va_get (D := (dC, dI)) (ci := 8) (v := .ref (p0a 7)) (C := RX0) (T := TX0) (N := 17) hx hb hts i_X0 hown hK hP 0 rfl rfl 6 (by decide) (hts _ qw626) (fun _ h9 => h9) rfl dX0_findSlot_1 ?_
  refine va_get (D := (dC, dI)) (ci := 9) (v := .ref (p0_6a 16)) (C := RX2) (T := TX2) (N := 19) hx hb hts i_X2 hown hK hP 9 rfl rfl 15 (by decide) (hts _ qw627) (fun _ h9 => h9) rfl dX0_findSlot_4 ?_
  refine lv_iload_n hx hb dX0_findSlot_7 rfl (lv_at hl 1 rfl) ?_
  obtain ⟨hq1, hrun⟩ := chk9 hrun
  refine va_iald hx hb hK hP 21 19 rfl rfl (ixb_in hq1) dX0_findSlot_8 ?_
  refine lv_istore_n (lv' := [(2, .int (p0_6w 16 (nn p1))), (0, .ref (p0a 0)), (1, .int p1)]) hx hb dX0_findSlot_9 rfl hl (by decide) rfl (fun ls hl => ?_)
  refine lv_aload_n hx hb dX0_findSlot_10 rfl (lv_at hl 1 rfl) ?_
  refine va_get (D := (dC, dI)) (ci := 8) (v := .ref (p0a 7)) (C := RX0) (T := TX0) (N := 17) hx hb hts i_X0 hown hK hP 0 rfl rfl 6 (by decide) (hts _ qw626) (fun _ h9 => h9) rfl dX0_findSlot_11 ?_
  refine va_get (D := (dC, dI)) (ci := 9) (v := .ref (p0_6a 15)) (C := RX2) (T := TX2) (N := 19) hx hb hts i_X2 hown hK hP 9 rfl rfl 14 (by decide) (hts _ qw628) (fun _ h9 => h9) rfl dX0_findSlot_14 ?_
  refine lv_iload_n hx hb dX0_findSlot_17 rfl (lv_at hl 2 rfl) ?_
  obtain ⟨hq2, hrun⟩ := chk9 hrun
  refine va_iald hx hb hK hP 20 18 rfl rfl (ixb_in hq2) dX0_findSlot_18 ?_
  refine lv_iconst (v := 1) hx hb dX0_findSlot_19 (by decide) ?_
  have J87 : ∀ (p0w_87 : ST) (H : Heap) (locs : List Loc) (ls : Array Slot), (fX0_findSlot_J87 p0w_87) = some o → va_P (dC, dI) cls ((oX0 (p0a 0) p0a p0k p0n p0w_87) ++ (oX2 (p0a 7) p0_6a p0_6k p0_6n p0_6w p0_6l) ++ (oX1 (p0a 1) p0_0a p0_0k p0_0n p0_0w p0_0l) ++ (oX9 (p0_0a 3) p0_0_2a p0_0_2k p0_0_2n p0_0_2w)) H → va_D A ((oX0 (p0a 0) p0a p0k p0n p0w_87) ++ (oX2 (p0a 7) p0_6a p0_6k p0_6n p0_6w p0_6l) ++ (oX1 (p0a 1) p0_0a p0_0k p0_0n p0_0w p0_0l) ++ (oX9 (p0_0a 3) p0_0_2a p0_0_2k p0_0_2n p0_0_2w)) → va_K (dC, dI) cls ((tX0 p0k) ++ (tX2 p0_6k) ++ (tX1 p0_0k) ++ (tX9 p0_0_2k)) s → va_S A s.heap H locs → lv_has ls 3 [] → W p l e ({ frames := 0, cells := 0, slots := 0, locals := 0 } : Room) s m ([.ref (p0a 0), .int p1] : List Value).toArray below meth c H locs 0 0 Q (F0 m 87 ls []) := by
    intro p0w_87 H locs ls hrun hP hD hK hS hl 
    unfold fX0_findSlot_J87 at hrun
    have ho9 : p0w_87 = o := Option.some.inj hrun
    have hP9 : va_P (dC, dI) cls ((oX0 (p0a 0) p0a p0k p0n o) ++ (oX2 (p0a 7) p0_6a p0_6k p0_6n p0_6w p0_6l) ++ (oX1 (p0a 1) p0_0a p0_0k p0_0n p0_0w p0_0l) ++ (oX9 (p0_0a 3) p0_0_2a p0_0_2k p0_0_2n p0_0_2w)) H := by first | exact hP | (rw [← ho9]; exact hP)
    have hD9 : va_D A ((oX0 (p0a 0) p0a p0k p0n o) ++ (oX2 (p0a 7) p0_6a p0_6k p0_6n p0_6w p0_6l) ++ (oX1 (p0a 1) p0_0a p0_0k p0_0n p0_0w p0_0l) ++ (oX9 (p0_0a 3) p0_0_2a p0_0_2k p0_0_2n p0_0_2w)) := by first | exact hD | (rw [← ho9]; exact hD)
    subst hQ
    exact W.vret hx hb hr (fun t ht hW => ⟨⟨(), rfl, trivial, ⟨by rw [ht]; exact hP9, va_K.moved hW.alike hK, hD9⟩⟩, hS.F ht⟩) hS.2.2 dX0_findSlot_87
  have J67 : ∀ (H : Heap) (locs : List Loc) (ls : Array Slot), (fX0_findSlot_J67 p0n p0w p1) = some o → va_P (dC, dI) cls ((oX0 (p0a 0) p0a p0k p0n p0w) ++ (oX2 (p0a 7) p0_6a p0_6k p0_6n p0_6w p0_6l) ++ (oX1 (p0a 1) p0_0a p0_0k p0_0n p0_0w p0_0l) ++ (oX9 (p0_0a 3) p0_0_2a p0_0_2k p0_0_2n p0_0_2w)) H → va_D A ((oX0 (p0a 0) p0a p0k p0n p0w) ++ (oX2 (p0a 7) p0_6a p0_6k p0_6n p0_6w p0_6l) ++ (oX1 (p0a 1) p0_0a p0_0k p0_0n p0_0w p0_0l) ++ (oX9 (p0_0a 3) p0_0_2a p0_0_2k p0_0_2n p0_0_2w)) → va_K (dC, dI) cls ((tX0 p0k) ++ (tX2 p0_6k) ++ (tX1 p0_0k) ++ (tX9 p0_0_2k)) s → va_S A s.heap H locs → lv_has ls 3 [(0, .ref (p0a 0)), (1, .int p1)] → W p l e ({ frames := 0, cells := 0, slots := 0, locals := 0 } : Room) s m ([.ref (p0a 0), .int p1] : List Value).toArray below meth c H locs 0 0 Q (F0 m 67 ls []) := by
    intro  H locs ls hrun hP hD hK hS hl 
    unfold fX0_findSlot_J67 at hrun
    refine lv_aload_n hx hb dX0_findSlot_67 rfl (lv_at hl 0 rfl) ?_
    refine va_get (D := (dC, dI)) (ci := 8) (v := .ref (p0a 13)) (C := RX0) (T := TX0) (N := 17) hx hb hts i_X0 hown hK hP 0 rfl rfl 12 (by decide) (hts _ qw622) (fun _ h9 => h9) rfl dX0_findSlot_68 ?_
    refine lv_iload_n hx hb dX0_findSlot_71 rfl (lv_at hl 1 rfl) ?_
    refine lv_aload_n hx hb dX0_findSlot_72 rfl (lv_at hl 0 rfl) ?_
    refine va_get (D := (dC, dI)) (ci := 8) (v := .int (p0w 0 10)) (C := RX0) (T := TX0) (N := 17) hx hb hts i_X0 hown hK hP 0 rfl rfl 10 (by decide) (hts _ qw632) (fun _ h9 => h9) rfl dX0_findSlot_73 ?_
    obtain ⟨hq3, hrun⟩ := chk9 hrun
    refine va_iast hx hb hK hP hD hS 4 3 rfl rfl (ixb_in hq3) dX0_findSlot_76 (fun H locs hP hD hS => ?_)
    have hP : va_P (dC, dI) cls ((oX0 (p0a 0) p0a p0k p0n (upw p0w 13 (nn p1) (p0w 0 10))) ++ (oX2 (p0a 7) p0_6a p0_6k p0_6n p0_6w p0_6l) ++ (oX1 (p0a 1) p0_0a p0_0k p0_0n p0_0w p0_0l) ++ (oX9 (p0_0a 3) p0_0_2a p0_0_2k p0_0_2n p0_0_2w)) H := hP
    have hD : va_D A ((oX0 (p0a 0) p0a p0k p0n (upw p0w 13 (nn p1) (p0w 0 10))) ++ (oX2 (p0a 7) p0_6a p0_6k p0_6n p0_6w p0_6l) ++ (oX1 (p0a 1) p0_0a p0_0k p0_0n p0_0w p0_0l) ++ (oX9 (p0_0a 3) p0_0_2a p0_0_2k p0_0_2n p0_0_2w)) := hD
    obtain ⟨w4, ew4, hrun⟩ := let9 hrun
    rw [← ew4] at hP hD
    refine lv_aload_n hx hb dX0_findSlot_77 rfl (lv_at hl 0 rfl) ?_
    refine lv_dup hx hb dX0_findSlot_78 rfl ?_
    refine va_get (D := (dC, dI)) (ci := 8) (v := .int (w4 0 10)) (C := RX0) (T := TX0) (N := 17) hx hb hts i_X0 hown hK hP 0 rfl rfl 10 (by decide) (hts _ qw632) (fun _ h9 => h9) rfl dX0_findSlot_79 ?_
    refine lv_iconst (v := 1) hx hb dX0_findSlot_82 (by decide) ?_
    refine lv_iadd hx hb dX0_findSlot_83 ?_
    refine va_put (D := (dC, dI)) (ci := 8) (v := .int ((w4 0 10) + 1)) (ty := .int) (C := RX0) (T := TX0) (N := 17) hx hb hts i_X0 tyX0 tyX0_ok nmX0 hown hK hP hD hS 0 rfl rfl 10 (by decide) (hts _ qw632) (fun _ h9 => h9) rfl (by decide +kernel) rfl rfl (Nat.le_of_ble_eq_true rfl) dX0_findSlot_84 (fun H locs hP hD hS => ?_)
    have hP : va_P (dC, dI) cls ((oX0 (p0a 0) p0a p0k p0n (upw w4 0 10 ((w4 0 10) + 1))) ++ (oX2 (p0a 7) p0_6a p0_6k p0_6n p0_6w p0_6l) ++ (oX1 (p0a 1) p0_0a p0_0k p0_0n p0_0w p0_0l) ++ (oX9 (p0_0a 3) p0_0_2a p0_0_2k p0_0_2n p0_0_2w)) H := hP
    have hD : va_D A ((oX0 (p0a 0) p0a p0k p0n (upw w4 0 10 ((w4 0 10) + 1))) ++ (oX2 (p0a 7) p0_6a p0_6k p0_6n p0_6w p0_6l) ++ (oX1 (p0a 1) p0_0a p0_0k p0_0n p0_0w p0_0l) ++ (oX9 (p0_0a 3) p0_0_2a p0_0_2k p0_0_2n p0_0_2w)) := hD
    obtain ⟨w5, ew5, hrun⟩ := let9 hrun
    rw [← ew5] at hP hD
    exact J87 w5 _ _ _ hrun hP hD hK hS (lv_sub hl [] rfl)
  rcases br9 hrun with ⟨hc6, hrun⟩ | ⟨hc6, hrun⟩
  · refine lv_icmp_ne (tgt := 67) hx hb dX0_findSlot_20 (by decide) (fun c => absurd hc6 c) (fun _ => ?_)
    refine lv_aload_n hx hb dX0_findSlot_23 rfl (lv_at hl 1 rfl) ?_
    refine va_get (D := (dC, dI)) (ci := 8) (v := .ref (p0a 1)) (C := RX0) (T := TX0) (N := 17) hx hb hts i_X0 hown hK hP 0 rfl rfl 0 (by decide) (hts _ qw618) (fun _ h9 => h9) rfl dX0_findSlot_24 ?_
    refine va_get (D := (dC, dI)) (ci := 4) (v := .ref (p0_0a 3)) (C := RX1) (T := TX1) (N := 21) hx hb hts i_X1 hown hK hP 25 rfl rfl 2 (by decide) (hts _ qw629) (fun _ h9 => h9) rfl dX0_findSlot_27 ?_
    refine va_get (D := (dC, dI)) (ci := 3) (v := .ref (p0_0_2a 2)) (C := RX9) (T := TX9) (N := 6) hx hb hts i_X9 hown hK hP 43 rfl rfl 1 (by decide) (hts _ qw630) (fun _ h9 => h9) rfl dX0_findSlot_30 ?_
    refine lv_iload_n hx hb dX0_findSlot_33 rfl (lv_at hl 0 rfl) ?_
    obtain ⟨hq7, hrun⟩ := chk9 hrun
    refine va_iald hx hb hK hP 44 40 rfl rfl (ixb_in hq7) dX0_findSlot_34 ?_
    rcases br9 hrun with ⟨hc8, hrun⟩ | ⟨hc8, hrun⟩
    · refine lv_if_ne (tgt := 67) hx hb dX0_findSlot_35 (by decide) (fun c => absurd hc8 c) (fun _ => ?_)
      refine lv_aload_n hx hb dX0_findSlot_38 rfl (lv_at hl 1 rfl) ?_
      refine va_get (D := (dC, dI)) (ci := 8) (v := .ref (p0a 13)) (C := RX0) (T := TX0) (N := 17) hx hb hts i_X0 hown hK hP 0 rfl rfl 12 (by decide) (hts _ qw622) (fun _ h9 => h9) rfl dX0_findSlot_39 ?_
      refine lv_iload_n hx hb dX0_findSlot_42 rfl (lv_at hl 2 rfl) ?_
      refine lv_bipush (v := (-2)) hx hb dX0_findSlot_43 (by decide) ?_
      obtain ⟨hq9, hrun⟩ := chk9 hrun
      refine va_iast hx hb hK hP hD hS 4 3 rfl rfl (ixb_in hq9) dX0_findSlot_45 (fun H locs hP hD hS => ?_)
      have hP : va_P (dC, dI) cls ((oX0 (p0a 0) p0a p0k p0n (upw p0w 13 (nn p1) (-2))) ++ (oX2 (p0a 7) p0_6a p0_6k p0_6n p0_6w p0_6l) ++ (oX1 (p0a 1) p0_0a p0_0k p0_0n p0_0w p0_0l) ++ (oX9 (p0_0a 3) p0_0_2a p0_0_2k p0_0_2n p0_0_2w)) H := hP
      have hD : va_D A ((oX0 (p0a 0) p0a p0k p0n (upw p0w 13 (nn p1) (-2))) ++ (oX2 (p0a 7) p0_6a p0_6k p0_6n p0_6w p0_6l) ++ (oX1 (p0a 1) p0_0a p0_0k p0_0n p0_0w p0_0l) ++ (oX9 (p0_0a 3) p0_0_2a p0_0_2k p0_0_2n p0_0_2w)) := hD
      obtain ⟨w10, ew10, hrun⟩ := let9 hrun
      rw [← ew10] at hP hD
      refine lv_aload_n hx hb dX0_findSlot_46 rfl (lv_at hl 1 rfl) ?_
      refine va_get (D := (dC, dI)) (ci := 8) (v := .ref (p0a 14)) (C := RX0) (T := TX0) (N := 17) hx hb hts i_X0 hown hK hP 0 rfl rfl 13 (by decide) (hts _ qw624) (fun _ h9 => h9) rfl dX0_findSlot_47 ?_
      refine lv_iload_n hx hb dX0_findSlot_50 rfl (lv_at hl 2 rfl) ?_
      refine lv_aload_n hx hb dX0_findSlot_51 rfl (lv_at hl 1 rfl) ?_
      refine va_get (D := (dC, dI)) (ci := 8) (v := .ref (p0a 1)) (C := RX0) (T := TX0) (N := 17) hx hb hts i_X0 hown hK hP 0 rfl rfl 0 (by decide) (hts _ qw618) (fun _ h9 => h9) rfl dX0_findSlot_52 ?_
      refine va_get (D := (dC, dI)) (ci := 4) (v := .ref (p0_0a 3)) (C := RX1) (T := TX1) (N := 21) hx hb hts i_X1 hown hK hP 25 rfl rfl 2 (by decide) (hts _ qw629) (fun _ h9 => h9) rfl dX0_findSlot_55 ?_
      refine va_get (D := (dC, dI)) (ci := 3) (v := .ref (p0_0_2a 4)) (C := RX9) (T := TX9) (N := 6) hx hb hts i_X9 hown hK hP 43 rfl rfl 3 (by decide) (hts _ qw631) (fun _ h9 => h9) rfl dX0_findSlot_58 ?_
      refine lv_iload_n hx hb dX0_findSlot_61 rfl (lv_at hl 0 rfl) ?_
      obtain ⟨hq11, hrun⟩ := chk9 hrun
      refine va_iald hx hb hK hP 46 42 rfl rfl (ixb_in hq11) dX0_findSlot_62 ?_
      obtain ⟨hq12, hrun⟩ := chk9 hrun
      refine va_iast hx hb hK hP hD hS 5 4 rfl rfl (ixb_in hq12) dX0_findSlot_63 (fun H locs hP hD hS => ?_)
      have hP : va_P (dC, dI) cls ((oX0 (p0a 0) p0a p0k p0n (upw w10 14 (nn p1) (p0_0_2w 4 (nn (p0_6w 16 (nn p1)))))) ++ (oX2 (p0a 7) p0_6a p0_6k p0_6n p0_6w p0_6l) ++ (oX1 (p0a 1) p0_0a p0_0k p0_0n p0_0w p0_0l) ++ (oX9 (p0_0a 3) p0_0_2a p0_0_2k p0_0_2n p0_0_2w)) H := hP
      have hD : va_D A ((oX0 (p0a 0) p0a p0k p0n (upw w10 14 (nn p1) (p0_0_2w 4 (nn (p0_6w 16 (nn p1)))))) ++ (oX2 (p0a 7) p0_6a p0_6k p0_6n p0_6w p0_6l) ++ (oX1 (p0a 1) p0_0a p0_0k p0_0n p0_0w p0_0l) ++ (oX9 (p0_0a 3) p0_0_2a p0_0_2k p0_0_2n p0_0_2w)) := hD
      obtain ⟨w13, ew13, hrun⟩ := let9 hrun
      rw [← ew13] at hP hD
      refine lv_goto (tgt := 87) hx hb dX0_findSlot_64 (by decide) ?_
      exact J87 w13 _ _ _ hrun hP hD hK hS (lv_sub hl [] rfl)
    · refine lv_if_ne (tgt := 67) hx hb dX0_findSlot_35 (by decide) (fun _ => ?_) (fun c => absurd c hc8)
      exact J67 _ _ _ hrun hP hD hK hS (lv_sub hl [1, 2] rfl)
  · refine lv_icmp_ne (tgt := 67) hx hb dX0_findSlot_20 (by decide) (fun _ => ?_) (fun c => absurd c hc6)
    exact J67 _ _ _ hrun hP hD hK hS (lv_sub hl [1, 2] rfl)
def fX0_firstFree_J43 (kk12 : Int32 → Int32 → Option Int32) (v4_12 : Int32) (y0_43 : Int32) : Option Int32 := (kk12 y0_43 (v4_12 + 1))
def fX0_firstFree_J38 (kk12 : Int32 → Int32 → Option Int32) (v4_12 : Int32) : Option Int32 := (fX0_firstFree_J43 kk12 v4_12 1)
def fX0_firstFree_L12 (p0w : ST) (p1 : Int32) (v2_2 : Int32) : Nat → Int32 → Int32 → Option Int32
  | 0 => fun _ _ => none
  | n_12 + 1 => fun v3_12 v4_12 => (if p1 ≤ v4_12 then some v3_12 else (if v3_12 = 0 then (if ixb v4_12 250 = true then (if ixb v2_2 250 = true then (if (p0w 16 (nn v4_12)) = (p0w 15 (nn v2_2)) then (fX0_firstFree_J38 (fX0_firstFree_L12 p0w p1 v2_2 n_12) v4_12) else (fX0_firstFree_J43 (fX0_firstFree_L12 p0w p1 v2_2 n_12) v4_12 0)) else none) else none) else (fX0_firstFree_J38 (fX0_firstFree_L12 p0w p1 v2_2 n_12) v4_12)))
def fX0_firstFree_L2 (p0w : ST) (p1 : Int32) : Nat → Int32 → Option (Sum Int32 Unit)
  | 0 => fun _ => none
  | n_2 + 1 => fun v2_2 => (if p1 ≤ v2_2 then some (Sum.inr ()) else ((fX0_firstFree_L12 p0w p1 v2_2 NF 0 0).bind fun (o12 : Int32) => (if o12 = 0 then some (Sum.inl v2_2) else ((fX0_firstFree_L2 p0w p1 n_2) (v2_2 + 1)))))
def fX0_firstFree (p0w : ST) (p1 : Int32) : Option Int32 := ((fX0_firstFree_L2 p0w p1 NF 0).bind fun (o2 : (Sum Int32 Unit)) => Sum.elim (fun r => some r) (fun (t2 : Unit) => some (-1)) o2)
set_option maxHeartbeats 16000000 in
set_option maxRecDepth 100000 in
theorem kX0_firstFree {zs : Nat × Nat} (l : Launch) (dC : Nat → ClassId) (dI : Nat → Nat → Nat) (p0a : Nat → Nat) (p0k : Nat → ClassId) (p0n : Nat → Nat) (p0w : ST) (p1 : Int32) (sz : Nat) (o : Int32) (hrun : fX0_firstFree p0w p1 = some o) : Met l yX0_firstFree (wz yX0_firstFree cX0_firstFree 5 (Option.some Jvm.ClassFile.FieldType.int)) ({ frames := 0, cells := 0, slots := 0, locals := 0 } : Room) (va_Pc [.ref (p0a 0), .int p1] (PRE zs dC dI (oX0 (p0a 0) p0a p0k p0n p0w) (tX0 p0k) sz)) (va_Qi (fun (r : Int32) (_ : Unit) => r = o) (fun _ t => POST dC dI (oX0 (p0a 0) p0a p0k p0n p0w) (tX0 p0k) (va_A (oX0 (p0a 0) p0a p0k p0n p0w) sz) t) (va_A (oX0 (p0a 0) p0a p0k p0n p0w) sz)) 0 0 (va_A (oX0 (p0a 0) p0a p0k p0n p0w) sz) := by
  refine Met.ofW (cc := cX0_firstFree) (maxL := 5) (ret := (Option.some Jvm.ClassFile.FieldType.int)) (by decide) rfl ?_
  intro p e s m args below meth c s₁ B hml hv
  obtain ⟨rfl, hsz, hP, hK, hD0, hE⟩ := hv
  have hx := B.exec
  have hb := B.bytes
  have hr := B.returns
  have hts0 := atoms_spec (ws := wz yX0_firstFree cX0_firstFree 5 (Option.some Jvm.ClassFile.FieldType.int)) B.pre
  have hts : ∀ w ∈ gw, w.before _ s = true := fun w h => hts0 w (List.mem_cons_of_mem _ h)
  have hown : s.vm.findClass RX0 = some m.cls := findClass_of_methodNamed B.named
  have hlocks := B.notSynchronized
  subst hsz
  have hD := hD0.self (sz := s.heap.size)
  refine gQ9 ?_
  intro Q hQ
  generalize hAe : va_A (oX0 (p0a 0) p0a p0k p0n p0w) s.heap.size = A at hD hE hQ
  have hA : ∀ q : Nat, s.heap.size ≤ q → A q := fun q h => by rw [← hAe]; exact Or.inr h
  have hS : va_S A s.heap s.heap [] := va_S.rf
  have hP : va_P (dC, dI) cls (oX0 (p0a 0) p0a p0k p0n p0w) s.heap := hP
  have hl := lv_entry ([.ref (p0a 0), .int p1]) (n := 5) (Nat.le_of_ble_eq_true rfl)
  rw [lg_entry_eq]
  generalize (lg_sl ([.ref (p0a 0), .int p1]) ++ List.replicate (5 - (lg_sl ([.ref (p0a 0), .int p1])).length) Slot.unset).toArray = ls at hl ⊢
  have hl : lv_has ls 5 [(0, .ref (p0a 0)), (1, .int p1)] := hl
  obtain ⟨H, hHe⟩ : ∃ H, H = s.heap := ⟨_, rfl⟩
  obtain ⟨locs, hle⟩ : ∃ locs : List Loc, locs = [] := ⟨_, rfl⟩
  rw [← hHe] at hP
  have hS : va_S A s.heap H locs := by rw [hHe, hle]; exact hS
  show W p l e ({ frames := 0, cells := 0, slots := 0, locals := 0 } : Room) s m ([.ref (p0a 0), .int p1] : List Value).toArray below meth c s.heap [] 0 0 Q (F0 m 0 ls [])
  rw [← hle]
  refine wH9 hHe ?_
  unfold fX0_firstFree at hrun
  refine lv_iconst (v := 0) hx hb dX0_firstFree_0 (by decide) ?_
  refine lv_istore_n (lv' := [(2, .int 0), (0, .ref (p0a 0)), (1, .int p1)]) hx hb dX0_firstFree_1 rfl hl (by decide) rfl (fun ls hl => ?_)
  have L2 : ∀ (n_2 : Nat) (v2_2 : Int32) (o2 : (Sum Int32 Unit)) (H : Heap) (locs : List Loc) (ls : Array Slot), (fX0_firstFree_L2 p0w p1 n_2) v2_2 = some o2 → va_P (dC, dI) cls (oX0 (p0a 0) p0a p0k p0n p0w) H → va_D A (oX0 (p0a 0) p0a p0k p0n p0w) → va_K (dC, dI) cls (tX0 p0k) s → va_S A s.heap H locs → lv_has ls 5 [(0, .ref (p0a 0)), (1, .int p1), (2, .int v2_2)] → (∀ r, o2 = Sum.inl r → r = o) → (∀ (t2 : Unit), o2 = Sum.inr t2 → ∀ (H : Heap) (locs : List Loc) (ls : Array Slot), va_P (dC, dI) cls (oX0 (p0a 0) p0a p0k p0n p0w) H → va_D A (oX0 (p0a 0) p0a p0k p0n p0w) → va_K (dC, dI) cls (tX0 p0k) s → va_S A s.heap H locs → lv_has ls 5 [] → W p l e ({ frames := 0, cells := 0, slots := 0, locals := 0 } : Room) s m ([.ref (p0a 0), .int p1] : List Value).toArray below meth c H locs 0 0 Q (F0 m 62 ls [])) → W p l e ({ frames := 0, cells := 0, slots := 0, locals := 0 } : Room) s m ([.ref (p0a 0), .int p1] : List Value).toArray below meth c H locs 0 0 Q (F0 m 2 ls []) := by
    intro n_2
    induction n_2 with
    | zero => intro v2_2 o2 H locs ls hrun; exact (no9 rfl hrun).elim
    | succ n_2 IH2 =>
      intro v2_2 o2 H locs ls hrun hP hD hK hS hl hr2 hk2
      unfold fX0_firstFree_L2 at hrun
      refine lv_iload_n hx hb dX0_firstFree_2 rfl (lv_at hl 2 rfl) ?_
      refine lv_iload_n hx hb dX0_firstFree_3 rfl (lv_at hl 1 rfl) ?_
      rcases br9 hrun with ⟨hc1, hrun⟩ | ⟨hc1, hrun⟩
      · refine lv_icmp_ge (tgt := 62) hx hb dX0_firstFree_4 (by decide) (fun _ => ?_) (fun c => absurd hc1 c)
        obtain rfl := (Option.some.inj hrun)
        exact hk2 _ rfl _ _ _ hP hD hK hS (lv_sub hl [] rfl)
      · refine lv_icmp_ge (tgt := 62) hx hb dX0_firstFree_4 (by decide) (fun c => absurd c hc1) (fun _ => ?_)
        refine lv_iconst (v := 0) hx hb dX0_firstFree_7 (by decide) ?_
        refine lv_istore_n (lv' := [(3, .int 0), (0, .ref (p0a 0)), (1, .int p1), (2, .int v2_2)]) hx hb dX0_firstFree_8 rfl hl (by decide) rfl (fun ls hl => ?_)
        refine lv_iconst (v := 0) hx hb dX0_firstFree_9 (by decide) ?_
        refine lv_istore (lv' := [(4, .int 0), (3, .int 0), (0, .ref (p0a 0)), (1, .int p1), (2, .int v2_2)]) hx hb dX0_firstFree_10 hl (by decide) rfl (fun ls hl => ?_)
        have L12 : ∀ (n_12 : Nat) (v3_12 : Int32) (v4_12 : Int32) (o12 : Int32) (H : Heap) (locs : List Loc) (ls : Array Slot), (fX0_firstFree_L12 p0w p1 v2_2 n_12) v3_12 v4_12 = some o12 → va_P (dC, dI) cls (oX0 (p0a 0) p0a p0k p0n p0w) H → va_D A (oX0 (p0a 0) p0a p0k p0n p0w) → va_K (dC, dI) cls (tX0 p0k) s → va_S A s.heap H locs → lv_has ls 5 [(0, .ref (p0a 0)), (1, .int p1), (2, .int v2_2), (3, .int v3_12), (4, .int v4_12)] → (∀ (H : Heap) (locs : List Loc) (ls : Array Slot), va_P (dC, dI) cls (oX0 (p0a 0) p0a p0k p0n p0w) H → va_D A (oX0 (p0a 0) p0a p0k p0n p0w) → va_K (dC, dI) cls (tX0 p0k) s → va_S A s.heap H locs → lv_has ls 5 [(0, .ref (p0a 0)), (1, .int p1), (2, .int v2_2), (3, .int o12)] → W p l e ({ frames := 0, cells := 0, slots := 0, locals := 0 } : Room) s m ([.ref (p0a 0), .int p1] : List Value).toArray below meth c H locs 0 0 Q (F0 m 50 ls [])) → W p l e ({ frames := 0, cells := 0, slots := 0, locals := 0 } : Room) s m ([.ref (p0a 0), .int p1] : List Value).toArray below meth c H locs 0 0 Q (F0 m 12 ls []) := by
          intro n_12
          induction n_12 with
          | zero => intro v3_12 v4_12 o12 H locs ls hrun; exact (no9 rfl hrun).elim
          | succ n_12 IH12 =>
            intro v3_12 v4_12 o12 H locs ls hrun hP hD hK hS hl hk12
            unfold fX0_firstFree_L12 at hrun
            refine lv_iload hx hb dX0_firstFree_12 (lv_at hl 4 rfl) ?_
            refine lv_iload_n hx hb dX0_firstFree_14 rfl (lv_at hl 1 rfl) ?_
            rcases br9 hrun with ⟨hc2, hrun⟩ | ⟨hc2, hrun⟩
            · refine lv_icmp_ge (tgt := 50) hx hb dX0_firstFree_15 (by decide) (fun _ => ?_) (fun c => absurd hc2 c)
              obtain rfl := (Option.some.inj hrun)
              exact hk12 _ _ _ hP hD hK hS (lv_sub hl [0, 1, 2, 3] rfl)
            · refine lv_icmp_ge (tgt := 50) hx hb dX0_firstFree_15 (by decide) (fun c => absurd c hc2) (fun _ => ?_)
              refine lv_iload_n hx hb dX0_firstFree_18 rfl (lv_at hl 3 rfl) ?_
              have J43 : ∀ (y0_43 : Int32) (H : Heap) (locs : List Loc) (ls : Array Slot), (fX0_firstFree_J43 (fX0_firstFree_L12 p0w p1 v2_2 n_12) v4_12 y0_43) = some o12 → va_P (dC, dI) cls (oX0 (p0a 0) p0a p0k p0n p0w) H → va_D A (oX0 (p0a 0) p0a p0k p0n p0w) → va_K (dC, dI) cls (tX0 p0k) s → va_S A s.heap H locs → lv_has ls 5 [(0, .ref (p0a 0)), (1, .int p1), (2, .int v2_2), (4, .int v4_12)] → W p l e ({ frames := 0, cells := 0, slots := 0, locals := 0 } : Room) s m ([.ref (p0a 0), .int p1] : List Value).toArray below meth c H locs 0 0 Q (F0 m 43 ls [.int y0_43]) := by
                intro y0_43 H locs ls hrun hP hD hK hS hl 
                unfold fX0_firstFree_J43 at hrun
                refine lv_istore_n (lv' := [(3, .int y0_43), (0, .ref (p0a 0)), (1, .int p1), (2, .int v2_2), (4, .int v4_12)]) hx hb dX0_firstFree_43 rfl hl (by decide) rfl (fun ls hl => ?_)
                refine lv_iinc (v := (v4_12 + 1)) (lv' := [(4, .int (v4_12 + 1)), (3, .int y0_43), (0, .ref (p0a 0)), (1, .int p1), (2, .int v2_2)]) hx hb dX0_firstFree_44 hl (k := 4) rfl rfl (by decide) rfl (fun ls hl => ?_)
                refine lv_goto (tgt := 12) hx hb dX0_firstFree_47 (by decide) ?_
                exact IH12 y0_43 (v4_12 + 1) o12 _ _ _ hrun hP hD hK hS (lv_sub hl [2, 3, 4, 1, 0] rfl) hk12
              have J38 : ∀ (H : Heap) (locs : List Loc) (ls : Array Slot), (fX0_firstFree_J38 (fX0_firstFree_L12 p0w p1 v2_2 n_12) v4_12) = some o12 → va_P (dC, dI) cls (oX0 (p0a 0) p0a p0k p0n p0w) H → va_D A (oX0 (p0a 0) p0a p0k p0n p0w) → va_K (dC, dI) cls (tX0 p0k) s → va_S A s.heap H locs → lv_has ls 5 [(0, .ref (p0a 0)), (1, .int p1), (2, .int v2_2), (4, .int v4_12)] → W p l e ({ frames := 0, cells := 0, slots := 0, locals := 0 } : Room) s m ([.ref (p0a 0), .int p1] : List Value).toArray below meth c H locs 0 0 Q (F0 m 38 ls []) := by
                intro  H locs ls hrun hP hD hK hS hl 
                unfold fX0_firstFree_J38 at hrun
                refine lv_iconst (v := 1) hx hb dX0_firstFree_38 (by decide) ?_
                refine lv_goto (tgt := 43) hx hb dX0_firstFree_39 (by decide) ?_
                exact J43 1 _ _ _ hrun hP hD hK hS (lv_sub hl [0, 1, 2, 3] rfl)
              rcases br9 hrun with ⟨hc3, hrun⟩ | ⟨hc3, hrun⟩
              · refine lv_if_ne (tgt := 38) hx hb dX0_firstFree_19 (by decide) (fun c => absurd hc3 c) (fun _ => ?_)
                refine lv_aload_n hx hb dX0_firstFree_22 rfl (lv_at hl 0 rfl) ?_
                refine va_get (D := (dC, dI)) (ci := 8) (v := .ref (p0a 16)) (C := RX0) (T := TX0) (N := 17) hx hb hts i_X0 hown hK hP 0 rfl rfl 15 (by decide) (hts _ qw633) (fun _ h9 => h9) rfl dX0_firstFree_23 ?_
                refine lv_iload hx hb dX0_firstFree_26 (lv_at hl 4 rfl) ?_
                obtain ⟨hq4, hrun⟩ := chk9 hrun
                refine va_iald hx hb hK hP 7 6 rfl rfl (ixb_in hq4) dX0_firstFree_28 ?_
                refine lv_aload_n hx hb dX0_firstFree_29 rfl (lv_at hl 0 rfl) ?_
                refine va_get (D := (dC, dI)) (ci := 8) (v := .ref (p0a 15)) (C := RX0) (T := TX0) (N := 17) hx hb hts i_X0 hown hK hP 0 rfl rfl 14 (by decide) (hts _ qw634) (fun _ h9 => h9) rfl dX0_firstFree_30 ?_
                refine lv_iload_n hx hb dX0_firstFree_33 rfl (lv_at hl 2 rfl) ?_
                obtain ⟨hq5, hrun⟩ := chk9 hrun
                refine va_iald hx hb hK hP 6 5 rfl rfl (ixb_in hq5) dX0_firstFree_34 ?_
                rcases br9 hrun with ⟨hc6, hrun⟩ | ⟨hc6, hrun⟩
                · refine lv_icmp_ne (tgt := 42) hx hb dX0_firstFree_35 (by decide) (fun c => absurd hc6 c) (fun _ => ?_)
                  exact J38 _ _ _ hrun hP hD hK hS (lv_sub hl [0, 1, 2, 4] rfl)
                · refine lv_icmp_ne (tgt := 42) hx hb dX0_firstFree_35 (by decide) (fun _ => ?_) (fun c => absurd c hc6)
                  refine lv_iconst (v := 0) hx hb dX0_firstFree_42 (by decide) ?_
                  exact J43 0 _ _ _ hrun hP hD hK hS (lv_sub hl [0, 1, 2, 4] rfl)
              · refine lv_if_ne (tgt := 38) hx hb dX0_firstFree_19 (by decide) (fun _ => ?_) (fun c => absurd c hc3)
                exact J38 _ _ _ hrun hP hD hK hS (lv_sub hl [0, 1, 2, 4] rfl)
        obtain ⟨o12, hc12, hrun⟩ := bnd9 hrun
        refine L12 NF 0 0 o12 _ _ _ hc12 hP hD hK hS (lv_sub hl [2, 3, 4, 1, 0] rfl) ?_
        intro H locs ls hP hD hK hS hl
        have hl := hl
        refine lv_iload_n hx hb dX0_firstFree_50 rfl (lv_at hl 3 rfl) ?_
        rcases br9 hrun with ⟨hc7, hrun⟩ | ⟨hc7, hrun⟩
        · refine lv_if_ne (tgt := 56) hx hb dX0_firstFree_51 (by decide) (fun c => absurd hc7 c) (fun _ => ?_)
          refine lv_iload_n hx hb dX0_firstFree_54 rfl (lv_at hl 2 rfl) ?_
          have ho9 : v2_2 = o := hr2 _ (Option.some.inj hrun).symm
          have hP9 : va_P (dC, dI) cls (oX0 (p0a 0) p0a p0k p0n p0w) H := by first | exact hP | (rw [← ho9]; exact hP)
          have hD9 : va_D A (oX0 (p0a 0) p0a p0k p0n p0w) := by first | exact hD | (rw [← ho9]; exact hD)
          subst hQ
          exact W.iret (v := v2_2) hx hb hr (fun t ht hW => ⟨⟨v2_2, (), rfl, (by rw [← ho9]), ⟨by rw [ht]; exact hP9, va_K.moved hW.alike hK, hD9⟩⟩, hS.F ht⟩) hS.2.2 dX0_firstFree_55
        · refine lv_if_ne (tgt := 56) hx hb dX0_firstFree_51 (by decide) (fun _ => ?_) (fun c => absurd c hc7)
          refine lv_iinc (v := (v2_2 + 1)) (lv' := [(2, .int (v2_2 + 1)), (0, .ref (p0a 0)), (1, .int p1), (3, .int o12)]) hx hb dX0_firstFree_56 hl (k := 2) rfl rfl (by decide) rfl (fun ls hl => ?_)
          refine lv_goto (tgt := 2) hx hb dX0_firstFree_59 (by decide) ?_
          exact IH2 (v2_2 + 1) o2 _ _ _ hrun hP hD hK hS (lv_sub hl [1, 2, 0] rfl) hr2 hk2
  obtain ⟨o2, hc2, hrun⟩ := bnd9 hrun
  refine L2 NF 0 o2 _ _ _ hc2 hP hD hK hS (lv_sub hl [1, 2, 0] rfl) (fun r e9 => by subst e9; exact Option.some.inj hrun) ?_
  intro t2 e9
  subst e9
  replace hrun := el9 hrun
  intro H locs ls hP hD hK hS hl
  have hl := hl
  refine lv_iconst (v := (-1)) hx hb dX0_firstFree_62 (by decide) ?_
  have ho9 : (-1) = o := Option.some.inj hrun
  have hP9 : va_P (dC, dI) cls (oX0 (p0a 0) p0a p0k p0n p0w) H := by first | exact hP | (rw [← ho9]; exact hP)
  have hD9 : va_D A (oX0 (p0a 0) p0a p0k p0n p0w) := by first | exact hD | (rw [← ho9]; exact hD)
  subst hQ
  exact W.iret (v := (-1)) hx hb hr (fun t ht hW => ⟨⟨(-1), (), rfl, (by rw [← ho9]), ⟨by rw [ht]; exact hP9, va_K.moved hW.alike hK, hD9⟩⟩, hS.F ht⟩) hS.2.2 dX0_firstFree_63
def fX0_isIdle_J55 (y0_55 : Int32) : Option Int32 := (if y0_55 = 0 ∨ y0_55 = 1 then some y0_55 else none)
def fX0_isIdle_J54  : Option Int32 := (fX0_isIdle_J55 0)
def fX0_isIdle (p1 : Int32) (p0_0_2n : Nat → Nat) (p0_0_2w : ST) (p0_6n : Nat → Nat) (p0_6w : ST) : Option Int32 := (if ixb p1 (p0_0_2n 2) = true then (if (p0_0_2w 2 (nn p1)) = 25 then (if ixb p1 (p0_0_2n 3) = true then (if ixb (p0_0_2w 3 (nn p1)) (p0_6n 17) = true then (if ixb p1 (p0_0_2n 4) = true then (if ixb (p0_0_2w 4 (nn p1)) (p0_6n 17) = true then (if (p0_6w 17 (nn (p0_0_2w 3 (nn p1)))) = (p0_6w 17 (nn (p0_0_2w 4 (nn p1)))) then (fX0_isIdle_J55 1) else (fX0_isIdle_J54)) else none) else none) else none) else none) else (fX0_isIdle_J54)) else none)
set_option maxHeartbeats 16000000 in
set_option maxRecDepth 100000 in
theorem kX0_isIdle {zs : Nat × Nat} (l : Launch) (dC : Nat → ClassId) (dI : Nat → Nat → Nat) (p0a : Nat → Nat) (p0k : Nat → ClassId) (p0n : Nat → Nat) (p0w : ST) (p1 : Int32) (p0_0a : Nat → Nat) (p0_0k : Nat → ClassId) (p0_0n : Nat → Nat) (p0_0w : ST) (p0_0l : SL) (p0_0_2a : Nat → Nat) (p0_0_2k : Nat → ClassId) (p0_0_2n : Nat → Nat) (p0_0_2w : ST) (p0_6a : Nat → Nat) (p0_6k : Nat → ClassId) (p0_6n : Nat → Nat) (p0_6w : ST) (p0_6l : SL) (sz : Nat) (o : Int32) (hrun : fX0_isIdle p1 p0_0_2n p0_0_2w p0_6n p0_6w = some o) : Met l yX0_isIdle (wz yX0_isIdle cX0_isIdle 3 (Option.some Jvm.ClassFile.FieldType.boolean)) ({ frames := 0, cells := 0, slots := 0, locals := 0 } : Room) (va_Pc [.ref (p0a 0), .int p1] (PRE zs dC dI ((oX0 (p0a 0) p0a p0k p0n p0w) ++ (oX1 (p0a 1) p0_0a p0_0k p0_0n p0_0w p0_0l) ++ (oX9 (p0_0a 3) p0_0_2a p0_0_2k p0_0_2n p0_0_2w) ++ (oX2 (p0a 7) p0_6a p0_6k p0_6n p0_6w p0_6l)) ((tX0 p0k) ++ (tX1 p0_0k) ++ (tX9 p0_0_2k) ++ (tX2 p0_6k)) sz)) (va_Qi (fun (r : Int32) (_ : Unit) => r = o) (fun _ t => POST dC dI ((oX0 (p0a 0) p0a p0k p0n p0w) ++ (oX1 (p0a 1) p0_0a p0_0k p0_0n p0_0w p0_0l) ++ (oX9 (p0_0a 3) p0_0_2a p0_0_2k p0_0_2n p0_0_2w) ++ (oX2 (p0a 7) p0_6a p0_6k p0_6n p0_6w p0_6l)) ((tX0 p0k) ++ (tX1 p0_0k) ++ (tX9 p0_0_2k) ++ (tX2 p0_6k)) (va_A ((oX0 (p0a 0) p0a p0k p0n p0w) ++ (oX1 (p0a 1) p0_0a p0_0k p0_0n p0_0w p0_0l) ++ (oX9 (p0_0a 3) p0_0_2a p0_0_2k p0_0_2n p0_0_2w) ++ (oX2 (p0a 7) p0_6a p0_6k p0_6n p0_6w p0_6l)) sz) t) (va_A ((oX0 (p0a 0) p0a p0k p0n p0w) ++ (oX1 (p0a 1) p0_0a p0_0k p0_0n p0_0w p0_0l) ++ (oX9 (p0_0a 3) p0_0_2a p0_0_2k p0_0_2n p0_0_2w) ++ (oX2 (p0a 7) p0_6a p0_6k p0_6n p0_6w p0_6l)) sz)) 0 0 (va_A ((oX0 (p0a 0) p0a p0k p0n p0w) ++ (oX1 (p0a 1) p0_0a p0_0k p0_0n p0_0w p0_0l) ++ (oX9 (p0_0a 3) p0_0_2a p0_0_2k p0_0_2n p0_0_2w) ++ (oX2 (p0a 7) p0_6a p0_6k p0_6n p0_6w p0_6l)) sz) := by
  refine Met.ofW (cc := cX0_isIdle) (maxL := 3) (ret := (Option.some Jvm.ClassFile.FieldType.boolean)) (by decide) rfl ?_
  intro p e s m args below meth c s₁ B hml hv
  obtain ⟨rfl, hsz, hP, hK, hD0, hE⟩ := hv
  have hx := B.exec
  have hb := B.bytes
  have hr := B.returns
  have hts0 := atoms_spec (ws := wz yX0_isIdle cX0_isIdle 3 (Option.some Jvm.ClassFile.FieldType.boolean)) B.pre
  have hts : ∀ w ∈ gw, w.before _ s = true := fun w h => hts0 w (List.mem_cons_of_mem _ h)
  have hown : s.vm.findClass RX0 = some m.cls := findClass_of_methodNamed B.named
  have hlocks := B.notSynchronized
  subst hsz
  have hD := hD0.self (sz := s.heap.size)
  refine gQ9 ?_
  intro Q hQ
  generalize hAe : va_A ((oX0 (p0a 0) p0a p0k p0n p0w) ++ (oX1 (p0a 1) p0_0a p0_0k p0_0n p0_0w p0_0l) ++ (oX9 (p0_0a 3) p0_0_2a p0_0_2k p0_0_2n p0_0_2w) ++ (oX2 (p0a 7) p0_6a p0_6k p0_6n p0_6w p0_6l)) s.heap.size = A at hD hE hQ
  have hA : ∀ q : Nat, s.heap.size ≤ q → A q := fun q h => by rw [← hAe]; exact Or.inr h
  have hS : va_S A s.heap s.heap [] := va_S.rf
  have hP : va_P (dC, dI) cls ((oX0 (p0a 0) p0a p0k p0n p0w) ++ (oX1 (p0a 1) p0_0a p0_0k p0_0n p0_0w p0_0l) ++ (oX9 (p0_0a 3) p0_0_2a p0_0_2k p0_0_2n p0_0_2w) ++ (oX2 (p0a 7) p0_6a p0_6k p0_6n p0_6w p0_6l)) s.heap := hP
  have hl := lv_entry ([.ref (p0a 0), .int p1]) (n := 3) (Nat.le_of_ble_eq_true rfl)
  rw [lg_entry_eq]
  generalize (lg_sl ([.ref (p0a 0), .int p1]) ++ List.replicate (3 - (lg_sl ([.ref (p0a 0), .int p1])).length) Slot.unset).toArray = ls at hl ⊢
  have hl : lv_has ls 3 [(0, .ref (p0a 0)), (1, .int p1)] := hl
  obtain ⟨H, hHe⟩ : ∃ H, H = s.heap := ⟨_, rfl⟩
  obtain ⟨locs, hle⟩ : ∃ locs : List Loc, locs = [] := ⟨_, rfl⟩
  rw [← hHe] at hP
  have hS : va_S A s.heap H locs := by rw [hHe, hle]; exact hS
  show W p l e ({ frames := 0, cells := 0, slots := 0, locals := 0 } : Room) s m ([.ref (p0a 0), .int p1] : List Value).toArray below meth c s.heap [] 0 0 Q (F0 m 0 ls [])
  rw [← hle]
  refine wH9 hHe ?_
  unfold fX0_isIdle at hrun
  refine lv_aload_n hx hb dX0_isIdle_0 rfl (lv_at hl 0 rfl) ?_
  refine va_get (D := (dC, dI)) (ci := 8) (v := .ref (p0a 1)) (C := RX0) (T := TX0) (N := 17) hx hb hts i_X0 hown hK hP 0 rfl rfl 0 (by decide) (hts _ qw618) (fun _ h9 => h9) rfl dX0_isIdle_1 ?_
  refine va_get (D := (dC, dI)) (ci := 4) (v := .ref (p0_0a 3)) (C := RX1) (T := TX1) (N := 21) hx hb hts i_X1 hown hK hP 9 rfl rfl 2 (by decide) (hts _ qw629) (fun _ h9 => h9) rfl dX0_isIdle_4 ?_
  refine lv_astore_n (lv' := [(2, .ref (p0_0a 3)), (0, .ref (p0a 0)), (1, .int p1)]) hx hb dX0_isIdle_7 rfl hl (by decide) rfl (fun ls hl => ?_)
  refine lv_aload_n hx hb dX0_isIdle_8 rfl (lv_at hl 0 rfl) ?_
  refine va_get (D := (dC, dI)) (ci := 3) (v := .ref (p0_0_2a 2)) (C := RX9) (T := TX9) (N := 6) hx hb hts i_X9 hown hK hP 27 rfl rfl 1 (by decide) (hts _ qw630) (fun _ h9 => h9) rfl dX0_isIdle_9 ?_
  refine lv_iload_n hx hb dX0_isIdle_12 rfl (lv_at hl 2 rfl) ?_
  obtain ⟨hq1, hrun⟩ := chk9 hrun
  refine va_iald hx hb hK hP 28 25 rfl rfl (ixb_in hq1) dX0_isIdle_13 ?_
  refine lv_bipush (v := 25) hx hb dX0_isIdle_14 (by decide) ?_
  have J55 : ∀ (y0_55 : Int32) (H : Heap) (locs : List Loc) (ls : Array Slot), (fX0_isIdle_J55 y0_55) = some o → va_P (dC, dI) cls ((oX0 (p0a 0) p0a p0k p0n p0w) ++ (oX1 (p0a 1) p0_0a p0_0k p0_0n p0_0w p0_0l) ++ (oX9 (p0_0a 3) p0_0_2a p0_0_2k p0_0_2n p0_0_2w) ++ (oX2 (p0a 7) p0_6a p0_6k p0_6n p0_6w p0_6l)) H → va_D A ((oX0 (p0a 0) p0a p0k p0n p0w) ++ (oX1 (p0a 1) p0_0a p0_0k p0_0n p0_0w p0_0l) ++ (oX9 (p0_0a 3) p0_0_2a p0_0_2k p0_0_2n p0_0_2w) ++ (oX2 (p0a 7) p0_6a p0_6k p0_6n p0_6w p0_6l)) → va_K (dC, dI) cls ((tX0 p0k) ++ (tX1 p0_0k) ++ (tX9 p0_0_2k) ++ (tX2 p0_6k)) s → va_S A s.heap H locs → lv_has ls 3 [] → W p l e ({ frames := 0, cells := 0, slots := 0, locals := 0 } : Room) s m ([.ref (p0a 0), .int p1] : List Value).toArray below meth c H locs 0 0 Q (F0 m 55 ls [.int y0_55]) := by
    intro y0_55 H locs ls hrun hP hD hK hS hl 
    unfold fX0_isIdle_J55 at hrun
    obtain ⟨hz9, hrun⟩ := chk9 hrun
    have ho9 : y0_55 = o := Option.some.inj hrun
    have hP9 : va_P (dC, dI) cls ((oX0 (p0a 0) p0a p0k p0n p0w) ++ (oX1 (p0a 1) p0_0a p0_0k p0_0n p0_0w p0_0l) ++ (oX9 (p0_0a 3) p0_0_2a p0_0_2k p0_0_2n p0_0_2w) ++ (oX2 (p0a 7) p0_6a p0_6k p0_6n p0_6w p0_6l)) H := by first | exact hP | (rw [← ho9]; exact hP)
    have hD9 : va_D A ((oX0 (p0a 0) p0a p0k p0n p0w) ++ (oX1 (p0a 1) p0_0a p0_0k p0_0n p0_0w p0_0l) ++ (oX9 (p0_0a 3) p0_0_2a p0_0_2k p0_0_2n p0_0_2w) ++ (oX2 (p0a 7) p0_6a p0_6k p0_6n p0_6w p0_6l)) := by first | exact hD | (rw [← ho9]; exact hD)
    subst hQ
    exact W.zret (v := y0_55) hx hb hr (bz9 hz9) (fun t ht hW => ⟨⟨y0_55, (), rfl, (by rw [← ho9]), ⟨by rw [ht]; exact hP9, va_K.moved hW.alike hK, hD9⟩⟩, hS.F ht⟩) hS.2.2 dX0_isIdle_55
  have J54 : ∀ (H : Heap) (locs : List Loc) (ls : Array Slot), (fX0_isIdle_J54) = some o → va_P (dC, dI) cls ((oX0 (p0a 0) p0a p0k p0n p0w) ++ (oX1 (p0a 1) p0_0a p0_0k p0_0n p0_0w p0_0l) ++ (oX9 (p0_0a 3) p0_0_2a p0_0_2k p0_0_2n p0_0_2w) ++ (oX2 (p0a 7) p0_6a p0_6k p0_6n p0_6w p0_6l)) H → va_D A ((oX0 (p0a 0) p0a p0k p0n p0w) ++ (oX1 (p0a 1) p0_0a p0_0k p0_0n p0_0w p0_0l) ++ (oX9 (p0_0a 3) p0_0_2a p0_0_2k p0_0_2n p0_0_2w) ++ (oX2 (p0a 7) p0_6a p0_6k p0_6n p0_6w p0_6l)) → va_K (dC, dI) cls ((tX0 p0k) ++ (tX1 p0_0k) ++ (tX9 p0_0_2k) ++ (tX2 p0_6k)) s → va_S A s.heap H locs → lv_has ls 3 [] → W p l e ({ frames := 0, cells := 0, slots := 0, locals := 0 } : Room) s m ([.ref (p0a 0), .int p1] : List Value).toArray below meth c H locs 0 0 Q (F0 m 54 ls []) := by
    intro  H locs ls hrun hP hD hK hS hl 
    unfold fX0_isIdle_J54 at hrun
    refine lv_iconst (v := 0) hx hb dX0_isIdle_54 (by decide) ?_
    exact J55 0 _ _ _ hrun hP hD hK hS (lv_sub hl [] rfl)
  rcases br9 hrun with ⟨hc2, hrun⟩ | ⟨hc2, hrun⟩
  · refine lv_icmp_ne (tgt := 54) hx hb dX0_isIdle_16 (by decide) (fun c => absurd hc2 c) (fun _ => ?_)
    refine lv_aload_n hx hb dX0_isIdle_19 rfl (lv_at hl 1 rfl) ?_
    refine va_get (D := (dC, dI)) (ci := 8) (v := .ref (p0a 7)) (C := RX0) (T := TX0) (N := 17) hx hb hts i_X0 hown hK hP 0 rfl rfl 6 (by decide) (hts _ qw626) (fun _ h9 => h9) rfl dX0_isIdle_20 ?_
    refine va_get (D := (dC, dI)) (ci := 9) (v := .ref (p0_6a 17)) (C := RX2) (T := TX2) (N := 19) hx hb hts i_X2 hown hK hP 33 rfl rfl 16 (by decide) (hts _ qw635) (fun _ h9 => h9) rfl dX0_isIdle_23 ?_
    refine lv_aload_n hx hb dX0_isIdle_26 rfl (lv_at hl 0 rfl) ?_
    refine va_get (D := (dC, dI)) (ci := 3) (v := .ref (p0_0_2a 3)) (C := RX9) (T := TX9) (N := 6) hx hb hts i_X9 hown hK hP 27 rfl rfl 2 (by decide) (hts _ qw636) (fun _ h9 => h9) rfl dX0_isIdle_27 ?_
    refine lv_iload_n hx hb dX0_isIdle_30 rfl (lv_at hl 2 rfl) ?_
    obtain ⟨hq3, hrun⟩ := chk9 hrun
    refine va_iald hx hb hK hP 29 26 rfl rfl (ixb_in hq3) dX0_isIdle_31 ?_
    obtain ⟨hq4, hrun⟩ := chk9 hrun
    refine va_iald hx hb hK hP 46 42 rfl rfl (ixb_in hq4) dX0_isIdle_32 ?_
    refine lv_aload_n hx hb dX0_isIdle_33 rfl (lv_at hl 1 rfl) ?_
    refine va_get (D := (dC, dI)) (ci := 8) (v := .ref (p0a 7)) (C := RX0) (T := TX0) (N := 17) hx hb hts i_X0 hown hK hP 0 rfl rfl 6 (by decide) (hts _ qw626) (fun _ h9 => h9) rfl dX0_isIdle_34 ?_
    refine va_get (D := (dC, dI)) (ci := 9) (v := .ref (p0_6a 17)) (C := RX2) (T := TX2) (N := 19) hx hb hts i_X2 hown hK hP 33 rfl rfl 16 (by decide) (hts _ qw635) (fun _ h9 => h9) rfl dX0_isIdle_37 ?_
    refine lv_aload_n hx hb dX0_isIdle_40 rfl (lv_at hl 0 rfl) ?_
    refine va_get (D := (dC, dI)) (ci := 3) (v := .ref (p0_0_2a 4)) (C := RX9) (T := TX9) (N := 6) hx hb hts i_X9 hown hK hP 27 rfl rfl 3 (by decide) (hts _ qw631) (fun _ h9 => h9) rfl dX0_isIdle_41 ?_
    refine lv_iload_n hx hb dX0_isIdle_44 rfl (lv_at hl 2 rfl) ?_
    obtain ⟨hq5, hrun⟩ := chk9 hrun
    refine va_iald hx hb hK hP 30 27 rfl rfl (ixb_in hq5) dX0_isIdle_45 ?_
    obtain ⟨hq6, hrun⟩ := chk9 hrun
    refine va_iald hx hb hK hP 46 42 rfl rfl (ixb_in hq6) dX0_isIdle_46 ?_
    rcases br9 hrun with ⟨hc7, hrun⟩ | ⟨hc7, hrun⟩
    · refine lv_icmp_ne (tgt := 54) hx hb dX0_isIdle_47 (by decide) (fun c => absurd hc7 c) (fun _ => ?_)
      refine lv_iconst (v := 1) hx hb dX0_isIdle_50 (by decide) ?_
      refine lv_goto (tgt := 55) hx hb dX0_isIdle_51 (by decide) ?_
      exact J55 1 _ _ _ hrun hP hD hK hS (lv_sub hl [] rfl)
    · refine lv_icmp_ne (tgt := 54) hx hb dX0_isIdle_47 (by decide) (fun _ => ?_) (fun c => absurd c hc7)
      exact J54 _ _ _ hrun hP hD hK hS (lv_sub hl [] rfl)
  · refine lv_icmp_ne (tgt := 54) hx hb dX0_isIdle_16 (by decide) (fun _ => ?_) (fun c => absurd c hc2)
    exact J54 _ _ _ hrun hP hD hK hS (lv_sub hl [] rfl)
def fX0_saveFirst_J55 (kk27 : Int32 → ST → Option ST) (v4_27 : Int32) (p0w_55 : ST) : Option ST := (kk27 (v4_27 + 1) p0w_55)
def fX0_saveFirst_L27 (p0w : ST) (p2 : Int32) : Nat → Int32 → ST → Option ST
  | 0 => fun _ _ => none
  | n_27 + 1 => fun v4_27 p0w_27 => (if p2 ≤ v4_27 then some p0w_27 else (if ixb v4_27 250 = true then (if (p0w_27 16 (nn v4_27)) = (p0w 15 (nn 0)) then (if ixb v4_27 250 = true then (lt9 (upw p0w_27 16 (nn v4_27) (p0w_27 0 8)) fun (w18 : ST) => (fX0_saveFirst_J55 (fX0_saveFirst_L27 p0w p2 n_27) v4_27 w18)) else none) else (fX0_saveFirst_J55 (fX0_saveFirst_L27 p0w p2 n_27) v4_27 p0w_27)) else none))
def fX0_saveFirst_G23_13 (p0w : ST) (p2 : Int32) (o_1 : Int32 × ST × ST × (Nat → Nat)) : Option (ST × ST × ST × (Nat → Nat)) := ((fX0_saveFirst_L27 p0w p2 NF 0 p0w).bind fun (o27 : ST) => (lt9 (upw o27 0 8 ((o27 0 8) + 1)) fun (w19 : ST) => some (w19, (o_1.2.1), (o_1.2.2.1), (o_1.2.2.2))))
theorem mo_fX0_saveFirst_G23_13 {p0w : ST} {p2 : Int32} {o_1 : Int32 × ST × ST × (Nat → Nat)} {o9q : ST × ST × ST × (Nat → Nat)} (hrun : fX0_saveFirst_G23_13 p0w p2 o_1 = some o9q) : glX9 (o_1.2.2.2) (o9q.2.2.2) := by
  unfold fX0_saveFirst_G23_13 at hrun
  obtain ⟨o27, hc27, hrun⟩ := bnd9 hrun
  obtain ⟨w19, ew19, hrun⟩ := let9 hrun
  obtain rfl := (Option.some.inj hrun)
  exact (glX9_rf _)
def fX0_saveFirst (p0w : ST) (p1 : Int32) (p2 : Int32) (p0_0w : ST) (p0_0_2n : Nat → Nat) (p0_0_2w : ST) : Option (ST × ST × ST × (Nat → Nat)) := ((fX1_addStep p0_0w p1 25 (p0w 0 8) (p0w 15 (nn 0)) (-1) p0_0_2n p0_0_2w).bind fun (o_1 : Int32 × ST × ST × (Nat → Nat)) => (fX0_saveFirst_G23_13 p0w p2 o_1))
theorem mo_fX0_saveFirst {p0w : ST} {p1 : Int32} {p2 : Int32} {p0_0w : ST} {p0_0_2n : Nat → Nat} {p0_0_2w : ST} {o9q : ST × ST × ST × (Nat → Nat)} (hrun : fX0_saveFirst p0w p1 p2 p0_0w p0_0_2n p0_0_2w = some o9q) : glX9 p0_0_2n (o9q.2.2.2) := by
  unfold fX0_saveFirst at hrun
  obtain ⟨o_1, hc_1, hrun⟩ := bnd9 hrun
  exact (glX9_tr (mo_fX1_addStep hc_1) (mo_fX0_saveFirst_G23_13 hrun))
set_option maxHeartbeats 16000000 in
set_option maxRecDepth 100000 in
theorem kX0_saveFirst {zs : Nat × Nat} (l : Launch) (dC : Nat → ClassId) (dI : Nat → Nat → Nat) (p0a : Nat → Nat) (p0k : Nat → ClassId) (p0n : Nat → Nat) (p0w : ST) (p1 : Int32) (p2 : Int32) (p0_0a : Nat → Nat) (p0_0k : Nat → ClassId) (p0_0n : Nat → Nat) (p0_0w : ST) (p0_0l : SL) (p0_0_2a : Nat → Nat) (p0_0_2k : Nat → ClassId) (p0_0_2n : Nat → Nat) (p0_0_2w : ST) (sz : Nat) (o : ST × ST × ST × (Nat → Nat)) (hrun : fX0_saveFirst p0w p1 p2 p0_0w p0_0_2n p0_0_2w = some o) : Met l yX0_saveFirst (wz yX0_saveFirst cX0_saveFirst 5 (Option.none : Option Jvm.ClassFile.FieldType)) ({ frames := 4, cells := (gcX9 p0_0_2n (o.2.2.2)), slots := (3 * (gcX9 p0_0_2n (o.2.2.2))), locals := 113 } : Room) (va_Pc [.ref (p0a 0), .int p1, .int p2] (PRE zs dC dI ((oX0 (p0a 0) p0a p0k p0n p0w) ++ (oX1 (p0a 1) p0_0a p0_0k p0_0n p0_0w p0_0l) ++ (oX9 (p0_0a 3) p0_0_2a p0_0_2k p0_0_2n p0_0_2w)) ((tX0 p0k) ++ (tX1 p0_0k) ++ (tX9 p0_0_2k)) sz)) (va_Qv (fun (_ : Unit) => True) (fun _ t => ∃ (xp0_0_2_1_z : Nat), ∃ (zp0_0_2_1_z : ClassId), ∃ (xp0_0_2_2_z : Nat), ∃ (zp0_0_2_2_z : ClassId), ∃ (xp0_0_2_3_z : Nat), ∃ (zp0_0_2_3_z : ClassId), ∃ (xp0_0_2_4_z : Nat), ∃ (zp0_0_2_4_z : ClassId), ∃ (xp0_0_2_5_z : Nat), ∃ (zp0_0_2_5_z : ClassId), POST dC dI ((oX0 (p0a 0) p0a p0k p0n (o.1)) ++ (oX1 (p0a 1) p0_0a p0_0k p0_0n (o.2.1) p0_0l) ++ (oX9 (p0_0a 3) (st1 (st1 (st1 (st1 (st1 p0_0_2a 2 xp0_0_2_1_z) 3 xp0_0_2_2_z) 4 xp0_0_2_3_z) 5 xp0_0_2_4_z) 6 xp0_0_2_5_z) (st1 (st1 (st1 (st1 (st1 p0_0_2k 2 zp0_0_2_1_z) 3 zp0_0_2_2_z) 4 zp0_0_2_3_z) 5 zp0_0_2_4_z) 6 zp0_0_2_5_z) (o.2.2.2) (o.2.2.1))) ((tX0 p0k) ++ (tX1 p0_0k) ++ (tX9 (st1 (st1 (st1 (st1 (st1 p0_0_2k 2 zp0_0_2_1_z) 3 zp0_0_2_2_z) 4 zp0_0_2_3_z) 5 zp0_0_2_4_z) 6 zp0_0_2_5_z))) (va_A ((oX0 (p0a 0) p0a p0k p0n p0w) ++ (oX1 (p0a 1) p0_0a p0_0k p0_0n p0_0w p0_0l) ++ (oX9 (p0_0a 3) p0_0_2a p0_0_2k p0_0_2n p0_0_2w)) sz) t) (va_A ((oX0 (p0a 0) p0a p0k p0n p0w) ++ (oX1 (p0a 1) p0_0a p0_0k p0_0n p0_0w p0_0l) ++ (oX9 (p0_0a 3) p0_0_2a p0_0_2k p0_0_2n p0_0_2w)) sz)) (gcX9 p0_0_2n (o.2.2.2)) (3 * (gcX9 p0_0_2n (o.2.2.2))) (va_A ((oX0 (p0a 0) p0a p0k p0n p0w) ++ (oX1 (p0a 1) p0_0a p0_0k p0_0n p0_0w p0_0l) ++ (oX9 (p0_0a 3) p0_0_2a p0_0_2k p0_0_2n p0_0_2w)) sz) := by
  refine Met.ofW (cc := cX0_saveFirst) (maxL := 5) (ret := (Option.none : Option Jvm.ClassFile.FieldType)) (by decide) rfl ?_
  intro p e s m args below meth c s₁ B hml hv
  obtain ⟨rfl, hsz, hP, hK, hD0, hE⟩ := hv
  have hx := B.exec
  have hb := B.bytes
  have hr := B.returns
  have hts0 := atoms_spec (ws := wz yX0_saveFirst cX0_saveFirst 5 (Option.none : Option Jvm.ClassFile.FieldType)) B.pre
  have hts : ∀ w ∈ gw, w.before _ s = true := fun w h => hts0 w (List.mem_cons_of_mem _ h)
  have hown : s.vm.findClass RX0 = some m.cls := findClass_of_methodNamed B.named
  have hlocks := B.notSynchronized
  subst hsz
  have hD := hD0.self (sz := s.heap.size)
  refine gQ9 ?_
  intro Q hQ
  generalize hAe : va_A ((oX0 (p0a 0) p0a p0k p0n p0w) ++ (oX1 (p0a 1) p0_0a p0_0k p0_0n p0_0w p0_0l) ++ (oX9 (p0_0a 3) p0_0_2a p0_0_2k p0_0_2n p0_0_2w)) s.heap.size = A at hD hE hQ
  have hA : ∀ q : Nat, s.heap.size ≤ q → A q := fun q h => by rw [← hAe]; exact Or.inr h
  have hS : va_S A s.heap s.heap [] := va_S.rf
  have hP : va_P (dC, dI) cls ((oX0 (p0a 0) p0a p0k p0n p0w) ++ (oX1 (p0a 1) p0_0a p0_0k p0_0n p0_0w p0_0l) ++ (oX9 (p0_0a 3) p0_0_2a p0_0_2k p0_0_2n p0_0_2w)) s.heap := hP
  have hl := lv_entry ([.ref (p0a 0), .int p1, .int p2]) (n := 5) (Nat.le_of_ble_eq_true rfl)
  rw [lg_entry_eq]
  generalize (lg_sl ([.ref (p0a 0), .int p1, .int p2]) ++ List.replicate (5 - (lg_sl ([.ref (p0a 0), .int p1, .int p2])).length) Slot.unset).toArray = ls at hl ⊢
  have hl : lv_has ls 5 [(0, .ref (p0a 0)), (1, .int p1), (2, .int p2)] := hl
  obtain ⟨H, hHe⟩ : ∃ H, H = s.heap := ⟨_, rfl⟩
  obtain ⟨locs, hle⟩ : ∃ locs : List Loc, locs = [] := ⟨_, rfl⟩
  rw [← hHe] at hP
  have hS : va_S A s.heap H locs := by rw [hHe, hle]; exact hS
  show W p l e ({ frames := 4, cells := (gcX9 p0_0_2n (o.2.2.2)), slots := (3 * (gcX9 p0_0_2n (o.2.2.2))), locals := 113 } : Room) s m ([.ref (p0a 0), .int p1, .int p2] : List Value).toArray below meth c s.heap [] 0 0 Q (F0 m 0 ls [])
  rw [← hle]
  refine wH9 hHe ?_
  have hg_p0_0_2 := glX9_rf p0_0_2n
  have hgn_p0_0_2 : glX9 p0_0_2n (o.2.2.2) := (mo_fX0_saveFirst hrun)
  refine W.widen (k := (gcX9 p0_0_2n p0_0_2n)) (n := (3 * (gcX9 p0_0_2n p0_0_2n))) (Nat.zero_le _) (Nat.zero_le _) ?_
  unfold fX0_saveFirst at hrun
  refine lv_aload_n hx hb dX0_saveFirst_0 rfl (lv_at hl 0 rfl) ?_
  refine va_get (D := (dC, dI)) (ci := 8) (v := .ref (p0a 15)) (C := RX0) (T := TX0) (N := 17) hx hb hts i_X0 hown hK hP 0 rfl rfl 14 (by decide) (hts _ qw634) (fun _ h9 => h9) rfl dX0_saveFirst_1 ?_
  refine lv_iconst (v := 0) hx hb dX0_saveFirst_4 (by decide) ?_
  refine va_iald hx hb hK hP 6 5 rfl rfl (by unfold vp_in; decide +kernel) dX0_saveFirst_5 ?_
  refine lv_istore_n (lv' := [(3, .int (p0w 15 (nn 0))), (0, .ref (p0a 0)), (1, .int p1), (2, .int p2)]) hx hb dX0_saveFirst_6 rfl hl (by decide) rfl (fun ls hl => ?_)
  refine lv_aload_n hx hb dX0_saveFirst_7 rfl (lv_at hl 1 rfl) ?_
  refine va_get (D := (dC, dI)) (ci := 8) (v := .ref (p0a 1)) (C := RX0) (T := TX0) (N := 17) hx hb hts i_X0 hown hK hP 0 rfl rfl 0 (by decide) (hts _ qw618) (fun _ h9 => h9) rfl dX0_saveFirst_8 ?_
  refine lv_iload_n hx hb dX0_saveFirst_11 rfl (lv_at hl 2 rfl) ?_
  refine lv_bipush (v := 25) hx hb dX0_saveFirst_12 (by decide) ?_
  refine lv_aload_n hx hb dX0_saveFirst_14 rfl (lv_at hl 1 rfl) ?_
  refine va_get (D := (dC, dI)) (ci := 8) (v := .int (p0w 0 8)) (C := RX0) (T := TX0) (N := 17) hx hb hts i_X0 hown hK hP 0 rfl rfl 8 (by decide) (hts _ qw623) (fun _ h9 => h9) rfl dX0_saveFirst_15 ?_
  refine lv_iload_n hx hb dX0_saveFirst_18 rfl (lv_at hl 0 rfl) ?_
  refine lv_iconst (v := (-1)) hx hb dX0_saveFirst_19 (by decide) ?_
  obtain ⟨o_1, hc_1, hrun⟩ := bnd9 hrun
  have hPc := hP.sub (ws' := ((oX1 (p0a 1) p0_0a p0_0k p0_0n p0_0w p0_0l) ++ (oX9 (p0_0a 3) p0_0_2a p0_0_2k p0_0_2n p0_0_2w))) [9, 10, 11, 12, 13, 14, 15, 16, 17, 18, 19, 20, 21, 22, 23, 24, 25, 26, 27, 28, 29, 30, 31, 32] rfl
  have hDc := hD.sub (ws' := ((oX1 (p0a 1) p0_0a p0_0k p0_0n p0_0w p0_0l) ++ (oX9 (p0_0a 3) p0_0_2a p0_0_2k p0_0_2n p0_0_2w))) [9, 10, 11, 12, 13, 14, 15, 16, 17, 18, 19, 20, 21, 22, 23, 24, 25, 26, 27, 28, 29, 30, 31, 32] (by decide) rfl
  have hKc := hK.sub (tys' := ((tX1 p0_0k) ++ (tX9 p0_0_2k))) [8, 9, 10, 11, 12, 13, 14, 15, 16, 17, 18, 19, 20, 21, 22, 23, 24, 25, 26, 27, 28, 29] rfl
  have hFc := va_free (wc := ((oX1 (p0a 1) p0_0a p0_0k p0_0n p0_0w p0_0l) ++ (oX9 (p0_0a 3) p0_0_2a p0_0_2k p0_0_2n p0_0_2w))) hD hS hA [9, 10, 11, 12, 13, 14, 15, 16, 17, 18, 19, 20, 21, 22, 23, 24, 25, 26, 27, 28, 29, 30, 31, 32] rfl
  have hgn_p0_0_2 : glX9 (o_1.2.2.2) (o.2.2.2) := (mo_fX0_saveFirst_G23_13 hrun)
  refine va_calli (va_runV (As := [.int p1, .int 25, .int (p0w 0 8), .int (p0w 15 (nn 0)), .int (-1)]) (rest := []) ⟨hx, hb, hml, hown, hts⟩ (kX1_addStep l dC dI (p0a := (st0 (p0a 1) p0_0a)) (p0k := p0_0k) (p0n := p0_0n) (p0w := p0_0w) (p0l := p0_0l) (p1 := p1) (p2 := 25) (p3 := (p0w 0 8)) (p4 := (p0w 15 (nn 0))) (p5 := (-1)) (p0_2a := p0_0_2a) (p0_2k := p0_0_2k) (p0_2n := p0_0_2n) (p0_2w := p0_0_2w) (sz := _) (o := o_1) (hrun := hc_1)) (cwV 5 hts (gi_V qw625 qw165 qw166 qw126 (gi_z qw163)) rfl rfl rfl (by decide +kernel) ⟨Nat.le_of_ble_eq_true rfl, Nat.le_of_ble_eq_true rfl⟩) ⟨PRE.blind, va_recv hKc hPc (ci := 4) (q0 := 0) rfl rfl, PRE.of hE hS hFc hPc hKc hDc⟩ rfl rfl hl.1 rfl (lv_room (Nat.le_of_ble_eq_true rfl)) dX0_saveFirst_20 ⟨(show (gcX9 p0_0_2n p0_0_2n) + (gcX9 p0_0_2n (o_1.2.2.2)) ≤ (gcX9 p0_0_2n (o.2.2.2)) from by have q0 := gsX9 hg_p0_0_2 (mo_fX1_addStep hc_1) hgn_p0_0_2; omega), (show (3 * (gcX9 p0_0_2n p0_0_2n)) + (3 * ((gcX9 p0_0_2n (o_1.2.2.2)))) ≤ (3 * (gcX9 p0_0_2n (o.2.2.2))) from by have q0 := gsX9 hg_p0_0_2 (mo_fX1_addStep hc_1) hgn_p0_0_2; omega)⟩) hS (fun q _ h => hFc q h) hFc (fun r2 u t H locs ht hvm hw hB hz1 hk1 hS => ?_)
  obtain ⟨x3, z4, x5, z6, x7, z8, x9, z10, x11, z12, hB⟩ := hB
  obtain ⟨hP, hD, hK⟩ := JOIN (wr := (oX0 (p0a 0) p0a p0k p0n p0w)) hP hD hK [9, 10, 11, 12, 13, 14, 15, 16, 17, 18, 19, 20, 21, 22, 23, 24, 25, 26, 27, 28, 29, 30, 31, 32] [0, 1, 2, 3, 4, 5, 6, 7, 8] [0, 1, 2, 3, 4, 5, 6, 7] rfl rfl (by decide) (by decide) rfl hk1 hFc ht hvm hB
  have hP : va_P (dC, dI) cls ((oX0 (p0a 0) p0a p0k p0n p0w) ++ (oX1 (p0a 1) p0_0a p0_0k p0_0n (o_1.2.1) p0_0l) ++ (oX9 (p0_0a 3) (st1 (st1 (st1 (st1 (st1 p0_0_2a 2 x3) 3 x5) 4 x7) 5 x9) 6 x11) (st1 (st1 (st1 (st1 (st1 p0_0_2k 2 z4) 3 z6) 4 z8) 5 z10) 6 z12) (o_1.2.2.2) (o_1.2.2.1))) H := hP.sub [0, 1, 2, 3, 4, 5, 6, 7, 8, 9, 10, 11, 12, 13, 14, 15, 16, 17, 18, 19, 20, 21, 22, 23, 24, 25, 26, 27, 28, 29, 30, 31, 32] rfl
  have hD : va_D A ((oX0 (p0a 0) p0a p0k p0n p0w) ++ (oX1 (p0a 1) p0_0a p0_0k p0_0n (o_1.2.1) p0_0l) ++ (oX9 (p0_0a 3) (st1 (st1 (st1 (st1 (st1 p0_0_2a 2 x3) 3 x5) 4 x7) 5 x9) 6 x11) (st1 (st1 (st1 (st1 (st1 p0_0_2k 2 z4) 3 z6) 4 z8) 5 z10) 6 z12) (o_1.2.2.2) (o_1.2.2.1))) := hD.sub [0, 1, 2, 3, 4, 5, 6, 7, 8, 9, 10, 11, 12, 13, 14, 15, 16, 17, 18, 19, 20, 21, 22, 23, 24, 25, 26, 27, 28, 29, 30, 31, 32] (by decide) rfl
  have hK : va_K (dC, dI) cls ((tX0 p0k) ++ (tX1 p0_0k) ++ (tX9 (st1 (st1 (st1 (st1 (st1 p0_0_2k 2 z4) 3 z6) 4 z8) 5 z10) 6 z12))) s := hK.sub [0, 1, 2, 3, 4, 5, 6, 7, 8, 9, 10, 11, 12, 13, 14, 15, 16, 17, 18, 19, 20, 21, 22, 23, 24, 25, 26, 27, 28, 29] rfl
  obtain rfl : r2 = (o_1.1) := hw
  refine W.widen (k := (gcX9 p0_0_2n (o_1.2.2.2))) (n := (3 * (gcX9 p0_0_2n (o_1.2.2.2)))) (by have a0 := gcX9_add hg_p0_0_2 (mo_fX1_addStep hc_1); omega) (by have a0 := gcX9_add hg_p0_0_2 (mo_fX1_addStep hc_1); omega) ?_
  have hg_p0_0_2 : glX9 p0_0_2n (o_1.2.2.2) := glX9_tr hg_p0_0_2 (mo_fX1_addStep hc_1)
  unfold fX0_saveFirst_G23_13 at hrun
  refine lv_pop hx hb dX0_saveFirst_23 rfl ?_
  refine lv_iconst (v := 0) hx hb dX0_saveFirst_24 (by decide) ?_
  refine lv_istore (lv' := [(4, .int 0), (3, .int (p0w 15 (nn 0))), (0, .ref (p0a 0)), (1, .int p1), (2, .int p2)]) hx hb dX0_saveFirst_25 hl (by decide) rfl (fun ls hl => ?_)
  have L27 : ∀ (n_27 : Nat) (v4_27 : Int32) (p0w_27 : ST) (o27 : ST) (H : Heap) (locs : List Loc) (ls : Array Slot), (fX0_saveFirst_L27 p0w p2 n_27) v4_27 p0w_27 = some o27 → va_P (dC, dI) cls ((oX0 (p0a 0) p0a p0k p0n p0w_27) ++ (oX1 (p0a 1) p0_0a p0_0k p0_0n (o_1.2.1) p0_0l) ++ (oX9 (p0_0a 3) (st1 (st1 (st1 (st1 (st1 p0_0_2a 2 x3) 3 x5) 4 x7) 5 x9) 6 x11) (st1 (st1 (st1 (st1 (st1 p0_0_2k 2 z4) 3 z6) 4 z8) 5 z10) 6 z12) (o_1.2.2.2) (o_1.2.2.1))) H → va_D A ((oX0 (p0a 0) p0a p0k p0n p0w_27) ++ (oX1 (p0a 1) p0_0a p0_0k p0_0n (o_1.2.1) p0_0l) ++ (oX9 (p0_0a 3) (st1 (st1 (st1 (st1 (st1 p0_0_2a 2 x3) 3 x5) 4 x7) 5 x9) 6 x11) (st1 (st1 (st1 (st1 (st1 p0_0_2k 2 z4) 3 z6) 4 z8) 5 z10) 6 z12) (o_1.2.2.2) (o_1.2.2.1))) → va_K (dC, dI) cls ((tX0 p0k) ++ (tX1 p0_0k) ++ (tX9 (st1 (st1 (st1 (st1 (st1 p0_0_2k 2 z4) 3 z6) 4 z8) 5 z10) 6 z12))) s → va_S A s.heap H locs → lv_has ls 5 [(0, .ref (p0a 0)), (2, .int p2), (3, .int (p0w 15 (nn 0))), (4, .int v4_27)] → glX9 p0_0_2n (o_1.2.2.2) → (∀ (H : Heap) (locs : List Loc) (ls : Array Slot), va_P (dC, dI) cls ((oX0 (p0a 0) p0a p0k p0n o27) ++ (oX1 (p0a 1) p0_0a p0_0k p0_0n (o_1.2.1) p0_0l) ++ (oX9 (p0_0a 3) (st1 (st1 (st1 (st1 (st1 p0_0_2a 2 x3) 3 x5) 4 x7) 5 x9) 6 x11) (st1 (st1 (st1 (st1 (st1 p0_0_2k 2 z4) 3 z6) 4 z8) 5 z10) 6 z12) (o_1.2.2.2) (o_1.2.2.1))) H → va_D A ((oX0 (p0a 0) p0a p0k p0n o27) ++ (oX1 (p0a 1) p0_0a p0_0k p0_0n (o_1.2.1) p0_0l) ++ (oX9 (p0_0a 3) (st1 (st1 (st1 (st1 (st1 p0_0_2a 2 x3) 3 x5) 4 x7) 5 x9) 6 x11) (st1 (st1 (st1 (st1 (st1 p0_0_2k 2 z4) 3 z6) 4 z8) 5 z10) 6 z12) (o_1.2.2.2) (o_1.2.2.1))) → va_K (dC, dI) cls ((tX0 p0k) ++ (tX1 p0_0k) ++ (tX9 (st1 (st1 (st1 (st1 (st1 p0_0_2k 2 z4) 3 z6) 4 z8) 5 z10) 6 z12))) s → va_S A s.heap H locs → lv_has ls 5 [(0, .ref (p0a 0))] → glX9 p0_0_2n (o_1.2.2.2) → W p l e ({ frames := 4, cells := (gcX9 p0_0_2n (o.2.2.2)), slots := (3 * (gcX9 p0_0_2n (o.2.2.2))), locals := 113 } : Room) s m ([.ref (p0a 0), .int p1, .int p2] : List Value).toArray below meth c H locs (gcX9 p0_0_2n (o_1.2.2.2)) (3 * (gcX9 p0_0_2n (o_1.2.2.2))) Q (F0 m 61 ls [])) → W p l e ({ frames := 4, cells := (gcX9 p0_0_2n (o.2.2.2)), slots := (3 * (gcX9 p0_0_2n (o.2.2.2))), locals := 113 } : Room) s m ([.ref (p0a 0), .int p1, .int p2] : List Value).toArray below meth c H locs (gcX9 p0_0_2n (o_1.2.2.2)) (3 * (gcX9 p0_0_2n (o_1.2.2.2))) Q (F0 m 27 ls []) := by
    intro n_27
    induction n_27 with
    | zero => intro v4_27 p0w_27 o27 H locs ls hrun; exact (no9 rfl hrun).elim
    | succ n_27 IH27 =>
      intro v4_27 p0w_27 o27 H locs ls hrun hP hD hK hS hl hg_p0_0_2 hk27
      unfold fX0_saveFirst_L27 at hrun
      refine lv_iload hx hb dX0_saveFirst_27 (lv_at hl 3 rfl) ?_
      refine lv_iload_n hx hb dX0_saveFirst_29 rfl (lv_at hl 1 rfl) ?_
      rcases br9 hrun with ⟨hc14, hrun⟩ | ⟨hc14, hrun⟩
      · refine lv_icmp_ge (tgt := 61) hx hb dX0_saveFirst_30 (by decide) (fun _ => ?_) (fun c => absurd hc14 c)
        obtain rfl := (Option.some.inj hrun)
        exact hk27 _ _ _ hP hD hK hS (lv_sub hl [0] rfl) hg_p0_0_2
      · refine lv_icmp_ge (tgt := 61) hx hb dX0_saveFirst_30 (by decide) (fun c => absurd c hc14) (fun _ => ?_)
        refine lv_aload_n hx hb dX0_saveFirst_33 rfl (lv_at hl 0 rfl) ?_
        refine va_get (D := (dC, dI)) (ci := 8) (v := .ref (p0a 16)) (C := RX0) (T := TX0) (N := 17) hx hb hts i_X0 hown hK hP 0 rfl rfl 15 (by decide) (hts _ qw633) (fun _ h9 => h9) rfl dX0_saveFirst_34 ?_
        refine lv_iload hx hb dX0_saveFirst_37 (lv_at hl 3 rfl) ?_
        obtain ⟨hq15, hrun⟩ := chk9 hrun
        refine va_iald hx hb hK hP 7 6 rfl rfl (ixb_in hq15) dX0_saveFirst_39 ?_
        refine lv_iload_n hx hb dX0_saveFirst_40 rfl (lv_at hl 2 rfl) ?_
        have J55 : ∀ (p0w_55 : ST) (H : Heap) (locs : List Loc) (ls : Array Slot), (fX0_saveFirst_J55 (fX0_saveFirst_L27 p0w p2 n_27) v4_27 p0w_55) = some o27 → va_P (dC, dI) cls ((oX0 (p0a 0) p0a p0k p0n p0w_55) ++ (oX1 (p0a 1) p0_0a p0_0k p0_0n (o_1.2.1) p0_0l) ++ (oX9 (p0_0a 3) (st1 (st1 (st1 (st1 (st1 p0_0_2a 2 x3) 3 x5) 4 x7) 5 x9) 6 x11) (st1 (st1 (st1 (st1 (st1 p0_0_2k 2 z4) 3 z6) 4 z8) 5 z10) 6 z12) (o_1.2.2.2) (o_1.2.2.1))) H → va_D A ((oX0 (p0a 0) p0a p0k p0n p0w_55) ++ (oX1 (p0a 1) p0_0a p0_0k p0_0n (o_1.2.1) p0_0l) ++ (oX9 (p0_0a 3) (st1 (st1 (st1 (st1 (st1 p0_0_2a 2 x3) 3 x5) 4 x7) 5 x9) 6 x11) (st1 (st1 (st1 (st1 (st1 p0_0_2k 2 z4) 3 z6) 4 z8) 5 z10) 6 z12) (o_1.2.2.2) (o_1.2.2.1))) → va_K (dC, dI) cls ((tX0 p0k) ++ (tX1 p0_0k) ++ (tX9 (st1 (st1 (st1 (st1 (st1 p0_0_2k 2 z4) 3 z6) 4 z8) 5 z10) 6 z12))) s → va_S A s.heap H locs → lv_has ls 5 [(0, .ref (p0a 0)), (2, .int p2), (3, .int (p0w 15 (nn 0))), (4, .int v4_27)] → glX9 p0_0_2n (o_1.2.2.2) → W p l e ({ frames := 4, cells := (gcX9 p0_0_2n (o.2.2.2)), slots := (3 * (gcX9 p0_0_2n (o.2.2.2))), locals := 113 } : Room) s m ([.ref (p0a 0), .int p1, .int p2] : List Value).toArray below meth c H locs (gcX9 p0_0_2n (o_1.2.2.2)) (3 * (gcX9 p0_0_2n (o_1.2.2.2))) Q (F0 m 55 ls []) := by
          intro p0w_55 H locs ls hrun hP hD hK hS hl hg_p0_0_2 
          unfold fX0_saveFirst_J55 at hrun
          refine lv_iinc (v := (v4_27 + 1)) (lv' := [(4, .int (v4_27 + 1)), (0, .ref (p0a 0)), (2, .int p2), (3, .int (p0w 15 (nn 0)))]) hx hb dX0_saveFirst_55 hl (k := 3) rfl rfl (by decide) rfl (fun ls hl => ?_)
          refine lv_goto (tgt := 27) hx hb dX0_saveFirst_58 (by decide) ?_
          exact IH27 (v4_27 + 1) p0w_55 o27 _ _ _ hrun hP hD hK hS (lv_sub hl [1, 2, 3, 0] rfl) hg_p0_0_2 hk27
        rcases br9 hrun with ⟨hc16, hrun⟩ | ⟨hc16, hrun⟩
        · refine lv_icmp_ne (tgt := 55) hx hb dX0_saveFirst_41 (by decide) (fun c => absurd hc16 c) (fun _ => ?_)
          refine lv_aload_n hx hb dX0_saveFirst_44 rfl (lv_at hl 0 rfl) ?_
          refine va_get (D := (dC, dI)) (ci := 8) (v := .ref (p0a 16)) (C := RX0) (T := TX0) (N := 17) hx hb hts i_X0 hown hK hP 0 rfl rfl 15 (by decide) (hts _ qw633) (fun _ h9 => h9) rfl dX0_saveFirst_45 ?_
          refine lv_iload hx hb dX0_saveFirst_48 (lv_at hl 3 rfl) ?_
          refine lv_aload_n hx hb dX0_saveFirst_50 rfl (lv_at hl 0 rfl) ?_
          refine va_get (D := (dC, dI)) (ci := 8) (v := .int (p0w_27 0 8)) (C := RX0) (T := TX0) (N := 17) hx hb hts i_X0 hown hK hP 0 rfl rfl 8 (by decide) (hts _ qw623) (fun _ h9 => h9) rfl dX0_saveFirst_51 ?_
          obtain ⟨hq17, hrun⟩ := chk9 hrun
          refine va_iast hx hb hK hP hD hS 7 6 rfl rfl (ixb_in hq17) dX0_saveFirst_54 (fun H locs hP hD hS => ?_)
          have hP : va_P (dC, dI) cls ((oX0 (p0a 0) p0a p0k p0n (upw p0w_27 16 (nn v4_27) (p0w_27 0 8))) ++ (oX1 (p0a 1) p0_0a p0_0k p0_0n (o_1.2.1) p0_0l) ++ (oX9 (p0_0a 3) (st1 (st1 (st1 (st1 (st1 p0_0_2a 2 x3) 3 x5) 4 x7) 5 x9) 6 x11) (st1 (st1 (st1 (st1 (st1 p0_0_2k 2 z4) 3 z6) 4 z8) 5 z10) 6 z12) (o_1.2.2.2) (o_1.2.2.1))) H := hP
          have hD : va_D A ((oX0 (p0a 0) p0a p0k p0n (upw p0w_27 16 (nn v4_27) (p0w_27 0 8))) ++ (oX1 (p0a 1) p0_0a p0_0k p0_0n (o_1.2.1) p0_0l) ++ (oX9 (p0_0a 3) (st1 (st1 (st1 (st1 (st1 p0_0_2a 2 x3) 3 x5) 4 x7) 5 x9) 6 x11) (st1 (st1 (st1 (st1 (st1 p0_0_2k 2 z4) 3 z6) 4 z8) 5 z10) 6 z12) (o_1.2.2.2) (o_1.2.2.1))) := hD
          obtain ⟨w18, ew18, hrun⟩ := let9 hrun
          rw [← ew18] at hP hD
          exact J55 w18 _ _ _ hrun hP hD hK hS (lv_sub hl [0, 1, 2, 3] rfl) hg_p0_0_2
        · refine lv_icmp_ne (tgt := 55) hx hb dX0_saveFirst_41 (by decide) (fun _ => ?_) (fun c => absurd c hc16)
          exact J55 p0w_27 _ _ _ hrun hP hD hK hS (lv_sub hl [0, 1, 2, 3] rfl) hg_p0_0_2
  obtain ⟨o27, hc27, hrun⟩ := bnd9 hrun
  refine L27 NF 0 p0w o27 _ _ _ hc27 hP hD hK hS (lv_sub hl [2, 4, 1, 0] rfl) hg_p0_0_2 ?_
  intro H locs ls hP hD hK hS hl hg_p0_0_2
  have hl := hl
  refine lv_aload_n hx hb dX0_saveFirst_61 rfl (lv_at hl 0 rfl) ?_
  refine lv_dup hx hb dX0_saveFirst_62 rfl ?_
  refine va_get (D := (dC, dI)) (ci := 8) (v := .int (o27 0 8)) (C := RX0) (T := TX0) (N := 17) hx hb hts i_X0 hown hK hP 0 rfl rfl 8 (by decide) (hts _ qw623) (fun _ h9 => h9) rfl dX0_saveFirst_63 ?_
  refine lv_iconst (v := 1) hx hb dX0_saveFirst_66 (by decide) ?_
  refine lv_iadd hx hb dX0_saveFirst_67 ?_
  refine va_put (D := (dC, dI)) (ci := 8) (v := .int ((o27 0 8) + 1)) (ty := .int) (C := RX0) (T := TX0) (N := 17) hx hb hts i_X0 tyX0 tyX0_ok nmX0 hown hK hP hD hS 0 rfl rfl 8 (by decide) (hts _ qw623) (fun _ h9 => h9) rfl (by decide +kernel) rfl rfl (Nat.le_of_ble_eq_true rfl) dX0_saveFirst_68 (fun H locs hP hD hS => ?_)
  have hP : va_P (dC, dI) cls ((oX0 (p0a 0) p0a p0k p0n (upw o27 0 8 ((o27 0 8) + 1))) ++ (oX1 (p0a 1) p0_0a p0_0k p0_0n (o_1.2.1) p0_0l) ++ (oX9 (p0_0a 3) (st1 (st1 (st1 (st1 (st1 p0_0_2a 2 x3) 3 x5) 4 x7) 5 x9) 6 x11) (st1 (st1 (st1 (st1 (st1 p0_0_2k 2 z4) 3 z6) 4 z8) 5 z10) 6 z12) (o_1.2.2.2) (o_1.2.2.1))) H := hP
  have hD : va_D A ((oX0 (p0a 0) p0a p0k p0n (upw o27 0 8 ((o27 0 8) + 1))) ++ (oX1 (p0a 1) p0_0a p0_0k p0_0n (o_1.2.1) p0_0l) ++ (oX9 (p0_0a 3) (st1 (st1 (st1 (st1 (st1 p0_0_2a 2 x3) 3 x5) 4 x7) 5 x9) 6 x11) (st1 (st1 (st1 (st1 (st1 p0_0_2k 2 z4) 3 z6) 4 z8) 5 z10) 6 z12) (o_1.2.2.2) (o_1.2.2.1))) := hD
  obtain ⟨w19, ew19, hrun⟩ := let9 hrun
  rw [← ew19] at hP hD
  have ho9 : (w19, (o_1.2.1), (o_1.2.2.1), (o_1.2.2.2)) = o := Option.some.inj hrun
  subst ho9
  subst hQ
  exact W.vret hx hb hr (fun t ht hW => ⟨⟨(), rfl, trivial, ⟨x3, z4, x5, z6, x7, z8, x9, z10, x11, z12, by rw [ht]; exact hP, va_K.moved hW.alike hK, hD⟩⟩, hS.F ht⟩) hS.2.2 dX0_saveFirst_71
def fX0_putCopies_J79 (kk13 : Int32 → Int32 → ST → Option (Int32 × ST)) (p0_0n : Nat → Nat) (p0_0w : ST) (v4_13 : Int32) (v3_79 : Int32) (p0w_79 : ST) : Option (Int32 × ST) := (if ixb v4_13 (p0_0n 20) = true then (kk13 v3_79 (p0_0w 20 (nn v4_13)) p0w_79) else none)
def fX0_putCopies_L13 (p2 : Int32) (p0_0n : Nat → Nat) (p0_0w : ST) : Nat → Int32 → Int32 → ST → Option (Int32 × ST)
  | 0 => fun _ _ _ => none
  | n_13 + 1 => fun v3_13 v4_13 p0w_13 => (if v4_13 < 0 then some (v3_13, p0w_13) else ((fX1_take p0_0n p0_0w v4_13 p2).bind fun (o_3 : Int32) => (if ixb v4_13 (p0_0n 19) = true then (if o_3 = (p0_0w 19 (nn v4_13)) then (fX0_putCopies_J79 (fX0_putCopies_L13 p2 p0_0n p0_0w n_13) p0_0n p0_0w v4_13 v3_13 p0w_13) else (if 250 ≤ v3_13 then (fX0_putCopies_J79 (fX0_putCopies_L13 p2 p0_0n p0_0w n_13) p0_0n p0_0w v4_13 v3_13 p0w_13) else (if ixb v4_13 (p0_0n 19) = true then (if ixb v3_13 250 = true then (lt9 (upw p0w_13 15 (nn v3_13) (p0_0w 19 (nn v4_13))) fun (w11 : ST) => (if ixb v3_13 250 = true then (lt9 (upw w11 16 (nn v3_13) o_3) fun (w13 : ST) => (fX0_putCopies_J79 (fX0_putCopies_L13 p2 p0_0n p0_0w n_13) p0_0n p0_0w v4_13 (v3_13 + 1) w13)) else none)) else none) else none))) else none)))
def fX0_putCopies_J207 (kk97 : Int32 → Int32 → ST → ST → ST → (Nat → Nat) → Option (ST × ST × ST × (Nat → Nat))) (v4_97 : Int32) (v3_207 : Int32) (p0w_207 : ST) (p0_0w_207 : ST) (p0_0_2w_207 : ST) (p0_0_2n_207 : Nat → Nat) : Option (ST × ST × ST × (Nat → Nat)) := (kk97 v3_207 (v4_97 + 1) p0w_207 p0_0w_207 p0_0_2w_207 p0_0_2n_207)
theorem mo_fX0_putCopies_J207 {kk97 : Int32 → Int32 → ST → ST → ST → (Nat → Nat) → Option (ST × ST × ST × (Nat → Nat))} {v4_97 : Int32} {v3_207 : Int32} {p0w_207 : ST} {p0_0w_207 : ST} {p0_0_2w_207 : ST} {p0_0_2n_207 : Nat → Nat} {o9q : ST × ST × ST × (Nat → Nat)} (hkk : ∀ (v3_97q : Int32) (v4_97q : Int32) (p0w_97q : ST) (p0_0w_97q : ST) (p0_0_2w_97q : ST) (p0_0_2n_97q : Nat → Nat) (r9 : ST × ST × ST × (Nat → Nat)), kk97 v3_97q v4_97q p0w_97q p0_0w_97q p0_0_2w_97q p0_0_2n_97q = some r9 → glX9 p0_0_2n_97q (r9.2.2.2)) (hrun : fX0_putCopies_J207 kk97 v4_97 v3_207 p0w_207 p0_0w_207 p0_0_2w_207 p0_0_2n_207 = some o9q) : glX9 p0_0_2n_207 (o9q.2.2.2) := by
  unfold fX0_putCopies_J207 at hrun
  exact (hkk _ _ _ _ _ _ _ hrun)
def fX0_putCopies_G207_30 (kk97 : Int32 → Int32 → ST → ST → ST → (Nat → Nat) → Option (ST × ST × ST × (Nat → Nat))) (v3_97 : Int32) (v4_97 : Int32) (o_19 : ST × ST × ST × (Nat → Nat)) : Option (ST × ST × ST × (Nat → Nat)) := (fX0_putCopies_J207 kk97 v4_97 v3_97 (o_19.1) (o_19.2.1) (o_19.2.2.1) (o_19.2.2.2))
theorem mo_fX0_putCopies_G207_30 {kk97 : Int32 → Int32 → ST → ST → ST → (Nat → Nat) → Option (ST × ST × ST × (Nat → Nat))} {v3_97 : Int32} {v4_97 : Int32} {o_19 : ST × ST × ST × (Nat → Nat)} {o9q : ST × ST × ST × (Nat → Nat)} (hkk : ∀ (v3_97q : Int32) (v4_97q : Int32) (p0w_97q : ST) (p0_0w_97q : ST) (p0_0_2w_97q : ST) (p0_0_2n_97q : Nat → Nat) (r9 : ST × ST × ST × (Nat → Nat)), kk97 v3_97q v4_97q p0w_97q p0_0w_97q p0_0_2w_97q p0_0_2n_97q = some r9 → glX9 p0_0_2n_97q (r9.2.2.2)) (hrun : fX0_putCopies_G207_30 kk97 v3_97 v4_97 o_19 = some o9q) : glX9 (o_19.2.2.2) (o9q.2.2.2) := by
  unfold fX0_putCopies_G207_30 at hrun
  exact (mo_fX0_putCopies_J207 hkk hrun)
def fX0_putCopies_L154 (v3_97 : Int32) : Nat → Int32 → ST → Option ST
  | 0 => fun _ _ => none
  | n_154 + 1 => fun v6_154 p0w_154 => (if (v3_97 + (-1)) ≤ v6_154 then some p0w_154 else (if ixb (v6_154 + 1) 250 = true then (if ixb v6_154 250 = true then (lt9 (upw p0w_154 15 (nn v6_154) (p0w_154 15 (nn (v6_154 + 1)))) fun (w49 : ST) => (if ixb (v6_154 + 1) 250 = true then (if ixb v6_154 250 = true then (lt9 (upw w49 16 (nn v6_154) (w49 16 (nn (v6_154 + 1)))) fun (w52 : ST) => ((fX0_putCopies_L154 v3_97 n_154) (v6_154 + 1) w52)) else none) else none)) else none) else none))
def fX0_putCopies_G146_45 (kk97 : Int32 → Int32 → ST → ST → ST → (Nat → Nat) → Option (ST × ST × ST × (Nat → Nat))) (v3_97 : Int32) (v4_97 : Int32) (p0w_97 : ST) (o_16 : Int32) (o_33 : Int32 × ST × ST × (Nat → Nat)) : Option (ST × ST × ST × (Nat → Nat)) := ((fX0_putCopies_L154 v3_97 NF o_16 p0w_97).bind fun (o154 : ST) => (fX0_putCopies_J207 kk97 v4_97 (v3_97 + (-1)) o154 (o_33.2.1) (o_33.2.2.1) (o_33.2.2.2)))
theorem mo_fX0_putCopies_G146_45 {kk97 : Int32 → Int32 → ST → ST → ST → (Nat → Nat) → Option (ST × ST × ST × (Nat → Nat))} {v3_97 : Int32} {v4_97 : Int32} {p0w_97 : ST} {o_16 : Int32} {o_33 : Int32 × ST × ST × (Nat → Nat)} {o9q : ST × ST × ST × (Nat → Nat)} (hkk : ∀ (v3_97q : Int32) (v4_97q : Int32) (p0w_97q : ST) (p0_0w_97q : ST) (p0_0_2w_97q : ST) (p0_0_2n_97q : Nat → Nat) (r9 : ST × ST × ST × (Nat → Nat)), kk97 v3_97q v4_97q p0w_97q p0_0w_97q p0_0_2w_97q p0_0_2n_97q = some r9 → glX9 p0_0_2n_97q (r9.2.2.2)) (hrun : fX0_putCopies_G146_45 kk97 v3_97 v4_97 p0w_97 o_16 o_33 = some o9q) : glX9 (o_33.2.2.2) (o9q.2.2.2) := by
  unfold fX0_putCopies_G146_45 at hrun
  obtain ⟨o154, hc154, hrun⟩ := bnd9 hrun
  exact (mo_fX0_putCopies_J207 hkk hrun)
def fX0_putCopies_L97 (p2 : Int32) : Nat → Int32 → Int32 → ST → ST → ST → (Nat → Nat) → Option (ST × ST × ST × (Nat → Nat))
  | 0 => fun _ _ _ _ _ _ => none
  | n_97 + 1 => fun v3_97 v4_97 p0w_97 p0_0w_97 p0_0_2w_97 p0_0_2n_97 => (if v3_97 ≤ 0 then some (p0w_97, p0_0w_97, p0_0_2w_97, p0_0_2n_97) else (if 500 ≤ v4_97 then some (p0w_97, p0_0w_97, p0_0_2w_97, p0_0_2n_97) else ((fX0_firstFree p0w_97 v3_97).bind fun (o_16 : Int32) => (if o_16 < 0 then ((fX0_saveFirst p0w_97 p2 v3_97 p0_0w_97 p0_0_2n_97 p0_0_2w_97).bind fun (o_19 : ST × ST × ST × (Nat → Nat)) => (fX0_putCopies_G207_30 (fX0_putCopies_L97 p2 n_97) v3_97 v4_97 o_19)) else (if ixb o_16 250 = true then (if ixb o_16 250 = true then ((fX1_addStep p0_0w_97 p2 25 (p0w_97 15 (nn o_16)) (p0w_97 16 (nn o_16)) (-1) p0_0_2n_97 p0_0_2w_97).bind fun (o_33 : Int32 × ST × ST × (Nat → Nat)) => (fX0_putCopies_G146_45 (fX0_putCopies_L97 p2 n_97) v3_97 v4_97 p0w_97 o_16 o_33)) else none) else none)))))
theorem mo_fX0_putCopies_L97 {p2 : Int32} : ∀ (n_97 : Nat) (v3_97 : Int32) (v4_97 : Int32) (p0w_97 : ST) (p0_0w_97 : ST) (p0_0_2w_97 : ST) (p0_0_2n_97 : Nat → Nat) (o9q : ST × ST × ST × (Nat → Nat)), (fX0_putCopies_L97 p2 n_97) v3_97 v4_97 p0w_97 p0_0w_97 p0_0_2w_97 p0_0_2n_97 = some o9q → glX9 p0_0_2n_97 (o9q.2.2.2) := by
  intro n_97
  induction n_97 with
  | zero => intro v3_97 v4_97 p0w_97 p0_0w_97 p0_0_2w_97 p0_0_2n_97 o9q hrun; exact (no9 rfl hrun).elim
  | succ n_97 ih9 =>
    intro v3_97 v4_97 p0w_97 p0_0w_97 p0_0_2w_97 p0_0_2n_97 o9q hrun
    unfold fX0_putCopies_L97 at hrun
    rcases br9 hrun with ⟨hc14, hrun⟩ | ⟨hc14, hrun⟩
    · skip
      obtain rfl := (Option.some.inj hrun)
      exact (glX9_rf _)
    · skip
      rcases br9 hrun with ⟨hc15, hrun⟩ | ⟨hc15, hrun⟩
      · skip
        obtain rfl := (Option.some.inj hrun)
        exact (glX9_rf _)
      · skip
        obtain ⟨o_16, hc_16, hrun⟩ := bnd9 hrun
        rcases br9 hrun with ⟨hc18, hrun⟩ | ⟨hc18, hrun⟩
        · skip
          obtain ⟨o_19, hc_19, hrun⟩ := bnd9 hrun
          exact (glX9_tr (mo_fX0_saveFirst hc_19) (mo_fX0_putCopies_G207_30 ih9 hrun))
        · skip
          obtain ⟨hq31, hrun⟩ := chk9 hrun
          obtain ⟨hq32, hrun⟩ := chk9 hrun
          obtain ⟨o_33, hc_33, hrun⟩ := bnd9 hrun
          exact (glX9_tr (mo_fX1_addStep hc_33) (mo_fX0_putCopies_G146_45 ih9 hrun))
def fX0_putCopies_G213_53 (o97 : ST × ST × ST × (Nat → Nat)) : Option (ST × ST × ST × (Nat → Nat)) := some ((o97.1), (o97.2.1), (o97.2.2.1), (o97.2.2.2))
theorem mo_fX0_putCopies_G213_53 {o97 : ST × ST × ST × (Nat → Nat)} {o9q : ST × ST × ST × (Nat → Nat)} (hrun : fX0_putCopies_G213_53 o97 = some o9q) : glX9 (o97.2.2.2) (o9q.2.2.2) := by
  unfold fX0_putCopies_G213_53 at hrun
  obtain rfl := (Option.some.inj hrun)
  exact (glX9_rf _)
def fX0_putCopies (p0w : ST) (p1 : Int32) (p2 : Int32) (p0_0n : Nat → Nat) (p0_0w : ST) (p0_0_2n : Nat → Nat) (p0_0_2w : ST) : Option (ST × ST × ST × (Nat → Nat)) := (if ixb p1 60 = true then ((fX0_putCopies_L13 p2 p0_0n p0_0w NF 0 (p0_0w 6 (nn p1)) p0w).bind fun (o13 : Int32 × ST) => ((fX0_putCopies_L97 p2 NF (o13.1) 0 (o13.2) p0_0w p0_0_2w p0_0_2n).bind fun (o97 : ST × ST × ST × (Nat → Nat)) => (fX0_putCopies_G213_53 o97))) else none)
theorem mo_fX0_putCopies {p0w : ST} {p1 : Int32} {p2 : Int32} {p0_0n : Nat → Nat} {p0_0w : ST} {p0_0_2n : Nat → Nat} {p0_0_2w : ST} {o9q : ST × ST × ST × (Nat → Nat)} (hrun : fX0_putCopies p0w p1 p2 p0_0n p0_0w p0_0_2n p0_0_2w = some o9q) : glX9 p0_0_2n (o9q.2.2.2) := by
  unfold fX0_putCopies at hrun
  obtain ⟨hq1, hrun⟩ := chk9 hrun
  obtain ⟨o13, hc13, hrun⟩ := bnd9 hrun
  obtain ⟨o97, hc97, hrun⟩ := bnd9 hrun
  exact (glX9_tr (mo_fX0_putCopies_L97 _ _ _ _ _ _ _ _ hc97) (mo_fX0_putCopies_G213_53 hrun))
set_option maxHeartbeats 16000000 in
set_option maxRecDepth 100000 in
theorem kX0_putCopies {zs : Nat × Nat} (l : Launch) (dC : Nat → ClassId) (dI : Nat → Nat → Nat) (p0a : Nat → Nat) (p0k : Nat → ClassId) (p0n : Nat → Nat) (p0w : ST) (p1 : Int32) (p2 : Int32) (p0_0a : Nat → Nat) (p0_0k : Nat → ClassId) (p0_0n : Nat → Nat) (p0_0w : ST) (p0_0l : SL) (p0_0_2a : Nat → Nat) (p0_0_2k : Nat → ClassId) (p0_0_2n : Nat → Nat) (p0_0_2w : ST) (sz : Nat) (o : ST × ST × ST × (Nat → Nat)) (hrun : fX0_putCopies p0w p1 p2 p0_0n p0_0w p0_0_2n p0_0_2w = some o) : Met l yX0_putCopies (wz yX0_putCopies cX0_putCopies 7 (Option.none : Option Jvm.ClassFile.FieldType)) ({ frames := 5, cells := (gcX9 p0_0_2n (o.2.2.2)), slots := (3 * (gcX9 p0_0_2n (o.2.2.2))), locals := 137 } : Room) (va_Pc [.ref (p0a 0), .int p1, .int p2] (PRE zs dC dI ((oX0 (p0a 0) p0a p0k p0n p0w) ++ (oX1 (p0a 1) p0_0a p0_0k p0_0n p0_0w p0_0l) ++ (oX9 (p0_0a 3) p0_0_2a p0_0_2k p0_0_2n p0_0_2w)) ((tX0 p0k) ++ (tX1 p0_0k) ++ (tX9 p0_0_2k)) sz)) (va_Qv (fun (_ : Unit) => True) (fun _ t => ∃ (xp0_0_2_1_z : Nat), ∃ (zp0_0_2_1_z : ClassId), ∃ (xp0_0_2_2_z : Nat), ∃ (zp0_0_2_2_z : ClassId), ∃ (xp0_0_2_3_z : Nat), ∃ (zp0_0_2_3_z : ClassId), ∃ (xp0_0_2_4_z : Nat), ∃ (zp0_0_2_4_z : ClassId), ∃ (xp0_0_2_5_z : Nat), ∃ (zp0_0_2_5_z : ClassId), POST dC dI ((oX0 (p0a 0) p0a p0k p0n (o.1)) ++ (oX1 (p0a 1) p0_0a p0_0k p0_0n (o.2.1) p0_0l) ++ (oX9 (p0_0a 3) (st1 (st1 (st1 (st1 (st1 p0_0_2a 2 xp0_0_2_1_z) 3 xp0_0_2_2_z) 4 xp0_0_2_3_z) 5 xp0_0_2_4_z) 6 xp0_0_2_5_z) (st1 (st1 (st1 (st1 (st1 p0_0_2k 2 zp0_0_2_1_z) 3 zp0_0_2_2_z) 4 zp0_0_2_3_z) 5 zp0_0_2_4_z) 6 zp0_0_2_5_z) (o.2.2.2) (o.2.2.1))) ((tX0 p0k) ++ (tX1 p0_0k) ++ (tX9 (st1 (st1 (st1 (st1 (st1 p0_0_2k 2 zp0_0_2_1_z) 3 zp0_0_2_2_z) 4 zp0_0_2_3_z) 5 zp0_0_2_4_z) 6 zp0_0_2_5_z))) (va_A ((oX0 (p0a 0) p0a p0k p0n p0w) ++ (oX1 (p0a 1) p0_0a p0_0k p0_0n p0_0w p0_0l) ++ (oX9 (p0_0a 3) p0_0_2a p0_0_2k p0_0_2n p0_0_2w)) sz) t) (va_A ((oX0 (p0a 0) p0a p0k p0n p0w) ++ (oX1 (p0a 1) p0_0a p0_0k p0_0n p0_0w p0_0l) ++ (oX9 (p0_0a 3) p0_0_2a p0_0_2k p0_0_2n p0_0_2w)) sz)) (gcX9 p0_0_2n (o.2.2.2)) (3 * (gcX9 p0_0_2n (o.2.2.2))) (va_A ((oX0 (p0a 0) p0a p0k p0n p0w) ++ (oX1 (p0a 1) p0_0a p0_0k p0_0n p0_0w p0_0l) ++ (oX9 (p0_0a 3) p0_0_2a p0_0_2k p0_0_2n p0_0_2w)) sz) := by
  refine Met.ofW (cc := cX0_putCopies) (maxL := 7) (ret := (Option.none : Option Jvm.ClassFile.FieldType)) (by decide) rfl ?_
  intro p e s m args below meth c s₁ B hml hv
  obtain ⟨rfl, hsz, hP, hK, hD0, hE⟩ := hv
  have hx := B.exec
  have hb := B.bytes
  have hr := B.returns
  have hts0 := atoms_spec (ws := wz yX0_putCopies cX0_putCopies 7 (Option.none : Option Jvm.ClassFile.FieldType)) B.pre
  have hts : ∀ w ∈ gw, w.before _ s = true := fun w h => hts0 w (List.mem_cons_of_mem _ h)
  have hown : s.vm.findClass RX0 = some m.cls := findClass_of_methodNamed B.named
  have hlocks := B.notSynchronized
  subst hsz
  have hD := hD0.self (sz := s.heap.size)
  refine gQ9 ?_
  intro Q hQ
  generalize hAe : va_A ((oX0 (p0a 0) p0a p0k p0n p0w) ++ (oX1 (p0a 1) p0_0a p0_0k p0_0n p0_0w p0_0l) ++ (oX9 (p0_0a 3) p0_0_2a p0_0_2k p0_0_2n p0_0_2w)) s.heap.size = A at hD hE hQ
  have hA : ∀ q : Nat, s.heap.size ≤ q → A q := fun q h => by rw [← hAe]; exact Or.inr h
  have hS : va_S A s.heap s.heap [] := va_S.rf
  have hP : va_P (dC, dI) cls ((oX0 (p0a 0) p0a p0k p0n p0w) ++ (oX1 (p0a 1) p0_0a p0_0k p0_0n p0_0w p0_0l) ++ (oX9 (p0_0a 3) p0_0_2a p0_0_2k p0_0_2n p0_0_2w)) s.heap := hP
  have hl := lv_entry ([.ref (p0a 0), .int p1, .int p2]) (n := 7) (Nat.le_of_ble_eq_true rfl)
  rw [lg_entry_eq]
  generalize (lg_sl ([.ref (p0a 0), .int p1, .int p2]) ++ List.replicate (7 - (lg_sl ([.ref (p0a 0), .int p1, .int p2])).length) Slot.unset).toArray = ls at hl ⊢
  have hl : lv_has ls 7 [(0, .ref (p0a 0)), (1, .int p1), (2, .int p2)] := hl
  obtain ⟨H, hHe⟩ : ∃ H, H = s.heap := ⟨_, rfl⟩
  obtain ⟨locs, hle⟩ : ∃ locs : List Loc, locs = [] := ⟨_, rfl⟩
  rw [← hHe] at hP
  have hS : va_S A s.heap H locs := by rw [hHe, hle]; exact hS
  show W p l e ({ frames := 5, cells := (gcX9 p0_0_2n (o.2.2.2)), slots := (3 * (gcX9 p0_0_2n (o.2.2.2))), locals := 137 } : Room) s m ([.ref (p0a 0), .int p1, .int p2] : List Value).toArray below meth c s.heap [] 0 0 Q (F0 m 0 ls [])
  rw [← hle]
  refine wH9 hHe ?_
  have hg_p0_0_2 := glX9_rf p0_0_2n
  have hgn_p0_0_2 : glX9 p0_0_2n (o.2.2.2) := (mo_fX0_putCopies hrun)
  refine W.widen (k := (gcX9 p0_0_2n p0_0_2n)) (n := (3 * (gcX9 p0_0_2n p0_0_2n))) (Nat.zero_le _) (Nat.zero_le _) ?_
  unfold fX0_putCopies at hrun
  refine lv_iconst (v := 0) hx hb dX0_putCopies_0 (by decide) ?_
  refine lv_istore_n (lv' := [(3, .int 0), (0, .ref (p0a 0)), (1, .int p1), (2, .int p2)]) hx hb dX0_putCopies_1 rfl hl (by decide) rfl (fun ls hl => ?_)
  refine lv_aload_n hx hb dX0_putCopies_2 rfl (lv_at hl 1 rfl) ?_
  refine va_get (D := (dC, dI)) (ci := 8) (v := .ref (p0a 1)) (C := RX0) (T := TX0) (N := 17) hx hb hts i_X0 hown hK hP 0 rfl rfl 0 (by decide) (hts _ qw618) (fun _ h9 => h9) rfl dX0_putCopies_3 ?_
  refine va_get (D := (dC, dI)) (ci := 4) (v := .ref (p0_0a 6)) (C := RX1) (T := TX1) (N := 21) hx hb hts i_X1 hown hK hP 9 rfl rfl 5 (by decide) (hts _ qw645) (fun _ h9 => h9) rfl dX0_putCopies_6 ?_
  refine lv_iload_n hx hb dX0_putCopies_9 rfl (lv_at hl 2 rfl) ?_
  obtain ⟨hq1, hrun⟩ := chk9 hrun
  refine va_iald hx hb hK hP 12 10 rfl rfl (ixb_in hq1) dX0_putCopies_10 ?_
  refine lv_istore (lv' := [(4, .int (p0_0w 6 (nn p1))), (3, .int 0), (0, .ref (p0a 0)), (1, .int p1), (2, .int p2)]) hx hb dX0_putCopies_11 hl (by decide) rfl (fun ls hl => ?_)
  have L13 : ∀ (n_13 : Nat) (v3_13 : Int32) (v4_13 : Int32) (p0w_13 : ST) (o13 : Int32 × ST) (H : Heap) (locs : List Loc) (ls : Array Slot), (fX0_putCopies_L13 p2 p0_0n p0_0w n_13) v3_13 v4_13 p0w_13 = some o13 → va_P (dC, dI) cls ((oX0 (p0a 0) p0a p0k p0n p0w_13) ++ (oX1 (p0a 1) p0_0a p0_0k p0_0n p0_0w p0_0l) ++ (oX9 (p0_0a 3) p0_0_2a p0_0_2k p0_0_2n p0_0_2w)) H → va_D A ((oX0 (p0a 0) p0a p0k p0n p0w_13) ++ (oX1 (p0a 1) p0_0a p0_0k p0_0n p0_0w p0_0l) ++ (oX9 (p0_0a 3) p0_0_2a p0_0_2k p0_0_2n p0_0_2w)) → va_K (dC, dI) cls ((tX0 p0k) ++ (tX1 p0_0k) ++ (tX9 p0_0_2k)) s → va_S A s.heap H locs → lv_has ls 7 [(0, .ref (p0a 0)), (2, .int p2), (3, .int v3_13), (4, .int v4_13)] → glX9 p0_0_2n p0_0_2n → (∀ (H : Heap) (locs : List Loc) (ls : Array Slot), va_P (dC, dI) cls ((oX0 (p0a 0) p0a p0k p0n (o13.2)) ++ (oX1 (p0a 1) p0_0a p0_0k p0_0n p0_0w p0_0l) ++ (oX9 (p0_0a 3) p0_0_2a p0_0_2k p0_0_2n p0_0_2w)) H → va_D A ((oX0 (p0a 0) p0a p0k p0n (o13.2)) ++ (oX1 (p0a 1) p0_0a p0_0k p0_0n p0_0w p0_0l) ++ (oX9 (p0_0a 3) p0_0_2a p0_0_2k p0_0_2n p0_0_2w)) → va_K (dC, dI) cls ((tX0 p0k) ++ (tX1 p0_0k) ++ (tX9 p0_0_2k)) s → va_S A s.heap H locs → lv_has ls 7 [(0, .ref (p0a 0)), (2, .int p2), (3, .int (o13.1))] → glX9 p0_0_2n p0_0_2n → W p l e ({ frames := 5, cells := (gcX9 p0_0_2n (o.2.2.2)), slots := (3 * (gcX9 p0_0_2n (o.2.2.2))), locals := 137 } : Room) s m ([.ref (p0a 0), .int p1, .int p2] : List Value).toArray below meth c H locs (gcX9 p0_0_2n p0_0_2n) (3 * (gcX9 p0_0_2n p0_0_2n)) Q (F0 m 94 ls [])) → W p l e ({ frames := 5, cells := (gcX9 p0_0_2n (o.2.2.2)), slots := (3 * (gcX9 p0_0_2n (o.2.2.2))), locals := 137 } : Room) s m ([.ref (p0a 0), .int p1, .int p2] : List Value).toArray below meth c H locs (gcX9 p0_0_2n p0_0_2n) (3 * (gcX9 p0_0_2n p0_0_2n)) Q (F0 m 13 ls []) := by
    intro n_13
    induction n_13 with
    | zero => intro v3_13 v4_13 p0w_13 o13 H locs ls hrun; exact (no9 rfl hrun).elim
    | succ n_13 IH13 =>
      intro v3_13 v4_13 p0w_13 o13 H locs ls hrun hP hD hK hS hl hg_p0_0_2 hk13
      unfold fX0_putCopies_L13 at hrun
      refine lv_iload hx hb dX0_putCopies_13 (lv_at hl 3 rfl) ?_
      rcases br9 hrun with ⟨hc2, hrun⟩ | ⟨hc2, hrun⟩
      · refine lv_if_lt (tgt := 94) hx hb dX0_putCopies_15 (by decide) (fun _ => ?_) (fun c => absurd hc2 c)
        obtain rfl := (Option.some.inj hrun)
        exact hk13 _ _ _ hP hD hK hS (lv_sub hl [0, 1, 2] rfl) hg_p0_0_2
      · refine lv_if_lt (tgt := 94) hx hb dX0_putCopies_15 (by decide) (fun c => absurd c hc2) (fun _ => ?_)
        refine lv_aload_n hx hb dX0_putCopies_18 rfl (lv_at hl 0 rfl) ?_
        refine va_get (D := (dC, dI)) (ci := 8) (v := .ref (p0a 1)) (C := RX0) (T := TX0) (N := 17) hx hb hts i_X0 hown hK hP 0 rfl rfl 0 (by decide) (hts _ qw618) (fun _ h9 => h9) rfl dX0_putCopies_19 ?_
        refine lv_iload hx hb dX0_putCopies_22 (lv_at hl 3 rfl) ?_
        refine lv_iload_n hx hb dX0_putCopies_24 rfl (lv_at hl 1 rfl) ?_
        obtain ⟨o_3, hc_3, hrun⟩ := bnd9 hrun
        have hPc := hP.sub (ws' := (oX1 (p0a 1) p0_0a p0_0k p0_0n p0_0w p0_0l)) [9, 10, 11, 12, 13, 14, 15, 16, 17, 18, 19, 20, 21, 22, 23, 24, 25, 26] rfl
        have hDc := hD.sub (ws' := (oX1 (p0a 1) p0_0a p0_0k p0_0n p0_0w p0_0l)) [9, 10, 11, 12, 13, 14, 15, 16, 17, 18, 19, 20, 21, 22, 23, 24, 25, 26] (by decide) rfl
        have hKc := hK.sub (tys' := (tX1 p0_0k)) [8, 9, 10, 11, 12, 13, 14, 15, 16, 17, 18, 19, 20, 21, 22, 23, 24] rfl
        have hFc := va_free (wc := (oX1 (p0a 1) p0_0a p0_0k p0_0n p0_0w p0_0l)) hD hS hA [9, 10, 11, 12, 13, 14, 15, 16, 17, 18, 19, 20, 21, 22, 23, 24, 25, 26] rfl
        refine va_calli (va_runV (As := [.int v4_13, .int p2]) (rest := []) ⟨hx, hb, hml, hown, hts⟩ (kX1_take l dC dI (p0a := (st0 (p0a 1) p0_0a)) (p0k := p0_0k) (p0n := p0_0n) (p0w := p0_0w) (p0l := p0_0l) (p1 := v4_13) (p2 := p2) (sz := _) (o := o_3) (hrun := hc_3)) (cwV 2 hts (gi_V qw646 qw470 qw471 qw126 (gi_z qw468)) rfl rfl rfl (by decide +kernel) ⟨Nat.le_of_ble_eq_true rfl, Nat.le_of_ble_eq_true rfl⟩) ⟨PRE.blind, va_recv hKc hPc (ci := 4) (q0 := 0) rfl rfl, PRE.of hE hS hFc hPc hKc hDc⟩ rfl rfl hl.1 rfl (lv_room (Nat.le_of_ble_eq_true rfl)) dX0_putCopies_25 ⟨(show (gcX9 p0_0_2n p0_0_2n) + 0 ≤ (gcX9 p0_0_2n (o.2.2.2)) from by have q0 := gmX9 hg_p0_0_2 hgn_p0_0_2; omega), (show (3 * (gcX9 p0_0_2n p0_0_2n)) + 0 ≤ (3 * (gcX9 p0_0_2n (o.2.2.2))) from by have q0 := gmX9 hg_p0_0_2 hgn_p0_0_2; omega)⟩) hS (fun q _ h => hFc q h) hFc (fun r4 u t H locs ht hvm hw hB hz1 hk1 hS => ?_)
        obtain ⟨hP, hD, hK⟩ := JOIN (wr := ((oX0 (p0a 0) p0a p0k p0n p0w_13) ++ (oX9 (p0_0a 3) p0_0_2a p0_0_2k p0_0_2n p0_0_2w))) hP hD hK [9, 10, 11, 12, 13, 14, 15, 16, 17, 18, 19, 20, 21, 22, 23, 24, 25, 26] [0, 1, 2, 3, 4, 5, 6, 7, 8, 27, 28, 29, 30, 31, 32] [0, 1, 2, 3, 4, 5, 6, 7, 25, 26, 27, 28, 29] rfl rfl (by decide) (by decide) rfl hk1 hFc ht hvm hB
        have hP : va_P (dC, dI) cls ((oX0 (p0a 0) p0a p0k p0n p0w_13) ++ (oX1 (p0a 1) p0_0a p0_0k p0_0n p0_0w p0_0l) ++ (oX9 (p0_0a 3) p0_0_2a p0_0_2k p0_0_2n p0_0_2w)) H := hP.sub [0, 1, 2, 3, 4, 5, 6, 7, 8, 15, 16, 17, 18, 19, 20, 21, 22, 23, 24, 25, 26, 27, 28, 29, 30, 31, 32, 9, 10, 11, 12, 13, 14] rfl
        have hD : va_D A ((oX0 (p0a 0) p0a p0k p0n p0w_13) ++ (oX1 (p0a 1) p0_0a p0_0k p0_0n p0_0w p0_0l) ++ (oX9 (p0_0a 3) p0_0_2a p0_0_2k p0_0_2n p0_0_2w)) := hD.sub [0, 1, 2, 3, 4, 5, 6, 7, 8, 15, 16, 17, 18, 19, 20, 21, 22, 23, 24, 25, 26, 27, 28, 29, 30, 31, 32, 9, 10, 11, 12, 13, 14] (by decide) rfl
        have hK : va_K (dC, dI) cls ((tX0 p0k) ++ (tX1 p0_0k) ++ (tX9 p0_0_2k)) s := hK.sub [0, 1, 2, 3, 4, 5, 6, 7, 13, 14, 15, 16, 17, 18, 19, 20, 21, 22, 23, 24, 25, 26, 27, 28, 29, 8, 9, 10, 11, 12] rfl
        obtain rfl : o_3 = r4 := hw.symm
        refine lv_istore (lv' := [(5, .int o_3), (0, .ref (p0a 0)), (2, .int p2), (3, .int v3_13), (4, .int v4_13)]) hx hb dX0_putCopies_28 hl (by decide) rfl (fun ls hl => ?_)
        refine lv_iload hx hb dX0_putCopies_30 (lv_at hl 0 rfl) ?_
        refine lv_aload_n hx hb dX0_putCopies_32 rfl (lv_at hl 1 rfl) ?_
        refine va_get (D := (dC, dI)) (ci := 8) (v := .ref (p0a 1)) (C := RX0) (T := TX0) (N := 17) hx hb hts i_X0 hown hK hP 0 rfl rfl 0 (by decide) (hts _ qw618) (fun _ h9 => h9) rfl dX0_putCopies_33 ?_
        refine va_get (D := (dC, dI)) (ci := 4) (v := .ref (p0_0a 19)) (C := RX1) (T := TX1) (N := 21) hx hb hts i_X1 hown hK hP 9 rfl rfl 18 (by decide) (hts _ qw647) (fun _ h9 => h9) rfl dX0_putCopies_36 ?_
        refine lv_iload hx hb dX0_putCopies_39 (lv_at hl 4 rfl) ?_
        obtain ⟨hq5, hrun⟩ := chk9 hrun
        refine va_iald hx hb hK hP 24 22 rfl rfl (ixb_in hq5) dX0_putCopies_41 ?_
        have J79 : ∀ (v3_79 : Int32) (p0w_79 : ST) (H : Heap) (locs : List Loc) (ls : Array Slot), (fX0_putCopies_J79 (fX0_putCopies_L13 p2 p0_0n p0_0w n_13) p0_0n p0_0w v4_13 v3_79 p0w_79) = some o13 → va_P (dC, dI) cls ((oX0 (p0a 0) p0a p0k p0n p0w_79) ++ (oX1 (p0a 1) p0_0a p0_0k p0_0n p0_0w p0_0l) ++ (oX9 (p0_0a 3) p0_0_2a p0_0_2k p0_0_2n p0_0_2w)) H → va_D A ((oX0 (p0a 0) p0a p0k p0n p0w_79) ++ (oX1 (p0a 1) p0_0a p0_0k p0_0n p0_0w p0_0l) ++ (oX9 (p0_0a 3) p0_0_2a p0_0_2k p0_0_2n p0_0_2w)) → va_K (dC, dI) cls ((tX0 p0k) ++ (tX1 p0_0k) ++ (tX9 p0_0_2k)) s → va_S A s.heap H locs → lv_has ls 7 [(0, .ref (p0a 0)), (2, .int p2), (3, .int v3_79), (4, .int v4_13)] → glX9 p0_0_2n p0_0_2n → W p l e ({ frames := 5, cells := (gcX9 p0_0_2n (o.2.2.2)), slots := (3 * (gcX9 p0_0_2n (o.2.2.2))), locals := 137 } : Room) s m ([.ref (p0a 0), .int p1, .int p2] : List Value).toArray below meth c H locs (gcX9 p0_0_2n p0_0_2n) (3 * (gcX9 p0_0_2n p0_0_2n)) Q (F0 m 79 ls []) := by
          intro v3_79 p0w_79 H locs ls hrun hP hD hK hS hl hg_p0_0_2 
          unfold fX0_putCopies_J79 at hrun
          refine lv_aload_n hx hb dX0_putCopies_79 rfl (lv_at hl 0 rfl) ?_
          refine va_get (D := (dC, dI)) (ci := 8) (v := .ref (p0a 1)) (C := RX0) (T := TX0) (N := 17) hx hb hts i_X0 hown hK hP 0 rfl rfl 0 (by decide) (hts _ qw618) (fun _ h9 => h9) rfl dX0_putCopies_80 ?_
          refine va_get (D := (dC, dI)) (ci := 4) (v := .ref (p0_0a 20)) (C := RX1) (T := TX1) (N := 21) hx hb hts i_X1 hown hK hP 9 rfl rfl 19 (by decide) (hts _ qw648) (fun _ h9 => h9) rfl dX0_putCopies_83 ?_
          refine lv_iload hx hb dX0_putCopies_86 (lv_at hl 3 rfl) ?_
          obtain ⟨hq6, hrun⟩ := chk9 hrun
          refine va_iald hx hb hK hP 25 23 rfl rfl (ixb_in hq6) dX0_putCopies_88 ?_
          refine lv_istore (lv' := [(4, .int (p0_0w 20 (nn v4_13))), (0, .ref (p0a 0)), (2, .int p2), (3, .int v3_79)]) hx hb dX0_putCopies_89 hl (by decide) rfl (fun ls hl => ?_)
          refine lv_goto (tgt := 13) hx hb dX0_putCopies_91 (by decide) ?_
          exact IH13 v3_79 (p0_0w 20 (nn v4_13)) p0w_79 o13 _ _ _ hrun hP hD hK hS (lv_sub hl [1, 2, 3, 0] rfl) hg_p0_0_2 hk13
        rcases br9 hrun with ⟨hc7, hrun⟩ | ⟨hc7, hrun⟩
        · refine lv_icmp_eq (tgt := 79) hx hb dX0_putCopies_42 (by decide) (fun _ => ?_) (fun c => absurd hc7 c)
          exact J79 v3_13 p0w_13 _ _ _ hrun hP hD hK hS (lv_sub hl [1, 2, 3, 4] rfl) hg_p0_0_2
        · refine lv_icmp_eq (tgt := 79) hx hb dX0_putCopies_42 (by decide) (fun c => absurd c hc7) (fun _ => ?_)
          refine lv_iload_n hx hb dX0_putCopies_45 rfl (lv_at hl 3 rfl) ?_
          refine lv_sipush (v := 250) hx hb dX0_putCopies_46 (by decide) ?_
          rcases br9 hrun with ⟨hc8, hrun⟩ | ⟨hc8, hrun⟩
          · refine lv_icmp_ge (tgt := 79) hx hb dX0_putCopies_49 (by decide) (fun _ => ?_) (fun c => absurd hc8 c)
            exact J79 v3_13 p0w_13 _ _ _ hrun hP hD hK hS (lv_sub hl [1, 2, 3, 4] rfl) hg_p0_0_2
          · refine lv_icmp_ge (tgt := 79) hx hb dX0_putCopies_49 (by decide) (fun c => absurd c hc8) (fun _ => ?_)
            refine lv_aload_n hx hb dX0_putCopies_52 rfl (lv_at hl 1 rfl) ?_
            refine va_get (D := (dC, dI)) (ci := 8) (v := .ref (p0a 15)) (C := RX0) (T := TX0) (N := 17) hx hb hts i_X0 hown hK hP 0 rfl rfl 14 (by decide) (hts _ qw634) (fun _ h9 => h9) rfl dX0_putCopies_53 ?_
            refine lv_iload_n hx hb dX0_putCopies_56 rfl (lv_at hl 3 rfl) ?_
            refine lv_aload_n hx hb dX0_putCopies_57 rfl (lv_at hl 1 rfl) ?_
            refine va_get (D := (dC, dI)) (ci := 8) (v := .ref (p0a 1)) (C := RX0) (T := TX0) (N := 17) hx hb hts i_X0 hown hK hP 0 rfl rfl 0 (by decide) (hts _ qw618) (fun _ h9 => h9) rfl dX0_putCopies_58 ?_
            refine va_get (D := (dC, dI)) (ci := 4) (v := .ref (p0_0a 19)) (C := RX1) (T := TX1) (N := 21) hx hb hts i_X1 hown hK hP 9 rfl rfl 18 (by decide) (hts _ qw647) (fun _ h9 => h9) rfl dX0_putCopies_61 ?_
            refine lv_iload hx hb dX0_putCopies_64 (lv_at hl 4 rfl) ?_
            obtain ⟨hq9, hrun⟩ := chk9 hrun
            refine va_iald hx hb hK hP 24 22 rfl rfl (ixb_in hq9) dX0_putCopies_66 ?_
            obtain ⟨hq10, hrun⟩ := chk9 hrun
            refine va_iast hx hb hK hP hD hS 6 5 rfl rfl (ixb_in hq10) dX0_putCopies_67 (fun H locs hP hD hS => ?_)
            have hP : va_P (dC, dI) cls ((oX0 (p0a 0) p0a p0k p0n (upw p0w_13 15 (nn v3_13) (p0_0w 19 (nn v4_13)))) ++ (oX1 (p0a 1) p0_0a p0_0k p0_0n p0_0w p0_0l) ++ (oX9 (p0_0a 3) p0_0_2a p0_0_2k p0_0_2n p0_0_2w)) H := hP
            have hD : va_D A ((oX0 (p0a 0) p0a p0k p0n (upw p0w_13 15 (nn v3_13) (p0_0w 19 (nn v4_13)))) ++ (oX1 (p0a 1) p0_0a p0_0k p0_0n p0_0w p0_0l) ++ (oX9 (p0_0a 3) p0_0_2a p0_0_2k p0_0_2n p0_0_2w)) := hD
            obtain ⟨w11, ew11, hrun⟩ := let9 hrun
            rw [← ew11] at hP hD
            refine lv_aload_n hx hb dX0_putCopies_68 rfl (lv_at hl 1 rfl) ?_
            refine va_get (D := (dC, dI)) (ci := 8) (v := .ref (p0a 16)) (C := RX0) (T := TX0) (N := 17) hx hb hts i_X0 hown hK hP 0 rfl rfl 15 (by decide) (hts _ qw633) (fun _ h9 => h9) rfl dX0_putCopies_69 ?_
            refine lv_iload_n hx hb dX0_putCopies_72 rfl (lv_at hl 3 rfl) ?_
            refine lv_iload hx hb dX0_putCopies_73 (lv_at hl 0 rfl) ?_
            obtain ⟨hq12, hrun⟩ := chk9 hrun
            refine va_iast hx hb hK hP hD hS 7 6 rfl rfl (ixb_in hq12) dX0_putCopies_75 (fun H locs hP hD hS => ?_)
            have hP : va_P (dC, dI) cls ((oX0 (p0a 0) p0a p0k p0n (upw w11 16 (nn v3_13) o_3)) ++ (oX1 (p0a 1) p0_0a p0_0k p0_0n p0_0w p0_0l) ++ (oX9 (p0_0a 3) p0_0_2a p0_0_2k p0_0_2n p0_0_2w)) H := hP
            have hD : va_D A ((oX0 (p0a 0) p0a p0k p0n (upw w11 16 (nn v3_13) o_3)) ++ (oX1 (p0a 1) p0_0a p0_0k p0_0n p0_0w p0_0l) ++ (oX9 (p0_0a 3) p0_0_2a p0_0_2k p0_0_2n p0_0_2w)) := hD
            obtain ⟨w13, ew13, hrun⟩ := let9 hrun
            rw [← ew13] at hP hD
            refine lv_iinc (v := (v3_13 + 1)) (lv' := [(3, .int (v3_13 + 1)), (5, .int o_3), (0, .ref (p0a 0)), (2, .int p2), (4, .int v4_13)]) hx hb dX0_putCopies_76 hl (k := 3) rfl rfl (by decide) rfl (fun ls hl => ?_)
            exact J79 (v3_13 + 1) w13 _ _ _ hrun hP hD hK hS (lv_sub hl [2, 3, 0, 4] rfl) hg_p0_0_2
  obtain ⟨o13, hc13, hrun⟩ := bnd9 hrun
  refine L13 NF 0 (p0_0w 6 (nn p1)) p0w o13 _ _ _ hc13 hP hD hK hS (lv_sub hl [2, 4, 1, 0] rfl) hg_p0_0_2 ?_
  intro H locs ls hP hD hK hS hl hg_p0_0_2
  have hl := hl
  refine lv_iconst (v := 0) hx hb dX0_putCopies_94 (by decide) ?_
  refine lv_istore (lv' := [(4, .int 0), (0, .ref (p0a 0)), (2, .int p2), (3, .int (o13.1))]) hx hb dX0_putCopies_95 hl (by decide) rfl (fun ls hl => ?_)
  obtain ⟨o97, hc97, hrun⟩ := bnd9 hrun
  have hgn_p0_0_2 : glX9 (o97.2.2.2) (o.2.2.2) := (mo_fX0_putCopies_G213_53 hrun)
  have L97 : ∀ (n_97 : Nat) (v3_97 : Int32) (v4_97 : Int32) (p0w_97 : ST) (p0_0w_97 : ST) (p0_0_2w_97 : ST) (p0_0_2n_97 : Nat → Nat) (xp0_0_2_1_97 : Nat) (zp0_0_2_1_97 : ClassId) (xp0_0_2_2_97 : Nat) (zp0_0_2_2_97 : ClassId) (xp0_0_2_3_97 : Nat) (zp0_0_2_3_97 : ClassId) (xp0_0_2_4_97 : Nat) (zp0_0_2_4_97 : ClassId) (xp0_0_2_5_97 : Nat) (zp0_0_2_5_97 : ClassId) (o97 : ST × ST × ST × (Nat → Nat)) (H : Heap) (locs : List Loc) (ls : Array Slot), (fX0_putCopies_L97 p2 n_97) v3_97 v4_97 p0w_97 p0_0w_97 p0_0_2w_97 p0_0_2n_97 = some o97 → va_P (dC, dI) cls ((oX0 (p0a 0) p0a p0k p0n p0w_97) ++ (oX1 (p0a 1) p0_0a p0_0k p0_0n p0_0w_97 p0_0l) ++ (oX9 (p0_0a 3) (st1 (st1 (st1 (st1 (st1 p0_0_2a 2 xp0_0_2_1_97) 3 xp0_0_2_2_97) 4 xp0_0_2_3_97) 5 xp0_0_2_4_97) 6 xp0_0_2_5_97) (st1 (st1 (st1 (st1 (st1 p0_0_2k 2 zp0_0_2_1_97) 3 zp0_0_2_2_97) 4 zp0_0_2_3_97) 5 zp0_0_2_4_97) 6 zp0_0_2_5_97) p0_0_2n_97 p0_0_2w_97)) H → va_D A ((oX0 (p0a 0) p0a p0k p0n p0w_97) ++ (oX1 (p0a 1) p0_0a p0_0k p0_0n p0_0w_97 p0_0l) ++ (oX9 (p0_0a 3) (st1 (st1 (st1 (st1 (st1 p0_0_2a 2 xp0_0_2_1_97) 3 xp0_0_2_2_97) 4 xp0_0_2_3_97) 5 xp0_0_2_4_97) 6 xp0_0_2_5_97) (st1 (st1 (st1 (st1 (st1 p0_0_2k 2 zp0_0_2_1_97) 3 zp0_0_2_2_97) 4 zp0_0_2_3_97) 5 zp0_0_2_4_97) 6 zp0_0_2_5_97) p0_0_2n_97 p0_0_2w_97)) → va_K (dC, dI) cls ((tX0 p0k) ++ (tX1 p0_0k) ++ (tX9 (st1 (st1 (st1 (st1 (st1 p0_0_2k 2 zp0_0_2_1_97) 3 zp0_0_2_2_97) 4 zp0_0_2_3_97) 5 zp0_0_2_4_97) 6 zp0_0_2_5_97))) s → va_S A s.heap H locs → lv_has ls 7 [(0, .ref (p0a 0)), (2, .int p2), (3, .int v3_97), (4, .int v4_97)] → glX9 p0_0_2n p0_0_2n_97 → glX9 (o97.2.2.2) (o.2.2.2) → (∀ (xp0_0_2_1_97x : Nat) (zp0_0_2_1_97x : ClassId) (xp0_0_2_2_97x : Nat) (zp0_0_2_2_97x : ClassId) (xp0_0_2_3_97x : Nat) (zp0_0_2_3_97x : ClassId) (xp0_0_2_4_97x : Nat) (zp0_0_2_4_97x : ClassId) (xp0_0_2_5_97x : Nat) (zp0_0_2_5_97x : ClassId) (H : Heap) (locs : List Loc) (ls : Array Slot), va_P (dC, dI) cls ((oX0 (p0a 0) p0a p0k p0n (o97.1)) ++ (oX1 (p0a 1) p0_0a p0_0k p0_0n (o97.2.1) p0_0l) ++ (oX9 (p0_0a 3) (st1 (st1 (st1 (st1 (st1 p0_0_2a 2 xp0_0_2_1_97x) 3 xp0_0_2_2_97x) 4 xp0_0_2_3_97x) 5 xp0_0_2_4_97x) 6 xp0_0_2_5_97x) (st1 (st1 (st1 (st1 (st1 p0_0_2k 2 zp0_0_2_1_97x) 3 zp0_0_2_2_97x) 4 zp0_0_2_3_97x) 5 zp0_0_2_4_97x) 6 zp0_0_2_5_97x) (o97.2.2.2) (o97.2.2.1))) H → va_D A ((oX0 (p0a 0) p0a p0k p0n (o97.1)) ++ (oX1 (p0a 1) p0_0a p0_0k p0_0n (o97.2.1) p0_0l) ++ (oX9 (p0_0a 3) (st1 (st1 (st1 (st1 (st1 p0_0_2a 2 xp0_0_2_1_97x) 3 xp0_0_2_2_97x) 4 xp0_0_2_3_97x) 5 xp0_0_2_4_97x) 6 xp0_0_2_5_97x) (st1 (st1 (st1 (st1 (st1 p0_0_2k 2 zp0_0_2_1_97x) 3 zp0_0_2_2_97x) 4 zp0_0_2_3_97x) 5 zp0_0_2_4_97x) 6 zp0_0_2_5_97x) (o97.2.2.2) (o97.2.2.1))) → va_K (dC, dI) cls ((tX0 p0k) ++ (tX1 p0_0k) ++ (tX9 (st1 (st1 (st1 (st1 (st1 p0_0_2k 2 zp0_0_2_1_97x) 3 zp0_0_2_2_97x) 4 zp0_0_2_3_97x) 5 zp0_0_2_4_97x) 6 zp0_0_2_5_97x))) s → va_S A s.heap H locs → lv_has ls 7 [] → glX9 p0_0_2n (o97.2.2.2) → W p l e ({ frames := 5, cells := (gcX9 p0_0_2n (o.2.2.2)), slots := (3 * (gcX9 p0_0_2n (o.2.2.2))), locals := 137 } : Room) s m ([.ref (p0a 0), .int p1, .int p2] : List Value).toArray below meth c H locs (gcX9 p0_0_2n (o97.2.2.2)) (3 * (gcX9 p0_0_2n (o97.2.2.2))) Q (F0 m 213 ls [])) → W p l e ({ frames := 5, cells := (gcX9 p0_0_2n (o.2.2.2)), slots := (3 * (gcX9 p0_0_2n (o.2.2.2))), locals := 137 } : Room) s m ([.ref (p0a 0), .int p1, .int p2] : List Value).toArray below meth c H locs (gcX9 p0_0_2n p0_0_2n_97) (3 * (gcX9 p0_0_2n p0_0_2n_97)) Q (F0 m 97 ls []) := by
    intro n_97
    induction n_97 with
    | zero => intro v3_97 v4_97 p0w_97 p0_0w_97 p0_0_2w_97 p0_0_2n_97 xp0_0_2_1_97 zp0_0_2_1_97 xp0_0_2_2_97 zp0_0_2_2_97 xp0_0_2_3_97 zp0_0_2_3_97 xp0_0_2_4_97 zp0_0_2_4_97 xp0_0_2_5_97 zp0_0_2_5_97 o97 H locs ls hrun; exact (no9 rfl hrun).elim
    | succ n_97 IH97 =>
      intro v3_97 v4_97 p0w_97 p0_0w_97 p0_0_2w_97 p0_0_2n_97 xp0_0_2_1_97 zp0_0_2_1_97 xp0_0_2_2_97 zp0_0_2_2_97 xp0_0_2_3_97 zp0_0_2_3_97 xp0_0_2_4_97 zp0_0_2_4_97 xp0_0_2_5_97 zp0_0_2_5_97 o97 H locs ls hrun hP hD hK hS hl hg_p0_0_2 hgo_p0_0_2 hk97
      have hgn_p0_0_2 : glX9 p0_0_2n_97 (o.2.2.2) := (glX9_tr (mo_fX0_putCopies_L97 (n_97 + 1) _ _ _ _ _ _ _ hrun) hgo_p0_0_2)
      unfold fX0_putCopies_L97 at hrun
      refine lv_iload_n hx hb dX0_putCopies_97 rfl (lv_at hl 2 rfl) ?_
      rcases br9 hrun with ⟨hc14, hrun⟩ | ⟨hc14, hrun⟩
      · refine lv_if_le (tgt := 213) hx hb dX0_putCopies_98 (by decide) (fun _ => ?_) (fun c => absurd hc14 c)
        obtain rfl := (Option.some.inj hrun)
        exact hk97 xp0_0_2_1_97 zp0_0_2_1_97 xp0_0_2_2_97 zp0_0_2_2_97 xp0_0_2_3_97 zp0_0_2_3_97 xp0_0_2_4_97 zp0_0_2_4_97 xp0_0_2_5_97 zp0_0_2_5_97 _ _ _ hP hD hK hS (lv_sub hl [] rfl) hg_p0_0_2
      · refine lv_if_le (tgt := 213) hx hb dX0_putCopies_98 (by decide) (fun c => absurd c hc14) (fun _ => ?_)
        refine lv_iload hx hb dX0_putCopies_101 (lv_at hl 3 rfl) ?_
        refine lv_sipush (v := 500) hx hb dX0_putCopies_103 (by decide) ?_
        rcases br9 hrun with ⟨hc15, hrun⟩ | ⟨hc15, hrun⟩
        · refine lv_icmp_ge (tgt := 213) hx hb dX0_putCopies_106 (by decide) (fun _ => ?_) (fun c => absurd hc15 c)
          obtain rfl := (Option.some.inj hrun)
          exact hk97 xp0_0_2_1_97 zp0_0_2_1_97 xp0_0_2_2_97 zp0_0_2_2_97 xp0_0_2_3_97 zp0_0_2_3_97 xp0_0_2_4_97 zp0_0_2_4_97 xp0_0_2_5_97 zp0_0_2_5_97 _ _ _ hP hD hK hS (lv_sub hl [] rfl) hg_p0_0_2
        · refine lv_icmp_ge (tgt := 213) hx hb dX0_putCopies_106 (by decide) (fun c => absurd c hc15) (fun _ => ?_)
          refine lv_aload_n hx hb dX0_putCopies_109 rfl (lv_at hl 0 rfl) ?_
          refine lv_iload_n hx hb dX0_putCopies_110 rfl (lv_at hl 2 rfl) ?_
          obtain ⟨o_16, hc_16, hrun⟩ := bnd9 hrun
          have hPc := hP.sub (ws' := (oX0 (p0a 0) p0a p0k p0n p0w_97)) [0, 1, 2, 3, 4, 5, 6, 7, 8] rfl
          have hDc := hD.sub (ws' := (oX0 (p0a 0) p0a p0k p0n p0w_97)) [0, 1, 2, 3, 4, 5, 6, 7, 8] (by decide) rfl
          have hKc := hK.sub (tys' := (tX0 p0k)) [0, 1, 2, 3, 4, 5, 6, 7] rfl
          have hFc := va_free (wc := (oX0 (p0a 0) p0a p0k p0n p0w_97)) hD hS hA [0, 1, 2, 3, 4, 5, 6, 7, 8] rfl
          refine va_calli (va_runV (As := [.int v3_97]) (rest := []) ⟨hx, hb, hml, hown, hts⟩ (kX0_firstFree l dC dI (p0a := (st0 (p0a 0) p0a)) (p0k := p0k) (p0n := p0n) (p0w := p0w_97) (p1 := v3_97) (sz := _) (o := o_16) (hrun := hc_16)) (cwV 1 hts (gi_V qw650 qw651 qw652 qw653 (gi_z qw649)) rfl rfl rfl (by decide +kernel) ⟨Nat.le_of_ble_eq_true rfl, Nat.le_of_ble_eq_true rfl⟩) ⟨PRE.blind, va_recv hKc hPc (ci := 8) (q0 := 0) rfl rfl, PRE.of hE hS hFc hPc hKc hDc⟩ rfl rfl hl.1 rfl (lv_room (Nat.le_of_ble_eq_true rfl)) dX0_putCopies_111 ⟨(show (gcX9 p0_0_2n p0_0_2n_97) + 0 ≤ (gcX9 p0_0_2n (o.2.2.2)) from by have q0 := gmX9 hg_p0_0_2 hgn_p0_0_2; omega), (show (3 * (gcX9 p0_0_2n p0_0_2n_97)) + 0 ≤ (3 * (gcX9 p0_0_2n (o.2.2.2))) from by have q0 := gmX9 hg_p0_0_2 hgn_p0_0_2; omega)⟩) hS (fun q _ h => hFc q h) hFc (fun r17 u t H locs ht hvm hw hB hz1 hk1 hS => ?_)
          obtain ⟨hP, hD, hK⟩ := JOIN (wr := ((oX1 (p0a 1) p0_0a p0_0k p0_0n p0_0w_97 p0_0l) ++ (oX9 (p0_0a 3) (st1 (st1 (st1 (st1 (st1 p0_0_2a 2 xp0_0_2_1_97) 3 xp0_0_2_2_97) 4 xp0_0_2_3_97) 5 xp0_0_2_4_97) 6 xp0_0_2_5_97) (st1 (st1 (st1 (st1 (st1 p0_0_2k 2 zp0_0_2_1_97) 3 zp0_0_2_2_97) 4 zp0_0_2_3_97) 5 zp0_0_2_4_97) 6 zp0_0_2_5_97) p0_0_2n_97 p0_0_2w_97))) hP hD hK [0, 1, 2, 3, 4, 5, 6, 7, 8] [9, 10, 11, 12, 13, 14, 15, 16, 17, 18, 19, 20, 21, 22, 23, 24, 25, 26, 27, 28, 29, 30, 31, 32] [8, 9, 10, 11, 12, 13, 14, 15, 16, 17, 18, 19, 20, 21, 22, 23, 24, 25, 26, 27, 28, 29] rfl rfl (by decide) (by decide) rfl hk1 hFc ht hvm hB
          have hP : va_P (dC, dI) cls ((oX0 (p0a 0) p0a p0k p0n p0w_97) ++ (oX1 (p0a 1) p0_0a p0_0k p0_0n p0_0w_97 p0_0l) ++ (oX9 (p0_0a 3) (st1 (st1 (st1 (st1 (st1 p0_0_2a 2 xp0_0_2_1_97) 3 xp0_0_2_2_97) 4 xp0_0_2_3_97) 5 xp0_0_2_4_97) 6 xp0_0_2_5_97) (st1 (st1 (st1 (st1 (st1 p0_0_2k 2 zp0_0_2_1_97) 3 zp0_0_2_2_97) 4 zp0_0_2_3_97) 5 zp0_0_2_4_97) 6 zp0_0_2_5_97) p0_0_2n_97 p0_0_2w_97)) H := hP.sub [24, 25, 26, 27, 28, 29, 30, 31, 32, 0, 1, 2, 3, 4, 5, 6, 7, 8, 9, 10, 11, 12, 13, 14, 15, 16, 17, 18, 19, 20, 21, 22, 23] rfl
          have hD : va_D A ((oX0 (p0a 0) p0a p0k p0n p0w_97) ++ (oX1 (p0a 1) p0_0a p0_0k p0_0n p0_0w_97 p0_0l) ++ (oX9 (p0_0a 3) (st1 (st1 (st1 (st1 (st1 p0_0_2a 2 xp0_0_2_1_97) 3 xp0_0_2_2_97) 4 xp0_0_2_3_97) 5 xp0_0_2_4_97) 6 xp0_0_2_5_97) (st1 (st1 (st1 (st1 (st1 p0_0_2k 2 zp0_0_2_1_97) 3 zp0_0_2_2_97) 4 zp0_0_2_3_97) 5 zp0_0_2_4_97) 6 zp0_0_2_5_97) p0_0_2n_97 p0_0_2w_97)) := hD.sub [24, 25, 26, 27, 28, 29, 30, 31, 32, 0, 1, 2, 3, 4, 5, 6, 7, 8, 9, 10, 11, 12, 13, 14, 15, 16, 17, 18, 19, 20, 21, 22, 23] (by decide) rfl
          have hK : va_K (dC, dI) cls ((tX0 p0k) ++ (tX1 p0_0k) ++ (tX9 (st1 (st1 (st1 (st1 (st1 p0_0_2k 2 zp0_0_2_1_97) 3 zp0_0_2_2_97) 4 zp0_0_2_3_97) 5 zp0_0_2_4_97) 6 zp0_0_2_5_97))) s := hK.sub [22, 23, 24, 25, 26, 27, 28, 29, 0, 1, 2, 3, 4, 5, 6, 7, 8, 9, 10, 11, 12, 13, 14, 15, 16, 17, 18, 19, 20, 21] rfl
          obtain rfl : o_16 = r17 := hw.symm
          refine lv_istore (lv' := [(5, .int o_16), (0, .ref (p0a 0)), (2, .int p2), (3, .int v3_97), (4, .int v4_97)]) hx hb dX0_putCopies_114 hl (by decide) rfl (fun ls hl => ?_)
          refine lv_iload hx hb dX0_putCopies_116 (lv_at hl 0 rfl) ?_
          have J207 : ∀ (v3_207 : Int32) (p0w_207 : ST) (p0_0w_207 : ST) (p0_0_2w_207 : ST) (p0_0_2n_207 : Nat → Nat) (xp0_0_2_1_207 : Nat) (zp0_0_2_1_207 : ClassId) (xp0_0_2_2_207 : Nat) (zp0_0_2_2_207 : ClassId) (xp0_0_2_3_207 : Nat) (zp0_0_2_3_207 : ClassId) (xp0_0_2_4_207 : Nat) (zp0_0_2_4_207 : ClassId) (xp0_0_2_5_207 : Nat) (zp0_0_2_5_207 : ClassId) (H : Heap) (locs : List Loc) (ls : Array Slot), (fX0_putCopies_J207 (fX0_putCopies_L97 p2 n_97) v4_97 v3_207 p0w_207 p0_0w_207 p0_0_2w_207 p0_0_2n_207) = some o97 → va_P (dC, dI) cls ((oX0 (p0a 0) p0a p0k p0n p0w_207) ++ (oX1 (p0a 1) p0_0a p0_0k p0_0n p0_0w_207 p0_0l) ++ (oX9 (p0_0a 3) (st1 (st1 (st1 (st1 (st1 p0_0_2a 2 xp0_0_2_1_207) 3 xp0_0_2_2_207) 4 xp0_0_2_3_207) 5 xp0_0_2_4_207) 6 xp0_0_2_5_207) (st1 (st1 (st1 (st1 (st1 p0_0_2k 2 zp0_0_2_1_207) 3 zp0_0_2_2_207) 4 zp0_0_2_3_207) 5 zp0_0_2_4_207) 6 zp0_0_2_5_207) p0_0_2n_207 p0_0_2w_207)) H → va_D A ((oX0 (p0a 0) p0a p0k p0n p0w_207) ++ (oX1 (p0a 1) p0_0a p0_0k p0_0n p0_0w_207 p0_0l) ++ (oX9 (p0_0a 3) (st1 (st1 (st1 (st1 (st1 p0_0_2a 2 xp0_0_2_1_207) 3 xp0_0_2_2_207) 4 xp0_0_2_3_207) 5 xp0_0_2_4_207) 6 xp0_0_2_5_207) (st1 (st1 (st1 (st1 (st1 p0_0_2k 2 zp0_0_2_1_207) 3 zp0_0_2_2_207) 4 zp0_0_2_3_207) 5 zp0_0_2_4_207) 6 zp0_0_2_5_207) p0_0_2n_207 p0_0_2w_207)) → va_K (dC, dI) cls ((tX0 p0k) ++ (tX1 p0_0k) ++ (tX9 (st1 (st1 (st1 (st1 (st1 p0_0_2k 2 zp0_0_2_1_207) 3 zp0_0_2_2_207) 4 zp0_0_2_3_207) 5 zp0_0_2_4_207) 6 zp0_0_2_5_207))) s → va_S A s.heap H locs → lv_has ls 7 [(0, .ref (p0a 0)), (2, .int p2), (3, .int v3_207), (4, .int v4_97)] → glX9 p0_0_2n p0_0_2n_207 → W p l e ({ frames := 5, cells := (gcX9 p0_0_2n (o.2.2.2)), slots := (3 * (gcX9 p0_0_2n (o.2.2.2))), locals := 137 } : Room) s m ([.ref (p0a 0), .int p1, .int p2] : List Value).toArray below meth c H locs (gcX9 p0_0_2n p0_0_2n_207) (3 * (gcX9 p0_0_2n p0_0_2n_207)) Q (F0 m 207 ls []) := by
            intro v3_207 p0w_207 p0_0w_207 p0_0_2w_207 p0_0_2n_207 xp0_0_2_1_207 zp0_0_2_1_207 xp0_0_2_2_207 zp0_0_2_2_207 xp0_0_2_3_207 zp0_0_2_3_207 xp0_0_2_4_207 zp0_0_2_4_207 xp0_0_2_5_207 zp0_0_2_5_207 H locs ls hrun hP hD hK hS hl hg_p0_0_2 
            have hgn_p0_0_2 : glX9 p0_0_2n_207 (o.2.2.2) := (glX9_tr (mo_fX0_putCopies_J207 (mo_fX0_putCopies_L97 n_97) hrun) hgo_p0_0_2)
            unfold fX0_putCopies_J207 at hrun
            refine lv_iinc (v := (v4_97 + 1)) (lv' := [(4, .int (v4_97 + 1)), (0, .ref (p0a 0)), (2, .int p2), (3, .int v3_207)]) hx hb dX0_putCopies_207 hl (k := 3) rfl rfl (by decide) rfl (fun ls hl => ?_)
            refine lv_goto (tgt := 97) hx hb dX0_putCopies_210 (by decide) ?_
            exact IH97 v3_207 (v4_97 + 1) p0w_207 p0_0w_207 p0_0_2w_207 p0_0_2n_207 xp0_0_2_1_207 zp0_0_2_1_207 xp0_0_2_2_207 zp0_0_2_2_207 xp0_0_2_3_207 zp0_0_2_3_207 xp0_0_2_4_207 zp0_0_2_4_207 xp0_0_2_5_207 zp0_0_2_5_207 o97 _ _ _ hrun hP hD hK hS (lv_sub hl [1, 2, 3, 0] rfl) hg_p0_0_2 hgo_p0_0_2 hk97
          rcases br9 hrun with ⟨hc18, hrun⟩ | ⟨hc18, hrun⟩
          · refine lv_if_lt (tgt := 201) hx hb dX0_putCopies_118 (by decide) (fun _ => ?_) (fun c => absurd hc18 c)
            refine lv_aload_n hx hb dX0_putCopies_201 rfl (lv_at hl 1 rfl) ?_
            refine lv_iload_n hx hb dX0_putCopies_202 rfl (lv_at hl 2 rfl) ?_
            refine lv_iload_n hx hb dX0_putCopies_203 rfl (lv_at hl 3 rfl) ?_
            obtain ⟨o_19, hc_19, hrun⟩ := bnd9 hrun
            have hPc := hP.sub (ws' := ((oX0 (p0a 0) p0a p0k p0n p0w_97) ++ (oX1 (p0a 1) p0_0a p0_0k p0_0n p0_0w_97 p0_0l) ++ (oX9 (p0_0a 3) (st1 (st1 (st1 (st1 (st1 p0_0_2a 2 xp0_0_2_1_97) 3 xp0_0_2_2_97) 4 xp0_0_2_3_97) 5 xp0_0_2_4_97) 6 xp0_0_2_5_97) (st1 (st1 (st1 (st1 (st1 p0_0_2k 2 zp0_0_2_1_97) 3 zp0_0_2_2_97) 4 zp0_0_2_3_97) 5 zp0_0_2_4_97) 6 zp0_0_2_5_97) p0_0_2n_97 p0_0_2w_97))) [0, 1, 2, 3, 4, 5, 6, 7, 8, 9, 10, 11, 12, 13, 14, 15, 16, 17, 18, 19, 20, 21, 22, 23, 24, 25, 26, 27, 28, 29, 30, 31, 32] rfl
            have hDc := hD.sub (ws' := ((oX0 (p0a 0) p0a p0k p0n p0w_97) ++ (oX1 (p0a 1) p0_0a p0_0k p0_0n p0_0w_97 p0_0l) ++ (oX9 (p0_0a 3) (st1 (st1 (st1 (st1 (st1 p0_0_2a 2 xp0_0_2_1_97) 3 xp0_0_2_2_97) 4 xp0_0_2_3_97) 5 xp0_0_2_4_97) 6 xp0_0_2_5_97) (st1 (st1 (st1 (st1 (st1 p0_0_2k 2 zp0_0_2_1_97) 3 zp0_0_2_2_97) 4 zp0_0_2_3_97) 5 zp0_0_2_4_97) 6 zp0_0_2_5_97) p0_0_2n_97 p0_0_2w_97))) [0, 1, 2, 3, 4, 5, 6, 7, 8, 9, 10, 11, 12, 13, 14, 15, 16, 17, 18, 19, 20, 21, 22, 23, 24, 25, 26, 27, 28, 29, 30, 31, 32] (by decide) rfl
            have hKc := hK.sub (tys' := ((tX0 p0k) ++ (tX1 p0_0k) ++ (tX9 (st1 (st1 (st1 (st1 (st1 p0_0_2k 2 zp0_0_2_1_97) 3 zp0_0_2_2_97) 4 zp0_0_2_3_97) 5 zp0_0_2_4_97) 6 zp0_0_2_5_97)))) [0, 1, 2, 3, 4, 5, 6, 7, 8, 9, 10, 11, 12, 13, 14, 15, 16, 17, 18, 19, 20, 21, 22, 23, 24, 25, 26, 27, 28, 29] rfl
            have hFc := va_free (wc := ((oX0 (p0a 0) p0a p0k p0n p0w_97) ++ (oX1 (p0a 1) p0_0a p0_0k p0_0n p0_0w_97 p0_0l) ++ (oX9 (p0_0a 3) (st1 (st1 (st1 (st1 (st1 p0_0_2a 2 xp0_0_2_1_97) 3 xp0_0_2_2_97) 4 xp0_0_2_3_97) 5 xp0_0_2_4_97) 6 xp0_0_2_5_97) (st1 (st1 (st1 (st1 (st1 p0_0_2k 2 zp0_0_2_1_97) 3 zp0_0_2_2_97) 4 zp0_0_2_3_97) 5 zp0_0_2_4_97) 6 zp0_0_2_5_97) p0_0_2n_97 p0_0_2w_97))) hD hS hA [0, 1, 2, 3, 4, 5, 6, 7, 8, 9, 10, 11, 12, 13, 14, 15, 16, 17, 18, 19, 20, 21, 22, 23, 24, 25, 26, 27, 28, 29, 30, 31, 32] rfl
            have hgn_p0_0_2 : glX9 (o_19.2.2.2) (o.2.2.2) := (glX9_tr (mo_fX0_putCopies_G207_30 (mo_fX0_putCopies_L97 n_97) hrun) hgo_p0_0_2)
            refine va_callv (va_runV (As := [.int p2, .int v3_97]) (rest := []) ⟨hx, hb, hml, hown, hts⟩ (kX0_saveFirst l dC dI (p0a := (st0 (p0a 0) p0a)) (p0k := p0k) (p0n := p0n) (p0w := p0w_97) (p1 := p2) (p2 := v3_97) (p0_0a := p0_0a) (p0_0k := p0_0k) (p0_0n := p0_0n) (p0_0w := p0_0w_97) (p0_0l := p0_0l) (p0_0_2a := (st1 (st1 (st1 (st1 (st1 p0_0_2a 2 xp0_0_2_1_97) 3 xp0_0_2_2_97) 4 xp0_0_2_3_97) 5 xp0_0_2_4_97) 6 xp0_0_2_5_97)) (p0_0_2k := (st1 (st1 (st1 (st1 (st1 p0_0_2k 2 zp0_0_2_1_97) 3 zp0_0_2_2_97) 4 zp0_0_2_3_97) 5 zp0_0_2_4_97) 6 zp0_0_2_5_97)) (p0_0_2n := p0_0_2n_97) (p0_0_2w := p0_0_2w_97) (sz := _) (o := o_19) (hrun := hc_19)) (cwV 2 hts (gi_V qw655 qw656 qw657 qw653 (gi_z qw654)) rfl rfl rfl (by decide +kernel) ⟨Nat.le_of_ble_eq_true rfl, Nat.le_of_ble_eq_true rfl⟩) ⟨PRE.blind, va_recv hKc hPc (ci := 8) (q0 := 0) rfl rfl, PRE.of hE hS hFc hPc hKc hDc⟩ rfl rfl hl.1 rfl (lv_room (Nat.le_of_ble_eq_true rfl)) dX0_putCopies_204 ⟨(show (gcX9 p0_0_2n p0_0_2n_97) + (gcX9 p0_0_2n_97 (o_19.2.2.2)) ≤ (gcX9 p0_0_2n (o.2.2.2)) from by have q0 := gsX9 hg_p0_0_2 (mo_fX0_saveFirst hc_19) hgn_p0_0_2; omega), (show (3 * (gcX9 p0_0_2n p0_0_2n_97)) + (3 * ((gcX9 p0_0_2n_97 (o_19.2.2.2)))) ≤ (3 * (gcX9 p0_0_2n (o.2.2.2))) from by have q0 := gsX9 hg_p0_0_2 (mo_fX0_saveFirst hc_19) hgn_p0_0_2; omega)⟩) hS (fun q _ h => hFc q h) hFc (fun u t H locs ht hvm hw hB hz1 hk1 hS => ?_)
            obtain ⟨x20, z21, x22, z23, x24, z25, x26, z27, x28, z29, hB⟩ := hB
            obtain ⟨hP, hD, hK⟩ := JOIN (wr := ([] : va_W)) hP hD hK [0, 1, 2, 3, 4, 5, 6, 7, 8, 9, 10, 11, 12, 13, 14, 15, 16, 17, 18, 19, 20, 21, 22, 23, 24, 25, 26, 27, 28, 29, 30, 31, 32] [] [] rfl rfl (by decide) (by decide) rfl hk1 hFc ht hvm hB
            have hP : va_P (dC, dI) cls ((oX0 (p0a 0) p0a p0k p0n (o_19.1)) ++ (oX1 (p0a 1) p0_0a p0_0k p0_0n (o_19.2.1) p0_0l) ++ (oX9 (p0_0a 3) (st1 (st1 (st1 (st1 (st1 p0_0_2a 2 x20) 3 x22) 4 x24) 5 x26) 6 x28) (st1 (st1 (st1 (st1 (st1 p0_0_2k 2 z21) 3 z23) 4 z25) 5 z27) 6 z29) (o_19.2.2.2) (o_19.2.2.1))) H := hP.sub [0, 1, 2, 3, 4, 5, 6, 7, 8, 9, 10, 11, 12, 13, 14, 15, 16, 17, 18, 19, 20, 21, 22, 23, 24, 25, 26, 27, 28, 29, 30, 31, 32] rfl
            have hD : va_D A ((oX0 (p0a 0) p0a p0k p0n (o_19.1)) ++ (oX1 (p0a 1) p0_0a p0_0k p0_0n (o_19.2.1) p0_0l) ++ (oX9 (p0_0a 3) (st1 (st1 (st1 (st1 (st1 p0_0_2a 2 x20) 3 x22) 4 x24) 5 x26) 6 x28) (st1 (st1 (st1 (st1 (st1 p0_0_2k 2 z21) 3 z23) 4 z25) 5 z27) 6 z29) (o_19.2.2.2) (o_19.2.2.1))) := hD.sub [0, 1, 2, 3, 4, 5, 6, 7, 8, 9, 10, 11, 12, 13, 14, 15, 16, 17, 18, 19, 20, 21, 22, 23, 24, 25, 26, 27, 28, 29, 30, 31, 32] (by decide) rfl
            have hK : va_K (dC, dI) cls ((tX0 p0k) ++ (tX1 p0_0k) ++ (tX9 (st1 (st1 (st1 (st1 (st1 p0_0_2k 2 z21) 3 z23) 4 z25) 5 z27) 6 z29))) s := hK.sub [0, 1, 2, 3, 4, 5, 6, 7, 8, 9, 10, 11, 12, 13, 14, 15, 16, 17, 18, 19, 20, 21, 22, 23, 24, 25, 26, 27, 28, 29] rfl
            refine W.widen (k := (gcX9 p0_0_2n (o_19.2.2.2))) (n := (3 * (gcX9 p0_0_2n (o_19.2.2.2)))) (by have a0 := gcX9_add hg_p0_0_2 (mo_fX0_saveFirst hc_19); omega) (by have a0 := gcX9_add hg_p0_0_2 (mo_fX0_saveFirst hc_19); omega) ?_
            have hg_p0_0_2 : glX9 p0_0_2n (o_19.2.2.2) := glX9_tr hg_p0_0_2 (mo_fX0_saveFirst hc_19)
            unfold fX0_putCopies_G207_30 at hrun
            exact J207 v3_97 (o_19.1) (o_19.2.1) (o_19.2.2.1) (o_19.2.2.2) x20 z21 x22 z23 x24 z25 x26 z27 x28 z29 _ _ _ hrun hP hD hK hS (lv_sub hl [1, 2, 3, 4] rfl) hg_p0_0_2
          · refine lv_if_lt (tgt := 201) hx hb dX0_putCopies_118 (by decide) (fun c => absurd c hc18) (fun _ => ?_)
            refine lv_aload_n hx hb dX0_putCopies_121 rfl (lv_at hl 1 rfl) ?_
            refine va_get (D := (dC, dI)) (ci := 8) (v := .ref (p0a 1)) (C := RX0) (T := TX0) (N := 17) hx hb hts i_X0 hown hK hP 0 rfl rfl 0 (by decide) (hts _ qw618) (fun _ h9 => h9) rfl dX0_putCopies_122 ?_
            refine lv_iload_n hx hb dX0_putCopies_125 rfl (lv_at hl 2 rfl) ?_
            refine lv_bipush (v := 25) hx hb dX0_putCopies_126 (by decide) ?_
            refine lv_aload_n hx hb dX0_putCopies_128 rfl (lv_at hl 1 rfl) ?_
            refine va_get (D := (dC, dI)) (ci := 8) (v := .ref (p0a 15)) (C := RX0) (T := TX0) (N := 17) hx hb hts i_X0 hown hK hP 0 rfl rfl 14 (by decide) (hts _ qw634) (fun _ h9 => h9) rfl dX0_putCopies_129 ?_
            refine lv_iload hx hb dX0_putCopies_132 (lv_at hl 0 rfl) ?_
            obtain ⟨hq31, hrun⟩ := chk9 hrun
            refine va_iald hx hb hK hP 6 5 rfl rfl (ixb_in hq31) dX0_putCopies_134 ?_
            refine lv_aload_n hx hb dX0_putCopies_135 rfl (lv_at hl 1 rfl) ?_
            refine va_get (D := (dC, dI)) (ci := 8) (v := .ref (p0a 16)) (C := RX0) (T := TX0) (N := 17) hx hb hts i_X0 hown hK hP 0 rfl rfl 15 (by decide) (hts _ qw633) (fun _ h9 => h9) rfl dX0_putCopies_136 ?_
            refine lv_iload hx hb dX0_putCopies_139 (lv_at hl 0 rfl) ?_
            obtain ⟨hq32, hrun⟩ := chk9 hrun
            refine va_iald hx hb hK hP 7 6 rfl rfl (ixb_in hq32) dX0_putCopies_141 ?_
            refine lv_iconst (v := (-1)) hx hb dX0_putCopies_142 (by decide) ?_
            obtain ⟨o_33, hc_33, hrun⟩ := bnd9 hrun
            have hPc := hP.sub (ws' := ((oX1 (p0a 1) p0_0a p0_0k p0_0n p0_0w_97 p0_0l) ++ (oX9 (p0_0a 3) (st1 (st1 (st1 (st1 (st1 p0_0_2a 2 xp0_0_2_1_97) 3 xp0_0_2_2_97) 4 xp0_0_2_3_97) 5 xp0_0_2_4_97) 6 xp0_0_2_5_97) (st1 (st1 (st1 (st1 (st1 p0_0_2k 2 zp0_0_2_1_97) 3 zp0_0_2_2_97) 4 zp0_0_2_3_97) 5 zp0_0_2_4_97) 6 zp0_0_2_5_97) p0_0_2n_97 p0_0_2w_97))) [9, 10, 11, 12, 13, 14, 15, 16, 17, 18, 19, 20, 21, 22, 23, 24, 25, 26, 27, 28, 29, 30, 31, 32] rfl
            have hDc := hD.sub (ws' := ((oX1 (p0a 1) p0_0a p0_0k p0_0n p0_0w_97 p0_0l) ++ (oX9 (p0_0a 3) (st1 (st1 (st1 (st1 (st1 p0_0_2a 2 xp0_0_2_1_97) 3 xp0_0_2_2_97) 4 xp0_0_2_3_97) 5 xp0_0_2_4_97) 6 xp0_0_2_5_97) (st1 (st1 (st1 (st1 (st1 p0_0_2k 2 zp0_0_2_1_97) 3 zp0_0_2_2_97) 4 zp0_0_2_3_97) 5 zp0_0_2_4_97) 6 zp0_0_2_5_97) p0_0_2n_97 p0_0_2w_97))) [9, 10, 11, 12, 13, 14, 15, 16, 17, 18, 19, 20, 21, 22, 23, 24, 25, 26, 27, 28, 29, 30, 31, 32] (by decide) rfl
            have hKc := hK.sub (tys' := ((tX1 p0_0k) ++ (tX9 (st1 (st1 (st1 (st1 (st1 p0_0_2k 2 zp0_0_2_1_97) 3 zp0_0_2_2_97) 4 zp0_0_2_3_97) 5 zp0_0_2_4_97) 6 zp0_0_2_5_97)))) [8, 9, 10, 11, 12, 13, 14, 15, 16, 17, 18, 19, 20, 21, 22, 23, 24, 25, 26, 27, 28, 29] rfl
            have hFc := va_free (wc := ((oX1 (p0a 1) p0_0a p0_0k p0_0n p0_0w_97 p0_0l) ++ (oX9 (p0_0a 3) (st1 (st1 (st1 (st1 (st1 p0_0_2a 2 xp0_0_2_1_97) 3 xp0_0_2_2_97) 4 xp0_0_2_3_97) 5 xp0_0_2_4_97) 6 xp0_0_2_5_97) (st1 (st1 (st1 (st1 (st1 p0_0_2k 2 zp0_0_2_1_97) 3 zp0_0_2_2_97) 4 zp0_0_2_3_97) 5 zp0_0_2_4_97) 6 zp0_0_2_5_97) p0_0_2n_97 p0_0_2w_97))) hD hS hA [9, 10, 11, 12, 13, 14, 15, 16, 17, 18, 19, 20, 21, 22, 23, 24, 25, 26, 27, 28, 29, 30, 31, 32] rfl
            have hgn_p0_0_2 : glX9 (o_33.2.2.2) (o.2.2.2) := (glX9_tr (mo_fX0_putCopies_G146_45 (mo_fX0_putCopies_L97 n_97) hrun) hgo_p0_0_2)
            refine va_calli (va_runV (As := [.int p2, .int 25, .int (p0w_97 15 (nn o_16)), .int (p0w_97 16 (nn o_16)), .int (-1)]) (rest := []) ⟨hx, hb, hml, hown, hts⟩ (kX1_addStep l dC dI (p0a := (st0 (p0a 1) p0_0a)) (p0k := p0_0k) (p0n := p0_0n) (p0w := p0_0w_97) (p0l := p0_0l) (p1 := p2) (p2 := 25) (p3 := (p0w_97 15 (nn o_16))) (p4 := (p0w_97 16 (nn o_16))) (p5 := (-1)) (p0_2a := (st1 (st1 (st1 (st1 (st1 p0_0_2a 2 xp0_0_2_1_97) 3 xp0_0_2_2_97) 4 xp0_0_2_3_97) 5 xp0_0_2_4_97) 6 xp0_0_2_5_97)) (p0_2k := (st1 (st1 (st1 (st1 (st1 p0_0_2k 2 zp0_0_2_1_97) 3 zp0_0_2_2_97) 4 zp0_0_2_3_97) 5 zp0_0_2_4_97) 6 zp0_0_2_5_97)) (p0_2n := p0_0_2n_97) (p0_2w := p0_0_2w_97) (sz := _) (o := o_33) (hrun := hc_33)) (cwV 5 hts (gi_V qw625 qw165 qw166 qw126 (gi_z qw163)) rfl rfl rfl (by decide +kernel) ⟨Nat.le_of_ble_eq_true rfl, Nat.le_of_ble_eq_true rfl⟩) ⟨PRE.blind, va_recv hKc hPc (ci := 4) (q0 := 0) rfl rfl, PRE.of hE hS hFc hPc hKc hDc⟩ rfl rfl hl.1 rfl (lv_room (Nat.le_of_ble_eq_true rfl)) dX0_putCopies_143 ⟨(show (gcX9 p0_0_2n p0_0_2n_97) + (gcX9 p0_0_2n_97 (o_33.2.2.2)) ≤ (gcX9 p0_0_2n (o.2.2.2)) from by have q0 := gsX9 hg_p0_0_2 (mo_fX1_addStep hc_33) hgn_p0_0_2; omega), (show (3 * (gcX9 p0_0_2n p0_0_2n_97)) + (3 * ((gcX9 p0_0_2n_97 (o_33.2.2.2)))) ≤ (3 * (gcX9 p0_0_2n (o.2.2.2))) from by have q0 := gsX9 hg_p0_0_2 (mo_fX1_addStep hc_33) hgn_p0_0_2; omega)⟩) hS (fun q _ h => hFc q h) hFc (fun r34 u t H locs ht hvm hw hB hz1 hk1 hS => ?_)
            obtain ⟨x35, z36, x37, z38, x39, z40, x41, z42, x43, z44, hB⟩ := hB
            obtain ⟨hP, hD, hK⟩ := JOIN (wr := (oX0 (p0a 0) p0a p0k p0n p0w_97)) hP hD hK [9, 10, 11, 12, 13, 14, 15, 16, 17, 18, 19, 20, 21, 22, 23, 24, 25, 26, 27, 28, 29, 30, 31, 32] [0, 1, 2, 3, 4, 5, 6, 7, 8] [0, 1, 2, 3, 4, 5, 6, 7] rfl rfl (by decide) (by decide) rfl hk1 hFc ht hvm hB
            have hP : va_P (dC, dI) cls ((oX0 (p0a 0) p0a p0k p0n p0w_97) ++ (oX1 (p0a 1) p0_0a p0_0k p0_0n (o_33.2.1) p0_0l) ++ (oX9 (p0_0a 3) (st1 (st1 (st1 (st1 (st1 p0_0_2a 2 x35) 3 x37) 4 x39) 5 x41) 6 x43) (st1 (st1 (st1 (st1 (st1 p0_0_2k 2 z36) 3 z38) 4 z40) 5 z42) 6 z44) (o_33.2.2.2) (o_33.2.2.1))) H := hP.sub [0, 1, 2, 3, 4, 5, 6, 7, 8, 9, 10, 11, 12, 13, 14, 15, 16, 17, 18, 19, 20, 21, 22, 23, 24, 25, 26, 27, 28, 29, 30, 31, 32] rfl
            have hD : va_D A ((oX0 (p0a 0) p0a p0k p0n p0w_97) ++ (oX1 (p0a 1) p0_0a p0_0k p0_0n (o_33.2.1) p0_0l) ++ (oX9 (p0_0a 3) (st1 (st1 (st1 (st1 (st1 p0_0_2a 2 x35) 3 x37) 4 x39) 5 x41) 6 x43) (st1 (st1 (st1 (st1 (st1 p0_0_2k 2 z36) 3 z38) 4 z40) 5 z42) 6 z44) (o_33.2.2.2) (o_33.2.2.1))) := hD.sub [0, 1, 2, 3, 4, 5, 6, 7, 8, 9, 10, 11, 12, 13, 14, 15, 16, 17, 18, 19, 20, 21, 22, 23, 24, 25, 26, 27, 28, 29, 30, 31, 32] (by decide) rfl
            have hK : va_K (dC, dI) cls ((tX0 p0k) ++ (tX1 p0_0k) ++ (tX9 (st1 (st1 (st1 (st1 (st1 p0_0_2k 2 z36) 3 z38) 4 z40) 5 z42) 6 z44))) s := hK.sub [0, 1, 2, 3, 4, 5, 6, 7, 8, 9, 10, 11, 12, 13, 14, 15, 16, 17, 18, 19, 20, 21, 22, 23, 24, 25, 26, 27, 28, 29] rfl
            obtain rfl : r34 = (o_33.1) := hw
            refine W.widen (k := (gcX9 p0_0_2n (o_33.2.2.2))) (n := (3 * (gcX9 p0_0_2n (o_33.2.2.2)))) (by have a0 := gcX9_add hg_p0_0_2 (mo_fX1_addStep hc_33); omega) (by have a0 := gcX9_add hg_p0_0_2 (mo_fX1_addStep hc_33); omega) ?_
            have hg_p0_0_2 : glX9 p0_0_2n (o_33.2.2.2) := glX9_tr hg_p0_0_2 (mo_fX1_addStep hc_33)
            unfold fX0_putCopies_G146_45 at hrun
            refine lv_pop hx hb dX0_putCopies_146 rfl ?_
            refine lv_iinc (v := (v3_97 + (-1))) (lv' := [(3, .int (v3_97 + (-1))), (5, .int o_16), (0, .ref (p0a 0)), (2, .int p2), (4, .int v4_97)]) hx hb dX0_putCopies_147 hl (k := 3) rfl rfl (by decide) rfl (fun ls hl => ?_)
            refine lv_iload hx hb dX0_putCopies_150 (lv_at hl 1 rfl) ?_
            refine lv_istore (lv' := [(6, .int o_16), (3, .int (v3_97 + (-1))), (5, .int o_16), (0, .ref (p0a 0)), (2, .int p2), (4, .int v4_97)]) hx hb dX0_putCopies_152 hl (by decide) rfl (fun ls hl => ?_)
            have L154 : ∀ (n_154 : Nat) (v6_154 : Int32) (p0w_154 : ST) (o154 : ST) (H : Heap) (locs : List Loc) (ls : Array Slot), (fX0_putCopies_L154 v3_97 n_154) v6_154 p0w_154 = some o154 → va_P (dC, dI) cls ((oX0 (p0a 0) p0a p0k p0n p0w_154) ++ (oX1 (p0a 1) p0_0a p0_0k p0_0n (o_33.2.1) p0_0l) ++ (oX9 (p0_0a 3) (st1 (st1 (st1 (st1 (st1 p0_0_2a 2 x35) 3 x37) 4 x39) 5 x41) 6 x43) (st1 (st1 (st1 (st1 (st1 p0_0_2k 2 z36) 3 z38) 4 z40) 5 z42) 6 z44) (o_33.2.2.2) (o_33.2.2.1))) H → va_D A ((oX0 (p0a 0) p0a p0k p0n p0w_154) ++ (oX1 (p0a 1) p0_0a p0_0k p0_0n (o_33.2.1) p0_0l) ++ (oX9 (p0_0a 3) (st1 (st1 (st1 (st1 (st1 p0_0_2a 2 x35) 3 x37) 4 x39) 5 x41) 6 x43) (st1 (st1 (st1 (st1 (st1 p0_0_2k 2 z36) 3 z38) 4 z40) 5 z42) 6 z44) (o_33.2.2.2) (o_33.2.2.1))) → va_K (dC, dI) cls ((tX0 p0k) ++ (tX1 p0_0k) ++ (tX9 (st1 (st1 (st1 (st1 (st1 p0_0_2k 2 z36) 3 z38) 4 z40) 5 z42) 6 z44))) s → va_S A s.heap H locs → lv_has ls 7 [(0, .ref (p0a 0)), (2, .int p2), (3, .int (v3_97 + (-1))), (4, .int v4_97), (6, .int v6_154)] → glX9 p0_0_2n (o_33.2.2.2) → (∀ (H : Heap) (locs : List Loc) (ls : Array Slot), va_P (dC, dI) cls ((oX0 (p0a 0) p0a p0k p0n o154) ++ (oX1 (p0a 1) p0_0a p0_0k p0_0n (o_33.2.1) p0_0l) ++ (oX9 (p0_0a 3) (st1 (st1 (st1 (st1 (st1 p0_0_2a 2 x35) 3 x37) 4 x39) 5 x41) 6 x43) (st1 (st1 (st1 (st1 (st1 p0_0_2k 2 z36) 3 z38) 4 z40) 5 z42) 6 z44) (o_33.2.2.2) (o_33.2.2.1))) H → va_D A ((oX0 (p0a 0) p0a p0k p0n o154) ++ (oX1 (p0a 1) p0_0a p0_0k p0_0n (o_33.2.1) p0_0l) ++ (oX9 (p0_0a 3) (st1 (st1 (st1 (st1 (st1 p0_0_2a 2 x35) 3 x37) 4 x39) 5 x41) 6 x43) (st1 (st1 (st1 (st1 (st1 p0_0_2k 2 z36) 3 z38) 4 z40) 5 z42) 6 z44) (o_33.2.2.2) (o_33.2.2.1))) → va_K (dC, dI) cls ((tX0 p0k) ++ (tX1 p0_0k) ++ (tX9 (st1 (st1 (st1 (st1 (st1 p0_0_2k 2 z36) 3 z38) 4 z40) 5 z42) 6 z44))) s → va_S A s.heap H locs → lv_has ls 7 [(0, .ref (p0a 0)), (2, .int p2), (3, .int (v3_97 + (-1))), (4, .int v4_97)] → glX9 p0_0_2n (o_33.2.2.2) → W p l e ({ frames := 5, cells := (gcX9 p0_0_2n (o.2.2.2)), slots := (3 * (gcX9 p0_0_2n (o.2.2.2))), locals := 137 } : Room) s m ([.ref (p0a 0), .int p1, .int p2] : List Value).toArray below meth c H locs (gcX9 p0_0_2n (o_33.2.2.2)) (3 * (gcX9 p0_0_2n (o_33.2.2.2))) Q (F0 m 198 ls [])) → W p l e ({ frames := 5, cells := (gcX9 p0_0_2n (o.2.2.2)), slots := (3 * (gcX9 p0_0_2n (o.2.2.2))), locals := 137 } : Room) s m ([.ref (p0a 0), .int p1, .int p2] : List Value).toArray below meth c H locs (gcX9 p0_0_2n (o_33.2.2.2)) (3 * (gcX9 p0_0_2n (o_33.2.2.2))) Q (F0 m 154 ls []) := by
              intro n_154
              induction n_154 with
              | zero => intro v6_154 p0w_154 o154 H locs ls hrun; exact (no9 rfl hrun).elim
              | succ n_154 IH154 =>
                intro v6_154 p0w_154 o154 H locs ls hrun hP hD hK hS hl hg_p0_0_2 hk154
                unfold fX0_putCopies_L154 at hrun
                refine lv_iload hx hb dX0_putCopies_154 (lv_at hl 4 rfl) ?_
                refine lv_iload_n hx hb dX0_putCopies_156 rfl (lv_at hl 2 rfl) ?_
                rcases br9 hrun with ⟨hc46, hrun⟩ | ⟨hc46, hrun⟩
                · refine lv_icmp_ge (tgt := 198) hx hb dX0_putCopies_157 (by decide) (fun _ => ?_) (fun c => absurd hc46 c)
                  obtain rfl := (Option.some.inj hrun)
                  exact hk154 _ _ _ hP hD hK hS (lv_sub hl [0, 1, 2, 3] rfl) hg_p0_0_2
                · refine lv_icmp_ge (tgt := 198) hx hb dX0_putCopies_157 (by decide) (fun c => absurd c hc46) (fun _ => ?_)
                  refine lv_aload_n hx hb dX0_putCopies_160 rfl (lv_at hl 0 rfl) ?_
                  refine va_get (D := (dC, dI)) (ci := 8) (v := .ref (p0a 15)) (C := RX0) (T := TX0) (N := 17) hx hb hts i_X0 hown hK hP 0 rfl rfl 14 (by decide) (hts _ qw634) (fun _ h9 => h9) rfl dX0_putCopies_161 ?_
                  refine lv_iload hx hb dX0_putCopies_164 (lv_at hl 4 rfl) ?_
                  refine lv_aload_n hx hb dX0_putCopies_166 rfl (lv_at hl 0 rfl) ?_
                  refine va_get (D := (dC, dI)) (ci := 8) (v := .ref (p0a 15)) (C := RX0) (T := TX0) (N := 17) hx hb hts i_X0 hown hK hP 0 rfl rfl 14 (by decide) (hts _ qw634) (fun _ h9 => h9) rfl dX0_putCopies_167 ?_
                  refine lv_iload hx hb dX0_putCopies_170 (lv_at hl 4 rfl) ?_
                  refine lv_iconst (v := 1) hx hb dX0_putCopies_172 (by decide) ?_
                  refine lv_iadd hx hb dX0_putCopies_173 ?_
                  obtain ⟨hq47, hrun⟩ := chk9 hrun
                  refine va_iald hx hb hK hP 6 5 rfl rfl (ixb_in hq47) dX0_putCopies_174 ?_
                  obtain ⟨hq48, hrun⟩ := chk9 hrun
                  refine va_iast hx hb hK hP hD hS 6 5 rfl rfl (ixb_in hq48) dX0_putCopies_175 (fun H locs hP hD hS => ?_)
                  have hP : va_P (dC, dI) cls ((oX0 (p0a 0) p0a p0k p0n (upw p0w_154 15 (nn v6_154) (p0w_154 15 (nn (v6_154 + 1))))) ++ (oX1 (p0a 1) p0_0a p0_0k p0_0n (o_33.2.1) p0_0l) ++ (oX9 (p0_0a 3) (st1 (st1 (st1 (st1 (st1 p0_0_2a 2 x35) 3 x37) 4 x39) 5 x41) 6 x43) (st1 (st1 (st1 (st1 (st1 p0_0_2k 2 z36) 3 z38) 4 z40) 5 z42) 6 z44) (o_33.2.2.2) (o_33.2.2.1))) H := hP
                  have hD : va_D A ((oX0 (p0a 0) p0a p0k p0n (upw p0w_154 15 (nn v6_154) (p0w_154 15 (nn (v6_154 + 1))))) ++ (oX1 (p0a 1) p0_0a p0_0k p0_0n (o_33.2.1) p0_0l) ++ (oX9 (p0_0a 3) (st1 (st1 (st1 (st1 (st1 p0_0_2a 2 x35) 3 x37) 4 x39) 5 x41) 6 x43) (st1 (st1 (st1 (st1 (st1 p0_0_2k 2 z36) 3 z38) 4 z40) 5 z42) 6 z44) (o_33.2.2.2) (o_33.2.2.1))) := hD
                  obtain ⟨w49, ew49, hrun⟩ := let9 hrun
                  rw [← ew49] at hP hD
                  refine lv_aload_n hx hb dX0_putCopies_176 rfl (lv_at hl 0 rfl) ?_
                  refine va_get (D := (dC, dI)) (ci := 8) (v := .ref (p0a 16)) (C := RX0) (T := TX0) (N := 17) hx hb hts i_X0 hown hK hP 0 rfl rfl 15 (by decide) (hts _ qw633) (fun _ h9 => h9) rfl dX0_putCopies_177 ?_
                  refine lv_iload hx hb dX0_putCopies_180 (lv_at hl 4 rfl) ?_
                  refine lv_aload_n hx hb dX0_putCopies_182 rfl (lv_at hl 0 rfl) ?_
                  refine va_get (D := (dC, dI)) (ci := 8) (v := .ref (p0a 16)) (C := RX0) (T := TX0) (N := 17) hx hb hts i_X0 hown hK hP 0 rfl rfl 15 (by decide) (hts _ qw633) (fun _ h9 => h9) rfl dX0_putCopies_183 ?_
                  refine lv_iload hx hb dX0_putCopies_186 (lv_at hl 4 rfl) ?_
                  refine lv_iconst (v := 1) hx hb dX0_putCopies_188 (by decide) ?_
                  refine lv_iadd hx hb dX0_putCopies_189 ?_
                  obtain ⟨hq50, hrun⟩ := chk9 hrun
                  refine va_iald hx hb hK hP 7 6 rfl rfl (ixb_in hq50) dX0_putCopies_190 ?_
                  obtain ⟨hq51, hrun⟩ := chk9 hrun
                  refine va_iast hx hb hK hP hD hS 7 6 rfl rfl (ixb_in hq51) dX0_putCopies_191 (fun H locs hP hD hS => ?_)
                  have hP : va_P (dC, dI) cls ((oX0 (p0a 0) p0a p0k p0n (upw w49 16 (nn v6_154) (w49 16 (nn (v6_154 + 1))))) ++ (oX1 (p0a 1) p0_0a p0_0k p0_0n (o_33.2.1) p0_0l) ++ (oX9 (p0_0a 3) (st1 (st1 (st1 (st1 (st1 p0_0_2a 2 x35) 3 x37) 4 x39) 5 x41) 6 x43) (st1 (st1 (st1 (st1 (st1 p0_0_2k 2 z36) 3 z38) 4 z40) 5 z42) 6 z44) (o_33.2.2.2) (o_33.2.2.1))) H := hP
                  have hD : va_D A ((oX0 (p0a 0) p0a p0k p0n (upw w49 16 (nn v6_154) (w49 16 (nn (v6_154 + 1))))) ++ (oX1 (p0a 1) p0_0a p0_0k p0_0n (o_33.2.1) p0_0l) ++ (oX9 (p0_0a 3) (st1 (st1 (st1 (st1 (st1 p0_0_2a 2 x35) 3 x37) 4 x39) 5 x41) 6 x43) (st1 (st1 (st1 (st1 (st1 p0_0_2k 2 z36) 3 z38) 4 z40) 5 z42) 6 z44) (o_33.2.2.2) (o_33.2.2.1))) := hD
                  obtain ⟨w52, ew52, hrun⟩ := let9 hrun
                  rw [← ew52] at hP hD
                  refine lv_iinc (v := (v6_154 + 1)) (lv' := [(6, .int (v6_154 + 1)), (0, .ref (p0a 0)), (2, .int p2), (3, .int (v3_97 + (-1))), (4, .int v4_97)]) hx hb dX0_putCopies_192 hl (k := 4) rfl rfl (by decide) rfl (fun ls hl => ?_)
                  refine lv_goto (tgt := 154) hx hb dX0_putCopies_195 (by decide) ?_
                  exact IH154 (v6_154 + 1) w52 o154 _ _ _ hrun hP hD hK hS (lv_sub hl [1, 2, 3, 4, 0] rfl) hg_p0_0_2 hk154
            obtain ⟨o154, hc154, hrun⟩ := bnd9 hrun
            refine L154 NF o_16 p0w_97 o154 _ _ _ hc154 hP hD hK hS (lv_sub hl [3, 4, 1, 5, 0] rfl) hg_p0_0_2 ?_
            intro H locs ls hP hD hK hS hl hg_p0_0_2
            have hl := hl
            refine lv_goto (tgt := 207) hx hb dX0_putCopies_198 (by decide) ?_
            exact J207 (v3_97 + (-1)) o154 (o_33.2.1) (o_33.2.2.1) (o_33.2.2.2) x35 z36 x37 z38 x39 z40 x41 z42 x43 z44 _ _ _ hrun hP hD hK hS (lv_sub hl [0, 1, 2, 3] rfl) hg_p0_0_2
  refine L97 NF (o13.1) 0 (o13.2) p0_0w p0_0_2w p0_0_2n (p0_0_2a 2) (p0_0_2k 2) (p0_0_2a 3) (p0_0_2k 3) (p0_0_2a 4) (p0_0_2k 4) (p0_0_2a 5) (p0_0_2k 5) (p0_0_2a 6) (p0_0_2k 6) o97 _ _ _ hc97 hP hD hK hS (lv_sub hl [1, 2, 3, 0] rfl) hg_p0_0_2 hgn_p0_0_2 ?_
  intro xp0_0_2_1_97x zp0_0_2_1_97x xp0_0_2_2_97x zp0_0_2_2_97x xp0_0_2_3_97x zp0_0_2_3_97x xp0_0_2_4_97x zp0_0_2_4_97x xp0_0_2_5_97x zp0_0_2_5_97x H locs ls hP hD hK hS hl hg_p0_0_2
  have hl := hl
  unfold fX0_putCopies_G213_53 at hrun
  have ho9 : ((o97.1), (o97.2.1), (o97.2.2.1), (o97.2.2.2)) = o := Option.some.inj hrun
  subst ho9
  subst hQ
  exact W.vret hx hb hr (fun t ht hW => ⟨⟨(), rfl, trivial, ⟨xp0_0_2_1_97x, zp0_0_2_1_97x, xp0_0_2_2_97x, zp0_0_2_2_97x, xp0_0_2_3_97x, zp0_0_2_3_97x, xp0_0_2_4_97x, zp0_0_2_4_97x, xp0_0_2_5_97x, zp0_0_2_5_97x, by rw [ht]; exact hP, va_K.moved hW.alike hK, hD⟩⟩, hS.F ht⟩) hS.2.2 dX0_putCopies_213
def fJ7_copyOf_c38d5 (p0n : Nat) (p0f : RL) (p1 : Int32) : Option (Nat × RL) := (if p1 = (Int32.ofNat p0n) then none else (if nck p1 = true then (if cpk 0 0 (if p1 < (Int32.ofNat p0n) then p1 else (Int32.ofNat p0n)) p0n (nn p1) = true then (lt9 (va_cpy p0f (fun _ => 0) (nn 0) (nn 0) (nn (if p1 < (Int32.ofNat p0n) then p1 else (Int32.ofNat p0n)))) fun (f4 : RL) => some ((nn p1), f4)) else none) else none))
theorem ln_fJ7_copyOf_c38d5 {p0n : Nat} {p0f : RL} {p1 : Int32} {o : Nat × RL} (hrun : fJ7_copyOf_c38d5 p0n p0f p1 = some o) : o.1 = nn p1 := by
  unfold fJ7_copyOf_c38d5 at hrun
  rcases br9 hrun with ⟨hc1, hrun⟩ | ⟨hc1, hrun⟩
  · skip
    cases hrun
  · skip
    obtain ⟨hq2, hrun⟩ := chk9 hrun
    obtain ⟨hq3, hrun⟩ := chk9 hrun
    obtain ⟨f4, ef4, hrun⟩ := let9 hrun
    obtain rfl := (Option.some.inj hrun)
    exact rfl
set_option maxHeartbeats 16000000 in
set_option maxRecDepth 100000 in
theorem kJ7_copyOf_c38d5 {zs : Nat × Nat} (l : Launch) (dC : Nat → ClassId) (dI : Nat → Nat → Nat) (p0a : Nat) (p0k : ClassId) (p0n : Nat) (p0f : RL) (p1 : Int32) (sz : Nat) (o : Nat × RL) (hrun : fJ7_copyOf_c38d5 p0n p0f p1 = some o) : Met l yJ7_copyOf_c38d5 (wz yJ7_copyOf_c38d5 cJ7_copyOf_c38d5 3 (Option.some (Jvm.ClassFile.FieldType.array Jvm.ClassFile.FieldType.long))) ({ frames := 1, cells := 1, slots := (nn p1), locals := 40 } : Room) (va_Pc [.ref p0a, .int p1] (PRE zs dC dI [(p0a, .inl (p0k, p0n, .inr (.inl p0f)))] [(p0k, .long)] sz)) (va_Qr (fun (_ : Unit) => True) (fun _ ra t => ∃ (z9 : ClassId), POST dC dI [(ra, .inl (z9, o.1, .inr (.inl o.2)))] [(z9, .long)] (va_A [(p0a, .inl (p0k, p0n, .inr (.inl p0f)))] sz) t) (va_A [(p0a, .inl (p0k, p0n, .inr (.inl p0f)))] sz)) 1 (nn p1) (va_A [(p0a, .inl (p0k, p0n, .inr (.inl p0f)))] sz) := by
  refine Met.ofW (cc := cJ7_copyOf_c38d5) (maxL := 3) (ret := (Option.some (Jvm.ClassFile.FieldType.array Jvm.ClassFile.FieldType.long))) (by decide) rfl ?_
  intro p e s m args below meth c s₁ B hml hv
  obtain ⟨rfl, hsz, hP, hK, hD0, hE⟩ := hv
  have hx := B.exec
  have hb := B.bytes
  have hr := B.returns
  have hts0 := atoms_spec (ws := wz yJ7_copyOf_c38d5 cJ7_copyOf_c38d5 3 (Option.some (Jvm.ClassFile.FieldType.array Jvm.ClassFile.FieldType.long))) B.pre
  have hts : ∀ w ∈ gw, w.before _ s = true := fun w h => hts0 w (List.mem_cons_of_mem _ h)
  have hown : s.vm.findClass RJ7 = some m.cls := findClass_of_methodNamed B.named
  have hlocks := B.notSynchronized
  subst hsz
  have hD := hD0.self (sz := s.heap.size)
  refine gQ9 ?_
  intro Q hQ
  generalize hAe : va_A [(p0a, .inl (p0k, p0n, .inr (.inl p0f)))] s.heap.size = A at hD hE hQ
  have hA : ∀ q : Nat, s.heap.size ≤ q → A q := fun q h => by rw [← hAe]; exact Or.inr h
  have hS : va_S A s.heap s.heap [] := va_S.rf
  have hP : va_P (dC, dI) cls [(p0a, .inl (p0k, p0n, .inr (.inl p0f)))] s.heap := hP
  have hl := lv_entry ([.ref p0a, .int p1]) (n := 3) (Nat.le_of_ble_eq_true rfl)
  rw [lg_entry_eq]
  generalize (lg_sl ([.ref p0a, .int p1]) ++ List.replicate (3 - (lg_sl ([.ref p0a, .int p1])).length) Slot.unset).toArray = ls at hl ⊢
  have hl : lv_has ls 3 [(0, .ref p0a), (1, .int p1)] := hl
  obtain ⟨H, hHe⟩ : ∃ H, H = s.heap := ⟨_, rfl⟩
  obtain ⟨locs, hle⟩ : ∃ locs : List Loc, locs = [] := ⟨_, rfl⟩
  rw [← hHe] at hP
  have hS : va_S A s.heap H locs := by rw [hHe, hle]; exact hS
  show W p l e ({ frames := 1, cells := 1, slots := (nn p1), locals := 40 } : Room) s m ([.ref p0a, .int p1] : List Value).toArray below meth c s.heap [] 0 0 Q (F0 m 0 ls [])
  rw [← hle]
  refine wH9 hHe ?_
  unfold fJ7_copyOf_c38d5 at hrun
  refine lv_iload_n hx hb dJ7_copyOf_c38d5_0 rfl (lv_at hl 1 rfl) ?_
  refine lv_aload_n hx hb dJ7_copyOf_c38d5_1 rfl (lv_at hl 0 rfl) ?_
  refine va_alen (v := (Int32.ofNat p0n)) hx hb hK hP 0 0 rfl rfl rfl dJ7_copyOf_c38d5_2 ?_
  rcases br9 hrun with ⟨hc1, hrun⟩ | ⟨hc1, hrun⟩
  · refine lv_icmp_ne (tgt := 14) hx hb dJ7_copyOf_c38d5_3 (by decide) (fun c => absurd hc1 c) (fun _ => ?_)
    refine lv_aload_n hx hb dJ7_copyOf_c38d5_6 rfl (lv_at hl 0 rfl) ?_
    cases hrun
  · refine lv_icmp_ne (tgt := 14) hx hb dJ7_copyOf_c38d5_3 (by decide) (fun _ => ?_) (fun c => absurd c hc1)
    refine lv_iload_n hx hb dJ7_copyOf_c38d5_14 rfl (lv_at hl 1 rfl) ?_
    obtain ⟨hq2, hrun⟩ := chk9 hrun
    refine va_newa (atype := .long) (ty := .long) hx hb (hts _ qw670) rfl hK hP hD hS hA (N' := (nn p1)) (a0 := (nn p1, .inr (.inl (fun _ => 0)))) (fun _ => rfl) (nck_1 hq2) rfl (nck_8 hq2) (show 0 + 1 ≤ 1 from Nat.le_refl _) (show 0 + nn p1 ≤ nn p1 from Nat.le_of_eq (Nat.zero_add _)) dJ7_copyOf_c38d5_15 (fun q1 c1 H hK hP hD hS => ?_)
    have hP : va_P (dC, dI) cls [(p0a, .inl (p0k, p0n, .inr (.inl p0f))), (q1, .inl (c1, (nn p1), .inr (.inl (fun _ => 0))))] H := hP
    have hD : va_D A [(p0a, .inl (p0k, p0n, .inr (.inl p0f))), (q1, .inl (c1, (nn p1), .inr (.inl (fun _ => 0))))] := hD
    have hK : va_K (dC, dI) cls [(p0k, .long), (c1, .long)] s := hK
    refine W.widen (k := 1) (n := (nn p1)) (Nat.le_refl _) (Nat.le_of_eq (Nat.zero_add _)) ?_
    refine lv_astore_n (lv' := [(2, .ref q1), (0, .ref p0a), (1, .int p1)]) hx hb dJ7_copyOf_c38d5_17 rfl hl (by decide) rfl (fun ls hl => ?_)
    refine lv_aload_n hx hb dJ7_copyOf_c38d5_18 rfl (lv_at hl 1 rfl) ?_
    refine lv_iconst (v := 0) hx hb dJ7_copyOf_c38d5_19 (by decide) ?_
    refine lv_aload_n hx hb dJ7_copyOf_c38d5_20 rfl (lv_at hl 0 rfl) ?_
    refine lv_iconst (v := 0) hx hb dJ7_copyOf_c38d5_21 (by decide) ?_
    refine lv_aload_n hx hb dJ7_copyOf_c38d5_22 rfl (lv_at hl 1 rfl) ?_
    refine va_alen (v := (Int32.ofNat p0n)) hx hb hK hP 0 0 rfl rfl rfl dJ7_copyOf_c38d5_23 ?_
    refine lv_iload_n hx hb dJ7_copyOf_c38d5_24 rfl (lv_at hl 2 rfl) ?_
    refine va_mmin hx hb (hml.trans hl.1.symm) hown (hts _ qw98) (hts _ qw99) (hts _ qw100) (hts _ qw101) (Nat.le_of_ble_eq_true rfl) (Nat.le_of_ble_eq_true rfl) (Nat.le_refl _) (Nat.le_refl _) dJ7_copyOf_c38d5_25 ?_
    obtain ⟨hq3, hrun⟩ := chk9 hrun
    refine va_copyl (ty := .long) (sp := 0) (dp := 0) (n := (if p1 < (Int32.ofNat p0n) then p1 else (Int32.ofNat p0n))) hx hb (hml.trans hl.1.symm) hown (hts _ qw102) (hts _ qw103) (hts _ qw104) (hts _ qw105) hK hP hD hS 0 1 0 1 rfl rfl rfl rfl rfl (cpk_1 hq3) (cpk_2 hq3) (cpk_3 hq3) (cpk_4 hq3) (cpk_5 hq3) (fun _ _ => rfl) (Nat.le_of_ble_eq_true rfl) (Nat.le_of_ble_eq_true rfl) dJ7_copyOf_c38d5_28 (fun H locs hP hD hS => ?_)
    have hP : va_P (dC, dI) cls [(p0a, .inl (p0k, p0n, .inr (.inl p0f))), (q1, .inl (c1, (nn p1), .inr (.inl (va_cpy p0f (fun _ => 0) (nn 0) (nn 0) (nn (if p1 < (Int32.ofNat p0n) then p1 else (Int32.ofNat p0n)))))))] H := hP
    have hD : va_D A [(p0a, .inl (p0k, p0n, .inr (.inl p0f))), (q1, .inl (c1, (nn p1), .inr (.inl (va_cpy p0f (fun _ => 0) (nn 0) (nn 0) (nn (if p1 < (Int32.ofNat p0n) then p1 else (Int32.ofNat p0n)))))))] := hD
    obtain ⟨f4, ef4, hrun⟩ := let9 hrun
    rw [← ef4] at hP hD
    refine lv_aload_n hx hb dJ7_copyOf_c38d5_31 rfl (lv_at hl 0 rfl) ?_
    have ho9 : ((nn p1), f4) = o := Option.some.inj hrun
    subst ho9
    subst hQ
    have hP9 : va_P (dC, dI) cls [(q1, .inl (c1, (nn p1), .inr (.inl f4)))] H := hP.sub [1] rfl
    have hD9 : va_D A [(q1, .inl (c1, (nn p1), .inr (.inl f4)))] := hD.sub [1] (by decide) rfl
    have hK9 : va_K (dC, dI) cls [(c1, .long)] s := hK.sub [1] rfl
    exact W.aret (v := .ref q1) (rt := .array .long) hx hb hr (Or.inr ⟨_, rfl⟩) (Or.inr ⟨_, rfl⟩) (fun t ht hW => ⟨⟨(), q1, rfl, trivial, c1, by rw [ht]; exact hP9, va_K.moved hW.alike hK9, hD9⟩, hS.F ht⟩) hS.2.2 dJ7_copyOf_c38d5_32
def fX11_atLeast_ (p0n : Nat) (p0f : RL) (p1 : Int32) : Option (Nat × RL) := (if (Int32.ofNat p0n) < p1 then ((fJ7_copyOf_c38d5 p0n p0f (p1 + (p1 / 2))).bind fun (o_2 : Nat × RL) => (if grs p0n (o_2.1) = true then some o_2 else none)) else some (p0n, p0f))
theorem mo_fX11_atLeast_ {p0n : Nat} {p0f : RL} {p1 : Int32} {o : Nat × RL} (hrun : fX11_atLeast_ p0n p0f p1 = some o) : p0n ≤ o.1 := by
  unfold fX11_atLeast_ at hrun
  rcases br9 hrun with ⟨hc1, hrun⟩ | ⟨hc1, hrun⟩
  · skip
    obtain ⟨o_2, hc_2, hrun⟩ := bnd9 hrun
    obtain ⟨hq3, hrun⟩ := chk9 hrun
    obtain rfl := (Option.some.inj hrun)
    exact (grs_le hq3)
  · skip
    obtain rfl := (Option.some.inj hrun)
    exact (Nat.le_refl _)
set_option maxHeartbeats 16000000 in
set_option maxRecDepth 100000 in
theorem kX11_atLeast_ {zs : Nat × Nat} (l : Launch) (dC : Nat → ClassId) (dI : Nat → Nat → Nat) (p0a : Nat) (p0k : ClassId) (p0n : Nat) (p0f : RL) (p1 : Int32) (sz : Nat) (o : Nat × RL) (hrun : fX11_atLeast_ p0n p0f p1 = some o) : Met l yX11_atLeast_ (wz yX11_atLeast_ cX11_atLeast_ 2 (Option.some (Jvm.ClassFile.FieldType.array Jvm.ClassFile.FieldType.long))) ({ frames := 2, cells := (o.1 - p0n), slots := (3 * (o.1 - p0n)), locals := 62 } : Room) (va_Pc [.ref p0a, .int p1] (PRE zs dC dI [(p0a, .inl (p0k, p0n, .inr (.inl p0f)))] [(p0k, .long)] sz)) (va_Qr (fun (_ : Unit) => True) (fun _ ra t => ∃ (z9 : ClassId), POST dC dI [(ra, .inl (z9, o.1, .inr (.inl o.2)))] [(z9, .long)] (va_A [(p0a, .inl (p0k, p0n, .inr (.inl p0f)))] sz) t) (va_A [(p0a, .inl (p0k, p0n, .inr (.inl p0f)))] sz)) (o.1 - p0n) (3 * (o.1 - p0n)) (va_A [(p0a, .inl (p0k, p0n, .inr (.inl p0f)))] sz) := by
  refine Met.ofW (cc := cX11_atLeast_) (maxL := 2) (ret := (Option.some (Jvm.ClassFile.FieldType.array Jvm.ClassFile.FieldType.long))) (by decide) rfl ?_
  intro p e s m args below meth c s₁ B hml hv
  obtain ⟨rfl, hsz, hP, hK, hD0, hE⟩ := hv
  have hx := B.exec
  have hb := B.bytes
  have hr := B.returns
  have hts0 := atoms_spec (ws := wz yX11_atLeast_ cX11_atLeast_ 2 (Option.some (Jvm.ClassFile.FieldType.array Jvm.ClassFile.FieldType.long))) B.pre
  have hts : ∀ w ∈ gw, w.before _ s = true := fun w h => hts0 w (List.mem_cons_of_mem _ h)
  have hown : s.vm.findClass RX11 = some m.cls := findClass_of_methodNamed B.named
  have hlocks := B.notSynchronized
  subst hsz
  have hD := hD0.self (sz := s.heap.size)
  refine gQ9 ?_
  intro Q hQ
  generalize hAe : va_A [(p0a, .inl (p0k, p0n, .inr (.inl p0f)))] s.heap.size = A at hD hE hQ
  have hA : ∀ q : Nat, s.heap.size ≤ q → A q := fun q h => by rw [← hAe]; exact Or.inr h
  have hS : va_S A s.heap s.heap [] := va_S.rf
  have hP : va_P (dC, dI) cls [(p0a, .inl (p0k, p0n, .inr (.inl p0f)))] s.heap := hP
  have hl := lv_entry ([.ref p0a, .int p1]) (n := 2) (Nat.le_of_ble_eq_true rfl)
  rw [lg_entry_eq]
  generalize (lg_sl ([.ref p0a, .int p1]) ++ List.replicate (2 - (lg_sl ([.ref p0a, .int p1])).length) Slot.unset).toArray = ls at hl ⊢
  have hl : lv_has ls 2 [(0, .ref p0a), (1, .int p1)] := hl
  obtain ⟨H, hHe⟩ : ∃ H, H = s.heap := ⟨_, rfl⟩
  obtain ⟨locs, hle⟩ : ∃ locs : List Loc, locs = [] := ⟨_, rfl⟩
  rw [← hHe] at hP
  have hS : va_S A s.heap H locs := by rw [hHe, hle]; exact hS
  show W p l e ({ frames := 2, cells := (o.1 - p0n), slots := (3 * (o.1 - p0n)), locals := 62 } : Room) s m ([.ref p0a, .int p1] : List Value).toArray below meth c s.heap [] 0 0 Q (F0 m 0 ls [])
  rw [← hle]
  refine wH9 hHe ?_
  unfold fX11_atLeast_ at hrun
  refine lv_aload_n hx hb dX11_atLeast__0 rfl (lv_at hl 0 rfl) ?_
  refine va_alen (v := (Int32.ofNat p0n)) hx hb hK hP 0 0 rfl rfl rfl dX11_atLeast__1 ?_
  refine lv_iload_n hx hb dX11_atLeast__2 rfl (lv_at hl 1 rfl) ?_
  rcases br9 hrun with ⟨hc1, hrun⟩ | ⟨hc1, hrun⟩
  · refine lv_icmp_lt (tgt := 10) hx hb dX11_atLeast__3 (by decide) (fun _ => ?_) (fun c => absurd hc1 c)
    refine lv_aload_n hx hb dX11_atLeast__10 rfl (lv_at hl 0 rfl) ?_
    refine lv_iload_n hx hb dX11_atLeast__11 rfl (lv_at hl 1 rfl) ?_
    refine lv_iload_n hx hb dX11_atLeast__12 rfl (lv_at hl 1 rfl) ?_
    refine lv_iconst (v := 2) hx hb dX11_atLeast__13 (by decide) ?_
    refine lv_idiv hx hb dX11_atLeast__14 (by decide) ?_
    refine lv_iadd hx hb dX11_atLeast__15 ?_
    obtain ⟨o_2, hc_2, hrun⟩ := bnd9 hrun
    obtain ⟨hq3, hrun⟩ := chk9 hrun
    have hln := ln_fJ7_copyOf_c38d5 hc_2
    have hPc := hP.sub (ws' := [(p0a, .inl (p0k, p0n, .inr (.inl p0f)))]) [0] rfl
    have hDc := hD.sub (ws' := [(p0a, .inl (p0k, p0n, .inr (.inl p0f)))]) [0] (by decide) rfl
    have hKc := hK.sub (tys' := [(p0k, .long)]) [0] rfl
    have hFc := va_free (wc := [(p0a, .inl (p0k, p0n, .inr (.inl p0f)))]) hD hS hA [0] rfl
    have ho9 : o_2 = o := Option.some.inj hrun
    subst ho9
    have hrun : some o_2 = some o_2 := rfl
    refine va_callr (va_runS (As := [.ref p0a, .int (p1 + (p1 / 2))]) (rest := []) ⟨hx, hb, hml, hown, hts⟩ (kJ7_copyOf_c38d5 l dC dI (p0a := p0a) (p0k := p0k) (p0n := p0n) (p0f := p0f) (p1 := (p1 + (p1 / 2))) (sz := _) (o := o_2) (hrun := hc_2)) (va_cwS 2 hts (gi_S qw672 qw673 qw109 (gi_z qw671)) rfl rfl rfl (by decide +kernel) ⟨Nat.le_of_ble_eq_true rfl, Nat.le_of_ble_eq_true rfl⟩) ⟨PRE.blind, PRE.of hE hS hFc hPc hKc hDc⟩ rfl rfl hl.1 rfl (lv_room (Nat.le_of_ble_eq_true rfl)) dX11_atLeast__16 ⟨(show 0 + 1 ≤ (o_2.1 - p0n) from by have q6 := grs_1 hq3; omega), (show 0 + nn (p1 + (p1 / 2)) ≤ (3 * (o_2.1 - p0n)) from by have q6 := grs_1 hq3; have q7 := grs_2 hq3; omega)⟩) hS (fun q _ h => hFc q h) hFc (fun u ra t H locs ht hvm hw hB hz1 hk1 hS => ?_)
    obtain ⟨z9, hB⟩ := hB
    obtain ⟨hP, hD, hK⟩ := JOIN (wr := ([] : va_W)) hP hD hK [0] [] [] rfl rfl (by decide) (by decide) rfl hk1 hFc ht hvm hB
    subst hQ
    have hP9 : va_P (dC, dI) cls [(ra, .inl (z9, (o_2.1), .inr (.inl (o_2.2))))] H := hP.sub [0] rfl
    have hD9 : va_D A [(ra, .inl (z9, (o_2.1), .inr (.inl (o_2.2))))] := hD.sub [0] (by decide) rfl
    have hK9 : va_K (dC, dI) cls [(z9, .long)] s := hK.sub [0] rfl
    refine W.widen (k := (o_2.1 - p0n)) (n := (3 * (o_2.1 - p0n))) (by have q6 := grs_1 hq3; omega) (by have q6 := grs_1 hq3; have q7 := grs_2 hq3; omega) ?_
    exact W.aret (v := .ref ra) (rt := .array .long) hx hb hr (Or.inr ⟨_, rfl⟩) (Or.inr ⟨_, rfl⟩) (fun t ht hW => ⟨⟨(), ra, rfl, trivial, z9, by rw [ht]; exact hP9, va_K.moved hW.alike hK9, hD9⟩, hS.F ht⟩) hS.2.2 dX11_atLeast__19
  · refine lv_icmp_lt (tgt := 10) hx hb dX11_atLeast__3 (by decide) (fun c => absurd c hc1) (fun _ => ?_)
    refine lv_aload_n hx hb dX11_atLeast__6 rfl (lv_at hl 0 rfl) ?_
    refine lv_goto (tgt := 19) hx hb dX11_atLeast__7 (by decide) ?_
    have ho9 : (p0n, p0f) = o := Option.some.inj hrun
    subst ho9
    subst hQ
    have hP9 : va_P (dC, dI) cls [(p0a, .inl (p0k, p0n, .inr (.inl p0f)))] H := hP.sub [0] rfl
    have hD9 : va_D A [(p0a, .inl (p0k, p0n, .inr (.inl p0f)))] := hD.sub [0] (by decide) rfl
    have hK9 : va_K (dC, dI) cls [(p0k, .long)] s := hK.sub [0] rfl
    refine W.widen (k := ((p0n, p0f).1 - p0n)) (n := (3 * ((p0n, p0f).1 - p0n))) (Nat.zero_le _) (Nat.zero_le _) ?_
    exact W.aret (v := .ref p0a) (rt := .array .long) hx hb hr (Or.inr ⟨_, rfl⟩) (Or.inr ⟨_, rfl⟩) (fun t ht hW => ⟨⟨(), p0a, rfl, trivial, p0k, by rw [ht]; exact hP9, va_K.moved hW.alike hK9, hD9⟩, hS.F ht⟩) hS.2.2 dX11_atLeast__19
def fX2_makeRoom_G206_78 (l45 : SL) (n74 : Nat → Nat) (w75 : ST) : Option (ST × SL × (Nat → Nat)) := some (w75, l45, n74)
theorem mo_fX2_makeRoom_G206_78 {l45 : SL} {n74 : Nat → Nat} {w75 : ST} {o9q : ST × SL × (Nat → Nat)} (hrun : fX2_makeRoom_G206_78 l45 n74 w75 = some o9q) : glX2 n74 (o9q.2.2) := by
  unfold fX2_makeRoom_G206_78 at hrun
  obtain rfl := (Option.some.inj hrun)
  exact (glX2_rf _)
def fX2_makeRoom_G191_72 (l45 : SL) (n68 : Nat → Nat) (w69 : ST) : Option (ST × SL × (Nat → Nat)) := ((fX11_atLeast (n68 19) (w69 19) (w69 0 1)).bind fun (o_73 : Nat × RI) => (lt9 (stn n68 19 (o_73.1)) fun (n74 : Nat → Nat) => (lt9 (srw w69 19 (o_73.2)) fun (w75 : ST) => (fX2_makeRoom_G206_78 l45 n74 w75))))
theorem mo_fX2_makeRoom_G191_72 {l45 : SL} {n68 : Nat → Nat} {w69 : ST} {o9q : ST × SL × (Nat → Nat)} (hrun : fX2_makeRoom_G191_72 l45 n68 w69 = some o9q) : glX2 n68 (o9q.2.2) := by
  unfold fX2_makeRoom_G191_72 at hrun
  obtain ⟨o_73, hc_73, hrun⟩ := bnd9 hrun
  obtain ⟨n74, en74, hrun⟩ := let9 hrun
  obtain ⟨w75, ew75, hrun⟩ := let9 hrun
  skip
  exact (glX2_tr (by rw [en74]; exact glX2_19 (mo_fX11_atLeast hc_73) : glX2 n68 n74) (mo_fX2_makeRoom_G206_78 hrun))
def fX2_makeRoom_G176_66 (l45 : SL) (n62 : Nat → Nat) (w63 : ST) : Option (ST × SL × (Nat → Nat)) := ((fX11_atLeast (n62 18) (w63 18) (w63 0 1)).bind fun (o_67 : Nat × RI) => (lt9 (stn n62 18 (o_67.1)) fun (n68 : Nat → Nat) => (lt9 (srw w63 18 (o_67.2)) fun (w69 : ST) => (fX2_makeRoom_G191_72 l45 n68 w69))))
theorem mo_fX2_makeRoom_G176_66 {l45 : SL} {n62 : Nat → Nat} {w63 : ST} {o9q : ST × SL × (Nat → Nat)} (hrun : fX2_makeRoom_G176_66 l45 n62 w63 = some o9q) : glX2 n62 (o9q.2.2) := by
  unfold fX2_makeRoom_G176_66 at hrun
  obtain ⟨o_67, hc_67, hrun⟩ := bnd9 hrun
  obtain ⟨n68, en68, hrun⟩ := let9 hrun
  obtain ⟨w69, ew69, hrun⟩ := let9 hrun
  skip
  exact (glX2_tr (by rw [en68]; exact glX2_18 (mo_fX11_atLeast hc_67) : glX2 n62 n68) (mo_fX2_makeRoom_G191_72 hrun))
def fX2_makeRoom_G161_60 (l45 : SL) (n56 : Nat → Nat) (w57 : ST) : Option (ST × SL × (Nat → Nat)) := ((fX11_atLeast (n56 17) (w57 17) (w57 0 1)).bind fun (o_61 : Nat × RI) => (lt9 (stn n56 17 (o_61.1)) fun (n62 : Nat → Nat) => (lt9 (srw w57 17 (o_61.2)) fun (w63 : ST) => (fX2_makeRoom_G176_66 l45 n62 w63))))
theorem mo_fX2_makeRoom_G161_60 {l45 : SL} {n56 : Nat → Nat} {w57 : ST} {o9q : ST × SL × (Nat → Nat)} (hrun : fX2_makeRoom_G161_60 l45 n56 w57 = some o9q) : glX2 n56 (o9q.2.2) := by
  unfold fX2_makeRoom_G161_60 at hrun
  obtain ⟨o_61, hc_61, hrun⟩ := bnd9 hrun
  obtain ⟨n62, en62, hrun⟩ := let9 hrun
  obtain ⟨w63, ew63, hrun⟩ := let9 hrun
  skip
  exact (glX2_tr (by rw [en62]; exact glX2_17 (mo_fX11_atLeast hc_61) : glX2 n56 n62) (mo_fX2_makeRoom_G176_66 hrun))
def fX2_makeRoom_G146_54 (l45 : SL) (n50 : Nat → Nat) (w51 : ST) : Option (ST × SL × (Nat → Nat)) := ((fX11_atLeast (n50 16) (w51 16) (w51 0 1)).bind fun (o_55 : Nat × RI) => (lt9 (stn n50 16 (o_55.1)) fun (n56 : Nat → Nat) => (lt9 (srw w51 16 (o_55.2)) fun (w57 : ST) => (fX2_makeRoom_G161_60 l45 n56 w57))))
theorem mo_fX2_makeRoom_G146_54 {l45 : SL} {n50 : Nat → Nat} {w51 : ST} {o9q : ST × SL × (Nat → Nat)} (hrun : fX2_makeRoom_G146_54 l45 n50 w51 = some o9q) : glX2 n50 (o9q.2.2) := by
  unfold fX2_makeRoom_G146_54 at hrun
  obtain ⟨o_55, hc_55, hrun⟩ := bnd9 hrun
  obtain ⟨n56, en56, hrun⟩ := let9 hrun
  obtain ⟨w57, ew57, hrun⟩ := let9 hrun
  skip
  exact (glX2_tr (by rw [en56]; exact glX2_16 (mo_fX11_atLeast hc_55) : glX2 n50 n56) (mo_fX2_makeRoom_G161_60 hrun))
def fX2_makeRoom_G131_48 (w39 : ST) (n44 : Nat → Nat) (l45 : SL) : Option (ST × SL × (Nat → Nat)) := ((fX11_atLeast (n44 15) (w39 15) (w39 0 1)).bind fun (o_49 : Nat × RI) => (lt9 (stn n44 15 (o_49.1)) fun (n50 : Nat → Nat) => (lt9 (srw w39 15 (o_49.2)) fun (w51 : ST) => (fX2_makeRoom_G146_54 l45 n50 w51))))
theorem mo_fX2_makeRoom_G131_48 {w39 : ST} {n44 : Nat → Nat} {l45 : SL} {o9q : ST × SL × (Nat → Nat)} (hrun : fX2_makeRoom_G131_48 w39 n44 l45 = some o9q) : glX2 n44 (o9q.2.2) := by
  unfold fX2_makeRoom_G131_48 at hrun
  obtain ⟨o_49, hc_49, hrun⟩ := bnd9 hrun
  obtain ⟨n50, en50, hrun⟩ := let9 hrun
  obtain ⟨w51, ew51, hrun⟩ := let9 hrun
  skip
  exact (glX2_tr (by rw [en50]; exact glX2_15 (mo_fX11_atLeast hc_49) : glX2 n44 n50) (mo_fX2_makeRoom_G146_54 hrun))
def fX2_makeRoom_G116_42 (l27 : SL) (n38 : Nat → Nat) (w39 : ST) : Option (ST × SL × (Nat → Nat)) := ((fX11_atLeast_ (n38 14) (l27 14) (w39 0 1)).bind fun (o_43 : Nat × RL) => (lt9 (stn n38 14 (o_43.1)) fun (n44 : Nat → Nat) => (lt9 (srl l27 14 (o_43.2)) fun (l45 : SL) => (fX2_makeRoom_G131_48 w39 n44 l45))))
theorem mo_fX2_makeRoom_G116_42 {l27 : SL} {n38 : Nat → Nat} {w39 : ST} {o9q : ST × SL × (Nat → Nat)} (hrun : fX2_makeRoom_G116_42 l27 n38 w39 = some o9q) : glX2 n38 (o9q.2.2) := by
  unfold fX2_makeRoom_G116_42 at hrun
  obtain ⟨o_43, hc_43, hrun⟩ := bnd9 hrun
  obtain ⟨n44, en44, hrun⟩ := let9 hrun
  obtain ⟨l45, el45, hrun⟩ := let9 hrun
  skip
  exact (glX2_tr (by rw [en44]; exact glX2_14 (mo_fX11_atLeast_ hc_43) : glX2 n38 n44) (mo_fX2_makeRoom_G131_48 hrun))
def fX2_makeRoom_G101_36 (l27 : SL) (n32 : Nat → Nat) (w33 : ST) : Option (ST × SL × (Nat → Nat)) := ((fX11_atLeast (n32 13) (w33 13) (w33 0 1)).bind fun (o_37 : Nat × RI) => (lt9 (stn n32 13 (o_37.1)) fun (n38 : Nat → Nat) => (lt9 (srw w33 13 (o_37.2)) fun (w39 : ST) => (fX2_makeRoom_G116_42 l27 n38 w39))))
theorem mo_fX2_makeRoom_G101_36 {l27 : SL} {n32 : Nat → Nat} {w33 : ST} {o9q : ST × SL × (Nat → Nat)} (hrun : fX2_makeRoom_G101_36 l27 n32 w33 = some o9q) : glX2 n32 (o9q.2.2) := by
  unfold fX2_makeRoom_G101_36 at hrun
  obtain ⟨o_37, hc_37, hrun⟩ := bnd9 hrun
  obtain ⟨n38, en38, hrun⟩ := let9 hrun
  obtain ⟨w39, ew39, hrun⟩ := let9 hrun
  skip
  exact (glX2_tr (by rw [en38]; exact glX2_13 (mo_fX11_atLeast hc_37) : glX2 n32 n38) (mo_fX2_makeRoom_G116_42 hrun))
def fX2_makeRoom_G86_30 (p0w : ST) (n26 : Nat → Nat) (l27 : SL) : Option (ST × SL × (Nat → Nat)) := ((fX11_atLeast (n26 12) (p0w 12) (p0w 0 1)).bind fun (o_31 : Nat × RI) => (lt9 (stn n26 12 (o_31.1)) fun (n32 : Nat → Nat) => (lt9 (srw p0w 12 (o_31.2)) fun (w33 : ST) => (fX2_makeRoom_G101_36 l27 n32 w33))))
theorem mo_fX2_makeRoom_G86_30 {p0w : ST} {n26 : Nat → Nat} {l27 : SL} {o9q : ST × SL × (Nat → Nat)} (hrun : fX2_makeRoom_G86_30 p0w n26 l27 = some o9q) : glX2 n26 (o9q.2.2) := by
  unfold fX2_makeRoom_G86_30 at hrun
  obtain ⟨o_31, hc_31, hrun⟩ := bnd9 hrun
  obtain ⟨n32, en32, hrun⟩ := let9 hrun
  obtain ⟨w33, ew33, hrun⟩ := let9 hrun
  skip
  exact (glX2_tr (by rw [en32]; exact glX2_12 (mo_fX11_atLeast hc_31) : glX2 n26 n32) (mo_fX2_makeRoom_G101_36 hrun))
def fX2_makeRoom_G66_24 (p0w : ST) (n20 : Nat → Nat) (l21 : SL) : Option (ST × SL × (Nat → Nat)) := ((fX11_atLeast_ (n20 11) (l21 11) ((p0w 0 1) * (p0w 0 2))).bind fun (o_25 : Nat × RL) => (lt9 (stn n20 11 (o_25.1)) fun (n26 : Nat → Nat) => (lt9 (srl l21 11 (o_25.2)) fun (l27 : SL) => (fX2_makeRoom_G86_30 p0w n26 l27))))
theorem mo_fX2_makeRoom_G66_24 {p0w : ST} {n20 : Nat → Nat} {l21 : SL} {o9q : ST × SL × (Nat → Nat)} (hrun : fX2_makeRoom_G66_24 p0w n20 l21 = some o9q) : glX2 n20 (o9q.2.2) := by
  unfold fX2_makeRoom_G66_24 at hrun
  obtain ⟨o_25, hc_25, hrun⟩ := bnd9 hrun
  obtain ⟨n26, en26, hrun⟩ := let9 hrun
  obtain ⟨l27, el27, hrun⟩ := let9 hrun
  skip
  exact (glX2_tr (by rw [en26]; exact glX2_11 (mo_fX11_atLeast_ hc_25) : glX2 n20 n26) (mo_fX2_makeRoom_G86_30 hrun))
def fX2_makeRoom_G51_18 (p0w : ST) (n14 : Nat → Nat) (l15 : SL) : Option (ST × SL × (Nat → Nat)) := ((fX11_atLeast_ (n14 7) (l15 7) (p0w 0 2)).bind fun (o_19 : Nat × RL) => (lt9 (stn n14 7 (o_19.1)) fun (n20 : Nat → Nat) => (lt9 (srl l15 7 (o_19.2)) fun (l21 : SL) => (fX2_makeRoom_G66_24 p0w n20 l21))))
theorem mo_fX2_makeRoom_G51_18 {p0w : ST} {n14 : Nat → Nat} {l15 : SL} {o9q : ST × SL × (Nat → Nat)} (hrun : fX2_makeRoom_G51_18 p0w n14 l15 = some o9q) : glX2 n14 (o9q.2.2) := by
  unfold fX2_makeRoom_G51_18 at hrun
  obtain ⟨o_19, hc_19, hrun⟩ := bnd9 hrun
  obtain ⟨n20, en20, hrun⟩ := let9 hrun
  obtain ⟨l21, el21, hrun⟩ := let9 hrun
  skip
  exact (glX2_tr (by rw [en20]; exact glX2_7 (mo_fX11_atLeast_ hc_19) : glX2 n14 n20) (mo_fX2_makeRoom_G66_24 hrun))
def fX2_makeRoom_G34_12 (p0w : ST) (p1 : Int32) (n8 : Nat → Nat) (l9 : SL) : Option (ST × SL × (Nat → Nat)) := ((fX11_atLeast_ (n8 6) (l9 6) (p1 * (p0w 0 2))).bind fun (o_13 : Nat × RL) => (lt9 (stn n8 6 (o_13.1)) fun (n14 : Nat → Nat) => (lt9 (srl l9 6 (o_13.2)) fun (l15 : SL) => (fX2_makeRoom_G51_18 p0w n14 l15))))
theorem mo_fX2_makeRoom_G34_12 {p0w : ST} {p1 : Int32} {n8 : Nat → Nat} {l9 : SL} {o9q : ST × SL × (Nat → Nat)} (hrun : fX2_makeRoom_G34_12 p0w p1 n8 l9 = some o9q) : glX2 n8 (o9q.2.2) := by
  unfold fX2_makeRoom_G34_12 at hrun
  obtain ⟨o_13, hc_13, hrun⟩ := bnd9 hrun
  obtain ⟨n14, en14, hrun⟩ := let9 hrun
  obtain ⟨l15, el15, hrun⟩ := let9 hrun
  skip
  exact (glX2_tr (by rw [en14]; exact glX2_6 (mo_fX11_atLeast_ hc_13) : glX2 n8 n14) (mo_fX2_makeRoom_G51_18 hrun))
def fX2_makeRoom_G17_6 (p0w : ST) (p1 : Int32) (n2 : Nat → Nat) (l3 : SL) : Option (ST × SL × (Nat → Nat)) := ((fX11_atLeast_ (n2 5) (l3 5) (p1 * (p0w 0 2))).bind fun (o_7 : Nat × RL) => (lt9 (stn n2 5 (o_7.1)) fun (n8 : Nat → Nat) => (lt9 (srl l3 5 (o_7.2)) fun (l9 : SL) => (fX2_makeRoom_G34_12 p0w p1 n8 l9))))
theorem mo_fX2_makeRoom_G17_6 {p0w : ST} {p1 : Int32} {n2 : Nat → Nat} {l3 : SL} {o9q : ST × SL × (Nat → Nat)} (hrun : fX2_makeRoom_G17_6 p0w p1 n2 l3 = some o9q) : glX2 n2 (o9q.2.2) := by
  unfold fX2_makeRoom_G17_6 at hrun
  obtain ⟨o_7, hc_7, hrun⟩ := bnd9 hrun
  obtain ⟨n8, en8, hrun⟩ := let9 hrun
  obtain ⟨l9, el9, hrun⟩ := let9 hrun
  skip
  exact (glX2_tr (by rw [en8]; exact glX2_5 (mo_fX11_atLeast_ hc_7) : glX2 n2 n8) (mo_fX2_makeRoom_G34_12 hrun))
def fX2_makeRoom (p0n : Nat → Nat) (p0w : ST) (p0l : SL) (p1 : Int32) : Option (ST × SL × (Nat → Nat)) := ((fX11_atLeast_ (p0n 4) (p0l 4) (p1 * (p0w 0 2))).bind fun (o_1 : Nat × RL) => (lt9 (stn p0n 4 (o_1.1)) fun (n2 : Nat → Nat) => (lt9 (srl p0l 4 (o_1.2)) fun (l3 : SL) => (fX2_makeRoom_G17_6 p0w p1 n2 l3))))
theorem mo_fX2_makeRoom {p0n : Nat → Nat} {p0w : ST} {p0l : SL} {p1 : Int32} {o9q : ST × SL × (Nat → Nat)} (hrun : fX2_makeRoom p0n p0w p0l p1 = some o9q) : glX2 p0n (o9q.2.2) := by
  unfold fX2_makeRoom at hrun
  obtain ⟨o_1, hc_1, hrun⟩ := bnd9 hrun
  obtain ⟨n2, en2, hrun⟩ := let9 hrun
  obtain ⟨l3, el3, hrun⟩ := let9 hrun
  skip
  exact (glX2_tr (by rw [en2]; exact glX2_4 (mo_fX11_atLeast_ hc_1) : glX2 p0n n2) (mo_fX2_makeRoom_G17_6 hrun))
set_option maxHeartbeats 16000000 in
set_option maxRecDepth 100000 in
theorem kX2_makeRoom {zs : Nat × Nat} (l : Launch) (dC : Nat → ClassId) (dI : Nat → Nat → Nat) (p0a : Nat → Nat) (p0k : Nat → ClassId) (p0n : Nat → Nat) (p0w : ST) (p0l : SL) (p1 : Int32) (sz : Nat) (o : ST × SL × (Nat → Nat)) (hrun : fX2_makeRoom p0n p0w p0l p1 = some o) : Met l yX2_makeRoom (wz yX2_makeRoom cX2_makeRoom 2 (Option.none : Option Jvm.ClassFile.FieldType)) ({ frames := 3, cells := (gcX2 p0n (o.2.2)), slots := (3 * (gcX2 p0n (o.2.2))), locals := 83 } : Room) (va_Pc [.ref (p0a 0), .int p1] (PRE zs dC dI (oX2 (p0a 0) p0a p0k p0n p0w p0l) (tX2 p0k) sz)) (va_Qv (fun (_ : Unit) => True) (fun _ t => ∃ (xp0_3_z : Nat), ∃ (zp0_3_z : ClassId), ∃ (xp0_4_z : Nat), ∃ (zp0_4_z : ClassId), ∃ (xp0_5_z : Nat), ∃ (zp0_5_z : ClassId), ∃ (xp0_6_z : Nat), ∃ (zp0_6_z : ClassId), ∃ (xp0_9_z : Nat), ∃ (zp0_9_z : ClassId), ∃ (xp0_10_z : Nat), ∃ (zp0_10_z : ClassId), ∃ (xp0_11_z : Nat), ∃ (zp0_11_z : ClassId), ∃ (xp0_12_z : Nat), ∃ (zp0_12_z : ClassId), ∃ (xp0_13_z : Nat), ∃ (zp0_13_z : ClassId), ∃ (xp0_14_z : Nat), ∃ (zp0_14_z : ClassId), ∃ (xp0_15_z : Nat), ∃ (zp0_15_z : ClassId), ∃ (xp0_16_z : Nat), ∃ (zp0_16_z : ClassId), ∃ (xp0_17_z : Nat), ∃ (zp0_17_z : ClassId), ∃ (xp0_18_z : Nat), ∃ (zp0_18_z : ClassId), POST dC dI (oX2 (p0a 0) (st1 (st1 (st1 (st1 (st1 (st1 (st1 (st1 (st1 (st1 (st1 (st1 (st1 (st1 p0a 4 xp0_3_z) 5 xp0_4_z) 6 xp0_5_z) 7 xp0_6_z) 10 xp0_9_z) 11 xp0_10_z) 12 xp0_11_z) 13 xp0_12_z) 14 xp0_13_z) 15 xp0_14_z) 16 xp0_15_z) 17 xp0_16_z) 18 xp0_17_z) 19 xp0_18_z) (st1 (st1 (st1 (st1 (st1 (st1 (st1 (st1 (st1 (st1 (st1 (st1 (st1 (st1 p0k 4 zp0_3_z) 5 zp0_4_z) 6 zp0_5_z) 7 zp0_6_z) 10 zp0_9_z) 11 zp0_10_z) 12 zp0_11_z) 13 zp0_12_z) 14 zp0_13_z) 15 zp0_14_z) 16 zp0_15_z) 17 zp0_16_z) 18 zp0_17_z) 19 zp0_18_z) (o.2.2) (o.1) (o.2.1)) (tX2 (st1 (st1 (st1 (st1 (st1 (st1 (st1 (st1 (st1 (st1 (st1 (st1 (st1 (st1 p0k 4 zp0_3_z) 5 zp0_4_z) 6 zp0_5_z) 7 zp0_6_z) 10 zp0_9_z) 11 zp0_10_z) 12 zp0_11_z) 13 zp0_12_z) 14 zp0_13_z) 15 zp0_14_z) 16 zp0_15_z) 17 zp0_16_z) 18 zp0_17_z) 19 zp0_18_z)) (va_A (oX2 (p0a 0) p0a p0k p0n p0w p0l) sz) t) (va_A (oX2 (p0a 0) p0a p0k p0n p0w p0l) sz)) (gcX2 p0n (o.2.2)) (3 * (gcX2 p0n (o.2.2))) (va_A (oX2 (p0a 0) p0a p0k p0n p0w p0l) sz) := by
  refine Met.ofW (cc := cX2_makeRoom) (maxL := 2) (ret := (Option.none : Option Jvm.ClassFile.FieldType)) (by decide) rfl ?_
  intro p e s m args below meth c s₁ B hml hv
  obtain ⟨rfl, hsz, hP, hK, hD0, hE⟩ := hv
  have hx := B.exec
  have hb := B.bytes
  have hr := B.returns
  have hts0 := atoms_spec (ws := wz yX2_makeRoom cX2_makeRoom 2 (Option.none : Option Jvm.ClassFile.FieldType)) B.pre
  have hts : ∀ w ∈ gw, w.before _ s = true := fun w h => hts0 w (List.mem_cons_of_mem _ h)
  have hown : s.vm.findClass RX2 = some m.cls := findClass_of_methodNamed B.named
  have hlocks := B.notSynchronized
  subst hsz
  have hD := hD0.self (sz := s.heap.size)
  refine gQ9 ?_
  intro Q hQ
  generalize hAe : va_A (oX2 (p0a 0) p0a p0k p0n p0w p0l) s.heap.size = A at hD hE hQ
  have hA : ∀ q : Nat, s.heap.size ≤ q → A q := fun q h => by rw [← hAe]; exact Or.inr h
  have hS : va_S A s.heap s.heap [] := va_S.rf
  have hP : va_P (dC, dI) cls (oX2 (p0a 0) p0a p0k p0n p0w p0l) s.heap := hP
  have hl := lv_entry ([.ref (p0a 0), .int p1]) (n := 2) (Nat.le_of_ble_eq_true rfl)
  rw [lg_entry_eq]
  generalize (lg_sl ([.ref (p0a 0), .int p1]) ++ List.replicate (2 - (lg_sl ([.ref (p0a 0), .int p1])).length) Slot.unset).toArray = ls at hl ⊢
  have hl : lv_has ls 2 [(0, .ref (p0a 0)), (1, .int p1)] := hl
  obtain ⟨H, hHe⟩ : ∃ H, H = s.heap := ⟨_, rfl⟩
  obtain ⟨locs, hle⟩ : ∃ locs : List Loc, locs = [] := ⟨_, rfl⟩
  rw [← hHe] at hP
  have hS : va_S A s.heap H locs := by rw [hHe, hle]; exact hS
  show W p l e ({ frames := 3, cells := (gcX2 p0n (o.2.2)), slots := (3 * (gcX2 p0n (o.2.2))), locals := 83 } : Room) s m ([.ref (p0a 0), .int p1] : List Value).toArray below meth c s.heap [] 0 0 Q (F0 m 0 ls [])
  rw [← hle]
  refine wH9 hHe ?_
  have hg_p0 := glX2_rf p0n
  have hgn_p0 : glX2 p0n (o.2.2) := (mo_fX2_makeRoom hrun)
  refine W.widen (k := (gcX2 p0n p0n)) (n := (3 * (gcX2 p0n p0n))) (Nat.zero_le _) (Nat.zero_le _) ?_
  unfold fX2_makeRoom at hrun
  refine lv_aload_n hx hb dX2_makeRoom_0 rfl (lv_at hl 0 rfl) ?_
  refine lv_aload_n hx hb dX2_makeRoom_1 rfl (lv_at hl 0 rfl) ?_
  refine va_get (D := (dC, dI)) (ci := 9) (v := .ref (p0a 4)) (C := RX2) (T := TX2) (N := 19) hx hb hts i_X2 hown hK hP 0 rfl rfl 3 (by decide) (hts _ qw669) (fun _ h9 => h9) rfl dX2_makeRoom_2 ?_
  refine lv_iload_n hx hb dX2_makeRoom_5 rfl (lv_at hl 1 rfl) ?_
  refine lv_aload_n hx hb dX2_makeRoom_6 rfl (lv_at hl 0 rfl) ?_
  refine va_get (D := (dC, dI)) (ci := 9) (v := .int (p0w 0 2)) (C := RX2) (T := TX2) (N := 19) hx hb hts i_X2 hown hK hP 0 rfl rfl 2 (by decide) (hts _ qw667) (fun _ h9 => h9) rfl dX2_makeRoom_7 ?_
  refine lv_imul hx hb dX2_makeRoom_10 ?_
  obtain ⟨o_1, hc_1, hrun⟩ := bnd9 hrun
  obtain ⟨n2, en2, hrun⟩ := let9 hrun
  obtain ⟨l3, el3, hrun⟩ := let9 hrun
  have hst5 : glX2 p0n n2 := by rw [en2]; exact glX2_4 (mo_fX11_atLeast_ hc_1)
  have hgn_p0 : glX2 n2 (o.2.2) := (mo_fX2_makeRoom_G17_6 hrun)
  have hPc := hP.sub (ws' := [((p0a 4), .inl ((p0k 4), (p0n 4), .inr (.inl (p0l 4))))]) [1] rfl
  have hDc := hD.sub (ws' := [((p0a 4), .inl ((p0k 4), (p0n 4), .inr (.inl (p0l 4))))]) [1] (by decide) rfl
  have hKc := hK.sub (tys' := [((p0k 4), .long)]) [0] rfl
  have hFc := va_free (wc := [((p0a 4), .inl ((p0k 4), (p0n 4), .inr (.inl (p0l 4))))]) hD hS hA [1] rfl
  refine va_callr (va_runSN (As := [.ref (p0a 4), .int (p1 * (p0w 0 2))]) (rest := [.ref (p0a 0)]) ⟨hx, hb, hml, hown, hts⟩ (kX11_atLeast_ l dC dI (p0a := (p0a 4)) (p0k := (p0k 4)) (p0n := (p0n 4)) (p0f := (p0l 4)) (p1 := (p1 * (p0w 0 2))) (sz := _) (o := o_1) (hrun := hc_1)) ⟨(va_cnB 2 hts (gi_z qw674) rfl rfl rfl (hE.nw (List.mem_append_right _ (tbl_8 (i := 195) rfl)) rfl) (hts _ qw129) (by decide +kernel) ⟨Nat.le_of_ble_eq_true rfl, Nat.le_of_ble_eq_true rfl⟩), (hts _ qw675), trivial⟩ ⟨PRE.blind, PRE.of hE hS hFc hPc hKc hDc⟩ rfl rfl hl.1 rfl (lv_room (Nat.le_of_ble_eq_true rfl)) dX2_makeRoom_11 ⟨(show (gcX2 p0n p0n) + (o_1.1 - (p0n 4)) ≤ (gcX2 p0n (o.2.2)) from by have q0 := gsX2 hg_p0 hst5 hgn_p0; have q5 := gcX2_4 (n := p0n) (mo_fX11_atLeast_ hc_1); rw [← en2] at q5; omega), (show (3 * (gcX2 p0n p0n)) + (3 * (o_1.1 - (p0n 4))) ≤ (3 * (gcX2 p0n (o.2.2))) from by have q0 := gsX2 hg_p0 hst5 hgn_p0; have q5 := gcX2_4 (n := p0n) (mo_fX11_atLeast_ hc_1); rw [← en2] at q5; omega)⟩) hS (fun q _ h => hFc q h) hFc (fun u ra5 t H locs ht hvm hw hB hz1 hk1 hS => ?_)
  obtain ⟨z4, hB⟩ := hB
  obtain ⟨hP, hD, hK⟩ := JOIN (wr := [((p0a 0), .inr (9, [.int (p0w 0 0), .int (p0w 0 1), .int (p0w 0 2), .ref (p0a 4), .ref (p0a 5), .ref (p0a 6), .ref (p0a 7), .ref (p0a 8), .int (p0w 0 8), .ref (p0a 10), .ref (p0a 11), .ref (p0a 12), .ref (p0a 13), .ref (p0a 14), .ref (p0a 15), .ref (p0a 16), .ref (p0a 17), .ref (p0a 18), .ref (p0a 19)])), ((p0a 5), .inl ((p0k 5), (p0n 5), .inr (.inl (p0l 5)))), ((p0a 6), .inl ((p0k 6), (p0n 6), .inr (.inl (p0l 6)))), ((p0a 7), .inl ((p0k 7), (p0n 7), .inr (.inl (p0l 7)))), ((p0a 8), .inl ((p0k 8), 2, .inl (p0w 8))), ((p0a 10), .inl ((p0k 10), (p0n 10), .inl (p0w 10))), ((p0a 11), .inl ((p0k 11), (p0n 11), .inr (.inl (p0l 11)))), ((p0a 12), .inl ((p0k 12), (p0n 12), .inl (p0w 12))), ((p0a 13), .inl ((p0k 13), (p0n 13), .inl (p0w 13))), ((p0a 14), .inl ((p0k 14), (p0n 14), .inr (.inl (p0l 14)))), ((p0a 15), .inl ((p0k 15), (p0n 15), .inl (p0w 15))), ((p0a 16), .inl ((p0k 16), (p0n 16), .inl (p0w 16))), ((p0a 17), .inl ((p0k 17), (p0n 17), .inl (p0w 17))), ((p0a 18), .inl ((p0k 18), (p0n 18), .inl (p0w 18))), ((p0a 19), .inl ((p0k 19), (p0n 19), .inl (p0w 19)))]) hP hD hK [1] [0, 2, 3, 4, 5, 6, 7, 8, 9, 10, 11, 12, 13, 14, 15] [1, 2, 3, 4, 5, 6, 7, 8, 9, 10, 11, 12, 13, 14] rfl rfl (by decide) (by decide) rfl hk1 hFc ht hvm hB
  refine va_put (D := (dC, dI)) (ci := 9) (v := .ref ra5) (ty := .array .long) (C := RX2) (T := TX2) (N := 19) hx hb hts i_X2 tyX2 tyX2_ok nmX2 hown hK hP hD hS 0 rfl rfl 3 (by decide) (hts _ qw669) (fun _ h9 => h9) rfl (by decide +kernel) rfl rfl (Nat.le_of_ble_eq_true rfl) dX2_makeRoom_14 (fun H locs hP hD hS => ?_)
  have hP : va_P (dC, dI) cls (oX2 (p0a 0) (st1 p0a 4 ra5) (st1 p0k 4 z4) n2 p0w l3) H := by rw [en2, el3]; exact hP.sub [0, 15, 1, 2, 3, 4, 5, 6, 7, 8, 9, 10, 11, 12, 13, 14] rfl
  have hD : va_D A (oX2 (p0a 0) (st1 p0a 4 ra5) (st1 p0k 4 z4) n2 p0w l3) := by rw [en2, el3]; exact hD.sub [0, 15, 1, 2, 3, 4, 5, 6, 7, 8, 9, 10, 11, 12, 13, 14] (by decide) rfl
  have hK : va_K (dC, dI) cls (tX2 (st1 p0k 4 z4)) s := hK.sub [14, 0, 1, 2, 3, 4, 5, 6, 7, 8, 9, 10, 11, 12, 13] rfl
  refine W.widen (k := (gcX2 p0n n2)) (n := (3 * (gcX2 p0n n2))) (by have a0 := gcX2_add hg_p0 hst5; have q5 := gcX2_4 (n := p0n) (mo_fX11_atLeast_ hc_1); rw [← en2] at q5; omega) (by have a0 := gcX2_add hg_p0 hst5; have q5 := gcX2_4 (n := p0n) (mo_fX11_atLeast_ hc_1); rw [← en2] at q5; omega) ?_
  have hg_p0 : glX2 p0n n2 := glX2_tr hg_p0 hst5
  unfold fX2_makeRoom_G17_6 at hrun
  refine lv_aload_n hx hb dX2_makeRoom_17 rfl (lv_at hl 0 rfl) ?_
  refine lv_aload_n hx hb dX2_makeRoom_18 rfl (lv_at hl 0 rfl) ?_
  refine va_get (D := (dC, dI)) (ci := 9) (v := .ref (p0a 5)) (C := RX2) (T := TX2) (N := 19) hx hb hts i_X2 hown hK hP 0 rfl rfl 4 (by decide) (hts _ qw676) (fun _ h9 => h9) rfl dX2_makeRoom_19 ?_
  refine lv_iload_n hx hb dX2_makeRoom_22 rfl (lv_at hl 1 rfl) ?_
  refine lv_aload_n hx hb dX2_makeRoom_23 rfl (lv_at hl 0 rfl) ?_
  refine va_get (D := (dC, dI)) (ci := 9) (v := .int (p0w 0 2)) (C := RX2) (T := TX2) (N := 19) hx hb hts i_X2 hown hK hP 0 rfl rfl 2 (by decide) (hts _ qw667) (fun _ h9 => h9) rfl dX2_makeRoom_24 ?_
  refine lv_imul hx hb dX2_makeRoom_27 ?_
  obtain ⟨o_7, hc_7, hrun⟩ := bnd9 hrun
  obtain ⟨n8, en8, hrun⟩ := let9 hrun
  obtain ⟨l9, el9, hrun⟩ := let9 hrun
  have hst11 : glX2 n2 n8 := by rw [en8]; exact glX2_5 (mo_fX11_atLeast_ hc_7)
  have hgn_p0 : glX2 n8 (o.2.2) := (mo_fX2_makeRoom_G34_12 hrun)
  have hPc := hP.sub (ws' := [((p0a 5), .inl ((p0k 5), (n2 5), .inr (.inl (l3 5))))]) [2] rfl
  have hDc := hD.sub (ws' := [((p0a 5), .inl ((p0k 5), (n2 5), .inr (.inl (l3 5))))]) [2] (by decide) rfl
  have hKc := hK.sub (tys' := [((p0k 5), .long)]) [1] rfl
  have hFc := va_free (wc := [((p0a 5), .inl ((p0k 5), (n2 5), .inr (.inl (l3 5))))]) hD hS hA [2] rfl
  refine va_callr (va_runSN (As := [.ref (p0a 5), .int (p1 * (p0w 0 2))]) (rest := [.ref (p0a 0)]) ⟨hx, hb, hml, hown, hts⟩ (kX11_atLeast_ l dC dI (p0a := (p0a 5)) (p0k := (p0k 5)) (p0n := (n2 5)) (p0f := (l3 5)) (p1 := (p1 * (p0w 0 2))) (sz := _) (o := o_7) (hrun := hc_7)) ⟨(va_cnB 2 hts (gi_z qw674) rfl rfl rfl (hE.nw (List.mem_append_right _ (tbl_8 (i := 195) rfl)) rfl) (hts _ qw129) (by decide +kernel) ⟨Nat.le_of_ble_eq_true rfl, Nat.le_of_ble_eq_true rfl⟩), (hts _ qw675), trivial⟩ ⟨PRE.blind, PRE.of hE hS hFc hPc hKc hDc⟩ rfl rfl hl.1 rfl (lv_room (Nat.le_of_ble_eq_true rfl)) dX2_makeRoom_28 ⟨(show (gcX2 p0n n2) + (o_7.1 - (n2 5)) ≤ (gcX2 p0n (o.2.2)) from by have q0 := gsX2 hg_p0 hst11 hgn_p0; have q5 := gcX2_5 (n := n2) (mo_fX11_atLeast_ hc_7); rw [← en8] at q5; omega), (show (3 * (gcX2 p0n n2)) + (3 * (o_7.1 - (n2 5))) ≤ (3 * (gcX2 p0n (o.2.2))) from by have q0 := gsX2 hg_p0 hst11 hgn_p0; have q5 := gcX2_5 (n := n2) (mo_fX11_atLeast_ hc_7); rw [← en8] at q5; omega)⟩) hS (fun q _ h => hFc q h) hFc (fun u ra11 t H locs ht hvm hw hB hz1 hk1 hS => ?_)
  obtain ⟨z10, hB⟩ := hB
  obtain ⟨hP, hD, hK⟩ := JOIN (wr := [((p0a 0), .inr (9, [.int (p0w 0 0), .int (p0w 0 1), .int (p0w 0 2), .ref ra5, .ref (p0a 5), .ref (p0a 6), .ref (p0a 7), .ref (p0a 8), .int (p0w 0 8), .ref (p0a 10), .ref (p0a 11), .ref (p0a 12), .ref (p0a 13), .ref (p0a 14), .ref (p0a 15), .ref (p0a 16), .ref (p0a 17), .ref (p0a 18), .ref (p0a 19)])), (ra5, .inl (z4, (n2 4), .inr (.inl (l3 4)))), ((p0a 6), .inl ((p0k 6), (n2 6), .inr (.inl (l3 6)))), ((p0a 7), .inl ((p0k 7), (n2 7), .inr (.inl (l3 7)))), ((p0a 8), .inl ((p0k 8), 2, .inl (p0w 8))), ((p0a 10), .inl ((p0k 10), (n2 10), .inl (p0w 10))), ((p0a 11), .inl ((p0k 11), (n2 11), .inr (.inl (l3 11)))), ((p0a 12), .inl ((p0k 12), (n2 12), .inl (p0w 12))), ((p0a 13), .inl ((p0k 13), (n2 13), .inl (p0w 13))), ((p0a 14), .inl ((p0k 14), (n2 14), .inr (.inl (l3 14)))), ((p0a 15), .inl ((p0k 15), (n2 15), .inl (p0w 15))), ((p0a 16), .inl ((p0k 16), (n2 16), .inl (p0w 16))), ((p0a 17), .inl ((p0k 17), (n2 17), .inl (p0w 17))), ((p0a 18), .inl ((p0k 18), (n2 18), .inl (p0w 18))), ((p0a 19), .inl ((p0k 19), (n2 19), .inl (p0w 19)))]) hP hD hK [2] [0, 1, 3, 4, 5, 6, 7, 8, 9, 10, 11, 12, 13, 14, 15] [0, 2, 3, 4, 5, 6, 7, 8, 9, 10, 11, 12, 13, 14] rfl rfl (by decide) (by decide) rfl hk1 hFc ht hvm hB
  refine va_put (D := (dC, dI)) (ci := 9) (v := .ref ra11) (ty := .array .long) (C := RX2) (T := TX2) (N := 19) hx hb hts i_X2 tyX2 tyX2_ok nmX2 hown hK hP hD hS 0 rfl rfl 4 (by decide) (hts _ qw676) (fun _ h9 => h9) rfl (by decide +kernel) rfl rfl (Nat.le_of_ble_eq_true rfl) dX2_makeRoom_31 (fun H locs hP hD hS => ?_)
  have hP : va_P (dC, dI) cls (oX2 (p0a 0) (st1 (st1 p0a 4 ra5) 5 ra11) (st1 (st1 p0k 4 z4) 5 z10) n8 p0w l9) H := by rw [en8, el9]; exact hP.sub [0, 1, 15, 2, 3, 4, 5, 6, 7, 8, 9, 10, 11, 12, 13, 14] rfl
  have hD : va_D A (oX2 (p0a 0) (st1 (st1 p0a 4 ra5) 5 ra11) (st1 (st1 p0k 4 z4) 5 z10) n8 p0w l9) := by rw [en8, el9]; exact hD.sub [0, 1, 15, 2, 3, 4, 5, 6, 7, 8, 9, 10, 11, 12, 13, 14] (by decide) rfl
  have hK : va_K (dC, dI) cls (tX2 (st1 (st1 p0k 4 z4) 5 z10)) s := hK.sub [0, 14, 1, 2, 3, 4, 5, 6, 7, 8, 9, 10, 11, 12, 13] rfl
  refine W.widen (k := (gcX2 p0n n8)) (n := (3 * (gcX2 p0n n8))) (by have a0 := gcX2_add hg_p0 hst11; have q5 := gcX2_5 (n := n2) (mo_fX11_atLeast_ hc_7); rw [← en8] at q5; omega) (by have a0 := gcX2_add hg_p0 hst11; have q5 := gcX2_5 (n := n2) (mo_fX11_atLeast_ hc_7); rw [← en8] at q5; omega) ?_
  have hg_p0 : glX2 p0n n8 := glX2_tr hg_p0 hst11
  unfold fX2_makeRoom_G34_12 at hrun
  refine lv_aload_n hx hb dX2_makeRoom_34 rfl (lv_at hl 0 rfl) ?_
  refine lv_aload_n hx hb dX2_makeRoom_35 rfl (lv_at hl 0 rfl) ?_
  refine va_get (D := (dC, dI)) (ci := 9) (v := .ref (p0a 6)) (C := RX2) (T := TX2) (N := 19) hx hb hts i_X2 hown hK hP 0 rfl rfl 5 (by decide) (hts _ qw677) (fun _ h9 => h9) rfl dX2_makeRoom_36 ?_
  refine lv_iload_n hx hb dX2_makeRoom_39 rfl (lv_at hl 1 rfl) ?_
  refine lv_aload_n hx hb dX2_makeRoom_40 rfl (lv_at hl 0 rfl) ?_
  refine va_get (D := (dC, dI)) (ci := 9) (v := .int (p0w 0 2)) (C := RX2) (T := TX2) (N := 19) hx hb hts i_X2 hown hK hP 0 rfl rfl 2 (by decide) (hts _ qw667) (fun _ h9 => h9) rfl dX2_makeRoom_41 ?_
  refine lv_imul hx hb dX2_makeRoom_44 ?_
  obtain ⟨o_13, hc_13, hrun⟩ := bnd9 hrun
  obtain ⟨n14, en14, hrun⟩ := let9 hrun
  obtain ⟨l15, el15, hrun⟩ := let9 hrun
  have hst17 : glX2 n8 n14 := by rw [en14]; exact glX2_6 (mo_fX11_atLeast_ hc_13)
  have hgn_p0 : glX2 n14 (o.2.2) := (mo_fX2_makeRoom_G51_18 hrun)
  have hPc := hP.sub (ws' := [((p0a 6), .inl ((p0k 6), (n8 6), .inr (.inl (l9 6))))]) [3] rfl
  have hDc := hD.sub (ws' := [((p0a 6), .inl ((p0k 6), (n8 6), .inr (.inl (l9 6))))]) [3] (by decide) rfl
  have hKc := hK.sub (tys' := [((p0k 6), .long)]) [2] rfl
  have hFc := va_free (wc := [((p0a 6), .inl ((p0k 6), (n8 6), .inr (.inl (l9 6))))]) hD hS hA [3] rfl
  refine va_callr (va_runSN (As := [.ref (p0a 6), .int (p1 * (p0w 0 2))]) (rest := [.ref (p0a 0)]) ⟨hx, hb, hml, hown, hts⟩ (kX11_atLeast_ l dC dI (p0a := (p0a 6)) (p0k := (p0k 6)) (p0n := (n8 6)) (p0f := (l9 6)) (p1 := (p1 * (p0w 0 2))) (sz := _) (o := o_13) (hrun := hc_13)) ⟨(va_cnB 2 hts (gi_z qw674) rfl rfl rfl (hE.nw (List.mem_append_right _ (tbl_8 (i := 195) rfl)) rfl) (hts _ qw129) (by decide +kernel) ⟨Nat.le_of_ble_eq_true rfl, Nat.le_of_ble_eq_true rfl⟩), (hts _ qw675), trivial⟩ ⟨PRE.blind, PRE.of hE hS hFc hPc hKc hDc⟩ rfl rfl hl.1 rfl (lv_room (Nat.le_of_ble_eq_true rfl)) dX2_makeRoom_45 ⟨(show (gcX2 p0n n8) + (o_13.1 - (n8 6)) ≤ (gcX2 p0n (o.2.2)) from by have q0 := gsX2 hg_p0 hst17 hgn_p0; have q5 := gcX2_6 (n := n8) (mo_fX11_atLeast_ hc_13); rw [← en14] at q5; omega), (show (3 * (gcX2 p0n n8)) + (3 * (o_13.1 - (n8 6))) ≤ (3 * (gcX2 p0n (o.2.2))) from by have q0 := gsX2 hg_p0 hst17 hgn_p0; have q5 := gcX2_6 (n := n8) (mo_fX11_atLeast_ hc_13); rw [← en14] at q5; omega)⟩) hS (fun q _ h => hFc q h) hFc (fun u ra17 t H locs ht hvm hw hB hz1 hk1 hS => ?_)
  obtain ⟨z16, hB⟩ := hB
  obtain ⟨hP, hD, hK⟩ := JOIN (wr := [((p0a 0), .inr (9, [.int (p0w 0 0), .int (p0w 0 1), .int (p0w 0 2), .ref ra5, .ref ra11, .ref (p0a 6), .ref (p0a 7), .ref (p0a 8), .int (p0w 0 8), .ref (p0a 10), .ref (p0a 11), .ref (p0a 12), .ref (p0a 13), .ref (p0a 14), .ref (p0a 15), .ref (p0a 16), .ref (p0a 17), .ref (p0a 18), .ref (p0a 19)])), (ra5, .inl (z4, (n8 4), .inr (.inl (l9 4)))), (ra11, .inl (z10, (n8 5), .inr (.inl (l9 5)))), ((p0a 7), .inl ((p0k 7), (n8 7), .inr (.inl (l9 7)))), ((p0a 8), .inl ((p0k 8), 2, .inl (p0w 8))), ((p0a 10), .inl ((p0k 10), (n8 10), .inl (p0w 10))), ((p0a 11), .inl ((p0k 11), (n8 11), .inr (.inl (l9 11)))), ((p0a 12), .inl ((p0k 12), (n8 12), .inl (p0w 12))), ((p0a 13), .inl ((p0k 13), (n8 13), .inl (p0w 13))), ((p0a 14), .inl ((p0k 14), (n8 14), .inr (.inl (l9 14)))), ((p0a 15), .inl ((p0k 15), (n8 15), .inl (p0w 15))), ((p0a 16), .inl ((p0k 16), (n8 16), .inl (p0w 16))), ((p0a 17), .inl ((p0k 17), (n8 17), .inl (p0w 17))), ((p0a 18), .inl ((p0k 18), (n8 18), .inl (p0w 18))), ((p0a 19), .inl ((p0k 19), (n8 19), .inl (p0w 19)))]) hP hD hK [3] [0, 1, 2, 4, 5, 6, 7, 8, 9, 10, 11, 12, 13, 14, 15] [0, 1, 3, 4, 5, 6, 7, 8, 9, 10, 11, 12, 13, 14] rfl rfl (by decide) (by decide) rfl hk1 hFc ht hvm hB
  refine va_put (D := (dC, dI)) (ci := 9) (v := .ref ra17) (ty := .array .long) (C := RX2) (T := TX2) (N := 19) hx hb hts i_X2 tyX2 tyX2_ok nmX2 hown hK hP hD hS 0 rfl rfl 5 (by decide) (hts _ qw677) (fun _ h9 => h9) rfl (by decide +kernel) rfl rfl (Nat.le_of_ble_eq_true rfl) dX2_makeRoom_48 (fun H locs hP hD hS => ?_)
  have hP : va_P (dC, dI) cls (oX2 (p0a 0) (st1 (st1 (st1 p0a 4 ra5) 5 ra11) 6 ra17) (st1 (st1 (st1 p0k 4 z4) 5 z10) 6 z16) n14 p0w l15) H := by rw [en14, el15]; exact hP.sub [0, 1, 2, 15, 3, 4, 5, 6, 7, 8, 9, 10, 11, 12, 13, 14] rfl
  have hD : va_D A (oX2 (p0a 0) (st1 (st1 (st1 p0a 4 ra5) 5 ra11) 6 ra17) (st1 (st1 (st1 p0k 4 z4) 5 z10) 6 z16) n14 p0w l15) := by rw [en14, el15]; exact hD.sub [0, 1, 2, 15, 3, 4, 5, 6, 7, 8, 9, 10, 11, 12, 13, 14] (by decide) rfl
  have hK : va_K (dC, dI) cls (tX2 (st1 (st1 (st1 p0k 4 z4) 5 z10) 6 z16)) s := hK.sub [0, 1, 14, 2, 3, 4, 5, 6, 7, 8, 9, 10, 11, 12, 13] rfl
  refine W.widen (k := (gcX2 p0n n14)) (n := (3 * (gcX2 p0n n14))) (by have a0 := gcX2_add hg_p0 hst17; have q5 := gcX2_6 (n := n8) (mo_fX11_atLeast_ hc_13); rw [← en14] at q5; omega) (by have a0 := gcX2_add hg_p0 hst17; have q5 := gcX2_6 (n := n8) (mo_fX11_atLeast_ hc_13); rw [← en14] at q5; omega) ?_
  have hg_p0 : glX2 p0n n14 := glX2_tr hg_p0 hst17
  unfold fX2_makeRoom_G51_18 at hrun
  refine lv_aload_n hx hb dX2_makeRoom_51 rfl (lv_at hl 0 rfl) ?_
  refine lv_aload_n hx hb dX2_makeRoom_52 rfl (lv_at hl 0 rfl) ?_
  refine va_get (D := (dC, dI)) (ci := 9) (v := .ref (p0a 7)) (C := RX2) (T := TX2) (N := 19) hx hb hts i_X2 hown hK hP 0 rfl rfl 6 (by decide) (hts _ qw678) (fun _ h9 => h9) rfl dX2_makeRoom_53 ?_
  refine lv_aload_n hx hb dX2_makeRoom_56 rfl (lv_at hl 0 rfl) ?_
  refine va_get (D := (dC, dI)) (ci := 9) (v := .int (p0w 0 2)) (C := RX2) (T := TX2) (N := 19) hx hb hts i_X2 hown hK hP 0 rfl rfl 2 (by decide) (hts _ qw667) (fun _ h9 => h9) rfl dX2_makeRoom_57 ?_
  obtain ⟨o_19, hc_19, hrun⟩ := bnd9 hrun
  obtain ⟨n20, en20, hrun⟩ := let9 hrun
  obtain ⟨l21, el21, hrun⟩ := let9 hrun
  have hst23 : glX2 n14 n20 := by rw [en20]; exact glX2_7 (mo_fX11_atLeast_ hc_19)
  have hgn_p0 : glX2 n20 (o.2.2) := (mo_fX2_makeRoom_G66_24 hrun)
  have hPc := hP.sub (ws' := [((p0a 7), .inl ((p0k 7), (n14 7), .inr (.inl (l15 7))))]) [4] rfl
  have hDc := hD.sub (ws' := [((p0a 7), .inl ((p0k 7), (n14 7), .inr (.inl (l15 7))))]) [4] (by decide) rfl
  have hKc := hK.sub (tys' := [((p0k 7), .long)]) [3] rfl
  have hFc := va_free (wc := [((p0a 7), .inl ((p0k 7), (n14 7), .inr (.inl (l15 7))))]) hD hS hA [4] rfl
  refine va_callr (va_runSN (As := [.ref (p0a 7), .int (p0w 0 2)]) (rest := [.ref (p0a 0)]) ⟨hx, hb, hml, hown, hts⟩ (kX11_atLeast_ l dC dI (p0a := (p0a 7)) (p0k := (p0k 7)) (p0n := (n14 7)) (p0f := (l15 7)) (p1 := (p0w 0 2)) (sz := _) (o := o_19) (hrun := hc_19)) ⟨(va_cnB 2 hts (gi_z qw674) rfl rfl rfl (hE.nw (List.mem_append_right _ (tbl_8 (i := 195) rfl)) rfl) (hts _ qw129) (by decide +kernel) ⟨Nat.le_of_ble_eq_true rfl, Nat.le_of_ble_eq_true rfl⟩), (hts _ qw675), trivial⟩ ⟨PRE.blind, PRE.of hE hS hFc hPc hKc hDc⟩ rfl rfl hl.1 rfl (lv_room (Nat.le_of_ble_eq_true rfl)) dX2_makeRoom_60 ⟨(show (gcX2 p0n n14) + (o_19.1 - (n14 7)) ≤ (gcX2 p0n (o.2.2)) from by have q0 := gsX2 hg_p0 hst23 hgn_p0; have q5 := gcX2_7 (n := n14) (mo_fX11_atLeast_ hc_19); rw [← en20] at q5; omega), (show (3 * (gcX2 p0n n14)) + (3 * (o_19.1 - (n14 7))) ≤ (3 * (gcX2 p0n (o.2.2))) from by have q0 := gsX2 hg_p0 hst23 hgn_p0; have q5 := gcX2_7 (n := n14) (mo_fX11_atLeast_ hc_19); rw [← en20] at q5; omega)⟩) hS (fun q _ h => hFc q h) hFc (fun u ra23 t H locs ht hvm hw hB hz1 hk1 hS => ?_)
  obtain ⟨z22, hB⟩ := hB
  obtain ⟨hP, hD, hK⟩ := JOIN (wr := [((p0a 0), .inr (9, [.int (p0w 0 0), .int (p0w 0 1), .int (p0w 0 2), .ref ra5, .ref ra11, .ref ra17, .ref (p0a 7), .ref (p0a 8), .int (p0w 0 8), .ref (p0a 10), .ref (p0a 11), .ref (p0a 12), .ref (p0a 13), .ref (p0a 14), .ref (p0a 15), .ref (p0a 16), .ref (p0a 17), .ref (p0a 18), .ref (p0a 19)])), (ra5, .inl (z4, (n14 4), .inr (.inl (l15 4)))), (ra11, .inl (z10, (n14 5), .inr (.inl (l15 5)))), (ra17, .inl (z16, (n14 6), .inr (.inl (l15 6)))), ((p0a 8), .inl ((p0k 8), 2, .inl (p0w 8))), ((p0a 10), .inl ((p0k 10), (n14 10), .inl (p0w 10))), ((p0a 11), .inl ((p0k 11), (n14 11), .inr (.inl (l15 11)))), ((p0a 12), .inl ((p0k 12), (n14 12), .inl (p0w 12))), ((p0a 13), .inl ((p0k 13), (n14 13), .inl (p0w 13))), ((p0a 14), .inl ((p0k 14), (n14 14), .inr (.inl (l15 14)))), ((p0a 15), .inl ((p0k 15), (n14 15), .inl (p0w 15))), ((p0a 16), .inl ((p0k 16), (n14 16), .inl (p0w 16))), ((p0a 17), .inl ((p0k 17), (n14 17), .inl (p0w 17))), ((p0a 18), .inl ((p0k 18), (n14 18), .inl (p0w 18))), ((p0a 19), .inl ((p0k 19), (n14 19), .inl (p0w 19)))]) hP hD hK [4] [0, 1, 2, 3, 5, 6, 7, 8, 9, 10, 11, 12, 13, 14, 15] [0, 1, 2, 4, 5, 6, 7, 8, 9, 10, 11, 12, 13, 14] rfl rfl (by decide) (by decide) rfl hk1 hFc ht hvm hB
  refine va_put (D := (dC, dI)) (ci := 9) (v := .ref ra23) (ty := .array .long) (C := RX2) (T := TX2) (N := 19) hx hb hts i_X2 tyX2 tyX2_ok nmX2 hown hK hP hD hS 0 rfl rfl 6 (by decide) (hts _ qw678) (fun _ h9 => h9) rfl (by decide +kernel) rfl rfl (Nat.le_of_ble_eq_true rfl) dX2_makeRoom_63 (fun H locs hP hD hS => ?_)
  have hP : va_P (dC, dI) cls (oX2 (p0a 0) (st1 (st1 (st1 (st1 p0a 4 ra5) 5 ra11) 6 ra17) 7 ra23) (st1 (st1 (st1 (st1 p0k 4 z4) 5 z10) 6 z16) 7 z22) n20 p0w l21) H := by rw [en20, el21]; exact hP.sub [0, 1, 2, 3, 15, 4, 5, 6, 7, 8, 9, 10, 11, 12, 13, 14] rfl
  have hD : va_D A (oX2 (p0a 0) (st1 (st1 (st1 (st1 p0a 4 ra5) 5 ra11) 6 ra17) 7 ra23) (st1 (st1 (st1 (st1 p0k 4 z4) 5 z10) 6 z16) 7 z22) n20 p0w l21) := by rw [en20, el21]; exact hD.sub [0, 1, 2, 3, 15, 4, 5, 6, 7, 8, 9, 10, 11, 12, 13, 14] (by decide) rfl
  have hK : va_K (dC, dI) cls (tX2 (st1 (st1 (st1 (st1 p0k 4 z4) 5 z10) 6 z16) 7 z22)) s := hK.sub [0, 1, 2, 14, 3, 4, 5, 6, 7, 8, 9, 10, 11, 12, 13] rfl
  refine W.widen (k := (gcX2 p0n n20)) (n := (3 * (gcX2 p0n n20))) (by have a0 := gcX2_add hg_p0 hst23; have q5 := gcX2_7 (n := n14) (mo_fX11_atLeast_ hc_19); rw [← en20] at q5; omega) (by have a0 := gcX2_add hg_p0 hst23; have q5 := gcX2_7 (n := n14) (mo_fX11_atLeast_ hc_19); rw [← en20] at q5; omega) ?_
  have hg_p0 : glX2 p0n n20 := glX2_tr hg_p0 hst23
  unfold fX2_makeRoom_G66_24 at hrun
  refine lv_aload_n hx hb dX2_makeRoom_66 rfl (lv_at hl 0 rfl) ?_
  refine lv_aload_n hx hb dX2_makeRoom_67 rfl (lv_at hl 0 rfl) ?_
  refine va_get (D := (dC, dI)) (ci := 9) (v := .ref (p0a 11)) (C := RX2) (T := TX2) (N := 19) hx hb hts i_X2 hown hK hP 0 rfl rfl 10 (by decide) (hts _ qw679) (fun _ h9 => h9) rfl dX2_makeRoom_68 ?_
  refine lv_aload_n hx hb dX2_makeRoom_71 rfl (lv_at hl 0 rfl) ?_
  refine va_get (D := (dC, dI)) (ci := 9) (v := .int (p0w 0 1)) (C := RX2) (T := TX2) (N := 19) hx hb hts i_X2 hown hK hP 0 rfl rfl 1 (by decide) (hts _ qw666) (fun _ h9 => h9) rfl dX2_makeRoom_72 ?_
  refine lv_aload_n hx hb dX2_makeRoom_75 rfl (lv_at hl 0 rfl) ?_
  refine va_get (D := (dC, dI)) (ci := 9) (v := .int (p0w 0 2)) (C := RX2) (T := TX2) (N := 19) hx hb hts i_X2 hown hK hP 0 rfl rfl 2 (by decide) (hts _ qw667) (fun _ h9 => h9) rfl dX2_makeRoom_76 ?_
  refine lv_imul hx hb dX2_makeRoom_79 ?_
  obtain ⟨o_25, hc_25, hrun⟩ := bnd9 hrun
  obtain ⟨n26, en26, hrun⟩ := let9 hrun
  obtain ⟨l27, el27, hrun⟩ := let9 hrun
  have hst29 : glX2 n20 n26 := by rw [en26]; exact glX2_11 (mo_fX11_atLeast_ hc_25)
  have hgn_p0 : glX2 n26 (o.2.2) := (mo_fX2_makeRoom_G86_30 hrun)
  have hPc := hP.sub (ws' := [((p0a 11), .inl ((p0k 11), (n20 11), .inr (.inl (l21 11))))]) [7] rfl
  have hDc := hD.sub (ws' := [((p0a 11), .inl ((p0k 11), (n20 11), .inr (.inl (l21 11))))]) [7] (by decide) rfl
  have hKc := hK.sub (tys' := [((p0k 11), .long)]) [6] rfl
  have hFc := va_free (wc := [((p0a 11), .inl ((p0k 11), (n20 11), .inr (.inl (l21 11))))]) hD hS hA [7] rfl
  refine va_callr (va_runSN (As := [.ref (p0a 11), .int ((p0w 0 1) * (p0w 0 2))]) (rest := [.ref (p0a 0)]) ⟨hx, hb, hml, hown, hts⟩ (kX11_atLeast_ l dC dI (p0a := (p0a 11)) (p0k := (p0k 11)) (p0n := (n20 11)) (p0f := (l21 11)) (p1 := ((p0w 0 1) * (p0w 0 2))) (sz := _) (o := o_25) (hrun := hc_25)) ⟨(va_cnB 2 hts (gi_z qw674) rfl rfl rfl (hE.nw (List.mem_append_right _ (tbl_8 (i := 195) rfl)) rfl) (hts _ qw129) (by decide +kernel) ⟨Nat.le_of_ble_eq_true rfl, Nat.le_of_ble_eq_true rfl⟩), (hts _ qw675), trivial⟩ ⟨PRE.blind, PRE.of hE hS hFc hPc hKc hDc⟩ rfl rfl hl.1 rfl (lv_room (Nat.le_of_ble_eq_true rfl)) dX2_makeRoom_80 ⟨(show (gcX2 p0n n20) + (o_25.1 - (n20 11)) ≤ (gcX2 p0n (o.2.2)) from by have q0 := gsX2 hg_p0 hst29 hgn_p0; have q5 := gcX2_11 (n := n20) (mo_fX11_atLeast_ hc_25); rw [← en26] at q5; omega), (show (3 * (gcX2 p0n n20)) + (3 * (o_25.1 - (n20 11))) ≤ (3 * (gcX2 p0n (o.2.2))) from by have q0 := gsX2 hg_p0 hst29 hgn_p0; have q5 := gcX2_11 (n := n20) (mo_fX11_atLeast_ hc_25); rw [← en26] at q5; omega)⟩) hS (fun q _ h => hFc q h) hFc (fun u ra29 t H locs ht hvm hw hB hz1 hk1 hS => ?_)
  obtain ⟨z28, hB⟩ := hB
  obtain ⟨hP, hD, hK⟩ := JOIN (wr := [((p0a 0), .inr (9, [.int (p0w 0 0), .int (p0w 0 1), .int (p0w 0 2), .ref ra5, .ref ra11, .ref ra17, .ref ra23, .ref (p0a 8), .int (p0w 0 8), .ref (p0a 10), .ref (p0a 11), .ref (p0a 12), .ref (p0a 13), .ref (p0a 14), .ref (p0a 15), .ref (p0a 16), .ref (p0a 17), .ref (p0a 18), .ref (p0a 19)])), (ra5, .inl (z4, (n20 4), .inr (.inl (l21 4)))), (ra11, .inl (z10, (n20 5), .inr (.inl (l21 5)))), (ra17, .inl (z16, (n20 6), .inr (.inl (l21 6)))), (ra23, .inl (z22, (n20 7), .inr (.inl (l21 7)))), ((p0a 8), .inl ((p0k 8), 2, .inl (p0w 8))), ((p0a 10), .inl ((p0k 10), (n20 10), .inl (p0w 10))), ((p0a 12), .inl ((p0k 12), (n20 12), .inl (p0w 12))), ((p0a 13), .inl ((p0k 13), (n20 13), .inl (p0w 13))), ((p0a 14), .inl ((p0k 14), (n20 14), .inr (.inl (l21 14)))), ((p0a 15), .inl ((p0k 15), (n20 15), .inl (p0w 15))), ((p0a 16), .inl ((p0k 16), (n20 16), .inl (p0w 16))), ((p0a 17), .inl ((p0k 17), (n20 17), .inl (p0w 17))), ((p0a 18), .inl ((p0k 18), (n20 18), .inl (p0w 18))), ((p0a 19), .inl ((p0k 19), (n20 19), .inl (p0w 19)))]) hP hD hK [7] [0, 1, 2, 3, 4, 5, 6, 8, 9, 10, 11, 12, 13, 14, 15] [0, 1, 2, 3, 4, 5, 7, 8, 9, 10, 11, 12, 13, 14] rfl rfl (by decide) (by decide) rfl hk1 hFc ht hvm hB
  refine va_put (D := (dC, dI)) (ci := 9) (v := .ref ra29) (ty := .array .long) (C := RX2) (T := TX2) (N := 19) hx hb hts i_X2 tyX2 tyX2_ok nmX2 hown hK hP hD hS 0 rfl rfl 10 (by decide) (hts _ qw679) (fun _ h9 => h9) rfl (by decide +kernel) rfl rfl (Nat.le_of_ble_eq_true rfl) dX2_makeRoom_83 (fun H locs hP hD hS => ?_)
  have hP : va_P (dC, dI) cls (oX2 (p0a 0) (st1 (st1 (st1 (st1 (st1 p0a 4 ra5) 5 ra11) 6 ra17) 7 ra23) 11 ra29) (st1 (st1 (st1 (st1 (st1 p0k 4 z4) 5 z10) 6 z16) 7 z22) 11 z28) n26 p0w l27) H := by rw [en26, el27]; exact hP.sub [0, 1, 2, 3, 4, 5, 6, 15, 7, 8, 9, 10, 11, 12, 13, 14] rfl
  have hD : va_D A (oX2 (p0a 0) (st1 (st1 (st1 (st1 (st1 p0a 4 ra5) 5 ra11) 6 ra17) 7 ra23) 11 ra29) (st1 (st1 (st1 (st1 (st1 p0k 4 z4) 5 z10) 6 z16) 7 z22) 11 z28) n26 p0w l27) := by rw [en26, el27]; exact hD.sub [0, 1, 2, 3, 4, 5, 6, 15, 7, 8, 9, 10, 11, 12, 13, 14] (by decide) rfl
  have hK : va_K (dC, dI) cls (tX2 (st1 (st1 (st1 (st1 (st1 p0k 4 z4) 5 z10) 6 z16) 7 z22) 11 z28)) s := hK.sub [0, 1, 2, 3, 4, 5, 14, 6, 7, 8, 9, 10, 11, 12, 13] rfl
  refine W.widen (k := (gcX2 p0n n26)) (n := (3 * (gcX2 p0n n26))) (by have a0 := gcX2_add hg_p0 hst29; have q5 := gcX2_11 (n := n20) (mo_fX11_atLeast_ hc_25); rw [← en26] at q5; omega) (by have a0 := gcX2_add hg_p0 hst29; have q5 := gcX2_11 (n := n20) (mo_fX11_atLeast_ hc_25); rw [← en26] at q5; omega) ?_
  have hg_p0 : glX2 p0n n26 := glX2_tr hg_p0 hst29
  unfold fX2_makeRoom_G86_30 at hrun
  refine lv_aload_n hx hb dX2_makeRoom_86 rfl (lv_at hl 0 rfl) ?_
  refine lv_aload_n hx hb dX2_makeRoom_87 rfl (lv_at hl 0 rfl) ?_
  refine va_get (D := (dC, dI)) (ci := 9) (v := .ref (p0a 12)) (C := RX2) (T := TX2) (N := 19) hx hb hts i_X2 hown hK hP 0 rfl rfl 11 (by decide) (hts _ qw680) (fun _ h9 => h9) rfl dX2_makeRoom_88 ?_
  refine lv_aload_n hx hb dX2_makeRoom_91 rfl (lv_at hl 0 rfl) ?_
  refine va_get (D := (dC, dI)) (ci := 9) (v := .int (p0w 0 1)) (C := RX2) (T := TX2) (N := 19) hx hb hts i_X2 hown hK hP 0 rfl rfl 1 (by decide) (hts _ qw666) (fun _ h9 => h9) rfl dX2_makeRoom_92 ?_
  obtain ⟨o_31, hc_31, hrun⟩ := bnd9 hrun
  obtain ⟨n32, en32, hrun⟩ := let9 hrun
  obtain ⟨w33, ew33, hrun⟩ := let9 hrun
  have hst35 : glX2 n26 n32 := by rw [en32]; exact glX2_12 (mo_fX11_atLeast hc_31)
  have hgn_p0 : glX2 n32 (o.2.2) := (mo_fX2_makeRoom_G101_36 hrun)
  have hPc := hP.sub (ws' := [((p0a 12), .inl ((p0k 12), (n26 12), .inl (p0w 12)))]) [8] rfl
  have hDc := hD.sub (ws' := [((p0a 12), .inl ((p0k 12), (n26 12), .inl (p0w 12)))]) [8] (by decide) rfl
  have hKc := hK.sub (tys' := [((p0k 12), .int)]) [7] rfl
  have hFc := va_free (wc := [((p0a 12), .inl ((p0k 12), (n26 12), .inl (p0w 12)))]) hD hS hA [8] rfl
  refine va_callr (va_runSN (As := [.ref (p0a 12), .int (p0w 0 1)]) (rest := [.ref (p0a 0)]) ⟨hx, hb, hml, hown, hts⟩ (kX11_atLeast l dC dI (p0a := (p0a 12)) (p0k := (p0k 12)) (p0n := (n26 12)) (p0f := (p0w 12)) (p1 := (p0w 0 1)) (sz := _) (o := o_31) (hrun := hc_31)) ⟨(va_cnB 2 hts (gi_z qw128) rfl rfl rfl (hE.nw (List.mem_append_right _ (tbl_8 (i := 206) rfl)) rfl) (hts _ qw129) (by decide +kernel) ⟨Nat.le_of_ble_eq_true rfl, Nat.le_of_ble_eq_true rfl⟩), (hts _ qw130), trivial⟩ ⟨PRE.blind, PRE.of hE hS hFc hPc hKc hDc⟩ rfl rfl hl.1 rfl (lv_room (Nat.le_of_ble_eq_true rfl)) dX2_makeRoom_95 ⟨(show (gcX2 p0n n26) + (o_31.1 - (n26 12)) ≤ (gcX2 p0n (o.2.2)) from by have q0 := gsX2 hg_p0 hst35 hgn_p0; have q5 := gcX2_12 (n := n26) (mo_fX11_atLeast hc_31); rw [← en32] at q5; omega), (show (3 * (gcX2 p0n n26)) + (3 * (o_31.1 - (n26 12))) ≤ (3 * (gcX2 p0n (o.2.2))) from by have q0 := gsX2 hg_p0 hst35 hgn_p0; have q5 := gcX2_12 (n := n26) (mo_fX11_atLeast hc_31); rw [← en32] at q5; omega)⟩) hS (fun q _ h => hFc q h) hFc (fun u ra35 t H locs ht hvm hw hB hz1 hk1 hS => ?_)
  obtain ⟨z34, hB⟩ := hB
  obtain ⟨hP, hD, hK⟩ := JOIN (wr := [((p0a 0), .inr (9, [.int (p0w 0 0), .int (p0w 0 1), .int (p0w 0 2), .ref ra5, .ref ra11, .ref ra17, .ref ra23, .ref (p0a 8), .int (p0w 0 8), .ref (p0a 10), .ref ra29, .ref (p0a 12), .ref (p0a 13), .ref (p0a 14), .ref (p0a 15), .ref (p0a 16), .ref (p0a 17), .ref (p0a 18), .ref (p0a 19)])), (ra5, .inl (z4, (n26 4), .inr (.inl (l27 4)))), (ra11, .inl (z10, (n26 5), .inr (.inl (l27 5)))), (ra17, .inl (z16, (n26 6), .inr (.inl (l27 6)))), (ra23, .inl (z22, (n26 7), .inr (.inl (l27 7)))), ((p0a 8), .inl ((p0k 8), 2, .inl (p0w 8))), ((p0a 10), .inl ((p0k 10), (n26 10), .inl (p0w 10))), (ra29, .inl (z28, (n26 11), .inr (.inl (l27 11)))), ((p0a 13), .inl ((p0k 13), (n26 13), .inl (p0w 13))), ((p0a 14), .inl ((p0k 14), (n26 14), .inr (.inl (l27 14)))), ((p0a 15), .inl ((p0k 15), (n26 15), .inl (p0w 15))), ((p0a 16), .inl ((p0k 16), (n26 16), .inl (p0w 16))), ((p0a 17), .inl ((p0k 17), (n26 17), .inl (p0w 17))), ((p0a 18), .inl ((p0k 18), (n26 18), .inl (p0w 18))), ((p0a 19), .inl ((p0k 19), (n26 19), .inl (p0w 19)))]) hP hD hK [8] [0, 1, 2, 3, 4, 5, 6, 7, 9, 10, 11, 12, 13, 14, 15] [0, 1, 2, 3, 4, 5, 6, 8, 9, 10, 11, 12, 13, 14] rfl rfl (by decide) (by decide) rfl hk1 hFc ht hvm hB
  refine va_put (D := (dC, dI)) (ci := 9) (v := .ref ra35) (ty := .array .int) (C := RX2) (T := TX2) (N := 19) hx hb hts i_X2 tyX2 tyX2_ok nmX2 hown hK hP hD hS 0 rfl rfl 11 (by decide) (hts _ qw680) (fun _ h9 => h9) rfl (by decide +kernel) rfl rfl (Nat.le_of_ble_eq_true rfl) dX2_makeRoom_98 (fun H locs hP hD hS => ?_)
  have hP : va_P (dC, dI) cls (oX2 (p0a 0) (st1 (st1 (st1 (st1 (st1 (st1 p0a 4 ra5) 5 ra11) 6 ra17) 7 ra23) 11 ra29) 12 ra35) (st1 (st1 (st1 (st1 (st1 (st1 p0k 4 z4) 5 z10) 6 z16) 7 z22) 11 z28) 12 z34) n32 w33 l27) H := by rw [en32, ew33]; exact hP.sub [0, 1, 2, 3, 4, 5, 6, 7, 15, 8, 9, 10, 11, 12, 13, 14] rfl
  have hD : va_D A (oX2 (p0a 0) (st1 (st1 (st1 (st1 (st1 (st1 p0a 4 ra5) 5 ra11) 6 ra17) 7 ra23) 11 ra29) 12 ra35) (st1 (st1 (st1 (st1 (st1 (st1 p0k 4 z4) 5 z10) 6 z16) 7 z22) 11 z28) 12 z34) n32 w33 l27) := by rw [en32, ew33]; exact hD.sub [0, 1, 2, 3, 4, 5, 6, 7, 15, 8, 9, 10, 11, 12, 13, 14] (by decide) rfl
  have hK : va_K (dC, dI) cls (tX2 (st1 (st1 (st1 (st1 (st1 (st1 p0k 4 z4) 5 z10) 6 z16) 7 z22) 11 z28) 12 z34)) s := hK.sub [0, 1, 2, 3, 4, 5, 6, 14, 7, 8, 9, 10, 11, 12, 13] rfl
  refine W.widen (k := (gcX2 p0n n32)) (n := (3 * (gcX2 p0n n32))) (by have a0 := gcX2_add hg_p0 hst35; have q5 := gcX2_12 (n := n26) (mo_fX11_atLeast hc_31); rw [← en32] at q5; omega) (by have a0 := gcX2_add hg_p0 hst35; have q5 := gcX2_12 (n := n26) (mo_fX11_atLeast hc_31); rw [← en32] at q5; omega) ?_
  have hg_p0 : glX2 p0n n32 := glX2_tr hg_p0 hst35
  unfold fX2_makeRoom_G101_36 at hrun
  refine lv_aload_n hx hb dX2_makeRoom_101 rfl (lv_at hl 0 rfl) ?_
  refine lv_aload_n hx hb dX2_makeRoom_102 rfl (lv_at hl 0 rfl) ?_
  refine va_get (D := (dC, dI)) (ci := 9) (v := .ref (p0a 13)) (C := RX2) (T := TX2) (N := 19) hx hb hts i_X2 hown hK hP 0 rfl rfl 12 (by decide) (hts _ qw681) (fun _ h9 => h9) rfl dX2_makeRoom_103 ?_
  refine lv_aload_n hx hb dX2_makeRoom_106 rfl (lv_at hl 0 rfl) ?_
  refine va_get (D := (dC, dI)) (ci := 9) (v := .int (w33 0 1)) (C := RX2) (T := TX2) (N := 19) hx hb hts i_X2 hown hK hP 0 rfl rfl 1 (by decide) (hts _ qw666) (fun _ h9 => h9) rfl dX2_makeRoom_107 ?_
  obtain ⟨o_37, hc_37, hrun⟩ := bnd9 hrun
  obtain ⟨n38, en38, hrun⟩ := let9 hrun
  obtain ⟨w39, ew39, hrun⟩ := let9 hrun
  have hst41 : glX2 n32 n38 := by rw [en38]; exact glX2_13 (mo_fX11_atLeast hc_37)
  have hgn_p0 : glX2 n38 (o.2.2) := (mo_fX2_makeRoom_G116_42 hrun)
  have hPc := hP.sub (ws' := [((p0a 13), .inl ((p0k 13), (n32 13), .inl (w33 13)))]) [9] rfl
  have hDc := hD.sub (ws' := [((p0a 13), .inl ((p0k 13), (n32 13), .inl (w33 13)))]) [9] (by decide) rfl
  have hKc := hK.sub (tys' := [((p0k 13), .int)]) [8] rfl
  have hFc := va_free (wc := [((p0a 13), .inl ((p0k 13), (n32 13), .inl (w33 13)))]) hD hS hA [9] rfl
  refine va_callr (va_runSN (As := [.ref (p0a 13), .int (w33 0 1)]) (rest := [.ref (p0a 0)]) ⟨hx, hb, hml, hown, hts⟩ (kX11_atLeast l dC dI (p0a := (p0a 13)) (p0k := (p0k 13)) (p0n := (n32 13)) (p0f := (w33 13)) (p1 := (w33 0 1)) (sz := _) (o := o_37) (hrun := hc_37)) ⟨(va_cnB 2 hts (gi_z qw128) rfl rfl rfl (hE.nw (List.mem_append_right _ (tbl_8 (i := 206) rfl)) rfl) (hts _ qw129) (by decide +kernel) ⟨Nat.le_of_ble_eq_true rfl, Nat.le_of_ble_eq_true rfl⟩), (hts _ qw130), trivial⟩ ⟨PRE.blind, PRE.of hE hS hFc hPc hKc hDc⟩ rfl rfl hl.1 rfl (lv_room (Nat.le_of_ble_eq_true rfl)) dX2_makeRoom_110 ⟨(show (gcX2 p0n n32) + (o_37.1 - (n32 13)) ≤ (gcX2 p0n (o.2.2)) from by have q0 := gsX2 hg_p0 hst41 hgn_p0; have q5 := gcX2_13 (n := n32) (mo_fX11_atLeast hc_37); rw [← en38] at q5; omega), (show (3 * (gcX2 p0n n32)) + (3 * (o_37.1 - (n32 13))) ≤ (3 * (gcX2 p0n (o.2.2))) from by have q0 := gsX2 hg_p0 hst41 hgn_p0; have q5 := gcX2_13 (n := n32) (mo_fX11_atLeast hc_37); rw [← en38] at q5; omega)⟩) hS (fun q _ h => hFc q h) hFc (fun u ra41 t H locs ht hvm hw hB hz1 hk1 hS => ?_)
  obtain ⟨z40, hB⟩ := hB
  obtain ⟨hP, hD, hK⟩ := JOIN (wr := [((p0a 0), .inr (9, [.int (w33 0 0), .int (w33 0 1), .int (w33 0 2), .ref ra5, .ref ra11, .ref ra17, .ref ra23, .ref (p0a 8), .int (w33 0 8), .ref (p0a 10), .ref ra29, .ref ra35, .ref (p0a 13), .ref (p0a 14), .ref (p0a 15), .ref (p0a 16), .ref (p0a 17), .ref (p0a 18), .ref (p0a 19)])), (ra5, .inl (z4, (n32 4), .inr (.inl (l27 4)))), (ra11, .inl (z10, (n32 5), .inr (.inl (l27 5)))), (ra17, .inl (z16, (n32 6), .inr (.inl (l27 6)))), (ra23, .inl (z22, (n32 7), .inr (.inl (l27 7)))), ((p0a 8), .inl ((p0k 8), 2, .inl (w33 8))), ((p0a 10), .inl ((p0k 10), (n32 10), .inl (w33 10))), (ra29, .inl (z28, (n32 11), .inr (.inl (l27 11)))), (ra35, .inl (z34, (n32 12), .inl (w33 12))), ((p0a 14), .inl ((p0k 14), (n32 14), .inr (.inl (l27 14)))), ((p0a 15), .inl ((p0k 15), (n32 15), .inl (w33 15))), ((p0a 16), .inl ((p0k 16), (n32 16), .inl (w33 16))), ((p0a 17), .inl ((p0k 17), (n32 17), .inl (w33 17))), ((p0a 18), .inl ((p0k 18), (n32 18), .inl (w33 18))), ((p0a 19), .inl ((p0k 19), (n32 19), .inl (w33 19)))]) hP hD hK [9] [0, 1, 2, 3, 4, 5, 6, 7, 8, 10, 11, 12, 13, 14, 15] [0, 1, 2, 3, 4, 5, 6, 7, 9, 10, 11, 12, 13, 14] rfl rfl (by decide) (by decide) rfl hk1 hFc ht hvm hB
  refine va_put (D := (dC, dI)) (ci := 9) (v := .ref ra41) (ty := .array .int) (C := RX2) (T := TX2) (N := 19) hx hb hts i_X2 tyX2 tyX2_ok nmX2 hown hK hP hD hS 0 rfl rfl 12 (by decide) (hts _ qw681) (fun _ h9 => h9) rfl (by decide +kernel) rfl rfl (Nat.le_of_ble_eq_true rfl) dX2_makeRoom_113 (fun H locs hP hD hS => ?_)
  have hP : va_P (dC, dI) cls (oX2 (p0a 0) (st1 (st1 (st1 (st1 (st1 (st1 (st1 p0a 4 ra5) 5 ra11) 6 ra17) 7 ra23) 11 ra29) 12 ra35) 13 ra41) (st1 (st1 (st1 (st1 (st1 (st1 (st1 p0k 4 z4) 5 z10) 6 z16) 7 z22) 11 z28) 12 z34) 13 z40) n38 w39 l27) H := by rw [en38, ew39]; exact hP.sub [0, 1, 2, 3, 4, 5, 6, 7, 8, 15, 9, 10, 11, 12, 13, 14] rfl
  have hD : va_D A (oX2 (p0a 0) (st1 (st1 (st1 (st1 (st1 (st1 (st1 p0a 4 ra5) 5 ra11) 6 ra17) 7 ra23) 11 ra29) 12 ra35) 13 ra41) (st1 (st1 (st1 (st1 (st1 (st1 (st1 p0k 4 z4) 5 z10) 6 z16) 7 z22) 11 z28) 12 z34) 13 z40) n38 w39 l27) := by rw [en38, ew39]; exact hD.sub [0, 1, 2, 3, 4, 5, 6, 7, 8, 15, 9, 10, 11, 12, 13, 14] (by decide) rfl
  have hK : va_K (dC, dI) cls (tX2 (st1 (st1 (st1 (st1 (st1 (st1 (st1 p0k 4 z4) 5 z10) 6 z16) 7 z22) 11 z28) 12 z34) 13 z40)) s := hK.sub [0, 1, 2, 3, 4, 5, 6, 7, 14, 8, 9, 10, 11, 12, 13] rfl
  refine W.widen (k := (gcX2 p0n n38)) (n := (3 * (gcX2 p0n n38))) (by have a0 := gcX2_add hg_p0 hst41; have q5 := gcX2_13 (n := n32) (mo_fX11_atLeast hc_37); rw [← en38] at q5; omega) (by have a0 := gcX2_add hg_p0 hst41; have q5 := gcX2_13 (n := n32) (mo_fX11_atLeast hc_37); rw [← en38] at q5; omega) ?_
  have hg_p0 : glX2 p0n n38 := glX2_tr hg_p0 hst41
  unfold fX2_makeRoom_G116_42 at hrun
  refine lv_aload_n hx hb dX2_makeRoom_116 rfl (lv_at hl 0 rfl) ?_
  refine lv_aload_n hx hb dX2_makeRoom_117 rfl (lv_at hl 0 rfl) ?_
  refine va_get (D := (dC, dI)) (ci := 9) (v := .ref (p0a 14)) (C := RX2) (T := TX2) (N := 19) hx hb hts i_X2 hown hK hP 0 rfl rfl 13 (by decide) (hts _ qw682) (fun _ h9 => h9) rfl dX2_makeRoom_118 ?_
  refine lv_aload_n hx hb dX2_makeRoom_121 rfl (lv_at hl 0 rfl) ?_
  refine va_get (D := (dC, dI)) (ci := 9) (v := .int (w39 0 1)) (C := RX2) (T := TX2) (N := 19) hx hb hts i_X2 hown hK hP 0 rfl rfl 1 (by decide) (hts _ qw666) (fun _ h9 => h9) rfl dX2_makeRoom_122 ?_
  obtain ⟨o_43, hc_43, hrun⟩ := bnd9 hrun
  obtain ⟨n44, en44, hrun⟩ := let9 hrun
  obtain ⟨l45, el45, hrun⟩ := let9 hrun
  have hst47 : glX2 n38 n44 := by rw [en44]; exact glX2_14 (mo_fX11_atLeast_ hc_43)
  have hgn_p0 : glX2 n44 (o.2.2) := (mo_fX2_makeRoom_G131_48 hrun)
  have hPc := hP.sub (ws' := [((p0a 14), .inl ((p0k 14), (n38 14), .inr (.inl (l27 14))))]) [10] rfl
  have hDc := hD.sub (ws' := [((p0a 14), .inl ((p0k 14), (n38 14), .inr (.inl (l27 14))))]) [10] (by decide) rfl
  have hKc := hK.sub (tys' := [((p0k 14), .long)]) [9] rfl
  have hFc := va_free (wc := [((p0a 14), .inl ((p0k 14), (n38 14), .inr (.inl (l27 14))))]) hD hS hA [10] rfl
  refine va_callr (va_runSN (As := [.ref (p0a 14), .int (w39 0 1)]) (rest := [.ref (p0a 0)]) ⟨hx, hb, hml, hown, hts⟩ (kX11_atLeast_ l dC dI (p0a := (p0a 14)) (p0k := (p0k 14)) (p0n := (n38 14)) (p0f := (l27 14)) (p1 := (w39 0 1)) (sz := _) (o := o_43) (hrun := hc_43)) ⟨(va_cnB 2 hts (gi_z qw674) rfl rfl rfl (hE.nw (List.mem_append_right _ (tbl_8 (i := 195) rfl)) rfl) (hts _ qw129) (by decide +kernel) ⟨Nat.le_of_ble_eq_true rfl, Nat.le_of_ble_eq_true rfl⟩), (hts _ qw675), trivial⟩ ⟨PRE.blind, PRE.of hE hS hFc hPc hKc hDc⟩ rfl rfl hl.1 rfl (lv_room (Nat.le_of_ble_eq_true rfl)) dX2_makeRoom_125 ⟨(show (gcX2 p0n n38) + (o_43.1 - (n38 14)) ≤ (gcX2 p0n (o.2.2)) from by have q0 := gsX2 hg_p0 hst47 hgn_p0; have q5 := gcX2_14 (n := n38) (mo_fX11_atLeast_ hc_43); rw [← en44] at q5; omega), (show (3 * (gcX2 p0n n38)) + (3 * (o_43.1 - (n38 14))) ≤ (3 * (gcX2 p0n (o.2.2))) from by have q0 := gsX2 hg_p0 hst47 hgn_p0; have q5 := gcX2_14 (n := n38) (mo_fX11_atLeast_ hc_43); rw [← en44] at q5; omega)⟩) hS (fun q _ h => hFc q h) hFc (fun u ra47 t H locs ht hvm hw hB hz1 hk1 hS => ?_)
  obtain ⟨z46, hB⟩ := hB
  obtain ⟨hP, hD, hK⟩ := JOIN (wr := [((p0a 0), .inr (9, [.int (w39 0 0), .int (w39 0 1), .int (w39 0 2), .ref ra5, .ref ra11, .ref ra17, .ref ra23, .ref (p0a 8), .int (w39 0 8), .ref (p0a 10), .ref ra29, .ref ra35, .ref ra41, .ref (p0a 14), .ref (p0a 15), .ref (p0a 16), .ref (p0a 17), .ref (p0a 18), .ref (p0a 19)])), (ra5, .inl (z4, (n38 4), .inr (.inl (l27 4)))), (ra11, .inl (z10, (n38 5), .inr (.inl (l27 5)))), (ra17, .inl (z16, (n38 6), .inr (.inl (l27 6)))), (ra23, .inl (z22, (n38 7), .inr (.inl (l27 7)))), ((p0a 8), .inl ((p0k 8), 2, .inl (w39 8))), ((p0a 10), .inl ((p0k 10), (n38 10), .inl (w39 10))), (ra29, .inl (z28, (n38 11), .inr (.inl (l27 11)))), (ra35, .inl (z34, (n38 12), .inl (w39 12))), (ra41, .inl (z40, (n38 13), .inl (w39 13))), ((p0a 15), .inl ((p0k 15), (n38 15), .inl (w39 15))), ((p0a 16), .inl ((p0k 16), (n38 16), .inl (w39 16))), ((p0a 17), .inl ((p0k 17), (n38 17), .inl (w39 17))), ((p0a 18), .inl ((p0k 18), (n38 18), .inl (w39 18))), ((p0a 19), .inl ((p0k 19), (n38 19), .inl (w39 19)))]) hP hD hK [10] [0, 1, 2, 3, 4, 5, 6, 7, 8, 9, 11, 12, 13, 14, 15] [0, 1, 2, 3, 4, 5, 6, 7, 8, 10, 11, 12, 13, 14] rfl rfl (by decide) (by decide) rfl hk1 hFc ht hvm hB
  refine va_put (D := (dC, dI)) (ci := 9) (v := .ref ra47) (ty := .array .long) (C := RX2) (T := TX2) (N := 19) hx hb hts i_X2 tyX2 tyX2_ok nmX2 hown hK hP hD hS 0 rfl rfl 13 (by decide) (hts _ qw682) (fun _ h9 => h9) rfl (by decide +kernel) rfl rfl (Nat.le_of_ble_eq_true rfl) dX2_makeRoom_128 (fun H locs hP hD hS => ?_)
  have hP : va_P (dC, dI) cls (oX2 (p0a 0) (st1 (st1 (st1 (st1 (st1 (st1 (st1 (st1 p0a 4 ra5) 5 ra11) 6 ra17) 7 ra23) 11 ra29) 12 ra35) 13 ra41) 14 ra47) (st1 (st1 (st1 (st1 (st1 (st1 (st1 (st1 p0k 4 z4) 5 z10) 6 z16) 7 z22) 11 z28) 12 z34) 13 z40) 14 z46) n44 w39 l45) H := by rw [en44, el45]; exact hP.sub [0, 1, 2, 3, 4, 5, 6, 7, 8, 9, 15, 10, 11, 12, 13, 14] rfl
  have hD : va_D A (oX2 (p0a 0) (st1 (st1 (st1 (st1 (st1 (st1 (st1 (st1 p0a 4 ra5) 5 ra11) 6 ra17) 7 ra23) 11 ra29) 12 ra35) 13 ra41) 14 ra47) (st1 (st1 (st1 (st1 (st1 (st1 (st1 (st1 p0k 4 z4) 5 z10) 6 z16) 7 z22) 11 z28) 12 z34) 13 z40) 14 z46) n44 w39 l45) := by rw [en44, el45]; exact hD.sub [0, 1, 2, 3, 4, 5, 6, 7, 8, 9, 15, 10, 11, 12, 13, 14] (by decide) rfl
  have hK : va_K (dC, dI) cls (tX2 (st1 (st1 (st1 (st1 (st1 (st1 (st1 (st1 p0k 4 z4) 5 z10) 6 z16) 7 z22) 11 z28) 12 z34) 13 z40) 14 z46)) s := hK.sub [0, 1, 2, 3, 4, 5, 6, 7, 8, 14, 9, 10, 11, 12, 13] rfl
  refine W.widen (k := (gcX2 p0n n44)) (n := (3 * (gcX2 p0n n44))) (by have a0 := gcX2_add hg_p0 hst47; have q5 := gcX2_14 (n := n38) (mo_fX11_atLeast_ hc_43); rw [← en44] at q5; omega) (by have a0 := gcX2_add hg_p0 hst47; have q5 := gcX2_14 (n := n38) (mo_fX11_atLeast_ hc_43); rw [← en44] at q5; omega) ?_
  have hg_p0 : glX2 p0n n44 := glX2_tr hg_p0 hst47
  unfold fX2_makeRoom_G131_48 at hrun
  refine lv_aload_n hx hb dX2_makeRoom_131 rfl (lv_at hl 0 rfl) ?_
  refine lv_aload_n hx hb dX2_makeRoom_132 rfl (lv_at hl 0 rfl) ?_
  refine va_get (D := (dC, dI)) (ci := 9) (v := .ref (p0a 15)) (C := RX2) (T := TX2) (N := 19) hx hb hts i_X2 hown hK hP 0 rfl rfl 14 (by decide) (hts _ qw683) (fun _ h9 => h9) rfl dX2_makeRoom_133 ?_
  refine lv_aload_n hx hb dX2_makeRoom_136 rfl (lv_at hl 0 rfl) ?_
  refine va_get (D := (dC, dI)) (ci := 9) (v := .int (w39 0 1)) (C := RX2) (T := TX2) (N := 19) hx hb hts i_X2 hown hK hP 0 rfl rfl 1 (by decide) (hts _ qw666) (fun _ h9 => h9) rfl dX2_makeRoom_137 ?_
  obtain ⟨o_49, hc_49, hrun⟩ := bnd9 hrun
  obtain ⟨n50, en50, hrun⟩ := let9 hrun
  obtain ⟨w51, ew51, hrun⟩ := let9 hrun
  have hst53 : glX2 n44 n50 := by rw [en50]; exact glX2_15 (mo_fX11_atLeast hc_49)
  have hgn_p0 : glX2 n50 (o.2.2) := (mo_fX2_makeRoom_G146_54 hrun)
  have hPc := hP.sub (ws' := [((p0a 15), .inl ((p0k 15), (n44 15), .inl (w39 15)))]) [11] rfl
  have hDc := hD.sub (ws' := [((p0a 15), .inl ((p0k 15), (n44 15), .inl (w39 15)))]) [11] (by decide) rfl
  have hKc := hK.sub (tys' := [((p0k 15), .int)]) [10] rfl
  have hFc := va_free (wc := [((p0a 15), .inl ((p0k 15), (n44 15), .inl (w39 15)))]) hD hS hA [11] rfl
  refine va_callr (va_runSN (As := [.ref (p0a 15), .int (w39 0 1)]) (rest := [.ref (p0a 0)]) ⟨hx, hb, hml, hown, hts⟩ (kX11_atLeast l dC dI (p0a := (p0a 15)) (p0k := (p0k 15)) (p0n := (n44 15)) (p0f := (w39 15)) (p1 := (w39 0 1)) (sz := _) (o := o_49) (hrun := hc_49)) ⟨(va_cnB 2 hts (gi_z qw128) rfl rfl rfl (hE.nw (List.mem_append_right _ (tbl_8 (i := 206) rfl)) rfl) (hts _ qw129) (by decide +kernel) ⟨Nat.le_of_ble_eq_true rfl, Nat.le_of_ble_eq_true rfl⟩), (hts _ qw130), trivial⟩ ⟨PRE.blind, PRE.of hE hS hFc hPc hKc hDc⟩ rfl rfl hl.1 rfl (lv_room (Nat.le_of_ble_eq_true rfl)) dX2_makeRoom_140 ⟨(show (gcX2 p0n n44) + (o_49.1 - (n44 15)) ≤ (gcX2 p0n (o.2.2)) from by have q0 := gsX2 hg_p0 hst53 hgn_p0; have q5 := gcX2_15 (n := n44) (mo_fX11_atLeast hc_49); rw [← en50] at q5; omega), (show (3 * (gcX2 p0n n44)) + (3 * (o_49.1 - (n44 15))) ≤ (3 * (gcX2 p0n (o.2.2))) from by have q0 := gsX2 hg_p0 hst53 hgn_p0; have q5 := gcX2_15 (n := n44) (mo_fX11_atLeast hc_49); rw [← en50] at q5; omega)⟩) hS (fun q _ h => hFc q h) hFc (fun u ra53 t H locs ht hvm hw hB hz1 hk1 hS => ?_)
  obtain ⟨z52, hB⟩ := hB
  obtain ⟨hP, hD, hK⟩ := JOIN (wr := [((p0a 0), .inr (9, [.int (w39 0 0), .int (w39 0 1), .int (w39 0 2), .ref ra5, .ref ra11, .ref ra17, .ref ra23, .ref (p0a 8), .int (w39 0 8), .ref (p0a 10), .ref ra29, .ref ra35, .ref ra41, .ref ra47, .ref (p0a 15), .ref (p0a 16), .ref (p0a 17), .ref (p0a 18), .ref (p0a 19)])), (ra5, .inl (z4, (n44 4), .inr (.inl (l45 4)))), (ra11, .inl (z10, (n44 5), .inr (.inl (l45 5)))), (ra17, .inl (z16, (n44 6), .inr (.inl (l45 6)))), (ra23, .inl (z22, (n44 7), .inr (.inl (l45 7)))), ((p0a 8), .inl ((p0k 8), 2, .inl (w39 8))), ((p0a 10), .inl ((p0k 10), (n44 10), .inl (w39 10))), (ra29, .inl (z28, (n44 11), .inr (.inl (l45 11)))), (ra35, .inl (z34, (n44 12), .inl (w39 12))), (ra41, .inl (z40, (n44 13), .inl (w39 13))), (ra47, .inl (z46, (n44 14), .inr (.inl (l45 14)))), ((p0a 16), .inl ((p0k 16), (n44 16), .inl (w39 16))), ((p0a 17), .inl ((p0k 17), (n44 17), .inl (w39 17))), ((p0a 18), .inl ((p0k 18), (n44 18), .inl (w39 18))), ((p0a 19), .inl ((p0k 19), (n44 19), .inl (w39 19)))]) hP hD hK [11] [0, 1, 2, 3, 4, 5, 6, 7, 8, 9, 10, 12, 13, 14, 15] [0, 1, 2, 3, 4, 5, 6, 7, 8, 9, 11, 12, 13, 14] rfl rfl (by decide) (by decide) rfl hk1 hFc ht hvm hB
  refine va_put (D := (dC, dI)) (ci := 9) (v := .ref ra53) (ty := .array .int) (C := RX2) (T := TX2) (N := 19) hx hb hts i_X2 tyX2 tyX2_ok nmX2 hown hK hP hD hS 0 rfl rfl 14 (by decide) (hts _ qw683) (fun _ h9 => h9) rfl (by decide +kernel) rfl rfl (Nat.le_of_ble_eq_true rfl) dX2_makeRoom_143 (fun H locs hP hD hS => ?_)
  have hP : va_P (dC, dI) cls (oX2 (p0a 0) (st1 (st1 (st1 (st1 (st1 (st1 (st1 (st1 (st1 p0a 4 ra5) 5 ra11) 6 ra17) 7 ra23) 11 ra29) 12 ra35) 13 ra41) 14 ra47) 15 ra53) (st1 (st1 (st1 (st1 (st1 (st1 (st1 (st1 (st1 p0k 4 z4) 5 z10) 6 z16) 7 z22) 11 z28) 12 z34) 13 z40) 14 z46) 15 z52) n50 w51 l45) H := by rw [en50, ew51]; exact hP.sub [0, 1, 2, 3, 4, 5, 6, 7, 8, 9, 10, 15, 11, 12, 13, 14] rfl
  have hD : va_D A (oX2 (p0a 0) (st1 (st1 (st1 (st1 (st1 (st1 (st1 (st1 (st1 p0a 4 ra5) 5 ra11) 6 ra17) 7 ra23) 11 ra29) 12 ra35) 13 ra41) 14 ra47) 15 ra53) (st1 (st1 (st1 (st1 (st1 (st1 (st1 (st1 (st1 p0k 4 z4) 5 z10) 6 z16) 7 z22) 11 z28) 12 z34) 13 z40) 14 z46) 15 z52) n50 w51 l45) := by rw [en50, ew51]; exact hD.sub [0, 1, 2, 3, 4, 5, 6, 7, 8, 9, 10, 15, 11, 12, 13, 14] (by decide) rfl
  have hK : va_K (dC, dI) cls (tX2 (st1 (st1 (st1 (st1 (st1 (st1 (st1 (st1 (st1 p0k 4 z4) 5 z10) 6 z16) 7 z22) 11 z28) 12 z34) 13 z40) 14 z46) 15 z52)) s := hK.sub [0, 1, 2, 3, 4, 5, 6, 7, 8, 9, 14, 10, 11, 12, 13] rfl
  refine W.widen (k := (gcX2 p0n n50)) (n := (3 * (gcX2 p0n n50))) (by have a0 := gcX2_add hg_p0 hst53; have q5 := gcX2_15 (n := n44) (mo_fX11_atLeast hc_49); rw [← en50] at q5; omega) (by have a0 := gcX2_add hg_p0 hst53; have q5 := gcX2_15 (n := n44) (mo_fX11_atLeast hc_49); rw [← en50] at q5; omega) ?_
  have hg_p0 : glX2 p0n n50 := glX2_tr hg_p0 hst53
  unfold fX2_makeRoom_G146_54 at hrun
  refine lv_aload_n hx hb dX2_makeRoom_146 rfl (lv_at hl 0 rfl) ?_
  refine lv_aload_n hx hb dX2_makeRoom_147 rfl (lv_at hl 0 rfl) ?_
  refine va_get (D := (dC, dI)) (ci := 9) (v := .ref (p0a 16)) (C := RX2) (T := TX2) (N := 19) hx hb hts i_X2 hown hK hP 0 rfl rfl 15 (by decide) (hts _ qw684) (fun _ h9 => h9) rfl dX2_makeRoom_148 ?_
  refine lv_aload_n hx hb dX2_makeRoom_151 rfl (lv_at hl 0 rfl) ?_
  refine va_get (D := (dC, dI)) (ci := 9) (v := .int (w51 0 1)) (C := RX2) (T := TX2) (N := 19) hx hb hts i_X2 hown hK hP 0 rfl rfl 1 (by decide) (hts _ qw666) (fun _ h9 => h9) rfl dX2_makeRoom_152 ?_
  obtain ⟨o_55, hc_55, hrun⟩ := bnd9 hrun
  obtain ⟨n56, en56, hrun⟩ := let9 hrun
  obtain ⟨w57, ew57, hrun⟩ := let9 hrun
  have hst59 : glX2 n50 n56 := by rw [en56]; exact glX2_16 (mo_fX11_atLeast hc_55)
  have hgn_p0 : glX2 n56 (o.2.2) := (mo_fX2_makeRoom_G161_60 hrun)
  have hPc := hP.sub (ws' := [((p0a 16), .inl ((p0k 16), (n50 16), .inl (w51 16)))]) [12] rfl
  have hDc := hD.sub (ws' := [((p0a 16), .inl ((p0k 16), (n50 16), .inl (w51 16)))]) [12] (by decide) rfl
  have hKc := hK.sub (tys' := [((p0k 16), .int)]) [11] rfl
  have hFc := va_free (wc := [((p0a 16), .inl ((p0k 16), (n50 16), .inl (w51 16)))]) hD hS hA [12] rfl
  refine va_callr (va_runSN (As := [.ref (p0a 16), .int (w51 0 1)]) (rest := [.ref (p0a 0)]) ⟨hx, hb, hml, hown, hts⟩ (kX11_atLeast l dC dI (p0a := (p0a 16)) (p0k := (p0k 16)) (p0n := (n50 16)) (p0f := (w51 16)) (p1 := (w51 0 1)) (sz := _) (o := o_55) (hrun := hc_55)) ⟨(va_cnB 2 hts (gi_z qw128) rfl rfl rfl (hE.nw (List.mem_append_right _ (tbl_8 (i := 206) rfl)) rfl) (hts _ qw129) (by decide +kernel) ⟨Nat.le_of_ble_eq_true rfl, Nat.le_of_ble_eq_true rfl⟩), (hts _ qw130), trivial⟩ ⟨PRE.blind, PRE.of hE hS hFc hPc hKc hDc⟩ rfl rfl hl.1 rfl (lv_room (Nat.le_of_ble_eq_true rfl)) dX2_makeRoom_155 ⟨(show (gcX2 p0n n50) + (o_55.1 - (n50 16)) ≤ (gcX2 p0n (o.2.2)) from by have q0 := gsX2 hg_p0 hst59 hgn_p0; have q5 := gcX2_16 (n := n50) (mo_fX11_atLeast hc_55); rw [← en56] at q5; omega), (show (3 * (gcX2 p0n n50)) + (3 * (o_55.1 - (n50 16))) ≤ (3 * (gcX2 p0n (o.2.2))) from by have q0 := gsX2 hg_p0 hst59 hgn_p0; have q5 := gcX2_16 (n := n50) (mo_fX11_atLeast hc_55); rw [← en56] at q5; omega)⟩) hS (fun q _ h => hFc q h) hFc (fun u ra59 t H locs ht hvm hw hB hz1 hk1 hS => ?_)
  obtain ⟨z58, hB⟩ := hB
  obtain ⟨hP, hD, hK⟩ := JOIN (wr := [((p0a 0), .inr (9, [.int (w51 0 0), .int (w51 0 1), .int (w51 0 2), .ref ra5, .ref ra11, .ref ra17, .ref ra23, .ref (p0a 8), .int (w51 0 8), .ref (p0a 10), .ref ra29, .ref ra35, .ref ra41, .ref ra47, .ref ra53, .ref (p0a 16), .ref (p0a 17), .ref (p0a 18), .ref (p0a 19)])), (ra5, .inl (z4, (n50 4), .inr (.inl (l45 4)))), (ra11, .inl (z10, (n50 5), .inr (.inl (l45 5)))), (ra17, .inl (z16, (n50 6), .inr (.inl (l45 6)))), (ra23, .inl (z22, (n50 7), .inr (.inl (l45 7)))), ((p0a 8), .inl ((p0k 8), 2, .inl (w51 8))), ((p0a 10), .inl ((p0k 10), (n50 10), .inl (w51 10))), (ra29, .inl (z28, (n50 11), .inr (.inl (l45 11)))), (ra35, .inl (z34, (n50 12), .inl (w51 12))), (ra41, .inl (z40, (n50 13), .inl (w51 13))), (ra47, .inl (z46, (n50 14), .inr (.inl (l45 14)))), (ra53, .inl (z52, (n50 15), .inl (w51 15))), ((p0a 17), .inl ((p0k 17), (n50 17), .inl (w51 17))), ((p0a 18), .inl ((p0k 18), (n50 18), .inl (w51 18))), ((p0a 19), .inl ((p0k 19), (n50 19), .inl (w51 19)))]) hP hD hK [12] [0, 1, 2, 3, 4, 5, 6, 7, 8, 9, 10, 11, 13, 14, 15] [0, 1, 2, 3, 4, 5, 6, 7, 8, 9, 10, 12, 13, 14] rfl rfl (by decide) (by decide) rfl hk1 hFc ht hvm hB
  refine va_put (D := (dC, dI)) (ci := 9) (v := .ref ra59) (ty := .array .int) (C := RX2) (T := TX2) (N := 19) hx hb hts i_X2 tyX2 tyX2_ok nmX2 hown hK hP hD hS 0 rfl rfl 15 (by decide) (hts _ qw684) (fun _ h9 => h9) rfl (by decide +kernel) rfl rfl (Nat.le_of_ble_eq_true rfl) dX2_makeRoom_158 (fun H locs hP hD hS => ?_)
  have hP : va_P (dC, dI) cls (oX2 (p0a 0) (st1 (st1 (st1 (st1 (st1 (st1 (st1 (st1 (st1 (st1 p0a 4 ra5) 5 ra11) 6 ra17) 7 ra23) 11 ra29) 12 ra35) 13 ra41) 14 ra47) 15 ra53) 16 ra59) (st1 (st1 (st1 (st1 (st1 (st1 (st1 (st1 (st1 (st1 p0k 4 z4) 5 z10) 6 z16) 7 z22) 11 z28) 12 z34) 13 z40) 14 z46) 15 z52) 16 z58) n56 w57 l45) H := by rw [en56, ew57]; exact hP.sub [0, 1, 2, 3, 4, 5, 6, 7, 8, 9, 10, 11, 15, 12, 13, 14] rfl
  have hD : va_D A (oX2 (p0a 0) (st1 (st1 (st1 (st1 (st1 (st1 (st1 (st1 (st1 (st1 p0a 4 ra5) 5 ra11) 6 ra17) 7 ra23) 11 ra29) 12 ra35) 13 ra41) 14 ra47) 15 ra53) 16 ra59) (st1 (st1 (st1 (st1 (st1 (st1 (st1 (st1 (st1 (st1 p0k 4 z4) 5 z10) 6 z16) 7 z22) 11 z28) 12 z34) 13 z40) 14 z46) 15 z52) 16 z58) n56 w57 l45) := by rw [en56, ew57]; exact hD.sub [0, 1, 2, 3, 4, 5, 6, 7, 8, 9, 10, 11, 15, 12, 13, 14] (by decide) rfl
  have hK : va_K (dC, dI) cls (tX2 (st1 (st1 (st1 (st1 (st1 (st1 (st1 (st1 (st1 (st1 p0k 4 z4) 5 z10) 6 z16) 7 z22) 11 z28) 12 z34) 13 z40) 14 z46) 15 z52) 16 z58)) s := hK.sub [0, 1, 2, 3, 4, 5, 6, 7, 8, 9, 10, 14, 11, 12, 13] rfl
  refine W.widen (k := (gcX2 p0n n56)) (n := (3 * (gcX2 p0n n56))) (by have a0 := gcX2_add hg_p0 hst59; have q5 := gcX2_16 (n := n50) (mo_fX11_atLeast hc_55); rw [← en56] at q5; omega) (by have a0 := gcX2_add hg_p0 hst59; have q5 := gcX2_16 (n := n50) (mo_fX11_atLeast hc_55); rw [← en56] at q5; omega) ?_
  have hg_p0 : glX2 p0n n56 := glX2_tr hg_p0 hst59
  unfold fX2_makeRoom_G161_60 at hrun
  refine lv_aload_n hx hb dX2_makeRoom_161 rfl (lv_at hl 0 rfl) ?_
  refine lv_aload_n hx hb dX2_makeRoom_162 rfl (lv_at hl 0 rfl) ?_
  refine va_get (D := (dC, dI)) (ci := 9) (v := .ref (p0a 17)) (C := RX2) (T := TX2) (N := 19) hx hb hts i_X2 hown hK hP 0 rfl rfl 16 (by decide) (hts _ qw685) (fun _ h9 => h9) rfl dX2_makeRoom_163 ?_
  refine lv_aload_n hx hb dX2_makeRoom_166 rfl (lv_at hl 0 rfl) ?_
  refine va_get (D := (dC, dI)) (ci := 9) (v := .int (w57 0 1)) (C := RX2) (T := TX2) (N := 19) hx hb hts i_X2 hown hK hP 0 rfl rfl 1 (by decide) (hts _ qw666) (fun _ h9 => h9) rfl dX2_makeRoom_167 ?_
  obtain ⟨o_61, hc_61, hrun⟩ := bnd9 hrun
  obtain ⟨n62, en62, hrun⟩ := let9 hrun
  obtain ⟨w63, ew63, hrun⟩ := let9 hrun
  have hst65 : glX2 n56 n62 := by rw [en62]; exact glX2_17 (mo_fX11_atLeast hc_61)
  have hgn_p0 : glX2 n62 (o.2.2) := (mo_fX2_makeRoom_G176_66 hrun)
  have hPc := hP.sub (ws' := [((p0a 17), .inl ((p0k 17), (n56 17), .inl (w57 17)))]) [13] rfl
  have hDc := hD.sub (ws' := [((p0a 17), .inl ((p0k 17), (n56 17), .inl (w57 17)))]) [13] (by decide) rfl
  have hKc := hK.sub (tys' := [((p0k 17), .int)]) [12] rfl
  have hFc := va_free (wc := [((p0a 17), .inl ((p0k 17), (n56 17), .inl (w57 17)))]) hD hS hA [13] rfl
  refine va_callr (va_runSN (As := [.ref (p0a 17), .int (w57 0 1)]) (rest := [.ref (p0a 0)]) ⟨hx, hb, hml, hown, hts⟩ (kX11_atLeast l dC dI (p0a := (p0a 17)) (p0k := (p0k 17)) (p0n := (n56 17)) (p0f := (w57 17)) (p1 := (w57 0 1)) (sz := _) (o := o_61) (hrun := hc_61)) ⟨(va_cnB 2 hts (gi_z qw128) rfl rfl rfl (hE.nw (List.mem_append_right _ (tbl_8 (i := 206) rfl)) rfl) (hts _ qw129) (by decide +kernel) ⟨Nat.le_of_ble_eq_true rfl, Nat.le_of_ble_eq_true rfl⟩), (hts _ qw130), trivial⟩ ⟨PRE.blind, PRE.of hE hS hFc hPc hKc hDc⟩ rfl rfl hl.1 rfl (lv_room (Nat.le_of_ble_eq_true rfl)) dX2_makeRoom_170 ⟨(show (gcX2 p0n n56) + (o_61.1 - (n56 17)) ≤ (gcX2 p0n (o.2.2)) from by have q0 := gsX2 hg_p0 hst65 hgn_p0; have q5 := gcX2_17 (n := n56) (mo_fX11_atLeast hc_61); rw [← en62] at q5; omega), (show (3 * (gcX2 p0n n56)) + (3 * (o_61.1 - (n56 17))) ≤ (3 * (gcX2 p0n (o.2.2))) from by have q0 := gsX2 hg_p0 hst65 hgn_p0; have q5 := gcX2_17 (n := n56) (mo_fX11_atLeast hc_61); rw [← en62] at q5; omega)⟩) hS (fun q _ h => hFc q h) hFc (fun u ra65 t H locs ht hvm hw hB hz1 hk1 hS => ?_)
  obtain ⟨z64, hB⟩ := hB
  obtain ⟨hP, hD, hK⟩ := JOIN (wr := [((p0a 0), .inr (9, [.int (w57 0 0), .int (w57 0 1), .int (w57 0 2), .ref ra5, .ref ra11, .ref ra17, .ref ra23, .ref (p0a 8), .int (w57 0 8), .ref (p0a 10), .ref ra29, .ref ra35, .ref ra41, .ref ra47, .ref ra53, .ref ra59, .ref (p0a 17), .ref (p0a 18), .ref (p0a 19)])), (ra5, .inl (z4, (n56 4), .inr (.inl (l45 4)))), (ra11, .inl (z10, (n56 5), .inr (.inl (l45 5)))), (ra17, .inl (z16, (n56 6), .inr (.inl (l45 6)))), (ra23, .inl (z22, (n56 7), .inr (.inl (l45 7)))), ((p0a 8), .inl ((p0k 8), 2, .inl (w57 8))), ((p0a 10), .inl ((p0k 10), (n56 10), .inl (w57 10))), (ra29, .inl (z28, (n56 11), .inr (.inl (l45 11)))), (ra35, .inl (z34, (n56 12), .inl (w57 12))), (ra41, .inl (z40, (n56 13), .inl (w57 13))), (ra47, .inl (z46, (n56 14), .inr (.inl (l45 14)))), (ra53, .inl (z52, (n56 15), .inl (w57 15))), (ra59, .inl (z58, (n56 16), .inl (w57 16))), ((p0a 18), .inl ((p0k 18), (n56 18), .inl (w57 18))), ((p0a 19), .inl ((p0k 19), (n56 19), .inl (w57 19)))]) hP hD hK [13] [0, 1, 2, 3, 4, 5, 6, 7, 8, 9, 10, 11, 12, 14, 15] [0, 1, 2, 3, 4, 5, 6, 7, 8, 9, 10, 11, 13, 14] rfl rfl (by decide) (by decide) rfl hk1 hFc ht hvm hB
  refine va_put (D := (dC, dI)) (ci := 9) (v := .ref ra65) (ty := .array .int) (C := RX2) (T := TX2) (N := 19) hx hb hts i_X2 tyX2 tyX2_ok nmX2 hown hK hP hD hS 0 rfl rfl 16 (by decide) (hts _ qw685) (fun _ h9 => h9) rfl (by decide +kernel) rfl rfl (Nat.le_of_ble_eq_true rfl) dX2_makeRoom_173 (fun H locs hP hD hS => ?_)
  have hP : va_P (dC, dI) cls (oX2 (p0a 0) (st1 (st1 (st1 (st1 (st1 (st1 (st1 (st1 (st1 (st1 (st1 p0a 4 ra5) 5 ra11) 6 ra17) 7 ra23) 11 ra29) 12 ra35) 13 ra41) 14 ra47) 15 ra53) 16 ra59) 17 ra65) (st1 (st1 (st1 (st1 (st1 (st1 (st1 (st1 (st1 (st1 (st1 p0k 4 z4) 5 z10) 6 z16) 7 z22) 11 z28) 12 z34) 13 z40) 14 z46) 15 z52) 16 z58) 17 z64) n62 w63 l45) H := by rw [en62, ew63]; exact hP.sub [0, 1, 2, 3, 4, 5, 6, 7, 8, 9, 10, 11, 12, 15, 13, 14] rfl
  have hD : va_D A (oX2 (p0a 0) (st1 (st1 (st1 (st1 (st1 (st1 (st1 (st1 (st1 (st1 (st1 p0a 4 ra5) 5 ra11) 6 ra17) 7 ra23) 11 ra29) 12 ra35) 13 ra41) 14 ra47) 15 ra53) 16 ra59) 17 ra65) (st1 (st1 (st1 (st1 (st1 (st1 (st1 (st1 (st1 (st1 (st1 p0k 4 z4) 5 z10) 6 z16) 7 z22) 11 z28) 12 z34) 13 z40) 14 z46) 15 z52) 16 z58) 17 z64) n62 w63 l45) := by rw [en62, ew63]; exact hD.sub [0, 1, 2, 3, 4, 5, 6, 7, 8, 9, 10, 11, 12, 15, 13, 14] (by decide) rfl
  have hK : va_K (dC, dI) cls (tX2 (st1 (st1 (st1 (st1 (st1 (st1 (st1 (st1 (st1 (st1 (st1 p0k 4 z4) 5 z10) 6 z16) 7 z22) 11 z28) 12 z34) 13 z40) 14 z46) 15 z52) 16 z58) 17 z64)) s := hK.sub [0, 1, 2, 3, 4, 5, 6, 7, 8, 9, 10, 11, 14, 12, 13] rfl
  refine W.widen (k := (gcX2 p0n n62)) (n := (3 * (gcX2 p0n n62))) (by have a0 := gcX2_add hg_p0 hst65; have q5 := gcX2_17 (n := n56) (mo_fX11_atLeast hc_61); rw [← en62] at q5; omega) (by have a0 := gcX2_add hg_p0 hst65; have q5 := gcX2_17 (n := n56) (mo_fX11_atLeast hc_61); rw [← en62] at q5; omega) ?_
  have hg_p0 : glX2 p0n n62 := glX2_tr hg_p0 hst65
  unfold fX2_makeRoom_G176_66 at hrun
  refine lv_aload_n hx hb dX2_makeRoom_176 rfl (lv_at hl 0 rfl) ?_
  refine lv_aload_n hx hb dX2_makeRoom_177 rfl (lv_at hl 0 rfl) ?_
  refine va_get (D := (dC, dI)) (ci := 9) (v := .ref (p0a 18)) (C := RX2) (T := TX2) (N := 19) hx hb hts i_X2 hown hK hP 0 rfl rfl 17 (by decide) (hts _ qw686) (fun _ h9 => h9) rfl dX2_makeRoom_178 ?_
  refine lv_aload_n hx hb dX2_makeRoom_181 rfl (lv_at hl 0 rfl) ?_
  refine va_get (D := (dC, dI)) (ci := 9) (v := .int (w63 0 1)) (C := RX2) (T := TX2) (N := 19) hx hb hts i_X2 hown hK hP 0 rfl rfl 1 (by decide) (hts _ qw666) (fun _ h9 => h9) rfl dX2_makeRoom_182 ?_
  obtain ⟨o_67, hc_67, hrun⟩ := bnd9 hrun
  obtain ⟨n68, en68, hrun⟩ := let9 hrun
  obtain ⟨w69, ew69, hrun⟩ := let9 hrun
  have hst71 : glX2 n62 n68 := by rw [en68]; exact glX2_18 (mo_fX11_atLeast hc_67)
  have hgn_p0 : glX2 n68 (o.2.2) := (mo_fX2_makeRoom_G191_72 hrun)
  have hPc := hP.sub (ws' := [((p0a 18), .inl ((p0k 18), (n62 18), .inl (w63 18)))]) [14] rfl
  have hDc := hD.sub (ws' := [((p0a 18), .inl ((p0k 18), (n62 18), .inl (w63 18)))]) [14] (by decide) rfl
  have hKc := hK.sub (tys' := [((p0k 18), .int)]) [13] rfl
  have hFc := va_free (wc := [((p0a 18), .inl ((p0k 18), (n62 18), .inl (w63 18)))]) hD hS hA [14] rfl
  refine va_callr (va_runSN (As := [.ref (p0a 18), .int (w63 0 1)]) (rest := [.ref (p0a 0)]) ⟨hx, hb, hml, hown, hts⟩ (kX11_atLeast l dC dI (p0a := (p0a 18)) (p0k := (p0k 18)) (p0n := (n62 18)) (p0f := (w63 18)) (p1 := (w63 0 1)) (sz := _) (o := o_67) (hrun := hc_67)) ⟨(va_cnB 2 hts (gi_z qw128) rfl rfl rfl (hE.nw (List.mem_append_right _ (tbl_8 (i := 206) rfl)) rfl) (hts _ qw129) (by decide +kernel) ⟨Nat.le_of_ble_eq_true rfl, Nat.le_of_ble_eq_true rfl⟩), (hts _ qw130), trivial⟩ ⟨PRE.blind, PRE.of hE hS hFc hPc hKc hDc⟩ rfl rfl hl.1 rfl (lv_room (Nat.le_of_ble_eq_true rfl)) dX2_makeRoom_185 ⟨(show (gcX2 p0n n62) + (o_67.1 - (n62 18)) ≤ (gcX2 p0n (o.2.2)) from by have q0 := gsX2 hg_p0 hst71 hgn_p0; have q5 := gcX2_18 (n := n62) (mo_fX11_atLeast hc_67); rw [← en68] at q5; omega), (show (3 * (gcX2 p0n n62)) + (3 * (o_67.1 - (n62 18))) ≤ (3 * (gcX2 p0n (o.2.2))) from by have q0 := gsX2 hg_p0 hst71 hgn_p0; have q5 := gcX2_18 (n := n62) (mo_fX11_atLeast hc_67); rw [← en68] at q5; omega)⟩) hS (fun q _ h => hFc q h) hFc (fun u ra71 t H locs ht hvm hw hB hz1 hk1 hS => ?_)
  obtain ⟨z70, hB⟩ := hB
  obtain ⟨hP, hD, hK⟩ := JOIN (wr := [((p0a 0), .inr (9, [.int (w63 0 0), .int (w63 0 1), .int (w63 0 2), .ref ra5, .ref ra11, .ref ra17, .ref ra23, .ref (p0a 8), .int (w63 0 8), .ref (p0a 10), .ref ra29, .ref ra35, .ref ra41, .ref ra47, .ref ra53, .ref ra59, .ref ra65, .ref (p0a 18), .ref (p0a 19)])), (ra5, .inl (z4, (n62 4), .inr (.inl (l45 4)))), (ra11, .inl (z10, (n62 5), .inr (.inl (l45 5)))), (ra17, .inl (z16, (n62 6), .inr (.inl (l45 6)))), (ra23, .inl (z22, (n62 7), .inr (.inl (l45 7)))), ((p0a 8), .inl ((p0k 8), 2, .inl (w63 8))), ((p0a 10), .inl ((p0k 10), (n62 10), .inl (w63 10))), (ra29, .inl (z28, (n62 11), .inr (.inl (l45 11)))), (ra35, .inl (z34, (n62 12), .inl (w63 12))), (ra41, .inl (z40, (n62 13), .inl (w63 13))), (ra47, .inl (z46, (n62 14), .inr (.inl (l45 14)))), (ra53, .inl (z52, (n62 15), .inl (w63 15))), (ra59, .inl (z58, (n62 16), .inl (w63 16))), (ra65, .inl (z64, (n62 17), .inl (w63 17))), ((p0a 19), .inl ((p0k 19), (n62 19), .inl (w63 19)))]) hP hD hK [14] [0, 1, 2, 3, 4, 5, 6, 7, 8, 9, 10, 11, 12, 13, 15] [0, 1, 2, 3, 4, 5, 6, 7, 8, 9, 10, 11, 12, 14] rfl rfl (by decide) (by decide) rfl hk1 hFc ht hvm hB
  refine va_put (D := (dC, dI)) (ci := 9) (v := .ref ra71) (ty := .array .int) (C := RX2) (T := TX2) (N := 19) hx hb hts i_X2 tyX2 tyX2_ok nmX2 hown hK hP hD hS 0 rfl rfl 17 (by decide) (hts _ qw686) (fun _ h9 => h9) rfl (by decide +kernel) rfl rfl (Nat.le_of_ble_eq_true rfl) dX2_makeRoom_188 (fun H locs hP hD hS => ?_)
  have hP : va_P (dC, dI) cls (oX2 (p0a 0) (st1 (st1 (st1 (st1 (st1 (st1 (st1 (st1 (st1 (st1 (st1 (st1 p0a 4 ra5) 5 ra11) 6 ra17) 7 ra23) 11 ra29) 12 ra35) 13 ra41) 14 ra47) 15 ra53) 16 ra59) 17 ra65) 18 ra71) (st1 (st1 (st1 (st1 (st1 (st1 (st1 (st1 (st1 (st1 (st1 (st1 p0k 4 z4) 5 z10) 6 z16) 7 z22) 11 z28) 12 z34) 13 z40) 14 z46) 15 z52) 16 z58) 17 z64) 18 z70) n68 w69 l45) H := by rw [en68, ew69]; exact hP.sub [0, 1, 2, 3, 4, 5, 6, 7, 8, 9, 10, 11, 12, 13, 15, 14] rfl
  have hD : va_D A (oX2 (p0a 0) (st1 (st1 (st1 (st1 (st1 (st1 (st1 (st1 (st1 (st1 (st1 (st1 p0a 4 ra5) 5 ra11) 6 ra17) 7 ra23) 11 ra29) 12 ra35) 13 ra41) 14 ra47) 15 ra53) 16 ra59) 17 ra65) 18 ra71) (st1 (st1 (st1 (st1 (st1 (st1 (st1 (st1 (st1 (st1 (st1 (st1 p0k 4 z4) 5 z10) 6 z16) 7 z22) 11 z28) 12 z34) 13 z40) 14 z46) 15 z52) 16 z58) 17 z64) 18 z70) n68 w69 l45) := by rw [en68, ew69]; exact hD.sub [0, 1, 2, 3, 4, 5, 6, 7, 8, 9, 10, 11, 12, 13, 15, 14] (by decide) rfl
  have hK : va_K (dC, dI) cls (tX2 (st1 (st1 (st1 (st1 (st1 (st1 (st1 (st1 (st1 (st1 (st1 (st1 p0k 4 z4) 5 z10) 6 z16) 7 z22) 11 z28) 12 z34) 13 z40) 14 z46) 15 z52) 16 z58) 17 z64) 18 z70)) s := hK.sub [0, 1, 2, 3, 4, 5, 6, 7, 8, 9, 10, 11, 12, 14, 13] rfl
  refine W.widen (k := (gcX2 p0n n68)) (n := (3 * (gcX2 p0n n68))) (by have a0 := gcX2_add hg_p0 hst71; have q5 := gcX2_18 (n := n62) (mo_fX11_atLeast hc_67); rw [← en68] at q5; omega) (by have a0 := gcX2_add hg_p0 hst71; have q5 := gcX2_18 (n := n62) (mo_fX11_atLeast hc_67); rw [← en68] at q5; omega) ?_
  have hg_p0 : glX2 p0n n68 := glX2_tr hg_p0 hst71
  unfold fX2_makeRoom_G191_72 at hrun
  refine lv_aload_n hx hb dX2_makeRoom_191 rfl (lv_at hl 0 rfl) ?_
  refine lv_aload_n hx hb dX2_makeRoom_192 rfl (lv_at hl 0 rfl) ?_
  refine va_get (D := (dC, dI)) (ci := 9) (v := .ref (p0a 19)) (C := RX2) (T := TX2) (N := 19) hx hb hts i_X2 hown hK hP 0 rfl rfl 18 (by decide) (hts _ qw687) (fun _ h9 => h9) rfl dX2_makeRoom_193 ?_
  refine lv_aload_n hx hb dX2_makeRoom_196 rfl (lv_at hl 0 rfl) ?_
  refine va_get (D := (dC, dI)) (ci := 9) (v := .int (w69 0 1)) (C := RX2) (T := TX2) (N := 19) hx hb hts i_X2 hown hK hP 0 rfl rfl 1 (by decide) (hts _ qw666) (fun _ h9 => h9) rfl dX2_makeRoom_197 ?_
  obtain ⟨o_73, hc_73, hrun⟩ := bnd9 hrun
  obtain ⟨n74, en74, hrun⟩ := let9 hrun
  obtain ⟨w75, ew75, hrun⟩ := let9 hrun
  have hst77 : glX2 n68 n74 := by rw [en74]; exact glX2_19 (mo_fX11_atLeast hc_73)
  have hgn_p0 : glX2 n74 (o.2.2) := (mo_fX2_makeRoom_G206_78 hrun)
  have hPc := hP.sub (ws' := [((p0a 19), .inl ((p0k 19), (n68 19), .inl (w69 19)))]) [15] rfl
  have hDc := hD.sub (ws' := [((p0a 19), .inl ((p0k 19), (n68 19), .inl (w69 19)))]) [15] (by decide) rfl
  have hKc := hK.sub (tys' := [((p0k 19), .int)]) [14] rfl
  have hFc := va_free (wc := [((p0a 19), .inl ((p0k 19), (n68 19), .inl (w69 19)))]) hD hS hA [15] rfl
  refine va_callr (va_runSN (As := [.ref (p0a 19), .int (w69 0 1)]) (rest := [.ref (p0a 0)]) ⟨hx, hb, hml, hown, hts⟩ (kX11_atLeast l dC dI (p0a := (p0a 19)) (p0k := (p0k 19)) (p0n := (n68 19)) (p0f := (w69 19)) (p1 := (w69 0 1)) (sz := _) (o := o_73) (hrun := hc_73)) ⟨(va_cnB 2 hts (gi_z qw128) rfl rfl rfl (hE.nw (List.mem_append_right _ (tbl_8 (i := 206) rfl)) rfl) (hts _ qw129) (by decide +kernel) ⟨Nat.le_of_ble_eq_true rfl, Nat.le_of_ble_eq_true rfl⟩), (hts _ qw130), trivial⟩ ⟨PRE.blind, PRE.of hE hS hFc hPc hKc hDc⟩ rfl rfl hl.1 rfl (lv_room (Nat.le_of_ble_eq_true rfl)) dX2_makeRoom_200 ⟨(show (gcX2 p0n n68) + (o_73.1 - (n68 19)) ≤ (gcX2 p0n (o.2.2)) from by have q0 := gsX2 hg_p0 hst77 hgn_p0; have q5 := gcX2_19 (n := n68) (mo_fX11_atLeast hc_73); rw [← en74] at q5; omega), (show (3 * (gcX2 p0n n68)) + (3 * (o_73.1 - (n68 19))) ≤ (3 * (gcX2 p0n (o.2.2))) from by have q0 := gsX2 hg_p0 hst77 hgn_p0; have q5 := gcX2_19 (n := n68) (mo_fX11_atLeast hc_73); rw [← en74] at q5; omega)⟩) hS (fun q _ h => hFc q h) hFc (fun u ra77 t H locs ht hvm hw hB hz1 hk1 hS => ?_)
  obtain ⟨z76, hB⟩ := hB
  obtain ⟨hP, hD, hK⟩ := JOIN (wr := [((p0a 0), .inr (9, [.int (w69 0 0), .int (w69 0 1), .int (w69 0 2), .ref ra5, .ref ra11, .ref ra17, .ref ra23, .ref (p0a 8), .int (w69 0 8), .ref (p0a 10), .ref ra29, .ref ra35, .ref ra41, .ref ra47, .ref ra53, .ref ra59, .ref ra65, .ref ra71, .ref (p0a 19)])), (ra5, .inl (z4, (n68 4), .inr (.inl (l45 4)))), (ra11, .inl (z10, (n68 5), .inr (.inl (l45 5)))), (ra17, .inl (z16, (n68 6), .inr (.inl (l45 6)))), (ra23, .inl (z22, (n68 7), .inr (.inl (l45 7)))), ((p0a 8), .inl ((p0k 8), 2, .inl (w69 8))), ((p0a 10), .inl ((p0k 10), (n68 10), .inl (w69 10))), (ra29, .inl (z28, (n68 11), .inr (.inl (l45 11)))), (ra35, .inl (z34, (n68 12), .inl (w69 12))), (ra41, .inl (z40, (n68 13), .inl (w69 13))), (ra47, .inl (z46, (n68 14), .inr (.inl (l45 14)))), (ra53, .inl (z52, (n68 15), .inl (w69 15))), (ra59, .inl (z58, (n68 16), .inl (w69 16))), (ra65, .inl (z64, (n68 17), .inl (w69 17))), (ra71, .inl (z70, (n68 18), .inl (w69 18)))]) hP hD hK [15] [0, 1, 2, 3, 4, 5, 6, 7, 8, 9, 10, 11, 12, 13, 14] [0, 1, 2, 3, 4, 5, 6, 7, 8, 9, 10, 11, 12, 13] rfl rfl (by decide) (by decide) rfl hk1 hFc ht hvm hB
  refine va_put (D := (dC, dI)) (ci := 9) (v := .ref ra77) (ty := .array .int) (C := RX2) (T := TX2) (N := 19) hx hb hts i_X2 tyX2 tyX2_ok nmX2 hown hK hP hD hS 0 rfl rfl 18 (by decide) (hts _ qw687) (fun _ h9 => h9) rfl (by decide +kernel) rfl rfl (Nat.le_of_ble_eq_true rfl) dX2_makeRoom_203 (fun H locs hP hD hS => ?_)
  have hP : va_P (dC, dI) cls (oX2 (p0a 0) (st1 (st1 (st1 (st1 (st1 (st1 (st1 (st1 (st1 (st1 (st1 (st1 (st1 p0a 4 ra5) 5 ra11) 6 ra17) 7 ra23) 11 ra29) 12 ra35) 13 ra41) 14 ra47) 15 ra53) 16 ra59) 17 ra65) 18 ra71) 19 ra77) (st1 (st1 (st1 (st1 (st1 (st1 (st1 (st1 (st1 (st1 (st1 (st1 (st1 p0k 4 z4) 5 z10) 6 z16) 7 z22) 11 z28) 12 z34) 13 z40) 14 z46) 15 z52) 16 z58) 17 z64) 18 z70) 19 z76) n74 w75 l45) H := by rw [en74, ew75]; exact hP.sub [0, 1, 2, 3, 4, 5, 6, 7, 8, 9, 10, 11, 12, 13, 14, 15] rfl
  have hD : va_D A (oX2 (p0a 0) (st1 (st1 (st1 (st1 (st1 (st1 (st1 (st1 (st1 (st1 (st1 (st1 (st1 p0a 4 ra5) 5 ra11) 6 ra17) 7 ra23) 11 ra29) 12 ra35) 13 ra41) 14 ra47) 15 ra53) 16 ra59) 17 ra65) 18 ra71) 19 ra77) (st1 (st1 (st1 (st1 (st1 (st1 (st1 (st1 (st1 (st1 (st1 (st1 (st1 p0k 4 z4) 5 z10) 6 z16) 7 z22) 11 z28) 12 z34) 13 z40) 14 z46) 15 z52) 16 z58) 17 z64) 18 z70) 19 z76) n74 w75 l45) := by rw [en74, ew75]; exact hD.sub [0, 1, 2, 3, 4, 5, 6, 7, 8, 9, 10, 11, 12, 13, 14, 15] (by decide) rfl
  have hK : va_K (dC, dI) cls (tX2 (st1 (st1 (st1 (st1 (st1 (st1 (st1 (st1 (st1 (st1 (st1 (st1 (st1 p0k 4 z4) 5 z10) 6 z16) 7 z22) 11 z28) 12 z34) 13 z40) 14 z46) 15 z52) 16 z58) 17 z64) 18 z70) 19 z76)) s := hK.sub [0, 1, 2, 3, 4, 5, 6, 7, 8, 9, 10, 11, 12, 13, 14] rfl
  refine W.widen (k := (gcX2 p0n n74)) (n := (3 * (gcX2 p0n n74))) (by have a0 := gcX2_add hg_p0 hst77; have q5 := gcX2_19 (n := n68) (mo_fX11_atLeast hc_73); rw [← en74] at q5; omega) (by have a0 := gcX2_add hg_p0 hst77; have q5 := gcX2_19 (n := n68) (mo_fX11_atLeast hc_73); rw [← en74] at q5; omega) ?_
  have hg_p0 : glX2 p0n n74 := glX2_tr hg_p0 hst77
  unfold fX2_makeRoom_G206_78 at hrun
  have ho9 : (w75, l45, n74) = o := Option.some.inj hrun
  subst ho9
  subst hQ
  exact W.vret hx hb hr (fun t ht hW => ⟨⟨(), rfl, trivial, ⟨ra5, z4, ra11, z10, ra17, z16, ra23, z22, (p0a 10), (p0k 10), ra29, z28, ra35, z34, ra41, z40, ra47, z46, ra53, z52, ra59, z58, ra65, z64, ra71, z70, ra77, z76, by rw [ht]; exact hP, va_K.moved hW.alike hK, hD⟩⟩, hS.F ht⟩) hS.2.2 dX2_makeRoom_206
