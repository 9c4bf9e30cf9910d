abbrev cX5_liftBlock : ByteArray := prog_7_method_36_code
def yX5_liftBlock : MethodName := ⟨RX5, "liftBlock", "(LGearbox$Flow;IJI)I"⟩
abbrev cX5_liftFromLoops : ByteArray := prog_7_method_34_code
def yX5_liftFromLoops : MethodName := ⟨RX5, "liftFromLoops", "(LGearbox$Flow;)I"⟩
abbrev cX5_mergeBlocks : ByteArray := prog_7_method_38_code
def yX5_mergeBlocks : MethodName := ⟨RX5, "mergeBlocks", "(LGearbox$Flow;)I"⟩
abbrev cX5_mergeable : ByteArray := prog_7_method_39_code
def yX5_mergeable : MethodName := ⟨RX5, "mergeable", "(LGearbox$Flow;)I"⟩
abbrev cX5_mergeInto : ByteArray := prog_7_method_40_code
def yX5_mergeInto : MethodName := ⟨RX5, "mergeInto", "(LGearbox$Flow;II)V"⟩
abbrev cX5_takeFrom : ByteArray := prog_7_method_41_code
def yX5_takeFrom : MethodName := ⟨RX5, "takeFrom", "(LGearbox$Flow;III)V"⟩
abbrev cX0_endLines : ByteArray := prog_2_method_15_code
def yX0_endLines : MethodName := ⟨RX0, "endLines", "(I)I"⟩
abbrev cX0_fetch : ByteArray := prog_2_method_12_code
def yX0_fetch : MethodName := ⟨RX0, "fetch", "(II)I"⟩
abbrev cX0_findSlot : ByteArray := prog_2_method_10_code
def yX0_findSlot : MethodName := ⟨RX0, "findSlot", "(I)V"⟩
abbrev cX0_firstFree : ByteArray := prog_2_method_5_code
def yX0_firstFree : MethodName := ⟨RX0, "firstFree", "(I)I"⟩
theorem dX0_endLines_0 : decode cX0_endLines 0 = .ok (.iload_n 1, 1) := by decide +kernel
theorem dX0_endLines_1 : decode cX0_endLines 1 = .ok (.iconst 1, 1) := by decide +kernel
theorem dX0_endLines_2 : decode cX0_endLines 2 = .ok (.iadd, 1) := by decide +kernel
theorem dX0_endLines_3 : decode cX0_endLines 3 = .ok (.istore_n 2, 1) := by decide +kernel
theorem dX0_endLines_4 : decode cX0_endLines 4 = .ok (.aload_n 0, 1) := by decide +kernel
theorem dX0_endLines_5 : decode cX0_endLines 5 = .ok (.getfield 12, 3) := by decide +kernel
theorem dX0_endLines_8 : decode cX0_endLines 8 = .ok (.getfield 241, 3) := by decide +kernel
theorem dX0_endLines_11 : decode cX0_endLines 11 = .ok (.iload_n 1, 1) := by decide +kernel
theorem dX0_endLines_12 : decode cX0_endLines 12 = .ok (.iaload, 1) := by decide +kernel
theorem dX0_endLines_13 : decode cX0_endLines 13 = .ok (.bipush 22, 2) := by decide +kernel
theorem dX0_endLines_15 : decode cX0_endLines 15 = .ok (.if_icmp .ne 22, 3) := by decide +kernel
theorem dX0_endLines_18 : decode cX0_endLines 18 = .ok (.aload_n 0, 1) := by decide +kernel
theorem dX0_endLines_19 : decode cX0_endLines 19 = .ok (.getfield 12, 3) := by decide +kernel
theorem dX0_endLines_22 : decode cX0_endLines 22 = .ok (.getfield 244, 3) := by decide +kernel
theorem dX0_endLines_25 : decode cX0_endLines 25 = .ok (.iload_n 1, 1) := by decide +kernel
theorem dX0_endLines_26 : decode cX0_endLines 26 = .ok (.iaload, 1) := by decide +kernel
theorem dX0_endLines_27 : decode cX0_endLines 27 = .ok (.iload_n 2, 1) := by decide +kernel
theorem dX0_endLines_28 : decode cX0_endLines 28 = .ok (.if_icmp .ne 7, 3) := by decide +kernel
theorem dX0_endLines_31 : decode cX0_endLines 31 = .ok (.iconst 0, 1) := by decide +kernel
theorem dX0_endLines_32 : decode cX0_endLines 32 = .ok (.goto 4, 3) := by decide +kernel
theorem dX0_endLines_35 : decode cX0_endLines 35 = .ok (.iconst 1, 1) := by decide +kernel
theorem dX0_endLines_36 : decode cX0_endLines 36 = .ok (.ireturn, 1) := by decide +kernel
theorem dX0_endLines_37 : decode cX0_endLines 37 = .ok (.aload_n 0, 1) := by decide +kernel
theorem dX0_endLines_38 : decode cX0_endLines 38 = .ok (.getfield 12, 3) := by decide +kernel
theorem dX0_endLines_41 : decode cX0_endLines 41 = .ok (.getfield 241, 3) := by decide +kernel
theorem dX0_endLines_44 : decode cX0_endLines 44 = .ok (.iload_n 1, 1) := by decide +kernel
theorem dX0_endLines_45 : decode cX0_endLines 45 = .ok (.iaload, 1) := by decide +kernel
theorem dX0_endLines_46 : decode cX0_endLines 46 = .ok (.bipush 23, 2) := by decide +kernel
theorem dX0_endLines_48 : decode cX0_endLines 48 = .ok (.if_icmp .ne 19, 3) := by decide +kernel
theorem dX0_endLines_51 : decode cX0_endLines 51 = .ok (.aload_n 0, 1) := by decide +kernel
theorem dX0_endLines_52 : decode cX0_endLines 52 = .ok (.getfield 12, 3) := by decide +kernel
theorem dX0_endLines_55 : decode cX0_endLines 55 = .ok (.iload_n 1, 1) := by decide +kernel
theorem dX0_endLines_56 : decode cX0_endLines 56 = .ok (.iload_n 2, 1) := by decide +kernel
theorem dX0_endLines_57 : decode cX0_endLines 57 = .ok (.invokevirtual 247, 3) := by decide +kernel
theorem dX0_endLines_60 : decode cX0_endLines 60 = .ok (.ifCond .ne 7, 3) := by decide +kernel
theorem dX0_endLines_63 : decode cX0_endLines 63 = .ok (.iconst 2, 1) := by decide +kernel
theorem dX0_endLines_64 : decode cX0_endLines 64 = .ok (.goto 4, 3) := by decide +kernel
theorem dX0_endLines_67 : decode cX0_endLines 67 = .ok (.iconst 1, 1) := by decide +kernel
theorem dX0_endLines_68 : decode cX0_endLines 68 = .ok (.ireturn, 1) := by decide +kernel
theorem dX0_fetch_0 : decode cX0_fetch 0 = .ok (.aload_n 0, 1) := by decide +kernel
theorem dX0_fetch_1 : decode cX0_fetch 1 = .ok (.getfield 41, 3) := by decide +kernel
theorem dX0_fetch_4 : decode cX0_fetch 4 = .ok (.iload_n 2, 1) := by decide +kernel
theorem dX0_fetch_5 : decode cX0_fetch 5 = .ok (.iaload, 1) := by decide +kernel
theorem dX0_fetch_6 : decode cX0_fetch 6 = .ok (.bipush (-2), 2) := by decide +kernel
theorem dX0_fetch_8 : decode cX0_fetch 8 = .ok (.if_icmp .ne 27, 3) := by decide +kernel
theorem dX0_fetch_11 : decode cX0_fetch 11 = .ok (.aload_n 0, 1) := by decide +kernel
theorem dX0_fetch_12 : decode cX0_fetch 12 = .ok (.getfield 12, 3) := by decide +kernel
theorem dX0_fetch_15 : decode cX0_fetch 15 = .ok (.iload_n 1, 1) := by decide +kernel
theorem dX0_fetch_16 : decode cX0_fetch 16 = .ok (.iconst 0, 1) := by decide +kernel
theorem dX0_fetch_17 : decode cX0_fetch 17 = .ok (.aload_n 0, 1) := by decide +kernel
theorem dX0_fetch_18 : decode cX0_fetch 18 = .ok (.getfield 90, 3) := by decide +kernel
theorem dX0_fetch_21 : decode cX0_fetch 21 = .ok (.aload_n 0, 1) := by decide +kernel
theorem dX0_fetch_22 : decode cX0_fetch 22 = .ok (.getfield 44, 3) := by decide +kernel
theorem dX0_fetch_25 : decode cX0_fetch 25 = .ok (.iload_n 2, 1) := by decide +kernel
theorem dX0_fetch_26 : decode cX0_fetch 26 = .ok (.iaload, 1) := by decide +kernel
theorem dX0_fetch_27 : decode cX0_fetch 27 = .ok (.iconst (-1), 1) := by decide +kernel
theorem dX0_fetch_28 : decode cX0_fetch 28 = .ok (.invokevirtual 145, 3) := by decide +kernel
theorem dX0_fetch_31 : decode cX0_fetch 31 = .ok (.pop, 1) := by decide +kernel
theorem dX0_fetch_32 : decode cX0_fetch 32 = .ok (.goto 25, 3) := by decide +kernel
theorem dX0_fetch_35 : decode cX0_fetch 35 = .ok (.aload_n 0, 1) := by decide +kernel
theorem dX0_fetch_36 : decode cX0_fetch 36 = .ok (.getfield 12, 3) := by decide +kernel
theorem dX0_fetch_39 : decode cX0_fetch 39 = .ok (.iload_n 1, 1) := by decide +kernel
theorem dX0_fetch_40 : decode cX0_fetch 40 = .ok (.bipush 26, 2) := by decide +kernel
theorem dX0_fetch_42 : decode cX0_fetch 42 = .ok (.aload_n 0, 1) := by decide +kernel
theorem dX0_fetch_43 : decode cX0_fetch 43 = .ok (.getfield 90, 3) := by decide +kernel
theorem dX0_fetch_46 : decode cX0_fetch 46 = .ok (.aload_n 0, 1) := by decide +kernel
theorem dX0_fetch_47 : decode cX0_fetch 47 = .ok (.getfield 41, 3) := by decide +kernel
theorem dX0_fetch_50 : decode cX0_fetch 50 = .ok (.iload_n 2, 1) := by decide +kernel
theorem dX0_fetch_51 : decode cX0_fetch 51 = .ok (.iaload, 1) := by decide +kernel
theorem dX0_fetch_52 : decode cX0_fetch 52 = .ok (.iconst (-1), 1) := by decide +kernel
theorem dX0_fetch_53 : decode cX0_fetch 53 = .ok (.invokevirtual 145, 3) := by decide +kernel
theorem dX0_fetch_56 : decode cX0_fetch 56 = .ok (.pop, 1) := by decide +kernel
theorem dX0_fetch_57 : decode cX0_fetch 57 = .ok (.aload_n 0, 1) := by decide +kernel
theorem dX0_fetch_58 : decode cX0_fetch 58 = .ok (.dup, 1) := by decide +kernel
theorem dX0_fetch_59 : decode cX0_fetch 59 = .ok (.getfield 90, 3) := by decide +kernel
theorem dX0_fetch_62 : decode cX0_fetch 62 = .ok (.iconst 1, 1) := by decide +kernel
theorem dX0_fetch_63 : decode cX0_fetch 63 = .ok (.iadd, 1) := by decide +kernel
theorem dX0_fetch_64 : decode cX0_fetch 64 = .ok (.putfield 90, 3) := by decide +kernel
theorem dX0_fetch_67 : decode cX0_fetch 67 = .ok (.aload_n 0, 1) := by decide +kernel
theorem dX0_fetch_68 : decode cX0_fetch 68 = .ok (.getfield 90, 3) := by decide +kernel
theorem dX0_fetch_71 : decode cX0_fetch 71 = .ok (.iconst 1, 1) := by decide +kernel
theorem dX0_fetch_72 : decode cX0_fetch 72 = .ok (.isub, 1) := by decide +kernel
theorem dX0_fetch_73 : decode cX0_fetch 73 = .ok (.ireturn, 1) := by decide +kernel
theorem dX0_findSlot_0 : decode cX0_findSlot 0 = .ok (.aload_n 0, 1) := by decide +kernel
theorem dX0_findSlot_1 : decode cX0_findSlot 1 = .ok (.getfield 37, 3) := by decide +kernel
theorem dX0_findSlot_4 : decode cX0_findSlot 4 = .ok (.getfield 225, 3) := by decide +kernel
theorem dX0_findSlot_7 : decode cX0_findSlot 7 = .ok (.iload_n 1, 1) := by decide +kernel
theorem dX0_findSlot_8 : decode cX0_findSlot 8 = .ok (.iaload, 1) := by decide +kernel
theorem dX0_findSlot_9 : decode cX0_findSlot 9 = .ok (.istore_n 2, 1) := by decide +kernel
theorem dX0_findSlot_10 : decode cX0_findSlot 10 = .ok (.aload_n 0, 1) := by decide +kernel
theorem dX0_findSlot_11 : decode cX0_findSlot 11 = .ok (.getfield 37, 3) := by decide +kernel
theorem dX0_findSlot_14 : decode cX0_findSlot 14 = .ok (.getfield 209, 3) := by decide +kernel
theorem dX0_findSlot_17 : decode cX0_findSlot 17 = .ok (.iload_n 1, 1) := by decide +kernel
theorem dX0_findSlot_18 : decode cX0_findSlot 18 = .ok (.iaload, 1) := by decide +kernel
theorem dX0_findSlot_19 : decode cX0_findSlot 19 = .ok (.iconst 1, 1) := by decide +kernel
theorem dX0_findSlot_20 : decode cX0_findSlot 20 = .ok (.if_icmp .ne 47, 3) := by decide +kernel
theorem dX0_findSlot_23 : decode cX0_findSlot 23 = .ok (.aload_n 0, 1) := by decide +kernel
theorem dX0_findSlot_24 : decode cX0_findSlot 24 = .ok (.getfield 12, 3) := by decide +kernel
theorem dX0_findSlot_27 : decode cX0_findSlot 27 = .ok (.getfield 155, 3) := by decide +kernel
theorem dX0_findSlot_30 : decode cX0_findSlot 30 = .ok (.getfield 159, 3) := by decide +kernel
theorem dX0_findSlot_33 : decode cX0_findSlot 33 = .ok (.iload_n 2, 1) := by decide +kernel
theorem dX0_findSlot_34 : decode cX0_findSlot 34 = .ok (.iaload, 1) := by decide +kernel
theorem dX0_findSlot_35 : decode cX0_findSlot 35 = .ok (.ifCond .ne 32, 3) := by decide +kernel
theorem dX0_findSlot_38 : decode cX0_findSlot 38 = .ok (.aload_n 0, 1) := by decide +kernel
theorem dX0_findSlot_39 : decode cX0_findSlot 39 = .ok (.getfield 41, 3) := by decide +kernel
theorem dX0_findSlot_42 : decode cX0_findSlot 42 = .ok (.iload_n 1, 1) := by decide +kernel
theorem dX0_findSlot_43 : decode cX0_findSlot 43 = .ok (.bipush (-2), 2) := by decide +kernel
theorem dX0_findSlot_45 : decode cX0_findSlot 45 = .ok (.iastore, 1) := by decide +kernel
theorem dX0_findSlot_46 : decode cX0_findSlot 46 = .ok (.aload_n 0, 1) := by decide +kernel
theorem dX0_findSlot_47 : decode cX0_findSlot 47 = .ok (.getfield 44, 3) := by decide +kernel
theorem dX0_findSlot_50 : decode cX0_findSlot 50 = .ok (.iload_n 1, 1) := by decide +kernel
theorem dX0_findSlot_51 : decode cX0_findSlot 51 = .ok (.aload_n 0, 1) := by decide +kernel
theorem dX0_findSlot_52 : decode cX0_findSlot 52 = .ok (.getfield 12, 3) := by decide +kernel
theorem dX0_findSlot_55 : decode cX0_findSlot 55 = .ok (.getfield 155, 3) := by decide +kernel
theorem dX0_findSlot_58 : decode cX0_findSlot 58 = .ok (.getfield 165, 3) := by decide +kernel
theorem dX0_findSlot_61 : decode cX0_findSlot 61 = .ok (.iload_n 2, 1) := by decide +kernel
theorem dX0_findSlot_62 : decode cX0_findSlot 62 = .ok (.iaload, 1) := by decide +kernel
theorem dX0_findSlot_63 : decode cX0_findSlot 63 = .ok (.iastore, 1) := by decide +kernel
theorem dX0_findSlot_64 : decode cX0_findSlot 64 = .ok (.goto 23, 3) := by decide +kernel
theorem dX0_findSlot_67 : decode cX0_findSlot 67 = .ok (.aload_n 0, 1) := by decide +kernel
theorem dX0_findSlot_68 : decode cX0_findSlot 68 = .ok (.getfield 41, 3) := by decide +kernel
theorem dX0_findSlot_71 : decode cX0_findSlot 71 = .ok (.iload_n 1, 1) := by decide +kernel
theorem dX0_findSlot_72 : decode cX0_findSlot 72 = .ok (.aload_n 0, 1) := by decide +kernel
theorem dX0_findSlot_73 : decode cX0_findSlot 73 = .ok (.getfield 71, 3) := by decide +kernel
theorem dX0_findSlot_76 : decode cX0_findSlot 76 = .ok (.iastore, 1) := by decide +kernel
theorem dX0_findSlot_77 : decode cX0_findSlot 77 = .ok (.aload_n 0, 1) := by decide +kernel
theorem dX0_findSlot_78 : decode cX0_findSlot 78 = .ok (.dup, 1) := by decide +kernel
theorem dX0_findSlot_79 : decode cX0_findSlot 79 = .ok (.getfield 71, 3) := by decide +kernel
theorem dX0_findSlot_82 : decode cX0_findSlot 82 = .ok (.iconst 1, 1) := by decide +kernel
theorem dX0_findSlot_83 : decode cX0_findSlot 83 = .ok (.iadd, 1) := by decide +kernel
theorem dX0_findSlot_84 : decode cX0_findSlot 84 = .ok (.putfield 71, 3) := by decide +kernel
theorem dX0_findSlot_87 : decode cX0_findSlot 87 = .ok (.return_, 1) := by decide +kernel
theorem dX0_firstFree_0 : decode cX0_firstFree 0 = .ok (.iconst 0, 1) := by decide +kernel
theorem dX0_firstFree_1 : decode cX0_firstFree 1 = .ok (.istore_n 2, 1) := by decide +kernel
theorem dX0_firstFree_2 : decode cX0_firstFree 2 = .ok (.iload_n 2, 1) := by decide +kernel
theorem dX0_firstFree_3 : decode cX0_firstFree 3 = .ok (.iload_n 1, 1) := by decide +kernel
theorem dX0_firstFree_4 : decode cX0_firstFree 4 = .ok (.if_icmp .ge 58, 3) := by decide +kernel
theorem dX0_firstFree_7 : decode cX0_firstFree 7 = .ok (.iconst 0, 1) := by decide +kernel
theorem dX0_firstFree_8 : decode cX0_firstFree 8 = .ok (.istore_n 3, 1) := by decide +kernel
theorem dX0_firstFree_9 : decode cX0_firstFree 9 = .ok (.iconst 0, 1) := by decide +kernel
theorem dX0_firstFree_10 : decode cX0_firstFree 10 = .ok (.istore 4, 2) := by decide +kernel
theorem dX0_firstFree_12 : decode cX0_firstFree 12 = .ok (.iload 4, 2) := by decide +kernel
theorem dX0_firstFree_14 : decode cX0_firstFree 14 = .ok (.iload_n 1, 1) := by decide +kernel
theorem dX0_firstFree_15 : decode cX0_firstFree 15 = .ok (.if_icmp .ge 35, 3) := by decide +kernel
theorem dX0_firstFree_18 : decode cX0_firstFree 18 = .ok (.iload_n 3, 1) := by decide +kernel
theorem dX0_firstFree_19 : decode cX0_firstFree 19 = .ok (.ifCond .ne 19, 3) := by decide +kernel
theorem dX0_firstFree_22 : decode cX0_firstFree 22 = .ok (.aload_n 0, 1) := by decide +kernel
theorem dX0_firstFree_23 : decode cX0_firstFree 23 = .ok (.getfield 50, 3) := by decide +kernel
theorem dX0_firstFree_26 : decode cX0_firstFree 26 = .ok (.iload 4, 2) := by decide +kernel
theorem dX0_firstFree_28 : decode cX0_firstFree 28 = .ok (.iaload, 1) := by decide +kernel
theorem dX0_firstFree_29 : decode cX0_firstFree 29 = .ok (.aload_n 0, 1) := by decide +kernel
theorem dX0_firstFree_30 : decode cX0_firstFree 30 = .ok (.getfield 47, 3) := by decide +kernel
theorem dX0_firstFree_33 : decode cX0_firstFree 33 = .ok (.iload_n 2, 1) := by decide +kernel
theorem dX0_firstFree_34 : decode cX0_firstFree 34 = .ok (.iaload, 1) := by decide +kernel
theorem dX0_firstFree_35 : decode cX0_firstFree 35 = .ok (.if_icmp .ne 7, 3) := by decide +kernel
theorem dX0_firstFree_38 : decode cX0_firstFree 38 = .ok (.iconst 1, 1) := by decide +kernel
theorem dX0_firstFree_39 : decode cX0_firstFree 39 = .ok (.goto 4, 3) := by decide +kernel
theorem dX0_firstFree_42 : decode cX0_firstFree 42 = .ok (.iconst 0, 1) := by decide +kernel
theorem dX0_firstFree_43 : decode cX0_firstFree 43 = .ok (.istore_n 3, 1) := by decide +kernel
theorem dX0_firstFree_44 : decode cX0_firstFree 44 = .ok (.iinc 4 1, 3) := by decide +kernel
theorem dX0_firstFree_47 : decode cX0_firstFree 47 = .ok (.goto (-35), 3) := by decide +kernel
theorem dX0_firstFree_50 : decode cX0_firstFree 50 = .ok (.iload_n 3, 1) := by decide +kernel
theorem dX0_firstFree_51 : decode cX0_firstFree 51 = .ok (.ifCond .ne 5, 3) := by decide +kernel
theorem dX0_firstFree_54 : decode cX0_firstFree 54 = .ok (.iload_n 2, 1) := by decide +kernel
theorem dX0_firstFree_55 : decode cX0_firstFree 55 = .ok (.ireturn, 1) := by decide +kernel
theorem dX0_firstFree_56 : decode cX0_firstFree 56 = .ok (.iinc 2 1, 3) := by decide +kernel
theorem dX0_firstFree_59 : decode cX0_firstFree 59 = .ok (.goto (-57), 3) := by decide +kernel
theorem dX0_firstFree_62 : decode cX0_firstFree 62 = .ok (.iconst (-1), 1) := by decide +kernel
theorem dX0_firstFree_63 : decode cX0_firstFree 63 = .ok (.ireturn, 1) := by decide +kernel
theorem dX5_liftBlock_0 : decode cX5_liftBlock 0 = .ok (.iconst 0, 1) := by decide +kernel
theorem dX5_liftBlock_1 : decode cX5_liftBlock 1 = .ok (.istore 6, 2) := by decide +kernel
theorem dX5_liftBlock_3 : decode cX5_liftBlock 3 = .ok (.aload_n 1, 1) := by decide +kernel
theorem dX5_liftBlock_4 : decode cX5_liftBlock 4 = .ok (.iload_n 2, 1) := by decide +kernel
theorem dX5_liftBlock_5 : decode cX5_liftBlock 5 = .ok (.invokevirtual 167, 3) := by decide +kernel
theorem dX5_liftBlock_8 : decode cX5_liftBlock 8 = .ok (.istore 8, 2) := by decide +kernel
theorem dX5_liftBlock_10 : decode cX5_liftBlock 10 = .ok (.iload 8, 2) := by decide +kernel
theorem dX5_liftBlock_12 : decode cX5_liftBlock 12 = .ok (.ifCond .lt 71, 3) := by decide +kernel
theorem dX5_liftBlock_15 : decode cX5_liftBlock 15 = .ok (.aload_n 1, 1) := by decide +kernel
theorem dX5_liftBlock_16 : decode cX5_liftBlock 16 = .ok (.getfield 67, 3) := by decide +kernel
theorem dX5_liftBlock_19 : decode cX5_liftBlock 19 = .ok (.getfield 76, 3) := by decide +kernel
theorem dX5_liftBlock_22 : decode cX5_liftBlock 22 = .ok (.iload 8, 2) := by decide +kernel
theorem dX5_liftBlock_24 : decode cX5_liftBlock 24 = .ok (.iaload, 1) := by decide +kernel
theorem dX5_liftBlock_25 : decode cX5_liftBlock 25 = .ok (.istore 7, 2) := by decide +kernel
theorem dX5_liftBlock_27 : decode cX5_liftBlock 27 = .ok (.aload_n 0, 1) := by decide +kernel
theorem dX5_liftBlock_28 : decode cX5_liftBlock 28 = .ok (.aload_n 1, 1) := by decide +kernel
theorem dX5_liftBlock_29 : decode cX5_liftBlock 29 = .ok (.iload 8, 2) := by decide +kernel
theorem dX5_liftBlock_31 : decode cX5_liftBlock 31 = .ok (.lload_n 3, 1) := by decide +kernel
theorem dX5_liftBlock_32 : decode cX5_liftBlock 32 = .ok (.invokevirtual 292, 3) := by decide +kernel
theorem dX5_liftBlock_35 : decode cX5_liftBlock 35 = .ok (.ifCond .eq 34, 3) := by decide +kernel
theorem dX5_liftBlock_38 : decode cX5_liftBlock 38 = .ok (.aload_n 1, 1) := by decide +kernel
theorem dX5_liftBlock_39 : decode cX5_liftBlock 39 = .ok (.iload 5, 2) := by decide +kernel
theorem dX5_liftBlock_41 : decode cX5_liftBlock 41 = .ok (.iload 8, 2) := by decide +kernel
theorem dX5_liftBlock_43 : decode cX5_liftBlock 43 = .ok (.invokevirtual 185, 3) := by decide +kernel
theorem dX5_liftBlock_46 : decode cX5_liftBlock 46 = .ok (.aload_n 0, 1) := by decide +kernel
theorem dX5_liftBlock_47 : decode cX5_liftBlock 47 = .ok (.getfield 15, 3) := by decide +kernel
theorem dX5_liftBlock_50 : decode cX5_liftBlock 50 = .ok (.aload_n 1, 1) := by decide +kernel
theorem dX5_liftBlock_51 : decode cX5_liftBlock 51 = .ok (.getfield 67, 3) := by decide +kernel
theorem dX5_liftBlock_54 : decode cX5_liftBlock 54 = .ok (.getfield 71, 3) := by decide +kernel
theorem dX5_liftBlock_57 : decode cX5_liftBlock 57 = .ok (.iload 8, 2) := by decide +kernel
theorem dX5_liftBlock_59 : decode cX5_liftBlock 59 = .ok (.iaload, 1) := by decide +kernel
theorem dX5_liftBlock_60 : decode cX5_liftBlock 60 = .ok (.iload 5, 2) := by decide +kernel
theorem dX5_liftBlock_62 : decode cX5_liftBlock 62 = .ok (.iastore, 1) := by decide +kernel
theorem dX5_liftBlock_63 : decode cX5_liftBlock 63 = .ok (.iinc 6 1, 3) := by decide +kernel
theorem dX5_liftBlock_66 : decode cX5_liftBlock 66 = .ok (.goto 10, 3) := by decide +kernel
theorem dX5_liftBlock_69 : decode cX5_liftBlock 69 = .ok (.aload_n 1, 1) := by decide +kernel
theorem dX5_liftBlock_70 : decode cX5_liftBlock 70 = .ok (.iload_n 2, 1) := by decide +kernel
theorem dX5_liftBlock_71 : decode cX5_liftBlock 71 = .ok (.iload 8, 2) := by decide +kernel
theorem dX5_liftBlock_73 : decode cX5_liftBlock 73 = .ok (.invokevirtual 185, 3) := by decide +kernel
theorem dX5_liftBlock_76 : decode cX5_liftBlock 76 = .ok (.iload 7, 2) := by decide +kernel
theorem dX5_liftBlock_78 : decode cX5_liftBlock 78 = .ok (.istore 8, 2) := by decide +kernel
theorem dX5_liftBlock_80 : decode cX5_liftBlock 80 = .ok (.goto (-70), 3) := by decide +kernel
theorem dX5_liftBlock_83 : decode cX5_liftBlock 83 = .ok (.iload 6, 2) := by decide +kernel
theorem dX5_liftBlock_85 : decode cX5_liftBlock 85 = .ok (.ireturn, 1) := by decide +kernel
theorem dX5_liftFromLoops_0 : decode cX5_liftFromLoops 0 = .ok (.aload_n 0, 1) := by decide +kernel
theorem dX5_liftFromLoops_1 : decode cX5_liftFromLoops 1 = .ok (.aload_n 1, 1) := by decide +kernel
theorem dX5_liftFromLoops_2 : decode cX5_liftFromLoops 2 = .ok (.invokevirtual 191, 3) := by decide +kernel
theorem dX5_liftFromLoops_5 : decode cX5_liftFromLoops 5 = .ok (.iconst 0, 1) := by decide +kernel
theorem dX5_liftFromLoops_6 : decode cX5_liftFromLoops 6 = .ok (.istore_n 2, 1) := by decide +kernel
theorem dX5_liftFromLoops_7 : decode cX5_liftFromLoops 7 = .ok (.aload_n 1, 1) := by decide +kernel
theorem dX5_liftFromLoops_8 : decode cX5_liftFromLoops 8 = .ok (.getfield 49, 3) := by decide +kernel
theorem dX5_liftFromLoops_11 : decode cX5_liftFromLoops 11 = .ok (.iconst 1, 1) := by decide +kernel
theorem dX5_liftFromLoops_12 : decode cX5_liftFromLoops 12 = .ok (.isub, 1) := by decide +kernel
theorem dX5_liftFromLoops_13 : decode cX5_liftFromLoops 13 = .ok (.istore_n 3, 1) := by decide +kernel
theorem dX5_liftFromLoops_14 : decode cX5_liftFromLoops 14 = .ok (.iload_n 3, 1) := by decide +kernel
theorem dX5_liftFromLoops_15 : decode cX5_liftFromLoops 15 = .ok (.ifCond .lt 86, 3) := by decide +kernel
theorem dX5_liftFromLoops_18 : decode cX5_liftFromLoops 18 = .ok (.aload_n 1, 1) := by decide +kernel
theorem dX5_liftFromLoops_19 : decode cX5_liftFromLoops 19 = .ok (.getfield 282, 3) := by decide +kernel
theorem dX5_liftFromLoops_22 : decode cX5_liftFromLoops 22 = .ok (.iload_n 3, 1) := by decide +kernel
theorem dX5_liftFromLoops_23 : decode cX5_liftFromLoops 23 = .ok (.laload, 1) := by decide +kernel
theorem dX5_liftFromLoops_24 : decode cX5_liftFromLoops 24 = .ok (.lconst 0, 1) := by decide +kernel
theorem dX5_liftFromLoops_25 : decode cX5_liftFromLoops 25 = .ok (.lcmp, 1) := by decide +kernel
theorem dX5_liftFromLoops_26 : decode cX5_liftFromLoops 26 = .ok (.ifCond .ne 7, 3) := by decide +kernel
theorem dX5_liftFromLoops_29 : decode cX5_liftFromLoops 29 = .ok (.iconst (-1), 1) := by decide +kernel
theorem dX5_liftFromLoops_30 : decode cX5_liftFromLoops 30 = .ok (.goto 8, 3) := by decide +kernel
theorem dX5_liftFromLoops_33 : decode cX5_liftFromLoops 33 = .ok (.aload_n 1, 1) := by decide +kernel
theorem dX5_liftFromLoops_34 : decode cX5_liftFromLoops 34 = .ok (.iload_n 3, 1) := by decide +kernel
theorem dX5_liftFromLoops_35 : decode cX5_liftFromLoops 35 = .ok (.invokestatic 285, 3) := by decide +kernel
theorem dX5_liftFromLoops_38 : decode cX5_liftFromLoops 38 = .ok (.istore 4, 2) := by decide +kernel
theorem dX5_liftFromLoops_40 : decode cX5_liftFromLoops 40 = .ok (.iload 4, 2) := by decide +kernel
theorem dX5_liftFromLoops_42 : decode cX5_liftFromLoops 42 = .ok (.ifCond .lt 53, 3) := by decide +kernel
theorem dX5_liftFromLoops_45 : decode cX5_liftFromLoops 45 = .ok (.iconst 0, 1) := by decide +kernel
theorem dX5_liftFromLoops_46 : decode cX5_liftFromLoops 46 = .ok (.istore 5, 2) := by decide +kernel
theorem dX5_liftFromLoops_48 : decode cX5_liftFromLoops 48 = .ok (.iload 5, 2) := by decide +kernel
theorem dX5_liftFromLoops_50 : decode cX5_liftFromLoops 50 = .ok (.aload_n 1, 1) := by decide +kernel
theorem dX5_liftFromLoops_51 : decode cX5_liftFromLoops 51 = .ok (.getfield 49, 3) := by decide +kernel
theorem dX5_liftFromLoops_54 : decode cX5_liftFromLoops 54 = .ok (.if_icmp .ge 41, 3) := by decide +kernel
theorem dX5_liftFromLoops_57 : decode cX5_liftFromLoops 57 = .ok (.aload_n 1, 1) := by decide +kernel
theorem dX5_liftFromLoops_58 : decode cX5_liftFromLoops 58 = .ok (.getfield 282, 3) := by decide +kernel
theorem dX5_liftFromLoops_61 : decode cX5_liftFromLoops 61 = .ok (.iload_n 3, 1) := by decide +kernel
theorem dX5_liftFromLoops_62 : decode cX5_liftFromLoops 62 = .ok (.laload, 1) := by decide +kernel
theorem dX5_liftFromLoops_63 : decode cX5_liftFromLoops 63 = .ok (.iload 5, 2) := by decide +kernel
theorem dX5_liftFromLoops_65 : decode cX5_liftFromLoops 65 = .ok (.invokestatic 101, 3) := by decide +kernel
theorem dX5_liftFromLoops_68 : decode cX5_liftFromLoops 68 = .ok (.ifCond .eq 21, 3) := by decide +kernel
theorem dX5_liftFromLoops_71 : decode cX5_liftFromLoops 71 = .ok (.iload_n 2, 1) := by decide +kernel
theorem dX5_liftFromLoops_72 : decode cX5_liftFromLoops 72 = .ok (.aload_n 0, 1) := by decide +kernel
theorem dX5_liftFromLoops_73 : decode cX5_liftFromLoops 73 = .ok (.aload_n 1, 1) := by decide +kernel
theorem dX5_liftFromLoops_74 : decode cX5_liftFromLoops 74 = .ok (.iload 5, 2) := by decide +kernel
theorem dX5_liftFromLoops_76 : decode cX5_liftFromLoops 76 = .ok (.aload_n 1, 1) := by decide +kernel
theorem dX5_liftFromLoops_77 : decode cX5_liftFromLoops 77 = .ok (.getfield 282, 3) := by decide +kernel
theorem dX5_liftFromLoops_80 : decode cX5_liftFromLoops 80 = .ok (.iload_n 3, 1) := by decide +kernel
theorem dX5_liftFromLoops_81 : decode cX5_liftFromLoops 81 = .ok (.laload, 1) := by decide +kernel
theorem dX5_liftFromLoops_82 : decode cX5_liftFromLoops 82 = .ok (.iload 4, 2) := by decide +kernel
theorem dX5_liftFromLoops_84 : decode cX5_liftFromLoops 84 = .ok (.invokevirtual 288, 3) := by decide +kernel
theorem dX5_liftFromLoops_87 : decode cX5_liftFromLoops 87 = .ok (.iadd, 1) := by decide +kernel
theorem dX5_liftFromLoops_88 : decode cX5_liftFromLoops 88 = .ok (.istore_n 2, 1) := by decide +kernel
theorem dX5_liftFromLoops_89 : decode cX5_liftFromLoops 89 = .ok (.iinc 5 1, 3) := by decide +kernel
theorem dX5_liftFromLoops_92 : decode cX5_liftFromLoops 92 = .ok (.goto (-44), 3) := by decide +kernel
theorem dX5_liftFromLoops_95 : decode cX5_liftFromLoops 95 = .ok (.iinc 3 (-1), 3) := by decide +kernel
theorem dX5_liftFromLoops_98 : decode cX5_liftFromLoops 98 = .ok (.goto (-84), 3) := by decide +kernel
theorem dX5_liftFromLoops_101 : decode cX5_liftFromLoops 101 = .ok (.iload_n 2, 1) := by decide +kernel
theorem dX5_liftFromLoops_102 : decode cX5_liftFromLoops 102 = .ok (.ireturn, 1) := by decide +kernel
theorem dX5_mergeBlocks_0 : decode cX5_mergeBlocks 0 = .ok (.aload_n 0, 1) := by decide +kernel
theorem dX5_mergeBlocks_1 : decode cX5_mergeBlocks 1 = .ok (.getfield 24, 3) := by decide +kernel
theorem dX5_mergeBlocks_4 : decode cX5_mergeBlocks 4 = .ok (.iconst (-1), 1) := by decide +kernel
theorem dX5_mergeBlocks_5 : decode cX5_mergeBlocks 5 = .ok (.invokestatic 43, 3) := by decide +kernel
theorem dX5_mergeBlocks_8 : decode cX5_mergeBlocks 8 = .ok (.iconst 0, 1) := by decide +kernel
theorem dX5_mergeBlocks_9 : decode cX5_mergeBlocks 9 = .ok (.istore_n 2, 1) := by decide +kernel
theorem dX5_mergeBlocks_10 : decode cX5_mergeBlocks 10 = .ok (.aload_n 0, 1) := by decide +kernel
theorem dX5_mergeBlocks_11 : decode cX5_mergeBlocks 11 = .ok (.lconst 1, 1) := by decide +kernel
theorem dX5_mergeBlocks_12 : decode cX5_mergeBlocks 12 = .ok (.aload_n 1, 1) := by decide +kernel
theorem dX5_mergeBlocks_13 : decode cX5_mergeBlocks 13 = .ok (.getfield 49, 3) := by decide +kernel
theorem dX5_mergeBlocks_16 : decode cX5_mergeBlocks 16 = .ok (.lshl, 1) := by decide +kernel
theorem dX5_mergeBlocks_17 : decode cX5_mergeBlocks 17 = .ok (.lconst 1, 1) := by decide +kernel
theorem dX5_mergeBlocks_18 : decode cX5_mergeBlocks 18 = .ok (.lsub, 1) := by decide +kernel
theorem dX5_mergeBlocks_19 : decode cX5_mergeBlocks 19 = .ok (.putfield 96, 3) := by decide +kernel
theorem dX5_mergeBlocks_22 : decode cX5_mergeBlocks 22 = .ok (.iconst 1, 1) := by decide +kernel
theorem dX5_mergeBlocks_23 : decode cX5_mergeBlocks 23 = .ok (.istore_n 3, 1) := by decide +kernel
theorem dX5_mergeBlocks_24 : decode cX5_mergeBlocks 24 = .ok (.iconst 0, 1) := by decide +kernel
theorem dX5_mergeBlocks_25 : decode cX5_mergeBlocks 25 = .ok (.istore 4, 2) := by decide +kernel
theorem dX5_mergeBlocks_27 : decode cX5_mergeBlocks 27 = .ok (.iload_n 3, 1) := by decide +kernel
theorem dX5_mergeBlocks_28 : decode cX5_mergeBlocks 28 = .ok (.ifCond .eq 55, 3) := by decide +kernel
theorem dX5_mergeBlocks_31 : decode cX5_mergeBlocks 31 = .ok (.iload 4, 2) := by decide +kernel
theorem dX5_mergeBlocks_33 : decode cX5_mergeBlocks 33 = .ok (.bipush 60, 2) := by decide +kernel
theorem dX5_mergeBlocks_35 : decode cX5_mergeBlocks 35 = .ok (.if_icmp .gt 48, 3) := by decide +kernel
theorem dX5_mergeBlocks_38 : decode cX5_mergeBlocks 38 = .ok (.aload_n 0, 1) := by decide +kernel
theorem dX5_mergeBlocks_39 : decode cX5_mergeBlocks 39 = .ok (.aload_n 1, 1) := by decide +kernel
theorem dX5_mergeBlocks_40 : decode cX5_mergeBlocks 40 = .ok (.invokevirtual 296, 3) := by decide +kernel
theorem dX5_mergeBlocks_43 : decode cX5_mergeBlocks 43 = .ok (.istore 5, 2) := by decide +kernel
theorem dX5_mergeBlocks_45 : decode cX5_mergeBlocks 45 = .ok (.iload 5, 2) := by decide +kernel
theorem dX5_mergeBlocks_47 : decode cX5_mergeBlocks 47 = .ok (.ifCond .lt 7, 3) := by decide +kernel
theorem dX5_mergeBlocks_50 : decode cX5_mergeBlocks 50 = .ok (.iconst 1, 1) := by decide +kernel
theorem dX5_mergeBlocks_51 : decode cX5_mergeBlocks 51 = .ok (.goto 4, 3) := by decide +kernel
theorem dX5_mergeBlocks_54 : decode cX5_mergeBlocks 54 = .ok (.iconst 0, 1) := by decide +kernel
theorem dX5_mergeBlocks_55 : decode cX5_mergeBlocks 55 = .ok (.istore_n 3, 1) := by decide +kernel
theorem dX5_mergeBlocks_56 : decode cX5_mergeBlocks 56 = .ok (.iload_n 3, 1) := by decide +kernel
theorem dX5_mergeBlocks_57 : decode cX5_mergeBlocks 57 = .ok (.ifCond .eq 20, 3) := by decide +kernel
theorem dX5_mergeBlocks_60 : decode cX5_mergeBlocks 60 = .ok (.aload_n 0, 1) := by decide +kernel
theorem dX5_mergeBlocks_61 : decode cX5_mergeBlocks 61 = .ok (.aload_n 1, 1) := by decide +kernel
theorem dX5_mergeBlocks_62 : decode cX5_mergeBlocks 62 = .ok (.iload 5, 2) := by decide +kernel
theorem dX5_mergeBlocks_64 : decode cX5_mergeBlocks 64 = .ok (.aload_n 1, 1) := by decide +kernel
theorem dX5_mergeBlocks_65 : decode cX5_mergeBlocks 65 = .ok (.getfield 125, 3) := by decide +kernel
theorem dX5_mergeBlocks_68 : decode cX5_mergeBlocks 68 = .ok (.iload 5, 2) := by decide +kernel
theorem dX5_mergeBlocks_70 : decode cX5_mergeBlocks 70 = .ok (.iaload, 1) := by decide +kernel
theorem dX5_mergeBlocks_71 : decode cX5_mergeBlocks 71 = .ok (.invokevirtual 300, 3) := by decide +kernel
theorem dX5_mergeBlocks_74 : decode cX5_mergeBlocks 74 = .ok (.iinc 2 1, 3) := by decide +kernel
theorem dX5_mergeBlocks_77 : decode cX5_mergeBlocks 77 = .ok (.iinc 4 1, 3) := by decide +kernel
theorem dX5_mergeBlocks_80 : decode cX5_mergeBlocks 80 = .ok (.goto (-53), 3) := by decide +kernel
theorem dX5_mergeBlocks_83 : decode cX5_mergeBlocks 83 = .ok (.iload_n 2, 1) := by decide +kernel
theorem dX5_mergeBlocks_84 : decode cX5_mergeBlocks 84 = .ok (.ifCond .le 16, 3) := by decide +kernel
theorem dX5_mergeBlocks_87 : decode cX5_mergeBlocks 87 = .ok (.aload_n 0, 1) := by decide +kernel
theorem dX5_mergeBlocks_88 : decode cX5_mergeBlocks 88 = .ok (.getfield 39, 3) := by decide +kernel
theorem dX5_mergeBlocks_91 : decode cX5_mergeBlocks 91 = .ok (.aload_n 1, 1) := by decide +kernel
theorem dX5_mergeBlocks_92 : decode cX5_mergeBlocks 92 = .ok (.invokevirtual 111, 3) := by decide +kernel
theorem dX5_mergeBlocks_95 : decode cX5_mergeBlocks 95 = .ok (.aload_n 0, 1) := by decide +kernel
theorem dX5_mergeBlocks_96 : decode cX5_mergeBlocks 96 = .ok (.aload_n 1, 1) := by decide +kernel
theorem dX5_mergeBlocks_97 : decode cX5_mergeBlocks 97 = .ok (.invokevirtual 211, 3) := by decide +kernel
theorem dX5_mergeBlocks_100 : decode cX5_mergeBlocks 100 = .ok (.iload_n 2, 1) := by decide +kernel
theorem dX5_mergeBlocks_101 : decode cX5_mergeBlocks 101 = .ok (.ireturn, 1) := by decide +kernel
theorem dX5_mergeInto_0 : decode cX5_mergeInto 0 = .ok (.aload_n 1, 1) := by decide +kernel
theorem dX5_mergeInto_1 : decode cX5_mergeInto 1 = .ok (.iload_n 3, 1) := by decide +kernel
theorem dX5_mergeInto_2 : decode cX5_mergeInto 2 = .ok (.iconst 0, 1) := by decide +kernel
theorem dX5_mergeInto_3 : decode cX5_mergeInto 3 = .ok (.invokevirtual 138, 3) := by decide +kernel
theorem dX5_mergeInto_6 : decode cX5_mergeInto 6 = .ok (.istore 4, 2) := by decide +kernel
theorem dX5_mergeInto_8 : decode cX5_mergeInto 8 = .ok (.aload_n 1, 1) := by decide +kernel
theorem dX5_mergeInto_9 : decode cX5_mergeInto 9 = .ok (.iload_n 3, 1) := by decide +kernel
theorem dX5_mergeInto_10 : decode cX5_mergeInto 10 = .ok (.invokevirtual 170, 3) := by decide +kernel
theorem dX5_mergeInto_13 : decode cX5_mergeInto 13 = .ok (.istore 5, 2) := by decide +kernel
theorem dX5_mergeInto_15 : decode cX5_mergeInto 15 = .ok (.iload 5, 2) := by decide +kernel
theorem dX5_mergeInto_17 : decode cX5_mergeInto 17 = .ok (.ifCond .lt 35, 3) := by decide +kernel
theorem dX5_mergeInto_20 : decode cX5_mergeInto 20 = .ok (.aload_n 0, 1) := by decide +kernel
theorem dX5_mergeInto_21 : decode cX5_mergeInto 21 = .ok (.getfield 24, 3) := by decide +kernel
theorem dX5_mergeInto_24 : decode cX5_mergeInto 24 = .ok (.aload_n 1, 1) := by decide +kernel
theorem dX5_mergeInto_25 : decode cX5_mergeInto 25 = .ok (.getfield 58, 3) := by decide +kernel
theorem dX5_mergeInto_28 : decode cX5_mergeInto 28 = .ok (.iload 5, 2) := by decide +kernel
theorem dX5_mergeInto_30 : decode cX5_mergeInto 30 = .ok (.iaload, 1) := by decide +kernel
theorem dX5_mergeInto_31 : decode cX5_mergeInto 31 = .ok (.aload_n 1, 1) := by decide +kernel
theorem dX5_mergeInto_32 : decode cX5_mergeInto 32 = .ok (.iload 5, 2) := by decide +kernel
theorem dX5_mergeInto_34 : decode cX5_mergeInto 34 = .ok (.iload 4, 2) := by decide +kernel
theorem dX5_mergeInto_36 : decode cX5_mergeInto 36 = .ok (.invokevirtual 142, 3) := by decide +kernel
theorem dX5_mergeInto_39 : decode cX5_mergeInto 39 = .ok (.iastore, 1) := by decide +kernel
theorem dX5_mergeInto_40 : decode cX5_mergeInto 40 = .ok (.aload_n 1, 1) := by decide +kernel
theorem dX5_mergeInto_41 : decode cX5_mergeInto 41 = .ok (.getfield 61, 3) := by decide +kernel
theorem dX5_mergeInto_44 : decode cX5_mergeInto 44 = .ok (.iload 5, 2) := by decide +kernel
theorem dX5_mergeInto_46 : decode cX5_mergeInto 46 = .ok (.iaload, 1) := by decide +kernel
theorem dX5_mergeInto_47 : decode cX5_mergeInto 47 = .ok (.istore 5, 2) := by decide +kernel
theorem dX5_mergeInto_49 : decode cX5_mergeInto 49 = .ok (.goto (-34), 3) := by decide +kernel
theorem dX5_mergeInto_52 : decode cX5_mergeInto 52 = .ok (.aload_n 1, 1) := by decide +kernel
theorem dX5_mergeInto_53 : decode cX5_mergeInto 53 = .ok (.iload_n 3, 1) := by decide +kernel
theorem dX5_mergeInto_54 : decode cX5_mergeInto 54 = .ok (.invokevirtual 167, 3) := by decide +kernel
theorem dX5_mergeInto_57 : decode cX5_mergeInto 57 = .ok (.istore 6, 2) := by decide +kernel
theorem dX5_mergeInto_59 : decode cX5_mergeInto 59 = .ok (.iload 6, 2) := by decide +kernel
theorem dX5_mergeInto_61 : decode cX5_mergeInto 61 = .ok (.ifCond .lt 29, 3) := by decide +kernel
theorem dX5_mergeInto_64 : decode cX5_mergeInto 64 = .ok (.aload_n 1, 1) := by decide +kernel
theorem dX5_mergeInto_65 : decode cX5_mergeInto 65 = .ok (.getfield 67, 3) := by decide +kernel
theorem dX5_mergeInto_68 : decode cX5_mergeInto 68 = .ok (.getfield 76, 3) := by decide +kernel
theorem dX5_mergeInto_71 : decode cX5_mergeInto 71 = .ok (.iload 6, 2) := by decide +kernel
theorem dX5_mergeInto_73 : decode cX5_mergeInto 73 = .ok (.iaload, 1) := by decide +kernel
theorem dX5_mergeInto_74 : decode cX5_mergeInto 74 = .ok (.istore 5, 2) := by decide +kernel
theorem dX5_mergeInto_76 : decode cX5_mergeInto 76 = .ok (.aload_n 1, 1) := by decide +kernel
theorem dX5_mergeInto_77 : decode cX5_mergeInto 77 = .ok (.iload_n 2, 1) := by decide +kernel
theorem dX5_mergeInto_78 : decode cX5_mergeInto 78 = .ok (.iload 6, 2) := by decide +kernel
theorem dX5_mergeInto_80 : decode cX5_mergeInto 80 = .ok (.invokevirtual 185, 3) := by decide +kernel
theorem dX5_mergeInto_83 : decode cX5_mergeInto 83 = .ok (.iload 5, 2) := by decide +kernel
theorem dX5_mergeInto_85 : decode cX5_mergeInto 85 = .ok (.istore 6, 2) := by decide +kernel
theorem dX5_mergeInto_87 : decode cX5_mergeInto 87 = .ok (.goto (-28), 3) := by decide +kernel
theorem dX5_mergeInto_90 : decode cX5_mergeInto 90 = .ok (.aload_n 1, 1) := by decide +kernel
theorem dX5_mergeInto_91 : decode cX5_mergeInto 91 = .ok (.getfield 161, 3) := by decide +kernel
theorem dX5_mergeInto_94 : decode cX5_mergeInto 94 = .ok (.iload_n 2, 1) := by decide +kernel
theorem dX5_mergeInto_95 : decode cX5_mergeInto 95 = .ok (.aload_n 1, 1) := by decide +kernel
theorem dX5_mergeInto_96 : decode cX5_mergeInto 96 = .ok (.getfield 161, 3) := by decide +kernel
theorem dX5_mergeInto_99 : decode cX5_mergeInto 99 = .ok (.iload_n 3, 1) := by decide +kernel
theorem dX5_mergeInto_100 : decode cX5_mergeInto 100 = .ok (.iaload, 1) := by decide +kernel
theorem dX5_mergeInto_101 : decode cX5_mergeInto 101 = .ok (.iastore, 1) := by decide +kernel
theorem dX5_mergeInto_102 : decode cX5_mergeInto 102 = .ok (.aload_n 1, 1) := by decide +kernel
theorem dX5_mergeInto_103 : decode cX5_mergeInto 103 = .ok (.getfield 164, 3) := by decide +kernel
theorem dX5_mergeInto_106 : decode cX5_mergeInto 106 = .ok (.iload_n 2, 1) := by decide +kernel
theorem dX5_mergeInto_107 : decode cX5_mergeInto 107 = .ok (.aload_n 1, 1) := by decide +kernel
theorem dX5_mergeInto_108 : decode cX5_mergeInto 108 = .ok (.getfield 164, 3) := by decide +kernel
theorem dX5_mergeInto_111 : decode cX5_mergeInto 111 = .ok (.iload_n 3, 1) := by decide +kernel
theorem dX5_mergeInto_112 : decode cX5_mergeInto 112 = .ok (.iaload, 1) := by decide +kernel
theorem dX5_mergeInto_113 : decode cX5_mergeInto 113 = .ok (.iastore, 1) := by decide +kernel
theorem dX5_mergeInto_114 : decode cX5_mergeInto 114 = .ok (.aload_n 1, 1) := by decide +kernel
theorem dX5_mergeInto_115 : decode cX5_mergeInto 115 = .ok (.getfield 125, 3) := by decide +kernel
theorem dX5_mergeInto_118 : decode cX5_mergeInto 118 = .ok (.iload_n 2, 1) := by decide +kernel
theorem dX5_mergeInto_119 : decode cX5_mergeInto 119 = .ok (.aload_n 1, 1) := by decide +kernel
theorem dX5_mergeInto_120 : decode cX5_mergeInto 120 = .ok (.getfield 125, 3) := by decide +kernel
theorem dX5_mergeInto_123 : decode cX5_mergeInto 123 = .ok (.iload_n 3, 1) := by decide +kernel
theorem dX5_mergeInto_124 : decode cX5_mergeInto 124 = .ok (.iaload, 1) := by decide +kernel
theorem dX5_mergeInto_125 : decode cX5_mergeInto 125 = .ok (.iastore, 1) := by decide +kernel
theorem dX5_mergeInto_126 : decode cX5_mergeInto 126 = .ok (.aload_n 1, 1) := by decide +kernel
theorem dX5_mergeInto_127 : decode cX5_mergeInto 127 = .ok (.getfield 131, 3) := by decide +kernel
theorem dX5_mergeInto_130 : decode cX5_mergeInto 130 = .ok (.iload_n 2, 1) := by decide +kernel
theorem dX5_mergeInto_131 : decode cX5_mergeInto 131 = .ok (.aload_n 1, 1) := by decide +kernel
theorem dX5_mergeInto_132 : decode cX5_mergeInto 132 = .ok (.getfield 131, 3) := by decide +kernel
theorem dX5_mergeInto_135 : decode cX5_mergeInto 135 = .ok (.iload_n 3, 1) := by decide +kernel
theorem dX5_mergeInto_136 : decode cX5_mergeInto 136 = .ok (.iaload, 1) := by decide +kernel
theorem dX5_mergeInto_137 : decode cX5_mergeInto 137 = .ok (.iastore, 1) := by decide +kernel
theorem dX5_mergeInto_138 : decode cX5_mergeInto 138 = .ok (.aload_n 0, 1) := by decide +kernel
theorem dX5_mergeInto_139 : decode cX5_mergeInto 139 = .ok (.dup, 1) := by decide +kernel
theorem dX5_mergeInto_140 : decode cX5_mergeInto 140 = .ok (.getfield 96, 3) := by decide +kernel
theorem dX5_mergeInto_143 : decode cX5_mergeInto 143 = .ok (.lconst 1, 1) := by decide +kernel
theorem dX5_mergeInto_144 : decode cX5_mergeInto 144 = .ok (.iload_n 3, 1) := by decide +kernel
theorem dX5_mergeInto_145 : decode cX5_mergeInto 145 = .ok (.lshl, 1) := by decide +kernel
theorem dX5_mergeInto_146 : decode cX5_mergeInto 146 = .ok (.ldc2_w 303, 3) := by decide +kernel
theorem dX5_mergeInto_149 : decode cX5_mergeInto 149 = .ok (.lxor, 1) := by decide +kernel
theorem dX5_mergeInto_150 : decode cX5_mergeInto 150 = .ok (.land, 1) := by decide +kernel
theorem dX5_mergeInto_151 : decode cX5_mergeInto 151 = .ok (.putfield 96, 3) := by decide +kernel
theorem dX5_mergeInto_154 : decode cX5_mergeInto 154 = .ok (.aload_n 1, 1) := by decide +kernel
theorem dX5_mergeInto_155 : decode cX5_mergeInto 155 = .ok (.aload_n 1, 1) := by decide +kernel
theorem dX5_mergeInto_156 : decode cX5_mergeInto 156 = .ok (.getfield 125, 3) := by decide +kernel
theorem dX5_mergeInto_159 : decode cX5_mergeInto 159 = .ok (.iload_n 2, 1) := by decide +kernel
theorem dX5_mergeInto_160 : decode cX5_mergeInto 160 = .ok (.iaload, 1) := by decide +kernel
theorem dX5_mergeInto_161 : decode cX5_mergeInto 161 = .ok (.iload_n 3, 1) := by decide +kernel
theorem dX5_mergeInto_162 : decode cX5_mergeInto 162 = .ok (.iload_n 2, 1) := by decide +kernel
theorem dX5_mergeInto_163 : decode cX5_mergeInto 163 = .ok (.invokestatic 305, 3) := by decide +kernel
theorem dX5_mergeInto_166 : decode cX5_mergeInto 166 = .ok (.aload_n 1, 1) := by decide +kernel
theorem dX5_mergeInto_167 : decode cX5_mergeInto 167 = .ok (.aload_n 1, 1) := by decide +kernel
theorem dX5_mergeInto_168 : decode cX5_mergeInto 168 = .ok (.getfield 131, 3) := by decide +kernel
theorem dX5_mergeInto_171 : decode cX5_mergeInto 171 = .ok (.iload_n 2, 1) := by decide +kernel
theorem dX5_mergeInto_172 : decode cX5_mergeInto 172 = .ok (.iaload, 1) := by decide +kernel
theorem dX5_mergeInto_173 : decode cX5_mergeInto 173 = .ok (.iload_n 3, 1) := by decide +kernel
theorem dX5_mergeInto_174 : decode cX5_mergeInto 174 = .ok (.iload_n 2, 1) := by decide +kernel
theorem dX5_mergeInto_175 : decode cX5_mergeInto 175 = .ok (.invokestatic 305, 3) := by decide +kernel
theorem dX5_mergeInto_178 : decode cX5_mergeInto 178 = .ok (.return_, 1) := by decide +kernel
theorem dX5_mergeable_0 : decode cX5_mergeable 0 = .ok (.iconst 0, 1) := by decide +kernel
theorem dX5_mergeable_1 : decode cX5_mergeable 1 = .ok (.istore_n 2, 1) := by decide +kernel
theorem dX5_mergeable_2 : decode cX5_mergeable 2 = .ok (.iload_n 2, 1) := by decide +kernel
theorem dX5_mergeable_3 : decode cX5_mergeable 3 = .ok (.aload_n 1, 1) := by decide +kernel
theorem dX5_mergeable_4 : decode cX5_mergeable 4 = .ok (.getfield 49, 3) := by decide +kernel
theorem dX5_mergeable_7 : decode cX5_mergeable 7 = .ok (.if_icmp .ge 54, 3) := by decide +kernel
theorem dX5_mergeable_10 : decode cX5_mergeable 10 = .ok (.aload_n 0, 1) := by decide +kernel
theorem dX5_mergeable_11 : decode cX5_mergeable 11 = .ok (.getfield 96, 3) := by decide +kernel
theorem dX5_mergeable_14 : decode cX5_mergeable 14 = .ok (.iload_n 2, 1) := by decide +kernel
theorem dX5_mergeable_15 : decode cX5_mergeable 15 = .ok (.invokestatic 101, 3) := by decide +kernel
theorem dX5_mergeable_18 : decode cX5_mergeable 18 = .ok (.ifCond .eq 37, 3) := by decide +kernel
theorem dX5_mergeable_21 : decode cX5_mergeable 21 = .ok (.aload_n 1, 1) := by decide +kernel
theorem dX5_mergeable_22 : decode cX5_mergeable 22 = .ok (.getfield 161, 3) := by decide +kernel
theorem dX5_mergeable_25 : decode cX5_mergeable 25 = .ok (.iload_n 2, 1) := by decide +kernel
theorem dX5_mergeable_26 : decode cX5_mergeable 26 = .ok (.iaload, 1) := by decide +kernel
theorem dX5_mergeable_27 : decode cX5_mergeable 27 = .ok (.bipush 22, 2) := by decide +kernel
theorem dX5_mergeable_29 : decode cX5_mergeable 29 = .ok (.if_icmp .ne 26, 3) := by decide +kernel
theorem dX5_mergeable_32 : decode cX5_mergeable 32 = .ok (.aload_n 1, 1) := by decide +kernel
theorem dX5_mergeable_33 : decode cX5_mergeable 33 = .ok (.getfield 125, 3) := by decide +kernel
theorem dX5_mergeable_36 : decode cX5_mergeable 36 = .ok (.iload_n 2, 1) := by decide +kernel
theorem dX5_mergeable_37 : decode cX5_mergeable 37 = .ok (.iaload, 1) := by decide +kernel
theorem dX5_mergeable_38 : decode cX5_mergeable 38 = .ok (.istore_n 3, 1) := by decide +kernel
theorem dX5_mergeable_39 : decode cX5_mergeable 39 = .ok (.iload_n 3, 1) := by decide +kernel
theorem dX5_mergeable_40 : decode cX5_mergeable 40 = .ok (.iload_n 2, 1) := by decide +kernel
theorem dX5_mergeable_41 : decode cX5_mergeable 41 = .ok (.if_icmp .eq 14, 3) := by decide +kernel
theorem dX5_mergeable_44 : decode cX5_mergeable 44 = .ok (.aload_n 1, 1) := by decide +kernel
theorem dX5_mergeable_45 : decode cX5_mergeable 45 = .ok (.iload_n 3, 1) := by decide +kernel
theorem dX5_mergeable_46 : decode cX5_mergeable 46 = .ok (.invokevirtual 134, 3) := by decide +kernel
theorem dX5_mergeable_49 : decode cX5_mergeable 49 = .ok (.iconst 1, 1) := by decide +kernel
theorem dX5_mergeable_50 : decode cX5_mergeable 50 = .ok (.if_icmp .ne 5, 3) := by decide +kernel
theorem dX5_mergeable_53 : decode cX5_mergeable 53 = .ok (.iload_n 2, 1) := by decide +kernel
theorem dX5_mergeable_54 : decode cX5_mergeable 54 = .ok (.ireturn, 1) := by decide +kernel
theorem dX5_mergeable_55 : decode cX5_mergeable 55 = .ok (.iinc 2 1, 3) := by decide +kernel
theorem dX5_mergeable_58 : decode cX5_mergeable 58 = .ok (.goto (-56), 3) := by decide +kernel
theorem dX5_mergeable_61 : decode cX5_mergeable 61 = .ok (.iconst (-1), 1) := by decide +kernel
theorem dX5_mergeable_62 : decode cX5_mergeable 62 = .ok (.ireturn, 1) := by decide +kernel
theorem dX5_takeFrom_0 : decode cX5_takeFrom 0 = .ok (.iload_n 1, 1) := by decide +kernel
theorem dX5_takeFrom_1 : decode cX5_takeFrom 1 = .ok (.ifCond .lt 42, 3) := by decide +kernel
theorem dX5_takeFrom_4 : decode cX5_takeFrom 4 = .ok (.aload_n 0, 1) := by decide +kernel
theorem dX5_takeFrom_5 : decode cX5_takeFrom 5 = .ok (.getfield 55, 3) := by decide +kernel
theorem dX5_takeFrom_8 : decode cX5_takeFrom 8 = .ok (.iload_n 1, 1) := by decide +kernel
theorem dX5_takeFrom_9 : decode cX5_takeFrom 9 = .ok (.iaload, 1) := by decide +kernel
theorem dX5_takeFrom_10 : decode cX5_takeFrom 10 = .ok (.istore 4, 2) := by decide +kernel
theorem dX5_takeFrom_12 : decode cX5_takeFrom 12 = .ok (.iload 4, 2) := by decide +kernel
theorem dX5_takeFrom_14 : decode cX5_takeFrom 14 = .ok (.ifCond .lt 29, 3) := by decide +kernel
theorem dX5_takeFrom_17 : decode cX5_takeFrom 17 = .ok (.aload_n 0, 1) := by decide +kernel
theorem dX5_takeFrom_18 : decode cX5_takeFrom 18 = .ok (.iload 4, 2) := by decide +kernel
theorem dX5_takeFrom_20 : decode cX5_takeFrom 20 = .ok (.iload_n 3, 1) := by decide +kernel
theorem dX5_takeFrom_21 : decode cX5_takeFrom 21 = .ok (.aload_n 0, 1) := by decide +kernel
theorem dX5_takeFrom_22 : decode cX5_takeFrom 22 = .ok (.iload 4, 2) := by decide +kernel
theorem dX5_takeFrom_24 : decode cX5_takeFrom 24 = .ok (.iload_n 2, 1) := by decide +kernel
theorem dX5_takeFrom_25 : decode cX5_takeFrom 25 = .ok (.invokevirtual 142, 3) := by decide +kernel
theorem dX5_takeFrom_28 : decode cX5_takeFrom 28 = .ok (.invokevirtual 217, 3) := by decide +kernel
theorem dX5_takeFrom_31 : decode cX5_takeFrom 31 = .ok (.aload_n 0, 1) := by decide +kernel
theorem dX5_takeFrom_32 : decode cX5_takeFrom 32 = .ok (.getfield 61, 3) := by decide +kernel
theorem dX5_takeFrom_35 : decode cX5_takeFrom 35 = .ok (.iload 4, 2) := by decide +kernel
theorem dX5_takeFrom_37 : decode cX5_takeFrom 37 = .ok (.iaload, 1) := by decide +kernel
theorem dX5_takeFrom_38 : decode cX5_takeFrom 38 = .ok (.istore 4, 2) := by decide +kernel
theorem dX5_takeFrom_40 : decode cX5_takeFrom 40 = .ok (.goto (-28), 3) := by decide +kernel
theorem dX5_takeFrom_43 : decode cX5_takeFrom 43 = .ok (.return_, 1) := by decide +kernel
theorem qw595 : Cond.code yX5_mayLift cX5_mayLift 6 (Option.some Jvm.ClassFile.FieldType.boolean) ∈ gw := mq_8 (i := 99) rfl rfl
theorem qw596 : Cond.methodLink RX5 292 yX5_mayLift ∈ gw := mq_8 (i := 96) rfl rfl
theorem qw597 : Cond.instanceMethod yX5_mayLift ∈ gw := mq_8 (i := 98) rfl rfl
theorem qw598 : Cond.selects RX5 yX5_mayLift yX5_mayLift ∈ gw := mk_s (i := 56) rfl rfl
theorem qw599 : Cond.code yX5_liftBlock cX5_liftBlock 9 (Option.some Jvm.ClassFile.FieldType.int) ∈ gw := mq_8 (i := 95) rfl rfl
theorem qw600 : Cond.methodLink RX5 288 yX5_liftBlock ∈ gw := mq_8 (i := 92) rfl rfl
theorem qw601 : Cond.instanceMethod yX5_liftBlock ∈ gw := mq_8 (i := 94) rfl rfl
theorem qw602 : Cond.selects RX5 yX5_liftBlock yX5_liftBlock ∈ gw := mk_s (i := 57) rfl rfl
theorem qw603 : Cond.code yX5_blockAhead cX5_blockAhead 5 (Option.some Jvm.ClassFile.FieldType.int) ∈ gw := mq_8 (i := 91) rfl rfl
theorem qw604 : Cond.methodLink RX5 285 yX5_blockAhead ∈ gw := mq_8 (i := 89) rfl rfl
theorem qw605 : Cond.static yX5_blockAhead ∈ gw := mq_8 (i := 90) rfl rfl
theorem qw606 : Cond.code yX5_mergeable cX5_mergeable 4 (Option.some Jvm.ClassFile.FieldType.int) ∈ gw := mq_8 (i := 111) rfl rfl
theorem qw607 : Cond.methodLink RX5 296 yX5_mergeable ∈ gw := mq_8 (i := 108) rfl rfl
theorem qw608 : Cond.instanceMethod yX5_mergeable ∈ gw := mq_8 (i := 110) rfl rfl
theorem qw609 : Cond.selects RX5 yX5_mergeable yX5_mergeable ∈ gw := mk_s (i := 58) rfl rfl
theorem qw610 : Cond.constantLong RX5 303 (-1) ∈ gw := mq_8 (i := 116) rfl rfl
theorem qw611 : Cond.code yX5_takeFrom cX5_takeFrom 5 (Option.none : Option Jvm.ClassFile.FieldType) ∈ gw := mq_8 (i := 119) rfl rfl
theorem qw612 : Cond.methodLink RX5 305 yX5_takeFrom ∈ gw := mq_8 (i := 117) rfl rfl
theorem qw613 : Cond.static yX5_takeFrom ∈ gw := mq_8 (i := 118) rfl rfl
theorem qw614 : Cond.code yX5_mergeInto cX5_mergeInto 7 (Option.none : Option Jvm.ClassFile.FieldType) ∈ gw := mq_8 (i := 115) rfl rfl
theorem qw615 : Cond.methodLink RX5 300 yX5_mergeInto ∈ gw := mq_8 (i := 112) rfl rfl
theorem qw616 : Cond.instanceMethod yX5_mergeInto ∈ gw := mq_8 (i := 114) rfl rfl
theorem qw617 : Cond.selects RX5 yX5_mergeInto yX5_mergeInto ∈ gw := mk_s (i := 59) rfl rfl
theorem qw618 : Cond.fieldLink RX0 12 "Gearbox$Allocator" "work" "LGearbox$Flow;" ∈ gw := mq_3 (i := 85) rfl rfl
theorem qw619 : Cond.fieldLink RX0 241 "Gearbox$Flow" "end" "[I" ∈ gw := mq_2 (i := 8) rfl rfl
theorem qw620 : Cond.fieldLink RX0 244 "Gearbox$Flow" "first" "[I" ∈ gw := mq_2 (i := 24) rfl rfl
theorem qw621 : Cond.methodLink RX0 247 yX1_leads ∈ gw := mq_9 (i := 125) rfl rfl
theorem qw622 : Cond.fieldLink RX0 41 "Gearbox$Allocator" "slot" "[I" ∈ gw := mq_3 (i := 105) rfl rfl
theorem qw623 : Cond.fieldLink RX0 90 "Gearbox$Allocator" "values" "I" ∈ gw := mq_3 (i := 101) rfl rfl
theorem qw624 : Cond.fieldLink RX0 44 "Gearbox$Allocator" "number" "[I" ∈ gw := mq_3 (i := 106) rfl rfl
theorem qw625 : Cond.methodLink RX0 145 yX1_addStep ∈ gw := mq_8 (i := 181) rfl rfl
theorem qw626 : Cond.fieldLink RX0 37 "Gearbox$Allocator" "graph" "LGearbox$Graph;" ∈ gw := mq_3 (i := 99) rfl rfl
theorem qw627 : Cond.fieldLink RX0 225 "Gearbox$Graph" "giver" "[I" ∈ gw := mq_3 (i := 40) rfl rfl
theorem qw628 : Cond.fieldLink RX0 209 "Gearbox$Graph" "givers" "[I" ∈ gw := mq_3 (i := 38) rfl rfl
theorem qw629 : Cond.fieldLink RX0 155 "Gearbox$Flow" "steps" "LGearbox$Steps;" ∈ gw := mq_1 (i := 223) rfl rfl
theorem qw630 : Cond.fieldLink RX0 159 "Gearbox$Steps" "kind" "[I" ∈ gw := mq_1 (i := 165) rfl rfl
theorem qw631 : Cond.fieldLink RX0 165 "Gearbox$Steps" "left" "[I" ∈ gw := mq_1 (i := 179) rfl rfl
theorem qw632 : Cond.fieldLink RX0 71 "Gearbox$Allocator" "slotCount" "I" ∈ gw := mq_3 (i := 103) rfl rfl
theorem qw633 : Cond.fieldLink RX0 50 "Gearbox$Allocator" "copyFrom" "[I" ∈ gw := mq_3 (i := 108) rfl rfl
theorem qw634 : Cond.fieldLink RX0 47 "Gearbox$Allocator" "copyTo" "[I" ∈ gw := mq_3 (i := 107) rfl rfl
def fX5_liftBlock_J76 (kk10 : Int32 → Int32 → ST → ST → ST → Option (Int32 × ST × ST × ST)) (v8_10 : Int32) (p1_2w_10 : ST) (v6_76 : Int32) (p0w_76 : ST) (p1w_76 : ST) (p1_2w_76 : ST) : Option (Int32 × ST × ST × ST) := (kk10 v6_76 (p1_2w_10 6 (nn v8_10)) p0w_76 p1w_76 p1_2w_76)
def fX5_liftBlock_L10 (p2 : Int32) (p3 : Int64) (p4 : Int32) (p1_2n : Nat → Nat) : Nat → Int32 → Int32 → ST → ST → ST → Option (Int32 × ST × ST × ST)
  | 0 => fun _ _ _ _ _ => none
  | n_10 + 1 => fun v6_10 v8_10 p0w_10 p1w_10 p1_2w_10 => (if v8_10 < 0 then some (v6_10, p0w_10, p1w_10, p1_2w_10) else (if ixb v8_10 (p1_2n 6) = true then ((fX5_mayLift p0w_10 v8_10 p3 p1_2n p1_2w_10).bind fun (o_5 : Int32) => (if o_5 = 0 then ((fX1_link p1w_10 p2 v8_10 p1_2n p1_2w_10).bind fun (o_8 : ST × ST) => (fX5_liftBlock_J76 (fX5_liftBlock_L10 p2 p3 p4 p1_2n n_10) v8_10 p1_2w_10 v6_10 p0w_10 (o_8.1) (o_8.2))) else ((fX1_link p1w_10 p4 v8_10 p1_2n p1_2w_10).bind fun (o_9 : ST × ST) => (if ixb v8_10 (p1_2n 3) = true then (if ixb (((o_9.2) 3) (nn v8_10)) 250 = true then (lt9 (upw p0w_10 3 (nn (((o_9.2) 3) (nn v8_10))) p4) fun (w12 : ST) => (fX5_liftBlock_J76 (fX5_liftBlock_L10 p2 p3 p4 p1_2n n_10) v8_10 p1_2w_10 (v6_10 + 1) w12 (o_9.1) (o_9.2))) else none) else none)))) else none))
def fX5_liftBlock (p0w : ST) (p1w : ST) (p2 : Int32) (p3 : Int64) (p4 : Int32) (p1_2n : Nat → Nat) (p1_2w : ST) : Option (Int32 × ST × ST × ST) := ((fX1_takeSteps p1w p2).bind fun (o_1 : Int32 × ST) => ((fX5_liftBlock_L10 p2 p3 p4 p1_2n NF 0 (o_1.1) p0w (o_1.2) p1_2w).bind fun (o10 : Int32 × ST × ST × ST) => some ((o10.1), (o10.2.1), (o10.2.2.1), (o10.2.2.2))))
set_option maxHeartbeats 16000000 in
set_option maxRecDepth 100000 in
theorem kX5_liftBlock {zs : ZS} (l : Launch) (dC : Nat → ClassId) (dI : Nat → Nat → Nat) (p0a : Nat → Nat) (p0k : Nat → ClassId) (p0w : ST) (p0l : SL) (p1a : Nat → Nat) (p1k : Nat → ClassId) (p1n : Nat → Nat) (p1w : ST) (p1l : SL) (p2 : Int32) (p3 : Int64) (p4 : Int32) (p1_2a : Nat → Nat) (p1_2k : Nat → ClassId) (p1_2n : Nat → Nat) (p1_2w : ST) (sz : Nat) (o : Int32 × ST × ST × ST) (hrun : fX5_liftBlock p0w p1w p2 p3 p4 p1_2n p1_2w = some o) : Met l yX5_liftBlock (wz yX5_liftBlock cX5_liftBlock 9 (Option.some Jvm.ClassFile.FieldType.int)) ({ frames := 3, cells := 0, slots := 0, locals := 71 } : Room) (va_Pc [.ref (p0a 0), .ref (p1a 0), .int p2, .long p3, .int p4] (PRE zs dC dI (List.flatten ([(oX5 (p0a 0) p0a p0k p0w p0l), (oX1 (p1a 0) p1a p1k p1n p1w p1l), (oX9 (p1a 3) p1_2a p1_2k p1_2n p1_2w)] : List va_W)) (List.flatten ([(tX5 p0k), (tX1 p1k), (tX9 p1_2k)] : List (List (ClassId × FieldType)))) sz)) (va_Qi (fun (r : Int32) (_ : Unit) => r = (o.1)) (fun _ t => POST dC dI (List.flatten ([(oX5 (p0a 0) p0a p0k (o.2.1) p0l), (oX1 (p1a 0) p1a p1k p1n (o.2.2.1) p1l), (oX9 (p1a 3) p1_2a p1_2k p1_2n (o.2.2.2))] : List va_W)) (List.flatten ([(tX5 p0k), (tX1 p1k), (tX9 p1_2k)] : List (List (ClassId × FieldType)))) (va_A (List.flatten ([(oX5 (p0a 0) p0a p0k p0w p0l), (oX1 (p1a 0) p1a p1k p1n p1w p1l), (oX9 (p1a 3) p1_2a p1_2k p1_2n p1_2w)] : List va_W)) sz) t) (va_A (List.flatten ([(oX5 (p0a 0) p0a p0k p0w p0l), (oX1 (p1a 0) p1a p1k p1n p1w p1l), (oX9 (p1a 3) p1_2a p1_2k p1_2n p1_2w)] : List va_W)) sz)) 0 0 (va_A (List.flatten ([(oX5 (p0a 0) p0a p0k p0w p0l), (oX1 (p1a 0) p1a p1k p1n p1w p1l), (oX9 (p1a 3) p1_2a p1_2k p1_2n p1_2w)] : List va_W)) sz) := by
  refine Met.ofW (cc := cX5_liftBlock) (maxL := 9) (ret := (Option.some Jvm.ClassFile.FieldType.int)) (by decide) rfl ?_
  intro p e s m args below meth c s₁ B hml hv
  obtain ⟨rfl, hsz, hP, hK, hD0, hE⟩ := hv
  have hx := B.exec
  have hb := B.bytes
  have hr := B.returns
  have hts0 := atoms_spec (ws := wz yX5_liftBlock cX5_liftBlock 9 (Option.some Jvm.ClassFile.FieldType.int)) B.pre
  have hts : ∀ w ∈ gw, w.before _ s = true := fun w h => hts0 w (List.mem_cons_of_mem _ h)
  have hown : s.vm.findClass RX5 = some m.cls := findClass_of_methodNamed B.named
  have hlocks := B.notSynchronized
  subst hsz
  have hD := hD0.self (sz := s.heap.size)
  refine gQ9 ?_
  intro Q hQ
  generalize hAe : va_A (List.flatten ([(oX5 (p0a 0) p0a p0k p0w p0l), (oX1 (p1a 0) p1a p1k p1n p1w p1l), (oX9 (p1a 3) p1_2a p1_2k p1_2n p1_2w)] : List va_W)) s.heap.size = A at hD hE hQ
  have hA : ∀ q : Nat, s.heap.size ≤ q → A q := fun q h => by rw [← hAe]; exact Or.inr h
  have hS : va_S A s.heap s.heap [] := va_S.rf
  have hP : va_P (dC, dI) cls (List.flatten ([(oX5 (p0a 0) p0a p0k p0w p0l), (oX1 (p1a 0) p1a p1k p1n p1w p1l), (oX9 (p1a 3) p1_2a p1_2k p1_2n p1_2w)] : List va_W)) s.heap := hP
  have hl := lv_entry ([.ref (p0a 0), .ref (p1a 0), .int p2, .long p3, .int p4]) (n := 9) (Nat.le_of_ble_eq_true rfl)
  rw [lg_entry_eq]
  generalize (lg_sl ([.ref (p0a 0), .ref (p1a 0), .int p2, .long p3, .int p4]) ++ List.replicate (9 - (lg_sl ([.ref (p0a 0), .ref (p1a 0), .int p2, .long p3, .int p4])).length) Slot.unset).toArray = ls at hl ⊢
  have hl : lv_has ls 9 [(0, .ref (p0a 0)), (1, .ref (p1a 0)), (2, .int p2), (3, .long p3), (5, .int p4)] := hl
  obtain ⟨H, hHe⟩ : ∃ H, H = s.heap := ⟨_, rfl⟩
  obtain ⟨locs, hle⟩ : ∃ locs : List Loc, locs = [] := ⟨_, rfl⟩
  rw [← hHe] at hP
  have hS : va_S A s.heap H locs := by rw [hHe, hle]; exact hS
  show W p l e ({ frames := 3, cells := 0, slots := 0, locals := 71 } : Room) s m ([.ref (p0a 0), .ref (p1a 0), .int p2, .long p3, .int p4] : List Value).toArray below meth c s.heap [] 0 0 Q (F0 m 0 ls [])
  rw [← hle]
  refine wH9 hHe ?_
  unfold fX5_liftBlock at hrun
  refine lv_iconst (v := 0) hx hb dX5_liftBlock_0 (by decide) ?_
  refine lv_istore (lv' := [(6, .int 0), (0, .ref (p0a 0)), (1, .ref (p1a 0)), (2, .int p2), (3, .long p3), (5, .int p4)]) hx hb dX5_liftBlock_1 hl (by decide) rfl (fun ls hl => ?_)
  refine lv_aload_n hx hb dX5_liftBlock_3 rfl (lv_at hl 2 rfl) ?_
  refine lv_iload_n hx hb dX5_liftBlock_4 rfl (lv_at hl 3 rfl) ?_
  obtain ⟨o_1, hc_1, hrun⟩ := bnd9 hrun
  have hPx : va_P (dC, dI) cls ((List.flatten ([(oX1 (p1a 0) p1a p1k p1n p1w p1l)] : List va_W)) ++ (List.flatten ([(oX5 (p0a 0) p0a p0k p0w p0l), (oX9 (p1a 3) p1_2a p1_2k p1_2n p1_2w)] : List va_W))) H := vP_fa (vP_perm hP (bP ((((List.Perm.refl _)).cons _).trans (List.Perm.swap _ _ _))))
  have hDx : va_D A ((List.flatten ([(oX1 (p1a 0) p1a p1k p1n p1w p1l)] : List va_W)) ++ (List.flatten ([(oX5 (p0a 0) p0a p0k p0w p0l), (oX9 (p1a 3) p1_2a p1_2k p1_2n p1_2w)] : List va_W))) := vD_fa (vD_perm hD (bP ((((List.Perm.refl _)).cons _).trans (List.Perm.swap _ _ _))))
  have hKx : va_K (dC, dI) cls ((List.flatten ([(tX1 p1k)] : List (List (ClassId × FieldType)))) ++ (List.flatten ([(tX5 p0k), (tX9 p1_2k)] : List (List (ClassId × FieldType))))) s := vK_fa (vK_perm hK (bP ((((List.Perm.refl _)).cons _).trans (List.Perm.swap _ _ _))))
  have hPc := vP_l hPx
  have hDc := vD_l hDx
  have hKc := vK_l hKx
  have hFc := vfree hDx hS hA
  refine va_calli (va_runV (As := [.int p2]) (rest := []) ⟨hx, hb, hml, hown, hts⟩ (kX1_takeSteps l dC dI (p0a := p1a) (p0k := p1k) (p0n := p1n) (p0w := p1w) (p0l := p1l) (p1 := p2) (sz := _) (o := o_1) (hrun := hc_1)) (cwV 1 hts (gi_V qw488 qw179 qw180 qw126 (gi_z qw177)) rfl rfl rfl (by decide +kernel) ⟨Nat.le_of_ble_eq_true rfl, Nat.le_of_ble_eq_true rfl⟩) ⟨PRE.blind, va_recv hKc hPc (ci := 4) (q0 := 0) rfl rfl, PRE.of hE hS hFc hPc hKc hDc⟩ rfl rfl hl.1 rfl (lv_room (Nat.le_of_ble_eq_true rfl)) dX5_liftBlock_5 ⟨(Nat.le_of_ble_eq_true rfl), (Nat.le_of_ble_eq_true rfl)⟩) hS (fun q _ h => hFc q h) hFc (fun r2 u t H locs ht hvm hw hB hz1 hk1 hS => ?_)
  obtain ⟨b1, b2, b3⟩ := hB
  rw [ht] at b1
  obtain ⟨hP, hD, hK⟩ := JOINC (wc := (List.flatten ([(oX1 (p1a 0) p1a p1k p1n p1w p1l)] : List va_W))) (wr := (List.flatten ([(oX5 (p0a 0) p0a p0k p0w p0l), (oX9 (p1a 3) p1_2a p1_2k p1_2n p1_2w)] : List va_W))) (w1 := (List.flatten ([(oX1 (p1a 0) p1a p1k p1n (o_1.2) p1l)] : List va_W))) (t1 := (List.flatten ([(tX1 p1k)] : List (List (ClassId × FieldType))))) hPx hDx hKx hk1 hFc b1 (va_K.moved hvm.symm b2) b3
  have hP : va_P (dC, dI) cls (List.flatten ([(oX5 (p0a 0) p0a p0k p0w p0l), (oX1 (p1a 0) p1a p1k p1n (o_1.2) p1l), (oX9 (p1a 3) p1_2a p1_2k p1_2n p1_2w)] : List va_W)) H := vP_perm (vP_fb hP) (bP ((((List.Perm.refl _)).cons _).trans (List.Perm.swap _ _ _)))
  have hD : va_D A (List.flatten ([(oX5 (p0a 0) p0a p0k p0w p0l), (oX1 (p1a 0) p1a p1k p1n (o_1.2) p1l), (oX9 (p1a 3) p1_2a p1_2k p1_2n p1_2w)] : List va_W)) := vD_perm (vD_fb hD) (bP ((((List.Perm.refl _)).cons _).trans (List.Perm.swap _ _ _)))
  have hK : va_K (dC, dI) cls (List.flatten ([(tX5 p0k), (tX1 p1k), (tX9 p1_2k)] : List (List (ClassId × FieldType)))) s := vK_perm (vK_fb hK) (bP ((((List.Perm.refl _)).cons _).trans (List.Perm.swap _ _ _)))
  obtain rfl : r2 = (o_1.1) := hw
  refine lv_istore (lv' := [(8, .int (o_1.1)), (6, .int 0), (0, .ref (p0a 0)), (1, .ref (p1a 0)), (2, .int p2), (3, .long p3), (5, .int p4)]) hx hb dX5_liftBlock_8 hl (by decide) rfl (fun ls hl => ?_)
  have L10 : ∀ (n_10 : Nat) (v6_10 : Int32) (v8_10 : Int32) (p0w_10 : ST) (p1w_10 : ST) (p1_2w_10 : ST) (o10 : Int32 × ST × ST × ST) (H : Heap) (locs : List Loc) (ls : Array Slot), (fX5_liftBlock_L10 p2 p3 p4 p1_2n n_10) v6_10 v8_10 p0w_10 p1w_10 p1_2w_10 = some o10 → va_P (dC, dI) cls (List.flatten ([(oX5 (p0a 0) p0a p0k p0w_10 p0l), (oX1 (p1a 0) p1a p1k p1n p1w_10 p1l), (oX9 (p1a 3) p1_2a p1_2k p1_2n p1_2w_10)] : List va_W)) H → va_D A (List.flatten ([(oX5 (p0a 0) p0a p0k p0w_10 p0l), (oX1 (p1a 0) p1a p1k p1n p1w_10 p1l), (oX9 (p1a 3) p1_2a p1_2k p1_2n p1_2w_10)] : List va_W)) → va_K (dC, dI) cls (List.flatten ([(tX5 p0k), (tX1 p1k), (tX9 p1_2k)] : List (List (ClassId × FieldType)))) s → va_S A s.heap H locs → lv_has ls 9 [(0, .ref (p0a 0)), (1, .ref (p1a 0)), (2, .int p2), (3, .long p3), (5, .int p4), (6, .int v6_10), (8, .int v8_10)] → (∀ (H : Heap) (locs : List Loc) (ls : Array Slot), va_P (dC, dI) cls (List.flatten ([(oX5 (p0a 0) p0a p0k (o10.2.1) p0l), (oX1 (p1a 0) p1a p1k p1n (o10.2.2.1) p1l), (oX9 (p1a 3) p1_2a p1_2k p1_2n (o10.2.2.2))] : List va_W)) H → va_D A (List.flatten ([(oX5 (p0a 0) p0a p0k (o10.2.1) p0l), (oX1 (p1a 0) p1a p1k p1n (o10.2.2.1) p1l), (oX9 (p1a 3) p1_2a p1_2k p1_2n (o10.2.2.2))] : List va_W)) → va_K (dC, dI) cls (List.flatten ([(tX5 p0k), (tX1 p1k), (tX9 p1_2k)] : List (List (ClassId × FieldType)))) s → va_S A s.heap H locs → lv_has ls 9 [(6, .int (o10.1))] → W p l e ({ frames := 3, cells := 0, slots := 0, locals := 71 } : Room) s m ([.ref (p0a 0), .ref (p1a 0), .int p2, .long p3, .int p4] : List Value).toArray below meth c H locs 0 0 Q (F0 m 83 ls [])) → W p l e ({ frames := 3, cells := 0, slots := 0, locals := 71 } : Room) s m ([.ref (p0a 0), .ref (p1a 0), .int p2, .long p3, .int p4] : List Value).toArray below meth c H locs 0 0 Q (F0 m 10 ls []) := by
    intro n_10
    induction n_10 with
    | zero => intro v6_10 v8_10 p0w_10 p1w_10 p1_2w_10 o10 H locs ls hrun; exact (no9 rfl hrun).elim
    | succ n_10 IH10 =>
      intro v6_10 v8_10 p0w_10 p1w_10 p1_2w_10 o10 H locs ls hrun hP hD hK hS hl hk10
      unfold fX5_liftBlock_L10 at hrun
      refine lv_iload hx hb dX5_liftBlock_10 (lv_at hl 6 rfl) ?_
      rcases br9 hrun with ⟨hc3, hrun⟩ | ⟨hc3, hrun⟩
      · refine lv_if_lt (tgt := 83) hx hb dX5_liftBlock_12 (by decide) (fun _ => ?_) (fun c => absurd hc3 c)
        obtain rfl := (Option.some.inj hrun)
        exact hk10 _ _ _ hP hD hK hS (lv_sub hl [5] rfl)
      · refine lv_if_lt (tgt := 83) hx hb dX5_liftBlock_12 (by decide) (fun c => absurd c hc3) (fun _ => ?_)
        refine lv_aload_n hx hb dX5_liftBlock_15 rfl (lv_at hl 1 rfl) ?_
        refine va_get (D := (dC, dI)) (ci := 4) (v := .ref (p1a 3)) (C := RX1) (T := TX1) (N := 21) hx hb hts i_X1 hown hK hP 10 rfl rfl 2 (by decide) (hts _ qw435) (fun _ h9 => h9) rfl dX5_liftBlock_16 ?_
        refine va_get (D := (dC, dI)) (ci := 3) (v := .ref (p1_2a 6)) (C := RX9) (T := TX9) (N := 6) hx hb hts i_X9 hown hK hP 28 rfl rfl 5 (by decide) (hts _ qw437) (fun _ h9 => h9) rfl dX5_liftBlock_19 ?_
        refine lv_iload hx hb dX5_liftBlock_22 (lv_at hl 6 rfl) ?_
        obtain ⟨hq4, hrun⟩ := chk9 hrun
        refine va_iald hx hb hK hP 33 30 rfl rfl (ixb_in hq4) dX5_liftBlock_24 ?_
        refine lv_istore (lv' := [(7, .int (p1_2w_10 6 (nn v8_10))), (0, .ref (p0a 0)), (1, .ref (p1a 0)), (2, .int p2), (3, .long p3), (5, .int p4), (6, .int v6_10), (8, .int v8_10)]) hx hb dX5_liftBlock_25 hl (by decide) rfl (fun ls hl => ?_)
        refine lv_aload_n hx hb dX5_liftBlock_27 rfl (lv_at hl 1 rfl) ?_
        refine lv_aload_n hx hb dX5_liftBlock_28 rfl (lv_at hl 2 rfl) ?_
        refine lv_iload hx hb dX5_liftBlock_29 (lv_at hl 7 rfl) ?_
        refine lv_lload_n hx hb dX5_liftBlock_31 rfl (lv_at hl 4 rfl) ?_
        obtain ⟨o_5, hc_5, hrun⟩ := bnd9 hrun
        have hPx : va_P (dC, dI) cls ((List.flatten ([(oX5 (p0a 0) p0a p0k p0w_10 p0l), (oX1 (p1a 0) p1a p1k p1n p1w_10 p1l), (oX9 (p1a 3) p1_2a p1_2k p1_2n p1_2w_10)] : List va_W)) ++ (List.flatten ([] : List va_W))) H := vP_fa (vP_perm hP (bP (List.Perm.refl _)))
        have hDx : va_D A ((List.flatten ([(oX5 (p0a 0) p0a p0k p0w_10 p0l), (oX1 (p1a 0) p1a p1k p1n p1w_10 p1l), (oX9 (p1a 3) p1_2a p1_2k p1_2n p1_2w_10)] : List va_W)) ++ (List.flatten ([] : List va_W))) := vD_fa (vD_perm hD (bP (List.Perm.refl _)))
        have hKx : va_K (dC, dI) cls ((List.flatten ([(tX5 p0k), (tX1 p1k), (tX9 p1_2k)] : List (List (ClassId × FieldType)))) ++ (List.flatten ([] : List (List (ClassId × FieldType))))) s := vK_fa (vK_perm hK (bP (List.Perm.refl _)))
        have hPc := vP_l hPx
        have hDc := vD_l hDx
        have hKc := vK_l hKx
        have hFc := vfree hDx hS hA
        refine va_calli (va_runV (As := [.ref (p1a 0), .int v8_10, .long p3]) (rest := []) ⟨hx, hb, hml, hown, hts⟩ (kX5_mayLift l dC dI (p0a := p0a) (p0k := p0k) (p0w := p0w_10) (p0l := p0l) (p1a := p1a) (p1k := p1k) (p1n := p1n) (p1w := p1w_10) (p1l := p1l) (p2 := v8_10) (p3 := p3) (p1_2a := p1_2a) (p1_2k := p1_2k) (p1_2n := p1_2n) (p1_2w := p1_2w_10) (sz := _) (o := o_5) (hrun := hc_5)) (cwV 3 hts (gi_V qw596 qw597 qw598 qw442 (gi_z qw595)) rfl rfl rfl (by decide +kernel) ⟨Nat.le_of_ble_eq_true rfl, Nat.le_of_ble_eq_true rfl⟩) ⟨PRE.blind, va_recv hKc hPc (ci := 7) (q0 := 0) rfl rfl, PRE.of hE hS hFc hPc hKc hDc⟩ rfl rfl hl.1 rfl (lv_room (Nat.le_of_ble_eq_true rfl)) dX5_liftBlock_32 ⟨(Nat.le_of_ble_eq_true rfl), (Nat.le_of_ble_eq_true rfl)⟩) hS (fun q _ h => hFc q h) hFc (fun r6 u t H locs ht hvm hw hB hz1 hk1 hS => ?_)
        obtain ⟨b1, b2, b3⟩ := hB
        rw [ht] at b1
        obtain ⟨hP, hD, hK⟩ := JOINC (wc := (List.flatten ([(oX5 (p0a 0) p0a p0k p0w_10 p0l), (oX1 (p1a 0) p1a p1k p1n p1w_10 p1l), (oX9 (p1a 3) p1_2a p1_2k p1_2n p1_2w_10)] : List va_W))) (wr := (List.flatten ([] : List va_W))) (w1 := (List.flatten ([(oX5 (p0a 0) p0a p0k p0w_10 p0l), (oX1 (p1a 0) p1a p1k p1n p1w_10 p1l), (oX9 (p1a 3) p1_2a p1_2k p1_2n p1_2w_10)] : List va_W))) (t1 := (List.flatten ([(tX5 p0k), (tX1 p1k), (tX9 p1_2k)] : List (List (ClassId × FieldType))))) hPx hDx hKx hk1 hFc b1 (va_K.moved hvm.symm b2) b3
        have hP : va_P (dC, dI) cls (List.flatten ([(oX5 (p0a 0) p0a p0k p0w_10 p0l), (oX1 (p1a 0) p1a p1k p1n p1w_10 p1l), (oX9 (p1a 3) p1_2a p1_2k p1_2n p1_2w_10)] : List va_W)) H := vP_perm (vP_fb hP) (bP (List.Perm.refl _))
        have hD : va_D A (List.flatten ([(oX5 (p0a 0) p0a p0k p0w_10 p0l), (oX1 (p1a 0) p1a p1k p1n p1w_10 p1l), (oX9 (p1a 3) p1_2a p1_2k p1_2n p1_2w_10)] : List va_W)) := vD_perm (vD_fb hD) (bP (List.Perm.refl _))
        have hK : va_K (dC, dI) cls (List.flatten ([(tX5 p0k), (tX1 p1k), (tX9 p1_2k)] : List (List (ClassId × FieldType)))) s := vK_perm (vK_fb hK) (bP (List.Perm.refl _))
        obtain rfl : o_5 = r6 := hw.symm
        have J76 : ∀ (v6_76 : Int32) (p0w_76 : ST) (p1w_76 : ST) (p1_2w_76 : ST) (H : Heap) (locs : List Loc) (ls : Array Slot), (fX5_liftBlock_J76 (fX5_liftBlock_L10 p2 p3 p4 p1_2n n_10) v8_10 p1_2w_10 v6_76 p0w_76 p1w_76 p1_2w_76) = some o10 → va_P (dC, dI) cls (List.flatten ([(oX5 (p0a 0) p0a p0k p0w_76 p0l), (oX1 (p1a 0) p1a p1k p1n p1w_76 p1l), (oX9 (p1a 3) p1_2a p1_2k p1_2n p1_2w_76)] : List va_W)) H → va_D A (List.flatten ([(oX5 (p0a 0) p0a p0k p0w_76 p0l), (oX1 (p1a 0) p1a p1k p1n p1w_76 p1l), (oX9 (p1a 3) p1_2a p1_2k p1_2n p1_2w_76)] : List va_W)) → va_K (dC, dI) cls (List.flatten ([(tX5 p0k), (tX1 p1k), (tX9 p1_2k)] : List (List (ClassId × FieldType)))) s → va_S A s.heap H locs → lv_has ls 9 [(0, .ref (p0a 0)), (1, .ref (p1a 0)), (2, .int p2), (3, .long p3), (5, .int p4), (6, .int v6_76), (7, .int (p1_2w_10 6 (nn v8_10)))] → W p l e ({ frames := 3, cells := 0, slots := 0, locals := 71 } : Room) s m ([.ref (p0a 0), .ref (p1a 0), .int p2, .long p3, .int p4] : List Value).toArray below meth c H locs 0 0 Q (F0 m 76 ls []) := by
          intro v6_76 p0w_76 p1w_76 p1_2w_76 H locs ls hrun hP hD hK hS hl 
          unfold fX5_liftBlock_J76 at hrun
          refine lv_iload hx hb dX5_liftBlock_76 (lv_at hl 6 rfl) ?_
          refine lv_istore (lv' := [(8, .int (p1_2w_10 6 (nn v8_10))), (0, .ref (p0a 0)), (1, .ref (p1a 0)), (2, .int p2), (3, .long p3), (5, .int p4), (6, .int v6_76), (7, .int (p1_2w_10 6 (nn v8_10)))]) hx hb dX5_liftBlock_78 hl (by decide) rfl (fun ls hl => ?_)
          refine lv_goto (tgt := 10) hx hb dX5_liftBlock_80 (by decide) ?_
          exact IH10 v6_76 (p1_2w_10 6 (nn v8_10)) p0w_76 p1w_76 p1_2w_76 o10 _ _ _ hrun hP hD hK hS (lv_sub hl [1, 2, 3, 4, 5, 6, 0] rfl) hk10
        rcases br9 hrun with ⟨hc7, hrun⟩ | ⟨hc7, hrun⟩
        · refine lv_if_eq (tgt := 69) hx hb dX5_liftBlock_35 (by decide) (fun _ => ?_) (fun c => absurd hc7 c)
          refine lv_aload_n hx hb dX5_liftBlock_69 rfl (lv_at hl 2 rfl) ?_
          refine lv_iload_n hx hb dX5_liftBlock_70 rfl (lv_at hl 3 rfl) ?_
          refine lv_iload hx hb dX5_liftBlock_71 (lv_at hl 7 rfl) ?_
          obtain ⟨o_8, hc_8, hrun⟩ := bnd9 hrun
          have hPx : va_P (dC, dI) cls ((List.flatten ([(oX1 (p1a 0) p1a p1k p1n p1w_10 p1l), (oX9 (p1a 3) p1_2a p1_2k p1_2n p1_2w_10)] : List va_W)) ++ (List.flatten ([(oX5 (p0a 0) p0a p0k p0w_10 p0l)] : List va_W))) H := vP_fa (vP_perm hP (bP ((((((List.Perm.refl _)).cons _).trans (List.Perm.swap _ _ _))).trans ((((((List.Perm.refl _)).cons _).trans (List.Perm.swap _ _ _))).cons _))))
          have hDx : va_D A ((List.flatten ([(oX1 (p1a 0) p1a p1k p1n p1w_10 p1l), (oX9 (p1a 3) p1_2a p1_2k p1_2n p1_2w_10)] : List va_W)) ++ (List.flatten ([(oX5 (p0a 0) p0a p0k p0w_10 p0l)] : List va_W))) := vD_fa (vD_perm hD (bP ((((((List.Perm.refl _)).cons _).trans (List.Perm.swap _ _ _))).trans ((((((List.Perm.refl _)).cons _).trans (List.Perm.swap _ _ _))).cons _))))
          have hKx : va_K (dC, dI) cls ((List.flatten ([(tX1 p1k), (tX9 p1_2k)] : List (List (ClassId × FieldType)))) ++ (List.flatten ([(tX5 p0k)] : List (List (ClassId × FieldType))))) s := vK_fa (vK_perm hK (bP ((((((List.Perm.refl _)).cons _).trans (List.Perm.swap _ _ _))).trans ((((((List.Perm.refl _)).cons _).trans (List.Perm.swap _ _ _))).cons _))))
          have hPc := vP_l hPx
          have hDc := vD_l hDx
          have hKc := vK_l hKx
          have hFc := vfree hDx hS hA
          refine va_callv (va_runV (As := [.int p2, .int v8_10]) (rest := []) ⟨hx, hb, hml, hown, hts⟩ (kX1_link l dC dI (p0a := p1a) (p0k := p1k) (p0n := p1n) (p0w := p1w_10) (p0l := p1l) (p1 := p2) (p2 := v8_10) (p0_2a := p1_2a) (p0_2k := p1_2k) (p0_2n := p1_2n) (p0_2w := p1_2w_10) (sz := _) (o := o_8) (hrun := hc_8)) (cwV 2 hts (gi_V qw494 qw141 qw142 qw126 (gi_z qw139)) rfl rfl rfl (by decide +kernel) ⟨Nat.le_of_ble_eq_true rfl, Nat.le_of_ble_eq_true rfl⟩) ⟨PRE.blind, va_recv hKc hPc (ci := 4) (q0 := 0) rfl rfl, PRE.of hE hS hFc hPc hKc hDc⟩ rfl rfl hl.1 rfl (lv_room (Nat.le_of_ble_eq_true rfl)) dX5_liftBlock_73 ⟨(Nat.le_of_ble_eq_true rfl), (Nat.le_of_ble_eq_true rfl)⟩) hS (fun q _ h => hFc q h) hFc (fun u t H locs ht hvm hw hB hz1 hk1 hS => ?_)
          obtain ⟨b1, b2, b3⟩ := hB
          rw [ht] at b1
          obtain ⟨hP, hD, hK⟩ := JOINC (wc := (List.flatten ([(oX1 (p1a 0) p1a p1k p1n p1w_10 p1l), (oX9 (p1a 3) p1_2a p1_2k p1_2n p1_2w_10)] : List va_W))) (wr := (List.flatten ([(oX5 (p0a 0) p0a p0k p0w_10 p0l)] : List va_W))) (w1 := (List.flatten ([(oX1 (p1a 0) p1a p1k p1n (o_8.1) p1l), (oX9 (p1a 3) p1_2a p1_2k p1_2n (o_8.2))] : List va_W))) (t1 := (List.flatten ([(tX1 p1k), (tX9 p1_2k)] : List (List (ClassId × FieldType))))) hPx hDx hKx hk1 hFc b1 (va_K.moved hvm.symm b2) b3
          have hP : va_P (dC, dI) cls (List.flatten ([(oX5 (p0a 0) p0a p0k p0w_10 p0l), (oX1 (p1a 0) p1a p1k p1n (o_8.1) p1l), (oX9 (p1a 3) p1_2a p1_2k p1_2n (o_8.2))] : List va_W)) H := vP_perm (vP_fb hP) (bP (((((((List.Perm.refl _)).cons _).trans (List.Perm.swap _ _ _))).cons _).trans (List.Perm.swap _ _ _)))
          have hD : va_D A (List.flatten ([(oX5 (p0a 0) p0a p0k p0w_10 p0l), (oX1 (p1a 0) p1a p1k p1n (o_8.1) p1l), (oX9 (p1a 3) p1_2a p1_2k p1_2n (o_8.2))] : List va_W)) := vD_perm (vD_fb hD) (bP (((((((List.Perm.refl _)).cons _).trans (List.Perm.swap _ _ _))).cons _).trans (List.Perm.swap _ _ _)))
          have hK : va_K (dC, dI) cls (List.flatten ([(tX5 p0k), (tX1 p1k), (tX9 p1_2k)] : List (List (ClassId × FieldType)))) s := vK_perm (vK_fb hK) (bP (((((((List.Perm.refl _)).cons _).trans (List.Perm.swap _ _ _))).cons _).trans (List.Perm.swap _ _ _)))
          exact J76 v6_10 p0w_10 (o_8.1) (o_8.2) _ _ _ hrun hP hD hK hS (lv_sub hl [1, 2, 3, 4, 5, 6, 0] rfl)
        · refine lv_if_eq (tgt := 69) hx hb dX5_liftBlock_35 (by decide) (fun c => absurd c hc7) (fun _ => ?_)
          refine lv_aload_n hx hb dX5_liftBlock_38 rfl (lv_at hl 2 rfl) ?_
          refine lv_iload hx hb dX5_liftBlock_39 (lv_at hl 5 rfl) ?_
          refine lv_iload hx hb dX5_liftBlock_41 (lv_at hl 7 rfl) ?_
          obtain ⟨o_9, hc_9, hrun⟩ := bnd9 hrun
          have hPx : va_P (dC, dI) cls ((List.flatten ([(oX1 (p1a 0) p1a p1k p1n p1w_10 p1l), (oX9 (p1a 3) p1_2a p1_2k p1_2n p1_2w_10)] : List va_W)) ++ (List.flatten ([(oX5 (p0a 0) p0a p0k p0w_10 p0l)] : List va_W))) H := vP_fa (vP_perm hP (bP ((((((List.Perm.refl _)).cons _).trans (List.Perm.swap _ _ _))).trans ((((((List.Perm.refl _)).cons _).trans (List.Perm.swap _ _ _))).cons _))))
          have hDx : va_D A ((List.flatten ([(oX1 (p1a 0) p1a p1k p1n p1w_10 p1l), (oX9 (p1a 3) p1_2a p1_2k p1_2n p1_2w_10)] : List va_W)) ++ (List.flatten ([(oX5 (p0a 0) p0a p0k p0w_10 p0l)] : List va_W))) := vD_fa (vD_perm hD (bP ((((((List.Perm.refl _)).cons _).trans (List.Perm.swap _ _ _))).trans ((((((List.Perm.refl _)).cons _).trans (List.Perm.swap _ _ _))).cons _))))
          have hKx : va_K (dC, dI) cls ((List.flatten ([(tX1 p1k), (tX9 p1_2k)] : List (List (ClassId × FieldType)))) ++ (List.flatten ([(tX5 p0k)] : List (List (ClassId × FieldType))))) s := vK_fa (vK_perm hK (bP ((((((List.Perm.refl _)).cons _).trans (List.Perm.swap _ _ _))).trans ((((((List.Perm.refl _)).cons _).trans (List.Perm.swap _ _ _))).cons _))))
          have hPc := vP_l hPx
          have hDc := vD_l hDx
          have hKc := vK_l hKx
          have hFc := vfree hDx hS hA
          refine va_callv (va_runV (As := [.int p4, .int v8_10]) (rest := []) ⟨hx, hb, hml, hown, hts⟩ (kX1_link l dC dI (p0a := p1a) (p0k := p1k) (p0n := p1n) (p0w := p1w_10) (p0l := p1l) (p1 := p4) (p2 := v8_10) (p0_2a := p1_2a) (p0_2k := p1_2k) (p0_2n := p1_2n) (p0_2w := p1_2w_10) (sz := _) (o := o_9) (hrun := hc_9)) (cwV 2 hts (gi_V qw494 qw141 qw142 qw126 (gi_z qw139)) rfl rfl rfl (by decide +kernel) ⟨Nat.le_of_ble_eq_true rfl, Nat.le_of_ble_eq_true rfl⟩) ⟨PRE.blind, va_recv hKc hPc (ci := 4) (q0 := 0) rfl rfl, PRE.of hE hS hFc hPc hKc hDc⟩ rfl rfl hl.1 rfl (lv_room (Nat.le_of_ble_eq_true rfl)) dX5_liftBlock_43 ⟨(Nat.le_of_ble_eq_true rfl), (Nat.le_of_ble_eq_true rfl)⟩) hS (fun q _ h => hFc q h) hFc (fun u t H locs ht hvm hw hB hz1 hk1 hS => ?_)
          obtain ⟨b1, b2, b3⟩ := hB
          rw [ht] at b1
          obtain ⟨hP, hD, hK⟩ := JOINC (wc := (List.flatten ([(oX1 (p1a 0) p1a p1k p1n p1w_10 p1l), (oX9 (p1a 3) p1_2a p1_2k p1_2n p1_2w_10)] : List va_W))) (wr := (List.flatten ([(oX5 (p0a 0) p0a p0k p0w_10 p0l)] : List va_W))) (w1 := (List.flatten ([(oX1 (p1a 0) p1a p1k p1n (o_9.1) p1l), (oX9 (p1a 3) p1_2a p1_2k p1_2n (o_9.2))] : List va_W))) (t1 := (List.flatten ([(tX1 p1k), (tX9 p1_2k)] : List (List (ClassId × FieldType))))) hPx hDx hKx hk1 hFc b1 (va_K.moved hvm.symm b2) b3
          have hP : va_P (dC, dI) cls (List.flatten ([(oX5 (p0a 0) p0a p0k p0w_10 p0l), (oX1 (p1a 0) p1a p1k p1n (o_9.1) p1l), (oX9 (p1a 3) p1_2a p1_2k p1_2n (o_9.2))] : List va_W)) H := vP_perm (vP_fb hP) (bP (((((((List.Perm.refl _)).cons _).trans (List.Perm.swap _ _ _))).cons _).trans (List.Perm.swap _ _ _)))
          have hD : va_D A (List.flatten ([(oX5 (p0a 0) p0a p0k p0w_10 p0l), (oX1 (p1a 0) p1a p1k p1n (o_9.1) p1l), (oX9 (p1a 3) p1_2a p1_2k p1_2n (o_9.2))] : List va_W)) := vD_perm (vD_fb hD) (bP (((((((List.Perm.refl _)).cons _).trans (List.Perm.swap _ _ _))).cons _).trans (List.Perm.swap _ _ _)))
          have hK : va_K (dC, dI) cls (List.flatten ([(tX5 p0k), (tX1 p1k), (tX9 p1_2k)] : List (List (ClassId × FieldType)))) s := vK_perm (vK_fb hK) (bP (((((((List.Perm.refl _)).cons _).trans (List.Perm.swap _ _ _))).cons _).trans (List.Perm.swap _ _ _)))
          refine lv_aload_n hx hb dX5_liftBlock_46 rfl (lv_at hl 1 rfl) ?_
          refine va_get (D := (dC, dI)) (ci := 7) (v := .ref (p0a 3)) (C := RX5) (T := TX5) (N := 12) hx hb hts i_X5 hown hK hP 0 rfl rfl 2 (by decide) (hts _ qw429) (fun _ h9 => h9) rfl dX5_liftBlock_47 ?_
          refine lv_aload_n hx hb dX5_liftBlock_50 rfl (lv_at hl 2 rfl) ?_
          refine va_get (D := (dC, dI)) (ci := 4) (v := .ref (p1a 3)) (C := RX1) (T := TX1) (N := 21) hx hb hts i_X1 hown hK hP 10 rfl rfl 2 (by decide) (hts _ qw435) (fun _ h9 => h9) rfl dX5_liftBlock_51 ?_
          refine va_get (D := (dC, dI)) (ci := 3) (v := .ref (p1_2a 3)) (C := RX9) (T := TX9) (N := 6) hx hb hts i_X9 hown hK hP 28 rfl rfl 2 (by decide) (hts _ qw436) (fun _ h9 => h9) rfl dX5_liftBlock_54 ?_
          refine lv_iload hx hb dX5_liftBlock_57 (lv_at hl 7 rfl) ?_
          obtain ⟨hq10, hrun⟩ := chk9 hrun
          refine va_iald hx hb hK hP 30 27 rfl rfl (ixb_in hq10) dX5_liftBlock_59 ?_
          refine lv_iload hx hb dX5_liftBlock_60 (lv_at hl 5 rfl) ?_
          obtain ⟨hq11, hrun⟩ := chk9 hrun
          refine va_iast hx hb hK hP hD hS 2 1 rfl rfl (ixb_in hq11) dX5_liftBlock_62 (fun H locs hP hD hS => ?_)
          have hP : va_P (dC, dI) cls (List.flatten ([(oX5 (p0a 0) p0a p0k (upw p0w_10 3 (nn (((o_9.2) 3) (nn v8_10))) p4) p0l), (oX1 (p1a 0) p1a p1k p1n (o_9.1) p1l), (oX9 (p1a 3) p1_2a p1_2k p1_2n (o_9.2))] : List va_W)) H := hP
          have hD : va_D A (List.flatten ([(oX5 (p0a 0) p0a p0k (upw p0w_10 3 (nn (((o_9.2) 3) (nn v8_10))) p4) p0l), (oX1 (p1a 0) p1a p1k p1n (o_9.1) p1l), (oX9 (p1a 3) p1_2a p1_2k p1_2n (o_9.2))] : List va_W)) := hD
          obtain ⟨w12, ew12, hrun⟩ := let9 hrun
          rw [← ew12] at hP hD
          refine lv_iinc (v := (v6_10 + 1)) (lv' := [(6, .int (v6_10 + 1)), (7, .int (p1_2w_10 6 (nn v8_10))), (0, .ref (p0a 0)), (1, .ref (p1a 0)), (2, .int p2), (3, .long p3), (5, .int p4), (8, .int v8_10)]) hx hb dX5_liftBlock_63 hl (k := 6) rfl rfl (by decide) rfl (fun ls hl => ?_)
          refine lv_goto (tgt := 76) hx hb dX5_liftBlock_66 (by decide) ?_
          exact J76 (v6_10 + 1) w12 (o_9.1) (o_9.2) _ _ _ hrun hP hD hK hS (lv_sub hl [2, 3, 4, 5, 6, 0, 1] rfl)
  obtain ⟨o10, hc10, hrun⟩ := bnd9 hrun
  refine L10 NF 0 (o_1.1) p0w (o_1.2) p1_2w o10 _ _ _ hc10 hP hD hK hS (lv_sub hl [2, 3, 4, 5, 6, 1, 0] rfl) ?_
  intro H locs ls hP hD hK hS hl
  have hl := hl
  refine lv_iload hx hb dX5_liftBlock_83 (lv_at hl 0 rfl) ?_
  have ho9 : ((o10.1), (o10.2.1), (o10.2.2.1), (o10.2.2.2)) = o := Option.some.inj hrun
  have hP9 : va_P (dC, dI) cls (List.flatten ([(oX5 (p0a 0) p0a p0k (o.2.1) p0l), (oX1 (p1a 0) p1a p1k p1n (o.2.2.1) p1l), (oX9 (p1a 3) p1_2a p1_2k p1_2n (o.2.2.2))] : List va_W)) H := by first | exact hP | (rw [← ho9]; exact hP)
  have hD9 : va_D A (List.flatten ([(oX5 (p0a 0) p0a p0k (o.2.1) p0l), (oX1 (p1a 0) p1a p1k p1n (o.2.2.1) p1l), (oX9 (p1a 3) p1_2a p1_2k p1_2n (o.2.2.2))] : List va_W)) := by first | exact hD | (rw [← ho9]; exact hD)
  subst hQ
  exact W.iret (v := (o10.1)) hx hb hr (fun t ht hW => ⟨⟨(o10.1), (), rfl, (by rw [← ho9]), ⟨by rw [ht]; exact hP9, va_K.moved hW.alike hK, hD9⟩⟩, hS.F ht⟩) hS.2.2 dX5_liftBlock_85
def fX5_liftFromLoops_J95 (kk14 : Int32 → Int32 → ST → ST → ST → Option (Int32 × ST × ST × ST)) (v3_14 : Int32) (v2_95 : Int32) (p0w_95 : ST) (p1w_95 : ST) (p1_2w_95 : ST) : Option (Int32 × ST × ST × ST) := (kk14 v2_95 (v3_14 + (-1)) p0w_95 p1w_95 p1_2w_95)
def fX5_liftFromLoops_J89 (kk48 : Int32 → Int32 → ST → ST → ST → Option (Int32 × ST × ST × ST)) (v5_48 : Int32) (v2_89 : Int32) (p0w_89 : ST) (p1w_89 : ST) (p1_2w_89 : ST) : Option (Int32 × ST × ST × ST) := (kk48 v2_89 (v5_48 + 1) p0w_89 p1w_89 p1_2w_89)
def fX5_liftFromLoops_L48 (p1l : SL) (p1_2n : Nat → Nat) (v3_14 : Int32) (y0_38 : Int32) : Nat → Int32 → Int32 → ST → ST → ST → Option (Int32 × ST × ST × ST)
  | 0 => fun _ _ _ _ _ => none
  | n_48 + 1 => fun v2_48 v5_48 p0w_48 p1w_48 p1_2w_48 => (if (p1w_48 0 0) ≤ v5_48 then some (v2_48, p0w_48, p1w_48, p1_2w_48) else (if ixb v3_14 60 = true then ((fX11_holds (p1l 17 (nn v3_14)) v5_48).bind fun (o_7 : Int32) => (if o_7 = 0 then (fX5_liftFromLoops_J89 (fX5_liftFromLoops_L48 p1l p1_2n v3_14 y0_38 n_48) v5_48 v2_48 p0w_48 p1w_48 p1_2w_48) else (if ixb v3_14 60 = true then ((fX5_liftBlock p0w_48 p1w_48 v5_48 (p1l 17 (nn v3_14)) y0_38 p1_2n p1_2w_48).bind fun (o_11 : Int32 × ST × ST × ST) => (fX5_liftFromLoops_J89 (fX5_liftFromLoops_L48 p1l p1_2n v3_14 y0_38 n_48) v5_48 (v2_48 + (o_11.1)) (o_11.2.1) (o_11.2.2.1) (o_11.2.2.2))) else none))) else none))
def fX5_liftFromLoops_J38 (kk14 : Int32 → Int32 → ST → ST → ST → Option (Int32 × ST × ST × ST)) (p1l : SL) (p1_2n : Nat → Nat) (v2_14 : Int32) (v3_14 : Int32) (p0w_14 : ST) (p1w_14 : ST) (p1_2w_14 : ST) (y0_38 : Int32) : Option (Int32 × ST × ST × ST) := (if y0_38 < 0 then (fX5_liftFromLoops_J95 kk14 v3_14 v2_14 p0w_14 p1w_14 p1_2w_14) else ((fX5_liftFromLoops_L48 p1l p1_2n v3_14 y0_38 NF v2_14 0 p0w_14 p1w_14 p1_2w_14).bind fun (o48 : Int32 × ST × ST × ST) => (fX5_liftFromLoops_J95 kk14 v3_14 (o48.1) (o48.2.1) (o48.2.2.1) (o48.2.2.2))))
def fX5_liftFromLoops_L14 (p1l : SL) (p1_2n : Nat → Nat) : Nat → Int32 → Int32 → ST → ST → ST → Option (Int32 × ST × ST × ST)
  | 0 => fun _ _ _ _ _ => none
  | n_14 + 1 => fun v2_14 v3_14 p0w_14 p1w_14 p1_2w_14 => (if v3_14 < 0 then some (v2_14, p0w_14, p1w_14, p1_2w_14) else (if ixb v3_14 60 = true then (if (lg_cmp (p1l 17 (nn v3_14)) (0 : Int64)) = 0 then (fX5_liftFromLoops_J38 (fX5_liftFromLoops_L14 p1l p1_2n n_14) p1l p1_2n v2_14 v3_14 p0w_14 p1w_14 p1_2w_14 (-1)) else ((fX5_blockAhead p1w_14 p1l v3_14).bind fun (o_14 : Int32) => (fX5_liftFromLoops_J38 (fX5_liftFromLoops_L14 p1l p1_2n n_14) p1l p1_2n v2_14 v3_14 p0w_14 p1w_14 p1_2w_14 o_14))) else none))
def fX5_liftFromLoops (p0w : ST) (p1n : Nat → Nat) (p1w : ST) (p1l : SL) (p1_2n : Nat → Nat) (p1_2w : ST) : Option (Int32 × ST × ST × ST) := ((fX5_findGivers p0w p1n p1w p1_2n p1_2w).bind fun (o_1 : ST) => ((fX5_liftFromLoops_L14 p1l p1_2n NF 0 ((p1w 0 0) - 1) o_1 p1w p1_2w).bind fun (o14 : Int32 × ST × ST × ST) => some ((o14.1), (o14.2.1), (o14.2.2.1), (o14.2.2.2))))
set_option maxHeartbeats 16000000 in
set_option maxRecDepth 100000 in
theorem kX5_liftFromLoops {zs : ZS} (l : Launch) (dC : Nat → ClassId) (dI : Nat → Nat → Nat) (p0a : Nat → Nat) (p0k : Nat → ClassId) (p0w : ST) (p0l : SL) (p1a : Nat → Nat) (p1k : Nat → ClassId) (p1n : Nat → Nat) (p1w : ST) (p1l : SL) (p1_2a : Nat → Nat) (p1_2k : Nat → ClassId) (p1_2n : Nat → Nat) (p1_2w : ST) (sz : Nat) (o : Int32 × ST × ST × ST) (hrun : fX5_liftFromLoops p0w p1n p1w p1l p1_2n p1_2w = some o) : Met l yX5_liftFromLoops (wz yX5_liftFromLoops cX5_liftFromLoops 6 (Option.some Jvm.ClassFile.FieldType.int)) ({ frames := 4, cells := 0, slots := 0, locals := 99 } : Room) (va_Pc [.ref (p0a 0), .ref (p1a 0)] (PRE zs dC dI (List.flatten ([(oX5 (p0a 0) p0a p0k p0w p0l), (oX1 (p1a 0) p1a p1k p1n p1w p1l), (oX9 (p1a 3) p1_2a p1_2k p1_2n p1_2w)] : List va_W)) (List.flatten ([(tX5 p0k), (tX1 p1k), (tX9 p1_2k)] : List (List (ClassId × FieldType)))) sz)) (va_Qi (fun (r : Int32) (_ : Unit) => r = (o.1)) (fun _ t => POST dC dI (List.flatten ([(oX5 (p0a 0) p0a p0k (o.2.1) p0l), (oX1 (p1a 0) p1a p1k p1n (o.2.2.1) p1l), (oX9 (p1a 3) p1_2a p1_2k p1_2n (o.2.2.2))] : List va_W)) (List.flatten ([(tX5 p0k), (tX1 p1k), (tX9 p1_2k)] : List (List (ClassId × FieldType)))) (va_A (List.flatten ([(oX5 (p0a 0) p0a p0k p0w p0l), (oX1 (p1a 0) p1a p1k p1n p1w p1l), (oX9 (p1a 3) p1_2a p1_2k p1_2n p1_2w)] : List va_W)) sz) t) (va_A (List.flatten ([(oX5 (p0a 0) p0a p0k p0w p0l), (oX1 (p1a 0) p1a p1k p1n p1w p1l), (oX9 (p1a 3) p1_2a p1_2k p1_2n p1_2w)] : List va_W)) sz)) 0 0 (va_A (List.flatten ([(oX5 (p0a 0) p0a p0k p0w p0l), (oX1 (p1a 0) p1a p1k p1n p1w p1l), (oX9 (p1a 3) p1_2a p1_2k p1_2n p1_2w)] : List va_W)) sz) := by
  refine Met.ofW (cc := cX5_liftFromLoops) (maxL := 6) (ret := (Option.some Jvm.ClassFile.FieldType.int)) (by decide) rfl ?_
  intro p e s m args below meth c s₁ B hml hv
  obtain ⟨rfl, hsz, hP, hK, hD0, hE⟩ := hv
  have hx := B.exec
  have hb := B.bytes
  have hr := B.returns
  have hts0 := atoms_spec (ws := wz yX5_liftFromLoops cX5_liftFromLoops 6 (Option.some Jvm.ClassFile.FieldType.int)) B.pre
  have hts : ∀ w ∈ gw, w.before _ s = true := fun w h => hts0 w (List.mem_cons_of_mem _ h)
  have hown : s.vm.findClass RX5 = some m.cls := findClass_of_methodNamed B.named
  have hlocks := B.notSynchronized
  subst hsz
  have hD := hD0.self (sz := s.heap.size)
  refine gQ9 ?_
  intro Q hQ
  generalize hAe : va_A (List.flatten ([(oX5 (p0a 0) p0a p0k p0w p0l), (oX1 (p1a 0) p1a p1k p1n p1w p1l), (oX9 (p1a 3) p1_2a p1_2k p1_2n p1_2w)] : List va_W)) s.heap.size = A at hD hE hQ
  have hA : ∀ q : Nat, s.heap.size ≤ q → A q := fun q h => by rw [← hAe]; exact Or.inr h
  have hS : va_S A s.heap s.heap [] := va_S.rf
  have hP : va_P (dC, dI) cls (List.flatten ([(oX5 (p0a 0) p0a p0k p0w p0l), (oX1 (p1a 0) p1a p1k p1n p1w p1l), (oX9 (p1a 3) p1_2a p1_2k p1_2n p1_2w)] : List va_W)) s.heap := hP
  have hl := lv_entry ([.ref (p0a 0), .ref (p1a 0)]) (n := 6) (Nat.le_of_ble_eq_true rfl)
  rw [lg_entry_eq]
  generalize (lg_sl ([.ref (p0a 0), .ref (p1a 0)]) ++ List.replicate (6 - (lg_sl ([.ref (p0a 0), .ref (p1a 0)])).length) Slot.unset).toArray = ls at hl ⊢
  have hl : lv_has ls 6 [(0, .ref (p0a 0)), (1, .ref (p1a 0))] := hl
  obtain ⟨H, hHe⟩ : ∃ H, H = s.heap := ⟨_, rfl⟩
  obtain ⟨locs, hle⟩ : ∃ locs : List Loc, locs = [] := ⟨_, rfl⟩
  rw [← hHe] at hP
  have hS : va_S A s.heap H locs := by rw [hHe, hle]; exact hS
  show W p l e ({ frames := 4, cells := 0, slots := 0, locals := 99 } : Room) s m ([.ref (p0a 0), .ref (p1a 0)] : List Value).toArray below meth c s.heap [] 0 0 Q (F0 m 0 ls [])
  rw [← hle]
  refine wH9 hHe ?_
  unfold fX5_liftFromLoops at hrun
  refine lv_aload_n hx hb dX5_liftFromLoops_0 rfl (lv_at hl 0 rfl) ?_
  refine lv_aload_n hx hb dX5_liftFromLoops_1 rfl (lv_at hl 1 rfl) ?_
  obtain ⟨o_1, hc_1, hrun⟩ := bnd9 hrun
  have hPx : va_P (dC, dI) cls ((List.flatten ([(oX5 (p0a 0) p0a p0k p0w p0l), (oX1 (p1a 0) p1a p1k p1n p1w p1l), (oX9 (p1a 3) p1_2a p1_2k p1_2n p1_2w)] : List va_W)) ++ (List.flatten ([] : List va_W))) H := vP_fa (vP_perm hP (bP (List.Perm.refl _)))
  have hDx : va_D A ((List.flatten ([(oX5 (p0a 0) p0a p0k p0w p0l), (oX1 (p1a 0) p1a p1k p1n p1w p1l), (oX9 (p1a 3) p1_2a p1_2k p1_2n p1_2w)] : List va_W)) ++ (List.flatten ([] : List va_W))) := vD_fa (vD_perm hD (bP (List.Perm.refl _)))
  have hKx : va_K (dC, dI) cls ((List.flatten ([(tX5 p0k), (tX1 p1k), (tX9 p1_2k)] : List (List (ClassId × FieldType)))) ++ (List.flatten ([] : List (List (ClassId × FieldType))))) s := vK_fa (vK_perm hK (bP (List.Perm.refl _)))
  have hPc := vP_l hPx
  have hDc := vD_l hDx
  have hKc := vK_l hKx
  have hFc := vfree hDx hS hA
  refine va_callv (va_runV (As := [.ref (p1a 0)]) (rest := []) ⟨hx, hb, hml, hown, hts⟩ (kX5_findGivers l dC dI (p0a := p0a) (p0k := p0k) (p0w := p0w) (p0l := p0l) (p1a := p1a) (p1k := p1k) (p1n := p1n) (p1w := p1w) (p1l := p1l) (p1_2a := p1_2a) (p1_2k := p1_2k) (p1_2n := p1_2n) (p1_2w := p1_2w) (sz := _) (o := o_1) (hrun := hc_1)) (cwV 1 hts (gi_V qw439 qw440 qw441 qw442 (gi_z qw438)) rfl rfl rfl (by decide +kernel) ⟨Nat.le_of_ble_eq_true rfl, Nat.le_of_ble_eq_true rfl⟩) ⟨PRE.blind, va_recv hKc hPc (ci := 7) (q0 := 0) rfl rfl, PRE.of hE hS hFc hPc hKc hDc⟩ rfl rfl hl.1 rfl (lv_room (Nat.le_of_ble_eq_true rfl)) dX5_liftFromLoops_2 ⟨(Nat.le_of_ble_eq_true rfl), (Nat.le_of_ble_eq_true rfl)⟩) hS (fun q _ h => hFc q h) hFc (fun u t H locs ht hvm hw hB hz1 hk1 hS => ?_)
  obtain ⟨b1, b2, b3⟩ := hB
  rw [ht] at b1
  obtain ⟨hP, hD, hK⟩ := JOINC (wc := (List.flatten ([(oX5 (p0a 0) p0a p0k p0w p0l), (oX1 (p1a 0) p1a p1k p1n p1w p1l), (oX9 (p1a 3) p1_2a p1_2k p1_2n p1_2w)] : List va_W))) (wr := (List.flatten ([] : List va_W))) (w1 := (List.flatten ([(oX5 (p0a 0) p0a p0k o_1 p0l), (oX1 (p1a 0) p1a p1k p1n p1w p1l), (oX9 (p1a 3) p1_2a p1_2k p1_2n p1_2w)] : List va_W))) (t1 := (List.flatten ([(tX5 p0k), (tX1 p1k), (tX9 p1_2k)] : List (List (ClassId × FieldType))))) hPx hDx hKx hk1 hFc b1 (va_K.moved hvm.symm b2) b3
  have hP : va_P (dC, dI) cls (List.flatten ([(oX5 (p0a 0) p0a p0k o_1 p0l), (oX1 (p1a 0) p1a p1k p1n p1w p1l), (oX9 (p1a 3) p1_2a p1_2k p1_2n p1_2w)] : List va_W)) H := vP_perm (vP_fb hP) (bP (List.Perm.refl _))
  have hD : va_D A (List.flatten ([(oX5 (p0a 0) p0a p0k o_1 p0l), (oX1 (p1a 0) p1a p1k p1n p1w p1l), (oX9 (p1a 3) p1_2a p1_2k p1_2n p1_2w)] : List va_W)) := vD_perm (vD_fb hD) (bP (List.Perm.refl _))
  have hK : va_K (dC, dI) cls (List.flatten ([(tX5 p0k), (tX1 p1k), (tX9 p1_2k)] : List (List (ClassId × FieldType)))) s := vK_perm (vK_fb hK) (bP (List.Perm.refl _))
  refine lv_iconst (v := 0) hx hb dX5_liftFromLoops_5 (by decide) ?_
  refine lv_istore_n (lv' := [(2, .int 0), (0, .ref (p0a 0)), (1, .ref (p1a 0))]) hx hb dX5_liftFromLoops_6 rfl hl (by decide) rfl (fun ls hl => ?_)
  refine lv_aload_n hx hb dX5_liftFromLoops_7 rfl (lv_at hl 2 rfl) ?_
  refine va_get (D := (dC, dI)) (ci := 4) (v := .int (p1w 0 0)) (C := RX1) (T := TX1) (N := 21) hx hb hts i_X1 hown hK hP 10 rfl rfl 0 (by decide) (hts _ qw430) (fun _ h9 => h9) rfl dX5_liftFromLoops_8 ?_
  refine lv_iconst (v := 1) hx hb dX5_liftFromLoops_11 (by decide) ?_
  refine lv_isub hx hb dX5_liftFromLoops_12 ?_
  refine lv_istore_n (lv' := [(3, .int ((p1w 0 0) - 1)), (2, .int 0), (0, .ref (p0a 0)), (1, .ref (p1a 0))]) hx hb dX5_liftFromLoops_13 rfl hl (by decide) rfl (fun ls hl => ?_)
  have L14 : ∀ (n_14 : Nat) (v2_14 : Int32) (v3_14 : Int32) (p0w_14 : ST) (p1w_14 : ST) (p1_2w_14 : ST) (o14 : Int32 × ST × ST × ST) (H : Heap) (locs : List Loc) (ls : Array Slot), (fX5_liftFromLoops_L14 p1l p1_2n n_14) v2_14 v3_14 p0w_14 p1w_14 p1_2w_14 = some o14 → va_P (dC, dI) cls (List.flatten ([(oX5 (p0a 0) p0a p0k p0w_14 p0l), (oX1 (p1a 0) p1a p1k p1n p1w_14 p1l), (oX9 (p1a 3) p1_2a p1_2k p1_2n p1_2w_14)] : List va_W)) H → va_D A (List.flatten ([(oX5 (p0a 0) p0a p0k p0w_14 p0l), (oX1 (p1a 0) p1a p1k p1n p1w_14 p1l), (oX9 (p1a 3) p1_2a p1_2k p1_2n p1_2w_14)] : List va_W)) → va_K (dC, dI) cls (List.flatten ([(tX5 p0k), (tX1 p1k), (tX9 p1_2k)] : List (List (ClassId × FieldType)))) s → va_S A s.heap H locs → lv_has ls 6 [(0, .ref (p0a 0)), (1, .ref (p1a 0)), (2, .int v2_14), (3, .int v3_14)] → (∀ (H : Heap) (locs : List Loc) (ls : Array Slot), va_P (dC, dI) cls (List.flatten ([(oX5 (p0a 0) p0a p0k (o14.2.1) p0l), (oX1 (p1a 0) p1a p1k p1n (o14.2.2.1) p1l), (oX9 (p1a 3) p1_2a p1_2k p1_2n (o14.2.2.2))] : List va_W)) H → va_D A (List.flatten ([(oX5 (p0a 0) p0a p0k (o14.2.1) p0l), (oX1 (p1a 0) p1a p1k p1n (o14.2.2.1) p1l), (oX9 (p1a 3) p1_2a p1_2k p1_2n (o14.2.2.2))] : List va_W)) → va_K (dC, dI) cls (List.flatten ([(tX5 p0k), (tX1 p1k), (tX9 p1_2k)] : List (List (ClassId × FieldType)))) s → va_S A s.heap H locs → lv_has ls 6 [(2, .int (o14.1))] → W p l e ({ frames := 4, cells := 0, slots := 0, locals := 99 } : Room) s m ([.ref (p0a 0), .ref (p1a 0)] : List Value).toArray below meth c H locs 0 0 Q (F0 m 101 ls [])) → W p l e ({ frames := 4, cells := 0, slots := 0, locals := 99 } : Room) s m ([.ref (p0a 0), .ref (p1a 0)] : List Value).toArray below meth c H locs 0 0 Q (F0 m 14 ls []) := by
    intro n_14
    induction n_14 with
    | zero => intro v2_14 v3_14 p0w_14 p1w_14 p1_2w_14 o14 H locs ls hrun; exact (no9 rfl hrun).elim
    | succ n_14 IH14 =>
      intro v2_14 v3_14 p0w_14 p1w_14 p1_2w_14 o14 H locs ls hrun hP hD hK hS hl hk14
      unfold fX5_liftFromLoops_L14 at hrun
      refine lv_iload_n hx hb dX5_liftFromLoops_14 rfl (lv_at hl 3 rfl) ?_
      rcases br9 hrun with ⟨hc2, hrun⟩ | ⟨hc2, hrun⟩
      · refine lv_if_lt (tgt := 101) hx hb dX5_liftFromLoops_15 (by decide) (fun _ => ?_) (fun c => absurd hc2 c)
        obtain rfl := (Option.some.inj hrun)
        exact hk14 _ _ _ hP hD hK hS (lv_sub hl [2] rfl)
      · refine lv_if_lt (tgt := 101) hx hb dX5_liftFromLoops_15 (by decide) (fun c => absurd c hc2) (fun _ => ?_)
        refine lv_aload_n hx hb dX5_liftFromLoops_18 rfl (lv_at hl 1 rfl) ?_
        refine va_get (D := (dC, dI)) (ci := 4) (v := .ref (p1a 17)) (C := RX1) (T := TX1) (N := 21) hx hb hts i_X1 hown hK hP 10 rfl rfl 16 (by decide) (hts _ qw425) (fun _ h9 => h9) rfl dX5_liftFromLoops_19 ?_
        refine lv_iload_n hx hb dX5_liftFromLoops_22 rfl (lv_at hl 3 rfl) ?_
        obtain ⟨hq3, hrun⟩ := chk9 hrun
        refine va_lald hx hb hK hP 24 22 rfl rfl (ixb_in hq3) dX5_liftFromLoops_23 ?_
        refine lv_lconst (v := 0) hx hb dX5_liftFromLoops_24 (by decide) ?_
        refine W.lcmp hx hb dX5_liftFromLoops_25 ?_
        have J38 : ∀ (y0_38 : Int32) (H : Heap) (locs : List Loc) (ls : Array Slot), (fX5_liftFromLoops_J38 (fX5_liftFromLoops_L14 p1l p1_2n n_14) p1l p1_2n v2_14 v3_14 p0w_14 p1w_14 p1_2w_14 y0_38) = some o14 → va_P (dC, dI) cls (List.flatten ([(oX5 (p0a 0) p0a p0k p0w_14 p0l), (oX1 (p1a 0) p1a p1k p1n p1w_14 p1l), (oX9 (p1a 3) p1_2a p1_2k p1_2n p1_2w_14)] : List va_W)) H → va_D A (List.flatten ([(oX5 (p0a 0) p0a p0k p0w_14 p0l), (oX1 (p1a 0) p1a p1k p1n p1w_14 p1l), (oX9 (p1a 3) p1_2a p1_2k p1_2n p1_2w_14)] : List va_W)) → va_K (dC, dI) cls (List.flatten ([(tX5 p0k), (tX1 p1k), (tX9 p1_2k)] : List (List (ClassId × FieldType)))) s → va_S A s.heap H locs → lv_has ls 6 [(0, .ref (p0a 0)), (1, .ref (p1a 0)), (2, .int v2_14), (3, .int v3_14)] → W p l e ({ frames := 4, cells := 0, slots := 0, locals := 99 } : Room) s m ([.ref (p0a 0), .ref (p1a 0)] : List Value).toArray below meth c H locs 0 0 Q (F0 m 38 ls [.int y0_38]) := by
          intro y0_38 H locs ls hrun hP hD hK hS hl 
          unfold fX5_liftFromLoops_J38 at hrun
          refine lv_istore (lv' := [(4, .int y0_38), (0, .ref (p0a 0)), (1, .ref (p1a 0)), (2, .int v2_14), (3, .int v3_14)]) hx hb dX5_liftFromLoops_38 hl (by decide) rfl (fun ls hl => ?_)
          refine lv_iload hx hb dX5_liftFromLoops_40 (lv_at hl 0 rfl) ?_
          have J95 : ∀ (v2_95 : Int32) (p0w_95 : ST) (p1w_95 : ST) (p1_2w_95 : ST) (H : Heap) (locs : List Loc) (ls : Array Slot), (fX5_liftFromLoops_J95 (fX5_liftFromLoops_L14 p1l p1_2n n_14) v3_14 v2_95 p0w_95 p1w_95 p1_2w_95) = some o14 → va_P (dC, dI) cls (List.flatten ([(oX5 (p0a 0) p0a p0k p0w_95 p0l), (oX1 (p1a 0) p1a p1k p1n p1w_95 p1l), (oX9 (p1a 3) p1_2a p1_2k p1_2n p1_2w_95)] : List va_W)) H → va_D A (List.flatten ([(oX5 (p0a 0) p0a p0k p0w_95 p0l), (oX1 (p1a 0) p1a p1k p1n p1w_95 p1l), (oX9 (p1a 3) p1_2a p1_2k p1_2n p1_2w_95)] : List va_W)) → va_K (dC, dI) cls (List.flatten ([(tX5 p0k), (tX1 p1k), (tX9 p1_2k)] : List (List (ClassId × FieldType)))) s → va_S A s.heap H locs → lv_has ls 6 [(0, .ref (p0a 0)), (1, .ref (p1a 0)), (2, .int v2_95), (3, .int v3_14)] → W p l e ({ frames := 4, cells := 0, slots := 0, locals := 99 } : Room) s m ([.ref (p0a 0), .ref (p1a 0)] : List Value).toArray below meth c H locs 0 0 Q (F0 m 95 ls []) := by
            intro v2_95 p0w_95 p1w_95 p1_2w_95 H locs ls hrun hP hD hK hS hl 
            unfold fX5_liftFromLoops_J95 at hrun
            refine lv_iinc (v := (v3_14 + (-1))) (lv' := [(3, .int (v3_14 + (-1))), (0, .ref (p0a 0)), (1, .ref (p1a 0)), (2, .int v2_95)]) hx hb dX5_liftFromLoops_95 hl (k := 3) rfl rfl (by decide) rfl (fun ls hl => ?_)
            refine lv_goto (tgt := 14) hx hb dX5_liftFromLoops_98 (by decide) ?_
            exact IH14 v2_95 (v3_14 + (-1)) p0w_95 p1w_95 p1_2w_95 o14 _ _ _ hrun hP hD hK hS (lv_sub hl [1, 2, 3, 0] rfl) hk14
          rcases br9 hrun with ⟨hc4, hrun⟩ | ⟨hc4, hrun⟩
          · refine lv_if_lt (tgt := 95) hx hb dX5_liftFromLoops_42 (by decide) (fun _ => ?_) (fun c => absurd hc4 c)
            exact J95 v2_14 p0w_14 p1w_14 p1_2w_14 _ _ _ hrun hP hD hK hS (lv_sub hl [1, 2, 3, 4] rfl)
          · refine lv_if_lt (tgt := 95) hx hb dX5_liftFromLoops_42 (by decide) (fun c => absurd c hc4) (fun _ => ?_)
            refine lv_iconst (v := 0) hx hb dX5_liftFromLoops_45 (by decide) ?_
            refine lv_istore (lv' := [(5, .int 0), (4, .int y0_38), (0, .ref (p0a 0)), (1, .ref (p1a 0)), (2, .int v2_14), (3, .int v3_14)]) hx hb dX5_liftFromLoops_46 hl (by decide) rfl (fun ls hl => ?_)
            have L48 : ∀ (n_48 : Nat) (v2_48 : Int32) (v5_48 : Int32) (p0w_48 : ST) (p1w_48 : ST) (p1_2w_48 : ST) (o48 : Int32 × ST × ST × ST) (H : Heap) (locs : List Loc) (ls : Array Slot), (fX5_liftFromLoops_L48 p1l p1_2n v3_14 y0_38 n_48) v2_48 v5_48 p0w_48 p1w_48 p1_2w_48 = some o48 → va_P (dC, dI) cls (List.flatten ([(oX5 (p0a 0) p0a p0k p0w_48 p0l), (oX1 (p1a 0) p1a p1k p1n p1w_48 p1l), (oX9 (p1a 3) p1_2a p1_2k p1_2n p1_2w_48)] : List va_W)) H → va_D A (List.flatten ([(oX5 (p0a 0) p0a p0k p0w_48 p0l), (oX1 (p1a 0) p1a p1k p1n p1w_48 p1l), (oX9 (p1a 3) p1_2a p1_2k p1_2n p1_2w_48)] : List va_W)) → va_K (dC, dI) cls (List.flatten ([(tX5 p0k), (tX1 p1k), (tX9 p1_2k)] : List (List (ClassId × FieldType)))) s → va_S A s.heap H locs → lv_has ls 6 [(0, .ref (p0a 0)), (1, .ref (p1a 0)), (2, .int v2_48), (3, .int v3_14), (4, .int y0_38), (5, .int v5_48)] → (∀ (H : Heap) (locs : List Loc) (ls : Array Slot), va_P (dC, dI) cls (List.flatten ([(oX5 (p0a 0) p0a p0k (o48.2.1) p0l), (oX1 (p1a 0) p1a p1k p1n (o48.2.2.1) p1l), (oX9 (p1a 3) p1_2a p1_2k p1_2n (o48.2.2.2))] : List va_W)) H → va_D A (List.flatten ([(oX5 (p0a 0) p0a p0k (o48.2.1) p0l), (oX1 (p1a 0) p1a p1k p1n (o48.2.2.1) p1l), (oX9 (p1a 3) p1_2a p1_2k p1_2n (o48.2.2.2))] : List va_W)) → va_K (dC, dI) cls (List.flatten ([(tX5 p0k), (tX1 p1k), (tX9 p1_2k)] : List (List (ClassId × FieldType)))) s → va_S A s.heap H locs → lv_has ls 6 [(0, .ref (p0a 0)), (1, .ref (p1a 0)), (2, .int (o48.1)), (3, .int v3_14)] → W p l e ({ frames := 4, cells := 0, slots := 0, locals := 99 } : Room) s m ([.ref (p0a 0), .ref (p1a 0)] : List Value).toArray below meth c H locs 0 0 Q (F0 m 95 ls [])) → W p l e ({ frames := 4, cells := 0, slots := 0, locals := 99 } : Room) s m ([.ref (p0a 0), .ref (p1a 0)] : List Value).toArray below meth c H locs 0 0 Q (F0 m 48 ls []) := by
              intro n_48
              induction n_48 with
              | zero => intro v2_48 v5_48 p0w_48 p1w_48 p1_2w_48 o48 H locs ls hrun; exact (no9 rfl hrun).elim
              | succ n_48 IH48 =>
                intro v2_48 v5_48 p0w_48 p1w_48 p1_2w_48 o48 H locs ls hrun hP hD hK hS hl hk48
                unfold fX5_liftFromLoops_L48 at hrun
                refine lv_iload hx hb dX5_liftFromLoops_48 (lv_at hl 5 rfl) ?_
                refine lv_aload_n hx hb dX5_liftFromLoops_50 rfl (lv_at hl 1 rfl) ?_
                refine va_get (D := (dC, dI)) (ci := 4) (v := .int (p1w_48 0 0)) (C := RX1) (T := TX1) (N := 21) hx hb hts i_X1 hown hK hP 10 rfl rfl 0 (by decide) (hts _ qw430) (fun _ h9 => h9) rfl dX5_liftFromLoops_51 ?_
                rcases br9 hrun with ⟨hc5, hrun⟩ | ⟨hc5, hrun⟩
                · refine lv_icmp_ge (tgt := 95) hx hb dX5_liftFromLoops_54 (by decide) (fun _ => ?_) (fun c => absurd hc5 c)
                  obtain rfl := (Option.some.inj hrun)
                  exact hk48 _ _ _ hP hD hK hS (lv_sub hl [0, 1, 2, 3] rfl)
                · refine lv_icmp_ge (tgt := 95) hx hb dX5_liftFromLoops_54 (by decide) (fun c => absurd c hc5) (fun _ => ?_)
                  refine lv_aload_n hx hb dX5_liftFromLoops_57 rfl (lv_at hl 1 rfl) ?_
                  refine va_get (D := (dC, dI)) (ci := 4) (v := .ref (p1a 17)) (C := RX1) (T := TX1) (N := 21) hx hb hts i_X1 hown hK hP 10 rfl rfl 16 (by decide) (hts _ qw425) (fun _ h9 => h9) rfl dX5_liftFromLoops_58 ?_
                  refine lv_iload_n hx hb dX5_liftFromLoops_61 rfl (lv_at hl 3 rfl) ?_
                  obtain ⟨hq6, hrun⟩ := chk9 hrun
                  refine va_lald hx hb hK hP 24 22 rfl rfl (ixb_in hq6) dX5_liftFromLoops_62 ?_
                  refine lv_iload hx hb dX5_liftFromLoops_63 (lv_at hl 5 rfl) ?_
                  obtain ⟨o_7, hc_7, hrun⟩ := bnd9 hrun
                  have hPx : va_P (dC, dI) cls ((List.flatten ([] : List va_W)) ++ (List.flatten ([(oX5 (p0a 0) p0a p0k p0w_48 p0l), (oX1 (p1a 0) p1a p1k p1n p1w_48 p1l), (oX9 (p1a 3) p1_2a p1_2k p1_2n p1_2w_48)] : List va_W))) H := vP_fa (vP_perm hP (bP (List.Perm.refl _)))
                  have hDx : va_D A ((List.flatten ([] : List va_W)) ++ (List.flatten ([(oX5 (p0a 0) p0a p0k p0w_48 p0l), (oX1 (p1a 0) p1a p1k p1n p1w_48 p1l), (oX9 (p1a 3) p1_2a p1_2k p1_2n p1_2w_48)] : List va_W))) := vD_fa (vD_perm hD (bP (List.Perm.refl _)))
                  have hKx : va_K (dC, dI) cls ((List.flatten ([] : List (List (ClassId × FieldType)))) ++ (List.flatten ([(tX5 p0k), (tX1 p1k), (tX9 p1_2k)] : List (List (ClassId × FieldType))))) s := vK_fa (vK_perm hK (bP (List.Perm.refl _)))
                  have hPc := vP_l hPx
                  have hDc := vD_l hDx
                  have hKc := vK_l hKx
                  have hFc := vfree hDx hS hA
                  refine va_calli (va_runSN (As := [.long (p1l 17 (nn v3_14)), .int v5_48]) (rest := []) ⟨hx, hb, hml, hown, hts⟩ (kX11_holds l dC dI (p0 := (p1l 17 (nn v3_14))) (p1 := v5_48) (sz := _) (o := o_7) (hrun := hc_7)) ⟨(va_cnB 2 hts (gi_z qw192) rfl rfl rfl (hE.nw (List.mem_append_right _ (tbl_7 (i := 146) rfl)) rfl) (hts _ qw129) (by decide +kernel) ⟨Nat.le_of_ble_eq_true rfl, Nat.le_of_ble_eq_true rfl⟩), (hts _ qw193), trivial⟩ ⟨PRE.blind, PRE.of hE hS hFc hPc hKc hDc⟩ rfl rfl hl.1 rfl (lv_room (Nat.le_of_ble_eq_true rfl)) dX5_liftFromLoops_65 ⟨(Nat.le_of_ble_eq_true rfl), (Nat.le_of_ble_eq_true rfl)⟩) hS (fun q _ h => hFc q h) hFc (fun r8 u t H locs ht hvm hw hB hz1 hk1 hS => ?_)
                  obtain ⟨b1, b2, b3⟩ := hB
                  rw [ht] at b1
                  obtain ⟨hP, hD, hK⟩ := JOINC (wc := (List.flatten ([] : List va_W))) (wr := (List.flatten ([(oX5 (p0a 0) p0a p0k p0w_48 p0l), (oX1 (p1a 0) p1a p1k p1n p1w_48 p1l), (oX9 (p1a 3) p1_2a p1_2k p1_2n p1_2w_48)] : List va_W))) (w1 := (List.flatten ([] : List va_W))) (t1 := (List.flatten ([] : List (List (ClassId × FieldType))))) hPx hDx hKx hk1 hFc b1 (va_K.moved hvm.symm b2) b3
                  have hP : va_P (dC, dI) cls (List.flatten ([(oX5 (p0a 0) p0a p0k p0w_48 p0l), (oX1 (p1a 0) p1a p1k p1n p1w_48 p1l), (oX9 (p1a 3) p1_2a p1_2k p1_2n p1_2w_48)] : List va_W)) H := vP_perm (vP_fb hP) (bP (List.Perm.refl _))
                  have hD : va_D A (List.flatten ([(oX5 (p0a 0) p0a p0k p0w_48 p0l), (oX1 (p1a 0) p1a p1k p1n p1w_48 p1l), (oX9 (p1a 3) p1_2a p1_2k p1_2n p1_2w_48)] : List va_W)) := vD_perm (vD_fb hD) (bP (List.Perm.refl _))
                  have hK : va_K (dC, dI) cls (List.flatten ([(tX5 p0k), (tX1 p1k), (tX9 p1_2k)] : List (List (ClassId × FieldType)))) s := vK_perm (vK_fb hK) (bP (List.Perm.refl _))
                  obtain rfl : o_7 = r8 := hw.symm
                  have J89 : ∀ (v2_89 : Int32) (p0w_89 : ST) (p1w_89 : ST) (p1_2w_89 : ST) (H : Heap) (locs : List Loc) (ls : Array Slot), (fX5_liftFromLoops_J89 (fX5_liftFromLoops_L48 p1l p1_2n v3_14 y0_38 n_48) v5_48 v2_89 p0w_89 p1w_89 p1_2w_89) = some o48 → va_P (dC, dI) cls (List.flatten ([(oX5 (p0a 0) p0a p0k p0w_89 p0l), (oX1 (p1a 0) p1a p1k p1n p1w_89 p1l), (oX9 (p1a 3) p1_2a p1_2k p1_2n p1_2w_89)] : List va_W)) H → va_D A (List.flatten ([(oX5 (p0a 0) p0a p0k p0w_89 p0l), (oX1 (p1a 0) p1a p1k p1n p1w_89 p1l), (oX9 (p1a 3) p1_2a p1_2k p1_2n p1_2w_89)] : List va_W)) → va_K (dC, dI) cls (List.flatten ([(tX5 p0k), (tX1 p1k), (tX9 p1_2k)] : List (List (ClassId × FieldType)))) s → va_S A s.heap H locs → lv_has ls 6 [(0, .ref (p0a 0)), (1, .ref (p1a 0)), (2, .int v2_89), (3, .int v3_14), (4, .int y0_38), (5, .int v5_48)] → W p l e ({ frames := 4, cells := 0, slots := 0, locals := 99 } : Room) s m ([.ref (p0a 0), .ref (p1a 0)] : List Value).toArray below meth c H locs 0 0 Q (F0 m 89 ls []) := by
                    intro v2_89 p0w_89 p1w_89 p1_2w_89 H locs ls hrun hP hD hK hS hl 
                    unfold fX5_liftFromLoops_J89 at hrun
                    refine lv_iinc (v := (v5_48 + 1)) (lv' := [(5, .int (v5_48 + 1)), (0, .ref (p0a 0)), (1, .ref (p1a 0)), (2, .int v2_89), (3, .int v3_14), (4, .int y0_38)]) hx hb dX5_liftFromLoops_89 hl (k := 5) rfl rfl (by decide) rfl (fun ls hl => ?_)
                    refine lv_goto (tgt := 48) hx hb dX5_liftFromLoops_92 (by decide) ?_
                    exact IH48 v2_89 (v5_48 + 1) p0w_89 p1w_89 p1_2w_89 o48 _ _ _ hrun hP hD hK hS (lv_sub hl [1, 2, 3, 4, 5, 0] rfl) hk48
                  rcases br9 hrun with ⟨hc9, hrun⟩ | ⟨hc9, hrun⟩
                  · refine lv_if_eq (tgt := 89) hx hb dX5_liftFromLoops_68 (by decide) (fun _ => ?_) (fun c => absurd hc9 c)
                    exact J89 v2_48 p0w_48 p1w_48 p1_2w_48 _ _ _ hrun hP hD hK hS (lv_sub hl [0, 1, 2, 3, 4, 5] rfl)
                  · refine lv_if_eq (tgt := 89) hx hb dX5_liftFromLoops_68 (by decide) (fun c => absurd c hc9) (fun _ => ?_)
                    refine lv_iload_n hx hb dX5_liftFromLoops_71 rfl (lv_at hl 2 rfl) ?_
                    refine lv_aload_n hx hb dX5_liftFromLoops_72 rfl (lv_at hl 0 rfl) ?_
                    refine lv_aload_n hx hb dX5_liftFromLoops_73 rfl (lv_at hl 1 rfl) ?_
                    refine lv_iload hx hb dX5_liftFromLoops_74 (lv_at hl 5 rfl) ?_
                    refine lv_aload_n hx hb dX5_liftFromLoops_76 rfl (lv_at hl 1 rfl) ?_
                    refine va_get (D := (dC, dI)) (ci := 4) (v := .ref (p1a 17)) (C := RX1) (T := TX1) (N := 21) hx hb hts i_X1 hown hK hP 10 rfl rfl 16 (by decide) (hts _ qw425) (fun _ h9 => h9) rfl dX5_liftFromLoops_77 ?_
                    refine lv_iload_n hx hb dX5_liftFromLoops_80 rfl (lv_at hl 3 rfl) ?_
                    obtain ⟨hq10, hrun⟩ := chk9 hrun
                    refine va_lald hx hb hK hP 24 22 rfl rfl (ixb_in hq10) dX5_liftFromLoops_81 ?_
                    refine lv_iload hx hb dX5_liftFromLoops_82 (lv_at hl 4 rfl) ?_
                    obtain ⟨o_11, hc_11, hrun⟩ := bnd9 hrun
                    have hPx : va_P (dC, dI) cls ((List.flatten ([(oX5 (p0a 0) p0a p0k p0w_48 p0l), (oX1 (p1a 0) p1a p1k p1n p1w_48 p1l), (oX9 (p1a 3) p1_2a p1_2k p1_2n p1_2w_48)] : List va_W)) ++ (List.flatten ([] : List va_W))) H := vP_fa (vP_perm hP (bP (List.Perm.refl _)))
                    have hDx : va_D A ((List.flatten ([(oX5 (p0a 0) p0a p0k p0w_48 p0l), (oX1 (p1a 0) p1a p1k p1n p1w_48 p1l), (oX9 (p1a 3) p1_2a p1_2k p1_2n p1_2w_48)] : List va_W)) ++ (List.flatten ([] : List va_W))) := vD_fa (vD_perm hD (bP (List.Perm.refl _)))
                    have hKx : va_K (dC, dI) cls ((List.flatten ([(tX5 p0k), (tX1 p1k), (tX9 p1_2k)] : List (List (ClassId × FieldType)))) ++ (List.flatten ([] : List (List (ClassId × FieldType))))) s := vK_fa (vK_perm hK (bP (List.Perm.refl _)))
                    have hPc := vP_l hPx
                    have hDc := vD_l hDx
                    have hKc := vK_l hKx
                    have hFc := vfree hDx hS hA
                    refine va_calli (va_runV (As := [.ref (p1a 0), .int v5_48, .long (p1l 17 (nn v3_14)), .int y0_38]) (rest := [.int v2_48]) ⟨hx, hb, hml, hown, hts⟩ (kX5_liftBlock l dC dI (p0a := p0a) (p0k := p0k) (p0w := p0w_48) (p0l := p0l) (p1a := p1a) (p1k := p1k) (p1n := p1n) (p1w := p1w_48) (p1l := p1l) (p2 := v5_48) (p3 := (p1l 17 (nn v3_14))) (p4 := y0_38) (p1_2a := p1_2a) (p1_2k := p1_2k) (p1_2n := p1_2n) (p1_2w := p1_2w_48) (sz := _) (o := o_11) (hrun := hc_11)) (cwV 4 hts (gi_V qw600 qw601 qw602 qw442 (gi_z qw599)) rfl rfl rfl (by decide +kernel) ⟨Nat.le_of_ble_eq_true rfl, Nat.le_of_ble_eq_true rfl⟩) ⟨PRE.blind, va_recv hKc hPc (ci := 7) (q0 := 0) rfl rfl, PRE.of hE hS hFc hPc hKc hDc⟩ rfl rfl hl.1 rfl (lv_room (Nat.le_of_ble_eq_true rfl)) dX5_liftFromLoops_84 ⟨(Nat.le_of_ble_eq_true rfl), (Nat.le_of_ble_eq_true rfl)⟩) hS (fun q _ h => hFc q h) hFc (fun r12 u t H locs ht hvm hw hB hz1 hk1 hS => ?_)
                    obtain ⟨b1, b2, b3⟩ := hB
                    rw [ht] at b1
                    obtain ⟨hP, hD, hK⟩ := JOINC (wc := (List.flatten ([(oX5 (p0a 0) p0a p0k p0w_48 p0l), (oX1 (p1a 0) p1a p1k p1n p1w_48 p1l), (oX9 (p1a 3) p1_2a p1_2k p1_2n p1_2w_48)] : List va_W))) (wr := (List.flatten ([] : List va_W))) (w1 := (List.flatten ([(oX5 (p0a 0) p0a p0k (o_11.2.1) p0l), (oX1 (p1a 0) p1a p1k p1n (o_11.2.2.1) p1l), (oX9 (p1a 3) p1_2a p1_2k p1_2n (o_11.2.2.2))] : List va_W))) (t1 := (List.flatten ([(tX5 p0k), (tX1 p1k), (tX9 p1_2k)] : List (List (ClassId × FieldType))))) hPx hDx hKx hk1 hFc b1 (va_K.moved hvm.symm b2) b3
                    have hP : va_P (dC, dI) cls (List.flatten ([(oX5 (p0a 0) p0a p0k (o_11.2.1) p0l), (oX1 (p1a 0) p1a p1k p1n (o_11.2.2.1) p1l), (oX9 (p1a 3) p1_2a p1_2k p1_2n (o_11.2.2.2))] : List va_W)) H := vP_perm (vP_fb hP) (bP (List.Perm.refl _))
                    have hD : va_D A (List.flatten ([(oX5 (p0a 0) p0a p0k (o_11.2.1) p0l), (oX1 (p1a 0) p1a p1k p1n (o_11.2.2.1) p1l), (oX9 (p1a 3) p1_2a p1_2k p1_2n (o_11.2.2.2))] : List va_W)) := vD_perm (vD_fb hD) (bP (List.Perm.refl _))
                    have hK : va_K (dC, dI) cls (List.flatten ([(tX5 p0k), (tX1 p1k), (tX9 p1_2k)] : List (List (ClassId × FieldType)))) s := vK_perm (vK_fb hK) (bP (List.Perm.refl _))
                    obtain rfl : r12 = (o_11.1) := hw
                    refine lv_iadd hx hb dX5_liftFromLoops_87 ?_
                    refine lv_istore_n (lv' := [(2, .int (v2_48 + (o_11.1))), (0, .ref (p0a 0)), (1, .ref (p1a 0)), (3, .int v3_14), (4, .int y0_38), (5, .int v5_48)]) hx hb dX5_liftFromLoops_88 rfl hl (by decide) rfl (fun ls hl => ?_)
                    exact J89 (v2_48 + (o_11.1)) (o_11.2.1) (o_11.2.2.1) (o_11.2.2.2) _ _ _ hrun hP hD hK hS (lv_sub hl [1, 2, 0, 3, 4, 5] rfl)
            obtain ⟨o48, hc48, hrun⟩ := bnd9 hrun
            refine L48 NF v2_14 0 p0w_14 p1w_14 p1_2w_14 o48 _ _ _ hc48 hP hD hK hS (lv_sub hl [2, 3, 4, 5, 1, 0] rfl) ?_
            intro H locs ls hP hD hK hS hl
            have hl := hl
            exact J95 (o48.1) (o48.2.1) (o48.2.2.1) (o48.2.2.2) _ _ _ hrun hP hD hK hS (lv_sub hl [0, 1, 2, 3] rfl)
        rcases br9 hrun with ⟨hc13, hrun⟩ | ⟨hc13, hrun⟩
        · refine lv_if_ne (tgt := 33) hx hb dX5_liftFromLoops_26 (by decide) (fun c => absurd hc13 c) (fun _ => ?_)
          refine lv_iconst (v := (-1)) hx hb dX5_liftFromLoops_29 (by decide) ?_
          refine lv_goto (tgt := 38) hx hb dX5_liftFromLoops_30 (by decide) ?_
          exact J38 (-1) _ _ _ hrun hP hD hK hS (lv_sub hl [0, 1, 2, 3] rfl)
        · refine lv_if_ne (tgt := 33) hx hb dX5_liftFromLoops_26 (by decide) (fun _ => ?_) (fun c => absurd c hc13)
          refine lv_aload_n hx hb dX5_liftFromLoops_33 rfl (lv_at hl 1 rfl) ?_
          refine lv_iload_n hx hb dX5_liftFromLoops_34 rfl (lv_at hl 3 rfl) ?_
          obtain ⟨o_14, hc_14, hrun⟩ := bnd9 hrun
          have hPx : va_P (dC, dI) cls ((List.flatten ([(oX1 (p1a 0) p1a p1k p1n p1w_14 p1l)] : List va_W)) ++ (List.flatten ([(oX5 (p0a 0) p0a p0k p0w_14 p0l), (oX9 (p1a 3) p1_2a p1_2k p1_2n p1_2w_14)] : List va_W))) H := vP_fa (vP_perm hP (bP ((((List.Perm.refl _)).cons _).trans (List.Perm.swap _ _ _))))
          have hDx : va_D A ((List.flatten ([(oX1 (p1a 0) p1a p1k p1n p1w_14 p1l)] : List va_W)) ++ (List.flatten ([(oX5 (p0a 0) p0a p0k p0w_14 p0l), (oX9 (p1a 3) p1_2a p1_2k p1_2n p1_2w_14)] : List va_W))) := vD_fa (vD_perm hD (bP ((((List.Perm.refl _)).cons _).trans (List.Perm.swap _ _ _))))
          have hKx : va_K (dC, dI) cls ((List.flatten ([(tX1 p1k)] : List (List (ClassId × FieldType)))) ++ (List.flatten ([(tX5 p0k), (tX9 p1_2k)] : List (List (ClassId × FieldType))))) s := vK_fa (vK_perm hK (bP ((((List.Perm.refl _)).cons _).trans (List.Perm.swap _ _ _))))
          have hPc := vP_l hPx
          have hDc := vD_l hDx
          have hKc := vK_l hKx
          have hFc := vfree hDx hS hA
          refine va_calli (va_runS (As := [.ref (p1a 0), .int v3_14]) (rest := []) ⟨hx, hb, hml, hown, hts⟩ (kX5_blockAhead l dC dI (p0a := p1a) (p0k := p1k) (p0n := p1n) (p0w := p1w_14) (p0l := p1l) (p1 := v3_14) (sz := _) (o := o_14) (hrun := hc_14)) (va_cwS 2 hts (gi_S qw604 qw605 qw442 (gi_z qw603)) rfl rfl rfl (by decide +kernel) ⟨Nat.le_of_ble_eq_true rfl, Nat.le_of_ble_eq_true rfl⟩) ⟨PRE.blind, PRE.of hE hS hFc hPc hKc hDc⟩ rfl rfl hl.1 rfl (lv_room (Nat.le_of_ble_eq_true rfl)) dX5_liftFromLoops_35 ⟨(Nat.le_of_ble_eq_true rfl), (Nat.le_of_ble_eq_true rfl)⟩) hS (fun q _ h => hFc q h) hFc (fun r15 u t H locs ht hvm hw hB hz1 hk1 hS => ?_)
          obtain ⟨b1, b2, b3⟩ := hB
          rw [ht] at b1
          obtain ⟨hP, hD, hK⟩ := JOINC (wc := (List.flatten ([(oX1 (p1a 0) p1a p1k p1n p1w_14 p1l)] : List va_W))) (wr := (List.flatten ([(oX5 (p0a 0) p0a p0k p0w_14 p0l), (oX9 (p1a 3) p1_2a p1_2k p1_2n p1_2w_14)] : List va_W))) (w1 := (List.flatten ([(oX1 (p1a 0) p1a p1k p1n p1w_14 p1l)] : List va_W))) (t1 := (List.flatten ([(tX1 p1k)] : List (List (ClassId × FieldType))))) hPx hDx hKx hk1 hFc b1 (va_K.moved hvm.symm b2) b3
          have hP : va_P (dC, dI) cls (List.flatten ([(oX5 (p0a 0) p0a p0k p0w_14 p0l), (oX1 (p1a 0) p1a p1k p1n p1w_14 p1l), (oX9 (p1a 3) p1_2a p1_2k p1_2n p1_2w_14)] : List va_W)) H := vP_perm (vP_fb hP) (bP ((((List.Perm.refl _)).cons _).trans (List.Perm.swap _ _ _)))
          have hD : va_D A (List.flatten ([(oX5 (p0a 0) p0a p0k p0w_14 p0l), (oX1 (p1a 0) p1a p1k p1n p1w_14 p1l), (oX9 (p1a 3) p1_2a p1_2k p1_2n p1_2w_14)] : List va_W)) := vD_perm (vD_fb hD) (bP ((((List.Perm.refl _)).cons _).trans (List.Perm.swap _ _ _)))
          have hK : va_K (dC, dI) cls (List.flatten ([(tX5 p0k), (tX1 p1k), (tX9 p1_2k)] : List (List (ClassId × FieldType)))) s := vK_perm (vK_fb hK) (bP ((((List.Perm.refl _)).cons _).trans (List.Perm.swap _ _ _)))
          obtain rfl : o_14 = r15 := hw.symm
          exact J38 o_14 _ _ _ hrun hP hD hK hS (lv_sub hl [0, 1, 2, 3] rfl)
  obtain ⟨o14, hc14, hrun⟩ := bnd9 hrun
  refine L14 NF 0 ((p1w 0 0) - 1) o_1 p1w p1_2w o14 _ _ _ hc14 hP hD hK hS (lv_sub hl [2, 3, 1, 0] rfl) ?_
  intro H locs ls hP hD hK hS hl
  have hl := hl
  refine lv_iload_n hx hb dX5_liftFromLoops_101 rfl (lv_at hl 0 rfl) ?_
  have ho9 : ((o14.1), (o14.2.1), (o14.2.2.1), (o14.2.2.2)) = o := Option.some.inj hrun
  have hP9 : va_P (dC, dI) cls (List.flatten ([(oX5 (p0a 0) p0a p0k (o.2.1) p0l), (oX1 (p1a 0) p1a p1k p1n (o.2.2.1) p1l), (oX9 (p1a 3) p1_2a p1_2k p1_2n (o.2.2.2))] : List va_W)) H := by first | exact hP | (rw [← ho9]; exact hP)
  have hD9 : va_D A (List.flatten ([(oX5 (p0a 0) p0a p0k (o.2.1) p0l), (oX1 (p1a 0) p1a p1k p1n (o.2.2.1) p1l), (oX9 (p1a 3) p1_2a p1_2k p1_2n (o.2.2.2))] : List va_W)) := by first | exact hD | (rw [← ho9]; exact hD)
  subst hQ
  exact W.iret (v := (o14.1)) hx hb hr (fun t ht hW => ⟨⟨(o14.1), (), rfl, (by rw [← ho9]), ⟨by rw [ht]; exact hP9, va_K.moved hW.alike hK, hD9⟩⟩, hS.F ht⟩) hS.2.2 dX5_liftFromLoops_102
def fX5_mergeable_J55 (kk2 : Int32 → Option (Sum Int32 Unit)) (v2_2 : Int32) : Option (Sum Int32 Unit) := (kk2 (v2_2 + 1))
def fX5_mergeable_L2 (p0l : SL) (p1w : ST) : Nat → Int32 → Option (Sum Int32 Unit)
  | 0 => fun _ => none
  | n_2 + 1 => fun v2_2 => (if (p1w 0 0) ≤ v2_2 then some (Sum.inr ()) else ((fX11_holds (p0l 0 7) v2_2).bind fun (o_2 : Int32) => (if o_2 = 0 then (fX5_mergeable_J55 (fX5_mergeable_L2 p0l p1w n_2) v2_2) else (if ixb v2_2 60 = true then (if (p1w 8 (nn v2_2)) = 22 then (if ixb v2_2 60 = true then (if (p1w 10 (nn v2_2)) = v2_2 then (fX5_mergeable_J55 (fX5_mergeable_L2 p0l p1w n_2) v2_2) else ((fX1_waysTo p1w (p1w 10 (nn v2_2))).bind fun (o_9 : Int32) => (if o_9 = 1 then some (Sum.inl v2_2) else (fX5_mergeable_J55 (fX5_mergeable_L2 p0l p1w n_2) v2_2)))) else none) else (fX5_mergeable_J55 (fX5_mergeable_L2 p0l p1w n_2) v2_2)) else none))))
def fX5_mergeable (p0l : SL) (p1w : ST) : Option Int32 := ((fX5_mergeable_L2 p0l p1w NF 0).bind fun (o2 : (Sum Int32 Unit)) => Sum.elim (fun r => some r) (fun (t2 : Unit) => some (-1)) o2)
set_option maxHeartbeats 16000000 in
set_option maxRecDepth 100000 in
theorem kX5_mergeable {zs : ZS} (l : Launch) (dC : Nat → ClassId) (dI : Nat → Nat → Nat) (p0a : Nat → Nat) (p0k : Nat → ClassId) (p0w : ST) (p0l : SL) (p1a : Nat → Nat) (p1k : Nat → ClassId) (p1n : Nat → Nat) (p1w : ST) (p1l : SL) (sz : Nat) (o : Int32) (hrun : fX5_mergeable p0l p1w = some o) : Met l yX5_mergeable (wz yX5_mergeable cX5_mergeable 4 (Option.some Jvm.ClassFile.FieldType.int)) ({ frames := 1, cells := 0, slots := 0, locals := 22 } : Room) (va_Pc [.ref (p0a 0), .ref (p1a 0)] (PRE zs dC dI (List.flatten ([(oX5 (p0a 0) p0a p0k p0w p0l), (oX1 (p1a 0) p1a p1k p1n p1w p1l)] : List va_W)) (List.flatten ([(tX5 p0k), (tX1 p1k)] : List (List (ClassId × FieldType)))) sz)) (va_Qi (fun (r : Int32) (_ : Unit) => r = o) (fun _ t => POST dC dI (List.flatten ([(oX5 (p0a 0) p0a p0k p0w p0l), (oX1 (p1a 0) p1a p1k p1n p1w p1l)] : List va_W)) (List.flatten ([(tX5 p0k), (tX1 p1k)] : List (List (ClassId × FieldType)))) (va_A (List.flatten ([(oX5 (p0a 0) p0a p0k p0w p0l), (oX1 (p1a 0) p1a p1k p1n p1w p1l)] : List va_W)) sz) t) (va_A (List.flatten ([(oX5 (p0a 0) p0a p0k p0w p0l), (oX1 (p1a 0) p1a p1k p1n p1w p1l)] : List va_W)) sz)) 0 0 (va_A (List.flatten ([(oX5 (p0a 0) p0a p0k p0w p0l), (oX1 (p1a 0) p1a p1k p1n p1w p1l)] : List va_W)) sz) := by
  refine Met.ofW (cc := cX5_mergeable) (maxL := 4) (ret := (Option.some Jvm.ClassFile.FieldType.int)) (by decide) rfl ?_
  intro p e s m args below meth c s₁ B hml hv
  obtain ⟨rfl, hsz, hP, hK, hD0, hE⟩ := hv
  have hx := B.exec
  have hb := B.bytes
  have hr := B.returns
  have hts0 := atoms_spec (ws := wz yX5_mergeable cX5_mergeable 4 (Option.some Jvm.ClassFile.FieldType.int)) B.pre
  have hts : ∀ w ∈ gw, w.before _ s = true := fun w h => hts0 w (List.mem_cons_of_mem _ h)
  have hown : s.vm.findClass RX5 = some m.cls := findClass_of_methodNamed B.named
  have hlocks := B.notSynchronized
  subst hsz
  have hD := hD0.self (sz := s.heap.size)
  refine gQ9 ?_
  intro Q hQ
  generalize hAe : va_A (List.flatten ([(oX5 (p0a 0) p0a p0k p0w p0l), (oX1 (p1a 0) p1a p1k p1n p1w p1l)] : List va_W)) s.heap.size = A at hD hE hQ
  have hA : ∀ q : Nat, s.heap.size ≤ q → A q := fun q h => by rw [← hAe]; exact Or.inr h
  have hS : va_S A s.heap s.heap [] := va_S.rf
  have hP : va_P (dC, dI) cls (List.flatten ([(oX5 (p0a 0) p0a p0k p0w p0l), (oX1 (p1a 0) p1a p1k p1n p1w p1l)] : List va_W)) s.heap := hP
  have hl := lv_entry ([.ref (p0a 0), .ref (p1a 0)]) (n := 4) (Nat.le_of_ble_eq_true rfl)
  rw [lg_entry_eq]
  generalize (lg_sl ([.ref (p0a 0), .ref (p1a 0)]) ++ List.replicate (4 - (lg_sl ([.ref (p0a 0), .ref (p1a 0)])).length) Slot.unset).toArray = ls at hl ⊢
  have hl : lv_has ls 4 [(0, .ref (p0a 0)), (1, .ref (p1a 0))] := hl
  obtain ⟨H, hHe⟩ : ∃ H, H = s.heap := ⟨_, rfl⟩
  obtain ⟨locs, hle⟩ : ∃ locs : List Loc, locs = [] := ⟨_, rfl⟩
  rw [← hHe] at hP
  have hS : va_S A s.heap H locs := by rw [hHe, hle]; exact hS
  show W p l e ({ frames := 1, cells := 0, slots := 0, locals := 22 } : Room) s m ([.ref (p0a 0), .ref (p1a 0)] : List Value).toArray below meth c s.heap [] 0 0 Q (F0 m 0 ls [])
  rw [← hle]
  refine wH9 hHe ?_
  unfold fX5_mergeable at hrun
  refine lv_iconst (v := 0) hx hb dX5_mergeable_0 (by decide) ?_
  refine lv_istore_n (lv' := [(2, .int 0), (0, .ref (p0a 0)), (1, .ref (p1a 0))]) hx hb dX5_mergeable_1 rfl hl (by decide) rfl (fun ls hl => ?_)
  have L2 : ∀ (n_2 : Nat) (v2_2 : Int32) (o2 : (Sum Int32 Unit)) (H : Heap) (locs : List Loc) (ls : Array Slot), (fX5_mergeable_L2 p0l p1w n_2) v2_2 = some o2 → va_P (dC, dI) cls (List.flatten ([(oX5 (p0a 0) p0a p0k p0w p0l), (oX1 (p1a 0) p1a p1k p1n p1w p1l)] : List va_W)) H → va_D A (List.flatten ([(oX5 (p0a 0) p0a p0k p0w p0l), (oX1 (p1a 0) p1a p1k p1n p1w p1l)] : List va_W)) → va_K (dC, dI) cls (List.flatten ([(tX5 p0k), (tX1 p1k)] : List (List (ClassId × FieldType)))) s → va_S A s.heap H locs → lv_has ls 4 [(0, .ref (p0a 0)), (1, .ref (p1a 0)), (2, .int v2_2)] → (∀ r, o2 = Sum.inl r → r = o) → (∀ (t2 : Unit), o2 = Sum.inr t2 → ∀ (H : Heap) (locs : List Loc) (ls : Array Slot), va_P (dC, dI) cls (List.flatten ([(oX5 (p0a 0) p0a p0k p0w p0l), (oX1 (p1a 0) p1a p1k p1n p1w p1l)] : List va_W)) H → va_D A (List.flatten ([(oX5 (p0a 0) p0a p0k p0w p0l), (oX1 (p1a 0) p1a p1k p1n p1w p1l)] : List va_W)) → va_K (dC, dI) cls (List.flatten ([(tX5 p0k), (tX1 p1k)] : List (List (ClassId × FieldType)))) s → va_S A s.heap H locs → lv_has ls 4 [] → W p l e ({ frames := 1, cells := 0, slots := 0, locals := 22 } : Room) s m ([.ref (p0a 0), .ref (p1a 0)] : List Value).toArray below meth c H locs 0 0 Q (F0 m 61 ls [])) → W p l e ({ frames := 1, cells := 0, slots := 0, locals := 22 } : Room) s m ([.ref (p0a 0), .ref (p1a 0)] : List Value).toArray below meth c H locs 0 0 Q (F0 m 2 ls []) := by
    intro n_2
    induction n_2 with
    | zero => intro v2_2 o2 H locs ls hrun; exact (no9 rfl hrun).elim
    | succ n_2 IH2 =>
      intro v2_2 o2 H locs ls hrun hP hD hK hS hl hr2 hk2
      unfold fX5_mergeable_L2 at hrun
      refine lv_iload_n hx hb dX5_mergeable_2 rfl (lv_at hl 2 rfl) ?_
      refine lv_aload_n hx hb dX5_mergeable_3 rfl (lv_at hl 1 rfl) ?_
      refine va_get (D := (dC, dI)) (ci := 4) (v := .int (p1w 0 0)) (C := RX1) (T := TX1) (N := 21) hx hb hts i_X1 hown hK hP 10 rfl rfl 0 (by decide) (hts _ qw430) (fun _ h9 => h9) rfl dX5_mergeable_4 ?_
      rcases br9 hrun with ⟨hc1, hrun⟩ | ⟨hc1, hrun⟩
      · refine lv_icmp_ge (tgt := 61) hx hb dX5_mergeable_7 (by decide) (fun _ => ?_) (fun c => absurd hc1 c)
        obtain rfl := (Option.some.inj hrun)
        exact hk2 _ rfl _ _ _ hP hD hK hS (lv_sub hl [] rfl)
      · refine lv_icmp_ge (tgt := 61) hx hb dX5_mergeable_7 (by decide) (fun c => absurd c hc1) (fun _ => ?_)
        refine lv_aload_n hx hb dX5_mergeable_10 rfl (lv_at hl 0 rfl) ?_
        refine va_get (D := (dC, dI)) (ci := 7) (v := .long (p0l 0 7)) (C := RX5) (T := TX5) (N := 12) hx hb hts i_X5 hown hK hP 0 rfl rfl 7 (by decide) (hts _ qw504) (fun _ h9 => h9) rfl dX5_mergeable_11 ?_
        refine lv_iload_n hx hb dX5_mergeable_14 rfl (lv_at hl 2 rfl) ?_
        obtain ⟨o_2, hc_2, hrun⟩ := bnd9 hrun
        have hPx : va_P (dC, dI) cls ((List.flatten ([] : List va_W)) ++ (List.flatten ([(oX5 (p0a 0) p0a p0k p0w p0l), (oX1 (p1a 0) p1a p1k p1n p1w p1l)] : List va_W))) H := vP_fa (vP_perm hP (bP (List.Perm.refl _)))
        have hDx : va_D A ((List.flatten ([] : List va_W)) ++ (List.flatten ([(oX5 (p0a 0) p0a p0k p0w p0l), (oX1 (p1a 0) p1a p1k p1n p1w p1l)] : List va_W))) := vD_fa (vD_perm hD (bP (List.Perm.refl _)))
        have hKx : va_K (dC, dI) cls ((List.flatten ([] : List (List (ClassId × FieldType)))) ++ (List.flatten ([(tX5 p0k), (tX1 p1k)] : List (List (ClassId × FieldType))))) s := vK_fa (vK_perm hK (bP (List.Perm.refl _)))
        have hPc := vP_l hPx
        have hDc := vD_l hDx
        have hKc := vK_l hKx
        have hFc := vfree hDx hS hA
        refine va_calli (va_runSN (As := [.long (p0l 0 7), .int v2_2]) (rest := []) ⟨hx, hb, hml, hown, hts⟩ (kX11_holds l dC dI (p0 := (p0l 0 7)) (p1 := v2_2) (sz := _) (o := o_2) (hrun := hc_2)) ⟨(va_cnB 2 hts (gi_z qw192) rfl rfl rfl (hE.nw (List.mem_append_right _ (tbl_7 (i := 146) rfl)) rfl) (hts _ qw129) (by decide +kernel) ⟨Nat.le_of_ble_eq_true rfl, Nat.le_of_ble_eq_true rfl⟩), (hts _ qw193), trivial⟩ ⟨PRE.blind, PRE.of hE hS hFc hPc hKc hDc⟩ rfl rfl hl.1 rfl (lv_room (Nat.le_of_ble_eq_true rfl)) dX5_mergeable_15 ⟨(Nat.le_of_ble_eq_true rfl), (Nat.le_of_ble_eq_true rfl)⟩) hS (fun q _ h => hFc q h) hFc (fun r3 u t H locs ht hvm hw hB hz1 hk1 hS => ?_)
        obtain ⟨b1, b2, b3⟩ := hB
        rw [ht] at b1
        obtain ⟨hP, hD, hK⟩ := JOINC (wc := (List.flatten ([] : List va_W))) (wr := (List.flatten ([(oX5 (p0a 0) p0a p0k p0w p0l), (oX1 (p1a 0) p1a p1k p1n p1w p1l)] : List va_W))) (w1 := (List.flatten ([] : List va_W))) (t1 := (List.flatten ([] : List (List (ClassId × FieldType))))) hPx hDx hKx hk1 hFc b1 (va_K.moved hvm.symm b2) b3
        have hP : va_P (dC, dI) cls (List.flatten ([(oX5 (p0a 0) p0a p0k p0w p0l), (oX1 (p1a 0) p1a p1k p1n p1w p1l)] : List va_W)) H := vP_perm (vP_fb hP) (bP (List.Perm.refl _))
        have hD : va_D A (List.flatten ([(oX5 (p0a 0) p0a p0k p0w p0l), (oX1 (p1a 0) p1a p1k p1n p1w p1l)] : List va_W)) := vD_perm (vD_fb hD) (bP (List.Perm.refl _))
        have hK : va_K (dC, dI) cls (List.flatten ([(tX5 p0k), (tX1 p1k)] : List (List (ClassId × FieldType)))) s := vK_perm (vK_fb hK) (bP (List.Perm.refl _))
        obtain rfl : o_2 = r3 := hw.symm
        have J55 : ∀ (H : Heap) (locs : List Loc) (ls : Array Slot), (fX5_mergeable_J55 (fX5_mergeable_L2 p0l p1w n_2) v2_2) = some o2 → va_P (dC, dI) cls (List.flatten ([(oX5 (p0a 0) p0a p0k p0w p0l), (oX1 (p1a 0) p1a p1k p1n p1w p1l)] : List va_W)) H → va_D A (List.flatten ([(oX5 (p0a 0) p0a p0k p0w p0l), (oX1 (p1a 0) p1a p1k p1n p1w p1l)] : List va_W)) → va_K (dC, dI) cls (List.flatten ([(tX5 p0k), (tX1 p1k)] : List (List (ClassId × FieldType)))) s → va_S A s.heap H locs → lv_has ls 4 [(0, .ref (p0a 0)), (1, .ref (p1a 0)), (2, .int v2_2)] → W p l e ({ frames := 1, cells := 0, slots := 0, locals := 22 } : Room) s m ([.ref (p0a 0), .ref (p1a 0)] : List Value).toArray below meth c H locs 0 0 Q (F0 m 55 ls []) := by
          intro  H locs ls hrun hP hD hK hS hl 
          unfold fX5_mergeable_J55 at hrun
          refine lv_iinc (v := (v2_2 + 1)) (lv' := [(2, .int (v2_2 + 1)), (0, .ref (p0a 0)), (1, .ref (p1a 0))]) hx hb dX5_mergeable_55 hl (k := 2) rfl rfl (by decide) rfl (fun ls hl => ?_)
          refine lv_goto (tgt := 2) hx hb dX5_mergeable_58 (by decide) ?_
          exact IH2 (v2_2 + 1) o2 _ _ _ hrun hP hD hK hS (lv_sub hl [1, 2, 0] rfl) hr2 hk2
        rcases br9 hrun with ⟨hc4, hrun⟩ | ⟨hc4, hrun⟩
        · refine lv_if_eq (tgt := 55) hx hb dX5_mergeable_18 (by decide) (fun _ => ?_) (fun c => absurd hc4 c)
          exact J55 _ _ _ hrun hP hD hK hS (lv_sub hl [0, 1, 2] rfl)
        · refine lv_if_eq (tgt := 55) hx hb dX5_mergeable_18 (by decide) (fun c => absurd c hc4) (fun _ => ?_)
          refine lv_aload_n hx hb dX5_mergeable_21 rfl (lv_at hl 1 rfl) ?_
          refine va_get (D := (dC, dI)) (ci := 4) (v := .ref (p1a 8)) (C := RX1) (T := TX1) (N := 21) hx hb hts i_X1 hown hK hP 10 rfl rfl 7 (by decide) (hts _ qw426) (fun _ h9 => h9) rfl dX5_mergeable_22 ?_
          refine lv_iload_n hx hb dX5_mergeable_25 rfl (lv_at hl 2 rfl) ?_
          obtain ⟨hq5, hrun⟩ := chk9 hrun
          refine va_iald hx hb hK hP 15 13 rfl rfl (ixb_in hq5) dX5_mergeable_26 ?_
          refine lv_bipush (v := 22) hx hb dX5_mergeable_27 (by decide) ?_
          rcases br9 hrun with ⟨hc6, hrun⟩ | ⟨hc6, hrun⟩
          · refine lv_icmp_ne (tgt := 55) hx hb dX5_mergeable_29 (by decide) (fun c => absurd hc6 c) (fun _ => ?_)
            refine lv_aload_n hx hb dX5_mergeable_32 rfl (lv_at hl 1 rfl) ?_
            refine va_get (D := (dC, dI)) (ci := 4) (v := .ref (p1a 10)) (C := RX1) (T := TX1) (N := 21) hx hb hts i_X1 hown hK hP 10 rfl rfl 9 (by decide) (hts _ qw498) (fun _ h9 => h9) rfl dX5_mergeable_33 ?_
            refine lv_iload_n hx hb dX5_mergeable_36 rfl (lv_at hl 2 rfl) ?_
            obtain ⟨hq7, hrun⟩ := chk9 hrun
            refine va_iald hx hb hK hP 17 15 rfl rfl (ixb_in hq7) dX5_mergeable_37 ?_
            refine lv_istore_n (lv' := [(3, .int (p1w 10 (nn v2_2))), (0, .ref (p0a 0)), (1, .ref (p1a 0)), (2, .int v2_2)]) hx hb dX5_mergeable_38 rfl hl (by decide) rfl (fun ls hl => ?_)
            refine lv_iload_n hx hb dX5_mergeable_39 rfl (lv_at hl 0 rfl) ?_
            refine lv_iload_n hx hb dX5_mergeable_40 rfl (lv_at hl 3 rfl) ?_
            rcases br9 hrun with ⟨hc8, hrun⟩ | ⟨hc8, hrun⟩
            · refine lv_icmp_eq (tgt := 55) hx hb dX5_mergeable_41 (by decide) (fun _ => ?_) (fun c => absurd hc8 c)
              exact J55 _ _ _ hrun hP hD hK hS (lv_sub hl [1, 2, 3] rfl)
            · refine lv_icmp_eq (tgt := 55) hx hb dX5_mergeable_41 (by decide) (fun c => absurd c hc8) (fun _ => ?_)
              refine lv_aload_n hx hb dX5_mergeable_44 rfl (lv_at hl 2 rfl) ?_
              refine lv_iload_n hx hb dX5_mergeable_45 rfl (lv_at hl 0 rfl) ?_
              obtain ⟨o_9, hc_9, hrun⟩ := bnd9 hrun
              have hPx : va_P (dC, dI) cls ((List.flatten ([(oX1 (p1a 0) p1a p1k p1n p1w p1l)] : List va_W)) ++ (List.flatten ([(oX5 (p0a 0) p0a p0k p0w p0l)] : List va_W))) H := vP_fa (vP_perm hP (bP ((((List.Perm.refl _)).cons _).trans (List.Perm.swap _ _ _))))
              have hDx : va_D A ((List.flatten ([(oX1 (p1a 0) p1a p1k p1n p1w p1l)] : List va_W)) ++ (List.flatten ([(oX5 (p0a 0) p0a p0k p0w p0l)] : List va_W))) := vD_fa (vD_perm hD (bP ((((List.Perm.refl _)).cons _).trans (List.Perm.swap _ _ _))))
              have hKx : va_K (dC, dI) cls ((List.flatten ([(tX1 p1k)] : List (List (ClassId × FieldType)))) ++ (List.flatten ([(tX5 p0k)] : List (List (ClassId × FieldType))))) s := vK_fa (vK_perm hK (bP ((((List.Perm.refl _)).cons _).trans (List.Perm.swap _ _ _))))
              have hPc := vP_l hPx
              have hDc := vD_l hDx
              have hKc := vK_l hKx
              have hFc := vfree hDx hS hA
              refine va_calli (va_runV (As := [.int (p1w 10 (nn v2_2))]) (rest := []) ⟨hx, hb, hml, hown, hts⟩ (kX1_waysTo l dC dI (p0a := p1a) (p0k := p1k) (p0n := p1n) (p0w := p1w) (p0l := p1l) (p1 := (p1w 10 (nn v2_2))) (sz := _) (o := o_9) (hrun := hc_9)) (cwV 1 hts (gi_V qw423 qw185 qw186 qw126 (gi_z qw183)) rfl rfl rfl (by decide +kernel) ⟨Nat.le_of_ble_eq_true rfl, Nat.le_of_ble_eq_true rfl⟩) ⟨PRE.blind, va_recv hKc hPc (ci := 4) (q0 := 0) rfl rfl, PRE.of hE hS hFc hPc hKc hDc⟩ rfl rfl hl.1 rfl (lv_room (Nat.le_of_ble_eq_true rfl)) dX5_mergeable_46 ⟨(Nat.le_of_ble_eq_true rfl), (Nat.le_of_ble_eq_true rfl)⟩) hS (fun q _ h => hFc q h) hFc (fun r10 u t H locs ht hvm hw hB hz1 hk1 hS => ?_)
              obtain ⟨b1, b2, b3⟩ := hB
              rw [ht] at b1
              obtain ⟨hP, hD, hK⟩ := JOINC (wc := (List.flatten ([(oX1 (p1a 0) p1a p1k p1n p1w p1l)] : List va_W))) (wr := (List.flatten ([(oX5 (p0a 0) p0a p0k p0w p0l)] : List va_W))) (w1 := (List.flatten ([(oX1 (p1a 0) p1a p1k p1n p1w p1l)] : List va_W))) (t1 := (List.flatten ([(tX1 p1k)] : List (List (ClassId × FieldType))))) hPx hDx hKx hk1 hFc b1 (va_K.moved hvm.symm b2) b3
              have hP : va_P (dC, dI) cls (List.flatten ([(oX5 (p0a 0) p0a p0k p0w p0l), (oX1 (p1a 0) p1a p1k p1n p1w p1l)] : List va_W)) H := vP_perm (vP_fb hP) (bP ((((List.Perm.refl _)).cons _).trans (List.Perm.swap _ _ _)))
              have hD : va_D A (List.flatten ([(oX5 (p0a 0) p0a p0k p0w p0l), (oX1 (p1a 0) p1a p1k p1n p1w p1l)] : List va_W)) := vD_perm (vD_fb hD) (bP ((((List.Perm.refl _)).cons _).trans (List.Perm.swap _ _ _)))
              have hK : va_K (dC, dI) cls (List.flatten ([(tX5 p0k), (tX1 p1k)] : List (List (ClassId × FieldType)))) s := vK_perm (vK_fb hK) (bP ((((List.Perm.refl _)).cons _).trans (List.Perm.swap _ _ _)))
              obtain rfl : o_9 = r10 := hw.symm
              refine lv_iconst (v := 1) hx hb dX5_mergeable_49 (by decide) ?_
              rcases br9 hrun with ⟨hc11, hrun⟩ | ⟨hc11, hrun⟩
              · refine lv_icmp_ne (tgt := 55) hx hb dX5_mergeable_50 (by decide) (fun c => absurd hc11 c) (fun _ => ?_)
                refine lv_iload_n hx hb dX5_mergeable_53 rfl (lv_at hl 3 rfl) ?_
                have ho9 : v2_2 = o := hr2 _ (Option.some.inj hrun).symm
                have hP9 : va_P (dC, dI) cls (List.flatten ([(oX5 (p0a 0) p0a p0k p0w p0l), (oX1 (p1a 0) p1a p1k p1n p1w p1l)] : List va_W)) H := by first | exact hP | (rw [← ho9]; exact hP)
                have hD9 : va_D A (List.flatten ([(oX5 (p0a 0) p0a p0k p0w p0l), (oX1 (p1a 0) p1a p1k p1n p1w p1l)] : List va_W)) := by first | exact hD | (rw [← ho9]; exact hD)
                subst hQ
                exact W.iret (v := v2_2) hx hb hr (fun t ht hW => ⟨⟨v2_2, (), rfl, (by rw [← ho9]), ⟨by rw [ht]; exact hP9, va_K.moved hW.alike hK, hD9⟩⟩, hS.F ht⟩) hS.2.2 dX5_mergeable_54
              · refine lv_icmp_ne (tgt := 55) hx hb dX5_mergeable_50 (by decide) (fun _ => ?_) (fun c => absurd c hc11)
                exact J55 _ _ _ hrun hP hD hK hS (lv_sub hl [1, 2, 3] rfl)
          · refine lv_icmp_ne (tgt := 55) hx hb dX5_mergeable_29 (by decide) (fun _ => ?_) (fun c => absurd c hc6)
            exact J55 _ _ _ hrun hP hD hK hS (lv_sub hl [0, 1, 2] rfl)
  obtain ⟨o2, hc2, hrun⟩ := bnd9 hrun
  refine L2 NF 0 o2 _ _ _ hc2 hP hD hK hS (lv_sub hl [1, 2, 0] rfl) (fun r e9 => by subst e9; exact Option.some.inj hrun) ?_
  intro t2 e9
  subst e9
  replace hrun := el9 hrun
  intro H locs ls hP hD hK hS hl
  have hl := hl
  refine lv_iconst (v := (-1)) hx hb dX5_mergeable_61 (by decide) ?_
  have ho9 : (-1) = o := Option.some.inj hrun
  have hP9 : va_P (dC, dI) cls (List.flatten ([(oX5 (p0a 0) p0a p0k p0w p0l), (oX1 (p1a 0) p1a p1k p1n p1w p1l)] : List va_W)) H := by first | exact hP | (rw [← ho9]; exact hP)
  have hD9 : va_D A (List.flatten ([(oX5 (p0a 0) p0a p0k p0w p0l), (oX1 (p1a 0) p1a p1k p1n p1w p1l)] : List va_W)) := by first | exact hD | (rw [← ho9]; exact hD)
  subst hQ
  exact W.iret (v := (-1)) hx hb hr (fun t ht hW => ⟨⟨(-1), (), rfl, (by rw [← ho9]), ⟨by rw [ht]; exact hP9, va_K.moved hW.alike hK, hD9⟩⟩, hS.F ht⟩) hS.2.2 dX5_mergeable_62
def fX5_takeFrom_J43 (p0w_43 : ST) : Option ST := some p0w_43
def fX5_takeFrom_L12 (p0n : Nat → Nat) (p2 : Int32) (p3 : Int32) : Nat → Int32 → ST → Option ST
  | 0 => fun _ _ => none
  | n_12 + 1 => fun v4_12 p0w_12 => (if v4_12 < 0 then some p0w_12 else ((fX1_take p0n p0w_12 v4_12 p2).bind fun (o_4 : Int32) => ((fX1_setTake p0n p0w_12 v4_12 p3 o_4).bind fun (o_6 : ST) => (if ixb v4_12 (p0n 20) = true then ((fX5_takeFrom_L12 p0n p2 p3 n_12) (o_6 20 (nn v4_12)) o_6) else none))))
def fX5_takeFrom (p0n : Nat → Nat) (p0w : ST) (p1 : Int32) (p2 : Int32) (p3 : Int32) : Option ST := (if p1 < 0 then (fX5_takeFrom_J43 p0w) else (if ixb p1 60 = true then ((fX5_takeFrom_L12 p0n p2 p3 NF (p0w 6 (nn p1)) p0w).bind fun (o12 : ST) => (fX5_takeFrom_J43 o12)) else none))
set_option maxHeartbeats 16000000 in
set_option maxRecDepth 100000 in
theorem kX5_takeFrom {zs : ZS} (l : Launch) (dC : Nat → ClassId) (dI : Nat → Nat → Nat) (p0a : Nat → Nat) (p0k : Nat → ClassId) (p0n : Nat → Nat) (p0w : ST) (p0l : SL) (p1 : Int32) (p2 : Int32) (p3 : Int32) (sz : Nat) (o : ST) (hrun : fX5_takeFrom p0n p0w p1 p2 p3 = some o) : Met l yX5_takeFrom (wz yX5_takeFrom cX5_takeFrom 5 (Option.none : Option Jvm.ClassFile.FieldType)) ({ frames := 1, cells := 0, slots := 0, locals := 23 } : Room) (va_Pc [.ref (p0a 0), .int p1, .int p2, .int p3] (PRE zs dC dI (List.flatten ([(oX1 (p0a 0) p0a p0k p0n p0w p0l)] : List va_W)) (List.flatten ([(tX1 p0k)] : List (List (ClassId × FieldType)))) sz)) (va_Qv (fun (_ : Unit) => True) (fun _ t => POST dC dI (List.flatten ([(oX1 (p0a 0) p0a p0k p0n o p0l)] : List va_W)) (List.flatten ([(tX1 p0k)] : List (List (ClassId × FieldType)))) (va_A (List.flatten ([(oX1 (p0a 0) p0a p0k p0n p0w p0l)] : List va_W)) sz) t) (va_A (List.flatten ([(oX1 (p0a 0) p0a p0k p0n p0w p0l)] : List va_W)) sz)) 0 0 (va_A (List.flatten ([(oX1 (p0a 0) p0a p0k p0n p0w p0l)] : List va_W)) sz) := by
  refine Met.ofW (cc := cX5_takeFrom) (maxL := 5) (ret := (Option.none : Option Jvm.ClassFile.FieldType)) (by decide) rfl ?_
  intro p e s m args below meth c s₁ B hml hv
  obtain ⟨rfl, hsz, hP, hK, hD0, hE⟩ := hv
  have hx := B.exec
  have hb := B.bytes
  have hr := B.returns
  have hts0 := atoms_spec (ws := wz yX5_takeFrom cX5_takeFrom 5 (Option.none : Option Jvm.ClassFile.FieldType)) B.pre
  have hts : ∀ w ∈ gw, w.before _ s = true := fun w h => hts0 w (List.mem_cons_of_mem _ h)
  have hown : s.vm.findClass RX5 = some m.cls := findClass_of_methodNamed B.named
  have hlocks := B.notSynchronized
  subst hsz
  have hD := hD0.self (sz := s.heap.size)
  refine gQ9 ?_
  intro Q hQ
  generalize hAe : va_A (List.flatten ([(oX1 (p0a 0) p0a p0k p0n p0w p0l)] : List va_W)) s.heap.size = A at hD hE hQ
  have hA : ∀ q : Nat, s.heap.size ≤ q → A q := fun q h => by rw [← hAe]; exact Or.inr h
  have hS : va_S A s.heap s.heap [] := va_S.rf
  have hP : va_P (dC, dI) cls (List.flatten ([(oX1 (p0a 0) p0a p0k p0n p0w p0l)] : List va_W)) s.heap := hP
  have hl := lv_entry ([.ref (p0a 0), .int p1, .int p2, .int p3]) (n := 5) (Nat.le_of_ble_eq_true rfl)
  rw [lg_entry_eq]
  generalize (lg_sl ([.ref (p0a 0), .int p1, .int p2, .int p3]) ++ List.replicate (5 - (lg_sl ([.ref (p0a 0), .int p1, .int p2, .int p3])).length) Slot.unset).toArray = ls at hl ⊢
  have hl : lv_has ls 5 [(0, .ref (p0a 0)), (1, .int p1), (2, .int p2), (3, .int p3)] := hl
  obtain ⟨H, hHe⟩ : ∃ H, H = s.heap := ⟨_, rfl⟩
  obtain ⟨locs, hle⟩ : ∃ locs : List Loc, locs = [] := ⟨_, rfl⟩
  rw [← hHe] at hP
  have hS : va_S A s.heap H locs := by rw [hHe, hle]; exact hS
  show W p l e ({ frames := 1, cells := 0, slots := 0, locals := 23 } : Room) s m ([.ref (p0a 0), .int p1, .int p2, .int p3] : List Value).toArray below meth c s.heap [] 0 0 Q (F0 m 0 ls [])
  rw [← hle]
  refine wH9 hHe ?_
  unfold fX5_takeFrom at hrun
  refine lv_iload_n hx hb dX5_takeFrom_0 rfl (lv_at hl 1 rfl) ?_
  have J43 : ∀ (p0w_43 : ST) (H : Heap) (locs : List Loc) (ls : Array Slot), (fX5_takeFrom_J43 p0w_43) = some o → va_P (dC, dI) cls (List.flatten ([(oX1 (p0a 0) p0a p0k p0n p0w_43 p0l)] : List va_W)) H → va_D A (List.flatten ([(oX1 (p0a 0) p0a p0k p0n p0w_43 p0l)] : List va_W)) → va_K (dC, dI) cls (List.flatten ([(tX1 p0k)] : List (List (ClassId × FieldType)))) s → va_S A s.heap H locs → lv_has ls 5 [] → W p l e ({ frames := 1, cells := 0, slots := 0, locals := 23 } : Room) s m ([.ref (p0a 0), .int p1, .int p2, .int p3] : List Value).toArray below meth c H locs 0 0 Q (F0 m 43 ls []) := by
    intro p0w_43 H locs ls hrun hP hD hK hS hl 
    unfold fX5_takeFrom_J43 at hrun
    have ho9 : p0w_43 = o := Option.some.inj hrun
    have hP9 : va_P (dC, dI) cls (List.flatten ([(oX1 (p0a 0) p0a p0k p0n o p0l)] : List va_W)) H := by first | exact hP | (rw [← ho9]; exact hP)
    have hD9 : va_D A (List.flatten ([(oX1 (p0a 0) p0a p0k p0n o p0l)] : List va_W)) := by first | exact hD | (rw [← ho9]; exact hD)
    subst hQ
    exact W.vret hx hb hr (fun t ht hW => ⟨⟨(), rfl, trivial, ⟨by rw [ht]; exact hP9, va_K.moved hW.alike hK, hD9⟩⟩, hS.F ht⟩) hS.2.2 dX5_takeFrom_43
  rcases br9 hrun with ⟨hc1, hrun⟩ | ⟨hc1, hrun⟩
  · refine lv_if_lt (tgt := 43) hx hb dX5_takeFrom_1 (by decide) (fun _ => ?_) (fun c => absurd hc1 c)
    exact J43 p0w _ _ _ hrun hP hD hK hS (lv_sub hl [] rfl)
  · refine lv_if_lt (tgt := 43) hx hb dX5_takeFrom_1 (by decide) (fun c => absurd c hc1) (fun _ => ?_)
    refine lv_aload_n hx hb dX5_takeFrom_4 rfl (lv_at hl 0 rfl) ?_
    refine va_get (D := (dC, dI)) (ci := 4) (v := .ref (p0a 6)) (C := RX1) (T := TX1) (N := 21) hx hb hts i_X1 hown hK hP 0 rfl rfl 5 (by decide) (hts _ qw431) (fun _ h9 => h9) rfl dX5_takeFrom_5 ?_
    refine lv_iload_n hx hb dX5_takeFrom_8 rfl (lv_at hl 1 rfl) ?_
    obtain ⟨hq2, hrun⟩ := chk9 hrun
    refine va_iald hx hb hK hP 3 2 rfl rfl (ixb_in hq2) dX5_takeFrom_9 ?_
    refine lv_istore (lv' := [(4, .int (p0w 6 (nn p1))), (0, .ref (p0a 0)), (1, .int p1), (2, .int p2), (3, .int p3)]) hx hb dX5_takeFrom_10 hl (by decide) rfl (fun ls hl => ?_)
    have L12 : ∀ (n_12 : Nat) (v4_12 : Int32) (p0w_12 : ST) (o12 : ST) (H : Heap) (locs : List Loc) (ls : Array Slot), (fX5_takeFrom_L12 p0n p2 p3 n_12) v4_12 p0w_12 = some o12 → va_P (dC, dI) cls (List.flatten ([(oX1 (p0a 0) p0a p0k p0n p0w_12 p0l)] : List va_W)) H → va_D A (List.flatten ([(oX1 (p0a 0) p0a p0k p0n p0w_12 p0l)] : List va_W)) → va_K (dC, dI) cls (List.flatten ([(tX1 p0k)] : List (List (ClassId × FieldType)))) s → va_S A s.heap H locs → lv_has ls 5 [(0, .ref (p0a 0)), (2, .int p2), (3, .int p3), (4, .int v4_12)] → (∀ (H : Heap) (locs : List Loc) (ls : Array Slot), va_P (dC, dI) cls (List.flatten ([(oX1 (p0a 0) p0a p0k p0n o12 p0l)] : List va_W)) H → va_D A (List.flatten ([(oX1 (p0a 0) p0a p0k p0n o12 p0l)] : List va_W)) → va_K (dC, dI) cls (List.flatten ([(tX1 p0k)] : List (List (ClassId × FieldType)))) s → va_S A s.heap H locs → lv_has ls 5 [] → W p l e ({ frames := 1, cells := 0, slots := 0, locals := 23 } : Room) s m ([.ref (p0a 0), .int p1, .int p2, .int p3] : List Value).toArray below meth c H locs 0 0 Q (F0 m 43 ls [])) → W p l e ({ frames := 1, cells := 0, slots := 0, locals := 23 } : Room) s m ([.ref (p0a 0), .int p1, .int p2, .int p3] : List Value).toArray below meth c H locs 0 0 Q (F0 m 12 ls []) := by
      intro n_12
      induction n_12 with
      | zero => intro v4_12 p0w_12 o12 H locs ls hrun; exact (no9 rfl hrun).elim
      | succ n_12 IH12 =>
        intro v4_12 p0w_12 o12 H locs ls hrun hP hD hK hS hl hk12
        unfold fX5_takeFrom_L12 at hrun
        refine lv_iload hx hb dX5_takeFrom_12 (lv_at hl 3 rfl) ?_
        rcases br9 hrun with ⟨hc3, hrun⟩ | ⟨hc3, hrun⟩
        · refine lv_if_lt (tgt := 43) hx hb dX5_takeFrom_14 (by decide) (fun _ => ?_) (fun c => absurd hc3 c)
          obtain rfl := (Option.some.inj hrun)
          exact hk12 _ _ _ hP hD hK hS (lv_sub hl [] rfl)
        · refine lv_if_lt (tgt := 43) hx hb dX5_takeFrom_14 (by decide) (fun c => absurd c hc3) (fun _ => ?_)
          refine lv_aload_n hx hb dX5_takeFrom_17 rfl (lv_at hl 0 rfl) ?_
          refine lv_iload hx hb dX5_takeFrom_18 (lv_at hl 3 rfl) ?_
          refine lv_iload_n hx hb dX5_takeFrom_20 rfl (lv_at hl 2 rfl) ?_
          refine lv_aload_n hx hb dX5_takeFrom_21 rfl (lv_at hl 0 rfl) ?_
          refine lv_iload hx hb dX5_takeFrom_22 (lv_at hl 3 rfl) ?_
          refine lv_iload_n hx hb dX5_takeFrom_24 rfl (lv_at hl 1 rfl) ?_
          obtain ⟨o_4, hc_4, hrun⟩ := bnd9 hrun
          have hPx : va_P (dC, dI) cls ((List.flatten ([(oX1 (p0a 0) p0a p0k p0n p0w_12 p0l)] : List va_W)) ++ (List.flatten ([] : List va_W))) H := vP_fa (vP_perm hP (bP (List.Perm.refl _)))
          have hDx : va_D A ((List.flatten ([(oX1 (p0a 0) p0a p0k p0n p0w_12 p0l)] : List va_W)) ++ (List.flatten ([] : List va_W))) := vD_fa (vD_perm hD (bP (List.Perm.refl _)))
          have hKx : va_K (dC, dI) cls ((List.flatten ([(tX1 p0k)] : List (List (ClassId × FieldType)))) ++ (List.flatten ([] : List (List (ClassId × FieldType))))) s := vK_fa (vK_perm hK (bP (List.Perm.refl _)))
          have hPc := vP_l hPx
          have hDc := vD_l hDx
          have hKc := vK_l hKx
          have hFc := vfree hDx hS hA
          refine va_calli (va_runV (As := [.int v4_12, .int p2]) (rest := [.int p3, .int v4_12, .ref (p0a 0)]) ⟨hx, hb, hml, hown, hts⟩ (kX1_take l dC dI (p0a := p0a) (p0k := p0k) (p0n := p0n) (p0w := p0w_12) (p0l := p0l) (p1 := v4_12) (p2 := p2) (sz := _) (o := o_4) (hrun := hc_4)) (cwV 2 hts (gi_V qw469 qw470 qw471 qw126 (gi_z qw468)) rfl rfl rfl (by decide +kernel) ⟨Nat.le_of_ble_eq_true rfl, Nat.le_of_ble_eq_true rfl⟩) ⟨PRE.blind, va_recv hKc hPc (ci := 4) (q0 := 0) rfl rfl, PRE.of hE hS hFc hPc hKc hDc⟩ rfl rfl hl.1 rfl (lv_room (Nat.le_of_ble_eq_true rfl)) dX5_takeFrom_25 ⟨(Nat.le_of_ble_eq_true rfl), (Nat.le_of_ble_eq_true rfl)⟩) hS (fun q _ h => hFc q h) hFc (fun r5 u t H locs ht hvm hw hB hz1 hk1 hS => ?_)
          obtain ⟨b1, b2, b3⟩ := hB
          rw [ht] at b1
          obtain ⟨hP, hD, hK⟩ := JOINC (wc := (List.flatten ([(oX1 (p0a 0) p0a p0k p0n p0w_12 p0l)] : List va_W))) (wr := (List.flatten ([] : List va_W))) (w1 := (List.flatten ([(oX1 (p0a 0) p0a p0k p0n p0w_12 p0l)] : List va_W))) (t1 := (List.flatten ([(tX1 p0k)] : List (List (ClassId × FieldType))))) hPx hDx hKx hk1 hFc b1 (va_K.moved hvm.symm b2) b3
          have hP : va_P (dC, dI) cls (List.flatten ([(oX1 (p0a 0) p0a p0k p0n p0w_12 p0l)] : List va_W)) H := vP_perm (vP_fb hP) (bP (List.Perm.refl _))
          have hD : va_D A (List.flatten ([(oX1 (p0a 0) p0a p0k p0n p0w_12 p0l)] : List va_W)) := vD_perm (vD_fb hD) (bP (List.Perm.refl _))
          have hK : va_K (dC, dI) cls (List.flatten ([(tX1 p0k)] : List (List (ClassId × FieldType)))) s := vK_perm (vK_fb hK) (bP (List.Perm.refl _))
          obtain rfl : o_4 = r5 := hw.symm
          obtain ⟨o_6, hc_6, hrun⟩ := bnd9 hrun
          have hPx : va_P (dC, dI) cls ((List.flatten ([(oX1 (p0a 0) p0a p0k p0n p0w_12 p0l)] : List va_W)) ++ (List.flatten ([] : List va_W))) H := vP_fa (vP_perm hP (bP (List.Perm.refl _)))
          have hDx : va_D A ((List.flatten ([(oX1 (p0a 0) p0a p0k p0n p0w_12 p0l)] : List va_W)) ++ (List.flatten ([] : List va_W))) := vD_fa (vD_perm hD (bP (List.Perm.refl _)))
          have hKx : va_K (dC, dI) cls ((List.flatten ([(tX1 p0k)] : List (List (ClassId × FieldType)))) ++ (List.flatten ([] : List (List (ClassId × FieldType))))) s := vK_fa (vK_perm hK (bP (List.Perm.refl _)))
          have hPc := vP_l hPx
          have hDc := vD_l hDx
          have hKc := vK_l hKx
          have hFc := vfree hDx hS hA
          refine va_callv (va_runV (As := [.int v4_12, .int p3, .int o_4]) (rest := []) ⟨hx, hb, hml, hown, hts⟩ (kX1_setTake l dC dI (p0a := p0a) (p0k := p0k) (p0n := p0n) (p0w := p0w_12) (p0l := p0l) (p1 := v4_12) (p2 := p3) (p3 := o_4) (sz := _) (o := o_6) (hrun := hc_6)) (cwV 3 hts (gi_V qw590 qw318 qw319 qw126 (gi_z qw316)) rfl rfl rfl (by decide +kernel) ⟨Nat.le_of_ble_eq_true rfl, Nat.le_of_ble_eq_true rfl⟩) ⟨PRE.blind, va_recv hKc hPc (ci := 4) (q0 := 0) rfl rfl, PRE.of hE hS hFc hPc hKc hDc⟩ rfl rfl hl.1 rfl (lv_room (Nat.le_of_ble_eq_true rfl)) dX5_takeFrom_28 ⟨(Nat.le_of_ble_eq_true rfl), (Nat.le_of_ble_eq_true rfl)⟩) hS (fun q _ h => hFc q h) hFc (fun u t H locs ht hvm hw hB hz1 hk1 hS => ?_)
          obtain ⟨b1, b2, b3⟩ := hB
          rw [ht] at b1
          obtain ⟨hP, hD, hK⟩ := JOINC (wc := (List.flatten ([(oX1 (p0a 0) p0a p0k p0n p0w_12 p0l)] : List va_W))) (wr := (List.flatten ([] : List va_W))) (w1 := (List.flatten ([(oX1 (p0a 0) p0a p0k p0n o_6 p0l)] : List va_W))) (t1 := (List.flatten ([(tX1 p0k)] : List (List (ClassId × FieldType))))) hPx hDx hKx hk1 hFc b1 (va_K.moved hvm.symm b2) b3
          have hP : va_P (dC, dI) cls (List.flatten ([(oX1 (p0a 0) p0a p0k p0n o_6 p0l)] : List va_W)) H := vP_perm (vP_fb hP) (bP (List.Perm.refl _))
          have hD : va_D A (List.flatten ([(oX1 (p0a 0) p0a p0k p0n o_6 p0l)] : List va_W)) := vD_perm (vD_fb hD) (bP (List.Perm.refl _))
          have hK : va_K (dC, dI) cls (List.flatten ([(tX1 p0k)] : List (List (ClassId × FieldType)))) s := vK_perm (vK_fb hK) (bP (List.Perm.refl _))
          refine lv_aload_n hx hb dX5_takeFrom_31 rfl (lv_at hl 0 rfl) ?_
          refine va_get (D := (dC, dI)) (ci := 4) (v := .ref (p0a 20)) (C := RX1) (T := TX1) (N := 21) hx hb hts i_X1 hown hK hP 0 rfl rfl 19 (by decide) (hts _ qw433) (fun _ h9 => h9) rfl dX5_takeFrom_32 ?_
          refine lv_iload hx hb dX5_takeFrom_35 (lv_at hl 3 rfl) ?_
          obtain ⟨hq7, hrun⟩ := chk9 hrun
          refine va_iald hx hb hK hP 16 15 rfl rfl (ixb_in hq7) dX5_takeFrom_37 ?_
          refine lv_istore (lv' := [(4, .int (o_6 20 (nn v4_12))), (0, .ref (p0a 0)), (2, .int p2), (3, .int p3)]) hx hb dX5_takeFrom_38 hl (by decide) rfl (fun ls hl => ?_)
          refine lv_goto (tgt := 12) hx hb dX5_takeFrom_40 (by decide) ?_
          exact IH12 (o_6 20 (nn v4_12)) o_6 o12 _ _ _ hrun hP hD hK hS (lv_sub hl [1, 2, 3, 0] rfl) hk12
    obtain ⟨o12, hc12, hrun⟩ := bnd9 hrun
    refine L12 NF (p0w 6 (nn p1)) p0w o12 _ _ _ hc12 hP hD hK hS (lv_sub hl [1, 3, 4, 0] rfl) ?_
    intro H locs ls hP hD hK hS hl
    have hl := hl
    exact J43 o12 _ _ _ hrun hP hD hK hS (lv_sub hl [] rfl)
def fX5_mergeInto_L15 (p1n : Nat → Nat) (o_1 : Int32) (o_3 : Int32 × ST) : Nat → Int32 → ST → Option ST
  | 0 => fun _ _ => none
  | n_15 + 1 => fun v5_15 p0w_15 => (if v5_15 < 0 then some p0w_15 else (if ixb v5_15 (p1n 19) = true then ((fX1_take p1n (o_3.2) v5_15 o_1).bind fun (o_7 : Int32) => (if ixb (((o_3.2) 19) (nn v5_15)) 250 = true then (lt9 (upw p0w_15 6 (nn (((o_3.2) 19) (nn v5_15))) o_7) fun (w10 : ST) => (if ixb v5_15 (p1n 20) = true then ((fX5_mergeInto_L15 p1n o_1 o_3 n_15) (((o_3.2) 20) (nn v5_15)) w10) else none)) else none)) else none))
def fX5_mergeInto_L59 (p2 : Int32) (p1_2n : Nat → Nat) : Nat → Int32 → ST → ST → Option (ST × ST)
  | 0 => fun _ _ _ => none
  | n_59 + 1 => fun v6_59 p1w_59 p1_2w_59 => (if v6_59 < 0 then some (p1w_59, p1_2w_59) else (if ixb v6_59 (p1_2n 6) = true then ((fX1_link p1w_59 p2 v6_59 p1_2n p1_2w_59).bind fun (o_16 : ST × ST) => ((fX5_mergeInto_L59 p2 p1_2n n_59) (p1_2w_59 6 (nn v6_59)) (o_16.1) (o_16.2))) else none))
def fX5_mergeInto (p0w : ST) (p0l : SL) (p1n : Nat → Nat) (p1w : ST) (p2 : Int32) (p3 : Int32) (p1_2n : Nat → Nat) (p1_2w : ST) : Option (ST × SL × ST × ST) := ((fX1_wayFrom p1w p3 0).bind fun (o_1 : Int32) => ((fX1_takePhis p1w p3).bind fun (o_3 : Int32 × ST) => ((fX5_mergeInto_L15 p1n o_1 o_3 NF (o_3.1) p0w).bind fun (o15 : ST) => ((fX1_takeSteps (o_3.2) p3).bind fun (o_12 : Int32 × ST) => ((fX5_mergeInto_L59 p2 p1_2n NF (o_12.1) (o_12.2) p1_2w).bind fun (o59 : ST × ST) => (if ixb p3 60 = true then (if ixb p2 60 = true then (lt9 (upw (o59.1) 8 (nn p2) (((o59.1) 8) (nn p3))) fun (w19 : ST) => (if ixb p3 60 = true then (if ixb p2 60 = true then (lt9 (upw w19 9 (nn p2) (w19 9 (nn p3))) fun (w22 : ST) => (if ixb p3 60 = true then (if ixb p2 60 = true then (lt9 (upw w22 10 (nn p2) (w22 10 (nn p3))) fun (w25 : ST) => (if ixb p3 60 = true then (if ixb p2 60 = true then (lt9 (upw w25 11 (nn p2) (w25 11 (nn p3))) fun (w28 : ST) => (lt9 (upl p0l 0 7 ((p0l 0 7) &&& ((((1 : Int64) <<< ((p3 : Int32).toInt64 &&& 63))) ^^^ ((-1) : Int64)))) fun (l29 : SL) => (if ixb p2 60 = true then ((fX5_takeFrom p1n w28 (w28 10 (nn p2)) p3 p2).bind fun (o_31 : ST) => (if ixb p2 60 = true then ((fX5_takeFrom p1n o_31 (o_31 11 (nn p2)) p3 p2).bind fun (o_33 : ST) => some (o15, l29, o_33, (o59.2))) else none)) else none))) else none) else none)) else none) else none)) else none) else none)) else none) else none))))))
set_option maxHeartbeats 16000000 in
set_option maxRecDepth 100000 in
theorem kX5_mergeInto {zs : ZS} (l : Launch) (dC : Nat → ClassId) (dI : Nat → Nat → Nat) (p0a : Nat → Nat) (p0k : Nat → ClassId) (p0w : ST) (p0l : SL) (p1a : Nat → Nat) (p1k : Nat → ClassId) (p1n : Nat → Nat) (p1w : ST) (p1l : SL) (p2 : Int32) (p3 : Int32) (p1_2a : Nat → Nat) (p1_2k : Nat → ClassId) (p1_2n : Nat → Nat) (p1_2w : ST) (sz : Nat) (o : ST × SL × ST × ST) (hrun : fX5_mergeInto p0w p0l p1n p1w p2 p3 p1_2n p1_2w = some o) : Met l yX5_mergeInto (wz yX5_mergeInto cX5_mergeInto 7 (Option.none : Option Jvm.ClassFile.FieldType)) ({ frames := 2, cells := 0, slots := 0, locals := 47 } : Room) (va_Pc [.ref (p0a 0), .ref (p1a 0), .int p2, .int p3] (PRE zs dC dI (List.flatten ([(oX5 (p0a 0) p0a p0k p0w p0l), (oX1 (p1a 0) p1a p1k p1n p1w p1l), (oX9 (p1a 3) p1_2a p1_2k p1_2n p1_2w)] : List va_W)) (List.flatten ([(tX5 p0k), (tX1 p1k), (tX9 p1_2k)] : List (List (ClassId × FieldType)))) sz)) (va_Qv (fun (_ : Unit) => True) (fun _ t => POST dC dI (List.flatten ([(oX5 (p0a 0) p0a p0k (o.1) (o.2.1)), (oX1 (p1a 0) p1a p1k p1n (o.2.2.1) p1l), (oX9 (p1a 3) p1_2a p1_2k p1_2n (o.2.2.2))] : List va_W)) (List.flatten ([(tX5 p0k), (tX1 p1k), (tX9 p1_2k)] : List (List (ClassId × FieldType)))) (va_A (List.flatten ([(oX5 (p0a 0) p0a p0k p0w p0l), (oX1 (p1a 0) p1a p1k p1n p1w p1l), (oX9 (p1a 3) p1_2a p1_2k p1_2n p1_2w)] : List va_W)) sz) t) (va_A (List.flatten ([(oX5 (p0a 0) p0a p0k p0w p0l), (oX1 (p1a 0) p1a p1k p1n p1w p1l), (oX9 (p1a 3) p1_2a p1_2k p1_2n p1_2w)] : List va_W)) sz)) 0 0 (va_A (List.flatten ([(oX5 (p0a 0) p0a p0k p0w p0l), (oX1 (p1a 0) p1a p1k p1n p1w p1l), (oX9 (p1a 3) p1_2a p1_2k p1_2n p1_2w)] : List va_W)) sz) := by
  refine Met.ofW (cc := cX5_mergeInto) (maxL := 7) (ret := (Option.none : Option Jvm.ClassFile.FieldType)) (by decide) rfl ?_
  intro p e s m args below meth c s₁ B hml hv
  obtain ⟨rfl, hsz, hP, hK, hD0, hE⟩ := hv
  have hx := B.exec
  have hb := B.bytes
  have hr := B.returns
  have hts0 := atoms_spec (ws := wz yX5_mergeInto cX5_mergeInto 7 (Option.none : Option Jvm.ClassFile.FieldType)) B.pre
  have hts : ∀ w ∈ gw, w.before _ s = true := fun w h => hts0 w (List.mem_cons_of_mem _ h)
  have hown : s.vm.findClass RX5 = some m.cls := findClass_of_methodNamed B.named
  have hlocks := B.notSynchronized
  subst hsz
  have hD := hD0.self (sz := s.heap.size)
  refine gQ9 ?_
  intro Q hQ
  generalize hAe : va_A (List.flatten ([(oX5 (p0a 0) p0a p0k p0w p0l), (oX1 (p1a 0) p1a p1k p1n p1w p1l), (oX9 (p1a 3) p1_2a p1_2k p1_2n p1_2w)] : List va_W)) s.heap.size = A at hD hE hQ
  have hA : ∀ q : Nat, s.heap.size ≤ q → A q := fun q h => by rw [← hAe]; exact Or.inr h
  have hS : va_S A s.heap s.heap [] := va_S.rf
  have hP : va_P (dC, dI) cls (List.flatten ([(oX5 (p0a 0) p0a p0k p0w p0l), (oX1 (p1a 0) p1a p1k p1n p1w p1l), (oX9 (p1a 3) p1_2a p1_2k p1_2n p1_2w)] : List va_W)) s.heap := hP
  have hl := lv_entry ([.ref (p0a 0), .ref (p1a 0), .int p2, .int p3]) (n := 7) (Nat.le_of_ble_eq_true rfl)
  rw [lg_entry_eq]
  generalize (lg_sl ([.ref (p0a 0), .ref (p1a 0), .int p2, .int p3]) ++ List.replicate (7 - (lg_sl ([.ref (p0a 0), .ref (p1a 0), .int p2, .int p3])).length) Slot.unset).toArray = ls at hl ⊢
  have hl : lv_has ls 7 [(0, .ref (p0a 0)), (1, .ref (p1a 0)), (2, .int p2), (3, .int p3)] := hl
  obtain ⟨H, hHe⟩ : ∃ H, H = s.heap := ⟨_, rfl⟩
  obtain ⟨locs, hle⟩ : ∃ locs : List Loc, locs = [] := ⟨_, rfl⟩
  rw [← hHe] at hP
  have hS : va_S A s.heap H locs := by rw [hHe, hle]; exact hS
  show W p l e ({ frames := 2, cells := 0, slots := 0, locals := 47 } : Room) s m ([.ref (p0a 0), .ref (p1a 0), .int p2, .int p3] : List Value).toArray below meth c s.heap [] 0 0 Q (F0 m 0 ls [])
  rw [← hle]
  refine wH9 hHe ?_
  unfold fX5_mergeInto at hrun
  refine lv_aload_n hx hb dX5_mergeInto_0 rfl (lv_at hl 1 rfl) ?_
  refine lv_iload_n hx hb dX5_mergeInto_1 rfl (lv_at hl 3 rfl) ?_
  refine lv_iconst (v := 0) hx hb dX5_mergeInto_2 (by decide) ?_
  obtain ⟨o_1, hc_1, hrun⟩ := bnd9 hrun
  have hPx : va_P (dC, dI) cls ((List.flatten ([(oX1 (p1a 0) p1a p1k p1n p1w p1l)] : List va_W)) ++ (List.flatten ([(oX5 (p0a 0) p0a p0k p0w p0l), (oX9 (p1a 3) p1_2a p1_2k p1_2n p1_2w)] : List va_W))) H := vP_fa (vP_perm hP (bP ((((List.Perm.refl _)).cons _).trans (List.Perm.swap _ _ _))))
  have hDx : va_D A ((List.flatten ([(oX1 (p1a 0) p1a p1k p1n p1w p1l)] : List va_W)) ++ (List.flatten ([(oX5 (p0a 0) p0a p0k p0w p0l), (oX9 (p1a 3) p1_2a p1_2k p1_2n p1_2w)] : List va_W))) := vD_fa (vD_perm hD (bP ((((List.Perm.refl _)).cons _).trans (List.Perm.swap _ _ _))))
  have hKx : va_K (dC, dI) cls ((List.flatten ([(tX1 p1k)] : List (List (ClassId × FieldType)))) ++ (List.flatten ([(tX5 p0k), (tX9 p1_2k)] : List (List (ClassId × FieldType))))) s := vK_fa (vK_perm hK (bP ((((List.Perm.refl _)).cons _).trans (List.Perm.swap _ _ _))))
  have hPc := vP_l hPx
  have hDc := vD_l hDx
  have hKc := vK_l hKx
  have hFc := vfree hDx hS hA
  refine va_calli (va_runV (As := [.int p3, .int 0]) (rest := []) ⟨hx, hb, hml, hown, hts⟩ (kX1_wayFrom l dC dI (p0a := p1a) (p0k := p1k) (p0n := p1n) (p0w := p1w) (p0l := p1l) (p1 := p3) (p2 := 0) (sz := _) (o := o_1) (hrun := hc_1)) (cwV 2 hts (gi_V qw424 qw189 qw190 qw126 (gi_z qw187)) rfl rfl rfl (by decide +kernel) ⟨Nat.le_of_ble_eq_true rfl, Nat.le_of_ble_eq_true rfl⟩) ⟨PRE.blind, va_recv hKc hPc (ci := 4) (q0 := 0) rfl rfl, PRE.of hE hS hFc hPc hKc hDc⟩ rfl rfl hl.1 rfl (lv_room (Nat.le_of_ble_eq_true rfl)) dX5_mergeInto_3 ⟨(Nat.le_of_ble_eq_true rfl), (Nat.le_of_ble_eq_true rfl)⟩) hS (fun q _ h => hFc q h) hFc (fun r2 u t H locs ht hvm hw hB hz1 hk1 hS => ?_)
  obtain ⟨b1, b2, b3⟩ := hB
  rw [ht] at b1
  obtain ⟨hP, hD, hK⟩ := JOINC (wc := (List.flatten ([(oX1 (p1a 0) p1a p1k p1n p1w p1l)] : List va_W))) (wr := (List.flatten ([(oX5 (p0a 0) p0a p0k p0w p0l), (oX9 (p1a 3) p1_2a p1_2k p1_2n p1_2w)] : List va_W))) (w1 := (List.flatten ([(oX1 (p1a 0) p1a p1k p1n p1w p1l)] : List va_W))) (t1 := (List.flatten ([(tX1 p1k)] : List (List (ClassId × FieldType))))) hPx hDx hKx hk1 hFc b1 (va_K.moved hvm.symm b2) b3
  have hP : va_P (dC, dI) cls (List.flatten ([(oX5 (p0a 0) p0a p0k p0w p0l), (oX1 (p1a 0) p1a p1k p1n p1w p1l), (oX9 (p1a 3) p1_2a p1_2k p1_2n p1_2w)] : List va_W)) H := vP_perm (vP_fb hP) (bP ((((List.Perm.refl _)).cons _).trans (List.Perm.swap _ _ _)))
  have hD : va_D A (List.flatten ([(oX5 (p0a 0) p0a p0k p0w p0l), (oX1 (p1a 0) p1a p1k p1n p1w p1l), (oX9 (p1a 3) p1_2a p1_2k p1_2n p1_2w)] : List va_W)) := vD_perm (vD_fb hD) (bP ((((List.Perm.refl _)).cons _).trans (List.Perm.swap _ _ _)))
  have hK : va_K (dC, dI) cls (List.flatten ([(tX5 p0k), (tX1 p1k), (tX9 p1_2k)] : List (List (ClassId × FieldType)))) s := vK_perm (vK_fb hK) (bP ((((List.Perm.refl _)).cons _).trans (List.Perm.swap _ _ _)))
  obtain rfl : o_1 = r2 := hw.symm
  refine lv_istore (lv' := [(4, .int o_1), (0, .ref (p0a 0)), (1, .ref (p1a 0)), (2, .int p2), (3, .int p3)]) hx hb dX5_mergeInto_6 hl (by decide) rfl (fun ls hl => ?_)
  refine lv_aload_n hx hb dX5_mergeInto_8 rfl (lv_at hl 2 rfl) ?_
  refine lv_iload_n hx hb dX5_mergeInto_9 rfl (lv_at hl 4 rfl) ?_
  obtain ⟨o_3, hc_3, hrun⟩ := bnd9 hrun
  have hPx : va_P (dC, dI) cls ((List.flatten ([(oX1 (p1a 0) p1a p1k p1n p1w p1l)] : List va_W)) ++ (List.flatten ([(oX5 (p0a 0) p0a p0k p0w p0l), (oX9 (p1a 3) p1_2a p1_2k p1_2n p1_2w)] : List va_W))) H := vP_fa (vP_perm hP (bP ((((List.Perm.refl _)).cons _).trans (List.Perm.swap _ _ _))))
  have hDx : va_D A ((List.flatten ([(oX1 (p1a 0) p1a p1k p1n p1w p1l)] : List va_W)) ++ (List.flatten ([(oX5 (p0a 0) p0a p0k p0w p0l), (oX9 (p1a 3) p1_2a p1_2k p1_2n p1_2w)] : List va_W))) := vD_fa (vD_perm hD (bP ((((List.Perm.refl _)).cons _).trans (List.Perm.swap _ _ _))))
  have hKx : va_K (dC, dI) cls ((List.flatten ([(tX1 p1k)] : List (List (ClassId × FieldType)))) ++ (List.flatten ([(tX5 p0k), (tX9 p1_2k)] : List (List (ClassId × FieldType))))) s := vK_fa (vK_perm hK (bP ((((List.Perm.refl _)).cons _).trans (List.Perm.swap _ _ _))))
  have hPc := vP_l hPx
  have hDc := vD_l hDx
  have hKc := vK_l hKx
  have hFc := vfree hDx hS hA
  refine va_calli (va_runV (As := [.int p3]) (rest := []) ⟨hx, hb, hml, hown, hts⟩ (kX1_takePhis l dC dI (p0a := p1a) (p0k := p1k) (p0n := p1n) (p0w := p1w) (p0l := p1l) (p1 := p3) (sz := _) (o := o_3) (hrun := hc_3)) (cwV 1 hts (gi_V qw489 qw175 qw176 qw126 (gi_z qw173)) rfl rfl rfl (by decide +kernel) ⟨Nat.le_of_ble_eq_true rfl, Nat.le_of_ble_eq_true rfl⟩) ⟨PRE.blind, va_recv hKc hPc (ci := 4) (q0 := 0) rfl rfl, PRE.of hE hS hFc hPc hKc hDc⟩ rfl rfl hl.1 rfl (lv_room (Nat.le_of_ble_eq_true rfl)) dX5_mergeInto_10 ⟨(Nat.le_of_ble_eq_true rfl), (Nat.le_of_ble_eq_true rfl)⟩) hS (fun q _ h => hFc q h) hFc (fun r4 u t H locs ht hvm hw hB hz1 hk1 hS => ?_)
  obtain ⟨b1, b2, b3⟩ := hB
  rw [ht] at b1
  obtain ⟨hP, hD, hK⟩ := JOINC (wc := (List.flatten ([(oX1 (p1a 0) p1a p1k p1n p1w p1l)] : List va_W))) (wr := (List.flatten ([(oX5 (p0a 0) p0a p0k p0w p0l), (oX9 (p1a 3) p1_2a p1_2k p1_2n p1_2w)] : List va_W))) (w1 := (List.flatten ([(oX1 (p1a 0) p1a p1k p1n (o_3.2) p1l)] : List va_W))) (t1 := (List.flatten ([(tX1 p1k)] : List (List (ClassId × FieldType))))) hPx hDx hKx hk1 hFc b1 (va_K.moved hvm.symm b2) b3
  have hP : va_P (dC, dI) cls (List.flatten ([(oX5 (p0a 0) p0a p0k p0w p0l), (oX1 (p1a 0) p1a p1k p1n (o_3.2) p1l), (oX9 (p1a 3) p1_2a p1_2k p1_2n p1_2w)] : List va_W)) H := vP_perm (vP_fb hP) (bP ((((List.Perm.refl _)).cons _).trans (List.Perm.swap _ _ _)))
  have hD : va_D A (List.flatten ([(oX5 (p0a 0) p0a p0k p0w p0l), (oX1 (p1a 0) p1a p1k p1n (o_3.2) p1l), (oX9 (p1a 3) p1_2a p1_2k p1_2n p1_2w)] : List va_W)) := vD_perm (vD_fb hD) (bP ((((List.Perm.refl _)).cons _).trans (List.Perm.swap _ _ _)))
  have hK : va_K (dC, dI) cls (List.flatten ([(tX5 p0k), (tX1 p1k), (tX9 p1_2k)] : List (List (ClassId × FieldType)))) s := vK_perm (vK_fb hK) (bP ((((List.Perm.refl _)).cons _).trans (List.Perm.swap _ _ _)))
  obtain rfl : r4 = (o_3.1) := hw
  refine lv_istore (lv' := [(5, .int (o_3.1)), (4, .int o_1), (0, .ref (p0a 0)), (1, .ref (p1a 0)), (2, .int p2), (3, .int p3)]) hx hb dX5_mergeInto_13 hl (by decide) rfl (fun ls hl => ?_)
  have L15 : ∀ (n_15 : Nat) (v5_15 : Int32) (p0w_15 : ST) (o15 : ST) (H : Heap) (locs : List Loc) (ls : Array Slot), (fX5_mergeInto_L15 p1n o_1 o_3 n_15) v5_15 p0w_15 = some o15 → va_P (dC, dI) cls (List.flatten ([(oX5 (p0a 0) p0a p0k p0w_15 p0l), (oX1 (p1a 0) p1a p1k p1n (o_3.2) p1l), (oX9 (p1a 3) p1_2a p1_2k p1_2n p1_2w)] : List va_W)) H → va_D A (List.flatten ([(oX5 (p0a 0) p0a p0k p0w_15 p0l), (oX1 (p1a 0) p1a p1k p1n (o_3.2) p1l), (oX9 (p1a 3) p1_2a p1_2k p1_2n p1_2w)] : List va_W)) → va_K (dC, dI) cls (List.flatten ([(tX5 p0k), (tX1 p1k), (tX9 p1_2k)] : List (List (ClassId × FieldType)))) s → va_S A s.heap H locs → lv_has ls 7 [(0, .ref (p0a 0)), (1, .ref (p1a 0)), (2, .int p2), (3, .int p3), (4, .int o_1), (5, .int v5_15)] → (∀ (H : Heap) (locs : List Loc) (ls : Array Slot), va_P (dC, dI) cls (List.flatten ([(oX5 (p0a 0) p0a p0k o15 p0l), (oX1 (p1a 0) p1a p1k p1n (o_3.2) p1l), (oX9 (p1a 3) p1_2a p1_2k p1_2n p1_2w)] : List va_W)) H → va_D A (List.flatten ([(oX5 (p0a 0) p0a p0k o15 p0l), (oX1 (p1a 0) p1a p1k p1n (o_3.2) p1l), (oX9 (p1a 3) p1_2a p1_2k p1_2n p1_2w)] : List va_W)) → va_K (dC, dI) cls (List.flatten ([(tX5 p0k), (tX1 p1k), (tX9 p1_2k)] : List (List (ClassId × FieldType)))) s → va_S A s.heap H locs → lv_has ls 7 [(0, .ref (p0a 0)), (1, .ref (p1a 0)), (2, .int p2), (3, .int p3)] → W p l e ({ frames := 2, cells := 0, slots := 0, locals := 47 } : Room) s m ([.ref (p0a 0), .ref (p1a 0), .int p2, .int p3] : List Value).toArray below meth c H locs 0 0 Q (F0 m 52 ls [])) → W p l e ({ frames := 2, cells := 0, slots := 0, locals := 47 } : Room) s m ([.ref (p0a 0), .ref (p1a 0), .int p2, .int p3] : List Value).toArray below meth c H locs 0 0 Q (F0 m 15 ls []) := by
    intro n_15
    induction n_15 with
    | zero => intro v5_15 p0w_15 o15 H locs ls hrun; exact (no9 rfl hrun).elim
    | succ n_15 IH15 =>
      intro v5_15 p0w_15 o15 H locs ls hrun hP hD hK hS hl hk15
      unfold fX5_mergeInto_L15 at hrun
      refine lv_iload hx hb dX5_mergeInto_15 (lv_at hl 5 rfl) ?_
      rcases br9 hrun with ⟨hc5, hrun⟩ | ⟨hc5, hrun⟩
      · refine lv_if_lt (tgt := 52) hx hb dX5_mergeInto_17 (by decide) (fun _ => ?_) (fun c => absurd hc5 c)
        obtain rfl := (Option.some.inj hrun)
        exact hk15 _ _ _ hP hD hK hS (lv_sub hl [0, 1, 2, 3] rfl)
      · refine lv_if_lt (tgt := 52) hx hb dX5_mergeInto_17 (by decide) (fun c => absurd c hc5) (fun _ => ?_)
        refine lv_aload_n hx hb dX5_mergeInto_20 rfl (lv_at hl 0 rfl) ?_
        refine va_get (D := (dC, dI)) (ci := 7) (v := .ref (p0a 6)) (C := RX5) (T := TX5) (N := 12) hx hb hts i_X5 hown hK hP 0 rfl rfl 5 (by decide) (hts _ qw539) (fun _ h9 => h9) rfl dX5_mergeInto_21 ?_
        refine lv_aload_n hx hb dX5_mergeInto_24 rfl (lv_at hl 1 rfl) ?_
        refine va_get (D := (dC, dI)) (ci := 4) (v := .ref (p1a 19)) (C := RX1) (T := TX1) (N := 21) hx hb hts i_X1 hown hK hP 10 rfl rfl 18 (by decide) (hts _ qw432) (fun _ h9 => h9) rfl dX5_mergeInto_25 ?_
        refine lv_iload hx hb dX5_mergeInto_28 (lv_at hl 5 rfl) ?_
        obtain ⟨hq6, hrun⟩ := chk9 hrun
        refine va_iald hx hb hK hP 25 23 rfl rfl (ixb_in hq6) dX5_mergeInto_30 ?_
        refine lv_aload_n hx hb dX5_mergeInto_31 rfl (lv_at hl 1 rfl) ?_
        refine lv_iload hx hb dX5_mergeInto_32 (lv_at hl 5 rfl) ?_
        refine lv_iload hx hb dX5_mergeInto_34 (lv_at hl 4 rfl) ?_
        obtain ⟨o_7, hc_7, hrun⟩ := bnd9 hrun
        have hPx : va_P (dC, dI) cls ((List.flatten ([(oX1 (p1a 0) p1a p1k p1n (o_3.2) p1l)] : List va_W)) ++ (List.flatten ([(oX5 (p0a 0) p0a p0k p0w_15 p0l), (oX9 (p1a 3) p1_2a p1_2k p1_2n p1_2w)] : List va_W))) H := vP_fa (vP_perm hP (bP ((((List.Perm.refl _)).cons _).trans (List.Perm.swap _ _ _))))
        have hDx : va_D A ((List.flatten ([(oX1 (p1a 0) p1a p1k p1n (o_3.2) p1l)] : List va_W)) ++ (List.flatten ([(oX5 (p0a 0) p0a p0k p0w_15 p0l), (oX9 (p1a 3) p1_2a p1_2k p1_2n p1_2w)] : List va_W))) := vD_fa (vD_perm hD (bP ((((List.Perm.refl _)).cons _).trans (List.Perm.swap _ _ _))))
        have hKx : va_K (dC, dI) cls ((List.flatten ([(tX1 p1k)] : List (List (ClassId × FieldType)))) ++ (List.flatten ([(tX5 p0k), (tX9 p1_2k)] : List (List (ClassId × FieldType))))) s := vK_fa (vK_perm hK (bP ((((List.Perm.refl _)).cons _).trans (List.Perm.swap _ _ _))))
        have hPc := vP_l hPx
        have hDc := vD_l hDx
        have hKc := vK_l hKx
        have hFc := vfree hDx hS hA
        refine va_calli (va_runV (As := [.int v5_15, .int o_1]) (rest := [.int (((o_3.2) 19) (nn v5_15)), .ref (p0a 6)]) ⟨hx, hb, hml, hown, hts⟩ (kX1_take l dC dI (p0a := p1a) (p0k := p1k) (p0n := p1n) (p0w := (o_3.2)) (p0l := p1l) (p1 := v5_15) (p2 := o_1) (sz := _) (o := o_7) (hrun := hc_7)) (cwV 2 hts (gi_V qw469 qw470 qw471 qw126 (gi_z qw468)) rfl rfl rfl (by decide +kernel) ⟨Nat.le_of_ble_eq_true rfl, Nat.le_of_ble_eq_true rfl⟩) ⟨PRE.blind, va_recv hKc hPc (ci := 4) (q0 := 0) rfl rfl, PRE.of hE hS hFc hPc hKc hDc⟩ rfl rfl hl.1 rfl (lv_room (Nat.le_of_ble_eq_true rfl)) dX5_mergeInto_36 ⟨(Nat.le_of_ble_eq_true rfl), (Nat.le_of_ble_eq_true rfl)⟩) hS (fun q _ h => hFc q h) hFc (fun r8 u t H locs ht hvm hw hB hz1 hk1 hS => ?_)
        obtain ⟨b1, b2, b3⟩ := hB
        rw [ht] at b1
        obtain ⟨hP, hD, hK⟩ := JOINC (wc := (List.flatten ([(oX1 (p1a 0) p1a p1k p1n (o_3.2) p1l)] : List va_W))) (wr := (List.flatten ([(oX5 (p0a 0) p0a p0k p0w_15 p0l), (oX9 (p1a 3) p1_2a p1_2k p1_2n p1_2w)] : List va_W))) (w1 := (List.flatten ([(oX1 (p1a 0) p1a p1k p1n (o_3.2) p1l)] : List va_W))) (t1 := (List.flatten ([(tX1 p1k)] : List (List (ClassId × FieldType))))) hPx hDx hKx hk1 hFc b1 (va_K.moved hvm.symm b2) b3
        have hP : va_P (dC, dI) cls (List.flatten ([(oX5 (p0a 0) p0a p0k p0w_15 p0l), (oX1 (p1a 0) p1a p1k p1n (o_3.2) p1l), (oX9 (p1a 3) p1_2a p1_2k p1_2n p1_2w)] : List va_W)) H := vP_perm (vP_fb hP) (bP ((((List.Perm.refl _)).cons _).trans (List.Perm.swap _ _ _)))
        have hD : va_D A (List.flatten ([(oX5 (p0a 0) p0a p0k p0w_15 p0l), (oX1 (p1a 0) p1a p1k p1n (o_3.2) p1l), (oX9 (p1a 3) p1_2a p1_2k p1_2n p1_2w)] : List va_W)) := vD_perm (vD_fb hD) (bP ((((List.Perm.refl _)).cons _).trans (List.Perm.swap _ _ _)))
        have hK : va_K (dC, dI) cls (List.flatten ([(tX5 p0k), (tX1 p1k), (tX9 p1_2k)] : List (List (ClassId × FieldType)))) s := vK_perm (vK_fb hK) (bP ((((List.Perm.refl _)).cons _).trans (List.Perm.swap _ _ _)))
        obtain rfl : o_7 = r8 := hw.symm
        obtain ⟨hq9, hrun⟩ := chk9 hrun
        refine va_iast hx hb hK hP hD hS 5 4 rfl rfl (ixb_in hq9) dX5_mergeInto_39 (fun H locs hP hD hS => ?_)
        have hP : va_P (dC, dI) cls (List.flatten ([(oX5 (p0a 0) p0a p0k (upw p0w_15 6 (nn (((o_3.2) 19) (nn v5_15))) o_7) p0l), (oX1 (p1a 0) p1a p1k p1n (o_3.2) p1l), (oX9 (p1a 3) p1_2a p1_2k p1_2n p1_2w)] : List va_W)) H := hP
        have hD : va_D A (List.flatten ([(oX5 (p0a 0) p0a p0k (upw p0w_15 6 (nn (((o_3.2) 19) (nn v5_15))) o_7) p0l), (oX1 (p1a 0) p1a p1k p1n (o_3.2) p1l), (oX9 (p1a 3) p1_2a p1_2k p1_2n p1_2w)] : List va_W)) := hD
        obtain ⟨w10, ew10, hrun⟩ := let9 hrun
        rw [← ew10] at hP hD
        refine lv_aload_n hx hb dX5_mergeInto_40 rfl (lv_at hl 1 rfl) ?_
        refine va_get (D := (dC, dI)) (ci := 4) (v := .ref (p1a 20)) (C := RX1) (T := TX1) (N := 21) hx hb hts i_X1 hown hK hP 10 rfl rfl 19 (by decide) (hts _ qw433) (fun _ h9 => h9) rfl dX5_mergeInto_41 ?_
        refine lv_iload hx hb dX5_mergeInto_44 (lv_at hl 5 rfl) ?_
        obtain ⟨hq11, hrun⟩ := chk9 hrun
        refine va_iald hx hb hK hP 26 24 rfl rfl (ixb_in hq11) dX5_mergeInto_46 ?_
        refine lv_istore (lv' := [(5, .int (((o_3.2) 20) (nn v5_15))), (0, .ref (p0a 0)), (1, .ref (p1a 0)), (2, .int p2), (3, .int p3), (4, .int o_1)]) hx hb dX5_mergeInto_47 hl (by decide) rfl (fun ls hl => ?_)
        refine lv_goto (tgt := 15) hx hb dX5_mergeInto_49 (by decide) ?_
        exact IH15 (((o_3.2) 20) (nn v5_15)) w10 o15 _ _ _ hrun hP hD hK hS (lv_sub hl [1, 2, 3, 4, 5, 0] rfl) hk15
  obtain ⟨o15, hc15, hrun⟩ := bnd9 hrun
  refine L15 NF (o_3.1) p0w o15 _ _ _ hc15 hP hD hK hS (lv_sub hl [2, 3, 4, 5, 1, 0] rfl) ?_
  intro H locs ls hP hD hK hS hl
  have hl := hl
  refine lv_aload_n hx hb dX5_mergeInto_52 rfl (lv_at hl 1 rfl) ?_
  refine lv_iload_n hx hb dX5_mergeInto_53 rfl (lv_at hl 3 rfl) ?_
  obtain ⟨o_12, hc_12, hrun⟩ := bnd9 hrun
  have hPx : va_P (dC, dI) cls ((List.flatten ([(oX1 (p1a 0) p1a p1k p1n (o_3.2) p1l)] : List va_W)) ++ (List.flatten ([(oX5 (p0a 0) p0a p0k o15 p0l), (oX9 (p1a 3) p1_2a p1_2k p1_2n p1_2w)] : List va_W))) H := vP_fa (vP_perm hP (bP ((((List.Perm.refl _)).cons _).trans (List.Perm.swap _ _ _))))
  have hDx : va_D A ((List.flatten ([(oX1 (p1a 0) p1a p1k p1n (o_3.2) p1l)] : List va_W)) ++ (List.flatten ([(oX5 (p0a 0) p0a p0k o15 p0l), (oX9 (p1a 3) p1_2a p1_2k p1_2n p1_2w)] : List va_W))) := vD_fa (vD_perm hD (bP ((((List.Perm.refl _)).cons _).trans (List.Perm.swap _ _ _))))
  have hKx : va_K (dC, dI) cls ((List.flatten ([(tX1 p1k)] : List (List (ClassId × FieldType)))) ++ (List.flatten ([(tX5 p0k), (tX9 p1_2k)] : List (List (ClassId × FieldType))))) s := vK_fa (vK_perm hK (bP ((((List.Perm.refl _)).cons _).trans (List.Perm.swap _ _ _))))
  have hPc := vP_l hPx
  have hDc := vD_l hDx
  have hKc := vK_l hKx
  have hFc := vfree hDx hS hA
  refine va_calli (va_runV (As := [.int p3]) (rest := []) ⟨hx, hb, hml, hown, hts⟩ (kX1_takeSteps l dC dI (p0a := p1a) (p0k := p1k) (p0n := p1n) (p0w := (o_3.2)) (p0l := p1l) (p1 := p3) (sz := _) (o := o_12) (hrun := hc_12)) (cwV 1 hts (gi_V qw488 qw179 qw180 qw126 (gi_z qw177)) rfl rfl rfl (by decide +kernel) ⟨Nat.le_of_ble_eq_true rfl, Nat.le_of_ble_eq_true rfl⟩) ⟨PRE.blind, va_recv hKc hPc (ci := 4) (q0 := 0) rfl rfl, PRE.of hE hS hFc hPc hKc hDc⟩ rfl rfl hl.1 rfl (lv_room (Nat.le_of_ble_eq_true rfl)) dX5_mergeInto_54 ⟨(Nat.le_of_ble_eq_true rfl), (Nat.le_of_ble_eq_true rfl)⟩) hS (fun q _ h => hFc q h) hFc (fun r13 u t H locs ht hvm hw hB hz1 hk1 hS => ?_)
  obtain ⟨b1, b2, b3⟩ := hB
  rw [ht] at b1
  obtain ⟨hP, hD, hK⟩ := JOINC (wc := (List.flatten ([(oX1 (p1a 0) p1a p1k p1n (o_3.2) p1l)] : List va_W))) (wr := (List.flatten ([(oX5 (p0a 0) p0a p0k o15 p0l), (oX9 (p1a 3) p1_2a p1_2k p1_2n p1_2w)] : List va_W))) (w1 := (List.flatten ([(oX1 (p1a 0) p1a p1k p1n (o_12.2) p1l)] : List va_W))) (t1 := (List.flatten ([(tX1 p1k)] : List (List (ClassId × FieldType))))) hPx hDx hKx hk1 hFc b1 (va_K.moved hvm.symm b2) b3
  have hP : va_P (dC, dI) cls (List.flatten ([(oX5 (p0a 0) p0a p0k o15 p0l), (oX1 (p1a 0) p1a p1k p1n (o_12.2) p1l), (oX9 (p1a 3) p1_2a p1_2k p1_2n p1_2w)] : List va_W)) H := vP_perm (vP_fb hP) (bP ((((List.Perm.refl _)).cons _).trans (List.Perm.swap _ _ _)))
  have hD : va_D A (List.flatten ([(oX5 (p0a 0) p0a p0k o15 p0l), (oX1 (p1a 0) p1a p1k p1n (o_12.2) p1l), (oX9 (p1a 3) p1_2a p1_2k p1_2n p1_2w)] : List va_W)) := vD_perm (vD_fb hD) (bP ((((List.Perm.refl _)).cons _).trans (List.Perm.swap _ _ _)))
  have hK : va_K (dC, dI) cls (List.flatten ([(tX5 p0k), (tX1 p1k), (tX9 p1_2k)] : List (List (ClassId × FieldType)))) s := vK_perm (vK_fb hK) (bP ((((List.Perm.refl _)).cons _).trans (List.Perm.swap _ _ _)))
  obtain rfl : r13 = (o_12.1) := hw
  refine lv_istore (lv' := [(6, .int (o_12.1)), (0, .ref (p0a 0)), (1, .ref (p1a 0)), (2, .int p2), (3, .int p3)]) hx hb dX5_mergeInto_57 hl (by decide) rfl (fun ls hl => ?_)
  have L59 : ∀ (n_59 : Nat) (v6_59 : Int32) (p1w_59 : ST) (p1_2w_59 : ST) (o59 : ST × ST) (H : Heap) (locs : List Loc) (ls : Array Slot), (fX5_mergeInto_L59 p2 p1_2n n_59) v6_59 p1w_59 p1_2w_59 = some o59 → va_P (dC, dI) cls (List.flatten ([(oX5 (p0a 0) p0a p0k o15 p0l), (oX1 (p1a 0) p1a p1k p1n p1w_59 p1l), (oX9 (p1a 3) p1_2a p1_2k p1_2n p1_2w_59)] : List va_W)) H → va_D A (List.flatten ([(oX5 (p0a 0) p0a p0k o15 p0l), (oX1 (p1a 0) p1a p1k p1n p1w_59 p1l), (oX9 (p1a 3) p1_2a p1_2k p1_2n p1_2w_59)] : List va_W)) → va_K (dC, dI) cls (List.flatten ([(tX5 p0k), (tX1 p1k), (tX9 p1_2k)] : List (List (ClassId × FieldType)))) s → va_S A s.heap H locs → lv_has ls 7 [(0, .ref (p0a 0)), (1, .ref (p1a 0)), (2, .int p2), (3, .int p3), (6, .int v6_59)] → (∀ (H : Heap) (locs : List Loc) (ls : Array Slot), va_P (dC, dI) cls (List.flatten ([(oX5 (p0a 0) p0a p0k o15 p0l), (oX1 (p1a 0) p1a p1k p1n (o59.1) p1l), (oX9 (p1a 3) p1_2a p1_2k p1_2n (o59.2))] : List va_W)) H → va_D A (List.flatten ([(oX5 (p0a 0) p0a p0k o15 p0l), (oX1 (p1a 0) p1a p1k p1n (o59.1) p1l), (oX9 (p1a 3) p1_2a p1_2k p1_2n (o59.2))] : List va_W)) → va_K (dC, dI) cls (List.flatten ([(tX5 p0k), (tX1 p1k), (tX9 p1_2k)] : List (List (ClassId × FieldType)))) s → va_S A s.heap H locs → lv_has ls 7 [(0, .ref (p0a 0)), (1, .ref (p1a 0)), (2, .int p2), (3, .int p3)] → W p l e ({ frames := 2, cells := 0, slots := 0, locals := 47 } : Room) s m ([.ref (p0a 0), .ref (p1a 0), .int p2, .int p3] : List Value).toArray below meth c H locs 0 0 Q (F0 m 90 ls [])) → W p l e ({ frames := 2, cells := 0, slots := 0, locals := 47 } : Room) s m ([.ref (p0a 0), .ref (p1a 0), .int p2, .int p3] : List Value).toArray below meth c H locs 0 0 Q (F0 m 59 ls []) := by
    intro n_59
    induction n_59 with
    | zero => intro v6_59 p1w_59 p1_2w_59 o59 H locs ls hrun; exact (no9 rfl hrun).elim
    | succ n_59 IH59 =>
      intro v6_59 p1w_59 p1_2w_59 o59 H locs ls hrun hP hD hK hS hl hk59
      unfold fX5_mergeInto_L59 at hrun
      refine lv_iload hx hb dX5_mergeInto_59 (lv_at hl 4 rfl) ?_
      rcases br9 hrun with ⟨hc14, hrun⟩ | ⟨hc14, hrun⟩
      · refine lv_if_lt (tgt := 90) hx hb dX5_mergeInto_61 (by decide) (fun _ => ?_) (fun c => absurd hc14 c)
        obtain rfl := (Option.some.inj hrun)
        exact hk59 _ _ _ hP hD hK hS (lv_sub hl [0, 1, 2, 3] rfl)
      · refine lv_if_lt (tgt := 90) hx hb dX5_mergeInto_61 (by decide) (fun c => absurd c hc14) (fun _ => ?_)
        refine lv_aload_n hx hb dX5_mergeInto_64 rfl (lv_at hl 1 rfl) ?_
        refine va_get (D := (dC, dI)) (ci := 4) (v := .ref (p1a 3)) (C := RX1) (T := TX1) (N := 21) hx hb hts i_X1 hown hK hP 10 rfl rfl 2 (by decide) (hts _ qw435) (fun _ h9 => h9) rfl dX5_mergeInto_65 ?_
        refine va_get (D := (dC, dI)) (ci := 3) (v := .ref (p1_2a 6)) (C := RX9) (T := TX9) (N := 6) hx hb hts i_X9 hown hK hP 28 rfl rfl 5 (by decide) (hts _ qw437) (fun _ h9 => h9) rfl dX5_mergeInto_68 ?_
        refine lv_iload hx hb dX5_mergeInto_71 (lv_at hl 4 rfl) ?_
        obtain ⟨hq15, hrun⟩ := chk9 hrun
        refine va_iald hx hb hK hP 33 30 rfl rfl (ixb_in hq15) dX5_mergeInto_73 ?_
        refine lv_istore (lv' := [(5, .int (p1_2w_59 6 (nn v6_59))), (0, .ref (p0a 0)), (1, .ref (p1a 0)), (2, .int p2), (3, .int p3), (6, .int v6_59)]) hx hb dX5_mergeInto_74 hl (by decide) rfl (fun ls hl => ?_)
        refine lv_aload_n hx hb dX5_mergeInto_76 rfl (lv_at hl 2 rfl) ?_
        refine lv_iload_n hx hb dX5_mergeInto_77 rfl (lv_at hl 3 rfl) ?_
        refine lv_iload hx hb dX5_mergeInto_78 (lv_at hl 5 rfl) ?_
        obtain ⟨o_16, hc_16, hrun⟩ := bnd9 hrun
        have hPx : va_P (dC, dI) cls ((List.flatten ([(oX1 (p1a 0) p1a p1k p1n p1w_59 p1l), (oX9 (p1a 3) p1_2a p1_2k p1_2n p1_2w_59)] : List va_W)) ++ (List.flatten ([(oX5 (p0a 0) p0a p0k o15 p0l)] : List va_W))) H := vP_fa (vP_perm hP (bP ((((((List.Perm.refl _)).cons _).trans (List.Perm.swap _ _ _))).trans ((((((List.Perm.refl _)).cons _).trans (List.Perm.swap _ _ _))).cons _))))
        have hDx : va_D A ((List.flatten ([(oX1 (p1a 0) p1a p1k p1n p1w_59 p1l), (oX9 (p1a 3) p1_2a p1_2k p1_2n p1_2w_59)] : List va_W)) ++ (List.flatten ([(oX5 (p0a 0) p0a p0k o15 p0l)] : List va_W))) := vD_fa (vD_perm hD (bP ((((((List.Perm.refl _)).cons _).trans (List.Perm.swap _ _ _))).trans ((((((List.Perm.refl _)).cons _).trans (List.Perm.swap _ _ _))).cons _))))
        have hKx : va_K (dC, dI) cls ((List.flatten ([(tX1 p1k), (tX9 p1_2k)] : List (List (ClassId × FieldType)))) ++ (List.flatten ([(tX5 p0k)] : List (List (ClassId × FieldType))))) s := vK_fa (vK_perm hK (bP ((((((List.Perm.refl _)).cons _).trans (List.Perm.swap _ _ _))).trans ((((((List.Perm.refl _)).cons _).trans (List.Perm.swap _ _ _))).cons _))))
        have hPc := vP_l hPx
        have hDc := vD_l hDx
        have hKc := vK_l hKx
        have hFc := vfree hDx hS hA
        refine va_callv (va_runV (As := [.int p2, .int v6_59]) (rest := []) ⟨hx, hb, hml, hown, hts⟩ (kX1_link l dC dI (p0a := p1a) (p0k := p1k) (p0n := p1n) (p0w := p1w_59) (p0l := p1l) (p1 := p2) (p2 := v6_59) (p0_2a := p1_2a) (p0_2k := p1_2k) (p0_2n := p1_2n) (p0_2w := p1_2w_59) (sz := _) (o := o_16) (hrun := hc_16)) (cwV 2 hts (gi_V qw494 qw141 qw142 qw126 (gi_z qw139)) rfl rfl rfl (by decide +kernel) ⟨Nat.le_of_ble_eq_true rfl, Nat.le_of_ble_eq_true rfl⟩) ⟨PRE.blind, va_recv hKc hPc (ci := 4) (q0 := 0) rfl rfl, PRE.of hE hS hFc hPc hKc hDc⟩ rfl rfl hl.1 rfl (lv_room (Nat.le_of_ble_eq_true rfl)) dX5_mergeInto_80 ⟨(Nat.le_of_ble_eq_true rfl), (Nat.le_of_ble_eq_true rfl)⟩) hS (fun q _ h => hFc q h) hFc (fun u t H locs ht hvm hw hB hz1 hk1 hS => ?_)
        obtain ⟨b1, b2, b3⟩ := hB
        rw [ht] at b1
        obtain ⟨hP, hD, hK⟩ := JOINC (wc := (List.flatten ([(oX1 (p1a 0) p1a p1k p1n p1w_59 p1l), (oX9 (p1a 3) p1_2a p1_2k p1_2n p1_2w_59)] : List va_W))) (wr := (List.flatten ([(oX5 (p0a 0) p0a p0k o15 p0l)] : List va_W))) (w1 := (List.flatten ([(oX1 (p1a 0) p1a p1k p1n (o_16.1) p1l), (oX9 (p1a 3) p1_2a p1_2k p1_2n (o_16.2))] : List va_W))) (t1 := (List.flatten ([(tX1 p1k), (tX9 p1_2k)] : List (List (ClassId × FieldType))))) hPx hDx hKx hk1 hFc b1 (va_K.moved hvm.symm b2) b3
        have hP : va_P (dC, dI) cls (List.flatten ([(oX5 (p0a 0) p0a p0k o15 p0l), (oX1 (p1a 0) p1a p1k p1n (o_16.1) p1l), (oX9 (p1a 3) p1_2a p1_2k p1_2n (o_16.2))] : List va_W)) H := vP_perm (vP_fb hP) (bP (((((((List.Perm.refl _)).cons _).trans (List.Perm.swap _ _ _))).cons _).trans (List.Perm.swap _ _ _)))
        have hD : va_D A (List.flatten ([(oX5 (p0a 0) p0a p0k o15 p0l), (oX1 (p1a 0) p1a p1k p1n (o_16.1) p1l), (oX9 (p1a 3) p1_2a p1_2k p1_2n (o_16.2))] : List va_W)) := vD_perm (vD_fb hD) (bP (((((((List.Perm.refl _)).cons _).trans (List.Perm.swap _ _ _))).cons _).trans (List.Perm.swap _ _ _)))
        have hK : va_K (dC, dI) cls (List.flatten ([(tX5 p0k), (tX1 p1k), (tX9 p1_2k)] : List (List (ClassId × FieldType)))) s := vK_perm (vK_fb hK) (bP (((((((List.Perm.refl _)).cons _).trans (List.Perm.swap _ _ _))).cons _).trans (List.Perm.swap _ _ _)))
        refine lv_iload hx hb dX5_mergeInto_83 (lv_at hl 0 rfl) ?_
        refine lv_istore (lv' := [(6, .int (p1_2w_59 6 (nn v6_59))), (5, .int (p1_2w_59 6 (nn v6_59))), (0, .ref (p0a 0)), (1, .ref (p1a 0)), (2, .int p2), (3, .int p3)]) hx hb dX5_mergeInto_85 hl (by decide) rfl (fun ls hl => ?_)
        refine lv_goto (tgt := 59) hx hb dX5_mergeInto_87 (by decide) ?_
        exact IH59 (p1_2w_59 6 (nn v6_59)) (o_16.1) (o_16.2) o59 _ _ _ hrun hP hD hK hS (lv_sub hl [2, 3, 4, 5, 0] rfl) hk59
  obtain ⟨o59, hc59, hrun⟩ := bnd9 hrun
  refine L59 NF (o_12.1) (o_12.2) p1_2w o59 _ _ _ hc59 hP hD hK hS (lv_sub hl [1, 2, 3, 4, 0] rfl) ?_
  intro H locs ls hP hD hK hS hl
  have hl := hl
  refine lv_aload_n hx hb dX5_mergeInto_90 rfl (lv_at hl 1 rfl) ?_
  refine va_get (D := (dC, dI)) (ci := 4) (v := .ref (p1a 8)) (C := RX1) (T := TX1) (N := 21) hx hb hts i_X1 hown hK hP 10 rfl rfl 7 (by decide) (hts _ qw426) (fun _ h9 => h9) rfl dX5_mergeInto_91 ?_
  refine lv_iload_n hx hb dX5_mergeInto_94 rfl (lv_at hl 2 rfl) ?_
  refine lv_aload_n hx hb dX5_mergeInto_95 rfl (lv_at hl 1 rfl) ?_
  refine va_get (D := (dC, dI)) (ci := 4) (v := .ref (p1a 8)) (C := RX1) (T := TX1) (N := 21) hx hb hts i_X1 hown hK hP 10 rfl rfl 7 (by decide) (hts _ qw426) (fun _ h9 => h9) rfl dX5_mergeInto_96 ?_
  refine lv_iload_n hx hb dX5_mergeInto_99 rfl (lv_at hl 3 rfl) ?_
  obtain ⟨hq17, hrun⟩ := chk9 hrun
  refine va_iald hx hb hK hP 15 13 rfl rfl (ixb_in hq17) dX5_mergeInto_100 ?_
  obtain ⟨hq18, hrun⟩ := chk9 hrun
  refine va_iast hx hb hK hP hD hS 15 13 rfl rfl (ixb_in hq18) dX5_mergeInto_101 (fun H locs hP hD hS => ?_)
  have hP : va_P (dC, dI) cls (List.flatten ([(oX5 (p0a 0) p0a p0k o15 p0l), (oX1 (p1a 0) p1a p1k p1n (upw (o59.1) 8 (nn p2) (((o59.1) 8) (nn p3))) p1l), (oX9 (p1a 3) p1_2a p1_2k p1_2n (o59.2))] : List va_W)) H := hP
  have hD : va_D A (List.flatten ([(oX5 (p0a 0) p0a p0k o15 p0l), (oX1 (p1a 0) p1a p1k p1n (upw (o59.1) 8 (nn p2) (((o59.1) 8) (nn p3))) p1l), (oX9 (p1a 3) p1_2a p1_2k p1_2n (o59.2))] : List va_W)) := hD
  obtain ⟨w19, ew19, hrun⟩ := let9 hrun
  rw [← ew19] at hP hD
  refine lv_aload_n hx hb dX5_mergeInto_102 rfl (lv_at hl 1 rfl) ?_
  refine va_get (D := (dC, dI)) (ci := 4) (v := .ref (p1a 9)) (C := RX1) (T := TX1) (N := 21) hx hb hts i_X1 hown hK hP 10 rfl rfl 8 (by decide) (hts _ qw445) (fun _ h9 => h9) rfl dX5_mergeInto_103 ?_
  refine lv_iload_n hx hb dX5_mergeInto_106 rfl (lv_at hl 2 rfl) ?_
  refine lv_aload_n hx hb dX5_mergeInto_107 rfl (lv_at hl 1 rfl) ?_
  refine va_get (D := (dC, dI)) (ci := 4) (v := .ref (p1a 9)) (C := RX1) (T := TX1) (N := 21) hx hb hts i_X1 hown hK hP 10 rfl rfl 8 (by decide) (hts _ qw445) (fun _ h9 => h9) rfl dX5_mergeInto_108 ?_
  refine lv_iload_n hx hb dX5_mergeInto_111 rfl (lv_at hl 3 rfl) ?_
  obtain ⟨hq20, hrun⟩ := chk9 hrun
  refine va_iald hx hb hK hP 16 14 rfl rfl (ixb_in hq20) dX5_mergeInto_112 ?_
  obtain ⟨hq21, hrun⟩ := chk9 hrun
  refine va_iast hx hb hK hP hD hS 16 14 rfl rfl (ixb_in hq21) dX5_mergeInto_113 (fun H locs hP hD hS => ?_)
  have hP : va_P (dC, dI) cls (List.flatten ([(oX5 (p0a 0) p0a p0k o15 p0l), (oX1 (p1a 0) p1a p1k p1n (upw w19 9 (nn p2) (w19 9 (nn p3))) p1l), (oX9 (p1a 3) p1_2a p1_2k p1_2n (o59.2))] : List va_W)) H := hP
  have hD : va_D A (List.flatten ([(oX5 (p0a 0) p0a p0k o15 p0l), (oX1 (p1a 0) p1a p1k p1n (upw w19 9 (nn p2) (w19 9 (nn p3))) p1l), (oX9 (p1a 3) p1_2a p1_2k p1_2n (o59.2))] : List va_W)) := hD
  obtain ⟨w22, ew22, hrun⟩ := let9 hrun
  rw [← ew22] at hP hD
  refine lv_aload_n hx hb dX5_mergeInto_114 rfl (lv_at hl 1 rfl) ?_
  refine va_get (D := (dC, dI)) (ci := 4) (v := .ref (p1a 10)) (C := RX1) (T := TX1) (N := 21) hx hb hts i_X1 hown hK hP 10 rfl rfl 9 (by decide) (hts _ qw498) (fun _ h9 => h9) rfl dX5_mergeInto_115 ?_
  refine lv_iload_n hx hb dX5_mergeInto_118 rfl (lv_at hl 2 rfl) ?_
  refine lv_aload_n hx hb dX5_mergeInto_119 rfl (lv_at hl 1 rfl) ?_
  refine va_get (D := (dC, dI)) (ci := 4) (v := .ref (p1a 10)) (C := RX1) (T := TX1) (N := 21) hx hb hts i_X1 hown hK hP 10 rfl rfl 9 (by decide) (hts _ qw498) (fun _ h9 => h9) rfl dX5_mergeInto_120 ?_
  refine lv_iload_n hx hb dX5_mergeInto_123 rfl (lv_at hl 3 rfl) ?_
  obtain ⟨hq23, hrun⟩ := chk9 hrun
  refine va_iald hx hb hK hP 17 15 rfl rfl (ixb_in hq23) dX5_mergeInto_124 ?_
  obtain ⟨hq24, hrun⟩ := chk9 hrun
  refine va_iast hx hb hK hP hD hS 17 15 rfl rfl (ixb_in hq24) dX5_mergeInto_125 (fun H locs hP hD hS => ?_)
  have hP : va_P (dC, dI) cls (List.flatten ([(oX5 (p0a 0) p0a p0k o15 p0l), (oX1 (p1a 0) p1a p1k p1n (upw w22 10 (nn p2) (w22 10 (nn p3))) p1l), (oX9 (p1a 3) p1_2a p1_2k p1_2n (o59.2))] : List va_W)) H := hP
  have hD : va_D A (List.flatten ([(oX5 (p0a 0) p0a p0k o15 p0l), (oX1 (p1a 0) p1a p1k p1n (upw w22 10 (nn p2) (w22 10 (nn p3))) p1l), (oX9 (p1a 3) p1_2a p1_2k p1_2n (o59.2))] : List va_W)) := hD
  obtain ⟨w25, ew25, hrun⟩ := let9 hrun
  rw [← ew25] at hP hD
  refine lv_aload_n hx hb dX5_mergeInto_126 rfl (lv_at hl 1 rfl) ?_
  refine va_get (D := (dC, dI)) (ci := 4) (v := .ref (p1a 11)) (C := RX1) (T := TX1) (N := 21) hx hb hts i_X1 hown hK hP 10 rfl rfl 10 (by decide) (hts _ qw499) (fun _ h9 => h9) rfl dX5_mergeInto_127 ?_
  refine lv_iload_n hx hb dX5_mergeInto_130 rfl (lv_at hl 2 rfl) ?_
  refine lv_aload_n hx hb dX5_mergeInto_131 rfl (lv_at hl 1 rfl) ?_
  refine va_get (D := (dC, dI)) (ci := 4) (v := .ref (p1a 11)) (C := RX1) (T := TX1) (N := 21) hx hb hts i_X1 hown hK hP 10 rfl rfl 10 (by decide) (hts _ qw499) (fun _ h9 => h9) rfl dX5_mergeInto_132 ?_
  refine lv_iload_n hx hb dX5_mergeInto_135 rfl (lv_at hl 3 rfl) ?_
  obtain ⟨hq26, hrun⟩ := chk9 hrun
  refine va_iald hx hb hK hP 18 16 rfl rfl (ixb_in hq26) dX5_mergeInto_136 ?_
  obtain ⟨hq27, hrun⟩ := chk9 hrun
  refine va_iast hx hb hK hP hD hS 18 16 rfl rfl (ixb_in hq27) dX5_mergeInto_137 (fun H locs hP hD hS => ?_)
  have hP : va_P (dC, dI) cls (List.flatten ([(oX5 (p0a 0) p0a p0k o15 p0l), (oX1 (p1a 0) p1a p1k p1n (upw w25 11 (nn p2) (w25 11 (nn p3))) p1l), (oX9 (p1a 3) p1_2a p1_2k p1_2n (o59.2))] : List va_W)) H := hP
  have hD : va_D A (List.flatten ([(oX5 (p0a 0) p0a p0k o15 p0l), (oX1 (p1a 0) p1a p1k p1n (upw w25 11 (nn p2) (w25 11 (nn p3))) p1l), (oX9 (p1a 3) p1_2a p1_2k p1_2n (o59.2))] : List va_W)) := hD
  obtain ⟨w28, ew28, hrun⟩ := let9 hrun
  rw [← ew28] at hP hD
  refine lv_aload_n hx hb dX5_mergeInto_138 rfl (lv_at hl 0 rfl) ?_
  refine lv_dup hx hb dX5_mergeInto_139 rfl ?_
  refine va_get (D := (dC, dI)) (ci := 7) (v := .long (p0l 0 7)) (C := RX5) (T := TX5) (N := 12) hx hb hts i_X5 hown hK hP 0 rfl rfl 7 (by decide) (hts _ qw504) (fun _ h9 => h9) rfl dX5_mergeInto_140 ?_
  refine lv_lconst (v := 1) hx hb dX5_mergeInto_143 (by decide) ?_
  refine lv_iload_n hx hb dX5_mergeInto_144 rfl (lv_at hl 3 rfl) ?_
  refine lv_lshl (v := (((1 : Int64) <<< ((p3 : Int32).toInt64 &&& 63)))) hx hb dX5_mergeInto_145 rfl ?_
  refine lv_ldc2 (v := (-1)) hx hb hown (hts _ qw610) dX5_mergeInto_146 ?_
  refine lv_lxor hx hb dX5_mergeInto_149 ?_
  refine lv_land hx hb dX5_mergeInto_150 ?_
  refine va_put (D := (dC, dI)) (ci := 7) (v := .long ((p0l 0 7) &&& ((((1 : Int64) <<< ((p3 : Int32).toInt64 &&& 63))) ^^^ ((-1) : Int64)))) (ty := .long) (C := RX5) (T := TX5) (N := 12) hx hb hts i_X5 tyX5 tyX5_ok nmX5 hown hK hP hD hS 0 rfl rfl 7 (by decide) (hts _ qw504) (fun _ h9 => h9) rfl (by decide +kernel) rfl rfl (Nat.le_of_ble_eq_true rfl) dX5_mergeInto_151 (fun H locs hP hD hS => ?_)
  have hP : va_P (dC, dI) cls (List.flatten ([(oX5 (p0a 0) p0a p0k o15 (upl p0l 0 7 ((p0l 0 7) &&& ((((1 : Int64) <<< ((p3 : Int32).toInt64 &&& 63))) ^^^ ((-1) : Int64))))), (oX1 (p1a 0) p1a p1k p1n w28 p1l), (oX9 (p1a 3) p1_2a p1_2k p1_2n (o59.2))] : List va_W)) H := hP
  have hD : va_D A (List.flatten ([(oX5 (p0a 0) p0a p0k o15 (upl p0l 0 7 ((p0l 0 7) &&& ((((1 : Int64) <<< ((p3 : Int32).toInt64 &&& 63))) ^^^ ((-1) : Int64))))), (oX1 (p1a 0) p1a p1k p1n w28 p1l), (oX9 (p1a 3) p1_2a p1_2k p1_2n (o59.2))] : List va_W)) := hD
  obtain ⟨l29, el29, hrun⟩ := let9 hrun
  rw [← el29] at hP hD
  refine lv_aload_n hx hb dX5_mergeInto_154 rfl (lv_at hl 1 rfl) ?_
  refine lv_aload_n hx hb dX5_mergeInto_155 rfl (lv_at hl 1 rfl) ?_
  refine va_get (D := (dC, dI)) (ci := 4) (v := .ref (p1a 10)) (C := RX1) (T := TX1) (N := 21) hx hb hts i_X1 hown hK hP 10 rfl rfl 9 (by decide) (hts _ qw498) (fun _ h9 => h9) rfl dX5_mergeInto_156 ?_
  refine lv_iload_n hx hb dX5_mergeInto_159 rfl (lv_at hl 2 rfl) ?_
  obtain ⟨hq30, hrun⟩ := chk9 hrun
  refine va_iald hx hb hK hP 17 15 rfl rfl (ixb_in hq30) dX5_mergeInto_160 ?_
  refine lv_iload_n hx hb dX5_mergeInto_161 rfl (lv_at hl 3 rfl) ?_
  refine lv_iload_n hx hb dX5_mergeInto_162 rfl (lv_at hl 2 rfl) ?_
  obtain ⟨o_31, hc_31, hrun⟩ := bnd9 hrun
  have hPx : va_P (dC, dI) cls ((List.flatten ([(oX1 (p1a 0) p1a p1k p1n w28 p1l)] : List va_W)) ++ (List.flatten ([(oX5 (p0a 0) p0a p0k o15 l29), (oX9 (p1a 3) p1_2a p1_2k p1_2n (o59.2))] : List va_W))) H := vP_fa (vP_perm hP (bP ((((List.Perm.refl _)).cons _).trans (List.Perm.swap _ _ _))))
  have hDx : va_D A ((List.flatten ([(oX1 (p1a 0) p1a p1k p1n w28 p1l)] : List va_W)) ++ (List.flatten ([(oX5 (p0a 0) p0a p0k o15 l29), (oX9 (p1a 3) p1_2a p1_2k p1_2n (o59.2))] : List va_W))) := vD_fa (vD_perm hD (bP ((((List.Perm.refl _)).cons _).trans (List.Perm.swap _ _ _))))
  have hKx : va_K (dC, dI) cls ((List.flatten ([(tX1 p1k)] : List (List (ClassId × FieldType)))) ++ (List.flatten ([(tX5 p0k), (tX9 p1_2k)] : List (List (ClassId × FieldType))))) s := vK_fa (vK_perm hK (bP ((((List.Perm.refl _)).cons _).trans (List.Perm.swap _ _ _))))
  have hPc := vP_l hPx
  have hDc := vD_l hDx
  have hKc := vK_l hKx
  have hFc := vfree hDx hS hA
  refine va_callv (va_runS (As := [.ref (p1a 0), .int (w28 10 (nn p2)), .int p3, .int p2]) (rest := []) ⟨hx, hb, hml, hown, hts⟩ (kX5_takeFrom l dC dI (p0a := p1a) (p0k := p1k) (p0n := p1n) (p0w := w28) (p0l := p1l) (p1 := (w28 10 (nn p2))) (p2 := p3) (p3 := p2) (sz := _) (o := o_31) (hrun := hc_31)) (va_cwS 4 hts (gi_S qw612 qw613 qw442 (gi_z qw611)) rfl rfl rfl (by decide +kernel) ⟨Nat.le_of_ble_eq_true rfl, Nat.le_of_ble_eq_true rfl⟩) ⟨PRE.blind, PRE.of hE hS hFc hPc hKc hDc⟩ rfl rfl hl.1 rfl (lv_room (Nat.le_of_ble_eq_true rfl)) dX5_mergeInto_163 ⟨(Nat.le_of_ble_eq_true rfl), (Nat.le_of_ble_eq_true rfl)⟩) hS (fun q _ h => hFc q h) hFc (fun u t H locs ht hvm hw hB hz1 hk1 hS => ?_)
  obtain ⟨b1, b2, b3⟩ := hB
  rw [ht] at b1
  obtain ⟨hP, hD, hK⟩ := JOINC (wc := (List.flatten ([(oX1 (p1a 0) p1a p1k p1n w28 p1l)] : List va_W))) (wr := (List.flatten ([(oX5 (p0a 0) p0a p0k o15 l29), (oX9 (p1a 3) p1_2a p1_2k p1_2n (o59.2))] : List va_W))) (w1 := (List.flatten ([(oX1 (p1a 0) p1a p1k p1n o_31 p1l)] : List va_W))) (t1 := (List.flatten ([(tX1 p1k)] : List (List (ClassId × FieldType))))) hPx hDx hKx hk1 hFc b1 (va_K.moved hvm.symm b2) b3
  have hP : va_P (dC, dI) cls (List.flatten ([(oX5 (p0a 0) p0a p0k o15 l29), (oX1 (p1a 0) p1a p1k p1n o_31 p1l), (oX9 (p1a 3) p1_2a p1_2k p1_2n (o59.2))] : List va_W)) H := vP_perm (vP_fb hP) (bP ((((List.Perm.refl _)).cons _).trans (List.Perm.swap _ _ _)))
  have hD : va_D A (List.flatten ([(oX5 (p0a 0) p0a p0k o15 l29), (oX1 (p1a 0) p1a p1k p1n o_31 p1l), (oX9 (p1a 3) p1_2a p1_2k p1_2n (o59.2))] : List va_W)) := vD_perm (vD_fb hD) (bP ((((List.Perm.refl _)).cons _).trans (List.Perm.swap _ _ _)))
  have hK : va_K (dC, dI) cls (List.flatten ([(tX5 p0k), (tX1 p1k), (tX9 p1_2k)] : List (List (ClassId × FieldType)))) s := vK_perm (vK_fb hK) (bP ((((List.Perm.refl _)).cons _).trans (List.Perm.swap _ _ _)))
  refine lv_aload_n hx hb dX5_mergeInto_166 rfl (lv_at hl 1 rfl) ?_
  refine lv_aload_n hx hb dX5_mergeInto_167 rfl (lv_at hl 1 rfl) ?_
  refine va_get (D := (dC, dI)) (ci := 4) (v := .ref (p1a 11)) (C := RX1) (T := TX1) (N := 21) hx hb hts i_X1 hown hK hP 10 rfl rfl 10 (by decide) (hts _ qw499) (fun _ h9 => h9) rfl dX5_mergeInto_168 ?_
  refine lv_iload_n hx hb dX5_mergeInto_171 rfl (lv_at hl 2 rfl) ?_
  obtain ⟨hq32, hrun⟩ := chk9 hrun
  refine va_iald hx hb hK hP 18 16 rfl rfl (ixb_in hq32) dX5_mergeInto_172 ?_
  refine lv_iload_n hx hb dX5_mergeInto_173 rfl (lv_at hl 3 rfl) ?_
  refine lv_iload_n hx hb dX5_mergeInto_174 rfl (lv_at hl 2 rfl) ?_
  obtain ⟨o_33, hc_33, hrun⟩ := bnd9 hrun
  have hPx : va_P (dC, dI) cls ((List.flatten ([(oX1 (p1a 0) p1a p1k p1n o_31 p1l)] : List va_W)) ++ (List.flatten ([(oX5 (p0a 0) p0a p0k o15 l29), (oX9 (p1a 3) p1_2a p1_2k p1_2n (o59.2))] : List va_W))) H := vP_fa (vP_perm hP (bP ((((List.Perm.refl _)).cons _).trans (List.Perm.swap _ _ _))))
  have hDx : va_D A ((List.flatten ([(oX1 (p1a 0) p1a p1k p1n o_31 p1l)] : List va_W)) ++ (List.flatten ([(oX5 (p0a 0) p0a p0k o15 l29), (oX9 (p1a 3) p1_2a p1_2k p1_2n (o59.2))] : List va_W))) := vD_fa (vD_perm hD (bP ((((List.Perm.refl _)).cons _).trans (List.Perm.swap _ _ _))))
  have hKx : va_K (dC, dI) cls ((List.flatten ([(tX1 p1k)] : List (List (ClassId × FieldType)))) ++ (List.flatten ([(tX5 p0k), (tX9 p1_2k)] : List (List (ClassId × FieldType))))) s := vK_fa (vK_perm hK (bP ((((List.Perm.refl _)).cons _).trans (List.Perm.swap _ _ _))))
  have hPc := vP_l hPx
  have hDc := vD_l hDx
  have hKc := vK_l hKx
  have hFc := vfree hDx hS hA
  refine va_callv (va_runS (As := [.ref (p1a 0), .int (o_31 11 (nn p2)), .int p3, .int p2]) (rest := []) ⟨hx, hb, hml, hown, hts⟩ (kX5_takeFrom l dC dI (p0a := p1a) (p0k := p1k) (p0n := p1n) (p0w := o_31) (p0l := p1l) (p1 := (o_31 11 (nn p2))) (p2 := p3) (p3 := p2) (sz := _) (o := o_33) (hrun := hc_33)) (va_cwS 4 hts (gi_S qw612 qw613 qw442 (gi_z qw611)) rfl rfl rfl (by decide +kernel) ⟨Nat.le_of_ble_eq_true rfl, Nat.le_of_ble_eq_true rfl⟩) ⟨PRE.blind, PRE.of hE hS hFc hPc hKc hDc⟩ rfl rfl hl.1 rfl (lv_room (Nat.le_of_ble_eq_true rfl)) dX5_mergeInto_175 ⟨(Nat.le_of_ble_eq_true rfl), (Nat.le_of_ble_eq_true rfl)⟩) hS (fun q _ h => hFc q h) hFc (fun u t H locs ht hvm hw hB hz1 hk1 hS => ?_)
  obtain ⟨b1, b2, b3⟩ := hB
  rw [ht] at b1
  obtain ⟨hP, hD, hK⟩ := JOINC (wc := (List.flatten ([(oX1 (p1a 0) p1a p1k p1n o_31 p1l)] : List va_W))) (wr := (List.flatten ([(oX5 (p0a 0) p0a p0k o15 l29), (oX9 (p1a 3) p1_2a p1_2k p1_2n (o59.2))] : List va_W))) (w1 := (List.flatten ([(oX1 (p1a 0) p1a p1k p1n o_33 p1l)] : List va_W))) (t1 := (List.flatten ([(tX1 p1k)] : List (List (ClassId × FieldType))))) hPx hDx hKx hk1 hFc b1 (va_K.moved hvm.symm b2) b3
  have hP : va_P (dC, dI) cls (List.flatten ([(oX5 (p0a 0) p0a p0k o15 l29), (oX1 (p1a 0) p1a p1k p1n o_33 p1l), (oX9 (p1a 3) p1_2a p1_2k p1_2n (o59.2))] : List va_W)) H := vP_perm (vP_fb hP) (bP ((((List.Perm.refl _)).cons _).trans (List.Perm.swap _ _ _)))
  have hD : va_D A (List.flatten ([(oX5 (p0a 0) p0a p0k o15 l29), (oX1 (p1a 0) p1a p1k p1n o_33 p1l), (oX9 (p1a 3) p1_2a p1_2k p1_2n (o59.2))] : List va_W)) := vD_perm (vD_fb hD) (bP ((((List.Perm.refl _)).cons _).trans (List.Perm.swap _ _ _)))
  have hK : va_K (dC, dI) cls (List.flatten ([(tX5 p0k), (tX1 p1k), (tX9 p1_2k)] : List (List (ClassId × FieldType)))) s := vK_perm (vK_fb hK) (bP ((((List.Perm.refl _)).cons _).trans (List.Perm.swap _ _ _)))
  have ho9 : (o15, l29, o_33, (o59.2)) = o := Option.some.inj hrun
  have hP9 : va_P (dC, dI) cls (List.flatten ([(oX5 (p0a 0) p0a p0k (o.1) (o.2.1)), (oX1 (p1a 0) p1a p1k p1n (o.2.2.1) p1l), (oX9 (p1a 3) p1_2a p1_2k p1_2n (o.2.2.2))] : List va_W)) H := by first | exact hP | (rw [← ho9]; exact hP)
  have hD9 : va_D A (List.flatten ([(oX5 (p0a 0) p0a p0k (o.1) (o.2.1)), (oX1 (p1a 0) p1a p1k p1n (o.2.2.1) p1l), (oX9 (p1a 3) p1_2a p1_2k p1_2n (o.2.2.2))] : List va_W)) := by first | exact hD | (rw [← ho9]; exact hD)
  subst hQ
  exact W.vret hx hb hr (fun t ht hW => ⟨⟨(), rfl, trivial, ⟨by rw [ht]; exact hP9, va_K.moved hW.alike hK, hD9⟩⟩, hS.F ht⟩) hS.2.2 dX5_mergeInto_178
def fX5_mergeBlocks_J77 (kk27 : Int32 → Int32 → Int32 → ST → SL → ST → ST → Option (Int32 × ST × SL × ST × ST)) (v4_27 : Int32) (y0_55 : Int32) (v2_77 : Int32) (p0w_77 : ST) (p0l_77 : SL) (p1w_77 : ST) (p1_2w_77 : ST) : Option (Int32 × ST × SL × ST × ST) := (kk27 v2_77 y0_55 (v4_27 + 1) p0w_77 p0l_77 p1w_77 p1_2w_77)
def fX5_mergeBlocks_J55 (kk27 : Int32 → Int32 → Int32 → ST → SL → ST → ST → Option (Int32 × ST × SL × ST × ST)) (p1n : Nat → Nat) (p1_2n : Nat → Nat) (v2_27 : Int32) (v4_27 : Int32) (p0w_27 : ST) (p0l_27 : SL) (p1w_27 : ST) (p1_2w_27 : ST) (o_5 : Int32) (y0_55 : Int32) : Option (Int32 × ST × SL × ST × ST) := (if y0_55 = 0 then (fX5_mergeBlocks_J77 kk27 v4_27 y0_55 v2_27 p0w_27 p0l_27 p1w_27 p1_2w_27) else (if ixb o_5 60 = true then ((fX5_mergeInto p0w_27 p0l_27 p1n p1w_27 o_5 (p1w_27 10 (nn o_5)) p1_2n p1_2w_27).bind fun (o_9 : ST × SL × ST × ST) => (fX5_mergeBlocks_J77 kk27 v4_27 y0_55 (v2_27 + 1) (o_9.1) (o_9.2.1) (o_9.2.2.1) (o_9.2.2.2))) else none))
def fX5_mergeBlocks_L27 (p1n : Nat → Nat) (p1_2n : Nat → Nat) : Nat → Int32 → Int32 → Int32 → ST → SL → ST → ST → Option (Int32 × ST × SL × ST × ST)
  | 0 => fun _ _ _ _ _ _ _ => none
  | n_27 + 1 => fun v2_27 v3_27 v4_27 p0w_27 p0l_27 p1w_27 p1_2w_27 => (if v3_27 = 0 then some (v2_27, p0w_27, p0l_27, p1w_27, p1_2w_27) else (if 60 < v4_27 then some (v2_27, p0w_27, p0l_27, p1w_27, p1_2w_27) else ((fX5_mergeable p0l_27 p1w_27).bind fun (o_5 : Int32) => (if o_5 < 0 then (fX5_mergeBlocks_J55 (fX5_mergeBlocks_L27 p1n p1_2n n_27) p1n p1_2n v2_27 v4_27 p0w_27 p0l_27 p1w_27 p1_2w_27 o_5 0) else (fX5_mergeBlocks_J55 (fX5_mergeBlocks_L27 p1n p1_2n n_27) p1n p1_2n v2_27 v4_27 p0w_27 p0l_27 p1w_27 p1_2w_27 o_5 1)))))
def fX5_mergeBlocks_J100 (o27 : Int32 × ST × SL × ST × ST) (p1w_100 : ST) (p1l_100 : SL) (p1_2w_100 : ST) (p0_0w_100 : ST) : Option (Int32 × ST × SL × ST × SL × ST × ST) := some ((o27.1), (o27.2.1), (o27.2.2.1), p1w_100, p1l_100, p1_2w_100, p0_0w_100)
def fX5_mergeBlocks (p0w : ST) (p0l : SL) (p1n : Nat → Nat) (p1w : ST) (p1l : SL) (p1_2n : Nat → Nat) (p1_2w : ST) (p0_0w : ST) : Option (Int32 × ST × SL × ST × SL × ST × ST) := ((fJ7_fill_53178 250 (p0w 6) (-1)).bind fun (o_1 : RI) => (lt9 (upl p0l 0 7 ((((1 : Int64) <<< (((p1w 0 0) : Int32).toInt64 &&& 63))) - (1 : Int64))) fun (l2 : SL) => ((fX5_mergeBlocks_L27 p1n p1_2n NF 0 1 0 (srw p0w 6 o_1) l2 p1w p1_2w).bind fun (o27 : Int32 × ST × SL × ST × ST) => (if (o27.1) ≤ 0 then (fX5_mergeBlocks_J100 o27 (o27.2.2.2.1) p1l (o27.2.2.2.2) p0_0w) else ((fX8_renumber p0_0w p1n (o27.2.2.2.1) p1l).bind fun (o_12 : ST × ST × SL) => ((fX5_useStandIns (o27.2.1) p1n (o_12.2.1) p1_2n (o27.2.2.2.2)).bind fun (o_13 : ST × ST) => (fX5_mergeBlocks_J100 o27 (o_13.1) (o_12.2.2) (o_13.2) (o_12.1))))))))
set_option maxHeartbeats 16000000 in
set_option maxRecDepth 100000 in
theorem kX5_mergeBlocks {zs : ZS} (l : Launch) (dC : Nat → ClassId) (dI : Nat → Nat → Nat) (p0a : Nat → Nat) (p0k : Nat → ClassId) (p0w : ST) (p0l : SL) (p1a : Nat → Nat) (p1k : Nat → ClassId) (p1n : Nat → Nat) (p1w : ST) (p1l : SL) (p1_2a : Nat → Nat) (p1_2k : Nat → ClassId) (p1_2n : Nat → Nat) (p1_2w : ST) (p0_0a : Nat → Nat) (p0_0k : Nat → ClassId) (p0_0w : ST) (sz : Nat) (o : Int32 × ST × SL × ST × SL × ST × ST) (hrun : fX5_mergeBlocks p0w p0l p1n p1w p1l p1_2n p1_2w p0_0w = some o) : Met l yX5_mergeBlocks (wz yX5_mergeBlocks cX5_mergeBlocks 6 (Option.some Jvm.ClassFile.FieldType.int)) ({ frames := 5, cells := 0, slots := 0, locals := 121 } : Room) (va_Pc [.ref (p0a 0), .ref (p1a 0)] (PRE zs dC dI (List.flatten ([(oX5 (p0a 0) p0a p0k p0w p0l), (oX1 (p1a 0) p1a p1k p1n p1w p1l), (oX9 (p1a 3) p1_2a p1_2k p1_2n p1_2w), (oX8 (p0a 1) p0_0a p0_0k p0_0w)] : List va_W)) (List.flatten ([(tX5 p0k), (tX1 p1k), (tX9 p1_2k), (tX8 p0_0k)] : List (List (ClassId × FieldType)))) sz)) (va_Qi (fun (r : Int32) (_ : Unit) => r = (o.1)) (fun _ t => POST dC dI (List.flatten ([(oX5 (p0a 0) p0a p0k (o.2.1) (o.2.2.1)), (oX1 (p1a 0) p1a p1k p1n (o.2.2.2.1) (o.2.2.2.2.1)), (oX9 (p1a 3) p1_2a p1_2k p1_2n (o.2.2.2.2.2.1)), (oX8 (p0a 1) p0_0a p0_0k (o.2.2.2.2.2.2))] : List va_W)) (List.flatten ([(tX5 p0k), (tX1 p1k), (tX9 p1_2k), (tX8 p0_0k)] : List (List (ClassId × FieldType)))) (va_A (List.flatten ([(oX5 (p0a 0) p0a p0k p0w p0l), (oX1 (p1a 0) p1a p1k p1n p1w p1l), (oX9 (p1a 3) p1_2a p1_2k p1_2n p1_2w), (oX8 (p0a 1) p0_0a p0_0k p0_0w)] : List va_W)) sz) t) (va_A (List.flatten ([(oX5 (p0a 0) p0a p0k p0w p0l), (oX1 (p1a 0) p1a p1k p1n p1w p1l), (oX9 (p1a 3) p1_2a p1_2k p1_2n p1_2w), (oX8 (p0a 1) p0_0a p0_0k p0_0w)] : List va_W)) sz)) 0 0 (va_A (List.flatten ([(oX5 (p0a 0) p0a p0k p0w p0l), (oX1 (p1a 0) p1a p1k p1n p1w p1l), (oX9 (p1a 3) p1_2a p1_2k p1_2n p1_2w), (oX8 (p0a 1) p0_0a p0_0k p0_0w)] : List va_W)) sz) := by
  refine Met.ofW (cc := cX5_mergeBlocks) (maxL := 6) (ret := (Option.some Jvm.ClassFile.FieldType.int)) (by decide) rfl ?_
  intro p e s m args below meth c s₁ B hml hv
  obtain ⟨rfl, hsz, hP, hK, hD0, hE⟩ := hv
  have hx := B.exec
  have hb := B.bytes
  have hr := B.returns
  have hts0 := atoms_spec (ws := wz yX5_mergeBlocks cX5_mergeBlocks 6 (Option.some Jvm.ClassFile.FieldType.int)) B.pre
  have hts : ∀ w ∈ gw, w.before _ s = true := fun w h => hts0 w (List.mem_cons_of_mem _ h)
  have hown : s.vm.findClass RX5 = some m.cls := findClass_of_methodNamed B.named
  have hlocks := B.notSynchronized
  subst hsz
  have hD := hD0.self (sz := s.heap.size)
  refine gQ9 ?_
  intro Q hQ
  generalize hAe : va_A (List.flatten ([(oX5 (p0a 0) p0a p0k p0w p0l), (oX1 (p1a 0) p1a p1k p1n p1w p1l), (oX9 (p1a 3) p1_2a p1_2k p1_2n p1_2w), (oX8 (p0a 1) p0_0a p0_0k p0_0w)] : List va_W)) s.heap.size = A at hD hE hQ
  have hA : ∀ q : Nat, s.heap.size ≤ q → A q := fun q h => by rw [← hAe]; exact Or.inr h
  have hS : va_S A s.heap s.heap [] := va_S.rf
  have hP : va_P (dC, dI) cls (List.flatten ([(oX5 (p0a 0) p0a p0k p0w p0l), (oX1 (p1a 0) p1a p1k p1n p1w p1l), (oX9 (p1a 3) p1_2a p1_2k p1_2n p1_2w), (oX8 (p0a 1) p0_0a p0_0k p0_0w)] : List va_W)) s.heap := hP
  have hl := lv_entry ([.ref (p0a 0), .ref (p1a 0)]) (n := 6) (Nat.le_of_ble_eq_true rfl)
  rw [lg_entry_eq]
  generalize (lg_sl ([.ref (p0a 0), .ref (p1a 0)]) ++ List.replicate (6 - (lg_sl ([.ref (p0a 0), .ref (p1a 0)])).length) Slot.unset).toArray = ls at hl ⊢
  have hl : lv_has ls 6 [(0, .ref (p0a 0)), (1, .ref (p1a 0))] := hl
  obtain ⟨H, hHe⟩ : ∃ H, H = s.heap := ⟨_, rfl⟩
  obtain ⟨locs, hle⟩ : ∃ locs : List Loc, locs = [] := ⟨_, rfl⟩
  rw [← hHe] at hP
  have hS : va_S A s.heap H locs := by rw [hHe, hle]; exact hS
  show W p l e ({ frames := 5, cells := 0, slots := 0, locals := 121 } : Room) s m ([.ref (p0a 0), .ref (p1a 0)] : List Value).toArray below meth c s.heap [] 0 0 Q (F0 m 0 ls [])
  rw [← hle]
  refine wH9 hHe ?_
  unfold fX5_mergeBlocks at hrun
  refine lv_aload_n hx hb dX5_mergeBlocks_0 rfl (lv_at hl 0 rfl) ?_
  refine va_get (D := (dC, dI)) (ci := 7) (v := .ref (p0a 6)) (C := RX5) (T := TX5) (N := 12) hx hb hts i_X5 hown hK hP 0 rfl rfl 5 (by decide) (hts _ qw539) (fun _ h9 => h9) rfl dX5_mergeBlocks_1 ?_
  refine lv_iconst (v := (-1)) hx hb dX5_mergeBlocks_4 (by decide) ?_
  obtain ⟨o_1, hc_1, hrun⟩ := bnd9 hrun
  have hP2 : va_P (dC, dI) cls (List.flatten ([[((p0a 6), .inl ((p0k 6), 250, .inl (p0w 6)))], [((p0a 0), .inr (7, [.ref (p0a 1), .ref (p0a 2), .ref (p0a 3), .ref (p0a 4), .ref (p0a 5), .ref (p0a 6), .ref (p0a 7), .long (p0l 0 7), .ref (p0a 9), .ref (p0a 10), .int (p0w 0 10), .ref (p0a 12)])), ((p0a 2), .inl ((p0k 2), 250, .inl (p0w 2))), ((p0a 3), .inl ((p0k 3), 250, .inl (p0w 3))), ((p0a 4), .inl ((p0k 4), 250, .inl (p0w 4))), ((p0a 5), .inl ((p0k 5), 250, .inl (p0w 5))), ((p0a 7), .inl ((p0k 7), 250, .inl (p0w 7))), ((p0a 9), .inl ((p0k 9), 250, .inl (p0w 9))), ((p0a 10), .inl ((p0k 10), 250, .inl (p0w 10))), ((p0a 12), .inl ((p0k 12), 60, .inl (p0w 12)))], (oX1 (p1a 0) p1a p1k p1n p1w p1l), (oX9 (p1a 3) p1_2a p1_2k p1_2n p1_2w), (oX8 (p0a 1) p0_0a p0_0k p0_0w)] : List va_W)) H := vP_perm hP ((bP (List.Perm.refl _)).trans (List.Perm.append_right _ (List.perm_middle (a := (((p0a 6), .inl ((p0k 6), 250, .inl (p0w 6))) : Nat × va_E)) (l₁ := ([((p0a 0), .inr (7, [.ref (p0a 1), .ref (p0a 2), .ref (p0a 3), .ref (p0a 4), .ref (p0a 5), .ref (p0a 6), .ref (p0a 7), .long (p0l 0 7), .ref (p0a 9), .ref (p0a 10), .int (p0w 0 10), .ref (p0a 12)])), ((p0a 2), .inl ((p0k 2), 250, .inl (p0w 2))), ((p0a 3), .inl ((p0k 3), 250, .inl (p0w 3))), ((p0a 4), .inl ((p0k 4), 250, .inl (p0w 4))), ((p0a 5), .inl ((p0k 5), 250, .inl (p0w 5)))] : va_W)) (l₂ := ([((p0a 7), .inl ((p0k 7), 250, .inl (p0w 7))), ((p0a 9), .inl ((p0k 9), 250, .inl (p0w 9))), ((p0a 10), .inl ((p0k 10), 250, .inl (p0w 10))), ((p0a 12), .inl ((p0k 12), 60, .inl (p0w 12)))] : va_W)))))
  have hD2 : va_D A (List.flatten ([[((p0a 6), .inl ((p0k 6), 250, .inl (p0w 6)))], [((p0a 0), .inr (7, [.ref (p0a 1), .ref (p0a 2), .ref (p0a 3), .ref (p0a 4), .ref (p0a 5), .ref (p0a 6), .ref (p0a 7), .long (p0l 0 7), .ref (p0a 9), .ref (p0a 10), .int (p0w 0 10), .ref (p0a 12)])), ((p0a 2), .inl ((p0k 2), 250, .inl (p0w 2))), ((p0a 3), .inl ((p0k 3), 250, .inl (p0w 3))), ((p0a 4), .inl ((p0k 4), 250, .inl (p0w 4))), ((p0a 5), .inl ((p0k 5), 250, .inl (p0w 5))), ((p0a 7), .inl ((p0k 7), 250, .inl (p0w 7))), ((p0a 9), .inl ((p0k 9), 250, .inl (p0w 9))), ((p0a 10), .inl ((p0k 10), 250, .inl (p0w 10))), ((p0a 12), .inl ((p0k 12), 60, .inl (p0w 12)))], (oX1 (p1a 0) p1a p1k p1n p1w p1l), (oX9 (p1a 3) p1_2a p1_2k p1_2n p1_2w), (oX8 (p0a 1) p0_0a p0_0k p0_0w)] : List va_W)) := vD_perm hD ((bP (List.Perm.refl _)).trans (List.Perm.append_right _ (List.perm_middle (a := (((p0a 6), .inl ((p0k 6), 250, .inl (p0w 6))) : Nat × va_E)) (l₁ := ([((p0a 0), .inr (7, [.ref (p0a 1), .ref (p0a 2), .ref (p0a 3), .ref (p0a 4), .ref (p0a 5), .ref (p0a 6), .ref (p0a 7), .long (p0l 0 7), .ref (p0a 9), .ref (p0a 10), .int (p0w 0 10), .ref (p0a 12)])), ((p0a 2), .inl ((p0k 2), 250, .inl (p0w 2))), ((p0a 3), .inl ((p0k 3), 250, .inl (p0w 3))), ((p0a 4), .inl ((p0k 4), 250, .inl (p0w 4))), ((p0a 5), .inl ((p0k 5), 250, .inl (p0w 5)))] : va_W)) (l₂ := ([((p0a 7), .inl ((p0k 7), 250, .inl (p0w 7))), ((p0a 9), .inl ((p0k 9), 250, .inl (p0w 9))), ((p0a 10), .inl ((p0k 10), 250, .inl (p0w 10))), ((p0a 12), .inl ((p0k 12), 60, .inl (p0w 12)))] : va_W)))))
  have hK2 : va_K (dC, dI) cls (List.flatten ([[((p0k 6), .int)], [((p0k 2), .int), ((p0k 3), .int), ((p0k 4), .int), ((p0k 5), .int), ((p0k 7), .int), ((p0k 9), .int), ((p0k 10), .int), ((p0k 12), .int)], (tX1 p1k), (tX9 p1_2k), (tX8 p0_0k)] : List (List (ClassId × FieldType)))) s := vK_perm hK ((bP (List.Perm.refl _)).trans (List.Perm.append_right _ (List.perm_middle (a := (((p0k 6), .int) : ClassId × FieldType)) (l₁ := ([((p0k 2), .int), ((p0k 3), .int), ((p0k 4), .int), ((p0k 5), .int)] : List (ClassId × FieldType))) (l₂ := ([((p0k 7), .int), ((p0k 9), .int), ((p0k 10), .int), ((p0k 12), .int)] : List (ClassId × FieldType))))))
  have hPx : va_P (dC, dI) cls ((List.flatten ([[((p0a 6), .inl ((p0k 6), 250, .inl (p0w 6)))]] : List va_W)) ++ (List.flatten ([[((p0a 0), .inr (7, [.ref (p0a 1), .ref (p0a 2), .ref (p0a 3), .ref (p0a 4), .ref (p0a 5), .ref (p0a 6), .ref (p0a 7), .long (p0l 0 7), .ref (p0a 9), .ref (p0a 10), .int (p0w 0 10), .ref (p0a 12)])), ((p0a 2), .inl ((p0k 2), 250, .inl (p0w 2))), ((p0a 3), .inl ((p0k 3), 250, .inl (p0w 3))), ((p0a 4), .inl ((p0k 4), 250, .inl (p0w 4))), ((p0a 5), .inl ((p0k 5), 250, .inl (p0w 5))), ((p0a 7), .inl ((p0k 7), 250, .inl (p0w 7))), ((p0a 9), .inl ((p0k 9), 250, .inl (p0w 9))), ((p0a 10), .inl ((p0k 10), 250, .inl (p0w 10))), ((p0a 12), .inl ((p0k 12), 60, .inl (p0w 12)))], (oX1 (p1a 0) p1a p1k p1n p1w p1l), (oX9 (p1a 3) p1_2a p1_2k p1_2n p1_2w), (oX8 (p0a 1) p0_0a p0_0k p0_0w)] : List va_W))) H := vP_fa (vP_perm hP2 (bP (List.Perm.refl _)))
  have hDx : va_D A ((List.flatten ([[((p0a 6), .inl ((p0k 6), 250, .inl (p0w 6)))]] : List va_W)) ++ (List.flatten ([[((p0a 0), .inr (7, [.ref (p0a 1), .ref (p0a 2), .ref (p0a 3), .ref (p0a 4), .ref (p0a 5), .ref (p0a 6), .ref (p0a 7), .long (p0l 0 7), .ref (p0a 9), .ref (p0a 10), .int (p0w 0 10), .ref (p0a 12)])), ((p0a 2), .inl ((p0k 2), 250, .inl (p0w 2))), ((p0a 3), .inl ((p0k 3), 250, .inl (p0w 3))), ((p0a 4), .inl ((p0k 4), 250, .inl (p0w 4))), ((p0a 5), .inl ((p0k 5), 250, .inl (p0w 5))), ((p0a 7), .inl ((p0k 7), 250, .inl (p0w 7))), ((p0a 9), .inl ((p0k 9), 250, .inl (p0w 9))), ((p0a 10), .inl ((p0k 10), 250, .inl (p0w 10))), ((p0a 12), .inl ((p0k 12), 60, .inl (p0w 12)))], (oX1 (p1a 0) p1a p1k p1n p1w p1l), (oX9 (p1a 3) p1_2a p1_2k p1_2n p1_2w), (oX8 (p0a 1) p0_0a p0_0k p0_0w)] : List va_W))) := vD_fa (vD_perm hD2 (bP (List.Perm.refl _)))
  have hKx : va_K (dC, dI) cls ((List.flatten ([[((p0k 6), .int)]] : List (List (ClassId × FieldType)))) ++ (List.flatten ([[((p0k 2), .int), ((p0k 3), .int), ((p0k 4), .int), ((p0k 5), .int), ((p0k 7), .int), ((p0k 9), .int), ((p0k 10), .int), ((p0k 12), .int)], (tX1 p1k), (tX9 p1_2k), (tX8 p0_0k)] : List (List (ClassId × FieldType))))) s := vK_fa (vK_perm hK2 (bP (List.Perm.refl _)))
  have hPc := vP_l hPx
  have hDc := vD_l hDx
  have hKc := vK_l hKx
  have hFc := vfree hDx hS hA
  refine va_callv (va_runS (As := [.ref (p0a 6), .int (-1)]) (rest := []) ⟨hx, hb, hml, hown, hts⟩ (kJ7_fill_53178 l dC dI (p0a := (p0a 6)) (p0k := (p0k 6)) (p0n := 250) (p0f := (p0w 6)) (p1 := (-1)) (sz := _) (o := o_1) (hrun := hc_1)) (va_cwS 2 hts (gi_S qw428 qw218 qw109 (gi_z qw216)) rfl rfl rfl (by decide +kernel) ⟨Nat.le_of_ble_eq_true rfl, Nat.le_of_ble_eq_true rfl⟩) ⟨PRE.blind, PRE.of hE hS hFc hPc hKc hDc⟩ rfl rfl hl.1 rfl (lv_room (Nat.le_of_ble_eq_true rfl)) dX5_mergeBlocks_5 ⟨(Nat.le_of_ble_eq_true rfl), (Nat.le_of_ble_eq_true rfl)⟩) hS (fun q _ h => hFc q h) hFc (fun u t H locs ht hvm hw hB hz1 hk1 hS => ?_)
  obtain ⟨b1, b2, b3⟩ := hB
  rw [ht] at b1
  obtain ⟨hP, hD, hK⟩ := JOINC (wc := (List.flatten ([[((p0a 6), .inl ((p0k 6), 250, .inl (p0w 6)))]] : List va_W))) (wr := (List.flatten ([[((p0a 0), .inr (7, [.ref (p0a 1), .ref (p0a 2), .ref (p0a 3), .ref (p0a 4), .ref (p0a 5), .ref (p0a 6), .ref (p0a 7), .long (p0l 0 7), .ref (p0a 9), .ref (p0a 10), .int (p0w 0 10), .ref (p0a 12)])), ((p0a 2), .inl ((p0k 2), 250, .inl (p0w 2))), ((p0a 3), .inl ((p0k 3), 250, .inl (p0w 3))), ((p0a 4), .inl ((p0k 4), 250, .inl (p0w 4))), ((p0a 5), .inl ((p0k 5), 250, .inl (p0w 5))), ((p0a 7), .inl ((p0k 7), 250, .inl (p0w 7))), ((p0a 9), .inl ((p0k 9), 250, .inl (p0w 9))), ((p0a 10), .inl ((p0k 10), 250, .inl (p0w 10))), ((p0a 12), .inl ((p0k 12), 60, .inl (p0w 12)))], (oX1 (p1a 0) p1a p1k p1n p1w p1l), (oX9 (p1a 3) p1_2a p1_2k p1_2n p1_2w), (oX8 (p0a 1) p0_0a p0_0k p0_0w)] : List va_W))) (w1 := (List.flatten ([[((p0a 6), .inl ((p0k 6), 250, .inl ((srw p0w 6 o_1) 6)))]] : List va_W))) (t1 := (List.flatten ([[((p0k 6), .int)]] : List (List (ClassId × FieldType))))) hPx hDx hKx hk1 hFc b1 (va_K.moved hvm.symm b2) b3
  have hP3 : va_P (dC, dI) cls (List.flatten ([(oX5 (p0a 0) p0a p0k (srw p0w 6 o_1) p0l), (oX1 (p1a 0) p1a p1k p1n p1w p1l), (oX9 (p1a 3) p1_2a p1_2k p1_2n p1_2w), (oX8 (p0a 1) p0_0a p0_0k p0_0w)] : List va_W)) H := vP_perm (vP_fb hP) ((bP (List.Perm.refl _)).trans (List.Perm.append_right _ (List.perm_middle (a := (((p0a 6), .inl ((p0k 6), 250, .inl ((srw p0w 6 o_1) 6))) : Nat × va_E)) (l₁ := ([((p0a 0), .inr (7, [.ref (p0a 1), .ref (p0a 2), .ref (p0a 3), .ref (p0a 4), .ref (p0a 5), .ref (p0a 6), .ref (p0a 7), .long (p0l 0 7), .ref (p0a 9), .ref (p0a 10), .int ((srw p0w 6 o_1) 0 10), .ref (p0a 12)])), ((p0a 2), .inl ((p0k 2), 250, .inl ((srw p0w 6 o_1) 2))), ((p0a 3), .inl ((p0k 3), 250, .inl ((srw p0w 6 o_1) 3))), ((p0a 4), .inl ((p0k 4), 250, .inl ((srw p0w 6 o_1) 4))), ((p0a 5), .inl ((p0k 5), 250, .inl ((srw p0w 6 o_1) 5)))] : va_W)) (l₂ := ([((p0a 7), .inl ((p0k 7), 250, .inl ((srw p0w 6 o_1) 7))), ((p0a 9), .inl ((p0k 9), 250, .inl ((srw p0w 6 o_1) 9))), ((p0a 10), .inl ((p0k 10), 250, .inl ((srw p0w 6 o_1) 10))), ((p0a 12), .inl ((p0k 12), 60, .inl ((srw p0w 6 o_1) 12)))] : va_W))).symm))
  have hD3 : va_D A (List.flatten ([(oX5 (p0a 0) p0a p0k (srw p0w 6 o_1) p0l), (oX1 (p1a 0) p1a p1k p1n p1w p1l), (oX9 (p1a 3) p1_2a p1_2k p1_2n p1_2w), (oX8 (p0a 1) p0_0a p0_0k p0_0w)] : List va_W)) := vD_perm (vD_fb hD) ((bP (List.Perm.refl _)).trans (List.Perm.append_right _ (List.perm_middle (a := (((p0a 6), .inl ((p0k 6), 250, .inl ((srw p0w 6 o_1) 6))) : Nat × va_E)) (l₁ := ([((p0a 0), .inr (7, [.ref (p0a 1), .ref (p0a 2), .ref (p0a 3), .ref (p0a 4), .ref (p0a 5), .ref (p0a 6), .ref (p0a 7), .long (p0l 0 7), .ref (p0a 9), .ref (p0a 10), .int ((srw p0w 6 o_1) 0 10), .ref (p0a 12)])), ((p0a 2), .inl ((p0k 2), 250, .inl ((srw p0w 6 o_1) 2))), ((p0a 3), .inl ((p0k 3), 250, .inl ((srw p0w 6 o_1) 3))), ((p0a 4), .inl ((p0k 4), 250, .inl ((srw p0w 6 o_1) 4))), ((p0a 5), .inl ((p0k 5), 250, .inl ((srw p0w 6 o_1) 5)))] : va_W)) (l₂ := ([((p0a 7), .inl ((p0k 7), 250, .inl ((srw p0w 6 o_1) 7))), ((p0a 9), .inl ((p0k 9), 250, .inl ((srw p0w 6 o_1) 9))), ((p0a 10), .inl ((p0k 10), 250, .inl ((srw p0w 6 o_1) 10))), ((p0a 12), .inl ((p0k 12), 60, .inl ((srw p0w 6 o_1) 12)))] : va_W))).symm))
  have hK3 : va_K (dC, dI) cls (List.flatten ([(tX5 p0k), (tX1 p1k), (tX9 p1_2k), (tX8 p0_0k)] : List (List (ClassId × FieldType)))) s := vK_perm (vK_fb hK) ((bP (List.Perm.refl _)).trans (List.Perm.append_right _ (List.perm_middle (a := (((p0k 6), .int) : ClassId × FieldType)) (l₁ := ([((p0k 2), .int), ((p0k 3), .int), ((p0k 4), .int), ((p0k 5), .int)] : List (ClassId × FieldType))) (l₂ := ([((p0k 7), .int), ((p0k 9), .int), ((p0k 10), .int), ((p0k 12), .int)] : List (ClassId × FieldType)))).symm))
  have hP : va_P (dC, dI) cls (List.flatten ([(oX5 (p0a 0) p0a p0k (srw p0w 6 o_1) p0l), (oX1 (p1a 0) p1a p1k p1n p1w p1l), (oX9 (p1a 3) p1_2a p1_2k p1_2n p1_2w), (oX8 (p0a 1) p0_0a p0_0k p0_0w)] : List va_W)) H := vP_perm hP3 (bP (List.Perm.refl _))
  have hD : va_D A (List.flatten ([(oX5 (p0a 0) p0a p0k (srw p0w 6 o_1) p0l), (oX1 (p1a 0) p1a p1k p1n p1w p1l), (oX9 (p1a 3) p1_2a p1_2k p1_2n p1_2w), (oX8 (p0a 1) p0_0a p0_0k p0_0w)] : List va_W)) := vD_perm hD3 (bP (List.Perm.refl _))
  have hK : va_K (dC, dI) cls (List.flatten ([(tX5 p0k), (tX1 p1k), (tX9 p1_2k), (tX8 p0_0k)] : List (List (ClassId × FieldType)))) s := vK_perm hK3 (bP (List.Perm.refl _))
  refine lv_iconst (v := 0) hx hb dX5_mergeBlocks_8 (by decide) ?_
  refine lv_istore_n (lv' := [(2, .int 0), (0, .ref (p0a 0)), (1, .ref (p1a 0))]) hx hb dX5_mergeBlocks_9 rfl hl (by decide) rfl (fun ls hl => ?_)
  refine lv_aload_n hx hb dX5_mergeBlocks_10 rfl (lv_at hl 1 rfl) ?_
  refine lv_lconst (v := 1) hx hb dX5_mergeBlocks_11 (by decide) ?_
  refine lv_aload_n hx hb dX5_mergeBlocks_12 rfl (lv_at hl 2 rfl) ?_
  refine va_get (D := (dC, dI)) (ci := 4) (v := .int (p1w 0 0)) (C := RX1) (T := TX1) (N := 21) hx hb hts i_X1 hown hK hP 10 rfl rfl 0 (by decide) (hts _ qw430) (fun _ h9 => h9) rfl dX5_mergeBlocks_13 ?_
  refine lv_lshl (v := (((1 : Int64) <<< (((p1w 0 0) : Int32).toInt64 &&& 63)))) hx hb dX5_mergeBlocks_16 rfl ?_
  refine lv_lconst (v := 1) hx hb dX5_mergeBlocks_17 (by decide) ?_
  refine lv_lsub hx hb dX5_mergeBlocks_18 ?_
  refine va_put (D := (dC, dI)) (ci := 7) (v := .long ((((1 : Int64) <<< (((p1w 0 0) : Int32).toInt64 &&& 63))) - (1 : Int64))) (ty := .long) (C := RX5) (T := TX5) (N := 12) hx hb hts i_X5 tyX5 tyX5_ok nmX5 hown hK hP hD hS 0 rfl rfl 7 (by decide) (hts _ qw504) (fun _ h9 => h9) rfl (by decide +kernel) rfl rfl (Nat.le_of_ble_eq_true rfl) dX5_mergeBlocks_19 (fun H locs hP hD hS => ?_)
  have hP : va_P (dC, dI) cls (List.flatten ([(oX5 (p0a 0) p0a p0k (srw p0w 6 o_1) (upl p0l 0 7 ((((1 : Int64) <<< (((p1w 0 0) : Int32).toInt64 &&& 63))) - (1 : Int64)))), (oX1 (p1a 0) p1a p1k p1n p1w p1l), (oX9 (p1a 3) p1_2a p1_2k p1_2n p1_2w), (oX8 (p0a 1) p0_0a p0_0k p0_0w)] : List va_W)) H := hP
  have hD : va_D A (List.flatten ([(oX5 (p0a 0) p0a p0k (srw p0w 6 o_1) (upl p0l 0 7 ((((1 : Int64) <<< (((p1w 0 0) : Int32).toInt64 &&& 63))) - (1 : Int64)))), (oX1 (p1a 0) p1a p1k p1n p1w p1l), (oX9 (p1a 3) p1_2a p1_2k p1_2n p1_2w), (oX8 (p0a 1) p0_0a p0_0k p0_0w)] : List va_W)) := hD
  obtain ⟨l2, el2, hrun⟩ := let9 hrun
  rw [← el2] at hP hD
  refine lv_iconst (v := 1) hx hb dX5_mergeBlocks_22 (by decide) ?_
  refine lv_istore_n (lv' := [(3, .int 1), (2, .int 0), (0, .ref (p0a 0)), (1, .ref (p1a 0))]) hx hb dX5_mergeBlocks_23 rfl hl (by decide) rfl (fun ls hl => ?_)
  refine lv_iconst (v := 0) hx hb dX5_mergeBlocks_24 (by decide) ?_
  refine lv_istore (lv' := [(4, .int 0), (3, .int 1), (2, .int 0), (0, .ref (p0a 0)), (1, .ref (p1a 0))]) hx hb dX5_mergeBlocks_25 hl (by decide) rfl (fun ls hl => ?_)
  have L27 : ∀ (n_27 : Nat) (v2_27 : Int32) (v3_27 : Int32) (v4_27 : Int32) (p0w_27 : ST) (p0l_27 : SL) (p1w_27 : ST) (p1_2w_27 : ST) (o27 : Int32 × ST × SL × ST × ST) (H : Heap) (locs : List Loc) (ls : Array Slot), (fX5_mergeBlocks_L27 p1n p1_2n n_27) v2_27 v3_27 v4_27 p0w_27 p0l_27 p1w_27 p1_2w_27 = some o27 → va_P (dC, dI) cls (List.flatten ([(oX5 (p0a 0) p0a p0k p0w_27 p0l_27), (oX1 (p1a 0) p1a p1k p1n p1w_27 p1l), (oX9 (p1a 3) p1_2a p1_2k p1_2n p1_2w_27), (oX8 (p0a 1) p0_0a p0_0k p0_0w)] : List va_W)) H → va_D A (List.flatten ([(oX5 (p0a 0) p0a p0k p0w_27 p0l_27), (oX1 (p1a 0) p1a p1k p1n p1w_27 p1l), (oX9 (p1a 3) p1_2a p1_2k p1_2n p1_2w_27), (oX8 (p0a 1) p0_0a p0_0k p0_0w)] : List va_W)) → va_K (dC, dI) cls (List.flatten ([(tX5 p0k), (tX1 p1k), (tX9 p1_2k), (tX8 p0_0k)] : List (List (ClassId × FieldType)))) s → va_S A s.heap H locs → lv_has ls 6 [(0, .ref (p0a 0)), (1, .ref (p1a 0)), (2, .int v2_27), (3, .int v3_27), (4, .int v4_27)] → (∀ (H : Heap) (locs : List Loc) (ls : Array Slot), va_P (dC, dI) cls (List.flatten ([(oX5 (p0a 0) p0a p0k (o27.2.1) (o27.2.2.1)), (oX1 (p1a 0) p1a p1k p1n (o27.2.2.2.1) p1l), (oX9 (p1a 3) p1_2a p1_2k p1_2n (o27.2.2.2.2)), (oX8 (p0a 1) p0_0a p0_0k p0_0w)] : List va_W)) H → va_D A (List.flatten ([(oX5 (p0a 0) p0a p0k (o27.2.1) (o27.2.2.1)), (oX1 (p1a 0) p1a p1k p1n (o27.2.2.2.1) p1l), (oX9 (p1a 3) p1_2a p1_2k p1_2n (o27.2.2.2.2)), (oX8 (p0a 1) p0_0a p0_0k p0_0w)] : List va_W)) → va_K (dC, dI) cls (List.flatten ([(tX5 p0k), (tX1 p1k), (tX9 p1_2k), (tX8 p0_0k)] : List (List (ClassId × FieldType)))) s → va_S A s.heap H locs → lv_has ls 6 [(0, .ref (p0a 0)), (1, .ref (p1a 0)), (2, .int (o27.1))] → W p l e ({ frames := 5, cells := 0, slots := 0, locals := 121 } : Room) s m ([.ref (p0a 0), .ref (p1a 0)] : List Value).toArray below meth c H locs 0 0 Q (F0 m 83 ls [])) → W p l e ({ frames := 5, cells := 0, slots := 0, locals := 121 } : Room) s m ([.ref (p0a 0), .ref (p1a 0)] : List Value).toArray below meth c H locs 0 0 Q (F0 m 27 ls []) := by
    intro n_27
    induction n_27 with
    | zero => intro v2_27 v3_27 v4_27 p0w_27 p0l_27 p1w_27 p1_2w_27 o27 H locs ls hrun; exact (no9 rfl hrun).elim
    | succ n_27 IH27 =>
      intro v2_27 v3_27 v4_27 p0w_27 p0l_27 p1w_27 p1_2w_27 o27 H locs ls hrun hP hD hK hS hl hk27
      unfold fX5_mergeBlocks_L27 at hrun
      refine lv_iload_n hx hb dX5_mergeBlocks_27 rfl (lv_at hl 3 rfl) ?_
      rcases br9 hrun with ⟨hc3, hrun⟩ | ⟨hc3, hrun⟩
      · refine lv_if_eq (tgt := 83) hx hb dX5_mergeBlocks_28 (by decide) (fun _ => ?_) (fun c => absurd hc3 c)
        obtain rfl := (Option.some.inj hrun)
        exact hk27 _ _ _ hP hD hK hS (lv_sub hl [0, 1, 2] rfl)
      · refine lv_if_eq (tgt := 83) hx hb dX5_mergeBlocks_28 (by decide) (fun c => absurd c hc3) (fun _ => ?_)
        refine lv_iload hx hb dX5_mergeBlocks_31 (lv_at hl 4 rfl) ?_
        refine lv_bipush (v := 60) hx hb dX5_mergeBlocks_33 (by decide) ?_
        rcases br9 hrun with ⟨hc4, hrun⟩ | ⟨hc4, hrun⟩
        · refine lv_icmp_gt (tgt := 83) hx hb dX5_mergeBlocks_35 (by decide) (fun _ => ?_) (fun c => absurd hc4 c)
          obtain rfl := (Option.some.inj hrun)
          exact hk27 _ _ _ hP hD hK hS (lv_sub hl [0, 1, 2] rfl)
        · refine lv_icmp_gt (tgt := 83) hx hb dX5_mergeBlocks_35 (by decide) (fun c => absurd c hc4) (fun _ => ?_)
          refine lv_aload_n hx hb dX5_mergeBlocks_38 rfl (lv_at hl 0 rfl) ?_
          refine lv_aload_n hx hb dX5_mergeBlocks_39 rfl (lv_at hl 1 rfl) ?_
          obtain ⟨o_5, hc_5, hrun⟩ := bnd9 hrun
          have hPx : va_P (dC, dI) cls ((List.flatten ([(oX5 (p0a 0) p0a p0k p0w_27 p0l_27), (oX1 (p1a 0) p1a p1k p1n p1w_27 p1l)] : List va_W)) ++ (List.flatten ([(oX9 (p1a 3) p1_2a p1_2k p1_2n p1_2w_27), (oX8 (p0a 1) p0_0a p0_0k p0_0w)] : List va_W))) H := vP_fa (vP_perm hP (bP (List.Perm.refl _)))
          have hDx : va_D A ((List.flatten ([(oX5 (p0a 0) p0a p0k p0w_27 p0l_27), (oX1 (p1a 0) p1a p1k p1n p1w_27 p1l)] : List va_W)) ++ (List.flatten ([(oX9 (p1a 3) p1_2a p1_2k p1_2n p1_2w_27), (oX8 (p0a 1) p0_0a p0_0k p0_0w)] : List va_W))) := vD_fa (vD_perm hD (bP (List.Perm.refl _)))
          have hKx : va_K (dC, dI) cls ((List.flatten ([(tX5 p0k), (tX1 p1k)] : List (List (ClassId × FieldType)))) ++ (List.flatten ([(tX9 p1_2k), (tX8 p0_0k)] : List (List (ClassId × FieldType))))) s := vK_fa (vK_perm hK (bP (List.Perm.refl _)))
          have hPc := vP_l hPx
          have hDc := vD_l hDx
          have hKc := vK_l hKx
          have hFc := vfree hDx hS hA
          refine va_calli (va_runV (As := [.ref (p1a 0)]) (rest := []) ⟨hx, hb, hml, hown, hts⟩ (kX5_mergeable l dC dI (p0a := p0a) (p0k := p0k) (p0w := p0w_27) (p0l := p0l_27) (p1a := p1a) (p1k := p1k) (p1n := p1n) (p1w := p1w_27) (p1l := p1l) (sz := _) (o := o_5) (hrun := hc_5)) (cwV 1 hts (gi_V qw607 qw608 qw609 qw442 (gi_z qw606)) rfl rfl rfl (by decide +kernel) ⟨Nat.le_of_ble_eq_true rfl, Nat.le_of_ble_eq_true rfl⟩) ⟨PRE.blind, va_recv hKc hPc (ci := 7) (q0 := 0) rfl rfl, PRE.of hE hS hFc hPc hKc hDc⟩ rfl rfl hl.1 rfl (lv_room (Nat.le_of_ble_eq_true rfl)) dX5_mergeBlocks_40 ⟨(Nat.le_of_ble_eq_true rfl), (Nat.le_of_ble_eq_true rfl)⟩) hS (fun q _ h => hFc q h) hFc (fun r6 u t H locs ht hvm hw hB hz1 hk1 hS => ?_)
          obtain ⟨b1, b2, b3⟩ := hB
          rw [ht] at b1
          obtain ⟨hP, hD, hK⟩ := JOINC (wc := (List.flatten ([(oX5 (p0a 0) p0a p0k p0w_27 p0l_27), (oX1 (p1a 0) p1a p1k p1n p1w_27 p1l)] : List va_W))) (wr := (List.flatten ([(oX9 (p1a 3) p1_2a p1_2k p1_2n p1_2w_27), (oX8 (p0a 1) p0_0a p0_0k p0_0w)] : List va_W))) (w1 := (List.flatten ([(oX5 (p0a 0) p0a p0k p0w_27 p0l_27), (oX1 (p1a 0) p1a p1k p1n p1w_27 p1l)] : List va_W))) (t1 := (List.flatten ([(tX5 p0k), (tX1 p1k)] : List (List (ClassId × FieldType))))) hPx hDx hKx hk1 hFc b1 (va_K.moved hvm.symm b2) b3
          have hP : va_P (dC, dI) cls (List.flatten ([(oX5 (p0a 0) p0a p0k p0w_27 p0l_27), (oX1 (p1a 0) p1a p1k p1n p1w_27 p1l), (oX9 (p1a 3) p1_2a p1_2k p1_2n p1_2w_27), (oX8 (p0a 1) p0_0a p0_0k p0_0w)] : List va_W)) H := vP_perm (vP_fb hP) (bP (List.Perm.refl _))
          have hD : va_D A (List.flatten ([(oX5 (p0a 0) p0a p0k p0w_27 p0l_27), (oX1 (p1a 0) p1a p1k p1n p1w_27 p1l), (oX9 (p1a 3) p1_2a p1_2k p1_2n p1_2w_27), (oX8 (p0a 1) p0_0a p0_0k p0_0w)] : List va_W)) := vD_perm (vD_fb hD) (bP (List.Perm.refl _))
          have hK : va_K (dC, dI) cls (List.flatten ([(tX5 p0k), (tX1 p1k), (tX9 p1_2k), (tX8 p0_0k)] : List (List (ClassId × FieldType)))) s := vK_perm (vK_fb hK) (bP (List.Perm.refl _))
          obtain rfl : o_5 = r6 := hw.symm
          refine lv_istore (lv' := [(5, .int o_5), (0, .ref (p0a 0)), (1, .ref (p1a 0)), (2, .int v2_27), (3, .int v3_27), (4, .int v4_27)]) hx hb dX5_mergeBlocks_43 hl (by decide) rfl (fun ls hl => ?_)
          refine lv_iload hx hb dX5_mergeBlocks_45 (lv_at hl 0 rfl) ?_
          have J55 : ∀ (y0_55 : Int32) (H : Heap) (locs : List Loc) (ls : Array Slot), (fX5_mergeBlocks_J55 (fX5_mergeBlocks_L27 p1n p1_2n n_27) p1n p1_2n v2_27 v4_27 p0w_27 p0l_27 p1w_27 p1_2w_27 o_5 y0_55) = some o27 → va_P (dC, dI) cls (List.flatten ([(oX5 (p0a 0) p0a p0k p0w_27 p0l_27), (oX1 (p1a 0) p1a p1k p1n p1w_27 p1l), (oX9 (p1a 3) p1_2a p1_2k p1_2n p1_2w_27), (oX8 (p0a 1) p0_0a p0_0k p0_0w)] : List va_W)) H → va_D A (List.flatten ([(oX5 (p0a 0) p0a p0k p0w_27 p0l_27), (oX1 (p1a 0) p1a p1k p1n p1w_27 p1l), (oX9 (p1a 3) p1_2a p1_2k p1_2n p1_2w_27), (oX8 (p0a 1) p0_0a p0_0k p0_0w)] : List va_W)) → va_K (dC, dI) cls (List.flatten ([(tX5 p0k), (tX1 p1k), (tX9 p1_2k), (tX8 p0_0k)] : List (List (ClassId × FieldType)))) s → va_S A s.heap H locs → lv_has ls 6 [(0, .ref (p0a 0)), (1, .ref (p1a 0)), (2, .int v2_27), (4, .int v4_27), (5, .int o_5)] → W p l e ({ frames := 5, cells := 0, slots := 0, locals := 121 } : Room) s m ([.ref (p0a 0), .ref (p1a 0)] : List Value).toArray below meth c H locs 0 0 Q (F0 m 55 ls [.int y0_55]) := by
            intro y0_55 H locs ls hrun hP hD hK hS hl 
            unfold fX5_mergeBlocks_J55 at hrun
            refine lv_istore_n (lv' := [(3, .int y0_55), (0, .ref (p0a 0)), (1, .ref (p1a 0)), (2, .int v2_27), (4, .int v4_27), (5, .int o_5)]) hx hb dX5_mergeBlocks_55 rfl hl (by decide) rfl (fun ls hl => ?_)
            refine lv_iload_n hx hb dX5_mergeBlocks_56 rfl (lv_at hl 0 rfl) ?_
            have J77 : ∀ (v2_77 : Int32) (p0w_77 : ST) (p0l_77 : SL) (p1w_77 : ST) (p1_2w_77 : ST) (H : Heap) (locs : List Loc) (ls : Array Slot), (fX5_mergeBlocks_J77 (fX5_mergeBlocks_L27 p1n p1_2n n_27) v4_27 y0_55 v2_77 p0w_77 p0l_77 p1w_77 p1_2w_77) = some o27 → va_P (dC, dI) cls (List.flatten ([(oX5 (p0a 0) p0a p0k p0w_77 p0l_77), (oX1 (p1a 0) p1a p1k p1n p1w_77 p1l), (oX9 (p1a 3) p1_2a p1_2k p1_2n p1_2w_77), (oX8 (p0a 1) p0_0a p0_0k p0_0w)] : List va_W)) H → va_D A (List.flatten ([(oX5 (p0a 0) p0a p0k p0w_77 p0l_77), (oX1 (p1a 0) p1a p1k p1n p1w_77 p1l), (oX9 (p1a 3) p1_2a p1_2k p1_2n p1_2w_77), (oX8 (p0a 1) p0_0a p0_0k p0_0w)] : List va_W)) → va_K (dC, dI) cls (List.flatten ([(tX5 p0k), (tX1 p1k), (tX9 p1_2k), (tX8 p0_0k)] : List (List (ClassId × FieldType)))) s → va_S A s.heap H locs → lv_has ls 6 [(0, .ref (p0a 0)), (1, .ref (p1a 0)), (2, .int v2_77), (3, .int y0_55), (4, .int v4_27)] → W p l e ({ frames := 5, cells := 0, slots := 0, locals := 121 } : Room) s m ([.ref (p0a 0), .ref (p1a 0)] : List Value).toArray below meth c H locs 0 0 Q (F0 m 77 ls []) := by
              intro v2_77 p0w_77 p0l_77 p1w_77 p1_2w_77 H locs ls hrun hP hD hK hS hl 
              unfold fX5_mergeBlocks_J77 at hrun
              refine lv_iinc (v := (v4_27 + 1)) (lv' := [(4, .int (v4_27 + 1)), (0, .ref (p0a 0)), (1, .ref (p1a 0)), (2, .int v2_77), (3, .int y0_55)]) hx hb dX5_mergeBlocks_77 hl (k := 4) rfl rfl (by decide) rfl (fun ls hl => ?_)
              refine lv_goto (tgt := 27) hx hb dX5_mergeBlocks_80 (by decide) ?_
              exact IH27 v2_77 y0_55 (v4_27 + 1) p0w_77 p0l_77 p1w_77 p1_2w_77 o27 _ _ _ hrun hP hD hK hS (lv_sub hl [1, 2, 3, 4, 0] rfl) hk27
            rcases br9 hrun with ⟨hc7, hrun⟩ | ⟨hc7, hrun⟩
            · refine lv_if_eq (tgt := 77) hx hb dX5_mergeBlocks_57 (by decide) (fun _ => ?_) (fun c => absurd hc7 c)
              exact J77 v2_27 p0w_27 p0l_27 p1w_27 p1_2w_27 _ _ _ hrun hP hD hK hS (lv_sub hl [1, 2, 3, 0, 4] rfl)
            · refine lv_if_eq (tgt := 77) hx hb dX5_mergeBlocks_57 (by decide) (fun c => absurd c hc7) (fun _ => ?_)
              refine lv_aload_n hx hb dX5_mergeBlocks_60 rfl (lv_at hl 1 rfl) ?_
              refine lv_aload_n hx hb dX5_mergeBlocks_61 rfl (lv_at hl 2 rfl) ?_
              refine lv_iload hx hb dX5_mergeBlocks_62 (lv_at hl 5 rfl) ?_
              refine lv_aload_n hx hb dX5_mergeBlocks_64 rfl (lv_at hl 2 rfl) ?_
              refine va_get (D := (dC, dI)) (ci := 4) (v := .ref (p1a 10)) (C := RX1) (T := TX1) (N := 21) hx hb hts i_X1 hown hK hP 10 rfl rfl 9 (by decide) (hts _ qw498) (fun _ h9 => h9) rfl dX5_mergeBlocks_65 ?_
              refine lv_iload hx hb dX5_mergeBlocks_68 (lv_at hl 5 rfl) ?_
              obtain ⟨hq8, hrun⟩ := chk9 hrun
              refine va_iald hx hb hK hP 17 15 rfl rfl (ixb_in hq8) dX5_mergeBlocks_70 ?_
              obtain ⟨o_9, hc_9, hrun⟩ := bnd9 hrun
              have hPx : va_P (dC, dI) cls ((List.flatten ([(oX5 (p0a 0) p0a p0k p0w_27 p0l_27), (oX1 (p1a 0) p1a p1k p1n p1w_27 p1l), (oX9 (p1a 3) p1_2a p1_2k p1_2n p1_2w_27)] : List va_W)) ++ (List.flatten ([(oX8 (p0a 1) p0_0a p0_0k p0_0w)] : List va_W))) H := vP_fa (vP_perm hP (bP (List.Perm.refl _)))
              have hDx : va_D A ((List.flatten ([(oX5 (p0a 0) p0a p0k p0w_27 p0l_27), (oX1 (p1a 0) p1a p1k p1n p1w_27 p1l), (oX9 (p1a 3) p1_2a p1_2k p1_2n p1_2w_27)] : List va_W)) ++ (List.flatten ([(oX8 (p0a 1) p0_0a p0_0k p0_0w)] : List va_W))) := vD_fa (vD_perm hD (bP (List.Perm.refl _)))
              have hKx : va_K (dC, dI) cls ((List.flatten ([(tX5 p0k), (tX1 p1k), (tX9 p1_2k)] : List (List (ClassId × FieldType)))) ++ (List.flatten ([(tX8 p0_0k)] : List (List (ClassId × FieldType))))) s := vK_fa (vK_perm hK (bP (List.Perm.refl _)))
              have hPc := vP_l hPx
              have hDc := vD_l hDx
              have hKc := vK_l hKx
              have hFc := vfree hDx hS hA
              refine va_callv (va_runV (As := [.ref (p1a 0), .int o_5, .int (p1w_27 10 (nn o_5))]) (rest := []) ⟨hx, hb, hml, hown, hts⟩ (kX5_mergeInto l dC dI (p0a := p0a) (p0k := p0k) (p0w := p0w_27) (p0l := p0l_27) (p1a := p1a) (p1k := p1k) (p1n := p1n) (p1w := p1w_27) (p1l := p1l) (p2 := o_5) (p3 := (p1w_27 10 (nn o_5))) (p1_2a := p1_2a) (p1_2k := p1_2k) (p1_2n := p1_2n) (p1_2w := p1_2w_27) (sz := _) (o := o_9) (hrun := hc_9)) (cwV 3 hts (gi_V qw615 qw616 qw617 qw442 (gi_z qw614)) rfl rfl rfl (by decide +kernel) ⟨Nat.le_of_ble_eq_true rfl, Nat.le_of_ble_eq_true rfl⟩) ⟨PRE.blind, va_recv hKc hPc (ci := 7) (q0 := 0) rfl rfl, PRE.of hE hS hFc hPc hKc hDc⟩ rfl rfl hl.1 rfl (lv_room (Nat.le_of_ble_eq_true rfl)) dX5_mergeBlocks_71 ⟨(Nat.le_of_ble_eq_true rfl), (Nat.le_of_ble_eq_true rfl)⟩) hS (fun q _ h => hFc q h) hFc (fun u t H locs ht hvm hw hB hz1 hk1 hS => ?_)
              obtain ⟨b1, b2, b3⟩ := hB
              rw [ht] at b1
              obtain ⟨hP, hD, hK⟩ := JOINC (wc := (List.flatten ([(oX5 (p0a 0) p0a p0k p0w_27 p0l_27), (oX1 (p1a 0) p1a p1k p1n p1w_27 p1l), (oX9 (p1a 3) p1_2a p1_2k p1_2n p1_2w_27)] : List va_W))) (wr := (List.flatten ([(oX8 (p0a 1) p0_0a p0_0k p0_0w)] : List va_W))) (w1 := (List.flatten ([(oX5 (p0a 0) p0a p0k (o_9.1) (o_9.2.1)), (oX1 (p1a 0) p1a p1k p1n (o_9.2.2.1) p1l), (oX9 (p1a 3) p1_2a p1_2k p1_2n (o_9.2.2.2))] : List va_W))) (t1 := (List.flatten ([(tX5 p0k), (tX1 p1k), (tX9 p1_2k)] : List (List (ClassId × FieldType))))) hPx hDx hKx hk1 hFc b1 (va_K.moved hvm.symm b2) b3
              have hP : va_P (dC, dI) cls (List.flatten ([(oX5 (p0a 0) p0a p0k (o_9.1) (o_9.2.1)), (oX1 (p1a 0) p1a p1k p1n (o_9.2.2.1) p1l), (oX9 (p1a 3) p1_2a p1_2k p1_2n (o_9.2.2.2)), (oX8 (p0a 1) p0_0a p0_0k p0_0w)] : List va_W)) H := vP_perm (vP_fb hP) (bP (List.Perm.refl _))
              have hD : va_D A (List.flatten ([(oX5 (p0a 0) p0a p0k (o_9.1) (o_9.2.1)), (oX1 (p1a 0) p1a p1k p1n (o_9.2.2.1) p1l), (oX9 (p1a 3) p1_2a p1_2k p1_2n (o_9.2.2.2)), (oX8 (p0a 1) p0_0a p0_0k p0_0w)] : List va_W)) := vD_perm (vD_fb hD) (bP (List.Perm.refl _))
              have hK : va_K (dC, dI) cls (List.flatten ([(tX5 p0k), (tX1 p1k), (tX9 p1_2k), (tX8 p0_0k)] : List (List (ClassId × FieldType)))) s := vK_perm (vK_fb hK) (bP (List.Perm.refl _))
              refine lv_iinc (v := (v2_27 + 1)) (lv' := [(2, .int (v2_27 + 1)), (3, .int y0_55), (0, .ref (p0a 0)), (1, .ref (p1a 0)), (4, .int v4_27), (5, .int o_5)]) hx hb dX5_mergeBlocks_74 hl (k := 3) rfl rfl (by decide) rfl (fun ls hl => ?_)
              exact J77 (v2_27 + 1) (o_9.1) (o_9.2.1) (o_9.2.2.1) (o_9.2.2.2) _ _ _ hrun hP hD hK hS (lv_sub hl [2, 3, 0, 1, 4] rfl)
          rcases br9 hrun with ⟨hc10, hrun⟩ | ⟨hc10, hrun⟩
          · refine lv_if_lt (tgt := 54) hx hb dX5_mergeBlocks_47 (by decide) (fun _ => ?_) (fun c => absurd hc10 c)
            refine lv_iconst (v := 0) hx hb dX5_mergeBlocks_54 (by decide) ?_
            exact J55 0 _ _ _ hrun hP hD hK hS (lv_sub hl [1, 2, 3, 5, 0] rfl)
          · refine lv_if_lt (tgt := 54) hx hb dX5_mergeBlocks_47 (by decide) (fun c => absurd c hc10) (fun _ => ?_)
            refine lv_iconst (v := 1) hx hb dX5_mergeBlocks_50 (by decide) ?_
            refine lv_goto (tgt := 55) hx hb dX5_mergeBlocks_51 (by decide) ?_
            exact J55 1 _ _ _ hrun hP hD hK hS (lv_sub hl [1, 2, 3, 5, 0] rfl)
  obtain ⟨o27, hc27, hrun⟩ := bnd9 hrun
  refine L27 NF 0 1 0 (srw p0w 6 o_1) l2 p1w p1_2w o27 _ _ _ hc27 hP hD hK hS (lv_sub hl [3, 4, 2, 1, 0] rfl) ?_
  intro H locs ls hP hD hK hS hl
  have hl := hl
  refine lv_iload_n hx hb dX5_mergeBlocks_83 rfl (lv_at hl 2 rfl) ?_
  have J100 : ∀ (p1w_100 : ST) (p1l_100 : SL) (p1_2w_100 : ST) (p0_0w_100 : ST) (H : Heap) (locs : List Loc) (ls : Array Slot), (fX5_mergeBlocks_J100 o27 p1w_100 p1l_100 p1_2w_100 p0_0w_100) = some o → va_P (dC, dI) cls (List.flatten ([(oX5 (p0a 0) p0a p0k (o27.2.1) (o27.2.2.1)), (oX1 (p1a 0) p1a p1k p1n p1w_100 p1l_100), (oX9 (p1a 3) p1_2a p1_2k p1_2n p1_2w_100), (oX8 (p0a 1) p0_0a p0_0k p0_0w_100)] : List va_W)) H → va_D A (List.flatten ([(oX5 (p0a 0) p0a p0k (o27.2.1) (o27.2.2.1)), (oX1 (p1a 0) p1a p1k p1n p1w_100 p1l_100), (oX9 (p1a 3) p1_2a p1_2k p1_2n p1_2w_100), (oX8 (p0a 1) p0_0a p0_0k p0_0w_100)] : List va_W)) → va_K (dC, dI) cls (List.flatten ([(tX5 p0k), (tX1 p1k), (tX9 p1_2k), (tX8 p0_0k)] : List (List (ClassId × FieldType)))) s → va_S A s.heap H locs → lv_has ls 6 [(2, .int (o27.1))] → W p l e ({ frames := 5, cells := 0, slots := 0, locals := 121 } : Room) s m ([.ref (p0a 0), .ref (p1a 0)] : List Value).toArray below meth c H locs 0 0 Q (F0 m 100 ls []) := by
    intro p1w_100 p1l_100 p1_2w_100 p0_0w_100 H locs ls hrun hP hD hK hS hl 
    unfold fX5_mergeBlocks_J100 at hrun
    refine lv_iload_n hx hb dX5_mergeBlocks_100 rfl (lv_at hl 0 rfl) ?_
    have ho9 : ((o27.1), (o27.2.1), (o27.2.2.1), p1w_100, p1l_100, p1_2w_100, p0_0w_100) = o := Option.some.inj hrun
    have hP9 : va_P (dC, dI) cls (List.flatten ([(oX5 (p0a 0) p0a p0k (o.2.1) (o.2.2.1)), (oX1 (p1a 0) p1a p1k p1n (o.2.2.2.1) (o.2.2.2.2.1)), (oX9 (p1a 3) p1_2a p1_2k p1_2n (o.2.2.2.2.2.1)), (oX8 (p0a 1) p0_0a p0_0k (o.2.2.2.2.2.2))] : List va_W)) H := by first | exact hP | (rw [← ho9]; exact hP)
    have hD9 : va_D A (List.flatten ([(oX5 (p0a 0) p0a p0k (o.2.1) (o.2.2.1)), (oX1 (p1a 0) p1a p1k p1n (o.2.2.2.1) (o.2.2.2.2.1)), (oX9 (p1a 3) p1_2a p1_2k p1_2n (o.2.2.2.2.2.1)), (oX8 (p0a 1) p0_0a p0_0k (o.2.2.2.2.2.2))] : List va_W)) := by first | exact hD | (rw [← ho9]; exact hD)
    subst hQ
    exact W.iret (v := (o27.1)) hx hb hr (fun t ht hW => ⟨⟨(o27.1), (), rfl, (by rw [← ho9]), ⟨by rw [ht]; exact hP9, va_K.moved hW.alike hK, hD9⟩⟩, hS.F ht⟩) hS.2.2 dX5_mergeBlocks_101
  rcases br9 hrun with ⟨hc11, hrun⟩ | ⟨hc11, hrun⟩
  · refine lv_if_le (tgt := 100) hx hb dX5_mergeBlocks_84 (by decide) (fun _ => ?_) (fun c => absurd hc11 c)
    exact J100 (o27.2.2.2.1) p1l (o27.2.2.2.2) p0_0w _ _ _ hrun hP hD hK hS (lv_sub hl [2] rfl)
  · refine lv_if_le (tgt := 100) hx hb dX5_mergeBlocks_84 (by decide) (fun c => absurd c hc11) (fun _ => ?_)
    refine lv_aload_n hx hb dX5_mergeBlocks_87 rfl (lv_at hl 0 rfl) ?_
    refine va_get (D := (dC, dI)) (ci := 7) (v := .ref (p0a 1)) (C := RX5) (T := TX5) (N := 12) hx hb hts i_X5 hown hK hP 0 rfl rfl 0 (by decide) (hts _ qw533) (fun _ h9 => h9) rfl dX5_mergeBlocks_88 ?_
    refine lv_aload_n hx hb dX5_mergeBlocks_91 rfl (lv_at hl 1 rfl) ?_
    obtain ⟨o_12, hc_12, hrun⟩ := bnd9 hrun
    have hPx : va_P (dC, dI) cls ((List.flatten ([(oX8 (p0a 1) p0_0a p0_0k p0_0w), (oX1 (p1a 0) p1a p1k p1n (o27.2.2.2.1) p1l)] : List va_W)) ++ (List.flatten ([(oX5 (p0a 0) p0a p0k (o27.2.1) (o27.2.2.1)), (oX9 (p1a 3) p1_2a p1_2k p1_2n (o27.2.2.2.2))] : List va_W))) H := vP_fa (vP_perm hP (bP ((((((((((((List.Perm.refl _)).cons _).trans (List.Perm.swap _ _ _))).cons _).trans (List.Perm.swap _ _ _))).cons _).trans (List.Perm.swap _ _ _))).trans ((((((List.Perm.refl _)).cons _).trans (List.Perm.swap _ _ _))).cons _))))
    have hDx : va_D A ((List.flatten ([(oX8 (p0a 1) p0_0a p0_0k p0_0w), (oX1 (p1a 0) p1a p1k p1n (o27.2.2.2.1) p1l)] : List va_W)) ++ (List.flatten ([(oX5 (p0a 0) p0a p0k (o27.2.1) (o27.2.2.1)), (oX9 (p1a 3) p1_2a p1_2k p1_2n (o27.2.2.2.2))] : List va_W))) := vD_fa (vD_perm hD (bP ((((((((((((List.Perm.refl _)).cons _).trans (List.Perm.swap _ _ _))).cons _).trans (List.Perm.swap _ _ _))).cons _).trans (List.Perm.swap _ _ _))).trans ((((((List.Perm.refl _)).cons _).trans (List.Perm.swap _ _ _))).cons _))))
    have hKx : va_K (dC, dI) cls ((List.flatten ([(tX8 p0_0k), (tX1 p1k)] : List (List (ClassId × FieldType)))) ++ (List.flatten ([(tX5 p0k), (tX9 p1_2k)] : List (List (ClassId × FieldType))))) s := vK_fa (vK_perm hK (bP ((((((((((((List.Perm.refl _)).cons _).trans (List.Perm.swap _ _ _))).cons _).trans (List.Perm.swap _ _ _))).cons _).trans (List.Perm.swap _ _ _))).trans ((((((List.Perm.refl _)).cons _).trans (List.Perm.swap _ _ _))).cons _))))
    have hPc := vP_l hPx
    have hDc := vD_l hDx
    have hKc := vK_l hKx
    have hFc := vfree hDx hS hA
    refine va_callv (va_runV (As := [.ref (p1a 0)]) (rest := []) ⟨hx, hb, hml, hown, hts⟩ (kX8_renumber l dC dI (p0a := (st0 (p0a 1) p0_0a)) (p0k := p0_0k) (p0w := p0_0w) (p1a := p1a) (p1k := p1k) (p1n := p1n) (p1w := (o27.2.2.2.1)) (p1l := p1l) (sz := _) (o := o_12) (hrun := hc_12)) (cwV 1 hts (gi_V qw534 qw381 qw382 qw197 (gi_z qw379)) rfl rfl rfl (by decide +kernel) ⟨Nat.le_of_ble_eq_true rfl, Nat.le_of_ble_eq_true rfl⟩) ⟨PRE.blind, va_recv hKc hPc (ci := 5) (q0 := 0) rfl rfl, PRE.of hE hS hFc hPc hKc hDc⟩ rfl rfl hl.1 rfl (lv_room (Nat.le_of_ble_eq_true rfl)) dX5_mergeBlocks_92 ⟨(Nat.le_of_ble_eq_true rfl), (Nat.le_of_ble_eq_true rfl)⟩) hS (fun q _ h => hFc q h) hFc (fun u t H locs ht hvm hw hB hz1 hk1 hS => ?_)
    obtain ⟨b1, b2, b3⟩ := hB
    rw [ht] at b1
    obtain ⟨hP, hD, hK⟩ := JOINC (wc := (List.flatten ([(oX8 (p0a 1) p0_0a p0_0k p0_0w), (oX1 (p1a 0) p1a p1k p1n (o27.2.2.2.1) p1l)] : List va_W))) (wr := (List.flatten ([(oX5 (p0a 0) p0a p0k (o27.2.1) (o27.2.2.1)), (oX9 (p1a 3) p1_2a p1_2k p1_2n (o27.2.2.2.2))] : List va_W))) (w1 := (List.flatten ([(oX8 (p0a 1) p0_0a p0_0k (o_12.1)), (oX1 (p1a 0) p1a p1k p1n (o_12.2.1) (o_12.2.2))] : List va_W))) (t1 := (List.flatten ([(tX8 p0_0k), (tX1 p1k)] : List (List (ClassId × FieldType))))) hPx hDx hKx hk1 hFc b1 (va_K.moved hvm.symm b2) b3
    have hP : va_P (dC, dI) cls (List.flatten ([(oX5 (p0a 0) p0a p0k (o27.2.1) (o27.2.2.1)), (oX1 (p1a 0) p1a p1k p1n (o_12.2.1) (o_12.2.2)), (oX9 (p1a 3) p1_2a p1_2k p1_2n (o27.2.2.2.2)), (oX8 (p0a 1) p0_0a p0_0k (o_12.1))] : List va_W)) H := vP_perm (vP_fb hP) (bP (((((((((List.Perm.refl _)).cons _).trans (List.Perm.swap _ _ _))).cons _).trans (List.Perm.swap _ _ _))).trans ((((((((List.Perm.refl _)).cons _).trans (List.Perm.swap _ _ _))).trans ((((((List.Perm.refl _)).cons _).trans (List.Perm.swap _ _ _))).cons _))).cons _)))
    have hD : va_D A (List.flatten ([(oX5 (p0a 0) p0a p0k (o27.2.1) (o27.2.2.1)), (oX1 (p1a 0) p1a p1k p1n (o_12.2.1) (o_12.2.2)), (oX9 (p1a 3) p1_2a p1_2k p1_2n (o27.2.2.2.2)), (oX8 (p0a 1) p0_0a p0_0k (o_12.1))] : List va_W)) := vD_perm (vD_fb hD) (bP (((((((((List.Perm.refl _)).cons _).trans (List.Perm.swap _ _ _))).cons _).trans (List.Perm.swap _ _ _))).trans ((((((((List.Perm.refl _)).cons _).trans (List.Perm.swap _ _ _))).trans ((((((List.Perm.refl _)).cons _).trans (List.Perm.swap _ _ _))).cons _))).cons _)))
    have hK : va_K (dC, dI) cls (List.flatten ([(tX5 p0k), (tX1 p1k), (tX9 p1_2k), (tX8 p0_0k)] : List (List (ClassId × FieldType)))) s := vK_perm (vK_fb hK) (bP (((((((((List.Perm.refl _)).cons _).trans (List.Perm.swap _ _ _))).cons _).trans (List.Perm.swap _ _ _))).trans ((((((((List.Perm.refl _)).cons _).trans (List.Perm.swap _ _ _))).trans ((((((List.Perm.refl _)).cons _).trans (List.Perm.swap _ _ _))).cons _))).cons _)))
    refine lv_aload_n hx hb dX5_mergeBlocks_95 rfl (lv_at hl 0 rfl) ?_
    refine lv_aload_n hx hb dX5_mergeBlocks_96 rfl (lv_at hl 1 rfl) ?_
    obtain ⟨o_13, hc_13, hrun⟩ := bnd9 hrun
    have hPx : va_P (dC, dI) cls ((List.flatten ([(oX5 (p0a 0) p0a p0k (o27.2.1) (o27.2.2.1)), (oX1 (p1a 0) p1a p1k p1n (o_12.2.1) (o_12.2.2)), (oX9 (p1a 3) p1_2a p1_2k p1_2n (o27.2.2.2.2))] : List va_W)) ++ (List.flatten ([(oX8 (p0a 1) p0_0a p0_0k (o_12.1))] : List va_W))) H := vP_fa (vP_perm hP (bP (List.Perm.refl _)))
    have hDx : va_D A ((List.flatten ([(oX5 (p0a 0) p0a p0k (o27.2.1) (o27.2.2.1)), (oX1 (p1a 0) p1a p1k p1n (o_12.2.1) (o_12.2.2)), (oX9 (p1a 3) p1_2a p1_2k p1_2n (o27.2.2.2.2))] : List va_W)) ++ (List.flatten ([(oX8 (p0a 1) p0_0a p0_0k (o_12.1))] : List va_W))) := vD_fa (vD_perm hD (bP (List.Perm.refl _)))
    have hKx : va_K (dC, dI) cls ((List.flatten ([(tX5 p0k), (tX1 p1k), (tX9 p1_2k)] : List (List (ClassId × FieldType)))) ++ (List.flatten ([(tX8 p0_0k)] : List (List (ClassId × FieldType))))) s := vK_fa (vK_perm hK (bP (List.Perm.refl _)))
    have hPc := vP_l hPx
    have hDc := vD_l hDx
    have hKc := vK_l hKx
    have hFc := vfree hDx hS hA
    refine va_callv (va_runV (As := [.ref (p1a 0)]) (rest := []) ⟨hx, hb, hml, hown, hts⟩ (kX5_useStandIns l dC dI (p0a := p0a) (p0k := p0k) (p0w := (o27.2.1)) (p0l := (o27.2.2.1)) (p1a := p1a) (p1k := p1k) (p1n := p1n) (p1w := (o_12.2.1)) (p1l := (o_12.2.2)) (p1_2a := p1_2a) (p1_2k := p1_2k) (p1_2n := p1_2n) (p1_2w := (o27.2.2.2.2)) (sz := _) (o := o_13) (hrun := hc_13)) (cwV 1 hts (gi_V qw592 qw593 qw594 qw442 (gi_z qw591)) rfl rfl rfl (by decide +kernel) ⟨Nat.le_of_ble_eq_true rfl, Nat.le_of_ble_eq_true rfl⟩) ⟨PRE.blind, va_recv hKc hPc (ci := 7) (q0 := 0) rfl rfl, PRE.of hE hS hFc hPc hKc hDc⟩ rfl rfl hl.1 rfl (lv_room (Nat.le_of_ble_eq_true rfl)) dX5_mergeBlocks_97 ⟨(Nat.le_of_ble_eq_true rfl), (Nat.le_of_ble_eq_true rfl)⟩) hS (fun q _ h => hFc q h) hFc (fun u t H locs ht hvm hw hB hz1 hk1 hS => ?_)
    obtain ⟨b1, b2, b3⟩ := hB
    rw [ht] at b1
    obtain ⟨hP, hD, hK⟩ := JOINC (wc := (List.flatten ([(oX5 (p0a 0) p0a p0k (o27.2.1) (o27.2.2.1)), (oX1 (p1a 0) p1a p1k p1n (o_12.2.1) (o_12.2.2)), (oX9 (p1a 3) p1_2a p1_2k p1_2n (o27.2.2.2.2))] : List va_W))) (wr := (List.flatten ([(oX8 (p0a 1) p0_0a p0_0k (o_12.1))] : List va_W))) (w1 := (List.flatten ([(oX5 (p0a 0) p0a p0k (o27.2.1) (o27.2.2.1)), (oX1 (p1a 0) p1a p1k p1n (o_13.1) (o_12.2.2)), (oX9 (p1a 3) p1_2a p1_2k p1_2n (o_13.2))] : List va_W))) (t1 := (List.flatten ([(tX5 p0k), (tX1 p1k), (tX9 p1_2k)] : List (List (ClassId × FieldType))))) hPx hDx hKx hk1 hFc b1 (va_K.moved hvm.symm b2) b3
    have hP : va_P (dC, dI) cls (List.flatten ([(oX5 (p0a 0) p0a p0k (o27.2.1) (o27.2.2.1)), (oX1 (p1a 0) p1a p1k p1n (o_13.1) (o_12.2.2)), (oX9 (p1a 3) p1_2a p1_2k p1_2n (o_13.2)), (oX8 (p0a 1) p0_0a p0_0k (o_12.1))] : List va_W)) H := vP_perm (vP_fb hP) (bP (List.Perm.refl _))
    have hD : va_D A (List.flatten ([(oX5 (p0a 0) p0a p0k (o27.2.1) (o27.2.2.1)), (oX1 (p1a 0) p1a p1k p1n (o_13.1) (o_12.2.2)), (oX9 (p1a 3) p1_2a p1_2k p1_2n (o_13.2)), (oX8 (p0a 1) p0_0a p0_0k (o_12.1))] : List va_W)) := vD_perm (vD_fb hD) (bP (List.Perm.refl _))
    have hK : va_K (dC, dI) cls (List.flatten ([(tX5 p0k), (tX1 p1k), (tX9 p1_2k), (tX8 p0_0k)] : List (List (ClassId × FieldType)))) s := vK_perm (vK_fb hK) (bP (List.Perm.refl _))
    exact J100 (o_13.1) (o_12.2.2) (o_13.2) (o_12.1) _ _ _ hrun hP hD hK hS (lv_sub hl [2] rfl)
def fX0_endLines_J36 (y0_36 : Int32) : Option Int32 := some y0_36
def fX0_endLines_J68 (y0_68 : Int32) : Option Int32 := some y0_68
def fX0_endLines_J67  : Option Int32 := (fX0_endLines_J68 1)
def fX0_endLines (p1 : Int32) (p0_0w : ST) : Option Int32 := (if ixb p1 60 = true then (if (p0_0w 8 (nn p1)) = 22 then (if ixb p1 60 = true then (if (p0_0w 10 (nn p1)) = (p1 + 1) then (fX0_endLines_J36 0) else (fX0_endLines_J36 1)) else none) else (if ixb p1 60 = true then (if (p0_0w 8 (nn p1)) = 23 then ((fX1_leads p0_0w p1 (p1 + 1)).bind fun (o_7 : Int32) => (if o_7 = 0 then (fX0_endLines_J68 2) else (fX0_endLines_J67))) else (fX0_endLines_J67)) else none)) else none)
set_option maxHeartbeats 16000000 in
set_option maxRecDepth 100000 in
theorem kX0_endLines {zs : ZS} (l : Launch) (dC : Nat → ClassId) (dI : Nat → Nat → Nat) (p0a : Nat → Nat) (p0k : Nat → ClassId) (p0n : Nat → Nat) (p0w : ST) (p1 : Int32) (p0_0a : Nat → Nat) (p0_0k : Nat → ClassId) (p0_0n : Nat → Nat) (p0_0w : ST) (p0_0l : SL) (sz : Nat) (o : Int32) (hrun : fX0_endLines p1 p0_0w = some o) : Met l yX0_endLines (wz yX0_endLines cX0_endLines 3 (Option.some Jvm.ClassFile.FieldType.int)) ({ frames := 1, cells := 0, slots := 0, locals := 22 } : Room) (va_Pc [.ref (p0a 0), .int p1] (PRE zs dC dI (List.flatten ([(oX0 (p0a 0) p0a p0k p0n p0w), (oX1 (p0a 1) p0_0a p0_0k p0_0n p0_0w p0_0l)] : List va_W)) (List.flatten ([(tX0 p0k), (tX1 p0_0k)] : List (List (ClassId × FieldType)))) sz)) (va_Qi (fun (r : Int32) (_ : Unit) => r = o) (fun _ t => POST dC dI (List.flatten ([(oX0 (p0a 0) p0a p0k p0n p0w), (oX1 (p0a 1) p0_0a p0_0k p0_0n p0_0w p0_0l)] : List va_W)) (List.flatten ([(tX0 p0k), (tX1 p0_0k)] : List (List (ClassId × FieldType)))) (va_A (List.flatten ([(oX0 (p0a 0) p0a p0k p0n p0w), (oX1 (p0a 1) p0_0a p0_0k p0_0n p0_0w p0_0l)] : List va_W)) sz) t) (va_A (List.flatten ([(oX0 (p0a 0) p0a p0k p0n p0w), (oX1 (p0a 1) p0_0a p0_0k p0_0n p0_0w p0_0l)] : List va_W)) sz)) 0 0 (va_A (List.flatten ([(oX0 (p0a 0) p0a p0k p0n p0w), (oX1 (p0a 1) p0_0a p0_0k p0_0n p0_0w p0_0l)] : List va_W)) sz) := by
  refine Met.ofW (cc := cX0_endLines) (maxL := 3) (ret := (Option.some Jvm.ClassFile.FieldType.int)) (by decide) rfl ?_
  intro p e s m args below meth c s₁ B hml hv
  obtain ⟨rfl, hsz, hP, hK, hD0, hE⟩ := hv
  have hx := B.exec
  have hb := B.bytes
  have hr := B.returns
  have hts0 := atoms_spec (ws := wz yX0_endLines cX0_endLines 3 (Option.some Jvm.ClassFile.FieldType.int)) B.pre
  have hts : ∀ w ∈ gw, w.before _ s = true := fun w h => hts0 w (List.mem_cons_of_mem _ h)
  have hown : s.vm.findClass RX0 = some m.cls := findClass_of_methodNamed B.named
  have hlocks := B.notSynchronized
  subst hsz
  have hD := hD0.self (sz := s.heap.size)
  refine gQ9 ?_
  intro Q hQ
  generalize hAe : va_A (List.flatten ([(oX0 (p0a 0) p0a p0k p0n p0w), (oX1 (p0a 1) p0_0a p0_0k p0_0n p0_0w p0_0l)] : List va_W)) s.heap.size = A at hD hE hQ
  have hA : ∀ q : Nat, s.heap.size ≤ q → A q := fun q h => by rw [← hAe]; exact Or.inr h
  have hS : va_S A s.heap s.heap [] := va_S.rf
  have hP : va_P (dC, dI) cls (List.flatten ([(oX0 (p0a 0) p0a p0k p0n p0w), (oX1 (p0a 1) p0_0a p0_0k p0_0n p0_0w p0_0l)] : List va_W)) s.heap := hP
  have hl := lv_entry ([.ref (p0a 0), .int p1]) (n := 3) (Nat.le_of_ble_eq_true rfl)
  rw [lg_entry_eq]
  generalize (lg_sl ([.ref (p0a 0), .int p1]) ++ List.replicate (3 - (lg_sl ([.ref (p0a 0), .int p1])).length) Slot.unset).toArray = ls at hl ⊢
  have hl : lv_has ls 3 [(0, .ref (p0a 0)), (1, .int p1)] := hl
  obtain ⟨H, hHe⟩ : ∃ H, H = s.heap := ⟨_, rfl⟩
  obtain ⟨locs, hle⟩ : ∃ locs : List Loc, locs = [] := ⟨_, rfl⟩
  rw [← hHe] at hP
  have hS : va_S A s.heap H locs := by rw [hHe, hle]; exact hS
  show W p l e ({ frames := 1, cells := 0, slots := 0, locals := 22 } : Room) s m ([.ref (p0a 0), .int p1] : List Value).toArray below meth c s.heap [] 0 0 Q (F0 m 0 ls [])
  rw [← hle]
  refine wH9 hHe ?_
  unfold fX0_endLines at hrun
  refine lv_iload_n hx hb dX0_endLines_0 rfl (lv_at hl 1 rfl) ?_
  refine lv_iconst (v := 1) hx hb dX0_endLines_1 (by decide) ?_
  refine lv_iadd hx hb dX0_endLines_2 ?_
  refine lv_istore_n (lv' := [(2, .int (p1 + 1)), (0, .ref (p0a 0)), (1, .int p1)]) hx hb dX0_endLines_3 rfl hl (by decide) rfl (fun ls hl => ?_)
  refine lv_aload_n hx hb dX0_endLines_4 rfl (lv_at hl 1 rfl) ?_
  refine va_get (D := (dC, dI)) (ci := 8) (v := .ref (p0a 1)) (C := RX0) (T := TX0) (N := 17) hx hb hts i_X0 hown hK hP 0 rfl rfl 0 (by decide) (hts _ qw618) (fun _ h9 => h9) rfl dX0_endLines_5 ?_
  refine va_get (D := (dC, dI)) (ci := 4) (v := .ref (p0_0a 8)) (C := RX1) (T := TX1) (N := 21) hx hb hts i_X1 hown hK hP 9 rfl rfl 7 (by decide) (hts _ qw619) (fun _ h9 => h9) rfl dX0_endLines_8 ?_
  refine lv_iload_n hx hb dX0_endLines_11 rfl (lv_at hl 2 rfl) ?_
  obtain ⟨hq1, hrun⟩ := chk9 hrun
  refine va_iald hx hb hK hP 14 12 rfl rfl (ixb_in hq1) dX0_endLines_12 ?_
  refine lv_bipush (v := 22) hx hb dX0_endLines_13 (by decide) ?_
  rcases br9 hrun with ⟨hc2, hrun⟩ | ⟨hc2, hrun⟩
  · refine lv_icmp_ne (tgt := 37) hx hb dX0_endLines_15 (by decide) (fun c => absurd hc2 c) (fun _ => ?_)
    refine lv_aload_n hx hb dX0_endLines_18 rfl (lv_at hl 1 rfl) ?_
    refine va_get (D := (dC, dI)) (ci := 8) (v := .ref (p0a 1)) (C := RX0) (T := TX0) (N := 17) hx hb hts i_X0 hown hK hP 0 rfl rfl 0 (by decide) (hts _ qw618) (fun _ h9 => h9) rfl dX0_endLines_19 ?_
    refine va_get (D := (dC, dI)) (ci := 4) (v := .ref (p0_0a 10)) (C := RX1) (T := TX1) (N := 21) hx hb hts i_X1 hown hK hP 9 rfl rfl 9 (by decide) (hts _ qw620) (fun _ h9 => h9) rfl dX0_endLines_22 ?_
    refine lv_iload_n hx hb dX0_endLines_25 rfl (lv_at hl 2 rfl) ?_
    obtain ⟨hq3, hrun⟩ := chk9 hrun
    refine va_iald hx hb hK hP 16 14 rfl rfl (ixb_in hq3) dX0_endLines_26 ?_
    refine lv_iload_n hx hb dX0_endLines_27 rfl (lv_at hl 0 rfl) ?_
    have J36 : ∀ (y0_36 : Int32) (H : Heap) (locs : List Loc) (ls : Array Slot), (fX0_endLines_J36 y0_36) = some o → va_P (dC, dI) cls (List.flatten ([(oX0 (p0a 0) p0a p0k p0n p0w), (oX1 (p0a 1) p0_0a p0_0k p0_0n p0_0w p0_0l)] : List va_W)) H → va_D A (List.flatten ([(oX0 (p0a 0) p0a p0k p0n p0w), (oX1 (p0a 1) p0_0a p0_0k p0_0n p0_0w p0_0l)] : List va_W)) → va_K (dC, dI) cls (List.flatten ([(tX0 p0k), (tX1 p0_0k)] : List (List (ClassId × FieldType)))) s → va_S A s.heap H locs → lv_has ls 3 [] → W p l e ({ frames := 1, cells := 0, slots := 0, locals := 22 } : Room) s m ([.ref (p0a 0), .int p1] : List Value).toArray below meth c H locs 0 0 Q (F0 m 36 ls [.int y0_36]) := by
      intro y0_36 H locs ls hrun hP hD hK hS hl 
      unfold fX0_endLines_J36 at hrun
      have ho9 : y0_36 = o := Option.some.inj hrun
      have hP9 : va_P (dC, dI) cls (List.flatten ([(oX0 (p0a 0) p0a p0k p0n p0w), (oX1 (p0a 1) p0_0a p0_0k p0_0n p0_0w p0_0l)] : List va_W)) H := by first | exact hP | (rw [← ho9]; exact hP)
      have hD9 : va_D A (List.flatten ([(oX0 (p0a 0) p0a p0k p0n p0w), (oX1 (p0a 1) p0_0a p0_0k p0_0n p0_0w p0_0l)] : List va_W)) := by first | exact hD | (rw [← ho9]; exact hD)
      subst hQ
      exact W.iret (v := y0_36) hx hb hr (fun t ht hW => ⟨⟨y0_36, (), rfl, (by rw [← ho9]), ⟨by rw [ht]; exact hP9, va_K.moved hW.alike hK, hD9⟩⟩, hS.F ht⟩) hS.2.2 dX0_endLines_36
    rcases br9 hrun with ⟨hc4, hrun⟩ | ⟨hc4, hrun⟩
    · refine lv_icmp_ne (tgt := 35) hx hb dX0_endLines_28 (by decide) (fun c => absurd hc4 c) (fun _ => ?_)
      refine lv_iconst (v := 0) hx hb dX0_endLines_31 (by decide) ?_
      refine lv_goto (tgt := 36) hx hb dX0_endLines_32 (by decide) ?_
      exact J36 0 _ _ _ hrun hP hD hK hS (lv_sub hl [] rfl)
    · refine lv_icmp_ne (tgt := 35) hx hb dX0_endLines_28 (by decide) (fun _ => ?_) (fun c => absurd c hc4)
      refine lv_iconst (v := 1) hx hb dX0_endLines_35 (by decide) ?_
      exact J36 1 _ _ _ hrun hP hD hK hS (lv_sub hl [] rfl)
  · refine lv_icmp_ne (tgt := 37) hx hb dX0_endLines_15 (by decide) (fun _ => ?_) (fun c => absurd c hc2)
    refine lv_aload_n hx hb dX0_endLines_37 rfl (lv_at hl 1 rfl) ?_
    refine va_get (D := (dC, dI)) (ci := 8) (v := .ref (p0a 1)) (C := RX0) (T := TX0) (N := 17) hx hb hts i_X0 hown hK hP 0 rfl rfl 0 (by decide) (hts _ qw618) (fun _ h9 => h9) rfl dX0_endLines_38 ?_
    refine va_get (D := (dC, dI)) (ci := 4) (v := .ref (p0_0a 8)) (C := RX1) (T := TX1) (N := 21) hx hb hts i_X1 hown hK hP 9 rfl rfl 7 (by decide) (hts _ qw619) (fun _ h9 => h9) rfl dX0_endLines_41 ?_
    refine lv_iload_n hx hb dX0_endLines_44 rfl (lv_at hl 2 rfl) ?_
    obtain ⟨hq5, hrun⟩ := chk9 hrun
    refine va_iald hx hb hK hP 14 12 rfl rfl (ixb_in hq5) dX0_endLines_45 ?_
    refine lv_bipush (v := 23) hx hb dX0_endLines_46 (by decide) ?_
    have J68 : ∀ (y0_68 : Int32) (H : Heap) (locs : List Loc) (ls : Array Slot), (fX0_endLines_J68 y0_68) = some o → va_P (dC, dI) cls (List.flatten ([(oX0 (p0a 0) p0a p0k p0n p0w), (oX1 (p0a 1) p0_0a p0_0k p0_0n p0_0w p0_0l)] : List va_W)) H → va_D A (List.flatten ([(oX0 (p0a 0) p0a p0k p0n p0w), (oX1 (p0a 1) p0_0a p0_0k p0_0n p0_0w p0_0l)] : List va_W)) → va_K (dC, dI) cls (List.flatten ([(tX0 p0k), (tX1 p0_0k)] : List (List (ClassId × FieldType)))) s → va_S A s.heap H locs → lv_has ls 3 [] → W p l e ({ frames := 1, cells := 0, slots := 0, locals := 22 } : Room) s m ([.ref (p0a 0), .int p1] : List Value).toArray below meth c H locs 0 0 Q (F0 m 68 ls [.int y0_68]) := by
      intro y0_68 H locs ls hrun hP hD hK hS hl 
      unfold fX0_endLines_J68 at hrun
      have ho9 : y0_68 = o := Option.some.inj hrun
      have hP9 : va_P (dC, dI) cls (List.flatten ([(oX0 (p0a 0) p0a p0k p0n p0w), (oX1 (p0a 1) p0_0a p0_0k p0_0n p0_0w p0_0l)] : List va_W)) H := by first | exact hP | (rw [← ho9]; exact hP)
      have hD9 : va_D A (List.flatten ([(oX0 (p0a 0) p0a p0k p0n p0w), (oX1 (p0a 1) p0_0a p0_0k p0_0n p0_0w p0_0l)] : List va_W)) := by first | exact hD | (rw [← ho9]; exact hD)
      subst hQ
      exact W.iret (v := y0_68) hx hb hr (fun t ht hW => ⟨⟨y0_68, (), rfl, (by rw [← ho9]), ⟨by rw [ht]; exact hP9, va_K.moved hW.alike hK, hD9⟩⟩, hS.F ht⟩) hS.2.2 dX0_endLines_68
    have J67 : ∀ (H : Heap) (locs : List Loc) (ls : Array Slot), (fX0_endLines_J67) = some o → va_P (dC, dI) cls (List.flatten ([(oX0 (p0a 0) p0a p0k p0n p0w), (oX1 (p0a 1) p0_0a p0_0k p0_0n p0_0w p0_0l)] : List va_W)) H → va_D A (List.flatten ([(oX0 (p0a 0) p0a p0k p0n p0w), (oX1 (p0a 1) p0_0a p0_0k p0_0n p0_0w p0_0l)] : List va_W)) → va_K (dC, dI) cls (List.flatten ([(tX0 p0k), (tX1 p0_0k)] : List (List (ClassId × FieldType)))) s → va_S A s.heap H locs → lv_has ls 3 [] → W p l e ({ frames := 1, cells := 0, slots := 0, locals := 22 } : Room) s m ([.ref (p0a 0), .int p1] : List Value).toArray below meth c H locs 0 0 Q (F0 m 67 ls []) := by
      intro  H locs ls hrun hP hD hK hS hl 
      unfold fX0_endLines_J67 at hrun
      refine lv_iconst (v := 1) hx hb dX0_endLines_67 (by decide) ?_
      exact J68 1 _ _ _ hrun hP hD hK hS (lv_sub hl [] rfl)
    rcases br9 hrun with ⟨hc6, hrun⟩ | ⟨hc6, hrun⟩
    · refine lv_icmp_ne (tgt := 67) hx hb dX0_endLines_48 (by decide) (fun c => absurd hc6 c) (fun _ => ?_)
      refine lv_aload_n hx hb dX0_endLines_51 rfl (lv_at hl 1 rfl) ?_
      refine va_get (D := (dC, dI)) (ci := 8) (v := .ref (p0a 1)) (C := RX0) (T := TX0) (N := 17) hx hb hts i_X0 hown hK hP 0 rfl rfl 0 (by decide) (hts _ qw618) (fun _ h9 => h9) rfl dX0_endLines_52 ?_
      refine lv_iload_n hx hb dX0_endLines_55 rfl (lv_at hl 2 rfl) ?_
      refine lv_iload_n hx hb dX0_endLines_56 rfl (lv_at hl 0 rfl) ?_
      obtain ⟨o_7, hc_7, hrun⟩ := bnd9 hrun
      have hPx : va_P (dC, dI) cls ((List.flatten ([(oX1 (p0a 1) p0_0a p0_0k p0_0n p0_0w p0_0l)] : List va_W)) ++ (List.flatten ([(oX0 (p0a 0) p0a p0k p0n p0w)] : List va_W))) H := vP_fa (vP_perm hP (bP ((((List.Perm.refl _)).cons _).trans (List.Perm.swap _ _ _))))
      have hDx : va_D A ((List.flatten ([(oX1 (p0a 1) p0_0a p0_0k p0_0n p0_0w p0_0l)] : List va_W)) ++ (List.flatten ([(oX0 (p0a 0) p0a p0k p0n p0w)] : List va_W))) := vD_fa (vD_perm hD (bP ((((List.Perm.refl _)).cons _).trans (List.Perm.swap _ _ _))))
      have hKx : va_K (dC, dI) cls ((List.flatten ([(tX1 p0_0k)] : List (List (ClassId × FieldType)))) ++ (List.flatten ([(tX0 p0k)] : List (List (ClassId × FieldType))))) s := vK_fa (vK_perm hK (bP ((((List.Perm.refl _)).cons _).trans (List.Perm.swap _ _ _))))
      have hPc := vP_l hPx
      have hDc := vD_l hDx
      have hKc := vK_l hKx
      have hFc := vfree hDx hS hA
      refine va_calli (va_runV (As := [.int p1, .int (p1 + 1)]) (rest := []) ⟨hx, hb, hml, hown, hts⟩ (kX1_leads l dC dI (p0a := (st0 (p0a 1) p0_0a)) (p0k := p0_0k) (p0n := p0_0n) (p0w := p0_0w) (p0l := p0_0l) (p1 := p1) (p2 := (p1 + 1)) (sz := _) (o := o_7) (hrun := hc_7)) (cwV 2 hts (gi_V qw621 qw204 qw205 qw126 (gi_z qw202)) rfl rfl rfl (by decide +kernel) ⟨Nat.le_of_ble_eq_true rfl, Nat.le_of_ble_eq_true rfl⟩) ⟨PRE.blind, va_recv hKc hPc (ci := 4) (q0 := 0) rfl rfl, PRE.of hE hS hFc hPc hKc hDc⟩ rfl rfl hl.1 rfl (lv_room (Nat.le_of_ble_eq_true rfl)) dX0_endLines_57 ⟨(Nat.le_of_ble_eq_true rfl), (Nat.le_of_ble_eq_true rfl)⟩) hS (fun q _ h => hFc q h) hFc (fun r8 u t H locs ht hvm hw hB hz1 hk1 hS => ?_)
      obtain ⟨b1, b2, b3⟩ := hB
      rw [ht] at b1
      obtain ⟨hP, hD, hK⟩ := JOINC (wc := (List.flatten ([(oX1 (p0a 1) p0_0a p0_0k p0_0n p0_0w p0_0l)] : List va_W))) (wr := (List.flatten ([(oX0 (p0a 0) p0a p0k p0n p0w)] : List va_W))) (w1 := (List.flatten ([(oX1 (p0a 1) p0_0a p0_0k p0_0n p0_0w p0_0l)] : List va_W))) (t1 := (List.flatten ([(tX1 p0_0k)] : List (List (ClassId × FieldType))))) hPx hDx hKx hk1 hFc b1 (va_K.moved hvm.symm b2) b3
      have hP : va_P (dC, dI) cls (List.flatten ([(oX0 (p0a 0) p0a p0k p0n p0w), (oX1 (p0a 1) p0_0a p0_0k p0_0n p0_0w p0_0l)] : List va_W)) H := vP_perm (vP_fb hP) (bP ((((List.Perm.refl _)).cons _).trans (List.Perm.swap _ _ _)))
      have hD : va_D A (List.flatten ([(oX0 (p0a 0) p0a p0k p0n p0w), (oX1 (p0a 1) p0_0a p0_0k p0_0n p0_0w p0_0l)] : List va_W)) := vD_perm (vD_fb hD) (bP ((((List.Perm.refl _)).cons _).trans (List.Perm.swap _ _ _)))
      have hK : va_K (dC, dI) cls (List.flatten ([(tX0 p0k), (tX1 p0_0k)] : List (List (ClassId × FieldType)))) s := vK_perm (vK_fb hK) (bP ((((List.Perm.refl _)).cons _).trans (List.Perm.swap _ _ _)))
      obtain rfl : o_7 = r8 := hw.symm
      rcases br9 hrun with ⟨hc9, hrun⟩ | ⟨hc9, hrun⟩
      · refine lv_if_ne (tgt := 67) hx hb dX0_endLines_60 (by decide) (fun c => absurd hc9 c) (fun _ => ?_)
        refine lv_iconst (v := 2) hx hb dX0_endLines_63 (by decide) ?_
        refine lv_goto (tgt := 68) hx hb dX0_endLines_64 (by decide) ?_
        exact J68 2 _ _ _ hrun hP hD hK hS (lv_sub hl [] rfl)
      · refine lv_if_ne (tgt := 67) hx hb dX0_endLines_60 (by decide) (fun _ => ?_) (fun c => absurd c hc9)
        exact J67 _ _ _ hrun hP hD hK hS (lv_sub hl [] rfl)
    · refine lv_icmp_ne (tgt := 67) hx hb dX0_endLines_48 (by decide) (fun _ => ?_) (fun c => absurd c hc6)
      exact J67 _ _ _ hrun hP hD hK hS (lv_sub hl [] rfl)
def fX0_fetch_J57 (p0w : ST) (p0_0w_57 : ST) (p0_0_2w_57 : ST) (p0_0_2n_57 : Nat → Nat) : Option (Int32 × ST × ST × ST × (Nat → Nat)) := (lt9 (upw p0w 0 8 ((p0w 0 8) + 1)) fun (w2 : ST) => some (((w2 0 8) - 1), w2, p0_0w_57, p0_0_2w_57, p0_0_2n_57))
theorem mo_fX0_fetch_J57 {p0w : ST} {p0_0w_57 : ST} {p0_0_2w_57 : ST} {p0_0_2n_57 : Nat → Nat} {o9q : Int32 × ST × ST × ST × (Nat → Nat)} (hrun : fX0_fetch_J57 p0w p0_0w_57 p0_0_2w_57 p0_0_2n_57 = some o9q) : glX9 p0_0_2n_57 (o9q.2.2.2.2) := by
  unfold fX0_fetch_J57 at hrun
  obtain ⟨w2, ew2, hrun⟩ := let9 hrun
  obtain rfl := (Option.some.inj hrun)
  exact (glX9_rf _)
def fX0_fetch_G31_17 (p0w : ST) (o_5 : Int32 × ST × ST × (Nat → Nat)) : Option (Int32 × ST × ST × ST × (Nat → Nat)) := (fX0_fetch_J57 p0w (o_5.2.1) (o_5.2.2.1) (o_5.2.2.2))
theorem mo_fX0_fetch_G31_17 {p0w : ST} {o_5 : Int32 × ST × ST × (Nat → Nat)} {o9q : Int32 × ST × ST × ST × (Nat → Nat)} (hrun : fX0_fetch_G31_17 p0w o_5 = some o9q) : glX9 (o_5.2.2.2) (o9q.2.2.2.2) := by
  unfold fX0_fetch_G31_17 at hrun
  exact (mo_fX0_fetch_J57 hrun)
def fX0_fetch_G56_31 (p0w : ST) (o_19 : Int32 × ST × ST × (Nat → Nat)) : Option (Int32 × ST × ST × ST × (Nat → Nat)) := (fX0_fetch_J57 p0w (o_19.2.1) (o_19.2.2.1) (o_19.2.2.2))
theorem mo_fX0_fetch_G56_31 {p0w : ST} {o_19 : Int32 × ST × ST × (Nat → Nat)} {o9q : Int32 × ST × ST × ST × (Nat → Nat)} (hrun : fX0_fetch_G56_31 p0w o_19 = some o9q) : glX9 (o_19.2.2.2) (o9q.2.2.2.2) := by
  unfold fX0_fetch_G56_31 at hrun
  exact (mo_fX0_fetch_J57 hrun)
def fX0_fetch (p0n : Nat → Nat) (p0w : ST) (p1 : Int32) (p2 : Int32) (p0_0w : ST) (p0_0_2n : Nat → Nat) (p0_0_2w : ST) : Option (Int32 × ST × ST × ST × (Nat → Nat)) := (if ixb p2 (p0n 13) = true then (if (p0w 13 (nn p2)) = (-2) then (if ixb p2 (p0n 14) = true then ((fX1_addStep p0_0w p1 0 (p0w 0 8) (p0w 14 (nn p2)) (-1) p0_0_2n p0_0_2w).bind fun (o_5 : Int32 × ST × ST × (Nat → Nat)) => (fX0_fetch_G31_17 p0w o_5)) else none) else (if ixb p2 (p0n 13) = true then ((fX1_addStep p0_0w p1 26 (p0w 0 8) (p0w 13 (nn p2)) (-1) p0_0_2n p0_0_2w).bind fun (o_19 : Int32 × ST × ST × (Nat → Nat)) => (fX0_fetch_G56_31 p0w o_19)) else none)) else none)
theorem mo_fX0_fetch {p0n : Nat → Nat} {p0w : ST} {p1 : Int32} {p2 : Int32} {p0_0w : ST} {p0_0_2n : Nat → Nat} {p0_0_2w : ST} {o9q : Int32 × ST × ST × ST × (Nat → Nat)} (hrun : fX0_fetch p0n p0w p1 p2 p0_0w p0_0_2n p0_0_2w = some o9q) : glX9 p0_0_2n (o9q.2.2.2.2) := by
  unfold fX0_fetch at hrun
  obtain ⟨hq1, hrun⟩ := chk9 hrun
  rcases br9 hrun with ⟨hc3, hrun⟩ | ⟨hc3, hrun⟩
  · skip
    obtain ⟨hq4, hrun⟩ := chk9 hrun
    obtain ⟨o_5, hc_5, hrun⟩ := bnd9 hrun
    exact (glX9_tr (mo_fX1_addStep hc_5) (mo_fX0_fetch_G31_17 hrun))
  · skip
    obtain ⟨hq18, hrun⟩ := chk9 hrun
    obtain ⟨o_19, hc_19, hrun⟩ := bnd9 hrun
    exact (glX9_tr (mo_fX1_addStep hc_19) (mo_fX0_fetch_G56_31 hrun))
set_option maxHeartbeats 16000000 in
set_option maxRecDepth 100000 in
theorem kX0_fetch {zs : ZS} (l : Launch) (dC : Nat → ClassId) (dI : Nat → Nat → Nat) (p0a : Nat → Nat) (p0k : Nat → ClassId) (p0n : Nat → Nat) (p0w : ST) (p1 : Int32) (p2 : Int32) (p0_0a : Nat → Nat) (p0_0k : Nat → ClassId) (p0_0n : Nat → Nat) (p0_0w : ST) (p0_0l : SL) (p0_0_2a : Nat → Nat) (p0_0_2k : Nat → ClassId) (p0_0_2n : Nat → Nat) (p0_0_2w : ST) (sz : Nat) (o : Int32 × ST × ST × ST × (Nat → Nat)) (hrun : fX0_fetch p0n p0w p1 p2 p0_0w p0_0_2n p0_0_2w = some o) : Met l yX0_fetch (wz yX0_fetch cX0_fetch 3 (Option.some Jvm.ClassFile.FieldType.int)) ({ frames := 4, cells := (hcX9 p0_0_2n (o.2.2.2.2)), slots := (3 * (gcX9 p0_0_2n (o.2.2.2.2))), locals := 113 } : Room) (va_Pc [.ref (p0a 0), .int p1, .int p2] (PRE zs dC dI (List.flatten ([(oX0 (p0a 0) p0a p0k p0n p0w), (oX1 (p0a 1) p0_0a p0_0k p0_0n p0_0w p0_0l), (oX9 (p0_0a 3) p0_0_2a p0_0_2k p0_0_2n p0_0_2w)] : List va_W)) (List.flatten ([(tX0 p0k), (tX1 p0_0k), (tX9 p0_0_2k)] : List (List (ClassId × FieldType)))) sz)) (va_Qi (fun (r : Int32) (_ : Unit) => r = (o.1)) (fun _ t => ∃ (xp0_0_2_1_z : Nat), ∃ (zp0_0_2_1_z : ClassId), ∃ (xp0_0_2_2_z : Nat), ∃ (zp0_0_2_2_z : ClassId), ∃ (xp0_0_2_3_z : Nat), ∃ (zp0_0_2_3_z : ClassId), ∃ (xp0_0_2_4_z : Nat), ∃ (zp0_0_2_4_z : ClassId), ∃ (xp0_0_2_5_z : Nat), ∃ (zp0_0_2_5_z : ClassId), POST dC dI (List.flatten ([(oX0 (p0a 0) p0a p0k p0n (o.2.1)), (oX1 (p0a 1) p0_0a p0_0k p0_0n (o.2.2.1) p0_0l), (oX9 (p0_0a 3) (st1 (st1 (st1 (st1 (st1 p0_0_2a 2 xp0_0_2_1_z) 3 xp0_0_2_2_z) 4 xp0_0_2_3_z) 5 xp0_0_2_4_z) 6 xp0_0_2_5_z) (st1 (st1 (st1 (st1 (st1 p0_0_2k 2 zp0_0_2_1_z) 3 zp0_0_2_2_z) 4 zp0_0_2_3_z) 5 zp0_0_2_4_z) 6 zp0_0_2_5_z) (o.2.2.2.2) (o.2.2.2.1))] : List va_W)) (List.flatten ([(tX0 p0k), (tX1 p0_0k), (tX9 (st1 (st1 (st1 (st1 (st1 p0_0_2k 2 zp0_0_2_1_z) 3 zp0_0_2_2_z) 4 zp0_0_2_3_z) 5 zp0_0_2_4_z) 6 zp0_0_2_5_z))] : List (List (ClassId × FieldType)))) (va_A (List.flatten ([(oX0 (p0a 0) p0a p0k p0n p0w), (oX1 (p0a 1) p0_0a p0_0k p0_0n p0_0w p0_0l), (oX9 (p0_0a 3) p0_0_2a p0_0_2k p0_0_2n p0_0_2w)] : List va_W)) sz) t) (va_A (List.flatten ([(oX0 (p0a 0) p0a p0k p0n p0w), (oX1 (p0a 1) p0_0a p0_0k p0_0n p0_0w p0_0l), (oX9 (p0_0a 3) p0_0_2a p0_0_2k p0_0_2n p0_0_2w)] : List va_W)) sz)) (hcX9 p0_0_2n (o.2.2.2.2)) (3 * (gcX9 p0_0_2n (o.2.2.2.2))) (va_A (List.flatten ([(oX0 (p0a 0) p0a p0k p0n p0w), (oX1 (p0a 1) p0_0a p0_0k p0_0n p0_0w p0_0l), (oX9 (p0_0a 3) p0_0_2a p0_0_2k p0_0_2n p0_0_2w)] : List va_W)) sz) := by
  refine Met.ofW (cc := cX0_fetch) (maxL := 3) (ret := (Option.some Jvm.ClassFile.FieldType.int)) (by decide) rfl ?_
  intro p e s m args below meth c s₁ B hml hv
  obtain ⟨rfl, hsz, hP, hK, hD0, hE⟩ := hv
  have hx := B.exec
  have hb := B.bytes
  have hr := B.returns
  have hts0 := atoms_spec (ws := wz yX0_fetch cX0_fetch 3 (Option.some Jvm.ClassFile.FieldType.int)) B.pre
  have hts : ∀ w ∈ gw, w.before _ s = true := fun w h => hts0 w (List.mem_cons_of_mem _ h)
  have hown : s.vm.findClass RX0 = some m.cls := findClass_of_methodNamed B.named
  have hlocks := B.notSynchronized
  subst hsz
  have hD := hD0.self (sz := s.heap.size)
  refine gQ9 ?_
  intro Q hQ
  generalize hAe : va_A (List.flatten ([(oX0 (p0a 0) p0a p0k p0n p0w), (oX1 (p0a 1) p0_0a p0_0k p0_0n p0_0w p0_0l), (oX9 (p0_0a 3) p0_0_2a p0_0_2k p0_0_2n p0_0_2w)] : List va_W)) s.heap.size = A at hD hE hQ
  have hA : ∀ q : Nat, s.heap.size ≤ q → A q := fun q h => by rw [← hAe]; exact Or.inr h
  have hS : va_S A s.heap s.heap [] := va_S.rf
  have hP : va_P (dC, dI) cls (List.flatten ([(oX0 (p0a 0) p0a p0k p0n p0w), (oX1 (p0a 1) p0_0a p0_0k p0_0n p0_0w p0_0l), (oX9 (p0_0a 3) p0_0_2a p0_0_2k p0_0_2n p0_0_2w)] : List va_W)) s.heap := hP
  have hl := lv_entry ([.ref (p0a 0), .int p1, .int p2]) (n := 3) (Nat.le_of_ble_eq_true rfl)
  rw [lg_entry_eq]
  generalize (lg_sl ([.ref (p0a 0), .int p1, .int p2]) ++ List.replicate (3 - (lg_sl ([.ref (p0a 0), .int p1, .int p2])).length) Slot.unset).toArray = ls at hl ⊢
  have hl : lv_has ls 3 [(0, .ref (p0a 0)), (1, .int p1), (2, .int p2)] := hl
  obtain ⟨H, hHe⟩ : ∃ H, H = s.heap := ⟨_, rfl⟩
  obtain ⟨locs, hle⟩ : ∃ locs : List Loc, locs = [] := ⟨_, rfl⟩
  rw [← hHe] at hP
  have hS : va_S A s.heap H locs := by rw [hHe, hle]; exact hS
  show W p l e ({ frames := 4, cells := (hcX9 p0_0_2n (o.2.2.2.2)), slots := (3 * (gcX9 p0_0_2n (o.2.2.2.2))), locals := 113 } : Room) s m ([.ref (p0a 0), .int p1, .int p2] : List Value).toArray below meth c s.heap [] 0 0 Q (F0 m 0 ls [])
  rw [← hle]
  refine wH9 hHe ?_
  have hg_p0_0_2 := glX9_rf p0_0_2n
  have hgn_p0_0_2 : glX9 p0_0_2n (o.2.2.2.2) := (mo_fX0_fetch hrun)
  refine W.widen (k := (hcX9 p0_0_2n p0_0_2n)) (n := (3 * (gcX9 p0_0_2n p0_0_2n))) (Nat.zero_le _) (Nat.zero_le _) ?_
  unfold fX0_fetch at hrun
  refine lv_aload_n hx hb dX0_fetch_0 rfl (lv_at hl 0 rfl) ?_
  refine va_get (D := (dC, dI)) (ci := 8) (v := .ref (p0a 13)) (C := RX0) (T := TX0) (N := 17) hx hb hts i_X0 hown hK hP 0 rfl rfl 12 (by decide) (hts _ qw622) (fun _ h9 => h9) rfl dX0_fetch_1 ?_
  refine lv_iload_n hx hb dX0_fetch_4 rfl (lv_at hl 2 rfl) ?_
  obtain ⟨hq1, hrun⟩ := chk9 hrun
  refine va_iald hx hb hK hP 4 3 rfl rfl (ixb_in hq1) dX0_fetch_5 ?_
  refine lv_bipush (v := (-2)) hx hb dX0_fetch_6 (by decide) ?_
  have J57 : ∀ (p0_0w_57 : ST) (p0_0_2w_57 : ST) (p0_0_2n_57 : Nat → Nat) (xp0_0_2_1_57 : Nat) (zp0_0_2_1_57 : ClassId) (xp0_0_2_2_57 : Nat) (zp0_0_2_2_57 : ClassId) (xp0_0_2_3_57 : Nat) (zp0_0_2_3_57 : ClassId) (xp0_0_2_4_57 : Nat) (zp0_0_2_4_57 : ClassId) (xp0_0_2_5_57 : Nat) (zp0_0_2_5_57 : ClassId) (H : Heap) (locs : List Loc) (ls : Array Slot), (fX0_fetch_J57 p0w p0_0w_57 p0_0_2w_57 p0_0_2n_57) = some o → va_P (dC, dI) cls (List.flatten ([(oX0 (p0a 0) p0a p0k p0n p0w), (oX1 (p0a 1) p0_0a p0_0k p0_0n p0_0w_57 p0_0l), (oX9 (p0_0a 3) (st1 (st1 (st1 (st1 (st1 p0_0_2a 2 xp0_0_2_1_57) 3 xp0_0_2_2_57) 4 xp0_0_2_3_57) 5 xp0_0_2_4_57) 6 xp0_0_2_5_57) (st1 (st1 (st1 (st1 (st1 p0_0_2k 2 zp0_0_2_1_57) 3 zp0_0_2_2_57) 4 zp0_0_2_3_57) 5 zp0_0_2_4_57) 6 zp0_0_2_5_57) p0_0_2n_57 p0_0_2w_57)] : List va_W)) H → va_D A (List.flatten ([(oX0 (p0a 0) p0a p0k p0n p0w), (oX1 (p0a 1) p0_0a p0_0k p0_0n p0_0w_57 p0_0l), (oX9 (p0_0a 3) (st1 (st1 (st1 (st1 (st1 p0_0_2a 2 xp0_0_2_1_57) 3 xp0_0_2_2_57) 4 xp0_0_2_3_57) 5 xp0_0_2_4_57) 6 xp0_0_2_5_57) (st1 (st1 (st1 (st1 (st1 p0_0_2k 2 zp0_0_2_1_57) 3 zp0_0_2_2_57) 4 zp0_0_2_3_57) 5 zp0_0_2_4_57) 6 zp0_0_2_5_57) p0_0_2n_57 p0_0_2w_57)] : List va_W)) → va_K (dC, dI) cls (List.flatten ([(tX0 p0k), (tX1 p0_0k), (tX9 (st1 (st1 (st1 (st1 (st1 p0_0_2k 2 zp0_0_2_1_57) 3 zp0_0_2_2_57) 4 zp0_0_2_3_57) 5 zp0_0_2_4_57) 6 zp0_0_2_5_57))] : List (List (ClassId × FieldType)))) s → va_S A s.heap H locs → lv_has ls 3 [(0, .ref (p0a 0))] → glX9 p0_0_2n p0_0_2n_57 → W p l e ({ frames := 4, cells := (hcX9 p0_0_2n (o.2.2.2.2)), slots := (3 * (gcX9 p0_0_2n (o.2.2.2.2))), locals := 113 } : Room) s m ([.ref (p0a 0), .int p1, .int p2] : List Value).toArray below meth c H locs (hcX9 p0_0_2n p0_0_2n_57) (3 * (gcX9 p0_0_2n p0_0_2n_57)) Q (F0 m 57 ls []) := by
    intro p0_0w_57 p0_0_2w_57 p0_0_2n_57 xp0_0_2_1_57 zp0_0_2_1_57 xp0_0_2_2_57 zp0_0_2_2_57 xp0_0_2_3_57 zp0_0_2_3_57 xp0_0_2_4_57 zp0_0_2_4_57 xp0_0_2_5_57 zp0_0_2_5_57 H locs ls hrun hP hD hK hS hl hg_p0_0_2 
    have hgn_p0_0_2 : glX9 p0_0_2n_57 (o.2.2.2.2) := (mo_fX0_fetch_J57 hrun)
    unfold fX0_fetch_J57 at hrun
    refine lv_aload_n hx hb dX0_fetch_57 rfl (lv_at hl 0 rfl) ?_
    refine lv_dup hx hb dX0_fetch_58 rfl ?_
    refine va_get (D := (dC, dI)) (ci := 8) (v := .int (p0w 0 8)) (C := RX0) (T := TX0) (N := 17) hx hb hts i_X0 hown hK hP 0 rfl rfl 8 (by decide) (hts _ qw623) (fun _ h9 => h9) rfl dX0_fetch_59 ?_
    refine lv_iconst (v := 1) hx hb dX0_fetch_62 (by decide) ?_
    refine lv_iadd hx hb dX0_fetch_63 ?_
    refine va_put (D := (dC, dI)) (ci := 8) (v := .int ((p0w 0 8) + 1)) (ty := .int) (C := RX0) (T := TX0) (N := 17) hx hb hts i_X0 tyX0 tyX0_ok nmX0 hown hK hP hD hS 0 rfl rfl 8 (by decide) (hts _ qw623) (fun _ h9 => h9) rfl (by decide +kernel) rfl rfl (Nat.le_of_ble_eq_true rfl) dX0_fetch_64 (fun H locs hP hD hS => ?_)
    have hP : va_P (dC, dI) cls (List.flatten ([(oX0 (p0a 0) p0a p0k p0n (upw p0w 0 8 ((p0w 0 8) + 1))), (oX1 (p0a 1) p0_0a p0_0k p0_0n p0_0w_57 p0_0l), (oX9 (p0_0a 3) (st1 (st1 (st1 (st1 (st1 p0_0_2a 2 xp0_0_2_1_57) 3 xp0_0_2_2_57) 4 xp0_0_2_3_57) 5 xp0_0_2_4_57) 6 xp0_0_2_5_57) (st1 (st1 (st1 (st1 (st1 p0_0_2k 2 zp0_0_2_1_57) 3 zp0_0_2_2_57) 4 zp0_0_2_3_57) 5 zp0_0_2_4_57) 6 zp0_0_2_5_57) p0_0_2n_57 p0_0_2w_57)] : List va_W)) H := hP
    have hD : va_D A (List.flatten ([(oX0 (p0a 0) p0a p0k p0n (upw p0w 0 8 ((p0w 0 8) + 1))), (oX1 (p0a 1) p0_0a p0_0k p0_0n p0_0w_57 p0_0l), (oX9 (p0_0a 3) (st1 (st1 (st1 (st1 (st1 p0_0_2a 2 xp0_0_2_1_57) 3 xp0_0_2_2_57) 4 xp0_0_2_3_57) 5 xp0_0_2_4_57) 6 xp0_0_2_5_57) (st1 (st1 (st1 (st1 (st1 p0_0_2k 2 zp0_0_2_1_57) 3 zp0_0_2_2_57) 4 zp0_0_2_3_57) 5 zp0_0_2_4_57) 6 zp0_0_2_5_57) p0_0_2n_57 p0_0_2w_57)] : List va_W)) := hD
    obtain ⟨w2, ew2, hrun⟩ := let9 hrun
    rw [← ew2] at hP hD
    refine lv_aload_n hx hb dX0_fetch_67 rfl (lv_at hl 0 rfl) ?_
    refine va_get (D := (dC, dI)) (ci := 8) (v := .int (w2 0 8)) (C := RX0) (T := TX0) (N := 17) hx hb hts i_X0 hown hK hP 0 rfl rfl 8 (by decide) (hts _ qw623) (fun _ h9 => h9) rfl dX0_fetch_68 ?_
    refine lv_iconst (v := 1) hx hb dX0_fetch_71 (by decide) ?_
    refine lv_isub hx hb dX0_fetch_72 ?_
    have ho9 : (((w2 0 8) - 1), w2, p0_0w_57, p0_0_2w_57, p0_0_2n_57) = o := Option.some.inj hrun
    subst ho9
    subst hQ
    exact W.iret (v := ((w2 0 8) - 1)) hx hb hr (fun t ht hW => ⟨⟨((w2 0 8) - 1), (), rfl, rfl, ⟨xp0_0_2_1_57, zp0_0_2_1_57, xp0_0_2_2_57, zp0_0_2_2_57, xp0_0_2_3_57, zp0_0_2_3_57, xp0_0_2_4_57, zp0_0_2_4_57, xp0_0_2_5_57, zp0_0_2_5_57, by rw [ht]; exact hP, va_K.moved hW.alike hK, hD⟩⟩, hS.F ht⟩) hS.2.2 dX0_fetch_73
  rcases br9 hrun with ⟨hc3, hrun⟩ | ⟨hc3, hrun⟩
  · refine lv_icmp_ne (tgt := 35) hx hb dX0_fetch_8 (by decide) (fun c => absurd hc3 c) (fun _ => ?_)
    refine lv_aload_n hx hb dX0_fetch_11 rfl (lv_at hl 0 rfl) ?_
    refine va_get (D := (dC, dI)) (ci := 8) (v := .ref (p0a 1)) (C := RX0) (T := TX0) (N := 17) hx hb hts i_X0 hown hK hP 0 rfl rfl 0 (by decide) (hts _ qw618) (fun _ h9 => h9) rfl dX0_fetch_12 ?_
    refine lv_iload_n hx hb dX0_fetch_15 rfl (lv_at hl 1 rfl) ?_
    refine lv_iconst (v := 0) hx hb dX0_fetch_16 (by decide) ?_
    refine lv_aload_n hx hb dX0_fetch_17 rfl (lv_at hl 0 rfl) ?_
    refine va_get (D := (dC, dI)) (ci := 8) (v := .int (p0w 0 8)) (C := RX0) (T := TX0) (N := 17) hx hb hts i_X0 hown hK hP 0 rfl rfl 8 (by decide) (hts _ qw623) (fun _ h9 => h9) rfl dX0_fetch_18 ?_
    refine lv_aload_n hx hb dX0_fetch_21 rfl (lv_at hl 0 rfl) ?_
    refine va_get (D := (dC, dI)) (ci := 8) (v := .ref (p0a 14)) (C := RX0) (T := TX0) (N := 17) hx hb hts i_X0 hown hK hP 0 rfl rfl 13 (by decide) (hts _ qw624) (fun _ h9 => h9) rfl dX0_fetch_22 ?_
    refine lv_iload_n hx hb dX0_fetch_25 rfl (lv_at hl 2 rfl) ?_
    obtain ⟨hq4, hrun⟩ := chk9 hrun
    refine va_iald hx hb hK hP 5 4 rfl rfl (ixb_in hq4) dX0_fetch_26 ?_
    refine lv_iconst (v := (-1)) hx hb dX0_fetch_27 (by decide) ?_
    obtain ⟨o_5, hc_5, hrun⟩ := bnd9 hrun
    have hPx : va_P (dC, dI) cls ((List.flatten ([(oX1 (p0a 1) p0_0a p0_0k p0_0n p0_0w p0_0l), (oX9 (p0_0a 3) p0_0_2a p0_0_2k p0_0_2n p0_0_2w)] : List va_W)) ++ (List.flatten ([(oX0 (p0a 0) p0a p0k p0n p0w)] : List va_W))) H := vP_fa (vP_perm hP (bP ((((((List.Perm.refl _)).cons _).trans (List.Perm.swap _ _ _))).trans ((((((List.Perm.refl _)).cons _).trans (List.Perm.swap _ _ _))).cons _))))
    have hDx : va_D A ((List.flatten ([(oX1 (p0a 1) p0_0a p0_0k p0_0n p0_0w p0_0l), (oX9 (p0_0a 3) p0_0_2a p0_0_2k p0_0_2n p0_0_2w)] : List va_W)) ++ (List.flatten ([(oX0 (p0a 0) p0a p0k p0n p0w)] : List va_W))) := vD_fa (vD_perm hD (bP ((((((List.Perm.refl _)).cons _).trans (List.Perm.swap _ _ _))).trans ((((((List.Perm.refl _)).cons _).trans (List.Perm.swap _ _ _))).cons _))))
    have hKx : va_K (dC, dI) cls ((List.flatten ([(tX1 p0_0k), (tX9 p0_0_2k)] : List (List (ClassId × FieldType)))) ++ (List.flatten ([(tX0 p0k)] : List (List (ClassId × FieldType))))) s := vK_fa (vK_perm hK (bP ((((((List.Perm.refl _)).cons _).trans (List.Perm.swap _ _ _))).trans ((((((List.Perm.refl _)).cons _).trans (List.Perm.swap _ _ _))).cons _))))
    have hPc := vP_l hPx
    have hDc := vD_l hDx
    have hKc := vK_l hKx
    have hFc := vfree hDx hS hA
    have hgn_p0_0_2 : glX9 (o_5.2.2.2) (o.2.2.2.2) := (mo_fX0_fetch_G31_17 hrun)
    refine va_calli (va_runV (As := [.int p1, .int 0, .int (p0w 0 8), .int (p0w 14 (nn p2)), .int (-1)]) (rest := []) ⟨hx, hb, hml, hown, hts⟩ (kX1_addStep l dC dI (p0a := (st0 (p0a 1) p0_0a)) (p0k := p0_0k) (p0n := p0_0n) (p0w := p0_0w) (p0l := p0_0l) (p1 := p1) (p2 := 0) (p3 := (p0w 0 8)) (p4 := (p0w 14 (nn p2))) (p5 := (-1)) (p0_2a := p0_0_2a) (p0_2k := p0_0_2k) (p0_2n := p0_0_2n) (p0_2w := p0_0_2w) (sz := _) (o := o_5) (hrun := hc_5)) (cwV 5 hts (gi_V qw625 qw165 qw166 qw126 (gi_z qw163)) rfl rfl rfl (by decide +kernel) ⟨Nat.le_of_ble_eq_true rfl, Nat.le_of_ble_eq_true rfl⟩) ⟨PRE.blind, va_recv hKc hPc (ci := 4) (q0 := 0) rfl rfl, PRE.of hE hS hFc hPc hKc hDc⟩ rfl rfl hl.1 rfl (lv_room (Nat.le_of_ble_eq_true rfl)) dX0_fetch_28 ⟨(show (hcX9 p0_0_2n p0_0_2n) + (hcX9 p0_0_2n (o_5.2.2.2)) ≤ (hcX9 p0_0_2n (o.2.2.2.2)) from by have q0 := gsX9 hg_p0_0_2 (mo_fX1_addStep hc_5) hgn_p0_0_2; omega), (show (3 * (gcX9 p0_0_2n p0_0_2n)) + (3 * (gcX9 p0_0_2n (o_5.2.2.2))) ≤ (3 * (gcX9 p0_0_2n (o.2.2.2.2))) from by have q0 := gsX9 hg_p0_0_2 (mo_fX1_addStep hc_5) hgn_p0_0_2; omega)⟩) hS (fun q _ h => hFc q h) hFc (fun r6 u t H locs ht hvm hw hB hz1 hk1 hS => ?_)
    obtain ⟨x7, z8, x9, z10, x11, z12, x13, z14, x15, z16, hB⟩ := hB
    obtain ⟨b1, b2, b3⟩ := hB
    rw [ht] at b1
    obtain ⟨hP, hD, hK⟩ := JOINC (wc := (List.flatten ([(oX1 (p0a 1) p0_0a p0_0k p0_0n p0_0w p0_0l), (oX9 (p0_0a 3) p0_0_2a p0_0_2k p0_0_2n p0_0_2w)] : List va_W))) (wr := (List.flatten ([(oX0 (p0a 0) p0a p0k p0n p0w)] : List va_W))) (w1 := (List.flatten ([(oX1 (p0a 1) p0_0a p0_0k p0_0n (o_5.2.1) p0_0l), (oX9 (p0_0a 3) (st1 (st1 (st1 (st1 (st1 p0_0_2a 2 x7) 3 x9) 4 x11) 5 x13) 6 x15) (st1 (st1 (st1 (st1 (st1 p0_0_2k 2 z8) 3 z10) 4 z12) 5 z14) 6 z16) (o_5.2.2.2) (o_5.2.2.1))] : List va_W))) (t1 := (List.flatten ([(tX1 p0_0k), (tX9 (st1 (st1 (st1 (st1 (st1 p0_0_2k 2 z8) 3 z10) 4 z12) 5 z14) 6 z16))] : List (List (ClassId × FieldType))))) hPx hDx hKx hk1 hFc b1 (va_K.moved hvm.symm b2) b3
    have hP : va_P (dC, dI) cls (List.flatten ([(oX0 (p0a 0) p0a p0k p0n p0w), (oX1 (p0a 1) p0_0a p0_0k p0_0n (o_5.2.1) p0_0l), (oX9 (p0_0a 3) (st1 (st1 (st1 (st1 (st1 p0_0_2a 2 x7) 3 x9) 4 x11) 5 x13) 6 x15) (st1 (st1 (st1 (st1 (st1 p0_0_2k 2 z8) 3 z10) 4 z12) 5 z14) 6 z16) (o_5.2.2.2) (o_5.2.2.1))] : List va_W)) H := vP_perm (vP_fb hP) (bP (((((((List.Perm.refl _)).cons _).trans (List.Perm.swap _ _ _))).cons _).trans (List.Perm.swap _ _ _)))
    have hD : va_D A (List.flatten ([(oX0 (p0a 0) p0a p0k p0n p0w), (oX1 (p0a 1) p0_0a p0_0k p0_0n (o_5.2.1) p0_0l), (oX9 (p0_0a 3) (st1 (st1 (st1 (st1 (st1 p0_0_2a 2 x7) 3 x9) 4 x11) 5 x13) 6 x15) (st1 (st1 (st1 (st1 (st1 p0_0_2k 2 z8) 3 z10) 4 z12) 5 z14) 6 z16) (o_5.2.2.2) (o_5.2.2.1))] : List va_W)) := vD_perm (vD_fb hD) (bP (((((((List.Perm.refl _)).cons _).trans (List.Perm.swap _ _ _))).cons _).trans (List.Perm.swap _ _ _)))
    have hK : va_K (dC, dI) cls (List.flatten ([(tX0 p0k), (tX1 p0_0k), (tX9 (st1 (st1 (st1 (st1 (st1 p0_0_2k 2 z8) 3 z10) 4 z12) 5 z14) 6 z16))] : List (List (ClassId × FieldType)))) s := vK_perm (vK_fb hK) (bP (((((((List.Perm.refl _)).cons _).trans (List.Perm.swap _ _ _))).cons _).trans (List.Perm.swap _ _ _)))
    obtain rfl : r6 = (o_5.1) := hw
    refine W.widen (k := (hcX9 p0_0_2n (o_5.2.2.2))) (n := (3 * (gcX9 p0_0_2n (o_5.2.2.2)))) (by have a0 := gcX9_add hg_p0_0_2 (mo_fX1_addStep hc_5); omega) (by have a0 := gcX9_add hg_p0_0_2 (mo_fX1_addStep hc_5); omega) ?_
    have hg_p0_0_2 : glX9 p0_0_2n (o_5.2.2.2) := glX9_tr hg_p0_0_2 (mo_fX1_addStep hc_5)
    unfold fX0_fetch_G31_17 at hrun
    refine lv_pop hx hb dX0_fetch_31 rfl ?_
    refine lv_goto (tgt := 57) hx hb dX0_fetch_32 (by decide) ?_
    exact J57 (o_5.2.1) (o_5.2.2.1) (o_5.2.2.2) x7 z8 x9 z10 x11 z12 x13 z14 x15 z16 _ _ _ hrun hP hD hK hS (lv_sub hl [0] rfl) hg_p0_0_2
  · refine lv_icmp_ne (tgt := 35) hx hb dX0_fetch_8 (by decide) (fun _ => ?_) (fun c => absurd c hc3)
    refine lv_aload_n hx hb dX0_fetch_35 rfl (lv_at hl 0 rfl) ?_
    refine va_get (D := (dC, dI)) (ci := 8) (v := .ref (p0a 1)) (C := RX0) (T := TX0) (N := 17) hx hb hts i_X0 hown hK hP 0 rfl rfl 0 (by decide) (hts _ qw618) (fun _ h9 => h9) rfl dX0_fetch_36 ?_
    refine lv_iload_n hx hb dX0_fetch_39 rfl (lv_at hl 1 rfl) ?_
    refine lv_bipush (v := 26) hx hb dX0_fetch_40 (by decide) ?_
    refine lv_aload_n hx hb dX0_fetch_42 rfl (lv_at hl 0 rfl) ?_
    refine va_get (D := (dC, dI)) (ci := 8) (v := .int (p0w 0 8)) (C := RX0) (T := TX0) (N := 17) hx hb hts i_X0 hown hK hP 0 rfl rfl 8 (by decide) (hts _ qw623) (fun _ h9 => h9) rfl dX0_fetch_43 ?_
    refine lv_aload_n hx hb dX0_fetch_46 rfl (lv_at hl 0 rfl) ?_
    refine va_get (D := (dC, dI)) (ci := 8) (v := .ref (p0a 13)) (C := RX0) (T := TX0) (N := 17) hx hb hts i_X0 hown hK hP 0 rfl rfl 12 (by decide) (hts _ qw622) (fun _ h9 => h9) rfl dX0_fetch_47 ?_
    refine lv_iload_n hx hb dX0_fetch_50 rfl (lv_at hl 2 rfl) ?_
    obtain ⟨hq18, hrun⟩ := chk9 hrun
    refine va_iald hx hb hK hP 4 3 rfl rfl (ixb_in hq18) dX0_fetch_51 ?_
    refine lv_iconst (v := (-1)) hx hb dX0_fetch_52 (by decide) ?_
    obtain ⟨o_19, hc_19, hrun⟩ := bnd9 hrun
    have hPx : va_P (dC, dI) cls ((List.flatten ([(oX1 (p0a 1) p0_0a p0_0k p0_0n p0_0w p0_0l), (oX9 (p0_0a 3) p0_0_2a p0_0_2k p0_0_2n p0_0_2w)] : List va_W)) ++ (List.flatten ([(oX0 (p0a 0) p0a p0k p0n p0w)] : List va_W))) H := vP_fa (vP_perm hP (bP ((((((List.Perm.refl _)).cons _).trans (List.Perm.swap _ _ _))).trans ((((((List.Perm.refl _)).cons _).trans (List.Perm.swap _ _ _))).cons _))))
    have hDx : va_D A ((List.flatten ([(oX1 (p0a 1) p0_0a p0_0k p0_0n p0_0w p0_0l), (oX9 (p0_0a 3) p0_0_2a p0_0_2k p0_0_2n p0_0_2w)] : List va_W)) ++ (List.flatten ([(oX0 (p0a 0) p0a p0k p0n p0w)] : List va_W))) := vD_fa (vD_perm hD (bP ((((((List.Perm.refl _)).cons _).trans (List.Perm.swap _ _ _))).trans ((((((List.Perm.refl _)).cons _).trans (List.Perm.swap _ _ _))).cons _))))
    have hKx : va_K (dC, dI) cls ((List.flatten ([(tX1 p0_0k), (tX9 p0_0_2k)] : List (List (ClassId × FieldType)))) ++ (List.flatten ([(tX0 p0k)] : List (List (ClassId × FieldType))))) s := vK_fa (vK_perm hK (bP ((((((List.Perm.refl _)).cons _).trans (List.Perm.swap _ _ _))).trans ((((((List.Perm.refl _)).cons _).trans (List.Perm.swap _ _ _))).cons _))))
    have hPc := vP_l hPx
    have hDc := vD_l hDx
    have hKc := vK_l hKx
    have hFc := vfree hDx hS hA
    have hgn_p0_0_2 : glX9 (o_19.2.2.2) (o.2.2.2.2) := (mo_fX0_fetch_G56_31 hrun)
    refine va_calli (va_runV (As := [.int p1, .int 26, .int (p0w 0 8), .int (p0w 13 (nn p2)), .int (-1)]) (rest := []) ⟨hx, hb, hml, hown, hts⟩ (kX1_addStep l dC dI (p0a := (st0 (p0a 1) p0_0a)) (p0k := p0_0k) (p0n := p0_0n) (p0w := p0_0w) (p0l := p0_0l) (p1 := p1) (p2 := 26) (p3 := (p0w 0 8)) (p4 := (p0w 13 (nn p2))) (p5 := (-1)) (p0_2a := p0_0_2a) (p0_2k := p0_0_2k) (p0_2n := p0_0_2n) (p0_2w := p0_0_2w) (sz := _) (o := o_19) (hrun := hc_19)) (cwV 5 hts (gi_V qw625 qw165 qw166 qw126 (gi_z qw163)) rfl rfl rfl (by decide +kernel) ⟨Nat.le_of_ble_eq_true rfl, Nat.le_of_ble_eq_true rfl⟩) ⟨PRE.blind, va_recv hKc hPc (ci := 4) (q0 := 0) rfl rfl, PRE.of hE hS hFc hPc hKc hDc⟩ rfl rfl hl.1 rfl (lv_room (Nat.le_of_ble_eq_true rfl)) dX0_fetch_53 ⟨(show (hcX9 p0_0_2n p0_0_2n) + (hcX9 p0_0_2n (o_19.2.2.2)) ≤ (hcX9 p0_0_2n (o.2.2.2.2)) from by have q0 := gsX9 hg_p0_0_2 (mo_fX1_addStep hc_19) hgn_p0_0_2; omega), (show (3 * (gcX9 p0_0_2n p0_0_2n)) + (3 * (gcX9 p0_0_2n (o_19.2.2.2))) ≤ (3 * (gcX9 p0_0_2n (o.2.2.2.2))) from by have q0 := gsX9 hg_p0_0_2 (mo_fX1_addStep hc_19) hgn_p0_0_2; omega)⟩) hS (fun q _ h => hFc q h) hFc (fun r20 u t H locs ht hvm hw hB hz1 hk1 hS => ?_)
    obtain ⟨x21, z22, x23, z24, x25, z26, x27, z28, x29, z30, hB⟩ := hB
    obtain ⟨b1, b2, b3⟩ := hB
    rw [ht] at b1
    obtain ⟨hP, hD, hK⟩ := JOINC (wc := (List.flatten ([(oX1 (p0a 1) p0_0a p0_0k p0_0n p0_0w p0_0l), (oX9 (p0_0a 3) p0_0_2a p0_0_2k p0_0_2n p0_0_2w)] : List va_W))) (wr := (List.flatten ([(oX0 (p0a 0) p0a p0k p0n p0w)] : List va_W))) (w1 := (List.flatten ([(oX1 (p0a 1) p0_0a p0_0k p0_0n (o_19.2.1) p0_0l), (oX9 (p0_0a 3) (st1 (st1 (st1 (st1 (st1 p0_0_2a 2 x21) 3 x23) 4 x25) 5 x27) 6 x29) (st1 (st1 (st1 (st1 (st1 p0_0_2k 2 z22) 3 z24) 4 z26) 5 z28) 6 z30) (o_19.2.2.2) (o_19.2.2.1))] : List va_W))) (t1 := (List.flatten ([(tX1 p0_0k), (tX9 (st1 (st1 (st1 (st1 (st1 p0_0_2k 2 z22) 3 z24) 4 z26) 5 z28) 6 z30))] : List (List (ClassId × FieldType))))) hPx hDx hKx hk1 hFc b1 (va_K.moved hvm.symm b2) b3
    have hP : va_P (dC, dI) cls (List.flatten ([(oX0 (p0a 0) p0a p0k p0n p0w), (oX1 (p0a 1) p0_0a p0_0k p0_0n (o_19.2.1) p0_0l), (oX9 (p0_0a 3) (st1 (st1 (st1 (st1 (st1 p0_0_2a 2 x21) 3 x23) 4 x25) 5 x27) 6 x29) (st1 (st1 (st1 (st1 (st1 p0_0_2k 2 z22) 3 z24) 4 z26) 5 z28) 6 z30) (o_19.2.2.2) (o_19.2.2.1))] : List va_W)) H := vP_perm (vP_fb hP) (bP (((((((List.Perm.refl _)).cons _).trans (List.Perm.swap _ _ _))).cons _).trans (List.Perm.swap _ _ _)))
    have hD : va_D A (List.flatten ([(oX0 (p0a 0) p0a p0k p0n p0w), (oX1 (p0a 1) p0_0a p0_0k p0_0n (o_19.2.1) p0_0l), (oX9 (p0_0a 3) (st1 (st1 (st1 (st1 (st1 p0_0_2a 2 x21) 3 x23) 4 x25) 5 x27) 6 x29) (st1 (st1 (st1 (st1 (st1 p0_0_2k 2 z22) 3 z24) 4 z26) 5 z28) 6 z30) (o_19.2.2.2) (o_19.2.2.1))] : List va_W)) := vD_perm (vD_fb hD) (bP (((((((List.Perm.refl _)).cons _).trans (List.Perm.swap _ _ _))).cons _).trans (List.Perm.swap _ _ _)))
    have hK : va_K (dC, dI) cls (List.flatten ([(tX0 p0k), (tX1 p0_0k), (tX9 (st1 (st1 (st1 (st1 (st1 p0_0_2k 2 z22) 3 z24) 4 z26) 5 z28) 6 z30))] : List (List (ClassId × FieldType)))) s := vK_perm (vK_fb hK) (bP (((((((List.Perm.refl _)).cons _).trans (List.Perm.swap _ _ _))).cons _).trans (List.Perm.swap _ _ _)))
    obtain rfl : r20 = (o_19.1) := hw
    refine W.widen (k := (hcX9 p0_0_2n (o_19.2.2.2))) (n := (3 * (gcX9 p0_0_2n (o_19.2.2.2)))) (by have a0 := gcX9_add hg_p0_0_2 (mo_fX1_addStep hc_19); omega) (by have a0 := gcX9_add hg_p0_0_2 (mo_fX1_addStep hc_19); omega) ?_
    have hg_p0_0_2 : glX9 p0_0_2n (o_19.2.2.2) := glX9_tr hg_p0_0_2 (mo_fX1_addStep hc_19)
    unfold fX0_fetch_G56_31 at hrun
    refine lv_pop hx hb dX0_fetch_56 rfl ?_
    exact J57 (o_19.2.1) (o_19.2.2.1) (o_19.2.2.2) x21 z22 x23 z24 x25 z26 x27 z28 x29 z30 _ _ _ hrun hP hD hK hS (lv_sub hl [0] rfl) hg_p0_0_2
def fX0_findSlot_J87 (p0w_87 : ST) : Option ST := some p0w_87
def fX0_findSlot_J67 (p0n : Nat → Nat) (p0w : ST) (p1 : Int32) : Option ST := (if ixb p1 (p0n 13) = true then (lt9 (upw p0w 13 (nn p1) (p0w 0 10)) fun (w4 : ST) => (lt9 (upw w4 0 10 ((w4 0 10) + 1)) fun (w5 : ST) => (fX0_findSlot_J87 w5))) else none)
def fX0_findSlot (p0n : Nat → Nat) (p0w : ST) (p1 : Int32) (p0_6n : Nat → Nat) (p0_6w : ST) (p0_0_2n : Nat → Nat) (p0_0_2w : ST) : Option ST := (if ixb p1 (p0_6n 16) = true then (if ixb p1 (p0_6n 15) = true then (if (p0_6w 15 (nn p1)) = 1 then (if ixb (p0_6w 16 (nn p1)) (p0_0_2n 2) = true then (if (p0_0_2w 2 (nn (p0_6w 16 (nn p1)))) = 0 then (if ixb p1 (p0n 13) = true then (lt9 (upw p0w 13 (nn p1) (-2)) fun (w10 : ST) => (if ixb (p0_6w 16 (nn p1)) (p0_0_2n 4) = true then (if ixb p1 (p0n 14) = true then (lt9 (upw w10 14 (nn p1) (p0_0_2w 4 (nn (p0_6w 16 (nn p1))))) fun (w13 : ST) => (fX0_findSlot_J87 w13)) else none) else none)) else none) else (fX0_findSlot_J67 p0n p0w p1)) else none) else (fX0_findSlot_J67 p0n p0w p1)) else none) else none)
set_option maxHeartbeats 16000000 in
set_option maxRecDepth 100000 in
theorem kX0_findSlot {zs : ZS} (l : Launch) (dC : Nat → ClassId) (dI : Nat → Nat → Nat) (p0a : Nat → Nat) (p0k : Nat → ClassId) (p0n : Nat → Nat) (p0w : ST) (p1 : Int32) (p0_6a : Nat → Nat) (p0_6k : Nat → ClassId) (p0_6n : Nat → Nat) (p0_6w : ST) (p0_6l : SL) (p0_0a : Nat → Nat) (p0_0k : Nat → ClassId) (p0_0n : Nat → Nat) (p0_0w : ST) (p0_0l : SL) (p0_0_2a : Nat → Nat) (p0_0_2k : Nat → ClassId) (p0_0_2n : Nat → Nat) (p0_0_2w : ST) (sz : Nat) (o : ST) (hrun : fX0_findSlot p0n p0w p1 p0_6n p0_6w p0_0_2n p0_0_2w = some o) : Met l yX0_findSlot (wz yX0_findSlot cX0_findSlot 3 (Option.none : Option Jvm.ClassFile.FieldType)) ({ frames := 0, cells := 0, slots := 0, locals := 0 } : Room) (va_Pc [.ref (p0a 0), .int p1] (PRE zs dC dI (List.flatten ([(oX0 (p0a 0) p0a p0k p0n p0w), (oX2 (p0a 7) p0_6a p0_6k p0_6n p0_6w p0_6l), (oX1 (p0a 1) p0_0a p0_0k p0_0n p0_0w p0_0l), (oX9 (p0_0a 3) p0_0_2a p0_0_2k p0_0_2n p0_0_2w)] : List va_W)) (List.flatten ([(tX0 p0k), (tX2 p0_6k), (tX1 p0_0k), (tX9 p0_0_2k)] : List (List (ClassId × FieldType)))) sz)) (va_Qv (fun (_ : Unit) => True) (fun _ t => POST dC dI (List.flatten ([(oX0 (p0a 0) p0a p0k p0n o), (oX2 (p0a 7) p0_6a p0_6k p0_6n p0_6w p0_6l), (oX1 (p0a 1) p0_0a p0_0k p0_0n p0_0w p0_0l), (oX9 (p0_0a 3) p0_0_2a p0_0_2k p0_0_2n p0_0_2w)] : List va_W)) (List.flatten ([(tX0 p0k), (tX2 p0_6k), (tX1 p0_0k), (tX9 p0_0_2k)] : List (List (ClassId × FieldType)))) (va_A (List.flatten ([(oX0 (p0a 0) p0a p0k p0n p0w), (oX2 (p0a 7) p0_6a p0_6k p0_6n p0_6w p0_6l), (oX1 (p0a 1) p0_0a p0_0k p0_0n p0_0w p0_0l), (oX9 (p0_0a 3) p0_0_2a p0_0_2k p0_0_2n p0_0_2w)] : List va_W)) sz) t) (va_A (List.flatten ([(oX0 (p0a 0) p0a p0k p0n p0w), (oX2 (p0a 7) p0_6a p0_6k p0_6n p0_6w p0_6l), (oX1 (p0a 1) p0_0a p0_0k p0_0n p0_0w p0_0l), (oX9 (p0_0a 3) p0_0_2a p0_0_2k p0_0_2n p0_0_2w)] : List va_W)) sz)) 0 0 (va_A (List.flatten ([(oX0 (p0a 0) p0a p0k p0n p0w), (oX2 (p0a 7) p0_6a p0_6k p0_6n p0_6w p0_6l), (oX1 (p0a 1) p0_0a p0_0k p0_0n p0_0w p0_0l), (oX9 (p0_0a 3) p0_0_2a p0_0_2k p0_0_2n p0_0_2w)] : List va_W)) sz) := by
  refine Met.ofW (cc := cX0_findSlot) (maxL := 3) (ret := (Option.none : Option Jvm.ClassFile.FieldType)) (by decide) rfl ?_
  intro p e s m args below meth c s₁ B hml hv
  obtain ⟨rfl, hsz, hP, hK, hD0, hE⟩ := hv
  have hx := B.exec
  have hb := B.bytes
  have hr := B.returns
  have hts0 := atoms_spec (ws := wz yX0_findSlot cX0_findSlot 3 (Option.none : Option Jvm.ClassFile.FieldType)) B.pre
  have hts : ∀ w ∈ gw, w.before _ s = true := fun w h => hts0 w (List.mem_cons_of_mem _ h)
  have hown : s.vm.findClass RX0 = some m.cls := findClass_of_methodNamed B.named
  have hlocks := B.notSynchronized
  subst hsz
  have hD := hD0.self (sz := s.heap.size)
  refine gQ9 ?_
  intro Q hQ
  generalize hAe : va_A (List.flatten ([(oX0 (p0a 0) p0a p0k p0n p0w), (oX2 (p0a 7) p0_6a p0_6k p0_6n p0_6w p0_6l), (oX1 (p0a 1) p0_0a p0_0k p0_0n p0_0w p0_0l), (oX9 (p0_0a 3) p0_0_2a p0_0_2k p0_0_2n p0_0_2w)] : List va_W)) s.heap.size = A at hD hE hQ
  have hA : ∀ q : Nat, s.heap.size ≤ q → A q := fun q h => by rw [← hAe]; exact Or.inr h
  have hS : va_S A s.heap s.heap [] := va_S.rf
  have hP : va_P (dC, dI) cls (List.flatten ([(oX0 (p0a 0) p0a p0k p0n p0w), (oX2 (p0a 7) p0_6a p0_6k p0_6n p0_6w p0_6l), (oX1 (p0a 1) p0_0a p0_0k p0_0n p0_0w p0_0l), (oX9 (p0_0a 3) p0_0_2a p0_0_2k p0_0_2n p0_0_2w)] : List va_W)) s.heap := hP
  have hl := lv_entry ([.ref (p0a 0), .int p1]) (n := 3) (Nat.le_of_ble_eq_true rfl)
  rw [lg_entry_eq]
  generalize (lg_sl ([.ref (p0a 0), .int p1]) ++ List.replicate (3 - (lg_sl ([.ref (p0a 0), .int p1])).length) Slot.unset).toArray = ls at hl ⊢
  have hl : lv_has ls 3 [(0, .ref (p0a 0)), (1, .int p1)] := hl
  obtain ⟨H, hHe⟩ : ∃ H, H = s.heap := ⟨_, rfl⟩
  obtain ⟨locs, hle⟩ : ∃ locs : List Loc, locs = [] := ⟨_, rfl⟩
  rw [← hHe] at hP
  have hS : va_S A s.heap H locs := by rw [hHe, hle]; exact hS
  show W p l e ({ frames := 0, cells := 0, slots := 0, locals := 0 } : Room) s m ([.ref (p0a 0), .int p1] : List Value).toArray below meth c s.heap [] 0 0 Q (F0 m 0 ls [])
  rw [← hle]
  refine wH9 hHe ?_
  unfold fX0_findSlot at hrun
  refine lv_aload_n hx hb dX0_findSlot_0 rfl (lv_at hl 0 rfl) ?_
  refine va_get (D := (dC, dI)) (ci := 8) (v := .ref (p0a 7)) (C := RX0) (T := TX0) (N := 17) hx hb hts i_X0 hown hK hP 0 rfl rfl 6 (by decide) (hts _ qw626) (fun _ h9 => h9) rfl dX0_findSlot_1 ?_
  refine va_get (D := (dC, dI)) (ci := 9) (v := .ref (p0_6a 16)) (C := RX2) (T := TX2) (N := 19) hx hb hts i_X2 hown hK hP 9 rfl rfl 15 (by decide) (hts _ qw627) (fun _ h9 => h9) rfl dX0_findSlot_4 ?_
  refine lv_iload_n hx hb dX0_findSlot_7 rfl (lv_at hl 1 rfl) ?_
  obtain ⟨hq1, hrun⟩ := chk9 hrun
  refine va_iald hx hb hK hP 21 19 rfl rfl (ixb_in hq1) dX0_findSlot_8 ?_
  refine lv_istore_n (lv' := [(2, .int (p0_6w 16 (nn p1))), (0, .ref (p0a 0)), (1, .int p1)]) hx hb dX0_findSlot_9 rfl hl (by decide) rfl (fun ls hl => ?_)
  refine lv_aload_n hx hb dX0_findSlot_10 rfl (lv_at hl 1 rfl) ?_
  refine va_get (D := (dC, dI)) (ci := 8) (v := .ref (p0a 7)) (C := RX0) (T := TX0) (N := 17) hx hb hts i_X0 hown hK hP 0 rfl rfl 6 (by decide) (hts _ qw626) (fun _ h9 => h9) rfl dX0_findSlot_11 ?_
  refine va_get (D := (dC, dI)) (ci := 9) (v := .ref (p0_6a 15)) (C := RX2) (T := TX2) (N := 19) hx hb hts i_X2 hown hK hP 9 rfl rfl 14 (by decide) (hts _ qw628) (fun _ h9 => h9) rfl dX0_findSlot_14 ?_
  refine lv_iload_n hx hb dX0_findSlot_17 rfl (lv_at hl 2 rfl) ?_
  obtain ⟨hq2, hrun⟩ := chk9 hrun
  refine va_iald hx hb hK hP 20 18 rfl rfl (ixb_in hq2) dX0_findSlot_18 ?_
  refine lv_iconst (v := 1) hx hb dX0_findSlot_19 (by decide) ?_
  have J87 : ∀ (p0w_87 : ST) (H : Heap) (locs : List Loc) (ls : Array Slot), (fX0_findSlot_J87 p0w_87) = some o → va_P (dC, dI) cls (List.flatten ([(oX0 (p0a 0) p0a p0k p0n p0w_87), (oX2 (p0a 7) p0_6a p0_6k p0_6n p0_6w p0_6l), (oX1 (p0a 1) p0_0a p0_0k p0_0n p0_0w p0_0l), (oX9 (p0_0a 3) p0_0_2a p0_0_2k p0_0_2n p0_0_2w)] : List va_W)) H → va_D A (List.flatten ([(oX0 (p0a 0) p0a p0k p0n p0w_87), (oX2 (p0a 7) p0_6a p0_6k p0_6n p0_6w p0_6l), (oX1 (p0a 1) p0_0a p0_0k p0_0n p0_0w p0_0l), (oX9 (p0_0a 3) p0_0_2a p0_0_2k p0_0_2n p0_0_2w)] : List va_W)) → va_K (dC, dI) cls (List.flatten ([(tX0 p0k), (tX2 p0_6k), (tX1 p0_0k), (tX9 p0_0_2k)] : List (List (ClassId × FieldType)))) s → va_S A s.heap H locs → lv_has ls 3 [] → W p l e ({ frames := 0, cells := 0, slots := 0, locals := 0 } : Room) s m ([.ref (p0a 0), .int p1] : List Value).toArray below meth c H locs 0 0 Q (F0 m 87 ls []) := by
    intro p0w_87 H locs ls hrun hP hD hK hS hl 
    unfold fX0_findSlot_J87 at hrun
    have ho9 : p0w_87 = o := Option.some.inj hrun
    have hP9 : va_P (dC, dI) cls (List.flatten ([(oX0 (p0a 0) p0a p0k p0n o), (oX2 (p0a 7) p0_6a p0_6k p0_6n p0_6w p0_6l), (oX1 (p0a 1) p0_0a p0_0k p0_0n p0_0w p0_0l), (oX9 (p0_0a 3) p0_0_2a p0_0_2k p0_0_2n p0_0_2w)] : List va_W)) H := by first | exact hP | (rw [← ho9]; exact hP)
    have hD9 : va_D A (List.flatten ([(oX0 (p0a 0) p0a p0k p0n o), (oX2 (p0a 7) p0_6a p0_6k p0_6n p0_6w p0_6l), (oX1 (p0a 1) p0_0a p0_0k p0_0n p0_0w p0_0l), (oX9 (p0_0a 3) p0_0_2a p0_0_2k p0_0_2n p0_0_2w)] : List va_W)) := by first | exact hD | (rw [← ho9]; exact hD)
    subst hQ
    exact W.vret hx hb hr (fun t ht hW => ⟨⟨(), rfl, trivial, ⟨by rw [ht]; exact hP9, va_K.moved hW.alike hK, hD9⟩⟩, hS.F ht⟩) hS.2.2 dX0_findSlot_87
  have J67 : ∀ (H : Heap) (locs : List Loc) (ls : Array Slot), (fX0_findSlot_J67 p0n p0w p1) = some o → va_P (dC, dI) cls (List.flatten ([(oX0 (p0a 0) p0a p0k p0n p0w), (oX2 (p0a 7) p0_6a p0_6k p0_6n p0_6w p0_6l), (oX1 (p0a 1) p0_0a p0_0k p0_0n p0_0w p0_0l), (oX9 (p0_0a 3) p0_0_2a p0_0_2k p0_0_2n p0_0_2w)] : List va_W)) H → va_D A (List.flatten ([(oX0 (p0a 0) p0a p0k p0n p0w), (oX2 (p0a 7) p0_6a p0_6k p0_6n p0_6w p0_6l), (oX1 (p0a 1) p0_0a p0_0k p0_0n p0_0w p0_0l), (oX9 (p0_0a 3) p0_0_2a p0_0_2k p0_0_2n p0_0_2w)] : List va_W)) → va_K (dC, dI) cls (List.flatten ([(tX0 p0k), (tX2 p0_6k), (tX1 p0_0k), (tX9 p0_0_2k)] : List (List (ClassId × FieldType)))) s → va_S A s.heap H locs → lv_has ls 3 [(0, .ref (p0a 0)), (1, .int p1)] → W p l e ({ frames := 0, cells := 0, slots := 0, locals := 0 } : Room) s m ([.ref (p0a 0), .int p1] : List Value).toArray below meth c H locs 0 0 Q (F0 m 67 ls []) := by
    intro  H locs ls hrun hP hD hK hS hl 
    unfold fX0_findSlot_J67 at hrun
    refine lv_aload_n hx hb dX0_findSlot_67 rfl (lv_at hl 0 rfl) ?_
    refine va_get (D := (dC, dI)) (ci := 8) (v := .ref (p0a 13)) (C := RX0) (T := TX0) (N := 17) hx hb hts i_X0 hown hK hP 0 rfl rfl 12 (by decide) (hts _ qw622) (fun _ h9 => h9) rfl dX0_findSlot_68 ?_
    refine lv_iload_n hx hb dX0_findSlot_71 rfl (lv_at hl 1 rfl) ?_
    refine lv_aload_n hx hb dX0_findSlot_72 rfl (lv_at hl 0 rfl) ?_
    refine va_get (D := (dC, dI)) (ci := 8) (v := .int (p0w 0 10)) (C := RX0) (T := TX0) (N := 17) hx hb hts i_X0 hown hK hP 0 rfl rfl 10 (by decide) (hts _ qw632) (fun _ h9 => h9) rfl dX0_findSlot_73 ?_
    obtain ⟨hq3, hrun⟩ := chk9 hrun
    refine va_iast hx hb hK hP hD hS 4 3 rfl rfl (ixb_in hq3) dX0_findSlot_76 (fun H locs hP hD hS => ?_)
    have hP : va_P (dC, dI) cls (List.flatten ([(oX0 (p0a 0) p0a p0k p0n (upw p0w 13 (nn p1) (p0w 0 10))), (oX2 (p0a 7) p0_6a p0_6k p0_6n p0_6w p0_6l), (oX1 (p0a 1) p0_0a p0_0k p0_0n p0_0w p0_0l), (oX9 (p0_0a 3) p0_0_2a p0_0_2k p0_0_2n p0_0_2w)] : List va_W)) H := hP
    have hD : va_D A (List.flatten ([(oX0 (p0a 0) p0a p0k p0n (upw p0w 13 (nn p1) (p0w 0 10))), (oX2 (p0a 7) p0_6a p0_6k p0_6n p0_6w p0_6l), (oX1 (p0a 1) p0_0a p0_0k p0_0n p0_0w p0_0l), (oX9 (p0_0a 3) p0_0_2a p0_0_2k p0_0_2n p0_0_2w)] : List va_W)) := hD
    obtain ⟨w4, ew4, hrun⟩ := let9 hrun
    rw [← ew4] at hP hD
    refine lv_aload_n hx hb dX0_findSlot_77 rfl (lv_at hl 0 rfl) ?_
    refine lv_dup hx hb dX0_findSlot_78 rfl ?_
    refine va_get (D := (dC, dI)) (ci := 8) (v := .int (w4 0 10)) (C := RX0) (T := TX0) (N := 17) hx hb hts i_X0 hown hK hP 0 rfl rfl 10 (by decide) (hts _ qw632) (fun _ h9 => h9) rfl dX0_findSlot_79 ?_
    refine lv_iconst (v := 1) hx hb dX0_findSlot_82 (by decide) ?_
    refine lv_iadd hx hb dX0_findSlot_83 ?_
    refine va_put (D := (dC, dI)) (ci := 8) (v := .int ((w4 0 10) + 1)) (ty := .int) (C := RX0) (T := TX0) (N := 17) hx hb hts i_X0 tyX0 tyX0_ok nmX0 hown hK hP hD hS 0 rfl rfl 10 (by decide) (hts _ qw632) (fun _ h9 => h9) rfl (by decide +kernel) rfl rfl (Nat.le_of_ble_eq_true rfl) dX0_findSlot_84 (fun H locs hP hD hS => ?_)
    have hP : va_P (dC, dI) cls (List.flatten ([(oX0 (p0a 0) p0a p0k p0n (upw w4 0 10 ((w4 0 10) + 1))), (oX2 (p0a 7) p0_6a p0_6k p0_6n p0_6w p0_6l), (oX1 (p0a 1) p0_0a p0_0k p0_0n p0_0w p0_0l), (oX9 (p0_0a 3) p0_0_2a p0_0_2k p0_0_2n p0_0_2w)] : List va_W)) H := hP
    have hD : va_D A (List.flatten ([(oX0 (p0a 0) p0a p0k p0n (upw w4 0 10 ((w4 0 10) + 1))), (oX2 (p0a 7) p0_6a p0_6k p0_6n p0_6w p0_6l), (oX1 (p0a 1) p0_0a p0_0k p0_0n p0_0w p0_0l), (oX9 (p0_0a 3) p0_0_2a p0_0_2k p0_0_2n p0_0_2w)] : List va_W)) := hD
    obtain ⟨w5, ew5, hrun⟩ := let9 hrun
    rw [← ew5] at hP hD
    exact J87 w5 _ _ _ hrun hP hD hK hS (lv_sub hl [] rfl)
  rcases br9 hrun with ⟨hc6, hrun⟩ | ⟨hc6, hrun⟩
  · refine lv_icmp_ne (tgt := 67) hx hb dX0_findSlot_20 (by decide) (fun c => absurd hc6 c) (fun _ => ?_)
    refine lv_aload_n hx hb dX0_findSlot_23 rfl (lv_at hl 1 rfl) ?_
    refine va_get (D := (dC, dI)) (ci := 8) (v := .ref (p0a 1)) (C := RX0) (T := TX0) (N := 17) hx hb hts i_X0 hown hK hP 0 rfl rfl 0 (by decide) (hts _ qw618) (fun _ h9 => h9) rfl dX0_findSlot_24 ?_
    refine va_get (D := (dC, dI)) (ci := 4) (v := .ref (p0_0a 3)) (C := RX1) (T := TX1) (N := 21) hx hb hts i_X1 hown hK hP 25 rfl rfl 2 (by decide) (hts _ qw629) (fun _ h9 => h9) rfl dX0_findSlot_27 ?_
    refine va_get (D := (dC, dI)) (ci := 3) (v := .ref (p0_0_2a 2)) (C := RX9) (T := TX9) (N := 6) hx hb hts i_X9 hown hK hP 43 rfl rfl 1 (by decide) (hts _ qw630) (fun _ h9 => h9) rfl dX0_findSlot_30 ?_
    refine lv_iload_n hx hb dX0_findSlot_33 rfl (lv_at hl 0 rfl) ?_
    obtain ⟨hq7, hrun⟩ := chk9 hrun
    refine va_iald hx hb hK hP 44 40 rfl rfl (ixb_in hq7) dX0_findSlot_34 ?_
    rcases br9 hrun with ⟨hc8, hrun⟩ | ⟨hc8, hrun⟩
    · refine lv_if_ne (tgt := 67) hx hb dX0_findSlot_35 (by decide) (fun c => absurd hc8 c) (fun _ => ?_)
      refine lv_aload_n hx hb dX0_findSlot_38 rfl (lv_at hl 1 rfl) ?_
      refine va_get (D := (dC, dI)) (ci := 8) (v := .ref (p0a 13)) (C := RX0) (T := TX0) (N := 17) hx hb hts i_X0 hown hK hP 0 rfl rfl 12 (by decide) (hts _ qw622) (fun _ h9 => h9) rfl dX0_findSlot_39 ?_
      refine lv_iload_n hx hb dX0_findSlot_42 rfl (lv_at hl 2 rfl) ?_
      refine lv_bipush (v := (-2)) hx hb dX0_findSlot_43 (by decide) ?_
      obtain ⟨hq9, hrun⟩ := chk9 hrun
      refine va_iast hx hb hK hP hD hS 4 3 rfl rfl (ixb_in hq9) dX0_findSlot_45 (fun H locs hP hD hS => ?_)
      have hP : va_P (dC, dI) cls (List.flatten ([(oX0 (p0a 0) p0a p0k p0n (upw p0w 13 (nn p1) (-2))), (oX2 (p0a 7) p0_6a p0_6k p0_6n p0_6w p0_6l), (oX1 (p0a 1) p0_0a p0_0k p0_0n p0_0w p0_0l), (oX9 (p0_0a 3) p0_0_2a p0_0_2k p0_0_2n p0_0_2w)] : List va_W)) H := hP
      have hD : va_D A (List.flatten ([(oX0 (p0a 0) p0a p0k p0n (upw p0w 13 (nn p1) (-2))), (oX2 (p0a 7) p0_6a p0_6k p0_6n p0_6w p0_6l), (oX1 (p0a 1) p0_0a p0_0k p0_0n p0_0w p0_0l), (oX9 (p0_0a 3) p0_0_2a p0_0_2k p0_0_2n p0_0_2w)] : List va_W)) := hD
      obtain ⟨w10, ew10, hrun⟩ := let9 hrun
      rw [← ew10] at hP hD
      refine lv_aload_n hx hb dX0_findSlot_46 rfl (lv_at hl 1 rfl) ?_
      refine va_get (D := (dC, dI)) (ci := 8) (v := .ref (p0a 14)) (C := RX0) (T := TX0) (N := 17) hx hb hts i_X0 hown hK hP 0 rfl rfl 13 (by decide) (hts _ qw624) (fun _ h9 => h9) rfl dX0_findSlot_47 ?_
      refine lv_iload_n hx hb dX0_findSlot_50 rfl (lv_at hl 2 rfl) ?_
      refine lv_aload_n hx hb dX0_findSlot_51 rfl (lv_at hl 1 rfl) ?_
      refine va_get (D := (dC, dI)) (ci := 8) (v := .ref (p0a 1)) (C := RX0) (T := TX0) (N := 17) hx hb hts i_X0 hown hK hP 0 rfl rfl 0 (by decide) (hts _ qw618) (fun _ h9 => h9) rfl dX0_findSlot_52 ?_
      refine va_get (D := (dC, dI)) (ci := 4) (v := .ref (p0_0a 3)) (C := RX1) (T := TX1) (N := 21) hx hb hts i_X1 hown hK hP 25 rfl rfl 2 (by decide) (hts _ qw629) (fun _ h9 => h9) rfl dX0_findSlot_55 ?_
      refine va_get (D := (dC, dI)) (ci := 3) (v := .ref (p0_0_2a 4)) (C := RX9) (T := TX9) (N := 6) hx hb hts i_X9 hown hK hP 43 rfl rfl 3 (by decide) (hts _ qw631) (fun _ h9 => h9) rfl dX0_findSlot_58 ?_
      refine lv_iload_n hx hb dX0_findSlot_61 rfl (lv_at hl 0 rfl) ?_
      obtain ⟨hq11, hrun⟩ := chk9 hrun
      refine va_iald hx hb hK hP 46 42 rfl rfl (ixb_in hq11) dX0_findSlot_62 ?_
      obtain ⟨hq12, hrun⟩ := chk9 hrun
      refine va_iast hx hb hK hP hD hS 5 4 rfl rfl (ixb_in hq12) dX0_findSlot_63 (fun H locs hP hD hS => ?_)
      have hP : va_P (dC, dI) cls (List.flatten ([(oX0 (p0a 0) p0a p0k p0n (upw w10 14 (nn p1) (p0_0_2w 4 (nn (p0_6w 16 (nn p1)))))), (oX2 (p0a 7) p0_6a p0_6k p0_6n p0_6w p0_6l), (oX1 (p0a 1) p0_0a p0_0k p0_0n p0_0w p0_0l), (oX9 (p0_0a 3) p0_0_2a p0_0_2k p0_0_2n p0_0_2w)] : List va_W)) H := hP
      have hD : va_D A (List.flatten ([(oX0 (p0a 0) p0a p0k p0n (upw w10 14 (nn p1) (p0_0_2w 4 (nn (p0_6w 16 (nn p1)))))), (oX2 (p0a 7) p0_6a p0_6k p0_6n p0_6w p0_6l), (oX1 (p0a 1) p0_0a p0_0k p0_0n p0_0w p0_0l), (oX9 (p0_0a 3) p0_0_2a p0_0_2k p0_0_2n p0_0_2w)] : List va_W)) := hD
      obtain ⟨w13, ew13, hrun⟩ := let9 hrun
      rw [← ew13] at hP hD
      refine lv_goto (tgt := 87) hx hb dX0_findSlot_64 (by decide) ?_
      exact J87 w13 _ _ _ hrun hP hD hK hS (lv_sub hl [] rfl)
    · refine lv_if_ne (tgt := 67) hx hb dX0_findSlot_35 (by decide) (fun _ => ?_) (fun c => absurd c hc8)
      exact J67 _ _ _ hrun hP hD hK hS (lv_sub hl [1, 2] rfl)
  · refine lv_icmp_ne (tgt := 67) hx hb dX0_findSlot_20 (by decide) (fun _ => ?_) (fun c => absurd c hc6)
    exact J67 _ _ _ hrun hP hD hK hS (lv_sub hl [1, 2] rfl)
def fX0_firstFree_J43 (kk12 : Int32 → Int32 → Option Int32) (v4_12 : Int32) (y0_43 : Int32) : Option Int32 := (kk12 y0_43 (v4_12 + 1))
def fX0_firstFree_J38 (kk12 : Int32 → Int32 → Option Int32) (v4_12 : Int32) : Option Int32 := (fX0_firstFree_J43 kk12 v4_12 1)
def fX0_firstFree_L12 (p0w : ST) (p1 : Int32) (v2_2 : Int32) : Nat → Int32 → Int32 → Option Int32
  | 0 => fun _ _ => none
  | n_12 + 1 => fun v3_12 v4_12 => (if p1 ≤ v4_12 then some v3_12 else (if v3_12 = 0 then (if ixb v4_12 250 = true then (if ixb v2_2 250 = true then (if (p0w 16 (nn v4_12)) = (p0w 15 (nn v2_2)) then (fX0_firstFree_J38 (fX0_firstFree_L12 p0w p1 v2_2 n_12) v4_12) else (fX0_firstFree_J43 (fX0_firstFree_L12 p0w p1 v2_2 n_12) v4_12 0)) else none) else none) else (fX0_firstFree_J38 (fX0_firstFree_L12 p0w p1 v2_2 n_12) v4_12)))
def fX0_firstFree_L2 (p0w : ST) (p1 : Int32) : Nat → Int32 → Option (Sum Int32 Unit)
  | 0 => fun _ => none
  | n_2 + 1 => fun v2_2 => (if p1 ≤ v2_2 then some (Sum.inr ()) else ((fX0_firstFree_L12 p0w p1 v2_2 NF 0 0).bind fun (o12 : Int32) => (if o12 = 0 then some (Sum.inl v2_2) else ((fX0_firstFree_L2 p0w p1 n_2) (v2_2 + 1)))))
def fX0_firstFree (p0w : ST) (p1 : Int32) : Option Int32 := ((fX0_firstFree_L2 p0w p1 NF 0).bind fun (o2 : (Sum Int32 Unit)) => Sum.elim (fun r => some r) (fun (t2 : Unit) => some (-1)) o2)
set_option maxHeartbeats 16000000 in
set_option maxRecDepth 100000 in
theorem kX0_firstFree {zs : ZS} (l : Launch) (dC : Nat → ClassId) (dI : Nat → Nat → Nat) (p0a : Nat → Nat) (p0k : Nat → ClassId) (p0n : Nat → Nat) (p0w : ST) (p1 : Int32) (sz : Nat) (o : Int32) (hrun : fX0_firstFree p0w p1 = some o) : Met l yX0_firstFree (wz yX0_firstFree cX0_firstFree 5 (Option.some Jvm.ClassFile.FieldType.int)) ({ frames := 0, cells := 0, slots := 0, locals := 0 } : Room) (va_Pc [.ref (p0a 0), .int p1] (PRE zs dC dI (List.flatten ([(oX0 (p0a 0) p0a p0k p0n p0w)] : List va_W)) (List.flatten ([(tX0 p0k)] : List (List (ClassId × FieldType)))) sz)) (va_Qi (fun (r : Int32) (_ : Unit) => r = o) (fun _ t => POST dC dI (List.flatten ([(oX0 (p0a 0) p0a p0k p0n p0w)] : List va_W)) (List.flatten ([(tX0 p0k)] : List (List (ClassId × FieldType)))) (va_A (List.flatten ([(oX0 (p0a 0) p0a p0k p0n p0w)] : List va_W)) sz) t) (va_A (List.flatten ([(oX0 (p0a 0) p0a p0k p0n p0w)] : List va_W)) sz)) 0 0 (va_A (List.flatten ([(oX0 (p0a 0) p0a p0k p0n p0w)] : List va_W)) sz) := by
  refine Met.ofW (cc := cX0_firstFree) (maxL := 5) (ret := (Option.some Jvm.ClassFile.FieldType.int)) (by decide) rfl ?_
  intro p e s m args below meth c s₁ B hml hv
  obtain ⟨rfl, hsz, hP, hK, hD0, hE⟩ := hv
  have hx := B.exec
  have hb := B.bytes
  have hr := B.returns
  have hts0 := atoms_spec (ws := wz yX0_firstFree cX0_firstFree 5 (Option.some Jvm.ClassFile.FieldType.int)) B.pre
  have hts : ∀ w ∈ gw, w.before _ s = true := fun w h => hts0 w (List.mem_cons_of_mem _ h)
  have hown : s.vm.findClass RX0 = some m.cls := findClass_of_methodNamed B.named
  have hlocks := B.notSynchronized
  subst hsz
  have hD := hD0.self (sz := s.heap.size)
  refine gQ9 ?_
  intro Q hQ
  generalize hAe : va_A (List.flatten ([(oX0 (p0a 0) p0a p0k p0n p0w)] : List va_W)) s.heap.size = A at hD hE hQ
  have hA : ∀ q : Nat, s.heap.size ≤ q → A q := fun q h => by rw [← hAe]; exact Or.inr h
  have hS : va_S A s.heap s.heap [] := va_S.rf
  have hP : va_P (dC, dI) cls (List.flatten ([(oX0 (p0a 0) p0a p0k p0n p0w)] : List va_W)) s.heap := hP
  have hl := lv_entry ([.ref (p0a 0), .int p1]) (n := 5) (Nat.le_of_ble_eq_true rfl)
  rw [lg_entry_eq]
  generalize (lg_sl ([.ref (p0a 0), .int p1]) ++ List.replicate (5 - (lg_sl ([.ref (p0a 0), .int p1])).length) Slot.unset).toArray = ls at hl ⊢
  have hl : lv_has ls 5 [(0, .ref (p0a 0)), (1, .int p1)] := hl
  obtain ⟨H, hHe⟩ : ∃ H, H = s.heap := ⟨_, rfl⟩
  obtain ⟨locs, hle⟩ : ∃ locs : List Loc, locs = [] := ⟨_, rfl⟩
  rw [← hHe] at hP
  have hS : va_S A s.heap H locs := by rw [hHe, hle]; exact hS
  show W p l e ({ frames := 0, cells := 0, slots := 0, locals := 0 } : Room) s m ([.ref (p0a 0), .int p1] : List Value).toArray below meth c s.heap [] 0 0 Q (F0 m 0 ls [])
  rw [← hle]
  refine wH9 hHe ?_
  unfold fX0_firstFree at hrun
  refine lv_iconst (v := 0) hx hb dX0_firstFree_0 (by decide) ?_
  refine lv_istore_n (lv' := [(2, .int 0), (0, .ref (p0a 0)), (1, .int p1)]) hx hb dX0_firstFree_1 rfl hl (by decide) rfl (fun ls hl => ?_)
  have L2 : ∀ (n_2 : Nat) (v2_2 : Int32) (o2 : (Sum Int32 Unit)) (H : Heap) (locs : List Loc) (ls : Array Slot), (fX0_firstFree_L2 p0w p1 n_2) v2_2 = some o2 → va_P (dC, dI) cls (List.flatten ([(oX0 (p0a 0) p0a p0k p0n p0w)] : List va_W)) H → va_D A (List.flatten ([(oX0 (p0a 0) p0a p0k p0n p0w)] : List va_W)) → va_K (dC, dI) cls (List.flatten ([(tX0 p0k)] : List (List (ClassId × FieldType)))) s → va_S A s.heap H locs → lv_has ls 5 [(0, .ref (p0a 0)), (1, .int p1), (2, .int v2_2)] → (∀ r, o2 = Sum.inl r → r = o) → (∀ (t2 : Unit), o2 = Sum.inr t2 → ∀ (H : Heap) (locs : List Loc) (ls : Array Slot), va_P (dC, dI) cls (List.flatten ([(oX0 (p0a 0) p0a p0k p0n p0w)] : List va_W)) H → va_D A (List.flatten ([(oX0 (p0a 0) p0a p0k p0n p0w)] : List va_W)) → va_K (dC, dI) cls (List.flatten ([(tX0 p0k)] : List (List (ClassId × FieldType)))) s → va_S A s.heap H locs → lv_has ls 5 [] → W p l e ({ frames := 0, cells := 0, slots := 0, locals := 0 } : Room) s m ([.ref (p0a 0), .int p1] : List Value).toArray below meth c H locs 0 0 Q (F0 m 62 ls [])) → W p l e ({ frames := 0, cells := 0, slots := 0, locals := 0 } : Room) s m ([.ref (p0a 0), .int p1] : List Value).toArray below meth c H locs 0 0 Q (F0 m 2 ls []) := by
    intro n_2
    induction n_2 with
    | zero => intro v2_2 o2 H locs ls hrun; exact (no9 rfl hrun).elim
    | succ n_2 IH2 =>
      intro v2_2 o2 H locs ls hrun hP hD hK hS hl hr2 hk2
      unfold fX0_firstFree_L2 at hrun
      refine lv_iload_n hx hb dX0_firstFree_2 rfl (lv_at hl 2 rfl) ?_
      refine lv_iload_n hx hb dX0_firstFree_3 rfl (lv_at hl 1 rfl) ?_
      rcases br9 hrun with ⟨hc1, hrun⟩ | ⟨hc1, hrun⟩
      · refine lv_icmp_ge (tgt := 62) hx hb dX0_firstFree_4 (by decide) (fun _ => ?_) (fun c => absurd hc1 c)
        obtain rfl := (Option.some.inj hrun)
        exact hk2 _ rfl _ _ _ hP hD hK hS (lv_sub hl [] rfl)
      · refine lv_icmp_ge (tgt := 62) hx hb dX0_firstFree_4 (by decide) (fun c => absurd c hc1) (fun _ => ?_)
        refine lv_iconst (v := 0) hx hb dX0_firstFree_7 (by decide) ?_
        refine lv_istore_n (lv' := [(3, .int 0), (0, .ref (p0a 0)), (1, .int p1), (2, .int v2_2)]) hx hb dX0_firstFree_8 rfl hl (by decide) rfl (fun ls hl => ?_)
        refine lv_iconst (v := 0) hx hb dX0_firstFree_9 (by decide) ?_
        refine lv_istore (lv' := [(4, .int 0), (3, .int 0), (0, .ref (p0a 0)), (1, .int p1), (2, .int v2_2)]) hx hb dX0_firstFree_10 hl (by decide) rfl (fun ls hl => ?_)
        have L12 : ∀ (n_12 : Nat) (v3_12 : Int32) (v4_12 : Int32) (o12 : Int32) (H : Heap) (locs : List Loc) (ls : Array Slot), (fX0_firstFree_L12 p0w p1 v2_2 n_12) v3_12 v4_12 = some o12 → va_P (dC, dI) cls (List.flatten ([(oX0 (p0a 0) p0a p0k p0n p0w)] : List va_W)) H → va_D A (List.flatten ([(oX0 (p0a 0) p0a p0k p0n p0w)] : List va_W)) → va_K (dC, dI) cls (List.flatten ([(tX0 p0k)] : List (List (ClassId × FieldType)))) s → va_S A s.heap H locs → lv_has ls 5 [(0, .ref (p0a 0)), (1, .int p1), (2, .int v2_2), (3, .int v3_12), (4, .int v4_12)] → (∀ (H : Heap) (locs : List Loc) (ls : Array Slot), va_P (dC, dI) cls (List.flatten ([(oX0 (p0a 0) p0a p0k p0n p0w)] : List va_W)) H → va_D A (List.flatten ([(oX0 (p0a 0) p0a p0k p0n p0w)] : List va_W)) → va_K (dC, dI) cls (List.flatten ([(tX0 p0k)] : List (List (ClassId × FieldType)))) s → va_S A s.heap H locs → lv_has ls 5 [(0, .ref (p0a 0)), (1, .int p1), (2, .int v2_2), (3, .int o12)] → W p l e ({ frames := 0, cells := 0, slots := 0, locals := 0 } : Room) s m ([.ref (p0a 0), .int p1] : List Value).toArray below meth c H locs 0 0 Q (F0 m 50 ls [])) → W p l e ({ frames := 0, cells := 0, slots := 0, locals := 0 } : Room) s m ([.ref (p0a 0), .int p1] : List Value).toArray below meth c H locs 0 0 Q (F0 m 12 ls []) := by
          intro n_12
          induction n_12 with
          | zero => intro v3_12 v4_12 o12 H locs ls hrun; exact (no9 rfl hrun).elim
          | succ n_12 IH12 =>
            intro v3_12 v4_12 o12 H locs ls hrun hP hD hK hS hl hk12
            unfold fX0_firstFree_L12 at hrun
            refine lv_iload hx hb dX0_firstFree_12 (lv_at hl 4 rfl) ?_
            refine lv_iload_n hx hb dX0_firstFree_14 rfl (lv_at hl 1 rfl) ?_
            rcases br9 hrun with ⟨hc2, hrun⟩ | ⟨hc2, hrun⟩
            · refine lv_icmp_ge (tgt := 50) hx hb dX0_firstFree_15 (by decide) (fun _ => ?_) (fun c => absurd hc2 c)
              obtain rfl := (Option.some.inj hrun)
              exact hk12 _ _ _ hP hD hK hS (lv_sub hl [0, 1, 2, 3] rfl)
            · refine lv_icmp_ge (tgt := 50) hx hb dX0_firstFree_15 (by decide) (fun c => absurd c hc2) (fun _ => ?_)
              refine lv_iload_n hx hb dX0_firstFree_18 rfl (lv_at hl 3 rfl) ?_
              have J43 : ∀ (y0_43 : Int32) (H : Heap) (locs : List Loc) (ls : Array Slot), (fX0_firstFree_J43 (fX0_firstFree_L12 p0w p1 v2_2 n_12) v4_12 y0_43) = some o12 → va_P (dC, dI) cls (List.flatten ([(oX0 (p0a 0) p0a p0k p0n p0w)] : List va_W)) H → va_D A (List.flatten ([(oX0 (p0a 0) p0a p0k p0n p0w)] : List va_W)) → va_K (dC, dI) cls (List.flatten ([(tX0 p0k)] : List (List (ClassId × FieldType)))) s → va_S A s.heap H locs → lv_has ls 5 [(0, .ref (p0a 0)), (1, .int p1), (2, .int v2_2), (4, .int v4_12)] → W p l e ({ frames := 0, cells := 0, slots := 0, locals := 0 } : Room) s m ([.ref (p0a 0), .int p1] : List Value).toArray below meth c H locs 0 0 Q (F0 m 43 ls [.int y0_43]) := by
                intro y0_43 H locs ls hrun hP hD hK hS hl 
                unfold fX0_firstFree_J43 at hrun
                refine lv_istore_n (lv' := [(3, .int y0_43), (0, .ref (p0a 0)), (1, .int p1), (2, .int v2_2), (4, .int v4_12)]) hx hb dX0_firstFree_43 rfl hl (by decide) rfl (fun ls hl => ?_)
                refine lv_iinc (v := (v4_12 + 1)) (lv' := [(4, .int (v4_12 + 1)), (3, .int y0_43), (0, .ref (p0a 0)), (1, .int p1), (2, .int v2_2)]) hx hb dX0_firstFree_44 hl (k := 4) rfl rfl (by decide) rfl (fun ls hl => ?_)
                refine lv_goto (tgt := 12) hx hb dX0_firstFree_47 (by decide) ?_
                exact IH12 y0_43 (v4_12 + 1) o12 _ _ _ hrun hP hD hK hS (lv_sub hl [2, 3, 4, 1, 0] rfl) hk12
              have J38 : ∀ (H : Heap) (locs : List Loc) (ls : Array Slot), (fX0_firstFree_J38 (fX0_firstFree_L12 p0w p1 v2_2 n_12) v4_12) = some o12 → va_P (dC, dI) cls (List.flatten ([(oX0 (p0a 0) p0a p0k p0n p0w)] : List va_W)) H → va_D A (List.flatten ([(oX0 (p0a 0) p0a p0k p0n p0w)] : List va_W)) → va_K (dC, dI) cls (List.flatten ([(tX0 p0k)] : List (List (ClassId × FieldType)))) s → va_S A s.heap H locs → lv_has ls 5 [(0, .ref (p0a 0)), (1, .int p1), (2, .int v2_2), (4, .int v4_12)] → W p l e ({ frames := 0, cells := 0, slots := 0, locals := 0 } : Room) s m ([.ref (p0a 0), .int p1] : List Value).toArray below meth c H locs 0 0 Q (F0 m 38 ls []) := by
                intro  H locs ls hrun hP hD hK hS hl 
                unfold fX0_firstFree_J38 at hrun
                refine lv_iconst (v := 1) hx hb dX0_firstFree_38 (by decide) ?_
                refine lv_goto (tgt := 43) hx hb dX0_firstFree_39 (by decide) ?_
                exact J43 1 _ _ _ hrun hP hD hK hS (lv_sub hl [0, 1, 2, 3] rfl)
              rcases br9 hrun with ⟨hc3, hrun⟩ | ⟨hc3, hrun⟩
              · refine lv_if_ne (tgt := 38) hx hb dX0_firstFree_19 (by decide) (fun c => absurd hc3 c) (fun _ => ?_)
                refine lv_aload_n hx hb dX0_firstFree_22 rfl (lv_at hl 0 rfl) ?_
                refine va_get (D := (dC, dI)) (ci := 8) (v := .ref (p0a 16)) (C := RX0) (T := TX0) (N := 17) hx hb hts i_X0 hown hK hP 0 rfl rfl 15 (by decide) (hts _ qw633) (fun _ h9 => h9) rfl dX0_firstFree_23 ?_
                refine lv_iload hx hb dX0_firstFree_26 (lv_at hl 4 rfl) ?_
                obtain ⟨hq4, hrun⟩ := chk9 hrun
                refine va_iald hx hb hK hP 7 6 rfl rfl (ixb_in hq4) dX0_firstFree_28 ?_
                refine lv_aload_n hx hb dX0_firstFree_29 rfl (lv_at hl 0 rfl) ?_
                refine va_get (D := (dC, dI)) (ci := 8) (v := .ref (p0a 15)) (C := RX0) (T := TX0) (N := 17) hx hb hts i_X0 hown hK hP 0 rfl rfl 14 (by decide) (hts _ qw634) (fun _ h9 => h9) rfl dX0_firstFree_30 ?_
                refine lv_iload_n hx hb dX0_firstFree_33 rfl (lv_at hl 2 rfl) ?_
                obtain ⟨hq5, hrun⟩ := chk9 hrun
                refine va_iald hx hb hK hP 6 5 rfl rfl (ixb_in hq5) dX0_firstFree_34 ?_
                rcases br9 hrun with ⟨hc6, hrun⟩ | ⟨hc6, hrun⟩
                · refine lv_icmp_ne (tgt := 42) hx hb dX0_firstFree_35 (by decide) (fun c => absurd hc6 c) (fun _ => ?_)
                  exact J38 _ _ _ hrun hP hD hK hS (lv_sub hl [0, 1, 2, 4] rfl)
                · refine lv_icmp_ne (tgt := 42) hx hb dX0_firstFree_35 (by decide) (fun _ => ?_) (fun c => absurd c hc6)
                  refine lv_iconst (v := 0) hx hb dX0_firstFree_42 (by decide) ?_
                  exact J43 0 _ _ _ hrun hP hD hK hS (lv_sub hl [0, 1, 2, 4] rfl)
              · refine lv_if_ne (tgt := 38) hx hb dX0_firstFree_19 (by decide) (fun _ => ?_) (fun c => absurd c hc3)
                exact J38 _ _ _ hrun hP hD hK hS (lv_sub hl [0, 1, 2, 4] rfl)
        obtain ⟨o12, hc12, hrun⟩ := bnd9 hrun
        refine L12 NF 0 0 o12 _ _ _ hc12 hP hD hK hS (lv_sub hl [2, 3, 4, 1, 0] rfl) ?_
        intro H locs ls hP hD hK hS hl
        have hl := hl
        refine lv_iload_n hx hb dX0_firstFree_50 rfl (lv_at hl 3 rfl) ?_
        rcases br9 hrun with ⟨hc7, hrun⟩ | ⟨hc7, hrun⟩
        · refine lv_if_ne (tgt := 56) hx hb dX0_firstFree_51 (by decide) (fun c => absurd hc7 c) (fun _ => ?_)
          refine lv_iload_n hx hb dX0_firstFree_54 rfl (lv_at hl 2 rfl) ?_
          have ho9 : v2_2 = o := hr2 _ (Option.some.inj hrun).symm
          have hP9 : va_P (dC, dI) cls (List.flatten ([(oX0 (p0a 0) p0a p0k p0n p0w)] : List va_W)) H := by first | exact hP | (rw [← ho9]; exact hP)
          have hD9 : va_D A (List.flatten ([(oX0 (p0a 0) p0a p0k p0n p0w)] : List va_W)) := by first | exact hD | (rw [← ho9]; exact hD)
          subst hQ
          exact W.iret (v := v2_2) hx hb hr (fun t ht hW => ⟨⟨v2_2, (), rfl, (by rw [← ho9]), ⟨by rw [ht]; exact hP9, va_K.moved hW.alike hK, hD9⟩⟩, hS.F ht⟩) hS.2.2 dX0_firstFree_55
        · refine lv_if_ne (tgt := 56) hx hb dX0_firstFree_51 (by decide) (fun _ => ?_) (fun c => absurd c hc7)
          refine lv_iinc (v := (v2_2 + 1)) (lv' := [(2, .int (v2_2 + 1)), (0, .ref (p0a 0)), (1, .int p1), (3, .int o12)]) hx hb dX0_firstFree_56 hl (k := 2) rfl rfl (by decide) rfl (fun ls hl => ?_)
          refine lv_goto (tgt := 2) hx hb dX0_firstFree_59 (by decide) ?_
          exact IH2 (v2_2 + 1) o2 _ _ _ hrun hP hD hK hS (lv_sub hl [1, 2, 0] rfl) hr2 hk2
  obtain ⟨o2, hc2, hrun⟩ := bnd9 hrun
  refine L2 NF 0 o2 _ _ _ hc2 hP hD hK hS (lv_sub hl [1, 2, 0] rfl) (fun r e9 => by subst e9; exact Option.some.inj hrun) ?_
  intro t2 e9
  subst e9
  replace hrun := el9 hrun
  intro H locs ls hP hD hK hS hl
  have hl := hl
  refine lv_iconst (v := (-1)) hx hb dX0_firstFree_62 (by decide) ?_
  have ho9 : (-1) = o := Option.some.inj hrun
  have hP9 : va_P (dC, dI) cls (List.flatten ([(oX0 (p0a 0) p0a p0k p0n p0w)] : List va_W)) H := by first | exact hP | (rw [← ho9]; exact hP)
  have hD9 : va_D A (List.flatten ([(oX0 (p0a 0) p0a p0k p0n p0w)] : List va_W)) := by first | exact hD | (rw [← ho9]; exact hD)
  subst hQ
  exact W.iret (v := (-1)) hx hb hr (fun t ht hW => ⟨⟨(-1), (), rfl, (by rw [← ho9]), ⟨by rw [ht]; exact hP9, va_K.moved hW.alike hK, hD9⟩⟩, hS.F ht⟩) hS.2.2 dX0_firstFree_63
