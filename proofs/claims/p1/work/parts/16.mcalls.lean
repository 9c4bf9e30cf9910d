abbrev cX24_feed : ByteArray := prog_14_method_12_code
def yX24_feed : MethodName := ⟨RX24, "feed", "(IIIII)I"⟩
abbrev cX24_add : ByteArray := prog_14_method_11_code
def yX24_add : MethodName := ⟨RX24, "add", "(I)V"⟩
abbrev cX24_trim : ByteArray := prog_14_method_13_code
def yX24_trim : MethodName := ⟨RX24, "trim", "(I)I"⟩
abbrev cX24_no : ByteArray := prog_14_method_9_code
def yX24_no : MethodName := ⟨RX24, "no", "(I)I"⟩
abbrev cX24_errorAt : ByteArray := prog_14_method_16_code
def yX24_errorAt : MethodName := ⟨RX24, "errorAt", "()I"⟩
abbrev cX24_ok : ByteArray := prog_14_method_10_code
def yX24_ok : MethodName := ⟨RX24, "ok", "(I)I"⟩
abbrev cX24_restore : ByteArray := prog_14_method_17_code
def yX24_restore : MethodName := ⟨RX24, "restore", "()I"⟩
abbrev cX24_functions : ByteArray := prog_14_method_18_code
def yX24_functions : MethodName := ⟨RX24, "functions", "()I"⟩
abbrev cX24_fold : ByteArray := prog_14_method_49_code
def yX24_fold : MethodName := ⟨RX24, "fold", "()I"⟩
abbrev cX24_passAll : ByteArray := prog_14_method_48_code
def yX24_passAll : MethodName := ⟨RX24, "passAll", "(I)I"⟩
abbrev cX24_same : ByteArray := prog_14_method_50_code
def yX24_same : MethodName := ⟨RX24, "same", "()I"⟩
abbrev cX24_drop : ByteArray := prog_14_method_51_code
def yX24_drop : MethodName := ⟨RX24, "drop", "()I"⟩
abbrev cX24_lift : ByteArray := prog_14_method_52_code
def yX24_lift : MethodName := ⟨RX24, "lift", "()I"⟩
abbrev cX24_merge : ByteArray := prog_14_method_53_code
def yX24_merge : MethodName := ⟨RX24, "merge", "()I"⟩
abbrev cX24_outcome : ByteArray := prog_14_method_68_code
def yX24_outcome : MethodName := ⟨RX24, "outcome", "()I"⟩
abbrev cX24_result : ByteArray := prog_14_method_69_code
def yX24_result : MethodName := ⟨RX24, "result", "()I"⟩
abbrev cX24_stepsRun : ByteArray := prog_14_method_70_code
def yX24_stepsRun : MethodName := ⟨RX24, "stepsRun", "()I"⟩
abbrev cX24_meanCode : ByteArray := prog_14_method_76_code
def yX24_meanCode : MethodName := ⟨RX24, "meanCode", "()D"⟩
abbrev cX24_settle : ByteArray := prog_14_method_54_code
def yX24_settle : MethodName := ⟨RX24, "settle", "()I"⟩
abbrev cX24_parametersOf : ByteArray := prog_14_method_22_code
def yX24_parametersOf : MethodName := ⟨RX24, "parametersOf", "(I)I"⟩
abbrev cX24_isFunction : ByteArray := prog_14_method_19_code
def yX24_isFunction : MethodName := ⟨RX24, "isFunction", "(I)Z"⟩
abbrev cX24_blocks : ByteArray := prog_14_method_23_code
def yX24_blocks : MethodName := ⟨RX24, "blocks", "(I)I"⟩
abbrev cX24_values : ByteArray := prog_14_method_24_code
def yX24_values : MethodName := ⟨RX24, "values", "(I)I"⟩
abbrev cX24_blockOf : ByteArray := prog_14_method_26_code
def yX24_blockOf : MethodName := ⟨RX24, "blockOf", "(II)I"⟩
abbrev cX24_dominatorOf : ByteArray := prog_14_method_27_code
def yX24_dominatorOf : MethodName := ⟨RX24, "dominatorOf", "(II)I"⟩
abbrev cX24_isBlock : ByteArray := prog_14_method_20_code
def yX24_isBlock : MethodName := ⟨RX24, "isBlock", "(II)Z"⟩
abbrev cX24_depthOf : ByteArray := prog_14_method_28_code
def yX24_depthOf : MethodName := ⟨RX24, "depthOf", "(II)I"⟩
abbrev cX24_predecessors : ByteArray := prog_14_method_29_code
def yX24_predecessors : MethodName := ⟨RX24, "predecessors", "(II)I"⟩
abbrev cX24_predecessor : ByteArray := prog_14_method_31_code
def yX24_predecessor : MethodName := ⟨RX24, "predecessor", "(III)I"⟩
abbrev cX24_isAhead : ByteArray := prog_14_method_30_code
def yX24_isAhead : MethodName := ⟨RX24, "isAhead", "(III)Z"⟩
abbrev cX24_endOf : ByteArray := prog_14_method_32_code
def yX24_endOf : MethodName := ⟨RX24, "endOf", "(II)I"⟩
abbrev cX24_successor : ByteArray := prog_14_method_34_code
def yX24_successor : MethodName := ⟨RX24, "successor", "(IIZ)I"⟩
abbrev cX24_endValue : ByteArray := prog_14_method_35_code
def yX24_endValue : MethodName := ⟨RX24, "endValue", "(II)I"⟩
abbrev cX24_phis : ByteArray := prog_14_method_36_code
def yX24_phis : MethodName := ⟨RX24, "phis", "(II)I"⟩
abbrev cX24_phiGives : ByteArray := prog_14_method_38_code
def yX24_phiGives : MethodName := ⟨RX24, "phiGives", "(III)I"⟩
abbrev cX24_isPhi : ByteArray := prog_14_method_37_code
def yX24_isPhi : MethodName := ⟨RX24, "isPhi", "(III)Z"⟩
abbrev cX24_phiTakes : ByteArray := prog_14_method_39_code
def yX24_phiTakes : MethodName := ⟨RX24, "phiTakes", "(IIII)I"⟩
abbrev cX24_steps : ByteArray := prog_14_method_40_code
def yX24_steps : MethodName := ⟨RX24, "steps", "(II)I"⟩
abbrev cX24_kindOf : ByteArray := prog_14_method_42_code
def yX24_kindOf : MethodName := ⟨RX24, "kindOf", "(III)I"⟩
abbrev cX24_inStep : ByteArray := prog_14_method_41_code
def yX24_inStep : MethodName := ⟨RX24, "inStep", "(IIII)I"⟩
abbrev cX24_gives : ByteArray := prog_14_method_44_code
def yX24_gives : MethodName := ⟨RX24, "gives", "(III)I"⟩
abbrev cX24_leftOf : ByteArray := prog_14_method_45_code
def yX24_leftOf : MethodName := ⟨RX24, "leftOf", "(III)I"⟩
abbrev cX24_rightOf : ByteArray := prog_14_method_46_code
def yX24_rightOf : MethodName := ⟨RX24, "rightOf", "(III)I"⟩
abbrev cX24_lines : ByteArray := prog_14_method_57_code
def yX24_lines : MethodName := ⟨RX24, "lines", "(I)I"⟩
abbrev cX24_codeKind : ByteArray := prog_14_method_59_code
def yX24_codeKind : MethodName := ⟨RX24, "codeKind", "(II)I"⟩
abbrev cX24_inLine : ByteArray := prog_14_method_58_code
def yX24_inLine : MethodName := ⟨RX24, "inLine", "(III)I"⟩
abbrev cX24_codeGives : ByteArray := prog_14_method_60_code
def yX24_codeGives : MethodName := ⟨RX24, "codeGives", "(II)I"⟩
abbrev cX24_codeLeft : ByteArray := prog_14_method_61_code
def yX24_codeLeft : MethodName := ⟨RX24, "codeLeft", "(II)I"⟩
abbrev cX24_codeRight : ByteArray := prog_14_method_62_code
def yX24_codeRight : MethodName := ⟨RX24, "codeRight", "(II)I"⟩
abbrev cX24_slots : ByteArray := prog_14_method_63_code
def yX24_slots : MethodName := ⟨RX24, "slots", "(I)I"⟩
abbrev cX24_united : ByteArray := prog_14_method_64_code
def yX24_united : MethodName := ⟨RX24, "united", "(I)I"⟩
abbrev cX24_rounds : ByteArray := prog_14_method_65_code
def yX24_rounds : MethodName := ⟨RX24, "rounds", "(I)I"⟩
abbrev cX24_run_ : ByteArray := prog_14_method_67_code
def yX24_run_ : MethodName := ⟨RX24, "run", "(IIIIII)I"⟩
abbrev cX24_differences : ByteArray := prog_14_method_75_code
def yX24_differences : MethodName := ⟨RX24, "differences", "(III)I"⟩
abbrev cX24_word : ByteArray := prog_14_method_71_code
def yX24_word : MethodName := ⟨RX24, "word", "(I)I"⟩
abbrev cX24_allocate : ByteArray := prog_14_method_55_code
def yX24_allocate : MethodName := ⟨RX24, "allocate", "(I)I"⟩
abbrev cX24_digest : ByteArray := prog_14_method_78_code
def yX24_digest : MethodName := ⟨RX24, "digest", "()J"⟩
theorem dX24_add_0 : decode cX24_add 0 = .ok (.bipush 24, 2) := by decide +kernel
theorem dX24_add_2 : decode cX24_add 2 = .ok (.istore_n 2, 1) := by decide +kernel
theorem dX24_add_3 : decode cX24_add 3 = .ok (.iload_n 2, 1) := by decide +kernel
theorem dX24_add_4 : decode cX24_add 4 = .ok (.ifCond .lt 32, 3) := by decide +kernel
theorem dX24_add_7 : decode cX24_add 7 = .ok (.aload_n 0, 1) := by decide +kernel
theorem dX24_add_8 : decode cX24_add 8 = .ok (.getfield 15, 3) := by decide +kernel
theorem dX24_add_11 : decode cX24_add 11 = .ok (.aload_n 0, 1) := by decide +kernel
theorem dX24_add_12 : decode cX24_add 12 = .ok (.dup, 1) := by decide +kernel
theorem dX24_add_13 : decode cX24_add 13 = .ok (.getfield 55, 3) := by decide +kernel
theorem dX24_add_16 : decode cX24_add 16 = .ok (.dup_x1, 1) := by decide +kernel
theorem dX24_add_17 : decode cX24_add 17 = .ok (.iconst 1, 1) := by decide +kernel
theorem dX24_add_18 : decode cX24_add 18 = .ok (.iadd, 1) := by decide +kernel
theorem dX24_add_19 : decode cX24_add 19 = .ok (.putfield 55, 3) := by decide +kernel
theorem dX24_add_22 : decode cX24_add 22 = .ok (.iload_n 1, 1) := by decide +kernel
theorem dX24_add_23 : decode cX24_add 23 = .ok (.iload_n 2, 1) := by decide +kernel
theorem dX24_add_24 : decode cX24_add 24 = .ok (.iushr, 1) := by decide +kernel
theorem dX24_add_25 : decode cX24_add 25 = .ok (.sipush 255, 3) := by decide +kernel
theorem dX24_add_28 : decode cX24_add 28 = .ok (.iand, 1) := by decide +kernel
theorem dX24_add_29 : decode cX24_add 29 = .ok (.iastore, 1) := by decide +kernel
theorem dX24_add_30 : decode cX24_add 30 = .ok (.iinc 2 (-8), 3) := by decide +kernel
theorem dX24_add_33 : decode cX24_add 33 = .ok (.goto (-30), 3) := by decide +kernel
theorem dX24_add_36 : decode cX24_add 36 = .ok (.return_, 1) := by decide +kernel
theorem dX24_allocate_0 : decode cX24_allocate 0 = .ok (.aload_n 0, 1) := by decide +kernel
theorem dX24_allocate_1 : decode cX24_allocate 1 = .ok (.iconst 0, 1) := by decide +kernel
theorem dX24_allocate_2 : decode cX24_allocate 2 = .ok (.putfield 52, 3) := by decide +kernel
theorem dX24_allocate_5 : decode cX24_allocate 5 = .ok (.iload_n 1, 1) := by decide +kernel
theorem dX24_allocate_6 : decode cX24_allocate 6 = .ok (.iconst 3, 1) := by decide +kernel
theorem dX24_allocate_7 : decode cX24_allocate 7 = .ok (.if_icmp .lt 9, 3) := by decide +kernel
theorem dX24_allocate_10 : decode cX24_allocate 10 = .ok (.iload_n 1, 1) := by decide +kernel
theorem dX24_allocate_11 : decode cX24_allocate 11 = .ok (.bipush 8, 2) := by decide +kernel
theorem dX24_allocate_13 : decode cX24_allocate 13 = .ok (.if_icmp .le 9, 3) := by decide +kernel
theorem dX24_allocate_16 : decode cX24_allocate 16 = .ok (.aload_n 0, 1) := by decide +kernel
theorem dX24_allocate_17 : decode cX24_allocate 17 = .ok (.iconst 1, 1) := by decide +kernel
theorem dX24_allocate_18 : decode cX24_allocate 18 = .ok (.invokevirtual 58, 3) := by decide +kernel
theorem dX24_allocate_21 : decode cX24_allocate 21 = .ok (.ireturn, 1) := by decide +kernel
theorem dX24_allocate_22 : decode cX24_allocate 22 = .ok (.aload_n 0, 1) := by decide +kernel
theorem dX24_allocate_23 : decode cX24_allocate 23 = .ok (.getfield 32, 3) := by decide +kernel
theorem dX24_allocate_26 : decode cX24_allocate 26 = .ok (.arraylength, 1) := by decide +kernel
theorem dX24_allocate_27 : decode cX24_allocate 27 = .ok (.ifCond .ne 9, 3) := by decide +kernel
theorem dX24_allocate_30 : decode cX24_allocate 30 = .ok (.aload_n 0, 1) := by decide +kernel
theorem dX24_allocate_31 : decode cX24_allocate 31 = .ok (.iconst 2, 1) := by decide +kernel
theorem dX24_allocate_32 : decode cX24_allocate 32 = .ok (.invokevirtual 58, 3) := by decide +kernel
theorem dX24_allocate_35 : decode cX24_allocate 35 = .ok (.ireturn, 1) := by decide +kernel
theorem dX24_blockOf_0 : decode cX24_blockOf 0 = .ok (.aload_n 0, 1) := by decide +kernel
theorem dX24_blockOf_1 : decode cX24_blockOf 1 = .ok (.iconst 0, 1) := by decide +kernel
theorem dX24_blockOf_2 : decode cX24_blockOf 2 = .ok (.putfield 52, 3) := by decide +kernel
theorem dX24_blockOf_5 : decode cX24_blockOf 5 = .ok (.aload_n 0, 1) := by decide +kernel
theorem dX24_blockOf_6 : decode cX24_blockOf 6 = .ok (.iload_n 1, 1) := by decide +kernel
theorem dX24_blockOf_7 : decode cX24_blockOf 7 = .ok (.invokevirtual 121, 3) := by decide +kernel
theorem dX24_blockOf_10 : decode cX24_blockOf 10 = .ok (.ifCond .eq 17, 3) := by decide +kernel
theorem dX24_blockOf_27 : decode cX24_blockOf 27 = .ok (.aload_n 0, 1) := by decide +kernel
theorem dX24_blockOf_28 : decode cX24_blockOf 28 = .ok (.iconst 1, 1) := by decide +kernel
theorem dX24_blockOf_29 : decode cX24_blockOf 29 = .ok (.invokevirtual 58, 3) := by decide +kernel
theorem dX24_blockOf_32 : decode cX24_blockOf 32 = .ok (.ireturn, 1) := by decide +kernel
theorem dX24_blocks_0 : decode cX24_blocks 0 = .ok (.aload_n 0, 1) := by decide +kernel
theorem dX24_blocks_1 : decode cX24_blocks 1 = .ok (.iconst 0, 1) := by decide +kernel
theorem dX24_blocks_2 : decode cX24_blocks 2 = .ok (.putfield 52, 3) := by decide +kernel
theorem dX24_blocks_5 : decode cX24_blocks 5 = .ok (.aload_n 0, 1) := by decide +kernel
theorem dX24_blocks_6 : decode cX24_blocks 6 = .ok (.iload_n 1, 1) := by decide +kernel
theorem dX24_blocks_7 : decode cX24_blocks 7 = .ok (.invokevirtual 121, 3) := by decide +kernel
theorem dX24_blocks_10 : decode cX24_blocks 10 = .ok (.ifCond .eq 15, 3) := by decide +kernel
theorem dX24_blocks_25 : decode cX24_blocks 25 = .ok (.aload_n 0, 1) := by decide +kernel
theorem dX24_blocks_26 : decode cX24_blocks 26 = .ok (.iconst 1, 1) := by decide +kernel
theorem dX24_blocks_27 : decode cX24_blocks 27 = .ok (.invokevirtual 58, 3) := by decide +kernel
theorem dX24_blocks_30 : decode cX24_blocks 30 = .ok (.ireturn, 1) := by decide +kernel
theorem dX24_codeGives_0 : decode cX24_codeGives 0 = .ok (.aload_n 0, 1) := by decide +kernel
theorem dX24_codeGives_1 : decode cX24_codeGives 1 = .ok (.iload_n 1, 1) := by decide +kernel
theorem dX24_codeGives_2 : decode cX24_codeGives 2 = .ok (.iload_n 2, 1) := by decide +kernel
theorem dX24_codeGives_3 : decode cX24_codeGives 3 = .ok (.iconst 1, 1) := by decide +kernel
theorem dX24_codeGives_4 : decode cX24_codeGives 4 = .ok (.invokevirtual 264, 3) := by decide +kernel
theorem dX24_codeGives_7 : decode cX24_codeGives 7 = .ok (.ireturn, 1) := by decide +kernel
theorem dX24_codeKind_0 : decode cX24_codeKind 0 = .ok (.aload_n 0, 1) := by decide +kernel
theorem dX24_codeKind_1 : decode cX24_codeKind 1 = .ok (.iload_n 1, 1) := by decide +kernel
theorem dX24_codeKind_2 : decode cX24_codeKind 2 = .ok (.iload_n 2, 1) := by decide +kernel
theorem dX24_codeKind_3 : decode cX24_codeKind 3 = .ok (.iconst 0, 1) := by decide +kernel
theorem dX24_codeKind_4 : decode cX24_codeKind 4 = .ok (.invokevirtual 264, 3) := by decide +kernel
theorem dX24_codeKind_7 : decode cX24_codeKind 7 = .ok (.ireturn, 1) := by decide +kernel
theorem dX24_codeLeft_0 : decode cX24_codeLeft 0 = .ok (.aload_n 0, 1) := by decide +kernel
theorem dX24_codeLeft_1 : decode cX24_codeLeft 1 = .ok (.iload_n 1, 1) := by decide +kernel
theorem dX24_codeLeft_2 : decode cX24_codeLeft 2 = .ok (.iload_n 2, 1) := by decide +kernel
theorem dX24_codeLeft_3 : decode cX24_codeLeft 3 = .ok (.iconst 2, 1) := by decide +kernel
theorem dX24_codeLeft_4 : decode cX24_codeLeft 4 = .ok (.invokevirtual 264, 3) := by decide +kernel
theorem dX24_codeLeft_7 : decode cX24_codeLeft 7 = .ok (.ireturn, 1) := by decide +kernel
theorem dX24_codeRight_0 : decode cX24_codeRight 0 = .ok (.aload_n 0, 1) := by decide +kernel
theorem dX24_codeRight_1 : decode cX24_codeRight 1 = .ok (.iload_n 1, 1) := by decide +kernel
theorem dX24_codeRight_2 : decode cX24_codeRight 2 = .ok (.iload_n 2, 1) := by decide +kernel
theorem dX24_codeRight_3 : decode cX24_codeRight 3 = .ok (.iconst 3, 1) := by decide +kernel
theorem dX24_codeRight_4 : decode cX24_codeRight 4 = .ok (.invokevirtual 264, 3) := by decide +kernel
theorem dX24_codeRight_7 : decode cX24_codeRight 7 = .ok (.ireturn, 1) := by decide +kernel
theorem dX24_depthOf_0 : decode cX24_depthOf 0 = .ok (.aload_n 0, 1) := by decide +kernel
theorem dX24_depthOf_1 : decode cX24_depthOf 1 = .ok (.iconst 0, 1) := by decide +kernel
theorem dX24_depthOf_2 : decode cX24_depthOf 2 = .ok (.putfield 52, 3) := by decide +kernel
theorem dX24_depthOf_5 : decode cX24_depthOf 5 = .ok (.aload_n 0, 1) := by decide +kernel
theorem dX24_depthOf_6 : decode cX24_depthOf 6 = .ok (.iload_n 1, 1) := by decide +kernel
theorem dX24_depthOf_7 : decode cX24_depthOf 7 = .ok (.iload_n 2, 1) := by decide +kernel
theorem dX24_depthOf_8 : decode cX24_depthOf 8 = .ok (.invokevirtual 163, 3) := by decide +kernel
theorem dX24_depthOf_11 : decode cX24_depthOf 11 = .ok (.ifCond .eq 15, 3) := by decide +kernel
theorem dX24_depthOf_26 : decode cX24_depthOf 26 = .ok (.aload_n 0, 1) := by decide +kernel
theorem dX24_depthOf_27 : decode cX24_depthOf 27 = .ok (.iconst 1, 1) := by decide +kernel
theorem dX24_depthOf_28 : decode cX24_depthOf 28 = .ok (.invokevirtual 58, 3) := by decide +kernel
theorem dX24_depthOf_31 : decode cX24_depthOf 31 = .ok (.ireturn, 1) := by decide +kernel
theorem dX24_differences_0 : decode cX24_differences 0 = .ok (.aload_n 0, 1) := by decide +kernel
theorem dX24_differences_1 : decode cX24_differences 1 = .ok (.iconst 0, 1) := by decide +kernel
theorem dX24_differences_2 : decode cX24_differences 2 = .ok (.putfield 52, 3) := by decide +kernel
theorem dX24_differences_5 : decode cX24_differences 5 = .ok (.aload_n 0, 1) := by decide +kernel
theorem dX24_differences_6 : decode cX24_differences 6 = .ok (.iload_n 1, 1) := by decide +kernel
theorem dX24_differences_7 : decode cX24_differences 7 = .ok (.invokevirtual 121, 3) := by decide +kernel
theorem dX24_differences_10 : decode cX24_differences 10 = .ok (.ifCond .ne 9, 3) := by decide +kernel
theorem dX24_differences_13 : decode cX24_differences 13 = .ok (.aload_n 0, 1) := by decide +kernel
theorem dX24_differences_14 : decode cX24_differences 14 = .ok (.iconst 1, 1) := by decide +kernel
theorem dX24_differences_15 : decode cX24_differences 15 = .ok (.invokevirtual 58, 3) := by decide +kernel
theorem dX24_differences_18 : decode cX24_differences 18 = .ok (.ireturn, 1) := by decide +kernel
theorem dX24_digest_0 : decode cX24_digest 0 = .ok (.aload_n 0, 1) := by decide +kernel
theorem dX24_digest_1 : decode cX24_digest 1 = .ok (.iconst 0, 1) := by decide +kernel
theorem dX24_digest_2 : decode cX24_digest 2 = .ok (.putfield 52, 3) := by decide +kernel
theorem dX24_digest_5 : decode cX24_digest 5 = .ok (.ldc2_w 330, 3) := by decide +kernel
theorem dX24_digest_8 : decode cX24_digest 8 = .ok (.lstore_n 1, 1) := by decide +kernel
theorem dX24_digest_9 : decode cX24_digest 9 = .ok (.iconst 5, 1) := by decide +kernel
theorem dX24_digest_10 : decode cX24_digest 10 = .ok (.newarray .int, 2) := by decide +kernel
theorem dX24_digest_12 : decode cX24_digest 12 = .ok (.dup, 1) := by decide +kernel
theorem dX24_digest_13 : decode cX24_digest 13 = .ok (.iconst 0, 1) := by decide +kernel
theorem dX24_digest_14 : decode cX24_digest 14 = .ok (.aload_n 0, 1) := by decide +kernel
theorem dX24_digest_15 : decode cX24_digest 15 = .ok (.getfield 32, 3) := by decide +kernel
theorem dX24_digest_18 : decode cX24_digest 18 = .ok (.arraylength, 1) := by decide +kernel
theorem dX24_digest_19 : decode cX24_digest 19 = .ok (.iastore, 1) := by decide +kernel
theorem dX24_digest_20 : decode cX24_digest 20 = .ok (.dup, 1) := by decide +kernel
theorem dX24_digest_21 : decode cX24_digest 21 = .ok (.iconst 1, 1) := by decide +kernel
theorem dX24_digest_22 : decode cX24_digest 22 = .ok (.aload_n 0, 1) := by decide +kernel
theorem dX24_digest_23 : decode cX24_digest 23 = .ok (.getfield 19, 3) := by decide +kernel
theorem dX24_digest_26 : decode cX24_digest 26 = .ok (.iastore, 1) := by decide +kernel
theorem dX24_digest_27 : decode cX24_digest 27 = .ok (.dup, 1) := by decide +kernel
theorem dX24_digest_28 : decode cX24_digest 28 = .ok (.iconst 2, 1) := by decide +kernel
theorem dX24_digest_29 : decode cX24_digest 29 = .ok (.aload_n 0, 1) := by decide +kernel
theorem dX24_digest_30 : decode cX24_digest 30 = .ok (.getfield 45, 3) := by decide +kernel
theorem dX24_digest_33 : decode cX24_digest 33 = .ok (.getfield 292, 3) := by decide +kernel
theorem dX24_digest_36 : decode cX24_digest 36 = .ok (.iastore, 1) := by decide +kernel
theorem dX24_digest_37 : decode cX24_digest 37 = .ok (.dup, 1) := by decide +kernel
theorem dX24_digest_38 : decode cX24_digest 38 = .ok (.iconst 3, 1) := by decide +kernel
theorem dX24_digest_39 : decode cX24_digest 39 = .ok (.aload_n 0, 1) := by decide +kernel
theorem dX24_digest_40 : decode cX24_digest 40 = .ok (.getfield 45, 3) := by decide +kernel
theorem dX24_digest_43 : decode cX24_digest 43 = .ok (.getfield 295, 3) := by decide +kernel
theorem dX24_digest_46 : decode cX24_digest 46 = .ok (.iastore, 1) := by decide +kernel
theorem dX24_digest_47 : decode cX24_digest 47 = .ok (.dup, 1) := by decide +kernel
theorem dX24_digest_48 : decode cX24_digest 48 = .ok (.iconst 4, 1) := by decide +kernel
theorem dX24_digest_49 : decode cX24_digest 49 = .ok (.aload_n 0, 1) := by decide +kernel
theorem dX24_digest_50 : decode cX24_digest 50 = .ok (.getfield 45, 3) := by decide +kernel
theorem dX24_digest_53 : decode cX24_digest 53 = .ok (.getfield 298, 3) := by decide +kernel
theorem dX24_digest_56 : decode cX24_digest 56 = .ok (.iastore, 1) := by decide +kernel
theorem dX24_digest_57 : decode cX24_digest 57 = .ok (.astore_n 3, 1) := by decide +kernel
theorem dX24_digest_58 : decode cX24_digest 58 = .ok (.aload_n 3, 1) := by decide +kernel
theorem dX24_digest_59 : decode cX24_digest 59 = .ok (.astore 4, 2) := by decide +kernel
theorem dX24_digest_61 : decode cX24_digest 61 = .ok (.aload 4, 2) := by decide +kernel
theorem dX24_digest_63 : decode cX24_digest 63 = .ok (.arraylength, 1) := by decide +kernel
theorem dX24_digest_64 : decode cX24_digest 64 = .ok (.istore 5, 2) := by decide +kernel
theorem dX24_digest_66 : decode cX24_digest 66 = .ok (.iconst 0, 1) := by decide +kernel
theorem dX24_digest_67 : decode cX24_digest 67 = .ok (.istore 6, 2) := by decide +kernel
theorem dX24_digest_69 : decode cX24_digest 69 = .ok (.iload 6, 2) := by decide +kernel
theorem dX24_digest_71 : decode cX24_digest 71 = .ok (.iload 5, 2) := by decide +kernel
theorem dX24_digest_73 : decode cX24_digest 73 = .ok (.if_icmp .ge 26, 3) := by decide +kernel
theorem dX24_digest_76 : decode cX24_digest 76 = .ok (.aload 4, 2) := by decide +kernel
theorem dX24_digest_78 : decode cX24_digest 78 = .ok (.iload 6, 2) := by decide +kernel
theorem dX24_digest_80 : decode cX24_digest 80 = .ok (.iaload, 1) := by decide +kernel
theorem dX24_digest_81 : decode cX24_digest 81 = .ok (.istore 7, 2) := by decide +kernel
theorem dX24_digest_83 : decode cX24_digest 83 = .ok (.lload_n 1, 1) := by decide +kernel
theorem dX24_digest_84 : decode cX24_digest 84 = .ok (.ldc2_w 320, 3) := by decide +kernel
theorem dX24_digest_87 : decode cX24_digest 87 = .ok (.lmul, 1) := by decide +kernel
theorem dX24_digest_88 : decode cX24_digest 88 = .ok (.iload 7, 2) := by decide +kernel
theorem dX24_digest_90 : decode cX24_digest 90 = .ok (.i2l, 1) := by decide +kernel
theorem dX24_digest_91 : decode cX24_digest 91 = .ok (.ladd, 1) := by decide +kernel
theorem dX24_digest_92 : decode cX24_digest 92 = .ok (.lstore_n 1, 1) := by decide +kernel
theorem dX24_digest_93 : decode cX24_digest 93 = .ok (.iinc 6 1, 3) := by decide +kernel
theorem dX24_digest_96 : decode cX24_digest 96 = .ok (.goto (-27), 3) := by decide +kernel
theorem dX24_digest_99 : decode cX24_digest 99 = .ok (.aload_n 0, 1) := by decide +kernel
theorem dX24_digest_100 : decode cX24_digest 100 = .ok (.getfield 45, 3) := by decide +kernel
theorem dX24_digest_103 : decode cX24_digest 103 = .ok (.getfield 301, 3) := by decide +kernel
theorem dX24_digest_106 : decode cX24_digest 106 = .ok (.astore 4, 2) := by decide +kernel
theorem dX24_digest_108 : decode cX24_digest 108 = .ok (.aload 4, 2) := by decide +kernel
theorem dX24_digest_110 : decode cX24_digest 110 = .ok (.arraylength, 1) := by decide +kernel
theorem dX24_digest_111 : decode cX24_digest 111 = .ok (.istore 5, 2) := by decide +kernel
theorem dX24_digest_113 : decode cX24_digest 113 = .ok (.iconst 0, 1) := by decide +kernel
theorem dX24_digest_114 : decode cX24_digest 114 = .ok (.istore 6, 2) := by decide +kernel
theorem dX24_digest_116 : decode cX24_digest 116 = .ok (.iload 6, 2) := by decide +kernel
theorem dX24_digest_118 : decode cX24_digest 118 = .ok (.iload 5, 2) := by decide +kernel
theorem dX24_digest_120 : decode cX24_digest 120 = .ok (.if_icmp .ge 26, 3) := by decide +kernel
theorem dX24_digest_123 : decode cX24_digest 123 = .ok (.aload 4, 2) := by decide +kernel
theorem dX24_digest_125 : decode cX24_digest 125 = .ok (.iload 6, 2) := by decide +kernel
theorem dX24_digest_127 : decode cX24_digest 127 = .ok (.iaload, 1) := by decide +kernel
theorem dX24_digest_128 : decode cX24_digest 128 = .ok (.istore 7, 2) := by decide +kernel
theorem dX24_digest_130 : decode cX24_digest 130 = .ok (.lload_n 1, 1) := by decide +kernel
theorem dX24_digest_131 : decode cX24_digest 131 = .ok (.ldc2_w 320, 3) := by decide +kernel
theorem dX24_digest_134 : decode cX24_digest 134 = .ok (.lmul, 1) := by decide +kernel
theorem dX24_digest_135 : decode cX24_digest 135 = .ok (.iload 7, 2) := by decide +kernel
theorem dX24_digest_137 : decode cX24_digest 137 = .ok (.i2l, 1) := by decide +kernel
theorem dX24_digest_138 : decode cX24_digest 138 = .ok (.ladd, 1) := by decide +kernel
theorem dX24_digest_139 : decode cX24_digest 139 = .ok (.lstore_n 1, 1) := by decide +kernel
theorem dX24_digest_140 : decode cX24_digest 140 = .ok (.iinc 6 1, 3) := by decide +kernel
theorem dX24_digest_143 : decode cX24_digest 143 = .ok (.goto (-27), 3) := by decide +kernel
theorem dX24_digest_146 : decode cX24_digest 146 = .ok (.iconst 0, 1) := by decide +kernel
theorem dX24_digest_147 : decode cX24_digest 147 = .ok (.istore 4, 2) := by decide +kernel
theorem dX24_digest_149 : decode cX24_digest 149 = .ok (.iload 4, 2) := by decide +kernel
theorem dX24_digest_151 : decode cX24_digest 151 = .ok (.aload_n 0, 1) := by decide +kernel
theorem dX24_digest_152 : decode cX24_digest 152 = .ok (.getfield 32, 3) := by decide +kernel
theorem dX24_digest_155 : decode cX24_digest 155 = .ok (.arraylength, 1) := by decide +kernel
theorem dX24_digest_156 : decode cX24_digest 156 = .ok (.if_icmp .ge 277, 3) := by decide +kernel
theorem dX24_digest_433 : decode cX24_digest 433 = .ok (.lload_n 1, 1) := by decide +kernel
theorem dX24_digest_434 : decode cX24_digest 434 = .ok (.lreturn, 1) := by decide +kernel
theorem dX24_dominatorOf_0 : decode cX24_dominatorOf 0 = .ok (.aload_n 0, 1) := by decide +kernel
theorem dX24_dominatorOf_1 : decode cX24_dominatorOf 1 = .ok (.iconst 0, 1) := by decide +kernel
theorem dX24_dominatorOf_2 : decode cX24_dominatorOf 2 = .ok (.putfield 52, 3) := by decide +kernel
theorem dX24_dominatorOf_5 : decode cX24_dominatorOf 5 = .ok (.aload_n 0, 1) := by decide +kernel
theorem dX24_dominatorOf_6 : decode cX24_dominatorOf 6 = .ok (.iload_n 1, 1) := by decide +kernel
theorem dX24_dominatorOf_7 : decode cX24_dominatorOf 7 = .ok (.iload_n 2, 1) := by decide +kernel
theorem dX24_dominatorOf_8 : decode cX24_dominatorOf 8 = .ok (.invokevirtual 163, 3) := by decide +kernel
theorem dX24_dominatorOf_11 : decode cX24_dominatorOf 11 = .ok (.ifCond .eq 15, 3) := by decide +kernel
theorem dX24_dominatorOf_26 : decode cX24_dominatorOf 26 = .ok (.aload_n 0, 1) := by decide +kernel
theorem dX24_dominatorOf_27 : decode cX24_dominatorOf 27 = .ok (.iconst 1, 1) := by decide +kernel
theorem dX24_dominatorOf_28 : decode cX24_dominatorOf 28 = .ok (.invokevirtual 58, 3) := by decide +kernel
theorem dX24_dominatorOf_31 : decode cX24_dominatorOf 31 = .ok (.ireturn, 1) := by decide +kernel
theorem dX24_drop_0 : decode cX24_drop 0 = .ok (.aload_n 0, 1) := by decide +kernel
theorem dX24_drop_1 : decode cX24_drop 1 = .ok (.iconst 2, 1) := by decide +kernel
theorem dX24_drop_2 : decode cX24_drop 2 = .ok (.invokevirtual 244, 3) := by decide +kernel
theorem dX24_drop_5 : decode cX24_drop 5 = .ok (.ireturn, 1) := by decide +kernel
theorem dX24_endOf_0 : decode cX24_endOf 0 = .ok (.aload_n 0, 1) := by decide +kernel
theorem dX24_endOf_1 : decode cX24_endOf 1 = .ok (.iconst 0, 1) := by decide +kernel
theorem dX24_endOf_2 : decode cX24_endOf 2 = .ok (.putfield 52, 3) := by decide +kernel
theorem dX24_endOf_5 : decode cX24_endOf 5 = .ok (.aload_n 0, 1) := by decide +kernel
theorem dX24_endOf_6 : decode cX24_endOf 6 = .ok (.iload_n 1, 1) := by decide +kernel
theorem dX24_endOf_7 : decode cX24_endOf 7 = .ok (.iload_n 2, 1) := by decide +kernel
theorem dX24_endOf_8 : decode cX24_endOf 8 = .ok (.invokevirtual 163, 3) := by decide +kernel
theorem dX24_endOf_11 : decode cX24_endOf 11 = .ok (.ifCond .eq 15, 3) := by decide +kernel
theorem dX24_endOf_26 : decode cX24_endOf 26 = .ok (.aload_n 0, 1) := by decide +kernel
theorem dX24_endOf_27 : decode cX24_endOf 27 = .ok (.iconst 1, 1) := by decide +kernel
theorem dX24_endOf_28 : decode cX24_endOf 28 = .ok (.invokevirtual 58, 3) := by decide +kernel
theorem dX24_endOf_31 : decode cX24_endOf 31 = .ok (.ireturn, 1) := by decide +kernel
theorem dX24_endValue_0 : decode cX24_endValue 0 = .ok (.aload_n 0, 1) := by decide +kernel
theorem dX24_endValue_1 : decode cX24_endValue 1 = .ok (.iconst 0, 1) := by decide +kernel
theorem dX24_endValue_2 : decode cX24_endValue 2 = .ok (.putfield 52, 3) := by decide +kernel
theorem dX24_endValue_5 : decode cX24_endValue 5 = .ok (.aload_n 0, 1) := by decide +kernel
theorem dX24_endValue_6 : decode cX24_endValue 6 = .ok (.iload_n 1, 1) := by decide +kernel
theorem dX24_endValue_7 : decode cX24_endValue 7 = .ok (.iload_n 2, 1) := by decide +kernel
theorem dX24_endValue_8 : decode cX24_endValue 8 = .ok (.invokevirtual 163, 3) := by decide +kernel
theorem dX24_endValue_11 : decode cX24_endValue 11 = .ok (.ifCond .eq 15, 3) := by decide +kernel
theorem dX24_endValue_26 : decode cX24_endValue 26 = .ok (.aload_n 0, 1) := by decide +kernel
theorem dX24_endValue_27 : decode cX24_endValue 27 = .ok (.iconst 1, 1) := by decide +kernel
theorem dX24_endValue_28 : decode cX24_endValue 28 = .ok (.invokevirtual 58, 3) := by decide +kernel
theorem dX24_endValue_31 : decode cX24_endValue 31 = .ok (.ireturn, 1) := by decide +kernel
theorem dX24_errorAt_0 : decode cX24_errorAt 0 = .ok (.aload_n 0, 1) := by decide +kernel
theorem dX24_errorAt_1 : decode cX24_errorAt 1 = .ok (.aload_n 0, 1) := by decide +kernel
theorem dX24_errorAt_2 : decode cX24_errorAt 2 = .ok (.getfield 19, 3) := by decide +kernel
theorem dX24_errorAt_5 : decode cX24_errorAt 5 = .ok (.invokevirtual 118, 3) := by decide +kernel
theorem dX24_errorAt_8 : decode cX24_errorAt 8 = .ok (.ireturn, 1) := by decide +kernel
theorem dX24_feed_0 : decode cX24_feed 0 = .ok (.aload_n 0, 1) := by decide +kernel
theorem dX24_feed_1 : decode cX24_feed 1 = .ok (.iconst 0, 1) := by decide +kernel
theorem dX24_feed_2 : decode cX24_feed 2 = .ok (.putfield 52, 3) := by decide +kernel
theorem dX24_feed_5 : decode cX24_feed 5 = .ok (.aload_n 0, 1) := by decide +kernel
theorem dX24_feed_6 : decode cX24_feed 6 = .ok (.getfield 55, 3) := by decide +kernel
theorem dX24_feed_9 : decode cX24_feed 9 = .ok (.bipush 20, 2) := by decide +kernel
theorem dX24_feed_11 : decode cX24_feed 11 = .ok (.iadd, 1) := by decide +kernel
theorem dX24_feed_12 : decode cX24_feed 12 = .ok (.sipush 1200, 3) := by decide +kernel
theorem dX24_feed_15 : decode cX24_feed 15 = .ok (.if_icmp .le 9, 3) := by decide +kernel
theorem dX24_feed_24 : decode cX24_feed 24 = .ok (.aload_n 0, 1) := by decide +kernel
theorem dX24_feed_25 : decode cX24_feed 25 = .ok (.iload_n 1, 1) := by decide +kernel
theorem dX24_feed_26 : decode cX24_feed 26 = .ok (.invokevirtual 62, 3) := by decide +kernel
theorem dX24_feed_29 : decode cX24_feed 29 = .ok (.aload_n 0, 1) := by decide +kernel
theorem dX24_feed_30 : decode cX24_feed 30 = .ok (.iload_n 2, 1) := by decide +kernel
theorem dX24_feed_31 : decode cX24_feed 31 = .ok (.invokevirtual 62, 3) := by decide +kernel
theorem dX24_feed_34 : decode cX24_feed 34 = .ok (.aload_n 0, 1) := by decide +kernel
theorem dX24_feed_35 : decode cX24_feed 35 = .ok (.iload_n 3, 1) := by decide +kernel
theorem dX24_feed_36 : decode cX24_feed 36 = .ok (.invokevirtual 62, 3) := by decide +kernel
theorem dX24_feed_39 : decode cX24_feed 39 = .ok (.aload_n 0, 1) := by decide +kernel
theorem dX24_feed_40 : decode cX24_feed 40 = .ok (.iload 4, 2) := by decide +kernel
theorem dX24_feed_42 : decode cX24_feed 42 = .ok (.invokevirtual 62, 3) := by decide +kernel
theorem dX24_feed_45 : decode cX24_feed 45 = .ok (.aload_n 0, 1) := by decide +kernel
theorem dX24_feed_46 : decode cX24_feed 46 = .ok (.iload 5, 2) := by decide +kernel
theorem dX24_feed_48 : decode cX24_feed 48 = .ok (.invokevirtual 62, 3) := by decide +kernel
theorem dX24_feed_51 : decode cX24_feed 51 = .ok (.aload_n 0, 1) := by decide +kernel
theorem dX24_feed_52 : decode cX24_feed 52 = .ok (.getfield 55, 3) := by decide +kernel
theorem dX24_feed_55 : decode cX24_feed 55 = .ok (.ireturn, 1) := by decide +kernel
theorem dX24_fold_0 : decode cX24_fold 0 = .ok (.aload_n 0, 1) := by decide +kernel
theorem dX24_fold_1 : decode cX24_fold 1 = .ok (.iconst 0, 1) := by decide +kernel
theorem dX24_fold_2 : decode cX24_fold 2 = .ok (.invokevirtual 244, 3) := by decide +kernel
theorem dX24_fold_5 : decode cX24_fold 5 = .ok (.ireturn, 1) := by decide +kernel
theorem dX24_functions_0 : decode cX24_functions 0 = .ok (.aload_n 0, 1) := by decide +kernel
theorem dX24_functions_1 : decode cX24_functions 1 = .ok (.aload_n 0, 1) := by decide +kernel
theorem dX24_functions_2 : decode cX24_functions 2 = .ok (.getfield 32, 3) := by decide +kernel
theorem dX24_functions_5 : decode cX24_functions 5 = .ok (.arraylength, 1) := by decide +kernel
theorem dX24_functions_6 : decode cX24_functions 6 = .ok (.invokevirtual 118, 3) := by decide +kernel
theorem dX24_functions_9 : decode cX24_functions 9 = .ok (.ireturn, 1) := by decide +kernel
theorem dX24_gives_0 : decode cX24_gives 0 = .ok (.aload_n 0, 1) := by decide +kernel
theorem dX24_gives_1 : decode cX24_gives 1 = .ok (.iload_n 1, 1) := by decide +kernel
theorem dX24_gives_2 : decode cX24_gives 2 = .ok (.iload_n 2, 1) := by decide +kernel
theorem dX24_gives_3 : decode cX24_gives 3 = .ok (.iload_n 3, 1) := by decide +kernel
theorem dX24_gives_4 : decode cX24_gives 4 = .ok (.iconst 0, 1) := by decide +kernel
theorem dX24_gives_5 : decode cX24_gives 5 = .ok (.invokevirtual 213, 3) := by decide +kernel
theorem dX24_gives_8 : decode cX24_gives 8 = .ok (.istore 4, 2) := by decide +kernel
theorem dX24_gives_10 : decode cX24_gives 10 = .ok (.aload_n 0, 1) := by decide +kernel
theorem dX24_gives_11 : decode cX24_gives 11 = .ok (.getfield 52, 3) := by decide +kernel
theorem dX24_gives_14 : decode cX24_gives 14 = .ok (.ifCond .ne 17, 3) := by decide +kernel
theorem dX24_gives_31 : decode cX24_gives 31 = .ok (.iload 4, 2) := by decide +kernel
theorem dX24_gives_33 : decode cX24_gives 33 = .ok (.ireturn, 1) := by decide +kernel
theorem dX24_inLine_0 : decode cX24_inLine 0 = .ok (.aload_n 0, 1) := by decide +kernel
theorem dX24_inLine_1 : decode cX24_inLine 1 = .ok (.iconst 0, 1) := by decide +kernel
theorem dX24_inLine_2 : decode cX24_inLine 2 = .ok (.putfield 52, 3) := by decide +kernel
theorem dX24_inLine_5 : decode cX24_inLine 5 = .ok (.aload_n 0, 1) := by decide +kernel
theorem dX24_inLine_6 : decode cX24_inLine 6 = .ok (.iload_n 1, 1) := by decide +kernel
theorem dX24_inLine_7 : decode cX24_inLine 7 = .ok (.invokevirtual 121, 3) := by decide +kernel
theorem dX24_inLine_10 : decode cX24_inLine 10 = .ok (.ifCond .eq 41, 3) := by decide +kernel
theorem dX24_inLine_51 : decode cX24_inLine 51 = .ok (.aload_n 0, 1) := by decide +kernel
theorem dX24_inLine_52 : decode cX24_inLine 52 = .ok (.iconst 1, 1) := by decide +kernel
theorem dX24_inLine_53 : decode cX24_inLine 53 = .ok (.invokevirtual 58, 3) := by decide +kernel
theorem dX24_inLine_56 : decode cX24_inLine 56 = .ok (.ireturn, 1) := by decide +kernel
theorem dX24_inStep_0 : decode cX24_inStep 0 = .ok (.aload_n 0, 1) := by decide +kernel
theorem dX24_inStep_1 : decode cX24_inStep 1 = .ok (.iconst 0, 1) := by decide +kernel
theorem dX24_inStep_2 : decode cX24_inStep 2 = .ok (.putfield 52, 3) := by decide +kernel
theorem dX24_inStep_5 : decode cX24_inStep 5 = .ok (.aload_n 0, 1) := by decide +kernel
theorem dX24_inStep_6 : decode cX24_inStep 6 = .ok (.iload_n 1, 1) := by decide +kernel
theorem dX24_inStep_7 : decode cX24_inStep 7 = .ok (.iload_n 2, 1) := by decide +kernel
theorem dX24_inStep_8 : decode cX24_inStep 8 = .ok (.invokevirtual 163, 3) := by decide +kernel
theorem dX24_inStep_11 : decode cX24_inStep 11 = .ok (.ifCond .eq 35, 3) := by decide +kernel
theorem dX24_inStep_46 : decode cX24_inStep 46 = .ok (.aload_n 0, 1) := by decide +kernel
theorem dX24_inStep_47 : decode cX24_inStep 47 = .ok (.iconst 1, 1) := by decide +kernel
theorem dX24_inStep_48 : decode cX24_inStep 48 = .ok (.invokevirtual 58, 3) := by decide +kernel
theorem dX24_inStep_51 : decode cX24_inStep 51 = .ok (.ireturn, 1) := by decide +kernel
theorem dX24_isAhead_0 : decode cX24_isAhead 0 = .ok (.aload_n 0, 1) := by decide +kernel
theorem dX24_isAhead_1 : decode cX24_isAhead 1 = .ok (.iload_n 1, 1) := by decide +kernel
theorem dX24_isAhead_2 : decode cX24_isAhead 2 = .ok (.iload_n 2, 1) := by decide +kernel
theorem dX24_isAhead_3 : decode cX24_isAhead 3 = .ok (.invokevirtual 163, 3) := by decide +kernel
theorem dX24_isAhead_6 : decode cX24_isAhead 6 = .ok (.ifCond .eq 24, 3) := by decide +kernel
theorem dX24_isAhead_30 : decode cX24_isAhead 30 = .ok (.iconst 0, 1) := by decide +kernel
theorem dX24_isAhead_31 : decode cX24_isAhead 31 = .ok (.ireturn, 1) := by decide +kernel
theorem dX24_isBlock_0 : decode cX24_isBlock 0 = .ok (.aload_n 0, 1) := by decide +kernel
theorem dX24_isBlock_1 : decode cX24_isBlock 1 = .ok (.iload_n 1, 1) := by decide +kernel
theorem dX24_isBlock_2 : decode cX24_isBlock 2 = .ok (.invokevirtual 121, 3) := by decide +kernel
theorem dX24_isBlock_5 : decode cX24_isBlock 5 = .ok (.ifCond .eq 24, 3) := by decide +kernel
theorem dX24_isBlock_29 : decode cX24_isBlock 29 = .ok (.iconst 0, 1) := by decide +kernel
theorem dX24_isBlock_30 : decode cX24_isBlock 30 = .ok (.ireturn, 1) := by decide +kernel
theorem dX24_isFunction_0 : decode cX24_isFunction 0 = .ok (.iload_n 1, 1) := by decide +kernel
theorem dX24_isFunction_1 : decode cX24_isFunction 1 = .ok (.ifCond .lt 16, 3) := by decide +kernel
theorem dX24_isFunction_4 : decode cX24_isFunction 4 = .ok (.iload_n 1, 1) := by decide +kernel
theorem dX24_isFunction_5 : decode cX24_isFunction 5 = .ok (.aload_n 0, 1) := by decide +kernel
theorem dX24_isFunction_6 : decode cX24_isFunction 6 = .ok (.getfield 32, 3) := by decide +kernel
theorem dX24_isFunction_9 : decode cX24_isFunction 9 = .ok (.arraylength, 1) := by decide +kernel
theorem dX24_isFunction_10 : decode cX24_isFunction 10 = .ok (.if_icmp .ge 7, 3) := by decide +kernel
theorem dX24_isFunction_17 : decode cX24_isFunction 17 = .ok (.iconst 0, 1) := by decide +kernel
theorem dX24_isFunction_18 : decode cX24_isFunction 18 = .ok (.ireturn, 1) := by decide +kernel
theorem dX24_isPhi_0 : decode cX24_isPhi 0 = .ok (.aload_n 0, 1) := by decide +kernel
theorem dX24_isPhi_1 : decode cX24_isPhi 1 = .ok (.iload_n 1, 1) := by decide +kernel
theorem dX24_isPhi_2 : decode cX24_isPhi 2 = .ok (.iload_n 2, 1) := by decide +kernel
theorem dX24_isPhi_3 : decode cX24_isPhi 3 = .ok (.invokevirtual 163, 3) := by decide +kernel
theorem dX24_isPhi_6 : decode cX24_isPhi 6 = .ok (.ifCond .eq 24, 3) := by decide +kernel
theorem dX24_isPhi_30 : decode cX24_isPhi 30 = .ok (.iconst 0, 1) := by decide +kernel
theorem dX24_isPhi_31 : decode cX24_isPhi 31 = .ok (.ireturn, 1) := by decide +kernel
theorem dX24_kindOf_0 : decode cX24_kindOf 0 = .ok (.aload_n 0, 1) := by decide +kernel
theorem dX24_kindOf_1 : decode cX24_kindOf 1 = .ok (.iload_n 1, 1) := by decide +kernel
theorem dX24_kindOf_2 : decode cX24_kindOf 2 = .ok (.iload_n 2, 1) := by decide +kernel
theorem dX24_kindOf_3 : decode cX24_kindOf 3 = .ok (.iload_n 3, 1) := by decide +kernel
theorem dX24_kindOf_4 : decode cX24_kindOf 4 = .ok (.iconst 0, 1) := by decide +kernel
theorem dX24_kindOf_5 : decode cX24_kindOf 5 = .ok (.invokevirtual 213, 3) := by decide +kernel
theorem dX24_kindOf_8 : decode cX24_kindOf 8 = .ok (.ireturn, 1) := by decide +kernel
theorem dX24_leftOf_0 : decode cX24_leftOf 0 = .ok (.aload_n 0, 1) := by decide +kernel
theorem dX24_leftOf_1 : decode cX24_leftOf 1 = .ok (.iload_n 1, 1) := by decide +kernel
theorem dX24_leftOf_2 : decode cX24_leftOf 2 = .ok (.iload_n 2, 1) := by decide +kernel
theorem dX24_leftOf_3 : decode cX24_leftOf 3 = .ok (.iload_n 3, 1) := by decide +kernel
theorem dX24_leftOf_4 : decode cX24_leftOf 4 = .ok (.iconst 2, 1) := by decide +kernel
theorem dX24_leftOf_5 : decode cX24_leftOf 5 = .ok (.invokevirtual 213, 3) := by decide +kernel
theorem dX24_leftOf_8 : decode cX24_leftOf 8 = .ok (.ireturn, 1) := by decide +kernel
theorem dX24_lift_0 : decode cX24_lift 0 = .ok (.aload_n 0, 1) := by decide +kernel
theorem dX24_lift_1 : decode cX24_lift 1 = .ok (.iconst 3, 1) := by decide +kernel
theorem dX24_lift_2 : decode cX24_lift 2 = .ok (.invokevirtual 244, 3) := by decide +kernel
theorem dX24_lift_5 : decode cX24_lift 5 = .ok (.ireturn, 1) := by decide +kernel
theorem dX24_lines_0 : decode cX24_lines 0 = .ok (.aload_n 0, 1) := by decide +kernel
theorem dX24_lines_1 : decode cX24_lines 1 = .ok (.iconst 0, 1) := by decide +kernel
theorem dX24_lines_2 : decode cX24_lines 2 = .ok (.putfield 52, 3) := by decide +kernel
theorem dX24_lines_5 : decode cX24_lines 5 = .ok (.aload_n 0, 1) := by decide +kernel
theorem dX24_lines_6 : decode cX24_lines 6 = .ok (.iload_n 1, 1) := by decide +kernel
theorem dX24_lines_7 : decode cX24_lines 7 = .ok (.invokevirtual 121, 3) := by decide +kernel
theorem dX24_lines_10 : decode cX24_lines 10 = .ok (.ifCond .eq 26, 3) := by decide +kernel
theorem dX24_lines_36 : decode cX24_lines 36 = .ok (.aload_n 0, 1) := by decide +kernel
theorem dX24_lines_37 : decode cX24_lines 37 = .ok (.iconst 1, 1) := by decide +kernel
theorem dX24_lines_38 : decode cX24_lines 38 = .ok (.invokevirtual 58, 3) := by decide +kernel
theorem dX24_lines_41 : decode cX24_lines 41 = .ok (.ireturn, 1) := by decide +kernel
theorem dX24_meanCode_0 : decode cX24_meanCode 0 = .ok (.aload_n 0, 1) := by decide +kernel
theorem dX24_meanCode_1 : decode cX24_meanCode 1 = .ok (.iconst 0, 1) := by decide +kernel
theorem dX24_meanCode_2 : decode cX24_meanCode 2 = .ok (.putfield 52, 3) := by decide +kernel
theorem dX24_meanCode_5 : decode cX24_meanCode 5 = .ok (.iconst 0, 1) := by decide +kernel
theorem dX24_meanCode_6 : decode cX24_meanCode 6 = .ok (.istore_n 1, 1) := by decide +kernel
theorem dX24_meanCode_7 : decode cX24_meanCode 7 = .ok (.aload_n 0, 1) := by decide +kernel
theorem dX24_meanCode_8 : decode cX24_meanCode 8 = .ok (.getfield 38, 3) := by decide +kernel
theorem dX24_meanCode_11 : decode cX24_meanCode 11 = .ok (.astore_n 2, 1) := by decide +kernel
theorem dX24_meanCode_12 : decode cX24_meanCode 12 = .ok (.aload_n 2, 1) := by decide +kernel
theorem dX24_meanCode_13 : decode cX24_meanCode 13 = .ok (.arraylength, 1) := by decide +kernel
theorem dX24_meanCode_14 : decode cX24_meanCode 14 = .ok (.istore_n 3, 1) := by decide +kernel
theorem dX24_meanCode_15 : decode cX24_meanCode 15 = .ok (.iconst 0, 1) := by decide +kernel
theorem dX24_meanCode_16 : decode cX24_meanCode 16 = .ok (.istore 4, 2) := by decide +kernel
theorem dX24_meanCode_18 : decode cX24_meanCode 18 = .ok (.iload 4, 2) := by decide +kernel
theorem dX24_meanCode_20 : decode cX24_meanCode 20 = .ok (.iload_n 3, 1) := by decide +kernel
theorem dX24_meanCode_21 : decode cX24_meanCode 21 = .ok (.if_icmp .ge 23, 3) := by decide +kernel
theorem dX24_meanCode_44 : decode cX24_meanCode 44 = .ok (.aload_n 0, 1) := by decide +kernel
theorem dX24_meanCode_45 : decode cX24_meanCode 45 = .ok (.getfield 38, 3) := by decide +kernel
theorem dX24_meanCode_48 : decode cX24_meanCode 48 = .ok (.arraylength, 1) := by decide +kernel
theorem dX24_meanCode_49 : decode cX24_meanCode 49 = .ok (.ifCond .ne 7, 3) := by decide +kernel
theorem dX24_meanCode_52 : decode cX24_meanCode 52 = .ok (.dconst 0, 1) := by decide +kernel
theorem dX24_meanCode_53 : decode cX24_meanCode 53 = .ok (.goto 12, 3) := by decide +kernel
theorem dX24_meanCode_65 : decode cX24_meanCode 65 = .ok (.dreturn, 1) := by decide +kernel
theorem dX24_merge_0 : decode cX24_merge 0 = .ok (.aload_n 0, 1) := by decide +kernel
theorem dX24_merge_1 : decode cX24_merge 1 = .ok (.iconst 4, 1) := by decide +kernel
theorem dX24_merge_2 : decode cX24_merge 2 = .ok (.invokevirtual 244, 3) := by decide +kernel
theorem dX24_merge_5 : decode cX24_merge 5 = .ok (.ireturn, 1) := by decide +kernel
theorem dX24_no_0 : decode cX24_no 0 = .ok (.aload_n 0, 1) := by decide +kernel
theorem dX24_no_1 : decode cX24_no 1 = .ok (.iload_n 1, 1) := by decide +kernel
theorem dX24_no_2 : decode cX24_no 2 = .ok (.putfield 52, 3) := by decide +kernel
theorem dX24_no_5 : decode cX24_no 5 = .ok (.iconst 0, 1) := by decide +kernel
theorem dX24_no_6 : decode cX24_no 6 = .ok (.ireturn, 1) := by decide +kernel
theorem dX24_ok_0 : decode cX24_ok 0 = .ok (.aload_n 0, 1) := by decide +kernel
theorem dX24_ok_1 : decode cX24_ok 1 = .ok (.iconst 0, 1) := by decide +kernel
theorem dX24_ok_2 : decode cX24_ok 2 = .ok (.putfield 52, 3) := by decide +kernel
theorem dX24_ok_5 : decode cX24_ok 5 = .ok (.iload_n 1, 1) := by decide +kernel
theorem dX24_ok_6 : decode cX24_ok 6 = .ok (.ireturn, 1) := by decide +kernel
theorem dX24_outcome_0 : decode cX24_outcome 0 = .ok (.aload_n 0, 1) := by decide +kernel
theorem dX24_outcome_1 : decode cX24_outcome 1 = .ok (.aload_n 0, 1) := by decide +kernel
theorem dX24_outcome_2 : decode cX24_outcome 2 = .ok (.getfield 45, 3) := by decide +kernel
theorem dX24_outcome_5 : decode cX24_outcome 5 = .ok (.getfield 292, 3) := by decide +kernel
theorem dX24_outcome_8 : decode cX24_outcome 8 = .ok (.invokevirtual 118, 3) := by decide +kernel
theorem dX24_outcome_11 : decode cX24_outcome 11 = .ok (.ireturn, 1) := by decide +kernel
theorem dX24_parametersOf_0 : decode cX24_parametersOf 0 = .ok (.aload_n 0, 1) := by decide +kernel
theorem dX24_parametersOf_1 : decode cX24_parametersOf 1 = .ok (.iconst 0, 1) := by decide +kernel
theorem dX24_parametersOf_2 : decode cX24_parametersOf 2 = .ok (.putfield 52, 3) := by decide +kernel
theorem dX24_parametersOf_5 : decode cX24_parametersOf 5 = .ok (.aload_n 0, 1) := by decide +kernel
theorem dX24_parametersOf_6 : decode cX24_parametersOf 6 = .ok (.iload_n 1, 1) := by decide +kernel
theorem dX24_parametersOf_7 : decode cX24_parametersOf 7 = .ok (.invokevirtual 121, 3) := by decide +kernel
theorem dX24_parametersOf_10 : decode cX24_parametersOf 10 = .ok (.ifCond .eq 15, 3) := by decide +kernel
theorem dX24_parametersOf_25 : decode cX24_parametersOf 25 = .ok (.aload_n 0, 1) := by decide +kernel
theorem dX24_parametersOf_26 : decode cX24_parametersOf 26 = .ok (.iconst 1, 1) := by decide +kernel
theorem dX24_parametersOf_27 : decode cX24_parametersOf 27 = .ok (.invokevirtual 58, 3) := by decide +kernel
theorem dX24_parametersOf_30 : decode cX24_parametersOf 30 = .ok (.ireturn, 1) := by decide +kernel
theorem dX24_passAll_0 : decode cX24_passAll 0 = .ok (.aload_n 0, 1) := by decide +kernel
theorem dX24_passAll_1 : decode cX24_passAll 1 = .ok (.iconst 0, 1) := by decide +kernel
theorem dX24_passAll_2 : decode cX24_passAll 2 = .ok (.putfield 52, 3) := by decide +kernel
theorem dX24_passAll_5 : decode cX24_passAll 5 = .ok (.iconst 0, 1) := by decide +kernel
theorem dX24_passAll_6 : decode cX24_passAll 6 = .ok (.istore_n 2, 1) := by decide +kernel
theorem dX24_passAll_7 : decode cX24_passAll 7 = .ok (.aload_n 0, 1) := by decide +kernel
theorem dX24_passAll_8 : decode cX24_passAll 8 = .ok (.getfield 32, 3) := by decide +kernel
theorem dX24_passAll_11 : decode cX24_passAll 11 = .ok (.astore_n 3, 1) := by decide +kernel
theorem dX24_passAll_12 : decode cX24_passAll 12 = .ok (.aload_n 3, 1) := by decide +kernel
theorem dX24_passAll_13 : decode cX24_passAll 13 = .ok (.arraylength, 1) := by decide +kernel
theorem dX24_passAll_14 : decode cX24_passAll 14 = .ok (.istore 4, 2) := by decide +kernel
theorem dX24_passAll_16 : decode cX24_passAll 16 = .ok (.iconst 0, 1) := by decide +kernel
theorem dX24_passAll_17 : decode cX24_passAll 17 = .ok (.istore 5, 2) := by decide +kernel
theorem dX24_passAll_19 : decode cX24_passAll 19 = .ok (.iload 5, 2) := by decide +kernel
theorem dX24_passAll_21 : decode cX24_passAll 21 = .ok (.iload 4, 2) := by decide +kernel
theorem dX24_passAll_23 : decode cX24_passAll 23 = .ok (.if_icmp .ge 24, 3) := by decide +kernel
theorem dX24_passAll_47 : decode cX24_passAll 47 = .ok (.iload_n 2, 1) := by decide +kernel
theorem dX24_passAll_48 : decode cX24_passAll 48 = .ok (.ireturn, 1) := by decide +kernel
theorem dX24_phiGives_0 : decode cX24_phiGives 0 = .ok (.aload_n 0, 1) := by decide +kernel
theorem dX24_phiGives_1 : decode cX24_phiGives 1 = .ok (.iconst 0, 1) := by decide +kernel
theorem dX24_phiGives_2 : decode cX24_phiGives 2 = .ok (.putfield 52, 3) := by decide +kernel
theorem dX24_phiGives_5 : decode cX24_phiGives 5 = .ok (.aload_n 0, 1) := by decide +kernel
theorem dX24_phiGives_6 : decode cX24_phiGives 6 = .ok (.iload_n 1, 1) := by decide +kernel
theorem dX24_phiGives_7 : decode cX24_phiGives 7 = .ok (.iload_n 2, 1) := by decide +kernel
theorem dX24_phiGives_8 : decode cX24_phiGives 8 = .ok (.iload_n 3, 1) := by decide +kernel
theorem dX24_phiGives_9 : decode cX24_phiGives 9 = .ok (.invokevirtual 207, 3) := by decide +kernel
theorem dX24_phiGives_12 : decode cX24_phiGives 12 = .ok (.ifCond .eq 20, 3) := by decide +kernel
theorem dX24_phiGives_32 : decode cX24_phiGives 32 = .ok (.aload_n 0, 1) := by decide +kernel
theorem dX24_phiGives_33 : decode cX24_phiGives 33 = .ok (.iconst 1, 1) := by decide +kernel
theorem dX24_phiGives_34 : decode cX24_phiGives 34 = .ok (.invokevirtual 58, 3) := by decide +kernel
theorem dX24_phiGives_37 : decode cX24_phiGives 37 = .ok (.ireturn, 1) := by decide +kernel
theorem dX24_phiTakes_0 : decode cX24_phiTakes 0 = .ok (.aload_n 0, 1) := by decide +kernel
theorem dX24_phiTakes_1 : decode cX24_phiTakes 1 = .ok (.iconst 0, 1) := by decide +kernel
theorem dX24_phiTakes_2 : decode cX24_phiTakes 2 = .ok (.putfield 52, 3) := by decide +kernel
theorem dX24_phiTakes_5 : decode cX24_phiTakes 5 = .ok (.aload_n 0, 1) := by decide +kernel
theorem dX24_phiTakes_6 : decode cX24_phiTakes 6 = .ok (.iload_n 1, 1) := by decide +kernel
theorem dX24_phiTakes_7 : decode cX24_phiTakes 7 = .ok (.iload_n 2, 1) := by decide +kernel
theorem dX24_phiTakes_8 : decode cX24_phiTakes 8 = .ok (.iload_n 3, 1) := by decide +kernel
theorem dX24_phiTakes_9 : decode cX24_phiTakes 9 = .ok (.invokevirtual 207, 3) := by decide +kernel
theorem dX24_phiTakes_12 : decode cX24_phiTakes 12 = .ok (.ifCond .eq 14, 3) := by decide +kernel
theorem dX24_phiTakes_26 : decode cX24_phiTakes 26 = .ok (.aload_n 0, 1) := by decide +kernel
theorem dX24_phiTakes_27 : decode cX24_phiTakes 27 = .ok (.iconst 1, 1) := by decide +kernel
theorem dX24_phiTakes_28 : decode cX24_phiTakes 28 = .ok (.invokevirtual 58, 3) := by decide +kernel
theorem dX24_phiTakes_31 : decode cX24_phiTakes 31 = .ok (.ireturn, 1) := by decide +kernel
theorem dX24_phis_0 : decode cX24_phis 0 = .ok (.aload_n 0, 1) := by decide +kernel
theorem dX24_phis_1 : decode cX24_phis 1 = .ok (.iconst 0, 1) := by decide +kernel
theorem dX24_phis_2 : decode cX24_phis 2 = .ok (.putfield 52, 3) := by decide +kernel
theorem dX24_phis_5 : decode cX24_phis 5 = .ok (.aload_n 0, 1) := by decide +kernel
theorem dX24_phis_6 : decode cX24_phis 6 = .ok (.iload_n 1, 1) := by decide +kernel
theorem dX24_phis_7 : decode cX24_phis 7 = .ok (.iload_n 2, 1) := by decide +kernel
theorem dX24_phis_8 : decode cX24_phis 8 = .ok (.invokevirtual 163, 3) := by decide +kernel
theorem dX24_phis_11 : decode cX24_phis 11 = .ok (.ifCond .eq 15, 3) := by decide +kernel
theorem dX24_phis_26 : decode cX24_phis 26 = .ok (.aload_n 0, 1) := by decide +kernel
theorem dX24_phis_27 : decode cX24_phis 27 = .ok (.iconst 1, 1) := by decide +kernel
theorem dX24_phis_28 : decode cX24_phis 28 = .ok (.invokevirtual 58, 3) := by decide +kernel
theorem dX24_phis_31 : decode cX24_phis 31 = .ok (.ireturn, 1) := by decide +kernel
theorem dX24_predecessor_0 : decode cX24_predecessor 0 = .ok (.aload_n 0, 1) := by decide +kernel
theorem dX24_predecessor_1 : decode cX24_predecessor 1 = .ok (.iconst 0, 1) := by decide +kernel
theorem dX24_predecessor_2 : decode cX24_predecessor 2 = .ok (.putfield 52, 3) := by decide +kernel
theorem dX24_predecessor_5 : decode cX24_predecessor 5 = .ok (.aload_n 0, 1) := by decide +kernel
theorem dX24_predecessor_6 : decode cX24_predecessor 6 = .ok (.iload_n 1, 1) := by decide +kernel
theorem dX24_predecessor_7 : decode cX24_predecessor 7 = .ok (.iload_n 2, 1) := by decide +kernel
theorem dX24_predecessor_8 : decode cX24_predecessor 8 = .ok (.iload_n 3, 1) := by decide +kernel
theorem dX24_predecessor_9 : decode cX24_predecessor 9 = .ok (.invokevirtual 180, 3) := by decide +kernel
theorem dX24_predecessor_12 : decode cX24_predecessor 12 = .ok (.ifCond .eq 20, 3) := by decide +kernel
theorem dX24_predecessor_32 : decode cX24_predecessor 32 = .ok (.aload_n 0, 1) := by decide +kernel
theorem dX24_predecessor_33 : decode cX24_predecessor 33 = .ok (.iconst 1, 1) := by decide +kernel
theorem dX24_predecessor_34 : decode cX24_predecessor 34 = .ok (.invokevirtual 58, 3) := by decide +kernel
theorem dX24_predecessor_37 : decode cX24_predecessor 37 = .ok (.ireturn, 1) := by decide +kernel
theorem dX24_predecessors_0 : decode cX24_predecessors 0 = .ok (.aload_n 0, 1) := by decide +kernel
theorem dX24_predecessors_1 : decode cX24_predecessors 1 = .ok (.iconst 0, 1) := by decide +kernel
theorem dX24_predecessors_2 : decode cX24_predecessors 2 = .ok (.putfield 52, 3) := by decide +kernel
theorem dX24_predecessors_5 : decode cX24_predecessors 5 = .ok (.aload_n 0, 1) := by decide +kernel
theorem dX24_predecessors_6 : decode cX24_predecessors 6 = .ok (.iload_n 1, 1) := by decide +kernel
theorem dX24_predecessors_7 : decode cX24_predecessors 7 = .ok (.iload_n 2, 1) := by decide +kernel
theorem dX24_predecessors_8 : decode cX24_predecessors 8 = .ok (.invokevirtual 163, 3) := by decide +kernel
theorem dX24_predecessors_11 : decode cX24_predecessors 11 = .ok (.ifCond .eq 15, 3) := by decide +kernel
theorem dX24_predecessors_26 : decode cX24_predecessors 26 = .ok (.aload_n 0, 1) := by decide +kernel
theorem dX24_predecessors_27 : decode cX24_predecessors 27 = .ok (.iconst 1, 1) := by decide +kernel
theorem dX24_predecessors_28 : decode cX24_predecessors 28 = .ok (.invokevirtual 58, 3) := by decide +kernel
theorem dX24_predecessors_31 : decode cX24_predecessors 31 = .ok (.ireturn, 1) := by decide +kernel
theorem dX24_restore_0 : decode cX24_restore 0 = .ok (.aload_n 0, 1) := by decide +kernel
theorem dX24_restore_1 : decode cX24_restore 1 = .ok (.iconst 0, 1) := by decide +kernel
theorem dX24_restore_2 : decode cX24_restore 2 = .ok (.putfield 52, 3) := by decide +kernel
theorem dX24_restore_5 : decode cX24_restore 5 = .ok (.iconst 0, 1) := by decide +kernel
theorem dX24_restore_6 : decode cX24_restore 6 = .ok (.istore_n 1, 1) := by decide +kernel
theorem dX24_restore_7 : decode cX24_restore 7 = .ok (.aload_n 0, 1) := by decide +kernel
theorem dX24_restore_8 : decode cX24_restore 8 = .ok (.iconst 0, 1) := by decide +kernel
theorem dX24_restore_9 : decode cX24_restore 9 = .ok (.anewarray 36, 3) := by decide +kernel
theorem dX24_restore_12 : decode cX24_restore 12 = .ok (.putfield 38, 3) := by decide +kernel
theorem dX24_restore_15 : decode cX24_restore 15 = .ok (.iconst 0, 1) := by decide +kernel
theorem dX24_restore_16 : decode cX24_restore 16 = .ok (.istore_n 2, 1) := by decide +kernel
theorem dX24_restore_17 : decode cX24_restore 17 = .ok (.iload_n 2, 1) := by decide +kernel
theorem dX24_restore_18 : decode cX24_restore 18 = .ok (.aload_n 0, 1) := by decide +kernel
theorem dX24_restore_19 : decode cX24_restore 19 = .ok (.getfield 32, 3) := by decide +kernel
theorem dX24_restore_22 : decode cX24_restore 22 = .ok (.arraylength, 1) := by decide +kernel
theorem dX24_restore_23 : decode cX24_restore 23 = .ok (.if_icmp .ge 35, 3) := by decide +kernel
theorem dX24_restore_58 : decode cX24_restore 58 = .ok (.iload_n 1, 1) := by decide +kernel
theorem dX24_restore_59 : decode cX24_restore 59 = .ok (.ireturn, 1) := by decide +kernel
theorem dX24_result_0 : decode cX24_result 0 = .ok (.aload_n 0, 1) := by decide +kernel
theorem dX24_result_1 : decode cX24_result 1 = .ok (.aload_n 0, 1) := by decide +kernel
theorem dX24_result_2 : decode cX24_result 2 = .ok (.getfield 45, 3) := by decide +kernel
theorem dX24_result_5 : decode cX24_result 5 = .ok (.getfield 295, 3) := by decide +kernel
theorem dX24_result_8 : decode cX24_result 8 = .ok (.invokevirtual 118, 3) := by decide +kernel
theorem dX24_result_11 : decode cX24_result 11 = .ok (.ireturn, 1) := by decide +kernel
theorem dX24_rightOf_0 : decode cX24_rightOf 0 = .ok (.aload_n 0, 1) := by decide +kernel
theorem dX24_rightOf_1 : decode cX24_rightOf 1 = .ok (.iload_n 1, 1) := by decide +kernel
theorem dX24_rightOf_2 : decode cX24_rightOf 2 = .ok (.iload_n 2, 1) := by decide +kernel
theorem dX24_rightOf_3 : decode cX24_rightOf 3 = .ok (.iload_n 3, 1) := by decide +kernel
theorem dX24_rightOf_4 : decode cX24_rightOf 4 = .ok (.iconst 3, 1) := by decide +kernel
theorem dX24_rightOf_5 : decode cX24_rightOf 5 = .ok (.invokevirtual 213, 3) := by decide +kernel
theorem dX24_rightOf_8 : decode cX24_rightOf 8 = .ok (.ireturn, 1) := by decide +kernel
theorem dX24_rounds_0 : decode cX24_rounds 0 = .ok (.aload_n 0, 1) := by decide +kernel
theorem dX24_rounds_1 : decode cX24_rounds 1 = .ok (.iconst 0, 1) := by decide +kernel
theorem dX24_rounds_2 : decode cX24_rounds 2 = .ok (.putfield 52, 3) := by decide +kernel
theorem dX24_rounds_5 : decode cX24_rounds 5 = .ok (.aload_n 0, 1) := by decide +kernel
theorem dX24_rounds_6 : decode cX24_rounds 6 = .ok (.iload_n 1, 1) := by decide +kernel
theorem dX24_rounds_7 : decode cX24_rounds 7 = .ok (.invokevirtual 121, 3) := by decide +kernel
theorem dX24_rounds_10 : decode cX24_rounds 10 = .ok (.ifCond .eq 26, 3) := by decide +kernel
theorem dX24_rounds_36 : decode cX24_rounds 36 = .ok (.aload_n 0, 1) := by decide +kernel
theorem dX24_rounds_37 : decode cX24_rounds 37 = .ok (.iconst 1, 1) := by decide +kernel
theorem dX24_rounds_38 : decode cX24_rounds 38 = .ok (.invokevirtual 58, 3) := by decide +kernel
theorem dX24_rounds_41 : decode cX24_rounds 41 = .ok (.ireturn, 1) := by decide +kernel
theorem dX24_run__0 : decode cX24_run_ 0 = .ok (.aload_n 0, 1) := by decide +kernel
theorem dX24_run__1 : decode cX24_run_ 1 = .ok (.iconst 0, 1) := by decide +kernel
theorem dX24_run__2 : decode cX24_run_ 2 = .ok (.putfield 52, 3) := by decide +kernel
theorem dX24_run__5 : decode cX24_run_ 5 = .ok (.aload_n 0, 1) := by decide +kernel
theorem dX24_run__6 : decode cX24_run_ 6 = .ok (.iload_n 2, 1) := by decide +kernel
theorem dX24_run__7 : decode cX24_run_ 7 = .ok (.invokevirtual 121, 3) := by decide +kernel
theorem dX24_run__10 : decode cX24_run_ 10 = .ok (.ifCond .ne 9, 3) := by decide +kernel
theorem dX24_run__13 : decode cX24_run_ 13 = .ok (.aload_n 0, 1) := by decide +kernel
theorem dX24_run__14 : decode cX24_run_ 14 = .ok (.iconst 1, 1) := by decide +kernel
theorem dX24_run__15 : decode cX24_run_ 15 = .ok (.invokevirtual 58, 3) := by decide +kernel
theorem dX24_run__18 : decode cX24_run_ 18 = .ok (.ireturn, 1) := by decide +kernel
theorem dX24_same_0 : decode cX24_same 0 = .ok (.aload_n 0, 1) := by decide +kernel
theorem dX24_same_1 : decode cX24_same 1 = .ok (.iconst 1, 1) := by decide +kernel
theorem dX24_same_2 : decode cX24_same 2 = .ok (.invokevirtual 244, 3) := by decide +kernel
theorem dX24_same_5 : decode cX24_same 5 = .ok (.ireturn, 1) := by decide +kernel
theorem dX24_settle_0 : decode cX24_settle 0 = .ok (.iconst 0, 1) := by decide +kernel
theorem dX24_settle_1 : decode cX24_settle 1 = .ok (.istore_n 1, 1) := by decide +kernel
theorem dX24_settle_2 : decode cX24_settle 2 = .ok (.iconst 1, 1) := by decide +kernel
theorem dX24_settle_3 : decode cX24_settle 3 = .ok (.istore_n 2, 1) := by decide +kernel
theorem dX24_settle_4 : decode cX24_settle 4 = .ok (.iload_n 2, 1) := by decide +kernel
theorem dX24_settle_5 : decode cX24_settle 5 = .ok (.ifCond .le 32, 3) := by decide +kernel
theorem dX24_settle_8 : decode cX24_settle 8 = .ok (.iconst 0, 1) := by decide +kernel
theorem dX24_settle_9 : decode cX24_settle 9 = .ok (.istore_n 2, 1) := by decide +kernel
theorem dX24_settle_10 : decode cX24_settle 10 = .ok (.iconst 0, 1) := by decide +kernel
theorem dX24_settle_11 : decode cX24_settle 11 = .ok (.istore_n 3, 1) := by decide +kernel
theorem dX24_settle_12 : decode cX24_settle 12 = .ok (.iload_n 3, 1) := by decide +kernel
theorem dX24_settle_13 : decode cX24_settle 13 = .ok (.iconst 5, 1) := by decide +kernel
theorem dX24_settle_14 : decode cX24_settle 14 = .ok (.if_icmp .ge 17, 3) := by decide +kernel
theorem dX24_settle_17 : decode cX24_settle 17 = .ok (.iload_n 2, 1) := by decide +kernel
theorem dX24_settle_18 : decode cX24_settle 18 = .ok (.aload_n 0, 1) := by decide +kernel
theorem dX24_settle_19 : decode cX24_settle 19 = .ok (.iload_n 3, 1) := by decide +kernel
theorem dX24_settle_20 : decode cX24_settle 20 = .ok (.invokevirtual 244, 3) := by decide +kernel
theorem dX24_settle_23 : decode cX24_settle 23 = .ok (.iadd, 1) := by decide +kernel
theorem dX24_settle_24 : decode cX24_settle 24 = .ok (.istore_n 2, 1) := by decide +kernel
theorem dX24_settle_25 : decode cX24_settle 25 = .ok (.iinc 3 1, 3) := by decide +kernel
theorem dX24_settle_28 : decode cX24_settle 28 = .ok (.goto (-16), 3) := by decide +kernel
theorem dX24_settle_31 : decode cX24_settle 31 = .ok (.iinc 1 1, 3) := by decide +kernel
theorem dX24_settle_34 : decode cX24_settle 34 = .ok (.goto (-30), 3) := by decide +kernel
theorem dX24_settle_37 : decode cX24_settle 37 = .ok (.iload_n 1, 1) := by decide +kernel
theorem dX24_settle_38 : decode cX24_settle 38 = .ok (.ireturn, 1) := by decide +kernel
theorem dX24_slots_0 : decode cX24_slots 0 = .ok (.aload_n 0, 1) := by decide +kernel
theorem dX24_slots_1 : decode cX24_slots 1 = .ok (.iconst 0, 1) := by decide +kernel
theorem dX24_slots_2 : decode cX24_slots 2 = .ok (.putfield 52, 3) := by decide +kernel
theorem dX24_slots_5 : decode cX24_slots 5 = .ok (.aload_n 0, 1) := by decide +kernel
theorem dX24_slots_6 : decode cX24_slots 6 = .ok (.iload_n 1, 1) := by decide +kernel
theorem dX24_slots_7 : decode cX24_slots 7 = .ok (.invokevirtual 121, 3) := by decide +kernel
theorem dX24_slots_10 : decode cX24_slots 10 = .ok (.ifCond .eq 26, 3) := by decide +kernel
theorem dX24_slots_36 : decode cX24_slots 36 = .ok (.aload_n 0, 1) := by decide +kernel
theorem dX24_slots_37 : decode cX24_slots 37 = .ok (.iconst 1, 1) := by decide +kernel
theorem dX24_slots_38 : decode cX24_slots 38 = .ok (.invokevirtual 58, 3) := by decide +kernel
theorem dX24_slots_41 : decode cX24_slots 41 = .ok (.ireturn, 1) := by decide +kernel
theorem dX24_steps_0 : decode cX24_steps 0 = .ok (.aload_n 0, 1) := by decide +kernel
theorem dX24_steps_1 : decode cX24_steps 1 = .ok (.iconst 0, 1) := by decide +kernel
theorem dX24_steps_2 : decode cX24_steps 2 = .ok (.putfield 52, 3) := by decide +kernel
theorem dX24_steps_5 : decode cX24_steps 5 = .ok (.aload_n 0, 1) := by decide +kernel
theorem dX24_steps_6 : decode cX24_steps 6 = .ok (.iload_n 1, 1) := by decide +kernel
theorem dX24_steps_7 : decode cX24_steps 7 = .ok (.iload_n 2, 1) := by decide +kernel
theorem dX24_steps_8 : decode cX24_steps 8 = .ok (.invokevirtual 163, 3) := by decide +kernel
theorem dX24_steps_11 : decode cX24_steps 11 = .ok (.ifCond .eq 15, 3) := by decide +kernel
theorem dX24_steps_26 : decode cX24_steps 26 = .ok (.aload_n 0, 1) := by decide +kernel
theorem dX24_steps_27 : decode cX24_steps 27 = .ok (.iconst 1, 1) := by decide +kernel
theorem dX24_steps_28 : decode cX24_steps 28 = .ok (.invokevirtual 58, 3) := by decide +kernel
theorem dX24_steps_31 : decode cX24_steps 31 = .ok (.ireturn, 1) := by decide +kernel
theorem dX24_stepsRun_0 : decode cX24_stepsRun 0 = .ok (.aload_n 0, 1) := by decide +kernel
theorem dX24_stepsRun_1 : decode cX24_stepsRun 1 = .ok (.aload_n 0, 1) := by decide +kernel
theorem dX24_stepsRun_2 : decode cX24_stepsRun 2 = .ok (.getfield 45, 3) := by decide +kernel
theorem dX24_stepsRun_5 : decode cX24_stepsRun 5 = .ok (.getfield 298, 3) := by decide +kernel
theorem dX24_stepsRun_8 : decode cX24_stepsRun 8 = .ok (.invokevirtual 118, 3) := by decide +kernel
theorem dX24_stepsRun_11 : decode cX24_stepsRun 11 = .ok (.ireturn, 1) := by decide +kernel
theorem dX24_successor_0 : decode cX24_successor 0 = .ok (.aload_n 0, 1) := by decide +kernel
theorem dX24_successor_1 : decode cX24_successor 1 = .ok (.iconst 0, 1) := by decide +kernel
theorem dX24_successor_2 : decode cX24_successor 2 = .ok (.putfield 52, 3) := by decide +kernel
theorem dX24_successor_5 : decode cX24_successor 5 = .ok (.aload_n 0, 1) := by decide +kernel
theorem dX24_successor_6 : decode cX24_successor 6 = .ok (.iload_n 1, 1) := by decide +kernel
theorem dX24_successor_7 : decode cX24_successor 7 = .ok (.iload_n 2, 1) := by decide +kernel
theorem dX24_successor_8 : decode cX24_successor 8 = .ok (.invokevirtual 163, 3) := by decide +kernel
theorem dX24_successor_11 : decode cX24_successor 11 = .ok (.ifCond .ne 9, 3) := by decide +kernel
theorem dX24_successor_14 : decode cX24_successor 14 = .ok (.aload_n 0, 1) := by decide +kernel
theorem dX24_successor_15 : decode cX24_successor 15 = .ok (.iconst 1, 1) := by decide +kernel
theorem dX24_successor_16 : decode cX24_successor 16 = .ok (.invokevirtual 58, 3) := by decide +kernel
theorem dX24_successor_19 : decode cX24_successor 19 = .ok (.ireturn, 1) := by decide +kernel
theorem dX24_trim_0 : decode cX24_trim 0 = .ok (.aload_n 0, 1) := by decide +kernel
theorem dX24_trim_1 : decode cX24_trim 1 = .ok (.iconst 0, 1) := by decide +kernel
theorem dX24_trim_2 : decode cX24_trim 2 = .ok (.putfield 52, 3) := by decide +kernel
theorem dX24_trim_5 : decode cX24_trim 5 = .ok (.iload_n 1, 1) := by decide +kernel
theorem dX24_trim_6 : decode cX24_trim 6 = .ok (.ifCond .lt 11, 3) := by decide +kernel
theorem dX24_trim_9 : decode cX24_trim 9 = .ok (.iload_n 1, 1) := by decide +kernel
theorem dX24_trim_10 : decode cX24_trim 10 = .ok (.aload_n 0, 1) := by decide +kernel
theorem dX24_trim_11 : decode cX24_trim 11 = .ok (.getfield 55, 3) := by decide +kernel
theorem dX24_trim_14 : decode cX24_trim 14 = .ok (.if_icmp .le 9, 3) := by decide +kernel
theorem dX24_trim_17 : decode cX24_trim 17 = .ok (.aload_n 0, 1) := by decide +kernel
theorem dX24_trim_18 : decode cX24_trim 18 = .ok (.iconst 1, 1) := by decide +kernel
theorem dX24_trim_19 : decode cX24_trim 19 = .ok (.invokevirtual 58, 3) := by decide +kernel
theorem dX24_trim_22 : decode cX24_trim 22 = .ok (.ireturn, 1) := by decide +kernel
theorem dX24_trim_23 : decode cX24_trim 23 = .ok (.aload_n 0, 1) := by decide +kernel
theorem dX24_trim_24 : decode cX24_trim 24 = .ok (.iload_n 1, 1) := by decide +kernel
theorem dX24_trim_25 : decode cX24_trim 25 = .ok (.putfield 55, 3) := by decide +kernel
theorem dX24_trim_28 : decode cX24_trim 28 = .ok (.iload_n 1, 1) := by decide +kernel
theorem dX24_trim_29 : decode cX24_trim 29 = .ok (.ireturn, 1) := by decide +kernel
theorem dX24_united_0 : decode cX24_united 0 = .ok (.aload_n 0, 1) := by decide +kernel
theorem dX24_united_1 : decode cX24_united 1 = .ok (.iconst 0, 1) := by decide +kernel
theorem dX24_united_2 : decode cX24_united 2 = .ok (.putfield 52, 3) := by decide +kernel
theorem dX24_united_5 : decode cX24_united 5 = .ok (.aload_n 0, 1) := by decide +kernel
theorem dX24_united_6 : decode cX24_united 6 = .ok (.iload_n 1, 1) := by decide +kernel
theorem dX24_united_7 : decode cX24_united 7 = .ok (.invokevirtual 121, 3) := by decide +kernel
theorem dX24_united_10 : decode cX24_united 10 = .ok (.ifCond .eq 26, 3) := by decide +kernel
theorem dX24_united_36 : decode cX24_united 36 = .ok (.aload_n 0, 1) := by decide +kernel
theorem dX24_united_37 : decode cX24_united 37 = .ok (.iconst 1, 1) := by decide +kernel
theorem dX24_united_38 : decode cX24_united 38 = .ok (.invokevirtual 58, 3) := by decide +kernel
theorem dX24_united_41 : decode cX24_united 41 = .ok (.ireturn, 1) := by decide +kernel
theorem dX24_values_0 : decode cX24_values 0 = .ok (.aload_n 0, 1) := by decide +kernel
theorem dX24_values_1 : decode cX24_values 1 = .ok (.iconst 0, 1) := by decide +kernel
theorem dX24_values_2 : decode cX24_values 2 = .ok (.putfield 52, 3) := by decide +kernel
theorem dX24_values_5 : decode cX24_values 5 = .ok (.aload_n 0, 1) := by decide +kernel
theorem dX24_values_6 : decode cX24_values 6 = .ok (.iload_n 1, 1) := by decide +kernel
theorem dX24_values_7 : decode cX24_values 7 = .ok (.invokevirtual 121, 3) := by decide +kernel
theorem dX24_values_10 : decode cX24_values 10 = .ok (.ifCond .eq 15, 3) := by decide +kernel
theorem dX24_values_25 : decode cX24_values 25 = .ok (.aload_n 0, 1) := by decide +kernel
theorem dX24_values_26 : decode cX24_values 26 = .ok (.iconst 1, 1) := by decide +kernel
theorem dX24_values_27 : decode cX24_values 27 = .ok (.invokevirtual 58, 3) := by decide +kernel
theorem dX24_values_30 : decode cX24_values 30 = .ok (.ireturn, 1) := by decide +kernel
theorem dX24_word_0 : decode cX24_word 0 = .ok (.aload_n 0, 1) := by decide +kernel
theorem dX24_word_1 : decode cX24_word 1 = .ok (.iconst 0, 1) := by decide +kernel
theorem dX24_word_2 : decode cX24_word 2 = .ok (.putfield 52, 3) := by decide +kernel
theorem dX24_word_5 : decode cX24_word 5 = .ok (.iload_n 1, 1) := by decide +kernel
theorem dX24_word_6 : decode cX24_word 6 = .ok (.ifCond .lt 21, 3) := by decide +kernel
theorem dX24_word_9 : decode cX24_word 9 = .ok (.iload_n 1, 1) := by decide +kernel
theorem dX24_word_10 : decode cX24_word 10 = .ok (.bipush 16, 2) := by decide +kernel
theorem dX24_word_12 : decode cX24_word 12 = .ok (.if_icmp .ge 15, 3) := by decide +kernel
theorem dX24_word_15 : decode cX24_word 15 = .ok (.aload_n 0, 1) := by decide +kernel
theorem dX24_word_16 : decode cX24_word 16 = .ok (.getfield 45, 3) := by decide +kernel
theorem dX24_word_19 : decode cX24_word 19 = .ok (.getfield 301, 3) := by decide +kernel
theorem dX24_word_22 : decode cX24_word 22 = .ok (.iload_n 1, 1) := by decide +kernel
theorem dX24_word_23 : decode cX24_word 23 = .ok (.iaload, 1) := by decide +kernel
theorem dX24_word_24 : decode cX24_word 24 = .ok (.goto 8, 3) := by decide +kernel
theorem dX24_word_27 : decode cX24_word 27 = .ok (.aload_n 0, 1) := by decide +kernel
theorem dX24_word_28 : decode cX24_word 28 = .ok (.iconst 1, 1) := by decide +kernel
theorem dX24_word_29 : decode cX24_word 29 = .ok (.invokevirtual 58, 3) := by decide +kernel
theorem dX24_word_32 : decode cX24_word 32 = .ok (.ireturn, 1) := by decide +kernel
theorem qw428 : Cond.fieldLink RX24 52 "GearboxModel" "thrown" "I" ∈ gw := mq_12 (i := 114) rfl rfl
theorem qw429 : Cond.fieldLink RX24 55 "GearboxModel" "length" "I" ∈ gw := mq_12 (i := 112) rfl rfl
theorem qw430 : Cond.code yX24_add cX24_add 3 (Option.none : Option Jvm.ClassFile.FieldType) ∈ gw := mq_12 (i := 154) rfl rfl
theorem qw431 : Cond.methodLink RX24 62 yX24_add ∈ gw := mq_12 (i := 151) rfl rfl
theorem qw432 : Cond.instanceMethod yX24_add ∈ gw := mq_12 (i := 153) rfl rfl
theorem qw433 : Cond.selects RX24 yX24_add yX24_add ∈ gw := mk_s (i := 9) rfl rfl
theorem qw434 : Cond.initialized RX24 ∈ gw := mq_1 (i := 13) rfl rfl
theorem qw435 : Cond.code yX24_no cX24_no 2 (Option.some Jvm.ClassFile.FieldType.int) ∈ gw := mq_12 (i := 150) rfl rfl
theorem qw436 : Cond.methodLink RX24 58 yX24_no ∈ gw := mq_12 (i := 147) rfl rfl
theorem qw437 : Cond.instanceMethod yX24_no ∈ gw := mq_12 (i := 149) rfl rfl
theorem qw438 : Cond.selects RX24 yX24_no yX24_no ∈ gw := mk_s (i := 10) rfl rfl
theorem qw439 : Cond.code yX24_ok cX24_ok 2 (Option.some Jvm.ClassFile.FieldType.int) ∈ gw := mq_15 (i := 194) rfl rfl
theorem qw440 : Cond.methodLink RX24 118 yX24_ok ∈ gw := mq_15 (i := 191) rfl rfl
theorem qw441 : Cond.instanceMethod yX24_ok ∈ gw := mq_15 (i := 193) rfl rfl
theorem qw442 : Cond.selects RX24 yX24_ok yX24_ok ∈ gw := mk_s (i := 11) rfl rfl
theorem qw443 : Cond.code yX24_passAll cX24_passAll 7 (Option.some Jvm.ClassFile.FieldType.int) ∈ gw := mq_16 (i := 95) rfl rfl
theorem qw444 : Cond.methodLink RX24 244 yX24_passAll ∈ gw := mq_16 (i := 92) rfl rfl
theorem qw445 : Cond.instanceMethod yX24_passAll ∈ gw := mq_16 (i := 94) rfl rfl
theorem qw446 : Cond.selects RX24 yX24_passAll yX24_passAll ∈ gw := mk_s (i := 12) rfl rfl
theorem qw447 : Cond.fieldLink RX24 292 "GearboxModel$Runner" "outcome" "I" ∈ gw := mq_12 (i := 52) rfl rfl
theorem qw448 : Cond.fieldLink RX24 295 "GearboxModel$Runner" "result" "I" ∈ gw := mq_12 (i := 54) rfl rfl
theorem qw449 : Cond.fieldLink RX24 298 "GearboxModel$Runner" "steps" "I" ∈ gw := mq_12 (i := 56) rfl rfl
theorem qw450 : Cond.code yX24_isFunction cX24_isFunction 2 (Option.some Jvm.ClassFile.FieldType.boolean) ∈ gw := mq_15 (i := 210) rfl rfl
theorem qw451 : Cond.methodLink RX24 121 yX24_isFunction ∈ gw := mq_15 (i := 207) rfl rfl
theorem qw452 : Cond.instanceMethod yX24_isFunction ∈ gw := mq_15 (i := 209) rfl rfl
theorem qw453 : Cond.selects RX24 yX24_isFunction yX24_isFunction ∈ gw := mk_s (i := 13) rfl rfl
theorem qw454 : Cond.code yX24_isBlock cX24_isBlock 3 (Option.some Jvm.ClassFile.FieldType.boolean) ∈ gw := mq_16 (i := 4) rfl rfl
theorem qw455 : Cond.methodLink RX24 163 yX24_isBlock ∈ gw := mq_16 (i := 1) rfl rfl
theorem qw456 : Cond.instanceMethod yX24_isBlock ∈ gw := mq_16 (i := 3) rfl rfl
theorem qw457 : Cond.selects RX24 yX24_isBlock yX24_isBlock ∈ gw := mk_s (i := 14) rfl rfl
theorem qw458 : Cond.code yX24_isAhead cX24_isAhead 4 (Option.some Jvm.ClassFile.FieldType.boolean) ∈ gw := mq_16 (i := 24) rfl rfl
theorem qw459 : Cond.methodLink RX24 180 yX24_isAhead ∈ gw := mq_16 (i := 21) rfl rfl
theorem qw460 : Cond.instanceMethod yX24_isAhead ∈ gw := mq_16 (i := 23) rfl rfl
theorem qw461 : Cond.selects RX24 yX24_isAhead yX24_isAhead ∈ gw := mk_s (i := 15) rfl rfl
theorem qw462 : Cond.code yX24_isPhi cX24_isPhi 4 (Option.some Jvm.ClassFile.FieldType.boolean) ∈ gw := mq_16 (i := 51) rfl rfl
theorem qw463 : Cond.methodLink RX24 207 yX24_isPhi ∈ gw := mq_16 (i := 48) rfl rfl
theorem qw464 : Cond.instanceMethod yX24_isPhi ∈ gw := mq_16 (i := 50) rfl rfl
theorem qw465 : Cond.selects RX24 yX24_isPhi yX24_isPhi ∈ gw := mk_s (i := 16) rfl rfl
theorem qw466 : Cond.code yX24_inStep cX24_inStep 5 (Option.some Jvm.ClassFile.FieldType.int) ∈ gw := mq_16 (i := 71) rfl rfl
theorem qw467 : Cond.methodLink RX24 213 yX24_inStep ∈ gw := mq_16 (i := 68) rfl rfl
theorem qw468 : Cond.instanceMethod yX24_inStep ∈ gw := mq_16 (i := 70) rfl rfl
theorem qw469 : Cond.selects RX24 yX24_inStep yX24_inStep ∈ gw := mk_s (i := 17) rfl rfl
theorem qw470 : Cond.code yX24_inLine cX24_inLine 4 (Option.some Jvm.ClassFile.FieldType.int) ∈ gw := mq_18 (i := 137) rfl rfl
theorem qw471 : Cond.methodLink RX24 264 yX24_inLine ∈ gw := mq_18 (i := 134) rfl rfl
theorem qw472 : Cond.instanceMethod yX24_inLine ∈ gw := mq_18 (i := 136) rfl rfl
theorem qw473 : Cond.selects RX24 yX24_inLine yX24_inLine ∈ gw := mk_s (i := 18) rfl rfl
theorem qw474 : Cond.fieldLink RX24 301 "GearboxModel$Runner" "memory" "[I" ∈ gw := mq_12 (i := 50) rfl rfl
theorem qw475 : Cond.constantLong RX24 330 (58009) ∈ gw := mq_19 (i := 79) rfl rfl
theorem qw476 : Cond.constantLong RX24 320 (31) ∈ gw := mq_19 (i := 80) rfl rfl
set_option maxHeartbeats 4000000 in
set_option maxRecDepth 100000 in
/-- GearboxModel.add, from the state that its caller has -/
theorem kX24_add_n34 {zs : Nat × Nat} (l : Launch) (dC : Nat → ClassId) (dI : Nat → Nat → Nat) (a0 : Nat) (i1 : Int32) (a2 : Nat) (a3 : Nat) (a4 : Nat) (a5 : Nat) (a6 : Nat) (a7 : Nat) (k8 : ClassId) (sz : Nat)  : Met l yX24_add (wz yX24_add cX24_add 3 (Option.none : Option Jvm.ClassFile.FieldType)) ({ frames := 0, cells := 0, slots := 0, locals := 0 }) (va_Pc [.ref a0, .int i1] (PRE zs dC dI [(a0, .inr (15, [.ref a2, .int 0, .int (-1), .int 0, .ref a3, .ref a4, .ref a5, .ref a6, .ref a7])), (a2, .inl (k8, 1200, .inl (fun _ => 0)))] [(k8, .int)] sz)) (va_Qv (fun (_ : Unit) => True) (fun _ t => ∃ (f12 : Nat → Int32), POST dC dI [(a0, .inr (15, [.ref a2, .int 4, .int (-1), .int 0, .ref a3, .ref a4, .ref a5, .ref a6, .ref a7])), (a2, .inl (k8, 1200, .inl f12))] [(k8, .int)] (va_A [(a0, .inr (15, [.ref a2, .int 0, .int (-1), .int 0, .ref a3, .ref a4, .ref a5, .ref a6, .ref a7])), (a2, .inl (k8, 1200, .inl (fun _ => 0)))] sz) t) (va_A [(a0, .inr (15, [.ref a2, .int 0, .int (-1), .int 0, .ref a3, .ref a4, .ref a5, .ref a6, .ref a7])), (a2, .inl (k8, 1200, .inl (fun _ => 0)))] sz)) 0 0 (va_A [(a0, .inr (15, [.ref a2, .int 0, .int (-1), .int 0, .ref a3, .ref a4, .ref a5, .ref a6, .ref a7])), (a2, .inl (k8, 1200, .inl (fun _ => 0)))] sz) := by
  refine Met.ofW (cc := cX24_add) (maxL := 3) (ret := (Option.none : Option Jvm.ClassFile.FieldType)) (by decide) rfl ?_
  intro p e s m args below meth c s₁ B hml hv
  obtain ⟨rfl, hsz, hP, hK, hD0, hE⟩ := hv
  have hx := B.exec
  have hb := B.bytes
  have hr := B.returns
  have hts0 := atoms_spec (ws := wz yX24_add cX24_add 3 (Option.none : Option Jvm.ClassFile.FieldType)) B.pre
  have hts : ∀ w ∈ gw, w.before _ s = true := fun w h => hts0 w (List.mem_cons_of_mem _ h)
  have hown : s.vm.findClass RX24 = some m.cls := findClass_of_methodNamed B.named
  have hlocks := B.notSynchronized
  subst hsz
  have hD := hD0.self (sz := s.heap.size)
  generalize hAe : va_A [(a0, .inr (15, [.ref a2, .int 0, .int (-1), .int 0, .ref a3, .ref a4, .ref a5, .ref a6, .ref a7])), (a2, .inl (k8, 1200, .inl (fun _ => 0)))] s.heap.size = A at hD hE ⊢
  have hA : ∀ q : Nat, s.heap.size ≤ q → A q := fun q h => by rw [← hAe]; exact Or.inr h
  have hS : va_S A s.heap s.heap [] := va_S.rf
  have hP : va_P (dC, dI) cls [(a0, .inr (15, [.ref a2, .int 0, .int (-1), .int 0, .ref a3, .ref a4, .ref a5, .ref a6, .ref a7])), (a2, .inl (k8, 1200, .inl (fun _ => 0)))] s.heap := hP
  have hl := lv_entry ([.ref a0, .int i1]) (n := 3) (Nat.le_of_ble_eq_true rfl)
  rw [lg_entry_eq]
  generalize (lg_sl ([.ref a0, .int i1]) ++ List.replicate (3 - (lg_sl ([.ref a0, .int i1])).length) Slot.unset).toArray = ls at hl ⊢
  have hl : lv_has ls 3 [(0, .ref a0), (1, .int i1)] := hl
  refine lv_bipush (v := 24) hx hb dX24_add_0 (by decide) ?_
  refine lv_istore_n (lv' := [(2, .int 24), (0, .ref a0), (1, .int i1)]) hx hb dX24_add_2 rfl hl (by decide) rfl (fun ls hl => ?_)
  refine lv_iload_n hx hb dX24_add_3 rfl (lv_at hl 0 rfl) ?_
  refine lv_if_lt (tgt := 36) hx hb dX24_add_4 (by decide) (fun c => absurd c (by decide)) (fun _ => ?_)
  refine lv_aload_n hx hb dX24_add_7 rfl (lv_at hl 1 rfl) ?_
  refine va_get (D := (dC, dI)) (ci := 15) (v := .ref a2) (C := RX24) (T := TX24) (N := 9) hx hb hts i_X24 hown hK hP 0 rfl rfl 0 (by decide) (hts _ qw381) (fun _ h9 => h9) rfl dX24_add_8 ?_
  refine lv_aload_n hx hb dX24_add_11 rfl (lv_at hl 1 rfl) ?_
  refine lv_dup hx hb dX24_add_12 rfl ?_
  refine va_get (D := (dC, dI)) (ci := 15) (v := .int 0) (C := RX24) (T := TX24) (N := 9) hx hb hts i_X24 hown hK hP 0 rfl rfl 1 (by decide) (hts _ qw429) (fun _ h9 => h9) rfl dX24_add_13 ?_
  refine lv_dup_x1 hx hb dX24_add_16 rfl rfl ?_
  refine lv_iconst (v := 1) hx hb dX24_add_17 (by decide) ?_
  refine lv_iadd hx hb dX24_add_18 ?_
  refine lv_topC (y := 1) (by decide) ?_
  refine va_put (D := (dC, dI)) (ci := 15) (v := .int 1) (ty := .int) (C := RX24) (T := TX24) (N := 9) hx hb hts i_X24 tyX24 tyX24_ok nmX24 hown hK hP hD hS 0 rfl rfl 1 (by decide) (hts _ qw429) (fun _ h9 => h9) rfl (by decide +kernel) rfl rfl (Nat.le_of_ble_eq_true rfl) dX24_add_19 (fun H locs hP hD hS => ?_)
  have hP : va_P (dC, dI) cls [(a0, .inr (15, [.ref a2, .int 1, .int (-1), .int 0, .ref a3, .ref a4, .ref a5, .ref a6, .ref a7])), (a2, .inl (k8, 1200, .inl (fun _ => 0)))] H := hP
  have hD : va_D A [(a0, .inr (15, [.ref a2, .int 1, .int (-1), .int 0, .ref a3, .ref a4, .ref a5, .ref a6, .ref a7])), (a2, .inl (k8, 1200, .inl (fun _ => 0)))] := hD
  refine lv_iload_n hx hb dX24_add_22 rfl (lv_at hl 2 rfl) ?_
  refine lv_iload_n hx hb dX24_add_23 rfl (lv_at hl 0 rfl) ?_
  refine lv_iushr hx hb dX24_add_24 rfl ?_
  refine lv_topi (fun x1 ex1 => ?_)
  refine lv_sipush (v := 255) hx hb dX24_add_25 (by decide) ?_
  refine lv_iand hx hb dX24_add_28 ?_
  refine lv_topi (fun x2 ex2 => ?_)
  refine va_iast hx hb hK hP hD hS 1 0 rfl rfl (by unfold vp_in; decide +kernel) dX24_add_29 (fun H locs hP hD hS => ?_)
  have hP : va_P (dC, dI) cls [(a0, .inr (15, [.ref a2, .int 1, .int (-1), .int 0, .ref a3, .ref a4, .ref a5, .ref a6, .ref a7])), (a2, .inl (k8, 1200, .inl (upd (fun _ => 0) (Int32.toNatClampNeg 0) x2)))] H := hP
  have hD : va_D A [(a0, .inr (15, [.ref a2, .int 1, .int (-1), .int 0, .ref a3, .ref a4, .ref a5, .ref a6, .ref a7])), (a2, .inl (k8, 1200, .inl (upd (fun _ => 0) (Int32.toNatClampNeg 0) x2)))] := hD
  generalize upd (fun _ => 0) (Int32.toNatClampNeg 0) x2 = f3 at hP hD
  refine lv_iinc (v := 16) (lv' := [(2, .int 16), (0, .ref a0), (1, .int i1)]) hx hb dX24_add_30 hl (k := 0) rfl (by decide) (by decide) rfl (fun ls hl => ?_)
  refine lv_goto (tgt := 3) hx hb dX24_add_33 (by decide) ?_
  refine lv_iload_n hx hb dX24_add_3 rfl (lv_at hl 0 rfl) ?_
  refine lv_if_lt (tgt := 36) hx hb dX24_add_4 (by decide) (fun c => absurd c (by decide)) (fun _ => ?_)
  refine lv_aload_n hx hb dX24_add_7 rfl (lv_at hl 1 rfl) ?_
  refine va_get (D := (dC, dI)) (ci := 15) (v := .ref a2) (C := RX24) (T := TX24) (N := 9) hx hb hts i_X24 hown hK hP 0 rfl rfl 0 (by decide) (hts _ qw381) (fun _ h9 => h9) rfl dX24_add_8 ?_
  refine lv_aload_n hx hb dX24_add_11 rfl (lv_at hl 1 rfl) ?_
  refine lv_dup hx hb dX24_add_12 rfl ?_
  refine va_get (D := (dC, dI)) (ci := 15) (v := .int 1) (C := RX24) (T := TX24) (N := 9) hx hb hts i_X24 hown hK hP 0 rfl rfl 1 (by decide) (hts _ qw429) (fun _ h9 => h9) rfl dX24_add_13 ?_
  refine lv_dup_x1 hx hb dX24_add_16 rfl rfl ?_
  refine lv_iconst (v := 1) hx hb dX24_add_17 (by decide) ?_
  refine lv_iadd hx hb dX24_add_18 ?_
  refine lv_topC (y := 2) (by decide) ?_
  refine va_put (D := (dC, dI)) (ci := 15) (v := .int 2) (ty := .int) (C := RX24) (T := TX24) (N := 9) hx hb hts i_X24 tyX24 tyX24_ok nmX24 hown hK hP hD hS 0 rfl rfl 1 (by decide) (hts _ qw429) (fun _ h9 => h9) rfl (by decide +kernel) rfl rfl (Nat.le_of_ble_eq_true rfl) dX24_add_19 (fun H locs hP hD hS => ?_)
  have hP : va_P (dC, dI) cls [(a0, .inr (15, [.ref a2, .int 2, .int (-1), .int 0, .ref a3, .ref a4, .ref a5, .ref a6, .ref a7])), (a2, .inl (k8, 1200, .inl f3))] H := hP
  have hD : va_D A [(a0, .inr (15, [.ref a2, .int 2, .int (-1), .int 0, .ref a3, .ref a4, .ref a5, .ref a6, .ref a7])), (a2, .inl (k8, 1200, .inl f3))] := hD
  refine lv_iload_n hx hb dX24_add_22 rfl (lv_at hl 2 rfl) ?_
  refine lv_iload_n hx hb dX24_add_23 rfl (lv_at hl 0 rfl) ?_
  refine lv_iushr hx hb dX24_add_24 rfl ?_
  refine lv_topi (fun x4 ex4 => ?_)
  refine lv_sipush (v := 255) hx hb dX24_add_25 (by decide) ?_
  refine lv_iand hx hb dX24_add_28 ?_
  refine lv_topi (fun x5 ex5 => ?_)
  refine va_iast hx hb hK hP hD hS 1 0 rfl rfl (by unfold vp_in; decide +kernel) dX24_add_29 (fun H locs hP hD hS => ?_)
  have hP : va_P (dC, dI) cls [(a0, .inr (15, [.ref a2, .int 2, .int (-1), .int 0, .ref a3, .ref a4, .ref a5, .ref a6, .ref a7])), (a2, .inl (k8, 1200, .inl (upd f3 (Int32.toNatClampNeg 1) x5)))] H := hP
  have hD : va_D A [(a0, .inr (15, [.ref a2, .int 2, .int (-1), .int 0, .ref a3, .ref a4, .ref a5, .ref a6, .ref a7])), (a2, .inl (k8, 1200, .inl (upd f3 (Int32.toNatClampNeg 1) x5)))] := hD
  generalize upd f3 (Int32.toNatClampNeg 1) x5 = f6 at hP hD
  refine lv_iinc (v := 8) (lv' := [(2, .int 8), (0, .ref a0), (1, .int i1)]) hx hb dX24_add_30 hl (k := 0) rfl (by decide) (by decide) rfl (fun ls hl => ?_)
  refine lv_goto (tgt := 3) hx hb dX24_add_33 (by decide) ?_
  refine lv_iload_n hx hb dX24_add_3 rfl (lv_at hl 0 rfl) ?_
  refine lv_if_lt (tgt := 36) hx hb dX24_add_4 (by decide) (fun c => absurd c (by decide)) (fun _ => ?_)
  refine lv_aload_n hx hb dX24_add_7 rfl (lv_at hl 1 rfl) ?_
  refine va_get (D := (dC, dI)) (ci := 15) (v := .ref a2) (C := RX24) (T := TX24) (N := 9) hx hb hts i_X24 hown hK hP 0 rfl rfl 0 (by decide) (hts _ qw381) (fun _ h9 => h9) rfl dX24_add_8 ?_
  refine lv_aload_n hx hb dX24_add_11 rfl (lv_at hl 1 rfl) ?_
  refine lv_dup hx hb dX24_add_12 rfl ?_
  refine va_get (D := (dC, dI)) (ci := 15) (v := .int 2) (C := RX24) (T := TX24) (N := 9) hx hb hts i_X24 hown hK hP 0 rfl rfl 1 (by decide) (hts _ qw429) (fun _ h9 => h9) rfl dX24_add_13 ?_
  refine lv_dup_x1 hx hb dX24_add_16 rfl rfl ?_
  refine lv_iconst (v := 1) hx hb dX24_add_17 (by decide) ?_
  refine lv_iadd hx hb dX24_add_18 ?_
  refine lv_topC (y := 3) (by decide) ?_
  refine va_put (D := (dC, dI)) (ci := 15) (v := .int 3) (ty := .int) (C := RX24) (T := TX24) (N := 9) hx hb hts i_X24 tyX24 tyX24_ok nmX24 hown hK hP hD hS 0 rfl rfl 1 (by decide) (hts _ qw429) (fun _ h9 => h9) rfl (by decide +kernel) rfl rfl (Nat.le_of_ble_eq_true rfl) dX24_add_19 (fun H locs hP hD hS => ?_)
  have hP : va_P (dC, dI) cls [(a0, .inr (15, [.ref a2, .int 3, .int (-1), .int 0, .ref a3, .ref a4, .ref a5, .ref a6, .ref a7])), (a2, .inl (k8, 1200, .inl f6))] H := hP
  have hD : va_D A [(a0, .inr (15, [.ref a2, .int 3, .int (-1), .int 0, .ref a3, .ref a4, .ref a5, .ref a6, .ref a7])), (a2, .inl (k8, 1200, .inl f6))] := hD
  refine lv_iload_n hx hb dX24_add_22 rfl (lv_at hl 2 rfl) ?_
  refine lv_iload_n hx hb dX24_add_23 rfl (lv_at hl 0 rfl) ?_
  refine lv_iushr hx hb dX24_add_24 rfl ?_
  refine lv_topi (fun x7 ex7 => ?_)
  refine lv_sipush (v := 255) hx hb dX24_add_25 (by decide) ?_
  refine lv_iand hx hb dX24_add_28 ?_
  refine lv_topi (fun x8 ex8 => ?_)
  refine va_iast hx hb hK hP hD hS 1 0 rfl rfl (by unfold vp_in; decide +kernel) dX24_add_29 (fun H locs hP hD hS => ?_)
  have hP : va_P (dC, dI) cls [(a0, .inr (15, [.ref a2, .int 3, .int (-1), .int 0, .ref a3, .ref a4, .ref a5, .ref a6, .ref a7])), (a2, .inl (k8, 1200, .inl (upd f6 (Int32.toNatClampNeg 2) x8)))] H := hP
  have hD : va_D A [(a0, .inr (15, [.ref a2, .int 3, .int (-1), .int 0, .ref a3, .ref a4, .ref a5, .ref a6, .ref a7])), (a2, .inl (k8, 1200, .inl (upd f6 (Int32.toNatClampNeg 2) x8)))] := hD
  generalize upd f6 (Int32.toNatClampNeg 2) x8 = f9 at hP hD
  refine lv_iinc (v := 0) (lv' := [(2, .int 0), (0, .ref a0), (1, .int i1)]) hx hb dX24_add_30 hl (k := 0) rfl (by decide) (by decide) rfl (fun ls hl => ?_)
  refine lv_goto (tgt := 3) hx hb dX24_add_33 (by decide) ?_
  refine lv_iload_n hx hb dX24_add_3 rfl (lv_at hl 0 rfl) ?_
  refine lv_if_lt (tgt := 36) hx hb dX24_add_4 (by decide) (fun c => absurd c (by decide)) (fun _ => ?_)
  refine lv_aload_n hx hb dX24_add_7 rfl (lv_at hl 1 rfl) ?_
  refine va_get (D := (dC, dI)) (ci := 15) (v := .ref a2) (C := RX24) (T := TX24) (N := 9) hx hb hts i_X24 hown hK hP 0 rfl rfl 0 (by decide) (hts _ qw381) (fun _ h9 => h9) rfl dX24_add_8 ?_
  refine lv_aload_n hx hb dX24_add_11 rfl (lv_at hl 1 rfl) ?_
  refine lv_dup hx hb dX24_add_12 rfl ?_
  refine va_get (D := (dC, dI)) (ci := 15) (v := .int 3) (C := RX24) (T := TX24) (N := 9) hx hb hts i_X24 hown hK hP 0 rfl rfl 1 (by decide) (hts _ qw429) (fun _ h9 => h9) rfl dX24_add_13 ?_
  refine lv_dup_x1 hx hb dX24_add_16 rfl rfl ?_
  refine lv_iconst (v := 1) hx hb dX24_add_17 (by decide) ?_
  refine lv_iadd hx hb dX24_add_18 ?_
  refine lv_topC (y := 4) (by decide) ?_
  refine va_put (D := (dC, dI)) (ci := 15) (v := .int 4) (ty := .int) (C := RX24) (T := TX24) (N := 9) hx hb hts i_X24 tyX24 tyX24_ok nmX24 hown hK hP hD hS 0 rfl rfl 1 (by decide) (hts _ qw429) (fun _ h9 => h9) rfl (by decide +kernel) rfl rfl (Nat.le_of_ble_eq_true rfl) dX24_add_19 (fun H locs hP hD hS => ?_)
  have hP : va_P (dC, dI) cls [(a0, .inr (15, [.ref a2, .int 4, .int (-1), .int 0, .ref a3, .ref a4, .ref a5, .ref a6, .ref a7])), (a2, .inl (k8, 1200, .inl f9))] H := hP
  have hD : va_D A [(a0, .inr (15, [.ref a2, .int 4, .int (-1), .int 0, .ref a3, .ref a4, .ref a5, .ref a6, .ref a7])), (a2, .inl (k8, 1200, .inl f9))] := hD
  refine lv_iload_n hx hb dX24_add_22 rfl (lv_at hl 2 rfl) ?_
  refine lv_iload_n hx hb dX24_add_23 rfl (lv_at hl 0 rfl) ?_
  refine lv_iushr hx hb dX24_add_24 rfl ?_
  refine lv_topi (fun x10 ex10 => ?_)
  refine lv_sipush (v := 255) hx hb dX24_add_25 (by decide) ?_
  refine lv_iand hx hb dX24_add_28 ?_
  refine lv_topi (fun x11 ex11 => ?_)
  refine va_iast hx hb hK hP hD hS 1 0 rfl rfl (by unfold vp_in; decide +kernel) dX24_add_29 (fun H locs hP hD hS => ?_)
  have hP : va_P (dC, dI) cls [(a0, .inr (15, [.ref a2, .int 4, .int (-1), .int 0, .ref a3, .ref a4, .ref a5, .ref a6, .ref a7])), (a2, .inl (k8, 1200, .inl (upd f9 (Int32.toNatClampNeg 3) x11)))] H := hP
  have hD : va_D A [(a0, .inr (15, [.ref a2, .int 4, .int (-1), .int 0, .ref a3, .ref a4, .ref a5, .ref a6, .ref a7])), (a2, .inl (k8, 1200, .inl (upd f9 (Int32.toNatClampNeg 3) x11)))] := hD
  generalize upd f9 (Int32.toNatClampNeg 3) x11 = f12 at hP hD
  refine lv_iinc (v := (-8)) (lv' := [(2, .int (-8)), (0, .ref a0), (1, .int i1)]) hx hb dX24_add_30 hl (k := 0) rfl (by decide) (by decide) rfl (fun ls hl => ?_)
  refine lv_goto (tgt := 3) hx hb dX24_add_33 (by decide) ?_
  refine lv_iload_n hx hb dX24_add_3 rfl (lv_at hl 0 rfl) ?_
  refine lv_if_lt (tgt := 36) hx hb dX24_add_4 (by decide) (fun _ => ?_) (fun c => absurd (by decide) c)
  have hP9 : va_P (dC, dI) cls [(a0, .inr (15, [.ref a2, .int 4, .int (-1), .int 0, .ref a3, .ref a4, .ref a5, .ref a6, .ref a7])), (a2, .inl (k8, 1200, .inl f12))] H := hP.sub [0, 1] rfl
  have hD9 : va_D A [(a0, .inr (15, [.ref a2, .int 4, .int (-1), .int 0, .ref a3, .ref a4, .ref a5, .ref a6, .ref a7])), (a2, .inl (k8, 1200, .inl f12))] := hD.sub [0, 1] (by decide) rfl
  have hK9 : va_K (dC, dI) cls [(k8, .int)] s := hK.sub [0] rfl
  exact W.vret hx hb hr (fun t ht hW => ⟨⟨(), rfl, trivial, ⟨f12, ⟨by rw [ht]; exact hP9, va_K.moved hW.alike hK9, hD9⟩⟩⟩, hS.F ht⟩) hS.2.2 dX24_add_36
set_option maxHeartbeats 4000000 in
set_option maxRecDepth 100000 in
/-- GearboxModel.add, from the state that its caller has -/
theorem kX24_add_n35 {zs : Nat × Nat} (l : Launch) (dC : Nat → ClassId) (dI : Nat → Nat → Nat) (a0 : Nat) (i1 : Int32) (a2 : Nat) (a4 : Nat) (a6 : Nat) (a20 : Nat) (a21 : Nat) (a22 : Nat) (F23 : Nat → Int32) (k24 : ClassId) (sz : Nat)  : Met l yX24_add (wz yX24_add cX24_add 3 (Option.none : Option Jvm.ClassFile.FieldType)) ({ frames := 0, cells := 0, slots := 0, locals := 0 }) (va_Pc [.ref a0, .int i1] (PRE zs dC dI [(a0, .inr (15, [.ref a20, .int 4, .int (-1), .int 0, .ref a21, .ref a2, .ref a4, .ref a6, .ref a22])), (a20, .inl (k24, 1200, .inl F23))] [(k24, .int)] sz)) (va_Qv (fun (_ : Unit) => True) (fun _ t => ∃ (f12 : Nat → Int32), POST dC dI [(a0, .inr (15, [.ref a20, .int 8, .int (-1), .int 0, .ref a21, .ref a2, .ref a4, .ref a6, .ref a22])), (a20, .inl (k24, 1200, .inl f12))] [(k24, .int)] (va_A [(a0, .inr (15, [.ref a20, .int 4, .int (-1), .int 0, .ref a21, .ref a2, .ref a4, .ref a6, .ref a22])), (a20, .inl (k24, 1200, .inl F23))] sz) t) (va_A [(a0, .inr (15, [.ref a20, .int 4, .int (-1), .int 0, .ref a21, .ref a2, .ref a4, .ref a6, .ref a22])), (a20, .inl (k24, 1200, .inl F23))] sz)) 0 0 (va_A [(a0, .inr (15, [.ref a20, .int 4, .int (-1), .int 0, .ref a21, .ref a2, .ref a4, .ref a6, .ref a22])), (a20, .inl (k24, 1200, .inl F23))] sz) := by
  refine Met.ofW (cc := cX24_add) (maxL := 3) (ret := (Option.none : Option Jvm.ClassFile.FieldType)) (by decide) rfl ?_
  intro p e s m args below meth c s₁ B hml hv
  obtain ⟨rfl, hsz, hP, hK, hD0, hE⟩ := hv
  have hx := B.exec
  have hb := B.bytes
  have hr := B.returns
  have hts0 := atoms_spec (ws := wz yX24_add cX24_add 3 (Option.none : Option Jvm.ClassFile.FieldType)) B.pre
  have hts : ∀ w ∈ gw, w.before _ s = true := fun w h => hts0 w (List.mem_cons_of_mem _ h)
  have hown : s.vm.findClass RX24 = some m.cls := findClass_of_methodNamed B.named
  have hlocks := B.notSynchronized
  subst hsz
  have hD := hD0.self (sz := s.heap.size)
  generalize hAe : va_A [(a0, .inr (15, [.ref a20, .int 4, .int (-1), .int 0, .ref a21, .ref a2, .ref a4, .ref a6, .ref a22])), (a20, .inl (k24, 1200, .inl F23))] s.heap.size = A at hD hE ⊢
  have hA : ∀ q : Nat, s.heap.size ≤ q → A q := fun q h => by rw [← hAe]; exact Or.inr h
  have hS : va_S A s.heap s.heap [] := va_S.rf
  have hP : va_P (dC, dI) cls [(a0, .inr (15, [.ref a20, .int 4, .int (-1), .int 0, .ref a21, .ref a2, .ref a4, .ref a6, .ref a22])), (a20, .inl (k24, 1200, .inl F23))] s.heap := hP
  have hl := lv_entry ([.ref a0, .int i1]) (n := 3) (Nat.le_of_ble_eq_true rfl)
  rw [lg_entry_eq]
  generalize (lg_sl ([.ref a0, .int i1]) ++ List.replicate (3 - (lg_sl ([.ref a0, .int i1])).length) Slot.unset).toArray = ls at hl ⊢
  have hl : lv_has ls 3 [(0, .ref a0), (1, .int i1)] := hl
  refine lv_bipush (v := 24) hx hb dX24_add_0 (by decide) ?_
  refine lv_istore_n (lv' := [(2, .int 24), (0, .ref a0), (1, .int i1)]) hx hb dX24_add_2 rfl hl (by decide) rfl (fun ls hl => ?_)
  refine lv_iload_n hx hb dX24_add_3 rfl (lv_at hl 0 rfl) ?_
  refine lv_if_lt (tgt := 36) hx hb dX24_add_4 (by decide) (fun c => absurd c (by decide)) (fun _ => ?_)
  refine lv_aload_n hx hb dX24_add_7 rfl (lv_at hl 1 rfl) ?_
  refine va_get (D := (dC, dI)) (ci := 15) (v := .ref a20) (C := RX24) (T := TX24) (N := 9) hx hb hts i_X24 hown hK hP 0 rfl rfl 0 (by decide) (hts _ qw381) (fun _ h9 => h9) rfl dX24_add_8 ?_
  refine lv_aload_n hx hb dX24_add_11 rfl (lv_at hl 1 rfl) ?_
  refine lv_dup hx hb dX24_add_12 rfl ?_
  refine va_get (D := (dC, dI)) (ci := 15) (v := .int 4) (C := RX24) (T := TX24) (N := 9) hx hb hts i_X24 hown hK hP 0 rfl rfl 1 (by decide) (hts _ qw429) (fun _ h9 => h9) rfl dX24_add_13 ?_
  refine lv_dup_x1 hx hb dX24_add_16 rfl rfl ?_
  refine lv_iconst (v := 1) hx hb dX24_add_17 (by decide) ?_
  refine lv_iadd hx hb dX24_add_18 ?_
  refine lv_topC (y := 5) (by decide) ?_
  refine va_put (D := (dC, dI)) (ci := 15) (v := .int 5) (ty := .int) (C := RX24) (T := TX24) (N := 9) hx hb hts i_X24 tyX24 tyX24_ok nmX24 hown hK hP hD hS 0 rfl rfl 1 (by decide) (hts _ qw429) (fun _ h9 => h9) rfl (by decide +kernel) rfl rfl (Nat.le_of_ble_eq_true rfl) dX24_add_19 (fun H locs hP hD hS => ?_)
  have hP : va_P (dC, dI) cls [(a0, .inr (15, [.ref a20, .int 5, .int (-1), .int 0, .ref a21, .ref a2, .ref a4, .ref a6, .ref a22])), (a20, .inl (k24, 1200, .inl F23))] H := hP
  have hD : va_D A [(a0, .inr (15, [.ref a20, .int 5, .int (-1), .int 0, .ref a21, .ref a2, .ref a4, .ref a6, .ref a22])), (a20, .inl (k24, 1200, .inl F23))] := hD
  refine lv_iload_n hx hb dX24_add_22 rfl (lv_at hl 2 rfl) ?_
  refine lv_iload_n hx hb dX24_add_23 rfl (lv_at hl 0 rfl) ?_
  refine lv_iushr hx hb dX24_add_24 rfl ?_
  refine lv_topi (fun x1 ex1 => ?_)
  refine lv_sipush (v := 255) hx hb dX24_add_25 (by decide) ?_
  refine lv_iand hx hb dX24_add_28 ?_
  refine lv_topi (fun x2 ex2 => ?_)
  refine va_iast hx hb hK hP hD hS 1 0 rfl rfl (by unfold vp_in; decide +kernel) dX24_add_29 (fun H locs hP hD hS => ?_)
  have hP : va_P (dC, dI) cls [(a0, .inr (15, [.ref a20, .int 5, .int (-1), .int 0, .ref a21, .ref a2, .ref a4, .ref a6, .ref a22])), (a20, .inl (k24, 1200, .inl (upd F23 (Int32.toNatClampNeg 4) x2)))] H := hP
  have hD : va_D A [(a0, .inr (15, [.ref a20, .int 5, .int (-1), .int 0, .ref a21, .ref a2, .ref a4, .ref a6, .ref a22])), (a20, .inl (k24, 1200, .inl (upd F23 (Int32.toNatClampNeg 4) x2)))] := hD
  generalize upd F23 (Int32.toNatClampNeg 4) x2 = f3 at hP hD
  refine lv_iinc (v := 16) (lv' := [(2, .int 16), (0, .ref a0), (1, .int i1)]) hx hb dX24_add_30 hl (k := 0) rfl (by decide) (by decide) rfl (fun ls hl => ?_)
  refine lv_goto (tgt := 3) hx hb dX24_add_33 (by decide) ?_
  refine lv_iload_n hx hb dX24_add_3 rfl (lv_at hl 0 rfl) ?_
  refine lv_if_lt (tgt := 36) hx hb dX24_add_4 (by decide) (fun c => absurd c (by decide)) (fun _ => ?_)
  refine lv_aload_n hx hb dX24_add_7 rfl (lv_at hl 1 rfl) ?_
  refine va_get (D := (dC, dI)) (ci := 15) (v := .ref a20) (C := RX24) (T := TX24) (N := 9) hx hb hts i_X24 hown hK hP 0 rfl rfl 0 (by decide) (hts _ qw381) (fun _ h9 => h9) rfl dX24_add_8 ?_
  refine lv_aload_n hx hb dX24_add_11 rfl (lv_at hl 1 rfl) ?_
  refine lv_dup hx hb dX24_add_12 rfl ?_
  refine va_get (D := (dC, dI)) (ci := 15) (v := .int 5) (C := RX24) (T := TX24) (N := 9) hx hb hts i_X24 hown hK hP 0 rfl rfl 1 (by decide) (hts _ qw429) (fun _ h9 => h9) rfl dX24_add_13 ?_
  refine lv_dup_x1 hx hb dX24_add_16 rfl rfl ?_
  refine lv_iconst (v := 1) hx hb dX24_add_17 (by decide) ?_
  refine lv_iadd hx hb dX24_add_18 ?_
  refine lv_topC (y := 6) (by decide) ?_
  refine va_put (D := (dC, dI)) (ci := 15) (v := .int 6) (ty := .int) (C := RX24) (T := TX24) (N := 9) hx hb hts i_X24 tyX24 tyX24_ok nmX24 hown hK hP hD hS 0 rfl rfl 1 (by decide) (hts _ qw429) (fun _ h9 => h9) rfl (by decide +kernel) rfl rfl (Nat.le_of_ble_eq_true rfl) dX24_add_19 (fun H locs hP hD hS => ?_)
  have hP : va_P (dC, dI) cls [(a0, .inr (15, [.ref a20, .int 6, .int (-1), .int 0, .ref a21, .ref a2, .ref a4, .ref a6, .ref a22])), (a20, .inl (k24, 1200, .inl f3))] H := hP
  have hD : va_D A [(a0, .inr (15, [.ref a20, .int 6, .int (-1), .int 0, .ref a21, .ref a2, .ref a4, .ref a6, .ref a22])), (a20, .inl (k24, 1200, .inl f3))] := hD
  refine lv_iload_n hx hb dX24_add_22 rfl (lv_at hl 2 rfl) ?_
  refine lv_iload_n hx hb dX24_add_23 rfl (lv_at hl 0 rfl) ?_
  refine lv_iushr hx hb dX24_add_24 rfl ?_
  refine lv_topi (fun x4 ex4 => ?_)
  refine lv_sipush (v := 255) hx hb dX24_add_25 (by decide) ?_
  refine lv_iand hx hb dX24_add_28 ?_
  refine lv_topi (fun x5 ex5 => ?_)
  refine va_iast hx hb hK hP hD hS 1 0 rfl rfl (by unfold vp_in; decide +kernel) dX24_add_29 (fun H locs hP hD hS => ?_)
  have hP : va_P (dC, dI) cls [(a0, .inr (15, [.ref a20, .int 6, .int (-1), .int 0, .ref a21, .ref a2, .ref a4, .ref a6, .ref a22])), (a20, .inl (k24, 1200, .inl (upd f3 (Int32.toNatClampNeg 5) x5)))] H := hP
  have hD : va_D A [(a0, .inr (15, [.ref a20, .int 6, .int (-1), .int 0, .ref a21, .ref a2, .ref a4, .ref a6, .ref a22])), (a20, .inl (k24, 1200, .inl (upd f3 (Int32.toNatClampNeg 5) x5)))] := hD
  generalize upd f3 (Int32.toNatClampNeg 5) x5 = f6 at hP hD
  refine lv_iinc (v := 8) (lv' := [(2, .int 8), (0, .ref a0), (1, .int i1)]) hx hb dX24_add_30 hl (k := 0) rfl (by decide) (by decide) rfl (fun ls hl => ?_)
  refine lv_goto (tgt := 3) hx hb dX24_add_33 (by decide) ?_
  refine lv_iload_n hx hb dX24_add_3 rfl (lv_at hl 0 rfl) ?_
  refine lv_if_lt (tgt := 36) hx hb dX24_add_4 (by decide) (fun c => absurd c (by decide)) (fun _ => ?_)
  refine lv_aload_n hx hb dX24_add_7 rfl (lv_at hl 1 rfl) ?_
  refine va_get (D := (dC, dI)) (ci := 15) (v := .ref a20) (C := RX24) (T := TX24) (N := 9) hx hb hts i_X24 hown hK hP 0 rfl rfl 0 (by decide) (hts _ qw381) (fun _ h9 => h9) rfl dX24_add_8 ?_
  refine lv_aload_n hx hb dX24_add_11 rfl (lv_at hl 1 rfl) ?_
  refine lv_dup hx hb dX24_add_12 rfl ?_
  refine va_get (D := (dC, dI)) (ci := 15) (v := .int 6) (C := RX24) (T := TX24) (N := 9) hx hb hts i_X24 hown hK hP 0 rfl rfl 1 (by decide) (hts _ qw429) (fun _ h9 => h9) rfl dX24_add_13 ?_
  refine lv_dup_x1 hx hb dX24_add_16 rfl rfl ?_
  refine lv_iconst (v := 1) hx hb dX24_add_17 (by decide) ?_
  refine lv_iadd hx hb dX24_add_18 ?_
  refine lv_topC (y := 7) (by decide) ?_
  refine va_put (D := (dC, dI)) (ci := 15) (v := .int 7) (ty := .int) (C := RX24) (T := TX24) (N := 9) hx hb hts i_X24 tyX24 tyX24_ok nmX24 hown hK hP hD hS 0 rfl rfl 1 (by decide) (hts _ qw429) (fun _ h9 => h9) rfl (by decide +kernel) rfl rfl (Nat.le_of_ble_eq_true rfl) dX24_add_19 (fun H locs hP hD hS => ?_)
  have hP : va_P (dC, dI) cls [(a0, .inr (15, [.ref a20, .int 7, .int (-1), .int 0, .ref a21, .ref a2, .ref a4, .ref a6, .ref a22])), (a20, .inl (k24, 1200, .inl f6))] H := hP
  have hD : va_D A [(a0, .inr (15, [.ref a20, .int 7, .int (-1), .int 0, .ref a21, .ref a2, .ref a4, .ref a6, .ref a22])), (a20, .inl (k24, 1200, .inl f6))] := hD
  refine lv_iload_n hx hb dX24_add_22 rfl (lv_at hl 2 rfl) ?_
  refine lv_iload_n hx hb dX24_add_23 rfl (lv_at hl 0 rfl) ?_
  refine lv_iushr hx hb dX24_add_24 rfl ?_
  refine lv_topi (fun x7 ex7 => ?_)
  refine lv_sipush (v := 255) hx hb dX24_add_25 (by decide) ?_
  refine lv_iand hx hb dX24_add_28 ?_
  refine lv_topi (fun x8 ex8 => ?_)
  refine va_iast hx hb hK hP hD hS 1 0 rfl rfl (by unfold vp_in; decide +kernel) dX24_add_29 (fun H locs hP hD hS => ?_)
  have hP : va_P (dC, dI) cls [(a0, .inr (15, [.ref a20, .int 7, .int (-1), .int 0, .ref a21, .ref a2, .ref a4, .ref a6, .ref a22])), (a20, .inl (k24, 1200, .inl (upd f6 (Int32.toNatClampNeg 6) x8)))] H := hP
  have hD : va_D A [(a0, .inr (15, [.ref a20, .int 7, .int (-1), .int 0, .ref a21, .ref a2, .ref a4, .ref a6, .ref a22])), (a20, .inl (k24, 1200, .inl (upd f6 (Int32.toNatClampNeg 6) x8)))] := hD
  generalize upd f6 (Int32.toNatClampNeg 6) x8 = f9 at hP hD
  refine lv_iinc (v := 0) (lv' := [(2, .int 0), (0, .ref a0), (1, .int i1)]) hx hb dX24_add_30 hl (k := 0) rfl (by decide) (by decide) rfl (fun ls hl => ?_)
  refine lv_goto (tgt := 3) hx hb dX24_add_33 (by decide) ?_
  refine lv_iload_n hx hb dX24_add_3 rfl (lv_at hl 0 rfl) ?_
  refine lv_if_lt (tgt := 36) hx hb dX24_add_4 (by decide) (fun c => absurd c (by decide)) (fun _ => ?_)
  refine lv_aload_n hx hb dX24_add_7 rfl (lv_at hl 1 rfl) ?_
  refine va_get (D := (dC, dI)) (ci := 15) (v := .ref a20) (C := RX24) (T := TX24) (N := 9) hx hb hts i_X24 hown hK hP 0 rfl rfl 0 (by decide) (hts _ qw381) (fun _ h9 => h9) rfl dX24_add_8 ?_
  refine lv_aload_n hx hb dX24_add_11 rfl (lv_at hl 1 rfl) ?_
  refine lv_dup hx hb dX24_add_12 rfl ?_
  refine va_get (D := (dC, dI)) (ci := 15) (v := .int 7) (C := RX24) (T := TX24) (N := 9) hx hb hts i_X24 hown hK hP 0 rfl rfl 1 (by decide) (hts _ qw429) (fun _ h9 => h9) rfl dX24_add_13 ?_
  refine lv_dup_x1 hx hb dX24_add_16 rfl rfl ?_
  refine lv_iconst (v := 1) hx hb dX24_add_17 (by decide) ?_
  refine lv_iadd hx hb dX24_add_18 ?_
  refine lv_topC (y := 8) (by decide) ?_
  refine va_put (D := (dC, dI)) (ci := 15) (v := .int 8) (ty := .int) (C := RX24) (T := TX24) (N := 9) hx hb hts i_X24 tyX24 tyX24_ok nmX24 hown hK hP hD hS 0 rfl rfl 1 (by decide) (hts _ qw429) (fun _ h9 => h9) rfl (by decide +kernel) rfl rfl (Nat.le_of_ble_eq_true rfl) dX24_add_19 (fun H locs hP hD hS => ?_)
  have hP : va_P (dC, dI) cls [(a0, .inr (15, [.ref a20, .int 8, .int (-1), .int 0, .ref a21, .ref a2, .ref a4, .ref a6, .ref a22])), (a20, .inl (k24, 1200, .inl f9))] H := hP
  have hD : va_D A [(a0, .inr (15, [.ref a20, .int 8, .int (-1), .int 0, .ref a21, .ref a2, .ref a4, .ref a6, .ref a22])), (a20, .inl (k24, 1200, .inl f9))] := hD
  refine lv_iload_n hx hb dX24_add_22 rfl (lv_at hl 2 rfl) ?_
  refine lv_iload_n hx hb dX24_add_23 rfl (lv_at hl 0 rfl) ?_
  refine lv_iushr hx hb dX24_add_24 rfl ?_
  refine lv_topi (fun x10 ex10 => ?_)
  refine lv_sipush (v := 255) hx hb dX24_add_25 (by decide) ?_
  refine lv_iand hx hb dX24_add_28 ?_
  refine lv_topi (fun x11 ex11 => ?_)
  refine va_iast hx hb hK hP hD hS 1 0 rfl rfl (by unfold vp_in; decide +kernel) dX24_add_29 (fun H locs hP hD hS => ?_)
  have hP : va_P (dC, dI) cls [(a0, .inr (15, [.ref a20, .int 8, .int (-1), .int 0, .ref a21, .ref a2, .ref a4, .ref a6, .ref a22])), (a20, .inl (k24, 1200, .inl (upd f9 (Int32.toNatClampNeg 7) x11)))] H := hP
  have hD : va_D A [(a0, .inr (15, [.ref a20, .int 8, .int (-1), .int 0, .ref a21, .ref a2, .ref a4, .ref a6, .ref a22])), (a20, .inl (k24, 1200, .inl (upd f9 (Int32.toNatClampNeg 7) x11)))] := hD
  generalize upd f9 (Int32.toNatClampNeg 7) x11 = f12 at hP hD
  refine lv_iinc (v := (-8)) (lv' := [(2, .int (-8)), (0, .ref a0), (1, .int i1)]) hx hb dX24_add_30 hl (k := 0) rfl (by decide) (by decide) rfl (fun ls hl => ?_)
  refine lv_goto (tgt := 3) hx hb dX24_add_33 (by decide) ?_
  refine lv_iload_n hx hb dX24_add_3 rfl (lv_at hl 0 rfl) ?_
  refine lv_if_lt (tgt := 36) hx hb dX24_add_4 (by decide) (fun _ => ?_) (fun c => absurd (by decide) c)
  have hP9 : va_P (dC, dI) cls [(a0, .inr (15, [.ref a20, .int 8, .int (-1), .int 0, .ref a21, .ref a2, .ref a4, .ref a6, .ref a22])), (a20, .inl (k24, 1200, .inl f12))] H := hP.sub [0, 1] rfl
  have hD9 : va_D A [(a0, .inr (15, [.ref a20, .int 8, .int (-1), .int 0, .ref a21, .ref a2, .ref a4, .ref a6, .ref a22])), (a20, .inl (k24, 1200, .inl f12))] := hD.sub [0, 1] (by decide) rfl
  have hK9 : va_K (dC, dI) cls [(k24, .int)] s := hK.sub [0] rfl
  exact W.vret hx hb hr (fun t ht hW => ⟨⟨(), rfl, trivial, ⟨f12, ⟨by rw [ht]; exact hP9, va_K.moved hW.alike hK9, hD9⟩⟩⟩, hS.F ht⟩) hS.2.2 dX24_add_36
set_option maxHeartbeats 4000000 in
set_option maxRecDepth 100000 in
/-- GearboxModel.add, from the state that its caller has -/
theorem kX24_add_n36 {zs : Nat × Nat} (l : Launch) (dC : Nat → ClassId) (dI : Nat → Nat → Nat) (a0 : Nat) (i1 : Int32) (a2 : Nat) (a4 : Nat) (a6 : Nat) (a20 : Nat) (a21 : Nat) (a22 : Nat) (F23 : Nat → Int32) (k24 : ClassId) (sz : Nat)  : Met l yX24_add (wz yX24_add cX24_add 3 (Option.none : Option Jvm.ClassFile.FieldType)) ({ frames := 0, cells := 0, slots := 0, locals := 0 }) (va_Pc [.ref a0, .int i1] (PRE zs dC dI [(a0, .inr (15, [.ref a20, .int 8, .int (-1), .int 0, .ref a21, .ref a2, .ref a4, .ref a6, .ref a22])), (a20, .inl (k24, 1200, .inl F23))] [(k24, .int)] sz)) (va_Qv (fun (_ : Unit) => True) (fun _ t => ∃ (f12 : Nat → Int32), POST dC dI [(a0, .inr (15, [.ref a20, .int 12, .int (-1), .int 0, .ref a21, .ref a2, .ref a4, .ref a6, .ref a22])), (a20, .inl (k24, 1200, .inl f12))] [(k24, .int)] (va_A [(a0, .inr (15, [.ref a20, .int 8, .int (-1), .int 0, .ref a21, .ref a2, .ref a4, .ref a6, .ref a22])), (a20, .inl (k24, 1200, .inl F23))] sz) t) (va_A [(a0, .inr (15, [.ref a20, .int 8, .int (-1), .int 0, .ref a21, .ref a2, .ref a4, .ref a6, .ref a22])), (a20, .inl (k24, 1200, .inl F23))] sz)) 0 0 (va_A [(a0, .inr (15, [.ref a20, .int 8, .int (-1), .int 0, .ref a21, .ref a2, .ref a4, .ref a6, .ref a22])), (a20, .inl (k24, 1200, .inl F23))] sz) := by
  refine Met.ofW (cc := cX24_add) (maxL := 3) (ret := (Option.none : Option Jvm.ClassFile.FieldType)) (by decide) rfl ?_
  intro p e s m args below meth c s₁ B hml hv
  obtain ⟨rfl, hsz, hP, hK, hD0, hE⟩ := hv
  have hx := B.exec
  have hb := B.bytes
  have hr := B.returns
  have hts0 := atoms_spec (ws := wz yX24_add cX24_add 3 (Option.none : Option Jvm.ClassFile.FieldType)) B.pre
  have hts : ∀ w ∈ gw, w.before _ s = true := fun w h => hts0 w (List.mem_cons_of_mem _ h)
  have hown : s.vm.findClass RX24 = some m.cls := findClass_of_methodNamed B.named
  have hlocks := B.notSynchronized
  subst hsz
  have hD := hD0.self (sz := s.heap.size)
  generalize hAe : va_A [(a0, .inr (15, [.ref a20, .int 8, .int (-1), .int 0, .ref a21, .ref a2, .ref a4, .ref a6, .ref a22])), (a20, .inl (k24, 1200, .inl F23))] s.heap.size = A at hD hE ⊢
  have hA : ∀ q : Nat, s.heap.size ≤ q → A q := fun q h => by rw [← hAe]; exact Or.inr h
  have hS : va_S A s.heap s.heap [] := va_S.rf
  have hP : va_P (dC, dI) cls [(a0, .inr (15, [.ref a20, .int 8, .int (-1), .int 0, .ref a21, .ref a2, .ref a4, .ref a6, .ref a22])), (a20, .inl (k24, 1200, .inl F23))] s.heap := hP
  have hl := lv_entry ([.ref a0, .int i1]) (n := 3) (Nat.le_of_ble_eq_true rfl)
  rw [lg_entry_eq]
  generalize (lg_sl ([.ref a0, .int i1]) ++ List.replicate (3 - (lg_sl ([.ref a0, .int i1])).length) Slot.unset).toArray = ls at hl ⊢
  have hl : lv_has ls 3 [(0, .ref a0), (1, .int i1)] := hl
  refine lv_bipush (v := 24) hx hb dX24_add_0 (by decide) ?_
  refine lv_istore_n (lv' := [(2, .int 24), (0, .ref a0), (1, .int i1)]) hx hb dX24_add_2 rfl hl (by decide) rfl (fun ls hl => ?_)
  refine lv_iload_n hx hb dX24_add_3 rfl (lv_at hl 0 rfl) ?_
  refine lv_if_lt (tgt := 36) hx hb dX24_add_4 (by decide) (fun c => absurd c (by decide)) (fun _ => ?_)
  refine lv_aload_n hx hb dX24_add_7 rfl (lv_at hl 1 rfl) ?_
  refine va_get (D := (dC, dI)) (ci := 15) (v := .ref a20) (C := RX24) (T := TX24) (N := 9) hx hb hts i_X24 hown hK hP 0 rfl rfl 0 (by decide) (hts _ qw381) (fun _ h9 => h9) rfl dX24_add_8 ?_
  refine lv_aload_n hx hb dX24_add_11 rfl (lv_at hl 1 rfl) ?_
  refine lv_dup hx hb dX24_add_12 rfl ?_
  refine va_get (D := (dC, dI)) (ci := 15) (v := .int 8) (C := RX24) (T := TX24) (N := 9) hx hb hts i_X24 hown hK hP 0 rfl rfl 1 (by decide) (hts _ qw429) (fun _ h9 => h9) rfl dX24_add_13 ?_
  refine lv_dup_x1 hx hb dX24_add_16 rfl rfl ?_
  refine lv_iconst (v := 1) hx hb dX24_add_17 (by decide) ?_
  refine lv_iadd hx hb dX24_add_18 ?_
  refine lv_topC (y := 9) (by decide) ?_
  refine va_put (D := (dC, dI)) (ci := 15) (v := .int 9) (ty := .int) (C := RX24) (T := TX24) (N := 9) hx hb hts i_X24 tyX24 tyX24_ok nmX24 hown hK hP hD hS 0 rfl rfl 1 (by decide) (hts _ qw429) (fun _ h9 => h9) rfl (by decide +kernel) rfl rfl (Nat.le_of_ble_eq_true rfl) dX24_add_19 (fun H locs hP hD hS => ?_)
  have hP : va_P (dC, dI) cls [(a0, .inr (15, [.ref a20, .int 9, .int (-1), .int 0, .ref a21, .ref a2, .ref a4, .ref a6, .ref a22])), (a20, .inl (k24, 1200, .inl F23))] H := hP
  have hD : va_D A [(a0, .inr (15, [.ref a20, .int 9, .int (-1), .int 0, .ref a21, .ref a2, .ref a4, .ref a6, .ref a22])), (a20, .inl (k24, 1200, .inl F23))] := hD
  refine lv_iload_n hx hb dX24_add_22 rfl (lv_at hl 2 rfl) ?_
  refine lv_iload_n hx hb dX24_add_23 rfl (lv_at hl 0 rfl) ?_
  refine lv_iushr hx hb dX24_add_24 rfl ?_
  refine lv_topi (fun x1 ex1 => ?_)
  refine lv_sipush (v := 255) hx hb dX24_add_25 (by decide) ?_
  refine lv_iand hx hb dX24_add_28 ?_
  refine lv_topi (fun x2 ex2 => ?_)
  refine va_iast hx hb hK hP hD hS 1 0 rfl rfl (by unfold vp_in; decide +kernel) dX24_add_29 (fun H locs hP hD hS => ?_)
  have hP : va_P (dC, dI) cls [(a0, .inr (15, [.ref a20, .int 9, .int (-1), .int 0, .ref a21, .ref a2, .ref a4, .ref a6, .ref a22])), (a20, .inl (k24, 1200, .inl (upd F23 (Int32.toNatClampNeg 8) x2)))] H := hP
  have hD : va_D A [(a0, .inr (15, [.ref a20, .int 9, .int (-1), .int 0, .ref a21, .ref a2, .ref a4, .ref a6, .ref a22])), (a20, .inl (k24, 1200, .inl (upd F23 (Int32.toNatClampNeg 8) x2)))] := hD
  generalize upd F23 (Int32.toNatClampNeg 8) x2 = f3 at hP hD
  refine lv_iinc (v := 16) (lv' := [(2, .int 16), (0, .ref a0), (1, .int i1)]) hx hb dX24_add_30 hl (k := 0) rfl (by decide) (by decide) rfl (fun ls hl => ?_)
  refine lv_goto (tgt := 3) hx hb dX24_add_33 (by decide) ?_
  refine lv_iload_n hx hb dX24_add_3 rfl (lv_at hl 0 rfl) ?_
  refine lv_if_lt (tgt := 36) hx hb dX24_add_4 (by decide) (fun c => absurd c (by decide)) (fun _ => ?_)
  refine lv_aload_n hx hb dX24_add_7 rfl (lv_at hl 1 rfl) ?_
  refine va_get (D := (dC, dI)) (ci := 15) (v := .ref a20) (C := RX24) (T := TX24) (N := 9) hx hb hts i_X24 hown hK hP 0 rfl rfl 0 (by decide) (hts _ qw381) (fun _ h9 => h9) rfl dX24_add_8 ?_
  refine lv_aload_n hx hb dX24_add_11 rfl (lv_at hl 1 rfl) ?_
  refine lv_dup hx hb dX24_add_12 rfl ?_
  refine va_get (D := (dC, dI)) (ci := 15) (v := .int 9) (C := RX24) (T := TX24) (N := 9) hx hb hts i_X24 hown hK hP 0 rfl rfl 1 (by decide) (hts _ qw429) (fun _ h9 => h9) rfl dX24_add_13 ?_
  refine lv_dup_x1 hx hb dX24_add_16 rfl rfl ?_
  refine lv_iconst (v := 1) hx hb dX24_add_17 (by decide) ?_
  refine lv_iadd hx hb dX24_add_18 ?_
  refine lv_topC (y := 10) (by decide) ?_
  refine va_put (D := (dC, dI)) (ci := 15) (v := .int 10) (ty := .int) (C := RX24) (T := TX24) (N := 9) hx hb hts i_X24 tyX24 tyX24_ok nmX24 hown hK hP hD hS 0 rfl rfl 1 (by decide) (hts _ qw429) (fun _ h9 => h9) rfl (by decide +kernel) rfl rfl (Nat.le_of_ble_eq_true rfl) dX24_add_19 (fun H locs hP hD hS => ?_)
  have hP : va_P (dC, dI) cls [(a0, .inr (15, [.ref a20, .int 10, .int (-1), .int 0, .ref a21, .ref a2, .ref a4, .ref a6, .ref a22])), (a20, .inl (k24, 1200, .inl f3))] H := hP
  have hD : va_D A [(a0, .inr (15, [.ref a20, .int 10, .int (-1), .int 0, .ref a21, .ref a2, .ref a4, .ref a6, .ref a22])), (a20, .inl (k24, 1200, .inl f3))] := hD
  refine lv_iload_n hx hb dX24_add_22 rfl (lv_at hl 2 rfl) ?_
  refine lv_iload_n hx hb dX24_add_23 rfl (lv_at hl 0 rfl) ?_
  refine lv_iushr hx hb dX24_add_24 rfl ?_
  refine lv_topi (fun x4 ex4 => ?_)
  refine lv_sipush (v := 255) hx hb dX24_add_25 (by decide) ?_
  refine lv_iand hx hb dX24_add_28 ?_
  refine lv_topi (fun x5 ex5 => ?_)
  refine va_iast hx hb hK hP hD hS 1 0 rfl rfl (by unfold vp_in; decide +kernel) dX24_add_29 (fun H locs hP hD hS => ?_)
  have hP : va_P (dC, dI) cls [(a0, .inr (15, [.ref a20, .int 10, .int (-1), .int 0, .ref a21, .ref a2, .ref a4, .ref a6, .ref a22])), (a20, .inl (k24, 1200, .inl (upd f3 (Int32.toNatClampNeg 9) x5)))] H := hP
  have hD : va_D A [(a0, .inr (15, [.ref a20, .int 10, .int (-1), .int 0, .ref a21, .ref a2, .ref a4, .ref a6, .ref a22])), (a20, .inl (k24, 1200, .inl (upd f3 (Int32.toNatClampNeg 9) x5)))] := hD
  generalize upd f3 (Int32.toNatClampNeg 9) x5 = f6 at hP hD
  refine lv_iinc (v := 8) (lv' := [(2, .int 8), (0, .ref a0), (1, .int i1)]) hx hb dX24_add_30 hl (k := 0) rfl (by decide) (by decide) rfl (fun ls hl => ?_)
  refine lv_goto (tgt := 3) hx hb dX24_add_33 (by decide) ?_
  refine lv_iload_n hx hb dX24_add_3 rfl (lv_at hl 0 rfl) ?_
  refine lv_if_lt (tgt := 36) hx hb dX24_add_4 (by decide) (fun c => absurd c (by decide)) (fun _ => ?_)
  refine lv_aload_n hx hb dX24_add_7 rfl (lv_at hl 1 rfl) ?_
  refine va_get (D := (dC, dI)) (ci := 15) (v := .ref a20) (C := RX24) (T := TX24) (N := 9) hx hb hts i_X24 hown hK hP 0 rfl rfl 0 (by decide) (hts _ qw381) (fun _ h9 => h9) rfl dX24_add_8 ?_
  refine lv_aload_n hx hb dX24_add_11 rfl (lv_at hl 1 rfl) ?_
  refine lv_dup hx hb dX24_add_12 rfl ?_
  refine va_get (D := (dC, dI)) (ci := 15) (v := .int 10) (C := RX24) (T := TX24) (N := 9) hx hb hts i_X24 hown hK hP 0 rfl rfl 1 (by decide) (hts _ qw429) (fun _ h9 => h9) rfl dX24_add_13 ?_
  refine lv_dup_x1 hx hb dX24_add_16 rfl rfl ?_
  refine lv_iconst (v := 1) hx hb dX24_add_17 (by decide) ?_
  refine lv_iadd hx hb dX24_add_18 ?_
  refine lv_topC (y := 11) (by decide) ?_
  refine va_put (D := (dC, dI)) (ci := 15) (v := .int 11) (ty := .int) (C := RX24) (T := TX24) (N := 9) hx hb hts i_X24 tyX24 tyX24_ok nmX24 hown hK hP hD hS 0 rfl rfl 1 (by decide) (hts _ qw429) (fun _ h9 => h9) rfl (by decide +kernel) rfl rfl (Nat.le_of_ble_eq_true rfl) dX24_add_19 (fun H locs hP hD hS => ?_)
  have hP : va_P (dC, dI) cls [(a0, .inr (15, [.ref a20, .int 11, .int (-1), .int 0, .ref a21, .ref a2, .ref a4, .ref a6, .ref a22])), (a20, .inl (k24, 1200, .inl f6))] H := hP
  have hD : va_D A [(a0, .inr (15, [.ref a20, .int 11, .int (-1), .int 0, .ref a21, .ref a2, .ref a4, .ref a6, .ref a22])), (a20, .inl (k24, 1200, .inl f6))] := hD
  refine lv_iload_n hx hb dX24_add_22 rfl (lv_at hl 2 rfl) ?_
  refine lv_iload_n hx hb dX24_add_23 rfl (lv_at hl 0 rfl) ?_
  refine lv_iushr hx hb dX24_add_24 rfl ?_
  refine lv_topi (fun x7 ex7 => ?_)
  refine lv_sipush (v := 255) hx hb dX24_add_25 (by decide) ?_
  refine lv_iand hx hb dX24_add_28 ?_
  refine lv_topi (fun x8 ex8 => ?_)
  refine va_iast hx hb hK hP hD hS 1 0 rfl rfl (by unfold vp_in; decide +kernel) dX24_add_29 (fun H locs hP hD hS => ?_)
  have hP : va_P (dC, dI) cls [(a0, .inr (15, [.ref a20, .int 11, .int (-1), .int 0, .ref a21, .ref a2, .ref a4, .ref a6, .ref a22])), (a20, .inl (k24, 1200, .inl (upd f6 (Int32.toNatClampNeg 10) x8)))] H := hP
  have hD : va_D A [(a0, .inr (15, [.ref a20, .int 11, .int (-1), .int 0, .ref a21, .ref a2, .ref a4, .ref a6, .ref a22])), (a20, .inl (k24, 1200, .inl (upd f6 (Int32.toNatClampNeg 10) x8)))] := hD
  generalize upd f6 (Int32.toNatClampNeg 10) x8 = f9 at hP hD
  refine lv_iinc (v := 0) (lv' := [(2, .int 0), (0, .ref a0), (1, .int i1)]) hx hb dX24_add_30 hl (k := 0) rfl (by decide) (by decide) rfl (fun ls hl => ?_)
  refine lv_goto (tgt := 3) hx hb dX24_add_33 (by decide) ?_
  refine lv_iload_n hx hb dX24_add_3 rfl (lv_at hl 0 rfl) ?_
  refine lv_if_lt (tgt := 36) hx hb dX24_add_4 (by decide) (fun c => absurd c (by decide)) (fun _ => ?_)
  refine lv_aload_n hx hb dX24_add_7 rfl (lv_at hl 1 rfl) ?_
  refine va_get (D := (dC, dI)) (ci := 15) (v := .ref a20) (C := RX24) (T := TX24) (N := 9) hx hb hts i_X24 hown hK hP 0 rfl rfl 0 (by decide) (hts _ qw381) (fun _ h9 => h9) rfl dX24_add_8 ?_
  refine lv_aload_n hx hb dX24_add_11 rfl (lv_at hl 1 rfl) ?_
  refine lv_dup hx hb dX24_add_12 rfl ?_
  refine va_get (D := (dC, dI)) (ci := 15) (v := .int 11) (C := RX24) (T := TX24) (N := 9) hx hb hts i_X24 hown hK hP 0 rfl rfl 1 (by decide) (hts _ qw429) (fun _ h9 => h9) rfl dX24_add_13 ?_
  refine lv_dup_x1 hx hb dX24_add_16 rfl rfl ?_
  refine lv_iconst (v := 1) hx hb dX24_add_17 (by decide) ?_
  refine lv_iadd hx hb dX24_add_18 ?_
  refine lv_topC (y := 12) (by decide) ?_
  refine va_put (D := (dC, dI)) (ci := 15) (v := .int 12) (ty := .int) (C := RX24) (T := TX24) (N := 9) hx hb hts i_X24 tyX24 tyX24_ok nmX24 hown hK hP hD hS 0 rfl rfl 1 (by decide) (hts _ qw429) (fun _ h9 => h9) rfl (by decide +kernel) rfl rfl (Nat.le_of_ble_eq_true rfl) dX24_add_19 (fun H locs hP hD hS => ?_)
  have hP : va_P (dC, dI) cls [(a0, .inr (15, [.ref a20, .int 12, .int (-1), .int 0, .ref a21, .ref a2, .ref a4, .ref a6, .ref a22])), (a20, .inl (k24, 1200, .inl f9))] H := hP
  have hD : va_D A [(a0, .inr (15, [.ref a20, .int 12, .int (-1), .int 0, .ref a21, .ref a2, .ref a4, .ref a6, .ref a22])), (a20, .inl (k24, 1200, .inl f9))] := hD
  refine lv_iload_n hx hb dX24_add_22 rfl (lv_at hl 2 rfl) ?_
  refine lv_iload_n hx hb dX24_add_23 rfl (lv_at hl 0 rfl) ?_
  refine lv_iushr hx hb dX24_add_24 rfl ?_
  refine lv_topi (fun x10 ex10 => ?_)
  refine lv_sipush (v := 255) hx hb dX24_add_25 (by decide) ?_
  refine lv_iand hx hb dX24_add_28 ?_
  refine lv_topi (fun x11 ex11 => ?_)
  refine va_iast hx hb hK hP hD hS 1 0 rfl rfl (by unfold vp_in; decide +kernel) dX24_add_29 (fun H locs hP hD hS => ?_)
  have hP : va_P (dC, dI) cls [(a0, .inr (15, [.ref a20, .int 12, .int (-1), .int 0, .ref a21, .ref a2, .ref a4, .ref a6, .ref a22])), (a20, .inl (k24, 1200, .inl (upd f9 (Int32.toNatClampNeg 11) x11)))] H := hP
  have hD : va_D A [(a0, .inr (15, [.ref a20, .int 12, .int (-1), .int 0, .ref a21, .ref a2, .ref a4, .ref a6, .ref a22])), (a20, .inl (k24, 1200, .inl (upd f9 (Int32.toNatClampNeg 11) x11)))] := hD
  generalize upd f9 (Int32.toNatClampNeg 11) x11 = f12 at hP hD
  refine lv_iinc (v := (-8)) (lv' := [(2, .int (-8)), (0, .ref a0), (1, .int i1)]) hx hb dX24_add_30 hl (k := 0) rfl (by decide) (by decide) rfl (fun ls hl => ?_)
  refine lv_goto (tgt := 3) hx hb dX24_add_33 (by decide) ?_
  refine lv_iload_n hx hb dX24_add_3 rfl (lv_at hl 0 rfl) ?_
  refine lv_if_lt (tgt := 36) hx hb dX24_add_4 (by decide) (fun _ => ?_) (fun c => absurd (by decide) c)
  have hP9 : va_P (dC, dI) cls [(a0, .inr (15, [.ref a20, .int 12, .int (-1), .int 0, .ref a21, .ref a2, .ref a4, .ref a6, .ref a22])), (a20, .inl (k24, 1200, .inl f12))] H := hP.sub [0, 1] rfl
  have hD9 : va_D A [(a0, .inr (15, [.ref a20, .int 12, .int (-1), .int 0, .ref a21, .ref a2, .ref a4, .ref a6, .ref a22])), (a20, .inl (k24, 1200, .inl f12))] := hD.sub [0, 1] (by decide) rfl
  have hK9 : va_K (dC, dI) cls [(k24, .int)] s := hK.sub [0] rfl
  exact W.vret hx hb hr (fun t ht hW => ⟨⟨(), rfl, trivial, ⟨f12, ⟨by rw [ht]; exact hP9, va_K.moved hW.alike hK9, hD9⟩⟩⟩, hS.F ht⟩) hS.2.2 dX24_add_36
set_option maxHeartbeats 4000000 in
set_option maxRecDepth 100000 in
/-- GearboxModel.add, from the state that its caller has -/
theorem kX24_add_n37 {zs : Nat × Nat} (l : Launch) (dC : Nat → ClassId) (dI : Nat → Nat → Nat) (a0 : Nat) (i1 : Int32) (a2 : Nat) (a4 : Nat) (a6 : Nat) (a20 : Nat) (a21 : Nat) (a22 : Nat) (F23 : Nat → Int32) (k24 : ClassId) (sz : Nat)  : Met l yX24_add (wz yX24_add cX24_add 3 (Option.none : Option Jvm.ClassFile.FieldType)) ({ frames := 0, cells := 0, slots := 0, locals := 0 }) (va_Pc [.ref a0, .int i1] (PRE zs dC dI [(a0, .inr (15, [.ref a20, .int 12, .int (-1), .int 0, .ref a21, .ref a2, .ref a4, .ref a6, .ref a22])), (a20, .inl (k24, 1200, .inl F23))] [(k24, .int)] sz)) (va_Qv (fun (_ : Unit) => True) (fun _ t => ∃ (f12 : Nat → Int32), POST dC dI [(a0, .inr (15, [.ref a20, .int 16, .int (-1), .int 0, .ref a21, .ref a2, .ref a4, .ref a6, .ref a22])), (a20, .inl (k24, 1200, .inl f12))] [(k24, .int)] (va_A [(a0, .inr (15, [.ref a20, .int 12, .int (-1), .int 0, .ref a21, .ref a2, .ref a4, .ref a6, .ref a22])), (a20, .inl (k24, 1200, .inl F23))] sz) t) (va_A [(a0, .inr (15, [.ref a20, .int 12, .int (-1), .int 0, .ref a21, .ref a2, .ref a4, .ref a6, .ref a22])), (a20, .inl (k24, 1200, .inl F23))] sz)) 0 0 (va_A [(a0, .inr (15, [.ref a20, .int 12, .int (-1), .int 0, .ref a21, .ref a2, .ref a4, .ref a6, .ref a22])), (a20, .inl (k24, 1200, .inl F23))] sz) := by
  refine Met.ofW (cc := cX24_add) (maxL := 3) (ret := (Option.none : Option Jvm.ClassFile.FieldType)) (by decide) rfl ?_
  intro p e s m args below meth c s₁ B hml hv
  obtain ⟨rfl, hsz, hP, hK, hD0, hE⟩ := hv
  have hx := B.exec
  have hb := B.bytes
  have hr := B.returns
  have hts0 := atoms_spec (ws := wz yX24_add cX24_add 3 (Option.none : Option Jvm.ClassFile.FieldType)) B.pre
  have hts : ∀ w ∈ gw, w.before _ s = true := fun w h => hts0 w (List.mem_cons_of_mem _ h)
  have hown : s.vm.findClass RX24 = some m.cls := findClass_of_methodNamed B.named
  have hlocks := B.notSynchronized
  subst hsz
  have hD := hD0.self (sz := s.heap.size)
  generalize hAe : va_A [(a0, .inr (15, [.ref a20, .int 12, .int (-1), .int 0, .ref a21, .ref a2, .ref a4, .ref a6, .ref a22])), (a20, .inl (k24, 1200, .inl F23))] s.heap.size = A at hD hE ⊢
  have hA : ∀ q : Nat, s.heap.size ≤ q → A q := fun q h => by rw [← hAe]; exact Or.inr h
  have hS : va_S A s.heap s.heap [] := va_S.rf
  have hP : va_P (dC, dI) cls [(a0, .inr (15, [.ref a20, .int 12, .int (-1), .int 0, .ref a21, .ref a2, .ref a4, .ref a6, .ref a22])), (a20, .inl (k24, 1200, .inl F23))] s.heap := hP
  have hl := lv_entry ([.ref a0, .int i1]) (n := 3) (Nat.le_of_ble_eq_true rfl)
  rw [lg_entry_eq]
  generalize (lg_sl ([.ref a0, .int i1]) ++ List.replicate (3 - (lg_sl ([.ref a0, .int i1])).length) Slot.unset).toArray = ls at hl ⊢
  have hl : lv_has ls 3 [(0, .ref a0), (1, .int i1)] := hl
  refine lv_bipush (v := 24) hx hb dX24_add_0 (by decide) ?_
  refine lv_istore_n (lv' := [(2, .int 24), (0, .ref a0), (1, .int i1)]) hx hb dX24_add_2 rfl hl (by decide) rfl (fun ls hl => ?_)
  refine lv_iload_n hx hb dX24_add_3 rfl (lv_at hl 0 rfl) ?_
  refine lv_if_lt (tgt := 36) hx hb dX24_add_4 (by decide) (fun c => absurd c (by decide)) (fun _ => ?_)
  refine lv_aload_n hx hb dX24_add_7 rfl (lv_at hl 1 rfl) ?_
  refine va_get (D := (dC, dI)) (ci := 15) (v := .ref a20) (C := RX24) (T := TX24) (N := 9) hx hb hts i_X24 hown hK hP 0 rfl rfl 0 (by decide) (hts _ qw381) (fun _ h9 => h9) rfl dX24_add_8 ?_
  refine lv_aload_n hx hb dX24_add_11 rfl (lv_at hl 1 rfl) ?_
  refine lv_dup hx hb dX24_add_12 rfl ?_
  refine va_get (D := (dC, dI)) (ci := 15) (v := .int 12) (C := RX24) (T := TX24) (N := 9) hx hb hts i_X24 hown hK hP 0 rfl rfl 1 (by decide) (hts _ qw429) (fun _ h9 => h9) rfl dX24_add_13 ?_
  refine lv_dup_x1 hx hb dX24_add_16 rfl rfl ?_
  refine lv_iconst (v := 1) hx hb dX24_add_17 (by decide) ?_
  refine lv_iadd hx hb dX24_add_18 ?_
  refine lv_topC (y := 13) (by decide) ?_
  refine va_put (D := (dC, dI)) (ci := 15) (v := .int 13) (ty := .int) (C := RX24) (T := TX24) (N := 9) hx hb hts i_X24 tyX24 tyX24_ok nmX24 hown hK hP hD hS 0 rfl rfl 1 (by decide) (hts _ qw429) (fun _ h9 => h9) rfl (by decide +kernel) rfl rfl (Nat.le_of_ble_eq_true rfl) dX24_add_19 (fun H locs hP hD hS => ?_)
  have hP : va_P (dC, dI) cls [(a0, .inr (15, [.ref a20, .int 13, .int (-1), .int 0, .ref a21, .ref a2, .ref a4, .ref a6, .ref a22])), (a20, .inl (k24, 1200, .inl F23))] H := hP
  have hD : va_D A [(a0, .inr (15, [.ref a20, .int 13, .int (-1), .int 0, .ref a21, .ref a2, .ref a4, .ref a6, .ref a22])), (a20, .inl (k24, 1200, .inl F23))] := hD
  refine lv_iload_n hx hb dX24_add_22 rfl (lv_at hl 2 rfl) ?_
  refine lv_iload_n hx hb dX24_add_23 rfl (lv_at hl 0 rfl) ?_
  refine lv_iushr hx hb dX24_add_24 rfl ?_
  refine lv_topi (fun x1 ex1 => ?_)
  refine lv_sipush (v := 255) hx hb dX24_add_25 (by decide) ?_
  refine lv_iand hx hb dX24_add_28 ?_
  refine lv_topi (fun x2 ex2 => ?_)
  refine va_iast hx hb hK hP hD hS 1 0 rfl rfl (by unfold vp_in; decide +kernel) dX24_add_29 (fun H locs hP hD hS => ?_)
  have hP : va_P (dC, dI) cls [(a0, .inr (15, [.ref a20, .int 13, .int (-1), .int 0, .ref a21, .ref a2, .ref a4, .ref a6, .ref a22])), (a20, .inl (k24, 1200, .inl (upd F23 (Int32.toNatClampNeg 12) x2)))] H := hP
  have hD : va_D A [(a0, .inr (15, [.ref a20, .int 13, .int (-1), .int 0, .ref a21, .ref a2, .ref a4, .ref a6, .ref a22])), (a20, .inl (k24, 1200, .inl (upd F23 (Int32.toNatClampNeg 12) x2)))] := hD
  generalize upd F23 (Int32.toNatClampNeg 12) x2 = f3 at hP hD
  refine lv_iinc (v := 16) (lv' := [(2, .int 16), (0, .ref a0), (1, .int i1)]) hx hb dX24_add_30 hl (k := 0) rfl (by decide) (by decide) rfl (fun ls hl => ?_)
  refine lv_goto (tgt := 3) hx hb dX24_add_33 (by decide) ?_
  refine lv_iload_n hx hb dX24_add_3 rfl (lv_at hl 0 rfl) ?_
  refine lv_if_lt (tgt := 36) hx hb dX24_add_4 (by decide) (fun c => absurd c (by decide)) (fun _ => ?_)
  refine lv_aload_n hx hb dX24_add_7 rfl (lv_at hl 1 rfl) ?_
  refine va_get (D := (dC, dI)) (ci := 15) (v := .ref a20) (C := RX24) (T := TX24) (N := 9) hx hb hts i_X24 hown hK hP 0 rfl rfl 0 (by decide) (hts _ qw381) (fun _ h9 => h9) rfl dX24_add_8 ?_
  refine lv_aload_n hx hb dX24_add_11 rfl (lv_at hl 1 rfl) ?_
  refine lv_dup hx hb dX24_add_12 rfl ?_
  refine va_get (D := (dC, dI)) (ci := 15) (v := .int 13) (C := RX24) (T := TX24) (N := 9) hx hb hts i_X24 hown hK hP 0 rfl rfl 1 (by decide) (hts _ qw429) (fun _ h9 => h9) rfl dX24_add_13 ?_
  refine lv_dup_x1 hx hb dX24_add_16 rfl rfl ?_
  refine lv_iconst (v := 1) hx hb dX24_add_17 (by decide) ?_
  refine lv_iadd hx hb dX24_add_18 ?_
  refine lv_topC (y := 14) (by decide) ?_
  refine va_put (D := (dC, dI)) (ci := 15) (v := .int 14) (ty := .int) (C := RX24) (T := TX24) (N := 9) hx hb hts i_X24 tyX24 tyX24_ok nmX24 hown hK hP hD hS 0 rfl rfl 1 (by decide) (hts _ qw429) (fun _ h9 => h9) rfl (by decide +kernel) rfl rfl (Nat.le_of_ble_eq_true rfl) dX24_add_19 (fun H locs hP hD hS => ?_)
  have hP : va_P (dC, dI) cls [(a0, .inr (15, [.ref a20, .int 14, .int (-1), .int 0, .ref a21, .ref a2, .ref a4, .ref a6, .ref a22])), (a20, .inl (k24, 1200, .inl f3))] H := hP
  have hD : va_D A [(a0, .inr (15, [.ref a20, .int 14, .int (-1), .int 0, .ref a21, .ref a2, .ref a4, .ref a6, .ref a22])), (a20, .inl (k24, 1200, .inl f3))] := hD
  refine lv_iload_n hx hb dX24_add_22 rfl (lv_at hl 2 rfl) ?_
  refine lv_iload_n hx hb dX24_add_23 rfl (lv_at hl 0 rfl) ?_
  refine lv_iushr hx hb dX24_add_24 rfl ?_
  refine lv_topi (fun x4 ex4 => ?_)
  refine lv_sipush (v := 255) hx hb dX24_add_25 (by decide) ?_
  refine lv_iand hx hb dX24_add_28 ?_
  refine lv_topi (fun x5 ex5 => ?_)
  refine va_iast hx hb hK hP hD hS 1 0 rfl rfl (by unfold vp_in; decide +kernel) dX24_add_29 (fun H locs hP hD hS => ?_)
  have hP : va_P (dC, dI) cls [(a0, .inr (15, [.ref a20, .int 14, .int (-1), .int 0, .ref a21, .ref a2, .ref a4, .ref a6, .ref a22])), (a20, .inl (k24, 1200, .inl (upd f3 (Int32.toNatClampNeg 13) x5)))] H := hP
  have hD : va_D A [(a0, .inr (15, [.ref a20, .int 14, .int (-1), .int 0, .ref a21, .ref a2, .ref a4, .ref a6, .ref a22])), (a20, .inl (k24, 1200, .inl (upd f3 (Int32.toNatClampNeg 13) x5)))] := hD
  generalize upd f3 (Int32.toNatClampNeg 13) x5 = f6 at hP hD
  refine lv_iinc (v := 8) (lv' := [(2, .int 8), (0, .ref a0), (1, .int i1)]) hx hb dX24_add_30 hl (k := 0) rfl (by decide) (by decide) rfl (fun ls hl => ?_)
  refine lv_goto (tgt := 3) hx hb dX24_add_33 (by decide) ?_
  refine lv_iload_n hx hb dX24_add_3 rfl (lv_at hl 0 rfl) ?_
  refine lv_if_lt (tgt := 36) hx hb dX24_add_4 (by decide) (fun c => absurd c (by decide)) (fun _ => ?_)
  refine lv_aload_n hx hb dX24_add_7 rfl (lv_at hl 1 rfl) ?_
  refine va_get (D := (dC, dI)) (ci := 15) (v := .ref a20) (C := RX24) (T := TX24) (N := 9) hx hb hts i_X24 hown hK hP 0 rfl rfl 0 (by decide) (hts _ qw381) (fun _ h9 => h9) rfl dX24_add_8 ?_
  refine lv_aload_n hx hb dX24_add_11 rfl (lv_at hl 1 rfl) ?_
  refine lv_dup hx hb dX24_add_12 rfl ?_
  refine va_get (D := (dC, dI)) (ci := 15) (v := .int 14) (C := RX24) (T := TX24) (N := 9) hx hb hts i_X24 hown hK hP 0 rfl rfl 1 (by decide) (hts _ qw429) (fun _ h9 => h9) rfl dX24_add_13 ?_
  refine lv_dup_x1 hx hb dX24_add_16 rfl rfl ?_
  refine lv_iconst (v := 1) hx hb dX24_add_17 (by decide) ?_
  refine lv_iadd hx hb dX24_add_18 ?_
  refine lv_topC (y := 15) (by decide) ?_
  refine va_put (D := (dC, dI)) (ci := 15) (v := .int 15) (ty := .int) (C := RX24) (T := TX24) (N := 9) hx hb hts i_X24 tyX24 tyX24_ok nmX24 hown hK hP hD hS 0 rfl rfl 1 (by decide) (hts _ qw429) (fun _ h9 => h9) rfl (by decide +kernel) rfl rfl (Nat.le_of_ble_eq_true rfl) dX24_add_19 (fun H locs hP hD hS => ?_)
  have hP : va_P (dC, dI) cls [(a0, .inr (15, [.ref a20, .int 15, .int (-1), .int 0, .ref a21, .ref a2, .ref a4, .ref a6, .ref a22])), (a20, .inl (k24, 1200, .inl f6))] H := hP
  have hD : va_D A [(a0, .inr (15, [.ref a20, .int 15, .int (-1), .int 0, .ref a21, .ref a2, .ref a4, .ref a6, .ref a22])), (a20, .inl (k24, 1200, .inl f6))] := hD
  refine lv_iload_n hx hb dX24_add_22 rfl (lv_at hl 2 rfl) ?_
  refine lv_iload_n hx hb dX24_add_23 rfl (lv_at hl 0 rfl) ?_
  refine lv_iushr hx hb dX24_add_24 rfl ?_
  refine lv_topi (fun x7 ex7 => ?_)
  refine lv_sipush (v := 255) hx hb dX24_add_25 (by decide) ?_
  refine lv_iand hx hb dX24_add_28 ?_
  refine lv_topi (fun x8 ex8 => ?_)
  refine va_iast hx hb hK hP hD hS 1 0 rfl rfl (by unfold vp_in; decide +kernel) dX24_add_29 (fun H locs hP hD hS => ?_)
  have hP : va_P (dC, dI) cls [(a0, .inr (15, [.ref a20, .int 15, .int (-1), .int 0, .ref a21, .ref a2, .ref a4, .ref a6, .ref a22])), (a20, .inl (k24, 1200, .inl (upd f6 (Int32.toNatClampNeg 14) x8)))] H := hP
  have hD : va_D A [(a0, .inr (15, [.ref a20, .int 15, .int (-1), .int 0, .ref a21, .ref a2, .ref a4, .ref a6, .ref a22])), (a20, .inl (k24, 1200, .inl (upd f6 (Int32.toNatClampNeg 14) x8)))] := hD
  generalize upd f6 (Int32.toNatClampNeg 14) x8 = f9 at hP hD
  refine lv_iinc (v := 0) (lv' := [(2, .int 0), (0, .ref a0), (1, .int i1)]) hx hb dX24_add_30 hl (k := 0) rfl (by decide) (by decide) rfl (fun ls hl => ?_)
  refine lv_goto (tgt := 3) hx hb dX24_add_33 (by decide) ?_
  refine lv_iload_n hx hb dX24_add_3 rfl (lv_at hl 0 rfl) ?_
  refine lv_if_lt (tgt := 36) hx hb dX24_add_4 (by decide) (fun c => absurd c (by decide)) (fun _ => ?_)
  refine lv_aload_n hx hb dX24_add_7 rfl (lv_at hl 1 rfl) ?_
  refine va_get (D := (dC, dI)) (ci := 15) (v := .ref a20) (C := RX24) (T := TX24) (N := 9) hx hb hts i_X24 hown hK hP 0 rfl rfl 0 (by decide) (hts _ qw381) (fun _ h9 => h9) rfl dX24_add_8 ?_
  refine lv_aload_n hx hb dX24_add_11 rfl (lv_at hl 1 rfl) ?_
  refine lv_dup hx hb dX24_add_12 rfl ?_
  refine va_get (D := (dC, dI)) (ci := 15) (v := .int 15) (C := RX24) (T := TX24) (N := 9) hx hb hts i_X24 hown hK hP 0 rfl rfl 1 (by decide) (hts _ qw429) (fun _ h9 => h9) rfl dX24_add_13 ?_
  refine lv_dup_x1 hx hb dX24_add_16 rfl rfl ?_
  refine lv_iconst (v := 1) hx hb dX24_add_17 (by decide) ?_
  refine lv_iadd hx hb dX24_add_18 ?_
  refine lv_topC (y := 16) (by decide) ?_
  refine va_put (D := (dC, dI)) (ci := 15) (v := .int 16) (ty := .int) (C := RX24) (T := TX24) (N := 9) hx hb hts i_X24 tyX24 tyX24_ok nmX24 hown hK hP hD hS 0 rfl rfl 1 (by decide) (hts _ qw429) (fun _ h9 => h9) rfl (by decide +kernel) rfl rfl (Nat.le_of_ble_eq_true rfl) dX24_add_19 (fun H locs hP hD hS => ?_)
  have hP : va_P (dC, dI) cls [(a0, .inr (15, [.ref a20, .int 16, .int (-1), .int 0, .ref a21, .ref a2, .ref a4, .ref a6, .ref a22])), (a20, .inl (k24, 1200, .inl f9))] H := hP
  have hD : va_D A [(a0, .inr (15, [.ref a20, .int 16, .int (-1), .int 0, .ref a21, .ref a2, .ref a4, .ref a6, .ref a22])), (a20, .inl (k24, 1200, .inl f9))] := hD
  refine lv_iload_n hx hb dX24_add_22 rfl (lv_at hl 2 rfl) ?_
  refine lv_iload_n hx hb dX24_add_23 rfl (lv_at hl 0 rfl) ?_
  refine lv_iushr hx hb dX24_add_24 rfl ?_
  refine lv_topi (fun x10 ex10 => ?_)
  refine lv_sipush (v := 255) hx hb dX24_add_25 (by decide) ?_
  refine lv_iand hx hb dX24_add_28 ?_
  refine lv_topi (fun x11 ex11 => ?_)
  refine va_iast hx hb hK hP hD hS 1 0 rfl rfl (by unfold vp_in; decide +kernel) dX24_add_29 (fun H locs hP hD hS => ?_)
  have hP : va_P (dC, dI) cls [(a0, .inr (15, [.ref a20, .int 16, .int (-1), .int 0, .ref a21, .ref a2, .ref a4, .ref a6, .ref a22])), (a20, .inl (k24, 1200, .inl (upd f9 (Int32.toNatClampNeg 15) x11)))] H := hP
  have hD : va_D A [(a0, .inr (15, [.ref a20, .int 16, .int (-1), .int 0, .ref a21, .ref a2, .ref a4, .ref a6, .ref a22])), (a20, .inl (k24, 1200, .inl (upd f9 (Int32.toNatClampNeg 15) x11)))] := hD
  generalize upd f9 (Int32.toNatClampNeg 15) x11 = f12 at hP hD
  refine lv_iinc (v := (-8)) (lv' := [(2, .int (-8)), (0, .ref a0), (1, .int i1)]) hx hb dX24_add_30 hl (k := 0) rfl (by decide) (by decide) rfl (fun ls hl => ?_)
  refine lv_goto (tgt := 3) hx hb dX24_add_33 (by decide) ?_
  refine lv_iload_n hx hb dX24_add_3 rfl (lv_at hl 0 rfl) ?_
  refine lv_if_lt (tgt := 36) hx hb dX24_add_4 (by decide) (fun _ => ?_) (fun c => absurd (by decide) c)
  have hP9 : va_P (dC, dI) cls [(a0, .inr (15, [.ref a20, .int 16, .int (-1), .int 0, .ref a21, .ref a2, .ref a4, .ref a6, .ref a22])), (a20, .inl (k24, 1200, .inl f12))] H := hP.sub [0, 1] rfl
  have hD9 : va_D A [(a0, .inr (15, [.ref a20, .int 16, .int (-1), .int 0, .ref a21, .ref a2, .ref a4, .ref a6, .ref a22])), (a20, .inl (k24, 1200, .inl f12))] := hD.sub [0, 1] (by decide) rfl
  have hK9 : va_K (dC, dI) cls [(k24, .int)] s := hK.sub [0] rfl
  exact W.vret hx hb hr (fun t ht hW => ⟨⟨(), rfl, trivial, ⟨f12, ⟨by rw [ht]; exact hP9, va_K.moved hW.alike hK9, hD9⟩⟩⟩, hS.F ht⟩) hS.2.2 dX24_add_36
set_option maxHeartbeats 4000000 in
set_option maxRecDepth 100000 in
/-- GearboxModel.add, from the state that its caller has -/
theorem kX24_add_n38 {zs : Nat × Nat} (l : Launch) (dC : Nat → ClassId) (dI : Nat → Nat → Nat) (a0 : Nat) (i1 : Int32) (a2 : Nat) (a4 : Nat) (a6 : Nat) (a20 : Nat) (a21 : Nat) (a22 : Nat) (F23 : Nat → Int32) (k24 : ClassId) (sz : Nat)  : Met l yX24_add (wz yX24_add cX24_add 3 (Option.none : Option Jvm.ClassFile.FieldType)) ({ frames := 0, cells := 0, slots := 0, locals := 0 }) (va_Pc [.ref a0, .int i1] (PRE zs dC dI [(a0, .inr (15, [.ref a20, .int 16, .int (-1), .int 0, .ref a21, .ref a2, .ref a4, .ref a6, .ref a22])), (a20, .inl (k24, 1200, .inl F23))] [(k24, .int)] sz)) (va_Qv (fun (_ : Unit) => True) (fun _ t => ∃ (f12 : Nat → Int32), POST dC dI [(a0, .inr (15, [.ref a20, .int 20, .int (-1), .int 0, .ref a21, .ref a2, .ref a4, .ref a6, .ref a22])), (a20, .inl (k24, 1200, .inl f12))] [(k24, .int)] (va_A [(a0, .inr (15, [.ref a20, .int 16, .int (-1), .int 0, .ref a21, .ref a2, .ref a4, .ref a6, .ref a22])), (a20, .inl (k24, 1200, .inl F23))] sz) t) (va_A [(a0, .inr (15, [.ref a20, .int 16, .int (-1), .int 0, .ref a21, .ref a2, .ref a4, .ref a6, .ref a22])), (a20, .inl (k24, 1200, .inl F23))] sz)) 0 0 (va_A [(a0, .inr (15, [.ref a20, .int 16, .int (-1), .int 0, .ref a21, .ref a2, .ref a4, .ref a6, .ref a22])), (a20, .inl (k24, 1200, .inl F23))] sz) := by
  refine Met.ofW (cc := cX24_add) (maxL := 3) (ret := (Option.none : Option Jvm.ClassFile.FieldType)) (by decide) rfl ?_
  intro p e s m args below meth c s₁ B hml hv
  obtain ⟨rfl, hsz, hP, hK, hD0, hE⟩ := hv
  have hx := B.exec
  have hb := B.bytes
  have hr := B.returns
  have hts0 := atoms_spec (ws := wz yX24_add cX24_add 3 (Option.none : Option Jvm.ClassFile.FieldType)) B.pre
  have hts : ∀ w ∈ gw, w.before _ s = true := fun w h => hts0 w (List.mem_cons_of_mem _ h)
  have hown : s.vm.findClass RX24 = some m.cls := findClass_of_methodNamed B.named
  have hlocks := B.notSynchronized
  subst hsz
  have hD := hD0.self (sz := s.heap.size)
  generalize hAe : va_A [(a0, .inr (15, [.ref a20, .int 16, .int (-1), .int 0, .ref a21, .ref a2, .ref a4, .ref a6, .ref a22])), (a20, .inl (k24, 1200, .inl F23))] s.heap.size = A at hD hE ⊢
  have hA : ∀ q : Nat, s.heap.size ≤ q → A q := fun q h => by rw [← hAe]; exact Or.inr h
  have hS : va_S A s.heap s.heap [] := va_S.rf
  have hP : va_P (dC, dI) cls [(a0, .inr (15, [.ref a20, .int 16, .int (-1), .int 0, .ref a21, .ref a2, .ref a4, .ref a6, .ref a22])), (a20, .inl (k24, 1200, .inl F23))] s.heap := hP
  have hl := lv_entry ([.ref a0, .int i1]) (n := 3) (Nat.le_of_ble_eq_true rfl)
  rw [lg_entry_eq]
  generalize (lg_sl ([.ref a0, .int i1]) ++ List.replicate (3 - (lg_sl ([.ref a0, .int i1])).length) Slot.unset).toArray = ls at hl ⊢
  have hl : lv_has ls 3 [(0, .ref a0), (1, .int i1)] := hl
  refine lv_bipush (v := 24) hx hb dX24_add_0 (by decide) ?_
  refine lv_istore_n (lv' := [(2, .int 24), (0, .ref a0), (1, .int i1)]) hx hb dX24_add_2 rfl hl (by decide) rfl (fun ls hl => ?_)
  refine lv_iload_n hx hb dX24_add_3 rfl (lv_at hl 0 rfl) ?_
  refine lv_if_lt (tgt := 36) hx hb dX24_add_4 (by decide) (fun c => absurd c (by decide)) (fun _ => ?_)
  refine lv_aload_n hx hb dX24_add_7 rfl (lv_at hl 1 rfl) ?_
  refine va_get (D := (dC, dI)) (ci := 15) (v := .ref a20) (C := RX24) (T := TX24) (N := 9) hx hb hts i_X24 hown hK hP 0 rfl rfl 0 (by decide) (hts _ qw381) (fun _ h9 => h9) rfl dX24_add_8 ?_
  refine lv_aload_n hx hb dX24_add_11 rfl (lv_at hl 1 rfl) ?_
  refine lv_dup hx hb dX24_add_12 rfl ?_
  refine va_get (D := (dC, dI)) (ci := 15) (v := .int 16) (C := RX24) (T := TX24) (N := 9) hx hb hts i_X24 hown hK hP 0 rfl rfl 1 (by decide) (hts _ qw429) (fun _ h9 => h9) rfl dX24_add_13 ?_
  refine lv_dup_x1 hx hb dX24_add_16 rfl rfl ?_
  refine lv_iconst (v := 1) hx hb dX24_add_17 (by decide) ?_
  refine lv_iadd hx hb dX24_add_18 ?_
  refine lv_topC (y := 17) (by decide) ?_
  refine va_put (D := (dC, dI)) (ci := 15) (v := .int 17) (ty := .int) (C := RX24) (T := TX24) (N := 9) hx hb hts i_X24 tyX24 tyX24_ok nmX24 hown hK hP hD hS 0 rfl rfl 1 (by decide) (hts _ qw429) (fun _ h9 => h9) rfl (by decide +kernel) rfl rfl (Nat.le_of_ble_eq_true rfl) dX24_add_19 (fun H locs hP hD hS => ?_)
  have hP : va_P (dC, dI) cls [(a0, .inr (15, [.ref a20, .int 17, .int (-1), .int 0, .ref a21, .ref a2, .ref a4, .ref a6, .ref a22])), (a20, .inl (k24, 1200, .inl F23))] H := hP
  have hD : va_D A [(a0, .inr (15, [.ref a20, .int 17, .int (-1), .int 0, .ref a21, .ref a2, .ref a4, .ref a6, .ref a22])), (a20, .inl (k24, 1200, .inl F23))] := hD
  refine lv_iload_n hx hb dX24_add_22 rfl (lv_at hl 2 rfl) ?_
  refine lv_iload_n hx hb dX24_add_23 rfl (lv_at hl 0 rfl) ?_
  refine lv_iushr hx hb dX24_add_24 rfl ?_
  refine lv_topi (fun x1 ex1 => ?_)
  refine lv_sipush (v := 255) hx hb dX24_add_25 (by decide) ?_
  refine lv_iand hx hb dX24_add_28 ?_
  refine lv_topi (fun x2 ex2 => ?_)
  refine va_iast hx hb hK hP hD hS 1 0 rfl rfl (by unfold vp_in; decide +kernel) dX24_add_29 (fun H locs hP hD hS => ?_)
  have hP : va_P (dC, dI) cls [(a0, .inr (15, [.ref a20, .int 17, .int (-1), .int 0, .ref a21, .ref a2, .ref a4, .ref a6, .ref a22])), (a20, .inl (k24, 1200, .inl (upd F23 (Int32.toNatClampNeg 16) x2)))] H := hP
  have hD : va_D A [(a0, .inr (15, [.ref a20, .int 17, .int (-1), .int 0, .ref a21, .ref a2, .ref a4, .ref a6, .ref a22])), (a20, .inl (k24, 1200, .inl (upd F23 (Int32.toNatClampNeg 16) x2)))] := hD
  generalize upd F23 (Int32.toNatClampNeg 16) x2 = f3 at hP hD
  refine lv_iinc (v := 16) (lv' := [(2, .int 16), (0, .ref a0), (1, .int i1)]) hx hb dX24_add_30 hl (k := 0) rfl (by decide) (by decide) rfl (fun ls hl => ?_)
  refine lv_goto (tgt := 3) hx hb dX24_add_33 (by decide) ?_
  refine lv_iload_n hx hb dX24_add_3 rfl (lv_at hl 0 rfl) ?_
  refine lv_if_lt (tgt := 36) hx hb dX24_add_4 (by decide) (fun c => absurd c (by decide)) (fun _ => ?_)
  refine lv_aload_n hx hb dX24_add_7 rfl (lv_at hl 1 rfl) ?_
  refine va_get (D := (dC, dI)) (ci := 15) (v := .ref a20) (C := RX24) (T := TX24) (N := 9) hx hb hts i_X24 hown hK hP 0 rfl rfl 0 (by decide) (hts _ qw381) (fun _ h9 => h9) rfl dX24_add_8 ?_
  refine lv_aload_n hx hb dX24_add_11 rfl (lv_at hl 1 rfl) ?_
  refine lv_dup hx hb dX24_add_12 rfl ?_
  refine va_get (D := (dC, dI)) (ci := 15) (v := .int 17) (C := RX24) (T := TX24) (N := 9) hx hb hts i_X24 hown hK hP 0 rfl rfl 1 (by decide) (hts _ qw429) (fun _ h9 => h9) rfl dX24_add_13 ?_
  refine lv_dup_x1 hx hb dX24_add_16 rfl rfl ?_
  refine lv_iconst (v := 1) hx hb dX24_add_17 (by decide) ?_
  refine lv_iadd hx hb dX24_add_18 ?_
  refine lv_topC (y := 18) (by decide) ?_
  refine va_put (D := (dC, dI)) (ci := 15) (v := .int 18) (ty := .int) (C := RX24) (T := TX24) (N := 9) hx hb hts i_X24 tyX24 tyX24_ok nmX24 hown hK hP hD hS 0 rfl rfl 1 (by decide) (hts _ qw429) (fun _ h9 => h9) rfl (by decide +kernel) rfl rfl (Nat.le_of_ble_eq_true rfl) dX24_add_19 (fun H locs hP hD hS => ?_)
  have hP : va_P (dC, dI) cls [(a0, .inr (15, [.ref a20, .int 18, .int (-1), .int 0, .ref a21, .ref a2, .ref a4, .ref a6, .ref a22])), (a20, .inl (k24, 1200, .inl f3))] H := hP
  have hD : va_D A [(a0, .inr (15, [.ref a20, .int 18, .int (-1), .int 0, .ref a21, .ref a2, .ref a4, .ref a6, .ref a22])), (a20, .inl (k24, 1200, .inl f3))] := hD
  refine lv_iload_n hx hb dX24_add_22 rfl (lv_at hl 2 rfl) ?_
  refine lv_iload_n hx hb dX24_add_23 rfl (lv_at hl 0 rfl) ?_
  refine lv_iushr hx hb dX24_add_24 rfl ?_
  refine lv_topi (fun x4 ex4 => ?_)
  refine lv_sipush (v := 255) hx hb dX24_add_25 (by decide) ?_
  refine lv_iand hx hb dX24_add_28 ?_
  refine lv_topi (fun x5 ex5 => ?_)
  refine va_iast hx hb hK hP hD hS 1 0 rfl rfl (by unfold vp_in; decide +kernel) dX24_add_29 (fun H locs hP hD hS => ?_)
  have hP : va_P (dC, dI) cls [(a0, .inr (15, [.ref a20, .int 18, .int (-1), .int 0, .ref a21, .ref a2, .ref a4, .ref a6, .ref a22])), (a20, .inl (k24, 1200, .inl (upd f3 (Int32.toNatClampNeg 17) x5)))] H := hP
  have hD : va_D A [(a0, .inr (15, [.ref a20, .int 18, .int (-1), .int 0, .ref a21, .ref a2, .ref a4, .ref a6, .ref a22])), (a20, .inl (k24, 1200, .inl (upd f3 (Int32.toNatClampNeg 17) x5)))] := hD
  generalize upd f3 (Int32.toNatClampNeg 17) x5 = f6 at hP hD
  refine lv_iinc (v := 8) (lv' := [(2, .int 8), (0, .ref a0), (1, .int i1)]) hx hb dX24_add_30 hl (k := 0) rfl (by decide) (by decide) rfl (fun ls hl => ?_)
  refine lv_goto (tgt := 3) hx hb dX24_add_33 (by decide) ?_
  refine lv_iload_n hx hb dX24_add_3 rfl (lv_at hl 0 rfl) ?_
  refine lv_if_lt (tgt := 36) hx hb dX24_add_4 (by decide) (fun c => absurd c (by decide)) (fun _ => ?_)
  refine lv_aload_n hx hb dX24_add_7 rfl (lv_at hl 1 rfl) ?_
  refine va_get (D := (dC, dI)) (ci := 15) (v := .ref a20) (C := RX24) (T := TX24) (N := 9) hx hb hts i_X24 hown hK hP 0 rfl rfl 0 (by decide) (hts _ qw381) (fun _ h9 => h9) rfl dX24_add_8 ?_
  refine lv_aload_n hx hb dX24_add_11 rfl (lv_at hl 1 rfl) ?_
  refine lv_dup hx hb dX24_add_12 rfl ?_
  refine va_get (D := (dC, dI)) (ci := 15) (v := .int 18) (C := RX24) (T := TX24) (N := 9) hx hb hts i_X24 hown hK hP 0 rfl rfl 1 (by decide) (hts _ qw429) (fun _ h9 => h9) rfl dX24_add_13 ?_
  refine lv_dup_x1 hx hb dX24_add_16 rfl rfl ?_
  refine lv_iconst (v := 1) hx hb dX24_add_17 (by decide) ?_
  refine lv_iadd hx hb dX24_add_18 ?_
  refine lv_topC (y := 19) (by decide) ?_
  refine va_put (D := (dC, dI)) (ci := 15) (v := .int 19) (ty := .int) (C := RX24) (T := TX24) (N := 9) hx hb hts i_X24 tyX24 tyX24_ok nmX24 hown hK hP hD hS 0 rfl rfl 1 (by decide) (hts _ qw429) (fun _ h9 => h9) rfl (by decide +kernel) rfl rfl (Nat.le_of_ble_eq_true rfl) dX24_add_19 (fun H locs hP hD hS => ?_)
  have hP : va_P (dC, dI) cls [(a0, .inr (15, [.ref a20, .int 19, .int (-1), .int 0, .ref a21, .ref a2, .ref a4, .ref a6, .ref a22])), (a20, .inl (k24, 1200, .inl f6))] H := hP
  have hD : va_D A [(a0, .inr (15, [.ref a20, .int 19, .int (-1), .int 0, .ref a21, .ref a2, .ref a4, .ref a6, .ref a22])), (a20, .inl (k24, 1200, .inl f6))] := hD
  refine lv_iload_n hx hb dX24_add_22 rfl (lv_at hl 2 rfl) ?_
  refine lv_iload_n hx hb dX24_add_23 rfl (lv_at hl 0 rfl) ?_
  refine lv_iushr hx hb dX24_add_24 rfl ?_
  refine lv_topi (fun x7 ex7 => ?_)
  refine lv_sipush (v := 255) hx hb dX24_add_25 (by decide) ?_
  refine lv_iand hx hb dX24_add_28 ?_
  refine lv_topi (fun x8 ex8 => ?_)
  refine va_iast hx hb hK hP hD hS 1 0 rfl rfl (by unfold vp_in; decide +kernel) dX24_add_29 (fun H locs hP hD hS => ?_)
  have hP : va_P (dC, dI) cls [(a0, .inr (15, [.ref a20, .int 19, .int (-1), .int 0, .ref a21, .ref a2, .ref a4, .ref a6, .ref a22])), (a20, .inl (k24, 1200, .inl (upd f6 (Int32.toNatClampNeg 18) x8)))] H := hP
  have hD : va_D A [(a0, .inr (15, [.ref a20, .int 19, .int (-1), .int 0, .ref a21, .ref a2, .ref a4, .ref a6, .ref a22])), (a20, .inl (k24, 1200, .inl (upd f6 (Int32.toNatClampNeg 18) x8)))] := hD
  generalize upd f6 (Int32.toNatClampNeg 18) x8 = f9 at hP hD
  refine lv_iinc (v := 0) (lv' := [(2, .int 0), (0, .ref a0), (1, .int i1)]) hx hb dX24_add_30 hl (k := 0) rfl (by decide) (by decide) rfl (fun ls hl => ?_)
  refine lv_goto (tgt := 3) hx hb dX24_add_33 (by decide) ?_
  refine lv_iload_n hx hb dX24_add_3 rfl (lv_at hl 0 rfl) ?_
  refine lv_if_lt (tgt := 36) hx hb dX24_add_4 (by decide) (fun c => absurd c (by decide)) (fun _ => ?_)
  refine lv_aload_n hx hb dX24_add_7 rfl (lv_at hl 1 rfl) ?_
  refine va_get (D := (dC, dI)) (ci := 15) (v := .ref a20) (C := RX24) (T := TX24) (N := 9) hx hb hts i_X24 hown hK hP 0 rfl rfl 0 (by decide) (hts _ qw381) (fun _ h9 => h9) rfl dX24_add_8 ?_
  refine lv_aload_n hx hb dX24_add_11 rfl (lv_at hl 1 rfl) ?_
  refine lv_dup hx hb dX24_add_12 rfl ?_
  refine va_get (D := (dC, dI)) (ci := 15) (v := .int 19) (C := RX24) (T := TX24) (N := 9) hx hb hts i_X24 hown hK hP 0 rfl rfl 1 (by decide) (hts _ qw429) (fun _ h9 => h9) rfl dX24_add_13 ?_
  refine lv_dup_x1 hx hb dX24_add_16 rfl rfl ?_
  refine lv_iconst (v := 1) hx hb dX24_add_17 (by decide) ?_
  refine lv_iadd hx hb dX24_add_18 ?_
  refine lv_topC (y := 20) (by decide) ?_
  refine va_put (D := (dC, dI)) (ci := 15) (v := .int 20) (ty := .int) (C := RX24) (T := TX24) (N := 9) hx hb hts i_X24 tyX24 tyX24_ok nmX24 hown hK hP hD hS 0 rfl rfl 1 (by decide) (hts _ qw429) (fun _ h9 => h9) rfl (by decide +kernel) rfl rfl (Nat.le_of_ble_eq_true rfl) dX24_add_19 (fun H locs hP hD hS => ?_)
  have hP : va_P (dC, dI) cls [(a0, .inr (15, [.ref a20, .int 20, .int (-1), .int 0, .ref a21, .ref a2, .ref a4, .ref a6, .ref a22])), (a20, .inl (k24, 1200, .inl f9))] H := hP
  have hD : va_D A [(a0, .inr (15, [.ref a20, .int 20, .int (-1), .int 0, .ref a21, .ref a2, .ref a4, .ref a6, .ref a22])), (a20, .inl (k24, 1200, .inl f9))] := hD
  refine lv_iload_n hx hb dX24_add_22 rfl (lv_at hl 2 rfl) ?_
  refine lv_iload_n hx hb dX24_add_23 rfl (lv_at hl 0 rfl) ?_
  refine lv_iushr hx hb dX24_add_24 rfl ?_
  refine lv_topi (fun x10 ex10 => ?_)
  refine lv_sipush (v := 255) hx hb dX24_add_25 (by decide) ?_
  refine lv_iand hx hb dX24_add_28 ?_
  refine lv_topi (fun x11 ex11 => ?_)
  refine va_iast hx hb hK hP hD hS 1 0 rfl rfl (by unfold vp_in; decide +kernel) dX24_add_29 (fun H locs hP hD hS => ?_)
  have hP : va_P (dC, dI) cls [(a0, .inr (15, [.ref a20, .int 20, .int (-1), .int 0, .ref a21, .ref a2, .ref a4, .ref a6, .ref a22])), (a20, .inl (k24, 1200, .inl (upd f9 (Int32.toNatClampNeg 19) x11)))] H := hP
  have hD : va_D A [(a0, .inr (15, [.ref a20, .int 20, .int (-1), .int 0, .ref a21, .ref a2, .ref a4, .ref a6, .ref a22])), (a20, .inl (k24, 1200, .inl (upd f9 (Int32.toNatClampNeg 19) x11)))] := hD
  generalize upd f9 (Int32.toNatClampNeg 19) x11 = f12 at hP hD
  refine lv_iinc (v := (-8)) (lv' := [(2, .int (-8)), (0, .ref a0), (1, .int i1)]) hx hb dX24_add_30 hl (k := 0) rfl (by decide) (by decide) rfl (fun ls hl => ?_)
  refine lv_goto (tgt := 3) hx hb dX24_add_33 (by decide) ?_
  refine lv_iload_n hx hb dX24_add_3 rfl (lv_at hl 0 rfl) ?_
  refine lv_if_lt (tgt := 36) hx hb dX24_add_4 (by decide) (fun _ => ?_) (fun c => absurd (by decide) c)
  have hP9 : va_P (dC, dI) cls [(a0, .inr (15, [.ref a20, .int 20, .int (-1), .int 0, .ref a21, .ref a2, .ref a4, .ref a6, .ref a22])), (a20, .inl (k24, 1200, .inl f12))] H := hP.sub [0, 1] rfl
  have hD9 : va_D A [(a0, .inr (15, [.ref a20, .int 20, .int (-1), .int 0, .ref a21, .ref a2, .ref a4, .ref a6, .ref a22])), (a20, .inl (k24, 1200, .inl f12))] := hD.sub [0, 1] (by decide) rfl
  have hK9 : va_K (dC, dI) cls [(k24, .int)] s := hK.sub [0] rfl
  exact W.vret hx hb hr (fun t ht hW => ⟨⟨(), rfl, trivial, ⟨f12, ⟨by rw [ht]; exact hP9, va_K.moved hW.alike hK9, hD9⟩⟩⟩, hS.F ht⟩) hS.2.2 dX24_add_36
set_option maxHeartbeats 4000000 in
set_option maxRecDepth 100000 in
theorem kX24_feed {zs : Nat × Nat} (l : Launch) (dC : Nat → ClassId) (dI : Nat → Nat → Nat) (mx : Nat) (mq1 : Nat) (mc2 : ClassId) (mq3 : Nat) (mq4 : Nat) (mq6 : Nat) (mq8 : Nat) (mq22 : Nat) (p0 : Int32) (p1 : Int32) (p2 : Int32) (p3 : Int32) (p4 : Int32) (sz : Nat)  : Met l yX24_feed (wz yX24_feed cX24_feed 6 (Option.some Jvm.ClassFile.FieldType.int)) ({ frames := 1, cells := 0, slots := 0, locals := 22 }) (va_Pc [.ref mx, .int p0, .int p1, .int p2, .int p3, .int p4] (PRE zs dC dI [(mx, .inr (15, [.ref mq1, .int 0, .int (-1), .int 0, .ref mq3, .ref mq4, .ref mq6, .ref mq8, .ref mq22])), (mq1, .inl (mc2, 1200, .inl (fun _ => 0)))] [(mc2, .int)] sz)) (va_Qi (fun (r : Int32) (_ : Unit) => r = 20) (fun _ t => POST dC dI [(mx, .inr (15, [.ref mq1, .int 20, .int (-1), .int 0, .ref mq3, .ref mq4, .ref mq6, .ref mq8, .ref mq22]))] [] (va_A [(mx, .inr (15, [.ref mq1, .int 0, .int (-1), .int 0, .ref mq3, .ref mq4, .ref mq6, .ref mq8, .ref mq22])), (mq1, .inl (mc2, 1200, .inl (fun _ => 0)))] sz) t) (va_A [(mx, .inr (15, [.ref mq1, .int 0, .int (-1), .int 0, .ref mq3, .ref mq4, .ref mq6, .ref mq8, .ref mq22])), (mq1, .inl (mc2, 1200, .inl (fun _ => 0)))] sz)) 0 0 (va_A [(mx, .inr (15, [.ref mq1, .int 0, .int (-1), .int 0, .ref mq3, .ref mq4, .ref mq6, .ref mq8, .ref mq22])), (mq1, .inl (mc2, 1200, .inl (fun _ => 0)))] sz) := by
  refine Met.ofW (cc := cX24_feed) (maxL := 6) (ret := (Option.some Jvm.ClassFile.FieldType.int)) (by decide) rfl ?_
  intro p e s m args below meth c s₁ B hml hv
  obtain ⟨rfl, hsz, hP, hK, hD0, hE⟩ := hv
  have hx := B.exec
  have hb := B.bytes
  have hr := B.returns
  have hts0 := atoms_spec (ws := wz yX24_feed cX24_feed 6 (Option.some Jvm.ClassFile.FieldType.int)) B.pre
  have hts : ∀ w ∈ gw, w.before _ s = true := fun w h => hts0 w (List.mem_cons_of_mem _ h)
  have hown : s.vm.findClass RX24 = some m.cls := findClass_of_methodNamed B.named
  have hlocks := B.notSynchronized
  subst hsz
  have hD := hD0.self (sz := s.heap.size)
  generalize hAe : va_A [(mx, .inr (15, [.ref mq1, .int 0, .int (-1), .int 0, .ref mq3, .ref mq4, .ref mq6, .ref mq8, .ref mq22])), (mq1, .inl (mc2, 1200, .inl (fun _ => 0)))] s.heap.size = A at hD hE ⊢
  have hA : ∀ q : Nat, s.heap.size ≤ q → A q := fun q h => by rw [← hAe]; exact Or.inr h
  have hS : va_S A s.heap s.heap [] := va_S.rf
  have hP : va_P (dC, dI) cls [(mx, .inr (15, [.ref mq1, .int 0, .int (-1), .int 0, .ref mq3, .ref mq4, .ref mq6, .ref mq8, .ref mq22])), (mq1, .inl (mc2, 1200, .inl (fun _ => 0)))] s.heap := hP
  have hl := lv_entry ([.ref mx, .int p0, .int p1, .int p2, .int p3, .int p4]) (n := 6) (Nat.le_of_ble_eq_true rfl)
  rw [lg_entry_eq]
  generalize (lg_sl ([.ref mx, .int p0, .int p1, .int p2, .int p3, .int p4]) ++ List.replicate (6 - (lg_sl ([.ref mx, .int p0, .int p1, .int p2, .int p3, .int p4])).length) Slot.unset).toArray = ls at hl ⊢
  have hl : lv_has ls 6 [(0, .ref mx), (1, .int p0), (2, .int p1), (3, .int p2), (4, .int p3), (5, .int p4)] := hl
  refine lv_aload_n hx hb dX24_feed_0 rfl (lv_at hl 0 rfl) ?_
  refine lv_iconst (v := 0) hx hb dX24_feed_1 (by decide) ?_
  refine va_put (D := (dC, dI)) (ci := 15) (v := .int 0) (ty := .int) (C := RX24) (T := TX24) (N := 9) hx hb hts i_X24 tyX24 tyX24_ok nmX24 hown hK hP hD hS 0 rfl rfl 3 (by decide) (hts _ qw428) (fun _ h9 => h9) rfl (by decide +kernel) rfl rfl (Nat.le_of_ble_eq_true rfl) dX24_feed_2 (fun H locs hP hD hS => ?_)
  have hP : va_P (dC, dI) cls [(mx, .inr (15, [.ref mq1, .int 0, .int (-1), .int 0, .ref mq3, .ref mq4, .ref mq6, .ref mq8, .ref mq22])), (mq1, .inl (mc2, 1200, .inl (fun _ => 0)))] H := hP
  have hD : va_D A [(mx, .inr (15, [.ref mq1, .int 0, .int (-1), .int 0, .ref mq3, .ref mq4, .ref mq6, .ref mq8, .ref mq22])), (mq1, .inl (mc2, 1200, .inl (fun _ => 0)))] := hD
  refine lv_aload_n hx hb dX24_feed_5 rfl (lv_at hl 0 rfl) ?_
  refine va_get (D := (dC, dI)) (ci := 15) (v := .int 0) (C := RX24) (T := TX24) (N := 9) hx hb hts i_X24 hown hK hP 0 rfl rfl 1 (by decide) (hts _ qw429) (fun _ h9 => h9) rfl dX24_feed_6 ?_
  refine lv_bipush (v := 20) hx hb dX24_feed_9 (by decide) ?_
  refine lv_iadd hx hb dX24_feed_11 ?_
  refine lv_topC (y := 20) (by decide) ?_
  refine lv_sipush (v := 1200) hx hb dX24_feed_12 (by decide) ?_
  refine lv_icmp_le (tgt := 24) hx hb dX24_feed_15 (by decide) (fun _ => ?_) (fun c => absurd (by decide) c)
  refine lv_aload_n hx hb dX24_feed_24 rfl (lv_at hl 0 rfl) ?_
  refine lv_iload_n hx hb dX24_feed_25 rfl (lv_at hl 1 rfl) ?_
  have hPc := hP.sub (ws' := [(mx, .inr (15, [.ref mq1, .int 0, .int (-1), .int 0, .ref mq3, .ref mq4, .ref mq6, .ref mq8, .ref mq22])), (mq1, .inl (mc2, 1200, .inl (fun _ => 0)))]) [0, 1] rfl
  have hDc := hD.sub (ws' := [(mx, .inr (15, [.ref mq1, .int 0, .int (-1), .int 0, .ref mq3, .ref mq4, .ref mq6, .ref mq8, .ref mq22])), (mq1, .inl (mc2, 1200, .inl (fun _ => 0)))]) [0, 1] (by decide) rfl
  have hKc := hK.sub (tys' := [(mc2, .int)]) [0] rfl
  have hFc := va_free (wc := [(mx, .inr (15, [.ref mq1, .int 0, .int (-1), .int 0, .ref mq3, .ref mq4, .ref mq6, .ref mq8, .ref mq22])), (mq1, .inl (mc2, 1200, .inl (fun _ => 0)))]) hD hS hA [0, 1] rfl
  refine va_callv (va_runV (As := [.int p0]) (rest := []) ⟨hx, hb, hml, hown, hts⟩ (kX24_add_n34 l dC dI (a0 := mx) (i1 := p0) (a2 := mq1) (a3 := mq3) (a4 := mq4) (a5 := mq6) (a6 := mq8) (a7 := mq22) (k8 := mc2) (sz := _)) (cwV 1 hts (gi_V qw431 qw432 qw433 qw434 (gi_z qw430)) rfl rfl rfl (by decide +kernel) ⟨Nat.le_of_ble_eq_true rfl, Nat.le_of_ble_eq_true rfl⟩) ⟨PRE.blind, va_recv hKc hPc (ci := 15) (q0 := 0) rfl rfl, PRE.of hE hS hFc hPc hKc hDc⟩ rfl rfl hl.1 rfl (lv_room (Nat.le_of_ble_eq_true rfl)) dX24_feed_26 ⟨Nat.le_of_ble_eq_true rfl, Nat.le_of_ble_eq_true rfl⟩) hS (fun q _ h => hFc q h) hFc (fun u t H locs ht hvm hw hB hz1 hk1 hS => ?_)
  obtain ⟨f1, hB⟩ := hB
  obtain ⟨hP, hD, hK⟩ := JOIN (wr := []) hP hD hK [0, 1] [] [] rfl rfl (by decide) (by decide) rfl hk1 hFc ht hvm hB
  have hP : va_P (dC, dI) cls [(mx, .inr (15, [.ref mq1, .int 4, .int (-1), .int 0, .ref mq3, .ref mq4, .ref mq6, .ref mq8, .ref mq22])), (mq1, .inl (mc2, 1200, .inl f1))] H := hP
  have hD : va_D A [(mx, .inr (15, [.ref mq1, .int 4, .int (-1), .int 0, .ref mq3, .ref mq4, .ref mq6, .ref mq8, .ref mq22])), (mq1, .inl (mc2, 1200, .inl f1))] := hD
  have hK : va_K (dC, dI) cls [(mc2, .int)] s := hK
  refine W.widen (k := 0) (n := 0) (Nat.le_of_ble_eq_true rfl) (Nat.le_of_ble_eq_true rfl) ?_
  refine lv_aload_n hx hb dX24_feed_29 rfl (lv_at hl 0 rfl) ?_
  refine lv_iload_n hx hb dX24_feed_30 rfl (lv_at hl 2 rfl) ?_
  have hPc := hP.sub (ws' := [(mx, .inr (15, [.ref mq1, .int 4, .int (-1), .int 0, .ref mq3, .ref mq4, .ref mq6, .ref mq8, .ref mq22])), (mq1, .inl (mc2, 1200, .inl f1))]) [0, 1] rfl
  have hDc := hD.sub (ws' := [(mx, .inr (15, [.ref mq1, .int 4, .int (-1), .int 0, .ref mq3, .ref mq4, .ref mq6, .ref mq8, .ref mq22])), (mq1, .inl (mc2, 1200, .inl f1))]) [0, 1] (by decide) rfl
  have hKc := hK.sub (tys' := [(mc2, .int)]) [0] rfl
  have hFc := va_free (wc := [(mx, .inr (15, [.ref mq1, .int 4, .int (-1), .int 0, .ref mq3, .ref mq4, .ref mq6, .ref mq8, .ref mq22])), (mq1, .inl (mc2, 1200, .inl f1))]) hD hS hA [0, 1] rfl
  refine va_callv (va_runV (As := [.int p1]) (rest := []) ⟨hx, hb, hml, hown, hts⟩ (kX24_add_n35 l dC dI (a0 := mx) (i1 := p1) (a2 := mq4) (a4 := mq6) (a6 := mq8) (a20 := mq1) (a21 := mq3) (a22 := mq22) (F23 := f1) (k24 := mc2) (sz := _)) (cwV 1 hts (gi_V qw431 qw432 qw433 qw434 (gi_z qw430)) rfl rfl rfl (by decide +kernel) ⟨Nat.le_of_ble_eq_true rfl, Nat.le_of_ble_eq_true rfl⟩) ⟨PRE.blind, va_recv hKc hPc (ci := 15) (q0 := 0) rfl rfl, PRE.of hE hS hFc hPc hKc hDc⟩ rfl rfl hl.1 rfl (lv_room (Nat.le_of_ble_eq_true rfl)) dX24_feed_31 ⟨Nat.le_of_ble_eq_true rfl, Nat.le_of_ble_eq_true rfl⟩) hS (fun q _ h => hFc q h) hFc (fun u t H locs ht hvm hw hB hz1 hk1 hS => ?_)
  obtain ⟨f2, hB⟩ := hB
  obtain ⟨hP, hD, hK⟩ := JOIN (wr := []) hP hD hK [0, 1] [] [] rfl rfl (by decide) (by decide) rfl hk1 hFc ht hvm hB
  have hP : va_P (dC, dI) cls [(mx, .inr (15, [.ref mq1, .int 8, .int (-1), .int 0, .ref mq3, .ref mq4, .ref mq6, .ref mq8, .ref mq22])), (mq1, .inl (mc2, 1200, .inl f2))] H := hP
  have hD : va_D A [(mx, .inr (15, [.ref mq1, .int 8, .int (-1), .int 0, .ref mq3, .ref mq4, .ref mq6, .ref mq8, .ref mq22])), (mq1, .inl (mc2, 1200, .inl f2))] := hD
  have hK : va_K (dC, dI) cls [(mc2, .int)] s := hK
  refine W.widen (k := 0) (n := 0) (Nat.le_of_ble_eq_true rfl) (Nat.le_of_ble_eq_true rfl) ?_
  refine lv_aload_n hx hb dX24_feed_34 rfl (lv_at hl 0 rfl) ?_
  refine lv_iload_n hx hb dX24_feed_35 rfl (lv_at hl 3 rfl) ?_
  have hPc := hP.sub (ws' := [(mx, .inr (15, [.ref mq1, .int 8, .int (-1), .int 0, .ref mq3, .ref mq4, .ref mq6, .ref mq8, .ref mq22])), (mq1, .inl (mc2, 1200, .inl f2))]) [0, 1] rfl
  have hDc := hD.sub (ws' := [(mx, .inr (15, [.ref mq1, .int 8, .int (-1), .int 0, .ref mq3, .ref mq4, .ref mq6, .ref mq8, .ref mq22])), (mq1, .inl (mc2, 1200, .inl f2))]) [0, 1] (by decide) rfl
  have hKc := hK.sub (tys' := [(mc2, .int)]) [0] rfl
  have hFc := va_free (wc := [(mx, .inr (15, [.ref mq1, .int 8, .int (-1), .int 0, .ref mq3, .ref mq4, .ref mq6, .ref mq8, .ref mq22])), (mq1, .inl (mc2, 1200, .inl f2))]) hD hS hA [0, 1] rfl
  refine va_callv (va_runV (As := [.int p2]) (rest := []) ⟨hx, hb, hml, hown, hts⟩ (kX24_add_n36 l dC dI (a0 := mx) (i1 := p2) (a2 := mq4) (a4 := mq6) (a6 := mq8) (a20 := mq1) (a21 := mq3) (a22 := mq22) (F23 := f2) (k24 := mc2) (sz := _)) (cwV 1 hts (gi_V qw431 qw432 qw433 qw434 (gi_z qw430)) rfl rfl rfl (by decide +kernel) ⟨Nat.le_of_ble_eq_true rfl, Nat.le_of_ble_eq_true rfl⟩) ⟨PRE.blind, va_recv hKc hPc (ci := 15) (q0 := 0) rfl rfl, PRE.of hE hS hFc hPc hKc hDc⟩ rfl rfl hl.1 rfl (lv_room (Nat.le_of_ble_eq_true rfl)) dX24_feed_36 ⟨Nat.le_of_ble_eq_true rfl, Nat.le_of_ble_eq_true rfl⟩) hS (fun q _ h => hFc q h) hFc (fun u t H locs ht hvm hw hB hz1 hk1 hS => ?_)
  obtain ⟨f3, hB⟩ := hB
  obtain ⟨hP, hD, hK⟩ := JOIN (wr := []) hP hD hK [0, 1] [] [] rfl rfl (by decide) (by decide) rfl hk1 hFc ht hvm hB
  have hP : va_P (dC, dI) cls [(mx, .inr (15, [.ref mq1, .int 12, .int (-1), .int 0, .ref mq3, .ref mq4, .ref mq6, .ref mq8, .ref mq22])), (mq1, .inl (mc2, 1200, .inl f3))] H := hP
  have hD : va_D A [(mx, .inr (15, [.ref mq1, .int 12, .int (-1), .int 0, .ref mq3, .ref mq4, .ref mq6, .ref mq8, .ref mq22])), (mq1, .inl (mc2, 1200, .inl f3))] := hD
  have hK : va_K (dC, dI) cls [(mc2, .int)] s := hK
  refine W.widen (k := 0) (n := 0) (Nat.le_of_ble_eq_true rfl) (Nat.le_of_ble_eq_true rfl) ?_
  refine lv_aload_n hx hb dX24_feed_39 rfl (lv_at hl 0 rfl) ?_
  refine lv_iload hx hb dX24_feed_40 (lv_at hl 4 rfl) ?_
  have hPc := hP.sub (ws' := [(mx, .inr (15, [.ref mq1, .int 12, .int (-1), .int 0, .ref mq3, .ref mq4, .ref mq6, .ref mq8, .ref mq22])), (mq1, .inl (mc2, 1200, .inl f3))]) [0, 1] rfl
  have hDc := hD.sub (ws' := [(mx, .inr (15, [.ref mq1, .int 12, .int (-1), .int 0, .ref mq3, .ref mq4, .ref mq6, .ref mq8, .ref mq22])), (mq1, .inl (mc2, 1200, .inl f3))]) [0, 1] (by decide) rfl
  have hKc := hK.sub (tys' := [(mc2, .int)]) [0] rfl
  have hFc := va_free (wc := [(mx, .inr (15, [.ref mq1, .int 12, .int (-1), .int 0, .ref mq3, .ref mq4, .ref mq6, .ref mq8, .ref mq22])), (mq1, .inl (mc2, 1200, .inl f3))]) hD hS hA [0, 1] rfl
  refine va_callv (va_runV (As := [.int p3]) (rest := []) ⟨hx, hb, hml, hown, hts⟩ (kX24_add_n37 l dC dI (a0 := mx) (i1 := p3) (a2 := mq4) (a4 := mq6) (a6 := mq8) (a20 := mq1) (a21 := mq3) (a22 := mq22) (F23 := f3) (k24 := mc2) (sz := _)) (cwV 1 hts (gi_V qw431 qw432 qw433 qw434 (gi_z qw430)) rfl rfl rfl (by decide +kernel) ⟨Nat.le_of_ble_eq_true rfl, Nat.le_of_ble_eq_true rfl⟩) ⟨PRE.blind, va_recv hKc hPc (ci := 15) (q0 := 0) rfl rfl, PRE.of hE hS hFc hPc hKc hDc⟩ rfl rfl hl.1 rfl (lv_room (Nat.le_of_ble_eq_true rfl)) dX24_feed_42 ⟨Nat.le_of_ble_eq_true rfl, Nat.le_of_ble_eq_true rfl⟩) hS (fun q _ h => hFc q h) hFc (fun u t H locs ht hvm hw hB hz1 hk1 hS => ?_)
  obtain ⟨f4, hB⟩ := hB
  obtain ⟨hP, hD, hK⟩ := JOIN (wr := []) hP hD hK [0, 1] [] [] rfl rfl (by decide) (by decide) rfl hk1 hFc ht hvm hB
  have hP : va_P (dC, dI) cls [(mx, .inr (15, [.ref mq1, .int 16, .int (-1), .int 0, .ref mq3, .ref mq4, .ref mq6, .ref mq8, .ref mq22])), (mq1, .inl (mc2, 1200, .inl f4))] H := hP
  have hD : va_D A [(mx, .inr (15, [.ref mq1, .int 16, .int (-1), .int 0, .ref mq3, .ref mq4, .ref mq6, .ref mq8, .ref mq22])), (mq1, .inl (mc2, 1200, .inl f4))] := hD
  have hK : va_K (dC, dI) cls [(mc2, .int)] s := hK
  refine W.widen (k := 0) (n := 0) (Nat.le_of_ble_eq_true rfl) (Nat.le_of_ble_eq_true rfl) ?_
  refine lv_aload_n hx hb dX24_feed_45 rfl (lv_at hl 0 rfl) ?_
  refine lv_iload hx hb dX24_feed_46 (lv_at hl 5 rfl) ?_
  have hPc := hP.sub (ws' := [(mx, .inr (15, [.ref mq1, .int 16, .int (-1), .int 0, .ref mq3, .ref mq4, .ref mq6, .ref mq8, .ref mq22])), (mq1, .inl (mc2, 1200, .inl f4))]) [0, 1] rfl
  have hDc := hD.sub (ws' := [(mx, .inr (15, [.ref mq1, .int 16, .int (-1), .int 0, .ref mq3, .ref mq4, .ref mq6, .ref mq8, .ref mq22])), (mq1, .inl (mc2, 1200, .inl f4))]) [0, 1] (by decide) rfl
  have hKc := hK.sub (tys' := [(mc2, .int)]) [0] rfl
  have hFc := va_free (wc := [(mx, .inr (15, [.ref mq1, .int 16, .int (-1), .int 0, .ref mq3, .ref mq4, .ref mq6, .ref mq8, .ref mq22])), (mq1, .inl (mc2, 1200, .inl f4))]) hD hS hA [0, 1] rfl
  refine va_callv (va_runV (As := [.int p4]) (rest := []) ⟨hx, hb, hml, hown, hts⟩ (kX24_add_n38 l dC dI (a0 := mx) (i1 := p4) (a2 := mq4) (a4 := mq6) (a6 := mq8) (a20 := mq1) (a21 := mq3) (a22 := mq22) (F23 := f4) (k24 := mc2) (sz := _)) (cwV 1 hts (gi_V qw431 qw432 qw433 qw434 (gi_z qw430)) rfl rfl rfl (by decide +kernel) ⟨Nat.le_of_ble_eq_true rfl, Nat.le_of_ble_eq_true rfl⟩) ⟨PRE.blind, va_recv hKc hPc (ci := 15) (q0 := 0) rfl rfl, PRE.of hE hS hFc hPc hKc hDc⟩ rfl rfl hl.1 rfl (lv_room (Nat.le_of_ble_eq_true rfl)) dX24_feed_48 ⟨Nat.le_of_ble_eq_true rfl, Nat.le_of_ble_eq_true rfl⟩) hS (fun q _ h => hFc q h) hFc (fun u t H locs ht hvm hw hB hz1 hk1 hS => ?_)
  obtain ⟨f5, hB⟩ := hB
  obtain ⟨hP, hD, hK⟩ := JOIN (wr := []) hP hD hK [0, 1] [] [] rfl rfl (by decide) (by decide) rfl hk1 hFc ht hvm hB
  have hP : va_P (dC, dI) cls [(mx, .inr (15, [.ref mq1, .int 20, .int (-1), .int 0, .ref mq3, .ref mq4, .ref mq6, .ref mq8, .ref mq22])), (mq1, .inl (mc2, 1200, .inl f5))] H := hP
  have hD : va_D A [(mx, .inr (15, [.ref mq1, .int 20, .int (-1), .int 0, .ref mq3, .ref mq4, .ref mq6, .ref mq8, .ref mq22])), (mq1, .inl (mc2, 1200, .inl f5))] := hD
  have hK : va_K (dC, dI) cls [(mc2, .int)] s := hK
  refine W.widen (k := 0) (n := 0) (Nat.le_of_ble_eq_true rfl) (Nat.le_of_ble_eq_true rfl) ?_
  refine lv_aload_n hx hb dX24_feed_51 rfl (lv_at hl 0 rfl) ?_
  refine va_get (D := (dC, dI)) (ci := 15) (v := .int 20) (C := RX24) (T := TX24) (N := 9) hx hb hts i_X24 hown hK hP 0 rfl rfl 1 (by decide) (hts _ qw429) (fun _ h9 => h9) rfl dX24_feed_52 ?_
  have hP9 : va_P (dC, dI) cls [(mx, .inr (15, [.ref mq1, .int 20, .int (-1), .int 0, .ref mq3, .ref mq4, .ref mq6, .ref mq8, .ref mq22]))] H := hP.sub [0] rfl
  have hD9 : va_D A [(mx, .inr (15, [.ref mq1, .int 20, .int (-1), .int 0, .ref mq3, .ref mq4, .ref mq6, .ref mq8, .ref mq22]))] := hD.sub [0] (by decide) rfl
  have hK9 : va_K (dC, dI) cls [] s := hK.sub [] rfl
  exact W.iret (v := 20) hx hb hr (fun t ht hW => ⟨⟨20, (), rfl, rfl, ⟨by rw [ht]; exact hP9, va_K.moved hW.alike hK9, hD9⟩⟩, hS.F ht⟩) hS.2.2 dX24_feed_55
set_option maxHeartbeats 4000000 in
set_option maxRecDepth 100000 in
/-- GearboxModel.no, from the state that its caller has -/
theorem kX24_no_n39 {zs : Nat × Nat} (l : Launch) (dC : Nat → ClassId) (dI : Nat → Nat → Nat) (a0 : Nat) (a1 : Nat) (a2 : Nat) (a3 : Nat) (a4 : Nat) (a5 : Nat) (a6 : Nat) (sz : Nat)  : Met l yX24_no (wz yX24_no cX24_no 2 (Option.some Jvm.ClassFile.FieldType.int)) ({ frames := 0, cells := 0, slots := 0, locals := 0 }) (va_Pc [.ref a0, .int 1] (PRE zs dC dI [(a0, .inr (15, [.ref a1, .int 0, .int (-1), .int 0, .ref a2, .ref a3, .ref a4, .ref a5, .ref a6]))] [] sz)) (va_Qi (fun (r : Int32) (_ : Unit) => r = 0) (fun _ t => POST dC dI [(a0, .inr (15, [.ref a1, .int 0, .int (-1), .int 1, .ref a2, .ref a3, .ref a4, .ref a5, .ref a6]))] [] (va_A [(a0, .inr (15, [.ref a1, .int 0, .int (-1), .int 0, .ref a2, .ref a3, .ref a4, .ref a5, .ref a6]))] sz) t) (va_A [(a0, .inr (15, [.ref a1, .int 0, .int (-1), .int 0, .ref a2, .ref a3, .ref a4, .ref a5, .ref a6]))] sz)) 0 0 (va_A [(a0, .inr (15, [.ref a1, .int 0, .int (-1), .int 0, .ref a2, .ref a3, .ref a4, .ref a5, .ref a6]))] sz) := by
  refine Met.ofW (cc := cX24_no) (maxL := 2) (ret := (Option.some Jvm.ClassFile.FieldType.int)) (by decide) rfl ?_
  intro p e s m args below meth c s₁ B hml hv
  obtain ⟨rfl, hsz, hP, hK, hD0, hE⟩ := hv
  have hx := B.exec
  have hb := B.bytes
  have hr := B.returns
  have hts0 := atoms_spec (ws := wz yX24_no cX24_no 2 (Option.some Jvm.ClassFile.FieldType.int)) B.pre
  have hts : ∀ w ∈ gw, w.before _ s = true := fun w h => hts0 w (List.mem_cons_of_mem _ h)
  have hown : s.vm.findClass RX24 = some m.cls := findClass_of_methodNamed B.named
  have hlocks := B.notSynchronized
  subst hsz
  have hD := hD0.self (sz := s.heap.size)
  generalize hAe : va_A [(a0, .inr (15, [.ref a1, .int 0, .int (-1), .int 0, .ref a2, .ref a3, .ref a4, .ref a5, .ref a6]))] s.heap.size = A at hD hE ⊢
  have hA : ∀ q : Nat, s.heap.size ≤ q → A q := fun q h => by rw [← hAe]; exact Or.inr h
  have hS : va_S A s.heap s.heap [] := va_S.rf
  have hP : va_P (dC, dI) cls [(a0, .inr (15, [.ref a1, .int 0, .int (-1), .int 0, .ref a2, .ref a3, .ref a4, .ref a5, .ref a6]))] s.heap := hP
  have hl := lv_entry ([.ref a0, .int 1]) (n := 2) (Nat.le_of_ble_eq_true rfl)
  rw [lg_entry_eq]
  generalize (lg_sl ([.ref a0, .int 1]) ++ List.replicate (2 - (lg_sl ([.ref a0, .int 1])).length) Slot.unset).toArray = ls at hl ⊢
  have hl : lv_has ls 2 [(0, .ref a0), (1, .int 1)] := hl
  refine lv_aload_n hx hb dX24_no_0 rfl (lv_at hl 0 rfl) ?_
  refine lv_iload_n hx hb dX24_no_1 rfl (lv_at hl 1 rfl) ?_
  refine va_put (D := (dC, dI)) (ci := 15) (v := .int 1) (ty := .int) (C := RX24) (T := TX24) (N := 9) hx hb hts i_X24 tyX24 tyX24_ok nmX24 hown hK hP hD hS 0 rfl rfl 3 (by decide) (hts _ qw428) (fun _ h9 => h9) rfl (by decide +kernel) rfl rfl (Nat.le_of_ble_eq_true rfl) dX24_no_2 (fun H locs hP hD hS => ?_)
  have hP : va_P (dC, dI) cls [(a0, .inr (15, [.ref a1, .int 0, .int (-1), .int 1, .ref a2, .ref a3, .ref a4, .ref a5, .ref a6]))] H := hP
  have hD : va_D A [(a0, .inr (15, [.ref a1, .int 0, .int (-1), .int 1, .ref a2, .ref a3, .ref a4, .ref a5, .ref a6]))] := hD
  refine lv_iconst (v := 0) hx hb dX24_no_5 (by decide) ?_
  have hP9 : va_P (dC, dI) cls [(a0, .inr (15, [.ref a1, .int 0, .int (-1), .int 1, .ref a2, .ref a3, .ref a4, .ref a5, .ref a6]))] H := hP.sub [0] rfl
  have hD9 : va_D A [(a0, .inr (15, [.ref a1, .int 0, .int (-1), .int 1, .ref a2, .ref a3, .ref a4, .ref a5, .ref a6]))] := hD.sub [0] (by decide) rfl
  have hK9 : va_K (dC, dI) cls [] s := hK.sub [] rfl
  exact W.iret (v := 0) hx hb hr (fun t ht hW => ⟨⟨0, (), rfl, rfl, ⟨by rw [ht]; exact hP9, va_K.moved hW.alike hK9, hD9⟩⟩, hS.F ht⟩) hS.2.2 dX24_no_6
set_option maxHeartbeats 4000000 in
set_option maxRecDepth 100000 in
theorem kX24_trim_a {zs : Nat × Nat} (l : Launch) (dC : Nat → ClassId) (dI : Nat → Nat → Nat) (mx : Nat) (mq1 : Nat) (mq3 : Nat) (mq4 : Nat) (mq6 : Nat) (mq8 : Nat) (mq22 : Nat) (p0 : Int32) (sz : Nat) (h1 : p0 < 0) : Met l yX24_trim (wz yX24_trim cX24_trim 2 (Option.some Jvm.ClassFile.FieldType.int)) ({ frames := 1, cells := 0, slots := 0, locals := 21 }) (va_Pc [.ref mx, .int p0] (PRE zs dC dI [(mx, .inr (15, [.ref mq1, .int 0, .int (-1), .int 0, .ref mq3, .ref mq4, .ref mq6, .ref mq8, .ref mq22]))] [] sz)) (va_Qi (fun (r : Int32) (_ : Unit) => r = 0) (fun _ t => POST dC dI [(mx, .inr (15, [.ref mq1, .int 0, .int (-1), .int 1, .ref mq3, .ref mq4, .ref mq6, .ref mq8, .ref mq22]))] [] (va_A [(mx, .inr (15, [.ref mq1, .int 0, .int (-1), .int 0, .ref mq3, .ref mq4, .ref mq6, .ref mq8, .ref mq22]))] sz) t) (va_A [(mx, .inr (15, [.ref mq1, .int 0, .int (-1), .int 0, .ref mq3, .ref mq4, .ref mq6, .ref mq8, .ref mq22]))] sz)) 0 0 (va_A [(mx, .inr (15, [.ref mq1, .int 0, .int (-1), .int 0, .ref mq3, .ref mq4, .ref mq6, .ref mq8, .ref mq22]))] sz) := by
  refine Met.ofW (cc := cX24_trim) (maxL := 2) (ret := (Option.some Jvm.ClassFile.FieldType.int)) (by decide) rfl ?_
  intro p e s m args below meth c s₁ B hml hv
  obtain ⟨rfl, hsz, hP, hK, hD0, hE⟩ := hv
  have hx := B.exec
  have hb := B.bytes
  have hr := B.returns
  have hts0 := atoms_spec (ws := wz yX24_trim cX24_trim 2 (Option.some Jvm.ClassFile.FieldType.int)) B.pre
  have hts : ∀ w ∈ gw, w.before _ s = true := fun w h => hts0 w (List.mem_cons_of_mem _ h)
  have hown : s.vm.findClass RX24 = some m.cls := findClass_of_methodNamed B.named
  have hlocks := B.notSynchronized
  subst hsz
  have hD := hD0.self (sz := s.heap.size)
  generalize hAe : va_A [(mx, .inr (15, [.ref mq1, .int 0, .int (-1), .int 0, .ref mq3, .ref mq4, .ref mq6, .ref mq8, .ref mq22]))] s.heap.size = A at hD hE ⊢
  have hA : ∀ q : Nat, s.heap.size ≤ q → A q := fun q h => by rw [← hAe]; exact Or.inr h
  have hS : va_S A s.heap s.heap [] := va_S.rf
  have hP : va_P (dC, dI) cls [(mx, .inr (15, [.ref mq1, .int 0, .int (-1), .int 0, .ref mq3, .ref mq4, .ref mq6, .ref mq8, .ref mq22]))] s.heap := hP
  have hl := lv_entry ([.ref mx, .int p0]) (n := 2) (Nat.le_of_ble_eq_true rfl)
  rw [lg_entry_eq]
  generalize (lg_sl ([.ref mx, .int p0]) ++ List.replicate (2 - (lg_sl ([.ref mx, .int p0])).length) Slot.unset).toArray = ls at hl ⊢
  have hl : lv_has ls 2 [(0, .ref mx), (1, .int p0)] := hl
  refine lv_aload_n hx hb dX24_trim_0 rfl (lv_at hl 0 rfl) ?_
  refine lv_iconst (v := 0) hx hb dX24_trim_1 (by decide) ?_
  refine va_put (D := (dC, dI)) (ci := 15) (v := .int 0) (ty := .int) (C := RX24) (T := TX24) (N := 9) hx hb hts i_X24 tyX24 tyX24_ok nmX24 hown hK hP hD hS 0 rfl rfl 3 (by decide) (hts _ qw428) (fun _ h9 => h9) rfl (by decide +kernel) rfl rfl (Nat.le_of_ble_eq_true rfl) dX24_trim_2 (fun H locs hP hD hS => ?_)
  have hP : va_P (dC, dI) cls [(mx, .inr (15, [.ref mq1, .int 0, .int (-1), .int 0, .ref mq3, .ref mq4, .ref mq6, .ref mq8, .ref mq22]))] H := hP
  have hD : va_D A [(mx, .inr (15, [.ref mq1, .int 0, .int (-1), .int 0, .ref mq3, .ref mq4, .ref mq6, .ref mq8, .ref mq22]))] := hD
  refine lv_iload_n hx hb dX24_trim_5 rfl (lv_at hl 1 rfl) ?_
  refine lv_if_lt (tgt := 17) hx hb dX24_trim_6 (by decide) (fun _ => ?_) (fun c => absurd h1 c)
  refine lv_aload_n hx hb dX24_trim_17 rfl (lv_at hl 0 rfl) ?_
  refine lv_iconst (v := 1) hx hb dX24_trim_18 (by decide) ?_
  have hPc := hP.sub (ws' := [(mx, .inr (15, [.ref mq1, .int 0, .int (-1), .int 0, .ref mq3, .ref mq4, .ref mq6, .ref mq8, .ref mq22]))]) [0] rfl
  have hDc := hD.sub (ws' := [(mx, .inr (15, [.ref mq1, .int 0, .int (-1), .int 0, .ref mq3, .ref mq4, .ref mq6, .ref mq8, .ref mq22]))]) [0] (by decide) rfl
  have hKc := hK.sub (tys' := []) [] rfl
  have hFc := va_free (wc := [(mx, .inr (15, [.ref mq1, .int 0, .int (-1), .int 0, .ref mq3, .ref mq4, .ref mq6, .ref mq8, .ref mq22]))]) hD hS hA [0] rfl
  refine va_calli (va_runV (As := [.int 1]) (rest := []) ⟨hx, hb, hml, hown, hts⟩ (kX24_no_n39 l dC dI (a0 := mx) (a1 := mq1) (a2 := mq3) (a3 := mq4) (a4 := mq6) (a5 := mq8) (a6 := mq22) (sz := _)) (cwV 1 hts (gi_V qw436 qw437 qw438 qw434 (gi_z qw435)) rfl rfl rfl (by decide +kernel) ⟨Nat.le_of_ble_eq_true rfl, Nat.le_of_ble_eq_true rfl⟩) ⟨PRE.blind, va_recv hKc hPc (ci := 15) (q0 := 0) rfl rfl, PRE.of hE hS hFc hPc hKc hDc⟩ rfl rfl hl.1 rfl (lv_room (Nat.le_of_ble_eq_true rfl)) dX24_trim_19 ⟨Nat.le_of_ble_eq_true rfl, Nat.le_of_ble_eq_true rfl⟩) hS (fun q _ h => hFc q h) hFc (fun r1 u t H locs ht hvm hw hB hz1 hk1 hS => ?_)
  obtain ⟨hP, hD, hK⟩ := JOIN (wr := []) hP hD hK [0] [] [] rfl rfl (by decide) (by decide) rfl hk1 hFc ht hvm hB
  have hP : va_P (dC, dI) cls [(mx, .inr (15, [.ref mq1, .int 0, .int (-1), .int 1, .ref mq3, .ref mq4, .ref mq6, .ref mq8, .ref mq22]))] H := hP
  have hD : va_D A [(mx, .inr (15, [.ref mq1, .int 0, .int (-1), .int 1, .ref mq3, .ref mq4, .ref mq6, .ref mq8, .ref mq22]))] := hD
  have hK : va_K (dC, dI) cls [] s := hK
  refine W.widen (k := 0) (n := 0) (Nat.le_of_ble_eq_true rfl) (Nat.le_of_ble_eq_true rfl) ?_
  obtain rfl : r1 = 0 := hw
  have hP9 : va_P (dC, dI) cls [(mx, .inr (15, [.ref mq1, .int 0, .int (-1), .int 1, .ref mq3, .ref mq4, .ref mq6, .ref mq8, .ref mq22]))] H := hP.sub [0] rfl
  have hD9 : va_D A [(mx, .inr (15, [.ref mq1, .int 0, .int (-1), .int 1, .ref mq3, .ref mq4, .ref mq6, .ref mq8, .ref mq22]))] := hD.sub [0] (by decide) rfl
  have hK9 : va_K (dC, dI) cls [] s := hK.sub [] rfl
  exact W.iret (v := 0) hx hb hr (fun t ht hW => ⟨⟨0, (), rfl, rfl, ⟨by rw [ht]; exact hP9, va_K.moved hW.alike hK9, hD9⟩⟩, hS.F ht⟩) hS.2.2 dX24_trim_22
set_option maxHeartbeats 4000000 in
set_option maxRecDepth 100000 in
theorem kX24_trim_b {zs : Nat × Nat} (l : Launch) (dC : Nat → ClassId) (dI : Nat → Nat → Nat) (mx : Nat) (mq1 : Nat) (mq3 : Nat) (mq4 : Nat) (mq6 : Nat) (mq8 : Nat) (mq22 : Nat) (p0 : Int32) (sz : Nat) (h1 : ¬ p0 < 0) (h2 : 0 < p0) : Met l yX24_trim (wz yX24_trim cX24_trim 2 (Option.some Jvm.ClassFile.FieldType.int)) ({ frames := 1, cells := 0, slots := 0, locals := 21 }) (va_Pc [.ref mx, .int p0] (PRE zs dC dI [(mx, .inr (15, [.ref mq1, .int 0, .int (-1), .int 0, .ref mq3, .ref mq4, .ref mq6, .ref mq8, .ref mq22]))] [] sz)) (va_Qi (fun (r : Int32) (_ : Unit) => r = 0) (fun _ t => POST dC dI [(mx, .inr (15, [.ref mq1, .int 0, .int (-1), .int 1, .ref mq3, .ref mq4, .ref mq6, .ref mq8, .ref mq22]))] [] (va_A [(mx, .inr (15, [.ref mq1, .int 0, .int (-1), .int 0, .ref mq3, .ref mq4, .ref mq6, .ref mq8, .ref mq22]))] sz) t) (va_A [(mx, .inr (15, [.ref mq1, .int 0, .int (-1), .int 0, .ref mq3, .ref mq4, .ref mq6, .ref mq8, .ref mq22]))] sz)) 0 0 (va_A [(mx, .inr (15, [.ref mq1, .int 0, .int (-1), .int 0, .ref mq3, .ref mq4, .ref mq6, .ref mq8, .ref mq22]))] sz) := by
  refine Met.ofW (cc := cX24_trim) (maxL := 2) (ret := (Option.some Jvm.ClassFile.FieldType.int)) (by decide) rfl ?_
  intro p e s m args below meth c s₁ B hml hv
  obtain ⟨rfl, hsz, hP, hK, hD0, hE⟩ := hv
  have hx := B.exec
  have hb := B.bytes
  have hr := B.returns
  have hts0 := atoms_spec (ws := wz yX24_trim cX24_trim 2 (Option.some Jvm.ClassFile.FieldType.int)) B.pre
  have hts : ∀ w ∈ gw, w.before _ s = true := fun w h => hts0 w (List.mem_cons_of_mem _ h)
  have hown : s.vm.findClass RX24 = some m.cls := findClass_of_methodNamed B.named
  have hlocks := B.notSynchronized
  subst hsz
  have hD := hD0.self (sz := s.heap.size)
  generalize hAe : va_A [(mx, .inr (15, [.ref mq1, .int 0, .int (-1), .int 0, .ref mq3, .ref mq4, .ref mq6, .ref mq8, .ref mq22]))] s.heap.size = A at hD hE ⊢
  have hA : ∀ q : Nat, s.heap.size ≤ q → A q := fun q h => by rw [← hAe]; exact Or.inr h
  have hS : va_S A s.heap s.heap [] := va_S.rf
  have hP : va_P (dC, dI) cls [(mx, .inr (15, [.ref mq1, .int 0, .int (-1), .int 0, .ref mq3, .ref mq4, .ref mq6, .ref mq8, .ref mq22]))] s.heap := hP
  have hl := lv_entry ([.ref mx, .int p0]) (n := 2) (Nat.le_of_ble_eq_true rfl)
  rw [lg_entry_eq]
  generalize (lg_sl ([.ref mx, .int p0]) ++ List.replicate (2 - (lg_sl ([.ref mx, .int p0])).length) Slot.unset).toArray = ls at hl ⊢
  have hl : lv_has ls 2 [(0, .ref mx), (1, .int p0)] := hl
  refine lv_aload_n hx hb dX24_trim_0 rfl (lv_at hl 0 rfl) ?_
  refine lv_iconst (v := 0) hx hb dX24_trim_1 (by decide) ?_
  refine va_put (D := (dC, dI)) (ci := 15) (v := .int 0) (ty := .int) (C := RX24) (T := TX24) (N := 9) hx hb hts i_X24 tyX24 tyX24_ok nmX24 hown hK hP hD hS 0 rfl rfl 3 (by decide) (hts _ qw428) (fun _ h9 => h9) rfl (by decide +kernel) rfl rfl (Nat.le_of_ble_eq_true rfl) dX24_trim_2 (fun H locs hP hD hS => ?_)
  have hP : va_P (dC, dI) cls [(mx, .inr (15, [.ref mq1, .int 0, .int (-1), .int 0, .ref mq3, .ref mq4, .ref mq6, .ref mq8, .ref mq22]))] H := hP
  have hD : va_D A [(mx, .inr (15, [.ref mq1, .int 0, .int (-1), .int 0, .ref mq3, .ref mq4, .ref mq6, .ref mq8, .ref mq22]))] := hD
  refine lv_iload_n hx hb dX24_trim_5 rfl (lv_at hl 1 rfl) ?_
  refine lv_if_lt (tgt := 17) hx hb dX24_trim_6 (by decide) (fun c => absurd c h1) (fun _ => ?_)
  refine lv_iload_n hx hb dX24_trim_9 rfl (lv_at hl 1 rfl) ?_
  refine lv_aload_n hx hb dX24_trim_10 rfl (lv_at hl 0 rfl) ?_
  refine va_get (D := (dC, dI)) (ci := 15) (v := .int 0) (C := RX24) (T := TX24) (N := 9) hx hb hts i_X24 hown hK hP 0 rfl rfl 1 (by decide) (hts _ qw429) (fun _ h9 => h9) rfl dX24_trim_11 ?_
  refine lv_icmp_le (tgt := 23) hx hb dX24_trim_14 (by decide) (fun c => absurd c (fun c => absurd c (Int32.not_le.mpr h2))) (fun _ => ?_)
  refine lv_aload_n hx hb dX24_trim_17 rfl (lv_at hl 0 rfl) ?_
  refine lv_iconst (v := 1) hx hb dX24_trim_18 (by decide) ?_
  have hPc := hP.sub (ws' := [(mx, .inr (15, [.ref mq1, .int 0, .int (-1), .int 0, .ref mq3, .ref mq4, .ref mq6, .ref mq8, .ref mq22]))]) [0] rfl
  have hDc := hD.sub (ws' := [(mx, .inr (15, [.ref mq1, .int 0, .int (-1), .int 0, .ref mq3, .ref mq4, .ref mq6, .ref mq8, .ref mq22]))]) [0] (by decide) rfl
  have hKc := hK.sub (tys' := []) [] rfl
  have hFc := va_free (wc := [(mx, .inr (15, [.ref mq1, .int 0, .int (-1), .int 0, .ref mq3, .ref mq4, .ref mq6, .ref mq8, .ref mq22]))]) hD hS hA [0] rfl
  refine va_calli (va_runV (As := [.int 1]) (rest := []) ⟨hx, hb, hml, hown, hts⟩ (kX24_no_n39 l dC dI (a0 := mx) (a1 := mq1) (a2 := mq3) (a3 := mq4) (a4 := mq6) (a5 := mq8) (a6 := mq22) (sz := _)) (cwV 1 hts (gi_V qw436 qw437 qw438 qw434 (gi_z qw435)) rfl rfl rfl (by decide +kernel) ⟨Nat.le_of_ble_eq_true rfl, Nat.le_of_ble_eq_true rfl⟩) ⟨PRE.blind, va_recv hKc hPc (ci := 15) (q0 := 0) rfl rfl, PRE.of hE hS hFc hPc hKc hDc⟩ rfl rfl hl.1 rfl (lv_room (Nat.le_of_ble_eq_true rfl)) dX24_trim_19 ⟨Nat.le_of_ble_eq_true rfl, Nat.le_of_ble_eq_true rfl⟩) hS (fun q _ h => hFc q h) hFc (fun r1 u t H locs ht hvm hw hB hz1 hk1 hS => ?_)
  obtain ⟨hP, hD, hK⟩ := JOIN (wr := []) hP hD hK [0] [] [] rfl rfl (by decide) (by decide) rfl hk1 hFc ht hvm hB
  have hP : va_P (dC, dI) cls [(mx, .inr (15, [.ref mq1, .int 0, .int (-1), .int 1, .ref mq3, .ref mq4, .ref mq6, .ref mq8, .ref mq22]))] H := hP
  have hD : va_D A [(mx, .inr (15, [.ref mq1, .int 0, .int (-1), .int 1, .ref mq3, .ref mq4, .ref mq6, .ref mq8, .ref mq22]))] := hD
  have hK : va_K (dC, dI) cls [] s := hK
  refine W.widen (k := 0) (n := 0) (Nat.le_of_ble_eq_true rfl) (Nat.le_of_ble_eq_true rfl) ?_
  obtain rfl : r1 = 0 := hw
  have hP9 : va_P (dC, dI) cls [(mx, .inr (15, [.ref mq1, .int 0, .int (-1), .int 1, .ref mq3, .ref mq4, .ref mq6, .ref mq8, .ref mq22]))] H := hP.sub [0] rfl
  have hD9 : va_D A [(mx, .inr (15, [.ref mq1, .int 0, .int (-1), .int 1, .ref mq3, .ref mq4, .ref mq6, .ref mq8, .ref mq22]))] := hD.sub [0] (by decide) rfl
  have hK9 : va_K (dC, dI) cls [] s := hK.sub [] rfl
  exact W.iret (v := 0) hx hb hr (fun t ht hW => ⟨⟨0, (), rfl, rfl, ⟨by rw [ht]; exact hP9, va_K.moved hW.alike hK9, hD9⟩⟩, hS.F ht⟩) hS.2.2 dX24_trim_22
set_option maxHeartbeats 4000000 in
set_option maxRecDepth 100000 in
theorem kX24_trim_c {zs : Nat × Nat} (l : Launch) (dC : Nat → ClassId) (dI : Nat → Nat → Nat) (mx : Nat) (mq1 : Nat) (mq3 : Nat) (mq4 : Nat) (mq6 : Nat) (mq8 : Nat) (mq22 : Nat) (p0 : Int32) (sz : Nat) (h1 : ¬ p0 < 0) (h2 : ¬ 0 < p0) : Met l yX24_trim (wz yX24_trim cX24_trim 2 (Option.some Jvm.ClassFile.FieldType.int)) ({ frames := 0, cells := 0, slots := 0, locals := 0 }) (va_Pc [.ref mx, .int p0] (PRE zs dC dI [(mx, .inr (15, [.ref mq1, .int 0, .int (-1), .int 0, .ref mq3, .ref mq4, .ref mq6, .ref mq8, .ref mq22]))] [] sz)) (va_Qi (fun (r : Int32) (_ : Unit) => r = p0) (fun _ t => POST dC dI [(mx, .inr (15, [.ref mq1, .int p0, .int (-1), .int 0, .ref mq3, .ref mq4, .ref mq6, .ref mq8, .ref mq22]))] [] (va_A [(mx, .inr (15, [.ref mq1, .int 0, .int (-1), .int 0, .ref mq3, .ref mq4, .ref mq6, .ref mq8, .ref mq22]))] sz) t) (va_A [(mx, .inr (15, [.ref mq1, .int 0, .int (-1), .int 0, .ref mq3, .ref mq4, .ref mq6, .ref mq8, .ref mq22]))] sz)) 0 0 (va_A [(mx, .inr (15, [.ref mq1, .int 0, .int (-1), .int 0, .ref mq3, .ref mq4, .ref mq6, .ref mq8, .ref mq22]))] sz) := by
  refine Met.ofW (cc := cX24_trim) (maxL := 2) (ret := (Option.some Jvm.ClassFile.FieldType.int)) (by decide) rfl ?_
  intro p e s m args below meth c s₁ B hml hv
  obtain ⟨rfl, hsz, hP, hK, hD0, hE⟩ := hv
  have hx := B.exec
  have hb := B.bytes
  have hr := B.returns
  have hts0 := atoms_spec (ws := wz yX24_trim cX24_trim 2 (Option.some Jvm.ClassFile.FieldType.int)) B.pre
  have hts : ∀ w ∈ gw, w.before _ s = true := fun w h => hts0 w (List.mem_cons_of_mem _ h)
  have hown : s.vm.findClass RX24 = some m.cls := findClass_of_methodNamed B.named
  have hlocks := B.notSynchronized
  subst hsz
  have hD := hD0.self (sz := s.heap.size)
  generalize hAe : va_A [(mx, .inr (15, [.ref mq1, .int 0, .int (-1), .int 0, .ref mq3, .ref mq4, .ref mq6, .ref mq8, .ref mq22]))] s.heap.size = A at hD hE ⊢
  have hA : ∀ q : Nat, s.heap.size ≤ q → A q := fun q h => by rw [← hAe]; exact Or.inr h
  have hS : va_S A s.heap s.heap [] := va_S.rf
  have hP : va_P (dC, dI) cls [(mx, .inr (15, [.ref mq1, .int 0, .int (-1), .int 0, .ref mq3, .ref mq4, .ref mq6, .ref mq8, .ref mq22]))] s.heap := hP
  have hl := lv_entry ([.ref mx, .int p0]) (n := 2) (Nat.le_of_ble_eq_true rfl)
  rw [lg_entry_eq]
  generalize (lg_sl ([.ref mx, .int p0]) ++ List.replicate (2 - (lg_sl ([.ref mx, .int p0])).length) Slot.unset).toArray = ls at hl ⊢
  have hl : lv_has ls 2 [(0, .ref mx), (1, .int p0)] := hl
  refine lv_aload_n hx hb dX24_trim_0 rfl (lv_at hl 0 rfl) ?_
  refine lv_iconst (v := 0) hx hb dX24_trim_1 (by decide) ?_
  refine va_put (D := (dC, dI)) (ci := 15) (v := .int 0) (ty := .int) (C := RX24) (T := TX24) (N := 9) hx hb hts i_X24 tyX24 tyX24_ok nmX24 hown hK hP hD hS 0 rfl rfl 3 (by decide) (hts _ qw428) (fun _ h9 => h9) rfl (by decide +kernel) rfl rfl (Nat.le_of_ble_eq_true rfl) dX24_trim_2 (fun H locs hP hD hS => ?_)
  have hP : va_P (dC, dI) cls [(mx, .inr (15, [.ref mq1, .int 0, .int (-1), .int 0, .ref mq3, .ref mq4, .ref mq6, .ref mq8, .ref mq22]))] H := hP
  have hD : va_D A [(mx, .inr (15, [.ref mq1, .int 0, .int (-1), .int 0, .ref mq3, .ref mq4, .ref mq6, .ref mq8, .ref mq22]))] := hD
  refine lv_iload_n hx hb dX24_trim_5 rfl (lv_at hl 1 rfl) ?_
  refine lv_if_lt (tgt := 17) hx hb dX24_trim_6 (by decide) (fun c => absurd c h1) (fun _ => ?_)
  refine lv_iload_n hx hb dX24_trim_9 rfl (lv_at hl 1 rfl) ?_
  refine lv_aload_n hx hb dX24_trim_10 rfl (lv_at hl 0 rfl) ?_
  refine va_get (D := (dC, dI)) (ci := 15) (v := .int 0) (C := RX24) (T := TX24) (N := 9) hx hb hts i_X24 hown hK hP 0 rfl rfl 1 (by decide) (hts _ qw429) (fun _ h9 => h9) rfl dX24_trim_11 ?_
  refine lv_icmp_le (tgt := 23) hx hb dX24_trim_14 (by decide) (fun _ => ?_) (fun c => absurd (Int32.not_lt.mp h2) c)
  refine lv_aload_n hx hb dX24_trim_23 rfl (lv_at hl 0 rfl) ?_
  refine lv_iload_n hx hb dX24_trim_24 rfl (lv_at hl 1 rfl) ?_
  refine va_put (D := (dC, dI)) (ci := 15) (v := .int p0) (ty := .int) (C := RX24) (T := TX24) (N := 9) hx hb hts i_X24 tyX24 tyX24_ok nmX24 hown hK hP hD hS 0 rfl rfl 1 (by decide) (hts _ qw429) (fun _ h9 => h9) rfl (by decide +kernel) rfl rfl (Nat.le_of_ble_eq_true rfl) dX24_trim_25 (fun H locs hP hD hS => ?_)
  have hP : va_P (dC, dI) cls [(mx, .inr (15, [.ref mq1, .int p0, .int (-1), .int 0, .ref mq3, .ref mq4, .ref mq6, .ref mq8, .ref mq22]))] H := hP
  have hD : va_D A [(mx, .inr (15, [.ref mq1, .int p0, .int (-1), .int 0, .ref mq3, .ref mq4, .ref mq6, .ref mq8, .ref mq22]))] := hD
  refine lv_iload_n hx hb dX24_trim_28 rfl (lv_at hl 1 rfl) ?_
  have hP9 : va_P (dC, dI) cls [(mx, .inr (15, [.ref mq1, .int p0, .int (-1), .int 0, .ref mq3, .ref mq4, .ref mq6, .ref mq8, .ref mq22]))] H := hP.sub [0] rfl
  have hD9 : va_D A [(mx, .inr (15, [.ref mq1, .int p0, .int (-1), .int 0, .ref mq3, .ref mq4, .ref mq6, .ref mq8, .ref mq22]))] := hD.sub [0] (by decide) rfl
  have hK9 : va_K (dC, dI) cls [] s := hK.sub [] rfl
  exact W.iret (v := p0) hx hb hr (fun t ht hW => ⟨⟨p0, (), rfl, rfl, ⟨by rw [ht]; exact hP9, va_K.moved hW.alike hK9, hD9⟩⟩, hS.F ht⟩) hS.2.2 dX24_trim_29
set_option maxHeartbeats 4000000 in
set_option maxRecDepth 100000 in
/-- GearboxModel.ok, from the state that its caller has -/
theorem kX24_ok_n40 {zs : Nat × Nat} (l : Launch) (dC : Nat → ClassId) (dI : Nat → Nat → Nat) (a0 : Nat) (a1 : Nat) (a2 : Nat) (a3 : Nat) (a4 : Nat) (a5 : Nat) (a6 : Nat) (sz : Nat)  : Met l yX24_ok (wz yX24_ok cX24_ok 2 (Option.some Jvm.ClassFile.FieldType.int)) ({ frames := 0, cells := 0, slots := 0, locals := 0 }) (va_Pc [.ref a0, .int (-1)] (PRE zs dC dI [(a0, .inr (15, [.ref a1, .int 0, .int (-1), .int 0, .ref a2, .ref a3, .ref a4, .ref a5, .ref a6]))] [] sz)) (va_Qi (fun (r : Int32) (_ : Unit) => r = (-1)) (fun _ t => POST dC dI [(a0, .inr (15, [.ref a1, .int 0, .int (-1), .int 0, .ref a2, .ref a3, .ref a4, .ref a5, .ref a6]))] [] (va_A [(a0, .inr (15, [.ref a1, .int 0, .int (-1), .int 0, .ref a2, .ref a3, .ref a4, .ref a5, .ref a6]))] sz) t) (va_A [(a0, .inr (15, [.ref a1, .int 0, .int (-1), .int 0, .ref a2, .ref a3, .ref a4, .ref a5, .ref a6]))] sz)) 0 0 (va_A [(a0, .inr (15, [.ref a1, .int 0, .int (-1), .int 0, .ref a2, .ref a3, .ref a4, .ref a5, .ref a6]))] sz) := by
  refine Met.ofW (cc := cX24_ok) (maxL := 2) (ret := (Option.some Jvm.ClassFile.FieldType.int)) (by decide) rfl ?_
  intro p e s m args below meth c s₁ B hml hv
  obtain ⟨rfl, hsz, hP, hK, hD0, hE⟩ := hv
  have hx := B.exec
  have hb := B.bytes
  have hr := B.returns
  have hts0 := atoms_spec (ws := wz yX24_ok cX24_ok 2 (Option.some Jvm.ClassFile.FieldType.int)) B.pre
  have hts : ∀ w ∈ gw, w.before _ s = true := fun w h => hts0 w (List.mem_cons_of_mem _ h)
  have hown : s.vm.findClass RX24 = some m.cls := findClass_of_methodNamed B.named
  have hlocks := B.notSynchronized
  subst hsz
  have hD := hD0.self (sz := s.heap.size)
  generalize hAe : va_A [(a0, .inr (15, [.ref a1, .int 0, .int (-1), .int 0, .ref a2, .ref a3, .ref a4, .ref a5, .ref a6]))] s.heap.size = A at hD hE ⊢
  have hA : ∀ q : Nat, s.heap.size ≤ q → A q := fun q h => by rw [← hAe]; exact Or.inr h
  have hS : va_S A s.heap s.heap [] := va_S.rf
  have hP : va_P (dC, dI) cls [(a0, .inr (15, [.ref a1, .int 0, .int (-1), .int 0, .ref a2, .ref a3, .ref a4, .ref a5, .ref a6]))] s.heap := hP
  have hl := lv_entry ([.ref a0, .int (-1)]) (n := 2) (Nat.le_of_ble_eq_true rfl)
  rw [lg_entry_eq]
  generalize (lg_sl ([.ref a0, .int (-1)]) ++ List.replicate (2 - (lg_sl ([.ref a0, .int (-1)])).length) Slot.unset).toArray = ls at hl ⊢
  have hl : lv_has ls 2 [(0, .ref a0), (1, .int (-1))] := hl
  refine lv_aload_n hx hb dX24_ok_0 rfl (lv_at hl 0 rfl) ?_
  refine lv_iconst (v := 0) hx hb dX24_ok_1 (by decide) ?_
  refine va_put (D := (dC, dI)) (ci := 15) (v := .int 0) (ty := .int) (C := RX24) (T := TX24) (N := 9) hx hb hts i_X24 tyX24 tyX24_ok nmX24 hown hK hP hD hS 0 rfl rfl 3 (by decide) (hts _ qw428) (fun _ h9 => h9) rfl (by decide +kernel) rfl rfl (Nat.le_of_ble_eq_true rfl) dX24_ok_2 (fun H locs hP hD hS => ?_)
  have hP : va_P (dC, dI) cls [(a0, .inr (15, [.ref a1, .int 0, .int (-1), .int 0, .ref a2, .ref a3, .ref a4, .ref a5, .ref a6]))] H := hP
  have hD : va_D A [(a0, .inr (15, [.ref a1, .int 0, .int (-1), .int 0, .ref a2, .ref a3, .ref a4, .ref a5, .ref a6]))] := hD
  refine lv_iload_n hx hb dX24_ok_5 rfl (lv_at hl 1 rfl) ?_
  have hP9 : va_P (dC, dI) cls [(a0, .inr (15, [.ref a1, .int 0, .int (-1), .int 0, .ref a2, .ref a3, .ref a4, .ref a5, .ref a6]))] H := hP.sub [0] rfl
  have hD9 : va_D A [(a0, .inr (15, [.ref a1, .int 0, .int (-1), .int 0, .ref a2, .ref a3, .ref a4, .ref a5, .ref a6]))] := hD.sub [0] (by decide) rfl
  have hK9 : va_K (dC, dI) cls [] s := hK.sub [] rfl
  exact W.iret (v := (-1)) hx hb hr (fun t ht hW => ⟨⟨(-1), (), rfl, rfl, ⟨by rw [ht]; exact hP9, va_K.moved hW.alike hK9, hD9⟩⟩, hS.F ht⟩) hS.2.2 dX24_ok_6
set_option maxHeartbeats 4000000 in
set_option maxRecDepth 100000 in
theorem kX24_errorAt {zs : Nat × Nat} (l : Launch) (dC : Nat → ClassId) (dI : Nat → Nat → Nat) (mx : Nat) (mq1 : Nat) (mq3 : Nat) (mq4 : Nat) (mq6 : Nat) (mq8 : Nat) (mq22 : Nat) (sz : Nat)  : Met l yX24_errorAt (wz yX24_errorAt cX24_errorAt 1 (Option.some Jvm.ClassFile.FieldType.int)) ({ frames := 1, cells := 0, slots := 0, locals := 21 }) (va_Pc [.ref mx] (PRE zs dC dI [(mx, .inr (15, [.ref mq1, .int 0, .int (-1), .int 0, .ref mq3, .ref mq4, .ref mq6, .ref mq8, .ref mq22]))] [] sz)) (va_Qi (fun (r : Int32) (_ : Unit) => r = (-1)) (fun _ t => POST dC dI [(mx, .inr (15, [.ref mq1, .int 0, .int (-1), .int 0, .ref mq3, .ref mq4, .ref mq6, .ref mq8, .ref mq22]))] [] (va_A [(mx, .inr (15, [.ref mq1, .int 0, .int (-1), .int 0, .ref mq3, .ref mq4, .ref mq6, .ref mq8, .ref mq22]))] sz) t) (va_A [(mx, .inr (15, [.ref mq1, .int 0, .int (-1), .int 0, .ref mq3, .ref mq4, .ref mq6, .ref mq8, .ref mq22]))] sz)) 0 0 (va_A [(mx, .inr (15, [.ref mq1, .int 0, .int (-1), .int 0, .ref mq3, .ref mq4, .ref mq6, .ref mq8, .ref mq22]))] sz) := by
  refine Met.ofW (cc := cX24_errorAt) (maxL := 1) (ret := (Option.some Jvm.ClassFile.FieldType.int)) (by decide) rfl ?_
  intro p e s m args below meth c s₁ B hml hv
  obtain ⟨rfl, hsz, hP, hK, hD0, hE⟩ := hv
  have hx := B.exec
  have hb := B.bytes
  have hr := B.returns
  have hts0 := atoms_spec (ws := wz yX24_errorAt cX24_errorAt 1 (Option.some Jvm.ClassFile.FieldType.int)) B.pre
  have hts : ∀ w ∈ gw, w.before _ s = true := fun w h => hts0 w (List.mem_cons_of_mem _ h)
  have hown : s.vm.findClass RX24 = some m.cls := findClass_of_methodNamed B.named
  have hlocks := B.notSynchronized
  subst hsz
  have hD := hD0.self (sz := s.heap.size)
  generalize hAe : va_A [(mx, .inr (15, [.ref mq1, .int 0, .int (-1), .int 0, .ref mq3, .ref mq4, .ref mq6, .ref mq8, .ref mq22]))] s.heap.size = A at hD hE ⊢
  have hA : ∀ q : Nat, s.heap.size ≤ q → A q := fun q h => by rw [← hAe]; exact Or.inr h
  have hS : va_S A s.heap s.heap [] := va_S.rf
  have hP : va_P (dC, dI) cls [(mx, .inr (15, [.ref mq1, .int 0, .int (-1), .int 0, .ref mq3, .ref mq4, .ref mq6, .ref mq8, .ref mq22]))] s.heap := hP
  have hl := lv_entry ([.ref mx]) (n := 1) (Nat.le_of_ble_eq_true rfl)
  rw [lg_entry_eq]
  generalize (lg_sl ([.ref mx]) ++ List.replicate (1 - (lg_sl ([.ref mx])).length) Slot.unset).toArray = ls at hl ⊢
  have hl : lv_has ls 1 [(0, .ref mx)] := hl
  refine lv_aload_n hx hb dX24_errorAt_0 rfl (lv_at hl 0 rfl) ?_
  refine lv_aload_n hx hb dX24_errorAt_1 rfl (lv_at hl 0 rfl) ?_
  refine va_get (D := (dC, dI)) (ci := 15) (v := .int (-1)) (C := RX24) (T := TX24) (N := 9) hx hb hts i_X24 hown hK hP 0 rfl rfl 2 (by decide) (hts _ qw382) (fun _ h9 => h9) rfl dX24_errorAt_2 ?_
  have hPc := hP.sub (ws' := [(mx, .inr (15, [.ref mq1, .int 0, .int (-1), .int 0, .ref mq3, .ref mq4, .ref mq6, .ref mq8, .ref mq22]))]) [0] rfl
  have hDc := hD.sub (ws' := [(mx, .inr (15, [.ref mq1, .int 0, .int (-1), .int 0, .ref mq3, .ref mq4, .ref mq6, .ref mq8, .ref mq22]))]) [0] (by decide) rfl
  have hKc := hK.sub (tys' := []) [] rfl
  have hFc := va_free (wc := [(mx, .inr (15, [.ref mq1, .int 0, .int (-1), .int 0, .ref mq3, .ref mq4, .ref mq6, .ref mq8, .ref mq22]))]) hD hS hA [0] rfl
  refine va_calli (va_runV (As := [.int (-1)]) (rest := []) ⟨hx, hb, hml, hown, hts⟩ (kX24_ok_n40 l dC dI (a0 := mx) (a1 := mq1) (a2 := mq3) (a3 := mq4) (a4 := mq6) (a5 := mq8) (a6 := mq22) (sz := _)) (cwV 1 hts (gi_V qw440 qw441 qw442 qw434 (gi_z qw439)) rfl rfl rfl (by decide +kernel) ⟨Nat.le_of_ble_eq_true rfl, Nat.le_of_ble_eq_true rfl⟩) ⟨PRE.blind, va_recv hKc hPc (ci := 15) (q0 := 0) rfl rfl, PRE.of hE hS hFc hPc hKc hDc⟩ rfl rfl hl.1 rfl (lv_room (Nat.le_of_ble_eq_true rfl)) dX24_errorAt_5 ⟨Nat.le_of_ble_eq_true rfl, Nat.le_of_ble_eq_true rfl⟩) hS (fun q _ h => hFc q h) hFc (fun r1 u t H locs ht hvm hw hB hz1 hk1 hS => ?_)
  obtain ⟨hP, hD, hK⟩ := JOIN (wr := []) hP hD hK [0] [] [] rfl rfl (by decide) (by decide) rfl hk1 hFc ht hvm hB
  have hP : va_P (dC, dI) cls [(mx, .inr (15, [.ref mq1, .int 0, .int (-1), .int 0, .ref mq3, .ref mq4, .ref mq6, .ref mq8, .ref mq22]))] H := hP
  have hD : va_D A [(mx, .inr (15, [.ref mq1, .int 0, .int (-1), .int 0, .ref mq3, .ref mq4, .ref mq6, .ref mq8, .ref mq22]))] := hD
  have hK : va_K (dC, dI) cls [] s := hK
  refine W.widen (k := 0) (n := 0) (Nat.le_of_ble_eq_true rfl) (Nat.le_of_ble_eq_true rfl) ?_
  obtain rfl : r1 = (-1) := hw
  have hP9 : va_P (dC, dI) cls [(mx, .inr (15, [.ref mq1, .int 0, .int (-1), .int 0, .ref mq3, .ref mq4, .ref mq6, .ref mq8, .ref mq22]))] H := hP.sub [0] rfl
  have hD9 : va_D A [(mx, .inr (15, [.ref mq1, .int 0, .int (-1), .int 0, .ref mq3, .ref mq4, .ref mq6, .ref mq8, .ref mq22]))] := hD.sub [0] (by decide) rfl
  have hK9 : va_K (dC, dI) cls [] s := hK.sub [] rfl
  exact W.iret (v := (-1)) hx hb hr (fun t ht hW => ⟨⟨(-1), (), rfl, rfl, ⟨by rw [ht]; exact hP9, va_K.moved hW.alike hK9, hD9⟩⟩, hS.F ht⟩) hS.2.2 dX24_errorAt_8
set_option maxHeartbeats 4000000 in
set_option maxRecDepth 100000 in
theorem kX24_restore {zs : Nat × Nat} (l : Launch) (dC : Nat → ClassId) (dI : Nat → Nat → Nat) (mx : Nat) (mq1 : Nat) (mq3 : Nat) (mq4 : Nat) (mc5 : ClassId) (mq6 : Nat) (mq8 : Nat) (mq22 : Nat) (sz : Nat)  : Met l yX24_restore (wz yX24_restore cX24_restore 3 (Option.some Jvm.ClassFile.FieldType.int)) ({ frames := 0, cells := 1, slots := 0, locals := 0 }) (va_Pc [.ref mx] (PRE zs dC dI [(mx, .inr (15, [.ref mq1, .int 0, .int (-1), .int 0, .ref mq3, .ref mq4, .ref mq6, .ref mq8, .ref mq22])), (mq4, .inl (mc5, 0, .inr (.inr (.inr (.inr (fun _ => none))))))] [(mc5, .object RX14)] sz)) (va_Qi (fun (r : Int32) (_ : Unit) => r = 0) (fun _ t => ∃ (q1 : Nat), POST dC dI [(mx, .inr (15, [.ref mq1, .int 0, .int (-1), .int 0, .ref mq3, .ref mq4, .ref q1, .ref mq8, .ref mq22]))] [] (va_A [(mx, .inr (15, [.ref mq1, .int 0, .int (-1), .int 0, .ref mq3, .ref mq4, .ref mq6, .ref mq8, .ref mq22])), (mq4, .inl (mc5, 0, .inr (.inr (.inr (.inr (fun _ => none))))))] sz) t) (va_A [(mx, .inr (15, [.ref mq1, .int 0, .int (-1), .int 0, .ref mq3, .ref mq4, .ref mq6, .ref mq8, .ref mq22])), (mq4, .inl (mc5, 0, .inr (.inr (.inr (.inr (fun _ => none))))))] sz)) 1 0 (va_A [(mx, .inr (15, [.ref mq1, .int 0, .int (-1), .int 0, .ref mq3, .ref mq4, .ref mq6, .ref mq8, .ref mq22])), (mq4, .inl (mc5, 0, .inr (.inr (.inr (.inr (fun _ => none))))))] sz) := by
  refine Met.ofW (cc := cX24_restore) (maxL := 3) (ret := (Option.some Jvm.ClassFile.FieldType.int)) (by decide) rfl ?_
  intro p e s m args below meth c s₁ B hml hv
  obtain ⟨rfl, hsz, hP, hK, hD0, hE⟩ := hv
  have hx := B.exec
  have hb := B.bytes
  have hr := B.returns
  have hts0 := atoms_spec (ws := wz yX24_restore cX24_restore 3 (Option.some Jvm.ClassFile.FieldType.int)) B.pre
  have hts : ∀ w ∈ gw, w.before _ s = true := fun w h => hts0 w (List.mem_cons_of_mem _ h)
  have hown : s.vm.findClass RX24 = some m.cls := findClass_of_methodNamed B.named
  have hlocks := B.notSynchronized
  subst hsz
  have hD := hD0.self (sz := s.heap.size)
  generalize hAe : va_A [(mx, .inr (15, [.ref mq1, .int 0, .int (-1), .int 0, .ref mq3, .ref mq4, .ref mq6, .ref mq8, .ref mq22])), (mq4, .inl (mc5, 0, .inr (.inr (.inr (.inr (fun _ => none))))))] s.heap.size = A at hD hE ⊢
  have hA : ∀ q : Nat, s.heap.size ≤ q → A q := fun q h => by rw [← hAe]; exact Or.inr h
  have hS : va_S A s.heap s.heap [] := va_S.rf
  have hP : va_P (dC, dI) cls [(mx, .inr (15, [.ref mq1, .int 0, .int (-1), .int 0, .ref mq3, .ref mq4, .ref mq6, .ref mq8, .ref mq22])), (mq4, .inl (mc5, 0, .inr (.inr (.inr (.inr (fun _ => none))))))] s.heap := hP
  have hl := lv_entry ([.ref mx]) (n := 3) (Nat.le_of_ble_eq_true rfl)
  rw [lg_entry_eq]
  generalize (lg_sl ([.ref mx]) ++ List.replicate (3 - (lg_sl ([.ref mx])).length) Slot.unset).toArray = ls at hl ⊢
  have hl : lv_has ls 3 [(0, .ref mx)] := hl
  refine lv_aload_n hx hb dX24_restore_0 rfl (lv_at hl 0 rfl) ?_
  refine lv_iconst (v := 0) hx hb dX24_restore_1 (by decide) ?_
  refine va_put (D := (dC, dI)) (ci := 15) (v := .int 0) (ty := .int) (C := RX24) (T := TX24) (N := 9) hx hb hts i_X24 tyX24 tyX24_ok nmX24 hown hK hP hD hS 0 rfl rfl 3 (by decide) (hts _ qw428) (fun _ h9 => h9) rfl (by decide +kernel) rfl rfl (Nat.le_of_ble_eq_true rfl) dX24_restore_2 (fun H locs hP hD hS => ?_)
  have hP : va_P (dC, dI) cls [(mx, .inr (15, [.ref mq1, .int 0, .int (-1), .int 0, .ref mq3, .ref mq4, .ref mq6, .ref mq8, .ref mq22])), (mq4, .inl (mc5, 0, .inr (.inr (.inr (.inr (fun _ => none))))))] H := hP
  have hD : va_D A [(mx, .inr (15, [.ref mq1, .int 0, .int (-1), .int 0, .ref mq3, .ref mq4, .ref mq6, .ref mq8, .ref mq22])), (mq4, .inl (mc5, 0, .inr (.inr (.inr (.inr (fun _ => none))))))] := hD
  refine lv_iconst (v := 0) hx hb dX24_restore_5 (by decide) ?_
  refine lv_istore_n (lv' := [(1, .int 0), (0, .ref mx)]) hx hb dX24_restore_6 rfl hl (by decide) rfl (fun ls hl => ?_)
  refine lv_aload_n hx hb dX24_restore_7 rfl (lv_at hl 1 rfl) ?_
  refine lv_iconst (v := 0) hx hb dX24_restore_8 (by decide) ?_
  refine va_newq hx hb hown (hts _ qw391) (hE.2.1 _ (List.mem_append_right _ (tbl_12 (i := 12) rfl))) hK hP hD hS hA (n := 0) (N' := 0) (by decide) (by decide +kernel) (Nat.le_of_ble_eq_true rfl) (Nat.le_of_ble_eq_true rfl) (Nat.le_of_ble_eq_true rfl) dX24_restore_9 (fun q1 c2 H hK hP hD hS => ?_)
  have hP : va_P (dC, dI) cls [(mx, .inr (15, [.ref mq1, .int 0, .int (-1), .int 0, .ref mq3, .ref mq4, .ref mq6, .ref mq8, .ref mq22])), (mq4, .inl (mc5, 0, .inr (.inr (.inr (.inr (fun _ => none)))))), (q1, .inl (c2, 0, .inr (.inr (.inr (.inr (fun _ => none))))))] H := hP
  have hD : va_D A [(mx, .inr (15, [.ref mq1, .int 0, .int (-1), .int 0, .ref mq3, .ref mq4, .ref mq6, .ref mq8, .ref mq22])), (mq4, .inl (mc5, 0, .inr (.inr (.inr (.inr (fun _ => none)))))), (q1, .inl (c2, 0, .inr (.inr (.inr (.inr (fun _ => none))))))] := hD
  have hK : va_K (dC, dI) cls [(mc5, .object RX14), (c2, .object RX13)] s := hK
  refine W.widen (k := 1) (n := 0) (Nat.le_of_ble_eq_true rfl) (Nat.le_of_ble_eq_true rfl) ?_
  refine va_put (D := (dC, dI)) (ci := 15) (v := .ref q1) (ty := .array (.object "GearboxModel$Code")) (C := RX24) (T := TX24) (N := 9) hx hb hts i_X24 tyX24 tyX24_ok nmX24 hown hK hP hD hS 0 rfl rfl 6 (by decide) (hts _ qw392) (fun _ h9 => h9) rfl (by decide +kernel) rfl rfl (Nat.le_of_ble_eq_true rfl) dX24_restore_12 (fun H locs hP hD hS => ?_)
  have hP : va_P (dC, dI) cls [(mx, .inr (15, [.ref mq1, .int 0, .int (-1), .int 0, .ref mq3, .ref mq4, .ref q1, .ref mq8, .ref mq22])), (mq4, .inl (mc5, 0, .inr (.inr (.inr (.inr (fun _ => none)))))), (q1, .inl (c2, 0, .inr (.inr (.inr (.inr (fun _ => none))))))] H := hP
  have hD : va_D A [(mx, .inr (15, [.ref mq1, .int 0, .int (-1), .int 0, .ref mq3, .ref mq4, .ref q1, .ref mq8, .ref mq22])), (mq4, .inl (mc5, 0, .inr (.inr (.inr (.inr (fun _ => none)))))), (q1, .inl (c2, 0, .inr (.inr (.inr (.inr (fun _ => none))))))] := hD
  refine lv_iconst (v := 0) hx hb dX24_restore_15 (by decide) ?_
  refine lv_istore_n (lv' := [(2, .int 0), (1, .int 0), (0, .ref mx)]) hx hb dX24_restore_16 rfl hl (by decide) rfl (fun ls hl => ?_)
  refine lv_iload_n hx hb dX24_restore_17 rfl (lv_at hl 0 rfl) ?_
  refine lv_aload_n hx hb dX24_restore_18 rfl (lv_at hl 2 rfl) ?_
  refine va_get (D := (dC, dI)) (ci := 15) (v := .ref mq4) (C := RX24) (T := TX24) (N := 9) hx hb hts i_X24 hown hK hP 0 rfl rfl 5 (by decide) (hts _ qw390) (fun _ h9 => h9) rfl dX24_restore_19 ?_
  refine va_alen (v := 0) hx hb hK hP 1 0 rfl rfl (by decide) dX24_restore_22 ?_
  refine lv_icmp_ge (tgt := 58) hx hb dX24_restore_23 (by decide) (fun _ => ?_) (fun c => absurd (by decide) c)
  refine lv_iload_n hx hb dX24_restore_58 rfl (lv_at hl 1 rfl) ?_
  have hP9 : va_P (dC, dI) cls [(mx, .inr (15, [.ref mq1, .int 0, .int (-1), .int 0, .ref mq3, .ref mq4, .ref q1, .ref mq8, .ref mq22]))] H := hP.sub [0] rfl
  have hD9 : va_D A [(mx, .inr (15, [.ref mq1, .int 0, .int (-1), .int 0, .ref mq3, .ref mq4, .ref q1, .ref mq8, .ref mq22]))] := hD.sub [0] (by decide) rfl
  have hK9 : va_K (dC, dI) cls [] s := hK.sub [] rfl
  exact W.iret (v := 0) hx hb hr (fun t ht hW => ⟨⟨0, (), rfl, rfl, ⟨q1, ⟨by rw [ht]; exact hP9, va_K.moved hW.alike hK9, hD9⟩⟩⟩, hS.F ht⟩) hS.2.2 dX24_restore_59
set_option maxHeartbeats 4000000 in
set_option maxRecDepth 100000 in
/-- GearboxModel.ok, from the state that its caller has -/
theorem kX24_ok_n41 {zs : Nat × Nat} (l : Launch) (dC : Nat → ClassId) (dI : Nat → Nat → Nat) (a0 : Nat) (a1 : Nat) (a2 : Nat) (a3 : Nat) (a4 : Nat) (a5 : Nat) (a6 : Nat) (sz : Nat)  : Met l yX24_ok (wz yX24_ok cX24_ok 2 (Option.some Jvm.ClassFile.FieldType.int)) ({ frames := 0, cells := 0, slots := 0, locals := 0 }) (va_Pc [.ref a0, .int 0] (PRE zs dC dI [(a0, .inr (15, [.ref a1, .int 0, .int (-1), .int 0, .ref a2, .ref a3, .ref a4, .ref a5, .ref a6]))] [] sz)) (va_Qi (fun (r : Int32) (_ : Unit) => r = 0) (fun _ t => POST dC dI [(a0, .inr (15, [.ref a1, .int 0, .int (-1), .int 0, .ref a2, .ref a3, .ref a4, .ref a5, .ref a6]))] [] (va_A [(a0, .inr (15, [.ref a1, .int 0, .int (-1), .int 0, .ref a2, .ref a3, .ref a4, .ref a5, .ref a6]))] sz) t) (va_A [(a0, .inr (15, [.ref a1, .int 0, .int (-1), .int 0, .ref a2, .ref a3, .ref a4, .ref a5, .ref a6]))] sz)) 0 0 (va_A [(a0, .inr (15, [.ref a1, .int 0, .int (-1), .int 0, .ref a2, .ref a3, .ref a4, .ref a5, .ref a6]))] sz) := by
  refine Met.ofW (cc := cX24_ok) (maxL := 2) (ret := (Option.some Jvm.ClassFile.FieldType.int)) (by decide) rfl ?_
  intro p e s m args below meth c s₁ B hml hv
  obtain ⟨rfl, hsz, hP, hK, hD0, hE⟩ := hv
  have hx := B.exec
  have hb := B.bytes
  have hr := B.returns
  have hts0 := atoms_spec (ws := wz yX24_ok cX24_ok 2 (Option.some Jvm.ClassFile.FieldType.int)) B.pre
  have hts : ∀ w ∈ gw, w.before _ s = true := fun w h => hts0 w (List.mem_cons_of_mem _ h)
  have hown : s.vm.findClass RX24 = some m.cls := findClass_of_methodNamed B.named
  have hlocks := B.notSynchronized
  subst hsz
  have hD := hD0.self (sz := s.heap.size)
  generalize hAe : va_A [(a0, .inr (15, [.ref a1, .int 0, .int (-1), .int 0, .ref a2, .ref a3, .ref a4, .ref a5, .ref a6]))] s.heap.size = A at hD hE ⊢
  have hA : ∀ q : Nat, s.heap.size ≤ q → A q := fun q h => by rw [← hAe]; exact Or.inr h
  have hS : va_S A s.heap s.heap [] := va_S.rf
  have hP : va_P (dC, dI) cls [(a0, .inr (15, [.ref a1, .int 0, .int (-1), .int 0, .ref a2, .ref a3, .ref a4, .ref a5, .ref a6]))] s.heap := hP
  have hl := lv_entry ([.ref a0, .int 0]) (n := 2) (Nat.le_of_ble_eq_true rfl)
  rw [lg_entry_eq]
  generalize (lg_sl ([.ref a0, .int 0]) ++ List.replicate (2 - (lg_sl ([.ref a0, .int 0])).length) Slot.unset).toArray = ls at hl ⊢
  have hl : lv_has ls 2 [(0, .ref a0), (1, .int 0)] := hl
  refine lv_aload_n hx hb dX24_ok_0 rfl (lv_at hl 0 rfl) ?_
  refine lv_iconst (v := 0) hx hb dX24_ok_1 (by decide) ?_
  refine va_put (D := (dC, dI)) (ci := 15) (v := .int 0) (ty := .int) (C := RX24) (T := TX24) (N := 9) hx hb hts i_X24 tyX24 tyX24_ok nmX24 hown hK hP hD hS 0 rfl rfl 3 (by decide) (hts _ qw428) (fun _ h9 => h9) rfl (by decide +kernel) rfl rfl (Nat.le_of_ble_eq_true rfl) dX24_ok_2 (fun H locs hP hD hS => ?_)
  have hP : va_P (dC, dI) cls [(a0, .inr (15, [.ref a1, .int 0, .int (-1), .int 0, .ref a2, .ref a3, .ref a4, .ref a5, .ref a6]))] H := hP
  have hD : va_D A [(a0, .inr (15, [.ref a1, .int 0, .int (-1), .int 0, .ref a2, .ref a3, .ref a4, .ref a5, .ref a6]))] := hD
  refine lv_iload_n hx hb dX24_ok_5 rfl (lv_at hl 1 rfl) ?_
  have hP9 : va_P (dC, dI) cls [(a0, .inr (15, [.ref a1, .int 0, .int (-1), .int 0, .ref a2, .ref a3, .ref a4, .ref a5, .ref a6]))] H := hP.sub [0] rfl
  have hD9 : va_D A [(a0, .inr (15, [.ref a1, .int 0, .int (-1), .int 0, .ref a2, .ref a3, .ref a4, .ref a5, .ref a6]))] := hD.sub [0] (by decide) rfl
  have hK9 : va_K (dC, dI) cls [] s := hK.sub [] rfl
  exact W.iret (v := 0) hx hb hr (fun t ht hW => ⟨⟨0, (), rfl, rfl, ⟨by rw [ht]; exact hP9, va_K.moved hW.alike hK9, hD9⟩⟩, hS.F ht⟩) hS.2.2 dX24_ok_6
set_option maxHeartbeats 4000000 in
set_option maxRecDepth 100000 in
theorem kX24_functions {zs : Nat × Nat} (l : Launch) (dC : Nat → ClassId) (dI : Nat → Nat → Nat) (mx : Nat) (mq1 : Nat) (mq3 : Nat) (mq4 : Nat) (mc5 : ClassId) (mq6 : Nat) (mq8 : Nat) (mq22 : Nat) (sz : Nat)  : Met l yX24_functions (wz yX24_functions cX24_functions 1 (Option.some Jvm.ClassFile.FieldType.int)) ({ frames := 1, cells := 0, slots := 0, locals := 21 }) (va_Pc [.ref mx] (PRE zs dC dI [(mx, .inr (15, [.ref mq1, .int 0, .int (-1), .int 0, .ref mq3, .ref mq4, .ref mq6, .ref mq8, .ref mq22])), (mq4, .inl (mc5, 0, .inr (.inr (.inr (.inr (fun _ => none))))))] [(mc5, .object RX14)] sz)) (va_Qi (fun (r : Int32) (_ : Unit) => r = 0) (fun _ t => POST dC dI [(mx, .inr (15, [.ref mq1, .int 0, .int (-1), .int 0, .ref mq3, .ref mq4, .ref mq6, .ref mq8, .ref mq22]))] [] (va_A [(mx, .inr (15, [.ref mq1, .int 0, .int (-1), .int 0, .ref mq3, .ref mq4, .ref mq6, .ref mq8, .ref mq22])), (mq4, .inl (mc5, 0, .inr (.inr (.inr (.inr (fun _ => none))))))] sz) t) (va_A [(mx, .inr (15, [.ref mq1, .int 0, .int (-1), .int 0, .ref mq3, .ref mq4, .ref mq6, .ref mq8, .ref mq22])), (mq4, .inl (mc5, 0, .inr (.inr (.inr (.inr (fun _ => none))))))] sz)) 0 0 (va_A [(mx, .inr (15, [.ref mq1, .int 0, .int (-1), .int 0, .ref mq3, .ref mq4, .ref mq6, .ref mq8, .ref mq22])), (mq4, .inl (mc5, 0, .inr (.inr (.inr (.inr (fun _ => none))))))] sz) := by
  refine Met.ofW (cc := cX24_functions) (maxL := 1) (ret := (Option.some Jvm.ClassFile.FieldType.int)) (by decide) rfl ?_
  intro p e s m args below meth c s₁ B hml hv
  obtain ⟨rfl, hsz, hP, hK, hD0, hE⟩ := hv
  have hx := B.exec
  have hb := B.bytes
  have hr := B.returns
  have hts0 := atoms_spec (ws := wz yX24_functions cX24_functions 1 (Option.some Jvm.ClassFile.FieldType.int)) B.pre
  have hts : ∀ w ∈ gw, w.before _ s = true := fun w h => hts0 w (List.mem_cons_of_mem _ h)
  have hown : s.vm.findClass RX24 = some m.cls := findClass_of_methodNamed B.named
  have hlocks := B.notSynchronized
  subst hsz
  have hD := hD0.self (sz := s.heap.size)
  generalize hAe : va_A [(mx, .inr (15, [.ref mq1, .int 0, .int (-1), .int 0, .ref mq3, .ref mq4, .ref mq6, .ref mq8, .ref mq22])), (mq4, .inl (mc5, 0, .inr (.inr (.inr (.inr (fun _ => none))))))] s.heap.size = A at hD hE ⊢
  have hA : ∀ q : Nat, s.heap.size ≤ q → A q := fun q h => by rw [← hAe]; exact Or.inr h
  have hS : va_S A s.heap s.heap [] := va_S.rf
  have hP : va_P (dC, dI) cls [(mx, .inr (15, [.ref mq1, .int 0, .int (-1), .int 0, .ref mq3, .ref mq4, .ref mq6, .ref mq8, .ref mq22])), (mq4, .inl (mc5, 0, .inr (.inr (.inr (.inr (fun _ => none))))))] s.heap := hP
  have hl := lv_entry ([.ref mx]) (n := 1) (Nat.le_of_ble_eq_true rfl)
  rw [lg_entry_eq]
  generalize (lg_sl ([.ref mx]) ++ List.replicate (1 - (lg_sl ([.ref mx])).length) Slot.unset).toArray = ls at hl ⊢
  have hl : lv_has ls 1 [(0, .ref mx)] := hl
  refine lv_aload_n hx hb dX24_functions_0 rfl (lv_at hl 0 rfl) ?_
  refine lv_aload_n hx hb dX24_functions_1 rfl (lv_at hl 0 rfl) ?_
  refine va_get (D := (dC, dI)) (ci := 15) (v := .ref mq4) (C := RX24) (T := TX24) (N := 9) hx hb hts i_X24 hown hK hP 0 rfl rfl 5 (by decide) (hts _ qw390) (fun _ h9 => h9) rfl dX24_functions_2 ?_
  refine va_alen (v := 0) hx hb hK hP 1 0 rfl rfl (by decide) dX24_functions_5 ?_
  have hPc := hP.sub (ws' := [(mx, .inr (15, [.ref mq1, .int 0, .int (-1), .int 0, .ref mq3, .ref mq4, .ref mq6, .ref mq8, .ref mq22]))]) [0] rfl
  have hDc := hD.sub (ws' := [(mx, .inr (15, [.ref mq1, .int 0, .int (-1), .int 0, .ref mq3, .ref mq4, .ref mq6, .ref mq8, .ref mq22]))]) [0] (by decide) rfl
  have hKc := hK.sub (tys' := []) [] rfl
  have hFc := va_free (wc := [(mx, .inr (15, [.ref mq1, .int 0, .int (-1), .int 0, .ref mq3, .ref mq4, .ref mq6, .ref mq8, .ref mq22]))]) hD hS hA [0] rfl
  refine va_calli (va_runV (As := [.int 0]) (rest := []) ⟨hx, hb, hml, hown, hts⟩ (kX24_ok_n41 l dC dI (a0 := mx) (a1 := mq1) (a2 := mq3) (a3 := mq4) (a4 := mq6) (a5 := mq8) (a6 := mq22) (sz := _)) (cwV 1 hts (gi_V qw440 qw441 qw442 qw434 (gi_z qw439)) rfl rfl rfl (by decide +kernel) ⟨Nat.le_of_ble_eq_true rfl, Nat.le_of_ble_eq_true rfl⟩) ⟨PRE.blind, va_recv hKc hPc (ci := 15) (q0 := 0) rfl rfl, PRE.of hE hS hFc hPc hKc hDc⟩ rfl rfl hl.1 rfl (lv_room (Nat.le_of_ble_eq_true rfl)) dX24_functions_6 ⟨Nat.le_of_ble_eq_true rfl, Nat.le_of_ble_eq_true rfl⟩) hS (fun q _ h => hFc q h) hFc (fun r1 u t H locs ht hvm hw hB hz1 hk1 hS => ?_)
  obtain ⟨hP, hD, hK⟩ := JOIN (wr := [(mq4, .inl (mc5, 0, .inr (.inr (.inr (.inr (fun _ => none))))))]) hP hD hK [0] [1] [0] rfl rfl (by decide) (by decide) rfl hk1 hFc ht hvm hB
  have hP : va_P (dC, dI) cls [(mq4, .inl (mc5, 0, .inr (.inr (.inr (.inr (fun _ => none)))))), (mx, .inr (15, [.ref mq1, .int 0, .int (-1), .int 0, .ref mq3, .ref mq4, .ref mq6, .ref mq8, .ref mq22]))] H := hP
  have hD : va_D A [(mq4, .inl (mc5, 0, .inr (.inr (.inr (.inr (fun _ => none)))))), (mx, .inr (15, [.ref mq1, .int 0, .int (-1), .int 0, .ref mq3, .ref mq4, .ref mq6, .ref mq8, .ref mq22]))] := hD
  have hK : va_K (dC, dI) cls [(mc5, .object RX14)] s := hK
  refine W.widen (k := 0) (n := 0) (Nat.le_of_ble_eq_true rfl) (Nat.le_of_ble_eq_true rfl) ?_
  obtain rfl : r1 = 0 := hw
  have hP9 : va_P (dC, dI) cls [(mx, .inr (15, [.ref mq1, .int 0, .int (-1), .int 0, .ref mq3, .ref mq4, .ref mq6, .ref mq8, .ref mq22]))] H := hP.sub [1] rfl
  have hD9 : va_D A [(mx, .inr (15, [.ref mq1, .int 0, .int (-1), .int 0, .ref mq3, .ref mq4, .ref mq6, .ref mq8, .ref mq22]))] := hD.sub [1] (by decide) rfl
  have hK9 : va_K (dC, dI) cls [] s := hK.sub [] rfl
  exact W.iret (v := 0) hx hb hr (fun t ht hW => ⟨⟨0, (), rfl, rfl, ⟨by rw [ht]; exact hP9, va_K.moved hW.alike hK9, hD9⟩⟩, hS.F ht⟩) hS.2.2 dX24_functions_9
set_option maxHeartbeats 4000000 in
set_option maxRecDepth 100000 in
/-- GearboxModel.passAll, from the state that its caller has -/
theorem kX24_passAll_n42 {zs : Nat × Nat} (l : Launch) (dC : Nat → ClassId) (dI : Nat → Nat → Nat) (a0 : Nat) (a1 : Nat) (a2 : Nat) (a3 : Nat) (a4 : Nat) (a5 : Nat) (a6 : Nat) (k8 : ClassId) (sz : Nat)  : Met l yX24_passAll (wz yX24_passAll cX24_passAll 7 (Option.some Jvm.ClassFile.FieldType.int)) ({ frames := 0, cells := 0, slots := 0, locals := 0 }) (va_Pc [.ref a0, .int 0] (PRE zs dC dI [(a0, .inr (15, [.ref a1, .int 0, .int (-1), .int 0, .ref a2, .ref a3, .ref a4, .ref a5, .ref a6])), (a3, .inl (k8, 0, .inr (.inr (.inr (.inr (fun _ => none))))))] [(k8, .object RX14)] sz)) (va_Qi (fun (r : Int32) (_ : Unit) => r = 0) (fun _ t => POST dC dI [(a0, .inr (15, [.ref a1, .int 0, .int (-1), .int 0, .ref a2, .ref a3, .ref a4, .ref a5, .ref a6])), (a3, .inl (k8, 0, .inr (.inr (.inr (.inr (fun _ => none))))))] [(k8, .object RX14)] (va_A [(a0, .inr (15, [.ref a1, .int 0, .int (-1), .int 0, .ref a2, .ref a3, .ref a4, .ref a5, .ref a6])), (a3, .inl (k8, 0, .inr (.inr (.inr (.inr (fun _ => none))))))] sz) t) (va_A [(a0, .inr (15, [.ref a1, .int 0, .int (-1), .int 0, .ref a2, .ref a3, .ref a4, .ref a5, .ref a6])), (a3, .inl (k8, 0, .inr (.inr (.inr (.inr (fun _ => none))))))] sz)) 0 0 (va_A [(a0, .inr (15, [.ref a1, .int 0, .int (-1), .int 0, .ref a2, .ref a3, .ref a4, .ref a5, .ref a6])), (a3, .inl (k8, 0, .inr (.inr (.inr (.inr (fun _ => none))))))] sz) := by
  refine Met.ofW (cc := cX24_passAll) (maxL := 7) (ret := (Option.some Jvm.ClassFile.FieldType.int)) (by decide) rfl ?_
  intro p e s m args below meth c s₁ B hml hv
  obtain ⟨rfl, hsz, hP, hK, hD0, hE⟩ := hv
  have hx := B.exec
  have hb := B.bytes
  have hr := B.returns
  have hts0 := atoms_spec (ws := wz yX24_passAll cX24_passAll 7 (Option.some Jvm.ClassFile.FieldType.int)) B.pre
  have hts : ∀ w ∈ gw, w.before _ s = true := fun w h => hts0 w (List.mem_cons_of_mem _ h)
  have hown : s.vm.findClass RX24 = some m.cls := findClass_of_methodNamed B.named
  have hlocks := B.notSynchronized
  subst hsz
  have hD := hD0.self (sz := s.heap.size)
  generalize hAe : va_A [(a0, .inr (15, [.ref a1, .int 0, .int (-1), .int 0, .ref a2, .ref a3, .ref a4, .ref a5, .ref a6])), (a3, .inl (k8, 0, .inr (.inr (.inr (.inr (fun _ => none))))))] s.heap.size = A at hD hE ⊢
  have hA : ∀ q : Nat, s.heap.size ≤ q → A q := fun q h => by rw [← hAe]; exact Or.inr h
  have hS : va_S A s.heap s.heap [] := va_S.rf
  have hP : va_P (dC, dI) cls [(a0, .inr (15, [.ref a1, .int 0, .int (-1), .int 0, .ref a2, .ref a3, .ref a4, .ref a5, .ref a6])), (a3, .inl (k8, 0, .inr (.inr (.inr (.inr (fun _ => none))))))] s.heap := hP
  have hl := lv_entry ([.ref a0, .int 0]) (n := 7) (Nat.le_of_ble_eq_true rfl)
  rw [lg_entry_eq]
  generalize (lg_sl ([.ref a0, .int 0]) ++ List.replicate (7 - (lg_sl ([.ref a0, .int 0])).length) Slot.unset).toArray = ls at hl ⊢
  have hl : lv_has ls 7 [(0, .ref a0), (1, .int 0)] := hl
  refine lv_aload_n hx hb dX24_passAll_0 rfl (lv_at hl 0 rfl) ?_
  refine lv_iconst (v := 0) hx hb dX24_passAll_1 (by decide) ?_
  refine va_put (D := (dC, dI)) (ci := 15) (v := .int 0) (ty := .int) (C := RX24) (T := TX24) (N := 9) hx hb hts i_X24 tyX24 tyX24_ok nmX24 hown hK hP hD hS 0 rfl rfl 3 (by decide) (hts _ qw428) (fun _ h9 => h9) rfl (by decide +kernel) rfl rfl (Nat.le_of_ble_eq_true rfl) dX24_passAll_2 (fun H locs hP hD hS => ?_)
  have hP : va_P (dC, dI) cls [(a0, .inr (15, [.ref a1, .int 0, .int (-1), .int 0, .ref a2, .ref a3, .ref a4, .ref a5, .ref a6])), (a3, .inl (k8, 0, .inr (.inr (.inr (.inr (fun _ => none))))))] H := hP
  have hD : va_D A [(a0, .inr (15, [.ref a1, .int 0, .int (-1), .int 0, .ref a2, .ref a3, .ref a4, .ref a5, .ref a6])), (a3, .inl (k8, 0, .inr (.inr (.inr (.inr (fun _ => none))))))] := hD
  refine lv_iconst (v := 0) hx hb dX24_passAll_5 (by decide) ?_
  refine lv_istore_n (lv' := [(2, .int 0), (0, .ref a0), (1, .int 0)]) hx hb dX24_passAll_6 rfl hl (by decide) rfl (fun ls hl => ?_)
  refine lv_aload_n hx hb dX24_passAll_7 rfl (lv_at hl 1 rfl) ?_
  refine va_get (D := (dC, dI)) (ci := 15) (v := .ref a3) (C := RX24) (T := TX24) (N := 9) hx hb hts i_X24 hown hK hP 0 rfl rfl 5 (by decide) (hts _ qw390) (fun _ h9 => h9) rfl dX24_passAll_8 ?_
  refine lv_astore_n (lv' := [(3, .ref a3), (2, .int 0), (0, .ref a0), (1, .int 0)]) hx hb dX24_passAll_11 rfl hl (by decide) rfl (fun ls hl => ?_)
  refine lv_aload_n hx hb dX24_passAll_12 rfl (lv_at hl 0 rfl) ?_
  refine va_alen (v := 0) hx hb hK hP 1 0 rfl rfl (by decide) dX24_passAll_13 ?_
  refine lv_istore (lv' := [(4, .int 0), (3, .ref a3), (2, .int 0), (0, .ref a0), (1, .int 0)]) hx hb dX24_passAll_14 hl (by decide) rfl (fun ls hl => ?_)
  refine lv_iconst (v := 0) hx hb dX24_passAll_16 (by decide) ?_
  refine lv_istore (lv' := [(5, .int 0), (4, .int 0), (3, .ref a3), (2, .int 0), (0, .ref a0), (1, .int 0)]) hx hb dX24_passAll_17 hl (by decide) rfl (fun ls hl => ?_)
  refine lv_iload hx hb dX24_passAll_19 (lv_at hl 0 rfl) ?_
  refine lv_iload hx hb dX24_passAll_21 (lv_at hl 1 rfl) ?_
  refine lv_icmp_ge (tgt := 47) hx hb dX24_passAll_23 (by decide) (fun _ => ?_) (fun c => absurd (by decide) c)
  refine lv_iload_n hx hb dX24_passAll_47 rfl (lv_at hl 3 rfl) ?_
  have hP9 : va_P (dC, dI) cls [(a0, .inr (15, [.ref a1, .int 0, .int (-1), .int 0, .ref a2, .ref a3, .ref a4, .ref a5, .ref a6])), (a3, .inl (k8, 0, .inr (.inr (.inr (.inr (fun _ => none))))))] H := hP.sub [0, 1] rfl
  have hD9 : va_D A [(a0, .inr (15, [.ref a1, .int 0, .int (-1), .int 0, .ref a2, .ref a3, .ref a4, .ref a5, .ref a6])), (a3, .inl (k8, 0, .inr (.inr (.inr (.inr (fun _ => none))))))] := hD.sub [0, 1] (by decide) rfl
  have hK9 : va_K (dC, dI) cls [(k8, .object RX14)] s := hK.sub [0] rfl
  exact W.iret (v := 0) hx hb hr (fun t ht hW => ⟨⟨0, (), rfl, rfl, ⟨by rw [ht]; exact hP9, va_K.moved hW.alike hK9, hD9⟩⟩, hS.F ht⟩) hS.2.2 dX24_passAll_48
set_option maxHeartbeats 4000000 in
set_option maxRecDepth 100000 in
theorem kX24_fold {zs : Nat × Nat} (l : Launch) (dC : Nat → ClassId) (dI : Nat → Nat → Nat) (mx : Nat) (mq1 : Nat) (mq3 : Nat) (mq4 : Nat) (mc5 : ClassId) (mq6 : Nat) (mq8 : Nat) (mq22 : Nat) (sz : Nat)  : Met l yX24_fold (wz yX24_fold cX24_fold 1 (Option.some Jvm.ClassFile.FieldType.int)) ({ frames := 1, cells := 0, slots := 0, locals := 26 }) (va_Pc [.ref mx] (PRE zs dC dI [(mx, .inr (15, [.ref mq1, .int 0, .int (-1), .int 0, .ref mq3, .ref mq4, .ref mq6, .ref mq8, .ref mq22])), (mq4, .inl (mc5, 0, .inr (.inr (.inr (.inr (fun _ => none))))))] [(mc5, .object RX14)] sz)) (va_Qi (fun (r : Int32) (_ : Unit) => r = 0) (fun _ t => POST dC dI [(mx, .inr (15, [.ref mq1, .int 0, .int (-1), .int 0, .ref mq3, .ref mq4, .ref mq6, .ref mq8, .ref mq22]))] [] (va_A [(mx, .inr (15, [.ref mq1, .int 0, .int (-1), .int 0, .ref mq3, .ref mq4, .ref mq6, .ref mq8, .ref mq22])), (mq4, .inl (mc5, 0, .inr (.inr (.inr (.inr (fun _ => none))))))] sz) t) (va_A [(mx, .inr (15, [.ref mq1, .int 0, .int (-1), .int 0, .ref mq3, .ref mq4, .ref mq6, .ref mq8, .ref mq22])), (mq4, .inl (mc5, 0, .inr (.inr (.inr (.inr (fun _ => none))))))] sz)) 0 0 (va_A [(mx, .inr (15, [.ref mq1, .int 0, .int (-1), .int 0, .ref mq3, .ref mq4, .ref mq6, .ref mq8, .ref mq22])), (mq4, .inl (mc5, 0, .inr (.inr (.inr (.inr (fun _ => none))))))] sz) := by
  refine Met.ofW (cc := cX24_fold) (maxL := 1) (ret := (Option.some Jvm.ClassFile.FieldType.int)) (by decide) rfl ?_
  intro p e s m args below meth c s₁ B hml hv
  obtain ⟨rfl, hsz, hP, hK, hD0, hE⟩ := hv
  have hx := B.exec
  have hb := B.bytes
  have hr := B.returns
  have hts0 := atoms_spec (ws := wz yX24_fold cX24_fold 1 (Option.some Jvm.ClassFile.FieldType.int)) B.pre
  have hts : ∀ w ∈ gw, w.before _ s = true := fun w h => hts0 w (List.mem_cons_of_mem _ h)
  have hown : s.vm.findClass RX24 = some m.cls := findClass_of_methodNamed B.named
  have hlocks := B.notSynchronized
  subst hsz
  have hD := hD0.self (sz := s.heap.size)
  generalize hAe : va_A [(mx, .inr (15, [.ref mq1, .int 0, .int (-1), .int 0, .ref mq3, .ref mq4, .ref mq6, .ref mq8, .ref mq22])), (mq4, .inl (mc5, 0, .inr (.inr (.inr (.inr (fun _ => none))))))] s.heap.size = A at hD hE ⊢
  have hA : ∀ q : Nat, s.heap.size ≤ q → A q := fun q h => by rw [← hAe]; exact Or.inr h
  have hS : va_S A s.heap s.heap [] := va_S.rf
  have hP : va_P (dC, dI) cls [(mx, .inr (15, [.ref mq1, .int 0, .int (-1), .int 0, .ref mq3, .ref mq4, .ref mq6, .ref mq8, .ref mq22])), (mq4, .inl (mc5, 0, .inr (.inr (.inr (.inr (fun _ => none))))))] s.heap := hP
  have hl := lv_entry ([.ref mx]) (n := 1) (Nat.le_of_ble_eq_true rfl)
  rw [lg_entry_eq]
  generalize (lg_sl ([.ref mx]) ++ List.replicate (1 - (lg_sl ([.ref mx])).length) Slot.unset).toArray = ls at hl ⊢
  have hl : lv_has ls 1 [(0, .ref mx)] := hl
  refine lv_aload_n hx hb dX24_fold_0 rfl (lv_at hl 0 rfl) ?_
  refine lv_iconst (v := 0) hx hb dX24_fold_1 (by decide) ?_
  have hPc := hP.sub (ws' := [(mx, .inr (15, [.ref mq1, .int 0, .int (-1), .int 0, .ref mq3, .ref mq4, .ref mq6, .ref mq8, .ref mq22])), (mq4, .inl (mc5, 0, .inr (.inr (.inr (.inr (fun _ => none))))))]) [0, 1] rfl
  have hDc := hD.sub (ws' := [(mx, .inr (15, [.ref mq1, .int 0, .int (-1), .int 0, .ref mq3, .ref mq4, .ref mq6, .ref mq8, .ref mq22])), (mq4, .inl (mc5, 0, .inr (.inr (.inr (.inr (fun _ => none))))))]) [0, 1] (by decide) rfl
  have hKc := hK.sub (tys' := [(mc5, .object RX14)]) [0] rfl
  have hFc := va_free (wc := [(mx, .inr (15, [.ref mq1, .int 0, .int (-1), .int 0, .ref mq3, .ref mq4, .ref mq6, .ref mq8, .ref mq22])), (mq4, .inl (mc5, 0, .inr (.inr (.inr (.inr (fun _ => none))))))]) hD hS hA [0, 1] rfl
  refine va_calli (va_runV (As := [.int 0]) (rest := []) ⟨hx, hb, hml, hown, hts⟩ (kX24_passAll_n42 l dC dI (a0 := mx) (a1 := mq1) (a2 := mq3) (a3 := mq4) (a4 := mq6) (a5 := mq8) (a6 := mq22) (k8 := mc5) (sz := _)) (cwV 1 hts (gi_V qw444 qw445 qw446 qw434 (gi_z qw443)) rfl rfl rfl (by decide +kernel) ⟨Nat.le_of_ble_eq_true rfl, Nat.le_of_ble_eq_true rfl⟩) ⟨PRE.blind, va_recv hKc hPc (ci := 15) (q0 := 0) rfl rfl, PRE.of hE hS hFc hPc hKc hDc⟩ rfl rfl hl.1 rfl (lv_room (Nat.le_of_ble_eq_true rfl)) dX24_fold_2 ⟨Nat.le_of_ble_eq_true rfl, Nat.le_of_ble_eq_true rfl⟩) hS (fun q _ h => hFc q h) hFc (fun r1 u t H locs ht hvm hw hB hz1 hk1 hS => ?_)
  obtain ⟨hP, hD, hK⟩ := JOIN (wr := []) hP hD hK [0, 1] [] [] rfl rfl (by decide) (by decide) rfl hk1 hFc ht hvm hB
  have hP : va_P (dC, dI) cls [(mx, .inr (15, [.ref mq1, .int 0, .int (-1), .int 0, .ref mq3, .ref mq4, .ref mq6, .ref mq8, .ref mq22])), (mq4, .inl (mc5, 0, .inr (.inr (.inr (.inr (fun _ => none))))))] H := hP
  have hD : va_D A [(mx, .inr (15, [.ref mq1, .int 0, .int (-1), .int 0, .ref mq3, .ref mq4, .ref mq6, .ref mq8, .ref mq22])), (mq4, .inl (mc5, 0, .inr (.inr (.inr (.inr (fun _ => none))))))] := hD
  have hK : va_K (dC, dI) cls [(mc5, .object RX14)] s := hK
  refine W.widen (k := 0) (n := 0) (Nat.le_of_ble_eq_true rfl) (Nat.le_of_ble_eq_true rfl) ?_
  obtain rfl : r1 = 0 := hw
  have hP9 : va_P (dC, dI) cls [(mx, .inr (15, [.ref mq1, .int 0, .int (-1), .int 0, .ref mq3, .ref mq4, .ref mq6, .ref mq8, .ref mq22]))] H := hP.sub [0] rfl
  have hD9 : va_D A [(mx, .inr (15, [.ref mq1, .int 0, .int (-1), .int 0, .ref mq3, .ref mq4, .ref mq6, .ref mq8, .ref mq22]))] := hD.sub [0] (by decide) rfl
  have hK9 : va_K (dC, dI) cls [] s := hK.sub [] rfl
  exact W.iret (v := 0) hx hb hr (fun t ht hW => ⟨⟨0, (), rfl, rfl, ⟨by rw [ht]; exact hP9, va_K.moved hW.alike hK9, hD9⟩⟩, hS.F ht⟩) hS.2.2 dX24_fold_5
set_option maxHeartbeats 4000000 in
set_option maxRecDepth 100000 in
/-- GearboxModel.passAll, from the state that its caller has -/
theorem kX24_passAll_n43 {zs : Nat × Nat} (l : Launch) (dC : Nat → ClassId) (dI : Nat → Nat → Nat) (a0 : Nat) (a1 : Nat) (a2 : Nat) (a3 : Nat) (a4 : Nat) (a5 : Nat) (a6 : Nat) (k8 : ClassId) (sz : Nat)  : Met l yX24_passAll (wz yX24_passAll cX24_passAll 7 (Option.some Jvm.ClassFile.FieldType.int)) ({ frames := 0, cells := 0, slots := 0, locals := 0 }) (va_Pc [.ref a0, .int 1] (PRE zs dC dI [(a0, .inr (15, [.ref a1, .int 0, .int (-1), .int 0, .ref a2, .ref a3, .ref a4, .ref a5, .ref a6])), (a3, .inl (k8, 0, .inr (.inr (.inr (.inr (fun _ => none))))))] [(k8, .object RX14)] sz)) (va_Qi (fun (r : Int32) (_ : Unit) => r = 0) (fun _ t => POST dC dI [(a0, .inr (15, [.ref a1, .int 0, .int (-1), .int 0, .ref a2, .ref a3, .ref a4, .ref a5, .ref a6])), (a3, .inl (k8, 0, .inr (.inr (.inr (.inr (fun _ => none))))))] [(k8, .object RX14)] (va_A [(a0, .inr (15, [.ref a1, .int 0, .int (-1), .int 0, .ref a2, .ref a3, .ref a4, .ref a5, .ref a6])), (a3, .inl (k8, 0, .inr (.inr (.inr (.inr (fun _ => none))))))] sz) t) (va_A [(a0, .inr (15, [.ref a1, .int 0, .int (-1), .int 0, .ref a2, .ref a3, .ref a4, .ref a5, .ref a6])), (a3, .inl (k8, 0, .inr (.inr (.inr (.inr (fun _ => none))))))] sz)) 0 0 (va_A [(a0, .inr (15, [.ref a1, .int 0, .int (-1), .int 0, .ref a2, .ref a3, .ref a4, .ref a5, .ref a6])), (a3, .inl (k8, 0, .inr (.inr (.inr (.inr (fun _ => none))))))] sz) := by
  refine Met.ofW (cc := cX24_passAll) (maxL := 7) (ret := (Option.some Jvm.ClassFile.FieldType.int)) (by decide) rfl ?_
  intro p e s m args below meth c s₁ B hml hv
  obtain ⟨rfl, hsz, hP, hK, hD0, hE⟩ := hv
  have hx := B.exec
  have hb := B.bytes
  have hr := B.returns
  have hts0 := atoms_spec (ws := wz yX24_passAll cX24_passAll 7 (Option.some Jvm.ClassFile.FieldType.int)) B.pre
  have hts : ∀ w ∈ gw, w.before _ s = true := fun w h => hts0 w (List.mem_cons_of_mem _ h)
  have hown : s.vm.findClass RX24 = some m.cls := findClass_of_methodNamed B.named
  have hlocks := B.notSynchronized
  subst hsz
  have hD := hD0.self (sz := s.heap.size)
  generalize hAe : va_A [(a0, .inr (15, [.ref a1, .int 0, .int (-1), .int 0, .ref a2, .ref a3, .ref a4, .ref a5, .ref a6])), (a3, .inl (k8, 0, .inr (.inr (.inr (.inr (fun _ => none))))))] s.heap.size = A at hD hE ⊢
  have hA : ∀ q : Nat, s.heap.size ≤ q → A q := fun q h => by rw [← hAe]; exact Or.inr h
  have hS : va_S A s.heap s.heap [] := va_S.rf
  have hP : va_P (dC, dI) cls [(a0, .inr (15, [.ref a1, .int 0, .int (-1), .int 0, .ref a2, .ref a3, .ref a4, .ref a5, .ref a6])), (a3, .inl (k8, 0, .inr (.inr (.inr (.inr (fun _ => none))))))] s.heap := hP
  have hl := lv_entry ([.ref a0, .int 1]) (n := 7) (Nat.le_of_ble_eq_true rfl)
  rw [lg_entry_eq]
  generalize (lg_sl ([.ref a0, .int 1]) ++ List.replicate (7 - (lg_sl ([.ref a0, .int 1])).length) Slot.unset).toArray = ls at hl ⊢
  have hl : lv_has ls 7 [(0, .ref a0), (1, .int 1)] := hl
  refine lv_aload_n hx hb dX24_passAll_0 rfl (lv_at hl 0 rfl) ?_
  refine lv_iconst (v := 0) hx hb dX24_passAll_1 (by decide) ?_
  refine va_put (D := (dC, dI)) (ci := 15) (v := .int 0) (ty := .int) (C := RX24) (T := TX24) (N := 9) hx hb hts i_X24 tyX24 tyX24_ok nmX24 hown hK hP hD hS 0 rfl rfl 3 (by decide) (hts _ qw428) (fun _ h9 => h9) rfl (by decide +kernel) rfl rfl (Nat.le_of_ble_eq_true rfl) dX24_passAll_2 (fun H locs hP hD hS => ?_)
  have hP : va_P (dC, dI) cls [(a0, .inr (15, [.ref a1, .int 0, .int (-1), .int 0, .ref a2, .ref a3, .ref a4, .ref a5, .ref a6])), (a3, .inl (k8, 0, .inr (.inr (.inr (.inr (fun _ => none))))))] H := hP
  have hD : va_D A [(a0, .inr (15, [.ref a1, .int 0, .int (-1), .int 0, .ref a2, .ref a3, .ref a4, .ref a5, .ref a6])), (a3, .inl (k8, 0, .inr (.inr (.inr (.inr (fun _ => none))))))] := hD
  refine lv_iconst (v := 0) hx hb dX24_passAll_5 (by decide) ?_
  refine lv_istore_n (lv' := [(2, .int 0), (0, .ref a0), (1, .int 1)]) hx hb dX24_passAll_6 rfl hl (by decide) rfl (fun ls hl => ?_)
  refine lv_aload_n hx hb dX24_passAll_7 rfl (lv_at hl 1 rfl) ?_
  refine va_get (D := (dC, dI)) (ci := 15) (v := .ref a3) (C := RX24) (T := TX24) (N := 9) hx hb hts i_X24 hown hK hP 0 rfl rfl 5 (by decide) (hts _ qw390) (fun _ h9 => h9) rfl dX24_passAll_8 ?_
  refine lv_astore_n (lv' := [(3, .ref a3), (2, .int 0), (0, .ref a0), (1, .int 1)]) hx hb dX24_passAll_11 rfl hl (by decide) rfl (fun ls hl => ?_)
  refine lv_aload_n hx hb dX24_passAll_12 rfl (lv_at hl 0 rfl) ?_
  refine va_alen (v := 0) hx hb hK hP 1 0 rfl rfl (by decide) dX24_passAll_13 ?_
  refine lv_istore (lv' := [(4, .int 0), (3, .ref a3), (2, .int 0), (0, .ref a0), (1, .int 1)]) hx hb dX24_passAll_14 hl (by decide) rfl (fun ls hl => ?_)
  refine lv_iconst (v := 0) hx hb dX24_passAll_16 (by decide) ?_
  refine lv_istore (lv' := [(5, .int 0), (4, .int 0), (3, .ref a3), (2, .int 0), (0, .ref a0), (1, .int 1)]) hx hb dX24_passAll_17 hl (by decide) rfl (fun ls hl => ?_)
  refine lv_iload hx hb dX24_passAll_19 (lv_at hl 0 rfl) ?_
  refine lv_iload hx hb dX24_passAll_21 (lv_at hl 1 rfl) ?_
  refine lv_icmp_ge (tgt := 47) hx hb dX24_passAll_23 (by decide) (fun _ => ?_) (fun c => absurd (by decide) c)
  refine lv_iload_n hx hb dX24_passAll_47 rfl (lv_at hl 3 rfl) ?_
  have hP9 : va_P (dC, dI) cls [(a0, .inr (15, [.ref a1, .int 0, .int (-1), .int 0, .ref a2, .ref a3, .ref a4, .ref a5, .ref a6])), (a3, .inl (k8, 0, .inr (.inr (.inr (.inr (fun _ => none))))))] H := hP.sub [0, 1] rfl
  have hD9 : va_D A [(a0, .inr (15, [.ref a1, .int 0, .int (-1), .int 0, .ref a2, .ref a3, .ref a4, .ref a5, .ref a6])), (a3, .inl (k8, 0, .inr (.inr (.inr (.inr (fun _ => none))))))] := hD.sub [0, 1] (by decide) rfl
  have hK9 : va_K (dC, dI) cls [(k8, .object RX14)] s := hK.sub [0] rfl
  exact W.iret (v := 0) hx hb hr (fun t ht hW => ⟨⟨0, (), rfl, rfl, ⟨by rw [ht]; exact hP9, va_K.moved hW.alike hK9, hD9⟩⟩, hS.F ht⟩) hS.2.2 dX24_passAll_48
set_option maxHeartbeats 4000000 in
set_option maxRecDepth 100000 in
theorem kX24_same {zs : Nat × Nat} (l : Launch) (dC : Nat → ClassId) (dI : Nat → Nat → Nat) (mx : Nat) (mq1 : Nat) (mq3 : Nat) (mq4 : Nat) (mc5 : ClassId) (mq6 : Nat) (mq8 : Nat) (mq22 : Nat) (sz : Nat)  : Met l yX24_same (wz yX24_same cX24_same 1 (Option.some Jvm.ClassFile.FieldType.int)) ({ frames := 1, cells := 0, slots := 0, locals := 26 }) (va_Pc [.ref mx] (PRE zs dC dI [(mx, .inr (15, [.ref mq1, .int 0, .int (-1), .int 0, .ref mq3, .ref mq4, .ref mq6, .ref mq8, .ref mq22])), (mq4, .inl (mc5, 0, .inr (.inr (.inr (.inr (fun _ => none))))))] [(mc5, .object RX14)] sz)) (va_Qi (fun (r : Int32) (_ : Unit) => r = 0) (fun _ t => POST dC dI [(mx, .inr (15, [.ref mq1, .int 0, .int (-1), .int 0, .ref mq3, .ref mq4, .ref mq6, .ref mq8, .ref mq22]))] [] (va_A [(mx, .inr (15, [.ref mq1, .int 0, .int (-1), .int 0, .ref mq3, .ref mq4, .ref mq6, .ref mq8, .ref mq22])), (mq4, .inl (mc5, 0, .inr (.inr (.inr (.inr (fun _ => none))))))] sz) t) (va_A [(mx, .inr (15, [.ref mq1, .int 0, .int (-1), .int 0, .ref mq3, .ref mq4, .ref mq6, .ref mq8, .ref mq22])), (mq4, .inl (mc5, 0, .inr (.inr (.inr (.inr (fun _ => none))))))] sz)) 0 0 (va_A [(mx, .inr (15, [.ref mq1, .int 0, .int (-1), .int 0, .ref mq3, .ref mq4, .ref mq6, .ref mq8, .ref mq22])), (mq4, .inl (mc5, 0, .inr (.inr (.inr (.inr (fun _ => none))))))] sz) := by
  refine Met.ofW (cc := cX24_same) (maxL := 1) (ret := (Option.some Jvm.ClassFile.FieldType.int)) (by decide) rfl ?_
  intro p e s m args below meth c s₁ B hml hv
  obtain ⟨rfl, hsz, hP, hK, hD0, hE⟩ := hv
  have hx := B.exec
  have hb := B.bytes
  have hr := B.returns
  have hts0 := atoms_spec (ws := wz yX24_same cX24_same 1 (Option.some Jvm.ClassFile.FieldType.int)) B.pre
  have hts : ∀ w ∈ gw, w.before _ s = true := fun w h => hts0 w (List.mem_cons_of_mem _ h)
  have hown : s.vm.findClass RX24 = some m.cls := findClass_of_methodNamed B.named
  have hlocks := B.notSynchronized
  subst hsz
  have hD := hD0.self (sz := s.heap.size)
  generalize hAe : va_A [(mx, .inr (15, [.ref mq1, .int 0, .int (-1), .int 0, .ref mq3, .ref mq4, .ref mq6, .ref mq8, .ref mq22])), (mq4, .inl (mc5, 0, .inr (.inr (.inr (.inr (fun _ => none))))))] s.heap.size = A at hD hE ⊢
  have hA : ∀ q : Nat, s.heap.size ≤ q → A q := fun q h => by rw [← hAe]; exact Or.inr h
  have hS : va_S A s.heap s.heap [] := va_S.rf
  have hP : va_P (dC, dI) cls [(mx, .inr (15, [.ref mq1, .int 0, .int (-1), .int 0, .ref mq3, .ref mq4, .ref mq6, .ref mq8, .ref mq22])), (mq4, .inl (mc5, 0, .inr (.inr (.inr (.inr (fun _ => none))))))] s.heap := hP
  have hl := lv_entry ([.ref mx]) (n := 1) (Nat.le_of_ble_eq_true rfl)
  rw [lg_entry_eq]
  generalize (lg_sl ([.ref mx]) ++ List.replicate (1 - (lg_sl ([.ref mx])).length) Slot.unset).toArray = ls at hl ⊢
  have hl : lv_has ls 1 [(0, .ref mx)] := hl
  refine lv_aload_n hx hb dX24_same_0 rfl (lv_at hl 0 rfl) ?_
  refine lv_iconst (v := 1) hx hb dX24_same_1 (by decide) ?_
  have hPc := hP.sub (ws' := [(mx, .inr (15, [.ref mq1, .int 0, .int (-1), .int 0, .ref mq3, .ref mq4, .ref mq6, .ref mq8, .ref mq22])), (mq4, .inl (mc5, 0, .inr (.inr (.inr (.inr (fun _ => none))))))]) [0, 1] rfl
  have hDc := hD.sub (ws' := [(mx, .inr (15, [.ref mq1, .int 0, .int (-1), .int 0, .ref mq3, .ref mq4, .ref mq6, .ref mq8, .ref mq22])), (mq4, .inl (mc5, 0, .inr (.inr (.inr (.inr (fun _ => none))))))]) [0, 1] (by decide) rfl
  have hKc := hK.sub (tys' := [(mc5, .object RX14)]) [0] rfl
  have hFc := va_free (wc := [(mx, .inr (15, [.ref mq1, .int 0, .int (-1), .int 0, .ref mq3, .ref mq4, .ref mq6, .ref mq8, .ref mq22])), (mq4, .inl (mc5, 0, .inr (.inr (.inr (.inr (fun _ => none))))))]) hD hS hA [0, 1] rfl
  refine va_calli (va_runV (As := [.int 1]) (rest := []) ⟨hx, hb, hml, hown, hts⟩ (kX24_passAll_n43 l dC dI (a0 := mx) (a1 := mq1) (a2 := mq3) (a3 := mq4) (a4 := mq6) (a5 := mq8) (a6 := mq22) (k8 := mc5) (sz := _)) (cwV 1 hts (gi_V qw444 qw445 qw446 qw434 (gi_z qw443)) rfl rfl rfl (by decide +kernel) ⟨Nat.le_of_ble_eq_true rfl, Nat.le_of_ble_eq_true rfl⟩) ⟨PRE.blind, va_recv hKc hPc (ci := 15) (q0 := 0) rfl rfl, PRE.of hE hS hFc hPc hKc hDc⟩ rfl rfl hl.1 rfl (lv_room (Nat.le_of_ble_eq_true rfl)) dX24_same_2 ⟨Nat.le_of_ble_eq_true rfl, Nat.le_of_ble_eq_true rfl⟩) hS (fun q _ h => hFc q h) hFc (fun r1 u t H locs ht hvm hw hB hz1 hk1 hS => ?_)
  obtain ⟨hP, hD, hK⟩ := JOIN (wr := []) hP hD hK [0, 1] [] [] rfl rfl (by decide) (by decide) rfl hk1 hFc ht hvm hB
  have hP : va_P (dC, dI) cls [(mx, .inr (15, [.ref mq1, .int 0, .int (-1), .int 0, .ref mq3, .ref mq4, .ref mq6, .ref mq8, .ref mq22])), (mq4, .inl (mc5, 0, .inr (.inr (.inr (.inr (fun _ => none))))))] H := hP
  have hD : va_D A [(mx, .inr (15, [.ref mq1, .int 0, .int (-1), .int 0, .ref mq3, .ref mq4, .ref mq6, .ref mq8, .ref mq22])), (mq4, .inl (mc5, 0, .inr (.inr (.inr (.inr (fun _ => none))))))] := hD
  have hK : va_K (dC, dI) cls [(mc5, .object RX14)] s := hK
  refine W.widen (k := 0) (n := 0) (Nat.le_of_ble_eq_true rfl) (Nat.le_of_ble_eq_true rfl) ?_
  obtain rfl : r1 = 0 := hw
  have hP9 : va_P (dC, dI) cls [(mx, .inr (15, [.ref mq1, .int 0, .int (-1), .int 0, .ref mq3, .ref mq4, .ref mq6, .ref mq8, .ref mq22]))] H := hP.sub [0] rfl
  have hD9 : va_D A [(mx, .inr (15, [.ref mq1, .int 0, .int (-1), .int 0, .ref mq3, .ref mq4, .ref mq6, .ref mq8, .ref mq22]))] := hD.sub [0] (by decide) rfl
  have hK9 : va_K (dC, dI) cls [] s := hK.sub [] rfl
  exact W.iret (v := 0) hx hb hr (fun t ht hW => ⟨⟨0, (), rfl, rfl, ⟨by rw [ht]; exact hP9, va_K.moved hW.alike hK9, hD9⟩⟩, hS.F ht⟩) hS.2.2 dX24_same_5
set_option maxHeartbeats 4000000 in
set_option maxRecDepth 100000 in
/-- GearboxModel.passAll, from the state that its caller has -/
theorem kX24_passAll_n44 {zs : Nat × Nat} (l : Launch) (dC : Nat → ClassId) (dI : Nat → Nat → Nat) (a0 : Nat) (a1 : Nat) (a2 : Nat) (a3 : Nat) (a4 : Nat) (a5 : Nat) (a6 : Nat) (k8 : ClassId) (sz : Nat)  : Met l yX24_passAll (wz yX24_passAll cX24_passAll 7 (Option.some Jvm.ClassFile.FieldType.int)) ({ frames := 0, cells := 0, slots := 0, locals := 0 }) (va_Pc [.ref a0, .int 2] (PRE zs dC dI [(a0, .inr (15, [.ref a1, .int 0, .int (-1), .int 0, .ref a2, .ref a3, .ref a4, .ref a5, .ref a6])), (a3, .inl (k8, 0, .inr (.inr (.inr (.inr (fun _ => none))))))] [(k8, .object RX14)] sz)) (va_Qi (fun (r : Int32) (_ : Unit) => r = 0) (fun _ t => POST dC dI [(a0, .inr (15, [.ref a1, .int 0, .int (-1), .int 0, .ref a2, .ref a3, .ref a4, .ref a5, .ref a6])), (a3, .inl (k8, 0, .inr (.inr (.inr (.inr (fun _ => none))))))] [(k8, .object RX14)] (va_A [(a0, .inr (15, [.ref a1, .int 0, .int (-1), .int 0, .ref a2, .ref a3, .ref a4, .ref a5, .ref a6])), (a3, .inl (k8, 0, .inr (.inr (.inr (.inr (fun _ => none))))))] sz) t) (va_A [(a0, .inr (15, [.ref a1, .int 0, .int (-1), .int 0, .ref a2, .ref a3, .ref a4, .ref a5, .ref a6])), (a3, .inl (k8, 0, .inr (.inr (.inr (.inr (fun _ => none))))))] sz)) 0 0 (va_A [(a0, .inr (15, [.ref a1, .int 0, .int (-1), .int 0, .ref a2, .ref a3, .ref a4, .ref a5, .ref a6])), (a3, .inl (k8, 0, .inr (.inr (.inr (.inr (fun _ => none))))))] sz) := by
  refine Met.ofW (cc := cX24_passAll) (maxL := 7) (ret := (Option.some Jvm.ClassFile.FieldType.int)) (by decide) rfl ?_
  intro p e s m args below meth c s₁ B hml hv
  obtain ⟨rfl, hsz, hP, hK, hD0, hE⟩ := hv
  have hx := B.exec
  have hb := B.bytes
  have hr := B.returns
  have hts0 := atoms_spec (ws := wz yX24_passAll cX24_passAll 7 (Option.some Jvm.ClassFile.FieldType.int)) B.pre
  have hts : ∀ w ∈ gw, w.before _ s = true := fun w h => hts0 w (List.mem_cons_of_mem _ h)
  have hown : s.vm.findClass RX24 = some m.cls := findClass_of_methodNamed B.named
  have hlocks := B.notSynchronized
  subst hsz
  have hD := hD0.self (sz := s.heap.size)
  generalize hAe : va_A [(a0, .inr (15, [.ref a1, .int 0, .int (-1), .int 0, .ref a2, .ref a3, .ref a4, .ref a5, .ref a6])), (a3, .inl (k8, 0, .inr (.inr (.inr (.inr (fun _ => none))))))] s.heap.size = A at hD hE ⊢
  have hA : ∀ q : Nat, s.heap.size ≤ q → A q := fun q h => by rw [← hAe]; exact Or.inr h
  have hS : va_S A s.heap s.heap [] := va_S.rf
  have hP : va_P (dC, dI) cls [(a0, .inr (15, [.ref a1, .int 0, .int (-1), .int 0, .ref a2, .ref a3, .ref a4, .ref a5, .ref a6])), (a3, .inl (k8, 0, .inr (.inr (.inr (.inr (fun _ => none))))))] s.heap := hP
  have hl := lv_entry ([.ref a0, .int 2]) (n := 7) (Nat.le_of_ble_eq_true rfl)
  rw [lg_entry_eq]
  generalize (lg_sl ([.ref a0, .int 2]) ++ List.replicate (7 - (lg_sl ([.ref a0, .int 2])).length) Slot.unset).toArray = ls at hl ⊢
  have hl : lv_has ls 7 [(0, .ref a0), (1, .int 2)] := hl
  refine lv_aload_n hx hb dX24_passAll_0 rfl (lv_at hl 0 rfl) ?_
  refine lv_iconst (v := 0) hx hb dX24_passAll_1 (by decide) ?_
  refine va_put (D := (dC, dI)) (ci := 15) (v := .int 0) (ty := .int) (C := RX24) (T := TX24) (N := 9) hx hb hts i_X24 tyX24 tyX24_ok nmX24 hown hK hP hD hS 0 rfl rfl 3 (by decide) (hts _ qw428) (fun _ h9 => h9) rfl (by decide +kernel) rfl rfl (Nat.le_of_ble_eq_true rfl) dX24_passAll_2 (fun H locs hP hD hS => ?_)
  have hP : va_P (dC, dI) cls [(a0, .inr (15, [.ref a1, .int 0, .int (-1), .int 0, .ref a2, .ref a3, .ref a4, .ref a5, .ref a6])), (a3, .inl (k8, 0, .inr (.inr (.inr (.inr (fun _ => none))))))] H := hP
  have hD : va_D A [(a0, .inr (15, [.ref a1, .int 0, .int (-1), .int 0, .ref a2, .ref a3, .ref a4, .ref a5, .ref a6])), (a3, .inl (k8, 0, .inr (.inr (.inr (.inr (fun _ => none))))))] := hD
  refine lv_iconst (v := 0) hx hb dX24_passAll_5 (by decide) ?_
  refine lv_istore_n (lv' := [(2, .int 0), (0, .ref a0), (1, .int 2)]) hx hb dX24_passAll_6 rfl hl (by decide) rfl (fun ls hl => ?_)
  refine lv_aload_n hx hb dX24_passAll_7 rfl (lv_at hl 1 rfl) ?_
  refine va_get (D := (dC, dI)) (ci := 15) (v := .ref a3) (C := RX24) (T := TX24) (N := 9) hx hb hts i_X24 hown hK hP 0 rfl rfl 5 (by decide) (hts _ qw390) (fun _ h9 => h9) rfl dX24_passAll_8 ?_
  refine lv_astore_n (lv' := [(3, .ref a3), (2, .int 0), (0, .ref a0), (1, .int 2)]) hx hb dX24_passAll_11 rfl hl (by decide) rfl (fun ls hl => ?_)
  refine lv_aload_n hx hb dX24_passAll_12 rfl (lv_at hl 0 rfl) ?_
  refine va_alen (v := 0) hx hb hK hP 1 0 rfl rfl (by decide) dX24_passAll_13 ?_
  refine lv_istore (lv' := [(4, .int 0), (3, .ref a3), (2, .int 0), (0, .ref a0), (1, .int 2)]) hx hb dX24_passAll_14 hl (by decide) rfl (fun ls hl => ?_)
  refine lv_iconst (v := 0) hx hb dX24_passAll_16 (by decide) ?_
  refine lv_istore (lv' := [(5, .int 0), (4, .int 0), (3, .ref a3), (2, .int 0), (0, .ref a0), (1, .int 2)]) hx hb dX24_passAll_17 hl (by decide) rfl (fun ls hl => ?_)
  refine lv_iload hx hb dX24_passAll_19 (lv_at hl 0 rfl) ?_
  refine lv_iload hx hb dX24_passAll_21 (lv_at hl 1 rfl) ?_
  refine lv_icmp_ge (tgt := 47) hx hb dX24_passAll_23 (by decide) (fun _ => ?_) (fun c => absurd (by decide) c)
  refine lv_iload_n hx hb dX24_passAll_47 rfl (lv_at hl 3 rfl) ?_
  have hP9 : va_P (dC, dI) cls [(a0, .inr (15, [.ref a1, .int 0, .int (-1), .int 0, .ref a2, .ref a3, .ref a4, .ref a5, .ref a6])), (a3, .inl (k8, 0, .inr (.inr (.inr (.inr (fun _ => none))))))] H := hP.sub [0, 1] rfl
  have hD9 : va_D A [(a0, .inr (15, [.ref a1, .int 0, .int (-1), .int 0, .ref a2, .ref a3, .ref a4, .ref a5, .ref a6])), (a3, .inl (k8, 0, .inr (.inr (.inr (.inr (fun _ => none))))))] := hD.sub [0, 1] (by decide) rfl
  have hK9 : va_K (dC, dI) cls [(k8, .object RX14)] s := hK.sub [0] rfl
  exact W.iret (v := 0) hx hb hr (fun t ht hW => ⟨⟨0, (), rfl, rfl, ⟨by rw [ht]; exact hP9, va_K.moved hW.alike hK9, hD9⟩⟩, hS.F ht⟩) hS.2.2 dX24_passAll_48
set_option maxHeartbeats 4000000 in
set_option maxRecDepth 100000 in
theorem kX24_drop {zs : Nat × Nat} (l : Launch) (dC : Nat → ClassId) (dI : Nat → Nat → Nat) (mx : Nat) (mq1 : Nat) (mq3 : Nat) (mq4 : Nat) (mc5 : ClassId) (mq6 : Nat) (mq8 : Nat) (mq22 : Nat) (sz : Nat)  : Met l yX24_drop (wz yX24_drop cX24_drop 1 (Option.some Jvm.ClassFile.FieldType.int)) ({ frames := 1, cells := 0, slots := 0, locals := 26 }) (va_Pc [.ref mx] (PRE zs dC dI [(mx, .inr (15, [.ref mq1, .int 0, .int (-1), .int 0, .ref mq3, .ref mq4, .ref mq6, .ref mq8, .ref mq22])), (mq4, .inl (mc5, 0, .inr (.inr (.inr (.inr (fun _ => none))))))] [(mc5, .object RX14)] sz)) (va_Qi (fun (r : Int32) (_ : Unit) => r = 0) (fun _ t => POST dC dI [(mx, .inr (15, [.ref mq1, .int 0, .int (-1), .int 0, .ref mq3, .ref mq4, .ref mq6, .ref mq8, .ref mq22]))] [] (va_A [(mx, .inr (15, [.ref mq1, .int 0, .int (-1), .int 0, .ref mq3, .ref mq4, .ref mq6, .ref mq8, .ref mq22])), (mq4, .inl (mc5, 0, .inr (.inr (.inr (.inr (fun _ => none))))))] sz) t) (va_A [(mx, .inr (15, [.ref mq1, .int 0, .int (-1), .int 0, .ref mq3, .ref mq4, .ref mq6, .ref mq8, .ref mq22])), (mq4, .inl (mc5, 0, .inr (.inr (.inr (.inr (fun _ => none))))))] sz)) 0 0 (va_A [(mx, .inr (15, [.ref mq1, .int 0, .int (-1), .int 0, .ref mq3, .ref mq4, .ref mq6, .ref mq8, .ref mq22])), (mq4, .inl (mc5, 0, .inr (.inr (.inr (.inr (fun _ => none))))))] sz) := by
  refine Met.ofW (cc := cX24_drop) (maxL := 1) (ret := (Option.some Jvm.ClassFile.FieldType.int)) (by decide) rfl ?_
  intro p e s m args below meth c s₁ B hml hv
  obtain ⟨rfl, hsz, hP, hK, hD0, hE⟩ := hv
  have hx := B.exec
  have hb := B.bytes
  have hr := B.returns
  have hts0 := atoms_spec (ws := wz yX24_drop cX24_drop 1 (Option.some Jvm.ClassFile.FieldType.int)) B.pre
  have hts : ∀ w ∈ gw, w.before _ s = true := fun w h => hts0 w (List.mem_cons_of_mem _ h)
  have hown : s.vm.findClass RX24 = some m.cls := findClass_of_methodNamed B.named
  have hlocks := B.notSynchronized
  subst hsz
  have hD := hD0.self (sz := s.heap.size)
  generalize hAe : va_A [(mx, .inr (15, [.ref mq1, .int 0, .int (-1), .int 0, .ref mq3, .ref mq4, .ref mq6, .ref mq8, .ref mq22])), (mq4, .inl (mc5, 0, .inr (.inr (.inr (.inr (fun _ => none))))))] s.heap.size = A at hD hE ⊢
  have hA : ∀ q : Nat, s.heap.size ≤ q → A q := fun q h => by rw [← hAe]; exact Or.inr h
  have hS : va_S A s.heap s.heap [] := va_S.rf
  have hP : va_P (dC, dI) cls [(mx, .inr (15, [.ref mq1, .int 0, .int (-1), .int 0, .ref mq3, .ref mq4, .ref mq6, .ref mq8, .ref mq22])), (mq4, .inl (mc5, 0, .inr (.inr (.inr (.inr (fun _ => none))))))] s.heap := hP
  have hl := lv_entry ([.ref mx]) (n := 1) (Nat.le_of_ble_eq_true rfl)
  rw [lg_entry_eq]
  generalize (lg_sl ([.ref mx]) ++ List.replicate (1 - (lg_sl ([.ref mx])).length) Slot.unset).toArray = ls at hl ⊢
  have hl : lv_has ls 1 [(0, .ref mx)] := hl
  refine lv_aload_n hx hb dX24_drop_0 rfl (lv_at hl 0 rfl) ?_
  refine lv_iconst (v := 2) hx hb dX24_drop_1 (by decide) ?_
  have hPc := hP.sub (ws' := [(mx, .inr (15, [.ref mq1, .int 0, .int (-1), .int 0, .ref mq3, .ref mq4, .ref mq6, .ref mq8, .ref mq22])), (mq4, .inl (mc5, 0, .inr (.inr (.inr (.inr (fun _ => none))))))]) [0, 1] rfl
  have hDc := hD.sub (ws' := [(mx, .inr (15, [.ref mq1, .int 0, .int (-1), .int 0, .ref mq3, .ref mq4, .ref mq6, .ref mq8, .ref mq22])), (mq4, .inl (mc5, 0, .inr (.inr (.inr (.inr (fun _ => none))))))]) [0, 1] (by decide) rfl
  have hKc := hK.sub (tys' := [(mc5, .object RX14)]) [0] rfl
  have hFc := va_free (wc := [(mx, .inr (15, [.ref mq1, .int 0, .int (-1), .int 0, .ref mq3, .ref mq4, .ref mq6, .ref mq8, .ref mq22])), (mq4, .inl (mc5, 0, .inr (.inr (.inr (.inr (fun _ => none))))))]) hD hS hA [0, 1] rfl
  refine va_calli (va_runV (As := [.int 2]) (rest := []) ⟨hx, hb, hml, hown, hts⟩ (kX24_passAll_n44 l dC dI (a0 := mx) (a1 := mq1) (a2 := mq3) (a3 := mq4) (a4 := mq6) (a5 := mq8) (a6 := mq22) (k8 := mc5) (sz := _)) (cwV 1 hts (gi_V qw444 qw445 qw446 qw434 (gi_z qw443)) rfl rfl rfl (by decide +kernel) ⟨Nat.le_of_ble_eq_true rfl, Nat.le_of_ble_eq_true rfl⟩) ⟨PRE.blind, va_recv hKc hPc (ci := 15) (q0 := 0) rfl rfl, PRE.of hE hS hFc hPc hKc hDc⟩ rfl rfl hl.1 rfl (lv_room (Nat.le_of_ble_eq_true rfl)) dX24_drop_2 ⟨Nat.le_of_ble_eq_true rfl, Nat.le_of_ble_eq_true rfl⟩) hS (fun q _ h => hFc q h) hFc (fun r1 u t H locs ht hvm hw hB hz1 hk1 hS => ?_)
  obtain ⟨hP, hD, hK⟩ := JOIN (wr := []) hP hD hK [0, 1] [] [] rfl rfl (by decide) (by decide) rfl hk1 hFc ht hvm hB
  have hP : va_P (dC, dI) cls [(mx, .inr (15, [.ref mq1, .int 0, .int (-1), .int 0, .ref mq3, .ref mq4, .ref mq6, .ref mq8, .ref mq22])), (mq4, .inl (mc5, 0, .inr (.inr (.inr (.inr (fun _ => none))))))] H := hP
  have hD : va_D A [(mx, .inr (15, [.ref mq1, .int 0, .int (-1), .int 0, .ref mq3, .ref mq4, .ref mq6, .ref mq8, .ref mq22])), (mq4, .inl (mc5, 0, .inr (.inr (.inr (.inr (fun _ => none))))))] := hD
  have hK : va_K (dC, dI) cls [(mc5, .object RX14)] s := hK
  refine W.widen (k := 0) (n := 0) (Nat.le_of_ble_eq_true rfl) (Nat.le_of_ble_eq_true rfl) ?_
  obtain rfl : r1 = 0 := hw
  have hP9 : va_P (dC, dI) cls [(mx, .inr (15, [.ref mq1, .int 0, .int (-1), .int 0, .ref mq3, .ref mq4, .ref mq6, .ref mq8, .ref mq22]))] H := hP.sub [0] rfl
  have hD9 : va_D A [(mx, .inr (15, [.ref mq1, .int 0, .int (-1), .int 0, .ref mq3, .ref mq4, .ref mq6, .ref mq8, .ref mq22]))] := hD.sub [0] (by decide) rfl
  have hK9 : va_K (dC, dI) cls [] s := hK.sub [] rfl
  exact W.iret (v := 0) hx hb hr (fun t ht hW => ⟨⟨0, (), rfl, rfl, ⟨by rw [ht]; exact hP9, va_K.moved hW.alike hK9, hD9⟩⟩, hS.F ht⟩) hS.2.2 dX24_drop_5
set_option maxHeartbeats 4000000 in
set_option maxRecDepth 100000 in
/-- GearboxModel.passAll, from the state that its caller has -/
theorem kX24_passAll_n45 {zs : Nat × Nat} (l : Launch) (dC : Nat → ClassId) (dI : Nat → Nat → Nat) (a0 : Nat) (a1 : Nat) (a2 : Nat) (a3 : Nat) (a4 : Nat) (a5 : Nat) (a6 : Nat) (k8 : ClassId) (sz : Nat)  : Met l yX24_passAll (wz yX24_passAll cX24_passAll 7 (Option.some Jvm.ClassFile.FieldType.int)) ({ frames := 0, cells := 0, slots := 0, locals := 0 }) (va_Pc [.ref a0, .int 3] (PRE zs dC dI [(a0, .inr (15, [.ref a1, .int 0, .int (-1), .int 0, .ref a2, .ref a3, .ref a4, .ref a5, .ref a6])), (a3, .inl (k8, 0, .inr (.inr (.inr (.inr (fun _ => none))))))] [(k8, .object RX14)] sz)) (va_Qi (fun (r : Int32) (_ : Unit) => r = 0) (fun _ t => POST dC dI [(a0, .inr (15, [.ref a1, .int 0, .int (-1), .int 0, .ref a2, .ref a3, .ref a4, .ref a5, .ref a6])), (a3, .inl (k8, 0, .inr (.inr (.inr (.inr (fun _ => none))))))] [(k8, .object RX14)] (va_A [(a0, .inr (15, [.ref a1, .int 0, .int (-1), .int 0, .ref a2, .ref a3, .ref a4, .ref a5, .ref a6])), (a3, .inl (k8, 0, .inr (.inr (.inr (.inr (fun _ => none))))))] sz) t) (va_A [(a0, .inr (15, [.ref a1, .int 0, .int (-1), .int 0, .ref a2, .ref a3, .ref a4, .ref a5, .ref a6])), (a3, .inl (k8, 0, .inr (.inr (.inr (.inr (fun _ => none))))))] sz)) 0 0 (va_A [(a0, .inr (15, [.ref a1, .int 0, .int (-1), .int 0, .ref a2, .ref a3, .ref a4, .ref a5, .ref a6])), (a3, .inl (k8, 0, .inr (.inr (.inr (.inr (fun _ => none))))))] sz) := by
  refine Met.ofW (cc := cX24_passAll) (maxL := 7) (ret := (Option.some Jvm.ClassFile.FieldType.int)) (by decide) rfl ?_
  intro p e s m args below meth c s₁ B hml hv
  obtain ⟨rfl, hsz, hP, hK, hD0, hE⟩ := hv
  have hx := B.exec
  have hb := B.bytes
  have hr := B.returns
  have hts0 := atoms_spec (ws := wz yX24_passAll cX24_passAll 7 (Option.some Jvm.ClassFile.FieldType.int)) B.pre
  have hts : ∀ w ∈ gw, w.before _ s = true := fun w h => hts0 w (List.mem_cons_of_mem _ h)
  have hown : s.vm.findClass RX24 = some m.cls := findClass_of_methodNamed B.named
  have hlocks := B.notSynchronized
  subst hsz
  have hD := hD0.self (sz := s.heap.size)
  generalize hAe : va_A [(a0, .inr (15, [.ref a1, .int 0, .int (-1), .int 0, .ref a2, .ref a3, .ref a4, .ref a5, .ref a6])), (a3, .inl (k8, 0, .inr (.inr (.inr (.inr (fun _ => none))))))] s.heap.size = A at hD hE ⊢
  have hA : ∀ q : Nat, s.heap.size ≤ q → A q := fun q h => by rw [← hAe]; exact Or.inr h
  have hS : va_S A s.heap s.heap [] := va_S.rf
  have hP : va_P (dC, dI) cls [(a0, .inr (15, [.ref a1, .int 0, .int (-1), .int 0, .ref a2, .ref a3, .ref a4, .ref a5, .ref a6])), (a3, .inl (k8, 0, .inr (.inr (.inr (.inr (fun _ => none))))))] s.heap := hP
  have hl := lv_entry ([.ref a0, .int 3]) (n := 7) (Nat.le_of_ble_eq_true rfl)
  rw [lg_entry_eq]
  generalize (lg_sl ([.ref a0, .int 3]) ++ List.replicate (7 - (lg_sl ([.ref a0, .int 3])).length) Slot.unset).toArray = ls at hl ⊢
  have hl : lv_has ls 7 [(0, .ref a0), (1, .int 3)] := hl
  refine lv_aload_n hx hb dX24_passAll_0 rfl (lv_at hl 0 rfl) ?_
  refine lv_iconst (v := 0) hx hb dX24_passAll_1 (by decide) ?_
  refine va_put (D := (dC, dI)) (ci := 15) (v := .int 0) (ty := .int) (C := RX24) (T := TX24) (N := 9) hx hb hts i_X24 tyX24 tyX24_ok nmX24 hown hK hP hD hS 0 rfl rfl 3 (by decide) (hts _ qw428) (fun _ h9 => h9) rfl (by decide +kernel) rfl rfl (Nat.le_of_ble_eq_true rfl) dX24_passAll_2 (fun H locs hP hD hS => ?_)
  have hP : va_P (dC, dI) cls [(a0, .inr (15, [.ref a1, .int 0, .int (-1), .int 0, .ref a2, .ref a3, .ref a4, .ref a5, .ref a6])), (a3, .inl (k8, 0, .inr (.inr (.inr (.inr (fun _ => none))))))] H := hP
  have hD : va_D A [(a0, .inr (15, [.ref a1, .int 0, .int (-1), .int 0, .ref a2, .ref a3, .ref a4, .ref a5, .ref a6])), (a3, .inl (k8, 0, .inr (.inr (.inr (.inr (fun _ => none))))))] := hD
  refine lv_iconst (v := 0) hx hb dX24_passAll_5 (by decide) ?_
  refine lv_istore_n (lv' := [(2, .int 0), (0, .ref a0), (1, .int 3)]) hx hb dX24_passAll_6 rfl hl (by decide) rfl (fun ls hl => ?_)
  refine lv_aload_n hx hb dX24_passAll_7 rfl (lv_at hl 1 rfl) ?_
  refine va_get (D := (dC, dI)) (ci := 15) (v := .ref a3) (C := RX24) (T := TX24) (N := 9) hx hb hts i_X24 hown hK hP 0 rfl rfl 5 (by decide) (hts _ qw390) (fun _ h9 => h9) rfl dX24_passAll_8 ?_
  refine lv_astore_n (lv' := [(3, .ref a3), (2, .int 0), (0, .ref a0), (1, .int 3)]) hx hb dX24_passAll_11 rfl hl (by decide) rfl (fun ls hl => ?_)
  refine lv_aload_n hx hb dX24_passAll_12 rfl (lv_at hl 0 rfl) ?_
  refine va_alen (v := 0) hx hb hK hP 1 0 rfl rfl (by decide) dX24_passAll_13 ?_
  refine lv_istore (lv' := [(4, .int 0), (3, .ref a3), (2, .int 0), (0, .ref a0), (1, .int 3)]) hx hb dX24_passAll_14 hl (by decide) rfl (fun ls hl => ?_)
  refine lv_iconst (v := 0) hx hb dX24_passAll_16 (by decide) ?_
  refine lv_istore (lv' := [(5, .int 0), (4, .int 0), (3, .ref a3), (2, .int 0), (0, .ref a0), (1, .int 3)]) hx hb dX24_passAll_17 hl (by decide) rfl (fun ls hl => ?_)
  refine lv_iload hx hb dX24_passAll_19 (lv_at hl 0 rfl) ?_
  refine lv_iload hx hb dX24_passAll_21 (lv_at hl 1 rfl) ?_
  refine lv_icmp_ge (tgt := 47) hx hb dX24_passAll_23 (by decide) (fun _ => ?_) (fun c => absurd (by decide) c)
  refine lv_iload_n hx hb dX24_passAll_47 rfl (lv_at hl 3 rfl) ?_
  have hP9 : va_P (dC, dI) cls [(a0, .inr (15, [.ref a1, .int 0, .int (-1), .int 0, .ref a2, .ref a3, .ref a4, .ref a5, .ref a6])), (a3, .inl (k8, 0, .inr (.inr (.inr (.inr (fun _ => none))))))] H := hP.sub [0, 1] rfl
  have hD9 : va_D A [(a0, .inr (15, [.ref a1, .int 0, .int (-1), .int 0, .ref a2, .ref a3, .ref a4, .ref a5, .ref a6])), (a3, .inl (k8, 0, .inr (.inr (.inr (.inr (fun _ => none))))))] := hD.sub [0, 1] (by decide) rfl
  have hK9 : va_K (dC, dI) cls [(k8, .object RX14)] s := hK.sub [0] rfl
  exact W.iret (v := 0) hx hb hr (fun t ht hW => ⟨⟨0, (), rfl, rfl, ⟨by rw [ht]; exact hP9, va_K.moved hW.alike hK9, hD9⟩⟩, hS.F ht⟩) hS.2.2 dX24_passAll_48
set_option maxHeartbeats 4000000 in
set_option maxRecDepth 100000 in
theorem kX24_lift {zs : Nat × Nat} (l : Launch) (dC : Nat → ClassId) (dI : Nat → Nat → Nat) (mx : Nat) (mq1 : Nat) (mq3 : Nat) (mq4 : Nat) (mc5 : ClassId) (mq6 : Nat) (mq8 : Nat) (mq22 : Nat) (sz : Nat)  : Met l yX24_lift (wz yX24_lift cX24_lift 1 (Option.some Jvm.ClassFile.FieldType.int)) ({ frames := 1, cells := 0, slots := 0, locals := 26 }) (va_Pc [.ref mx] (PRE zs dC dI [(mx, .inr (15, [.ref mq1, .int 0, .int (-1), .int 0, .ref mq3, .ref mq4, .ref mq6, .ref mq8, .ref mq22])), (mq4, .inl (mc5, 0, .inr (.inr (.inr (.inr (fun _ => none))))))] [(mc5, .object RX14)] sz)) (va_Qi (fun (r : Int32) (_ : Unit) => r = 0) (fun _ t => POST dC dI [(mx, .inr (15, [.ref mq1, .int 0, .int (-1), .int 0, .ref mq3, .ref mq4, .ref mq6, .ref mq8, .ref mq22]))] [] (va_A [(mx, .inr (15, [.ref mq1, .int 0, .int (-1), .int 0, .ref mq3, .ref mq4, .ref mq6, .ref mq8, .ref mq22])), (mq4, .inl (mc5, 0, .inr (.inr (.inr (.inr (fun _ => none))))))] sz) t) (va_A [(mx, .inr (15, [.ref mq1, .int 0, .int (-1), .int 0, .ref mq3, .ref mq4, .ref mq6, .ref mq8, .ref mq22])), (mq4, .inl (mc5, 0, .inr (.inr (.inr (.inr (fun _ => none))))))] sz)) 0 0 (va_A [(mx, .inr (15, [.ref mq1, .int 0, .int (-1), .int 0, .ref mq3, .ref mq4, .ref mq6, .ref mq8, .ref mq22])), (mq4, .inl (mc5, 0, .inr (.inr (.inr (.inr (fun _ => none))))))] sz) := by
  refine Met.ofW (cc := cX24_lift) (maxL := 1) (ret := (Option.some Jvm.ClassFile.FieldType.int)) (by decide) rfl ?_
  intro p e s m args below meth c s₁ B hml hv
  obtain ⟨rfl, hsz, hP, hK, hD0, hE⟩ := hv
  have hx := B.exec
  have hb := B.bytes
  have hr := B.returns
  have hts0 := atoms_spec (ws := wz yX24_lift cX24_lift 1 (Option.some Jvm.ClassFile.FieldType.int)) B.pre
  have hts : ∀ w ∈ gw, w.before _ s = true := fun w h => hts0 w (List.mem_cons_of_mem _ h)
  have hown : s.vm.findClass RX24 = some m.cls := findClass_of_methodNamed B.named
  have hlocks := B.notSynchronized
  subst hsz
  have hD := hD0.self (sz := s.heap.size)
  generalize hAe : va_A [(mx, .inr (15, [.ref mq1, .int 0, .int (-1), .int 0, .ref mq3, .ref mq4, .ref mq6, .ref mq8, .ref mq22])), (mq4, .inl (mc5, 0, .inr (.inr (.inr (.inr (fun _ => none))))))] s.heap.size = A at hD hE ⊢
  have hA : ∀ q : Nat, s.heap.size ≤ q → A q := fun q h => by rw [← hAe]; exact Or.inr h
  have hS : va_S A s.heap s.heap [] := va_S.rf
  have hP : va_P (dC, dI) cls [(mx, .inr (15, [.ref mq1, .int 0, .int (-1), .int 0, .ref mq3, .ref mq4, .ref mq6, .ref mq8, .ref mq22])), (mq4, .inl (mc5, 0, .inr (.inr (.inr (.inr (fun _ => none))))))] s.heap := hP
  have hl := lv_entry ([.ref mx]) (n := 1) (Nat.le_of_ble_eq_true rfl)
  rw [lg_entry_eq]
  generalize (lg_sl ([.ref mx]) ++ List.replicate (1 - (lg_sl ([.ref mx])).length) Slot.unset).toArray = ls at hl ⊢
  have hl : lv_has ls 1 [(0, .ref mx)] := hl
  refine lv_aload_n hx hb dX24_lift_0 rfl (lv_at hl 0 rfl) ?_
  refine lv_iconst (v := 3) hx hb dX24_lift_1 (by decide) ?_
  have hPc := hP.sub (ws' := [(mx, .inr (15, [.ref mq1, .int 0, .int (-1), .int 0, .ref mq3, .ref mq4, .ref mq6, .ref mq8, .ref mq22])), (mq4, .inl (mc5, 0, .inr (.inr (.inr (.inr (fun _ => none))))))]) [0, 1] rfl
  have hDc := hD.sub (ws' := [(mx, .inr (15, [.ref mq1, .int 0, .int (-1), .int 0, .ref mq3, .ref mq4, .ref mq6, .ref mq8, .ref mq22])), (mq4, .inl (mc5, 0, .inr (.inr (.inr (.inr (fun _ => none))))))]) [0, 1] (by decide) rfl
  have hKc := hK.sub (tys' := [(mc5, .object RX14)]) [0] rfl
  have hFc := va_free (wc := [(mx, .inr (15, [.ref mq1, .int 0, .int (-1), .int 0, .ref mq3, .ref mq4, .ref mq6, .ref mq8, .ref mq22])), (mq4, .inl (mc5, 0, .inr (.inr (.inr (.inr (fun _ => none))))))]) hD hS hA [0, 1] rfl
  refine va_calli (va_runV (As := [.int 3]) (rest := []) ⟨hx, hb, hml, hown, hts⟩ (kX24_passAll_n45 l dC dI (a0 := mx) (a1 := mq1) (a2 := mq3) (a3 := mq4) (a4 := mq6) (a5 := mq8) (a6 := mq22) (k8 := mc5) (sz := _)) (cwV 1 hts (gi_V qw444 qw445 qw446 qw434 (gi_z qw443)) rfl rfl rfl (by decide +kernel) ⟨Nat.le_of_ble_eq_true rfl, Nat.le_of_ble_eq_true rfl⟩) ⟨PRE.blind, va_recv hKc hPc (ci := 15) (q0 := 0) rfl rfl, PRE.of hE hS hFc hPc hKc hDc⟩ rfl rfl hl.1 rfl (lv_room (Nat.le_of_ble_eq_true rfl)) dX24_lift_2 ⟨Nat.le_of_ble_eq_true rfl, Nat.le_of_ble_eq_true rfl⟩) hS (fun q _ h => hFc q h) hFc (fun r1 u t H locs ht hvm hw hB hz1 hk1 hS => ?_)
  obtain ⟨hP, hD, hK⟩ := JOIN (wr := []) hP hD hK [0, 1] [] [] rfl rfl (by decide) (by decide) rfl hk1 hFc ht hvm hB
  have hP : va_P (dC, dI) cls [(mx, .inr (15, [.ref mq1, .int 0, .int (-1), .int 0, .ref mq3, .ref mq4, .ref mq6, .ref mq8, .ref mq22])), (mq4, .inl (mc5, 0, .inr (.inr (.inr (.inr (fun _ => none))))))] H := hP
  have hD : va_D A [(mx, .inr (15, [.ref mq1, .int 0, .int (-1), .int 0, .ref mq3, .ref mq4, .ref mq6, .ref mq8, .ref mq22])), (mq4, .inl (mc5, 0, .inr (.inr (.inr (.inr (fun _ => none))))))] := hD
  have hK : va_K (dC, dI) cls [(mc5, .object RX14)] s := hK
  refine W.widen (k := 0) (n := 0) (Nat.le_of_ble_eq_true rfl) (Nat.le_of_ble_eq_true rfl) ?_
  obtain rfl : r1 = 0 := hw
  have hP9 : va_P (dC, dI) cls [(mx, .inr (15, [.ref mq1, .int 0, .int (-1), .int 0, .ref mq3, .ref mq4, .ref mq6, .ref mq8, .ref mq22]))] H := hP.sub [0] rfl
  have hD9 : va_D A [(mx, .inr (15, [.ref mq1, .int 0, .int (-1), .int 0, .ref mq3, .ref mq4, .ref mq6, .ref mq8, .ref mq22]))] := hD.sub [0] (by decide) rfl
  have hK9 : va_K (dC, dI) cls [] s := hK.sub [] rfl
  exact W.iret (v := 0) hx hb hr (fun t ht hW => ⟨⟨0, (), rfl, rfl, ⟨by rw [ht]; exact hP9, va_K.moved hW.alike hK9, hD9⟩⟩, hS.F ht⟩) hS.2.2 dX24_lift_5
set_option maxHeartbeats 4000000 in
set_option maxRecDepth 100000 in
/-- GearboxModel.passAll, from the state that its caller has -/
theorem kX24_passAll_n46 {zs : Nat × Nat} (l : Launch) (dC : Nat → ClassId) (dI : Nat → Nat → Nat) (a0 : Nat) (a1 : Nat) (a2 : Nat) (a3 : Nat) (a4 : Nat) (a5 : Nat) (a6 : Nat) (k8 : ClassId) (sz : Nat)  : Met l yX24_passAll (wz yX24_passAll cX24_passAll 7 (Option.some Jvm.ClassFile.FieldType.int)) ({ frames := 0, cells := 0, slots := 0, locals := 0 }) (va_Pc [.ref a0, .int 4] (PRE zs dC dI [(a0, .inr (15, [.ref a1, .int 0, .int (-1), .int 0, .ref a2, .ref a3, .ref a4, .ref a5, .ref a6])), (a3, .inl (k8, 0, .inr (.inr (.inr (.inr (fun _ => none))))))] [(k8, .object RX14)] sz)) (va_Qi (fun (r : Int32) (_ : Unit) => r = 0) (fun _ t => POST dC dI [(a0, .inr (15, [.ref a1, .int 0, .int (-1), .int 0, .ref a2, .ref a3, .ref a4, .ref a5, .ref a6])), (a3, .inl (k8, 0, .inr (.inr (.inr (.inr (fun _ => none))))))] [(k8, .object RX14)] (va_A [(a0, .inr (15, [.ref a1, .int 0, .int (-1), .int 0, .ref a2, .ref a3, .ref a4, .ref a5, .ref a6])), (a3, .inl (k8, 0, .inr (.inr (.inr (.inr (fun _ => none))))))] sz) t) (va_A [(a0, .inr (15, [.ref a1, .int 0, .int (-1), .int 0, .ref a2, .ref a3, .ref a4, .ref a5, .ref a6])), (a3, .inl (k8, 0, .inr (.inr (.inr (.inr (fun _ => none))))))] sz)) 0 0 (va_A [(a0, .inr (15, [.ref a1, .int 0, .int (-1), .int 0, .ref a2, .ref a3, .ref a4, .ref a5, .ref a6])), (a3, .inl (k8, 0, .inr (.inr (.inr (.inr (fun _ => none))))))] sz) := by
  refine Met.ofW (cc := cX24_passAll) (maxL := 7) (ret := (Option.some Jvm.ClassFile.FieldType.int)) (by decide) rfl ?_
  intro p e s m args below meth c s₁ B hml hv
  obtain ⟨rfl, hsz, hP, hK, hD0, hE⟩ := hv
  have hx := B.exec
  have hb := B.bytes
  have hr := B.returns
  have hts0 := atoms_spec (ws := wz yX24_passAll cX24_passAll 7 (Option.some Jvm.ClassFile.FieldType.int)) B.pre
  have hts : ∀ w ∈ gw, w.before _ s = true := fun w h => hts0 w (List.mem_cons_of_mem _ h)
  have hown : s.vm.findClass RX24 = some m.cls := findClass_of_methodNamed B.named
  have hlocks := B.notSynchronized
  subst hsz
  have hD := hD0.self (sz := s.heap.size)
  generalize hAe : va_A [(a0, .inr (15, [.ref a1, .int 0, .int (-1), .int 0, .ref a2, .ref a3, .ref a4, .ref a5, .ref a6])), (a3, .inl (k8, 0, .inr (.inr (.inr (.inr (fun _ => none))))))] s.heap.size = A at hD hE ⊢
  have hA : ∀ q : Nat, s.heap.size ≤ q → A q := fun q h => by rw [← hAe]; exact Or.inr h
  have hS : va_S A s.heap s.heap [] := va_S.rf
  have hP : va_P (dC, dI) cls [(a0, .inr (15, [.ref a1, .int 0, .int (-1), .int 0, .ref a2, .ref a3, .ref a4, .ref a5, .ref a6])), (a3, .inl (k8, 0, .inr (.inr (.inr (.inr (fun _ => none))))))] s.heap := hP
  have hl := lv_entry ([.ref a0, .int 4]) (n := 7) (Nat.le_of_ble_eq_true rfl)
  rw [lg_entry_eq]
  generalize (lg_sl ([.ref a0, .int 4]) ++ List.replicate (7 - (lg_sl ([.ref a0, .int 4])).length) Slot.unset).toArray = ls at hl ⊢
  have hl : lv_has ls 7 [(0, .ref a0), (1, .int 4)] := hl
  refine lv_aload_n hx hb dX24_passAll_0 rfl (lv_at hl 0 rfl) ?_
  refine lv_iconst (v := 0) hx hb dX24_passAll_1 (by decide) ?_
  refine va_put (D := (dC, dI)) (ci := 15) (v := .int 0) (ty := .int) (C := RX24) (T := TX24) (N := 9) hx hb hts i_X24 tyX24 tyX24_ok nmX24 hown hK hP hD hS 0 rfl rfl 3 (by decide) (hts _ qw428) (fun _ h9 => h9) rfl (by decide +kernel) rfl rfl (Nat.le_of_ble_eq_true rfl) dX24_passAll_2 (fun H locs hP hD hS => ?_)
  have hP : va_P (dC, dI) cls [(a0, .inr (15, [.ref a1, .int 0, .int (-1), .int 0, .ref a2, .ref a3, .ref a4, .ref a5, .ref a6])), (a3, .inl (k8, 0, .inr (.inr (.inr (.inr (fun _ => none))))))] H := hP
  have hD : va_D A [(a0, .inr (15, [.ref a1, .int 0, .int (-1), .int 0, .ref a2, .ref a3, .ref a4, .ref a5, .ref a6])), (a3, .inl (k8, 0, .inr (.inr (.inr (.inr (fun _ => none))))))] := hD
  refine lv_iconst (v := 0) hx hb dX24_passAll_5 (by decide) ?_
  refine lv_istore_n (lv' := [(2, .int 0), (0, .ref a0), (1, .int 4)]) hx hb dX24_passAll_6 rfl hl (by decide) rfl (fun ls hl => ?_)
  refine lv_aload_n hx hb dX24_passAll_7 rfl (lv_at hl 1 rfl) ?_
  refine va_get (D := (dC, dI)) (ci := 15) (v := .ref a3) (C := RX24) (T := TX24) (N := 9) hx hb hts i_X24 hown hK hP 0 rfl rfl 5 (by decide) (hts _ qw390) (fun _ h9 => h9) rfl dX24_passAll_8 ?_
  refine lv_astore_n (lv' := [(3, .ref a3), (2, .int 0), (0, .ref a0), (1, .int 4)]) hx hb dX24_passAll_11 rfl hl (by decide) rfl (fun ls hl => ?_)
  refine lv_aload_n hx hb dX24_passAll_12 rfl (lv_at hl 0 rfl) ?_
  refine va_alen (v := 0) hx hb hK hP 1 0 rfl rfl (by decide) dX24_passAll_13 ?_
  refine lv_istore (lv' := [(4, .int 0), (3, .ref a3), (2, .int 0), (0, .ref a0), (1, .int 4)]) hx hb dX24_passAll_14 hl (by decide) rfl (fun ls hl => ?_)
  refine lv_iconst (v := 0) hx hb dX24_passAll_16 (by decide) ?_
  refine lv_istore (lv' := [(5, .int 0), (4, .int 0), (3, .ref a3), (2, .int 0), (0, .ref a0), (1, .int 4)]) hx hb dX24_passAll_17 hl (by decide) rfl (fun ls hl => ?_)
  refine lv_iload hx hb dX24_passAll_19 (lv_at hl 0 rfl) ?_
  refine lv_iload hx hb dX24_passAll_21 (lv_at hl 1 rfl) ?_
  refine lv_icmp_ge (tgt := 47) hx hb dX24_passAll_23 (by decide) (fun _ => ?_) (fun c => absurd (by decide) c)
  refine lv_iload_n hx hb dX24_passAll_47 rfl (lv_at hl 3 rfl) ?_
  have hP9 : va_P (dC, dI) cls [(a0, .inr (15, [.ref a1, .int 0, .int (-1), .int 0, .ref a2, .ref a3, .ref a4, .ref a5, .ref a6])), (a3, .inl (k8, 0, .inr (.inr (.inr (.inr (fun _ => none))))))] H := hP.sub [0, 1] rfl
  have hD9 : va_D A [(a0, .inr (15, [.ref a1, .int 0, .int (-1), .int 0, .ref a2, .ref a3, .ref a4, .ref a5, .ref a6])), (a3, .inl (k8, 0, .inr (.inr (.inr (.inr (fun _ => none))))))] := hD.sub [0, 1] (by decide) rfl
  have hK9 : va_K (dC, dI) cls [(k8, .object RX14)] s := hK.sub [0] rfl
  exact W.iret (v := 0) hx hb hr (fun t ht hW => ⟨⟨0, (), rfl, rfl, ⟨by rw [ht]; exact hP9, va_K.moved hW.alike hK9, hD9⟩⟩, hS.F ht⟩) hS.2.2 dX24_passAll_48
set_option maxHeartbeats 4000000 in
set_option maxRecDepth 100000 in
theorem kX24_merge {zs : Nat × Nat} (l : Launch) (dC : Nat → ClassId) (dI : Nat → Nat → Nat) (mx : Nat) (mq1 : Nat) (mq3 : Nat) (mq4 : Nat) (mc5 : ClassId) (mq6 : Nat) (mq8 : Nat) (mq22 : Nat) (sz : Nat)  : Met l yX24_merge (wz yX24_merge cX24_merge 1 (Option.some Jvm.ClassFile.FieldType.int)) ({ frames := 1, cells := 0, slots := 0, locals := 26 }) (va_Pc [.ref mx] (PRE zs dC dI [(mx, .inr (15, [.ref mq1, .int 0, .int (-1), .int 0, .ref mq3, .ref mq4, .ref mq6, .ref mq8, .ref mq22])), (mq4, .inl (mc5, 0, .inr (.inr (.inr (.inr (fun _ => none))))))] [(mc5, .object RX14)] sz)) (va_Qi (fun (r : Int32) (_ : Unit) => r = 0) (fun _ t => POST dC dI [(mx, .inr (15, [.ref mq1, .int 0, .int (-1), .int 0, .ref mq3, .ref mq4, .ref mq6, .ref mq8, .ref mq22]))] [] (va_A [(mx, .inr (15, [.ref mq1, .int 0, .int (-1), .int 0, .ref mq3, .ref mq4, .ref mq6, .ref mq8, .ref mq22])), (mq4, .inl (mc5, 0, .inr (.inr (.inr (.inr (fun _ => none))))))] sz) t) (va_A [(mx, .inr (15, [.ref mq1, .int 0, .int (-1), .int 0, .ref mq3, .ref mq4, .ref mq6, .ref mq8, .ref mq22])), (mq4, .inl (mc5, 0, .inr (.inr (.inr (.inr (fun _ => none))))))] sz)) 0 0 (va_A [(mx, .inr (15, [.ref mq1, .int 0, .int (-1), .int 0, .ref mq3, .ref mq4, .ref mq6, .ref mq8, .ref mq22])), (mq4, .inl (mc5, 0, .inr (.inr (.inr (.inr (fun _ => none))))))] sz) := by
  refine Met.ofW (cc := cX24_merge) (maxL := 1) (ret := (Option.some Jvm.ClassFile.FieldType.int)) (by decide) rfl ?_
  intro p e s m args below meth c s₁ B hml hv
  obtain ⟨rfl, hsz, hP, hK, hD0, hE⟩ := hv
  have hx := B.exec
  have hb := B.bytes
  have hr := B.returns
  have hts0 := atoms_spec (ws := wz yX24_merge cX24_merge 1 (Option.some Jvm.ClassFile.FieldType.int)) B.pre
  have hts : ∀ w ∈ gw, w.before _ s = true := fun w h => hts0 w (List.mem_cons_of_mem _ h)
  have hown : s.vm.findClass RX24 = some m.cls := findClass_of_methodNamed B.named
  have hlocks := B.notSynchronized
  subst hsz
  have hD := hD0.self (sz := s.heap.size)
  generalize hAe : va_A [(mx, .inr (15, [.ref mq1, .int 0, .int (-1), .int 0, .ref mq3, .ref mq4, .ref mq6, .ref mq8, .ref mq22])), (mq4, .inl (mc5, 0, .inr (.inr (.inr (.inr (fun _ => none))))))] s.heap.size = A at hD hE ⊢
  have hA : ∀ q : Nat, s.heap.size ≤ q → A q := fun q h => by rw [← hAe]; exact Or.inr h
  have hS : va_S A s.heap s.heap [] := va_S.rf
  have hP : va_P (dC, dI) cls [(mx, .inr (15, [.ref mq1, .int 0, .int (-1), .int 0, .ref mq3, .ref mq4, .ref mq6, .ref mq8, .ref mq22])), (mq4, .inl (mc5, 0, .inr (.inr (.inr (.inr (fun _ => none))))))] s.heap := hP
  have hl := lv_entry ([.ref mx]) (n := 1) (Nat.le_of_ble_eq_true rfl)
  rw [lg_entry_eq]
  generalize (lg_sl ([.ref mx]) ++ List.replicate (1 - (lg_sl ([.ref mx])).length) Slot.unset).toArray = ls at hl ⊢
  have hl : lv_has ls 1 [(0, .ref mx)] := hl
  refine lv_aload_n hx hb dX24_merge_0 rfl (lv_at hl 0 rfl) ?_
  refine lv_iconst (v := 4) hx hb dX24_merge_1 (by decide) ?_
  have hPc := hP.sub (ws' := [(mx, .inr (15, [.ref mq1, .int 0, .int (-1), .int 0, .ref mq3, .ref mq4, .ref mq6, .ref mq8, .ref mq22])), (mq4, .inl (mc5, 0, .inr (.inr (.inr (.inr (fun _ => none))))))]) [0, 1] rfl
  have hDc := hD.sub (ws' := [(mx, .inr (15, [.ref mq1, .int 0, .int (-1), .int 0, .ref mq3, .ref mq4, .ref mq6, .ref mq8, .ref mq22])), (mq4, .inl (mc5, 0, .inr (.inr (.inr (.inr (fun _ => none))))))]) [0, 1] (by decide) rfl
  have hKc := hK.sub (tys' := [(mc5, .object RX14)]) [0] rfl
  have hFc := va_free (wc := [(mx, .inr (15, [.ref mq1, .int 0, .int (-1), .int 0, .ref mq3, .ref mq4, .ref mq6, .ref mq8, .ref mq22])), (mq4, .inl (mc5, 0, .inr (.inr (.inr (.inr (fun _ => none))))))]) hD hS hA [0, 1] rfl
  refine va_calli (va_runV (As := [.int 4]) (rest := []) ⟨hx, hb, hml, hown, hts⟩ (kX24_passAll_n46 l dC dI (a0 := mx) (a1 := mq1) (a2 := mq3) (a3 := mq4) (a4 := mq6) (a5 := mq8) (a6 := mq22) (k8 := mc5) (sz := _)) (cwV 1 hts (gi_V qw444 qw445 qw446 qw434 (gi_z qw443)) rfl rfl rfl (by decide +kernel) ⟨Nat.le_of_ble_eq_true rfl, Nat.le_of_ble_eq_true rfl⟩) ⟨PRE.blind, va_recv hKc hPc (ci := 15) (q0 := 0) rfl rfl, PRE.of hE hS hFc hPc hKc hDc⟩ rfl rfl hl.1 rfl (lv_room (Nat.le_of_ble_eq_true rfl)) dX24_merge_2 ⟨Nat.le_of_ble_eq_true rfl, Nat.le_of_ble_eq_true rfl⟩) hS (fun q _ h => hFc q h) hFc (fun r1 u t H locs ht hvm hw hB hz1 hk1 hS => ?_)
  obtain ⟨hP, hD, hK⟩ := JOIN (wr := []) hP hD hK [0, 1] [] [] rfl rfl (by decide) (by decide) rfl hk1 hFc ht hvm hB
  have hP : va_P (dC, dI) cls [(mx, .inr (15, [.ref mq1, .int 0, .int (-1), .int 0, .ref mq3, .ref mq4, .ref mq6, .ref mq8, .ref mq22])), (mq4, .inl (mc5, 0, .inr (.inr (.inr (.inr (fun _ => none))))))] H := hP
  have hD : va_D A [(mx, .inr (15, [.ref mq1, .int 0, .int (-1), .int 0, .ref mq3, .ref mq4, .ref mq6, .ref mq8, .ref mq22])), (mq4, .inl (mc5, 0, .inr (.inr (.inr (.inr (fun _ => none))))))] := hD
  have hK : va_K (dC, dI) cls [(mc5, .object RX14)] s := hK
  refine W.widen (k := 0) (n := 0) (Nat.le_of_ble_eq_true rfl) (Nat.le_of_ble_eq_true rfl) ?_
  obtain rfl : r1 = 0 := hw
  have hP9 : va_P (dC, dI) cls [(mx, .inr (15, [.ref mq1, .int 0, .int (-1), .int 0, .ref mq3, .ref mq4, .ref mq6, .ref mq8, .ref mq22]))] H := hP.sub [0] rfl
  have hD9 : va_D A [(mx, .inr (15, [.ref mq1, .int 0, .int (-1), .int 0, .ref mq3, .ref mq4, .ref mq6, .ref mq8, .ref mq22]))] := hD.sub [0] (by decide) rfl
  have hK9 : va_K (dC, dI) cls [] s := hK.sub [] rfl
  exact W.iret (v := 0) hx hb hr (fun t ht hW => ⟨⟨0, (), rfl, rfl, ⟨by rw [ht]; exact hP9, va_K.moved hW.alike hK9, hD9⟩⟩, hS.F ht⟩) hS.2.2 dX24_merge_5
set_option maxHeartbeats 4000000 in
set_option maxRecDepth 100000 in
theorem kX24_outcome {zs : Nat × Nat} (l : Launch) (dC : Nat → ClassId) (dI : Nat → Nat → Nat) (mx : Nat) (mq1 : Nat) (mq3 : Nat) (mq4 : Nat) (mq6 : Nat) (mq8 : Nat) (mq9 : Nat) (mq11 : Nat) (mq12 : Nat) (mq13 : Nat) (mq14 : Nat) (mq15 : Nat) (mq16 : Nat) (mq17 : Nat) (mq18 : Nat) (mq19 : Nat) (mq20 : Nat) (mq21 : Nat) (mq22 : Nat) (sz : Nat)  : Met l yX24_outcome (wz yX24_outcome cX24_outcome 1 (Option.some Jvm.ClassFile.FieldType.int)) ({ frames := 1, cells := 0, slots := 0, locals := 21 }) (va_Pc [.ref mx] (PRE zs dC dI [(mx, .inr (15, [.ref mq1, .int 0, .int (-1), .int 0, .ref mq3, .ref mq4, .ref mq6, .ref mq8, .ref mq22])), (mq8, .inr (14, [.ref mq9, .int 0, .int 0, .int 0, .null, .ref mq11, .ref mq12, .ref mq13, .ref mq14, .ref mq15, .int 0, .int 0, .ref mq16, .ref mq17, .ref mq18, .ref mq19, .ref mq20, .ref mq21]))] [] sz)) (va_Qi (fun (r : Int32) (_ : Unit) => r = 0) (fun _ t => POST dC dI [(mx, .inr (15, [.ref mq1, .int 0, .int (-1), .int 0, .ref mq3, .ref mq4, .ref mq6, .ref mq8, .ref mq22]))] [] (va_A [(mx, .inr (15, [.ref mq1, .int 0, .int (-1), .int 0, .ref mq3, .ref mq4, .ref mq6, .ref mq8, .ref mq22])), (mq8, .inr (14, [.ref mq9, .int 0, .int 0, .int 0, .null, .ref mq11, .ref mq12, .ref mq13, .ref mq14, .ref mq15, .int 0, .int 0, .ref mq16, .ref mq17, .ref mq18, .ref mq19, .ref mq20, .ref mq21]))] sz) t) (va_A [(mx, .inr (15, [.ref mq1, .int 0, .int (-1), .int 0, .ref mq3, .ref mq4, .ref mq6, .ref mq8, .ref mq22])), (mq8, .inr (14, [.ref mq9, .int 0, .int 0, .int 0, .null, .ref mq11, .ref mq12, .ref mq13, .ref mq14, .ref mq15, .int 0, .int 0, .ref mq16, .ref mq17, .ref mq18, .ref mq19, .ref mq20, .ref mq21]))] sz)) 0 0 (va_A [(mx, .inr (15, [.ref mq1, .int 0, .int (-1), .int 0, .ref mq3, .ref mq4, .ref mq6, .ref mq8, .ref mq22])), (mq8, .inr (14, [.ref mq9, .int 0, .int 0, .int 0, .null, .ref mq11, .ref mq12, .ref mq13, .ref mq14, .ref mq15, .int 0, .int 0, .ref mq16, .ref mq17, .ref mq18, .ref mq19, .ref mq20, .ref mq21]))] sz) := by
  refine Met.ofW (cc := cX24_outcome) (maxL := 1) (ret := (Option.some Jvm.ClassFile.FieldType.int)) (by decide) rfl ?_
  intro p e s m args below meth c s₁ B hml hv
  obtain ⟨rfl, hsz, hP, hK, hD0, hE⟩ := hv
  have hx := B.exec
  have hb := B.bytes
  have hr := B.returns
  have hts0 := atoms_spec (ws := wz yX24_outcome cX24_outcome 1 (Option.some Jvm.ClassFile.FieldType.int)) B.pre
  have hts : ∀ w ∈ gw, w.before _ s = true := fun w h => hts0 w (List.mem_cons_of_mem _ h)
  have hown : s.vm.findClass RX24 = some m.cls := findClass_of_methodNamed B.named
  have hlocks := B.notSynchronized
  subst hsz
  have hD := hD0.self (sz := s.heap.size)
  generalize hAe : va_A [(mx, .inr (15, [.ref mq1, .int 0, .int (-1), .int 0, .ref mq3, .ref mq4, .ref mq6, .ref mq8, .ref mq22])), (mq8, .inr (14, [.ref mq9, .int 0, .int 0, .int 0, .null, .ref mq11, .ref mq12, .ref mq13, .ref mq14, .ref mq15, .int 0, .int 0, .ref mq16, .ref mq17, .ref mq18, .ref mq19, .ref mq20, .ref mq21]))] s.heap.size = A at hD hE ⊢
  have hA : ∀ q : Nat, s.heap.size ≤ q → A q := fun q h => by rw [← hAe]; exact Or.inr h
  have hS : va_S A s.heap s.heap [] := va_S.rf
  have hP : va_P (dC, dI) cls [(mx, .inr (15, [.ref mq1, .int 0, .int (-1), .int 0, .ref mq3, .ref mq4, .ref mq6, .ref mq8, .ref mq22])), (mq8, .inr (14, [.ref mq9, .int 0, .int 0, .int 0, .null, .ref mq11, .ref mq12, .ref mq13, .ref mq14, .ref mq15, .int 0, .int 0, .ref mq16, .ref mq17, .ref mq18, .ref mq19, .ref mq20, .ref mq21]))] s.heap := hP
  have hl := lv_entry ([.ref mx]) (n := 1) (Nat.le_of_ble_eq_true rfl)
  rw [lg_entry_eq]
  generalize (lg_sl ([.ref mx]) ++ List.replicate (1 - (lg_sl ([.ref mx])).length) Slot.unset).toArray = ls at hl ⊢
  have hl : lv_has ls 1 [(0, .ref mx)] := hl
  refine lv_aload_n hx hb dX24_outcome_0 rfl (lv_at hl 0 rfl) ?_
  refine lv_aload_n hx hb dX24_outcome_1 rfl (lv_at hl 0 rfl) ?_
  refine va_get (D := (dC, dI)) (ci := 15) (v := .ref mq8) (C := RX24) (T := TX24) (N := 9) hx hb hts i_X24 hown hK hP 0 rfl rfl 7 (by decide) (hts _ qw398) (fun _ h9 => h9) rfl dX24_outcome_2 ?_
  refine va_get (D := (dC, dI)) (ci := 14) (v := .int 0) (C := RX21) (T := TX21) (N := 18) hx hb hts i_X21 hown hK hP 1 rfl rfl 1 (by decide) (hts _ qw447) (fun _ h9 => h9) rfl dX24_outcome_5 ?_
  have hPc := hP.sub (ws' := [(mx, .inr (15, [.ref mq1, .int 0, .int (-1), .int 0, .ref mq3, .ref mq4, .ref mq6, .ref mq8, .ref mq22]))]) [0] rfl
  have hDc := hD.sub (ws' := [(mx, .inr (15, [.ref mq1, .int 0, .int (-1), .int 0, .ref mq3, .ref mq4, .ref mq6, .ref mq8, .ref mq22]))]) [0] (by decide) rfl
  have hKc := hK.sub (tys' := []) [] rfl
  have hFc := va_free (wc := [(mx, .inr (15, [.ref mq1, .int 0, .int (-1), .int 0, .ref mq3, .ref mq4, .ref mq6, .ref mq8, .ref mq22]))]) hD hS hA [0] rfl
  refine va_calli (va_runV (As := [.int 0]) (rest := []) ⟨hx, hb, hml, hown, hts⟩ (kX24_ok_n41 l dC dI (a0 := mx) (a1 := mq1) (a2 := mq3) (a3 := mq4) (a4 := mq6) (a5 := mq8) (a6 := mq22) (sz := _)) (cwV 1 hts (gi_V qw440 qw441 qw442 qw434 (gi_z qw439)) rfl rfl rfl (by decide +kernel) ⟨Nat.le_of_ble_eq_true rfl, Nat.le_of_ble_eq_true rfl⟩) ⟨PRE.blind, va_recv hKc hPc (ci := 15) (q0 := 0) rfl rfl, PRE.of hE hS hFc hPc hKc hDc⟩ rfl rfl hl.1 rfl (lv_room (Nat.le_of_ble_eq_true rfl)) dX24_outcome_8 ⟨Nat.le_of_ble_eq_true rfl, Nat.le_of_ble_eq_true rfl⟩) hS (fun q _ h => hFc q h) hFc (fun r1 u t H locs ht hvm hw hB hz1 hk1 hS => ?_)
  obtain ⟨hP, hD, hK⟩ := JOIN (wr := [(mq8, .inr (14, [.ref mq9, .int 0, .int 0, .int 0, .null, .ref mq11, .ref mq12, .ref mq13, .ref mq14, .ref mq15, .int 0, .int 0, .ref mq16, .ref mq17, .ref mq18, .ref mq19, .ref mq20, .ref mq21]))]) hP hD hK [0] [1] [] rfl rfl (by decide) (by decide) rfl hk1 hFc ht hvm hB
  have hP : va_P (dC, dI) cls [(mq8, .inr (14, [.ref mq9, .int 0, .int 0, .int 0, .null, .ref mq11, .ref mq12, .ref mq13, .ref mq14, .ref mq15, .int 0, .int 0, .ref mq16, .ref mq17, .ref mq18, .ref mq19, .ref mq20, .ref mq21])), (mx, .inr (15, [.ref mq1, .int 0, .int (-1), .int 0, .ref mq3, .ref mq4, .ref mq6, .ref mq8, .ref mq22]))] H := hP
  have hD : va_D A [(mq8, .inr (14, [.ref mq9, .int 0, .int 0, .int 0, .null, .ref mq11, .ref mq12, .ref mq13, .ref mq14, .ref mq15, .int 0, .int 0, .ref mq16, .ref mq17, .ref mq18, .ref mq19, .ref mq20, .ref mq21])), (mx, .inr (15, [.ref mq1, .int 0, .int (-1), .int 0, .ref mq3, .ref mq4, .ref mq6, .ref mq8, .ref mq22]))] := hD
  have hK : va_K (dC, dI) cls [] s := hK
  refine W.widen (k := 0) (n := 0) (Nat.le_of_ble_eq_true rfl) (Nat.le_of_ble_eq_true rfl) ?_
  obtain rfl : r1 = 0 := hw
  have hP9 : va_P (dC, dI) cls [(mx, .inr (15, [.ref mq1, .int 0, .int (-1), .int 0, .ref mq3, .ref mq4, .ref mq6, .ref mq8, .ref mq22]))] H := hP.sub [1] rfl
  have hD9 : va_D A [(mx, .inr (15, [.ref mq1, .int 0, .int (-1), .int 0, .ref mq3, .ref mq4, .ref mq6, .ref mq8, .ref mq22]))] := hD.sub [1] (by decide) rfl
  have hK9 : va_K (dC, dI) cls [] s := hK.sub [] rfl
  exact W.iret (v := 0) hx hb hr (fun t ht hW => ⟨⟨0, (), rfl, rfl, ⟨by rw [ht]; exact hP9, va_K.moved hW.alike hK9, hD9⟩⟩, hS.F ht⟩) hS.2.2 dX24_outcome_11
set_option maxHeartbeats 4000000 in
set_option maxRecDepth 100000 in
theorem kX24_result {zs : Nat × Nat} (l : Launch) (dC : Nat → ClassId) (dI : Nat → Nat → Nat) (mx : Nat) (mq1 : Nat) (mq3 : Nat) (mq4 : Nat) (mq6 : Nat) (mq8 : Nat) (mq9 : Nat) (mq11 : Nat) (mq12 : Nat) (mq13 : Nat) (mq14 : Nat) (mq15 : Nat) (mq16 : Nat) (mq17 : Nat) (mq18 : Nat) (mq19 : Nat) (mq20 : Nat) (mq21 : Nat) (mq22 : Nat) (sz : Nat)  : Met l yX24_result (wz yX24_result cX24_result 1 (Option.some Jvm.ClassFile.FieldType.int)) ({ frames := 1, cells := 0, slots := 0, locals := 21 }) (va_Pc [.ref mx] (PRE zs dC dI [(mx, .inr (15, [.ref mq1, .int 0, .int (-1), .int 0, .ref mq3, .ref mq4, .ref mq6, .ref mq8, .ref mq22])), (mq8, .inr (14, [.ref mq9, .int 0, .int 0, .int 0, .null, .ref mq11, .ref mq12, .ref mq13, .ref mq14, .ref mq15, .int 0, .int 0, .ref mq16, .ref mq17, .ref mq18, .ref mq19, .ref mq20, .ref mq21]))] [] sz)) (va_Qi (fun (r : Int32) (_ : Unit) => r = 0) (fun _ t => POST dC dI [(mx, .inr (15, [.ref mq1, .int 0, .int (-1), .int 0, .ref mq3, .ref mq4, .ref mq6, .ref mq8, .ref mq22]))] [] (va_A [(mx, .inr (15, [.ref mq1, .int 0, .int (-1), .int 0, .ref mq3, .ref mq4, .ref mq6, .ref mq8, .ref mq22])), (mq8, .inr (14, [.ref mq9, .int 0, .int 0, .int 0, .null, .ref mq11, .ref mq12, .ref mq13, .ref mq14, .ref mq15, .int 0, .int 0, .ref mq16, .ref mq17, .ref mq18, .ref mq19, .ref mq20, .ref mq21]))] sz) t) (va_A [(mx, .inr (15, [.ref mq1, .int 0, .int (-1), .int 0, .ref mq3, .ref mq4, .ref mq6, .ref mq8, .ref mq22])), (mq8, .inr (14, [.ref mq9, .int 0, .int 0, .int 0, .null, .ref mq11, .ref mq12, .ref mq13, .ref mq14, .ref mq15, .int 0, .int 0, .ref mq16, .ref mq17, .ref mq18, .ref mq19, .ref mq20, .ref mq21]))] sz)) 0 0 (va_A [(mx, .inr (15, [.ref mq1, .int 0, .int (-1), .int 0, .ref mq3, .ref mq4, .ref mq6, .ref mq8, .ref mq22])), (mq8, .inr (14, [.ref mq9, .int 0, .int 0, .int 0, .null, .ref mq11, .ref mq12, .ref mq13, .ref mq14, .ref mq15, .int 0, .int 0, .ref mq16, .ref mq17, .ref mq18, .ref mq19, .ref mq20, .ref mq21]))] sz) := by
  refine Met.ofW (cc := cX24_result) (maxL := 1) (ret := (Option.some Jvm.ClassFile.FieldType.int)) (by decide) rfl ?_
  intro p e s m args below meth c s₁ B hml hv
  obtain ⟨rfl, hsz, hP, hK, hD0, hE⟩ := hv
  have hx := B.exec
  have hb := B.bytes
  have hr := B.returns
  have hts0 := atoms_spec (ws := wz yX24_result cX24_result 1 (Option.some Jvm.ClassFile.FieldType.int)) B.pre
  have hts : ∀ w ∈ gw, w.before _ s = true := fun w h => hts0 w (List.mem_cons_of_mem _ h)
  have hown : s.vm.findClass RX24 = some m.cls := findClass_of_methodNamed B.named
  have hlocks := B.notSynchronized
  subst hsz
  have hD := hD0.self (sz := s.heap.size)
  generalize hAe : va_A [(mx, .inr (15, [.ref mq1, .int 0, .int (-1), .int 0, .ref mq3, .ref mq4, .ref mq6, .ref mq8, .ref mq22])), (mq8, .inr (14, [.ref mq9, .int 0, .int 0, .int 0, .null, .ref mq11, .ref mq12, .ref mq13, .ref mq14, .ref mq15, .int 0, .int 0, .ref mq16, .ref mq17, .ref mq18, .ref mq19, .ref mq20, .ref mq21]))] s.heap.size = A at hD hE ⊢
  have hA : ∀ q : Nat, s.heap.size ≤ q → A q := fun q h => by rw [← hAe]; exact Or.inr h
  have hS : va_S A s.heap s.heap [] := va_S.rf
  have hP : va_P (dC, dI) cls [(mx, .inr (15, [.ref mq1, .int 0, .int (-1), .int 0, .ref mq3, .ref mq4, .ref mq6, .ref mq8, .ref mq22])), (mq8, .inr (14, [.ref mq9, .int 0, .int 0, .int 0, .null, .ref mq11, .ref mq12, .ref mq13, .ref mq14, .ref mq15, .int 0, .int 0, .ref mq16, .ref mq17, .ref mq18, .ref mq19, .ref mq20, .ref mq21]))] s.heap := hP
  have hl := lv_entry ([.ref mx]) (n := 1) (Nat.le_of_ble_eq_true rfl)
  rw [lg_entry_eq]
  generalize (lg_sl ([.ref mx]) ++ List.replicate (1 - (lg_sl ([.ref mx])).length) Slot.unset).toArray = ls at hl ⊢
  have hl : lv_has ls 1 [(0, .ref mx)] := hl
  refine lv_aload_n hx hb dX24_result_0 rfl (lv_at hl 0 rfl) ?_
  refine lv_aload_n hx hb dX24_result_1 rfl (lv_at hl 0 rfl) ?_
  refine va_get (D := (dC, dI)) (ci := 15) (v := .ref mq8) (C := RX24) (T := TX24) (N := 9) hx hb hts i_X24 hown hK hP 0 rfl rfl 7 (by decide) (hts _ qw398) (fun _ h9 => h9) rfl dX24_result_2 ?_
  refine va_get (D := (dC, dI)) (ci := 14) (v := .int 0) (C := RX21) (T := TX21) (N := 18) hx hb hts i_X21 hown hK hP 1 rfl rfl 2 (by decide) (hts _ qw448) (fun _ h9 => h9) rfl dX24_result_5 ?_
  have hPc := hP.sub (ws' := [(mx, .inr (15, [.ref mq1, .int 0, .int (-1), .int 0, .ref mq3, .ref mq4, .ref mq6, .ref mq8, .ref mq22]))]) [0] rfl
  have hDc := hD.sub (ws' := [(mx, .inr (15, [.ref mq1, .int 0, .int (-1), .int 0, .ref mq3, .ref mq4, .ref mq6, .ref mq8, .ref mq22]))]) [0] (by decide) rfl
  have hKc := hK.sub (tys' := []) [] rfl
  have hFc := va_free (wc := [(mx, .inr (15, [.ref mq1, .int 0, .int (-1), .int 0, .ref mq3, .ref mq4, .ref mq6, .ref mq8, .ref mq22]))]) hD hS hA [0] rfl
  refine va_calli (va_runV (As := [.int 0]) (rest := []) ⟨hx, hb, hml, hown, hts⟩ (kX24_ok_n41 l dC dI (a0 := mx) (a1 := mq1) (a2 := mq3) (a3 := mq4) (a4 := mq6) (a5 := mq8) (a6 := mq22) (sz := _)) (cwV 1 hts (gi_V qw440 qw441 qw442 qw434 (gi_z qw439)) rfl rfl rfl (by decide +kernel) ⟨Nat.le_of_ble_eq_true rfl, Nat.le_of_ble_eq_true rfl⟩) ⟨PRE.blind, va_recv hKc hPc (ci := 15) (q0 := 0) rfl rfl, PRE.of hE hS hFc hPc hKc hDc⟩ rfl rfl hl.1 rfl (lv_room (Nat.le_of_ble_eq_true rfl)) dX24_result_8 ⟨Nat.le_of_ble_eq_true rfl, Nat.le_of_ble_eq_true rfl⟩) hS (fun q _ h => hFc q h) hFc (fun r1 u t H locs ht hvm hw hB hz1 hk1 hS => ?_)
  obtain ⟨hP, hD, hK⟩ := JOIN (wr := [(mq8, .inr (14, [.ref mq9, .int 0, .int 0, .int 0, .null, .ref mq11, .ref mq12, .ref mq13, .ref mq14, .ref mq15, .int 0, .int 0, .ref mq16, .ref mq17, .ref mq18, .ref mq19, .ref mq20, .ref mq21]))]) hP hD hK [0] [1] [] rfl rfl (by decide) (by decide) rfl hk1 hFc ht hvm hB
  have hP : va_P (dC, dI) cls [(mq8, .inr (14, [.ref mq9, .int 0, .int 0, .int 0, .null, .ref mq11, .ref mq12, .ref mq13, .ref mq14, .ref mq15, .int 0, .int 0, .ref mq16, .ref mq17, .ref mq18, .ref mq19, .ref mq20, .ref mq21])), (mx, .inr (15, [.ref mq1, .int 0, .int (-1), .int 0, .ref mq3, .ref mq4, .ref mq6, .ref mq8, .ref mq22]))] H := hP
  have hD : va_D A [(mq8, .inr (14, [.ref mq9, .int 0, .int 0, .int 0, .null, .ref mq11, .ref mq12, .ref mq13, .ref mq14, .ref mq15, .int 0, .int 0, .ref mq16, .ref mq17, .ref mq18, .ref mq19, .ref mq20, .ref mq21])), (mx, .inr (15, [.ref mq1, .int 0, .int (-1), .int 0, .ref mq3, .ref mq4, .ref mq6, .ref mq8, .ref mq22]))] := hD
  have hK : va_K (dC, dI) cls [] s := hK
  refine W.widen (k := 0) (n := 0) (Nat.le_of_ble_eq_true rfl) (Nat.le_of_ble_eq_true rfl) ?_
  obtain rfl : r1 = 0 := hw
  have hP9 : va_P (dC, dI) cls [(mx, .inr (15, [.ref mq1, .int 0, .int (-1), .int 0, .ref mq3, .ref mq4, .ref mq6, .ref mq8, .ref mq22]))] H := hP.sub [1] rfl
  have hD9 : va_D A [(mx, .inr (15, [.ref mq1, .int 0, .int (-1), .int 0, .ref mq3, .ref mq4, .ref mq6, .ref mq8, .ref mq22]))] := hD.sub [1] (by decide) rfl
  have hK9 : va_K (dC, dI) cls [] s := hK.sub [] rfl
  exact W.iret (v := 0) hx hb hr (fun t ht hW => ⟨⟨0, (), rfl, rfl, ⟨by rw [ht]; exact hP9, va_K.moved hW.alike hK9, hD9⟩⟩, hS.F ht⟩) hS.2.2 dX24_result_11
set_option maxHeartbeats 4000000 in
set_option maxRecDepth 100000 in
theorem kX24_stepsRun {zs : Nat × Nat} (l : Launch) (dC : Nat → ClassId) (dI : Nat → Nat → Nat) (mx : Nat) (mq1 : Nat) (mq3 : Nat) (mq4 : Nat) (mq6 : Nat) (mq8 : Nat) (mq9 : Nat) (mq11 : Nat) (mq12 : Nat) (mq13 : Nat) (mq14 : Nat) (mq15 : Nat) (mq16 : Nat) (mq17 : Nat) (mq18 : Nat) (mq19 : Nat) (mq20 : Nat) (mq21 : Nat) (mq22 : Nat) (sz : Nat)  : Met l yX24_stepsRun (wz yX24_stepsRun cX24_stepsRun 1 (Option.some Jvm.ClassFile.FieldType.int)) ({ frames := 1, cells := 0, slots := 0, locals := 21 }) (va_Pc [.ref mx] (PRE zs dC dI [(mx, .inr (15, [.ref mq1, .int 0, .int (-1), .int 0, .ref mq3, .ref mq4, .ref mq6, .ref mq8, .ref mq22])), (mq8, .inr (14, [.ref mq9, .int 0, .int 0, .int 0, .null, .ref mq11, .ref mq12, .ref mq13, .ref mq14, .ref mq15, .int 0, .int 0, .ref mq16, .ref mq17, .ref mq18, .ref mq19, .ref mq20, .ref mq21]))] [] sz)) (va_Qi (fun (r : Int32) (_ : Unit) => r = 0) (fun _ t => POST dC dI [(mx, .inr (15, [.ref mq1, .int 0, .int (-1), .int 0, .ref mq3, .ref mq4, .ref mq6, .ref mq8, .ref mq22]))] [] (va_A [(mx, .inr (15, [.ref mq1, .int 0, .int (-1), .int 0, .ref mq3, .ref mq4, .ref mq6, .ref mq8, .ref mq22])), (mq8, .inr (14, [.ref mq9, .int 0, .int 0, .int 0, .null, .ref mq11, .ref mq12, .ref mq13, .ref mq14, .ref mq15, .int 0, .int 0, .ref mq16, .ref mq17, .ref mq18, .ref mq19, .ref mq20, .ref mq21]))] sz) t) (va_A [(mx, .inr (15, [.ref mq1, .int 0, .int (-1), .int 0, .ref mq3, .ref mq4, .ref mq6, .ref mq8, .ref mq22])), (mq8, .inr (14, [.ref mq9, .int 0, .int 0, .int 0, .null, .ref mq11, .ref mq12, .ref mq13, .ref mq14, .ref mq15, .int 0, .int 0, .ref mq16, .ref mq17, .ref mq18, .ref mq19, .ref mq20, .ref mq21]))] sz)) 0 0 (va_A [(mx, .inr (15, [.ref mq1, .int 0, .int (-1), .int 0, .ref mq3, .ref mq4, .ref mq6, .ref mq8, .ref mq22])), (mq8, .inr (14, [.ref mq9, .int 0, .int 0, .int 0, .null, .ref mq11, .ref mq12, .ref mq13, .ref mq14, .ref mq15, .int 0, .int 0, .ref mq16, .ref mq17, .ref mq18, .ref mq19, .ref mq20, .ref mq21]))] sz) := by
  refine Met.ofW (cc := cX24_stepsRun) (maxL := 1) (ret := (Option.some Jvm.ClassFile.FieldType.int)) (by decide) rfl ?_
  intro p e s m args below meth c s₁ B hml hv
  obtain ⟨rfl, hsz, hP, hK, hD0, hE⟩ := hv
  have hx := B.exec
  have hb := B.bytes
  have hr := B.returns
  have hts0 := atoms_spec (ws := wz yX24_stepsRun cX24_stepsRun 1 (Option.some Jvm.ClassFile.FieldType.int)) B.pre
  have hts : ∀ w ∈ gw, w.before _ s = true := fun w h => hts0 w (List.mem_cons_of_mem _ h)
  have hown : s.vm.findClass RX24 = some m.cls := findClass_of_methodNamed B.named
  have hlocks := B.notSynchronized
  subst hsz
  have hD := hD0.self (sz := s.heap.size)
  generalize hAe : va_A [(mx, .inr (15, [.ref mq1, .int 0, .int (-1), .int 0, .ref mq3, .ref mq4, .ref mq6, .ref mq8, .ref mq22])), (mq8, .inr (14, [.ref mq9, .int 0, .int 0, .int 0, .null, .ref mq11, .ref mq12, .ref mq13, .ref mq14, .ref mq15, .int 0, .int 0, .ref mq16, .ref mq17, .ref mq18, .ref mq19, .ref mq20, .ref mq21]))] s.heap.size = A at hD hE ⊢
  have hA : ∀ q : Nat, s.heap.size ≤ q → A q := fun q h => by rw [← hAe]; exact Or.inr h
  have hS : va_S A s.heap s.heap [] := va_S.rf
  have hP : va_P (dC, dI) cls [(mx, .inr (15, [.ref mq1, .int 0, .int (-1), .int 0, .ref mq3, .ref mq4, .ref mq6, .ref mq8, .ref mq22])), (mq8, .inr (14, [.ref mq9, .int 0, .int 0, .int 0, .null, .ref mq11, .ref mq12, .ref mq13, .ref mq14, .ref mq15, .int 0, .int 0, .ref mq16, .ref mq17, .ref mq18, .ref mq19, .ref mq20, .ref mq21]))] s.heap := hP
  have hl := lv_entry ([.ref mx]) (n := 1) (Nat.le_of_ble_eq_true rfl)
  rw [lg_entry_eq]
  generalize (lg_sl ([.ref mx]) ++ List.replicate (1 - (lg_sl ([.ref mx])).length) Slot.unset).toArray = ls at hl ⊢
  have hl : lv_has ls 1 [(0, .ref mx)] := hl
  refine lv_aload_n hx hb dX24_stepsRun_0 rfl (lv_at hl 0 rfl) ?_
  refine lv_aload_n hx hb dX24_stepsRun_1 rfl (lv_at hl 0 rfl) ?_
  refine va_get (D := (dC, dI)) (ci := 15) (v := .ref mq8) (C := RX24) (T := TX24) (N := 9) hx hb hts i_X24 hown hK hP 0 rfl rfl 7 (by decide) (hts _ qw398) (fun _ h9 => h9) rfl dX24_stepsRun_2 ?_
  refine va_get (D := (dC, dI)) (ci := 14) (v := .int 0) (C := RX21) (T := TX21) (N := 18) hx hb hts i_X21 hown hK hP 1 rfl rfl 3 (by decide) (hts _ qw449) (fun _ h9 => h9) rfl dX24_stepsRun_5 ?_
  have hPc := hP.sub (ws' := [(mx, .inr (15, [.ref mq1, .int 0, .int (-1), .int 0, .ref mq3, .ref mq4, .ref mq6, .ref mq8, .ref mq22]))]) [0] rfl
  have hDc := hD.sub (ws' := [(mx, .inr (15, [.ref mq1, .int 0, .int (-1), .int 0, .ref mq3, .ref mq4, .ref mq6, .ref mq8, .ref mq22]))]) [0] (by decide) rfl
  have hKc := hK.sub (tys' := []) [] rfl
  have hFc := va_free (wc := [(mx, .inr (15, [.ref mq1, .int 0, .int (-1), .int 0, .ref mq3, .ref mq4, .ref mq6, .ref mq8, .ref mq22]))]) hD hS hA [0] rfl
  refine va_calli (va_runV (As := [.int 0]) (rest := []) ⟨hx, hb, hml, hown, hts⟩ (kX24_ok_n41 l dC dI (a0 := mx) (a1 := mq1) (a2 := mq3) (a3 := mq4) (a4 := mq6) (a5 := mq8) (a6 := mq22) (sz := _)) (cwV 1 hts (gi_V qw440 qw441 qw442 qw434 (gi_z qw439)) rfl rfl rfl (by decide +kernel) ⟨Nat.le_of_ble_eq_true rfl, Nat.le_of_ble_eq_true rfl⟩) ⟨PRE.blind, va_recv hKc hPc (ci := 15) (q0 := 0) rfl rfl, PRE.of hE hS hFc hPc hKc hDc⟩ rfl rfl hl.1 rfl (lv_room (Nat.le_of_ble_eq_true rfl)) dX24_stepsRun_8 ⟨Nat.le_of_ble_eq_true rfl, Nat.le_of_ble_eq_true rfl⟩) hS (fun q _ h => hFc q h) hFc (fun r1 u t H locs ht hvm hw hB hz1 hk1 hS => ?_)
  obtain ⟨hP, hD, hK⟩ := JOIN (wr := [(mq8, .inr (14, [.ref mq9, .int 0, .int 0, .int 0, .null, .ref mq11, .ref mq12, .ref mq13, .ref mq14, .ref mq15, .int 0, .int 0, .ref mq16, .ref mq17, .ref mq18, .ref mq19, .ref mq20, .ref mq21]))]) hP hD hK [0] [1] [] rfl rfl (by decide) (by decide) rfl hk1 hFc ht hvm hB
  have hP : va_P (dC, dI) cls [(mq8, .inr (14, [.ref mq9, .int 0, .int 0, .int 0, .null, .ref mq11, .ref mq12, .ref mq13, .ref mq14, .ref mq15, .int 0, .int 0, .ref mq16, .ref mq17, .ref mq18, .ref mq19, .ref mq20, .ref mq21])), (mx, .inr (15, [.ref mq1, .int 0, .int (-1), .int 0, .ref mq3, .ref mq4, .ref mq6, .ref mq8, .ref mq22]))] H := hP
  have hD : va_D A [(mq8, .inr (14, [.ref mq9, .int 0, .int 0, .int 0, .null, .ref mq11, .ref mq12, .ref mq13, .ref mq14, .ref mq15, .int 0, .int 0, .ref mq16, .ref mq17, .ref mq18, .ref mq19, .ref mq20, .ref mq21])), (mx, .inr (15, [.ref mq1, .int 0, .int (-1), .int 0, .ref mq3, .ref mq4, .ref mq6, .ref mq8, .ref mq22]))] := hD
  have hK : va_K (dC, dI) cls [] s := hK
  refine W.widen (k := 0) (n := 0) (Nat.le_of_ble_eq_true rfl) (Nat.le_of_ble_eq_true rfl) ?_
  obtain rfl : r1 = 0 := hw
  have hP9 : va_P (dC, dI) cls [(mx, .inr (15, [.ref mq1, .int 0, .int (-1), .int 0, .ref mq3, .ref mq4, .ref mq6, .ref mq8, .ref mq22]))] H := hP.sub [1] rfl
  have hD9 : va_D A [(mx, .inr (15, [.ref mq1, .int 0, .int (-1), .int 0, .ref mq3, .ref mq4, .ref mq6, .ref mq8, .ref mq22]))] := hD.sub [1] (by decide) rfl
  have hK9 : va_K (dC, dI) cls [] s := hK.sub [] rfl
  exact W.iret (v := 0) hx hb hr (fun t ht hW => ⟨⟨0, (), rfl, rfl, ⟨by rw [ht]; exact hP9, va_K.moved hW.alike hK9, hD9⟩⟩, hS.F ht⟩) hS.2.2 dX24_stepsRun_11
set_option maxHeartbeats 4000000 in
set_option maxRecDepth 100000 in
theorem kX24_meanCode {zs : Nat × Nat} (l : Launch) (dC : Nat → ClassId) (dI : Nat → Nat → Nat) (mx : Nat) (mq1 : Nat) (mq3 : Nat) (mq4 : Nat) (mq6 : Nat) (mc7 : ClassId) (mq8 : Nat) (mq22 : Nat) (sz : Nat)  : Met l yX24_meanCode (wz yX24_meanCode cX24_meanCode 6 (Option.some Jvm.ClassFile.FieldType.double)) ({ frames := 0, cells := 0, slots := 0, locals := 0 }) (va_Pc [.ref mx] (PRE zs dC dI [(mx, .inr (15, [.ref mq1, .int 0, .int (-1), .int 0, .ref mq3, .ref mq4, .ref mq6, .ref mq8, .ref mq22])), (mq6, .inl (mc7, 0, .inr (.inr (.inr (.inr (fun _ => none))))))] [(mc7, .object RX13)] sz)) (va_Qd (fun (r : UInt64) (_ : Unit) => r = FP.dconst0) (fun _ t => POST dC dI [(mx, .inr (15, [.ref mq1, .int 0, .int (-1), .int 0, .ref mq3, .ref mq4, .ref mq6, .ref mq8, .ref mq22]))] [] (va_A [(mx, .inr (15, [.ref mq1, .int 0, .int (-1), .int 0, .ref mq3, .ref mq4, .ref mq6, .ref mq8, .ref mq22])), (mq6, .inl (mc7, 0, .inr (.inr (.inr (.inr (fun _ => none))))))] sz) t) (va_A [(mx, .inr (15, [.ref mq1, .int 0, .int (-1), .int 0, .ref mq3, .ref mq4, .ref mq6, .ref mq8, .ref mq22])), (mq6, .inl (mc7, 0, .inr (.inr (.inr (.inr (fun _ => none))))))] sz)) 0 0 (va_A [(mx, .inr (15, [.ref mq1, .int 0, .int (-1), .int 0, .ref mq3, .ref mq4, .ref mq6, .ref mq8, .ref mq22])), (mq6, .inl (mc7, 0, .inr (.inr (.inr (.inr (fun _ => none))))))] sz) := by
  refine Met.ofW (cc := cX24_meanCode) (maxL := 6) (ret := (Option.some Jvm.ClassFile.FieldType.double)) (by decide) rfl ?_
  intro p e s m args below meth c s₁ B hml hv
  obtain ⟨rfl, hsz, hP, hK, hD0, hE⟩ := hv
  have hx := B.exec
  have hb := B.bytes
  have hr := B.returns
  have hts0 := atoms_spec (ws := wz yX24_meanCode cX24_meanCode 6 (Option.some Jvm.ClassFile.FieldType.double)) B.pre
  have hts : ∀ w ∈ gw, w.before _ s = true := fun w h => hts0 w (List.mem_cons_of_mem _ h)
  have hown : s.vm.findClass RX24 = some m.cls := findClass_of_methodNamed B.named
  have hlocks := B.notSynchronized
  subst hsz
  have hD := hD0.self (sz := s.heap.size)
  generalize hAe : va_A [(mx, .inr (15, [.ref mq1, .int 0, .int (-1), .int 0, .ref mq3, .ref mq4, .ref mq6, .ref mq8, .ref mq22])), (mq6, .inl (mc7, 0, .inr (.inr (.inr (.inr (fun _ => none))))))] s.heap.size = A at hD hE ⊢
  have hA : ∀ q : Nat, s.heap.size ≤ q → A q := fun q h => by rw [← hAe]; exact Or.inr h
  have hS : va_S A s.heap s.heap [] := va_S.rf
  have hP : va_P (dC, dI) cls [(mx, .inr (15, [.ref mq1, .int 0, .int (-1), .int 0, .ref mq3, .ref mq4, .ref mq6, .ref mq8, .ref mq22])), (mq6, .inl (mc7, 0, .inr (.inr (.inr (.inr (fun _ => none))))))] s.heap := hP
  have hl := lv_entry ([.ref mx]) (n := 6) (Nat.le_of_ble_eq_true rfl)
  rw [lg_entry_eq]
  generalize (lg_sl ([.ref mx]) ++ List.replicate (6 - (lg_sl ([.ref mx])).length) Slot.unset).toArray = ls at hl ⊢
  have hl : lv_has ls 6 [(0, .ref mx)] := hl
  refine lv_aload_n hx hb dX24_meanCode_0 rfl (lv_at hl 0 rfl) ?_
  refine lv_iconst (v := 0) hx hb dX24_meanCode_1 (by decide) ?_
  refine va_put (D := (dC, dI)) (ci := 15) (v := .int 0) (ty := .int) (C := RX24) (T := TX24) (N := 9) hx hb hts i_X24 tyX24 tyX24_ok nmX24 hown hK hP hD hS 0 rfl rfl 3 (by decide) (hts _ qw428) (fun _ h9 => h9) rfl (by decide +kernel) rfl rfl (Nat.le_of_ble_eq_true rfl) dX24_meanCode_2 (fun H locs hP hD hS => ?_)
  have hP : va_P (dC, dI) cls [(mx, .inr (15, [.ref mq1, .int 0, .int (-1), .int 0, .ref mq3, .ref mq4, .ref mq6, .ref mq8, .ref mq22])), (mq6, .inl (mc7, 0, .inr (.inr (.inr (.inr (fun _ => none))))))] H := hP
  have hD : va_D A [(mx, .inr (15, [.ref mq1, .int 0, .int (-1), .int 0, .ref mq3, .ref mq4, .ref mq6, .ref mq8, .ref mq22])), (mq6, .inl (mc7, 0, .inr (.inr (.inr (.inr (fun _ => none))))))] := hD
  refine lv_iconst (v := 0) hx hb dX24_meanCode_5 (by decide) ?_
  refine lv_istore_n (lv' := [(1, .int 0), (0, .ref mx)]) hx hb dX24_meanCode_6 rfl hl (by decide) rfl (fun ls hl => ?_)
  refine lv_aload_n hx hb dX24_meanCode_7 rfl (lv_at hl 1 rfl) ?_
  refine va_get (D := (dC, dI)) (ci := 15) (v := .ref mq6) (C := RX24) (T := TX24) (N := 9) hx hb hts i_X24 hown hK hP 0 rfl rfl 6 (by decide) (hts _ qw392) (fun _ h9 => h9) rfl dX24_meanCode_8 ?_
  refine lv_astore_n (lv' := [(2, .ref mq6), (1, .int 0), (0, .ref mx)]) hx hb dX24_meanCode_11 rfl hl (by decide) rfl (fun ls hl => ?_)
  refine lv_aload_n hx hb dX24_meanCode_12 rfl (lv_at hl 0 rfl) ?_
  refine va_alen (v := 0) hx hb hK hP 1 0 rfl rfl (by decide) dX24_meanCode_13 ?_
  refine lv_istore_n (lv' := [(3, .int 0), (2, .ref mq6), (1, .int 0), (0, .ref mx)]) hx hb dX24_meanCode_14 rfl hl (by decide) rfl (fun ls hl => ?_)
  refine lv_iconst (v := 0) hx hb dX24_meanCode_15 (by decide) ?_
  refine lv_istore (lv' := [(4, .int 0), (3, .int 0), (2, .ref mq6), (1, .int 0), (0, .ref mx)]) hx hb dX24_meanCode_16 hl (by decide) rfl (fun ls hl => ?_)
  refine lv_iload hx hb dX24_meanCode_18 (lv_at hl 0 rfl) ?_
  refine lv_iload_n hx hb dX24_meanCode_20 rfl (lv_at hl 1 rfl) ?_
  refine lv_icmp_ge (tgt := 44) hx hb dX24_meanCode_21 (by decide) (fun _ => ?_) (fun c => absurd (by decide) c)
  refine lv_aload_n hx hb dX24_meanCode_44 rfl (lv_at hl 4 rfl) ?_
  refine va_get (D := (dC, dI)) (ci := 15) (v := .ref mq6) (C := RX24) (T := TX24) (N := 9) hx hb hts i_X24 hown hK hP 0 rfl rfl 6 (by decide) (hts _ qw392) (fun _ h9 => h9) rfl dX24_meanCode_45 ?_
  refine va_alen (v := 0) hx hb hK hP 1 0 rfl rfl (by decide) dX24_meanCode_48 ?_
  refine lv_if_ne (tgt := 56) hx hb dX24_meanCode_49 (by decide) (fun c => absurd (by decide) c) (fun _ => ?_)
  refine lv_dconst0 hx hb dX24_meanCode_52 ?_
  refine lv_goto (tgt := 65) hx hb dX24_meanCode_53 (by decide) ?_
  have hP9 : va_P (dC, dI) cls [(mx, .inr (15, [.ref mq1, .int 0, .int (-1), .int 0, .ref mq3, .ref mq4, .ref mq6, .ref mq8, .ref mq22]))] H := hP.sub [0] rfl
  have hD9 : va_D A [(mx, .inr (15, [.ref mq1, .int 0, .int (-1), .int 0, .ref mq3, .ref mq4, .ref mq6, .ref mq8, .ref mq22]))] := hD.sub [0] (by decide) rfl
  have hK9 : va_K (dC, dI) cls [] s := hK.sub [] rfl
  exact W.dret (v := FP.dconst0) hx hb hr (fun t ht hW => ⟨⟨FP.dconst0, (), rfl, rfl, ⟨by rw [ht]; exact hP9, va_K.moved hW.alike hK9, hD9⟩⟩, hS.F ht⟩) hS.2.2 dX24_meanCode_65
set_option maxHeartbeats 4000000 in
set_option maxRecDepth 100000 in
theorem kX24_settle {zs : Nat × Nat} (l : Launch) (dC : Nat → ClassId) (dI : Nat → Nat → Nat) (mx : Nat) (mq1 : Nat) (mq3 : Nat) (mq4 : Nat) (mc5 : ClassId) (mq6 : Nat) (mq8 : Nat) (mq22 : Nat) (sz : Nat)  : Met l yX24_settle (wz yX24_settle cX24_settle 4 (Option.some Jvm.ClassFile.FieldType.int)) ({ frames := 1, cells := 0, slots := 0, locals := 26 }) (va_Pc [.ref mx] (PRE zs dC dI [(mx, .inr (15, [.ref mq1, .int 0, .int (-1), .int 0, .ref mq3, .ref mq4, .ref mq6, .ref mq8, .ref mq22])), (mq4, .inl (mc5, 0, .inr (.inr (.inr (.inr (fun _ => none))))))] [(mc5, .object RX14)] sz)) (va_Qi (fun (r : Int32) (_ : Unit) => r = 1) (fun _ t => POST dC dI [(mx, .inr (15, [.ref mq1, .int 0, .int (-1), .int 0, .ref mq3, .ref mq4, .ref mq6, .ref mq8, .ref mq22]))] [] (va_A [(mx, .inr (15, [.ref mq1, .int 0, .int (-1), .int 0, .ref mq3, .ref mq4, .ref mq6, .ref mq8, .ref mq22])), (mq4, .inl (mc5, 0, .inr (.inr (.inr (.inr (fun _ => none))))))] sz) t) (va_A [(mx, .inr (15, [.ref mq1, .int 0, .int (-1), .int 0, .ref mq3, .ref mq4, .ref mq6, .ref mq8, .ref mq22])), (mq4, .inl (mc5, 0, .inr (.inr (.inr (.inr (fun _ => none))))))] sz)) 0 0 (va_A [(mx, .inr (15, [.ref mq1, .int 0, .int (-1), .int 0, .ref mq3, .ref mq4, .ref mq6, .ref mq8, .ref mq22])), (mq4, .inl (mc5, 0, .inr (.inr (.inr (.inr (fun _ => none))))))] sz) := by
  refine Met.ofW (cc := cX24_settle) (maxL := 4) (ret := (Option.some Jvm.ClassFile.FieldType.int)) (by decide) rfl ?_
  intro p e s m args below meth c s₁ B hml hv
  obtain ⟨rfl, hsz, hP, hK, hD0, hE⟩ := hv
  have hx := B.exec
  have hb := B.bytes
  have hr := B.returns
  have hts0 := atoms_spec (ws := wz yX24_settle cX24_settle 4 (Option.some Jvm.ClassFile.FieldType.int)) B.pre
  have hts : ∀ w ∈ gw, w.before _ s = true := fun w h => hts0 w (List.mem_cons_of_mem _ h)
  have hown : s.vm.findClass RX24 = some m.cls := findClass_of_methodNamed B.named
  have hlocks := B.notSynchronized
  subst hsz
  have hD := hD0.self (sz := s.heap.size)
  generalize hAe : va_A [(mx, .inr (15, [.ref mq1, .int 0, .int (-1), .int 0, .ref mq3, .ref mq4, .ref mq6, .ref mq8, .ref mq22])), (mq4, .inl (mc5, 0, .inr (.inr (.inr (.inr (fun _ => none))))))] s.heap.size = A at hD hE ⊢
  have hA : ∀ q : Nat, s.heap.size ≤ q → A q := fun q h => by rw [← hAe]; exact Or.inr h
  have hS : va_S A s.heap s.heap [] := va_S.rf
  have hP : va_P (dC, dI) cls [(mx, .inr (15, [.ref mq1, .int 0, .int (-1), .int 0, .ref mq3, .ref mq4, .ref mq6, .ref mq8, .ref mq22])), (mq4, .inl (mc5, 0, .inr (.inr (.inr (.inr (fun _ => none))))))] s.heap := hP
  have hl := lv_entry ([.ref mx]) (n := 4) (Nat.le_of_ble_eq_true rfl)
  rw [lg_entry_eq]
  generalize (lg_sl ([.ref mx]) ++ List.replicate (4 - (lg_sl ([.ref mx])).length) Slot.unset).toArray = ls at hl ⊢
  have hl : lv_has ls 4 [(0, .ref mx)] := hl
  refine lv_iconst (v := 0) hx hb dX24_settle_0 (by decide) ?_
  refine lv_istore_n (lv' := [(1, .int 0), (0, .ref mx)]) hx hb dX24_settle_1 rfl hl (by decide) rfl (fun ls hl => ?_)
  refine lv_iconst (v := 1) hx hb dX24_settle_2 (by decide) ?_
  refine lv_istore_n (lv' := [(2, .int 1), (1, .int 0), (0, .ref mx)]) hx hb dX24_settle_3 rfl hl (by decide) rfl (fun ls hl => ?_)
  refine lv_iload_n hx hb dX24_settle_4 rfl (lv_at hl 0 rfl) ?_
  refine lv_if_le (tgt := 37) hx hb dX24_settle_5 (by decide) (fun c => absurd c (by decide)) (fun _ => ?_)
  refine lv_iconst (v := 0) hx hb dX24_settle_8 (by decide) ?_
  refine lv_istore_n (lv' := [(2, .int 0), (1, .int 0), (0, .ref mx)]) hx hb dX24_settle_9 rfl hl (by decide) rfl (fun ls hl => ?_)
  refine lv_iconst (v := 0) hx hb dX24_settle_10 (by decide) ?_
  refine lv_istore_n (lv' := [(3, .int 0), (2, .int 0), (1, .int 0), (0, .ref mx)]) hx hb dX24_settle_11 rfl hl (by decide) rfl (fun ls hl => ?_)
  refine lv_iload_n hx hb dX24_settle_12 rfl (lv_at hl 0 rfl) ?_
  refine lv_iconst (v := 5) hx hb dX24_settle_13 (by decide) ?_
  refine lv_icmp_ge (tgt := 31) hx hb dX24_settle_14 (by decide) (fun c => absurd c (by decide)) (fun _ => ?_)
  refine lv_iload_n hx hb dX24_settle_17 rfl (lv_at hl 1 rfl) ?_
  refine lv_aload_n hx hb dX24_settle_18 rfl (lv_at hl 3 rfl) ?_
  refine lv_iload_n hx hb dX24_settle_19 rfl (lv_at hl 0 rfl) ?_
  have hPc := hP.sub (ws' := [(mx, .inr (15, [.ref mq1, .int 0, .int (-1), .int 0, .ref mq3, .ref mq4, .ref mq6, .ref mq8, .ref mq22])), (mq4, .inl (mc5, 0, .inr (.inr (.inr (.inr (fun _ => none))))))]) [0, 1] rfl
  have hDc := hD.sub (ws' := [(mx, .inr (15, [.ref mq1, .int 0, .int (-1), .int 0, .ref mq3, .ref mq4, .ref mq6, .ref mq8, .ref mq22])), (mq4, .inl (mc5, 0, .inr (.inr (.inr (.inr (fun _ => none))))))]) [0, 1] (by decide) rfl
  have hKc := hK.sub (tys' := [(mc5, .object RX14)]) [0] rfl
  have hFc := va_free (wc := [(mx, .inr (15, [.ref mq1, .int 0, .int (-1), .int 0, .ref mq3, .ref mq4, .ref mq6, .ref mq8, .ref mq22])), (mq4, .inl (mc5, 0, .inr (.inr (.inr (.inr (fun _ => none))))))]) hD hS hA [0, 1] rfl
  refine va_calli (va_runV (As := [.int 0]) (rest := [.int 0]) ⟨hx, hb, hml, hown, hts⟩ (kX24_passAll_n42 l dC dI (a0 := mx) (a1 := mq1) (a2 := mq3) (a3 := mq4) (a4 := mq6) (a5 := mq8) (a6 := mq22) (k8 := mc5) (sz := _)) (cwV 1 hts (gi_V qw444 qw445 qw446 qw434 (gi_z qw443)) rfl rfl rfl (by decide +kernel) ⟨Nat.le_of_ble_eq_true rfl, Nat.le_of_ble_eq_true rfl⟩) ⟨PRE.blind, va_recv hKc hPc (ci := 15) (q0 := 0) rfl rfl, PRE.of hE hS hFc hPc hKc hDc⟩ rfl rfl hl.1 rfl (lv_room (Nat.le_of_ble_eq_true rfl)) dX24_settle_20 ⟨Nat.le_of_ble_eq_true rfl, Nat.le_of_ble_eq_true rfl⟩) hS (fun q _ h => hFc q h) hFc (fun r1 u t H locs ht hvm hw hB hz1 hk1 hS => ?_)
  obtain ⟨hP, hD, hK⟩ := JOIN (wr := []) hP hD hK [0, 1] [] [] rfl rfl (by decide) (by decide) rfl hk1 hFc ht hvm hB
  have hP : va_P (dC, dI) cls [(mx, .inr (15, [.ref mq1, .int 0, .int (-1), .int 0, .ref mq3, .ref mq4, .ref mq6, .ref mq8, .ref mq22])), (mq4, .inl (mc5, 0, .inr (.inr (.inr (.inr (fun _ => none))))))] H := hP
  have hD : va_D A [(mx, .inr (15, [.ref mq1, .int 0, .int (-1), .int 0, .ref mq3, .ref mq4, .ref mq6, .ref mq8, .ref mq22])), (mq4, .inl (mc5, 0, .inr (.inr (.inr (.inr (fun _ => none))))))] := hD
  have hK : va_K (dC, dI) cls [(mc5, .object RX14)] s := hK
  refine W.widen (k := 0) (n := 0) (Nat.le_of_ble_eq_true rfl) (Nat.le_of_ble_eq_true rfl) ?_
  obtain rfl : r1 = 0 := hw
  refine lv_iadd hx hb dX24_settle_23 ?_
  refine lv_topC (y := 0) (by decide) ?_
  refine lv_istore_n (lv' := [(2, .int 0), (3, .int 0), (1, .int 0), (0, .ref mx)]) hx hb dX24_settle_24 rfl hl (by decide) rfl (fun ls hl => ?_)
  refine lv_iinc (v := 1) (lv' := [(3, .int 1), (2, .int 0), (1, .int 0), (0, .ref mx)]) hx hb dX24_settle_25 hl (k := 1) rfl (by decide) (by decide) rfl (fun ls hl => ?_)
  refine lv_goto (tgt := 12) hx hb dX24_settle_28 (by decide) ?_
  refine lv_iload_n hx hb dX24_settle_12 rfl (lv_at hl 0 rfl) ?_
  refine lv_iconst (v := 5) hx hb dX24_settle_13 (by decide) ?_
  refine lv_icmp_ge (tgt := 31) hx hb dX24_settle_14 (by decide) (fun c => absurd c (by decide)) (fun _ => ?_)
  refine lv_iload_n hx hb dX24_settle_17 rfl (lv_at hl 1 rfl) ?_
  refine lv_aload_n hx hb dX24_settle_18 rfl (lv_at hl 3 rfl) ?_
  refine lv_iload_n hx hb dX24_settle_19 rfl (lv_at hl 0 rfl) ?_
  have hPc := hP.sub (ws' := [(mx, .inr (15, [.ref mq1, .int 0, .int (-1), .int 0, .ref mq3, .ref mq4, .ref mq6, .ref mq8, .ref mq22])), (mq4, .inl (mc5, 0, .inr (.inr (.inr (.inr (fun _ => none))))))]) [0, 1] rfl
  have hDc := hD.sub (ws' := [(mx, .inr (15, [.ref mq1, .int 0, .int (-1), .int 0, .ref mq3, .ref mq4, .ref mq6, .ref mq8, .ref mq22])), (mq4, .inl (mc5, 0, .inr (.inr (.inr (.inr (fun _ => none))))))]) [0, 1] (by decide) rfl
  have hKc := hK.sub (tys' := [(mc5, .object RX14)]) [0] rfl
  have hFc := va_free (wc := [(mx, .inr (15, [.ref mq1, .int 0, .int (-1), .int 0, .ref mq3, .ref mq4, .ref mq6, .ref mq8, .ref mq22])), (mq4, .inl (mc5, 0, .inr (.inr (.inr (.inr (fun _ => none))))))]) hD hS hA [0, 1] rfl
  refine va_calli (va_runV (As := [.int 1]) (rest := [.int 0]) ⟨hx, hb, hml, hown, hts⟩ (kX24_passAll_n43 l dC dI (a0 := mx) (a1 := mq1) (a2 := mq3) (a3 := mq4) (a4 := mq6) (a5 := mq8) (a6 := mq22) (k8 := mc5) (sz := _)) (cwV 1 hts (gi_V qw444 qw445 qw446 qw434 (gi_z qw443)) rfl rfl rfl (by decide +kernel) ⟨Nat.le_of_ble_eq_true rfl, Nat.le_of_ble_eq_true rfl⟩) ⟨PRE.blind, va_recv hKc hPc (ci := 15) (q0 := 0) rfl rfl, PRE.of hE hS hFc hPc hKc hDc⟩ rfl rfl hl.1 rfl (lv_room (Nat.le_of_ble_eq_true rfl)) dX24_settle_20 ⟨Nat.le_of_ble_eq_true rfl, Nat.le_of_ble_eq_true rfl⟩) hS (fun q _ h => hFc q h) hFc (fun r2 u t H locs ht hvm hw hB hz1 hk1 hS => ?_)
  obtain ⟨hP, hD, hK⟩ := JOIN (wr := []) hP hD hK [0, 1] [] [] rfl rfl (by decide) (by decide) rfl hk1 hFc ht hvm hB
  have hP : va_P (dC, dI) cls [(mx, .inr (15, [.ref mq1, .int 0, .int (-1), .int 0, .ref mq3, .ref mq4, .ref mq6, .ref mq8, .ref mq22])), (mq4, .inl (mc5, 0, .inr (.inr (.inr (.inr (fun _ => none))))))] H := hP
  have hD : va_D A [(mx, .inr (15, [.ref mq1, .int 0, .int (-1), .int 0, .ref mq3, .ref mq4, .ref mq6, .ref mq8, .ref mq22])), (mq4, .inl (mc5, 0, .inr (.inr (.inr (.inr (fun _ => none))))))] := hD
  have hK : va_K (dC, dI) cls [(mc5, .object RX14)] s := hK
  refine W.widen (k := 0) (n := 0) (Nat.le_of_ble_eq_true rfl) (Nat.le_of_ble_eq_true rfl) ?_
  obtain rfl : r2 = 0 := hw
  refine lv_iadd hx hb dX24_settle_23 ?_
  refine lv_topC (y := 0) (by decide) ?_
  refine lv_istore_n (lv' := [(2, .int 0), (3, .int 1), (1, .int 0), (0, .ref mx)]) hx hb dX24_settle_24 rfl hl (by decide) rfl (fun ls hl => ?_)
  refine lv_iinc (v := 2) (lv' := [(3, .int 2), (2, .int 0), (1, .int 0), (0, .ref mx)]) hx hb dX24_settle_25 hl (k := 1) rfl (by decide) (by decide) rfl (fun ls hl => ?_)
  refine lv_goto (tgt := 12) hx hb dX24_settle_28 (by decide) ?_
  refine lv_iload_n hx hb dX24_settle_12 rfl (lv_at hl 0 rfl) ?_
  refine lv_iconst (v := 5) hx hb dX24_settle_13 (by decide) ?_
  refine lv_icmp_ge (tgt := 31) hx hb dX24_settle_14 (by decide) (fun c => absurd c (by decide)) (fun _ => ?_)
  refine lv_iload_n hx hb dX24_settle_17 rfl (lv_at hl 1 rfl) ?_
  refine lv_aload_n hx hb dX24_settle_18 rfl (lv_at hl 3 rfl) ?_
  refine lv_iload_n hx hb dX24_settle_19 rfl (lv_at hl 0 rfl) ?_
  have hPc := hP.sub (ws' := [(mx, .inr (15, [.ref mq1, .int 0, .int (-1), .int 0, .ref mq3, .ref mq4, .ref mq6, .ref mq8, .ref mq22])), (mq4, .inl (mc5, 0, .inr (.inr (.inr (.inr (fun _ => none))))))]) [0, 1] rfl
  have hDc := hD.sub (ws' := [(mx, .inr (15, [.ref mq1, .int 0, .int (-1), .int 0, .ref mq3, .ref mq4, .ref mq6, .ref mq8, .ref mq22])), (mq4, .inl (mc5, 0, .inr (.inr (.inr (.inr (fun _ => none))))))]) [0, 1] (by decide) rfl
  have hKc := hK.sub (tys' := [(mc5, .object RX14)]) [0] rfl
  have hFc := va_free (wc := [(mx, .inr (15, [.ref mq1, .int 0, .int (-1), .int 0, .ref mq3, .ref mq4, .ref mq6, .ref mq8, .ref mq22])), (mq4, .inl (mc5, 0, .inr (.inr (.inr (.inr (fun _ => none))))))]) hD hS hA [0, 1] rfl
  refine va_calli (va_runV (As := [.int 2]) (rest := [.int 0]) ⟨hx, hb, hml, hown, hts⟩ (kX24_passAll_n44 l dC dI (a0 := mx) (a1 := mq1) (a2 := mq3) (a3 := mq4) (a4 := mq6) (a5 := mq8) (a6 := mq22) (k8 := mc5) (sz := _)) (cwV 1 hts (gi_V qw444 qw445 qw446 qw434 (gi_z qw443)) rfl rfl rfl (by decide +kernel) ⟨Nat.le_of_ble_eq_true rfl, Nat.le_of_ble_eq_true rfl⟩) ⟨PRE.blind, va_recv hKc hPc (ci := 15) (q0 := 0) rfl rfl, PRE.of hE hS hFc hPc hKc hDc⟩ rfl rfl hl.1 rfl (lv_room (Nat.le_of_ble_eq_true rfl)) dX24_settle_20 ⟨Nat.le_of_ble_eq_true rfl, Nat.le_of_ble_eq_true rfl⟩) hS (fun q _ h => hFc q h) hFc (fun r3 u t H locs ht hvm hw hB hz1 hk1 hS => ?_)
  obtain ⟨hP, hD, hK⟩ := JOIN (wr := []) hP hD hK [0, 1] [] [] rfl rfl (by decide) (by decide) rfl hk1 hFc ht hvm hB
  have hP : va_P (dC, dI) cls [(mx, .inr (15, [.ref mq1, .int 0, .int (-1), .int 0, .ref mq3, .ref mq4, .ref mq6, .ref mq8, .ref mq22])), (mq4, .inl (mc5, 0, .inr (.inr (.inr (.inr (fun _ => none))))))] H := hP
  have hD : va_D A [(mx, .inr (15, [.ref mq1, .int 0, .int (-1), .int 0, .ref mq3, .ref mq4, .ref mq6, .ref mq8, .ref mq22])), (mq4, .inl (mc5, 0, .inr (.inr (.inr (.inr (fun _ => none))))))] := hD
  have hK : va_K (dC, dI) cls [(mc5, .object RX14)] s := hK
  refine W.widen (k := 0) (n := 0) (Nat.le_of_ble_eq_true rfl) (Nat.le_of_ble_eq_true rfl) ?_
  obtain rfl : r3 = 0 := hw
  refine lv_iadd hx hb dX24_settle_23 ?_
  refine lv_topC (y := 0) (by decide) ?_
  refine lv_istore_n (lv' := [(2, .int 0), (3, .int 2), (1, .int 0), (0, .ref mx)]) hx hb dX24_settle_24 rfl hl (by decide) rfl (fun ls hl => ?_)
  refine lv_iinc (v := 3) (lv' := [(3, .int 3), (2, .int 0), (1, .int 0), (0, .ref mx)]) hx hb dX24_settle_25 hl (k := 1) rfl (by decide) (by decide) rfl (fun ls hl => ?_)
  refine lv_goto (tgt := 12) hx hb dX24_settle_28 (by decide) ?_
  refine lv_iload_n hx hb dX24_settle_12 rfl (lv_at hl 0 rfl) ?_
  refine lv_iconst (v := 5) hx hb dX24_settle_13 (by decide) ?_
  refine lv_icmp_ge (tgt := 31) hx hb dX24_settle_14 (by decide) (fun c => absurd c (by decide)) (fun _ => ?_)
  refine lv_iload_n hx hb dX24_settle_17 rfl (lv_at hl 1 rfl) ?_
  refine lv_aload_n hx hb dX24_settle_18 rfl (lv_at hl 3 rfl) ?_
  refine lv_iload_n hx hb dX24_settle_19 rfl (lv_at hl 0 rfl) ?_
  have hPc := hP.sub (ws' := [(mx, .inr (15, [.ref mq1, .int 0, .int (-1), .int 0, .ref mq3, .ref mq4, .ref mq6, .ref mq8, .ref mq22])), (mq4, .inl (mc5, 0, .inr (.inr (.inr (.inr (fun _ => none))))))]) [0, 1] rfl
  have hDc := hD.sub (ws' := [(mx, .inr (15, [.ref mq1, .int 0, .int (-1), .int 0, .ref mq3, .ref mq4, .ref mq6, .ref mq8, .ref mq22])), (mq4, .inl (mc5, 0, .inr (.inr (.inr (.inr (fun _ => none))))))]) [0, 1] (by decide) rfl
  have hKc := hK.sub (tys' := [(mc5, .object RX14)]) [0] rfl
  have hFc := va_free (wc := [(mx, .inr (15, [.ref mq1, .int 0, .int (-1), .int 0, .ref mq3, .ref mq4, .ref mq6, .ref mq8, .ref mq22])), (mq4, .inl (mc5, 0, .inr (.inr (.inr (.inr (fun _ => none))))))]) hD hS hA [0, 1] rfl
  refine va_calli (va_runV (As := [.int 3]) (rest := [.int 0]) ⟨hx, hb, hml, hown, hts⟩ (kX24_passAll_n45 l dC dI (a0 := mx) (a1 := mq1) (a2 := mq3) (a3 := mq4) (a4 := mq6) (a5 := mq8) (a6 := mq22) (k8 := mc5) (sz := _)) (cwV 1 hts (gi_V qw444 qw445 qw446 qw434 (gi_z qw443)) rfl rfl rfl (by decide +kernel) ⟨Nat.le_of_ble_eq_true rfl, Nat.le_of_ble_eq_true rfl⟩) ⟨PRE.blind, va_recv hKc hPc (ci := 15) (q0 := 0) rfl rfl, PRE.of hE hS hFc hPc hKc hDc⟩ rfl rfl hl.1 rfl (lv_room (Nat.le_of_ble_eq_true rfl)) dX24_settle_20 ⟨Nat.le_of_ble_eq_true rfl, Nat.le_of_ble_eq_true rfl⟩) hS (fun q _ h => hFc q h) hFc (fun r4 u t H locs ht hvm hw hB hz1 hk1 hS => ?_)
  obtain ⟨hP, hD, hK⟩ := JOIN (wr := []) hP hD hK [0, 1] [] [] rfl rfl (by decide) (by decide) rfl hk1 hFc ht hvm hB
  have hP : va_P (dC, dI) cls [(mx, .inr (15, [.ref mq1, .int 0, .int (-1), .int 0, .ref mq3, .ref mq4, .ref mq6, .ref mq8, .ref mq22])), (mq4, .inl (mc5, 0, .inr (.inr (.inr (.inr (fun _ => none))))))] H := hP
  have hD : va_D A [(mx, .inr (15, [.ref mq1, .int 0, .int (-1), .int 0, .ref mq3, .ref mq4, .ref mq6, .ref mq8, .ref mq22])), (mq4, .inl (mc5, 0, .inr (.inr (.inr (.inr (fun _ => none))))))] := hD
  have hK : va_K (dC, dI) cls [(mc5, .object RX14)] s := hK
  refine W.widen (k := 0) (n := 0) (Nat.le_of_ble_eq_true rfl) (Nat.le_of_ble_eq_true rfl) ?_
  obtain rfl : r4 = 0 := hw
  refine lv_iadd hx hb dX24_settle_23 ?_
  refine lv_topC (y := 0) (by decide) ?_
  refine lv_istore_n (lv' := [(2, .int 0), (3, .int 3), (1, .int 0), (0, .ref mx)]) hx hb dX24_settle_24 rfl hl (by decide) rfl (fun ls hl => ?_)
  refine lv_iinc (v := 4) (lv' := [(3, .int 4), (2, .int 0), (1, .int 0), (0, .ref mx)]) hx hb dX24_settle_25 hl (k := 1) rfl (by decide) (by decide) rfl (fun ls hl => ?_)
  refine lv_goto (tgt := 12) hx hb dX24_settle_28 (by decide) ?_
  refine lv_iload_n hx hb dX24_settle_12 rfl (lv_at hl 0 rfl) ?_
  refine lv_iconst (v := 5) hx hb dX24_settle_13 (by decide) ?_
  refine lv_icmp_ge (tgt := 31) hx hb dX24_settle_14 (by decide) (fun c => absurd c (by decide)) (fun _ => ?_)
  refine lv_iload_n hx hb dX24_settle_17 rfl (lv_at hl 1 rfl) ?_
  refine lv_aload_n hx hb dX24_settle_18 rfl (lv_at hl 3 rfl) ?_
  refine lv_iload_n hx hb dX24_settle_19 rfl (lv_at hl 0 rfl) ?_
  have hPc := hP.sub (ws' := [(mx, .inr (15, [.ref mq1, .int 0, .int (-1), .int 0, .ref mq3, .ref mq4, .ref mq6, .ref mq8, .ref mq22])), (mq4, .inl (mc5, 0, .inr (.inr (.inr (.inr (fun _ => none))))))]) [0, 1] rfl
  have hDc := hD.sub (ws' := [(mx, .inr (15, [.ref mq1, .int 0, .int (-1), .int 0, .ref mq3, .ref mq4, .ref mq6, .ref mq8, .ref mq22])), (mq4, .inl (mc5, 0, .inr (.inr (.inr (.inr (fun _ => none))))))]) [0, 1] (by decide) rfl
  have hKc := hK.sub (tys' := [(mc5, .object RX14)]) [0] rfl
  have hFc := va_free (wc := [(mx, .inr (15, [.ref mq1, .int 0, .int (-1), .int 0, .ref mq3, .ref mq4, .ref mq6, .ref mq8, .ref mq22])), (mq4, .inl (mc5, 0, .inr (.inr (.inr (.inr (fun _ => none))))))]) hD hS hA [0, 1] rfl
  refine va_calli (va_runV (As := [.int 4]) (rest := [.int 0]) ⟨hx, hb, hml, hown, hts⟩ (kX24_passAll_n46 l dC dI (a0 := mx) (a1 := mq1) (a2 := mq3) (a3 := mq4) (a4 := mq6) (a5 := mq8) (a6 := mq22) (k8 := mc5) (sz := _)) (cwV 1 hts (gi_V qw444 qw445 qw446 qw434 (gi_z qw443)) rfl rfl rfl (by decide +kernel) ⟨Nat.le_of_ble_eq_true rfl, Nat.le_of_ble_eq_true rfl⟩) ⟨PRE.blind, va_recv hKc hPc (ci := 15) (q0 := 0) rfl rfl, PRE.of hE hS hFc hPc hKc hDc⟩ rfl rfl hl.1 rfl (lv_room (Nat.le_of_ble_eq_true rfl)) dX24_settle_20 ⟨Nat.le_of_ble_eq_true rfl, Nat.le_of_ble_eq_true rfl⟩) hS (fun q _ h => hFc q h) hFc (fun r5 u t H locs ht hvm hw hB hz1 hk1 hS => ?_)
  obtain ⟨hP, hD, hK⟩ := JOIN (wr := []) hP hD hK [0, 1] [] [] rfl rfl (by decide) (by decide) rfl hk1 hFc ht hvm hB
  have hP : va_P (dC, dI) cls [(mx, .inr (15, [.ref mq1, .int 0, .int (-1), .int 0, .ref mq3, .ref mq4, .ref mq6, .ref mq8, .ref mq22])), (mq4, .inl (mc5, 0, .inr (.inr (.inr (.inr (fun _ => none))))))] H := hP
  have hD : va_D A [(mx, .inr (15, [.ref mq1, .int 0, .int (-1), .int 0, .ref mq3, .ref mq4, .ref mq6, .ref mq8, .ref mq22])), (mq4, .inl (mc5, 0, .inr (.inr (.inr (.inr (fun _ => none))))))] := hD
  have hK : va_K (dC, dI) cls [(mc5, .object RX14)] s := hK
  refine W.widen (k := 0) (n := 0) (Nat.le_of_ble_eq_true rfl) (Nat.le_of_ble_eq_true rfl) ?_
  obtain rfl : r5 = 0 := hw
  refine lv_iadd hx hb dX24_settle_23 ?_
  refine lv_topC (y := 0) (by decide) ?_
  refine lv_istore_n (lv' := [(2, .int 0), (3, .int 4), (1, .int 0), (0, .ref mx)]) hx hb dX24_settle_24 rfl hl (by decide) rfl (fun ls hl => ?_)
  refine lv_iinc (v := 5) (lv' := [(3, .int 5), (2, .int 0), (1, .int 0), (0, .ref mx)]) hx hb dX24_settle_25 hl (k := 1) rfl (by decide) (by decide) rfl (fun ls hl => ?_)
  refine lv_goto (tgt := 12) hx hb dX24_settle_28 (by decide) ?_
  refine lv_iload_n hx hb dX24_settle_12 rfl (lv_at hl 0 rfl) ?_
  refine lv_iconst (v := 5) hx hb dX24_settle_13 (by decide) ?_
  refine lv_icmp_ge (tgt := 31) hx hb dX24_settle_14 (by decide) (fun _ => ?_) (fun c => absurd (by decide) c)
  refine lv_iinc (v := 1) (lv' := [(1, .int 1), (3, .int 5), (2, .int 0), (0, .ref mx)]) hx hb dX24_settle_31 hl (k := 2) rfl (by decide) (by decide) rfl (fun ls hl => ?_)
  refine lv_goto (tgt := 4) hx hb dX24_settle_34 (by decide) ?_
  refine lv_iload_n hx hb dX24_settle_4 rfl (lv_at hl 2 rfl) ?_
  refine lv_if_le (tgt := 37) hx hb dX24_settle_5 (by decide) (fun _ => ?_) (fun c => absurd (by decide) c)
  refine lv_iload_n hx hb dX24_settle_37 rfl (lv_at hl 0 rfl) ?_
  have hP9 : va_P (dC, dI) cls [(mx, .inr (15, [.ref mq1, .int 0, .int (-1), .int 0, .ref mq3, .ref mq4, .ref mq6, .ref mq8, .ref mq22]))] H := hP.sub [0] rfl
  have hD9 : va_D A [(mx, .inr (15, [.ref mq1, .int 0, .int (-1), .int 0, .ref mq3, .ref mq4, .ref mq6, .ref mq8, .ref mq22]))] := hD.sub [0] (by decide) rfl
  have hK9 : va_K (dC, dI) cls [] s := hK.sub [] rfl
  exact W.iret (v := 1) hx hb hr (fun t ht hW => ⟨⟨1, (), rfl, rfl, ⟨by rw [ht]; exact hP9, va_K.moved hW.alike hK9, hD9⟩⟩, hS.F ht⟩) hS.2.2 dX24_settle_38
set_option maxHeartbeats 4000000 in
set_option maxRecDepth 100000 in
/-- GearboxModel.isFunction, from the state that its caller has -/
theorem kX24_isFunction_n47 {zs : Nat × Nat} (l : Launch) (dC : Nat → ClassId) (dI : Nat → Nat → Nat) (a0 : Nat) (i1 : Int32) (a2 : Nat) (a3 : Nat) (a4 : Nat) (a5 : Nat) (a6 : Nat) (a7 : Nat) (k9 : ClassId) (sz : Nat)  : Met l yX24_isFunction (wz yX24_isFunction cX24_isFunction 2 (Option.some Jvm.ClassFile.FieldType.boolean)) ({ frames := 0, cells := 0, slots := 0, locals := 0 }) (va_Pc [.ref a0, .int i1] (PRE zs dC dI [(a0, .inr (15, [.ref a2, .int 0, .int (-1), .int 0, .ref a3, .ref a4, .ref a5, .ref a6, .ref a7])), (a4, .inl (k9, 0, .inr (.inr (.inr (.inr (fun _ => none))))))] [(k9, .object RX14)] sz)) (va_Qi (fun (r : Int32) (_ : Unit) => r = 0) (fun _ t => POST dC dI [(a0, .inr (15, [.ref a2, .int 0, .int (-1), .int 0, .ref a3, .ref a4, .ref a5, .ref a6, .ref a7])), (a4, .inl (k9, 0, .inr (.inr (.inr (.inr (fun _ => none))))))] [(k9, .object RX14)] (va_A [(a0, .inr (15, [.ref a2, .int 0, .int (-1), .int 0, .ref a3, .ref a4, .ref a5, .ref a6, .ref a7])), (a4, .inl (k9, 0, .inr (.inr (.inr (.inr (fun _ => none))))))] sz) t) (va_A [(a0, .inr (15, [.ref a2, .int 0, .int (-1), .int 0, .ref a3, .ref a4, .ref a5, .ref a6, .ref a7])), (a4, .inl (k9, 0, .inr (.inr (.inr (.inr (fun _ => none))))))] sz)) 0 0 (va_A [(a0, .inr (15, [.ref a2, .int 0, .int (-1), .int 0, .ref a3, .ref a4, .ref a5, .ref a6, .ref a7])), (a4, .inl (k9, 0, .inr (.inr (.inr (.inr (fun _ => none))))))] sz) := by
  refine Met.ofW (cc := cX24_isFunction) (maxL := 2) (ret := (Option.some Jvm.ClassFile.FieldType.boolean)) (by decide) rfl ?_
  intro p e s m args below meth c s₁ B hml hv
  obtain ⟨rfl, hsz, hP, hK, hD0, hE⟩ := hv
  have hx := B.exec
  have hb := B.bytes
  have hr := B.returns
  have hts0 := atoms_spec (ws := wz yX24_isFunction cX24_isFunction 2 (Option.some Jvm.ClassFile.FieldType.boolean)) B.pre
  have hts : ∀ w ∈ gw, w.before _ s = true := fun w h => hts0 w (List.mem_cons_of_mem _ h)
  have hown : s.vm.findClass RX24 = some m.cls := findClass_of_methodNamed B.named
  have hlocks := B.notSynchronized
  subst hsz
  have hD := hD0.self (sz := s.heap.size)
  generalize hAe : va_A [(a0, .inr (15, [.ref a2, .int 0, .int (-1), .int 0, .ref a3, .ref a4, .ref a5, .ref a6, .ref a7])), (a4, .inl (k9, 0, .inr (.inr (.inr (.inr (fun _ => none))))))] s.heap.size = A at hD hE ⊢
  have hA : ∀ q : Nat, s.heap.size ≤ q → A q := fun q h => by rw [← hAe]; exact Or.inr h
  have hS : va_S A s.heap s.heap [] := va_S.rf
  have hP : va_P (dC, dI) cls [(a0, .inr (15, [.ref a2, .int 0, .int (-1), .int 0, .ref a3, .ref a4, .ref a5, .ref a6, .ref a7])), (a4, .inl (k9, 0, .inr (.inr (.inr (.inr (fun _ => none))))))] s.heap := hP
  have hl := lv_entry ([.ref a0, .int i1]) (n := 2) (Nat.le_of_ble_eq_true rfl)
  rw [lg_entry_eq]
  generalize (lg_sl ([.ref a0, .int i1]) ++ List.replicate (2 - (lg_sl ([.ref a0, .int i1])).length) Slot.unset).toArray = ls at hl ⊢
  have hl : lv_has ls 2 [(0, .ref a0), (1, .int i1)] := hl
  by_cases hc : i1 < 0
  · refine lv_iload_n hx hb dX24_isFunction_0 rfl (lv_at hl 1 rfl) ?_
    refine lv_if_lt (tgt := 17) hx hb dX24_isFunction_1 (by decide) (fun _ => ?_) (fun c => absurd hc c)
    refine lv_iconst (v := 0) hx hb dX24_isFunction_17 (by decide) ?_
    have hP9 : va_P (dC, dI) cls [(a0, .inr (15, [.ref a2, .int 0, .int (-1), .int 0, .ref a3, .ref a4, .ref a5, .ref a6, .ref a7])), (a4, .inl (k9, 0, .inr (.inr (.inr (.inr (fun _ => none))))))] s.heap := hP.sub [0, 1] rfl
    have hD9 : va_D A [(a0, .inr (15, [.ref a2, .int 0, .int (-1), .int 0, .ref a3, .ref a4, .ref a5, .ref a6, .ref a7])), (a4, .inl (k9, 0, .inr (.inr (.inr (.inr (fun _ => none))))))] := hD.sub [0, 1] (by decide) rfl
    have hK9 : va_K (dC, dI) cls [(k9, .object RX14)] s := hK.sub [0] rfl
    exact W.zret (v := 0) hx hb hr (by decide) (fun t ht hW => ⟨⟨0, (), rfl, rfl, ⟨by rw [ht]; exact hP9, va_K.moved hW.alike hK9, hD9⟩⟩, hS.F ht⟩) hS.2.2 dX24_isFunction_18
  · refine lv_iload_n hx hb dX24_isFunction_0 rfl (lv_at hl 1 rfl) ?_
    refine lv_if_lt (tgt := 17) hx hb dX24_isFunction_1 (by decide) (fun c => absurd c hc) (fun _ => ?_)
    refine lv_iload_n hx hb dX24_isFunction_4 rfl (lv_at hl 1 rfl) ?_
    refine lv_aload_n hx hb dX24_isFunction_5 rfl (lv_at hl 0 rfl) ?_
    refine va_get (D := (dC, dI)) (ci := 15) (v := .ref a4) (C := RX24) (T := TX24) (N := 9) hx hb hts i_X24 hown hK hP 0 rfl rfl 5 (by decide) (hts _ qw390) (fun _ h9 => h9) rfl dX24_isFunction_6 ?_
    refine va_alen (v := 0) hx hb hK hP 1 0 rfl rfl (by decide) dX24_isFunction_9 ?_
    refine lv_icmp_ge (tgt := 17) hx hb dX24_isFunction_10 (by decide) (fun _ => ?_) (fun c => absurd (Int32.not_lt.mp hc) c)
    refine lv_iconst (v := 0) hx hb dX24_isFunction_17 (by decide) ?_
    have hP9 : va_P (dC, dI) cls [(a0, .inr (15, [.ref a2, .int 0, .int (-1), .int 0, .ref a3, .ref a4, .ref a5, .ref a6, .ref a7])), (a4, .inl (k9, 0, .inr (.inr (.inr (.inr (fun _ => none))))))] s.heap := hP.sub [0, 1] rfl
    have hD9 : va_D A [(a0, .inr (15, [.ref a2, .int 0, .int (-1), .int 0, .ref a3, .ref a4, .ref a5, .ref a6, .ref a7])), (a4, .inl (k9, 0, .inr (.inr (.inr (.inr (fun _ => none))))))] := hD.sub [0, 1] (by decide) rfl
    have hK9 : va_K (dC, dI) cls [(k9, .object RX14)] s := hK.sub [0] rfl
    exact W.zret (v := 0) hx hb hr (by decide) (fun t ht hW => ⟨⟨0, (), rfl, rfl, ⟨by rw [ht]; exact hP9, va_K.moved hW.alike hK9, hD9⟩⟩, hS.F ht⟩) hS.2.2 dX24_isFunction_18
set_option maxHeartbeats 4000000 in
set_option maxRecDepth 100000 in
theorem kX24_parametersOf {zs : Nat × Nat} (l : Launch) (dC : Nat → ClassId) (dI : Nat → Nat → Nat) (mx : Nat) (mq1 : Nat) (mq3 : Nat) (mq4 : Nat) (mc5 : ClassId) (mq6 : Nat) (mq8 : Nat) (mq22 : Nat) (p0 : Int32) (sz : Nat)  : Met l yX24_parametersOf (wz yX24_parametersOf cX24_parametersOf 2 (Option.some Jvm.ClassFile.FieldType.int)) ({ frames := 1, cells := 0, slots := 0, locals := 21 }) (va_Pc [.ref mx, .int p0] (PRE zs dC dI [(mx, .inr (15, [.ref mq1, .int 0, .int (-1), .int 0, .ref mq3, .ref mq4, .ref mq6, .ref mq8, .ref mq22])), (mq4, .inl (mc5, 0, .inr (.inr (.inr (.inr (fun _ => none))))))] [(mc5, .object RX14)] sz)) (va_Qi (fun (r : Int32) (_ : Unit) => r = 0) (fun _ t => POST dC dI [(mx, .inr (15, [.ref mq1, .int 0, .int (-1), .int 1, .ref mq3, .ref mq4, .ref mq6, .ref mq8, .ref mq22]))] [] (va_A [(mx, .inr (15, [.ref mq1, .int 0, .int (-1), .int 0, .ref mq3, .ref mq4, .ref mq6, .ref mq8, .ref mq22])), (mq4, .inl (mc5, 0, .inr (.inr (.inr (.inr (fun _ => none))))))] sz) t) (va_A [(mx, .inr (15, [.ref mq1, .int 0, .int (-1), .int 0, .ref mq3, .ref mq4, .ref mq6, .ref mq8, .ref mq22])), (mq4, .inl (mc5, 0, .inr (.inr (.inr (.inr (fun _ => none))))))] sz)) 0 0 (va_A [(mx, .inr (15, [.ref mq1, .int 0, .int (-1), .int 0, .ref mq3, .ref mq4, .ref mq6, .ref mq8, .ref mq22])), (mq4, .inl (mc5, 0, .inr (.inr (.inr (.inr (fun _ => none))))))] sz) := by
  refine Met.ofW (cc := cX24_parametersOf) (maxL := 2) (ret := (Option.some Jvm.ClassFile.FieldType.int)) (by decide) rfl ?_
  intro p e s m args below meth c s₁ B hml hv
  obtain ⟨rfl, hsz, hP, hK, hD0, hE⟩ := hv
  have hx := B.exec
  have hb := B.bytes
  have hr := B.returns
  have hts0 := atoms_spec (ws := wz yX24_parametersOf cX24_parametersOf 2 (Option.some Jvm.ClassFile.FieldType.int)) B.pre
  have hts : ∀ w ∈ gw, w.before _ s = true := fun w h => hts0 w (List.mem_cons_of_mem _ h)
  have hown : s.vm.findClass RX24 = some m.cls := findClass_of_methodNamed B.named
  have hlocks := B.notSynchronized
  subst hsz
  have hD := hD0.self (sz := s.heap.size)
  generalize hAe : va_A [(mx, .inr (15, [.ref mq1, .int 0, .int (-1), .int 0, .ref mq3, .ref mq4, .ref mq6, .ref mq8, .ref mq22])), (mq4, .inl (mc5, 0, .inr (.inr (.inr (.inr (fun _ => none))))))] s.heap.size = A at hD hE ⊢
  have hA : ∀ q : Nat, s.heap.size ≤ q → A q := fun q h => by rw [← hAe]; exact Or.inr h
  have hS : va_S A s.heap s.heap [] := va_S.rf
  have hP : va_P (dC, dI) cls [(mx, .inr (15, [.ref mq1, .int 0, .int (-1), .int 0, .ref mq3, .ref mq4, .ref mq6, .ref mq8, .ref mq22])), (mq4, .inl (mc5, 0, .inr (.inr (.inr (.inr (fun _ => none))))))] s.heap := hP
  have hl := lv_entry ([.ref mx, .int p0]) (n := 2) (Nat.le_of_ble_eq_true rfl)
  rw [lg_entry_eq]
  generalize (lg_sl ([.ref mx, .int p0]) ++ List.replicate (2 - (lg_sl ([.ref mx, .int p0])).length) Slot.unset).toArray = ls at hl ⊢
  have hl : lv_has ls 2 [(0, .ref mx), (1, .int p0)] := hl
  refine lv_aload_n hx hb dX24_parametersOf_0 rfl (lv_at hl 0 rfl) ?_
  refine lv_iconst (v := 0) hx hb dX24_parametersOf_1 (by decide) ?_
  refine va_put (D := (dC, dI)) (ci := 15) (v := .int 0) (ty := .int) (C := RX24) (T := TX24) (N := 9) hx hb hts i_X24 tyX24 tyX24_ok nmX24 hown hK hP hD hS 0 rfl rfl 3 (by decide) (hts _ qw428) (fun _ h9 => h9) rfl (by decide +kernel) rfl rfl (Nat.le_of_ble_eq_true rfl) dX24_parametersOf_2 (fun H locs hP hD hS => ?_)
  have hP : va_P (dC, dI) cls [(mx, .inr (15, [.ref mq1, .int 0, .int (-1), .int 0, .ref mq3, .ref mq4, .ref mq6, .ref mq8, .ref mq22])), (mq4, .inl (mc5, 0, .inr (.inr (.inr (.inr (fun _ => none))))))] H := hP
  have hD : va_D A [(mx, .inr (15, [.ref mq1, .int 0, .int (-1), .int 0, .ref mq3, .ref mq4, .ref mq6, .ref mq8, .ref mq22])), (mq4, .inl (mc5, 0, .inr (.inr (.inr (.inr (fun _ => none))))))] := hD
  refine lv_aload_n hx hb dX24_parametersOf_5 rfl (lv_at hl 0 rfl) ?_
  refine lv_iload_n hx hb dX24_parametersOf_6 rfl (lv_at hl 1 rfl) ?_
  have hPc := hP.sub (ws' := [(mx, .inr (15, [.ref mq1, .int 0, .int (-1), .int 0, .ref mq3, .ref mq4, .ref mq6, .ref mq8, .ref mq22])), (mq4, .inl (mc5, 0, .inr (.inr (.inr (.inr (fun _ => none))))))]) [0, 1] rfl
  have hDc := hD.sub (ws' := [(mx, .inr (15, [.ref mq1, .int 0, .int (-1), .int 0, .ref mq3, .ref mq4, .ref mq6, .ref mq8, .ref mq22])), (mq4, .inl (mc5, 0, .inr (.inr (.inr (.inr (fun _ => none))))))]) [0, 1] (by decide) rfl
  have hKc := hK.sub (tys' := [(mc5, .object RX14)]) [0] rfl
  have hFc := va_free (wc := [(mx, .inr (15, [.ref mq1, .int 0, .int (-1), .int 0, .ref mq3, .ref mq4, .ref mq6, .ref mq8, .ref mq22])), (mq4, .inl (mc5, 0, .inr (.inr (.inr (.inr (fun _ => none))))))]) hD hS hA [0, 1] rfl
  refine va_calli (va_runV (As := [.int p0]) (rest := []) ⟨hx, hb, hml, hown, hts⟩ (kX24_isFunction_n47 l dC dI (a0 := mx) (i1 := p0) (a2 := mq1) (a3 := mq3) (a4 := mq4) (a5 := mq6) (a6 := mq8) (a7 := mq22) (k9 := mc5) (sz := _)) (cwV 1 hts (gi_V qw451 qw452 qw453 qw434 (gi_z qw450)) rfl rfl rfl (by decide +kernel) ⟨Nat.le_of_ble_eq_true rfl, Nat.le_of_ble_eq_true rfl⟩) ⟨PRE.blind, va_recv hKc hPc (ci := 15) (q0 := 0) rfl rfl, PRE.of hE hS hFc hPc hKc hDc⟩ rfl rfl hl.1 rfl (lv_room (Nat.le_of_ble_eq_true rfl)) dX24_parametersOf_7 ⟨Nat.le_of_ble_eq_true rfl, Nat.le_of_ble_eq_true rfl⟩) hS (fun q _ h => hFc q h) hFc (fun r1 u t H locs ht hvm hw hB hz1 hk1 hS => ?_)
  obtain ⟨hP, hD, hK⟩ := JOIN (wr := []) hP hD hK [0, 1] [] [] rfl rfl (by decide) (by decide) rfl hk1 hFc ht hvm hB
  have hP : va_P (dC, dI) cls [(mx, .inr (15, [.ref mq1, .int 0, .int (-1), .int 0, .ref mq3, .ref mq4, .ref mq6, .ref mq8, .ref mq22])), (mq4, .inl (mc5, 0, .inr (.inr (.inr (.inr (fun _ => none))))))] H := hP
  have hD : va_D A [(mx, .inr (15, [.ref mq1, .int 0, .int (-1), .int 0, .ref mq3, .ref mq4, .ref mq6, .ref mq8, .ref mq22])), (mq4, .inl (mc5, 0, .inr (.inr (.inr (.inr (fun _ => none))))))] := hD
  have hK : va_K (dC, dI) cls [(mc5, .object RX14)] s := hK
  refine W.widen (k := 0) (n := 0) (Nat.le_of_ble_eq_true rfl) (Nat.le_of_ble_eq_true rfl) ?_
  obtain rfl : r1 = 0 := hw
  refine lv_if_eq (tgt := 25) hx hb dX24_parametersOf_10 (by decide) (fun _ => ?_) (fun c => absurd (by decide) c)
  refine lv_aload_n hx hb dX24_parametersOf_25 rfl (lv_at hl 0 rfl) ?_
  refine lv_iconst (v := 1) hx hb dX24_parametersOf_26 (by decide) ?_
  have hPc := hP.sub (ws' := [(mx, .inr (15, [.ref mq1, .int 0, .int (-1), .int 0, .ref mq3, .ref mq4, .ref mq6, .ref mq8, .ref mq22]))]) [0] rfl
  have hDc := hD.sub (ws' := [(mx, .inr (15, [.ref mq1, .int 0, .int (-1), .int 0, .ref mq3, .ref mq4, .ref mq6, .ref mq8, .ref mq22]))]) [0] (by decide) rfl
  have hKc := hK.sub (tys' := []) [] rfl
  have hFc := va_free (wc := [(mx, .inr (15, [.ref mq1, .int 0, .int (-1), .int 0, .ref mq3, .ref mq4, .ref mq6, .ref mq8, .ref mq22]))]) hD hS hA [0] rfl
  refine va_calli (va_runV (As := [.int 1]) (rest := []) ⟨hx, hb, hml, hown, hts⟩ (kX24_no_n39 l dC dI (a0 := mx) (a1 := mq1) (a2 := mq3) (a3 := mq4) (a4 := mq6) (a5 := mq8) (a6 := mq22) (sz := _)) (cwV 1 hts (gi_V qw436 qw437 qw438 qw434 (gi_z qw435)) rfl rfl rfl (by decide +kernel) ⟨Nat.le_of_ble_eq_true rfl, Nat.le_of_ble_eq_true rfl⟩) ⟨PRE.blind, va_recv hKc hPc (ci := 15) (q0 := 0) rfl rfl, PRE.of hE hS hFc hPc hKc hDc⟩ rfl rfl hl.1 rfl (lv_room (Nat.le_of_ble_eq_true rfl)) dX24_parametersOf_27 ⟨Nat.le_of_ble_eq_true rfl, Nat.le_of_ble_eq_true rfl⟩) hS (fun q _ h => hFc q h) hFc (fun r2 u t H locs ht hvm hw hB hz1 hk1 hS => ?_)
  obtain ⟨hP, hD, hK⟩ := JOIN (wr := [(mq4, .inl (mc5, 0, .inr (.inr (.inr (.inr (fun _ => none))))))]) hP hD hK [0] [1] [0] rfl rfl (by decide) (by decide) rfl hk1 hFc ht hvm hB
  have hP : va_P (dC, dI) cls [(mq4, .inl (mc5, 0, .inr (.inr (.inr (.inr (fun _ => none)))))), (mx, .inr (15, [.ref mq1, .int 0, .int (-1), .int 1, .ref mq3, .ref mq4, .ref mq6, .ref mq8, .ref mq22]))] H := hP
  have hD : va_D A [(mq4, .inl (mc5, 0, .inr (.inr (.inr (.inr (fun _ => none)))))), (mx, .inr (15, [.ref mq1, .int 0, .int (-1), .int 1, .ref mq3, .ref mq4, .ref mq6, .ref mq8, .ref mq22]))] := hD
  have hK : va_K (dC, dI) cls [(mc5, .object RX14)] s := hK
  refine W.widen (k := 0) (n := 0) (Nat.le_of_ble_eq_true rfl) (Nat.le_of_ble_eq_true rfl) ?_
  obtain rfl : r2 = 0 := hw
  have hP9 : va_P (dC, dI) cls [(mx, .inr (15, [.ref mq1, .int 0, .int (-1), .int 1, .ref mq3, .ref mq4, .ref mq6, .ref mq8, .ref mq22]))] H := hP.sub [1] rfl
  have hD9 : va_D A [(mx, .inr (15, [.ref mq1, .int 0, .int (-1), .int 1, .ref mq3, .ref mq4, .ref mq6, .ref mq8, .ref mq22]))] := hD.sub [1] (by decide) rfl
  have hK9 : va_K (dC, dI) cls [] s := hK.sub [] rfl
  exact W.iret (v := 0) hx hb hr (fun t ht hW => ⟨⟨0, (), rfl, rfl, ⟨by rw [ht]; exact hP9, va_K.moved hW.alike hK9, hD9⟩⟩, hS.F ht⟩) hS.2.2 dX24_parametersOf_30
set_option maxHeartbeats 4000000 in
set_option maxRecDepth 100000 in
theorem kX24_blocks {zs : Nat × Nat} (l : Launch) (dC : Nat → ClassId) (dI : Nat → Nat → Nat) (mx : Nat) (mq1 : Nat) (mq3 : Nat) (mq4 : Nat) (mc5 : ClassId) (mq6 : Nat) (mq8 : Nat) (mq22 : Nat) (p0 : Int32) (sz : Nat)  : Met l yX24_blocks (wz yX24_blocks cX24_blocks 2 (Option.some Jvm.ClassFile.FieldType.int)) ({ frames := 1, cells := 0, slots := 0, locals := 21 }) (va_Pc [.ref mx, .int p0] (PRE zs dC dI [(mx, .inr (15, [.ref mq1, .int 0, .int (-1), .int 0, .ref mq3, .ref mq4, .ref mq6, .ref mq8, .ref mq22])), (mq4, .inl (mc5, 0, .inr (.inr (.inr (.inr (fun _ => none))))))] [(mc5, .object RX14)] sz)) (va_Qi (fun (r : Int32) (_ : Unit) => r = 0) (fun _ t => POST dC dI [(mx, .inr (15, [.ref mq1, .int 0, .int (-1), .int 1, .ref mq3, .ref mq4, .ref mq6, .ref mq8, .ref mq22]))] [] (va_A [(mx, .inr (15, [.ref mq1, .int 0, .int (-1), .int 0, .ref mq3, .ref mq4, .ref mq6, .ref mq8, .ref mq22])), (mq4, .inl (mc5, 0, .inr (.inr (.inr (.inr (fun _ => none))))))] sz) t) (va_A [(mx, .inr (15, [.ref mq1, .int 0, .int (-1), .int 0, .ref mq3, .ref mq4, .ref mq6, .ref mq8, .ref mq22])), (mq4, .inl (mc5, 0, .inr (.inr (.inr (.inr (fun _ => none))))))] sz)) 0 0 (va_A [(mx, .inr (15, [.ref mq1, .int 0, .int (-1), .int 0, .ref mq3, .ref mq4, .ref mq6, .ref mq8, .ref mq22])), (mq4, .inl (mc5, 0, .inr (.inr (.inr (.inr (fun _ => none))))))] sz) := by
  refine Met.ofW (cc := cX24_blocks) (maxL := 2) (ret := (Option.some Jvm.ClassFile.FieldType.int)) (by decide) rfl ?_
  intro p e s m args below meth c s₁ B hml hv
  obtain ⟨rfl, hsz, hP, hK, hD0, hE⟩ := hv
  have hx := B.exec
  have hb := B.bytes
  have hr := B.returns
  have hts0 := atoms_spec (ws := wz yX24_blocks cX24_blocks 2 (Option.some Jvm.ClassFile.FieldType.int)) B.pre
  have hts : ∀ w ∈ gw, w.before _ s = true := fun w h => hts0 w (List.mem_cons_of_mem _ h)
  have hown : s.vm.findClass RX24 = some m.cls := findClass_of_methodNamed B.named
  have hlocks := B.notSynchronized
  subst hsz
  have hD := hD0.self (sz := s.heap.size)
  generalize hAe : va_A [(mx, .inr (15, [.ref mq1, .int 0, .int (-1), .int 0, .ref mq3, .ref mq4, .ref mq6, .ref mq8, .ref mq22])), (mq4, .inl (mc5, 0, .inr (.inr (.inr (.inr (fun _ => none))))))] s.heap.size = A at hD hE ⊢
  have hA : ∀ q : Nat, s.heap.size ≤ q → A q := fun q h => by rw [← hAe]; exact Or.inr h
  have hS : va_S A s.heap s.heap [] := va_S.rf
  have hP : va_P (dC, dI) cls [(mx, .inr (15, [.ref mq1, .int 0, .int (-1), .int 0, .ref mq3, .ref mq4, .ref mq6, .ref mq8, .ref mq22])), (mq4, .inl (mc5, 0, .inr (.inr (.inr (.inr (fun _ => none))))))] s.heap := hP
  have hl := lv_entry ([.ref mx, .int p0]) (n := 2) (Nat.le_of_ble_eq_true rfl)
  rw [lg_entry_eq]
  generalize (lg_sl ([.ref mx, .int p0]) ++ List.replicate (2 - (lg_sl ([.ref mx, .int p0])).length) Slot.unset).toArray = ls at hl ⊢
  have hl : lv_has ls 2 [(0, .ref mx), (1, .int p0)] := hl
  refine lv_aload_n hx hb dX24_blocks_0 rfl (lv_at hl 0 rfl) ?_
  refine lv_iconst (v := 0) hx hb dX24_blocks_1 (by decide) ?_
  refine va_put (D := (dC, dI)) (ci := 15) (v := .int 0) (ty := .int) (C := RX24) (T := TX24) (N := 9) hx hb hts i_X24 tyX24 tyX24_ok nmX24 hown hK hP hD hS 0 rfl rfl 3 (by decide) (hts _ qw428) (fun _ h9 => h9) rfl (by decide +kernel) rfl rfl (Nat.le_of_ble_eq_true rfl) dX24_blocks_2 (fun H locs hP hD hS => ?_)
  have hP : va_P (dC, dI) cls [(mx, .inr (15, [.ref mq1, .int 0, .int (-1), .int 0, .ref mq3, .ref mq4, .ref mq6, .ref mq8, .ref mq22])), (mq4, .inl (mc5, 0, .inr (.inr (.inr (.inr (fun _ => none))))))] H := hP
  have hD : va_D A [(mx, .inr (15, [.ref mq1, .int 0, .int (-1), .int 0, .ref mq3, .ref mq4, .ref mq6, .ref mq8, .ref mq22])), (mq4, .inl (mc5, 0, .inr (.inr (.inr (.inr (fun _ => none))))))] := hD
  refine lv_aload_n hx hb dX24_blocks_5 rfl (lv_at hl 0 rfl) ?_
  refine lv_iload_n hx hb dX24_blocks_6 rfl (lv_at hl 1 rfl) ?_
  have hPc := hP.sub (ws' := [(mx, .inr (15, [.ref mq1, .int 0, .int (-1), .int 0, .ref mq3, .ref mq4, .ref mq6, .ref mq8, .ref mq22])), (mq4, .inl (mc5, 0, .inr (.inr (.inr (.inr (fun _ => none))))))]) [0, 1] rfl
  have hDc := hD.sub (ws' := [(mx, .inr (15, [.ref mq1, .int 0, .int (-1), .int 0, .ref mq3, .ref mq4, .ref mq6, .ref mq8, .ref mq22])), (mq4, .inl (mc5, 0, .inr (.inr (.inr (.inr (fun _ => none))))))]) [0, 1] (by decide) rfl
  have hKc := hK.sub (tys' := [(mc5, .object RX14)]) [0] rfl
  have hFc := va_free (wc := [(mx, .inr (15, [.ref mq1, .int 0, .int (-1), .int 0, .ref mq3, .ref mq4, .ref mq6, .ref mq8, .ref mq22])), (mq4, .inl (mc5, 0, .inr (.inr (.inr (.inr (fun _ => none))))))]) hD hS hA [0, 1] rfl
  refine va_calli (va_runV (As := [.int p0]) (rest := []) ⟨hx, hb, hml, hown, hts⟩ (kX24_isFunction_n47 l dC dI (a0 := mx) (i1 := p0) (a2 := mq1) (a3 := mq3) (a4 := mq4) (a5 := mq6) (a6 := mq8) (a7 := mq22) (k9 := mc5) (sz := _)) (cwV 1 hts (gi_V qw451 qw452 qw453 qw434 (gi_z qw450)) rfl rfl rfl (by decide +kernel) ⟨Nat.le_of_ble_eq_true rfl, Nat.le_of_ble_eq_true rfl⟩) ⟨PRE.blind, va_recv hKc hPc (ci := 15) (q0 := 0) rfl rfl, PRE.of hE hS hFc hPc hKc hDc⟩ rfl rfl hl.1 rfl (lv_room (Nat.le_of_ble_eq_true rfl)) dX24_blocks_7 ⟨Nat.le_of_ble_eq_true rfl, Nat.le_of_ble_eq_true rfl⟩) hS (fun q _ h => hFc q h) hFc (fun r1 u t H locs ht hvm hw hB hz1 hk1 hS => ?_)
  obtain ⟨hP, hD, hK⟩ := JOIN (wr := []) hP hD hK [0, 1] [] [] rfl rfl (by decide) (by decide) rfl hk1 hFc ht hvm hB
  have hP : va_P (dC, dI) cls [(mx, .inr (15, [.ref mq1, .int 0, .int (-1), .int 0, .ref mq3, .ref mq4, .ref mq6, .ref mq8, .ref mq22])), (mq4, .inl (mc5, 0, .inr (.inr (.inr (.inr (fun _ => none))))))] H := hP
  have hD : va_D A [(mx, .inr (15, [.ref mq1, .int 0, .int (-1), .int 0, .ref mq3, .ref mq4, .ref mq6, .ref mq8, .ref mq22])), (mq4, .inl (mc5, 0, .inr (.inr (.inr (.inr (fun _ => none))))))] := hD
  have hK : va_K (dC, dI) cls [(mc5, .object RX14)] s := hK
  refine W.widen (k := 0) (n := 0) (Nat.le_of_ble_eq_true rfl) (Nat.le_of_ble_eq_true rfl) ?_
  obtain rfl : r1 = 0 := hw
  refine lv_if_eq (tgt := 25) hx hb dX24_blocks_10 (by decide) (fun _ => ?_) (fun c => absurd (by decide) c)
  refine lv_aload_n hx hb dX24_blocks_25 rfl (lv_at hl 0 rfl) ?_
  refine lv_iconst (v := 1) hx hb dX24_blocks_26 (by decide) ?_
  have hPc := hP.sub (ws' := [(mx, .inr (15, [.ref mq1, .int 0, .int (-1), .int 0, .ref mq3, .ref mq4, .ref mq6, .ref mq8, .ref mq22]))]) [0] rfl
  have hDc := hD.sub (ws' := [(mx, .inr (15, [.ref mq1, .int 0, .int (-1), .int 0, .ref mq3, .ref mq4, .ref mq6, .ref mq8, .ref mq22]))]) [0] (by decide) rfl
  have hKc := hK.sub (tys' := []) [] rfl
  have hFc := va_free (wc := [(mx, .inr (15, [.ref mq1, .int 0, .int (-1), .int 0, .ref mq3, .ref mq4, .ref mq6, .ref mq8, .ref mq22]))]) hD hS hA [0] rfl
  refine va_calli (va_runV (As := [.int 1]) (rest := []) ⟨hx, hb, hml, hown, hts⟩ (kX24_no_n39 l dC dI (a0 := mx) (a1 := mq1) (a2 := mq3) (a3 := mq4) (a4 := mq6) (a5 := mq8) (a6 := mq22) (sz := _)) (cwV 1 hts (gi_V qw436 qw437 qw438 qw434 (gi_z qw435)) rfl rfl rfl (by decide +kernel) ⟨Nat.le_of_ble_eq_true rfl, Nat.le_of_ble_eq_true rfl⟩) ⟨PRE.blind, va_recv hKc hPc (ci := 15) (q0 := 0) rfl rfl, PRE.of hE hS hFc hPc hKc hDc⟩ rfl rfl hl.1 rfl (lv_room (Nat.le_of_ble_eq_true rfl)) dX24_blocks_27 ⟨Nat.le_of_ble_eq_true rfl, Nat.le_of_ble_eq_true rfl⟩) hS (fun q _ h => hFc q h) hFc (fun r2 u t H locs ht hvm hw hB hz1 hk1 hS => ?_)
  obtain ⟨hP, hD, hK⟩ := JOIN (wr := [(mq4, .inl (mc5, 0, .inr (.inr (.inr (.inr (fun _ => none))))))]) hP hD hK [0] [1] [0] rfl rfl (by decide) (by decide) rfl hk1 hFc ht hvm hB
  have hP : va_P (dC, dI) cls [(mq4, .inl (mc5, 0, .inr (.inr (.inr (.inr (fun _ => none)))))), (mx, .inr (15, [.ref mq1, .int 0, .int (-1), .int 1, .ref mq3, .ref mq4, .ref mq6, .ref mq8, .ref mq22]))] H := hP
  have hD : va_D A [(mq4, .inl (mc5, 0, .inr (.inr (.inr (.inr (fun _ => none)))))), (mx, .inr (15, [.ref mq1, .int 0, .int (-1), .int 1, .ref mq3, .ref mq4, .ref mq6, .ref mq8, .ref mq22]))] := hD
  have hK : va_K (dC, dI) cls [(mc5, .object RX14)] s := hK
  refine W.widen (k := 0) (n := 0) (Nat.le_of_ble_eq_true rfl) (Nat.le_of_ble_eq_true rfl) ?_
  obtain rfl : r2 = 0 := hw
  have hP9 : va_P (dC, dI) cls [(mx, .inr (15, [.ref mq1, .int 0, .int (-1), .int 1, .ref mq3, .ref mq4, .ref mq6, .ref mq8, .ref mq22]))] H := hP.sub [1] rfl
  have hD9 : va_D A [(mx, .inr (15, [.ref mq1, .int 0, .int (-1), .int 1, .ref mq3, .ref mq4, .ref mq6, .ref mq8, .ref mq22]))] := hD.sub [1] (by decide) rfl
  have hK9 : va_K (dC, dI) cls [] s := hK.sub [] rfl
  exact W.iret (v := 0) hx hb hr (fun t ht hW => ⟨⟨0, (), rfl, rfl, ⟨by rw [ht]; exact hP9, va_K.moved hW.alike hK9, hD9⟩⟩, hS.F ht⟩) hS.2.2 dX24_blocks_30
set_option maxHeartbeats 4000000 in
set_option maxRecDepth 100000 in
theorem kX24_values {zs : Nat × Nat} (l : Launch) (dC : Nat → ClassId) (dI : Nat → Nat → Nat) (mx : Nat) (mq1 : Nat) (mq3 : Nat) (mq4 : Nat) (mc5 : ClassId) (mq6 : Nat) (mq8 : Nat) (mq22 : Nat) (p0 : Int32) (sz : Nat)  : Met l yX24_values (wz yX24_values cX24_values 2 (Option.some Jvm.ClassFile.FieldType.int)) ({ frames := 1, cells := 0, slots := 0, locals := 21 }) (va_Pc [.ref mx, .int p0] (PRE zs dC dI [(mx, .inr (15, [.ref mq1, .int 0, .int (-1), .int 0, .ref mq3, .ref mq4, .ref mq6, .ref mq8, .ref mq22])), (mq4, .inl (mc5, 0, .inr (.inr (.inr (.inr (fun _ => none))))))] [(mc5, .object RX14)] sz)) (va_Qi (fun (r : Int32) (_ : Unit) => r = 0) (fun _ t => POST dC dI [(mx, .inr (15, [.ref mq1, .int 0, .int (-1), .int 1, .ref mq3, .ref mq4, .ref mq6, .ref mq8, .ref mq22]))] [] (va_A [(mx, .inr (15, [.ref mq1, .int 0, .int (-1), .int 0, .ref mq3, .ref mq4, .ref mq6, .ref mq8, .ref mq22])), (mq4, .inl (mc5, 0, .inr (.inr (.inr (.inr (fun _ => none))))))] sz) t) (va_A [(mx, .inr (15, [.ref mq1, .int 0, .int (-1), .int 0, .ref mq3, .ref mq4, .ref mq6, .ref mq8, .ref mq22])), (mq4, .inl (mc5, 0, .inr (.inr (.inr (.inr (fun _ => none))))))] sz)) 0 0 (va_A [(mx, .inr (15, [.ref mq1, .int 0, .int (-1), .int 0, .ref mq3, .ref mq4, .ref mq6, .ref mq8, .ref mq22])), (mq4, .inl (mc5, 0, .inr (.inr (.inr (.inr (fun _ => none))))))] sz) := by
  refine Met.ofW (cc := cX24_values) (maxL := 2) (ret := (Option.some Jvm.ClassFile.FieldType.int)) (by decide) rfl ?_
  intro p e s m args below meth c s₁ B hml hv
  obtain ⟨rfl, hsz, hP, hK, hD0, hE⟩ := hv
  have hx := B.exec
  have hb := B.bytes
  have hr := B.returns
  have hts0 := atoms_spec (ws := wz yX24_values cX24_values 2 (Option.some Jvm.ClassFile.FieldType.int)) B.pre
  have hts : ∀ w ∈ gw, w.before _ s = true := fun w h => hts0 w (List.mem_cons_of_mem _ h)
  have hown : s.vm.findClass RX24 = some m.cls := findClass_of_methodNamed B.named
  have hlocks := B.notSynchronized
  subst hsz
  have hD := hD0.self (sz := s.heap.size)
  generalize hAe : va_A [(mx, .inr (15, [.ref mq1, .int 0, .int (-1), .int 0, .ref mq3, .ref mq4, .ref mq6, .ref mq8, .ref mq22])), (mq4, .inl (mc5, 0, .inr (.inr (.inr (.inr (fun _ => none))))))] s.heap.size = A at hD hE ⊢
  have hA : ∀ q : Nat, s.heap.size ≤ q → A q := fun q h => by rw [← hAe]; exact Or.inr h
  have hS : va_S A s.heap s.heap [] := va_S.rf
  have hP : va_P (dC, dI) cls [(mx, .inr (15, [.ref mq1, .int 0, .int (-1), .int 0, .ref mq3, .ref mq4, .ref mq6, .ref mq8, .ref mq22])), (mq4, .inl (mc5, 0, .inr (.inr (.inr (.inr (fun _ => none))))))] s.heap := hP
  have hl := lv_entry ([.ref mx, .int p0]) (n := 2) (Nat.le_of_ble_eq_true rfl)
  rw [lg_entry_eq]
  generalize (lg_sl ([.ref mx, .int p0]) ++ List.replicate (2 - (lg_sl ([.ref mx, .int p0])).length) Slot.unset).toArray = ls at hl ⊢
  have hl : lv_has ls 2 [(0, .ref mx), (1, .int p0)] := hl
  refine lv_aload_n hx hb dX24_values_0 rfl (lv_at hl 0 rfl) ?_
  refine lv_iconst (v := 0) hx hb dX24_values_1 (by decide) ?_
  refine va_put (D := (dC, dI)) (ci := 15) (v := .int 0) (ty := .int) (C := RX24) (T := TX24) (N := 9) hx hb hts i_X24 tyX24 tyX24_ok nmX24 hown hK hP hD hS 0 rfl rfl 3 (by decide) (hts _ qw428) (fun _ h9 => h9) rfl (by decide +kernel) rfl rfl (Nat.le_of_ble_eq_true rfl) dX24_values_2 (fun H locs hP hD hS => ?_)
  have hP : va_P (dC, dI) cls [(mx, .inr (15, [.ref mq1, .int 0, .int (-1), .int 0, .ref mq3, .ref mq4, .ref mq6, .ref mq8, .ref mq22])), (mq4, .inl (mc5, 0, .inr (.inr (.inr (.inr (fun _ => none))))))] H := hP
  have hD : va_D A [(mx, .inr (15, [.ref mq1, .int 0, .int (-1), .int 0, .ref mq3, .ref mq4, .ref mq6, .ref mq8, .ref mq22])), (mq4, .inl (mc5, 0, .inr (.inr (.inr (.inr (fun _ => none))))))] := hD
  refine lv_aload_n hx hb dX24_values_5 rfl (lv_at hl 0 rfl) ?_
  refine lv_iload_n hx hb dX24_values_6 rfl (lv_at hl 1 rfl) ?_
  have hPc := hP.sub (ws' := [(mx, .inr (15, [.ref mq1, .int 0, .int (-1), .int 0, .ref mq3, .ref mq4, .ref mq6, .ref mq8, .ref mq22])), (mq4, .inl (mc5, 0, .inr (.inr (.inr (.inr (fun _ => none))))))]) [0, 1] rfl
  have hDc := hD.sub (ws' := [(mx, .inr (15, [.ref mq1, .int 0, .int (-1), .int 0, .ref mq3, .ref mq4, .ref mq6, .ref mq8, .ref mq22])), (mq4, .inl (mc5, 0, .inr (.inr (.inr (.inr (fun _ => none))))))]) [0, 1] (by decide) rfl
  have hKc := hK.sub (tys' := [(mc5, .object RX14)]) [0] rfl
  have hFc := va_free (wc := [(mx, .inr (15, [.ref mq1, .int 0, .int (-1), .int 0, .ref mq3, .ref mq4, .ref mq6, .ref mq8, .ref mq22])), (mq4, .inl (mc5, 0, .inr (.inr (.inr (.inr (fun _ => none))))))]) hD hS hA [0, 1] rfl
  refine va_calli (va_runV (As := [.int p0]) (rest := []) ⟨hx, hb, hml, hown, hts⟩ (kX24_isFunction_n47 l dC dI (a0 := mx) (i1 := p0) (a2 := mq1) (a3 := mq3) (a4 := mq4) (a5 := mq6) (a6 := mq8) (a7 := mq22) (k9 := mc5) (sz := _)) (cwV 1 hts (gi_V qw451 qw452 qw453 qw434 (gi_z qw450)) rfl rfl rfl (by decide +kernel) ⟨Nat.le_of_ble_eq_true rfl, Nat.le_of_ble_eq_true rfl⟩) ⟨PRE.blind, va_recv hKc hPc (ci := 15) (q0 := 0) rfl rfl, PRE.of hE hS hFc hPc hKc hDc⟩ rfl rfl hl.1 rfl (lv_room (Nat.le_of_ble_eq_true rfl)) dX24_values_7 ⟨Nat.le_of_ble_eq_true rfl, Nat.le_of_ble_eq_true rfl⟩) hS (fun q _ h => hFc q h) hFc (fun r1 u t H locs ht hvm hw hB hz1 hk1 hS => ?_)
  obtain ⟨hP, hD, hK⟩ := JOIN (wr := []) hP hD hK [0, 1] [] [] rfl rfl (by decide) (by decide) rfl hk1 hFc ht hvm hB
  have hP : va_P (dC, dI) cls [(mx, .inr (15, [.ref mq1, .int 0, .int (-1), .int 0, .ref mq3, .ref mq4, .ref mq6, .ref mq8, .ref mq22])), (mq4, .inl (mc5, 0, .inr (.inr (.inr (.inr (fun _ => none))))))] H := hP
  have hD : va_D A [(mx, .inr (15, [.ref mq1, .int 0, .int (-1), .int 0, .ref mq3, .ref mq4, .ref mq6, .ref mq8, .ref mq22])), (mq4, .inl (mc5, 0, .inr (.inr (.inr (.inr (fun _ => none))))))] := hD
  have hK : va_K (dC, dI) cls [(mc5, .object RX14)] s := hK
  refine W.widen (k := 0) (n := 0) (Nat.le_of_ble_eq_true rfl) (Nat.le_of_ble_eq_true rfl) ?_
  obtain rfl : r1 = 0 := hw
  refine lv_if_eq (tgt := 25) hx hb dX24_values_10 (by decide) (fun _ => ?_) (fun c => absurd (by decide) c)
  refine lv_aload_n hx hb dX24_values_25 rfl (lv_at hl 0 rfl) ?_
  refine lv_iconst (v := 1) hx hb dX24_values_26 (by decide) ?_
  have hPc := hP.sub (ws' := [(mx, .inr (15, [.ref mq1, .int 0, .int (-1), .int 0, .ref mq3, .ref mq4, .ref mq6, .ref mq8, .ref mq22]))]) [0] rfl
  have hDc := hD.sub (ws' := [(mx, .inr (15, [.ref mq1, .int 0, .int (-1), .int 0, .ref mq3, .ref mq4, .ref mq6, .ref mq8, .ref mq22]))]) [0] (by decide) rfl
  have hKc := hK.sub (tys' := []) [] rfl
  have hFc := va_free (wc := [(mx, .inr (15, [.ref mq1, .int 0, .int (-1), .int 0, .ref mq3, .ref mq4, .ref mq6, .ref mq8, .ref mq22]))]) hD hS hA [0] rfl
  refine va_calli (va_runV (As := [.int 1]) (rest := []) ⟨hx, hb, hml, hown, hts⟩ (kX24_no_n39 l dC dI (a0 := mx) (a1 := mq1) (a2 := mq3) (a3 := mq4) (a4 := mq6) (a5 := mq8) (a6 := mq22) (sz := _)) (cwV 1 hts (gi_V qw436 qw437 qw438 qw434 (gi_z qw435)) rfl rfl rfl (by decide +kernel) ⟨Nat.le_of_ble_eq_true rfl, Nat.le_of_ble_eq_true rfl⟩) ⟨PRE.blind, va_recv hKc hPc (ci := 15) (q0 := 0) rfl rfl, PRE.of hE hS hFc hPc hKc hDc⟩ rfl rfl hl.1 rfl (lv_room (Nat.le_of_ble_eq_true rfl)) dX24_values_27 ⟨Nat.le_of_ble_eq_true rfl, Nat.le_of_ble_eq_true rfl⟩) hS (fun q _ h => hFc q h) hFc (fun r2 u t H locs ht hvm hw hB hz1 hk1 hS => ?_)
  obtain ⟨hP, hD, hK⟩ := JOIN (wr := [(mq4, .inl (mc5, 0, .inr (.inr (.inr (.inr (fun _ => none))))))]) hP hD hK [0] [1] [0] rfl rfl (by decide) (by decide) rfl hk1 hFc ht hvm hB
  have hP : va_P (dC, dI) cls [(mq4, .inl (mc5, 0, .inr (.inr (.inr (.inr (fun _ => none)))))), (mx, .inr (15, [.ref mq1, .int 0, .int (-1), .int 1, .ref mq3, .ref mq4, .ref mq6, .ref mq8, .ref mq22]))] H := hP
  have hD : va_D A [(mq4, .inl (mc5, 0, .inr (.inr (.inr (.inr (fun _ => none)))))), (mx, .inr (15, [.ref mq1, .int 0, .int (-1), .int 1, .ref mq3, .ref mq4, .ref mq6, .ref mq8, .ref mq22]))] := hD
  have hK : va_K (dC, dI) cls [(mc5, .object RX14)] s := hK
  refine W.widen (k := 0) (n := 0) (Nat.le_of_ble_eq_true rfl) (Nat.le_of_ble_eq_true rfl) ?_
  obtain rfl : r2 = 0 := hw
  have hP9 : va_P (dC, dI) cls [(mx, .inr (15, [.ref mq1, .int 0, .int (-1), .int 1, .ref mq3, .ref mq4, .ref mq6, .ref mq8, .ref mq22]))] H := hP.sub [1] rfl
  have hD9 : va_D A [(mx, .inr (15, [.ref mq1, .int 0, .int (-1), .int 1, .ref mq3, .ref mq4, .ref mq6, .ref mq8, .ref mq22]))] := hD.sub [1] (by decide) rfl
  have hK9 : va_K (dC, dI) cls [] s := hK.sub [] rfl
  exact W.iret (v := 0) hx hb hr (fun t ht hW => ⟨⟨0, (), rfl, rfl, ⟨by rw [ht]; exact hP9, va_K.moved hW.alike hK9, hD9⟩⟩, hS.F ht⟩) hS.2.2 dX24_values_30
set_option maxHeartbeats 4000000 in
set_option maxRecDepth 100000 in
theorem kX24_blockOf {zs : Nat × Nat} (l : Launch) (dC : Nat → ClassId) (dI : Nat → Nat → Nat) (mx : Nat) (mq1 : Nat) (mq3 : Nat) (mq4 : Nat) (mc5 : ClassId) (mq6 : Nat) (mq8 : Nat) (mq22 : Nat) (p0 : Int32) (p1 : Int32) (sz : Nat)  : Met l yX24_blockOf (wz yX24_blockOf cX24_blockOf 3 (Option.some Jvm.ClassFile.FieldType.int)) ({ frames := 1, cells := 0, slots := 0, locals := 21 }) (va_Pc [.ref mx, .int p0, .int p1] (PRE zs dC dI [(mx, .inr (15, [.ref mq1, .int 0, .int (-1), .int 0, .ref mq3, .ref mq4, .ref mq6, .ref mq8, .ref mq22])), (mq4, .inl (mc5, 0, .inr (.inr (.inr (.inr (fun _ => none))))))] [(mc5, .object RX14)] sz)) (va_Qi (fun (r : Int32) (_ : Unit) => r = 0) (fun _ t => POST dC dI [(mx, .inr (15, [.ref mq1, .int 0, .int (-1), .int 1, .ref mq3, .ref mq4, .ref mq6, .ref mq8, .ref mq22]))] [] (va_A [(mx, .inr (15, [.ref mq1, .int 0, .int (-1), .int 0, .ref mq3, .ref mq4, .ref mq6, .ref mq8, .ref mq22])), (mq4, .inl (mc5, 0, .inr (.inr (.inr (.inr (fun _ => none))))))] sz) t) (va_A [(mx, .inr (15, [.ref mq1, .int 0, .int (-1), .int 0, .ref mq3, .ref mq4, .ref mq6, .ref mq8, .ref mq22])), (mq4, .inl (mc5, 0, .inr (.inr (.inr (.inr (fun _ => none))))))] sz)) 0 0 (va_A [(mx, .inr (15, [.ref mq1, .int 0, .int (-1), .int 0, .ref mq3, .ref mq4, .ref mq6, .ref mq8, .ref mq22])), (mq4, .inl (mc5, 0, .inr (.inr (.inr (.inr (fun _ => none))))))] sz) := by
  refine Met.ofW (cc := cX24_blockOf) (maxL := 3) (ret := (Option.some Jvm.ClassFile.FieldType.int)) (by decide) rfl ?_
  intro p e s m args below meth c s₁ B hml hv
  obtain ⟨rfl, hsz, hP, hK, hD0, hE⟩ := hv
  have hx := B.exec
  have hb := B.bytes
  have hr := B.returns
  have hts0 := atoms_spec (ws := wz yX24_blockOf cX24_blockOf 3 (Option.some Jvm.ClassFile.FieldType.int)) B.pre
  have hts : ∀ w ∈ gw, w.before _ s = true := fun w h => hts0 w (List.mem_cons_of_mem _ h)
  have hown : s.vm.findClass RX24 = some m.cls := findClass_of_methodNamed B.named
  have hlocks := B.notSynchronized
  subst hsz
  have hD := hD0.self (sz := s.heap.size)
  generalize hAe : va_A [(mx, .inr (15, [.ref mq1, .int 0, .int (-1), .int 0, .ref mq3, .ref mq4, .ref mq6, .ref mq8, .ref mq22])), (mq4, .inl (mc5, 0, .inr (.inr (.inr (.inr (fun _ => none))))))] s.heap.size = A at hD hE ⊢
  have hA : ∀ q : Nat, s.heap.size ≤ q → A q := fun q h => by rw [← hAe]; exact Or.inr h
  have hS : va_S A s.heap s.heap [] := va_S.rf
  have hP : va_P (dC, dI) cls [(mx, .inr (15, [.ref mq1, .int 0, .int (-1), .int 0, .ref mq3, .ref mq4, .ref mq6, .ref mq8, .ref mq22])), (mq4, .inl (mc5, 0, .inr (.inr (.inr (.inr (fun _ => none))))))] s.heap := hP
  have hl := lv_entry ([.ref mx, .int p0, .int p1]) (n := 3) (Nat.le_of_ble_eq_true rfl)
  rw [lg_entry_eq]
  generalize (lg_sl ([.ref mx, .int p0, .int p1]) ++ List.replicate (3 - (lg_sl ([.ref mx, .int p0, .int p1])).length) Slot.unset).toArray = ls at hl ⊢
  have hl : lv_has ls 3 [(0, .ref mx), (1, .int p0), (2, .int p1)] := hl
  refine lv_aload_n hx hb dX24_blockOf_0 rfl (lv_at hl 0 rfl) ?_
  refine lv_iconst (v := 0) hx hb dX24_blockOf_1 (by decide) ?_
  refine va_put (D := (dC, dI)) (ci := 15) (v := .int 0) (ty := .int) (C := RX24) (T := TX24) (N := 9) hx hb hts i_X24 tyX24 tyX24_ok nmX24 hown hK hP hD hS 0 rfl rfl 3 (by decide) (hts _ qw428) (fun _ h9 => h9) rfl (by decide +kernel) rfl rfl (Nat.le_of_ble_eq_true rfl) dX24_blockOf_2 (fun H locs hP hD hS => ?_)
  have hP : va_P (dC, dI) cls [(mx, .inr (15, [.ref mq1, .int 0, .int (-1), .int 0, .ref mq3, .ref mq4, .ref mq6, .ref mq8, .ref mq22])), (mq4, .inl (mc5, 0, .inr (.inr (.inr (.inr (fun _ => none))))))] H := hP
  have hD : va_D A [(mx, .inr (15, [.ref mq1, .int 0, .int (-1), .int 0, .ref mq3, .ref mq4, .ref mq6, .ref mq8, .ref mq22])), (mq4, .inl (mc5, 0, .inr (.inr (.inr (.inr (fun _ => none))))))] := hD
  refine lv_aload_n hx hb dX24_blockOf_5 rfl (lv_at hl 0 rfl) ?_
  refine lv_iload_n hx hb dX24_blockOf_6 rfl (lv_at hl 1 rfl) ?_
  have hPc := hP.sub (ws' := [(mx, .inr (15, [.ref mq1, .int 0, .int (-1), .int 0, .ref mq3, .ref mq4, .ref mq6, .ref mq8, .ref mq22])), (mq4, .inl (mc5, 0, .inr (.inr (.inr (.inr (fun _ => none))))))]) [0, 1] rfl
  have hDc := hD.sub (ws' := [(mx, .inr (15, [.ref mq1, .int 0, .int (-1), .int 0, .ref mq3, .ref mq4, .ref mq6, .ref mq8, .ref mq22])), (mq4, .inl (mc5, 0, .inr (.inr (.inr (.inr (fun _ => none))))))]) [0, 1] (by decide) rfl
  have hKc := hK.sub (tys' := [(mc5, .object RX14)]) [0] rfl
  have hFc := va_free (wc := [(mx, .inr (15, [.ref mq1, .int 0, .int (-1), .int 0, .ref mq3, .ref mq4, .ref mq6, .ref mq8, .ref mq22])), (mq4, .inl (mc5, 0, .inr (.inr (.inr (.inr (fun _ => none))))))]) hD hS hA [0, 1] rfl
  refine va_calli (va_runV (As := [.int p0]) (rest := []) ⟨hx, hb, hml, hown, hts⟩ (kX24_isFunction_n47 l dC dI (a0 := mx) (i1 := p0) (a2 := mq1) (a3 := mq3) (a4 := mq4) (a5 := mq6) (a6 := mq8) (a7 := mq22) (k9 := mc5) (sz := _)) (cwV 1 hts (gi_V qw451 qw452 qw453 qw434 (gi_z qw450)) rfl rfl rfl (by decide +kernel) ⟨Nat.le_of_ble_eq_true rfl, Nat.le_of_ble_eq_true rfl⟩) ⟨PRE.blind, va_recv hKc hPc (ci := 15) (q0 := 0) rfl rfl, PRE.of hE hS hFc hPc hKc hDc⟩ rfl rfl hl.1 rfl (lv_room (Nat.le_of_ble_eq_true rfl)) dX24_blockOf_7 ⟨Nat.le_of_ble_eq_true rfl, Nat.le_of_ble_eq_true rfl⟩) hS (fun q _ h => hFc q h) hFc (fun r1 u t H locs ht hvm hw hB hz1 hk1 hS => ?_)
  obtain ⟨hP, hD, hK⟩ := JOIN (wr := []) hP hD hK [0, 1] [] [] rfl rfl (by decide) (by decide) rfl hk1 hFc ht hvm hB
  have hP : va_P (dC, dI) cls [(mx, .inr (15, [.ref mq1, .int 0, .int (-1), .int 0, .ref mq3, .ref mq4, .ref mq6, .ref mq8, .ref mq22])), (mq4, .inl (mc5, 0, .inr (.inr (.inr (.inr (fun _ => none))))))] H := hP
  have hD : va_D A [(mx, .inr (15, [.ref mq1, .int 0, .int (-1), .int 0, .ref mq3, .ref mq4, .ref mq6, .ref mq8, .ref mq22])), (mq4, .inl (mc5, 0, .inr (.inr (.inr (.inr (fun _ => none))))))] := hD
  have hK : va_K (dC, dI) cls [(mc5, .object RX14)] s := hK
  refine W.widen (k := 0) (n := 0) (Nat.le_of_ble_eq_true rfl) (Nat.le_of_ble_eq_true rfl) ?_
  obtain rfl : r1 = 0 := hw
  refine lv_if_eq (tgt := 27) hx hb dX24_blockOf_10 (by decide) (fun _ => ?_) (fun c => absurd (by decide) c)
  refine lv_aload_n hx hb dX24_blockOf_27 rfl (lv_at hl 0 rfl) ?_
  refine lv_iconst (v := 1) hx hb dX24_blockOf_28 (by decide) ?_
  have hPc := hP.sub (ws' := [(mx, .inr (15, [.ref mq1, .int 0, .int (-1), .int 0, .ref mq3, .ref mq4, .ref mq6, .ref mq8, .ref mq22]))]) [0] rfl
  have hDc := hD.sub (ws' := [(mx, .inr (15, [.ref mq1, .int 0, .int (-1), .int 0, .ref mq3, .ref mq4, .ref mq6, .ref mq8, .ref mq22]))]) [0] (by decide) rfl
  have hKc := hK.sub (tys' := []) [] rfl
  have hFc := va_free (wc := [(mx, .inr (15, [.ref mq1, .int 0, .int (-1), .int 0, .ref mq3, .ref mq4, .ref mq6, .ref mq8, .ref mq22]))]) hD hS hA [0] rfl
  refine va_calli (va_runV (As := [.int 1]) (rest := []) ⟨hx, hb, hml, hown, hts⟩ (kX24_no_n39 l dC dI (a0 := mx) (a1 := mq1) (a2 := mq3) (a3 := mq4) (a4 := mq6) (a5 := mq8) (a6 := mq22) (sz := _)) (cwV 1 hts (gi_V qw436 qw437 qw438 qw434 (gi_z qw435)) rfl rfl rfl (by decide +kernel) ⟨Nat.le_of_ble_eq_true rfl, Nat.le_of_ble_eq_true rfl⟩) ⟨PRE.blind, va_recv hKc hPc (ci := 15) (q0 := 0) rfl rfl, PRE.of hE hS hFc hPc hKc hDc⟩ rfl rfl hl.1 rfl (lv_room (Nat.le_of_ble_eq_true rfl)) dX24_blockOf_29 ⟨Nat.le_of_ble_eq_true rfl, Nat.le_of_ble_eq_true rfl⟩) hS (fun q _ h => hFc q h) hFc (fun r2 u t H locs ht hvm hw hB hz1 hk1 hS => ?_)
  obtain ⟨hP, hD, hK⟩ := JOIN (wr := [(mq4, .inl (mc5, 0, .inr (.inr (.inr (.inr (fun _ => none))))))]) hP hD hK [0] [1] [0] rfl rfl (by decide) (by decide) rfl hk1 hFc ht hvm hB
  have hP : va_P (dC, dI) cls [(mq4, .inl (mc5, 0, .inr (.inr (.inr (.inr (fun _ => none)))))), (mx, .inr (15, [.ref mq1, .int 0, .int (-1), .int 1, .ref mq3, .ref mq4, .ref mq6, .ref mq8, .ref mq22]))] H := hP
  have hD : va_D A [(mq4, .inl (mc5, 0, .inr (.inr (.inr (.inr (fun _ => none)))))), (mx, .inr (15, [.ref mq1, .int 0, .int (-1), .int 1, .ref mq3, .ref mq4, .ref mq6, .ref mq8, .ref mq22]))] := hD
  have hK : va_K (dC, dI) cls [(mc5, .object RX14)] s := hK
  refine W.widen (k := 0) (n := 0) (Nat.le_of_ble_eq_true rfl) (Nat.le_of_ble_eq_true rfl) ?_
  obtain rfl : r2 = 0 := hw
  have hP9 : va_P (dC, dI) cls [(mx, .inr (15, [.ref mq1, .int 0, .int (-1), .int 1, .ref mq3, .ref mq4, .ref mq6, .ref mq8, .ref mq22]))] H := hP.sub [1] rfl
  have hD9 : va_D A [(mx, .inr (15, [.ref mq1, .int 0, .int (-1), .int 1, .ref mq3, .ref mq4, .ref mq6, .ref mq8, .ref mq22]))] := hD.sub [1] (by decide) rfl
  have hK9 : va_K (dC, dI) cls [] s := hK.sub [] rfl
  exact W.iret (v := 0) hx hb hr (fun t ht hW => ⟨⟨0, (), rfl, rfl, ⟨by rw [ht]; exact hP9, va_K.moved hW.alike hK9, hD9⟩⟩, hS.F ht⟩) hS.2.2 dX24_blockOf_32
set_option maxHeartbeats 4000000 in
set_option maxRecDepth 100000 in
/-- GearboxModel.isBlock, from the state that its caller has -/
theorem kX24_isBlock_n48 {zs : Nat × Nat} (l : Launch) (dC : Nat → ClassId) (dI : Nat → Nat → Nat) (a0 : Nat) (i1 : Int32) (i2 : Int32) (a3 : Nat) (a4 : Nat) (a5 : Nat) (a6 : Nat) (a7 : Nat) (a8 : Nat) (k10 : ClassId) (sz : Nat)  : Met l yX24_isBlock (wz yX24_isBlock cX24_isBlock 3 (Option.some Jvm.ClassFile.FieldType.boolean)) ({ frames := 1, cells := 0, slots := 0, locals := 21 }) (va_Pc [.ref a0, .int i1, .int i2] (PRE zs dC dI [(a0, .inr (15, [.ref a3, .int 0, .int (-1), .int 0, .ref a4, .ref a5, .ref a6, .ref a7, .ref a8])), (a5, .inl (k10, 0, .inr (.inr (.inr (.inr (fun _ => none))))))] [(k10, .object RX14)] sz)) (va_Qi (fun (r : Int32) (_ : Unit) => r = 0) (fun _ t => POST dC dI [(a0, .inr (15, [.ref a3, .int 0, .int (-1), .int 0, .ref a4, .ref a5, .ref a6, .ref a7, .ref a8])), (a5, .inl (k10, 0, .inr (.inr (.inr (.inr (fun _ => none))))))] [(k10, .object RX14)] (va_A [(a0, .inr (15, [.ref a3, .int 0, .int (-1), .int 0, .ref a4, .ref a5, .ref a6, .ref a7, .ref a8])), (a5, .inl (k10, 0, .inr (.inr (.inr (.inr (fun _ => none))))))] sz) t) (va_A [(a0, .inr (15, [.ref a3, .int 0, .int (-1), .int 0, .ref a4, .ref a5, .ref a6, .ref a7, .ref a8])), (a5, .inl (k10, 0, .inr (.inr (.inr (.inr (fun _ => none))))))] sz)) 0 0 (va_A [(a0, .inr (15, [.ref a3, .int 0, .int (-1), .int 0, .ref a4, .ref a5, .ref a6, .ref a7, .ref a8])), (a5, .inl (k10, 0, .inr (.inr (.inr (.inr (fun _ => none))))))] sz) := by
  refine Met.ofW (cc := cX24_isBlock) (maxL := 3) (ret := (Option.some Jvm.ClassFile.FieldType.boolean)) (by decide) rfl ?_
  intro p e s m args below meth c s₁ B hml hv
  obtain ⟨rfl, hsz, hP, hK, hD0, hE⟩ := hv
  have hx := B.exec
  have hb := B.bytes
  have hr := B.returns
  have hts0 := atoms_spec (ws := wz yX24_isBlock cX24_isBlock 3 (Option.some Jvm.ClassFile.FieldType.boolean)) B.pre
  have hts : ∀ w ∈ gw, w.before _ s = true := fun w h => hts0 w (List.mem_cons_of_mem _ h)
  have hown : s.vm.findClass RX24 = some m.cls := findClass_of_methodNamed B.named
  have hlocks := B.notSynchronized
  subst hsz
  have hD := hD0.self (sz := s.heap.size)
  generalize hAe : va_A [(a0, .inr (15, [.ref a3, .int 0, .int (-1), .int 0, .ref a4, .ref a5, .ref a6, .ref a7, .ref a8])), (a5, .inl (k10, 0, .inr (.inr (.inr (.inr (fun _ => none))))))] s.heap.size = A at hD hE ⊢
  have hA : ∀ q : Nat, s.heap.size ≤ q → A q := fun q h => by rw [← hAe]; exact Or.inr h
  have hS : va_S A s.heap s.heap [] := va_S.rf
  have hP : va_P (dC, dI) cls [(a0, .inr (15, [.ref a3, .int 0, .int (-1), .int 0, .ref a4, .ref a5, .ref a6, .ref a7, .ref a8])), (a5, .inl (k10, 0, .inr (.inr (.inr (.inr (fun _ => none))))))] s.heap := hP
  have hl := lv_entry ([.ref a0, .int i1, .int i2]) (n := 3) (Nat.le_of_ble_eq_true rfl)
  rw [lg_entry_eq]
  generalize (lg_sl ([.ref a0, .int i1, .int i2]) ++ List.replicate (3 - (lg_sl ([.ref a0, .int i1, .int i2])).length) Slot.unset).toArray = ls at hl ⊢
  have hl : lv_has ls 3 [(0, .ref a0), (1, .int i1), (2, .int i2)] := hl
  refine lv_aload_n hx hb dX24_isBlock_0 rfl (lv_at hl 0 rfl) ?_
  refine lv_iload_n hx hb dX24_isBlock_1 rfl (lv_at hl 1 rfl) ?_
  have hPc := hP.sub (ws' := [(a0, .inr (15, [.ref a3, .int 0, .int (-1), .int 0, .ref a4, .ref a5, .ref a6, .ref a7, .ref a8])), (a5, .inl (k10, 0, .inr (.inr (.inr (.inr (fun _ => none))))))]) [0, 1] rfl
  have hDc := hD.sub (ws' := [(a0, .inr (15, [.ref a3, .int 0, .int (-1), .int 0, .ref a4, .ref a5, .ref a6, .ref a7, .ref a8])), (a5, .inl (k10, 0, .inr (.inr (.inr (.inr (fun _ => none))))))]) [0, 1] (by decide) rfl
  have hKc := hK.sub (tys' := [(k10, .object RX14)]) [0] rfl
  have hFc := va_free (wc := [(a0, .inr (15, [.ref a3, .int 0, .int (-1), .int 0, .ref a4, .ref a5, .ref a6, .ref a7, .ref a8])), (a5, .inl (k10, 0, .inr (.inr (.inr (.inr (fun _ => none))))))]) hD hS hA [0, 1] rfl
  refine va_calli (va_runV (As := [.int i1]) (rest := []) ⟨hx, hb, hml, hown, hts⟩ (kX24_isFunction_n47 l dC dI (a0 := a0) (i1 := i1) (a2 := a3) (a3 := a4) (a4 := a5) (a5 := a6) (a6 := a7) (a7 := a8) (k9 := k10) (sz := _)) (cwV 1 hts (gi_V qw451 qw452 qw453 qw434 (gi_z qw450)) rfl rfl rfl (by decide +kernel) ⟨Nat.le_of_ble_eq_true rfl, Nat.le_of_ble_eq_true rfl⟩) ⟨PRE.blind, va_recv hKc hPc (ci := 15) (q0 := 0) rfl rfl, PRE.of hE hS hFc hPc hKc hDc⟩ rfl rfl hl.1 rfl (lv_room (Nat.le_of_ble_eq_true rfl)) dX24_isBlock_2 ⟨Nat.le_of_ble_eq_true rfl, Nat.le_of_ble_eq_true rfl⟩) hS (fun q _ h => hFc q h) hFc (fun r1 u t H locs ht hvm hw hB hz1 hk1 hS => ?_)
  obtain ⟨hP, hD, hK⟩ := JOIN (wr := []) hP hD hK [0, 1] [] [] rfl rfl (by decide) (by decide) rfl hk1 hFc ht hvm hB
  have hP : va_P (dC, dI) cls [(a0, .inr (15, [.ref a3, .int 0, .int (-1), .int 0, .ref a4, .ref a5, .ref a6, .ref a7, .ref a8])), (a5, .inl (k10, 0, .inr (.inr (.inr (.inr (fun _ => none))))))] H := hP
  have hD : va_D A [(a0, .inr (15, [.ref a3, .int 0, .int (-1), .int 0, .ref a4, .ref a5, .ref a6, .ref a7, .ref a8])), (a5, .inl (k10, 0, .inr (.inr (.inr (.inr (fun _ => none))))))] := hD
  have hK : va_K (dC, dI) cls [(k10, .object RX14)] s := hK
  refine W.widen (k := 0) (n := 0) (Nat.le_of_ble_eq_true rfl) (Nat.le_of_ble_eq_true rfl) ?_
  obtain rfl : r1 = 0 := hw
  refine lv_if_eq (tgt := 29) hx hb dX24_isBlock_5 (by decide) (fun _ => ?_) (fun c => absurd (by decide) c)
  refine lv_iconst (v := 0) hx hb dX24_isBlock_29 (by decide) ?_
  have hP9 : va_P (dC, dI) cls [(a0, .inr (15, [.ref a3, .int 0, .int (-1), .int 0, .ref a4, .ref a5, .ref a6, .ref a7, .ref a8])), (a5, .inl (k10, 0, .inr (.inr (.inr (.inr (fun _ => none))))))] H := hP.sub [0, 1] rfl
  have hD9 : va_D A [(a0, .inr (15, [.ref a3, .int 0, .int (-1), .int 0, .ref a4, .ref a5, .ref a6, .ref a7, .ref a8])), (a5, .inl (k10, 0, .inr (.inr (.inr (.inr (fun _ => none))))))] := hD.sub [0, 1] (by decide) rfl
  have hK9 : va_K (dC, dI) cls [(k10, .object RX14)] s := hK.sub [0] rfl
  exact W.zret (v := 0) hx hb hr (by decide) (fun t ht hW => ⟨⟨0, (), rfl, rfl, ⟨by rw [ht]; exact hP9, va_K.moved hW.alike hK9, hD9⟩⟩, hS.F ht⟩) hS.2.2 dX24_isBlock_30
set_option maxHeartbeats 4000000 in
set_option maxRecDepth 100000 in
theorem kX24_dominatorOf {zs : Nat × Nat} (l : Launch) (dC : Nat → ClassId) (dI : Nat → Nat → Nat) (mx : Nat) (mq1 : Nat) (mq3 : Nat) (mq4 : Nat) (mc5 : ClassId) (mq6 : Nat) (mq8 : Nat) (mq22 : Nat) (p0 : Int32) (p1 : Int32) (sz : Nat)  : Met l yX24_dominatorOf (wz yX24_dominatorOf cX24_dominatorOf 3 (Option.some Jvm.ClassFile.FieldType.int)) ({ frames := 2, cells := 0, slots := 0, locals := 43 }) (va_Pc [.ref mx, .int p0, .int p1] (PRE zs dC dI [(mx, .inr (15, [.ref mq1, .int 0, .int (-1), .int 0, .ref mq3, .ref mq4, .ref mq6, .ref mq8, .ref mq22])), (mq4, .inl (mc5, 0, .inr (.inr (.inr (.inr (fun _ => none))))))] [(mc5, .object RX14)] sz)) (va_Qi (fun (r : Int32) (_ : Unit) => r = 0) (fun _ t => POST dC dI [(mx, .inr (15, [.ref mq1, .int 0, .int (-1), .int 1, .ref mq3, .ref mq4, .ref mq6, .ref mq8, .ref mq22]))] [] (va_A [(mx, .inr (15, [.ref mq1, .int 0, .int (-1), .int 0, .ref mq3, .ref mq4, .ref mq6, .ref mq8, .ref mq22])), (mq4, .inl (mc5, 0, .inr (.inr (.inr (.inr (fun _ => none))))))] sz) t) (va_A [(mx, .inr (15, [.ref mq1, .int 0, .int (-1), .int 0, .ref mq3, .ref mq4, .ref mq6, .ref mq8, .ref mq22])), (mq4, .inl (mc5, 0, .inr (.inr (.inr (.inr (fun _ => none))))))] sz)) 0 0 (va_A [(mx, .inr (15, [.ref mq1, .int 0, .int (-1), .int 0, .ref mq3, .ref mq4, .ref mq6, .ref mq8, .ref mq22])), (mq4, .inl (mc5, 0, .inr (.inr (.inr (.inr (fun _ => none))))))] sz) := by
  refine Met.ofW (cc := cX24_dominatorOf) (maxL := 3) (ret := (Option.some Jvm.ClassFile.FieldType.int)) (by decide) rfl ?_
  intro p e s m args below meth c s₁ B hml hv
  obtain ⟨rfl, hsz, hP, hK, hD0, hE⟩ := hv
  have hx := B.exec
  have hb := B.bytes
  have hr := B.returns
  have hts0 := atoms_spec (ws := wz yX24_dominatorOf cX24_dominatorOf 3 (Option.some Jvm.ClassFile.FieldType.int)) B.pre
  have hts : ∀ w ∈ gw, w.before _ s = true := fun w h => hts0 w (List.mem_cons_of_mem _ h)
  have hown : s.vm.findClass RX24 = some m.cls := findClass_of_methodNamed B.named
  have hlocks := B.notSynchronized
  subst hsz
  have hD := hD0.self (sz := s.heap.size)
  generalize hAe : va_A [(mx, .inr (15, [.ref mq1, .int 0, .int (-1), .int 0, .ref mq3, .ref mq4, .ref mq6, .ref mq8, .ref mq22])), (mq4, .inl (mc5, 0, .inr (.inr (.inr (.inr (fun _ => none))))))] s.heap.size = A at hD hE ⊢
  have hA : ∀ q : Nat, s.heap.size ≤ q → A q := fun q h => by rw [← hAe]; exact Or.inr h
  have hS : va_S A s.heap s.heap [] := va_S.rf
  have hP : va_P (dC, dI) cls [(mx, .inr (15, [.ref mq1, .int 0, .int (-1), .int 0, .ref mq3, .ref mq4, .ref mq6, .ref mq8, .ref mq22])), (mq4, .inl (mc5, 0, .inr (.inr (.inr (.inr (fun _ => none))))))] s.heap := hP
  have hl := lv_entry ([.ref mx, .int p0, .int p1]) (n := 3) (Nat.le_of_ble_eq_true rfl)
  rw [lg_entry_eq]
  generalize (lg_sl ([.ref mx, .int p0, .int p1]) ++ List.replicate (3 - (lg_sl ([.ref mx, .int p0, .int p1])).length) Slot.unset).toArray = ls at hl ⊢
  have hl : lv_has ls 3 [(0, .ref mx), (1, .int p0), (2, .int p1)] := hl
  refine lv_aload_n hx hb dX24_dominatorOf_0 rfl (lv_at hl 0 rfl) ?_
  refine lv_iconst (v := 0) hx hb dX24_dominatorOf_1 (by decide) ?_
  refine va_put (D := (dC, dI)) (ci := 15) (v := .int 0) (ty := .int) (C := RX24) (T := TX24) (N := 9) hx hb hts i_X24 tyX24 tyX24_ok nmX24 hown hK hP hD hS 0 rfl rfl 3 (by decide) (hts _ qw428) (fun _ h9 => h9) rfl (by decide +kernel) rfl rfl (Nat.le_of_ble_eq_true rfl) dX24_dominatorOf_2 (fun H locs hP hD hS => ?_)
  have hP : va_P (dC, dI) cls [(mx, .inr (15, [.ref mq1, .int 0, .int (-1), .int 0, .ref mq3, .ref mq4, .ref mq6, .ref mq8, .ref mq22])), (mq4, .inl (mc5, 0, .inr (.inr (.inr (.inr (fun _ => none))))))] H := hP
  have hD : va_D A [(mx, .inr (15, [.ref mq1, .int 0, .int (-1), .int 0, .ref mq3, .ref mq4, .ref mq6, .ref mq8, .ref mq22])), (mq4, .inl (mc5, 0, .inr (.inr (.inr (.inr (fun _ => none))))))] := hD
  refine lv_aload_n hx hb dX24_dominatorOf_5 rfl (lv_at hl 0 rfl) ?_
  refine lv_iload_n hx hb dX24_dominatorOf_6 rfl (lv_at hl 1 rfl) ?_
  refine lv_iload_n hx hb dX24_dominatorOf_7 rfl (lv_at hl 2 rfl) ?_
  have hPc := hP.sub (ws' := [(mx, .inr (15, [.ref mq1, .int 0, .int (-1), .int 0, .ref mq3, .ref mq4, .ref mq6, .ref mq8, .ref mq22])), (mq4, .inl (mc5, 0, .inr (.inr (.inr (.inr (fun _ => none))))))]) [0, 1] rfl
  have hDc := hD.sub (ws' := [(mx, .inr (15, [.ref mq1, .int 0, .int (-1), .int 0, .ref mq3, .ref mq4, .ref mq6, .ref mq8, .ref mq22])), (mq4, .inl (mc5, 0, .inr (.inr (.inr (.inr (fun _ => none))))))]) [0, 1] (by decide) rfl
  have hKc := hK.sub (tys' := [(mc5, .object RX14)]) [0] rfl
  have hFc := va_free (wc := [(mx, .inr (15, [.ref mq1, .int 0, .int (-1), .int 0, .ref mq3, .ref mq4, .ref mq6, .ref mq8, .ref mq22])), (mq4, .inl (mc5, 0, .inr (.inr (.inr (.inr (fun _ => none))))))]) hD hS hA [0, 1] rfl
  refine va_calli (va_runV (As := [.int p0, .int p1]) (rest := []) ⟨hx, hb, hml, hown, hts⟩ (kX24_isBlock_n48 l dC dI (a0 := mx) (i1 := p0) (i2 := p1) (a3 := mq1) (a4 := mq3) (a5 := mq4) (a6 := mq6) (a7 := mq8) (a8 := mq22) (k10 := mc5) (sz := _)) (cwV 2 hts (gi_V qw455 qw456 qw457 qw434 (gi_z qw454)) rfl rfl rfl (by decide +kernel) ⟨Nat.le_of_ble_eq_true rfl, Nat.le_of_ble_eq_true rfl⟩) ⟨PRE.blind, va_recv hKc hPc (ci := 15) (q0 := 0) rfl rfl, PRE.of hE hS hFc hPc hKc hDc⟩ rfl rfl hl.1 rfl (lv_room (Nat.le_of_ble_eq_true rfl)) dX24_dominatorOf_8 ⟨Nat.le_of_ble_eq_true rfl, Nat.le_of_ble_eq_true rfl⟩) hS (fun q _ h => hFc q h) hFc (fun r1 u t H locs ht hvm hw hB hz1 hk1 hS => ?_)
  obtain ⟨hP, hD, hK⟩ := JOIN (wr := []) hP hD hK [0, 1] [] [] rfl rfl (by decide) (by decide) rfl hk1 hFc ht hvm hB
  have hP : va_P (dC, dI) cls [(mx, .inr (15, [.ref mq1, .int 0, .int (-1), .int 0, .ref mq3, .ref mq4, .ref mq6, .ref mq8, .ref mq22])), (mq4, .inl (mc5, 0, .inr (.inr (.inr (.inr (fun _ => none))))))] H := hP
  have hD : va_D A [(mx, .inr (15, [.ref mq1, .int 0, .int (-1), .int 0, .ref mq3, .ref mq4, .ref mq6, .ref mq8, .ref mq22])), (mq4, .inl (mc5, 0, .inr (.inr (.inr (.inr (fun _ => none))))))] := hD
  have hK : va_K (dC, dI) cls [(mc5, .object RX14)] s := hK
  refine W.widen (k := 0) (n := 0) (Nat.le_of_ble_eq_true rfl) (Nat.le_of_ble_eq_true rfl) ?_
  obtain rfl : r1 = 0 := hw
  refine lv_if_eq (tgt := 26) hx hb dX24_dominatorOf_11 (by decide) (fun _ => ?_) (fun c => absurd (by decide) c)
  refine lv_aload_n hx hb dX24_dominatorOf_26 rfl (lv_at hl 0 rfl) ?_
  refine lv_iconst (v := 1) hx hb dX24_dominatorOf_27 (by decide) ?_
  have hPc := hP.sub (ws' := [(mx, .inr (15, [.ref mq1, .int 0, .int (-1), .int 0, .ref mq3, .ref mq4, .ref mq6, .ref mq8, .ref mq22]))]) [0] rfl
  have hDc := hD.sub (ws' := [(mx, .inr (15, [.ref mq1, .int 0, .int (-1), .int 0, .ref mq3, .ref mq4, .ref mq6, .ref mq8, .ref mq22]))]) [0] (by decide) rfl
  have hKc := hK.sub (tys' := []) [] rfl
  have hFc := va_free (wc := [(mx, .inr (15, [.ref mq1, .int 0, .int (-1), .int 0, .ref mq3, .ref mq4, .ref mq6, .ref mq8, .ref mq22]))]) hD hS hA [0] rfl
  refine va_calli (va_runV (As := [.int 1]) (rest := []) ⟨hx, hb, hml, hown, hts⟩ (kX24_no_n39 l dC dI (a0 := mx) (a1 := mq1) (a2 := mq3) (a3 := mq4) (a4 := mq6) (a5 := mq8) (a6 := mq22) (sz := _)) (cwV 1 hts (gi_V qw436 qw437 qw438 qw434 (gi_z qw435)) rfl rfl rfl (by decide +kernel) ⟨Nat.le_of_ble_eq_true rfl, Nat.le_of_ble_eq_true rfl⟩) ⟨PRE.blind, va_recv hKc hPc (ci := 15) (q0 := 0) rfl rfl, PRE.of hE hS hFc hPc hKc hDc⟩ rfl rfl hl.1 rfl (lv_room (Nat.le_of_ble_eq_true rfl)) dX24_dominatorOf_28 ⟨Nat.le_of_ble_eq_true rfl, Nat.le_of_ble_eq_true rfl⟩) hS (fun q _ h => hFc q h) hFc (fun r2 u t H locs ht hvm hw hB hz1 hk1 hS => ?_)
  obtain ⟨hP, hD, hK⟩ := JOIN (wr := [(mq4, .inl (mc5, 0, .inr (.inr (.inr (.inr (fun _ => none))))))]) hP hD hK [0] [1] [0] rfl rfl (by decide) (by decide) rfl hk1 hFc ht hvm hB
  have hP : va_P (dC, dI) cls [(mq4, .inl (mc5, 0, .inr (.inr (.inr (.inr (fun _ => none)))))), (mx, .inr (15, [.ref mq1, .int 0, .int (-1), .int 1, .ref mq3, .ref mq4, .ref mq6, .ref mq8, .ref mq22]))] H := hP
  have hD : va_D A [(mq4, .inl (mc5, 0, .inr (.inr (.inr (.inr (fun _ => none)))))), (mx, .inr (15, [.ref mq1, .int 0, .int (-1), .int 1, .ref mq3, .ref mq4, .ref mq6, .ref mq8, .ref mq22]))] := hD
  have hK : va_K (dC, dI) cls [(mc5, .object RX14)] s := hK
  refine W.widen (k := 0) (n := 0) (Nat.le_of_ble_eq_true rfl) (Nat.le_of_ble_eq_true rfl) ?_
  obtain rfl : r2 = 0 := hw
  have hP9 : va_P (dC, dI) cls [(mx, .inr (15, [.ref mq1, .int 0, .int (-1), .int 1, .ref mq3, .ref mq4, .ref mq6, .ref mq8, .ref mq22]))] H := hP.sub [1] rfl
  have hD9 : va_D A [(mx, .inr (15, [.ref mq1, .int 0, .int (-1), .int 1, .ref mq3, .ref mq4, .ref mq6, .ref mq8, .ref mq22]))] := hD.sub [1] (by decide) rfl
  have hK9 : va_K (dC, dI) cls [] s := hK.sub [] rfl
  exact W.iret (v := 0) hx hb hr (fun t ht hW => ⟨⟨0, (), rfl, rfl, ⟨by rw [ht]; exact hP9, va_K.moved hW.alike hK9, hD9⟩⟩, hS.F ht⟩) hS.2.2 dX24_dominatorOf_31
set_option maxHeartbeats 4000000 in
set_option maxRecDepth 100000 in
theorem kX24_depthOf {zs : Nat × Nat} (l : Launch) (dC : Nat → ClassId) (dI : Nat → Nat → Nat) (mx : Nat) (mq1 : Nat) (mq3 : Nat) (mq4 : Nat) (mc5 : ClassId) (mq6 : Nat) (mq8 : Nat) (mq22 : Nat) (p0 : Int32) (p1 : Int32) (sz : Nat)  : Met l yX24_depthOf (wz yX24_depthOf cX24_depthOf 3 (Option.some Jvm.ClassFile.FieldType.int)) ({ frames := 2, cells := 0, slots := 0, locals := 43 }) (va_Pc [.ref mx, .int p0, .int p1] (PRE zs dC dI [(mx, .inr (15, [.ref mq1, .int 0, .int (-1), .int 0, .ref mq3, .ref mq4, .ref mq6, .ref mq8, .ref mq22])), (mq4, .inl (mc5, 0, .inr (.inr (.inr (.inr (fun _ => none))))))] [(mc5, .object RX14)] sz)) (va_Qi (fun (r : Int32) (_ : Unit) => r = 0) (fun _ t => POST dC dI [(mx, .inr (15, [.ref mq1, .int 0, .int (-1), .int 1, .ref mq3, .ref mq4, .ref mq6, .ref mq8, .ref mq22]))] [] (va_A [(mx, .inr (15, [.ref mq1, .int 0, .int (-1), .int 0, .ref mq3, .ref mq4, .ref mq6, .ref mq8, .ref mq22])), (mq4, .inl (mc5, 0, .inr (.inr (.inr (.inr (fun _ => none))))))] sz) t) (va_A [(mx, .inr (15, [.ref mq1, .int 0, .int (-1), .int 0, .ref mq3, .ref mq4, .ref mq6, .ref mq8, .ref mq22])), (mq4, .inl (mc5, 0, .inr (.inr (.inr (.inr (fun _ => none))))))] sz)) 0 0 (va_A [(mx, .inr (15, [.ref mq1, .int 0, .int (-1), .int 0, .ref mq3, .ref mq4, .ref mq6, .ref mq8, .ref mq22])), (mq4, .inl (mc5, 0, .inr (.inr (.inr (.inr (fun _ => none))))))] sz) := by
  refine Met.ofW (cc := cX24_depthOf) (maxL := 3) (ret := (Option.some Jvm.ClassFile.FieldType.int)) (by decide) rfl ?_
  intro p e s m args below meth c s₁ B hml hv
  obtain ⟨rfl, hsz, hP, hK, hD0, hE⟩ := hv
  have hx := B.exec
  have hb := B.bytes
  have hr := B.returns
  have hts0 := atoms_spec (ws := wz yX24_depthOf cX24_depthOf 3 (Option.some Jvm.ClassFile.FieldType.int)) B.pre
  have hts : ∀ w ∈ gw, w.before _ s = true := fun w h => hts0 w (List.mem_cons_of_mem _ h)
  have hown : s.vm.findClass RX24 = some m.cls := findClass_of_methodNamed B.named
  have hlocks := B.notSynchronized
  subst hsz
  have hD := hD0.self (sz := s.heap.size)
  generalize hAe : va_A [(mx, .inr (15, [.ref mq1, .int 0, .int (-1), .int 0, .ref mq3, .ref mq4, .ref mq6, .ref mq8, .ref mq22])), (mq4, .inl (mc5, 0, .inr (.inr (.inr (.inr (fun _ => none))))))] s.heap.size = A at hD hE ⊢
  have hA : ∀ q : Nat, s.heap.size ≤ q → A q := fun q h => by rw [← hAe]; exact Or.inr h
  have hS : va_S A s.heap s.heap [] := va_S.rf
  have hP : va_P (dC, dI) cls [(mx, .inr (15, [.ref mq1, .int 0, .int (-1), .int 0, .ref mq3, .ref mq4, .ref mq6, .ref mq8, .ref mq22])), (mq4, .inl (mc5, 0, .inr (.inr (.inr (.inr (fun _ => none))))))] s.heap := hP
  have hl := lv_entry ([.ref mx, .int p0, .int p1]) (n := 3) (Nat.le_of_ble_eq_true rfl)
  rw [lg_entry_eq]
  generalize (lg_sl ([.ref mx, .int p0, .int p1]) ++ List.replicate (3 - (lg_sl ([.ref mx, .int p0, .int p1])).length) Slot.unset).toArray = ls at hl ⊢
  have hl : lv_has ls 3 [(0, .ref mx), (1, .int p0), (2, .int p1)] := hl
  refine lv_aload_n hx hb dX24_depthOf_0 rfl (lv_at hl 0 rfl) ?_
  refine lv_iconst (v := 0) hx hb dX24_depthOf_1 (by decide) ?_
  refine va_put (D := (dC, dI)) (ci := 15) (v := .int 0) (ty := .int) (C := RX24) (T := TX24) (N := 9) hx hb hts i_X24 tyX24 tyX24_ok nmX24 hown hK hP hD hS 0 rfl rfl 3 (by decide) (hts _ qw428) (fun _ h9 => h9) rfl (by decide +kernel) rfl rfl (Nat.le_of_ble_eq_true rfl) dX24_depthOf_2 (fun H locs hP hD hS => ?_)
  have hP : va_P (dC, dI) cls [(mx, .inr (15, [.ref mq1, .int 0, .int (-1), .int 0, .ref mq3, .ref mq4, .ref mq6, .ref mq8, .ref mq22])), (mq4, .inl (mc5, 0, .inr (.inr (.inr (.inr (fun _ => none))))))] H := hP
  have hD : va_D A [(mx, .inr (15, [.ref mq1, .int 0, .int (-1), .int 0, .ref mq3, .ref mq4, .ref mq6, .ref mq8, .ref mq22])), (mq4, .inl (mc5, 0, .inr (.inr (.inr (.inr (fun _ => none))))))] := hD
  refine lv_aload_n hx hb dX24_depthOf_5 rfl (lv_at hl 0 rfl) ?_
  refine lv_iload_n hx hb dX24_depthOf_6 rfl (lv_at hl 1 rfl) ?_
  refine lv_iload_n hx hb dX24_depthOf_7 rfl (lv_at hl 2 rfl) ?_
  have hPc := hP.sub (ws' := [(mx, .inr (15, [.ref mq1, .int 0, .int (-1), .int 0, .ref mq3, .ref mq4, .ref mq6, .ref mq8, .ref mq22])), (mq4, .inl (mc5, 0, .inr (.inr (.inr (.inr (fun _ => none))))))]) [0, 1] rfl
  have hDc := hD.sub (ws' := [(mx, .inr (15, [.ref mq1, .int 0, .int (-1), .int 0, .ref mq3, .ref mq4, .ref mq6, .ref mq8, .ref mq22])), (mq4, .inl (mc5, 0, .inr (.inr (.inr (.inr (fun _ => none))))))]) [0, 1] (by decide) rfl
  have hKc := hK.sub (tys' := [(mc5, .object RX14)]) [0] rfl
  have hFc := va_free (wc := [(mx, .inr (15, [.ref mq1, .int 0, .int (-1), .int 0, .ref mq3, .ref mq4, .ref mq6, .ref mq8, .ref mq22])), (mq4, .inl (mc5, 0, .inr (.inr (.inr (.inr (fun _ => none))))))]) hD hS hA [0, 1] rfl
  refine va_calli (va_runV (As := [.int p0, .int p1]) (rest := []) ⟨hx, hb, hml, hown, hts⟩ (kX24_isBlock_n48 l dC dI (a0 := mx) (i1 := p0) (i2 := p1) (a3 := mq1) (a4 := mq3) (a5 := mq4) (a6 := mq6) (a7 := mq8) (a8 := mq22) (k10 := mc5) (sz := _)) (cwV 2 hts (gi_V qw455 qw456 qw457 qw434 (gi_z qw454)) rfl rfl rfl (by decide +kernel) ⟨Nat.le_of_ble_eq_true rfl, Nat.le_of_ble_eq_true rfl⟩) ⟨PRE.blind, va_recv hKc hPc (ci := 15) (q0 := 0) rfl rfl, PRE.of hE hS hFc hPc hKc hDc⟩ rfl rfl hl.1 rfl (lv_room (Nat.le_of_ble_eq_true rfl)) dX24_depthOf_8 ⟨Nat.le_of_ble_eq_true rfl, Nat.le_of_ble_eq_true rfl⟩) hS (fun q _ h => hFc q h) hFc (fun r1 u t H locs ht hvm hw hB hz1 hk1 hS => ?_)
  obtain ⟨hP, hD, hK⟩ := JOIN (wr := []) hP hD hK [0, 1] [] [] rfl rfl (by decide) (by decide) rfl hk1 hFc ht hvm hB
  have hP : va_P (dC, dI) cls [(mx, .inr (15, [.ref mq1, .int 0, .int (-1), .int 0, .ref mq3, .ref mq4, .ref mq6, .ref mq8, .ref mq22])), (mq4, .inl (mc5, 0, .inr (.inr (.inr (.inr (fun _ => none))))))] H := hP
  have hD : va_D A [(mx, .inr (15, [.ref mq1, .int 0, .int (-1), .int 0, .ref mq3, .ref mq4, .ref mq6, .ref mq8, .ref mq22])), (mq4, .inl (mc5, 0, .inr (.inr (.inr (.inr (fun _ => none))))))] := hD
  have hK : va_K (dC, dI) cls [(mc5, .object RX14)] s := hK
  refine W.widen (k := 0) (n := 0) (Nat.le_of_ble_eq_true rfl) (Nat.le_of_ble_eq_true rfl) ?_
  obtain rfl : r1 = 0 := hw
  refine lv_if_eq (tgt := 26) hx hb dX24_depthOf_11 (by decide) (fun _ => ?_) (fun c => absurd (by decide) c)
  refine lv_aload_n hx hb dX24_depthOf_26 rfl (lv_at hl 0 rfl) ?_
  refine lv_iconst (v := 1) hx hb dX24_depthOf_27 (by decide) ?_
  have hPc := hP.sub (ws' := [(mx, .inr (15, [.ref mq1, .int 0, .int (-1), .int 0, .ref mq3, .ref mq4, .ref mq6, .ref mq8, .ref mq22]))]) [0] rfl
  have hDc := hD.sub (ws' := [(mx, .inr (15, [.ref mq1, .int 0, .int (-1), .int 0, .ref mq3, .ref mq4, .ref mq6, .ref mq8, .ref mq22]))]) [0] (by decide) rfl
  have hKc := hK.sub (tys' := []) [] rfl
  have hFc := va_free (wc := [(mx, .inr (15, [.ref mq1, .int 0, .int (-1), .int 0, .ref mq3, .ref mq4, .ref mq6, .ref mq8, .ref mq22]))]) hD hS hA [0] rfl
  refine va_calli (va_runV (As := [.int 1]) (rest := []) ⟨hx, hb, hml, hown, hts⟩ (kX24_no_n39 l dC dI (a0 := mx) (a1 := mq1) (a2 := mq3) (a3 := mq4) (a4 := mq6) (a5 := mq8) (a6 := mq22) (sz := _)) (cwV 1 hts (gi_V qw436 qw437 qw438 qw434 (gi_z qw435)) rfl rfl rfl (by decide +kernel) ⟨Nat.le_of_ble_eq_true rfl, Nat.le_of_ble_eq_true rfl⟩) ⟨PRE.blind, va_recv hKc hPc (ci := 15) (q0 := 0) rfl rfl, PRE.of hE hS hFc hPc hKc hDc⟩ rfl rfl hl.1 rfl (lv_room (Nat.le_of_ble_eq_true rfl)) dX24_depthOf_28 ⟨Nat.le_of_ble_eq_true rfl, Nat.le_of_ble_eq_true rfl⟩) hS (fun q _ h => hFc q h) hFc (fun r2 u t H locs ht hvm hw hB hz1 hk1 hS => ?_)
  obtain ⟨hP, hD, hK⟩ := JOIN (wr := [(mq4, .inl (mc5, 0, .inr (.inr (.inr (.inr (fun _ => none))))))]) hP hD hK [0] [1] [0] rfl rfl (by decide) (by decide) rfl hk1 hFc ht hvm hB
  have hP : va_P (dC, dI) cls [(mq4, .inl (mc5, 0, .inr (.inr (.inr (.inr (fun _ => none)))))), (mx, .inr (15, [.ref mq1, .int 0, .int (-1), .int 1, .ref mq3, .ref mq4, .ref mq6, .ref mq8, .ref mq22]))] H := hP
  have hD : va_D A [(mq4, .inl (mc5, 0, .inr (.inr (.inr (.inr (fun _ => none)))))), (mx, .inr (15, [.ref mq1, .int 0, .int (-1), .int 1, .ref mq3, .ref mq4, .ref mq6, .ref mq8, .ref mq22]))] := hD
  have hK : va_K (dC, dI) cls [(mc5, .object RX14)] s := hK
  refine W.widen (k := 0) (n := 0) (Nat.le_of_ble_eq_true rfl) (Nat.le_of_ble_eq_true rfl) ?_
  obtain rfl : r2 = 0 := hw
  have hP9 : va_P (dC, dI) cls [(mx, .inr (15, [.ref mq1, .int 0, .int (-1), .int 1, .ref mq3, .ref mq4, .ref mq6, .ref mq8, .ref mq22]))] H := hP.sub [1] rfl
  have hD9 : va_D A [(mx, .inr (15, [.ref mq1, .int 0, .int (-1), .int 1, .ref mq3, .ref mq4, .ref mq6, .ref mq8, .ref mq22]))] := hD.sub [1] (by decide) rfl
  have hK9 : va_K (dC, dI) cls [] s := hK.sub [] rfl
  exact W.iret (v := 0) hx hb hr (fun t ht hW => ⟨⟨0, (), rfl, rfl, ⟨by rw [ht]; exact hP9, va_K.moved hW.alike hK9, hD9⟩⟩, hS.F ht⟩) hS.2.2 dX24_depthOf_31
set_option maxHeartbeats 4000000 in
set_option maxRecDepth 100000 in
theorem kX24_predecessors {zs : Nat × Nat} (l : Launch) (dC : Nat → ClassId) (dI : Nat → Nat → Nat) (mx : Nat) (mq1 : Nat) (mq3 : Nat) (mq4 : Nat) (mc5 : ClassId) (mq6 : Nat) (mq8 : Nat) (mq22 : Nat) (p0 : Int32) (p1 : Int32) (sz : Nat)  : Met l yX24_predecessors (wz yX24_predecessors cX24_predecessors 3 (Option.some Jvm.ClassFile.FieldType.int)) ({ frames := 2, cells := 0, slots := 0, locals := 43 }) (va_Pc [.ref mx, .int p0, .int p1] (PRE zs dC dI [(mx, .inr (15, [.ref mq1, .int 0, .int (-1), .int 0, .ref mq3, .ref mq4, .ref mq6, .ref mq8, .ref mq22])), (mq4, .inl (mc5, 0, .inr (.inr (.inr (.inr (fun _ => none))))))] [(mc5, .object RX14)] sz)) (va_Qi (fun (r : Int32) (_ : Unit) => r = 0) (fun _ t => POST dC dI [(mx, .inr (15, [.ref mq1, .int 0, .int (-1), .int 1, .ref mq3, .ref mq4, .ref mq6, .ref mq8, .ref mq22]))] [] (va_A [(mx, .inr (15, [.ref mq1, .int 0, .int (-1), .int 0, .ref mq3, .ref mq4, .ref mq6, .ref mq8, .ref mq22])), (mq4, .inl (mc5, 0, .inr (.inr (.inr (.inr (fun _ => none))))))] sz) t) (va_A [(mx, .inr (15, [.ref mq1, .int 0, .int (-1), .int 0, .ref mq3, .ref mq4, .ref mq6, .ref mq8, .ref mq22])), (mq4, .inl (mc5, 0, .inr (.inr (.inr (.inr (fun _ => none))))))] sz)) 0 0 (va_A [(mx, .inr (15, [.ref mq1, .int 0, .int (-1), .int 0, .ref mq3, .ref mq4, .ref mq6, .ref mq8, .ref mq22])), (mq4, .inl (mc5, 0, .inr (.inr (.inr (.inr (fun _ => none))))))] sz) := by
  refine Met.ofW (cc := cX24_predecessors) (maxL := 3) (ret := (Option.some Jvm.ClassFile.FieldType.int)) (by decide) rfl ?_
  intro p e s m args below meth c s₁ B hml hv
  obtain ⟨rfl, hsz, hP, hK, hD0, hE⟩ := hv
  have hx := B.exec
  have hb := B.bytes
  have hr := B.returns
  have hts0 := atoms_spec (ws := wz yX24_predecessors cX24_predecessors 3 (Option.some Jvm.ClassFile.FieldType.int)) B.pre
  have hts : ∀ w ∈ gw, w.before _ s = true := fun w h => hts0 w (List.mem_cons_of_mem _ h)
  have hown : s.vm.findClass RX24 = some m.cls := findClass_of_methodNamed B.named
  have hlocks := B.notSynchronized
  subst hsz
  have hD := hD0.self (sz := s.heap.size)
  generalize hAe : va_A [(mx, .inr (15, [.ref mq1, .int 0, .int (-1), .int 0, .ref mq3, .ref mq4, .ref mq6, .ref mq8, .ref mq22])), (mq4, .inl (mc5, 0, .inr (.inr (.inr (.inr (fun _ => none))))))] s.heap.size = A at hD hE ⊢
  have hA : ∀ q : Nat, s.heap.size ≤ q → A q := fun q h => by rw [← hAe]; exact Or.inr h
  have hS : va_S A s.heap s.heap [] := va_S.rf
  have hP : va_P (dC, dI) cls [(mx, .inr (15, [.ref mq1, .int 0, .int (-1), .int 0, .ref mq3, .ref mq4, .ref mq6, .ref mq8, .ref mq22])), (mq4, .inl (mc5, 0, .inr (.inr (.inr (.inr (fun _ => none))))))] s.heap := hP
  have hl := lv_entry ([.ref mx, .int p0, .int p1]) (n := 3) (Nat.le_of_ble_eq_true rfl)
  rw [lg_entry_eq]
  generalize (lg_sl ([.ref mx, .int p0, .int p1]) ++ List.replicate (3 - (lg_sl ([.ref mx, .int p0, .int p1])).length) Slot.unset).toArray = ls at hl ⊢
  have hl : lv_has ls 3 [(0, .ref mx), (1, .int p0), (2, .int p1)] := hl
  refine lv_aload_n hx hb dX24_predecessors_0 rfl (lv_at hl 0 rfl) ?_
  refine lv_iconst (v := 0) hx hb dX24_predecessors_1 (by decide) ?_
  refine va_put (D := (dC, dI)) (ci := 15) (v := .int 0) (ty := .int) (C := RX24) (T := TX24) (N := 9) hx hb hts i_X24 tyX24 tyX24_ok nmX24 hown hK hP hD hS 0 rfl rfl 3 (by decide) (hts _ qw428) (fun _ h9 => h9) rfl (by decide +kernel) rfl rfl (Nat.le_of_ble_eq_true rfl) dX24_predecessors_2 (fun H locs hP hD hS => ?_)
  have hP : va_P (dC, dI) cls [(mx, .inr (15, [.ref mq1, .int 0, .int (-1), .int 0, .ref mq3, .ref mq4, .ref mq6, .ref mq8, .ref mq22])), (mq4, .inl (mc5, 0, .inr (.inr (.inr (.inr (fun _ => none))))))] H := hP
  have hD : va_D A [(mx, .inr (15, [.ref mq1, .int 0, .int (-1), .int 0, .ref mq3, .ref mq4, .ref mq6, .ref mq8, .ref mq22])), (mq4, .inl (mc5, 0, .inr (.inr (.inr (.inr (fun _ => none))))))] := hD
  refine lv_aload_n hx hb dX24_predecessors_5 rfl (lv_at hl 0 rfl) ?_
  refine lv_iload_n hx hb dX24_predecessors_6 rfl (lv_at hl 1 rfl) ?_
  refine lv_iload_n hx hb dX24_predecessors_7 rfl (lv_at hl 2 rfl) ?_
  have hPc := hP.sub (ws' := [(mx, .inr (15, [.ref mq1, .int 0, .int (-1), .int 0, .ref mq3, .ref mq4, .ref mq6, .ref mq8, .ref mq22])), (mq4, .inl (mc5, 0, .inr (.inr (.inr (.inr (fun _ => none))))))]) [0, 1] rfl
  have hDc := hD.sub (ws' := [(mx, .inr (15, [.ref mq1, .int 0, .int (-1), .int 0, .ref mq3, .ref mq4, .ref mq6, .ref mq8, .ref mq22])), (mq4, .inl (mc5, 0, .inr (.inr (.inr (.inr (fun _ => none))))))]) [0, 1] (by decide) rfl
  have hKc := hK.sub (tys' := [(mc5, .object RX14)]) [0] rfl
  have hFc := va_free (wc := [(mx, .inr (15, [.ref mq1, .int 0, .int (-1), .int 0, .ref mq3, .ref mq4, .ref mq6, .ref mq8, .ref mq22])), (mq4, .inl (mc5, 0, .inr (.inr (.inr (.inr (fun _ => none))))))]) hD hS hA [0, 1] rfl
  refine va_calli (va_runV (As := [.int p0, .int p1]) (rest := []) ⟨hx, hb, hml, hown, hts⟩ (kX24_isBlock_n48 l dC dI (a0 := mx) (i1 := p0) (i2 := p1) (a3 := mq1) (a4 := mq3) (a5 := mq4) (a6 := mq6) (a7 := mq8) (a8 := mq22) (k10 := mc5) (sz := _)) (cwV 2 hts (gi_V qw455 qw456 qw457 qw434 (gi_z qw454)) rfl rfl rfl (by decide +kernel) ⟨Nat.le_of_ble_eq_true rfl, Nat.le_of_ble_eq_true rfl⟩) ⟨PRE.blind, va_recv hKc hPc (ci := 15) (q0 := 0) rfl rfl, PRE.of hE hS hFc hPc hKc hDc⟩ rfl rfl hl.1 rfl (lv_room (Nat.le_of_ble_eq_true rfl)) dX24_predecessors_8 ⟨Nat.le_of_ble_eq_true rfl, Nat.le_of_ble_eq_true rfl⟩) hS (fun q _ h => hFc q h) hFc (fun r1 u t H locs ht hvm hw hB hz1 hk1 hS => ?_)
  obtain ⟨hP, hD, hK⟩ := JOIN (wr := []) hP hD hK [0, 1] [] [] rfl rfl (by decide) (by decide) rfl hk1 hFc ht hvm hB
  have hP : va_P (dC, dI) cls [(mx, .inr (15, [.ref mq1, .int 0, .int (-1), .int 0, .ref mq3, .ref mq4, .ref mq6, .ref mq8, .ref mq22])), (mq4, .inl (mc5, 0, .inr (.inr (.inr (.inr (fun _ => none))))))] H := hP
  have hD : va_D A [(mx, .inr (15, [.ref mq1, .int 0, .int (-1), .int 0, .ref mq3, .ref mq4, .ref mq6, .ref mq8, .ref mq22])), (mq4, .inl (mc5, 0, .inr (.inr (.inr (.inr (fun _ => none))))))] := hD
  have hK : va_K (dC, dI) cls [(mc5, .object RX14)] s := hK
  refine W.widen (k := 0) (n := 0) (Nat.le_of_ble_eq_true rfl) (Nat.le_of_ble_eq_true rfl) ?_
  obtain rfl : r1 = 0 := hw
  refine lv_if_eq (tgt := 26) hx hb dX24_predecessors_11 (by decide) (fun _ => ?_) (fun c => absurd (by decide) c)
  refine lv_aload_n hx hb dX24_predecessors_26 rfl (lv_at hl 0 rfl) ?_
  refine lv_iconst (v := 1) hx hb dX24_predecessors_27 (by decide) ?_
  have hPc := hP.sub (ws' := [(mx, .inr (15, [.ref mq1, .int 0, .int (-1), .int 0, .ref mq3, .ref mq4, .ref mq6, .ref mq8, .ref mq22]))]) [0] rfl
  have hDc := hD.sub (ws' := [(mx, .inr (15, [.ref mq1, .int 0, .int (-1), .int 0, .ref mq3, .ref mq4, .ref mq6, .ref mq8, .ref mq22]))]) [0] (by decide) rfl
  have hKc := hK.sub (tys' := []) [] rfl
  have hFc := va_free (wc := [(mx, .inr (15, [.ref mq1, .int 0, .int (-1), .int 0, .ref mq3, .ref mq4, .ref mq6, .ref mq8, .ref mq22]))]) hD hS hA [0] rfl
  refine va_calli (va_runV (As := [.int 1]) (rest := []) ⟨hx, hb, hml, hown, hts⟩ (kX24_no_n39 l dC dI (a0 := mx) (a1 := mq1) (a2 := mq3) (a3 := mq4) (a4 := mq6) (a5 := mq8) (a6 := mq22) (sz := _)) (cwV 1 hts (gi_V qw436 qw437 qw438 qw434 (gi_z qw435)) rfl rfl rfl (by decide +kernel) ⟨Nat.le_of_ble_eq_true rfl, Nat.le_of_ble_eq_true rfl⟩) ⟨PRE.blind, va_recv hKc hPc (ci := 15) (q0 := 0) rfl rfl, PRE.of hE hS hFc hPc hKc hDc⟩ rfl rfl hl.1 rfl (lv_room (Nat.le_of_ble_eq_true rfl)) dX24_predecessors_28 ⟨Nat.le_of_ble_eq_true rfl, Nat.le_of_ble_eq_true rfl⟩) hS (fun q _ h => hFc q h) hFc (fun r2 u t H locs ht hvm hw hB hz1 hk1 hS => ?_)
  obtain ⟨hP, hD, hK⟩ := JOIN (wr := [(mq4, .inl (mc5, 0, .inr (.inr (.inr (.inr (fun _ => none))))))]) hP hD hK [0] [1] [0] rfl rfl (by decide) (by decide) rfl hk1 hFc ht hvm hB
  have hP : va_P (dC, dI) cls [(mq4, .inl (mc5, 0, .inr (.inr (.inr (.inr (fun _ => none)))))), (mx, .inr (15, [.ref mq1, .int 0, .int (-1), .int 1, .ref mq3, .ref mq4, .ref mq6, .ref mq8, .ref mq22]))] H := hP
  have hD : va_D A [(mq4, .inl (mc5, 0, .inr (.inr (.inr (.inr (fun _ => none)))))), (mx, .inr (15, [.ref mq1, .int 0, .int (-1), .int 1, .ref mq3, .ref mq4, .ref mq6, .ref mq8, .ref mq22]))] := hD
  have hK : va_K (dC, dI) cls [(mc5, .object RX14)] s := hK
  refine W.widen (k := 0) (n := 0) (Nat.le_of_ble_eq_true rfl) (Nat.le_of_ble_eq_true rfl) ?_
  obtain rfl : r2 = 0 := hw
  have hP9 : va_P (dC, dI) cls [(mx, .inr (15, [.ref mq1, .int 0, .int (-1), .int 1, .ref mq3, .ref mq4, .ref mq6, .ref mq8, .ref mq22]))] H := hP.sub [1] rfl
  have hD9 : va_D A [(mx, .inr (15, [.ref mq1, .int 0, .int (-1), .int 1, .ref mq3, .ref mq4, .ref mq6, .ref mq8, .ref mq22]))] := hD.sub [1] (by decide) rfl
  have hK9 : va_K (dC, dI) cls [] s := hK.sub [] rfl
  exact W.iret (v := 0) hx hb hr (fun t ht hW => ⟨⟨0, (), rfl, rfl, ⟨by rw [ht]; exact hP9, va_K.moved hW.alike hK9, hD9⟩⟩, hS.F ht⟩) hS.2.2 dX24_predecessors_31
set_option maxHeartbeats 4000000 in
set_option maxRecDepth 100000 in
/-- GearboxModel.isAhead, from the state that its caller has -/
theorem kX24_isAhead_n49 {zs : Nat × Nat} (l : Launch) (dC : Nat → ClassId) (dI : Nat → Nat → Nat) (a0 : Nat) (i1 : Int32) (i2 : Int32) (i3 : Int32) (a4 : Nat) (a5 : Nat) (a6 : Nat) (a7 : Nat) (a8 : Nat) (a9 : Nat) (k11 : ClassId) (sz : Nat)  : Met l yX24_isAhead (wz yX24_isAhead cX24_isAhead 4 (Option.some Jvm.ClassFile.FieldType.boolean)) ({ frames := 2, cells := 0, slots := 0, locals := 43 }) (va_Pc [.ref a0, .int i1, .int i2, .int i3] (PRE zs dC dI [(a0, .inr (15, [.ref a4, .int 0, .int (-1), .int 0, .ref a5, .ref a6, .ref a7, .ref a8, .ref a9])), (a6, .inl (k11, 0, .inr (.inr (.inr (.inr (fun _ => none))))))] [(k11, .object RX14)] sz)) (va_Qi (fun (r : Int32) (_ : Unit) => r = 0) (fun _ t => POST dC dI [(a0, .inr (15, [.ref a4, .int 0, .int (-1), .int 0, .ref a5, .ref a6, .ref a7, .ref a8, .ref a9])), (a6, .inl (k11, 0, .inr (.inr (.inr (.inr (fun _ => none))))))] [(k11, .object RX14)] (va_A [(a0, .inr (15, [.ref a4, .int 0, .int (-1), .int 0, .ref a5, .ref a6, .ref a7, .ref a8, .ref a9])), (a6, .inl (k11, 0, .inr (.inr (.inr (.inr (fun _ => none))))))] sz) t) (va_A [(a0, .inr (15, [.ref a4, .int 0, .int (-1), .int 0, .ref a5, .ref a6, .ref a7, .ref a8, .ref a9])), (a6, .inl (k11, 0, .inr (.inr (.inr (.inr (fun _ => none))))))] sz)) 0 0 (va_A [(a0, .inr (15, [.ref a4, .int 0, .int (-1), .int 0, .ref a5, .ref a6, .ref a7, .ref a8, .ref a9])), (a6, .inl (k11, 0, .inr (.inr (.inr (.inr (fun _ => none))))))] sz) := by
  refine Met.ofW (cc := cX24_isAhead) (maxL := 4) (ret := (Option.some Jvm.ClassFile.FieldType.boolean)) (by decide) rfl ?_
  intro p e s m args below meth c s₁ B hml hv
  obtain ⟨rfl, hsz, hP, hK, hD0, hE⟩ := hv
  have hx := B.exec
  have hb := B.bytes
  have hr := B.returns
  have hts0 := atoms_spec (ws := wz yX24_isAhead cX24_isAhead 4 (Option.some Jvm.ClassFile.FieldType.boolean)) B.pre
  have hts : ∀ w ∈ gw, w.before _ s = true := fun w h => hts0 w (List.mem_cons_of_mem _ h)
  have hown : s.vm.findClass RX24 = some m.cls := findClass_of_methodNamed B.named
  have hlocks := B.notSynchronized
  subst hsz
  have hD := hD0.self (sz := s.heap.size)
  generalize hAe : va_A [(a0, .inr (15, [.ref a4, .int 0, .int (-1), .int 0, .ref a5, .ref a6, .ref a7, .ref a8, .ref a9])), (a6, .inl (k11, 0, .inr (.inr (.inr (.inr (fun _ => none))))))] s.heap.size = A at hD hE ⊢
  have hA : ∀ q : Nat, s.heap.size ≤ q → A q := fun q h => by rw [← hAe]; exact Or.inr h
  have hS : va_S A s.heap s.heap [] := va_S.rf
  have hP : va_P (dC, dI) cls [(a0, .inr (15, [.ref a4, .int 0, .int (-1), .int 0, .ref a5, .ref a6, .ref a7, .ref a8, .ref a9])), (a6, .inl (k11, 0, .inr (.inr (.inr (.inr (fun _ => none))))))] s.heap := hP
  have hl := lv_entry ([.ref a0, .int i1, .int i2, .int i3]) (n := 4) (Nat.le_of_ble_eq_true rfl)
  rw [lg_entry_eq]
  generalize (lg_sl ([.ref a0, .int i1, .int i2, .int i3]) ++ List.replicate (4 - (lg_sl ([.ref a0, .int i1, .int i2, .int i3])).length) Slot.unset).toArray = ls at hl ⊢
  have hl : lv_has ls 4 [(0, .ref a0), (1, .int i1), (2, .int i2), (3, .int i3)] := hl
  refine lv_aload_n hx hb dX24_isAhead_0 rfl (lv_at hl 0 rfl) ?_
  refine lv_iload_n hx hb dX24_isAhead_1 rfl (lv_at hl 1 rfl) ?_
  refine lv_iload_n hx hb dX24_isAhead_2 rfl (lv_at hl 2 rfl) ?_
  have hPc := hP.sub (ws' := [(a0, .inr (15, [.ref a4, .int 0, .int (-1), .int 0, .ref a5, .ref a6, .ref a7, .ref a8, .ref a9])), (a6, .inl (k11, 0, .inr (.inr (.inr (.inr (fun _ => none))))))]) [0, 1] rfl
  have hDc := hD.sub (ws' := [(a0, .inr (15, [.ref a4, .int 0, .int (-1), .int 0, .ref a5, .ref a6, .ref a7, .ref a8, .ref a9])), (a6, .inl (k11, 0, .inr (.inr (.inr (.inr (fun _ => none))))))]) [0, 1] (by decide) rfl
  have hKc := hK.sub (tys' := [(k11, .object RX14)]) [0] rfl
  have hFc := va_free (wc := [(a0, .inr (15, [.ref a4, .int 0, .int (-1), .int 0, .ref a5, .ref a6, .ref a7, .ref a8, .ref a9])), (a6, .inl (k11, 0, .inr (.inr (.inr (.inr (fun _ => none))))))]) hD hS hA [0, 1] rfl
  refine va_calli (va_runV (As := [.int i1, .int i2]) (rest := []) ⟨hx, hb, hml, hown, hts⟩ (kX24_isBlock_n48 l dC dI (a0 := a0) (i1 := i1) (i2 := i2) (a3 := a4) (a4 := a5) (a5 := a6) (a6 := a7) (a7 := a8) (a8 := a9) (k10 := k11) (sz := _)) (cwV 2 hts (gi_V qw455 qw456 qw457 qw434 (gi_z qw454)) rfl rfl rfl (by decide +kernel) ⟨Nat.le_of_ble_eq_true rfl, Nat.le_of_ble_eq_true rfl⟩) ⟨PRE.blind, va_recv hKc hPc (ci := 15) (q0 := 0) rfl rfl, PRE.of hE hS hFc hPc hKc hDc⟩ rfl rfl hl.1 rfl (lv_room (Nat.le_of_ble_eq_true rfl)) dX24_isAhead_3 ⟨Nat.le_of_ble_eq_true rfl, Nat.le_of_ble_eq_true rfl⟩) hS (fun q _ h => hFc q h) hFc (fun r1 u t H locs ht hvm hw hB hz1 hk1 hS => ?_)
  obtain ⟨hP, hD, hK⟩ := JOIN (wr := []) hP hD hK [0, 1] [] [] rfl rfl (by decide) (by decide) rfl hk1 hFc ht hvm hB
  have hP : va_P (dC, dI) cls [(a0, .inr (15, [.ref a4, .int 0, .int (-1), .int 0, .ref a5, .ref a6, .ref a7, .ref a8, .ref a9])), (a6, .inl (k11, 0, .inr (.inr (.inr (.inr (fun _ => none))))))] H := hP
  have hD : va_D A [(a0, .inr (15, [.ref a4, .int 0, .int (-1), .int 0, .ref a5, .ref a6, .ref a7, .ref a8, .ref a9])), (a6, .inl (k11, 0, .inr (.inr (.inr (.inr (fun _ => none))))))] := hD
  have hK : va_K (dC, dI) cls [(k11, .object RX14)] s := hK
  refine W.widen (k := 0) (n := 0) (Nat.le_of_ble_eq_true rfl) (Nat.le_of_ble_eq_true rfl) ?_
  obtain rfl : r1 = 0 := hw
  refine lv_if_eq (tgt := 30) hx hb dX24_isAhead_6 (by decide) (fun _ => ?_) (fun c => absurd (by decide) c)
  refine lv_iconst (v := 0) hx hb dX24_isAhead_30 (by decide) ?_
  have hP9 : va_P (dC, dI) cls [(a0, .inr (15, [.ref a4, .int 0, .int (-1), .int 0, .ref a5, .ref a6, .ref a7, .ref a8, .ref a9])), (a6, .inl (k11, 0, .inr (.inr (.inr (.inr (fun _ => none))))))] H := hP.sub [0, 1] rfl
  have hD9 : va_D A [(a0, .inr (15, [.ref a4, .int 0, .int (-1), .int 0, .ref a5, .ref a6, .ref a7, .ref a8, .ref a9])), (a6, .inl (k11, 0, .inr (.inr (.inr (.inr (fun _ => none))))))] := hD.sub [0, 1] (by decide) rfl
  have hK9 : va_K (dC, dI) cls [(k11, .object RX14)] s := hK.sub [0] rfl
  exact W.zret (v := 0) hx hb hr (by decide) (fun t ht hW => ⟨⟨0, (), rfl, rfl, ⟨by rw [ht]; exact hP9, va_K.moved hW.alike hK9, hD9⟩⟩, hS.F ht⟩) hS.2.2 dX24_isAhead_31
set_option maxHeartbeats 4000000 in
set_option maxRecDepth 100000 in
theorem kX24_predecessor {zs : Nat × Nat} (l : Launch) (dC : Nat → ClassId) (dI : Nat → Nat → Nat) (mx : Nat) (mq1 : Nat) (mq3 : Nat) (mq4 : Nat) (mc5 : ClassId) (mq6 : Nat) (mq8 : Nat) (mq22 : Nat) (p0 : Int32) (p1 : Int32) (p2 : Int32) (sz : Nat)  : Met l yX24_predecessor (wz yX24_predecessor cX24_predecessor 4 (Option.some Jvm.ClassFile.FieldType.int)) ({ frames := 3, cells := 0, slots := 0, locals := 66 }) (va_Pc [.ref mx, .int p0, .int p1, .int p2] (PRE zs dC dI [(mx, .inr (15, [.ref mq1, .int 0, .int (-1), .int 0, .ref mq3, .ref mq4, .ref mq6, .ref mq8, .ref mq22])), (mq4, .inl (mc5, 0, .inr (.inr (.inr (.inr (fun _ => none))))))] [(mc5, .object RX14)] sz)) (va_Qi (fun (r : Int32) (_ : Unit) => r = 0) (fun _ t => POST dC dI [(mx, .inr (15, [.ref mq1, .int 0, .int (-1), .int 1, .ref mq3, .ref mq4, .ref mq6, .ref mq8, .ref mq22]))] [] (va_A [(mx, .inr (15, [.ref mq1, .int 0, .int (-1), .int 0, .ref mq3, .ref mq4, .ref mq6, .ref mq8, .ref mq22])), (mq4, .inl (mc5, 0, .inr (.inr (.inr (.inr (fun _ => none))))))] sz) t) (va_A [(mx, .inr (15, [.ref mq1, .int 0, .int (-1), .int 0, .ref mq3, .ref mq4, .ref mq6, .ref mq8, .ref mq22])), (mq4, .inl (mc5, 0, .inr (.inr (.inr (.inr (fun _ => none))))))] sz)) 0 0 (va_A [(mx, .inr (15, [.ref mq1, .int 0, .int (-1), .int 0, .ref mq3, .ref mq4, .ref mq6, .ref mq8, .ref mq22])), (mq4, .inl (mc5, 0, .inr (.inr (.inr (.inr (fun _ => none))))))] sz) := by
  refine Met.ofW (cc := cX24_predecessor) (maxL := 4) (ret := (Option.some Jvm.ClassFile.FieldType.int)) (by decide) rfl ?_
  intro p e s m args below meth c s₁ B hml hv
  obtain ⟨rfl, hsz, hP, hK, hD0, hE⟩ := hv
  have hx := B.exec
  have hb := B.bytes
  have hr := B.returns
  have hts0 := atoms_spec (ws := wz yX24_predecessor cX24_predecessor 4 (Option.some Jvm.ClassFile.FieldType.int)) B.pre
  have hts : ∀ w ∈ gw, w.before _ s = true := fun w h => hts0 w (List.mem_cons_of_mem _ h)
  have hown : s.vm.findClass RX24 = some m.cls := findClass_of_methodNamed B.named
  have hlocks := B.notSynchronized
  subst hsz
  have hD := hD0.self (sz := s.heap.size)
  generalize hAe : va_A [(mx, .inr (15, [.ref mq1, .int 0, .int (-1), .int 0, .ref mq3, .ref mq4, .ref mq6, .ref mq8, .ref mq22])), (mq4, .inl (mc5, 0, .inr (.inr (.inr (.inr (fun _ => none))))))] s.heap.size = A at hD hE ⊢
  have hA : ∀ q : Nat, s.heap.size ≤ q → A q := fun q h => by rw [← hAe]; exact Or.inr h
  have hS : va_S A s.heap s.heap [] := va_S.rf
  have hP : va_P (dC, dI) cls [(mx, .inr (15, [.ref mq1, .int 0, .int (-1), .int 0, .ref mq3, .ref mq4, .ref mq6, .ref mq8, .ref mq22])), (mq4, .inl (mc5, 0, .inr (.inr (.inr (.inr (fun _ => none))))))] s.heap := hP
  have hl := lv_entry ([.ref mx, .int p0, .int p1, .int p2]) (n := 4) (Nat.le_of_ble_eq_true rfl)
  rw [lg_entry_eq]
  generalize (lg_sl ([.ref mx, .int p0, .int p1, .int p2]) ++ List.replicate (4 - (lg_sl ([.ref mx, .int p0, .int p1, .int p2])).length) Slot.unset).toArray = ls at hl ⊢
  have hl : lv_has ls 4 [(0, .ref mx), (1, .int p0), (2, .int p1), (3, .int p2)] := hl
  refine lv_aload_n hx hb dX24_predecessor_0 rfl (lv_at hl 0 rfl) ?_
  refine lv_iconst (v := 0) hx hb dX24_predecessor_1 (by decide) ?_
  refine va_put (D := (dC, dI)) (ci := 15) (v := .int 0) (ty := .int) (C := RX24) (T := TX24) (N := 9) hx hb hts i_X24 tyX24 tyX24_ok nmX24 hown hK hP hD hS 0 rfl rfl 3 (by decide) (hts _ qw428) (fun _ h9 => h9) rfl (by decide +kernel) rfl rfl (Nat.le_of_ble_eq_true rfl) dX24_predecessor_2 (fun H locs hP hD hS => ?_)
  have hP : va_P (dC, dI) cls [(mx, .inr (15, [.ref mq1, .int 0, .int (-1), .int 0, .ref mq3, .ref mq4, .ref mq6, .ref mq8, .ref mq22])), (mq4, .inl (mc5, 0, .inr (.inr (.inr (.inr (fun _ => none))))))] H := hP
  have hD : va_D A [(mx, .inr (15, [.ref mq1, .int 0, .int (-1), .int 0, .ref mq3, .ref mq4, .ref mq6, .ref mq8, .ref mq22])), (mq4, .inl (mc5, 0, .inr (.inr (.inr (.inr (fun _ => none))))))] := hD
  refine lv_aload_n hx hb dX24_predecessor_5 rfl (lv_at hl 0 rfl) ?_
  refine lv_iload_n hx hb dX24_predecessor_6 rfl (lv_at hl 1 rfl) ?_
  refine lv_iload_n hx hb dX24_predecessor_7 rfl (lv_at hl 2 rfl) ?_
  refine lv_iload_n hx hb dX24_predecessor_8 rfl (lv_at hl 3 rfl) ?_
  have hPc := hP.sub (ws' := [(mx, .inr (15, [.ref mq1, .int 0, .int (-1), .int 0, .ref mq3, .ref mq4, .ref mq6, .ref mq8, .ref mq22])), (mq4, .inl (mc5, 0, .inr (.inr (.inr (.inr (fun _ => none))))))]) [0, 1] rfl
  have hDc := hD.sub (ws' := [(mx, .inr (15, [.ref mq1, .int 0, .int (-1), .int 0, .ref mq3, .ref mq4, .ref mq6, .ref mq8, .ref mq22])), (mq4, .inl (mc5, 0, .inr (.inr (.inr (.inr (fun _ => none))))))]) [0, 1] (by decide) rfl
  have hKc := hK.sub (tys' := [(mc5, .object RX14)]) [0] rfl
  have hFc := va_free (wc := [(mx, .inr (15, [.ref mq1, .int 0, .int (-1), .int 0, .ref mq3, .ref mq4, .ref mq6, .ref mq8, .ref mq22])), (mq4, .inl (mc5, 0, .inr (.inr (.inr (.inr (fun _ => none))))))]) hD hS hA [0, 1] rfl
  refine va_calli (va_runV (As := [.int p0, .int p1, .int p2]) (rest := []) ⟨hx, hb, hml, hown, hts⟩ (kX24_isAhead_n49 l dC dI (a0 := mx) (i1 := p0) (i2 := p1) (i3 := p2) (a4 := mq1) (a5 := mq3) (a6 := mq4) (a7 := mq6) (a8 := mq8) (a9 := mq22) (k11 := mc5) (sz := _)) (cwV 3 hts (gi_V qw459 qw460 qw461 qw434 (gi_z qw458)) rfl rfl rfl (by decide +kernel) ⟨Nat.le_of_ble_eq_true rfl, Nat.le_of_ble_eq_true rfl⟩) ⟨PRE.blind, va_recv hKc hPc (ci := 15) (q0 := 0) rfl rfl, PRE.of hE hS hFc hPc hKc hDc⟩ rfl rfl hl.1 rfl (lv_room (Nat.le_of_ble_eq_true rfl)) dX24_predecessor_9 ⟨Nat.le_of_ble_eq_true rfl, Nat.le_of_ble_eq_true rfl⟩) hS (fun q _ h => hFc q h) hFc (fun r1 u t H locs ht hvm hw hB hz1 hk1 hS => ?_)
  obtain ⟨hP, hD, hK⟩ := JOIN (wr := []) hP hD hK [0, 1] [] [] rfl rfl (by decide) (by decide) rfl hk1 hFc ht hvm hB
  have hP : va_P (dC, dI) cls [(mx, .inr (15, [.ref mq1, .int 0, .int (-1), .int 0, .ref mq3, .ref mq4, .ref mq6, .ref mq8, .ref mq22])), (mq4, .inl (mc5, 0, .inr (.inr (.inr (.inr (fun _ => none))))))] H := hP
  have hD : va_D A [(mx, .inr (15, [.ref mq1, .int 0, .int (-1), .int 0, .ref mq3, .ref mq4, .ref mq6, .ref mq8, .ref mq22])), (mq4, .inl (mc5, 0, .inr (.inr (.inr (.inr (fun _ => none))))))] := hD
  have hK : va_K (dC, dI) cls [(mc5, .object RX14)] s := hK
  refine W.widen (k := 0) (n := 0) (Nat.le_of_ble_eq_true rfl) (Nat.le_of_ble_eq_true rfl) ?_
  obtain rfl : r1 = 0 := hw
  refine lv_if_eq (tgt := 32) hx hb dX24_predecessor_12 (by decide) (fun _ => ?_) (fun c => absurd (by decide) c)
  refine lv_aload_n hx hb dX24_predecessor_32 rfl (lv_at hl 0 rfl) ?_
  refine lv_iconst (v := 1) hx hb dX24_predecessor_33 (by decide) ?_
  have hPc := hP.sub (ws' := [(mx, .inr (15, [.ref mq1, .int 0, .int (-1), .int 0, .ref mq3, .ref mq4, .ref mq6, .ref mq8, .ref mq22]))]) [0] rfl
  have hDc := hD.sub (ws' := [(mx, .inr (15, [.ref mq1, .int 0, .int (-1), .int 0, .ref mq3, .ref mq4, .ref mq6, .ref mq8, .ref mq22]))]) [0] (by decide) rfl
  have hKc := hK.sub (tys' := []) [] rfl
  have hFc := va_free (wc := [(mx, .inr (15, [.ref mq1, .int 0, .int (-1), .int 0, .ref mq3, .ref mq4, .ref mq6, .ref mq8, .ref mq22]))]) hD hS hA [0] rfl
  refine va_calli (va_runV (As := [.int 1]) (rest := []) ⟨hx, hb, hml, hown, hts⟩ (kX24_no_n39 l dC dI (a0 := mx) (a1 := mq1) (a2 := mq3) (a3 := mq4) (a4 := mq6) (a5 := mq8) (a6 := mq22) (sz := _)) (cwV 1 hts (gi_V qw436 qw437 qw438 qw434 (gi_z qw435)) rfl rfl rfl (by decide +kernel) ⟨Nat.le_of_ble_eq_true rfl, Nat.le_of_ble_eq_true rfl⟩) ⟨PRE.blind, va_recv hKc hPc (ci := 15) (q0 := 0) rfl rfl, PRE.of hE hS hFc hPc hKc hDc⟩ rfl rfl hl.1 rfl (lv_room (Nat.le_of_ble_eq_true rfl)) dX24_predecessor_34 ⟨Nat.le_of_ble_eq_true rfl, Nat.le_of_ble_eq_true rfl⟩) hS (fun q _ h => hFc q h) hFc (fun r2 u t H locs ht hvm hw hB hz1 hk1 hS => ?_)
  obtain ⟨hP, hD, hK⟩ := JOIN (wr := [(mq4, .inl (mc5, 0, .inr (.inr (.inr (.inr (fun _ => none))))))]) hP hD hK [0] [1] [0] rfl rfl (by decide) (by decide) rfl hk1 hFc ht hvm hB
  have hP : va_P (dC, dI) cls [(mq4, .inl (mc5, 0, .inr (.inr (.inr (.inr (fun _ => none)))))), (mx, .inr (15, [.ref mq1, .int 0, .int (-1), .int 1, .ref mq3, .ref mq4, .ref mq6, .ref mq8, .ref mq22]))] H := hP
  have hD : va_D A [(mq4, .inl (mc5, 0, .inr (.inr (.inr (.inr (fun _ => none)))))), (mx, .inr (15, [.ref mq1, .int 0, .int (-1), .int 1, .ref mq3, .ref mq4, .ref mq6, .ref mq8, .ref mq22]))] := hD
  have hK : va_K (dC, dI) cls [(mc5, .object RX14)] s := hK
  refine W.widen (k := 0) (n := 0) (Nat.le_of_ble_eq_true rfl) (Nat.le_of_ble_eq_true rfl) ?_
  obtain rfl : r2 = 0 := hw
  have hP9 : va_P (dC, dI) cls [(mx, .inr (15, [.ref mq1, .int 0, .int (-1), .int 1, .ref mq3, .ref mq4, .ref mq6, .ref mq8, .ref mq22]))] H := hP.sub [1] rfl
  have hD9 : va_D A [(mx, .inr (15, [.ref mq1, .int 0, .int (-1), .int 1, .ref mq3, .ref mq4, .ref mq6, .ref mq8, .ref mq22]))] := hD.sub [1] (by decide) rfl
  have hK9 : va_K (dC, dI) cls [] s := hK.sub [] rfl
  exact W.iret (v := 0) hx hb hr (fun t ht hW => ⟨⟨0, (), rfl, rfl, ⟨by rw [ht]; exact hP9, va_K.moved hW.alike hK9, hD9⟩⟩, hS.F ht⟩) hS.2.2 dX24_predecessor_37
set_option maxHeartbeats 4000000 in
set_option maxRecDepth 100000 in
theorem kX24_endOf {zs : Nat × Nat} (l : Launch) (dC : Nat → ClassId) (dI : Nat → Nat → Nat) (mx : Nat) (mq1 : Nat) (mq3 : Nat) (mq4 : Nat) (mc5 : ClassId) (mq6 : Nat) (mq8 : Nat) (mq22 : Nat) (p0 : Int32) (p1 : Int32) (sz : Nat)  : Met l yX24_endOf (wz yX24_endOf cX24_endOf 3 (Option.some Jvm.ClassFile.FieldType.int)) ({ frames := 2, cells := 0, slots := 0, locals := 43 }) (va_Pc [.ref mx, .int p0, .int p1] (PRE zs dC dI [(mx, .inr (15, [.ref mq1, .int 0, .int (-1), .int 0, .ref mq3, .ref mq4, .ref mq6, .ref mq8, .ref mq22])), (mq4, .inl (mc5, 0, .inr (.inr (.inr (.inr (fun _ => none))))))] [(mc5, .object RX14)] sz)) (va_Qi (fun (r : Int32) (_ : Unit) => r = 0) (fun _ t => POST dC dI [(mx, .inr (15, [.ref mq1, .int 0, .int (-1), .int 1, .ref mq3, .ref mq4, .ref mq6, .ref mq8, .ref mq22]))] [] (va_A [(mx, .inr (15, [.ref mq1, .int 0, .int (-1), .int 0, .ref mq3, .ref mq4, .ref mq6, .ref mq8, .ref mq22])), (mq4, .inl (mc5, 0, .inr (.inr (.inr (.inr (fun _ => none))))))] sz) t) (va_A [(mx, .inr (15, [.ref mq1, .int 0, .int (-1), .int 0, .ref mq3, .ref mq4, .ref mq6, .ref mq8, .ref mq22])), (mq4, .inl (mc5, 0, .inr (.inr (.inr (.inr (fun _ => none))))))] sz)) 0 0 (va_A [(mx, .inr (15, [.ref mq1, .int 0, .int (-1), .int 0, .ref mq3, .ref mq4, .ref mq6, .ref mq8, .ref mq22])), (mq4, .inl (mc5, 0, .inr (.inr (.inr (.inr (fun _ => none))))))] sz) := by
  refine Met.ofW (cc := cX24_endOf) (maxL := 3) (ret := (Option.some Jvm.ClassFile.FieldType.int)) (by decide) rfl ?_
  intro p e s m args below meth c s₁ B hml hv
  obtain ⟨rfl, hsz, hP, hK, hD0, hE⟩ := hv
  have hx := B.exec
  have hb := B.bytes
  have hr := B.returns
  have hts0 := atoms_spec (ws := wz yX24_endOf cX24_endOf 3 (Option.some Jvm.ClassFile.FieldType.int)) B.pre
  have hts : ∀ w ∈ gw, w.before _ s = true := fun w h => hts0 w (List.mem_cons_of_mem _ h)
  have hown : s.vm.findClass RX24 = some m.cls := findClass_of_methodNamed B.named
  have hlocks := B.notSynchronized
  subst hsz
  have hD := hD0.self (sz := s.heap.size)
  generalize hAe : va_A [(mx, .inr (15, [.ref mq1, .int 0, .int (-1), .int 0, .ref mq3, .ref mq4, .ref mq6, .ref mq8, .ref mq22])), (mq4, .inl (mc5, 0, .inr (.inr (.inr (.inr (fun _ => none))))))] s.heap.size = A at hD hE ⊢
  have hA : ∀ q : Nat, s.heap.size ≤ q → A q := fun q h => by rw [← hAe]; exact Or.inr h
  have hS : va_S A s.heap s.heap [] := va_S.rf
  have hP : va_P (dC, dI) cls [(mx, .inr (15, [.ref mq1, .int 0, .int (-1), .int 0, .ref mq3, .ref mq4, .ref mq6, .ref mq8, .ref mq22])), (mq4, .inl (mc5, 0, .inr (.inr (.inr (.inr (fun _ => none))))))] s.heap := hP
  have hl := lv_entry ([.ref mx, .int p0, .int p1]) (n := 3) (Nat.le_of_ble_eq_true rfl)
  rw [lg_entry_eq]
  generalize (lg_sl ([.ref mx, .int p0, .int p1]) ++ List.replicate (3 - (lg_sl ([.ref mx, .int p0, .int p1])).length) Slot.unset).toArray = ls at hl ⊢
  have hl : lv_has ls 3 [(0, .ref mx), (1, .int p0), (2, .int p1)] := hl
  refine lv_aload_n hx hb dX24_endOf_0 rfl (lv_at hl 0 rfl) ?_
  refine lv_iconst (v := 0) hx hb dX24_endOf_1 (by decide) ?_
  refine va_put (D := (dC, dI)) (ci := 15) (v := .int 0) (ty := .int) (C := RX24) (T := TX24) (N := 9) hx hb hts i_X24 tyX24 tyX24_ok nmX24 hown hK hP hD hS 0 rfl rfl 3 (by decide) (hts _ qw428) (fun _ h9 => h9) rfl (by decide +kernel) rfl rfl (Nat.le_of_ble_eq_true rfl) dX24_endOf_2 (fun H locs hP hD hS => ?_)
  have hP : va_P (dC, dI) cls [(mx, .inr (15, [.ref mq1, .int 0, .int (-1), .int 0, .ref mq3, .ref mq4, .ref mq6, .ref mq8, .ref mq22])), (mq4, .inl (mc5, 0, .inr (.inr (.inr (.inr (fun _ => none))))))] H := hP
  have hD : va_D A [(mx, .inr (15, [.ref mq1, .int 0, .int (-1), .int 0, .ref mq3, .ref mq4, .ref mq6, .ref mq8, .ref mq22])), (mq4, .inl (mc5, 0, .inr (.inr (.inr (.inr (fun _ => none))))))] := hD
  refine lv_aload_n hx hb dX24_endOf_5 rfl (lv_at hl 0 rfl) ?_
  refine lv_iload_n hx hb dX24_endOf_6 rfl (lv_at hl 1 rfl) ?_
  refine lv_iload_n hx hb dX24_endOf_7 rfl (lv_at hl 2 rfl) ?_
  have hPc := hP.sub (ws' := [(mx, .inr (15, [.ref mq1, .int 0, .int (-1), .int 0, .ref mq3, .ref mq4, .ref mq6, .ref mq8, .ref mq22])), (mq4, .inl (mc5, 0, .inr (.inr (.inr (.inr (fun _ => none))))))]) [0, 1] rfl
  have hDc := hD.sub (ws' := [(mx, .inr (15, [.ref mq1, .int 0, .int (-1), .int 0, .ref mq3, .ref mq4, .ref mq6, .ref mq8, .ref mq22])), (mq4, .inl (mc5, 0, .inr (.inr (.inr (.inr (fun _ => none))))))]) [0, 1] (by decide) rfl
  have hKc := hK.sub (tys' := [(mc5, .object RX14)]) [0] rfl
  have hFc := va_free (wc := [(mx, .inr (15, [.ref mq1, .int 0, .int (-1), .int 0, .ref mq3, .ref mq4, .ref mq6, .ref mq8, .ref mq22])), (mq4, .inl (mc5, 0, .inr (.inr (.inr (.inr (fun _ => none))))))]) hD hS hA [0, 1] rfl
  refine va_calli (va_runV (As := [.int p0, .int p1]) (rest := []) ⟨hx, hb, hml, hown, hts⟩ (kX24_isBlock_n48 l dC dI (a0 := mx) (i1 := p0) (i2 := p1) (a3 := mq1) (a4 := mq3) (a5 := mq4) (a6 := mq6) (a7 := mq8) (a8 := mq22) (k10 := mc5) (sz := _)) (cwV 2 hts (gi_V qw455 qw456 qw457 qw434 (gi_z qw454)) rfl rfl rfl (by decide +kernel) ⟨Nat.le_of_ble_eq_true rfl, Nat.le_of_ble_eq_true rfl⟩) ⟨PRE.blind, va_recv hKc hPc (ci := 15) (q0 := 0) rfl rfl, PRE.of hE hS hFc hPc hKc hDc⟩ rfl rfl hl.1 rfl (lv_room (Nat.le_of_ble_eq_true rfl)) dX24_endOf_8 ⟨Nat.le_of_ble_eq_true rfl, Nat.le_of_ble_eq_true rfl⟩) hS (fun q _ h => hFc q h) hFc (fun r1 u t H locs ht hvm hw hB hz1 hk1 hS => ?_)
  obtain ⟨hP, hD, hK⟩ := JOIN (wr := []) hP hD hK [0, 1] [] [] rfl rfl (by decide) (by decide) rfl hk1 hFc ht hvm hB
  have hP : va_P (dC, dI) cls [(mx, .inr (15, [.ref mq1, .int 0, .int (-1), .int 0, .ref mq3, .ref mq4, .ref mq6, .ref mq8, .ref mq22])), (mq4, .inl (mc5, 0, .inr (.inr (.inr (.inr (fun _ => none))))))] H := hP
  have hD : va_D A [(mx, .inr (15, [.ref mq1, .int 0, .int (-1), .int 0, .ref mq3, .ref mq4, .ref mq6, .ref mq8, .ref mq22])), (mq4, .inl (mc5, 0, .inr (.inr (.inr (.inr (fun _ => none))))))] := hD
  have hK : va_K (dC, dI) cls [(mc5, .object RX14)] s := hK
  refine W.widen (k := 0) (n := 0) (Nat.le_of_ble_eq_true rfl) (Nat.le_of_ble_eq_true rfl) ?_
  obtain rfl : r1 = 0 := hw
  refine lv_if_eq (tgt := 26) hx hb dX24_endOf_11 (by decide) (fun _ => ?_) (fun c => absurd (by decide) c)
  refine lv_aload_n hx hb dX24_endOf_26 rfl (lv_at hl 0 rfl) ?_
  refine lv_iconst (v := 1) hx hb dX24_endOf_27 (by decide) ?_
  have hPc := hP.sub (ws' := [(mx, .inr (15, [.ref mq1, .int 0, .int (-1), .int 0, .ref mq3, .ref mq4, .ref mq6, .ref mq8, .ref mq22]))]) [0] rfl
  have hDc := hD.sub (ws' := [(mx, .inr (15, [.ref mq1, .int 0, .int (-1), .int 0, .ref mq3, .ref mq4, .ref mq6, .ref mq8, .ref mq22]))]) [0] (by decide) rfl
  have hKc := hK.sub (tys' := []) [] rfl
  have hFc := va_free (wc := [(mx, .inr (15, [.ref mq1, .int 0, .int (-1), .int 0, .ref mq3, .ref mq4, .ref mq6, .ref mq8, .ref mq22]))]) hD hS hA [0] rfl
  refine va_calli (va_runV (As := [.int 1]) (rest := []) ⟨hx, hb, hml, hown, hts⟩ (kX24_no_n39 l dC dI (a0 := mx) (a1 := mq1) (a2 := mq3) (a3 := mq4) (a4 := mq6) (a5 := mq8) (a6 := mq22) (sz := _)) (cwV 1 hts (gi_V qw436 qw437 qw438 qw434 (gi_z qw435)) rfl rfl rfl (by decide +kernel) ⟨Nat.le_of_ble_eq_true rfl, Nat.le_of_ble_eq_true rfl⟩) ⟨PRE.blind, va_recv hKc hPc (ci := 15) (q0 := 0) rfl rfl, PRE.of hE hS hFc hPc hKc hDc⟩ rfl rfl hl.1 rfl (lv_room (Nat.le_of_ble_eq_true rfl)) dX24_endOf_28 ⟨Nat.le_of_ble_eq_true rfl, Nat.le_of_ble_eq_true rfl⟩) hS (fun q _ h => hFc q h) hFc (fun r2 u t H locs ht hvm hw hB hz1 hk1 hS => ?_)
  obtain ⟨hP, hD, hK⟩ := JOIN (wr := [(mq4, .inl (mc5, 0, .inr (.inr (.inr (.inr (fun _ => none))))))]) hP hD hK [0] [1] [0] rfl rfl (by decide) (by decide) rfl hk1 hFc ht hvm hB
  have hP : va_P (dC, dI) cls [(mq4, .inl (mc5, 0, .inr (.inr (.inr (.inr (fun _ => none)))))), (mx, .inr (15, [.ref mq1, .int 0, .int (-1), .int 1, .ref mq3, .ref mq4, .ref mq6, .ref mq8, .ref mq22]))] H := hP
  have hD : va_D A [(mq4, .inl (mc5, 0, .inr (.inr (.inr (.inr (fun _ => none)))))), (mx, .inr (15, [.ref mq1, .int 0, .int (-1), .int 1, .ref mq3, .ref mq4, .ref mq6, .ref mq8, .ref mq22]))] := hD
  have hK : va_K (dC, dI) cls [(mc5, .object RX14)] s := hK
  refine W.widen (k := 0) (n := 0) (Nat.le_of_ble_eq_true rfl) (Nat.le_of_ble_eq_true rfl) ?_
  obtain rfl : r2 = 0 := hw
  have hP9 : va_P (dC, dI) cls [(mx, .inr (15, [.ref mq1, .int 0, .int (-1), .int 1, .ref mq3, .ref mq4, .ref mq6, .ref mq8, .ref mq22]))] H := hP.sub [1] rfl
  have hD9 : va_D A [(mx, .inr (15, [.ref mq1, .int 0, .int (-1), .int 1, .ref mq3, .ref mq4, .ref mq6, .ref mq8, .ref mq22]))] := hD.sub [1] (by decide) rfl
  have hK9 : va_K (dC, dI) cls [] s := hK.sub [] rfl
  exact W.iret (v := 0) hx hb hr (fun t ht hW => ⟨⟨0, (), rfl, rfl, ⟨by rw [ht]; exact hP9, va_K.moved hW.alike hK9, hD9⟩⟩, hS.F ht⟩) hS.2.2 dX24_endOf_31
set_option maxHeartbeats 4000000 in
set_option maxRecDepth 100000 in
theorem kX24_successor {zs : Nat × Nat} (l : Launch) (dC : Nat → ClassId) (dI : Nat → Nat → Nat) (mx : Nat) (mq1 : Nat) (mq3 : Nat) (mq4 : Nat) (mc5 : ClassId) (mq6 : Nat) (mq8 : Nat) (mq22 : Nat) (p0 : Int32) (p1 : Int32) (p2 : Int32) (sz : Nat)  : Met l yX24_successor (wz yX24_successor cX24_successor 4 (Option.some Jvm.ClassFile.FieldType.int)) ({ frames := 2, cells := 0, slots := 0, locals := 43 }) (va_Pc [.ref mx, .int p0, .int p1, .int p2] (PRE zs dC dI [(mx, .inr (15, [.ref mq1, .int 0, .int (-1), .int 0, .ref mq3, .ref mq4, .ref mq6, .ref mq8, .ref mq22])), (mq4, .inl (mc5, 0, .inr (.inr (.inr (.inr (fun _ => none))))))] [(mc5, .object RX14)] sz)) (va_Qi (fun (r : Int32) (_ : Unit) => r = 0) (fun _ t => POST dC dI [(mx, .inr (15, [.ref mq1, .int 0, .int (-1), .int 1, .ref mq3, .ref mq4, .ref mq6, .ref mq8, .ref mq22]))] [] (va_A [(mx, .inr (15, [.ref mq1, .int 0, .int (-1), .int 0, .ref mq3, .ref mq4, .ref mq6, .ref mq8, .ref mq22])), (mq4, .inl (mc5, 0, .inr (.inr (.inr (.inr (fun _ => none))))))] sz) t) (va_A [(mx, .inr (15, [.ref mq1, .int 0, .int (-1), .int 0, .ref mq3, .ref mq4, .ref mq6, .ref mq8, .ref mq22])), (mq4, .inl (mc5, 0, .inr (.inr (.inr (.inr (fun _ => none))))))] sz)) 0 0 (va_A [(mx, .inr (15, [.ref mq1, .int 0, .int (-1), .int 0, .ref mq3, .ref mq4, .ref mq6, .ref mq8, .ref mq22])), (mq4, .inl (mc5, 0, .inr (.inr (.inr (.inr (fun _ => none))))))] sz) := by
  refine Met.ofW (cc := cX24_successor) (maxL := 4) (ret := (Option.some Jvm.ClassFile.FieldType.int)) (by decide) rfl ?_
  intro p e s m args below meth c s₁ B hml hv
  obtain ⟨rfl, hsz, hP, hK, hD0, hE⟩ := hv
  have hx := B.exec
  have hb := B.bytes
  have hr := B.returns
  have hts0 := atoms_spec (ws := wz yX24_successor cX24_successor 4 (Option.some Jvm.ClassFile.FieldType.int)) B.pre
  have hts : ∀ w ∈ gw, w.before _ s = true := fun w h => hts0 w (List.mem_cons_of_mem _ h)
  have hown : s.vm.findClass RX24 = some m.cls := findClass_of_methodNamed B.named
  have hlocks := B.notSynchronized
  subst hsz
  have hD := hD0.self (sz := s.heap.size)
  generalize hAe : va_A [(mx, .inr (15, [.ref mq1, .int 0, .int (-1), .int 0, .ref mq3, .ref mq4, .ref mq6, .ref mq8, .ref mq22])), (mq4, .inl (mc5, 0, .inr (.inr (.inr (.inr (fun _ => none))))))] s.heap.size = A at hD hE ⊢
  have hA : ∀ q : Nat, s.heap.size ≤ q → A q := fun q h => by rw [← hAe]; exact Or.inr h
  have hS : va_S A s.heap s.heap [] := va_S.rf
  have hP : va_P (dC, dI) cls [(mx, .inr (15, [.ref mq1, .int 0, .int (-1), .int 0, .ref mq3, .ref mq4, .ref mq6, .ref mq8, .ref mq22])), (mq4, .inl (mc5, 0, .inr (.inr (.inr (.inr (fun _ => none))))))] s.heap := hP
  have hl := lv_entry ([.ref mx, .int p0, .int p1, .int p2]) (n := 4) (Nat.le_of_ble_eq_true rfl)
  rw [lg_entry_eq]
  generalize (lg_sl ([.ref mx, .int p0, .int p1, .int p2]) ++ List.replicate (4 - (lg_sl ([.ref mx, .int p0, .int p1, .int p2])).length) Slot.unset).toArray = ls at hl ⊢
  have hl : lv_has ls 4 [(0, .ref mx), (1, .int p0), (2, .int p1), (3, .int p2)] := hl
  refine lv_aload_n hx hb dX24_successor_0 rfl (lv_at hl 0 rfl) ?_
  refine lv_iconst (v := 0) hx hb dX24_successor_1 (by decide) ?_
  refine va_put (D := (dC, dI)) (ci := 15) (v := .int 0) (ty := .int) (C := RX24) (T := TX24) (N := 9) hx hb hts i_X24 tyX24 tyX24_ok nmX24 hown hK hP hD hS 0 rfl rfl 3 (by decide) (hts _ qw428) (fun _ h9 => h9) rfl (by decide +kernel) rfl rfl (Nat.le_of_ble_eq_true rfl) dX24_successor_2 (fun H locs hP hD hS => ?_)
  have hP : va_P (dC, dI) cls [(mx, .inr (15, [.ref mq1, .int 0, .int (-1), .int 0, .ref mq3, .ref mq4, .ref mq6, .ref mq8, .ref mq22])), (mq4, .inl (mc5, 0, .inr (.inr (.inr (.inr (fun _ => none))))))] H := hP
  have hD : va_D A [(mx, .inr (15, [.ref mq1, .int 0, .int (-1), .int 0, .ref mq3, .ref mq4, .ref mq6, .ref mq8, .ref mq22])), (mq4, .inl (mc5, 0, .inr (.inr (.inr (.inr (fun _ => none))))))] := hD
  refine lv_aload_n hx hb dX24_successor_5 rfl (lv_at hl 0 rfl) ?_
  refine lv_iload_n hx hb dX24_successor_6 rfl (lv_at hl 1 rfl) ?_
  refine lv_iload_n hx hb dX24_successor_7 rfl (lv_at hl 2 rfl) ?_
  have hPc := hP.sub (ws' := [(mx, .inr (15, [.ref mq1, .int 0, .int (-1), .int 0, .ref mq3, .ref mq4, .ref mq6, .ref mq8, .ref mq22])), (mq4, .inl (mc5, 0, .inr (.inr (.inr (.inr (fun _ => none))))))]) [0, 1] rfl
  have hDc := hD.sub (ws' := [(mx, .inr (15, [.ref mq1, .int 0, .int (-1), .int 0, .ref mq3, .ref mq4, .ref mq6, .ref mq8, .ref mq22])), (mq4, .inl (mc5, 0, .inr (.inr (.inr (.inr (fun _ => none))))))]) [0, 1] (by decide) rfl
  have hKc := hK.sub (tys' := [(mc5, .object RX14)]) [0] rfl
  have hFc := va_free (wc := [(mx, .inr (15, [.ref mq1, .int 0, .int (-1), .int 0, .ref mq3, .ref mq4, .ref mq6, .ref mq8, .ref mq22])), (mq4, .inl (mc5, 0, .inr (.inr (.inr (.inr (fun _ => none))))))]) hD hS hA [0, 1] rfl
  refine va_calli (va_runV (As := [.int p0, .int p1]) (rest := []) ⟨hx, hb, hml, hown, hts⟩ (kX24_isBlock_n48 l dC dI (a0 := mx) (i1 := p0) (i2 := p1) (a3 := mq1) (a4 := mq3) (a5 := mq4) (a6 := mq6) (a7 := mq8) (a8 := mq22) (k10 := mc5) (sz := _)) (cwV 2 hts (gi_V qw455 qw456 qw457 qw434 (gi_z qw454)) rfl rfl rfl (by decide +kernel) ⟨Nat.le_of_ble_eq_true rfl, Nat.le_of_ble_eq_true rfl⟩) ⟨PRE.blind, va_recv hKc hPc (ci := 15) (q0 := 0) rfl rfl, PRE.of hE hS hFc hPc hKc hDc⟩ rfl rfl hl.1 rfl (lv_room (Nat.le_of_ble_eq_true rfl)) dX24_successor_8 ⟨Nat.le_of_ble_eq_true rfl, Nat.le_of_ble_eq_true rfl⟩) hS (fun q _ h => hFc q h) hFc (fun r1 u t H locs ht hvm hw hB hz1 hk1 hS => ?_)
  obtain ⟨hP, hD, hK⟩ := JOIN (wr := []) hP hD hK [0, 1] [] [] rfl rfl (by decide) (by decide) rfl hk1 hFc ht hvm hB
  have hP : va_P (dC, dI) cls [(mx, .inr (15, [.ref mq1, .int 0, .int (-1), .int 0, .ref mq3, .ref mq4, .ref mq6, .ref mq8, .ref mq22])), (mq4, .inl (mc5, 0, .inr (.inr (.inr (.inr (fun _ => none))))))] H := hP
  have hD : va_D A [(mx, .inr (15, [.ref mq1, .int 0, .int (-1), .int 0, .ref mq3, .ref mq4, .ref mq6, .ref mq8, .ref mq22])), (mq4, .inl (mc5, 0, .inr (.inr (.inr (.inr (fun _ => none))))))] := hD
  have hK : va_K (dC, dI) cls [(mc5, .object RX14)] s := hK
  refine W.widen (k := 0) (n := 0) (Nat.le_of_ble_eq_true rfl) (Nat.le_of_ble_eq_true rfl) ?_
  obtain rfl : r1 = 0 := hw
  refine lv_if_ne (tgt := 20) hx hb dX24_successor_11 (by decide) (fun c => absurd (by decide) c) (fun _ => ?_)
  refine lv_aload_n hx hb dX24_successor_14 rfl (lv_at hl 0 rfl) ?_
  refine lv_iconst (v := 1) hx hb dX24_successor_15 (by decide) ?_
  have hPc := hP.sub (ws' := [(mx, .inr (15, [.ref mq1, .int 0, .int (-1), .int 0, .ref mq3, .ref mq4, .ref mq6, .ref mq8, .ref mq22]))]) [0] rfl
  have hDc := hD.sub (ws' := [(mx, .inr (15, [.ref mq1, .int 0, .int (-1), .int 0, .ref mq3, .ref mq4, .ref mq6, .ref mq8, .ref mq22]))]) [0] (by decide) rfl
  have hKc := hK.sub (tys' := []) [] rfl
  have hFc := va_free (wc := [(mx, .inr (15, [.ref mq1, .int 0, .int (-1), .int 0, .ref mq3, .ref mq4, .ref mq6, .ref mq8, .ref mq22]))]) hD hS hA [0] rfl
  refine va_calli (va_runV (As := [.int 1]) (rest := []) ⟨hx, hb, hml, hown, hts⟩ (kX24_no_n39 l dC dI (a0 := mx) (a1 := mq1) (a2 := mq3) (a3 := mq4) (a4 := mq6) (a5 := mq8) (a6 := mq22) (sz := _)) (cwV 1 hts (gi_V qw436 qw437 qw438 qw434 (gi_z qw435)) rfl rfl rfl (by decide +kernel) ⟨Nat.le_of_ble_eq_true rfl, Nat.le_of_ble_eq_true rfl⟩) ⟨PRE.blind, va_recv hKc hPc (ci := 15) (q0 := 0) rfl rfl, PRE.of hE hS hFc hPc hKc hDc⟩ rfl rfl hl.1 rfl (lv_room (Nat.le_of_ble_eq_true rfl)) dX24_successor_16 ⟨Nat.le_of_ble_eq_true rfl, Nat.le_of_ble_eq_true rfl⟩) hS (fun q _ h => hFc q h) hFc (fun r2 u t H locs ht hvm hw hB hz1 hk1 hS => ?_)
  obtain ⟨hP, hD, hK⟩ := JOIN (wr := [(mq4, .inl (mc5, 0, .inr (.inr (.inr (.inr (fun _ => none))))))]) hP hD hK [0] [1] [0] rfl rfl (by decide) (by decide) rfl hk1 hFc ht hvm hB
  have hP : va_P (dC, dI) cls [(mq4, .inl (mc5, 0, .inr (.inr (.inr (.inr (fun _ => none)))))), (mx, .inr (15, [.ref mq1, .int 0, .int (-1), .int 1, .ref mq3, .ref mq4, .ref mq6, .ref mq8, .ref mq22]))] H := hP
  have hD : va_D A [(mq4, .inl (mc5, 0, .inr (.inr (.inr (.inr (fun _ => none)))))), (mx, .inr (15, [.ref mq1, .int 0, .int (-1), .int 1, .ref mq3, .ref mq4, .ref mq6, .ref mq8, .ref mq22]))] := hD
  have hK : va_K (dC, dI) cls [(mc5, .object RX14)] s := hK
  refine W.widen (k := 0) (n := 0) (Nat.le_of_ble_eq_true rfl) (Nat.le_of_ble_eq_true rfl) ?_
  obtain rfl : r2 = 0 := hw
  have hP9 : va_P (dC, dI) cls [(mx, .inr (15, [.ref mq1, .int 0, .int (-1), .int 1, .ref mq3, .ref mq4, .ref mq6, .ref mq8, .ref mq22]))] H := hP.sub [1] rfl
  have hD9 : va_D A [(mx, .inr (15, [.ref mq1, .int 0, .int (-1), .int 1, .ref mq3, .ref mq4, .ref mq6, .ref mq8, .ref mq22]))] := hD.sub [1] (by decide) rfl
  have hK9 : va_K (dC, dI) cls [] s := hK.sub [] rfl
  exact W.iret (v := 0) hx hb hr (fun t ht hW => ⟨⟨0, (), rfl, rfl, ⟨by rw [ht]; exact hP9, va_K.moved hW.alike hK9, hD9⟩⟩, hS.F ht⟩) hS.2.2 dX24_successor_19
set_option maxHeartbeats 4000000 in
set_option maxRecDepth 100000 in
theorem kX24_endValue {zs : Nat × Nat} (l : Launch) (dC : Nat → ClassId) (dI : Nat → Nat → Nat) (mx : Nat) (mq1 : Nat) (mq3 : Nat) (mq4 : Nat) (mc5 : ClassId) (mq6 : Nat) (mq8 : Nat) (mq22 : Nat) (p0 : Int32) (p1 : Int32) (sz : Nat)  : Met l yX24_endValue (wz yX24_endValue cX24_endValue 3 (Option.some Jvm.ClassFile.FieldType.int)) ({ frames := 2, cells := 0, slots := 0, locals := 43 }) (va_Pc [.ref mx, .int p0, .int p1] (PRE zs dC dI [(mx, .inr (15, [.ref mq1, .int 0, .int (-1), .int 0, .ref mq3, .ref mq4, .ref mq6, .ref mq8, .ref mq22])), (mq4, .inl (mc5, 0, .inr (.inr (.inr (.inr (fun _ => none))))))] [(mc5, .object RX14)] sz)) (va_Qi (fun (r : Int32) (_ : Unit) => r = 0) (fun _ t => POST dC dI [(mx, .inr (15, [.ref mq1, .int 0, .int (-1), .int 1, .ref mq3, .ref mq4, .ref mq6, .ref mq8, .ref mq22]))] [] (va_A [(mx, .inr (15, [.ref mq1, .int 0, .int (-1), .int 0, .ref mq3, .ref mq4, .ref mq6, .ref mq8, .ref mq22])), (mq4, .inl (mc5, 0, .inr (.inr (.inr (.inr (fun _ => none))))))] sz) t) (va_A [(mx, .inr (15, [.ref mq1, .int 0, .int (-1), .int 0, .ref mq3, .ref mq4, .ref mq6, .ref mq8, .ref mq22])), (mq4, .inl (mc5, 0, .inr (.inr (.inr (.inr (fun _ => none))))))] sz)) 0 0 (va_A [(mx, .inr (15, [.ref mq1, .int 0, .int (-1), .int 0, .ref mq3, .ref mq4, .ref mq6, .ref mq8, .ref mq22])), (mq4, .inl (mc5, 0, .inr (.inr (.inr (.inr (fun _ => none))))))] sz) := by
  refine Met.ofW (cc := cX24_endValue) (maxL := 3) (ret := (Option.some Jvm.ClassFile.FieldType.int)) (by decide) rfl ?_
  intro p e s m args below meth c s₁ B hml hv
  obtain ⟨rfl, hsz, hP, hK, hD0, hE⟩ := hv
  have hx := B.exec
  have hb := B.bytes
  have hr := B.returns
  have hts0 := atoms_spec (ws := wz yX24_endValue cX24_endValue 3 (Option.some Jvm.ClassFile.FieldType.int)) B.pre
  have hts : ∀ w ∈ gw, w.before _ s = true := fun w h => hts0 w (List.mem_cons_of_mem _ h)
  have hown : s.vm.findClass RX24 = some m.cls := findClass_of_methodNamed B.named
  have hlocks := B.notSynchronized
  subst hsz
  have hD := hD0.self (sz := s.heap.size)
  generalize hAe : va_A [(mx, .inr (15, [.ref mq1, .int 0, .int (-1), .int 0, .ref mq3, .ref mq4, .ref mq6, .ref mq8, .ref mq22])), (mq4, .inl (mc5, 0, .inr (.inr (.inr (.inr (fun _ => none))))))] s.heap.size = A at hD hE ⊢
  have hA : ∀ q : Nat, s.heap.size ≤ q → A q := fun q h => by rw [← hAe]; exact Or.inr h
  have hS : va_S A s.heap s.heap [] := va_S.rf
  have hP : va_P (dC, dI) cls [(mx, .inr (15, [.ref mq1, .int 0, .int (-1), .int 0, .ref mq3, .ref mq4, .ref mq6, .ref mq8, .ref mq22])), (mq4, .inl (mc5, 0, .inr (.inr (.inr (.inr (fun _ => none))))))] s.heap := hP
  have hl := lv_entry ([.ref mx, .int p0, .int p1]) (n := 3) (Nat.le_of_ble_eq_true rfl)
  rw [lg_entry_eq]
  generalize (lg_sl ([.ref mx, .int p0, .int p1]) ++ List.replicate (3 - (lg_sl ([.ref mx, .int p0, .int p1])).length) Slot.unset).toArray = ls at hl ⊢
  have hl : lv_has ls 3 [(0, .ref mx), (1, .int p0), (2, .int p1)] := hl
  refine lv_aload_n hx hb dX24_endValue_0 rfl (lv_at hl 0 rfl) ?_
  refine lv_iconst (v := 0) hx hb dX24_endValue_1 (by decide) ?_
  refine va_put (D := (dC, dI)) (ci := 15) (v := .int 0) (ty := .int) (C := RX24) (T := TX24) (N := 9) hx hb hts i_X24 tyX24 tyX24_ok nmX24 hown hK hP hD hS 0 rfl rfl 3 (by decide) (hts _ qw428) (fun _ h9 => h9) rfl (by decide +kernel) rfl rfl (Nat.le_of_ble_eq_true rfl) dX24_endValue_2 (fun H locs hP hD hS => ?_)
  have hP : va_P (dC, dI) cls [(mx, .inr (15, [.ref mq1, .int 0, .int (-1), .int 0, .ref mq3, .ref mq4, .ref mq6, .ref mq8, .ref mq22])), (mq4, .inl (mc5, 0, .inr (.inr (.inr (.inr (fun _ => none))))))] H := hP
  have hD : va_D A [(mx, .inr (15, [.ref mq1, .int 0, .int (-1), .int 0, .ref mq3, .ref mq4, .ref mq6, .ref mq8, .ref mq22])), (mq4, .inl (mc5, 0, .inr (.inr (.inr (.inr (fun _ => none))))))] := hD
  refine lv_aload_n hx hb dX24_endValue_5 rfl (lv_at hl 0 rfl) ?_
  refine lv_iload_n hx hb dX24_endValue_6 rfl (lv_at hl 1 rfl) ?_
  refine lv_iload_n hx hb dX24_endValue_7 rfl (lv_at hl 2 rfl) ?_
  have hPc := hP.sub (ws' := [(mx, .inr (15, [.ref mq1, .int 0, .int (-1), .int 0, .ref mq3, .ref mq4, .ref mq6, .ref mq8, .ref mq22])), (mq4, .inl (mc5, 0, .inr (.inr (.inr (.inr (fun _ => none))))))]) [0, 1] rfl
  have hDc := hD.sub (ws' := [(mx, .inr (15, [.ref mq1, .int 0, .int (-1), .int 0, .ref mq3, .ref mq4, .ref mq6, .ref mq8, .ref mq22])), (mq4, .inl (mc5, 0, .inr (.inr (.inr (.inr (fun _ => none))))))]) [0, 1] (by decide) rfl
  have hKc := hK.sub (tys' := [(mc5, .object RX14)]) [0] rfl
  have hFc := va_free (wc := [(mx, .inr (15, [.ref mq1, .int 0, .int (-1), .int 0, .ref mq3, .ref mq4, .ref mq6, .ref mq8, .ref mq22])), (mq4, .inl (mc5, 0, .inr (.inr (.inr (.inr (fun _ => none))))))]) hD hS hA [0, 1] rfl
  refine va_calli (va_runV (As := [.int p0, .int p1]) (rest := []) ⟨hx, hb, hml, hown, hts⟩ (kX24_isBlock_n48 l dC dI (a0 := mx) (i1 := p0) (i2 := p1) (a3 := mq1) (a4 := mq3) (a5 := mq4) (a6 := mq6) (a7 := mq8) (a8 := mq22) (k10 := mc5) (sz := _)) (cwV 2 hts (gi_V qw455 qw456 qw457 qw434 (gi_z qw454)) rfl rfl rfl (by decide +kernel) ⟨Nat.le_of_ble_eq_true rfl, Nat.le_of_ble_eq_true rfl⟩) ⟨PRE.blind, va_recv hKc hPc (ci := 15) (q0 := 0) rfl rfl, PRE.of hE hS hFc hPc hKc hDc⟩ rfl rfl hl.1 rfl (lv_room (Nat.le_of_ble_eq_true rfl)) dX24_endValue_8 ⟨Nat.le_of_ble_eq_true rfl, Nat.le_of_ble_eq_true rfl⟩) hS (fun q _ h => hFc q h) hFc (fun r1 u t H locs ht hvm hw hB hz1 hk1 hS => ?_)
  obtain ⟨hP, hD, hK⟩ := JOIN (wr := []) hP hD hK [0, 1] [] [] rfl rfl (by decide) (by decide) rfl hk1 hFc ht hvm hB
  have hP : va_P (dC, dI) cls [(mx, .inr (15, [.ref mq1, .int 0, .int (-1), .int 0, .ref mq3, .ref mq4, .ref mq6, .ref mq8, .ref mq22])), (mq4, .inl (mc5, 0, .inr (.inr (.inr (.inr (fun _ => none))))))] H := hP
  have hD : va_D A [(mx, .inr (15, [.ref mq1, .int 0, .int (-1), .int 0, .ref mq3, .ref mq4, .ref mq6, .ref mq8, .ref mq22])), (mq4, .inl (mc5, 0, .inr (.inr (.inr (.inr (fun _ => none))))))] := hD
  have hK : va_K (dC, dI) cls [(mc5, .object RX14)] s := hK
  refine W.widen (k := 0) (n := 0) (Nat.le_of_ble_eq_true rfl) (Nat.le_of_ble_eq_true rfl) ?_
  obtain rfl : r1 = 0 := hw
  refine lv_if_eq (tgt := 26) hx hb dX24_endValue_11 (by decide) (fun _ => ?_) (fun c => absurd (by decide) c)
  refine lv_aload_n hx hb dX24_endValue_26 rfl (lv_at hl 0 rfl) ?_
  refine lv_iconst (v := 1) hx hb dX24_endValue_27 (by decide) ?_
  have hPc := hP.sub (ws' := [(mx, .inr (15, [.ref mq1, .int 0, .int (-1), .int 0, .ref mq3, .ref mq4, .ref mq6, .ref mq8, .ref mq22]))]) [0] rfl
  have hDc := hD.sub (ws' := [(mx, .inr (15, [.ref mq1, .int 0, .int (-1), .int 0, .ref mq3, .ref mq4, .ref mq6, .ref mq8, .ref mq22]))]) [0] (by decide) rfl
  have hKc := hK.sub (tys' := []) [] rfl
  have hFc := va_free (wc := [(mx, .inr (15, [.ref mq1, .int 0, .int (-1), .int 0, .ref mq3, .ref mq4, .ref mq6, .ref mq8, .ref mq22]))]) hD hS hA [0] rfl
  refine va_calli (va_runV (As := [.int 1]) (rest := []) ⟨hx, hb, hml, hown, hts⟩ (kX24_no_n39 l dC dI (a0 := mx) (a1 := mq1) (a2 := mq3) (a3 := mq4) (a4 := mq6) (a5 := mq8) (a6 := mq22) (sz := _)) (cwV 1 hts (gi_V qw436 qw437 qw438 qw434 (gi_z qw435)) rfl rfl rfl (by decide +kernel) ⟨Nat.le_of_ble_eq_true rfl, Nat.le_of_ble_eq_true rfl⟩) ⟨PRE.blind, va_recv hKc hPc (ci := 15) (q0 := 0) rfl rfl, PRE.of hE hS hFc hPc hKc hDc⟩ rfl rfl hl.1 rfl (lv_room (Nat.le_of_ble_eq_true rfl)) dX24_endValue_28 ⟨Nat.le_of_ble_eq_true rfl, Nat.le_of_ble_eq_true rfl⟩) hS (fun q _ h => hFc q h) hFc (fun r2 u t H locs ht hvm hw hB hz1 hk1 hS => ?_)
  obtain ⟨hP, hD, hK⟩ := JOIN (wr := [(mq4, .inl (mc5, 0, .inr (.inr (.inr (.inr (fun _ => none))))))]) hP hD hK [0] [1] [0] rfl rfl (by decide) (by decide) rfl hk1 hFc ht hvm hB
  have hP : va_P (dC, dI) cls [(mq4, .inl (mc5, 0, .inr (.inr (.inr (.inr (fun _ => none)))))), (mx, .inr (15, [.ref mq1, .int 0, .int (-1), .int 1, .ref mq3, .ref mq4, .ref mq6, .ref mq8, .ref mq22]))] H := hP
  have hD : va_D A [(mq4, .inl (mc5, 0, .inr (.inr (.inr (.inr (fun _ => none)))))), (mx, .inr (15, [.ref mq1, .int 0, .int (-1), .int 1, .ref mq3, .ref mq4, .ref mq6, .ref mq8, .ref mq22]))] := hD
  have hK : va_K (dC, dI) cls [(mc5, .object RX14)] s := hK
  refine W.widen (k := 0) (n := 0) (Nat.le_of_ble_eq_true rfl) (Nat.le_of_ble_eq_true rfl) ?_
  obtain rfl : r2 = 0 := hw
  have hP9 : va_P (dC, dI) cls [(mx, .inr (15, [.ref mq1, .int 0, .int (-1), .int 1, .ref mq3, .ref mq4, .ref mq6, .ref mq8, .ref mq22]))] H := hP.sub [1] rfl
  have hD9 : va_D A [(mx, .inr (15, [.ref mq1, .int 0, .int (-1), .int 1, .ref mq3, .ref mq4, .ref mq6, .ref mq8, .ref mq22]))] := hD.sub [1] (by decide) rfl
  have hK9 : va_K (dC, dI) cls [] s := hK.sub [] rfl
  exact W.iret (v := 0) hx hb hr (fun t ht hW => ⟨⟨0, (), rfl, rfl, ⟨by rw [ht]; exact hP9, va_K.moved hW.alike hK9, hD9⟩⟩, hS.F ht⟩) hS.2.2 dX24_endValue_31
set_option maxHeartbeats 4000000 in
set_option maxRecDepth 100000 in
theorem kX24_phis {zs : Nat × Nat} (l : Launch) (dC : Nat → ClassId) (dI : Nat → Nat → Nat) (mx : Nat) (mq1 : Nat) (mq3 : Nat) (mq4 : Nat) (mc5 : ClassId) (mq6 : Nat) (mq8 : Nat) (mq22 : Nat) (p0 : Int32) (p1 : Int32) (sz : Nat)  : Met l yX24_phis (wz yX24_phis cX24_phis 3 (Option.some Jvm.ClassFile.FieldType.int)) ({ frames := 2, cells := 0, slots := 0, locals := 43 }) (va_Pc [.ref mx, .int p0, .int p1] (PRE zs dC dI [(mx, .inr (15, [.ref mq1, .int 0, .int (-1), .int 0, .ref mq3, .ref mq4, .ref mq6, .ref mq8, .ref mq22])), (mq4, .inl (mc5, 0, .inr (.inr (.inr (.inr (fun _ => none))))))] [(mc5, .object RX14)] sz)) (va_Qi (fun (r : Int32) (_ : Unit) => r = 0) (fun _ t => POST dC dI [(mx, .inr (15, [.ref mq1, .int 0, .int (-1), .int 1, .ref mq3, .ref mq4, .ref mq6, .ref mq8, .ref mq22]))] [] (va_A [(mx, .inr (15, [.ref mq1, .int 0, .int (-1), .int 0, .ref mq3, .ref mq4, .ref mq6, .ref mq8, .ref mq22])), (mq4, .inl (mc5, 0, .inr (.inr (.inr (.inr (fun _ => none))))))] sz) t) (va_A [(mx, .inr (15, [.ref mq1, .int 0, .int (-1), .int 0, .ref mq3, .ref mq4, .ref mq6, .ref mq8, .ref mq22])), (mq4, .inl (mc5, 0, .inr (.inr (.inr (.inr (fun _ => none))))))] sz)) 0 0 (va_A [(mx, .inr (15, [.ref mq1, .int 0, .int (-1), .int 0, .ref mq3, .ref mq4, .ref mq6, .ref mq8, .ref mq22])), (mq4, .inl (mc5, 0, .inr (.inr (.inr (.inr (fun _ => none))))))] sz) := by
  refine Met.ofW (cc := cX24_phis) (maxL := 3) (ret := (Option.some Jvm.ClassFile.FieldType.int)) (by decide) rfl ?_
  intro p e s m args below meth c s₁ B hml hv
  obtain ⟨rfl, hsz, hP, hK, hD0, hE⟩ := hv
  have hx := B.exec
  have hb := B.bytes
  have hr := B.returns
  have hts0 := atoms_spec (ws := wz yX24_phis cX24_phis 3 (Option.some Jvm.ClassFile.FieldType.int)) B.pre
  have hts : ∀ w ∈ gw, w.before _ s = true := fun w h => hts0 w (List.mem_cons_of_mem _ h)
  have hown : s.vm.findClass RX24 = some m.cls := findClass_of_methodNamed B.named
  have hlocks := B.notSynchronized
  subst hsz
  have hD := hD0.self (sz := s.heap.size)
  generalize hAe : va_A [(mx, .inr (15, [.ref mq1, .int 0, .int (-1), .int 0, .ref mq3, .ref mq4, .ref mq6, .ref mq8, .ref mq22])), (mq4, .inl (mc5, 0, .inr (.inr (.inr (.inr (fun _ => none))))))] s.heap.size = A at hD hE ⊢
  have hA : ∀ q : Nat, s.heap.size ≤ q → A q := fun q h => by rw [← hAe]; exact Or.inr h
  have hS : va_S A s.heap s.heap [] := va_S.rf
  have hP : va_P (dC, dI) cls [(mx, .inr (15, [.ref mq1, .int 0, .int (-1), .int 0, .ref mq3, .ref mq4, .ref mq6, .ref mq8, .ref mq22])), (mq4, .inl (mc5, 0, .inr (.inr (.inr (.inr (fun _ => none))))))] s.heap := hP
  have hl := lv_entry ([.ref mx, .int p0, .int p1]) (n := 3) (Nat.le_of_ble_eq_true rfl)
  rw [lg_entry_eq]
  generalize (lg_sl ([.ref mx, .int p0, .int p1]) ++ List.replicate (3 - (lg_sl ([.ref mx, .int p0, .int p1])).length) Slot.unset).toArray = ls at hl ⊢
  have hl : lv_has ls 3 [(0, .ref mx), (1, .int p0), (2, .int p1)] := hl
  refine lv_aload_n hx hb dX24_phis_0 rfl (lv_at hl 0 rfl) ?_
  refine lv_iconst (v := 0) hx hb dX24_phis_1 (by decide) ?_
  refine va_put (D := (dC, dI)) (ci := 15) (v := .int 0) (ty := .int) (C := RX24) (T := TX24) (N := 9) hx hb hts i_X24 tyX24 tyX24_ok nmX24 hown hK hP hD hS 0 rfl rfl 3 (by decide) (hts _ qw428) (fun _ h9 => h9) rfl (by decide +kernel) rfl rfl (Nat.le_of_ble_eq_true rfl) dX24_phis_2 (fun H locs hP hD hS => ?_)
  have hP : va_P (dC, dI) cls [(mx, .inr (15, [.ref mq1, .int 0, .int (-1), .int 0, .ref mq3, .ref mq4, .ref mq6, .ref mq8, .ref mq22])), (mq4, .inl (mc5, 0, .inr (.inr (.inr (.inr (fun _ => none))))))] H := hP
  have hD : va_D A [(mx, .inr (15, [.ref mq1, .int 0, .int (-1), .int 0, .ref mq3, .ref mq4, .ref mq6, .ref mq8, .ref mq22])), (mq4, .inl (mc5, 0, .inr (.inr (.inr (.inr (fun _ => none))))))] := hD
  refine lv_aload_n hx hb dX24_phis_5 rfl (lv_at hl 0 rfl) ?_
  refine lv_iload_n hx hb dX24_phis_6 rfl (lv_at hl 1 rfl) ?_
  refine lv_iload_n hx hb dX24_phis_7 rfl (lv_at hl 2 rfl) ?_
  have hPc := hP.sub (ws' := [(mx, .inr (15, [.ref mq1, .int 0, .int (-1), .int 0, .ref mq3, .ref mq4, .ref mq6, .ref mq8, .ref mq22])), (mq4, .inl (mc5, 0, .inr (.inr (.inr (.inr (fun _ => none))))))]) [0, 1] rfl
  have hDc := hD.sub (ws' := [(mx, .inr (15, [.ref mq1, .int 0, .int (-1), .int 0, .ref mq3, .ref mq4, .ref mq6, .ref mq8, .ref mq22])), (mq4, .inl (mc5, 0, .inr (.inr (.inr (.inr (fun _ => none))))))]) [0, 1] (by decide) rfl
  have hKc := hK.sub (tys' := [(mc5, .object RX14)]) [0] rfl
  have hFc := va_free (wc := [(mx, .inr (15, [.ref mq1, .int 0, .int (-1), .int 0, .ref mq3, .ref mq4, .ref mq6, .ref mq8, .ref mq22])), (mq4, .inl (mc5, 0, .inr (.inr (.inr (.inr (fun _ => none))))))]) hD hS hA [0, 1] rfl
  refine va_calli (va_runV (As := [.int p0, .int p1]) (rest := []) ⟨hx, hb, hml, hown, hts⟩ (kX24_isBlock_n48 l dC dI (a0 := mx) (i1 := p0) (i2 := p1) (a3 := mq1) (a4 := mq3) (a5 := mq4) (a6 := mq6) (a7 := mq8) (a8 := mq22) (k10 := mc5) (sz := _)) (cwV 2 hts (gi_V qw455 qw456 qw457 qw434 (gi_z qw454)) rfl rfl rfl (by decide +kernel) ⟨Nat.le_of_ble_eq_true rfl, Nat.le_of_ble_eq_true rfl⟩) ⟨PRE.blind, va_recv hKc hPc (ci := 15) (q0 := 0) rfl rfl, PRE.of hE hS hFc hPc hKc hDc⟩ rfl rfl hl.1 rfl (lv_room (Nat.le_of_ble_eq_true rfl)) dX24_phis_8 ⟨Nat.le_of_ble_eq_true rfl, Nat.le_of_ble_eq_true rfl⟩) hS (fun q _ h => hFc q h) hFc (fun r1 u t H locs ht hvm hw hB hz1 hk1 hS => ?_)
  obtain ⟨hP, hD, hK⟩ := JOIN (wr := []) hP hD hK [0, 1] [] [] rfl rfl (by decide) (by decide) rfl hk1 hFc ht hvm hB
  have hP : va_P (dC, dI) cls [(mx, .inr (15, [.ref mq1, .int 0, .int (-1), .int 0, .ref mq3, .ref mq4, .ref mq6, .ref mq8, .ref mq22])), (mq4, .inl (mc5, 0, .inr (.inr (.inr (.inr (fun _ => none))))))] H := hP
  have hD : va_D A [(mx, .inr (15, [.ref mq1, .int 0, .int (-1), .int 0, .ref mq3, .ref mq4, .ref mq6, .ref mq8, .ref mq22])), (mq4, .inl (mc5, 0, .inr (.inr (.inr (.inr (fun _ => none))))))] := hD
  have hK : va_K (dC, dI) cls [(mc5, .object RX14)] s := hK
  refine W.widen (k := 0) (n := 0) (Nat.le_of_ble_eq_true rfl) (Nat.le_of_ble_eq_true rfl) ?_
  obtain rfl : r1 = 0 := hw
  refine lv_if_eq (tgt := 26) hx hb dX24_phis_11 (by decide) (fun _ => ?_) (fun c => absurd (by decide) c)
  refine lv_aload_n hx hb dX24_phis_26 rfl (lv_at hl 0 rfl) ?_
  refine lv_iconst (v := 1) hx hb dX24_phis_27 (by decide) ?_
  have hPc := hP.sub (ws' := [(mx, .inr (15, [.ref mq1, .int 0, .int (-1), .int 0, .ref mq3, .ref mq4, .ref mq6, .ref mq8, .ref mq22]))]) [0] rfl
  have hDc := hD.sub (ws' := [(mx, .inr (15, [.ref mq1, .int 0, .int (-1), .int 0, .ref mq3, .ref mq4, .ref mq6, .ref mq8, .ref mq22]))]) [0] (by decide) rfl
  have hKc := hK.sub (tys' := []) [] rfl
  have hFc := va_free (wc := [(mx, .inr (15, [.ref mq1, .int 0, .int (-1), .int 0, .ref mq3, .ref mq4, .ref mq6, .ref mq8, .ref mq22]))]) hD hS hA [0] rfl
  refine va_calli (va_runV (As := [.int 1]) (rest := []) ⟨hx, hb, hml, hown, hts⟩ (kX24_no_n39 l dC dI (a0 := mx) (a1 := mq1) (a2 := mq3) (a3 := mq4) (a4 := mq6) (a5 := mq8) (a6 := mq22) (sz := _)) (cwV 1 hts (gi_V qw436 qw437 qw438 qw434 (gi_z qw435)) rfl rfl rfl (by decide +kernel) ⟨Nat.le_of_ble_eq_true rfl, Nat.le_of_ble_eq_true rfl⟩) ⟨PRE.blind, va_recv hKc hPc (ci := 15) (q0 := 0) rfl rfl, PRE.of hE hS hFc hPc hKc hDc⟩ rfl rfl hl.1 rfl (lv_room (Nat.le_of_ble_eq_true rfl)) dX24_phis_28 ⟨Nat.le_of_ble_eq_true rfl, Nat.le_of_ble_eq_true rfl⟩) hS (fun q _ h => hFc q h) hFc (fun r2 u t H locs ht hvm hw hB hz1 hk1 hS => ?_)
  obtain ⟨hP, hD, hK⟩ := JOIN (wr := [(mq4, .inl (mc5, 0, .inr (.inr (.inr (.inr (fun _ => none))))))]) hP hD hK [0] [1] [0] rfl rfl (by decide) (by decide) rfl hk1 hFc ht hvm hB
  have hP : va_P (dC, dI) cls [(mq4, .inl (mc5, 0, .inr (.inr (.inr (.inr (fun _ => none)))))), (mx, .inr (15, [.ref mq1, .int 0, .int (-1), .int 1, .ref mq3, .ref mq4, .ref mq6, .ref mq8, .ref mq22]))] H := hP
  have hD : va_D A [(mq4, .inl (mc5, 0, .inr (.inr (.inr (.inr (fun _ => none)))))), (mx, .inr (15, [.ref mq1, .int 0, .int (-1), .int 1, .ref mq3, .ref mq4, .ref mq6, .ref mq8, .ref mq22]))] := hD
  have hK : va_K (dC, dI) cls [(mc5, .object RX14)] s := hK
  refine W.widen (k := 0) (n := 0) (Nat.le_of_ble_eq_true rfl) (Nat.le_of_ble_eq_true rfl) ?_
  obtain rfl : r2 = 0 := hw
  have hP9 : va_P (dC, dI) cls [(mx, .inr (15, [.ref mq1, .int 0, .int (-1), .int 1, .ref mq3, .ref mq4, .ref mq6, .ref mq8, .ref mq22]))] H := hP.sub [1] rfl
  have hD9 : va_D A [(mx, .inr (15, [.ref mq1, .int 0, .int (-1), .int 1, .ref mq3, .ref mq4, .ref mq6, .ref mq8, .ref mq22]))] := hD.sub [1] (by decide) rfl
  have hK9 : va_K (dC, dI) cls [] s := hK.sub [] rfl
  exact W.iret (v := 0) hx hb hr (fun t ht hW => ⟨⟨0, (), rfl, rfl, ⟨by rw [ht]; exact hP9, va_K.moved hW.alike hK9, hD9⟩⟩, hS.F ht⟩) hS.2.2 dX24_phis_31
set_option maxHeartbeats 4000000 in
set_option maxRecDepth 100000 in
/-- GearboxModel.isPhi, from the state that its caller has -/
theorem kX24_isPhi_n50 {zs : Nat × Nat} (l : Launch) (dC : Nat → ClassId) (dI : Nat → Nat → Nat) (a0 : Nat) (i1 : Int32) (i2 : Int32) (i3 : Int32) (a4 : Nat) (a5 : Nat) (a6 : Nat) (a7 : Nat) (a8 : Nat) (a9 : Nat) (k11 : ClassId) (sz : Nat)  : Met l yX24_isPhi (wz yX24_isPhi cX24_isPhi 4 (Option.some Jvm.ClassFile.FieldType.boolean)) ({ frames := 2, cells := 0, slots := 0, locals := 43 }) (va_Pc [.ref a0, .int i1, .int i2, .int i3] (PRE zs dC dI [(a0, .inr (15, [.ref a4, .int 0, .int (-1), .int 0, .ref a5, .ref a6, .ref a7, .ref a8, .ref a9])), (a6, .inl (k11, 0, .inr (.inr (.inr (.inr (fun _ => none))))))] [(k11, .object RX14)] sz)) (va_Qi (fun (r : Int32) (_ : Unit) => r = 0) (fun _ t => POST dC dI [(a0, .inr (15, [.ref a4, .int 0, .int (-1), .int 0, .ref a5, .ref a6, .ref a7, .ref a8, .ref a9])), (a6, .inl (k11, 0, .inr (.inr (.inr (.inr (fun _ => none))))))] [(k11, .object RX14)] (va_A [(a0, .inr (15, [.ref a4, .int 0, .int (-1), .int 0, .ref a5, .ref a6, .ref a7, .ref a8, .ref a9])), (a6, .inl (k11, 0, .inr (.inr (.inr (.inr (fun _ => none))))))] sz) t) (va_A [(a0, .inr (15, [.ref a4, .int 0, .int (-1), .int 0, .ref a5, .ref a6, .ref a7, .ref a8, .ref a9])), (a6, .inl (k11, 0, .inr (.inr (.inr (.inr (fun _ => none))))))] sz)) 0 0 (va_A [(a0, .inr (15, [.ref a4, .int 0, .int (-1), .int 0, .ref a5, .ref a6, .ref a7, .ref a8, .ref a9])), (a6, .inl (k11, 0, .inr (.inr (.inr (.inr (fun _ => none))))))] sz) := by
  refine Met.ofW (cc := cX24_isPhi) (maxL := 4) (ret := (Option.some Jvm.ClassFile.FieldType.boolean)) (by decide) rfl ?_
  intro p e s m args below meth c s₁ B hml hv
  obtain ⟨rfl, hsz, hP, hK, hD0, hE⟩ := hv
  have hx := B.exec
  have hb := B.bytes
  have hr := B.returns
  have hts0 := atoms_spec (ws := wz yX24_isPhi cX24_isPhi 4 (Option.some Jvm.ClassFile.FieldType.boolean)) B.pre
  have hts : ∀ w ∈ gw, w.before _ s = true := fun w h => hts0 w (List.mem_cons_of_mem _ h)
  have hown : s.vm.findClass RX24 = some m.cls := findClass_of_methodNamed B.named
  have hlocks := B.notSynchronized
  subst hsz
  have hD := hD0.self (sz := s.heap.size)
  generalize hAe : va_A [(a0, .inr (15, [.ref a4, .int 0, .int (-1), .int 0, .ref a5, .ref a6, .ref a7, .ref a8, .ref a9])), (a6, .inl (k11, 0, .inr (.inr (.inr (.inr (fun _ => none))))))] s.heap.size = A at hD hE ⊢
  have hA : ∀ q : Nat, s.heap.size ≤ q → A q := fun q h => by rw [← hAe]; exact Or.inr h
  have hS : va_S A s.heap s.heap [] := va_S.rf
  have hP : va_P (dC, dI) cls [(a0, .inr (15, [.ref a4, .int 0, .int (-1), .int 0, .ref a5, .ref a6, .ref a7, .ref a8, .ref a9])), (a6, .inl (k11, 0, .inr (.inr (.inr (.inr (fun _ => none))))))] s.heap := hP
  have hl := lv_entry ([.ref a0, .int i1, .int i2, .int i3]) (n := 4) (Nat.le_of_ble_eq_true rfl)
  rw [lg_entry_eq]
  generalize (lg_sl ([.ref a0, .int i1, .int i2, .int i3]) ++ List.replicate (4 - (lg_sl ([.ref a0, .int i1, .int i2, .int i3])).length) Slot.unset).toArray = ls at hl ⊢
  have hl : lv_has ls 4 [(0, .ref a0), (1, .int i1), (2, .int i2), (3, .int i3)] := hl
  refine lv_aload_n hx hb dX24_isPhi_0 rfl (lv_at hl 0 rfl) ?_
  refine lv_iload_n hx hb dX24_isPhi_1 rfl (lv_at hl 1 rfl) ?_
  refine lv_iload_n hx hb dX24_isPhi_2 rfl (lv_at hl 2 rfl) ?_
  have hPc := hP.sub (ws' := [(a0, .inr (15, [.ref a4, .int 0, .int (-1), .int 0, .ref a5, .ref a6, .ref a7, .ref a8, .ref a9])), (a6, .inl (k11, 0, .inr (.inr (.inr (.inr (fun _ => none))))))]) [0, 1] rfl
  have hDc := hD.sub (ws' := [(a0, .inr (15, [.ref a4, .int 0, .int (-1), .int 0, .ref a5, .ref a6, .ref a7, .ref a8, .ref a9])), (a6, .inl (k11, 0, .inr (.inr (.inr (.inr (fun _ => none))))))]) [0, 1] (by decide) rfl
  have hKc := hK.sub (tys' := [(k11, .object RX14)]) [0] rfl
  have hFc := va_free (wc := [(a0, .inr (15, [.ref a4, .int 0, .int (-1), .int 0, .ref a5, .ref a6, .ref a7, .ref a8, .ref a9])), (a6, .inl (k11, 0, .inr (.inr (.inr (.inr (fun _ => none))))))]) hD hS hA [0, 1] rfl
  refine va_calli (va_runV (As := [.int i1, .int i2]) (rest := []) ⟨hx, hb, hml, hown, hts⟩ (kX24_isBlock_n48 l dC dI (a0 := a0) (i1 := i1) (i2 := i2) (a3 := a4) (a4 := a5) (a5 := a6) (a6 := a7) (a7 := a8) (a8 := a9) (k10 := k11) (sz := _)) (cwV 2 hts (gi_V qw455 qw456 qw457 qw434 (gi_z qw454)) rfl rfl rfl (by decide +kernel) ⟨Nat.le_of_ble_eq_true rfl, Nat.le_of_ble_eq_true rfl⟩) ⟨PRE.blind, va_recv hKc hPc (ci := 15) (q0 := 0) rfl rfl, PRE.of hE hS hFc hPc hKc hDc⟩ rfl rfl hl.1 rfl (lv_room (Nat.le_of_ble_eq_true rfl)) dX24_isPhi_3 ⟨Nat.le_of_ble_eq_true rfl, Nat.le_of_ble_eq_true rfl⟩) hS (fun q _ h => hFc q h) hFc (fun r1 u t H locs ht hvm hw hB hz1 hk1 hS => ?_)
  obtain ⟨hP, hD, hK⟩ := JOIN (wr := []) hP hD hK [0, 1] [] [] rfl rfl (by decide) (by decide) rfl hk1 hFc ht hvm hB
  have hP : va_P (dC, dI) cls [(a0, .inr (15, [.ref a4, .int 0, .int (-1), .int 0, .ref a5, .ref a6, .ref a7, .ref a8, .ref a9])), (a6, .inl (k11, 0, .inr (.inr (.inr (.inr (fun _ => none))))))] H := hP
  have hD : va_D A [(a0, .inr (15, [.ref a4, .int 0, .int (-1), .int 0, .ref a5, .ref a6, .ref a7, .ref a8, .ref a9])), (a6, .inl (k11, 0, .inr (.inr (.inr (.inr (fun _ => none))))))] := hD
  have hK : va_K (dC, dI) cls [(k11, .object RX14)] s := hK
  refine W.widen (k := 0) (n := 0) (Nat.le_of_ble_eq_true rfl) (Nat.le_of_ble_eq_true rfl) ?_
  obtain rfl : r1 = 0 := hw
  refine lv_if_eq (tgt := 30) hx hb dX24_isPhi_6 (by decide) (fun _ => ?_) (fun c => absurd (by decide) c)
  refine lv_iconst (v := 0) hx hb dX24_isPhi_30 (by decide) ?_
  have hP9 : va_P (dC, dI) cls [(a0, .inr (15, [.ref a4, .int 0, .int (-1), .int 0, .ref a5, .ref a6, .ref a7, .ref a8, .ref a9])), (a6, .inl (k11, 0, .inr (.inr (.inr (.inr (fun _ => none))))))] H := hP.sub [0, 1] rfl
  have hD9 : va_D A [(a0, .inr (15, [.ref a4, .int 0, .int (-1), .int 0, .ref a5, .ref a6, .ref a7, .ref a8, .ref a9])), (a6, .inl (k11, 0, .inr (.inr (.inr (.inr (fun _ => none))))))] := hD.sub [0, 1] (by decide) rfl
  have hK9 : va_K (dC, dI) cls [(k11, .object RX14)] s := hK.sub [0] rfl
  exact W.zret (v := 0) hx hb hr (by decide) (fun t ht hW => ⟨⟨0, (), rfl, rfl, ⟨by rw [ht]; exact hP9, va_K.moved hW.alike hK9, hD9⟩⟩, hS.F ht⟩) hS.2.2 dX24_isPhi_31
set_option maxHeartbeats 4000000 in
set_option maxRecDepth 100000 in
theorem kX24_phiGives {zs : Nat × Nat} (l : Launch) (dC : Nat → ClassId) (dI : Nat → Nat → Nat) (mx : Nat) (mq1 : Nat) (mq3 : Nat) (mq4 : Nat) (mc5 : ClassId) (mq6 : Nat) (mq8 : Nat) (mq22 : Nat) (p0 : Int32) (p1 : Int32) (p2 : Int32) (sz : Nat)  : Met l yX24_phiGives (wz yX24_phiGives cX24_phiGives 4 (Option.some Jvm.ClassFile.FieldType.int)) ({ frames := 3, cells := 0, slots := 0, locals := 66 }) (va_Pc [.ref mx, .int p0, .int p1, .int p2] (PRE zs dC dI [(mx, .inr (15, [.ref mq1, .int 0, .int (-1), .int 0, .ref mq3, .ref mq4, .ref mq6, .ref mq8, .ref mq22])), (mq4, .inl (mc5, 0, .inr (.inr (.inr (.inr (fun _ => none))))))] [(mc5, .object RX14)] sz)) (va_Qi (fun (r : Int32) (_ : Unit) => r = 0) (fun _ t => POST dC dI [(mx, .inr (15, [.ref mq1, .int 0, .int (-1), .int 1, .ref mq3, .ref mq4, .ref mq6, .ref mq8, .ref mq22]))] [] (va_A [(mx, .inr (15, [.ref mq1, .int 0, .int (-1), .int 0, .ref mq3, .ref mq4, .ref mq6, .ref mq8, .ref mq22])), (mq4, .inl (mc5, 0, .inr (.inr (.inr (.inr (fun _ => none))))))] sz) t) (va_A [(mx, .inr (15, [.ref mq1, .int 0, .int (-1), .int 0, .ref mq3, .ref mq4, .ref mq6, .ref mq8, .ref mq22])), (mq4, .inl (mc5, 0, .inr (.inr (.inr (.inr (fun _ => none))))))] sz)) 0 0 (va_A [(mx, .inr (15, [.ref mq1, .int 0, .int (-1), .int 0, .ref mq3, .ref mq4, .ref mq6, .ref mq8, .ref mq22])), (mq4, .inl (mc5, 0, .inr (.inr (.inr (.inr (fun _ => none))))))] sz) := by
  refine Met.ofW (cc := cX24_phiGives) (maxL := 4) (ret := (Option.some Jvm.ClassFile.FieldType.int)) (by decide) rfl ?_
  intro p e s m args below meth c s₁ B hml hv
  obtain ⟨rfl, hsz, hP, hK, hD0, hE⟩ := hv
  have hx := B.exec
  have hb := B.bytes
  have hr := B.returns
  have hts0 := atoms_spec (ws := wz yX24_phiGives cX24_phiGives 4 (Option.some Jvm.ClassFile.FieldType.int)) B.pre
  have hts : ∀ w ∈ gw, w.before _ s = true := fun w h => hts0 w (List.mem_cons_of_mem _ h)
  have hown : s.vm.findClass RX24 = some m.cls := findClass_of_methodNamed B.named
  have hlocks := B.notSynchronized
  subst hsz
  have hD := hD0.self (sz := s.heap.size)
  generalize hAe : va_A [(mx, .inr (15, [.ref mq1, .int 0, .int (-1), .int 0, .ref mq3, .ref mq4, .ref mq6, .ref mq8, .ref mq22])), (mq4, .inl (mc5, 0, .inr (.inr (.inr (.inr (fun _ => none))))))] s.heap.size = A at hD hE ⊢
  have hA : ∀ q : Nat, s.heap.size ≤ q → A q := fun q h => by rw [← hAe]; exact Or.inr h
  have hS : va_S A s.heap s.heap [] := va_S.rf
  have hP : va_P (dC, dI) cls [(mx, .inr (15, [.ref mq1, .int 0, .int (-1), .int 0, .ref mq3, .ref mq4, .ref mq6, .ref mq8, .ref mq22])), (mq4, .inl (mc5, 0, .inr (.inr (.inr (.inr (fun _ => none))))))] s.heap := hP
  have hl := lv_entry ([.ref mx, .int p0, .int p1, .int p2]) (n := 4) (Nat.le_of_ble_eq_true rfl)
  rw [lg_entry_eq]
  generalize (lg_sl ([.ref mx, .int p0, .int p1, .int p2]) ++ List.replicate (4 - (lg_sl ([.ref mx, .int p0, .int p1, .int p2])).length) Slot.unset).toArray = ls at hl ⊢
  have hl : lv_has ls 4 [(0, .ref mx), (1, .int p0), (2, .int p1), (3, .int p2)] := hl
  refine lv_aload_n hx hb dX24_phiGives_0 rfl (lv_at hl 0 rfl) ?_
  refine lv_iconst (v := 0) hx hb dX24_phiGives_1 (by decide) ?_
  refine va_put (D := (dC, dI)) (ci := 15) (v := .int 0) (ty := .int) (C := RX24) (T := TX24) (N := 9) hx hb hts i_X24 tyX24 tyX24_ok nmX24 hown hK hP hD hS 0 rfl rfl 3 (by decide) (hts _ qw428) (fun _ h9 => h9) rfl (by decide +kernel) rfl rfl (Nat.le_of_ble_eq_true rfl) dX24_phiGives_2 (fun H locs hP hD hS => ?_)
  have hP : va_P (dC, dI) cls [(mx, .inr (15, [.ref mq1, .int 0, .int (-1), .int 0, .ref mq3, .ref mq4, .ref mq6, .ref mq8, .ref mq22])), (mq4, .inl (mc5, 0, .inr (.inr (.inr (.inr (fun _ => none))))))] H := hP
  have hD : va_D A [(mx, .inr (15, [.ref mq1, .int 0, .int (-1), .int 0, .ref mq3, .ref mq4, .ref mq6, .ref mq8, .ref mq22])), (mq4, .inl (mc5, 0, .inr (.inr (.inr (.inr (fun _ => none))))))] := hD
  refine lv_aload_n hx hb dX24_phiGives_5 rfl (lv_at hl 0 rfl) ?_
  refine lv_iload_n hx hb dX24_phiGives_6 rfl (lv_at hl 1 rfl) ?_
  refine lv_iload_n hx hb dX24_phiGives_7 rfl (lv_at hl 2 rfl) ?_
  refine lv_iload_n hx hb dX24_phiGives_8 rfl (lv_at hl 3 rfl) ?_
  have hPc := hP.sub (ws' := [(mx, .inr (15, [.ref mq1, .int 0, .int (-1), .int 0, .ref mq3, .ref mq4, .ref mq6, .ref mq8, .ref mq22])), (mq4, .inl (mc5, 0, .inr (.inr (.inr (.inr (fun _ => none))))))]) [0, 1] rfl
  have hDc := hD.sub (ws' := [(mx, .inr (15, [.ref mq1, .int 0, .int (-1), .int 0, .ref mq3, .ref mq4, .ref mq6, .ref mq8, .ref mq22])), (mq4, .inl (mc5, 0, .inr (.inr (.inr (.inr (fun _ => none))))))]) [0, 1] (by decide) rfl
  have hKc := hK.sub (tys' := [(mc5, .object RX14)]) [0] rfl
  have hFc := va_free (wc := [(mx, .inr (15, [.ref mq1, .int 0, .int (-1), .int 0, .ref mq3, .ref mq4, .ref mq6, .ref mq8, .ref mq22])), (mq4, .inl (mc5, 0, .inr (.inr (.inr (.inr (fun _ => none))))))]) hD hS hA [0, 1] rfl
  refine va_calli (va_runV (As := [.int p0, .int p1, .int p2]) (rest := []) ⟨hx, hb, hml, hown, hts⟩ (kX24_isPhi_n50 l dC dI (a0 := mx) (i1 := p0) (i2 := p1) (i3 := p2) (a4 := mq1) (a5 := mq3) (a6 := mq4) (a7 := mq6) (a8 := mq8) (a9 := mq22) (k11 := mc5) (sz := _)) (cwV 3 hts (gi_V qw463 qw464 qw465 qw434 (gi_z qw462)) rfl rfl rfl (by decide +kernel) ⟨Nat.le_of_ble_eq_true rfl, Nat.le_of_ble_eq_true rfl⟩) ⟨PRE.blind, va_recv hKc hPc (ci := 15) (q0 := 0) rfl rfl, PRE.of hE hS hFc hPc hKc hDc⟩ rfl rfl hl.1 rfl (lv_room (Nat.le_of_ble_eq_true rfl)) dX24_phiGives_9 ⟨Nat.le_of_ble_eq_true rfl, Nat.le_of_ble_eq_true rfl⟩) hS (fun q _ h => hFc q h) hFc (fun r1 u t H locs ht hvm hw hB hz1 hk1 hS => ?_)
  obtain ⟨hP, hD, hK⟩ := JOIN (wr := []) hP hD hK [0, 1] [] [] rfl rfl (by decide) (by decide) rfl hk1 hFc ht hvm hB
  have hP : va_P (dC, dI) cls [(mx, .inr (15, [.ref mq1, .int 0, .int (-1), .int 0, .ref mq3, .ref mq4, .ref mq6, .ref mq8, .ref mq22])), (mq4, .inl (mc5, 0, .inr (.inr (.inr (.inr (fun _ => none))))))] H := hP
  have hD : va_D A [(mx, .inr (15, [.ref mq1, .int 0, .int (-1), .int 0, .ref mq3, .ref mq4, .ref mq6, .ref mq8, .ref mq22])), (mq4, .inl (mc5, 0, .inr (.inr (.inr (.inr (fun _ => none))))))] := hD
  have hK : va_K (dC, dI) cls [(mc5, .object RX14)] s := hK
  refine W.widen (k := 0) (n := 0) (Nat.le_of_ble_eq_true rfl) (Nat.le_of_ble_eq_true rfl) ?_
  obtain rfl : r1 = 0 := hw
  refine lv_if_eq (tgt := 32) hx hb dX24_phiGives_12 (by decide) (fun _ => ?_) (fun c => absurd (by decide) c)
  refine lv_aload_n hx hb dX24_phiGives_32 rfl (lv_at hl 0 rfl) ?_
  refine lv_iconst (v := 1) hx hb dX24_phiGives_33 (by decide) ?_
  have hPc := hP.sub (ws' := [(mx, .inr (15, [.ref mq1, .int 0, .int (-1), .int 0, .ref mq3, .ref mq4, .ref mq6, .ref mq8, .ref mq22]))]) [0] rfl
  have hDc := hD.sub (ws' := [(mx, .inr (15, [.ref mq1, .int 0, .int (-1), .int 0, .ref mq3, .ref mq4, .ref mq6, .ref mq8, .ref mq22]))]) [0] (by decide) rfl
  have hKc := hK.sub (tys' := []) [] rfl
  have hFc := va_free (wc := [(mx, .inr (15, [.ref mq1, .int 0, .int (-1), .int 0, .ref mq3, .ref mq4, .ref mq6, .ref mq8, .ref mq22]))]) hD hS hA [0] rfl
  refine va_calli (va_runV (As := [.int 1]) (rest := []) ⟨hx, hb, hml, hown, hts⟩ (kX24_no_n39 l dC dI (a0 := mx) (a1 := mq1) (a2 := mq3) (a3 := mq4) (a4 := mq6) (a5 := mq8) (a6 := mq22) (sz := _)) (cwV 1 hts (gi_V qw436 qw437 qw438 qw434 (gi_z qw435)) rfl rfl rfl (by decide +kernel) ⟨Nat.le_of_ble_eq_true rfl, Nat.le_of_ble_eq_true rfl⟩) ⟨PRE.blind, va_recv hKc hPc (ci := 15) (q0 := 0) rfl rfl, PRE.of hE hS hFc hPc hKc hDc⟩ rfl rfl hl.1 rfl (lv_room (Nat.le_of_ble_eq_true rfl)) dX24_phiGives_34 ⟨Nat.le_of_ble_eq_true rfl, Nat.le_of_ble_eq_true rfl⟩) hS (fun q _ h => hFc q h) hFc (fun r2 u t H locs ht hvm hw hB hz1 hk1 hS => ?_)
  obtain ⟨hP, hD, hK⟩ := JOIN (wr := [(mq4, .inl (mc5, 0, .inr (.inr (.inr (.inr (fun _ => none))))))]) hP hD hK [0] [1] [0] rfl rfl (by decide) (by decide) rfl hk1 hFc ht hvm hB
  have hP : va_P (dC, dI) cls [(mq4, .inl (mc5, 0, .inr (.inr (.inr (.inr (fun _ => none)))))), (mx, .inr (15, [.ref mq1, .int 0, .int (-1), .int 1, .ref mq3, .ref mq4, .ref mq6, .ref mq8, .ref mq22]))] H := hP
  have hD : va_D A [(mq4, .inl (mc5, 0, .inr (.inr (.inr (.inr (fun _ => none)))))), (mx, .inr (15, [.ref mq1, .int 0, .int (-1), .int 1, .ref mq3, .ref mq4, .ref mq6, .ref mq8, .ref mq22]))] := hD
  have hK : va_K (dC, dI) cls [(mc5, .object RX14)] s := hK
  refine W.widen (k := 0) (n := 0) (Nat.le_of_ble_eq_true rfl) (Nat.le_of_ble_eq_true rfl) ?_
  obtain rfl : r2 = 0 := hw
  have hP9 : va_P (dC, dI) cls [(mx, .inr (15, [.ref mq1, .int 0, .int (-1), .int 1, .ref mq3, .ref mq4, .ref mq6, .ref mq8, .ref mq22]))] H := hP.sub [1] rfl
  have hD9 : va_D A [(mx, .inr (15, [.ref mq1, .int 0, .int (-1), .int 1, .ref mq3, .ref mq4, .ref mq6, .ref mq8, .ref mq22]))] := hD.sub [1] (by decide) rfl
  have hK9 : va_K (dC, dI) cls [] s := hK.sub [] rfl
  exact W.iret (v := 0) hx hb hr (fun t ht hW => ⟨⟨0, (), rfl, rfl, ⟨by rw [ht]; exact hP9, va_K.moved hW.alike hK9, hD9⟩⟩, hS.F ht⟩) hS.2.2 dX24_phiGives_37
set_option maxHeartbeats 4000000 in
set_option maxRecDepth 100000 in
theorem kX24_phiTakes {zs : Nat × Nat} (l : Launch) (dC : Nat → ClassId) (dI : Nat → Nat → Nat) (mx : Nat) (mq1 : Nat) (mq3 : Nat) (mq4 : Nat) (mc5 : ClassId) (mq6 : Nat) (mq8 : Nat) (mq22 : Nat) (p0 : Int32) (p1 : Int32) (p2 : Int32) (p3 : Int32) (sz : Nat)  : Met l yX24_phiTakes (wz yX24_phiTakes cX24_phiTakes 6 (Option.some Jvm.ClassFile.FieldType.int)) ({ frames := 3, cells := 0, slots := 0, locals := 66 }) (va_Pc [.ref mx, .int p0, .int p1, .int p2, .int p3] (PRE zs dC dI [(mx, .inr (15, [.ref mq1, .int 0, .int (-1), .int 0, .ref mq3, .ref mq4, .ref mq6, .ref mq8, .ref mq22])), (mq4, .inl (mc5, 0, .inr (.inr (.inr (.inr (fun _ => none))))))] [(mc5, .object RX14)] sz)) (va_Qi (fun (r : Int32) (_ : Unit) => r = 0) (fun _ t => POST dC dI [(mx, .inr (15, [.ref mq1, .int 0, .int (-1), .int 1, .ref mq3, .ref mq4, .ref mq6, .ref mq8, .ref mq22]))] [] (va_A [(mx, .inr (15, [.ref mq1, .int 0, .int (-1), .int 0, .ref mq3, .ref mq4, .ref mq6, .ref mq8, .ref mq22])), (mq4, .inl (mc5, 0, .inr (.inr (.inr (.inr (fun _ => none))))))] sz) t) (va_A [(mx, .inr (15, [.ref mq1, .int 0, .int (-1), .int 0, .ref mq3, .ref mq4, .ref mq6, .ref mq8, .ref mq22])), (mq4, .inl (mc5, 0, .inr (.inr (.inr (.inr (fun _ => none))))))] sz)) 0 0 (va_A [(mx, .inr (15, [.ref mq1, .int 0, .int (-1), .int 0, .ref mq3, .ref mq4, .ref mq6, .ref mq8, .ref mq22])), (mq4, .inl (mc5, 0, .inr (.inr (.inr (.inr (fun _ => none))))))] sz) := by
  refine Met.ofW (cc := cX24_phiTakes) (maxL := 6) (ret := (Option.some Jvm.ClassFile.FieldType.int)) (by decide) rfl ?_
  intro p e s m args below meth c s₁ B hml hv
  obtain ⟨rfl, hsz, hP, hK, hD0, hE⟩ := hv
  have hx := B.exec
  have hb := B.bytes
  have hr := B.returns
  have hts0 := atoms_spec (ws := wz yX24_phiTakes cX24_phiTakes 6 (Option.some Jvm.ClassFile.FieldType.int)) B.pre
  have hts : ∀ w ∈ gw, w.before _ s = true := fun w h => hts0 w (List.mem_cons_of_mem _ h)
  have hown : s.vm.findClass RX24 = some m.cls := findClass_of_methodNamed B.named
  have hlocks := B.notSynchronized
  subst hsz
  have hD := hD0.self (sz := s.heap.size)
  generalize hAe : va_A [(mx, .inr (15, [.ref mq1, .int 0, .int (-1), .int 0, .ref mq3, .ref mq4, .ref mq6, .ref mq8, .ref mq22])), (mq4, .inl (mc5, 0, .inr (.inr (.inr (.inr (fun _ => none))))))] s.heap.size = A at hD hE ⊢
  have hA : ∀ q : Nat, s.heap.size ≤ q → A q := fun q h => by rw [← hAe]; exact Or.inr h
  have hS : va_S A s.heap s.heap [] := va_S.rf
  have hP : va_P (dC, dI) cls [(mx, .inr (15, [.ref mq1, .int 0, .int (-1), .int 0, .ref mq3, .ref mq4, .ref mq6, .ref mq8, .ref mq22])), (mq4, .inl (mc5, 0, .inr (.inr (.inr (.inr (fun _ => none))))))] s.heap := hP
  have hl := lv_entry ([.ref mx, .int p0, .int p1, .int p2, .int p3]) (n := 6) (Nat.le_of_ble_eq_true rfl)
  rw [lg_entry_eq]
  generalize (lg_sl ([.ref mx, .int p0, .int p1, .int p2, .int p3]) ++ List.replicate (6 - (lg_sl ([.ref mx, .int p0, .int p1, .int p2, .int p3])).length) Slot.unset).toArray = ls at hl ⊢
  have hl : lv_has ls 6 [(0, .ref mx), (1, .int p0), (2, .int p1), (3, .int p2), (4, .int p3)] := hl
  refine lv_aload_n hx hb dX24_phiTakes_0 rfl (lv_at hl 0 rfl) ?_
  refine lv_iconst (v := 0) hx hb dX24_phiTakes_1 (by decide) ?_
  refine va_put (D := (dC, dI)) (ci := 15) (v := .int 0) (ty := .int) (C := RX24) (T := TX24) (N := 9) hx hb hts i_X24 tyX24 tyX24_ok nmX24 hown hK hP hD hS 0 rfl rfl 3 (by decide) (hts _ qw428) (fun _ h9 => h9) rfl (by decide +kernel) rfl rfl (Nat.le_of_ble_eq_true rfl) dX24_phiTakes_2 (fun H locs hP hD hS => ?_)
  have hP : va_P (dC, dI) cls [(mx, .inr (15, [.ref mq1, .int 0, .int (-1), .int 0, .ref mq3, .ref mq4, .ref mq6, .ref mq8, .ref mq22])), (mq4, .inl (mc5, 0, .inr (.inr (.inr (.inr (fun _ => none))))))] H := hP
  have hD : va_D A [(mx, .inr (15, [.ref mq1, .int 0, .int (-1), .int 0, .ref mq3, .ref mq4, .ref mq6, .ref mq8, .ref mq22])), (mq4, .inl (mc5, 0, .inr (.inr (.inr (.inr (fun _ => none))))))] := hD
  refine lv_aload_n hx hb dX24_phiTakes_5 rfl (lv_at hl 0 rfl) ?_
  refine lv_iload_n hx hb dX24_phiTakes_6 rfl (lv_at hl 1 rfl) ?_
  refine lv_iload_n hx hb dX24_phiTakes_7 rfl (lv_at hl 2 rfl) ?_
  refine lv_iload_n hx hb dX24_phiTakes_8 rfl (lv_at hl 3 rfl) ?_
  have hPc := hP.sub (ws' := [(mx, .inr (15, [.ref mq1, .int 0, .int (-1), .int 0, .ref mq3, .ref mq4, .ref mq6, .ref mq8, .ref mq22])), (mq4, .inl (mc5, 0, .inr (.inr (.inr (.inr (fun _ => none))))))]) [0, 1] rfl
  have hDc := hD.sub (ws' := [(mx, .inr (15, [.ref mq1, .int 0, .int (-1), .int 0, .ref mq3, .ref mq4, .ref mq6, .ref mq8, .ref mq22])), (mq4, .inl (mc5, 0, .inr (.inr (.inr (.inr (fun _ => none))))))]) [0, 1] (by decide) rfl
  have hKc := hK.sub (tys' := [(mc5, .object RX14)]) [0] rfl
  have hFc := va_free (wc := [(mx, .inr (15, [.ref mq1, .int 0, .int (-1), .int 0, .ref mq3, .ref mq4, .ref mq6, .ref mq8, .ref mq22])), (mq4, .inl (mc5, 0, .inr (.inr (.inr (.inr (fun _ => none))))))]) hD hS hA [0, 1] rfl
  refine va_calli (va_runV (As := [.int p0, .int p1, .int p2]) (rest := []) ⟨hx, hb, hml, hown, hts⟩ (kX24_isPhi_n50 l dC dI (a0 := mx) (i1 := p0) (i2 := p1) (i3 := p2) (a4 := mq1) (a5 := mq3) (a6 := mq4) (a7 := mq6) (a8 := mq8) (a9 := mq22) (k11 := mc5) (sz := _)) (cwV 3 hts (gi_V qw463 qw464 qw465 qw434 (gi_z qw462)) rfl rfl rfl (by decide +kernel) ⟨Nat.le_of_ble_eq_true rfl, Nat.le_of_ble_eq_true rfl⟩) ⟨PRE.blind, va_recv hKc hPc (ci := 15) (q0 := 0) rfl rfl, PRE.of hE hS hFc hPc hKc hDc⟩ rfl rfl hl.1 rfl (lv_room (Nat.le_of_ble_eq_true rfl)) dX24_phiTakes_9 ⟨Nat.le_of_ble_eq_true rfl, Nat.le_of_ble_eq_true rfl⟩) hS (fun q _ h => hFc q h) hFc (fun r1 u t H locs ht hvm hw hB hz1 hk1 hS => ?_)
  obtain ⟨hP, hD, hK⟩ := JOIN (wr := []) hP hD hK [0, 1] [] [] rfl rfl (by decide) (by decide) rfl hk1 hFc ht hvm hB
  have hP : va_P (dC, dI) cls [(mx, .inr (15, [.ref mq1, .int 0, .int (-1), .int 0, .ref mq3, .ref mq4, .ref mq6, .ref mq8, .ref mq22])), (mq4, .inl (mc5, 0, .inr (.inr (.inr (.inr (fun _ => none))))))] H := hP
  have hD : va_D A [(mx, .inr (15, [.ref mq1, .int 0, .int (-1), .int 0, .ref mq3, .ref mq4, .ref mq6, .ref mq8, .ref mq22])), (mq4, .inl (mc5, 0, .inr (.inr (.inr (.inr (fun _ => none))))))] := hD
  have hK : va_K (dC, dI) cls [(mc5, .object RX14)] s := hK
  refine W.widen (k := 0) (n := 0) (Nat.le_of_ble_eq_true rfl) (Nat.le_of_ble_eq_true rfl) ?_
  obtain rfl : r1 = 0 := hw
  refine lv_if_eq (tgt := 26) hx hb dX24_phiTakes_12 (by decide) (fun _ => ?_) (fun c => absurd (by decide) c)
  refine lv_aload_n hx hb dX24_phiTakes_26 rfl (lv_at hl 0 rfl) ?_
  refine lv_iconst (v := 1) hx hb dX24_phiTakes_27 (by decide) ?_
  have hPc := hP.sub (ws' := [(mx, .inr (15, [.ref mq1, .int 0, .int (-1), .int 0, .ref mq3, .ref mq4, .ref mq6, .ref mq8, .ref mq22]))]) [0] rfl
  have hDc := hD.sub (ws' := [(mx, .inr (15, [.ref mq1, .int 0, .int (-1), .int 0, .ref mq3, .ref mq4, .ref mq6, .ref mq8, .ref mq22]))]) [0] (by decide) rfl
  have hKc := hK.sub (tys' := []) [] rfl
  have hFc := va_free (wc := [(mx, .inr (15, [.ref mq1, .int 0, .int (-1), .int 0, .ref mq3, .ref mq4, .ref mq6, .ref mq8, .ref mq22]))]) hD hS hA [0] rfl
  refine va_calli (va_runV (As := [.int 1]) (rest := []) ⟨hx, hb, hml, hown, hts⟩ (kX24_no_n39 l dC dI (a0 := mx) (a1 := mq1) (a2 := mq3) (a3 := mq4) (a4 := mq6) (a5 := mq8) (a6 := mq22) (sz := _)) (cwV 1 hts (gi_V qw436 qw437 qw438 qw434 (gi_z qw435)) rfl rfl rfl (by decide +kernel) ⟨Nat.le_of_ble_eq_true rfl, Nat.le_of_ble_eq_true rfl⟩) ⟨PRE.blind, va_recv hKc hPc (ci := 15) (q0 := 0) rfl rfl, PRE.of hE hS hFc hPc hKc hDc⟩ rfl rfl hl.1 rfl (lv_room (Nat.le_of_ble_eq_true rfl)) dX24_phiTakes_28 ⟨Nat.le_of_ble_eq_true rfl, Nat.le_of_ble_eq_true rfl⟩) hS (fun q _ h => hFc q h) hFc (fun r2 u t H locs ht hvm hw hB hz1 hk1 hS => ?_)
  obtain ⟨hP, hD, hK⟩ := JOIN (wr := [(mq4, .inl (mc5, 0, .inr (.inr (.inr (.inr (fun _ => none))))))]) hP hD hK [0] [1] [0] rfl rfl (by decide) (by decide) rfl hk1 hFc ht hvm hB
  have hP : va_P (dC, dI) cls [(mq4, .inl (mc5, 0, .inr (.inr (.inr (.inr (fun _ => none)))))), (mx, .inr (15, [.ref mq1, .int 0, .int (-1), .int 1, .ref mq3, .ref mq4, .ref mq6, .ref mq8, .ref mq22]))] H := hP
  have hD : va_D A [(mq4, .inl (mc5, 0, .inr (.inr (.inr (.inr (fun _ => none)))))), (mx, .inr (15, [.ref mq1, .int 0, .int (-1), .int 1, .ref mq3, .ref mq4, .ref mq6, .ref mq8, .ref mq22]))] := hD
  have hK : va_K (dC, dI) cls [(mc5, .object RX14)] s := hK
  refine W.widen (k := 0) (n := 0) (Nat.le_of_ble_eq_true rfl) (Nat.le_of_ble_eq_true rfl) ?_
  obtain rfl : r2 = 0 := hw
  have hP9 : va_P (dC, dI) cls [(mx, .inr (15, [.ref mq1, .int 0, .int (-1), .int 1, .ref mq3, .ref mq4, .ref mq6, .ref mq8, .ref mq22]))] H := hP.sub [1] rfl
  have hD9 : va_D A [(mx, .inr (15, [.ref mq1, .int 0, .int (-1), .int 1, .ref mq3, .ref mq4, .ref mq6, .ref mq8, .ref mq22]))] := hD.sub [1] (by decide) rfl
  have hK9 : va_K (dC, dI) cls [] s := hK.sub [] rfl
  exact W.iret (v := 0) hx hb hr (fun t ht hW => ⟨⟨0, (), rfl, rfl, ⟨by rw [ht]; exact hP9, va_K.moved hW.alike hK9, hD9⟩⟩, hS.F ht⟩) hS.2.2 dX24_phiTakes_31
set_option maxHeartbeats 4000000 in
set_option maxRecDepth 100000 in
theorem kX24_steps {zs : Nat × Nat} (l : Launch) (dC : Nat → ClassId) (dI : Nat → Nat → Nat) (mx : Nat) (mq1 : Nat) (mq3 : Nat) (mq4 : Nat) (mc5 : ClassId) (mq6 : Nat) (mq8 : Nat) (mq22 : Nat) (p0 : Int32) (p1 : Int32) (sz : Nat)  : Met l yX24_steps (wz yX24_steps cX24_steps 3 (Option.some Jvm.ClassFile.FieldType.int)) ({ frames := 2, cells := 0, slots := 0, locals := 43 }) (va_Pc [.ref mx, .int p0, .int p1] (PRE zs dC dI [(mx, .inr (15, [.ref mq1, .int 0, .int (-1), .int 0, .ref mq3, .ref mq4, .ref mq6, .ref mq8, .ref mq22])), (mq4, .inl (mc5, 0, .inr (.inr (.inr (.inr (fun _ => none))))))] [(mc5, .object RX14)] sz)) (va_Qi (fun (r : Int32) (_ : Unit) => r = 0) (fun _ t => POST dC dI [(mx, .inr (15, [.ref mq1, .int 0, .int (-1), .int 1, .ref mq3, .ref mq4, .ref mq6, .ref mq8, .ref mq22]))] [] (va_A [(mx, .inr (15, [.ref mq1, .int 0, .int (-1), .int 0, .ref mq3, .ref mq4, .ref mq6, .ref mq8, .ref mq22])), (mq4, .inl (mc5, 0, .inr (.inr (.inr (.inr (fun _ => none))))))] sz) t) (va_A [(mx, .inr (15, [.ref mq1, .int 0, .int (-1), .int 0, .ref mq3, .ref mq4, .ref mq6, .ref mq8, .ref mq22])), (mq4, .inl (mc5, 0, .inr (.inr (.inr (.inr (fun _ => none))))))] sz)) 0 0 (va_A [(mx, .inr (15, [.ref mq1, .int 0, .int (-1), .int 0, .ref mq3, .ref mq4, .ref mq6, .ref mq8, .ref mq22])), (mq4, .inl (mc5, 0, .inr (.inr (.inr (.inr (fun _ => none))))))] sz) := by
  refine Met.ofW (cc := cX24_steps) (maxL := 3) (ret := (Option.some Jvm.ClassFile.FieldType.int)) (by decide) rfl ?_
  intro p e s m args below meth c s₁ B hml hv
  obtain ⟨rfl, hsz, hP, hK, hD0, hE⟩ := hv
  have hx := B.exec
  have hb := B.bytes
  have hr := B.returns
  have hts0 := atoms_spec (ws := wz yX24_steps cX24_steps 3 (Option.some Jvm.ClassFile.FieldType.int)) B.pre
  have hts : ∀ w ∈ gw, w.before _ s = true := fun w h => hts0 w (List.mem_cons_of_mem _ h)
  have hown : s.vm.findClass RX24 = some m.cls := findClass_of_methodNamed B.named
  have hlocks := B.notSynchronized
  subst hsz
  have hD := hD0.self (sz := s.heap.size)
  generalize hAe : va_A [(mx, .inr (15, [.ref mq1, .int 0, .int (-1), .int 0, .ref mq3, .ref mq4, .ref mq6, .ref mq8, .ref mq22])), (mq4, .inl (mc5, 0, .inr (.inr (.inr (.inr (fun _ => none))))))] s.heap.size = A at hD hE ⊢
  have hA : ∀ q : Nat, s.heap.size ≤ q → A q := fun q h => by rw [← hAe]; exact Or.inr h
  have hS : va_S A s.heap s.heap [] := va_S.rf
  have hP : va_P (dC, dI) cls [(mx, .inr (15, [.ref mq1, .int 0, .int (-1), .int 0, .ref mq3, .ref mq4, .ref mq6, .ref mq8, .ref mq22])), (mq4, .inl (mc5, 0, .inr (.inr (.inr (.inr (fun _ => none))))))] s.heap := hP
  have hl := lv_entry ([.ref mx, .int p0, .int p1]) (n := 3) (Nat.le_of_ble_eq_true rfl)
  rw [lg_entry_eq]
  generalize (lg_sl ([.ref mx, .int p0, .int p1]) ++ List.replicate (3 - (lg_sl ([.ref mx, .int p0, .int p1])).length) Slot.unset).toArray = ls at hl ⊢
  have hl : lv_has ls 3 [(0, .ref mx), (1, .int p0), (2, .int p1)] := hl
  refine lv_aload_n hx hb dX24_steps_0 rfl (lv_at hl 0 rfl) ?_
  refine lv_iconst (v := 0) hx hb dX24_steps_1 (by decide) ?_
  refine va_put (D := (dC, dI)) (ci := 15) (v := .int 0) (ty := .int) (C := RX24) (T := TX24) (N := 9) hx hb hts i_X24 tyX24 tyX24_ok nmX24 hown hK hP hD hS 0 rfl rfl 3 (by decide) (hts _ qw428) (fun _ h9 => h9) rfl (by decide +kernel) rfl rfl (Nat.le_of_ble_eq_true rfl) dX24_steps_2 (fun H locs hP hD hS => ?_)
  have hP : va_P (dC, dI) cls [(mx, .inr (15, [.ref mq1, .int 0, .int (-1), .int 0, .ref mq3, .ref mq4, .ref mq6, .ref mq8, .ref mq22])), (mq4, .inl (mc5, 0, .inr (.inr (.inr (.inr (fun _ => none))))))] H := hP
  have hD : va_D A [(mx, .inr (15, [.ref mq1, .int 0, .int (-1), .int 0, .ref mq3, .ref mq4, .ref mq6, .ref mq8, .ref mq22])), (mq4, .inl (mc5, 0, .inr (.inr (.inr (.inr (fun _ => none))))))] := hD
  refine lv_aload_n hx hb dX24_steps_5 rfl (lv_at hl 0 rfl) ?_
  refine lv_iload_n hx hb dX24_steps_6 rfl (lv_at hl 1 rfl) ?_
  refine lv_iload_n hx hb dX24_steps_7 rfl (lv_at hl 2 rfl) ?_
  have hPc := hP.sub (ws' := [(mx, .inr (15, [.ref mq1, .int 0, .int (-1), .int 0, .ref mq3, .ref mq4, .ref mq6, .ref mq8, .ref mq22])), (mq4, .inl (mc5, 0, .inr (.inr (.inr (.inr (fun _ => none))))))]) [0, 1] rfl
  have hDc := hD.sub (ws' := [(mx, .inr (15, [.ref mq1, .int 0, .int (-1), .int 0, .ref mq3, .ref mq4, .ref mq6, .ref mq8, .ref mq22])), (mq4, .inl (mc5, 0, .inr (.inr (.inr (.inr (fun _ => none))))))]) [0, 1] (by decide) rfl
  have hKc := hK.sub (tys' := [(mc5, .object RX14)]) [0] rfl
  have hFc := va_free (wc := [(mx, .inr (15, [.ref mq1, .int 0, .int (-1), .int 0, .ref mq3, .ref mq4, .ref mq6, .ref mq8, .ref mq22])), (mq4, .inl (mc5, 0, .inr (.inr (.inr (.inr (fun _ => none))))))]) hD hS hA [0, 1] rfl
  refine va_calli (va_runV (As := [.int p0, .int p1]) (rest := []) ⟨hx, hb, hml, hown, hts⟩ (kX24_isBlock_n48 l dC dI (a0 := mx) (i1 := p0) (i2 := p1) (a3 := mq1) (a4 := mq3) (a5 := mq4) (a6 := mq6) (a7 := mq8) (a8 := mq22) (k10 := mc5) (sz := _)) (cwV 2 hts (gi_V qw455 qw456 qw457 qw434 (gi_z qw454)) rfl rfl rfl (by decide +kernel) ⟨Nat.le_of_ble_eq_true rfl, Nat.le_of_ble_eq_true rfl⟩) ⟨PRE.blind, va_recv hKc hPc (ci := 15) (q0 := 0) rfl rfl, PRE.of hE hS hFc hPc hKc hDc⟩ rfl rfl hl.1 rfl (lv_room (Nat.le_of_ble_eq_true rfl)) dX24_steps_8 ⟨Nat.le_of_ble_eq_true rfl, Nat.le_of_ble_eq_true rfl⟩) hS (fun q _ h => hFc q h) hFc (fun r1 u t H locs ht hvm hw hB hz1 hk1 hS => ?_)
  obtain ⟨hP, hD, hK⟩ := JOIN (wr := []) hP hD hK [0, 1] [] [] rfl rfl (by decide) (by decide) rfl hk1 hFc ht hvm hB
  have hP : va_P (dC, dI) cls [(mx, .inr (15, [.ref mq1, .int 0, .int (-1), .int 0, .ref mq3, .ref mq4, .ref mq6, .ref mq8, .ref mq22])), (mq4, .inl (mc5, 0, .inr (.inr (.inr (.inr (fun _ => none))))))] H := hP
  have hD : va_D A [(mx, .inr (15, [.ref mq1, .int 0, .int (-1), .int 0, .ref mq3, .ref mq4, .ref mq6, .ref mq8, .ref mq22])), (mq4, .inl (mc5, 0, .inr (.inr (.inr (.inr (fun _ => none))))))] := hD
  have hK : va_K (dC, dI) cls [(mc5, .object RX14)] s := hK
  refine W.widen (k := 0) (n := 0) (Nat.le_of_ble_eq_true rfl) (Nat.le_of_ble_eq_true rfl) ?_
  obtain rfl : r1 = 0 := hw
  refine lv_if_eq (tgt := 26) hx hb dX24_steps_11 (by decide) (fun _ => ?_) (fun c => absurd (by decide) c)
  refine lv_aload_n hx hb dX24_steps_26 rfl (lv_at hl 0 rfl) ?_
  refine lv_iconst (v := 1) hx hb dX24_steps_27 (by decide) ?_
  have hPc := hP.sub (ws' := [(mx, .inr (15, [.ref mq1, .int 0, .int (-1), .int 0, .ref mq3, .ref mq4, .ref mq6, .ref mq8, .ref mq22]))]) [0] rfl
  have hDc := hD.sub (ws' := [(mx, .inr (15, [.ref mq1, .int 0, .int (-1), .int 0, .ref mq3, .ref mq4, .ref mq6, .ref mq8, .ref mq22]))]) [0] (by decide) rfl
  have hKc := hK.sub (tys' := []) [] rfl
  have hFc := va_free (wc := [(mx, .inr (15, [.ref mq1, .int 0, .int (-1), .int 0, .ref mq3, .ref mq4, .ref mq6, .ref mq8, .ref mq22]))]) hD hS hA [0] rfl
  refine va_calli (va_runV (As := [.int 1]) (rest := []) ⟨hx, hb, hml, hown, hts⟩ (kX24_no_n39 l dC dI (a0 := mx) (a1 := mq1) (a2 := mq3) (a3 := mq4) (a4 := mq6) (a5 := mq8) (a6 := mq22) (sz := _)) (cwV 1 hts (gi_V qw436 qw437 qw438 qw434 (gi_z qw435)) rfl rfl rfl (by decide +kernel) ⟨Nat.le_of_ble_eq_true rfl, Nat.le_of_ble_eq_true rfl⟩) ⟨PRE.blind, va_recv hKc hPc (ci := 15) (q0 := 0) rfl rfl, PRE.of hE hS hFc hPc hKc hDc⟩ rfl rfl hl.1 rfl (lv_room (Nat.le_of_ble_eq_true rfl)) dX24_steps_28 ⟨Nat.le_of_ble_eq_true rfl, Nat.le_of_ble_eq_true rfl⟩) hS (fun q _ h => hFc q h) hFc (fun r2 u t H locs ht hvm hw hB hz1 hk1 hS => ?_)
  obtain ⟨hP, hD, hK⟩ := JOIN (wr := [(mq4, .inl (mc5, 0, .inr (.inr (.inr (.inr (fun _ => none))))))]) hP hD hK [0] [1] [0] rfl rfl (by decide) (by decide) rfl hk1 hFc ht hvm hB
  have hP : va_P (dC, dI) cls [(mq4, .inl (mc5, 0, .inr (.inr (.inr (.inr (fun _ => none)))))), (mx, .inr (15, [.ref mq1, .int 0, .int (-1), .int 1, .ref mq3, .ref mq4, .ref mq6, .ref mq8, .ref mq22]))] H := hP
  have hD : va_D A [(mq4, .inl (mc5, 0, .inr (.inr (.inr (.inr (fun _ => none)))))), (mx, .inr (15, [.ref mq1, .int 0, .int (-1), .int 1, .ref mq3, .ref mq4, .ref mq6, .ref mq8, .ref mq22]))] := hD
  have hK : va_K (dC, dI) cls [(mc5, .object RX14)] s := hK
  refine W.widen (k := 0) (n := 0) (Nat.le_of_ble_eq_true rfl) (Nat.le_of_ble_eq_true rfl) ?_
  obtain rfl : r2 = 0 := hw
  have hP9 : va_P (dC, dI) cls [(mx, .inr (15, [.ref mq1, .int 0, .int (-1), .int 1, .ref mq3, .ref mq4, .ref mq6, .ref mq8, .ref mq22]))] H := hP.sub [1] rfl
  have hD9 : va_D A [(mx, .inr (15, [.ref mq1, .int 0, .int (-1), .int 1, .ref mq3, .ref mq4, .ref mq6, .ref mq8, .ref mq22]))] := hD.sub [1] (by decide) rfl
  have hK9 : va_K (dC, dI) cls [] s := hK.sub [] rfl
  exact W.iret (v := 0) hx hb hr (fun t ht hW => ⟨⟨0, (), rfl, rfl, ⟨by rw [ht]; exact hP9, va_K.moved hW.alike hK9, hD9⟩⟩, hS.F ht⟩) hS.2.2 dX24_steps_31
set_option maxHeartbeats 4000000 in
set_option maxRecDepth 100000 in
/-- GearboxModel.inStep, from the state that its caller has -/
theorem kX24_inStep_n51 {zs : Nat × Nat} (l : Launch) (dC : Nat → ClassId) (dI : Nat → Nat → Nat) (a0 : Nat) (i1 : Int32) (i2 : Int32) (i3 : Int32) (a4 : Nat) (a5 : Nat) (a6 : Nat) (a7 : Nat) (a8 : Nat) (a9 : Nat) (k11 : ClassId) (sz : Nat)  : Met l yX24_inStep (wz yX24_inStep cX24_inStep 5 (Option.some Jvm.ClassFile.FieldType.int)) ({ frames := 2, cells := 0, slots := 0, locals := 43 }) (va_Pc [.ref a0, .int i1, .int i2, .int i3, .int 0] (PRE zs dC dI [(a0, .inr (15, [.ref a4, .int 0, .int (-1), .int 0, .ref a5, .ref a6, .ref a7, .ref a8, .ref a9])), (a6, .inl (k11, 0, .inr (.inr (.inr (.inr (fun _ => none))))))] [(k11, .object RX14)] sz)) (va_Qi (fun (r : Int32) (_ : Unit) => r = 0) (fun _ t => POST dC dI [(a6, .inl (k11, 0, .inr (.inr (.inr (.inr (fun _ => none)))))), (a0, .inr (15, [.ref a4, .int 0, .int (-1), .int 1, .ref a5, .ref a6, .ref a7, .ref a8, .ref a9]))] [(k11, .object RX14)] (va_A [(a0, .inr (15, [.ref a4, .int 0, .int (-1), .int 0, .ref a5, .ref a6, .ref a7, .ref a8, .ref a9])), (a6, .inl (k11, 0, .inr (.inr (.inr (.inr (fun _ => none))))))] sz) t) (va_A [(a0, .inr (15, [.ref a4, .int 0, .int (-1), .int 0, .ref a5, .ref a6, .ref a7, .ref a8, .ref a9])), (a6, .inl (k11, 0, .inr (.inr (.inr (.inr (fun _ => none))))))] sz)) 0 0 (va_A [(a0, .inr (15, [.ref a4, .int 0, .int (-1), .int 0, .ref a5, .ref a6, .ref a7, .ref a8, .ref a9])), (a6, .inl (k11, 0, .inr (.inr (.inr (.inr (fun _ => none))))))] sz) := by
  refine Met.ofW (cc := cX24_inStep) (maxL := 5) (ret := (Option.some Jvm.ClassFile.FieldType.int)) (by decide) rfl ?_
  intro p e s m args below meth c s₁ B hml hv
  obtain ⟨rfl, hsz, hP, hK, hD0, hE⟩ := hv
  have hx := B.exec
  have hb := B.bytes
  have hr := B.returns
  have hts0 := atoms_spec (ws := wz yX24_inStep cX24_inStep 5 (Option.some Jvm.ClassFile.FieldType.int)) B.pre
  have hts : ∀ w ∈ gw, w.before _ s = true := fun w h => hts0 w (List.mem_cons_of_mem _ h)
  have hown : s.vm.findClass RX24 = some m.cls := findClass_of_methodNamed B.named
  have hlocks := B.notSynchronized
  subst hsz
  have hD := hD0.self (sz := s.heap.size)
  generalize hAe : va_A [(a0, .inr (15, [.ref a4, .int 0, .int (-1), .int 0, .ref a5, .ref a6, .ref a7, .ref a8, .ref a9])), (a6, .inl (k11, 0, .inr (.inr (.inr (.inr (fun _ => none))))))] s.heap.size = A at hD hE ⊢
  have hA : ∀ q : Nat, s.heap.size ≤ q → A q := fun q h => by rw [← hAe]; exact Or.inr h
  have hS : va_S A s.heap s.heap [] := va_S.rf
  have hP : va_P (dC, dI) cls [(a0, .inr (15, [.ref a4, .int 0, .int (-1), .int 0, .ref a5, .ref a6, .ref a7, .ref a8, .ref a9])), (a6, .inl (k11, 0, .inr (.inr (.inr (.inr (fun _ => none))))))] s.heap := hP
  have hl := lv_entry ([.ref a0, .int i1, .int i2, .int i3, .int 0]) (n := 5) (Nat.le_of_ble_eq_true rfl)
  rw [lg_entry_eq]
  generalize (lg_sl ([.ref a0, .int i1, .int i2, .int i3, .int 0]) ++ List.replicate (5 - (lg_sl ([.ref a0, .int i1, .int i2, .int i3, .int 0])).length) Slot.unset).toArray = ls at hl ⊢
  have hl : lv_has ls 5 [(0, .ref a0), (1, .int i1), (2, .int i2), (3, .int i3), (4, .int 0)] := hl
  refine lv_aload_n hx hb dX24_inStep_0 rfl (lv_at hl 0 rfl) ?_
  refine lv_iconst (v := 0) hx hb dX24_inStep_1 (by decide) ?_
  refine va_put (D := (dC, dI)) (ci := 15) (v := .int 0) (ty := .int) (C := RX24) (T := TX24) (N := 9) hx hb hts i_X24 tyX24 tyX24_ok nmX24 hown hK hP hD hS 0 rfl rfl 3 (by decide) (hts _ qw428) (fun _ h9 => h9) rfl (by decide +kernel) rfl rfl (Nat.le_of_ble_eq_true rfl) dX24_inStep_2 (fun H locs hP hD hS => ?_)
  have hP : va_P (dC, dI) cls [(a0, .inr (15, [.ref a4, .int 0, .int (-1), .int 0, .ref a5, .ref a6, .ref a7, .ref a8, .ref a9])), (a6, .inl (k11, 0, .inr (.inr (.inr (.inr (fun _ => none))))))] H := hP
  have hD : va_D A [(a0, .inr (15, [.ref a4, .int 0, .int (-1), .int 0, .ref a5, .ref a6, .ref a7, .ref a8, .ref a9])), (a6, .inl (k11, 0, .inr (.inr (.inr (.inr (fun _ => none))))))] := hD
  refine lv_aload_n hx hb dX24_inStep_5 rfl (lv_at hl 0 rfl) ?_
  refine lv_iload_n hx hb dX24_inStep_6 rfl (lv_at hl 1 rfl) ?_
  refine lv_iload_n hx hb dX24_inStep_7 rfl (lv_at hl 2 rfl) ?_
  have hPc := hP.sub (ws' := [(a0, .inr (15, [.ref a4, .int 0, .int (-1), .int 0, .ref a5, .ref a6, .ref a7, .ref a8, .ref a9])), (a6, .inl (k11, 0, .inr (.inr (.inr (.inr (fun _ => none))))))]) [0, 1] rfl
  have hDc := hD.sub (ws' := [(a0, .inr (15, [.ref a4, .int 0, .int (-1), .int 0, .ref a5, .ref a6, .ref a7, .ref a8, .ref a9])), (a6, .inl (k11, 0, .inr (.inr (.inr (.inr (fun _ => none))))))]) [0, 1] (by decide) rfl
  have hKc := hK.sub (tys' := [(k11, .object RX14)]) [0] rfl
  have hFc := va_free (wc := [(a0, .inr (15, [.ref a4, .int 0, .int (-1), .int 0, .ref a5, .ref a6, .ref a7, .ref a8, .ref a9])), (a6, .inl (k11, 0, .inr (.inr (.inr (.inr (fun _ => none))))))]) hD hS hA [0, 1] rfl
  refine va_calli (va_runV (As := [.int i1, .int i2]) (rest := []) ⟨hx, hb, hml, hown, hts⟩ (kX24_isBlock_n48 l dC dI (a0 := a0) (i1 := i1) (i2 := i2) (a3 := a4) (a4 := a5) (a5 := a6) (a6 := a7) (a7 := a8) (a8 := a9) (k10 := k11) (sz := _)) (cwV 2 hts (gi_V qw455 qw456 qw457 qw434 (gi_z qw454)) rfl rfl rfl (by decide +kernel) ⟨Nat.le_of_ble_eq_true rfl, Nat.le_of_ble_eq_true rfl⟩) ⟨PRE.blind, va_recv hKc hPc (ci := 15) (q0 := 0) rfl rfl, PRE.of hE hS hFc hPc hKc hDc⟩ rfl rfl hl.1 rfl (lv_room (Nat.le_of_ble_eq_true rfl)) dX24_inStep_8 ⟨Nat.le_of_ble_eq_true rfl, Nat.le_of_ble_eq_true rfl⟩) hS (fun q _ h => hFc q h) hFc (fun r1 u t H locs ht hvm hw hB hz1 hk1 hS => ?_)
  obtain ⟨hP, hD, hK⟩ := JOIN (wr := []) hP hD hK [0, 1] [] [] rfl rfl (by decide) (by decide) rfl hk1 hFc ht hvm hB
  have hP : va_P (dC, dI) cls [(a0, .inr (15, [.ref a4, .int 0, .int (-1), .int 0, .ref a5, .ref a6, .ref a7, .ref a8, .ref a9])), (a6, .inl (k11, 0, .inr (.inr (.inr (.inr (fun _ => none))))))] H := hP
  have hD : va_D A [(a0, .inr (15, [.ref a4, .int 0, .int (-1), .int 0, .ref a5, .ref a6, .ref a7, .ref a8, .ref a9])), (a6, .inl (k11, 0, .inr (.inr (.inr (.inr (fun _ => none))))))] := hD
  have hK : va_K (dC, dI) cls [(k11, .object RX14)] s := hK
  refine W.widen (k := 0) (n := 0) (Nat.le_of_ble_eq_true rfl) (Nat.le_of_ble_eq_true rfl) ?_
  obtain rfl : r1 = 0 := hw
  refine lv_if_eq (tgt := 46) hx hb dX24_inStep_11 (by decide) (fun _ => ?_) (fun c => absurd (by decide) c)
  refine lv_aload_n hx hb dX24_inStep_46 rfl (lv_at hl 0 rfl) ?_
  refine lv_iconst (v := 1) hx hb dX24_inStep_47 (by decide) ?_
  have hPc := hP.sub (ws' := [(a0, .inr (15, [.ref a4, .int 0, .int (-1), .int 0, .ref a5, .ref a6, .ref a7, .ref a8, .ref a9]))]) [0] rfl
  have hDc := hD.sub (ws' := [(a0, .inr (15, [.ref a4, .int 0, .int (-1), .int 0, .ref a5, .ref a6, .ref a7, .ref a8, .ref a9]))]) [0] (by decide) rfl
  have hKc := hK.sub (tys' := []) [] rfl
  have hFc := va_free (wc := [(a0, .inr (15, [.ref a4, .int 0, .int (-1), .int 0, .ref a5, .ref a6, .ref a7, .ref a8, .ref a9]))]) hD hS hA [0] rfl
  refine va_calli (va_runV (As := [.int 1]) (rest := []) ⟨hx, hb, hml, hown, hts⟩ (kX24_no_n39 l dC dI (a0 := a0) (a1 := a4) (a2 := a5) (a3 := a6) (a4 := a7) (a5 := a8) (a6 := a9) (sz := _)) (cwV 1 hts (gi_V qw436 qw437 qw438 qw434 (gi_z qw435)) rfl rfl rfl (by decide +kernel) ⟨Nat.le_of_ble_eq_true rfl, Nat.le_of_ble_eq_true rfl⟩) ⟨PRE.blind, va_recv hKc hPc (ci := 15) (q0 := 0) rfl rfl, PRE.of hE hS hFc hPc hKc hDc⟩ rfl rfl hl.1 rfl (lv_room (Nat.le_of_ble_eq_true rfl)) dX24_inStep_48 ⟨Nat.le_of_ble_eq_true rfl, Nat.le_of_ble_eq_true rfl⟩) hS (fun q _ h => hFc q h) hFc (fun r2 u t H locs ht hvm hw hB hz1 hk1 hS => ?_)
  obtain ⟨hP, hD, hK⟩ := JOIN (wr := [(a6, .inl (k11, 0, .inr (.inr (.inr (.inr (fun _ => none))))))]) hP hD hK [0] [1] [0] rfl rfl (by decide) (by decide) rfl hk1 hFc ht hvm hB
  have hP : va_P (dC, dI) cls [(a6, .inl (k11, 0, .inr (.inr (.inr (.inr (fun _ => none)))))), (a0, .inr (15, [.ref a4, .int 0, .int (-1), .int 1, .ref a5, .ref a6, .ref a7, .ref a8, .ref a9]))] H := hP
  have hD : va_D A [(a6, .inl (k11, 0, .inr (.inr (.inr (.inr (fun _ => none)))))), (a0, .inr (15, [.ref a4, .int 0, .int (-1), .int 1, .ref a5, .ref a6, .ref a7, .ref a8, .ref a9]))] := hD
  have hK : va_K (dC, dI) cls [(k11, .object RX14)] s := hK
  refine W.widen (k := 0) (n := 0) (Nat.le_of_ble_eq_true rfl) (Nat.le_of_ble_eq_true rfl) ?_
  obtain rfl : r2 = 0 := hw
  have hP9 : va_P (dC, dI) cls [(a6, .inl (k11, 0, .inr (.inr (.inr (.inr (fun _ => none)))))), (a0, .inr (15, [.ref a4, .int 0, .int (-1), .int 1, .ref a5, .ref a6, .ref a7, .ref a8, .ref a9]))] H := hP.sub [0, 1] rfl
  have hD9 : va_D A [(a6, .inl (k11, 0, .inr (.inr (.inr (.inr (fun _ => none)))))), (a0, .inr (15, [.ref a4, .int 0, .int (-1), .int 1, .ref a5, .ref a6, .ref a7, .ref a8, .ref a9]))] := hD.sub [0, 1] (by decide) rfl
  have hK9 : va_K (dC, dI) cls [(k11, .object RX14)] s := hK.sub [0] rfl
  exact W.iret (v := 0) hx hb hr (fun t ht hW => ⟨⟨0, (), rfl, rfl, ⟨by rw [ht]; exact hP9, va_K.moved hW.alike hK9, hD9⟩⟩, hS.F ht⟩) hS.2.2 dX24_inStep_51
set_option maxHeartbeats 4000000 in
set_option maxRecDepth 100000 in
theorem kX24_kindOf {zs : Nat × Nat} (l : Launch) (dC : Nat → ClassId) (dI : Nat → Nat → Nat) (mx : Nat) (mq1 : Nat) (mq3 : Nat) (mq4 : Nat) (mc5 : ClassId) (mq6 : Nat) (mq8 : Nat) (mq22 : Nat) (p0 : Int32) (p1 : Int32) (p2 : Int32) (sz : Nat)  : Met l yX24_kindOf (wz yX24_kindOf cX24_kindOf 4 (Option.some Jvm.ClassFile.FieldType.int)) ({ frames := 3, cells := 0, slots := 0, locals := 67 }) (va_Pc [.ref mx, .int p0, .int p1, .int p2] (PRE zs dC dI [(mx, .inr (15, [.ref mq1, .int 0, .int (-1), .int 0, .ref mq3, .ref mq4, .ref mq6, .ref mq8, .ref mq22])), (mq4, .inl (mc5, 0, .inr (.inr (.inr (.inr (fun _ => none))))))] [(mc5, .object RX14)] sz)) (va_Qi (fun (r : Int32) (_ : Unit) => r = 0) (fun _ t => POST dC dI [(mx, .inr (15, [.ref mq1, .int 0, .int (-1), .int 1, .ref mq3, .ref mq4, .ref mq6, .ref mq8, .ref mq22]))] [] (va_A [(mx, .inr (15, [.ref mq1, .int 0, .int (-1), .int 0, .ref mq3, .ref mq4, .ref mq6, .ref mq8, .ref mq22])), (mq4, .inl (mc5, 0, .inr (.inr (.inr (.inr (fun _ => none))))))] sz) t) (va_A [(mx, .inr (15, [.ref mq1, .int 0, .int (-1), .int 0, .ref mq3, .ref mq4, .ref mq6, .ref mq8, .ref mq22])), (mq4, .inl (mc5, 0, .inr (.inr (.inr (.inr (fun _ => none))))))] sz)) 0 0 (va_A [(mx, .inr (15, [.ref mq1, .int 0, .int (-1), .int 0, .ref mq3, .ref mq4, .ref mq6, .ref mq8, .ref mq22])), (mq4, .inl (mc5, 0, .inr (.inr (.inr (.inr (fun _ => none))))))] sz) := by
  refine Met.ofW (cc := cX24_kindOf) (maxL := 4) (ret := (Option.some Jvm.ClassFile.FieldType.int)) (by decide) rfl ?_
  intro p e s m args below meth c s₁ B hml hv
  obtain ⟨rfl, hsz, hP, hK, hD0, hE⟩ := hv
  have hx := B.exec
  have hb := B.bytes
  have hr := B.returns
  have hts0 := atoms_spec (ws := wz yX24_kindOf cX24_kindOf 4 (Option.some Jvm.ClassFile.FieldType.int)) B.pre
  have hts : ∀ w ∈ gw, w.before _ s = true := fun w h => hts0 w (List.mem_cons_of_mem _ h)
  have hown : s.vm.findClass RX24 = some m.cls := findClass_of_methodNamed B.named
  have hlocks := B.notSynchronized
  subst hsz
  have hD := hD0.self (sz := s.heap.size)
  generalize hAe : va_A [(mx, .inr (15, [.ref mq1, .int 0, .int (-1), .int 0, .ref mq3, .ref mq4, .ref mq6, .ref mq8, .ref mq22])), (mq4, .inl (mc5, 0, .inr (.inr (.inr (.inr (fun _ => none))))))] s.heap.size = A at hD hE ⊢
  have hA : ∀ q : Nat, s.heap.size ≤ q → A q := fun q h => by rw [← hAe]; exact Or.inr h
  have hS : va_S A s.heap s.heap [] := va_S.rf
  have hP : va_P (dC, dI) cls [(mx, .inr (15, [.ref mq1, .int 0, .int (-1), .int 0, .ref mq3, .ref mq4, .ref mq6, .ref mq8, .ref mq22])), (mq4, .inl (mc5, 0, .inr (.inr (.inr (.inr (fun _ => none))))))] s.heap := hP
  have hl := lv_entry ([.ref mx, .int p0, .int p1, .int p2]) (n := 4) (Nat.le_of_ble_eq_true rfl)
  rw [lg_entry_eq]
  generalize (lg_sl ([.ref mx, .int p0, .int p1, .int p2]) ++ List.replicate (4 - (lg_sl ([.ref mx, .int p0, .int p1, .int p2])).length) Slot.unset).toArray = ls at hl ⊢
  have hl : lv_has ls 4 [(0, .ref mx), (1, .int p0), (2, .int p1), (3, .int p2)] := hl
  refine lv_aload_n hx hb dX24_kindOf_0 rfl (lv_at hl 0 rfl) ?_
  refine lv_iload_n hx hb dX24_kindOf_1 rfl (lv_at hl 1 rfl) ?_
  refine lv_iload_n hx hb dX24_kindOf_2 rfl (lv_at hl 2 rfl) ?_
  refine lv_iload_n hx hb dX24_kindOf_3 rfl (lv_at hl 3 rfl) ?_
  refine lv_iconst (v := 0) hx hb dX24_kindOf_4 (by decide) ?_
  have hPc := hP.sub (ws' := [(mx, .inr (15, [.ref mq1, .int 0, .int (-1), .int 0, .ref mq3, .ref mq4, .ref mq6, .ref mq8, .ref mq22])), (mq4, .inl (mc5, 0, .inr (.inr (.inr (.inr (fun _ => none))))))]) [0, 1] rfl
  have hDc := hD.sub (ws' := [(mx, .inr (15, [.ref mq1, .int 0, .int (-1), .int 0, .ref mq3, .ref mq4, .ref mq6, .ref mq8, .ref mq22])), (mq4, .inl (mc5, 0, .inr (.inr (.inr (.inr (fun _ => none))))))]) [0, 1] (by decide) rfl
  have hKc := hK.sub (tys' := [(mc5, .object RX14)]) [0] rfl
  have hFc := va_free (wc := [(mx, .inr (15, [.ref mq1, .int 0, .int (-1), .int 0, .ref mq3, .ref mq4, .ref mq6, .ref mq8, .ref mq22])), (mq4, .inl (mc5, 0, .inr (.inr (.inr (.inr (fun _ => none))))))]) hD hS hA [0, 1] rfl
  refine va_calli (va_runV (As := [.int p0, .int p1, .int p2, .int 0]) (rest := []) ⟨hx, hb, hml, hown, hts⟩ (kX24_inStep_n51 l dC dI (a0 := mx) (i1 := p0) (i2 := p1) (i3 := p2) (a4 := mq1) (a5 := mq3) (a6 := mq4) (a7 := mq6) (a8 := mq8) (a9 := mq22) (k11 := mc5) (sz := _)) (cwV 4 hts (gi_V qw467 qw468 qw469 qw434 (gi_z qw466)) rfl rfl rfl (by decide +kernel) ⟨Nat.le_of_ble_eq_true rfl, Nat.le_of_ble_eq_true rfl⟩) ⟨PRE.blind, va_recv hKc hPc (ci := 15) (q0 := 0) rfl rfl, PRE.of hE hS hFc hPc hKc hDc⟩ rfl rfl hl.1 rfl (lv_room (Nat.le_of_ble_eq_true rfl)) dX24_kindOf_5 ⟨Nat.le_of_ble_eq_true rfl, Nat.le_of_ble_eq_true rfl⟩) hS (fun q _ h => hFc q h) hFc (fun r1 u t H locs ht hvm hw hB hz1 hk1 hS => ?_)
  obtain ⟨hP, hD, hK⟩ := JOIN (wr := []) hP hD hK [0, 1] [] [] rfl rfl (by decide) (by decide) rfl hk1 hFc ht hvm hB
  have hP : va_P (dC, dI) cls [(mq4, .inl (mc5, 0, .inr (.inr (.inr (.inr (fun _ => none)))))), (mx, .inr (15, [.ref mq1, .int 0, .int (-1), .int 1, .ref mq3, .ref mq4, .ref mq6, .ref mq8, .ref mq22]))] H := hP
  have hD : va_D A [(mq4, .inl (mc5, 0, .inr (.inr (.inr (.inr (fun _ => none)))))), (mx, .inr (15, [.ref mq1, .int 0, .int (-1), .int 1, .ref mq3, .ref mq4, .ref mq6, .ref mq8, .ref mq22]))] := hD
  have hK : va_K (dC, dI) cls [(mc5, .object RX14)] s := hK
  refine W.widen (k := 0) (n := 0) (Nat.le_of_ble_eq_true rfl) (Nat.le_of_ble_eq_true rfl) ?_
  obtain rfl : r1 = 0 := hw
  have hP9 : va_P (dC, dI) cls [(mx, .inr (15, [.ref mq1, .int 0, .int (-1), .int 1, .ref mq3, .ref mq4, .ref mq6, .ref mq8, .ref mq22]))] H := hP.sub [1] rfl
  have hD9 : va_D A [(mx, .inr (15, [.ref mq1, .int 0, .int (-1), .int 1, .ref mq3, .ref mq4, .ref mq6, .ref mq8, .ref mq22]))] := hD.sub [1] (by decide) rfl
  have hK9 : va_K (dC, dI) cls [] s := hK.sub [] rfl
  exact W.iret (v := 0) hx hb hr (fun t ht hW => ⟨⟨0, (), rfl, rfl, ⟨by rw [ht]; exact hP9, va_K.moved hW.alike hK9, hD9⟩⟩, hS.F ht⟩) hS.2.2 dX24_kindOf_8
set_option maxHeartbeats 4000000 in
set_option maxRecDepth 100000 in
theorem kX24_gives {zs : Nat × Nat} (l : Launch) (dC : Nat → ClassId) (dI : Nat → Nat → Nat) (mx : Nat) (mq1 : Nat) (mq3 : Nat) (mq4 : Nat) (mc5 : ClassId) (mq6 : Nat) (mq8 : Nat) (mq22 : Nat) (p0 : Int32) (p1 : Int32) (p2 : Int32) (sz : Nat)  : Met l yX24_gives (wz yX24_gives cX24_gives 5 (Option.some Jvm.ClassFile.FieldType.int)) ({ frames := 3, cells := 0, slots := 0, locals := 67 }) (va_Pc [.ref mx, .int p0, .int p1, .int p2] (PRE zs dC dI [(mx, .inr (15, [.ref mq1, .int 0, .int (-1), .int 0, .ref mq3, .ref mq4, .ref mq6, .ref mq8, .ref mq22])), (mq4, .inl (mc5, 0, .inr (.inr (.inr (.inr (fun _ => none))))))] [(mc5, .object RX14)] sz)) (va_Qi (fun (r : Int32) (_ : Unit) => r = 0) (fun _ t => POST dC dI [(mx, .inr (15, [.ref mq1, .int 0, .int (-1), .int 1, .ref mq3, .ref mq4, .ref mq6, .ref mq8, .ref mq22]))] [] (va_A [(mx, .inr (15, [.ref mq1, .int 0, .int (-1), .int 0, .ref mq3, .ref mq4, .ref mq6, .ref mq8, .ref mq22])), (mq4, .inl (mc5, 0, .inr (.inr (.inr (.inr (fun _ => none))))))] sz) t) (va_A [(mx, .inr (15, [.ref mq1, .int 0, .int (-1), .int 0, .ref mq3, .ref mq4, .ref mq6, .ref mq8, .ref mq22])), (mq4, .inl (mc5, 0, .inr (.inr (.inr (.inr (fun _ => none))))))] sz)) 0 0 (va_A [(mx, .inr (15, [.ref mq1, .int 0, .int (-1), .int 0, .ref mq3, .ref mq4, .ref mq6, .ref mq8, .ref mq22])), (mq4, .inl (mc5, 0, .inr (.inr (.inr (.inr (fun _ => none))))))] sz) := by
  refine Met.ofW (cc := cX24_gives) (maxL := 5) (ret := (Option.some Jvm.ClassFile.FieldType.int)) (by decide) rfl ?_
  intro p e s m args below meth c s₁ B hml hv
  obtain ⟨rfl, hsz, hP, hK, hD0, hE⟩ := hv
  have hx := B.exec
  have hb := B.bytes
  have hr := B.returns
  have hts0 := atoms_spec (ws := wz yX24_gives cX24_gives 5 (Option.some Jvm.ClassFile.FieldType.int)) B.pre
  have hts : ∀ w ∈ gw, w.before _ s = true := fun w h => hts0 w (List.mem_cons_of_mem _ h)
  have hown : s.vm.findClass RX24 = some m.cls := findClass_of_methodNamed B.named
  have hlocks := B.notSynchronized
  subst hsz
  have hD := hD0.self (sz := s.heap.size)
  generalize hAe : va_A [(mx, .inr (15, [.ref mq1, .int 0, .int (-1), .int 0, .ref mq3, .ref mq4, .ref mq6, .ref mq8, .ref mq22])), (mq4, .inl (mc5, 0, .inr (.inr (.inr (.inr (fun _ => none))))))] s.heap.size = A at hD hE ⊢
  have hA : ∀ q : Nat, s.heap.size ≤ q → A q := fun q h => by rw [← hAe]; exact Or.inr h
  have hS : va_S A s.heap s.heap [] := va_S.rf
  have hP : va_P (dC, dI) cls [(mx, .inr (15, [.ref mq1, .int 0, .int (-1), .int 0, .ref mq3, .ref mq4, .ref mq6, .ref mq8, .ref mq22])), (mq4, .inl (mc5, 0, .inr (.inr (.inr (.inr (fun _ => none))))))] s.heap := hP
  have hl := lv_entry ([.ref mx, .int p0, .int p1, .int p2]) (n := 5) (Nat.le_of_ble_eq_true rfl)
  rw [lg_entry_eq]
  generalize (lg_sl ([.ref mx, .int p0, .int p1, .int p2]) ++ List.replicate (5 - (lg_sl ([.ref mx, .int p0, .int p1, .int p2])).length) Slot.unset).toArray = ls at hl ⊢
  have hl : lv_has ls 5 [(0, .ref mx), (1, .int p0), (2, .int p1), (3, .int p2)] := hl
  refine lv_aload_n hx hb dX24_gives_0 rfl (lv_at hl 0 rfl) ?_
  refine lv_iload_n hx hb dX24_gives_1 rfl (lv_at hl 1 rfl) ?_
  refine lv_iload_n hx hb dX24_gives_2 rfl (lv_at hl 2 rfl) ?_
  refine lv_iload_n hx hb dX24_gives_3 rfl (lv_at hl 3 rfl) ?_
  refine lv_iconst (v := 0) hx hb dX24_gives_4 (by decide) ?_
  have hPc := hP.sub (ws' := [(mx, .inr (15, [.ref mq1, .int 0, .int (-1), .int 0, .ref mq3, .ref mq4, .ref mq6, .ref mq8, .ref mq22])), (mq4, .inl (mc5, 0, .inr (.inr (.inr (.inr (fun _ => none))))))]) [0, 1] rfl
  have hDc := hD.sub (ws' := [(mx, .inr (15, [.ref mq1, .int 0, .int (-1), .int 0, .ref mq3, .ref mq4, .ref mq6, .ref mq8, .ref mq22])), (mq4, .inl (mc5, 0, .inr (.inr (.inr (.inr (fun _ => none))))))]) [0, 1] (by decide) rfl
  have hKc := hK.sub (tys' := [(mc5, .object RX14)]) [0] rfl
  have hFc := va_free (wc := [(mx, .inr (15, [.ref mq1, .int 0, .int (-1), .int 0, .ref mq3, .ref mq4, .ref mq6, .ref mq8, .ref mq22])), (mq4, .inl (mc5, 0, .inr (.inr (.inr (.inr (fun _ => none))))))]) hD hS hA [0, 1] rfl
  refine va_calli (va_runV (As := [.int p0, .int p1, .int p2, .int 0]) (rest := []) ⟨hx, hb, hml, hown, hts⟩ (kX24_inStep_n51 l dC dI (a0 := mx) (i1 := p0) (i2 := p1) (i3 := p2) (a4 := mq1) (a5 := mq3) (a6 := mq4) (a7 := mq6) (a8 := mq8) (a9 := mq22) (k11 := mc5) (sz := _)) (cwV 4 hts (gi_V qw467 qw468 qw469 qw434 (gi_z qw466)) rfl rfl rfl (by decide +kernel) ⟨Nat.le_of_ble_eq_true rfl, Nat.le_of_ble_eq_true rfl⟩) ⟨PRE.blind, va_recv hKc hPc (ci := 15) (q0 := 0) rfl rfl, PRE.of hE hS hFc hPc hKc hDc⟩ rfl rfl hl.1 rfl (lv_room (Nat.le_of_ble_eq_true rfl)) dX24_gives_5 ⟨Nat.le_of_ble_eq_true rfl, Nat.le_of_ble_eq_true rfl⟩) hS (fun q _ h => hFc q h) hFc (fun r1 u t H locs ht hvm hw hB hz1 hk1 hS => ?_)
  obtain ⟨hP, hD, hK⟩ := JOIN (wr := []) hP hD hK [0, 1] [] [] rfl rfl (by decide) (by decide) rfl hk1 hFc ht hvm hB
  have hP : va_P (dC, dI) cls [(mq4, .inl (mc5, 0, .inr (.inr (.inr (.inr (fun _ => none)))))), (mx, .inr (15, [.ref mq1, .int 0, .int (-1), .int 1, .ref mq3, .ref mq4, .ref mq6, .ref mq8, .ref mq22]))] H := hP
  have hD : va_D A [(mq4, .inl (mc5, 0, .inr (.inr (.inr (.inr (fun _ => none)))))), (mx, .inr (15, [.ref mq1, .int 0, .int (-1), .int 1, .ref mq3, .ref mq4, .ref mq6, .ref mq8, .ref mq22]))] := hD
  have hK : va_K (dC, dI) cls [(mc5, .object RX14)] s := hK
  refine W.widen (k := 0) (n := 0) (Nat.le_of_ble_eq_true rfl) (Nat.le_of_ble_eq_true rfl) ?_
  obtain rfl : r1 = 0 := hw
  refine lv_istore (lv' := [(4, .int 0), (0, .ref mx), (1, .int p0), (2, .int p1), (3, .int p2)]) hx hb dX24_gives_8 hl (by decide) rfl (fun ls hl => ?_)
  refine lv_aload_n hx hb dX24_gives_10 rfl (lv_at hl 1 rfl) ?_
  refine va_get (D := (dC, dI)) (ci := 15) (v := .int 1) (C := RX24) (T := TX24) (N := 9) hx hb hts i_X24 hown hK hP 1 rfl rfl 3 (by decide) (hts _ qw428) (fun _ h9 => h9) rfl dX24_gives_11 ?_
  refine lv_if_ne (tgt := 31) hx hb dX24_gives_14 (by decide) (fun _ => ?_) (fun c => absurd c (by decide))
  refine lv_iload hx hb dX24_gives_31 (lv_at hl 0 rfl) ?_
  have hP9 : va_P (dC, dI) cls [(mx, .inr (15, [.ref mq1, .int 0, .int (-1), .int 1, .ref mq3, .ref mq4, .ref mq6, .ref mq8, .ref mq22]))] H := hP.sub [1] rfl
  have hD9 : va_D A [(mx, .inr (15, [.ref mq1, .int 0, .int (-1), .int 1, .ref mq3, .ref mq4, .ref mq6, .ref mq8, .ref mq22]))] := hD.sub [1] (by decide) rfl
  have hK9 : va_K (dC, dI) cls [] s := hK.sub [] rfl
  exact W.iret (v := 0) hx hb hr (fun t ht hW => ⟨⟨0, (), rfl, rfl, ⟨by rw [ht]; exact hP9, va_K.moved hW.alike hK9, hD9⟩⟩, hS.F ht⟩) hS.2.2 dX24_gives_33
set_option maxHeartbeats 4000000 in
set_option maxRecDepth 100000 in
/-- GearboxModel.inStep, from the state that its caller has -/
theorem kX24_inStep_n52 {zs : Nat × Nat} (l : Launch) (dC : Nat → ClassId) (dI : Nat → Nat → Nat) (a0 : Nat) (i1 : Int32) (i2 : Int32) (i3 : Int32) (a4 : Nat) (a5 : Nat) (a6 : Nat) (a7 : Nat) (a8 : Nat) (a9 : Nat) (k11 : ClassId) (sz : Nat)  : Met l yX24_inStep (wz yX24_inStep cX24_inStep 5 (Option.some Jvm.ClassFile.FieldType.int)) ({ frames := 2, cells := 0, slots := 0, locals := 43 }) (va_Pc [.ref a0, .int i1, .int i2, .int i3, .int 2] (PRE zs dC dI [(a0, .inr (15, [.ref a4, .int 0, .int (-1), .int 0, .ref a5, .ref a6, .ref a7, .ref a8, .ref a9])), (a6, .inl (k11, 0, .inr (.inr (.inr (.inr (fun _ => none))))))] [(k11, .object RX14)] sz)) (va_Qi (fun (r : Int32) (_ : Unit) => r = 0) (fun _ t => POST dC dI [(a6, .inl (k11, 0, .inr (.inr (.inr (.inr (fun _ => none)))))), (a0, .inr (15, [.ref a4, .int 0, .int (-1), .int 1, .ref a5, .ref a6, .ref a7, .ref a8, .ref a9]))] [(k11, .object RX14)] (va_A [(a0, .inr (15, [.ref a4, .int 0, .int (-1), .int 0, .ref a5, .ref a6, .ref a7, .ref a8, .ref a9])), (a6, .inl (k11, 0, .inr (.inr (.inr (.inr (fun _ => none))))))] sz) t) (va_A [(a0, .inr (15, [.ref a4, .int 0, .int (-1), .int 0, .ref a5, .ref a6, .ref a7, .ref a8, .ref a9])), (a6, .inl (k11, 0, .inr (.inr (.inr (.inr (fun _ => none))))))] sz)) 0 0 (va_A [(a0, .inr (15, [.ref a4, .int 0, .int (-1), .int 0, .ref a5, .ref a6, .ref a7, .ref a8, .ref a9])), (a6, .inl (k11, 0, .inr (.inr (.inr (.inr (fun _ => none))))))] sz) := by
  refine Met.ofW (cc := cX24_inStep) (maxL := 5) (ret := (Option.some Jvm.ClassFile.FieldType.int)) (by decide) rfl ?_
  intro p e s m args below meth c s₁ B hml hv
  obtain ⟨rfl, hsz, hP, hK, hD0, hE⟩ := hv
  have hx := B.exec
  have hb := B.bytes
  have hr := B.returns
  have hts0 := atoms_spec (ws := wz yX24_inStep cX24_inStep 5 (Option.some Jvm.ClassFile.FieldType.int)) B.pre
  have hts : ∀ w ∈ gw, w.before _ s = true := fun w h => hts0 w (List.mem_cons_of_mem _ h)
  have hown : s.vm.findClass RX24 = some m.cls := findClass_of_methodNamed B.named
  have hlocks := B.notSynchronized
  subst hsz
  have hD := hD0.self (sz := s.heap.size)
  generalize hAe : va_A [(a0, .inr (15, [.ref a4, .int 0, .int (-1), .int 0, .ref a5, .ref a6, .ref a7, .ref a8, .ref a9])), (a6, .inl (k11, 0, .inr (.inr (.inr (.inr (fun _ => none))))))] s.heap.size = A at hD hE ⊢
  have hA : ∀ q : Nat, s.heap.size ≤ q → A q := fun q h => by rw [← hAe]; exact Or.inr h
  have hS : va_S A s.heap s.heap [] := va_S.rf
  have hP : va_P (dC, dI) cls [(a0, .inr (15, [.ref a4, .int 0, .int (-1), .int 0, .ref a5, .ref a6, .ref a7, .ref a8, .ref a9])), (a6, .inl (k11, 0, .inr (.inr (.inr (.inr (fun _ => none))))))] s.heap := hP
  have hl := lv_entry ([.ref a0, .int i1, .int i2, .int i3, .int 2]) (n := 5) (Nat.le_of_ble_eq_true rfl)
  rw [lg_entry_eq]
  generalize (lg_sl ([.ref a0, .int i1, .int i2, .int i3, .int 2]) ++ List.replicate (5 - (lg_sl ([.ref a0, .int i1, .int i2, .int i3, .int 2])).length) Slot.unset).toArray = ls at hl ⊢
  have hl : lv_has ls 5 [(0, .ref a0), (1, .int i1), (2, .int i2), (3, .int i3), (4, .int 2)] := hl
  refine lv_aload_n hx hb dX24_inStep_0 rfl (lv_at hl 0 rfl) ?_
  refine lv_iconst (v := 0) hx hb dX24_inStep_1 (by decide) ?_
  refine va_put (D := (dC, dI)) (ci := 15) (v := .int 0) (ty := .int) (C := RX24) (T := TX24) (N := 9) hx hb hts i_X24 tyX24 tyX24_ok nmX24 hown hK hP hD hS 0 rfl rfl 3 (by decide) (hts _ qw428) (fun _ h9 => h9) rfl (by decide +kernel) rfl rfl (Nat.le_of_ble_eq_true rfl) dX24_inStep_2 (fun H locs hP hD hS => ?_)
  have hP : va_P (dC, dI) cls [(a0, .inr (15, [.ref a4, .int 0, .int (-1), .int 0, .ref a5, .ref a6, .ref a7, .ref a8, .ref a9])), (a6, .inl (k11, 0, .inr (.inr (.inr (.inr (fun _ => none))))))] H := hP
  have hD : va_D A [(a0, .inr (15, [.ref a4, .int 0, .int (-1), .int 0, .ref a5, .ref a6, .ref a7, .ref a8, .ref a9])), (a6, .inl (k11, 0, .inr (.inr (.inr (.inr (fun _ => none))))))] := hD
  refine lv_aload_n hx hb dX24_inStep_5 rfl (lv_at hl 0 rfl) ?_
  refine lv_iload_n hx hb dX24_inStep_6 rfl (lv_at hl 1 rfl) ?_
  refine lv_iload_n hx hb dX24_inStep_7 rfl (lv_at hl 2 rfl) ?_
  have hPc := hP.sub (ws' := [(a0, .inr (15, [.ref a4, .int 0, .int (-1), .int 0, .ref a5, .ref a6, .ref a7, .ref a8, .ref a9])), (a6, .inl (k11, 0, .inr (.inr (.inr (.inr (fun _ => none))))))]) [0, 1] rfl
  have hDc := hD.sub (ws' := [(a0, .inr (15, [.ref a4, .int 0, .int (-1), .int 0, .ref a5, .ref a6, .ref a7, .ref a8, .ref a9])), (a6, .inl (k11, 0, .inr (.inr (.inr (.inr (fun _ => none))))))]) [0, 1] (by decide) rfl
  have hKc := hK.sub (tys' := [(k11, .object RX14)]) [0] rfl
  have hFc := va_free (wc := [(a0, .inr (15, [.ref a4, .int 0, .int (-1), .int 0, .ref a5, .ref a6, .ref a7, .ref a8, .ref a9])), (a6, .inl (k11, 0, .inr (.inr (.inr (.inr (fun _ => none))))))]) hD hS hA [0, 1] rfl
  refine va_calli (va_runV (As := [.int i1, .int i2]) (rest := []) ⟨hx, hb, hml, hown, hts⟩ (kX24_isBlock_n48 l dC dI (a0 := a0) (i1 := i1) (i2 := i2) (a3 := a4) (a4 := a5) (a5 := a6) (a6 := a7) (a7 := a8) (a8 := a9) (k10 := k11) (sz := _)) (cwV 2 hts (gi_V qw455 qw456 qw457 qw434 (gi_z qw454)) rfl rfl rfl (by decide +kernel) ⟨Nat.le_of_ble_eq_true rfl, Nat.le_of_ble_eq_true rfl⟩) ⟨PRE.blind, va_recv hKc hPc (ci := 15) (q0 := 0) rfl rfl, PRE.of hE hS hFc hPc hKc hDc⟩ rfl rfl hl.1 rfl (lv_room (Nat.le_of_ble_eq_true rfl)) dX24_inStep_8 ⟨Nat.le_of_ble_eq_true rfl, Nat.le_of_ble_eq_true rfl⟩) hS (fun q _ h => hFc q h) hFc (fun r1 u t H locs ht hvm hw hB hz1 hk1 hS => ?_)
  obtain ⟨hP, hD, hK⟩ := JOIN (wr := []) hP hD hK [0, 1] [] [] rfl rfl (by decide) (by decide) rfl hk1 hFc ht hvm hB
  have hP : va_P (dC, dI) cls [(a0, .inr (15, [.ref a4, .int 0, .int (-1), .int 0, .ref a5, .ref a6, .ref a7, .ref a8, .ref a9])), (a6, .inl (k11, 0, .inr (.inr (.inr (.inr (fun _ => none))))))] H := hP
  have hD : va_D A [(a0, .inr (15, [.ref a4, .int 0, .int (-1), .int 0, .ref a5, .ref a6, .ref a7, .ref a8, .ref a9])), (a6, .inl (k11, 0, .inr (.inr (.inr (.inr (fun _ => none))))))] := hD
  have hK : va_K (dC, dI) cls [(k11, .object RX14)] s := hK
  refine W.widen (k := 0) (n := 0) (Nat.le_of_ble_eq_true rfl) (Nat.le_of_ble_eq_true rfl) ?_
  obtain rfl : r1 = 0 := hw
  refine lv_if_eq (tgt := 46) hx hb dX24_inStep_11 (by decide) (fun _ => ?_) (fun c => absurd (by decide) c)
  refine lv_aload_n hx hb dX24_inStep_46 rfl (lv_at hl 0 rfl) ?_
  refine lv_iconst (v := 1) hx hb dX24_inStep_47 (by decide) ?_
  have hPc := hP.sub (ws' := [(a0, .inr (15, [.ref a4, .int 0, .int (-1), .int 0, .ref a5, .ref a6, .ref a7, .ref a8, .ref a9]))]) [0] rfl
  have hDc := hD.sub (ws' := [(a0, .inr (15, [.ref a4, .int 0, .int (-1), .int 0, .ref a5, .ref a6, .ref a7, .ref a8, .ref a9]))]) [0] (by decide) rfl
  have hKc := hK.sub (tys' := []) [] rfl
  have hFc := va_free (wc := [(a0, .inr (15, [.ref a4, .int 0, .int (-1), .int 0, .ref a5, .ref a6, .ref a7, .ref a8, .ref a9]))]) hD hS hA [0] rfl
  refine va_calli (va_runV (As := [.int 1]) (rest := []) ⟨hx, hb, hml, hown, hts⟩ (kX24_no_n39 l dC dI (a0 := a0) (a1 := a4) (a2 := a5) (a3 := a6) (a4 := a7) (a5 := a8) (a6 := a9) (sz := _)) (cwV 1 hts (gi_V qw436 qw437 qw438 qw434 (gi_z qw435)) rfl rfl rfl (by decide +kernel) ⟨Nat.le_of_ble_eq_true rfl, Nat.le_of_ble_eq_true rfl⟩) ⟨PRE.blind, va_recv hKc hPc (ci := 15) (q0 := 0) rfl rfl, PRE.of hE hS hFc hPc hKc hDc⟩ rfl rfl hl.1 rfl (lv_room (Nat.le_of_ble_eq_true rfl)) dX24_inStep_48 ⟨Nat.le_of_ble_eq_true rfl, Nat.le_of_ble_eq_true rfl⟩) hS (fun q _ h => hFc q h) hFc (fun r2 u t H locs ht hvm hw hB hz1 hk1 hS => ?_)
  obtain ⟨hP, hD, hK⟩ := JOIN (wr := [(a6, .inl (k11, 0, .inr (.inr (.inr (.inr (fun _ => none))))))]) hP hD hK [0] [1] [0] rfl rfl (by decide) (by decide) rfl hk1 hFc ht hvm hB
  have hP : va_P (dC, dI) cls [(a6, .inl (k11, 0, .inr (.inr (.inr (.inr (fun _ => none)))))), (a0, .inr (15, [.ref a4, .int 0, .int (-1), .int 1, .ref a5, .ref a6, .ref a7, .ref a8, .ref a9]))] H := hP
  have hD : va_D A [(a6, .inl (k11, 0, .inr (.inr (.inr (.inr (fun _ => none)))))), (a0, .inr (15, [.ref a4, .int 0, .int (-1), .int 1, .ref a5, .ref a6, .ref a7, .ref a8, .ref a9]))] := hD
  have hK : va_K (dC, dI) cls [(k11, .object RX14)] s := hK
  refine W.widen (k := 0) (n := 0) (Nat.le_of_ble_eq_true rfl) (Nat.le_of_ble_eq_true rfl) ?_
  obtain rfl : r2 = 0 := hw
  have hP9 : va_P (dC, dI) cls [(a6, .inl (k11, 0, .inr (.inr (.inr (.inr (fun _ => none)))))), (a0, .inr (15, [.ref a4, .int 0, .int (-1), .int 1, .ref a5, .ref a6, .ref a7, .ref a8, .ref a9]))] H := hP.sub [0, 1] rfl
  have hD9 : va_D A [(a6, .inl (k11, 0, .inr (.inr (.inr (.inr (fun _ => none)))))), (a0, .inr (15, [.ref a4, .int 0, .int (-1), .int 1, .ref a5, .ref a6, .ref a7, .ref a8, .ref a9]))] := hD.sub [0, 1] (by decide) rfl
  have hK9 : va_K (dC, dI) cls [(k11, .object RX14)] s := hK.sub [0] rfl
  exact W.iret (v := 0) hx hb hr (fun t ht hW => ⟨⟨0, (), rfl, rfl, ⟨by rw [ht]; exact hP9, va_K.moved hW.alike hK9, hD9⟩⟩, hS.F ht⟩) hS.2.2 dX24_inStep_51
set_option maxHeartbeats 4000000 in
set_option maxRecDepth 100000 in
theorem kX24_leftOf {zs : Nat × Nat} (l : Launch) (dC : Nat → ClassId) (dI : Nat → Nat → Nat) (mx : Nat) (mq1 : Nat) (mq3 : Nat) (mq4 : Nat) (mc5 : ClassId) (mq6 : Nat) (mq8 : Nat) (mq22 : Nat) (p0 : Int32) (p1 : Int32) (p2 : Int32) (sz : Nat)  : Met l yX24_leftOf (wz yX24_leftOf cX24_leftOf 4 (Option.some Jvm.ClassFile.FieldType.int)) ({ frames := 3, cells := 0, slots := 0, locals := 67 }) (va_Pc [.ref mx, .int p0, .int p1, .int p2] (PRE zs dC dI [(mx, .inr (15, [.ref mq1, .int 0, .int (-1), .int 0, .ref mq3, .ref mq4, .ref mq6, .ref mq8, .ref mq22])), (mq4, .inl (mc5, 0, .inr (.inr (.inr (.inr (fun _ => none))))))] [(mc5, .object RX14)] sz)) (va_Qi (fun (r : Int32) (_ : Unit) => r = 0) (fun _ t => POST dC dI [(mx, .inr (15, [.ref mq1, .int 0, .int (-1), .int 1, .ref mq3, .ref mq4, .ref mq6, .ref mq8, .ref mq22]))] [] (va_A [(mx, .inr (15, [.ref mq1, .int 0, .int (-1), .int 0, .ref mq3, .ref mq4, .ref mq6, .ref mq8, .ref mq22])), (mq4, .inl (mc5, 0, .inr (.inr (.inr (.inr (fun _ => none))))))] sz) t) (va_A [(mx, .inr (15, [.ref mq1, .int 0, .int (-1), .int 0, .ref mq3, .ref mq4, .ref mq6, .ref mq8, .ref mq22])), (mq4, .inl (mc5, 0, .inr (.inr (.inr (.inr (fun _ => none))))))] sz)) 0 0 (va_A [(mx, .inr (15, [.ref mq1, .int 0, .int (-1), .int 0, .ref mq3, .ref mq4, .ref mq6, .ref mq8, .ref mq22])), (mq4, .inl (mc5, 0, .inr (.inr (.inr (.inr (fun _ => none))))))] sz) := by
  refine Met.ofW (cc := cX24_leftOf) (maxL := 4) (ret := (Option.some Jvm.ClassFile.FieldType.int)) (by decide) rfl ?_
  intro p e s m args below meth c s₁ B hml hv
  obtain ⟨rfl, hsz, hP, hK, hD0, hE⟩ := hv
  have hx := B.exec
  have hb := B.bytes
  have hr := B.returns
  have hts0 := atoms_spec (ws := wz yX24_leftOf cX24_leftOf 4 (Option.some Jvm.ClassFile.FieldType.int)) B.pre
  have hts : ∀ w ∈ gw, w.before _ s = true := fun w h => hts0 w (List.mem_cons_of_mem _ h)
  have hown : s.vm.findClass RX24 = some m.cls := findClass_of_methodNamed B.named
  have hlocks := B.notSynchronized
  subst hsz
  have hD := hD0.self (sz := s.heap.size)
  generalize hAe : va_A [(mx, .inr (15, [.ref mq1, .int 0, .int (-1), .int 0, .ref mq3, .ref mq4, .ref mq6, .ref mq8, .ref mq22])), (mq4, .inl (mc5, 0, .inr (.inr (.inr (.inr (fun _ => none))))))] s.heap.size = A at hD hE ⊢
  have hA : ∀ q : Nat, s.heap.size ≤ q → A q := fun q h => by rw [← hAe]; exact Or.inr h
  have hS : va_S A s.heap s.heap [] := va_S.rf
  have hP : va_P (dC, dI) cls [(mx, .inr (15, [.ref mq1, .int 0, .int (-1), .int 0, .ref mq3, .ref mq4, .ref mq6, .ref mq8, .ref mq22])), (mq4, .inl (mc5, 0, .inr (.inr (.inr (.inr (fun _ => none))))))] s.heap := hP
  have hl := lv_entry ([.ref mx, .int p0, .int p1, .int p2]) (n := 4) (Nat.le_of_ble_eq_true rfl)
  rw [lg_entry_eq]
  generalize (lg_sl ([.ref mx, .int p0, .int p1, .int p2]) ++ List.replicate (4 - (lg_sl ([.ref mx, .int p0, .int p1, .int p2])).length) Slot.unset).toArray = ls at hl ⊢
  have hl : lv_has ls 4 [(0, .ref mx), (1, .int p0), (2, .int p1), (3, .int p2)] := hl
  refine lv_aload_n hx hb dX24_leftOf_0 rfl (lv_at hl 0 rfl) ?_
  refine lv_iload_n hx hb dX24_leftOf_1 rfl (lv_at hl 1 rfl) ?_
  refine lv_iload_n hx hb dX24_leftOf_2 rfl (lv_at hl 2 rfl) ?_
  refine lv_iload_n hx hb dX24_leftOf_3 rfl (lv_at hl 3 rfl) ?_
  refine lv_iconst (v := 2) hx hb dX24_leftOf_4 (by decide) ?_
  have hPc := hP.sub (ws' := [(mx, .inr (15, [.ref mq1, .int 0, .int (-1), .int 0, .ref mq3, .ref mq4, .ref mq6, .ref mq8, .ref mq22])), (mq4, .inl (mc5, 0, .inr (.inr (.inr (.inr (fun _ => none))))))]) [0, 1] rfl
  have hDc := hD.sub (ws' := [(mx, .inr (15, [.ref mq1, .int 0, .int (-1), .int 0, .ref mq3, .ref mq4, .ref mq6, .ref mq8, .ref mq22])), (mq4, .inl (mc5, 0, .inr (.inr (.inr (.inr (fun _ => none))))))]) [0, 1] (by decide) rfl
  have hKc := hK.sub (tys' := [(mc5, .object RX14)]) [0] rfl
  have hFc := va_free (wc := [(mx, .inr (15, [.ref mq1, .int 0, .int (-1), .int 0, .ref mq3, .ref mq4, .ref mq6, .ref mq8, .ref mq22])), (mq4, .inl (mc5, 0, .inr (.inr (.inr (.inr (fun _ => none))))))]) hD hS hA [0, 1] rfl
  refine va_calli (va_runV (As := [.int p0, .int p1, .int p2, .int 2]) (rest := []) ⟨hx, hb, hml, hown, hts⟩ (kX24_inStep_n52 l dC dI (a0 := mx) (i1 := p0) (i2 := p1) (i3 := p2) (a4 := mq1) (a5 := mq3) (a6 := mq4) (a7 := mq6) (a8 := mq8) (a9 := mq22) (k11 := mc5) (sz := _)) (cwV 4 hts (gi_V qw467 qw468 qw469 qw434 (gi_z qw466)) rfl rfl rfl (by decide +kernel) ⟨Nat.le_of_ble_eq_true rfl, Nat.le_of_ble_eq_true rfl⟩) ⟨PRE.blind, va_recv hKc hPc (ci := 15) (q0 := 0) rfl rfl, PRE.of hE hS hFc hPc hKc hDc⟩ rfl rfl hl.1 rfl (lv_room (Nat.le_of_ble_eq_true rfl)) dX24_leftOf_5 ⟨Nat.le_of_ble_eq_true rfl, Nat.le_of_ble_eq_true rfl⟩) hS (fun q _ h => hFc q h) hFc (fun r1 u t H locs ht hvm hw hB hz1 hk1 hS => ?_)
  obtain ⟨hP, hD, hK⟩ := JOIN (wr := []) hP hD hK [0, 1] [] [] rfl rfl (by decide) (by decide) rfl hk1 hFc ht hvm hB
  have hP : va_P (dC, dI) cls [(mq4, .inl (mc5, 0, .inr (.inr (.inr (.inr (fun _ => none)))))), (mx, .inr (15, [.ref mq1, .int 0, .int (-1), .int 1, .ref mq3, .ref mq4, .ref mq6, .ref mq8, .ref mq22]))] H := hP
  have hD : va_D A [(mq4, .inl (mc5, 0, .inr (.inr (.inr (.inr (fun _ => none)))))), (mx, .inr (15, [.ref mq1, .int 0, .int (-1), .int 1, .ref mq3, .ref mq4, .ref mq6, .ref mq8, .ref mq22]))] := hD
  have hK : va_K (dC, dI) cls [(mc5, .object RX14)] s := hK
  refine W.widen (k := 0) (n := 0) (Nat.le_of_ble_eq_true rfl) (Nat.le_of_ble_eq_true rfl) ?_
  obtain rfl : r1 = 0 := hw
  have hP9 : va_P (dC, dI) cls [(mx, .inr (15, [.ref mq1, .int 0, .int (-1), .int 1, .ref mq3, .ref mq4, .ref mq6, .ref mq8, .ref mq22]))] H := hP.sub [1] rfl
  have hD9 : va_D A [(mx, .inr (15, [.ref mq1, .int 0, .int (-1), .int 1, .ref mq3, .ref mq4, .ref mq6, .ref mq8, .ref mq22]))] := hD.sub [1] (by decide) rfl
  have hK9 : va_K (dC, dI) cls [] s := hK.sub [] rfl
  exact W.iret (v := 0) hx hb hr (fun t ht hW => ⟨⟨0, (), rfl, rfl, ⟨by rw [ht]; exact hP9, va_K.moved hW.alike hK9, hD9⟩⟩, hS.F ht⟩) hS.2.2 dX24_leftOf_8
set_option maxHeartbeats 4000000 in
set_option maxRecDepth 100000 in
/-- GearboxModel.inStep, from the state that its caller has -/
theorem kX24_inStep_n53 {zs : Nat × Nat} (l : Launch) (dC : Nat → ClassId) (dI : Nat → Nat → Nat) (a0 : Nat) (i1 : Int32) (i2 : Int32) (i3 : Int32) (a4 : Nat) (a5 : Nat) (a6 : Nat) (a7 : Nat) (a8 : Nat) (a9 : Nat) (k11 : ClassId) (sz : Nat)  : Met l yX24_inStep (wz yX24_inStep cX24_inStep 5 (Option.some Jvm.ClassFile.FieldType.int)) ({ frames := 2, cells := 0, slots := 0, locals := 43 }) (va_Pc [.ref a0, .int i1, .int i2, .int i3, .int 3] (PRE zs dC dI [(a0, .inr (15, [.ref a4, .int 0, .int (-1), .int 0, .ref a5, .ref a6, .ref a7, .ref a8, .ref a9])), (a6, .inl (k11, 0, .inr (.inr (.inr (.inr (fun _ => none))))))] [(k11, .object RX14)] sz)) (va_Qi (fun (r : Int32) (_ : Unit) => r = 0) (fun _ t => POST dC dI [(a6, .inl (k11, 0, .inr (.inr (.inr (.inr (fun _ => none)))))), (a0, .inr (15, [.ref a4, .int 0, .int (-1), .int 1, .ref a5, .ref a6, .ref a7, .ref a8, .ref a9]))] [(k11, .object RX14)] (va_A [(a0, .inr (15, [.ref a4, .int 0, .int (-1), .int 0, .ref a5, .ref a6, .ref a7, .ref a8, .ref a9])), (a6, .inl (k11, 0, .inr (.inr (.inr (.inr (fun _ => none))))))] sz) t) (va_A [(a0, .inr (15, [.ref a4, .int 0, .int (-1), .int 0, .ref a5, .ref a6, .ref a7, .ref a8, .ref a9])), (a6, .inl (k11, 0, .inr (.inr (.inr (.inr (fun _ => none))))))] sz)) 0 0 (va_A [(a0, .inr (15, [.ref a4, .int 0, .int (-1), .int 0, .ref a5, .ref a6, .ref a7, .ref a8, .ref a9])), (a6, .inl (k11, 0, .inr (.inr (.inr (.inr (fun _ => none))))))] sz) := by
  refine Met.ofW (cc := cX24_inStep) (maxL := 5) (ret := (Option.some Jvm.ClassFile.FieldType.int)) (by decide) rfl ?_
  intro p e s m args below meth c s₁ B hml hv
  obtain ⟨rfl, hsz, hP, hK, hD0, hE⟩ := hv
  have hx := B.exec
  have hb := B.bytes
  have hr := B.returns
  have hts0 := atoms_spec (ws := wz yX24_inStep cX24_inStep 5 (Option.some Jvm.ClassFile.FieldType.int)) B.pre
  have hts : ∀ w ∈ gw, w.before _ s = true := fun w h => hts0 w (List.mem_cons_of_mem _ h)
  have hown : s.vm.findClass RX24 = some m.cls := findClass_of_methodNamed B.named
  have hlocks := B.notSynchronized
  subst hsz
  have hD := hD0.self (sz := s.heap.size)
  generalize hAe : va_A [(a0, .inr (15, [.ref a4, .int 0, .int (-1), .int 0, .ref a5, .ref a6, .ref a7, .ref a8, .ref a9])), (a6, .inl (k11, 0, .inr (.inr (.inr (.inr (fun _ => none))))))] s.heap.size = A at hD hE ⊢
  have hA : ∀ q : Nat, s.heap.size ≤ q → A q := fun q h => by rw [← hAe]; exact Or.inr h
  have hS : va_S A s.heap s.heap [] := va_S.rf
  have hP : va_P (dC, dI) cls [(a0, .inr (15, [.ref a4, .int 0, .int (-1), .int 0, .ref a5, .ref a6, .ref a7, .ref a8, .ref a9])), (a6, .inl (k11, 0, .inr (.inr (.inr (.inr (fun _ => none))))))] s.heap := hP
  have hl := lv_entry ([.ref a0, .int i1, .int i2, .int i3, .int 3]) (n := 5) (Nat.le_of_ble_eq_true rfl)
  rw [lg_entry_eq]
  generalize (lg_sl ([.ref a0, .int i1, .int i2, .int i3, .int 3]) ++ List.replicate (5 - (lg_sl ([.ref a0, .int i1, .int i2, .int i3, .int 3])).length) Slot.unset).toArray = ls at hl ⊢
  have hl : lv_has ls 5 [(0, .ref a0), (1, .int i1), (2, .int i2), (3, .int i3), (4, .int 3)] := hl
  refine lv_aload_n hx hb dX24_inStep_0 rfl (lv_at hl 0 rfl) ?_
  refine lv_iconst (v := 0) hx hb dX24_inStep_1 (by decide) ?_
  refine va_put (D := (dC, dI)) (ci := 15) (v := .int 0) (ty := .int) (C := RX24) (T := TX24) (N := 9) hx hb hts i_X24 tyX24 tyX24_ok nmX24 hown hK hP hD hS 0 rfl rfl 3 (by decide) (hts _ qw428) (fun _ h9 => h9) rfl (by decide +kernel) rfl rfl (Nat.le_of_ble_eq_true rfl) dX24_inStep_2 (fun H locs hP hD hS => ?_)
  have hP : va_P (dC, dI) cls [(a0, .inr (15, [.ref a4, .int 0, .int (-1), .int 0, .ref a5, .ref a6, .ref a7, .ref a8, .ref a9])), (a6, .inl (k11, 0, .inr (.inr (.inr (.inr (fun _ => none))))))] H := hP
  have hD : va_D A [(a0, .inr (15, [.ref a4, .int 0, .int (-1), .int 0, .ref a5, .ref a6, .ref a7, .ref a8, .ref a9])), (a6, .inl (k11, 0, .inr (.inr (.inr (.inr (fun _ => none))))))] := hD
  refine lv_aload_n hx hb dX24_inStep_5 rfl (lv_at hl 0 rfl) ?_
  refine lv_iload_n hx hb dX24_inStep_6 rfl (lv_at hl 1 rfl) ?_
  refine lv_iload_n hx hb dX24_inStep_7 rfl (lv_at hl 2 rfl) ?_
  have hPc := hP.sub (ws' := [(a0, .inr (15, [.ref a4, .int 0, .int (-1), .int 0, .ref a5, .ref a6, .ref a7, .ref a8, .ref a9])), (a6, .inl (k11, 0, .inr (.inr (.inr (.inr (fun _ => none))))))]) [0, 1] rfl
  have hDc := hD.sub (ws' := [(a0, .inr (15, [.ref a4, .int 0, .int (-1), .int 0, .ref a5, .ref a6, .ref a7, .ref a8, .ref a9])), (a6, .inl (k11, 0, .inr (.inr (.inr (.inr (fun _ => none))))))]) [0, 1] (by decide) rfl
  have hKc := hK.sub (tys' := [(k11, .object RX14)]) [0] rfl
  have hFc := va_free (wc := [(a0, .inr (15, [.ref a4, .int 0, .int (-1), .int 0, .ref a5, .ref a6, .ref a7, .ref a8, .ref a9])), (a6, .inl (k11, 0, .inr (.inr (.inr (.inr (fun _ => none))))))]) hD hS hA [0, 1] rfl
  refine va_calli (va_runV (As := [.int i1, .int i2]) (rest := []) ⟨hx, hb, hml, hown, hts⟩ (kX24_isBlock_n48 l dC dI (a0 := a0) (i1 := i1) (i2 := i2) (a3 := a4) (a4 := a5) (a5 := a6) (a6 := a7) (a7 := a8) (a8 := a9) (k10 := k11) (sz := _)) (cwV 2 hts (gi_V qw455 qw456 qw457 qw434 (gi_z qw454)) rfl rfl rfl (by decide +kernel) ⟨Nat.le_of_ble_eq_true rfl, Nat.le_of_ble_eq_true rfl⟩) ⟨PRE.blind, va_recv hKc hPc (ci := 15) (q0 := 0) rfl rfl, PRE.of hE hS hFc hPc hKc hDc⟩ rfl rfl hl.1 rfl (lv_room (Nat.le_of_ble_eq_true rfl)) dX24_inStep_8 ⟨Nat.le_of_ble_eq_true rfl, Nat.le_of_ble_eq_true rfl⟩) hS (fun q _ h => hFc q h) hFc (fun r1 u t H locs ht hvm hw hB hz1 hk1 hS => ?_)
  obtain ⟨hP, hD, hK⟩ := JOIN (wr := []) hP hD hK [0, 1] [] [] rfl rfl (by decide) (by decide) rfl hk1 hFc ht hvm hB
  have hP : va_P (dC, dI) cls [(a0, .inr (15, [.ref a4, .int 0, .int (-1), .int 0, .ref a5, .ref a6, .ref a7, .ref a8, .ref a9])), (a6, .inl (k11, 0, .inr (.inr (.inr (.inr (fun _ => none))))))] H := hP
  have hD : va_D A [(a0, .inr (15, [.ref a4, .int 0, .int (-1), .int 0, .ref a5, .ref a6, .ref a7, .ref a8, .ref a9])), (a6, .inl (k11, 0, .inr (.inr (.inr (.inr (fun _ => none))))))] := hD
  have hK : va_K (dC, dI) cls [(k11, .object RX14)] s := hK
  refine W.widen (k := 0) (n := 0) (Nat.le_of_ble_eq_true rfl) (Nat.le_of_ble_eq_true rfl) ?_
  obtain rfl : r1 = 0 := hw
  refine lv_if_eq (tgt := 46) hx hb dX24_inStep_11 (by decide) (fun _ => ?_) (fun c => absurd (by decide) c)
  refine lv_aload_n hx hb dX24_inStep_46 rfl (lv_at hl 0 rfl) ?_
  refine lv_iconst (v := 1) hx hb dX24_inStep_47 (by decide) ?_
  have hPc := hP.sub (ws' := [(a0, .inr (15, [.ref a4, .int 0, .int (-1), .int 0, .ref a5, .ref a6, .ref a7, .ref a8, .ref a9]))]) [0] rfl
  have hDc := hD.sub (ws' := [(a0, .inr (15, [.ref a4, .int 0, .int (-1), .int 0, .ref a5, .ref a6, .ref a7, .ref a8, .ref a9]))]) [0] (by decide) rfl
  have hKc := hK.sub (tys' := []) [] rfl
  have hFc := va_free (wc := [(a0, .inr (15, [.ref a4, .int 0, .int (-1), .int 0, .ref a5, .ref a6, .ref a7, .ref a8, .ref a9]))]) hD hS hA [0] rfl
  refine va_calli (va_runV (As := [.int 1]) (rest := []) ⟨hx, hb, hml, hown, hts⟩ (kX24_no_n39 l dC dI (a0 := a0) (a1 := a4) (a2 := a5) (a3 := a6) (a4 := a7) (a5 := a8) (a6 := a9) (sz := _)) (cwV 1 hts (gi_V qw436 qw437 qw438 qw434 (gi_z qw435)) rfl rfl rfl (by decide +kernel) ⟨Nat.le_of_ble_eq_true rfl, Nat.le_of_ble_eq_true rfl⟩) ⟨PRE.blind, va_recv hKc hPc (ci := 15) (q0 := 0) rfl rfl, PRE.of hE hS hFc hPc hKc hDc⟩ rfl rfl hl.1 rfl (lv_room (Nat.le_of_ble_eq_true rfl)) dX24_inStep_48 ⟨Nat.le_of_ble_eq_true rfl, Nat.le_of_ble_eq_true rfl⟩) hS (fun q _ h => hFc q h) hFc (fun r2 u t H locs ht hvm hw hB hz1 hk1 hS => ?_)
  obtain ⟨hP, hD, hK⟩ := JOIN (wr := [(a6, .inl (k11, 0, .inr (.inr (.inr (.inr (fun _ => none))))))]) hP hD hK [0] [1] [0] rfl rfl (by decide) (by decide) rfl hk1 hFc ht hvm hB
  have hP : va_P (dC, dI) cls [(a6, .inl (k11, 0, .inr (.inr (.inr (.inr (fun _ => none)))))), (a0, .inr (15, [.ref a4, .int 0, .int (-1), .int 1, .ref a5, .ref a6, .ref a7, .ref a8, .ref a9]))] H := hP
  have hD : va_D A [(a6, .inl (k11, 0, .inr (.inr (.inr (.inr (fun _ => none)))))), (a0, .inr (15, [.ref a4, .int 0, .int (-1), .int 1, .ref a5, .ref a6, .ref a7, .ref a8, .ref a9]))] := hD
  have hK : va_K (dC, dI) cls [(k11, .object RX14)] s := hK
  refine W.widen (k := 0) (n := 0) (Nat.le_of_ble_eq_true rfl) (Nat.le_of_ble_eq_true rfl) ?_
  obtain rfl : r2 = 0 := hw
  have hP9 : va_P (dC, dI) cls [(a6, .inl (k11, 0, .inr (.inr (.inr (.inr (fun _ => none)))))), (a0, .inr (15, [.ref a4, .int 0, .int (-1), .int 1, .ref a5, .ref a6, .ref a7, .ref a8, .ref a9]))] H := hP.sub [0, 1] rfl
  have hD9 : va_D A [(a6, .inl (k11, 0, .inr (.inr (.inr (.inr (fun _ => none)))))), (a0, .inr (15, [.ref a4, .int 0, .int (-1), .int 1, .ref a5, .ref a6, .ref a7, .ref a8, .ref a9]))] := hD.sub [0, 1] (by decide) rfl
  have hK9 : va_K (dC, dI) cls [(k11, .object RX14)] s := hK.sub [0] rfl
  exact W.iret (v := 0) hx hb hr (fun t ht hW => ⟨⟨0, (), rfl, rfl, ⟨by rw [ht]; exact hP9, va_K.moved hW.alike hK9, hD9⟩⟩, hS.F ht⟩) hS.2.2 dX24_inStep_51
set_option maxHeartbeats 4000000 in
set_option maxRecDepth 100000 in
theorem kX24_rightOf {zs : Nat × Nat} (l : Launch) (dC : Nat → ClassId) (dI : Nat → Nat → Nat) (mx : Nat) (mq1 : Nat) (mq3 : Nat) (mq4 : Nat) (mc5 : ClassId) (mq6 : Nat) (mq8 : Nat) (mq22 : Nat) (p0 : Int32) (p1 : Int32) (p2 : Int32) (sz : Nat)  : Met l yX24_rightOf (wz yX24_rightOf cX24_rightOf 4 (Option.some Jvm.ClassFile.FieldType.int)) ({ frames := 3, cells := 0, slots := 0, locals := 67 }) (va_Pc [.ref mx, .int p0, .int p1, .int p2] (PRE zs dC dI [(mx, .inr (15, [.ref mq1, .int 0, .int (-1), .int 0, .ref mq3, .ref mq4, .ref mq6, .ref mq8, .ref mq22])), (mq4, .inl (mc5, 0, .inr (.inr (.inr (.inr (fun _ => none))))))] [(mc5, .object RX14)] sz)) (va_Qi (fun (r : Int32) (_ : Unit) => r = 0) (fun _ t => POST dC dI [(mx, .inr (15, [.ref mq1, .int 0, .int (-1), .int 1, .ref mq3, .ref mq4, .ref mq6, .ref mq8, .ref mq22]))] [] (va_A [(mx, .inr (15, [.ref mq1, .int 0, .int (-1), .int 0, .ref mq3, .ref mq4, .ref mq6, .ref mq8, .ref mq22])), (mq4, .inl (mc5, 0, .inr (.inr (.inr (.inr (fun _ => none))))))] sz) t) (va_A [(mx, .inr (15, [.ref mq1, .int 0, .int (-1), .int 0, .ref mq3, .ref mq4, .ref mq6, .ref mq8, .ref mq22])), (mq4, .inl (mc5, 0, .inr (.inr (.inr (.inr (fun _ => none))))))] sz)) 0 0 (va_A [(mx, .inr (15, [.ref mq1, .int 0, .int (-1), .int 0, .ref mq3, .ref mq4, .ref mq6, .ref mq8, .ref mq22])), (mq4, .inl (mc5, 0, .inr (.inr (.inr (.inr (fun _ => none))))))] sz) := by
  refine Met.ofW (cc := cX24_rightOf) (maxL := 4) (ret := (Option.some Jvm.ClassFile.FieldType.int)) (by decide) rfl ?_
  intro p e s m args below meth c s₁ B hml hv
  obtain ⟨rfl, hsz, hP, hK, hD0, hE⟩ := hv
  have hx := B.exec
  have hb := B.bytes
  have hr := B.returns
  have hts0 := atoms_spec (ws := wz yX24_rightOf cX24_rightOf 4 (Option.some Jvm.ClassFile.FieldType.int)) B.pre
  have hts : ∀ w ∈ gw, w.before _ s = true := fun w h => hts0 w (List.mem_cons_of_mem _ h)
  have hown : s.vm.findClass RX24 = some m.cls := findClass_of_methodNamed B.named
  have hlocks := B.notSynchronized
  subst hsz
  have hD := hD0.self (sz := s.heap.size)
  generalize hAe : va_A [(mx, .inr (15, [.ref mq1, .int 0, .int (-1), .int 0, .ref mq3, .ref mq4, .ref mq6, .ref mq8, .ref mq22])), (mq4, .inl (mc5, 0, .inr (.inr (.inr (.inr (fun _ => none))))))] s.heap.size = A at hD hE ⊢
  have hA : ∀ q : Nat, s.heap.size ≤ q → A q := fun q h => by rw [← hAe]; exact Or.inr h
  have hS : va_S A s.heap s.heap [] := va_S.rf
  have hP : va_P (dC, dI) cls [(mx, .inr (15, [.ref mq1, .int 0, .int (-1), .int 0, .ref mq3, .ref mq4, .ref mq6, .ref mq8, .ref mq22])), (mq4, .inl (mc5, 0, .inr (.inr (.inr (.inr (fun _ => none))))))] s.heap := hP
  have hl := lv_entry ([.ref mx, .int p0, .int p1, .int p2]) (n := 4) (Nat.le_of_ble_eq_true rfl)
  rw [lg_entry_eq]
  generalize (lg_sl ([.ref mx, .int p0, .int p1, .int p2]) ++ List.replicate (4 - (lg_sl ([.ref mx, .int p0, .int p1, .int p2])).length) Slot.unset).toArray = ls at hl ⊢
  have hl : lv_has ls 4 [(0, .ref mx), (1, .int p0), (2, .int p1), (3, .int p2)] := hl
  refine lv_aload_n hx hb dX24_rightOf_0 rfl (lv_at hl 0 rfl) ?_
  refine lv_iload_n hx hb dX24_rightOf_1 rfl (lv_at hl 1 rfl) ?_
  refine lv_iload_n hx hb dX24_rightOf_2 rfl (lv_at hl 2 rfl) ?_
  refine lv_iload_n hx hb dX24_rightOf_3 rfl (lv_at hl 3 rfl) ?_
  refine lv_iconst (v := 3) hx hb dX24_rightOf_4 (by decide) ?_
  have hPc := hP.sub (ws' := [(mx, .inr (15, [.ref mq1, .int 0, .int (-1), .int 0, .ref mq3, .ref mq4, .ref mq6, .ref mq8, .ref mq22])), (mq4, .inl (mc5, 0, .inr (.inr (.inr (.inr (fun _ => none))))))]) [0, 1] rfl
  have hDc := hD.sub (ws' := [(mx, .inr (15, [.ref mq1, .int 0, .int (-1), .int 0, .ref mq3, .ref mq4, .ref mq6, .ref mq8, .ref mq22])), (mq4, .inl (mc5, 0, .inr (.inr (.inr (.inr (fun _ => none))))))]) [0, 1] (by decide) rfl
  have hKc := hK.sub (tys' := [(mc5, .object RX14)]) [0] rfl
  have hFc := va_free (wc := [(mx, .inr (15, [.ref mq1, .int 0, .int (-1), .int 0, .ref mq3, .ref mq4, .ref mq6, .ref mq8, .ref mq22])), (mq4, .inl (mc5, 0, .inr (.inr (.inr (.inr (fun _ => none))))))]) hD hS hA [0, 1] rfl
  refine va_calli (va_runV (As := [.int p0, .int p1, .int p2, .int 3]) (rest := []) ⟨hx, hb, hml, hown, hts⟩ (kX24_inStep_n53 l dC dI (a0 := mx) (i1 := p0) (i2 := p1) (i3 := p2) (a4 := mq1) (a5 := mq3) (a6 := mq4) (a7 := mq6) (a8 := mq8) (a9 := mq22) (k11 := mc5) (sz := _)) (cwV 4 hts (gi_V qw467 qw468 qw469 qw434 (gi_z qw466)) rfl rfl rfl (by decide +kernel) ⟨Nat.le_of_ble_eq_true rfl, Nat.le_of_ble_eq_true rfl⟩) ⟨PRE.blind, va_recv hKc hPc (ci := 15) (q0 := 0) rfl rfl, PRE.of hE hS hFc hPc hKc hDc⟩ rfl rfl hl.1 rfl (lv_room (Nat.le_of_ble_eq_true rfl)) dX24_rightOf_5 ⟨Nat.le_of_ble_eq_true rfl, Nat.le_of_ble_eq_true rfl⟩) hS (fun q _ h => hFc q h) hFc (fun r1 u t H locs ht hvm hw hB hz1 hk1 hS => ?_)
  obtain ⟨hP, hD, hK⟩ := JOIN (wr := []) hP hD hK [0, 1] [] [] rfl rfl (by decide) (by decide) rfl hk1 hFc ht hvm hB
  have hP : va_P (dC, dI) cls [(mq4, .inl (mc5, 0, .inr (.inr (.inr (.inr (fun _ => none)))))), (mx, .inr (15, [.ref mq1, .int 0, .int (-1), .int 1, .ref mq3, .ref mq4, .ref mq6, .ref mq8, .ref mq22]))] H := hP
  have hD : va_D A [(mq4, .inl (mc5, 0, .inr (.inr (.inr (.inr (fun _ => none)))))), (mx, .inr (15, [.ref mq1, .int 0, .int (-1), .int 1, .ref mq3, .ref mq4, .ref mq6, .ref mq8, .ref mq22]))] := hD
  have hK : va_K (dC, dI) cls [(mc5, .object RX14)] s := hK
  refine W.widen (k := 0) (n := 0) (Nat.le_of_ble_eq_true rfl) (Nat.le_of_ble_eq_true rfl) ?_
  obtain rfl : r1 = 0 := hw
  have hP9 : va_P (dC, dI) cls [(mx, .inr (15, [.ref mq1, .int 0, .int (-1), .int 1, .ref mq3, .ref mq4, .ref mq6, .ref mq8, .ref mq22]))] H := hP.sub [1] rfl
  have hD9 : va_D A [(mx, .inr (15, [.ref mq1, .int 0, .int (-1), .int 1, .ref mq3, .ref mq4, .ref mq6, .ref mq8, .ref mq22]))] := hD.sub [1] (by decide) rfl
  have hK9 : va_K (dC, dI) cls [] s := hK.sub [] rfl
  exact W.iret (v := 0) hx hb hr (fun t ht hW => ⟨⟨0, (), rfl, rfl, ⟨by rw [ht]; exact hP9, va_K.moved hW.alike hK9, hD9⟩⟩, hS.F ht⟩) hS.2.2 dX24_rightOf_8
set_option maxHeartbeats 4000000 in
set_option maxRecDepth 100000 in
theorem kX24_lines {zs : Nat × Nat} (l : Launch) (dC : Nat → ClassId) (dI : Nat → Nat → Nat) (mx : Nat) (mq1 : Nat) (mq3 : Nat) (mq4 : Nat) (mc5 : ClassId) (mq6 : Nat) (mq8 : Nat) (mq22 : Nat) (p0 : Int32) (sz : Nat)  : Met l yX24_lines (wz yX24_lines cX24_lines 2 (Option.some Jvm.ClassFile.FieldType.int)) ({ frames := 1, cells := 0, slots := 0, locals := 21 }) (va_Pc [.ref mx, .int p0] (PRE zs dC dI [(mx, .inr (15, [.ref mq1, .int 0, .int (-1), .int 0, .ref mq3, .ref mq4, .ref mq6, .ref mq8, .ref mq22])), (mq4, .inl (mc5, 0, .inr (.inr (.inr (.inr (fun _ => none))))))] [(mc5, .object RX14)] sz)) (va_Qi (fun (r : Int32) (_ : Unit) => r = 0) (fun _ t => POST dC dI [(mx, .inr (15, [.ref mq1, .int 0, .int (-1), .int 1, .ref mq3, .ref mq4, .ref mq6, .ref mq8, .ref mq22]))] [] (va_A [(mx, .inr (15, [.ref mq1, .int 0, .int (-1), .int 0, .ref mq3, .ref mq4, .ref mq6, .ref mq8, .ref mq22])), (mq4, .inl (mc5, 0, .inr (.inr (.inr (.inr (fun _ => none))))))] sz) t) (va_A [(mx, .inr (15, [.ref mq1, .int 0, .int (-1), .int 0, .ref mq3, .ref mq4, .ref mq6, .ref mq8, .ref mq22])), (mq4, .inl (mc5, 0, .inr (.inr (.inr (.inr (fun _ => none))))))] sz)) 0 0 (va_A [(mx, .inr (15, [.ref mq1, .int 0, .int (-1), .int 0, .ref mq3, .ref mq4, .ref mq6, .ref mq8, .ref mq22])), (mq4, .inl (mc5, 0, .inr (.inr (.inr (.inr (fun _ => none))))))] sz) := by
  refine Met.ofW (cc := cX24_lines) (maxL := 2) (ret := (Option.some Jvm.ClassFile.FieldType.int)) (by decide) rfl ?_
  intro p e s m args below meth c s₁ B hml hv
  obtain ⟨rfl, hsz, hP, hK, hD0, hE⟩ := hv
  have hx := B.exec
  have hb := B.bytes
  have hr := B.returns
  have hts0 := atoms_spec (ws := wz yX24_lines cX24_lines 2 (Option.some Jvm.ClassFile.FieldType.int)) B.pre
  have hts : ∀ w ∈ gw, w.before _ s = true := fun w h => hts0 w (List.mem_cons_of_mem _ h)
  have hown : s.vm.findClass RX24 = some m.cls := findClass_of_methodNamed B.named
  have hlocks := B.notSynchronized
  subst hsz
  have hD := hD0.self (sz := s.heap.size)
  generalize hAe : va_A [(mx, .inr (15, [.ref mq1, .int 0, .int (-1), .int 0, .ref mq3, .ref mq4, .ref mq6, .ref mq8, .ref mq22])), (mq4, .inl (mc5, 0, .inr (.inr (.inr (.inr (fun _ => none))))))] s.heap.size = A at hD hE ⊢
  have hA : ∀ q : Nat, s.heap.size ≤ q → A q := fun q h => by rw [← hAe]; exact Or.inr h
  have hS : va_S A s.heap s.heap [] := va_S.rf
  have hP : va_P (dC, dI) cls [(mx, .inr (15, [.ref mq1, .int 0, .int (-1), .int 0, .ref mq3, .ref mq4, .ref mq6, .ref mq8, .ref mq22])), (mq4, .inl (mc5, 0, .inr (.inr (.inr (.inr (fun _ => none))))))] s.heap := hP
  have hl := lv_entry ([.ref mx, .int p0]) (n := 2) (Nat.le_of_ble_eq_true rfl)
  rw [lg_entry_eq]
  generalize (lg_sl ([.ref mx, .int p0]) ++ List.replicate (2 - (lg_sl ([.ref mx, .int p0])).length) Slot.unset).toArray = ls at hl ⊢
  have hl : lv_has ls 2 [(0, .ref mx), (1, .int p0)] := hl
  refine lv_aload_n hx hb dX24_lines_0 rfl (lv_at hl 0 rfl) ?_
  refine lv_iconst (v := 0) hx hb dX24_lines_1 (by decide) ?_
  refine va_put (D := (dC, dI)) (ci := 15) (v := .int 0) (ty := .int) (C := RX24) (T := TX24) (N := 9) hx hb hts i_X24 tyX24 tyX24_ok nmX24 hown hK hP hD hS 0 rfl rfl 3 (by decide) (hts _ qw428) (fun _ h9 => h9) rfl (by decide +kernel) rfl rfl (Nat.le_of_ble_eq_true rfl) dX24_lines_2 (fun H locs hP hD hS => ?_)
  have hP : va_P (dC, dI) cls [(mx, .inr (15, [.ref mq1, .int 0, .int (-1), .int 0, .ref mq3, .ref mq4, .ref mq6, .ref mq8, .ref mq22])), (mq4, .inl (mc5, 0, .inr (.inr (.inr (.inr (fun _ => none))))))] H := hP
  have hD : va_D A [(mx, .inr (15, [.ref mq1, .int 0, .int (-1), .int 0, .ref mq3, .ref mq4, .ref mq6, .ref mq8, .ref mq22])), (mq4, .inl (mc5, 0, .inr (.inr (.inr (.inr (fun _ => none))))))] := hD
  refine lv_aload_n hx hb dX24_lines_5 rfl (lv_at hl 0 rfl) ?_
  refine lv_iload_n hx hb dX24_lines_6 rfl (lv_at hl 1 rfl) ?_
  have hPc := hP.sub (ws' := [(mx, .inr (15, [.ref mq1, .int 0, .int (-1), .int 0, .ref mq3, .ref mq4, .ref mq6, .ref mq8, .ref mq22])), (mq4, .inl (mc5, 0, .inr (.inr (.inr (.inr (fun _ => none))))))]) [0, 1] rfl
  have hDc := hD.sub (ws' := [(mx, .inr (15, [.ref mq1, .int 0, .int (-1), .int 0, .ref mq3, .ref mq4, .ref mq6, .ref mq8, .ref mq22])), (mq4, .inl (mc5, 0, .inr (.inr (.inr (.inr (fun _ => none))))))]) [0, 1] (by decide) rfl
  have hKc := hK.sub (tys' := [(mc5, .object RX14)]) [0] rfl
  have hFc := va_free (wc := [(mx, .inr (15, [.ref mq1, .int 0, .int (-1), .int 0, .ref mq3, .ref mq4, .ref mq6, .ref mq8, .ref mq22])), (mq4, .inl (mc5, 0, .inr (.inr (.inr (.inr (fun _ => none))))))]) hD hS hA [0, 1] rfl
  refine va_calli (va_runV (As := [.int p0]) (rest := []) ⟨hx, hb, hml, hown, hts⟩ (kX24_isFunction_n47 l dC dI (a0 := mx) (i1 := p0) (a2 := mq1) (a3 := mq3) (a4 := mq4) (a5 := mq6) (a6 := mq8) (a7 := mq22) (k9 := mc5) (sz := _)) (cwV 1 hts (gi_V qw451 qw452 qw453 qw434 (gi_z qw450)) rfl rfl rfl (by decide +kernel) ⟨Nat.le_of_ble_eq_true rfl, Nat.le_of_ble_eq_true rfl⟩) ⟨PRE.blind, va_recv hKc hPc (ci := 15) (q0 := 0) rfl rfl, PRE.of hE hS hFc hPc hKc hDc⟩ rfl rfl hl.1 rfl (lv_room (Nat.le_of_ble_eq_true rfl)) dX24_lines_7 ⟨Nat.le_of_ble_eq_true rfl, Nat.le_of_ble_eq_true rfl⟩) hS (fun q _ h => hFc q h) hFc (fun r1 u t H locs ht hvm hw hB hz1 hk1 hS => ?_)
  obtain ⟨hP, hD, hK⟩ := JOIN (wr := []) hP hD hK [0, 1] [] [] rfl rfl (by decide) (by decide) rfl hk1 hFc ht hvm hB
  have hP : va_P (dC, dI) cls [(mx, .inr (15, [.ref mq1, .int 0, .int (-1), .int 0, .ref mq3, .ref mq4, .ref mq6, .ref mq8, .ref mq22])), (mq4, .inl (mc5, 0, .inr (.inr (.inr (.inr (fun _ => none))))))] H := hP
  have hD : va_D A [(mx, .inr (15, [.ref mq1, .int 0, .int (-1), .int 0, .ref mq3, .ref mq4, .ref mq6, .ref mq8, .ref mq22])), (mq4, .inl (mc5, 0, .inr (.inr (.inr (.inr (fun _ => none))))))] := hD
  have hK : va_K (dC, dI) cls [(mc5, .object RX14)] s := hK
  refine W.widen (k := 0) (n := 0) (Nat.le_of_ble_eq_true rfl) (Nat.le_of_ble_eq_true rfl) ?_
  obtain rfl : r1 = 0 := hw
  refine lv_if_eq (tgt := 36) hx hb dX24_lines_10 (by decide) (fun _ => ?_) (fun c => absurd (by decide) c)
  refine lv_aload_n hx hb dX24_lines_36 rfl (lv_at hl 0 rfl) ?_
  refine lv_iconst (v := 1) hx hb dX24_lines_37 (by decide) ?_
  have hPc := hP.sub (ws' := [(mx, .inr (15, [.ref mq1, .int 0, .int (-1), .int 0, .ref mq3, .ref mq4, .ref mq6, .ref mq8, .ref mq22]))]) [0] rfl
  have hDc := hD.sub (ws' := [(mx, .inr (15, [.ref mq1, .int 0, .int (-1), .int 0, .ref mq3, .ref mq4, .ref mq6, .ref mq8, .ref mq22]))]) [0] (by decide) rfl
  have hKc := hK.sub (tys' := []) [] rfl
  have hFc := va_free (wc := [(mx, .inr (15, [.ref mq1, .int 0, .int (-1), .int 0, .ref mq3, .ref mq4, .ref mq6, .ref mq8, .ref mq22]))]) hD hS hA [0] rfl
  refine va_calli (va_runV (As := [.int 1]) (rest := []) ⟨hx, hb, hml, hown, hts⟩ (kX24_no_n39 l dC dI (a0 := mx) (a1 := mq1) (a2 := mq3) (a3 := mq4) (a4 := mq6) (a5 := mq8) (a6 := mq22) (sz := _)) (cwV 1 hts (gi_V qw436 qw437 qw438 qw434 (gi_z qw435)) rfl rfl rfl (by decide +kernel) ⟨Nat.le_of_ble_eq_true rfl, Nat.le_of_ble_eq_true rfl⟩) ⟨PRE.blind, va_recv hKc hPc (ci := 15) (q0 := 0) rfl rfl, PRE.of hE hS hFc hPc hKc hDc⟩ rfl rfl hl.1 rfl (lv_room (Nat.le_of_ble_eq_true rfl)) dX24_lines_38 ⟨Nat.le_of_ble_eq_true rfl, Nat.le_of_ble_eq_true rfl⟩) hS (fun q _ h => hFc q h) hFc (fun r2 u t H locs ht hvm hw hB hz1 hk1 hS => ?_)
  obtain ⟨hP, hD, hK⟩ := JOIN (wr := [(mq4, .inl (mc5, 0, .inr (.inr (.inr (.inr (fun _ => none))))))]) hP hD hK [0] [1] [0] rfl rfl (by decide) (by decide) rfl hk1 hFc ht hvm hB
  have hP : va_P (dC, dI) cls [(mq4, .inl (mc5, 0, .inr (.inr (.inr (.inr (fun _ => none)))))), (mx, .inr (15, [.ref mq1, .int 0, .int (-1), .int 1, .ref mq3, .ref mq4, .ref mq6, .ref mq8, .ref mq22]))] H := hP
  have hD : va_D A [(mq4, .inl (mc5, 0, .inr (.inr (.inr (.inr (fun _ => none)))))), (mx, .inr (15, [.ref mq1, .int 0, .int (-1), .int 1, .ref mq3, .ref mq4, .ref mq6, .ref mq8, .ref mq22]))] := hD
  have hK : va_K (dC, dI) cls [(mc5, .object RX14)] s := hK
  refine W.widen (k := 0) (n := 0) (Nat.le_of_ble_eq_true rfl) (Nat.le_of_ble_eq_true rfl) ?_
  obtain rfl : r2 = 0 := hw
  have hP9 : va_P (dC, dI) cls [(mx, .inr (15, [.ref mq1, .int 0, .int (-1), .int 1, .ref mq3, .ref mq4, .ref mq6, .ref mq8, .ref mq22]))] H := hP.sub [1] rfl
  have hD9 : va_D A [(mx, .inr (15, [.ref mq1, .int 0, .int (-1), .int 1, .ref mq3, .ref mq4, .ref mq6, .ref mq8, .ref mq22]))] := hD.sub [1] (by decide) rfl
  have hK9 : va_K (dC, dI) cls [] s := hK.sub [] rfl
  exact W.iret (v := 0) hx hb hr (fun t ht hW => ⟨⟨0, (), rfl, rfl, ⟨by rw [ht]; exact hP9, va_K.moved hW.alike hK9, hD9⟩⟩, hS.F ht⟩) hS.2.2 dX24_lines_41
set_option maxHeartbeats 4000000 in
set_option maxRecDepth 100000 in
/-- GearboxModel.inLine, from the state that its caller has -/
theorem kX24_inLine_n54 {zs : Nat × Nat} (l : Launch) (dC : Nat → ClassId) (dI : Nat → Nat → Nat) (a0 : Nat) (i1 : Int32) (i2 : Int32) (a3 : Nat) (a4 : Nat) (a5 : Nat) (a6 : Nat) (a7 : Nat) (a8 : Nat) (k10 : ClassId) (sz : Nat)  : Met l yX24_inLine (wz yX24_inLine cX24_inLine 4 (Option.some Jvm.ClassFile.FieldType.int)) ({ frames := 1, cells := 0, slots := 0, locals := 21 }) (va_Pc [.ref a0, .int i1, .int i2, .int 0] (PRE zs dC dI [(a0, .inr (15, [.ref a3, .int 0, .int (-1), .int 0, .ref a4, .ref a5, .ref a6, .ref a7, .ref a8])), (a5, .inl (k10, 0, .inr (.inr (.inr (.inr (fun _ => none))))))] [(k10, .object RX14)] sz)) (va_Qi (fun (r : Int32) (_ : Unit) => r = 0) (fun _ t => POST dC dI [(a5, .inl (k10, 0, .inr (.inr (.inr (.inr (fun _ => none)))))), (a0, .inr (15, [.ref a3, .int 0, .int (-1), .int 1, .ref a4, .ref a5, .ref a6, .ref a7, .ref a8]))] [(k10, .object RX14)] (va_A [(a0, .inr (15, [.ref a3, .int 0, .int (-1), .int 0, .ref a4, .ref a5, .ref a6, .ref a7, .ref a8])), (a5, .inl (k10, 0, .inr (.inr (.inr (.inr (fun _ => none))))))] sz) t) (va_A [(a0, .inr (15, [.ref a3, .int 0, .int (-1), .int 0, .ref a4, .ref a5, .ref a6, .ref a7, .ref a8])), (a5, .inl (k10, 0, .inr (.inr (.inr (.inr (fun _ => none))))))] sz)) 0 0 (va_A [(a0, .inr (15, [.ref a3, .int 0, .int (-1), .int 0, .ref a4, .ref a5, .ref a6, .ref a7, .ref a8])), (a5, .inl (k10, 0, .inr (.inr (.inr (.inr (fun _ => none))))))] sz) := by
  refine Met.ofW (cc := cX24_inLine) (maxL := 4) (ret := (Option.some Jvm.ClassFile.FieldType.int)) (by decide) rfl ?_
  intro p e s m args below meth c s₁ B hml hv
  obtain ⟨rfl, hsz, hP, hK, hD0, hE⟩ := hv
  have hx := B.exec
  have hb := B.bytes
  have hr := B.returns
  have hts0 := atoms_spec (ws := wz yX24_inLine cX24_inLine 4 (Option.some Jvm.ClassFile.FieldType.int)) B.pre
  have hts : ∀ w ∈ gw, w.before _ s = true := fun w h => hts0 w (List.mem_cons_of_mem _ h)
  have hown : s.vm.findClass RX24 = some m.cls := findClass_of_methodNamed B.named
  have hlocks := B.notSynchronized
  subst hsz
  have hD := hD0.self (sz := s.heap.size)
  generalize hAe : va_A [(a0, .inr (15, [.ref a3, .int 0, .int (-1), .int 0, .ref a4, .ref a5, .ref a6, .ref a7, .ref a8])), (a5, .inl (k10, 0, .inr (.inr (.inr (.inr (fun _ => none))))))] s.heap.size = A at hD hE ⊢
  have hA : ∀ q : Nat, s.heap.size ≤ q → A q := fun q h => by rw [← hAe]; exact Or.inr h
  have hS : va_S A s.heap s.heap [] := va_S.rf
  have hP : va_P (dC, dI) cls [(a0, .inr (15, [.ref a3, .int 0, .int (-1), .int 0, .ref a4, .ref a5, .ref a6, .ref a7, .ref a8])), (a5, .inl (k10, 0, .inr (.inr (.inr (.inr (fun _ => none))))))] s.heap := hP
  have hl := lv_entry ([.ref a0, .int i1, .int i2, .int 0]) (n := 4) (Nat.le_of_ble_eq_true rfl)
  rw [lg_entry_eq]
  generalize (lg_sl ([.ref a0, .int i1, .int i2, .int 0]) ++ List.replicate (4 - (lg_sl ([.ref a0, .int i1, .int i2, .int 0])).length) Slot.unset).toArray = ls at hl ⊢
  have hl : lv_has ls 4 [(0, .ref a0), (1, .int i1), (2, .int i2), (3, .int 0)] := hl
  refine lv_aload_n hx hb dX24_inLine_0 rfl (lv_at hl 0 rfl) ?_
  refine lv_iconst (v := 0) hx hb dX24_inLine_1 (by decide) ?_
  refine va_put (D := (dC, dI)) (ci := 15) (v := .int 0) (ty := .int) (C := RX24) (T := TX24) (N := 9) hx hb hts i_X24 tyX24 tyX24_ok nmX24 hown hK hP hD hS 0 rfl rfl 3 (by decide) (hts _ qw428) (fun _ h9 => h9) rfl (by decide +kernel) rfl rfl (Nat.le_of_ble_eq_true rfl) dX24_inLine_2 (fun H locs hP hD hS => ?_)
  have hP : va_P (dC, dI) cls [(a0, .inr (15, [.ref a3, .int 0, .int (-1), .int 0, .ref a4, .ref a5, .ref a6, .ref a7, .ref a8])), (a5, .inl (k10, 0, .inr (.inr (.inr (.inr (fun _ => none))))))] H := hP
  have hD : va_D A [(a0, .inr (15, [.ref a3, .int 0, .int (-1), .int 0, .ref a4, .ref a5, .ref a6, .ref a7, .ref a8])), (a5, .inl (k10, 0, .inr (.inr (.inr (.inr (fun _ => none))))))] := hD
  refine lv_aload_n hx hb dX24_inLine_5 rfl (lv_at hl 0 rfl) ?_
  refine lv_iload_n hx hb dX24_inLine_6 rfl (lv_at hl 1 rfl) ?_
  have hPc := hP.sub (ws' := [(a0, .inr (15, [.ref a3, .int 0, .int (-1), .int 0, .ref a4, .ref a5, .ref a6, .ref a7, .ref a8])), (a5, .inl (k10, 0, .inr (.inr (.inr (.inr (fun _ => none))))))]) [0, 1] rfl
  have hDc := hD.sub (ws' := [(a0, .inr (15, [.ref a3, .int 0, .int (-1), .int 0, .ref a4, .ref a5, .ref a6, .ref a7, .ref a8])), (a5, .inl (k10, 0, .inr (.inr (.inr (.inr (fun _ => none))))))]) [0, 1] (by decide) rfl
  have hKc := hK.sub (tys' := [(k10, .object RX14)]) [0] rfl
  have hFc := va_free (wc := [(a0, .inr (15, [.ref a3, .int 0, .int (-1), .int 0, .ref a4, .ref a5, .ref a6, .ref a7, .ref a8])), (a5, .inl (k10, 0, .inr (.inr (.inr (.inr (fun _ => none))))))]) hD hS hA [0, 1] rfl
  refine va_calli (va_runV (As := [.int i1]) (rest := []) ⟨hx, hb, hml, hown, hts⟩ (kX24_isFunction_n47 l dC dI (a0 := a0) (i1 := i1) (a2 := a3) (a3 := a4) (a4 := a5) (a5 := a6) (a6 := a7) (a7 := a8) (k9 := k10) (sz := _)) (cwV 1 hts (gi_V qw451 qw452 qw453 qw434 (gi_z qw450)) rfl rfl rfl (by decide +kernel) ⟨Nat.le_of_ble_eq_true rfl, Nat.le_of_ble_eq_true rfl⟩) ⟨PRE.blind, va_recv hKc hPc (ci := 15) (q0 := 0) rfl rfl, PRE.of hE hS hFc hPc hKc hDc⟩ rfl rfl hl.1 rfl (lv_room (Nat.le_of_ble_eq_true rfl)) dX24_inLine_7 ⟨Nat.le_of_ble_eq_true rfl, Nat.le_of_ble_eq_true rfl⟩) hS (fun q _ h => hFc q h) hFc (fun r1 u t H locs ht hvm hw hB hz1 hk1 hS => ?_)
  obtain ⟨hP, hD, hK⟩ := JOIN (wr := []) hP hD hK [0, 1] [] [] rfl rfl (by decide) (by decide) rfl hk1 hFc ht hvm hB
  have hP : va_P (dC, dI) cls [(a0, .inr (15, [.ref a3, .int 0, .int (-1), .int 0, .ref a4, .ref a5, .ref a6, .ref a7, .ref a8])), (a5, .inl (k10, 0, .inr (.inr (.inr (.inr (fun _ => none))))))] H := hP
  have hD : va_D A [(a0, .inr (15, [.ref a3, .int 0, .int (-1), .int 0, .ref a4, .ref a5, .ref a6, .ref a7, .ref a8])), (a5, .inl (k10, 0, .inr (.inr (.inr (.inr (fun _ => none))))))] := hD
  have hK : va_K (dC, dI) cls [(k10, .object RX14)] s := hK
  refine W.widen (k := 0) (n := 0) (Nat.le_of_ble_eq_true rfl) (Nat.le_of_ble_eq_true rfl) ?_
  obtain rfl : r1 = 0 := hw
  refine lv_if_eq (tgt := 51) hx hb dX24_inLine_10 (by decide) (fun _ => ?_) (fun c => absurd (by decide) c)
  refine lv_aload_n hx hb dX24_inLine_51 rfl (lv_at hl 0 rfl) ?_
  refine lv_iconst (v := 1) hx hb dX24_inLine_52 (by decide) ?_
  have hPc := hP.sub (ws' := [(a0, .inr (15, [.ref a3, .int 0, .int (-1), .int 0, .ref a4, .ref a5, .ref a6, .ref a7, .ref a8]))]) [0] rfl
  have hDc := hD.sub (ws' := [(a0, .inr (15, [.ref a3, .int 0, .int (-1), .int 0, .ref a4, .ref a5, .ref a6, .ref a7, .ref a8]))]) [0] (by decide) rfl
  have hKc := hK.sub (tys' := []) [] rfl
  have hFc := va_free (wc := [(a0, .inr (15, [.ref a3, .int 0, .int (-1), .int 0, .ref a4, .ref a5, .ref a6, .ref a7, .ref a8]))]) hD hS hA [0] rfl
  refine va_calli (va_runV (As := [.int 1]) (rest := []) ⟨hx, hb, hml, hown, hts⟩ (kX24_no_n39 l dC dI (a0 := a0) (a1 := a3) (a2 := a4) (a3 := a5) (a4 := a6) (a5 := a7) (a6 := a8) (sz := _)) (cwV 1 hts (gi_V qw436 qw437 qw438 qw434 (gi_z qw435)) rfl rfl rfl (by decide +kernel) ⟨Nat.le_of_ble_eq_true rfl, Nat.le_of_ble_eq_true rfl⟩) ⟨PRE.blind, va_recv hKc hPc (ci := 15) (q0 := 0) rfl rfl, PRE.of hE hS hFc hPc hKc hDc⟩ rfl rfl hl.1 rfl (lv_room (Nat.le_of_ble_eq_true rfl)) dX24_inLine_53 ⟨Nat.le_of_ble_eq_true rfl, Nat.le_of_ble_eq_true rfl⟩) hS (fun q _ h => hFc q h) hFc (fun r2 u t H locs ht hvm hw hB hz1 hk1 hS => ?_)
  obtain ⟨hP, hD, hK⟩ := JOIN (wr := [(a5, .inl (k10, 0, .inr (.inr (.inr (.inr (fun _ => none))))))]) hP hD hK [0] [1] [0] rfl rfl (by decide) (by decide) rfl hk1 hFc ht hvm hB
  have hP : va_P (dC, dI) cls [(a5, .inl (k10, 0, .inr (.inr (.inr (.inr (fun _ => none)))))), (a0, .inr (15, [.ref a3, .int 0, .int (-1), .int 1, .ref a4, .ref a5, .ref a6, .ref a7, .ref a8]))] H := hP
  have hD : va_D A [(a5, .inl (k10, 0, .inr (.inr (.inr (.inr (fun _ => none)))))), (a0, .inr (15, [.ref a3, .int 0, .int (-1), .int 1, .ref a4, .ref a5, .ref a6, .ref a7, .ref a8]))] := hD
  have hK : va_K (dC, dI) cls [(k10, .object RX14)] s := hK
  refine W.widen (k := 0) (n := 0) (Nat.le_of_ble_eq_true rfl) (Nat.le_of_ble_eq_true rfl) ?_
  obtain rfl : r2 = 0 := hw
  have hP9 : va_P (dC, dI) cls [(a5, .inl (k10, 0, .inr (.inr (.inr (.inr (fun _ => none)))))), (a0, .inr (15, [.ref a3, .int 0, .int (-1), .int 1, .ref a4, .ref a5, .ref a6, .ref a7, .ref a8]))] H := hP.sub [0, 1] rfl
  have hD9 : va_D A [(a5, .inl (k10, 0, .inr (.inr (.inr (.inr (fun _ => none)))))), (a0, .inr (15, [.ref a3, .int 0, .int (-1), .int 1, .ref a4, .ref a5, .ref a6, .ref a7, .ref a8]))] := hD.sub [0, 1] (by decide) rfl
  have hK9 : va_K (dC, dI) cls [(k10, .object RX14)] s := hK.sub [0] rfl
  exact W.iret (v := 0) hx hb hr (fun t ht hW => ⟨⟨0, (), rfl, rfl, ⟨by rw [ht]; exact hP9, va_K.moved hW.alike hK9, hD9⟩⟩, hS.F ht⟩) hS.2.2 dX24_inLine_56
set_option maxHeartbeats 4000000 in
set_option maxRecDepth 100000 in
theorem kX24_codeKind {zs : Nat × Nat} (l : Launch) (dC : Nat → ClassId) (dI : Nat → Nat → Nat) (mx : Nat) (mq1 : Nat) (mq3 : Nat) (mq4 : Nat) (mc5 : ClassId) (mq6 : Nat) (mq8 : Nat) (mq22 : Nat) (p0 : Int32) (p1 : Int32) (sz : Nat)  : Met l yX24_codeKind (wz yX24_codeKind cX24_codeKind 3 (Option.some Jvm.ClassFile.FieldType.int)) ({ frames := 2, cells := 0, slots := 0, locals := 44 }) (va_Pc [.ref mx, .int p0, .int p1] (PRE zs dC dI [(mx, .inr (15, [.ref mq1, .int 0, .int (-1), .int 0, .ref mq3, .ref mq4, .ref mq6, .ref mq8, .ref mq22])), (mq4, .inl (mc5, 0, .inr (.inr (.inr (.inr (fun _ => none))))))] [(mc5, .object RX14)] sz)) (va_Qi (fun (r : Int32) (_ : Unit) => r = 0) (fun _ t => POST dC dI [(mx, .inr (15, [.ref mq1, .int 0, .int (-1), .int 1, .ref mq3, .ref mq4, .ref mq6, .ref mq8, .ref mq22]))] [] (va_A [(mx, .inr (15, [.ref mq1, .int 0, .int (-1), .int 0, .ref mq3, .ref mq4, .ref mq6, .ref mq8, .ref mq22])), (mq4, .inl (mc5, 0, .inr (.inr (.inr (.inr (fun _ => none))))))] sz) t) (va_A [(mx, .inr (15, [.ref mq1, .int 0, .int (-1), .int 0, .ref mq3, .ref mq4, .ref mq6, .ref mq8, .ref mq22])), (mq4, .inl (mc5, 0, .inr (.inr (.inr (.inr (fun _ => none))))))] sz)) 0 0 (va_A [(mx, .inr (15, [.ref mq1, .int 0, .int (-1), .int 0, .ref mq3, .ref mq4, .ref mq6, .ref mq8, .ref mq22])), (mq4, .inl (mc5, 0, .inr (.inr (.inr (.inr (fun _ => none))))))] sz) := by
  refine Met.ofW (cc := cX24_codeKind) (maxL := 3) (ret := (Option.some Jvm.ClassFile.FieldType.int)) (by decide) rfl ?_
  intro p e s m args below meth c s₁ B hml hv
  obtain ⟨rfl, hsz, hP, hK, hD0, hE⟩ := hv
  have hx := B.exec
  have hb := B.bytes
  have hr := B.returns
  have hts0 := atoms_spec (ws := wz yX24_codeKind cX24_codeKind 3 (Option.some Jvm.ClassFile.FieldType.int)) B.pre
  have hts : ∀ w ∈ gw, w.before _ s = true := fun w h => hts0 w (List.mem_cons_of_mem _ h)
  have hown : s.vm.findClass RX24 = some m.cls := findClass_of_methodNamed B.named
  have hlocks := B.notSynchronized
  subst hsz
  have hD := hD0.self (sz := s.heap.size)
  generalize hAe : va_A [(mx, .inr (15, [.ref mq1, .int 0, .int (-1), .int 0, .ref mq3, .ref mq4, .ref mq6, .ref mq8, .ref mq22])), (mq4, .inl (mc5, 0, .inr (.inr (.inr (.inr (fun _ => none))))))] s.heap.size = A at hD hE ⊢
  have hA : ∀ q : Nat, s.heap.size ≤ q → A q := fun q h => by rw [← hAe]; exact Or.inr h
  have hS : va_S A s.heap s.heap [] := va_S.rf
  have hP : va_P (dC, dI) cls [(mx, .inr (15, [.ref mq1, .int 0, .int (-1), .int 0, .ref mq3, .ref mq4, .ref mq6, .ref mq8, .ref mq22])), (mq4, .inl (mc5, 0, .inr (.inr (.inr (.inr (fun _ => none))))))] s.heap := hP
  have hl := lv_entry ([.ref mx, .int p0, .int p1]) (n := 3) (Nat.le_of_ble_eq_true rfl)
  rw [lg_entry_eq]
  generalize (lg_sl ([.ref mx, .int p0, .int p1]) ++ List.replicate (3 - (lg_sl ([.ref mx, .int p0, .int p1])).length) Slot.unset).toArray = ls at hl ⊢
  have hl : lv_has ls 3 [(0, .ref mx), (1, .int p0), (2, .int p1)] := hl
  refine lv_aload_n hx hb dX24_codeKind_0 rfl (lv_at hl 0 rfl) ?_
  refine lv_iload_n hx hb dX24_codeKind_1 rfl (lv_at hl 1 rfl) ?_
  refine lv_iload_n hx hb dX24_codeKind_2 rfl (lv_at hl 2 rfl) ?_
  refine lv_iconst (v := 0) hx hb dX24_codeKind_3 (by decide) ?_
  have hPc := hP.sub (ws' := [(mx, .inr (15, [.ref mq1, .int 0, .int (-1), .int 0, .ref mq3, .ref mq4, .ref mq6, .ref mq8, .ref mq22])), (mq4, .inl (mc5, 0, .inr (.inr (.inr (.inr (fun _ => none))))))]) [0, 1] rfl
  have hDc := hD.sub (ws' := [(mx, .inr (15, [.ref mq1, .int 0, .int (-1), .int 0, .ref mq3, .ref mq4, .ref mq6, .ref mq8, .ref mq22])), (mq4, .inl (mc5, 0, .inr (.inr (.inr (.inr (fun _ => none))))))]) [0, 1] (by decide) rfl
  have hKc := hK.sub (tys' := [(mc5, .object RX14)]) [0] rfl
  have hFc := va_free (wc := [(mx, .inr (15, [.ref mq1, .int 0, .int (-1), .int 0, .ref mq3, .ref mq4, .ref mq6, .ref mq8, .ref mq22])), (mq4, .inl (mc5, 0, .inr (.inr (.inr (.inr (fun _ => none))))))]) hD hS hA [0, 1] rfl
  refine va_calli (va_runV (As := [.int p0, .int p1, .int 0]) (rest := []) ⟨hx, hb, hml, hown, hts⟩ (kX24_inLine_n54 l dC dI (a0 := mx) (i1 := p0) (i2 := p1) (a3 := mq1) (a4 := mq3) (a5 := mq4) (a6 := mq6) (a7 := mq8) (a8 := mq22) (k10 := mc5) (sz := _)) (cwV 3 hts (gi_V qw471 qw472 qw473 qw434 (gi_z qw470)) rfl rfl rfl (by decide +kernel) ⟨Nat.le_of_ble_eq_true rfl, Nat.le_of_ble_eq_true rfl⟩) ⟨PRE.blind, va_recv hKc hPc (ci := 15) (q0 := 0) rfl rfl, PRE.of hE hS hFc hPc hKc hDc⟩ rfl rfl hl.1 rfl (lv_room (Nat.le_of_ble_eq_true rfl)) dX24_codeKind_4 ⟨Nat.le_of_ble_eq_true rfl, Nat.le_of_ble_eq_true rfl⟩) hS (fun q _ h => hFc q h) hFc (fun r1 u t H locs ht hvm hw hB hz1 hk1 hS => ?_)
  obtain ⟨hP, hD, hK⟩ := JOIN (wr := []) hP hD hK [0, 1] [] [] rfl rfl (by decide) (by decide) rfl hk1 hFc ht hvm hB
  have hP : va_P (dC, dI) cls [(mq4, .inl (mc5, 0, .inr (.inr (.inr (.inr (fun _ => none)))))), (mx, .inr (15, [.ref mq1, .int 0, .int (-1), .int 1, .ref mq3, .ref mq4, .ref mq6, .ref mq8, .ref mq22]))] H := hP
  have hD : va_D A [(mq4, .inl (mc5, 0, .inr (.inr (.inr (.inr (fun _ => none)))))), (mx, .inr (15, [.ref mq1, .int 0, .int (-1), .int 1, .ref mq3, .ref mq4, .ref mq6, .ref mq8, .ref mq22]))] := hD
  have hK : va_K (dC, dI) cls [(mc5, .object RX14)] s := hK
  refine W.widen (k := 0) (n := 0) (Nat.le_of_ble_eq_true rfl) (Nat.le_of_ble_eq_true rfl) ?_
  obtain rfl : r1 = 0 := hw
  have hP9 : va_P (dC, dI) cls [(mx, .inr (15, [.ref mq1, .int 0, .int (-1), .int 1, .ref mq3, .ref mq4, .ref mq6, .ref mq8, .ref mq22]))] H := hP.sub [1] rfl
  have hD9 : va_D A [(mx, .inr (15, [.ref mq1, .int 0, .int (-1), .int 1, .ref mq3, .ref mq4, .ref mq6, .ref mq8, .ref mq22]))] := hD.sub [1] (by decide) rfl
  have hK9 : va_K (dC, dI) cls [] s := hK.sub [] rfl
  exact W.iret (v := 0) hx hb hr (fun t ht hW => ⟨⟨0, (), rfl, rfl, ⟨by rw [ht]; exact hP9, va_K.moved hW.alike hK9, hD9⟩⟩, hS.F ht⟩) hS.2.2 dX24_codeKind_7
set_option maxHeartbeats 4000000 in
set_option maxRecDepth 100000 in
/-- GearboxModel.inLine, from the state that its caller has -/
theorem kX24_inLine_n55 {zs : Nat × Nat} (l : Launch) (dC : Nat → ClassId) (dI : Nat → Nat → Nat) (a0 : Nat) (i1 : Int32) (i2 : Int32) (a3 : Nat) (a4 : Nat) (a5 : Nat) (a6 : Nat) (a7 : Nat) (a8 : Nat) (k10 : ClassId) (sz : Nat)  : Met l yX24_inLine (wz yX24_inLine cX24_inLine 4 (Option.some Jvm.ClassFile.FieldType.int)) ({ frames := 1, cells := 0, slots := 0, locals := 21 }) (va_Pc [.ref a0, .int i1, .int i2, .int 1] (PRE zs dC dI [(a0, .inr (15, [.ref a3, .int 0, .int (-1), .int 0, .ref a4, .ref a5, .ref a6, .ref a7, .ref a8])), (a5, .inl (k10, 0, .inr (.inr (.inr (.inr (fun _ => none))))))] [(k10, .object RX14)] sz)) (va_Qi (fun (r : Int32) (_ : Unit) => r = 0) (fun _ t => POST dC dI [(a5, .inl (k10, 0, .inr (.inr (.inr (.inr (fun _ => none)))))), (a0, .inr (15, [.ref a3, .int 0, .int (-1), .int 1, .ref a4, .ref a5, .ref a6, .ref a7, .ref a8]))] [(k10, .object RX14)] (va_A [(a0, .inr (15, [.ref a3, .int 0, .int (-1), .int 0, .ref a4, .ref a5, .ref a6, .ref a7, .ref a8])), (a5, .inl (k10, 0, .inr (.inr (.inr (.inr (fun _ => none))))))] sz) t) (va_A [(a0, .inr (15, [.ref a3, .int 0, .int (-1), .int 0, .ref a4, .ref a5, .ref a6, .ref a7, .ref a8])), (a5, .inl (k10, 0, .inr (.inr (.inr (.inr (fun _ => none))))))] sz)) 0 0 (va_A [(a0, .inr (15, [.ref a3, .int 0, .int (-1), .int 0, .ref a4, .ref a5, .ref a6, .ref a7, .ref a8])), (a5, .inl (k10, 0, .inr (.inr (.inr (.inr (fun _ => none))))))] sz) := by
  refine Met.ofW (cc := cX24_inLine) (maxL := 4) (ret := (Option.some Jvm.ClassFile.FieldType.int)) (by decide) rfl ?_
  intro p e s m args below meth c s₁ B hml hv
  obtain ⟨rfl, hsz, hP, hK, hD0, hE⟩ := hv
  have hx := B.exec
  have hb := B.bytes
  have hr := B.returns
  have hts0 := atoms_spec (ws := wz yX24_inLine cX24_inLine 4 (Option.some Jvm.ClassFile.FieldType.int)) B.pre
  have hts : ∀ w ∈ gw, w.before _ s = true := fun w h => hts0 w (List.mem_cons_of_mem _ h)
  have hown : s.vm.findClass RX24 = some m.cls := findClass_of_methodNamed B.named
  have hlocks := B.notSynchronized
  subst hsz
  have hD := hD0.self (sz := s.heap.size)
  generalize hAe : va_A [(a0, .inr (15, [.ref a3, .int 0, .int (-1), .int 0, .ref a4, .ref a5, .ref a6, .ref a7, .ref a8])), (a5, .inl (k10, 0, .inr (.inr (.inr (.inr (fun _ => none))))))] s.heap.size = A at hD hE ⊢
  have hA : ∀ q : Nat, s.heap.size ≤ q → A q := fun q h => by rw [← hAe]; exact Or.inr h
  have hS : va_S A s.heap s.heap [] := va_S.rf
  have hP : va_P (dC, dI) cls [(a0, .inr (15, [.ref a3, .int 0, .int (-1), .int 0, .ref a4, .ref a5, .ref a6, .ref a7, .ref a8])), (a5, .inl (k10, 0, .inr (.inr (.inr (.inr (fun _ => none))))))] s.heap := hP
  have hl := lv_entry ([.ref a0, .int i1, .int i2, .int 1]) (n := 4) (Nat.le_of_ble_eq_true rfl)
  rw [lg_entry_eq]
  generalize (lg_sl ([.ref a0, .int i1, .int i2, .int 1]) ++ List.replicate (4 - (lg_sl ([.ref a0, .int i1, .int i2, .int 1])).length) Slot.unset).toArray = ls at hl ⊢
  have hl : lv_has ls 4 [(0, .ref a0), (1, .int i1), (2, .int i2), (3, .int 1)] := hl
  refine lv_aload_n hx hb dX24_inLine_0 rfl (lv_at hl 0 rfl) ?_
  refine lv_iconst (v := 0) hx hb dX24_inLine_1 (by decide) ?_
  refine va_put (D := (dC, dI)) (ci := 15) (v := .int 0) (ty := .int) (C := RX24) (T := TX24) (N := 9) hx hb hts i_X24 tyX24 tyX24_ok nmX24 hown hK hP hD hS 0 rfl rfl 3 (by decide) (hts _ qw428) (fun _ h9 => h9) rfl (by decide +kernel) rfl rfl (Nat.le_of_ble_eq_true rfl) dX24_inLine_2 (fun H locs hP hD hS => ?_)
  have hP : va_P (dC, dI) cls [(a0, .inr (15, [.ref a3, .int 0, .int (-1), .int 0, .ref a4, .ref a5, .ref a6, .ref a7, .ref a8])), (a5, .inl (k10, 0, .inr (.inr (.inr (.inr (fun _ => none))))))] H := hP
  have hD : va_D A [(a0, .inr (15, [.ref a3, .int 0, .int (-1), .int 0, .ref a4, .ref a5, .ref a6, .ref a7, .ref a8])), (a5, .inl (k10, 0, .inr (.inr (.inr (.inr (fun _ => none))))))] := hD
  refine lv_aload_n hx hb dX24_inLine_5 rfl (lv_at hl 0 rfl) ?_
  refine lv_iload_n hx hb dX24_inLine_6 rfl (lv_at hl 1 rfl) ?_
  have hPc := hP.sub (ws' := [(a0, .inr (15, [.ref a3, .int 0, .int (-1), .int 0, .ref a4, .ref a5, .ref a6, .ref a7, .ref a8])), (a5, .inl (k10, 0, .inr (.inr (.inr (.inr (fun _ => none))))))]) [0, 1] rfl
  have hDc := hD.sub (ws' := [(a0, .inr (15, [.ref a3, .int 0, .int (-1), .int 0, .ref a4, .ref a5, .ref a6, .ref a7, .ref a8])), (a5, .inl (k10, 0, .inr (.inr (.inr (.inr (fun _ => none))))))]) [0, 1] (by decide) rfl
  have hKc := hK.sub (tys' := [(k10, .object RX14)]) [0] rfl
  have hFc := va_free (wc := [(a0, .inr (15, [.ref a3, .int 0, .int (-1), .int 0, .ref a4, .ref a5, .ref a6, .ref a7, .ref a8])), (a5, .inl (k10, 0, .inr (.inr (.inr (.inr (fun _ => none))))))]) hD hS hA [0, 1] rfl
  refine va_calli (va_runV (As := [.int i1]) (rest := []) ⟨hx, hb, hml, hown, hts⟩ (kX24_isFunction_n47 l dC dI (a0 := a0) (i1 := i1) (a2 := a3) (a3 := a4) (a4 := a5) (a5 := a6) (a6 := a7) (a7 := a8) (k9 := k10) (sz := _)) (cwV 1 hts (gi_V qw451 qw452 qw453 qw434 (gi_z qw450)) rfl rfl rfl (by decide +kernel) ⟨Nat.le_of_ble_eq_true rfl, Nat.le_of_ble_eq_true rfl⟩) ⟨PRE.blind, va_recv hKc hPc (ci := 15) (q0 := 0) rfl rfl, PRE.of hE hS hFc hPc hKc hDc⟩ rfl rfl hl.1 rfl (lv_room (Nat.le_of_ble_eq_true rfl)) dX24_inLine_7 ⟨Nat.le_of_ble_eq_true rfl, Nat.le_of_ble_eq_true rfl⟩) hS (fun q _ h => hFc q h) hFc (fun r1 u t H locs ht hvm hw hB hz1 hk1 hS => ?_)
  obtain ⟨hP, hD, hK⟩ := JOIN (wr := []) hP hD hK [0, 1] [] [] rfl rfl (by decide) (by decide) rfl hk1 hFc ht hvm hB
  have hP : va_P (dC, dI) cls [(a0, .inr (15, [.ref a3, .int 0, .int (-1), .int 0, .ref a4, .ref a5, .ref a6, .ref a7, .ref a8])), (a5, .inl (k10, 0, .inr (.inr (.inr (.inr (fun _ => none))))))] H := hP
  have hD : va_D A [(a0, .inr (15, [.ref a3, .int 0, .int (-1), .int 0, .ref a4, .ref a5, .ref a6, .ref a7, .ref a8])), (a5, .inl (k10, 0, .inr (.inr (.inr (.inr (fun _ => none))))))] := hD
  have hK : va_K (dC, dI) cls [(k10, .object RX14)] s := hK
  refine W.widen (k := 0) (n := 0) (Nat.le_of_ble_eq_true rfl) (Nat.le_of_ble_eq_true rfl) ?_
  obtain rfl : r1 = 0 := hw
  refine lv_if_eq (tgt := 51) hx hb dX24_inLine_10 (by decide) (fun _ => ?_) (fun c => absurd (by decide) c)
  refine lv_aload_n hx hb dX24_inLine_51 rfl (lv_at hl 0 rfl) ?_
  refine lv_iconst (v := 1) hx hb dX24_inLine_52 (by decide) ?_
  have hPc := hP.sub (ws' := [(a0, .inr (15, [.ref a3, .int 0, .int (-1), .int 0, .ref a4, .ref a5, .ref a6, .ref a7, .ref a8]))]) [0] rfl
  have hDc := hD.sub (ws' := [(a0, .inr (15, [.ref a3, .int 0, .int (-1), .int 0, .ref a4, .ref a5, .ref a6, .ref a7, .ref a8]))]) [0] (by decide) rfl
  have hKc := hK.sub (tys' := []) [] rfl
  have hFc := va_free (wc := [(a0, .inr (15, [.ref a3, .int 0, .int (-1), .int 0, .ref a4, .ref a5, .ref a6, .ref a7, .ref a8]))]) hD hS hA [0] rfl
  refine va_calli (va_runV (As := [.int 1]) (rest := []) ⟨hx, hb, hml, hown, hts⟩ (kX24_no_n39 l dC dI (a0 := a0) (a1 := a3) (a2 := a4) (a3 := a5) (a4 := a6) (a5 := a7) (a6 := a8) (sz := _)) (cwV 1 hts (gi_V qw436 qw437 qw438 qw434 (gi_z qw435)) rfl rfl rfl (by decide +kernel) ⟨Nat.le_of_ble_eq_true rfl, Nat.le_of_ble_eq_true rfl⟩) ⟨PRE.blind, va_recv hKc hPc (ci := 15) (q0 := 0) rfl rfl, PRE.of hE hS hFc hPc hKc hDc⟩ rfl rfl hl.1 rfl (lv_room (Nat.le_of_ble_eq_true rfl)) dX24_inLine_53 ⟨Nat.le_of_ble_eq_true rfl, Nat.le_of_ble_eq_true rfl⟩) hS (fun q _ h => hFc q h) hFc (fun r2 u t H locs ht hvm hw hB hz1 hk1 hS => ?_)
  obtain ⟨hP, hD, hK⟩ := JOIN (wr := [(a5, .inl (k10, 0, .inr (.inr (.inr (.inr (fun _ => none))))))]) hP hD hK [0] [1] [0] rfl rfl (by decide) (by decide) rfl hk1 hFc ht hvm hB
  have hP : va_P (dC, dI) cls [(a5, .inl (k10, 0, .inr (.inr (.inr (.inr (fun _ => none)))))), (a0, .inr (15, [.ref a3, .int 0, .int (-1), .int 1, .ref a4, .ref a5, .ref a6, .ref a7, .ref a8]))] H := hP
  have hD : va_D A [(a5, .inl (k10, 0, .inr (.inr (.inr (.inr (fun _ => none)))))), (a0, .inr (15, [.ref a3, .int 0, .int (-1), .int 1, .ref a4, .ref a5, .ref a6, .ref a7, .ref a8]))] := hD
  have hK : va_K (dC, dI) cls [(k10, .object RX14)] s := hK
  refine W.widen (k := 0) (n := 0) (Nat.le_of_ble_eq_true rfl) (Nat.le_of_ble_eq_true rfl) ?_
  obtain rfl : r2 = 0 := hw
  have hP9 : va_P (dC, dI) cls [(a5, .inl (k10, 0, .inr (.inr (.inr (.inr (fun _ => none)))))), (a0, .inr (15, [.ref a3, .int 0, .int (-1), .int 1, .ref a4, .ref a5, .ref a6, .ref a7, .ref a8]))] H := hP.sub [0, 1] rfl
  have hD9 : va_D A [(a5, .inl (k10, 0, .inr (.inr (.inr (.inr (fun _ => none)))))), (a0, .inr (15, [.ref a3, .int 0, .int (-1), .int 1, .ref a4, .ref a5, .ref a6, .ref a7, .ref a8]))] := hD.sub [0, 1] (by decide) rfl
  have hK9 : va_K (dC, dI) cls [(k10, .object RX14)] s := hK.sub [0] rfl
  exact W.iret (v := 0) hx hb hr (fun t ht hW => ⟨⟨0, (), rfl, rfl, ⟨by rw [ht]; exact hP9, va_K.moved hW.alike hK9, hD9⟩⟩, hS.F ht⟩) hS.2.2 dX24_inLine_56
set_option maxHeartbeats 4000000 in
set_option maxRecDepth 100000 in
theorem kX24_codeGives {zs : Nat × Nat} (l : Launch) (dC : Nat → ClassId) (dI : Nat → Nat → Nat) (mx : Nat) (mq1 : Nat) (mq3 : Nat) (mq4 : Nat) (mc5 : ClassId) (mq6 : Nat) (mq8 : Nat) (mq22 : Nat) (p0 : Int32) (p1 : Int32) (sz : Nat)  : Met l yX24_codeGives (wz yX24_codeGives cX24_codeGives 3 (Option.some Jvm.ClassFile.FieldType.int)) ({ frames := 2, cells := 0, slots := 0, locals := 44 }) (va_Pc [.ref mx, .int p0, .int p1] (PRE zs dC dI [(mx, .inr (15, [.ref mq1, .int 0, .int (-1), .int 0, .ref mq3, .ref mq4, .ref mq6, .ref mq8, .ref mq22])), (mq4, .inl (mc5, 0, .inr (.inr (.inr (.inr (fun _ => none))))))] [(mc5, .object RX14)] sz)) (va_Qi (fun (r : Int32) (_ : Unit) => r = 0) (fun _ t => POST dC dI [(mx, .inr (15, [.ref mq1, .int 0, .int (-1), .int 1, .ref mq3, .ref mq4, .ref mq6, .ref mq8, .ref mq22]))] [] (va_A [(mx, .inr (15, [.ref mq1, .int 0, .int (-1), .int 0, .ref mq3, .ref mq4, .ref mq6, .ref mq8, .ref mq22])), (mq4, .inl (mc5, 0, .inr (.inr (.inr (.inr (fun _ => none))))))] sz) t) (va_A [(mx, .inr (15, [.ref mq1, .int 0, .int (-1), .int 0, .ref mq3, .ref mq4, .ref mq6, .ref mq8, .ref mq22])), (mq4, .inl (mc5, 0, .inr (.inr (.inr (.inr (fun _ => none))))))] sz)) 0 0 (va_A [(mx, .inr (15, [.ref mq1, .int 0, .int (-1), .int 0, .ref mq3, .ref mq4, .ref mq6, .ref mq8, .ref mq22])), (mq4, .inl (mc5, 0, .inr (.inr (.inr (.inr (fun _ => none))))))] sz) := by
  refine Met.ofW (cc := cX24_codeGives) (maxL := 3) (ret := (Option.some Jvm.ClassFile.FieldType.int)) (by decide) rfl ?_
  intro p e s m args below meth c s₁ B hml hv
  obtain ⟨rfl, hsz, hP, hK, hD0, hE⟩ := hv
  have hx := B.exec
  have hb := B.bytes
  have hr := B.returns
  have hts0 := atoms_spec (ws := wz yX24_codeGives cX24_codeGives 3 (Option.some Jvm.ClassFile.FieldType.int)) B.pre
  have hts : ∀ w ∈ gw, w.before _ s = true := fun w h => hts0 w (List.mem_cons_of_mem _ h)
  have hown : s.vm.findClass RX24 = some m.cls := findClass_of_methodNamed B.named
  have hlocks := B.notSynchronized
  subst hsz
  have hD := hD0.self (sz := s.heap.size)
  generalize hAe : va_A [(mx, .inr (15, [.ref mq1, .int 0, .int (-1), .int 0, .ref mq3, .ref mq4, .ref mq6, .ref mq8, .ref mq22])), (mq4, .inl (mc5, 0, .inr (.inr (.inr (.inr (fun _ => none))))))] s.heap.size = A at hD hE ⊢
  have hA : ∀ q : Nat, s.heap.size ≤ q → A q := fun q h => by rw [← hAe]; exact Or.inr h
  have hS : va_S A s.heap s.heap [] := va_S.rf
  have hP : va_P (dC, dI) cls [(mx, .inr (15, [.ref mq1, .int 0, .int (-1), .int 0, .ref mq3, .ref mq4, .ref mq6, .ref mq8, .ref mq22])), (mq4, .inl (mc5, 0, .inr (.inr (.inr (.inr (fun _ => none))))))] s.heap := hP
  have hl := lv_entry ([.ref mx, .int p0, .int p1]) (n := 3) (Nat.le_of_ble_eq_true rfl)
  rw [lg_entry_eq]
  generalize (lg_sl ([.ref mx, .int p0, .int p1]) ++ List.replicate (3 - (lg_sl ([.ref mx, .int p0, .int p1])).length) Slot.unset).toArray = ls at hl ⊢
  have hl : lv_has ls 3 [(0, .ref mx), (1, .int p0), (2, .int p1)] := hl
  refine lv_aload_n hx hb dX24_codeGives_0 rfl (lv_at hl 0 rfl) ?_
  refine lv_iload_n hx hb dX24_codeGives_1 rfl (lv_at hl 1 rfl) ?_
  refine lv_iload_n hx hb dX24_codeGives_2 rfl (lv_at hl 2 rfl) ?_
  refine lv_iconst (v := 1) hx hb dX24_codeGives_3 (by decide) ?_
  have hPc := hP.sub (ws' := [(mx, .inr (15, [.ref mq1, .int 0, .int (-1), .int 0, .ref mq3, .ref mq4, .ref mq6, .ref mq8, .ref mq22])), (mq4, .inl (mc5, 0, .inr (.inr (.inr (.inr (fun _ => none))))))]) [0, 1] rfl
  have hDc := hD.sub (ws' := [(mx, .inr (15, [.ref mq1, .int 0, .int (-1), .int 0, .ref mq3, .ref mq4, .ref mq6, .ref mq8, .ref mq22])), (mq4, .inl (mc5, 0, .inr (.inr (.inr (.inr (fun _ => none))))))]) [0, 1] (by decide) rfl
  have hKc := hK.sub (tys' := [(mc5, .object RX14)]) [0] rfl
  have hFc := va_free (wc := [(mx, .inr (15, [.ref mq1, .int 0, .int (-1), .int 0, .ref mq3, .ref mq4, .ref mq6, .ref mq8, .ref mq22])), (mq4, .inl (mc5, 0, .inr (.inr (.inr (.inr (fun _ => none))))))]) hD hS hA [0, 1] rfl
  refine va_calli (va_runV (As := [.int p0, .int p1, .int 1]) (rest := []) ⟨hx, hb, hml, hown, hts⟩ (kX24_inLine_n55 l dC dI (a0 := mx) (i1 := p0) (i2 := p1) (a3 := mq1) (a4 := mq3) (a5 := mq4) (a6 := mq6) (a7 := mq8) (a8 := mq22) (k10 := mc5) (sz := _)) (cwV 3 hts (gi_V qw471 qw472 qw473 qw434 (gi_z qw470)) rfl rfl rfl (by decide +kernel) ⟨Nat.le_of_ble_eq_true rfl, Nat.le_of_ble_eq_true rfl⟩) ⟨PRE.blind, va_recv hKc hPc (ci := 15) (q0 := 0) rfl rfl, PRE.of hE hS hFc hPc hKc hDc⟩ rfl rfl hl.1 rfl (lv_room (Nat.le_of_ble_eq_true rfl)) dX24_codeGives_4 ⟨Nat.le_of_ble_eq_true rfl, Nat.le_of_ble_eq_true rfl⟩) hS (fun q _ h => hFc q h) hFc (fun r1 u t H locs ht hvm hw hB hz1 hk1 hS => ?_)
  obtain ⟨hP, hD, hK⟩ := JOIN (wr := []) hP hD hK [0, 1] [] [] rfl rfl (by decide) (by decide) rfl hk1 hFc ht hvm hB
  have hP : va_P (dC, dI) cls [(mq4, .inl (mc5, 0, .inr (.inr (.inr (.inr (fun _ => none)))))), (mx, .inr (15, [.ref mq1, .int 0, .int (-1), .int 1, .ref mq3, .ref mq4, .ref mq6, .ref mq8, .ref mq22]))] H := hP
  have hD : va_D A [(mq4, .inl (mc5, 0, .inr (.inr (.inr (.inr (fun _ => none)))))), (mx, .inr (15, [.ref mq1, .int 0, .int (-1), .int 1, .ref mq3, .ref mq4, .ref mq6, .ref mq8, .ref mq22]))] := hD
  have hK : va_K (dC, dI) cls [(mc5, .object RX14)] s := hK
  refine W.widen (k := 0) (n := 0) (Nat.le_of_ble_eq_true rfl) (Nat.le_of_ble_eq_true rfl) ?_
  obtain rfl : r1 = 0 := hw
  have hP9 : va_P (dC, dI) cls [(mx, .inr (15, [.ref mq1, .int 0, .int (-1), .int 1, .ref mq3, .ref mq4, .ref mq6, .ref mq8, .ref mq22]))] H := hP.sub [1] rfl
  have hD9 : va_D A [(mx, .inr (15, [.ref mq1, .int 0, .int (-1), .int 1, .ref mq3, .ref mq4, .ref mq6, .ref mq8, .ref mq22]))] := hD.sub [1] (by decide) rfl
  have hK9 : va_K (dC, dI) cls [] s := hK.sub [] rfl
  exact W.iret (v := 0) hx hb hr (fun t ht hW => ⟨⟨0, (), rfl, rfl, ⟨by rw [ht]; exact hP9, va_K.moved hW.alike hK9, hD9⟩⟩, hS.F ht⟩) hS.2.2 dX24_codeGives_7
set_option maxHeartbeats 4000000 in
set_option maxRecDepth 100000 in
/-- GearboxModel.inLine, from the state that its caller has -/
theorem kX24_inLine_n56 {zs : Nat × Nat} (l : Launch) (dC : Nat → ClassId) (dI : Nat → Nat → Nat) (a0 : Nat) (i1 : Int32) (i2 : Int32) (a3 : Nat) (a4 : Nat) (a5 : Nat) (a6 : Nat) (a7 : Nat) (a8 : Nat) (k10 : ClassId) (sz : Nat)  : Met l yX24_inLine (wz yX24_inLine cX24_inLine 4 (Option.some Jvm.ClassFile.FieldType.int)) ({ frames := 1, cells := 0, slots := 0, locals := 21 }) (va_Pc [.ref a0, .int i1, .int i2, .int 2] (PRE zs dC dI [(a0, .inr (15, [.ref a3, .int 0, .int (-1), .int 0, .ref a4, .ref a5, .ref a6, .ref a7, .ref a8])), (a5, .inl (k10, 0, .inr (.inr (.inr (.inr (fun _ => none))))))] [(k10, .object RX14)] sz)) (va_Qi (fun (r : Int32) (_ : Unit) => r = 0) (fun _ t => POST dC dI [(a5, .inl (k10, 0, .inr (.inr (.inr (.inr (fun _ => none)))))), (a0, .inr (15, [.ref a3, .int 0, .int (-1), .int 1, .ref a4, .ref a5, .ref a6, .ref a7, .ref a8]))] [(k10, .object RX14)] (va_A [(a0, .inr (15, [.ref a3, .int 0, .int (-1), .int 0, .ref a4, .ref a5, .ref a6, .ref a7, .ref a8])), (a5, .inl (k10, 0, .inr (.inr (.inr (.inr (fun _ => none))))))] sz) t) (va_A [(a0, .inr (15, [.ref a3, .int 0, .int (-1), .int 0, .ref a4, .ref a5, .ref a6, .ref a7, .ref a8])), (a5, .inl (k10, 0, .inr (.inr (.inr (.inr (fun _ => none))))))] sz)) 0 0 (va_A [(a0, .inr (15, [.ref a3, .int 0, .int (-1), .int 0, .ref a4, .ref a5, .ref a6, .ref a7, .ref a8])), (a5, .inl (k10, 0, .inr (.inr (.inr (.inr (fun _ => none))))))] sz) := by
  refine Met.ofW (cc := cX24_inLine) (maxL := 4) (ret := (Option.some Jvm.ClassFile.FieldType.int)) (by decide) rfl ?_
  intro p e s m args below meth c s₁ B hml hv
  obtain ⟨rfl, hsz, hP, hK, hD0, hE⟩ := hv
  have hx := B.exec
  have hb := B.bytes
  have hr := B.returns
  have hts0 := atoms_spec (ws := wz yX24_inLine cX24_inLine 4 (Option.some Jvm.ClassFile.FieldType.int)) B.pre
  have hts : ∀ w ∈ gw, w.before _ s = true := fun w h => hts0 w (List.mem_cons_of_mem _ h)
  have hown : s.vm.findClass RX24 = some m.cls := findClass_of_methodNamed B.named
  have hlocks := B.notSynchronized
  subst hsz
  have hD := hD0.self (sz := s.heap.size)
  generalize hAe : va_A [(a0, .inr (15, [.ref a3, .int 0, .int (-1), .int 0, .ref a4, .ref a5, .ref a6, .ref a7, .ref a8])), (a5, .inl (k10, 0, .inr (.inr (.inr (.inr (fun _ => none))))))] s.heap.size = A at hD hE ⊢
  have hA : ∀ q : Nat, s.heap.size ≤ q → A q := fun q h => by rw [← hAe]; exact Or.inr h
  have hS : va_S A s.heap s.heap [] := va_S.rf
  have hP : va_P (dC, dI) cls [(a0, .inr (15, [.ref a3, .int 0, .int (-1), .int 0, .ref a4, .ref a5, .ref a6, .ref a7, .ref a8])), (a5, .inl (k10, 0, .inr (.inr (.inr (.inr (fun _ => none))))))] s.heap := hP
  have hl := lv_entry ([.ref a0, .int i1, .int i2, .int 2]) (n := 4) (Nat.le_of_ble_eq_true rfl)
  rw [lg_entry_eq]
  generalize (lg_sl ([.ref a0, .int i1, .int i2, .int 2]) ++ List.replicate (4 - (lg_sl ([.ref a0, .int i1, .int i2, .int 2])).length) Slot.unset).toArray = ls at hl ⊢
  have hl : lv_has ls 4 [(0, .ref a0), (1, .int i1), (2, .int i2), (3, .int 2)] := hl
  refine lv_aload_n hx hb dX24_inLine_0 rfl (lv_at hl 0 rfl) ?_
  refine lv_iconst (v := 0) hx hb dX24_inLine_1 (by decide) ?_
  refine va_put (D := (dC, dI)) (ci := 15) (v := .int 0) (ty := .int) (C := RX24) (T := TX24) (N := 9) hx hb hts i_X24 tyX24 tyX24_ok nmX24 hown hK hP hD hS 0 rfl rfl 3 (by decide) (hts _ qw428) (fun _ h9 => h9) rfl (by decide +kernel) rfl rfl (Nat.le_of_ble_eq_true rfl) dX24_inLine_2 (fun H locs hP hD hS => ?_)
  have hP : va_P (dC, dI) cls [(a0, .inr (15, [.ref a3, .int 0, .int (-1), .int 0, .ref a4, .ref a5, .ref a6, .ref a7, .ref a8])), (a5, .inl (k10, 0, .inr (.inr (.inr (.inr (fun _ => none))))))] H := hP
  have hD : va_D A [(a0, .inr (15, [.ref a3, .int 0, .int (-1), .int 0, .ref a4, .ref a5, .ref a6, .ref a7, .ref a8])), (a5, .inl (k10, 0, .inr (.inr (.inr (.inr (fun _ => none))))))] := hD
  refine lv_aload_n hx hb dX24_inLine_5 rfl (lv_at hl 0 rfl) ?_
  refine lv_iload_n hx hb dX24_inLine_6 rfl (lv_at hl 1 rfl) ?_
  have hPc := hP.sub (ws' := [(a0, .inr (15, [.ref a3, .int 0, .int (-1), .int 0, .ref a4, .ref a5, .ref a6, .ref a7, .ref a8])), (a5, .inl (k10, 0, .inr (.inr (.inr (.inr (fun _ => none))))))]) [0, 1] rfl
  have hDc := hD.sub (ws' := [(a0, .inr (15, [.ref a3, .int 0, .int (-1), .int 0, .ref a4, .ref a5, .ref a6, .ref a7, .ref a8])), (a5, .inl (k10, 0, .inr (.inr (.inr (.inr (fun _ => none))))))]) [0, 1] (by decide) rfl
  have hKc := hK.sub (tys' := [(k10, .object RX14)]) [0] rfl
  have hFc := va_free (wc := [(a0, .inr (15, [.ref a3, .int 0, .int (-1), .int 0, .ref a4, .ref a5, .ref a6, .ref a7, .ref a8])), (a5, .inl (k10, 0, .inr (.inr (.inr (.inr (fun _ => none))))))]) hD hS hA [0, 1] rfl
  refine va_calli (va_runV (As := [.int i1]) (rest := []) ⟨hx, hb, hml, hown, hts⟩ (kX24_isFunction_n47 l dC dI (a0 := a0) (i1 := i1) (a2 := a3) (a3 := a4) (a4 := a5) (a5 := a6) (a6 := a7) (a7 := a8) (k9 := k10) (sz := _)) (cwV 1 hts (gi_V qw451 qw452 qw453 qw434 (gi_z qw450)) rfl rfl rfl (by decide +kernel) ⟨Nat.le_of_ble_eq_true rfl, Nat.le_of_ble_eq_true rfl⟩) ⟨PRE.blind, va_recv hKc hPc (ci := 15) (q0 := 0) rfl rfl, PRE.of hE hS hFc hPc hKc hDc⟩ rfl rfl hl.1 rfl (lv_room (Nat.le_of_ble_eq_true rfl)) dX24_inLine_7 ⟨Nat.le_of_ble_eq_true rfl, Nat.le_of_ble_eq_true rfl⟩) hS (fun q _ h => hFc q h) hFc (fun r1 u t H locs ht hvm hw hB hz1 hk1 hS => ?_)
  obtain ⟨hP, hD, hK⟩ := JOIN (wr := []) hP hD hK [0, 1] [] [] rfl rfl (by decide) (by decide) rfl hk1 hFc ht hvm hB
  have hP : va_P (dC, dI) cls [(a0, .inr (15, [.ref a3, .int 0, .int (-1), .int 0, .ref a4, .ref a5, .ref a6, .ref a7, .ref a8])), (a5, .inl (k10, 0, .inr (.inr (.inr (.inr (fun _ => none))))))] H := hP
  have hD : va_D A [(a0, .inr (15, [.ref a3, .int 0, .int (-1), .int 0, .ref a4, .ref a5, .ref a6, .ref a7, .ref a8])), (a5, .inl (k10, 0, .inr (.inr (.inr (.inr (fun _ => none))))))] := hD
  have hK : va_K (dC, dI) cls [(k10, .object RX14)] s := hK
  refine W.widen (k := 0) (n := 0) (Nat.le_of_ble_eq_true rfl) (Nat.le_of_ble_eq_true rfl) ?_
  obtain rfl : r1 = 0 := hw
  refine lv_if_eq (tgt := 51) hx hb dX24_inLine_10 (by decide) (fun _ => ?_) (fun c => absurd (by decide) c)
  refine lv_aload_n hx hb dX24_inLine_51 rfl (lv_at hl 0 rfl) ?_
  refine lv_iconst (v := 1) hx hb dX24_inLine_52 (by decide) ?_
  have hPc := hP.sub (ws' := [(a0, .inr (15, [.ref a3, .int 0, .int (-1), .int 0, .ref a4, .ref a5, .ref a6, .ref a7, .ref a8]))]) [0] rfl
  have hDc := hD.sub (ws' := [(a0, .inr (15, [.ref a3, .int 0, .int (-1), .int 0, .ref a4, .ref a5, .ref a6, .ref a7, .ref a8]))]) [0] (by decide) rfl
  have hKc := hK.sub (tys' := []) [] rfl
  have hFc := va_free (wc := [(a0, .inr (15, [.ref a3, .int 0, .int (-1), .int 0, .ref a4, .ref a5, .ref a6, .ref a7, .ref a8]))]) hD hS hA [0] rfl
  refine va_calli (va_runV (As := [.int 1]) (rest := []) ⟨hx, hb, hml, hown, hts⟩ (kX24_no_n39 l dC dI (a0 := a0) (a1 := a3) (a2 := a4) (a3 := a5) (a4 := a6) (a5 := a7) (a6 := a8) (sz := _)) (cwV 1 hts (gi_V qw436 qw437 qw438 qw434 (gi_z qw435)) rfl rfl rfl (by decide +kernel) ⟨Nat.le_of_ble_eq_true rfl, Nat.le_of_ble_eq_true rfl⟩) ⟨PRE.blind, va_recv hKc hPc (ci := 15) (q0 := 0) rfl rfl, PRE.of hE hS hFc hPc hKc hDc⟩ rfl rfl hl.1 rfl (lv_room (Nat.le_of_ble_eq_true rfl)) dX24_inLine_53 ⟨Nat.le_of_ble_eq_true rfl, Nat.le_of_ble_eq_true rfl⟩) hS (fun q _ h => hFc q h) hFc (fun r2 u t H locs ht hvm hw hB hz1 hk1 hS => ?_)
  obtain ⟨hP, hD, hK⟩ := JOIN (wr := [(a5, .inl (k10, 0, .inr (.inr (.inr (.inr (fun _ => none))))))]) hP hD hK [0] [1] [0] rfl rfl (by decide) (by decide) rfl hk1 hFc ht hvm hB
  have hP : va_P (dC, dI) cls [(a5, .inl (k10, 0, .inr (.inr (.inr (.inr (fun _ => none)))))), (a0, .inr (15, [.ref a3, .int 0, .int (-1), .int 1, .ref a4, .ref a5, .ref a6, .ref a7, .ref a8]))] H := hP
  have hD : va_D A [(a5, .inl (k10, 0, .inr (.inr (.inr (.inr (fun _ => none)))))), (a0, .inr (15, [.ref a3, .int 0, .int (-1), .int 1, .ref a4, .ref a5, .ref a6, .ref a7, .ref a8]))] := hD
  have hK : va_K (dC, dI) cls [(k10, .object RX14)] s := hK
  refine W.widen (k := 0) (n := 0) (Nat.le_of_ble_eq_true rfl) (Nat.le_of_ble_eq_true rfl) ?_
  obtain rfl : r2 = 0 := hw
  have hP9 : va_P (dC, dI) cls [(a5, .inl (k10, 0, .inr (.inr (.inr (.inr (fun _ => none)))))), (a0, .inr (15, [.ref a3, .int 0, .int (-1), .int 1, .ref a4, .ref a5, .ref a6, .ref a7, .ref a8]))] H := hP.sub [0, 1] rfl
  have hD9 : va_D A [(a5, .inl (k10, 0, .inr (.inr (.inr (.inr (fun _ => none)))))), (a0, .inr (15, [.ref a3, .int 0, .int (-1), .int 1, .ref a4, .ref a5, .ref a6, .ref a7, .ref a8]))] := hD.sub [0, 1] (by decide) rfl
  have hK9 : va_K (dC, dI) cls [(k10, .object RX14)] s := hK.sub [0] rfl
  exact W.iret (v := 0) hx hb hr (fun t ht hW => ⟨⟨0, (), rfl, rfl, ⟨by rw [ht]; exact hP9, va_K.moved hW.alike hK9, hD9⟩⟩, hS.F ht⟩) hS.2.2 dX24_inLine_56
set_option maxHeartbeats 4000000 in
set_option maxRecDepth 100000 in
theorem kX24_codeLeft {zs : Nat × Nat} (l : Launch) (dC : Nat → ClassId) (dI : Nat → Nat → Nat) (mx : Nat) (mq1 : Nat) (mq3 : Nat) (mq4 : Nat) (mc5 : ClassId) (mq6 : Nat) (mq8 : Nat) (mq22 : Nat) (p0 : Int32) (p1 : Int32) (sz : Nat)  : Met l yX24_codeLeft (wz yX24_codeLeft cX24_codeLeft 3 (Option.some Jvm.ClassFile.FieldType.int)) ({ frames := 2, cells := 0, slots := 0, locals := 44 }) (va_Pc [.ref mx, .int p0, .int p1] (PRE zs dC dI [(mx, .inr (15, [.ref mq1, .int 0, .int (-1), .int 0, .ref mq3, .ref mq4, .ref mq6, .ref mq8, .ref mq22])), (mq4, .inl (mc5, 0, .inr (.inr (.inr (.inr (fun _ => none))))))] [(mc5, .object RX14)] sz)) (va_Qi (fun (r : Int32) (_ : Unit) => r = 0) (fun _ t => POST dC dI [(mx, .inr (15, [.ref mq1, .int 0, .int (-1), .int 1, .ref mq3, .ref mq4, .ref mq6, .ref mq8, .ref mq22]))] [] (va_A [(mx, .inr (15, [.ref mq1, .int 0, .int (-1), .int 0, .ref mq3, .ref mq4, .ref mq6, .ref mq8, .ref mq22])), (mq4, .inl (mc5, 0, .inr (.inr (.inr (.inr (fun _ => none))))))] sz) t) (va_A [(mx, .inr (15, [.ref mq1, .int 0, .int (-1), .int 0, .ref mq3, .ref mq4, .ref mq6, .ref mq8, .ref mq22])), (mq4, .inl (mc5, 0, .inr (.inr (.inr (.inr (fun _ => none))))))] sz)) 0 0 (va_A [(mx, .inr (15, [.ref mq1, .int 0, .int (-1), .int 0, .ref mq3, .ref mq4, .ref mq6, .ref mq8, .ref mq22])), (mq4, .inl (mc5, 0, .inr (.inr (.inr (.inr (fun _ => none))))))] sz) := by
  refine Met.ofW (cc := cX24_codeLeft) (maxL := 3) (ret := (Option.some Jvm.ClassFile.FieldType.int)) (by decide) rfl ?_
  intro p e s m args below meth c s₁ B hml hv
  obtain ⟨rfl, hsz, hP, hK, hD0, hE⟩ := hv
  have hx := B.exec
  have hb := B.bytes
  have hr := B.returns
  have hts0 := atoms_spec (ws := wz yX24_codeLeft cX24_codeLeft 3 (Option.some Jvm.ClassFile.FieldType.int)) B.pre
  have hts : ∀ w ∈ gw, w.before _ s = true := fun w h => hts0 w (List.mem_cons_of_mem _ h)
  have hown : s.vm.findClass RX24 = some m.cls := findClass_of_methodNamed B.named
  have hlocks := B.notSynchronized
  subst hsz
  have hD := hD0.self (sz := s.heap.size)
  generalize hAe : va_A [(mx, .inr (15, [.ref mq1, .int 0, .int (-1), .int 0, .ref mq3, .ref mq4, .ref mq6, .ref mq8, .ref mq22])), (mq4, .inl (mc5, 0, .inr (.inr (.inr (.inr (fun _ => none))))))] s.heap.size = A at hD hE ⊢
  have hA : ∀ q : Nat, s.heap.size ≤ q → A q := fun q h => by rw [← hAe]; exact Or.inr h
  have hS : va_S A s.heap s.heap [] := va_S.rf
  have hP : va_P (dC, dI) cls [(mx, .inr (15, [.ref mq1, .int 0, .int (-1), .int 0, .ref mq3, .ref mq4, .ref mq6, .ref mq8, .ref mq22])), (mq4, .inl (mc5, 0, .inr (.inr (.inr (.inr (fun _ => none))))))] s.heap := hP
  have hl := lv_entry ([.ref mx, .int p0, .int p1]) (n := 3) (Nat.le_of_ble_eq_true rfl)
  rw [lg_entry_eq]
  generalize (lg_sl ([.ref mx, .int p0, .int p1]) ++ List.replicate (3 - (lg_sl ([.ref mx, .int p0, .int p1])).length) Slot.unset).toArray = ls at hl ⊢
  have hl : lv_has ls 3 [(0, .ref mx), (1, .int p0), (2, .int p1)] := hl
  refine lv_aload_n hx hb dX24_codeLeft_0 rfl (lv_at hl 0 rfl) ?_
  refine lv_iload_n hx hb dX24_codeLeft_1 rfl (lv_at hl 1 rfl) ?_
  refine lv_iload_n hx hb dX24_codeLeft_2 rfl (lv_at hl 2 rfl) ?_
  refine lv_iconst (v := 2) hx hb dX24_codeLeft_3 (by decide) ?_
  have hPc := hP.sub (ws' := [(mx, .inr (15, [.ref mq1, .int 0, .int (-1), .int 0, .ref mq3, .ref mq4, .ref mq6, .ref mq8, .ref mq22])), (mq4, .inl (mc5, 0, .inr (.inr (.inr (.inr (fun _ => none))))))]) [0, 1] rfl
  have hDc := hD.sub (ws' := [(mx, .inr (15, [.ref mq1, .int 0, .int (-1), .int 0, .ref mq3, .ref mq4, .ref mq6, .ref mq8, .ref mq22])), (mq4, .inl (mc5, 0, .inr (.inr (.inr (.inr (fun _ => none))))))]) [0, 1] (by decide) rfl
  have hKc := hK.sub (tys' := [(mc5, .object RX14)]) [0] rfl
  have hFc := va_free (wc := [(mx, .inr (15, [.ref mq1, .int 0, .int (-1), .int 0, .ref mq3, .ref mq4, .ref mq6, .ref mq8, .ref mq22])), (mq4, .inl (mc5, 0, .inr (.inr (.inr (.inr (fun _ => none))))))]) hD hS hA [0, 1] rfl
  refine va_calli (va_runV (As := [.int p0, .int p1, .int 2]) (rest := []) ⟨hx, hb, hml, hown, hts⟩ (kX24_inLine_n56 l dC dI (a0 := mx) (i1 := p0) (i2 := p1) (a3 := mq1) (a4 := mq3) (a5 := mq4) (a6 := mq6) (a7 := mq8) (a8 := mq22) (k10 := mc5) (sz := _)) (cwV 3 hts (gi_V qw471 qw472 qw473 qw434 (gi_z qw470)) rfl rfl rfl (by decide +kernel) ⟨Nat.le_of_ble_eq_true rfl, Nat.le_of_ble_eq_true rfl⟩) ⟨PRE.blind, va_recv hKc hPc (ci := 15) (q0 := 0) rfl rfl, PRE.of hE hS hFc hPc hKc hDc⟩ rfl rfl hl.1 rfl (lv_room (Nat.le_of_ble_eq_true rfl)) dX24_codeLeft_4 ⟨Nat.le_of_ble_eq_true rfl, Nat.le_of_ble_eq_true rfl⟩) hS (fun q _ h => hFc q h) hFc (fun r1 u t H locs ht hvm hw hB hz1 hk1 hS => ?_)
  obtain ⟨hP, hD, hK⟩ := JOIN (wr := []) hP hD hK [0, 1] [] [] rfl rfl (by decide) (by decide) rfl hk1 hFc ht hvm hB
  have hP : va_P (dC, dI) cls [(mq4, .inl (mc5, 0, .inr (.inr (.inr (.inr (fun _ => none)))))), (mx, .inr (15, [.ref mq1, .int 0, .int (-1), .int 1, .ref mq3, .ref mq4, .ref mq6, .ref mq8, .ref mq22]))] H := hP
  have hD : va_D A [(mq4, .inl (mc5, 0, .inr (.inr (.inr (.inr (fun _ => none)))))), (mx, .inr (15, [.ref mq1, .int 0, .int (-1), .int 1, .ref mq3, .ref mq4, .ref mq6, .ref mq8, .ref mq22]))] := hD
  have hK : va_K (dC, dI) cls [(mc5, .object RX14)] s := hK
  refine W.widen (k := 0) (n := 0) (Nat.le_of_ble_eq_true rfl) (Nat.le_of_ble_eq_true rfl) ?_
  obtain rfl : r1 = 0 := hw
  have hP9 : va_P (dC, dI) cls [(mx, .inr (15, [.ref mq1, .int 0, .int (-1), .int 1, .ref mq3, .ref mq4, .ref mq6, .ref mq8, .ref mq22]))] H := hP.sub [1] rfl
  have hD9 : va_D A [(mx, .inr (15, [.ref mq1, .int 0, .int (-1), .int 1, .ref mq3, .ref mq4, .ref mq6, .ref mq8, .ref mq22]))] := hD.sub [1] (by decide) rfl
  have hK9 : va_K (dC, dI) cls [] s := hK.sub [] rfl
  exact W.iret (v := 0) hx hb hr (fun t ht hW => ⟨⟨0, (), rfl, rfl, ⟨by rw [ht]; exact hP9, va_K.moved hW.alike hK9, hD9⟩⟩, hS.F ht⟩) hS.2.2 dX24_codeLeft_7
set_option maxHeartbeats 4000000 in
set_option maxRecDepth 100000 in
/-- GearboxModel.inLine, from the state that its caller has -/
theorem kX24_inLine_n57 {zs : Nat × Nat} (l : Launch) (dC : Nat → ClassId) (dI : Nat → Nat → Nat) (a0 : Nat) (i1 : Int32) (i2 : Int32) (a3 : Nat) (a4 : Nat) (a5 : Nat) (a6 : Nat) (a7 : Nat) (a8 : Nat) (k10 : ClassId) (sz : Nat)  : Met l yX24_inLine (wz yX24_inLine cX24_inLine 4 (Option.some Jvm.ClassFile.FieldType.int)) ({ frames := 1, cells := 0, slots := 0, locals := 21 }) (va_Pc [.ref a0, .int i1, .int i2, .int 3] (PRE zs dC dI [(a0, .inr (15, [.ref a3, .int 0, .int (-1), .int 0, .ref a4, .ref a5, .ref a6, .ref a7, .ref a8])), (a5, .inl (k10, 0, .inr (.inr (.inr (.inr (fun _ => none))))))] [(k10, .object RX14)] sz)) (va_Qi (fun (r : Int32) (_ : Unit) => r = 0) (fun _ t => POST dC dI [(a5, .inl (k10, 0, .inr (.inr (.inr (.inr (fun _ => none)))))), (a0, .inr (15, [.ref a3, .int 0, .int (-1), .int 1, .ref a4, .ref a5, .ref a6, .ref a7, .ref a8]))] [(k10, .object RX14)] (va_A [(a0, .inr (15, [.ref a3, .int 0, .int (-1), .int 0, .ref a4, .ref a5, .ref a6, .ref a7, .ref a8])), (a5, .inl (k10, 0, .inr (.inr (.inr (.inr (fun _ => none))))))] sz) t) (va_A [(a0, .inr (15, [.ref a3, .int 0, .int (-1), .int 0, .ref a4, .ref a5, .ref a6, .ref a7, .ref a8])), (a5, .inl (k10, 0, .inr (.inr (.inr (.inr (fun _ => none))))))] sz)) 0 0 (va_A [(a0, .inr (15, [.ref a3, .int 0, .int (-1), .int 0, .ref a4, .ref a5, .ref a6, .ref a7, .ref a8])), (a5, .inl (k10, 0, .inr (.inr (.inr (.inr (fun _ => none))))))] sz) := by
  refine Met.ofW (cc := cX24_inLine) (maxL := 4) (ret := (Option.some Jvm.ClassFile.FieldType.int)) (by decide) rfl ?_
  intro p e s m args below meth c s₁ B hml hv
  obtain ⟨rfl, hsz, hP, hK, hD0, hE⟩ := hv
  have hx := B.exec
  have hb := B.bytes
  have hr := B.returns
  have hts0 := atoms_spec (ws := wz yX24_inLine cX24_inLine 4 (Option.some Jvm.ClassFile.FieldType.int)) B.pre
  have hts : ∀ w ∈ gw, w.before _ s = true := fun w h => hts0 w (List.mem_cons_of_mem _ h)
  have hown : s.vm.findClass RX24 = some m.cls := findClass_of_methodNamed B.named
  have hlocks := B.notSynchronized
  subst hsz
  have hD := hD0.self (sz := s.heap.size)
  generalize hAe : va_A [(a0, .inr (15, [.ref a3, .int 0, .int (-1), .int 0, .ref a4, .ref a5, .ref a6, .ref a7, .ref a8])), (a5, .inl (k10, 0, .inr (.inr (.inr (.inr (fun _ => none))))))] s.heap.size = A at hD hE ⊢
  have hA : ∀ q : Nat, s.heap.size ≤ q → A q := fun q h => by rw [← hAe]; exact Or.inr h
  have hS : va_S A s.heap s.heap [] := va_S.rf
  have hP : va_P (dC, dI) cls [(a0, .inr (15, [.ref a3, .int 0, .int (-1), .int 0, .ref a4, .ref a5, .ref a6, .ref a7, .ref a8])), (a5, .inl (k10, 0, .inr (.inr (.inr (.inr (fun _ => none))))))] s.heap := hP
  have hl := lv_entry ([.ref a0, .int i1, .int i2, .int 3]) (n := 4) (Nat.le_of_ble_eq_true rfl)
  rw [lg_entry_eq]
  generalize (lg_sl ([.ref a0, .int i1, .int i2, .int 3]) ++ List.replicate (4 - (lg_sl ([.ref a0, .int i1, .int i2, .int 3])).length) Slot.unset).toArray = ls at hl ⊢
  have hl : lv_has ls 4 [(0, .ref a0), (1, .int i1), (2, .int i2), (3, .int 3)] := hl
  refine lv_aload_n hx hb dX24_inLine_0 rfl (lv_at hl 0 rfl) ?_
  refine lv_iconst (v := 0) hx hb dX24_inLine_1 (by decide) ?_
  refine va_put (D := (dC, dI)) (ci := 15) (v := .int 0) (ty := .int) (C := RX24) (T := TX24) (N := 9) hx hb hts i_X24 tyX24 tyX24_ok nmX24 hown hK hP hD hS 0 rfl rfl 3 (by decide) (hts _ qw428) (fun _ h9 => h9) rfl (by decide +kernel) rfl rfl (Nat.le_of_ble_eq_true rfl) dX24_inLine_2 (fun H locs hP hD hS => ?_)
  have hP : va_P (dC, dI) cls [(a0, .inr (15, [.ref a3, .int 0, .int (-1), .int 0, .ref a4, .ref a5, .ref a6, .ref a7, .ref a8])), (a5, .inl (k10, 0, .inr (.inr (.inr (.inr (fun _ => none))))))] H := hP
  have hD : va_D A [(a0, .inr (15, [.ref a3, .int 0, .int (-1), .int 0, .ref a4, .ref a5, .ref a6, .ref a7, .ref a8])), (a5, .inl (k10, 0, .inr (.inr (.inr (.inr (fun _ => none))))))] := hD
  refine lv_aload_n hx hb dX24_inLine_5 rfl (lv_at hl 0 rfl) ?_
  refine lv_iload_n hx hb dX24_inLine_6 rfl (lv_at hl 1 rfl) ?_
  have hPc := hP.sub (ws' := [(a0, .inr (15, [.ref a3, .int 0, .int (-1), .int 0, .ref a4, .ref a5, .ref a6, .ref a7, .ref a8])), (a5, .inl (k10, 0, .inr (.inr (.inr (.inr (fun _ => none))))))]) [0, 1] rfl
  have hDc := hD.sub (ws' := [(a0, .inr (15, [.ref a3, .int 0, .int (-1), .int 0, .ref a4, .ref a5, .ref a6, .ref a7, .ref a8])), (a5, .inl (k10, 0, .inr (.inr (.inr (.inr (fun _ => none))))))]) [0, 1] (by decide) rfl
  have hKc := hK.sub (tys' := [(k10, .object RX14)]) [0] rfl
  have hFc := va_free (wc := [(a0, .inr (15, [.ref a3, .int 0, .int (-1), .int 0, .ref a4, .ref a5, .ref a6, .ref a7, .ref a8])), (a5, .inl (k10, 0, .inr (.inr (.inr (.inr (fun _ => none))))))]) hD hS hA [0, 1] rfl
  refine va_calli (va_runV (As := [.int i1]) (rest := []) ⟨hx, hb, hml, hown, hts⟩ (kX24_isFunction_n47 l dC dI (a0 := a0) (i1 := i1) (a2 := a3) (a3 := a4) (a4 := a5) (a5 := a6) (a6 := a7) (a7 := a8) (k9 := k10) (sz := _)) (cwV 1 hts (gi_V qw451 qw452 qw453 qw434 (gi_z qw450)) rfl rfl rfl (by decide +kernel) ⟨Nat.le_of_ble_eq_true rfl, Nat.le_of_ble_eq_true rfl⟩) ⟨PRE.blind, va_recv hKc hPc (ci := 15) (q0 := 0) rfl rfl, PRE.of hE hS hFc hPc hKc hDc⟩ rfl rfl hl.1 rfl (lv_room (Nat.le_of_ble_eq_true rfl)) dX24_inLine_7 ⟨Nat.le_of_ble_eq_true rfl, Nat.le_of_ble_eq_true rfl⟩) hS (fun q _ h => hFc q h) hFc (fun r1 u t H locs ht hvm hw hB hz1 hk1 hS => ?_)
  obtain ⟨hP, hD, hK⟩ := JOIN (wr := []) hP hD hK [0, 1] [] [] rfl rfl (by decide) (by decide) rfl hk1 hFc ht hvm hB
  have hP : va_P (dC, dI) cls [(a0, .inr (15, [.ref a3, .int 0, .int (-1), .int 0, .ref a4, .ref a5, .ref a6, .ref a7, .ref a8])), (a5, .inl (k10, 0, .inr (.inr (.inr (.inr (fun _ => none))))))] H := hP
  have hD : va_D A [(a0, .inr (15, [.ref a3, .int 0, .int (-1), .int 0, .ref a4, .ref a5, .ref a6, .ref a7, .ref a8])), (a5, .inl (k10, 0, .inr (.inr (.inr (.inr (fun _ => none))))))] := hD
  have hK : va_K (dC, dI) cls [(k10, .object RX14)] s := hK
  refine W.widen (k := 0) (n := 0) (Nat.le_of_ble_eq_true rfl) (Nat.le_of_ble_eq_true rfl) ?_
  obtain rfl : r1 = 0 := hw
  refine lv_if_eq (tgt := 51) hx hb dX24_inLine_10 (by decide) (fun _ => ?_) (fun c => absurd (by decide) c)
  refine lv_aload_n hx hb dX24_inLine_51 rfl (lv_at hl 0 rfl) ?_
  refine lv_iconst (v := 1) hx hb dX24_inLine_52 (by decide) ?_
  have hPc := hP.sub (ws' := [(a0, .inr (15, [.ref a3, .int 0, .int (-1), .int 0, .ref a4, .ref a5, .ref a6, .ref a7, .ref a8]))]) [0] rfl
  have hDc := hD.sub (ws' := [(a0, .inr (15, [.ref a3, .int 0, .int (-1), .int 0, .ref a4, .ref a5, .ref a6, .ref a7, .ref a8]))]) [0] (by decide) rfl
  have hKc := hK.sub (tys' := []) [] rfl
  have hFc := va_free (wc := [(a0, .inr (15, [.ref a3, .int 0, .int (-1), .int 0, .ref a4, .ref a5, .ref a6, .ref a7, .ref a8]))]) hD hS hA [0] rfl
  refine va_calli (va_runV (As := [.int 1]) (rest := []) ⟨hx, hb, hml, hown, hts⟩ (kX24_no_n39 l dC dI (a0 := a0) (a1 := a3) (a2 := a4) (a3 := a5) (a4 := a6) (a5 := a7) (a6 := a8) (sz := _)) (cwV 1 hts (gi_V qw436 qw437 qw438 qw434 (gi_z qw435)) rfl rfl rfl (by decide +kernel) ⟨Nat.le_of_ble_eq_true rfl, Nat.le_of_ble_eq_true rfl⟩) ⟨PRE.blind, va_recv hKc hPc (ci := 15) (q0 := 0) rfl rfl, PRE.of hE hS hFc hPc hKc hDc⟩ rfl rfl hl.1 rfl (lv_room (Nat.le_of_ble_eq_true rfl)) dX24_inLine_53 ⟨Nat.le_of_ble_eq_true rfl, Nat.le_of_ble_eq_true rfl⟩) hS (fun q _ h => hFc q h) hFc (fun r2 u t H locs ht hvm hw hB hz1 hk1 hS => ?_)
  obtain ⟨hP, hD, hK⟩ := JOIN (wr := [(a5, .inl (k10, 0, .inr (.inr (.inr (.inr (fun _ => none))))))]) hP hD hK [0] [1] [0] rfl rfl (by decide) (by decide) rfl hk1 hFc ht hvm hB
  have hP : va_P (dC, dI) cls [(a5, .inl (k10, 0, .inr (.inr (.inr (.inr (fun _ => none)))))), (a0, .inr (15, [.ref a3, .int 0, .int (-1), .int 1, .ref a4, .ref a5, .ref a6, .ref a7, .ref a8]))] H := hP
  have hD : va_D A [(a5, .inl (k10, 0, .inr (.inr (.inr (.inr (fun _ => none)))))), (a0, .inr (15, [.ref a3, .int 0, .int (-1), .int 1, .ref a4, .ref a5, .ref a6, .ref a7, .ref a8]))] := hD
  have hK : va_K (dC, dI) cls [(k10, .object RX14)] s := hK
  refine W.widen (k := 0) (n := 0) (Nat.le_of_ble_eq_true rfl) (Nat.le_of_ble_eq_true rfl) ?_
  obtain rfl : r2 = 0 := hw
  have hP9 : va_P (dC, dI) cls [(a5, .inl (k10, 0, .inr (.inr (.inr (.inr (fun _ => none)))))), (a0, .inr (15, [.ref a3, .int 0, .int (-1), .int 1, .ref a4, .ref a5, .ref a6, .ref a7, .ref a8]))] H := hP.sub [0, 1] rfl
  have hD9 : va_D A [(a5, .inl (k10, 0, .inr (.inr (.inr (.inr (fun _ => none)))))), (a0, .inr (15, [.ref a3, .int 0, .int (-1), .int 1, .ref a4, .ref a5, .ref a6, .ref a7, .ref a8]))] := hD.sub [0, 1] (by decide) rfl
  have hK9 : va_K (dC, dI) cls [(k10, .object RX14)] s := hK.sub [0] rfl
  exact W.iret (v := 0) hx hb hr (fun t ht hW => ⟨⟨0, (), rfl, rfl, ⟨by rw [ht]; exact hP9, va_K.moved hW.alike hK9, hD9⟩⟩, hS.F ht⟩) hS.2.2 dX24_inLine_56
set_option maxHeartbeats 4000000 in
set_option maxRecDepth 100000 in
theorem kX24_codeRight {zs : Nat × Nat} (l : Launch) (dC : Nat → ClassId) (dI : Nat → Nat → Nat) (mx : Nat) (mq1 : Nat) (mq3 : Nat) (mq4 : Nat) (mc5 : ClassId) (mq6 : Nat) (mq8 : Nat) (mq22 : Nat) (p0 : Int32) (p1 : Int32) (sz : Nat)  : Met l yX24_codeRight (wz yX24_codeRight cX24_codeRight 3 (Option.some Jvm.ClassFile.FieldType.int)) ({ frames := 2, cells := 0, slots := 0, locals := 44 }) (va_Pc [.ref mx, .int p0, .int p1] (PRE zs dC dI [(mx, .inr (15, [.ref mq1, .int 0, .int (-1), .int 0, .ref mq3, .ref mq4, .ref mq6, .ref mq8, .ref mq22])), (mq4, .inl (mc5, 0, .inr (.inr (.inr (.inr (fun _ => none))))))] [(mc5, .object RX14)] sz)) (va_Qi (fun (r : Int32) (_ : Unit) => r = 0) (fun _ t => POST dC dI [(mx, .inr (15, [.ref mq1, .int 0, .int (-1), .int 1, .ref mq3, .ref mq4, .ref mq6, .ref mq8, .ref mq22]))] [] (va_A [(mx, .inr (15, [.ref mq1, .int 0, .int (-1), .int 0, .ref mq3, .ref mq4, .ref mq6, .ref mq8, .ref mq22])), (mq4, .inl (mc5, 0, .inr (.inr (.inr (.inr (fun _ => none))))))] sz) t) (va_A [(mx, .inr (15, [.ref mq1, .int 0, .int (-1), .int 0, .ref mq3, .ref mq4, .ref mq6, .ref mq8, .ref mq22])), (mq4, .inl (mc5, 0, .inr (.inr (.inr (.inr (fun _ => none))))))] sz)) 0 0 (va_A [(mx, .inr (15, [.ref mq1, .int 0, .int (-1), .int 0, .ref mq3, .ref mq4, .ref mq6, .ref mq8, .ref mq22])), (mq4, .inl (mc5, 0, .inr (.inr (.inr (.inr (fun _ => none))))))] sz) := by
  refine Met.ofW (cc := cX24_codeRight) (maxL := 3) (ret := (Option.some Jvm.ClassFile.FieldType.int)) (by decide) rfl ?_
  intro p e s m args below meth c s₁ B hml hv
  obtain ⟨rfl, hsz, hP, hK, hD0, hE⟩ := hv
  have hx := B.exec
  have hb := B.bytes
  have hr := B.returns
  have hts0 := atoms_spec (ws := wz yX24_codeRight cX24_codeRight 3 (Option.some Jvm.ClassFile.FieldType.int)) B.pre
  have hts : ∀ w ∈ gw, w.before _ s = true := fun w h => hts0 w (List.mem_cons_of_mem _ h)
  have hown : s.vm.findClass RX24 = some m.cls := findClass_of_methodNamed B.named
  have hlocks := B.notSynchronized
  subst hsz
  have hD := hD0.self (sz := s.heap.size)
  generalize hAe : va_A [(mx, .inr (15, [.ref mq1, .int 0, .int (-1), .int 0, .ref mq3, .ref mq4, .ref mq6, .ref mq8, .ref mq22])), (mq4, .inl (mc5, 0, .inr (.inr (.inr (.inr (fun _ => none))))))] s.heap.size = A at hD hE ⊢
  have hA : ∀ q : Nat, s.heap.size ≤ q → A q := fun q h => by rw [← hAe]; exact Or.inr h
  have hS : va_S A s.heap s.heap [] := va_S.rf
  have hP : va_P (dC, dI) cls [(mx, .inr (15, [.ref mq1, .int 0, .int (-1), .int 0, .ref mq3, .ref mq4, .ref mq6, .ref mq8, .ref mq22])), (mq4, .inl (mc5, 0, .inr (.inr (.inr (.inr (fun _ => none))))))] s.heap := hP
  have hl := lv_entry ([.ref mx, .int p0, .int p1]) (n := 3) (Nat.le_of_ble_eq_true rfl)
  rw [lg_entry_eq]
  generalize (lg_sl ([.ref mx, .int p0, .int p1]) ++ List.replicate (3 - (lg_sl ([.ref mx, .int p0, .int p1])).length) Slot.unset).toArray = ls at hl ⊢
  have hl : lv_has ls 3 [(0, .ref mx), (1, .int p0), (2, .int p1)] := hl
  refine lv_aload_n hx hb dX24_codeRight_0 rfl (lv_at hl 0 rfl) ?_
  refine lv_iload_n hx hb dX24_codeRight_1 rfl (lv_at hl 1 rfl) ?_
  refine lv_iload_n hx hb dX24_codeRight_2 rfl (lv_at hl 2 rfl) ?_
  refine lv_iconst (v := 3) hx hb dX24_codeRight_3 (by decide) ?_
  have hPc := hP.sub (ws' := [(mx, .inr (15, [.ref mq1, .int 0, .int (-1), .int 0, .ref mq3, .ref mq4, .ref mq6, .ref mq8, .ref mq22])), (mq4, .inl (mc5, 0, .inr (.inr (.inr (.inr (fun _ => none))))))]) [0, 1] rfl
  have hDc := hD.sub (ws' := [(mx, .inr (15, [.ref mq1, .int 0, .int (-1), .int 0, .ref mq3, .ref mq4, .ref mq6, .ref mq8, .ref mq22])), (mq4, .inl (mc5, 0, .inr (.inr (.inr (.inr (fun _ => none))))))]) [0, 1] (by decide) rfl
  have hKc := hK.sub (tys' := [(mc5, .object RX14)]) [0] rfl
  have hFc := va_free (wc := [(mx, .inr (15, [.ref mq1, .int 0, .int (-1), .int 0, .ref mq3, .ref mq4, .ref mq6, .ref mq8, .ref mq22])), (mq4, .inl (mc5, 0, .inr (.inr (.inr (.inr (fun _ => none))))))]) hD hS hA [0, 1] rfl
  refine va_calli (va_runV (As := [.int p0, .int p1, .int 3]) (rest := []) ⟨hx, hb, hml, hown, hts⟩ (kX24_inLine_n57 l dC dI (a0 := mx) (i1 := p0) (i2 := p1) (a3 := mq1) (a4 := mq3) (a5 := mq4) (a6 := mq6) (a7 := mq8) (a8 := mq22) (k10 := mc5) (sz := _)) (cwV 3 hts (gi_V qw471 qw472 qw473 qw434 (gi_z qw470)) rfl rfl rfl (by decide +kernel) ⟨Nat.le_of_ble_eq_true rfl, Nat.le_of_ble_eq_true rfl⟩) ⟨PRE.blind, va_recv hKc hPc (ci := 15) (q0 := 0) rfl rfl, PRE.of hE hS hFc hPc hKc hDc⟩ rfl rfl hl.1 rfl (lv_room (Nat.le_of_ble_eq_true rfl)) dX24_codeRight_4 ⟨Nat.le_of_ble_eq_true rfl, Nat.le_of_ble_eq_true rfl⟩) hS (fun q _ h => hFc q h) hFc (fun r1 u t H locs ht hvm hw hB hz1 hk1 hS => ?_)
  obtain ⟨hP, hD, hK⟩ := JOIN (wr := []) hP hD hK [0, 1] [] [] rfl rfl (by decide) (by decide) rfl hk1 hFc ht hvm hB
  have hP : va_P (dC, dI) cls [(mq4, .inl (mc5, 0, .inr (.inr (.inr (.inr (fun _ => none)))))), (mx, .inr (15, [.ref mq1, .int 0, .int (-1), .int 1, .ref mq3, .ref mq4, .ref mq6, .ref mq8, .ref mq22]))] H := hP
  have hD : va_D A [(mq4, .inl (mc5, 0, .inr (.inr (.inr (.inr (fun _ => none)))))), (mx, .inr (15, [.ref mq1, .int 0, .int (-1), .int 1, .ref mq3, .ref mq4, .ref mq6, .ref mq8, .ref mq22]))] := hD
  have hK : va_K (dC, dI) cls [(mc5, .object RX14)] s := hK
  refine W.widen (k := 0) (n := 0) (Nat.le_of_ble_eq_true rfl) (Nat.le_of_ble_eq_true rfl) ?_
  obtain rfl : r1 = 0 := hw
  have hP9 : va_P (dC, dI) cls [(mx, .inr (15, [.ref mq1, .int 0, .int (-1), .int 1, .ref mq3, .ref mq4, .ref mq6, .ref mq8, .ref mq22]))] H := hP.sub [1] rfl
  have hD9 : va_D A [(mx, .inr (15, [.ref mq1, .int 0, .int (-1), .int 1, .ref mq3, .ref mq4, .ref mq6, .ref mq8, .ref mq22]))] := hD.sub [1] (by decide) rfl
  have hK9 : va_K (dC, dI) cls [] s := hK.sub [] rfl
  exact W.iret (v := 0) hx hb hr (fun t ht hW => ⟨⟨0, (), rfl, rfl, ⟨by rw [ht]; exact hP9, va_K.moved hW.alike hK9, hD9⟩⟩, hS.F ht⟩) hS.2.2 dX24_codeRight_7
set_option maxHeartbeats 4000000 in
set_option maxRecDepth 100000 in
theorem kX24_slots {zs : Nat × Nat} (l : Launch) (dC : Nat → ClassId) (dI : Nat → Nat → Nat) (mx : Nat) (mq1 : Nat) (mq3 : Nat) (mq4 : Nat) (mc5 : ClassId) (mq6 : Nat) (mq8 : Nat) (mq22 : Nat) (p0 : Int32) (sz : Nat)  : Met l yX24_slots (wz yX24_slots cX24_slots 2 (Option.some Jvm.ClassFile.FieldType.int)) ({ frames := 1, cells := 0, slots := 0, locals := 21 }) (va_Pc [.ref mx, .int p0] (PRE zs dC dI [(mx, .inr (15, [.ref mq1, .int 0, .int (-1), .int 0, .ref mq3, .ref mq4, .ref mq6, .ref mq8, .ref mq22])), (mq4, .inl (mc5, 0, .inr (.inr (.inr (.inr (fun _ => none))))))] [(mc5, .object RX14)] sz)) (va_Qi (fun (r : Int32) (_ : Unit) => r = 0) (fun _ t => POST dC dI [(mx, .inr (15, [.ref mq1, .int 0, .int (-1), .int 1, .ref mq3, .ref mq4, .ref mq6, .ref mq8, .ref mq22]))] [] (va_A [(mx, .inr (15, [.ref mq1, .int 0, .int (-1), .int 0, .ref mq3, .ref mq4, .ref mq6, .ref mq8, .ref mq22])), (mq4, .inl (mc5, 0, .inr (.inr (.inr (.inr (fun _ => none))))))] sz) t) (va_A [(mx, .inr (15, [.ref mq1, .int 0, .int (-1), .int 0, .ref mq3, .ref mq4, .ref mq6, .ref mq8, .ref mq22])), (mq4, .inl (mc5, 0, .inr (.inr (.inr (.inr (fun _ => none))))))] sz)) 0 0 (va_A [(mx, .inr (15, [.ref mq1, .int 0, .int (-1), .int 0, .ref mq3, .ref mq4, .ref mq6, .ref mq8, .ref mq22])), (mq4, .inl (mc5, 0, .inr (.inr (.inr (.inr (fun _ => none))))))] sz) := by
  refine Met.ofW (cc := cX24_slots) (maxL := 2) (ret := (Option.some Jvm.ClassFile.FieldType.int)) (by decide) rfl ?_
  intro p e s m args below meth c s₁ B hml hv
  obtain ⟨rfl, hsz, hP, hK, hD0, hE⟩ := hv
  have hx := B.exec
  have hb := B.bytes
  have hr := B.returns
  have hts0 := atoms_spec (ws := wz yX24_slots cX24_slots 2 (Option.some Jvm.ClassFile.FieldType.int)) B.pre
  have hts : ∀ w ∈ gw, w.before _ s = true := fun w h => hts0 w (List.mem_cons_of_mem _ h)
  have hown : s.vm.findClass RX24 = some m.cls := findClass_of_methodNamed B.named
  have hlocks := B.notSynchronized
  subst hsz
  have hD := hD0.self (sz := s.heap.size)
  generalize hAe : va_A [(mx, .inr (15, [.ref mq1, .int 0, .int (-1), .int 0, .ref mq3, .ref mq4, .ref mq6, .ref mq8, .ref mq22])), (mq4, .inl (mc5, 0, .inr (.inr (.inr (.inr (fun _ => none))))))] s.heap.size = A at hD hE ⊢
  have hA : ∀ q : Nat, s.heap.size ≤ q → A q := fun q h => by rw [← hAe]; exact Or.inr h
  have hS : va_S A s.heap s.heap [] := va_S.rf
  have hP : va_P (dC, dI) cls [(mx, .inr (15, [.ref mq1, .int 0, .int (-1), .int 0, .ref mq3, .ref mq4, .ref mq6, .ref mq8, .ref mq22])), (mq4, .inl (mc5, 0, .inr (.inr (.inr (.inr (fun _ => none))))))] s.heap := hP
  have hl := lv_entry ([.ref mx, .int p0]) (n := 2) (Nat.le_of_ble_eq_true rfl)
  rw [lg_entry_eq]
  generalize (lg_sl ([.ref mx, .int p0]) ++ List.replicate (2 - (lg_sl ([.ref mx, .int p0])).length) Slot.unset).toArray = ls at hl ⊢
  have hl : lv_has ls 2 [(0, .ref mx), (1, .int p0)] := hl
  refine lv_aload_n hx hb dX24_slots_0 rfl (lv_at hl 0 rfl) ?_
  refine lv_iconst (v := 0) hx hb dX24_slots_1 (by decide) ?_
  refine va_put (D := (dC, dI)) (ci := 15) (v := .int 0) (ty := .int) (C := RX24) (T := TX24) (N := 9) hx hb hts i_X24 tyX24 tyX24_ok nmX24 hown hK hP hD hS 0 rfl rfl 3 (by decide) (hts _ qw428) (fun _ h9 => h9) rfl (by decide +kernel) rfl rfl (Nat.le_of_ble_eq_true rfl) dX24_slots_2 (fun H locs hP hD hS => ?_)
  have hP : va_P (dC, dI) cls [(mx, .inr (15, [.ref mq1, .int 0, .int (-1), .int 0, .ref mq3, .ref mq4, .ref mq6, .ref mq8, .ref mq22])), (mq4, .inl (mc5, 0, .inr (.inr (.inr (.inr (fun _ => none))))))] H := hP
  have hD : va_D A [(mx, .inr (15, [.ref mq1, .int 0, .int (-1), .int 0, .ref mq3, .ref mq4, .ref mq6, .ref mq8, .ref mq22])), (mq4, .inl (mc5, 0, .inr (.inr (.inr (.inr (fun _ => none))))))] := hD
  refine lv_aload_n hx hb dX24_slots_5 rfl (lv_at hl 0 rfl) ?_
  refine lv_iload_n hx hb dX24_slots_6 rfl (lv_at hl 1 rfl) ?_
  have hPc := hP.sub (ws' := [(mx, .inr (15, [.ref mq1, .int 0, .int (-1), .int 0, .ref mq3, .ref mq4, .ref mq6, .ref mq8, .ref mq22])), (mq4, .inl (mc5, 0, .inr (.inr (.inr (.inr (fun _ => none))))))]) [0, 1] rfl
  have hDc := hD.sub (ws' := [(mx, .inr (15, [.ref mq1, .int 0, .int (-1), .int 0, .ref mq3, .ref mq4, .ref mq6, .ref mq8, .ref mq22])), (mq4, .inl (mc5, 0, .inr (.inr (.inr (.inr (fun _ => none))))))]) [0, 1] (by decide) rfl
  have hKc := hK.sub (tys' := [(mc5, .object RX14)]) [0] rfl
  have hFc := va_free (wc := [(mx, .inr (15, [.ref mq1, .int 0, .int (-1), .int 0, .ref mq3, .ref mq4, .ref mq6, .ref mq8, .ref mq22])), (mq4, .inl (mc5, 0, .inr (.inr (.inr (.inr (fun _ => none))))))]) hD hS hA [0, 1] rfl
  refine va_calli (va_runV (As := [.int p0]) (rest := []) ⟨hx, hb, hml, hown, hts⟩ (kX24_isFunction_n47 l dC dI (a0 := mx) (i1 := p0) (a2 := mq1) (a3 := mq3) (a4 := mq4) (a5 := mq6) (a6 := mq8) (a7 := mq22) (k9 := mc5) (sz := _)) (cwV 1 hts (gi_V qw451 qw452 qw453 qw434 (gi_z qw450)) rfl rfl rfl (by decide +kernel) ⟨Nat.le_of_ble_eq_true rfl, Nat.le_of_ble_eq_true rfl⟩) ⟨PRE.blind, va_recv hKc hPc (ci := 15) (q0 := 0) rfl rfl, PRE.of hE hS hFc hPc hKc hDc⟩ rfl rfl hl.1 rfl (lv_room (Nat.le_of_ble_eq_true rfl)) dX24_slots_7 ⟨Nat.le_of_ble_eq_true rfl, Nat.le_of_ble_eq_true rfl⟩) hS (fun q _ h => hFc q h) hFc (fun r1 u t H locs ht hvm hw hB hz1 hk1 hS => ?_)
  obtain ⟨hP, hD, hK⟩ := JOIN (wr := []) hP hD hK [0, 1] [] [] rfl rfl (by decide) (by decide) rfl hk1 hFc ht hvm hB
  have hP : va_P (dC, dI) cls [(mx, .inr (15, [.ref mq1, .int 0, .int (-1), .int 0, .ref mq3, .ref mq4, .ref mq6, .ref mq8, .ref mq22])), (mq4, .inl (mc5, 0, .inr (.inr (.inr (.inr (fun _ => none))))))] H := hP
  have hD : va_D A [(mx, .inr (15, [.ref mq1, .int 0, .int (-1), .int 0, .ref mq3, .ref mq4, .ref mq6, .ref mq8, .ref mq22])), (mq4, .inl (mc5, 0, .inr (.inr (.inr (.inr (fun _ => none))))))] := hD
  have hK : va_K (dC, dI) cls [(mc5, .object RX14)] s := hK
  refine W.widen (k := 0) (n := 0) (Nat.le_of_ble_eq_true rfl) (Nat.le_of_ble_eq_true rfl) ?_
  obtain rfl : r1 = 0 := hw
  refine lv_if_eq (tgt := 36) hx hb dX24_slots_10 (by decide) (fun _ => ?_) (fun c => absurd (by decide) c)
  refine lv_aload_n hx hb dX24_slots_36 rfl (lv_at hl 0 rfl) ?_
  refine lv_iconst (v := 1) hx hb dX24_slots_37 (by decide) ?_
  have hPc := hP.sub (ws' := [(mx, .inr (15, [.ref mq1, .int 0, .int (-1), .int 0, .ref mq3, .ref mq4, .ref mq6, .ref mq8, .ref mq22]))]) [0] rfl
  have hDc := hD.sub (ws' := [(mx, .inr (15, [.ref mq1, .int 0, .int (-1), .int 0, .ref mq3, .ref mq4, .ref mq6, .ref mq8, .ref mq22]))]) [0] (by decide) rfl
  have hKc := hK.sub (tys' := []) [] rfl
  have hFc := va_free (wc := [(mx, .inr (15, [.ref mq1, .int 0, .int (-1), .int 0, .ref mq3, .ref mq4, .ref mq6, .ref mq8, .ref mq22]))]) hD hS hA [0] rfl
  refine va_calli (va_runV (As := [.int 1]) (rest := []) ⟨hx, hb, hml, hown, hts⟩ (kX24_no_n39 l dC dI (a0 := mx) (a1 := mq1) (a2 := mq3) (a3 := mq4) (a4 := mq6) (a5 := mq8) (a6 := mq22) (sz := _)) (cwV 1 hts (gi_V qw436 qw437 qw438 qw434 (gi_z qw435)) rfl rfl rfl (by decide +kernel) ⟨Nat.le_of_ble_eq_true rfl, Nat.le_of_ble_eq_true rfl⟩) ⟨PRE.blind, va_recv hKc hPc (ci := 15) (q0 := 0) rfl rfl, PRE.of hE hS hFc hPc hKc hDc⟩ rfl rfl hl.1 rfl (lv_room (Nat.le_of_ble_eq_true rfl)) dX24_slots_38 ⟨Nat.le_of_ble_eq_true rfl, Nat.le_of_ble_eq_true rfl⟩) hS (fun q _ h => hFc q h) hFc (fun r2 u t H locs ht hvm hw hB hz1 hk1 hS => ?_)
  obtain ⟨hP, hD, hK⟩ := JOIN (wr := [(mq4, .inl (mc5, 0, .inr (.inr (.inr (.inr (fun _ => none))))))]) hP hD hK [0] [1] [0] rfl rfl (by decide) (by decide) rfl hk1 hFc ht hvm hB
  have hP : va_P (dC, dI) cls [(mq4, .inl (mc5, 0, .inr (.inr (.inr (.inr (fun _ => none)))))), (mx, .inr (15, [.ref mq1, .int 0, .int (-1), .int 1, .ref mq3, .ref mq4, .ref mq6, .ref mq8, .ref mq22]))] H := hP
  have hD : va_D A [(mq4, .inl (mc5, 0, .inr (.inr (.inr (.inr (fun _ => none)))))), (mx, .inr (15, [.ref mq1, .int 0, .int (-1), .int 1, .ref mq3, .ref mq4, .ref mq6, .ref mq8, .ref mq22]))] := hD
  have hK : va_K (dC, dI) cls [(mc5, .object RX14)] s := hK
  refine W.widen (k := 0) (n := 0) (Nat.le_of_ble_eq_true rfl) (Nat.le_of_ble_eq_true rfl) ?_
  obtain rfl : r2 = 0 := hw
  have hP9 : va_P (dC, dI) cls [(mx, .inr (15, [.ref mq1, .int 0, .int (-1), .int 1, .ref mq3, .ref mq4, .ref mq6, .ref mq8, .ref mq22]))] H := hP.sub [1] rfl
  have hD9 : va_D A [(mx, .inr (15, [.ref mq1, .int 0, .int (-1), .int 1, .ref mq3, .ref mq4, .ref mq6, .ref mq8, .ref mq22]))] := hD.sub [1] (by decide) rfl
  have hK9 : va_K (dC, dI) cls [] s := hK.sub [] rfl
  exact W.iret (v := 0) hx hb hr (fun t ht hW => ⟨⟨0, (), rfl, rfl, ⟨by rw [ht]; exact hP9, va_K.moved hW.alike hK9, hD9⟩⟩, hS.F ht⟩) hS.2.2 dX24_slots_41
set_option maxHeartbeats 4000000 in
set_option maxRecDepth 100000 in
theorem kX24_united {zs : Nat × Nat} (l : Launch) (dC : Nat → ClassId) (dI : Nat → Nat → Nat) (mx : Nat) (mq1 : Nat) (mq3 : Nat) (mq4 : Nat) (mc5 : ClassId) (mq6 : Nat) (mq8 : Nat) (mq22 : Nat) (p0 : Int32) (sz : Nat)  : Met l yX24_united (wz yX24_united cX24_united 2 (Option.some Jvm.ClassFile.FieldType.int)) ({ frames := 1, cells := 0, slots := 0, locals := 21 }) (va_Pc [.ref mx, .int p0] (PRE zs dC dI [(mx, .inr (15, [.ref mq1, .int 0, .int (-1), .int 0, .ref mq3, .ref mq4, .ref mq6, .ref mq8, .ref mq22])), (mq4, .inl (mc5, 0, .inr (.inr (.inr (.inr (fun _ => none))))))] [(mc5, .object RX14)] sz)) (va_Qi (fun (r : Int32) (_ : Unit) => r = 0) (fun _ t => POST dC dI [(mx, .inr (15, [.ref mq1, .int 0, .int (-1), .int 1, .ref mq3, .ref mq4, .ref mq6, .ref mq8, .ref mq22]))] [] (va_A [(mx, .inr (15, [.ref mq1, .int 0, .int (-1), .int 0, .ref mq3, .ref mq4, .ref mq6, .ref mq8, .ref mq22])), (mq4, .inl (mc5, 0, .inr (.inr (.inr (.inr (fun _ => none))))))] sz) t) (va_A [(mx, .inr (15, [.ref mq1, .int 0, .int (-1), .int 0, .ref mq3, .ref mq4, .ref mq6, .ref mq8, .ref mq22])), (mq4, .inl (mc5, 0, .inr (.inr (.inr (.inr (fun _ => none))))))] sz)) 0 0 (va_A [(mx, .inr (15, [.ref mq1, .int 0, .int (-1), .int 0, .ref mq3, .ref mq4, .ref mq6, .ref mq8, .ref mq22])), (mq4, .inl (mc5, 0, .inr (.inr (.inr (.inr (fun _ => none))))))] sz) := by
  refine Met.ofW (cc := cX24_united) (maxL := 2) (ret := (Option.some Jvm.ClassFile.FieldType.int)) (by decide) rfl ?_
  intro p e s m args below meth c s₁ B hml hv
  obtain ⟨rfl, hsz, hP, hK, hD0, hE⟩ := hv
  have hx := B.exec
  have hb := B.bytes
  have hr := B.returns
  have hts0 := atoms_spec (ws := wz yX24_united cX24_united 2 (Option.some Jvm.ClassFile.FieldType.int)) B.pre
  have hts : ∀ w ∈ gw, w.before _ s = true := fun w h => hts0 w (List.mem_cons_of_mem _ h)
  have hown : s.vm.findClass RX24 = some m.cls := findClass_of_methodNamed B.named
  have hlocks := B.notSynchronized
  subst hsz
  have hD := hD0.self (sz := s.heap.size)
  generalize hAe : va_A [(mx, .inr (15, [.ref mq1, .int 0, .int (-1), .int 0, .ref mq3, .ref mq4, .ref mq6, .ref mq8, .ref mq22])), (mq4, .inl (mc5, 0, .inr (.inr (.inr (.inr (fun _ => none))))))] s.heap.size = A at hD hE ⊢
  have hA : ∀ q : Nat, s.heap.size ≤ q → A q := fun q h => by rw [← hAe]; exact Or.inr h
  have hS : va_S A s.heap s.heap [] := va_S.rf
  have hP : va_P (dC, dI) cls [(mx, .inr (15, [.ref mq1, .int 0, .int (-1), .int 0, .ref mq3, .ref mq4, .ref mq6, .ref mq8, .ref mq22])), (mq4, .inl (mc5, 0, .inr (.inr (.inr (.inr (fun _ => none))))))] s.heap := hP
  have hl := lv_entry ([.ref mx, .int p0]) (n := 2) (Nat.le_of_ble_eq_true rfl)
  rw [lg_entry_eq]
  generalize (lg_sl ([.ref mx, .int p0]) ++ List.replicate (2 - (lg_sl ([.ref mx, .int p0])).length) Slot.unset).toArray = ls at hl ⊢
  have hl : lv_has ls 2 [(0, .ref mx), (1, .int p0)] := hl
  refine lv_aload_n hx hb dX24_united_0 rfl (lv_at hl 0 rfl) ?_
  refine lv_iconst (v := 0) hx hb dX24_united_1 (by decide) ?_
  refine va_put (D := (dC, dI)) (ci := 15) (v := .int 0) (ty := .int) (C := RX24) (T := TX24) (N := 9) hx hb hts i_X24 tyX24 tyX24_ok nmX24 hown hK hP hD hS 0 rfl rfl 3 (by decide) (hts _ qw428) (fun _ h9 => h9) rfl (by decide +kernel) rfl rfl (Nat.le_of_ble_eq_true rfl) dX24_united_2 (fun H locs hP hD hS => ?_)
  have hP : va_P (dC, dI) cls [(mx, .inr (15, [.ref mq1, .int 0, .int (-1), .int 0, .ref mq3, .ref mq4, .ref mq6, .ref mq8, .ref mq22])), (mq4, .inl (mc5, 0, .inr (.inr (.inr (.inr (fun _ => none))))))] H := hP
  have hD : va_D A [(mx, .inr (15, [.ref mq1, .int 0, .int (-1), .int 0, .ref mq3, .ref mq4, .ref mq6, .ref mq8, .ref mq22])), (mq4, .inl (mc5, 0, .inr (.inr (.inr (.inr (fun _ => none))))))] := hD
  refine lv_aload_n hx hb dX24_united_5 rfl (lv_at hl 0 rfl) ?_
  refine lv_iload_n hx hb dX24_united_6 rfl (lv_at hl 1 rfl) ?_
  have hPc := hP.sub (ws' := [(mx, .inr (15, [.ref mq1, .int 0, .int (-1), .int 0, .ref mq3, .ref mq4, .ref mq6, .ref mq8, .ref mq22])), (mq4, .inl (mc5, 0, .inr (.inr (.inr (.inr (fun _ => none))))))]) [0, 1] rfl
  have hDc := hD.sub (ws' := [(mx, .inr (15, [.ref mq1, .int 0, .int (-1), .int 0, .ref mq3, .ref mq4, .ref mq6, .ref mq8, .ref mq22])), (mq4, .inl (mc5, 0, .inr (.inr (.inr (.inr (fun _ => none))))))]) [0, 1] (by decide) rfl
  have hKc := hK.sub (tys' := [(mc5, .object RX14)]) [0] rfl
  have hFc := va_free (wc := [(mx, .inr (15, [.ref mq1, .int 0, .int (-1), .int 0, .ref mq3, .ref mq4, .ref mq6, .ref mq8, .ref mq22])), (mq4, .inl (mc5, 0, .inr (.inr (.inr (.inr (fun _ => none))))))]) hD hS hA [0, 1] rfl
  refine va_calli (va_runV (As := [.int p0]) (rest := []) ⟨hx, hb, hml, hown, hts⟩ (kX24_isFunction_n47 l dC dI (a0 := mx) (i1 := p0) (a2 := mq1) (a3 := mq3) (a4 := mq4) (a5 := mq6) (a6 := mq8) (a7 := mq22) (k9 := mc5) (sz := _)) (cwV 1 hts (gi_V qw451 qw452 qw453 qw434 (gi_z qw450)) rfl rfl rfl (by decide +kernel) ⟨Nat.le_of_ble_eq_true rfl, Nat.le_of_ble_eq_true rfl⟩) ⟨PRE.blind, va_recv hKc hPc (ci := 15) (q0 := 0) rfl rfl, PRE.of hE hS hFc hPc hKc hDc⟩ rfl rfl hl.1 rfl (lv_room (Nat.le_of_ble_eq_true rfl)) dX24_united_7 ⟨Nat.le_of_ble_eq_true rfl, Nat.le_of_ble_eq_true rfl⟩) hS (fun q _ h => hFc q h) hFc (fun r1 u t H locs ht hvm hw hB hz1 hk1 hS => ?_)
  obtain ⟨hP, hD, hK⟩ := JOIN (wr := []) hP hD hK [0, 1] [] [] rfl rfl (by decide) (by decide) rfl hk1 hFc ht hvm hB
  have hP : va_P (dC, dI) cls [(mx, .inr (15, [.ref mq1, .int 0, .int (-1), .int 0, .ref mq3, .ref mq4, .ref mq6, .ref mq8, .ref mq22])), (mq4, .inl (mc5, 0, .inr (.inr (.inr (.inr (fun _ => none))))))] H := hP
  have hD : va_D A [(mx, .inr (15, [.ref mq1, .int 0, .int (-1), .int 0, .ref mq3, .ref mq4, .ref mq6, .ref mq8, .ref mq22])), (mq4, .inl (mc5, 0, .inr (.inr (.inr (.inr (fun _ => none))))))] := hD
  have hK : va_K (dC, dI) cls [(mc5, .object RX14)] s := hK
  refine W.widen (k := 0) (n := 0) (Nat.le_of_ble_eq_true rfl) (Nat.le_of_ble_eq_true rfl) ?_
  obtain rfl : r1 = 0 := hw
  refine lv_if_eq (tgt := 36) hx hb dX24_united_10 (by decide) (fun _ => ?_) (fun c => absurd (by decide) c)
  refine lv_aload_n hx hb dX24_united_36 rfl (lv_at hl 0 rfl) ?_
  refine lv_iconst (v := 1) hx hb dX24_united_37 (by decide) ?_
  have hPc := hP.sub (ws' := [(mx, .inr (15, [.ref mq1, .int 0, .int (-1), .int 0, .ref mq3, .ref mq4, .ref mq6, .ref mq8, .ref mq22]))]) [0] rfl
  have hDc := hD.sub (ws' := [(mx, .inr (15, [.ref mq1, .int 0, .int (-1), .int 0, .ref mq3, .ref mq4, .ref mq6, .ref mq8, .ref mq22]))]) [0] (by decide) rfl
  have hKc := hK.sub (tys' := []) [] rfl
  have hFc := va_free (wc := [(mx, .inr (15, [.ref mq1, .int 0, .int (-1), .int 0, .ref mq3, .ref mq4, .ref mq6, .ref mq8, .ref mq22]))]) hD hS hA [0] rfl
  refine va_calli (va_runV (As := [.int 1]) (rest := []) ⟨hx, hb, hml, hown, hts⟩ (kX24_no_n39 l dC dI (a0 := mx) (a1 := mq1) (a2 := mq3) (a3 := mq4) (a4 := mq6) (a5 := mq8) (a6 := mq22) (sz := _)) (cwV 1 hts (gi_V qw436 qw437 qw438 qw434 (gi_z qw435)) rfl rfl rfl (by decide +kernel) ⟨Nat.le_of_ble_eq_true rfl, Nat.le_of_ble_eq_true rfl⟩) ⟨PRE.blind, va_recv hKc hPc (ci := 15) (q0 := 0) rfl rfl, PRE.of hE hS hFc hPc hKc hDc⟩ rfl rfl hl.1 rfl (lv_room (Nat.le_of_ble_eq_true rfl)) dX24_united_38 ⟨Nat.le_of_ble_eq_true rfl, Nat.le_of_ble_eq_true rfl⟩) hS (fun q _ h => hFc q h) hFc (fun r2 u t H locs ht hvm hw hB hz1 hk1 hS => ?_)
  obtain ⟨hP, hD, hK⟩ := JOIN (wr := [(mq4, .inl (mc5, 0, .inr (.inr (.inr (.inr (fun _ => none))))))]) hP hD hK [0] [1] [0] rfl rfl (by decide) (by decide) rfl hk1 hFc ht hvm hB
  have hP : va_P (dC, dI) cls [(mq4, .inl (mc5, 0, .inr (.inr (.inr (.inr (fun _ => none)))))), (mx, .inr (15, [.ref mq1, .int 0, .int (-1), .int 1, .ref mq3, .ref mq4, .ref mq6, .ref mq8, .ref mq22]))] H := hP
  have hD : va_D A [(mq4, .inl (mc5, 0, .inr (.inr (.inr (.inr (fun _ => none)))))), (mx, .inr (15, [.ref mq1, .int 0, .int (-1), .int 1, .ref mq3, .ref mq4, .ref mq6, .ref mq8, .ref mq22]))] := hD
  have hK : va_K (dC, dI) cls [(mc5, .object RX14)] s := hK
  refine W.widen (k := 0) (n := 0) (Nat.le_of_ble_eq_true rfl) (Nat.le_of_ble_eq_true rfl) ?_
  obtain rfl : r2 = 0 := hw
  have hP9 : va_P (dC, dI) cls [(mx, .inr (15, [.ref mq1, .int 0, .int (-1), .int 1, .ref mq3, .ref mq4, .ref mq6, .ref mq8, .ref mq22]))] H := hP.sub [1] rfl
  have hD9 : va_D A [(mx, .inr (15, [.ref mq1, .int 0, .int (-1), .int 1, .ref mq3, .ref mq4, .ref mq6, .ref mq8, .ref mq22]))] := hD.sub [1] (by decide) rfl
  have hK9 : va_K (dC, dI) cls [] s := hK.sub [] rfl
  exact W.iret (v := 0) hx hb hr (fun t ht hW => ⟨⟨0, (), rfl, rfl, ⟨by rw [ht]; exact hP9, va_K.moved hW.alike hK9, hD9⟩⟩, hS.F ht⟩) hS.2.2 dX24_united_41
set_option maxHeartbeats 4000000 in
set_option maxRecDepth 100000 in
theorem kX24_rounds {zs : Nat × Nat} (l : Launch) (dC : Nat → ClassId) (dI : Nat → Nat → Nat) (mx : Nat) (mq1 : Nat) (mq3 : Nat) (mq4 : Nat) (mc5 : ClassId) (mq6 : Nat) (mq8 : Nat) (mq22 : Nat) (p0 : Int32) (sz : Nat)  : Met l yX24_rounds (wz yX24_rounds cX24_rounds 2 (Option.some Jvm.ClassFile.FieldType.int)) ({ frames := 1, cells := 0, slots := 0, locals := 21 }) (va_Pc [.ref mx, .int p0] (PRE zs dC dI [(mx, .inr (15, [.ref mq1, .int 0, .int (-1), .int 0, .ref mq3, .ref mq4, .ref mq6, .ref mq8, .ref mq22])), (mq4, .inl (mc5, 0, .inr (.inr (.inr (.inr (fun _ => none))))))] [(mc5, .object RX14)] sz)) (va_Qi (fun (r : Int32) (_ : Unit) => r = 0) (fun _ t => POST dC dI [(mx, .inr (15, [.ref mq1, .int 0, .int (-1), .int 1, .ref mq3, .ref mq4, .ref mq6, .ref mq8, .ref mq22]))] [] (va_A [(mx, .inr (15, [.ref mq1, .int 0, .int (-1), .int 0, .ref mq3, .ref mq4, .ref mq6, .ref mq8, .ref mq22])), (mq4, .inl (mc5, 0, .inr (.inr (.inr (.inr (fun _ => none))))))] sz) t) (va_A [(mx, .inr (15, [.ref mq1, .int 0, .int (-1), .int 0, .ref mq3, .ref mq4, .ref mq6, .ref mq8, .ref mq22])), (mq4, .inl (mc5, 0, .inr (.inr (.inr (.inr (fun _ => none))))))] sz)) 0 0 (va_A [(mx, .inr (15, [.ref mq1, .int 0, .int (-1), .int 0, .ref mq3, .ref mq4, .ref mq6, .ref mq8, .ref mq22])), (mq4, .inl (mc5, 0, .inr (.inr (.inr (.inr (fun _ => none))))))] sz) := by
  refine Met.ofW (cc := cX24_rounds) (maxL := 2) (ret := (Option.some Jvm.ClassFile.FieldType.int)) (by decide) rfl ?_
  intro p e s m args below meth c s₁ B hml hv
  obtain ⟨rfl, hsz, hP, hK, hD0, hE⟩ := hv
  have hx := B.exec
  have hb := B.bytes
  have hr := B.returns
  have hts0 := atoms_spec (ws := wz yX24_rounds cX24_rounds 2 (Option.some Jvm.ClassFile.FieldType.int)) B.pre
  have hts : ∀ w ∈ gw, w.before _ s = true := fun w h => hts0 w (List.mem_cons_of_mem _ h)
  have hown : s.vm.findClass RX24 = some m.cls := findClass_of_methodNamed B.named
  have hlocks := B.notSynchronized
  subst hsz
  have hD := hD0.self (sz := s.heap.size)
  generalize hAe : va_A [(mx, .inr (15, [.ref mq1, .int 0, .int (-1), .int 0, .ref mq3, .ref mq4, .ref mq6, .ref mq8, .ref mq22])), (mq4, .inl (mc5, 0, .inr (.inr (.inr (.inr (fun _ => none))))))] s.heap.size = A at hD hE ⊢
  have hA : ∀ q : Nat, s.heap.size ≤ q → A q := fun q h => by rw [← hAe]; exact Or.inr h
  have hS : va_S A s.heap s.heap [] := va_S.rf
  have hP : va_P (dC, dI) cls [(mx, .inr (15, [.ref mq1, .int 0, .int (-1), .int 0, .ref mq3, .ref mq4, .ref mq6, .ref mq8, .ref mq22])), (mq4, .inl (mc5, 0, .inr (.inr (.inr (.inr (fun _ => none))))))] s.heap := hP
  have hl := lv_entry ([.ref mx, .int p0]) (n := 2) (Nat.le_of_ble_eq_true rfl)
  rw [lg_entry_eq]
  generalize (lg_sl ([.ref mx, .int p0]) ++ List.replicate (2 - (lg_sl ([.ref mx, .int p0])).length) Slot.unset).toArray = ls at hl ⊢
  have hl : lv_has ls 2 [(0, .ref mx), (1, .int p0)] := hl
  refine lv_aload_n hx hb dX24_rounds_0 rfl (lv_at hl 0 rfl) ?_
  refine lv_iconst (v := 0) hx hb dX24_rounds_1 (by decide) ?_
  refine va_put (D := (dC, dI)) (ci := 15) (v := .int 0) (ty := .int) (C := RX24) (T := TX24) (N := 9) hx hb hts i_X24 tyX24 tyX24_ok nmX24 hown hK hP hD hS 0 rfl rfl 3 (by decide) (hts _ qw428) (fun _ h9 => h9) rfl (by decide +kernel) rfl rfl (Nat.le_of_ble_eq_true rfl) dX24_rounds_2 (fun H locs hP hD hS => ?_)
  have hP : va_P (dC, dI) cls [(mx, .inr (15, [.ref mq1, .int 0, .int (-1), .int 0, .ref mq3, .ref mq4, .ref mq6, .ref mq8, .ref mq22])), (mq4, .inl (mc5, 0, .inr (.inr (.inr (.inr (fun _ => none))))))] H := hP
  have hD : va_D A [(mx, .inr (15, [.ref mq1, .int 0, .int (-1), .int 0, .ref mq3, .ref mq4, .ref mq6, .ref mq8, .ref mq22])), (mq4, .inl (mc5, 0, .inr (.inr (.inr (.inr (fun _ => none))))))] := hD
  refine lv_aload_n hx hb dX24_rounds_5 rfl (lv_at hl 0 rfl) ?_
  refine lv_iload_n hx hb dX24_rounds_6 rfl (lv_at hl 1 rfl) ?_
  have hPc := hP.sub (ws' := [(mx, .inr (15, [.ref mq1, .int 0, .int (-1), .int 0, .ref mq3, .ref mq4, .ref mq6, .ref mq8, .ref mq22])), (mq4, .inl (mc5, 0, .inr (.inr (.inr (.inr (fun _ => none))))))]) [0, 1] rfl
  have hDc := hD.sub (ws' := [(mx, .inr (15, [.ref mq1, .int 0, .int (-1), .int 0, .ref mq3, .ref mq4, .ref mq6, .ref mq8, .ref mq22])), (mq4, .inl (mc5, 0, .inr (.inr (.inr (.inr (fun _ => none))))))]) [0, 1] (by decide) rfl
  have hKc := hK.sub (tys' := [(mc5, .object RX14)]) [0] rfl
  have hFc := va_free (wc := [(mx, .inr (15, [.ref mq1, .int 0, .int (-1), .int 0, .ref mq3, .ref mq4, .ref mq6, .ref mq8, .ref mq22])), (mq4, .inl (mc5, 0, .inr (.inr (.inr (.inr (fun _ => none))))))]) hD hS hA [0, 1] rfl
  refine va_calli (va_runV (As := [.int p0]) (rest := []) ⟨hx, hb, hml, hown, hts⟩ (kX24_isFunction_n47 l dC dI (a0 := mx) (i1 := p0) (a2 := mq1) (a3 := mq3) (a4 := mq4) (a5 := mq6) (a6 := mq8) (a7 := mq22) (k9 := mc5) (sz := _)) (cwV 1 hts (gi_V qw451 qw452 qw453 qw434 (gi_z qw450)) rfl rfl rfl (by decide +kernel) ⟨Nat.le_of_ble_eq_true rfl, Nat.le_of_ble_eq_true rfl⟩) ⟨PRE.blind, va_recv hKc hPc (ci := 15) (q0 := 0) rfl rfl, PRE.of hE hS hFc hPc hKc hDc⟩ rfl rfl hl.1 rfl (lv_room (Nat.le_of_ble_eq_true rfl)) dX24_rounds_7 ⟨Nat.le_of_ble_eq_true rfl, Nat.le_of_ble_eq_true rfl⟩) hS (fun q _ h => hFc q h) hFc (fun r1 u t H locs ht hvm hw hB hz1 hk1 hS => ?_)
  obtain ⟨hP, hD, hK⟩ := JOIN (wr := []) hP hD hK [0, 1] [] [] rfl rfl (by decide) (by decide) rfl hk1 hFc ht hvm hB
  have hP : va_P (dC, dI) cls [(mx, .inr (15, [.ref mq1, .int 0, .int (-1), .int 0, .ref mq3, .ref mq4, .ref mq6, .ref mq8, .ref mq22])), (mq4, .inl (mc5, 0, .inr (.inr (.inr (.inr (fun _ => none))))))] H := hP
  have hD : va_D A [(mx, .inr (15, [.ref mq1, .int 0, .int (-1), .int 0, .ref mq3, .ref mq4, .ref mq6, .ref mq8, .ref mq22])), (mq4, .inl (mc5, 0, .inr (.inr (.inr (.inr (fun _ => none))))))] := hD
  have hK : va_K (dC, dI) cls [(mc5, .object RX14)] s := hK
  refine W.widen (k := 0) (n := 0) (Nat.le_of_ble_eq_true rfl) (Nat.le_of_ble_eq_true rfl) ?_
  obtain rfl : r1 = 0 := hw
  refine lv_if_eq (tgt := 36) hx hb dX24_rounds_10 (by decide) (fun _ => ?_) (fun c => absurd (by decide) c)
  refine lv_aload_n hx hb dX24_rounds_36 rfl (lv_at hl 0 rfl) ?_
  refine lv_iconst (v := 1) hx hb dX24_rounds_37 (by decide) ?_
  have hPc := hP.sub (ws' := [(mx, .inr (15, [.ref mq1, .int 0, .int (-1), .int 0, .ref mq3, .ref mq4, .ref mq6, .ref mq8, .ref mq22]))]) [0] rfl
  have hDc := hD.sub (ws' := [(mx, .inr (15, [.ref mq1, .int 0, .int (-1), .int 0, .ref mq3, .ref mq4, .ref mq6, .ref mq8, .ref mq22]))]) [0] (by decide) rfl
  have hKc := hK.sub (tys' := []) [] rfl
  have hFc := va_free (wc := [(mx, .inr (15, [.ref mq1, .int 0, .int (-1), .int 0, .ref mq3, .ref mq4, .ref mq6, .ref mq8, .ref mq22]))]) hD hS hA [0] rfl
  refine va_calli (va_runV (As := [.int 1]) (rest := []) ⟨hx, hb, hml, hown, hts⟩ (kX24_no_n39 l dC dI (a0 := mx) (a1 := mq1) (a2 := mq3) (a3 := mq4) (a4 := mq6) (a5 := mq8) (a6 := mq22) (sz := _)) (cwV 1 hts (gi_V qw436 qw437 qw438 qw434 (gi_z qw435)) rfl rfl rfl (by decide +kernel) ⟨Nat.le_of_ble_eq_true rfl, Nat.le_of_ble_eq_true rfl⟩) ⟨PRE.blind, va_recv hKc hPc (ci := 15) (q0 := 0) rfl rfl, PRE.of hE hS hFc hPc hKc hDc⟩ rfl rfl hl.1 rfl (lv_room (Nat.le_of_ble_eq_true rfl)) dX24_rounds_38 ⟨Nat.le_of_ble_eq_true rfl, Nat.le_of_ble_eq_true rfl⟩) hS (fun q _ h => hFc q h) hFc (fun r2 u t H locs ht hvm hw hB hz1 hk1 hS => ?_)
  obtain ⟨hP, hD, hK⟩ := JOIN (wr := [(mq4, .inl (mc5, 0, .inr (.inr (.inr (.inr (fun _ => none))))))]) hP hD hK [0] [1] [0] rfl rfl (by decide) (by decide) rfl hk1 hFc ht hvm hB
  have hP : va_P (dC, dI) cls [(mq4, .inl (mc5, 0, .inr (.inr (.inr (.inr (fun _ => none)))))), (mx, .inr (15, [.ref mq1, .int 0, .int (-1), .int 1, .ref mq3, .ref mq4, .ref mq6, .ref mq8, .ref mq22]))] H := hP
  have hD : va_D A [(mq4, .inl (mc5, 0, .inr (.inr (.inr (.inr (fun _ => none)))))), (mx, .inr (15, [.ref mq1, .int 0, .int (-1), .int 1, .ref mq3, .ref mq4, .ref mq6, .ref mq8, .ref mq22]))] := hD
  have hK : va_K (dC, dI) cls [(mc5, .object RX14)] s := hK
  refine W.widen (k := 0) (n := 0) (Nat.le_of_ble_eq_true rfl) (Nat.le_of_ble_eq_true rfl) ?_
  obtain rfl : r2 = 0 := hw
  have hP9 : va_P (dC, dI) cls [(mx, .inr (15, [.ref mq1, .int 0, .int (-1), .int 1, .ref mq3, .ref mq4, .ref mq6, .ref mq8, .ref mq22]))] H := hP.sub [1] rfl
  have hD9 : va_D A [(mx, .inr (15, [.ref mq1, .int 0, .int (-1), .int 1, .ref mq3, .ref mq4, .ref mq6, .ref mq8, .ref mq22]))] := hD.sub [1] (by decide) rfl
  have hK9 : va_K (dC, dI) cls [] s := hK.sub [] rfl
  exact W.iret (v := 0) hx hb hr (fun t ht hW => ⟨⟨0, (), rfl, rfl, ⟨by rw [ht]; exact hP9, va_K.moved hW.alike hK9, hD9⟩⟩, hS.F ht⟩) hS.2.2 dX24_rounds_41
set_option maxHeartbeats 4000000 in
set_option maxRecDepth 100000 in
theorem kX24_run_ {zs : Nat × Nat} (l : Launch) (dC : Nat → ClassId) (dI : Nat → Nat → Nat) (mx : Nat) (mq1 : Nat) (mq3 : Nat) (mq4 : Nat) (mc5 : ClassId) (mq6 : Nat) (mq8 : Nat) (mq22 : Nat) (p0 : Int32) (p1 : Int32) (p2 : Int32) (p3 : Int32) (p4 : Int32) (p5 : Int32) (sz : Nat)  : Met l yX24_run_ (wz yX24_run_ cX24_run_ 8 (Option.some Jvm.ClassFile.FieldType.int)) ({ frames := 1, cells := 0, slots := 0, locals := 21 }) (va_Pc [.ref mx, .int p0, .int p1, .int p2, .int p3, .int p4, .int p5] (PRE zs dC dI [(mx, .inr (15, [.ref mq1, .int 0, .int (-1), .int 0, .ref mq3, .ref mq4, .ref mq6, .ref mq8, .ref mq22])), (mq4, .inl (mc5, 0, .inr (.inr (.inr (.inr (fun _ => none))))))] [(mc5, .object RX14)] sz)) (va_Qi (fun (r : Int32) (_ : Unit) => r = 0) (fun _ t => POST dC dI [(mx, .inr (15, [.ref mq1, .int 0, .int (-1), .int 1, .ref mq3, .ref mq4, .ref mq6, .ref mq8, .ref mq22]))] [] (va_A [(mx, .inr (15, [.ref mq1, .int 0, .int (-1), .int 0, .ref mq3, .ref mq4, .ref mq6, .ref mq8, .ref mq22])), (mq4, .inl (mc5, 0, .inr (.inr (.inr (.inr (fun _ => none))))))] sz) t) (va_A [(mx, .inr (15, [.ref mq1, .int 0, .int (-1), .int 0, .ref mq3, .ref mq4, .ref mq6, .ref mq8, .ref mq22])), (mq4, .inl (mc5, 0, .inr (.inr (.inr (.inr (fun _ => none))))))] sz)) 0 0 (va_A [(mx, .inr (15, [.ref mq1, .int 0, .int (-1), .int 0, .ref mq3, .ref mq4, .ref mq6, .ref mq8, .ref mq22])), (mq4, .inl (mc5, 0, .inr (.inr (.inr (.inr (fun _ => none))))))] sz) := by
  refine Met.ofW (cc := cX24_run_) (maxL := 8) (ret := (Option.some Jvm.ClassFile.FieldType.int)) (by decide) rfl ?_
  intro p e s m args below meth c s₁ B hml hv
  obtain ⟨rfl, hsz, hP, hK, hD0, hE⟩ := hv
  have hx := B.exec
  have hb := B.bytes
  have hr := B.returns
  have hts0 := atoms_spec (ws := wz yX24_run_ cX24_run_ 8 (Option.some Jvm.ClassFile.FieldType.int)) B.pre
  have hts : ∀ w ∈ gw, w.before _ s = true := fun w h => hts0 w (List.mem_cons_of_mem _ h)
  have hown : s.vm.findClass RX24 = some m.cls := findClass_of_methodNamed B.named
  have hlocks := B.notSynchronized
  subst hsz
  have hD := hD0.self (sz := s.heap.size)
  generalize hAe : va_A [(mx, .inr (15, [.ref mq1, .int 0, .int (-1), .int 0, .ref mq3, .ref mq4, .ref mq6, .ref mq8, .ref mq22])), (mq4, .inl (mc5, 0, .inr (.inr (.inr (.inr (fun _ => none))))))] s.heap.size = A at hD hE ⊢
  have hA : ∀ q : Nat, s.heap.size ≤ q → A q := fun q h => by rw [← hAe]; exact Or.inr h
  have hS : va_S A s.heap s.heap [] := va_S.rf
  have hP : va_P (dC, dI) cls [(mx, .inr (15, [.ref mq1, .int 0, .int (-1), .int 0, .ref mq3, .ref mq4, .ref mq6, .ref mq8, .ref mq22])), (mq4, .inl (mc5, 0, .inr (.inr (.inr (.inr (fun _ => none))))))] s.heap := hP
  have hl := lv_entry ([.ref mx, .int p0, .int p1, .int p2, .int p3, .int p4, .int p5]) (n := 8) (Nat.le_of_ble_eq_true rfl)
  rw [lg_entry_eq]
  generalize (lg_sl ([.ref mx, .int p0, .int p1, .int p2, .int p3, .int p4, .int p5]) ++ List.replicate (8 - (lg_sl ([.ref mx, .int p0, .int p1, .int p2, .int p3, .int p4, .int p5])).length) Slot.unset).toArray = ls at hl ⊢
  have hl : lv_has ls 8 [(0, .ref mx), (1, .int p0), (2, .int p1), (3, .int p2), (4, .int p3), (5, .int p4), (6, .int p5)] := hl
  refine lv_aload_n hx hb dX24_run__0 rfl (lv_at hl 0 rfl) ?_
  refine lv_iconst (v := 0) hx hb dX24_run__1 (by decide) ?_
  refine va_put (D := (dC, dI)) (ci := 15) (v := .int 0) (ty := .int) (C := RX24) (T := TX24) (N := 9) hx hb hts i_X24 tyX24 tyX24_ok nmX24 hown hK hP hD hS 0 rfl rfl 3 (by decide) (hts _ qw428) (fun _ h9 => h9) rfl (by decide +kernel) rfl rfl (Nat.le_of_ble_eq_true rfl) dX24_run__2 (fun H locs hP hD hS => ?_)
  have hP : va_P (dC, dI) cls [(mx, .inr (15, [.ref mq1, .int 0, .int (-1), .int 0, .ref mq3, .ref mq4, .ref mq6, .ref mq8, .ref mq22])), (mq4, .inl (mc5, 0, .inr (.inr (.inr (.inr (fun _ => none))))))] H := hP
  have hD : va_D A [(mx, .inr (15, [.ref mq1, .int 0, .int (-1), .int 0, .ref mq3, .ref mq4, .ref mq6, .ref mq8, .ref mq22])), (mq4, .inl (mc5, 0, .inr (.inr (.inr (.inr (fun _ => none))))))] := hD
  refine lv_aload_n hx hb dX24_run__5 rfl (lv_at hl 0 rfl) ?_
  refine lv_iload_n hx hb dX24_run__6 rfl (lv_at hl 2 rfl) ?_
  have hPc := hP.sub (ws' := [(mx, .inr (15, [.ref mq1, .int 0, .int (-1), .int 0, .ref mq3, .ref mq4, .ref mq6, .ref mq8, .ref mq22])), (mq4, .inl (mc5, 0, .inr (.inr (.inr (.inr (fun _ => none))))))]) [0, 1] rfl
  have hDc := hD.sub (ws' := [(mx, .inr (15, [.ref mq1, .int 0, .int (-1), .int 0, .ref mq3, .ref mq4, .ref mq6, .ref mq8, .ref mq22])), (mq4, .inl (mc5, 0, .inr (.inr (.inr (.inr (fun _ => none))))))]) [0, 1] (by decide) rfl
  have hKc := hK.sub (tys' := [(mc5, .object RX14)]) [0] rfl
  have hFc := va_free (wc := [(mx, .inr (15, [.ref mq1, .int 0, .int (-1), .int 0, .ref mq3, .ref mq4, .ref mq6, .ref mq8, .ref mq22])), (mq4, .inl (mc5, 0, .inr (.inr (.inr (.inr (fun _ => none))))))]) hD hS hA [0, 1] rfl
  refine va_calli (va_runV (As := [.int p1]) (rest := []) ⟨hx, hb, hml, hown, hts⟩ (kX24_isFunction_n47 l dC dI (a0 := mx) (i1 := p1) (a2 := mq1) (a3 := mq3) (a4 := mq4) (a5 := mq6) (a6 := mq8) (a7 := mq22) (k9 := mc5) (sz := _)) (cwV 1 hts (gi_V qw451 qw452 qw453 qw434 (gi_z qw450)) rfl rfl rfl (by decide +kernel) ⟨Nat.le_of_ble_eq_true rfl, Nat.le_of_ble_eq_true rfl⟩) ⟨PRE.blind, va_recv hKc hPc (ci := 15) (q0 := 0) rfl rfl, PRE.of hE hS hFc hPc hKc hDc⟩ rfl rfl hl.1 rfl (lv_room (Nat.le_of_ble_eq_true rfl)) dX24_run__7 ⟨Nat.le_of_ble_eq_true rfl, Nat.le_of_ble_eq_true rfl⟩) hS (fun q _ h => hFc q h) hFc (fun r1 u t H locs ht hvm hw hB hz1 hk1 hS => ?_)
  obtain ⟨hP, hD, hK⟩ := JOIN (wr := []) hP hD hK [0, 1] [] [] rfl rfl (by decide) (by decide) rfl hk1 hFc ht hvm hB
  have hP : va_P (dC, dI) cls [(mx, .inr (15, [.ref mq1, .int 0, .int (-1), .int 0, .ref mq3, .ref mq4, .ref mq6, .ref mq8, .ref mq22])), (mq4, .inl (mc5, 0, .inr (.inr (.inr (.inr (fun _ => none))))))] H := hP
  have hD : va_D A [(mx, .inr (15, [.ref mq1, .int 0, .int (-1), .int 0, .ref mq3, .ref mq4, .ref mq6, .ref mq8, .ref mq22])), (mq4, .inl (mc5, 0, .inr (.inr (.inr (.inr (fun _ => none))))))] := hD
  have hK : va_K (dC, dI) cls [(mc5, .object RX14)] s := hK
  refine W.widen (k := 0) (n := 0) (Nat.le_of_ble_eq_true rfl) (Nat.le_of_ble_eq_true rfl) ?_
  obtain rfl : r1 = 0 := hw
  refine lv_if_ne (tgt := 19) hx hb dX24_run__10 (by decide) (fun c => absurd (by decide) c) (fun _ => ?_)
  refine lv_aload_n hx hb dX24_run__13 rfl (lv_at hl 0 rfl) ?_
  refine lv_iconst (v := 1) hx hb dX24_run__14 (by decide) ?_
  have hPc := hP.sub (ws' := [(mx, .inr (15, [.ref mq1, .int 0, .int (-1), .int 0, .ref mq3, .ref mq4, .ref mq6, .ref mq8, .ref mq22]))]) [0] rfl
  have hDc := hD.sub (ws' := [(mx, .inr (15, [.ref mq1, .int 0, .int (-1), .int 0, .ref mq3, .ref mq4, .ref mq6, .ref mq8, .ref mq22]))]) [0] (by decide) rfl
  have hKc := hK.sub (tys' := []) [] rfl
  have hFc := va_free (wc := [(mx, .inr (15, [.ref mq1, .int 0, .int (-1), .int 0, .ref mq3, .ref mq4, .ref mq6, .ref mq8, .ref mq22]))]) hD hS hA [0] rfl
  refine va_calli (va_runV (As := [.int 1]) (rest := []) ⟨hx, hb, hml, hown, hts⟩ (kX24_no_n39 l dC dI (a0 := mx) (a1 := mq1) (a2 := mq3) (a3 := mq4) (a4 := mq6) (a5 := mq8) (a6 := mq22) (sz := _)) (cwV 1 hts (gi_V qw436 qw437 qw438 qw434 (gi_z qw435)) rfl rfl rfl (by decide +kernel) ⟨Nat.le_of_ble_eq_true rfl, Nat.le_of_ble_eq_true rfl⟩) ⟨PRE.blind, va_recv hKc hPc (ci := 15) (q0 := 0) rfl rfl, PRE.of hE hS hFc hPc hKc hDc⟩ rfl rfl hl.1 rfl (lv_room (Nat.le_of_ble_eq_true rfl)) dX24_run__15 ⟨Nat.le_of_ble_eq_true rfl, Nat.le_of_ble_eq_true rfl⟩) hS (fun q _ h => hFc q h) hFc (fun r2 u t H locs ht hvm hw hB hz1 hk1 hS => ?_)
  obtain ⟨hP, hD, hK⟩ := JOIN (wr := [(mq4, .inl (mc5, 0, .inr (.inr (.inr (.inr (fun _ => none))))))]) hP hD hK [0] [1] [0] rfl rfl (by decide) (by decide) rfl hk1 hFc ht hvm hB
  have hP : va_P (dC, dI) cls [(mq4, .inl (mc5, 0, .inr (.inr (.inr (.inr (fun _ => none)))))), (mx, .inr (15, [.ref mq1, .int 0, .int (-1), .int 1, .ref mq3, .ref mq4, .ref mq6, .ref mq8, .ref mq22]))] H := hP
  have hD : va_D A [(mq4, .inl (mc5, 0, .inr (.inr (.inr (.inr (fun _ => none)))))), (mx, .inr (15, [.ref mq1, .int 0, .int (-1), .int 1, .ref mq3, .ref mq4, .ref mq6, .ref mq8, .ref mq22]))] := hD
  have hK : va_K (dC, dI) cls [(mc5, .object RX14)] s := hK
  refine W.widen (k := 0) (n := 0) (Nat.le_of_ble_eq_true rfl) (Nat.le_of_ble_eq_true rfl) ?_
  obtain rfl : r2 = 0 := hw
  have hP9 : va_P (dC, dI) cls [(mx, .inr (15, [.ref mq1, .int 0, .int (-1), .int 1, .ref mq3, .ref mq4, .ref mq6, .ref mq8, .ref mq22]))] H := hP.sub [1] rfl
  have hD9 : va_D A [(mx, .inr (15, [.ref mq1, .int 0, .int (-1), .int 1, .ref mq3, .ref mq4, .ref mq6, .ref mq8, .ref mq22]))] := hD.sub [1] (by decide) rfl
  have hK9 : va_K (dC, dI) cls [] s := hK.sub [] rfl
  exact W.iret (v := 0) hx hb hr (fun t ht hW => ⟨⟨0, (), rfl, rfl, ⟨by rw [ht]; exact hP9, va_K.moved hW.alike hK9, hD9⟩⟩, hS.F ht⟩) hS.2.2 dX24_run__18
set_option maxHeartbeats 4000000 in
set_option maxRecDepth 100000 in
theorem kX24_differences {zs : Nat × Nat} (l : Launch) (dC : Nat → ClassId) (dI : Nat → Nat → Nat) (mx : Nat) (mq1 : Nat) (mq3 : Nat) (mq4 : Nat) (mc5 : ClassId) (mq6 : Nat) (mq8 : Nat) (mq22 : Nat) (p0 : Int32) (p1 : Int32) (p2 : Int32) (sz : Nat)  : Met l yX24_differences (wz yX24_differences cX24_differences 8 (Option.some Jvm.ClassFile.FieldType.int)) ({ frames := 1, cells := 0, slots := 0, locals := 21 }) (va_Pc [.ref mx, .int p0, .int p1, .int p2] (PRE zs dC dI [(mx, .inr (15, [.ref mq1, .int 0, .int (-1), .int 0, .ref mq3, .ref mq4, .ref mq6, .ref mq8, .ref mq22])), (mq4, .inl (mc5, 0, .inr (.inr (.inr (.inr (fun _ => none))))))] [(mc5, .object RX14)] sz)) (va_Qi (fun (r : Int32) (_ : Unit) => r = 0) (fun _ t => POST dC dI [(mx, .inr (15, [.ref mq1, .int 0, .int (-1), .int 1, .ref mq3, .ref mq4, .ref mq6, .ref mq8, .ref mq22]))] [] (va_A [(mx, .inr (15, [.ref mq1, .int 0, .int (-1), .int 0, .ref mq3, .ref mq4, .ref mq6, .ref mq8, .ref mq22])), (mq4, .inl (mc5, 0, .inr (.inr (.inr (.inr (fun _ => none))))))] sz) t) (va_A [(mx, .inr (15, [.ref mq1, .int 0, .int (-1), .int 0, .ref mq3, .ref mq4, .ref mq6, .ref mq8, .ref mq22])), (mq4, .inl (mc5, 0, .inr (.inr (.inr (.inr (fun _ => none))))))] sz)) 0 0 (va_A [(mx, .inr (15, [.ref mq1, .int 0, .int (-1), .int 0, .ref mq3, .ref mq4, .ref mq6, .ref mq8, .ref mq22])), (mq4, .inl (mc5, 0, .inr (.inr (.inr (.inr (fun _ => none))))))] sz) := by
  refine Met.ofW (cc := cX24_differences) (maxL := 8) (ret := (Option.some Jvm.ClassFile.FieldType.int)) (by decide) rfl ?_
  intro p e s m args below meth c s₁ B hml hv
  obtain ⟨rfl, hsz, hP, hK, hD0, hE⟩ := hv
  have hx := B.exec
  have hb := B.bytes
  have hr := B.returns
  have hts0 := atoms_spec (ws := wz yX24_differences cX24_differences 8 (Option.some Jvm.ClassFile.FieldType.int)) B.pre
  have hts : ∀ w ∈ gw, w.before _ s = true := fun w h => hts0 w (List.mem_cons_of_mem _ h)
  have hown : s.vm.findClass RX24 = some m.cls := findClass_of_methodNamed B.named
  have hlocks := B.notSynchronized
  subst hsz
  have hD := hD0.self (sz := s.heap.size)
  generalize hAe : va_A [(mx, .inr (15, [.ref mq1, .int 0, .int (-1), .int 0, .ref mq3, .ref mq4, .ref mq6, .ref mq8, .ref mq22])), (mq4, .inl (mc5, 0, .inr (.inr (.inr (.inr (fun _ => none))))))] s.heap.size = A at hD hE ⊢
  have hA : ∀ q : Nat, s.heap.size ≤ q → A q := fun q h => by rw [← hAe]; exact Or.inr h
  have hS : va_S A s.heap s.heap [] := va_S.rf
  have hP : va_P (dC, dI) cls [(mx, .inr (15, [.ref mq1, .int 0, .int (-1), .int 0, .ref mq3, .ref mq4, .ref mq6, .ref mq8, .ref mq22])), (mq4, .inl (mc5, 0, .inr (.inr (.inr (.inr (fun _ => none))))))] s.heap := hP
  have hl := lv_entry ([.ref mx, .int p0, .int p1, .int p2]) (n := 8) (Nat.le_of_ble_eq_true rfl)
  rw [lg_entry_eq]
  generalize (lg_sl ([.ref mx, .int p0, .int p1, .int p2]) ++ List.replicate (8 - (lg_sl ([.ref mx, .int p0, .int p1, .int p2])).length) Slot.unset).toArray = ls at hl ⊢
  have hl : lv_has ls 8 [(0, .ref mx), (1, .int p0), (2, .int p1), (3, .int p2)] := hl
  refine lv_aload_n hx hb dX24_differences_0 rfl (lv_at hl 0 rfl) ?_
  refine lv_iconst (v := 0) hx hb dX24_differences_1 (by decide) ?_
  refine va_put (D := (dC, dI)) (ci := 15) (v := .int 0) (ty := .int) (C := RX24) (T := TX24) (N := 9) hx hb hts i_X24 tyX24 tyX24_ok nmX24 hown hK hP hD hS 0 rfl rfl 3 (by decide) (hts _ qw428) (fun _ h9 => h9) rfl (by decide +kernel) rfl rfl (Nat.le_of_ble_eq_true rfl) dX24_differences_2 (fun H locs hP hD hS => ?_)
  have hP : va_P (dC, dI) cls [(mx, .inr (15, [.ref mq1, .int 0, .int (-1), .int 0, .ref mq3, .ref mq4, .ref mq6, .ref mq8, .ref mq22])), (mq4, .inl (mc5, 0, .inr (.inr (.inr (.inr (fun _ => none))))))] H := hP
  have hD : va_D A [(mx, .inr (15, [.ref mq1, .int 0, .int (-1), .int 0, .ref mq3, .ref mq4, .ref mq6, .ref mq8, .ref mq22])), (mq4, .inl (mc5, 0, .inr (.inr (.inr (.inr (fun _ => none))))))] := hD
  refine lv_aload_n hx hb dX24_differences_5 rfl (lv_at hl 0 rfl) ?_
  refine lv_iload_n hx hb dX24_differences_6 rfl (lv_at hl 1 rfl) ?_
  have hPc := hP.sub (ws' := [(mx, .inr (15, [.ref mq1, .int 0, .int (-1), .int 0, .ref mq3, .ref mq4, .ref mq6, .ref mq8, .ref mq22])), (mq4, .inl (mc5, 0, .inr (.inr (.inr (.inr (fun _ => none))))))]) [0, 1] rfl
  have hDc := hD.sub (ws' := [(mx, .inr (15, [.ref mq1, .int 0, .int (-1), .int 0, .ref mq3, .ref mq4, .ref mq6, .ref mq8, .ref mq22])), (mq4, .inl (mc5, 0, .inr (.inr (.inr (.inr (fun _ => none))))))]) [0, 1] (by decide) rfl
  have hKc := hK.sub (tys' := [(mc5, .object RX14)]) [0] rfl
  have hFc := va_free (wc := [(mx, .inr (15, [.ref mq1, .int 0, .int (-1), .int 0, .ref mq3, .ref mq4, .ref mq6, .ref mq8, .ref mq22])), (mq4, .inl (mc5, 0, .inr (.inr (.inr (.inr (fun _ => none))))))]) hD hS hA [0, 1] rfl
  refine va_calli (va_runV (As := [.int p0]) (rest := []) ⟨hx, hb, hml, hown, hts⟩ (kX24_isFunction_n47 l dC dI (a0 := mx) (i1 := p0) (a2 := mq1) (a3 := mq3) (a4 := mq4) (a5 := mq6) (a6 := mq8) (a7 := mq22) (k9 := mc5) (sz := _)) (cwV 1 hts (gi_V qw451 qw452 qw453 qw434 (gi_z qw450)) rfl rfl rfl (by decide +kernel) ⟨Nat.le_of_ble_eq_true rfl, Nat.le_of_ble_eq_true rfl⟩) ⟨PRE.blind, va_recv hKc hPc (ci := 15) (q0 := 0) rfl rfl, PRE.of hE hS hFc hPc hKc hDc⟩ rfl rfl hl.1 rfl (lv_room (Nat.le_of_ble_eq_true rfl)) dX24_differences_7 ⟨Nat.le_of_ble_eq_true rfl, Nat.le_of_ble_eq_true rfl⟩) hS (fun q _ h => hFc q h) hFc (fun r1 u t H locs ht hvm hw hB hz1 hk1 hS => ?_)
  obtain ⟨hP, hD, hK⟩ := JOIN (wr := []) hP hD hK [0, 1] [] [] rfl rfl (by decide) (by decide) rfl hk1 hFc ht hvm hB
  have hP : va_P (dC, dI) cls [(mx, .inr (15, [.ref mq1, .int 0, .int (-1), .int 0, .ref mq3, .ref mq4, .ref mq6, .ref mq8, .ref mq22])), (mq4, .inl (mc5, 0, .inr (.inr (.inr (.inr (fun _ => none))))))] H := hP
  have hD : va_D A [(mx, .inr (15, [.ref mq1, .int 0, .int (-1), .int 0, .ref mq3, .ref mq4, .ref mq6, .ref mq8, .ref mq22])), (mq4, .inl (mc5, 0, .inr (.inr (.inr (.inr (fun _ => none))))))] := hD
  have hK : va_K (dC, dI) cls [(mc5, .object RX14)] s := hK
  refine W.widen (k := 0) (n := 0) (Nat.le_of_ble_eq_true rfl) (Nat.le_of_ble_eq_true rfl) ?_
  obtain rfl : r1 = 0 := hw
  refine lv_if_ne (tgt := 19) hx hb dX24_differences_10 (by decide) (fun c => absurd (by decide) c) (fun _ => ?_)
  refine lv_aload_n hx hb dX24_differences_13 rfl (lv_at hl 0 rfl) ?_
  refine lv_iconst (v := 1) hx hb dX24_differences_14 (by decide) ?_
  have hPc := hP.sub (ws' := [(mx, .inr (15, [.ref mq1, .int 0, .int (-1), .int 0, .ref mq3, .ref mq4, .ref mq6, .ref mq8, .ref mq22]))]) [0] rfl
  have hDc := hD.sub (ws' := [(mx, .inr (15, [.ref mq1, .int 0, .int (-1), .int 0, .ref mq3, .ref mq4, .ref mq6, .ref mq8, .ref mq22]))]) [0] (by decide) rfl
  have hKc := hK.sub (tys' := []) [] rfl
  have hFc := va_free (wc := [(mx, .inr (15, [.ref mq1, .int 0, .int (-1), .int 0, .ref mq3, .ref mq4, .ref mq6, .ref mq8, .ref mq22]))]) hD hS hA [0] rfl
  refine va_calli (va_runV (As := [.int 1]) (rest := []) ⟨hx, hb, hml, hown, hts⟩ (kX24_no_n39 l dC dI (a0 := mx) (a1 := mq1) (a2 := mq3) (a3 := mq4) (a4 := mq6) (a5 := mq8) (a6 := mq22) (sz := _)) (cwV 1 hts (gi_V qw436 qw437 qw438 qw434 (gi_z qw435)) rfl rfl rfl (by decide +kernel) ⟨Nat.le_of_ble_eq_true rfl, Nat.le_of_ble_eq_true rfl⟩) ⟨PRE.blind, va_recv hKc hPc (ci := 15) (q0 := 0) rfl rfl, PRE.of hE hS hFc hPc hKc hDc⟩ rfl rfl hl.1 rfl (lv_room (Nat.le_of_ble_eq_true rfl)) dX24_differences_15 ⟨Nat.le_of_ble_eq_true rfl, Nat.le_of_ble_eq_true rfl⟩) hS (fun q _ h => hFc q h) hFc (fun r2 u t H locs ht hvm hw hB hz1 hk1 hS => ?_)
  obtain ⟨hP, hD, hK⟩ := JOIN (wr := [(mq4, .inl (mc5, 0, .inr (.inr (.inr (.inr (fun _ => none))))))]) hP hD hK [0] [1] [0] rfl rfl (by decide) (by decide) rfl hk1 hFc ht hvm hB
  have hP : va_P (dC, dI) cls [(mq4, .inl (mc5, 0, .inr (.inr (.inr (.inr (fun _ => none)))))), (mx, .inr (15, [.ref mq1, .int 0, .int (-1), .int 1, .ref mq3, .ref mq4, .ref mq6, .ref mq8, .ref mq22]))] H := hP
  have hD : va_D A [(mq4, .inl (mc5, 0, .inr (.inr (.inr (.inr (fun _ => none)))))), (mx, .inr (15, [.ref mq1, .int 0, .int (-1), .int 1, .ref mq3, .ref mq4, .ref mq6, .ref mq8, .ref mq22]))] := hD
  have hK : va_K (dC, dI) cls [(mc5, .object RX14)] s := hK
  refine W.widen (k := 0) (n := 0) (Nat.le_of_ble_eq_true rfl) (Nat.le_of_ble_eq_true rfl) ?_
  obtain rfl : r2 = 0 := hw
  have hP9 : va_P (dC, dI) cls [(mx, .inr (15, [.ref mq1, .int 0, .int (-1), .int 1, .ref mq3, .ref mq4, .ref mq6, .ref mq8, .ref mq22]))] H := hP.sub [1] rfl
  have hD9 : va_D A [(mx, .inr (15, [.ref mq1, .int 0, .int (-1), .int 1, .ref mq3, .ref mq4, .ref mq6, .ref mq8, .ref mq22]))] := hD.sub [1] (by decide) rfl
  have hK9 : va_K (dC, dI) cls [] s := hK.sub [] rfl
  exact W.iret (v := 0) hx hb hr (fun t ht hW => ⟨⟨0, (), rfl, rfl, ⟨by rw [ht]; exact hP9, va_K.moved hW.alike hK9, hD9⟩⟩, hS.F ht⟩) hS.2.2 dX24_differences_18
set_option maxHeartbeats 4000000 in
set_option maxRecDepth 100000 in
theorem kX24_word_a {zs : Nat × Nat} (l : Launch) (dC : Nat → ClassId) (dI : Nat → Nat → Nat) (mx : Nat) (mq1 : Nat) (mq3 : Nat) (mq4 : Nat) (mq6 : Nat) (mq8 : Nat) (mq22 : Nat) (p0 : Int32) (sz : Nat) (h1 : p0 < 0) : Met l yX24_word (wz yX24_word cX24_word 2 (Option.some Jvm.ClassFile.FieldType.int)) ({ frames := 1, cells := 0, slots := 0, locals := 21 }) (va_Pc [.ref mx, .int p0] (PRE zs dC dI [(mx, .inr (15, [.ref mq1, .int 0, .int (-1), .int 0, .ref mq3, .ref mq4, .ref mq6, .ref mq8, .ref mq22]))] [] sz)) (va_Qi (fun (r : Int32) (_ : Unit) => r = 0) (fun _ t => POST dC dI [(mx, .inr (15, [.ref mq1, .int 0, .int (-1), .int 1, .ref mq3, .ref mq4, .ref mq6, .ref mq8, .ref mq22]))] [] (va_A [(mx, .inr (15, [.ref mq1, .int 0, .int (-1), .int 0, .ref mq3, .ref mq4, .ref mq6, .ref mq8, .ref mq22]))] sz) t) (va_A [(mx, .inr (15, [.ref mq1, .int 0, .int (-1), .int 0, .ref mq3, .ref mq4, .ref mq6, .ref mq8, .ref mq22]))] sz)) 0 0 (va_A [(mx, .inr (15, [.ref mq1, .int 0, .int (-1), .int 0, .ref mq3, .ref mq4, .ref mq6, .ref mq8, .ref mq22]))] sz) := by
  refine Met.ofW (cc := cX24_word) (maxL := 2) (ret := (Option.some Jvm.ClassFile.FieldType.int)) (by decide) rfl ?_
  intro p e s m args below meth c s₁ B hml hv
  obtain ⟨rfl, hsz, hP, hK, hD0, hE⟩ := hv
  have hx := B.exec
  have hb := B.bytes
  have hr := B.returns
  have hts0 := atoms_spec (ws := wz yX24_word cX24_word 2 (Option.some Jvm.ClassFile.FieldType.int)) B.pre
  have hts : ∀ w ∈ gw, w.before _ s = true := fun w h => hts0 w (List.mem_cons_of_mem _ h)
  have hown : s.vm.findClass RX24 = some m.cls := findClass_of_methodNamed B.named
  have hlocks := B.notSynchronized
  subst hsz
  have hD := hD0.self (sz := s.heap.size)
  generalize hAe : va_A [(mx, .inr (15, [.ref mq1, .int 0, .int (-1), .int 0, .ref mq3, .ref mq4, .ref mq6, .ref mq8, .ref mq22]))] s.heap.size = A at hD hE ⊢
  have hA : ∀ q : Nat, s.heap.size ≤ q → A q := fun q h => by rw [← hAe]; exact Or.inr h
  have hS : va_S A s.heap s.heap [] := va_S.rf
  have hP : va_P (dC, dI) cls [(mx, .inr (15, [.ref mq1, .int 0, .int (-1), .int 0, .ref mq3, .ref mq4, .ref mq6, .ref mq8, .ref mq22]))] s.heap := hP
  have hl := lv_entry ([.ref mx, .int p0]) (n := 2) (Nat.le_of_ble_eq_true rfl)
  rw [lg_entry_eq]
  generalize (lg_sl ([.ref mx, .int p0]) ++ List.replicate (2 - (lg_sl ([.ref mx, .int p0])).length) Slot.unset).toArray = ls at hl ⊢
  have hl : lv_has ls 2 [(0, .ref mx), (1, .int p0)] := hl
  refine lv_aload_n hx hb dX24_word_0 rfl (lv_at hl 0 rfl) ?_
  refine lv_iconst (v := 0) hx hb dX24_word_1 (by decide) ?_
  refine va_put (D := (dC, dI)) (ci := 15) (v := .int 0) (ty := .int) (C := RX24) (T := TX24) (N := 9) hx hb hts i_X24 tyX24 tyX24_ok nmX24 hown hK hP hD hS 0 rfl rfl 3 (by decide) (hts _ qw428) (fun _ h9 => h9) rfl (by decide +kernel) rfl rfl (Nat.le_of_ble_eq_true rfl) dX24_word_2 (fun H locs hP hD hS => ?_)
  have hP : va_P (dC, dI) cls [(mx, .inr (15, [.ref mq1, .int 0, .int (-1), .int 0, .ref mq3, .ref mq4, .ref mq6, .ref mq8, .ref mq22]))] H := hP
  have hD : va_D A [(mx, .inr (15, [.ref mq1, .int 0, .int (-1), .int 0, .ref mq3, .ref mq4, .ref mq6, .ref mq8, .ref mq22]))] := hD
  refine lv_iload_n hx hb dX24_word_5 rfl (lv_at hl 1 rfl) ?_
  refine lv_if_lt (tgt := 27) hx hb dX24_word_6 (by decide) (fun _ => ?_) (fun c => absurd h1 c)
  refine lv_aload_n hx hb dX24_word_27 rfl (lv_at hl 0 rfl) ?_
  refine lv_iconst (v := 1) hx hb dX24_word_28 (by decide) ?_
  have hPc := hP.sub (ws' := [(mx, .inr (15, [.ref mq1, .int 0, .int (-1), .int 0, .ref mq3, .ref mq4, .ref mq6, .ref mq8, .ref mq22]))]) [0] rfl
  have hDc := hD.sub (ws' := [(mx, .inr (15, [.ref mq1, .int 0, .int (-1), .int 0, .ref mq3, .ref mq4, .ref mq6, .ref mq8, .ref mq22]))]) [0] (by decide) rfl
  have hKc := hK.sub (tys' := []) [] rfl
  have hFc := va_free (wc := [(mx, .inr (15, [.ref mq1, .int 0, .int (-1), .int 0, .ref mq3, .ref mq4, .ref mq6, .ref mq8, .ref mq22]))]) hD hS hA [0] rfl
  refine va_calli (va_runV (As := [.int 1]) (rest := []) ⟨hx, hb, hml, hown, hts⟩ (kX24_no_n39 l dC dI (a0 := mx) (a1 := mq1) (a2 := mq3) (a3 := mq4) (a4 := mq6) (a5 := mq8) (a6 := mq22) (sz := _)) (cwV 1 hts (gi_V qw436 qw437 qw438 qw434 (gi_z qw435)) rfl rfl rfl (by decide +kernel) ⟨Nat.le_of_ble_eq_true rfl, Nat.le_of_ble_eq_true rfl⟩) ⟨PRE.blind, va_recv hKc hPc (ci := 15) (q0 := 0) rfl rfl, PRE.of hE hS hFc hPc hKc hDc⟩ rfl rfl hl.1 rfl (lv_room (Nat.le_of_ble_eq_true rfl)) dX24_word_29 ⟨Nat.le_of_ble_eq_true rfl, Nat.le_of_ble_eq_true rfl⟩) hS (fun q _ h => hFc q h) hFc (fun r1 u t H locs ht hvm hw hB hz1 hk1 hS => ?_)
  obtain ⟨hP, hD, hK⟩ := JOIN (wr := []) hP hD hK [0] [] [] rfl rfl (by decide) (by decide) rfl hk1 hFc ht hvm hB
  have hP : va_P (dC, dI) cls [(mx, .inr (15, [.ref mq1, .int 0, .int (-1), .int 1, .ref mq3, .ref mq4, .ref mq6, .ref mq8, .ref mq22]))] H := hP
  have hD : va_D A [(mx, .inr (15, [.ref mq1, .int 0, .int (-1), .int 1, .ref mq3, .ref mq4, .ref mq6, .ref mq8, .ref mq22]))] := hD
  have hK : va_K (dC, dI) cls [] s := hK
  refine W.widen (k := 0) (n := 0) (Nat.le_of_ble_eq_true rfl) (Nat.le_of_ble_eq_true rfl) ?_
  obtain rfl : r1 = 0 := hw
  have hP9 : va_P (dC, dI) cls [(mx, .inr (15, [.ref mq1, .int 0, .int (-1), .int 1, .ref mq3, .ref mq4, .ref mq6, .ref mq8, .ref mq22]))] H := hP.sub [0] rfl
  have hD9 : va_D A [(mx, .inr (15, [.ref mq1, .int 0, .int (-1), .int 1, .ref mq3, .ref mq4, .ref mq6, .ref mq8, .ref mq22]))] := hD.sub [0] (by decide) rfl
  have hK9 : va_K (dC, dI) cls [] s := hK.sub [] rfl
  exact W.iret (v := 0) hx hb hr (fun t ht hW => ⟨⟨0, (), rfl, rfl, ⟨by rw [ht]; exact hP9, va_K.moved hW.alike hK9, hD9⟩⟩, hS.F ht⟩) hS.2.2 dX24_word_32
set_option maxHeartbeats 4000000 in
set_option maxRecDepth 100000 in
theorem kX24_word_b {zs : Nat × Nat} (l : Launch) (dC : Nat → ClassId) (dI : Nat → Nat → Nat) (mx : Nat) (mq1 : Nat) (mq3 : Nat) (mq4 : Nat) (mq6 : Nat) (mq8 : Nat) (mq22 : Nat) (p0 : Int32) (sz : Nat) (h1 : ¬ p0 < 0) (h2 : 16 ≤ p0) : Met l yX24_word (wz yX24_word cX24_word 2 (Option.some Jvm.ClassFile.FieldType.int)) ({ frames := 1, cells := 0, slots := 0, locals := 21 }) (va_Pc [.ref mx, .int p0] (PRE zs dC dI [(mx, .inr (15, [.ref mq1, .int 0, .int (-1), .int 0, .ref mq3, .ref mq4, .ref mq6, .ref mq8, .ref mq22]))] [] sz)) (va_Qi (fun (r : Int32) (_ : Unit) => r = 0) (fun _ t => POST dC dI [(mx, .inr (15, [.ref mq1, .int 0, .int (-1), .int 1, .ref mq3, .ref mq4, .ref mq6, .ref mq8, .ref mq22]))] [] (va_A [(mx, .inr (15, [.ref mq1, .int 0, .int (-1), .int 0, .ref mq3, .ref mq4, .ref mq6, .ref mq8, .ref mq22]))] sz) t) (va_A [(mx, .inr (15, [.ref mq1, .int 0, .int (-1), .int 0, .ref mq3, .ref mq4, .ref mq6, .ref mq8, .ref mq22]))] sz)) 0 0 (va_A [(mx, .inr (15, [.ref mq1, .int 0, .int (-1), .int 0, .ref mq3, .ref mq4, .ref mq6, .ref mq8, .ref mq22]))] sz) := by
  refine Met.ofW (cc := cX24_word) (maxL := 2) (ret := (Option.some Jvm.ClassFile.FieldType.int)) (by decide) rfl ?_
  intro p e s m args below meth c s₁ B hml hv
  obtain ⟨rfl, hsz, hP, hK, hD0, hE⟩ := hv
  have hx := B.exec
  have hb := B.bytes
  have hr := B.returns
  have hts0 := atoms_spec (ws := wz yX24_word cX24_word 2 (Option.some Jvm.ClassFile.FieldType.int)) B.pre
  have hts : ∀ w ∈ gw, w.before _ s = true := fun w h => hts0 w (List.mem_cons_of_mem _ h)
  have hown : s.vm.findClass RX24 = some m.cls := findClass_of_methodNamed B.named
  have hlocks := B.notSynchronized
  subst hsz
  have hD := hD0.self (sz := s.heap.size)
  generalize hAe : va_A [(mx, .inr (15, [.ref mq1, .int 0, .int (-1), .int 0, .ref mq3, .ref mq4, .ref mq6, .ref mq8, .ref mq22]))] s.heap.size = A at hD hE ⊢
  have hA : ∀ q : Nat, s.heap.size ≤ q → A q := fun q h => by rw [← hAe]; exact Or.inr h
  have hS : va_S A s.heap s.heap [] := va_S.rf
  have hP : va_P (dC, dI) cls [(mx, .inr (15, [.ref mq1, .int 0, .int (-1), .int 0, .ref mq3, .ref mq4, .ref mq6, .ref mq8, .ref mq22]))] s.heap := hP
  have hl := lv_entry ([.ref mx, .int p0]) (n := 2) (Nat.le_of_ble_eq_true rfl)
  rw [lg_entry_eq]
  generalize (lg_sl ([.ref mx, .int p0]) ++ List.replicate (2 - (lg_sl ([.ref mx, .int p0])).length) Slot.unset).toArray = ls at hl ⊢
  have hl : lv_has ls 2 [(0, .ref mx), (1, .int p0)] := hl
  refine lv_aload_n hx hb dX24_word_0 rfl (lv_at hl 0 rfl) ?_
  refine lv_iconst (v := 0) hx hb dX24_word_1 (by decide) ?_
  refine va_put (D := (dC, dI)) (ci := 15) (v := .int 0) (ty := .int) (C := RX24) (T := TX24) (N := 9) hx hb hts i_X24 tyX24 tyX24_ok nmX24 hown hK hP hD hS 0 rfl rfl 3 (by decide) (hts _ qw428) (fun _ h9 => h9) rfl (by decide +kernel) rfl rfl (Nat.le_of_ble_eq_true rfl) dX24_word_2 (fun H locs hP hD hS => ?_)
  have hP : va_P (dC, dI) cls [(mx, .inr (15, [.ref mq1, .int 0, .int (-1), .int 0, .ref mq3, .ref mq4, .ref mq6, .ref mq8, .ref mq22]))] H := hP
  have hD : va_D A [(mx, .inr (15, [.ref mq1, .int 0, .int (-1), .int 0, .ref mq3, .ref mq4, .ref mq6, .ref mq8, .ref mq22]))] := hD
  refine lv_iload_n hx hb dX24_word_5 rfl (lv_at hl 1 rfl) ?_
  refine lv_if_lt (tgt := 27) hx hb dX24_word_6 (by decide) (fun c => absurd c h1) (fun _ => ?_)
  refine lv_iload_n hx hb dX24_word_9 rfl (lv_at hl 1 rfl) ?_
  refine lv_bipush (v := 16) hx hb dX24_word_10 (by decide) ?_
  refine lv_icmp_ge (tgt := 27) hx hb dX24_word_12 (by decide) (fun _ => ?_) (fun c => absurd h2 c)
  refine lv_aload_n hx hb dX24_word_27 rfl (lv_at hl 0 rfl) ?_
  refine lv_iconst (v := 1) hx hb dX24_word_28 (by decide) ?_
  have hPc := hP.sub (ws' := [(mx, .inr (15, [.ref mq1, .int 0, .int (-1), .int 0, .ref mq3, .ref mq4, .ref mq6, .ref mq8, .ref mq22]))]) [0] rfl
  have hDc := hD.sub (ws' := [(mx, .inr (15, [.ref mq1, .int 0, .int (-1), .int 0, .ref mq3, .ref mq4, .ref mq6, .ref mq8, .ref mq22]))]) [0] (by decide) rfl
  have hKc := hK.sub (tys' := []) [] rfl
  have hFc := va_free (wc := [(mx, .inr (15, [.ref mq1, .int 0, .int (-1), .int 0, .ref mq3, .ref mq4, .ref mq6, .ref mq8, .ref mq22]))]) hD hS hA [0] rfl
  refine va_calli (va_runV (As := [.int 1]) (rest := []) ⟨hx, hb, hml, hown, hts⟩ (kX24_no_n39 l dC dI (a0 := mx) (a1 := mq1) (a2 := mq3) (a3 := mq4) (a4 := mq6) (a5 := mq8) (a6 := mq22) (sz := _)) (cwV 1 hts (gi_V qw436 qw437 qw438 qw434 (gi_z qw435)) rfl rfl rfl (by decide +kernel) ⟨Nat.le_of_ble_eq_true rfl, Nat.le_of_ble_eq_true rfl⟩) ⟨PRE.blind, va_recv hKc hPc (ci := 15) (q0 := 0) rfl rfl, PRE.of hE hS hFc hPc hKc hDc⟩ rfl rfl hl.1 rfl (lv_room (Nat.le_of_ble_eq_true rfl)) dX24_word_29 ⟨Nat.le_of_ble_eq_true rfl, Nat.le_of_ble_eq_true rfl⟩) hS (fun q _ h => hFc q h) hFc (fun r1 u t H locs ht hvm hw hB hz1 hk1 hS => ?_)
  obtain ⟨hP, hD, hK⟩ := JOIN (wr := []) hP hD hK [0] [] [] rfl rfl (by decide) (by decide) rfl hk1 hFc ht hvm hB
  have hP : va_P (dC, dI) cls [(mx, .inr (15, [.ref mq1, .int 0, .int (-1), .int 1, .ref mq3, .ref mq4, .ref mq6, .ref mq8, .ref mq22]))] H := hP
  have hD : va_D A [(mx, .inr (15, [.ref mq1, .int 0, .int (-1), .int 1, .ref mq3, .ref mq4, .ref mq6, .ref mq8, .ref mq22]))] := hD
  have hK : va_K (dC, dI) cls [] s := hK
  refine W.widen (k := 0) (n := 0) (Nat.le_of_ble_eq_true rfl) (Nat.le_of_ble_eq_true rfl) ?_
  obtain rfl : r1 = 0 := hw
  have hP9 : va_P (dC, dI) cls [(mx, .inr (15, [.ref mq1, .int 0, .int (-1), .int 1, .ref mq3, .ref mq4, .ref mq6, .ref mq8, .ref mq22]))] H := hP.sub [0] rfl
  have hD9 : va_D A [(mx, .inr (15, [.ref mq1, .int 0, .int (-1), .int 1, .ref mq3, .ref mq4, .ref mq6, .ref mq8, .ref mq22]))] := hD.sub [0] (by decide) rfl
  have hK9 : va_K (dC, dI) cls [] s := hK.sub [] rfl
  exact W.iret (v := 0) hx hb hr (fun t ht hW => ⟨⟨0, (), rfl, rfl, ⟨by rw [ht]; exact hP9, va_K.moved hW.alike hK9, hD9⟩⟩, hS.F ht⟩) hS.2.2 dX24_word_32
set_option maxHeartbeats 4000000 in
set_option maxRecDepth 100000 in
theorem kX24_word_c {zs : Nat × Nat} (l : Launch) (dC : Nat → ClassId) (dI : Nat → Nat → Nat) (mx : Nat) (mq1 : Nat) (mq3 : Nat) (mq4 : Nat) (mq6 : Nat) (mq8 : Nat) (mq9 : Nat) (mc10 : ClassId) (mq11 : Nat) (mq12 : Nat) (mq13 : Nat) (mq14 : Nat) (mq15 : Nat) (mq16 : Nat) (mq17 : Nat) (mq18 : Nat) (mq19 : Nat) (mq20 : Nat) (mq21 : Nat) (mq22 : Nat) (p0 : Int32) (sz : Nat) (h1 : ¬ p0 < 0) (h2 : ¬ 16 ≤ p0) : Met l yX24_word (wz yX24_word cX24_word 2 (Option.some Jvm.ClassFile.FieldType.int)) ({ frames := 0, cells := 0, slots := 0, locals := 0 }) (va_Pc [.ref mx, .int p0] (PRE zs dC dI [(mx, .inr (15, [.ref mq1, .int 0, .int (-1), .int 0, .ref mq3, .ref mq4, .ref mq6, .ref mq8, .ref mq22])), (mq8, .inr (14, [.ref mq9, .int 0, .int 0, .int 0, .null, .ref mq11, .ref mq12, .ref mq13, .ref mq14, .ref mq15, .int 0, .int 0, .ref mq16, .ref mq17, .ref mq18, .ref mq19, .ref mq20, .ref mq21])), (mq9, .inl (mc10, 16, .inl (fun _ => 0)))] [(mc10, .int)] sz)) (va_Qi (fun (r : Int32) (_ : Unit) => r = 0) (fun _ t => POST dC dI [(mx, .inr (15, [.ref mq1, .int 0, .int (-1), .int 0, .ref mq3, .ref mq4, .ref mq6, .ref mq8, .ref mq22]))] [] (va_A [(mx, .inr (15, [.ref mq1, .int 0, .int (-1), .int 0, .ref mq3, .ref mq4, .ref mq6, .ref mq8, .ref mq22])), (mq8, .inr (14, [.ref mq9, .int 0, .int 0, .int 0, .null, .ref mq11, .ref mq12, .ref mq13, .ref mq14, .ref mq15, .int 0, .int 0, .ref mq16, .ref mq17, .ref mq18, .ref mq19, .ref mq20, .ref mq21])), (mq9, .inl (mc10, 16, .inl (fun _ => 0)))] sz) t) (va_A [(mx, .inr (15, [.ref mq1, .int 0, .int (-1), .int 0, .ref mq3, .ref mq4, .ref mq6, .ref mq8, .ref mq22])), (mq8, .inr (14, [.ref mq9, .int 0, .int 0, .int 0, .null, .ref mq11, .ref mq12, .ref mq13, .ref mq14, .ref mq15, .int 0, .int 0, .ref mq16, .ref mq17, .ref mq18, .ref mq19, .ref mq20, .ref mq21])), (mq9, .inl (mc10, 16, .inl (fun _ => 0)))] sz)) 0 0 (va_A [(mx, .inr (15, [.ref mq1, .int 0, .int (-1), .int 0, .ref mq3, .ref mq4, .ref mq6, .ref mq8, .ref mq22])), (mq8, .inr (14, [.ref mq9, .int 0, .int 0, .int 0, .null, .ref mq11, .ref mq12, .ref mq13, .ref mq14, .ref mq15, .int 0, .int 0, .ref mq16, .ref mq17, .ref mq18, .ref mq19, .ref mq20, .ref mq21])), (mq9, .inl (mc10, 16, .inl (fun _ => 0)))] sz) := by
  refine Met.ofW (cc := cX24_word) (maxL := 2) (ret := (Option.some Jvm.ClassFile.FieldType.int)) (by decide) rfl ?_
  intro p e s m args below meth c s₁ B hml hv
  obtain ⟨rfl, hsz, hP, hK, hD0, hE⟩ := hv
  have hx := B.exec
  have hb := B.bytes
  have hr := B.returns
  have hts0 := atoms_spec (ws := wz yX24_word cX24_word 2 (Option.some Jvm.ClassFile.FieldType.int)) B.pre
  have hts : ∀ w ∈ gw, w.before _ s = true := fun w h => hts0 w (List.mem_cons_of_mem _ h)
  have hown : s.vm.findClass RX24 = some m.cls := findClass_of_methodNamed B.named
  have hlocks := B.notSynchronized
  subst hsz
  have hD := hD0.self (sz := s.heap.size)
  generalize hAe : va_A [(mx, .inr (15, [.ref mq1, .int 0, .int (-1), .int 0, .ref mq3, .ref mq4, .ref mq6, .ref mq8, .ref mq22])), (mq8, .inr (14, [.ref mq9, .int 0, .int 0, .int 0, .null, .ref mq11, .ref mq12, .ref mq13, .ref mq14, .ref mq15, .int 0, .int 0, .ref mq16, .ref mq17, .ref mq18, .ref mq19, .ref mq20, .ref mq21])), (mq9, .inl (mc10, 16, .inl (fun _ => 0)))] s.heap.size = A at hD hE ⊢
  have hA : ∀ q : Nat, s.heap.size ≤ q → A q := fun q h => by rw [← hAe]; exact Or.inr h
  have hS : va_S A s.heap s.heap [] := va_S.rf
  have hP : va_P (dC, dI) cls [(mx, .inr (15, [.ref mq1, .int 0, .int (-1), .int 0, .ref mq3, .ref mq4, .ref mq6, .ref mq8, .ref mq22])), (mq8, .inr (14, [.ref mq9, .int 0, .int 0, .int 0, .null, .ref mq11, .ref mq12, .ref mq13, .ref mq14, .ref mq15, .int 0, .int 0, .ref mq16, .ref mq17, .ref mq18, .ref mq19, .ref mq20, .ref mq21])), (mq9, .inl (mc10, 16, .inl (fun _ => 0)))] s.heap := hP
  have hl := lv_entry ([.ref mx, .int p0]) (n := 2) (Nat.le_of_ble_eq_true rfl)
  rw [lg_entry_eq]
  generalize (lg_sl ([.ref mx, .int p0]) ++ List.replicate (2 - (lg_sl ([.ref mx, .int p0])).length) Slot.unset).toArray = ls at hl ⊢
  have hl : lv_has ls 2 [(0, .ref mx), (1, .int p0)] := hl
  refine lv_aload_n hx hb dX24_word_0 rfl (lv_at hl 0 rfl) ?_
  refine lv_iconst (v := 0) hx hb dX24_word_1 (by decide) ?_
  refine va_put (D := (dC, dI)) (ci := 15) (v := .int 0) (ty := .int) (C := RX24) (T := TX24) (N := 9) hx hb hts i_X24 tyX24 tyX24_ok nmX24 hown hK hP hD hS 0 rfl rfl 3 (by decide) (hts _ qw428) (fun _ h9 => h9) rfl (by decide +kernel) rfl rfl (Nat.le_of_ble_eq_true rfl) dX24_word_2 (fun H locs hP hD hS => ?_)
  have hP : va_P (dC, dI) cls [(mx, .inr (15, [.ref mq1, .int 0, .int (-1), .int 0, .ref mq3, .ref mq4, .ref mq6, .ref mq8, .ref mq22])), (mq8, .inr (14, [.ref mq9, .int 0, .int 0, .int 0, .null, .ref mq11, .ref mq12, .ref mq13, .ref mq14, .ref mq15, .int 0, .int 0, .ref mq16, .ref mq17, .ref mq18, .ref mq19, .ref mq20, .ref mq21])), (mq9, .inl (mc10, 16, .inl (fun _ => 0)))] H := hP
  have hD : va_D A [(mx, .inr (15, [.ref mq1, .int 0, .int (-1), .int 0, .ref mq3, .ref mq4, .ref mq6, .ref mq8, .ref mq22])), (mq8, .inr (14, [.ref mq9, .int 0, .int 0, .int 0, .null, .ref mq11, .ref mq12, .ref mq13, .ref mq14, .ref mq15, .int 0, .int 0, .ref mq16, .ref mq17, .ref mq18, .ref mq19, .ref mq20, .ref mq21])), (mq9, .inl (mc10, 16, .inl (fun _ => 0)))] := hD
  refine lv_iload_n hx hb dX24_word_5 rfl (lv_at hl 1 rfl) ?_
  refine lv_if_lt (tgt := 27) hx hb dX24_word_6 (by decide) (fun c => absurd c h1) (fun _ => ?_)
  refine lv_iload_n hx hb dX24_word_9 rfl (lv_at hl 1 rfl) ?_
  refine lv_bipush (v := 16) hx hb dX24_word_10 (by decide) ?_
  refine lv_icmp_ge (tgt := 27) hx hb dX24_word_12 (by decide) (fun c => absurd c h2) (fun _ => ?_)
  refine lv_aload_n hx hb dX24_word_15 rfl (lv_at hl 0 rfl) ?_
  refine va_get (D := (dC, dI)) (ci := 15) (v := .ref mq8) (C := RX24) (T := TX24) (N := 9) hx hb hts i_X24 hown hK hP 0 rfl rfl 7 (by decide) (hts _ qw398) (fun _ h9 => h9) rfl dX24_word_16 ?_
  refine va_get (D := (dC, dI)) (ci := 14) (v := .ref mq9) (C := RX21) (T := TX21) (N := 18) hx hb hts i_X21 hown hK hP 1 rfl rfl 0 (by decide) (hts _ qw474) (fun _ h9 => h9) rfl dX24_word_19 ?_
  refine lv_iload_n hx hb dX24_word_22 rfl (lv_at hl 1 rfl) ?_
  refine va_iald hx hb hK hP 2 0 rfl rfl (inN (k := 16) (by decide) h1 h2) dX24_word_23 ?_
  refine lv_topC (y := 0) rfl ?_
  refine lv_goto (tgt := 32) hx hb dX24_word_24 (by decide) ?_
  have hP9 : va_P (dC, dI) cls [(mx, .inr (15, [.ref mq1, .int 0, .int (-1), .int 0, .ref mq3, .ref mq4, .ref mq6, .ref mq8, .ref mq22]))] H := hP.sub [0] rfl
  have hD9 : va_D A [(mx, .inr (15, [.ref mq1, .int 0, .int (-1), .int 0, .ref mq3, .ref mq4, .ref mq6, .ref mq8, .ref mq22]))] := hD.sub [0] (by decide) rfl
  have hK9 : va_K (dC, dI) cls [] s := hK.sub [] rfl
  exact W.iret (v := 0) hx hb hr (fun t ht hW => ⟨⟨0, (), rfl, rfl, ⟨by rw [ht]; exact hP9, va_K.moved hW.alike hK9, hD9⟩⟩, hS.F ht⟩) hS.2.2 dX24_word_32
set_option maxHeartbeats 4000000 in
set_option maxRecDepth 100000 in
theorem kX24_allocate_a {zs : Nat × Nat} (l : Launch) (dC : Nat → ClassId) (dI : Nat → Nat → Nat) (mx : Nat) (mq1 : Nat) (mq3 : Nat) (mq4 : Nat) (mq6 : Nat) (mq8 : Nat) (mq22 : Nat) (p0 : Int32) (sz : Nat) (h1 : p0 < 3) : Met l yX24_allocate (wz yX24_allocate cX24_allocate 6 (Option.some Jvm.ClassFile.FieldType.int)) ({ frames := 1, cells := 0, slots := 0, locals := 21 }) (va_Pc [.ref mx, .int p0] (PRE zs dC dI [(mx, .inr (15, [.ref mq1, .int 0, .int (-1), .int 0, .ref mq3, .ref mq4, .ref mq6, .ref mq8, .ref mq22]))] [] sz)) (va_Qi (fun (r : Int32) (_ : Unit) => r = 0) (fun _ t => POST dC dI [(mx, .inr (15, [.ref mq1, .int 0, .int (-1), .int 1, .ref mq3, .ref mq4, .ref mq6, .ref mq8, .ref mq22]))] [] (va_A [(mx, .inr (15, [.ref mq1, .int 0, .int (-1), .int 0, .ref mq3, .ref mq4, .ref mq6, .ref mq8, .ref mq22]))] sz) t) (va_A [(mx, .inr (15, [.ref mq1, .int 0, .int (-1), .int 0, .ref mq3, .ref mq4, .ref mq6, .ref mq8, .ref mq22]))] sz)) 0 0 (va_A [(mx, .inr (15, [.ref mq1, .int 0, .int (-1), .int 0, .ref mq3, .ref mq4, .ref mq6, .ref mq8, .ref mq22]))] sz) := by
  refine Met.ofW (cc := cX24_allocate) (maxL := 6) (ret := (Option.some Jvm.ClassFile.FieldType.int)) (by decide) rfl ?_
  intro p e s m args below meth c s₁ B hml hv
  obtain ⟨rfl, hsz, hP, hK, hD0, hE⟩ := hv
  have hx := B.exec
  have hb := B.bytes
  have hr := B.returns
  have hts0 := atoms_spec (ws := wz yX24_allocate cX24_allocate 6 (Option.some Jvm.ClassFile.FieldType.int)) B.pre
  have hts : ∀ w ∈ gw, w.before _ s = true := fun w h => hts0 w (List.mem_cons_of_mem _ h)
  have hown : s.vm.findClass RX24 = some m.cls := findClass_of_methodNamed B.named
  have hlocks := B.notSynchronized
  subst hsz
  have hD := hD0.self (sz := s.heap.size)
  generalize hAe : va_A [(mx, .inr (15, [.ref mq1, .int 0, .int (-1), .int 0, .ref mq3, .ref mq4, .ref mq6, .ref mq8, .ref mq22]))] s.heap.size = A at hD hE ⊢
  have hA : ∀ q : Nat, s.heap.size ≤ q → A q := fun q h => by rw [← hAe]; exact Or.inr h
  have hS : va_S A s.heap s.heap [] := va_S.rf
  have hP : va_P (dC, dI) cls [(mx, .inr (15, [.ref mq1, .int 0, .int (-1), .int 0, .ref mq3, .ref mq4, .ref mq6, .ref mq8, .ref mq22]))] s.heap := hP
  have hl := lv_entry ([.ref mx, .int p0]) (n := 6) (Nat.le_of_ble_eq_true rfl)
  rw [lg_entry_eq]
  generalize (lg_sl ([.ref mx, .int p0]) ++ List.replicate (6 - (lg_sl ([.ref mx, .int p0])).length) Slot.unset).toArray = ls at hl ⊢
  have hl : lv_has ls 6 [(0, .ref mx), (1, .int p0)] := hl
  refine lv_aload_n hx hb dX24_allocate_0 rfl (lv_at hl 0 rfl) ?_
  refine lv_iconst (v := 0) hx hb dX24_allocate_1 (by decide) ?_
  refine va_put (D := (dC, dI)) (ci := 15) (v := .int 0) (ty := .int) (C := RX24) (T := TX24) (N := 9) hx hb hts i_X24 tyX24 tyX24_ok nmX24 hown hK hP hD hS 0 rfl rfl 3 (by decide) (hts _ qw428) (fun _ h9 => h9) rfl (by decide +kernel) rfl rfl (Nat.le_of_ble_eq_true rfl) dX24_allocate_2 (fun H locs hP hD hS => ?_)
  have hP : va_P (dC, dI) cls [(mx, .inr (15, [.ref mq1, .int 0, .int (-1), .int 0, .ref mq3, .ref mq4, .ref mq6, .ref mq8, .ref mq22]))] H := hP
  have hD : va_D A [(mx, .inr (15, [.ref mq1, .int 0, .int (-1), .int 0, .ref mq3, .ref mq4, .ref mq6, .ref mq8, .ref mq22]))] := hD
  refine lv_iload_n hx hb dX24_allocate_5 rfl (lv_at hl 1 rfl) ?_
  refine lv_iconst (v := 3) hx hb dX24_allocate_6 (by decide) ?_
  refine lv_icmp_lt (tgt := 16) hx hb dX24_allocate_7 (by decide) (fun _ => ?_) (fun c => absurd h1 c)
  refine lv_aload_n hx hb dX24_allocate_16 rfl (lv_at hl 0 rfl) ?_
  refine lv_iconst (v := 1) hx hb dX24_allocate_17 (by decide) ?_
  have hPc := hP.sub (ws' := [(mx, .inr (15, [.ref mq1, .int 0, .int (-1), .int 0, .ref mq3, .ref mq4, .ref mq6, .ref mq8, .ref mq22]))]) [0] rfl
  have hDc := hD.sub (ws' := [(mx, .inr (15, [.ref mq1, .int 0, .int (-1), .int 0, .ref mq3, .ref mq4, .ref mq6, .ref mq8, .ref mq22]))]) [0] (by decide) rfl
  have hKc := hK.sub (tys' := []) [] rfl
  have hFc := va_free (wc := [(mx, .inr (15, [.ref mq1, .int 0, .int (-1), .int 0, .ref mq3, .ref mq4, .ref mq6, .ref mq8, .ref mq22]))]) hD hS hA [0] rfl
  refine va_calli (va_runV (As := [.int 1]) (rest := []) ⟨hx, hb, hml, hown, hts⟩ (kX24_no_n39 l dC dI (a0 := mx) (a1 := mq1) (a2 := mq3) (a3 := mq4) (a4 := mq6) (a5 := mq8) (a6 := mq22) (sz := _)) (cwV 1 hts (gi_V qw436 qw437 qw438 qw434 (gi_z qw435)) rfl rfl rfl (by decide +kernel) ⟨Nat.le_of_ble_eq_true rfl, Nat.le_of_ble_eq_true rfl⟩) ⟨PRE.blind, va_recv hKc hPc (ci := 15) (q0 := 0) rfl rfl, PRE.of hE hS hFc hPc hKc hDc⟩ rfl rfl hl.1 rfl (lv_room (Nat.le_of_ble_eq_true rfl)) dX24_allocate_18 ⟨Nat.le_of_ble_eq_true rfl, Nat.le_of_ble_eq_true rfl⟩) hS (fun q _ h => hFc q h) hFc (fun r1 u t H locs ht hvm hw hB hz1 hk1 hS => ?_)
  obtain ⟨hP, hD, hK⟩ := JOIN (wr := []) hP hD hK [0] [] [] rfl rfl (by decide) (by decide) rfl hk1 hFc ht hvm hB
  have hP : va_P (dC, dI) cls [(mx, .inr (15, [.ref mq1, .int 0, .int (-1), .int 1, .ref mq3, .ref mq4, .ref mq6, .ref mq8, .ref mq22]))] H := hP
  have hD : va_D A [(mx, .inr (15, [.ref mq1, .int 0, .int (-1), .int 1, .ref mq3, .ref mq4, .ref mq6, .ref mq8, .ref mq22]))] := hD
  have hK : va_K (dC, dI) cls [] s := hK
  refine W.widen (k := 0) (n := 0) (Nat.le_of_ble_eq_true rfl) (Nat.le_of_ble_eq_true rfl) ?_
  obtain rfl : r1 = 0 := hw
  have hP9 : va_P (dC, dI) cls [(mx, .inr (15, [.ref mq1, .int 0, .int (-1), .int 1, .ref mq3, .ref mq4, .ref mq6, .ref mq8, .ref mq22]))] H := hP.sub [0] rfl
  have hD9 : va_D A [(mx, .inr (15, [.ref mq1, .int 0, .int (-1), .int 1, .ref mq3, .ref mq4, .ref mq6, .ref mq8, .ref mq22]))] := hD.sub [0] (by decide) rfl
  have hK9 : va_K (dC, dI) cls [] s := hK.sub [] rfl
  exact W.iret (v := 0) hx hb hr (fun t ht hW => ⟨⟨0, (), rfl, rfl, ⟨by rw [ht]; exact hP9, va_K.moved hW.alike hK9, hD9⟩⟩, hS.F ht⟩) hS.2.2 dX24_allocate_21
set_option maxHeartbeats 4000000 in
set_option maxRecDepth 100000 in
theorem kX24_allocate_b {zs : Nat × Nat} (l : Launch) (dC : Nat → ClassId) (dI : Nat → Nat → Nat) (mx : Nat) (mq1 : Nat) (mq3 : Nat) (mq4 : Nat) (mq6 : Nat) (mq8 : Nat) (mq22 : Nat) (p0 : Int32) (sz : Nat) (h1 : ¬ p0 < 3) (h2 : 8 < p0) : Met l yX24_allocate (wz yX24_allocate cX24_allocate 6 (Option.some Jvm.ClassFile.FieldType.int)) ({ frames := 1, cells := 0, slots := 0, locals := 21 }) (va_Pc [.ref mx, .int p0] (PRE zs dC dI [(mx, .inr (15, [.ref mq1, .int 0, .int (-1), .int 0, .ref mq3, .ref mq4, .ref mq6, .ref mq8, .ref mq22]))] [] sz)) (va_Qi (fun (r : Int32) (_ : Unit) => r = 0) (fun _ t => POST dC dI [(mx, .inr (15, [.ref mq1, .int 0, .int (-1), .int 1, .ref mq3, .ref mq4, .ref mq6, .ref mq8, .ref mq22]))] [] (va_A [(mx, .inr (15, [.ref mq1, .int 0, .int (-1), .int 0, .ref mq3, .ref mq4, .ref mq6, .ref mq8, .ref mq22]))] sz) t) (va_A [(mx, .inr (15, [.ref mq1, .int 0, .int (-1), .int 0, .ref mq3, .ref mq4, .ref mq6, .ref mq8, .ref mq22]))] sz)) 0 0 (va_A [(mx, .inr (15, [.ref mq1, .int 0, .int (-1), .int 0, .ref mq3, .ref mq4, .ref mq6, .ref mq8, .ref mq22]))] sz) := by
  refine Met.ofW (cc := cX24_allocate) (maxL := 6) (ret := (Option.some Jvm.ClassFile.FieldType.int)) (by decide) rfl ?_
  intro p e s m args below meth c s₁ B hml hv
  obtain ⟨rfl, hsz, hP, hK, hD0, hE⟩ := hv
  have hx := B.exec
  have hb := B.bytes
  have hr := B.returns
  have hts0 := atoms_spec (ws := wz yX24_allocate cX24_allocate 6 (Option.some Jvm.ClassFile.FieldType.int)) B.pre
  have hts : ∀ w ∈ gw, w.before _ s = true := fun w h => hts0 w (List.mem_cons_of_mem _ h)
  have hown : s.vm.findClass RX24 = some m.cls := findClass_of_methodNamed B.named
  have hlocks := B.notSynchronized
  subst hsz
  have hD := hD0.self (sz := s.heap.size)
  generalize hAe : va_A [(mx, .inr (15, [.ref mq1, .int 0, .int (-1), .int 0, .ref mq3, .ref mq4, .ref mq6, .ref mq8, .ref mq22]))] s.heap.size = A at hD hE ⊢
  have hA : ∀ q : Nat, s.heap.size ≤ q → A q := fun q h => by rw [← hAe]; exact Or.inr h
  have hS : va_S A s.heap s.heap [] := va_S.rf
  have hP : va_P (dC, dI) cls [(mx, .inr (15, [.ref mq1, .int 0, .int (-1), .int 0, .ref mq3, .ref mq4, .ref mq6, .ref mq8, .ref mq22]))] s.heap := hP
  have hl := lv_entry ([.ref mx, .int p0]) (n := 6) (Nat.le_of_ble_eq_true rfl)
  rw [lg_entry_eq]
  generalize (lg_sl ([.ref mx, .int p0]) ++ List.replicate (6 - (lg_sl ([.ref mx, .int p0])).length) Slot.unset).toArray = ls at hl ⊢
  have hl : lv_has ls 6 [(0, .ref mx), (1, .int p0)] := hl
  refine lv_aload_n hx hb dX24_allocate_0 rfl (lv_at hl 0 rfl) ?_
  refine lv_iconst (v := 0) hx hb dX24_allocate_1 (by decide) ?_
  refine va_put (D := (dC, dI)) (ci := 15) (v := .int 0) (ty := .int) (C := RX24) (T := TX24) (N := 9) hx hb hts i_X24 tyX24 tyX24_ok nmX24 hown hK hP hD hS 0 rfl rfl 3 (by decide) (hts _ qw428) (fun _ h9 => h9) rfl (by decide +kernel) rfl rfl (Nat.le_of_ble_eq_true rfl) dX24_allocate_2 (fun H locs hP hD hS => ?_)
  have hP : va_P (dC, dI) cls [(mx, .inr (15, [.ref mq1, .int 0, .int (-1), .int 0, .ref mq3, .ref mq4, .ref mq6, .ref mq8, .ref mq22]))] H := hP
  have hD : va_D A [(mx, .inr (15, [.ref mq1, .int 0, .int (-1), .int 0, .ref mq3, .ref mq4, .ref mq6, .ref mq8, .ref mq22]))] := hD
  refine lv_iload_n hx hb dX24_allocate_5 rfl (lv_at hl 1 rfl) ?_
  refine lv_iconst (v := 3) hx hb dX24_allocate_6 (by decide) ?_
  refine lv_icmp_lt (tgt := 16) hx hb dX24_allocate_7 (by decide) (fun c => absurd c h1) (fun _ => ?_)
  refine lv_iload_n hx hb dX24_allocate_10 rfl (lv_at hl 1 rfl) ?_
  refine lv_bipush (v := 8) hx hb dX24_allocate_11 (by decide) ?_
  refine lv_icmp_le (tgt := 22) hx hb dX24_allocate_13 (by decide) (fun c => absurd c (fun c => absurd c (Int32.not_le.mpr h2))) (fun _ => ?_)
  refine lv_aload_n hx hb dX24_allocate_16 rfl (lv_at hl 0 rfl) ?_
  refine lv_iconst (v := 1) hx hb dX24_allocate_17 (by decide) ?_
  have hPc := hP.sub (ws' := [(mx, .inr (15, [.ref mq1, .int 0, .int (-1), .int 0, .ref mq3, .ref mq4, .ref mq6, .ref mq8, .ref mq22]))]) [0] rfl
  have hDc := hD.sub (ws' := [(mx, .inr (15, [.ref mq1, .int 0, .int (-1), .int 0, .ref mq3, .ref mq4, .ref mq6, .ref mq8, .ref mq22]))]) [0] (by decide) rfl
  have hKc := hK.sub (tys' := []) [] rfl
  have hFc := va_free (wc := [(mx, .inr (15, [.ref mq1, .int 0, .int (-1), .int 0, .ref mq3, .ref mq4, .ref mq6, .ref mq8, .ref mq22]))]) hD hS hA [0] rfl
  refine va_calli (va_runV (As := [.int 1]) (rest := []) ⟨hx, hb, hml, hown, hts⟩ (kX24_no_n39 l dC dI (a0 := mx) (a1 := mq1) (a2 := mq3) (a3 := mq4) (a4 := mq6) (a5 := mq8) (a6 := mq22) (sz := _)) (cwV 1 hts (gi_V qw436 qw437 qw438 qw434 (gi_z qw435)) rfl rfl rfl (by decide +kernel) ⟨Nat.le_of_ble_eq_true rfl, Nat.le_of_ble_eq_true rfl⟩) ⟨PRE.blind, va_recv hKc hPc (ci := 15) (q0 := 0) rfl rfl, PRE.of hE hS hFc hPc hKc hDc⟩ rfl rfl hl.1 rfl (lv_room (Nat.le_of_ble_eq_true rfl)) dX24_allocate_18 ⟨Nat.le_of_ble_eq_true rfl, Nat.le_of_ble_eq_true rfl⟩) hS (fun q _ h => hFc q h) hFc (fun r1 u t H locs ht hvm hw hB hz1 hk1 hS => ?_)
  obtain ⟨hP, hD, hK⟩ := JOIN (wr := []) hP hD hK [0] [] [] rfl rfl (by decide) (by decide) rfl hk1 hFc ht hvm hB
  have hP : va_P (dC, dI) cls [(mx, .inr (15, [.ref mq1, .int 0, .int (-1), .int 1, .ref mq3, .ref mq4, .ref mq6, .ref mq8, .ref mq22]))] H := hP
  have hD : va_D A [(mx, .inr (15, [.ref mq1, .int 0, .int (-1), .int 1, .ref mq3, .ref mq4, .ref mq6, .ref mq8, .ref mq22]))] := hD
  have hK : va_K (dC, dI) cls [] s := hK
  refine W.widen (k := 0) (n := 0) (Nat.le_of_ble_eq_true rfl) (Nat.le_of_ble_eq_true rfl) ?_
  obtain rfl : r1 = 0 := hw
  have hP9 : va_P (dC, dI) cls [(mx, .inr (15, [.ref mq1, .int 0, .int (-1), .int 1, .ref mq3, .ref mq4, .ref mq6, .ref mq8, .ref mq22]))] H := hP.sub [0] rfl
  have hD9 : va_D A [(mx, .inr (15, [.ref mq1, .int 0, .int (-1), .int 1, .ref mq3, .ref mq4, .ref mq6, .ref mq8, .ref mq22]))] := hD.sub [0] (by decide) rfl
  have hK9 : va_K (dC, dI) cls [] s := hK.sub [] rfl
  exact W.iret (v := 0) hx hb hr (fun t ht hW => ⟨⟨0, (), rfl, rfl, ⟨by rw [ht]; exact hP9, va_K.moved hW.alike hK9, hD9⟩⟩, hS.F ht⟩) hS.2.2 dX24_allocate_21
set_option maxHeartbeats 4000000 in
set_option maxRecDepth 100000 in
/-- GearboxModel.no, from the state that its caller has -/
theorem kX24_no_n58 {zs : Nat × Nat} (l : Launch) (dC : Nat → ClassId) (dI : Nat → Nat → Nat) (a0 : Nat) (a1 : Nat) (a2 : Nat) (a3 : Nat) (a4 : Nat) (a5 : Nat) (a6 : Nat) (sz : Nat)  : Met l yX24_no (wz yX24_no cX24_no 2 (Option.some Jvm.ClassFile.FieldType.int)) ({ frames := 0, cells := 0, slots := 0, locals := 0 }) (va_Pc [.ref a0, .int 2] (PRE zs dC dI [(a0, .inr (15, [.ref a1, .int 0, .int (-1), .int 0, .ref a2, .ref a3, .ref a4, .ref a5, .ref a6]))] [] sz)) (va_Qi (fun (r : Int32) (_ : Unit) => r = 0) (fun _ t => POST dC dI [(a0, .inr (15, [.ref a1, .int 0, .int (-1), .int 2, .ref a2, .ref a3, .ref a4, .ref a5, .ref a6]))] [] (va_A [(a0, .inr (15, [.ref a1, .int 0, .int (-1), .int 0, .ref a2, .ref a3, .ref a4, .ref a5, .ref a6]))] sz) t) (va_A [(a0, .inr (15, [.ref a1, .int 0, .int (-1), .int 0, .ref a2, .ref a3, .ref a4, .ref a5, .ref a6]))] sz)) 0 0 (va_A [(a0, .inr (15, [.ref a1, .int 0, .int (-1), .int 0, .ref a2, .ref a3, .ref a4, .ref a5, .ref a6]))] sz) := by
  refine Met.ofW (cc := cX24_no) (maxL := 2) (ret := (Option.some Jvm.ClassFile.FieldType.int)) (by decide) rfl ?_
  intro p e s m args below meth c s₁ B hml hv
  obtain ⟨rfl, hsz, hP, hK, hD0, hE⟩ := hv
  have hx := B.exec
  have hb := B.bytes
  have hr := B.returns
  have hts0 := atoms_spec (ws := wz yX24_no cX24_no 2 (Option.some Jvm.ClassFile.FieldType.int)) B.pre
  have hts : ∀ w ∈ gw, w.before _ s = true := fun w h => hts0 w (List.mem_cons_of_mem _ h)
  have hown : s.vm.findClass RX24 = some m.cls := findClass_of_methodNamed B.named
  have hlocks := B.notSynchronized
  subst hsz
  have hD := hD0.self (sz := s.heap.size)
  generalize hAe : va_A [(a0, .inr (15, [.ref a1, .int 0, .int (-1), .int 0, .ref a2, .ref a3, .ref a4, .ref a5, .ref a6]))] s.heap.size = A at hD hE ⊢
  have hA : ∀ q : Nat, s.heap.size ≤ q → A q := fun q h => by rw [← hAe]; exact Or.inr h
  have hS : va_S A s.heap s.heap [] := va_S.rf
  have hP : va_P (dC, dI) cls [(a0, .inr (15, [.ref a1, .int 0, .int (-1), .int 0, .ref a2, .ref a3, .ref a4, .ref a5, .ref a6]))] s.heap := hP
  have hl := lv_entry ([.ref a0, .int 2]) (n := 2) (Nat.le_of_ble_eq_true rfl)
  rw [lg_entry_eq]
  generalize (lg_sl ([.ref a0, .int 2]) ++ List.replicate (2 - (lg_sl ([.ref a0, .int 2])).length) Slot.unset).toArray = ls at hl ⊢
  have hl : lv_has ls 2 [(0, .ref a0), (1, .int 2)] := hl
  refine lv_aload_n hx hb dX24_no_0 rfl (lv_at hl 0 rfl) ?_
  refine lv_iload_n hx hb dX24_no_1 rfl (lv_at hl 1 rfl) ?_
  refine va_put (D := (dC, dI)) (ci := 15) (v := .int 2) (ty := .int) (C := RX24) (T := TX24) (N := 9) hx hb hts i_X24 tyX24 tyX24_ok nmX24 hown hK hP hD hS 0 rfl rfl 3 (by decide) (hts _ qw428) (fun _ h9 => h9) rfl (by decide +kernel) rfl rfl (Nat.le_of_ble_eq_true rfl) dX24_no_2 (fun H locs hP hD hS => ?_)
  have hP : va_P (dC, dI) cls [(a0, .inr (15, [.ref a1, .int 0, .int (-1), .int 2, .ref a2, .ref a3, .ref a4, .ref a5, .ref a6]))] H := hP
  have hD : va_D A [(a0, .inr (15, [.ref a1, .int 0, .int (-1), .int 2, .ref a2, .ref a3, .ref a4, .ref a5, .ref a6]))] := hD
  refine lv_iconst (v := 0) hx hb dX24_no_5 (by decide) ?_
  have hP9 : va_P (dC, dI) cls [(a0, .inr (15, [.ref a1, .int 0, .int (-1), .int 2, .ref a2, .ref a3, .ref a4, .ref a5, .ref a6]))] H := hP.sub [0] rfl
  have hD9 : va_D A [(a0, .inr (15, [.ref a1, .int 0, .int (-1), .int 2, .ref a2, .ref a3, .ref a4, .ref a5, .ref a6]))] := hD.sub [0] (by decide) rfl
  have hK9 : va_K (dC, dI) cls [] s := hK.sub [] rfl
  exact W.iret (v := 0) hx hb hr (fun t ht hW => ⟨⟨0, (), rfl, rfl, ⟨by rw [ht]; exact hP9, va_K.moved hW.alike hK9, hD9⟩⟩, hS.F ht⟩) hS.2.2 dX24_no_6
set_option maxHeartbeats 4000000 in
set_option maxRecDepth 100000 in
theorem kX24_allocate_c {zs : Nat × Nat} (l : Launch) (dC : Nat → ClassId) (dI : Nat → Nat → Nat) (mx : Nat) (mq1 : Nat) (mq3 : Nat) (mq4 : Nat) (mc5 : ClassId) (mq6 : Nat) (mq8 : Nat) (mq22 : Nat) (p0 : Int32) (sz : Nat) (h1 : ¬ p0 < 3) (h2 : ¬ 8 < p0) : Met l yX24_allocate (wz yX24_allocate cX24_allocate 6 (Option.some Jvm.ClassFile.FieldType.int)) ({ frames := 1, cells := 0, slots := 0, locals := 21 }) (va_Pc [.ref mx, .int p0] (PRE zs dC dI [(mx, .inr (15, [.ref mq1, .int 0, .int (-1), .int 0, .ref mq3, .ref mq4, .ref mq6, .ref mq8, .ref mq22])), (mq4, .inl (mc5, 0, .inr (.inr (.inr (.inr (fun _ => none))))))] [(mc5, .object RX14)] sz)) (va_Qi (fun (r : Int32) (_ : Unit) => r = 0) (fun _ t => POST dC dI [(mx, .inr (15, [.ref mq1, .int 0, .int (-1), .int 2, .ref mq3, .ref mq4, .ref mq6, .ref mq8, .ref mq22]))] [] (va_A [(mx, .inr (15, [.ref mq1, .int 0, .int (-1), .int 0, .ref mq3, .ref mq4, .ref mq6, .ref mq8, .ref mq22])), (mq4, .inl (mc5, 0, .inr (.inr (.inr (.inr (fun _ => none))))))] sz) t) (va_A [(mx, .inr (15, [.ref mq1, .int 0, .int (-1), .int 0, .ref mq3, .ref mq4, .ref mq6, .ref mq8, .ref mq22])), (mq4, .inl (mc5, 0, .inr (.inr (.inr (.inr (fun _ => none))))))] sz)) 0 0 (va_A [(mx, .inr (15, [.ref mq1, .int 0, .int (-1), .int 0, .ref mq3, .ref mq4, .ref mq6, .ref mq8, .ref mq22])), (mq4, .inl (mc5, 0, .inr (.inr (.inr (.inr (fun _ => none))))))] sz) := by
  refine Met.ofW (cc := cX24_allocate) (maxL := 6) (ret := (Option.some Jvm.ClassFile.FieldType.int)) (by decide) rfl ?_
  intro p e s m args below meth c s₁ B hml hv
  obtain ⟨rfl, hsz, hP, hK, hD0, hE⟩ := hv
  have hx := B.exec
  have hb := B.bytes
  have hr := B.returns
  have hts0 := atoms_spec (ws := wz yX24_allocate cX24_allocate 6 (Option.some Jvm.ClassFile.FieldType.int)) B.pre
  have hts : ∀ w ∈ gw, w.before _ s = true := fun w h => hts0 w (List.mem_cons_of_mem _ h)
  have hown : s.vm.findClass RX24 = some m.cls := findClass_of_methodNamed B.named
  have hlocks := B.notSynchronized
  subst hsz
  have hD := hD0.self (sz := s.heap.size)
  generalize hAe : va_A [(mx, .inr (15, [.ref mq1, .int 0, .int (-1), .int 0, .ref mq3, .ref mq4, .ref mq6, .ref mq8, .ref mq22])), (mq4, .inl (mc5, 0, .inr (.inr (.inr (.inr (fun _ => none))))))] s.heap.size = A at hD hE ⊢
  have hA : ∀ q : Nat, s.heap.size ≤ q → A q := fun q h => by rw [← hAe]; exact Or.inr h
  have hS : va_S A s.heap s.heap [] := va_S.rf
  have hP : va_P (dC, dI) cls [(mx, .inr (15, [.ref mq1, .int 0, .int (-1), .int 0, .ref mq3, .ref mq4, .ref mq6, .ref mq8, .ref mq22])), (mq4, .inl (mc5, 0, .inr (.inr (.inr (.inr (fun _ => none))))))] s.heap := hP
  have hl := lv_entry ([.ref mx, .int p0]) (n := 6) (Nat.le_of_ble_eq_true rfl)
  rw [lg_entry_eq]
  generalize (lg_sl ([.ref mx, .int p0]) ++ List.replicate (6 - (lg_sl ([.ref mx, .int p0])).length) Slot.unset).toArray = ls at hl ⊢
  have hl : lv_has ls 6 [(0, .ref mx), (1, .int p0)] := hl
  refine lv_aload_n hx hb dX24_allocate_0 rfl (lv_at hl 0 rfl) ?_
  refine lv_iconst (v := 0) hx hb dX24_allocate_1 (by decide) ?_
  refine va_put (D := (dC, dI)) (ci := 15) (v := .int 0) (ty := .int) (C := RX24) (T := TX24) (N := 9) hx hb hts i_X24 tyX24 tyX24_ok nmX24 hown hK hP hD hS 0 rfl rfl 3 (by decide) (hts _ qw428) (fun _ h9 => h9) rfl (by decide +kernel) rfl rfl (Nat.le_of_ble_eq_true rfl) dX24_allocate_2 (fun H locs hP hD hS => ?_)
  have hP : va_P (dC, dI) cls [(mx, .inr (15, [.ref mq1, .int 0, .int (-1), .int 0, .ref mq3, .ref mq4, .ref mq6, .ref mq8, .ref mq22])), (mq4, .inl (mc5, 0, .inr (.inr (.inr (.inr (fun _ => none))))))] H := hP
  have hD : va_D A [(mx, .inr (15, [.ref mq1, .int 0, .int (-1), .int 0, .ref mq3, .ref mq4, .ref mq6, .ref mq8, .ref mq22])), (mq4, .inl (mc5, 0, .inr (.inr (.inr (.inr (fun _ => none))))))] := hD
  refine lv_iload_n hx hb dX24_allocate_5 rfl (lv_at hl 1 rfl) ?_
  refine lv_iconst (v := 3) hx hb dX24_allocate_6 (by decide) ?_
  refine lv_icmp_lt (tgt := 16) hx hb dX24_allocate_7 (by decide) (fun c => absurd c h1) (fun _ => ?_)
  refine lv_iload_n hx hb dX24_allocate_10 rfl (lv_at hl 1 rfl) ?_
  refine lv_bipush (v := 8) hx hb dX24_allocate_11 (by decide) ?_
  refine lv_icmp_le (tgt := 22) hx hb dX24_allocate_13 (by decide) (fun _ => ?_) (fun c => absurd (Int32.not_lt.mp h2) c)
  refine lv_aload_n hx hb dX24_allocate_22 rfl (lv_at hl 0 rfl) ?_
  refine va_get (D := (dC, dI)) (ci := 15) (v := .ref mq4) (C := RX24) (T := TX24) (N := 9) hx hb hts i_X24 hown hK hP 0 rfl rfl 5 (by decide) (hts _ qw390) (fun _ h9 => h9) rfl dX24_allocate_23 ?_
  refine va_alen (v := 0) hx hb hK hP 1 0 rfl rfl (by decide) dX24_allocate_26 ?_
  refine lv_if_ne (tgt := 36) hx hb dX24_allocate_27 (by decide) (fun c => absurd (by decide) c) (fun _ => ?_)
  refine lv_aload_n hx hb dX24_allocate_30 rfl (lv_at hl 0 rfl) ?_
  refine lv_iconst (v := 2) hx hb dX24_allocate_31 (by decide) ?_
  have hPc := hP.sub (ws' := [(mx, .inr (15, [.ref mq1, .int 0, .int (-1), .int 0, .ref mq3, .ref mq4, .ref mq6, .ref mq8, .ref mq22]))]) [0] rfl
  have hDc := hD.sub (ws' := [(mx, .inr (15, [.ref mq1, .int 0, .int (-1), .int 0, .ref mq3, .ref mq4, .ref mq6, .ref mq8, .ref mq22]))]) [0] (by decide) rfl
  have hKc := hK.sub (tys' := []) [] rfl
  have hFc := va_free (wc := [(mx, .inr (15, [.ref mq1, .int 0, .int (-1), .int 0, .ref mq3, .ref mq4, .ref mq6, .ref mq8, .ref mq22]))]) hD hS hA [0] rfl
  refine va_calli (va_runV (As := [.int 2]) (rest := []) ⟨hx, hb, hml, hown, hts⟩ (kX24_no_n58 l dC dI (a0 := mx) (a1 := mq1) (a2 := mq3) (a3 := mq4) (a4 := mq6) (a5 := mq8) (a6 := mq22) (sz := _)) (cwV 1 hts (gi_V qw436 qw437 qw438 qw434 (gi_z qw435)) rfl rfl rfl (by decide +kernel) ⟨Nat.le_of_ble_eq_true rfl, Nat.le_of_ble_eq_true rfl⟩) ⟨PRE.blind, va_recv hKc hPc (ci := 15) (q0 := 0) rfl rfl, PRE.of hE hS hFc hPc hKc hDc⟩ rfl rfl hl.1 rfl (lv_room (Nat.le_of_ble_eq_true rfl)) dX24_allocate_32 ⟨Nat.le_of_ble_eq_true rfl, Nat.le_of_ble_eq_true rfl⟩) hS (fun q _ h => hFc q h) hFc (fun r1 u t H locs ht hvm hw hB hz1 hk1 hS => ?_)
  obtain ⟨hP, hD, hK⟩ := JOIN (wr := [(mq4, .inl (mc5, 0, .inr (.inr (.inr (.inr (fun _ => none))))))]) hP hD hK [0] [1] [0] rfl rfl (by decide) (by decide) rfl hk1 hFc ht hvm hB
  have hP : va_P (dC, dI) cls [(mq4, .inl (mc5, 0, .inr (.inr (.inr (.inr (fun _ => none)))))), (mx, .inr (15, [.ref mq1, .int 0, .int (-1), .int 2, .ref mq3, .ref mq4, .ref mq6, .ref mq8, .ref mq22]))] H := hP
  have hD : va_D A [(mq4, .inl (mc5, 0, .inr (.inr (.inr (.inr (fun _ => none)))))), (mx, .inr (15, [.ref mq1, .int 0, .int (-1), .int 2, .ref mq3, .ref mq4, .ref mq6, .ref mq8, .ref mq22]))] := hD
  have hK : va_K (dC, dI) cls [(mc5, .object RX14)] s := hK
  refine W.widen (k := 0) (n := 0) (Nat.le_of_ble_eq_true rfl) (Nat.le_of_ble_eq_true rfl) ?_
  obtain rfl : r1 = 0 := hw
  have hP9 : va_P (dC, dI) cls [(mx, .inr (15, [.ref mq1, .int 0, .int (-1), .int 2, .ref mq3, .ref mq4, .ref mq6, .ref mq8, .ref mq22]))] H := hP.sub [1] rfl
  have hD9 : va_D A [(mx, .inr (15, [.ref mq1, .int 0, .int (-1), .int 2, .ref mq3, .ref mq4, .ref mq6, .ref mq8, .ref mq22]))] := hD.sub [1] (by decide) rfl
  have hK9 : va_K (dC, dI) cls [] s := hK.sub [] rfl
  exact W.iret (v := 0) hx hb hr (fun t ht hW => ⟨⟨0, (), rfl, rfl, ⟨by rw [ht]; exact hP9, va_K.moved hW.alike hK9, hD9⟩⟩, hS.F ht⟩) hS.2.2 dX24_allocate_35
set_option maxHeartbeats 4000000 in
set_option maxRecDepth 100000 in
theorem kX24_digest {zs : Nat × Nat} (l : Launch) (dC : Nat → ClassId) (dI : Nat → Nat → Nat) (mx : Nat) (mq1 : Nat) (mq3 : Nat) (mq4 : Nat) (mc5 : ClassId) (mq6 : Nat) (mq8 : Nat) (mq9 : Nat) (mc10 : ClassId) (mq11 : Nat) (mq12 : Nat) (mq13 : Nat) (mq14 : Nat) (mq15 : Nat) (mq16 : Nat) (mq17 : Nat) (mq18 : Nat) (mq19 : Nat) (mq20 : Nat) (mq21 : Nat) (mq22 : Nat) (sz : Nat)  : Met l yX24_digest (wz yX24_digest cX24_digest 11 (Option.some Jvm.ClassFile.FieldType.long)) ({ frames := 0, cells := 1, slots := 5, locals := 0 }) (va_Pc [.ref mx] (PRE zs dC dI [(mx, .inr (15, [.ref mq1, .int 0, .int (-1), .int 0, .ref mq3, .ref mq4, .ref mq6, .ref mq8, .ref mq22])), (mq4, .inl (mc5, 0, .inr (.inr (.inr (.inr (fun _ => none)))))), (mq8, .inr (14, [.ref mq9, .int 0, .int 0, .int 0, .null, .ref mq11, .ref mq12, .ref mq13, .ref mq14, .ref mq15, .int 0, .int 0, .ref mq16, .ref mq17, .ref mq18, .ref mq19, .ref mq20, .ref mq21])), (mq9, .inl (mc10, 16, .inl (fun _ => 0)))] [(mc5, .object RX14), (mc10, .int)] sz)) (va_Ql (fun (r : Int64) (_ : Unit) => r = (-624062602623119192)) (fun _ t => POST dC dI [(mx, .inr (15, [.ref mq1, .int 0, .int (-1), .int 0, .ref mq3, .ref mq4, .ref mq6, .ref mq8, .ref mq22]))] [] (va_A [(mx, .inr (15, [.ref mq1, .int 0, .int (-1), .int 0, .ref mq3, .ref mq4, .ref mq6, .ref mq8, .ref mq22])), (mq4, .inl (mc5, 0, .inr (.inr (.inr (.inr (fun _ => none)))))), (mq8, .inr (14, [.ref mq9, .int 0, .int 0, .int 0, .null, .ref mq11, .ref mq12, .ref mq13, .ref mq14, .ref mq15, .int 0, .int 0, .ref mq16, .ref mq17, .ref mq18, .ref mq19, .ref mq20, .ref mq21])), (mq9, .inl (mc10, 16, .inl (fun _ => 0)))] sz) t) (va_A [(mx, .inr (15, [.ref mq1, .int 0, .int (-1), .int 0, .ref mq3, .ref mq4, .ref mq6, .ref mq8, .ref mq22])), (mq4, .inl (mc5, 0, .inr (.inr (.inr (.inr (fun _ => none)))))), (mq8, .inr (14, [.ref mq9, .int 0, .int 0, .int 0, .null, .ref mq11, .ref mq12, .ref mq13, .ref mq14, .ref mq15, .int 0, .int 0, .ref mq16, .ref mq17, .ref mq18, .ref mq19, .ref mq20, .ref mq21])), (mq9, .inl (mc10, 16, .inl (fun _ => 0)))] sz)) 1 5 (va_A [(mx, .inr (15, [.ref mq1, .int 0, .int (-1), .int 0, .ref mq3, .ref mq4, .ref mq6, .ref mq8, .ref mq22])), (mq4, .inl (mc5, 0, .inr (.inr (.inr (.inr (fun _ => none)))))), (mq8, .inr (14, [.ref mq9, .int 0, .int 0, .int 0, .null, .ref mq11, .ref mq12, .ref mq13, .ref mq14, .ref mq15, .int 0, .int 0, .ref mq16, .ref mq17, .ref mq18, .ref mq19, .ref mq20, .ref mq21])), (mq9, .inl (mc10, 16, .inl (fun _ => 0)))] sz) := by
  refine Met.ofW (cc := cX24_digest) (maxL := 11) (ret := (Option.some Jvm.ClassFile.FieldType.long)) (by decide) rfl ?_
  intro p e s m args below meth c s₁ B hml hv
  obtain ⟨rfl, hsz, hP, hK, hD0, hE⟩ := hv
  have hx := B.exec
  have hb := B.bytes
  have hr := B.returns
  have hts0 := atoms_spec (ws := wz yX24_digest cX24_digest 11 (Option.some Jvm.ClassFile.FieldType.long)) B.pre
  have hts : ∀ w ∈ gw, w.before _ s = true := fun w h => hts0 w (List.mem_cons_of_mem _ h)
  have hown : s.vm.findClass RX24 = some m.cls := findClass_of_methodNamed B.named
  have hlocks := B.notSynchronized
  subst hsz
  have hD := hD0.self (sz := s.heap.size)
  generalize hAe : va_A [(mx, .inr (15, [.ref mq1, .int 0, .int (-1), .int 0, .ref mq3, .ref mq4, .ref mq6, .ref mq8, .ref mq22])), (mq4, .inl (mc5, 0, .inr (.inr (.inr (.inr (fun _ => none)))))), (mq8, .inr (14, [.ref mq9, .int 0, .int 0, .int 0, .null, .ref mq11, .ref mq12, .ref mq13, .ref mq14, .ref mq15, .int 0, .int 0, .ref mq16, .ref mq17, .ref mq18, .ref mq19, .ref mq20, .ref mq21])), (mq9, .inl (mc10, 16, .inl (fun _ => 0)))] s.heap.size = A at hD hE ⊢
  have hA : ∀ q : Nat, s.heap.size ≤ q → A q := fun q h => by rw [← hAe]; exact Or.inr h
  have hS : va_S A s.heap s.heap [] := va_S.rf
  have hP : va_P (dC, dI) cls [(mx, .inr (15, [.ref mq1, .int 0, .int (-1), .int 0, .ref mq3, .ref mq4, .ref mq6, .ref mq8, .ref mq22])), (mq4, .inl (mc5, 0, .inr (.inr (.inr (.inr (fun _ => none)))))), (mq8, .inr (14, [.ref mq9, .int 0, .int 0, .int 0, .null, .ref mq11, .ref mq12, .ref mq13, .ref mq14, .ref mq15, .int 0, .int 0, .ref mq16, .ref mq17, .ref mq18, .ref mq19, .ref mq20, .ref mq21])), (mq9, .inl (mc10, 16, .inl (fun _ => 0)))] s.heap := hP
  have hl := lv_entry ([.ref mx]) (n := 11) (Nat.le_of_ble_eq_true rfl)
  rw [lg_entry_eq]
  generalize (lg_sl ([.ref mx]) ++ List.replicate (11 - (lg_sl ([.ref mx])).length) Slot.unset).toArray = ls at hl ⊢
  have hl : lv_has ls 11 [(0, .ref mx)] := hl
  refine lv_aload_n hx hb dX24_digest_0 rfl (lv_at hl 0 rfl) ?_
  refine lv_iconst (v := 0) hx hb dX24_digest_1 (by decide) ?_
  refine va_put (D := (dC, dI)) (ci := 15) (v := .int 0) (ty := .int) (C := RX24) (T := TX24) (N := 9) hx hb hts i_X24 tyX24 tyX24_ok nmX24 hown hK hP hD hS 0 rfl rfl 3 (by decide) (hts _ qw428) (fun _ h9 => h9) rfl (by decide +kernel) rfl rfl (Nat.le_of_ble_eq_true rfl) dX24_digest_2 (fun H locs hP hD hS => ?_)
  have hP : va_P (dC, dI) cls [(mx, .inr (15, [.ref mq1, .int 0, .int (-1), .int 0, .ref mq3, .ref mq4, .ref mq6, .ref mq8, .ref mq22])), (mq4, .inl (mc5, 0, .inr (.inr (.inr (.inr (fun _ => none)))))), (mq8, .inr (14, [.ref mq9, .int 0, .int 0, .int 0, .null, .ref mq11, .ref mq12, .ref mq13, .ref mq14, .ref mq15, .int 0, .int 0, .ref mq16, .ref mq17, .ref mq18, .ref mq19, .ref mq20, .ref mq21])), (mq9, .inl (mc10, 16, .inl (fun _ => 0)))] H := hP
  have hD : va_D A [(mx, .inr (15, [.ref mq1, .int 0, .int (-1), .int 0, .ref mq3, .ref mq4, .ref mq6, .ref mq8, .ref mq22])), (mq4, .inl (mc5, 0, .inr (.inr (.inr (.inr (fun _ => none)))))), (mq8, .inr (14, [.ref mq9, .int 0, .int 0, .int 0, .null, .ref mq11, .ref mq12, .ref mq13, .ref mq14, .ref mq15, .int 0, .int 0, .ref mq16, .ref mq17, .ref mq18, .ref mq19, .ref mq20, .ref mq21])), (mq9, .inl (mc10, 16, .inl (fun _ => 0)))] := hD
  refine lv_ldc2 (v := 58009) hx hb hown (hts _ qw475) dX24_digest_5 ?_
  refine lv_lstore_n (lv' := [(1, .long 58009), (0, .ref mx)]) hx hb dX24_digest_8 rfl hl (by decide) rfl (fun ls hl => ?_)
  refine lv_iconst (v := 5) hx hb dX24_digest_9 (by decide) ?_
  refine va_newa (atype := .int) (ty := .int) hx hb (hts _ qw2) rfl hK hP hD hS hA (a0 := (5, .inl (fun _ => 0))) (fun _ => rfl) (by decide) (by decide +kernel) (Nat.le_of_ble_eq_true rfl) (Nat.le_of_ble_eq_true rfl) (Nat.le_of_ble_eq_true rfl) dX24_digest_10 (fun q1 c2 H hK hP hD hS => ?_)
  have hP : va_P (dC, dI) cls [(mx, .inr (15, [.ref mq1, .int 0, .int (-1), .int 0, .ref mq3, .ref mq4, .ref mq6, .ref mq8, .ref mq22])), (mq4, .inl (mc5, 0, .inr (.inr (.inr (.inr (fun _ => none)))))), (mq8, .inr (14, [.ref mq9, .int 0, .int 0, .int 0, .null, .ref mq11, .ref mq12, .ref mq13, .ref mq14, .ref mq15, .int 0, .int 0, .ref mq16, .ref mq17, .ref mq18, .ref mq19, .ref mq20, .ref mq21])), (mq9, .inl (mc10, 16, .inl (fun _ => 0))), (q1, .inl (c2, 5, .inl (fun _ => 0)))] H := hP
  have hD : va_D A [(mx, .inr (15, [.ref mq1, .int 0, .int (-1), .int 0, .ref mq3, .ref mq4, .ref mq6, .ref mq8, .ref mq22])), (mq4, .inl (mc5, 0, .inr (.inr (.inr (.inr (fun _ => none)))))), (mq8, .inr (14, [.ref mq9, .int 0, .int 0, .int 0, .null, .ref mq11, .ref mq12, .ref mq13, .ref mq14, .ref mq15, .int 0, .int 0, .ref mq16, .ref mq17, .ref mq18, .ref mq19, .ref mq20, .ref mq21])), (mq9, .inl (mc10, 16, .inl (fun _ => 0))), (q1, .inl (c2, 5, .inl (fun _ => 0)))] := hD
  have hK : va_K (dC, dI) cls [(mc5, .object RX14), (mc10, .int), (c2, .int)] s := hK
  refine W.widen (k := 1) (n := 5) (Nat.le_of_ble_eq_true rfl) (Nat.le_of_ble_eq_true rfl) ?_
  refine lv_dup hx hb dX24_digest_12 rfl ?_
  refine lv_iconst (v := 0) hx hb dX24_digest_13 (by decide) ?_
  refine lv_aload_n hx hb dX24_digest_14 rfl (lv_at hl 1 rfl) ?_
  refine va_get (D := (dC, dI)) (ci := 15) (v := .ref mq4) (C := RX24) (T := TX24) (N := 9) hx hb hts i_X24 hown hK hP 0 rfl rfl 5 (by decide) (hts _ qw390) (fun _ h9 => h9) rfl dX24_digest_15 ?_
  refine va_alen (v := 0) hx hb hK hP 1 0 rfl rfl (by decide) dX24_digest_18 ?_
  refine va_iast hx hb hK hP hD hS 4 2 rfl rfl (by unfold vp_in; decide +kernel) dX24_digest_19 (fun H locs hP hD hS => ?_)
  have hP : va_P (dC, dI) cls [(mx, .inr (15, [.ref mq1, .int 0, .int (-1), .int 0, .ref mq3, .ref mq4, .ref mq6, .ref mq8, .ref mq22])), (mq4, .inl (mc5, 0, .inr (.inr (.inr (.inr (fun _ => none)))))), (mq8, .inr (14, [.ref mq9, .int 0, .int 0, .int 0, .null, .ref mq11, .ref mq12, .ref mq13, .ref mq14, .ref mq15, .int 0, .int 0, .ref mq16, .ref mq17, .ref mq18, .ref mq19, .ref mq20, .ref mq21])), (mq9, .inl (mc10, 16, .inl (fun _ => 0))), (q1, .inl (c2, 5, .inl (upd (fun _ => 0) (Int32.toNatClampNeg 0) 0)))] H := hP
  have hD : va_D A [(mx, .inr (15, [.ref mq1, .int 0, .int (-1), .int 0, .ref mq3, .ref mq4, .ref mq6, .ref mq8, .ref mq22])), (mq4, .inl (mc5, 0, .inr (.inr (.inr (.inr (fun _ => none)))))), (mq8, .inr (14, [.ref mq9, .int 0, .int 0, .int 0, .null, .ref mq11, .ref mq12, .ref mq13, .ref mq14, .ref mq15, .int 0, .int 0, .ref mq16, .ref mq17, .ref mq18, .ref mq19, .ref mq20, .ref mq21])), (mq9, .inl (mc10, 16, .inl (fun _ => 0))), (q1, .inl (c2, 5, .inl (upd (fun _ => 0) (Int32.toNatClampNeg 0) 0)))] := hD
  refine lv_dup hx hb dX24_digest_20 rfl ?_
  refine lv_iconst (v := 1) hx hb dX24_digest_21 (by decide) ?_
  refine lv_aload_n hx hb dX24_digest_22 rfl (lv_at hl 1 rfl) ?_
  refine va_get (D := (dC, dI)) (ci := 15) (v := .int (-1)) (C := RX24) (T := TX24) (N := 9) hx hb hts i_X24 hown hK hP 0 rfl rfl 2 (by decide) (hts _ qw382) (fun _ h9 => h9) rfl dX24_digest_23 ?_
  refine va_iast hx hb hK hP hD hS 4 2 rfl rfl (by unfold vp_in; decide +kernel) dX24_digest_26 (fun H locs hP hD hS => ?_)
  have hP : va_P (dC, dI) cls [(mx, .inr (15, [.ref mq1, .int 0, .int (-1), .int 0, .ref mq3, .ref mq4, .ref mq6, .ref mq8, .ref mq22])), (mq4, .inl (mc5, 0, .inr (.inr (.inr (.inr (fun _ => none)))))), (mq8, .inr (14, [.ref mq9, .int 0, .int 0, .int 0, .null, .ref mq11, .ref mq12, .ref mq13, .ref mq14, .ref mq15, .int 0, .int 0, .ref mq16, .ref mq17, .ref mq18, .ref mq19, .ref mq20, .ref mq21])), (mq9, .inl (mc10, 16, .inl (fun _ => 0))), (q1, .inl (c2, 5, .inl (upd (upd (fun _ => 0) (Int32.toNatClampNeg 0) 0) (Int32.toNatClampNeg 1) (-1))))] H := hP
  have hD : va_D A [(mx, .inr (15, [.ref mq1, .int 0, .int (-1), .int 0, .ref mq3, .ref mq4, .ref mq6, .ref mq8, .ref mq22])), (mq4, .inl (mc5, 0, .inr (.inr (.inr (.inr (fun _ => none)))))), (mq8, .inr (14, [.ref mq9, .int 0, .int 0, .int 0, .null, .ref mq11, .ref mq12, .ref mq13, .ref mq14, .ref mq15, .int 0, .int 0, .ref mq16, .ref mq17, .ref mq18, .ref mq19, .ref mq20, .ref mq21])), (mq9, .inl (mc10, 16, .inl (fun _ => 0))), (q1, .inl (c2, 5, .inl (upd (upd (fun _ => 0) (Int32.toNatClampNeg 0) 0) (Int32.toNatClampNeg 1) (-1))))] := hD
  refine lv_dup hx hb dX24_digest_27 rfl ?_
  refine lv_iconst (v := 2) hx hb dX24_digest_28 (by decide) ?_
  refine lv_aload_n hx hb dX24_digest_29 rfl (lv_at hl 1 rfl) ?_
  refine va_get (D := (dC, dI)) (ci := 15) (v := .ref mq8) (C := RX24) (T := TX24) (N := 9) hx hb hts i_X24 hown hK hP 0 rfl rfl 7 (by decide) (hts _ qw398) (fun _ h9 => h9) rfl dX24_digest_30 ?_
  refine va_get (D := (dC, dI)) (ci := 14) (v := .int 0) (C := RX21) (T := TX21) (N := 18) hx hb hts i_X21 hown hK hP 2 rfl rfl 1 (by decide) (hts _ qw447) (fun _ h9 => h9) rfl dX24_digest_33 ?_
  refine va_iast hx hb hK hP hD hS 4 2 rfl rfl (by unfold vp_in; decide +kernel) dX24_digest_36 (fun H locs hP hD hS => ?_)
  have hP : va_P (dC, dI) cls [(mx, .inr (15, [.ref mq1, .int 0, .int (-1), .int 0, .ref mq3, .ref mq4, .ref mq6, .ref mq8, .ref mq22])), (mq4, .inl (mc5, 0, .inr (.inr (.inr (.inr (fun _ => none)))))), (mq8, .inr (14, [.ref mq9, .int 0, .int 0, .int 0, .null, .ref mq11, .ref mq12, .ref mq13, .ref mq14, .ref mq15, .int 0, .int 0, .ref mq16, .ref mq17, .ref mq18, .ref mq19, .ref mq20, .ref mq21])), (mq9, .inl (mc10, 16, .inl (fun _ => 0))), (q1, .inl (c2, 5, .inl (upd (upd (upd (fun _ => 0) (Int32.toNatClampNeg 0) 0) (Int32.toNatClampNeg 1) (-1)) (Int32.toNatClampNeg 2) 0)))] H := hP
  have hD : va_D A [(mx, .inr (15, [.ref mq1, .int 0, .int (-1), .int 0, .ref mq3, .ref mq4, .ref mq6, .ref mq8, .ref mq22])), (mq4, .inl (mc5, 0, .inr (.inr (.inr (.inr (fun _ => none)))))), (mq8, .inr (14, [.ref mq9, .int 0, .int 0, .int 0, .null, .ref mq11, .ref mq12, .ref mq13, .ref mq14, .ref mq15, .int 0, .int 0, .ref mq16, .ref mq17, .ref mq18, .ref mq19, .ref mq20, .ref mq21])), (mq9, .inl (mc10, 16, .inl (fun _ => 0))), (q1, .inl (c2, 5, .inl (upd (upd (upd (fun _ => 0) (Int32.toNatClampNeg 0) 0) (Int32.toNatClampNeg 1) (-1)) (Int32.toNatClampNeg 2) 0)))] := hD
  refine lv_dup hx hb dX24_digest_37 rfl ?_
  refine lv_iconst (v := 3) hx hb dX24_digest_38 (by decide) ?_
  refine lv_aload_n hx hb dX24_digest_39 rfl (lv_at hl 1 rfl) ?_
  refine va_get (D := (dC, dI)) (ci := 15) (v := .ref mq8) (C := RX24) (T := TX24) (N := 9) hx hb hts i_X24 hown hK hP 0 rfl rfl 7 (by decide) (hts _ qw398) (fun _ h9 => h9) rfl dX24_digest_40 ?_
  refine va_get (D := (dC, dI)) (ci := 14) (v := .int 0) (C := RX21) (T := TX21) (N := 18) hx hb hts i_X21 hown hK hP 2 rfl rfl 2 (by decide) (hts _ qw448) (fun _ h9 => h9) rfl dX24_digest_43 ?_
  refine va_iast hx hb hK hP hD hS 4 2 rfl rfl (by unfold vp_in; decide +kernel) dX24_digest_46 (fun H locs hP hD hS => ?_)
  have hP : va_P (dC, dI) cls [(mx, .inr (15, [.ref mq1, .int 0, .int (-1), .int 0, .ref mq3, .ref mq4, .ref mq6, .ref mq8, .ref mq22])), (mq4, .inl (mc5, 0, .inr (.inr (.inr (.inr (fun _ => none)))))), (mq8, .inr (14, [.ref mq9, .int 0, .int 0, .int 0, .null, .ref mq11, .ref mq12, .ref mq13, .ref mq14, .ref mq15, .int 0, .int 0, .ref mq16, .ref mq17, .ref mq18, .ref mq19, .ref mq20, .ref mq21])), (mq9, .inl (mc10, 16, .inl (fun _ => 0))), (q1, .inl (c2, 5, .inl (upd (upd (upd (upd (fun _ => 0) (Int32.toNatClampNeg 0) 0) (Int32.toNatClampNeg 1) (-1)) (Int32.toNatClampNeg 2) 0) (Int32.toNatClampNeg 3) 0)))] H := hP
  have hD : va_D A [(mx, .inr (15, [.ref mq1, .int 0, .int (-1), .int 0, .ref mq3, .ref mq4, .ref mq6, .ref mq8, .ref mq22])), (mq4, .inl (mc5, 0, .inr (.inr (.inr (.inr (fun _ => none)))))), (mq8, .inr (14, [.ref mq9, .int 0, .int 0, .int 0, .null, .ref mq11, .ref mq12, .ref mq13, .ref mq14, .ref mq15, .int 0, .int 0, .ref mq16, .ref mq17, .ref mq18, .ref mq19, .ref mq20, .ref mq21])), (mq9, .inl (mc10, 16, .inl (fun _ => 0))), (q1, .inl (c2, 5, .inl (upd (upd (upd (upd (fun _ => 0) (Int32.toNatClampNeg 0) 0) (Int32.toNatClampNeg 1) (-1)) (Int32.toNatClampNeg 2) 0) (Int32.toNatClampNeg 3) 0)))] := hD
  refine lv_dup hx hb dX24_digest_47 rfl ?_
  refine lv_iconst (v := 4) hx hb dX24_digest_48 (by decide) ?_
  refine lv_aload_n hx hb dX24_digest_49 rfl (lv_at hl 1 rfl) ?_
  refine va_get (D := (dC, dI)) (ci := 15) (v := .ref mq8) (C := RX24) (T := TX24) (N := 9) hx hb hts i_X24 hown hK hP 0 rfl rfl 7 (by decide) (hts _ qw398) (fun _ h9 => h9) rfl dX24_digest_50 ?_
  refine va_get (D := (dC, dI)) (ci := 14) (v := .int 0) (C := RX21) (T := TX21) (N := 18) hx hb hts i_X21 hown hK hP 2 rfl rfl 3 (by decide) (hts _ qw449) (fun _ h9 => h9) rfl dX24_digest_53 ?_
  refine va_iast hx hb hK hP hD hS 4 2 rfl rfl (by unfold vp_in; decide +kernel) dX24_digest_56 (fun H locs hP hD hS => ?_)
  have hP : va_P (dC, dI) cls [(mx, .inr (15, [.ref mq1, .int 0, .int (-1), .int 0, .ref mq3, .ref mq4, .ref mq6, .ref mq8, .ref mq22])), (mq4, .inl (mc5, 0, .inr (.inr (.inr (.inr (fun _ => none)))))), (mq8, .inr (14, [.ref mq9, .int 0, .int 0, .int 0, .null, .ref mq11, .ref mq12, .ref mq13, .ref mq14, .ref mq15, .int 0, .int 0, .ref mq16, .ref mq17, .ref mq18, .ref mq19, .ref mq20, .ref mq21])), (mq9, .inl (mc10, 16, .inl (fun _ => 0))), (q1, .inl (c2, 5, .inl (upd (upd (upd (upd (upd (fun _ => 0) (Int32.toNatClampNeg 0) 0) (Int32.toNatClampNeg 1) (-1)) (Int32.toNatClampNeg 2) 0) (Int32.toNatClampNeg 3) 0) (Int32.toNatClampNeg 4) 0)))] H := hP
  have hD : va_D A [(mx, .inr (15, [.ref mq1, .int 0, .int (-1), .int 0, .ref mq3, .ref mq4, .ref mq6, .ref mq8, .ref mq22])), (mq4, .inl (mc5, 0, .inr (.inr (.inr (.inr (fun _ => none)))))), (mq8, .inr (14, [.ref mq9, .int 0, .int 0, .int 0, .null, .ref mq11, .ref mq12, .ref mq13, .ref mq14, .ref mq15, .int 0, .int 0, .ref mq16, .ref mq17, .ref mq18, .ref mq19, .ref mq20, .ref mq21])), (mq9, .inl (mc10, 16, .inl (fun _ => 0))), (q1, .inl (c2, 5, .inl (upd (upd (upd (upd (upd (fun _ => 0) (Int32.toNatClampNeg 0) 0) (Int32.toNatClampNeg 1) (-1)) (Int32.toNatClampNeg 2) 0) (Int32.toNatClampNeg 3) 0) (Int32.toNatClampNeg 4) 0)))] := hD
  refine lv_astore_n (lv' := [(3, .ref q1), (1, .long 58009), (0, .ref mx)]) hx hb dX24_digest_57 rfl hl (by decide) rfl (fun ls hl => ?_)
  refine lv_aload_n hx hb dX24_digest_58 rfl (lv_at hl 0 rfl) ?_
  refine lv_astore (lv' := [(4, .ref q1), (3, .ref q1), (1, .long 58009), (0, .ref mx)]) hx hb dX24_digest_59 hl (by decide) rfl (fun ls hl => ?_)
  refine lv_aload hx hb dX24_digest_61 (lv_at hl 0 rfl) ?_
  refine va_alen (v := 5) hx hb hK hP 4 2 rfl rfl (by decide) dX24_digest_63 ?_
  refine lv_istore (lv' := [(5, .int 5), (4, .ref q1), (3, .ref q1), (1, .long 58009), (0, .ref mx)]) hx hb dX24_digest_64 hl (by decide) rfl (fun ls hl => ?_)
  refine lv_iconst (v := 0) hx hb dX24_digest_66 (by decide) ?_
  refine lv_istore (lv' := [(6, .int 0), (5, .int 5), (4, .ref q1), (3, .ref q1), (1, .long 58009), (0, .ref mx)]) hx hb dX24_digest_67 hl (by decide) rfl (fun ls hl => ?_)
  refine lv_iload hx hb dX24_digest_69 (lv_at hl 0 rfl) ?_
  refine lv_iload hx hb dX24_digest_71 (lv_at hl 1 rfl) ?_
  refine lv_icmp_ge (tgt := 99) hx hb dX24_digest_73 (by decide) (fun c => absurd c (by decide)) (fun _ => ?_)
  refine lv_aload hx hb dX24_digest_76 (lv_at hl 2 rfl) ?_
  refine lv_iload hx hb dX24_digest_78 (lv_at hl 0 rfl) ?_
  refine va_iald hx hb hK hP 4 2 rfl rfl (by unfold vp_in; decide +kernel) dX24_digest_80 ?_
  refine lv_topC (y := 0) (by decide) ?_
  refine lv_istore (lv' := [(7, .int 0), (6, .int 0), (5, .int 5), (4, .ref q1), (3, .ref q1), (1, .long 58009), (0, .ref mx)]) hx hb dX24_digest_81 hl (by decide) rfl (fun ls hl => ?_)
  refine lv_lload_n hx hb dX24_digest_83 rfl (lv_at hl 5 rfl) ?_
  refine lv_ldc2 (v := 31) hx hb hown (hts _ qw476) dX24_digest_84 ?_
  refine lv_lmul hx hb dX24_digest_87 ?_
  refine lv_topCl (y := 1798279) (by decide) ?_
  refine lv_iload hx hb dX24_digest_88 (lv_at hl 0 rfl) ?_
  refine lv_i2l (v := 0) hx hb dX24_digest_90 (by decide) ?_
  refine lv_ladd hx hb dX24_digest_91 ?_
  refine lv_topCl (y := 1798279) (by decide) ?_
  refine lv_lstore_n (lv' := [(1, .long 1798279), (7, .int 0), (6, .int 0), (5, .int 5), (4, .ref q1), (3, .ref q1), (0, .ref mx)]) hx hb dX24_digest_92 rfl hl (by decide) rfl (fun ls hl => ?_)
  refine lv_iinc (v := 1) (lv' := [(6, .int 1), (1, .long 1798279), (7, .int 0), (5, .int 5), (4, .ref q1), (3, .ref q1), (0, .ref mx)]) hx hb dX24_digest_93 hl (k := 2) rfl (by decide) (by decide) rfl (fun ls hl => ?_)
  refine lv_goto (tgt := 69) hx hb dX24_digest_96 (by decide) ?_
  refine lv_iload hx hb dX24_digest_69 (lv_at hl 0 rfl) ?_
  refine lv_iload hx hb dX24_digest_71 (lv_at hl 3 rfl) ?_
  refine lv_icmp_ge (tgt := 99) hx hb dX24_digest_73 (by decide) (fun c => absurd c (by decide)) (fun _ => ?_)
  refine lv_aload hx hb dX24_digest_76 (lv_at hl 4 rfl) ?_
  refine lv_iload hx hb dX24_digest_78 (lv_at hl 0 rfl) ?_
  refine va_iald hx hb hK hP 4 2 rfl rfl (by unfold vp_in; decide +kernel) dX24_digest_80 ?_
  refine lv_topC (y := (-1)) (by decide) ?_
  refine lv_istore (lv' := [(7, .int (-1)), (6, .int 1), (1, .long 1798279), (5, .int 5), (4, .ref q1), (3, .ref q1), (0, .ref mx)]) hx hb dX24_digest_81 hl (by decide) rfl (fun ls hl => ?_)
  refine lv_lload_n hx hb dX24_digest_83 rfl (lv_at hl 2 rfl) ?_
  refine lv_ldc2 (v := 31) hx hb hown (hts _ qw476) dX24_digest_84 ?_
  refine lv_lmul hx hb dX24_digest_87 ?_
  refine lv_topCl (y := 55746649) (by decide) ?_
  refine lv_iload hx hb dX24_digest_88 (lv_at hl 0 rfl) ?_
  refine lv_i2l (v := (-1)) hx hb dX24_digest_90 (by decide) ?_
  refine lv_ladd hx hb dX24_digest_91 ?_
  refine lv_topCl (y := 55746648) (by decide) ?_
  refine lv_lstore_n (lv' := [(1, .long 55746648), (7, .int (-1)), (6, .int 1), (5, .int 5), (4, .ref q1), (3, .ref q1), (0, .ref mx)]) hx hb dX24_digest_92 rfl hl (by decide) rfl (fun ls hl => ?_)
  refine lv_iinc (v := 2) (lv' := [(6, .int 2), (1, .long 55746648), (7, .int (-1)), (5, .int 5), (4, .ref q1), (3, .ref q1), (0, .ref mx)]) hx hb dX24_digest_93 hl (k := 2) rfl (by decide) (by decide) rfl (fun ls hl => ?_)
  refine lv_goto (tgt := 69) hx hb dX24_digest_96 (by decide) ?_
  refine lv_iload hx hb dX24_digest_69 (lv_at hl 0 rfl) ?_
  refine lv_iload hx hb dX24_digest_71 (lv_at hl 3 rfl) ?_
  refine lv_icmp_ge (tgt := 99) hx hb dX24_digest_73 (by decide) (fun c => absurd c (by decide)) (fun _ => ?_)
  refine lv_aload hx hb dX24_digest_76 (lv_at hl 4 rfl) ?_
  refine lv_iload hx hb dX24_digest_78 (lv_at hl 0 rfl) ?_
  refine va_iald hx hb hK hP 4 2 rfl rfl (by unfold vp_in; decide +kernel) dX24_digest_80 ?_
  refine lv_topC (y := 0) (by decide) ?_
  refine lv_istore (lv' := [(7, .int 0), (6, .int 2), (1, .long 55746648), (5, .int 5), (4, .ref q1), (3, .ref q1), (0, .ref mx)]) hx hb dX24_digest_81 hl (by decide) rfl (fun ls hl => ?_)
  refine lv_lload_n hx hb dX24_digest_83 rfl (lv_at hl 2 rfl) ?_
  refine lv_ldc2 (v := 31) hx hb hown (hts _ qw476) dX24_digest_84 ?_
  refine lv_lmul hx hb dX24_digest_87 ?_
  refine lv_topCl (y := 1728146088) (by decide) ?_
  refine lv_iload hx hb dX24_digest_88 (lv_at hl 0 rfl) ?_
  refine lv_i2l (v := 0) hx hb dX24_digest_90 (by decide) ?_
  refine lv_ladd hx hb dX24_digest_91 ?_
  refine lv_topCl (y := 1728146088) (by decide) ?_
  refine lv_lstore_n (lv' := [(1, .long 1728146088), (7, .int 0), (6, .int 2), (5, .int 5), (4, .ref q1), (3, .ref q1), (0, .ref mx)]) hx hb dX24_digest_92 rfl hl (by decide) rfl (fun ls hl => ?_)
  refine lv_iinc (v := 3) (lv' := [(6, .int 3), (1, .long 1728146088), (7, .int 0), (5, .int 5), (4, .ref q1), (3, .ref q1), (0, .ref mx)]) hx hb dX24_digest_93 hl (k := 2) rfl (by decide) (by decide) rfl (fun ls hl => ?_)
  refine lv_goto (tgt := 69) hx hb dX24_digest_96 (by decide) ?_
  refine lv_iload hx hb dX24_digest_69 (lv_at hl 0 rfl) ?_
  refine lv_iload hx hb dX24_digest_71 (lv_at hl 3 rfl) ?_
  refine lv_icmp_ge (tgt := 99) hx hb dX24_digest_73 (by decide) (fun c => absurd c (by decide)) (fun _ => ?_)
  refine lv_aload hx hb dX24_digest_76 (lv_at hl 4 rfl) ?_
  refine lv_iload hx hb dX24_digest_78 (lv_at hl 0 rfl) ?_
  refine va_iald hx hb hK hP 4 2 rfl rfl (by unfold vp_in; decide +kernel) dX24_digest_80 ?_
  refine lv_topC (y := 0) (by decide) ?_
  refine lv_istore (lv' := [(7, .int 0), (6, .int 3), (1, .long 1728146088), (5, .int 5), (4, .ref q1), (3, .ref q1), (0, .ref mx)]) hx hb dX24_digest_81 hl (by decide) rfl (fun ls hl => ?_)
  refine lv_lload_n hx hb dX24_digest_83 rfl (lv_at hl 2 rfl) ?_
  refine lv_ldc2 (v := 31) hx hb hown (hts _ qw476) dX24_digest_84 ?_
  refine lv_lmul hx hb dX24_digest_87 ?_
  refine lv_topCl (y := 53572528728) (by decide) ?_
  refine lv_iload hx hb dX24_digest_88 (lv_at hl 0 rfl) ?_
  refine lv_i2l (v := 0) hx hb dX24_digest_90 (by decide) ?_
  refine lv_ladd hx hb dX24_digest_91 ?_
  refine lv_topCl (y := 53572528728) (by decide) ?_
  refine lv_lstore_n (lv' := [(1, .long 53572528728), (7, .int 0), (6, .int 3), (5, .int 5), (4, .ref q1), (3, .ref q1), (0, .ref mx)]) hx hb dX24_digest_92 rfl hl (by decide) rfl (fun ls hl => ?_)
  refine lv_iinc (v := 4) (lv' := [(6, .int 4), (1, .long 53572528728), (7, .int 0), (5, .int 5), (4, .ref q1), (3, .ref q1), (0, .ref mx)]) hx hb dX24_digest_93 hl (k := 2) rfl (by decide) (by decide) rfl (fun ls hl => ?_)
  refine lv_goto (tgt := 69) hx hb dX24_digest_96 (by decide) ?_
  refine lv_iload hx hb dX24_digest_69 (lv_at hl 0 rfl) ?_
  refine lv_iload hx hb dX24_digest_71 (lv_at hl 3 rfl) ?_
  refine lv_icmp_ge (tgt := 99) hx hb dX24_digest_73 (by decide) (fun c => absurd c (by decide)) (fun _ => ?_)
  refine lv_aload hx hb dX24_digest_76 (lv_at hl 4 rfl) ?_
  refine lv_iload hx hb dX24_digest_78 (lv_at hl 0 rfl) ?_
  refine va_iald hx hb hK hP 4 2 rfl rfl (by unfold vp_in; decide +kernel) dX24_digest_80 ?_
  refine lv_topC (y := 0) (by decide) ?_
  refine lv_istore (lv' := [(7, .int 0), (6, .int 4), (1, .long 53572528728), (5, .int 5), (4, .ref q1), (3, .ref q1), (0, .ref mx)]) hx hb dX24_digest_81 hl (by decide) rfl (fun ls hl => ?_)
  refine lv_lload_n hx hb dX24_digest_83 rfl (lv_at hl 2 rfl) ?_
  refine lv_ldc2 (v := 31) hx hb hown (hts _ qw476) dX24_digest_84 ?_
  refine lv_lmul hx hb dX24_digest_87 ?_
  refine lv_topCl (y := 1660748390568) (by decide) ?_
  refine lv_iload hx hb dX24_digest_88 (lv_at hl 0 rfl) ?_
  refine lv_i2l (v := 0) hx hb dX24_digest_90 (by decide) ?_
  refine lv_ladd hx hb dX24_digest_91 ?_
  refine lv_topCl (y := 1660748390568) (by decide) ?_
  refine lv_lstore_n (lv' := [(1, .long 1660748390568), (7, .int 0), (6, .int 4), (5, .int 5), (4, .ref q1), (3, .ref q1), (0, .ref mx)]) hx hb dX24_digest_92 rfl hl (by decide) rfl (fun ls hl => ?_)
  refine lv_iinc (v := 5) (lv' := [(6, .int 5), (1, .long 1660748390568), (7, .int 0), (5, .int 5), (4, .ref q1), (3, .ref q1), (0, .ref mx)]) hx hb dX24_digest_93 hl (k := 2) rfl (by decide) (by decide) rfl (fun ls hl => ?_)
  refine lv_goto (tgt := 69) hx hb dX24_digest_96 (by decide) ?_
  refine lv_iload hx hb dX24_digest_69 (lv_at hl 0 rfl) ?_
  refine lv_iload hx hb dX24_digest_71 (lv_at hl 3 rfl) ?_
  refine lv_icmp_ge (tgt := 99) hx hb dX24_digest_73 (by decide) (fun _ => ?_) (fun c => absurd (by decide) c)
  refine lv_aload_n hx hb dX24_digest_99 rfl (lv_at hl 6 rfl) ?_
  refine va_get (D := (dC, dI)) (ci := 15) (v := .ref mq8) (C := RX24) (T := TX24) (N := 9) hx hb hts i_X24 hown hK hP 0 rfl rfl 7 (by decide) (hts _ qw398) (fun _ h9 => h9) rfl dX24_digest_100 ?_
  refine va_get (D := (dC, dI)) (ci := 14) (v := .ref mq9) (C := RX21) (T := TX21) (N := 18) hx hb hts i_X21 hown hK hP 2 rfl rfl 0 (by decide) (hts _ qw474) (fun _ h9 => h9) rfl dX24_digest_103 ?_
  refine lv_astore (lv' := [(4, .ref mq9), (6, .int 5), (1, .long 1660748390568), (7, .int 0), (5, .int 5), (3, .ref q1), (0, .ref mx)]) hx hb dX24_digest_106 hl (by decide) rfl (fun ls hl => ?_)
  refine lv_aload hx hb dX24_digest_108 (lv_at hl 0 rfl) ?_
  refine va_alen (v := 16) hx hb hK hP 3 1 rfl rfl (by decide) dX24_digest_110 ?_
  refine lv_istore (lv' := [(5, .int 16), (4, .ref mq9), (6, .int 5), (1, .long 1660748390568), (7, .int 0), (3, .ref q1), (0, .ref mx)]) hx hb dX24_digest_111 hl (by decide) rfl (fun ls hl => ?_)
  refine lv_iconst (v := 0) hx hb dX24_digest_113 (by decide) ?_
  refine lv_istore (lv' := [(6, .int 0), (5, .int 16), (4, .ref mq9), (1, .long 1660748390568), (7, .int 0), (3, .ref q1), (0, .ref mx)]) hx hb dX24_digest_114 hl (by decide) rfl (fun ls hl => ?_)
  refine lv_iload hx hb dX24_digest_116 (lv_at hl 0 rfl) ?_
  refine lv_iload hx hb dX24_digest_118 (lv_at hl 1 rfl) ?_
  refine lv_icmp_ge (tgt := 146) hx hb dX24_digest_120 (by decide) (fun c => absurd c (by decide)) (fun _ => ?_)
  refine lv_aload hx hb dX24_digest_123 (lv_at hl 2 rfl) ?_
  refine lv_iload hx hb dX24_digest_125 (lv_at hl 0 rfl) ?_
  refine va_iald hx hb hK hP 3 1 rfl rfl (by unfold vp_in; decide +kernel) dX24_digest_127 ?_
  refine lv_topC (y := 0) rfl ?_
  refine lv_istore (lv' := [(7, .int 0), (6, .int 0), (5, .int 16), (4, .ref mq9), (1, .long 1660748390568), (3, .ref q1), (0, .ref mx)]) hx hb dX24_digest_128 hl (by decide) rfl (fun ls hl => ?_)
  refine lv_lload_n hx hb dX24_digest_130 rfl (lv_at hl 4 rfl) ?_
  refine lv_ldc2 (v := 31) hx hb hown (hts _ qw476) dX24_digest_131 ?_
  refine lv_lmul hx hb dX24_digest_134 ?_
  refine lv_topCl (y := 51483200107608) (by decide) ?_
  refine lv_iload hx hb dX24_digest_135 (lv_at hl 0 rfl) ?_
  refine lv_i2l (v := 0) hx hb dX24_digest_137 (by decide) ?_
  refine lv_ladd hx hb dX24_digest_138 ?_
  refine lv_topCl (y := 51483200107608) (by decide) ?_
  refine lv_lstore_n (lv' := [(1, .long 51483200107608), (7, .int 0), (6, .int 0), (5, .int 16), (4, .ref mq9), (3, .ref q1), (0, .ref mx)]) hx hb dX24_digest_139 rfl hl (by decide) rfl (fun ls hl => ?_)
  refine lv_iinc (v := 1) (lv' := [(6, .int 1), (1, .long 51483200107608), (7, .int 0), (5, .int 16), (4, .ref mq9), (3, .ref q1), (0, .ref mx)]) hx hb dX24_digest_140 hl (k := 2) rfl (by decide) (by decide) rfl (fun ls hl => ?_)
  refine lv_goto (tgt := 116) hx hb dX24_digest_143 (by decide) ?_
  refine lv_iload hx hb dX24_digest_116 (lv_at hl 0 rfl) ?_
  refine lv_iload hx hb dX24_digest_118 (lv_at hl 3 rfl) ?_
  refine lv_icmp_ge (tgt := 146) hx hb dX24_digest_120 (by decide) (fun c => absurd c (by decide)) (fun _ => ?_)
  refine lv_aload hx hb dX24_digest_123 (lv_at hl 4 rfl) ?_
  refine lv_iload hx hb dX24_digest_125 (lv_at hl 0 rfl) ?_
  refine va_iald hx hb hK hP 3 1 rfl rfl (by unfold vp_in; decide +kernel) dX24_digest_127 ?_
  refine lv_topC (y := 0) rfl ?_
  refine lv_istore (lv' := [(7, .int 0), (6, .int 1), (1, .long 51483200107608), (5, .int 16), (4, .ref mq9), (3, .ref q1), (0, .ref mx)]) hx hb dX24_digest_128 hl (by decide) rfl (fun ls hl => ?_)
  refine lv_lload_n hx hb dX24_digest_130 rfl (lv_at hl 2 rfl) ?_
  refine lv_ldc2 (v := 31) hx hb hown (hts _ qw476) dX24_digest_131 ?_
  refine lv_lmul hx hb dX24_digest_134 ?_
  refine lv_topCl (y := 1595979203335848) (by decide) ?_
  refine lv_iload hx hb dX24_digest_135 (lv_at hl 0 rfl) ?_
  refine lv_i2l (v := 0) hx hb dX24_digest_137 (by decide) ?_
  refine lv_ladd hx hb dX24_digest_138 ?_
  refine lv_topCl (y := 1595979203335848) (by decide) ?_
  refine lv_lstore_n (lv' := [(1, .long 1595979203335848), (7, .int 0), (6, .int 1), (5, .int 16), (4, .ref mq9), (3, .ref q1), (0, .ref mx)]) hx hb dX24_digest_139 rfl hl (by decide) rfl (fun ls hl => ?_)
  refine lv_iinc (v := 2) (lv' := [(6, .int 2), (1, .long 1595979203335848), (7, .int 0), (5, .int 16), (4, .ref mq9), (3, .ref q1), (0, .ref mx)]) hx hb dX24_digest_140 hl (k := 2) rfl (by decide) (by decide) rfl (fun ls hl => ?_)
  refine lv_goto (tgt := 116) hx hb dX24_digest_143 (by decide) ?_
  refine lv_iload hx hb dX24_digest_116 (lv_at hl 0 rfl) ?_
  refine lv_iload hx hb dX24_digest_118 (lv_at hl 3 rfl) ?_
  refine lv_icmp_ge (tgt := 146) hx hb dX24_digest_120 (by decide) (fun c => absurd c (by decide)) (fun _ => ?_)
  refine lv_aload hx hb dX24_digest_123 (lv_at hl 4 rfl) ?_
  refine lv_iload hx hb dX24_digest_125 (lv_at hl 0 rfl) ?_
  refine va_iald hx hb hK hP 3 1 rfl rfl (by unfold vp_in; decide +kernel) dX24_digest_127 ?_
  refine lv_topC (y := 0) rfl ?_
  refine lv_istore (lv' := [(7, .int 0), (6, .int 2), (1, .long 1595979203335848), (5, .int 16), (4, .ref mq9), (3, .ref q1), (0, .ref mx)]) hx hb dX24_digest_128 hl (by decide) rfl (fun ls hl => ?_)
  refine lv_lload_n hx hb dX24_digest_130 rfl (lv_at hl 2 rfl) ?_
  refine lv_ldc2 (v := 31) hx hb hown (hts _ qw476) dX24_digest_131 ?_
  refine lv_lmul hx hb dX24_digest_134 ?_
  refine lv_topCl (y := 49475355303411288) (by decide) ?_
  refine lv_iload hx hb dX24_digest_135 (lv_at hl 0 rfl) ?_
  refine lv_i2l (v := 0) hx hb dX24_digest_137 (by decide) ?_
  refine lv_ladd hx hb dX24_digest_138 ?_
  refine lv_topCl (y := 49475355303411288) (by decide) ?_
  refine lv_lstore_n (lv' := [(1, .long 49475355303411288), (7, .int 0), (6, .int 2), (5, .int 16), (4, .ref mq9), (3, .ref q1), (0, .ref mx)]) hx hb dX24_digest_139 rfl hl (by decide) rfl (fun ls hl => ?_)
  refine lv_iinc (v := 3) (lv' := [(6, .int 3), (1, .long 49475355303411288), (7, .int 0), (5, .int 16), (4, .ref mq9), (3, .ref q1), (0, .ref mx)]) hx hb dX24_digest_140 hl (k := 2) rfl (by decide) (by decide) rfl (fun ls hl => ?_)
  refine lv_goto (tgt := 116) hx hb dX24_digest_143 (by decide) ?_
  refine lv_iload hx hb dX24_digest_116 (lv_at hl 0 rfl) ?_
  refine lv_iload hx hb dX24_digest_118 (lv_at hl 3 rfl) ?_
  refine lv_icmp_ge (tgt := 146) hx hb dX24_digest_120 (by decide) (fun c => absurd c (by decide)) (fun _ => ?_)
  refine lv_aload hx hb dX24_digest_123 (lv_at hl 4 rfl) ?_
  refine lv_iload hx hb dX24_digest_125 (lv_at hl 0 rfl) ?_
  refine va_iald hx hb hK hP 3 1 rfl rfl (by unfold vp_in; decide +kernel) dX24_digest_127 ?_
  refine lv_topC (y := 0) rfl ?_
  refine lv_istore (lv' := [(7, .int 0), (6, .int 3), (1, .long 49475355303411288), (5, .int 16), (4, .ref mq9), (3, .ref q1), (0, .ref mx)]) hx hb dX24_digest_128 hl (by decide) rfl (fun ls hl => ?_)
  refine lv_lload_n hx hb dX24_digest_130 rfl (lv_at hl 2 rfl) ?_
  refine lv_ldc2 (v := 31) hx hb hown (hts _ qw476) dX24_digest_131 ?_
  refine lv_lmul hx hb dX24_digest_134 ?_
  refine lv_topCl (y := 1533736014405749928) (by decide) ?_
  refine lv_iload hx hb dX24_digest_135 (lv_at hl 0 rfl) ?_
  refine lv_i2l (v := 0) hx hb dX24_digest_137 (by decide) ?_
  refine lv_ladd hx hb dX24_digest_138 ?_
  refine lv_topCl (y := 1533736014405749928) (by decide) ?_
  refine lv_lstore_n (lv' := [(1, .long 1533736014405749928), (7, .int 0), (6, .int 3), (5, .int 16), (4, .ref mq9), (3, .ref q1), (0, .ref mx)]) hx hb dX24_digest_139 rfl hl (by decide) rfl (fun ls hl => ?_)
  refine lv_iinc (v := 4) (lv' := [(6, .int 4), (1, .long 1533736014405749928), (7, .int 0), (5, .int 16), (4, .ref mq9), (3, .ref q1), (0, .ref mx)]) hx hb dX24_digest_140 hl (k := 2) rfl (by decide) (by decide) rfl (fun ls hl => ?_)
  refine lv_goto (tgt := 116) hx hb dX24_digest_143 (by decide) ?_
  refine lv_iload hx hb dX24_digest_116 (lv_at hl 0 rfl) ?_
  refine lv_iload hx hb dX24_digest_118 (lv_at hl 3 rfl) ?_
  refine lv_icmp_ge (tgt := 146) hx hb dX24_digest_120 (by decide) (fun c => absurd c (by decide)) (fun _ => ?_)
  refine lv_aload hx hb dX24_digest_123 (lv_at hl 4 rfl) ?_
  refine lv_iload hx hb dX24_digest_125 (lv_at hl 0 rfl) ?_
  refine va_iald hx hb hK hP 3 1 rfl rfl (by unfold vp_in; decide +kernel) dX24_digest_127 ?_
  refine lv_topC (y := 0) rfl ?_
  refine lv_istore (lv' := [(7, .int 0), (6, .int 4), (1, .long 1533736014405749928), (5, .int 16), (4, .ref mq9), (3, .ref q1), (0, .ref mx)]) hx hb dX24_digest_128 hl (by decide) rfl (fun ls hl => ?_)
  refine lv_lload_n hx hb dX24_digest_130 rfl (lv_at hl 2 rfl) ?_
  refine lv_ldc2 (v := 31) hx hb hown (hts _ qw476) dX24_digest_131 ?_
  refine lv_lmul hx hb dX24_digest_134 ?_
  refine lv_topCl (y := (-7794415774550407080)) (by decide) ?_
  refine lv_iload hx hb dX24_digest_135 (lv_at hl 0 rfl) ?_
  refine lv_i2l (v := 0) hx hb dX24_digest_137 (by decide) ?_
  refine lv_ladd hx hb dX24_digest_138 ?_
  refine lv_topCl (y := (-7794415774550407080)) (by decide) ?_
  refine lv_lstore_n (lv' := [(1, .long (-7794415774550407080)), (7, .int 0), (6, .int 4), (5, .int 16), (4, .ref mq9), (3, .ref q1), (0, .ref mx)]) hx hb dX24_digest_139 rfl hl (by decide) rfl (fun ls hl => ?_)
  refine lv_iinc (v := 5) (lv' := [(6, .int 5), (1, .long (-7794415774550407080)), (7, .int 0), (5, .int 16), (4, .ref mq9), (3, .ref q1), (0, .ref mx)]) hx hb dX24_digest_140 hl (k := 2) rfl (by decide) (by decide) rfl (fun ls hl => ?_)
  refine lv_goto (tgt := 116) hx hb dX24_digest_143 (by decide) ?_
  refine lv_iload hx hb dX24_digest_116 (lv_at hl 0 rfl) ?_
  refine lv_iload hx hb dX24_digest_118 (lv_at hl 3 rfl) ?_
  refine lv_icmp_ge (tgt := 146) hx hb dX24_digest_120 (by decide) (fun c => absurd c (by decide)) (fun _ => ?_)
  refine lv_aload hx hb dX24_digest_123 (lv_at hl 4 rfl) ?_
  refine lv_iload hx hb dX24_digest_125 (lv_at hl 0 rfl) ?_
  refine va_iald hx hb hK hP 3 1 rfl rfl (by unfold vp_in; decide +kernel) dX24_digest_127 ?_
  refine lv_topC (y := 0) rfl ?_
  refine lv_istore (lv' := [(7, .int 0), (6, .int 5), (1, .long (-7794415774550407080)), (5, .int 16), (4, .ref mq9), (3, .ref q1), (0, .ref mx)]) hx hb dX24_digest_128 hl (by decide) rfl (fun ls hl => ?_)
  refine lv_lload_n hx hb dX24_digest_130 rfl (lv_at hl 2 rfl) ?_
  refine lv_ldc2 (v := 31) hx hb hown (hts _ qw476) dX24_digest_131 ?_
  refine lv_lmul hx hb dX24_digest_134 ?_
  refine lv_topCl (y := (-1819216052838448472)) (by decide) ?_
  refine lv_iload hx hb dX24_digest_135 (lv_at hl 0 rfl) ?_
  refine lv_i2l (v := 0) hx hb dX24_digest_137 (by decide) ?_
  refine lv_ladd hx hb dX24_digest_138 ?_
  refine lv_topCl (y := (-1819216052838448472)) (by decide) ?_
  refine lv_lstore_n (lv' := [(1, .long (-1819216052838448472)), (7, .int 0), (6, .int 5), (5, .int 16), (4, .ref mq9), (3, .ref q1), (0, .ref mx)]) hx hb dX24_digest_139 rfl hl (by decide) rfl (fun ls hl => ?_)
  refine lv_iinc (v := 6) (lv' := [(6, .int 6), (1, .long (-1819216052838448472)), (7, .int 0), (5, .int 16), (4, .ref mq9), (3, .ref q1), (0, .ref mx)]) hx hb dX24_digest_140 hl (k := 2) rfl (by decide) (by decide) rfl (fun ls hl => ?_)
  refine lv_goto (tgt := 116) hx hb dX24_digest_143 (by decide) ?_
  refine lv_iload hx hb dX24_digest_116 (lv_at hl 0 rfl) ?_
  refine lv_iload hx hb dX24_digest_118 (lv_at hl 3 rfl) ?_
  refine lv_icmp_ge (tgt := 146) hx hb dX24_digest_120 (by decide) (fun c => absurd c (by decide)) (fun _ => ?_)
  refine lv_aload hx hb dX24_digest_123 (lv_at hl 4 rfl) ?_
  refine lv_iload hx hb dX24_digest_125 (lv_at hl 0 rfl) ?_
  refine va_iald hx hb hK hP 3 1 rfl rfl (by unfold vp_in; decide +kernel) dX24_digest_127 ?_
  refine lv_topC (y := 0) rfl ?_
  refine lv_istore (lv' := [(7, .int 0), (6, .int 6), (1, .long (-1819216052838448472)), (5, .int 16), (4, .ref mq9), (3, .ref q1), (0, .ref mx)]) hx hb dX24_digest_128 hl (by decide) rfl (fun ls hl => ?_)
  refine lv_lload_n hx hb dX24_digest_130 rfl (lv_at hl 2 rfl) ?_
  refine lv_ldc2 (v := 31) hx hb hown (hts _ qw476) dX24_digest_131 ?_
  refine lv_lmul hx hb dX24_digest_134 ?_
  refine lv_topCl (y := (-1055465416863247784)) (by decide) ?_
  refine lv_iload hx hb dX24_digest_135 (lv_at hl 0 rfl) ?_
  refine lv_i2l (v := 0) hx hb dX24_digest_137 (by decide) ?_
  refine lv_ladd hx hb dX24_digest_138 ?_
  refine lv_topCl (y := (-1055465416863247784)) (by decide) ?_
  refine lv_lstore_n (lv' := [(1, .long (-1055465416863247784)), (7, .int 0), (6, .int 6), (5, .int 16), (4, .ref mq9), (3, .ref q1), (0, .ref mx)]) hx hb dX24_digest_139 rfl hl (by decide) rfl (fun ls hl => ?_)
  refine lv_iinc (v := 7) (lv' := [(6, .int 7), (1, .long (-1055465416863247784)), (7, .int 0), (5, .int 16), (4, .ref mq9), (3, .ref q1), (0, .ref mx)]) hx hb dX24_digest_140 hl (k := 2) rfl (by decide) (by decide) rfl (fun ls hl => ?_)
  refine lv_goto (tgt := 116) hx hb dX24_digest_143 (by decide) ?_
  refine lv_iload hx hb dX24_digest_116 (lv_at hl 0 rfl) ?_
  refine lv_iload hx hb dX24_digest_118 (lv_at hl 3 rfl) ?_
  refine lv_icmp_ge (tgt := 146) hx hb dX24_digest_120 (by decide) (fun c => absurd c (by decide)) (fun _ => ?_)
  refine lv_aload hx hb dX24_digest_123 (lv_at hl 4 rfl) ?_
  refine lv_iload hx hb dX24_digest_125 (lv_at hl 0 rfl) ?_
  refine va_iald hx hb hK hP 3 1 rfl rfl (by unfold vp_in; decide +kernel) dX24_digest_127 ?_
  refine lv_topC (y := 0) rfl ?_
  refine lv_istore (lv' := [(7, .int 0), (6, .int 7), (1, .long (-1055465416863247784)), (5, .int 16), (4, .ref mq9), (3, .ref q1), (0, .ref mx)]) hx hb dX24_digest_128 hl (by decide) rfl (fun ls hl => ?_)
  refine lv_lload_n hx hb dX24_digest_130 rfl (lv_at hl 2 rfl) ?_
  refine lv_ldc2 (v := 31) hx hb hown (hts _ qw476) dX24_digest_131 ?_
  refine lv_lmul hx hb dX24_digest_134 ?_
  refine lv_topCl (y := 4174060224658421928) (by decide) ?_
  refine lv_iload hx hb dX24_digest_135 (lv_at hl 0 rfl) ?_
  refine lv_i2l (v := 0) hx hb dX24_digest_137 (by decide) ?_
  refine lv_ladd hx hb dX24_digest_138 ?_
  refine lv_topCl (y := 4174060224658421928) (by decide) ?_
  refine lv_lstore_n (lv' := [(1, .long 4174060224658421928), (7, .int 0), (6, .int 7), (5, .int 16), (4, .ref mq9), (3, .ref q1), (0, .ref mx)]) hx hb dX24_digest_139 rfl hl (by decide) rfl (fun ls hl => ?_)
  refine lv_iinc (v := 8) (lv' := [(6, .int 8), (1, .long 4174060224658421928), (7, .int 0), (5, .int 16), (4, .ref mq9), (3, .ref q1), (0, .ref mx)]) hx hb dX24_digest_140 hl (k := 2) rfl (by decide) (by decide) rfl (fun ls hl => ?_)
  refine lv_goto (tgt := 116) hx hb dX24_digest_143 (by decide) ?_
  refine lv_iload hx hb dX24_digest_116 (lv_at hl 0 rfl) ?_
  refine lv_iload hx hb dX24_digest_118 (lv_at hl 3 rfl) ?_
  refine lv_icmp_ge (tgt := 146) hx hb dX24_digest_120 (by decide) (fun c => absurd c (by decide)) (fun _ => ?_)
  refine lv_aload hx hb dX24_digest_123 (lv_at hl 4 rfl) ?_
  refine lv_iload hx hb dX24_digest_125 (lv_at hl 0 rfl) ?_
  refine va_iald hx hb hK hP 3 1 rfl rfl (by unfold vp_in; decide +kernel) dX24_digest_127 ?_
  refine lv_topC (y := 0) rfl ?_
  refine lv_istore (lv' := [(7, .int 0), (6, .int 8), (1, .long 4174060224658421928), (5, .int 16), (4, .ref mq9), (3, .ref q1), (0, .ref mx)]) hx hb dX24_digest_128 hl (by decide) rfl (fun ls hl => ?_)
  refine lv_lload_n hx hb dX24_digest_130 rfl (lv_at hl 2 rfl) ?_
  refine lv_ldc2 (v := 31) hx hb hown (hts _ qw476) dX24_digest_131 ?_
  refine lv_lmul hx hb dX24_digest_134 ?_
  refine lv_topCl (y := 268658448444218456) (by decide) ?_
  refine lv_iload hx hb dX24_digest_135 (lv_at hl 0 rfl) ?_
  refine lv_i2l (v := 0) hx hb dX24_digest_137 (by decide) ?_
  refine lv_ladd hx hb dX24_digest_138 ?_
  refine lv_topCl (y := 268658448444218456) (by decide) ?_
  refine lv_lstore_n (lv' := [(1, .long 268658448444218456), (7, .int 0), (6, .int 8), (5, .int 16), (4, .ref mq9), (3, .ref q1), (0, .ref mx)]) hx hb dX24_digest_139 rfl hl (by decide) rfl (fun ls hl => ?_)
  refine lv_iinc (v := 9) (lv' := [(6, .int 9), (1, .long 268658448444218456), (7, .int 0), (5, .int 16), (4, .ref mq9), (3, .ref q1), (0, .ref mx)]) hx hb dX24_digest_140 hl (k := 2) rfl (by decide) (by decide) rfl (fun ls hl => ?_)
  refine lv_goto (tgt := 116) hx hb dX24_digest_143 (by decide) ?_
  refine lv_iload hx hb dX24_digest_116 (lv_at hl 0 rfl) ?_
  refine lv_iload hx hb dX24_digest_118 (lv_at hl 3 rfl) ?_
  refine lv_icmp_ge (tgt := 146) hx hb dX24_digest_120 (by decide) (fun c => absurd c (by decide)) (fun _ => ?_)
  refine lv_aload hx hb dX24_digest_123 (lv_at hl 4 rfl) ?_
  refine lv_iload hx hb dX24_digest_125 (lv_at hl 0 rfl) ?_
  refine va_iald hx hb hK hP 3 1 rfl rfl (by unfold vp_in; decide +kernel) dX24_digest_127 ?_
  refine lv_topC (y := 0) rfl ?_
  refine lv_istore (lv' := [(7, .int 0), (6, .int 9), (1, .long 268658448444218456), (5, .int 16), (4, .ref mq9), (3, .ref q1), (0, .ref mx)]) hx hb dX24_digest_128 hl (by decide) rfl (fun ls hl => ?_)
  refine lv_lload_n hx hb dX24_digest_130 rfl (lv_at hl 2 rfl) ?_
  refine lv_ldc2 (v := 31) hx hb hown (hts _ qw476) dX24_digest_131 ?_
  refine lv_lmul hx hb dX24_digest_134 ?_
  refine lv_topCl (y := 8328411901770772136) (by decide) ?_
  refine lv_iload hx hb dX24_digest_135 (lv_at hl 0 rfl) ?_
  refine lv_i2l (v := 0) hx hb dX24_digest_137 (by decide) ?_
  refine lv_ladd hx hb dX24_digest_138 ?_
  refine lv_topCl (y := 8328411901770772136) (by decide) ?_
  refine lv_lstore_n (lv' := [(1, .long 8328411901770772136), (7, .int 0), (6, .int 9), (5, .int 16), (4, .ref mq9), (3, .ref q1), (0, .ref mx)]) hx hb dX24_digest_139 rfl hl (by decide) rfl (fun ls hl => ?_)
  refine lv_iinc (v := 10) (lv' := [(6, .int 10), (1, .long 8328411901770772136), (7, .int 0), (5, .int 16), (4, .ref mq9), (3, .ref q1), (0, .ref mx)]) hx hb dX24_digest_140 hl (k := 2) rfl (by decide) (by decide) rfl (fun ls hl => ?_)
  refine lv_goto (tgt := 116) hx hb dX24_digest_143 (by decide) ?_
  refine lv_iload hx hb dX24_digest_116 (lv_at hl 0 rfl) ?_
  refine lv_iload hx hb dX24_digest_118 (lv_at hl 3 rfl) ?_
  refine lv_icmp_ge (tgt := 146) hx hb dX24_digest_120 (by decide) (fun c => absurd c (by decide)) (fun _ => ?_)
  refine lv_aload hx hb dX24_digest_123 (lv_at hl 4 rfl) ?_
  refine lv_iload hx hb dX24_digest_125 (lv_at hl 0 rfl) ?_
  refine va_iald hx hb hK hP 3 1 rfl rfl (by unfold vp_in; decide +kernel) dX24_digest_127 ?_
  refine lv_topC (y := 0) rfl ?_
  refine lv_istore (lv' := [(7, .int 0), (6, .int 10), (1, .long 8328411901770772136), (5, .int 16), (4, .ref mq9), (3, .ref q1), (0, .ref mx)]) hx hb dX24_digest_128 hl (by decide) rfl (fun ls hl => ?_)
  refine lv_lload_n hx hb dX24_digest_130 rfl (lv_at hl 2 rfl) ?_
  refine lv_ldc2 (v := 31) hx hb hown (hts _ qw476) dX24_digest_131 ?_
  refine lv_lmul hx hb dX24_digest_134 ?_
  refine lv_topCl (y := (-73648077039786408)) (by decide) ?_
  refine lv_iload hx hb dX24_digest_135 (lv_at hl 0 rfl) ?_
  refine lv_i2l (v := 0) hx hb dX24_digest_137 (by decide) ?_
  refine lv_ladd hx hb dX24_digest_138 ?_
  refine lv_topCl (y := (-73648077039786408)) (by decide) ?_
  refine lv_lstore_n (lv' := [(1, .long (-73648077039786408)), (7, .int 0), (6, .int 10), (5, .int 16), (4, .ref mq9), (3, .ref q1), (0, .ref mx)]) hx hb dX24_digest_139 rfl hl (by decide) rfl (fun ls hl => ?_)
  refine lv_iinc (v := 11) (lv' := [(6, .int 11), (1, .long (-73648077039786408)), (7, .int 0), (5, .int 16), (4, .ref mq9), (3, .ref q1), (0, .ref mx)]) hx hb dX24_digest_140 hl (k := 2) rfl (by decide) (by decide) rfl (fun ls hl => ?_)
  refine lv_goto (tgt := 116) hx hb dX24_digest_143 (by decide) ?_
  refine lv_iload hx hb dX24_digest_116 (lv_at hl 0 rfl) ?_
  refine lv_iload hx hb dX24_digest_118 (lv_at hl 3 rfl) ?_
  refine lv_icmp_ge (tgt := 146) hx hb dX24_digest_120 (by decide) (fun c => absurd c (by decide)) (fun _ => ?_)
  refine lv_aload hx hb dX24_digest_123 (lv_at hl 4 rfl) ?_
  refine lv_iload hx hb dX24_digest_125 (lv_at hl 0 rfl) ?_
  refine va_iald hx hb hK hP 3 1 rfl rfl (by unfold vp_in; decide +kernel) dX24_digest_127 ?_
  refine lv_topC (y := 0) rfl ?_
  refine lv_istore (lv' := [(7, .int 0), (6, .int 11), (1, .long (-73648077039786408)), (5, .int 16), (4, .ref mq9), (3, .ref q1), (0, .ref mx)]) hx hb dX24_digest_128 hl (by decide) rfl (fun ls hl => ?_)
  refine lv_lload_n hx hb dX24_digest_130 rfl (lv_at hl 2 rfl) ?_
  refine lv_ldc2 (v := 31) hx hb hown (hts _ qw476) dX24_digest_131 ?_
  refine lv_lmul hx hb dX24_digest_134 ?_
  refine lv_topCl (y := (-2283090388233378648)) (by decide) ?_
  refine lv_iload hx hb dX24_digest_135 (lv_at hl 0 rfl) ?_
  refine lv_i2l (v := 0) hx hb dX24_digest_137 (by decide) ?_
  refine lv_ladd hx hb dX24_digest_138 ?_
  refine lv_topCl (y := (-2283090388233378648)) (by decide) ?_
  refine lv_lstore_n (lv' := [(1, .long (-2283090388233378648)), (7, .int 0), (6, .int 11), (5, .int 16), (4, .ref mq9), (3, .ref q1), (0, .ref mx)]) hx hb dX24_digest_139 rfl hl (by decide) rfl (fun ls hl => ?_)
  refine lv_iinc (v := 12) (lv' := [(6, .int 12), (1, .long (-2283090388233378648)), (7, .int 0), (5, .int 16), (4, .ref mq9), (3, .ref q1), (0, .ref mx)]) hx hb dX24_digest_140 hl (k := 2) rfl (by decide) (by decide) rfl (fun ls hl => ?_)
  refine lv_goto (tgt := 116) hx hb dX24_digest_143 (by decide) ?_
  refine lv_iload hx hb dX24_digest_116 (lv_at hl 0 rfl) ?_
  refine lv_iload hx hb dX24_digest_118 (lv_at hl 3 rfl) ?_
  refine lv_icmp_ge (tgt := 146) hx hb dX24_digest_120 (by decide) (fun c => absurd c (by decide)) (fun _ => ?_)
  refine lv_aload hx hb dX24_digest_123 (lv_at hl 4 rfl) ?_
  refine lv_iload hx hb dX24_digest_125 (lv_at hl 0 rfl) ?_
  refine va_iald hx hb hK hP 3 1 rfl rfl (by unfold vp_in; decide +kernel) dX24_digest_127 ?_
  refine lv_topC (y := 0) rfl ?_
  refine lv_istore (lv' := [(7, .int 0), (6, .int 12), (1, .long (-2283090388233378648)), (5, .int 16), (4, .ref mq9), (3, .ref q1), (0, .ref mx)]) hx hb dX24_digest_128 hl (by decide) rfl (fun ls hl => ?_)
  refine lv_lload_n hx hb dX24_digest_130 rfl (lv_at hl 2 rfl) ?_
  refine lv_ldc2 (v := 31) hx hb hown (hts _ qw476) dX24_digest_131 ?_
  refine lv_lmul hx hb dX24_digest_134 ?_
  refine lv_topCl (y := 3011174259603468376) (by decide) ?_
  refine lv_iload hx hb dX24_digest_135 (lv_at hl 0 rfl) ?_
  refine lv_i2l (v := 0) hx hb dX24_digest_137 (by decide) ?_
  refine lv_ladd hx hb dX24_digest_138 ?_
  refine lv_topCl (y := 3011174259603468376) (by decide) ?_
  refine lv_lstore_n (lv' := [(1, .long 3011174259603468376), (7, .int 0), (6, .int 12), (5, .int 16), (4, .ref mq9), (3, .ref q1), (0, .ref mx)]) hx hb dX24_digest_139 rfl hl (by decide) rfl (fun ls hl => ?_)
  refine lv_iinc (v := 13) (lv' := [(6, .int 13), (1, .long 3011174259603468376), (7, .int 0), (5, .int 16), (4, .ref mq9), (3, .ref q1), (0, .ref mx)]) hx hb dX24_digest_140 hl (k := 2) rfl (by decide) (by decide) rfl (fun ls hl => ?_)
  refine lv_goto (tgt := 116) hx hb dX24_digest_143 (by decide) ?_
  refine lv_iload hx hb dX24_digest_116 (lv_at hl 0 rfl) ?_
  refine lv_iload hx hb dX24_digest_118 (lv_at hl 3 rfl) ?_
  refine lv_icmp_ge (tgt := 146) hx hb dX24_digest_120 (by decide) (fun c => absurd c (by decide)) (fun _ => ?_)
  refine lv_aload hx hb dX24_digest_123 (lv_at hl 4 rfl) ?_
  refine lv_iload hx hb dX24_digest_125 (lv_at hl 0 rfl) ?_
  refine va_iald hx hb hK hP 3 1 rfl rfl (by unfold vp_in; decide +kernel) dX24_digest_127 ?_
  refine lv_topC (y := 0) rfl ?_
  refine lv_istore (lv' := [(7, .int 0), (6, .int 13), (1, .long 3011174259603468376), (5, .int 16), (4, .ref mq9), (3, .ref q1), (0, .ref mx)]) hx hb dX24_digest_128 hl (by decide) rfl (fun ls hl => ?_)
  refine lv_lload_n hx hb dX24_digest_130 rfl (lv_at hl 2 rfl) ?_
  refine lv_ldc2 (v := 31) hx hb hown (hts _ qw476) dX24_digest_131 ?_
  refine lv_lmul hx hb dX24_digest_134 ?_
  refine lv_topCl (y := 1112681679159761576) (by decide) ?_
  refine lv_iload hx hb dX24_digest_135 (lv_at hl 0 rfl) ?_
  refine lv_i2l (v := 0) hx hb dX24_digest_137 (by decide) ?_
  refine lv_ladd hx hb dX24_digest_138 ?_
  refine lv_topCl (y := 1112681679159761576) (by decide) ?_
  refine lv_lstore_n (lv' := [(1, .long 1112681679159761576), (7, .int 0), (6, .int 13), (5, .int 16), (4, .ref mq9), (3, .ref q1), (0, .ref mx)]) hx hb dX24_digest_139 rfl hl (by decide) rfl (fun ls hl => ?_)
  refine lv_iinc (v := 14) (lv' := [(6, .int 14), (1, .long 1112681679159761576), (7, .int 0), (5, .int 16), (4, .ref mq9), (3, .ref q1), (0, .ref mx)]) hx hb dX24_digest_140 hl (k := 2) rfl (by decide) (by decide) rfl (fun ls hl => ?_)
  refine lv_goto (tgt := 116) hx hb dX24_digest_143 (by decide) ?_
  refine lv_iload hx hb dX24_digest_116 (lv_at hl 0 rfl) ?_
  refine lv_iload hx hb dX24_digest_118 (lv_at hl 3 rfl) ?_
  refine lv_icmp_ge (tgt := 146) hx hb dX24_digest_120 (by decide) (fun c => absurd c (by decide)) (fun _ => ?_)
  refine lv_aload hx hb dX24_digest_123 (lv_at hl 4 rfl) ?_
  refine lv_iload hx hb dX24_digest_125 (lv_at hl 0 rfl) ?_
  refine va_iald hx hb hK hP 3 1 rfl rfl (by unfold vp_in; decide +kernel) dX24_digest_127 ?_
  refine lv_topC (y := 0) rfl ?_
  refine lv_istore (lv' := [(7, .int 0), (6, .int 14), (1, .long 1112681679159761576), (5, .int 16), (4, .ref mq9), (3, .ref q1), (0, .ref mx)]) hx hb dX24_digest_128 hl (by decide) rfl (fun ls hl => ?_)
  refine lv_lload_n hx hb dX24_digest_130 rfl (lv_at hl 2 rfl) ?_
  refine lv_ldc2 (v := 31) hx hb hown (hts _ qw476) dX24_digest_131 ?_
  refine lv_lmul hx hb dX24_digest_134 ?_
  refine lv_topCl (y := (-2400356093466494376)) (by decide) ?_
  refine lv_iload hx hb dX24_digest_135 (lv_at hl 0 rfl) ?_
  refine lv_i2l (v := 0) hx hb dX24_digest_137 (by decide) ?_
  refine lv_ladd hx hb dX24_digest_138 ?_
  refine lv_topCl (y := (-2400356093466494376)) (by decide) ?_
  refine lv_lstore_n (lv' := [(1, .long (-2400356093466494376)), (7, .int 0), (6, .int 14), (5, .int 16), (4, .ref mq9), (3, .ref q1), (0, .ref mx)]) hx hb dX24_digest_139 rfl hl (by decide) rfl (fun ls hl => ?_)
  refine lv_iinc (v := 15) (lv' := [(6, .int 15), (1, .long (-2400356093466494376)), (7, .int 0), (5, .int 16), (4, .ref mq9), (3, .ref q1), (0, .ref mx)]) hx hb dX24_digest_140 hl (k := 2) rfl (by decide) (by decide) rfl (fun ls hl => ?_)
  refine lv_goto (tgt := 116) hx hb dX24_digest_143 (by decide) ?_
  refine lv_iload hx hb dX24_digest_116 (lv_at hl 0 rfl) ?_
  refine lv_iload hx hb dX24_digest_118 (lv_at hl 3 rfl) ?_
  refine lv_icmp_ge (tgt := 146) hx hb dX24_digest_120 (by decide) (fun c => absurd c (by decide)) (fun _ => ?_)
  refine lv_aload hx hb dX24_digest_123 (lv_at hl 4 rfl) ?_
  refine lv_iload hx hb dX24_digest_125 (lv_at hl 0 rfl) ?_
  refine va_iald hx hb hK hP 3 1 rfl rfl (by unfold vp_in; decide +kernel) dX24_digest_127 ?_
  refine lv_topC (y := 0) rfl ?_
  refine lv_istore (lv' := [(7, .int 0), (6, .int 15), (1, .long (-2400356093466494376)), (5, .int 16), (4, .ref mq9), (3, .ref q1), (0, .ref mx)]) hx hb dX24_digest_128 hl (by decide) rfl (fun ls hl => ?_)
  refine lv_lload_n hx hb dX24_digest_130 rfl (lv_at hl 2 rfl) ?_
  refine lv_ldc2 (v := 31) hx hb hown (hts _ qw476) dX24_digest_131 ?_
  refine lv_lmul hx hb dX24_digest_134 ?_
  refine lv_topCl (y := (-624062602623119192)) (by decide) ?_
  refine lv_iload hx hb dX24_digest_135 (lv_at hl 0 rfl) ?_
  refine lv_i2l (v := 0) hx hb dX24_digest_137 (by decide) ?_
  refine lv_ladd hx hb dX24_digest_138 ?_
  refine lv_topCl (y := (-624062602623119192)) (by decide) ?_
  refine lv_lstore_n (lv' := [(1, .long (-624062602623119192)), (7, .int 0), (6, .int 15), (5, .int 16), (4, .ref mq9), (3, .ref q1), (0, .ref mx)]) hx hb dX24_digest_139 rfl hl (by decide) rfl (fun ls hl => ?_)
  refine lv_iinc (v := 16) (lv' := [(6, .int 16), (1, .long (-624062602623119192)), (7, .int 0), (5, .int 16), (4, .ref mq9), (3, .ref q1), (0, .ref mx)]) hx hb dX24_digest_140 hl (k := 2) rfl (by decide) (by decide) rfl (fun ls hl => ?_)
  refine lv_goto (tgt := 116) hx hb dX24_digest_143 (by decide) ?_
  refine lv_iload hx hb dX24_digest_116 (lv_at hl 0 rfl) ?_
  refine lv_iload hx hb dX24_digest_118 (lv_at hl 3 rfl) ?_
  refine lv_icmp_ge (tgt := 146) hx hb dX24_digest_120 (by decide) (fun _ => ?_) (fun c => absurd (by decide) c)
  refine lv_iconst (v := 0) hx hb dX24_digest_146 (by decide) ?_
  refine lv_istore (lv' := [(4, .int 0), (6, .int 16), (1, .long (-624062602623119192)), (7, .int 0), (5, .int 16), (3, .ref q1), (0, .ref mx)]) hx hb dX24_digest_147 hl (by decide) rfl (fun ls hl => ?_)
  refine lv_iload hx hb dX24_digest_149 (lv_at hl 0 rfl) ?_
  refine lv_aload_n hx hb dX24_digest_151 rfl (lv_at hl 6 rfl) ?_
  refine va_get (D := (dC, dI)) (ci := 15) (v := .ref mq4) (C := RX24) (T := TX24) (N := 9) hx hb hts i_X24 hown hK hP 0 rfl rfl 5 (by decide) (hts _ qw390) (fun _ h9 => h9) rfl dX24_digest_152 ?_
  refine va_alen (v := 0) hx hb hK hP 1 0 rfl rfl (by decide) dX24_digest_155 ?_
  refine lv_icmp_ge (tgt := 433) hx hb dX24_digest_156 (by decide) (fun _ => ?_) (fun c => absurd (by decide) c)
  refine lv_lload_n hx hb dX24_digest_433 rfl (lv_at hl 2 rfl) ?_
  have hP9 : va_P (dC, dI) cls [(mx, .inr (15, [.ref mq1, .int 0, .int (-1), .int 0, .ref mq3, .ref mq4, .ref mq6, .ref mq8, .ref mq22]))] H := hP.sub [0] rfl
  have hD9 : va_D A [(mx, .inr (15, [.ref mq1, .int 0, .int (-1), .int 0, .ref mq3, .ref mq4, .ref mq6, .ref mq8, .ref mq22]))] := hD.sub [0] (by decide) rfl
  have hK9 : va_K (dC, dI) cls [] s := hK.sub [] rfl
  exact W.lret (v := (-624062602623119192)) hx hb hr (fun t ht hW => ⟨⟨(-624062602623119192), (), rfl, rfl, ⟨by rw [ht]; exact hP9, va_K.moved hW.alike hK9, hD9⟩⟩, hS.F ht⟩) hS.2.2 dX24_digest_434
