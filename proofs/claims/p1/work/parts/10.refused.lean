abbrev cX11_parametersOf : ByteArray := prog_1_method_8_code
def yX11_parametersOf : MethodName := ⟨RX11, "parametersOf", "(I)I"⟩
abbrev cX11_needFunction : ByteArray := prog_1_method_50_code
def yX11_needFunction : MethodName := ⟨RX11, "needFunction", "(I)V"⟩
abbrev cX11_blocks : ByteArray := prog_1_method_9_code
def yX11_blocks : MethodName := ⟨RX11, "blocks", "(I)I"⟩
abbrev cX11_values : ByteArray := prog_1_method_10_code
def yX11_values : MethodName := ⟨RX11, "values", "(I)I"⟩
abbrev cX11_blockOf : ByteArray := prog_1_method_11_code
def yX11_blockOf : MethodName := ⟨RX11, "blockOf", "(II)I"⟩
abbrev cX11_dominatorOf : ByteArray := prog_1_method_12_code
def yX11_dominatorOf : MethodName := ⟨RX11, "dominatorOf", "(II)I"⟩
abbrev cX11_flowWith : ByteArray := prog_1_method_53_code
def yX11_flowWith : MethodName := ⟨RX11, "flowWith", "(II)LGearbox$Flow;"⟩
abbrev cX11_depthOf : ByteArray := prog_1_method_13_code
def yX11_depthOf : MethodName := ⟨RX11, "depthOf", "(II)I"⟩
abbrev cX11_predecessors : ByteArray := prog_1_method_14_code
def yX11_predecessors : MethodName := ⟨RX11, "predecessors", "(II)I"⟩
abbrev cX11_predecessor : ByteArray := prog_1_method_15_code
def yX11_predecessor : MethodName := ⟨RX11, "predecessor", "(III)I"⟩
abbrev cX11_endOf : ByteArray := prog_1_method_16_code
def yX11_endOf : MethodName := ⟨RX11, "endOf", "(II)I"⟩
abbrev cX11_successor : ByteArray := prog_1_method_17_code
def yX11_successor : MethodName := ⟨RX11, "successor", "(IIZ)I"⟩
abbrev cX11_endValue : ByteArray := prog_1_method_18_code
def yX11_endValue : MethodName := ⟨RX11, "endValue", "(II)I"⟩
abbrev cX11_phis : ByteArray := prog_1_method_19_code
def yX11_phis : MethodName := ⟨RX11, "phis", "(II)I"⟩
abbrev cX11_phiGives : ByteArray := prog_1_method_20_code
def yX11_phiGives : MethodName := ⟨RX11, "phiGives", "(III)I"⟩
abbrev cX11_phiTakes : ByteArray := prog_1_method_21_code
def yX11_phiTakes : MethodName := ⟨RX11, "phiTakes", "(IIII)I"⟩
abbrev cX11_steps : ByteArray := prog_1_method_22_code
def yX11_steps : MethodName := ⟨RX11, "steps", "(II)I"⟩
abbrev cX11_kindOf : ByteArray := prog_1_method_23_code
def yX11_kindOf : MethodName := ⟨RX11, "kindOf", "(III)I"⟩
abbrev cX11_stepAt : ByteArray := prog_1_method_54_code
def yX11_stepAt : MethodName := ⟨RX11, "stepAt", "(III)I"⟩
abbrev cX11_gives : ByteArray := prog_1_method_24_code
def yX11_gives : MethodName := ⟨RX11, "gives", "(III)I"⟩
abbrev cX11_leftOf : ByteArray := prog_1_method_25_code
def yX11_leftOf : MethodName := ⟨RX11, "leftOf", "(III)I"⟩
abbrev cX11_rightOf : ByteArray := prog_1_method_26_code
def yX11_rightOf : MethodName := ⟨RX11, "rightOf", "(III)I"⟩
abbrev cX11_lines : ByteArray := prog_1_method_34_code
def yX11_lines : MethodName := ⟨RX11, "lines", "(I)I"⟩
abbrev cX11_codeKind : ByteArray := prog_1_method_35_code
def yX11_codeKind : MethodName := ⟨RX11, "codeKind", "(II)I"⟩
abbrev cX11_codeWith : ByteArray := prog_1_method_56_code
def yX11_codeWith : MethodName := ⟨RX11, "codeWith", "(II)LGearbox$Steps;"⟩
abbrev cX11_codeGives : ByteArray := prog_1_method_36_code
def yX11_codeGives : MethodName := ⟨RX11, "codeGives", "(II)I"⟩
abbrev cX11_codeLeft : ByteArray := prog_1_method_37_code
def yX11_codeLeft : MethodName := ⟨RX11, "codeLeft", "(II)I"⟩
abbrev cX11_codeRight : ByteArray := prog_1_method_38_code
def yX11_codeRight : MethodName := ⟨RX11, "codeRight", "(II)I"⟩
abbrev cX11_slots : ByteArray := prog_1_method_39_code
def yX11_slots : MethodName := ⟨RX11, "slots", "(I)I"⟩
abbrev cX11_united : ByteArray := prog_1_method_40_code
def yX11_united : MethodName := ⟨RX11, "united", "(I)I"⟩
abbrev cX11_rounds : ByteArray := prog_1_method_41_code
def yX11_rounds : MethodName := ⟨RX11, "rounds", "(I)I"⟩
abbrev cX11_run : ByteArray := prog_1_method_42_code
def yX11_run : MethodName := ⟨RX11, "run", "(IIIIII)I"⟩
abbrev cX11_differences : ByteArray := prog_1_method_47_code
def yX11_differences : MethodName := ⟨RX11, "differences", "(III)I"⟩
abbrev cX11_word : ByteArray := prog_1_method_46_code
def yX11_word : MethodName := ⟨RX11, "word", "(I)I"⟩
abbrev cX11_needPlace : ByteArray := prog_1_method_51_code
def yX11_needPlace : MethodName := ⟨RX11, "needPlace", "(II)V"⟩
abbrev cX11_allocate : ByteArray := prog_1_method_33_code
def yX11_allocate : MethodName := ⟨RX11, "allocate", "(I)I"⟩
theorem dX11_allocate_0 : decode cX11_allocate 0 = .ok (.iload_n 1, 1) := by decide +kernel
theorem dX11_allocate_1 : decode cX11_allocate 1 = .ok (.iconst 3, 1) := by decide +kernel
theorem dX11_allocate_2 : decode cX11_allocate 2 = .ok (.if_icmp .lt 9, 3) := by decide +kernel
theorem dX11_allocate_5 : decode cX11_allocate 5 = .ok (.iload_n 1, 1) := by decide +kernel
theorem dX11_allocate_6 : decode cX11_allocate 6 = .ok (.bipush 8, 2) := by decide +kernel
theorem dX11_allocate_8 : decode cX11_allocate 8 = .ok (.if_icmp .le 14, 3) := by decide +kernel
theorem dX11_allocate_11 : decode cX11_allocate 11 = .ok (.new 100, 3) := by decide +kernel
theorem dX11_allocate_14 : decode cX11_allocate 14 = .ok (.dup, 1) := by decide +kernel
theorem dX11_allocate_15 : decode cX11_allocate 15 = .ok (.ldc_w 260, 3) := by decide +kernel
theorem dX11_allocate_18 : decode cX11_allocate 18 = .ok (.invokespecial 104, 3) := by decide +kernel
theorem dX11_allocate_21 : decode cX11_allocate 21 = .ok (.athrow, 1) := by decide +kernel
theorem dX11_allocate_22 : decode cX11_allocate 22 = .ok (.aload_n 0, 1) := by decide +kernel
theorem dX11_allocate_23 : decode cX11_allocate 23 = .ok (.getfield 61, 3) := by decide +kernel
theorem dX11_allocate_26 : decode cX11_allocate 26 = .ok (.getfield 112, 3) := by decide +kernel
theorem dX11_allocate_29 : decode cX11_allocate 29 = .ok (.ifCond .ne 14, 3) := by decide +kernel
theorem dX11_allocate_32 : decode cX11_allocate 32 = .ok (.new 89, 3) := by decide +kernel
theorem dX11_allocate_35 : decode cX11_allocate 35 = .ok (.dup, 1) := by decide +kernel
theorem dX11_allocate_36 : decode cX11_allocate 36 = .ok (.ldc_w 262, 3) := by decide +kernel
theorem dX11_allocate_39 : decode cX11_allocate 39 = .ok (.invokespecial 93, 3) := by decide +kernel
theorem dX11_allocate_42 : decode cX11_allocate 42 = .ok (.athrow, 1) := by decide +kernel
theorem dX11_blockOf_0 : decode cX11_blockOf 0 = .ok (.aload_n 0, 1) := by decide +kernel
theorem dX11_blockOf_1 : decode cX11_blockOf 1 = .ok (.iload_n 1, 1) := by decide +kernel
theorem dX11_blockOf_2 : decode cX11_blockOf 2 = .ok (.invokevirtual 142, 3) := by decide +kernel
theorem dX11_blocks_0 : decode cX11_blocks 0 = .ok (.aload_n 0, 1) := by decide +kernel
theorem dX11_blocks_1 : decode cX11_blocks 1 = .ok (.iload_n 1, 1) := by decide +kernel
theorem dX11_blocks_2 : decode cX11_blocks 2 = .ok (.invokevirtual 142, 3) := by decide +kernel
theorem dX11_codeGives_0 : decode cX11_codeGives 0 = .ok (.aload_n 0, 1) := by decide +kernel
theorem dX11_codeGives_1 : decode cX11_codeGives 1 = .ok (.iload_n 1, 1) := by decide +kernel
theorem dX11_codeGives_2 : decode cX11_codeGives 2 = .ok (.iload_n 2, 1) := by decide +kernel
theorem dX11_codeGives_3 : decode cX11_codeGives 3 = .ok (.invokevirtual 271, 3) := by decide +kernel
theorem dX11_codeKind_0 : decode cX11_codeKind 0 = .ok (.aload_n 0, 1) := by decide +kernel
theorem dX11_codeKind_1 : decode cX11_codeKind 1 = .ok (.iload_n 1, 1) := by decide +kernel
theorem dX11_codeKind_2 : decode cX11_codeKind 2 = .ok (.iload_n 2, 1) := by decide +kernel
theorem dX11_codeKind_3 : decode cX11_codeKind 3 = .ok (.invokevirtual 271, 3) := by decide +kernel
theorem dX11_codeLeft_0 : decode cX11_codeLeft 0 = .ok (.aload_n 0, 1) := by decide +kernel
theorem dX11_codeLeft_1 : decode cX11_codeLeft 1 = .ok (.iload_n 1, 1) := by decide +kernel
theorem dX11_codeLeft_2 : decode cX11_codeLeft 2 = .ok (.iload_n 2, 1) := by decide +kernel
theorem dX11_codeLeft_3 : decode cX11_codeLeft 3 = .ok (.invokevirtual 271, 3) := by decide +kernel
theorem dX11_codeRight_0 : decode cX11_codeRight 0 = .ok (.aload_n 0, 1) := by decide +kernel
theorem dX11_codeRight_1 : decode cX11_codeRight 1 = .ok (.iload_n 1, 1) := by decide +kernel
theorem dX11_codeRight_2 : decode cX11_codeRight 2 = .ok (.iload_n 2, 1) := by decide +kernel
theorem dX11_codeRight_3 : decode cX11_codeRight 3 = .ok (.invokevirtual 271, 3) := by decide +kernel
theorem dX11_codeWith_0 : decode cX11_codeWith 0 = .ok (.aload_n 0, 1) := by decide +kernel
theorem dX11_codeWith_1 : decode cX11_codeWith 1 = .ok (.iload_n 1, 1) := by decide +kernel
theorem dX11_codeWith_2 : decode cX11_codeWith 2 = .ok (.invokevirtual 142, 3) := by decide +kernel
theorem dX11_depthOf_0 : decode cX11_depthOf 0 = .ok (.aload_n 0, 1) := by decide +kernel
theorem dX11_depthOf_1 : decode cX11_depthOf 1 = .ok (.iload_n 1, 1) := by decide +kernel
theorem dX11_depthOf_2 : decode cX11_depthOf 2 = .ok (.iload_n 2, 1) := by decide +kernel
theorem dX11_depthOf_3 : decode cX11_depthOf 3 = .ok (.invokevirtual 155, 3) := by decide +kernel
theorem dX11_differences_0 : decode cX11_differences 0 = .ok (.aload_n 0, 1) := by decide +kernel
theorem dX11_differences_1 : decode cX11_differences 1 = .ok (.iload_n 1, 1) := by decide +kernel
theorem dX11_differences_2 : decode cX11_differences 2 = .ok (.invokevirtual 142, 3) := by decide +kernel
theorem dX11_dominatorOf_0 : decode cX11_dominatorOf 0 = .ok (.aload_n 0, 1) := by decide +kernel
theorem dX11_dominatorOf_1 : decode cX11_dominatorOf 1 = .ok (.iload_n 1, 1) := by decide +kernel
theorem dX11_dominatorOf_2 : decode cX11_dominatorOf 2 = .ok (.iload_n 2, 1) := by decide +kernel
theorem dX11_dominatorOf_3 : decode cX11_dominatorOf 3 = .ok (.invokevirtual 155, 3) := by decide +kernel
theorem dX11_endOf_0 : decode cX11_endOf 0 = .ok (.aload_n 0, 1) := by decide +kernel
theorem dX11_endOf_1 : decode cX11_endOf 1 = .ok (.iload_n 1, 1) := by decide +kernel
theorem dX11_endOf_2 : decode cX11_endOf 2 = .ok (.iload_n 2, 1) := by decide +kernel
theorem dX11_endOf_3 : decode cX11_endOf 3 = .ok (.invokevirtual 155, 3) := by decide +kernel
theorem dX11_endValue_0 : decode cX11_endValue 0 = .ok (.aload_n 0, 1) := by decide +kernel
theorem dX11_endValue_1 : decode cX11_endValue 1 = .ok (.iload_n 1, 1) := by decide +kernel
theorem dX11_endValue_2 : decode cX11_endValue 2 = .ok (.iload_n 2, 1) := by decide +kernel
theorem dX11_endValue_3 : decode cX11_endValue 3 = .ok (.invokevirtual 155, 3) := by decide +kernel
theorem dX11_flowWith_0 : decode cX11_flowWith 0 = .ok (.aload_n 0, 1) := by decide +kernel
theorem dX11_flowWith_1 : decode cX11_flowWith 1 = .ok (.iload_n 1, 1) := by decide +kernel
theorem dX11_flowWith_2 : decode cX11_flowWith 2 = .ok (.invokevirtual 142, 3) := by decide +kernel
theorem dX11_gives_0 : decode cX11_gives 0 = .ok (.aload_n 0, 1) := by decide +kernel
theorem dX11_gives_1 : decode cX11_gives 1 = .ok (.iload_n 1, 1) := by decide +kernel
theorem dX11_gives_2 : decode cX11_gives 2 = .ok (.iload_n 2, 1) := by decide +kernel
theorem dX11_gives_3 : decode cX11_gives 3 = .ok (.iload_n 3, 1) := by decide +kernel
theorem dX11_gives_4 : decode cX11_gives 4 = .ok (.invokevirtual 206, 3) := by decide +kernel
theorem dX11_kindOf_0 : decode cX11_kindOf 0 = .ok (.aload_n 0, 1) := by decide +kernel
theorem dX11_kindOf_1 : decode cX11_kindOf 1 = .ok (.iload_n 1, 1) := by decide +kernel
theorem dX11_kindOf_2 : decode cX11_kindOf 2 = .ok (.iload_n 2, 1) := by decide +kernel
theorem dX11_kindOf_3 : decode cX11_kindOf 3 = .ok (.iload_n 3, 1) := by decide +kernel
theorem dX11_kindOf_4 : decode cX11_kindOf 4 = .ok (.invokevirtual 206, 3) := by decide +kernel
theorem dX11_leftOf_0 : decode cX11_leftOf 0 = .ok (.aload_n 0, 1) := by decide +kernel
theorem dX11_leftOf_1 : decode cX11_leftOf 1 = .ok (.iload_n 1, 1) := by decide +kernel
theorem dX11_leftOf_2 : decode cX11_leftOf 2 = .ok (.iload_n 2, 1) := by decide +kernel
theorem dX11_leftOf_3 : decode cX11_leftOf 3 = .ok (.iload_n 3, 1) := by decide +kernel
theorem dX11_leftOf_4 : decode cX11_leftOf 4 = .ok (.invokevirtual 206, 3) := by decide +kernel
theorem dX11_lines_0 : decode cX11_lines 0 = .ok (.aload_n 0, 1) := by decide +kernel
theorem dX11_lines_1 : decode cX11_lines 1 = .ok (.iload_n 1, 1) := by decide +kernel
theorem dX11_lines_2 : decode cX11_lines 2 = .ok (.invokevirtual 142, 3) := by decide +kernel
theorem dX11_needFunction_0 : decode cX11_needFunction 0 = .ok (.iload_n 1, 1) := by decide +kernel
theorem dX11_needFunction_1 : decode cX11_needFunction 1 = .ok (.ifCond .lt 14, 3) := by decide +kernel
theorem dX11_needFunction_4 : decode cX11_needFunction 4 = .ok (.iload_n 1, 1) := by decide +kernel
theorem dX11_needFunction_5 : decode cX11_needFunction 5 = .ok (.aload_n 0, 1) := by decide +kernel
theorem dX11_needFunction_6 : decode cX11_needFunction 6 = .ok (.getfield 61, 3) := by decide +kernel
theorem dX11_needFunction_9 : decode cX11_needFunction 9 = .ok (.getfield 112, 3) := by decide +kernel
theorem dX11_needFunction_12 : decode cX11_needFunction 12 = .ok (.if_icmp .lt 14, 3) := by decide +kernel
theorem dX11_needFunction_15 : decode cX11_needFunction 15 = .ok (.new 329, 3) := by decide +kernel
theorem dX11_needFunction_18 : decode cX11_needFunction 18 = .ok (.dup, 1) := by decide +kernel
theorem dX11_needFunction_19 : decode cX11_needFunction 19 = .ok (.ldc_w 331, 3) := by decide +kernel
theorem dX11_needFunction_22 : decode cX11_needFunction 22 = .ok (.invokespecial 333, 3) := by decide +kernel
theorem dX11_needFunction_25 : decode cX11_needFunction 25 = .ok (.athrow, 1) := by decide +kernel
theorem dX11_needPlace_0 : decode cX11_needPlace 0 = .ok (.iload_n 1, 1) := by decide +kernel
theorem dX11_needPlace_1 : decode cX11_needPlace 1 = .ok (.ifCond .lt 8, 3) := by decide +kernel
theorem dX11_needPlace_4 : decode cX11_needPlace 4 = .ok (.iload_n 1, 1) := by decide +kernel
theorem dX11_needPlace_5 : decode cX11_needPlace 5 = .ok (.iload_n 2, 1) := by decide +kernel
theorem dX11_needPlace_6 : decode cX11_needPlace 6 = .ok (.if_icmp .lt 14, 3) := by decide +kernel
theorem dX11_needPlace_9 : decode cX11_needPlace 9 = .ok (.new 329, 3) := by decide +kernel
theorem dX11_needPlace_12 : decode cX11_needPlace 12 = .ok (.dup, 1) := by decide +kernel
theorem dX11_needPlace_13 : decode cX11_needPlace 13 = .ok (.ldc_w 334, 3) := by decide +kernel
theorem dX11_needPlace_16 : decode cX11_needPlace 16 = .ok (.invokespecial 333, 3) := by decide +kernel
theorem dX11_needPlace_19 : decode cX11_needPlace 19 = .ok (.athrow, 1) := by decide +kernel
theorem dX11_needPlace_20 : decode cX11_needPlace 20 = .ok (.return_, 1) := by decide +kernel
theorem dX11_parametersOf_0 : decode cX11_parametersOf 0 = .ok (.aload_n 0, 1) := by decide +kernel
theorem dX11_parametersOf_1 : decode cX11_parametersOf 1 = .ok (.iload_n 1, 1) := by decide +kernel
theorem dX11_parametersOf_2 : decode cX11_parametersOf 2 = .ok (.invokevirtual 142, 3) := by decide +kernel
theorem dX11_phiGives_0 : decode cX11_phiGives 0 = .ok (.aload_n 0, 1) := by decide +kernel
theorem dX11_phiGives_1 : decode cX11_phiGives 1 = .ok (.iload_n 1, 1) := by decide +kernel
theorem dX11_phiGives_2 : decode cX11_phiGives 2 = .ok (.iload_n 2, 1) := by decide +kernel
theorem dX11_phiGives_3 : decode cX11_phiGives 3 = .ok (.invokevirtual 155, 3) := by decide +kernel
theorem dX11_phiTakes_0 : decode cX11_phiTakes 0 = .ok (.aload_n 0, 1) := by decide +kernel
theorem dX11_phiTakes_1 : decode cX11_phiTakes 1 = .ok (.iload_n 1, 1) := by decide +kernel
theorem dX11_phiTakes_2 : decode cX11_phiTakes 2 = .ok (.iload_n 2, 1) := by decide +kernel
theorem dX11_phiTakes_3 : decode cX11_phiTakes 3 = .ok (.invokevirtual 155, 3) := by decide +kernel
theorem dX11_phis_0 : decode cX11_phis 0 = .ok (.aload_n 0, 1) := by decide +kernel
theorem dX11_phis_1 : decode cX11_phis 1 = .ok (.iload_n 1, 1) := by decide +kernel
theorem dX11_phis_2 : decode cX11_phis 2 = .ok (.iload_n 2, 1) := by decide +kernel
theorem dX11_phis_3 : decode cX11_phis 3 = .ok (.invokevirtual 155, 3) := by decide +kernel
theorem dX11_predecessor_0 : decode cX11_predecessor 0 = .ok (.aload_n 0, 1) := by decide +kernel
theorem dX11_predecessor_1 : decode cX11_predecessor 1 = .ok (.iload_n 1, 1) := by decide +kernel
theorem dX11_predecessor_2 : decode cX11_predecessor 2 = .ok (.iload_n 2, 1) := by decide +kernel
theorem dX11_predecessor_3 : decode cX11_predecessor 3 = .ok (.invokevirtual 155, 3) := by decide +kernel
theorem dX11_predecessors_0 : decode cX11_predecessors 0 = .ok (.aload_n 0, 1) := by decide +kernel
theorem dX11_predecessors_1 : decode cX11_predecessors 1 = .ok (.iload_n 1, 1) := by decide +kernel
theorem dX11_predecessors_2 : decode cX11_predecessors 2 = .ok (.iload_n 2, 1) := by decide +kernel
theorem dX11_predecessors_3 : decode cX11_predecessors 3 = .ok (.invokevirtual 155, 3) := by decide +kernel
theorem dX11_rightOf_0 : decode cX11_rightOf 0 = .ok (.aload_n 0, 1) := by decide +kernel
theorem dX11_rightOf_1 : decode cX11_rightOf 1 = .ok (.iload_n 1, 1) := by decide +kernel
theorem dX11_rightOf_2 : decode cX11_rightOf 2 = .ok (.iload_n 2, 1) := by decide +kernel
theorem dX11_rightOf_3 : decode cX11_rightOf 3 = .ok (.iload_n 3, 1) := by decide +kernel
theorem dX11_rightOf_4 : decode cX11_rightOf 4 = .ok (.invokevirtual 206, 3) := by decide +kernel
theorem dX11_rounds_0 : decode cX11_rounds 0 = .ok (.aload_n 0, 1) := by decide +kernel
theorem dX11_rounds_1 : decode cX11_rounds 1 = .ok (.iload_n 1, 1) := by decide +kernel
theorem dX11_rounds_2 : decode cX11_rounds 2 = .ok (.invokevirtual 142, 3) := by decide +kernel
theorem dX11_run_0 : decode cX11_run 0 = .ok (.aload_n 0, 1) := by decide +kernel
theorem dX11_run_1 : decode cX11_run 1 = .ok (.iload_n 2, 1) := by decide +kernel
theorem dX11_run_2 : decode cX11_run 2 = .ok (.invokevirtual 142, 3) := by decide +kernel
theorem dX11_slots_0 : decode cX11_slots 0 = .ok (.aload_n 0, 1) := by decide +kernel
theorem dX11_slots_1 : decode cX11_slots 1 = .ok (.iload_n 1, 1) := by decide +kernel
theorem dX11_slots_2 : decode cX11_slots 2 = .ok (.invokevirtual 142, 3) := by decide +kernel
theorem dX11_stepAt_0 : decode cX11_stepAt 0 = .ok (.aload_n 0, 1) := by decide +kernel
theorem dX11_stepAt_1 : decode cX11_stepAt 1 = .ok (.iload_n 1, 1) := by decide +kernel
theorem dX11_stepAt_2 : decode cX11_stepAt 2 = .ok (.iload_n 2, 1) := by decide +kernel
theorem dX11_stepAt_3 : decode cX11_stepAt 3 = .ok (.invokevirtual 155, 3) := by decide +kernel
theorem dX11_steps_0 : decode cX11_steps 0 = .ok (.aload_n 0, 1) := by decide +kernel
theorem dX11_steps_1 : decode cX11_steps 1 = .ok (.iload_n 1, 1) := by decide +kernel
theorem dX11_steps_2 : decode cX11_steps 2 = .ok (.iload_n 2, 1) := by decide +kernel
theorem dX11_steps_3 : decode cX11_steps 3 = .ok (.invokevirtual 155, 3) := by decide +kernel
theorem dX11_successor_0 : decode cX11_successor 0 = .ok (.aload_n 0, 1) := by decide +kernel
theorem dX11_successor_1 : decode cX11_successor 1 = .ok (.iload_n 1, 1) := by decide +kernel
theorem dX11_successor_2 : decode cX11_successor 2 = .ok (.iload_n 2, 1) := by decide +kernel
theorem dX11_successor_3 : decode cX11_successor 3 = .ok (.invokevirtual 155, 3) := by decide +kernel
theorem dX11_united_0 : decode cX11_united 0 = .ok (.aload_n 0, 1) := by decide +kernel
theorem dX11_united_1 : decode cX11_united 1 = .ok (.iload_n 1, 1) := by decide +kernel
theorem dX11_united_2 : decode cX11_united 2 = .ok (.invokevirtual 142, 3) := by decide +kernel
theorem dX11_values_0 : decode cX11_values 0 = .ok (.aload_n 0, 1) := by decide +kernel
theorem dX11_values_1 : decode cX11_values 1 = .ok (.iload_n 1, 1) := by decide +kernel
theorem dX11_values_2 : decode cX11_values 2 = .ok (.invokevirtual 142, 3) := by decide +kernel
theorem dX11_word_0 : decode cX11_word 0 = .ok (.aload_n 0, 1) := by decide +kernel
theorem dX11_word_1 : decode cX11_word 1 = .ok (.iload_n 1, 1) := by decide +kernel
theorem dX11_word_2 : decode cX11_word 2 = .ok (.bipush 16, 2) := by decide +kernel
theorem dX11_word_4 : decode cX11_word 4 = .ok (.invokevirtual 168, 3) := by decide +kernel
theorem dX11_word_7 : decode cX11_word 7 = .ok (.aload_n 0, 1) := by decide +kernel
theorem dX11_word_8 : decode cX11_word 8 = .ok (.getfield 73, 3) := by decide +kernel
theorem dX11_word_11 : decode cX11_word 11 = .ok (.getfield 303, 3) := by decide +kernel
theorem dX11_word_14 : decode cX11_word 14 = .ok (.iload_n 1, 1) := by decide +kernel
theorem dX11_word_15 : decode cX11_word 15 = .ok (.iaload, 1) := by decide +kernel
theorem dX11_word_16 : decode cX11_word 16 = .ok (.ireturn, 1) := by decide +kernel
theorem qw242 : Cond.classLink RX11 329 "java/lang/IndexOutOfBoundsException" ∈ gw := mq_9 (i := 36) rfl rfl
theorem qw243 : Cond.initialized "java/lang/IndexOutOfBoundsException" ∈ gw := mq_1 (i := 35) rfl rfl
theorem qw244 : Cond.code yX11_needFunction cX11_needFunction 2 (Option.none : Option Jvm.ClassFile.FieldType) ∈ gw := mq_9 (i := 35) rfl rfl
theorem qw245 : Cond.methodLink RX11 142 yX11_needFunction ∈ gw := mq_9 (i := 32) rfl rfl
theorem qw246 : Cond.instanceMethod yX11_needFunction ∈ gw := mq_9 (i := 34) rfl rfl
theorem qw247 : Cond.selects RX11 yX11_needFunction yX11_needFunction ∈ gw := mk_s (i := 0) rfl rfl
theorem qw248 : Cond.code yX11_flowWith cX11_flowWith 3 (Option.some (Jvm.ClassFile.FieldType.object "Gearbox$Flow")) ∈ gw := mq_9 (i := 84) rfl rfl
theorem qw249 : Cond.methodLink RX11 155 yX11_flowWith ∈ gw := mq_9 (i := 81) rfl rfl
theorem qw250 : Cond.instanceMethod yX11_flowWith ∈ gw := mq_9 (i := 83) rfl rfl
theorem qw251 : Cond.selects RX11 yX11_flowWith yX11_flowWith ∈ gw := mk_s (i := 1) rfl rfl
theorem qw252 : Cond.code yX11_stepAt cX11_stepAt 5 (Option.some Jvm.ClassFile.FieldType.int) ∈ gw := mq_9 (i := 179) rfl rfl
theorem qw253 : Cond.methodLink RX11 206 yX11_stepAt ∈ gw := mq_9 (i := 176) rfl rfl
theorem qw254 : Cond.instanceMethod yX11_stepAt ∈ gw := mq_9 (i := 178) rfl rfl
theorem qw255 : Cond.selects RX11 yX11_stepAt yX11_stepAt ∈ gw := mk_s (i := 2) rfl rfl
theorem qw256 : Cond.code yX11_codeWith cX11_codeWith 3 (Option.some (Jvm.ClassFile.FieldType.object "Gearbox$Steps")) ∈ gw := mq_10 (i := 213) rfl rfl
theorem qw257 : Cond.methodLink RX11 271 yX11_codeWith ∈ gw := mq_10 (i := 210) rfl rfl
theorem qw258 : Cond.instanceMethod yX11_codeWith ∈ gw := mq_10 (i := 212) rfl rfl
theorem qw259 : Cond.selects RX11 yX11_codeWith yX11_codeWith ∈ gw := mk_s (i := 3) rfl rfl
theorem qw260 : Cond.code yX11_needPlace cX11_needPlace 3 (Option.none : Option Jvm.ClassFile.FieldType) ∈ gw := mq_9 (i := 88) rfl rfl
theorem qw261 : Cond.methodLink RX11 168 yX11_needPlace ∈ gw := mq_9 (i := 85) rfl rfl
theorem qw262 : Cond.instanceMethod yX11_needPlace ∈ gw := mq_9 (i := 87) rfl rfl
theorem qw263 : Cond.selects RX11 yX11_needPlace yX11_needPlace ∈ gw := mk_s (i := 4) rfl rfl
theorem qw264 : Cond.fieldLink RX11 303 "Gearbox$Machine" "memory" "[I" ∈ gw := mq_4 (i := 0) rfl rfl
theorem qw265 : Cond.classLink RX11 89 "java/lang/IllegalStateException" ∈ gw := mq_8 (i := 233) rfl rfl
theorem qw266 : Cond.initialized "java/lang/IllegalStateException" ∈ gw := mq_1 (i := 20) rfl rfl
set_option maxRecDepth 20000 in
theorem at_X11_333_a : ∀ w ∈ Bundle.ownAtoms RX11 333 "java/lang/IndexOutOfBoundsException" ["java/lang/RuntimeException", "java/lang/Exception"], vx_no w = true → w ∈ tables_1 ∧ (goodWord w || mvb w) = true := (List.forall_mem_append.mpr ⟨(List.forall_mem_append.mpr ⟨(List.forall_mem_append.mpr ⟨(List.forall_mem_cons.mpr ⟨fun _ => ⟨tbl_1 (i := 17) rfl, rfl⟩, (List.forall_mem_cons.mpr ⟨fun _ => ⟨tbl_5 (i := 21) rfl, rfl⟩, (List.forall_mem_cons.mpr ⟨fun _ => ⟨tbl_5 (i := 30) rfl, rfl⟩, (List.forall_mem_cons.mpr ⟨fun _ => ⟨tbl_5 (i := 36) rfl, rfl⟩, (List.forall_mem_cons.mpr ⟨fun _ => ⟨tbl_5 (i := 39) rfl, rfl⟩, (List.forall_mem_cons.mpr ⟨fun _ => ⟨tbl_5 (i := 41) rfl, rfl⟩, (List.forall_mem_cons.mpr ⟨fun _ => ⟨tbl_5 (i := 22) rfl, rfl⟩, (List.forall_mem_cons.mpr ⟨fun _ => ⟨tbl_5 (i := 23) rfl, rfl⟩, (List.forall_mem_cons.mpr ⟨fun _ => ⟨tbl_1 (i := 53) rfl, rfl⟩, (List.forall_mem_cons.mpr ⟨fun _ => ⟨tbl_1 (i := 54) rfl, rfl⟩, (List.forall_mem_cons.mpr ⟨fun _ => ⟨tbl_5 (i := 24) rfl, rfl⟩, (List.forall_mem_cons.mpr ⟨fun _ => ⟨tbl_5 (i := 29) rfl, rfl⟩, (List.forall_mem_cons.mpr ⟨fun _ => ⟨tbl_5 (i := 37) rfl, rfl⟩, (List.forall_mem_cons.mpr ⟨fun _ => ⟨tbl_5 (i := 57) rfl, rfl⟩, (List.forall_mem_cons.mpr ⟨fun _ => ⟨tbl_5 (i := 11) rfl, rfl⟩, (List.forall_mem_cons.mpr ⟨fun _ => ⟨tbl_5 (i := 58) rfl, rfl⟩, (List.forall_mem_cons.mpr ⟨fun _ => ⟨tbl_5 (i := 13) rfl, rfl⟩, (List.forall_mem_cons.mpr ⟨fun _ => ⟨tbl_5 (i := 59) rfl, rfl⟩, (List.forall_mem_cons.mpr ⟨fun _ => ⟨tbl_5 (i := 15) rfl, rfl⟩, (List.forall_mem_cons.mpr ⟨fun _ => ⟨tbl_5 (i := 25) rfl, rfl⟩, (List.forall_mem_cons.mpr ⟨fun h => absurd h (by decide +kernel), (List.forall_mem_cons.mpr ⟨fun _ => ⟨tbl_5 (i := 27) rfl, rfl⟩, (List.forall_mem_cons.mpr ⟨fun h => absurd h (by decide +kernel), (List.forall_mem_cons.mpr ⟨fun _ => ⟨tbl_5 (i := 17) rfl, rfl⟩, (fun _ h => absurd h List.not_mem_nil)⟩)⟩)⟩)⟩)⟩)⟩)⟩)⟩)⟩)⟩)⟩)⟩)⟩)⟩)⟩)⟩)⟩)⟩)⟩)⟩)⟩)⟩)⟩)⟩), (List.forall_mem_cons.mpr ⟨fun _ => ⟨tbl_5 (i := 53) rfl, rfl⟩, (List.forall_mem_cons.mpr ⟨fun _ => ⟨tbl_5 (i := 54) rfl, rfl⟩, (List.forall_mem_cons.mpr ⟨fun _ => ⟨tbl_5 (i := 56) rfl, rfl⟩, (List.forall_mem_cons.mpr ⟨fun _ => ⟨tbl_5 (i := 17) rfl, rfl⟩, (fun _ h => absurd h List.not_mem_nil)⟩)⟩)⟩)⟩)⟩), (List.forall_mem_append.mpr ⟨(List.forall_mem_cons.mpr ⟨fun _ => ⟨tbl_7 (i := 127) rfl, rfl⟩, (List.forall_mem_cons.mpr ⟨fun _ => ⟨tbl_7 (i := 128) rfl, rfl⟩, (List.forall_mem_cons.mpr ⟨fun _ => ⟨tbl_7 (i := 129) rfl, rfl⟩, (List.forall_mem_cons.mpr ⟨fun _ => ⟨tbl_5 (i := 47) rfl, rfl⟩, (List.forall_mem_cons.mpr ⟨fun _ => ⟨tbl_5 (i := 3) rfl, rfl⟩, (fun _ h => absurd h List.not_mem_nil)⟩)⟩)⟩)⟩)⟩), (List.forall_mem_append.mpr ⟨(List.forall_mem_cons.mpr ⟨fun _ => ⟨tbl_5 (i := 47) rfl, rfl⟩, (List.forall_mem_cons.mpr ⟨fun _ => ⟨tbl_5 (i := 48) rfl, rfl⟩, (List.forall_mem_cons.mpr ⟨fun _ => ⟨tbl_5 (i := 49) rfl, rfl⟩, (List.forall_mem_cons.mpr ⟨fun _ => ⟨tbl_5 (i := 50) rfl, rfl⟩, (List.forall_mem_cons.mpr ⟨fun _ => ⟨tbl_5 (i := 5) rfl, rfl⟩, (fun _ h => absurd h List.not_mem_nil)⟩)⟩)⟩)⟩)⟩), (List.forall_mem_cons.mpr ⟨fun _ => ⟨tbl_5 (i := 50) rfl, rfl⟩, (List.forall_mem_cons.mpr ⟨fun _ => ⟨tbl_5 (i := 51) rfl, rfl⟩, (List.forall_mem_cons.mpr ⟨fun _ => ⟨tbl_5 (i := 52) rfl, rfl⟩, (List.forall_mem_cons.mpr ⟨fun _ => ⟨tbl_5 (i := 53) rfl, rfl⟩, (List.forall_mem_cons.mpr ⟨fun _ => ⟨tbl_5 (i := 7) rfl, rfl⟩, (fun _ h => absurd h List.not_mem_nil)⟩)⟩)⟩)⟩)⟩)⟩)⟩)⟩), (List.forall_mem_cons.mpr ⟨fun _ => ⟨tbl_9 (i := 46) rfl, rfl⟩, (List.forall_mem_cons.mpr ⟨fun _ => ⟨tbl_9 (i := 37) rfl, rfl⟩, (List.forall_mem_cons.mpr ⟨fun _ => ⟨tbl_9 (i := 38) rfl, rfl⟩, (List.forall_mem_cons.mpr ⟨fun _ => ⟨tbl_9 (i := 39) rfl, rfl⟩, (List.forall_mem_cons.mpr ⟨fun _ => ⟨tbl_5 (i := 35) rfl, rfl⟩, (List.forall_mem_cons.mpr ⟨fun _ => ⟨tbl_9 (i := 40) rfl, rfl⟩, (List.forall_mem_cons.mpr ⟨fun _ => ⟨tbl_9 (i := 41) rfl, rfl⟩, (List.forall_mem_cons.mpr ⟨fun _ => ⟨tbl_9 (i := 42) rfl, rfl⟩, (List.forall_mem_cons.mpr ⟨fun _ => ⟨tbl_9 (i := 43) rfl, rfl⟩, (List.forall_mem_cons.mpr ⟨fun h => absurd h (by decide +kernel), (List.forall_mem_cons.mpr ⟨fun h => absurd h (by decide +kernel), (List.forall_mem_cons.mpr ⟨fun _ => ⟨tbl_5 (i := 20) rfl, rfl⟩, (List.forall_mem_cons.mpr ⟨fun _ => ⟨tbl_5 (i := 19) rfl, rfl⟩, (List.forall_mem_cons.mpr ⟨fun _ => ⟨tbl_9 (i := 44) rfl, rfl⟩, (fun _ h => absurd h List.not_mem_nil)⟩)⟩)⟩)⟩)⟩)⟩)⟩)⟩)⟩)⟩)⟩)⟩)⟩)⟩)⟩)
theorem at_X11_333 {zs : Nat × Nat} {args : Array Value} {s : State} {A : Nat → Prop} {H : Heap} (hts : ∀ w ∈ gw, w.before args s = true) (hE : ENV zs A s H) : ∀ w ∈ vx_atS RX11 333 "java/lang/IndexOutOfBoundsException" ["java/lang/RuntimeException", "java/lang/Exception"], w.before args s = true := at_of at_X11_333_a hts hE
theorem at_X11_333_g {ik : Nat} : ∀ w ∈ Cond.classLink RX11 ik "java/lang/IndexOutOfBoundsException" :: Cond.initialized "java/lang/IndexOutOfBoundsException" :: vx_atS RX11 333 "java/lang/IndexOutOfBoundsException" ["java/lang/RuntimeException", "java/lang/Exception"], vx_ot w = true := List.forall_mem_cons.mpr ⟨rfl, List.forall_mem_cons.mpr ⟨rfl, at_ot at_X11_333_a⟩⟩
set_option maxRecDepth 20000 in
theorem at_X11_93_a : ∀ w ∈ Bundle.ownAtoms RX11 93 "java/lang/IllegalStateException" ["java/lang/RuntimeException", "java/lang/Exception"], vx_no w = true → w ∈ tables_1 ∧ (goodWord w || mvb w) = true := (List.forall_mem_append.mpr ⟨(List.forall_mem_append.mpr ⟨(List.forall_mem_append.mpr ⟨(List.forall_mem_cons.mpr ⟨fun _ => ⟨tbl_1 (i := 17) rfl, rfl⟩, (List.forall_mem_cons.mpr ⟨fun _ => ⟨tbl_5 (i := 21) rfl, rfl⟩, (List.forall_mem_cons.mpr ⟨fun _ => ⟨tbl_5 (i := 30) rfl, rfl⟩, (List.forall_mem_cons.mpr ⟨fun _ => ⟨tbl_5 (i := 36) rfl, rfl⟩, (List.forall_mem_cons.mpr ⟨fun _ => ⟨tbl_5 (i := 39) rfl, rfl⟩, (List.forall_mem_cons.mpr ⟨fun _ => ⟨tbl_5 (i := 41) rfl, rfl⟩, (List.forall_mem_cons.mpr ⟨fun _ => ⟨tbl_5 (i := 22) rfl, rfl⟩, (List.forall_mem_cons.mpr ⟨fun _ => ⟨tbl_5 (i := 23) rfl, rfl⟩, (List.forall_mem_cons.mpr ⟨fun _ => ⟨tbl_1 (i := 53) rfl, rfl⟩, (List.forall_mem_cons.mpr ⟨fun _ => ⟨tbl_1 (i := 54) rfl, rfl⟩, (List.forall_mem_cons.mpr ⟨fun _ => ⟨tbl_5 (i := 24) rfl, rfl⟩, (List.forall_mem_cons.mpr ⟨fun _ => ⟨tbl_5 (i := 29) rfl, rfl⟩, (List.forall_mem_cons.mpr ⟨fun _ => ⟨tbl_5 (i := 37) rfl, rfl⟩, (List.forall_mem_cons.mpr ⟨fun _ => ⟨tbl_5 (i := 57) rfl, rfl⟩, (List.forall_mem_cons.mpr ⟨fun _ => ⟨tbl_5 (i := 11) rfl, rfl⟩, (List.forall_mem_cons.mpr ⟨fun _ => ⟨tbl_5 (i := 58) rfl, rfl⟩, (List.forall_mem_cons.mpr ⟨fun _ => ⟨tbl_5 (i := 13) rfl, rfl⟩, (List.forall_mem_cons.mpr ⟨fun _ => ⟨tbl_5 (i := 59) rfl, rfl⟩, (List.forall_mem_cons.mpr ⟨fun _ => ⟨tbl_5 (i := 15) rfl, rfl⟩, (List.forall_mem_cons.mpr ⟨fun _ => ⟨tbl_5 (i := 25) rfl, rfl⟩, (List.forall_mem_cons.mpr ⟨fun h => absurd h (by decide +kernel), (List.forall_mem_cons.mpr ⟨fun _ => ⟨tbl_5 (i := 27) rfl, rfl⟩, (List.forall_mem_cons.mpr ⟨fun h => absurd h (by decide +kernel), (List.forall_mem_cons.mpr ⟨fun _ => ⟨tbl_5 (i := 17) rfl, rfl⟩, (fun _ h => absurd h List.not_mem_nil)⟩)⟩)⟩)⟩)⟩)⟩)⟩)⟩)⟩)⟩)⟩)⟩)⟩)⟩)⟩)⟩)⟩)⟩)⟩)⟩)⟩)⟩)⟩)⟩), (List.forall_mem_cons.mpr ⟨fun _ => ⟨tbl_5 (i := 53) rfl, rfl⟩, (List.forall_mem_cons.mpr ⟨fun _ => ⟨tbl_5 (i := 54) rfl, rfl⟩, (List.forall_mem_cons.mpr ⟨fun _ => ⟨tbl_5 (i := 56) rfl, rfl⟩, (List.forall_mem_cons.mpr ⟨fun _ => ⟨tbl_5 (i := 17) rfl, rfl⟩, (fun _ h => absurd h List.not_mem_nil)⟩)⟩)⟩)⟩)⟩), (List.forall_mem_append.mpr ⟨(List.forall_mem_cons.mpr ⟨fun _ => ⟨tbl_9 (i := 4) rfl, rfl⟩, (List.forall_mem_cons.mpr ⟨fun _ => ⟨tbl_9 (i := 5) rfl, rfl⟩, (List.forall_mem_cons.mpr ⟨fun _ => ⟨tbl_9 (i := 6) rfl, rfl⟩, (List.forall_mem_cons.mpr ⟨fun _ => ⟨tbl_5 (i := 47) rfl, rfl⟩, (List.forall_mem_cons.mpr ⟨fun _ => ⟨tbl_5 (i := 3) rfl, rfl⟩, (fun _ h => absurd h List.not_mem_nil)⟩)⟩)⟩)⟩)⟩), (List.forall_mem_append.mpr ⟨(List.forall_mem_cons.mpr ⟨fun _ => ⟨tbl_5 (i := 47) rfl, rfl⟩, (List.forall_mem_cons.mpr ⟨fun _ => ⟨tbl_5 (i := 48) rfl, rfl⟩, (List.forall_mem_cons.mpr ⟨fun _ => ⟨tbl_5 (i := 49) rfl, rfl⟩, (List.forall_mem_cons.mpr ⟨fun _ => ⟨tbl_5 (i := 50) rfl, rfl⟩, (List.forall_mem_cons.mpr ⟨fun _ => ⟨tbl_5 (i := 5) rfl, rfl⟩, (fun _ h => absurd h List.not_mem_nil)⟩)⟩)⟩)⟩)⟩), (List.forall_mem_cons.mpr ⟨fun _ => ⟨tbl_5 (i := 50) rfl, rfl⟩, (List.forall_mem_cons.mpr ⟨fun _ => ⟨tbl_5 (i := 51) rfl, rfl⟩, (List.forall_mem_cons.mpr ⟨fun _ => ⟨tbl_5 (i := 52) rfl, rfl⟩, (List.forall_mem_cons.mpr ⟨fun _ => ⟨tbl_5 (i := 53) rfl, rfl⟩, (List.forall_mem_cons.mpr ⟨fun _ => ⟨tbl_5 (i := 7) rfl, rfl⟩, (fun _ h => absurd h List.not_mem_nil)⟩)⟩)⟩)⟩)⟩)⟩)⟩)⟩), (List.forall_mem_cons.mpr ⟨fun _ => ⟨tbl_9 (i := 3) rfl, rfl⟩, (List.forall_mem_cons.mpr ⟨fun _ => ⟨tbl_8 (i := 234) rfl, rfl⟩, (List.forall_mem_cons.mpr ⟨fun _ => ⟨tbl_8 (i := 235) rfl, rfl⟩, (List.forall_mem_cons.mpr ⟨fun _ => ⟨tbl_8 (i := 236) rfl, rfl⟩, (List.forall_mem_cons.mpr ⟨fun _ => ⟨tbl_5 (i := 34) rfl, rfl⟩, (List.forall_mem_cons.mpr ⟨fun _ => ⟨tbl_8 (i := 237) rfl, rfl⟩, (List.forall_mem_cons.mpr ⟨fun _ => ⟨tbl_8 (i := 238) rfl, rfl⟩, (List.forall_mem_cons.mpr ⟨fun _ => ⟨tbl_8 (i := 239) rfl, rfl⟩, (List.forall_mem_cons.mpr ⟨fun _ => ⟨tbl_9 (i := 0) rfl, rfl⟩, (List.forall_mem_cons.mpr ⟨fun h => absurd h (by decide +kernel), (List.forall_mem_cons.mpr ⟨fun h => absurd h (by decide +kernel), (List.forall_mem_cons.mpr ⟨fun _ => ⟨tbl_5 (i := 20) rfl, rfl⟩, (List.forall_mem_cons.mpr ⟨fun _ => ⟨tbl_5 (i := 19) rfl, rfl⟩, (List.forall_mem_cons.mpr ⟨fun _ => ⟨tbl_9 (i := 1) rfl, rfl⟩, (fun _ h => absurd h List.not_mem_nil)⟩)⟩)⟩)⟩)⟩)⟩)⟩)⟩)⟩)⟩)⟩)⟩)⟩)⟩)⟩)
theorem at_X11_93 {zs : Nat × Nat} {args : Array Value} {s : State} {A : Nat → Prop} {H : Heap} (hts : ∀ w ∈ gw, w.before args s = true) (hE : ENV zs A s H) : ∀ w ∈ vx_atS RX11 93 "java/lang/IllegalStateException" ["java/lang/RuntimeException", "java/lang/Exception"], w.before args s = true := at_of at_X11_93_a hts hE
theorem at_X11_93_g {ik : Nat} : ∀ w ∈ Cond.classLink RX11 ik "java/lang/IllegalStateException" :: Cond.initialized "java/lang/IllegalStateException" :: vx_atS RX11 93 "java/lang/IllegalStateException" ["java/lang/RuntimeException", "java/lang/Exception"], vx_ot w = true := List.forall_mem_cons.mpr ⟨rfl, List.forall_mem_cons.mpr ⟨rfl, at_ot at_X11_93_a⟩⟩
set_option maxHeartbeats 4000000 in
set_option maxRecDepth 100000 in
/-- Gearbox.needFunction, from the state that its caller has -/
theorem kX11_needFunction_n6 {zs : Nat × Nat} (l : Launch) (dC : Nat → ClassId) (dI : Nat → Nat → Nat) (a0 : Nat) (i1 : Int32) (a2 : Nat) (a3 : Nat) (a4 : Nat) (a5 : Nat) (a6 : Nat) (a7 : Nat) (a8 : Nat) (a9 : Nat) (a10 : Nat) (a11 : Nat) (a33 : Nat) (a34 : Nat) (a35 : Nat) (a36 : Nat) (a37 : Nat) (a38 : Nat) (a39 : Nat) (a40 : Nat) (a41 : Nat) (a42 : Nat) (sz : Nat) (hl9 : l.stackTraces = false)  : vx_Met l yX11_needFunction (wz yX11_needFunction cX11_needFunction 2 (Option.none : Option Jvm.ClassFile.FieldType)) ({ frames := 6, cells := 1, slots := 6, locals := 100 }) (va_Pc [.ref a0, .int i1] (PRE zs dC dI [(a0, .inr (11, [.ref a2, .ref a3, .ref a4, .ref a5, .ref a6, .ref a7, .ref a8, .ref a9, .ref a10, .ref a11, .int (-1)])), (a10, .inr (2, [.int 0, .ref a33, .ref a34, .ref a35, .ref a36, .ref a37, .ref a38, .int 0, .ref a39, .ref a40, .ref a41, .int 0, .ref a42]))] [] sz)) (va_Qv (fun (_ : Unit) => False) (fun _ _ => True) (va_A [(a0, .inr (11, [.ref a2, .ref a3, .ref a4, .ref a5, .ref a6, .ref a7, .ref a8, .ref a9, .ref a10, .ref a11, .int (-1)])), (a10, .inr (2, [.int 0, .ref a33, .ref a34, .ref a35, .ref a36, .ref a37, .ref a38, .int 0, .ref a39, .ref a40, .ref a41, .int 0, .ref a42]))] sz)) (vx_X (fun (_ : Unit) => True) (fun E _ t => E = "java/lang/IndexOutOfBoundsException" ∧ POST dC dI [(a0, .inr (11, [.ref a2, .ref a3, .ref a4, .ref a5, .ref a6, .ref a7, .ref a8, .ref a9, .ref a10, .ref a11, .int (-1)])), (a10, .inr (2, [.int 0, .ref a33, .ref a34, .ref a35, .ref a36, .ref a37, .ref a38, .int 0, .ref a39, .ref a40, .ref a41, .int 0, .ref a42]))] [] (va_A [(a0, .inr (11, [.ref a2, .ref a3, .ref a4, .ref a5, .ref a6, .ref a7, .ref a8, .ref a9, .ref a10, .ref a11, .int (-1)])), (a10, .inr (2, [.int 0, .ref a33, .ref a34, .ref a35, .ref a36, .ref a37, .ref a38, .int 0, .ref a39, .ref a40, .ref a41, .int 0, .ref a42]))] sz) t) (va_A [(a0, .inr (11, [.ref a2, .ref a3, .ref a4, .ref a5, .ref a6, .ref a7, .ref a8, .ref a9, .ref a10, .ref a11, .int (-1)])), (a10, .inr (2, [.int 0, .ref a33, .ref a34, .ref a35, .ref a36, .ref a37, .ref a38, .int 0, .ref a39, .ref a40, .ref a41, .int 0, .ref a42]))] sz)) 1 6 (va_A [(a0, .inr (11, [.ref a2, .ref a3, .ref a4, .ref a5, .ref a6, .ref a7, .ref a8, .ref a9, .ref a10, .ref a11, .int (-1)])), (a10, .inr (2, [.int 0, .ref a33, .ref a34, .ref a35, .ref a36, .ref a37, .ref a38, .int 0, .ref a39, .ref a40, .ref a41, .int 0, .ref a42]))] sz) := by
  refine vx_ofW (cc := cX11_needFunction) (maxL := 2) (ret := (Option.none : Option Jvm.ClassFile.FieldType)) (by decide) rfl ?_
  intro p e s m args below meth c s₁ B hml hnt hv
  obtain ⟨rfl, hsz, hP, hK, hD0, hE⟩ := hv
  have hx := B.exec
  have hb := B.bytes
  have hr := B.returns
  have hts0 := atoms_spec (ws := wz yX11_needFunction cX11_needFunction 2 (Option.none : Option Jvm.ClassFile.FieldType)) B.pre
  have hts : ∀ w ∈ gw, w.before _ s = true := fun w h => hts0 w (List.mem_cons_of_mem _ h)
  have hown : s.vm.findClass RX11 = some m.cls := findClass_of_methodNamed B.named
  have hlocks := B.notSynchronized
  subst hsz
  have hD := hD0.self (sz := s.heap.size)
  generalize hAe : va_A [(a0, .inr (11, [.ref a2, .ref a3, .ref a4, .ref a5, .ref a6, .ref a7, .ref a8, .ref a9, .ref a10, .ref a11, .int (-1)])), (a10, .inr (2, [.int 0, .ref a33, .ref a34, .ref a35, .ref a36, .ref a37, .ref a38, .int 0, .ref a39, .ref a40, .ref a41, .int 0, .ref a42]))] s.heap.size = A at hD hE ⊢
  have hA : ∀ q : Nat, s.heap.size ≤ q → A q := fun q h => by rw [← hAe]; exact Or.inr h
  have hS : va_S A s.heap s.heap [] := va_S.rf
  have hP : va_P (dC, dI) cls [(a0, .inr (11, [.ref a2, .ref a3, .ref a4, .ref a5, .ref a6, .ref a7, .ref a8, .ref a9, .ref a10, .ref a11, .int (-1)])), (a10, .inr (2, [.int 0, .ref a33, .ref a34, .ref a35, .ref a36, .ref a37, .ref a38, .int 0, .ref a39, .ref a40, .ref a41, .int 0, .ref a42]))] s.heap := hP
  have hl := lv_entry ([.ref a0, .int i1]) (n := 2) (Nat.le_of_ble_eq_true rfl)
  rw [lg_entry_eq]
  generalize (lg_sl ([.ref a0, .int i1]) ++ List.replicate (2 - (lg_sl ([.ref a0, .int i1])).length) Slot.unset).toArray = ls at hl ⊢
  have hl : lv_has ls 2 [(0, .ref a0), (1, .int i1)] := hl
  by_cases hc : i1 < 0
  · refine lv_iload_n hx hb dX11_needFunction_0 rfl (lv_at hl 1 rfl) ?_
    refine lv_if_lt (tgt := 15) hx hb dX11_needFunction_1 (by decide) (fun _ => ?_) (fun c => absurd hc c)
    obtain ⟨sa, hsa⟩ := hE.2.2.2.1 RX11 331 "there is no such function" (tbl_9 (i := 45) rfl)
    have hP9 : va_P (dC, dI) cls [(a0, .inr (11, [.ref a2, .ref a3, .ref a4, .ref a5, .ref a6, .ref a7, .ref a8, .ref a9, .ref a10, .ref a11, .int (-1)])), (a10, .inr (2, [.int 0, .ref a33, .ref a34, .ref a35, .ref a36, .ref a37, .ref a38, .int 0, .ref a39, .ref a40, .ref a41, .int 0, .ref a42]))] s.heap := hP.sub [0, 1] rfl
    have hD9 : va_D A [(a0, .inr (11, [.ref a2, .ref a3, .ref a4, .ref a5, .ref a6, .ref a7, .ref a8, .ref a9, .ref a10, .ref a11, .int (-1)])), (a10, .inr (2, [.int 0, .ref a33, .ref a34, .ref a35, .ref a36, .ref a37, .ref a38, .int 0, .ref a39, .ref a40, .ref a41, .int 0, .ref a42]))] := hD.sub [0, 1] (by decide) rfl
    have hK9 : va_K (dC, dI) cls [] s := hK.sub [] rfl
    exact vx_throwSW hx hb hl9 hown rfl (by decide) (hts _ qw242) (hts _ qw243) hsa (at_X11_333 hts hE) at_X11_333_g hE.2.2.2.2.1.1 hE.2.2.2.2.1.2 hS (by rw [hml]; exact hl.1) dX11_needFunction_15 dX11_needFunction_18 dX11_needFunction_19 dX11_needFunction_22 dX11_needFunction_25 (fun x hx9 => (hnt x hx9).elim) (by decide) (by decide) (Nat.le_of_ble_eq_true rfl) (Nat.le_of_ble_eq_true rfl) hlocks (fun t hal hz hq => ⟨(), trivial, ⟨rfl, POST.keep hP9 hD9 hK9 hal hq⟩, ⟨Nat.le_trans hS.1 hz, fun q a b => (hq q (Nat.lt_of_lt_of_le a hS.1)).trans (hS.2.1 q a b)⟩⟩) hS.2.2 (Nat.le_of_ble_eq_true rfl) (Nat.le_of_ble_eq_true rfl)
  · refine lv_iload_n hx hb dX11_needFunction_0 rfl (lv_at hl 1 rfl) ?_
    refine lv_if_lt (tgt := 15) hx hb dX11_needFunction_1 (by decide) (fun c => absurd c hc) (fun _ => ?_)
    refine lv_iload_n hx hb dX11_needFunction_4 rfl (lv_at hl 1 rfl) ?_
    refine lv_aload_n hx hb dX11_needFunction_5 rfl (lv_at hl 0 rfl) ?_
    refine va_get (D := (dC, dI)) (ci := 11) (v := .ref a10) (C := RX11) (T := TX11) (N := 11) hx hb hts i_X11 hown hK hP 0 rfl rfl 8 (by decide) (hts _ qw195) (fun _ h9 => h9) rfl dX11_needFunction_6 ?_
    refine va_get (D := (dC, dI)) (ci := 2) (v := .int 0) (C := RX6) (T := TX6) (N := 13) hx hb hts i_X6 hown hK hP 1 rfl rfl 0 (by decide) (hts _ qw215) (fun _ h9 => h9) rfl dX11_needFunction_9 ?_
    refine lv_icmp_lt (tgt := 26) hx hb dX11_needFunction_12 (by decide) (fun c => absurd c hc) (fun _ => ?_)
    obtain ⟨sa, hsa⟩ := hE.2.2.2.1 RX11 331 "there is no such function" (tbl_9 (i := 45) rfl)
    have hP9 : va_P (dC, dI) cls [(a0, .inr (11, [.ref a2, .ref a3, .ref a4, .ref a5, .ref a6, .ref a7, .ref a8, .ref a9, .ref a10, .ref a11, .int (-1)])), (a10, .inr (2, [.int 0, .ref a33, .ref a34, .ref a35, .ref a36, .ref a37, .ref a38, .int 0, .ref a39, .ref a40, .ref a41, .int 0, .ref a42]))] s.heap := hP.sub [0, 1] rfl
    have hD9 : va_D A [(a0, .inr (11, [.ref a2, .ref a3, .ref a4, .ref a5, .ref a6, .ref a7, .ref a8, .ref a9, .ref a10, .ref a11, .int (-1)])), (a10, .inr (2, [.int 0, .ref a33, .ref a34, .ref a35, .ref a36, .ref a37, .ref a38, .int 0, .ref a39, .ref a40, .ref a41, .int 0, .ref a42]))] := hD.sub [0, 1] (by decide) rfl
    have hK9 : va_K (dC, dI) cls [] s := hK.sub [] rfl
    exact vx_throwSW hx hb hl9 hown rfl (by decide) (hts _ qw242) (hts _ qw243) hsa (at_X11_333 hts hE) at_X11_333_g hE.2.2.2.2.1.1 hE.2.2.2.2.1.2 hS (by rw [hml]; exact hl.1) dX11_needFunction_15 dX11_needFunction_18 dX11_needFunction_19 dX11_needFunction_22 dX11_needFunction_25 (fun x hx9 => (hnt x hx9).elim) (by decide) (by decide) (Nat.le_of_ble_eq_true rfl) (Nat.le_of_ble_eq_true rfl) hlocks (fun t hal hz hq => ⟨(), trivial, ⟨rfl, POST.keep hP9 hD9 hK9 hal hq⟩, ⟨Nat.le_trans hS.1 hz, fun q a b => (hq q (Nat.lt_of_lt_of_le a hS.1)).trans (hS.2.1 q a b)⟩⟩) hS.2.2 (Nat.le_of_ble_eq_true rfl) (Nat.le_of_ble_eq_true rfl)
set_option maxHeartbeats 4000000 in
set_option maxRecDepth 100000 in
theorem kX11_parametersOf {zs : Nat × Nat} (l : Launch) (dC : Nat → ClassId) (dI : Nat → Nat → Nat) (gx : Nat) (gq1 : Nat) (gq4 : Nat) (gq13 : Nat) (gq136 : Nat) (gq137 : Nat) (gq138 : Nat) (gq150 : Nat) (gq151 : Nat) (gq152 : Nat) (gq153 : Nat) (gq154 : Nat) (gq155 : Nat) (gq156 : Nat) (gq157 : Nat) (gq158 : Nat) (gq159 : Nat) (gq160 : Nat) (gq161 : Nat) (gq172 : Nat) (gq184 : Nat) (p0 : Int32) (sz : Nat) (hl9 : l.stackTraces = false)  : vx_Met l yX11_parametersOf (wz yX11_parametersOf cX11_parametersOf 2 (Option.some Jvm.ClassFile.FieldType.int)) ({ frames := 7, cells := 1, slots := 6, locals := 121 }) (va_Pc [.ref gx, .int p0] (PRE zs dC dI [(gx, .inr (11, [.ref gq1, .ref gq4, .ref gq13, .ref gq136, .ref gq137, .ref gq138, .ref gq172, .ref gq184, .ref gq150, .ref gq161, .int (-1)])), (gq150, .inr (2, [.int 0, .ref gq151, .ref gq152, .ref gq153, .ref gq154, .ref gq155, .ref gq156, .int 0, .ref gq157, .ref gq158, .ref gq159, .int 0, .ref gq160]))] [] sz)) (va_Qi (fun (_ : Int32) (_ : Unit) => False) (fun _ _ => True) (va_A [(gx, .inr (11, [.ref gq1, .ref gq4, .ref gq13, .ref gq136, .ref gq137, .ref gq138, .ref gq172, .ref gq184, .ref gq150, .ref gq161, .int (-1)])), (gq150, .inr (2, [.int 0, .ref gq151, .ref gq152, .ref gq153, .ref gq154, .ref gq155, .ref gq156, .int 0, .ref gq157, .ref gq158, .ref gq159, .int 0, .ref gq160]))] sz)) (vx_X (fun (_ : Unit) => True) (fun E _ t => E = "java/lang/IndexOutOfBoundsException" ∧ POST dC dI [] [] (va_A [(gx, .inr (11, [.ref gq1, .ref gq4, .ref gq13, .ref gq136, .ref gq137, .ref gq138, .ref gq172, .ref gq184, .ref gq150, .ref gq161, .int (-1)])), (gq150, .inr (2, [.int 0, .ref gq151, .ref gq152, .ref gq153, .ref gq154, .ref gq155, .ref gq156, .int 0, .ref gq157, .ref gq158, .ref gq159, .int 0, .ref gq160]))] sz) t) (va_A [(gx, .inr (11, [.ref gq1, .ref gq4, .ref gq13, .ref gq136, .ref gq137, .ref gq138, .ref gq172, .ref gq184, .ref gq150, .ref gq161, .int (-1)])), (gq150, .inr (2, [.int 0, .ref gq151, .ref gq152, .ref gq153, .ref gq154, .ref gq155, .ref gq156, .int 0, .ref gq157, .ref gq158, .ref gq159, .int 0, .ref gq160]))] sz)) 1 6 (va_A [(gx, .inr (11, [.ref gq1, .ref gq4, .ref gq13, .ref gq136, .ref gq137, .ref gq138, .ref gq172, .ref gq184, .ref gq150, .ref gq161, .int (-1)])), (gq150, .inr (2, [.int 0, .ref gq151, .ref gq152, .ref gq153, .ref gq154, .ref gq155, .ref gq156, .int 0, .ref gq157, .ref gq158, .ref gq159, .int 0, .ref gq160]))] sz) := by
  refine vx_ofW (cc := cX11_parametersOf) (maxL := 2) (ret := (Option.some Jvm.ClassFile.FieldType.int)) (by decide) rfl ?_
  intro p e s m args below meth c s₁ B hml hnt hv
  obtain ⟨rfl, hsz, hP, hK, hD0, hE⟩ := hv
  have hx := B.exec
  have hb := B.bytes
  have hr := B.returns
  have hts0 := atoms_spec (ws := wz yX11_parametersOf cX11_parametersOf 2 (Option.some Jvm.ClassFile.FieldType.int)) B.pre
  have hts : ∀ w ∈ gw, w.before _ s = true := fun w h => hts0 w (List.mem_cons_of_mem _ h)
  have hown : s.vm.findClass RX11 = some m.cls := findClass_of_methodNamed B.named
  have hlocks := B.notSynchronized
  subst hsz
  have hD := hD0.self (sz := s.heap.size)
  generalize hAe : va_A [(gx, .inr (11, [.ref gq1, .ref gq4, .ref gq13, .ref gq136, .ref gq137, .ref gq138, .ref gq172, .ref gq184, .ref gq150, .ref gq161, .int (-1)])), (gq150, .inr (2, [.int 0, .ref gq151, .ref gq152, .ref gq153, .ref gq154, .ref gq155, .ref gq156, .int 0, .ref gq157, .ref gq158, .ref gq159, .int 0, .ref gq160]))] s.heap.size = A at hD hE ⊢
  have hA : ∀ q : Nat, s.heap.size ≤ q → A q := fun q h => by rw [← hAe]; exact Or.inr h
  have hS : va_S A s.heap s.heap [] := va_S.rf
  have hP : va_P (dC, dI) cls [(gx, .inr (11, [.ref gq1, .ref gq4, .ref gq13, .ref gq136, .ref gq137, .ref gq138, .ref gq172, .ref gq184, .ref gq150, .ref gq161, .int (-1)])), (gq150, .inr (2, [.int 0, .ref gq151, .ref gq152, .ref gq153, .ref gq154, .ref gq155, .ref gq156, .int 0, .ref gq157, .ref gq158, .ref gq159, .int 0, .ref gq160]))] s.heap := hP
  have hl := lv_entry ([.ref gx, .int p0]) (n := 2) (Nat.le_of_ble_eq_true rfl)
  rw [lg_entry_eq]
  generalize (lg_sl ([.ref gx, .int p0]) ++ List.replicate (2 - (lg_sl ([.ref gx, .int p0])).length) Slot.unset).toArray = ls at hl ⊢
  have hl : lv_has ls 2 [(0, .ref gx), (1, .int p0)] := hl
  refine lv_aload_n hx hb dX11_parametersOf_0 rfl (lv_at hl 0 rfl) ?_
  refine lv_iload_n hx hb dX11_parametersOf_1 rfl (lv_at hl 1 rfl) ?_
  have hPc := hP.sub (ws' := [(gx, .inr (11, [.ref gq1, .ref gq4, .ref gq13, .ref gq136, .ref gq137, .ref gq138, .ref gq172, .ref gq184, .ref gq150, .ref gq161, .int (-1)])), (gq150, .inr (2, [.int 0, .ref gq151, .ref gq152, .ref gq153, .ref gq154, .ref gq155, .ref gq156, .int 0, .ref gq157, .ref gq158, .ref gq159, .int 0, .ref gq160]))]) [0, 1] rfl
  have hDc := hD.sub (ws' := [(gx, .inr (11, [.ref gq1, .ref gq4, .ref gq13, .ref gq136, .ref gq137, .ref gq138, .ref gq172, .ref gq184, .ref gq150, .ref gq161, .int (-1)])), (gq150, .inr (2, [.int 0, .ref gq151, .ref gq152, .ref gq153, .ref gq154, .ref gq155, .ref gq156, .int 0, .ref gq157, .ref gq158, .ref gq159, .int 0, .ref gq160]))]) [0, 1] (by decide) rfl
  have hKc := hK.sub (tys' := []) [] rfl
  have hFc := va_free (wc := [(gx, .inr (11, [.ref gq1, .ref gq4, .ref gq13, .ref gq136, .ref gq137, .ref gq138, .ref gq172, .ref gq184, .ref gq150, .ref gq161, .int (-1)])), (gq150, .inr (2, [.int 0, .ref gq151, .ref gq152, .ref gq153, .ref gq154, .ref gq155, .ref gq156, .int 0, .ref gq157, .ref gq158, .ref gq159, .int 0, .ref gq160]))]) hD hS hA [0, 1] rfl
  refine vx_callv (vx_runV (As := [.int p0]) (rest := []) ⟨hx, hb, hml, hown, hts⟩ (kX11_needFunction_n6 l dC dI (a0 := gx) (i1 := p0) (a2 := gq1) (a3 := gq4) (a4 := gq13) (a5 := gq136) (a6 := gq137) (a7 := gq138) (a8 := gq172) (a9 := gq184) (a10 := gq150) (a11 := gq161) (a33 := gq151) (a34 := gq152) (a35 := gq153) (a36 := gq154) (a37 := gq155) (a38 := gq156) (a39 := gq157) (a40 := gq158) (a41 := gq159) (a42 := gq160) (sz := _) (hl9 := hl9)) (cwV 1 hts (gi_V qw245 qw246 qw247 qw222 (gi_z qw244)) rfl rfl rfl (by decide +kernel) ⟨Nat.le_of_ble_eq_true rfl, Nat.le_of_ble_eq_true rfl⟩) ⟨PRE.blind, va_recv hKc hPc (ci := 11) (q0 := 0) rfl rfl, PRE.of hE hS hFc hPc hKc hDc⟩ rfl rfl hl.1 rfl (lv_room (Nat.le_of_ble_eq_true rfl)) dX11_parametersOf_2 ⟨Nat.le_of_ble_eq_true rfl, Nat.le_of_ble_eq_true rfl⟩) hS (fun q _ h => hFc q h) hFc (fun q _ h => hFc q h) (fun E ce q9 u t H locs ht hvm hw hB hz1 hk1 hS hce hcv hcl => ?_) (fun u t H locs ht hvm hw hB hz1 hk1 hS => hw.elim)
  obtain ⟨rfl, hB⟩ := hB
  obtain ⟨hP, hD, hK⟩ := JOIN (wr := []) hP hD hK [0, 1] [] [] rfl rfl (by decide) (by decide) rfl hk1 hFc ht hvm hB
  have hP : va_P (dC, dI) cls [(gx, .inr (11, [.ref gq1, .ref gq4, .ref gq13, .ref gq136, .ref gq137, .ref gq138, .ref gq172, .ref gq184, .ref gq150, .ref gq161, .int (-1)])), (gq150, .inr (2, [.int 0, .ref gq151, .ref gq152, .ref gq153, .ref gq154, .ref gq155, .ref gq156, .int 0, .ref gq157, .ref gq158, .ref gq159, .int 0, .ref gq160]))] H := hP
  have hD : va_D A [(gx, .inr (11, [.ref gq1, .ref gq4, .ref gq13, .ref gq136, .ref gq137, .ref gq138, .ref gq172, .ref gq184, .ref gq150, .ref gq161, .int (-1)])), (gq150, .inr (2, [.int 0, .ref gq151, .ref gq152, .ref gq153, .ref gq154, .ref gq155, .ref gq156, .int 0, .ref gq157, .ref gq158, .ref gq159, .int 0, .ref gq160]))] := hD
  have hK : va_K (dC, dI) cls [] s := hK
  refine vx_widen (k := 1) (n := 6) (Nat.le_of_ble_eq_true rfl) (Nat.le_of_ble_eq_true rfl) ?_
  have hP9 : va_P (dC, dI) cls [] H := hP.sub [] rfl
  have hD9 : va_D A [] := hD.sub [] (by decide) rfl
  have hK9 : va_K (dC, dI) cls [] s := hK.sub [] rfl
  exact vx_out (fun x hx9 => (hnt x hx9).elim) hlocks hce hcv hcl (fun t ht hal => ⟨(), trivial, ⟨rfl, ⟨by rw [ht]; exact hP9, va_K.moved hal hK9, hD9⟩⟩, hS.F ht⟩) hS.2.2 (Nat.le_of_ble_eq_true rfl) (Nat.le_of_ble_eq_true rfl)
set_option maxHeartbeats 4000000 in
set_option maxRecDepth 100000 in
theorem kX11_blocks {zs : Nat × Nat} (l : Launch) (dC : Nat → ClassId) (dI : Nat → Nat → Nat) (gx : Nat) (gq1 : Nat) (gq4 : Nat) (gq13 : Nat) (gq136 : Nat) (gq137 : Nat) (gq138 : Nat) (gq150 : Nat) (gq151 : Nat) (gq152 : Nat) (gq153 : Nat) (gq154 : Nat) (gq155 : Nat) (gq156 : Nat) (gq157 : Nat) (gq158 : Nat) (gq159 : Nat) (gq160 : Nat) (gq161 : Nat) (gq172 : Nat) (gq184 : Nat) (p0 : Int32) (sz : Nat) (hl9 : l.stackTraces = false)  : vx_Met l yX11_blocks (wz yX11_blocks cX11_blocks 2 (Option.some Jvm.ClassFile.FieldType.int)) ({ frames := 7, cells := 1, slots := 6, locals := 121 }) (va_Pc [.ref gx, .int p0] (PRE zs dC dI [(gx, .inr (11, [.ref gq1, .ref gq4, .ref gq13, .ref gq136, .ref gq137, .ref gq138, .ref gq172, .ref gq184, .ref gq150, .ref gq161, .int (-1)])), (gq150, .inr (2, [.int 0, .ref gq151, .ref gq152, .ref gq153, .ref gq154, .ref gq155, .ref gq156, .int 0, .ref gq157, .ref gq158, .ref gq159, .int 0, .ref gq160]))] [] sz)) (va_Qi (fun (_ : Int32) (_ : Unit) => False) (fun _ _ => True) (va_A [(gx, .inr (11, [.ref gq1, .ref gq4, .ref gq13, .ref gq136, .ref gq137, .ref gq138, .ref gq172, .ref gq184, .ref gq150, .ref gq161, .int (-1)])), (gq150, .inr (2, [.int 0, .ref gq151, .ref gq152, .ref gq153, .ref gq154, .ref gq155, .ref gq156, .int 0, .ref gq157, .ref gq158, .ref gq159, .int 0, .ref gq160]))] sz)) (vx_X (fun (_ : Unit) => True) (fun E _ t => E = "java/lang/IndexOutOfBoundsException" ∧ POST dC dI [] [] (va_A [(gx, .inr (11, [.ref gq1, .ref gq4, .ref gq13, .ref gq136, .ref gq137, .ref gq138, .ref gq172, .ref gq184, .ref gq150, .ref gq161, .int (-1)])), (gq150, .inr (2, [.int 0, .ref gq151, .ref gq152, .ref gq153, .ref gq154, .ref gq155, .ref gq156, .int 0, .ref gq157, .ref gq158, .ref gq159, .int 0, .ref gq160]))] sz) t) (va_A [(gx, .inr (11, [.ref gq1, .ref gq4, .ref gq13, .ref gq136, .ref gq137, .ref gq138, .ref gq172, .ref gq184, .ref gq150, .ref gq161, .int (-1)])), (gq150, .inr (2, [.int 0, .ref gq151, .ref gq152, .ref gq153, .ref gq154, .ref gq155, .ref gq156, .int 0, .ref gq157, .ref gq158, .ref gq159, .int 0, .ref gq160]))] sz)) 1 6 (va_A [(gx, .inr (11, [.ref gq1, .ref gq4, .ref gq13, .ref gq136, .ref gq137, .ref gq138, .ref gq172, .ref gq184, .ref gq150, .ref gq161, .int (-1)])), (gq150, .inr (2, [.int 0, .ref gq151, .ref gq152, .ref gq153, .ref gq154, .ref gq155, .ref gq156, .int 0, .ref gq157, .ref gq158, .ref gq159, .int 0, .ref gq160]))] sz) := by
  refine vx_ofW (cc := cX11_blocks) (maxL := 2) (ret := (Option.some Jvm.ClassFile.FieldType.int)) (by decide) rfl ?_
  intro p e s m args below meth c s₁ B hml hnt hv
  obtain ⟨rfl, hsz, hP, hK, hD0, hE⟩ := hv
  have hx := B.exec
  have hb := B.bytes
  have hr := B.returns
  have hts0 := atoms_spec (ws := wz yX11_blocks cX11_blocks 2 (Option.some Jvm.ClassFile.FieldType.int)) B.pre
  have hts : ∀ w ∈ gw, w.before _ s = true := fun w h => hts0 w (List.mem_cons_of_mem _ h)
  have hown : s.vm.findClass RX11 = some m.cls := findClass_of_methodNamed B.named
  have hlocks := B.notSynchronized
  subst hsz
  have hD := hD0.self (sz := s.heap.size)
  generalize hAe : va_A [(gx, .inr (11, [.ref gq1, .ref gq4, .ref gq13, .ref gq136, .ref gq137, .ref gq138, .ref gq172, .ref gq184, .ref gq150, .ref gq161, .int (-1)])), (gq150, .inr (2, [.int 0, .ref gq151, .ref gq152, .ref gq153, .ref gq154, .ref gq155, .ref gq156, .int 0, .ref gq157, .ref gq158, .ref gq159, .int 0, .ref gq160]))] s.heap.size = A at hD hE ⊢
  have hA : ∀ q : Nat, s.heap.size ≤ q → A q := fun q h => by rw [← hAe]; exact Or.inr h
  have hS : va_S A s.heap s.heap [] := va_S.rf
  have hP : va_P (dC, dI) cls [(gx, .inr (11, [.ref gq1, .ref gq4, .ref gq13, .ref gq136, .ref gq137, .ref gq138, .ref gq172, .ref gq184, .ref gq150, .ref gq161, .int (-1)])), (gq150, .inr (2, [.int 0, .ref gq151, .ref gq152, .ref gq153, .ref gq154, .ref gq155, .ref gq156, .int 0, .ref gq157, .ref gq158, .ref gq159, .int 0, .ref gq160]))] s.heap := hP
  have hl := lv_entry ([.ref gx, .int p0]) (n := 2) (Nat.le_of_ble_eq_true rfl)
  rw [lg_entry_eq]
  generalize (lg_sl ([.ref gx, .int p0]) ++ List.replicate (2 - (lg_sl ([.ref gx, .int p0])).length) Slot.unset).toArray = ls at hl ⊢
  have hl : lv_has ls 2 [(0, .ref gx), (1, .int p0)] := hl
  refine lv_aload_n hx hb dX11_blocks_0 rfl (lv_at hl 0 rfl) ?_
  refine lv_iload_n hx hb dX11_blocks_1 rfl (lv_at hl 1 rfl) ?_
  have hPc := hP.sub (ws' := [(gx, .inr (11, [.ref gq1, .ref gq4, .ref gq13, .ref gq136, .ref gq137, .ref gq138, .ref gq172, .ref gq184, .ref gq150, .ref gq161, .int (-1)])), (gq150, .inr (2, [.int 0, .ref gq151, .ref gq152, .ref gq153, .ref gq154, .ref gq155, .ref gq156, .int 0, .ref gq157, .ref gq158, .ref gq159, .int 0, .ref gq160]))]) [0, 1] rfl
  have hDc := hD.sub (ws' := [(gx, .inr (11, [.ref gq1, .ref gq4, .ref gq13, .ref gq136, .ref gq137, .ref gq138, .ref gq172, .ref gq184, .ref gq150, .ref gq161, .int (-1)])), (gq150, .inr (2, [.int 0, .ref gq151, .ref gq152, .ref gq153, .ref gq154, .ref gq155, .ref gq156, .int 0, .ref gq157, .ref gq158, .ref gq159, .int 0, .ref gq160]))]) [0, 1] (by decide) rfl
  have hKc := hK.sub (tys' := []) [] rfl
  have hFc := va_free (wc := [(gx, .inr (11, [.ref gq1, .ref gq4, .ref gq13, .ref gq136, .ref gq137, .ref gq138, .ref gq172, .ref gq184, .ref gq150, .ref gq161, .int (-1)])), (gq150, .inr (2, [.int 0, .ref gq151, .ref gq152, .ref gq153, .ref gq154, .ref gq155, .ref gq156, .int 0, .ref gq157, .ref gq158, .ref gq159, .int 0, .ref gq160]))]) hD hS hA [0, 1] rfl
  refine vx_callv (vx_runV (As := [.int p0]) (rest := []) ⟨hx, hb, hml, hown, hts⟩ (kX11_needFunction_n6 l dC dI (a0 := gx) (i1 := p0) (a2 := gq1) (a3 := gq4) (a4 := gq13) (a5 := gq136) (a6 := gq137) (a7 := gq138) (a8 := gq172) (a9 := gq184) (a10 := gq150) (a11 := gq161) (a33 := gq151) (a34 := gq152) (a35 := gq153) (a36 := gq154) (a37 := gq155) (a38 := gq156) (a39 := gq157) (a40 := gq158) (a41 := gq159) (a42 := gq160) (sz := _) (hl9 := hl9)) (cwV 1 hts (gi_V qw245 qw246 qw247 qw222 (gi_z qw244)) rfl rfl rfl (by decide +kernel) ⟨Nat.le_of_ble_eq_true rfl, Nat.le_of_ble_eq_true rfl⟩) ⟨PRE.blind, va_recv hKc hPc (ci := 11) (q0 := 0) rfl rfl, PRE.of hE hS hFc hPc hKc hDc⟩ rfl rfl hl.1 rfl (lv_room (Nat.le_of_ble_eq_true rfl)) dX11_blocks_2 ⟨Nat.le_of_ble_eq_true rfl, Nat.le_of_ble_eq_true rfl⟩) hS (fun q _ h => hFc q h) hFc (fun q _ h => hFc q h) (fun E ce q9 u t H locs ht hvm hw hB hz1 hk1 hS hce hcv hcl => ?_) (fun u t H locs ht hvm hw hB hz1 hk1 hS => hw.elim)
  obtain ⟨rfl, hB⟩ := hB
  obtain ⟨hP, hD, hK⟩ := JOIN (wr := []) hP hD hK [0, 1] [] [] rfl rfl (by decide) (by decide) rfl hk1 hFc ht hvm hB
  have hP : va_P (dC, dI) cls [(gx, .inr (11, [.ref gq1, .ref gq4, .ref gq13, .ref gq136, .ref gq137, .ref gq138, .ref gq172, .ref gq184, .ref gq150, .ref gq161, .int (-1)])), (gq150, .inr (2, [.int 0, .ref gq151, .ref gq152, .ref gq153, .ref gq154, .ref gq155, .ref gq156, .int 0, .ref gq157, .ref gq158, .ref gq159, .int 0, .ref gq160]))] H := hP
  have hD : va_D A [(gx, .inr (11, [.ref gq1, .ref gq4, .ref gq13, .ref gq136, .ref gq137, .ref gq138, .ref gq172, .ref gq184, .ref gq150, .ref gq161, .int (-1)])), (gq150, .inr (2, [.int 0, .ref gq151, .ref gq152, .ref gq153, .ref gq154, .ref gq155, .ref gq156, .int 0, .ref gq157, .ref gq158, .ref gq159, .int 0, .ref gq160]))] := hD
  have hK : va_K (dC, dI) cls [] s := hK
  refine vx_widen (k := 1) (n := 6) (Nat.le_of_ble_eq_true rfl) (Nat.le_of_ble_eq_true rfl) ?_
  have hP9 : va_P (dC, dI) cls [] H := hP.sub [] rfl
  have hD9 : va_D A [] := hD.sub [] (by decide) rfl
  have hK9 : va_K (dC, dI) cls [] s := hK.sub [] rfl
  exact vx_out (fun x hx9 => (hnt x hx9).elim) hlocks hce hcv hcl (fun t ht hal => ⟨(), trivial, ⟨rfl, ⟨by rw [ht]; exact hP9, va_K.moved hal hK9, hD9⟩⟩, hS.F ht⟩) hS.2.2 (Nat.le_of_ble_eq_true rfl) (Nat.le_of_ble_eq_true rfl)
set_option maxHeartbeats 4000000 in
set_option maxRecDepth 100000 in
theorem kX11_values {zs : Nat × Nat} (l : Launch) (dC : Nat → ClassId) (dI : Nat → Nat → Nat) (gx : Nat) (gq1 : Nat) (gq4 : Nat) (gq13 : Nat) (gq136 : Nat) (gq137 : Nat) (gq138 : Nat) (gq150 : Nat) (gq151 : Nat) (gq152 : Nat) (gq153 : Nat) (gq154 : Nat) (gq155 : Nat) (gq156 : Nat) (gq157 : Nat) (gq158 : Nat) (gq159 : Nat) (gq160 : Nat) (gq161 : Nat) (gq172 : Nat) (gq184 : Nat) (p0 : Int32) (sz : Nat) (hl9 : l.stackTraces = false)  : vx_Met l yX11_values (wz yX11_values cX11_values 2 (Option.some Jvm.ClassFile.FieldType.int)) ({ frames := 7, cells := 1, slots := 6, locals := 121 }) (va_Pc [.ref gx, .int p0] (PRE zs dC dI [(gx, .inr (11, [.ref gq1, .ref gq4, .ref gq13, .ref gq136, .ref gq137, .ref gq138, .ref gq172, .ref gq184, .ref gq150, .ref gq161, .int (-1)])), (gq150, .inr (2, [.int 0, .ref gq151, .ref gq152, .ref gq153, .ref gq154, .ref gq155, .ref gq156, .int 0, .ref gq157, .ref gq158, .ref gq159, .int 0, .ref gq160]))] [] sz)) (va_Qi (fun (_ : Int32) (_ : Unit) => False) (fun _ _ => True) (va_A [(gx, .inr (11, [.ref gq1, .ref gq4, .ref gq13, .ref gq136, .ref gq137, .ref gq138, .ref gq172, .ref gq184, .ref gq150, .ref gq161, .int (-1)])), (gq150, .inr (2, [.int 0, .ref gq151, .ref gq152, .ref gq153, .ref gq154, .ref gq155, .ref gq156, .int 0, .ref gq157, .ref gq158, .ref gq159, .int 0, .ref gq160]))] sz)) (vx_X (fun (_ : Unit) => True) (fun E _ t => E = "java/lang/IndexOutOfBoundsException" ∧ POST dC dI [] [] (va_A [(gx, .inr (11, [.ref gq1, .ref gq4, .ref gq13, .ref gq136, .ref gq137, .ref gq138, .ref gq172, .ref gq184, .ref gq150, .ref gq161, .int (-1)])), (gq150, .inr (2, [.int 0, .ref gq151, .ref gq152, .ref gq153, .ref gq154, .ref gq155, .ref gq156, .int 0, .ref gq157, .ref gq158, .ref gq159, .int 0, .ref gq160]))] sz) t) (va_A [(gx, .inr (11, [.ref gq1, .ref gq4, .ref gq13, .ref gq136, .ref gq137, .ref gq138, .ref gq172, .ref gq184, .ref gq150, .ref gq161, .int (-1)])), (gq150, .inr (2, [.int 0, .ref gq151, .ref gq152, .ref gq153, .ref gq154, .ref gq155, .ref gq156, .int 0, .ref gq157, .ref gq158, .ref gq159, .int 0, .ref gq160]))] sz)) 1 6 (va_A [(gx, .inr (11, [.ref gq1, .ref gq4, .ref gq13, .ref gq136, .ref gq137, .ref gq138, .ref gq172, .ref gq184, .ref gq150, .ref gq161, .int (-1)])), (gq150, .inr (2, [.int 0, .ref gq151, .ref gq152, .ref gq153, .ref gq154, .ref gq155, .ref gq156, .int 0, .ref gq157, .ref gq158, .ref gq159, .int 0, .ref gq160]))] sz) := by
  refine vx_ofW (cc := cX11_values) (maxL := 2) (ret := (Option.some Jvm.ClassFile.FieldType.int)) (by decide) rfl ?_
  intro p e s m args below meth c s₁ B hml hnt hv
  obtain ⟨rfl, hsz, hP, hK, hD0, hE⟩ := hv
  have hx := B.exec
  have hb := B.bytes
  have hr := B.returns
  have hts0 := atoms_spec (ws := wz yX11_values cX11_values 2 (Option.some Jvm.ClassFile.FieldType.int)) B.pre
  have hts : ∀ w ∈ gw, w.before _ s = true := fun w h => hts0 w (List.mem_cons_of_mem _ h)
  have hown : s.vm.findClass RX11 = some m.cls := findClass_of_methodNamed B.named
  have hlocks := B.notSynchronized
  subst hsz
  have hD := hD0.self (sz := s.heap.size)
  generalize hAe : va_A [(gx, .inr (11, [.ref gq1, .ref gq4, .ref gq13, .ref gq136, .ref gq137, .ref gq138, .ref gq172, .ref gq184, .ref gq150, .ref gq161, .int (-1)])), (gq150, .inr (2, [.int 0, .ref gq151, .ref gq152, .ref gq153, .ref gq154, .ref gq155, .ref gq156, .int 0, .ref gq157, .ref gq158, .ref gq159, .int 0, .ref gq160]))] s.heap.size = A at hD hE ⊢
  have hA : ∀ q : Nat, s.heap.size ≤ q → A q := fun q h => by rw [← hAe]; exact Or.inr h
  have hS : va_S A s.heap s.heap [] := va_S.rf
  have hP : va_P (dC, dI) cls [(gx, .inr (11, [.ref gq1, .ref gq4, .ref gq13, .ref gq136, .ref gq137, .ref gq138, .ref gq172, .ref gq184, .ref gq150, .ref gq161, .int (-1)])), (gq150, .inr (2, [.int 0, .ref gq151, .ref gq152, .ref gq153, .ref gq154, .ref gq155, .ref gq156, .int 0, .ref gq157, .ref gq158, .ref gq159, .int 0, .ref gq160]))] s.heap := hP
  have hl := lv_entry ([.ref gx, .int p0]) (n := 2) (Nat.le_of_ble_eq_true rfl)
  rw [lg_entry_eq]
  generalize (lg_sl ([.ref gx, .int p0]) ++ List.replicate (2 - (lg_sl ([.ref gx, .int p0])).length) Slot.unset).toArray = ls at hl ⊢
  have hl : lv_has ls 2 [(0, .ref gx), (1, .int p0)] := hl
  refine lv_aload_n hx hb dX11_values_0 rfl (lv_at hl 0 rfl) ?_
  refine lv_iload_n hx hb dX11_values_1 rfl (lv_at hl 1 rfl) ?_
  have hPc := hP.sub (ws' := [(gx, .inr (11, [.ref gq1, .ref gq4, .ref gq13, .ref gq136, .ref gq137, .ref gq138, .ref gq172, .ref gq184, .ref gq150, .ref gq161, .int (-1)])), (gq150, .inr (2, [.int 0, .ref gq151, .ref gq152, .ref gq153, .ref gq154, .ref gq155, .ref gq156, .int 0, .ref gq157, .ref gq158, .ref gq159, .int 0, .ref gq160]))]) [0, 1] rfl
  have hDc := hD.sub (ws' := [(gx, .inr (11, [.ref gq1, .ref gq4, .ref gq13, .ref gq136, .ref gq137, .ref gq138, .ref gq172, .ref gq184, .ref gq150, .ref gq161, .int (-1)])), (gq150, .inr (2, [.int 0, .ref gq151, .ref gq152, .ref gq153, .ref gq154, .ref gq155, .ref gq156, .int 0, .ref gq157, .ref gq158, .ref gq159, .int 0, .ref gq160]))]) [0, 1] (by decide) rfl
  have hKc := hK.sub (tys' := []) [] rfl
  have hFc := va_free (wc := [(gx, .inr (11, [.ref gq1, .ref gq4, .ref gq13, .ref gq136, .ref gq137, .ref gq138, .ref gq172, .ref gq184, .ref gq150, .ref gq161, .int (-1)])), (gq150, .inr (2, [.int 0, .ref gq151, .ref gq152, .ref gq153, .ref gq154, .ref gq155, .ref gq156, .int 0, .ref gq157, .ref gq158, .ref gq159, .int 0, .ref gq160]))]) hD hS hA [0, 1] rfl
  refine vx_callv (vx_runV (As := [.int p0]) (rest := []) ⟨hx, hb, hml, hown, hts⟩ (kX11_needFunction_n6 l dC dI (a0 := gx) (i1 := p0) (a2 := gq1) (a3 := gq4) (a4 := gq13) (a5 := gq136) (a6 := gq137) (a7 := gq138) (a8 := gq172) (a9 := gq184) (a10 := gq150) (a11 := gq161) (a33 := gq151) (a34 := gq152) (a35 := gq153) (a36 := gq154) (a37 := gq155) (a38 := gq156) (a39 := gq157) (a40 := gq158) (a41 := gq159) (a42 := gq160) (sz := _) (hl9 := hl9)) (cwV 1 hts (gi_V qw245 qw246 qw247 qw222 (gi_z qw244)) rfl rfl rfl (by decide +kernel) ⟨Nat.le_of_ble_eq_true rfl, Nat.le_of_ble_eq_true rfl⟩) ⟨PRE.blind, va_recv hKc hPc (ci := 11) (q0 := 0) rfl rfl, PRE.of hE hS hFc hPc hKc hDc⟩ rfl rfl hl.1 rfl (lv_room (Nat.le_of_ble_eq_true rfl)) dX11_values_2 ⟨Nat.le_of_ble_eq_true rfl, Nat.le_of_ble_eq_true rfl⟩) hS (fun q _ h => hFc q h) hFc (fun q _ h => hFc q h) (fun E ce q9 u t H locs ht hvm hw hB hz1 hk1 hS hce hcv hcl => ?_) (fun u t H locs ht hvm hw hB hz1 hk1 hS => hw.elim)
  obtain ⟨rfl, hB⟩ := hB
  obtain ⟨hP, hD, hK⟩ := JOIN (wr := []) hP hD hK [0, 1] [] [] rfl rfl (by decide) (by decide) rfl hk1 hFc ht hvm hB
  have hP : va_P (dC, dI) cls [(gx, .inr (11, [.ref gq1, .ref gq4, .ref gq13, .ref gq136, .ref gq137, .ref gq138, .ref gq172, .ref gq184, .ref gq150, .ref gq161, .int (-1)])), (gq150, .inr (2, [.int 0, .ref gq151, .ref gq152, .ref gq153, .ref gq154, .ref gq155, .ref gq156, .int 0, .ref gq157, .ref gq158, .ref gq159, .int 0, .ref gq160]))] H := hP
  have hD : va_D A [(gx, .inr (11, [.ref gq1, .ref gq4, .ref gq13, .ref gq136, .ref gq137, .ref gq138, .ref gq172, .ref gq184, .ref gq150, .ref gq161, .int (-1)])), (gq150, .inr (2, [.int 0, .ref gq151, .ref gq152, .ref gq153, .ref gq154, .ref gq155, .ref gq156, .int 0, .ref gq157, .ref gq158, .ref gq159, .int 0, .ref gq160]))] := hD
  have hK : va_K (dC, dI) cls [] s := hK
  refine vx_widen (k := 1) (n := 6) (Nat.le_of_ble_eq_true rfl) (Nat.le_of_ble_eq_true rfl) ?_
  have hP9 : va_P (dC, dI) cls [] H := hP.sub [] rfl
  have hD9 : va_D A [] := hD.sub [] (by decide) rfl
  have hK9 : va_K (dC, dI) cls [] s := hK.sub [] rfl
  exact vx_out (fun x hx9 => (hnt x hx9).elim) hlocks hce hcv hcl (fun t ht hal => ⟨(), trivial, ⟨rfl, ⟨by rw [ht]; exact hP9, va_K.moved hal hK9, hD9⟩⟩, hS.F ht⟩) hS.2.2 (Nat.le_of_ble_eq_true rfl) (Nat.le_of_ble_eq_true rfl)
set_option maxHeartbeats 4000000 in
set_option maxRecDepth 100000 in
theorem kX11_blockOf {zs : Nat × Nat} (l : Launch) (dC : Nat → ClassId) (dI : Nat → Nat → Nat) (gx : Nat) (gq1 : Nat) (gq4 : Nat) (gq13 : Nat) (gq136 : Nat) (gq137 : Nat) (gq138 : Nat) (gq150 : Nat) (gq151 : Nat) (gq152 : Nat) (gq153 : Nat) (gq154 : Nat) (gq155 : Nat) (gq156 : Nat) (gq157 : Nat) (gq158 : Nat) (gq159 : Nat) (gq160 : Nat) (gq161 : Nat) (gq172 : Nat) (gq184 : Nat) (p0 : Int32) (p1 : Int32) (sz : Nat) (hl9 : l.stackTraces = false)  : vx_Met l yX11_blockOf (wz yX11_blockOf cX11_blockOf 3 (Option.some Jvm.ClassFile.FieldType.int)) ({ frames := 7, cells := 1, slots := 6, locals := 121 }) (va_Pc [.ref gx, .int p0, .int p1] (PRE zs dC dI [(gx, .inr (11, [.ref gq1, .ref gq4, .ref gq13, .ref gq136, .ref gq137, .ref gq138, .ref gq172, .ref gq184, .ref gq150, .ref gq161, .int (-1)])), (gq150, .inr (2, [.int 0, .ref gq151, .ref gq152, .ref gq153, .ref gq154, .ref gq155, .ref gq156, .int 0, .ref gq157, .ref gq158, .ref gq159, .int 0, .ref gq160]))] [] sz)) (va_Qi (fun (_ : Int32) (_ : Unit) => False) (fun _ _ => True) (va_A [(gx, .inr (11, [.ref gq1, .ref gq4, .ref gq13, .ref gq136, .ref gq137, .ref gq138, .ref gq172, .ref gq184, .ref gq150, .ref gq161, .int (-1)])), (gq150, .inr (2, [.int 0, .ref gq151, .ref gq152, .ref gq153, .ref gq154, .ref gq155, .ref gq156, .int 0, .ref gq157, .ref gq158, .ref gq159, .int 0, .ref gq160]))] sz)) (vx_X (fun (_ : Unit) => True) (fun E _ t => E = "java/lang/IndexOutOfBoundsException" ∧ POST dC dI [] [] (va_A [(gx, .inr (11, [.ref gq1, .ref gq4, .ref gq13, .ref gq136, .ref gq137, .ref gq138, .ref gq172, .ref gq184, .ref gq150, .ref gq161, .int (-1)])), (gq150, .inr (2, [.int 0, .ref gq151, .ref gq152, .ref gq153, .ref gq154, .ref gq155, .ref gq156, .int 0, .ref gq157, .ref gq158, .ref gq159, .int 0, .ref gq160]))] sz) t) (va_A [(gx, .inr (11, [.ref gq1, .ref gq4, .ref gq13, .ref gq136, .ref gq137, .ref gq138, .ref gq172, .ref gq184, .ref gq150, .ref gq161, .int (-1)])), (gq150, .inr (2, [.int 0, .ref gq151, .ref gq152, .ref gq153, .ref gq154, .ref gq155, .ref gq156, .int 0, .ref gq157, .ref gq158, .ref gq159, .int 0, .ref gq160]))] sz)) 1 6 (va_A [(gx, .inr (11, [.ref gq1, .ref gq4, .ref gq13, .ref gq136, .ref gq137, .ref gq138, .ref gq172, .ref gq184, .ref gq150, .ref gq161, .int (-1)])), (gq150, .inr (2, [.int 0, .ref gq151, .ref gq152, .ref gq153, .ref gq154, .ref gq155, .ref gq156, .int 0, .ref gq157, .ref gq158, .ref gq159, .int 0, .ref gq160]))] sz) := by
  refine vx_ofW (cc := cX11_blockOf) (maxL := 3) (ret := (Option.some Jvm.ClassFile.FieldType.int)) (by decide) rfl ?_
  intro p e s m args below meth c s₁ B hml hnt hv
  obtain ⟨rfl, hsz, hP, hK, hD0, hE⟩ := hv
  have hx := B.exec
  have hb := B.bytes
  have hr := B.returns
  have hts0 := atoms_spec (ws := wz yX11_blockOf cX11_blockOf 3 (Option.some Jvm.ClassFile.FieldType.int)) B.pre
  have hts : ∀ w ∈ gw, w.before _ s = true := fun w h => hts0 w (List.mem_cons_of_mem _ h)
  have hown : s.vm.findClass RX11 = some m.cls := findClass_of_methodNamed B.named
  have hlocks := B.notSynchronized
  subst hsz
  have hD := hD0.self (sz := s.heap.size)
  generalize hAe : va_A [(gx, .inr (11, [.ref gq1, .ref gq4, .ref gq13, .ref gq136, .ref gq137, .ref gq138, .ref gq172, .ref gq184, .ref gq150, .ref gq161, .int (-1)])), (gq150, .inr (2, [.int 0, .ref gq151, .ref gq152, .ref gq153, .ref gq154, .ref gq155, .ref gq156, .int 0, .ref gq157, .ref gq158, .ref gq159, .int 0, .ref gq160]))] s.heap.size = A at hD hE ⊢
  have hA : ∀ q : Nat, s.heap.size ≤ q → A q := fun q h => by rw [← hAe]; exact Or.inr h
  have hS : va_S A s.heap s.heap [] := va_S.rf
  have hP : va_P (dC, dI) cls [(gx, .inr (11, [.ref gq1, .ref gq4, .ref gq13, .ref gq136, .ref gq137, .ref gq138, .ref gq172, .ref gq184, .ref gq150, .ref gq161, .int (-1)])), (gq150, .inr (2, [.int 0, .ref gq151, .ref gq152, .ref gq153, .ref gq154, .ref gq155, .ref gq156, .int 0, .ref gq157, .ref gq158, .ref gq159, .int 0, .ref gq160]))] s.heap := hP
  have hl := lv_entry ([.ref gx, .int p0, .int p1]) (n := 3) (Nat.le_of_ble_eq_true rfl)
  rw [lg_entry_eq]
  generalize (lg_sl ([.ref gx, .int p0, .int p1]) ++ List.replicate (3 - (lg_sl ([.ref gx, .int p0, .int p1])).length) Slot.unset).toArray = ls at hl ⊢
  have hl : lv_has ls 3 [(0, .ref gx), (1, .int p0), (2, .int p1)] := hl
  refine lv_aload_n hx hb dX11_blockOf_0 rfl (lv_at hl 0 rfl) ?_
  refine lv_iload_n hx hb dX11_blockOf_1 rfl (lv_at hl 1 rfl) ?_
  have hPc := hP.sub (ws' := [(gx, .inr (11, [.ref gq1, .ref gq4, .ref gq13, .ref gq136, .ref gq137, .ref gq138, .ref gq172, .ref gq184, .ref gq150, .ref gq161, .int (-1)])), (gq150, .inr (2, [.int 0, .ref gq151, .ref gq152, .ref gq153, .ref gq154, .ref gq155, .ref gq156, .int 0, .ref gq157, .ref gq158, .ref gq159, .int 0, .ref gq160]))]) [0, 1] rfl
  have hDc := hD.sub (ws' := [(gx, .inr (11, [.ref gq1, .ref gq4, .ref gq13, .ref gq136, .ref gq137, .ref gq138, .ref gq172, .ref gq184, .ref gq150, .ref gq161, .int (-1)])), (gq150, .inr (2, [.int 0, .ref gq151, .ref gq152, .ref gq153, .ref gq154, .ref gq155, .ref gq156, .int 0, .ref gq157, .ref gq158, .ref gq159, .int 0, .ref gq160]))]) [0, 1] (by decide) rfl
  have hKc := hK.sub (tys' := []) [] rfl
  have hFc := va_free (wc := [(gx, .inr (11, [.ref gq1, .ref gq4, .ref gq13, .ref gq136, .ref gq137, .ref gq138, .ref gq172, .ref gq184, .ref gq150, .ref gq161, .int (-1)])), (gq150, .inr (2, [.int 0, .ref gq151, .ref gq152, .ref gq153, .ref gq154, .ref gq155, .ref gq156, .int 0, .ref gq157, .ref gq158, .ref gq159, .int 0, .ref gq160]))]) hD hS hA [0, 1] rfl
  refine vx_callv (vx_runV (As := [.int p0]) (rest := []) ⟨hx, hb, hml, hown, hts⟩ (kX11_needFunction_n6 l dC dI (a0 := gx) (i1 := p0) (a2 := gq1) (a3 := gq4) (a4 := gq13) (a5 := gq136) (a6 := gq137) (a7 := gq138) (a8 := gq172) (a9 := gq184) (a10 := gq150) (a11 := gq161) (a33 := gq151) (a34 := gq152) (a35 := gq153) (a36 := gq154) (a37 := gq155) (a38 := gq156) (a39 := gq157) (a40 := gq158) (a41 := gq159) (a42 := gq160) (sz := _) (hl9 := hl9)) (cwV 1 hts (gi_V qw245 qw246 qw247 qw222 (gi_z qw244)) rfl rfl rfl (by decide +kernel) ⟨Nat.le_of_ble_eq_true rfl, Nat.le_of_ble_eq_true rfl⟩) ⟨PRE.blind, va_recv hKc hPc (ci := 11) (q0 := 0) rfl rfl, PRE.of hE hS hFc hPc hKc hDc⟩ rfl rfl hl.1 rfl (lv_room (Nat.le_of_ble_eq_true rfl)) dX11_blockOf_2 ⟨Nat.le_of_ble_eq_true rfl, Nat.le_of_ble_eq_true rfl⟩) hS (fun q _ h => hFc q h) hFc (fun q _ h => hFc q h) (fun E ce q9 u t H locs ht hvm hw hB hz1 hk1 hS hce hcv hcl => ?_) (fun u t H locs ht hvm hw hB hz1 hk1 hS => hw.elim)
  obtain ⟨rfl, hB⟩ := hB
  obtain ⟨hP, hD, hK⟩ := JOIN (wr := []) hP hD hK [0, 1] [] [] rfl rfl (by decide) (by decide) rfl hk1 hFc ht hvm hB
  have hP : va_P (dC, dI) cls [(gx, .inr (11, [.ref gq1, .ref gq4, .ref gq13, .ref gq136, .ref gq137, .ref gq138, .ref gq172, .ref gq184, .ref gq150, .ref gq161, .int (-1)])), (gq150, .inr (2, [.int 0, .ref gq151, .ref gq152, .ref gq153, .ref gq154, .ref gq155, .ref gq156, .int 0, .ref gq157, .ref gq158, .ref gq159, .int 0, .ref gq160]))] H := hP
  have hD : va_D A [(gx, .inr (11, [.ref gq1, .ref gq4, .ref gq13, .ref gq136, .ref gq137, .ref gq138, .ref gq172, .ref gq184, .ref gq150, .ref gq161, .int (-1)])), (gq150, .inr (2, [.int 0, .ref gq151, .ref gq152, .ref gq153, .ref gq154, .ref gq155, .ref gq156, .int 0, .ref gq157, .ref gq158, .ref gq159, .int 0, .ref gq160]))] := hD
  have hK : va_K (dC, dI) cls [] s := hK
  refine vx_widen (k := 1) (n := 6) (Nat.le_of_ble_eq_true rfl) (Nat.le_of_ble_eq_true rfl) ?_
  have hP9 : va_P (dC, dI) cls [] H := hP.sub [] rfl
  have hD9 : va_D A [] := hD.sub [] (by decide) rfl
  have hK9 : va_K (dC, dI) cls [] s := hK.sub [] rfl
  exact vx_out (fun x hx9 => (hnt x hx9).elim) hlocks hce hcv hcl (fun t ht hal => ⟨(), trivial, ⟨rfl, ⟨by rw [ht]; exact hP9, va_K.moved hal hK9, hD9⟩⟩, hS.F ht⟩) hS.2.2 (Nat.le_of_ble_eq_true rfl) (Nat.le_of_ble_eq_true rfl)
set_option maxHeartbeats 4000000 in
set_option maxRecDepth 100000 in
/-- Gearbox.flowWith, from the state that its caller has -/
theorem kX11_flowWith_n7 {zs : Nat × Nat} (l : Launch) (dC : Nat → ClassId) (dI : Nat → Nat → Nat) (a0 : Nat) (i1 : Int32) (i2 : Int32) (a3 : Nat) (a4 : Nat) (a5 : Nat) (a6 : Nat) (a7 : Nat) (a8 : Nat) (a9 : Nat) (a10 : Nat) (a11 : Nat) (a12 : Nat) (a34 : Nat) (a35 : Nat) (a36 : Nat) (a37 : Nat) (a38 : Nat) (a39 : Nat) (a40 : Nat) (a41 : Nat) (a42 : Nat) (a43 : Nat) (sz : Nat) (hl9 : l.stackTraces = false)  : vx_Met l yX11_flowWith (wz yX11_flowWith cX11_flowWith 3 (Option.some (Jvm.ClassFile.FieldType.object "Gearbox$Flow"))) ({ frames := 7, cells := 1, slots := 6, locals := 121 }) (va_Pc [.ref a0, .int i1, .int i2] (PRE zs dC dI [(a0, .inr (11, [.ref a3, .ref a4, .ref a5, .ref a6, .ref a7, .ref a8, .ref a9, .ref a10, .ref a11, .ref a12, .int (-1)])), (a11, .inr (2, [.int 0, .ref a34, .ref a35, .ref a36, .ref a37, .ref a38, .ref a39, .int 0, .ref a40, .ref a41, .ref a42, .int 0, .ref a43]))] [] sz)) (va_Qr (fun (_ : Unit) => False) (fun _ _ _ => True) (va_A [(a0, .inr (11, [.ref a3, .ref a4, .ref a5, .ref a6, .ref a7, .ref a8, .ref a9, .ref a10, .ref a11, .ref a12, .int (-1)])), (a11, .inr (2, [.int 0, .ref a34, .ref a35, .ref a36, .ref a37, .ref a38, .ref a39, .int 0, .ref a40, .ref a41, .ref a42, .int 0, .ref a43]))] sz)) (vx_X (fun (_ : Unit) => True) (fun E _ t => E = "java/lang/IndexOutOfBoundsException" ∧ POST dC dI [(a0, .inr (11, [.ref a3, .ref a4, .ref a5, .ref a6, .ref a7, .ref a8, .ref a9, .ref a10, .ref a11, .ref a12, .int (-1)])), (a11, .inr (2, [.int 0, .ref a34, .ref a35, .ref a36, .ref a37, .ref a38, .ref a39, .int 0, .ref a40, .ref a41, .ref a42, .int 0, .ref a43]))] [] (va_A [(a0, .inr (11, [.ref a3, .ref a4, .ref a5, .ref a6, .ref a7, .ref a8, .ref a9, .ref a10, .ref a11, .ref a12, .int (-1)])), (a11, .inr (2, [.int 0, .ref a34, .ref a35, .ref a36, .ref a37, .ref a38, .ref a39, .int 0, .ref a40, .ref a41, .ref a42, .int 0, .ref a43]))] sz) t) (va_A [(a0, .inr (11, [.ref a3, .ref a4, .ref a5, .ref a6, .ref a7, .ref a8, .ref a9, .ref a10, .ref a11, .ref a12, .int (-1)])), (a11, .inr (2, [.int 0, .ref a34, .ref a35, .ref a36, .ref a37, .ref a38, .ref a39, .int 0, .ref a40, .ref a41, .ref a42, .int 0, .ref a43]))] sz)) 1 6 (va_A [(a0, .inr (11, [.ref a3, .ref a4, .ref a5, .ref a6, .ref a7, .ref a8, .ref a9, .ref a10, .ref a11, .ref a12, .int (-1)])), (a11, .inr (2, [.int 0, .ref a34, .ref a35, .ref a36, .ref a37, .ref a38, .ref a39, .int 0, .ref a40, .ref a41, .ref a42, .int 0, .ref a43]))] sz) := by
  refine vx_ofW (cc := cX11_flowWith) (maxL := 3) (ret := (Option.some (Jvm.ClassFile.FieldType.object "Gearbox$Flow"))) (by decide) rfl ?_
  intro p e s m args below meth c s₁ B hml hnt hv
  obtain ⟨rfl, hsz, hP, hK, hD0, hE⟩ := hv
  have hx := B.exec
  have hb := B.bytes
  have hr := B.returns
  have hts0 := atoms_spec (ws := wz yX11_flowWith cX11_flowWith 3 (Option.some (Jvm.ClassFile.FieldType.object "Gearbox$Flow"))) B.pre
  have hts : ∀ w ∈ gw, w.before _ s = true := fun w h => hts0 w (List.mem_cons_of_mem _ h)
  have hown : s.vm.findClass RX11 = some m.cls := findClass_of_methodNamed B.named
  have hlocks := B.notSynchronized
  subst hsz
  have hD := hD0.self (sz := s.heap.size)
  generalize hAe : va_A [(a0, .inr (11, [.ref a3, .ref a4, .ref a5, .ref a6, .ref a7, .ref a8, .ref a9, .ref a10, .ref a11, .ref a12, .int (-1)])), (a11, .inr (2, [.int 0, .ref a34, .ref a35, .ref a36, .ref a37, .ref a38, .ref a39, .int 0, .ref a40, .ref a41, .ref a42, .int 0, .ref a43]))] s.heap.size = A at hD hE ⊢
  have hA : ∀ q : Nat, s.heap.size ≤ q → A q := fun q h => by rw [← hAe]; exact Or.inr h
  have hS : va_S A s.heap s.heap [] := va_S.rf
  have hP : va_P (dC, dI) cls [(a0, .inr (11, [.ref a3, .ref a4, .ref a5, .ref a6, .ref a7, .ref a8, .ref a9, .ref a10, .ref a11, .ref a12, .int (-1)])), (a11, .inr (2, [.int 0, .ref a34, .ref a35, .ref a36, .ref a37, .ref a38, .ref a39, .int 0, .ref a40, .ref a41, .ref a42, .int 0, .ref a43]))] s.heap := hP
  have hl := lv_entry ([.ref a0, .int i1, .int i2]) (n := 3) (Nat.le_of_ble_eq_true rfl)
  rw [lg_entry_eq]
  generalize (lg_sl ([.ref a0, .int i1, .int i2]) ++ List.replicate (3 - (lg_sl ([.ref a0, .int i1, .int i2])).length) Slot.unset).toArray = ls at hl ⊢
  have hl : lv_has ls 3 [(0, .ref a0), (1, .int i1), (2, .int i2)] := hl
  refine lv_aload_n hx hb dX11_flowWith_0 rfl (lv_at hl 0 rfl) ?_
  refine lv_iload_n hx hb dX11_flowWith_1 rfl (lv_at hl 1 rfl) ?_
  have hPc := hP.sub (ws' := [(a0, .inr (11, [.ref a3, .ref a4, .ref a5, .ref a6, .ref a7, .ref a8, .ref a9, .ref a10, .ref a11, .ref a12, .int (-1)])), (a11, .inr (2, [.int 0, .ref a34, .ref a35, .ref a36, .ref a37, .ref a38, .ref a39, .int 0, .ref a40, .ref a41, .ref a42, .int 0, .ref a43]))]) [0, 1] rfl
  have hDc := hD.sub (ws' := [(a0, .inr (11, [.ref a3, .ref a4, .ref a5, .ref a6, .ref a7, .ref a8, .ref a9, .ref a10, .ref a11, .ref a12, .int (-1)])), (a11, .inr (2, [.int 0, .ref a34, .ref a35, .ref a36, .ref a37, .ref a38, .ref a39, .int 0, .ref a40, .ref a41, .ref a42, .int 0, .ref a43]))]) [0, 1] (by decide) rfl
  have hKc := hK.sub (tys' := []) [] rfl
  have hFc := va_free (wc := [(a0, .inr (11, [.ref a3, .ref a4, .ref a5, .ref a6, .ref a7, .ref a8, .ref a9, .ref a10, .ref a11, .ref a12, .int (-1)])), (a11, .inr (2, [.int 0, .ref a34, .ref a35, .ref a36, .ref a37, .ref a38, .ref a39, .int 0, .ref a40, .ref a41, .ref a42, .int 0, .ref a43]))]) hD hS hA [0, 1] rfl
  refine vx_callv (vx_runV (As := [.int i1]) (rest := []) ⟨hx, hb, hml, hown, hts⟩ (kX11_needFunction_n6 l dC dI (a0 := a0) (i1 := i1) (a2 := a3) (a3 := a4) (a4 := a5) (a5 := a6) (a6 := a7) (a7 := a8) (a8 := a9) (a9 := a10) (a10 := a11) (a11 := a12) (a33 := a34) (a34 := a35) (a35 := a36) (a36 := a37) (a37 := a38) (a38 := a39) (a39 := a40) (a40 := a41) (a41 := a42) (a42 := a43) (sz := _) (hl9 := hl9)) (cwV 1 hts (gi_V qw245 qw246 qw247 qw222 (gi_z qw244)) rfl rfl rfl (by decide +kernel) ⟨Nat.le_of_ble_eq_true rfl, Nat.le_of_ble_eq_true rfl⟩) ⟨PRE.blind, va_recv hKc hPc (ci := 11) (q0 := 0) rfl rfl, PRE.of hE hS hFc hPc hKc hDc⟩ rfl rfl hl.1 rfl (lv_room (Nat.le_of_ble_eq_true rfl)) dX11_flowWith_2 ⟨Nat.le_of_ble_eq_true rfl, Nat.le_of_ble_eq_true rfl⟩) hS (fun q _ h => hFc q h) hFc (fun q _ h => hFc q h) (fun E ce q9 u t H locs ht hvm hw hB hz1 hk1 hS hce hcv hcl => ?_) (fun u t H locs ht hvm hw hB hz1 hk1 hS => hw.elim)
  obtain ⟨rfl, hB⟩ := hB
  obtain ⟨hP, hD, hK⟩ := JOIN (wr := []) hP hD hK [0, 1] [] [] rfl rfl (by decide) (by decide) rfl hk1 hFc ht hvm hB
  have hP : va_P (dC, dI) cls [(a0, .inr (11, [.ref a3, .ref a4, .ref a5, .ref a6, .ref a7, .ref a8, .ref a9, .ref a10, .ref a11, .ref a12, .int (-1)])), (a11, .inr (2, [.int 0, .ref a34, .ref a35, .ref a36, .ref a37, .ref a38, .ref a39, .int 0, .ref a40, .ref a41, .ref a42, .int 0, .ref a43]))] H := hP
  have hD : va_D A [(a0, .inr (11, [.ref a3, .ref a4, .ref a5, .ref a6, .ref a7, .ref a8, .ref a9, .ref a10, .ref a11, .ref a12, .int (-1)])), (a11, .inr (2, [.int 0, .ref a34, .ref a35, .ref a36, .ref a37, .ref a38, .ref a39, .int 0, .ref a40, .ref a41, .ref a42, .int 0, .ref a43]))] := hD
  have hK : va_K (dC, dI) cls [] s := hK
  refine vx_widen (k := 1) (n := 6) (Nat.le_of_ble_eq_true rfl) (Nat.le_of_ble_eq_true rfl) ?_
  have hP9 : va_P (dC, dI) cls [(a0, .inr (11, [.ref a3, .ref a4, .ref a5, .ref a6, .ref a7, .ref a8, .ref a9, .ref a10, .ref a11, .ref a12, .int (-1)])), (a11, .inr (2, [.int 0, .ref a34, .ref a35, .ref a36, .ref a37, .ref a38, .ref a39, .int 0, .ref a40, .ref a41, .ref a42, .int 0, .ref a43]))] H := hP.sub [0, 1] rfl
  have hD9 : va_D A [(a0, .inr (11, [.ref a3, .ref a4, .ref a5, .ref a6, .ref a7, .ref a8, .ref a9, .ref a10, .ref a11, .ref a12, .int (-1)])), (a11, .inr (2, [.int 0, .ref a34, .ref a35, .ref a36, .ref a37, .ref a38, .ref a39, .int 0, .ref a40, .ref a41, .ref a42, .int 0, .ref a43]))] := hD.sub [0, 1] (by decide) rfl
  have hK9 : va_K (dC, dI) cls [] s := hK.sub [] rfl
  exact vx_out (fun x hx9 => (hnt x hx9).elim) hlocks hce hcv hcl (fun t ht hal => ⟨(), trivial, ⟨rfl, ⟨by rw [ht]; exact hP9, va_K.moved hal hK9, hD9⟩⟩, hS.F ht⟩) hS.2.2 (Nat.le_of_ble_eq_true rfl) (Nat.le_of_ble_eq_true rfl)
set_option maxHeartbeats 4000000 in
set_option maxRecDepth 100000 in
theorem kX11_dominatorOf {zs : Nat × Nat} (l : Launch) (dC : Nat → ClassId) (dI : Nat → Nat → Nat) (gx : Nat) (gq1 : Nat) (gq4 : Nat) (gq13 : Nat) (gq136 : Nat) (gq137 : Nat) (gq138 : Nat) (gq150 : Nat) (gq151 : Nat) (gq152 : Nat) (gq153 : Nat) (gq154 : Nat) (gq155 : Nat) (gq156 : Nat) (gq157 : Nat) (gq158 : Nat) (gq159 : Nat) (gq160 : Nat) (gq161 : Nat) (gq172 : Nat) (gq184 : Nat) (p0 : Int32) (p1 : Int32) (sz : Nat) (hl9 : l.stackTraces = false)  : vx_Met l yX11_dominatorOf (wz yX11_dominatorOf cX11_dominatorOf 3 (Option.some Jvm.ClassFile.FieldType.int)) ({ frames := 8, cells := 1, slots := 6, locals := 143 }) (va_Pc [.ref gx, .int p0, .int p1] (PRE zs dC dI [(gx, .inr (11, [.ref gq1, .ref gq4, .ref gq13, .ref gq136, .ref gq137, .ref gq138, .ref gq172, .ref gq184, .ref gq150, .ref gq161, .int (-1)])), (gq150, .inr (2, [.int 0, .ref gq151, .ref gq152, .ref gq153, .ref gq154, .ref gq155, .ref gq156, .int 0, .ref gq157, .ref gq158, .ref gq159, .int 0, .ref gq160]))] [] sz)) (va_Qi (fun (_ : Int32) (_ : Unit) => False) (fun _ _ => True) (va_A [(gx, .inr (11, [.ref gq1, .ref gq4, .ref gq13, .ref gq136, .ref gq137, .ref gq138, .ref gq172, .ref gq184, .ref gq150, .ref gq161, .int (-1)])), (gq150, .inr (2, [.int 0, .ref gq151, .ref gq152, .ref gq153, .ref gq154, .ref gq155, .ref gq156, .int 0, .ref gq157, .ref gq158, .ref gq159, .int 0, .ref gq160]))] sz)) (vx_X (fun (_ : Unit) => True) (fun E _ t => E = "java/lang/IndexOutOfBoundsException" ∧ POST dC dI [] [] (va_A [(gx, .inr (11, [.ref gq1, .ref gq4, .ref gq13, .ref gq136, .ref gq137, .ref gq138, .ref gq172, .ref gq184, .ref gq150, .ref gq161, .int (-1)])), (gq150, .inr (2, [.int 0, .ref gq151, .ref gq152, .ref gq153, .ref gq154, .ref gq155, .ref gq156, .int 0, .ref gq157, .ref gq158, .ref gq159, .int 0, .ref gq160]))] sz) t) (va_A [(gx, .inr (11, [.ref gq1, .ref gq4, .ref gq13, .ref gq136, .ref gq137, .ref gq138, .ref gq172, .ref gq184, .ref gq150, .ref gq161, .int (-1)])), (gq150, .inr (2, [.int 0, .ref gq151, .ref gq152, .ref gq153, .ref gq154, .ref gq155, .ref gq156, .int 0, .ref gq157, .ref gq158, .ref gq159, .int 0, .ref gq160]))] sz)) 1 6 (va_A [(gx, .inr (11, [.ref gq1, .ref gq4, .ref gq13, .ref gq136, .ref gq137, .ref gq138, .ref gq172, .ref gq184, .ref gq150, .ref gq161, .int (-1)])), (gq150, .inr (2, [.int 0, .ref gq151, .ref gq152, .ref gq153, .ref gq154, .ref gq155, .ref gq156, .int 0, .ref gq157, .ref gq158, .ref gq159, .int 0, .ref gq160]))] sz) := by
  refine vx_ofW (cc := cX11_dominatorOf) (maxL := 3) (ret := (Option.some Jvm.ClassFile.FieldType.int)) (by decide) rfl ?_
  intro p e s m args below meth c s₁ B hml hnt hv
  obtain ⟨rfl, hsz, hP, hK, hD0, hE⟩ := hv
  have hx := B.exec
  have hb := B.bytes
  have hr := B.returns
  have hts0 := atoms_spec (ws := wz yX11_dominatorOf cX11_dominatorOf 3 (Option.some Jvm.ClassFile.FieldType.int)) B.pre
  have hts : ∀ w ∈ gw, w.before _ s = true := fun w h => hts0 w (List.mem_cons_of_mem _ h)
  have hown : s.vm.findClass RX11 = some m.cls := findClass_of_methodNamed B.named
  have hlocks := B.notSynchronized
  subst hsz
  have hD := hD0.self (sz := s.heap.size)
  generalize hAe : va_A [(gx, .inr (11, [.ref gq1, .ref gq4, .ref gq13, .ref gq136, .ref gq137, .ref gq138, .ref gq172, .ref gq184, .ref gq150, .ref gq161, .int (-1)])), (gq150, .inr (2, [.int 0, .ref gq151, .ref gq152, .ref gq153, .ref gq154, .ref gq155, .ref gq156, .int 0, .ref gq157, .ref gq158, .ref gq159, .int 0, .ref gq160]))] s.heap.size = A at hD hE ⊢
  have hA : ∀ q : Nat, s.heap.size ≤ q → A q := fun q h => by rw [← hAe]; exact Or.inr h
  have hS : va_S A s.heap s.heap [] := va_S.rf
  have hP : va_P (dC, dI) cls [(gx, .inr (11, [.ref gq1, .ref gq4, .ref gq13, .ref gq136, .ref gq137, .ref gq138, .ref gq172, .ref gq184, .ref gq150, .ref gq161, .int (-1)])), (gq150, .inr (2, [.int 0, .ref gq151, .ref gq152, .ref gq153, .ref gq154, .ref gq155, .ref gq156, .int 0, .ref gq157, .ref gq158, .ref gq159, .int 0, .ref gq160]))] s.heap := hP
  have hl := lv_entry ([.ref gx, .int p0, .int p1]) (n := 3) (Nat.le_of_ble_eq_true rfl)
  rw [lg_entry_eq]
  generalize (lg_sl ([.ref gx, .int p0, .int p1]) ++ List.replicate (3 - (lg_sl ([.ref gx, .int p0, .int p1])).length) Slot.unset).toArray = ls at hl ⊢
  have hl : lv_has ls 3 [(0, .ref gx), (1, .int p0), (2, .int p1)] := hl
  refine lv_aload_n hx hb dX11_dominatorOf_0 rfl (lv_at hl 0 rfl) ?_
  refine lv_iload_n hx hb dX11_dominatorOf_1 rfl (lv_at hl 1 rfl) ?_
  refine lv_iload_n hx hb dX11_dominatorOf_2 rfl (lv_at hl 2 rfl) ?_
  have hPc := hP.sub (ws' := [(gx, .inr (11, [.ref gq1, .ref gq4, .ref gq13, .ref gq136, .ref gq137, .ref gq138, .ref gq172, .ref gq184, .ref gq150, .ref gq161, .int (-1)])), (gq150, .inr (2, [.int 0, .ref gq151, .ref gq152, .ref gq153, .ref gq154, .ref gq155, .ref gq156, .int 0, .ref gq157, .ref gq158, .ref gq159, .int 0, .ref gq160]))]) [0, 1] rfl
  have hDc := hD.sub (ws' := [(gx, .inr (11, [.ref gq1, .ref gq4, .ref gq13, .ref gq136, .ref gq137, .ref gq138, .ref gq172, .ref gq184, .ref gq150, .ref gq161, .int (-1)])), (gq150, .inr (2, [.int 0, .ref gq151, .ref gq152, .ref gq153, .ref gq154, .ref gq155, .ref gq156, .int 0, .ref gq157, .ref gq158, .ref gq159, .int 0, .ref gq160]))]) [0, 1] (by decide) rfl
  have hKc := hK.sub (tys' := []) [] rfl
  have hFc := va_free (wc := [(gx, .inr (11, [.ref gq1, .ref gq4, .ref gq13, .ref gq136, .ref gq137, .ref gq138, .ref gq172, .ref gq184, .ref gq150, .ref gq161, .int (-1)])), (gq150, .inr (2, [.int 0, .ref gq151, .ref gq152, .ref gq153, .ref gq154, .ref gq155, .ref gq156, .int 0, .ref gq157, .ref gq158, .ref gq159, .int 0, .ref gq160]))]) hD hS hA [0, 1] rfl
  refine vx_callr (vx_runV (As := [.int p0, .int p1]) (rest := []) ⟨hx, hb, hml, hown, hts⟩ (kX11_flowWith_n7 l dC dI (a0 := gx) (i1 := p0) (i2 := p1) (a3 := gq1) (a4 := gq4) (a5 := gq13) (a6 := gq136) (a7 := gq137) (a8 := gq138) (a9 := gq172) (a10 := gq184) (a11 := gq150) (a12 := gq161) (a34 := gq151) (a35 := gq152) (a36 := gq153) (a37 := gq154) (a38 := gq155) (a39 := gq156) (a40 := gq157) (a41 := gq158) (a42 := gq159) (a43 := gq160) (sz := _) (hl9 := hl9)) (cwV 2 hts (gi_V qw249 qw250 qw251 qw222 (gi_z qw248)) rfl rfl rfl (by decide +kernel) ⟨Nat.le_of_ble_eq_true rfl, Nat.le_of_ble_eq_true rfl⟩) ⟨PRE.blind, va_recv hKc hPc (ci := 11) (q0 := 0) rfl rfl, PRE.of hE hS hFc hPc hKc hDc⟩ rfl rfl hl.1 rfl (lv_room (Nat.le_of_ble_eq_true rfl)) dX11_dominatorOf_3 ⟨Nat.le_of_ble_eq_true rfl, Nat.le_of_ble_eq_true rfl⟩) hS (fun q _ h => hFc q h) hFc (fun q _ h => hFc q h) (fun E ce q9 u t H locs ht hvm hw hB hz1 hk1 hS hce hcv hcl => ?_) (fun u ra t H locs ht hvm hw hB hz1 hk1 hS => hw.elim)
  obtain ⟨rfl, hB⟩ := hB
  obtain ⟨hP, hD, hK⟩ := JOIN (wr := []) hP hD hK [0, 1] [] [] rfl rfl (by decide) (by decide) rfl hk1 hFc ht hvm hB
  have hP : va_P (dC, dI) cls [(gx, .inr (11, [.ref gq1, .ref gq4, .ref gq13, .ref gq136, .ref gq137, .ref gq138, .ref gq172, .ref gq184, .ref gq150, .ref gq161, .int (-1)])), (gq150, .inr (2, [.int 0, .ref gq151, .ref gq152, .ref gq153, .ref gq154, .ref gq155, .ref gq156, .int 0, .ref gq157, .ref gq158, .ref gq159, .int 0, .ref gq160]))] H := hP
  have hD : va_D A [(gx, .inr (11, [.ref gq1, .ref gq4, .ref gq13, .ref gq136, .ref gq137, .ref gq138, .ref gq172, .ref gq184, .ref gq150, .ref gq161, .int (-1)])), (gq150, .inr (2, [.int 0, .ref gq151, .ref gq152, .ref gq153, .ref gq154, .ref gq155, .ref gq156, .int 0, .ref gq157, .ref gq158, .ref gq159, .int 0, .ref gq160]))] := hD
  have hK : va_K (dC, dI) cls [] s := hK
  refine vx_widen (k := 1) (n := 6) (Nat.le_of_ble_eq_true rfl) (Nat.le_of_ble_eq_true rfl) ?_
  have hP9 : va_P (dC, dI) cls [] H := hP.sub [] rfl
  have hD9 : va_D A [] := hD.sub [] (by decide) rfl
  have hK9 : va_K (dC, dI) cls [] s := hK.sub [] rfl
  exact vx_out (fun x hx9 => (hnt x hx9).elim) hlocks hce hcv hcl (fun t ht hal => ⟨(), trivial, ⟨rfl, ⟨by rw [ht]; exact hP9, va_K.moved hal hK9, hD9⟩⟩, hS.F ht⟩) hS.2.2 (Nat.le_of_ble_eq_true rfl) (Nat.le_of_ble_eq_true rfl)
set_option maxHeartbeats 4000000 in
set_option maxRecDepth 100000 in
theorem kX11_depthOf {zs : Nat × Nat} (l : Launch) (dC : Nat → ClassId) (dI : Nat → Nat → Nat) (gx : Nat) (gq1 : Nat) (gq4 : Nat) (gq13 : Nat) (gq136 : Nat) (gq137 : Nat) (gq138 : Nat) (gq150 : Nat) (gq151 : Nat) (gq152 : Nat) (gq153 : Nat) (gq154 : Nat) (gq155 : Nat) (gq156 : Nat) (gq157 : Nat) (gq158 : Nat) (gq159 : Nat) (gq160 : Nat) (gq161 : Nat) (gq172 : Nat) (gq184 : Nat) (p0 : Int32) (p1 : Int32) (sz : Nat) (hl9 : l.stackTraces = false)  : vx_Met l yX11_depthOf (wz yX11_depthOf cX11_depthOf 3 (Option.some Jvm.ClassFile.FieldType.int)) ({ frames := 8, cells := 1, slots := 6, locals := 143 }) (va_Pc [.ref gx, .int p0, .int p1] (PRE zs dC dI [(gx, .inr (11, [.ref gq1, .ref gq4, .ref gq13, .ref gq136, .ref gq137, .ref gq138, .ref gq172, .ref gq184, .ref gq150, .ref gq161, .int (-1)])), (gq150, .inr (2, [.int 0, .ref gq151, .ref gq152, .ref gq153, .ref gq154, .ref gq155, .ref gq156, .int 0, .ref gq157, .ref gq158, .ref gq159, .int 0, .ref gq160]))] [] sz)) (va_Qi (fun (_ : Int32) (_ : Unit) => False) (fun _ _ => True) (va_A [(gx, .inr (11, [.ref gq1, .ref gq4, .ref gq13, .ref gq136, .ref gq137, .ref gq138, .ref gq172, .ref gq184, .ref gq150, .ref gq161, .int (-1)])), (gq150, .inr (2, [.int 0, .ref gq151, .ref gq152, .ref gq153, .ref gq154, .ref gq155, .ref gq156, .int 0, .ref gq157, .ref gq158, .ref gq159, .int 0, .ref gq160]))] sz)) (vx_X (fun (_ : Unit) => True) (fun E _ t => E = "java/lang/IndexOutOfBoundsException" ∧ POST dC dI [] [] (va_A [(gx, .inr (11, [.ref gq1, .ref gq4, .ref gq13, .ref gq136, .ref gq137, .ref gq138, .ref gq172, .ref gq184, .ref gq150, .ref gq161, .int (-1)])), (gq150, .inr (2, [.int 0, .ref gq151, .ref gq152, .ref gq153, .ref gq154, .ref gq155, .ref gq156, .int 0, .ref gq157, .ref gq158, .ref gq159, .int 0, .ref gq160]))] sz) t) (va_A [(gx, .inr (11, [.ref gq1, .ref gq4, .ref gq13, .ref gq136, .ref gq137, .ref gq138, .ref gq172, .ref gq184, .ref gq150, .ref gq161, .int (-1)])), (gq150, .inr (2, [.int 0, .ref gq151, .ref gq152, .ref gq153, .ref gq154, .ref gq155, .ref gq156, .int 0, .ref gq157, .ref gq158, .ref gq159, .int 0, .ref gq160]))] sz)) 1 6 (va_A [(gx, .inr (11, [.ref gq1, .ref gq4, .ref gq13, .ref gq136, .ref gq137, .ref gq138, .ref gq172, .ref gq184, .ref gq150, .ref gq161, .int (-1)])), (gq150, .inr (2, [.int 0, .ref gq151, .ref gq152, .ref gq153, .ref gq154, .ref gq155, .ref gq156, .int 0, .ref gq157, .ref gq158, .ref gq159, .int 0, .ref gq160]))] sz) := by
  refine vx_ofW (cc := cX11_depthOf) (maxL := 3) (ret := (Option.some Jvm.ClassFile.FieldType.int)) (by decide) rfl ?_
  intro p e s m args below meth c s₁ B hml hnt hv
  obtain ⟨rfl, hsz, hP, hK, hD0, hE⟩ := hv
  have hx := B.exec
  have hb := B.bytes
  have hr := B.returns
  have hts0 := atoms_spec (ws := wz yX11_depthOf cX11_depthOf 3 (Option.some Jvm.ClassFile.FieldType.int)) B.pre
  have hts : ∀ w ∈ gw, w.before _ s = true := fun w h => hts0 w (List.mem_cons_of_mem _ h)
  have hown : s.vm.findClass RX11 = some m.cls := findClass_of_methodNamed B.named
  have hlocks := B.notSynchronized
  subst hsz
  have hD := hD0.self (sz := s.heap.size)
  generalize hAe : va_A [(gx, .inr (11, [.ref gq1, .ref gq4, .ref gq13, .ref gq136, .ref gq137, .ref gq138, .ref gq172, .ref gq184, .ref gq150, .ref gq161, .int (-1)])), (gq150, .inr (2, [.int 0, .ref gq151, .ref gq152, .ref gq153, .ref gq154, .ref gq155, .ref gq156, .int 0, .ref gq157, .ref gq158, .ref gq159, .int 0, .ref gq160]))] s.heap.size = A at hD hE ⊢
  have hA : ∀ q : Nat, s.heap.size ≤ q → A q := fun q h => by rw [← hAe]; exact Or.inr h
  have hS : va_S A s.heap s.heap [] := va_S.rf
  have hP : va_P (dC, dI) cls [(gx, .inr (11, [.ref gq1, .ref gq4, .ref gq13, .ref gq136, .ref gq137, .ref gq138, .ref gq172, .ref gq184, .ref gq150, .ref gq161, .int (-1)])), (gq150, .inr (2, [.int 0, .ref gq151, .ref gq152, .ref gq153, .ref gq154, .ref gq155, .ref gq156, .int 0, .ref gq157, .ref gq158, .ref gq159, .int 0, .ref gq160]))] s.heap := hP
  have hl := lv_entry ([.ref gx, .int p0, .int p1]) (n := 3) (Nat.le_of_ble_eq_true rfl)
  rw [lg_entry_eq]
  generalize (lg_sl ([.ref gx, .int p0, .int p1]) ++ List.replicate (3 - (lg_sl ([.ref gx, .int p0, .int p1])).length) Slot.unset).toArray = ls at hl ⊢
  have hl : lv_has ls 3 [(0, .ref gx), (1, .int p0), (2, .int p1)] := hl
  refine lv_aload_n hx hb dX11_depthOf_0 rfl (lv_at hl 0 rfl) ?_
  refine lv_iload_n hx hb dX11_depthOf_1 rfl (lv_at hl 1 rfl) ?_
  refine lv_iload_n hx hb dX11_depthOf_2 rfl (lv_at hl 2 rfl) ?_
  have hPc := hP.sub (ws' := [(gx, .inr (11, [.ref gq1, .ref gq4, .ref gq13, .ref gq136, .ref gq137, .ref gq138, .ref gq172, .ref gq184, .ref gq150, .ref gq161, .int (-1)])), (gq150, .inr (2, [.int 0, .ref gq151, .ref gq152, .ref gq153, .ref gq154, .ref gq155, .ref gq156, .int 0, .ref gq157, .ref gq158, .ref gq159, .int 0, .ref gq160]))]) [0, 1] rfl
  have hDc := hD.sub (ws' := [(gx, .inr (11, [.ref gq1, .ref gq4, .ref gq13, .ref gq136, .ref gq137, .ref gq138, .ref gq172, .ref gq184, .ref gq150, .ref gq161, .int (-1)])), (gq150, .inr (2, [.int 0, .ref gq151, .ref gq152, .ref gq153, .ref gq154, .ref gq155, .ref gq156, .int 0, .ref gq157, .ref gq158, .ref gq159, .int 0, .ref gq160]))]) [0, 1] (by decide) rfl
  have hKc := hK.sub (tys' := []) [] rfl
  have hFc := va_free (wc := [(gx, .inr (11, [.ref gq1, .ref gq4, .ref gq13, .ref gq136, .ref gq137, .ref gq138, .ref gq172, .ref gq184, .ref gq150, .ref gq161, .int (-1)])), (gq150, .inr (2, [.int 0, .ref gq151, .ref gq152, .ref gq153, .ref gq154, .ref gq155, .ref gq156, .int 0, .ref gq157, .ref gq158, .ref gq159, .int 0, .ref gq160]))]) hD hS hA [0, 1] rfl
  refine vx_callr (vx_runV (As := [.int p0, .int p1]) (rest := []) ⟨hx, hb, hml, hown, hts⟩ (kX11_flowWith_n7 l dC dI (a0 := gx) (i1 := p0) (i2 := p1) (a3 := gq1) (a4 := gq4) (a5 := gq13) (a6 := gq136) (a7 := gq137) (a8 := gq138) (a9 := gq172) (a10 := gq184) (a11 := gq150) (a12 := gq161) (a34 := gq151) (a35 := gq152) (a36 := gq153) (a37 := gq154) (a38 := gq155) (a39 := gq156) (a40 := gq157) (a41 := gq158) (a42 := gq159) (a43 := gq160) (sz := _) (hl9 := hl9)) (cwV 2 hts (gi_V qw249 qw250 qw251 qw222 (gi_z qw248)) rfl rfl rfl (by decide +kernel) ⟨Nat.le_of_ble_eq_true rfl, Nat.le_of_ble_eq_true rfl⟩) ⟨PRE.blind, va_recv hKc hPc (ci := 11) (q0 := 0) rfl rfl, PRE.of hE hS hFc hPc hKc hDc⟩ rfl rfl hl.1 rfl (lv_room (Nat.le_of_ble_eq_true rfl)) dX11_depthOf_3 ⟨Nat.le_of_ble_eq_true rfl, Nat.le_of_ble_eq_true rfl⟩) hS (fun q _ h => hFc q h) hFc (fun q _ h => hFc q h) (fun E ce q9 u t H locs ht hvm hw hB hz1 hk1 hS hce hcv hcl => ?_) (fun u ra t H locs ht hvm hw hB hz1 hk1 hS => hw.elim)
  obtain ⟨rfl, hB⟩ := hB
  obtain ⟨hP, hD, hK⟩ := JOIN (wr := []) hP hD hK [0, 1] [] [] rfl rfl (by decide) (by decide) rfl hk1 hFc ht hvm hB
  have hP : va_P (dC, dI) cls [(gx, .inr (11, [.ref gq1, .ref gq4, .ref gq13, .ref gq136, .ref gq137, .ref gq138, .ref gq172, .ref gq184, .ref gq150, .ref gq161, .int (-1)])), (gq150, .inr (2, [.int 0, .ref gq151, .ref gq152, .ref gq153, .ref gq154, .ref gq155, .ref gq156, .int 0, .ref gq157, .ref gq158, .ref gq159, .int 0, .ref gq160]))] H := hP
  have hD : va_D A [(gx, .inr (11, [.ref gq1, .ref gq4, .ref gq13, .ref gq136, .ref gq137, .ref gq138, .ref gq172, .ref gq184, .ref gq150, .ref gq161, .int (-1)])), (gq150, .inr (2, [.int 0, .ref gq151, .ref gq152, .ref gq153, .ref gq154, .ref gq155, .ref gq156, .int 0, .ref gq157, .ref gq158, .ref gq159, .int 0, .ref gq160]))] := hD
  have hK : va_K (dC, dI) cls [] s := hK
  refine vx_widen (k := 1) (n := 6) (Nat.le_of_ble_eq_true rfl) (Nat.le_of_ble_eq_true rfl) ?_
  have hP9 : va_P (dC, dI) cls [] H := hP.sub [] rfl
  have hD9 : va_D A [] := hD.sub [] (by decide) rfl
  have hK9 : va_K (dC, dI) cls [] s := hK.sub [] rfl
  exact vx_out (fun x hx9 => (hnt x hx9).elim) hlocks hce hcv hcl (fun t ht hal => ⟨(), trivial, ⟨rfl, ⟨by rw [ht]; exact hP9, va_K.moved hal hK9, hD9⟩⟩, hS.F ht⟩) hS.2.2 (Nat.le_of_ble_eq_true rfl) (Nat.le_of_ble_eq_true rfl)
set_option maxHeartbeats 4000000 in
set_option maxRecDepth 100000 in
theorem kX11_predecessors {zs : Nat × Nat} (l : Launch) (dC : Nat → ClassId) (dI : Nat → Nat → Nat) (gx : Nat) (gq1 : Nat) (gq4 : Nat) (gq13 : Nat) (gq136 : Nat) (gq137 : Nat) (gq138 : Nat) (gq150 : Nat) (gq151 : Nat) (gq152 : Nat) (gq153 : Nat) (gq154 : Nat) (gq155 : Nat) (gq156 : Nat) (gq157 : Nat) (gq158 : Nat) (gq159 : Nat) (gq160 : Nat) (gq161 : Nat) (gq172 : Nat) (gq184 : Nat) (p0 : Int32) (p1 : Int32) (sz : Nat) (hl9 : l.stackTraces = false)  : vx_Met l yX11_predecessors (wz yX11_predecessors cX11_predecessors 3 (Option.some Jvm.ClassFile.FieldType.int)) ({ frames := 8, cells := 1, slots := 6, locals := 143 }) (va_Pc [.ref gx, .int p0, .int p1] (PRE zs dC dI [(gx, .inr (11, [.ref gq1, .ref gq4, .ref gq13, .ref gq136, .ref gq137, .ref gq138, .ref gq172, .ref gq184, .ref gq150, .ref gq161, .int (-1)])), (gq150, .inr (2, [.int 0, .ref gq151, .ref gq152, .ref gq153, .ref gq154, .ref gq155, .ref gq156, .int 0, .ref gq157, .ref gq158, .ref gq159, .int 0, .ref gq160]))] [] sz)) (va_Qi (fun (_ : Int32) (_ : Unit) => False) (fun _ _ => True) (va_A [(gx, .inr (11, [.ref gq1, .ref gq4, .ref gq13, .ref gq136, .ref gq137, .ref gq138, .ref gq172, .ref gq184, .ref gq150, .ref gq161, .int (-1)])), (gq150, .inr (2, [.int 0, .ref gq151, .ref gq152, .ref gq153, .ref gq154, .ref gq155, .ref gq156, .int 0, .ref gq157, .ref gq158, .ref gq159, .int 0, .ref gq160]))] sz)) (vx_X (fun (_ : Unit) => True) (fun E _ t => E = "java/lang/IndexOutOfBoundsException" ∧ POST dC dI [] [] (va_A [(gx, .inr (11, [.ref gq1, .ref gq4, .ref gq13, .ref gq136, .ref gq137, .ref gq138, .ref gq172, .ref gq184, .ref gq150, .ref gq161, .int (-1)])), (gq150, .inr (2, [.int 0, .ref gq151, .ref gq152, .ref gq153, .ref gq154, .ref gq155, .ref gq156, .int 0, .ref gq157, .ref gq158, .ref gq159, .int 0, .ref gq160]))] sz) t) (va_A [(gx, .inr (11, [.ref gq1, .ref gq4, .ref gq13, .ref gq136, .ref gq137, .ref gq138, .ref gq172, .ref gq184, .ref gq150, .ref gq161, .int (-1)])), (gq150, .inr (2, [.int 0, .ref gq151, .ref gq152, .ref gq153, .ref gq154, .ref gq155, .ref gq156, .int 0, .ref gq157, .ref gq158, .ref gq159, .int 0, .ref gq160]))] sz)) 1 6 (va_A [(gx, .inr (11, [.ref gq1, .ref gq4, .ref gq13, .ref gq136, .ref gq137, .ref gq138, .ref gq172, .ref gq184, .ref gq150, .ref gq161, .int (-1)])), (gq150, .inr (2, [.int 0, .ref gq151, .ref gq152, .ref gq153, .ref gq154, .ref gq155, .ref gq156, .int 0, .ref gq157, .ref gq158, .ref gq159, .int 0, .ref gq160]))] sz) := by
  refine vx_ofW (cc := cX11_predecessors) (maxL := 3) (ret := (Option.some Jvm.ClassFile.FieldType.int)) (by decide) rfl ?_
  intro p e s m args below meth c s₁ B hml hnt hv
  obtain ⟨rfl, hsz, hP, hK, hD0, hE⟩ := hv
  have hx := B.exec
  have hb := B.bytes
  have hr := B.returns
  have hts0 := atoms_spec (ws := wz yX11_predecessors cX11_predecessors 3 (Option.some Jvm.ClassFile.FieldType.int)) B.pre
  have hts : ∀ w ∈ gw, w.before _ s = true := fun w h => hts0 w (List.mem_cons_of_mem _ h)
  have hown : s.vm.findClass RX11 = some m.cls := findClass_of_methodNamed B.named
  have hlocks := B.notSynchronized
  subst hsz
  have hD := hD0.self (sz := s.heap.size)
  generalize hAe : va_A [(gx, .inr (11, [.ref gq1, .ref gq4, .ref gq13, .ref gq136, .ref gq137, .ref gq138, .ref gq172, .ref gq184, .ref gq150, .ref gq161, .int (-1)])), (gq150, .inr (2, [.int 0, .ref gq151, .ref gq152, .ref gq153, .ref gq154, .ref gq155, .ref gq156, .int 0, .ref gq157, .ref gq158, .ref gq159, .int 0, .ref gq160]))] s.heap.size = A at hD hE ⊢
  have hA : ∀ q : Nat, s.heap.size ≤ q → A q := fun q h => by rw [← hAe]; exact Or.inr h
  have hS : va_S A s.heap s.heap [] := va_S.rf
  have hP : va_P (dC, dI) cls [(gx, .inr (11, [.ref gq1, .ref gq4, .ref gq13, .ref gq136, .ref gq137, .ref gq138, .ref gq172, .ref gq184, .ref gq150, .ref gq161, .int (-1)])), (gq150, .inr (2, [.int 0, .ref gq151, .ref gq152, .ref gq153, .ref gq154, .ref gq155, .ref gq156, .int 0, .ref gq157, .ref gq158, .ref gq159, .int 0, .ref gq160]))] s.heap := hP
  have hl := lv_entry ([.ref gx, .int p0, .int p1]) (n := 3) (Nat.le_of_ble_eq_true rfl)
  rw [lg_entry_eq]
  generalize (lg_sl ([.ref gx, .int p0, .int p1]) ++ List.replicate (3 - (lg_sl ([.ref gx, .int p0, .int p1])).length) Slot.unset).toArray = ls at hl ⊢
  have hl : lv_has ls 3 [(0, .ref gx), (1, .int p0), (2, .int p1)] := hl
  refine lv_aload_n hx hb dX11_predecessors_0 rfl (lv_at hl 0 rfl) ?_
  refine lv_iload_n hx hb dX11_predecessors_1 rfl (lv_at hl 1 rfl) ?_
  refine lv_iload_n hx hb dX11_predecessors_2 rfl (lv_at hl 2 rfl) ?_
  have hPc := hP.sub (ws' := [(gx, .inr (11, [.ref gq1, .ref gq4, .ref gq13, .ref gq136, .ref gq137, .ref gq138, .ref gq172, .ref gq184, .ref gq150, .ref gq161, .int (-1)])), (gq150, .inr (2, [.int 0, .ref gq151, .ref gq152, .ref gq153, .ref gq154, .ref gq155, .ref gq156, .int 0, .ref gq157, .ref gq158, .ref gq159, .int 0, .ref gq160]))]) [0, 1] rfl
  have hDc := hD.sub (ws' := [(gx, .inr (11, [.ref gq1, .ref gq4, .ref gq13, .ref gq136, .ref gq137, .ref gq138, .ref gq172, .ref gq184, .ref gq150, .ref gq161, .int (-1)])), (gq150, .inr (2, [.int 0, .ref gq151, .ref gq152, .ref gq153, .ref gq154, .ref gq155, .ref gq156, .int 0, .ref gq157, .ref gq158, .ref gq159, .int 0, .ref gq160]))]) [0, 1] (by decide) rfl
  have hKc := hK.sub (tys' := []) [] rfl
  have hFc := va_free (wc := [(gx, .inr (11, [.ref gq1, .ref gq4, .ref gq13, .ref gq136, .ref gq137, .ref gq138, .ref gq172, .ref gq184, .ref gq150, .ref gq161, .int (-1)])), (gq150, .inr (2, [.int 0, .ref gq151, .ref gq152, .ref gq153, .ref gq154, .ref gq155, .ref gq156, .int 0, .ref gq157, .ref gq158, .ref gq159, .int 0, .ref gq160]))]) hD hS hA [0, 1] rfl
  refine vx_callr (vx_runV (As := [.int p0, .int p1]) (rest := []) ⟨hx, hb, hml, hown, hts⟩ (kX11_flowWith_n7 l dC dI (a0 := gx) (i1 := p0) (i2 := p1) (a3 := gq1) (a4 := gq4) (a5 := gq13) (a6 := gq136) (a7 := gq137) (a8 := gq138) (a9 := gq172) (a10 := gq184) (a11 := gq150) (a12 := gq161) (a34 := gq151) (a35 := gq152) (a36 := gq153) (a37 := gq154) (a38 := gq155) (a39 := gq156) (a40 := gq157) (a41 := gq158) (a42 := gq159) (a43 := gq160) (sz := _) (hl9 := hl9)) (cwV 2 hts (gi_V qw249 qw250 qw251 qw222 (gi_z qw248)) rfl rfl rfl (by decide +kernel) ⟨Nat.le_of_ble_eq_true rfl, Nat.le_of_ble_eq_true rfl⟩) ⟨PRE.blind, va_recv hKc hPc (ci := 11) (q0 := 0) rfl rfl, PRE.of hE hS hFc hPc hKc hDc⟩ rfl rfl hl.1 rfl (lv_room (Nat.le_of_ble_eq_true rfl)) dX11_predecessors_3 ⟨Nat.le_of_ble_eq_true rfl, Nat.le_of_ble_eq_true rfl⟩) hS (fun q _ h => hFc q h) hFc (fun q _ h => hFc q h) (fun E ce q9 u t H locs ht hvm hw hB hz1 hk1 hS hce hcv hcl => ?_) (fun u ra t H locs ht hvm hw hB hz1 hk1 hS => hw.elim)
  obtain ⟨rfl, hB⟩ := hB
  obtain ⟨hP, hD, hK⟩ := JOIN (wr := []) hP hD hK [0, 1] [] [] rfl rfl (by decide) (by decide) rfl hk1 hFc ht hvm hB
  have hP : va_P (dC, dI) cls [(gx, .inr (11, [.ref gq1, .ref gq4, .ref gq13, .ref gq136, .ref gq137, .ref gq138, .ref gq172, .ref gq184, .ref gq150, .ref gq161, .int (-1)])), (gq150, .inr (2, [.int 0, .ref gq151, .ref gq152, .ref gq153, .ref gq154, .ref gq155, .ref gq156, .int 0, .ref gq157, .ref gq158, .ref gq159, .int 0, .ref gq160]))] H := hP
  have hD : va_D A [(gx, .inr (11, [.ref gq1, .ref gq4, .ref gq13, .ref gq136, .ref gq137, .ref gq138, .ref gq172, .ref gq184, .ref gq150, .ref gq161, .int (-1)])), (gq150, .inr (2, [.int 0, .ref gq151, .ref gq152, .ref gq153, .ref gq154, .ref gq155, .ref gq156, .int 0, .ref gq157, .ref gq158, .ref gq159, .int 0, .ref gq160]))] := hD
  have hK : va_K (dC, dI) cls [] s := hK
  refine vx_widen (k := 1) (n := 6) (Nat.le_of_ble_eq_true rfl) (Nat.le_of_ble_eq_true rfl) ?_
  have hP9 : va_P (dC, dI) cls [] H := hP.sub [] rfl
  have hD9 : va_D A [] := hD.sub [] (by decide) rfl
  have hK9 : va_K (dC, dI) cls [] s := hK.sub [] rfl
  exact vx_out (fun x hx9 => (hnt x hx9).elim) hlocks hce hcv hcl (fun t ht hal => ⟨(), trivial, ⟨rfl, ⟨by rw [ht]; exact hP9, va_K.moved hal hK9, hD9⟩⟩, hS.F ht⟩) hS.2.2 (Nat.le_of_ble_eq_true rfl) (Nat.le_of_ble_eq_true rfl)
set_option maxHeartbeats 4000000 in
set_option maxRecDepth 100000 in
theorem kX11_predecessor {zs : Nat × Nat} (l : Launch) (dC : Nat → ClassId) (dI : Nat → Nat → Nat) (gx : Nat) (gq1 : Nat) (gq4 : Nat) (gq13 : Nat) (gq136 : Nat) (gq137 : Nat) (gq138 : Nat) (gq150 : Nat) (gq151 : Nat) (gq152 : Nat) (gq153 : Nat) (gq154 : Nat) (gq155 : Nat) (gq156 : Nat) (gq157 : Nat) (gq158 : Nat) (gq159 : Nat) (gq160 : Nat) (gq161 : Nat) (gq172 : Nat) (gq184 : Nat) (p0 : Int32) (p1 : Int32) (p2 : Int32) (sz : Nat) (hl9 : l.stackTraces = false)  : vx_Met l yX11_predecessor (wz yX11_predecessor cX11_predecessor 5 (Option.some Jvm.ClassFile.FieldType.int)) ({ frames := 8, cells := 1, slots := 6, locals := 143 }) (va_Pc [.ref gx, .int p0, .int p1, .int p2] (PRE zs dC dI [(gx, .inr (11, [.ref gq1, .ref gq4, .ref gq13, .ref gq136, .ref gq137, .ref gq138, .ref gq172, .ref gq184, .ref gq150, .ref gq161, .int (-1)])), (gq150, .inr (2, [.int 0, .ref gq151, .ref gq152, .ref gq153, .ref gq154, .ref gq155, .ref gq156, .int 0, .ref gq157, .ref gq158, .ref gq159, .int 0, .ref gq160]))] [] sz)) (va_Qi (fun (_ : Int32) (_ : Unit) => False) (fun _ _ => True) (va_A [(gx, .inr (11, [.ref gq1, .ref gq4, .ref gq13, .ref gq136, .ref gq137, .ref gq138, .ref gq172, .ref gq184, .ref gq150, .ref gq161, .int (-1)])), (gq150, .inr (2, [.int 0, .ref gq151, .ref gq152, .ref gq153, .ref gq154, .ref gq155, .ref gq156, .int 0, .ref gq157, .ref gq158, .ref gq159, .int 0, .ref gq160]))] sz)) (vx_X (fun (_ : Unit) => True) (fun E _ t => E = "java/lang/IndexOutOfBoundsException" ∧ POST dC dI [] [] (va_A [(gx, .inr (11, [.ref gq1, .ref gq4, .ref gq13, .ref gq136, .ref gq137, .ref gq138, .ref gq172, .ref gq184, .ref gq150, .ref gq161, .int (-1)])), (gq150, .inr (2, [.int 0, .ref gq151, .ref gq152, .ref gq153, .ref gq154, .ref gq155, .ref gq156, .int 0, .ref gq157, .ref gq158, .ref gq159, .int 0, .ref gq160]))] sz) t) (va_A [(gx, .inr (11, [.ref gq1, .ref gq4, .ref gq13, .ref gq136, .ref gq137, .ref gq138, .ref gq172, .ref gq184, .ref gq150, .ref gq161, .int (-1)])), (gq150, .inr (2, [.int 0, .ref gq151, .ref gq152, .ref gq153, .ref gq154, .ref gq155, .ref gq156, .int 0, .ref gq157, .ref gq158, .ref gq159, .int 0, .ref gq160]))] sz)) 1 6 (va_A [(gx, .inr (11, [.ref gq1, .ref gq4, .ref gq13, .ref gq136, .ref gq137, .ref gq138, .ref gq172, .ref gq184, .ref gq150, .ref gq161, .int (-1)])), (gq150, .inr (2, [.int 0, .ref gq151, .ref gq152, .ref gq153, .ref gq154, .ref gq155, .ref gq156, .int 0, .ref gq157, .ref gq158, .ref gq159, .int 0, .ref gq160]))] sz) := by
  refine vx_ofW (cc := cX11_predecessor) (maxL := 5) (ret := (Option.some Jvm.ClassFile.FieldType.int)) (by decide) rfl ?_
  intro p e s m args below meth c s₁ B hml hnt hv
  obtain ⟨rfl, hsz, hP, hK, hD0, hE⟩ := hv
  have hx := B.exec
  have hb := B.bytes
  have hr := B.returns
  have hts0 := atoms_spec (ws := wz yX11_predecessor cX11_predecessor 5 (Option.some Jvm.ClassFile.FieldType.int)) B.pre
  have hts : ∀ w ∈ gw, w.before _ s = true := fun w h => hts0 w (List.mem_cons_of_mem _ h)
  have hown : s.vm.findClass RX11 = some m.cls := findClass_of_methodNamed B.named
  have hlocks := B.notSynchronized
  subst hsz
  have hD := hD0.self (sz := s.heap.size)
  generalize hAe : va_A [(gx, .inr (11, [.ref gq1, .ref gq4, .ref gq13, .ref gq136, .ref gq137, .ref gq138, .ref gq172, .ref gq184, .ref gq150, .ref gq161, .int (-1)])), (gq150, .inr (2, [.int 0, .ref gq151, .ref gq152, .ref gq153, .ref gq154, .ref gq155, .ref gq156, .int 0, .ref gq157, .ref gq158, .ref gq159, .int 0, .ref gq160]))] s.heap.size = A at hD hE ⊢
  have hA : ∀ q : Nat, s.heap.size ≤ q → A q := fun q h => by rw [← hAe]; exact Or.inr h
  have hS : va_S A s.heap s.heap [] := va_S.rf
  have hP : va_P (dC, dI) cls [(gx, .inr (11, [.ref gq1, .ref gq4, .ref gq13, .ref gq136, .ref gq137, .ref gq138, .ref gq172, .ref gq184, .ref gq150, .ref gq161, .int (-1)])), (gq150, .inr (2, [.int 0, .ref gq151, .ref gq152, .ref gq153, .ref gq154, .ref gq155, .ref gq156, .int 0, .ref gq157, .ref gq158, .ref gq159, .int 0, .ref gq160]))] s.heap := hP
  have hl := lv_entry ([.ref gx, .int p0, .int p1, .int p2]) (n := 5) (Nat.le_of_ble_eq_true rfl)
  rw [lg_entry_eq]
  generalize (lg_sl ([.ref gx, .int p0, .int p1, .int p2]) ++ List.replicate (5 - (lg_sl ([.ref gx, .int p0, .int p1, .int p2])).length) Slot.unset).toArray = ls at hl ⊢
  have hl : lv_has ls 5 [(0, .ref gx), (1, .int p0), (2, .int p1), (3, .int p2)] := hl
  refine lv_aload_n hx hb dX11_predecessor_0 rfl (lv_at hl 0 rfl) ?_
  refine lv_iload_n hx hb dX11_predecessor_1 rfl (lv_at hl 1 rfl) ?_
  refine lv_iload_n hx hb dX11_predecessor_2 rfl (lv_at hl 2 rfl) ?_
  have hPc := hP.sub (ws' := [(gx, .inr (11, [.ref gq1, .ref gq4, .ref gq13, .ref gq136, .ref gq137, .ref gq138, .ref gq172, .ref gq184, .ref gq150, .ref gq161, .int (-1)])), (gq150, .inr (2, [.int 0, .ref gq151, .ref gq152, .ref gq153, .ref gq154, .ref gq155, .ref gq156, .int 0, .ref gq157, .ref gq158, .ref gq159, .int 0, .ref gq160]))]) [0, 1] rfl
  have hDc := hD.sub (ws' := [(gx, .inr (11, [.ref gq1, .ref gq4, .ref gq13, .ref gq136, .ref gq137, .ref gq138, .ref gq172, .ref gq184, .ref gq150, .ref gq161, .int (-1)])), (gq150, .inr (2, [.int 0, .ref gq151, .ref gq152, .ref gq153, .ref gq154, .ref gq155, .ref gq156, .int 0, .ref gq157, .ref gq158, .ref gq159, .int 0, .ref gq160]))]) [0, 1] (by decide) rfl
  have hKc := hK.sub (tys' := []) [] rfl
  have hFc := va_free (wc := [(gx, .inr (11, [.ref gq1, .ref gq4, .ref gq13, .ref gq136, .ref gq137, .ref gq138, .ref gq172, .ref gq184, .ref gq150, .ref gq161, .int (-1)])), (gq150, .inr (2, [.int 0, .ref gq151, .ref gq152, .ref gq153, .ref gq154, .ref gq155, .ref gq156, .int 0, .ref gq157, .ref gq158, .ref gq159, .int 0, .ref gq160]))]) hD hS hA [0, 1] rfl
  refine vx_callr (vx_runV (As := [.int p0, .int p1]) (rest := []) ⟨hx, hb, hml, hown, hts⟩ (kX11_flowWith_n7 l dC dI (a0 := gx) (i1 := p0) (i2 := p1) (a3 := gq1) (a4 := gq4) (a5 := gq13) (a6 := gq136) (a7 := gq137) (a8 := gq138) (a9 := gq172) (a10 := gq184) (a11 := gq150) (a12 := gq161) (a34 := gq151) (a35 := gq152) (a36 := gq153) (a37 := gq154) (a38 := gq155) (a39 := gq156) (a40 := gq157) (a41 := gq158) (a42 := gq159) (a43 := gq160) (sz := _) (hl9 := hl9)) (cwV 2 hts (gi_V qw249 qw250 qw251 qw222 (gi_z qw248)) rfl rfl rfl (by decide +kernel) ⟨Nat.le_of_ble_eq_true rfl, Nat.le_of_ble_eq_true rfl⟩) ⟨PRE.blind, va_recv hKc hPc (ci := 11) (q0 := 0) rfl rfl, PRE.of hE hS hFc hPc hKc hDc⟩ rfl rfl hl.1 rfl (lv_room (Nat.le_of_ble_eq_true rfl)) dX11_predecessor_3 ⟨Nat.le_of_ble_eq_true rfl, Nat.le_of_ble_eq_true rfl⟩) hS (fun q _ h => hFc q h) hFc (fun q _ h => hFc q h) (fun E ce q9 u t H locs ht hvm hw hB hz1 hk1 hS hce hcv hcl => ?_) (fun u ra t H locs ht hvm hw hB hz1 hk1 hS => hw.elim)
  obtain ⟨rfl, hB⟩ := hB
  obtain ⟨hP, hD, hK⟩ := JOIN (wr := []) hP hD hK [0, 1] [] [] rfl rfl (by decide) (by decide) rfl hk1 hFc ht hvm hB
  have hP : va_P (dC, dI) cls [(gx, .inr (11, [.ref gq1, .ref gq4, .ref gq13, .ref gq136, .ref gq137, .ref gq138, .ref gq172, .ref gq184, .ref gq150, .ref gq161, .int (-1)])), (gq150, .inr (2, [.int 0, .ref gq151, .ref gq152, .ref gq153, .ref gq154, .ref gq155, .ref gq156, .int 0, .ref gq157, .ref gq158, .ref gq159, .int 0, .ref gq160]))] H := hP
  have hD : va_D A [(gx, .inr (11, [.ref gq1, .ref gq4, .ref gq13, .ref gq136, .ref gq137, .ref gq138, .ref gq172, .ref gq184, .ref gq150, .ref gq161, .int (-1)])), (gq150, .inr (2, [.int 0, .ref gq151, .ref gq152, .ref gq153, .ref gq154, .ref gq155, .ref gq156, .int 0, .ref gq157, .ref gq158, .ref gq159, .int 0, .ref gq160]))] := hD
  have hK : va_K (dC, dI) cls [] s := hK
  refine vx_widen (k := 1) (n := 6) (Nat.le_of_ble_eq_true rfl) (Nat.le_of_ble_eq_true rfl) ?_
  have hP9 : va_P (dC, dI) cls [] H := hP.sub [] rfl
  have hD9 : va_D A [] := hD.sub [] (by decide) rfl
  have hK9 : va_K (dC, dI) cls [] s := hK.sub [] rfl
  exact vx_out (fun x hx9 => (hnt x hx9).elim) hlocks hce hcv hcl (fun t ht hal => ⟨(), trivial, ⟨rfl, ⟨by rw [ht]; exact hP9, va_K.moved hal hK9, hD9⟩⟩, hS.F ht⟩) hS.2.2 (Nat.le_of_ble_eq_true rfl) (Nat.le_of_ble_eq_true rfl)
set_option maxHeartbeats 4000000 in
set_option maxRecDepth 100000 in
theorem kX11_endOf {zs : Nat × Nat} (l : Launch) (dC : Nat → ClassId) (dI : Nat → Nat → Nat) (gx : Nat) (gq1 : Nat) (gq4 : Nat) (gq13 : Nat) (gq136 : Nat) (gq137 : Nat) (gq138 : Nat) (gq150 : Nat) (gq151 : Nat) (gq152 : Nat) (gq153 : Nat) (gq154 : Nat) (gq155 : Nat) (gq156 : Nat) (gq157 : Nat) (gq158 : Nat) (gq159 : Nat) (gq160 : Nat) (gq161 : Nat) (gq172 : Nat) (gq184 : Nat) (p0 : Int32) (p1 : Int32) (sz : Nat) (hl9 : l.stackTraces = false)  : vx_Met l yX11_endOf (wz yX11_endOf cX11_endOf 3 (Option.some Jvm.ClassFile.FieldType.int)) ({ frames := 8, cells := 1, slots := 6, locals := 143 }) (va_Pc [.ref gx, .int p0, .int p1] (PRE zs dC dI [(gx, .inr (11, [.ref gq1, .ref gq4, .ref gq13, .ref gq136, .ref gq137, .ref gq138, .ref gq172, .ref gq184, .ref gq150, .ref gq161, .int (-1)])), (gq150, .inr (2, [.int 0, .ref gq151, .ref gq152, .ref gq153, .ref gq154, .ref gq155, .ref gq156, .int 0, .ref gq157, .ref gq158, .ref gq159, .int 0, .ref gq160]))] [] sz)) (va_Qi (fun (_ : Int32) (_ : Unit) => False) (fun _ _ => True) (va_A [(gx, .inr (11, [.ref gq1, .ref gq4, .ref gq13, .ref gq136, .ref gq137, .ref gq138, .ref gq172, .ref gq184, .ref gq150, .ref gq161, .int (-1)])), (gq150, .inr (2, [.int 0, .ref gq151, .ref gq152, .ref gq153, .ref gq154, .ref gq155, .ref gq156, .int 0, .ref gq157, .ref gq158, .ref gq159, .int 0, .ref gq160]))] sz)) (vx_X (fun (_ : Unit) => True) (fun E _ t => E = "java/lang/IndexOutOfBoundsException" ∧ POST dC dI [] [] (va_A [(gx, .inr (11, [.ref gq1, .ref gq4, .ref gq13, .ref gq136, .ref gq137, .ref gq138, .ref gq172, .ref gq184, .ref gq150, .ref gq161, .int (-1)])), (gq150, .inr (2, [.int 0, .ref gq151, .ref gq152, .ref gq153, .ref gq154, .ref gq155, .ref gq156, .int 0, .ref gq157, .ref gq158, .ref gq159, .int 0, .ref gq160]))] sz) t) (va_A [(gx, .inr (11, [.ref gq1, .ref gq4, .ref gq13, .ref gq136, .ref gq137, .ref gq138, .ref gq172, .ref gq184, .ref gq150, .ref gq161, .int (-1)])), (gq150, .inr (2, [.int 0, .ref gq151, .ref gq152, .ref gq153, .ref gq154, .ref gq155, .ref gq156, .int 0, .ref gq157, .ref gq158, .ref gq159, .int 0, .ref gq160]))] sz)) 1 6 (va_A [(gx, .inr (11, [.ref gq1, .ref gq4, .ref gq13, .ref gq136, .ref gq137, .ref gq138, .ref gq172, .ref gq184, .ref gq150, .ref gq161, .int (-1)])), (gq150, .inr (2, [.int 0, .ref gq151, .ref gq152, .ref gq153, .ref gq154, .ref gq155, .ref gq156, .int 0, .ref gq157, .ref gq158, .ref gq159, .int 0, .ref gq160]))] sz) := by
  refine vx_ofW (cc := cX11_endOf) (maxL := 3) (ret := (Option.some Jvm.ClassFile.FieldType.int)) (by decide) rfl ?_
  intro p e s m args below meth c s₁ B hml hnt hv
  obtain ⟨rfl, hsz, hP, hK, hD0, hE⟩ := hv
  have hx := B.exec
  have hb := B.bytes
  have hr := B.returns
  have hts0 := atoms_spec (ws := wz yX11_endOf cX11_endOf 3 (Option.some Jvm.ClassFile.FieldType.int)) B.pre
  have hts : ∀ w ∈ gw, w.before _ s = true := fun w h => hts0 w (List.mem_cons_of_mem _ h)
  have hown : s.vm.findClass RX11 = some m.cls := findClass_of_methodNamed B.named
  have hlocks := B.notSynchronized
  subst hsz
  have hD := hD0.self (sz := s.heap.size)
  generalize hAe : va_A [(gx, .inr (11, [.ref gq1, .ref gq4, .ref gq13, .ref gq136, .ref gq137, .ref gq138, .ref gq172, .ref gq184, .ref gq150, .ref gq161, .int (-1)])), (gq150, .inr (2, [.int 0, .ref gq151, .ref gq152, .ref gq153, .ref gq154, .ref gq155, .ref gq156, .int 0, .ref gq157, .ref gq158, .ref gq159, .int 0, .ref gq160]))] s.heap.size = A at hD hE ⊢
  have hA : ∀ q : Nat, s.heap.size ≤ q → A q := fun q h => by rw [← hAe]; exact Or.inr h
  have hS : va_S A s.heap s.heap [] := va_S.rf
  have hP : va_P (dC, dI) cls [(gx, .inr (11, [.ref gq1, .ref gq4, .ref gq13, .ref gq136, .ref gq137, .ref gq138, .ref gq172, .ref gq184, .ref gq150, .ref gq161, .int (-1)])), (gq150, .inr (2, [.int 0, .ref gq151, .ref gq152, .ref gq153, .ref gq154, .ref gq155, .ref gq156, .int 0, .ref gq157, .ref gq158, .ref gq159, .int 0, .ref gq160]))] s.heap := hP
  have hl := lv_entry ([.ref gx, .int p0, .int p1]) (n := 3) (Nat.le_of_ble_eq_true rfl)
  rw [lg_entry_eq]
  generalize (lg_sl ([.ref gx, .int p0, .int p1]) ++ List.replicate (3 - (lg_sl ([.ref gx, .int p0, .int p1])).length) Slot.unset).toArray = ls at hl ⊢
  have hl : lv_has ls 3 [(0, .ref gx), (1, .int p0), (2, .int p1)] := hl
  refine lv_aload_n hx hb dX11_endOf_0 rfl (lv_at hl 0 rfl) ?_
  refine lv_iload_n hx hb dX11_endOf_1 rfl (lv_at hl 1 rfl) ?_
  refine lv_iload_n hx hb dX11_endOf_2 rfl (lv_at hl 2 rfl) ?_
  have hPc := hP.sub (ws' := [(gx, .inr (11, [.ref gq1, .ref gq4, .ref gq13, .ref gq136, .ref gq137, .ref gq138, .ref gq172, .ref gq184, .ref gq150, .ref gq161, .int (-1)])), (gq150, .inr (2, [.int 0, .ref gq151, .ref gq152, .ref gq153, .ref gq154, .ref gq155, .ref gq156, .int 0, .ref gq157, .ref gq158, .ref gq159, .int 0, .ref gq160]))]) [0, 1] rfl
  have hDc := hD.sub (ws' := [(gx, .inr (11, [.ref gq1, .ref gq4, .ref gq13, .ref gq136, .ref gq137, .ref gq138, .ref gq172, .ref gq184, .ref gq150, .ref gq161, .int (-1)])), (gq150, .inr (2, [.int 0, .ref gq151, .ref gq152, .ref gq153, .ref gq154, .ref gq155, .ref gq156, .int 0, .ref gq157, .ref gq158, .ref gq159, .int 0, .ref gq160]))]) [0, 1] (by decide) rfl
  have hKc := hK.sub (tys' := []) [] rfl
  have hFc := va_free (wc := [(gx, .inr (11, [.ref gq1, .ref gq4, .ref gq13, .ref gq136, .ref gq137, .ref gq138, .ref gq172, .ref gq184, .ref gq150, .ref gq161, .int (-1)])), (gq150, .inr (2, [.int 0, .ref gq151, .ref gq152, .ref gq153, .ref gq154, .ref gq155, .ref gq156, .int 0, .ref gq157, .ref gq158, .ref gq159, .int 0, .ref gq160]))]) hD hS hA [0, 1] rfl
  refine vx_callr (vx_runV (As := [.int p0, .int p1]) (rest := []) ⟨hx, hb, hml, hown, hts⟩ (kX11_flowWith_n7 l dC dI (a0 := gx) (i1 := p0) (i2 := p1) (a3 := gq1) (a4 := gq4) (a5 := gq13) (a6 := gq136) (a7 := gq137) (a8 := gq138) (a9 := gq172) (a10 := gq184) (a11 := gq150) (a12 := gq161) (a34 := gq151) (a35 := gq152) (a36 := gq153) (a37 := gq154) (a38 := gq155) (a39 := gq156) (a40 := gq157) (a41 := gq158) (a42 := gq159) (a43 := gq160) (sz := _) (hl9 := hl9)) (cwV 2 hts (gi_V qw249 qw250 qw251 qw222 (gi_z qw248)) rfl rfl rfl (by decide +kernel) ⟨Nat.le_of_ble_eq_true rfl, Nat.le_of_ble_eq_true rfl⟩) ⟨PRE.blind, va_recv hKc hPc (ci := 11) (q0 := 0) rfl rfl, PRE.of hE hS hFc hPc hKc hDc⟩ rfl rfl hl.1 rfl (lv_room (Nat.le_of_ble_eq_true rfl)) dX11_endOf_3 ⟨Nat.le_of_ble_eq_true rfl, Nat.le_of_ble_eq_true rfl⟩) hS (fun q _ h => hFc q h) hFc (fun q _ h => hFc q h) (fun E ce q9 u t H locs ht hvm hw hB hz1 hk1 hS hce hcv hcl => ?_) (fun u ra t H locs ht hvm hw hB hz1 hk1 hS => hw.elim)
  obtain ⟨rfl, hB⟩ := hB
  obtain ⟨hP, hD, hK⟩ := JOIN (wr := []) hP hD hK [0, 1] [] [] rfl rfl (by decide) (by decide) rfl hk1 hFc ht hvm hB
  have hP : va_P (dC, dI) cls [(gx, .inr (11, [.ref gq1, .ref gq4, .ref gq13, .ref gq136, .ref gq137, .ref gq138, .ref gq172, .ref gq184, .ref gq150, .ref gq161, .int (-1)])), (gq150, .inr (2, [.int 0, .ref gq151, .ref gq152, .ref gq153, .ref gq154, .ref gq155, .ref gq156, .int 0, .ref gq157, .ref gq158, .ref gq159, .int 0, .ref gq160]))] H := hP
  have hD : va_D A [(gx, .inr (11, [.ref gq1, .ref gq4, .ref gq13, .ref gq136, .ref gq137, .ref gq138, .ref gq172, .ref gq184, .ref gq150, .ref gq161, .int (-1)])), (gq150, .inr (2, [.int 0, .ref gq151, .ref gq152, .ref gq153, .ref gq154, .ref gq155, .ref gq156, .int 0, .ref gq157, .ref gq158, .ref gq159, .int 0, .ref gq160]))] := hD
  have hK : va_K (dC, dI) cls [] s := hK
  refine vx_widen (k := 1) (n := 6) (Nat.le_of_ble_eq_true rfl) (Nat.le_of_ble_eq_true rfl) ?_
  have hP9 : va_P (dC, dI) cls [] H := hP.sub [] rfl
  have hD9 : va_D A [] := hD.sub [] (by decide) rfl
  have hK9 : va_K (dC, dI) cls [] s := hK.sub [] rfl
  exact vx_out (fun x hx9 => (hnt x hx9).elim) hlocks hce hcv hcl (fun t ht hal => ⟨(), trivial, ⟨rfl, ⟨by rw [ht]; exact hP9, va_K.moved hal hK9, hD9⟩⟩, hS.F ht⟩) hS.2.2 (Nat.le_of_ble_eq_true rfl) (Nat.le_of_ble_eq_true rfl)
set_option maxHeartbeats 4000000 in
set_option maxRecDepth 100000 in
theorem kX11_successor {zs : Nat × Nat} (l : Launch) (dC : Nat → ClassId) (dI : Nat → Nat → Nat) (gx : Nat) (gq1 : Nat) (gq4 : Nat) (gq13 : Nat) (gq136 : Nat) (gq137 : Nat) (gq138 : Nat) (gq150 : Nat) (gq151 : Nat) (gq152 : Nat) (gq153 : Nat) (gq154 : Nat) (gq155 : Nat) (gq156 : Nat) (gq157 : Nat) (gq158 : Nat) (gq159 : Nat) (gq160 : Nat) (gq161 : Nat) (gq172 : Nat) (gq184 : Nat) (p0 : Int32) (p1 : Int32) (p2 : Int32) (sz : Nat) (hl9 : l.stackTraces = false)  : vx_Met l yX11_successor (wz yX11_successor cX11_successor 5 (Option.some Jvm.ClassFile.FieldType.int)) ({ frames := 8, cells := 1, slots := 6, locals := 143 }) (va_Pc [.ref gx, .int p0, .int p1, .int p2] (PRE zs dC dI [(gx, .inr (11, [.ref gq1, .ref gq4, .ref gq13, .ref gq136, .ref gq137, .ref gq138, .ref gq172, .ref gq184, .ref gq150, .ref gq161, .int (-1)])), (gq150, .inr (2, [.int 0, .ref gq151, .ref gq152, .ref gq153, .ref gq154, .ref gq155, .ref gq156, .int 0, .ref gq157, .ref gq158, .ref gq159, .int 0, .ref gq160]))] [] sz)) (va_Qi (fun (_ : Int32) (_ : Unit) => False) (fun _ _ => True) (va_A [(gx, .inr (11, [.ref gq1, .ref gq4, .ref gq13, .ref gq136, .ref gq137, .ref gq138, .ref gq172, .ref gq184, .ref gq150, .ref gq161, .int (-1)])), (gq150, .inr (2, [.int 0, .ref gq151, .ref gq152, .ref gq153, .ref gq154, .ref gq155, .ref gq156, .int 0, .ref gq157, .ref gq158, .ref gq159, .int 0, .ref gq160]))] sz)) (vx_X (fun (_ : Unit) => True) (fun E _ t => E = "java/lang/IndexOutOfBoundsException" ∧ POST dC dI [] [] (va_A [(gx, .inr (11, [.ref gq1, .ref gq4, .ref gq13, .ref gq136, .ref gq137, .ref gq138, .ref gq172, .ref gq184, .ref gq150, .ref gq161, .int (-1)])), (gq150, .inr (2, [.int 0, .ref gq151, .ref gq152, .ref gq153, .ref gq154, .ref gq155, .ref gq156, .int 0, .ref gq157, .ref gq158, .ref gq159, .int 0, .ref gq160]))] sz) t) (va_A [(gx, .inr (11, [.ref gq1, .ref gq4, .ref gq13, .ref gq136, .ref gq137, .ref gq138, .ref gq172, .ref gq184, .ref gq150, .ref gq161, .int (-1)])), (gq150, .inr (2, [.int 0, .ref gq151, .ref gq152, .ref gq153, .ref gq154, .ref gq155, .ref gq156, .int 0, .ref gq157, .ref gq158, .ref gq159, .int 0, .ref gq160]))] sz)) 1 6 (va_A [(gx, .inr (11, [.ref gq1, .ref gq4, .ref gq13, .ref gq136, .ref gq137, .ref gq138, .ref gq172, .ref gq184, .ref gq150, .ref gq161, .int (-1)])), (gq150, .inr (2, [.int 0, .ref gq151, .ref gq152, .ref gq153, .ref gq154, .ref gq155, .ref gq156, .int 0, .ref gq157, .ref gq158, .ref gq159, .int 0, .ref gq160]))] sz) := by
  refine vx_ofW (cc := cX11_successor) (maxL := 5) (ret := (Option.some Jvm.ClassFile.FieldType.int)) (by decide) rfl ?_
  intro p e s m args below meth c s₁ B hml hnt hv
  obtain ⟨rfl, hsz, hP, hK, hD0, hE⟩ := hv
  have hx := B.exec
  have hb := B.bytes
  have hr := B.returns
  have hts0 := atoms_spec (ws := wz yX11_successor cX11_successor 5 (Option.some Jvm.ClassFile.FieldType.int)) B.pre
  have hts : ∀ w ∈ gw, w.before _ s = true := fun w h => hts0 w (List.mem_cons_of_mem _ h)
  have hown : s.vm.findClass RX11 = some m.cls := findClass_of_methodNamed B.named
  have hlocks := B.notSynchronized
  subst hsz
  have hD := hD0.self (sz := s.heap.size)
  generalize hAe : va_A [(gx, .inr (11, [.ref gq1, .ref gq4, .ref gq13, .ref gq136, .ref gq137, .ref gq138, .ref gq172, .ref gq184, .ref gq150, .ref gq161, .int (-1)])), (gq150, .inr (2, [.int 0, .ref gq151, .ref gq152, .ref gq153, .ref gq154, .ref gq155, .ref gq156, .int 0, .ref gq157, .ref gq158, .ref gq159, .int 0, .ref gq160]))] s.heap.size = A at hD hE ⊢
  have hA : ∀ q : Nat, s.heap.size ≤ q → A q := fun q h => by rw [← hAe]; exact Or.inr h
  have hS : va_S A s.heap s.heap [] := va_S.rf
  have hP : va_P (dC, dI) cls [(gx, .inr (11, [.ref gq1, .ref gq4, .ref gq13, .ref gq136, .ref gq137, .ref gq138, .ref gq172, .ref gq184, .ref gq150, .ref gq161, .int (-1)])), (gq150, .inr (2, [.int 0, .ref gq151, .ref gq152, .ref gq153, .ref gq154, .ref gq155, .ref gq156, .int 0, .ref gq157, .ref gq158, .ref gq159, .int 0, .ref gq160]))] s.heap := hP
  have hl := lv_entry ([.ref gx, .int p0, .int p1, .int p2]) (n := 5) (Nat.le_of_ble_eq_true rfl)
  rw [lg_entry_eq]
  generalize (lg_sl ([.ref gx, .int p0, .int p1, .int p2]) ++ List.replicate (5 - (lg_sl ([.ref gx, .int p0, .int p1, .int p2])).length) Slot.unset).toArray = ls at hl ⊢
  have hl : lv_has ls 5 [(0, .ref gx), (1, .int p0), (2, .int p1), (3, .int p2)] := hl
  refine lv_aload_n hx hb dX11_successor_0 rfl (lv_at hl 0 rfl) ?_
  refine lv_iload_n hx hb dX11_successor_1 rfl (lv_at hl 1 rfl) ?_
  refine lv_iload_n hx hb dX11_successor_2 rfl (lv_at hl 2 rfl) ?_
  have hPc := hP.sub (ws' := [(gx, .inr (11, [.ref gq1, .ref gq4, .ref gq13, .ref gq136, .ref gq137, .ref gq138, .ref gq172, .ref gq184, .ref gq150, .ref gq161, .int (-1)])), (gq150, .inr (2, [.int 0, .ref gq151, .ref gq152, .ref gq153, .ref gq154, .ref gq155, .ref gq156, .int 0, .ref gq157, .ref gq158, .ref gq159, .int 0, .ref gq160]))]) [0, 1] rfl
  have hDc := hD.sub (ws' := [(gx, .inr (11, [.ref gq1, .ref gq4, .ref gq13, .ref gq136, .ref gq137, .ref gq138, .ref gq172, .ref gq184, .ref gq150, .ref gq161, .int (-1)])), (gq150, .inr (2, [.int 0, .ref gq151, .ref gq152, .ref gq153, .ref gq154, .ref gq155, .ref gq156, .int 0, .ref gq157, .ref gq158, .ref gq159, .int 0, .ref gq160]))]) [0, 1] (by decide) rfl
  have hKc := hK.sub (tys' := []) [] rfl
  have hFc := va_free (wc := [(gx, .inr (11, [.ref gq1, .ref gq4, .ref gq13, .ref gq136, .ref gq137, .ref gq138, .ref gq172, .ref gq184, .ref gq150, .ref gq161, .int (-1)])), (gq150, .inr (2, [.int 0, .ref gq151, .ref gq152, .ref gq153, .ref gq154, .ref gq155, .ref gq156, .int 0, .ref gq157, .ref gq158, .ref gq159, .int 0, .ref gq160]))]) hD hS hA [0, 1] rfl
  refine vx_callr (vx_runV (As := [.int p0, .int p1]) (rest := []) ⟨hx, hb, hml, hown, hts⟩ (kX11_flowWith_n7 l dC dI (a0 := gx) (i1 := p0) (i2 := p1) (a3 := gq1) (a4 := gq4) (a5 := gq13) (a6 := gq136) (a7 := gq137) (a8 := gq138) (a9 := gq172) (a10 := gq184) (a11 := gq150) (a12 := gq161) (a34 := gq151) (a35 := gq152) (a36 := gq153) (a37 := gq154) (a38 := gq155) (a39 := gq156) (a40 := gq157) (a41 := gq158) (a42 := gq159) (a43 := gq160) (sz := _) (hl9 := hl9)) (cwV 2 hts (gi_V qw249 qw250 qw251 qw222 (gi_z qw248)) rfl rfl rfl (by decide +kernel) ⟨Nat.le_of_ble_eq_true rfl, Nat.le_of_ble_eq_true rfl⟩) ⟨PRE.blind, va_recv hKc hPc (ci := 11) (q0 := 0) rfl rfl, PRE.of hE hS hFc hPc hKc hDc⟩ rfl rfl hl.1 rfl (lv_room (Nat.le_of_ble_eq_true rfl)) dX11_successor_3 ⟨Nat.le_of_ble_eq_true rfl, Nat.le_of_ble_eq_true rfl⟩) hS (fun q _ h => hFc q h) hFc (fun q _ h => hFc q h) (fun E ce q9 u t H locs ht hvm hw hB hz1 hk1 hS hce hcv hcl => ?_) (fun u ra t H locs ht hvm hw hB hz1 hk1 hS => hw.elim)
  obtain ⟨rfl, hB⟩ := hB
  obtain ⟨hP, hD, hK⟩ := JOIN (wr := []) hP hD hK [0, 1] [] [] rfl rfl (by decide) (by decide) rfl hk1 hFc ht hvm hB
  have hP : va_P (dC, dI) cls [(gx, .inr (11, [.ref gq1, .ref gq4, .ref gq13, .ref gq136, .ref gq137, .ref gq138, .ref gq172, .ref gq184, .ref gq150, .ref gq161, .int (-1)])), (gq150, .inr (2, [.int 0, .ref gq151, .ref gq152, .ref gq153, .ref gq154, .ref gq155, .ref gq156, .int 0, .ref gq157, .ref gq158, .ref gq159, .int 0, .ref gq160]))] H := hP
  have hD : va_D A [(gx, .inr (11, [.ref gq1, .ref gq4, .ref gq13, .ref gq136, .ref gq137, .ref gq138, .ref gq172, .ref gq184, .ref gq150, .ref gq161, .int (-1)])), (gq150, .inr (2, [.int 0, .ref gq151, .ref gq152, .ref gq153, .ref gq154, .ref gq155, .ref gq156, .int 0, .ref gq157, .ref gq158, .ref gq159, .int 0, .ref gq160]))] := hD
  have hK : va_K (dC, dI) cls [] s := hK
  refine vx_widen (k := 1) (n := 6) (Nat.le_of_ble_eq_true rfl) (Nat.le_of_ble_eq_true rfl) ?_
  have hP9 : va_P (dC, dI) cls [] H := hP.sub [] rfl
  have hD9 : va_D A [] := hD.sub [] (by decide) rfl
  have hK9 : va_K (dC, dI) cls [] s := hK.sub [] rfl
  exact vx_out (fun x hx9 => (hnt x hx9).elim) hlocks hce hcv hcl (fun t ht hal => ⟨(), trivial, ⟨rfl, ⟨by rw [ht]; exact hP9, va_K.moved hal hK9, hD9⟩⟩, hS.F ht⟩) hS.2.2 (Nat.le_of_ble_eq_true rfl) (Nat.le_of_ble_eq_true rfl)
set_option maxHeartbeats 4000000 in
set_option maxRecDepth 100000 in
theorem kX11_endValue {zs : Nat × Nat} (l : Launch) (dC : Nat → ClassId) (dI : Nat → Nat → Nat) (gx : Nat) (gq1 : Nat) (gq4 : Nat) (gq13 : Nat) (gq136 : Nat) (gq137 : Nat) (gq138 : Nat) (gq150 : Nat) (gq151 : Nat) (gq152 : Nat) (gq153 : Nat) (gq154 : Nat) (gq155 : Nat) (gq156 : Nat) (gq157 : Nat) (gq158 : Nat) (gq159 : Nat) (gq160 : Nat) (gq161 : Nat) (gq172 : Nat) (gq184 : Nat) (p0 : Int32) (p1 : Int32) (sz : Nat) (hl9 : l.stackTraces = false)  : vx_Met l yX11_endValue (wz yX11_endValue cX11_endValue 3 (Option.some Jvm.ClassFile.FieldType.int)) ({ frames := 8, cells := 1, slots := 6, locals := 143 }) (va_Pc [.ref gx, .int p0, .int p1] (PRE zs dC dI [(gx, .inr (11, [.ref gq1, .ref gq4, .ref gq13, .ref gq136, .ref gq137, .ref gq138, .ref gq172, .ref gq184, .ref gq150, .ref gq161, .int (-1)])), (gq150, .inr (2, [.int 0, .ref gq151, .ref gq152, .ref gq153, .ref gq154, .ref gq155, .ref gq156, .int 0, .ref gq157, .ref gq158, .ref gq159, .int 0, .ref gq160]))] [] sz)) (va_Qi (fun (_ : Int32) (_ : Unit) => False) (fun _ _ => True) (va_A [(gx, .inr (11, [.ref gq1, .ref gq4, .ref gq13, .ref gq136, .ref gq137, .ref gq138, .ref gq172, .ref gq184, .ref gq150, .ref gq161, .int (-1)])), (gq150, .inr (2, [.int 0, .ref gq151, .ref gq152, .ref gq153, .ref gq154, .ref gq155, .ref gq156, .int 0, .ref gq157, .ref gq158, .ref gq159, .int 0, .ref gq160]))] sz)) (vx_X (fun (_ : Unit) => True) (fun E _ t => E = "java/lang/IndexOutOfBoundsException" ∧ POST dC dI [] [] (va_A [(gx, .inr (11, [.ref gq1, .ref gq4, .ref gq13, .ref gq136, .ref gq137, .ref gq138, .ref gq172, .ref gq184, .ref gq150, .ref gq161, .int (-1)])), (gq150, .inr (2, [.int 0, .ref gq151, .ref gq152, .ref gq153, .ref gq154, .ref gq155, .ref gq156, .int 0, .ref gq157, .ref gq158, .ref gq159, .int 0, .ref gq160]))] sz) t) (va_A [(gx, .inr (11, [.ref gq1, .ref gq4, .ref gq13, .ref gq136, .ref gq137, .ref gq138, .ref gq172, .ref gq184, .ref gq150, .ref gq161, .int (-1)])), (gq150, .inr (2, [.int 0, .ref gq151, .ref gq152, .ref gq153, .ref gq154, .ref gq155, .ref gq156, .int 0, .ref gq157, .ref gq158, .ref gq159, .int 0, .ref gq160]))] sz)) 1 6 (va_A [(gx, .inr (11, [.ref gq1, .ref gq4, .ref gq13, .ref gq136, .ref gq137, .ref gq138, .ref gq172, .ref gq184, .ref gq150, .ref gq161, .int (-1)])), (gq150, .inr (2, [.int 0, .ref gq151, .ref gq152, .ref gq153, .ref gq154, .ref gq155, .ref gq156, .int 0, .ref gq157, .ref gq158, .ref gq159, .int 0, .ref gq160]))] sz) := by
  refine vx_ofW (cc := cX11_endValue) (maxL := 3) (ret := (Option.some Jvm.ClassFile.FieldType.int)) (by decide) rfl ?_
  intro p e s m args below meth c s₁ B hml hnt hv
  obtain ⟨rfl, hsz, hP, hK, hD0, hE⟩ := hv
  have hx := B.exec
  have hb := B.bytes
  have hr := B.returns
  have hts0 := atoms_spec (ws := wz yX11_endValue cX11_endValue 3 (Option.some Jvm.ClassFile.FieldType.int)) B.pre
  have hts : ∀ w ∈ gw, w.before _ s = true := fun w h => hts0 w (List.mem_cons_of_mem _ h)
  have hown : s.vm.findClass RX11 = some m.cls := findClass_of_methodNamed B.named
  have hlocks := B.notSynchronized
  subst hsz
  have hD := hD0.self (sz := s.heap.size)
  generalize hAe : va_A [(gx, .inr (11, [.ref gq1, .ref gq4, .ref gq13, .ref gq136, .ref gq137, .ref gq138, .ref gq172, .ref gq184, .ref gq150, .ref gq161, .int (-1)])), (gq150, .inr (2, [.int 0, .ref gq151, .ref gq152, .ref gq153, .ref gq154, .ref gq155, .ref gq156, .int 0, .ref gq157, .ref gq158, .ref gq159, .int 0, .ref gq160]))] s.heap.size = A at hD hE ⊢
  have hA : ∀ q : Nat, s.heap.size ≤ q → A q := fun q h => by rw [← hAe]; exact Or.inr h
  have hS : va_S A s.heap s.heap [] := va_S.rf
  have hP : va_P (dC, dI) cls [(gx, .inr (11, [.ref gq1, .ref gq4, .ref gq13, .ref gq136, .ref gq137, .ref gq138, .ref gq172, .ref gq184, .ref gq150, .ref gq161, .int (-1)])), (gq150, .inr (2, [.int 0, .ref gq151, .ref gq152, .ref gq153, .ref gq154, .ref gq155, .ref gq156, .int 0, .ref gq157, .ref gq158, .ref gq159, .int 0, .ref gq160]))] s.heap := hP
  have hl := lv_entry ([.ref gx, .int p0, .int p1]) (n := 3) (Nat.le_of_ble_eq_true rfl)
  rw [lg_entry_eq]
  generalize (lg_sl ([.ref gx, .int p0, .int p1]) ++ List.replicate (3 - (lg_sl ([.ref gx, .int p0, .int p1])).length) Slot.unset).toArray = ls at hl ⊢
  have hl : lv_has ls 3 [(0, .ref gx), (1, .int p0), (2, .int p1)] := hl
  refine lv_aload_n hx hb dX11_endValue_0 rfl (lv_at hl 0 rfl) ?_
  refine lv_iload_n hx hb dX11_endValue_1 rfl (lv_at hl 1 rfl) ?_
  refine lv_iload_n hx hb dX11_endValue_2 rfl (lv_at hl 2 rfl) ?_
  have hPc := hP.sub (ws' := [(gx, .inr (11, [.ref gq1, .ref gq4, .ref gq13, .ref gq136, .ref gq137, .ref gq138, .ref gq172, .ref gq184, .ref gq150, .ref gq161, .int (-1)])), (gq150, .inr (2, [.int 0, .ref gq151, .ref gq152, .ref gq153, .ref gq154, .ref gq155, .ref gq156, .int 0, .ref gq157, .ref gq158, .ref gq159, .int 0, .ref gq160]))]) [0, 1] rfl
  have hDc := hD.sub (ws' := [(gx, .inr (11, [.ref gq1, .ref gq4, .ref gq13, .ref gq136, .ref gq137, .ref gq138, .ref gq172, .ref gq184, .ref gq150, .ref gq161, .int (-1)])), (gq150, .inr (2, [.int 0, .ref gq151, .ref gq152, .ref gq153, .ref gq154, .ref gq155, .ref gq156, .int 0, .ref gq157, .ref gq158, .ref gq159, .int 0, .ref gq160]))]) [0, 1] (by decide) rfl
  have hKc := hK.sub (tys' := []) [] rfl
  have hFc := va_free (wc := [(gx, .inr (11, [.ref gq1, .ref gq4, .ref gq13, .ref gq136, .ref gq137, .ref gq138, .ref gq172, .ref gq184, .ref gq150, .ref gq161, .int (-1)])), (gq150, .inr (2, [.int 0, .ref gq151, .ref gq152, .ref gq153, .ref gq154, .ref gq155, .ref gq156, .int 0, .ref gq157, .ref gq158, .ref gq159, .int 0, .ref gq160]))]) hD hS hA [0, 1] rfl
  refine vx_callr (vx_runV (As := [.int p0, .int p1]) (rest := []) ⟨hx, hb, hml, hown, hts⟩ (kX11_flowWith_n7 l dC dI (a0 := gx) (i1 := p0) (i2 := p1) (a3 := gq1) (a4 := gq4) (a5 := gq13) (a6 := gq136) (a7 := gq137) (a8 := gq138) (a9 := gq172) (a10 := gq184) (a11 := gq150) (a12 := gq161) (a34 := gq151) (a35 := gq152) (a36 := gq153) (a37 := gq154) (a38 := gq155) (a39 := gq156) (a40 := gq157) (a41 := gq158) (a42 := gq159) (a43 := gq160) (sz := _) (hl9 := hl9)) (cwV 2 hts (gi_V qw249 qw250 qw251 qw222 (gi_z qw248)) rfl rfl rfl (by decide +kernel) ⟨Nat.le_of_ble_eq_true rfl, Nat.le_of_ble_eq_true rfl⟩) ⟨PRE.blind, va_recv hKc hPc (ci := 11) (q0 := 0) rfl rfl, PRE.of hE hS hFc hPc hKc hDc⟩ rfl rfl hl.1 rfl (lv_room (Nat.le_of_ble_eq_true rfl)) dX11_endValue_3 ⟨Nat.le_of_ble_eq_true rfl, Nat.le_of_ble_eq_true rfl⟩) hS (fun q _ h => hFc q h) hFc (fun q _ h => hFc q h) (fun E ce q9 u t H locs ht hvm hw hB hz1 hk1 hS hce hcv hcl => ?_) (fun u ra t H locs ht hvm hw hB hz1 hk1 hS => hw.elim)
  obtain ⟨rfl, hB⟩ := hB
  obtain ⟨hP, hD, hK⟩ := JOIN (wr := []) hP hD hK [0, 1] [] [] rfl rfl (by decide) (by decide) rfl hk1 hFc ht hvm hB
  have hP : va_P (dC, dI) cls [(gx, .inr (11, [.ref gq1, .ref gq4, .ref gq13, .ref gq136, .ref gq137, .ref gq138, .ref gq172, .ref gq184, .ref gq150, .ref gq161, .int (-1)])), (gq150, .inr (2, [.int 0, .ref gq151, .ref gq152, .ref gq153, .ref gq154, .ref gq155, .ref gq156, .int 0, .ref gq157, .ref gq158, .ref gq159, .int 0, .ref gq160]))] H := hP
  have hD : va_D A [(gx, .inr (11, [.ref gq1, .ref gq4, .ref gq13, .ref gq136, .ref gq137, .ref gq138, .ref gq172, .ref gq184, .ref gq150, .ref gq161, .int (-1)])), (gq150, .inr (2, [.int 0, .ref gq151, .ref gq152, .ref gq153, .ref gq154, .ref gq155, .ref gq156, .int 0, .ref gq157, .ref gq158, .ref gq159, .int 0, .ref gq160]))] := hD
  have hK : va_K (dC, dI) cls [] s := hK
  refine vx_widen (k := 1) (n := 6) (Nat.le_of_ble_eq_true rfl) (Nat.le_of_ble_eq_true rfl) ?_
  have hP9 : va_P (dC, dI) cls [] H := hP.sub [] rfl
  have hD9 : va_D A [] := hD.sub [] (by decide) rfl
  have hK9 : va_K (dC, dI) cls [] s := hK.sub [] rfl
  exact vx_out (fun x hx9 => (hnt x hx9).elim) hlocks hce hcv hcl (fun t ht hal => ⟨(), trivial, ⟨rfl, ⟨by rw [ht]; exact hP9, va_K.moved hal hK9, hD9⟩⟩, hS.F ht⟩) hS.2.2 (Nat.le_of_ble_eq_true rfl) (Nat.le_of_ble_eq_true rfl)
set_option maxHeartbeats 4000000 in
set_option maxRecDepth 100000 in
theorem kX11_phis {zs : Nat × Nat} (l : Launch) (dC : Nat → ClassId) (dI : Nat → Nat → Nat) (gx : Nat) (gq1 : Nat) (gq4 : Nat) (gq13 : Nat) (gq136 : Nat) (gq137 : Nat) (gq138 : Nat) (gq150 : Nat) (gq151 : Nat) (gq152 : Nat) (gq153 : Nat) (gq154 : Nat) (gq155 : Nat) (gq156 : Nat) (gq157 : Nat) (gq158 : Nat) (gq159 : Nat) (gq160 : Nat) (gq161 : Nat) (gq172 : Nat) (gq184 : Nat) (p0 : Int32) (p1 : Int32) (sz : Nat) (hl9 : l.stackTraces = false)  : vx_Met l yX11_phis (wz yX11_phis cX11_phis 3 (Option.some Jvm.ClassFile.FieldType.int)) ({ frames := 8, cells := 1, slots := 6, locals := 143 }) (va_Pc [.ref gx, .int p0, .int p1] (PRE zs dC dI [(gx, .inr (11, [.ref gq1, .ref gq4, .ref gq13, .ref gq136, .ref gq137, .ref gq138, .ref gq172, .ref gq184, .ref gq150, .ref gq161, .int (-1)])), (gq150, .inr (2, [.int 0, .ref gq151, .ref gq152, .ref gq153, .ref gq154, .ref gq155, .ref gq156, .int 0, .ref gq157, .ref gq158, .ref gq159, .int 0, .ref gq160]))] [] sz)) (va_Qi (fun (_ : Int32) (_ : Unit) => False) (fun _ _ => True) (va_A [(gx, .inr (11, [.ref gq1, .ref gq4, .ref gq13, .ref gq136, .ref gq137, .ref gq138, .ref gq172, .ref gq184, .ref gq150, .ref gq161, .int (-1)])), (gq150, .inr (2, [.int 0, .ref gq151, .ref gq152, .ref gq153, .ref gq154, .ref gq155, .ref gq156, .int 0, .ref gq157, .ref gq158, .ref gq159, .int 0, .ref gq160]))] sz)) (vx_X (fun (_ : Unit) => True) (fun E _ t => E = "java/lang/IndexOutOfBoundsException" ∧ POST dC dI [] [] (va_A [(gx, .inr (11, [.ref gq1, .ref gq4, .ref gq13, .ref gq136, .ref gq137, .ref gq138, .ref gq172, .ref gq184, .ref gq150, .ref gq161, .int (-1)])), (gq150, .inr (2, [.int 0, .ref gq151, .ref gq152, .ref gq153, .ref gq154, .ref gq155, .ref gq156, .int 0, .ref gq157, .ref gq158, .ref gq159, .int 0, .ref gq160]))] sz) t) (va_A [(gx, .inr (11, [.ref gq1, .ref gq4, .ref gq13, .ref gq136, .ref gq137, .ref gq138, .ref gq172, .ref gq184, .ref gq150, .ref gq161, .int (-1)])), (gq150, .inr (2, [.int 0, .ref gq151, .ref gq152, .ref gq153, .ref gq154, .ref gq155, .ref gq156, .int 0, .ref gq157, .ref gq158, .ref gq159, .int 0, .ref gq160]))] sz)) 1 6 (va_A [(gx, .inr (11, [.ref gq1, .ref gq4, .ref gq13, .ref gq136, .ref gq137, .ref gq138, .ref gq172, .ref gq184, .ref gq150, .ref gq161, .int (-1)])), (gq150, .inr (2, [.int 0, .ref gq151, .ref gq152, .ref gq153, .ref gq154, .ref gq155, .ref gq156, .int 0, .ref gq157, .ref gq158, .ref gq159, .int 0, .ref gq160]))] sz) := by
  refine vx_ofW (cc := cX11_phis) (maxL := 3) (ret := (Option.some Jvm.ClassFile.FieldType.int)) (by decide) rfl ?_
  intro p e s m args below meth c s₁ B hml hnt hv
  obtain ⟨rfl, hsz, hP, hK, hD0, hE⟩ := hv
  have hx := B.exec
  have hb := B.bytes
  have hr := B.returns
  have hts0 := atoms_spec (ws := wz yX11_phis cX11_phis 3 (Option.some Jvm.ClassFile.FieldType.int)) B.pre
  have hts : ∀ w ∈ gw, w.before _ s = true := fun w h => hts0 w (List.mem_cons_of_mem _ h)
  have hown : s.vm.findClass RX11 = some m.cls := findClass_of_methodNamed B.named
  have hlocks := B.notSynchronized
  subst hsz
  have hD := hD0.self (sz := s.heap.size)
  generalize hAe : va_A [(gx, .inr (11, [.ref gq1, .ref gq4, .ref gq13, .ref gq136, .ref gq137, .ref gq138, .ref gq172, .ref gq184, .ref gq150, .ref gq161, .int (-1)])), (gq150, .inr (2, [.int 0, .ref gq151, .ref gq152, .ref gq153, .ref gq154, .ref gq155, .ref gq156, .int 0, .ref gq157, .ref gq158, .ref gq159, .int 0, .ref gq160]))] s.heap.size = A at hD hE ⊢
  have hA : ∀ q : Nat, s.heap.size ≤ q → A q := fun q h => by rw [← hAe]; exact Or.inr h
  have hS : va_S A s.heap s.heap [] := va_S.rf
  have hP : va_P (dC, dI) cls [(gx, .inr (11, [.ref gq1, .ref gq4, .ref gq13, .ref gq136, .ref gq137, .ref gq138, .ref gq172, .ref gq184, .ref gq150, .ref gq161, .int (-1)])), (gq150, .inr (2, [.int 0, .ref gq151, .ref gq152, .ref gq153, .ref gq154, .ref gq155, .ref gq156, .int 0, .ref gq157, .ref gq158, .ref gq159, .int 0, .ref gq160]))] s.heap := hP
  have hl := lv_entry ([.ref gx, .int p0, .int p1]) (n := 3) (Nat.le_of_ble_eq_true rfl)
  rw [lg_entry_eq]
  generalize (lg_sl ([.ref gx, .int p0, .int p1]) ++ List.replicate (3 - (lg_sl ([.ref gx, .int p0, .int p1])).length) Slot.unset).toArray = ls at hl ⊢
  have hl : lv_has ls 3 [(0, .ref gx), (1, .int p0), (2, .int p1)] := hl
  refine lv_aload_n hx hb dX11_phis_0 rfl (lv_at hl 0 rfl) ?_
  refine lv_iload_n hx hb dX11_phis_1 rfl (lv_at hl 1 rfl) ?_
  refine lv_iload_n hx hb dX11_phis_2 rfl (lv_at hl 2 rfl) ?_
  have hPc := hP.sub (ws' := [(gx, .inr (11, [.ref gq1, .ref gq4, .ref gq13, .ref gq136, .ref gq137, .ref gq138, .ref gq172, .ref gq184, .ref gq150, .ref gq161, .int (-1)])), (gq150, .inr (2, [.int 0, .ref gq151, .ref gq152, .ref gq153, .ref gq154, .ref gq155, .ref gq156, .int 0, .ref gq157, .ref gq158, .ref gq159, .int 0, .ref gq160]))]) [0, 1] rfl
  have hDc := hD.sub (ws' := [(gx, .inr (11, [.ref gq1, .ref gq4, .ref gq13, .ref gq136, .ref gq137, .ref gq138, .ref gq172, .ref gq184, .ref gq150, .ref gq161, .int (-1)])), (gq150, .inr (2, [.int 0, .ref gq151, .ref gq152, .ref gq153, .ref gq154, .ref gq155, .ref gq156, .int 0, .ref gq157, .ref gq158, .ref gq159, .int 0, .ref gq160]))]) [0, 1] (by decide) rfl
  have hKc := hK.sub (tys' := []) [] rfl
  have hFc := va_free (wc := [(gx, .inr (11, [.ref gq1, .ref gq4, .ref gq13, .ref gq136, .ref gq137, .ref gq138, .ref gq172, .ref gq184, .ref gq150, .ref gq161, .int (-1)])), (gq150, .inr (2, [.int 0, .ref gq151, .ref gq152, .ref gq153, .ref gq154, .ref gq155, .ref gq156, .int 0, .ref gq157, .ref gq158, .ref gq159, .int 0, .ref gq160]))]) hD hS hA [0, 1] rfl
  refine vx_callr (vx_runV (As := [.int p0, .int p1]) (rest := []) ⟨hx, hb, hml, hown, hts⟩ (kX11_flowWith_n7 l dC dI (a0 := gx) (i1 := p0) (i2 := p1) (a3 := gq1) (a4 := gq4) (a5 := gq13) (a6 := gq136) (a7 := gq137) (a8 := gq138) (a9 := gq172) (a10 := gq184) (a11 := gq150) (a12 := gq161) (a34 := gq151) (a35 := gq152) (a36 := gq153) (a37 := gq154) (a38 := gq155) (a39 := gq156) (a40 := gq157) (a41 := gq158) (a42 := gq159) (a43 := gq160) (sz := _) (hl9 := hl9)) (cwV 2 hts (gi_V qw249 qw250 qw251 qw222 (gi_z qw248)) rfl rfl rfl (by decide +kernel) ⟨Nat.le_of_ble_eq_true rfl, Nat.le_of_ble_eq_true rfl⟩) ⟨PRE.blind, va_recv hKc hPc (ci := 11) (q0 := 0) rfl rfl, PRE.of hE hS hFc hPc hKc hDc⟩ rfl rfl hl.1 rfl (lv_room (Nat.le_of_ble_eq_true rfl)) dX11_phis_3 ⟨Nat.le_of_ble_eq_true rfl, Nat.le_of_ble_eq_true rfl⟩) hS (fun q _ h => hFc q h) hFc (fun q _ h => hFc q h) (fun E ce q9 u t H locs ht hvm hw hB hz1 hk1 hS hce hcv hcl => ?_) (fun u ra t H locs ht hvm hw hB hz1 hk1 hS => hw.elim)
  obtain ⟨rfl, hB⟩ := hB
  obtain ⟨hP, hD, hK⟩ := JOIN (wr := []) hP hD hK [0, 1] [] [] rfl rfl (by decide) (by decide) rfl hk1 hFc ht hvm hB
  have hP : va_P (dC, dI) cls [(gx, .inr (11, [.ref gq1, .ref gq4, .ref gq13, .ref gq136, .ref gq137, .ref gq138, .ref gq172, .ref gq184, .ref gq150, .ref gq161, .int (-1)])), (gq150, .inr (2, [.int 0, .ref gq151, .ref gq152, .ref gq153, .ref gq154, .ref gq155, .ref gq156, .int 0, .ref gq157, .ref gq158, .ref gq159, .int 0, .ref gq160]))] H := hP
  have hD : va_D A [(gx, .inr (11, [.ref gq1, .ref gq4, .ref gq13, .ref gq136, .ref gq137, .ref gq138, .ref gq172, .ref gq184, .ref gq150, .ref gq161, .int (-1)])), (gq150, .inr (2, [.int 0, .ref gq151, .ref gq152, .ref gq153, .ref gq154, .ref gq155, .ref gq156, .int 0, .ref gq157, .ref gq158, .ref gq159, .int 0, .ref gq160]))] := hD
  have hK : va_K (dC, dI) cls [] s := hK
  refine vx_widen (k := 1) (n := 6) (Nat.le_of_ble_eq_true rfl) (Nat.le_of_ble_eq_true rfl) ?_
  have hP9 : va_P (dC, dI) cls [] H := hP.sub [] rfl
  have hD9 : va_D A [] := hD.sub [] (by decide) rfl
  have hK9 : va_K (dC, dI) cls [] s := hK.sub [] rfl
  exact vx_out (fun x hx9 => (hnt x hx9).elim) hlocks hce hcv hcl (fun t ht hal => ⟨(), trivial, ⟨rfl, ⟨by rw [ht]; exact hP9, va_K.moved hal hK9, hD9⟩⟩, hS.F ht⟩) hS.2.2 (Nat.le_of_ble_eq_true rfl) (Nat.le_of_ble_eq_true rfl)
set_option maxHeartbeats 4000000 in
set_option maxRecDepth 100000 in
theorem kX11_phiGives {zs : Nat × Nat} (l : Launch) (dC : Nat → ClassId) (dI : Nat → Nat → Nat) (gx : Nat) (gq1 : Nat) (gq4 : Nat) (gq13 : Nat) (gq136 : Nat) (gq137 : Nat) (gq138 : Nat) (gq150 : Nat) (gq151 : Nat) (gq152 : Nat) (gq153 : Nat) (gq154 : Nat) (gq155 : Nat) (gq156 : Nat) (gq157 : Nat) (gq158 : Nat) (gq159 : Nat) (gq160 : Nat) (gq161 : Nat) (gq172 : Nat) (gq184 : Nat) (p0 : Int32) (p1 : Int32) (p2 : Int32) (sz : Nat) (hl9 : l.stackTraces = false)  : vx_Met l yX11_phiGives (wz yX11_phiGives cX11_phiGives 6 (Option.some Jvm.ClassFile.FieldType.int)) ({ frames := 8, cells := 1, slots := 6, locals := 143 }) (va_Pc [.ref gx, .int p0, .int p1, .int p2] (PRE zs dC dI [(gx, .inr (11, [.ref gq1, .ref gq4, .ref gq13, .ref gq136, .ref gq137, .ref gq138, .ref gq172, .ref gq184, .ref gq150, .ref gq161, .int (-1)])), (gq150, .inr (2, [.int 0, .ref gq151, .ref gq152, .ref gq153, .ref gq154, .ref gq155, .ref gq156, .int 0, .ref gq157, .ref gq158, .ref gq159, .int 0, .ref gq160]))] [] sz)) (va_Qi (fun (_ : Int32) (_ : Unit) => False) (fun _ _ => True) (va_A [(gx, .inr (11, [.ref gq1, .ref gq4, .ref gq13, .ref gq136, .ref gq137, .ref gq138, .ref gq172, .ref gq184, .ref gq150, .ref gq161, .int (-1)])), (gq150, .inr (2, [.int 0, .ref gq151, .ref gq152, .ref gq153, .ref gq154, .ref gq155, .ref gq156, .int 0, .ref gq157, .ref gq158, .ref gq159, .int 0, .ref gq160]))] sz)) (vx_X (fun (_ : Unit) => True) (fun E _ t => E = "java/lang/IndexOutOfBoundsException" ∧ POST dC dI [] [] (va_A [(gx, .inr (11, [.ref gq1, .ref gq4, .ref gq13, .ref gq136, .ref gq137, .ref gq138, .ref gq172, .ref gq184, .ref gq150, .ref gq161, .int (-1)])), (gq150, .inr (2, [.int 0, .ref gq151, .ref gq152, .ref gq153, .ref gq154, .ref gq155, .ref gq156, .int 0, .ref gq157, .ref gq158, .ref gq159, .int 0, .ref gq160]))] sz) t) (va_A [(gx, .inr (11, [.ref gq1, .ref gq4, .ref gq13, .ref gq136, .ref gq137, .ref gq138, .ref gq172, .ref gq184, .ref gq150, .ref gq161, .int (-1)])), (gq150, .inr (2, [.int 0, .ref gq151, .ref gq152, .ref gq153, .ref gq154, .ref gq155, .ref gq156, .int 0, .ref gq157, .ref gq158, .ref gq159, .int 0, .ref gq160]))] sz)) 1 6 (va_A [(gx, .inr (11, [.ref gq1, .ref gq4, .ref gq13, .ref gq136, .ref gq137, .ref gq138, .ref gq172, .ref gq184, .ref gq150, .ref gq161, .int (-1)])), (gq150, .inr (2, [.int 0, .ref gq151, .ref gq152, .ref gq153, .ref gq154, .ref gq155, .ref gq156, .int 0, .ref gq157, .ref gq158, .ref gq159, .int 0, .ref gq160]))] sz) := by
  refine vx_ofW (cc := cX11_phiGives) (maxL := 6) (ret := (Option.some Jvm.ClassFile.FieldType.int)) (by decide) rfl ?_
  intro p e s m args below meth c s₁ B hml hnt hv
  obtain ⟨rfl, hsz, hP, hK, hD0, hE⟩ := hv
  have hx := B.exec
  have hb := B.bytes
  have hr := B.returns
  have hts0 := atoms_spec (ws := wz yX11_phiGives cX11_phiGives 6 (Option.some Jvm.ClassFile.FieldType.int)) B.pre
  have hts : ∀ w ∈ gw, w.before _ s = true := fun w h => hts0 w (List.mem_cons_of_mem _ h)
  have hown : s.vm.findClass RX11 = some m.cls := findClass_of_methodNamed B.named
  have hlocks := B.notSynchronized
  subst hsz
  have hD := hD0.self (sz := s.heap.size)
  generalize hAe : va_A [(gx, .inr (11, [.ref gq1, .ref gq4, .ref gq13, .ref gq136, .ref gq137, .ref gq138, .ref gq172, .ref gq184, .ref gq150, .ref gq161, .int (-1)])), (gq150, .inr (2, [.int 0, .ref gq151, .ref gq152, .ref gq153, .ref gq154, .ref gq155, .ref gq156, .int 0, .ref gq157, .ref gq158, .ref gq159, .int 0, .ref gq160]))] s.heap.size = A at hD hE ⊢
  have hA : ∀ q : Nat, s.heap.size ≤ q → A q := fun q h => by rw [← hAe]; exact Or.inr h
  have hS : va_S A s.heap s.heap [] := va_S.rf
  have hP : va_P (dC, dI) cls [(gx, .inr (11, [.ref gq1, .ref gq4, .ref gq13, .ref gq136, .ref gq137, .ref gq138, .ref gq172, .ref gq184, .ref gq150, .ref gq161, .int (-1)])), (gq150, .inr (2, [.int 0, .ref gq151, .ref gq152, .ref gq153, .ref gq154, .ref gq155, .ref gq156, .int 0, .ref gq157, .ref gq158, .ref gq159, .int 0, .ref gq160]))] s.heap := hP
  have hl := lv_entry ([.ref gx, .int p0, .int p1, .int p2]) (n := 6) (Nat.le_of_ble_eq_true rfl)
  rw [lg_entry_eq]
  generalize (lg_sl ([.ref gx, .int p0, .int p1, .int p2]) ++ List.replicate (6 - (lg_sl ([.ref gx, .int p0, .int p1, .int p2])).length) Slot.unset).toArray = ls at hl ⊢
  have hl : lv_has ls 6 [(0, .ref gx), (1, .int p0), (2, .int p1), (3, .int p2)] := hl
  refine lv_aload_n hx hb dX11_phiGives_0 rfl (lv_at hl 0 rfl) ?_
  refine lv_iload_n hx hb dX11_phiGives_1 rfl (lv_at hl 1 rfl) ?_
  refine lv_iload_n hx hb dX11_phiGives_2 rfl (lv_at hl 2 rfl) ?_
  have hPc := hP.sub (ws' := [(gx, .inr (11, [.ref gq1, .ref gq4, .ref gq13, .ref gq136, .ref gq137, .ref gq138, .ref gq172, .ref gq184, .ref gq150, .ref gq161, .int (-1)])), (gq150, .inr (2, [.int 0, .ref gq151, .ref gq152, .ref gq153, .ref gq154, .ref gq155, .ref gq156, .int 0, .ref gq157, .ref gq158, .ref gq159, .int 0, .ref gq160]))]) [0, 1] rfl
  have hDc := hD.sub (ws' := [(gx, .inr (11, [.ref gq1, .ref gq4, .ref gq13, .ref gq136, .ref gq137, .ref gq138, .ref gq172, .ref gq184, .ref gq150, .ref gq161, .int (-1)])), (gq150, .inr (2, [.int 0, .ref gq151, .ref gq152, .ref gq153, .ref gq154, .ref gq155, .ref gq156, .int 0, .ref gq157, .ref gq158, .ref gq159, .int 0, .ref gq160]))]) [0, 1] (by decide) rfl
  have hKc := hK.sub (tys' := []) [] rfl
  have hFc := va_free (wc := [(gx, .inr (11, [.ref gq1, .ref gq4, .ref gq13, .ref gq136, .ref gq137, .ref gq138, .ref gq172, .ref gq184, .ref gq150, .ref gq161, .int (-1)])), (gq150, .inr (2, [.int 0, .ref gq151, .ref gq152, .ref gq153, .ref gq154, .ref gq155, .ref gq156, .int 0, .ref gq157, .ref gq158, .ref gq159, .int 0, .ref gq160]))]) hD hS hA [0, 1] rfl
  refine vx_callr (vx_runV (As := [.int p0, .int p1]) (rest := []) ⟨hx, hb, hml, hown, hts⟩ (kX11_flowWith_n7 l dC dI (a0 := gx) (i1 := p0) (i2 := p1) (a3 := gq1) (a4 := gq4) (a5 := gq13) (a6 := gq136) (a7 := gq137) (a8 := gq138) (a9 := gq172) (a10 := gq184) (a11 := gq150) (a12 := gq161) (a34 := gq151) (a35 := gq152) (a36 := gq153) (a37 := gq154) (a38 := gq155) (a39 := gq156) (a40 := gq157) (a41 := gq158) (a42 := gq159) (a43 := gq160) (sz := _) (hl9 := hl9)) (cwV 2 hts (gi_V qw249 qw250 qw251 qw222 (gi_z qw248)) rfl rfl rfl (by decide +kernel) ⟨Nat.le_of_ble_eq_true rfl, Nat.le_of_ble_eq_true rfl⟩) ⟨PRE.blind, va_recv hKc hPc (ci := 11) (q0 := 0) rfl rfl, PRE.of hE hS hFc hPc hKc hDc⟩ rfl rfl hl.1 rfl (lv_room (Nat.le_of_ble_eq_true rfl)) dX11_phiGives_3 ⟨Nat.le_of_ble_eq_true rfl, Nat.le_of_ble_eq_true rfl⟩) hS (fun q _ h => hFc q h) hFc (fun q _ h => hFc q h) (fun E ce q9 u t H locs ht hvm hw hB hz1 hk1 hS hce hcv hcl => ?_) (fun u ra t H locs ht hvm hw hB hz1 hk1 hS => hw.elim)
  obtain ⟨rfl, hB⟩ := hB
  obtain ⟨hP, hD, hK⟩ := JOIN (wr := []) hP hD hK [0, 1] [] [] rfl rfl (by decide) (by decide) rfl hk1 hFc ht hvm hB
  have hP : va_P (dC, dI) cls [(gx, .inr (11, [.ref gq1, .ref gq4, .ref gq13, .ref gq136, .ref gq137, .ref gq138, .ref gq172, .ref gq184, .ref gq150, .ref gq161, .int (-1)])), (gq150, .inr (2, [.int 0, .ref gq151, .ref gq152, .ref gq153, .ref gq154, .ref gq155, .ref gq156, .int 0, .ref gq157, .ref gq158, .ref gq159, .int 0, .ref gq160]))] H := hP
  have hD : va_D A [(gx, .inr (11, [.ref gq1, .ref gq4, .ref gq13, .ref gq136, .ref gq137, .ref gq138, .ref gq172, .ref gq184, .ref gq150, .ref gq161, .int (-1)])), (gq150, .inr (2, [.int 0, .ref gq151, .ref gq152, .ref gq153, .ref gq154, .ref gq155, .ref gq156, .int 0, .ref gq157, .ref gq158, .ref gq159, .int 0, .ref gq160]))] := hD
  have hK : va_K (dC, dI) cls [] s := hK
  refine vx_widen (k := 1) (n := 6) (Nat.le_of_ble_eq_true rfl) (Nat.le_of_ble_eq_true rfl) ?_
  have hP9 : va_P (dC, dI) cls [] H := hP.sub [] rfl
  have hD9 : va_D A [] := hD.sub [] (by decide) rfl
  have hK9 : va_K (dC, dI) cls [] s := hK.sub [] rfl
  exact vx_out (fun x hx9 => (hnt x hx9).elim) hlocks hce hcv hcl (fun t ht hal => ⟨(), trivial, ⟨rfl, ⟨by rw [ht]; exact hP9, va_K.moved hal hK9, hD9⟩⟩, hS.F ht⟩) hS.2.2 (Nat.le_of_ble_eq_true rfl) (Nat.le_of_ble_eq_true rfl)
set_option maxHeartbeats 4000000 in
set_option maxRecDepth 100000 in
theorem kX11_phiTakes {zs : Nat × Nat} (l : Launch) (dC : Nat → ClassId) (dI : Nat → Nat → Nat) (gx : Nat) (gq1 : Nat) (gq4 : Nat) (gq13 : Nat) (gq136 : Nat) (gq137 : Nat) (gq138 : Nat) (gq150 : Nat) (gq151 : Nat) (gq152 : Nat) (gq153 : Nat) (gq154 : Nat) (gq155 : Nat) (gq156 : Nat) (gq157 : Nat) (gq158 : Nat) (gq159 : Nat) (gq160 : Nat) (gq161 : Nat) (gq172 : Nat) (gq184 : Nat) (p0 : Int32) (p1 : Int32) (p2 : Int32) (p3 : Int32) (sz : Nat) (hl9 : l.stackTraces = false)  : vx_Met l yX11_phiTakes (wz yX11_phiTakes cX11_phiTakes 7 (Option.some Jvm.ClassFile.FieldType.int)) ({ frames := 8, cells := 1, slots := 6, locals := 143 }) (va_Pc [.ref gx, .int p0, .int p1, .int p2, .int p3] (PRE zs dC dI [(gx, .inr (11, [.ref gq1, .ref gq4, .ref gq13, .ref gq136, .ref gq137, .ref gq138, .ref gq172, .ref gq184, .ref gq150, .ref gq161, .int (-1)])), (gq150, .inr (2, [.int 0, .ref gq151, .ref gq152, .ref gq153, .ref gq154, .ref gq155, .ref gq156, .int 0, .ref gq157, .ref gq158, .ref gq159, .int 0, .ref gq160]))] [] sz)) (va_Qi (fun (_ : Int32) (_ : Unit) => False) (fun _ _ => True) (va_A [(gx, .inr (11, [.ref gq1, .ref gq4, .ref gq13, .ref gq136, .ref gq137, .ref gq138, .ref gq172, .ref gq184, .ref gq150, .ref gq161, .int (-1)])), (gq150, .inr (2, [.int 0, .ref gq151, .ref gq152, .ref gq153, .ref gq154, .ref gq155, .ref gq156, .int 0, .ref gq157, .ref gq158, .ref gq159, .int 0, .ref gq160]))] sz)) (vx_X (fun (_ : Unit) => True) (fun E _ t => E = "java/lang/IndexOutOfBoundsException" ∧ POST dC dI [] [] (va_A [(gx, .inr (11, [.ref gq1, .ref gq4, .ref gq13, .ref gq136, .ref gq137, .ref gq138, .ref gq172, .ref gq184, .ref gq150, .ref gq161, .int (-1)])), (gq150, .inr (2, [.int 0, .ref gq151, .ref gq152, .ref gq153, .ref gq154, .ref gq155, .ref gq156, .int 0, .ref gq157, .ref gq158, .ref gq159, .int 0, .ref gq160]))] sz) t) (va_A [(gx, .inr (11, [.ref gq1, .ref gq4, .ref gq13, .ref gq136, .ref gq137, .ref gq138, .ref gq172, .ref gq184, .ref gq150, .ref gq161, .int (-1)])), (gq150, .inr (2, [.int 0, .ref gq151, .ref gq152, .ref gq153, .ref gq154, .ref gq155, .ref gq156, .int 0, .ref gq157, .ref gq158, .ref gq159, .int 0, .ref gq160]))] sz)) 1 6 (va_A [(gx, .inr (11, [.ref gq1, .ref gq4, .ref gq13, .ref gq136, .ref gq137, .ref gq138, .ref gq172, .ref gq184, .ref gq150, .ref gq161, .int (-1)])), (gq150, .inr (2, [.int 0, .ref gq151, .ref gq152, .ref gq153, .ref gq154, .ref gq155, .ref gq156, .int 0, .ref gq157, .ref gq158, .ref gq159, .int 0, .ref gq160]))] sz) := by
  refine vx_ofW (cc := cX11_phiTakes) (maxL := 7) (ret := (Option.some Jvm.ClassFile.FieldType.int)) (by decide) rfl ?_
  intro p e s m args below meth c s₁ B hml hnt hv
  obtain ⟨rfl, hsz, hP, hK, hD0, hE⟩ := hv
  have hx := B.exec
  have hb := B.bytes
  have hr := B.returns
  have hts0 := atoms_spec (ws := wz yX11_phiTakes cX11_phiTakes 7 (Option.some Jvm.ClassFile.FieldType.int)) B.pre
  have hts : ∀ w ∈ gw, w.before _ s = true := fun w h => hts0 w (List.mem_cons_of_mem _ h)
  have hown : s.vm.findClass RX11 = some m.cls := findClass_of_methodNamed B.named
  have hlocks := B.notSynchronized
  subst hsz
  have hD := hD0.self (sz := s.heap.size)
  generalize hAe : va_A [(gx, .inr (11, [.ref gq1, .ref gq4, .ref gq13, .ref gq136, .ref gq137, .ref gq138, .ref gq172, .ref gq184, .ref gq150, .ref gq161, .int (-1)])), (gq150, .inr (2, [.int 0, .ref gq151, .ref gq152, .ref gq153, .ref gq154, .ref gq155, .ref gq156, .int 0, .ref gq157, .ref gq158, .ref gq159, .int 0, .ref gq160]))] s.heap.size = A at hD hE ⊢
  have hA : ∀ q : Nat, s.heap.size ≤ q → A q := fun q h => by rw [← hAe]; exact Or.inr h
  have hS : va_S A s.heap s.heap [] := va_S.rf
  have hP : va_P (dC, dI) cls [(gx, .inr (11, [.ref gq1, .ref gq4, .ref gq13, .ref gq136, .ref gq137, .ref gq138, .ref gq172, .ref gq184, .ref gq150, .ref gq161, .int (-1)])), (gq150, .inr (2, [.int 0, .ref gq151, .ref gq152, .ref gq153, .ref gq154, .ref gq155, .ref gq156, .int 0, .ref gq157, .ref gq158, .ref gq159, .int 0, .ref gq160]))] s.heap := hP
  have hl := lv_entry ([.ref gx, .int p0, .int p1, .int p2, .int p3]) (n := 7) (Nat.le_of_ble_eq_true rfl)
  rw [lg_entry_eq]
  generalize (lg_sl ([.ref gx, .int p0, .int p1, .int p2, .int p3]) ++ List.replicate (7 - (lg_sl ([.ref gx, .int p0, .int p1, .int p2, .int p3])).length) Slot.unset).toArray = ls at hl ⊢
  have hl : lv_has ls 7 [(0, .ref gx), (1, .int p0), (2, .int p1), (3, .int p2), (4, .int p3)] := hl
  refine lv_aload_n hx hb dX11_phiTakes_0 rfl (lv_at hl 0 rfl) ?_
  refine lv_iload_n hx hb dX11_phiTakes_1 rfl (lv_at hl 1 rfl) ?_
  refine lv_iload_n hx hb dX11_phiTakes_2 rfl (lv_at hl 2 rfl) ?_
  have hPc := hP.sub (ws' := [(gx, .inr (11, [.ref gq1, .ref gq4, .ref gq13, .ref gq136, .ref gq137, .ref gq138, .ref gq172, .ref gq184, .ref gq150, .ref gq161, .int (-1)])), (gq150, .inr (2, [.int 0, .ref gq151, .ref gq152, .ref gq153, .ref gq154, .ref gq155, .ref gq156, .int 0, .ref gq157, .ref gq158, .ref gq159, .int 0, .ref gq160]))]) [0, 1] rfl
  have hDc := hD.sub (ws' := [(gx, .inr (11, [.ref gq1, .ref gq4, .ref gq13, .ref gq136, .ref gq137, .ref gq138, .ref gq172, .ref gq184, .ref gq150, .ref gq161, .int (-1)])), (gq150, .inr (2, [.int 0, .ref gq151, .ref gq152, .ref gq153, .ref gq154, .ref gq155, .ref gq156, .int 0, .ref gq157, .ref gq158, .ref gq159, .int 0, .ref gq160]))]) [0, 1] (by decide) rfl
  have hKc := hK.sub (tys' := []) [] rfl
  have hFc := va_free (wc := [(gx, .inr (11, [.ref gq1, .ref gq4, .ref gq13, .ref gq136, .ref gq137, .ref gq138, .ref gq172, .ref gq184, .ref gq150, .ref gq161, .int (-1)])), (gq150, .inr (2, [.int 0, .ref gq151, .ref gq152, .ref gq153, .ref gq154, .ref gq155, .ref gq156, .int 0, .ref gq157, .ref gq158, .ref gq159, .int 0, .ref gq160]))]) hD hS hA [0, 1] rfl
  refine vx_callr (vx_runV (As := [.int p0, .int p1]) (rest := []) ⟨hx, hb, hml, hown, hts⟩ (kX11_flowWith_n7 l dC dI (a0 := gx) (i1 := p0) (i2 := p1) (a3 := gq1) (a4 := gq4) (a5 := gq13) (a6 := gq136) (a7 := gq137) (a8 := gq138) (a9 := gq172) (a10 := gq184) (a11 := gq150) (a12 := gq161) (a34 := gq151) (a35 := gq152) (a36 := gq153) (a37 := gq154) (a38 := gq155) (a39 := gq156) (a40 := gq157) (a41 := gq158) (a42 := gq159) (a43 := gq160) (sz := _) (hl9 := hl9)) (cwV 2 hts (gi_V qw249 qw250 qw251 qw222 (gi_z qw248)) rfl rfl rfl (by decide +kernel) ⟨Nat.le_of_ble_eq_true rfl, Nat.le_of_ble_eq_true rfl⟩) ⟨PRE.blind, va_recv hKc hPc (ci := 11) (q0 := 0) rfl rfl, PRE.of hE hS hFc hPc hKc hDc⟩ rfl rfl hl.1 rfl (lv_room (Nat.le_of_ble_eq_true rfl)) dX11_phiTakes_3 ⟨Nat.le_of_ble_eq_true rfl, Nat.le_of_ble_eq_true rfl⟩) hS (fun q _ h => hFc q h) hFc (fun q _ h => hFc q h) (fun E ce q9 u t H locs ht hvm hw hB hz1 hk1 hS hce hcv hcl => ?_) (fun u ra t H locs ht hvm hw hB hz1 hk1 hS => hw.elim)
  obtain ⟨rfl, hB⟩ := hB
  obtain ⟨hP, hD, hK⟩ := JOIN (wr := []) hP hD hK [0, 1] [] [] rfl rfl (by decide) (by decide) rfl hk1 hFc ht hvm hB
  have hP : va_P (dC, dI) cls [(gx, .inr (11, [.ref gq1, .ref gq4, .ref gq13, .ref gq136, .ref gq137, .ref gq138, .ref gq172, .ref gq184, .ref gq150, .ref gq161, .int (-1)])), (gq150, .inr (2, [.int 0, .ref gq151, .ref gq152, .ref gq153, .ref gq154, .ref gq155, .ref gq156, .int 0, .ref gq157, .ref gq158, .ref gq159, .int 0, .ref gq160]))] H := hP
  have hD : va_D A [(gx, .inr (11, [.ref gq1, .ref gq4, .ref gq13, .ref gq136, .ref gq137, .ref gq138, .ref gq172, .ref gq184, .ref gq150, .ref gq161, .int (-1)])), (gq150, .inr (2, [.int 0, .ref gq151, .ref gq152, .ref gq153, .ref gq154, .ref gq155, .ref gq156, .int 0, .ref gq157, .ref gq158, .ref gq159, .int 0, .ref gq160]))] := hD
  have hK : va_K (dC, dI) cls [] s := hK
  refine vx_widen (k := 1) (n := 6) (Nat.le_of_ble_eq_true rfl) (Nat.le_of_ble_eq_true rfl) ?_
  have hP9 : va_P (dC, dI) cls [] H := hP.sub [] rfl
  have hD9 : va_D A [] := hD.sub [] (by decide) rfl
  have hK9 : va_K (dC, dI) cls [] s := hK.sub [] rfl
  exact vx_out (fun x hx9 => (hnt x hx9).elim) hlocks hce hcv hcl (fun t ht hal => ⟨(), trivial, ⟨rfl, ⟨by rw [ht]; exact hP9, va_K.moved hal hK9, hD9⟩⟩, hS.F ht⟩) hS.2.2 (Nat.le_of_ble_eq_true rfl) (Nat.le_of_ble_eq_true rfl)
set_option maxHeartbeats 4000000 in
set_option maxRecDepth 100000 in
theorem kX11_steps {zs : Nat × Nat} (l : Launch) (dC : Nat → ClassId) (dI : Nat → Nat → Nat) (gx : Nat) (gq1 : Nat) (gq4 : Nat) (gq13 : Nat) (gq136 : Nat) (gq137 : Nat) (gq138 : Nat) (gq150 : Nat) (gq151 : Nat) (gq152 : Nat) (gq153 : Nat) (gq154 : Nat) (gq155 : Nat) (gq156 : Nat) (gq157 : Nat) (gq158 : Nat) (gq159 : Nat) (gq160 : Nat) (gq161 : Nat) (gq172 : Nat) (gq184 : Nat) (p0 : Int32) (p1 : Int32) (sz : Nat) (hl9 : l.stackTraces = false)  : vx_Met l yX11_steps (wz yX11_steps cX11_steps 3 (Option.some Jvm.ClassFile.FieldType.int)) ({ frames := 8, cells := 1, slots := 6, locals := 143 }) (va_Pc [.ref gx, .int p0, .int p1] (PRE zs dC dI [(gx, .inr (11, [.ref gq1, .ref gq4, .ref gq13, .ref gq136, .ref gq137, .ref gq138, .ref gq172, .ref gq184, .ref gq150, .ref gq161, .int (-1)])), (gq150, .inr (2, [.int 0, .ref gq151, .ref gq152, .ref gq153, .ref gq154, .ref gq155, .ref gq156, .int 0, .ref gq157, .ref gq158, .ref gq159, .int 0, .ref gq160]))] [] sz)) (va_Qi (fun (_ : Int32) (_ : Unit) => False) (fun _ _ => True) (va_A [(gx, .inr (11, [.ref gq1, .ref gq4, .ref gq13, .ref gq136, .ref gq137, .ref gq138, .ref gq172, .ref gq184, .ref gq150, .ref gq161, .int (-1)])), (gq150, .inr (2, [.int 0, .ref gq151, .ref gq152, .ref gq153, .ref gq154, .ref gq155, .ref gq156, .int 0, .ref gq157, .ref gq158, .ref gq159, .int 0, .ref gq160]))] sz)) (vx_X (fun (_ : Unit) => True) (fun E _ t => E = "java/lang/IndexOutOfBoundsException" ∧ POST dC dI [] [] (va_A [(gx, .inr (11, [.ref gq1, .ref gq4, .ref gq13, .ref gq136, .ref gq137, .ref gq138, .ref gq172, .ref gq184, .ref gq150, .ref gq161, .int (-1)])), (gq150, .inr (2, [.int 0, .ref gq151, .ref gq152, .ref gq153, .ref gq154, .ref gq155, .ref gq156, .int 0, .ref gq157, .ref gq158, .ref gq159, .int 0, .ref gq160]))] sz) t) (va_A [(gx, .inr (11, [.ref gq1, .ref gq4, .ref gq13, .ref gq136, .ref gq137, .ref gq138, .ref gq172, .ref gq184, .ref gq150, .ref gq161, .int (-1)])), (gq150, .inr (2, [.int 0, .ref gq151, .ref gq152, .ref gq153, .ref gq154, .ref gq155, .ref gq156, .int 0, .ref gq157, .ref gq158, .ref gq159, .int 0, .ref gq160]))] sz)) 1 6 (va_A [(gx, .inr (11, [.ref gq1, .ref gq4, .ref gq13, .ref gq136, .ref gq137, .ref gq138, .ref gq172, .ref gq184, .ref gq150, .ref gq161, .int (-1)])), (gq150, .inr (2, [.int 0, .ref gq151, .ref gq152, .ref gq153, .ref gq154, .ref gq155, .ref gq156, .int 0, .ref gq157, .ref gq158, .ref gq159, .int 0, .ref gq160]))] sz) := by
  refine vx_ofW (cc := cX11_steps) (maxL := 3) (ret := (Option.some Jvm.ClassFile.FieldType.int)) (by decide) rfl ?_
  intro p e s m args below meth c s₁ B hml hnt hv
  obtain ⟨rfl, hsz, hP, hK, hD0, hE⟩ := hv
  have hx := B.exec
  have hb := B.bytes
  have hr := B.returns
  have hts0 := atoms_spec (ws := wz yX11_steps cX11_steps 3 (Option.some Jvm.ClassFile.FieldType.int)) B.pre
  have hts : ∀ w ∈ gw, w.before _ s = true := fun w h => hts0 w (List.mem_cons_of_mem _ h)
  have hown : s.vm.findClass RX11 = some m.cls := findClass_of_methodNamed B.named
  have hlocks := B.notSynchronized
  subst hsz
  have hD := hD0.self (sz := s.heap.size)
  generalize hAe : va_A [(gx, .inr (11, [.ref gq1, .ref gq4, .ref gq13, .ref gq136, .ref gq137, .ref gq138, .ref gq172, .ref gq184, .ref gq150, .ref gq161, .int (-1)])), (gq150, .inr (2, [.int 0, .ref gq151, .ref gq152, .ref gq153, .ref gq154, .ref gq155, .ref gq156, .int 0, .ref gq157, .ref gq158, .ref gq159, .int 0, .ref gq160]))] s.heap.size = A at hD hE ⊢
  have hA : ∀ q : Nat, s.heap.size ≤ q → A q := fun q h => by rw [← hAe]; exact Or.inr h
  have hS : va_S A s.heap s.heap [] := va_S.rf
  have hP : va_P (dC, dI) cls [(gx, .inr (11, [.ref gq1, .ref gq4, .ref gq13, .ref gq136, .ref gq137, .ref gq138, .ref gq172, .ref gq184, .ref gq150, .ref gq161, .int (-1)])), (gq150, .inr (2, [.int 0, .ref gq151, .ref gq152, .ref gq153, .ref gq154, .ref gq155, .ref gq156, .int 0, .ref gq157, .ref gq158, .ref gq159, .int 0, .ref gq160]))] s.heap := hP
  have hl := lv_entry ([.ref gx, .int p0, .int p1]) (n := 3) (Nat.le_of_ble_eq_true rfl)
  rw [lg_entry_eq]
  generalize (lg_sl ([.ref gx, .int p0, .int p1]) ++ List.replicate (3 - (lg_sl ([.ref gx, .int p0, .int p1])).length) Slot.unset).toArray = ls at hl ⊢
  have hl : lv_has ls 3 [(0, .ref gx), (1, .int p0), (2, .int p1)] := hl
  refine lv_aload_n hx hb dX11_steps_0 rfl (lv_at hl 0 rfl) ?_
  refine lv_iload_n hx hb dX11_steps_1 rfl (lv_at hl 1 rfl) ?_
  refine lv_iload_n hx hb dX11_steps_2 rfl (lv_at hl 2 rfl) ?_
  have hPc := hP.sub (ws' := [(gx, .inr (11, [.ref gq1, .ref gq4, .ref gq13, .ref gq136, .ref gq137, .ref gq138, .ref gq172, .ref gq184, .ref gq150, .ref gq161, .int (-1)])), (gq150, .inr (2, [.int 0, .ref gq151, .ref gq152, .ref gq153, .ref gq154, .ref gq155, .ref gq156, .int 0, .ref gq157, .ref gq158, .ref gq159, .int 0, .ref gq160]))]) [0, 1] rfl
  have hDc := hD.sub (ws' := [(gx, .inr (11, [.ref gq1, .ref gq4, .ref gq13, .ref gq136, .ref gq137, .ref gq138, .ref gq172, .ref gq184, .ref gq150, .ref gq161, .int (-1)])), (gq150, .inr (2, [.int 0, .ref gq151, .ref gq152, .ref gq153, .ref gq154, .ref gq155, .ref gq156, .int 0, .ref gq157, .ref gq158, .ref gq159, .int 0, .ref gq160]))]) [0, 1] (by decide) rfl
  have hKc := hK.sub (tys' := []) [] rfl
  have hFc := va_free (wc := [(gx, .inr (11, [.ref gq1, .ref gq4, .ref gq13, .ref gq136, .ref gq137, .ref gq138, .ref gq172, .ref gq184, .ref gq150, .ref gq161, .int (-1)])), (gq150, .inr (2, [.int 0, .ref gq151, .ref gq152, .ref gq153, .ref gq154, .ref gq155, .ref gq156, .int 0, .ref gq157, .ref gq158, .ref gq159, .int 0, .ref gq160]))]) hD hS hA [0, 1] rfl
  refine vx_callr (vx_runV (As := [.int p0, .int p1]) (rest := []) ⟨hx, hb, hml, hown, hts⟩ (kX11_flowWith_n7 l dC dI (a0 := gx) (i1 := p0) (i2 := p1) (a3 := gq1) (a4 := gq4) (a5 := gq13) (a6 := gq136) (a7 := gq137) (a8 := gq138) (a9 := gq172) (a10 := gq184) (a11 := gq150) (a12 := gq161) (a34 := gq151) (a35 := gq152) (a36 := gq153) (a37 := gq154) (a38 := gq155) (a39 := gq156) (a40 := gq157) (a41 := gq158) (a42 := gq159) (a43 := gq160) (sz := _) (hl9 := hl9)) (cwV 2 hts (gi_V qw249 qw250 qw251 qw222 (gi_z qw248)) rfl rfl rfl (by decide +kernel) ⟨Nat.le_of_ble_eq_true rfl, Nat.le_of_ble_eq_true rfl⟩) ⟨PRE.blind, va_recv hKc hPc (ci := 11) (q0 := 0) rfl rfl, PRE.of hE hS hFc hPc hKc hDc⟩ rfl rfl hl.1 rfl (lv_room (Nat.le_of_ble_eq_true rfl)) dX11_steps_3 ⟨Nat.le_of_ble_eq_true rfl, Nat.le_of_ble_eq_true rfl⟩) hS (fun q _ h => hFc q h) hFc (fun q _ h => hFc q h) (fun E ce q9 u t H locs ht hvm hw hB hz1 hk1 hS hce hcv hcl => ?_) (fun u ra t H locs ht hvm hw hB hz1 hk1 hS => hw.elim)
  obtain ⟨rfl, hB⟩ := hB
  obtain ⟨hP, hD, hK⟩ := JOIN (wr := []) hP hD hK [0, 1] [] [] rfl rfl (by decide) (by decide) rfl hk1 hFc ht hvm hB
  have hP : va_P (dC, dI) cls [(gx, .inr (11, [.ref gq1, .ref gq4, .ref gq13, .ref gq136, .ref gq137, .ref gq138, .ref gq172, .ref gq184, .ref gq150, .ref gq161, .int (-1)])), (gq150, .inr (2, [.int 0, .ref gq151, .ref gq152, .ref gq153, .ref gq154, .ref gq155, .ref gq156, .int 0, .ref gq157, .ref gq158, .ref gq159, .int 0, .ref gq160]))] H := hP
  have hD : va_D A [(gx, .inr (11, [.ref gq1, .ref gq4, .ref gq13, .ref gq136, .ref gq137, .ref gq138, .ref gq172, .ref gq184, .ref gq150, .ref gq161, .int (-1)])), (gq150, .inr (2, [.int 0, .ref gq151, .ref gq152, .ref gq153, .ref gq154, .ref gq155, .ref gq156, .int 0, .ref gq157, .ref gq158, .ref gq159, .int 0, .ref gq160]))] := hD
  have hK : va_K (dC, dI) cls [] s := hK
  refine vx_widen (k := 1) (n := 6) (Nat.le_of_ble_eq_true rfl) (Nat.le_of_ble_eq_true rfl) ?_
  have hP9 : va_P (dC, dI) cls [] H := hP.sub [] rfl
  have hD9 : va_D A [] := hD.sub [] (by decide) rfl
  have hK9 : va_K (dC, dI) cls [] s := hK.sub [] rfl
  exact vx_out (fun x hx9 => (hnt x hx9).elim) hlocks hce hcv hcl (fun t ht hal => ⟨(), trivial, ⟨rfl, ⟨by rw [ht]; exact hP9, va_K.moved hal hK9, hD9⟩⟩, hS.F ht⟩) hS.2.2 (Nat.le_of_ble_eq_true rfl) (Nat.le_of_ble_eq_true rfl)
set_option maxHeartbeats 4000000 in
set_option maxRecDepth 100000 in
/-- Gearbox.stepAt, from the state that its caller has -/
theorem kX11_stepAt_n8 {zs : Nat × Nat} (l : Launch) (dC : Nat → ClassId) (dI : Nat → Nat → Nat) (a0 : Nat) (i1 : Int32) (i2 : Int32) (i3 : Int32) (a4 : Nat) (a5 : Nat) (a6 : Nat) (a7 : Nat) (a8 : Nat) (a9 : Nat) (a10 : Nat) (a11 : Nat) (a12 : Nat) (a13 : Nat) (a35 : Nat) (a36 : Nat) (a37 : Nat) (a38 : Nat) (a39 : Nat) (a40 : Nat) (a41 : Nat) (a42 : Nat) (a43 : Nat) (a44 : Nat) (sz : Nat) (hl9 : l.stackTraces = false)  : vx_Met l yX11_stepAt (wz yX11_stepAt cX11_stepAt 5 (Option.some Jvm.ClassFile.FieldType.int)) ({ frames := 8, cells := 1, slots := 6, locals := 143 }) (va_Pc [.ref a0, .int i1, .int i2, .int i3] (PRE zs dC dI [(a0, .inr (11, [.ref a4, .ref a5, .ref a6, .ref a7, .ref a8, .ref a9, .ref a10, .ref a11, .ref a12, .ref a13, .int (-1)])), (a12, .inr (2, [.int 0, .ref a35, .ref a36, .ref a37, .ref a38, .ref a39, .ref a40, .int 0, .ref a41, .ref a42, .ref a43, .int 0, .ref a44]))] [] sz)) (va_Qi (fun (_ : Int32) (_ : Unit) => False) (fun _ _ => True) (va_A [(a0, .inr (11, [.ref a4, .ref a5, .ref a6, .ref a7, .ref a8, .ref a9, .ref a10, .ref a11, .ref a12, .ref a13, .int (-1)])), (a12, .inr (2, [.int 0, .ref a35, .ref a36, .ref a37, .ref a38, .ref a39, .ref a40, .int 0, .ref a41, .ref a42, .ref a43, .int 0, .ref a44]))] sz)) (vx_X (fun (_ : Unit) => True) (fun E _ t => E = "java/lang/IndexOutOfBoundsException" ∧ POST dC dI [(a0, .inr (11, [.ref a4, .ref a5, .ref a6, .ref a7, .ref a8, .ref a9, .ref a10, .ref a11, .ref a12, .ref a13, .int (-1)])), (a12, .inr (2, [.int 0, .ref a35, .ref a36, .ref a37, .ref a38, .ref a39, .ref a40, .int 0, .ref a41, .ref a42, .ref a43, .int 0, .ref a44]))] [] (va_A [(a0, .inr (11, [.ref a4, .ref a5, .ref a6, .ref a7, .ref a8, .ref a9, .ref a10, .ref a11, .ref a12, .ref a13, .int (-1)])), (a12, .inr (2, [.int 0, .ref a35, .ref a36, .ref a37, .ref a38, .ref a39, .ref a40, .int 0, .ref a41, .ref a42, .ref a43, .int 0, .ref a44]))] sz) t) (va_A [(a0, .inr (11, [.ref a4, .ref a5, .ref a6, .ref a7, .ref a8, .ref a9, .ref a10, .ref a11, .ref a12, .ref a13, .int (-1)])), (a12, .inr (2, [.int 0, .ref a35, .ref a36, .ref a37, .ref a38, .ref a39, .ref a40, .int 0, .ref a41, .ref a42, .ref a43, .int 0, .ref a44]))] sz)) 1 6 (va_A [(a0, .inr (11, [.ref a4, .ref a5, .ref a6, .ref a7, .ref a8, .ref a9, .ref a10, .ref a11, .ref a12, .ref a13, .int (-1)])), (a12, .inr (2, [.int 0, .ref a35, .ref a36, .ref a37, .ref a38, .ref a39, .ref a40, .int 0, .ref a41, .ref a42, .ref a43, .int 0, .ref a44]))] sz) := by
  refine vx_ofW (cc := cX11_stepAt) (maxL := 5) (ret := (Option.some Jvm.ClassFile.FieldType.int)) (by decide) rfl ?_
  intro p e s m args below meth c s₁ B hml hnt hv
  obtain ⟨rfl, hsz, hP, hK, hD0, hE⟩ := hv
  have hx := B.exec
  have hb := B.bytes
  have hr := B.returns
  have hts0 := atoms_spec (ws := wz yX11_stepAt cX11_stepAt 5 (Option.some Jvm.ClassFile.FieldType.int)) B.pre
  have hts : ∀ w ∈ gw, w.before _ s = true := fun w h => hts0 w (List.mem_cons_of_mem _ h)
  have hown : s.vm.findClass RX11 = some m.cls := findClass_of_methodNamed B.named
  have hlocks := B.notSynchronized
  subst hsz
  have hD := hD0.self (sz := s.heap.size)
  generalize hAe : va_A [(a0, .inr (11, [.ref a4, .ref a5, .ref a6, .ref a7, .ref a8, .ref a9, .ref a10, .ref a11, .ref a12, .ref a13, .int (-1)])), (a12, .inr (2, [.int 0, .ref a35, .ref a36, .ref a37, .ref a38, .ref a39, .ref a40, .int 0, .ref a41, .ref a42, .ref a43, .int 0, .ref a44]))] s.heap.size = A at hD hE ⊢
  have hA : ∀ q : Nat, s.heap.size ≤ q → A q := fun q h => by rw [← hAe]; exact Or.inr h
  have hS : va_S A s.heap s.heap [] := va_S.rf
  have hP : va_P (dC, dI) cls [(a0, .inr (11, [.ref a4, .ref a5, .ref a6, .ref a7, .ref a8, .ref a9, .ref a10, .ref a11, .ref a12, .ref a13, .int (-1)])), (a12, .inr (2, [.int 0, .ref a35, .ref a36, .ref a37, .ref a38, .ref a39, .ref a40, .int 0, .ref a41, .ref a42, .ref a43, .int 0, .ref a44]))] s.heap := hP
  have hl := lv_entry ([.ref a0, .int i1, .int i2, .int i3]) (n := 5) (Nat.le_of_ble_eq_true rfl)
  rw [lg_entry_eq]
  generalize (lg_sl ([.ref a0, .int i1, .int i2, .int i3]) ++ List.replicate (5 - (lg_sl ([.ref a0, .int i1, .int i2, .int i3])).length) Slot.unset).toArray = ls at hl ⊢
  have hl : lv_has ls 5 [(0, .ref a0), (1, .int i1), (2, .int i2), (3, .int i3)] := hl
  refine lv_aload_n hx hb dX11_stepAt_0 rfl (lv_at hl 0 rfl) ?_
  refine lv_iload_n hx hb dX11_stepAt_1 rfl (lv_at hl 1 rfl) ?_
  refine lv_iload_n hx hb dX11_stepAt_2 rfl (lv_at hl 2 rfl) ?_
  have hPc := hP.sub (ws' := [(a0, .inr (11, [.ref a4, .ref a5, .ref a6, .ref a7, .ref a8, .ref a9, .ref a10, .ref a11, .ref a12, .ref a13, .int (-1)])), (a12, .inr (2, [.int 0, .ref a35, .ref a36, .ref a37, .ref a38, .ref a39, .ref a40, .int 0, .ref a41, .ref a42, .ref a43, .int 0, .ref a44]))]) [0, 1] rfl
  have hDc := hD.sub (ws' := [(a0, .inr (11, [.ref a4, .ref a5, .ref a6, .ref a7, .ref a8, .ref a9, .ref a10, .ref a11, .ref a12, .ref a13, .int (-1)])), (a12, .inr (2, [.int 0, .ref a35, .ref a36, .ref a37, .ref a38, .ref a39, .ref a40, .int 0, .ref a41, .ref a42, .ref a43, .int 0, .ref a44]))]) [0, 1] (by decide) rfl
  have hKc := hK.sub (tys' := []) [] rfl
  have hFc := va_free (wc := [(a0, .inr (11, [.ref a4, .ref a5, .ref a6, .ref a7, .ref a8, .ref a9, .ref a10, .ref a11, .ref a12, .ref a13, .int (-1)])), (a12, .inr (2, [.int 0, .ref a35, .ref a36, .ref a37, .ref a38, .ref a39, .ref a40, .int 0, .ref a41, .ref a42, .ref a43, .int 0, .ref a44]))]) hD hS hA [0, 1] rfl
  refine vx_callr (vx_runV (As := [.int i1, .int i2]) (rest := []) ⟨hx, hb, hml, hown, hts⟩ (kX11_flowWith_n7 l dC dI (a0 := a0) (i1 := i1) (i2 := i2) (a3 := a4) (a4 := a5) (a5 := a6) (a6 := a7) (a7 := a8) (a8 := a9) (a9 := a10) (a10 := a11) (a11 := a12) (a12 := a13) (a34 := a35) (a35 := a36) (a36 := a37) (a37 := a38) (a38 := a39) (a39 := a40) (a40 := a41) (a41 := a42) (a42 := a43) (a43 := a44) (sz := _) (hl9 := hl9)) (cwV 2 hts (gi_V qw249 qw250 qw251 qw222 (gi_z qw248)) rfl rfl rfl (by decide +kernel) ⟨Nat.le_of_ble_eq_true rfl, Nat.le_of_ble_eq_true rfl⟩) ⟨PRE.blind, va_recv hKc hPc (ci := 11) (q0 := 0) rfl rfl, PRE.of hE hS hFc hPc hKc hDc⟩ rfl rfl hl.1 rfl (lv_room (Nat.le_of_ble_eq_true rfl)) dX11_stepAt_3 ⟨Nat.le_of_ble_eq_true rfl, Nat.le_of_ble_eq_true rfl⟩) hS (fun q _ h => hFc q h) hFc (fun q _ h => hFc q h) (fun E ce q9 u t H locs ht hvm hw hB hz1 hk1 hS hce hcv hcl => ?_) (fun u ra t H locs ht hvm hw hB hz1 hk1 hS => hw.elim)
  obtain ⟨rfl, hB⟩ := hB
  obtain ⟨hP, hD, hK⟩ := JOIN (wr := []) hP hD hK [0, 1] [] [] rfl rfl (by decide) (by decide) rfl hk1 hFc ht hvm hB
  have hP : va_P (dC, dI) cls [(a0, .inr (11, [.ref a4, .ref a5, .ref a6, .ref a7, .ref a8, .ref a9, .ref a10, .ref a11, .ref a12, .ref a13, .int (-1)])), (a12, .inr (2, [.int 0, .ref a35, .ref a36, .ref a37, .ref a38, .ref a39, .ref a40, .int 0, .ref a41, .ref a42, .ref a43, .int 0, .ref a44]))] H := hP
  have hD : va_D A [(a0, .inr (11, [.ref a4, .ref a5, .ref a6, .ref a7, .ref a8, .ref a9, .ref a10, .ref a11, .ref a12, .ref a13, .int (-1)])), (a12, .inr (2, [.int 0, .ref a35, .ref a36, .ref a37, .ref a38, .ref a39, .ref a40, .int 0, .ref a41, .ref a42, .ref a43, .int 0, .ref a44]))] := hD
  have hK : va_K (dC, dI) cls [] s := hK
  refine vx_widen (k := 1) (n := 6) (Nat.le_of_ble_eq_true rfl) (Nat.le_of_ble_eq_true rfl) ?_
  have hP9 : va_P (dC, dI) cls [(a0, .inr (11, [.ref a4, .ref a5, .ref a6, .ref a7, .ref a8, .ref a9, .ref a10, .ref a11, .ref a12, .ref a13, .int (-1)])), (a12, .inr (2, [.int 0, .ref a35, .ref a36, .ref a37, .ref a38, .ref a39, .ref a40, .int 0, .ref a41, .ref a42, .ref a43, .int 0, .ref a44]))] H := hP.sub [0, 1] rfl
  have hD9 : va_D A [(a0, .inr (11, [.ref a4, .ref a5, .ref a6, .ref a7, .ref a8, .ref a9, .ref a10, .ref a11, .ref a12, .ref a13, .int (-1)])), (a12, .inr (2, [.int 0, .ref a35, .ref a36, .ref a37, .ref a38, .ref a39, .ref a40, .int 0, .ref a41, .ref a42, .ref a43, .int 0, .ref a44]))] := hD.sub [0, 1] (by decide) rfl
  have hK9 : va_K (dC, dI) cls [] s := hK.sub [] rfl
  exact vx_out (fun x hx9 => (hnt x hx9).elim) hlocks hce hcv hcl (fun t ht hal => ⟨(), trivial, ⟨rfl, ⟨by rw [ht]; exact hP9, va_K.moved hal hK9, hD9⟩⟩, hS.F ht⟩) hS.2.2 (Nat.le_of_ble_eq_true rfl) (Nat.le_of_ble_eq_true rfl)
set_option maxHeartbeats 4000000 in
set_option maxRecDepth 100000 in
theorem kX11_kindOf {zs : Nat × Nat} (l : Launch) (dC : Nat → ClassId) (dI : Nat → Nat → Nat) (gx : Nat) (gq1 : Nat) (gq4 : Nat) (gq13 : Nat) (gq136 : Nat) (gq137 : Nat) (gq138 : Nat) (gq150 : Nat) (gq151 : Nat) (gq152 : Nat) (gq153 : Nat) (gq154 : Nat) (gq155 : Nat) (gq156 : Nat) (gq157 : Nat) (gq158 : Nat) (gq159 : Nat) (gq160 : Nat) (gq161 : Nat) (gq172 : Nat) (gq184 : Nat) (p0 : Int32) (p1 : Int32) (p2 : Int32) (sz : Nat) (hl9 : l.stackTraces = false)  : vx_Met l yX11_kindOf (wz yX11_kindOf cX11_kindOf 5 (Option.some Jvm.ClassFile.FieldType.int)) ({ frames := 9, cells := 1, slots := 6, locals := 167 }) (va_Pc [.ref gx, .int p0, .int p1, .int p2] (PRE zs dC dI [(gx, .inr (11, [.ref gq1, .ref gq4, .ref gq13, .ref gq136, .ref gq137, .ref gq138, .ref gq172, .ref gq184, .ref gq150, .ref gq161, .int (-1)])), (gq150, .inr (2, [.int 0, .ref gq151, .ref gq152, .ref gq153, .ref gq154, .ref gq155, .ref gq156, .int 0, .ref gq157, .ref gq158, .ref gq159, .int 0, .ref gq160]))] [] sz)) (va_Qi (fun (_ : Int32) (_ : Unit) => False) (fun _ _ => True) (va_A [(gx, .inr (11, [.ref gq1, .ref gq4, .ref gq13, .ref gq136, .ref gq137, .ref gq138, .ref gq172, .ref gq184, .ref gq150, .ref gq161, .int (-1)])), (gq150, .inr (2, [.int 0, .ref gq151, .ref gq152, .ref gq153, .ref gq154, .ref gq155, .ref gq156, .int 0, .ref gq157, .ref gq158, .ref gq159, .int 0, .ref gq160]))] sz)) (vx_X (fun (_ : Unit) => True) (fun E _ t => E = "java/lang/IndexOutOfBoundsException" ∧ POST dC dI [] [] (va_A [(gx, .inr (11, [.ref gq1, .ref gq4, .ref gq13, .ref gq136, .ref gq137, .ref gq138, .ref gq172, .ref gq184, .ref gq150, .ref gq161, .int (-1)])), (gq150, .inr (2, [.int 0, .ref gq151, .ref gq152, .ref gq153, .ref gq154, .ref gq155, .ref gq156, .int 0, .ref gq157, .ref gq158, .ref gq159, .int 0, .ref gq160]))] sz) t) (va_A [(gx, .inr (11, [.ref gq1, .ref gq4, .ref gq13, .ref gq136, .ref gq137, .ref gq138, .ref gq172, .ref gq184, .ref gq150, .ref gq161, .int (-1)])), (gq150, .inr (2, [.int 0, .ref gq151, .ref gq152, .ref gq153, .ref gq154, .ref gq155, .ref gq156, .int 0, .ref gq157, .ref gq158, .ref gq159, .int 0, .ref gq160]))] sz)) 1 6 (va_A [(gx, .inr (11, [.ref gq1, .ref gq4, .ref gq13, .ref gq136, .ref gq137, .ref gq138, .ref gq172, .ref gq184, .ref gq150, .ref gq161, .int (-1)])), (gq150, .inr (2, [.int 0, .ref gq151, .ref gq152, .ref gq153, .ref gq154, .ref gq155, .ref gq156, .int 0, .ref gq157, .ref gq158, .ref gq159, .int 0, .ref gq160]))] sz) := by
  refine vx_ofW (cc := cX11_kindOf) (maxL := 5) (ret := (Option.some Jvm.ClassFile.FieldType.int)) (by decide) rfl ?_
  intro p e s m args below meth c s₁ B hml hnt hv
  obtain ⟨rfl, hsz, hP, hK, hD0, hE⟩ := hv
  have hx := B.exec
  have hb := B.bytes
  have hr := B.returns
  have hts0 := atoms_spec (ws := wz yX11_kindOf cX11_kindOf 5 (Option.some Jvm.ClassFile.FieldType.int)) B.pre
  have hts : ∀ w ∈ gw, w.before _ s = true := fun w h => hts0 w (List.mem_cons_of_mem _ h)
  have hown : s.vm.findClass RX11 = some m.cls := findClass_of_methodNamed B.named
  have hlocks := B.notSynchronized
  subst hsz
  have hD := hD0.self (sz := s.heap.size)
  generalize hAe : va_A [(gx, .inr (11, [.ref gq1, .ref gq4, .ref gq13, .ref gq136, .ref gq137, .ref gq138, .ref gq172, .ref gq184, .ref gq150, .ref gq161, .int (-1)])), (gq150, .inr (2, [.int 0, .ref gq151, .ref gq152, .ref gq153, .ref gq154, .ref gq155, .ref gq156, .int 0, .ref gq157, .ref gq158, .ref gq159, .int 0, .ref gq160]))] s.heap.size = A at hD hE ⊢
  have hA : ∀ q : Nat, s.heap.size ≤ q → A q := fun q h => by rw [← hAe]; exact Or.inr h
  have hS : va_S A s.heap s.heap [] := va_S.rf
  have hP : va_P (dC, dI) cls [(gx, .inr (11, [.ref gq1, .ref gq4, .ref gq13, .ref gq136, .ref gq137, .ref gq138, .ref gq172, .ref gq184, .ref gq150, .ref gq161, .int (-1)])), (gq150, .inr (2, [.int 0, .ref gq151, .ref gq152, .ref gq153, .ref gq154, .ref gq155, .ref gq156, .int 0, .ref gq157, .ref gq158, .ref gq159, .int 0, .ref gq160]))] s.heap := hP
  have hl := lv_entry ([.ref gx, .int p0, .int p1, .int p2]) (n := 5) (Nat.le_of_ble_eq_true rfl)
  rw [lg_entry_eq]
  generalize (lg_sl ([.ref gx, .int p0, .int p1, .int p2]) ++ List.replicate (5 - (lg_sl ([.ref gx, .int p0, .int p1, .int p2])).length) Slot.unset).toArray = ls at hl ⊢
  have hl : lv_has ls 5 [(0, .ref gx), (1, .int p0), (2, .int p1), (3, .int p2)] := hl
  refine lv_aload_n hx hb dX11_kindOf_0 rfl (lv_at hl 0 rfl) ?_
  refine lv_iload_n hx hb dX11_kindOf_1 rfl (lv_at hl 1 rfl) ?_
  refine lv_iload_n hx hb dX11_kindOf_2 rfl (lv_at hl 2 rfl) ?_
  refine lv_iload_n hx hb dX11_kindOf_3 rfl (lv_at hl 3 rfl) ?_
  have hPc := hP.sub (ws' := [(gx, .inr (11, [.ref gq1, .ref gq4, .ref gq13, .ref gq136, .ref gq137, .ref gq138, .ref gq172, .ref gq184, .ref gq150, .ref gq161, .int (-1)])), (gq150, .inr (2, [.int 0, .ref gq151, .ref gq152, .ref gq153, .ref gq154, .ref gq155, .ref gq156, .int 0, .ref gq157, .ref gq158, .ref gq159, .int 0, .ref gq160]))]) [0, 1] rfl
  have hDc := hD.sub (ws' := [(gx, .inr (11, [.ref gq1, .ref gq4, .ref gq13, .ref gq136, .ref gq137, .ref gq138, .ref gq172, .ref gq184, .ref gq150, .ref gq161, .int (-1)])), (gq150, .inr (2, [.int 0, .ref gq151, .ref gq152, .ref gq153, .ref gq154, .ref gq155, .ref gq156, .int 0, .ref gq157, .ref gq158, .ref gq159, .int 0, .ref gq160]))]) [0, 1] (by decide) rfl
  have hKc := hK.sub (tys' := []) [] rfl
  have hFc := va_free (wc := [(gx, .inr (11, [.ref gq1, .ref gq4, .ref gq13, .ref gq136, .ref gq137, .ref gq138, .ref gq172, .ref gq184, .ref gq150, .ref gq161, .int (-1)])), (gq150, .inr (2, [.int 0, .ref gq151, .ref gq152, .ref gq153, .ref gq154, .ref gq155, .ref gq156, .int 0, .ref gq157, .ref gq158, .ref gq159, .int 0, .ref gq160]))]) hD hS hA [0, 1] rfl
  refine vx_calli (vx_runV (As := [.int p0, .int p1, .int p2]) (rest := []) ⟨hx, hb, hml, hown, hts⟩ (kX11_stepAt_n8 l dC dI (a0 := gx) (i1 := p0) (i2 := p1) (i3 := p2) (a4 := gq1) (a5 := gq4) (a6 := gq13) (a7 := gq136) (a8 := gq137) (a9 := gq138) (a10 := gq172) (a11 := gq184) (a12 := gq150) (a13 := gq161) (a35 := gq151) (a36 := gq152) (a37 := gq153) (a38 := gq154) (a39 := gq155) (a40 := gq156) (a41 := gq157) (a42 := gq158) (a43 := gq159) (a44 := gq160) (sz := _) (hl9 := hl9)) (cwV 3 hts (gi_V qw253 qw254 qw255 qw222 (gi_z qw252)) rfl rfl rfl (by decide +kernel) ⟨Nat.le_of_ble_eq_true rfl, Nat.le_of_ble_eq_true rfl⟩) ⟨PRE.blind, va_recv hKc hPc (ci := 11) (q0 := 0) rfl rfl, PRE.of hE hS hFc hPc hKc hDc⟩ rfl rfl hl.1 rfl (lv_room (Nat.le_of_ble_eq_true rfl)) dX11_kindOf_4 ⟨Nat.le_of_ble_eq_true rfl, Nat.le_of_ble_eq_true rfl⟩) hS (fun q _ h => hFc q h) hFc (fun q _ h => hFc q h) (fun E ce q9 u t H locs ht hvm hw hB hz1 hk1 hS hce hcv hcl => ?_) (fun _ u t H locs ht hvm hw hB hz1 hk1 hS => hw.elim)
  obtain ⟨rfl, hB⟩ := hB
  obtain ⟨hP, hD, hK⟩ := JOIN (wr := []) hP hD hK [0, 1] [] [] rfl rfl (by decide) (by decide) rfl hk1 hFc ht hvm hB
  have hP : va_P (dC, dI) cls [(gx, .inr (11, [.ref gq1, .ref gq4, .ref gq13, .ref gq136, .ref gq137, .ref gq138, .ref gq172, .ref gq184, .ref gq150, .ref gq161, .int (-1)])), (gq150, .inr (2, [.int 0, .ref gq151, .ref gq152, .ref gq153, .ref gq154, .ref gq155, .ref gq156, .int 0, .ref gq157, .ref gq158, .ref gq159, .int 0, .ref gq160]))] H := hP
  have hD : va_D A [(gx, .inr (11, [.ref gq1, .ref gq4, .ref gq13, .ref gq136, .ref gq137, .ref gq138, .ref gq172, .ref gq184, .ref gq150, .ref gq161, .int (-1)])), (gq150, .inr (2, [.int 0, .ref gq151, .ref gq152, .ref gq153, .ref gq154, .ref gq155, .ref gq156, .int 0, .ref gq157, .ref gq158, .ref gq159, .int 0, .ref gq160]))] := hD
  have hK : va_K (dC, dI) cls [] s := hK
  refine vx_widen (k := 1) (n := 6) (Nat.le_of_ble_eq_true rfl) (Nat.le_of_ble_eq_true rfl) ?_
  have hP9 : va_P (dC, dI) cls [] H := hP.sub [] rfl
  have hD9 : va_D A [] := hD.sub [] (by decide) rfl
  have hK9 : va_K (dC, dI) cls [] s := hK.sub [] rfl
  exact vx_out (fun x hx9 => (hnt x hx9).elim) hlocks hce hcv hcl (fun t ht hal => ⟨(), trivial, ⟨rfl, ⟨by rw [ht]; exact hP9, va_K.moved hal hK9, hD9⟩⟩, hS.F ht⟩) hS.2.2 (Nat.le_of_ble_eq_true rfl) (Nat.le_of_ble_eq_true rfl)
set_option maxHeartbeats 4000000 in
set_option maxRecDepth 100000 in
theorem kX11_gives {zs : Nat × Nat} (l : Launch) (dC : Nat → ClassId) (dI : Nat → Nat → Nat) (gx : Nat) (gq1 : Nat) (gq4 : Nat) (gq13 : Nat) (gq136 : Nat) (gq137 : Nat) (gq138 : Nat) (gq150 : Nat) (gq151 : Nat) (gq152 : Nat) (gq153 : Nat) (gq154 : Nat) (gq155 : Nat) (gq156 : Nat) (gq157 : Nat) (gq158 : Nat) (gq159 : Nat) (gq160 : Nat) (gq161 : Nat) (gq172 : Nat) (gq184 : Nat) (p0 : Int32) (p1 : Int32) (p2 : Int32) (sz : Nat) (hl9 : l.stackTraces = false)  : vx_Met l yX11_gives (wz yX11_gives cX11_gives 5 (Option.some Jvm.ClassFile.FieldType.int)) ({ frames := 9, cells := 1, slots := 6, locals := 167 }) (va_Pc [.ref gx, .int p0, .int p1, .int p2] (PRE zs dC dI [(gx, .inr (11, [.ref gq1, .ref gq4, .ref gq13, .ref gq136, .ref gq137, .ref gq138, .ref gq172, .ref gq184, .ref gq150, .ref gq161, .int (-1)])), (gq150, .inr (2, [.int 0, .ref gq151, .ref gq152, .ref gq153, .ref gq154, .ref gq155, .ref gq156, .int 0, .ref gq157, .ref gq158, .ref gq159, .int 0, .ref gq160]))] [] sz)) (va_Qi (fun (_ : Int32) (_ : Unit) => False) (fun _ _ => True) (va_A [(gx, .inr (11, [.ref gq1, .ref gq4, .ref gq13, .ref gq136, .ref gq137, .ref gq138, .ref gq172, .ref gq184, .ref gq150, .ref gq161, .int (-1)])), (gq150, .inr (2, [.int 0, .ref gq151, .ref gq152, .ref gq153, .ref gq154, .ref gq155, .ref gq156, .int 0, .ref gq157, .ref gq158, .ref gq159, .int 0, .ref gq160]))] sz)) (vx_X (fun (_ : Unit) => True) (fun E _ t => E = "java/lang/IndexOutOfBoundsException" ∧ POST dC dI [] [] (va_A [(gx, .inr (11, [.ref gq1, .ref gq4, .ref gq13, .ref gq136, .ref gq137, .ref gq138, .ref gq172, .ref gq184, .ref gq150, .ref gq161, .int (-1)])), (gq150, .inr (2, [.int 0, .ref gq151, .ref gq152, .ref gq153, .ref gq154, .ref gq155, .ref gq156, .int 0, .ref gq157, .ref gq158, .ref gq159, .int 0, .ref gq160]))] sz) t) (va_A [(gx, .inr (11, [.ref gq1, .ref gq4, .ref gq13, .ref gq136, .ref gq137, .ref gq138, .ref gq172, .ref gq184, .ref gq150, .ref gq161, .int (-1)])), (gq150, .inr (2, [.int 0, .ref gq151, .ref gq152, .ref gq153, .ref gq154, .ref gq155, .ref gq156, .int 0, .ref gq157, .ref gq158, .ref gq159, .int 0, .ref gq160]))] sz)) 1 6 (va_A [(gx, .inr (11, [.ref gq1, .ref gq4, .ref gq13, .ref gq136, .ref gq137, .ref gq138, .ref gq172, .ref gq184, .ref gq150, .ref gq161, .int (-1)])), (gq150, .inr (2, [.int 0, .ref gq151, .ref gq152, .ref gq153, .ref gq154, .ref gq155, .ref gq156, .int 0, .ref gq157, .ref gq158, .ref gq159, .int 0, .ref gq160]))] sz) := by
  refine vx_ofW (cc := cX11_gives) (maxL := 5) (ret := (Option.some Jvm.ClassFile.FieldType.int)) (by decide) rfl ?_
  intro p e s m args below meth c s₁ B hml hnt hv
  obtain ⟨rfl, hsz, hP, hK, hD0, hE⟩ := hv
  have hx := B.exec
  have hb := B.bytes
  have hr := B.returns
  have hts0 := atoms_spec (ws := wz yX11_gives cX11_gives 5 (Option.some Jvm.ClassFile.FieldType.int)) B.pre
  have hts : ∀ w ∈ gw, w.before _ s = true := fun w h => hts0 w (List.mem_cons_of_mem _ h)
  have hown : s.vm.findClass RX11 = some m.cls := findClass_of_methodNamed B.named
  have hlocks := B.notSynchronized
  subst hsz
  have hD := hD0.self (sz := s.heap.size)
  generalize hAe : va_A [(gx, .inr (11, [.ref gq1, .ref gq4, .ref gq13, .ref gq136, .ref gq137, .ref gq138, .ref gq172, .ref gq184, .ref gq150, .ref gq161, .int (-1)])), (gq150, .inr (2, [.int 0, .ref gq151, .ref gq152, .ref gq153, .ref gq154, .ref gq155, .ref gq156, .int 0, .ref gq157, .ref gq158, .ref gq159, .int 0, .ref gq160]))] s.heap.size = A at hD hE ⊢
  have hA : ∀ q : Nat, s.heap.size ≤ q → A q := fun q h => by rw [← hAe]; exact Or.inr h
  have hS : va_S A s.heap s.heap [] := va_S.rf
  have hP : va_P (dC, dI) cls [(gx, .inr (11, [.ref gq1, .ref gq4, .ref gq13, .ref gq136, .ref gq137, .ref gq138, .ref gq172, .ref gq184, .ref gq150, .ref gq161, .int (-1)])), (gq150, .inr (2, [.int 0, .ref gq151, .ref gq152, .ref gq153, .ref gq154, .ref gq155, .ref gq156, .int 0, .ref gq157, .ref gq158, .ref gq159, .int 0, .ref gq160]))] s.heap := hP
  have hl := lv_entry ([.ref gx, .int p0, .int p1, .int p2]) (n := 5) (Nat.le_of_ble_eq_true rfl)
  rw [lg_entry_eq]
  generalize (lg_sl ([.ref gx, .int p0, .int p1, .int p2]) ++ List.replicate (5 - (lg_sl ([.ref gx, .int p0, .int p1, .int p2])).length) Slot.unset).toArray = ls at hl ⊢
  have hl : lv_has ls 5 [(0, .ref gx), (1, .int p0), (2, .int p1), (3, .int p2)] := hl
  refine lv_aload_n hx hb dX11_gives_0 rfl (lv_at hl 0 rfl) ?_
  refine lv_iload_n hx hb dX11_gives_1 rfl (lv_at hl 1 rfl) ?_
  refine lv_iload_n hx hb dX11_gives_2 rfl (lv_at hl 2 rfl) ?_
  refine lv_iload_n hx hb dX11_gives_3 rfl (lv_at hl 3 rfl) ?_
  have hPc := hP.sub (ws' := [(gx, .inr (11, [.ref gq1, .ref gq4, .ref gq13, .ref gq136, .ref gq137, .ref gq138, .ref gq172, .ref gq184, .ref gq150, .ref gq161, .int (-1)])), (gq150, .inr (2, [.int 0, .ref gq151, .ref gq152, .ref gq153, .ref gq154, .ref gq155, .ref gq156, .int 0, .ref gq157, .ref gq158, .ref gq159, .int 0, .ref gq160]))]) [0, 1] rfl
  have hDc := hD.sub (ws' := [(gx, .inr (11, [.ref gq1, .ref gq4, .ref gq13, .ref gq136, .ref gq137, .ref gq138, .ref gq172, .ref gq184, .ref gq150, .ref gq161, .int (-1)])), (gq150, .inr (2, [.int 0, .ref gq151, .ref gq152, .ref gq153, .ref gq154, .ref gq155, .ref gq156, .int 0, .ref gq157, .ref gq158, .ref gq159, .int 0, .ref gq160]))]) [0, 1] (by decide) rfl
  have hKc := hK.sub (tys' := []) [] rfl
  have hFc := va_free (wc := [(gx, .inr (11, [.ref gq1, .ref gq4, .ref gq13, .ref gq136, .ref gq137, .ref gq138, .ref gq172, .ref gq184, .ref gq150, .ref gq161, .int (-1)])), (gq150, .inr (2, [.int 0, .ref gq151, .ref gq152, .ref gq153, .ref gq154, .ref gq155, .ref gq156, .int 0, .ref gq157, .ref gq158, .ref gq159, .int 0, .ref gq160]))]) hD hS hA [0, 1] rfl
  refine vx_calli (vx_runV (As := [.int p0, .int p1, .int p2]) (rest := []) ⟨hx, hb, hml, hown, hts⟩ (kX11_stepAt_n8 l dC dI (a0 := gx) (i1 := p0) (i2 := p1) (i3 := p2) (a4 := gq1) (a5 := gq4) (a6 := gq13) (a7 := gq136) (a8 := gq137) (a9 := gq138) (a10 := gq172) (a11 := gq184) (a12 := gq150) (a13 := gq161) (a35 := gq151) (a36 := gq152) (a37 := gq153) (a38 := gq154) (a39 := gq155) (a40 := gq156) (a41 := gq157) (a42 := gq158) (a43 := gq159) (a44 := gq160) (sz := _) (hl9 := hl9)) (cwV 3 hts (gi_V qw253 qw254 qw255 qw222 (gi_z qw252)) rfl rfl rfl (by decide +kernel) ⟨Nat.le_of_ble_eq_true rfl, Nat.le_of_ble_eq_true rfl⟩) ⟨PRE.blind, va_recv hKc hPc (ci := 11) (q0 := 0) rfl rfl, PRE.of hE hS hFc hPc hKc hDc⟩ rfl rfl hl.1 rfl (lv_room (Nat.le_of_ble_eq_true rfl)) dX11_gives_4 ⟨Nat.le_of_ble_eq_true rfl, Nat.le_of_ble_eq_true rfl⟩) hS (fun q _ h => hFc q h) hFc (fun q _ h => hFc q h) (fun E ce q9 u t H locs ht hvm hw hB hz1 hk1 hS hce hcv hcl => ?_) (fun _ u t H locs ht hvm hw hB hz1 hk1 hS => hw.elim)
  obtain ⟨rfl, hB⟩ := hB
  obtain ⟨hP, hD, hK⟩ := JOIN (wr := []) hP hD hK [0, 1] [] [] rfl rfl (by decide) (by decide) rfl hk1 hFc ht hvm hB
  have hP : va_P (dC, dI) cls [(gx, .inr (11, [.ref gq1, .ref gq4, .ref gq13, .ref gq136, .ref gq137, .ref gq138, .ref gq172, .ref gq184, .ref gq150, .ref gq161, .int (-1)])), (gq150, .inr (2, [.int 0, .ref gq151, .ref gq152, .ref gq153, .ref gq154, .ref gq155, .ref gq156, .int 0, .ref gq157, .ref gq158, .ref gq159, .int 0, .ref gq160]))] H := hP
  have hD : va_D A [(gx, .inr (11, [.ref gq1, .ref gq4, .ref gq13, .ref gq136, .ref gq137, .ref gq138, .ref gq172, .ref gq184, .ref gq150, .ref gq161, .int (-1)])), (gq150, .inr (2, [.int 0, .ref gq151, .ref gq152, .ref gq153, .ref gq154, .ref gq155, .ref gq156, .int 0, .ref gq157, .ref gq158, .ref gq159, .int 0, .ref gq160]))] := hD
  have hK : va_K (dC, dI) cls [] s := hK
  refine vx_widen (k := 1) (n := 6) (Nat.le_of_ble_eq_true rfl) (Nat.le_of_ble_eq_true rfl) ?_
  have hP9 : va_P (dC, dI) cls [] H := hP.sub [] rfl
  have hD9 : va_D A [] := hD.sub [] (by decide) rfl
  have hK9 : va_K (dC, dI) cls [] s := hK.sub [] rfl
  exact vx_out (fun x hx9 => (hnt x hx9).elim) hlocks hce hcv hcl (fun t ht hal => ⟨(), trivial, ⟨rfl, ⟨by rw [ht]; exact hP9, va_K.moved hal hK9, hD9⟩⟩, hS.F ht⟩) hS.2.2 (Nat.le_of_ble_eq_true rfl) (Nat.le_of_ble_eq_true rfl)
set_option maxHeartbeats 4000000 in
set_option maxRecDepth 100000 in
theorem kX11_leftOf {zs : Nat × Nat} (l : Launch) (dC : Nat → ClassId) (dI : Nat → Nat → Nat) (gx : Nat) (gq1 : Nat) (gq4 : Nat) (gq13 : Nat) (gq136 : Nat) (gq137 : Nat) (gq138 : Nat) (gq150 : Nat) (gq151 : Nat) (gq152 : Nat) (gq153 : Nat) (gq154 : Nat) (gq155 : Nat) (gq156 : Nat) (gq157 : Nat) (gq158 : Nat) (gq159 : Nat) (gq160 : Nat) (gq161 : Nat) (gq172 : Nat) (gq184 : Nat) (p0 : Int32) (p1 : Int32) (p2 : Int32) (sz : Nat) (hl9 : l.stackTraces = false)  : vx_Met l yX11_leftOf (wz yX11_leftOf cX11_leftOf 5 (Option.some Jvm.ClassFile.FieldType.int)) ({ frames := 9, cells := 1, slots := 6, locals := 167 }) (va_Pc [.ref gx, .int p0, .int p1, .int p2] (PRE zs dC dI [(gx, .inr (11, [.ref gq1, .ref gq4, .ref gq13, .ref gq136, .ref gq137, .ref gq138, .ref gq172, .ref gq184, .ref gq150, .ref gq161, .int (-1)])), (gq150, .inr (2, [.int 0, .ref gq151, .ref gq152, .ref gq153, .ref gq154, .ref gq155, .ref gq156, .int 0, .ref gq157, .ref gq158, .ref gq159, .int 0, .ref gq160]))] [] sz)) (va_Qi (fun (_ : Int32) (_ : Unit) => False) (fun _ _ => True) (va_A [(gx, .inr (11, [.ref gq1, .ref gq4, .ref gq13, .ref gq136, .ref gq137, .ref gq138, .ref gq172, .ref gq184, .ref gq150, .ref gq161, .int (-1)])), (gq150, .inr (2, [.int 0, .ref gq151, .ref gq152, .ref gq153, .ref gq154, .ref gq155, .ref gq156, .int 0, .ref gq157, .ref gq158, .ref gq159, .int 0, .ref gq160]))] sz)) (vx_X (fun (_ : Unit) => True) (fun E _ t => E = "java/lang/IndexOutOfBoundsException" ∧ POST dC dI [] [] (va_A [(gx, .inr (11, [.ref gq1, .ref gq4, .ref gq13, .ref gq136, .ref gq137, .ref gq138, .ref gq172, .ref gq184, .ref gq150, .ref gq161, .int (-1)])), (gq150, .inr (2, [.int 0, .ref gq151, .ref gq152, .ref gq153, .ref gq154, .ref gq155, .ref gq156, .int 0, .ref gq157, .ref gq158, .ref gq159, .int 0, .ref gq160]))] sz) t) (va_A [(gx, .inr (11, [.ref gq1, .ref gq4, .ref gq13, .ref gq136, .ref gq137, .ref gq138, .ref gq172, .ref gq184, .ref gq150, .ref gq161, .int (-1)])), (gq150, .inr (2, [.int 0, .ref gq151, .ref gq152, .ref gq153, .ref gq154, .ref gq155, .ref gq156, .int 0, .ref gq157, .ref gq158, .ref gq159, .int 0, .ref gq160]))] sz)) 1 6 (va_A [(gx, .inr (11, [.ref gq1, .ref gq4, .ref gq13, .ref gq136, .ref gq137, .ref gq138, .ref gq172, .ref gq184, .ref gq150, .ref gq161, .int (-1)])), (gq150, .inr (2, [.int 0, .ref gq151, .ref gq152, .ref gq153, .ref gq154, .ref gq155, .ref gq156, .int 0, .ref gq157, .ref gq158, .ref gq159, .int 0, .ref gq160]))] sz) := by
  refine vx_ofW (cc := cX11_leftOf) (maxL := 5) (ret := (Option.some Jvm.ClassFile.FieldType.int)) (by decide) rfl ?_
  intro p e s m args below meth c s₁ B hml hnt hv
  obtain ⟨rfl, hsz, hP, hK, hD0, hE⟩ := hv
  have hx := B.exec
  have hb := B.bytes
  have hr := B.returns
  have hts0 := atoms_spec (ws := wz yX11_leftOf cX11_leftOf 5 (Option.some Jvm.ClassFile.FieldType.int)) B.pre
  have hts : ∀ w ∈ gw, w.before _ s = true := fun w h => hts0 w (List.mem_cons_of_mem _ h)
  have hown : s.vm.findClass RX11 = some m.cls := findClass_of_methodNamed B.named
  have hlocks := B.notSynchronized
  subst hsz
  have hD := hD0.self (sz := s.heap.size)
  generalize hAe : va_A [(gx, .inr (11, [.ref gq1, .ref gq4, .ref gq13, .ref gq136, .ref gq137, .ref gq138, .ref gq172, .ref gq184, .ref gq150, .ref gq161, .int (-1)])), (gq150, .inr (2, [.int 0, .ref gq151, .ref gq152, .ref gq153, .ref gq154, .ref gq155, .ref gq156, .int 0, .ref gq157, .ref gq158, .ref gq159, .int 0, .ref gq160]))] s.heap.size = A at hD hE ⊢
  have hA : ∀ q : Nat, s.heap.size ≤ q → A q := fun q h => by rw [← hAe]; exact Or.inr h
  have hS : va_S A s.heap s.heap [] := va_S.rf
  have hP : va_P (dC, dI) cls [(gx, .inr (11, [.ref gq1, .ref gq4, .ref gq13, .ref gq136, .ref gq137, .ref gq138, .ref gq172, .ref gq184, .ref gq150, .ref gq161, .int (-1)])), (gq150, .inr (2, [.int 0, .ref gq151, .ref gq152, .ref gq153, .ref gq154, .ref gq155, .ref gq156, .int 0, .ref gq157, .ref gq158, .ref gq159, .int 0, .ref gq160]))] s.heap := hP
  have hl := lv_entry ([.ref gx, .int p0, .int p1, .int p2]) (n := 5) (Nat.le_of_ble_eq_true rfl)
  rw [lg_entry_eq]
  generalize (lg_sl ([.ref gx, .int p0, .int p1, .int p2]) ++ List.replicate (5 - (lg_sl ([.ref gx, .int p0, .int p1, .int p2])).length) Slot.unset).toArray = ls at hl ⊢
  have hl : lv_has ls 5 [(0, .ref gx), (1, .int p0), (2, .int p1), (3, .int p2)] := hl
  refine lv_aload_n hx hb dX11_leftOf_0 rfl (lv_at hl 0 rfl) ?_
  refine lv_iload_n hx hb dX11_leftOf_1 rfl (lv_at hl 1 rfl) ?_
  refine lv_iload_n hx hb dX11_leftOf_2 rfl (lv_at hl 2 rfl) ?_
  refine lv_iload_n hx hb dX11_leftOf_3 rfl (lv_at hl 3 rfl) ?_
  have hPc := hP.sub (ws' := [(gx, .inr (11, [.ref gq1, .ref gq4, .ref gq13, .ref gq136, .ref gq137, .ref gq138, .ref gq172, .ref gq184, .ref gq150, .ref gq161, .int (-1)])), (gq150, .inr (2, [.int 0, .ref gq151, .ref gq152, .ref gq153, .ref gq154, .ref gq155, .ref gq156, .int 0, .ref gq157, .ref gq158, .ref gq159, .int 0, .ref gq160]))]) [0, 1] rfl
  have hDc := hD.sub (ws' := [(gx, .inr (11, [.ref gq1, .ref gq4, .ref gq13, .ref gq136, .ref gq137, .ref gq138, .ref gq172, .ref gq184, .ref gq150, .ref gq161, .int (-1)])), (gq150, .inr (2, [.int 0, .ref gq151, .ref gq152, .ref gq153, .ref gq154, .ref gq155, .ref gq156, .int 0, .ref gq157, .ref gq158, .ref gq159, .int 0, .ref gq160]))]) [0, 1] (by decide) rfl
  have hKc := hK.sub (tys' := []) [] rfl
  have hFc := va_free (wc := [(gx, .inr (11, [.ref gq1, .ref gq4, .ref gq13, .ref gq136, .ref gq137, .ref gq138, .ref gq172, .ref gq184, .ref gq150, .ref gq161, .int (-1)])), (gq150, .inr (2, [.int 0, .ref gq151, .ref gq152, .ref gq153, .ref gq154, .ref gq155, .ref gq156, .int 0, .ref gq157, .ref gq158, .ref gq159, .int 0, .ref gq160]))]) hD hS hA [0, 1] rfl
  refine vx_calli (vx_runV (As := [.int p0, .int p1, .int p2]) (rest := []) ⟨hx, hb, hml, hown, hts⟩ (kX11_stepAt_n8 l dC dI (a0 := gx) (i1 := p0) (i2 := p1) (i3 := p2) (a4 := gq1) (a5 := gq4) (a6 := gq13) (a7 := gq136) (a8 := gq137) (a9 := gq138) (a10 := gq172) (a11 := gq184) (a12 := gq150) (a13 := gq161) (a35 := gq151) (a36 := gq152) (a37 := gq153) (a38 := gq154) (a39 := gq155) (a40 := gq156) (a41 := gq157) (a42 := gq158) (a43 := gq159) (a44 := gq160) (sz := _) (hl9 := hl9)) (cwV 3 hts (gi_V qw253 qw254 qw255 qw222 (gi_z qw252)) rfl rfl rfl (by decide +kernel) ⟨Nat.le_of_ble_eq_true rfl, Nat.le_of_ble_eq_true rfl⟩) ⟨PRE.blind, va_recv hKc hPc (ci := 11) (q0 := 0) rfl rfl, PRE.of hE hS hFc hPc hKc hDc⟩ rfl rfl hl.1 rfl (lv_room (Nat.le_of_ble_eq_true rfl)) dX11_leftOf_4 ⟨Nat.le_of_ble_eq_true rfl, Nat.le_of_ble_eq_true rfl⟩) hS (fun q _ h => hFc q h) hFc (fun q _ h => hFc q h) (fun E ce q9 u t H locs ht hvm hw hB hz1 hk1 hS hce hcv hcl => ?_) (fun _ u t H locs ht hvm hw hB hz1 hk1 hS => hw.elim)
  obtain ⟨rfl, hB⟩ := hB
  obtain ⟨hP, hD, hK⟩ := JOIN (wr := []) hP hD hK [0, 1] [] [] rfl rfl (by decide) (by decide) rfl hk1 hFc ht hvm hB
  have hP : va_P (dC, dI) cls [(gx, .inr (11, [.ref gq1, .ref gq4, .ref gq13, .ref gq136, .ref gq137, .ref gq138, .ref gq172, .ref gq184, .ref gq150, .ref gq161, .int (-1)])), (gq150, .inr (2, [.int 0, .ref gq151, .ref gq152, .ref gq153, .ref gq154, .ref gq155, .ref gq156, .int 0, .ref gq157, .ref gq158, .ref gq159, .int 0, .ref gq160]))] H := hP
  have hD : va_D A [(gx, .inr (11, [.ref gq1, .ref gq4, .ref gq13, .ref gq136, .ref gq137, .ref gq138, .ref gq172, .ref gq184, .ref gq150, .ref gq161, .int (-1)])), (gq150, .inr (2, [.int 0, .ref gq151, .ref gq152, .ref gq153, .ref gq154, .ref gq155, .ref gq156, .int 0, .ref gq157, .ref gq158, .ref gq159, .int 0, .ref gq160]))] := hD
  have hK : va_K (dC, dI) cls [] s := hK
  refine vx_widen (k := 1) (n := 6) (Nat.le_of_ble_eq_true rfl) (Nat.le_of_ble_eq_true rfl) ?_
  have hP9 : va_P (dC, dI) cls [] H := hP.sub [] rfl
  have hD9 : va_D A [] := hD.sub [] (by decide) rfl
  have hK9 : va_K (dC, dI) cls [] s := hK.sub [] rfl
  exact vx_out (fun x hx9 => (hnt x hx9).elim) hlocks hce hcv hcl (fun t ht hal => ⟨(), trivial, ⟨rfl, ⟨by rw [ht]; exact hP9, va_K.moved hal hK9, hD9⟩⟩, hS.F ht⟩) hS.2.2 (Nat.le_of_ble_eq_true rfl) (Nat.le_of_ble_eq_true rfl)
set_option maxHeartbeats 4000000 in
set_option maxRecDepth 100000 in
theorem kX11_rightOf {zs : Nat × Nat} (l : Launch) (dC : Nat → ClassId) (dI : Nat → Nat → Nat) (gx : Nat) (gq1 : Nat) (gq4 : Nat) (gq13 : Nat) (gq136 : Nat) (gq137 : Nat) (gq138 : Nat) (gq150 : Nat) (gq151 : Nat) (gq152 : Nat) (gq153 : Nat) (gq154 : Nat) (gq155 : Nat) (gq156 : Nat) (gq157 : Nat) (gq158 : Nat) (gq159 : Nat) (gq160 : Nat) (gq161 : Nat) (gq172 : Nat) (gq184 : Nat) (p0 : Int32) (p1 : Int32) (p2 : Int32) (sz : Nat) (hl9 : l.stackTraces = false)  : vx_Met l yX11_rightOf (wz yX11_rightOf cX11_rightOf 5 (Option.some Jvm.ClassFile.FieldType.int)) ({ frames := 9, cells := 1, slots := 6, locals := 167 }) (va_Pc [.ref gx, .int p0, .int p1, .int p2] (PRE zs dC dI [(gx, .inr (11, [.ref gq1, .ref gq4, .ref gq13, .ref gq136, .ref gq137, .ref gq138, .ref gq172, .ref gq184, .ref gq150, .ref gq161, .int (-1)])), (gq150, .inr (2, [.int 0, .ref gq151, .ref gq152, .ref gq153, .ref gq154, .ref gq155, .ref gq156, .int 0, .ref gq157, .ref gq158, .ref gq159, .int 0, .ref gq160]))] [] sz)) (va_Qi (fun (_ : Int32) (_ : Unit) => False) (fun _ _ => True) (va_A [(gx, .inr (11, [.ref gq1, .ref gq4, .ref gq13, .ref gq136, .ref gq137, .ref gq138, .ref gq172, .ref gq184, .ref gq150, .ref gq161, .int (-1)])), (gq150, .inr (2, [.int 0, .ref gq151, .ref gq152, .ref gq153, .ref gq154, .ref gq155, .ref gq156, .int 0, .ref gq157, .ref gq158, .ref gq159, .int 0, .ref gq160]))] sz)) (vx_X (fun (_ : Unit) => True) (fun E _ t => E = "java/lang/IndexOutOfBoundsException" ∧ POST dC dI [] [] (va_A [(gx, .inr (11, [.ref gq1, .ref gq4, .ref gq13, .ref gq136, .ref gq137, .ref gq138, .ref gq172, .ref gq184, .ref gq150, .ref gq161, .int (-1)])), (gq150, .inr (2, [.int 0, .ref gq151, .ref gq152, .ref gq153, .ref gq154, .ref gq155, .ref gq156, .int 0, .ref gq157, .ref gq158, .ref gq159, .int 0, .ref gq160]))] sz) t) (va_A [(gx, .inr (11, [.ref gq1, .ref gq4, .ref gq13, .ref gq136, .ref gq137, .ref gq138, .ref gq172, .ref gq184, .ref gq150, .ref gq161, .int (-1)])), (gq150, .inr (2, [.int 0, .ref gq151, .ref gq152, .ref gq153, .ref gq154, .ref gq155, .ref gq156, .int 0, .ref gq157, .ref gq158, .ref gq159, .int 0, .ref gq160]))] sz)) 1 6 (va_A [(gx, .inr (11, [.ref gq1, .ref gq4, .ref gq13, .ref gq136, .ref gq137, .ref gq138, .ref gq172, .ref gq184, .ref gq150, .ref gq161, .int (-1)])), (gq150, .inr (2, [.int 0, .ref gq151, .ref gq152, .ref gq153, .ref gq154, .ref gq155, .ref gq156, .int 0, .ref gq157, .ref gq158, .ref gq159, .int 0, .ref gq160]))] sz) := by
  refine vx_ofW (cc := cX11_rightOf) (maxL := 5) (ret := (Option.some Jvm.ClassFile.FieldType.int)) (by decide) rfl ?_
  intro p e s m args below meth c s₁ B hml hnt hv
  obtain ⟨rfl, hsz, hP, hK, hD0, hE⟩ := hv
  have hx := B.exec
  have hb := B.bytes
  have hr := B.returns
  have hts0 := atoms_spec (ws := wz yX11_rightOf cX11_rightOf 5 (Option.some Jvm.ClassFile.FieldType.int)) B.pre
  have hts : ∀ w ∈ gw, w.before _ s = true := fun w h => hts0 w (List.mem_cons_of_mem _ h)
  have hown : s.vm.findClass RX11 = some m.cls := findClass_of_methodNamed B.named
  have hlocks := B.notSynchronized
  subst hsz
  have hD := hD0.self (sz := s.heap.size)
  generalize hAe : va_A [(gx, .inr (11, [.ref gq1, .ref gq4, .ref gq13, .ref gq136, .ref gq137, .ref gq138, .ref gq172, .ref gq184, .ref gq150, .ref gq161, .int (-1)])), (gq150, .inr (2, [.int 0, .ref gq151, .ref gq152, .ref gq153, .ref gq154, .ref gq155, .ref gq156, .int 0, .ref gq157, .ref gq158, .ref gq159, .int 0, .ref gq160]))] s.heap.size = A at hD hE ⊢
  have hA : ∀ q : Nat, s.heap.size ≤ q → A q := fun q h => by rw [← hAe]; exact Or.inr h
  have hS : va_S A s.heap s.heap [] := va_S.rf
  have hP : va_P (dC, dI) cls [(gx, .inr (11, [.ref gq1, .ref gq4, .ref gq13, .ref gq136, .ref gq137, .ref gq138, .ref gq172, .ref gq184, .ref gq150, .ref gq161, .int (-1)])), (gq150, .inr (2, [.int 0, .ref gq151, .ref gq152, .ref gq153, .ref gq154, .ref gq155, .ref gq156, .int 0, .ref gq157, .ref gq158, .ref gq159, .int 0, .ref gq160]))] s.heap := hP
  have hl := lv_entry ([.ref gx, .int p0, .int p1, .int p2]) (n := 5) (Nat.le_of_ble_eq_true rfl)
  rw [lg_entry_eq]
  generalize (lg_sl ([.ref gx, .int p0, .int p1, .int p2]) ++ List.replicate (5 - (lg_sl ([.ref gx, .int p0, .int p1, .int p2])).length) Slot.unset).toArray = ls at hl ⊢
  have hl : lv_has ls 5 [(0, .ref gx), (1, .int p0), (2, .int p1), (3, .int p2)] := hl
  refine lv_aload_n hx hb dX11_rightOf_0 rfl (lv_at hl 0 rfl) ?_
  refine lv_iload_n hx hb dX11_rightOf_1 rfl (lv_at hl 1 rfl) ?_
  refine lv_iload_n hx hb dX11_rightOf_2 rfl (lv_at hl 2 rfl) ?_
  refine lv_iload_n hx hb dX11_rightOf_3 rfl (lv_at hl 3 rfl) ?_
  have hPc := hP.sub (ws' := [(gx, .inr (11, [.ref gq1, .ref gq4, .ref gq13, .ref gq136, .ref gq137, .ref gq138, .ref gq172, .ref gq184, .ref gq150, .ref gq161, .int (-1)])), (gq150, .inr (2, [.int 0, .ref gq151, .ref gq152, .ref gq153, .ref gq154, .ref gq155, .ref gq156, .int 0, .ref gq157, .ref gq158, .ref gq159, .int 0, .ref gq160]))]) [0, 1] rfl
  have hDc := hD.sub (ws' := [(gx, .inr (11, [.ref gq1, .ref gq4, .ref gq13, .ref gq136, .ref gq137, .ref gq138, .ref gq172, .ref gq184, .ref gq150, .ref gq161, .int (-1)])), (gq150, .inr (2, [.int 0, .ref gq151, .ref gq152, .ref gq153, .ref gq154, .ref gq155, .ref gq156, .int 0, .ref gq157, .ref gq158, .ref gq159, .int 0, .ref gq160]))]) [0, 1] (by decide) rfl
  have hKc := hK.sub (tys' := []) [] rfl
  have hFc := va_free (wc := [(gx, .inr (11, [.ref gq1, .ref gq4, .ref gq13, .ref gq136, .ref gq137, .ref gq138, .ref gq172, .ref gq184, .ref gq150, .ref gq161, .int (-1)])), (gq150, .inr (2, [.int 0, .ref gq151, .ref gq152, .ref gq153, .ref gq154, .ref gq155, .ref gq156, .int 0, .ref gq157, .ref gq158, .ref gq159, .int 0, .ref gq160]))]) hD hS hA [0, 1] rfl
  refine vx_calli (vx_runV (As := [.int p0, .int p1, .int p2]) (rest := []) ⟨hx, hb, hml, hown, hts⟩ (kX11_stepAt_n8 l dC dI (a0 := gx) (i1 := p0) (i2 := p1) (i3 := p2) (a4 := gq1) (a5 := gq4) (a6 := gq13) (a7 := gq136) (a8 := gq137) (a9 := gq138) (a10 := gq172) (a11 := gq184) (a12 := gq150) (a13 := gq161) (a35 := gq151) (a36 := gq152) (a37 := gq153) (a38 := gq154) (a39 := gq155) (a40 := gq156) (a41 := gq157) (a42 := gq158) (a43 := gq159) (a44 := gq160) (sz := _) (hl9 := hl9)) (cwV 3 hts (gi_V qw253 qw254 qw255 qw222 (gi_z qw252)) rfl rfl rfl (by decide +kernel) ⟨Nat.le_of_ble_eq_true rfl, Nat.le_of_ble_eq_true rfl⟩) ⟨PRE.blind, va_recv hKc hPc (ci := 11) (q0 := 0) rfl rfl, PRE.of hE hS hFc hPc hKc hDc⟩ rfl rfl hl.1 rfl (lv_room (Nat.le_of_ble_eq_true rfl)) dX11_rightOf_4 ⟨Nat.le_of_ble_eq_true rfl, Nat.le_of_ble_eq_true rfl⟩) hS (fun q _ h => hFc q h) hFc (fun q _ h => hFc q h) (fun E ce q9 u t H locs ht hvm hw hB hz1 hk1 hS hce hcv hcl => ?_) (fun _ u t H locs ht hvm hw hB hz1 hk1 hS => hw.elim)
  obtain ⟨rfl, hB⟩ := hB
  obtain ⟨hP, hD, hK⟩ := JOIN (wr := []) hP hD hK [0, 1] [] [] rfl rfl (by decide) (by decide) rfl hk1 hFc ht hvm hB
  have hP : va_P (dC, dI) cls [(gx, .inr (11, [.ref gq1, .ref gq4, .ref gq13, .ref gq136, .ref gq137, .ref gq138, .ref gq172, .ref gq184, .ref gq150, .ref gq161, .int (-1)])), (gq150, .inr (2, [.int 0, .ref gq151, .ref gq152, .ref gq153, .ref gq154, .ref gq155, .ref gq156, .int 0, .ref gq157, .ref gq158, .ref gq159, .int 0, .ref gq160]))] H := hP
  have hD : va_D A [(gx, .inr (11, [.ref gq1, .ref gq4, .ref gq13, .ref gq136, .ref gq137, .ref gq138, .ref gq172, .ref gq184, .ref gq150, .ref gq161, .int (-1)])), (gq150, .inr (2, [.int 0, .ref gq151, .ref gq152, .ref gq153, .ref gq154, .ref gq155, .ref gq156, .int 0, .ref gq157, .ref gq158, .ref gq159, .int 0, .ref gq160]))] := hD
  have hK : va_K (dC, dI) cls [] s := hK
  refine vx_widen (k := 1) (n := 6) (Nat.le_of_ble_eq_true rfl) (Nat.le_of_ble_eq_true rfl) ?_
  have hP9 : va_P (dC, dI) cls [] H := hP.sub [] rfl
  have hD9 : va_D A [] := hD.sub [] (by decide) rfl
  have hK9 : va_K (dC, dI) cls [] s := hK.sub [] rfl
  exact vx_out (fun x hx9 => (hnt x hx9).elim) hlocks hce hcv hcl (fun t ht hal => ⟨(), trivial, ⟨rfl, ⟨by rw [ht]; exact hP9, va_K.moved hal hK9, hD9⟩⟩, hS.F ht⟩) hS.2.2 (Nat.le_of_ble_eq_true rfl) (Nat.le_of_ble_eq_true rfl)
set_option maxHeartbeats 4000000 in
set_option maxRecDepth 100000 in
theorem kX11_lines {zs : Nat × Nat} (l : Launch) (dC : Nat → ClassId) (dI : Nat → Nat → Nat) (gx : Nat) (gq1 : Nat) (gq4 : Nat) (gq13 : Nat) (gq136 : Nat) (gq137 : Nat) (gq138 : Nat) (gq150 : Nat) (gq151 : Nat) (gq152 : Nat) (gq153 : Nat) (gq154 : Nat) (gq155 : Nat) (gq156 : Nat) (gq157 : Nat) (gq158 : Nat) (gq159 : Nat) (gq160 : Nat) (gq161 : Nat) (gq172 : Nat) (gq184 : Nat) (p0 : Int32) (sz : Nat) (hl9 : l.stackTraces = false)  : vx_Met l yX11_lines (wz yX11_lines cX11_lines 2 (Option.some Jvm.ClassFile.FieldType.int)) ({ frames := 7, cells := 1, slots := 6, locals := 121 }) (va_Pc [.ref gx, .int p0] (PRE zs dC dI [(gx, .inr (11, [.ref gq1, .ref gq4, .ref gq13, .ref gq136, .ref gq137, .ref gq138, .ref gq172, .ref gq184, .ref gq150, .ref gq161, .int (-1)])), (gq150, .inr (2, [.int 0, .ref gq151, .ref gq152, .ref gq153, .ref gq154, .ref gq155, .ref gq156, .int 0, .ref gq157, .ref gq158, .ref gq159, .int 0, .ref gq160]))] [] sz)) (va_Qi (fun (_ : Int32) (_ : Unit) => False) (fun _ _ => True) (va_A [(gx, .inr (11, [.ref gq1, .ref gq4, .ref gq13, .ref gq136, .ref gq137, .ref gq138, .ref gq172, .ref gq184, .ref gq150, .ref gq161, .int (-1)])), (gq150, .inr (2, [.int 0, .ref gq151, .ref gq152, .ref gq153, .ref gq154, .ref gq155, .ref gq156, .int 0, .ref gq157, .ref gq158, .ref gq159, .int 0, .ref gq160]))] sz)) (vx_X (fun (_ : Unit) => True) (fun E _ t => E = "java/lang/IndexOutOfBoundsException" ∧ POST dC dI [] [] (va_A [(gx, .inr (11, [.ref gq1, .ref gq4, .ref gq13, .ref gq136, .ref gq137, .ref gq138, .ref gq172, .ref gq184, .ref gq150, .ref gq161, .int (-1)])), (gq150, .inr (2, [.int 0, .ref gq151, .ref gq152, .ref gq153, .ref gq154, .ref gq155, .ref gq156, .int 0, .ref gq157, .ref gq158, .ref gq159, .int 0, .ref gq160]))] sz) t) (va_A [(gx, .inr (11, [.ref gq1, .ref gq4, .ref gq13, .ref gq136, .ref gq137, .ref gq138, .ref gq172, .ref gq184, .ref gq150, .ref gq161, .int (-1)])), (gq150, .inr (2, [.int 0, .ref gq151, .ref gq152, .ref gq153, .ref gq154, .ref gq155, .ref gq156, .int 0, .ref gq157, .ref gq158, .ref gq159, .int 0, .ref gq160]))] sz)) 1 6 (va_A [(gx, .inr (11, [.ref gq1, .ref gq4, .ref gq13, .ref gq136, .ref gq137, .ref gq138, .ref gq172, .ref gq184, .ref gq150, .ref gq161, .int (-1)])), (gq150, .inr (2, [.int 0, .ref gq151, .ref gq152, .ref gq153, .ref gq154, .ref gq155, .ref gq156, .int 0, .ref gq157, .ref gq158, .ref gq159, .int 0, .ref gq160]))] sz) := by
  refine vx_ofW (cc := cX11_lines) (maxL := 2) (ret := (Option.some Jvm.ClassFile.FieldType.int)) (by decide) rfl ?_
  intro p e s m args below meth c s₁ B hml hnt hv
  obtain ⟨rfl, hsz, hP, hK, hD0, hE⟩ := hv
  have hx := B.exec
  have hb := B.bytes
  have hr := B.returns
  have hts0 := atoms_spec (ws := wz yX11_lines cX11_lines 2 (Option.some Jvm.ClassFile.FieldType.int)) B.pre
  have hts : ∀ w ∈ gw, w.before _ s = true := fun w h => hts0 w (List.mem_cons_of_mem _ h)
  have hown : s.vm.findClass RX11 = some m.cls := findClass_of_methodNamed B.named
  have hlocks := B.notSynchronized
  subst hsz
  have hD := hD0.self (sz := s.heap.size)
  generalize hAe : va_A [(gx, .inr (11, [.ref gq1, .ref gq4, .ref gq13, .ref gq136, .ref gq137, .ref gq138, .ref gq172, .ref gq184, .ref gq150, .ref gq161, .int (-1)])), (gq150, .inr (2, [.int 0, .ref gq151, .ref gq152, .ref gq153, .ref gq154, .ref gq155, .ref gq156, .int 0, .ref gq157, .ref gq158, .ref gq159, .int 0, .ref gq160]))] s.heap.size = A at hD hE ⊢
  have hA : ∀ q : Nat, s.heap.size ≤ q → A q := fun q h => by rw [← hAe]; exact Or.inr h
  have hS : va_S A s.heap s.heap [] := va_S.rf
  have hP : va_P (dC, dI) cls [(gx, .inr (11, [.ref gq1, .ref gq4, .ref gq13, .ref gq136, .ref gq137, .ref gq138, .ref gq172, .ref gq184, .ref gq150, .ref gq161, .int (-1)])), (gq150, .inr (2, [.int 0, .ref gq151, .ref gq152, .ref gq153, .ref gq154, .ref gq155, .ref gq156, .int 0, .ref gq157, .ref gq158, .ref gq159, .int 0, .ref gq160]))] s.heap := hP
  have hl := lv_entry ([.ref gx, .int p0]) (n := 2) (Nat.le_of_ble_eq_true rfl)
  rw [lg_entry_eq]
  generalize (lg_sl ([.ref gx, .int p0]) ++ List.replicate (2 - (lg_sl ([.ref gx, .int p0])).length) Slot.unset).toArray = ls at hl ⊢
  have hl : lv_has ls 2 [(0, .ref gx), (1, .int p0)] := hl
  refine lv_aload_n hx hb dX11_lines_0 rfl (lv_at hl 0 rfl) ?_
  refine lv_iload_n hx hb dX11_lines_1 rfl (lv_at hl 1 rfl) ?_
  have hPc := hP.sub (ws' := [(gx, .inr (11, [.ref gq1, .ref gq4, .ref gq13, .ref gq136, .ref gq137, .ref gq138, .ref gq172, .ref gq184, .ref gq150, .ref gq161, .int (-1)])), (gq150, .inr (2, [.int 0, .ref gq151, .ref gq152, .ref gq153, .ref gq154, .ref gq155, .ref gq156, .int 0, .ref gq157, .ref gq158, .ref gq159, .int 0, .ref gq160]))]) [0, 1] rfl
  have hDc := hD.sub (ws' := [(gx, .inr (11, [.ref gq1, .ref gq4, .ref gq13, .ref gq136, .ref gq137, .ref gq138, .ref gq172, .ref gq184, .ref gq150, .ref gq161, .int (-1)])), (gq150, .inr (2, [.int 0, .ref gq151, .ref gq152, .ref gq153, .ref gq154, .ref gq155, .ref gq156, .int 0, .ref gq157, .ref gq158, .ref gq159, .int 0, .ref gq160]))]) [0, 1] (by decide) rfl
  have hKc := hK.sub (tys' := []) [] rfl
  have hFc := va_free (wc := [(gx, .inr (11, [.ref gq1, .ref gq4, .ref gq13, .ref gq136, .ref gq137, .ref gq138, .ref gq172, .ref gq184, .ref gq150, .ref gq161, .int (-1)])), (gq150, .inr (2, [.int 0, .ref gq151, .ref gq152, .ref gq153, .ref gq154, .ref gq155, .ref gq156, .int 0, .ref gq157, .ref gq158, .ref gq159, .int 0, .ref gq160]))]) hD hS hA [0, 1] rfl
  refine vx_callv (vx_runV (As := [.int p0]) (rest := []) ⟨hx, hb, hml, hown, hts⟩ (kX11_needFunction_n6 l dC dI (a0 := gx) (i1 := p0) (a2 := gq1) (a3 := gq4) (a4 := gq13) (a5 := gq136) (a6 := gq137) (a7 := gq138) (a8 := gq172) (a9 := gq184) (a10 := gq150) (a11 := gq161) (a33 := gq151) (a34 := gq152) (a35 := gq153) (a36 := gq154) (a37 := gq155) (a38 := gq156) (a39 := gq157) (a40 := gq158) (a41 := gq159) (a42 := gq160) (sz := _) (hl9 := hl9)) (cwV 1 hts (gi_V qw245 qw246 qw247 qw222 (gi_z qw244)) rfl rfl rfl (by decide +kernel) ⟨Nat.le_of_ble_eq_true rfl, Nat.le_of_ble_eq_true rfl⟩) ⟨PRE.blind, va_recv hKc hPc (ci := 11) (q0 := 0) rfl rfl, PRE.of hE hS hFc hPc hKc hDc⟩ rfl rfl hl.1 rfl (lv_room (Nat.le_of_ble_eq_true rfl)) dX11_lines_2 ⟨Nat.le_of_ble_eq_true rfl, Nat.le_of_ble_eq_true rfl⟩) hS (fun q _ h => hFc q h) hFc (fun q _ h => hFc q h) (fun E ce q9 u t H locs ht hvm hw hB hz1 hk1 hS hce hcv hcl => ?_) (fun u t H locs ht hvm hw hB hz1 hk1 hS => hw.elim)
  obtain ⟨rfl, hB⟩ := hB
  obtain ⟨hP, hD, hK⟩ := JOIN (wr := []) hP hD hK [0, 1] [] [] rfl rfl (by decide) (by decide) rfl hk1 hFc ht hvm hB
  have hP : va_P (dC, dI) cls [(gx, .inr (11, [.ref gq1, .ref gq4, .ref gq13, .ref gq136, .ref gq137, .ref gq138, .ref gq172, .ref gq184, .ref gq150, .ref gq161, .int (-1)])), (gq150, .inr (2, [.int 0, .ref gq151, .ref gq152, .ref gq153, .ref gq154, .ref gq155, .ref gq156, .int 0, .ref gq157, .ref gq158, .ref gq159, .int 0, .ref gq160]))] H := hP
  have hD : va_D A [(gx, .inr (11, [.ref gq1, .ref gq4, .ref gq13, .ref gq136, .ref gq137, .ref gq138, .ref gq172, .ref gq184, .ref gq150, .ref gq161, .int (-1)])), (gq150, .inr (2, [.int 0, .ref gq151, .ref gq152, .ref gq153, .ref gq154, .ref gq155, .ref gq156, .int 0, .ref gq157, .ref gq158, .ref gq159, .int 0, .ref gq160]))] := hD
  have hK : va_K (dC, dI) cls [] s := hK
  refine vx_widen (k := 1) (n := 6) (Nat.le_of_ble_eq_true rfl) (Nat.le_of_ble_eq_true rfl) ?_
  have hP9 : va_P (dC, dI) cls [] H := hP.sub [] rfl
  have hD9 : va_D A [] := hD.sub [] (by decide) rfl
  have hK9 : va_K (dC, dI) cls [] s := hK.sub [] rfl
  exact vx_out (fun x hx9 => (hnt x hx9).elim) hlocks hce hcv hcl (fun t ht hal => ⟨(), trivial, ⟨rfl, ⟨by rw [ht]; exact hP9, va_K.moved hal hK9, hD9⟩⟩, hS.F ht⟩) hS.2.2 (Nat.le_of_ble_eq_true rfl) (Nat.le_of_ble_eq_true rfl)
set_option maxHeartbeats 4000000 in
set_option maxRecDepth 100000 in
/-- Gearbox.codeWith, from the state that its caller has -/
theorem kX11_codeWith_n9 {zs : Nat × Nat} (l : Launch) (dC : Nat → ClassId) (dI : Nat → Nat → Nat) (a0 : Nat) (i1 : Int32) (i2 : Int32) (a3 : Nat) (a4 : Nat) (a5 : Nat) (a6 : Nat) (a7 : Nat) (a8 : Nat) (a9 : Nat) (a10 : Nat) (a11 : Nat) (a12 : Nat) (a34 : Nat) (a35 : Nat) (a36 : Nat) (a37 : Nat) (a38 : Nat) (a39 : Nat) (a40 : Nat) (a41 : Nat) (a42 : Nat) (a43 : Nat) (sz : Nat) (hl9 : l.stackTraces = false)  : vx_Met l yX11_codeWith (wz yX11_codeWith cX11_codeWith 3 (Option.some (Jvm.ClassFile.FieldType.object "Gearbox$Steps"))) ({ frames := 7, cells := 1, slots := 6, locals := 121 }) (va_Pc [.ref a0, .int i1, .int i2] (PRE zs dC dI [(a0, .inr (11, [.ref a3, .ref a4, .ref a5, .ref a6, .ref a7, .ref a8, .ref a9, .ref a10, .ref a11, .ref a12, .int (-1)])), (a11, .inr (2, [.int 0, .ref a34, .ref a35, .ref a36, .ref a37, .ref a38, .ref a39, .int 0, .ref a40, .ref a41, .ref a42, .int 0, .ref a43]))] [] sz)) (va_Qr (fun (_ : Unit) => False) (fun _ _ _ => True) (va_A [(a0, .inr (11, [.ref a3, .ref a4, .ref a5, .ref a6, .ref a7, .ref a8, .ref a9, .ref a10, .ref a11, .ref a12, .int (-1)])), (a11, .inr (2, [.int 0, .ref a34, .ref a35, .ref a36, .ref a37, .ref a38, .ref a39, .int 0, .ref a40, .ref a41, .ref a42, .int 0, .ref a43]))] sz)) (vx_X (fun (_ : Unit) => True) (fun E _ t => E = "java/lang/IndexOutOfBoundsException" ∧ POST dC dI [(a0, .inr (11, [.ref a3, .ref a4, .ref a5, .ref a6, .ref a7, .ref a8, .ref a9, .ref a10, .ref a11, .ref a12, .int (-1)])), (a11, .inr (2, [.int 0, .ref a34, .ref a35, .ref a36, .ref a37, .ref a38, .ref a39, .int 0, .ref a40, .ref a41, .ref a42, .int 0, .ref a43]))] [] (va_A [(a0, .inr (11, [.ref a3, .ref a4, .ref a5, .ref a6, .ref a7, .ref a8, .ref a9, .ref a10, .ref a11, .ref a12, .int (-1)])), (a11, .inr (2, [.int 0, .ref a34, .ref a35, .ref a36, .ref a37, .ref a38, .ref a39, .int 0, .ref a40, .ref a41, .ref a42, .int 0, .ref a43]))] sz) t) (va_A [(a0, .inr (11, [.ref a3, .ref a4, .ref a5, .ref a6, .ref a7, .ref a8, .ref a9, .ref a10, .ref a11, .ref a12, .int (-1)])), (a11, .inr (2, [.int 0, .ref a34, .ref a35, .ref a36, .ref a37, .ref a38, .ref a39, .int 0, .ref a40, .ref a41, .ref a42, .int 0, .ref a43]))] sz)) 1 6 (va_A [(a0, .inr (11, [.ref a3, .ref a4, .ref a5, .ref a6, .ref a7, .ref a8, .ref a9, .ref a10, .ref a11, .ref a12, .int (-1)])), (a11, .inr (2, [.int 0, .ref a34, .ref a35, .ref a36, .ref a37, .ref a38, .ref a39, .int 0, .ref a40, .ref a41, .ref a42, .int 0, .ref a43]))] sz) := by
  refine vx_ofW (cc := cX11_codeWith) (maxL := 3) (ret := (Option.some (Jvm.ClassFile.FieldType.object "Gearbox$Steps"))) (by decide) rfl ?_
  intro p e s m args below meth c s₁ B hml hnt hv
  obtain ⟨rfl, hsz, hP, hK, hD0, hE⟩ := hv
  have hx := B.exec
  have hb := B.bytes
  have hr := B.returns
  have hts0 := atoms_spec (ws := wz yX11_codeWith cX11_codeWith 3 (Option.some (Jvm.ClassFile.FieldType.object "Gearbox$Steps"))) B.pre
  have hts : ∀ w ∈ gw, w.before _ s = true := fun w h => hts0 w (List.mem_cons_of_mem _ h)
  have hown : s.vm.findClass RX11 = some m.cls := findClass_of_methodNamed B.named
  have hlocks := B.notSynchronized
  subst hsz
  have hD := hD0.self (sz := s.heap.size)
  generalize hAe : va_A [(a0, .inr (11, [.ref a3, .ref a4, .ref a5, .ref a6, .ref a7, .ref a8, .ref a9, .ref a10, .ref a11, .ref a12, .int (-1)])), (a11, .inr (2, [.int 0, .ref a34, .ref a35, .ref a36, .ref a37, .ref a38, .ref a39, .int 0, .ref a40, .ref a41, .ref a42, .int 0, .ref a43]))] s.heap.size = A at hD hE ⊢
  have hA : ∀ q : Nat, s.heap.size ≤ q → A q := fun q h => by rw [← hAe]; exact Or.inr h
  have hS : va_S A s.heap s.heap [] := va_S.rf
  have hP : va_P (dC, dI) cls [(a0, .inr (11, [.ref a3, .ref a4, .ref a5, .ref a6, .ref a7, .ref a8, .ref a9, .ref a10, .ref a11, .ref a12, .int (-1)])), (a11, .inr (2, [.int 0, .ref a34, .ref a35, .ref a36, .ref a37, .ref a38, .ref a39, .int 0, .ref a40, .ref a41, .ref a42, .int 0, .ref a43]))] s.heap := hP
  have hl := lv_entry ([.ref a0, .int i1, .int i2]) (n := 3) (Nat.le_of_ble_eq_true rfl)
  rw [lg_entry_eq]
  generalize (lg_sl ([.ref a0, .int i1, .int i2]) ++ List.replicate (3 - (lg_sl ([.ref a0, .int i1, .int i2])).length) Slot.unset).toArray = ls at hl ⊢
  have hl : lv_has ls 3 [(0, .ref a0), (1, .int i1), (2, .int i2)] := hl
  refine lv_aload_n hx hb dX11_codeWith_0 rfl (lv_at hl 0 rfl) ?_
  refine lv_iload_n hx hb dX11_codeWith_1 rfl (lv_at hl 1 rfl) ?_
  have hPc := hP.sub (ws' := [(a0, .inr (11, [.ref a3, .ref a4, .ref a5, .ref a6, .ref a7, .ref a8, .ref a9, .ref a10, .ref a11, .ref a12, .int (-1)])), (a11, .inr (2, [.int 0, .ref a34, .ref a35, .ref a36, .ref a37, .ref a38, .ref a39, .int 0, .ref a40, .ref a41, .ref a42, .int 0, .ref a43]))]) [0, 1] rfl
  have hDc := hD.sub (ws' := [(a0, .inr (11, [.ref a3, .ref a4, .ref a5, .ref a6, .ref a7, .ref a8, .ref a9, .ref a10, .ref a11, .ref a12, .int (-1)])), (a11, .inr (2, [.int 0, .ref a34, .ref a35, .ref a36, .ref a37, .ref a38, .ref a39, .int 0, .ref a40, .ref a41, .ref a42, .int 0, .ref a43]))]) [0, 1] (by decide) rfl
  have hKc := hK.sub (tys' := []) [] rfl
  have hFc := va_free (wc := [(a0, .inr (11, [.ref a3, .ref a4, .ref a5, .ref a6, .ref a7, .ref a8, .ref a9, .ref a10, .ref a11, .ref a12, .int (-1)])), (a11, .inr (2, [.int 0, .ref a34, .ref a35, .ref a36, .ref a37, .ref a38, .ref a39, .int 0, .ref a40, .ref a41, .ref a42, .int 0, .ref a43]))]) hD hS hA [0, 1] rfl
  refine vx_callv (vx_runV (As := [.int i1]) (rest := []) ⟨hx, hb, hml, hown, hts⟩ (kX11_needFunction_n6 l dC dI (a0 := a0) (i1 := i1) (a2 := a3) (a3 := a4) (a4 := a5) (a5 := a6) (a6 := a7) (a7 := a8) (a8 := a9) (a9 := a10) (a10 := a11) (a11 := a12) (a33 := a34) (a34 := a35) (a35 := a36) (a36 := a37) (a37 := a38) (a38 := a39) (a39 := a40) (a40 := a41) (a41 := a42) (a42 := a43) (sz := _) (hl9 := hl9)) (cwV 1 hts (gi_V qw245 qw246 qw247 qw222 (gi_z qw244)) rfl rfl rfl (by decide +kernel) ⟨Nat.le_of_ble_eq_true rfl, Nat.le_of_ble_eq_true rfl⟩) ⟨PRE.blind, va_recv hKc hPc (ci := 11) (q0 := 0) rfl rfl, PRE.of hE hS hFc hPc hKc hDc⟩ rfl rfl hl.1 rfl (lv_room (Nat.le_of_ble_eq_true rfl)) dX11_codeWith_2 ⟨Nat.le_of_ble_eq_true rfl, Nat.le_of_ble_eq_true rfl⟩) hS (fun q _ h => hFc q h) hFc (fun q _ h => hFc q h) (fun E ce q9 u t H locs ht hvm hw hB hz1 hk1 hS hce hcv hcl => ?_) (fun u t H locs ht hvm hw hB hz1 hk1 hS => hw.elim)
  obtain ⟨rfl, hB⟩ := hB
  obtain ⟨hP, hD, hK⟩ := JOIN (wr := []) hP hD hK [0, 1] [] [] rfl rfl (by decide) (by decide) rfl hk1 hFc ht hvm hB
  have hP : va_P (dC, dI) cls [(a0, .inr (11, [.ref a3, .ref a4, .ref a5, .ref a6, .ref a7, .ref a8, .ref a9, .ref a10, .ref a11, .ref a12, .int (-1)])), (a11, .inr (2, [.int 0, .ref a34, .ref a35, .ref a36, .ref a37, .ref a38, .ref a39, .int 0, .ref a40, .ref a41, .ref a42, .int 0, .ref a43]))] H := hP
  have hD : va_D A [(a0, .inr (11, [.ref a3, .ref a4, .ref a5, .ref a6, .ref a7, .ref a8, .ref a9, .ref a10, .ref a11, .ref a12, .int (-1)])), (a11, .inr (2, [.int 0, .ref a34, .ref a35, .ref a36, .ref a37, .ref a38, .ref a39, .int 0, .ref a40, .ref a41, .ref a42, .int 0, .ref a43]))] := hD
  have hK : va_K (dC, dI) cls [] s := hK
  refine vx_widen (k := 1) (n := 6) (Nat.le_of_ble_eq_true rfl) (Nat.le_of_ble_eq_true rfl) ?_
  have hP9 : va_P (dC, dI) cls [(a0, .inr (11, [.ref a3, .ref a4, .ref a5, .ref a6, .ref a7, .ref a8, .ref a9, .ref a10, .ref a11, .ref a12, .int (-1)])), (a11, .inr (2, [.int 0, .ref a34, .ref a35, .ref a36, .ref a37, .ref a38, .ref a39, .int 0, .ref a40, .ref a41, .ref a42, .int 0, .ref a43]))] H := hP.sub [0, 1] rfl
  have hD9 : va_D A [(a0, .inr (11, [.ref a3, .ref a4, .ref a5, .ref a6, .ref a7, .ref a8, .ref a9, .ref a10, .ref a11, .ref a12, .int (-1)])), (a11, .inr (2, [.int 0, .ref a34, .ref a35, .ref a36, .ref a37, .ref a38, .ref a39, .int 0, .ref a40, .ref a41, .ref a42, .int 0, .ref a43]))] := hD.sub [0, 1] (by decide) rfl
  have hK9 : va_K (dC, dI) cls [] s := hK.sub [] rfl
  exact vx_out (fun x hx9 => (hnt x hx9).elim) hlocks hce hcv hcl (fun t ht hal => ⟨(), trivial, ⟨rfl, ⟨by rw [ht]; exact hP9, va_K.moved hal hK9, hD9⟩⟩, hS.F ht⟩) hS.2.2 (Nat.le_of_ble_eq_true rfl) (Nat.le_of_ble_eq_true rfl)
set_option maxHeartbeats 4000000 in
set_option maxRecDepth 100000 in
theorem kX11_codeKind {zs : Nat × Nat} (l : Launch) (dC : Nat → ClassId) (dI : Nat → Nat → Nat) (gx : Nat) (gq1 : Nat) (gq4 : Nat) (gq13 : Nat) (gq136 : Nat) (gq137 : Nat) (gq138 : Nat) (gq150 : Nat) (gq151 : Nat) (gq152 : Nat) (gq153 : Nat) (gq154 : Nat) (gq155 : Nat) (gq156 : Nat) (gq157 : Nat) (gq158 : Nat) (gq159 : Nat) (gq160 : Nat) (gq161 : Nat) (gq172 : Nat) (gq184 : Nat) (p0 : Int32) (p1 : Int32) (sz : Nat) (hl9 : l.stackTraces = false)  : vx_Met l yX11_codeKind (wz yX11_codeKind cX11_codeKind 3 (Option.some Jvm.ClassFile.FieldType.int)) ({ frames := 8, cells := 1, slots := 6, locals := 143 }) (va_Pc [.ref gx, .int p0, .int p1] (PRE zs dC dI [(gx, .inr (11, [.ref gq1, .ref gq4, .ref gq13, .ref gq136, .ref gq137, .ref gq138, .ref gq172, .ref gq184, .ref gq150, .ref gq161, .int (-1)])), (gq150, .inr (2, [.int 0, .ref gq151, .ref gq152, .ref gq153, .ref gq154, .ref gq155, .ref gq156, .int 0, .ref gq157, .ref gq158, .ref gq159, .int 0, .ref gq160]))] [] sz)) (va_Qi (fun (_ : Int32) (_ : Unit) => False) (fun _ _ => True) (va_A [(gx, .inr (11, [.ref gq1, .ref gq4, .ref gq13, .ref gq136, .ref gq137, .ref gq138, .ref gq172, .ref gq184, .ref gq150, .ref gq161, .int (-1)])), (gq150, .inr (2, [.int 0, .ref gq151, .ref gq152, .ref gq153, .ref gq154, .ref gq155, .ref gq156, .int 0, .ref gq157, .ref gq158, .ref gq159, .int 0, .ref gq160]))] sz)) (vx_X (fun (_ : Unit) => True) (fun E _ t => E = "java/lang/IndexOutOfBoundsException" ∧ POST dC dI [] [] (va_A [(gx, .inr (11, [.ref gq1, .ref gq4, .ref gq13, .ref gq136, .ref gq137, .ref gq138, .ref gq172, .ref gq184, .ref gq150, .ref gq161, .int (-1)])), (gq150, .inr (2, [.int 0, .ref gq151, .ref gq152, .ref gq153, .ref gq154, .ref gq155, .ref gq156, .int 0, .ref gq157, .ref gq158, .ref gq159, .int 0, .ref gq160]))] sz) t) (va_A [(gx, .inr (11, [.ref gq1, .ref gq4, .ref gq13, .ref gq136, .ref gq137, .ref gq138, .ref gq172, .ref gq184, .ref gq150, .ref gq161, .int (-1)])), (gq150, .inr (2, [.int 0, .ref gq151, .ref gq152, .ref gq153, .ref gq154, .ref gq155, .ref gq156, .int 0, .ref gq157, .ref gq158, .ref gq159, .int 0, .ref gq160]))] sz)) 1 6 (va_A [(gx, .inr (11, [.ref gq1, .ref gq4, .ref gq13, .ref gq136, .ref gq137, .ref gq138, .ref gq172, .ref gq184, .ref gq150, .ref gq161, .int (-1)])), (gq150, .inr (2, [.int 0, .ref gq151, .ref gq152, .ref gq153, .ref gq154, .ref gq155, .ref gq156, .int 0, .ref gq157, .ref gq158, .ref gq159, .int 0, .ref gq160]))] sz) := by
  refine vx_ofW (cc := cX11_codeKind) (maxL := 3) (ret := (Option.some Jvm.ClassFile.FieldType.int)) (by decide) rfl ?_
  intro p e s m args below meth c s₁ B hml hnt hv
  obtain ⟨rfl, hsz, hP, hK, hD0, hE⟩ := hv
  have hx := B.exec
  have hb := B.bytes
  have hr := B.returns
  have hts0 := atoms_spec (ws := wz yX11_codeKind cX11_codeKind 3 (Option.some Jvm.ClassFile.FieldType.int)) B.pre
  have hts : ∀ w ∈ gw, w.before _ s = true := fun w h => hts0 w (List.mem_cons_of_mem _ h)
  have hown : s.vm.findClass RX11 = some m.cls := findClass_of_methodNamed B.named
  have hlocks := B.notSynchronized
  subst hsz
  have hD := hD0.self (sz := s.heap.size)
  generalize hAe : va_A [(gx, .inr (11, [.ref gq1, .ref gq4, .ref gq13, .ref gq136, .ref gq137, .ref gq138, .ref gq172, .ref gq184, .ref gq150, .ref gq161, .int (-1)])), (gq150, .inr (2, [.int 0, .ref gq151, .ref gq152, .ref gq153, .ref gq154, .ref gq155, .ref gq156, .int 0, .ref gq157, .ref gq158, .ref gq159, .int 0, .ref gq160]))] s.heap.size = A at hD hE ⊢
  have hA : ∀ q : Nat, s.heap.size ≤ q → A q := fun q h => by rw [← hAe]; exact Or.inr h
  have hS : va_S A s.heap s.heap [] := va_S.rf
  have hP : va_P (dC, dI) cls [(gx, .inr (11, [.ref gq1, .ref gq4, .ref gq13, .ref gq136, .ref gq137, .ref gq138, .ref gq172, .ref gq184, .ref gq150, .ref gq161, .int (-1)])), (gq150, .inr (2, [.int 0, .ref gq151, .ref gq152, .ref gq153, .ref gq154, .ref gq155, .ref gq156, .int 0, .ref gq157, .ref gq158, .ref gq159, .int 0, .ref gq160]))] s.heap := hP
  have hl := lv_entry ([.ref gx, .int p0, .int p1]) (n := 3) (Nat.le_of_ble_eq_true rfl)
  rw [lg_entry_eq]
  generalize (lg_sl ([.ref gx, .int p0, .int p1]) ++ List.replicate (3 - (lg_sl ([.ref gx, .int p0, .int p1])).length) Slot.unset).toArray = ls at hl ⊢
  have hl : lv_has ls 3 [(0, .ref gx), (1, .int p0), (2, .int p1)] := hl
  refine lv_aload_n hx hb dX11_codeKind_0 rfl (lv_at hl 0 rfl) ?_
  refine lv_iload_n hx hb dX11_codeKind_1 rfl (lv_at hl 1 rfl) ?_
  refine lv_iload_n hx hb dX11_codeKind_2 rfl (lv_at hl 2 rfl) ?_
  have hPc := hP.sub (ws' := [(gx, .inr (11, [.ref gq1, .ref gq4, .ref gq13, .ref gq136, .ref gq137, .ref gq138, .ref gq172, .ref gq184, .ref gq150, .ref gq161, .int (-1)])), (gq150, .inr (2, [.int 0, .ref gq151, .ref gq152, .ref gq153, .ref gq154, .ref gq155, .ref gq156, .int 0, .ref gq157, .ref gq158, .ref gq159, .int 0, .ref gq160]))]) [0, 1] rfl
  have hDc := hD.sub (ws' := [(gx, .inr (11, [.ref gq1, .ref gq4, .ref gq13, .ref gq136, .ref gq137, .ref gq138, .ref gq172, .ref gq184, .ref gq150, .ref gq161, .int (-1)])), (gq150, .inr (2, [.int 0, .ref gq151, .ref gq152, .ref gq153, .ref gq154, .ref gq155, .ref gq156, .int 0, .ref gq157, .ref gq158, .ref gq159, .int 0, .ref gq160]))]) [0, 1] (by decide) rfl
  have hKc := hK.sub (tys' := []) [] rfl
  have hFc := va_free (wc := [(gx, .inr (11, [.ref gq1, .ref gq4, .ref gq13, .ref gq136, .ref gq137, .ref gq138, .ref gq172, .ref gq184, .ref gq150, .ref gq161, .int (-1)])), (gq150, .inr (2, [.int 0, .ref gq151, .ref gq152, .ref gq153, .ref gq154, .ref gq155, .ref gq156, .int 0, .ref gq157, .ref gq158, .ref gq159, .int 0, .ref gq160]))]) hD hS hA [0, 1] rfl
  refine vx_callr (vx_runV (As := [.int p0, .int p1]) (rest := []) ⟨hx, hb, hml, hown, hts⟩ (kX11_codeWith_n9 l dC dI (a0 := gx) (i1 := p0) (i2 := p1) (a3 := gq1) (a4 := gq4) (a5 := gq13) (a6 := gq136) (a7 := gq137) (a8 := gq138) (a9 := gq172) (a10 := gq184) (a11 := gq150) (a12 := gq161) (a34 := gq151) (a35 := gq152) (a36 := gq153) (a37 := gq154) (a38 := gq155) (a39 := gq156) (a40 := gq157) (a41 := gq158) (a42 := gq159) (a43 := gq160) (sz := _) (hl9 := hl9)) (cwV 2 hts (gi_V qw257 qw258 qw259 qw222 (gi_z qw256)) rfl rfl rfl (by decide +kernel) ⟨Nat.le_of_ble_eq_true rfl, Nat.le_of_ble_eq_true rfl⟩) ⟨PRE.blind, va_recv hKc hPc (ci := 11) (q0 := 0) rfl rfl, PRE.of hE hS hFc hPc hKc hDc⟩ rfl rfl hl.1 rfl (lv_room (Nat.le_of_ble_eq_true rfl)) dX11_codeKind_3 ⟨Nat.le_of_ble_eq_true rfl, Nat.le_of_ble_eq_true rfl⟩) hS (fun q _ h => hFc q h) hFc (fun q _ h => hFc q h) (fun E ce q9 u t H locs ht hvm hw hB hz1 hk1 hS hce hcv hcl => ?_) (fun u ra t H locs ht hvm hw hB hz1 hk1 hS => hw.elim)
  obtain ⟨rfl, hB⟩ := hB
  obtain ⟨hP, hD, hK⟩ := JOIN (wr := []) hP hD hK [0, 1] [] [] rfl rfl (by decide) (by decide) rfl hk1 hFc ht hvm hB
  have hP : va_P (dC, dI) cls [(gx, .inr (11, [.ref gq1, .ref gq4, .ref gq13, .ref gq136, .ref gq137, .ref gq138, .ref gq172, .ref gq184, .ref gq150, .ref gq161, .int (-1)])), (gq150, .inr (2, [.int 0, .ref gq151, .ref gq152, .ref gq153, .ref gq154, .ref gq155, .ref gq156, .int 0, .ref gq157, .ref gq158, .ref gq159, .int 0, .ref gq160]))] H := hP
  have hD : va_D A [(gx, .inr (11, [.ref gq1, .ref gq4, .ref gq13, .ref gq136, .ref gq137, .ref gq138, .ref gq172, .ref gq184, .ref gq150, .ref gq161, .int (-1)])), (gq150, .inr (2, [.int 0, .ref gq151, .ref gq152, .ref gq153, .ref gq154, .ref gq155, .ref gq156, .int 0, .ref gq157, .ref gq158, .ref gq159, .int 0, .ref gq160]))] := hD
  have hK : va_K (dC, dI) cls [] s := hK
  refine vx_widen (k := 1) (n := 6) (Nat.le_of_ble_eq_true rfl) (Nat.le_of_ble_eq_true rfl) ?_
  have hP9 : va_P (dC, dI) cls [] H := hP.sub [] rfl
  have hD9 : va_D A [] := hD.sub [] (by decide) rfl
  have hK9 : va_K (dC, dI) cls [] s := hK.sub [] rfl
  exact vx_out (fun x hx9 => (hnt x hx9).elim) hlocks hce hcv hcl (fun t ht hal => ⟨(), trivial, ⟨rfl, ⟨by rw [ht]; exact hP9, va_K.moved hal hK9, hD9⟩⟩, hS.F ht⟩) hS.2.2 (Nat.le_of_ble_eq_true rfl) (Nat.le_of_ble_eq_true rfl)
set_option maxHeartbeats 4000000 in
set_option maxRecDepth 100000 in
theorem kX11_codeGives {zs : Nat × Nat} (l : Launch) (dC : Nat → ClassId) (dI : Nat → Nat → Nat) (gx : Nat) (gq1 : Nat) (gq4 : Nat) (gq13 : Nat) (gq136 : Nat) (gq137 : Nat) (gq138 : Nat) (gq150 : Nat) (gq151 : Nat) (gq152 : Nat) (gq153 : Nat) (gq154 : Nat) (gq155 : Nat) (gq156 : Nat) (gq157 : Nat) (gq158 : Nat) (gq159 : Nat) (gq160 : Nat) (gq161 : Nat) (gq172 : Nat) (gq184 : Nat) (p0 : Int32) (p1 : Int32) (sz : Nat) (hl9 : l.stackTraces = false)  : vx_Met l yX11_codeGives (wz yX11_codeGives cX11_codeGives 3 (Option.some Jvm.ClassFile.FieldType.int)) ({ frames := 8, cells := 1, slots := 6, locals := 143 }) (va_Pc [.ref gx, .int p0, .int p1] (PRE zs dC dI [(gx, .inr (11, [.ref gq1, .ref gq4, .ref gq13, .ref gq136, .ref gq137, .ref gq138, .ref gq172, .ref gq184, .ref gq150, .ref gq161, .int (-1)])), (gq150, .inr (2, [.int 0, .ref gq151, .ref gq152, .ref gq153, .ref gq154, .ref gq155, .ref gq156, .int 0, .ref gq157, .ref gq158, .ref gq159, .int 0, .ref gq160]))] [] sz)) (va_Qi (fun (_ : Int32) (_ : Unit) => False) (fun _ _ => True) (va_A [(gx, .inr (11, [.ref gq1, .ref gq4, .ref gq13, .ref gq136, .ref gq137, .ref gq138, .ref gq172, .ref gq184, .ref gq150, .ref gq161, .int (-1)])), (gq150, .inr (2, [.int 0, .ref gq151, .ref gq152, .ref gq153, .ref gq154, .ref gq155, .ref gq156, .int 0, .ref gq157, .ref gq158, .ref gq159, .int 0, .ref gq160]))] sz)) (vx_X (fun (_ : Unit) => True) (fun E _ t => E = "java/lang/IndexOutOfBoundsException" ∧ POST dC dI [] [] (va_A [(gx, .inr (11, [.ref gq1, .ref gq4, .ref gq13, .ref gq136, .ref gq137, .ref gq138, .ref gq172, .ref gq184, .ref gq150, .ref gq161, .int (-1)])), (gq150, .inr (2, [.int 0, .ref gq151, .ref gq152, .ref gq153, .ref gq154, .ref gq155, .ref gq156, .int 0, .ref gq157, .ref gq158, .ref gq159, .int 0, .ref gq160]))] sz) t) (va_A [(gx, .inr (11, [.ref gq1, .ref gq4, .ref gq13, .ref gq136, .ref gq137, .ref gq138, .ref gq172, .ref gq184, .ref gq150, .ref gq161, .int (-1)])), (gq150, .inr (2, [.int 0, .ref gq151, .ref gq152, .ref gq153, .ref gq154, .ref gq155, .ref gq156, .int 0, .ref gq157, .ref gq158, .ref gq159, .int 0, .ref gq160]))] sz)) 1 6 (va_A [(gx, .inr (11, [.ref gq1, .ref gq4, .ref gq13, .ref gq136, .ref gq137, .ref gq138, .ref gq172, .ref gq184, .ref gq150, .ref gq161, .int (-1)])), (gq150, .inr (2, [.int 0, .ref gq151, .ref gq152, .ref gq153, .ref gq154, .ref gq155, .ref gq156, .int 0, .ref gq157, .ref gq158, .ref gq159, .int 0, .ref gq160]))] sz) := by
  refine vx_ofW (cc := cX11_codeGives) (maxL := 3) (ret := (Option.some Jvm.ClassFile.FieldType.int)) (by decide) rfl ?_
  intro p e s m args below meth c s₁ B hml hnt hv
  obtain ⟨rfl, hsz, hP, hK, hD0, hE⟩ := hv
  have hx := B.exec
  have hb := B.bytes
  have hr := B.returns
  have hts0 := atoms_spec (ws := wz yX11_codeGives cX11_codeGives 3 (Option.some Jvm.ClassFile.FieldType.int)) B.pre
  have hts : ∀ w ∈ gw, w.before _ s = true := fun w h => hts0 w (List.mem_cons_of_mem _ h)
  have hown : s.vm.findClass RX11 = some m.cls := findClass_of_methodNamed B.named
  have hlocks := B.notSynchronized
  subst hsz
  have hD := hD0.self (sz := s.heap.size)
  generalize hAe : va_A [(gx, .inr (11, [.ref gq1, .ref gq4, .ref gq13, .ref gq136, .ref gq137, .ref gq138, .ref gq172, .ref gq184, .ref gq150, .ref gq161, .int (-1)])), (gq150, .inr (2, [.int 0, .ref gq151, .ref gq152, .ref gq153, .ref gq154, .ref gq155, .ref gq156, .int 0, .ref gq157, .ref gq158, .ref gq159, .int 0, .ref gq160]))] s.heap.size = A at hD hE ⊢
  have hA : ∀ q : Nat, s.heap.size ≤ q → A q := fun q h => by rw [← hAe]; exact Or.inr h
  have hS : va_S A s.heap s.heap [] := va_S.rf
  have hP : va_P (dC, dI) cls [(gx, .inr (11, [.ref gq1, .ref gq4, .ref gq13, .ref gq136, .ref gq137, .ref gq138, .ref gq172, .ref gq184, .ref gq150, .ref gq161, .int (-1)])), (gq150, .inr (2, [.int 0, .ref gq151, .ref gq152, .ref gq153, .ref gq154, .ref gq155, .ref gq156, .int 0, .ref gq157, .ref gq158, .ref gq159, .int 0, .ref gq160]))] s.heap := hP
  have hl := lv_entry ([.ref gx, .int p0, .int p1]) (n := 3) (Nat.le_of_ble_eq_true rfl)
  rw [lg_entry_eq]
  generalize (lg_sl ([.ref gx, .int p0, .int p1]) ++ List.replicate (3 - (lg_sl ([.ref gx, .int p0, .int p1])).length) Slot.unset).toArray = ls at hl ⊢
  have hl : lv_has ls 3 [(0, .ref gx), (1, .int p0), (2, .int p1)] := hl
  refine lv_aload_n hx hb dX11_codeGives_0 rfl (lv_at hl 0 rfl) ?_
  refine lv_iload_n hx hb dX11_codeGives_1 rfl (lv_at hl 1 rfl) ?_
  refine lv_iload_n hx hb dX11_codeGives_2 rfl (lv_at hl 2 rfl) ?_
  have hPc := hP.sub (ws' := [(gx, .inr (11, [.ref gq1, .ref gq4, .ref gq13, .ref gq136, .ref gq137, .ref gq138, .ref gq172, .ref gq184, .ref gq150, .ref gq161, .int (-1)])), (gq150, .inr (2, [.int 0, .ref gq151, .ref gq152, .ref gq153, .ref gq154, .ref gq155, .ref gq156, .int 0, .ref gq157, .ref gq158, .ref gq159, .int 0, .ref gq160]))]) [0, 1] rfl
  have hDc := hD.sub (ws' := [(gx, .inr (11, [.ref gq1, .ref gq4, .ref gq13, .ref gq136, .ref gq137, .ref gq138, .ref gq172, .ref gq184, .ref gq150, .ref gq161, .int (-1)])), (gq150, .inr (2, [.int 0, .ref gq151, .ref gq152, .ref gq153, .ref gq154, .ref gq155, .ref gq156, .int 0, .ref gq157, .ref gq158, .ref gq159, .int 0, .ref gq160]))]) [0, 1] (by decide) rfl
  have hKc := hK.sub (tys' := []) [] rfl
  have hFc := va_free (wc := [(gx, .inr (11, [.ref gq1, .ref gq4, .ref gq13, .ref gq136, .ref gq137, .ref gq138, .ref gq172, .ref gq184, .ref gq150, .ref gq161, .int (-1)])), (gq150, .inr (2, [.int 0, .ref gq151, .ref gq152, .ref gq153, .ref gq154, .ref gq155, .ref gq156, .int 0, .ref gq157, .ref gq158, .ref gq159, .int 0, .ref gq160]))]) hD hS hA [0, 1] rfl
  refine vx_callr (vx_runV (As := [.int p0, .int p1]) (rest := []) ⟨hx, hb, hml, hown, hts⟩ (kX11_codeWith_n9 l dC dI (a0 := gx) (i1 := p0) (i2 := p1) (a3 := gq1) (a4 := gq4) (a5 := gq13) (a6 := gq136) (a7 := gq137) (a8 := gq138) (a9 := gq172) (a10 := gq184) (a11 := gq150) (a12 := gq161) (a34 := gq151) (a35 := gq152) (a36 := gq153) (a37 := gq154) (a38 := gq155) (a39 := gq156) (a40 := gq157) (a41 := gq158) (a42 := gq159) (a43 := gq160) (sz := _) (hl9 := hl9)) (cwV 2 hts (gi_V qw257 qw258 qw259 qw222 (gi_z qw256)) rfl rfl rfl (by decide +kernel) ⟨Nat.le_of_ble_eq_true rfl, Nat.le_of_ble_eq_true rfl⟩) ⟨PRE.blind, va_recv hKc hPc (ci := 11) (q0 := 0) rfl rfl, PRE.of hE hS hFc hPc hKc hDc⟩ rfl rfl hl.1 rfl (lv_room (Nat.le_of_ble_eq_true rfl)) dX11_codeGives_3 ⟨Nat.le_of_ble_eq_true rfl, Nat.le_of_ble_eq_true rfl⟩) hS (fun q _ h => hFc q h) hFc (fun q _ h => hFc q h) (fun E ce q9 u t H locs ht hvm hw hB hz1 hk1 hS hce hcv hcl => ?_) (fun u ra t H locs ht hvm hw hB hz1 hk1 hS => hw.elim)
  obtain ⟨rfl, hB⟩ := hB
  obtain ⟨hP, hD, hK⟩ := JOIN (wr := []) hP hD hK [0, 1] [] [] rfl rfl (by decide) (by decide) rfl hk1 hFc ht hvm hB
  have hP : va_P (dC, dI) cls [(gx, .inr (11, [.ref gq1, .ref gq4, .ref gq13, .ref gq136, .ref gq137, .ref gq138, .ref gq172, .ref gq184, .ref gq150, .ref gq161, .int (-1)])), (gq150, .inr (2, [.int 0, .ref gq151, .ref gq152, .ref gq153, .ref gq154, .ref gq155, .ref gq156, .int 0, .ref gq157, .ref gq158, .ref gq159, .int 0, .ref gq160]))] H := hP
  have hD : va_D A [(gx, .inr (11, [.ref gq1, .ref gq4, .ref gq13, .ref gq136, .ref gq137, .ref gq138, .ref gq172, .ref gq184, .ref gq150, .ref gq161, .int (-1)])), (gq150, .inr (2, [.int 0, .ref gq151, .ref gq152, .ref gq153, .ref gq154, .ref gq155, .ref gq156, .int 0, .ref gq157, .ref gq158, .ref gq159, .int 0, .ref gq160]))] := hD
  have hK : va_K (dC, dI) cls [] s := hK
  refine vx_widen (k := 1) (n := 6) (Nat.le_of_ble_eq_true rfl) (Nat.le_of_ble_eq_true rfl) ?_
  have hP9 : va_P (dC, dI) cls [] H := hP.sub [] rfl
  have hD9 : va_D A [] := hD.sub [] (by decide) rfl
  have hK9 : va_K (dC, dI) cls [] s := hK.sub [] rfl
  exact vx_out (fun x hx9 => (hnt x hx9).elim) hlocks hce hcv hcl (fun t ht hal => ⟨(), trivial, ⟨rfl, ⟨by rw [ht]; exact hP9, va_K.moved hal hK9, hD9⟩⟩, hS.F ht⟩) hS.2.2 (Nat.le_of_ble_eq_true rfl) (Nat.le_of_ble_eq_true rfl)
set_option maxHeartbeats 4000000 in
set_option maxRecDepth 100000 in
theorem kX11_codeLeft {zs : Nat × Nat} (l : Launch) (dC : Nat → ClassId) (dI : Nat → Nat → Nat) (gx : Nat) (gq1 : Nat) (gq4 : Nat) (gq13 : Nat) (gq136 : Nat) (gq137 : Nat) (gq138 : Nat) (gq150 : Nat) (gq151 : Nat) (gq152 : Nat) (gq153 : Nat) (gq154 : Nat) (gq155 : Nat) (gq156 : Nat) (gq157 : Nat) (gq158 : Nat) (gq159 : Nat) (gq160 : Nat) (gq161 : Nat) (gq172 : Nat) (gq184 : Nat) (p0 : Int32) (p1 : Int32) (sz : Nat) (hl9 : l.stackTraces = false)  : vx_Met l yX11_codeLeft (wz yX11_codeLeft cX11_codeLeft 3 (Option.some Jvm.ClassFile.FieldType.int)) ({ frames := 8, cells := 1, slots := 6, locals := 143 }) (va_Pc [.ref gx, .int p0, .int p1] (PRE zs dC dI [(gx, .inr (11, [.ref gq1, .ref gq4, .ref gq13, .ref gq136, .ref gq137, .ref gq138, .ref gq172, .ref gq184, .ref gq150, .ref gq161, .int (-1)])), (gq150, .inr (2, [.int 0, .ref gq151, .ref gq152, .ref gq153, .ref gq154, .ref gq155, .ref gq156, .int 0, .ref gq157, .ref gq158, .ref gq159, .int 0, .ref gq160]))] [] sz)) (va_Qi (fun (_ : Int32) (_ : Unit) => False) (fun _ _ => True) (va_A [(gx, .inr (11, [.ref gq1, .ref gq4, .ref gq13, .ref gq136, .ref gq137, .ref gq138, .ref gq172, .ref gq184, .ref gq150, .ref gq161, .int (-1)])), (gq150, .inr (2, [.int 0, .ref gq151, .ref gq152, .ref gq153, .ref gq154, .ref gq155, .ref gq156, .int 0, .ref gq157, .ref gq158, .ref gq159, .int 0, .ref gq160]))] sz)) (vx_X (fun (_ : Unit) => True) (fun E _ t => E = "java/lang/IndexOutOfBoundsException" ∧ POST dC dI [] [] (va_A [(gx, .inr (11, [.ref gq1, .ref gq4, .ref gq13, .ref gq136, .ref gq137, .ref gq138, .ref gq172, .ref gq184, .ref gq150, .ref gq161, .int (-1)])), (gq150, .inr (2, [.int 0, .ref gq151, .ref gq152, .ref gq153, .ref gq154, .ref gq155, .ref gq156, .int 0, .ref gq157, .ref gq158, .ref gq159, .int 0, .ref gq160]))] sz) t) (va_A [(gx, .inr (11, [.ref gq1, .ref gq4, .ref gq13, .ref gq136, .ref gq137, .ref gq138, .ref gq172, .ref gq184, .ref gq150, .ref gq161, .int (-1)])), (gq150, .inr (2, [.int 0, .ref gq151, .ref gq152, .ref gq153, .ref gq154, .ref gq155, .ref gq156, .int 0, .ref gq157, .ref gq158, .ref gq159, .int 0, .ref gq160]))] sz)) 1 6 (va_A [(gx, .inr (11, [.ref gq1, .ref gq4, .ref gq13, .ref gq136, .ref gq137, .ref gq138, .ref gq172, .ref gq184, .ref gq150, .ref gq161, .int (-1)])), (gq150, .inr (2, [.int 0, .ref gq151, .ref gq152, .ref gq153, .ref gq154, .ref gq155, .ref gq156, .int 0, .ref gq157, .ref gq158, .ref gq159, .int 0, .ref gq160]))] sz) := by
  refine vx_ofW (cc := cX11_codeLeft) (maxL := 3) (ret := (Option.some Jvm.ClassFile.FieldType.int)) (by decide) rfl ?_
  intro p e s m args below meth c s₁ B hml hnt hv
  obtain ⟨rfl, hsz, hP, hK, hD0, hE⟩ := hv
  have hx := B.exec
  have hb := B.bytes
  have hr := B.returns
  have hts0 := atoms_spec (ws := wz yX11_codeLeft cX11_codeLeft 3 (Option.some Jvm.ClassFile.FieldType.int)) B.pre
  have hts : ∀ w ∈ gw, w.before _ s = true := fun w h => hts0 w (List.mem_cons_of_mem _ h)
  have hown : s.vm.findClass RX11 = some m.cls := findClass_of_methodNamed B.named
  have hlocks := B.notSynchronized
  subst hsz
  have hD := hD0.self (sz := s.heap.size)
  generalize hAe : va_A [(gx, .inr (11, [.ref gq1, .ref gq4, .ref gq13, .ref gq136, .ref gq137, .ref gq138, .ref gq172, .ref gq184, .ref gq150, .ref gq161, .int (-1)])), (gq150, .inr (2, [.int 0, .ref gq151, .ref gq152, .ref gq153, .ref gq154, .ref gq155, .ref gq156, .int 0, .ref gq157, .ref gq158, .ref gq159, .int 0, .ref gq160]))] s.heap.size = A at hD hE ⊢
  have hA : ∀ q : Nat, s.heap.size ≤ q → A q := fun q h => by rw [← hAe]; exact Or.inr h
  have hS : va_S A s.heap s.heap [] := va_S.rf
  have hP : va_P (dC, dI) cls [(gx, .inr (11, [.ref gq1, .ref gq4, .ref gq13, .ref gq136, .ref gq137, .ref gq138, .ref gq172, .ref gq184, .ref gq150, .ref gq161, .int (-1)])), (gq150, .inr (2, [.int 0, .ref gq151, .ref gq152, .ref gq153, .ref gq154, .ref gq155, .ref gq156, .int 0, .ref gq157, .ref gq158, .ref gq159, .int 0, .ref gq160]))] s.heap := hP
  have hl := lv_entry ([.ref gx, .int p0, .int p1]) (n := 3) (Nat.le_of_ble_eq_true rfl)
  rw [lg_entry_eq]
  generalize (lg_sl ([.ref gx, .int p0, .int p1]) ++ List.replicate (3 - (lg_sl ([.ref gx, .int p0, .int p1])).length) Slot.unset).toArray = ls at hl ⊢
  have hl : lv_has ls 3 [(0, .ref gx), (1, .int p0), (2, .int p1)] := hl
  refine lv_aload_n hx hb dX11_codeLeft_0 rfl (lv_at hl 0 rfl) ?_
  refine lv_iload_n hx hb dX11_codeLeft_1 rfl (lv_at hl 1 rfl) ?_
  refine lv_iload_n hx hb dX11_codeLeft_2 rfl (lv_at hl 2 rfl) ?_
  have hPc := hP.sub (ws' := [(gx, .inr (11, [.ref gq1, .ref gq4, .ref gq13, .ref gq136, .ref gq137, .ref gq138, .ref gq172, .ref gq184, .ref gq150, .ref gq161, .int (-1)])), (gq150, .inr (2, [.int 0, .ref gq151, .ref gq152, .ref gq153, .ref gq154, .ref gq155, .ref gq156, .int 0, .ref gq157, .ref gq158, .ref gq159, .int 0, .ref gq160]))]) [0, 1] rfl
  have hDc := hD.sub (ws' := [(gx, .inr (11, [.ref gq1, .ref gq4, .ref gq13, .ref gq136, .ref gq137, .ref gq138, .ref gq172, .ref gq184, .ref gq150, .ref gq161, .int (-1)])), (gq150, .inr (2, [.int 0, .ref gq151, .ref gq152, .ref gq153, .ref gq154, .ref gq155, .ref gq156, .int 0, .ref gq157, .ref gq158, .ref gq159, .int 0, .ref gq160]))]) [0, 1] (by decide) rfl
  have hKc := hK.sub (tys' := []) [] rfl
  have hFc := va_free (wc := [(gx, .inr (11, [.ref gq1, .ref gq4, .ref gq13, .ref gq136, .ref gq137, .ref gq138, .ref gq172, .ref gq184, .ref gq150, .ref gq161, .int (-1)])), (gq150, .inr (2, [.int 0, .ref gq151, .ref gq152, .ref gq153, .ref gq154, .ref gq155, .ref gq156, .int 0, .ref gq157, .ref gq158, .ref gq159, .int 0, .ref gq160]))]) hD hS hA [0, 1] rfl
  refine vx_callr (vx_runV (As := [.int p0, .int p1]) (rest := []) ⟨hx, hb, hml, hown, hts⟩ (kX11_codeWith_n9 l dC dI (a0 := gx) (i1 := p0) (i2 := p1) (a3 := gq1) (a4 := gq4) (a5 := gq13) (a6 := gq136) (a7 := gq137) (a8 := gq138) (a9 := gq172) (a10 := gq184) (a11 := gq150) (a12 := gq161) (a34 := gq151) (a35 := gq152) (a36 := gq153) (a37 := gq154) (a38 := gq155) (a39 := gq156) (a40 := gq157) (a41 := gq158) (a42 := gq159) (a43 := gq160) (sz := _) (hl9 := hl9)) (cwV 2 hts (gi_V qw257 qw258 qw259 qw222 (gi_z qw256)) rfl rfl rfl (by decide +kernel) ⟨Nat.le_of_ble_eq_true rfl, Nat.le_of_ble_eq_true rfl⟩) ⟨PRE.blind, va_recv hKc hPc (ci := 11) (q0 := 0) rfl rfl, PRE.of hE hS hFc hPc hKc hDc⟩ rfl rfl hl.1 rfl (lv_room (Nat.le_of_ble_eq_true rfl)) dX11_codeLeft_3 ⟨Nat.le_of_ble_eq_true rfl, Nat.le_of_ble_eq_true rfl⟩) hS (fun q _ h => hFc q h) hFc (fun q _ h => hFc q h) (fun E ce q9 u t H locs ht hvm hw hB hz1 hk1 hS hce hcv hcl => ?_) (fun u ra t H locs ht hvm hw hB hz1 hk1 hS => hw.elim)
  obtain ⟨rfl, hB⟩ := hB
  obtain ⟨hP, hD, hK⟩ := JOIN (wr := []) hP hD hK [0, 1] [] [] rfl rfl (by decide) (by decide) rfl hk1 hFc ht hvm hB
  have hP : va_P (dC, dI) cls [(gx, .inr (11, [.ref gq1, .ref gq4, .ref gq13, .ref gq136, .ref gq137, .ref gq138, .ref gq172, .ref gq184, .ref gq150, .ref gq161, .int (-1)])), (gq150, .inr (2, [.int 0, .ref gq151, .ref gq152, .ref gq153, .ref gq154, .ref gq155, .ref gq156, .int 0, .ref gq157, .ref gq158, .ref gq159, .int 0, .ref gq160]))] H := hP
  have hD : va_D A [(gx, .inr (11, [.ref gq1, .ref gq4, .ref gq13, .ref gq136, .ref gq137, .ref gq138, .ref gq172, .ref gq184, .ref gq150, .ref gq161, .int (-1)])), (gq150, .inr (2, [.int 0, .ref gq151, .ref gq152, .ref gq153, .ref gq154, .ref gq155, .ref gq156, .int 0, .ref gq157, .ref gq158, .ref gq159, .int 0, .ref gq160]))] := hD
  have hK : va_K (dC, dI) cls [] s := hK
  refine vx_widen (k := 1) (n := 6) (Nat.le_of_ble_eq_true rfl) (Nat.le_of_ble_eq_true rfl) ?_
  have hP9 : va_P (dC, dI) cls [] H := hP.sub [] rfl
  have hD9 : va_D A [] := hD.sub [] (by decide) rfl
  have hK9 : va_K (dC, dI) cls [] s := hK.sub [] rfl
  exact vx_out (fun x hx9 => (hnt x hx9).elim) hlocks hce hcv hcl (fun t ht hal => ⟨(), trivial, ⟨rfl, ⟨by rw [ht]; exact hP9, va_K.moved hal hK9, hD9⟩⟩, hS.F ht⟩) hS.2.2 (Nat.le_of_ble_eq_true rfl) (Nat.le_of_ble_eq_true rfl)
set_option maxHeartbeats 4000000 in
set_option maxRecDepth 100000 in
theorem kX11_codeRight {zs : Nat × Nat} (l : Launch) (dC : Nat → ClassId) (dI : Nat → Nat → Nat) (gx : Nat) (gq1 : Nat) (gq4 : Nat) (gq13 : Nat) (gq136 : Nat) (gq137 : Nat) (gq138 : Nat) (gq150 : Nat) (gq151 : Nat) (gq152 : Nat) (gq153 : Nat) (gq154 : Nat) (gq155 : Nat) (gq156 : Nat) (gq157 : Nat) (gq158 : Nat) (gq159 : Nat) (gq160 : Nat) (gq161 : Nat) (gq172 : Nat) (gq184 : Nat) (p0 : Int32) (p1 : Int32) (sz : Nat) (hl9 : l.stackTraces = false)  : vx_Met l yX11_codeRight (wz yX11_codeRight cX11_codeRight 3 (Option.some Jvm.ClassFile.FieldType.int)) ({ frames := 8, cells := 1, slots := 6, locals := 143 }) (va_Pc [.ref gx, .int p0, .int p1] (PRE zs dC dI [(gx, .inr (11, [.ref gq1, .ref gq4, .ref gq13, .ref gq136, .ref gq137, .ref gq138, .ref gq172, .ref gq184, .ref gq150, .ref gq161, .int (-1)])), (gq150, .inr (2, [.int 0, .ref gq151, .ref gq152, .ref gq153, .ref gq154, .ref gq155, .ref gq156, .int 0, .ref gq157, .ref gq158, .ref gq159, .int 0, .ref gq160]))] [] sz)) (va_Qi (fun (_ : Int32) (_ : Unit) => False) (fun _ _ => True) (va_A [(gx, .inr (11, [.ref gq1, .ref gq4, .ref gq13, .ref gq136, .ref gq137, .ref gq138, .ref gq172, .ref gq184, .ref gq150, .ref gq161, .int (-1)])), (gq150, .inr (2, [.int 0, .ref gq151, .ref gq152, .ref gq153, .ref gq154, .ref gq155, .ref gq156, .int 0, .ref gq157, .ref gq158, .ref gq159, .int 0, .ref gq160]))] sz)) (vx_X (fun (_ : Unit) => True) (fun E _ t => E = "java/lang/IndexOutOfBoundsException" ∧ POST dC dI [] [] (va_A [(gx, .inr (11, [.ref gq1, .ref gq4, .ref gq13, .ref gq136, .ref gq137, .ref gq138, .ref gq172, .ref gq184, .ref gq150, .ref gq161, .int (-1)])), (gq150, .inr (2, [.int 0, .ref gq151, .ref gq152, .ref gq153, .ref gq154, .ref gq155, .ref gq156, .int 0, .ref gq157, .ref gq158, .ref gq159, .int 0, .ref gq160]))] sz) t) (va_A [(gx, .inr (11, [.ref gq1, .ref gq4, .ref gq13, .ref gq136, .ref gq137, .ref gq138, .ref gq172, .ref gq184, .ref gq150, .ref gq161, .int (-1)])), (gq150, .inr (2, [.int 0, .ref gq151, .ref gq152, .ref gq153, .ref gq154, .ref gq155, .ref gq156, .int 0, .ref gq157, .ref gq158, .ref gq159, .int 0, .ref gq160]))] sz)) 1 6 (va_A [(gx, .inr (11, [.ref gq1, .ref gq4, .ref gq13, .ref gq136, .ref gq137, .ref gq138, .ref gq172, .ref gq184, .ref gq150, .ref gq161, .int (-1)])), (gq150, .inr (2, [.int 0, .ref gq151, .ref gq152, .ref gq153, .ref gq154, .ref gq155, .ref gq156, .int 0, .ref gq157, .ref gq158, .ref gq159, .int 0, .ref gq160]))] sz) := by
  refine vx_ofW (cc := cX11_codeRight) (maxL := 3) (ret := (Option.some Jvm.ClassFile.FieldType.int)) (by decide) rfl ?_
  intro p e s m args below meth c s₁ B hml hnt hv
  obtain ⟨rfl, hsz, hP, hK, hD0, hE⟩ := hv
  have hx := B.exec
  have hb := B.bytes
  have hr := B.returns
  have hts0 := atoms_spec (ws := wz yX11_codeRight cX11_codeRight 3 (Option.some Jvm.ClassFile.FieldType.int)) B.pre
  have hts : ∀ w ∈ gw, w.before _ s = true := fun w h => hts0 w (List.mem_cons_of_mem _ h)
  have hown : s.vm.findClass RX11 = some m.cls := findClass_of_methodNamed B.named
  have hlocks := B.notSynchronized
  subst hsz
  have hD := hD0.self (sz := s.heap.size)
  generalize hAe : va_A [(gx, .inr (11, [.ref gq1, .ref gq4, .ref gq13, .ref gq136, .ref gq137, .ref gq138, .ref gq172, .ref gq184, .ref gq150, .ref gq161, .int (-1)])), (gq150, .inr (2, [.int 0, .ref gq151, .ref gq152, .ref gq153, .ref gq154, .ref gq155, .ref gq156, .int 0, .ref gq157, .ref gq158, .ref gq159, .int 0, .ref gq160]))] s.heap.size = A at hD hE ⊢
  have hA : ∀ q : Nat, s.heap.size ≤ q → A q := fun q h => by rw [← hAe]; exact Or.inr h
  have hS : va_S A s.heap s.heap [] := va_S.rf
  have hP : va_P (dC, dI) cls [(gx, .inr (11, [.ref gq1, .ref gq4, .ref gq13, .ref gq136, .ref gq137, .ref gq138, .ref gq172, .ref gq184, .ref gq150, .ref gq161, .int (-1)])), (gq150, .inr (2, [.int 0, .ref gq151, .ref gq152, .ref gq153, .ref gq154, .ref gq155, .ref gq156, .int 0, .ref gq157, .ref gq158, .ref gq159, .int 0, .ref gq160]))] s.heap := hP
  have hl := lv_entry ([.ref gx, .int p0, .int p1]) (n := 3) (Nat.le_of_ble_eq_true rfl)
  rw [lg_entry_eq]
  generalize (lg_sl ([.ref gx, .int p0, .int p1]) ++ List.replicate (3 - (lg_sl ([.ref gx, .int p0, .int p1])).length) Slot.unset).toArray = ls at hl ⊢
  have hl : lv_has ls 3 [(0, .ref gx), (1, .int p0), (2, .int p1)] := hl
  refine lv_aload_n hx hb dX11_codeRight_0 rfl (lv_at hl 0 rfl) ?_
  refine lv_iload_n hx hb dX11_codeRight_1 rfl (lv_at hl 1 rfl) ?_
  refine lv_iload_n hx hb dX11_codeRight_2 rfl (lv_at hl 2 rfl) ?_
  have hPc := hP.sub (ws' := [(gx, .inr (11, [.ref gq1, .ref gq4, .ref gq13, .ref gq136, .ref gq137, .ref gq138, .ref gq172, .ref gq184, .ref gq150, .ref gq161, .int (-1)])), (gq150, .inr (2, [.int 0, .ref gq151, .ref gq152, .ref gq153, .ref gq154, .ref gq155, .ref gq156, .int 0, .ref gq157, .ref gq158, .ref gq159, .int 0, .ref gq160]))]) [0, 1] rfl
  have hDc := hD.sub (ws' := [(gx, .inr (11, [.ref gq1, .ref gq4, .ref gq13, .ref gq136, .ref gq137, .ref gq138, .ref gq172, .ref gq184, .ref gq150, .ref gq161, .int (-1)])), (gq150, .inr (2, [.int 0, .ref gq151, .ref gq152, .ref gq153, .ref gq154, .ref gq155, .ref gq156, .int 0, .ref gq157, .ref gq158, .ref gq159, .int 0, .ref gq160]))]) [0, 1] (by decide) rfl
  have hKc := hK.sub (tys' := []) [] rfl
  have hFc := va_free (wc := [(gx, .inr (11, [.ref gq1, .ref gq4, .ref gq13, .ref gq136, .ref gq137, .ref gq138, .ref gq172, .ref gq184, .ref gq150, .ref gq161, .int (-1)])), (gq150, .inr (2, [.int 0, .ref gq151, .ref gq152, .ref gq153, .ref gq154, .ref gq155, .ref gq156, .int 0, .ref gq157, .ref gq158, .ref gq159, .int 0, .ref gq160]))]) hD hS hA [0, 1] rfl
  refine vx_callr (vx_runV (As := [.int p0, .int p1]) (rest := []) ⟨hx, hb, hml, hown, hts⟩ (kX11_codeWith_n9 l dC dI (a0 := gx) (i1 := p0) (i2 := p1) (a3 := gq1) (a4 := gq4) (a5 := gq13) (a6 := gq136) (a7 := gq137) (a8 := gq138) (a9 := gq172) (a10 := gq184) (a11 := gq150) (a12 := gq161) (a34 := gq151) (a35 := gq152) (a36 := gq153) (a37 := gq154) (a38 := gq155) (a39 := gq156) (a40 := gq157) (a41 := gq158) (a42 := gq159) (a43 := gq160) (sz := _) (hl9 := hl9)) (cwV 2 hts (gi_V qw257 qw258 qw259 qw222 (gi_z qw256)) rfl rfl rfl (by decide +kernel) ⟨Nat.le_of_ble_eq_true rfl, Nat.le_of_ble_eq_true rfl⟩) ⟨PRE.blind, va_recv hKc hPc (ci := 11) (q0 := 0) rfl rfl, PRE.of hE hS hFc hPc hKc hDc⟩ rfl rfl hl.1 rfl (lv_room (Nat.le_of_ble_eq_true rfl)) dX11_codeRight_3 ⟨Nat.le_of_ble_eq_true rfl, Nat.le_of_ble_eq_true rfl⟩) hS (fun q _ h => hFc q h) hFc (fun q _ h => hFc q h) (fun E ce q9 u t H locs ht hvm hw hB hz1 hk1 hS hce hcv hcl => ?_) (fun u ra t H locs ht hvm hw hB hz1 hk1 hS => hw.elim)
  obtain ⟨rfl, hB⟩ := hB
  obtain ⟨hP, hD, hK⟩ := JOIN (wr := []) hP hD hK [0, 1] [] [] rfl rfl (by decide) (by decide) rfl hk1 hFc ht hvm hB
  have hP : va_P (dC, dI) cls [(gx, .inr (11, [.ref gq1, .ref gq4, .ref gq13, .ref gq136, .ref gq137, .ref gq138, .ref gq172, .ref gq184, .ref gq150, .ref gq161, .int (-1)])), (gq150, .inr (2, [.int 0, .ref gq151, .ref gq152, .ref gq153, .ref gq154, .ref gq155, .ref gq156, .int 0, .ref gq157, .ref gq158, .ref gq159, .int 0, .ref gq160]))] H := hP
  have hD : va_D A [(gx, .inr (11, [.ref gq1, .ref gq4, .ref gq13, .ref gq136, .ref gq137, .ref gq138, .ref gq172, .ref gq184, .ref gq150, .ref gq161, .int (-1)])), (gq150, .inr (2, [.int 0, .ref gq151, .ref gq152, .ref gq153, .ref gq154, .ref gq155, .ref gq156, .int 0, .ref gq157, .ref gq158, .ref gq159, .int 0, .ref gq160]))] := hD
  have hK : va_K (dC, dI) cls [] s := hK
  refine vx_widen (k := 1) (n := 6) (Nat.le_of_ble_eq_true rfl) (Nat.le_of_ble_eq_true rfl) ?_
  have hP9 : va_P (dC, dI) cls [] H := hP.sub [] rfl
  have hD9 : va_D A [] := hD.sub [] (by decide) rfl
  have hK9 : va_K (dC, dI) cls [] s := hK.sub [] rfl
  exact vx_out (fun x hx9 => (hnt x hx9).elim) hlocks hce hcv hcl (fun t ht hal => ⟨(), trivial, ⟨rfl, ⟨by rw [ht]; exact hP9, va_K.moved hal hK9, hD9⟩⟩, hS.F ht⟩) hS.2.2 (Nat.le_of_ble_eq_true rfl) (Nat.le_of_ble_eq_true rfl)
set_option maxHeartbeats 4000000 in
set_option maxRecDepth 100000 in
theorem kX11_slots {zs : Nat × Nat} (l : Launch) (dC : Nat → ClassId) (dI : Nat → Nat → Nat) (gx : Nat) (gq1 : Nat) (gq4 : Nat) (gq13 : Nat) (gq136 : Nat) (gq137 : Nat) (gq138 : Nat) (gq150 : Nat) (gq151 : Nat) (gq152 : Nat) (gq153 : Nat) (gq154 : Nat) (gq155 : Nat) (gq156 : Nat) (gq157 : Nat) (gq158 : Nat) (gq159 : Nat) (gq160 : Nat) (gq161 : Nat) (gq172 : Nat) (gq184 : Nat) (p0 : Int32) (sz : Nat) (hl9 : l.stackTraces = false)  : vx_Met l yX11_slots (wz yX11_slots cX11_slots 2 (Option.some Jvm.ClassFile.FieldType.int)) ({ frames := 7, cells := 1, slots := 6, locals := 121 }) (va_Pc [.ref gx, .int p0] (PRE zs dC dI [(gx, .inr (11, [.ref gq1, .ref gq4, .ref gq13, .ref gq136, .ref gq137, .ref gq138, .ref gq172, .ref gq184, .ref gq150, .ref gq161, .int (-1)])), (gq150, .inr (2, [.int 0, .ref gq151, .ref gq152, .ref gq153, .ref gq154, .ref gq155, .ref gq156, .int 0, .ref gq157, .ref gq158, .ref gq159, .int 0, .ref gq160]))] [] sz)) (va_Qi (fun (_ : Int32) (_ : Unit) => False) (fun _ _ => True) (va_A [(gx, .inr (11, [.ref gq1, .ref gq4, .ref gq13, .ref gq136, .ref gq137, .ref gq138, .ref gq172, .ref gq184, .ref gq150, .ref gq161, .int (-1)])), (gq150, .inr (2, [.int 0, .ref gq151, .ref gq152, .ref gq153, .ref gq154, .ref gq155, .ref gq156, .int 0, .ref gq157, .ref gq158, .ref gq159, .int 0, .ref gq160]))] sz)) (vx_X (fun (_ : Unit) => True) (fun E _ t => E = "java/lang/IndexOutOfBoundsException" ∧ POST dC dI [] [] (va_A [(gx, .inr (11, [.ref gq1, .ref gq4, .ref gq13, .ref gq136, .ref gq137, .ref gq138, .ref gq172, .ref gq184, .ref gq150, .ref gq161, .int (-1)])), (gq150, .inr (2, [.int 0, .ref gq151, .ref gq152, .ref gq153, .ref gq154, .ref gq155, .ref gq156, .int 0, .ref gq157, .ref gq158, .ref gq159, .int 0, .ref gq160]))] sz) t) (va_A [(gx, .inr (11, [.ref gq1, .ref gq4, .ref gq13, .ref gq136, .ref gq137, .ref gq138, .ref gq172, .ref gq184, .ref gq150, .ref gq161, .int (-1)])), (gq150, .inr (2, [.int 0, .ref gq151, .ref gq152, .ref gq153, .ref gq154, .ref gq155, .ref gq156, .int 0, .ref gq157, .ref gq158, .ref gq159, .int 0, .ref gq160]))] sz)) 1 6 (va_A [(gx, .inr (11, [.ref gq1, .ref gq4, .ref gq13, .ref gq136, .ref gq137, .ref gq138, .ref gq172, .ref gq184, .ref gq150, .ref gq161, .int (-1)])), (gq150, .inr (2, [.int 0, .ref gq151, .ref gq152, .ref gq153, .ref gq154, .ref gq155, .ref gq156, .int 0, .ref gq157, .ref gq158, .ref gq159, .int 0, .ref gq160]))] sz) := by
  refine vx_ofW (cc := cX11_slots) (maxL := 2) (ret := (Option.some Jvm.ClassFile.FieldType.int)) (by decide) rfl ?_
  intro p e s m args below meth c s₁ B hml hnt hv
  obtain ⟨rfl, hsz, hP, hK, hD0, hE⟩ := hv
  have hx := B.exec
  have hb := B.bytes
  have hr := B.returns
  have hts0 := atoms_spec (ws := wz yX11_slots cX11_slots 2 (Option.some Jvm.ClassFile.FieldType.int)) B.pre
  have hts : ∀ w ∈ gw, w.before _ s = true := fun w h => hts0 w (List.mem_cons_of_mem _ h)
  have hown : s.vm.findClass RX11 = some m.cls := findClass_of_methodNamed B.named
  have hlocks := B.notSynchronized
  subst hsz
  have hD := hD0.self (sz := s.heap.size)
  generalize hAe : va_A [(gx, .inr (11, [.ref gq1, .ref gq4, .ref gq13, .ref gq136, .ref gq137, .ref gq138, .ref gq172, .ref gq184, .ref gq150, .ref gq161, .int (-1)])), (gq150, .inr (2, [.int 0, .ref gq151, .ref gq152, .ref gq153, .ref gq154, .ref gq155, .ref gq156, .int 0, .ref gq157, .ref gq158, .ref gq159, .int 0, .ref gq160]))] s.heap.size = A at hD hE ⊢
  have hA : ∀ q : Nat, s.heap.size ≤ q → A q := fun q h => by rw [← hAe]; exact Or.inr h
  have hS : va_S A s.heap s.heap [] := va_S.rf
  have hP : va_P (dC, dI) cls [(gx, .inr (11, [.ref gq1, .ref gq4, .ref gq13, .ref gq136, .ref gq137, .ref gq138, .ref gq172, .ref gq184, .ref gq150, .ref gq161, .int (-1)])), (gq150, .inr (2, [.int 0, .ref gq151, .ref gq152, .ref gq153, .ref gq154, .ref gq155, .ref gq156, .int 0, .ref gq157, .ref gq158, .ref gq159, .int 0, .ref gq160]))] s.heap := hP
  have hl := lv_entry ([.ref gx, .int p0]) (n := 2) (Nat.le_of_ble_eq_true rfl)
  rw [lg_entry_eq]
  generalize (lg_sl ([.ref gx, .int p0]) ++ List.replicate (2 - (lg_sl ([.ref gx, .int p0])).length) Slot.unset).toArray = ls at hl ⊢
  have hl : lv_has ls 2 [(0, .ref gx), (1, .int p0)] := hl
  refine lv_aload_n hx hb dX11_slots_0 rfl (lv_at hl 0 rfl) ?_
  refine lv_iload_n hx hb dX11_slots_1 rfl (lv_at hl 1 rfl) ?_
  have hPc := hP.sub (ws' := [(gx, .inr (11, [.ref gq1, .ref gq4, .ref gq13, .ref gq136, .ref gq137, .ref gq138, .ref gq172, .ref gq184, .ref gq150, .ref gq161, .int (-1)])), (gq150, .inr (2, [.int 0, .ref gq151, .ref gq152, .ref gq153, .ref gq154, .ref gq155, .ref gq156, .int 0, .ref gq157, .ref gq158, .ref gq159, .int 0, .ref gq160]))]) [0, 1] rfl
  have hDc := hD.sub (ws' := [(gx, .inr (11, [.ref gq1, .ref gq4, .ref gq13, .ref gq136, .ref gq137, .ref gq138, .ref gq172, .ref gq184, .ref gq150, .ref gq161, .int (-1)])), (gq150, .inr (2, [.int 0, .ref gq151, .ref gq152, .ref gq153, .ref gq154, .ref gq155, .ref gq156, .int 0, .ref gq157, .ref gq158, .ref gq159, .int 0, .ref gq160]))]) [0, 1] (by decide) rfl
  have hKc := hK.sub (tys' := []) [] rfl
  have hFc := va_free (wc := [(gx, .inr (11, [.ref gq1, .ref gq4, .ref gq13, .ref gq136, .ref gq137, .ref gq138, .ref gq172, .ref gq184, .ref gq150, .ref gq161, .int (-1)])), (gq150, .inr (2, [.int 0, .ref gq151, .ref gq152, .ref gq153, .ref gq154, .ref gq155, .ref gq156, .int 0, .ref gq157, .ref gq158, .ref gq159, .int 0, .ref gq160]))]) hD hS hA [0, 1] rfl
  refine vx_callv (vx_runV (As := [.int p0]) (rest := []) ⟨hx, hb, hml, hown, hts⟩ (kX11_needFunction_n6 l dC dI (a0 := gx) (i1 := p0) (a2 := gq1) (a3 := gq4) (a4 := gq13) (a5 := gq136) (a6 := gq137) (a7 := gq138) (a8 := gq172) (a9 := gq184) (a10 := gq150) (a11 := gq161) (a33 := gq151) (a34 := gq152) (a35 := gq153) (a36 := gq154) (a37 := gq155) (a38 := gq156) (a39 := gq157) (a40 := gq158) (a41 := gq159) (a42 := gq160) (sz := _) (hl9 := hl9)) (cwV 1 hts (gi_V qw245 qw246 qw247 qw222 (gi_z qw244)) rfl rfl rfl (by decide +kernel) ⟨Nat.le_of_ble_eq_true rfl, Nat.le_of_ble_eq_true rfl⟩) ⟨PRE.blind, va_recv hKc hPc (ci := 11) (q0 := 0) rfl rfl, PRE.of hE hS hFc hPc hKc hDc⟩ rfl rfl hl.1 rfl (lv_room (Nat.le_of_ble_eq_true rfl)) dX11_slots_2 ⟨Nat.le_of_ble_eq_true rfl, Nat.le_of_ble_eq_true rfl⟩) hS (fun q _ h => hFc q h) hFc (fun q _ h => hFc q h) (fun E ce q9 u t H locs ht hvm hw hB hz1 hk1 hS hce hcv hcl => ?_) (fun u t H locs ht hvm hw hB hz1 hk1 hS => hw.elim)
  obtain ⟨rfl, hB⟩ := hB
  obtain ⟨hP, hD, hK⟩ := JOIN (wr := []) hP hD hK [0, 1] [] [] rfl rfl (by decide) (by decide) rfl hk1 hFc ht hvm hB
  have hP : va_P (dC, dI) cls [(gx, .inr (11, [.ref gq1, .ref gq4, .ref gq13, .ref gq136, .ref gq137, .ref gq138, .ref gq172, .ref gq184, .ref gq150, .ref gq161, .int (-1)])), (gq150, .inr (2, [.int 0, .ref gq151, .ref gq152, .ref gq153, .ref gq154, .ref gq155, .ref gq156, .int 0, .ref gq157, .ref gq158, .ref gq159, .int 0, .ref gq160]))] H := hP
  have hD : va_D A [(gx, .inr (11, [.ref gq1, .ref gq4, .ref gq13, .ref gq136, .ref gq137, .ref gq138, .ref gq172, .ref gq184, .ref gq150, .ref gq161, .int (-1)])), (gq150, .inr (2, [.int 0, .ref gq151, .ref gq152, .ref gq153, .ref gq154, .ref gq155, .ref gq156, .int 0, .ref gq157, .ref gq158, .ref gq159, .int 0, .ref gq160]))] := hD
  have hK : va_K (dC, dI) cls [] s := hK
  refine vx_widen (k := 1) (n := 6) (Nat.le_of_ble_eq_true rfl) (Nat.le_of_ble_eq_true rfl) ?_
  have hP9 : va_P (dC, dI) cls [] H := hP.sub [] rfl
  have hD9 : va_D A [] := hD.sub [] (by decide) rfl
  have hK9 : va_K (dC, dI) cls [] s := hK.sub [] rfl
  exact vx_out (fun x hx9 => (hnt x hx9).elim) hlocks hce hcv hcl (fun t ht hal => ⟨(), trivial, ⟨rfl, ⟨by rw [ht]; exact hP9, va_K.moved hal hK9, hD9⟩⟩, hS.F ht⟩) hS.2.2 (Nat.le_of_ble_eq_true rfl) (Nat.le_of_ble_eq_true rfl)
set_option maxHeartbeats 4000000 in
set_option maxRecDepth 100000 in
theorem kX11_united {zs : Nat × Nat} (l : Launch) (dC : Nat → ClassId) (dI : Nat → Nat → Nat) (gx : Nat) (gq1 : Nat) (gq4 : Nat) (gq13 : Nat) (gq136 : Nat) (gq137 : Nat) (gq138 : Nat) (gq150 : Nat) (gq151 : Nat) (gq152 : Nat) (gq153 : Nat) (gq154 : Nat) (gq155 : Nat) (gq156 : Nat) (gq157 : Nat) (gq158 : Nat) (gq159 : Nat) (gq160 : Nat) (gq161 : Nat) (gq172 : Nat) (gq184 : Nat) (p0 : Int32) (sz : Nat) (hl9 : l.stackTraces = false)  : vx_Met l yX11_united (wz yX11_united cX11_united 2 (Option.some Jvm.ClassFile.FieldType.int)) ({ frames := 7, cells := 1, slots := 6, locals := 121 }) (va_Pc [.ref gx, .int p0] (PRE zs dC dI [(gx, .inr (11, [.ref gq1, .ref gq4, .ref gq13, .ref gq136, .ref gq137, .ref gq138, .ref gq172, .ref gq184, .ref gq150, .ref gq161, .int (-1)])), (gq150, .inr (2, [.int 0, .ref gq151, .ref gq152, .ref gq153, .ref gq154, .ref gq155, .ref gq156, .int 0, .ref gq157, .ref gq158, .ref gq159, .int 0, .ref gq160]))] [] sz)) (va_Qi (fun (_ : Int32) (_ : Unit) => False) (fun _ _ => True) (va_A [(gx, .inr (11, [.ref gq1, .ref gq4, .ref gq13, .ref gq136, .ref gq137, .ref gq138, .ref gq172, .ref gq184, .ref gq150, .ref gq161, .int (-1)])), (gq150, .inr (2, [.int 0, .ref gq151, .ref gq152, .ref gq153, .ref gq154, .ref gq155, .ref gq156, .int 0, .ref gq157, .ref gq158, .ref gq159, .int 0, .ref gq160]))] sz)) (vx_X (fun (_ : Unit) => True) (fun E _ t => E = "java/lang/IndexOutOfBoundsException" ∧ POST dC dI [] [] (va_A [(gx, .inr (11, [.ref gq1, .ref gq4, .ref gq13, .ref gq136, .ref gq137, .ref gq138, .ref gq172, .ref gq184, .ref gq150, .ref gq161, .int (-1)])), (gq150, .inr (2, [.int 0, .ref gq151, .ref gq152, .ref gq153, .ref gq154, .ref gq155, .ref gq156, .int 0, .ref gq157, .ref gq158, .ref gq159, .int 0, .ref gq160]))] sz) t) (va_A [(gx, .inr (11, [.ref gq1, .ref gq4, .ref gq13, .ref gq136, .ref gq137, .ref gq138, .ref gq172, .ref gq184, .ref gq150, .ref gq161, .int (-1)])), (gq150, .inr (2, [.int 0, .ref gq151, .ref gq152, .ref gq153, .ref gq154, .ref gq155, .ref gq156, .int 0, .ref gq157, .ref gq158, .ref gq159, .int 0, .ref gq160]))] sz)) 1 6 (va_A [(gx, .inr (11, [.ref gq1, .ref gq4, .ref gq13, .ref gq136, .ref gq137, .ref gq138, .ref gq172, .ref gq184, .ref gq150, .ref gq161, .int (-1)])), (gq150, .inr (2, [.int 0, .ref gq151, .ref gq152, .ref gq153, .ref gq154, .ref gq155, .ref gq156, .int 0, .ref gq157, .ref gq158, .ref gq159, .int 0, .ref gq160]))] sz) := by
  refine vx_ofW (cc := cX11_united) (maxL := 2) (ret := (Option.some Jvm.ClassFile.FieldType.int)) (by decide) rfl ?_
  intro p e s m args below meth c s₁ B hml hnt hv
  obtain ⟨rfl, hsz, hP, hK, hD0, hE⟩ := hv
  have hx := B.exec
  have hb := B.bytes
  have hr := B.returns
  have hts0 := atoms_spec (ws := wz yX11_united cX11_united 2 (Option.some Jvm.ClassFile.FieldType.int)) B.pre
  have hts : ∀ w ∈ gw, w.before _ s = true := fun w h => hts0 w (List.mem_cons_of_mem _ h)
  have hown : s.vm.findClass RX11 = some m.cls := findClass_of_methodNamed B.named
  have hlocks := B.notSynchronized
  subst hsz
  have hD := hD0.self (sz := s.heap.size)
  generalize hAe : va_A [(gx, .inr (11, [.ref gq1, .ref gq4, .ref gq13, .ref gq136, .ref gq137, .ref gq138, .ref gq172, .ref gq184, .ref gq150, .ref gq161, .int (-1)])), (gq150, .inr (2, [.int 0, .ref gq151, .ref gq152, .ref gq153, .ref gq154, .ref gq155, .ref gq156, .int 0, .ref gq157, .ref gq158, .ref gq159, .int 0, .ref gq160]))] s.heap.size = A at hD hE ⊢
  have hA : ∀ q : Nat, s.heap.size ≤ q → A q := fun q h => by rw [← hAe]; exact Or.inr h
  have hS : va_S A s.heap s.heap [] := va_S.rf
  have hP : va_P (dC, dI) cls [(gx, .inr (11, [.ref gq1, .ref gq4, .ref gq13, .ref gq136, .ref gq137, .ref gq138, .ref gq172, .ref gq184, .ref gq150, .ref gq161, .int (-1)])), (gq150, .inr (2, [.int 0, .ref gq151, .ref gq152, .ref gq153, .ref gq154, .ref gq155, .ref gq156, .int 0, .ref gq157, .ref gq158, .ref gq159, .int 0, .ref gq160]))] s.heap := hP
  have hl := lv_entry ([.ref gx, .int p0]) (n := 2) (Nat.le_of_ble_eq_true rfl)
  rw [lg_entry_eq]
  generalize (lg_sl ([.ref gx, .int p0]) ++ List.replicate (2 - (lg_sl ([.ref gx, .int p0])).length) Slot.unset).toArray = ls at hl ⊢
  have hl : lv_has ls 2 [(0, .ref gx), (1, .int p0)] := hl
  refine lv_aload_n hx hb dX11_united_0 rfl (lv_at hl 0 rfl) ?_
  refine lv_iload_n hx hb dX11_united_1 rfl (lv_at hl 1 rfl) ?_
  have hPc := hP.sub (ws' := [(gx, .inr (11, [.ref gq1, .ref gq4, .ref gq13, .ref gq136, .ref gq137, .ref gq138, .ref gq172, .ref gq184, .ref gq150, .ref gq161, .int (-1)])), (gq150, .inr (2, [.int 0, .ref gq151, .ref gq152, .ref gq153, .ref gq154, .ref gq155, .ref gq156, .int 0, .ref gq157, .ref gq158, .ref gq159, .int 0, .ref gq160]))]) [0, 1] rfl
  have hDc := hD.sub (ws' := [(gx, .inr (11, [.ref gq1, .ref gq4, .ref gq13, .ref gq136, .ref gq137, .ref gq138, .ref gq172, .ref gq184, .ref gq150, .ref gq161, .int (-1)])), (gq150, .inr (2, [.int 0, .ref gq151, .ref gq152, .ref gq153, .ref gq154, .ref gq155, .ref gq156, .int 0, .ref gq157, .ref gq158, .ref gq159, .int 0, .ref gq160]))]) [0, 1] (by decide) rfl
  have hKc := hK.sub (tys' := []) [] rfl
  have hFc := va_free (wc := [(gx, .inr (11, [.ref gq1, .ref gq4, .ref gq13, .ref gq136, .ref gq137, .ref gq138, .ref gq172, .ref gq184, .ref gq150, .ref gq161, .int (-1)])), (gq150, .inr (2, [.int 0, .ref gq151, .ref gq152, .ref gq153, .ref gq154, .ref gq155, .ref gq156, .int 0, .ref gq157, .ref gq158, .ref gq159, .int 0, .ref gq160]))]) hD hS hA [0, 1] rfl
  refine vx_callv (vx_runV (As := [.int p0]) (rest := []) ⟨hx, hb, hml, hown, hts⟩ (kX11_needFunction_n6 l dC dI (a0 := gx) (i1 := p0) (a2 := gq1) (a3 := gq4) (a4 := gq13) (a5 := gq136) (a6 := gq137) (a7 := gq138) (a8 := gq172) (a9 := gq184) (a10 := gq150) (a11 := gq161) (a33 := gq151) (a34 := gq152) (a35 := gq153) (a36 := gq154) (a37 := gq155) (a38 := gq156) (a39 := gq157) (a40 := gq158) (a41 := gq159) (a42 := gq160) (sz := _) (hl9 := hl9)) (cwV 1 hts (gi_V qw245 qw246 qw247 qw222 (gi_z qw244)) rfl rfl rfl (by decide +kernel) ⟨Nat.le_of_ble_eq_true rfl, Nat.le_of_ble_eq_true rfl⟩) ⟨PRE.blind, va_recv hKc hPc (ci := 11) (q0 := 0) rfl rfl, PRE.of hE hS hFc hPc hKc hDc⟩ rfl rfl hl.1 rfl (lv_room (Nat.le_of_ble_eq_true rfl)) dX11_united_2 ⟨Nat.le_of_ble_eq_true rfl, Nat.le_of_ble_eq_true rfl⟩) hS (fun q _ h => hFc q h) hFc (fun q _ h => hFc q h) (fun E ce q9 u t H locs ht hvm hw hB hz1 hk1 hS hce hcv hcl => ?_) (fun u t H locs ht hvm hw hB hz1 hk1 hS => hw.elim)
  obtain ⟨rfl, hB⟩ := hB
  obtain ⟨hP, hD, hK⟩ := JOIN (wr := []) hP hD hK [0, 1] [] [] rfl rfl (by decide) (by decide) rfl hk1 hFc ht hvm hB
  have hP : va_P (dC, dI) cls [(gx, .inr (11, [.ref gq1, .ref gq4, .ref gq13, .ref gq136, .ref gq137, .ref gq138, .ref gq172, .ref gq184, .ref gq150, .ref gq161, .int (-1)])), (gq150, .inr (2, [.int 0, .ref gq151, .ref gq152, .ref gq153, .ref gq154, .ref gq155, .ref gq156, .int 0, .ref gq157, .ref gq158, .ref gq159, .int 0, .ref gq160]))] H := hP
  have hD : va_D A [(gx, .inr (11, [.ref gq1, .ref gq4, .ref gq13, .ref gq136, .ref gq137, .ref gq138, .ref gq172, .ref gq184, .ref gq150, .ref gq161, .int (-1)])), (gq150, .inr (2, [.int 0, .ref gq151, .ref gq152, .ref gq153, .ref gq154, .ref gq155, .ref gq156, .int 0, .ref gq157, .ref gq158, .ref gq159, .int 0, .ref gq160]))] := hD
  have hK : va_K (dC, dI) cls [] s := hK
  refine vx_widen (k := 1) (n := 6) (Nat.le_of_ble_eq_true rfl) (Nat.le_of_ble_eq_true rfl) ?_
  have hP9 : va_P (dC, dI) cls [] H := hP.sub [] rfl
  have hD9 : va_D A [] := hD.sub [] (by decide) rfl
  have hK9 : va_K (dC, dI) cls [] s := hK.sub [] rfl
  exact vx_out (fun x hx9 => (hnt x hx9).elim) hlocks hce hcv hcl (fun t ht hal => ⟨(), trivial, ⟨rfl, ⟨by rw [ht]; exact hP9, va_K.moved hal hK9, hD9⟩⟩, hS.F ht⟩) hS.2.2 (Nat.le_of_ble_eq_true rfl) (Nat.le_of_ble_eq_true rfl)
set_option maxHeartbeats 4000000 in
set_option maxRecDepth 100000 in
theorem kX11_rounds {zs : Nat × Nat} (l : Launch) (dC : Nat → ClassId) (dI : Nat → Nat → Nat) (gx : Nat) (gq1 : Nat) (gq4 : Nat) (gq13 : Nat) (gq136 : Nat) (gq137 : Nat) (gq138 : Nat) (gq150 : Nat) (gq151 : Nat) (gq152 : Nat) (gq153 : Nat) (gq154 : Nat) (gq155 : Nat) (gq156 : Nat) (gq157 : Nat) (gq158 : Nat) (gq159 : Nat) (gq160 : Nat) (gq161 : Nat) (gq172 : Nat) (gq184 : Nat) (p0 : Int32) (sz : Nat) (hl9 : l.stackTraces = false)  : vx_Met l yX11_rounds (wz yX11_rounds cX11_rounds 2 (Option.some Jvm.ClassFile.FieldType.int)) ({ frames := 7, cells := 1, slots := 6, locals := 121 }) (va_Pc [.ref gx, .int p0] (PRE zs dC dI [(gx, .inr (11, [.ref gq1, .ref gq4, .ref gq13, .ref gq136, .ref gq137, .ref gq138, .ref gq172, .ref gq184, .ref gq150, .ref gq161, .int (-1)])), (gq150, .inr (2, [.int 0, .ref gq151, .ref gq152, .ref gq153, .ref gq154, .ref gq155, .ref gq156, .int 0, .ref gq157, .ref gq158, .ref gq159, .int 0, .ref gq160]))] [] sz)) (va_Qi (fun (_ : Int32) (_ : Unit) => False) (fun _ _ => True) (va_A [(gx, .inr (11, [.ref gq1, .ref gq4, .ref gq13, .ref gq136, .ref gq137, .ref gq138, .ref gq172, .ref gq184, .ref gq150, .ref gq161, .int (-1)])), (gq150, .inr (2, [.int 0, .ref gq151, .ref gq152, .ref gq153, .ref gq154, .ref gq155, .ref gq156, .int 0, .ref gq157, .ref gq158, .ref gq159, .int 0, .ref gq160]))] sz)) (vx_X (fun (_ : Unit) => True) (fun E _ t => E = "java/lang/IndexOutOfBoundsException" ∧ POST dC dI [] [] (va_A [(gx, .inr (11, [.ref gq1, .ref gq4, .ref gq13, .ref gq136, .ref gq137, .ref gq138, .ref gq172, .ref gq184, .ref gq150, .ref gq161, .int (-1)])), (gq150, .inr (2, [.int 0, .ref gq151, .ref gq152, .ref gq153, .ref gq154, .ref gq155, .ref gq156, .int 0, .ref gq157, .ref gq158, .ref gq159, .int 0, .ref gq160]))] sz) t) (va_A [(gx, .inr (11, [.ref gq1, .ref gq4, .ref gq13, .ref gq136, .ref gq137, .ref gq138, .ref gq172, .ref gq184, .ref gq150, .ref gq161, .int (-1)])), (gq150, .inr (2, [.int 0, .ref gq151, .ref gq152, .ref gq153, .ref gq154, .ref gq155, .ref gq156, .int 0, .ref gq157, .ref gq158, .ref gq159, .int 0, .ref gq160]))] sz)) 1 6 (va_A [(gx, .inr (11, [.ref gq1, .ref gq4, .ref gq13, .ref gq136, .ref gq137, .ref gq138, .ref gq172, .ref gq184, .ref gq150, .ref gq161, .int (-1)])), (gq150, .inr (2, [.int 0, .ref gq151, .ref gq152, .ref gq153, .ref gq154, .ref gq155, .ref gq156, .int 0, .ref gq157, .ref gq158, .ref gq159, .int 0, .ref gq160]))] sz) := by
  refine vx_ofW (cc := cX11_rounds) (maxL := 2) (ret := (Option.some Jvm.ClassFile.FieldType.int)) (by decide) rfl ?_
  intro p e s m args below meth c s₁ B hml hnt hv
  obtain ⟨rfl, hsz, hP, hK, hD0, hE⟩ := hv
  have hx := B.exec
  have hb := B.bytes
  have hr := B.returns
  have hts0 := atoms_spec (ws := wz yX11_rounds cX11_rounds 2 (Option.some Jvm.ClassFile.FieldType.int)) B.pre
  have hts : ∀ w ∈ gw, w.before _ s = true := fun w h => hts0 w (List.mem_cons_of_mem _ h)
  have hown : s.vm.findClass RX11 = some m.cls := findClass_of_methodNamed B.named
  have hlocks := B.notSynchronized
  subst hsz
  have hD := hD0.self (sz := s.heap.size)
  generalize hAe : va_A [(gx, .inr (11, [.ref gq1, .ref gq4, .ref gq13, .ref gq136, .ref gq137, .ref gq138, .ref gq172, .ref gq184, .ref gq150, .ref gq161, .int (-1)])), (gq150, .inr (2, [.int 0, .ref gq151, .ref gq152, .ref gq153, .ref gq154, .ref gq155, .ref gq156, .int 0, .ref gq157, .ref gq158, .ref gq159, .int 0, .ref gq160]))] s.heap.size = A at hD hE ⊢
  have hA : ∀ q : Nat, s.heap.size ≤ q → A q := fun q h => by rw [← hAe]; exact Or.inr h
  have hS : va_S A s.heap s.heap [] := va_S.rf
  have hP : va_P (dC, dI) cls [(gx, .inr (11, [.ref gq1, .ref gq4, .ref gq13, .ref gq136, .ref gq137, .ref gq138, .ref gq172, .ref gq184, .ref gq150, .ref gq161, .int (-1)])), (gq150, .inr (2, [.int 0, .ref gq151, .ref gq152, .ref gq153, .ref gq154, .ref gq155, .ref gq156, .int 0, .ref gq157, .ref gq158, .ref gq159, .int 0, .ref gq160]))] s.heap := hP
  have hl := lv_entry ([.ref gx, .int p0]) (n := 2) (Nat.le_of_ble_eq_true rfl)
  rw [lg_entry_eq]
  generalize (lg_sl ([.ref gx, .int p0]) ++ List.replicate (2 - (lg_sl ([.ref gx, .int p0])).length) Slot.unset).toArray = ls at hl ⊢
  have hl : lv_has ls 2 [(0, .ref gx), (1, .int p0)] := hl
  refine lv_aload_n hx hb dX11_rounds_0 rfl (lv_at hl 0 rfl) ?_
  refine lv_iload_n hx hb dX11_rounds_1 rfl (lv_at hl 1 rfl) ?_
  have hPc := hP.sub (ws' := [(gx, .inr (11, [.ref gq1, .ref gq4, .ref gq13, .ref gq136, .ref gq137, .ref gq138, .ref gq172, .ref gq184, .ref gq150, .ref gq161, .int (-1)])), (gq150, .inr (2, [.int 0, .ref gq151, .ref gq152, .ref gq153, .ref gq154, .ref gq155, .ref gq156, .int 0, .ref gq157, .ref gq158, .ref gq159, .int 0, .ref gq160]))]) [0, 1] rfl
  have hDc := hD.sub (ws' := [(gx, .inr (11, [.ref gq1, .ref gq4, .ref gq13, .ref gq136, .ref gq137, .ref gq138, .ref gq172, .ref gq184, .ref gq150, .ref gq161, .int (-1)])), (gq150, .inr (2, [.int 0, .ref gq151, .ref gq152, .ref gq153, .ref gq154, .ref gq155, .ref gq156, .int 0, .ref gq157, .ref gq158, .ref gq159, .int 0, .ref gq160]))]) [0, 1] (by decide) rfl
  have hKc := hK.sub (tys' := []) [] rfl
  have hFc := va_free (wc := [(gx, .inr (11, [.ref gq1, .ref gq4, .ref gq13, .ref gq136, .ref gq137, .ref gq138, .ref gq172, .ref gq184, .ref gq150, .ref gq161, .int (-1)])), (gq150, .inr (2, [.int 0, .ref gq151, .ref gq152, .ref gq153, .ref gq154, .ref gq155, .ref gq156, .int 0, .ref gq157, .ref gq158, .ref gq159, .int 0, .ref gq160]))]) hD hS hA [0, 1] rfl
  refine vx_callv (vx_runV (As := [.int p0]) (rest := []) ⟨hx, hb, hml, hown, hts⟩ (kX11_needFunction_n6 l dC dI (a0 := gx) (i1 := p0) (a2 := gq1) (a3 := gq4) (a4 := gq13) (a5 := gq136) (a6 := gq137) (a7 := gq138) (a8 := gq172) (a9 := gq184) (a10 := gq150) (a11 := gq161) (a33 := gq151) (a34 := gq152) (a35 := gq153) (a36 := gq154) (a37 := gq155) (a38 := gq156) (a39 := gq157) (a40 := gq158) (a41 := gq159) (a42 := gq160) (sz := _) (hl9 := hl9)) (cwV 1 hts (gi_V qw245 qw246 qw247 qw222 (gi_z qw244)) rfl rfl rfl (by decide +kernel) ⟨Nat.le_of_ble_eq_true rfl, Nat.le_of_ble_eq_true rfl⟩) ⟨PRE.blind, va_recv hKc hPc (ci := 11) (q0 := 0) rfl rfl, PRE.of hE hS hFc hPc hKc hDc⟩ rfl rfl hl.1 rfl (lv_room (Nat.le_of_ble_eq_true rfl)) dX11_rounds_2 ⟨Nat.le_of_ble_eq_true rfl, Nat.le_of_ble_eq_true rfl⟩) hS (fun q _ h => hFc q h) hFc (fun q _ h => hFc q h) (fun E ce q9 u t H locs ht hvm hw hB hz1 hk1 hS hce hcv hcl => ?_) (fun u t H locs ht hvm hw hB hz1 hk1 hS => hw.elim)
  obtain ⟨rfl, hB⟩ := hB
  obtain ⟨hP, hD, hK⟩ := JOIN (wr := []) hP hD hK [0, 1] [] [] rfl rfl (by decide) (by decide) rfl hk1 hFc ht hvm hB
  have hP : va_P (dC, dI) cls [(gx, .inr (11, [.ref gq1, .ref gq4, .ref gq13, .ref gq136, .ref gq137, .ref gq138, .ref gq172, .ref gq184, .ref gq150, .ref gq161, .int (-1)])), (gq150, .inr (2, [.int 0, .ref gq151, .ref gq152, .ref gq153, .ref gq154, .ref gq155, .ref gq156, .int 0, .ref gq157, .ref gq158, .ref gq159, .int 0, .ref gq160]))] H := hP
  have hD : va_D A [(gx, .inr (11, [.ref gq1, .ref gq4, .ref gq13, .ref gq136, .ref gq137, .ref gq138, .ref gq172, .ref gq184, .ref gq150, .ref gq161, .int (-1)])), (gq150, .inr (2, [.int 0, .ref gq151, .ref gq152, .ref gq153, .ref gq154, .ref gq155, .ref gq156, .int 0, .ref gq157, .ref gq158, .ref gq159, .int 0, .ref gq160]))] := hD
  have hK : va_K (dC, dI) cls [] s := hK
  refine vx_widen (k := 1) (n := 6) (Nat.le_of_ble_eq_true rfl) (Nat.le_of_ble_eq_true rfl) ?_
  have hP9 : va_P (dC, dI) cls [] H := hP.sub [] rfl
  have hD9 : va_D A [] := hD.sub [] (by decide) rfl
  have hK9 : va_K (dC, dI) cls [] s := hK.sub [] rfl
  exact vx_out (fun x hx9 => (hnt x hx9).elim) hlocks hce hcv hcl (fun t ht hal => ⟨(), trivial, ⟨rfl, ⟨by rw [ht]; exact hP9, va_K.moved hal hK9, hD9⟩⟩, hS.F ht⟩) hS.2.2 (Nat.le_of_ble_eq_true rfl) (Nat.le_of_ble_eq_true rfl)
set_option maxHeartbeats 4000000 in
set_option maxRecDepth 100000 in
theorem kX11_run {zs : Nat × Nat} (l : Launch) (dC : Nat → ClassId) (dI : Nat → Nat → Nat) (gx : Nat) (gq1 : Nat) (gq4 : Nat) (gq13 : Nat) (gq136 : Nat) (gq137 : Nat) (gq138 : Nat) (gq150 : Nat) (gq151 : Nat) (gq152 : Nat) (gq153 : Nat) (gq154 : Nat) (gq155 : Nat) (gq156 : Nat) (gq157 : Nat) (gq158 : Nat) (gq159 : Nat) (gq160 : Nat) (gq161 : Nat) (gq172 : Nat) (gq184 : Nat) (p0 : Int32) (p1 : Int32) (p2 : Int32) (p3 : Int32) (p4 : Int32) (p5 : Int32) (sz : Nat) (hl9 : l.stackTraces = false)  : vx_Met l yX11_run (wz yX11_run cX11_run 7 (Option.some Jvm.ClassFile.FieldType.int)) ({ frames := 7, cells := 1, slots := 6, locals := 121 }) (va_Pc [.ref gx, .int p0, .int p1, .int p2, .int p3, .int p4, .int p5] (PRE zs dC dI [(gx, .inr (11, [.ref gq1, .ref gq4, .ref gq13, .ref gq136, .ref gq137, .ref gq138, .ref gq172, .ref gq184, .ref gq150, .ref gq161, .int (-1)])), (gq150, .inr (2, [.int 0, .ref gq151, .ref gq152, .ref gq153, .ref gq154, .ref gq155, .ref gq156, .int 0, .ref gq157, .ref gq158, .ref gq159, .int 0, .ref gq160]))] [] sz)) (va_Qi (fun (_ : Int32) (_ : Unit) => False) (fun _ _ => True) (va_A [(gx, .inr (11, [.ref gq1, .ref gq4, .ref gq13, .ref gq136, .ref gq137, .ref gq138, .ref gq172, .ref gq184, .ref gq150, .ref gq161, .int (-1)])), (gq150, .inr (2, [.int 0, .ref gq151, .ref gq152, .ref gq153, .ref gq154, .ref gq155, .ref gq156, .int 0, .ref gq157, .ref gq158, .ref gq159, .int 0, .ref gq160]))] sz)) (vx_X (fun (_ : Unit) => True) (fun E _ t => E = "java/lang/IndexOutOfBoundsException" ∧ POST dC dI [] [] (va_A [(gx, .inr (11, [.ref gq1, .ref gq4, .ref gq13, .ref gq136, .ref gq137, .ref gq138, .ref gq172, .ref gq184, .ref gq150, .ref gq161, .int (-1)])), (gq150, .inr (2, [.int 0, .ref gq151, .ref gq152, .ref gq153, .ref gq154, .ref gq155, .ref gq156, .int 0, .ref gq157, .ref gq158, .ref gq159, .int 0, .ref gq160]))] sz) t) (va_A [(gx, .inr (11, [.ref gq1, .ref gq4, .ref gq13, .ref gq136, .ref gq137, .ref gq138, .ref gq172, .ref gq184, .ref gq150, .ref gq161, .int (-1)])), (gq150, .inr (2, [.int 0, .ref gq151, .ref gq152, .ref gq153, .ref gq154, .ref gq155, .ref gq156, .int 0, .ref gq157, .ref gq158, .ref gq159, .int 0, .ref gq160]))] sz)) 1 6 (va_A [(gx, .inr (11, [.ref gq1, .ref gq4, .ref gq13, .ref gq136, .ref gq137, .ref gq138, .ref gq172, .ref gq184, .ref gq150, .ref gq161, .int (-1)])), (gq150, .inr (2, [.int 0, .ref gq151, .ref gq152, .ref gq153, .ref gq154, .ref gq155, .ref gq156, .int 0, .ref gq157, .ref gq158, .ref gq159, .int 0, .ref gq160]))] sz) := by
  refine vx_ofW (cc := cX11_run) (maxL := 7) (ret := (Option.some Jvm.ClassFile.FieldType.int)) (by decide) rfl ?_
  intro p e s m args below meth c s₁ B hml hnt hv
  obtain ⟨rfl, hsz, hP, hK, hD0, hE⟩ := hv
  have hx := B.exec
  have hb := B.bytes
  have hr := B.returns
  have hts0 := atoms_spec (ws := wz yX11_run cX11_run 7 (Option.some Jvm.ClassFile.FieldType.int)) B.pre
  have hts : ∀ w ∈ gw, w.before _ s = true := fun w h => hts0 w (List.mem_cons_of_mem _ h)
  have hown : s.vm.findClass RX11 = some m.cls := findClass_of_methodNamed B.named
  have hlocks := B.notSynchronized
  subst hsz
  have hD := hD0.self (sz := s.heap.size)
  generalize hAe : va_A [(gx, .inr (11, [.ref gq1, .ref gq4, .ref gq13, .ref gq136, .ref gq137, .ref gq138, .ref gq172, .ref gq184, .ref gq150, .ref gq161, .int (-1)])), (gq150, .inr (2, [.int 0, .ref gq151, .ref gq152, .ref gq153, .ref gq154, .ref gq155, .ref gq156, .int 0, .ref gq157, .ref gq158, .ref gq159, .int 0, .ref gq160]))] s.heap.size = A at hD hE ⊢
  have hA : ∀ q : Nat, s.heap.size ≤ q → A q := fun q h => by rw [← hAe]; exact Or.inr h
  have hS : va_S A s.heap s.heap [] := va_S.rf
  have hP : va_P (dC, dI) cls [(gx, .inr (11, [.ref gq1, .ref gq4, .ref gq13, .ref gq136, .ref gq137, .ref gq138, .ref gq172, .ref gq184, .ref gq150, .ref gq161, .int (-1)])), (gq150, .inr (2, [.int 0, .ref gq151, .ref gq152, .ref gq153, .ref gq154, .ref gq155, .ref gq156, .int 0, .ref gq157, .ref gq158, .ref gq159, .int 0, .ref gq160]))] s.heap := hP
  have hl := lv_entry ([.ref gx, .int p0, .int p1, .int p2, .int p3, .int p4, .int p5]) (n := 7) (Nat.le_of_ble_eq_true rfl)
  rw [lg_entry_eq]
  generalize (lg_sl ([.ref gx, .int p0, .int p1, .int p2, .int p3, .int p4, .int p5]) ++ List.replicate (7 - (lg_sl ([.ref gx, .int p0, .int p1, .int p2, .int p3, .int p4, .int p5])).length) Slot.unset).toArray = ls at hl ⊢
  have hl : lv_has ls 7 [(0, .ref gx), (1, .int p0), (2, .int p1), (3, .int p2), (4, .int p3), (5, .int p4), (6, .int p5)] := hl
  refine lv_aload_n hx hb dX11_run_0 rfl (lv_at hl 0 rfl) ?_
  refine lv_iload_n hx hb dX11_run_1 rfl (lv_at hl 2 rfl) ?_
  have hPc := hP.sub (ws' := [(gx, .inr (11, [.ref gq1, .ref gq4, .ref gq13, .ref gq136, .ref gq137, .ref gq138, .ref gq172, .ref gq184, .ref gq150, .ref gq161, .int (-1)])), (gq150, .inr (2, [.int 0, .ref gq151, .ref gq152, .ref gq153, .ref gq154, .ref gq155, .ref gq156, .int 0, .ref gq157, .ref gq158, .ref gq159, .int 0, .ref gq160]))]) [0, 1] rfl
  have hDc := hD.sub (ws' := [(gx, .inr (11, [.ref gq1, .ref gq4, .ref gq13, .ref gq136, .ref gq137, .ref gq138, .ref gq172, .ref gq184, .ref gq150, .ref gq161, .int (-1)])), (gq150, .inr (2, [.int 0, .ref gq151, .ref gq152, .ref gq153, .ref gq154, .ref gq155, .ref gq156, .int 0, .ref gq157, .ref gq158, .ref gq159, .int 0, .ref gq160]))]) [0, 1] (by decide) rfl
  have hKc := hK.sub (tys' := []) [] rfl
  have hFc := va_free (wc := [(gx, .inr (11, [.ref gq1, .ref gq4, .ref gq13, .ref gq136, .ref gq137, .ref gq138, .ref gq172, .ref gq184, .ref gq150, .ref gq161, .int (-1)])), (gq150, .inr (2, [.int 0, .ref gq151, .ref gq152, .ref gq153, .ref gq154, .ref gq155, .ref gq156, .int 0, .ref gq157, .ref gq158, .ref gq159, .int 0, .ref gq160]))]) hD hS hA [0, 1] rfl
  refine vx_callv (vx_runV (As := [.int p1]) (rest := []) ⟨hx, hb, hml, hown, hts⟩ (kX11_needFunction_n6 l dC dI (a0 := gx) (i1 := p1) (a2 := gq1) (a3 := gq4) (a4 := gq13) (a5 := gq136) (a6 := gq137) (a7 := gq138) (a8 := gq172) (a9 := gq184) (a10 := gq150) (a11 := gq161) (a33 := gq151) (a34 := gq152) (a35 := gq153) (a36 := gq154) (a37 := gq155) (a38 := gq156) (a39 := gq157) (a40 := gq158) (a41 := gq159) (a42 := gq160) (sz := _) (hl9 := hl9)) (cwV 1 hts (gi_V qw245 qw246 qw247 qw222 (gi_z qw244)) rfl rfl rfl (by decide +kernel) ⟨Nat.le_of_ble_eq_true rfl, Nat.le_of_ble_eq_true rfl⟩) ⟨PRE.blind, va_recv hKc hPc (ci := 11) (q0 := 0) rfl rfl, PRE.of hE hS hFc hPc hKc hDc⟩ rfl rfl hl.1 rfl (lv_room (Nat.le_of_ble_eq_true rfl)) dX11_run_2 ⟨Nat.le_of_ble_eq_true rfl, Nat.le_of_ble_eq_true rfl⟩) hS (fun q _ h => hFc q h) hFc (fun q _ h => hFc q h) (fun E ce q9 u t H locs ht hvm hw hB hz1 hk1 hS hce hcv hcl => ?_) (fun u t H locs ht hvm hw hB hz1 hk1 hS => hw.elim)
  obtain ⟨rfl, hB⟩ := hB
  obtain ⟨hP, hD, hK⟩ := JOIN (wr := []) hP hD hK [0, 1] [] [] rfl rfl (by decide) (by decide) rfl hk1 hFc ht hvm hB
  have hP : va_P (dC, dI) cls [(gx, .inr (11, [.ref gq1, .ref gq4, .ref gq13, .ref gq136, .ref gq137, .ref gq138, .ref gq172, .ref gq184, .ref gq150, .ref gq161, .int (-1)])), (gq150, .inr (2, [.int 0, .ref gq151, .ref gq152, .ref gq153, .ref gq154, .ref gq155, .ref gq156, .int 0, .ref gq157, .ref gq158, .ref gq159, .int 0, .ref gq160]))] H := hP
  have hD : va_D A [(gx, .inr (11, [.ref gq1, .ref gq4, .ref gq13, .ref gq136, .ref gq137, .ref gq138, .ref gq172, .ref gq184, .ref gq150, .ref gq161, .int (-1)])), (gq150, .inr (2, [.int 0, .ref gq151, .ref gq152, .ref gq153, .ref gq154, .ref gq155, .ref gq156, .int 0, .ref gq157, .ref gq158, .ref gq159, .int 0, .ref gq160]))] := hD
  have hK : va_K (dC, dI) cls [] s := hK
  refine vx_widen (k := 1) (n := 6) (Nat.le_of_ble_eq_true rfl) (Nat.le_of_ble_eq_true rfl) ?_
  have hP9 : va_P (dC, dI) cls [] H := hP.sub [] rfl
  have hD9 : va_D A [] := hD.sub [] (by decide) rfl
  have hK9 : va_K (dC, dI) cls [] s := hK.sub [] rfl
  exact vx_out (fun x hx9 => (hnt x hx9).elim) hlocks hce hcv hcl (fun t ht hal => ⟨(), trivial, ⟨rfl, ⟨by rw [ht]; exact hP9, va_K.moved hal hK9, hD9⟩⟩, hS.F ht⟩) hS.2.2 (Nat.le_of_ble_eq_true rfl) (Nat.le_of_ble_eq_true rfl)
set_option maxHeartbeats 4000000 in
set_option maxRecDepth 100000 in
theorem kX11_differences {zs : Nat × Nat} (l : Launch) (dC : Nat → ClassId) (dI : Nat → Nat → Nat) (gx : Nat) (gq1 : Nat) (gq4 : Nat) (gq13 : Nat) (gq136 : Nat) (gq137 : Nat) (gq138 : Nat) (gq150 : Nat) (gq151 : Nat) (gq152 : Nat) (gq153 : Nat) (gq154 : Nat) (gq155 : Nat) (gq156 : Nat) (gq157 : Nat) (gq158 : Nat) (gq159 : Nat) (gq160 : Nat) (gq161 : Nat) (gq172 : Nat) (gq184 : Nat) (p0 : Int32) (p1 : Int32) (p2 : Int32) (sz : Nat) (hl9 : l.stackTraces = false)  : vx_Met l yX11_differences (wz yX11_differences cX11_differences 8 (Option.some Jvm.ClassFile.FieldType.int)) ({ frames := 7, cells := 1, slots := 6, locals := 121 }) (va_Pc [.ref gx, .int p0, .int p1, .int p2] (PRE zs dC dI [(gx, .inr (11, [.ref gq1, .ref gq4, .ref gq13, .ref gq136, .ref gq137, .ref gq138, .ref gq172, .ref gq184, .ref gq150, .ref gq161, .int (-1)])), (gq150, .inr (2, [.int 0, .ref gq151, .ref gq152, .ref gq153, .ref gq154, .ref gq155, .ref gq156, .int 0, .ref gq157, .ref gq158, .ref gq159, .int 0, .ref gq160]))] [] sz)) (va_Qi (fun (_ : Int32) (_ : Unit) => False) (fun _ _ => True) (va_A [(gx, .inr (11, [.ref gq1, .ref gq4, .ref gq13, .ref gq136, .ref gq137, .ref gq138, .ref gq172, .ref gq184, .ref gq150, .ref gq161, .int (-1)])), (gq150, .inr (2, [.int 0, .ref gq151, .ref gq152, .ref gq153, .ref gq154, .ref gq155, .ref gq156, .int 0, .ref gq157, .ref gq158, .ref gq159, .int 0, .ref gq160]))] sz)) (vx_X (fun (_ : Unit) => True) (fun E _ t => E = "java/lang/IndexOutOfBoundsException" ∧ POST dC dI [] [] (va_A [(gx, .inr (11, [.ref gq1, .ref gq4, .ref gq13, .ref gq136, .ref gq137, .ref gq138, .ref gq172, .ref gq184, .ref gq150, .ref gq161, .int (-1)])), (gq150, .inr (2, [.int 0, .ref gq151, .ref gq152, .ref gq153, .ref gq154, .ref gq155, .ref gq156, .int 0, .ref gq157, .ref gq158, .ref gq159, .int 0, .ref gq160]))] sz) t) (va_A [(gx, .inr (11, [.ref gq1, .ref gq4, .ref gq13, .ref gq136, .ref gq137, .ref gq138, .ref gq172, .ref gq184, .ref gq150, .ref gq161, .int (-1)])), (gq150, .inr (2, [.int 0, .ref gq151, .ref gq152, .ref gq153, .ref gq154, .ref gq155, .ref gq156, .int 0, .ref gq157, .ref gq158, .ref gq159, .int 0, .ref gq160]))] sz)) 1 6 (va_A [(gx, .inr (11, [.ref gq1, .ref gq4, .ref gq13, .ref gq136, .ref gq137, .ref gq138, .ref gq172, .ref gq184, .ref gq150, .ref gq161, .int (-1)])), (gq150, .inr (2, [.int 0, .ref gq151, .ref gq152, .ref gq153, .ref gq154, .ref gq155, .ref gq156, .int 0, .ref gq157, .ref gq158, .ref gq159, .int 0, .ref gq160]))] sz) := by
  refine vx_ofW (cc := cX11_differences) (maxL := 8) (ret := (Option.some Jvm.ClassFile.FieldType.int)) (by decide) rfl ?_
  intro p e s m args below meth c s₁ B hml hnt hv
  obtain ⟨rfl, hsz, hP, hK, hD0, hE⟩ := hv
  have hx := B.exec
  have hb := B.bytes
  have hr := B.returns
  have hts0 := atoms_spec (ws := wz yX11_differences cX11_differences 8 (Option.some Jvm.ClassFile.FieldType.int)) B.pre
  have hts : ∀ w ∈ gw, w.before _ s = true := fun w h => hts0 w (List.mem_cons_of_mem _ h)
  have hown : s.vm.findClass RX11 = some m.cls := findClass_of_methodNamed B.named
  have hlocks := B.notSynchronized
  subst hsz
  have hD := hD0.self (sz := s.heap.size)
  generalize hAe : va_A [(gx, .inr (11, [.ref gq1, .ref gq4, .ref gq13, .ref gq136, .ref gq137, .ref gq138, .ref gq172, .ref gq184, .ref gq150, .ref gq161, .int (-1)])), (gq150, .inr (2, [.int 0, .ref gq151, .ref gq152, .ref gq153, .ref gq154, .ref gq155, .ref gq156, .int 0, .ref gq157, .ref gq158, .ref gq159, .int 0, .ref gq160]))] s.heap.size = A at hD hE ⊢
  have hA : ∀ q : Nat, s.heap.size ≤ q → A q := fun q h => by rw [← hAe]; exact Or.inr h
  have hS : va_S A s.heap s.heap [] := va_S.rf
  have hP : va_P (dC, dI) cls [(gx, .inr (11, [.ref gq1, .ref gq4, .ref gq13, .ref gq136, .ref gq137, .ref gq138, .ref gq172, .ref gq184, .ref gq150, .ref gq161, .int (-1)])), (gq150, .inr (2, [.int 0, .ref gq151, .ref gq152, .ref gq153, .ref gq154, .ref gq155, .ref gq156, .int 0, .ref gq157, .ref gq158, .ref gq159, .int 0, .ref gq160]))] s.heap := hP
  have hl := lv_entry ([.ref gx, .int p0, .int p1, .int p2]) (n := 8) (Nat.le_of_ble_eq_true rfl)
  rw [lg_entry_eq]
  generalize (lg_sl ([.ref gx, .int p0, .int p1, .int p2]) ++ List.replicate (8 - (lg_sl ([.ref gx, .int p0, .int p1, .int p2])).length) Slot.unset).toArray = ls at hl ⊢
  have hl : lv_has ls 8 [(0, .ref gx), (1, .int p0), (2, .int p1), (3, .int p2)] := hl
  refine lv_aload_n hx hb dX11_differences_0 rfl (lv_at hl 0 rfl) ?_
  refine lv_iload_n hx hb dX11_differences_1 rfl (lv_at hl 1 rfl) ?_
  have hPc := hP.sub (ws' := [(gx, .inr (11, [.ref gq1, .ref gq4, .ref gq13, .ref gq136, .ref gq137, .ref gq138, .ref gq172, .ref gq184, .ref gq150, .ref gq161, .int (-1)])), (gq150, .inr (2, [.int 0, .ref gq151, .ref gq152, .ref gq153, .ref gq154, .ref gq155, .ref gq156, .int 0, .ref gq157, .ref gq158, .ref gq159, .int 0, .ref gq160]))]) [0, 1] rfl
  have hDc := hD.sub (ws' := [(gx, .inr (11, [.ref gq1, .ref gq4, .ref gq13, .ref gq136, .ref gq137, .ref gq138, .ref gq172, .ref gq184, .ref gq150, .ref gq161, .int (-1)])), (gq150, .inr (2, [.int 0, .ref gq151, .ref gq152, .ref gq153, .ref gq154, .ref gq155, .ref gq156, .int 0, .ref gq157, .ref gq158, .ref gq159, .int 0, .ref gq160]))]) [0, 1] (by decide) rfl
  have hKc := hK.sub (tys' := []) [] rfl
  have hFc := va_free (wc := [(gx, .inr (11, [.ref gq1, .ref gq4, .ref gq13, .ref gq136, .ref gq137, .ref gq138, .ref gq172, .ref gq184, .ref gq150, .ref gq161, .int (-1)])), (gq150, .inr (2, [.int 0, .ref gq151, .ref gq152, .ref gq153, .ref gq154, .ref gq155, .ref gq156, .int 0, .ref gq157, .ref gq158, .ref gq159, .int 0, .ref gq160]))]) hD hS hA [0, 1] rfl
  refine vx_callv (vx_runV (As := [.int p0]) (rest := []) ⟨hx, hb, hml, hown, hts⟩ (kX11_needFunction_n6 l dC dI (a0 := gx) (i1 := p0) (a2 := gq1) (a3 := gq4) (a4 := gq13) (a5 := gq136) (a6 := gq137) (a7 := gq138) (a8 := gq172) (a9 := gq184) (a10 := gq150) (a11 := gq161) (a33 := gq151) (a34 := gq152) (a35 := gq153) (a36 := gq154) (a37 := gq155) (a38 := gq156) (a39 := gq157) (a40 := gq158) (a41 := gq159) (a42 := gq160) (sz := _) (hl9 := hl9)) (cwV 1 hts (gi_V qw245 qw246 qw247 qw222 (gi_z qw244)) rfl rfl rfl (by decide +kernel) ⟨Nat.le_of_ble_eq_true rfl, Nat.le_of_ble_eq_true rfl⟩) ⟨PRE.blind, va_recv hKc hPc (ci := 11) (q0 := 0) rfl rfl, PRE.of hE hS hFc hPc hKc hDc⟩ rfl rfl hl.1 rfl (lv_room (Nat.le_of_ble_eq_true rfl)) dX11_differences_2 ⟨Nat.le_of_ble_eq_true rfl, Nat.le_of_ble_eq_true rfl⟩) hS (fun q _ h => hFc q h) hFc (fun q _ h => hFc q h) (fun E ce q9 u t H locs ht hvm hw hB hz1 hk1 hS hce hcv hcl => ?_) (fun u t H locs ht hvm hw hB hz1 hk1 hS => hw.elim)
  obtain ⟨rfl, hB⟩ := hB
  obtain ⟨hP, hD, hK⟩ := JOIN (wr := []) hP hD hK [0, 1] [] [] rfl rfl (by decide) (by decide) rfl hk1 hFc ht hvm hB
  have hP : va_P (dC, dI) cls [(gx, .inr (11, [.ref gq1, .ref gq4, .ref gq13, .ref gq136, .ref gq137, .ref gq138, .ref gq172, .ref gq184, .ref gq150, .ref gq161, .int (-1)])), (gq150, .inr (2, [.int 0, .ref gq151, .ref gq152, .ref gq153, .ref gq154, .ref gq155, .ref gq156, .int 0, .ref gq157, .ref gq158, .ref gq159, .int 0, .ref gq160]))] H := hP
  have hD : va_D A [(gx, .inr (11, [.ref gq1, .ref gq4, .ref gq13, .ref gq136, .ref gq137, .ref gq138, .ref gq172, .ref gq184, .ref gq150, .ref gq161, .int (-1)])), (gq150, .inr (2, [.int 0, .ref gq151, .ref gq152, .ref gq153, .ref gq154, .ref gq155, .ref gq156, .int 0, .ref gq157, .ref gq158, .ref gq159, .int 0, .ref gq160]))] := hD
  have hK : va_K (dC, dI) cls [] s := hK
  refine vx_widen (k := 1) (n := 6) (Nat.le_of_ble_eq_true rfl) (Nat.le_of_ble_eq_true rfl) ?_
  have hP9 : va_P (dC, dI) cls [] H := hP.sub [] rfl
  have hD9 : va_D A [] := hD.sub [] (by decide) rfl
  have hK9 : va_K (dC, dI) cls [] s := hK.sub [] rfl
  exact vx_out (fun x hx9 => (hnt x hx9).elim) hlocks hce hcv hcl (fun t ht hal => ⟨(), trivial, ⟨rfl, ⟨by rw [ht]; exact hP9, va_K.moved hal hK9, hD9⟩⟩, hS.F ht⟩) hS.2.2 (Nat.le_of_ble_eq_true rfl) (Nat.le_of_ble_eq_true rfl)
set_option maxHeartbeats 4000000 in
set_option maxRecDepth 100000 in
/-- Gearbox.needPlace, from the state that its caller has -/
theorem kX11_needPlace_n10 {zs : Nat × Nat} (l : Launch) (dC : Nat → ClassId) (dI : Nat → Nat → Nat) (a0 : Nat) (i1 : Int32) (a2 : Nat) (a3 : Nat) (a4 : Nat) (a5 : Nat) (a6 : Nat) (a7 : Nat) (a8 : Nat) (a9 : Nat) (a10 : Nat) (a11 : Nat) (sz : Nat) (hl9 : l.stackTraces = false) (hf0 : i1 < 0) : vx_Met l yX11_needPlace (wz yX11_needPlace cX11_needPlace 3 (Option.none : Option Jvm.ClassFile.FieldType)) ({ frames := 6, cells := 1, slots := 6, locals := 100 }) (va_Pc [.ref a0, .int i1, .int 16] (PRE zs dC dI [(a0, .inr (11, [.ref a2, .ref a3, .ref a4, .ref a5, .ref a6, .ref a7, .ref a8, .ref a9, .ref a10, .ref a11, .int (-1)]))] [] sz)) (va_Qv (fun (_ : Unit) => False) (fun _ _ => True) (va_A [(a0, .inr (11, [.ref a2, .ref a3, .ref a4, .ref a5, .ref a6, .ref a7, .ref a8, .ref a9, .ref a10, .ref a11, .int (-1)]))] sz)) (vx_X (fun (_ : Unit) => True) (fun E _ t => E = "java/lang/IndexOutOfBoundsException" ∧ POST dC dI [(a0, .inr (11, [.ref a2, .ref a3, .ref a4, .ref a5, .ref a6, .ref a7, .ref a8, .ref a9, .ref a10, .ref a11, .int (-1)]))] [] (va_A [(a0, .inr (11, [.ref a2, .ref a3, .ref a4, .ref a5, .ref a6, .ref a7, .ref a8, .ref a9, .ref a10, .ref a11, .int (-1)]))] sz) t) (va_A [(a0, .inr (11, [.ref a2, .ref a3, .ref a4, .ref a5, .ref a6, .ref a7, .ref a8, .ref a9, .ref a10, .ref a11, .int (-1)]))] sz)) 1 6 (va_A [(a0, .inr (11, [.ref a2, .ref a3, .ref a4, .ref a5, .ref a6, .ref a7, .ref a8, .ref a9, .ref a10, .ref a11, .int (-1)]))] sz) := by
  refine vx_ofW (cc := cX11_needPlace) (maxL := 3) (ret := (Option.none : Option Jvm.ClassFile.FieldType)) (by decide) rfl ?_
  intro p e s m args below meth c s₁ B hml hnt hv
  obtain ⟨rfl, hsz, hP, hK, hD0, hE⟩ := hv
  have hx := B.exec
  have hb := B.bytes
  have hr := B.returns
  have hts0 := atoms_spec (ws := wz yX11_needPlace cX11_needPlace 3 (Option.none : Option Jvm.ClassFile.FieldType)) B.pre
  have hts : ∀ w ∈ gw, w.before _ s = true := fun w h => hts0 w (List.mem_cons_of_mem _ h)
  have hown : s.vm.findClass RX11 = some m.cls := findClass_of_methodNamed B.named
  have hlocks := B.notSynchronized
  subst hsz
  have hD := hD0.self (sz := s.heap.size)
  generalize hAe : va_A [(a0, .inr (11, [.ref a2, .ref a3, .ref a4, .ref a5, .ref a6, .ref a7, .ref a8, .ref a9, .ref a10, .ref a11, .int (-1)]))] s.heap.size = A at hD hE ⊢
  have hA : ∀ q : Nat, s.heap.size ≤ q → A q := fun q h => by rw [← hAe]; exact Or.inr h
  have hS : va_S A s.heap s.heap [] := va_S.rf
  have hP : va_P (dC, dI) cls [(a0, .inr (11, [.ref a2, .ref a3, .ref a4, .ref a5, .ref a6, .ref a7, .ref a8, .ref a9, .ref a10, .ref a11, .int (-1)]))] s.heap := hP
  have hl := lv_entry ([.ref a0, .int i1, .int 16]) (n := 3) (Nat.le_of_ble_eq_true rfl)
  rw [lg_entry_eq]
  generalize (lg_sl ([.ref a0, .int i1, .int 16]) ++ List.replicate (3 - (lg_sl ([.ref a0, .int i1, .int 16])).length) Slot.unset).toArray = ls at hl ⊢
  have hl : lv_has ls 3 [(0, .ref a0), (1, .int i1), (2, .int 16)] := hl
  refine lv_iload_n hx hb dX11_needPlace_0 rfl (lv_at hl 1 rfl) ?_
  refine lv_if_lt (tgt := 9) hx hb dX11_needPlace_1 (by decide) (fun _ => ?_) (fun c => absurd hf0 c)
  obtain ⟨sa, hsa⟩ := hE.2.2.2.1 RX11 334 "there is no such place" (tbl_9 (i := 89) rfl)
  have hP9 : va_P (dC, dI) cls [(a0, .inr (11, [.ref a2, .ref a3, .ref a4, .ref a5, .ref a6, .ref a7, .ref a8, .ref a9, .ref a10, .ref a11, .int (-1)]))] s.heap := hP.sub [0] rfl
  have hD9 : va_D A [(a0, .inr (11, [.ref a2, .ref a3, .ref a4, .ref a5, .ref a6, .ref a7, .ref a8, .ref a9, .ref a10, .ref a11, .int (-1)]))] := hD.sub [0] (by decide) rfl
  have hK9 : va_K (dC, dI) cls [] s := hK.sub [] rfl
  exact vx_throwSW hx hb hl9 hown rfl (by decide) (hts _ qw242) (hts _ qw243) hsa (at_X11_333 hts hE) at_X11_333_g hE.2.2.2.2.1.1 hE.2.2.2.2.1.2 hS (by rw [hml]; exact hl.1) dX11_needPlace_9 dX11_needPlace_12 dX11_needPlace_13 dX11_needPlace_16 dX11_needPlace_19 (fun x hx9 => (hnt x hx9).elim) (by decide) (by decide) (Nat.le_of_ble_eq_true rfl) (Nat.le_of_ble_eq_true rfl) hlocks (fun t hal hz hq => ⟨(), trivial, ⟨rfl, POST.keep hP9 hD9 hK9 hal hq⟩, ⟨Nat.le_trans hS.1 hz, fun q a b => (hq q (Nat.lt_of_lt_of_le a hS.1)).trans (hS.2.1 q a b)⟩⟩) hS.2.2 (Nat.le_of_ble_eq_true rfl) (Nat.le_of_ble_eq_true rfl)
set_option maxHeartbeats 4000000 in
set_option maxRecDepth 100000 in
theorem kX11_word_a {zs : Nat × Nat} (l : Launch) (dC : Nat → ClassId) (dI : Nat → Nat → Nat) (gx : Nat) (gq1 : Nat) (gq4 : Nat) (gq13 : Nat) (gq136 : Nat) (gq137 : Nat) (gq138 : Nat) (gq150 : Nat) (gq161 : Nat) (gq172 : Nat) (gq184 : Nat) (p0 : Int32) (sz : Nat) (hl9 : l.stackTraces = false) (h1 : p0 < 0) : vx_Met l yX11_word (wz yX11_word cX11_word 2 (Option.some Jvm.ClassFile.FieldType.int)) ({ frames := 7, cells := 1, slots := 6, locals := 122 }) (va_Pc [.ref gx, .int p0] (PRE zs dC dI [(gx, .inr (11, [.ref gq1, .ref gq4, .ref gq13, .ref gq136, .ref gq137, .ref gq138, .ref gq172, .ref gq184, .ref gq150, .ref gq161, .int (-1)]))] [] sz)) (va_Qi (fun (_ : Int32) (_ : Unit) => False) (fun _ _ => True) (va_A [(gx, .inr (11, [.ref gq1, .ref gq4, .ref gq13, .ref gq136, .ref gq137, .ref gq138, .ref gq172, .ref gq184, .ref gq150, .ref gq161, .int (-1)]))] sz)) (vx_X (fun (_ : Unit) => True) (fun E _ t => E = "java/lang/IndexOutOfBoundsException" ∧ POST dC dI [] [] (va_A [(gx, .inr (11, [.ref gq1, .ref gq4, .ref gq13, .ref gq136, .ref gq137, .ref gq138, .ref gq172, .ref gq184, .ref gq150, .ref gq161, .int (-1)]))] sz) t) (va_A [(gx, .inr (11, [.ref gq1, .ref gq4, .ref gq13, .ref gq136, .ref gq137, .ref gq138, .ref gq172, .ref gq184, .ref gq150, .ref gq161, .int (-1)]))] sz)) 1 6 (va_A [(gx, .inr (11, [.ref gq1, .ref gq4, .ref gq13, .ref gq136, .ref gq137, .ref gq138, .ref gq172, .ref gq184, .ref gq150, .ref gq161, .int (-1)]))] sz) := by
  refine vx_ofW (cc := cX11_word) (maxL := 2) (ret := (Option.some Jvm.ClassFile.FieldType.int)) (by decide) rfl ?_
  intro p e s m args below meth c s₁ B hml hnt hv
  obtain ⟨rfl, hsz, hP, hK, hD0, hE⟩ := hv
  have hx := B.exec
  have hb := B.bytes
  have hr := B.returns
  have hts0 := atoms_spec (ws := wz yX11_word cX11_word 2 (Option.some Jvm.ClassFile.FieldType.int)) B.pre
  have hts : ∀ w ∈ gw, w.before _ s = true := fun w h => hts0 w (List.mem_cons_of_mem _ h)
  have hown : s.vm.findClass RX11 = some m.cls := findClass_of_methodNamed B.named
  have hlocks := B.notSynchronized
  subst hsz
  have hD := hD0.self (sz := s.heap.size)
  generalize hAe : va_A [(gx, .inr (11, [.ref gq1, .ref gq4, .ref gq13, .ref gq136, .ref gq137, .ref gq138, .ref gq172, .ref gq184, .ref gq150, .ref gq161, .int (-1)]))] s.heap.size = A at hD hE ⊢
  have hA : ∀ q : Nat, s.heap.size ≤ q → A q := fun q h => by rw [← hAe]; exact Or.inr h
  have hS : va_S A s.heap s.heap [] := va_S.rf
  have hP : va_P (dC, dI) cls [(gx, .inr (11, [.ref gq1, .ref gq4, .ref gq13, .ref gq136, .ref gq137, .ref gq138, .ref gq172, .ref gq184, .ref gq150, .ref gq161, .int (-1)]))] s.heap := hP
  have hl := lv_entry ([.ref gx, .int p0]) (n := 2) (Nat.le_of_ble_eq_true rfl)
  rw [lg_entry_eq]
  generalize (lg_sl ([.ref gx, .int p0]) ++ List.replicate (2 - (lg_sl ([.ref gx, .int p0])).length) Slot.unset).toArray = ls at hl ⊢
  have hl : lv_has ls 2 [(0, .ref gx), (1, .int p0)] := hl
  refine lv_aload_n hx hb dX11_word_0 rfl (lv_at hl 0 rfl) ?_
  refine lv_iload_n hx hb dX11_word_1 rfl (lv_at hl 1 rfl) ?_
  refine lv_bipush (v := 16) hx hb dX11_word_2 (by decide) ?_
  have hPc := hP.sub (ws' := [(gx, .inr (11, [.ref gq1, .ref gq4, .ref gq13, .ref gq136, .ref gq137, .ref gq138, .ref gq172, .ref gq184, .ref gq150, .ref gq161, .int (-1)]))]) [0] rfl
  have hDc := hD.sub (ws' := [(gx, .inr (11, [.ref gq1, .ref gq4, .ref gq13, .ref gq136, .ref gq137, .ref gq138, .ref gq172, .ref gq184, .ref gq150, .ref gq161, .int (-1)]))]) [0] (by decide) rfl
  have hKc := hK.sub (tys' := []) [] rfl
  have hFc := va_free (wc := [(gx, .inr (11, [.ref gq1, .ref gq4, .ref gq13, .ref gq136, .ref gq137, .ref gq138, .ref gq172, .ref gq184, .ref gq150, .ref gq161, .int (-1)]))]) hD hS hA [0] rfl
  refine vx_callv (vx_runV (As := [.int p0, .int 16]) (rest := []) ⟨hx, hb, hml, hown, hts⟩ (kX11_needPlace_n10 l dC dI (a0 := gx) (i1 := p0) (a2 := gq1) (a3 := gq4) (a4 := gq13) (a5 := gq136) (a6 := gq137) (a7 := gq138) (a8 := gq172) (a9 := gq184) (a10 := gq150) (a11 := gq161) (sz := _) (hl9 := hl9) (hf0 := h1)) (cwV 2 hts (gi_V qw261 qw262 qw263 qw222 (gi_z qw260)) rfl rfl rfl (by decide +kernel) ⟨Nat.le_of_ble_eq_true rfl, Nat.le_of_ble_eq_true rfl⟩) ⟨PRE.blind, va_recv hKc hPc (ci := 11) (q0 := 0) rfl rfl, PRE.of hE hS hFc hPc hKc hDc⟩ rfl rfl hl.1 rfl (lv_room (Nat.le_of_ble_eq_true rfl)) dX11_word_4 ⟨Nat.le_of_ble_eq_true rfl, Nat.le_of_ble_eq_true rfl⟩) hS (fun q _ h => hFc q h) hFc (fun q _ h => hFc q h) (fun E ce q9 u t H locs ht hvm hw hB hz1 hk1 hS hce hcv hcl => ?_) (fun u t H locs ht hvm hw hB hz1 hk1 hS => hw.elim)
  obtain ⟨rfl, hB⟩ := hB
  obtain ⟨hP, hD, hK⟩ := JOIN (wr := []) hP hD hK [0] [] [] rfl rfl (by decide) (by decide) rfl hk1 hFc ht hvm hB
  have hP : va_P (dC, dI) cls [(gx, .inr (11, [.ref gq1, .ref gq4, .ref gq13, .ref gq136, .ref gq137, .ref gq138, .ref gq172, .ref gq184, .ref gq150, .ref gq161, .int (-1)]))] H := hP
  have hD : va_D A [(gx, .inr (11, [.ref gq1, .ref gq4, .ref gq13, .ref gq136, .ref gq137, .ref gq138, .ref gq172, .ref gq184, .ref gq150, .ref gq161, .int (-1)]))] := hD
  have hK : va_K (dC, dI) cls [] s := hK
  refine vx_widen (k := 1) (n := 6) (Nat.le_of_ble_eq_true rfl) (Nat.le_of_ble_eq_true rfl) ?_
  have hP9 : va_P (dC, dI) cls [] H := hP.sub [] rfl
  have hD9 : va_D A [] := hD.sub [] (by decide) rfl
  have hK9 : va_K (dC, dI) cls [] s := hK.sub [] rfl
  exact vx_out (fun x hx9 => (hnt x hx9).elim) hlocks hce hcv hcl (fun t ht hal => ⟨(), trivial, ⟨rfl, ⟨by rw [ht]; exact hP9, va_K.moved hal hK9, hD9⟩⟩, hS.F ht⟩) hS.2.2 (Nat.le_of_ble_eq_true rfl) (Nat.le_of_ble_eq_true rfl)
set_option maxHeartbeats 4000000 in
set_option maxRecDepth 100000 in
/-- Gearbox.needPlace, from the state that its caller has -/
theorem kX11_needPlace_n11 {zs : Nat × Nat} (l : Launch) (dC : Nat → ClassId) (dI : Nat → Nat → Nat) (a0 : Nat) (i1 : Int32) (a2 : Nat) (a3 : Nat) (a4 : Nat) (a5 : Nat) (a6 : Nat) (a7 : Nat) (a8 : Nat) (a9 : Nat) (a10 : Nat) (a11 : Nat) (sz : Nat) (hl9 : l.stackTraces = false) (hf0 : ¬ i1 < 0) (hf1 : 16 ≤ i1) : vx_Met l yX11_needPlace (wz yX11_needPlace cX11_needPlace 3 (Option.none : Option Jvm.ClassFile.FieldType)) ({ frames := 6, cells := 1, slots := 6, locals := 100 }) (va_Pc [.ref a0, .int i1, .int 16] (PRE zs dC dI [(a0, .inr (11, [.ref a2, .ref a3, .ref a4, .ref a5, .ref a6, .ref a7, .ref a8, .ref a9, .ref a10, .ref a11, .int (-1)]))] [] sz)) (va_Qv (fun (_ : Unit) => False) (fun _ _ => True) (va_A [(a0, .inr (11, [.ref a2, .ref a3, .ref a4, .ref a5, .ref a6, .ref a7, .ref a8, .ref a9, .ref a10, .ref a11, .int (-1)]))] sz)) (vx_X (fun (_ : Unit) => True) (fun E _ t => E = "java/lang/IndexOutOfBoundsException" ∧ POST dC dI [(a0, .inr (11, [.ref a2, .ref a3, .ref a4, .ref a5, .ref a6, .ref a7, .ref a8, .ref a9, .ref a10, .ref a11, .int (-1)]))] [] (va_A [(a0, .inr (11, [.ref a2, .ref a3, .ref a4, .ref a5, .ref a6, .ref a7, .ref a8, .ref a9, .ref a10, .ref a11, .int (-1)]))] sz) t) (va_A [(a0, .inr (11, [.ref a2, .ref a3, .ref a4, .ref a5, .ref a6, .ref a7, .ref a8, .ref a9, .ref a10, .ref a11, .int (-1)]))] sz)) 1 6 (va_A [(a0, .inr (11, [.ref a2, .ref a3, .ref a4, .ref a5, .ref a6, .ref a7, .ref a8, .ref a9, .ref a10, .ref a11, .int (-1)]))] sz) := by
  refine vx_ofW (cc := cX11_needPlace) (maxL := 3) (ret := (Option.none : Option Jvm.ClassFile.FieldType)) (by decide) rfl ?_
  intro p e s m args below meth c s₁ B hml hnt hv
  obtain ⟨rfl, hsz, hP, hK, hD0, hE⟩ := hv
  have hx := B.exec
  have hb := B.bytes
  have hr := B.returns
  have hts0 := atoms_spec (ws := wz yX11_needPlace cX11_needPlace 3 (Option.none : Option Jvm.ClassFile.FieldType)) B.pre
  have hts : ∀ w ∈ gw, w.before _ s = true := fun w h => hts0 w (List.mem_cons_of_mem _ h)
  have hown : s.vm.findClass RX11 = some m.cls := findClass_of_methodNamed B.named
  have hlocks := B.notSynchronized
  subst hsz
  have hD := hD0.self (sz := s.heap.size)
  generalize hAe : va_A [(a0, .inr (11, [.ref a2, .ref a3, .ref a4, .ref a5, .ref a6, .ref a7, .ref a8, .ref a9, .ref a10, .ref a11, .int (-1)]))] s.heap.size = A at hD hE ⊢
  have hA : ∀ q : Nat, s.heap.size ≤ q → A q := fun q h => by rw [← hAe]; exact Or.inr h
  have hS : va_S A s.heap s.heap [] := va_S.rf
  have hP : va_P (dC, dI) cls [(a0, .inr (11, [.ref a2, .ref a3, .ref a4, .ref a5, .ref a6, .ref a7, .ref a8, .ref a9, .ref a10, .ref a11, .int (-1)]))] s.heap := hP
  have hl := lv_entry ([.ref a0, .int i1, .int 16]) (n := 3) (Nat.le_of_ble_eq_true rfl)
  rw [lg_entry_eq]
  generalize (lg_sl ([.ref a0, .int i1, .int 16]) ++ List.replicate (3 - (lg_sl ([.ref a0, .int i1, .int 16])).length) Slot.unset).toArray = ls at hl ⊢
  have hl : lv_has ls 3 [(0, .ref a0), (1, .int i1), (2, .int 16)] := hl
  refine lv_iload_n hx hb dX11_needPlace_0 rfl (lv_at hl 1 rfl) ?_
  refine lv_if_lt (tgt := 9) hx hb dX11_needPlace_1 (by decide) (fun c => absurd c hf0) (fun _ => ?_)
  refine lv_iload_n hx hb dX11_needPlace_4 rfl (lv_at hl 1 rfl) ?_
  refine lv_iload_n hx hb dX11_needPlace_5 rfl (lv_at hl 2 rfl) ?_
  refine lv_icmp_lt (tgt := 20) hx hb dX11_needPlace_6 (by decide) (fun c => absurd c (fun c => absurd c (Int32.not_lt.mpr hf1))) (fun _ => ?_)
  obtain ⟨sa, hsa⟩ := hE.2.2.2.1 RX11 334 "there is no such place" (tbl_9 (i := 89) rfl)
  have hP9 : va_P (dC, dI) cls [(a0, .inr (11, [.ref a2, .ref a3, .ref a4, .ref a5, .ref a6, .ref a7, .ref a8, .ref a9, .ref a10, .ref a11, .int (-1)]))] s.heap := hP.sub [0] rfl
  have hD9 : va_D A [(a0, .inr (11, [.ref a2, .ref a3, .ref a4, .ref a5, .ref a6, .ref a7, .ref a8, .ref a9, .ref a10, .ref a11, .int (-1)]))] := hD.sub [0] (by decide) rfl
  have hK9 : va_K (dC, dI) cls [] s := hK.sub [] rfl
  exact vx_throwSW hx hb hl9 hown rfl (by decide) (hts _ qw242) (hts _ qw243) hsa (at_X11_333 hts hE) at_X11_333_g hE.2.2.2.2.1.1 hE.2.2.2.2.1.2 hS (by rw [hml]; exact hl.1) dX11_needPlace_9 dX11_needPlace_12 dX11_needPlace_13 dX11_needPlace_16 dX11_needPlace_19 (fun x hx9 => (hnt x hx9).elim) (by decide) (by decide) (Nat.le_of_ble_eq_true rfl) (Nat.le_of_ble_eq_true rfl) hlocks (fun t hal hz hq => ⟨(), trivial, ⟨rfl, POST.keep hP9 hD9 hK9 hal hq⟩, ⟨Nat.le_trans hS.1 hz, fun q a b => (hq q (Nat.lt_of_lt_of_le a hS.1)).trans (hS.2.1 q a b)⟩⟩) hS.2.2 (Nat.le_of_ble_eq_true rfl) (Nat.le_of_ble_eq_true rfl)
set_option maxHeartbeats 4000000 in
set_option maxRecDepth 100000 in
theorem kX11_word_b {zs : Nat × Nat} (l : Launch) (dC : Nat → ClassId) (dI : Nat → Nat → Nat) (gx : Nat) (gq1 : Nat) (gq4 : Nat) (gq13 : Nat) (gq136 : Nat) (gq137 : Nat) (gq138 : Nat) (gq150 : Nat) (gq161 : Nat) (gq172 : Nat) (gq184 : Nat) (p0 : Int32) (sz : Nat) (hl9 : l.stackTraces = false) (h1 : ¬ p0 < 0) (h2 : 16 ≤ p0) : vx_Met l yX11_word (wz yX11_word cX11_word 2 (Option.some Jvm.ClassFile.FieldType.int)) ({ frames := 7, cells := 1, slots := 6, locals := 122 }) (va_Pc [.ref gx, .int p0] (PRE zs dC dI [(gx, .inr (11, [.ref gq1, .ref gq4, .ref gq13, .ref gq136, .ref gq137, .ref gq138, .ref gq172, .ref gq184, .ref gq150, .ref gq161, .int (-1)]))] [] sz)) (va_Qi (fun (_ : Int32) (_ : Unit) => False) (fun _ _ => True) (va_A [(gx, .inr (11, [.ref gq1, .ref gq4, .ref gq13, .ref gq136, .ref gq137, .ref gq138, .ref gq172, .ref gq184, .ref gq150, .ref gq161, .int (-1)]))] sz)) (vx_X (fun (_ : Unit) => True) (fun E _ t => E = "java/lang/IndexOutOfBoundsException" ∧ POST dC dI [] [] (va_A [(gx, .inr (11, [.ref gq1, .ref gq4, .ref gq13, .ref gq136, .ref gq137, .ref gq138, .ref gq172, .ref gq184, .ref gq150, .ref gq161, .int (-1)]))] sz) t) (va_A [(gx, .inr (11, [.ref gq1, .ref gq4, .ref gq13, .ref gq136, .ref gq137, .ref gq138, .ref gq172, .ref gq184, .ref gq150, .ref gq161, .int (-1)]))] sz)) 1 6 (va_A [(gx, .inr (11, [.ref gq1, .ref gq4, .ref gq13, .ref gq136, .ref gq137, .ref gq138, .ref gq172, .ref gq184, .ref gq150, .ref gq161, .int (-1)]))] sz) := by
  refine vx_ofW (cc := cX11_word) (maxL := 2) (ret := (Option.some Jvm.ClassFile.FieldType.int)) (by decide) rfl ?_
  intro p e s m args below meth c s₁ B hml hnt hv
  obtain ⟨rfl, hsz, hP, hK, hD0, hE⟩ := hv
  have hx := B.exec
  have hb := B.bytes
  have hr := B.returns
  have hts0 := atoms_spec (ws := wz yX11_word cX11_word 2 (Option.some Jvm.ClassFile.FieldType.int)) B.pre
  have hts : ∀ w ∈ gw, w.before _ s = true := fun w h => hts0 w (List.mem_cons_of_mem _ h)
  have hown : s.vm.findClass RX11 = some m.cls := findClass_of_methodNamed B.named
  have hlocks := B.notSynchronized
  subst hsz
  have hD := hD0.self (sz := s.heap.size)
  generalize hAe : va_A [(gx, .inr (11, [.ref gq1, .ref gq4, .ref gq13, .ref gq136, .ref gq137, .ref gq138, .ref gq172, .ref gq184, .ref gq150, .ref gq161, .int (-1)]))] s.heap.size = A at hD hE ⊢
  have hA : ∀ q : Nat, s.heap.size ≤ q → A q := fun q h => by rw [← hAe]; exact Or.inr h
  have hS : va_S A s.heap s.heap [] := va_S.rf
  have hP : va_P (dC, dI) cls [(gx, .inr (11, [.ref gq1, .ref gq4, .ref gq13, .ref gq136, .ref gq137, .ref gq138, .ref gq172, .ref gq184, .ref gq150, .ref gq161, .int (-1)]))] s.heap := hP
  have hl := lv_entry ([.ref gx, .int p0]) (n := 2) (Nat.le_of_ble_eq_true rfl)
  rw [lg_entry_eq]
  generalize (lg_sl ([.ref gx, .int p0]) ++ List.replicate (2 - (lg_sl ([.ref gx, .int p0])).length) Slot.unset).toArray = ls at hl ⊢
  have hl : lv_has ls 2 [(0, .ref gx), (1, .int p0)] := hl
  refine lv_aload_n hx hb dX11_word_0 rfl (lv_at hl 0 rfl) ?_
  refine lv_iload_n hx hb dX11_word_1 rfl (lv_at hl 1 rfl) ?_
  refine lv_bipush (v := 16) hx hb dX11_word_2 (by decide) ?_
  have hPc := hP.sub (ws' := [(gx, .inr (11, [.ref gq1, .ref gq4, .ref gq13, .ref gq136, .ref gq137, .ref gq138, .ref gq172, .ref gq184, .ref gq150, .ref gq161, .int (-1)]))]) [0] rfl
  have hDc := hD.sub (ws' := [(gx, .inr (11, [.ref gq1, .ref gq4, .ref gq13, .ref gq136, .ref gq137, .ref gq138, .ref gq172, .ref gq184, .ref gq150, .ref gq161, .int (-1)]))]) [0] (by decide) rfl
  have hKc := hK.sub (tys' := []) [] rfl
  have hFc := va_free (wc := [(gx, .inr (11, [.ref gq1, .ref gq4, .ref gq13, .ref gq136, .ref gq137, .ref gq138, .ref gq172, .ref gq184, .ref gq150, .ref gq161, .int (-1)]))]) hD hS hA [0] rfl
  refine vx_callv (vx_runV (As := [.int p0, .int 16]) (rest := []) ⟨hx, hb, hml, hown, hts⟩ (kX11_needPlace_n11 l dC dI (a0 := gx) (i1 := p0) (a2 := gq1) (a3 := gq4) (a4 := gq13) (a5 := gq136) (a6 := gq137) (a7 := gq138) (a8 := gq172) (a9 := gq184) (a10 := gq150) (a11 := gq161) (sz := _) (hl9 := hl9) (hf0 := h1) (hf1 := h2)) (cwV 2 hts (gi_V qw261 qw262 qw263 qw222 (gi_z qw260)) rfl rfl rfl (by decide +kernel) ⟨Nat.le_of_ble_eq_true rfl, Nat.le_of_ble_eq_true rfl⟩) ⟨PRE.blind, va_recv hKc hPc (ci := 11) (q0 := 0) rfl rfl, PRE.of hE hS hFc hPc hKc hDc⟩ rfl rfl hl.1 rfl (lv_room (Nat.le_of_ble_eq_true rfl)) dX11_word_4 ⟨Nat.le_of_ble_eq_true rfl, Nat.le_of_ble_eq_true rfl⟩) hS (fun q _ h => hFc q h) hFc (fun q _ h => hFc q h) (fun E ce q9 u t H locs ht hvm hw hB hz1 hk1 hS hce hcv hcl => ?_) (fun u t H locs ht hvm hw hB hz1 hk1 hS => hw.elim)
  obtain ⟨rfl, hB⟩ := hB
  obtain ⟨hP, hD, hK⟩ := JOIN (wr := []) hP hD hK [0] [] [] rfl rfl (by decide) (by decide) rfl hk1 hFc ht hvm hB
  have hP : va_P (dC, dI) cls [(gx, .inr (11, [.ref gq1, .ref gq4, .ref gq13, .ref gq136, .ref gq137, .ref gq138, .ref gq172, .ref gq184, .ref gq150, .ref gq161, .int (-1)]))] H := hP
  have hD : va_D A [(gx, .inr (11, [.ref gq1, .ref gq4, .ref gq13, .ref gq136, .ref gq137, .ref gq138, .ref gq172, .ref gq184, .ref gq150, .ref gq161, .int (-1)]))] := hD
  have hK : va_K (dC, dI) cls [] s := hK
  refine vx_widen (k := 1) (n := 6) (Nat.le_of_ble_eq_true rfl) (Nat.le_of_ble_eq_true rfl) ?_
  have hP9 : va_P (dC, dI) cls [] H := hP.sub [] rfl
  have hD9 : va_D A [] := hD.sub [] (by decide) rfl
  have hK9 : va_K (dC, dI) cls [] s := hK.sub [] rfl
  exact vx_out (fun x hx9 => (hnt x hx9).elim) hlocks hce hcv hcl (fun t ht hal => ⟨(), trivial, ⟨rfl, ⟨by rw [ht]; exact hP9, va_K.moved hal hK9, hD9⟩⟩, hS.F ht⟩) hS.2.2 (Nat.le_of_ble_eq_true rfl) (Nat.le_of_ble_eq_true rfl)
set_option maxHeartbeats 4000000 in
set_option maxRecDepth 100000 in
/-- Gearbox.needPlace, from the state that its caller has -/
theorem kX11_needPlace_n12 {zs : Nat × Nat} (l : Launch) (dC : Nat → ClassId) (dI : Nat → Nat → Nat) (a0 : Nat) (i1 : Int32) (a2 : Nat) (a3 : Nat) (a4 : Nat) (a5 : Nat) (a6 : Nat) (a7 : Nat) (a8 : Nat) (a9 : Nat) (a10 : Nat) (a11 : Nat) (sz : Nat) (hf0 : ¬ i1 < 0) (hf1 : ¬ 16 ≤ i1) : Met l yX11_needPlace (wz yX11_needPlace cX11_needPlace 3 (Option.none : Option Jvm.ClassFile.FieldType)) ({ frames := 0, cells := 0, slots := 0, locals := 0 }) (va_Pc [.ref a0, .int i1, .int 16] (PRE zs dC dI [(a0, .inr (11, [.ref a2, .ref a3, .ref a4, .ref a5, .ref a6, .ref a7, .ref a8, .ref a9, .ref a10, .ref a11, .int (-1)]))] [] sz)) (va_Qv (fun (_ : Unit) => True) (fun _ t => POST dC dI [(a0, .inr (11, [.ref a2, .ref a3, .ref a4, .ref a5, .ref a6, .ref a7, .ref a8, .ref a9, .ref a10, .ref a11, .int (-1)]))] [] (va_A [(a0, .inr (11, [.ref a2, .ref a3, .ref a4, .ref a5, .ref a6, .ref a7, .ref a8, .ref a9, .ref a10, .ref a11, .int (-1)]))] sz) t) (va_A [(a0, .inr (11, [.ref a2, .ref a3, .ref a4, .ref a5, .ref a6, .ref a7, .ref a8, .ref a9, .ref a10, .ref a11, .int (-1)]))] sz)) 0 0 (va_A [(a0, .inr (11, [.ref a2, .ref a3, .ref a4, .ref a5, .ref a6, .ref a7, .ref a8, .ref a9, .ref a10, .ref a11, .int (-1)]))] sz) := by
  refine Met.ofW (cc := cX11_needPlace) (maxL := 3) (ret := (Option.none : Option Jvm.ClassFile.FieldType)) (by decide) rfl ?_
  intro p e s m args below meth c s₁ B hml hv
  obtain ⟨rfl, hsz, hP, hK, hD0, hE⟩ := hv
  have hx := B.exec
  have hb := B.bytes
  have hr := B.returns
  have hts0 := atoms_spec (ws := wz yX11_needPlace cX11_needPlace 3 (Option.none : Option Jvm.ClassFile.FieldType)) B.pre
  have hts : ∀ w ∈ gw, w.before _ s = true := fun w h => hts0 w (List.mem_cons_of_mem _ h)
  have hown : s.vm.findClass RX11 = some m.cls := findClass_of_methodNamed B.named
  have hlocks := B.notSynchronized
  subst hsz
  have hD := hD0.self (sz := s.heap.size)
  generalize hAe : va_A [(a0, .inr (11, [.ref a2, .ref a3, .ref a4, .ref a5, .ref a6, .ref a7, .ref a8, .ref a9, .ref a10, .ref a11, .int (-1)]))] s.heap.size = A at hD hE ⊢
  have hA : ∀ q : Nat, s.heap.size ≤ q → A q := fun q h => by rw [← hAe]; exact Or.inr h
  have hS : va_S A s.heap s.heap [] := va_S.rf
  have hP : va_P (dC, dI) cls [(a0, .inr (11, [.ref a2, .ref a3, .ref a4, .ref a5, .ref a6, .ref a7, .ref a8, .ref a9, .ref a10, .ref a11, .int (-1)]))] s.heap := hP
  have hl := lv_entry ([.ref a0, .int i1, .int 16]) (n := 3) (Nat.le_of_ble_eq_true rfl)
  rw [lg_entry_eq]
  generalize (lg_sl ([.ref a0, .int i1, .int 16]) ++ List.replicate (3 - (lg_sl ([.ref a0, .int i1, .int 16])).length) Slot.unset).toArray = ls at hl ⊢
  have hl : lv_has ls 3 [(0, .ref a0), (1, .int i1), (2, .int 16)] := hl
  refine lv_iload_n hx hb dX11_needPlace_0 rfl (lv_at hl 1 rfl) ?_
  refine lv_if_lt (tgt := 9) hx hb dX11_needPlace_1 (by decide) (fun c => absurd c hf0) (fun _ => ?_)
  refine lv_iload_n hx hb dX11_needPlace_4 rfl (lv_at hl 1 rfl) ?_
  refine lv_iload_n hx hb dX11_needPlace_5 rfl (lv_at hl 2 rfl) ?_
  refine lv_icmp_lt (tgt := 20) hx hb dX11_needPlace_6 (by decide) (fun _ => ?_) (fun c => absurd (Int32.not_le.mp hf1) c)
  have hP9 : va_P (dC, dI) cls [(a0, .inr (11, [.ref a2, .ref a3, .ref a4, .ref a5, .ref a6, .ref a7, .ref a8, .ref a9, .ref a10, .ref a11, .int (-1)]))] s.heap := hP.sub [0] rfl
  have hD9 : va_D A [(a0, .inr (11, [.ref a2, .ref a3, .ref a4, .ref a5, .ref a6, .ref a7, .ref a8, .ref a9, .ref a10, .ref a11, .int (-1)]))] := hD.sub [0] (by decide) rfl
  have hK9 : va_K (dC, dI) cls [] s := hK.sub [] rfl
  exact W.vret hx hb hr (fun t ht hW => ⟨⟨(), rfl, trivial, ⟨by rw [ht]; exact hP9, va_K.moved hW.alike hK9, hD9⟩⟩, hS.F ht⟩) hS.2.2 dX11_needPlace_20
set_option maxHeartbeats 4000000 in
set_option maxRecDepth 100000 in
theorem kX11_word_c {zs : Nat × Nat} (l : Launch) (dC : Nat → ClassId) (dI : Nat → Nat → Nat) (gx : Nat) (gq1 : Nat) (gq4 : Nat) (gq13 : Nat) (gq136 : Nat) (gq137 : Nat) (gq138 : Nat) (gq150 : Nat) (gq161 : Nat) (gq172 : Nat) (gq173 : Nat) (gc174 : ClassId) (gq175 : Nat) (gq176 : Nat) (gq177 : Nat) (gq178 : Nat) (gq179 : Nat) (gq180 : Nat) (gq181 : Nat) (gq182 : Nat) (gq183 : Nat) (gq184 : Nat) (p0 : Int32) (sz : Nat) (h1 : ¬ p0 < 0) (h2 : ¬ 16 ≤ p0) : Met l yX11_word (wz yX11_word cX11_word 2 (Option.some Jvm.ClassFile.FieldType.int)) ({ frames := 1, cells := 0, slots := 0, locals := 22 }) (va_Pc [.ref gx, .int p0] (PRE zs dC dI [(gx, .inr (11, [.ref gq1, .ref gq4, .ref gq13, .ref gq136, .ref gq137, .ref gq138, .ref gq172, .ref gq184, .ref gq150, .ref gq161, .int (-1)])), (gq172, .inr (10, [.int 0, .int 0, .int 0, .ref gq173, .ref gq150, .ref gq13, .ref gq138, .ref gq175, .int 0, .int 0, .ref gq176, .ref gq177, .ref gq178, .ref gq179, .ref gq180, .ref gq181, .ref gq182, .int 0, .ref gq183, .int 0])), (gq173, .inl (gc174, 16, .inl (fun _ => 0)))] [(gc174, .int)] sz)) (va_Qi (fun (r : Int32) (_ : Unit) => r = 0) (fun _ t => POST dC dI [] [] (va_A [(gx, .inr (11, [.ref gq1, .ref gq4, .ref gq13, .ref gq136, .ref gq137, .ref gq138, .ref gq172, .ref gq184, .ref gq150, .ref gq161, .int (-1)])), (gq172, .inr (10, [.int 0, .int 0, .int 0, .ref gq173, .ref gq150, .ref gq13, .ref gq138, .ref gq175, .int 0, .int 0, .ref gq176, .ref gq177, .ref gq178, .ref gq179, .ref gq180, .ref gq181, .ref gq182, .int 0, .ref gq183, .int 0])), (gq173, .inl (gc174, 16, .inl (fun _ => 0)))] sz) t) (va_A [(gx, .inr (11, [.ref gq1, .ref gq4, .ref gq13, .ref gq136, .ref gq137, .ref gq138, .ref gq172, .ref gq184, .ref gq150, .ref gq161, .int (-1)])), (gq172, .inr (10, [.int 0, .int 0, .int 0, .ref gq173, .ref gq150, .ref gq13, .ref gq138, .ref gq175, .int 0, .int 0, .ref gq176, .ref gq177, .ref gq178, .ref gq179, .ref gq180, .ref gq181, .ref gq182, .int 0, .ref gq183, .int 0])), (gq173, .inl (gc174, 16, .inl (fun _ => 0)))] sz)) 0 0 (va_A [(gx, .inr (11, [.ref gq1, .ref gq4, .ref gq13, .ref gq136, .ref gq137, .ref gq138, .ref gq172, .ref gq184, .ref gq150, .ref gq161, .int (-1)])), (gq172, .inr (10, [.int 0, .int 0, .int 0, .ref gq173, .ref gq150, .ref gq13, .ref gq138, .ref gq175, .int 0, .int 0, .ref gq176, .ref gq177, .ref gq178, .ref gq179, .ref gq180, .ref gq181, .ref gq182, .int 0, .ref gq183, .int 0])), (gq173, .inl (gc174, 16, .inl (fun _ => 0)))] sz) := by
  refine Met.ofW (cc := cX11_word) (maxL := 2) (ret := (Option.some Jvm.ClassFile.FieldType.int)) (by decide) rfl ?_
  intro p e s m args below meth c s₁ B hml hv
  obtain ⟨rfl, hsz, hP, hK, hD0, hE⟩ := hv
  have hx := B.exec
  have hb := B.bytes
  have hr := B.returns
  have hts0 := atoms_spec (ws := wz yX11_word cX11_word 2 (Option.some Jvm.ClassFile.FieldType.int)) B.pre
  have hts : ∀ w ∈ gw, w.before _ s = true := fun w h => hts0 w (List.mem_cons_of_mem _ h)
  have hown : s.vm.findClass RX11 = some m.cls := findClass_of_methodNamed B.named
  have hlocks := B.notSynchronized
  subst hsz
  have hD := hD0.self (sz := s.heap.size)
  generalize hAe : va_A [(gx, .inr (11, [.ref gq1, .ref gq4, .ref gq13, .ref gq136, .ref gq137, .ref gq138, .ref gq172, .ref gq184, .ref gq150, .ref gq161, .int (-1)])), (gq172, .inr (10, [.int 0, .int 0, .int 0, .ref gq173, .ref gq150, .ref gq13, .ref gq138, .ref gq175, .int 0, .int 0, .ref gq176, .ref gq177, .ref gq178, .ref gq179, .ref gq180, .ref gq181, .ref gq182, .int 0, .ref gq183, .int 0])), (gq173, .inl (gc174, 16, .inl (fun _ => 0)))] s.heap.size = A at hD hE ⊢
  have hA : ∀ q : Nat, s.heap.size ≤ q → A q := fun q h => by rw [← hAe]; exact Or.inr h
  have hS : va_S A s.heap s.heap [] := va_S.rf
  have hP : va_P (dC, dI) cls [(gx, .inr (11, [.ref gq1, .ref gq4, .ref gq13, .ref gq136, .ref gq137, .ref gq138, .ref gq172, .ref gq184, .ref gq150, .ref gq161, .int (-1)])), (gq172, .inr (10, [.int 0, .int 0, .int 0, .ref gq173, .ref gq150, .ref gq13, .ref gq138, .ref gq175, .int 0, .int 0, .ref gq176, .ref gq177, .ref gq178, .ref gq179, .ref gq180, .ref gq181, .ref gq182, .int 0, .ref gq183, .int 0])), (gq173, .inl (gc174, 16, .inl (fun _ => 0)))] s.heap := hP
  have hl := lv_entry ([.ref gx, .int p0]) (n := 2) (Nat.le_of_ble_eq_true rfl)
  rw [lg_entry_eq]
  generalize (lg_sl ([.ref gx, .int p0]) ++ List.replicate (2 - (lg_sl ([.ref gx, .int p0])).length) Slot.unset).toArray = ls at hl ⊢
  have hl : lv_has ls 2 [(0, .ref gx), (1, .int p0)] := hl
  refine lv_aload_n hx hb dX11_word_0 rfl (lv_at hl 0 rfl) ?_
  refine lv_iload_n hx hb dX11_word_1 rfl (lv_at hl 1 rfl) ?_
  refine lv_bipush (v := 16) hx hb dX11_word_2 (by decide) ?_
  have hPc := hP.sub (ws' := [(gx, .inr (11, [.ref gq1, .ref gq4, .ref gq13, .ref gq136, .ref gq137, .ref gq138, .ref gq172, .ref gq184, .ref gq150, .ref gq161, .int (-1)]))]) [0] rfl
  have hDc := hD.sub (ws' := [(gx, .inr (11, [.ref gq1, .ref gq4, .ref gq13, .ref gq136, .ref gq137, .ref gq138, .ref gq172, .ref gq184, .ref gq150, .ref gq161, .int (-1)]))]) [0] (by decide) rfl
  have hKc := hK.sub (tys' := []) [] rfl
  have hFc := va_free (wc := [(gx, .inr (11, [.ref gq1, .ref gq4, .ref gq13, .ref gq136, .ref gq137, .ref gq138, .ref gq172, .ref gq184, .ref gq150, .ref gq161, .int (-1)]))]) hD hS hA [0] rfl
  refine va_callv (va_runV (As := [.int p0, .int 16]) (rest := []) ⟨hx, hb, hml, hown, hts⟩ (kX11_needPlace_n12 l dC dI (a0 := gx) (i1 := p0) (a2 := gq1) (a3 := gq4) (a4 := gq13) (a5 := gq136) (a6 := gq137) (a7 := gq138) (a8 := gq172) (a9 := gq184) (a10 := gq150) (a11 := gq161) (sz := _) (hf0 := h1) (hf1 := h2)) (cwV 2 hts (gi_V qw261 qw262 qw263 qw222 (gi_z qw260)) rfl rfl rfl (by decide +kernel) ⟨Nat.le_of_ble_eq_true rfl, Nat.le_of_ble_eq_true rfl⟩) ⟨PRE.blind, va_recv hKc hPc (ci := 11) (q0 := 0) rfl rfl, PRE.of hE hS hFc hPc hKc hDc⟩ rfl rfl hl.1 rfl (lv_room (Nat.le_of_ble_eq_true rfl)) dX11_word_4 ⟨Nat.le_of_ble_eq_true rfl, Nat.le_of_ble_eq_true rfl⟩) hS (fun q _ h => hFc q h) hFc (fun u t H locs ht hvm hw hB hz1 hk1 hS => ?_)
  obtain ⟨hP, hD, hK⟩ := JOIN (wr := [(gq172, .inr (10, [.int 0, .int 0, .int 0, .ref gq173, .ref gq150, .ref gq13, .ref gq138, .ref gq175, .int 0, .int 0, .ref gq176, .ref gq177, .ref gq178, .ref gq179, .ref gq180, .ref gq181, .ref gq182, .int 0, .ref gq183, .int 0])), (gq173, .inl (gc174, 16, .inl (fun _ => 0)))]) hP hD hK [0] [1, 2] [0] rfl rfl (by decide) (by decide) rfl hk1 hFc ht hvm hB
  have hP : va_P (dC, dI) cls [(gq172, .inr (10, [.int 0, .int 0, .int 0, .ref gq173, .ref gq150, .ref gq13, .ref gq138, .ref gq175, .int 0, .int 0, .ref gq176, .ref gq177, .ref gq178, .ref gq179, .ref gq180, .ref gq181, .ref gq182, .int 0, .ref gq183, .int 0])), (gq173, .inl (gc174, 16, .inl (fun _ => 0))), (gx, .inr (11, [.ref gq1, .ref gq4, .ref gq13, .ref gq136, .ref gq137, .ref gq138, .ref gq172, .ref gq184, .ref gq150, .ref gq161, .int (-1)]))] H := hP
  have hD : va_D A [(gq172, .inr (10, [.int 0, .int 0, .int 0, .ref gq173, .ref gq150, .ref gq13, .ref gq138, .ref gq175, .int 0, .int 0, .ref gq176, .ref gq177, .ref gq178, .ref gq179, .ref gq180, .ref gq181, .ref gq182, .int 0, .ref gq183, .int 0])), (gq173, .inl (gc174, 16, .inl (fun _ => 0))), (gx, .inr (11, [.ref gq1, .ref gq4, .ref gq13, .ref gq136, .ref gq137, .ref gq138, .ref gq172, .ref gq184, .ref gq150, .ref gq161, .int (-1)]))] := hD
  have hK : va_K (dC, dI) cls [(gc174, .int)] s := hK
  refine W.widen (k := 0) (n := 0) (Nat.le_of_ble_eq_true rfl) (Nat.le_of_ble_eq_true rfl) ?_
  refine lv_aload_n hx hb dX11_word_7 rfl (lv_at hl 0 rfl) ?_
  refine va_get (D := (dC, dI)) (ci := 11) (v := .ref gq172) (C := RX11) (T := TX11) (N := 11) hx hb hts i_X11 hown hK hP 2 rfl rfl 6 (by decide) (hts _ qw203) (fun _ h9 => h9) rfl dX11_word_8 ?_
  refine va_get (D := (dC, dI)) (ci := 10) (v := .ref gq173) (C := RX3) (T := TX3) (N := 20) hx hb hts i_X3 hown hK hP 0 rfl rfl 3 (by decide) (hts _ qw264) (fun _ h9 => h9) rfl dX11_word_11 ?_
  refine lv_iload_n hx hb dX11_word_14 rfl (lv_at hl 1 rfl) ?_
  refine va_iald hx hb hK hP 1 0 rfl rfl (inN (k := 16) (by decide) h1 h2) dX11_word_15 ?_
  refine lv_topC (y := 0) rfl ?_
  have hP9 : va_P (dC, dI) cls [] H := hP.sub [] rfl
  have hD9 : va_D A [] := hD.sub [] (by decide) rfl
  have hK9 : va_K (dC, dI) cls [] s := hK.sub [] rfl
  exact W.iret (v := 0) hx hb hr (fun t ht hW => ⟨⟨0, (), rfl, rfl, ⟨by rw [ht]; exact hP9, va_K.moved hW.alike hK9, hD9⟩⟩, hS.F ht⟩) hS.2.2 dX11_word_16
set_option maxHeartbeats 4000000 in
set_option maxRecDepth 100000 in
theorem kX11_allocate_a {zs : Nat × Nat} (l : Launch) (dC : Nat → ClassId) (dI : Nat → Nat → Nat) (gx : Nat) (gq1 : Nat) (gq4 : Nat) (gq13 : Nat) (gq136 : Nat) (gq137 : Nat) (gq138 : Nat) (gq150 : Nat) (gq161 : Nat) (gq172 : Nat) (gq184 : Nat) (p0 : Int32) (sz : Nat) (hl9 : l.stackTraces = false) (h1 : p0 < 3) : vx_Met l yX11_allocate (wz yX11_allocate cX11_allocate 2 (Option.some Jvm.ClassFile.FieldType.int)) ({ frames := 6, cells := 1, slots := 6, locals := 100 }) (va_Pc [.ref gx, .int p0] (PRE zs dC dI [(gx, .inr (11, [.ref gq1, .ref gq4, .ref gq13, .ref gq136, .ref gq137, .ref gq138, .ref gq172, .ref gq184, .ref gq150, .ref gq161, .int (-1)]))] [] sz)) (va_Qi (fun (_ : Int32) (_ : Unit) => False) (fun _ _ => True) (va_A [(gx, .inr (11, [.ref gq1, .ref gq4, .ref gq13, .ref gq136, .ref gq137, .ref gq138, .ref gq172, .ref gq184, .ref gq150, .ref gq161, .int (-1)]))] sz)) (vx_X (fun (_ : Unit) => True) (fun E _ t => E = "java/lang/IllegalArgumentException" ∧ POST dC dI [] [] (va_A [(gx, .inr (11, [.ref gq1, .ref gq4, .ref gq13, .ref gq136, .ref gq137, .ref gq138, .ref gq172, .ref gq184, .ref gq150, .ref gq161, .int (-1)]))] sz) t) (va_A [(gx, .inr (11, [.ref gq1, .ref gq4, .ref gq13, .ref gq136, .ref gq137, .ref gq138, .ref gq172, .ref gq184, .ref gq150, .ref gq161, .int (-1)]))] sz)) 1 6 (va_A [(gx, .inr (11, [.ref gq1, .ref gq4, .ref gq13, .ref gq136, .ref gq137, .ref gq138, .ref gq172, .ref gq184, .ref gq150, .ref gq161, .int (-1)]))] sz) := by
  refine vx_ofW (cc := cX11_allocate) (maxL := 2) (ret := (Option.some Jvm.ClassFile.FieldType.int)) (by decide) rfl ?_
  intro p e s m args below meth c s₁ B hml hnt hv
  obtain ⟨rfl, hsz, hP, hK, hD0, hE⟩ := hv
  have hx := B.exec
  have hb := B.bytes
  have hr := B.returns
  have hts0 := atoms_spec (ws := wz yX11_allocate cX11_allocate 2 (Option.some Jvm.ClassFile.FieldType.int)) B.pre
  have hts : ∀ w ∈ gw, w.before _ s = true := fun w h => hts0 w (List.mem_cons_of_mem _ h)
  have hown : s.vm.findClass RX11 = some m.cls := findClass_of_methodNamed B.named
  have hlocks := B.notSynchronized
  subst hsz
  have hD := hD0.self (sz := s.heap.size)
  generalize hAe : va_A [(gx, .inr (11, [.ref gq1, .ref gq4, .ref gq13, .ref gq136, .ref gq137, .ref gq138, .ref gq172, .ref gq184, .ref gq150, .ref gq161, .int (-1)]))] s.heap.size = A at hD hE ⊢
  have hA : ∀ q : Nat, s.heap.size ≤ q → A q := fun q h => by rw [← hAe]; exact Or.inr h
  have hS : va_S A s.heap s.heap [] := va_S.rf
  have hP : va_P (dC, dI) cls [(gx, .inr (11, [.ref gq1, .ref gq4, .ref gq13, .ref gq136, .ref gq137, .ref gq138, .ref gq172, .ref gq184, .ref gq150, .ref gq161, .int (-1)]))] s.heap := hP
  have hl := lv_entry ([.ref gx, .int p0]) (n := 2) (Nat.le_of_ble_eq_true rfl)
  rw [lg_entry_eq]
  generalize (lg_sl ([.ref gx, .int p0]) ++ List.replicate (2 - (lg_sl ([.ref gx, .int p0])).length) Slot.unset).toArray = ls at hl ⊢
  have hl : lv_has ls 2 [(0, .ref gx), (1, .int p0)] := hl
  refine lv_iload_n hx hb dX11_allocate_0 rfl (lv_at hl 1 rfl) ?_
  refine lv_iconst (v := 3) hx hb dX11_allocate_1 (by decide) ?_
  refine lv_icmp_lt (tgt := 11) hx hb dX11_allocate_2 (by decide) (fun _ => ?_) (fun c => absurd h1 c)
  obtain ⟨sa, hsa⟩ := hE.2.2.2.1 RX11 260 "there are 3 to 8 registers" (tbl_9 (i := 212) rfl)
  have hP9 : va_P (dC, dI) cls [] s.heap := hP.sub [] rfl
  have hD9 : va_D A [] := hD.sub [] (by decide) rfl
  have hK9 : va_K (dC, dI) cls [] s := hK.sub [] rfl
  exact vx_throwSW hx hb hl9 hown rfl (by decide) (hts _ qw213) (hts _ qw214) hsa (at_X11_104 hts hE) at_X11_104_g hE.2.2.2.2.1.1 hE.2.2.2.2.1.2 hS (by rw [hml]; exact hl.1) dX11_allocate_11 dX11_allocate_14 dX11_allocate_15 dX11_allocate_18 dX11_allocate_21 (fun x hx9 => (hnt x hx9).elim) (by decide) (by decide) (Nat.le_of_ble_eq_true rfl) (Nat.le_of_ble_eq_true rfl) hlocks (fun t hal hz hq => ⟨(), trivial, ⟨rfl, POST.keep hP9 hD9 hK9 hal hq⟩, ⟨Nat.le_trans hS.1 hz, fun q a b => (hq q (Nat.lt_of_lt_of_le a hS.1)).trans (hS.2.1 q a b)⟩⟩) hS.2.2 (Nat.le_of_ble_eq_true rfl) (Nat.le_of_ble_eq_true rfl)
set_option maxHeartbeats 4000000 in
set_option maxRecDepth 100000 in
theorem kX11_allocate_b {zs : Nat × Nat} (l : Launch) (dC : Nat → ClassId) (dI : Nat → Nat → Nat) (gx : Nat) (gq1 : Nat) (gq4 : Nat) (gq13 : Nat) (gq136 : Nat) (gq137 : Nat) (gq138 : Nat) (gq150 : Nat) (gq161 : Nat) (gq172 : Nat) (gq184 : Nat) (p0 : Int32) (sz : Nat) (hl9 : l.stackTraces = false) (h1 : ¬ p0 < 3) (h2 : 8 < p0) : vx_Met l yX11_allocate (wz yX11_allocate cX11_allocate 2 (Option.some Jvm.ClassFile.FieldType.int)) ({ frames := 6, cells := 1, slots := 6, locals := 100 }) (va_Pc [.ref gx, .int p0] (PRE zs dC dI [(gx, .inr (11, [.ref gq1, .ref gq4, .ref gq13, .ref gq136, .ref gq137, .ref gq138, .ref gq172, .ref gq184, .ref gq150, .ref gq161, .int (-1)]))] [] sz)) (va_Qi (fun (_ : Int32) (_ : Unit) => False) (fun _ _ => True) (va_A [(gx, .inr (11, [.ref gq1, .ref gq4, .ref gq13, .ref gq136, .ref gq137, .ref gq138, .ref gq172, .ref gq184, .ref gq150, .ref gq161, .int (-1)]))] sz)) (vx_X (fun (_ : Unit) => True) (fun E _ t => E = "java/lang/IllegalArgumentException" ∧ POST dC dI [] [] (va_A [(gx, .inr (11, [.ref gq1, .ref gq4, .ref gq13, .ref gq136, .ref gq137, .ref gq138, .ref gq172, .ref gq184, .ref gq150, .ref gq161, .int (-1)]))] sz) t) (va_A [(gx, .inr (11, [.ref gq1, .ref gq4, .ref gq13, .ref gq136, .ref gq137, .ref gq138, .ref gq172, .ref gq184, .ref gq150, .ref gq161, .int (-1)]))] sz)) 1 6 (va_A [(gx, .inr (11, [.ref gq1, .ref gq4, .ref gq13, .ref gq136, .ref gq137, .ref gq138, .ref gq172, .ref gq184, .ref gq150, .ref gq161, .int (-1)]))] sz) := by
  refine vx_ofW (cc := cX11_allocate) (maxL := 2) (ret := (Option.some Jvm.ClassFile.FieldType.int)) (by decide) rfl ?_
  intro p e s m args below meth c s₁ B hml hnt hv
  obtain ⟨rfl, hsz, hP, hK, hD0, hE⟩ := hv
  have hx := B.exec
  have hb := B.bytes
  have hr := B.returns
  have hts0 := atoms_spec (ws := wz yX11_allocate cX11_allocate 2 (Option.some Jvm.ClassFile.FieldType.int)) B.pre
  have hts : ∀ w ∈ gw, w.before _ s = true := fun w h => hts0 w (List.mem_cons_of_mem _ h)
  have hown : s.vm.findClass RX11 = some m.cls := findClass_of_methodNamed B.named
  have hlocks := B.notSynchronized
  subst hsz
  have hD := hD0.self (sz := s.heap.size)
  generalize hAe : va_A [(gx, .inr (11, [.ref gq1, .ref gq4, .ref gq13, .ref gq136, .ref gq137, .ref gq138, .ref gq172, .ref gq184, .ref gq150, .ref gq161, .int (-1)]))] s.heap.size = A at hD hE ⊢
  have hA : ∀ q : Nat, s.heap.size ≤ q → A q := fun q h => by rw [← hAe]; exact Or.inr h
  have hS : va_S A s.heap s.heap [] := va_S.rf
  have hP : va_P (dC, dI) cls [(gx, .inr (11, [.ref gq1, .ref gq4, .ref gq13, .ref gq136, .ref gq137, .ref gq138, .ref gq172, .ref gq184, .ref gq150, .ref gq161, .int (-1)]))] s.heap := hP
  have hl := lv_entry ([.ref gx, .int p0]) (n := 2) (Nat.le_of_ble_eq_true rfl)
  rw [lg_entry_eq]
  generalize (lg_sl ([.ref gx, .int p0]) ++ List.replicate (2 - (lg_sl ([.ref gx, .int p0])).length) Slot.unset).toArray = ls at hl ⊢
  have hl : lv_has ls 2 [(0, .ref gx), (1, .int p0)] := hl
  refine lv_iload_n hx hb dX11_allocate_0 rfl (lv_at hl 1 rfl) ?_
  refine lv_iconst (v := 3) hx hb dX11_allocate_1 (by decide) ?_
  refine lv_icmp_lt (tgt := 11) hx hb dX11_allocate_2 (by decide) (fun c => absurd c h1) (fun _ => ?_)
  refine lv_iload_n hx hb dX11_allocate_5 rfl (lv_at hl 1 rfl) ?_
  refine lv_bipush (v := 8) hx hb dX11_allocate_6 (by decide) ?_
  refine lv_icmp_le (tgt := 22) hx hb dX11_allocate_8 (by decide) (fun c => absurd c (fun c => absurd c (Int32.not_le.mpr h2))) (fun _ => ?_)
  obtain ⟨sa, hsa⟩ := hE.2.2.2.1 RX11 260 "there are 3 to 8 registers" (tbl_9 (i := 212) rfl)
  have hP9 : va_P (dC, dI) cls [] s.heap := hP.sub [] rfl
  have hD9 : va_D A [] := hD.sub [] (by decide) rfl
  have hK9 : va_K (dC, dI) cls [] s := hK.sub [] rfl
  exact vx_throwSW hx hb hl9 hown rfl (by decide) (hts _ qw213) (hts _ qw214) hsa (at_X11_104 hts hE) at_X11_104_g hE.2.2.2.2.1.1 hE.2.2.2.2.1.2 hS (by rw [hml]; exact hl.1) dX11_allocate_11 dX11_allocate_14 dX11_allocate_15 dX11_allocate_18 dX11_allocate_21 (fun x hx9 => (hnt x hx9).elim) (by decide) (by decide) (Nat.le_of_ble_eq_true rfl) (Nat.le_of_ble_eq_true rfl) hlocks (fun t hal hz hq => ⟨(), trivial, ⟨rfl, POST.keep hP9 hD9 hK9 hal hq⟩, ⟨Nat.le_trans hS.1 hz, fun q a b => (hq q (Nat.lt_of_lt_of_le a hS.1)).trans (hS.2.1 q a b)⟩⟩) hS.2.2 (Nat.le_of_ble_eq_true rfl) (Nat.le_of_ble_eq_true rfl)
set_option maxHeartbeats 4000000 in
set_option maxRecDepth 100000 in
theorem kX11_allocate_c {zs : Nat × Nat} (l : Launch) (dC : Nat → ClassId) (dI : Nat → Nat → Nat) (gx : Nat) (gq1 : Nat) (gq4 : Nat) (gq13 : Nat) (gq136 : Nat) (gq137 : Nat) (gq138 : Nat) (gq150 : Nat) (gq151 : Nat) (gq152 : Nat) (gq153 : Nat) (gq154 : Nat) (gq155 : Nat) (gq156 : Nat) (gq157 : Nat) (gq158 : Nat) (gq159 : Nat) (gq160 : Nat) (gq161 : Nat) (gq172 : Nat) (gq184 : Nat) (p0 : Int32) (sz : Nat) (hl9 : l.stackTraces = false) (h1 : ¬ p0 < 3) (h2 : ¬ 8 < p0) : vx_Met l yX11_allocate (wz yX11_allocate cX11_allocate 2 (Option.some Jvm.ClassFile.FieldType.int)) ({ frames := 6, cells := 1, slots := 6, locals := 100 }) (va_Pc [.ref gx, .int p0] (PRE zs dC dI [(gx, .inr (11, [.ref gq1, .ref gq4, .ref gq13, .ref gq136, .ref gq137, .ref gq138, .ref gq172, .ref gq184, .ref gq150, .ref gq161, .int (-1)])), (gq150, .inr (2, [.int 0, .ref gq151, .ref gq152, .ref gq153, .ref gq154, .ref gq155, .ref gq156, .int 0, .ref gq157, .ref gq158, .ref gq159, .int 0, .ref gq160]))] [] sz)) (va_Qi (fun (_ : Int32) (_ : Unit) => False) (fun _ _ => True) (va_A [(gx, .inr (11, [.ref gq1, .ref gq4, .ref gq13, .ref gq136, .ref gq137, .ref gq138, .ref gq172, .ref gq184, .ref gq150, .ref gq161, .int (-1)])), (gq150, .inr (2, [.int 0, .ref gq151, .ref gq152, .ref gq153, .ref gq154, .ref gq155, .ref gq156, .int 0, .ref gq157, .ref gq158, .ref gq159, .int 0, .ref gq160]))] sz)) (vx_X (fun (_ : Unit) => True) (fun E _ t => E = "java/lang/IllegalStateException" ∧ POST dC dI [] [] (va_A [(gx, .inr (11, [.ref gq1, .ref gq4, .ref gq13, .ref gq136, .ref gq137, .ref gq138, .ref gq172, .ref gq184, .ref gq150, .ref gq161, .int (-1)])), (gq150, .inr (2, [.int 0, .ref gq151, .ref gq152, .ref gq153, .ref gq154, .ref gq155, .ref gq156, .int 0, .ref gq157, .ref gq158, .ref gq159, .int 0, .ref gq160]))] sz) t) (va_A [(gx, .inr (11, [.ref gq1, .ref gq4, .ref gq13, .ref gq136, .ref gq137, .ref gq138, .ref gq172, .ref gq184, .ref gq150, .ref gq161, .int (-1)])), (gq150, .inr (2, [.int 0, .ref gq151, .ref gq152, .ref gq153, .ref gq154, .ref gq155, .ref gq156, .int 0, .ref gq157, .ref gq158, .ref gq159, .int 0, .ref gq160]))] sz)) 1 6 (va_A [(gx, .inr (11, [.ref gq1, .ref gq4, .ref gq13, .ref gq136, .ref gq137, .ref gq138, .ref gq172, .ref gq184, .ref gq150, .ref gq161, .int (-1)])), (gq150, .inr (2, [.int 0, .ref gq151, .ref gq152, .ref gq153, .ref gq154, .ref gq155, .ref gq156, .int 0, .ref gq157, .ref gq158, .ref gq159, .int 0, .ref gq160]))] sz) := by
  refine vx_ofW (cc := cX11_allocate) (maxL := 2) (ret := (Option.some Jvm.ClassFile.FieldType.int)) (by decide) rfl ?_
  intro p e s m args below meth c s₁ B hml hnt hv
  obtain ⟨rfl, hsz, hP, hK, hD0, hE⟩ := hv
  have hx := B.exec
  have hb := B.bytes
  have hr := B.returns
  have hts0 := atoms_spec (ws := wz yX11_allocate cX11_allocate 2 (Option.some Jvm.ClassFile.FieldType.int)) B.pre
  have hts : ∀ w ∈ gw, w.before _ s = true := fun w h => hts0 w (List.mem_cons_of_mem _ h)
  have hown : s.vm.findClass RX11 = some m.cls := findClass_of_methodNamed B.named
  have hlocks := B.notSynchronized
  subst hsz
  have hD := hD0.self (sz := s.heap.size)
  generalize hAe : va_A [(gx, .inr (11, [.ref gq1, .ref gq4, .ref gq13, .ref gq136, .ref gq137, .ref gq138, .ref gq172, .ref gq184, .ref gq150, .ref gq161, .int (-1)])), (gq150, .inr (2, [.int 0, .ref gq151, .ref gq152, .ref gq153, .ref gq154, .ref gq155, .ref gq156, .int 0, .ref gq157, .ref gq158, .ref gq159, .int 0, .ref gq160]))] s.heap.size = A at hD hE ⊢
  have hA : ∀ q : Nat, s.heap.size ≤ q → A q := fun q h => by rw [← hAe]; exact Or.inr h
  have hS : va_S A s.heap s.heap [] := va_S.rf
  have hP : va_P (dC, dI) cls [(gx, .inr (11, [.ref gq1, .ref gq4, .ref gq13, .ref gq136, .ref gq137, .ref gq138, .ref gq172, .ref gq184, .ref gq150, .ref gq161, .int (-1)])), (gq150, .inr (2, [.int 0, .ref gq151, .ref gq152, .ref gq153, .ref gq154, .ref gq155, .ref gq156, .int 0, .ref gq157, .ref gq158, .ref gq159, .int 0, .ref gq160]))] s.heap := hP
  have hl := lv_entry ([.ref gx, .int p0]) (n := 2) (Nat.le_of_ble_eq_true rfl)
  rw [lg_entry_eq]
  generalize (lg_sl ([.ref gx, .int p0]) ++ List.replicate (2 - (lg_sl ([.ref gx, .int p0])).length) Slot.unset).toArray = ls at hl ⊢
  have hl : lv_has ls 2 [(0, .ref gx), (1, .int p0)] := hl
  refine lv_iload_n hx hb dX11_allocate_0 rfl (lv_at hl 1 rfl) ?_
  refine lv_iconst (v := 3) hx hb dX11_allocate_1 (by decide) ?_
  refine lv_icmp_lt (tgt := 11) hx hb dX11_allocate_2 (by decide) (fun c => absurd c h1) (fun _ => ?_)
  refine lv_iload_n hx hb dX11_allocate_5 rfl (lv_at hl 1 rfl) ?_
  refine lv_bipush (v := 8) hx hb dX11_allocate_6 (by decide) ?_
  refine lv_icmp_le (tgt := 22) hx hb dX11_allocate_8 (by decide) (fun _ => ?_) (fun c => absurd (Int32.not_lt.mp h2) c)
  refine lv_aload_n hx hb dX11_allocate_22 rfl (lv_at hl 0 rfl) ?_
  refine va_get (D := (dC, dI)) (ci := 11) (v := .ref gq150) (C := RX11) (T := TX11) (N := 11) hx hb hts i_X11 hown hK hP 0 rfl rfl 8 (by decide) (hts _ qw195) (fun _ h9 => h9) rfl dX11_allocate_23 ?_
  refine va_get (D := (dC, dI)) (ci := 2) (v := .int 0) (C := RX6) (T := TX6) (N := 13) hx hb hts i_X6 hown hK hP 1 rfl rfl 0 (by decide) (hts _ qw215) (fun _ h9 => h9) rfl dX11_allocate_26 ?_
  refine lv_if_ne (tgt := 43) hx hb dX11_allocate_29 (by decide) (fun c => absurd (by decide) c) (fun _ => ?_)
  obtain ⟨sa, hsa⟩ := hE.2.2.2.1 RX11 262 "there is no program" (tbl_9 (i := 213) rfl)
  have hP9 : va_P (dC, dI) cls [] s.heap := hP.sub [] rfl
  have hD9 : va_D A [] := hD.sub [] (by decide) rfl
  have hK9 : va_K (dC, dI) cls [] s := hK.sub [] rfl
  exact vx_throwSW hx hb hl9 hown rfl (by decide) (hts _ qw265) (hts _ qw266) hsa (at_X11_93 hts hE) at_X11_93_g hE.2.2.2.2.1.1 hE.2.2.2.2.1.2 hS (by rw [hml]; exact hl.1) dX11_allocate_32 dX11_allocate_35 dX11_allocate_36 dX11_allocate_39 dX11_allocate_42 (fun x hx9 => (hnt x hx9).elim) (by decide) (by decide) (Nat.le_of_ble_eq_true rfl) (Nat.le_of_ble_eq_true rfl) hlocks (fun t hal hz hq => ⟨(), trivial, ⟨rfl, POST.keep hP9 hD9 hK9 hal hq⟩, ⟨Nat.le_trans hS.1 hz, fun q a b => (hq q (Nat.lt_of_lt_of_le a hS.1)).trans (hS.2.1 q a b)⟩⟩) hS.2.2 (Nat.le_of_ble_eq_true rfl) (Nat.le_of_ble_eq_true rfl)
