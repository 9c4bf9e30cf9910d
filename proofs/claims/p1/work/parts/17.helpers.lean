def RL : String := "GearboxLaw"
abbrev cL_feed : ByteArray := method_3_code
def yL_feed : MethodName := ⟨RL, "feed", "(LGearbox;IIIII[J)I"⟩
abbrev cL_trim : ByteArray := method_4_code
def yL_trim : MethodName := ⟨RL, "trim", "(LGearbox;I[J)I"⟩
abbrev cL_parametersOf : ByteArray := method_5_code
def yL_parametersOf : MethodName := ⟨RL, "parametersOf", "(LGearbox;I[J)I"⟩
abbrev cL_blocks : ByteArray := method_6_code
def yL_blocks : MethodName := ⟨RL, "blocks", "(LGearbox;I[J)I"⟩
abbrev cL_values : ByteArray := method_7_code
def yL_values : MethodName := ⟨RL, "values", "(LGearbox;I[J)I"⟩
abbrev cL_blockOf : ByteArray := method_8_code
def yL_blockOf : MethodName := ⟨RL, "blockOf", "(LGearbox;II[J)I"⟩
abbrev cL_dominatorOf : ByteArray := method_9_code
def yL_dominatorOf : MethodName := ⟨RL, "dominatorOf", "(LGearbox;II[J)I"⟩
abbrev cL_depthOf : ByteArray := method_10_code
def yL_depthOf : MethodName := ⟨RL, "depthOf", "(LGearbox;II[J)I"⟩
abbrev cL_predecessors : ByteArray := method_11_code
def yL_predecessors : MethodName := ⟨RL, "predecessors", "(LGearbox;II[J)I"⟩
abbrev cL_predecessor : ByteArray := method_12_code
def yL_predecessor : MethodName := ⟨RL, "predecessor", "(LGearbox;III[J)I"⟩
abbrev cL_endOf : ByteArray := method_13_code
def yL_endOf : MethodName := ⟨RL, "endOf", "(LGearbox;II[J)I"⟩
abbrev cL_successor : ByteArray := method_14_code
def yL_successor : MethodName := ⟨RL, "successor", "(LGearbox;IIZ[J)I"⟩
abbrev cL_endValue : ByteArray := method_15_code
def yL_endValue : MethodName := ⟨RL, "endValue", "(LGearbox;II[J)I"⟩
abbrev cL_phis : ByteArray := method_16_code
def yL_phis : MethodName := ⟨RL, "phis", "(LGearbox;II[J)I"⟩
abbrev cL_phiGives : ByteArray := method_17_code
def yL_phiGives : MethodName := ⟨RL, "phiGives", "(LGearbox;III[J)I"⟩
abbrev cL_phiTakes : ByteArray := method_18_code
def yL_phiTakes : MethodName := ⟨RL, "phiTakes", "(LGearbox;IIII[J)I"⟩
abbrev cL_steps : ByteArray := method_19_code
def yL_steps : MethodName := ⟨RL, "steps", "(LGearbox;II[J)I"⟩
abbrev cL_kindOf : ByteArray := method_20_code
def yL_kindOf : MethodName := ⟨RL, "kindOf", "(LGearbox;III[J)I"⟩
abbrev cL_gives : ByteArray := method_21_code
def yL_gives : MethodName := ⟨RL, "gives", "(LGearbox;III[J)I"⟩
abbrev cL_leftOf : ByteArray := method_22_code
def yL_leftOf : MethodName := ⟨RL, "leftOf", "(LGearbox;III[J)I"⟩
abbrev cL_rightOf : ByteArray := method_23_code
def yL_rightOf : MethodName := ⟨RL, "rightOf", "(LGearbox;III[J)I"⟩
abbrev cL_lines : ByteArray := method_25_code
def yL_lines : MethodName := ⟨RL, "lines", "(LGearbox;I[J)I"⟩
abbrev cL_codeKind : ByteArray := method_26_code
def yL_codeKind : MethodName := ⟨RL, "codeKind", "(LGearbox;II[J)I"⟩
abbrev cL_codeGives : ByteArray := method_27_code
def yL_codeGives : MethodName := ⟨RL, "codeGives", "(LGearbox;II[J)I"⟩
abbrev cL_codeLeft : ByteArray := method_28_code
def yL_codeLeft : MethodName := ⟨RL, "codeLeft", "(LGearbox;II[J)I"⟩
abbrev cL_codeRight : ByteArray := method_29_code
def yL_codeRight : MethodName := ⟨RL, "codeRight", "(LGearbox;II[J)I"⟩
abbrev cL_slots : ByteArray := method_30_code
def yL_slots : MethodName := ⟨RL, "slots", "(LGearbox;I[J)I"⟩
abbrev cL_united : ByteArray := method_31_code
def yL_united : MethodName := ⟨RL, "united", "(LGearbox;I[J)I"⟩
abbrev cL_rounds : ByteArray := method_32_code
def yL_rounds : MethodName := ⟨RL, "rounds", "(LGearbox;I[J)I"⟩
abbrev cL_run : ByteArray := method_33_code
def yL_run : MethodName := ⟨RL, "run", "(LGearbox;IIIIII[J)I"⟩
abbrev cL_differences : ByteArray := method_35_code
def yL_differences : MethodName := ⟨RL, "differences", "(LGearbox;III[J)I"⟩
abbrev cL_word : ByteArray := method_34_code
def yL_word : MethodName := ⟨RL, "word", "(LGearbox;I[J)I"⟩
abbrev cL_allocate : ByteArray := method_24_code
def yL_allocate : MethodName := ⟨RL, "allocate", "(LGearbox;I[J)I"⟩
theorem dL_allocate_0 : decode cL_allocate 0 = .ok (.aload_n 2, 1) := by decide +kernel
theorem dL_allocate_1 : decode cL_allocate 1 = .ok (.iconst 0, 1) := by decide +kernel
theorem dL_allocate_2 : decode cL_allocate 2 = .ok (.aload_n 0, 1) := by decide +kernel
theorem dL_allocate_3 : decode cL_allocate 3 = .ok (.iload_n 1, 1) := by decide +kernel
theorem dL_allocate_4 : decode cL_allocate 4 = .ok (.invokevirtual 84, 3) := by decide +kernel
theorem dL_allocate_12 : decode cL_allocate 12 = .ok (.astore_n 3, 1) := by decide +kernel
theorem dL_allocate_13 : decode cL_allocate 13 = .ok (.iconst 1, 1) := by decide +kernel
theorem dL_allocate_14 : decode cL_allocate 14 = .ok (.ireturn, 1) := by decide +kernel
theorem dL_allocate_15 : decode cL_allocate 15 = .ok (.astore_n 3, 1) := by decide +kernel
theorem dL_allocate_16 : decode cL_allocate 16 = .ok (.iconst 2, 1) := by decide +kernel
theorem dL_allocate_17 : decode cL_allocate 17 = .ok (.ireturn, 1) := by decide +kernel
theorem dL_blockOf_0 : decode cL_blockOf 0 = .ok (.aload_n 3, 1) := by decide +kernel
theorem dL_blockOf_1 : decode cL_blockOf 1 = .ok (.iconst 0, 1) := by decide +kernel
theorem dL_blockOf_2 : decode cL_blockOf 2 = .ok (.aload_n 0, 1) := by decide +kernel
theorem dL_blockOf_3 : decode cL_blockOf 3 = .ok (.iload_n 1, 1) := by decide +kernel
theorem dL_blockOf_4 : decode cL_blockOf 4 = .ok (.iload_n 2, 1) := by decide +kernel
theorem dL_blockOf_5 : decode cL_blockOf 5 = .ok (.invokevirtual 32, 3) := by decide +kernel
theorem dL_blockOf_13 : decode cL_blockOf 13 = .ok (.astore 4, 2) := by decide +kernel
theorem dL_blockOf_15 : decode cL_blockOf 15 = .ok (.iconst 1, 1) := by decide +kernel
theorem dL_blockOf_16 : decode cL_blockOf 16 = .ok (.ireturn, 1) := by decide +kernel
theorem dL_blocks_0 : decode cL_blocks 0 = .ok (.aload_n 2, 1) := by decide +kernel
theorem dL_blocks_1 : decode cL_blocks 1 = .ok (.iconst 0, 1) := by decide +kernel
theorem dL_blocks_2 : decode cL_blocks 2 = .ok (.aload_n 0, 1) := by decide +kernel
theorem dL_blocks_3 : decode cL_blocks 3 = .ok (.iload_n 1, 1) := by decide +kernel
theorem dL_blocks_4 : decode cL_blocks 4 = .ok (.invokevirtual 26, 3) := by decide +kernel
theorem dL_blocks_12 : decode cL_blocks 12 = .ok (.astore_n 3, 1) := by decide +kernel
theorem dL_blocks_13 : decode cL_blocks 13 = .ok (.iconst 1, 1) := by decide +kernel
theorem dL_blocks_14 : decode cL_blocks 14 = .ok (.ireturn, 1) := by decide +kernel
theorem dL_codeGives_0 : decode cL_codeGives 0 = .ok (.aload_n 3, 1) := by decide +kernel
theorem dL_codeGives_1 : decode cL_codeGives 1 = .ok (.iconst 0, 1) := by decide +kernel
theorem dL_codeGives_2 : decode cL_codeGives 2 = .ok (.aload_n 0, 1) := by decide +kernel
theorem dL_codeGives_3 : decode cL_codeGives 3 = .ok (.iload_n 1, 1) := by decide +kernel
theorem dL_codeGives_4 : decode cL_codeGives 4 = .ok (.iload_n 2, 1) := by decide +kernel
theorem dL_codeGives_5 : decode cL_codeGives 5 = .ok (.invokevirtual 93, 3) := by decide +kernel
theorem dL_codeGives_13 : decode cL_codeGives 13 = .ok (.astore 4, 2) := by decide +kernel
theorem dL_codeGives_15 : decode cL_codeGives 15 = .ok (.iconst 1, 1) := by decide +kernel
theorem dL_codeGives_16 : decode cL_codeGives 16 = .ok (.ireturn, 1) := by decide +kernel
theorem dL_codeKind_0 : decode cL_codeKind 0 = .ok (.aload_n 3, 1) := by decide +kernel
theorem dL_codeKind_1 : decode cL_codeKind 1 = .ok (.iconst 0, 1) := by decide +kernel
theorem dL_codeKind_2 : decode cL_codeKind 2 = .ok (.aload_n 0, 1) := by decide +kernel
theorem dL_codeKind_3 : decode cL_codeKind 3 = .ok (.iload_n 1, 1) := by decide +kernel
theorem dL_codeKind_4 : decode cL_codeKind 4 = .ok (.iload_n 2, 1) := by decide +kernel
theorem dL_codeKind_5 : decode cL_codeKind 5 = .ok (.invokevirtual 90, 3) := by decide +kernel
theorem dL_codeKind_13 : decode cL_codeKind 13 = .ok (.astore 4, 2) := by decide +kernel
theorem dL_codeKind_15 : decode cL_codeKind 15 = .ok (.iconst 1, 1) := by decide +kernel
theorem dL_codeKind_16 : decode cL_codeKind 16 = .ok (.ireturn, 1) := by decide +kernel
theorem dL_codeLeft_0 : decode cL_codeLeft 0 = .ok (.aload_n 3, 1) := by decide +kernel
theorem dL_codeLeft_1 : decode cL_codeLeft 1 = .ok (.iconst 0, 1) := by decide +kernel
theorem dL_codeLeft_2 : decode cL_codeLeft 2 = .ok (.aload_n 0, 1) := by decide +kernel
theorem dL_codeLeft_3 : decode cL_codeLeft 3 = .ok (.iload_n 1, 1) := by decide +kernel
theorem dL_codeLeft_4 : decode cL_codeLeft 4 = .ok (.iload_n 2, 1) := by decide +kernel
theorem dL_codeLeft_5 : decode cL_codeLeft 5 = .ok (.invokevirtual 96, 3) := by decide +kernel
theorem dL_codeLeft_13 : decode cL_codeLeft 13 = .ok (.astore 4, 2) := by decide +kernel
theorem dL_codeLeft_15 : decode cL_codeLeft 15 = .ok (.iconst 1, 1) := by decide +kernel
theorem dL_codeLeft_16 : decode cL_codeLeft 16 = .ok (.ireturn, 1) := by decide +kernel
theorem dL_codeRight_0 : decode cL_codeRight 0 = .ok (.aload_n 3, 1) := by decide +kernel
theorem dL_codeRight_1 : decode cL_codeRight 1 = .ok (.iconst 0, 1) := by decide +kernel
theorem dL_codeRight_2 : decode cL_codeRight 2 = .ok (.aload_n 0, 1) := by decide +kernel
theorem dL_codeRight_3 : decode cL_codeRight 3 = .ok (.iload_n 1, 1) := by decide +kernel
theorem dL_codeRight_4 : decode cL_codeRight 4 = .ok (.iload_n 2, 1) := by decide +kernel
theorem dL_codeRight_5 : decode cL_codeRight 5 = .ok (.invokevirtual 99, 3) := by decide +kernel
theorem dL_codeRight_13 : decode cL_codeRight 13 = .ok (.astore 4, 2) := by decide +kernel
theorem dL_codeRight_15 : decode cL_codeRight 15 = .ok (.iconst 1, 1) := by decide +kernel
theorem dL_codeRight_16 : decode cL_codeRight 16 = .ok (.ireturn, 1) := by decide +kernel
theorem dL_depthOf_0 : decode cL_depthOf 0 = .ok (.aload_n 3, 1) := by decide +kernel
theorem dL_depthOf_1 : decode cL_depthOf 1 = .ok (.iconst 0, 1) := by decide +kernel
theorem dL_depthOf_2 : decode cL_depthOf 2 = .ok (.aload_n 0, 1) := by decide +kernel
theorem dL_depthOf_3 : decode cL_depthOf 3 = .ok (.iload_n 1, 1) := by decide +kernel
theorem dL_depthOf_4 : decode cL_depthOf 4 = .ok (.iload_n 2, 1) := by decide +kernel
theorem dL_depthOf_5 : decode cL_depthOf 5 = .ok (.invokevirtual 39, 3) := by decide +kernel
theorem dL_depthOf_13 : decode cL_depthOf 13 = .ok (.astore 4, 2) := by decide +kernel
theorem dL_depthOf_15 : decode cL_depthOf 15 = .ok (.iconst 1, 1) := by decide +kernel
theorem dL_depthOf_16 : decode cL_depthOf 16 = .ok (.ireturn, 1) := by decide +kernel
theorem dL_differences_0 : decode cL_differences 0 = .ok (.aload 4, 2) := by decide +kernel
theorem dL_differences_2 : decode cL_differences 2 = .ok (.iconst 0, 1) := by decide +kernel
theorem dL_differences_3 : decode cL_differences 3 = .ok (.aload_n 0, 1) := by decide +kernel
theorem dL_differences_4 : decode cL_differences 4 = .ok (.iload_n 1, 1) := by decide +kernel
theorem dL_differences_5 : decode cL_differences 5 = .ok (.iload_n 2, 1) := by decide +kernel
theorem dL_differences_6 : decode cL_differences 6 = .ok (.iload_n 3, 1) := by decide +kernel
theorem dL_differences_7 : decode cL_differences 7 = .ok (.invokevirtual 118, 3) := by decide +kernel
theorem dL_differences_15 : decode cL_differences 15 = .ok (.astore 5, 2) := by decide +kernel
theorem dL_differences_17 : decode cL_differences 17 = .ok (.iconst 1, 1) := by decide +kernel
theorem dL_differences_18 : decode cL_differences 18 = .ok (.ireturn, 1) := by decide +kernel
theorem dL_dominatorOf_0 : decode cL_dominatorOf 0 = .ok (.aload_n 3, 1) := by decide +kernel
theorem dL_dominatorOf_1 : decode cL_dominatorOf 1 = .ok (.iconst 0, 1) := by decide +kernel
theorem dL_dominatorOf_2 : decode cL_dominatorOf 2 = .ok (.aload_n 0, 1) := by decide +kernel
theorem dL_dominatorOf_3 : decode cL_dominatorOf 3 = .ok (.iload_n 1, 1) := by decide +kernel
theorem dL_dominatorOf_4 : decode cL_dominatorOf 4 = .ok (.iload_n 2, 1) := by decide +kernel
theorem dL_dominatorOf_5 : decode cL_dominatorOf 5 = .ok (.invokevirtual 36, 3) := by decide +kernel
theorem dL_dominatorOf_13 : decode cL_dominatorOf 13 = .ok (.astore 4, 2) := by decide +kernel
theorem dL_dominatorOf_15 : decode cL_dominatorOf 15 = .ok (.iconst 1, 1) := by decide +kernel
theorem dL_dominatorOf_16 : decode cL_dominatorOf 16 = .ok (.ireturn, 1) := by decide +kernel
theorem dL_endOf_0 : decode cL_endOf 0 = .ok (.aload_n 3, 1) := by decide +kernel
theorem dL_endOf_1 : decode cL_endOf 1 = .ok (.iconst 0, 1) := by decide +kernel
theorem dL_endOf_2 : decode cL_endOf 2 = .ok (.aload_n 0, 1) := by decide +kernel
theorem dL_endOf_3 : decode cL_endOf 3 = .ok (.iload_n 1, 1) := by decide +kernel
theorem dL_endOf_4 : decode cL_endOf 4 = .ok (.iload_n 2, 1) := by decide +kernel
theorem dL_endOf_5 : decode cL_endOf 5 = .ok (.invokevirtual 49, 3) := by decide +kernel
theorem dL_endOf_13 : decode cL_endOf 13 = .ok (.astore 4, 2) := by decide +kernel
theorem dL_endOf_15 : decode cL_endOf 15 = .ok (.iconst 1, 1) := by decide +kernel
theorem dL_endOf_16 : decode cL_endOf 16 = .ok (.ireturn, 1) := by decide +kernel
theorem dL_endValue_0 : decode cL_endValue 0 = .ok (.aload_n 3, 1) := by decide +kernel
theorem dL_endValue_1 : decode cL_endValue 1 = .ok (.iconst 0, 1) := by decide +kernel
theorem dL_endValue_2 : decode cL_endValue 2 = .ok (.aload_n 0, 1) := by decide +kernel
theorem dL_endValue_3 : decode cL_endValue 3 = .ok (.iload_n 1, 1) := by decide +kernel
theorem dL_endValue_4 : decode cL_endValue 4 = .ok (.iload_n 2, 1) := by decide +kernel
theorem dL_endValue_5 : decode cL_endValue 5 = .ok (.invokevirtual 56, 3) := by decide +kernel
theorem dL_endValue_13 : decode cL_endValue 13 = .ok (.astore 4, 2) := by decide +kernel
theorem dL_endValue_15 : decode cL_endValue 15 = .ok (.iconst 1, 1) := by decide +kernel
theorem dL_endValue_16 : decode cL_endValue 16 = .ok (.ireturn, 1) := by decide +kernel
theorem dL_feed_0 : decode cL_feed 0 = .ok (.aload 6, 2) := by decide +kernel
theorem dL_feed_2 : decode cL_feed 2 = .ok (.iconst 0, 1) := by decide +kernel
theorem dL_feed_3 : decode cL_feed 3 = .ok (.aload_n 0, 1) := by decide +kernel
theorem dL_feed_4 : decode cL_feed 4 = .ok (.iload_n 1, 1) := by decide +kernel
theorem dL_feed_5 : decode cL_feed 5 = .ok (.iload_n 2, 1) := by decide +kernel
theorem dL_feed_6 : decode cL_feed 6 = .ok (.iload_n 3, 1) := by decide +kernel
theorem dL_feed_7 : decode cL_feed 7 = .ok (.iload 4, 2) := by decide +kernel
theorem dL_feed_9 : decode cL_feed 9 = .ok (.iload 5, 2) := by decide +kernel
theorem dL_feed_11 : decode cL_feed 11 = .ok (.invokevirtual 7, 3) := by decide +kernel
theorem dL_feed_14 : decode cL_feed 14 = .ok (.i2l, 1) := by decide +kernel
theorem dL_feed_15 : decode cL_feed 15 = .ok (.lastore, 1) := by decide +kernel
theorem dL_feed_16 : decode cL_feed 16 = .ok (.goto 7, 3) := by decide +kernel
theorem dL_feed_23 : decode cL_feed 23 = .ok (.iconst 0, 1) := by decide +kernel
theorem dL_feed_24 : decode cL_feed 24 = .ok (.ireturn, 1) := by decide +kernel
theorem dL_gives_0 : decode cL_gives 0 = .ok (.aload 4, 2) := by decide +kernel
theorem dL_gives_2 : decode cL_gives 2 = .ok (.iconst 0, 1) := by decide +kernel
theorem dL_gives_3 : decode cL_gives 3 = .ok (.aload_n 0, 1) := by decide +kernel
theorem dL_gives_4 : decode cL_gives 4 = .ok (.iload_n 1, 1) := by decide +kernel
theorem dL_gives_5 : decode cL_gives 5 = .ok (.iload_n 2, 1) := by decide +kernel
theorem dL_gives_6 : decode cL_gives 6 = .ok (.iload_n 3, 1) := by decide +kernel
theorem dL_gives_7 : decode cL_gives 7 = .ok (.invokevirtual 75, 3) := by decide +kernel
theorem dL_gives_15 : decode cL_gives 15 = .ok (.astore 5, 2) := by decide +kernel
theorem dL_gives_17 : decode cL_gives 17 = .ok (.iconst 1, 1) := by decide +kernel
theorem dL_gives_18 : decode cL_gives 18 = .ok (.ireturn, 1) := by decide +kernel
theorem dL_kindOf_0 : decode cL_kindOf 0 = .ok (.aload 4, 2) := by decide +kernel
theorem dL_kindOf_2 : decode cL_kindOf 2 = .ok (.iconst 0, 1) := by decide +kernel
theorem dL_kindOf_3 : decode cL_kindOf 3 = .ok (.aload_n 0, 1) := by decide +kernel
theorem dL_kindOf_4 : decode cL_kindOf 4 = .ok (.iload_n 1, 1) := by decide +kernel
theorem dL_kindOf_5 : decode cL_kindOf 5 = .ok (.iload_n 2, 1) := by decide +kernel
theorem dL_kindOf_6 : decode cL_kindOf 6 = .ok (.iload_n 3, 1) := by decide +kernel
theorem dL_kindOf_7 : decode cL_kindOf 7 = .ok (.invokevirtual 72, 3) := by decide +kernel
theorem dL_kindOf_15 : decode cL_kindOf 15 = .ok (.astore 5, 2) := by decide +kernel
theorem dL_kindOf_17 : decode cL_kindOf 17 = .ok (.iconst 1, 1) := by decide +kernel
theorem dL_kindOf_18 : decode cL_kindOf 18 = .ok (.ireturn, 1) := by decide +kernel
theorem dL_leftOf_0 : decode cL_leftOf 0 = .ok (.aload 4, 2) := by decide +kernel
theorem dL_leftOf_2 : decode cL_leftOf 2 = .ok (.iconst 0, 1) := by decide +kernel
theorem dL_leftOf_3 : decode cL_leftOf 3 = .ok (.aload_n 0, 1) := by decide +kernel
theorem dL_leftOf_4 : decode cL_leftOf 4 = .ok (.iload_n 1, 1) := by decide +kernel
theorem dL_leftOf_5 : decode cL_leftOf 5 = .ok (.iload_n 2, 1) := by decide +kernel
theorem dL_leftOf_6 : decode cL_leftOf 6 = .ok (.iload_n 3, 1) := by decide +kernel
theorem dL_leftOf_7 : decode cL_leftOf 7 = .ok (.invokevirtual 78, 3) := by decide +kernel
theorem dL_leftOf_15 : decode cL_leftOf 15 = .ok (.astore 5, 2) := by decide +kernel
theorem dL_leftOf_17 : decode cL_leftOf 17 = .ok (.iconst 1, 1) := by decide +kernel
theorem dL_leftOf_18 : decode cL_leftOf 18 = .ok (.ireturn, 1) := by decide +kernel
theorem dL_lines_0 : decode cL_lines 0 = .ok (.aload_n 2, 1) := by decide +kernel
theorem dL_lines_1 : decode cL_lines 1 = .ok (.iconst 0, 1) := by decide +kernel
theorem dL_lines_2 : decode cL_lines 2 = .ok (.aload_n 0, 1) := by decide +kernel
theorem dL_lines_3 : decode cL_lines 3 = .ok (.iload_n 1, 1) := by decide +kernel
theorem dL_lines_4 : decode cL_lines 4 = .ok (.invokevirtual 87, 3) := by decide +kernel
theorem dL_lines_12 : decode cL_lines 12 = .ok (.astore_n 3, 1) := by decide +kernel
theorem dL_lines_13 : decode cL_lines 13 = .ok (.iconst 1, 1) := by decide +kernel
theorem dL_lines_14 : decode cL_lines 14 = .ok (.ireturn, 1) := by decide +kernel
theorem dL_parametersOf_0 : decode cL_parametersOf 0 = .ok (.aload_n 2, 1) := by decide +kernel
theorem dL_parametersOf_1 : decode cL_parametersOf 1 = .ok (.iconst 0, 1) := by decide +kernel
theorem dL_parametersOf_2 : decode cL_parametersOf 2 = .ok (.aload_n 0, 1) := by decide +kernel
theorem dL_parametersOf_3 : decode cL_parametersOf 3 = .ok (.iload_n 1, 1) := by decide +kernel
theorem dL_parametersOf_4 : decode cL_parametersOf 4 = .ok (.invokevirtual 21, 3) := by decide +kernel
theorem dL_parametersOf_12 : decode cL_parametersOf 12 = .ok (.astore_n 3, 1) := by decide +kernel
theorem dL_parametersOf_13 : decode cL_parametersOf 13 = .ok (.iconst 1, 1) := by decide +kernel
theorem dL_parametersOf_14 : decode cL_parametersOf 14 = .ok (.ireturn, 1) := by decide +kernel
theorem dL_phiGives_0 : decode cL_phiGives 0 = .ok (.aload 4, 2) := by decide +kernel
theorem dL_phiGives_2 : decode cL_phiGives 2 = .ok (.iconst 0, 1) := by decide +kernel
theorem dL_phiGives_3 : decode cL_phiGives 3 = .ok (.aload_n 0, 1) := by decide +kernel
theorem dL_phiGives_4 : decode cL_phiGives 4 = .ok (.iload_n 1, 1) := by decide +kernel
theorem dL_phiGives_5 : decode cL_phiGives 5 = .ok (.iload_n 2, 1) := by decide +kernel
theorem dL_phiGives_6 : decode cL_phiGives 6 = .ok (.iload_n 3, 1) := by decide +kernel
theorem dL_phiGives_7 : decode cL_phiGives 7 = .ok (.invokevirtual 62, 3) := by decide +kernel
theorem dL_phiGives_15 : decode cL_phiGives 15 = .ok (.astore 5, 2) := by decide +kernel
theorem dL_phiGives_17 : decode cL_phiGives 17 = .ok (.iconst 1, 1) := by decide +kernel
theorem dL_phiGives_18 : decode cL_phiGives 18 = .ok (.ireturn, 1) := by decide +kernel
theorem dL_phiTakes_0 : decode cL_phiTakes 0 = .ok (.aload 5, 2) := by decide +kernel
theorem dL_phiTakes_2 : decode cL_phiTakes 2 = .ok (.iconst 0, 1) := by decide +kernel
theorem dL_phiTakes_3 : decode cL_phiTakes 3 = .ok (.aload_n 0, 1) := by decide +kernel
theorem dL_phiTakes_4 : decode cL_phiTakes 4 = .ok (.iload_n 1, 1) := by decide +kernel
theorem dL_phiTakes_5 : decode cL_phiTakes 5 = .ok (.iload_n 2, 1) := by decide +kernel
theorem dL_phiTakes_6 : decode cL_phiTakes 6 = .ok (.iload_n 3, 1) := by decide +kernel
theorem dL_phiTakes_7 : decode cL_phiTakes 7 = .ok (.iload 4, 2) := by decide +kernel
theorem dL_phiTakes_9 : decode cL_phiTakes 9 = .ok (.invokevirtual 65, 3) := by decide +kernel
theorem dL_phiTakes_17 : decode cL_phiTakes 17 = .ok (.astore 6, 2) := by decide +kernel
theorem dL_phiTakes_19 : decode cL_phiTakes 19 = .ok (.iconst 1, 1) := by decide +kernel
theorem dL_phiTakes_20 : decode cL_phiTakes 20 = .ok (.ireturn, 1) := by decide +kernel
theorem dL_phis_0 : decode cL_phis 0 = .ok (.aload_n 3, 1) := by decide +kernel
theorem dL_phis_1 : decode cL_phis 1 = .ok (.iconst 0, 1) := by decide +kernel
theorem dL_phis_2 : decode cL_phis 2 = .ok (.aload_n 0, 1) := by decide +kernel
theorem dL_phis_3 : decode cL_phis 3 = .ok (.iload_n 1, 1) := by decide +kernel
theorem dL_phis_4 : decode cL_phis 4 = .ok (.iload_n 2, 1) := by decide +kernel
theorem dL_phis_5 : decode cL_phis 5 = .ok (.invokevirtual 59, 3) := by decide +kernel
theorem dL_phis_13 : decode cL_phis 13 = .ok (.astore 4, 2) := by decide +kernel
theorem dL_phis_15 : decode cL_phis 15 = .ok (.iconst 1, 1) := by decide +kernel
theorem dL_phis_16 : decode cL_phis 16 = .ok (.ireturn, 1) := by decide +kernel
theorem dL_predecessor_0 : decode cL_predecessor 0 = .ok (.aload 4, 2) := by decide +kernel
theorem dL_predecessor_2 : decode cL_predecessor 2 = .ok (.iconst 0, 1) := by decide +kernel
theorem dL_predecessor_3 : decode cL_predecessor 3 = .ok (.aload_n 0, 1) := by decide +kernel
theorem dL_predecessor_4 : decode cL_predecessor 4 = .ok (.iload_n 1, 1) := by decide +kernel
theorem dL_predecessor_5 : decode cL_predecessor 5 = .ok (.iload_n 2, 1) := by decide +kernel
theorem dL_predecessor_6 : decode cL_predecessor 6 = .ok (.iload_n 3, 1) := by decide +kernel
theorem dL_predecessor_7 : decode cL_predecessor 7 = .ok (.invokevirtual 45, 3) := by decide +kernel
theorem dL_predecessor_15 : decode cL_predecessor 15 = .ok (.astore 5, 2) := by decide +kernel
theorem dL_predecessor_17 : decode cL_predecessor 17 = .ok (.iconst 1, 1) := by decide +kernel
theorem dL_predecessor_18 : decode cL_predecessor 18 = .ok (.ireturn, 1) := by decide +kernel
theorem dL_predecessors_0 : decode cL_predecessors 0 = .ok (.aload_n 3, 1) := by decide +kernel
theorem dL_predecessors_1 : decode cL_predecessors 1 = .ok (.iconst 0, 1) := by decide +kernel
theorem dL_predecessors_2 : decode cL_predecessors 2 = .ok (.aload_n 0, 1) := by decide +kernel
theorem dL_predecessors_3 : decode cL_predecessors 3 = .ok (.iload_n 1, 1) := by decide +kernel
theorem dL_predecessors_4 : decode cL_predecessors 4 = .ok (.iload_n 2, 1) := by decide +kernel
theorem dL_predecessors_5 : decode cL_predecessors 5 = .ok (.invokevirtual 42, 3) := by decide +kernel
theorem dL_predecessors_13 : decode cL_predecessors 13 = .ok (.astore 4, 2) := by decide +kernel
theorem dL_predecessors_15 : decode cL_predecessors 15 = .ok (.iconst 1, 1) := by decide +kernel
theorem dL_predecessors_16 : decode cL_predecessors 16 = .ok (.ireturn, 1) := by decide +kernel
theorem dL_rightOf_0 : decode cL_rightOf 0 = .ok (.aload 4, 2) := by decide +kernel
theorem dL_rightOf_2 : decode cL_rightOf 2 = .ok (.iconst 0, 1) := by decide +kernel
theorem dL_rightOf_3 : decode cL_rightOf 3 = .ok (.aload_n 0, 1) := by decide +kernel
theorem dL_rightOf_4 : decode cL_rightOf 4 = .ok (.iload_n 1, 1) := by decide +kernel
theorem dL_rightOf_5 : decode cL_rightOf 5 = .ok (.iload_n 2, 1) := by decide +kernel
theorem dL_rightOf_6 : decode cL_rightOf 6 = .ok (.iload_n 3, 1) := by decide +kernel
theorem dL_rightOf_7 : decode cL_rightOf 7 = .ok (.invokevirtual 81, 3) := by decide +kernel
theorem dL_rightOf_15 : decode cL_rightOf 15 = .ok (.astore 5, 2) := by decide +kernel
theorem dL_rightOf_17 : decode cL_rightOf 17 = .ok (.iconst 1, 1) := by decide +kernel
theorem dL_rightOf_18 : decode cL_rightOf 18 = .ok (.ireturn, 1) := by decide +kernel
theorem dL_rounds_0 : decode cL_rounds 0 = .ok (.aload_n 2, 1) := by decide +kernel
theorem dL_rounds_1 : decode cL_rounds 1 = .ok (.iconst 0, 1) := by decide +kernel
theorem dL_rounds_2 : decode cL_rounds 2 = .ok (.aload_n 0, 1) := by decide +kernel
theorem dL_rounds_3 : decode cL_rounds 3 = .ok (.iload_n 1, 1) := by decide +kernel
theorem dL_rounds_4 : decode cL_rounds 4 = .ok (.invokevirtual 108, 3) := by decide +kernel
theorem dL_rounds_12 : decode cL_rounds 12 = .ok (.astore_n 3, 1) := by decide +kernel
theorem dL_rounds_13 : decode cL_rounds 13 = .ok (.iconst 1, 1) := by decide +kernel
theorem dL_rounds_14 : decode cL_rounds 14 = .ok (.ireturn, 1) := by decide +kernel
theorem dL_run_0 : decode cL_run 0 = .ok (.aload 7, 2) := by decide +kernel
theorem dL_run_2 : decode cL_run 2 = .ok (.iconst 0, 1) := by decide +kernel
theorem dL_run_3 : decode cL_run 3 = .ok (.aload_n 0, 1) := by decide +kernel
theorem dL_run_4 : decode cL_run 4 = .ok (.iload_n 1, 1) := by decide +kernel
theorem dL_run_5 : decode cL_run 5 = .ok (.iload_n 2, 1) := by decide +kernel
theorem dL_run_6 : decode cL_run 6 = .ok (.iload_n 3, 1) := by decide +kernel
theorem dL_run_7 : decode cL_run 7 = .ok (.iload 4, 2) := by decide +kernel
theorem dL_run_9 : decode cL_run 9 = .ok (.iload 5, 2) := by decide +kernel
theorem dL_run_11 : decode cL_run 11 = .ok (.iload 6, 2) := by decide +kernel
theorem dL_run_13 : decode cL_run 13 = .ok (.invokevirtual 111, 3) := by decide +kernel
theorem dL_run_21 : decode cL_run 21 = .ok (.astore 8, 2) := by decide +kernel
theorem dL_run_23 : decode cL_run 23 = .ok (.iconst 1, 1) := by decide +kernel
theorem dL_run_24 : decode cL_run 24 = .ok (.ireturn, 1) := by decide +kernel
theorem dL_slots_0 : decode cL_slots 0 = .ok (.aload_n 2, 1) := by decide +kernel
theorem dL_slots_1 : decode cL_slots 1 = .ok (.iconst 0, 1) := by decide +kernel
theorem dL_slots_2 : decode cL_slots 2 = .ok (.aload_n 0, 1) := by decide +kernel
theorem dL_slots_3 : decode cL_slots 3 = .ok (.iload_n 1, 1) := by decide +kernel
theorem dL_slots_4 : decode cL_slots 4 = .ok (.invokevirtual 102, 3) := by decide +kernel
theorem dL_slots_12 : decode cL_slots 12 = .ok (.astore_n 3, 1) := by decide +kernel
theorem dL_slots_13 : decode cL_slots 13 = .ok (.iconst 1, 1) := by decide +kernel
theorem dL_slots_14 : decode cL_slots 14 = .ok (.ireturn, 1) := by decide +kernel
theorem dL_steps_0 : decode cL_steps 0 = .ok (.aload_n 3, 1) := by decide +kernel
theorem dL_steps_1 : decode cL_steps 1 = .ok (.iconst 0, 1) := by decide +kernel
theorem dL_steps_2 : decode cL_steps 2 = .ok (.aload_n 0, 1) := by decide +kernel
theorem dL_steps_3 : decode cL_steps 3 = .ok (.iload_n 1, 1) := by decide +kernel
theorem dL_steps_4 : decode cL_steps 4 = .ok (.iload_n 2, 1) := by decide +kernel
theorem dL_steps_5 : decode cL_steps 5 = .ok (.invokevirtual 69, 3) := by decide +kernel
theorem dL_steps_13 : decode cL_steps 13 = .ok (.astore 4, 2) := by decide +kernel
theorem dL_steps_15 : decode cL_steps 15 = .ok (.iconst 1, 1) := by decide +kernel
theorem dL_steps_16 : decode cL_steps 16 = .ok (.ireturn, 1) := by decide +kernel
theorem dL_successor_0 : decode cL_successor 0 = .ok (.aload 4, 2) := by decide +kernel
theorem dL_successor_2 : decode cL_successor 2 = .ok (.iconst 0, 1) := by decide +kernel
theorem dL_successor_3 : decode cL_successor 3 = .ok (.aload_n 0, 1) := by decide +kernel
theorem dL_successor_4 : decode cL_successor 4 = .ok (.iload_n 1, 1) := by decide +kernel
theorem dL_successor_5 : decode cL_successor 5 = .ok (.iload_n 2, 1) := by decide +kernel
theorem dL_successor_6 : decode cL_successor 6 = .ok (.iload_n 3, 1) := by decide +kernel
theorem dL_successor_7 : decode cL_successor 7 = .ok (.invokevirtual 52, 3) := by decide +kernel
theorem dL_successor_15 : decode cL_successor 15 = .ok (.astore 5, 2) := by decide +kernel
theorem dL_successor_17 : decode cL_successor 17 = .ok (.iconst 1, 1) := by decide +kernel
theorem dL_successor_18 : decode cL_successor 18 = .ok (.ireturn, 1) := by decide +kernel
theorem dL_trim_0 : decode cL_trim 0 = .ok (.aload_n 2, 1) := by decide +kernel
theorem dL_trim_1 : decode cL_trim 1 = .ok (.iconst 0, 1) := by decide +kernel
theorem dL_trim_2 : decode cL_trim 2 = .ok (.aload_n 0, 1) := by decide +kernel
theorem dL_trim_3 : decode cL_trim 3 = .ok (.iload_n 1, 1) := by decide +kernel
theorem dL_trim_4 : decode cL_trim 4 = .ok (.invokevirtual 15, 3) := by decide +kernel
theorem dL_trim_7 : decode cL_trim 7 = .ok (.i2l, 1) := by decide +kernel
theorem dL_trim_8 : decode cL_trim 8 = .ok (.lastore, 1) := by decide +kernel
theorem dL_trim_9 : decode cL_trim 9 = .ok (.goto 6, 3) := by decide +kernel
theorem dL_trim_12 : decode cL_trim 12 = .ok (.astore_n 3, 1) := by decide +kernel
theorem dL_trim_13 : decode cL_trim 13 = .ok (.iconst 1, 1) := by decide +kernel
theorem dL_trim_14 : decode cL_trim 14 = .ok (.ireturn, 1) := by decide +kernel
theorem dL_trim_15 : decode cL_trim 15 = .ok (.iconst 0, 1) := by decide +kernel
theorem dL_trim_16 : decode cL_trim 16 = .ok (.ireturn, 1) := by decide +kernel
theorem dL_united_0 : decode cL_united 0 = .ok (.aload_n 2, 1) := by decide +kernel
theorem dL_united_1 : decode cL_united 1 = .ok (.iconst 0, 1) := by decide +kernel
theorem dL_united_2 : decode cL_united 2 = .ok (.aload_n 0, 1) := by decide +kernel
theorem dL_united_3 : decode cL_united 3 = .ok (.iload_n 1, 1) := by decide +kernel
theorem dL_united_4 : decode cL_united 4 = .ok (.invokevirtual 105, 3) := by decide +kernel
theorem dL_united_12 : decode cL_united 12 = .ok (.astore_n 3, 1) := by decide +kernel
theorem dL_united_13 : decode cL_united 13 = .ok (.iconst 1, 1) := by decide +kernel
theorem dL_united_14 : decode cL_united 14 = .ok (.ireturn, 1) := by decide +kernel
theorem dL_values_0 : decode cL_values 0 = .ok (.aload_n 2, 1) := by decide +kernel
theorem dL_values_1 : decode cL_values 1 = .ok (.iconst 0, 1) := by decide +kernel
theorem dL_values_2 : decode cL_values 2 = .ok (.aload_n 0, 1) := by decide +kernel
theorem dL_values_3 : decode cL_values 3 = .ok (.iload_n 1, 1) := by decide +kernel
theorem dL_values_4 : decode cL_values 4 = .ok (.invokevirtual 29, 3) := by decide +kernel
theorem dL_values_12 : decode cL_values 12 = .ok (.astore_n 3, 1) := by decide +kernel
theorem dL_values_13 : decode cL_values 13 = .ok (.iconst 1, 1) := by decide +kernel
theorem dL_values_14 : decode cL_values 14 = .ok (.ireturn, 1) := by decide +kernel
theorem dL_word_0 : decode cL_word 0 = .ok (.aload_n 2, 1) := by decide +kernel
theorem dL_word_1 : decode cL_word 1 = .ok (.iconst 0, 1) := by decide +kernel
theorem dL_word_2 : decode cL_word 2 = .ok (.aload_n 0, 1) := by decide +kernel
theorem dL_word_3 : decode cL_word 3 = .ok (.iload_n 1, 1) := by decide +kernel
theorem dL_word_4 : decode cL_word 4 = .ok (.invokevirtual 115, 3) := by decide +kernel
theorem dL_word_7 : decode cL_word 7 = .ok (.i2l, 1) := by decide +kernel
theorem dL_word_8 : decode cL_word 8 = .ok (.lastore, 1) := by decide +kernel
theorem dL_word_9 : decode cL_word 9 = .ok (.goto 6, 3) := by decide +kernel
theorem dL_word_12 : decode cL_word 12 = .ok (.astore_n 3, 1) := by decide +kernel
theorem dL_word_13 : decode cL_word 13 = .ok (.iconst 1, 1) := by decide +kernel
theorem dL_word_14 : decode cL_word 14 = .ok (.ireturn, 1) := by decide +kernel
theorem dL_word_15 : decode cL_word 15 = .ok (.iconst 0, 1) := by decide +kernel
theorem dL_word_16 : decode cL_word 16 = .ok (.ireturn, 1) := by decide +kernel
theorem qw477 : Cond.code yX11_feed cX11_feed 6 (Option.some Jvm.ClassFile.FieldType.int) ∈ gw := mq_8 (i := 232) rfl rfl
theorem qw478 : Cond.methodLink RL 7 yX11_feed ∈ gw := mq_8 (i := 229) rfl rfl
theorem qw479 : Cond.instanceMethod yX11_feed ∈ gw := mq_8 (i := 230) rfl rfl
theorem qw480 : Cond.selects RX11 yX11_feed yX11_feed ∈ gw := mq_8 (i := 231) rfl rfl
theorem qw481 : Cond.code yX11_trim cX11_trim 2 (Option.some Jvm.ClassFile.FieldType.int) ∈ gw := mq_9 (i := 20) rfl rfl
theorem qw482 : Cond.methodLink RL 15 yX11_trim ∈ gw := mq_9 (i := 17) rfl rfl
theorem qw483 : Cond.instanceMethod yX11_trim ∈ gw := mq_9 (i := 18) rfl rfl
theorem qw484 : Cond.selects RX11 yX11_trim yX11_trim ∈ gw := mq_9 (i := 19) rfl rfl
theorem qw485 : Cond.classLink RL 19 "java/lang/IllegalArgumentException" ∈ gw := mq_9 (i := 16) rfl rfl
theorem qw486 : Cond.code yX11_parametersOf cX11_parametersOf 2 (Option.some Jvm.ClassFile.FieldType.int) ∈ gw := mq_9 (i := 31) rfl rfl
theorem qw487 : Cond.methodLink RL 21 yX11_parametersOf ∈ gw := mq_9 (i := 28) rfl rfl
theorem qw488 : Cond.instanceMethod yX11_parametersOf ∈ gw := mq_9 (i := 29) rfl rfl
theorem qw489 : Cond.selects RX11 yX11_parametersOf yX11_parametersOf ∈ gw := mq_9 (i := 30) rfl rfl
theorem qw490 : Cond.classLink RL 24 "java/lang/IndexOutOfBoundsException" ∈ gw := mq_9 (i := 27) rfl rfl
theorem qw491 : Cond.code yX11_blocks cX11_blocks 2 (Option.some Jvm.ClassFile.FieldType.int) ∈ gw := mq_9 (i := 55) rfl rfl
theorem qw492 : Cond.methodLink RL 26 yX11_blocks ∈ gw := mq_9 (i := 52) rfl rfl
theorem qw493 : Cond.instanceMethod yX11_blocks ∈ gw := mq_9 (i := 53) rfl rfl
theorem qw494 : Cond.selects RX11 yX11_blocks yX11_blocks ∈ gw := mq_9 (i := 54) rfl rfl
theorem qw495 : Cond.code yX11_values cX11_values 2 (Option.some Jvm.ClassFile.FieldType.int) ∈ gw := mq_9 (i := 62) rfl rfl
theorem qw496 : Cond.methodLink RL 29 yX11_values ∈ gw := mq_9 (i := 59) rfl rfl
theorem qw497 : Cond.instanceMethod yX11_values ∈ gw := mq_9 (i := 60) rfl rfl
theorem qw498 : Cond.selects RX11 yX11_values yX11_values ∈ gw := mq_9 (i := 61) rfl rfl
theorem qw499 : Cond.code yX11_blockOf cX11_blockOf 3 (Option.some Jvm.ClassFile.FieldType.int) ∈ gw := mq_9 (i := 69) rfl rfl
theorem qw500 : Cond.methodLink RL 32 yX11_blockOf ∈ gw := mq_9 (i := 66) rfl rfl
theorem qw501 : Cond.instanceMethod yX11_blockOf ∈ gw := mq_9 (i := 67) rfl rfl
theorem qw502 : Cond.selects RX11 yX11_blockOf yX11_blockOf ∈ gw := mq_9 (i := 68) rfl rfl
theorem qw503 : Cond.code yX11_dominatorOf cX11_dominatorOf 3 (Option.some Jvm.ClassFile.FieldType.int) ∈ gw := mq_9 (i := 80) rfl rfl
theorem qw504 : Cond.methodLink RL 36 yX11_dominatorOf ∈ gw := mq_9 (i := 77) rfl rfl
theorem qw505 : Cond.instanceMethod yX11_dominatorOf ∈ gw := mq_9 (i := 78) rfl rfl
theorem qw506 : Cond.selects RX11 yX11_dominatorOf yX11_dominatorOf ∈ gw := mq_9 (i := 79) rfl rfl
theorem qw507 : Cond.code yX11_depthOf cX11_depthOf 3 (Option.some Jvm.ClassFile.FieldType.int) ∈ gw := mq_9 (i := 96) rfl rfl
theorem qw508 : Cond.methodLink RL 39 yX11_depthOf ∈ gw := mq_9 (i := 93) rfl rfl
theorem qw509 : Cond.instanceMethod yX11_depthOf ∈ gw := mq_9 (i := 94) rfl rfl
theorem qw510 : Cond.selects RX11 yX11_depthOf yX11_depthOf ∈ gw := mq_9 (i := 95) rfl rfl
theorem qw511 : Cond.code yX11_predecessors cX11_predecessors 3 (Option.some Jvm.ClassFile.FieldType.int) ∈ gw := mq_9 (i := 103) rfl rfl
theorem qw512 : Cond.methodLink RL 42 yX11_predecessors ∈ gw := mq_9 (i := 100) rfl rfl
theorem qw513 : Cond.instanceMethod yX11_predecessors ∈ gw := mq_9 (i := 101) rfl rfl
theorem qw514 : Cond.selects RX11 yX11_predecessors yX11_predecessors ∈ gw := mq_9 (i := 102) rfl rfl
theorem qw515 : Cond.code yX11_predecessor cX11_predecessor 5 (Option.some Jvm.ClassFile.FieldType.int) ∈ gw := mq_9 (i := 110) rfl rfl
theorem qw516 : Cond.methodLink RL 45 yX11_predecessor ∈ gw := mq_9 (i := 107) rfl rfl
theorem qw517 : Cond.instanceMethod yX11_predecessor ∈ gw := mq_9 (i := 108) rfl rfl
theorem qw518 : Cond.selects RX11 yX11_predecessor yX11_predecessor ∈ gw := mq_9 (i := 109) rfl rfl
theorem qw519 : Cond.code yX11_endOf cX11_endOf 3 (Option.some Jvm.ClassFile.FieldType.int) ∈ gw := mq_9 (i := 117) rfl rfl
theorem qw520 : Cond.methodLink RL 49 yX11_endOf ∈ gw := mq_9 (i := 114) rfl rfl
theorem qw521 : Cond.instanceMethod yX11_endOf ∈ gw := mq_9 (i := 115) rfl rfl
theorem qw522 : Cond.selects RX11 yX11_endOf yX11_endOf ∈ gw := mq_9 (i := 116) rfl rfl
theorem qw523 : Cond.code yX11_successor cX11_successor 5 (Option.some Jvm.ClassFile.FieldType.int) ∈ gw := mq_9 (i := 124) rfl rfl
theorem qw524 : Cond.methodLink RL 52 yX11_successor ∈ gw := mq_9 (i := 121) rfl rfl
theorem qw525 : Cond.instanceMethod yX11_successor ∈ gw := mq_9 (i := 122) rfl rfl
theorem qw526 : Cond.selects RX11 yX11_successor yX11_successor ∈ gw := mq_9 (i := 123) rfl rfl
theorem qw527 : Cond.code yX11_endValue cX11_endValue 3 (Option.some Jvm.ClassFile.FieldType.int) ∈ gw := mq_9 (i := 131) rfl rfl
theorem qw528 : Cond.methodLink RL 56 yX11_endValue ∈ gw := mq_9 (i := 128) rfl rfl
theorem qw529 : Cond.instanceMethod yX11_endValue ∈ gw := mq_9 (i := 129) rfl rfl
theorem qw530 : Cond.selects RX11 yX11_endValue yX11_endValue ∈ gw := mq_9 (i := 130) rfl rfl
theorem qw531 : Cond.code yX11_phis cX11_phis 3 (Option.some Jvm.ClassFile.FieldType.int) ∈ gw := mq_9 (i := 138) rfl rfl
theorem qw532 : Cond.methodLink RL 59 yX11_phis ∈ gw := mq_9 (i := 135) rfl rfl
theorem qw533 : Cond.instanceMethod yX11_phis ∈ gw := mq_9 (i := 136) rfl rfl
theorem qw534 : Cond.selects RX11 yX11_phis yX11_phis ∈ gw := mq_9 (i := 137) rfl rfl
theorem qw535 : Cond.code yX11_phiGives cX11_phiGives 6 (Option.some Jvm.ClassFile.FieldType.int) ∈ gw := mq_9 (i := 145) rfl rfl
theorem qw536 : Cond.methodLink RL 62 yX11_phiGives ∈ gw := mq_9 (i := 142) rfl rfl
theorem qw537 : Cond.instanceMethod yX11_phiGives ∈ gw := mq_9 (i := 143) rfl rfl
theorem qw538 : Cond.selects RX11 yX11_phiGives yX11_phiGives ∈ gw := mq_9 (i := 144) rfl rfl
theorem qw539 : Cond.code yX11_phiTakes cX11_phiTakes 7 (Option.some Jvm.ClassFile.FieldType.int) ∈ gw := mq_9 (i := 161) rfl rfl
theorem qw540 : Cond.methodLink RL 65 yX11_phiTakes ∈ gw := mq_9 (i := 158) rfl rfl
theorem qw541 : Cond.instanceMethod yX11_phiTakes ∈ gw := mq_9 (i := 159) rfl rfl
theorem qw542 : Cond.selects RX11 yX11_phiTakes yX11_phiTakes ∈ gw := mq_9 (i := 160) rfl rfl
theorem qw543 : Cond.code yX11_steps cX11_steps 3 (Option.some Jvm.ClassFile.FieldType.int) ∈ gw := mq_9 (i := 168) rfl rfl
theorem qw544 : Cond.methodLink RL 69 yX11_steps ∈ gw := mq_9 (i := 165) rfl rfl
theorem qw545 : Cond.instanceMethod yX11_steps ∈ gw := mq_9 (i := 166) rfl rfl
theorem qw546 : Cond.selects RX11 yX11_steps yX11_steps ∈ gw := mq_9 (i := 167) rfl rfl
theorem qw547 : Cond.code yX11_kindOf cX11_kindOf 5 (Option.some Jvm.ClassFile.FieldType.int) ∈ gw := mq_9 (i := 175) rfl rfl
theorem qw548 : Cond.methodLink RL 72 yX11_kindOf ∈ gw := mq_9 (i := 172) rfl rfl
theorem qw549 : Cond.instanceMethod yX11_kindOf ∈ gw := mq_9 (i := 173) rfl rfl
theorem qw550 : Cond.selects RX11 yX11_kindOf yX11_kindOf ∈ gw := mq_9 (i := 174) rfl rfl
theorem qw551 : Cond.code yX11_gives cX11_gives 5 (Option.some Jvm.ClassFile.FieldType.int) ∈ gw := mq_9 (i := 190) rfl rfl
theorem qw552 : Cond.methodLink RL 75 yX11_gives ∈ gw := mq_9 (i := 187) rfl rfl
theorem qw553 : Cond.instanceMethod yX11_gives ∈ gw := mq_9 (i := 188) rfl rfl
theorem qw554 : Cond.selects RX11 yX11_gives yX11_gives ∈ gw := mq_9 (i := 189) rfl rfl
theorem qw555 : Cond.code yX11_leftOf cX11_leftOf 5 (Option.some Jvm.ClassFile.FieldType.int) ∈ gw := mq_9 (i := 197) rfl rfl
theorem qw556 : Cond.methodLink RL 78 yX11_leftOf ∈ gw := mq_9 (i := 194) rfl rfl
theorem qw557 : Cond.instanceMethod yX11_leftOf ∈ gw := mq_9 (i := 195) rfl rfl
theorem qw558 : Cond.selects RX11 yX11_leftOf yX11_leftOf ∈ gw := mq_9 (i := 196) rfl rfl
theorem qw559 : Cond.code yX11_rightOf cX11_rightOf 5 (Option.some Jvm.ClassFile.FieldType.int) ∈ gw := mq_9 (i := 204) rfl rfl
theorem qw560 : Cond.methodLink RL 81 yX11_rightOf ∈ gw := mq_9 (i := 201) rfl rfl
theorem qw561 : Cond.instanceMethod yX11_rightOf ∈ gw := mq_9 (i := 202) rfl rfl
theorem qw562 : Cond.selects RX11 yX11_rightOf yX11_rightOf ∈ gw := mq_9 (i := 203) rfl rfl
theorem qw563 : Cond.code yX11_lines cX11_lines 2 (Option.some Jvm.ClassFile.FieldType.int) ∈ gw := mq_10 (i := 202) rfl rfl
theorem qw564 : Cond.methodLink RL 87 yX11_lines ∈ gw := mq_10 (i := 199) rfl rfl
theorem qw565 : Cond.instanceMethod yX11_lines ∈ gw := mq_10 (i := 200) rfl rfl
theorem qw566 : Cond.selects RX11 yX11_lines yX11_lines ∈ gw := mq_10 (i := 201) rfl rfl
theorem qw567 : Cond.code yX11_codeKind cX11_codeKind 3 (Option.some Jvm.ClassFile.FieldType.int) ∈ gw := mq_10 (i := 209) rfl rfl
theorem qw568 : Cond.methodLink RL 90 yX11_codeKind ∈ gw := mq_10 (i := 206) rfl rfl
theorem qw569 : Cond.instanceMethod yX11_codeKind ∈ gw := mq_10 (i := 207) rfl rfl
theorem qw570 : Cond.selects RX11 yX11_codeKind yX11_codeKind ∈ gw := mq_10 (i := 208) rfl rfl
theorem qw571 : Cond.code yX11_codeGives cX11_codeGives 3 (Option.some Jvm.ClassFile.FieldType.int) ∈ gw := mq_10 (i := 220) rfl rfl
theorem qw572 : Cond.methodLink RL 93 yX11_codeGives ∈ gw := mq_10 (i := 217) rfl rfl
theorem qw573 : Cond.instanceMethod yX11_codeGives ∈ gw := mq_10 (i := 218) rfl rfl
theorem qw574 : Cond.selects RX11 yX11_codeGives yX11_codeGives ∈ gw := mq_10 (i := 219) rfl rfl
theorem qw575 : Cond.code yX11_codeLeft cX11_codeLeft 3 (Option.some Jvm.ClassFile.FieldType.int) ∈ gw := mq_10 (i := 227) rfl rfl
theorem qw576 : Cond.methodLink RL 96 yX11_codeLeft ∈ gw := mq_10 (i := 224) rfl rfl
theorem qw577 : Cond.instanceMethod yX11_codeLeft ∈ gw := mq_10 (i := 225) rfl rfl
theorem qw578 : Cond.selects RX11 yX11_codeLeft yX11_codeLeft ∈ gw := mq_10 (i := 226) rfl rfl
theorem qw579 : Cond.code yX11_codeRight cX11_codeRight 3 (Option.some Jvm.ClassFile.FieldType.int) ∈ gw := mq_10 (i := 234) rfl rfl
theorem qw580 : Cond.methodLink RL 99 yX11_codeRight ∈ gw := mq_10 (i := 231) rfl rfl
theorem qw581 : Cond.instanceMethod yX11_codeRight ∈ gw := mq_10 (i := 232) rfl rfl
theorem qw582 : Cond.selects RX11 yX11_codeRight yX11_codeRight ∈ gw := mq_10 (i := 233) rfl rfl
theorem qw583 : Cond.code yX11_slots cX11_slots 2 (Option.some Jvm.ClassFile.FieldType.int) ∈ gw := mq_11 (i := 1) rfl rfl
theorem qw584 : Cond.methodLink RL 102 yX11_slots ∈ gw := mq_10 (i := 238) rfl rfl
theorem qw585 : Cond.instanceMethod yX11_slots ∈ gw := mq_10 (i := 239) rfl rfl
theorem qw586 : Cond.selects RX11 yX11_slots yX11_slots ∈ gw := mq_11 (i := 0) rfl rfl
theorem qw587 : Cond.code yX11_united cX11_united 2 (Option.some Jvm.ClassFile.FieldType.int) ∈ gw := mq_11 (i := 8) rfl rfl
theorem qw588 : Cond.methodLink RL 105 yX11_united ∈ gw := mq_11 (i := 5) rfl rfl
theorem qw589 : Cond.instanceMethod yX11_united ∈ gw := mq_11 (i := 6) rfl rfl
theorem qw590 : Cond.selects RX11 yX11_united yX11_united ∈ gw := mq_11 (i := 7) rfl rfl
theorem qw591 : Cond.code yX11_rounds cX11_rounds 2 (Option.some Jvm.ClassFile.FieldType.int) ∈ gw := mq_11 (i := 15) rfl rfl
theorem qw592 : Cond.methodLink RL 108 yX11_rounds ∈ gw := mq_11 (i := 12) rfl rfl
theorem qw593 : Cond.instanceMethod yX11_rounds ∈ gw := mq_11 (i := 13) rfl rfl
theorem qw594 : Cond.selects RX11 yX11_rounds yX11_rounds ∈ gw := mq_11 (i := 14) rfl rfl
theorem qw595 : Cond.code yX11_run cX11_run 7 (Option.some Jvm.ClassFile.FieldType.int) ∈ gw := mq_11 (i := 22) rfl rfl
theorem qw596 : Cond.methodLink RL 111 yX11_run ∈ gw := mq_11 (i := 19) rfl rfl
theorem qw597 : Cond.instanceMethod yX11_run ∈ gw := mq_11 (i := 20) rfl rfl
theorem qw598 : Cond.selects RX11 yX11_run yX11_run ∈ gw := mq_11 (i := 21) rfl rfl
theorem qw599 : Cond.code yX11_differences cX11_differences 8 (Option.some Jvm.ClassFile.FieldType.int) ∈ gw := mq_11 (i := 139) rfl rfl
theorem qw600 : Cond.methodLink RL 118 yX11_differences ∈ gw := mq_11 (i := 136) rfl rfl
theorem qw601 : Cond.instanceMethod yX11_differences ∈ gw := mq_11 (i := 137) rfl rfl
theorem qw602 : Cond.selects RX11 yX11_differences yX11_differences ∈ gw := mq_11 (i := 138) rfl rfl
theorem qw603 : Cond.code yX11_word cX11_word 2 (Option.some Jvm.ClassFile.FieldType.int) ∈ gw := mq_11 (i := 132) rfl rfl
theorem qw604 : Cond.methodLink RL 115 yX11_word ∈ gw := mq_11 (i := 129) rfl rfl
theorem qw605 : Cond.instanceMethod yX11_word ∈ gw := mq_11 (i := 130) rfl rfl
theorem qw606 : Cond.selects RX11 yX11_word yX11_word ∈ gw := mq_11 (i := 131) rfl rfl
theorem qw607 : Cond.code yX11_allocate cX11_allocate 2 (Option.some Jvm.ClassFile.FieldType.int) ∈ gw := mq_9 (i := 211) rfl rfl
theorem qw608 : Cond.methodLink RL 84 yX11_allocate ∈ gw := mq_9 (i := 208) rfl rfl
theorem qw609 : Cond.instanceMethod yX11_allocate ∈ gw := mq_9 (i := 209) rfl rfl
theorem qw610 : Cond.selects RX11 yX11_allocate yX11_allocate ∈ gw := mq_9 (i := 210) rfl rfl
theorem qw611 : Cond.classLink RL 13 "java/lang/IllegalStateException" ∈ gw := mq_8 (i := 228) rfl rfl
set_option maxHeartbeats 4000000 in
set_option maxRecDepth 100000 in
theorem kL_feed {zs : Nat × Nat} (l : Launch) (dC : Nat → ClassId) (dI : Nat → Nat → Nat) (gx : Nat) (gq1 : Nat) (gq2 : Nat) (gc3 : ClassId) (gq4 : Nat) (gq13 : Nat) (gq136 : Nat) (gq137 : Nat) (gq138 : Nat) (gq150 : Nat) (gq161 : Nat) (gq172 : Nat) (gq184 : Nat) (go : Nat) (gk : ClassId) (p0 : Int32) (p1 : Int32) (p2 : Int32) (p3 : Int32) (p4 : Int32) (sz : Nat)  : Met l yL_feed (wh yL_feed cL_feed 8 (Option.some Jvm.ClassFile.FieldType.int) [(0, 16, 19, 13)]) ({ frames := 2, cells := 0, slots := 0, locals := 47 }) (va_Pc [.ref gx, .int p0, .int p1, .int p2, .int p3, .int p4, .ref go] (PRE zs dC dI [(gx, .inr (11, [.ref gq1, .ref gq4, .ref gq13, .ref gq136, .ref gq137, .ref gq138, .ref gq172, .ref gq184, .ref gq150, .ref gq161, .int (-1)])), (gq1, .inr (0, [.ref gq2, .int 0, .int 0, .int 0, .int 0, .long 0, .int 0, .int 0])), (gq2, .inl (gc3, 1200, .inl (fun _ => 0))), (go, .inl (gk, 1, .inr (.inl (fun _ => 0))))] [(gc3, .int), (gk, .long)] sz)) (va_Qi (fun (r : Int32) (u : Nat → Int64) => r = 0 ∧ u 0 = 20) (fun u t => POST dC dI [(go, .inl (gk, 1, .inr (.inl u)))] [(gk, .long)] (va_A [(gx, .inr (11, [.ref gq1, .ref gq4, .ref gq13, .ref gq136, .ref gq137, .ref gq138, .ref gq172, .ref gq184, .ref gq150, .ref gq161, .int (-1)])), (gq1, .inr (0, [.ref gq2, .int 0, .int 0, .int 0, .int 0, .long 0, .int 0, .int 0])), (gq2, .inl (gc3, 1200, .inl (fun _ => 0))), (go, .inl (gk, 1, .inr (.inl (fun _ => 0))))] sz) t) (va_A [(gx, .inr (11, [.ref gq1, .ref gq4, .ref gq13, .ref gq136, .ref gq137, .ref gq138, .ref gq172, .ref gq184, .ref gq150, .ref gq161, .int (-1)])), (gq1, .inr (0, [.ref gq2, .int 0, .int 0, .int 0, .int 0, .long 0, .int 0, .int 0])), (gq2, .inl (gc3, 1200, .inl (fun _ => 0))), (go, .inl (gk, 1, .inr (.inl (fun _ => 0))))] sz)) 0 0 (va_A [(gx, .inr (11, [.ref gq1, .ref gq4, .ref gq13, .ref gq136, .ref gq137, .ref gq138, .ref gq172, .ref gq184, .ref gq150, .ref gq161, .int (-1)])), (gq1, .inr (0, [.ref gq2, .int 0, .int 0, .int 0, .int 0, .long 0, .int 0, .int 0])), (gq2, .inl (gc3, 1200, .inl (fun _ => 0))), (go, .inl (gk, 1, .inr (.inl (fun _ => 0))))] sz) := by
  refine va_MetW (cc := cL_feed) (maxL := 8) (ret := (Option.some Jvm.ClassFile.FieldType.int)) (hh := [(0, 16, 19, 13)]) (by decide) rfl ?_
  intro p e s m args below meth c s₁ B hml hv
  obtain ⟨rfl, hsz, hP, hK, hD0, hE⟩ := hv
  have hx := B.exec
  have hb := B.bytes
  have hr := B.returns
  have hts0 := atoms_spec (ws := wh yL_feed cL_feed 8 (Option.some Jvm.ClassFile.FieldType.int) [(0, 16, 19, 13)]) B.pre
  have htab := vx_table (x := yL_feed) B (hts0 _ List.mem_cons_self)
  have hts : ∀ w ∈ gw, w.before _ s = true := fun w h => hts0 w (List.mem_cons_of_mem _ h)
  have hown : s.vm.findClass RL = some m.cls := findClass_of_methodNamed B.named
  have hlocks := B.notSynchronized
  subst hsz
  have hD := hD0.self (sz := s.heap.size)
  generalize hAe : va_A [(gx, .inr (11, [.ref gq1, .ref gq4, .ref gq13, .ref gq136, .ref gq137, .ref gq138, .ref gq172, .ref gq184, .ref gq150, .ref gq161, .int (-1)])), (gq1, .inr (0, [.ref gq2, .int 0, .int 0, .int 0, .int 0, .long 0, .int 0, .int 0])), (gq2, .inl (gc3, 1200, .inl (fun _ => 0))), (go, .inl (gk, 1, .inr (.inl (fun _ => 0))))] s.heap.size = A at hD hE ⊢
  have hA : ∀ q : Nat, s.heap.size ≤ q → A q := fun q h => by rw [← hAe]; exact Or.inr h
  have hS : va_S A s.heap s.heap [] := va_S.rf
  have hP : va_P (dC, dI) cls [(gx, .inr (11, [.ref gq1, .ref gq4, .ref gq13, .ref gq136, .ref gq137, .ref gq138, .ref gq172, .ref gq184, .ref gq150, .ref gq161, .int (-1)])), (gq1, .inr (0, [.ref gq2, .int 0, .int 0, .int 0, .int 0, .long 0, .int 0, .int 0])), (gq2, .inl (gc3, 1200, .inl (fun _ => 0))), (go, .inl (gk, 1, .inr (.inl (fun _ => 0))))] s.heap := hP
  have hl := lv_entry ([.ref gx, .int p0, .int p1, .int p2, .int p3, .int p4, .ref go]) (n := 8) (Nat.le_of_ble_eq_true rfl)
  rw [lg_entry_eq]
  generalize (lg_sl ([.ref gx, .int p0, .int p1, .int p2, .int p3, .int p4, .ref go]) ++ List.replicate (8 - (lg_sl ([.ref gx, .int p0, .int p1, .int p2, .int p3, .int p4, .ref go])).length) Slot.unset).toArray = ls at hl ⊢
  have hl : lv_has ls 8 [(0, .ref gx), (1, .int p0), (2, .int p1), (3, .int p2), (4, .int p3), (5, .int p4), (6, .ref go)] := hl
  refine lv_aload hx hb dL_feed_0 (lv_at hl 6 rfl) ?_
  refine lv_iconst (v := 0) hx hb dL_feed_2 (by decide) ?_
  refine lv_aload_n hx hb dL_feed_3 rfl (lv_at hl 0 rfl) ?_
  refine lv_iload_n hx hb dL_feed_4 rfl (lv_at hl 1 rfl) ?_
  refine lv_iload_n hx hb dL_feed_5 rfl (lv_at hl 2 rfl) ?_
  refine lv_iload_n hx hb dL_feed_6 rfl (lv_at hl 3 rfl) ?_
  refine lv_iload hx hb dL_feed_7 (lv_at hl 4 rfl) ?_
  refine lv_iload hx hb dL_feed_9 (lv_at hl 5 rfl) ?_
  have hPc := hP.sub (ws' := [(gx, .inr (11, [.ref gq1, .ref gq4, .ref gq13, .ref gq136, .ref gq137, .ref gq138, .ref gq172, .ref gq184, .ref gq150, .ref gq161, .int (-1)])), (gq1, .inr (0, [.ref gq2, .int 0, .int 0, .int 0, .int 0, .long 0, .int 0, .int 0])), (gq2, .inl (gc3, 1200, .inl (fun _ => 0)))]) [0, 1, 2] rfl
  have hDc := hD.sub (ws' := [(gx, .inr (11, [.ref gq1, .ref gq4, .ref gq13, .ref gq136, .ref gq137, .ref gq138, .ref gq172, .ref gq184, .ref gq150, .ref gq161, .int (-1)])), (gq1, .inr (0, [.ref gq2, .int 0, .int 0, .int 0, .int 0, .long 0, .int 0, .int 0])), (gq2, .inl (gc3, 1200, .inl (fun _ => 0)))]) [0, 1, 2] (by decide) rfl
  have hKc := hK.sub (tys' := [(gc3, .int)]) [0] rfl
  have hFc := va_free (wc := [(gx, .inr (11, [.ref gq1, .ref gq4, .ref gq13, .ref gq136, .ref gq137, .ref gq138, .ref gq172, .ref gq184, .ref gq150, .ref gq161, .int (-1)])), (gq1, .inr (0, [.ref gq2, .int 0, .int 0, .int 0, .int 0, .long 0, .int 0, .int 0])), (gq2, .inl (gc3, 1200, .inl (fun _ => 0)))]) hD hS hA [0, 1, 2] rfl
  refine va_calli (va_runV (As := [.int p0, .int p1, .int p2, .int p3, .int p4]) (rest := [.int 0, .ref go]) ⟨hx, hb, hml, hown, hts⟩ (kX11_feed l dC dI (gx := gx) (gq1 := gq1) (gq2 := gq2) (gc3 := gc3) (gq4 := gq4) (gq13 := gq13) (gq136 := gq136) (gq137 := gq137) (gq138 := gq138) (gq150 := gq150) (gq161 := gq161) (gq172 := gq172) (gq184 := gq184) (p0 := p0) (p1 := p1) (p2 := p2) (p3 := p3) (p4 := p4) (sz := _)) (cwV 5 hts (gi_V qw478 qw479 qw480 qw222 (gi_z qw477)) rfl rfl rfl (by decide +kernel) ⟨Nat.le_of_ble_eq_true rfl, Nat.le_of_ble_eq_true rfl⟩) ⟨PRE.blind, va_recv hKc hPc (ci := 11) (q0 := 0) rfl rfl, PRE.of hE hS hFc hPc hKc hDc⟩ rfl rfl hl.1 rfl (lv_room (Nat.le_of_ble_eq_true rfl)) dL_feed_11 ⟨Nat.le_of_ble_eq_true rfl, Nat.le_of_ble_eq_true rfl⟩) hS (fun q _ h => hFc q h) hFc (fun r1 u t H locs ht hvm hw hB hz1 hk1 hS => ?_)
  obtain ⟨hP, hD, hK⟩ := JOIN (wr := [(go, .inl (gk, 1, .inr (.inl (fun _ => 0))))]) hP hD hK [0, 1, 2] [3] [1] rfl rfl (by decide) (by decide) rfl hk1 hFc ht hvm hB
  have hP : va_P (dC, dI) cls [(go, .inl (gk, 1, .inr (.inl (fun _ => 0))))] H := hP
  have hD : va_D A [(go, .inl (gk, 1, .inr (.inl (fun _ => 0))))] := hD
  have hK : va_K (dC, dI) cls [(gk, .long)] s := hK
  refine W.widen (k := 0) (n := 0) (Nat.le_of_ble_eq_true rfl) (Nat.le_of_ble_eq_true rfl) ?_
  obtain rfl : r1 = 20 := hw
  refine lv_i2l (v := 20) hx hb dL_feed_14 (by decide) ?_
  refine va_last hx hb hK hP hD hS 0 0 rfl rfl (by unfold vp_in; decide +kernel) dL_feed_15 (fun H locs hP hD hS => ?_)
  have hP : va_P (dC, dI) cls [(go, .inl (gk, 1, .inr (.inl (vp_updL (fun _ => 0) (Int32.toNatClampNeg 0) 20))))] H := hP
  have hD : va_D A [(go, .inl (gk, 1, .inr (.inl (vp_updL (fun _ => 0) (Int32.toNatClampNeg 0) 20))))] := hD
  obtain ⟨f2, ef2⟩ : ∃ z, z = vp_updL (fun _ => 0) (Int32.toNatClampNeg 0) 20 := ⟨_, rfl⟩
  rw [← ef2] at hP hD
  have hf2 : f2 0 = 20 := by rw [ef2]; rfl
  refine lv_goto (tgt := 23) hx hb dL_feed_16 (by decide) ?_
  refine lv_iconst (v := 0) hx hb dL_feed_23 (by decide) ?_
  have hP9 : va_P (dC, dI) cls [(go, .inl (gk, 1, .inr (.inl f2)))] H := hP.sub [0] rfl
  have hD9 : va_D A [(go, .inl (gk, 1, .inr (.inl f2)))] := hD.sub [0] (by decide) rfl
  have hK9 : va_K (dC, dI) cls [(gk, .long)] s := hK.sub [0] rfl
  exact W.iret (v := 0) hx hb hr (fun t ht hW => ⟨⟨0, f2, rfl, ⟨rfl, hf2⟩, ⟨by rw [ht]; exact hP9, va_K.moved hW.alike hK9, hD9⟩⟩, hS.F ht⟩) hS.2.2 dL_feed_24
set_option maxHeartbeats 4000000 in
set_option maxRecDepth 100000 in
theorem kL_trim_a {zs : Nat × Nat} (l : Launch) (dC : Nat → ClassId) (dI : Nat → Nat → Nat) (gx : Nat) (gq1 : Nat) (gq4 : Nat) (gq13 : Nat) (gq136 : Nat) (gq137 : Nat) (gq138 : Nat) (gq150 : Nat) (gq161 : Nat) (gq172 : Nat) (gq184 : Nat) (go : Nat) (p0 : Int32) (sz : Nat) (hl9 : l.stackTraces = false) (h1 : p0 < 0) : Met l yL_trim (wh yL_trim cL_trim 4 (Option.some Jvm.ClassFile.FieldType.int) [(0, 9, 12, 19)]) ({ frames := 7, cells := 1, slots := 6, locals := 121 }) (va_Pc [.ref gx, .int p0, .ref go] (PRE zs dC dI [(gx, .inr (11, [.ref gq1, .ref gq4, .ref gq13, .ref gq136, .ref gq137, .ref gq138, .ref gq172, .ref gq184, .ref gq150, .ref gq161, .int (-1)]))] [] sz)) (va_Qi (fun (r : Int32) (_ : Unit) => r = 1) (fun _ t => POST dC dI [] [] (va_A [(gx, .inr (11, [.ref gq1, .ref gq4, .ref gq13, .ref gq136, .ref gq137, .ref gq138, .ref gq172, .ref gq184, .ref gq150, .ref gq161, .int (-1)]))] sz) t) (va_A [(gx, .inr (11, [.ref gq1, .ref gq4, .ref gq13, .ref gq136, .ref gq137, .ref gq138, .ref gq172, .ref gq184, .ref gq150, .ref gq161, .int (-1)]))] sz)) 1 6 (va_A [(gx, .inr (11, [.ref gq1, .ref gq4, .ref gq13, .ref gq136, .ref gq137, .ref gq138, .ref gq172, .ref gq184, .ref gq150, .ref gq161, .int (-1)]))] sz) := by
  refine va_MetW (cc := cL_trim) (maxL := 4) (ret := (Option.some Jvm.ClassFile.FieldType.int)) (hh := [(0, 9, 12, 19)]) (by decide) rfl ?_
  intro p e s m args below meth c s₁ B hml hv
  obtain ⟨rfl, hsz, hP, hK, hD0, hE⟩ := hv
  have hx := B.exec
  have hb := B.bytes
  have hr := B.returns
  have hts0 := atoms_spec (ws := wh yL_trim cL_trim 4 (Option.some Jvm.ClassFile.FieldType.int) [(0, 9, 12, 19)]) B.pre
  have htab := vx_table (x := yL_trim) B (hts0 _ List.mem_cons_self)
  have hts : ∀ w ∈ gw, w.before _ s = true := fun w h => hts0 w (List.mem_cons_of_mem _ h)
  have hown : s.vm.findClass RL = some m.cls := findClass_of_methodNamed B.named
  have hlocks := B.notSynchronized
  subst hsz
  have hD := hD0.self (sz := s.heap.size)
  generalize hAe : va_A [(gx, .inr (11, [.ref gq1, .ref gq4, .ref gq13, .ref gq136, .ref gq137, .ref gq138, .ref gq172, .ref gq184, .ref gq150, .ref gq161, .int (-1)]))] s.heap.size = A at hD hE ⊢
  have hA : ∀ q : Nat, s.heap.size ≤ q → A q := fun q h => by rw [← hAe]; exact Or.inr h
  have hS : va_S A s.heap s.heap [] := va_S.rf
  have hP : va_P (dC, dI) cls [(gx, .inr (11, [.ref gq1, .ref gq4, .ref gq13, .ref gq136, .ref gq137, .ref gq138, .ref gq172, .ref gq184, .ref gq150, .ref gq161, .int (-1)]))] s.heap := hP
  have hl := lv_entry ([.ref gx, .int p0, .ref go]) (n := 4) (Nat.le_of_ble_eq_true rfl)
  rw [lg_entry_eq]
  generalize (lg_sl ([.ref gx, .int p0, .ref go]) ++ List.replicate (4 - (lg_sl ([.ref gx, .int p0, .ref go])).length) Slot.unset).toArray = ls at hl ⊢
  have hl : lv_has ls 4 [(0, .ref gx), (1, .int p0), (2, .ref go)] := hl
  refine lv_aload_n hx hb dL_trim_0 rfl (lv_at hl 2 rfl) ?_
  refine lv_iconst (v := 0) hx hb dL_trim_1 (by decide) ?_
  refine lv_aload_n hx hb dL_trim_2 rfl (lv_at hl 0 rfl) ?_
  refine lv_iload_n hx hb dL_trim_3 rfl (lv_at hl 1 rfl) ?_
  have hPc := hP.sub (ws' := [(gx, .inr (11, [.ref gq1, .ref gq4, .ref gq13, .ref gq136, .ref gq137, .ref gq138, .ref gq172, .ref gq184, .ref gq150, .ref gq161, .int (-1)]))]) [0] rfl
  have hDc := hD.sub (ws' := [(gx, .inr (11, [.ref gq1, .ref gq4, .ref gq13, .ref gq136, .ref gq137, .ref gq138, .ref gq172, .ref gq184, .ref gq150, .ref gq161, .int (-1)]))]) [0] (by decide) rfl
  have hKc := hK.sub (tys' := []) [] rfl
  have hFc := va_free (wc := [(gx, .inr (11, [.ref gq1, .ref gq4, .ref gq13, .ref gq136, .ref gq137, .ref gq138, .ref gq172, .ref gq184, .ref gq150, .ref gq161, .int (-1)]))]) hD hS hA [0] rfl
  refine vx_calli (vx_runV (As := [.int p0]) (rest := [.int 0, .ref go]) ⟨hx, hb, hml, hown, hts⟩ (kX11_trim_a l dC dI (gx := gx) (gq1 := gq1) (gq4 := gq4) (gq13 := gq13) (gq136 := gq136) (gq137 := gq137) (gq138 := gq138) (gq150 := gq150) (gq161 := gq161) (gq172 := gq172) (gq184 := gq184) (p0 := p0) (sz := _) (hl9 := hl9) (h1 := h1)) (cwV 1 hts (gi_V qw482 qw483 qw484 qw222 (gi_z qw481)) rfl rfl rfl (by decide +kernel) ⟨Nat.le_of_ble_eq_true rfl, Nat.le_of_ble_eq_true rfl⟩) ⟨PRE.blind, va_recv hKc hPc (ci := 11) (q0 := 0) rfl rfl, PRE.of hE hS hFc hPc hKc hDc⟩ rfl rfl hl.1 rfl (lv_room (Nat.le_of_ble_eq_true rfl)) dL_trim_4 ⟨Nat.le_of_ble_eq_true rfl, Nat.le_of_ble_eq_true rfl⟩) hS (fun q _ h => hFc q h) hFc (fun q _ h => hFc q h) (fun E ce q9 u t H locs ht hvm hw hB hz1 hk1 hS hce hcv hcl => ?_) (fun _ u t H locs ht hvm hw hB hz1 hk1 hS => hw.elim)
  obtain ⟨rfl, hB⟩ := hB
  obtain ⟨hP, hD, hK⟩ := JOIN (wr := []) hP hD hK [0] [] [] rfl rfl (by decide) (by decide) rfl hk1 hFc ht hvm hB
  have hP : va_P (dC, dI) cls [] H := hP
  have hD : va_D A [] := hD
  have hK : va_K (dC, dI) cls [] s := hK
  refine vx_widen (k := 1) (n := 6) (Nat.le_of_ble_eq_true rfl) (Nat.le_of_ble_eq_true rfl) ?_
  refine vx_catch (own := RL) (name := "java/lang/IllegalArgumentException") hown [] ⟨0, 9, 12, 19⟩ [] (htab.trans rfl) (fun z hz => by cases hz) (by decide) (by decide) (hts _ qw485) (hE.word (List.mem_append_right _ (tbl_5 (i := 1) rfl)) rfl) hce hcv hcl ?_
  refine lv_astore_n (lv' := [(3, .ref q9), (0, .ref gx), (1, .int p0), (2, .ref go)]) hx hb dL_trim_12 rfl hl (by decide) rfl (fun ls hl => ?_)
  refine lv_iconst (v := 1) hx hb dL_trim_13 (by decide) ?_
  have hP9 : va_P (dC, dI) cls [] H := hP.sub [] rfl
  have hD9 : va_D A [] := hD.sub [] (by decide) rfl
  have hK9 : va_K (dC, dI) cls [] s := hK.sub [] rfl
  exact W.iret (v := 1) hx hb hr (fun t ht hW => ⟨⟨1, (), rfl, rfl, ⟨by rw [ht]; exact hP9, va_K.moved hW.alike hK9, hD9⟩⟩, hS.F ht⟩) hS.2.2 dL_trim_14
set_option maxHeartbeats 4000000 in
set_option maxRecDepth 100000 in
theorem kL_trim_b {zs : Nat × Nat} (l : Launch) (dC : Nat → ClassId) (dI : Nat → Nat → Nat) (gx : Nat) (gq1 : Nat) (gq2 : Nat) (gq4 : Nat) (gq13 : Nat) (gq136 : Nat) (gq137 : Nat) (gq138 : Nat) (gq150 : Nat) (gq161 : Nat) (gq172 : Nat) (gq184 : Nat) (go : Nat) (p0 : Int32) (sz : Nat) (hl9 : l.stackTraces = false) (h1 : ¬ p0 < 0) (h2 : 0 < p0) : Met l yL_trim (wh yL_trim cL_trim 4 (Option.some Jvm.ClassFile.FieldType.int) [(0, 9, 12, 19)]) ({ frames := 7, cells := 1, slots := 6, locals := 121 }) (va_Pc [.ref gx, .int p0, .ref go] (PRE zs dC dI [(gx, .inr (11, [.ref gq1, .ref gq4, .ref gq13, .ref gq136, .ref gq137, .ref gq138, .ref gq172, .ref gq184, .ref gq150, .ref gq161, .int (-1)])), (gq1, .inr (0, [.ref gq2, .int 0, .int 0, .int 0, .int 0, .long 0, .int 0, .int 0]))] [] sz)) (va_Qi (fun (r : Int32) (_ : Unit) => r = 1) (fun _ t => POST dC dI [] [] (va_A [(gx, .inr (11, [.ref gq1, .ref gq4, .ref gq13, .ref gq136, .ref gq137, .ref gq138, .ref gq172, .ref gq184, .ref gq150, .ref gq161, .int (-1)])), (gq1, .inr (0, [.ref gq2, .int 0, .int 0, .int 0, .int 0, .long 0, .int 0, .int 0]))] sz) t) (va_A [(gx, .inr (11, [.ref gq1, .ref gq4, .ref gq13, .ref gq136, .ref gq137, .ref gq138, .ref gq172, .ref gq184, .ref gq150, .ref gq161, .int (-1)])), (gq1, .inr (0, [.ref gq2, .int 0, .int 0, .int 0, .int 0, .long 0, .int 0, .int 0]))] sz)) 1 6 (va_A [(gx, .inr (11, [.ref gq1, .ref gq4, .ref gq13, .ref gq136, .ref gq137, .ref gq138, .ref gq172, .ref gq184, .ref gq150, .ref gq161, .int (-1)])), (gq1, .inr (0, [.ref gq2, .int 0, .int 0, .int 0, .int 0, .long 0, .int 0, .int 0]))] sz) := by
  refine va_MetW (cc := cL_trim) (maxL := 4) (ret := (Option.some Jvm.ClassFile.FieldType.int)) (hh := [(0, 9, 12, 19)]) (by decide) rfl ?_
  intro p e s m args below meth c s₁ B hml hv
  obtain ⟨rfl, hsz, hP, hK, hD0, hE⟩ := hv
  have hx := B.exec
  have hb := B.bytes
  have hr := B.returns
  have hts0 := atoms_spec (ws := wh yL_trim cL_trim 4 (Option.some Jvm.ClassFile.FieldType.int) [(0, 9, 12, 19)]) B.pre
  have htab := vx_table (x := yL_trim) B (hts0 _ List.mem_cons_self)
  have hts : ∀ w ∈ gw, w.before _ s = true := fun w h => hts0 w (List.mem_cons_of_mem _ h)
  have hown : s.vm.findClass RL = some m.cls := findClass_of_methodNamed B.named
  have hlocks := B.notSynchronized
  subst hsz
  have hD := hD0.self (sz := s.heap.size)
  generalize hAe : va_A [(gx, .inr (11, [.ref gq1, .ref gq4, .ref gq13, .ref gq136, .ref gq137, .ref gq138, .ref gq172, .ref gq184, .ref gq150, .ref gq161, .int (-1)])), (gq1, .inr (0, [.ref gq2, .int 0, .int 0, .int 0, .int 0, .long 0, .int 0, .int 0]))] s.heap.size = A at hD hE ⊢
  have hA : ∀ q : Nat, s.heap.size ≤ q → A q := fun q h => by rw [← hAe]; exact Or.inr h
  have hS : va_S A s.heap s.heap [] := va_S.rf
  have hP : va_P (dC, dI) cls [(gx, .inr (11, [.ref gq1, .ref gq4, .ref gq13, .ref gq136, .ref gq137, .ref gq138, .ref gq172, .ref gq184, .ref gq150, .ref gq161, .int (-1)])), (gq1, .inr (0, [.ref gq2, .int 0, .int 0, .int 0, .int 0, .long 0, .int 0, .int 0]))] s.heap := hP
  have hl := lv_entry ([.ref gx, .int p0, .ref go]) (n := 4) (Nat.le_of_ble_eq_true rfl)
  rw [lg_entry_eq]
  generalize (lg_sl ([.ref gx, .int p0, .ref go]) ++ List.replicate (4 - (lg_sl ([.ref gx, .int p0, .ref go])).length) Slot.unset).toArray = ls at hl ⊢
  have hl : lv_has ls 4 [(0, .ref gx), (1, .int p0), (2, .ref go)] := hl
  refine lv_aload_n hx hb dL_trim_0 rfl (lv_at hl 2 rfl) ?_
  refine lv_iconst (v := 0) hx hb dL_trim_1 (by decide) ?_
  refine lv_aload_n hx hb dL_trim_2 rfl (lv_at hl 0 rfl) ?_
  refine lv_iload_n hx hb dL_trim_3 rfl (lv_at hl 1 rfl) ?_
  have hPc := hP.sub (ws' := [(gx, .inr (11, [.ref gq1, .ref gq4, .ref gq13, .ref gq136, .ref gq137, .ref gq138, .ref gq172, .ref gq184, .ref gq150, .ref gq161, .int (-1)])), (gq1, .inr (0, [.ref gq2, .int 0, .int 0, .int 0, .int 0, .long 0, .int 0, .int 0]))]) [0, 1] rfl
  have hDc := hD.sub (ws' := [(gx, .inr (11, [.ref gq1, .ref gq4, .ref gq13, .ref gq136, .ref gq137, .ref gq138, .ref gq172, .ref gq184, .ref gq150, .ref gq161, .int (-1)])), (gq1, .inr (0, [.ref gq2, .int 0, .int 0, .int 0, .int 0, .long 0, .int 0, .int 0]))]) [0, 1] (by decide) rfl
  have hKc := hK.sub (tys' := []) [] rfl
  have hFc := va_free (wc := [(gx, .inr (11, [.ref gq1, .ref gq4, .ref gq13, .ref gq136, .ref gq137, .ref gq138, .ref gq172, .ref gq184, .ref gq150, .ref gq161, .int (-1)])), (gq1, .inr (0, [.ref gq2, .int 0, .int 0, .int 0, .int 0, .long 0, .int 0, .int 0]))]) hD hS hA [0, 1] rfl
  refine vx_calli (vx_runV (As := [.int p0]) (rest := [.int 0, .ref go]) ⟨hx, hb, hml, hown, hts⟩ (kX11_trim_b l dC dI (gx := gx) (gq1 := gq1) (gq2 := gq2) (gq4 := gq4) (gq13 := gq13) (gq136 := gq136) (gq137 := gq137) (gq138 := gq138) (gq150 := gq150) (gq161 := gq161) (gq172 := gq172) (gq184 := gq184) (p0 := p0) (sz := _) (hl9 := hl9) (h1 := h1) (h2 := h2)) (cwV 1 hts (gi_V qw482 qw483 qw484 qw222 (gi_z qw481)) rfl rfl rfl (by decide +kernel) ⟨Nat.le_of_ble_eq_true rfl, Nat.le_of_ble_eq_true rfl⟩) ⟨PRE.blind, va_recv hKc hPc (ci := 11) (q0 := 0) rfl rfl, PRE.of hE hS hFc hPc hKc hDc⟩ rfl rfl hl.1 rfl (lv_room (Nat.le_of_ble_eq_true rfl)) dL_trim_4 ⟨Nat.le_of_ble_eq_true rfl, Nat.le_of_ble_eq_true rfl⟩) hS (fun q _ h => hFc q h) hFc (fun q _ h => hFc q h) (fun E ce q9 u t H locs ht hvm hw hB hz1 hk1 hS hce hcv hcl => ?_) (fun _ u t H locs ht hvm hw hB hz1 hk1 hS => hw.elim)
  obtain ⟨rfl, hB⟩ := hB
  obtain ⟨hP, hD, hK⟩ := JOIN (wr := []) hP hD hK [0, 1] [] [] rfl rfl (by decide) (by decide) rfl hk1 hFc ht hvm hB
  have hP : va_P (dC, dI) cls [] H := hP
  have hD : va_D A [] := hD
  have hK : va_K (dC, dI) cls [] s := hK
  refine vx_widen (k := 1) (n := 6) (Nat.le_of_ble_eq_true rfl) (Nat.le_of_ble_eq_true rfl) ?_
  refine vx_catch (own := RL) (name := "java/lang/IllegalArgumentException") hown [] ⟨0, 9, 12, 19⟩ [] (htab.trans rfl) (fun z hz => by cases hz) (by decide) (by decide) (hts _ qw485) (hE.word (List.mem_append_right _ (tbl_5 (i := 1) rfl)) rfl) hce hcv hcl ?_
  refine lv_astore_n (lv' := [(3, .ref q9), (0, .ref gx), (1, .int p0), (2, .ref go)]) hx hb dL_trim_12 rfl hl (by decide) rfl (fun ls hl => ?_)
  refine lv_iconst (v := 1) hx hb dL_trim_13 (by decide) ?_
  have hP9 : va_P (dC, dI) cls [] H := hP.sub [] rfl
  have hD9 : va_D A [] := hD.sub [] (by decide) rfl
  have hK9 : va_K (dC, dI) cls [] s := hK.sub [] rfl
  exact W.iret (v := 1) hx hb hr (fun t ht hW => ⟨⟨1, (), rfl, rfl, ⟨by rw [ht]; exact hP9, va_K.moved hW.alike hK9, hD9⟩⟩, hS.F ht⟩) hS.2.2 dL_trim_14
set_option maxHeartbeats 4000000 in
set_option maxRecDepth 100000 in
theorem kL_trim_c {zs : Nat × Nat} (l : Launch) (dC : Nat → ClassId) (dI : Nat → Nat → Nat) (gx : Nat) (gq1 : Nat) (gq2 : Nat) (gq4 : Nat) (gq13 : Nat) (gq136 : Nat) (gq137 : Nat) (gq138 : Nat) (gq150 : Nat) (gq161 : Nat) (gq172 : Nat) (gq184 : Nat) (go : Nat) (gk : ClassId) (p0 : Int32) (sz : Nat) (h1 : ¬ p0 < 0) (h2 : ¬ 0 < p0) : Met l yL_trim (wh yL_trim cL_trim 4 (Option.some Jvm.ClassFile.FieldType.int) [(0, 9, 12, 19)]) ({ frames := 1, cells := 0, slots := 0, locals := 21 }) (va_Pc [.ref gx, .int p0, .ref go] (PRE zs dC dI [(gx, .inr (11, [.ref gq1, .ref gq4, .ref gq13, .ref gq136, .ref gq137, .ref gq138, .ref gq172, .ref gq184, .ref gq150, .ref gq161, .int (-1)])), (gq1, .inr (0, [.ref gq2, .int 0, .int 0, .int 0, .int 0, .long 0, .int 0, .int 0])), (go, .inl (gk, 1, .inr (.inl (fun _ => 0))))] [(gk, .long)] sz)) (va_Qi (fun (r : Int32) (u : Nat → Int64) => r = 0 ∧ u 0 = ((p0).toInt64)) (fun u t => POST dC dI [(go, .inl (gk, 1, .inr (.inl u)))] [(gk, .long)] (va_A [(gx, .inr (11, [.ref gq1, .ref gq4, .ref gq13, .ref gq136, .ref gq137, .ref gq138, .ref gq172, .ref gq184, .ref gq150, .ref gq161, .int (-1)])), (gq1, .inr (0, [.ref gq2, .int 0, .int 0, .int 0, .int 0, .long 0, .int 0, .int 0])), (go, .inl (gk, 1, .inr (.inl (fun _ => 0))))] sz) t) (va_A [(gx, .inr (11, [.ref gq1, .ref gq4, .ref gq13, .ref gq136, .ref gq137, .ref gq138, .ref gq172, .ref gq184, .ref gq150, .ref gq161, .int (-1)])), (gq1, .inr (0, [.ref gq2, .int 0, .int 0, .int 0, .int 0, .long 0, .int 0, .int 0])), (go, .inl (gk, 1, .inr (.inl (fun _ => 0))))] sz)) 0 0 (va_A [(gx, .inr (11, [.ref gq1, .ref gq4, .ref gq13, .ref gq136, .ref gq137, .ref gq138, .ref gq172, .ref gq184, .ref gq150, .ref gq161, .int (-1)])), (gq1, .inr (0, [.ref gq2, .int 0, .int 0, .int 0, .int 0, .long 0, .int 0, .int 0])), (go, .inl (gk, 1, .inr (.inl (fun _ => 0))))] sz) := by
  refine va_MetW (cc := cL_trim) (maxL := 4) (ret := (Option.some Jvm.ClassFile.FieldType.int)) (hh := [(0, 9, 12, 19)]) (by decide) rfl ?_
  intro p e s m args below meth c s₁ B hml hv
  obtain ⟨rfl, hsz, hP, hK, hD0, hE⟩ := hv
  have hx := B.exec
  have hb := B.bytes
  have hr := B.returns
  have hts0 := atoms_spec (ws := wh yL_trim cL_trim 4 (Option.some Jvm.ClassFile.FieldType.int) [(0, 9, 12, 19)]) B.pre
  have htab := vx_table (x := yL_trim) B (hts0 _ List.mem_cons_self)
  have hts : ∀ w ∈ gw, w.before _ s = true := fun w h => hts0 w (List.mem_cons_of_mem _ h)
  have hown : s.vm.findClass RL = some m.cls := findClass_of_methodNamed B.named
  have hlocks := B.notSynchronized
  subst hsz
  have hD := hD0.self (sz := s.heap.size)
  generalize hAe : va_A [(gx, .inr (11, [.ref gq1, .ref gq4, .ref gq13, .ref gq136, .ref gq137, .ref gq138, .ref gq172, .ref gq184, .ref gq150, .ref gq161, .int (-1)])), (gq1, .inr (0, [.ref gq2, .int 0, .int 0, .int 0, .int 0, .long 0, .int 0, .int 0])), (go, .inl (gk, 1, .inr (.inl (fun _ => 0))))] s.heap.size = A at hD hE ⊢
  have hA : ∀ q : Nat, s.heap.size ≤ q → A q := fun q h => by rw [← hAe]; exact Or.inr h
  have hS : va_S A s.heap s.heap [] := va_S.rf
  have hP : va_P (dC, dI) cls [(gx, .inr (11, [.ref gq1, .ref gq4, .ref gq13, .ref gq136, .ref gq137, .ref gq138, .ref gq172, .ref gq184, .ref gq150, .ref gq161, .int (-1)])), (gq1, .inr (0, [.ref gq2, .int 0, .int 0, .int 0, .int 0, .long 0, .int 0, .int 0])), (go, .inl (gk, 1, .inr (.inl (fun _ => 0))))] s.heap := hP
  have hl := lv_entry ([.ref gx, .int p0, .ref go]) (n := 4) (Nat.le_of_ble_eq_true rfl)
  rw [lg_entry_eq]
  generalize (lg_sl ([.ref gx, .int p0, .ref go]) ++ List.replicate (4 - (lg_sl ([.ref gx, .int p0, .ref go])).length) Slot.unset).toArray = ls at hl ⊢
  have hl : lv_has ls 4 [(0, .ref gx), (1, .int p0), (2, .ref go)] := hl
  refine lv_aload_n hx hb dL_trim_0 rfl (lv_at hl 2 rfl) ?_
  refine lv_iconst (v := 0) hx hb dL_trim_1 (by decide) ?_
  refine lv_aload_n hx hb dL_trim_2 rfl (lv_at hl 0 rfl) ?_
  refine lv_iload_n hx hb dL_trim_3 rfl (lv_at hl 1 rfl) ?_
  have hPc := hP.sub (ws' := [(gx, .inr (11, [.ref gq1, .ref gq4, .ref gq13, .ref gq136, .ref gq137, .ref gq138, .ref gq172, .ref gq184, .ref gq150, .ref gq161, .int (-1)])), (gq1, .inr (0, [.ref gq2, .int 0, .int 0, .int 0, .int 0, .long 0, .int 0, .int 0]))]) [0, 1] rfl
  have hDc := hD.sub (ws' := [(gx, .inr (11, [.ref gq1, .ref gq4, .ref gq13, .ref gq136, .ref gq137, .ref gq138, .ref gq172, .ref gq184, .ref gq150, .ref gq161, .int (-1)])), (gq1, .inr (0, [.ref gq2, .int 0, .int 0, .int 0, .int 0, .long 0, .int 0, .int 0]))]) [0, 1] (by decide) rfl
  have hKc := hK.sub (tys' := []) [] rfl
  have hFc := va_free (wc := [(gx, .inr (11, [.ref gq1, .ref gq4, .ref gq13, .ref gq136, .ref gq137, .ref gq138, .ref gq172, .ref gq184, .ref gq150, .ref gq161, .int (-1)])), (gq1, .inr (0, [.ref gq2, .int 0, .int 0, .int 0, .int 0, .long 0, .int 0, .int 0]))]) hD hS hA [0, 1] rfl
  refine va_calli (va_runV (As := [.int p0]) (rest := [.int 0, .ref go]) ⟨hx, hb, hml, hown, hts⟩ (kX11_trim_c l dC dI (gx := gx) (gq1 := gq1) (gq2 := gq2) (gq4 := gq4) (gq13 := gq13) (gq136 := gq136) (gq137 := gq137) (gq138 := gq138) (gq150 := gq150) (gq161 := gq161) (gq172 := gq172) (gq184 := gq184) (p0 := p0) (sz := _) (h1 := h1) (h2 := h2)) (cwV 1 hts (gi_V qw482 qw483 qw484 qw222 (gi_z qw481)) rfl rfl rfl (by decide +kernel) ⟨Nat.le_of_ble_eq_true rfl, Nat.le_of_ble_eq_true rfl⟩) ⟨PRE.blind, va_recv hKc hPc (ci := 11) (q0 := 0) rfl rfl, PRE.of hE hS hFc hPc hKc hDc⟩ rfl rfl hl.1 rfl (lv_room (Nat.le_of_ble_eq_true rfl)) dL_trim_4 ⟨Nat.le_of_ble_eq_true rfl, Nat.le_of_ble_eq_true rfl⟩) hS (fun q _ h => hFc q h) hFc (fun r1 u t H locs ht hvm hw hB hz1 hk1 hS => ?_)
  obtain ⟨hP, hD, hK⟩ := JOIN (wr := [(go, .inl (gk, 1, .inr (.inl (fun _ => 0))))]) hP hD hK [0, 1] [2] [0] rfl rfl (by decide) (by decide) rfl hk1 hFc ht hvm hB
  have hP : va_P (dC, dI) cls [(go, .inl (gk, 1, .inr (.inl (fun _ => 0))))] H := hP
  have hD : va_D A [(go, .inl (gk, 1, .inr (.inl (fun _ => 0))))] := hD
  have hK : va_K (dC, dI) cls [(gk, .long)] s := hK
  refine W.widen (k := 0) (n := 0) (Nat.le_of_ble_eq_true rfl) (Nat.le_of_ble_eq_true rfl) ?_
  obtain rfl : p0 = r1 := hw.symm
  refine lv_i2l (v := (p0).toInt64) hx hb dL_trim_7 rfl ?_
  refine va_last hx hb hK hP hD hS 0 0 rfl rfl (by unfold vp_in; decide +kernel) dL_trim_8 (fun H locs hP hD hS => ?_)
  have hP : va_P (dC, dI) cls [(go, .inl (gk, 1, .inr (.inl (vp_updL (fun _ => 0) (Int32.toNatClampNeg 0) ((p0).toInt64)))))] H := hP
  have hD : va_D A [(go, .inl (gk, 1, .inr (.inl (vp_updL (fun _ => 0) (Int32.toNatClampNeg 0) ((p0).toInt64)))))] := hD
  obtain ⟨f2, ef2⟩ : ∃ z, z = vp_updL (fun _ => 0) (Int32.toNatClampNeg 0) ((p0).toInt64) := ⟨_, rfl⟩
  rw [← ef2] at hP hD
  have hf2 : f2 0 = ((p0).toInt64) := by rw [ef2]; rfl
  refine lv_goto (tgt := 15) hx hb dL_trim_9 (by decide) ?_
  refine lv_iconst (v := 0) hx hb dL_trim_15 (by decide) ?_
  have hP9 : va_P (dC, dI) cls [(go, .inl (gk, 1, .inr (.inl f2)))] H := hP.sub [0] rfl
  have hD9 : va_D A [(go, .inl (gk, 1, .inr (.inl f2)))] := hD.sub [0] (by decide) rfl
  have hK9 : va_K (dC, dI) cls [(gk, .long)] s := hK.sub [0] rfl
  exact W.iret (v := 0) hx hb hr (fun t ht hW => ⟨⟨0, f2, rfl, ⟨rfl, hf2⟩, ⟨by rw [ht]; exact hP9, va_K.moved hW.alike hK9, hD9⟩⟩, hS.F ht⟩) hS.2.2 dL_trim_16
set_option maxHeartbeats 4000000 in
set_option maxRecDepth 100000 in
theorem kL_parametersOf {zs : Nat × Nat} (l : Launch) (dC : Nat → ClassId) (dI : Nat → Nat → Nat) (gx : Nat) (gq1 : Nat) (gq4 : Nat) (gq13 : Nat) (gq136 : Nat) (gq137 : Nat) (gq138 : Nat) (gq150 : Nat) (gq151 : Nat) (gq152 : Nat) (gq153 : Nat) (gq154 : Nat) (gq155 : Nat) (gq156 : Nat) (gq157 : Nat) (gq158 : Nat) (gq159 : Nat) (gq160 : Nat) (gq161 : Nat) (gq172 : Nat) (gq184 : Nat) (go : Nat) (p0 : Int32) (sz : Nat) (hl9 : l.stackTraces = false)  : Met l yL_parametersOf (wh yL_parametersOf cL_parametersOf 4 (Option.some Jvm.ClassFile.FieldType.int) [(0, 9, 12, 24)]) ({ frames := 8, cells := 1, slots := 6, locals := 142 }) (va_Pc [.ref gx, .int p0, .ref go] (PRE zs dC dI [(gx, .inr (11, [.ref gq1, .ref gq4, .ref gq13, .ref gq136, .ref gq137, .ref gq138, .ref gq172, .ref gq184, .ref gq150, .ref gq161, .int (-1)])), (gq150, .inr (2, [.int 0, .ref gq151, .ref gq152, .ref gq153, .ref gq154, .ref gq155, .ref gq156, .int 0, .ref gq157, .ref gq158, .ref gq159, .int 0, .ref gq160]))] [] sz)) (va_Qi (fun (r : Int32) (_ : Unit) => r = 1) (fun _ t => POST dC dI [] [] (va_A [(gx, .inr (11, [.ref gq1, .ref gq4, .ref gq13, .ref gq136, .ref gq137, .ref gq138, .ref gq172, .ref gq184, .ref gq150, .ref gq161, .int (-1)])), (gq150, .inr (2, [.int 0, .ref gq151, .ref gq152, .ref gq153, .ref gq154, .ref gq155, .ref gq156, .int 0, .ref gq157, .ref gq158, .ref gq159, .int 0, .ref gq160]))] sz) t) (va_A [(gx, .inr (11, [.ref gq1, .ref gq4, .ref gq13, .ref gq136, .ref gq137, .ref gq138, .ref gq172, .ref gq184, .ref gq150, .ref gq161, .int (-1)])), (gq150, .inr (2, [.int 0, .ref gq151, .ref gq152, .ref gq153, .ref gq154, .ref gq155, .ref gq156, .int 0, .ref gq157, .ref gq158, .ref gq159, .int 0, .ref gq160]))] sz)) 1 6 (va_A [(gx, .inr (11, [.ref gq1, .ref gq4, .ref gq13, .ref gq136, .ref gq137, .ref gq138, .ref gq172, .ref gq184, .ref gq150, .ref gq161, .int (-1)])), (gq150, .inr (2, [.int 0, .ref gq151, .ref gq152, .ref gq153, .ref gq154, .ref gq155, .ref gq156, .int 0, .ref gq157, .ref gq158, .ref gq159, .int 0, .ref gq160]))] sz) := by
  refine va_MetW (cc := cL_parametersOf) (maxL := 4) (ret := (Option.some Jvm.ClassFile.FieldType.int)) (hh := [(0, 9, 12, 24)]) (by decide) rfl ?_
  intro p e s m args below meth c s₁ B hml hv
  obtain ⟨rfl, hsz, hP, hK, hD0, hE⟩ := hv
  have hx := B.exec
  have hb := B.bytes
  have hr := B.returns
  have hts0 := atoms_spec (ws := wh yL_parametersOf cL_parametersOf 4 (Option.some Jvm.ClassFile.FieldType.int) [(0, 9, 12, 24)]) B.pre
  have htab := vx_table (x := yL_parametersOf) B (hts0 _ List.mem_cons_self)
  have hts : ∀ w ∈ gw, w.before _ s = true := fun w h => hts0 w (List.mem_cons_of_mem _ h)
  have hown : s.vm.findClass RL = some m.cls := findClass_of_methodNamed B.named
  have hlocks := B.notSynchronized
  subst hsz
  have hD := hD0.self (sz := s.heap.size)
  generalize hAe : va_A [(gx, .inr (11, [.ref gq1, .ref gq4, .ref gq13, .ref gq136, .ref gq137, .ref gq138, .ref gq172, .ref gq184, .ref gq150, .ref gq161, .int (-1)])), (gq150, .inr (2, [.int 0, .ref gq151, .ref gq152, .ref gq153, .ref gq154, .ref gq155, .ref gq156, .int 0, .ref gq157, .ref gq158, .ref gq159, .int 0, .ref gq160]))] s.heap.size = A at hD hE ⊢
  have hA : ∀ q : Nat, s.heap.size ≤ q → A q := fun q h => by rw [← hAe]; exact Or.inr h
  have hS : va_S A s.heap s.heap [] := va_S.rf
  have hP : va_P (dC, dI) cls [(gx, .inr (11, [.ref gq1, .ref gq4, .ref gq13, .ref gq136, .ref gq137, .ref gq138, .ref gq172, .ref gq184, .ref gq150, .ref gq161, .int (-1)])), (gq150, .inr (2, [.int 0, .ref gq151, .ref gq152, .ref gq153, .ref gq154, .ref gq155, .ref gq156, .int 0, .ref gq157, .ref gq158, .ref gq159, .int 0, .ref gq160]))] s.heap := hP
  have hl := lv_entry ([.ref gx, .int p0, .ref go]) (n := 4) (Nat.le_of_ble_eq_true rfl)
  rw [lg_entry_eq]
  generalize (lg_sl ([.ref gx, .int p0, .ref go]) ++ List.replicate (4 - (lg_sl ([.ref gx, .int p0, .ref go])).length) Slot.unset).toArray = ls at hl ⊢
  have hl : lv_has ls 4 [(0, .ref gx), (1, .int p0), (2, .ref go)] := hl
  refine lv_aload_n hx hb dL_parametersOf_0 rfl (lv_at hl 2 rfl) ?_
  refine lv_iconst (v := 0) hx hb dL_parametersOf_1 (by decide) ?_
  refine lv_aload_n hx hb dL_parametersOf_2 rfl (lv_at hl 0 rfl) ?_
  refine lv_iload_n hx hb dL_parametersOf_3 rfl (lv_at hl 1 rfl) ?_
  have hPc := hP.sub (ws' := [(gx, .inr (11, [.ref gq1, .ref gq4, .ref gq13, .ref gq136, .ref gq137, .ref gq138, .ref gq172, .ref gq184, .ref gq150, .ref gq161, .int (-1)])), (gq150, .inr (2, [.int 0, .ref gq151, .ref gq152, .ref gq153, .ref gq154, .ref gq155, .ref gq156, .int 0, .ref gq157, .ref gq158, .ref gq159, .int 0, .ref gq160]))]) [0, 1] rfl
  have hDc := hD.sub (ws' := [(gx, .inr (11, [.ref gq1, .ref gq4, .ref gq13, .ref gq136, .ref gq137, .ref gq138, .ref gq172, .ref gq184, .ref gq150, .ref gq161, .int (-1)])), (gq150, .inr (2, [.int 0, .ref gq151, .ref gq152, .ref gq153, .ref gq154, .ref gq155, .ref gq156, .int 0, .ref gq157, .ref gq158, .ref gq159, .int 0, .ref gq160]))]) [0, 1] (by decide) rfl
  have hKc := hK.sub (tys' := []) [] rfl
  have hFc := va_free (wc := [(gx, .inr (11, [.ref gq1, .ref gq4, .ref gq13, .ref gq136, .ref gq137, .ref gq138, .ref gq172, .ref gq184, .ref gq150, .ref gq161, .int (-1)])), (gq150, .inr (2, [.int 0, .ref gq151, .ref gq152, .ref gq153, .ref gq154, .ref gq155, .ref gq156, .int 0, .ref gq157, .ref gq158, .ref gq159, .int 0, .ref gq160]))]) hD hS hA [0, 1] rfl
  refine vx_calli (vx_runV (As := [.int p0]) (rest := [.int 0, .ref go]) ⟨hx, hb, hml, hown, hts⟩ (kX11_parametersOf l dC dI (gx := gx) (gq1 := gq1) (gq4 := gq4) (gq13 := gq13) (gq136 := gq136) (gq137 := gq137) (gq138 := gq138) (gq150 := gq150) (gq151 := gq151) (gq152 := gq152) (gq153 := gq153) (gq154 := gq154) (gq155 := gq155) (gq156 := gq156) (gq157 := gq157) (gq158 := gq158) (gq159 := gq159) (gq160 := gq160) (gq161 := gq161) (gq172 := gq172) (gq184 := gq184) (p0 := p0) (sz := _) (hl9 := hl9)) (cwV 1 hts (gi_V qw487 qw488 qw489 qw222 (gi_z qw486)) rfl rfl rfl (by decide +kernel) ⟨Nat.le_of_ble_eq_true rfl, Nat.le_of_ble_eq_true rfl⟩) ⟨PRE.blind, va_recv hKc hPc (ci := 11) (q0 := 0) rfl rfl, PRE.of hE hS hFc hPc hKc hDc⟩ rfl rfl hl.1 rfl (lv_room (Nat.le_of_ble_eq_true rfl)) dL_parametersOf_4 ⟨Nat.le_of_ble_eq_true rfl, Nat.le_of_ble_eq_true rfl⟩) hS (fun q _ h => hFc q h) hFc (fun q _ h => hFc q h) (fun E ce q9 u t H locs ht hvm hw hB hz1 hk1 hS hce hcv hcl => ?_) (fun _ u t H locs ht hvm hw hB hz1 hk1 hS => hw.elim)
  obtain ⟨rfl, hB⟩ := hB
  obtain ⟨hP, hD, hK⟩ := JOIN (wr := []) hP hD hK [0, 1] [] [] rfl rfl (by decide) (by decide) rfl hk1 hFc ht hvm hB
  have hP : va_P (dC, dI) cls [] H := hP
  have hD : va_D A [] := hD
  have hK : va_K (dC, dI) cls [] s := hK
  refine vx_widen (k := 1) (n := 6) (Nat.le_of_ble_eq_true rfl) (Nat.le_of_ble_eq_true rfl) ?_
  refine vx_catch (own := RL) (name := "java/lang/IndexOutOfBoundsException") hown [] ⟨0, 9, 12, 24⟩ [] (htab.trans rfl) (fun z hz => by cases hz) (by decide) (by decide) (hts _ qw490) (hE.word (List.mem_append_right _ (tbl_9 (i := 38) rfl)) rfl) hce hcv hcl ?_
  refine lv_astore_n (lv' := [(3, .ref q9), (0, .ref gx), (1, .int p0), (2, .ref go)]) hx hb dL_parametersOf_12 rfl hl (by decide) rfl (fun ls hl => ?_)
  refine lv_iconst (v := 1) hx hb dL_parametersOf_13 (by decide) ?_
  have hP9 : va_P (dC, dI) cls [] H := hP.sub [] rfl
  have hD9 : va_D A [] := hD.sub [] (by decide) rfl
  have hK9 : va_K (dC, dI) cls [] s := hK.sub [] rfl
  exact W.iret (v := 1) hx hb hr (fun t ht hW => ⟨⟨1, (), rfl, rfl, ⟨by rw [ht]; exact hP9, va_K.moved hW.alike hK9, hD9⟩⟩, hS.F ht⟩) hS.2.2 dL_parametersOf_14
set_option maxHeartbeats 4000000 in
set_option maxRecDepth 100000 in
theorem kL_blocks {zs : Nat × Nat} (l : Launch) (dC : Nat → ClassId) (dI : Nat → Nat → Nat) (gx : Nat) (gq1 : Nat) (gq4 : Nat) (gq13 : Nat) (gq136 : Nat) (gq137 : Nat) (gq138 : Nat) (gq150 : Nat) (gq151 : Nat) (gq152 : Nat) (gq153 : Nat) (gq154 : Nat) (gq155 : Nat) (gq156 : Nat) (gq157 : Nat) (gq158 : Nat) (gq159 : Nat) (gq160 : Nat) (gq161 : Nat) (gq172 : Nat) (gq184 : Nat) (go : Nat) (p0 : Int32) (sz : Nat) (hl9 : l.stackTraces = false)  : Met l yL_blocks (wh yL_blocks cL_blocks 4 (Option.some Jvm.ClassFile.FieldType.int) [(0, 9, 12, 24)]) ({ frames := 8, cells := 1, slots := 6, locals := 142 }) (va_Pc [.ref gx, .int p0, .ref go] (PRE zs dC dI [(gx, .inr (11, [.ref gq1, .ref gq4, .ref gq13, .ref gq136, .ref gq137, .ref gq138, .ref gq172, .ref gq184, .ref gq150, .ref gq161, .int (-1)])), (gq150, .inr (2, [.int 0, .ref gq151, .ref gq152, .ref gq153, .ref gq154, .ref gq155, .ref gq156, .int 0, .ref gq157, .ref gq158, .ref gq159, .int 0, .ref gq160]))] [] sz)) (va_Qi (fun (r : Int32) (_ : Unit) => r = 1) (fun _ t => POST dC dI [] [] (va_A [(gx, .inr (11, [.ref gq1, .ref gq4, .ref gq13, .ref gq136, .ref gq137, .ref gq138, .ref gq172, .ref gq184, .ref gq150, .ref gq161, .int (-1)])), (gq150, .inr (2, [.int 0, .ref gq151, .ref gq152, .ref gq153, .ref gq154, .ref gq155, .ref gq156, .int 0, .ref gq157, .ref gq158, .ref gq159, .int 0, .ref gq160]))] sz) t) (va_A [(gx, .inr (11, [.ref gq1, .ref gq4, .ref gq13, .ref gq136, .ref gq137, .ref gq138, .ref gq172, .ref gq184, .ref gq150, .ref gq161, .int (-1)])), (gq150, .inr (2, [.int 0, .ref gq151, .ref gq152, .ref gq153, .ref gq154, .ref gq155, .ref gq156, .int 0, .ref gq157, .ref gq158, .ref gq159, .int 0, .ref gq160]))] sz)) 1 6 (va_A [(gx, .inr (11, [.ref gq1, .ref gq4, .ref gq13, .ref gq136, .ref gq137, .ref gq138, .ref gq172, .ref gq184, .ref gq150, .ref gq161, .int (-1)])), (gq150, .inr (2, [.int 0, .ref gq151, .ref gq152, .ref gq153, .ref gq154, .ref gq155, .ref gq156, .int 0, .ref gq157, .ref gq158, .ref gq159, .int 0, .ref gq160]))] sz) := by
  refine va_MetW (cc := cL_blocks) (maxL := 4) (ret := (Option.some Jvm.ClassFile.FieldType.int)) (hh := [(0, 9, 12, 24)]) (by decide) rfl ?_
  intro p e s m args below meth c s₁ B hml hv
  obtain ⟨rfl, hsz, hP, hK, hD0, hE⟩ := hv
  have hx := B.exec
  have hb := B.bytes
  have hr := B.returns
  have hts0 := atoms_spec (ws := wh yL_blocks cL_blocks 4 (Option.some Jvm.ClassFile.FieldType.int) [(0, 9, 12, 24)]) B.pre
  have htab := vx_table (x := yL_blocks) B (hts0 _ List.mem_cons_self)
  have hts : ∀ w ∈ gw, w.before _ s = true := fun w h => hts0 w (List.mem_cons_of_mem _ h)
  have hown : s.vm.findClass RL = some m.cls := findClass_of_methodNamed B.named
  have hlocks := B.notSynchronized
  subst hsz
  have hD := hD0.self (sz := s.heap.size)
  generalize hAe : va_A [(gx, .inr (11, [.ref gq1, .ref gq4, .ref gq13, .ref gq136, .ref gq137, .ref gq138, .ref gq172, .ref gq184, .ref gq150, .ref gq161, .int (-1)])), (gq150, .inr (2, [.int 0, .ref gq151, .ref gq152, .ref gq153, .ref gq154, .ref gq155, .ref gq156, .int 0, .ref gq157, .ref gq158, .ref gq159, .int 0, .ref gq160]))] s.heap.size = A at hD hE ⊢
  have hA : ∀ q : Nat, s.heap.size ≤ q → A q := fun q h => by rw [← hAe]; exact Or.inr h
  have hS : va_S A s.heap s.heap [] := va_S.rf
  have hP : va_P (dC, dI) cls [(gx, .inr (11, [.ref gq1, .ref gq4, .ref gq13, .ref gq136, .ref gq137, .ref gq138, .ref gq172, .ref gq184, .ref gq150, .ref gq161, .int (-1)])), (gq150, .inr (2, [.int 0, .ref gq151, .ref gq152, .ref gq153, .ref gq154, .ref gq155, .ref gq156, .int 0, .ref gq157, .ref gq158, .ref gq159, .int 0, .ref gq160]))] s.heap := hP
  have hl := lv_entry ([.ref gx, .int p0, .ref go]) (n := 4) (Nat.le_of_ble_eq_true rfl)
  rw [lg_entry_eq]
  generalize (lg_sl ([.ref gx, .int p0, .ref go]) ++ List.replicate (4 - (lg_sl ([.ref gx, .int p0, .ref go])).length) Slot.unset).toArray = ls at hl ⊢
  have hl : lv_has ls 4 [(0, .ref gx), (1, .int p0), (2, .ref go)] := hl
  refine lv_aload_n hx hb dL_blocks_0 rfl (lv_at hl 2 rfl) ?_
  refine lv_iconst (v := 0) hx hb dL_blocks_1 (by decide) ?_
  refine lv_aload_n hx hb dL_blocks_2 rfl (lv_at hl 0 rfl) ?_
  refine lv_iload_n hx hb dL_blocks_3 rfl (lv_at hl 1 rfl) ?_
  have hPc := hP.sub (ws' := [(gx, .inr (11, [.ref gq1, .ref gq4, .ref gq13, .ref gq136, .ref gq137, .ref gq138, .ref gq172, .ref gq184, .ref gq150, .ref gq161, .int (-1)])), (gq150, .inr (2, [.int 0, .ref gq151, .ref gq152, .ref gq153, .ref gq154, .ref gq155, .ref gq156, .int 0, .ref gq157, .ref gq158, .ref gq159, .int 0, .ref gq160]))]) [0, 1] rfl
  have hDc := hD.sub (ws' := [(gx, .inr (11, [.ref gq1, .ref gq4, .ref gq13, .ref gq136, .ref gq137, .ref gq138, .ref gq172, .ref gq184, .ref gq150, .ref gq161, .int (-1)])), (gq150, .inr (2, [.int 0, .ref gq151, .ref gq152, .ref gq153, .ref gq154, .ref gq155, .ref gq156, .int 0, .ref gq157, .ref gq158, .ref gq159, .int 0, .ref gq160]))]) [0, 1] (by decide) rfl
  have hKc := hK.sub (tys' := []) [] rfl
  have hFc := va_free (wc := [(gx, .inr (11, [.ref gq1, .ref gq4, .ref gq13, .ref gq136, .ref gq137, .ref gq138, .ref gq172, .ref gq184, .ref gq150, .ref gq161, .int (-1)])), (gq150, .inr (2, [.int 0, .ref gq151, .ref gq152, .ref gq153, .ref gq154, .ref gq155, .ref gq156, .int 0, .ref gq157, .ref gq158, .ref gq159, .int 0, .ref gq160]))]) hD hS hA [0, 1] rfl
  refine vx_calli (vx_runV (As := [.int p0]) (rest := [.int 0, .ref go]) ⟨hx, hb, hml, hown, hts⟩ (kX11_blocks l dC dI (gx := gx) (gq1 := gq1) (gq4 := gq4) (gq13 := gq13) (gq136 := gq136) (gq137 := gq137) (gq138 := gq138) (gq150 := gq150) (gq151 := gq151) (gq152 := gq152) (gq153 := gq153) (gq154 := gq154) (gq155 := gq155) (gq156 := gq156) (gq157 := gq157) (gq158 := gq158) (gq159 := gq159) (gq160 := gq160) (gq161 := gq161) (gq172 := gq172) (gq184 := gq184) (p0 := p0) (sz := _) (hl9 := hl9)) (cwV 1 hts (gi_V qw492 qw493 qw494 qw222 (gi_z qw491)) rfl rfl rfl (by decide +kernel) ⟨Nat.le_of_ble_eq_true rfl, Nat.le_of_ble_eq_true rfl⟩) ⟨PRE.blind, va_recv hKc hPc (ci := 11) (q0 := 0) rfl rfl, PRE.of hE hS hFc hPc hKc hDc⟩ rfl rfl hl.1 rfl (lv_room (Nat.le_of_ble_eq_true rfl)) dL_blocks_4 ⟨Nat.le_of_ble_eq_true rfl, Nat.le_of_ble_eq_true rfl⟩) hS (fun q _ h => hFc q h) hFc (fun q _ h => hFc q h) (fun E ce q9 u t H locs ht hvm hw hB hz1 hk1 hS hce hcv hcl => ?_) (fun _ u t H locs ht hvm hw hB hz1 hk1 hS => hw.elim)
  obtain ⟨rfl, hB⟩ := hB
  obtain ⟨hP, hD, hK⟩ := JOIN (wr := []) hP hD hK [0, 1] [] [] rfl rfl (by decide) (by decide) rfl hk1 hFc ht hvm hB
  have hP : va_P (dC, dI) cls [] H := hP
  have hD : va_D A [] := hD
  have hK : va_K (dC, dI) cls [] s := hK
  refine vx_widen (k := 1) (n := 6) (Nat.le_of_ble_eq_true rfl) (Nat.le_of_ble_eq_true rfl) ?_
  refine vx_catch (own := RL) (name := "java/lang/IndexOutOfBoundsException") hown [] ⟨0, 9, 12, 24⟩ [] (htab.trans rfl) (fun z hz => by cases hz) (by decide) (by decide) (hts _ qw490) (hE.word (List.mem_append_right _ (tbl_9 (i := 38) rfl)) rfl) hce hcv hcl ?_
  refine lv_astore_n (lv' := [(3, .ref q9), (0, .ref gx), (1, .int p0), (2, .ref go)]) hx hb dL_blocks_12 rfl hl (by decide) rfl (fun ls hl => ?_)
  refine lv_iconst (v := 1) hx hb dL_blocks_13 (by decide) ?_
  have hP9 : va_P (dC, dI) cls [] H := hP.sub [] rfl
  have hD9 : va_D A [] := hD.sub [] (by decide) rfl
  have hK9 : va_K (dC, dI) cls [] s := hK.sub [] rfl
  exact W.iret (v := 1) hx hb hr (fun t ht hW => ⟨⟨1, (), rfl, rfl, ⟨by rw [ht]; exact hP9, va_K.moved hW.alike hK9, hD9⟩⟩, hS.F ht⟩) hS.2.2 dL_blocks_14
set_option maxHeartbeats 4000000 in
set_option maxRecDepth 100000 in
theorem kL_values {zs : Nat × Nat} (l : Launch) (dC : Nat → ClassId) (dI : Nat → Nat → Nat) (gx : Nat) (gq1 : Nat) (gq4 : Nat) (gq13 : Nat) (gq136 : Nat) (gq137 : Nat) (gq138 : Nat) (gq150 : Nat) (gq151 : Nat) (gq152 : Nat) (gq153 : Nat) (gq154 : Nat) (gq155 : Nat) (gq156 : Nat) (gq157 : Nat) (gq158 : Nat) (gq159 : Nat) (gq160 : Nat) (gq161 : Nat) (gq172 : Nat) (gq184 : Nat) (go : Nat) (p0 : Int32) (sz : Nat) (hl9 : l.stackTraces = false)  : Met l yL_values (wh yL_values cL_values 4 (Option.some Jvm.ClassFile.FieldType.int) [(0, 9, 12, 24)]) ({ frames := 8, cells := 1, slots := 6, locals := 142 }) (va_Pc [.ref gx, .int p0, .ref go] (PRE zs dC dI [(gx, .inr (11, [.ref gq1, .ref gq4, .ref gq13, .ref gq136, .ref gq137, .ref gq138, .ref gq172, .ref gq184, .ref gq150, .ref gq161, .int (-1)])), (gq150, .inr (2, [.int 0, .ref gq151, .ref gq152, .ref gq153, .ref gq154, .ref gq155, .ref gq156, .int 0, .ref gq157, .ref gq158, .ref gq159, .int 0, .ref gq160]))] [] sz)) (va_Qi (fun (r : Int32) (_ : Unit) => r = 1) (fun _ t => POST dC dI [] [] (va_A [(gx, .inr (11, [.ref gq1, .ref gq4, .ref gq13, .ref gq136, .ref gq137, .ref gq138, .ref gq172, .ref gq184, .ref gq150, .ref gq161, .int (-1)])), (gq150, .inr (2, [.int 0, .ref gq151, .ref gq152, .ref gq153, .ref gq154, .ref gq155, .ref gq156, .int 0, .ref gq157, .ref gq158, .ref gq159, .int 0, .ref gq160]))] sz) t) (va_A [(gx, .inr (11, [.ref gq1, .ref gq4, .ref gq13, .ref gq136, .ref gq137, .ref gq138, .ref gq172, .ref gq184, .ref gq150, .ref gq161, .int (-1)])), (gq150, .inr (2, [.int 0, .ref gq151, .ref gq152, .ref gq153, .ref gq154, .ref gq155, .ref gq156, .int 0, .ref gq157, .ref gq158, .ref gq159, .int 0, .ref gq160]))] sz)) 1 6 (va_A [(gx, .inr (11, [.ref gq1, .ref gq4, .ref gq13, .ref gq136, .ref gq137, .ref gq138, .ref gq172, .ref gq184, .ref gq150, .ref gq161, .int (-1)])), (gq150, .inr (2, [.int 0, .ref gq151, .ref gq152, .ref gq153, .ref gq154, .ref gq155, .ref gq156, .int 0, .ref gq157, .ref gq158, .ref gq159, .int 0, .ref gq160]))] sz) := by
  refine va_MetW (cc := cL_values) (maxL := 4) (ret := (Option.some Jvm.ClassFile.FieldType.int)) (hh := [(0, 9, 12, 24)]) (by decide) rfl ?_
  intro p e s m args below meth c s₁ B hml hv
  obtain ⟨rfl, hsz, hP, hK, hD0, hE⟩ := hv
  have hx := B.exec
  have hb := B.bytes
  have hr := B.returns
  have hts0 := atoms_spec (ws := wh yL_values cL_values 4 (Option.some Jvm.ClassFile.FieldType.int) [(0, 9, 12, 24)]) B.pre
  have htab := vx_table (x := yL_values) B (hts0 _ List.mem_cons_self)
  have hts : ∀ w ∈ gw, w.before _ s = true := fun w h => hts0 w (List.mem_cons_of_mem _ h)
  have hown : s.vm.findClass RL = some m.cls := findClass_of_methodNamed B.named
  have hlocks := B.notSynchronized
  subst hsz
  have hD := hD0.self (sz := s.heap.size)
  generalize hAe : va_A [(gx, .inr (11, [.ref gq1, .ref gq4, .ref gq13, .ref gq136, .ref gq137, .ref gq138, .ref gq172, .ref gq184, .ref gq150, .ref gq161, .int (-1)])), (gq150, .inr (2, [.int 0, .ref gq151, .ref gq152, .ref gq153, .ref gq154, .ref gq155, .ref gq156, .int 0, .ref gq157, .ref gq158, .ref gq159, .int 0, .ref gq160]))] s.heap.size = A at hD hE ⊢
  have hA : ∀ q : Nat, s.heap.size ≤ q → A q := fun q h => by rw [← hAe]; exact Or.inr h
  have hS : va_S A s.heap s.heap [] := va_S.rf
  have hP : va_P (dC, dI) cls [(gx, .inr (11, [.ref gq1, .ref gq4, .ref gq13, .ref gq136, .ref gq137, .ref gq138, .ref gq172, .ref gq184, .ref gq150, .ref gq161, .int (-1)])), (gq150, .inr (2, [.int 0, .ref gq151, .ref gq152, .ref gq153, .ref gq154, .ref gq155, .ref gq156, .int 0, .ref gq157, .ref gq158, .ref gq159, .int 0, .ref gq160]))] s.heap := hP
  have hl := lv_entry ([.ref gx, .int p0, .ref go]) (n := 4) (Nat.le_of_ble_eq_true rfl)
  rw [lg_entry_eq]
  generalize (lg_sl ([.ref gx, .int p0, .ref go]) ++ List.replicate (4 - (lg_sl ([.ref gx, .int p0, .ref go])).length) Slot.unset).toArray = ls at hl ⊢
  have hl : lv_has ls 4 [(0, .ref gx), (1, .int p0), (2, .ref go)] := hl
  refine lv_aload_n hx hb dL_values_0 rfl (lv_at hl 2 rfl) ?_
  refine lv_iconst (v := 0) hx hb dL_values_1 (by decide) ?_
  refine lv_aload_n hx hb dL_values_2 rfl (lv_at hl 0 rfl) ?_
  refine lv_iload_n hx hb dL_values_3 rfl (lv_at hl 1 rfl) ?_
  have hPc := hP.sub (ws' := [(gx, .inr (11, [.ref gq1, .ref gq4, .ref gq13, .ref gq136, .ref gq137, .ref gq138, .ref gq172, .ref gq184, .ref gq150, .ref gq161, .int (-1)])), (gq150, .inr (2, [.int 0, .ref gq151, .ref gq152, .ref gq153, .ref gq154, .ref gq155, .ref gq156, .int 0, .ref gq157, .ref gq158, .ref gq159, .int 0, .ref gq160]))]) [0, 1] rfl
  have hDc := hD.sub (ws' := [(gx, .inr (11, [.ref gq1, .ref gq4, .ref gq13, .ref gq136, .ref gq137, .ref gq138, .ref gq172, .ref gq184, .ref gq150, .ref gq161, .int (-1)])), (gq150, .inr (2, [.int 0, .ref gq151, .ref gq152, .ref gq153, .ref gq154, .ref gq155, .ref gq156, .int 0, .ref gq157, .ref gq158, .ref gq159, .int 0, .ref gq160]))]) [0, 1] (by decide) rfl
  have hKc := hK.sub (tys' := []) [] rfl
  have hFc := va_free (wc := [(gx, .inr (11, [.ref gq1, .ref gq4, .ref gq13, .ref gq136, .ref gq137, .ref gq138, .ref gq172, .ref gq184, .ref gq150, .ref gq161, .int (-1)])), (gq150, .inr (2, [.int 0, .ref gq151, .ref gq152, .ref gq153, .ref gq154, .ref gq155, .ref gq156, .int 0, .ref gq157, .ref gq158, .ref gq159, .int 0, .ref gq160]))]) hD hS hA [0, 1] rfl
  refine vx_calli (vx_runV (As := [.int p0]) (rest := [.int 0, .ref go]) ⟨hx, hb, hml, hown, hts⟩ (kX11_values l dC dI (gx := gx) (gq1 := gq1) (gq4 := gq4) (gq13 := gq13) (gq136 := gq136) (gq137 := gq137) (gq138 := gq138) (gq150 := gq150) (gq151 := gq151) (gq152 := gq152) (gq153 := gq153) (gq154 := gq154) (gq155 := gq155) (gq156 := gq156) (gq157 := gq157) (gq158 := gq158) (gq159 := gq159) (gq160 := gq160) (gq161 := gq161) (gq172 := gq172) (gq184 := gq184) (p0 := p0) (sz := _) (hl9 := hl9)) (cwV 1 hts (gi_V qw496 qw497 qw498 qw222 (gi_z qw495)) rfl rfl rfl (by decide +kernel) ⟨Nat.le_of_ble_eq_true rfl, Nat.le_of_ble_eq_true rfl⟩) ⟨PRE.blind, va_recv hKc hPc (ci := 11) (q0 := 0) rfl rfl, PRE.of hE hS hFc hPc hKc hDc⟩ rfl rfl hl.1 rfl (lv_room (Nat.le_of_ble_eq_true rfl)) dL_values_4 ⟨Nat.le_of_ble_eq_true rfl, Nat.le_of_ble_eq_true rfl⟩) hS (fun q _ h => hFc q h) hFc (fun q _ h => hFc q h) (fun E ce q9 u t H locs ht hvm hw hB hz1 hk1 hS hce hcv hcl => ?_) (fun _ u t H locs ht hvm hw hB hz1 hk1 hS => hw.elim)
  obtain ⟨rfl, hB⟩ := hB
  obtain ⟨hP, hD, hK⟩ := JOIN (wr := []) hP hD hK [0, 1] [] [] rfl rfl (by decide) (by decide) rfl hk1 hFc ht hvm hB
  have hP : va_P (dC, dI) cls [] H := hP
  have hD : va_D A [] := hD
  have hK : va_K (dC, dI) cls [] s := hK
  refine vx_widen (k := 1) (n := 6) (Nat.le_of_ble_eq_true rfl) (Nat.le_of_ble_eq_true rfl) ?_
  refine vx_catch (own := RL) (name := "java/lang/IndexOutOfBoundsException") hown [] ⟨0, 9, 12, 24⟩ [] (htab.trans rfl) (fun z hz => by cases hz) (by decide) (by decide) (hts _ qw490) (hE.word (List.mem_append_right _ (tbl_9 (i := 38) rfl)) rfl) hce hcv hcl ?_
  refine lv_astore_n (lv' := [(3, .ref q9), (0, .ref gx), (1, .int p0), (2, .ref go)]) hx hb dL_values_12 rfl hl (by decide) rfl (fun ls hl => ?_)
  refine lv_iconst (v := 1) hx hb dL_values_13 (by decide) ?_
  have hP9 : va_P (dC, dI) cls [] H := hP.sub [] rfl
  have hD9 : va_D A [] := hD.sub [] (by decide) rfl
  have hK9 : va_K (dC, dI) cls [] s := hK.sub [] rfl
  exact W.iret (v := 1) hx hb hr (fun t ht hW => ⟨⟨1, (), rfl, rfl, ⟨by rw [ht]; exact hP9, va_K.moved hW.alike hK9, hD9⟩⟩, hS.F ht⟩) hS.2.2 dL_values_14
set_option maxHeartbeats 4000000 in
set_option maxRecDepth 100000 in
theorem kL_blockOf {zs : Nat × Nat} (l : Launch) (dC : Nat → ClassId) (dI : Nat → Nat → Nat) (gx : Nat) (gq1 : Nat) (gq4 : Nat) (gq13 : Nat) (gq136 : Nat) (gq137 : Nat) (gq138 : Nat) (gq150 : Nat) (gq151 : Nat) (gq152 : Nat) (gq153 : Nat) (gq154 : Nat) (gq155 : Nat) (gq156 : Nat) (gq157 : Nat) (gq158 : Nat) (gq159 : Nat) (gq160 : Nat) (gq161 : Nat) (gq172 : Nat) (gq184 : Nat) (go : Nat) (p0 : Int32) (p1 : Int32) (sz : Nat) (hl9 : l.stackTraces = false)  : Met l yL_blockOf (wh yL_blockOf cL_blockOf 5 (Option.some Jvm.ClassFile.FieldType.int) [(0, 10, 13, 24)]) ({ frames := 8, cells := 1, slots := 6, locals := 143 }) (va_Pc [.ref gx, .int p0, .int p1, .ref go] (PRE zs dC dI [(gx, .inr (11, [.ref gq1, .ref gq4, .ref gq13, .ref gq136, .ref gq137, .ref gq138, .ref gq172, .ref gq184, .ref gq150, .ref gq161, .int (-1)])), (gq150, .inr (2, [.int 0, .ref gq151, .ref gq152, .ref gq153, .ref gq154, .ref gq155, .ref gq156, .int 0, .ref gq157, .ref gq158, .ref gq159, .int 0, .ref gq160]))] [] sz)) (va_Qi (fun (r : Int32) (_ : Unit) => r = 1) (fun _ t => POST dC dI [] [] (va_A [(gx, .inr (11, [.ref gq1, .ref gq4, .ref gq13, .ref gq136, .ref gq137, .ref gq138, .ref gq172, .ref gq184, .ref gq150, .ref gq161, .int (-1)])), (gq150, .inr (2, [.int 0, .ref gq151, .ref gq152, .ref gq153, .ref gq154, .ref gq155, .ref gq156, .int 0, .ref gq157, .ref gq158, .ref gq159, .int 0, .ref gq160]))] sz) t) (va_A [(gx, .inr (11, [.ref gq1, .ref gq4, .ref gq13, .ref gq136, .ref gq137, .ref gq138, .ref gq172, .ref gq184, .ref gq150, .ref gq161, .int (-1)])), (gq150, .inr (2, [.int 0, .ref gq151, .ref gq152, .ref gq153, .ref gq154, .ref gq155, .ref gq156, .int 0, .ref gq157, .ref gq158, .ref gq159, .int 0, .ref gq160]))] sz)) 1 6 (va_A [(gx, .inr (11, [.ref gq1, .ref gq4, .ref gq13, .ref gq136, .ref gq137, .ref gq138, .ref gq172, .ref gq184, .ref gq150, .ref gq161, .int (-1)])), (gq150, .inr (2, [.int 0, .ref gq151, .ref gq152, .ref gq153, .ref gq154, .ref gq155, .ref gq156, .int 0, .ref gq157, .ref gq158, .ref gq159, .int 0, .ref gq160]))] sz) := by
  refine va_MetW (cc := cL_blockOf) (maxL := 5) (ret := (Option.some Jvm.ClassFile.FieldType.int)) (hh := [(0, 10, 13, 24)]) (by decide) rfl ?_
  intro p e s m args below meth c s₁ B hml hv
  obtain ⟨rfl, hsz, hP, hK, hD0, hE⟩ := hv
  have hx := B.exec
  have hb := B.bytes
  have hr := B.returns
  have hts0 := atoms_spec (ws := wh yL_blockOf cL_blockOf 5 (Option.some Jvm.ClassFile.FieldType.int) [(0, 10, 13, 24)]) B.pre
  have htab := vx_table (x := yL_blockOf) B (hts0 _ List.mem_cons_self)
  have hts : ∀ w ∈ gw, w.before _ s = true := fun w h => hts0 w (List.mem_cons_of_mem _ h)
  have hown : s.vm.findClass RL = some m.cls := findClass_of_methodNamed B.named
  have hlocks := B.notSynchronized
  subst hsz
  have hD := hD0.self (sz := s.heap.size)
  generalize hAe : va_A [(gx, .inr (11, [.ref gq1, .ref gq4, .ref gq13, .ref gq136, .ref gq137, .ref gq138, .ref gq172, .ref gq184, .ref gq150, .ref gq161, .int (-1)])), (gq150, .inr (2, [.int 0, .ref gq151, .ref gq152, .ref gq153, .ref gq154, .ref gq155, .ref gq156, .int 0, .ref gq157, .ref gq158, .ref gq159, .int 0, .ref gq160]))] s.heap.size = A at hD hE ⊢
  have hA : ∀ q : Nat, s.heap.size ≤ q → A q := fun q h => by rw [← hAe]; exact Or.inr h
  have hS : va_S A s.heap s.heap [] := va_S.rf
  have hP : va_P (dC, dI) cls [(gx, .inr (11, [.ref gq1, .ref gq4, .ref gq13, .ref gq136, .ref gq137, .ref gq138, .ref gq172, .ref gq184, .ref gq150, .ref gq161, .int (-1)])), (gq150, .inr (2, [.int 0, .ref gq151, .ref gq152, .ref gq153, .ref gq154, .ref gq155, .ref gq156, .int 0, .ref gq157, .ref gq158, .ref gq159, .int 0, .ref gq160]))] s.heap := hP
  have hl := lv_entry ([.ref gx, .int p0, .int p1, .ref go]) (n := 5) (Nat.le_of_ble_eq_true rfl)
  rw [lg_entry_eq]
  generalize (lg_sl ([.ref gx, .int p0, .int p1, .ref go]) ++ List.replicate (5 - (lg_sl ([.ref gx, .int p0, .int p1, .ref go])).length) Slot.unset).toArray = ls at hl ⊢
  have hl : lv_has ls 5 [(0, .ref gx), (1, .int p0), (2, .int p1), (3, .ref go)] := hl
  refine lv_aload_n hx hb dL_blockOf_0 rfl (lv_at hl 3 rfl) ?_
  refine lv_iconst (v := 0) hx hb dL_blockOf_1 (by decide) ?_
  refine lv_aload_n hx hb dL_blockOf_2 rfl (lv_at hl 0 rfl) ?_
  refine lv_iload_n hx hb dL_blockOf_3 rfl (lv_at hl 1 rfl) ?_
  refine lv_iload_n hx hb dL_blockOf_4 rfl (lv_at hl 2 rfl) ?_
  have hPc := hP.sub (ws' := [(gx, .inr (11, [.ref gq1, .ref gq4, .ref gq13, .ref gq136, .ref gq137, .ref gq138, .ref gq172, .ref gq184, .ref gq150, .ref gq161, .int (-1)])), (gq150, .inr (2, [.int 0, .ref gq151, .ref gq152, .ref gq153, .ref gq154, .ref gq155, .ref gq156, .int 0, .ref gq157, .ref gq158, .ref gq159, .int 0, .ref gq160]))]) [0, 1] rfl
  have hDc := hD.sub (ws' := [(gx, .inr (11, [.ref gq1, .ref gq4, .ref gq13, .ref gq136, .ref gq137, .ref gq138, .ref gq172, .ref gq184, .ref gq150, .ref gq161, .int (-1)])), (gq150, .inr (2, [.int 0, .ref gq151, .ref gq152, .ref gq153, .ref gq154, .ref gq155, .ref gq156, .int 0, .ref gq157, .ref gq158, .ref gq159, .int 0, .ref gq160]))]) [0, 1] (by decide) rfl
  have hKc := hK.sub (tys' := []) [] rfl
  have hFc := va_free (wc := [(gx, .inr (11, [.ref gq1, .ref gq4, .ref gq13, .ref gq136, .ref gq137, .ref gq138, .ref gq172, .ref gq184, .ref gq150, .ref gq161, .int (-1)])), (gq150, .inr (2, [.int 0, .ref gq151, .ref gq152, .ref gq153, .ref gq154, .ref gq155, .ref gq156, .int 0, .ref gq157, .ref gq158, .ref gq159, .int 0, .ref gq160]))]) hD hS hA [0, 1] rfl
  refine vx_calli (vx_runV (As := [.int p0, .int p1]) (rest := [.int 0, .ref go]) ⟨hx, hb, hml, hown, hts⟩ (kX11_blockOf l dC dI (gx := gx) (gq1 := gq1) (gq4 := gq4) (gq13 := gq13) (gq136 := gq136) (gq137 := gq137) (gq138 := gq138) (gq150 := gq150) (gq151 := gq151) (gq152 := gq152) (gq153 := gq153) (gq154 := gq154) (gq155 := gq155) (gq156 := gq156) (gq157 := gq157) (gq158 := gq158) (gq159 := gq159) (gq160 := gq160) (gq161 := gq161) (gq172 := gq172) (gq184 := gq184) (p0 := p0) (p1 := p1) (sz := _) (hl9 := hl9)) (cwV 2 hts (gi_V qw500 qw501 qw502 qw222 (gi_z qw499)) rfl rfl rfl (by decide +kernel) ⟨Nat.le_of_ble_eq_true rfl, Nat.le_of_ble_eq_true rfl⟩) ⟨PRE.blind, va_recv hKc hPc (ci := 11) (q0 := 0) rfl rfl, PRE.of hE hS hFc hPc hKc hDc⟩ rfl rfl hl.1 rfl (lv_room (Nat.le_of_ble_eq_true rfl)) dL_blockOf_5 ⟨Nat.le_of_ble_eq_true rfl, Nat.le_of_ble_eq_true rfl⟩) hS (fun q _ h => hFc q h) hFc (fun q _ h => hFc q h) (fun E ce q9 u t H locs ht hvm hw hB hz1 hk1 hS hce hcv hcl => ?_) (fun _ u t H locs ht hvm hw hB hz1 hk1 hS => hw.elim)
  obtain ⟨rfl, hB⟩ := hB
  obtain ⟨hP, hD, hK⟩ := JOIN (wr := []) hP hD hK [0, 1] [] [] rfl rfl (by decide) (by decide) rfl hk1 hFc ht hvm hB
  have hP : va_P (dC, dI) cls [] H := hP
  have hD : va_D A [] := hD
  have hK : va_K (dC, dI) cls [] s := hK
  refine vx_widen (k := 1) (n := 6) (Nat.le_of_ble_eq_true rfl) (Nat.le_of_ble_eq_true rfl) ?_
  refine vx_catch (own := RL) (name := "java/lang/IndexOutOfBoundsException") hown [] ⟨0, 10, 13, 24⟩ [] (htab.trans rfl) (fun z hz => by cases hz) (by decide) (by decide) (hts _ qw490) (hE.word (List.mem_append_right _ (tbl_9 (i := 38) rfl)) rfl) hce hcv hcl ?_
  refine lv_astore (lv' := [(4, .ref q9), (0, .ref gx), (1, .int p0), (2, .int p1), (3, .ref go)]) hx hb dL_blockOf_13 hl (by decide) rfl (fun ls hl => ?_)
  refine lv_iconst (v := 1) hx hb dL_blockOf_15 (by decide) ?_
  have hP9 : va_P (dC, dI) cls [] H := hP.sub [] rfl
  have hD9 : va_D A [] := hD.sub [] (by decide) rfl
  have hK9 : va_K (dC, dI) cls [] s := hK.sub [] rfl
  exact W.iret (v := 1) hx hb hr (fun t ht hW => ⟨⟨1, (), rfl, rfl, ⟨by rw [ht]; exact hP9, va_K.moved hW.alike hK9, hD9⟩⟩, hS.F ht⟩) hS.2.2 dL_blockOf_16
set_option maxHeartbeats 4000000 in
set_option maxRecDepth 100000 in
theorem kL_dominatorOf {zs : Nat × Nat} (l : Launch) (dC : Nat → ClassId) (dI : Nat → Nat → Nat) (gx : Nat) (gq1 : Nat) (gq4 : Nat) (gq13 : Nat) (gq136 : Nat) (gq137 : Nat) (gq138 : Nat) (gq150 : Nat) (gq151 : Nat) (gq152 : Nat) (gq153 : Nat) (gq154 : Nat) (gq155 : Nat) (gq156 : Nat) (gq157 : Nat) (gq158 : Nat) (gq159 : Nat) (gq160 : Nat) (gq161 : Nat) (gq172 : Nat) (gq184 : Nat) (go : Nat) (p0 : Int32) (p1 : Int32) (sz : Nat) (hl9 : l.stackTraces = false)  : Met l yL_dominatorOf (wh yL_dominatorOf cL_dominatorOf 5 (Option.some Jvm.ClassFile.FieldType.int) [(0, 10, 13, 24)]) ({ frames := 9, cells := 1, slots := 6, locals := 165 }) (va_Pc [.ref gx, .int p0, .int p1, .ref go] (PRE zs dC dI [(gx, .inr (11, [.ref gq1, .ref gq4, .ref gq13, .ref gq136, .ref gq137, .ref gq138, .ref gq172, .ref gq184, .ref gq150, .ref gq161, .int (-1)])), (gq150, .inr (2, [.int 0, .ref gq151, .ref gq152, .ref gq153, .ref gq154, .ref gq155, .ref gq156, .int 0, .ref gq157, .ref gq158, .ref gq159, .int 0, .ref gq160]))] [] sz)) (va_Qi (fun (r : Int32) (_ : Unit) => r = 1) (fun _ t => POST dC dI [] [] (va_A [(gx, .inr (11, [.ref gq1, .ref gq4, .ref gq13, .ref gq136, .ref gq137, .ref gq138, .ref gq172, .ref gq184, .ref gq150, .ref gq161, .int (-1)])), (gq150, .inr (2, [.int 0, .ref gq151, .ref gq152, .ref gq153, .ref gq154, .ref gq155, .ref gq156, .int 0, .ref gq157, .ref gq158, .ref gq159, .int 0, .ref gq160]))] sz) t) (va_A [(gx, .inr (11, [.ref gq1, .ref gq4, .ref gq13, .ref gq136, .ref gq137, .ref gq138, .ref gq172, .ref gq184, .ref gq150, .ref gq161, .int (-1)])), (gq150, .inr (2, [.int 0, .ref gq151, .ref gq152, .ref gq153, .ref gq154, .ref gq155, .ref gq156, .int 0, .ref gq157, .ref gq158, .ref gq159, .int 0, .ref gq160]))] sz)) 1 6 (va_A [(gx, .inr (11, [.ref gq1, .ref gq4, .ref gq13, .ref gq136, .ref gq137, .ref gq138, .ref gq172, .ref gq184, .ref gq150, .ref gq161, .int (-1)])), (gq150, .inr (2, [.int 0, .ref gq151, .ref gq152, .ref gq153, .ref gq154, .ref gq155, .ref gq156, .int 0, .ref gq157, .ref gq158, .ref gq159, .int 0, .ref gq160]))] sz) := by
  refine va_MetW (cc := cL_dominatorOf) (maxL := 5) (ret := (Option.some Jvm.ClassFile.FieldType.int)) (hh := [(0, 10, 13, 24)]) (by decide) rfl ?_
  intro p e s m args below meth c s₁ B hml hv
  obtain ⟨rfl, hsz, hP, hK, hD0, hE⟩ := hv
  have hx := B.exec
  have hb := B.bytes
  have hr := B.returns
  have hts0 := atoms_spec (ws := wh yL_dominatorOf cL_dominatorOf 5 (Option.some Jvm.ClassFile.FieldType.int) [(0, 10, 13, 24)]) B.pre
  have htab := vx_table (x := yL_dominatorOf) B (hts0 _ List.mem_cons_self)
  have hts : ∀ w ∈ gw, w.before _ s = true := fun w h => hts0 w (List.mem_cons_of_mem _ h)
  have hown : s.vm.findClass RL = some m.cls := findClass_of_methodNamed B.named
  have hlocks := B.notSynchronized
  subst hsz
  have hD := hD0.self (sz := s.heap.size)
  generalize hAe : va_A [(gx, .inr (11, [.ref gq1, .ref gq4, .ref gq13, .ref gq136, .ref gq137, .ref gq138, .ref gq172, .ref gq184, .ref gq150, .ref gq161, .int (-1)])), (gq150, .inr (2, [.int 0, .ref gq151, .ref gq152, .ref gq153, .ref gq154, .ref gq155, .ref gq156, .int 0, .ref gq157, .ref gq158, .ref gq159, .int 0, .ref gq160]))] s.heap.size = A at hD hE ⊢
  have hA : ∀ q : Nat, s.heap.size ≤ q → A q := fun q h => by rw [← hAe]; exact Or.inr h
  have hS : va_S A s.heap s.heap [] := va_S.rf
  have hP : va_P (dC, dI) cls [(gx, .inr (11, [.ref gq1, .ref gq4, .ref gq13, .ref gq136, .ref gq137, .ref gq138, .ref gq172, .ref gq184, .ref gq150, .ref gq161, .int (-1)])), (gq150, .inr (2, [.int 0, .ref gq151, .ref gq152, .ref gq153, .ref gq154, .ref gq155, .ref gq156, .int 0, .ref gq157, .ref gq158, .ref gq159, .int 0, .ref gq160]))] s.heap := hP
  have hl := lv_entry ([.ref gx, .int p0, .int p1, .ref go]) (n := 5) (Nat.le_of_ble_eq_true rfl)
  rw [lg_entry_eq]
  generalize (lg_sl ([.ref gx, .int p0, .int p1, .ref go]) ++ List.replicate (5 - (lg_sl ([.ref gx, .int p0, .int p1, .ref go])).length) Slot.unset).toArray = ls at hl ⊢
  have hl : lv_has ls 5 [(0, .ref gx), (1, .int p0), (2, .int p1), (3, .ref go)] := hl
  refine lv_aload_n hx hb dL_dominatorOf_0 rfl (lv_at hl 3 rfl) ?_
  refine lv_iconst (v := 0) hx hb dL_dominatorOf_1 (by decide) ?_
  refine lv_aload_n hx hb dL_dominatorOf_2 rfl (lv_at hl 0 rfl) ?_
  refine lv_iload_n hx hb dL_dominatorOf_3 rfl (lv_at hl 1 rfl) ?_
  refine lv_iload_n hx hb dL_dominatorOf_4 rfl (lv_at hl 2 rfl) ?_
  have hPc := hP.sub (ws' := [(gx, .inr (11, [.ref gq1, .ref gq4, .ref gq13, .ref gq136, .ref gq137, .ref gq138, .ref gq172, .ref gq184, .ref gq150, .ref gq161, .int (-1)])), (gq150, .inr (2, [.int 0, .ref gq151, .ref gq152, .ref gq153, .ref gq154, .ref gq155, .ref gq156, .int 0, .ref gq157, .ref gq158, .ref gq159, .int 0, .ref gq160]))]) [0, 1] rfl
  have hDc := hD.sub (ws' := [(gx, .inr (11, [.ref gq1, .ref gq4, .ref gq13, .ref gq136, .ref gq137, .ref gq138, .ref gq172, .ref gq184, .ref gq150, .ref gq161, .int (-1)])), (gq150, .inr (2, [.int 0, .ref gq151, .ref gq152, .ref gq153, .ref gq154, .ref gq155, .ref gq156, .int 0, .ref gq157, .ref gq158, .ref gq159, .int 0, .ref gq160]))]) [0, 1] (by decide) rfl
  have hKc := hK.sub (tys' := []) [] rfl
  have hFc := va_free (wc := [(gx, .inr (11, [.ref gq1, .ref gq4, .ref gq13, .ref gq136, .ref gq137, .ref gq138, .ref gq172, .ref gq184, .ref gq150, .ref gq161, .int (-1)])), (gq150, .inr (2, [.int 0, .ref gq151, .ref gq152, .ref gq153, .ref gq154, .ref gq155, .ref gq156, .int 0, .ref gq157, .ref gq158, .ref gq159, .int 0, .ref gq160]))]) hD hS hA [0, 1] rfl
  refine vx_calli (vx_runV (As := [.int p0, .int p1]) (rest := [.int 0, .ref go]) ⟨hx, hb, hml, hown, hts⟩ (kX11_dominatorOf l dC dI (gx := gx) (gq1 := gq1) (gq4 := gq4) (gq13 := gq13) (gq136 := gq136) (gq137 := gq137) (gq138 := gq138) (gq150 := gq150) (gq151 := gq151) (gq152 := gq152) (gq153 := gq153) (gq154 := gq154) (gq155 := gq155) (gq156 := gq156) (gq157 := gq157) (gq158 := gq158) (gq159 := gq159) (gq160 := gq160) (gq161 := gq161) (gq172 := gq172) (gq184 := gq184) (p0 := p0) (p1 := p1) (sz := _) (hl9 := hl9)) (cwV 2 hts (gi_V qw504 qw505 qw506 qw222 (gi_z qw503)) rfl rfl rfl (by decide +kernel) ⟨Nat.le_of_ble_eq_true rfl, Nat.le_of_ble_eq_true rfl⟩) ⟨PRE.blind, va_recv hKc hPc (ci := 11) (q0 := 0) rfl rfl, PRE.of hE hS hFc hPc hKc hDc⟩ rfl rfl hl.1 rfl (lv_room (Nat.le_of_ble_eq_true rfl)) dL_dominatorOf_5 ⟨Nat.le_of_ble_eq_true rfl, Nat.le_of_ble_eq_true rfl⟩) hS (fun q _ h => hFc q h) hFc (fun q _ h => hFc q h) (fun E ce q9 u t H locs ht hvm hw hB hz1 hk1 hS hce hcv hcl => ?_) (fun _ u t H locs ht hvm hw hB hz1 hk1 hS => hw.elim)
  obtain ⟨rfl, hB⟩ := hB
  obtain ⟨hP, hD, hK⟩ := JOIN (wr := []) hP hD hK [0, 1] [] [] rfl rfl (by decide) (by decide) rfl hk1 hFc ht hvm hB
  have hP : va_P (dC, dI) cls [] H := hP
  have hD : va_D A [] := hD
  have hK : va_K (dC, dI) cls [] s := hK
  refine vx_widen (k := 1) (n := 6) (Nat.le_of_ble_eq_true rfl) (Nat.le_of_ble_eq_true rfl) ?_
  refine vx_catch (own := RL) (name := "java/lang/IndexOutOfBoundsException") hown [] ⟨0, 10, 13, 24⟩ [] (htab.trans rfl) (fun z hz => by cases hz) (by decide) (by decide) (hts _ qw490) (hE.word (List.mem_append_right _ (tbl_9 (i := 38) rfl)) rfl) hce hcv hcl ?_
  refine lv_astore (lv' := [(4, .ref q9), (0, .ref gx), (1, .int p0), (2, .int p1), (3, .ref go)]) hx hb dL_dominatorOf_13 hl (by decide) rfl (fun ls hl => ?_)
  refine lv_iconst (v := 1) hx hb dL_dominatorOf_15 (by decide) ?_
  have hP9 : va_P (dC, dI) cls [] H := hP.sub [] rfl
  have hD9 : va_D A [] := hD.sub [] (by decide) rfl
  have hK9 : va_K (dC, dI) cls [] s := hK.sub [] rfl
  exact W.iret (v := 1) hx hb hr (fun t ht hW => ⟨⟨1, (), rfl, rfl, ⟨by rw [ht]; exact hP9, va_K.moved hW.alike hK9, hD9⟩⟩, hS.F ht⟩) hS.2.2 dL_dominatorOf_16
set_option maxHeartbeats 4000000 in
set_option maxRecDepth 100000 in
theorem kL_depthOf {zs : Nat × Nat} (l : Launch) (dC : Nat → ClassId) (dI : Nat → Nat → Nat) (gx : Nat) (gq1 : Nat) (gq4 : Nat) (gq13 : Nat) (gq136 : Nat) (gq137 : Nat) (gq138 : Nat) (gq150 : Nat) (gq151 : Nat) (gq152 : Nat) (gq153 : Nat) (gq154 : Nat) (gq155 : Nat) (gq156 : Nat) (gq157 : Nat) (gq158 : Nat) (gq159 : Nat) (gq160 : Nat) (gq161 : Nat) (gq172 : Nat) (gq184 : Nat) (go : Nat) (p0 : Int32) (p1 : Int32) (sz : Nat) (hl9 : l.stackTraces = false)  : Met l yL_depthOf (wh yL_depthOf cL_depthOf 5 (Option.some Jvm.ClassFile.FieldType.int) [(0, 10, 13, 24)]) ({ frames := 9, cells := 1, slots := 6, locals := 165 }) (va_Pc [.ref gx, .int p0, .int p1, .ref go] (PRE zs dC dI [(gx, .inr (11, [.ref gq1, .ref gq4, .ref gq13, .ref gq136, .ref gq137, .ref gq138, .ref gq172, .ref gq184, .ref gq150, .ref gq161, .int (-1)])), (gq150, .inr (2, [.int 0, .ref gq151, .ref gq152, .ref gq153, .ref gq154, .ref gq155, .ref gq156, .int 0, .ref gq157, .ref gq158, .ref gq159, .int 0, .ref gq160]))] [] sz)) (va_Qi (fun (r : Int32) (_ : Unit) => r = 1) (fun _ t => POST dC dI [] [] (va_A [(gx, .inr (11, [.ref gq1, .ref gq4, .ref gq13, .ref gq136, .ref gq137, .ref gq138, .ref gq172, .ref gq184, .ref gq150, .ref gq161, .int (-1)])), (gq150, .inr (2, [.int 0, .ref gq151, .ref gq152, .ref gq153, .ref gq154, .ref gq155, .ref gq156, .int 0, .ref gq157, .ref gq158, .ref gq159, .int 0, .ref gq160]))] sz) t) (va_A [(gx, .inr (11, [.ref gq1, .ref gq4, .ref gq13, .ref gq136, .ref gq137, .ref gq138, .ref gq172, .ref gq184, .ref gq150, .ref gq161, .int (-1)])), (gq150, .inr (2, [.int 0, .ref gq151, .ref gq152, .ref gq153, .ref gq154, .ref gq155, .ref gq156, .int 0, .ref gq157, .ref gq158, .ref gq159, .int 0, .ref gq160]))] sz)) 1 6 (va_A [(gx, .inr (11, [.ref gq1, .ref gq4, .ref gq13, .ref gq136, .ref gq137, .ref gq138, .ref gq172, .ref gq184, .ref gq150, .ref gq161, .int (-1)])), (gq150, .inr (2, [.int 0, .ref gq151, .ref gq152, .ref gq153, .ref gq154, .ref gq155, .ref gq156, .int 0, .ref gq157, .ref gq158, .ref gq159, .int 0, .ref gq160]))] sz) := by
  refine va_MetW (cc := cL_depthOf) (maxL := 5) (ret := (Option.some Jvm.ClassFile.FieldType.int)) (hh := [(0, 10, 13, 24)]) (by decide) rfl ?_
  intro p e s m args below meth c s₁ B hml hv
  obtain ⟨rfl, hsz, hP, hK, hD0, hE⟩ := hv
  have hx := B.exec
  have hb := B.bytes
  have hr := B.returns
  have hts0 := atoms_spec (ws := wh yL_depthOf cL_depthOf 5 (Option.some Jvm.ClassFile.FieldType.int) [(0, 10, 13, 24)]) B.pre
  have htab := vx_table (x := yL_depthOf) B (hts0 _ List.mem_cons_self)
  have hts : ∀ w ∈ gw, w.before _ s = true := fun w h => hts0 w (List.mem_cons_of_mem _ h)
  have hown : s.vm.findClass RL = some m.cls := findClass_of_methodNamed B.named
  have hlocks := B.notSynchronized
  subst hsz
  have hD := hD0.self (sz := s.heap.size)
  generalize hAe : va_A [(gx, .inr (11, [.ref gq1, .ref gq4, .ref gq13, .ref gq136, .ref gq137, .ref gq138, .ref gq172, .ref gq184, .ref gq150, .ref gq161, .int (-1)])), (gq150, .inr (2, [.int 0, .ref gq151, .ref gq152, .ref gq153, .ref gq154, .ref gq155, .ref gq156, .int 0, .ref gq157, .ref gq158, .ref gq159, .int 0, .ref gq160]))] s.heap.size = A at hD hE ⊢
  have hA : ∀ q : Nat, s.heap.size ≤ q → A q := fun q h => by rw [← hAe]; exact Or.inr h
  have hS : va_S A s.heap s.heap [] := va_S.rf
  have hP : va_P (dC, dI) cls [(gx, .inr (11, [.ref gq1, .ref gq4, .ref gq13, .ref gq136, .ref gq137, .ref gq138, .ref gq172, .ref gq184, .ref gq150, .ref gq161, .int (-1)])), (gq150, .inr (2, [.int 0, .ref gq151, .ref gq152, .ref gq153, .ref gq154, .ref gq155, .ref gq156, .int 0, .ref gq157, .ref gq158, .ref gq159, .int 0, .ref gq160]))] s.heap := hP
  have hl := lv_entry ([.ref gx, .int p0, .int p1, .ref go]) (n := 5) (Nat.le_of_ble_eq_true rfl)
  rw [lg_entry_eq]
  generalize (lg_sl ([.ref gx, .int p0, .int p1, .ref go]) ++ List.replicate (5 - (lg_sl ([.ref gx, .int p0, .int p1, .ref go])).length) Slot.unset).toArray = ls at hl ⊢
  have hl : lv_has ls 5 [(0, .ref gx), (1, .int p0), (2, .int p1), (3, .ref go)] := hl
  refine lv_aload_n hx hb dL_depthOf_0 rfl (lv_at hl 3 rfl) ?_
  refine lv_iconst (v := 0) hx hb dL_depthOf_1 (by decide) ?_
  refine lv_aload_n hx hb dL_depthOf_2 rfl (lv_at hl 0 rfl) ?_
  refine lv_iload_n hx hb dL_depthOf_3 rfl (lv_at hl 1 rfl) ?_
  refine lv_iload_n hx hb dL_depthOf_4 rfl (lv_at hl 2 rfl) ?_
  have hPc := hP.sub (ws' := [(gx, .inr (11, [.ref gq1, .ref gq4, .ref gq13, .ref gq136, .ref gq137, .ref gq138, .ref gq172, .ref gq184, .ref gq150, .ref gq161, .int (-1)])), (gq150, .inr (2, [.int 0, .ref gq151, .ref gq152, .ref gq153, .ref gq154, .ref gq155, .ref gq156, .int 0, .ref gq157, .ref gq158, .ref gq159, .int 0, .ref gq160]))]) [0, 1] rfl
  have hDc := hD.sub (ws' := [(gx, .inr (11, [.ref gq1, .ref gq4, .ref gq13, .ref gq136, .ref gq137, .ref gq138, .ref gq172, .ref gq184, .ref gq150, .ref gq161, .int (-1)])), (gq150, .inr (2, [.int 0, .ref gq151, .ref gq152, .ref gq153, .ref gq154, .ref gq155, .ref gq156, .int 0, .ref gq157, .ref gq158, .ref gq159, .int 0, .ref gq160]))]) [0, 1] (by decide) rfl
  have hKc := hK.sub (tys' := []) [] rfl
  have hFc := va_free (wc := [(gx, .inr (11, [.ref gq1, .ref gq4, .ref gq13, .ref gq136, .ref gq137, .ref gq138, .ref gq172, .ref gq184, .ref gq150, .ref gq161, .int (-1)])), (gq150, .inr (2, [.int 0, .ref gq151, .ref gq152, .ref gq153, .ref gq154, .ref gq155, .ref gq156, .int 0, .ref gq157, .ref gq158, .ref gq159, .int 0, .ref gq160]))]) hD hS hA [0, 1] rfl
  refine vx_calli (vx_runV (As := [.int p0, .int p1]) (rest := [.int 0, .ref go]) ⟨hx, hb, hml, hown, hts⟩ (kX11_depthOf l dC dI (gx := gx) (gq1 := gq1) (gq4 := gq4) (gq13 := gq13) (gq136 := gq136) (gq137 := gq137) (gq138 := gq138) (gq150 := gq150) (gq151 := gq151) (gq152 := gq152) (gq153 := gq153) (gq154 := gq154) (gq155 := gq155) (gq156 := gq156) (gq157 := gq157) (gq158 := gq158) (gq159 := gq159) (gq160 := gq160) (gq161 := gq161) (gq172 := gq172) (gq184 := gq184) (p0 := p0) (p1 := p1) (sz := _) (hl9 := hl9)) (cwV 2 hts (gi_V qw508 qw509 qw510 qw222 (gi_z qw507)) rfl rfl rfl (by decide +kernel) ⟨Nat.le_of_ble_eq_true rfl, Nat.le_of_ble_eq_true rfl⟩) ⟨PRE.blind, va_recv hKc hPc (ci := 11) (q0 := 0) rfl rfl, PRE.of hE hS hFc hPc hKc hDc⟩ rfl rfl hl.1 rfl (lv_room (Nat.le_of_ble_eq_true rfl)) dL_depthOf_5 ⟨Nat.le_of_ble_eq_true rfl, Nat.le_of_ble_eq_true rfl⟩) hS (fun q _ h => hFc q h) hFc (fun q _ h => hFc q h) (fun E ce q9 u t H locs ht hvm hw hB hz1 hk1 hS hce hcv hcl => ?_) (fun _ u t H locs ht hvm hw hB hz1 hk1 hS => hw.elim)
  obtain ⟨rfl, hB⟩ := hB
  obtain ⟨hP, hD, hK⟩ := JOIN (wr := []) hP hD hK [0, 1] [] [] rfl rfl (by decide) (by decide) rfl hk1 hFc ht hvm hB
  have hP : va_P (dC, dI) cls [] H := hP
  have hD : va_D A [] := hD
  have hK : va_K (dC, dI) cls [] s := hK
  refine vx_widen (k := 1) (n := 6) (Nat.le_of_ble_eq_true rfl) (Nat.le_of_ble_eq_true rfl) ?_
  refine vx_catch (own := RL) (name := "java/lang/IndexOutOfBoundsException") hown [] ⟨0, 10, 13, 24⟩ [] (htab.trans rfl) (fun z hz => by cases hz) (by decide) (by decide) (hts _ qw490) (hE.word (List.mem_append_right _ (tbl_9 (i := 38) rfl)) rfl) hce hcv hcl ?_
  refine lv_astore (lv' := [(4, .ref q9), (0, .ref gx), (1, .int p0), (2, .int p1), (3, .ref go)]) hx hb dL_depthOf_13 hl (by decide) rfl (fun ls hl => ?_)
  refine lv_iconst (v := 1) hx hb dL_depthOf_15 (by decide) ?_
  have hP9 : va_P (dC, dI) cls [] H := hP.sub [] rfl
  have hD9 : va_D A [] := hD.sub [] (by decide) rfl
  have hK9 : va_K (dC, dI) cls [] s := hK.sub [] rfl
  exact W.iret (v := 1) hx hb hr (fun t ht hW => ⟨⟨1, (), rfl, rfl, ⟨by rw [ht]; exact hP9, va_K.moved hW.alike hK9, hD9⟩⟩, hS.F ht⟩) hS.2.2 dL_depthOf_16
set_option maxHeartbeats 4000000 in
set_option maxRecDepth 100000 in
theorem kL_predecessors {zs : Nat × Nat} (l : Launch) (dC : Nat → ClassId) (dI : Nat → Nat → Nat) (gx : Nat) (gq1 : Nat) (gq4 : Nat) (gq13 : Nat) (gq136 : Nat) (gq137 : Nat) (gq138 : Nat) (gq150 : Nat) (gq151 : Nat) (gq152 : Nat) (gq153 : Nat) (gq154 : Nat) (gq155 : Nat) (gq156 : Nat) (gq157 : Nat) (gq158 : Nat) (gq159 : Nat) (gq160 : Nat) (gq161 : Nat) (gq172 : Nat) (gq184 : Nat) (go : Nat) (p0 : Int32) (p1 : Int32) (sz : Nat) (hl9 : l.stackTraces = false)  : Met l yL_predecessors (wh yL_predecessors cL_predecessors 5 (Option.some Jvm.ClassFile.FieldType.int) [(0, 10, 13, 24)]) ({ frames := 9, cells := 1, slots := 6, locals := 165 }) (va_Pc [.ref gx, .int p0, .int p1, .ref go] (PRE zs dC dI [(gx, .inr (11, [.ref gq1, .ref gq4, .ref gq13, .ref gq136, .ref gq137, .ref gq138, .ref gq172, .ref gq184, .ref gq150, .ref gq161, .int (-1)])), (gq150, .inr (2, [.int 0, .ref gq151, .ref gq152, .ref gq153, .ref gq154, .ref gq155, .ref gq156, .int 0, .ref gq157, .ref gq158, .ref gq159, .int 0, .ref gq160]))] [] sz)) (va_Qi (fun (r : Int32) (_ : Unit) => r = 1) (fun _ t => POST dC dI [] [] (va_A [(gx, .inr (11, [.ref gq1, .ref gq4, .ref gq13, .ref gq136, .ref gq137, .ref gq138, .ref gq172, .ref gq184, .ref gq150, .ref gq161, .int (-1)])), (gq150, .inr (2, [.int 0, .ref gq151, .ref gq152, .ref gq153, .ref gq154, .ref gq155, .ref gq156, .int 0, .ref gq157, .ref gq158, .ref gq159, .int 0, .ref gq160]))] sz) t) (va_A [(gx, .inr (11, [.ref gq1, .ref gq4, .ref gq13, .ref gq136, .ref gq137, .ref gq138, .ref gq172, .ref gq184, .ref gq150, .ref gq161, .int (-1)])), (gq150, .inr (2, [.int 0, .ref gq151, .ref gq152, .ref gq153, .ref gq154, .ref gq155, .ref gq156, .int 0, .ref gq157, .ref gq158, .ref gq159, .int 0, .ref gq160]))] sz)) 1 6 (va_A [(gx, .inr (11, [.ref gq1, .ref gq4, .ref gq13, .ref gq136, .ref gq137, .ref gq138, .ref gq172, .ref gq184, .ref gq150, .ref gq161, .int (-1)])), (gq150, .inr (2, [.int 0, .ref gq151, .ref gq152, .ref gq153, .ref gq154, .ref gq155, .ref gq156, .int 0, .ref gq157, .ref gq158, .ref gq159, .int 0, .ref gq160]))] sz) := by
  refine va_MetW (cc := cL_predecessors) (maxL := 5) (ret := (Option.some Jvm.ClassFile.FieldType.int)) (hh := [(0, 10, 13, 24)]) (by decide) rfl ?_
  intro p e s m args below meth c s₁ B hml hv
  obtain ⟨rfl, hsz, hP, hK, hD0, hE⟩ := hv
  have hx := B.exec
  have hb := B.bytes
  have hr := B.returns
  have hts0 := atoms_spec (ws := wh yL_predecessors cL_predecessors 5 (Option.some Jvm.ClassFile.FieldType.int) [(0, 10, 13, 24)]) B.pre
  have htab := vx_table (x := yL_predecessors) B (hts0 _ List.mem_cons_self)
  have hts : ∀ w ∈ gw, w.before _ s = true := fun w h => hts0 w (List.mem_cons_of_mem _ h)
  have hown : s.vm.findClass RL = some m.cls := findClass_of_methodNamed B.named
  have hlocks := B.notSynchronized
  subst hsz
  have hD := hD0.self (sz := s.heap.size)
  generalize hAe : va_A [(gx, .inr (11, [.ref gq1, .ref gq4, .ref gq13, .ref gq136, .ref gq137, .ref gq138, .ref gq172, .ref gq184, .ref gq150, .ref gq161, .int (-1)])), (gq150, .inr (2, [.int 0, .ref gq151, .ref gq152, .ref gq153, .ref gq154, .ref gq155, .ref gq156, .int 0, .ref gq157, .ref gq158, .ref gq159, .int 0, .ref gq160]))] s.heap.size = A at hD hE ⊢
  have hA : ∀ q : Nat, s.heap.size ≤ q → A q := fun q h => by rw [← hAe]; exact Or.inr h
  have hS : va_S A s.heap s.heap [] := va_S.rf
  have hP : va_P (dC, dI) cls [(gx, .inr (11, [.ref gq1, .ref gq4, .ref gq13, .ref gq136, .ref gq137, .ref gq138, .ref gq172, .ref gq184, .ref gq150, .ref gq161, .int (-1)])), (gq150, .inr (2, [.int 0, .ref gq151, .ref gq152, .ref gq153, .ref gq154, .ref gq155, .ref gq156, .int 0, .ref gq157, .ref gq158, .ref gq159, .int 0, .ref gq160]))] s.heap := hP
  have hl := lv_entry ([.ref gx, .int p0, .int p1, .ref go]) (n := 5) (Nat.le_of_ble_eq_true rfl)
  rw [lg_entry_eq]
  generalize (lg_sl ([.ref gx, .int p0, .int p1, .ref go]) ++ List.replicate (5 - (lg_sl ([.ref gx, .int p0, .int p1, .ref go])).length) Slot.unset).toArray = ls at hl ⊢
  have hl : lv_has ls 5 [(0, .ref gx), (1, .int p0), (2, .int p1), (3, .ref go)] := hl
  refine lv_aload_n hx hb dL_predecessors_0 rfl (lv_at hl 3 rfl) ?_
  refine lv_iconst (v := 0) hx hb dL_predecessors_1 (by decide) ?_
  refine lv_aload_n hx hb dL_predecessors_2 rfl (lv_at hl 0 rfl) ?_
  refine lv_iload_n hx hb dL_predecessors_3 rfl (lv_at hl 1 rfl) ?_
  refine lv_iload_n hx hb dL_predecessors_4 rfl (lv_at hl 2 rfl) ?_
  have hPc := hP.sub (ws' := [(gx, .inr (11, [.ref gq1, .ref gq4, .ref gq13, .ref gq136, .ref gq137, .ref gq138, .ref gq172, .ref gq184, .ref gq150, .ref gq161, .int (-1)])), (gq150, .inr (2, [.int 0, .ref gq151, .ref gq152, .ref gq153, .ref gq154, .ref gq155, .ref gq156, .int 0, .ref gq157, .ref gq158, .ref gq159, .int 0, .ref gq160]))]) [0, 1] rfl
  have hDc := hD.sub (ws' := [(gx, .inr (11, [.ref gq1, .ref gq4, .ref gq13, .ref gq136, .ref gq137, .ref gq138, .ref gq172, .ref gq184, .ref gq150, .ref gq161, .int (-1)])), (gq150, .inr (2, [.int 0, .ref gq151, .ref gq152, .ref gq153, .ref gq154, .ref gq155, .ref gq156, .int 0, .ref gq157, .ref gq158, .ref gq159, .int 0, .ref gq160]))]) [0, 1] (by decide) rfl
  have hKc := hK.sub (tys' := []) [] rfl
  have hFc := va_free (wc := [(gx, .inr (11, [.ref gq1, .ref gq4, .ref gq13, .ref gq136, .ref gq137, .ref gq138, .ref gq172, .ref gq184, .ref gq150, .ref gq161, .int (-1)])), (gq150, .inr (2, [.int 0, .ref gq151, .ref gq152, .ref gq153, .ref gq154, .ref gq155, .ref gq156, .int 0, .ref gq157, .ref gq158, .ref gq159, .int 0, .ref gq160]))]) hD hS hA [0, 1] rfl
  refine vx_calli (vx_runV (As := [.int p0, .int p1]) (rest := [.int 0, .ref go]) ⟨hx, hb, hml, hown, hts⟩ (kX11_predecessors l dC dI (gx := gx) (gq1 := gq1) (gq4 := gq4) (gq13 := gq13) (gq136 := gq136) (gq137 := gq137) (gq138 := gq138) (gq150 := gq150) (gq151 := gq151) (gq152 := gq152) (gq153 := gq153) (gq154 := gq154) (gq155 := gq155) (gq156 := gq156) (gq157 := gq157) (gq158 := gq158) (gq159 := gq159) (gq160 := gq160) (gq161 := gq161) (gq172 := gq172) (gq184 := gq184) (p0 := p0) (p1 := p1) (sz := _) (hl9 := hl9)) (cwV 2 hts (gi_V qw512 qw513 qw514 qw222 (gi_z qw511)) rfl rfl rfl (by decide +kernel) ⟨Nat.le_of_ble_eq_true rfl, Nat.le_of_ble_eq_true rfl⟩) ⟨PRE.blind, va_recv hKc hPc (ci := 11) (q0 := 0) rfl rfl, PRE.of hE hS hFc hPc hKc hDc⟩ rfl rfl hl.1 rfl (lv_room (Nat.le_of_ble_eq_true rfl)) dL_predecessors_5 ⟨Nat.le_of_ble_eq_true rfl, Nat.le_of_ble_eq_true rfl⟩) hS (fun q _ h => hFc q h) hFc (fun q _ h => hFc q h) (fun E ce q9 u t H locs ht hvm hw hB hz1 hk1 hS hce hcv hcl => ?_) (fun _ u t H locs ht hvm hw hB hz1 hk1 hS => hw.elim)
  obtain ⟨rfl, hB⟩ := hB
  obtain ⟨hP, hD, hK⟩ := JOIN (wr := []) hP hD hK [0, 1] [] [] rfl rfl (by decide) (by decide) rfl hk1 hFc ht hvm hB
  have hP : va_P (dC, dI) cls [] H := hP
  have hD : va_D A [] := hD
  have hK : va_K (dC, dI) cls [] s := hK
  refine vx_widen (k := 1) (n := 6) (Nat.le_of_ble_eq_true rfl) (Nat.le_of_ble_eq_true rfl) ?_
  refine vx_catch (own := RL) (name := "java/lang/IndexOutOfBoundsException") hown [] ⟨0, 10, 13, 24⟩ [] (htab.trans rfl) (fun z hz => by cases hz) (by decide) (by decide) (hts _ qw490) (hE.word (List.mem_append_right _ (tbl_9 (i := 38) rfl)) rfl) hce hcv hcl ?_
  refine lv_astore (lv' := [(4, .ref q9), (0, .ref gx), (1, .int p0), (2, .int p1), (3, .ref go)]) hx hb dL_predecessors_13 hl (by decide) rfl (fun ls hl => ?_)
  refine lv_iconst (v := 1) hx hb dL_predecessors_15 (by decide) ?_
  have hP9 : va_P (dC, dI) cls [] H := hP.sub [] rfl
  have hD9 : va_D A [] := hD.sub [] (by decide) rfl
  have hK9 : va_K (dC, dI) cls [] s := hK.sub [] rfl
  exact W.iret (v := 1) hx hb hr (fun t ht hW => ⟨⟨1, (), rfl, rfl, ⟨by rw [ht]; exact hP9, va_K.moved hW.alike hK9, hD9⟩⟩, hS.F ht⟩) hS.2.2 dL_predecessors_16
set_option maxHeartbeats 4000000 in
set_option maxRecDepth 100000 in
theorem kL_predecessor {zs : Nat × Nat} (l : Launch) (dC : Nat → ClassId) (dI : Nat → Nat → Nat) (gx : Nat) (gq1 : Nat) (gq4 : Nat) (gq13 : Nat) (gq136 : Nat) (gq137 : Nat) (gq138 : Nat) (gq150 : Nat) (gq151 : Nat) (gq152 : Nat) (gq153 : Nat) (gq154 : Nat) (gq155 : Nat) (gq156 : Nat) (gq157 : Nat) (gq158 : Nat) (gq159 : Nat) (gq160 : Nat) (gq161 : Nat) (gq172 : Nat) (gq184 : Nat) (go : Nat) (p0 : Int32) (p1 : Int32) (p2 : Int32) (sz : Nat) (hl9 : l.stackTraces = false)  : Met l yL_predecessor (wh yL_predecessor cL_predecessor 6 (Option.some Jvm.ClassFile.FieldType.int) [(0, 12, 15, 24)]) ({ frames := 9, cells := 1, slots := 6, locals := 167 }) (va_Pc [.ref gx, .int p0, .int p1, .int p2, .ref go] (PRE zs dC dI [(gx, .inr (11, [.ref gq1, .ref gq4, .ref gq13, .ref gq136, .ref gq137, .ref gq138, .ref gq172, .ref gq184, .ref gq150, .ref gq161, .int (-1)])), (gq150, .inr (2, [.int 0, .ref gq151, .ref gq152, .ref gq153, .ref gq154, .ref gq155, .ref gq156, .int 0, .ref gq157, .ref gq158, .ref gq159, .int 0, .ref gq160]))] [] sz)) (va_Qi (fun (r : Int32) (_ : Unit) => r = 1) (fun _ t => POST dC dI [] [] (va_A [(gx, .inr (11, [.ref gq1, .ref gq4, .ref gq13, .ref gq136, .ref gq137, .ref gq138, .ref gq172, .ref gq184, .ref gq150, .ref gq161, .int (-1)])), (gq150, .inr (2, [.int 0, .ref gq151, .ref gq152, .ref gq153, .ref gq154, .ref gq155, .ref gq156, .int 0, .ref gq157, .ref gq158, .ref gq159, .int 0, .ref gq160]))] sz) t) (va_A [(gx, .inr (11, [.ref gq1, .ref gq4, .ref gq13, .ref gq136, .ref gq137, .ref gq138, .ref gq172, .ref gq184, .ref gq150, .ref gq161, .int (-1)])), (gq150, .inr (2, [.int 0, .ref gq151, .ref gq152, .ref gq153, .ref gq154, .ref gq155, .ref gq156, .int 0, .ref gq157, .ref gq158, .ref gq159, .int 0, .ref gq160]))] sz)) 1 6 (va_A [(gx, .inr (11, [.ref gq1, .ref gq4, .ref gq13, .ref gq136, .ref gq137, .ref gq138, .ref gq172, .ref gq184, .ref gq150, .ref gq161, .int (-1)])), (gq150, .inr (2, [.int 0, .ref gq151, .ref gq152, .ref gq153, .ref gq154, .ref gq155, .ref gq156, .int 0, .ref gq157, .ref gq158, .ref gq159, .int 0, .ref gq160]))] sz) := by
  refine va_MetW (cc := cL_predecessor) (maxL := 6) (ret := (Option.some Jvm.ClassFile.FieldType.int)) (hh := [(0, 12, 15, 24)]) (by decide) rfl ?_
  intro p e s m args below meth c s₁ B hml hv
  obtain ⟨rfl, hsz, hP, hK, hD0, hE⟩ := hv
  have hx := B.exec
  have hb := B.bytes
  have hr := B.returns
  have hts0 := atoms_spec (ws := wh yL_predecessor cL_predecessor 6 (Option.some Jvm.ClassFile.FieldType.int) [(0, 12, 15, 24)]) B.pre
  have htab := vx_table (x := yL_predecessor) B (hts0 _ List.mem_cons_self)
  have hts : ∀ w ∈ gw, w.before _ s = true := fun w h => hts0 w (List.mem_cons_of_mem _ h)
  have hown : s.vm.findClass RL = some m.cls := findClass_of_methodNamed B.named
  have hlocks := B.notSynchronized
  subst hsz
  have hD := hD0.self (sz := s.heap.size)
  generalize hAe : va_A [(gx, .inr (11, [.ref gq1, .ref gq4, .ref gq13, .ref gq136, .ref gq137, .ref gq138, .ref gq172, .ref gq184, .ref gq150, .ref gq161, .int (-1)])), (gq150, .inr (2, [.int 0, .ref gq151, .ref gq152, .ref gq153, .ref gq154, .ref gq155, .ref gq156, .int 0, .ref gq157, .ref gq158, .ref gq159, .int 0, .ref gq160]))] s.heap.size = A at hD hE ⊢
  have hA : ∀ q : Nat, s.heap.size ≤ q → A q := fun q h => by rw [← hAe]; exact Or.inr h
  have hS : va_S A s.heap s.heap [] := va_S.rf
  have hP : va_P (dC, dI) cls [(gx, .inr (11, [.ref gq1, .ref gq4, .ref gq13, .ref gq136, .ref gq137, .ref gq138, .ref gq172, .ref gq184, .ref gq150, .ref gq161, .int (-1)])), (gq150, .inr (2, [.int 0, .ref gq151, .ref gq152, .ref gq153, .ref gq154, .ref gq155, .ref gq156, .int 0, .ref gq157, .ref gq158, .ref gq159, .int 0, .ref gq160]))] s.heap := hP
  have hl := lv_entry ([.ref gx, .int p0, .int p1, .int p2, .ref go]) (n := 6) (Nat.le_of_ble_eq_true rfl)
  rw [lg_entry_eq]
  generalize (lg_sl ([.ref gx, .int p0, .int p1, .int p2, .ref go]) ++ List.replicate (6 - (lg_sl ([.ref gx, .int p0, .int p1, .int p2, .ref go])).length) Slot.unset).toArray = ls at hl ⊢
  have hl : lv_has ls 6 [(0, .ref gx), (1, .int p0), (2, .int p1), (3, .int p2), (4, .ref go)] := hl
  refine lv_aload hx hb dL_predecessor_0 (lv_at hl 4 rfl) ?_
  refine lv_iconst (v := 0) hx hb dL_predecessor_2 (by decide) ?_
  refine lv_aload_n hx hb dL_predecessor_3 rfl (lv_at hl 0 rfl) ?_
  refine lv_iload_n hx hb dL_predecessor_4 rfl (lv_at hl 1 rfl) ?_
  refine lv_iload_n hx hb dL_predecessor_5 rfl (lv_at hl 2 rfl) ?_
  refine lv_iload_n hx hb dL_predecessor_6 rfl (lv_at hl 3 rfl) ?_
  have hPc := hP.sub (ws' := [(gx, .inr (11, [.ref gq1, .ref gq4, .ref gq13, .ref gq136, .ref gq137, .ref gq138, .ref gq172, .ref gq184, .ref gq150, .ref gq161, .int (-1)])), (gq150, .inr (2, [.int 0, .ref gq151, .ref gq152, .ref gq153, .ref gq154, .ref gq155, .ref gq156, .int 0, .ref gq157, .ref gq158, .ref gq159, .int 0, .ref gq160]))]) [0, 1] rfl
  have hDc := hD.sub (ws' := [(gx, .inr (11, [.ref gq1, .ref gq4, .ref gq13, .ref gq136, .ref gq137, .ref gq138, .ref gq172, .ref gq184, .ref gq150, .ref gq161, .int (-1)])), (gq150, .inr (2, [.int 0, .ref gq151, .ref gq152, .ref gq153, .ref gq154, .ref gq155, .ref gq156, .int 0, .ref gq157, .ref gq158, .ref gq159, .int 0, .ref gq160]))]) [0, 1] (by decide) rfl
  have hKc := hK.sub (tys' := []) [] rfl
  have hFc := va_free (wc := [(gx, .inr (11, [.ref gq1, .ref gq4, .ref gq13, .ref gq136, .ref gq137, .ref gq138, .ref gq172, .ref gq184, .ref gq150, .ref gq161, .int (-1)])), (gq150, .inr (2, [.int 0, .ref gq151, .ref gq152, .ref gq153, .ref gq154, .ref gq155, .ref gq156, .int 0, .ref gq157, .ref gq158, .ref gq159, .int 0, .ref gq160]))]) hD hS hA [0, 1] rfl
  refine vx_calli (vx_runV (As := [.int p0, .int p1, .int p2]) (rest := [.int 0, .ref go]) ⟨hx, hb, hml, hown, hts⟩ (kX11_predecessor l dC dI (gx := gx) (gq1 := gq1) (gq4 := gq4) (gq13 := gq13) (gq136 := gq136) (gq137 := gq137) (gq138 := gq138) (gq150 := gq150) (gq151 := gq151) (gq152 := gq152) (gq153 := gq153) (gq154 := gq154) (gq155 := gq155) (gq156 := gq156) (gq157 := gq157) (gq158 := gq158) (gq159 := gq159) (gq160 := gq160) (gq161 := gq161) (gq172 := gq172) (gq184 := gq184) (p0 := p0) (p1 := p1) (p2 := p2) (sz := _) (hl9 := hl9)) (cwV 3 hts (gi_V qw516 qw517 qw518 qw222 (gi_z qw515)) rfl rfl rfl (by decide +kernel) ⟨Nat.le_of_ble_eq_true rfl, Nat.le_of_ble_eq_true rfl⟩) ⟨PRE.blind, va_recv hKc hPc (ci := 11) (q0 := 0) rfl rfl, PRE.of hE hS hFc hPc hKc hDc⟩ rfl rfl hl.1 rfl (lv_room (Nat.le_of_ble_eq_true rfl)) dL_predecessor_7 ⟨Nat.le_of_ble_eq_true rfl, Nat.le_of_ble_eq_true rfl⟩) hS (fun q _ h => hFc q h) hFc (fun q _ h => hFc q h) (fun E ce q9 u t H locs ht hvm hw hB hz1 hk1 hS hce hcv hcl => ?_) (fun _ u t H locs ht hvm hw hB hz1 hk1 hS => hw.elim)
  obtain ⟨rfl, hB⟩ := hB
  obtain ⟨hP, hD, hK⟩ := JOIN (wr := []) hP hD hK [0, 1] [] [] rfl rfl (by decide) (by decide) rfl hk1 hFc ht hvm hB
  have hP : va_P (dC, dI) cls [] H := hP
  have hD : va_D A [] := hD
  have hK : va_K (dC, dI) cls [] s := hK
  refine vx_widen (k := 1) (n := 6) (Nat.le_of_ble_eq_true rfl) (Nat.le_of_ble_eq_true rfl) ?_
  refine vx_catch (own := RL) (name := "java/lang/IndexOutOfBoundsException") hown [] ⟨0, 12, 15, 24⟩ [] (htab.trans rfl) (fun z hz => by cases hz) (by decide) (by decide) (hts _ qw490) (hE.word (List.mem_append_right _ (tbl_9 (i := 38) rfl)) rfl) hce hcv hcl ?_
  refine lv_astore (lv' := [(5, .ref q9), (0, .ref gx), (1, .int p0), (2, .int p1), (3, .int p2), (4, .ref go)]) hx hb dL_predecessor_15 hl (by decide) rfl (fun ls hl => ?_)
  refine lv_iconst (v := 1) hx hb dL_predecessor_17 (by decide) ?_
  have hP9 : va_P (dC, dI) cls [] H := hP.sub [] rfl
  have hD9 : va_D A [] := hD.sub [] (by decide) rfl
  have hK9 : va_K (dC, dI) cls [] s := hK.sub [] rfl
  exact W.iret (v := 1) hx hb hr (fun t ht hW => ⟨⟨1, (), rfl, rfl, ⟨by rw [ht]; exact hP9, va_K.moved hW.alike hK9, hD9⟩⟩, hS.F ht⟩) hS.2.2 dL_predecessor_18
set_option maxHeartbeats 4000000 in
set_option maxRecDepth 100000 in
theorem kL_endOf {zs : Nat × Nat} (l : Launch) (dC : Nat → ClassId) (dI : Nat → Nat → Nat) (gx : Nat) (gq1 : Nat) (gq4 : Nat) (gq13 : Nat) (gq136 : Nat) (gq137 : Nat) (gq138 : Nat) (gq150 : Nat) (gq151 : Nat) (gq152 : Nat) (gq153 : Nat) (gq154 : Nat) (gq155 : Nat) (gq156 : Nat) (gq157 : Nat) (gq158 : Nat) (gq159 : Nat) (gq160 : Nat) (gq161 : Nat) (gq172 : Nat) (gq184 : Nat) (go : Nat) (p0 : Int32) (p1 : Int32) (sz : Nat) (hl9 : l.stackTraces = false)  : Met l yL_endOf (wh yL_endOf cL_endOf 5 (Option.some Jvm.ClassFile.FieldType.int) [(0, 10, 13, 24)]) ({ frames := 9, cells := 1, slots := 6, locals := 165 }) (va_Pc [.ref gx, .int p0, .int p1, .ref go] (PRE zs dC dI [(gx, .inr (11, [.ref gq1, .ref gq4, .ref gq13, .ref gq136, .ref gq137, .ref gq138, .ref gq172, .ref gq184, .ref gq150, .ref gq161, .int (-1)])), (gq150, .inr (2, [.int 0, .ref gq151, .ref gq152, .ref gq153, .ref gq154, .ref gq155, .ref gq156, .int 0, .ref gq157, .ref gq158, .ref gq159, .int 0, .ref gq160]))] [] sz)) (va_Qi (fun (r : Int32) (_ : Unit) => r = 1) (fun _ t => POST dC dI [] [] (va_A [(gx, .inr (11, [.ref gq1, .ref gq4, .ref gq13, .ref gq136, .ref gq137, .ref gq138, .ref gq172, .ref gq184, .ref gq150, .ref gq161, .int (-1)])), (gq150, .inr (2, [.int 0, .ref gq151, .ref gq152, .ref gq153, .ref gq154, .ref gq155, .ref gq156, .int 0, .ref gq157, .ref gq158, .ref gq159, .int 0, .ref gq160]))] sz) t) (va_A [(gx, .inr (11, [.ref gq1, .ref gq4, .ref gq13, .ref gq136, .ref gq137, .ref gq138, .ref gq172, .ref gq184, .ref gq150, .ref gq161, .int (-1)])), (gq150, .inr (2, [.int 0, .ref gq151, .ref gq152, .ref gq153, .ref gq154, .ref gq155, .ref gq156, .int 0, .ref gq157, .ref gq158, .ref gq159, .int 0, .ref gq160]))] sz)) 1 6 (va_A [(gx, .inr (11, [.ref gq1, .ref gq4, .ref gq13, .ref gq136, .ref gq137, .ref gq138, .ref gq172, .ref gq184, .ref gq150, .ref gq161, .int (-1)])), (gq150, .inr (2, [.int 0, .ref gq151, .ref gq152, .ref gq153, .ref gq154, .ref gq155, .ref gq156, .int 0, .ref gq157, .ref gq158, .ref gq159, .int 0, .ref gq160]))] sz) := by
  refine va_MetW (cc := cL_endOf) (maxL := 5) (ret := (Option.some Jvm.ClassFile.FieldType.int)) (hh := [(0, 10, 13, 24)]) (by decide) rfl ?_
  intro p e s m args below meth c s₁ B hml hv
  obtain ⟨rfl, hsz, hP, hK, hD0, hE⟩ := hv
  have hx := B.exec
  have hb := B.bytes
  have hr := B.returns
  have hts0 := atoms_spec (ws := wh yL_endOf cL_endOf 5 (Option.some Jvm.ClassFile.FieldType.int) [(0, 10, 13, 24)]) B.pre
  have htab := vx_table (x := yL_endOf) B (hts0 _ List.mem_cons_self)
  have hts : ∀ w ∈ gw, w.before _ s = true := fun w h => hts0 w (List.mem_cons_of_mem _ h)
  have hown : s.vm.findClass RL = some m.cls := findClass_of_methodNamed B.named
  have hlocks := B.notSynchronized
  subst hsz
  have hD := hD0.self (sz := s.heap.size)
  generalize hAe : va_A [(gx, .inr (11, [.ref gq1, .ref gq4, .ref gq13, .ref gq136, .ref gq137, .ref gq138, .ref gq172, .ref gq184, .ref gq150, .ref gq161, .int (-1)])), (gq150, .inr (2, [.int 0, .ref gq151, .ref gq152, .ref gq153, .ref gq154, .ref gq155, .ref gq156, .int 0, .ref gq157, .ref gq158, .ref gq159, .int 0, .ref gq160]))] s.heap.size = A at hD hE ⊢
  have hA : ∀ q : Nat, s.heap.size ≤ q → A q := fun q h => by rw [← hAe]; exact Or.inr h
  have hS : va_S A s.heap s.heap [] := va_S.rf
  have hP : va_P (dC, dI) cls [(gx, .inr (11, [.ref gq1, .ref gq4, .ref gq13, .ref gq136, .ref gq137, .ref gq138, .ref gq172, .ref gq184, .ref gq150, .ref gq161, .int (-1)])), (gq150, .inr (2, [.int 0, .ref gq151, .ref gq152, .ref gq153, .ref gq154, .ref gq155, .ref gq156, .int 0, .ref gq157, .ref gq158, .ref gq159, .int 0, .ref gq160]))] s.heap := hP
  have hl := lv_entry ([.ref gx, .int p0, .int p1, .ref go]) (n := 5) (Nat.le_of_ble_eq_true rfl)
  rw [lg_entry_eq]
  generalize (lg_sl ([.ref gx, .int p0, .int p1, .ref go]) ++ List.replicate (5 - (lg_sl ([.ref gx, .int p0, .int p1, .ref go])).length) Slot.unset).toArray = ls at hl ⊢
  have hl : lv_has ls 5 [(0, .ref gx), (1, .int p0), (2, .int p1), (3, .ref go)] := hl
  refine lv_aload_n hx hb dL_endOf_0 rfl (lv_at hl 3 rfl) ?_
  refine lv_iconst (v := 0) hx hb dL_endOf_1 (by decide) ?_
  refine lv_aload_n hx hb dL_endOf_2 rfl (lv_at hl 0 rfl) ?_
  refine lv_iload_n hx hb dL_endOf_3 rfl (lv_at hl 1 rfl) ?_
  refine lv_iload_n hx hb dL_endOf_4 rfl (lv_at hl 2 rfl) ?_
  have hPc := hP.sub (ws' := [(gx, .inr (11, [.ref gq1, .ref gq4, .ref gq13, .ref gq136, .ref gq137, .ref gq138, .ref gq172, .ref gq184, .ref gq150, .ref gq161, .int (-1)])), (gq150, .inr (2, [.int 0, .ref gq151, .ref gq152, .ref gq153, .ref gq154, .ref gq155, .ref gq156, .int 0, .ref gq157, .ref gq158, .ref gq159, .int 0, .ref gq160]))]) [0, 1] rfl
  have hDc := hD.sub (ws' := [(gx, .inr (11, [.ref gq1, .ref gq4, .ref gq13, .ref gq136, .ref gq137, .ref gq138, .ref gq172, .ref gq184, .ref gq150, .ref gq161, .int (-1)])), (gq150, .inr (2, [.int 0, .ref gq151, .ref gq152, .ref gq153, .ref gq154, .ref gq155, .ref gq156, .int 0, .ref gq157, .ref gq158, .ref gq159, .int 0, .ref gq160]))]) [0, 1] (by decide) rfl
  have hKc := hK.sub (tys' := []) [] rfl
  have hFc := va_free (wc := [(gx, .inr (11, [.ref gq1, .ref gq4, .ref gq13, .ref gq136, .ref gq137, .ref gq138, .ref gq172, .ref gq184, .ref gq150, .ref gq161, .int (-1)])), (gq150, .inr (2, [.int 0, .ref gq151, .ref gq152, .ref gq153, .ref gq154, .ref gq155, .ref gq156, .int 0, .ref gq157, .ref gq158, .ref gq159, .int 0, .ref gq160]))]) hD hS hA [0, 1] rfl
  refine vx_calli (vx_runV (As := [.int p0, .int p1]) (rest := [.int 0, .ref go]) ⟨hx, hb, hml, hown, hts⟩ (kX11_endOf l dC dI (gx := gx) (gq1 := gq1) (gq4 := gq4) (gq13 := gq13) (gq136 := gq136) (gq137 := gq137) (gq138 := gq138) (gq150 := gq150) (gq151 := gq151) (gq152 := gq152) (gq153 := gq153) (gq154 := gq154) (gq155 := gq155) (gq156 := gq156) (gq157 := gq157) (gq158 := gq158) (gq159 := gq159) (gq160 := gq160) (gq161 := gq161) (gq172 := gq172) (gq184 := gq184) (p0 := p0) (p1 := p1) (sz := _) (hl9 := hl9)) (cwV 2 hts (gi_V qw520 qw521 qw522 qw222 (gi_z qw519)) rfl rfl rfl (by decide +kernel) ⟨Nat.le_of_ble_eq_true rfl, Nat.le_of_ble_eq_true rfl⟩) ⟨PRE.blind, va_recv hKc hPc (ci := 11) (q0 := 0) rfl rfl, PRE.of hE hS hFc hPc hKc hDc⟩ rfl rfl hl.1 rfl (lv_room (Nat.le_of_ble_eq_true rfl)) dL_endOf_5 ⟨Nat.le_of_ble_eq_true rfl, Nat.le_of_ble_eq_true rfl⟩) hS (fun q _ h => hFc q h) hFc (fun q _ h => hFc q h) (fun E ce q9 u t H locs ht hvm hw hB hz1 hk1 hS hce hcv hcl => ?_) (fun _ u t H locs ht hvm hw hB hz1 hk1 hS => hw.elim)
  obtain ⟨rfl, hB⟩ := hB
  obtain ⟨hP, hD, hK⟩ := JOIN (wr := []) hP hD hK [0, 1] [] [] rfl rfl (by decide) (by decide) rfl hk1 hFc ht hvm hB
  have hP : va_P (dC, dI) cls [] H := hP
  have hD : va_D A [] := hD
  have hK : va_K (dC, dI) cls [] s := hK
  refine vx_widen (k := 1) (n := 6) (Nat.le_of_ble_eq_true rfl) (Nat.le_of_ble_eq_true rfl) ?_
  refine vx_catch (own := RL) (name := "java/lang/IndexOutOfBoundsException") hown [] ⟨0, 10, 13, 24⟩ [] (htab.trans rfl) (fun z hz => by cases hz) (by decide) (by decide) (hts _ qw490) (hE.word (List.mem_append_right _ (tbl_9 (i := 38) rfl)) rfl) hce hcv hcl ?_
  refine lv_astore (lv' := [(4, .ref q9), (0, .ref gx), (1, .int p0), (2, .int p1), (3, .ref go)]) hx hb dL_endOf_13 hl (by decide) rfl (fun ls hl => ?_)
  refine lv_iconst (v := 1) hx hb dL_endOf_15 (by decide) ?_
  have hP9 : va_P (dC, dI) cls [] H := hP.sub [] rfl
  have hD9 : va_D A [] := hD.sub [] (by decide) rfl
  have hK9 : va_K (dC, dI) cls [] s := hK.sub [] rfl
  exact W.iret (v := 1) hx hb hr (fun t ht hW => ⟨⟨1, (), rfl, rfl, ⟨by rw [ht]; exact hP9, va_K.moved hW.alike hK9, hD9⟩⟩, hS.F ht⟩) hS.2.2 dL_endOf_16
set_option maxHeartbeats 4000000 in
set_option maxRecDepth 100000 in
theorem kL_successor {zs : Nat × Nat} (l : Launch) (dC : Nat → ClassId) (dI : Nat → Nat → Nat) (gx : Nat) (gq1 : Nat) (gq4 : Nat) (gq13 : Nat) (gq136 : Nat) (gq137 : Nat) (gq138 : Nat) (gq150 : Nat) (gq151 : Nat) (gq152 : Nat) (gq153 : Nat) (gq154 : Nat) (gq155 : Nat) (gq156 : Nat) (gq157 : Nat) (gq158 : Nat) (gq159 : Nat) (gq160 : Nat) (gq161 : Nat) (gq172 : Nat) (gq184 : Nat) (go : Nat) (p0 : Int32) (p1 : Int32) (p2 : Int32) (sz : Nat) (hl9 : l.stackTraces = false)  : Met l yL_successor (wh yL_successor cL_successor 6 (Option.some Jvm.ClassFile.FieldType.int) [(0, 12, 15, 24)]) ({ frames := 9, cells := 1, slots := 6, locals := 167 }) (va_Pc [.ref gx, .int p0, .int p1, .int p2, .ref go] (PRE zs dC dI [(gx, .inr (11, [.ref gq1, .ref gq4, .ref gq13, .ref gq136, .ref gq137, .ref gq138, .ref gq172, .ref gq184, .ref gq150, .ref gq161, .int (-1)])), (gq150, .inr (2, [.int 0, .ref gq151, .ref gq152, .ref gq153, .ref gq154, .ref gq155, .ref gq156, .int 0, .ref gq157, .ref gq158, .ref gq159, .int 0, .ref gq160]))] [] sz)) (va_Qi (fun (r : Int32) (_ : Unit) => r = 1) (fun _ t => POST dC dI [] [] (va_A [(gx, .inr (11, [.ref gq1, .ref gq4, .ref gq13, .ref gq136, .ref gq137, .ref gq138, .ref gq172, .ref gq184, .ref gq150, .ref gq161, .int (-1)])), (gq150, .inr (2, [.int 0, .ref gq151, .ref gq152, .ref gq153, .ref gq154, .ref gq155, .ref gq156, .int 0, .ref gq157, .ref gq158, .ref gq159, .int 0, .ref gq160]))] sz) t) (va_A [(gx, .inr (11, [.ref gq1, .ref gq4, .ref gq13, .ref gq136, .ref gq137, .ref gq138, .ref gq172, .ref gq184, .ref gq150, .ref gq161, .int (-1)])), (gq150, .inr (2, [.int 0, .ref gq151, .ref gq152, .ref gq153, .ref gq154, .ref gq155, .ref gq156, .int 0, .ref gq157, .ref gq158, .ref gq159, .int 0, .ref gq160]))] sz)) 1 6 (va_A [(gx, .inr (11, [.ref gq1, .ref gq4, .ref gq13, .ref gq136, .ref gq137, .ref gq138, .ref gq172, .ref gq184, .ref gq150, .ref gq161, .int (-1)])), (gq150, .inr (2, [.int 0, .ref gq151, .ref gq152, .ref gq153, .ref gq154, .ref gq155, .ref gq156, .int 0, .ref gq157, .ref gq158, .ref gq159, .int 0, .ref gq160]))] sz) := by
  refine va_MetW (cc := cL_successor) (maxL := 6) (ret := (Option.some Jvm.ClassFile.FieldType.int)) (hh := [(0, 12, 15, 24)]) (by decide) rfl ?_
  intro p e s m args below meth c s₁ B hml hv
  obtain ⟨rfl, hsz, hP, hK, hD0, hE⟩ := hv
  have hx := B.exec
  have hb := B.bytes
  have hr := B.returns
  have hts0 := atoms_spec (ws := wh yL_successor cL_successor 6 (Option.some Jvm.ClassFile.FieldType.int) [(0, 12, 15, 24)]) B.pre
  have htab := vx_table (x := yL_successor) B (hts0 _ List.mem_cons_self)
  have hts : ∀ w ∈ gw, w.before _ s = true := fun w h => hts0 w (List.mem_cons_of_mem _ h)
  have hown : s.vm.findClass RL = some m.cls := findClass_of_methodNamed B.named
  have hlocks := B.notSynchronized
  subst hsz
  have hD := hD0.self (sz := s.heap.size)
  generalize hAe : va_A [(gx, .inr (11, [.ref gq1, .ref gq4, .ref gq13, .ref gq136, .ref gq137, .ref gq138, .ref gq172, .ref gq184, .ref gq150, .ref gq161, .int (-1)])), (gq150, .inr (2, [.int 0, .ref gq151, .ref gq152, .ref gq153, .ref gq154, .ref gq155, .ref gq156, .int 0, .ref gq157, .ref gq158, .ref gq159, .int 0, .ref gq160]))] s.heap.size = A at hD hE ⊢
  have hA : ∀ q : Nat, s.heap.size ≤ q → A q := fun q h => by rw [← hAe]; exact Or.inr h
  have hS : va_S A s.heap s.heap [] := va_S.rf
  have hP : va_P (dC, dI) cls [(gx, .inr (11, [.ref gq1, .ref gq4, .ref gq13, .ref gq136, .ref gq137, .ref gq138, .ref gq172, .ref gq184, .ref gq150, .ref gq161, .int (-1)])), (gq150, .inr (2, [.int 0, .ref gq151, .ref gq152, .ref gq153, .ref gq154, .ref gq155, .ref gq156, .int 0, .ref gq157, .ref gq158, .ref gq159, .int 0, .ref gq160]))] s.heap := hP
  have hl := lv_entry ([.ref gx, .int p0, .int p1, .int p2, .ref go]) (n := 6) (Nat.le_of_ble_eq_true rfl)
  rw [lg_entry_eq]
  generalize (lg_sl ([.ref gx, .int p0, .int p1, .int p2, .ref go]) ++ List.replicate (6 - (lg_sl ([.ref gx, .int p0, .int p1, .int p2, .ref go])).length) Slot.unset).toArray = ls at hl ⊢
  have hl : lv_has ls 6 [(0, .ref gx), (1, .int p0), (2, .int p1), (3, .int p2), (4, .ref go)] := hl
  refine lv_aload hx hb dL_successor_0 (lv_at hl 4 rfl) ?_
  refine lv_iconst (v := 0) hx hb dL_successor_2 (by decide) ?_
  refine lv_aload_n hx hb dL_successor_3 rfl (lv_at hl 0 rfl) ?_
  refine lv_iload_n hx hb dL_successor_4 rfl (lv_at hl 1 rfl) ?_
  refine lv_iload_n hx hb dL_successor_5 rfl (lv_at hl 2 rfl) ?_
  refine lv_iload_n hx hb dL_successor_6 rfl (lv_at hl 3 rfl) ?_
  have hPc := hP.sub (ws' := [(gx, .inr (11, [.ref gq1, .ref gq4, .ref gq13, .ref gq136, .ref gq137, .ref gq138, .ref gq172, .ref gq184, .ref gq150, .ref gq161, .int (-1)])), (gq150, .inr (2, [.int 0, .ref gq151, .ref gq152, .ref gq153, .ref gq154, .ref gq155, .ref gq156, .int 0, .ref gq157, .ref gq158, .ref gq159, .int 0, .ref gq160]))]) [0, 1] rfl
  have hDc := hD.sub (ws' := [(gx, .inr (11, [.ref gq1, .ref gq4, .ref gq13, .ref gq136, .ref gq137, .ref gq138, .ref gq172, .ref gq184, .ref gq150, .ref gq161, .int (-1)])), (gq150, .inr (2, [.int 0, .ref gq151, .ref gq152, .ref gq153, .ref gq154, .ref gq155, .ref gq156, .int 0, .ref gq157, .ref gq158, .ref gq159, .int 0, .ref gq160]))]) [0, 1] (by decide) rfl
  have hKc := hK.sub (tys' := []) [] rfl
  have hFc := va_free (wc := [(gx, .inr (11, [.ref gq1, .ref gq4, .ref gq13, .ref gq136, .ref gq137, .ref gq138, .ref gq172, .ref gq184, .ref gq150, .ref gq161, .int (-1)])), (gq150, .inr (2, [.int 0, .ref gq151, .ref gq152, .ref gq153, .ref gq154, .ref gq155, .ref gq156, .int 0, .ref gq157, .ref gq158, .ref gq159, .int 0, .ref gq160]))]) hD hS hA [0, 1] rfl
  refine vx_calli (vx_runV (As := [.int p0, .int p1, .int p2]) (rest := [.int 0, .ref go]) ⟨hx, hb, hml, hown, hts⟩ (kX11_successor l dC dI (gx := gx) (gq1 := gq1) (gq4 := gq4) (gq13 := gq13) (gq136 := gq136) (gq137 := gq137) (gq138 := gq138) (gq150 := gq150) (gq151 := gq151) (gq152 := gq152) (gq153 := gq153) (gq154 := gq154) (gq155 := gq155) (gq156 := gq156) (gq157 := gq157) (gq158 := gq158) (gq159 := gq159) (gq160 := gq160) (gq161 := gq161) (gq172 := gq172) (gq184 := gq184) (p0 := p0) (p1 := p1) (p2 := p2) (sz := _) (hl9 := hl9)) (cwV 3 hts (gi_V qw524 qw525 qw526 qw222 (gi_z qw523)) rfl rfl rfl (by decide +kernel) ⟨Nat.le_of_ble_eq_true rfl, Nat.le_of_ble_eq_true rfl⟩) ⟨PRE.blind, va_recv hKc hPc (ci := 11) (q0 := 0) rfl rfl, PRE.of hE hS hFc hPc hKc hDc⟩ rfl rfl hl.1 rfl (lv_room (Nat.le_of_ble_eq_true rfl)) dL_successor_7 ⟨Nat.le_of_ble_eq_true rfl, Nat.le_of_ble_eq_true rfl⟩) hS (fun q _ h => hFc q h) hFc (fun q _ h => hFc q h) (fun E ce q9 u t H locs ht hvm hw hB hz1 hk1 hS hce hcv hcl => ?_) (fun _ u t H locs ht hvm hw hB hz1 hk1 hS => hw.elim)
  obtain ⟨rfl, hB⟩ := hB
  obtain ⟨hP, hD, hK⟩ := JOIN (wr := []) hP hD hK [0, 1] [] [] rfl rfl (by decide) (by decide) rfl hk1 hFc ht hvm hB
  have hP : va_P (dC, dI) cls [] H := hP
  have hD : va_D A [] := hD
  have hK : va_K (dC, dI) cls [] s := hK
  refine vx_widen (k := 1) (n := 6) (Nat.le_of_ble_eq_true rfl) (Nat.le_of_ble_eq_true rfl) ?_
  refine vx_catch (own := RL) (name := "java/lang/IndexOutOfBoundsException") hown [] ⟨0, 12, 15, 24⟩ [] (htab.trans rfl) (fun z hz => by cases hz) (by decide) (by decide) (hts _ qw490) (hE.word (List.mem_append_right _ (tbl_9 (i := 38) rfl)) rfl) hce hcv hcl ?_
  refine lv_astore (lv' := [(5, .ref q9), (0, .ref gx), (1, .int p0), (2, .int p1), (3, .int p2), (4, .ref go)]) hx hb dL_successor_15 hl (by decide) rfl (fun ls hl => ?_)
  refine lv_iconst (v := 1) hx hb dL_successor_17 (by decide) ?_
  have hP9 : va_P (dC, dI) cls [] H := hP.sub [] rfl
  have hD9 : va_D A [] := hD.sub [] (by decide) rfl
  have hK9 : va_K (dC, dI) cls [] s := hK.sub [] rfl
  exact W.iret (v := 1) hx hb hr (fun t ht hW => ⟨⟨1, (), rfl, rfl, ⟨by rw [ht]; exact hP9, va_K.moved hW.alike hK9, hD9⟩⟩, hS.F ht⟩) hS.2.2 dL_successor_18
set_option maxHeartbeats 4000000 in
set_option maxRecDepth 100000 in
theorem kL_endValue {zs : Nat × Nat} (l : Launch) (dC : Nat → ClassId) (dI : Nat → Nat → Nat) (gx : Nat) (gq1 : Nat) (gq4 : Nat) (gq13 : Nat) (gq136 : Nat) (gq137 : Nat) (gq138 : Nat) (gq150 : Nat) (gq151 : Nat) (gq152 : Nat) (gq153 : Nat) (gq154 : Nat) (gq155 : Nat) (gq156 : Nat) (gq157 : Nat) (gq158 : Nat) (gq159 : Nat) (gq160 : Nat) (gq161 : Nat) (gq172 : Nat) (gq184 : Nat) (go : Nat) (p0 : Int32) (p1 : Int32) (sz : Nat) (hl9 : l.stackTraces = false)  : Met l yL_endValue (wh yL_endValue cL_endValue 5 (Option.some Jvm.ClassFile.FieldType.int) [(0, 10, 13, 24)]) ({ frames := 9, cells := 1, slots := 6, locals := 165 }) (va_Pc [.ref gx, .int p0, .int p1, .ref go] (PRE zs dC dI [(gx, .inr (11, [.ref gq1, .ref gq4, .ref gq13, .ref gq136, .ref gq137, .ref gq138, .ref gq172, .ref gq184, .ref gq150, .ref gq161, .int (-1)])), (gq150, .inr (2, [.int 0, .ref gq151, .ref gq152, .ref gq153, .ref gq154, .ref gq155, .ref gq156, .int 0, .ref gq157, .ref gq158, .ref gq159, .int 0, .ref gq160]))] [] sz)) (va_Qi (fun (r : Int32) (_ : Unit) => r = 1) (fun _ t => POST dC dI [] [] (va_A [(gx, .inr (11, [.ref gq1, .ref gq4, .ref gq13, .ref gq136, .ref gq137, .ref gq138, .ref gq172, .ref gq184, .ref gq150, .ref gq161, .int (-1)])), (gq150, .inr (2, [.int 0, .ref gq151, .ref gq152, .ref gq153, .ref gq154, .ref gq155, .ref gq156, .int 0, .ref gq157, .ref gq158, .ref gq159, .int 0, .ref gq160]))] sz) t) (va_A [(gx, .inr (11, [.ref gq1, .ref gq4, .ref gq13, .ref gq136, .ref gq137, .ref gq138, .ref gq172, .ref gq184, .ref gq150, .ref gq161, .int (-1)])), (gq150, .inr (2, [.int 0, .ref gq151, .ref gq152, .ref gq153, .ref gq154, .ref gq155, .ref gq156, .int 0, .ref gq157, .ref gq158, .ref gq159, .int 0, .ref gq160]))] sz)) 1 6 (va_A [(gx, .inr (11, [.ref gq1, .ref gq4, .ref gq13, .ref gq136, .ref gq137, .ref gq138, .ref gq172, .ref gq184, .ref gq150, .ref gq161, .int (-1)])), (gq150, .inr (2, [.int 0, .ref gq151, .ref gq152, .ref gq153, .ref gq154, .ref gq155, .ref gq156, .int 0, .ref gq157, .ref gq158, .ref gq159, .int 0, .ref gq160]))] sz) := by
  refine va_MetW (cc := cL_endValue) (maxL := 5) (ret := (Option.some Jvm.ClassFile.FieldType.int)) (hh := [(0, 10, 13, 24)]) (by decide) rfl ?_
  intro p e s m args below meth c s₁ B hml hv
  obtain ⟨rfl, hsz, hP, hK, hD0, hE⟩ := hv
  have hx := B.exec
  have hb := B.bytes
  have hr := B.returns
  have hts0 := atoms_spec (ws := wh yL_endValue cL_endValue 5 (Option.some Jvm.ClassFile.FieldType.int) [(0, 10, 13, 24)]) B.pre
  have htab := vx_table (x := yL_endValue) B (hts0 _ List.mem_cons_self)
  have hts : ∀ w ∈ gw, w.before _ s = true := fun w h => hts0 w (List.mem_cons_of_mem _ h)
  have hown : s.vm.findClass RL = some m.cls := findClass_of_methodNamed B.named
  have hlocks := B.notSynchronized
  subst hsz
  have hD := hD0.self (sz := s.heap.size)
  generalize hAe : va_A [(gx, .inr (11, [.ref gq1, .ref gq4, .ref gq13, .ref gq136, .ref gq137, .ref gq138, .ref gq172, .ref gq184, .ref gq150, .ref gq161, .int (-1)])), (gq150, .inr (2, [.int 0, .ref gq151, .ref gq152, .ref gq153, .ref gq154, .ref gq155, .ref gq156, .int 0, .ref gq157, .ref gq158, .ref gq159, .int 0, .ref gq160]))] s.heap.size = A at hD hE ⊢
  have hA : ∀ q : Nat, s.heap.size ≤ q → A q := fun q h => by rw [← hAe]; exact Or.inr h
  have hS : va_S A s.heap s.heap [] := va_S.rf
  have hP : va_P (dC, dI) cls [(gx, .inr (11, [.ref gq1, .ref gq4, .ref gq13, .ref gq136, .ref gq137, .ref gq138, .ref gq172, .ref gq184, .ref gq150, .ref gq161, .int (-1)])), (gq150, .inr (2, [.int 0, .ref gq151, .ref gq152, .ref gq153, .ref gq154, .ref gq155, .ref gq156, .int 0, .ref gq157, .ref gq158, .ref gq159, .int 0, .ref gq160]))] s.heap := hP
  have hl := lv_entry ([.ref gx, .int p0, .int p1, .ref go]) (n := 5) (Nat.le_of_ble_eq_true rfl)
  rw [lg_entry_eq]
  generalize (lg_sl ([.ref gx, .int p0, .int p1, .ref go]) ++ List.replicate (5 - (lg_sl ([.ref gx, .int p0, .int p1, .ref go])).length) Slot.unset).toArray = ls at hl ⊢
  have hl : lv_has ls 5 [(0, .ref gx), (1, .int p0), (2, .int p1), (3, .ref go)] := hl
  refine lv_aload_n hx hb dL_endValue_0 rfl (lv_at hl 3 rfl) ?_
  refine lv_iconst (v := 0) hx hb dL_endValue_1 (by decide) ?_
  refine lv_aload_n hx hb dL_endValue_2 rfl (lv_at hl 0 rfl) ?_
  refine lv_iload_n hx hb dL_endValue_3 rfl (lv_at hl 1 rfl) ?_
  refine lv_iload_n hx hb dL_endValue_4 rfl (lv_at hl 2 rfl) ?_
  have hPc := hP.sub (ws' := [(gx, .inr (11, [.ref gq1, .ref gq4, .ref gq13, .ref gq136, .ref gq137, .ref gq138, .ref gq172, .ref gq184, .ref gq150, .ref gq161, .int (-1)])), (gq150, .inr (2, [.int 0, .ref gq151, .ref gq152, .ref gq153, .ref gq154, .ref gq155, .ref gq156, .int 0, .ref gq157, .ref gq158, .ref gq159, .int 0, .ref gq160]))]) [0, 1] rfl
  have hDc := hD.sub (ws' := [(gx, .inr (11, [.ref gq1, .ref gq4, .ref gq13, .ref gq136, .ref gq137, .ref gq138, .ref gq172, .ref gq184, .ref gq150, .ref gq161, .int (-1)])), (gq150, .inr (2, [.int 0, .ref gq151, .ref gq152, .ref gq153, .ref gq154, .ref gq155, .ref gq156, .int 0, .ref gq157, .ref gq158, .ref gq159, .int 0, .ref gq160]))]) [0, 1] (by decide) rfl
  have hKc := hK.sub (tys' := []) [] rfl
  have hFc := va_free (wc := [(gx, .inr (11, [.ref gq1, .ref gq4, .ref gq13, .ref gq136, .ref gq137, .ref gq138, .ref gq172, .ref gq184, .ref gq150, .ref gq161, .int (-1)])), (gq150, .inr (2, [.int 0, .ref gq151, .ref gq152, .ref gq153, .ref gq154, .ref gq155, .ref gq156, .int 0, .ref gq157, .ref gq158, .ref gq159, .int 0, .ref gq160]))]) hD hS hA [0, 1] rfl
  refine vx_calli (vx_runV (As := [.int p0, .int p1]) (rest := [.int 0, .ref go]) ⟨hx, hb, hml, hown, hts⟩ (kX11_endValue l dC dI (gx := gx) (gq1 := gq1) (gq4 := gq4) (gq13 := gq13) (gq136 := gq136) (gq137 := gq137) (gq138 := gq138) (gq150 := gq150) (gq151 := gq151) (gq152 := gq152) (gq153 := gq153) (gq154 := gq154) (gq155 := gq155) (gq156 := gq156) (gq157 := gq157) (gq158 := gq158) (gq159 := gq159) (gq160 := gq160) (gq161 := gq161) (gq172 := gq172) (gq184 := gq184) (p0 := p0) (p1 := p1) (sz := _) (hl9 := hl9)) (cwV 2 hts (gi_V qw528 qw529 qw530 qw222 (gi_z qw527)) rfl rfl rfl (by decide +kernel) ⟨Nat.le_of_ble_eq_true rfl, Nat.le_of_ble_eq_true rfl⟩) ⟨PRE.blind, va_recv hKc hPc (ci := 11) (q0 := 0) rfl rfl, PRE.of hE hS hFc hPc hKc hDc⟩ rfl rfl hl.1 rfl (lv_room (Nat.le_of_ble_eq_true rfl)) dL_endValue_5 ⟨Nat.le_of_ble_eq_true rfl, Nat.le_of_ble_eq_true rfl⟩) hS (fun q _ h => hFc q h) hFc (fun q _ h => hFc q h) (fun E ce q9 u t H locs ht hvm hw hB hz1 hk1 hS hce hcv hcl => ?_) (fun _ u t H locs ht hvm hw hB hz1 hk1 hS => hw.elim)
  obtain ⟨rfl, hB⟩ := hB
  obtain ⟨hP, hD, hK⟩ := JOIN (wr := []) hP hD hK [0, 1] [] [] rfl rfl (by decide) (by decide) rfl hk1 hFc ht hvm hB
  have hP : va_P (dC, dI) cls [] H := hP
  have hD : va_D A [] := hD
  have hK : va_K (dC, dI) cls [] s := hK
  refine vx_widen (k := 1) (n := 6) (Nat.le_of_ble_eq_true rfl) (Nat.le_of_ble_eq_true rfl) ?_
  refine vx_catch (own := RL) (name := "java/lang/IndexOutOfBoundsException") hown [] ⟨0, 10, 13, 24⟩ [] (htab.trans rfl) (fun z hz => by cases hz) (by decide) (by decide) (hts _ qw490) (hE.word (List.mem_append_right _ (tbl_9 (i := 38) rfl)) rfl) hce hcv hcl ?_
  refine lv_astore (lv' := [(4, .ref q9), (0, .ref gx), (1, .int p0), (2, .int p1), (3, .ref go)]) hx hb dL_endValue_13 hl (by decide) rfl (fun ls hl => ?_)
  refine lv_iconst (v := 1) hx hb dL_endValue_15 (by decide) ?_
  have hP9 : va_P (dC, dI) cls [] H := hP.sub [] rfl
  have hD9 : va_D A [] := hD.sub [] (by decide) rfl
  have hK9 : va_K (dC, dI) cls [] s := hK.sub [] rfl
  exact W.iret (v := 1) hx hb hr (fun t ht hW => ⟨⟨1, (), rfl, rfl, ⟨by rw [ht]; exact hP9, va_K.moved hW.alike hK9, hD9⟩⟩, hS.F ht⟩) hS.2.2 dL_endValue_16
set_option maxHeartbeats 4000000 in
set_option maxRecDepth 100000 in
theorem kL_phis {zs : Nat × Nat} (l : Launch) (dC : Nat → ClassId) (dI : Nat → Nat → Nat) (gx : Nat) (gq1 : Nat) (gq4 : Nat) (gq13 : Nat) (gq136 : Nat) (gq137 : Nat) (gq138 : Nat) (gq150 : Nat) (gq151 : Nat) (gq152 : Nat) (gq153 : Nat) (gq154 : Nat) (gq155 : Nat) (gq156 : Nat) (gq157 : Nat) (gq158 : Nat) (gq159 : Nat) (gq160 : Nat) (gq161 : Nat) (gq172 : Nat) (gq184 : Nat) (go : Nat) (p0 : Int32) (p1 : Int32) (sz : Nat) (hl9 : l.stackTraces = false)  : Met l yL_phis (wh yL_phis cL_phis 5 (Option.some Jvm.ClassFile.FieldType.int) [(0, 10, 13, 24)]) ({ frames := 9, cells := 1, slots := 6, locals := 165 }) (va_Pc [.ref gx, .int p0, .int p1, .ref go] (PRE zs dC dI [(gx, .inr (11, [.ref gq1, .ref gq4, .ref gq13, .ref gq136, .ref gq137, .ref gq138, .ref gq172, .ref gq184, .ref gq150, .ref gq161, .int (-1)])), (gq150, .inr (2, [.int 0, .ref gq151, .ref gq152, .ref gq153, .ref gq154, .ref gq155, .ref gq156, .int 0, .ref gq157, .ref gq158, .ref gq159, .int 0, .ref gq160]))] [] sz)) (va_Qi (fun (r : Int32) (_ : Unit) => r = 1) (fun _ t => POST dC dI [] [] (va_A [(gx, .inr (11, [.ref gq1, .ref gq4, .ref gq13, .ref gq136, .ref gq137, .ref gq138, .ref gq172, .ref gq184, .ref gq150, .ref gq161, .int (-1)])), (gq150, .inr (2, [.int 0, .ref gq151, .ref gq152, .ref gq153, .ref gq154, .ref gq155, .ref gq156, .int 0, .ref gq157, .ref gq158, .ref gq159, .int 0, .ref gq160]))] sz) t) (va_A [(gx, .inr (11, [.ref gq1, .ref gq4, .ref gq13, .ref gq136, .ref gq137, .ref gq138, .ref gq172, .ref gq184, .ref gq150, .ref gq161, .int (-1)])), (gq150, .inr (2, [.int 0, .ref gq151, .ref gq152, .ref gq153, .ref gq154, .ref gq155, .ref gq156, .int 0, .ref gq157, .ref gq158, .ref gq159, .int 0, .ref gq160]))] sz)) 1 6 (va_A [(gx, .inr (11, [.ref gq1, .ref gq4, .ref gq13, .ref gq136, .ref gq137, .ref gq138, .ref gq172, .ref gq184, .ref gq150, .ref gq161, .int (-1)])), (gq150, .inr (2, [.int 0, .ref gq151, .ref gq152, .ref gq153, .ref gq154, .ref gq155, .ref gq156, .int 0, .ref gq157, .ref gq158, .ref gq159, .int 0, .ref gq160]))] sz) := by
  refine va_MetW (cc := cL_phis) (maxL := 5) (ret := (Option.some Jvm.ClassFile.FieldType.int)) (hh := [(0, 10, 13, 24)]) (by decide) rfl ?_
  intro p e s m args below meth c s₁ B hml hv
  obtain ⟨rfl, hsz, hP, hK, hD0, hE⟩ := hv
  have hx := B.exec
  have hb := B.bytes
  have hr := B.returns
  have hts0 := atoms_spec (ws := wh yL_phis cL_phis 5 (Option.some Jvm.ClassFile.FieldType.int) [(0, 10, 13, 24)]) B.pre
  have htab := vx_table (x := yL_phis) B (hts0 _ List.mem_cons_self)
  have hts : ∀ w ∈ gw, w.before _ s = true := fun w h => hts0 w (List.mem_cons_of_mem _ h)
  have hown : s.vm.findClass RL = some m.cls := findClass_of_methodNamed B.named
  have hlocks := B.notSynchronized
  subst hsz
  have hD := hD0.self (sz := s.heap.size)
  generalize hAe : va_A [(gx, .inr (11, [.ref gq1, .ref gq4, .ref gq13, .ref gq136, .ref gq137, .ref gq138, .ref gq172, .ref gq184, .ref gq150, .ref gq161, .int (-1)])), (gq150, .inr (2, [.int 0, .ref gq151, .ref gq152, .ref gq153, .ref gq154, .ref gq155, .ref gq156, .int 0, .ref gq157, .ref gq158, .ref gq159, .int 0, .ref gq160]))] s.heap.size = A at hD hE ⊢
  have hA : ∀ q : Nat, s.heap.size ≤ q → A q := fun q h => by rw [← hAe]; exact Or.inr h
  have hS : va_S A s.heap s.heap [] := va_S.rf
  have hP : va_P (dC, dI) cls [(gx, .inr (11, [.ref gq1, .ref gq4, .ref gq13, .ref gq136, .ref gq137, .ref gq138, .ref gq172, .ref gq184, .ref gq150, .ref gq161, .int (-1)])), (gq150, .inr (2, [.int 0, .ref gq151, .ref gq152, .ref gq153, .ref gq154, .ref gq155, .ref gq156, .int 0, .ref gq157, .ref gq158, .ref gq159, .int 0, .ref gq160]))] s.heap := hP
  have hl := lv_entry ([.ref gx, .int p0, .int p1, .ref go]) (n := 5) (Nat.le_of_ble_eq_true rfl)
  rw [lg_entry_eq]
  generalize (lg_sl ([.ref gx, .int p0, .int p1, .ref go]) ++ List.replicate (5 - (lg_sl ([.ref gx, .int p0, .int p1, .ref go])).length) Slot.unset).toArray = ls at hl ⊢
  have hl : lv_has ls 5 [(0, .ref gx), (1, .int p0), (2, .int p1), (3, .ref go)] := hl
  refine lv_aload_n hx hb dL_phis_0 rfl (lv_at hl 3 rfl) ?_
  refine lv_iconst (v := 0) hx hb dL_phis_1 (by decide) ?_
  refine lv_aload_n hx hb dL_phis_2 rfl (lv_at hl 0 rfl) ?_
  refine lv_iload_n hx hb dL_phis_3 rfl (lv_at hl 1 rfl) ?_
  refine lv_iload_n hx hb dL_phis_4 rfl (lv_at hl 2 rfl) ?_
  have hPc := hP.sub (ws' := [(gx, .inr (11, [.ref gq1, .ref gq4, .ref gq13, .ref gq136, .ref gq137, .ref gq138, .ref gq172, .ref gq184, .ref gq150, .ref gq161, .int (-1)])), (gq150, .inr (2, [.int 0, .ref gq151, .ref gq152, .ref gq153, .ref gq154, .ref gq155, .ref gq156, .int 0, .ref gq157, .ref gq158, .ref gq159, .int 0, .ref gq160]))]) [0, 1] rfl
  have hDc := hD.sub (ws' := [(gx, .inr (11, [.ref gq1, .ref gq4, .ref gq13, .ref gq136, .ref gq137, .ref gq138, .ref gq172, .ref gq184, .ref gq150, .ref gq161, .int (-1)])), (gq150, .inr (2, [.int 0, .ref gq151, .ref gq152, .ref gq153, .ref gq154, .ref gq155, .ref gq156, .int 0, .ref gq157, .ref gq158, .ref gq159, .int 0, .ref gq160]))]) [0, 1] (by decide) rfl
  have hKc := hK.sub (tys' := []) [] rfl
  have hFc := va_free (wc := [(gx, .inr (11, [.ref gq1, .ref gq4, .ref gq13, .ref gq136, .ref gq137, .ref gq138, .ref gq172, .ref gq184, .ref gq150, .ref gq161, .int (-1)])), (gq150, .inr (2, [.int 0, .ref gq151, .ref gq152, .ref gq153, .ref gq154, .ref gq155, .ref gq156, .int 0, .ref gq157, .ref gq158, .ref gq159, .int 0, .ref gq160]))]) hD hS hA [0, 1] rfl
  refine vx_calli (vx_runV (As := [.int p0, .int p1]) (rest := [.int 0, .ref go]) ⟨hx, hb, hml, hown, hts⟩ (kX11_phis l dC dI (gx := gx) (gq1 := gq1) (gq4 := gq4) (gq13 := gq13) (gq136 := gq136) (gq137 := gq137) (gq138 := gq138) (gq150 := gq150) (gq151 := gq151) (gq152 := gq152) (gq153 := gq153) (gq154 := gq154) (gq155 := gq155) (gq156 := gq156) (gq157 := gq157) (gq158 := gq158) (gq159 := gq159) (gq160 := gq160) (gq161 := gq161) (gq172 := gq172) (gq184 := gq184) (p0 := p0) (p1 := p1) (sz := _) (hl9 := hl9)) (cwV 2 hts (gi_V qw532 qw533 qw534 qw222 (gi_z qw531)) rfl rfl rfl (by decide +kernel) ⟨Nat.le_of_ble_eq_true rfl, Nat.le_of_ble_eq_true rfl⟩) ⟨PRE.blind, va_recv hKc hPc (ci := 11) (q0 := 0) rfl rfl, PRE.of hE hS hFc hPc hKc hDc⟩ rfl rfl hl.1 rfl (lv_room (Nat.le_of_ble_eq_true rfl)) dL_phis_5 ⟨Nat.le_of_ble_eq_true rfl, Nat.le_of_ble_eq_true rfl⟩) hS (fun q _ h => hFc q h) hFc (fun q _ h => hFc q h) (fun E ce q9 u t H locs ht hvm hw hB hz1 hk1 hS hce hcv hcl => ?_) (fun _ u t H locs ht hvm hw hB hz1 hk1 hS => hw.elim)
  obtain ⟨rfl, hB⟩ := hB
  obtain ⟨hP, hD, hK⟩ := JOIN (wr := []) hP hD hK [0, 1] [] [] rfl rfl (by decide) (by decide) rfl hk1 hFc ht hvm hB
  have hP : va_P (dC, dI) cls [] H := hP
  have hD : va_D A [] := hD
  have hK : va_K (dC, dI) cls [] s := hK
  refine vx_widen (k := 1) (n := 6) (Nat.le_of_ble_eq_true rfl) (Nat.le_of_ble_eq_true rfl) ?_
  refine vx_catch (own := RL) (name := "java/lang/IndexOutOfBoundsException") hown [] ⟨0, 10, 13, 24⟩ [] (htab.trans rfl) (fun z hz => by cases hz) (by decide) (by decide) (hts _ qw490) (hE.word (List.mem_append_right _ (tbl_9 (i := 38) rfl)) rfl) hce hcv hcl ?_
  refine lv_astore (lv' := [(4, .ref q9), (0, .ref gx), (1, .int p0), (2, .int p1), (3, .ref go)]) hx hb dL_phis_13 hl (by decide) rfl (fun ls hl => ?_)
  refine lv_iconst (v := 1) hx hb dL_phis_15 (by decide) ?_
  have hP9 : va_P (dC, dI) cls [] H := hP.sub [] rfl
  have hD9 : va_D A [] := hD.sub [] (by decide) rfl
  have hK9 : va_K (dC, dI) cls [] s := hK.sub [] rfl
  exact W.iret (v := 1) hx hb hr (fun t ht hW => ⟨⟨1, (), rfl, rfl, ⟨by rw [ht]; exact hP9, va_K.moved hW.alike hK9, hD9⟩⟩, hS.F ht⟩) hS.2.2 dL_phis_16
set_option maxHeartbeats 4000000 in
set_option maxRecDepth 100000 in
theorem kL_phiGives {zs : Nat × Nat} (l : Launch) (dC : Nat → ClassId) (dI : Nat → Nat → Nat) (gx : Nat) (gq1 : Nat) (gq4 : Nat) (gq13 : Nat) (gq136 : Nat) (gq137 : Nat) (gq138 : Nat) (gq150 : Nat) (gq151 : Nat) (gq152 : Nat) (gq153 : Nat) (gq154 : Nat) (gq155 : Nat) (gq156 : Nat) (gq157 : Nat) (gq158 : Nat) (gq159 : Nat) (gq160 : Nat) (gq161 : Nat) (gq172 : Nat) (gq184 : Nat) (go : Nat) (p0 : Int32) (p1 : Int32) (p2 : Int32) (sz : Nat) (hl9 : l.stackTraces = false)  : Met l yL_phiGives (wh yL_phiGives cL_phiGives 6 (Option.some Jvm.ClassFile.FieldType.int) [(0, 12, 15, 24)]) ({ frames := 9, cells := 1, slots := 6, locals := 168 }) (va_Pc [.ref gx, .int p0, .int p1, .int p2, .ref go] (PRE zs dC dI [(gx, .inr (11, [.ref gq1, .ref gq4, .ref gq13, .ref gq136, .ref gq137, .ref gq138, .ref gq172, .ref gq184, .ref gq150, .ref gq161, .int (-1)])), (gq150, .inr (2, [.int 0, .ref gq151, .ref gq152, .ref gq153, .ref gq154, .ref gq155, .ref gq156, .int 0, .ref gq157, .ref gq158, .ref gq159, .int 0, .ref gq160]))] [] sz)) (va_Qi (fun (r : Int32) (_ : Unit) => r = 1) (fun _ t => POST dC dI [] [] (va_A [(gx, .inr (11, [.ref gq1, .ref gq4, .ref gq13, .ref gq136, .ref gq137, .ref gq138, .ref gq172, .ref gq184, .ref gq150, .ref gq161, .int (-1)])), (gq150, .inr (2, [.int 0, .ref gq151, .ref gq152, .ref gq153, .ref gq154, .ref gq155, .ref gq156, .int 0, .ref gq157, .ref gq158, .ref gq159, .int 0, .ref gq160]))] sz) t) (va_A [(gx, .inr (11, [.ref gq1, .ref gq4, .ref gq13, .ref gq136, .ref gq137, .ref gq138, .ref gq172, .ref gq184, .ref gq150, .ref gq161, .int (-1)])), (gq150, .inr (2, [.int 0, .ref gq151, .ref gq152, .ref gq153, .ref gq154, .ref gq155, .ref gq156, .int 0, .ref gq157, .ref gq158, .ref gq159, .int 0, .ref gq160]))] sz)) 1 6 (va_A [(gx, .inr (11, [.ref gq1, .ref gq4, .ref gq13, .ref gq136, .ref gq137, .ref gq138, .ref gq172, .ref gq184, .ref gq150, .ref gq161, .int (-1)])), (gq150, .inr (2, [.int 0, .ref gq151, .ref gq152, .ref gq153, .ref gq154, .ref gq155, .ref gq156, .int 0, .ref gq157, .ref gq158, .ref gq159, .int 0, .ref gq160]))] sz) := by
  refine va_MetW (cc := cL_phiGives) (maxL := 6) (ret := (Option.some Jvm.ClassFile.FieldType.int)) (hh := [(0, 12, 15, 24)]) (by decide) rfl ?_
  intro p e s m args below meth c s₁ B hml hv
  obtain ⟨rfl, hsz, hP, hK, hD0, hE⟩ := hv
  have hx := B.exec
  have hb := B.bytes
  have hr := B.returns
  have hts0 := atoms_spec (ws := wh yL_phiGives cL_phiGives 6 (Option.some Jvm.ClassFile.FieldType.int) [(0, 12, 15, 24)]) B.pre
  have htab := vx_table (x := yL_phiGives) B (hts0 _ List.mem_cons_self)
  have hts : ∀ w ∈ gw, w.before _ s = true := fun w h => hts0 w (List.mem_cons_of_mem _ h)
  have hown : s.vm.findClass RL = some m.cls := findClass_of_methodNamed B.named
  have hlocks := B.notSynchronized
  subst hsz
  have hD := hD0.self (sz := s.heap.size)
  generalize hAe : va_A [(gx, .inr (11, [.ref gq1, .ref gq4, .ref gq13, .ref gq136, .ref gq137, .ref gq138, .ref gq172, .ref gq184, .ref gq150, .ref gq161, .int (-1)])), (gq150, .inr (2, [.int 0, .ref gq151, .ref gq152, .ref gq153, .ref gq154, .ref gq155, .ref gq156, .int 0, .ref gq157, .ref gq158, .ref gq159, .int 0, .ref gq160]))] s.heap.size = A at hD hE ⊢
  have hA : ∀ q : Nat, s.heap.size ≤ q → A q := fun q h => by rw [← hAe]; exact Or.inr h
  have hS : va_S A s.heap s.heap [] := va_S.rf
  have hP : va_P (dC, dI) cls [(gx, .inr (11, [.ref gq1, .ref gq4, .ref gq13, .ref gq136, .ref gq137, .ref gq138, .ref gq172, .ref gq184, .ref gq150, .ref gq161, .int (-1)])), (gq150, .inr (2, [.int 0, .ref gq151, .ref gq152, .ref gq153, .ref gq154, .ref gq155, .ref gq156, .int 0, .ref gq157, .ref gq158, .ref gq159, .int 0, .ref gq160]))] s.heap := hP
  have hl := lv_entry ([.ref gx, .int p0, .int p1, .int p2, .ref go]) (n := 6) (Nat.le_of_ble_eq_true rfl)
  rw [lg_entry_eq]
  generalize (lg_sl ([.ref gx, .int p0, .int p1, .int p2, .ref go]) ++ List.replicate (6 - (lg_sl ([.ref gx, .int p0, .int p1, .int p2, .ref go])).length) Slot.unset).toArray = ls at hl ⊢
  have hl : lv_has ls 6 [(0, .ref gx), (1, .int p0), (2, .int p1), (3, .int p2), (4, .ref go)] := hl
  refine lv_aload hx hb dL_phiGives_0 (lv_at hl 4 rfl) ?_
  refine lv_iconst (v := 0) hx hb dL_phiGives_2 (by decide) ?_
  refine lv_aload_n hx hb dL_phiGives_3 rfl (lv_at hl 0 rfl) ?_
  refine lv_iload_n hx hb dL_phiGives_4 rfl (lv_at hl 1 rfl) ?_
  refine lv_iload_n hx hb dL_phiGives_5 rfl (lv_at hl 2 rfl) ?_
  refine lv_iload_n hx hb dL_phiGives_6 rfl (lv_at hl 3 rfl) ?_
  have hPc := hP.sub (ws' := [(gx, .inr (11, [.ref gq1, .ref gq4, .ref gq13, .ref gq136, .ref gq137, .ref gq138, .ref gq172, .ref gq184, .ref gq150, .ref gq161, .int (-1)])), (gq150, .inr (2, [.int 0, .ref gq151, .ref gq152, .ref gq153, .ref gq154, .ref gq155, .ref gq156, .int 0, .ref gq157, .ref gq158, .ref gq159, .int 0, .ref gq160]))]) [0, 1] rfl
  have hDc := hD.sub (ws' := [(gx, .inr (11, [.ref gq1, .ref gq4, .ref gq13, .ref gq136, .ref gq137, .ref gq138, .ref gq172, .ref gq184, .ref gq150, .ref gq161, .int (-1)])), (gq150, .inr (2, [.int 0, .ref gq151, .ref gq152, .ref gq153, .ref gq154, .ref gq155, .ref gq156, .int 0, .ref gq157, .ref gq158, .ref gq159, .int 0, .ref gq160]))]) [0, 1] (by decide) rfl
  have hKc := hK.sub (tys' := []) [] rfl
  have hFc := va_free (wc := [(gx, .inr (11, [.ref gq1, .ref gq4, .ref gq13, .ref gq136, .ref gq137, .ref gq138, .ref gq172, .ref gq184, .ref gq150, .ref gq161, .int (-1)])), (gq150, .inr (2, [.int 0, .ref gq151, .ref gq152, .ref gq153, .ref gq154, .ref gq155, .ref gq156, .int 0, .ref gq157, .ref gq158, .ref gq159, .int 0, .ref gq160]))]) hD hS hA [0, 1] rfl
  refine vx_calli (vx_runV (As := [.int p0, .int p1, .int p2]) (rest := [.int 0, .ref go]) ⟨hx, hb, hml, hown, hts⟩ (kX11_phiGives l dC dI (gx := gx) (gq1 := gq1) (gq4 := gq4) (gq13 := gq13) (gq136 := gq136) (gq137 := gq137) (gq138 := gq138) (gq150 := gq150) (gq151 := gq151) (gq152 := gq152) (gq153 := gq153) (gq154 := gq154) (gq155 := gq155) (gq156 := gq156) (gq157 := gq157) (gq158 := gq158) (gq159 := gq159) (gq160 := gq160) (gq161 := gq161) (gq172 := gq172) (gq184 := gq184) (p0 := p0) (p1 := p1) (p2 := p2) (sz := _) (hl9 := hl9)) (cwV 3 hts (gi_V qw536 qw537 qw538 qw222 (gi_z qw535)) rfl rfl rfl (by decide +kernel) ⟨Nat.le_of_ble_eq_true rfl, Nat.le_of_ble_eq_true rfl⟩) ⟨PRE.blind, va_recv hKc hPc (ci := 11) (q0 := 0) rfl rfl, PRE.of hE hS hFc hPc hKc hDc⟩ rfl rfl hl.1 rfl (lv_room (Nat.le_of_ble_eq_true rfl)) dL_phiGives_7 ⟨Nat.le_of_ble_eq_true rfl, Nat.le_of_ble_eq_true rfl⟩) hS (fun q _ h => hFc q h) hFc (fun q _ h => hFc q h) (fun E ce q9 u t H locs ht hvm hw hB hz1 hk1 hS hce hcv hcl => ?_) (fun _ u t H locs ht hvm hw hB hz1 hk1 hS => hw.elim)
  obtain ⟨rfl, hB⟩ := hB
  obtain ⟨hP, hD, hK⟩ := JOIN (wr := []) hP hD hK [0, 1] [] [] rfl rfl (by decide) (by decide) rfl hk1 hFc ht hvm hB
  have hP : va_P (dC, dI) cls [] H := hP
  have hD : va_D A [] := hD
  have hK : va_K (dC, dI) cls [] s := hK
  refine vx_widen (k := 1) (n := 6) (Nat.le_of_ble_eq_true rfl) (Nat.le_of_ble_eq_true rfl) ?_
  refine vx_catch (own := RL) (name := "java/lang/IndexOutOfBoundsException") hown [] ⟨0, 12, 15, 24⟩ [] (htab.trans rfl) (fun z hz => by cases hz) (by decide) (by decide) (hts _ qw490) (hE.word (List.mem_append_right _ (tbl_9 (i := 38) rfl)) rfl) hce hcv hcl ?_
  refine lv_astore (lv' := [(5, .ref q9), (0, .ref gx), (1, .int p0), (2, .int p1), (3, .int p2), (4, .ref go)]) hx hb dL_phiGives_15 hl (by decide) rfl (fun ls hl => ?_)
  refine lv_iconst (v := 1) hx hb dL_phiGives_17 (by decide) ?_
  have hP9 : va_P (dC, dI) cls [] H := hP.sub [] rfl
  have hD9 : va_D A [] := hD.sub [] (by decide) rfl
  have hK9 : va_K (dC, dI) cls [] s := hK.sub [] rfl
  exact W.iret (v := 1) hx hb hr (fun t ht hW => ⟨⟨1, (), rfl, rfl, ⟨by rw [ht]; exact hP9, va_K.moved hW.alike hK9, hD9⟩⟩, hS.F ht⟩) hS.2.2 dL_phiGives_18
set_option maxHeartbeats 4000000 in
set_option maxRecDepth 100000 in
theorem kL_phiTakes {zs : Nat × Nat} (l : Launch) (dC : Nat → ClassId) (dI : Nat → Nat → Nat) (gx : Nat) (gq1 : Nat) (gq4 : Nat) (gq13 : Nat) (gq136 : Nat) (gq137 : Nat) (gq138 : Nat) (gq150 : Nat) (gq151 : Nat) (gq152 : Nat) (gq153 : Nat) (gq154 : Nat) (gq155 : Nat) (gq156 : Nat) (gq157 : Nat) (gq158 : Nat) (gq159 : Nat) (gq160 : Nat) (gq161 : Nat) (gq172 : Nat) (gq184 : Nat) (go : Nat) (p0 : Int32) (p1 : Int32) (p2 : Int32) (p3 : Int32) (sz : Nat) (hl9 : l.stackTraces = false)  : Met l yL_phiTakes (wh yL_phiTakes cL_phiTakes 7 (Option.some Jvm.ClassFile.FieldType.int) [(0, 14, 17, 24)]) ({ frames := 9, cells := 1, slots := 6, locals := 169 }) (va_Pc [.ref gx, .int p0, .int p1, .int p2, .int p3, .ref go] (PRE zs dC dI [(gx, .inr (11, [.ref gq1, .ref gq4, .ref gq13, .ref gq136, .ref gq137, .ref gq138, .ref gq172, .ref gq184, .ref gq150, .ref gq161, .int (-1)])), (gq150, .inr (2, [.int 0, .ref gq151, .ref gq152, .ref gq153, .ref gq154, .ref gq155, .ref gq156, .int 0, .ref gq157, .ref gq158, .ref gq159, .int 0, .ref gq160]))] [] sz)) (va_Qi (fun (r : Int32) (_ : Unit) => r = 1) (fun _ t => POST dC dI [] [] (va_A [(gx, .inr (11, [.ref gq1, .ref gq4, .ref gq13, .ref gq136, .ref gq137, .ref gq138, .ref gq172, .ref gq184, .ref gq150, .ref gq161, .int (-1)])), (gq150, .inr (2, [.int 0, .ref gq151, .ref gq152, .ref gq153, .ref gq154, .ref gq155, .ref gq156, .int 0, .ref gq157, .ref gq158, .ref gq159, .int 0, .ref gq160]))] sz) t) (va_A [(gx, .inr (11, [.ref gq1, .ref gq4, .ref gq13, .ref gq136, .ref gq137, .ref gq138, .ref gq172, .ref gq184, .ref gq150, .ref gq161, .int (-1)])), (gq150, .inr (2, [.int 0, .ref gq151, .ref gq152, .ref gq153, .ref gq154, .ref gq155, .ref gq156, .int 0, .ref gq157, .ref gq158, .ref gq159, .int 0, .ref gq160]))] sz)) 1 6 (va_A [(gx, .inr (11, [.ref gq1, .ref gq4, .ref gq13, .ref gq136, .ref gq137, .ref gq138, .ref gq172, .ref gq184, .ref gq150, .ref gq161, .int (-1)])), (gq150, .inr (2, [.int 0, .ref gq151, .ref gq152, .ref gq153, .ref gq154, .ref gq155, .ref gq156, .int 0, .ref gq157, .ref gq158, .ref gq159, .int 0, .ref gq160]))] sz) := by
  refine va_MetW (cc := cL_phiTakes) (maxL := 7) (ret := (Option.some Jvm.ClassFile.FieldType.int)) (hh := [(0, 14, 17, 24)]) (by decide) rfl ?_
  intro p e s m args below meth c s₁ B hml hv
  obtain ⟨rfl, hsz, hP, hK, hD0, hE⟩ := hv
  have hx := B.exec
  have hb := B.bytes
  have hr := B.returns
  have hts0 := atoms_spec (ws := wh yL_phiTakes cL_phiTakes 7 (Option.some Jvm.ClassFile.FieldType.int) [(0, 14, 17, 24)]) B.pre
  have htab := vx_table (x := yL_phiTakes) B (hts0 _ List.mem_cons_self)
  have hts : ∀ w ∈ gw, w.before _ s = true := fun w h => hts0 w (List.mem_cons_of_mem _ h)
  have hown : s.vm.findClass RL = some m.cls := findClass_of_methodNamed B.named
  have hlocks := B.notSynchronized
  subst hsz
  have hD := hD0.self (sz := s.heap.size)
  generalize hAe : va_A [(gx, .inr (11, [.ref gq1, .ref gq4, .ref gq13, .ref gq136, .ref gq137, .ref gq138, .ref gq172, .ref gq184, .ref gq150, .ref gq161, .int (-1)])), (gq150, .inr (2, [.int 0, .ref gq151, .ref gq152, .ref gq153, .ref gq154, .ref gq155, .ref gq156, .int 0, .ref gq157, .ref gq158, .ref gq159, .int 0, .ref gq160]))] s.heap.size = A at hD hE ⊢
  have hA : ∀ q : Nat, s.heap.size ≤ q → A q := fun q h => by rw [← hAe]; exact Or.inr h
  have hS : va_S A s.heap s.heap [] := va_S.rf
  have hP : va_P (dC, dI) cls [(gx, .inr (11, [.ref gq1, .ref gq4, .ref gq13, .ref gq136, .ref gq137, .ref gq138, .ref gq172, .ref gq184, .ref gq150, .ref gq161, .int (-1)])), (gq150, .inr (2, [.int 0, .ref gq151, .ref gq152, .ref gq153, .ref gq154, .ref gq155, .ref gq156, .int 0, .ref gq157, .ref gq158, .ref gq159, .int 0, .ref gq160]))] s.heap := hP
  have hl := lv_entry ([.ref gx, .int p0, .int p1, .int p2, .int p3, .ref go]) (n := 7) (Nat.le_of_ble_eq_true rfl)
  rw [lg_entry_eq]
  generalize (lg_sl ([.ref gx, .int p0, .int p1, .int p2, .int p3, .ref go]) ++ List.replicate (7 - (lg_sl ([.ref gx, .int p0, .int p1, .int p2, .int p3, .ref go])).length) Slot.unset).toArray = ls at hl ⊢
  have hl : lv_has ls 7 [(0, .ref gx), (1, .int p0), (2, .int p1), (3, .int p2), (4, .int p3), (5, .ref go)] := hl
  refine lv_aload hx hb dL_phiTakes_0 (lv_at hl 5 rfl) ?_
  refine lv_iconst (v := 0) hx hb dL_phiTakes_2 (by decide) ?_
  refine lv_aload_n hx hb dL_phiTakes_3 rfl (lv_at hl 0 rfl) ?_
  refine lv_iload_n hx hb dL_phiTakes_4 rfl (lv_at hl 1 rfl) ?_
  refine lv_iload_n hx hb dL_phiTakes_5 rfl (lv_at hl 2 rfl) ?_
  refine lv_iload_n hx hb dL_phiTakes_6 rfl (lv_at hl 3 rfl) ?_
  refine lv_iload hx hb dL_phiTakes_7 (lv_at hl 4 rfl) ?_
  have hPc := hP.sub (ws' := [(gx, .inr (11, [.ref gq1, .ref gq4, .ref gq13, .ref gq136, .ref gq137, .ref gq138, .ref gq172, .ref gq184, .ref gq150, .ref gq161, .int (-1)])), (gq150, .inr (2, [.int 0, .ref gq151, .ref gq152, .ref gq153, .ref gq154, .ref gq155, .ref gq156, .int 0, .ref gq157, .ref gq158, .ref gq159, .int 0, .ref gq160]))]) [0, 1] rfl
  have hDc := hD.sub (ws' := [(gx, .inr (11, [.ref gq1, .ref gq4, .ref gq13, .ref gq136, .ref gq137, .ref gq138, .ref gq172, .ref gq184, .ref gq150, .ref gq161, .int (-1)])), (gq150, .inr (2, [.int 0, .ref gq151, .ref gq152, .ref gq153, .ref gq154, .ref gq155, .ref gq156, .int 0, .ref gq157, .ref gq158, .ref gq159, .int 0, .ref gq160]))]) [0, 1] (by decide) rfl
  have hKc := hK.sub (tys' := []) [] rfl
  have hFc := va_free (wc := [(gx, .inr (11, [.ref gq1, .ref gq4, .ref gq13, .ref gq136, .ref gq137, .ref gq138, .ref gq172, .ref gq184, .ref gq150, .ref gq161, .int (-1)])), (gq150, .inr (2, [.int 0, .ref gq151, .ref gq152, .ref gq153, .ref gq154, .ref gq155, .ref gq156, .int 0, .ref gq157, .ref gq158, .ref gq159, .int 0, .ref gq160]))]) hD hS hA [0, 1] rfl
  refine vx_calli (vx_runV (As := [.int p0, .int p1, .int p2, .int p3]) (rest := [.int 0, .ref go]) ⟨hx, hb, hml, hown, hts⟩ (kX11_phiTakes l dC dI (gx := gx) (gq1 := gq1) (gq4 := gq4) (gq13 := gq13) (gq136 := gq136) (gq137 := gq137) (gq138 := gq138) (gq150 := gq150) (gq151 := gq151) (gq152 := gq152) (gq153 := gq153) (gq154 := gq154) (gq155 := gq155) (gq156 := gq156) (gq157 := gq157) (gq158 := gq158) (gq159 := gq159) (gq160 := gq160) (gq161 := gq161) (gq172 := gq172) (gq184 := gq184) (p0 := p0) (p1 := p1) (p2 := p2) (p3 := p3) (sz := _) (hl9 := hl9)) (cwV 4 hts (gi_V qw540 qw541 qw542 qw222 (gi_z qw539)) rfl rfl rfl (by decide +kernel) ⟨Nat.le_of_ble_eq_true rfl, Nat.le_of_ble_eq_true rfl⟩) ⟨PRE.blind, va_recv hKc hPc (ci := 11) (q0 := 0) rfl rfl, PRE.of hE hS hFc hPc hKc hDc⟩ rfl rfl hl.1 rfl (lv_room (Nat.le_of_ble_eq_true rfl)) dL_phiTakes_9 ⟨Nat.le_of_ble_eq_true rfl, Nat.le_of_ble_eq_true rfl⟩) hS (fun q _ h => hFc q h) hFc (fun q _ h => hFc q h) (fun E ce q9 u t H locs ht hvm hw hB hz1 hk1 hS hce hcv hcl => ?_) (fun _ u t H locs ht hvm hw hB hz1 hk1 hS => hw.elim)
  obtain ⟨rfl, hB⟩ := hB
  obtain ⟨hP, hD, hK⟩ := JOIN (wr := []) hP hD hK [0, 1] [] [] rfl rfl (by decide) (by decide) rfl hk1 hFc ht hvm hB
  have hP : va_P (dC, dI) cls [] H := hP
  have hD : va_D A [] := hD
  have hK : va_K (dC, dI) cls [] s := hK
  refine vx_widen (k := 1) (n := 6) (Nat.le_of_ble_eq_true rfl) (Nat.le_of_ble_eq_true rfl) ?_
  refine vx_catch (own := RL) (name := "java/lang/IndexOutOfBoundsException") hown [] ⟨0, 14, 17, 24⟩ [] (htab.trans rfl) (fun z hz => by cases hz) (by decide) (by decide) (hts _ qw490) (hE.word (List.mem_append_right _ (tbl_9 (i := 38) rfl)) rfl) hce hcv hcl ?_
  refine lv_astore (lv' := [(6, .ref q9), (0, .ref gx), (1, .int p0), (2, .int p1), (3, .int p2), (4, .int p3), (5, .ref go)]) hx hb dL_phiTakes_17 hl (by decide) rfl (fun ls hl => ?_)
  refine lv_iconst (v := 1) hx hb dL_phiTakes_19 (by decide) ?_
  have hP9 : va_P (dC, dI) cls [] H := hP.sub [] rfl
  have hD9 : va_D A [] := hD.sub [] (by decide) rfl
  have hK9 : va_K (dC, dI) cls [] s := hK.sub [] rfl
  exact W.iret (v := 1) hx hb hr (fun t ht hW => ⟨⟨1, (), rfl, rfl, ⟨by rw [ht]; exact hP9, va_K.moved hW.alike hK9, hD9⟩⟩, hS.F ht⟩) hS.2.2 dL_phiTakes_20
set_option maxHeartbeats 4000000 in
set_option maxRecDepth 100000 in
theorem kL_steps {zs : Nat × Nat} (l : Launch) (dC : Nat → ClassId) (dI : Nat → Nat → Nat) (gx : Nat) (gq1 : Nat) (gq4 : Nat) (gq13 : Nat) (gq136 : Nat) (gq137 : Nat) (gq138 : Nat) (gq150 : Nat) (gq151 : Nat) (gq152 : Nat) (gq153 : Nat) (gq154 : Nat) (gq155 : Nat) (gq156 : Nat) (gq157 : Nat) (gq158 : Nat) (gq159 : Nat) (gq160 : Nat) (gq161 : Nat) (gq172 : Nat) (gq184 : Nat) (go : Nat) (p0 : Int32) (p1 : Int32) (sz : Nat) (hl9 : l.stackTraces = false)  : Met l yL_steps (wh yL_steps cL_steps 5 (Option.some Jvm.ClassFile.FieldType.int) [(0, 10, 13, 24)]) ({ frames := 9, cells := 1, slots := 6, locals := 165 }) (va_Pc [.ref gx, .int p0, .int p1, .ref go] (PRE zs dC dI [(gx, .inr (11, [.ref gq1, .ref gq4, .ref gq13, .ref gq136, .ref gq137, .ref gq138, .ref gq172, .ref gq184, .ref gq150, .ref gq161, .int (-1)])), (gq150, .inr (2, [.int 0, .ref gq151, .ref gq152, .ref gq153, .ref gq154, .ref gq155, .ref gq156, .int 0, .ref gq157, .ref gq158, .ref gq159, .int 0, .ref gq160]))] [] sz)) (va_Qi (fun (r : Int32) (_ : Unit) => r = 1) (fun _ t => POST dC dI [] [] (va_A [(gx, .inr (11, [.ref gq1, .ref gq4, .ref gq13, .ref gq136, .ref gq137, .ref gq138, .ref gq172, .ref gq184, .ref gq150, .ref gq161, .int (-1)])), (gq150, .inr (2, [.int 0, .ref gq151, .ref gq152, .ref gq153, .ref gq154, .ref gq155, .ref gq156, .int 0, .ref gq157, .ref gq158, .ref gq159, .int 0, .ref gq160]))] sz) t) (va_A [(gx, .inr (11, [.ref gq1, .ref gq4, .ref gq13, .ref gq136, .ref gq137, .ref gq138, .ref gq172, .ref gq184, .ref gq150, .ref gq161, .int (-1)])), (gq150, .inr (2, [.int 0, .ref gq151, .ref gq152, .ref gq153, .ref gq154, .ref gq155, .ref gq156, .int 0, .ref gq157, .ref gq158, .ref gq159, .int 0, .ref gq160]))] sz)) 1 6 (va_A [(gx, .inr (11, [.ref gq1, .ref gq4, .ref gq13, .ref gq136, .ref gq137, .ref gq138, .ref gq172, .ref gq184, .ref gq150, .ref gq161, .int (-1)])), (gq150, .inr (2, [.int 0, .ref gq151, .ref gq152, .ref gq153, .ref gq154, .ref gq155, .ref gq156, .int 0, .ref gq157, .ref gq158, .ref gq159, .int 0, .ref gq160]))] sz) := by
  refine va_MetW (cc := cL_steps) (maxL := 5) (ret := (Option.some Jvm.ClassFile.FieldType.int)) (hh := [(0, 10, 13, 24)]) (by decide) rfl ?_
  intro p e s m args below meth c s₁ B hml hv
  obtain ⟨rfl, hsz, hP, hK, hD0, hE⟩ := hv
  have hx := B.exec
  have hb := B.bytes
  have hr := B.returns
  have hts0 := atoms_spec (ws := wh yL_steps cL_steps 5 (Option.some Jvm.ClassFile.FieldType.int) [(0, 10, 13, 24)]) B.pre
  have htab := vx_table (x := yL_steps) B (hts0 _ List.mem_cons_self)
  have hts : ∀ w ∈ gw, w.before _ s = true := fun w h => hts0 w (List.mem_cons_of_mem _ h)
  have hown : s.vm.findClass RL = some m.cls := findClass_of_methodNamed B.named
  have hlocks := B.notSynchronized
  subst hsz
  have hD := hD0.self (sz := s.heap.size)
  generalize hAe : va_A [(gx, .inr (11, [.ref gq1, .ref gq4, .ref gq13, .ref gq136, .ref gq137, .ref gq138, .ref gq172, .ref gq184, .ref gq150, .ref gq161, .int (-1)])), (gq150, .inr (2, [.int 0, .ref gq151, .ref gq152, .ref gq153, .ref gq154, .ref gq155, .ref gq156, .int 0, .ref gq157, .ref gq158, .ref gq159, .int 0, .ref gq160]))] s.heap.size = A at hD hE ⊢
  have hA : ∀ q : Nat, s.heap.size ≤ q → A q := fun q h => by rw [← hAe]; exact Or.inr h
  have hS : va_S A s.heap s.heap [] := va_S.rf
  have hP : va_P (dC, dI) cls [(gx, .inr (11, [.ref gq1, .ref gq4, .ref gq13, .ref gq136, .ref gq137, .ref gq138, .ref gq172, .ref gq184, .ref gq150, .ref gq161, .int (-1)])), (gq150, .inr (2, [.int 0, .ref gq151, .ref gq152, .ref gq153, .ref gq154, .ref gq155, .ref gq156, .int 0, .ref gq157, .ref gq158, .ref gq159, .int 0, .ref gq160]))] s.heap := hP
  have hl := lv_entry ([.ref gx, .int p0, .int p1, .ref go]) (n := 5) (Nat.le_of_ble_eq_true rfl)
  rw [lg_entry_eq]
  generalize (lg_sl ([.ref gx, .int p0, .int p1, .ref go]) ++ List.replicate (5 - (lg_sl ([.ref gx, .int p0, .int p1, .ref go])).length) Slot.unset).toArray = ls at hl ⊢
  have hl : lv_has ls 5 [(0, .ref gx), (1, .int p0), (2, .int p1), (3, .ref go)] := hl
  refine lv_aload_n hx hb dL_steps_0 rfl (lv_at hl 3 rfl) ?_
  refine lv_iconst (v := 0) hx hb dL_steps_1 (by decide) ?_
  refine lv_aload_n hx hb dL_steps_2 rfl (lv_at hl 0 rfl) ?_
  refine lv_iload_n hx hb dL_steps_3 rfl (lv_at hl 1 rfl) ?_
  refine lv_iload_n hx hb dL_steps_4 rfl (lv_at hl 2 rfl) ?_
  have hPc := hP.sub (ws' := [(gx, .inr (11, [.ref gq1, .ref gq4, .ref gq13, .ref gq136, .ref gq137, .ref gq138, .ref gq172, .ref gq184, .ref gq150, .ref gq161, .int (-1)])), (gq150, .inr (2, [.int 0, .ref gq151, .ref gq152, .ref gq153, .ref gq154, .ref gq155, .ref gq156, .int 0, .ref gq157, .ref gq158, .ref gq159, .int 0, .ref gq160]))]) [0, 1] rfl
  have hDc := hD.sub (ws' := [(gx, .inr (11, [.ref gq1, .ref gq4, .ref gq13, .ref gq136, .ref gq137, .ref gq138, .ref gq172, .ref gq184, .ref gq150, .ref gq161, .int (-1)])), (gq150, .inr (2, [.int 0, .ref gq151, .ref gq152, .ref gq153, .ref gq154, .ref gq155, .ref gq156, .int 0, .ref gq157, .ref gq158, .ref gq159, .int 0, .ref gq160]))]) [0, 1] (by decide) rfl
  have hKc := hK.sub (tys' := []) [] rfl
  have hFc := va_free (wc := [(gx, .inr (11, [.ref gq1, .ref gq4, .ref gq13, .ref gq136, .ref gq137, .ref gq138, .ref gq172, .ref gq184, .ref gq150, .ref gq161, .int (-1)])), (gq150, .inr (2, [.int 0, .ref gq151, .ref gq152, .ref gq153, .ref gq154, .ref gq155, .ref gq156, .int 0, .ref gq157, .ref gq158, .ref gq159, .int 0, .ref gq160]))]) hD hS hA [0, 1] rfl
  refine vx_calli (vx_runV (As := [.int p0, .int p1]) (rest := [.int 0, .ref go]) ⟨hx, hb, hml, hown, hts⟩ (kX11_steps l dC dI (gx := gx) (gq1 := gq1) (gq4 := gq4) (gq13 := gq13) (gq136 := gq136) (gq137 := gq137) (gq138 := gq138) (gq150 := gq150) (gq151 := gq151) (gq152 := gq152) (gq153 := gq153) (gq154 := gq154) (gq155 := gq155) (gq156 := gq156) (gq157 := gq157) (gq158 := gq158) (gq159 := gq159) (gq160 := gq160) (gq161 := gq161) (gq172 := gq172) (gq184 := gq184) (p0 := p0) (p1 := p1) (sz := _) (hl9 := hl9)) (cwV 2 hts (gi_V qw544 qw545 qw546 qw222 (gi_z qw543)) rfl rfl rfl (by decide +kernel) ⟨Nat.le_of_ble_eq_true rfl, Nat.le_of_ble_eq_true rfl⟩) ⟨PRE.blind, va_recv hKc hPc (ci := 11) (q0 := 0) rfl rfl, PRE.of hE hS hFc hPc hKc hDc⟩ rfl rfl hl.1 rfl (lv_room (Nat.le_of_ble_eq_true rfl)) dL_steps_5 ⟨Nat.le_of_ble_eq_true rfl, Nat.le_of_ble_eq_true rfl⟩) hS (fun q _ h => hFc q h) hFc (fun q _ h => hFc q h) (fun E ce q9 u t H locs ht hvm hw hB hz1 hk1 hS hce hcv hcl => ?_) (fun _ u t H locs ht hvm hw hB hz1 hk1 hS => hw.elim)
  obtain ⟨rfl, hB⟩ := hB
  obtain ⟨hP, hD, hK⟩ := JOIN (wr := []) hP hD hK [0, 1] [] [] rfl rfl (by decide) (by decide) rfl hk1 hFc ht hvm hB
  have hP : va_P (dC, dI) cls [] H := hP
  have hD : va_D A [] := hD
  have hK : va_K (dC, dI) cls [] s := hK
  refine vx_widen (k := 1) (n := 6) (Nat.le_of_ble_eq_true rfl) (Nat.le_of_ble_eq_true rfl) ?_
  refine vx_catch (own := RL) (name := "java/lang/IndexOutOfBoundsException") hown [] ⟨0, 10, 13, 24⟩ [] (htab.trans rfl) (fun z hz => by cases hz) (by decide) (by decide) (hts _ qw490) (hE.word (List.mem_append_right _ (tbl_9 (i := 38) rfl)) rfl) hce hcv hcl ?_
  refine lv_astore (lv' := [(4, .ref q9), (0, .ref gx), (1, .int p0), (2, .int p1), (3, .ref go)]) hx hb dL_steps_13 hl (by decide) rfl (fun ls hl => ?_)
  refine lv_iconst (v := 1) hx hb dL_steps_15 (by decide) ?_
  have hP9 : va_P (dC, dI) cls [] H := hP.sub [] rfl
  have hD9 : va_D A [] := hD.sub [] (by decide) rfl
  have hK9 : va_K (dC, dI) cls [] s := hK.sub [] rfl
  exact W.iret (v := 1) hx hb hr (fun t ht hW => ⟨⟨1, (), rfl, rfl, ⟨by rw [ht]; exact hP9, va_K.moved hW.alike hK9, hD9⟩⟩, hS.F ht⟩) hS.2.2 dL_steps_16
set_option maxHeartbeats 4000000 in
set_option maxRecDepth 100000 in
theorem kL_kindOf {zs : Nat × Nat} (l : Launch) (dC : Nat → ClassId) (dI : Nat → Nat → Nat) (gx : Nat) (gq1 : Nat) (gq4 : Nat) (gq13 : Nat) (gq136 : Nat) (gq137 : Nat) (gq138 : Nat) (gq150 : Nat) (gq151 : Nat) (gq152 : Nat) (gq153 : Nat) (gq154 : Nat) (gq155 : Nat) (gq156 : Nat) (gq157 : Nat) (gq158 : Nat) (gq159 : Nat) (gq160 : Nat) (gq161 : Nat) (gq172 : Nat) (gq184 : Nat) (go : Nat) (p0 : Int32) (p1 : Int32) (p2 : Int32) (sz : Nat) (hl9 : l.stackTraces = false)  : Met l yL_kindOf (wh yL_kindOf cL_kindOf 6 (Option.some Jvm.ClassFile.FieldType.int) [(0, 12, 15, 24)]) ({ frames := 10, cells := 1, slots := 6, locals := 191 }) (va_Pc [.ref gx, .int p0, .int p1, .int p2, .ref go] (PRE zs dC dI [(gx, .inr (11, [.ref gq1, .ref gq4, .ref gq13, .ref gq136, .ref gq137, .ref gq138, .ref gq172, .ref gq184, .ref gq150, .ref gq161, .int (-1)])), (gq150, .inr (2, [.int 0, .ref gq151, .ref gq152, .ref gq153, .ref gq154, .ref gq155, .ref gq156, .int 0, .ref gq157, .ref gq158, .ref gq159, .int 0, .ref gq160]))] [] sz)) (va_Qi (fun (r : Int32) (_ : Unit) => r = 1) (fun _ t => POST dC dI [] [] (va_A [(gx, .inr (11, [.ref gq1, .ref gq4, .ref gq13, .ref gq136, .ref gq137, .ref gq138, .ref gq172, .ref gq184, .ref gq150, .ref gq161, .int (-1)])), (gq150, .inr (2, [.int 0, .ref gq151, .ref gq152, .ref gq153, .ref gq154, .ref gq155, .ref gq156, .int 0, .ref gq157, .ref gq158, .ref gq159, .int 0, .ref gq160]))] sz) t) (va_A [(gx, .inr (11, [.ref gq1, .ref gq4, .ref gq13, .ref gq136, .ref gq137, .ref gq138, .ref gq172, .ref gq184, .ref gq150, .ref gq161, .int (-1)])), (gq150, .inr (2, [.int 0, .ref gq151, .ref gq152, .ref gq153, .ref gq154, .ref gq155, .ref gq156, .int 0, .ref gq157, .ref gq158, .ref gq159, .int 0, .ref gq160]))] sz)) 1 6 (va_A [(gx, .inr (11, [.ref gq1, .ref gq4, .ref gq13, .ref gq136, .ref gq137, .ref gq138, .ref gq172, .ref gq184, .ref gq150, .ref gq161, .int (-1)])), (gq150, .inr (2, [.int 0, .ref gq151, .ref gq152, .ref gq153, .ref gq154, .ref gq155, .ref gq156, .int 0, .ref gq157, .ref gq158, .ref gq159, .int 0, .ref gq160]))] sz) := by
  refine va_MetW (cc := cL_kindOf) (maxL := 6) (ret := (Option.some Jvm.ClassFile.FieldType.int)) (hh := [(0, 12, 15, 24)]) (by decide) rfl ?_
  intro p e s m args below meth c s₁ B hml hv
  obtain ⟨rfl, hsz, hP, hK, hD0, hE⟩ := hv
  have hx := B.exec
  have hb := B.bytes
  have hr := B.returns
  have hts0 := atoms_spec (ws := wh yL_kindOf cL_kindOf 6 (Option.some Jvm.ClassFile.FieldType.int) [(0, 12, 15, 24)]) B.pre
  have htab := vx_table (x := yL_kindOf) B (hts0 _ List.mem_cons_self)
  have hts : ∀ w ∈ gw, w.before _ s = true := fun w h => hts0 w (List.mem_cons_of_mem _ h)
  have hown : s.vm.findClass RL = some m.cls := findClass_of_methodNamed B.named
  have hlocks := B.notSynchronized
  subst hsz
  have hD := hD0.self (sz := s.heap.size)
  generalize hAe : va_A [(gx, .inr (11, [.ref gq1, .ref gq4, .ref gq13, .ref gq136, .ref gq137, .ref gq138, .ref gq172, .ref gq184, .ref gq150, .ref gq161, .int (-1)])), (gq150, .inr (2, [.int 0, .ref gq151, .ref gq152, .ref gq153, .ref gq154, .ref gq155, .ref gq156, .int 0, .ref gq157, .ref gq158, .ref gq159, .int 0, .ref gq160]))] s.heap.size = A at hD hE ⊢
  have hA : ∀ q : Nat, s.heap.size ≤ q → A q := fun q h => by rw [← hAe]; exact Or.inr h
  have hS : va_S A s.heap s.heap [] := va_S.rf
  have hP : va_P (dC, dI) cls [(gx, .inr (11, [.ref gq1, .ref gq4, .ref gq13, .ref gq136, .ref gq137, .ref gq138, .ref gq172, .ref gq184, .ref gq150, .ref gq161, .int (-1)])), (gq150, .inr (2, [.int 0, .ref gq151, .ref gq152, .ref gq153, .ref gq154, .ref gq155, .ref gq156, .int 0, .ref gq157, .ref gq158, .ref gq159, .int 0, .ref gq160]))] s.heap := hP
  have hl := lv_entry ([.ref gx, .int p0, .int p1, .int p2, .ref go]) (n := 6) (Nat.le_of_ble_eq_true rfl)
  rw [lg_entry_eq]
  generalize (lg_sl ([.ref gx, .int p0, .int p1, .int p2, .ref go]) ++ List.replicate (6 - (lg_sl ([.ref gx, .int p0, .int p1, .int p2, .ref go])).length) Slot.unset).toArray = ls at hl ⊢
  have hl : lv_has ls 6 [(0, .ref gx), (1, .int p0), (2, .int p1), (3, .int p2), (4, .ref go)] := hl
  refine lv_aload hx hb dL_kindOf_0 (lv_at hl 4 rfl) ?_
  refine lv_iconst (v := 0) hx hb dL_kindOf_2 (by decide) ?_
  refine lv_aload_n hx hb dL_kindOf_3 rfl (lv_at hl 0 rfl) ?_
  refine lv_iload_n hx hb dL_kindOf_4 rfl (lv_at hl 1 rfl) ?_
  refine lv_iload_n hx hb dL_kindOf_5 rfl (lv_at hl 2 rfl) ?_
  refine lv_iload_n hx hb dL_kindOf_6 rfl (lv_at hl 3 rfl) ?_
  have hPc := hP.sub (ws' := [(gx, .inr (11, [.ref gq1, .ref gq4, .ref gq13, .ref gq136, .ref gq137, .ref gq138, .ref gq172, .ref gq184, .ref gq150, .ref gq161, .int (-1)])), (gq150, .inr (2, [.int 0, .ref gq151, .ref gq152, .ref gq153, .ref gq154, .ref gq155, .ref gq156, .int 0, .ref gq157, .ref gq158, .ref gq159, .int 0, .ref gq160]))]) [0, 1] rfl
  have hDc := hD.sub (ws' := [(gx, .inr (11, [.ref gq1, .ref gq4, .ref gq13, .ref gq136, .ref gq137, .ref gq138, .ref gq172, .ref gq184, .ref gq150, .ref gq161, .int (-1)])), (gq150, .inr (2, [.int 0, .ref gq151, .ref gq152, .ref gq153, .ref gq154, .ref gq155, .ref gq156, .int 0, .ref gq157, .ref gq158, .ref gq159, .int 0, .ref gq160]))]) [0, 1] (by decide) rfl
  have hKc := hK.sub (tys' := []) [] rfl
  have hFc := va_free (wc := [(gx, .inr (11, [.ref gq1, .ref gq4, .ref gq13, .ref gq136, .ref gq137, .ref gq138, .ref gq172, .ref gq184, .ref gq150, .ref gq161, .int (-1)])), (gq150, .inr (2, [.int 0, .ref gq151, .ref gq152, .ref gq153, .ref gq154, .ref gq155, .ref gq156, .int 0, .ref gq157, .ref gq158, .ref gq159, .int 0, .ref gq160]))]) hD hS hA [0, 1] rfl
  refine vx_calli (vx_runV (As := [.int p0, .int p1, .int p2]) (rest := [.int 0, .ref go]) ⟨hx, hb, hml, hown, hts⟩ (kX11_kindOf l dC dI (gx := gx) (gq1 := gq1) (gq4 := gq4) (gq13 := gq13) (gq136 := gq136) (gq137 := gq137) (gq138 := gq138) (gq150 := gq150) (gq151 := gq151) (gq152 := gq152) (gq153 := gq153) (gq154 := gq154) (gq155 := gq155) (gq156 := gq156) (gq157 := gq157) (gq158 := gq158) (gq159 := gq159) (gq160 := gq160) (gq161 := gq161) (gq172 := gq172) (gq184 := gq184) (p0 := p0) (p1 := p1) (p2 := p2) (sz := _) (hl9 := hl9)) (cwV 3 hts (gi_V qw548 qw549 qw550 qw222 (gi_z qw547)) rfl rfl rfl (by decide +kernel) ⟨Nat.le_of_ble_eq_true rfl, Nat.le_of_ble_eq_true rfl⟩) ⟨PRE.blind, va_recv hKc hPc (ci := 11) (q0 := 0) rfl rfl, PRE.of hE hS hFc hPc hKc hDc⟩ rfl rfl hl.1 rfl (lv_room (Nat.le_of_ble_eq_true rfl)) dL_kindOf_7 ⟨Nat.le_of_ble_eq_true rfl, Nat.le_of_ble_eq_true rfl⟩) hS (fun q _ h => hFc q h) hFc (fun q _ h => hFc q h) (fun E ce q9 u t H locs ht hvm hw hB hz1 hk1 hS hce hcv hcl => ?_) (fun _ u t H locs ht hvm hw hB hz1 hk1 hS => hw.elim)
  obtain ⟨rfl, hB⟩ := hB
  obtain ⟨hP, hD, hK⟩ := JOIN (wr := []) hP hD hK [0, 1] [] [] rfl rfl (by decide) (by decide) rfl hk1 hFc ht hvm hB
  have hP : va_P (dC, dI) cls [] H := hP
  have hD : va_D A [] := hD
  have hK : va_K (dC, dI) cls [] s := hK
  refine vx_widen (k := 1) (n := 6) (Nat.le_of_ble_eq_true rfl) (Nat.le_of_ble_eq_true rfl) ?_
  refine vx_catch (own := RL) (name := "java/lang/IndexOutOfBoundsException") hown [] ⟨0, 12, 15, 24⟩ [] (htab.trans rfl) (fun z hz => by cases hz) (by decide) (by decide) (hts _ qw490) (hE.word (List.mem_append_right _ (tbl_9 (i := 38) rfl)) rfl) hce hcv hcl ?_
  refine lv_astore (lv' := [(5, .ref q9), (0, .ref gx), (1, .int p0), (2, .int p1), (3, .int p2), (4, .ref go)]) hx hb dL_kindOf_15 hl (by decide) rfl (fun ls hl => ?_)
  refine lv_iconst (v := 1) hx hb dL_kindOf_17 (by decide) ?_
  have hP9 : va_P (dC, dI) cls [] H := hP.sub [] rfl
  have hD9 : va_D A [] := hD.sub [] (by decide) rfl
  have hK9 : va_K (dC, dI) cls [] s := hK.sub [] rfl
  exact W.iret (v := 1) hx hb hr (fun t ht hW => ⟨⟨1, (), rfl, rfl, ⟨by rw [ht]; exact hP9, va_K.moved hW.alike hK9, hD9⟩⟩, hS.F ht⟩) hS.2.2 dL_kindOf_18
set_option maxHeartbeats 4000000 in
set_option maxRecDepth 100000 in
theorem kL_gives {zs : Nat × Nat} (l : Launch) (dC : Nat → ClassId) (dI : Nat → Nat → Nat) (gx : Nat) (gq1 : Nat) (gq4 : Nat) (gq13 : Nat) (gq136 : Nat) (gq137 : Nat) (gq138 : Nat) (gq150 : Nat) (gq151 : Nat) (gq152 : Nat) (gq153 : Nat) (gq154 : Nat) (gq155 : Nat) (gq156 : Nat) (gq157 : Nat) (gq158 : Nat) (gq159 : Nat) (gq160 : Nat) (gq161 : Nat) (gq172 : Nat) (gq184 : Nat) (go : Nat) (p0 : Int32) (p1 : Int32) (p2 : Int32) (sz : Nat) (hl9 : l.stackTraces = false)  : Met l yL_gives (wh yL_gives cL_gives 6 (Option.some Jvm.ClassFile.FieldType.int) [(0, 12, 15, 24)]) ({ frames := 10, cells := 1, slots := 6, locals := 191 }) (va_Pc [.ref gx, .int p0, .int p1, .int p2, .ref go] (PRE zs dC dI [(gx, .inr (11, [.ref gq1, .ref gq4, .ref gq13, .ref gq136, .ref gq137, .ref gq138, .ref gq172, .ref gq184, .ref gq150, .ref gq161, .int (-1)])), (gq150, .inr (2, [.int 0, .ref gq151, .ref gq152, .ref gq153, .ref gq154, .ref gq155, .ref gq156, .int 0, .ref gq157, .ref gq158, .ref gq159, .int 0, .ref gq160]))] [] sz)) (va_Qi (fun (r : Int32) (_ : Unit) => r = 1) (fun _ t => POST dC dI [] [] (va_A [(gx, .inr (11, [.ref gq1, .ref gq4, .ref gq13, .ref gq136, .ref gq137, .ref gq138, .ref gq172, .ref gq184, .ref gq150, .ref gq161, .int (-1)])), (gq150, .inr (2, [.int 0, .ref gq151, .ref gq152, .ref gq153, .ref gq154, .ref gq155, .ref gq156, .int 0, .ref gq157, .ref gq158, .ref gq159, .int 0, .ref gq160]))] sz) t) (va_A [(gx, .inr (11, [.ref gq1, .ref gq4, .ref gq13, .ref gq136, .ref gq137, .ref gq138, .ref gq172, .ref gq184, .ref gq150, .ref gq161, .int (-1)])), (gq150, .inr (2, [.int 0, .ref gq151, .ref gq152, .ref gq153, .ref gq154, .ref gq155, .ref gq156, .int 0, .ref gq157, .ref gq158, .ref gq159, .int 0, .ref gq160]))] sz)) 1 6 (va_A [(gx, .inr (11, [.ref gq1, .ref gq4, .ref gq13, .ref gq136, .ref gq137, .ref gq138, .ref gq172, .ref gq184, .ref gq150, .ref gq161, .int (-1)])), (gq150, .inr (2, [.int 0, .ref gq151, .ref gq152, .ref gq153, .ref gq154, .ref gq155, .ref gq156, .int 0, .ref gq157, .ref gq158, .ref gq159, .int 0, .ref gq160]))] sz) := by
  refine va_MetW (cc := cL_gives) (maxL := 6) (ret := (Option.some Jvm.ClassFile.FieldType.int)) (hh := [(0, 12, 15, 24)]) (by decide) rfl ?_
  intro p e s m args below meth c s₁ B hml hv
  obtain ⟨rfl, hsz, hP, hK, hD0, hE⟩ := hv
  have hx := B.exec
  have hb := B.bytes
  have hr := B.returns
  have hts0 := atoms_spec (ws := wh yL_gives cL_gives 6 (Option.some Jvm.ClassFile.FieldType.int) [(0, 12, 15, 24)]) B.pre
  have htab := vx_table (x := yL_gives) B (hts0 _ List.mem_cons_self)
  have hts : ∀ w ∈ gw, w.before _ s = true := fun w h => hts0 w (List.mem_cons_of_mem _ h)
  have hown : s.vm.findClass RL = some m.cls := findClass_of_methodNamed B.named
  have hlocks := B.notSynchronized
  subst hsz
  have hD := hD0.self (sz := s.heap.size)
  generalize hAe : va_A [(gx, .inr (11, [.ref gq1, .ref gq4, .ref gq13, .ref gq136, .ref gq137, .ref gq138, .ref gq172, .ref gq184, .ref gq150, .ref gq161, .int (-1)])), (gq150, .inr (2, [.int 0, .ref gq151, .ref gq152, .ref gq153, .ref gq154, .ref gq155, .ref gq156, .int 0, .ref gq157, .ref gq158, .ref gq159, .int 0, .ref gq160]))] s.heap.size = A at hD hE ⊢
  have hA : ∀ q : Nat, s.heap.size ≤ q → A q := fun q h => by rw [← hAe]; exact Or.inr h
  have hS : va_S A s.heap s.heap [] := va_S.rf
  have hP : va_P (dC, dI) cls [(gx, .inr (11, [.ref gq1, .ref gq4, .ref gq13, .ref gq136, .ref gq137, .ref gq138, .ref gq172, .ref gq184, .ref gq150, .ref gq161, .int (-1)])), (gq150, .inr (2, [.int 0, .ref gq151, .ref gq152, .ref gq153, .ref gq154, .ref gq155, .ref gq156, .int 0, .ref gq157, .ref gq158, .ref gq159, .int 0, .ref gq160]))] s.heap := hP
  have hl := lv_entry ([.ref gx, .int p0, .int p1, .int p2, .ref go]) (n := 6) (Nat.le_of_ble_eq_true rfl)
  rw [lg_entry_eq]
  generalize (lg_sl ([.ref gx, .int p0, .int p1, .int p2, .ref go]) ++ List.replicate (6 - (lg_sl ([.ref gx, .int p0, .int p1, .int p2, .ref go])).length) Slot.unset).toArray = ls at hl ⊢
  have hl : lv_has ls 6 [(0, .ref gx), (1, .int p0), (2, .int p1), (3, .int p2), (4, .ref go)] := hl
  refine lv_aload hx hb dL_gives_0 (lv_at hl 4 rfl) ?_
  refine lv_iconst (v := 0) hx hb dL_gives_2 (by decide) ?_
  refine lv_aload_n hx hb dL_gives_3 rfl (lv_at hl 0 rfl) ?_
  refine lv_iload_n hx hb dL_gives_4 rfl (lv_at hl 1 rfl) ?_
  refine lv_iload_n hx hb dL_gives_5 rfl (lv_at hl 2 rfl) ?_
  refine lv_iload_n hx hb dL_gives_6 rfl (lv_at hl 3 rfl) ?_
  have hPc := hP.sub (ws' := [(gx, .inr (11, [.ref gq1, .ref gq4, .ref gq13, .ref gq136, .ref gq137, .ref gq138, .ref gq172, .ref gq184, .ref gq150, .ref gq161, .int (-1)])), (gq150, .inr (2, [.int 0, .ref gq151, .ref gq152, .ref gq153, .ref gq154, .ref gq155, .ref gq156, .int 0, .ref gq157, .ref gq158, .ref gq159, .int 0, .ref gq160]))]) [0, 1] rfl
  have hDc := hD.sub (ws' := [(gx, .inr (11, [.ref gq1, .ref gq4, .ref gq13, .ref gq136, .ref gq137, .ref gq138, .ref gq172, .ref gq184, .ref gq150, .ref gq161, .int (-1)])), (gq150, .inr (2, [.int 0, .ref gq151, .ref gq152, .ref gq153, .ref gq154, .ref gq155, .ref gq156, .int 0, .ref gq157, .ref gq158, .ref gq159, .int 0, .ref gq160]))]) [0, 1] (by decide) rfl
  have hKc := hK.sub (tys' := []) [] rfl
  have hFc := va_free (wc := [(gx, .inr (11, [.ref gq1, .ref gq4, .ref gq13, .ref gq136, .ref gq137, .ref gq138, .ref gq172, .ref gq184, .ref gq150, .ref gq161, .int (-1)])), (gq150, .inr (2, [.int 0, .ref gq151, .ref gq152, .ref gq153, .ref gq154, .ref gq155, .ref gq156, .int 0, .ref gq157, .ref gq158, .ref gq159, .int 0, .ref gq160]))]) hD hS hA [0, 1] rfl
  refine vx_calli (vx_runV (As := [.int p0, .int p1, .int p2]) (rest := [.int 0, .ref go]) ⟨hx, hb, hml, hown, hts⟩ (kX11_gives l dC dI (gx := gx) (gq1 := gq1) (gq4 := gq4) (gq13 := gq13) (gq136 := gq136) (gq137 := gq137) (gq138 := gq138) (gq150 := gq150) (gq151 := gq151) (gq152 := gq152) (gq153 := gq153) (gq154 := gq154) (gq155 := gq155) (gq156 := gq156) (gq157 := gq157) (gq158 := gq158) (gq159 := gq159) (gq160 := gq160) (gq161 := gq161) (gq172 := gq172) (gq184 := gq184) (p0 := p0) (p1 := p1) (p2 := p2) (sz := _) (hl9 := hl9)) (cwV 3 hts (gi_V qw552 qw553 qw554 qw222 (gi_z qw551)) rfl rfl rfl (by decide +kernel) ⟨Nat.le_of_ble_eq_true rfl, Nat.le_of_ble_eq_true rfl⟩) ⟨PRE.blind, va_recv hKc hPc (ci := 11) (q0 := 0) rfl rfl, PRE.of hE hS hFc hPc hKc hDc⟩ rfl rfl hl.1 rfl (lv_room (Nat.le_of_ble_eq_true rfl)) dL_gives_7 ⟨Nat.le_of_ble_eq_true rfl, Nat.le_of_ble_eq_true rfl⟩) hS (fun q _ h => hFc q h) hFc (fun q _ h => hFc q h) (fun E ce q9 u t H locs ht hvm hw hB hz1 hk1 hS hce hcv hcl => ?_) (fun _ u t H locs ht hvm hw hB hz1 hk1 hS => hw.elim)
  obtain ⟨rfl, hB⟩ := hB
  obtain ⟨hP, hD, hK⟩ := JOIN (wr := []) hP hD hK [0, 1] [] [] rfl rfl (by decide) (by decide) rfl hk1 hFc ht hvm hB
  have hP : va_P (dC, dI) cls [] H := hP
  have hD : va_D A [] := hD
  have hK : va_K (dC, dI) cls [] s := hK
  refine vx_widen (k := 1) (n := 6) (Nat.le_of_ble_eq_true rfl) (Nat.le_of_ble_eq_true rfl) ?_
  refine vx_catch (own := RL) (name := "java/lang/IndexOutOfBoundsException") hown [] ⟨0, 12, 15, 24⟩ [] (htab.trans rfl) (fun z hz => by cases hz) (by decide) (by decide) (hts _ qw490) (hE.word (List.mem_append_right _ (tbl_9 (i := 38) rfl)) rfl) hce hcv hcl ?_
  refine lv_astore (lv' := [(5, .ref q9), (0, .ref gx), (1, .int p0), (2, .int p1), (3, .int p2), (4, .ref go)]) hx hb dL_gives_15 hl (by decide) rfl (fun ls hl => ?_)
  refine lv_iconst (v := 1) hx hb dL_gives_17 (by decide) ?_
  have hP9 : va_P (dC, dI) cls [] H := hP.sub [] rfl
  have hD9 : va_D A [] := hD.sub [] (by decide) rfl
  have hK9 : va_K (dC, dI) cls [] s := hK.sub [] rfl
  exact W.iret (v := 1) hx hb hr (fun t ht hW => ⟨⟨1, (), rfl, rfl, ⟨by rw [ht]; exact hP9, va_K.moved hW.alike hK9, hD9⟩⟩, hS.F ht⟩) hS.2.2 dL_gives_18
set_option maxHeartbeats 4000000 in
set_option maxRecDepth 100000 in
theorem kL_leftOf {zs : Nat × Nat} (l : Launch) (dC : Nat → ClassId) (dI : Nat → Nat → Nat) (gx : Nat) (gq1 : Nat) (gq4 : Nat) (gq13 : Nat) (gq136 : Nat) (gq137 : Nat) (gq138 : Nat) (gq150 : Nat) (gq151 : Nat) (gq152 : Nat) (gq153 : Nat) (gq154 : Nat) (gq155 : Nat) (gq156 : Nat) (gq157 : Nat) (gq158 : Nat) (gq159 : Nat) (gq160 : Nat) (gq161 : Nat) (gq172 : Nat) (gq184 : Nat) (go : Nat) (p0 : Int32) (p1 : Int32) (p2 : Int32) (sz : Nat) (hl9 : l.stackTraces = false)  : Met l yL_leftOf (wh yL_leftOf cL_leftOf 6 (Option.some Jvm.ClassFile.FieldType.int) [(0, 12, 15, 24)]) ({ frames := 10, cells := 1, slots := 6, locals := 191 }) (va_Pc [.ref gx, .int p0, .int p1, .int p2, .ref go] (PRE zs dC dI [(gx, .inr (11, [.ref gq1, .ref gq4, .ref gq13, .ref gq136, .ref gq137, .ref gq138, .ref gq172, .ref gq184, .ref gq150, .ref gq161, .int (-1)])), (gq150, .inr (2, [.int 0, .ref gq151, .ref gq152, .ref gq153, .ref gq154, .ref gq155, .ref gq156, .int 0, .ref gq157, .ref gq158, .ref gq159, .int 0, .ref gq160]))] [] sz)) (va_Qi (fun (r : Int32) (_ : Unit) => r = 1) (fun _ t => POST dC dI [] [] (va_A [(gx, .inr (11, [.ref gq1, .ref gq4, .ref gq13, .ref gq136, .ref gq137, .ref gq138, .ref gq172, .ref gq184, .ref gq150, .ref gq161, .int (-1)])), (gq150, .inr (2, [.int 0, .ref gq151, .ref gq152, .ref gq153, .ref gq154, .ref gq155, .ref gq156, .int 0, .ref gq157, .ref gq158, .ref gq159, .int 0, .ref gq160]))] sz) t) (va_A [(gx, .inr (11, [.ref gq1, .ref gq4, .ref gq13, .ref gq136, .ref gq137, .ref gq138, .ref gq172, .ref gq184, .ref gq150, .ref gq161, .int (-1)])), (gq150, .inr (2, [.int 0, .ref gq151, .ref gq152, .ref gq153, .ref gq154, .ref gq155, .ref gq156, .int 0, .ref gq157, .ref gq158, .ref gq159, .int 0, .ref gq160]))] sz)) 1 6 (va_A [(gx, .inr (11, [.ref gq1, .ref gq4, .ref gq13, .ref gq136, .ref gq137, .ref gq138, .ref gq172, .ref gq184, .ref gq150, .ref gq161, .int (-1)])), (gq150, .inr (2, [.int 0, .ref gq151, .ref gq152, .ref gq153, .ref gq154, .ref gq155, .ref gq156, .int 0, .ref gq157, .ref gq158, .ref gq159, .int 0, .ref gq160]))] sz) := by
  refine va_MetW (cc := cL_leftOf) (maxL := 6) (ret := (Option.some Jvm.ClassFile.FieldType.int)) (hh := [(0, 12, 15, 24)]) (by decide) rfl ?_
  intro p e s m args below meth c s₁ B hml hv
  obtain ⟨rfl, hsz, hP, hK, hD0, hE⟩ := hv
  have hx := B.exec
  have hb := B.bytes
  have hr := B.returns
  have hts0 := atoms_spec (ws := wh yL_leftOf cL_leftOf 6 (Option.some Jvm.ClassFile.FieldType.int) [(0, 12, 15, 24)]) B.pre
  have htab := vx_table (x := yL_leftOf) B (hts0 _ List.mem_cons_self)
  have hts : ∀ w ∈ gw, w.before _ s = true := fun w h => hts0 w (List.mem_cons_of_mem _ h)
  have hown : s.vm.findClass RL = some m.cls := findClass_of_methodNamed B.named
  have hlocks := B.notSynchronized
  subst hsz
  have hD := hD0.self (sz := s.heap.size)
  generalize hAe : va_A [(gx, .inr (11, [.ref gq1, .ref gq4, .ref gq13, .ref gq136, .ref gq137, .ref gq138, .ref gq172, .ref gq184, .ref gq150, .ref gq161, .int (-1)])), (gq150, .inr (2, [.int 0, .ref gq151, .ref gq152, .ref gq153, .ref gq154, .ref gq155, .ref gq156, .int 0, .ref gq157, .ref gq158, .ref gq159, .int 0, .ref gq160]))] s.heap.size = A at hD hE ⊢
  have hA : ∀ q : Nat, s.heap.size ≤ q → A q := fun q h => by rw [← hAe]; exact Or.inr h
  have hS : va_S A s.heap s.heap [] := va_S.rf
  have hP : va_P (dC, dI) cls [(gx, .inr (11, [.ref gq1, .ref gq4, .ref gq13, .ref gq136, .ref gq137, .ref gq138, .ref gq172, .ref gq184, .ref gq150, .ref gq161, .int (-1)])), (gq150, .inr (2, [.int 0, .ref gq151, .ref gq152, .ref gq153, .ref gq154, .ref gq155, .ref gq156, .int 0, .ref gq157, .ref gq158, .ref gq159, .int 0, .ref gq160]))] s.heap := hP
  have hl := lv_entry ([.ref gx, .int p0, .int p1, .int p2, .ref go]) (n := 6) (Nat.le_of_ble_eq_true rfl)
  rw [lg_entry_eq]
  generalize (lg_sl ([.ref gx, .int p0, .int p1, .int p2, .ref go]) ++ List.replicate (6 - (lg_sl ([.ref gx, .int p0, .int p1, .int p2, .ref go])).length) Slot.unset).toArray = ls at hl ⊢
  have hl : lv_has ls 6 [(0, .ref gx), (1, .int p0), (2, .int p1), (3, .int p2), (4, .ref go)] := hl
  refine lv_aload hx hb dL_leftOf_0 (lv_at hl 4 rfl) ?_
  refine lv_iconst (v := 0) hx hb dL_leftOf_2 (by decide) ?_
  refine lv_aload_n hx hb dL_leftOf_3 rfl (lv_at hl 0 rfl) ?_
  refine lv_iload_n hx hb dL_leftOf_4 rfl (lv_at hl 1 rfl) ?_
  refine lv_iload_n hx hb dL_leftOf_5 rfl (lv_at hl 2 rfl) ?_
  refine lv_iload_n hx hb dL_leftOf_6 rfl (lv_at hl 3 rfl) ?_
  have hPc := hP.sub (ws' := [(gx, .inr (11, [.ref gq1, .ref gq4, .ref gq13, .ref gq136, .ref gq137, .ref gq138, .ref gq172, .ref gq184, .ref gq150, .ref gq161, .int (-1)])), (gq150, .inr (2, [.int 0, .ref gq151, .ref gq152, .ref gq153, .ref gq154, .ref gq155, .ref gq156, .int 0, .ref gq157, .ref gq158, .ref gq159, .int 0, .ref gq160]))]) [0, 1] rfl
  have hDc := hD.sub (ws' := [(gx, .inr (11, [.ref gq1, .ref gq4, .ref gq13, .ref gq136, .ref gq137, .ref gq138, .ref gq172, .ref gq184, .ref gq150, .ref gq161, .int (-1)])), (gq150, .inr (2, [.int 0, .ref gq151, .ref gq152, .ref gq153, .ref gq154, .ref gq155, .ref gq156, .int 0, .ref gq157, .ref gq158, .ref gq159, .int 0, .ref gq160]))]) [0, 1] (by decide) rfl
  have hKc := hK.sub (tys' := []) [] rfl
  have hFc := va_free (wc := [(gx, .inr (11, [.ref gq1, .ref gq4, .ref gq13, .ref gq136, .ref gq137, .ref gq138, .ref gq172, .ref gq184, .ref gq150, .ref gq161, .int (-1)])), (gq150, .inr (2, [.int 0, .ref gq151, .ref gq152, .ref gq153, .ref gq154, .ref gq155, .ref gq156, .int 0, .ref gq157, .ref gq158, .ref gq159, .int 0, .ref gq160]))]) hD hS hA [0, 1] rfl
  refine vx_calli (vx_runV (As := [.int p0, .int p1, .int p2]) (rest := [.int 0, .ref go]) ⟨hx, hb, hml, hown, hts⟩ (kX11_leftOf l dC dI (gx := gx) (gq1 := gq1) (gq4 := gq4) (gq13 := gq13) (gq136 := gq136) (gq137 := gq137) (gq138 := gq138) (gq150 := gq150) (gq151 := gq151) (gq152 := gq152) (gq153 := gq153) (gq154 := gq154) (gq155 := gq155) (gq156 := gq156) (gq157 := gq157) (gq158 := gq158) (gq159 := gq159) (gq160 := gq160) (gq161 := gq161) (gq172 := gq172) (gq184 := gq184) (p0 := p0) (p1 := p1) (p2 := p2) (sz := _) (hl9 := hl9)) (cwV 3 hts (gi_V qw556 qw557 qw558 qw222 (gi_z qw555)) rfl rfl rfl (by decide +kernel) ⟨Nat.le_of_ble_eq_true rfl, Nat.le_of_ble_eq_true rfl⟩) ⟨PRE.blind, va_recv hKc hPc (ci := 11) (q0 := 0) rfl rfl, PRE.of hE hS hFc hPc hKc hDc⟩ rfl rfl hl.1 rfl (lv_room (Nat.le_of_ble_eq_true rfl)) dL_leftOf_7 ⟨Nat.le_of_ble_eq_true rfl, Nat.le_of_ble_eq_true rfl⟩) hS (fun q _ h => hFc q h) hFc (fun q _ h => hFc q h) (fun E ce q9 u t H locs ht hvm hw hB hz1 hk1 hS hce hcv hcl => ?_) (fun _ u t H locs ht hvm hw hB hz1 hk1 hS => hw.elim)
  obtain ⟨rfl, hB⟩ := hB
  obtain ⟨hP, hD, hK⟩ := JOIN (wr := []) hP hD hK [0, 1] [] [] rfl rfl (by decide) (by decide) rfl hk1 hFc ht hvm hB
  have hP : va_P (dC, dI) cls [] H := hP
  have hD : va_D A [] := hD
  have hK : va_K (dC, dI) cls [] s := hK
  refine vx_widen (k := 1) (n := 6) (Nat.le_of_ble_eq_true rfl) (Nat.le_of_ble_eq_true rfl) ?_
  refine vx_catch (own := RL) (name := "java/lang/IndexOutOfBoundsException") hown [] ⟨0, 12, 15, 24⟩ [] (htab.trans rfl) (fun z hz => by cases hz) (by decide) (by decide) (hts _ qw490) (hE.word (List.mem_append_right _ (tbl_9 (i := 38) rfl)) rfl) hce hcv hcl ?_
  refine lv_astore (lv' := [(5, .ref q9), (0, .ref gx), (1, .int p0), (2, .int p1), (3, .int p2), (4, .ref go)]) hx hb dL_leftOf_15 hl (by decide) rfl (fun ls hl => ?_)
  refine lv_iconst (v := 1) hx hb dL_leftOf_17 (by decide) ?_
  have hP9 : va_P (dC, dI) cls [] H := hP.sub [] rfl
  have hD9 : va_D A [] := hD.sub [] (by decide) rfl
  have hK9 : va_K (dC, dI) cls [] s := hK.sub [] rfl
  exact W.iret (v := 1) hx hb hr (fun t ht hW => ⟨⟨1, (), rfl, rfl, ⟨by rw [ht]; exact hP9, va_K.moved hW.alike hK9, hD9⟩⟩, hS.F ht⟩) hS.2.2 dL_leftOf_18
set_option maxHeartbeats 4000000 in
set_option maxRecDepth 100000 in
theorem kL_rightOf {zs : Nat × Nat} (l : Launch) (dC : Nat → ClassId) (dI : Nat → Nat → Nat) (gx : Nat) (gq1 : Nat) (gq4 : Nat) (gq13 : Nat) (gq136 : Nat) (gq137 : Nat) (gq138 : Nat) (gq150 : Nat) (gq151 : Nat) (gq152 : Nat) (gq153 : Nat) (gq154 : Nat) (gq155 : Nat) (gq156 : Nat) (gq157 : Nat) (gq158 : Nat) (gq159 : Nat) (gq160 : Nat) (gq161 : Nat) (gq172 : Nat) (gq184 : Nat) (go : Nat) (p0 : Int32) (p1 : Int32) (p2 : Int32) (sz : Nat) (hl9 : l.stackTraces = false)  : Met l yL_rightOf (wh yL_rightOf cL_rightOf 6 (Option.some Jvm.ClassFile.FieldType.int) [(0, 12, 15, 24)]) ({ frames := 10, cells := 1, slots := 6, locals := 191 }) (va_Pc [.ref gx, .int p0, .int p1, .int p2, .ref go] (PRE zs dC dI [(gx, .inr (11, [.ref gq1, .ref gq4, .ref gq13, .ref gq136, .ref gq137, .ref gq138, .ref gq172, .ref gq184, .ref gq150, .ref gq161, .int (-1)])), (gq150, .inr (2, [.int 0, .ref gq151, .ref gq152, .ref gq153, .ref gq154, .ref gq155, .ref gq156, .int 0, .ref gq157, .ref gq158, .ref gq159, .int 0, .ref gq160]))] [] sz)) (va_Qi (fun (r : Int32) (_ : Unit) => r = 1) (fun _ t => POST dC dI [] [] (va_A [(gx, .inr (11, [.ref gq1, .ref gq4, .ref gq13, .ref gq136, .ref gq137, .ref gq138, .ref gq172, .ref gq184, .ref gq150, .ref gq161, .int (-1)])), (gq150, .inr (2, [.int 0, .ref gq151, .ref gq152, .ref gq153, .ref gq154, .ref gq155, .ref gq156, .int 0, .ref gq157, .ref gq158, .ref gq159, .int 0, .ref gq160]))] sz) t) (va_A [(gx, .inr (11, [.ref gq1, .ref gq4, .ref gq13, .ref gq136, .ref gq137, .ref gq138, .ref gq172, .ref gq184, .ref gq150, .ref gq161, .int (-1)])), (gq150, .inr (2, [.int 0, .ref gq151, .ref gq152, .ref gq153, .ref gq154, .ref gq155, .ref gq156, .int 0, .ref gq157, .ref gq158, .ref gq159, .int 0, .ref gq160]))] sz)) 1 6 (va_A [(gx, .inr (11, [.ref gq1, .ref gq4, .ref gq13, .ref gq136, .ref gq137, .ref gq138, .ref gq172, .ref gq184, .ref gq150, .ref gq161, .int (-1)])), (gq150, .inr (2, [.int 0, .ref gq151, .ref gq152, .ref gq153, .ref gq154, .ref gq155, .ref gq156, .int 0, .ref gq157, .ref gq158, .ref gq159, .int 0, .ref gq160]))] sz) := by
  refine va_MetW (cc := cL_rightOf) (maxL := 6) (ret := (Option.some Jvm.ClassFile.FieldType.int)) (hh := [(0, 12, 15, 24)]) (by decide) rfl ?_
  intro p e s m args below meth c s₁ B hml hv
  obtain ⟨rfl, hsz, hP, hK, hD0, hE⟩ := hv
  have hx := B.exec
  have hb := B.bytes
  have hr := B.returns
  have hts0 := atoms_spec (ws := wh yL_rightOf cL_rightOf 6 (Option.some Jvm.ClassFile.FieldType.int) [(0, 12, 15, 24)]) B.pre
  have htab := vx_table (x := yL_rightOf) B (hts0 _ List.mem_cons_self)
  have hts : ∀ w ∈ gw, w.before _ s = true := fun w h => hts0 w (List.mem_cons_of_mem _ h)
  have hown : s.vm.findClass RL = some m.cls := findClass_of_methodNamed B.named
  have hlocks := B.notSynchronized
  subst hsz
  have hD := hD0.self (sz := s.heap.size)
  generalize hAe : va_A [(gx, .inr (11, [.ref gq1, .ref gq4, .ref gq13, .ref gq136, .ref gq137, .ref gq138, .ref gq172, .ref gq184, .ref gq150, .ref gq161, .int (-1)])), (gq150, .inr (2, [.int 0, .ref gq151, .ref gq152, .ref gq153, .ref gq154, .ref gq155, .ref gq156, .int 0, .ref gq157, .ref gq158, .ref gq159, .int 0, .ref gq160]))] s.heap.size = A at hD hE ⊢
  have hA : ∀ q : Nat, s.heap.size ≤ q → A q := fun q h => by rw [← hAe]; exact Or.inr h
  have hS : va_S A s.heap s.heap [] := va_S.rf
  have hP : va_P (dC, dI) cls [(gx, .inr (11, [.ref gq1, .ref gq4, .ref gq13, .ref gq136, .ref gq137, .ref gq138, .ref gq172, .ref gq184, .ref gq150, .ref gq161, .int (-1)])), (gq150, .inr (2, [.int 0, .ref gq151, .ref gq152, .ref gq153, .ref gq154, .ref gq155, .ref gq156, .int 0, .ref gq157, .ref gq158, .ref gq159, .int 0, .ref gq160]))] s.heap := hP
  have hl := lv_entry ([.ref gx, .int p0, .int p1, .int p2, .ref go]) (n := 6) (Nat.le_of_ble_eq_true rfl)
  rw [lg_entry_eq]
  generalize (lg_sl ([.ref gx, .int p0, .int p1, .int p2, .ref go]) ++ List.replicate (6 - (lg_sl ([.ref gx, .int p0, .int p1, .int p2, .ref go])).length) Slot.unset).toArray = ls at hl ⊢
  have hl : lv_has ls 6 [(0, .ref gx), (1, .int p0), (2, .int p1), (3, .int p2), (4, .ref go)] := hl
  refine lv_aload hx hb dL_rightOf_0 (lv_at hl 4 rfl) ?_
  refine lv_iconst (v := 0) hx hb dL_rightOf_2 (by decide) ?_
  refine lv_aload_n hx hb dL_rightOf_3 rfl (lv_at hl 0 rfl) ?_
  refine lv_iload_n hx hb dL_rightOf_4 rfl (lv_at hl 1 rfl) ?_
  refine lv_iload_n hx hb dL_rightOf_5 rfl (lv_at hl 2 rfl) ?_
  refine lv_iload_n hx hb dL_rightOf_6 rfl (lv_at hl 3 rfl) ?_
  have hPc := hP.sub (ws' := [(gx, .inr (11, [.ref gq1, .ref gq4, .ref gq13, .ref gq136, .ref gq137, .ref gq138, .ref gq172, .ref gq184, .ref gq150, .ref gq161, .int (-1)])), (gq150, .inr (2, [.int 0, .ref gq151, .ref gq152, .ref gq153, .ref gq154, .ref gq155, .ref gq156, .int 0, .ref gq157, .ref gq158, .ref gq159, .int 0, .ref gq160]))]) [0, 1] rfl
  have hDc := hD.sub (ws' := [(gx, .inr (11, [.ref gq1, .ref gq4, .ref gq13, .ref gq136, .ref gq137, .ref gq138, .ref gq172, .ref gq184, .ref gq150, .ref gq161, .int (-1)])), (gq150, .inr (2, [.int 0, .ref gq151, .ref gq152, .ref gq153, .ref gq154, .ref gq155, .ref gq156, .int 0, .ref gq157, .ref gq158, .ref gq159, .int 0, .ref gq160]))]) [0, 1] (by decide) rfl
  have hKc := hK.sub (tys' := []) [] rfl
  have hFc := va_free (wc := [(gx, .inr (11, [.ref gq1, .ref gq4, .ref gq13, .ref gq136, .ref gq137, .ref gq138, .ref gq172, .ref gq184, .ref gq150, .ref gq161, .int (-1)])), (gq150, .inr (2, [.int 0, .ref gq151, .ref gq152, .ref gq153, .ref gq154, .ref gq155, .ref gq156, .int 0, .ref gq157, .ref gq158, .ref gq159, .int 0, .ref gq160]))]) hD hS hA [0, 1] rfl
  refine vx_calli (vx_runV (As := [.int p0, .int p1, .int p2]) (rest := [.int 0, .ref go]) ⟨hx, hb, hml, hown, hts⟩ (kX11_rightOf l dC dI (gx := gx) (gq1 := gq1) (gq4 := gq4) (gq13 := gq13) (gq136 := gq136) (gq137 := gq137) (gq138 := gq138) (gq150 := gq150) (gq151 := gq151) (gq152 := gq152) (gq153 := gq153) (gq154 := gq154) (gq155 := gq155) (gq156 := gq156) (gq157 := gq157) (gq158 := gq158) (gq159 := gq159) (gq160 := gq160) (gq161 := gq161) (gq172 := gq172) (gq184 := gq184) (p0 := p0) (p1 := p1) (p2 := p2) (sz := _) (hl9 := hl9)) (cwV 3 hts (gi_V qw560 qw561 qw562 qw222 (gi_z qw559)) rfl rfl rfl (by decide +kernel) ⟨Nat.le_of_ble_eq_true rfl, Nat.le_of_ble_eq_true rfl⟩) ⟨PRE.blind, va_recv hKc hPc (ci := 11) (q0 := 0) rfl rfl, PRE.of hE hS hFc hPc hKc hDc⟩ rfl rfl hl.1 rfl (lv_room (Nat.le_of_ble_eq_true rfl)) dL_rightOf_7 ⟨Nat.le_of_ble_eq_true rfl, Nat.le_of_ble_eq_true rfl⟩) hS (fun q _ h => hFc q h) hFc (fun q _ h => hFc q h) (fun E ce q9 u t H locs ht hvm hw hB hz1 hk1 hS hce hcv hcl => ?_) (fun _ u t H locs ht hvm hw hB hz1 hk1 hS => hw.elim)
  obtain ⟨rfl, hB⟩ := hB
  obtain ⟨hP, hD, hK⟩ := JOIN (wr := []) hP hD hK [0, 1] [] [] rfl rfl (by decide) (by decide) rfl hk1 hFc ht hvm hB
  have hP : va_P (dC, dI) cls [] H := hP
  have hD : va_D A [] := hD
  have hK : va_K (dC, dI) cls [] s := hK
  refine vx_widen (k := 1) (n := 6) (Nat.le_of_ble_eq_true rfl) (Nat.le_of_ble_eq_true rfl) ?_
  refine vx_catch (own := RL) (name := "java/lang/IndexOutOfBoundsException") hown [] ⟨0, 12, 15, 24⟩ [] (htab.trans rfl) (fun z hz => by cases hz) (by decide) (by decide) (hts _ qw490) (hE.word (List.mem_append_right _ (tbl_9 (i := 38) rfl)) rfl) hce hcv hcl ?_
  refine lv_astore (lv' := [(5, .ref q9), (0, .ref gx), (1, .int p0), (2, .int p1), (3, .int p2), (4, .ref go)]) hx hb dL_rightOf_15 hl (by decide) rfl (fun ls hl => ?_)
  refine lv_iconst (v := 1) hx hb dL_rightOf_17 (by decide) ?_
  have hP9 : va_P (dC, dI) cls [] H := hP.sub [] rfl
  have hD9 : va_D A [] := hD.sub [] (by decide) rfl
  have hK9 : va_K (dC, dI) cls [] s := hK.sub [] rfl
  exact W.iret (v := 1) hx hb hr (fun t ht hW => ⟨⟨1, (), rfl, rfl, ⟨by rw [ht]; exact hP9, va_K.moved hW.alike hK9, hD9⟩⟩, hS.F ht⟩) hS.2.2 dL_rightOf_18
set_option maxHeartbeats 4000000 in
set_option maxRecDepth 100000 in
theorem kL_lines {zs : Nat × Nat} (l : Launch) (dC : Nat → ClassId) (dI : Nat → Nat → Nat) (gx : Nat) (gq1 : Nat) (gq4 : Nat) (gq13 : Nat) (gq136 : Nat) (gq137 : Nat) (gq138 : Nat) (gq150 : Nat) (gq151 : Nat) (gq152 : Nat) (gq153 : Nat) (gq154 : Nat) (gq155 : Nat) (gq156 : Nat) (gq157 : Nat) (gq158 : Nat) (gq159 : Nat) (gq160 : Nat) (gq161 : Nat) (gq172 : Nat) (gq184 : Nat) (go : Nat) (p0 : Int32) (sz : Nat) (hl9 : l.stackTraces = false)  : Met l yL_lines (wh yL_lines cL_lines 4 (Option.some Jvm.ClassFile.FieldType.int) [(0, 9, 12, 24)]) ({ frames := 8, cells := 1, slots := 6, locals := 142 }) (va_Pc [.ref gx, .int p0, .ref go] (PRE zs dC dI [(gx, .inr (11, [.ref gq1, .ref gq4, .ref gq13, .ref gq136, .ref gq137, .ref gq138, .ref gq172, .ref gq184, .ref gq150, .ref gq161, .int (-1)])), (gq150, .inr (2, [.int 0, .ref gq151, .ref gq152, .ref gq153, .ref gq154, .ref gq155, .ref gq156, .int 0, .ref gq157, .ref gq158, .ref gq159, .int 0, .ref gq160]))] [] sz)) (va_Qi (fun (r : Int32) (_ : Unit) => r = 1) (fun _ t => POST dC dI [] [] (va_A [(gx, .inr (11, [.ref gq1, .ref gq4, .ref gq13, .ref gq136, .ref gq137, .ref gq138, .ref gq172, .ref gq184, .ref gq150, .ref gq161, .int (-1)])), (gq150, .inr (2, [.int 0, .ref gq151, .ref gq152, .ref gq153, .ref gq154, .ref gq155, .ref gq156, .int 0, .ref gq157, .ref gq158, .ref gq159, .int 0, .ref gq160]))] sz) t) (va_A [(gx, .inr (11, [.ref gq1, .ref gq4, .ref gq13, .ref gq136, .ref gq137, .ref gq138, .ref gq172, .ref gq184, .ref gq150, .ref gq161, .int (-1)])), (gq150, .inr (2, [.int 0, .ref gq151, .ref gq152, .ref gq153, .ref gq154, .ref gq155, .ref gq156, .int 0, .ref gq157, .ref gq158, .ref gq159, .int 0, .ref gq160]))] sz)) 1 6 (va_A [(gx, .inr (11, [.ref gq1, .ref gq4, .ref gq13, .ref gq136, .ref gq137, .ref gq138, .ref gq172, .ref gq184, .ref gq150, .ref gq161, .int (-1)])), (gq150, .inr (2, [.int 0, .ref gq151, .ref gq152, .ref gq153, .ref gq154, .ref gq155, .ref gq156, .int 0, .ref gq157, .ref gq158, .ref gq159, .int 0, .ref gq160]))] sz) := by
  refine va_MetW (cc := cL_lines) (maxL := 4) (ret := (Option.some Jvm.ClassFile.FieldType.int)) (hh := [(0, 9, 12, 24)]) (by decide) rfl ?_
  intro p e s m args below meth c s₁ B hml hv
  obtain ⟨rfl, hsz, hP, hK, hD0, hE⟩ := hv
  have hx := B.exec
  have hb := B.bytes
  have hr := B.returns
  have hts0 := atoms_spec (ws := wh yL_lines cL_lines 4 (Option.some Jvm.ClassFile.FieldType.int) [(0, 9, 12, 24)]) B.pre
  have htab := vx_table (x := yL_lines) B (hts0 _ List.mem_cons_self)
  have hts : ∀ w ∈ gw, w.before _ s = true := fun w h => hts0 w (List.mem_cons_of_mem _ h)
  have hown : s.vm.findClass RL = some m.cls := findClass_of_methodNamed B.named
  have hlocks := B.notSynchronized
  subst hsz
  have hD := hD0.self (sz := s.heap.size)
  generalize hAe : va_A [(gx, .inr (11, [.ref gq1, .ref gq4, .ref gq13, .ref gq136, .ref gq137, .ref gq138, .ref gq172, .ref gq184, .ref gq150, .ref gq161, .int (-1)])), (gq150, .inr (2, [.int 0, .ref gq151, .ref gq152, .ref gq153, .ref gq154, .ref gq155, .ref gq156, .int 0, .ref gq157, .ref gq158, .ref gq159, .int 0, .ref gq160]))] s.heap.size = A at hD hE ⊢
  have hA : ∀ q : Nat, s.heap.size ≤ q → A q := fun q h => by rw [← hAe]; exact Or.inr h
  have hS : va_S A s.heap s.heap [] := va_S.rf
  have hP : va_P (dC, dI) cls [(gx, .inr (11, [.ref gq1, .ref gq4, .ref gq13, .ref gq136, .ref gq137, .ref gq138, .ref gq172, .ref gq184, .ref gq150, .ref gq161, .int (-1)])), (gq150, .inr (2, [.int 0, .ref gq151, .ref gq152, .ref gq153, .ref gq154, .ref gq155, .ref gq156, .int 0, .ref gq157, .ref gq158, .ref gq159, .int 0, .ref gq160]))] s.heap := hP
  have hl := lv_entry ([.ref gx, .int p0, .ref go]) (n := 4) (Nat.le_of_ble_eq_true rfl)
  rw [lg_entry_eq]
  generalize (lg_sl ([.ref gx, .int p0, .ref go]) ++ List.replicate (4 - (lg_sl ([.ref gx, .int p0, .ref go])).length) Slot.unset).toArray = ls at hl ⊢
  have hl : lv_has ls 4 [(0, .ref gx), (1, .int p0), (2, .ref go)] := hl
  refine lv_aload_n hx hb dL_lines_0 rfl (lv_at hl 2 rfl) ?_
  refine lv_iconst (v := 0) hx hb dL_lines_1 (by decide) ?_
  refine lv_aload_n hx hb dL_lines_2 rfl (lv_at hl 0 rfl) ?_
  refine lv_iload_n hx hb dL_lines_3 rfl (lv_at hl 1 rfl) ?_
  have hPc := hP.sub (ws' := [(gx, .inr (11, [.ref gq1, .ref gq4, .ref gq13, .ref gq136, .ref gq137, .ref gq138, .ref gq172, .ref gq184, .ref gq150, .ref gq161, .int (-1)])), (gq150, .inr (2, [.int 0, .ref gq151, .ref gq152, .ref gq153, .ref gq154, .ref gq155, .ref gq156, .int 0, .ref gq157, .ref gq158, .ref gq159, .int 0, .ref gq160]))]) [0, 1] rfl
  have hDc := hD.sub (ws' := [(gx, .inr (11, [.ref gq1, .ref gq4, .ref gq13, .ref gq136, .ref gq137, .ref gq138, .ref gq172, .ref gq184, .ref gq150, .ref gq161, .int (-1)])), (gq150, .inr (2, [.int 0, .ref gq151, .ref gq152, .ref gq153, .ref gq154, .ref gq155, .ref gq156, .int 0, .ref gq157, .ref gq158, .ref gq159, .int 0, .ref gq160]))]) [0, 1] (by decide) rfl
  have hKc := hK.sub (tys' := []) [] rfl
  have hFc := va_free (wc := [(gx, .inr (11, [.ref gq1, .ref gq4, .ref gq13, .ref gq136, .ref gq137, .ref gq138, .ref gq172, .ref gq184, .ref gq150, .ref gq161, .int (-1)])), (gq150, .inr (2, [.int 0, .ref gq151, .ref gq152, .ref gq153, .ref gq154, .ref gq155, .ref gq156, .int 0, .ref gq157, .ref gq158, .ref gq159, .int 0, .ref gq160]))]) hD hS hA [0, 1] rfl
  refine vx_calli (vx_runV (As := [.int p0]) (rest := [.int 0, .ref go]) ⟨hx, hb, hml, hown, hts⟩ (kX11_lines l dC dI (gx := gx) (gq1 := gq1) (gq4 := gq4) (gq13 := gq13) (gq136 := gq136) (gq137 := gq137) (gq138 := gq138) (gq150 := gq150) (gq151 := gq151) (gq152 := gq152) (gq153 := gq153) (gq154 := gq154) (gq155 := gq155) (gq156 := gq156) (gq157 := gq157) (gq158 := gq158) (gq159 := gq159) (gq160 := gq160) (gq161 := gq161) (gq172 := gq172) (gq184 := gq184) (p0 := p0) (sz := _) (hl9 := hl9)) (cwV 1 hts (gi_V qw564 qw565 qw566 qw222 (gi_z qw563)) rfl rfl rfl (by decide +kernel) ⟨Nat.le_of_ble_eq_true rfl, Nat.le_of_ble_eq_true rfl⟩) ⟨PRE.blind, va_recv hKc hPc (ci := 11) (q0 := 0) rfl rfl, PRE.of hE hS hFc hPc hKc hDc⟩ rfl rfl hl.1 rfl (lv_room (Nat.le_of_ble_eq_true rfl)) dL_lines_4 ⟨Nat.le_of_ble_eq_true rfl, Nat.le_of_ble_eq_true rfl⟩) hS (fun q _ h => hFc q h) hFc (fun q _ h => hFc q h) (fun E ce q9 u t H locs ht hvm hw hB hz1 hk1 hS hce hcv hcl => ?_) (fun _ u t H locs ht hvm hw hB hz1 hk1 hS => hw.elim)
  obtain ⟨rfl, hB⟩ := hB
  obtain ⟨hP, hD, hK⟩ := JOIN (wr := []) hP hD hK [0, 1] [] [] rfl rfl (by decide) (by decide) rfl hk1 hFc ht hvm hB
  have hP : va_P (dC, dI) cls [] H := hP
  have hD : va_D A [] := hD
  have hK : va_K (dC, dI) cls [] s := hK
  refine vx_widen (k := 1) (n := 6) (Nat.le_of_ble_eq_true rfl) (Nat.le_of_ble_eq_true rfl) ?_
  refine vx_catch (own := RL) (name := "java/lang/IndexOutOfBoundsException") hown [] ⟨0, 9, 12, 24⟩ [] (htab.trans rfl) (fun z hz => by cases hz) (by decide) (by decide) (hts _ qw490) (hE.word (List.mem_append_right _ (tbl_9 (i := 38) rfl)) rfl) hce hcv hcl ?_
  refine lv_astore_n (lv' := [(3, .ref q9), (0, .ref gx), (1, .int p0), (2, .ref go)]) hx hb dL_lines_12 rfl hl (by decide) rfl (fun ls hl => ?_)
  refine lv_iconst (v := 1) hx hb dL_lines_13 (by decide) ?_
  have hP9 : va_P (dC, dI) cls [] H := hP.sub [] rfl
  have hD9 : va_D A [] := hD.sub [] (by decide) rfl
  have hK9 : va_K (dC, dI) cls [] s := hK.sub [] rfl
  exact W.iret (v := 1) hx hb hr (fun t ht hW => ⟨⟨1, (), rfl, rfl, ⟨by rw [ht]; exact hP9, va_K.moved hW.alike hK9, hD9⟩⟩, hS.F ht⟩) hS.2.2 dL_lines_14
set_option maxHeartbeats 4000000 in
set_option maxRecDepth 100000 in
theorem kL_codeKind {zs : Nat × Nat} (l : Launch) (dC : Nat → ClassId) (dI : Nat → Nat → Nat) (gx : Nat) (gq1 : Nat) (gq4 : Nat) (gq13 : Nat) (gq136 : Nat) (gq137 : Nat) (gq138 : Nat) (gq150 : Nat) (gq151 : Nat) (gq152 : Nat) (gq153 : Nat) (gq154 : Nat) (gq155 : Nat) (gq156 : Nat) (gq157 : Nat) (gq158 : Nat) (gq159 : Nat) (gq160 : Nat) (gq161 : Nat) (gq172 : Nat) (gq184 : Nat) (go : Nat) (p0 : Int32) (p1 : Int32) (sz : Nat) (hl9 : l.stackTraces = false)  : Met l yL_codeKind (wh yL_codeKind cL_codeKind 5 (Option.some Jvm.ClassFile.FieldType.int) [(0, 10, 13, 24)]) ({ frames := 9, cells := 1, slots := 6, locals := 165 }) (va_Pc [.ref gx, .int p0, .int p1, .ref go] (PRE zs dC dI [(gx, .inr (11, [.ref gq1, .ref gq4, .ref gq13, .ref gq136, .ref gq137, .ref gq138, .ref gq172, .ref gq184, .ref gq150, .ref gq161, .int (-1)])), (gq150, .inr (2, [.int 0, .ref gq151, .ref gq152, .ref gq153, .ref gq154, .ref gq155, .ref gq156, .int 0, .ref gq157, .ref gq158, .ref gq159, .int 0, .ref gq160]))] [] sz)) (va_Qi (fun (r : Int32) (_ : Unit) => r = 1) (fun _ t => POST dC dI [] [] (va_A [(gx, .inr (11, [.ref gq1, .ref gq4, .ref gq13, .ref gq136, .ref gq137, .ref gq138, .ref gq172, .ref gq184, .ref gq150, .ref gq161, .int (-1)])), (gq150, .inr (2, [.int 0, .ref gq151, .ref gq152, .ref gq153, .ref gq154, .ref gq155, .ref gq156, .int 0, .ref gq157, .ref gq158, .ref gq159, .int 0, .ref gq160]))] sz) t) (va_A [(gx, .inr (11, [.ref gq1, .ref gq4, .ref gq13, .ref gq136, .ref gq137, .ref gq138, .ref gq172, .ref gq184, .ref gq150, .ref gq161, .int (-1)])), (gq150, .inr (2, [.int 0, .ref gq151, .ref gq152, .ref gq153, .ref gq154, .ref gq155, .ref gq156, .int 0, .ref gq157, .ref gq158, .ref gq159, .int 0, .ref gq160]))] sz)) 1 6 (va_A [(gx, .inr (11, [.ref gq1, .ref gq4, .ref gq13, .ref gq136, .ref gq137, .ref gq138, .ref gq172, .ref gq184, .ref gq150, .ref gq161, .int (-1)])), (gq150, .inr (2, [.int 0, .ref gq151, .ref gq152, .ref gq153, .ref gq154, .ref gq155, .ref gq156, .int 0, .ref gq157, .ref gq158, .ref gq159, .int 0, .ref gq160]))] sz) := by
  refine va_MetW (cc := cL_codeKind) (maxL := 5) (ret := (Option.some Jvm.ClassFile.FieldType.int)) (hh := [(0, 10, 13, 24)]) (by decide) rfl ?_
  intro p e s m args below meth c s₁ B hml hv
  obtain ⟨rfl, hsz, hP, hK, hD0, hE⟩ := hv
  have hx := B.exec
  have hb := B.bytes
  have hr := B.returns
  have hts0 := atoms_spec (ws := wh yL_codeKind cL_codeKind 5 (Option.some Jvm.ClassFile.FieldType.int) [(0, 10, 13, 24)]) B.pre
  have htab := vx_table (x := yL_codeKind) B (hts0 _ List.mem_cons_self)
  have hts : ∀ w ∈ gw, w.before _ s = true := fun w h => hts0 w (List.mem_cons_of_mem _ h)
  have hown : s.vm.findClass RL = some m.cls := findClass_of_methodNamed B.named
  have hlocks := B.notSynchronized
  subst hsz
  have hD := hD0.self (sz := s.heap.size)
  generalize hAe : va_A [(gx, .inr (11, [.ref gq1, .ref gq4, .ref gq13, .ref gq136, .ref gq137, .ref gq138, .ref gq172, .ref gq184, .ref gq150, .ref gq161, .int (-1)])), (gq150, .inr (2, [.int 0, .ref gq151, .ref gq152, .ref gq153, .ref gq154, .ref gq155, .ref gq156, .int 0, .ref gq157, .ref gq158, .ref gq159, .int 0, .ref gq160]))] s.heap.size = A at hD hE ⊢
  have hA : ∀ q : Nat, s.heap.size ≤ q → A q := fun q h => by rw [← hAe]; exact Or.inr h
  have hS : va_S A s.heap s.heap [] := va_S.rf
  have hP : va_P (dC, dI) cls [(gx, .inr (11, [.ref gq1, .ref gq4, .ref gq13, .ref gq136, .ref gq137, .ref gq138, .ref gq172, .ref gq184, .ref gq150, .ref gq161, .int (-1)])), (gq150, .inr (2, [.int 0, .ref gq151, .ref gq152, .ref gq153, .ref gq154, .ref gq155, .ref gq156, .int 0, .ref gq157, .ref gq158, .ref gq159, .int 0, .ref gq160]))] s.heap := hP
  have hl := lv_entry ([.ref gx, .int p0, .int p1, .ref go]) (n := 5) (Nat.le_of_ble_eq_true rfl)
  rw [lg_entry_eq]
  generalize (lg_sl ([.ref gx, .int p0, .int p1, .ref go]) ++ List.replicate (5 - (lg_sl ([.ref gx, .int p0, .int p1, .ref go])).length) Slot.unset).toArray = ls at hl ⊢
  have hl : lv_has ls 5 [(0, .ref gx), (1, .int p0), (2, .int p1), (3, .ref go)] := hl
  refine lv_aload_n hx hb dL_codeKind_0 rfl (lv_at hl 3 rfl) ?_
  refine lv_iconst (v := 0) hx hb dL_codeKind_1 (by decide) ?_
  refine lv_aload_n hx hb dL_codeKind_2 rfl (lv_at hl 0 rfl) ?_
  refine lv_iload_n hx hb dL_codeKind_3 rfl (lv_at hl 1 rfl) ?_
  refine lv_iload_n hx hb dL_codeKind_4 rfl (lv_at hl 2 rfl) ?_
  have hPc := hP.sub (ws' := [(gx, .inr (11, [.ref gq1, .ref gq4, .ref gq13, .ref gq136, .ref gq137, .ref gq138, .ref gq172, .ref gq184, .ref gq150, .ref gq161, .int (-1)])), (gq150, .inr (2, [.int 0, .ref gq151, .ref gq152, .ref gq153, .ref gq154, .ref gq155, .ref gq156, .int 0, .ref gq157, .ref gq158, .ref gq159, .int 0, .ref gq160]))]) [0, 1] rfl
  have hDc := hD.sub (ws' := [(gx, .inr (11, [.ref gq1, .ref gq4, .ref gq13, .ref gq136, .ref gq137, .ref gq138, .ref gq172, .ref gq184, .ref gq150, .ref gq161, .int (-1)])), (gq150, .inr (2, [.int 0, .ref gq151, .ref gq152, .ref gq153, .ref gq154, .ref gq155, .ref gq156, .int 0, .ref gq157, .ref gq158, .ref gq159, .int 0, .ref gq160]))]) [0, 1] (by decide) rfl
  have hKc := hK.sub (tys' := []) [] rfl
  have hFc := va_free (wc := [(gx, .inr (11, [.ref gq1, .ref gq4, .ref gq13, .ref gq136, .ref gq137, .ref gq138, .ref gq172, .ref gq184, .ref gq150, .ref gq161, .int (-1)])), (gq150, .inr (2, [.int 0, .ref gq151, .ref gq152, .ref gq153, .ref gq154, .ref gq155, .ref gq156, .int 0, .ref gq157, .ref gq158, .ref gq159, .int 0, .ref gq160]))]) hD hS hA [0, 1] rfl
  refine vx_calli (vx_runV (As := [.int p0, .int p1]) (rest := [.int 0, .ref go]) ⟨hx, hb, hml, hown, hts⟩ (kX11_codeKind l dC dI (gx := gx) (gq1 := gq1) (gq4 := gq4) (gq13 := gq13) (gq136 := gq136) (gq137 := gq137) (gq138 := gq138) (gq150 := gq150) (gq151 := gq151) (gq152 := gq152) (gq153 := gq153) (gq154 := gq154) (gq155 := gq155) (gq156 := gq156) (gq157 := gq157) (gq158 := gq158) (gq159 := gq159) (gq160 := gq160) (gq161 := gq161) (gq172 := gq172) (gq184 := gq184) (p0 := p0) (p1 := p1) (sz := _) (hl9 := hl9)) (cwV 2 hts (gi_V qw568 qw569 qw570 qw222 (gi_z qw567)) rfl rfl rfl (by decide +kernel) ⟨Nat.le_of_ble_eq_true rfl, Nat.le_of_ble_eq_true rfl⟩) ⟨PRE.blind, va_recv hKc hPc (ci := 11) (q0 := 0) rfl rfl, PRE.of hE hS hFc hPc hKc hDc⟩ rfl rfl hl.1 rfl (lv_room (Nat.le_of_ble_eq_true rfl)) dL_codeKind_5 ⟨Nat.le_of_ble_eq_true rfl, Nat.le_of_ble_eq_true rfl⟩) hS (fun q _ h => hFc q h) hFc (fun q _ h => hFc q h) (fun E ce q9 u t H locs ht hvm hw hB hz1 hk1 hS hce hcv hcl => ?_) (fun _ u t H locs ht hvm hw hB hz1 hk1 hS => hw.elim)
  obtain ⟨rfl, hB⟩ := hB
  obtain ⟨hP, hD, hK⟩ := JOIN (wr := []) hP hD hK [0, 1] [] [] rfl rfl (by decide) (by decide) rfl hk1 hFc ht hvm hB
  have hP : va_P (dC, dI) cls [] H := hP
  have hD : va_D A [] := hD
  have hK : va_K (dC, dI) cls [] s := hK
  refine vx_widen (k := 1) (n := 6) (Nat.le_of_ble_eq_true rfl) (Nat.le_of_ble_eq_true rfl) ?_
  refine vx_catch (own := RL) (name := "java/lang/IndexOutOfBoundsException") hown [] ⟨0, 10, 13, 24⟩ [] (htab.trans rfl) (fun z hz => by cases hz) (by decide) (by decide) (hts _ qw490) (hE.word (List.mem_append_right _ (tbl_9 (i := 38) rfl)) rfl) hce hcv hcl ?_
  refine lv_astore (lv' := [(4, .ref q9), (0, .ref gx), (1, .int p0), (2, .int p1), (3, .ref go)]) hx hb dL_codeKind_13 hl (by decide) rfl (fun ls hl => ?_)
  refine lv_iconst (v := 1) hx hb dL_codeKind_15 (by decide) ?_
  have hP9 : va_P (dC, dI) cls [] H := hP.sub [] rfl
  have hD9 : va_D A [] := hD.sub [] (by decide) rfl
  have hK9 : va_K (dC, dI) cls [] s := hK.sub [] rfl
  exact W.iret (v := 1) hx hb hr (fun t ht hW => ⟨⟨1, (), rfl, rfl, ⟨by rw [ht]; exact hP9, va_K.moved hW.alike hK9, hD9⟩⟩, hS.F ht⟩) hS.2.2 dL_codeKind_16
set_option maxHeartbeats 4000000 in
set_option maxRecDepth 100000 in
theorem kL_codeGives {zs : Nat × Nat} (l : Launch) (dC : Nat → ClassId) (dI : Nat → Nat → Nat) (gx : Nat) (gq1 : Nat) (gq4 : Nat) (gq13 : Nat) (gq136 : Nat) (gq137 : Nat) (gq138 : Nat) (gq150 : Nat) (gq151 : Nat) (gq152 : Nat) (gq153 : Nat) (gq154 : Nat) (gq155 : Nat) (gq156 : Nat) (gq157 : Nat) (gq158 : Nat) (gq159 : Nat) (gq160 : Nat) (gq161 : Nat) (gq172 : Nat) (gq184 : Nat) (go : Nat) (p0 : Int32) (p1 : Int32) (sz : Nat) (hl9 : l.stackTraces = false)  : Met l yL_codeGives (wh yL_codeGives cL_codeGives 5 (Option.some Jvm.ClassFile.FieldType.int) [(0, 10, 13, 24)]) ({ frames := 9, cells := 1, slots := 6, locals := 165 }) (va_Pc [.ref gx, .int p0, .int p1, .ref go] (PRE zs dC dI [(gx, .inr (11, [.ref gq1, .ref gq4, .ref gq13, .ref gq136, .ref gq137, .ref gq138, .ref gq172, .ref gq184, .ref gq150, .ref gq161, .int (-1)])), (gq150, .inr (2, [.int 0, .ref gq151, .ref gq152, .ref gq153, .ref gq154, .ref gq155, .ref gq156, .int 0, .ref gq157, .ref gq158, .ref gq159, .int 0, .ref gq160]))] [] sz)) (va_Qi (fun (r : Int32) (_ : Unit) => r = 1) (fun _ t => POST dC dI [] [] (va_A [(gx, .inr (11, [.ref gq1, .ref gq4, .ref gq13, .ref gq136, .ref gq137, .ref gq138, .ref gq172, .ref gq184, .ref gq150, .ref gq161, .int (-1)])), (gq150, .inr (2, [.int 0, .ref gq151, .ref gq152, .ref gq153, .ref gq154, .ref gq155, .ref gq156, .int 0, .ref gq157, .ref gq158, .ref gq159, .int 0, .ref gq160]))] sz) t) (va_A [(gx, .inr (11, [.ref gq1, .ref gq4, .ref gq13, .ref gq136, .ref gq137, .ref gq138, .ref gq172, .ref gq184, .ref gq150, .ref gq161, .int (-1)])), (gq150, .inr (2, [.int 0, .ref gq151, .ref gq152, .ref gq153, .ref gq154, .ref gq155, .ref gq156, .int 0, .ref gq157, .ref gq158, .ref gq159, .int 0, .ref gq160]))] sz)) 1 6 (va_A [(gx, .inr (11, [.ref gq1, .ref gq4, .ref gq13, .ref gq136, .ref gq137, .ref gq138, .ref gq172, .ref gq184, .ref gq150, .ref gq161, .int (-1)])), (gq150, .inr (2, [.int 0, .ref gq151, .ref gq152, .ref gq153, .ref gq154, .ref gq155, .ref gq156, .int 0, .ref gq157, .ref gq158, .ref gq159, .int 0, .ref gq160]))] sz) := by
  refine va_MetW (cc := cL_codeGives) (maxL := 5) (ret := (Option.some Jvm.ClassFile.FieldType.int)) (hh := [(0, 10, 13, 24)]) (by decide) rfl ?_
  intro p e s m args below meth c s₁ B hml hv
  obtain ⟨rfl, hsz, hP, hK, hD0, hE⟩ := hv
  have hx := B.exec
  have hb := B.bytes
  have hr := B.returns
  have hts0 := atoms_spec (ws := wh yL_codeGives cL_codeGives 5 (Option.some Jvm.ClassFile.FieldType.int) [(0, 10, 13, 24)]) B.pre
  have htab := vx_table (x := yL_codeGives) B (hts0 _ List.mem_cons_self)
  have hts : ∀ w ∈ gw, w.before _ s = true := fun w h => hts0 w (List.mem_cons_of_mem _ h)
  have hown : s.vm.findClass RL = some m.cls := findClass_of_methodNamed B.named
  have hlocks := B.notSynchronized
  subst hsz
  have hD := hD0.self (sz := s.heap.size)
  generalize hAe : va_A [(gx, .inr (11, [.ref gq1, .ref gq4, .ref gq13, .ref gq136, .ref gq137, .ref gq138, .ref gq172, .ref gq184, .ref gq150, .ref gq161, .int (-1)])), (gq150, .inr (2, [.int 0, .ref gq151, .ref gq152, .ref gq153, .ref gq154, .ref gq155, .ref gq156, .int 0, .ref gq157, .ref gq158, .ref gq159, .int 0, .ref gq160]))] s.heap.size = A at hD hE ⊢
  have hA : ∀ q : Nat, s.heap.size ≤ q → A q := fun q h => by rw [← hAe]; exact Or.inr h
  have hS : va_S A s.heap s.heap [] := va_S.rf
  have hP : va_P (dC, dI) cls [(gx, .inr (11, [.ref gq1, .ref gq4, .ref gq13, .ref gq136, .ref gq137, .ref gq138, .ref gq172, .ref gq184, .ref gq150, .ref gq161, .int (-1)])), (gq150, .inr (2, [.int 0, .ref gq151, .ref gq152, .ref gq153, .ref gq154, .ref gq155, .ref gq156, .int 0, .ref gq157, .ref gq158, .ref gq159, .int 0, .ref gq160]))] s.heap := hP
  have hl := lv_entry ([.ref gx, .int p0, .int p1, .ref go]) (n := 5) (Nat.le_of_ble_eq_true rfl)
  rw [lg_entry_eq]
  generalize (lg_sl ([.ref gx, .int p0, .int p1, .ref go]) ++ List.replicate (5 - (lg_sl ([.ref gx, .int p0, .int p1, .ref go])).length) Slot.unset).toArray = ls at hl ⊢
  have hl : lv_has ls 5 [(0, .ref gx), (1, .int p0), (2, .int p1), (3, .ref go)] := hl
  refine lv_aload_n hx hb dL_codeGives_0 rfl (lv_at hl 3 rfl) ?_
  refine lv_iconst (v := 0) hx hb dL_codeGives_1 (by decide) ?_
  refine lv_aload_n hx hb dL_codeGives_2 rfl (lv_at hl 0 rfl) ?_
  refine lv_iload_n hx hb dL_codeGives_3 rfl (lv_at hl 1 rfl) ?_
  refine lv_iload_n hx hb dL_codeGives_4 rfl (lv_at hl 2 rfl) ?_
  have hPc := hP.sub (ws' := [(gx, .inr (11, [.ref gq1, .ref gq4, .ref gq13, .ref gq136, .ref gq137, .ref gq138, .ref gq172, .ref gq184, .ref gq150, .ref gq161, .int (-1)])), (gq150, .inr (2, [.int 0, .ref gq151, .ref gq152, .ref gq153, .ref gq154, .ref gq155, .ref gq156, .int 0, .ref gq157, .ref gq158, .ref gq159, .int 0, .ref gq160]))]) [0, 1] rfl
  have hDc := hD.sub (ws' := [(gx, .inr (11, [.ref gq1, .ref gq4, .ref gq13, .ref gq136, .ref gq137, .ref gq138, .ref gq172, .ref gq184, .ref gq150, .ref gq161, .int (-1)])), (gq150, .inr (2, [.int 0, .ref gq151, .ref gq152, .ref gq153, .ref gq154, .ref gq155, .ref gq156, .int 0, .ref gq157, .ref gq158, .ref gq159, .int 0, .ref gq160]))]) [0, 1] (by decide) rfl
  have hKc := hK.sub (tys' := []) [] rfl
  have hFc := va_free (wc := [(gx, .inr (11, [.ref gq1, .ref gq4, .ref gq13, .ref gq136, .ref gq137, .ref gq138, .ref gq172, .ref gq184, .ref gq150, .ref gq161, .int (-1)])), (gq150, .inr (2, [.int 0, .ref gq151, .ref gq152, .ref gq153, .ref gq154, .ref gq155, .ref gq156, .int 0, .ref gq157, .ref gq158, .ref gq159, .int 0, .ref gq160]))]) hD hS hA [0, 1] rfl
  refine vx_calli (vx_runV (As := [.int p0, .int p1]) (rest := [.int 0, .ref go]) ⟨hx, hb, hml, hown, hts⟩ (kX11_codeGives l dC dI (gx := gx) (gq1 := gq1) (gq4 := gq4) (gq13 := gq13) (gq136 := gq136) (gq137 := gq137) (gq138 := gq138) (gq150 := gq150) (gq151 := gq151) (gq152 := gq152) (gq153 := gq153) (gq154 := gq154) (gq155 := gq155) (gq156 := gq156) (gq157 := gq157) (gq158 := gq158) (gq159 := gq159) (gq160 := gq160) (gq161 := gq161) (gq172 := gq172) (gq184 := gq184) (p0 := p0) (p1 := p1) (sz := _) (hl9 := hl9)) (cwV 2 hts (gi_V qw572 qw573 qw574 qw222 (gi_z qw571)) rfl rfl rfl (by decide +kernel) ⟨Nat.le_of_ble_eq_true rfl, Nat.le_of_ble_eq_true rfl⟩) ⟨PRE.blind, va_recv hKc hPc (ci := 11) (q0 := 0) rfl rfl, PRE.of hE hS hFc hPc hKc hDc⟩ rfl rfl hl.1 rfl (lv_room (Nat.le_of_ble_eq_true rfl)) dL_codeGives_5 ⟨Nat.le_of_ble_eq_true rfl, Nat.le_of_ble_eq_true rfl⟩) hS (fun q _ h => hFc q h) hFc (fun q _ h => hFc q h) (fun E ce q9 u t H locs ht hvm hw hB hz1 hk1 hS hce hcv hcl => ?_) (fun _ u t H locs ht hvm hw hB hz1 hk1 hS => hw.elim)
  obtain ⟨rfl, hB⟩ := hB
  obtain ⟨hP, hD, hK⟩ := JOIN (wr := []) hP hD hK [0, 1] [] [] rfl rfl (by decide) (by decide) rfl hk1 hFc ht hvm hB
  have hP : va_P (dC, dI) cls [] H := hP
  have hD : va_D A [] := hD
  have hK : va_K (dC, dI) cls [] s := hK
  refine vx_widen (k := 1) (n := 6) (Nat.le_of_ble_eq_true rfl) (Nat.le_of_ble_eq_true rfl) ?_
  refine vx_catch (own := RL) (name := "java/lang/IndexOutOfBoundsException") hown [] ⟨0, 10, 13, 24⟩ [] (htab.trans rfl) (fun z hz => by cases hz) (by decide) (by decide) (hts _ qw490) (hE.word (List.mem_append_right _ (tbl_9 (i := 38) rfl)) rfl) hce hcv hcl ?_
  refine lv_astore (lv' := [(4, .ref q9), (0, .ref gx), (1, .int p0), (2, .int p1), (3, .ref go)]) hx hb dL_codeGives_13 hl (by decide) rfl (fun ls hl => ?_)
  refine lv_iconst (v := 1) hx hb dL_codeGives_15 (by decide) ?_
  have hP9 : va_P (dC, dI) cls [] H := hP.sub [] rfl
  have hD9 : va_D A [] := hD.sub [] (by decide) rfl
  have hK9 : va_K (dC, dI) cls [] s := hK.sub [] rfl
  exact W.iret (v := 1) hx hb hr (fun t ht hW => ⟨⟨1, (), rfl, rfl, ⟨by rw [ht]; exact hP9, va_K.moved hW.alike hK9, hD9⟩⟩, hS.F ht⟩) hS.2.2 dL_codeGives_16
set_option maxHeartbeats 4000000 in
set_option maxRecDepth 100000 in
theorem kL_codeLeft {zs : Nat × Nat} (l : Launch) (dC : Nat → ClassId) (dI : Nat → Nat → Nat) (gx : Nat) (gq1 : Nat) (gq4 : Nat) (gq13 : Nat) (gq136 : Nat) (gq137 : Nat) (gq138 : Nat) (gq150 : Nat) (gq151 : Nat) (gq152 : Nat) (gq153 : Nat) (gq154 : Nat) (gq155 : Nat) (gq156 : Nat) (gq157 : Nat) (gq158 : Nat) (gq159 : Nat) (gq160 : Nat) (gq161 : Nat) (gq172 : Nat) (gq184 : Nat) (go : Nat) (p0 : Int32) (p1 : Int32) (sz : Nat) (hl9 : l.stackTraces = false)  : Met l yL_codeLeft (wh yL_codeLeft cL_codeLeft 5 (Option.some Jvm.ClassFile.FieldType.int) [(0, 10, 13, 24)]) ({ frames := 9, cells := 1, slots := 6, locals := 165 }) (va_Pc [.ref gx, .int p0, .int p1, .ref go] (PRE zs dC dI [(gx, .inr (11, [.ref gq1, .ref gq4, .ref gq13, .ref gq136, .ref gq137, .ref gq138, .ref gq172, .ref gq184, .ref gq150, .ref gq161, .int (-1)])), (gq150, .inr (2, [.int 0, .ref gq151, .ref gq152, .ref gq153, .ref gq154, .ref gq155, .ref gq156, .int 0, .ref gq157, .ref gq158, .ref gq159, .int 0, .ref gq160]))] [] sz)) (va_Qi (fun (r : Int32) (_ : Unit) => r = 1) (fun _ t => POST dC dI [] [] (va_A [(gx, .inr (11, [.ref gq1, .ref gq4, .ref gq13, .ref gq136, .ref gq137, .ref gq138, .ref gq172, .ref gq184, .ref gq150, .ref gq161, .int (-1)])), (gq150, .inr (2, [.int 0, .ref gq151, .ref gq152, .ref gq153, .ref gq154, .ref gq155, .ref gq156, .int 0, .ref gq157, .ref gq158, .ref gq159, .int 0, .ref gq160]))] sz) t) (va_A [(gx, .inr (11, [.ref gq1, .ref gq4, .ref gq13, .ref gq136, .ref gq137, .ref gq138, .ref gq172, .ref gq184, .ref gq150, .ref gq161, .int (-1)])), (gq150, .inr (2, [.int 0, .ref gq151, .ref gq152, .ref gq153, .ref gq154, .ref gq155, .ref gq156, .int 0, .ref gq157, .ref gq158, .ref gq159, .int 0, .ref gq160]))] sz)) 1 6 (va_A [(gx, .inr (11, [.ref gq1, .ref gq4, .ref gq13, .ref gq136, .ref gq137, .ref gq138, .ref gq172, .ref gq184, .ref gq150, .ref gq161, .int (-1)])), (gq150, .inr (2, [.int 0, .ref gq151, .ref gq152, .ref gq153, .ref gq154, .ref gq155, .ref gq156, .int 0, .ref gq157, .ref gq158, .ref gq159, .int 0, .ref gq160]))] sz) := by
  refine va_MetW (cc := cL_codeLeft) (maxL := 5) (ret := (Option.some Jvm.ClassFile.FieldType.int)) (hh := [(0, 10, 13, 24)]) (by decide) rfl ?_
  intro p e s m args below meth c s₁ B hml hv
  obtain ⟨rfl, hsz, hP, hK, hD0, hE⟩ := hv
  have hx := B.exec
  have hb := B.bytes
  have hr := B.returns
  have hts0 := atoms_spec (ws := wh yL_codeLeft cL_codeLeft 5 (Option.some Jvm.ClassFile.FieldType.int) [(0, 10, 13, 24)]) B.pre
  have htab := vx_table (x := yL_codeLeft) B (hts0 _ List.mem_cons_self)
  have hts : ∀ w ∈ gw, w.before _ s = true := fun w h => hts0 w (List.mem_cons_of_mem _ h)
  have hown : s.vm.findClass RL = some m.cls := findClass_of_methodNamed B.named
  have hlocks := B.notSynchronized
  subst hsz
  have hD := hD0.self (sz := s.heap.size)
  generalize hAe : va_A [(gx, .inr (11, [.ref gq1, .ref gq4, .ref gq13, .ref gq136, .ref gq137, .ref gq138, .ref gq172, .ref gq184, .ref gq150, .ref gq161, .int (-1)])), (gq150, .inr (2, [.int 0, .ref gq151, .ref gq152, .ref gq153, .ref gq154, .ref gq155, .ref gq156, .int 0, .ref gq157, .ref gq158, .ref gq159, .int 0, .ref gq160]))] s.heap.size = A at hD hE ⊢
  have hA : ∀ q : Nat, s.heap.size ≤ q → A q := fun q h => by rw [← hAe]; exact Or.inr h
  have hS : va_S A s.heap s.heap [] := va_S.rf
  have hP : va_P (dC, dI) cls [(gx, .inr (11, [.ref gq1, .ref gq4, .ref gq13, .ref gq136, .ref gq137, .ref gq138, .ref gq172, .ref gq184, .ref gq150, .ref gq161, .int (-1)])), (gq150, .inr (2, [.int 0, .ref gq151, .ref gq152, .ref gq153, .ref gq154, .ref gq155, .ref gq156, .int 0, .ref gq157, .ref gq158, .ref gq159, .int 0, .ref gq160]))] s.heap := hP
  have hl := lv_entry ([.ref gx, .int p0, .int p1, .ref go]) (n := 5) (Nat.le_of_ble_eq_true rfl)
  rw [lg_entry_eq]
  generalize (lg_sl ([.ref gx, .int p0, .int p1, .ref go]) ++ List.replicate (5 - (lg_sl ([.ref gx, .int p0, .int p1, .ref go])).length) Slot.unset).toArray = ls at hl ⊢
  have hl : lv_has ls 5 [(0, .ref gx), (1, .int p0), (2, .int p1), (3, .ref go)] := hl
  refine lv_aload_n hx hb dL_codeLeft_0 rfl (lv_at hl 3 rfl) ?_
  refine lv_iconst (v := 0) hx hb dL_codeLeft_1 (by decide) ?_
  refine lv_aload_n hx hb dL_codeLeft_2 rfl (lv_at hl 0 rfl) ?_
  refine lv_iload_n hx hb dL_codeLeft_3 rfl (lv_at hl 1 rfl) ?_
  refine lv_iload_n hx hb dL_codeLeft_4 rfl (lv_at hl 2 rfl) ?_
  have hPc := hP.sub (ws' := [(gx, .inr (11, [.ref gq1, .ref gq4, .ref gq13, .ref gq136, .ref gq137, .ref gq138, .ref gq172, .ref gq184, .ref gq150, .ref gq161, .int (-1)])), (gq150, .inr (2, [.int 0, .ref gq151, .ref gq152, .ref gq153, .ref gq154, .ref gq155, .ref gq156, .int 0, .ref gq157, .ref gq158, .ref gq159, .int 0, .ref gq160]))]) [0, 1] rfl
  have hDc := hD.sub (ws' := [(gx, .inr (11, [.ref gq1, .ref gq4, .ref gq13, .ref gq136, .ref gq137, .ref gq138, .ref gq172, .ref gq184, .ref gq150, .ref gq161, .int (-1)])), (gq150, .inr (2, [.int 0, .ref gq151, .ref gq152, .ref gq153, .ref gq154, .ref gq155, .ref gq156, .int 0, .ref gq157, .ref gq158, .ref gq159, .int 0, .ref gq160]))]) [0, 1] (by decide) rfl
  have hKc := hK.sub (tys' := []) [] rfl
  have hFc := va_free (wc := [(gx, .inr (11, [.ref gq1, .ref gq4, .ref gq13, .ref gq136, .ref gq137, .ref gq138, .ref gq172, .ref gq184, .ref gq150, .ref gq161, .int (-1)])), (gq150, .inr (2, [.int 0, .ref gq151, .ref gq152, .ref gq153, .ref gq154, .ref gq155, .ref gq156, .int 0, .ref gq157, .ref gq158, .ref gq159, .int 0, .ref gq160]))]) hD hS hA [0, 1] rfl
  refine vx_calli (vx_runV (As := [.int p0, .int p1]) (rest := [.int 0, .ref go]) ⟨hx, hb, hml, hown, hts⟩ (kX11_codeLeft l dC dI (gx := gx) (gq1 := gq1) (gq4 := gq4) (gq13 := gq13) (gq136 := gq136) (gq137 := gq137) (gq138 := gq138) (gq150 := gq150) (gq151 := gq151) (gq152 := gq152) (gq153 := gq153) (gq154 := gq154) (gq155 := gq155) (gq156 := gq156) (gq157 := gq157) (gq158 := gq158) (gq159 := gq159) (gq160 := gq160) (gq161 := gq161) (gq172 := gq172) (gq184 := gq184) (p0 := p0) (p1 := p1) (sz := _) (hl9 := hl9)) (cwV 2 hts (gi_V qw576 qw577 qw578 qw222 (gi_z qw575)) rfl rfl rfl (by decide +kernel) ⟨Nat.le_of_ble_eq_true rfl, Nat.le_of_ble_eq_true rfl⟩) ⟨PRE.blind, va_recv hKc hPc (ci := 11) (q0 := 0) rfl rfl, PRE.of hE hS hFc hPc hKc hDc⟩ rfl rfl hl.1 rfl (lv_room (Nat.le_of_ble_eq_true rfl)) dL_codeLeft_5 ⟨Nat.le_of_ble_eq_true rfl, Nat.le_of_ble_eq_true rfl⟩) hS (fun q _ h => hFc q h) hFc (fun q _ h => hFc q h) (fun E ce q9 u t H locs ht hvm hw hB hz1 hk1 hS hce hcv hcl => ?_) (fun _ u t H locs ht hvm hw hB hz1 hk1 hS => hw.elim)
  obtain ⟨rfl, hB⟩ := hB
  obtain ⟨hP, hD, hK⟩ := JOIN (wr := []) hP hD hK [0, 1] [] [] rfl rfl (by decide) (by decide) rfl hk1 hFc ht hvm hB
  have hP : va_P (dC, dI) cls [] H := hP
  have hD : va_D A [] := hD
  have hK : va_K (dC, dI) cls [] s := hK
  refine vx_widen (k := 1) (n := 6) (Nat.le_of_ble_eq_true rfl) (Nat.le_of_ble_eq_true rfl) ?_
  refine vx_catch (own := RL) (name := "java/lang/IndexOutOfBoundsException") hown [] ⟨0, 10, 13, 24⟩ [] (htab.trans rfl) (fun z hz => by cases hz) (by decide) (by decide) (hts _ qw490) (hE.word (List.mem_append_right _ (tbl_9 (i := 38) rfl)) rfl) hce hcv hcl ?_
  refine lv_astore (lv' := [(4, .ref q9), (0, .ref gx), (1, .int p0), (2, .int p1), (3, .ref go)]) hx hb dL_codeLeft_13 hl (by decide) rfl (fun ls hl => ?_)
  refine lv_iconst (v := 1) hx hb dL_codeLeft_15 (by decide) ?_
  have hP9 : va_P (dC, dI) cls [] H := hP.sub [] rfl
  have hD9 : va_D A [] := hD.sub [] (by decide) rfl
  have hK9 : va_K (dC, dI) cls [] s := hK.sub [] rfl
  exact W.iret (v := 1) hx hb hr (fun t ht hW => ⟨⟨1, (), rfl, rfl, ⟨by rw [ht]; exact hP9, va_K.moved hW.alike hK9, hD9⟩⟩, hS.F ht⟩) hS.2.2 dL_codeLeft_16
set_option maxHeartbeats 4000000 in
set_option maxRecDepth 100000 in
theorem kL_codeRight {zs : Nat × Nat} (l : Launch) (dC : Nat → ClassId) (dI : Nat → Nat → Nat) (gx : Nat) (gq1 : Nat) (gq4 : Nat) (gq13 : Nat) (gq136 : Nat) (gq137 : Nat) (gq138 : Nat) (gq150 : Nat) (gq151 : Nat) (gq152 : Nat) (gq153 : Nat) (gq154 : Nat) (gq155 : Nat) (gq156 : Nat) (gq157 : Nat) (gq158 : Nat) (gq159 : Nat) (gq160 : Nat) (gq161 : Nat) (gq172 : Nat) (gq184 : Nat) (go : Nat) (p0 : Int32) (p1 : Int32) (sz : Nat) (hl9 : l.stackTraces = false)  : Met l yL_codeRight (wh yL_codeRight cL_codeRight 5 (Option.some Jvm.ClassFile.FieldType.int) [(0, 10, 13, 24)]) ({ frames := 9, cells := 1, slots := 6, locals := 165 }) (va_Pc [.ref gx, .int p0, .int p1, .ref go] (PRE zs dC dI [(gx, .inr (11, [.ref gq1, .ref gq4, .ref gq13, .ref gq136, .ref gq137, .ref gq138, .ref gq172, .ref gq184, .ref gq150, .ref gq161, .int (-1)])), (gq150, .inr (2, [.int 0, .ref gq151, .ref gq152, .ref gq153, .ref gq154, .ref gq155, .ref gq156, .int 0, .ref gq157, .ref gq158, .ref gq159, .int 0, .ref gq160]))] [] sz)) (va_Qi (fun (r : Int32) (_ : Unit) => r = 1) (fun _ t => POST dC dI [] [] (va_A [(gx, .inr (11, [.ref gq1, .ref gq4, .ref gq13, .ref gq136, .ref gq137, .ref gq138, .ref gq172, .ref gq184, .ref gq150, .ref gq161, .int (-1)])), (gq150, .inr (2, [.int 0, .ref gq151, .ref gq152, .ref gq153, .ref gq154, .ref gq155, .ref gq156, .int 0, .ref gq157, .ref gq158, .ref gq159, .int 0, .ref gq160]))] sz) t) (va_A [(gx, .inr (11, [.ref gq1, .ref gq4, .ref gq13, .ref gq136, .ref gq137, .ref gq138, .ref gq172, .ref gq184, .ref gq150, .ref gq161, .int (-1)])), (gq150, .inr (2, [.int 0, .ref gq151, .ref gq152, .ref gq153, .ref gq154, .ref gq155, .ref gq156, .int 0, .ref gq157, .ref gq158, .ref gq159, .int 0, .ref gq160]))] sz)) 1 6 (va_A [(gx, .inr (11, [.ref gq1, .ref gq4, .ref gq13, .ref gq136, .ref gq137, .ref gq138, .ref gq172, .ref gq184, .ref gq150, .ref gq161, .int (-1)])), (gq150, .inr (2, [.int 0, .ref gq151, .ref gq152, .ref gq153, .ref gq154, .ref gq155, .ref gq156, .int 0, .ref gq157, .ref gq158, .ref gq159, .int 0, .ref gq160]))] sz) := by
  refine va_MetW (cc := cL_codeRight) (maxL := 5) (ret := (Option.some Jvm.ClassFile.FieldType.int)) (hh := [(0, 10, 13, 24)]) (by decide) rfl ?_
  intro p e s m args below meth c s₁ B hml hv
  obtain ⟨rfl, hsz, hP, hK, hD0, hE⟩ := hv
  have hx := B.exec
  have hb := B.bytes
  have hr := B.returns
  have hts0 := atoms_spec (ws := wh yL_codeRight cL_codeRight 5 (Option.some Jvm.ClassFile.FieldType.int) [(0, 10, 13, 24)]) B.pre
  have htab := vx_table (x := yL_codeRight) B (hts0 _ List.mem_cons_self)
  have hts : ∀ w ∈ gw, w.before _ s = true := fun w h => hts0 w (List.mem_cons_of_mem _ h)
  have hown : s.vm.findClass RL = some m.cls := findClass_of_methodNamed B.named
  have hlocks := B.notSynchronized
  subst hsz
  have hD := hD0.self (sz := s.heap.size)
  generalize hAe : va_A [(gx, .inr (11, [.ref gq1, .ref gq4, .ref gq13, .ref gq136, .ref gq137, .ref gq138, .ref gq172, .ref gq184, .ref gq150, .ref gq161, .int (-1)])), (gq150, .inr (2, [.int 0, .ref gq151, .ref gq152, .ref gq153, .ref gq154, .ref gq155, .ref gq156, .int 0, .ref gq157, .ref gq158, .ref gq159, .int 0, .ref gq160]))] s.heap.size = A at hD hE ⊢
  have hA : ∀ q : Nat, s.heap.size ≤ q → A q := fun q h => by rw [← hAe]; exact Or.inr h
  have hS : va_S A s.heap s.heap [] := va_S.rf
  have hP : va_P (dC, dI) cls [(gx, .inr (11, [.ref gq1, .ref gq4, .ref gq13, .ref gq136, .ref gq137, .ref gq138, .ref gq172, .ref gq184, .ref gq150, .ref gq161, .int (-1)])), (gq150, .inr (2, [.int 0, .ref gq151, .ref gq152, .ref gq153, .ref gq154, .ref gq155, .ref gq156, .int 0, .ref gq157, .ref gq158, .ref gq159, .int 0, .ref gq160]))] s.heap := hP
  have hl := lv_entry ([.ref gx, .int p0, .int p1, .ref go]) (n := 5) (Nat.le_of_ble_eq_true rfl)
  rw [lg_entry_eq]
  generalize (lg_sl ([.ref gx, .int p0, .int p1, .ref go]) ++ List.replicate (5 - (lg_sl ([.ref gx, .int p0, .int p1, .ref go])).length) Slot.unset).toArray = ls at hl ⊢
  have hl : lv_has ls 5 [(0, .ref gx), (1, .int p0), (2, .int p1), (3, .ref go)] := hl
  refine lv_aload_n hx hb dL_codeRight_0 rfl (lv_at hl 3 rfl) ?_
  refine lv_iconst (v := 0) hx hb dL_codeRight_1 (by decide) ?_
  refine lv_aload_n hx hb dL_codeRight_2 rfl (lv_at hl 0 rfl) ?_
  refine lv_iload_n hx hb dL_codeRight_3 rfl (lv_at hl 1 rfl) ?_
  refine lv_iload_n hx hb dL_codeRight_4 rfl (lv_at hl 2 rfl) ?_
  have hPc := hP.sub (ws' := [(gx, .inr (11, [.ref gq1, .ref gq4, .ref gq13, .ref gq136, .ref gq137, .ref gq138, .ref gq172, .ref gq184, .ref gq150, .ref gq161, .int (-1)])), (gq150, .inr (2, [.int 0, .ref gq151, .ref gq152, .ref gq153, .ref gq154, .ref gq155, .ref gq156, .int 0, .ref gq157, .ref gq158, .ref gq159, .int 0, .ref gq160]))]) [0, 1] rfl
  have hDc := hD.sub (ws' := [(gx, .inr (11, [.ref gq1, .ref gq4, .ref gq13, .ref gq136, .ref gq137, .ref gq138, .ref gq172, .ref gq184, .ref gq150, .ref gq161, .int (-1)])), (gq150, .inr (2, [.int 0, .ref gq151, .ref gq152, .ref gq153, .ref gq154, .ref gq155, .ref gq156, .int 0, .ref gq157, .ref gq158, .ref gq159, .int 0, .ref gq160]))]) [0, 1] (by decide) rfl
  have hKc := hK.sub (tys' := []) [] rfl
  have hFc := va_free (wc := [(gx, .inr (11, [.ref gq1, .ref gq4, .ref gq13, .ref gq136, .ref gq137, .ref gq138, .ref gq172, .ref gq184, .ref gq150, .ref gq161, .int (-1)])), (gq150, .inr (2, [.int 0, .ref gq151, .ref gq152, .ref gq153, .ref gq154, .ref gq155, .ref gq156, .int 0, .ref gq157, .ref gq158, .ref gq159, .int 0, .ref gq160]))]) hD hS hA [0, 1] rfl
  refine vx_calli (vx_runV (As := [.int p0, .int p1]) (rest := [.int 0, .ref go]) ⟨hx, hb, hml, hown, hts⟩ (kX11_codeRight l dC dI (gx := gx) (gq1 := gq1) (gq4 := gq4) (gq13 := gq13) (gq136 := gq136) (gq137 := gq137) (gq138 := gq138) (gq150 := gq150) (gq151 := gq151) (gq152 := gq152) (gq153 := gq153) (gq154 := gq154) (gq155 := gq155) (gq156 := gq156) (gq157 := gq157) (gq158 := gq158) (gq159 := gq159) (gq160 := gq160) (gq161 := gq161) (gq172 := gq172) (gq184 := gq184) (p0 := p0) (p1 := p1) (sz := _) (hl9 := hl9)) (cwV 2 hts (gi_V qw580 qw581 qw582 qw222 (gi_z qw579)) rfl rfl rfl (by decide +kernel) ⟨Nat.le_of_ble_eq_true rfl, Nat.le_of_ble_eq_true rfl⟩) ⟨PRE.blind, va_recv hKc hPc (ci := 11) (q0 := 0) rfl rfl, PRE.of hE hS hFc hPc hKc hDc⟩ rfl rfl hl.1 rfl (lv_room (Nat.le_of_ble_eq_true rfl)) dL_codeRight_5 ⟨Nat.le_of_ble_eq_true rfl, Nat.le_of_ble_eq_true rfl⟩) hS (fun q _ h => hFc q h) hFc (fun q _ h => hFc q h) (fun E ce q9 u t H locs ht hvm hw hB hz1 hk1 hS hce hcv hcl => ?_) (fun _ u t H locs ht hvm hw hB hz1 hk1 hS => hw.elim)
  obtain ⟨rfl, hB⟩ := hB
  obtain ⟨hP, hD, hK⟩ := JOIN (wr := []) hP hD hK [0, 1] [] [] rfl rfl (by decide) (by decide) rfl hk1 hFc ht hvm hB
  have hP : va_P (dC, dI) cls [] H := hP
  have hD : va_D A [] := hD
  have hK : va_K (dC, dI) cls [] s := hK
  refine vx_widen (k := 1) (n := 6) (Nat.le_of_ble_eq_true rfl) (Nat.le_of_ble_eq_true rfl) ?_
  refine vx_catch (own := RL) (name := "java/lang/IndexOutOfBoundsException") hown [] ⟨0, 10, 13, 24⟩ [] (htab.trans rfl) (fun z hz => by cases hz) (by decide) (by decide) (hts _ qw490) (hE.word (List.mem_append_right _ (tbl_9 (i := 38) rfl)) rfl) hce hcv hcl ?_
  refine lv_astore (lv' := [(4, .ref q9), (0, .ref gx), (1, .int p0), (2, .int p1), (3, .ref go)]) hx hb dL_codeRight_13 hl (by decide) rfl (fun ls hl => ?_)
  refine lv_iconst (v := 1) hx hb dL_codeRight_15 (by decide) ?_
  have hP9 : va_P (dC, dI) cls [] H := hP.sub [] rfl
  have hD9 : va_D A [] := hD.sub [] (by decide) rfl
  have hK9 : va_K (dC, dI) cls [] s := hK.sub [] rfl
  exact W.iret (v := 1) hx hb hr (fun t ht hW => ⟨⟨1, (), rfl, rfl, ⟨by rw [ht]; exact hP9, va_K.moved hW.alike hK9, hD9⟩⟩, hS.F ht⟩) hS.2.2 dL_codeRight_16
set_option maxHeartbeats 4000000 in
set_option maxRecDepth 100000 in
theorem kL_slots {zs : Nat × Nat} (l : Launch) (dC : Nat → ClassId) (dI : Nat → Nat → Nat) (gx : Nat) (gq1 : Nat) (gq4 : Nat) (gq13 : Nat) (gq136 : Nat) (gq137 : Nat) (gq138 : Nat) (gq150 : Nat) (gq151 : Nat) (gq152 : Nat) (gq153 : Nat) (gq154 : Nat) (gq155 : Nat) (gq156 : Nat) (gq157 : Nat) (gq158 : Nat) (gq159 : Nat) (gq160 : Nat) (gq161 : Nat) (gq172 : Nat) (gq184 : Nat) (go : Nat) (p0 : Int32) (sz : Nat) (hl9 : l.stackTraces = false)  : Met l yL_slots (wh yL_slots cL_slots 4 (Option.some Jvm.ClassFile.FieldType.int) [(0, 9, 12, 24)]) ({ frames := 8, cells := 1, slots := 6, locals := 142 }) (va_Pc [.ref gx, .int p0, .ref go] (PRE zs dC dI [(gx, .inr (11, [.ref gq1, .ref gq4, .ref gq13, .ref gq136, .ref gq137, .ref gq138, .ref gq172, .ref gq184, .ref gq150, .ref gq161, .int (-1)])), (gq150, .inr (2, [.int 0, .ref gq151, .ref gq152, .ref gq153, .ref gq154, .ref gq155, .ref gq156, .int 0, .ref gq157, .ref gq158, .ref gq159, .int 0, .ref gq160]))] [] sz)) (va_Qi (fun (r : Int32) (_ : Unit) => r = 1) (fun _ t => POST dC dI [] [] (va_A [(gx, .inr (11, [.ref gq1, .ref gq4, .ref gq13, .ref gq136, .ref gq137, .ref gq138, .ref gq172, .ref gq184, .ref gq150, .ref gq161, .int (-1)])), (gq150, .inr (2, [.int 0, .ref gq151, .ref gq152, .ref gq153, .ref gq154, .ref gq155, .ref gq156, .int 0, .ref gq157, .ref gq158, .ref gq159, .int 0, .ref gq160]))] sz) t) (va_A [(gx, .inr (11, [.ref gq1, .ref gq4, .ref gq13, .ref gq136, .ref gq137, .ref gq138, .ref gq172, .ref gq184, .ref gq150, .ref gq161, .int (-1)])), (gq150, .inr (2, [.int 0, .ref gq151, .ref gq152, .ref gq153, .ref gq154, .ref gq155, .ref gq156, .int 0, .ref gq157, .ref gq158, .ref gq159, .int 0, .ref gq160]))] sz)) 1 6 (va_A [(gx, .inr (11, [.ref gq1, .ref gq4, .ref gq13, .ref gq136, .ref gq137, .ref gq138, .ref gq172, .ref gq184, .ref gq150, .ref gq161, .int (-1)])), (gq150, .inr (2, [.int 0, .ref gq151, .ref gq152, .ref gq153, .ref gq154, .ref gq155, .ref gq156, .int 0, .ref gq157, .ref gq158, .ref gq159, .int 0, .ref gq160]))] sz) := by
  refine va_MetW (cc := cL_slots) (maxL := 4) (ret := (Option.some Jvm.ClassFile.FieldType.int)) (hh := [(0, 9, 12, 24)]) (by decide) rfl ?_
  intro p e s m args below meth c s₁ B hml hv
  obtain ⟨rfl, hsz, hP, hK, hD0, hE⟩ := hv
  have hx := B.exec
  have hb := B.bytes
  have hr := B.returns
  have hts0 := atoms_spec (ws := wh yL_slots cL_slots 4 (Option.some Jvm.ClassFile.FieldType.int) [(0, 9, 12, 24)]) B.pre
  have htab := vx_table (x := yL_slots) B (hts0 _ List.mem_cons_self)
  have hts : ∀ w ∈ gw, w.before _ s = true := fun w h => hts0 w (List.mem_cons_of_mem _ h)
  have hown : s.vm.findClass RL = some m.cls := findClass_of_methodNamed B.named
  have hlocks := B.notSynchronized
  subst hsz
  have hD := hD0.self (sz := s.heap.size)
  generalize hAe : va_A [(gx, .inr (11, [.ref gq1, .ref gq4, .ref gq13, .ref gq136, .ref gq137, .ref gq138, .ref gq172, .ref gq184, .ref gq150, .ref gq161, .int (-1)])), (gq150, .inr (2, [.int 0, .ref gq151, .ref gq152, .ref gq153, .ref gq154, .ref gq155, .ref gq156, .int 0, .ref gq157, .ref gq158, .ref gq159, .int 0, .ref gq160]))] s.heap.size = A at hD hE ⊢
  have hA : ∀ q : Nat, s.heap.size ≤ q → A q := fun q h => by rw [← hAe]; exact Or.inr h
  have hS : va_S A s.heap s.heap [] := va_S.rf
  have hP : va_P (dC, dI) cls [(gx, .inr (11, [.ref gq1, .ref gq4, .ref gq13, .ref gq136, .ref gq137, .ref gq138, .ref gq172, .ref gq184, .ref gq150, .ref gq161, .int (-1)])), (gq150, .inr (2, [.int 0, .ref gq151, .ref gq152, .ref gq153, .ref gq154, .ref gq155, .ref gq156, .int 0, .ref gq157, .ref gq158, .ref gq159, .int 0, .ref gq160]))] s.heap := hP
  have hl := lv_entry ([.ref gx, .int p0, .ref go]) (n := 4) (Nat.le_of_ble_eq_true rfl)
  rw [lg_entry_eq]
  generalize (lg_sl ([.ref gx, .int p0, .ref go]) ++ List.replicate (4 - (lg_sl ([.ref gx, .int p0, .ref go])).length) Slot.unset).toArray = ls at hl ⊢
  have hl : lv_has ls 4 [(0, .ref gx), (1, .int p0), (2, .ref go)] := hl
  refine lv_aload_n hx hb dL_slots_0 rfl (lv_at hl 2 rfl) ?_
  refine lv_iconst (v := 0) hx hb dL_slots_1 (by decide) ?_
  refine lv_aload_n hx hb dL_slots_2 rfl (lv_at hl 0 rfl) ?_
  refine lv_iload_n hx hb dL_slots_3 rfl (lv_at hl 1 rfl) ?_
  have hPc := hP.sub (ws' := [(gx, .inr (11, [.ref gq1, .ref gq4, .ref gq13, .ref gq136, .ref gq137, .ref gq138, .ref gq172, .ref gq184, .ref gq150, .ref gq161, .int (-1)])), (gq150, .inr (2, [.int 0, .ref gq151, .ref gq152, .ref gq153, .ref gq154, .ref gq155, .ref gq156, .int 0, .ref gq157, .ref gq158, .ref gq159, .int 0, .ref gq160]))]) [0, 1] rfl
  have hDc := hD.sub (ws' := [(gx, .inr (11, [.ref gq1, .ref gq4, .ref gq13, .ref gq136, .ref gq137, .ref gq138, .ref gq172, .ref gq184, .ref gq150, .ref gq161, .int (-1)])), (gq150, .inr (2, [.int 0, .ref gq151, .ref gq152, .ref gq153, .ref gq154, .ref gq155, .ref gq156, .int 0, .ref gq157, .ref gq158, .ref gq159, .int 0, .ref gq160]))]) [0, 1] (by decide) rfl
  have hKc := hK.sub (tys' := []) [] rfl
  have hFc := va_free (wc := [(gx, .inr (11, [.ref gq1, .ref gq4, .ref gq13, .ref gq136, .ref gq137, .ref gq138, .ref gq172, .ref gq184, .ref gq150, .ref gq161, .int (-1)])), (gq150, .inr (2, [.int 0, .ref gq151, .ref gq152, .ref gq153, .ref gq154, .ref gq155, .ref gq156, .int 0, .ref gq157, .ref gq158, .ref gq159, .int 0, .ref gq160]))]) hD hS hA [0, 1] rfl
  refine vx_calli (vx_runV (As := [.int p0]) (rest := [.int 0, .ref go]) ⟨hx, hb, hml, hown, hts⟩ (kX11_slots l dC dI (gx := gx) (gq1 := gq1) (gq4 := gq4) (gq13 := gq13) (gq136 := gq136) (gq137 := gq137) (gq138 := gq138) (gq150 := gq150) (gq151 := gq151) (gq152 := gq152) (gq153 := gq153) (gq154 := gq154) (gq155 := gq155) (gq156 := gq156) (gq157 := gq157) (gq158 := gq158) (gq159 := gq159) (gq160 := gq160) (gq161 := gq161) (gq172 := gq172) (gq184 := gq184) (p0 := p0) (sz := _) (hl9 := hl9)) (cwV 1 hts (gi_V qw584 qw585 qw586 qw222 (gi_z qw583)) rfl rfl rfl (by decide +kernel) ⟨Nat.le_of_ble_eq_true rfl, Nat.le_of_ble_eq_true rfl⟩) ⟨PRE.blind, va_recv hKc hPc (ci := 11) (q0 := 0) rfl rfl, PRE.of hE hS hFc hPc hKc hDc⟩ rfl rfl hl.1 rfl (lv_room (Nat.le_of_ble_eq_true rfl)) dL_slots_4 ⟨Nat.le_of_ble_eq_true rfl, Nat.le_of_ble_eq_true rfl⟩) hS (fun q _ h => hFc q h) hFc (fun q _ h => hFc q h) (fun E ce q9 u t H locs ht hvm hw hB hz1 hk1 hS hce hcv hcl => ?_) (fun _ u t H locs ht hvm hw hB hz1 hk1 hS => hw.elim)
  obtain ⟨rfl, hB⟩ := hB
  obtain ⟨hP, hD, hK⟩ := JOIN (wr := []) hP hD hK [0, 1] [] [] rfl rfl (by decide) (by decide) rfl hk1 hFc ht hvm hB
  have hP : va_P (dC, dI) cls [] H := hP
  have hD : va_D A [] := hD
  have hK : va_K (dC, dI) cls [] s := hK
  refine vx_widen (k := 1) (n := 6) (Nat.le_of_ble_eq_true rfl) (Nat.le_of_ble_eq_true rfl) ?_
  refine vx_catch (own := RL) (name := "java/lang/IndexOutOfBoundsException") hown [] ⟨0, 9, 12, 24⟩ [] (htab.trans rfl) (fun z hz => by cases hz) (by decide) (by decide) (hts _ qw490) (hE.word (List.mem_append_right _ (tbl_9 (i := 38) rfl)) rfl) hce hcv hcl ?_
  refine lv_astore_n (lv' := [(3, .ref q9), (0, .ref gx), (1, .int p0), (2, .ref go)]) hx hb dL_slots_12 rfl hl (by decide) rfl (fun ls hl => ?_)
  refine lv_iconst (v := 1) hx hb dL_slots_13 (by decide) ?_
  have hP9 : va_P (dC, dI) cls [] H := hP.sub [] rfl
  have hD9 : va_D A [] := hD.sub [] (by decide) rfl
  have hK9 : va_K (dC, dI) cls [] s := hK.sub [] rfl
  exact W.iret (v := 1) hx hb hr (fun t ht hW => ⟨⟨1, (), rfl, rfl, ⟨by rw [ht]; exact hP9, va_K.moved hW.alike hK9, hD9⟩⟩, hS.F ht⟩) hS.2.2 dL_slots_14
set_option maxHeartbeats 4000000 in
set_option maxRecDepth 100000 in
theorem kL_united {zs : Nat × Nat} (l : Launch) (dC : Nat → ClassId) (dI : Nat → Nat → Nat) (gx : Nat) (gq1 : Nat) (gq4 : Nat) (gq13 : Nat) (gq136 : Nat) (gq137 : Nat) (gq138 : Nat) (gq150 : Nat) (gq151 : Nat) (gq152 : Nat) (gq153 : Nat) (gq154 : Nat) (gq155 : Nat) (gq156 : Nat) (gq157 : Nat) (gq158 : Nat) (gq159 : Nat) (gq160 : Nat) (gq161 : Nat) (gq172 : Nat) (gq184 : Nat) (go : Nat) (p0 : Int32) (sz : Nat) (hl9 : l.stackTraces = false)  : Met l yL_united (wh yL_united cL_united 4 (Option.some Jvm.ClassFile.FieldType.int) [(0, 9, 12, 24)]) ({ frames := 8, cells := 1, slots := 6, locals := 142 }) (va_Pc [.ref gx, .int p0, .ref go] (PRE zs dC dI [(gx, .inr (11, [.ref gq1, .ref gq4, .ref gq13, .ref gq136, .ref gq137, .ref gq138, .ref gq172, .ref gq184, .ref gq150, .ref gq161, .int (-1)])), (gq150, .inr (2, [.int 0, .ref gq151, .ref gq152, .ref gq153, .ref gq154, .ref gq155, .ref gq156, .int 0, .ref gq157, .ref gq158, .ref gq159, .int 0, .ref gq160]))] [] sz)) (va_Qi (fun (r : Int32) (_ : Unit) => r = 1) (fun _ t => POST dC dI [] [] (va_A [(gx, .inr (11, [.ref gq1, .ref gq4, .ref gq13, .ref gq136, .ref gq137, .ref gq138, .ref gq172, .ref gq184, .ref gq150, .ref gq161, .int (-1)])), (gq150, .inr (2, [.int 0, .ref gq151, .ref gq152, .ref gq153, .ref gq154, .ref gq155, .ref gq156, .int 0, .ref gq157, .ref gq158, .ref gq159, .int 0, .ref gq160]))] sz) t) (va_A [(gx, .inr (11, [.ref gq1, .ref gq4, .ref gq13, .ref gq136, .ref gq137, .ref gq138, .ref gq172, .ref gq184, .ref gq150, .ref gq161, .int (-1)])), (gq150, .inr (2, [.int 0, .ref gq151, .ref gq152, .ref gq153, .ref gq154, .ref gq155, .ref gq156, .int 0, .ref gq157, .ref gq158, .ref gq159, .int 0, .ref gq160]))] sz)) 1 6 (va_A [(gx, .inr (11, [.ref gq1, .ref gq4, .ref gq13, .ref gq136, .ref gq137, .ref gq138, .ref gq172, .ref gq184, .ref gq150, .ref gq161, .int (-1)])), (gq150, .inr (2, [.int 0, .ref gq151, .ref gq152, .ref gq153, .ref gq154, .ref gq155, .ref gq156, .int 0, .ref gq157, .ref gq158, .ref gq159, .int 0, .ref gq160]))] sz) := by
  refine va_MetW (cc := cL_united) (maxL := 4) (ret := (Option.some Jvm.ClassFile.FieldType.int)) (hh := [(0, 9, 12, 24)]) (by decide) rfl ?_
  intro p e s m args below meth c s₁ B hml hv
  obtain ⟨rfl, hsz, hP, hK, hD0, hE⟩ := hv
  have hx := B.exec
  have hb := B.bytes
  have hr := B.returns
  have hts0 := atoms_spec (ws := wh yL_united cL_united 4 (Option.some Jvm.ClassFile.FieldType.int) [(0, 9, 12, 24)]) B.pre
  have htab := vx_table (x := yL_united) B (hts0 _ List.mem_cons_self)
  have hts : ∀ w ∈ gw, w.before _ s = true := fun w h => hts0 w (List.mem_cons_of_mem _ h)
  have hown : s.vm.findClass RL = some m.cls := findClass_of_methodNamed B.named
  have hlocks := B.notSynchronized
  subst hsz
  have hD := hD0.self (sz := s.heap.size)
  generalize hAe : va_A [(gx, .inr (11, [.ref gq1, .ref gq4, .ref gq13, .ref gq136, .ref gq137, .ref gq138, .ref gq172, .ref gq184, .ref gq150, .ref gq161, .int (-1)])), (gq150, .inr (2, [.int 0, .ref gq151, .ref gq152, .ref gq153, .ref gq154, .ref gq155, .ref gq156, .int 0, .ref gq157, .ref gq158, .ref gq159, .int 0, .ref gq160]))] s.heap.size = A at hD hE ⊢
  have hA : ∀ q : Nat, s.heap.size ≤ q → A q := fun q h => by rw [← hAe]; exact Or.inr h
  have hS : va_S A s.heap s.heap [] := va_S.rf
  have hP : va_P (dC, dI) cls [(gx, .inr (11, [.ref gq1, .ref gq4, .ref gq13, .ref gq136, .ref gq137, .ref gq138, .ref gq172, .ref gq184, .ref gq150, .ref gq161, .int (-1)])), (gq150, .inr (2, [.int 0, .ref gq151, .ref gq152, .ref gq153, .ref gq154, .ref gq155, .ref gq156, .int 0, .ref gq157, .ref gq158, .ref gq159, .int 0, .ref gq160]))] s.heap := hP
  have hl := lv_entry ([.ref gx, .int p0, .ref go]) (n := 4) (Nat.le_of_ble_eq_true rfl)
  rw [lg_entry_eq]
  generalize (lg_sl ([.ref gx, .int p0, .ref go]) ++ List.replicate (4 - (lg_sl ([.ref gx, .int p0, .ref go])).length) Slot.unset).toArray = ls at hl ⊢
  have hl : lv_has ls 4 [(0, .ref gx), (1, .int p0), (2, .ref go)] := hl
  refine lv_aload_n hx hb dL_united_0 rfl (lv_at hl 2 rfl) ?_
  refine lv_iconst (v := 0) hx hb dL_united_1 (by decide) ?_
  refine lv_aload_n hx hb dL_united_2 rfl (lv_at hl 0 rfl) ?_
  refine lv_iload_n hx hb dL_united_3 rfl (lv_at hl 1 rfl) ?_
  have hPc := hP.sub (ws' := [(gx, .inr (11, [.ref gq1, .ref gq4, .ref gq13, .ref gq136, .ref gq137, .ref gq138, .ref gq172, .ref gq184, .ref gq150, .ref gq161, .int (-1)])), (gq150, .inr (2, [.int 0, .ref gq151, .ref gq152, .ref gq153, .ref gq154, .ref gq155, .ref gq156, .int 0, .ref gq157, .ref gq158, .ref gq159, .int 0, .ref gq160]))]) [0, 1] rfl
  have hDc := hD.sub (ws' := [(gx, .inr (11, [.ref gq1, .ref gq4, .ref gq13, .ref gq136, .ref gq137, .ref gq138, .ref gq172, .ref gq184, .ref gq150, .ref gq161, .int (-1)])), (gq150, .inr (2, [.int 0, .ref gq151, .ref gq152, .ref gq153, .ref gq154, .ref gq155, .ref gq156, .int 0, .ref gq157, .ref gq158, .ref gq159, .int 0, .ref gq160]))]) [0, 1] (by decide) rfl
  have hKc := hK.sub (tys' := []) [] rfl
  have hFc := va_free (wc := [(gx, .inr (11, [.ref gq1, .ref gq4, .ref gq13, .ref gq136, .ref gq137, .ref gq138, .ref gq172, .ref gq184, .ref gq150, .ref gq161, .int (-1)])), (gq150, .inr (2, [.int 0, .ref gq151, .ref gq152, .ref gq153, .ref gq154, .ref gq155, .ref gq156, .int 0, .ref gq157, .ref gq158, .ref gq159, .int 0, .ref gq160]))]) hD hS hA [0, 1] rfl
  refine vx_calli (vx_runV (As := [.int p0]) (rest := [.int 0, .ref go]) ⟨hx, hb, hml, hown, hts⟩ (kX11_united l dC dI (gx := gx) (gq1 := gq1) (gq4 := gq4) (gq13 := gq13) (gq136 := gq136) (gq137 := gq137) (gq138 := gq138) (gq150 := gq150) (gq151 := gq151) (gq152 := gq152) (gq153 := gq153) (gq154 := gq154) (gq155 := gq155) (gq156 := gq156) (gq157 := gq157) (gq158 := gq158) (gq159 := gq159) (gq160 := gq160) (gq161 := gq161) (gq172 := gq172) (gq184 := gq184) (p0 := p0) (sz := _) (hl9 := hl9)) (cwV 1 hts (gi_V qw588 qw589 qw590 qw222 (gi_z qw587)) rfl rfl rfl (by decide +kernel) ⟨Nat.le_of_ble_eq_true rfl, Nat.le_of_ble_eq_true rfl⟩) ⟨PRE.blind, va_recv hKc hPc (ci := 11) (q0 := 0) rfl rfl, PRE.of hE hS hFc hPc hKc hDc⟩ rfl rfl hl.1 rfl (lv_room (Nat.le_of_ble_eq_true rfl)) dL_united_4 ⟨Nat.le_of_ble_eq_true rfl, Nat.le_of_ble_eq_true rfl⟩) hS (fun q _ h => hFc q h) hFc (fun q _ h => hFc q h) (fun E ce q9 u t H locs ht hvm hw hB hz1 hk1 hS hce hcv hcl => ?_) (fun _ u t H locs ht hvm hw hB hz1 hk1 hS => hw.elim)
  obtain ⟨rfl, hB⟩ := hB
  obtain ⟨hP, hD, hK⟩ := JOIN (wr := []) hP hD hK [0, 1] [] [] rfl rfl (by decide) (by decide) rfl hk1 hFc ht hvm hB
  have hP : va_P (dC, dI) cls [] H := hP
  have hD : va_D A [] := hD
  have hK : va_K (dC, dI) cls [] s := hK
  refine vx_widen (k := 1) (n := 6) (Nat.le_of_ble_eq_true rfl) (Nat.le_of_ble_eq_true rfl) ?_
  refine vx_catch (own := RL) (name := "java/lang/IndexOutOfBoundsException") hown [] ⟨0, 9, 12, 24⟩ [] (htab.trans rfl) (fun z hz => by cases hz) (by decide) (by decide) (hts _ qw490) (hE.word (List.mem_append_right _ (tbl_9 (i := 38) rfl)) rfl) hce hcv hcl ?_
  refine lv_astore_n (lv' := [(3, .ref q9), (0, .ref gx), (1, .int p0), (2, .ref go)]) hx hb dL_united_12 rfl hl (by decide) rfl (fun ls hl => ?_)
  refine lv_iconst (v := 1) hx hb dL_united_13 (by decide) ?_
  have hP9 : va_P (dC, dI) cls [] H := hP.sub [] rfl
  have hD9 : va_D A [] := hD.sub [] (by decide) rfl
  have hK9 : va_K (dC, dI) cls [] s := hK.sub [] rfl
  exact W.iret (v := 1) hx hb hr (fun t ht hW => ⟨⟨1, (), rfl, rfl, ⟨by rw [ht]; exact hP9, va_K.moved hW.alike hK9, hD9⟩⟩, hS.F ht⟩) hS.2.2 dL_united_14
set_option maxHeartbeats 4000000 in
set_option maxRecDepth 100000 in
theorem kL_rounds {zs : Nat × Nat} (l : Launch) (dC : Nat → ClassId) (dI : Nat → Nat → Nat) (gx : Nat) (gq1 : Nat) (gq4 : Nat) (gq13 : Nat) (gq136 : Nat) (gq137 : Nat) (gq138 : Nat) (gq150 : Nat) (gq151 : Nat) (gq152 : Nat) (gq153 : Nat) (gq154 : Nat) (gq155 : Nat) (gq156 : Nat) (gq157 : Nat) (gq158 : Nat) (gq159 : Nat) (gq160 : Nat) (gq161 : Nat) (gq172 : Nat) (gq184 : Nat) (go : Nat) (p0 : Int32) (sz : Nat) (hl9 : l.stackTraces = false)  : Met l yL_rounds (wh yL_rounds cL_rounds 4 (Option.some Jvm.ClassFile.FieldType.int) [(0, 9, 12, 24)]) ({ frames := 8, cells := 1, slots := 6, locals := 142 }) (va_Pc [.ref gx, .int p0, .ref go] (PRE zs dC dI [(gx, .inr (11, [.ref gq1, .ref gq4, .ref gq13, .ref gq136, .ref gq137, .ref gq138, .ref gq172, .ref gq184, .ref gq150, .ref gq161, .int (-1)])), (gq150, .inr (2, [.int 0, .ref gq151, .ref gq152, .ref gq153, .ref gq154, .ref gq155, .ref gq156, .int 0, .ref gq157, .ref gq158, .ref gq159, .int 0, .ref gq160]))] [] sz)) (va_Qi (fun (r : Int32) (_ : Unit) => r = 1) (fun _ t => POST dC dI [] [] (va_A [(gx, .inr (11, [.ref gq1, .ref gq4, .ref gq13, .ref gq136, .ref gq137, .ref gq138, .ref gq172, .ref gq184, .ref gq150, .ref gq161, .int (-1)])), (gq150, .inr (2, [.int 0, .ref gq151, .ref gq152, .ref gq153, .ref gq154, .ref gq155, .ref gq156, .int 0, .ref gq157, .ref gq158, .ref gq159, .int 0, .ref gq160]))] sz) t) (va_A [(gx, .inr (11, [.ref gq1, .ref gq4, .ref gq13, .ref gq136, .ref gq137, .ref gq138, .ref gq172, .ref gq184, .ref gq150, .ref gq161, .int (-1)])), (gq150, .inr (2, [.int 0, .ref gq151, .ref gq152, .ref gq153, .ref gq154, .ref gq155, .ref gq156, .int 0, .ref gq157, .ref gq158, .ref gq159, .int 0, .ref gq160]))] sz)) 1 6 (va_A [(gx, .inr (11, [.ref gq1, .ref gq4, .ref gq13, .ref gq136, .ref gq137, .ref gq138, .ref gq172, .ref gq184, .ref gq150, .ref gq161, .int (-1)])), (gq150, .inr (2, [.int 0, .ref gq151, .ref gq152, .ref gq153, .ref gq154, .ref gq155, .ref gq156, .int 0, .ref gq157, .ref gq158, .ref gq159, .int 0, .ref gq160]))] sz) := by
  refine va_MetW (cc := cL_rounds) (maxL := 4) (ret := (Option.some Jvm.ClassFile.FieldType.int)) (hh := [(0, 9, 12, 24)]) (by decide) rfl ?_
  intro p e s m args below meth c s₁ B hml hv
  obtain ⟨rfl, hsz, hP, hK, hD0, hE⟩ := hv
  have hx := B.exec
  have hb := B.bytes
  have hr := B.returns
  have hts0 := atoms_spec (ws := wh yL_rounds cL_rounds 4 (Option.some Jvm.ClassFile.FieldType.int) [(0, 9, 12, 24)]) B.pre
  have htab := vx_table (x := yL_rounds) B (hts0 _ List.mem_cons_self)
  have hts : ∀ w ∈ gw, w.before _ s = true := fun w h => hts0 w (List.mem_cons_of_mem _ h)
  have hown : s.vm.findClass RL = some m.cls := findClass_of_methodNamed B.named
  have hlocks := B.notSynchronized
  subst hsz
  have hD := hD0.self (sz := s.heap.size)
  generalize hAe : va_A [(gx, .inr (11, [.ref gq1, .ref gq4, .ref gq13, .ref gq136, .ref gq137, .ref gq138, .ref gq172, .ref gq184, .ref gq150, .ref gq161, .int (-1)])), (gq150, .inr (2, [.int 0, .ref gq151, .ref gq152, .ref gq153, .ref gq154, .ref gq155, .ref gq156, .int 0, .ref gq157, .ref gq158, .ref gq159, .int 0, .ref gq160]))] s.heap.size = A at hD hE ⊢
  have hA : ∀ q : Nat, s.heap.size ≤ q → A q := fun q h => by rw [← hAe]; exact Or.inr h
  have hS : va_S A s.heap s.heap [] := va_S.rf
  have hP : va_P (dC, dI) cls [(gx, .inr (11, [.ref gq1, .ref gq4, .ref gq13, .ref gq136, .ref gq137, .ref gq138, .ref gq172, .ref gq184, .ref gq150, .ref gq161, .int (-1)])), (gq150, .inr (2, [.int 0, .ref gq151, .ref gq152, .ref gq153, .ref gq154, .ref gq155, .ref gq156, .int 0, .ref gq157, .ref gq158, .ref gq159, .int 0, .ref gq160]))] s.heap := hP
  have hl := lv_entry ([.ref gx, .int p0, .ref go]) (n := 4) (Nat.le_of_ble_eq_true rfl)
  rw [lg_entry_eq]
  generalize (lg_sl ([.ref gx, .int p0, .ref go]) ++ List.replicate (4 - (lg_sl ([.ref gx, .int p0, .ref go])).length) Slot.unset).toArray = ls at hl ⊢
  have hl : lv_has ls 4 [(0, .ref gx), (1, .int p0), (2, .ref go)] := hl
  refine lv_aload_n hx hb dL_rounds_0 rfl (lv_at hl 2 rfl) ?_
  refine lv_iconst (v := 0) hx hb dL_rounds_1 (by decide) ?_
  refine lv_aload_n hx hb dL_rounds_2 rfl (lv_at hl 0 rfl) ?_
  refine lv_iload_n hx hb dL_rounds_3 rfl (lv_at hl 1 rfl) ?_
  have hPc := hP.sub (ws' := [(gx, .inr (11, [.ref gq1, .ref gq4, .ref gq13, .ref gq136, .ref gq137, .ref gq138, .ref gq172, .ref gq184, .ref gq150, .ref gq161, .int (-1)])), (gq150, .inr (2, [.int 0, .ref gq151, .ref gq152, .ref gq153, .ref gq154, .ref gq155, .ref gq156, .int 0, .ref gq157, .ref gq158, .ref gq159, .int 0, .ref gq160]))]) [0, 1] rfl
  have hDc := hD.sub (ws' := [(gx, .inr (11, [.ref gq1, .ref gq4, .ref gq13, .ref gq136, .ref gq137, .ref gq138, .ref gq172, .ref gq184, .ref gq150, .ref gq161, .int (-1)])), (gq150, .inr (2, [.int 0, .ref gq151, .ref gq152, .ref gq153, .ref gq154, .ref gq155, .ref gq156, .int 0, .ref gq157, .ref gq158, .ref gq159, .int 0, .ref gq160]))]) [0, 1] (by decide) rfl
  have hKc := hK.sub (tys' := []) [] rfl
  have hFc := va_free (wc := [(gx, .inr (11, [.ref gq1, .ref gq4, .ref gq13, .ref gq136, .ref gq137, .ref gq138, .ref gq172, .ref gq184, .ref gq150, .ref gq161, .int (-1)])), (gq150, .inr (2, [.int 0, .ref gq151, .ref gq152, .ref gq153, .ref gq154, .ref gq155, .ref gq156, .int 0, .ref gq157, .ref gq158, .ref gq159, .int 0, .ref gq160]))]) hD hS hA [0, 1] rfl
  refine vx_calli (vx_runV (As := [.int p0]) (rest := [.int 0, .ref go]) ⟨hx, hb, hml, hown, hts⟩ (kX11_rounds l dC dI (gx := gx) (gq1 := gq1) (gq4 := gq4) (gq13 := gq13) (gq136 := gq136) (gq137 := gq137) (gq138 := gq138) (gq150 := gq150) (gq151 := gq151) (gq152 := gq152) (gq153 := gq153) (gq154 := gq154) (gq155 := gq155) (gq156 := gq156) (gq157 := gq157) (gq158 := gq158) (gq159 := gq159) (gq160 := gq160) (gq161 := gq161) (gq172 := gq172) (gq184 := gq184) (p0 := p0) (sz := _) (hl9 := hl9)) (cwV 1 hts (gi_V qw592 qw593 qw594 qw222 (gi_z qw591)) rfl rfl rfl (by decide +kernel) ⟨Nat.le_of_ble_eq_true rfl, Nat.le_of_ble_eq_true rfl⟩) ⟨PRE.blind, va_recv hKc hPc (ci := 11) (q0 := 0) rfl rfl, PRE.of hE hS hFc hPc hKc hDc⟩ rfl rfl hl.1 rfl (lv_room (Nat.le_of_ble_eq_true rfl)) dL_rounds_4 ⟨Nat.le_of_ble_eq_true rfl, Nat.le_of_ble_eq_true rfl⟩) hS (fun q _ h => hFc q h) hFc (fun q _ h => hFc q h) (fun E ce q9 u t H locs ht hvm hw hB hz1 hk1 hS hce hcv hcl => ?_) (fun _ u t H locs ht hvm hw hB hz1 hk1 hS => hw.elim)
  obtain ⟨rfl, hB⟩ := hB
  obtain ⟨hP, hD, hK⟩ := JOIN (wr := []) hP hD hK [0, 1] [] [] rfl rfl (by decide) (by decide) rfl hk1 hFc ht hvm hB
  have hP : va_P (dC, dI) cls [] H := hP
  have hD : va_D A [] := hD
  have hK : va_K (dC, dI) cls [] s := hK
  refine vx_widen (k := 1) (n := 6) (Nat.le_of_ble_eq_true rfl) (Nat.le_of_ble_eq_true rfl) ?_
  refine vx_catch (own := RL) (name := "java/lang/IndexOutOfBoundsException") hown [] ⟨0, 9, 12, 24⟩ [] (htab.trans rfl) (fun z hz => by cases hz) (by decide) (by decide) (hts _ qw490) (hE.word (List.mem_append_right _ (tbl_9 (i := 38) rfl)) rfl) hce hcv hcl ?_
  refine lv_astore_n (lv' := [(3, .ref q9), (0, .ref gx), (1, .int p0), (2, .ref go)]) hx hb dL_rounds_12 rfl hl (by decide) rfl (fun ls hl => ?_)
  refine lv_iconst (v := 1) hx hb dL_rounds_13 (by decide) ?_
  have hP9 : va_P (dC, dI) cls [] H := hP.sub [] rfl
  have hD9 : va_D A [] := hD.sub [] (by decide) rfl
  have hK9 : va_K (dC, dI) cls [] s := hK.sub [] rfl
  exact W.iret (v := 1) hx hb hr (fun t ht hW => ⟨⟨1, (), rfl, rfl, ⟨by rw [ht]; exact hP9, va_K.moved hW.alike hK9, hD9⟩⟩, hS.F ht⟩) hS.2.2 dL_rounds_14
set_option maxHeartbeats 4000000 in
set_option maxRecDepth 100000 in
theorem kL_run {zs : Nat × Nat} (l : Launch) (dC : Nat → ClassId) (dI : Nat → Nat → Nat) (gx : Nat) (gq1 : Nat) (gq4 : Nat) (gq13 : Nat) (gq136 : Nat) (gq137 : Nat) (gq138 : Nat) (gq150 : Nat) (gq151 : Nat) (gq152 : Nat) (gq153 : Nat) (gq154 : Nat) (gq155 : Nat) (gq156 : Nat) (gq157 : Nat) (gq158 : Nat) (gq159 : Nat) (gq160 : Nat) (gq161 : Nat) (gq172 : Nat) (gq184 : Nat) (go : Nat) (p0 : Int32) (p1 : Int32) (p2 : Int32) (p3 : Int32) (p4 : Int32) (p5 : Int32) (sz : Nat) (hl9 : l.stackTraces = false)  : Met l yL_run (wh yL_run cL_run 9 (Option.some Jvm.ClassFile.FieldType.int) [(0, 18, 21, 24), (0, 18, 25, 19), (0, 18, 29, 13)]) ({ frames := 8, cells := 1, slots := 6, locals := 147 }) (va_Pc [.ref gx, .int p0, .int p1, .int p2, .int p3, .int p4, .int p5, .ref go] (PRE zs dC dI [(gx, .inr (11, [.ref gq1, .ref gq4, .ref gq13, .ref gq136, .ref gq137, .ref gq138, .ref gq172, .ref gq184, .ref gq150, .ref gq161, .int (-1)])), (gq150, .inr (2, [.int 0, .ref gq151, .ref gq152, .ref gq153, .ref gq154, .ref gq155, .ref gq156, .int 0, .ref gq157, .ref gq158, .ref gq159, .int 0, .ref gq160]))] [] sz)) (va_Qi (fun (r : Int32) (_ : Unit) => r = 1) (fun _ t => POST dC dI [] [] (va_A [(gx, .inr (11, [.ref gq1, .ref gq4, .ref gq13, .ref gq136, .ref gq137, .ref gq138, .ref gq172, .ref gq184, .ref gq150, .ref gq161, .int (-1)])), (gq150, .inr (2, [.int 0, .ref gq151, .ref gq152, .ref gq153, .ref gq154, .ref gq155, .ref gq156, .int 0, .ref gq157, .ref gq158, .ref gq159, .int 0, .ref gq160]))] sz) t) (va_A [(gx, .inr (11, [.ref gq1, .ref gq4, .ref gq13, .ref gq136, .ref gq137, .ref gq138, .ref gq172, .ref gq184, .ref gq150, .ref gq161, .int (-1)])), (gq150, .inr (2, [.int 0, .ref gq151, .ref gq152, .ref gq153, .ref gq154, .ref gq155, .ref gq156, .int 0, .ref gq157, .ref gq158, .ref gq159, .int 0, .ref gq160]))] sz)) 1 6 (va_A [(gx, .inr (11, [.ref gq1, .ref gq4, .ref gq13, .ref gq136, .ref gq137, .ref gq138, .ref gq172, .ref gq184, .ref gq150, .ref gq161, .int (-1)])), (gq150, .inr (2, [.int 0, .ref gq151, .ref gq152, .ref gq153, .ref gq154, .ref gq155, .ref gq156, .int 0, .ref gq157, .ref gq158, .ref gq159, .int 0, .ref gq160]))] sz) := by
  refine va_MetW (cc := cL_run) (maxL := 9) (ret := (Option.some Jvm.ClassFile.FieldType.int)) (hh := [(0, 18, 21, 24), (0, 18, 25, 19), (0, 18, 29, 13)]) (by decide) rfl ?_
  intro p e s m args below meth c s₁ B hml hv
  obtain ⟨rfl, hsz, hP, hK, hD0, hE⟩ := hv
  have hx := B.exec
  have hb := B.bytes
  have hr := B.returns
  have hts0 := atoms_spec (ws := wh yL_run cL_run 9 (Option.some Jvm.ClassFile.FieldType.int) [(0, 18, 21, 24), (0, 18, 25, 19), (0, 18, 29, 13)]) B.pre
  have htab := vx_table (x := yL_run) B (hts0 _ List.mem_cons_self)
  have hts : ∀ w ∈ gw, w.before _ s = true := fun w h => hts0 w (List.mem_cons_of_mem _ h)
  have hown : s.vm.findClass RL = some m.cls := findClass_of_methodNamed B.named
  have hlocks := B.notSynchronized
  subst hsz
  have hD := hD0.self (sz := s.heap.size)
  generalize hAe : va_A [(gx, .inr (11, [.ref gq1, .ref gq4, .ref gq13, .ref gq136, .ref gq137, .ref gq138, .ref gq172, .ref gq184, .ref gq150, .ref gq161, .int (-1)])), (gq150, .inr (2, [.int 0, .ref gq151, .ref gq152, .ref gq153, .ref gq154, .ref gq155, .ref gq156, .int 0, .ref gq157, .ref gq158, .ref gq159, .int 0, .ref gq160]))] s.heap.size = A at hD hE ⊢
  have hA : ∀ q : Nat, s.heap.size ≤ q → A q := fun q h => by rw [← hAe]; exact Or.inr h
  have hS : va_S A s.heap s.heap [] := va_S.rf
  have hP : va_P (dC, dI) cls [(gx, .inr (11, [.ref gq1, .ref gq4, .ref gq13, .ref gq136, .ref gq137, .ref gq138, .ref gq172, .ref gq184, .ref gq150, .ref gq161, .int (-1)])), (gq150, .inr (2, [.int 0, .ref gq151, .ref gq152, .ref gq153, .ref gq154, .ref gq155, .ref gq156, .int 0, .ref gq157, .ref gq158, .ref gq159, .int 0, .ref gq160]))] s.heap := hP
  have hl := lv_entry ([.ref gx, .int p0, .int p1, .int p2, .int p3, .int p4, .int p5, .ref go]) (n := 9) (Nat.le_of_ble_eq_true rfl)
  rw [lg_entry_eq]
  generalize (lg_sl ([.ref gx, .int p0, .int p1, .int p2, .int p3, .int p4, .int p5, .ref go]) ++ List.replicate (9 - (lg_sl ([.ref gx, .int p0, .int p1, .int p2, .int p3, .int p4, .int p5, .ref go])).length) Slot.unset).toArray = ls at hl ⊢
  have hl : lv_has ls 9 [(0, .ref gx), (1, .int p0), (2, .int p1), (3, .int p2), (4, .int p3), (5, .int p4), (6, .int p5), (7, .ref go)] := hl
  refine lv_aload hx hb dL_run_0 (lv_at hl 7 rfl) ?_
  refine lv_iconst (v := 0) hx hb dL_run_2 (by decide) ?_
  refine lv_aload_n hx hb dL_run_3 rfl (lv_at hl 0 rfl) ?_
  refine lv_iload_n hx hb dL_run_4 rfl (lv_at hl 1 rfl) ?_
  refine lv_iload_n hx hb dL_run_5 rfl (lv_at hl 2 rfl) ?_
  refine lv_iload_n hx hb dL_run_6 rfl (lv_at hl 3 rfl) ?_
  refine lv_iload hx hb dL_run_7 (lv_at hl 4 rfl) ?_
  refine lv_iload hx hb dL_run_9 (lv_at hl 5 rfl) ?_
  refine lv_iload hx hb dL_run_11 (lv_at hl 6 rfl) ?_
  have hPc := hP.sub (ws' := [(gx, .inr (11, [.ref gq1, .ref gq4, .ref gq13, .ref gq136, .ref gq137, .ref gq138, .ref gq172, .ref gq184, .ref gq150, .ref gq161, .int (-1)])), (gq150, .inr (2, [.int 0, .ref gq151, .ref gq152, .ref gq153, .ref gq154, .ref gq155, .ref gq156, .int 0, .ref gq157, .ref gq158, .ref gq159, .int 0, .ref gq160]))]) [0, 1] rfl
  have hDc := hD.sub (ws' := [(gx, .inr (11, [.ref gq1, .ref gq4, .ref gq13, .ref gq136, .ref gq137, .ref gq138, .ref gq172, .ref gq184, .ref gq150, .ref gq161, .int (-1)])), (gq150, .inr (2, [.int 0, .ref gq151, .ref gq152, .ref gq153, .ref gq154, .ref gq155, .ref gq156, .int 0, .ref gq157, .ref gq158, .ref gq159, .int 0, .ref gq160]))]) [0, 1] (by decide) rfl
  have hKc := hK.sub (tys' := []) [] rfl
  have hFc := va_free (wc := [(gx, .inr (11, [.ref gq1, .ref gq4, .ref gq13, .ref gq136, .ref gq137, .ref gq138, .ref gq172, .ref gq184, .ref gq150, .ref gq161, .int (-1)])), (gq150, .inr (2, [.int 0, .ref gq151, .ref gq152, .ref gq153, .ref gq154, .ref gq155, .ref gq156, .int 0, .ref gq157, .ref gq158, .ref gq159, .int 0, .ref gq160]))]) hD hS hA [0, 1] rfl
  refine vx_calli (vx_runV (As := [.int p0, .int p1, .int p2, .int p3, .int p4, .int p5]) (rest := [.int 0, .ref go]) ⟨hx, hb, hml, hown, hts⟩ (kX11_run l dC dI (gx := gx) (gq1 := gq1) (gq4 := gq4) (gq13 := gq13) (gq136 := gq136) (gq137 := gq137) (gq138 := gq138) (gq150 := gq150) (gq151 := gq151) (gq152 := gq152) (gq153 := gq153) (gq154 := gq154) (gq155 := gq155) (gq156 := gq156) (gq157 := gq157) (gq158 := gq158) (gq159 := gq159) (gq160 := gq160) (gq161 := gq161) (gq172 := gq172) (gq184 := gq184) (p0 := p0) (p1 := p1) (p2 := p2) (p3 := p3) (p4 := p4) (p5 := p5) (sz := _) (hl9 := hl9)) (cwV 6 hts (gi_V qw596 qw597 qw598 qw222 (gi_z qw595)) rfl rfl rfl (by decide +kernel) ⟨Nat.le_of_ble_eq_true rfl, Nat.le_of_ble_eq_true rfl⟩) ⟨PRE.blind, va_recv hKc hPc (ci := 11) (q0 := 0) rfl rfl, PRE.of hE hS hFc hPc hKc hDc⟩ rfl rfl hl.1 rfl (lv_room (Nat.le_of_ble_eq_true rfl)) dL_run_13 ⟨Nat.le_of_ble_eq_true rfl, Nat.le_of_ble_eq_true rfl⟩) hS (fun q _ h => hFc q h) hFc (fun q _ h => hFc q h) (fun E ce q9 u t H locs ht hvm hw hB hz1 hk1 hS hce hcv hcl => ?_) (fun _ u t H locs ht hvm hw hB hz1 hk1 hS => hw.elim)
  obtain ⟨rfl, hB⟩ := hB
  obtain ⟨hP, hD, hK⟩ := JOIN (wr := []) hP hD hK [0, 1] [] [] rfl rfl (by decide) (by decide) rfl hk1 hFc ht hvm hB
  have hP : va_P (dC, dI) cls [] H := hP
  have hD : va_D A [] := hD
  have hK : va_K (dC, dI) cls [] s := hK
  refine vx_widen (k := 1) (n := 6) (Nat.le_of_ble_eq_true rfl) (Nat.le_of_ble_eq_true rfl) ?_
  refine vx_catch (own := RL) (name := "java/lang/IndexOutOfBoundsException") hown [] ⟨0, 18, 21, 24⟩ [⟨0, 18, 25, 19⟩, ⟨0, 18, 29, 13⟩] (htab.trans rfl) (fun z hz => by cases hz) (by decide) (by decide) (hts _ qw490) (hE.word (List.mem_append_right _ (tbl_9 (i := 38) rfl)) rfl) hce hcv hcl ?_
  refine lv_astore (lv' := [(8, .ref q9), (0, .ref gx), (1, .int p0), (2, .int p1), (3, .int p2), (4, .int p3), (5, .int p4), (6, .int p5), (7, .ref go)]) hx hb dL_run_21 hl (by decide) rfl (fun ls hl => ?_)
  refine lv_iconst (v := 1) hx hb dL_run_23 (by decide) ?_
  have hP9 : va_P (dC, dI) cls [] H := hP.sub [] rfl
  have hD9 : va_D A [] := hD.sub [] (by decide) rfl
  have hK9 : va_K (dC, dI) cls [] s := hK.sub [] rfl
  exact W.iret (v := 1) hx hb hr (fun t ht hW => ⟨⟨1, (), rfl, rfl, ⟨by rw [ht]; exact hP9, va_K.moved hW.alike hK9, hD9⟩⟩, hS.F ht⟩) hS.2.2 dL_run_24
set_option maxHeartbeats 4000000 in
set_option maxRecDepth 100000 in
theorem kL_differences {zs : Nat × Nat} (l : Launch) (dC : Nat → ClassId) (dI : Nat → Nat → Nat) (gx : Nat) (gq1 : Nat) (gq4 : Nat) (gq13 : Nat) (gq136 : Nat) (gq137 : Nat) (gq138 : Nat) (gq150 : Nat) (gq151 : Nat) (gq152 : Nat) (gq153 : Nat) (gq154 : Nat) (gq155 : Nat) (gq156 : Nat) (gq157 : Nat) (gq158 : Nat) (gq159 : Nat) (gq160 : Nat) (gq161 : Nat) (gq172 : Nat) (gq184 : Nat) (go : Nat) (p0 : Int32) (p1 : Int32) (p2 : Int32) (sz : Nat) (hl9 : l.stackTraces = false)  : Met l yL_differences (wh yL_differences cL_differences 6 (Option.some Jvm.ClassFile.FieldType.int) [(0, 12, 15, 24), (0, 12, 19, 19)]) ({ frames := 8, cells := 1, slots := 6, locals := 148 }) (va_Pc [.ref gx, .int p0, .int p1, .int p2, .ref go] (PRE zs dC dI [(gx, .inr (11, [.ref gq1, .ref gq4, .ref gq13, .ref gq136, .ref gq137, .ref gq138, .ref gq172, .ref gq184, .ref gq150, .ref gq161, .int (-1)])), (gq150, .inr (2, [.int 0, .ref gq151, .ref gq152, .ref gq153, .ref gq154, .ref gq155, .ref gq156, .int 0, .ref gq157, .ref gq158, .ref gq159, .int 0, .ref gq160]))] [] sz)) (va_Qi (fun (r : Int32) (_ : Unit) => r = 1) (fun _ t => POST dC dI [] [] (va_A [(gx, .inr (11, [.ref gq1, .ref gq4, .ref gq13, .ref gq136, .ref gq137, .ref gq138, .ref gq172, .ref gq184, .ref gq150, .ref gq161, .int (-1)])), (gq150, .inr (2, [.int 0, .ref gq151, .ref gq152, .ref gq153, .ref gq154, .ref gq155, .ref gq156, .int 0, .ref gq157, .ref gq158, .ref gq159, .int 0, .ref gq160]))] sz) t) (va_A [(gx, .inr (11, [.ref gq1, .ref gq4, .ref gq13, .ref gq136, .ref gq137, .ref gq138, .ref gq172, .ref gq184, .ref gq150, .ref gq161, .int (-1)])), (gq150, .inr (2, [.int 0, .ref gq151, .ref gq152, .ref gq153, .ref gq154, .ref gq155, .ref gq156, .int 0, .ref gq157, .ref gq158, .ref gq159, .int 0, .ref gq160]))] sz)) 1 6 (va_A [(gx, .inr (11, [.ref gq1, .ref gq4, .ref gq13, .ref gq136, .ref gq137, .ref gq138, .ref gq172, .ref gq184, .ref gq150, .ref gq161, .int (-1)])), (gq150, .inr (2, [.int 0, .ref gq151, .ref gq152, .ref gq153, .ref gq154, .ref gq155, .ref gq156, .int 0, .ref gq157, .ref gq158, .ref gq159, .int 0, .ref gq160]))] sz) := by
  refine va_MetW (cc := cL_differences) (maxL := 6) (ret := (Option.some Jvm.ClassFile.FieldType.int)) (hh := [(0, 12, 15, 24), (0, 12, 19, 19)]) (by decide) rfl ?_
  intro p e s m args below meth c s₁ B hml hv
  obtain ⟨rfl, hsz, hP, hK, hD0, hE⟩ := hv
  have hx := B.exec
  have hb := B.bytes
  have hr := B.returns
  have hts0 := atoms_spec (ws := wh yL_differences cL_differences 6 (Option.some Jvm.ClassFile.FieldType.int) [(0, 12, 15, 24), (0, 12, 19, 19)]) B.pre
  have htab := vx_table (x := yL_differences) B (hts0 _ List.mem_cons_self)
  have hts : ∀ w ∈ gw, w.before _ s = true := fun w h => hts0 w (List.mem_cons_of_mem _ h)
  have hown : s.vm.findClass RL = some m.cls := findClass_of_methodNamed B.named
  have hlocks := B.notSynchronized
  subst hsz
  have hD := hD0.self (sz := s.heap.size)
  generalize hAe : va_A [(gx, .inr (11, [.ref gq1, .ref gq4, .ref gq13, .ref gq136, .ref gq137, .ref gq138, .ref gq172, .ref gq184, .ref gq150, .ref gq161, .int (-1)])), (gq150, .inr (2, [.int 0, .ref gq151, .ref gq152, .ref gq153, .ref gq154, .ref gq155, .ref gq156, .int 0, .ref gq157, .ref gq158, .ref gq159, .int 0, .ref gq160]))] s.heap.size = A at hD hE ⊢
  have hA : ∀ q : Nat, s.heap.size ≤ q → A q := fun q h => by rw [← hAe]; exact Or.inr h
  have hS : va_S A s.heap s.heap [] := va_S.rf
  have hP : va_P (dC, dI) cls [(gx, .inr (11, [.ref gq1, .ref gq4, .ref gq13, .ref gq136, .ref gq137, .ref gq138, .ref gq172, .ref gq184, .ref gq150, .ref gq161, .int (-1)])), (gq150, .inr (2, [.int 0, .ref gq151, .ref gq152, .ref gq153, .ref gq154, .ref gq155, .ref gq156, .int 0, .ref gq157, .ref gq158, .ref gq159, .int 0, .ref gq160]))] s.heap := hP
  have hl := lv_entry ([.ref gx, .int p0, .int p1, .int p2, .ref go]) (n := 6) (Nat.le_of_ble_eq_true rfl)
  rw [lg_entry_eq]
  generalize (lg_sl ([.ref gx, .int p0, .int p1, .int p2, .ref go]) ++ List.replicate (6 - (lg_sl ([.ref gx, .int p0, .int p1, .int p2, .ref go])).length) Slot.unset).toArray = ls at hl ⊢
  have hl : lv_has ls 6 [(0, .ref gx), (1, .int p0), (2, .int p1), (3, .int p2), (4, .ref go)] := hl
  refine lv_aload hx hb dL_differences_0 (lv_at hl 4 rfl) ?_
  refine lv_iconst (v := 0) hx hb dL_differences_2 (by decide) ?_
  refine lv_aload_n hx hb dL_differences_3 rfl (lv_at hl 0 rfl) ?_
  refine lv_iload_n hx hb dL_differences_4 rfl (lv_at hl 1 rfl) ?_
  refine lv_iload_n hx hb dL_differences_5 rfl (lv_at hl 2 rfl) ?_
  refine lv_iload_n hx hb dL_differences_6 rfl (lv_at hl 3 rfl) ?_
  have hPc := hP.sub (ws' := [(gx, .inr (11, [.ref gq1, .ref gq4, .ref gq13, .ref gq136, .ref gq137, .ref gq138, .ref gq172, .ref gq184, .ref gq150, .ref gq161, .int (-1)])), (gq150, .inr (2, [.int 0, .ref gq151, .ref gq152, .ref gq153, .ref gq154, .ref gq155, .ref gq156, .int 0, .ref gq157, .ref gq158, .ref gq159, .int 0, .ref gq160]))]) [0, 1] rfl
  have hDc := hD.sub (ws' := [(gx, .inr (11, [.ref gq1, .ref gq4, .ref gq13, .ref gq136, .ref gq137, .ref gq138, .ref gq172, .ref gq184, .ref gq150, .ref gq161, .int (-1)])), (gq150, .inr (2, [.int 0, .ref gq151, .ref gq152, .ref gq153, .ref gq154, .ref gq155, .ref gq156, .int 0, .ref gq157, .ref gq158, .ref gq159, .int 0, .ref gq160]))]) [0, 1] (by decide) rfl
  have hKc := hK.sub (tys' := []) [] rfl
  have hFc := va_free (wc := [(gx, .inr (11, [.ref gq1, .ref gq4, .ref gq13, .ref gq136, .ref gq137, .ref gq138, .ref gq172, .ref gq184, .ref gq150, .ref gq161, .int (-1)])), (gq150, .inr (2, [.int 0, .ref gq151, .ref gq152, .ref gq153, .ref gq154, .ref gq155, .ref gq156, .int 0, .ref gq157, .ref gq158, .ref gq159, .int 0, .ref gq160]))]) hD hS hA [0, 1] rfl
  refine vx_calli (vx_runV (As := [.int p0, .int p1, .int p2]) (rest := [.int 0, .ref go]) ⟨hx, hb, hml, hown, hts⟩ (kX11_differences l dC dI (gx := gx) (gq1 := gq1) (gq4 := gq4) (gq13 := gq13) (gq136 := gq136) (gq137 := gq137) (gq138 := gq138) (gq150 := gq150) (gq151 := gq151) (gq152 := gq152) (gq153 := gq153) (gq154 := gq154) (gq155 := gq155) (gq156 := gq156) (gq157 := gq157) (gq158 := gq158) (gq159 := gq159) (gq160 := gq160) (gq161 := gq161) (gq172 := gq172) (gq184 := gq184) (p0 := p0) (p1 := p1) (p2 := p2) (sz := _) (hl9 := hl9)) (cwV 3 hts (gi_V qw600 qw601 qw602 qw222 (gi_z qw599)) rfl rfl rfl (by decide +kernel) ⟨Nat.le_of_ble_eq_true rfl, Nat.le_of_ble_eq_true rfl⟩) ⟨PRE.blind, va_recv hKc hPc (ci := 11) (q0 := 0) rfl rfl, PRE.of hE hS hFc hPc hKc hDc⟩ rfl rfl hl.1 rfl (lv_room (Nat.le_of_ble_eq_true rfl)) dL_differences_7 ⟨Nat.le_of_ble_eq_true rfl, Nat.le_of_ble_eq_true rfl⟩) hS (fun q _ h => hFc q h) hFc (fun q _ h => hFc q h) (fun E ce q9 u t H locs ht hvm hw hB hz1 hk1 hS hce hcv hcl => ?_) (fun _ u t H locs ht hvm hw hB hz1 hk1 hS => hw.elim)
  obtain ⟨rfl, hB⟩ := hB
  obtain ⟨hP, hD, hK⟩ := JOIN (wr := []) hP hD hK [0, 1] [] [] rfl rfl (by decide) (by decide) rfl hk1 hFc ht hvm hB
  have hP : va_P (dC, dI) cls [] H := hP
  have hD : va_D A [] := hD
  have hK : va_K (dC, dI) cls [] s := hK
  refine vx_widen (k := 1) (n := 6) (Nat.le_of_ble_eq_true rfl) (Nat.le_of_ble_eq_true rfl) ?_
  refine vx_catch (own := RL) (name := "java/lang/IndexOutOfBoundsException") hown [] ⟨0, 12, 15, 24⟩ [⟨0, 12, 19, 19⟩] (htab.trans rfl) (fun z hz => by cases hz) (by decide) (by decide) (hts _ qw490) (hE.word (List.mem_append_right _ (tbl_9 (i := 38) rfl)) rfl) hce hcv hcl ?_
  refine lv_astore (lv' := [(5, .ref q9), (0, .ref gx), (1, .int p0), (2, .int p1), (3, .int p2), (4, .ref go)]) hx hb dL_differences_15 hl (by decide) rfl (fun ls hl => ?_)
  refine lv_iconst (v := 1) hx hb dL_differences_17 (by decide) ?_
  have hP9 : va_P (dC, dI) cls [] H := hP.sub [] rfl
  have hD9 : va_D A [] := hD.sub [] (by decide) rfl
  have hK9 : va_K (dC, dI) cls [] s := hK.sub [] rfl
  exact W.iret (v := 1) hx hb hr (fun t ht hW => ⟨⟨1, (), rfl, rfl, ⟨by rw [ht]; exact hP9, va_K.moved hW.alike hK9, hD9⟩⟩, hS.F ht⟩) hS.2.2 dL_differences_18
set_option maxHeartbeats 4000000 in
set_option maxRecDepth 100000 in
theorem kL_word_a {zs : Nat × Nat} (l : Launch) (dC : Nat → ClassId) (dI : Nat → Nat → Nat) (gx : Nat) (gq1 : Nat) (gq4 : Nat) (gq13 : Nat) (gq136 : Nat) (gq137 : Nat) (gq138 : Nat) (gq150 : Nat) (gq161 : Nat) (gq172 : Nat) (gq184 : Nat) (go : Nat) (p0 : Int32) (sz : Nat) (hl9 : l.stackTraces = false) (h1 : p0 < 0) : Met l yL_word (wh yL_word cL_word 4 (Option.some Jvm.ClassFile.FieldType.int) [(0, 9, 12, 24)]) ({ frames := 8, cells := 1, slots := 6, locals := 143 }) (va_Pc [.ref gx, .int p0, .ref go] (PRE zs dC dI [(gx, .inr (11, [.ref gq1, .ref gq4, .ref gq13, .ref gq136, .ref gq137, .ref gq138, .ref gq172, .ref gq184, .ref gq150, .ref gq161, .int (-1)]))] [] sz)) (va_Qi (fun (r : Int32) (_ : Unit) => r = 1) (fun _ t => POST dC dI [] [] (va_A [(gx, .inr (11, [.ref gq1, .ref gq4, .ref gq13, .ref gq136, .ref gq137, .ref gq138, .ref gq172, .ref gq184, .ref gq150, .ref gq161, .int (-1)]))] sz) t) (va_A [(gx, .inr (11, [.ref gq1, .ref gq4, .ref gq13, .ref gq136, .ref gq137, .ref gq138, .ref gq172, .ref gq184, .ref gq150, .ref gq161, .int (-1)]))] sz)) 1 6 (va_A [(gx, .inr (11, [.ref gq1, .ref gq4, .ref gq13, .ref gq136, .ref gq137, .ref gq138, .ref gq172, .ref gq184, .ref gq150, .ref gq161, .int (-1)]))] sz) := by
  refine va_MetW (cc := cL_word) (maxL := 4) (ret := (Option.some Jvm.ClassFile.FieldType.int)) (hh := [(0, 9, 12, 24)]) (by decide) rfl ?_
  intro p e s m args below meth c s₁ B hml hv
  obtain ⟨rfl, hsz, hP, hK, hD0, hE⟩ := hv
  have hx := B.exec
  have hb := B.bytes
  have hr := B.returns
  have hts0 := atoms_spec (ws := wh yL_word cL_word 4 (Option.some Jvm.ClassFile.FieldType.int) [(0, 9, 12, 24)]) B.pre
  have htab := vx_table (x := yL_word) B (hts0 _ List.mem_cons_self)
  have hts : ∀ w ∈ gw, w.before _ s = true := fun w h => hts0 w (List.mem_cons_of_mem _ h)
  have hown : s.vm.findClass RL = some m.cls := findClass_of_methodNamed B.named
  have hlocks := B.notSynchronized
  subst hsz
  have hD := hD0.self (sz := s.heap.size)
  generalize hAe : va_A [(gx, .inr (11, [.ref gq1, .ref gq4, .ref gq13, .ref gq136, .ref gq137, .ref gq138, .ref gq172, .ref gq184, .ref gq150, .ref gq161, .int (-1)]))] s.heap.size = A at hD hE ⊢
  have hA : ∀ q : Nat, s.heap.size ≤ q → A q := fun q h => by rw [← hAe]; exact Or.inr h
  have hS : va_S A s.heap s.heap [] := va_S.rf
  have hP : va_P (dC, dI) cls [(gx, .inr (11, [.ref gq1, .ref gq4, .ref gq13, .ref gq136, .ref gq137, .ref gq138, .ref gq172, .ref gq184, .ref gq150, .ref gq161, .int (-1)]))] s.heap := hP
  have hl := lv_entry ([.ref gx, .int p0, .ref go]) (n := 4) (Nat.le_of_ble_eq_true rfl)
  rw [lg_entry_eq]
  generalize (lg_sl ([.ref gx, .int p0, .ref go]) ++ List.replicate (4 - (lg_sl ([.ref gx, .int p0, .ref go])).length) Slot.unset).toArray = ls at hl ⊢
  have hl : lv_has ls 4 [(0, .ref gx), (1, .int p0), (2, .ref go)] := hl
  refine lv_aload_n hx hb dL_word_0 rfl (lv_at hl 2 rfl) ?_
  refine lv_iconst (v := 0) hx hb dL_word_1 (by decide) ?_
  refine lv_aload_n hx hb dL_word_2 rfl (lv_at hl 0 rfl) ?_
  refine lv_iload_n hx hb dL_word_3 rfl (lv_at hl 1 rfl) ?_
  have hPc := hP.sub (ws' := [(gx, .inr (11, [.ref gq1, .ref gq4, .ref gq13, .ref gq136, .ref gq137, .ref gq138, .ref gq172, .ref gq184, .ref gq150, .ref gq161, .int (-1)]))]) [0] rfl
  have hDc := hD.sub (ws' := [(gx, .inr (11, [.ref gq1, .ref gq4, .ref gq13, .ref gq136, .ref gq137, .ref gq138, .ref gq172, .ref gq184, .ref gq150, .ref gq161, .int (-1)]))]) [0] (by decide) rfl
  have hKc := hK.sub (tys' := []) [] rfl
  have hFc := va_free (wc := [(gx, .inr (11, [.ref gq1, .ref gq4, .ref gq13, .ref gq136, .ref gq137, .ref gq138, .ref gq172, .ref gq184, .ref gq150, .ref gq161, .int (-1)]))]) hD hS hA [0] rfl
  refine vx_calli (vx_runV (As := [.int p0]) (rest := [.int 0, .ref go]) ⟨hx, hb, hml, hown, hts⟩ (kX11_word_a l dC dI (gx := gx) (gq1 := gq1) (gq4 := gq4) (gq13 := gq13) (gq136 := gq136) (gq137 := gq137) (gq138 := gq138) (gq150 := gq150) (gq161 := gq161) (gq172 := gq172) (gq184 := gq184) (p0 := p0) (sz := _) (hl9 := hl9) (h1 := h1)) (cwV 1 hts (gi_V qw604 qw605 qw606 qw222 (gi_z qw603)) rfl rfl rfl (by decide +kernel) ⟨Nat.le_of_ble_eq_true rfl, Nat.le_of_ble_eq_true rfl⟩) ⟨PRE.blind, va_recv hKc hPc (ci := 11) (q0 := 0) rfl rfl, PRE.of hE hS hFc hPc hKc hDc⟩ rfl rfl hl.1 rfl (lv_room (Nat.le_of_ble_eq_true rfl)) dL_word_4 ⟨Nat.le_of_ble_eq_true rfl, Nat.le_of_ble_eq_true rfl⟩) hS (fun q _ h => hFc q h) hFc (fun q _ h => hFc q h) (fun E ce q9 u t H locs ht hvm hw hB hz1 hk1 hS hce hcv hcl => ?_) (fun _ u t H locs ht hvm hw hB hz1 hk1 hS => hw.elim)
  obtain ⟨rfl, hB⟩ := hB
  obtain ⟨hP, hD, hK⟩ := JOIN (wr := []) hP hD hK [0] [] [] rfl rfl (by decide) (by decide) rfl hk1 hFc ht hvm hB
  have hP : va_P (dC, dI) cls [] H := hP
  have hD : va_D A [] := hD
  have hK : va_K (dC, dI) cls [] s := hK
  refine vx_widen (k := 1) (n := 6) (Nat.le_of_ble_eq_true rfl) (Nat.le_of_ble_eq_true rfl) ?_
  refine vx_catch (own := RL) (name := "java/lang/IndexOutOfBoundsException") hown [] ⟨0, 9, 12, 24⟩ [] (htab.trans rfl) (fun z hz => by cases hz) (by decide) (by decide) (hts _ qw490) (hE.word (List.mem_append_right _ (tbl_9 (i := 38) rfl)) rfl) hce hcv hcl ?_
  refine lv_astore_n (lv' := [(3, .ref q9), (0, .ref gx), (1, .int p0), (2, .ref go)]) hx hb dL_word_12 rfl hl (by decide) rfl (fun ls hl => ?_)
  refine lv_iconst (v := 1) hx hb dL_word_13 (by decide) ?_
  have hP9 : va_P (dC, dI) cls [] H := hP.sub [] rfl
  have hD9 : va_D A [] := hD.sub [] (by decide) rfl
  have hK9 : va_K (dC, dI) cls [] s := hK.sub [] rfl
  exact W.iret (v := 1) hx hb hr (fun t ht hW => ⟨⟨1, (), rfl, rfl, ⟨by rw [ht]; exact hP9, va_K.moved hW.alike hK9, hD9⟩⟩, hS.F ht⟩) hS.2.2 dL_word_14
set_option maxHeartbeats 4000000 in
set_option maxRecDepth 100000 in
theorem kL_word_b {zs : Nat × Nat} (l : Launch) (dC : Nat → ClassId) (dI : Nat → Nat → Nat) (gx : Nat) (gq1 : Nat) (gq4 : Nat) (gq13 : Nat) (gq136 : Nat) (gq137 : Nat) (gq138 : Nat) (gq150 : Nat) (gq161 : Nat) (gq172 : Nat) (gq184 : Nat) (go : Nat) (p0 : Int32) (sz : Nat) (hl9 : l.stackTraces = false) (h1 : ¬ p0 < 0) (h2 : 16 ≤ p0) : Met l yL_word (wh yL_word cL_word 4 (Option.some Jvm.ClassFile.FieldType.int) [(0, 9, 12, 24)]) ({ frames := 8, cells := 1, slots := 6, locals := 143 }) (va_Pc [.ref gx, .int p0, .ref go] (PRE zs dC dI [(gx, .inr (11, [.ref gq1, .ref gq4, .ref gq13, .ref gq136, .ref gq137, .ref gq138, .ref gq172, .ref gq184, .ref gq150, .ref gq161, .int (-1)]))] [] sz)) (va_Qi (fun (r : Int32) (_ : Unit) => r = 1) (fun _ t => POST dC dI [] [] (va_A [(gx, .inr (11, [.ref gq1, .ref gq4, .ref gq13, .ref gq136, .ref gq137, .ref gq138, .ref gq172, .ref gq184, .ref gq150, .ref gq161, .int (-1)]))] sz) t) (va_A [(gx, .inr (11, [.ref gq1, .ref gq4, .ref gq13, .ref gq136, .ref gq137, .ref gq138, .ref gq172, .ref gq184, .ref gq150, .ref gq161, .int (-1)]))] sz)) 1 6 (va_A [(gx, .inr (11, [.ref gq1, .ref gq4, .ref gq13, .ref gq136, .ref gq137, .ref gq138, .ref gq172, .ref gq184, .ref gq150, .ref gq161, .int (-1)]))] sz) := by
  refine va_MetW (cc := cL_word) (maxL := 4) (ret := (Option.some Jvm.ClassFile.FieldType.int)) (hh := [(0, 9, 12, 24)]) (by decide) rfl ?_
  intro p e s m args below meth c s₁ B hml hv
  obtain ⟨rfl, hsz, hP, hK, hD0, hE⟩ := hv
  have hx := B.exec
  have hb := B.bytes
  have hr := B.returns
  have hts0 := atoms_spec (ws := wh yL_word cL_word 4 (Option.some Jvm.ClassFile.FieldType.int) [(0, 9, 12, 24)]) B.pre
  have htab := vx_table (x := yL_word) B (hts0 _ List.mem_cons_self)
  have hts : ∀ w ∈ gw, w.before _ s = true := fun w h => hts0 w (List.mem_cons_of_mem _ h)
  have hown : s.vm.findClass RL = some m.cls := findClass_of_methodNamed B.named
  have hlocks := B.notSynchronized
  subst hsz
  have hD := hD0.self (sz := s.heap.size)
  generalize hAe : va_A [(gx, .inr (11, [.ref gq1, .ref gq4, .ref gq13, .ref gq136, .ref gq137, .ref gq138, .ref gq172, .ref gq184, .ref gq150, .ref gq161, .int (-1)]))] s.heap.size = A at hD hE ⊢
  have hA : ∀ q : Nat, s.heap.size ≤ q → A q := fun q h => by rw [← hAe]; exact Or.inr h
  have hS : va_S A s.heap s.heap [] := va_S.rf
  have hP : va_P (dC, dI) cls [(gx, .inr (11, [.ref gq1, .ref gq4, .ref gq13, .ref gq136, .ref gq137, .ref gq138, .ref gq172, .ref gq184, .ref gq150, .ref gq161, .int (-1)]))] s.heap := hP
  have hl := lv_entry ([.ref gx, .int p0, .ref go]) (n := 4) (Nat.le_of_ble_eq_true rfl)
  rw [lg_entry_eq]
  generalize (lg_sl ([.ref gx, .int p0, .ref go]) ++ List.replicate (4 - (lg_sl ([.ref gx, .int p0, .ref go])).length) Slot.unset).toArray = ls at hl ⊢
  have hl : lv_has ls 4 [(0, .ref gx), (1, .int p0), (2, .ref go)] := hl
  refine lv_aload_n hx hb dL_word_0 rfl (lv_at hl 2 rfl) ?_
  refine lv_iconst (v := 0) hx hb dL_word_1 (by decide) ?_
  refine lv_aload_n hx hb dL_word_2 rfl (lv_at hl 0 rfl) ?_
  refine lv_iload_n hx hb dL_word_3 rfl (lv_at hl 1 rfl) ?_
  have hPc := hP.sub (ws' := [(gx, .inr (11, [.ref gq1, .ref gq4, .ref gq13, .ref gq136, .ref gq137, .ref gq138, .ref gq172, .ref gq184, .ref gq150, .ref gq161, .int (-1)]))]) [0] rfl
  have hDc := hD.sub (ws' := [(gx, .inr (11, [.ref gq1, .ref gq4, .ref gq13, .ref gq136, .ref gq137, .ref gq138, .ref gq172, .ref gq184, .ref gq150, .ref gq161, .int (-1)]))]) [0] (by decide) rfl
  have hKc := hK.sub (tys' := []) [] rfl
  have hFc := va_free (wc := [(gx, .inr (11, [.ref gq1, .ref gq4, .ref gq13, .ref gq136, .ref gq137, .ref gq138, .ref gq172, .ref gq184, .ref gq150, .ref gq161, .int (-1)]))]) hD hS hA [0] rfl
  refine vx_calli (vx_runV (As := [.int p0]) (rest := [.int 0, .ref go]) ⟨hx, hb, hml, hown, hts⟩ (kX11_word_b l dC dI (gx := gx) (gq1 := gq1) (gq4 := gq4) (gq13 := gq13) (gq136 := gq136) (gq137 := gq137) (gq138 := gq138) (gq150 := gq150) (gq161 := gq161) (gq172 := gq172) (gq184 := gq184) (p0 := p0) (sz := _) (hl9 := hl9) (h1 := h1) (h2 := h2)) (cwV 1 hts (gi_V qw604 qw605 qw606 qw222 (gi_z qw603)) rfl rfl rfl (by decide +kernel) ⟨Nat.le_of_ble_eq_true rfl, Nat.le_of_ble_eq_true rfl⟩) ⟨PRE.blind, va_recv hKc hPc (ci := 11) (q0 := 0) rfl rfl, PRE.of hE hS hFc hPc hKc hDc⟩ rfl rfl hl.1 rfl (lv_room (Nat.le_of_ble_eq_true rfl)) dL_word_4 ⟨Nat.le_of_ble_eq_true rfl, Nat.le_of_ble_eq_true rfl⟩) hS (fun q _ h => hFc q h) hFc (fun q _ h => hFc q h) (fun E ce q9 u t H locs ht hvm hw hB hz1 hk1 hS hce hcv hcl => ?_) (fun _ u t H locs ht hvm hw hB hz1 hk1 hS => hw.elim)
  obtain ⟨rfl, hB⟩ := hB
  obtain ⟨hP, hD, hK⟩ := JOIN (wr := []) hP hD hK [0] [] [] rfl rfl (by decide) (by decide) rfl hk1 hFc ht hvm hB
  have hP : va_P (dC, dI) cls [] H := hP
  have hD : va_D A [] := hD
  have hK : va_K (dC, dI) cls [] s := hK
  refine vx_widen (k := 1) (n := 6) (Nat.le_of_ble_eq_true rfl) (Nat.le_of_ble_eq_true rfl) ?_
  refine vx_catch (own := RL) (name := "java/lang/IndexOutOfBoundsException") hown [] ⟨0, 9, 12, 24⟩ [] (htab.trans rfl) (fun z hz => by cases hz) (by decide) (by decide) (hts _ qw490) (hE.word (List.mem_append_right _ (tbl_9 (i := 38) rfl)) rfl) hce hcv hcl ?_
  refine lv_astore_n (lv' := [(3, .ref q9), (0, .ref gx), (1, .int p0), (2, .ref go)]) hx hb dL_word_12 rfl hl (by decide) rfl (fun ls hl => ?_)
  refine lv_iconst (v := 1) hx hb dL_word_13 (by decide) ?_
  have hP9 : va_P (dC, dI) cls [] H := hP.sub [] rfl
  have hD9 : va_D A [] := hD.sub [] (by decide) rfl
  have hK9 : va_K (dC, dI) cls [] s := hK.sub [] rfl
  exact W.iret (v := 1) hx hb hr (fun t ht hW => ⟨⟨1, (), rfl, rfl, ⟨by rw [ht]; exact hP9, va_K.moved hW.alike hK9, hD9⟩⟩, hS.F ht⟩) hS.2.2 dL_word_14
set_option maxHeartbeats 4000000 in
set_option maxRecDepth 100000 in
theorem kL_word_c {zs : Nat × Nat} (l : Launch) (dC : Nat → ClassId) (dI : Nat → Nat → Nat) (gx : Nat) (gq1 : Nat) (gq4 : Nat) (gq13 : Nat) (gq136 : Nat) (gq137 : Nat) (gq138 : Nat) (gq150 : Nat) (gq161 : Nat) (gq172 : Nat) (gq173 : Nat) (gc174 : ClassId) (gq175 : Nat) (gq176 : Nat) (gq177 : Nat) (gq178 : Nat) (gq179 : Nat) (gq180 : Nat) (gq181 : Nat) (gq182 : Nat) (gq183 : Nat) (gq184 : Nat) (go : Nat) (gk : ClassId) (p0 : Int32) (sz : Nat) (h1 : ¬ p0 < 0) (h2 : ¬ 16 ≤ p0) : Met l yL_word (wh yL_word cL_word 4 (Option.some Jvm.ClassFile.FieldType.int) [(0, 9, 12, 24)]) ({ frames := 2, cells := 0, slots := 0, locals := 43 }) (va_Pc [.ref gx, .int p0, .ref go] (PRE zs dC dI [(gx, .inr (11, [.ref gq1, .ref gq4, .ref gq13, .ref gq136, .ref gq137, .ref gq138, .ref gq172, .ref gq184, .ref gq150, .ref gq161, .int (-1)])), (gq172, .inr (10, [.int 0, .int 0, .int 0, .ref gq173, .ref gq150, .ref gq13, .ref gq138, .ref gq175, .int 0, .int 0, .ref gq176, .ref gq177, .ref gq178, .ref gq179, .ref gq180, .ref gq181, .ref gq182, .int 0, .ref gq183, .int 0])), (gq173, .inl (gc174, 16, .inl (fun _ => 0))), (go, .inl (gk, 1, .inr (.inl (fun _ => 0))))] [(gc174, .int), (gk, .long)] sz)) (va_Qi (fun (r : Int32) (u : Nat → Int64) => r = 0 ∧ u 0 = 0) (fun u t => POST dC dI [(go, .inl (gk, 1, .inr (.inl u)))] [(gk, .long)] (va_A [(gx, .inr (11, [.ref gq1, .ref gq4, .ref gq13, .ref gq136, .ref gq137, .ref gq138, .ref gq172, .ref gq184, .ref gq150, .ref gq161, .int (-1)])), (gq172, .inr (10, [.int 0, .int 0, .int 0, .ref gq173, .ref gq150, .ref gq13, .ref gq138, .ref gq175, .int 0, .int 0, .ref gq176, .ref gq177, .ref gq178, .ref gq179, .ref gq180, .ref gq181, .ref gq182, .int 0, .ref gq183, .int 0])), (gq173, .inl (gc174, 16, .inl (fun _ => 0))), (go, .inl (gk, 1, .inr (.inl (fun _ => 0))))] sz) t) (va_A [(gx, .inr (11, [.ref gq1, .ref gq4, .ref gq13, .ref gq136, .ref gq137, .ref gq138, .ref gq172, .ref gq184, .ref gq150, .ref gq161, .int (-1)])), (gq172, .inr (10, [.int 0, .int 0, .int 0, .ref gq173, .ref gq150, .ref gq13, .ref gq138, .ref gq175, .int 0, .int 0, .ref gq176, .ref gq177, .ref gq178, .ref gq179, .ref gq180, .ref gq181, .ref gq182, .int 0, .ref gq183, .int 0])), (gq173, .inl (gc174, 16, .inl (fun _ => 0))), (go, .inl (gk, 1, .inr (.inl (fun _ => 0))))] sz)) 0 0 (va_A [(gx, .inr (11, [.ref gq1, .ref gq4, .ref gq13, .ref gq136, .ref gq137, .ref gq138, .ref gq172, .ref gq184, .ref gq150, .ref gq161, .int (-1)])), (gq172, .inr (10, [.int 0, .int 0, .int 0, .ref gq173, .ref gq150, .ref gq13, .ref gq138, .ref gq175, .int 0, .int 0, .ref gq176, .ref gq177, .ref gq178, .ref gq179, .ref gq180, .ref gq181, .ref gq182, .int 0, .ref gq183, .int 0])), (gq173, .inl (gc174, 16, .inl (fun _ => 0))), (go, .inl (gk, 1, .inr (.inl (fun _ => 0))))] sz) := by
  refine va_MetW (cc := cL_word) (maxL := 4) (ret := (Option.some Jvm.ClassFile.FieldType.int)) (hh := [(0, 9, 12, 24)]) (by decide) rfl ?_
  intro p e s m args below meth c s₁ B hml hv
  obtain ⟨rfl, hsz, hP, hK, hD0, hE⟩ := hv
  have hx := B.exec
  have hb := B.bytes
  have hr := B.returns
  have hts0 := atoms_spec (ws := wh yL_word cL_word 4 (Option.some Jvm.ClassFile.FieldType.int) [(0, 9, 12, 24)]) B.pre
  have htab := vx_table (x := yL_word) B (hts0 _ List.mem_cons_self)
  have hts : ∀ w ∈ gw, w.before _ s = true := fun w h => hts0 w (List.mem_cons_of_mem _ h)
  have hown : s.vm.findClass RL = some m.cls := findClass_of_methodNamed B.named
  have hlocks := B.notSynchronized
  subst hsz
  have hD := hD0.self (sz := s.heap.size)
  generalize hAe : va_A [(gx, .inr (11, [.ref gq1, .ref gq4, .ref gq13, .ref gq136, .ref gq137, .ref gq138, .ref gq172, .ref gq184, .ref gq150, .ref gq161, .int (-1)])), (gq172, .inr (10, [.int 0, .int 0, .int 0, .ref gq173, .ref gq150, .ref gq13, .ref gq138, .ref gq175, .int 0, .int 0, .ref gq176, .ref gq177, .ref gq178, .ref gq179, .ref gq180, .ref gq181, .ref gq182, .int 0, .ref gq183, .int 0])), (gq173, .inl (gc174, 16, .inl (fun _ => 0))), (go, .inl (gk, 1, .inr (.inl (fun _ => 0))))] s.heap.size = A at hD hE ⊢
  have hA : ∀ q : Nat, s.heap.size ≤ q → A q := fun q h => by rw [← hAe]; exact Or.inr h
  have hS : va_S A s.heap s.heap [] := va_S.rf
  have hP : va_P (dC, dI) cls [(gx, .inr (11, [.ref gq1, .ref gq4, .ref gq13, .ref gq136, .ref gq137, .ref gq138, .ref gq172, .ref gq184, .ref gq150, .ref gq161, .int (-1)])), (gq172, .inr (10, [.int 0, .int 0, .int 0, .ref gq173, .ref gq150, .ref gq13, .ref gq138, .ref gq175, .int 0, .int 0, .ref gq176, .ref gq177, .ref gq178, .ref gq179, .ref gq180, .ref gq181, .ref gq182, .int 0, .ref gq183, .int 0])), (gq173, .inl (gc174, 16, .inl (fun _ => 0))), (go, .inl (gk, 1, .inr (.inl (fun _ => 0))))] s.heap := hP
  have hl := lv_entry ([.ref gx, .int p0, .ref go]) (n := 4) (Nat.le_of_ble_eq_true rfl)
  rw [lg_entry_eq]
  generalize (lg_sl ([.ref gx, .int p0, .ref go]) ++ List.replicate (4 - (lg_sl ([.ref gx, .int p0, .ref go])).length) Slot.unset).toArray = ls at hl ⊢
  have hl : lv_has ls 4 [(0, .ref gx), (1, .int p0), (2, .ref go)] := hl
  refine lv_aload_n hx hb dL_word_0 rfl (lv_at hl 2 rfl) ?_
  refine lv_iconst (v := 0) hx hb dL_word_1 (by decide) ?_
  refine lv_aload_n hx hb dL_word_2 rfl (lv_at hl 0 rfl) ?_
  refine lv_iload_n hx hb dL_word_3 rfl (lv_at hl 1 rfl) ?_
  have hPc := hP.sub (ws' := [(gx, .inr (11, [.ref gq1, .ref gq4, .ref gq13, .ref gq136, .ref gq137, .ref gq138, .ref gq172, .ref gq184, .ref gq150, .ref gq161, .int (-1)])), (gq172, .inr (10, [.int 0, .int 0, .int 0, .ref gq173, .ref gq150, .ref gq13, .ref gq138, .ref gq175, .int 0, .int 0, .ref gq176, .ref gq177, .ref gq178, .ref gq179, .ref gq180, .ref gq181, .ref gq182, .int 0, .ref gq183, .int 0])), (gq173, .inl (gc174, 16, .inl (fun _ => 0)))]) [0, 1, 2] rfl
  have hDc := hD.sub (ws' := [(gx, .inr (11, [.ref gq1, .ref gq4, .ref gq13, .ref gq136, .ref gq137, .ref gq138, .ref gq172, .ref gq184, .ref gq150, .ref gq161, .int (-1)])), (gq172, .inr (10, [.int 0, .int 0, .int 0, .ref gq173, .ref gq150, .ref gq13, .ref gq138, .ref gq175, .int 0, .int 0, .ref gq176, .ref gq177, .ref gq178, .ref gq179, .ref gq180, .ref gq181, .ref gq182, .int 0, .ref gq183, .int 0])), (gq173, .inl (gc174, 16, .inl (fun _ => 0)))]) [0, 1, 2] (by decide) rfl
  have hKc := hK.sub (tys' := [(gc174, .int)]) [0] rfl
  have hFc := va_free (wc := [(gx, .inr (11, [.ref gq1, .ref gq4, .ref gq13, .ref gq136, .ref gq137, .ref gq138, .ref gq172, .ref gq184, .ref gq150, .ref gq161, .int (-1)])), (gq172, .inr (10, [.int 0, .int 0, .int 0, .ref gq173, .ref gq150, .ref gq13, .ref gq138, .ref gq175, .int 0, .int 0, .ref gq176, .ref gq177, .ref gq178, .ref gq179, .ref gq180, .ref gq181, .ref gq182, .int 0, .ref gq183, .int 0])), (gq173, .inl (gc174, 16, .inl (fun _ => 0)))]) hD hS hA [0, 1, 2] rfl
  refine va_calli (va_runV (As := [.int p0]) (rest := [.int 0, .ref go]) ⟨hx, hb, hml, hown, hts⟩ (kX11_word_c l dC dI (gx := gx) (gq1 := gq1) (gq4 := gq4) (gq13 := gq13) (gq136 := gq136) (gq137 := gq137) (gq138 := gq138) (gq150 := gq150) (gq161 := gq161) (gq172 := gq172) (gq173 := gq173) (gc174 := gc174) (gq175 := gq175) (gq176 := gq176) (gq177 := gq177) (gq178 := gq178) (gq179 := gq179) (gq180 := gq180) (gq181 := gq181) (gq182 := gq182) (gq183 := gq183) (gq184 := gq184) (p0 := p0) (sz := _) (h1 := h1) (h2 := h2)) (cwV 1 hts (gi_V qw604 qw605 qw606 qw222 (gi_z qw603)) rfl rfl rfl (by decide +kernel) ⟨Nat.le_of_ble_eq_true rfl, Nat.le_of_ble_eq_true rfl⟩) ⟨PRE.blind, va_recv hKc hPc (ci := 11) (q0 := 0) rfl rfl, PRE.of hE hS hFc hPc hKc hDc⟩ rfl rfl hl.1 rfl (lv_room (Nat.le_of_ble_eq_true rfl)) dL_word_4 ⟨Nat.le_of_ble_eq_true rfl, Nat.le_of_ble_eq_true rfl⟩) hS (fun q _ h => hFc q h) hFc (fun r1 u t H locs ht hvm hw hB hz1 hk1 hS => ?_)
  obtain ⟨hP, hD, hK⟩ := JOIN (wr := [(go, .inl (gk, 1, .inr (.inl (fun _ => 0))))]) hP hD hK [0, 1, 2] [3] [1] rfl rfl (by decide) (by decide) rfl hk1 hFc ht hvm hB
  have hP : va_P (dC, dI) cls [(go, .inl (gk, 1, .inr (.inl (fun _ => 0))))] H := hP
  have hD : va_D A [(go, .inl (gk, 1, .inr (.inl (fun _ => 0))))] := hD
  have hK : va_K (dC, dI) cls [(gk, .long)] s := hK
  refine W.widen (k := 0) (n := 0) (Nat.le_of_ble_eq_true rfl) (Nat.le_of_ble_eq_true rfl) ?_
  obtain rfl : r1 = 0 := hw
  refine lv_i2l (v := 0) hx hb dL_word_7 (by decide) ?_
  refine va_last hx hb hK hP hD hS 0 0 rfl rfl (by unfold vp_in; decide +kernel) dL_word_8 (fun H locs hP hD hS => ?_)
  have hP : va_P (dC, dI) cls [(go, .inl (gk, 1, .inr (.inl (vp_updL (fun _ => 0) (Int32.toNatClampNeg 0) 0))))] H := hP
  have hD : va_D A [(go, .inl (gk, 1, .inr (.inl (vp_updL (fun _ => 0) (Int32.toNatClampNeg 0) 0))))] := hD
  obtain ⟨f2, ef2⟩ : ∃ z, z = vp_updL (fun _ => 0) (Int32.toNatClampNeg 0) 0 := ⟨_, rfl⟩
  rw [← ef2] at hP hD
  have hf2 : f2 0 = 0 := by rw [ef2]; rfl
  refine lv_goto (tgt := 15) hx hb dL_word_9 (by decide) ?_
  refine lv_iconst (v := 0) hx hb dL_word_15 (by decide) ?_
  have hP9 : va_P (dC, dI) cls [(go, .inl (gk, 1, .inr (.inl f2)))] H := hP.sub [0] rfl
  have hD9 : va_D A [(go, .inl (gk, 1, .inr (.inl f2)))] := hD.sub [0] (by decide) rfl
  have hK9 : va_K (dC, dI) cls [(gk, .long)] s := hK.sub [0] rfl
  exact W.iret (v := 0) hx hb hr (fun t ht hW => ⟨⟨0, f2, rfl, ⟨rfl, hf2⟩, ⟨by rw [ht]; exact hP9, va_K.moved hW.alike hK9, hD9⟩⟩, hS.F ht⟩) hS.2.2 dL_word_16
set_option maxHeartbeats 4000000 in
set_option maxRecDepth 100000 in
theorem kL_allocate_a {zs : Nat × Nat} (l : Launch) (dC : Nat → ClassId) (dI : Nat → Nat → Nat) (gx : Nat) (gq1 : Nat) (gq4 : Nat) (gq13 : Nat) (gq136 : Nat) (gq137 : Nat) (gq138 : Nat) (gq150 : Nat) (gq161 : Nat) (gq172 : Nat) (gq184 : Nat) (go : Nat) (p0 : Int32) (sz : Nat) (hl9 : l.stackTraces = false) (h1 : p0 < 3) : Met l yL_allocate (wh yL_allocate cL_allocate 4 (Option.some Jvm.ClassFile.FieldType.int) [(0, 9, 12, 19), (0, 9, 15, 13)]) ({ frames := 7, cells := 1, slots := 6, locals := 121 }) (va_Pc [.ref gx, .int p0, .ref go] (PRE zs dC dI [(gx, .inr (11, [.ref gq1, .ref gq4, .ref gq13, .ref gq136, .ref gq137, .ref gq138, .ref gq172, .ref gq184, .ref gq150, .ref gq161, .int (-1)]))] [] sz)) (va_Qi (fun (r : Int32) (_ : Unit) => r = 1) (fun _ t => POST dC dI [] [] (va_A [(gx, .inr (11, [.ref gq1, .ref gq4, .ref gq13, .ref gq136, .ref gq137, .ref gq138, .ref gq172, .ref gq184, .ref gq150, .ref gq161, .int (-1)]))] sz) t) (va_A [(gx, .inr (11, [.ref gq1, .ref gq4, .ref gq13, .ref gq136, .ref gq137, .ref gq138, .ref gq172, .ref gq184, .ref gq150, .ref gq161, .int (-1)]))] sz)) 1 6 (va_A [(gx, .inr (11, [.ref gq1, .ref gq4, .ref gq13, .ref gq136, .ref gq137, .ref gq138, .ref gq172, .ref gq184, .ref gq150, .ref gq161, .int (-1)]))] sz) := by
  refine va_MetW (cc := cL_allocate) (maxL := 4) (ret := (Option.some Jvm.ClassFile.FieldType.int)) (hh := [(0, 9, 12, 19), (0, 9, 15, 13)]) (by decide) rfl ?_
  intro p e s m args below meth c s₁ B hml hv
  obtain ⟨rfl, hsz, hP, hK, hD0, hE⟩ := hv
  have hx := B.exec
  have hb := B.bytes
  have hr := B.returns
  have hts0 := atoms_spec (ws := wh yL_allocate cL_allocate 4 (Option.some Jvm.ClassFile.FieldType.int) [(0, 9, 12, 19), (0, 9, 15, 13)]) B.pre
  have htab := vx_table (x := yL_allocate) B (hts0 _ List.mem_cons_self)
  have hts : ∀ w ∈ gw, w.before _ s = true := fun w h => hts0 w (List.mem_cons_of_mem _ h)
  have hown : s.vm.findClass RL = some m.cls := findClass_of_methodNamed B.named
  have hlocks := B.notSynchronized
  subst hsz
  have hD := hD0.self (sz := s.heap.size)
  generalize hAe : va_A [(gx, .inr (11, [.ref gq1, .ref gq4, .ref gq13, .ref gq136, .ref gq137, .ref gq138, .ref gq172, .ref gq184, .ref gq150, .ref gq161, .int (-1)]))] s.heap.size = A at hD hE ⊢
  have hA : ∀ q : Nat, s.heap.size ≤ q → A q := fun q h => by rw [← hAe]; exact Or.inr h
  have hS : va_S A s.heap s.heap [] := va_S.rf
  have hP : va_P (dC, dI) cls [(gx, .inr (11, [.ref gq1, .ref gq4, .ref gq13, .ref gq136, .ref gq137, .ref gq138, .ref gq172, .ref gq184, .ref gq150, .ref gq161, .int (-1)]))] s.heap := hP
  have hl := lv_entry ([.ref gx, .int p0, .ref go]) (n := 4) (Nat.le_of_ble_eq_true rfl)
  rw [lg_entry_eq]
  generalize (lg_sl ([.ref gx, .int p0, .ref go]) ++ List.replicate (4 - (lg_sl ([.ref gx, .int p0, .ref go])).length) Slot.unset).toArray = ls at hl ⊢
  have hl : lv_has ls 4 [(0, .ref gx), (1, .int p0), (2, .ref go)] := hl
  refine lv_aload_n hx hb dL_allocate_0 rfl (lv_at hl 2 rfl) ?_
  refine lv_iconst (v := 0) hx hb dL_allocate_1 (by decide) ?_
  refine lv_aload_n hx hb dL_allocate_2 rfl (lv_at hl 0 rfl) ?_
  refine lv_iload_n hx hb dL_allocate_3 rfl (lv_at hl 1 rfl) ?_
  have hPc := hP.sub (ws' := [(gx, .inr (11, [.ref gq1, .ref gq4, .ref gq13, .ref gq136, .ref gq137, .ref gq138, .ref gq172, .ref gq184, .ref gq150, .ref gq161, .int (-1)]))]) [0] rfl
  have hDc := hD.sub (ws' := [(gx, .inr (11, [.ref gq1, .ref gq4, .ref gq13, .ref gq136, .ref gq137, .ref gq138, .ref gq172, .ref gq184, .ref gq150, .ref gq161, .int (-1)]))]) [0] (by decide) rfl
  have hKc := hK.sub (tys' := []) [] rfl
  have hFc := va_free (wc := [(gx, .inr (11, [.ref gq1, .ref gq4, .ref gq13, .ref gq136, .ref gq137, .ref gq138, .ref gq172, .ref gq184, .ref gq150, .ref gq161, .int (-1)]))]) hD hS hA [0] rfl
  refine vx_calli (vx_runV (As := [.int p0]) (rest := [.int 0, .ref go]) ⟨hx, hb, hml, hown, hts⟩ (kX11_allocate_a l dC dI (gx := gx) (gq1 := gq1) (gq4 := gq4) (gq13 := gq13) (gq136 := gq136) (gq137 := gq137) (gq138 := gq138) (gq150 := gq150) (gq161 := gq161) (gq172 := gq172) (gq184 := gq184) (p0 := p0) (sz := _) (hl9 := hl9) (h1 := h1)) (cwV 1 hts (gi_V qw608 qw609 qw610 qw222 (gi_z qw607)) rfl rfl rfl (by decide +kernel) ⟨Nat.le_of_ble_eq_true rfl, Nat.le_of_ble_eq_true rfl⟩) ⟨PRE.blind, va_recv hKc hPc (ci := 11) (q0 := 0) rfl rfl, PRE.of hE hS hFc hPc hKc hDc⟩ rfl rfl hl.1 rfl (lv_room (Nat.le_of_ble_eq_true rfl)) dL_allocate_4 ⟨Nat.le_of_ble_eq_true rfl, Nat.le_of_ble_eq_true rfl⟩) hS (fun q _ h => hFc q h) hFc (fun q _ h => hFc q h) (fun E ce q9 u t H locs ht hvm hw hB hz1 hk1 hS hce hcv hcl => ?_) (fun _ u t H locs ht hvm hw hB hz1 hk1 hS => hw.elim)
  obtain ⟨rfl, hB⟩ := hB
  obtain ⟨hP, hD, hK⟩ := JOIN (wr := []) hP hD hK [0] [] [] rfl rfl (by decide) (by decide) rfl hk1 hFc ht hvm hB
  have hP : va_P (dC, dI) cls [] H := hP
  have hD : va_D A [] := hD
  have hK : va_K (dC, dI) cls [] s := hK
  refine vx_widen (k := 1) (n := 6) (Nat.le_of_ble_eq_true rfl) (Nat.le_of_ble_eq_true rfl) ?_
  refine vx_catch (own := RL) (name := "java/lang/IllegalArgumentException") hown [] ⟨0, 9, 12, 19⟩ [⟨0, 9, 15, 13⟩] (htab.trans rfl) (fun z hz => by cases hz) (by decide) (by decide) (hts _ qw485) (hE.word (List.mem_append_right _ (tbl_5 (i := 1) rfl)) rfl) hce hcv hcl ?_
  refine lv_astore_n (lv' := [(3, .ref q9), (0, .ref gx), (1, .int p0), (2, .ref go)]) hx hb dL_allocate_12 rfl hl (by decide) rfl (fun ls hl => ?_)
  refine lv_iconst (v := 1) hx hb dL_allocate_13 (by decide) ?_
  have hP9 : va_P (dC, dI) cls [] H := hP.sub [] rfl
  have hD9 : va_D A [] := hD.sub [] (by decide) rfl
  have hK9 : va_K (dC, dI) cls [] s := hK.sub [] rfl
  exact W.iret (v := 1) hx hb hr (fun t ht hW => ⟨⟨1, (), rfl, rfl, ⟨by rw [ht]; exact hP9, va_K.moved hW.alike hK9, hD9⟩⟩, hS.F ht⟩) hS.2.2 dL_allocate_14
set_option maxHeartbeats 4000000 in
set_option maxRecDepth 100000 in
theorem kL_allocate_b {zs : Nat × Nat} (l : Launch) (dC : Nat → ClassId) (dI : Nat → Nat → Nat) (gx : Nat) (gq1 : Nat) (gq4 : Nat) (gq13 : Nat) (gq136 : Nat) (gq137 : Nat) (gq138 : Nat) (gq150 : Nat) (gq161 : Nat) (gq172 : Nat) (gq184 : Nat) (go : Nat) (p0 : Int32) (sz : Nat) (hl9 : l.stackTraces = false) (h1 : ¬ p0 < 3) (h2 : 8 < p0) : Met l yL_allocate (wh yL_allocate cL_allocate 4 (Option.some Jvm.ClassFile.FieldType.int) [(0, 9, 12, 19), (0, 9, 15, 13)]) ({ frames := 7, cells := 1, slots := 6, locals := 121 }) (va_Pc [.ref gx, .int p0, .ref go] (PRE zs dC dI [(gx, .inr (11, [.ref gq1, .ref gq4, .ref gq13, .ref gq136, .ref gq137, .ref gq138, .ref gq172, .ref gq184, .ref gq150, .ref gq161, .int (-1)]))] [] sz)) (va_Qi (fun (r : Int32) (_ : Unit) => r = 1) (fun _ t => POST dC dI [] [] (va_A [(gx, .inr (11, [.ref gq1, .ref gq4, .ref gq13, .ref gq136, .ref gq137, .ref gq138, .ref gq172, .ref gq184, .ref gq150, .ref gq161, .int (-1)]))] sz) t) (va_A [(gx, .inr (11, [.ref gq1, .ref gq4, .ref gq13, .ref gq136, .ref gq137, .ref gq138, .ref gq172, .ref gq184, .ref gq150, .ref gq161, .int (-1)]))] sz)) 1 6 (va_A [(gx, .inr (11, [.ref gq1, .ref gq4, .ref gq13, .ref gq136, .ref gq137, .ref gq138, .ref gq172, .ref gq184, .ref gq150, .ref gq161, .int (-1)]))] sz) := by
  refine va_MetW (cc := cL_allocate) (maxL := 4) (ret := (Option.some Jvm.ClassFile.FieldType.int)) (hh := [(0, 9, 12, 19), (0, 9, 15, 13)]) (by decide) rfl ?_
  intro p e s m args below meth c s₁ B hml hv
  obtain ⟨rfl, hsz, hP, hK, hD0, hE⟩ := hv
  have hx := B.exec
  have hb := B.bytes
  have hr := B.returns
  have hts0 := atoms_spec (ws := wh yL_allocate cL_allocate 4 (Option.some Jvm.ClassFile.FieldType.int) [(0, 9, 12, 19), (0, 9, 15, 13)]) B.pre
  have htab := vx_table (x := yL_allocate) B (hts0 _ List.mem_cons_self)
  have hts : ∀ w ∈ gw, w.before _ s = true := fun w h => hts0 w (List.mem_cons_of_mem _ h)
  have hown : s.vm.findClass RL = some m.cls := findClass_of_methodNamed B.named
  have hlocks := B.notSynchronized
  subst hsz
  have hD := hD0.self (sz := s.heap.size)
  generalize hAe : va_A [(gx, .inr (11, [.ref gq1, .ref gq4, .ref gq13, .ref gq136, .ref gq137, .ref gq138, .ref gq172, .ref gq184, .ref gq150, .ref gq161, .int (-1)]))] s.heap.size = A at hD hE ⊢
  have hA : ∀ q : Nat, s.heap.size ≤ q → A q := fun q h => by rw [← hAe]; exact Or.inr h
  have hS : va_S A s.heap s.heap [] := va_S.rf
  have hP : va_P (dC, dI) cls [(gx, .inr (11, [.ref gq1, .ref gq4, .ref gq13, .ref gq136, .ref gq137, .ref gq138, .ref gq172, .ref gq184, .ref gq150, .ref gq161, .int (-1)]))] s.heap := hP
  have hl := lv_entry ([.ref gx, .int p0, .ref go]) (n := 4) (Nat.le_of_ble_eq_true rfl)
  rw [lg_entry_eq]
  generalize (lg_sl ([.ref gx, .int p0, .ref go]) ++ List.replicate (4 - (lg_sl ([.ref gx, .int p0, .ref go])).length) Slot.unset).toArray = ls at hl ⊢
  have hl : lv_has ls 4 [(0, .ref gx), (1, .int p0), (2, .ref go)] := hl
  refine lv_aload_n hx hb dL_allocate_0 rfl (lv_at hl 2 rfl) ?_
  refine lv_iconst (v := 0) hx hb dL_allocate_1 (by decide) ?_
  refine lv_aload_n hx hb dL_allocate_2 rfl (lv_at hl 0 rfl) ?_
  refine lv_iload_n hx hb dL_allocate_3 rfl (lv_at hl 1 rfl) ?_
  have hPc := hP.sub (ws' := [(gx, .inr (11, [.ref gq1, .ref gq4, .ref gq13, .ref gq136, .ref gq137, .ref gq138, .ref gq172, .ref gq184, .ref gq150, .ref gq161, .int (-1)]))]) [0] rfl
  have hDc := hD.sub (ws' := [(gx, .inr (11, [.ref gq1, .ref gq4, .ref gq13, .ref gq136, .ref gq137, .ref gq138, .ref gq172, .ref gq184, .ref gq150, .ref gq161, .int (-1)]))]) [0] (by decide) rfl
  have hKc := hK.sub (tys' := []) [] rfl
  have hFc := va_free (wc := [(gx, .inr (11, [.ref gq1, .ref gq4, .ref gq13, .ref gq136, .ref gq137, .ref gq138, .ref gq172, .ref gq184, .ref gq150, .ref gq161, .int (-1)]))]) hD hS hA [0] rfl
  refine vx_calli (vx_runV (As := [.int p0]) (rest := [.int 0, .ref go]) ⟨hx, hb, hml, hown, hts⟩ (kX11_allocate_b l dC dI (gx := gx) (gq1 := gq1) (gq4 := gq4) (gq13 := gq13) (gq136 := gq136) (gq137 := gq137) (gq138 := gq138) (gq150 := gq150) (gq161 := gq161) (gq172 := gq172) (gq184 := gq184) (p0 := p0) (sz := _) (hl9 := hl9) (h1 := h1) (h2 := h2)) (cwV 1 hts (gi_V qw608 qw609 qw610 qw222 (gi_z qw607)) rfl rfl rfl (by decide +kernel) ⟨Nat.le_of_ble_eq_true rfl, Nat.le_of_ble_eq_true rfl⟩) ⟨PRE.blind, va_recv hKc hPc (ci := 11) (q0 := 0) rfl rfl, PRE.of hE hS hFc hPc hKc hDc⟩ rfl rfl hl.1 rfl (lv_room (Nat.le_of_ble_eq_true rfl)) dL_allocate_4 ⟨Nat.le_of_ble_eq_true rfl, Nat.le_of_ble_eq_true rfl⟩) hS (fun q _ h => hFc q h) hFc (fun q _ h => hFc q h) (fun E ce q9 u t H locs ht hvm hw hB hz1 hk1 hS hce hcv hcl => ?_) (fun _ u t H locs ht hvm hw hB hz1 hk1 hS => hw.elim)
  obtain ⟨rfl, hB⟩ := hB
  obtain ⟨hP, hD, hK⟩ := JOIN (wr := []) hP hD hK [0] [] [] rfl rfl (by decide) (by decide) rfl hk1 hFc ht hvm hB
  have hP : va_P (dC, dI) cls [] H := hP
  have hD : va_D A [] := hD
  have hK : va_K (dC, dI) cls [] s := hK
  refine vx_widen (k := 1) (n := 6) (Nat.le_of_ble_eq_true rfl) (Nat.le_of_ble_eq_true rfl) ?_
  refine vx_catch (own := RL) (name := "java/lang/IllegalArgumentException") hown [] ⟨0, 9, 12, 19⟩ [⟨0, 9, 15, 13⟩] (htab.trans rfl) (fun z hz => by cases hz) (by decide) (by decide) (hts _ qw485) (hE.word (List.mem_append_right _ (tbl_5 (i := 1) rfl)) rfl) hce hcv hcl ?_
  refine lv_astore_n (lv' := [(3, .ref q9), (0, .ref gx), (1, .int p0), (2, .ref go)]) hx hb dL_allocate_12 rfl hl (by decide) rfl (fun ls hl => ?_)
  refine lv_iconst (v := 1) hx hb dL_allocate_13 (by decide) ?_
  have hP9 : va_P (dC, dI) cls [] H := hP.sub [] rfl
  have hD9 : va_D A [] := hD.sub [] (by decide) rfl
  have hK9 : va_K (dC, dI) cls [] s := hK.sub [] rfl
  exact W.iret (v := 1) hx hb hr (fun t ht hW => ⟨⟨1, (), rfl, rfl, ⟨by rw [ht]; exact hP9, va_K.moved hW.alike hK9, hD9⟩⟩, hS.F ht⟩) hS.2.2 dL_allocate_14
set_option maxHeartbeats 4000000 in
set_option maxRecDepth 100000 in
theorem kL_allocate_c {zs : Nat × Nat} (l : Launch) (dC : Nat → ClassId) (dI : Nat → Nat → Nat) (gx : Nat) (gq1 : Nat) (gq4 : Nat) (gq13 : Nat) (gq136 : Nat) (gq137 : Nat) (gq138 : Nat) (gq150 : Nat) (gq151 : Nat) (gq152 : Nat) (gq153 : Nat) (gq154 : Nat) (gq155 : Nat) (gq156 : Nat) (gq157 : Nat) (gq158 : Nat) (gq159 : Nat) (gq160 : Nat) (gq161 : Nat) (gq172 : Nat) (gq184 : Nat) (go : Nat) (p0 : Int32) (sz : Nat) (hl9 : l.stackTraces = false) (h1 : ¬ p0 < 3) (h2 : ¬ 8 < p0) : Met l yL_allocate (wh yL_allocate cL_allocate 4 (Option.some Jvm.ClassFile.FieldType.int) [(0, 9, 12, 19), (0, 9, 15, 13)]) ({ frames := 7, cells := 1, slots := 6, locals := 121 }) (va_Pc [.ref gx, .int p0, .ref go] (PRE zs dC dI [(gx, .inr (11, [.ref gq1, .ref gq4, .ref gq13, .ref gq136, .ref gq137, .ref gq138, .ref gq172, .ref gq184, .ref gq150, .ref gq161, .int (-1)])), (gq150, .inr (2, [.int 0, .ref gq151, .ref gq152, .ref gq153, .ref gq154, .ref gq155, .ref gq156, .int 0, .ref gq157, .ref gq158, .ref gq159, .int 0, .ref gq160]))] [] sz)) (va_Qi (fun (r : Int32) (_ : Unit) => r = 2) (fun _ t => POST dC dI [] [] (va_A [(gx, .inr (11, [.ref gq1, .ref gq4, .ref gq13, .ref gq136, .ref gq137, .ref gq138, .ref gq172, .ref gq184, .ref gq150, .ref gq161, .int (-1)])), (gq150, .inr (2, [.int 0, .ref gq151, .ref gq152, .ref gq153, .ref gq154, .ref gq155, .ref gq156, .int 0, .ref gq157, .ref gq158, .ref gq159, .int 0, .ref gq160]))] sz) t) (va_A [(gx, .inr (11, [.ref gq1, .ref gq4, .ref gq13, .ref gq136, .ref gq137, .ref gq138, .ref gq172, .ref gq184, .ref gq150, .ref gq161, .int (-1)])), (gq150, .inr (2, [.int 0, .ref gq151, .ref gq152, .ref gq153, .ref gq154, .ref gq155, .ref gq156, .int 0, .ref gq157, .ref gq158, .ref gq159, .int 0, .ref gq160]))] sz)) 1 6 (va_A [(gx, .inr (11, [.ref gq1, .ref gq4, .ref gq13, .ref gq136, .ref gq137, .ref gq138, .ref gq172, .ref gq184, .ref gq150, .ref gq161, .int (-1)])), (gq150, .inr (2, [.int 0, .ref gq151, .ref gq152, .ref gq153, .ref gq154, .ref gq155, .ref gq156, .int 0, .ref gq157, .ref gq158, .ref gq159, .int 0, .ref gq160]))] sz) := by
  refine va_MetW (cc := cL_allocate) (maxL := 4) (ret := (Option.some Jvm.ClassFile.FieldType.int)) (hh := [(0, 9, 12, 19), (0, 9, 15, 13)]) (by decide) rfl ?_
  intro p e s m args below meth c s₁ B hml hv
  obtain ⟨rfl, hsz, hP, hK, hD0, hE⟩ := hv
  have hx := B.exec
  have hb := B.bytes
  have hr := B.returns
  have hts0 := atoms_spec (ws := wh yL_allocate cL_allocate 4 (Option.some Jvm.ClassFile.FieldType.int) [(0, 9, 12, 19), (0, 9, 15, 13)]) B.pre
  have htab := vx_table (x := yL_allocate) B (hts0 _ List.mem_cons_self)
  have hts : ∀ w ∈ gw, w.before _ s = true := fun w h => hts0 w (List.mem_cons_of_mem _ h)
  have hown : s.vm.findClass RL = some m.cls := findClass_of_methodNamed B.named
  have hlocks := B.notSynchronized
  subst hsz
  have hD := hD0.self (sz := s.heap.size)
  generalize hAe : va_A [(gx, .inr (11, [.ref gq1, .ref gq4, .ref gq13, .ref gq136, .ref gq137, .ref gq138, .ref gq172, .ref gq184, .ref gq150, .ref gq161, .int (-1)])), (gq150, .inr (2, [.int 0, .ref gq151, .ref gq152, .ref gq153, .ref gq154, .ref gq155, .ref gq156, .int 0, .ref gq157, .ref gq158, .ref gq159, .int 0, .ref gq160]))] s.heap.size = A at hD hE ⊢
  have hA : ∀ q : Nat, s.heap.size ≤ q → A q := fun q h => by rw [← hAe]; exact Or.inr h
  have hS : va_S A s.heap s.heap [] := va_S.rf
  have hP : va_P (dC, dI) cls [(gx, .inr (11, [.ref gq1, .ref gq4, .ref gq13, .ref gq136, .ref gq137, .ref gq138, .ref gq172, .ref gq184, .ref gq150, .ref gq161, .int (-1)])), (gq150, .inr (2, [.int 0, .ref gq151, .ref gq152, .ref gq153, .ref gq154, .ref gq155, .ref gq156, .int 0, .ref gq157, .ref gq158, .ref gq159, .int 0, .ref gq160]))] s.heap := hP
  have hl := lv_entry ([.ref gx, .int p0, .ref go]) (n := 4) (Nat.le_of_ble_eq_true rfl)
  rw [lg_entry_eq]
  generalize (lg_sl ([.ref gx, .int p0, .ref go]) ++ List.replicate (4 - (lg_sl ([.ref gx, .int p0, .ref go])).length) Slot.unset).toArray = ls at hl ⊢
  have hl : lv_has ls 4 [(0, .ref gx), (1, .int p0), (2, .ref go)] := hl
  refine lv_aload_n hx hb dL_allocate_0 rfl (lv_at hl 2 rfl) ?_
  refine lv_iconst (v := 0) hx hb dL_allocate_1 (by decide) ?_
  refine lv_aload_n hx hb dL_allocate_2 rfl (lv_at hl 0 rfl) ?_
  refine lv_iload_n hx hb dL_allocate_3 rfl (lv_at hl 1 rfl) ?_
  have hPc := hP.sub (ws' := [(gx, .inr (11, [.ref gq1, .ref gq4, .ref gq13, .ref gq136, .ref gq137, .ref gq138, .ref gq172, .ref gq184, .ref gq150, .ref gq161, .int (-1)])), (gq150, .inr (2, [.int 0, .ref gq151, .ref gq152, .ref gq153, .ref gq154, .ref gq155, .ref gq156, .int 0, .ref gq157, .ref gq158, .ref gq159, .int 0, .ref gq160]))]) [0, 1] rfl
  have hDc := hD.sub (ws' := [(gx, .inr (11, [.ref gq1, .ref gq4, .ref gq13, .ref gq136, .ref gq137, .ref gq138, .ref gq172, .ref gq184, .ref gq150, .ref gq161, .int (-1)])), (gq150, .inr (2, [.int 0, .ref gq151, .ref gq152, .ref gq153, .ref gq154, .ref gq155, .ref gq156, .int 0, .ref gq157, .ref gq158, .ref gq159, .int 0, .ref gq160]))]) [0, 1] (by decide) rfl
  have hKc := hK.sub (tys' := []) [] rfl
  have hFc := va_free (wc := [(gx, .inr (11, [.ref gq1, .ref gq4, .ref gq13, .ref gq136, .ref gq137, .ref gq138, .ref gq172, .ref gq184, .ref gq150, .ref gq161, .int (-1)])), (gq150, .inr (2, [.int 0, .ref gq151, .ref gq152, .ref gq153, .ref gq154, .ref gq155, .ref gq156, .int 0, .ref gq157, .ref gq158, .ref gq159, .int 0, .ref gq160]))]) hD hS hA [0, 1] rfl
  refine vx_calli (vx_runV (As := [.int p0]) (rest := [.int 0, .ref go]) ⟨hx, hb, hml, hown, hts⟩ (kX11_allocate_c l dC dI (gx := gx) (gq1 := gq1) (gq4 := gq4) (gq13 := gq13) (gq136 := gq136) (gq137 := gq137) (gq138 := gq138) (gq150 := gq150) (gq151 := gq151) (gq152 := gq152) (gq153 := gq153) (gq154 := gq154) (gq155 := gq155) (gq156 := gq156) (gq157 := gq157) (gq158 := gq158) (gq159 := gq159) (gq160 := gq160) (gq161 := gq161) (gq172 := gq172) (gq184 := gq184) (p0 := p0) (sz := _) (hl9 := hl9) (h1 := h1) (h2 := h2)) (cwV 1 hts (gi_V qw608 qw609 qw610 qw222 (gi_z qw607)) rfl rfl rfl (by decide +kernel) ⟨Nat.le_of_ble_eq_true rfl, Nat.le_of_ble_eq_true rfl⟩) ⟨PRE.blind, va_recv hKc hPc (ci := 11) (q0 := 0) rfl rfl, PRE.of hE hS hFc hPc hKc hDc⟩ rfl rfl hl.1 rfl (lv_room (Nat.le_of_ble_eq_true rfl)) dL_allocate_4 ⟨Nat.le_of_ble_eq_true rfl, Nat.le_of_ble_eq_true rfl⟩) hS (fun q _ h => hFc q h) hFc (fun q _ h => hFc q h) (fun E ce q9 u t H locs ht hvm hw hB hz1 hk1 hS hce hcv hcl => ?_) (fun _ u t H locs ht hvm hw hB hz1 hk1 hS => hw.elim)
  obtain ⟨rfl, hB⟩ := hB
  obtain ⟨hP, hD, hK⟩ := JOIN (wr := []) hP hD hK [0, 1] [] [] rfl rfl (by decide) (by decide) rfl hk1 hFc ht hvm hB
  have hP : va_P (dC, dI) cls [] H := hP
  have hD : va_D A [] := hD
  have hK : va_K (dC, dI) cls [] s := hK
  refine vx_widen (k := 1) (n := 6) (Nat.le_of_ble_eq_true rfl) (Nat.le_of_ble_eq_true rfl) ?_
  refine vx_catch (own := RL) (name := "java/lang/IllegalStateException") hown [⟨0, 9, 12, 19⟩] ⟨0, 9, 15, 13⟩ [] (htab.trans rfl) (fun z hz => by
    simp only [List.mem_cons, List.not_mem_nil, or_false] at hz
    subst hz
    exact Or.inr ⟨by decide, "java/lang/IllegalArgumentException", (hts _ qw485), hE.2.2.2.2.2.1⟩) (by decide) (by decide) (hts _ qw611) (hE.word (List.mem_append_right _ (tbl_8 (i := 235) rfl)) rfl) hce hcv hcl ?_
  refine lv_astore_n (lv' := [(3, .ref q9), (0, .ref gx), (1, .int p0), (2, .ref go)]) hx hb dL_allocate_15 rfl hl (by decide) rfl (fun ls hl => ?_)
  refine lv_iconst (v := 2) hx hb dL_allocate_16 (by decide) ?_
  have hP9 : va_P (dC, dI) cls [] H := hP.sub [] rfl
  have hD9 : va_D A [] := hD.sub [] (by decide) rfl
  have hK9 : va_K (dC, dI) cls [] s := hK.sub [] rfl
  exact W.iret (v := 2) hx hb hr (fun t ht hW => ⟨⟨2, (), rfl, rfl, ⟨by rw [ht]; exact hP9, va_K.moved hW.alike hK9, hD9⟩⟩, hS.F ht⟩) hS.2.2 dL_allocate_17
