abbrev cX11_digestPhis : ByteArray := prog_1_method_60_code
def yX11_digestPhis : MethodName := ⟨RX11, "digestPhis", "(JLGearbox$Flow;I)J"⟩
abbrev cX11_digestStep : ByteArray := prog_1_method_62_code
def yX11_digestStep : MethodName := ⟨RX11, "digestStep", "(JLGearbox$Steps;I)J"⟩
abbrev cX11_digestSteps : ByteArray := prog_1_method_61_code
def yX11_digestSteps : MethodName := ⟨RX11, "digestSteps", "(JLGearbox$Flow;I)J"⟩
abbrev cX11_feed : ByteArray := prog_1_method_2_code
def yX11_feed : MethodName := ⟨RX11, "feed", "(IIIII)I"⟩
abbrev cX11_functions : ByteArray := prog_1_method_7_code
def yX11_functions : MethodName := ⟨RX11, "functions", "()I"⟩
abbrev cX11_needPlace : ByteArray := prog_1_method_51_code
def yX11_needPlace : MethodName := ⟨RX11, "needPlace", "(II)V"⟩
abbrev cX11_result : ByteArray := prog_1_method_44_code
def yX11_result : MethodName := ⟨RX11, "result", "()I"⟩
abbrev cX11_rounds : ByteArray := prog_1_method_41_code
def yX11_rounds : MethodName := ⟨RX11, "rounds", "(I)I"⟩
abbrev cX11_slots : ByteArray := prog_1_method_39_code
def yX11_slots : MethodName := ⟨RX11, "slots", "(I)I"⟩
abbrev cX11_word : ByteArray := prog_1_method_46_code
def yX11_word : MethodName := ⟨RX11, "word", "(I)I"⟩
theorem dX11_digestPhis_0 : decode cX11_digestPhis 0 = .ok (.lload_n 0, 1) := by decide +kernel
theorem dX11_digestPhis_1 : decode cX11_digestPhis 1 = .ok (.lstore 4, 2) := by decide +kernel
theorem dX11_digestPhis_3 : decode cX11_digestPhis 3 = .ok (.aload_n 2, 1) := by decide +kernel
theorem dX11_digestPhis_4 : decode cX11_digestPhis 4 = .ok (.getfield 365, 3) := by decide +kernel
theorem dX11_digestPhis_7 : decode cX11_digestPhis 7 = .ok (.iload_n 3, 1) := by decide +kernel
theorem dX11_digestPhis_8 : decode cX11_digestPhis 8 = .ok (.iaload, 1) := by decide +kernel
theorem dX11_digestPhis_9 : decode cX11_digestPhis 9 = .ok (.istore 6, 2) := by decide +kernel
theorem dX11_digestPhis_11 : decode cX11_digestPhis 11 = .ok (.iload 6, 2) := by decide +kernel
theorem dX11_digestPhis_13 : decode cX11_digestPhis 13 = .ok (.ifCond .lt 74, 3) := by decide +kernel
theorem dX11_digestPhis_16 : decode cX11_digestPhis 16 = .ok (.lload 4, 2) := by decide +kernel
theorem dX11_digestPhis_18 : decode cX11_digestPhis 18 = .ok (.ldc2_w 323, 3) := by decide +kernel
theorem dX11_digestPhis_21 : decode cX11_digestPhis 21 = .ok (.lmul, 1) := by decide +kernel
theorem dX11_digestPhis_22 : decode cX11_digestPhis 22 = .ok (.aload_n 2, 1) := by decide +kernel
theorem dX11_digestPhis_23 : decode cX11_digestPhis 23 = .ok (.getfield 197, 3) := by decide +kernel
theorem dX11_digestPhis_26 : decode cX11_digestPhis 26 = .ok (.iload 6, 2) := by decide +kernel
theorem dX11_digestPhis_28 : decode cX11_digestPhis 28 = .ok (.iaload, 1) := by decide +kernel
theorem dX11_digestPhis_29 : decode cX11_digestPhis 29 = .ok (.i2l, 1) := by decide +kernel
theorem dX11_digestPhis_30 : decode cX11_digestPhis 30 = .ok (.ladd, 1) := by decide +kernel
theorem dX11_digestPhis_31 : decode cX11_digestPhis 31 = .ok (.lstore 4, 2) := by decide +kernel
theorem dX11_digestPhis_33 : decode cX11_digestPhis 33 = .ok (.iconst 0, 1) := by decide +kernel
theorem dX11_digestPhis_34 : decode cX11_digestPhis 34 = .ok (.istore 7, 2) := by decide +kernel
theorem dX11_digestPhis_36 : decode cX11_digestPhis 36 = .ok (.iload 7, 2) := by decide +kernel
theorem dX11_digestPhis_38 : decode cX11_digestPhis 38 = .ok (.aload_n 2, 1) := by decide +kernel
theorem dX11_digestPhis_39 : decode cX11_digestPhis 39 = .ok (.iload_n 3, 1) := by decide +kernel
theorem dX11_digestPhis_40 : decode cX11_digestPhis 40 = .ok (.invokevirtual 165, 3) := by decide +kernel
theorem dX11_digestPhis_43 : decode cX11_digestPhis 43 = .ok (.if_icmp .ge 32, 3) := by decide +kernel
theorem dX11_digestPhis_46 : decode cX11_digestPhis 46 = .ok (.lload 4, 2) := by decide +kernel
theorem dX11_digestPhis_48 : decode cX11_digestPhis 48 = .ok (.ldc2_w 323, 3) := by decide +kernel
theorem dX11_digestPhis_51 : decode cX11_digestPhis 51 = .ok (.lmul, 1) := by decide +kernel
theorem dX11_digestPhis_52 : decode cX11_digestPhis 52 = .ok (.aload_n 2, 1) := by decide +kernel
theorem dX11_digestPhis_53 : decode cX11_digestPhis 53 = .ok (.iload 6, 2) := by decide +kernel
theorem dX11_digestPhis_55 : decode cX11_digestPhis 55 = .ok (.aload_n 2, 1) := by decide +kernel
theorem dX11_digestPhis_56 : decode cX11_digestPhis 56 = .ok (.iload_n 3, 1) := by decide +kernel
theorem dX11_digestPhis_57 : decode cX11_digestPhis 57 = .ok (.iload 7, 2) := by decide +kernel
theorem dX11_digestPhis_59 : decode cX11_digestPhis 59 = .ok (.invokevirtual 172, 3) := by decide +kernel
theorem dX11_digestPhis_62 : decode cX11_digestPhis 62 = .ok (.invokevirtual 200, 3) := by decide +kernel
theorem dX11_digestPhis_65 : decode cX11_digestPhis 65 = .ok (.i2l, 1) := by decide +kernel
theorem dX11_digestPhis_66 : decode cX11_digestPhis 66 = .ok (.ladd, 1) := by decide +kernel
theorem dX11_digestPhis_67 : decode cX11_digestPhis 67 = .ok (.lstore 4, 2) := by decide +kernel
theorem dX11_digestPhis_69 : decode cX11_digestPhis 69 = .ok (.iinc 7 1, 3) := by decide +kernel
theorem dX11_digestPhis_72 : decode cX11_digestPhis 72 = .ok (.goto (-36), 3) := by decide +kernel
theorem dX11_digestPhis_75 : decode cX11_digestPhis 75 = .ok (.aload_n 2, 1) := by decide +kernel
theorem dX11_digestPhis_76 : decode cX11_digestPhis 76 = .ok (.getfield 368, 3) := by decide +kernel
theorem dX11_digestPhis_79 : decode cX11_digestPhis 79 = .ok (.iload 6, 2) := by decide +kernel
theorem dX11_digestPhis_81 : decode cX11_digestPhis 81 = .ok (.iaload, 1) := by decide +kernel
theorem dX11_digestPhis_82 : decode cX11_digestPhis 82 = .ok (.istore 6, 2) := by decide +kernel
theorem dX11_digestPhis_84 : decode cX11_digestPhis 84 = .ok (.goto (-73), 3) := by decide +kernel
theorem dX11_digestPhis_87 : decode cX11_digestPhis 87 = .ok (.lload 4, 2) := by decide +kernel
theorem dX11_digestPhis_89 : decode cX11_digestPhis 89 = .ok (.lreturn, 1) := by decide +kernel
theorem dX11_digestStep_0 : decode cX11_digestStep 0 = .ok (.lload_n 0, 1) := by decide +kernel
theorem dX11_digestStep_1 : decode cX11_digestStep 1 = .ok (.lstore 4, 2) := by decide +kernel
theorem dX11_digestStep_3 : decode cX11_digestStep 3 = .ok (.lload 4, 2) := by decide +kernel
theorem dX11_digestStep_5 : decode cX11_digestStep 5 = .ok (.ldc2_w 323, 3) := by decide +kernel
theorem dX11_digestStep_8 : decode cX11_digestStep 8 = .ok (.lmul, 1) := by decide +kernel
theorem dX11_digestStep_9 : decode cX11_digestStep 9 = .ok (.aload_n 2, 1) := by decide +kernel
theorem dX11_digestStep_10 : decode cX11_digestStep 10 = .ok (.getfield 214, 3) := by decide +kernel
theorem dX11_digestStep_13 : decode cX11_digestStep 13 = .ok (.iload_n 3, 1) := by decide +kernel
theorem dX11_digestStep_14 : decode cX11_digestStep 14 = .ok (.iaload, 1) := by decide +kernel
theorem dX11_digestStep_15 : decode cX11_digestStep 15 = .ok (.i2l, 1) := by decide +kernel
theorem dX11_digestStep_16 : decode cX11_digestStep 16 = .ok (.ladd, 1) := by decide +kernel
theorem dX11_digestStep_17 : decode cX11_digestStep 17 = .ok (.lstore 4, 2) := by decide +kernel
theorem dX11_digestStep_19 : decode cX11_digestStep 19 = .ok (.lload 4, 2) := by decide +kernel
theorem dX11_digestStep_21 : decode cX11_digestStep 21 = .ok (.ldc2_w 323, 3) := by decide +kernel
theorem dX11_digestStep_24 : decode cX11_digestStep 24 = .ok (.lmul, 1) := by decide +kernel
theorem dX11_digestStep_25 : decode cX11_digestStep 25 = .ok (.aload_n 2, 1) := by decide +kernel
theorem dX11_digestStep_26 : decode cX11_digestStep 26 = .ok (.getfield 219, 3) := by decide +kernel
theorem dX11_digestStep_29 : decode cX11_digestStep 29 = .ok (.iload_n 3, 1) := by decide +kernel
theorem dX11_digestStep_30 : decode cX11_digestStep 30 = .ok (.iaload, 1) := by decide +kernel
theorem dX11_digestStep_31 : decode cX11_digestStep 31 = .ok (.i2l, 1) := by decide +kernel
theorem dX11_digestStep_32 : decode cX11_digestStep 32 = .ok (.ladd, 1) := by decide +kernel
theorem dX11_digestStep_33 : decode cX11_digestStep 33 = .ok (.lstore 4, 2) := by decide +kernel
theorem dX11_digestStep_35 : decode cX11_digestStep 35 = .ok (.lload 4, 2) := by decide +kernel
theorem dX11_digestStep_37 : decode cX11_digestStep 37 = .ok (.ldc2_w 323, 3) := by decide +kernel
theorem dX11_digestStep_40 : decode cX11_digestStep 40 = .ok (.lmul, 1) := by decide +kernel
theorem dX11_digestStep_41 : decode cX11_digestStep 41 = .ok (.aload_n 2, 1) := by decide +kernel
theorem dX11_digestStep_42 : decode cX11_digestStep 42 = .ok (.getfield 222, 3) := by decide +kernel
theorem dX11_digestStep_45 : decode cX11_digestStep 45 = .ok (.iload_n 3, 1) := by decide +kernel
theorem dX11_digestStep_46 : decode cX11_digestStep 46 = .ok (.iaload, 1) := by decide +kernel
theorem dX11_digestStep_47 : decode cX11_digestStep 47 = .ok (.i2l, 1) := by decide +kernel
theorem dX11_digestStep_48 : decode cX11_digestStep 48 = .ok (.ladd, 1) := by decide +kernel
theorem dX11_digestStep_49 : decode cX11_digestStep 49 = .ok (.lstore 4, 2) := by decide +kernel
theorem dX11_digestStep_51 : decode cX11_digestStep 51 = .ok (.lload 4, 2) := by decide +kernel
theorem dX11_digestStep_53 : decode cX11_digestStep 53 = .ok (.ldc2_w 323, 3) := by decide +kernel
theorem dX11_digestStep_56 : decode cX11_digestStep 56 = .ok (.lmul, 1) := by decide +kernel
theorem dX11_digestStep_57 : decode cX11_digestStep 57 = .ok (.aload_n 2, 1) := by decide +kernel
theorem dX11_digestStep_58 : decode cX11_digestStep 58 = .ok (.getfield 225, 3) := by decide +kernel
theorem dX11_digestStep_61 : decode cX11_digestStep 61 = .ok (.iload_n 3, 1) := by decide +kernel
theorem dX11_digestStep_62 : decode cX11_digestStep 62 = .ok (.iaload, 1) := by decide +kernel
theorem dX11_digestStep_63 : decode cX11_digestStep 63 = .ok (.i2l, 1) := by decide +kernel
theorem dX11_digestStep_64 : decode cX11_digestStep 64 = .ok (.ladd, 1) := by decide +kernel
theorem dX11_digestStep_65 : decode cX11_digestStep 65 = .ok (.lstore 4, 2) := by decide +kernel
theorem dX11_digestStep_67 : decode cX11_digestStep 67 = .ok (.lload 4, 2) := by decide +kernel
theorem dX11_digestStep_69 : decode cX11_digestStep 69 = .ok (.lreturn, 1) := by decide +kernel
theorem dX11_digestSteps_0 : decode cX11_digestSteps 0 = .ok (.lload_n 0, 1) := by decide +kernel
theorem dX11_digestSteps_1 : decode cX11_digestSteps 1 = .ok (.lstore 4, 2) := by decide +kernel
theorem dX11_digestSteps_3 : decode cX11_digestSteps 3 = .ok (.aload_n 2, 1) := by decide +kernel
theorem dX11_digestSteps_4 : decode cX11_digestSteps 4 = .ok (.getfield 371, 3) := by decide +kernel
theorem dX11_digestSteps_7 : decode cX11_digestSteps 7 = .ok (.iload_n 3, 1) := by decide +kernel
theorem dX11_digestSteps_8 : decode cX11_digestSteps 8 = .ok (.iaload, 1) := by decide +kernel
theorem dX11_digestSteps_9 : decode cX11_digestSteps 9 = .ok (.istore 6, 2) := by decide +kernel
theorem dX11_digestSteps_11 : decode cX11_digestSteps 11 = .ok (.iload 6, 2) := by decide +kernel
theorem dX11_digestSteps_13 : decode cX11_digestSteps 13 = .ok (.ifCond .lt 31, 3) := by decide +kernel
theorem dX11_digestSteps_16 : decode cX11_digestSteps 16 = .ok (.lload 4, 2) := by decide +kernel
theorem dX11_digestSteps_18 : decode cX11_digestSteps 18 = .ok (.aload_n 2, 1) := by decide +kernel
theorem dX11_digestSteps_19 : decode cX11_digestSteps 19 = .ok (.getfield 210, 3) := by decide +kernel
theorem dX11_digestSteps_22 : decode cX11_digestSteps 22 = .ok (.iload 6, 2) := by decide +kernel
theorem dX11_digestSteps_24 : decode cX11_digestSteps 24 = .ok (.invokestatic 361, 3) := by decide +kernel
theorem dX11_digestSteps_27 : decode cX11_digestSteps 27 = .ok (.lstore 4, 2) := by decide +kernel
theorem dX11_digestSteps_29 : decode cX11_digestSteps 29 = .ok (.aload_n 2, 1) := by decide +kernel
theorem dX11_digestSteps_30 : decode cX11_digestSteps 30 = .ok (.getfield 210, 3) := by decide +kernel
theorem dX11_digestSteps_33 : decode cX11_digestSteps 33 = .ok (.getfield 374, 3) := by decide +kernel
theorem dX11_digestSteps_36 : decode cX11_digestSteps 36 = .ok (.iload 6, 2) := by decide +kernel
theorem dX11_digestSteps_38 : decode cX11_digestSteps 38 = .ok (.iaload, 1) := by decide +kernel
theorem dX11_digestSteps_39 : decode cX11_digestSteps 39 = .ok (.istore 6, 2) := by decide +kernel
theorem dX11_digestSteps_41 : decode cX11_digestSteps 41 = .ok (.goto (-30), 3) := by decide +kernel
theorem dX11_digestSteps_44 : decode cX11_digestSteps 44 = .ok (.lload 4, 2) := by decide +kernel
theorem dX11_digestSteps_46 : decode cX11_digestSteps 46 = .ok (.lreturn, 1) := by decide +kernel
theorem dX11_feed_0 : decode cX11_feed 0 = .ok (.aload_n 0, 1) := by decide +kernel
theorem dX11_feed_1 : decode cX11_feed 1 = .ok (.getfield 10, 3) := by decide +kernel
theorem dX11_feed_4 : decode cX11_feed 4 = .ok (.getfield 86, 3) := by decide +kernel
theorem dX11_feed_7 : decode cX11_feed 7 = .ok (.bipush 20, 2) := by decide +kernel
theorem dX11_feed_9 : decode cX11_feed 9 = .ok (.iadd, 1) := by decide +kernel
theorem dX11_feed_10 : decode cX11_feed 10 = .ok (.sipush 1200, 3) := by decide +kernel
theorem dX11_feed_13 : decode cX11_feed 13 = .ok (.if_icmp .le 13, 3) := by decide +kernel
theorem dX11_feed_26 : decode cX11_feed 26 = .ok (.aload_n 0, 1) := by decide +kernel
theorem dX11_feed_27 : decode cX11_feed 27 = .ok (.getfield 10, 3) := by decide +kernel
theorem dX11_feed_30 : decode cX11_feed 30 = .ok (.iload_n 1, 1) := by decide +kernel
theorem dX11_feed_31 : decode cX11_feed 31 = .ok (.invokevirtual 96, 3) := by decide +kernel
theorem dX11_feed_34 : decode cX11_feed 34 = .ok (.aload_n 0, 1) := by decide +kernel
theorem dX11_feed_35 : decode cX11_feed 35 = .ok (.getfield 10, 3) := by decide +kernel
theorem dX11_feed_38 : decode cX11_feed 38 = .ok (.iload_n 2, 1) := by decide +kernel
theorem dX11_feed_39 : decode cX11_feed 39 = .ok (.invokevirtual 96, 3) := by decide +kernel
theorem dX11_feed_42 : decode cX11_feed 42 = .ok (.aload_n 0, 1) := by decide +kernel
theorem dX11_feed_43 : decode cX11_feed 43 = .ok (.getfield 10, 3) := by decide +kernel
theorem dX11_feed_46 : decode cX11_feed 46 = .ok (.iload_n 3, 1) := by decide +kernel
theorem dX11_feed_47 : decode cX11_feed 47 = .ok (.invokevirtual 96, 3) := by decide +kernel
theorem dX11_feed_50 : decode cX11_feed 50 = .ok (.aload_n 0, 1) := by decide +kernel
theorem dX11_feed_51 : decode cX11_feed 51 = .ok (.getfield 10, 3) := by decide +kernel
theorem dX11_feed_54 : decode cX11_feed 54 = .ok (.iload 4, 2) := by decide +kernel
theorem dX11_feed_56 : decode cX11_feed 56 = .ok (.invokevirtual 96, 3) := by decide +kernel
theorem dX11_feed_59 : decode cX11_feed 59 = .ok (.aload_n 0, 1) := by decide +kernel
theorem dX11_feed_60 : decode cX11_feed 60 = .ok (.getfield 10, 3) := by decide +kernel
theorem dX11_feed_63 : decode cX11_feed 63 = .ok (.iload 5, 2) := by decide +kernel
theorem dX11_feed_65 : decode cX11_feed 65 = .ok (.invokevirtual 96, 3) := by decide +kernel
theorem dX11_feed_68 : decode cX11_feed 68 = .ok (.aload_n 0, 1) := by decide +kernel
theorem dX11_feed_69 : decode cX11_feed 69 = .ok (.getfield 10, 3) := by decide +kernel
theorem dX11_feed_72 : decode cX11_feed 72 = .ok (.getfield 86, 3) := by decide +kernel
theorem dX11_feed_75 : decode cX11_feed 75 = .ok (.ireturn, 1) := by decide +kernel
theorem dX11_functions_0 : decode cX11_functions 0 = .ok (.aload_n 0, 1) := by decide +kernel
theorem dX11_functions_1 : decode cX11_functions 1 = .ok (.getfield 61, 3) := by decide +kernel
theorem dX11_functions_4 : decode cX11_functions 4 = .ok (.getfield 112, 3) := by decide +kernel
theorem dX11_functions_7 : decode cX11_functions 7 = .ok (.ireturn, 1) := by decide +kernel
theorem dX11_needPlace_0 : decode cX11_needPlace 0 = .ok (.iload_n 1, 1) := by decide +kernel
theorem dX11_needPlace_1 : decode cX11_needPlace 1 = .ok (.ifCond .lt 8, 3) := by decide +kernel
theorem dX11_needPlace_4 : decode cX11_needPlace 4 = .ok (.iload_n 1, 1) := by decide +kernel
theorem dX11_needPlace_5 : decode cX11_needPlace 5 = .ok (.iload_n 2, 1) := by decide +kernel
theorem dX11_needPlace_6 : decode cX11_needPlace 6 = .ok (.if_icmp .lt 14, 3) := by decide +kernel
theorem dX11_needPlace_20 : decode cX11_needPlace 20 = .ok (.return_, 1) := by decide +kernel
theorem dX11_result_0 : decode cX11_result 0 = .ok (.aload_n 0, 1) := by decide +kernel
theorem dX11_result_1 : decode cX11_result 1 = .ok (.getfield 73, 3) := by decide +kernel
theorem dX11_result_4 : decode cX11_result 4 = .ok (.getfield 298, 3) := by decide +kernel
theorem dX11_result_7 : decode cX11_result 7 = .ok (.ireturn, 1) := by decide +kernel
theorem dX11_rounds_0 : decode cX11_rounds 0 = .ok (.aload_n 0, 1) := by decide +kernel
theorem dX11_rounds_1 : decode cX11_rounds 1 = .ok (.iload_n 1, 1) := by decide +kernel
theorem dX11_rounds_2 : decode cX11_rounds 2 = .ok (.invokevirtual 142, 3) := by decide +kernel
theorem dX11_rounds_5 : decode cX11_rounds 5 = .ok (.aload_n 0, 1) := by decide +kernel
theorem dX11_rounds_6 : decode cX11_rounds 6 = .ok (.getfield 54, 3) := by decide +kernel
theorem dX11_rounds_9 : decode cX11_rounds 9 = .ok (.getfield 138, 3) := by decide +kernel
theorem dX11_rounds_12 : decode cX11_rounds 12 = .ok (.ifCond .eq 15, 3) := by decide +kernel
theorem dX11_rounds_15 : decode cX11_rounds 15 = .ok (.aload_n 0, 1) := by decide +kernel
theorem dX11_rounds_16 : decode cX11_rounds 16 = .ok (.getfield 54, 3) := by decide +kernel
theorem dX11_rounds_19 : decode cX11_rounds 19 = .ok (.getfield 281, 3) := by decide +kernel
theorem dX11_rounds_22 : decode cX11_rounds 22 = .ok (.iload_n 1, 1) := by decide +kernel
theorem dX11_rounds_23 : decode cX11_rounds 23 = .ok (.iaload, 1) := by decide +kernel
theorem dX11_rounds_24 : decode cX11_rounds 24 = .ok (.goto 4, 3) := by decide +kernel
theorem dX11_rounds_27 : decode cX11_rounds 27 = .ok (.iconst 0, 1) := by decide +kernel
theorem dX11_rounds_28 : decode cX11_rounds 28 = .ok (.ireturn, 1) := by decide +kernel
theorem dX11_slots_0 : decode cX11_slots 0 = .ok (.aload_n 0, 1) := by decide +kernel
theorem dX11_slots_1 : decode cX11_slots 1 = .ok (.iload_n 1, 1) := by decide +kernel
theorem dX11_slots_2 : decode cX11_slots 2 = .ok (.invokevirtual 142, 3) := by decide +kernel
theorem dX11_slots_5 : decode cX11_slots 5 = .ok (.aload_n 0, 1) := by decide +kernel
theorem dX11_slots_6 : decode cX11_slots 6 = .ok (.getfield 54, 3) := by decide +kernel
theorem dX11_slots_9 : decode cX11_slots 9 = .ok (.getfield 138, 3) := by decide +kernel
theorem dX11_slots_12 : decode cX11_slots 12 = .ok (.ifCond .eq 15, 3) := by decide +kernel
theorem dX11_slots_15 : decode cX11_slots 15 = .ok (.aload_n 0, 1) := by decide +kernel
theorem dX11_slots_16 : decode cX11_slots 16 = .ok (.getfield 54, 3) := by decide +kernel
theorem dX11_slots_19 : decode cX11_slots 19 = .ok (.getfield 275, 3) := by decide +kernel
theorem dX11_slots_22 : decode cX11_slots 22 = .ok (.iload_n 1, 1) := by decide +kernel
theorem dX11_slots_23 : decode cX11_slots 23 = .ok (.iaload, 1) := by decide +kernel
theorem dX11_slots_24 : decode cX11_slots 24 = .ok (.goto 4, 3) := by decide +kernel
theorem dX11_slots_27 : decode cX11_slots 27 = .ok (.iconst 0, 1) := by decide +kernel
theorem dX11_slots_28 : decode cX11_slots 28 = .ok (.ireturn, 1) := by decide +kernel
theorem dX11_word_0 : decode cX11_word 0 = .ok (.aload_n 0, 1) := by decide +kernel
theorem dX11_word_1 : decode cX11_word 1 = .ok (.iload_n 1, 1) := by decide +kernel
theorem dX11_word_2 : decode cX11_word 2 = .ok (.bipush 16, 2) := by decide +kernel
theorem dX11_word_4 : decode cX11_word 4 = .ok (.invokevirtual 168, 3) := by decide +kernel
theorem dX11_word_7 : decode cX11_word 7 = .ok (.aload_n 0, 1) := by decide +kernel
theorem dX11_word_8 : decode cX11_word 8 = .ok (.getfield 73, 3) := by decide +kernel
theorem dX11_word_11 : decode cX11_word 11 = .ok (.getfield 303, 3) := by decide +kernel
theorem dX11_word_14 : decode cX11_word 14 = .ok (.iload_n 1, 1) := by decide +kernel
theorem dX11_word_15 : decode cX11_word 15 = .ok (.iaload, 1) := by decide +kernel
theorem dX11_word_16 : decode cX11_word 16 = .ok (.ireturn, 1) := by decide +kernel
theorem qw8 : Cond.initialized RX10 ∈ gw := mq_1 (i := 17) rfl rfl
theorem qw976 : Cond.fieldLink RX11 54 "Gearbox" "allocator" "LGearbox$Allocator;" ∈ gw := mq_4 (i := 54) rfl rfl
theorem qw978 : Cond.code yX11_needFunction cX11_needFunction 2 (Option.none : Option Jvm.ClassFile.FieldType) ∈ gw := mq_9 (i := 142) rfl rfl
theorem qw979 : Cond.methodLink RX11 142 yX11_needFunction ∈ gw := mq_9 (i := 139) rfl rfl
theorem qw980 : Cond.instanceMethod yX11_needFunction ∈ gw := mq_9 (i := 141) rfl rfl
theorem qw981 : Cond.selects RX11 yX11_needFunction yX11_needFunction ∈ gw := mk_s (i := 108) rfl rfl
theorem qw982 : Cond.fieldLink RX11 138 "Gearbox$Allocator" "hasCode" "Z" ∈ gw := mq_3 (i := 98) rfl rfl
theorem qw985 : Cond.fieldLink RX11 73 "Gearbox" "machine" "LGearbox$Machine;" ∈ gw := mq_4 (i := 55) rfl rfl
theorem qw995 : Cond.fieldLink RX11 298 "Gearbox$Machine" "result" "I" ∈ gw := mq_3 (i := 225) rfl rfl
theorem qw997 : Cond.fieldLink RX11 303 "Gearbox$Machine" "memory" "[I" ∈ gw := mq_3 (i := 229) rfl rfl
theorem qw1011 : Cond.fieldLink RX11 365 "Gearbox$Flow" "firstPhi" "[I" ∈ gw := mq_2 (i := 1) rfl rfl
theorem qw1012 : Cond.fieldLink RX11 197 "Gearbox$Flow" "phiGives" "[I" ∈ gw := mq_2 (i := 62) rfl rfl
theorem qw1013 : Cond.methodLink RX11 200 yX1_take ∈ gw := mq_10 (i := 89) rfl rfl
theorem qw1014 : Cond.fieldLink RX11 368 "Gearbox$Flow" "phiNext" "[I" ∈ gw := mq_2 (i := 69) rfl rfl
theorem qw1015 : Cond.fieldLink RX11 214 "Gearbox$Steps" "kind" "[I" ∈ gw := mq_1 (i := 167) rfl rfl
theorem qw1016 : Cond.fieldLink RX11 219 "Gearbox$Steps" "gives" "[I" ∈ gw := mq_1 (i := 174) rfl rfl
theorem qw1017 : Cond.fieldLink RX11 222 "Gearbox$Steps" "left" "[I" ∈ gw := mq_1 (i := 181) rfl rfl
theorem qw1018 : Cond.fieldLink RX11 225 "Gearbox$Steps" "right" "[I" ∈ gw := mq_1 (i := 188) rfl rfl
theorem qw1019 : Cond.fieldLink RX11 371 "Gearbox$Flow" "firstStep" "[I" ∈ gw := mq_1 (i := 232) rfl rfl
theorem qw1020 : Cond.fieldLink RX11 210 "Gearbox$Flow" "steps" "LGearbox$Steps;" ∈ gw := mq_1 (i := 225) rfl rfl
theorem qw1021 : Cond.code yX11_digestStep cX11_digestStep 6 (Option.some Jvm.ClassFile.FieldType.long) ∈ gw := mq_10 (i := 95) rfl rfl
theorem qw1022 : Cond.methodLink RX11 361 yX11_digestStep ∈ gw := mq_10 (i := 93) rfl rfl
theorem qw1023 : Cond.static yX11_digestStep ∈ gw := mq_10 (i := 94) rfl rfl
theorem qw1024 : Cond.fieldLink RX11 374 "Gearbox$Steps" "next" "[I" ∈ gw := mq_1 (i := 195) rfl rfl
theorem qw1026 : Cond.fieldLink RX11 10 "Gearbox" "tokens" "LGearbox$Tokens;" ∈ gw := mq_4 (i := 49) rfl rfl
theorem qw1027 : Cond.fieldLink RX11 86 "Gearbox$Tokens" "length" "I" ∈ gw := mq_1 (i := 51) rfl rfl
theorem qw1028 : Cond.code yX10_append cX10_append 3 (Option.none : Option Jvm.ClassFile.FieldType) ∈ gw := mq_11 (i := 55) rfl rfl
theorem qw1029 : Cond.methodLink RX11 96 yX10_append ∈ gw := mq_11 (i := 52) rfl rfl
theorem qw1030 : Cond.instanceMethod yX10_append ∈ gw := mq_11 (i := 53) rfl rfl
theorem qw1031 : Cond.selects RX10 yX10_append yX10_append ∈ gw := mq_11 (i := 54) rfl rfl
theorem qw1035 : Cond.fieldLink RX11 281 "Gearbox$Allocator" "roundCounts" "[I" ∈ gw := mq_3 (i := 96) rfl rfl
theorem qw1037 : Cond.fieldLink RX11 275 "Gearbox$Allocator" "slotCounts" "[I" ∈ gw := mq_3 (i := 92) rfl rfl
theorem qw1038 : Cond.code yX11_needPlace cX11_needPlace 3 (Option.none : Option Jvm.ClassFile.FieldType) ∈ gw := mq_10 (i := 37) rfl rfl
theorem qw1039 : Cond.methodLink RX11 168 yX11_needPlace ∈ gw := mq_10 (i := 34) rfl rfl
theorem qw1040 : Cond.instanceMethod yX11_needPlace ∈ gw := mq_10 (i := 36) rfl rfl
theorem qw1041 : Cond.selects RX11 yX11_needPlace yX11_needPlace ∈ gw := mk_s (i := 109) rfl rfl
def fX11_digestPhis_L36 (p1n : Nat → Nat) (p1w : ST) (p2 : Int32) (v6_11 : Int32) : Nat → Int64 → Int32 → Option Int64
  | 0 => fun _ _ => none
  | n_36 + 1 => fun v4_36 v7_36 => ((fX1_waysTo p1w p2).bind fun (o_4 : Int32) => (if o_4 ≤ v7_36 then some v4_36 else ((fX1_wayFrom p1w p2 v7_36).bind fun (o_7 : Int32) => ((fX1_take p1n p1w v6_11 o_7).bind fun (o_9 : Int32) => ((fX11_digestPhis_L36 p1n p1w p2 v6_11 n_36) ((v4_36 * (31 : Int64)) + ((o_9 : Int32).toInt64)) (v7_36 + 1))))))
def fX11_digestPhis_L11 (p1n : Nat → Nat) (p1w : ST) (p2 : Int32) : Nat → Int64 → Int32 → Option Int64
  | 0 => fun _ _ => none
  | n_11 + 1 => fun v4_11 v6_11 => (if v6_11 < 0 then some v4_11 else (if ixb v6_11 (p1n 19) = true then ((fX11_digestPhis_L36 p1n p1w p2 v6_11 NF ((v4_11 * (31 : Int64)) + (((p1w 19 (nn v6_11)) : Int32).toInt64)) 0).bind fun (o36 : Int64) => (if ixb v6_11 (p1n 20) = true then ((fX11_digestPhis_L11 p1n p1w p2 n_11) o36 (p1w 20 (nn v6_11))) else none)) else none))
def fX11_digestPhis (p0 : Int64) (p1n : Nat → Nat) (p1w : ST) (p2 : Int32) : Option Int64 := (if ixb p2 60 = true then ((fX11_digestPhis_L11 p1n p1w p2 NF p0 (p1w 6 (nn p2))).bind fun (o11 : Int64) => some o11) else none)
set_option maxHeartbeats 16000000 in
set_option maxRecDepth 100000 in
theorem kX11_digestPhis {zs : Nat × Nat} (l : Launch) (dC : Nat → ClassId) (dI : Nat → Nat → Nat) (p0 : Int64) (p1a : Nat → Nat) (p1k : Nat → ClassId) (p1n : Nat → Nat) (p1w : ST) (p1l : SL) (p2 : Int32) (sz : Nat) (o : Int64) (hrun : fX11_digestPhis p0 p1n p1w p2 = some o) : Met l yX11_digestPhis (wz yX11_digestPhis cX11_digestPhis 8 (Option.some Jvm.ClassFile.FieldType.long)) ({ frames := 1, cells := 0, slots := 0, locals := 22 } : Room) (va_Pc [.long p0, .ref (p1a 0), .int p2] (PRE zs dC dI (oX1 (p1a 0) p1a p1k p1n p1w p1l) (tX1 p1k) sz)) (va_Ql (fun (r : Int64) (_ : Unit) => r = o) (fun _ t => POST dC dI (oX1 (p1a 0) p1a p1k p1n p1w p1l) (tX1 p1k) (va_A (oX1 (p1a 0) p1a p1k p1n p1w p1l) sz) t) (va_A (oX1 (p1a 0) p1a p1k p1n p1w p1l) sz)) 0 0 (va_A (oX1 (p1a 0) p1a p1k p1n p1w p1l) sz) := by
  refine Met.ofW (cc := cX11_digestPhis) (maxL := 8) (ret := (Option.some Jvm.ClassFile.FieldType.long)) (by decide) rfl ?_
  intro p e s m args below meth c s₁ B hml hv
  obtain ⟨rfl, hsz, hP, hK, hD0, hE⟩ := hv
  have hx := B.exec
  have hb := B.bytes
  have hr := B.returns
  have hts0 := atoms_spec (ws := wz yX11_digestPhis cX11_digestPhis 8 (Option.some Jvm.ClassFile.FieldType.long)) B.pre
  have hts : ∀ w ∈ gw, w.before _ s = true := fun w h => hts0 w (List.mem_cons_of_mem _ h)
  have hown : s.vm.findClass RX11 = some m.cls := findClass_of_methodNamed B.named
  have hlocks := B.notSynchronized
  subst hsz
  have hD := hD0.self (sz := s.heap.size)
  refine gQ9 ?_
  intro Q hQ
  generalize hAe : va_A (oX1 (p1a 0) p1a p1k p1n p1w p1l) s.heap.size = A at hD hE hQ
  have hA : ∀ q : Nat, s.heap.size ≤ q → A q := fun q h => by rw [← hAe]; exact Or.inr h
  have hS : va_S A s.heap s.heap [] := va_S.rf
  have hP : va_P (dC, dI) cls (oX1 (p1a 0) p1a p1k p1n p1w p1l) s.heap := hP
  have hl := lv_entry ([.long p0, .ref (p1a 0), .int p2]) (n := 8) (Nat.le_of_ble_eq_true rfl)
  rw [lg_entry_eq]
  generalize (lg_sl ([.long p0, .ref (p1a 0), .int p2]) ++ List.replicate (8 - (lg_sl ([.long p0, .ref (p1a 0), .int p2])).length) Slot.unset).toArray = ls at hl ⊢
  have hl : lv_has ls 8 [(0, .long p0), (2, .ref (p1a 0)), (3, .int p2)] := hl
  obtain ⟨H, hHe⟩ : ∃ H, H = s.heap := ⟨_, rfl⟩
  obtain ⟨locs, hle⟩ : ∃ locs : List Loc, locs = [] := ⟨_, rfl⟩
  rw [← hHe] at hP
  have hS : va_S A s.heap H locs := by rw [hHe, hle]; exact hS
  show W p l e ({ frames := 1, cells := 0, slots := 0, locals := 22 } : Room) s m ([.long p0, .ref (p1a 0), .int p2] : List Value).toArray below meth c s.heap [] 0 0 Q (F0 m 0 ls [])
  rw [← hle]
  refine wH9 hHe ?_
  unfold fX11_digestPhis at hrun
  refine lv_lload_n hx hb dX11_digestPhis_0 rfl (lv_at hl 0 rfl) ?_
  refine lv_lstore (lv' := [(4, .long p0), (0, .long p0), (2, .ref (p1a 0)), (3, .int p2)]) hx hb dX11_digestPhis_1 hl (by decide) rfl (fun ls hl => ?_)
  refine lv_aload_n hx hb dX11_digestPhis_3 rfl (lv_at hl 2 rfl) ?_
  refine va_get (D := (dC, dI)) (ci := 4) (v := .ref (p1a 6)) (C := RX1) (T := TX1) (N := 21) hx hb hts i_X1 hown hK hP 0 rfl rfl 5 (by decide) (hts _ qw1011) (fun _ h9 => h9) rfl dX11_digestPhis_4 ?_
  refine lv_iload_n hx hb dX11_digestPhis_7 rfl (lv_at hl 3 rfl) ?_
  obtain ⟨hq1, hrun⟩ := chk9 hrun
  refine va_iald hx hb hK hP 3 2 rfl rfl (ixb_in hq1) dX11_digestPhis_8 ?_
  refine lv_istore (lv' := [(6, .int (p1w 6 (nn p2))), (4, .long p0), (0, .long p0), (2, .ref (p1a 0)), (3, .int p2)]) hx hb dX11_digestPhis_9 hl (by decide) rfl (fun ls hl => ?_)
  have L11 : ∀ (n_11 : Nat) (v4_11 : Int64) (v6_11 : Int32) (o11 : Int64) (H : Heap) (locs : List Loc) (ls : Array Slot), (fX11_digestPhis_L11 p1n p1w p2 n_11) v4_11 v6_11 = some o11 → va_P (dC, dI) cls (oX1 (p1a 0) p1a p1k p1n p1w p1l) H → va_D A (oX1 (p1a 0) p1a p1k p1n p1w p1l) → va_K (dC, dI) cls (tX1 p1k) s → va_S A s.heap H locs → lv_has ls 8 [(2, .ref (p1a 0)), (3, .int p2), (4, .long v4_11), (6, .int v6_11)] → (∀ (H : Heap) (locs : List Loc) (ls : Array Slot), va_P (dC, dI) cls (oX1 (p1a 0) p1a p1k p1n p1w p1l) H → va_D A (oX1 (p1a 0) p1a p1k p1n p1w p1l) → va_K (dC, dI) cls (tX1 p1k) s → va_S A s.heap H locs → lv_has ls 8 [(4, .long o11)] → W p l e ({ frames := 1, cells := 0, slots := 0, locals := 22 } : Room) s m ([.long p0, .ref (p1a 0), .int p2] : List Value).toArray below meth c H locs 0 0 Q (F0 m 87 ls [])) → W p l e ({ frames := 1, cells := 0, slots := 0, locals := 22 } : Room) s m ([.long p0, .ref (p1a 0), .int p2] : List Value).toArray below meth c H locs 0 0 Q (F0 m 11 ls []) := by
    intro n_11
    induction n_11 with
    | zero => intro v4_11 v6_11 o11 H locs ls hrun; exact (no9 rfl hrun).elim
    | succ n_11 IH11 =>
      intro v4_11 v6_11 o11 H locs ls hrun hP hD hK hS hl hk11
      unfold fX11_digestPhis_L11 at hrun
      refine lv_iload hx hb dX11_digestPhis_11 (lv_at hl 3 rfl) ?_
      rcases br9 hrun with ⟨hc2, hrun⟩ | ⟨hc2, hrun⟩
      · refine lv_if_lt (tgt := 87) hx hb dX11_digestPhis_13 (by decide) (fun _ => ?_) (fun c => absurd hc2 c)
        obtain rfl := (Option.some.inj hrun)
        exact hk11 _ _ _ hP hD hK hS (lv_sub hl [2] rfl)
      · refine lv_if_lt (tgt := 87) hx hb dX11_digestPhis_13 (by decide) (fun c => absurd c hc2) (fun _ => ?_)
        refine lv_lload hx hb dX11_digestPhis_16 (lv_at hl 2 rfl) ?_
        refine lv_ldc2 (v := 31) hx hb hown (hts _ qw992) dX11_digestPhis_18 ?_
        refine lv_lmul hx hb dX11_digestPhis_21 ?_
        refine lv_aload_n hx hb dX11_digestPhis_22 rfl (lv_at hl 0 rfl) ?_
        refine va_get (D := (dC, dI)) (ci := 4) (v := .ref (p1a 19)) (C := RX1) (T := TX1) (N := 21) hx hb hts i_X1 hown hK hP 0 rfl rfl 18 (by decide) (hts _ qw1012) (fun _ h9 => h9) rfl dX11_digestPhis_23 ?_
        refine lv_iload hx hb dX11_digestPhis_26 (lv_at hl 3 rfl) ?_
        obtain ⟨hq3, hrun⟩ := chk9 hrun
        refine va_iald hx hb hK hP 15 14 rfl rfl (ixb_in hq3) dX11_digestPhis_28 ?_
        refine lv_i2l (v := (((p1w 19 (nn v6_11)) : Int32).toInt64)) hx hb dX11_digestPhis_29 rfl ?_
        refine lv_ladd hx hb dX11_digestPhis_30 ?_
        refine lv_lstore (lv' := [(4, .long ((v4_11 * (31 : Int64)) + (((p1w 19 (nn v6_11)) : Int32).toInt64))), (2, .ref (p1a 0)), (3, .int p2), (6, .int v6_11)]) hx hb dX11_digestPhis_31 hl (by decide) rfl (fun ls hl => ?_)
        refine lv_iconst (v := 0) hx hb dX11_digestPhis_33 (by decide) ?_
        refine lv_istore (lv' := [(7, .int 0), (4, .long ((v4_11 * (31 : Int64)) + (((p1w 19 (nn v6_11)) : Int32).toInt64))), (2, .ref (p1a 0)), (3, .int p2), (6, .int v6_11)]) hx hb dX11_digestPhis_34 hl (by decide) rfl (fun ls hl => ?_)
        have L36 : ∀ (n_36 : Nat) (v4_36 : Int64) (v7_36 : Int32) (o36 : Int64) (H : Heap) (locs : List Loc) (ls : Array Slot), (fX11_digestPhis_L36 p1n p1w p2 v6_11 n_36) v4_36 v7_36 = some o36 → va_P (dC, dI) cls (oX1 (p1a 0) p1a p1k p1n p1w p1l) H → va_D A (oX1 (p1a 0) p1a p1k p1n p1w p1l) → va_K (dC, dI) cls (tX1 p1k) s → va_S A s.heap H locs → lv_has ls 8 [(2, .ref (p1a 0)), (3, .int p2), (4, .long v4_36), (6, .int v6_11), (7, .int v7_36)] → (∀ (H : Heap) (locs : List Loc) (ls : Array Slot), va_P (dC, dI) cls (oX1 (p1a 0) p1a p1k p1n p1w p1l) H → va_D A (oX1 (p1a 0) p1a p1k p1n p1w p1l) → va_K (dC, dI) cls (tX1 p1k) s → va_S A s.heap H locs → lv_has ls 8 [(2, .ref (p1a 0)), (3, .int p2), (4, .long o36), (6, .int v6_11)] → W p l e ({ frames := 1, cells := 0, slots := 0, locals := 22 } : Room) s m ([.long p0, .ref (p1a 0), .int p2] : List Value).toArray below meth c H locs 0 0 Q (F0 m 75 ls [])) → W p l e ({ frames := 1, cells := 0, slots := 0, locals := 22 } : Room) s m ([.long p0, .ref (p1a 0), .int p2] : List Value).toArray below meth c H locs 0 0 Q (F0 m 36 ls []) := by
          intro n_36
          induction n_36 with
          | zero => intro v4_36 v7_36 o36 H locs ls hrun; exact (no9 rfl hrun).elim
          | succ n_36 IH36 =>
            intro v4_36 v7_36 o36 H locs ls hrun hP hD hK hS hl hk36
            unfold fX11_digestPhis_L36 at hrun
            refine lv_iload hx hb dX11_digestPhis_36 (lv_at hl 4 rfl) ?_
            refine lv_aload_n hx hb dX11_digestPhis_38 rfl (lv_at hl 0 rfl) ?_
            refine lv_iload_n hx hb dX11_digestPhis_39 rfl (lv_at hl 1 rfl) ?_
            obtain ⟨o_4, hc_4, hrun⟩ := bnd9 hrun
            have hPc := hP.sub (ws' := (oX1 (p1a 0) p1a p1k p1n p1w p1l)) [0, 1, 2, 3, 4, 5, 6, 7, 8, 9, 10, 11, 12, 13, 14, 15, 16, 17] rfl
            have hDc := hD.sub (ws' := (oX1 (p1a 0) p1a p1k p1n p1w p1l)) [0, 1, 2, 3, 4, 5, 6, 7, 8, 9, 10, 11, 12, 13, 14, 15, 16, 17] (by decide) rfl
            have hKc := hK.sub (tys' := (tX1 p1k)) [0, 1, 2, 3, 4, 5, 6, 7, 8, 9, 10, 11, 12, 13, 14, 15, 16] rfl
            have hFc := va_free (wc := (oX1 (p1a 0) p1a p1k p1n p1w p1l)) hD hS hA [0, 1, 2, 3, 4, 5, 6, 7, 8, 9, 10, 11, 12, 13, 14, 15, 16, 17] rfl
            refine va_calli (va_runV (As := [.int p2]) (rest := [.int v7_36]) ⟨hx, hb, hml, hown, hts⟩ (kX1_waysTo l dC dI (p0a := (st0 (p1a 0) p1a)) (p0k := p1k) (p0n := p1n) (p0w := p1w) (p0l := p1l) (p1 := p2) (sz := _) (o := o_4) (hrun := hc_4)) (cwV 1 hts (gi_V qw1009 qw185 qw186 qw126 (gi_z qw183)) rfl rfl rfl (by decide +kernel) ⟨Nat.le_of_ble_eq_true rfl, Nat.le_of_ble_eq_true rfl⟩) ⟨PRE.blind, va_recv hKc hPc (ci := 4) (q0 := 0) rfl rfl, PRE.of hE hS hFc hPc hKc hDc⟩ rfl rfl hl.1 rfl (lv_room (Nat.le_of_ble_eq_true rfl)) dX11_digestPhis_40 ⟨(Nat.le_of_ble_eq_true rfl), (Nat.le_of_ble_eq_true rfl)⟩) hS (fun q _ h => hFc q h) hFc (fun r5 u t H locs ht hvm hw hB hz1 hk1 hS => ?_)
            obtain ⟨hP, hD, hK⟩ := JOIN (wr := ([] : va_W)) hP hD hK [0, 1, 2, 3, 4, 5, 6, 7, 8, 9, 10, 11, 12, 13, 14, 15, 16, 17] [] [] rfl rfl (by decide) (by decide) rfl hk1 hFc ht hvm hB
            have hP : va_P (dC, dI) cls (oX1 (p1a 0) p1a p1k p1n p1w p1l) H := hP.sub [0, 1, 2, 3, 4, 5, 6, 7, 8, 9, 10, 11, 12, 13, 14, 15, 16, 17] rfl
            have hD : va_D A (oX1 (p1a 0) p1a p1k p1n p1w p1l) := hD.sub [0, 1, 2, 3, 4, 5, 6, 7, 8, 9, 10, 11, 12, 13, 14, 15, 16, 17] (by decide) rfl
            have hK : va_K (dC, dI) cls (tX1 p1k) s := hK.sub [0, 1, 2, 3, 4, 5, 6, 7, 8, 9, 10, 11, 12, 13, 14, 15, 16] rfl
            obtain rfl : o_4 = r5 := hw.symm
            rcases br9 hrun with ⟨hc6, hrun⟩ | ⟨hc6, hrun⟩
            · refine lv_icmp_ge (tgt := 75) hx hb dX11_digestPhis_43 (by decide) (fun _ => ?_) (fun c => absurd hc6 c)
              obtain rfl := (Option.some.inj hrun)
              exact hk36 _ _ _ hP hD hK hS (lv_sub hl [0, 1, 2, 3] rfl)
            · refine lv_icmp_ge (tgt := 75) hx hb dX11_digestPhis_43 (by decide) (fun c => absurd c hc6) (fun _ => ?_)
              refine lv_lload hx hb dX11_digestPhis_46 (lv_at hl 2 rfl) ?_
              refine lv_ldc2 (v := 31) hx hb hown (hts _ qw992) dX11_digestPhis_48 ?_
              refine lv_lmul hx hb dX11_digestPhis_51 ?_
              refine lv_aload_n hx hb dX11_digestPhis_52 rfl (lv_at hl 0 rfl) ?_
              refine lv_iload hx hb dX11_digestPhis_53 (lv_at hl 3 rfl) ?_
              refine lv_aload_n hx hb dX11_digestPhis_55 rfl (lv_at hl 0 rfl) ?_
              refine lv_iload_n hx hb dX11_digestPhis_56 rfl (lv_at hl 1 rfl) ?_
              refine lv_iload hx hb dX11_digestPhis_57 (lv_at hl 4 rfl) ?_
              obtain ⟨o_7, hc_7, hrun⟩ := bnd9 hrun
              have hPc := hP.sub (ws' := (oX1 (p1a 0) p1a p1k p1n p1w p1l)) [0, 1, 2, 3, 4, 5, 6, 7, 8, 9, 10, 11, 12, 13, 14, 15, 16, 17] rfl
              have hDc := hD.sub (ws' := (oX1 (p1a 0) p1a p1k p1n p1w p1l)) [0, 1, 2, 3, 4, 5, 6, 7, 8, 9, 10, 11, 12, 13, 14, 15, 16, 17] (by decide) rfl
              have hKc := hK.sub (tys' := (tX1 p1k)) [0, 1, 2, 3, 4, 5, 6, 7, 8, 9, 10, 11, 12, 13, 14, 15, 16] rfl
              have hFc := va_free (wc := (oX1 (p1a 0) p1a p1k p1n p1w p1l)) hD hS hA [0, 1, 2, 3, 4, 5, 6, 7, 8, 9, 10, 11, 12, 13, 14, 15, 16, 17] rfl
              refine va_calli (va_runV (As := [.int p2, .int v7_36]) (rest := [.int v6_11, .ref (p1a 0), .long (v4_36 * (31 : Int64))]) ⟨hx, hb, hml, hown, hts⟩ (kX1_wayFrom l dC dI (p0a := (st0 (p1a 0) p1a)) (p0k := p1k) (p0n := p1n) (p0w := p1w) (p0l := p1l) (p1 := p2) (p2 := v7_36) (sz := _) (o := o_7) (hrun := hc_7)) (cwV 2 hts (gi_V qw1010 qw189 qw190 qw126 (gi_z qw187)) rfl rfl rfl (by decide +kernel) ⟨Nat.le_of_ble_eq_true rfl, Nat.le_of_ble_eq_true rfl⟩) ⟨PRE.blind, va_recv hKc hPc (ci := 4) (q0 := 0) rfl rfl, PRE.of hE hS hFc hPc hKc hDc⟩ rfl rfl hl.1 rfl (lv_room (Nat.le_of_ble_eq_true rfl)) dX11_digestPhis_59 ⟨(Nat.le_of_ble_eq_true rfl), (Nat.le_of_ble_eq_true rfl)⟩) hS (fun q _ h => hFc q h) hFc (fun r8 u t H locs ht hvm hw hB hz1 hk1 hS => ?_)
              obtain ⟨hP, hD, hK⟩ := JOIN (wr := ([] : va_W)) hP hD hK [0, 1, 2, 3, 4, 5, 6, 7, 8, 9, 10, 11, 12, 13, 14, 15, 16, 17] [] [] rfl rfl (by decide) (by decide) rfl hk1 hFc ht hvm hB
              have hP : va_P (dC, dI) cls (oX1 (p1a 0) p1a p1k p1n p1w p1l) H := hP.sub [0, 1, 2, 3, 4, 5, 6, 7, 8, 9, 10, 11, 12, 13, 14, 15, 16, 17] rfl
              have hD : va_D A (oX1 (p1a 0) p1a p1k p1n p1w p1l) := hD.sub [0, 1, 2, 3, 4, 5, 6, 7, 8, 9, 10, 11, 12, 13, 14, 15, 16, 17] (by decide) rfl
              have hK : va_K (dC, dI) cls (tX1 p1k) s := hK.sub [0, 1, 2, 3, 4, 5, 6, 7, 8, 9, 10, 11, 12, 13, 14, 15, 16] rfl
              obtain rfl : o_7 = r8 := hw.symm
              obtain ⟨o_9, hc_9, hrun⟩ := bnd9 hrun
              have hPc := hP.sub (ws' := (oX1 (p1a 0) p1a p1k p1n p1w p1l)) [0, 1, 2, 3, 4, 5, 6, 7, 8, 9, 10, 11, 12, 13, 14, 15, 16, 17] rfl
              have hDc := hD.sub (ws' := (oX1 (p1a 0) p1a p1k p1n p1w p1l)) [0, 1, 2, 3, 4, 5, 6, 7, 8, 9, 10, 11, 12, 13, 14, 15, 16, 17] (by decide) rfl
              have hKc := hK.sub (tys' := (tX1 p1k)) [0, 1, 2, 3, 4, 5, 6, 7, 8, 9, 10, 11, 12, 13, 14, 15, 16] rfl
              have hFc := va_free (wc := (oX1 (p1a 0) p1a p1k p1n p1w p1l)) hD hS hA [0, 1, 2, 3, 4, 5, 6, 7, 8, 9, 10, 11, 12, 13, 14, 15, 16, 17] rfl
              refine va_calli (va_runV (As := [.int v6_11, .int o_7]) (rest := [.long (v4_36 * (31 : Int64))]) ⟨hx, hb, hml, hown, hts⟩ (kX1_take l dC dI (p0a := (st0 (p1a 0) p1a)) (p0k := p1k) (p0n := p1n) (p0w := p1w) (p0l := p1l) (p1 := v6_11) (p2 := o_7) (sz := _) (o := o_9) (hrun := hc_9)) (cwV 2 hts (gi_V qw1013 qw470 qw471 qw126 (gi_z qw468)) rfl rfl rfl (by decide +kernel) ⟨Nat.le_of_ble_eq_true rfl, Nat.le_of_ble_eq_true rfl⟩) ⟨PRE.blind, va_recv hKc hPc (ci := 4) (q0 := 0) rfl rfl, PRE.of hE hS hFc hPc hKc hDc⟩ rfl rfl hl.1 rfl (lv_room (Nat.le_of_ble_eq_true rfl)) dX11_digestPhis_62 ⟨(Nat.le_of_ble_eq_true rfl), (Nat.le_of_ble_eq_true rfl)⟩) hS (fun q _ h => hFc q h) hFc (fun r10 u t H locs ht hvm hw hB hz1 hk1 hS => ?_)
              obtain ⟨hP, hD, hK⟩ := JOIN (wr := ([] : va_W)) hP hD hK [0, 1, 2, 3, 4, 5, 6, 7, 8, 9, 10, 11, 12, 13, 14, 15, 16, 17] [] [] rfl rfl (by decide) (by decide) rfl hk1 hFc ht hvm hB
              have hP : va_P (dC, dI) cls (oX1 (p1a 0) p1a p1k p1n p1w p1l) H := hP.sub [0, 1, 2, 3, 4, 5, 6, 7, 8, 9, 10, 11, 12, 13, 14, 15, 16, 17] rfl
              have hD : va_D A (oX1 (p1a 0) p1a p1k p1n p1w p1l) := hD.sub [0, 1, 2, 3, 4, 5, 6, 7, 8, 9, 10, 11, 12, 13, 14, 15, 16, 17] (by decide) rfl
              have hK : va_K (dC, dI) cls (tX1 p1k) s := hK.sub [0, 1, 2, 3, 4, 5, 6, 7, 8, 9, 10, 11, 12, 13, 14, 15, 16] rfl
              obtain rfl : o_9 = r10 := hw.symm
              refine lv_i2l (v := ((o_9 : Int32).toInt64)) hx hb dX11_digestPhis_65 rfl ?_
              refine lv_ladd hx hb dX11_digestPhis_66 ?_
              refine lv_lstore (lv' := [(4, .long ((v4_36 * (31 : Int64)) + ((o_9 : Int32).toInt64))), (2, .ref (p1a 0)), (3, .int p2), (6, .int v6_11), (7, .int v7_36)]) hx hb dX11_digestPhis_67 hl (by decide) rfl (fun ls hl => ?_)
              refine lv_iinc (v := (v7_36 + 1)) (lv' := [(7, .int (v7_36 + 1)), (4, .long ((v4_36 * (31 : Int64)) + ((o_9 : Int32).toInt64))), (2, .ref (p1a 0)), (3, .int p2), (6, .int v6_11)]) hx hb dX11_digestPhis_69 hl (k := 4) rfl rfl (by decide) rfl (fun ls hl => ?_)
              refine lv_goto (tgt := 36) hx hb dX11_digestPhis_72 (by decide) ?_
              exact IH36 ((v4_36 * (31 : Int64)) + ((o_9 : Int32).toInt64)) (v7_36 + 1) o36 _ _ _ hrun hP hD hK hS (lv_sub hl [2, 3, 1, 4, 0] rfl) hk36
        obtain ⟨o36, hc36, hrun⟩ := bnd9 hrun
        refine L36 NF ((v4_11 * (31 : Int64)) + (((p1w 19 (nn v6_11)) : Int32).toInt64)) 0 o36 _ _ _ hc36 hP hD hK hS (lv_sub hl [2, 3, 1, 4, 0] rfl) ?_
        intro H locs ls hP hD hK hS hl
        have hl := hl
        refine lv_aload_n hx hb dX11_digestPhis_75 rfl (lv_at hl 0 rfl) ?_
        refine va_get (D := (dC, dI)) (ci := 4) (v := .ref (p1a 20)) (C := RX1) (T := TX1) (N := 21) hx hb hts i_X1 hown hK hP 0 rfl rfl 19 (by decide) (hts _ qw1014) (fun _ h9 => h9) rfl dX11_digestPhis_76 ?_
        refine lv_iload hx hb dX11_digestPhis_79 (lv_at hl 3 rfl) ?_
        obtain ⟨hq11, hrun⟩ := chk9 hrun
        refine va_iald hx hb hK hP 16 15 rfl rfl (ixb_in hq11) dX11_digestPhis_81 ?_
        refine lv_istore (lv' := [(6, .int (p1w 20 (nn v6_11))), (2, .ref (p1a 0)), (3, .int p2), (4, .long o36)]) hx hb dX11_digestPhis_82 hl (by decide) rfl (fun ls hl => ?_)
        refine lv_goto (tgt := 11) hx hb dX11_digestPhis_84 (by decide) ?_
        exact IH11 o36 (p1w 20 (nn v6_11)) o11 _ _ _ hrun hP hD hK hS (lv_sub hl [1, 2, 3, 0] rfl) hk11
  obtain ⟨o11, hc11, hrun⟩ := bnd9 hrun
  refine L11 NF p0 (p1w 6 (nn p2)) o11 _ _ _ hc11 hP hD hK hS (lv_sub hl [3, 4, 1, 0] rfl) ?_
  intro H locs ls hP hD hK hS hl
  have hl := hl
  refine lv_lload hx hb dX11_digestPhis_87 (lv_at hl 0 rfl) ?_
  have ho9 : o11 = o := Option.some.inj hrun
  have hP9 : va_P (dC, dI) cls (oX1 (p1a 0) p1a p1k p1n p1w p1l) H := by first | exact hP | (rw [← ho9]; exact hP)
  have hD9 : va_D A (oX1 (p1a 0) p1a p1k p1n p1w p1l) := by first | exact hD | (rw [← ho9]; exact hD)
  subst hQ
  exact W.lret (v := o11) hx hb hr (fun t ht hW => ⟨⟨o11, (), rfl, (by rw [← ho9]), ⟨by rw [ht]; exact hP9, va_K.moved hW.alike hK, hD9⟩⟩, hS.F ht⟩) hS.2.2 dX11_digestPhis_89
def fX11_digestStep (p0 : Int64) (p1n : Nat → Nat) (p1w : ST) (p2 : Int32) : Option Int64 := (if ixb p2 (p1n 2) = true then (if ixb p2 (p1n 3) = true then (if ixb p2 (p1n 4) = true then (if ixb p2 (p1n 5) = true then some ((((((((p0 * (31 : Int64)) + (((p1w 2 (nn p2)) : Int32).toInt64)) * (31 : Int64)) + (((p1w 3 (nn p2)) : Int32).toInt64)) * (31 : Int64)) + (((p1w 4 (nn p2)) : Int32).toInt64)) * (31 : Int64)) + (((p1w 5 (nn p2)) : Int32).toInt64)) else none) else none) else none) else none)
set_option maxHeartbeats 16000000 in
set_option maxRecDepth 100000 in
theorem kX11_digestStep {zs : Nat × Nat} (l : Launch) (dC : Nat → ClassId) (dI : Nat → Nat → Nat) (p0 : Int64) (p1a : Nat → Nat) (p1k : Nat → ClassId) (p1n : Nat → Nat) (p1w : ST) (p2 : Int32) (sz : Nat) (o : Int64) (hrun : fX11_digestStep p0 p1n p1w p2 = some o) : Met l yX11_digestStep (wz yX11_digestStep cX11_digestStep 6 (Option.some Jvm.ClassFile.FieldType.long)) ({ frames := 0, cells := 0, slots := 0, locals := 0 } : Room) (va_Pc [.long p0, .ref (p1a 0), .int p2] (PRE zs dC dI (oX9 (p1a 0) p1a p1k p1n p1w) (tX9 p1k) sz)) (va_Ql (fun (r : Int64) (_ : Unit) => r = o) (fun _ t => POST dC dI (oX9 (p1a 0) p1a p1k p1n p1w) (tX9 p1k) (va_A (oX9 (p1a 0) p1a p1k p1n p1w) sz) t) (va_A (oX9 (p1a 0) p1a p1k p1n p1w) sz)) 0 0 (va_A (oX9 (p1a 0) p1a p1k p1n p1w) sz) := by
  refine Met.ofW (cc := cX11_digestStep) (maxL := 6) (ret := (Option.some Jvm.ClassFile.FieldType.long)) (by decide) rfl ?_
  intro p e s m args below meth c s₁ B hml hv
  obtain ⟨rfl, hsz, hP, hK, hD0, hE⟩ := hv
  have hx := B.exec
  have hb := B.bytes
  have hr := B.returns
  have hts0 := atoms_spec (ws := wz yX11_digestStep cX11_digestStep 6 (Option.some Jvm.ClassFile.FieldType.long)) B.pre
  have hts : ∀ w ∈ gw, w.before _ s = true := fun w h => hts0 w (List.mem_cons_of_mem _ h)
  have hown : s.vm.findClass RX11 = some m.cls := findClass_of_methodNamed B.named
  have hlocks := B.notSynchronized
  subst hsz
  have hD := hD0.self (sz := s.heap.size)
  refine gQ9 ?_
  intro Q hQ
  generalize hAe : va_A (oX9 (p1a 0) p1a p1k p1n p1w) s.heap.size = A at hD hE hQ
  have hA : ∀ q : Nat, s.heap.size ≤ q → A q := fun q h => by rw [← hAe]; exact Or.inr h
  have hS : va_S A s.heap s.heap [] := va_S.rf
  have hP : va_P (dC, dI) cls (oX9 (p1a 0) p1a p1k p1n p1w) s.heap := hP
  have hl := lv_entry ([.long p0, .ref (p1a 0), .int p2]) (n := 6) (Nat.le_of_ble_eq_true rfl)
  rw [lg_entry_eq]
  generalize (lg_sl ([.long p0, .ref (p1a 0), .int p2]) ++ List.replicate (6 - (lg_sl ([.long p0, .ref (p1a 0), .int p2])).length) Slot.unset).toArray = ls at hl ⊢
  have hl : lv_has ls 6 [(0, .long p0), (2, .ref (p1a 0)), (3, .int p2)] := hl
  obtain ⟨H, hHe⟩ : ∃ H, H = s.heap := ⟨_, rfl⟩
  obtain ⟨locs, hle⟩ : ∃ locs : List Loc, locs = [] := ⟨_, rfl⟩
  rw [← hHe] at hP
  have hS : va_S A s.heap H locs := by rw [hHe, hle]; exact hS
  show W p l e ({ frames := 0, cells := 0, slots := 0, locals := 0 } : Room) s m ([.long p0, .ref (p1a 0), .int p2] : List Value).toArray below meth c s.heap [] 0 0 Q (F0 m 0 ls [])
  rw [← hle]
  refine wH9 hHe ?_
  unfold fX11_digestStep at hrun
  refine lv_lload_n hx hb dX11_digestStep_0 rfl (lv_at hl 0 rfl) ?_
  refine lv_lstore (lv' := [(4, .long p0), (0, .long p0), (2, .ref (p1a 0)), (3, .int p2)]) hx hb dX11_digestStep_1 hl (by decide) rfl (fun ls hl => ?_)
  refine lv_lload hx hb dX11_digestStep_3 (lv_at hl 0 rfl) ?_
  refine lv_ldc2 (v := 31) hx hb hown (hts _ qw992) dX11_digestStep_5 ?_
  refine lv_lmul hx hb dX11_digestStep_8 ?_
  refine lv_aload_n hx hb dX11_digestStep_9 rfl (lv_at hl 2 rfl) ?_
  refine va_get (D := (dC, dI)) (ci := 3) (v := .ref (p1a 2)) (C := RX9) (T := TX9) (N := 6) hx hb hts i_X9 hown hK hP 0 rfl rfl 1 (by decide) (hts _ qw1015) (fun _ h9 => h9) rfl dX11_digestStep_10 ?_
  refine lv_iload_n hx hb dX11_digestStep_13 rfl (lv_at hl 3 rfl) ?_
  obtain ⟨hq1, hrun⟩ := chk9 hrun
  refine va_iald hx hb hK hP 1 0 rfl rfl (ixb_in hq1) dX11_digestStep_14 ?_
  refine lv_i2l (v := (((p1w 2 (nn p2)) : Int32).toInt64)) hx hb dX11_digestStep_15 rfl ?_
  refine lv_ladd hx hb dX11_digestStep_16 ?_
  refine lv_lstore (lv' := [(4, .long ((p0 * (31 : Int64)) + (((p1w 2 (nn p2)) : Int32).toInt64))), (0, .long p0), (2, .ref (p1a 0)), (3, .int p2)]) hx hb dX11_digestStep_17 hl (by decide) rfl (fun ls hl => ?_)
  refine lv_lload hx hb dX11_digestStep_19 (lv_at hl 0 rfl) ?_
  refine lv_ldc2 (v := 31) hx hb hown (hts _ qw992) dX11_digestStep_21 ?_
  refine lv_lmul hx hb dX11_digestStep_24 ?_
  refine lv_aload_n hx hb dX11_digestStep_25 rfl (lv_at hl 2 rfl) ?_
  refine va_get (D := (dC, dI)) (ci := 3) (v := .ref (p1a 3)) (C := RX9) (T := TX9) (N := 6) hx hb hts i_X9 hown hK hP 0 rfl rfl 2 (by decide) (hts _ qw1016) (fun _ h9 => h9) rfl dX11_digestStep_26 ?_
  refine lv_iload_n hx hb dX11_digestStep_29 rfl (lv_at hl 3 rfl) ?_
  obtain ⟨hq2, hrun⟩ := chk9 hrun
  refine va_iald hx hb hK hP 2 1 rfl rfl (ixb_in hq2) dX11_digestStep_30 ?_
  refine lv_i2l (v := (((p1w 3 (nn p2)) : Int32).toInt64)) hx hb dX11_digestStep_31 rfl ?_
  refine lv_ladd hx hb dX11_digestStep_32 ?_
  refine lv_lstore (lv' := [(4, .long ((((p0 * (31 : Int64)) + (((p1w 2 (nn p2)) : Int32).toInt64)) * (31 : Int64)) + (((p1w 3 (nn p2)) : Int32).toInt64))), (0, .long p0), (2, .ref (p1a 0)), (3, .int p2)]) hx hb dX11_digestStep_33 hl (by decide) rfl (fun ls hl => ?_)
  refine lv_lload hx hb dX11_digestStep_35 (lv_at hl 0 rfl) ?_
  refine lv_ldc2 (v := 31) hx hb hown (hts _ qw992) dX11_digestStep_37 ?_
  refine lv_lmul hx hb dX11_digestStep_40 ?_
  refine lv_aload_n hx hb dX11_digestStep_41 rfl (lv_at hl 2 rfl) ?_
  refine va_get (D := (dC, dI)) (ci := 3) (v := .ref (p1a 4)) (C := RX9) (T := TX9) (N := 6) hx hb hts i_X9 hown hK hP 0 rfl rfl 3 (by decide) (hts _ qw1017) (fun _ h9 => h9) rfl dX11_digestStep_42 ?_
  refine lv_iload_n hx hb dX11_digestStep_45 rfl (lv_at hl 3 rfl) ?_
  obtain ⟨hq3, hrun⟩ := chk9 hrun
  refine va_iald hx hb hK hP 3 2 rfl rfl (ixb_in hq3) dX11_digestStep_46 ?_
  refine lv_i2l (v := (((p1w 4 (nn p2)) : Int32).toInt64)) hx hb dX11_digestStep_47 rfl ?_
  refine lv_ladd hx hb dX11_digestStep_48 ?_
  refine lv_lstore (lv' := [(4, .long ((((((p0 * (31 : Int64)) + (((p1w 2 (nn p2)) : Int32).toInt64)) * (31 : Int64)) + (((p1w 3 (nn p2)) : Int32).toInt64)) * (31 : Int64)) + (((p1w 4 (nn p2)) : Int32).toInt64))), (0, .long p0), (2, .ref (p1a 0)), (3, .int p2)]) hx hb dX11_digestStep_49 hl (by decide) rfl (fun ls hl => ?_)
  refine lv_lload hx hb dX11_digestStep_51 (lv_at hl 0 rfl) ?_
  refine lv_ldc2 (v := 31) hx hb hown (hts _ qw992) dX11_digestStep_53 ?_
  refine lv_lmul hx hb dX11_digestStep_56 ?_
  refine lv_aload_n hx hb dX11_digestStep_57 rfl (lv_at hl 2 rfl) ?_
  refine va_get (D := (dC, dI)) (ci := 3) (v := .ref (p1a 5)) (C := RX9) (T := TX9) (N := 6) hx hb hts i_X9 hown hK hP 0 rfl rfl 4 (by decide) (hts _ qw1018) (fun _ h9 => h9) rfl dX11_digestStep_58 ?_
  refine lv_iload_n hx hb dX11_digestStep_61 rfl (lv_at hl 3 rfl) ?_
  obtain ⟨hq4, hrun⟩ := chk9 hrun
  refine va_iald hx hb hK hP 4 3 rfl rfl (ixb_in hq4) dX11_digestStep_62 ?_
  refine lv_i2l (v := (((p1w 5 (nn p2)) : Int32).toInt64)) hx hb dX11_digestStep_63 rfl ?_
  refine lv_ladd hx hb dX11_digestStep_64 ?_
  refine lv_lstore (lv' := [(4, .long ((((((((p0 * (31 : Int64)) + (((p1w 2 (nn p2)) : Int32).toInt64)) * (31 : Int64)) + (((p1w 3 (nn p2)) : Int32).toInt64)) * (31 : Int64)) + (((p1w 4 (nn p2)) : Int32).toInt64)) * (31 : Int64)) + (((p1w 5 (nn p2)) : Int32).toInt64))), (0, .long p0), (2, .ref (p1a 0)), (3, .int p2)]) hx hb dX11_digestStep_65 hl (by decide) rfl (fun ls hl => ?_)
  refine lv_lload hx hb dX11_digestStep_67 (lv_at hl 0 rfl) ?_
  have ho9 : ((((((((p0 * (31 : Int64)) + (((p1w 2 (nn p2)) : Int32).toInt64)) * (31 : Int64)) + (((p1w 3 (nn p2)) : Int32).toInt64)) * (31 : Int64)) + (((p1w 4 (nn p2)) : Int32).toInt64)) * (31 : Int64)) + (((p1w 5 (nn p2)) : Int32).toInt64)) = o := Option.some.inj hrun
  have hP9 : va_P (dC, dI) cls (oX9 (p1a 0) p1a p1k p1n p1w) H := by first | exact hP | (rw [← ho9]; exact hP)
  have hD9 : va_D A (oX9 (p1a 0) p1a p1k p1n p1w) := by first | exact hD | (rw [← ho9]; exact hD)
  subst hQ
  exact W.lret (v := ((((((((p0 * (31 : Int64)) + (((p1w 2 (nn p2)) : Int32).toInt64)) * (31 : Int64)) + (((p1w 3 (nn p2)) : Int32).toInt64)) * (31 : Int64)) + (((p1w 4 (nn p2)) : Int32).toInt64)) * (31 : Int64)) + (((p1w 5 (nn p2)) : Int32).toInt64))) hx hb hr (fun t ht hW => ⟨⟨((((((((p0 * (31 : Int64)) + (((p1w 2 (nn p2)) : Int32).toInt64)) * (31 : Int64)) + (((p1w 3 (nn p2)) : Int32).toInt64)) * (31 : Int64)) + (((p1w 4 (nn p2)) : Int32).toInt64)) * (31 : Int64)) + (((p1w 5 (nn p2)) : Int32).toInt64)), (), rfl, (by rw [← ho9]), ⟨by rw [ht]; exact hP9, va_K.moved hW.alike hK, hD9⟩⟩, hS.F ht⟩) hS.2.2 dX11_digestStep_69
def fX11_digestSteps_L11 (p1_2n : Nat → Nat) (p1_2w : ST) : Nat → Int64 → Int32 → Option Int64
  | 0 => fun _ _ => none
  | n_11 + 1 => fun v4_11 v6_11 => (if v6_11 < 0 then some v4_11 else ((fX11_digestStep v4_11 p1_2n p1_2w v6_11).bind fun (o_3 : Int64) => (if ixb v6_11 (p1_2n 6) = true then ((fX11_digestSteps_L11 p1_2n p1_2w n_11) o_3 (p1_2w 6 (nn v6_11))) else none)))
def fX11_digestSteps (p0 : Int64) (p1w : ST) (p2 : Int32) (p1_2n : Nat → Nat) (p1_2w : ST) : Option Int64 := (if ixb p2 60 = true then ((fX11_digestSteps_L11 p1_2n p1_2w NF p0 (p1w 4 (nn p2))).bind fun (o11 : Int64) => some o11) else none)
set_option maxHeartbeats 16000000 in
set_option maxRecDepth 100000 in
theorem kX11_digestSteps {zs : Nat × Nat} (l : Launch) (dC : Nat → ClassId) (dI : Nat → Nat → Nat) (p0 : Int64) (p1a : Nat → Nat) (p1k : Nat → ClassId) (p1n : Nat → Nat) (p1w : ST) (p1l : SL) (p2 : Int32) (p1_2a : Nat → Nat) (p1_2k : Nat → ClassId) (p1_2n : Nat → Nat) (p1_2w : ST) (sz : Nat) (o : Int64) (hrun : fX11_digestSteps p0 p1w p2 p1_2n p1_2w = some o) : Met l yX11_digestSteps (wz yX11_digestSteps cX11_digestSteps 7 (Option.some Jvm.ClassFile.FieldType.long)) ({ frames := 1, cells := 0, slots := 0, locals := 25 } : Room) (va_Pc [.long p0, .ref (p1a 0), .int p2] (PRE zs dC dI ((oX1 (p1a 0) p1a p1k p1n p1w p1l) ++ (oX9 (p1a 3) p1_2a p1_2k p1_2n p1_2w)) ((tX1 p1k) ++ (tX9 p1_2k)) sz)) (va_Ql (fun (r : Int64) (_ : Unit) => r = o) (fun _ t => POST dC dI ((oX1 (p1a 0) p1a p1k p1n p1w p1l) ++ (oX9 (p1a 3) p1_2a p1_2k p1_2n p1_2w)) ((tX1 p1k) ++ (tX9 p1_2k)) (va_A ((oX1 (p1a 0) p1a p1k p1n p1w p1l) ++ (oX9 (p1a 3) p1_2a p1_2k p1_2n p1_2w)) sz) t) (va_A ((oX1 (p1a 0) p1a p1k p1n p1w p1l) ++ (oX9 (p1a 3) p1_2a p1_2k p1_2n p1_2w)) sz)) 0 0 (va_A ((oX1 (p1a 0) p1a p1k p1n p1w p1l) ++ (oX9 (p1a 3) p1_2a p1_2k p1_2n p1_2w)) sz) := by
  refine Met.ofW (cc := cX11_digestSteps) (maxL := 7) (ret := (Option.some Jvm.ClassFile.FieldType.long)) (by decide) rfl ?_
  intro p e s m args below meth c s₁ B hml hv
  obtain ⟨rfl, hsz, hP, hK, hD0, hE⟩ := hv
  have hx := B.exec
  have hb := B.bytes
  have hr := B.returns
  have hts0 := atoms_spec (ws := wz yX11_digestSteps cX11_digestSteps 7 (Option.some Jvm.ClassFile.FieldType.long)) B.pre
  have hts : ∀ w ∈ gw, w.before _ s = true := fun w h => hts0 w (List.mem_cons_of_mem _ h)
  have hown : s.vm.findClass RX11 = some m.cls := findClass_of_methodNamed B.named
  have hlocks := B.notSynchronized
  subst hsz
  have hD := hD0.self (sz := s.heap.size)
  refine gQ9 ?_
  intro Q hQ
  generalize hAe : va_A ((oX1 (p1a 0) p1a p1k p1n p1w p1l) ++ (oX9 (p1a 3) p1_2a p1_2k p1_2n p1_2w)) s.heap.size = A at hD hE hQ
  have hA : ∀ q : Nat, s.heap.size ≤ q → A q := fun q h => by rw [← hAe]; exact Or.inr h
  have hS : va_S A s.heap s.heap [] := va_S.rf
  have hP : va_P (dC, dI) cls ((oX1 (p1a 0) p1a p1k p1n p1w p1l) ++ (oX9 (p1a 3) p1_2a p1_2k p1_2n p1_2w)) s.heap := hP
  have hl := lv_entry ([.long p0, .ref (p1a 0), .int p2]) (n := 7) (Nat.le_of_ble_eq_true rfl)
  rw [lg_entry_eq]
  generalize (lg_sl ([.long p0, .ref (p1a 0), .int p2]) ++ List.replicate (7 - (lg_sl ([.long p0, .ref (p1a 0), .int p2])).length) Slot.unset).toArray = ls at hl ⊢
  have hl : lv_has ls 7 [(0, .long p0), (2, .ref (p1a 0)), (3, .int p2)] := hl
  obtain ⟨H, hHe⟩ : ∃ H, H = s.heap := ⟨_, rfl⟩
  obtain ⟨locs, hle⟩ : ∃ locs : List Loc, locs = [] := ⟨_, rfl⟩
  rw [← hHe] at hP
  have hS : va_S A s.heap H locs := by rw [hHe, hle]; exact hS
  show W p l e ({ frames := 1, cells := 0, slots := 0, locals := 25 } : Room) s m ([.long p0, .ref (p1a 0), .int p2] : List Value).toArray below meth c s.heap [] 0 0 Q (F0 m 0 ls [])
  rw [← hle]
  refine wH9 hHe ?_
  unfold fX11_digestSteps at hrun
  refine lv_lload_n hx hb dX11_digestSteps_0 rfl (lv_at hl 0 rfl) ?_
  refine lv_lstore (lv' := [(4, .long p0), (0, .long p0), (2, .ref (p1a 0)), (3, .int p2)]) hx hb dX11_digestSteps_1 hl (by decide) rfl (fun ls hl => ?_)
  refine lv_aload_n hx hb dX11_digestSteps_3 rfl (lv_at hl 2 rfl) ?_
  refine va_get (D := (dC, dI)) (ci := 4) (v := .ref (p1a 4)) (C := RX1) (T := TX1) (N := 21) hx hb hts i_X1 hown hK hP 0 rfl rfl 3 (by decide) (hts _ qw1019) (fun _ h9 => h9) rfl dX11_digestSteps_4 ?_
  refine lv_iload_n hx hb dX11_digestSteps_7 rfl (lv_at hl 3 rfl) ?_
  obtain ⟨hq1, hrun⟩ := chk9 hrun
  refine va_iald hx hb hK hP 1 0 rfl rfl (ixb_in hq1) dX11_digestSteps_8 ?_
  refine lv_istore (lv' := [(6, .int (p1w 4 (nn p2))), (4, .long p0), (0, .long p0), (2, .ref (p1a 0)), (3, .int p2)]) hx hb dX11_digestSteps_9 hl (by decide) rfl (fun ls hl => ?_)
  have L11 : ∀ (n_11 : Nat) (v4_11 : Int64) (v6_11 : Int32) (o11 : Int64) (H : Heap) (locs : List Loc) (ls : Array Slot), (fX11_digestSteps_L11 p1_2n p1_2w n_11) v4_11 v6_11 = some o11 → va_P (dC, dI) cls ((oX1 (p1a 0) p1a p1k p1n p1w p1l) ++ (oX9 (p1a 3) p1_2a p1_2k p1_2n p1_2w)) H → va_D A ((oX1 (p1a 0) p1a p1k p1n p1w p1l) ++ (oX9 (p1a 3) p1_2a p1_2k p1_2n p1_2w)) → va_K (dC, dI) cls ((tX1 p1k) ++ (tX9 p1_2k)) s → va_S A s.heap H locs → lv_has ls 7 [(2, .ref (p1a 0)), (4, .long v4_11), (6, .int v6_11)] → (∀ (H : Heap) (locs : List Loc) (ls : Array Slot), va_P (dC, dI) cls ((oX1 (p1a 0) p1a p1k p1n p1w p1l) ++ (oX9 (p1a 3) p1_2a p1_2k p1_2n p1_2w)) H → va_D A ((oX1 (p1a 0) p1a p1k p1n p1w p1l) ++ (oX9 (p1a 3) p1_2a p1_2k p1_2n p1_2w)) → va_K (dC, dI) cls ((tX1 p1k) ++ (tX9 p1_2k)) s → va_S A s.heap H locs → lv_has ls 7 [(4, .long o11)] → W p l e ({ frames := 1, cells := 0, slots := 0, locals := 25 } : Room) s m ([.long p0, .ref (p1a 0), .int p2] : List Value).toArray below meth c H locs 0 0 Q (F0 m 44 ls [])) → W p l e ({ frames := 1, cells := 0, slots := 0, locals := 25 } : Room) s m ([.long p0, .ref (p1a 0), .int p2] : List Value).toArray below meth c H locs 0 0 Q (F0 m 11 ls []) := by
    intro n_11
    induction n_11 with
    | zero => intro v4_11 v6_11 o11 H locs ls hrun; exact (no9 rfl hrun).elim
    | succ n_11 IH11 =>
      intro v4_11 v6_11 o11 H locs ls hrun hP hD hK hS hl hk11
      unfold fX11_digestSteps_L11 at hrun
      refine lv_iload hx hb dX11_digestSteps_11 (lv_at hl 2 rfl) ?_
      rcases br9 hrun with ⟨hc2, hrun⟩ | ⟨hc2, hrun⟩
      · refine lv_if_lt (tgt := 44) hx hb dX11_digestSteps_13 (by decide) (fun _ => ?_) (fun c => absurd hc2 c)
        obtain rfl := (Option.some.inj hrun)
        exact hk11 _ _ _ hP hD hK hS (lv_sub hl [1] rfl)
      · refine lv_if_lt (tgt := 44) hx hb dX11_digestSteps_13 (by decide) (fun c => absurd c hc2) (fun _ => ?_)
        refine lv_lload hx hb dX11_digestSteps_16 (lv_at hl 1 rfl) ?_
        refine lv_aload_n hx hb dX11_digestSteps_18 rfl (lv_at hl 0 rfl) ?_
        refine va_get (D := (dC, dI)) (ci := 4) (v := .ref (p1a 3)) (C := RX1) (T := TX1) (N := 21) hx hb hts i_X1 hown hK hP 0 rfl rfl 2 (by decide) (hts _ qw1020) (fun _ h9 => h9) rfl dX11_digestSteps_19 ?_
        refine lv_iload hx hb dX11_digestSteps_22 (lv_at hl 2 rfl) ?_
        obtain ⟨o_3, hc_3, hrun⟩ := bnd9 hrun
        have hPc := hP.sub (ws' := (oX9 (p1a 3) p1_2a p1_2k p1_2n p1_2w)) [18, 19, 20, 21, 22, 23] rfl
        have hDc := hD.sub (ws' := (oX9 (p1a 3) p1_2a p1_2k p1_2n p1_2w)) [18, 19, 20, 21, 22, 23] (by decide) rfl
        have hKc := hK.sub (tys' := (tX9 p1_2k)) [17, 18, 19, 20, 21] rfl
        have hFc := va_free (wc := (oX9 (p1a 3) p1_2a p1_2k p1_2n p1_2w)) hD hS hA [18, 19, 20, 21, 22, 23] rfl
        refine va_calll (va_runS (As := [.long v4_11, .ref (p1a 3), .int v6_11]) (rest := []) ⟨hx, hb, hml, hown, hts⟩ (kX11_digestStep l dC dI (p0 := v4_11) (p1a := (st0 (p1a 3) p1_2a)) (p1k := p1_2k) (p1n := p1_2n) (p1w := p1_2w) (p2 := v6_11) (sz := _) (o := o_3) (hrun := hc_3)) (va_cwS 3 hts (gi_S qw1022 qw1023 qw129 (gi_z qw1021)) rfl rfl rfl (by decide +kernel) ⟨Nat.le_of_ble_eq_true rfl, Nat.le_of_ble_eq_true rfl⟩) ⟨PRE.blind, PRE.of hE hS hFc hPc hKc hDc⟩ rfl rfl hl.1 rfl (lv_room (Nat.le_of_ble_eq_true rfl)) dX11_digestSteps_24 ⟨(Nat.le_of_ble_eq_true rfl), (Nat.le_of_ble_eq_true rfl)⟩) hS (fun q _ h => hFc q h) hFc (fun r4 u t H locs ht hvm hw hB hz1 hk1 hS => ?_)
        obtain ⟨hP, hD, hK⟩ := JOIN (wr := (oX1 (p1a 0) p1a p1k p1n p1w p1l)) hP hD hK [18, 19, 20, 21, 22, 23] [0, 1, 2, 3, 4, 5, 6, 7, 8, 9, 10, 11, 12, 13, 14, 15, 16, 17] [0, 1, 2, 3, 4, 5, 6, 7, 8, 9, 10, 11, 12, 13, 14, 15, 16] rfl rfl (by decide) (by decide) rfl hk1 hFc ht hvm hB
        have hP : va_P (dC, dI) cls ((oX1 (p1a 0) p1a p1k p1n p1w p1l) ++ (oX9 (p1a 3) p1_2a p1_2k p1_2n p1_2w)) H := hP.sub [0, 1, 2, 3, 4, 5, 6, 7, 8, 9, 10, 11, 12, 13, 14, 15, 16, 17, 18, 19, 20, 21, 22, 23] rfl
        have hD : va_D A ((oX1 (p1a 0) p1a p1k p1n p1w p1l) ++ (oX9 (p1a 3) p1_2a p1_2k p1_2n p1_2w)) := hD.sub [0, 1, 2, 3, 4, 5, 6, 7, 8, 9, 10, 11, 12, 13, 14, 15, 16, 17, 18, 19, 20, 21, 22, 23] (by decide) rfl
        have hK : va_K (dC, dI) cls ((tX1 p1k) ++ (tX9 p1_2k)) s := hK.sub [0, 1, 2, 3, 4, 5, 6, 7, 8, 9, 10, 11, 12, 13, 14, 15, 16, 17, 18, 19, 20, 21] rfl
        obtain rfl : o_3 = r4 := hw.symm
        refine lv_lstore (lv' := [(4, .long o_3), (2, .ref (p1a 0)), (6, .int v6_11)]) hx hb dX11_digestSteps_27 hl (by decide) rfl (fun ls hl => ?_)
        refine lv_aload_n hx hb dX11_digestSteps_29 rfl (lv_at hl 1 rfl) ?_
        refine va_get (D := (dC, dI)) (ci := 4) (v := .ref (p1a 3)) (C := RX1) (T := TX1) (N := 21) hx hb hts i_X1 hown hK hP 0 rfl rfl 2 (by decide) (hts _ qw1020) (fun _ h9 => h9) rfl dX11_digestSteps_30 ?_
        refine va_get (D := (dC, dI)) (ci := 3) (v := .ref (p1_2a 6)) (C := RX9) (T := TX9) (N := 6) hx hb hts i_X9 hown hK hP 18 rfl rfl 5 (by decide) (hts _ qw1024) (fun _ h9 => h9) rfl dX11_digestSteps_33 ?_
        refine lv_iload hx hb dX11_digestSteps_36 (lv_at hl 2 rfl) ?_
        obtain ⟨hq5, hrun⟩ := chk9 hrun
        refine va_iald hx hb hK hP 23 21 rfl rfl (ixb_in hq5) dX11_digestSteps_38 ?_
        refine lv_istore (lv' := [(6, .int (p1_2w 6 (nn v6_11))), (4, .long o_3), (2, .ref (p1a 0))]) hx hb dX11_digestSteps_39 hl (by decide) rfl (fun ls hl => ?_)
        refine lv_goto (tgt := 11) hx hb dX11_digestSteps_41 (by decide) ?_
        exact IH11 o_3 (p1_2w 6 (nn v6_11)) o11 _ _ _ hrun hP hD hK hS (lv_sub hl [2, 1, 0] rfl) hk11
  obtain ⟨o11, hc11, hrun⟩ := bnd9 hrun
  refine L11 NF p0 (p1w 4 (nn p2)) o11 _ _ _ hc11 hP hD hK hS (lv_sub hl [3, 1, 0] rfl) ?_
  intro H locs ls hP hD hK hS hl
  have hl := hl
  refine lv_lload hx hb dX11_digestSteps_44 (lv_at hl 0 rfl) ?_
  have ho9 : o11 = o := Option.some.inj hrun
  have hP9 : va_P (dC, dI) cls ((oX1 (p1a 0) p1a p1k p1n p1w p1l) ++ (oX9 (p1a 3) p1_2a p1_2k p1_2n p1_2w)) H := by first | exact hP | (rw [← ho9]; exact hP)
  have hD9 : va_D A ((oX1 (p1a 0) p1a p1k p1n p1w p1l) ++ (oX9 (p1a 3) p1_2a p1_2k p1_2n p1_2w)) := by first | exact hD | (rw [← ho9]; exact hD)
  subst hQ
  exact W.lret (v := o11) hx hb hr (fun t ht hW => ⟨⟨o11, (), rfl, (by rw [← ho9]), ⟨by rw [ht]; exact hP9, va_K.moved hW.alike hK, hD9⟩⟩, hS.F ht⟩) hS.2.2 dX11_digestSteps_46
def fX11_feed (p1 : Int32) (p2 : Int32) (p3 : Int32) (p4 : Int32) (p5 : Int32) (p0_0w : ST) : Option (Int32 × ST) := (if ((p0_0w 0 1) + 20) ≤ 1200 then ((fX10_append p0_0w p1).bind fun (o_2 : ST) => ((fX10_append o_2 p2).bind fun (o_3 : ST) => ((fX10_append o_3 p3).bind fun (o_4 : ST) => ((fX10_append o_4 p4).bind fun (o_5 : ST) => ((fX10_append o_5 p5).bind fun (o_6 : ST) => some ((o_6 0 1), o_6)))))) else none)
set_option maxHeartbeats 16000000 in
set_option maxRecDepth 100000 in
theorem kX11_feed {zs : Nat × Nat} (l : Launch) (dC : Nat → ClassId) (dI : Nat → Nat → Nat) (p0a : Nat → Nat) (p0w : ST) (p1 : Int32) (p2 : Int32) (p3 : Int32) (p4 : Int32) (p5 : Int32) (p0_0a : Nat → Nat) (p0_0k : Nat → ClassId) (p0_0w : ST) (p0_0l : SL) (sz : Nat) (o : Int32 × ST) (hrun : fX11_feed p1 p2 p3 p4 p5 p0_0w = some o) : Met l yX11_feed (wz yX11_feed cX11_feed 6 (Option.some Jvm.ClassFile.FieldType.int)) ({ frames := 1, cells := 0, slots := 0, locals := 22 } : Room) (va_Pc [.ref (p0a 0), .int p1, .int p2, .int p3, .int p4, .int p5] (PRE zs dC dI ((oX11 (p0a 0) p0a p0w) ++ (oX10 (p0a 1) p0_0a p0_0k p0_0w p0_0l)) (tX10 p0_0k) sz)) (va_Qi (fun (r : Int32) (_ : Unit) => r = (o.1)) (fun _ t => POST dC dI ((oX11 (p0a 0) p0a p0w) ++ (oX10 (p0a 1) p0_0a p0_0k (o.2) p0_0l)) (tX10 p0_0k) (va_A ((oX11 (p0a 0) p0a p0w) ++ (oX10 (p0a 1) p0_0a p0_0k p0_0w p0_0l)) sz) t) (va_A ((oX11 (p0a 0) p0a p0w) ++ (oX10 (p0a 1) p0_0a p0_0k p0_0w p0_0l)) sz)) 0 0 (va_A ((oX11 (p0a 0) p0a p0w) ++ (oX10 (p0a 1) p0_0a p0_0k p0_0w p0_0l)) sz) := by
  refine Met.ofW (cc := cX11_feed) (maxL := 6) (ret := (Option.some Jvm.ClassFile.FieldType.int)) (by decide) rfl ?_
  intro p e s m args below meth c s₁ B hml hv
  obtain ⟨rfl, hsz, hP, hK, hD0, hE⟩ := hv
  have hx := B.exec
  have hb := B.bytes
  have hr := B.returns
  have hts0 := atoms_spec (ws := wz yX11_feed cX11_feed 6 (Option.some Jvm.ClassFile.FieldType.int)) B.pre
  have hts : ∀ w ∈ gw, w.before _ s = true := fun w h => hts0 w (List.mem_cons_of_mem _ h)
  have hown : s.vm.findClass RX11 = some m.cls := findClass_of_methodNamed B.named
  have hlocks := B.notSynchronized
  subst hsz
  have hD := hD0.self (sz := s.heap.size)
  refine gQ9 ?_
  intro Q hQ
  generalize hAe : va_A ((oX11 (p0a 0) p0a p0w) ++ (oX10 (p0a 1) p0_0a p0_0k p0_0w p0_0l)) s.heap.size = A at hD hE hQ
  have hA : ∀ q : Nat, s.heap.size ≤ q → A q := fun q h => by rw [← hAe]; exact Or.inr h
  have hS : va_S A s.heap s.heap [] := va_S.rf
  have hP : va_P (dC, dI) cls ((oX11 (p0a 0) p0a p0w) ++ (oX10 (p0a 1) p0_0a p0_0k p0_0w p0_0l)) s.heap := hP
  have hl := lv_entry ([.ref (p0a 0), .int p1, .int p2, .int p3, .int p4, .int p5]) (n := 6) (Nat.le_of_ble_eq_true rfl)
  rw [lg_entry_eq]
  generalize (lg_sl ([.ref (p0a 0), .int p1, .int p2, .int p3, .int p4, .int p5]) ++ List.replicate (6 - (lg_sl ([.ref (p0a 0), .int p1, .int p2, .int p3, .int p4, .int p5])).length) Slot.unset).toArray = ls at hl ⊢
  have hl : lv_has ls 6 [(0, .ref (p0a 0)), (1, .int p1), (2, .int p2), (3, .int p3), (4, .int p4), (5, .int p5)] := hl
  obtain ⟨H, hHe⟩ : ∃ H, H = s.heap := ⟨_, rfl⟩
  obtain ⟨locs, hle⟩ : ∃ locs : List Loc, locs = [] := ⟨_, rfl⟩
  rw [← hHe] at hP
  have hS : va_S A s.heap H locs := by rw [hHe, hle]; exact hS
  show W p l e ({ frames := 1, cells := 0, slots := 0, locals := 22 } : Room) s m ([.ref (p0a 0), .int p1, .int p2, .int p3, .int p4, .int p5] : List Value).toArray below meth c s.heap [] 0 0 Q (F0 m 0 ls [])
  rw [← hle]
  refine wH9 hHe ?_
  unfold fX11_feed at hrun
  refine lv_aload_n hx hb dX11_feed_0 rfl (lv_at hl 0 rfl) ?_
  refine va_get (D := (dC, dI)) (ci := 11) (v := .ref (p0a 1)) (C := RX11) (T := TX11) (N := 11) hx hb hts i_X11 hown hK hP 0 rfl rfl 0 (by decide) (hts _ qw1026) (fun _ h9 => h9) rfl dX11_feed_1 ?_
  refine va_get (D := (dC, dI)) (ci := 0) (v := .int (p0_0w 0 1)) (C := RX10) (T := TX10) (N := 8) hx hb hts i_X10 hown hK hP 1 rfl rfl 1 (by decide) (hts _ qw1027) (fun _ h9 => h9) rfl dX11_feed_4 ?_
  refine lv_bipush (v := 20) hx hb dX11_feed_7 (by decide) ?_
  refine lv_iadd hx hb dX11_feed_9 ?_
  refine lv_sipush (v := 1200) hx hb dX11_feed_10 (by decide) ?_
  rcases br9 hrun with ⟨hc1, hrun⟩ | ⟨hc1, hrun⟩
  · refine lv_icmp_le (tgt := 26) hx hb dX11_feed_13 (by decide) (fun _ => ?_) (fun c => absurd hc1 c)
    refine lv_aload_n hx hb dX11_feed_26 rfl (lv_at hl 0 rfl) ?_
    refine va_get (D := (dC, dI)) (ci := 11) (v := .ref (p0a 1)) (C := RX11) (T := TX11) (N := 11) hx hb hts i_X11 hown hK hP 0 rfl rfl 0 (by decide) (hts _ qw1026) (fun _ h9 => h9) rfl dX11_feed_27 ?_
    refine lv_iload_n hx hb dX11_feed_30 rfl (lv_at hl 1 rfl) ?_
    obtain ⟨o_2, hc_2, hrun⟩ := bnd9 hrun
    have hPc := hP.sub (ws' := (oX10 (p0a 1) p0_0a p0_0k p0_0w p0_0l)) [1, 2] rfl
    have hDc := hD.sub (ws' := (oX10 (p0a 1) p0_0a p0_0k p0_0w p0_0l)) [1, 2] (by decide) rfl
    have hKc := hK.sub (tys' := (tX10 p0_0k)) [0] rfl
    have hFc := va_free (wc := (oX10 (p0a 1) p0_0a p0_0k p0_0w p0_0l)) hD hS hA [1, 2] rfl
    refine va_callv (va_runV (As := [.int p1]) (rest := []) ⟨hx, hb, hml, hown, hts⟩ (kX10_append l dC dI (p0a := (st0 (p0a 1) p0_0a)) (p0k := p0_0k) (p0w := p0_0w) (p0l := p0_0l) (p1 := p1) (sz := _) (o := o_2) (hrun := hc_2)) (cwV 1 hts (gi_V qw1029 qw1030 qw1031 qw8 (gi_z qw1028)) rfl rfl rfl (by decide +kernel) ⟨Nat.le_of_ble_eq_true rfl, Nat.le_of_ble_eq_true rfl⟩) ⟨PRE.blind, va_recv hKc hPc (ci := 0) (q0 := 0) rfl rfl, PRE.of hE hS hFc hPc hKc hDc⟩ rfl rfl hl.1 rfl (lv_room (Nat.le_of_ble_eq_true rfl)) dX11_feed_31 ⟨(Nat.le_of_ble_eq_true rfl), (Nat.le_of_ble_eq_true rfl)⟩) hS (fun q _ h => hFc q h) hFc (fun u t H locs ht hvm hw hB hz1 hk1 hS => ?_)
    obtain ⟨hP, hD, hK⟩ := JOIN (wr := (oX11 (p0a 0) p0a p0w)) hP hD hK [1, 2] [0] [] rfl rfl (by decide) (by decide) rfl hk1 hFc ht hvm hB
    have hP : va_P (dC, dI) cls ((oX11 (p0a 0) p0a p0w) ++ (oX10 (p0a 1) p0_0a p0_0k o_2 p0_0l)) H := hP.sub [0, 1, 2] rfl
    have hD : va_D A ((oX11 (p0a 0) p0a p0w) ++ (oX10 (p0a 1) p0_0a p0_0k o_2 p0_0l)) := hD.sub [0, 1, 2] (by decide) rfl
    have hK : va_K (dC, dI) cls (tX10 p0_0k) s := hK.sub [0] rfl
    refine lv_aload_n hx hb dX11_feed_34 rfl (lv_at hl 0 rfl) ?_
    refine va_get (D := (dC, dI)) (ci := 11) (v := .ref (p0a 1)) (C := RX11) (T := TX11) (N := 11) hx hb hts i_X11 hown hK hP 0 rfl rfl 0 (by decide) (hts _ qw1026) (fun _ h9 => h9) rfl dX11_feed_35 ?_
    refine lv_iload_n hx hb dX11_feed_38 rfl (lv_at hl 2 rfl) ?_
    obtain ⟨o_3, hc_3, hrun⟩ := bnd9 hrun
    have hPc := hP.sub (ws' := (oX10 (p0a 1) p0_0a p0_0k o_2 p0_0l)) [1, 2] rfl
    have hDc := hD.sub (ws' := (oX10 (p0a 1) p0_0a p0_0k o_2 p0_0l)) [1, 2] (by decide) rfl
    have hKc := hK.sub (tys' := (tX10 p0_0k)) [0] rfl
    have hFc := va_free (wc := (oX10 (p0a 1) p0_0a p0_0k o_2 p0_0l)) hD hS hA [1, 2] rfl
    refine va_callv (va_runV (As := [.int p2]) (rest := []) ⟨hx, hb, hml, hown, hts⟩ (kX10_append l dC dI (p0a := (st0 (p0a 1) p0_0a)) (p0k := p0_0k) (p0w := o_2) (p0l := p0_0l) (p1 := p2) (sz := _) (o := o_3) (hrun := hc_3)) (cwV 1 hts (gi_V qw1029 qw1030 qw1031 qw8 (gi_z qw1028)) rfl rfl rfl (by decide +kernel) ⟨Nat.le_of_ble_eq_true rfl, Nat.le_of_ble_eq_true rfl⟩) ⟨PRE.blind, va_recv hKc hPc (ci := 0) (q0 := 0) rfl rfl, PRE.of hE hS hFc hPc hKc hDc⟩ rfl rfl hl.1 rfl (lv_room (Nat.le_of_ble_eq_true rfl)) dX11_feed_39 ⟨(Nat.le_of_ble_eq_true rfl), (Nat.le_of_ble_eq_true rfl)⟩) hS (fun q _ h => hFc q h) hFc (fun u t H locs ht hvm hw hB hz1 hk1 hS => ?_)
    obtain ⟨hP, hD, hK⟩ := JOIN (wr := (oX11 (p0a 0) p0a p0w)) hP hD hK [1, 2] [0] [] rfl rfl (by decide) (by decide) rfl hk1 hFc ht hvm hB
    have hP : va_P (dC, dI) cls ((oX11 (p0a 0) p0a p0w) ++ (oX10 (p0a 1) p0_0a p0_0k o_3 p0_0l)) H := hP.sub [0, 1, 2] rfl
    have hD : va_D A ((oX11 (p0a 0) p0a p0w) ++ (oX10 (p0a 1) p0_0a p0_0k o_3 p0_0l)) := hD.sub [0, 1, 2] (by decide) rfl
    have hK : va_K (dC, dI) cls (tX10 p0_0k) s := hK.sub [0] rfl
    refine lv_aload_n hx hb dX11_feed_42 rfl (lv_at hl 0 rfl) ?_
    refine va_get (D := (dC, dI)) (ci := 11) (v := .ref (p0a 1)) (C := RX11) (T := TX11) (N := 11) hx hb hts i_X11 hown hK hP 0 rfl rfl 0 (by decide) (hts _ qw1026) (fun _ h9 => h9) rfl dX11_feed_43 ?_
    refine lv_iload_n hx hb dX11_feed_46 rfl (lv_at hl 3 rfl) ?_
    obtain ⟨o_4, hc_4, hrun⟩ := bnd9 hrun
    have hPc := hP.sub (ws' := (oX10 (p0a 1) p0_0a p0_0k o_3 p0_0l)) [1, 2] rfl
    have hDc := hD.sub (ws' := (oX10 (p0a 1) p0_0a p0_0k o_3 p0_0l)) [1, 2] (by decide) rfl
    have hKc := hK.sub (tys' := (tX10 p0_0k)) [0] rfl
    have hFc := va_free (wc := (oX10 (p0a 1) p0_0a p0_0k o_3 p0_0l)) hD hS hA [1, 2] rfl
    refine va_callv (va_runV (As := [.int p3]) (rest := []) ⟨hx, hb, hml, hown, hts⟩ (kX10_append l dC dI (p0a := (st0 (p0a 1) p0_0a)) (p0k := p0_0k) (p0w := o_3) (p0l := p0_0l) (p1 := p3) (sz := _) (o := o_4) (hrun := hc_4)) (cwV 1 hts (gi_V qw1029 qw1030 qw1031 qw8 (gi_z qw1028)) rfl rfl rfl (by decide +kernel) ⟨Nat.le_of_ble_eq_true rfl, Nat.le_of_ble_eq_true rfl⟩) ⟨PRE.blind, va_recv hKc hPc (ci := 0) (q0 := 0) rfl rfl, PRE.of hE hS hFc hPc hKc hDc⟩ rfl rfl hl.1 rfl (lv_room (Nat.le_of_ble_eq_true rfl)) dX11_feed_47 ⟨(Nat.le_of_ble_eq_true rfl), (Nat.le_of_ble_eq_true rfl)⟩) hS (fun q _ h => hFc q h) hFc (fun u t H locs ht hvm hw hB hz1 hk1 hS => ?_)
    obtain ⟨hP, hD, hK⟩ := JOIN (wr := (oX11 (p0a 0) p0a p0w)) hP hD hK [1, 2] [0] [] rfl rfl (by decide) (by decide) rfl hk1 hFc ht hvm hB
    have hP : va_P (dC, dI) cls ((oX11 (p0a 0) p0a p0w) ++ (oX10 (p0a 1) p0_0a p0_0k o_4 p0_0l)) H := hP.sub [0, 1, 2] rfl
    have hD : va_D A ((oX11 (p0a 0) p0a p0w) ++ (oX10 (p0a 1) p0_0a p0_0k o_4 p0_0l)) := hD.sub [0, 1, 2] (by decide) rfl
    have hK : va_K (dC, dI) cls (tX10 p0_0k) s := hK.sub [0] rfl
    refine lv_aload_n hx hb dX11_feed_50 rfl (lv_at hl 0 rfl) ?_
    refine va_get (D := (dC, dI)) (ci := 11) (v := .ref (p0a 1)) (C := RX11) (T := TX11) (N := 11) hx hb hts i_X11 hown hK hP 0 rfl rfl 0 (by decide) (hts _ qw1026) (fun _ h9 => h9) rfl dX11_feed_51 ?_
    refine lv_iload hx hb dX11_feed_54 (lv_at hl 4 rfl) ?_
    obtain ⟨o_5, hc_5, hrun⟩ := bnd9 hrun
    have hPc := hP.sub (ws' := (oX10 (p0a 1) p0_0a p0_0k o_4 p0_0l)) [1, 2] rfl
    have hDc := hD.sub (ws' := (oX10 (p0a 1) p0_0a p0_0k o_4 p0_0l)) [1, 2] (by decide) rfl
    have hKc := hK.sub (tys' := (tX10 p0_0k)) [0] rfl
    have hFc := va_free (wc := (oX10 (p0a 1) p0_0a p0_0k o_4 p0_0l)) hD hS hA [1, 2] rfl
    refine va_callv (va_runV (As := [.int p4]) (rest := []) ⟨hx, hb, hml, hown, hts⟩ (kX10_append l dC dI (p0a := (st0 (p0a 1) p0_0a)) (p0k := p0_0k) (p0w := o_4) (p0l := p0_0l) (p1 := p4) (sz := _) (o := o_5) (hrun := hc_5)) (cwV 1 hts (gi_V qw1029 qw1030 qw1031 qw8 (gi_z qw1028)) rfl rfl rfl (by decide +kernel) ⟨Nat.le_of_ble_eq_true rfl, Nat.le_of_ble_eq_true rfl⟩) ⟨PRE.blind, va_recv hKc hPc (ci := 0) (q0 := 0) rfl rfl, PRE.of hE hS hFc hPc hKc hDc⟩ rfl rfl hl.1 rfl (lv_room (Nat.le_of_ble_eq_true rfl)) dX11_feed_56 ⟨(Nat.le_of_ble_eq_true rfl), (Nat.le_of_ble_eq_true rfl)⟩) hS (fun q _ h => hFc q h) hFc (fun u t H locs ht hvm hw hB hz1 hk1 hS => ?_)
    obtain ⟨hP, hD, hK⟩ := JOIN (wr := (oX11 (p0a 0) p0a p0w)) hP hD hK [1, 2] [0] [] rfl rfl (by decide) (by decide) rfl hk1 hFc ht hvm hB
    have hP : va_P (dC, dI) cls ((oX11 (p0a 0) p0a p0w) ++ (oX10 (p0a 1) p0_0a p0_0k o_5 p0_0l)) H := hP.sub [0, 1, 2] rfl
    have hD : va_D A ((oX11 (p0a 0) p0a p0w) ++ (oX10 (p0a 1) p0_0a p0_0k o_5 p0_0l)) := hD.sub [0, 1, 2] (by decide) rfl
    have hK : va_K (dC, dI) cls (tX10 p0_0k) s := hK.sub [0] rfl
    refine lv_aload_n hx hb dX11_feed_59 rfl (lv_at hl 0 rfl) ?_
    refine va_get (D := (dC, dI)) (ci := 11) (v := .ref (p0a 1)) (C := RX11) (T := TX11) (N := 11) hx hb hts i_X11 hown hK hP 0 rfl rfl 0 (by decide) (hts _ qw1026) (fun _ h9 => h9) rfl dX11_feed_60 ?_
    refine lv_iload hx hb dX11_feed_63 (lv_at hl 5 rfl) ?_
    obtain ⟨o_6, hc_6, hrun⟩ := bnd9 hrun
    have hPc := hP.sub (ws' := (oX10 (p0a 1) p0_0a p0_0k o_5 p0_0l)) [1, 2] rfl
    have hDc := hD.sub (ws' := (oX10 (p0a 1) p0_0a p0_0k o_5 p0_0l)) [1, 2] (by decide) rfl
    have hKc := hK.sub (tys' := (tX10 p0_0k)) [0] rfl
    have hFc := va_free (wc := (oX10 (p0a 1) p0_0a p0_0k o_5 p0_0l)) hD hS hA [1, 2] rfl
    refine va_callv (va_runV (As := [.int p5]) (rest := []) ⟨hx, hb, hml, hown, hts⟩ (kX10_append l dC dI (p0a := (st0 (p0a 1) p0_0a)) (p0k := p0_0k) (p0w := o_5) (p0l := p0_0l) (p1 := p5) (sz := _) (o := o_6) (hrun := hc_6)) (cwV 1 hts (gi_V qw1029 qw1030 qw1031 qw8 (gi_z qw1028)) rfl rfl rfl (by decide +kernel) ⟨Nat.le_of_ble_eq_true rfl, Nat.le_of_ble_eq_true rfl⟩) ⟨PRE.blind, va_recv hKc hPc (ci := 0) (q0 := 0) rfl rfl, PRE.of hE hS hFc hPc hKc hDc⟩ rfl rfl hl.1 rfl (lv_room (Nat.le_of_ble_eq_true rfl)) dX11_feed_65 ⟨(Nat.le_of_ble_eq_true rfl), (Nat.le_of_ble_eq_true rfl)⟩) hS (fun q _ h => hFc q h) hFc (fun u t H locs ht hvm hw hB hz1 hk1 hS => ?_)
    obtain ⟨hP, hD, hK⟩ := JOIN (wr := (oX11 (p0a 0) p0a p0w)) hP hD hK [1, 2] [0] [] rfl rfl (by decide) (by decide) rfl hk1 hFc ht hvm hB
    have hP : va_P (dC, dI) cls ((oX11 (p0a 0) p0a p0w) ++ (oX10 (p0a 1) p0_0a p0_0k o_6 p0_0l)) H := hP.sub [0, 1, 2] rfl
    have hD : va_D A ((oX11 (p0a 0) p0a p0w) ++ (oX10 (p0a 1) p0_0a p0_0k o_6 p0_0l)) := hD.sub [0, 1, 2] (by decide) rfl
    have hK : va_K (dC, dI) cls (tX10 p0_0k) s := hK.sub [0] rfl
    refine lv_aload_n hx hb dX11_feed_68 rfl (lv_at hl 0 rfl) ?_
    refine va_get (D := (dC, dI)) (ci := 11) (v := .ref (p0a 1)) (C := RX11) (T := TX11) (N := 11) hx hb hts i_X11 hown hK hP 0 rfl rfl 0 (by decide) (hts _ qw1026) (fun _ h9 => h9) rfl dX11_feed_69 ?_
    refine va_get (D := (dC, dI)) (ci := 0) (v := .int (o_6 0 1)) (C := RX10) (T := TX10) (N := 8) hx hb hts i_X10 hown hK hP 1 rfl rfl 1 (by decide) (hts _ qw1027) (fun _ h9 => h9) rfl dX11_feed_72 ?_
    have ho9 : ((o_6 0 1), o_6) = o := Option.some.inj hrun
    have hP9 : va_P (dC, dI) cls ((oX11 (p0a 0) p0a p0w) ++ (oX10 (p0a 1) p0_0a p0_0k (o.2) p0_0l)) H := by first | exact hP | (rw [← ho9]; exact hP)
    have hD9 : va_D A ((oX11 (p0a 0) p0a p0w) ++ (oX10 (p0a 1) p0_0a p0_0k (o.2) p0_0l)) := by first | exact hD | (rw [← ho9]; exact hD)
    subst hQ
    exact W.iret (v := (o_6 0 1)) hx hb hr (fun t ht hW => ⟨⟨(o_6 0 1), (), rfl, (by rw [← ho9]), ⟨by rw [ht]; exact hP9, va_K.moved hW.alike hK, hD9⟩⟩, hS.F ht⟩) hS.2.2 dX11_feed_75
  · refine lv_icmp_le (tgt := 26) hx hb dX11_feed_13 (by decide) (fun c => absurd c hc1) (fun _ => ?_)
    cases hrun
def fX11_functions (p0_8w : ST) : Option Int32 := some (p0_8w 0 0)
set_option maxHeartbeats 16000000 in
set_option maxRecDepth 100000 in
theorem kX11_functions {zs : Nat × Nat} (l : Launch) (dC : Nat → ClassId) (dI : Nat → Nat → Nat) (p0a : Nat → Nat) (p0w : ST) (p0_8a : Nat → Nat) (p0_8k : Nat → ClassId) (p0_8w : ST) (p0_8l : SL) (sz : Nat) (o : Int32) (hrun : fX11_functions p0_8w = some o) : Met l yX11_functions (wz yX11_functions cX11_functions 1 (Option.some Jvm.ClassFile.FieldType.int)) ({ frames := 0, cells := 0, slots := 0, locals := 0 } : Room) (va_Pc [.ref (p0a 0)] (PRE zs dC dI ((oX11 (p0a 0) p0a p0w) ++ (oX6 (p0a 9) p0_8a p0_8k p0_8w p0_8l)) (tX6 p0_8k) sz)) (va_Qi (fun (r : Int32) (_ : Unit) => r = o) (fun _ t => POST dC dI ((oX11 (p0a 0) p0a p0w) ++ (oX6 (p0a 9) p0_8a p0_8k p0_8w p0_8l)) (tX6 p0_8k) (va_A ((oX11 (p0a 0) p0a p0w) ++ (oX6 (p0a 9) p0_8a p0_8k p0_8w p0_8l)) sz) t) (va_A ((oX11 (p0a 0) p0a p0w) ++ (oX6 (p0a 9) p0_8a p0_8k p0_8w p0_8l)) sz)) 0 0 (va_A ((oX11 (p0a 0) p0a p0w) ++ (oX6 (p0a 9) p0_8a p0_8k p0_8w p0_8l)) sz) := by
  refine Met.ofW (cc := cX11_functions) (maxL := 1) (ret := (Option.some Jvm.ClassFile.FieldType.int)) (by decide) rfl ?_
  intro p e s m args below meth c s₁ B hml hv
  obtain ⟨rfl, hsz, hP, hK, hD0, hE⟩ := hv
  have hx := B.exec
  have hb := B.bytes
  have hr := B.returns
  have hts0 := atoms_spec (ws := wz yX11_functions cX11_functions 1 (Option.some Jvm.ClassFile.FieldType.int)) B.pre
  have hts : ∀ w ∈ gw, w.before _ s = true := fun w h => hts0 w (List.mem_cons_of_mem _ h)
  have hown : s.vm.findClass RX11 = some m.cls := findClass_of_methodNamed B.named
  have hlocks := B.notSynchronized
  subst hsz
  have hD := hD0.self (sz := s.heap.size)
  refine gQ9 ?_
  intro Q hQ
  generalize hAe : va_A ((oX11 (p0a 0) p0a p0w) ++ (oX6 (p0a 9) p0_8a p0_8k p0_8w p0_8l)) s.heap.size = A at hD hE hQ
  have hA : ∀ q : Nat, s.heap.size ≤ q → A q := fun q h => by rw [← hAe]; exact Or.inr h
  have hS : va_S A s.heap s.heap [] := va_S.rf
  have hP : va_P (dC, dI) cls ((oX11 (p0a 0) p0a p0w) ++ (oX6 (p0a 9) p0_8a p0_8k p0_8w p0_8l)) s.heap := hP
  have hl := lv_entry ([.ref (p0a 0)]) (n := 1) (Nat.le_of_ble_eq_true rfl)
  rw [lg_entry_eq]
  generalize (lg_sl ([.ref (p0a 0)]) ++ List.replicate (1 - (lg_sl ([.ref (p0a 0)])).length) Slot.unset).toArray = ls at hl ⊢
  have hl : lv_has ls 1 [(0, .ref (p0a 0))] := hl
  obtain ⟨H, hHe⟩ : ∃ H, H = s.heap := ⟨_, rfl⟩
  obtain ⟨locs, hle⟩ : ∃ locs : List Loc, locs = [] := ⟨_, rfl⟩
  rw [← hHe] at hP
  have hS : va_S A s.heap H locs := by rw [hHe, hle]; exact hS
  show W p l e ({ frames := 0, cells := 0, slots := 0, locals := 0 } : Room) s m ([.ref (p0a 0)] : List Value).toArray below meth c s.heap [] 0 0 Q (F0 m 0 ls [])
  rw [← hle]
  refine wH9 hHe ?_
  unfold fX11_functions at hrun
  refine lv_aload_n hx hb dX11_functions_0 rfl (lv_at hl 0 rfl) ?_
  refine va_get (D := (dC, dI)) (ci := 11) (v := .ref (p0a 9)) (C := RX11) (T := TX11) (N := 11) hx hb hts i_X11 hown hK hP 0 rfl rfl 8 (by decide) (hts _ qw974) (fun _ h9 => h9) rfl dX11_functions_1 ?_
  refine va_get (D := (dC, dI)) (ci := 2) (v := .int (p0_8w 0 0)) (C := RX6) (T := TX6) (N := 13) hx hb hts i_X6 hown hK hP 1 rfl rfl 0 (by decide) (hts _ qw975) (fun _ h9 => h9) rfl dX11_functions_4 ?_
  have ho9 : (p0_8w 0 0) = o := Option.some.inj hrun
  have hP9 : va_P (dC, dI) cls ((oX11 (p0a 0) p0a p0w) ++ (oX6 (p0a 9) p0_8a p0_8k p0_8w p0_8l)) H := by first | exact hP | (rw [← ho9]; exact hP)
  have hD9 : va_D A ((oX11 (p0a 0) p0a p0w) ++ (oX6 (p0a 9) p0_8a p0_8k p0_8w p0_8l)) := by first | exact hD | (rw [← ho9]; exact hD)
  subst hQ
  exact W.iret (v := (p0_8w 0 0)) hx hb hr (fun t ht hW => ⟨⟨(p0_8w 0 0), (), rfl, (by rw [← ho9]), ⟨by rw [ht]; exact hP9, va_K.moved hW.alike hK, hD9⟩⟩, hS.F ht⟩) hS.2.2 dX11_functions_7
def fX11_needPlace_J9  : Option Unit := none
def fX11_needPlace (p1 : Int32) (p2 : Int32) : Option Unit := (if p1 < 0 then (fX11_needPlace_J9) else (if p1 < p2 then some () else (fX11_needPlace_J9)))
set_option maxHeartbeats 16000000 in
set_option maxRecDepth 100000 in
theorem kX11_needPlace {zs : Nat × Nat} (l : Launch) (dC : Nat → ClassId) (dI : Nat → Nat → Nat) (p0a : Nat → Nat) (p0w : ST) (p1 : Int32) (p2 : Int32) (sz : Nat) (o : Unit) (hrun : fX11_needPlace p1 p2 = some o) : Met l yX11_needPlace (wz yX11_needPlace cX11_needPlace 3 (Option.none : Option Jvm.ClassFile.FieldType)) ({ frames := 0, cells := 0, slots := 0, locals := 0 } : Room) (va_Pc [.ref (p0a 0), .int p1, .int p2] (PRE zs dC dI (oX11 (p0a 0) p0a p0w) ([] : List (ClassId × FieldType)) sz)) (va_Qv (fun (_ : Unit) => True) (fun _ t => POST dC dI (oX11 (p0a 0) p0a p0w) ([] : List (ClassId × FieldType)) (va_A (oX11 (p0a 0) p0a p0w) sz) t) (va_A (oX11 (p0a 0) p0a p0w) sz)) 0 0 (va_A (oX11 (p0a 0) p0a p0w) sz) := by
  refine Met.ofW (cc := cX11_needPlace) (maxL := 3) (ret := (Option.none : Option Jvm.ClassFile.FieldType)) (by decide) rfl ?_
  intro p e s m args below meth c s₁ B hml hv
  obtain ⟨rfl, hsz, hP, hK, hD0, hE⟩ := hv
  have hx := B.exec
  have hb := B.bytes
  have hr := B.returns
  have hts0 := atoms_spec (ws := wz yX11_needPlace cX11_needPlace 3 (Option.none : Option Jvm.ClassFile.FieldType)) B.pre
  have hts : ∀ w ∈ gw, w.before _ s = true := fun w h => hts0 w (List.mem_cons_of_mem _ h)
  have hown : s.vm.findClass RX11 = some m.cls := findClass_of_methodNamed B.named
  have hlocks := B.notSynchronized
  subst hsz
  have hD := hD0.self (sz := s.heap.size)
  refine gQ9 ?_
  intro Q hQ
  generalize hAe : va_A (oX11 (p0a 0) p0a p0w) s.heap.size = A at hD hE hQ
  have hA : ∀ q : Nat, s.heap.size ≤ q → A q := fun q h => by rw [← hAe]; exact Or.inr h
  have hS : va_S A s.heap s.heap [] := va_S.rf
  have hP : va_P (dC, dI) cls (oX11 (p0a 0) p0a p0w) s.heap := hP
  have hl := lv_entry ([.ref (p0a 0), .int p1, .int p2]) (n := 3) (Nat.le_of_ble_eq_true rfl)
  rw [lg_entry_eq]
  generalize (lg_sl ([.ref (p0a 0), .int p1, .int p2]) ++ List.replicate (3 - (lg_sl ([.ref (p0a 0), .int p1, .int p2])).length) Slot.unset).toArray = ls at hl ⊢
  have hl : lv_has ls 3 [(0, .ref (p0a 0)), (1, .int p1), (2, .int p2)] := hl
  obtain ⟨H, hHe⟩ : ∃ H, H = s.heap := ⟨_, rfl⟩
  obtain ⟨locs, hle⟩ : ∃ locs : List Loc, locs = [] := ⟨_, rfl⟩
  rw [← hHe] at hP
  have hS : va_S A s.heap H locs := by rw [hHe, hle]; exact hS
  show W p l e ({ frames := 0, cells := 0, slots := 0, locals := 0 } : Room) s m ([.ref (p0a 0), .int p1, .int p2] : List Value).toArray below meth c s.heap [] 0 0 Q (F0 m 0 ls [])
  rw [← hle]
  refine wH9 hHe ?_
  unfold fX11_needPlace at hrun
  refine lv_iload_n hx hb dX11_needPlace_0 rfl (lv_at hl 1 rfl) ?_
  have J9 : ∀ (H : Heap) (locs : List Loc) (ls : Array Slot), (fX11_needPlace_J9) = some o → va_P (dC, dI) cls (oX11 (p0a 0) p0a p0w) H → va_D A (oX11 (p0a 0) p0a p0w) → va_K (dC, dI) cls ([] : List (ClassId × FieldType)) s → va_S A s.heap H locs → lv_has ls 3 [] → W p l e ({ frames := 0, cells := 0, slots := 0, locals := 0 } : Room) s m ([.ref (p0a 0), .int p1, .int p2] : List Value).toArray below meth c H locs 0 0 Q (F0 m 9 ls []) := by
    intro  H locs ls hrun hP hD hK hS hl 
    unfold fX11_needPlace_J9 at hrun
    cases hrun
  rcases br9 hrun with ⟨hc1, hrun⟩ | ⟨hc1, hrun⟩
  · refine lv_if_lt (tgt := 9) hx hb dX11_needPlace_1 (by decide) (fun _ => ?_) (fun c => absurd hc1 c)
    exact J9 _ _ _ hrun hP hD hK hS (lv_sub hl [] rfl)
  · refine lv_if_lt (tgt := 9) hx hb dX11_needPlace_1 (by decide) (fun c => absurd c hc1) (fun _ => ?_)
    refine lv_iload_n hx hb dX11_needPlace_4 rfl (lv_at hl 1 rfl) ?_
    refine lv_iload_n hx hb dX11_needPlace_5 rfl (lv_at hl 2 rfl) ?_
    rcases br9 hrun with ⟨hc2, hrun⟩ | ⟨hc2, hrun⟩
    · refine lv_icmp_lt (tgt := 20) hx hb dX11_needPlace_6 (by decide) (fun _ => ?_) (fun c => absurd hc2 c)
      have ho9 : () = o := Option.some.inj hrun
      have hP9 : va_P (dC, dI) cls (oX11 (p0a 0) p0a p0w) H := by first | exact hP | (rw [← ho9]; exact hP)
      have hD9 : va_D A (oX11 (p0a 0) p0a p0w) := by first | exact hD | (rw [← ho9]; exact hD)
      subst hQ
      exact W.vret hx hb hr (fun t ht hW => ⟨⟨(), rfl, trivial, ⟨by rw [ht]; exact hP9, va_K.moved hW.alike hK, hD9⟩⟩, hS.F ht⟩) hS.2.2 dX11_needPlace_20
    · refine lv_icmp_lt (tgt := 20) hx hb dX11_needPlace_6 (by decide) (fun c => absurd c hc2) (fun _ => ?_)
      exact J9 _ _ _ hrun hP hD hK hS (lv_sub hl [] rfl)
def fX11_result (p0_6w : ST) : Option Int32 := some (p0_6w 0 1)
set_option maxHeartbeats 16000000 in
set_option maxRecDepth 100000 in
theorem kX11_result {zs : Nat × Nat} (l : Launch) (dC : Nat → ClassId) (dI : Nat → Nat → Nat) (p0a : Nat → Nat) (p0w : ST) (p0_6a : Nat → Nat) (p0_6k : Nat → ClassId) (p0_6n : Nat → Nat) (p0_6w : ST) (sz : Nat) (o : Int32) (hrun : fX11_result p0_6w = some o) : Met l yX11_result (wz yX11_result cX11_result 1 (Option.some Jvm.ClassFile.FieldType.int)) ({ frames := 0, cells := 0, slots := 0, locals := 0 } : Room) (va_Pc [.ref (p0a 0)] (PRE zs dC dI ((oX11 (p0a 0) p0a p0w) ++ (oX3 (p0a 7) p0_6a p0_6k p0_6n p0_6w)) (tX3 p0_6k) sz)) (va_Qi (fun (r : Int32) (_ : Unit) => r = o) (fun _ t => POST dC dI ((oX11 (p0a 0) p0a p0w) ++ (oX3 (p0a 7) p0_6a p0_6k p0_6n p0_6w)) (tX3 p0_6k) (va_A ((oX11 (p0a 0) p0a p0w) ++ (oX3 (p0a 7) p0_6a p0_6k p0_6n p0_6w)) sz) t) (va_A ((oX11 (p0a 0) p0a p0w) ++ (oX3 (p0a 7) p0_6a p0_6k p0_6n p0_6w)) sz)) 0 0 (va_A ((oX11 (p0a 0) p0a p0w) ++ (oX3 (p0a 7) p0_6a p0_6k p0_6n p0_6w)) sz) := by
  refine Met.ofW (cc := cX11_result) (maxL := 1) (ret := (Option.some Jvm.ClassFile.FieldType.int)) (by decide) rfl ?_
  intro p e s m args below meth c s₁ B hml hv
  obtain ⟨rfl, hsz, hP, hK, hD0, hE⟩ := hv
  have hx := B.exec
  have hb := B.bytes
  have hr := B.returns
  have hts0 := atoms_spec (ws := wz yX11_result cX11_result 1 (Option.some Jvm.ClassFile.FieldType.int)) B.pre
  have hts : ∀ w ∈ gw, w.before _ s = true := fun w h => hts0 w (List.mem_cons_of_mem _ h)
  have hown : s.vm.findClass RX11 = some m.cls := findClass_of_methodNamed B.named
  have hlocks := B.notSynchronized
  subst hsz
  have hD := hD0.self (sz := s.heap.size)
  refine gQ9 ?_
  intro Q hQ
  generalize hAe : va_A ((oX11 (p0a 0) p0a p0w) ++ (oX3 (p0a 7) p0_6a p0_6k p0_6n p0_6w)) s.heap.size = A at hD hE hQ
  have hA : ∀ q : Nat, s.heap.size ≤ q → A q := fun q h => by rw [← hAe]; exact Or.inr h
  have hS : va_S A s.heap s.heap [] := va_S.rf
  have hP : va_P (dC, dI) cls ((oX11 (p0a 0) p0a p0w) ++ (oX3 (p0a 7) p0_6a p0_6k p0_6n p0_6w)) s.heap := hP
  have hl := lv_entry ([.ref (p0a 0)]) (n := 1) (Nat.le_of_ble_eq_true rfl)
  rw [lg_entry_eq]
  generalize (lg_sl ([.ref (p0a 0)]) ++ List.replicate (1 - (lg_sl ([.ref (p0a 0)])).length) Slot.unset).toArray = ls at hl ⊢
  have hl : lv_has ls 1 [(0, .ref (p0a 0))] := hl
  obtain ⟨H, hHe⟩ : ∃ H, H = s.heap := ⟨_, rfl⟩
  obtain ⟨locs, hle⟩ : ∃ locs : List Loc, locs = [] := ⟨_, rfl⟩
  rw [← hHe] at hP
  have hS : va_S A s.heap H locs := by rw [hHe, hle]; exact hS
  show W p l e ({ frames := 0, cells := 0, slots := 0, locals := 0 } : Room) s m ([.ref (p0a 0)] : List Value).toArray below meth c s.heap [] 0 0 Q (F0 m 0 ls [])
  rw [← hle]
  refine wH9 hHe ?_
  unfold fX11_result at hrun
  refine lv_aload_n hx hb dX11_result_0 rfl (lv_at hl 0 rfl) ?_
  refine va_get (D := (dC, dI)) (ci := 11) (v := .ref (p0a 7)) (C := RX11) (T := TX11) (N := 11) hx hb hts i_X11 hown hK hP 0 rfl rfl 6 (by decide) (hts _ qw985) (fun _ h9 => h9) rfl dX11_result_1 ?_
  refine va_get (D := (dC, dI)) (ci := 10) (v := .int (p0_6w 0 1)) (C := RX3) (T := TX3) (N := 20) hx hb hts i_X3 hown hK hP 1 rfl rfl 1 (by decide) (hts _ qw995) (fun _ h9 => h9) rfl dX11_result_4 ?_
  have ho9 : (p0_6w 0 1) = o := Option.some.inj hrun
  have hP9 : va_P (dC, dI) cls ((oX11 (p0a 0) p0a p0w) ++ (oX3 (p0a 7) p0_6a p0_6k p0_6n p0_6w)) H := by first | exact hP | (rw [← ho9]; exact hP)
  have hD9 : va_D A ((oX11 (p0a 0) p0a p0w) ++ (oX3 (p0a 7) p0_6a p0_6k p0_6n p0_6w)) := by first | exact hD | (rw [← ho9]; exact hD)
  subst hQ
  exact W.iret (v := (p0_6w 0 1)) hx hb hr (fun t ht hW => ⟨⟨(p0_6w 0 1), (), rfl, (by rw [← ho9]), ⟨by rw [ht]; exact hP9, va_K.moved hW.alike hK, hD9⟩⟩, hS.F ht⟩) hS.2.2 dX11_result_7
def fX11_rounds_J28 (y0_28 : Int32) : Option Int32 := some y0_28
def fX11_rounds (p1 : Int32) (p0_8w : ST) (p0_5w : ST) : Option Int32 := ((fX11_needFunction p1 p0_8w).bind fun (o_1 : Unit) => (if (p0_5w 0 5) = 0 then (fX11_rounds_J28 0) else (if ixb p1 6 = true then (fX11_rounds_J28 (p0_5w 5 (nn p1))) else none)))
set_option maxHeartbeats 16000000 in
set_option maxRecDepth 100000 in
theorem kX11_rounds {zs : Nat × Nat} (l : Launch) (dC : Nat → ClassId) (dI : Nat → Nat → Nat) (p0a : Nat → Nat) (p0w : ST) (p1 : Int32) (p0_8a : Nat → Nat) (p0_8k : Nat → ClassId) (p0_8w : ST) (p0_8l : SL) (p0_5a : Nat → Nat) (p0_5k : Nat → ClassId) (p0_5n : Nat → Nat) (p0_5w : ST) (sz : Nat) (o : Int32) (hrun : fX11_rounds p1 p0_8w p0_5w = some o) : Met l yX11_rounds (wz yX11_rounds cX11_rounds 2 (Option.some Jvm.ClassFile.FieldType.int)) ({ frames := 1, cells := 0, slots := 0, locals := 21 } : Room) (va_Pc [.ref (p0a 0), .int p1] (PRE zs dC dI ((oX11 (p0a 0) p0a p0w) ++ (oX6 (p0a 9) p0_8a p0_8k p0_8w p0_8l) ++ (oX0 (p0a 6) p0_5a p0_5k p0_5n p0_5w)) ((tX6 p0_8k) ++ (tX0 p0_5k)) sz)) (va_Qi (fun (r : Int32) (_ : Unit) => r = o) (fun _ t => POST dC dI ((oX11 (p0a 0) p0a p0w) ++ (oX6 (p0a 9) p0_8a p0_8k p0_8w p0_8l) ++ (oX0 (p0a 6) p0_5a p0_5k p0_5n p0_5w)) ((tX6 p0_8k) ++ (tX0 p0_5k)) (va_A ((oX11 (p0a 0) p0a p0w) ++ (oX6 (p0a 9) p0_8a p0_8k p0_8w p0_8l) ++ (oX0 (p0a 6) p0_5a p0_5k p0_5n p0_5w)) sz) t) (va_A ((oX11 (p0a 0) p0a p0w) ++ (oX6 (p0a 9) p0_8a p0_8k p0_8w p0_8l) ++ (oX0 (p0a 6) p0_5a p0_5k p0_5n p0_5w)) sz)) 0 0 (va_A ((oX11 (p0a 0) p0a p0w) ++ (oX6 (p0a 9) p0_8a p0_8k p0_8w p0_8l) ++ (oX0 (p0a 6) p0_5a p0_5k p0_5n p0_5w)) sz) := by
  refine Met.ofW (cc := cX11_rounds) (maxL := 2) (ret := (Option.some Jvm.ClassFile.FieldType.int)) (by decide) rfl ?_
  intro p e s m args below meth c s₁ B hml hv
  obtain ⟨rfl, hsz, hP, hK, hD0, hE⟩ := hv
  have hx := B.exec
  have hb := B.bytes
  have hr := B.returns
  have hts0 := atoms_spec (ws := wz yX11_rounds cX11_rounds 2 (Option.some Jvm.ClassFile.FieldType.int)) B.pre
  have hts : ∀ w ∈ gw, w.before _ s = true := fun w h => hts0 w (List.mem_cons_of_mem _ h)
  have hown : s.vm.findClass RX11 = some m.cls := findClass_of_methodNamed B.named
  have hlocks := B.notSynchronized
  subst hsz
  have hD := hD0.self (sz := s.heap.size)
  refine gQ9 ?_
  intro Q hQ
  generalize hAe : va_A ((oX11 (p0a 0) p0a p0w) ++ (oX6 (p0a 9) p0_8a p0_8k p0_8w p0_8l) ++ (oX0 (p0a 6) p0_5a p0_5k p0_5n p0_5w)) s.heap.size = A at hD hE hQ
  have hA : ∀ q : Nat, s.heap.size ≤ q → A q := fun q h => by rw [← hAe]; exact Or.inr h
  have hS : va_S A s.heap s.heap [] := va_S.rf
  have hP : va_P (dC, dI) cls ((oX11 (p0a 0) p0a p0w) ++ (oX6 (p0a 9) p0_8a p0_8k p0_8w p0_8l) ++ (oX0 (p0a 6) p0_5a p0_5k p0_5n p0_5w)) s.heap := hP
  have hl := lv_entry ([.ref (p0a 0), .int p1]) (n := 2) (Nat.le_of_ble_eq_true rfl)
  rw [lg_entry_eq]
  generalize (lg_sl ([.ref (p0a 0), .int p1]) ++ List.replicate (2 - (lg_sl ([.ref (p0a 0), .int p1])).length) Slot.unset).toArray = ls at hl ⊢
  have hl : lv_has ls 2 [(0, .ref (p0a 0)), (1, .int p1)] := hl
  obtain ⟨H, hHe⟩ : ∃ H, H = s.heap := ⟨_, rfl⟩
  obtain ⟨locs, hle⟩ : ∃ locs : List Loc, locs = [] := ⟨_, rfl⟩
  rw [← hHe] at hP
  have hS : va_S A s.heap H locs := by rw [hHe, hle]; exact hS
  show W p l e ({ frames := 1, cells := 0, slots := 0, locals := 21 } : Room) s m ([.ref (p0a 0), .int p1] : List Value).toArray below meth c s.heap [] 0 0 Q (F0 m 0 ls [])
  rw [← hle]
  refine wH9 hHe ?_
  unfold fX11_rounds at hrun
  refine lv_aload_n hx hb dX11_rounds_0 rfl (lv_at hl 0 rfl) ?_
  refine lv_iload_n hx hb dX11_rounds_1 rfl (lv_at hl 1 rfl) ?_
  obtain ⟨o_1, hc_1, hrun⟩ := bnd9 hrun
  have hPc := hP.sub (ws' := ((oX11 (p0a 0) p0a p0w) ++ (oX6 (p0a 9) p0_8a p0_8k p0_8w p0_8l))) [0, 1, 2, 3, 4, 5, 6, 7, 8, 9, 10, 11] rfl
  have hDc := hD.sub (ws' := ((oX11 (p0a 0) p0a p0w) ++ (oX6 (p0a 9) p0_8a p0_8k p0_8w p0_8l))) [0, 1, 2, 3, 4, 5, 6, 7, 8, 9, 10, 11] (by decide) rfl
  have hKc := hK.sub (tys' := (tX6 p0_8k)) [0, 1, 2, 3, 4, 5, 6, 7, 8, 9] rfl
  have hFc := va_free (wc := ((oX11 (p0a 0) p0a p0w) ++ (oX6 (p0a 9) p0_8a p0_8k p0_8w p0_8l))) hD hS hA [0, 1, 2, 3, 4, 5, 6, 7, 8, 9, 10, 11] rfl
  refine va_callv (va_runV (As := [.int p1]) (rest := []) ⟨hx, hb, hml, hown, hts⟩ (kX11_needFunction l dC dI (p0a := (st0 (p0a 0) p0a)) (p0w := p0w) (p1 := p1) (p0_8a := p0_8a) (p0_8k := p0_8k) (p0_8w := p0_8w) (p0_8l := p0_8l) (sz := _) (o := o_1) (hrun := hc_1)) (cwV 1 hts (gi_V qw979 qw980 qw981 qw129 (gi_z qw978)) rfl rfl rfl (by decide +kernel) ⟨Nat.le_of_ble_eq_true rfl, Nat.le_of_ble_eq_true rfl⟩) ⟨PRE.blind, va_recv hKc hPc (ci := 11) (q0 := 0) rfl rfl, PRE.of hE hS hFc hPc hKc hDc⟩ rfl rfl hl.1 rfl (lv_room (Nat.le_of_ble_eq_true rfl)) dX11_rounds_2 ⟨(Nat.le_of_ble_eq_true rfl), (Nat.le_of_ble_eq_true rfl)⟩) hS (fun q _ h => hFc q h) hFc (fun u t H locs ht hvm hw hB hz1 hk1 hS => ?_)
  obtain ⟨hP, hD, hK⟩ := JOIN (wr := (oX0 (p0a 6) p0_5a p0_5k p0_5n p0_5w)) hP hD hK [0, 1, 2, 3, 4, 5, 6, 7, 8, 9, 10, 11] [12, 13, 14, 15, 16, 17, 18, 19, 20] [10, 11, 12, 13, 14, 15, 16, 17] rfl rfl (by decide) (by decide) rfl hk1 hFc ht hvm hB
  have hP : va_P (dC, dI) cls ((oX11 (p0a 0) p0a p0w) ++ (oX6 (p0a 9) p0_8a p0_8k p0_8w p0_8l) ++ (oX0 (p0a 6) p0_5a p0_5k p0_5n p0_5w)) H := hP.sub [9, 10, 11, 12, 13, 14, 15, 16, 17, 18, 19, 20, 0, 1, 2, 3, 4, 5, 6, 7, 8] rfl
  have hD : va_D A ((oX11 (p0a 0) p0a p0w) ++ (oX6 (p0a 9) p0_8a p0_8k p0_8w p0_8l) ++ (oX0 (p0a 6) p0_5a p0_5k p0_5n p0_5w)) := hD.sub [9, 10, 11, 12, 13, 14, 15, 16, 17, 18, 19, 20, 0, 1, 2, 3, 4, 5, 6, 7, 8] (by decide) rfl
  have hK : va_K (dC, dI) cls ((tX6 p0_8k) ++ (tX0 p0_5k)) s := hK.sub [8, 9, 10, 11, 12, 13, 14, 15, 16, 17, 0, 1, 2, 3, 4, 5, 6, 7] rfl
  refine lv_aload_n hx hb dX11_rounds_5 rfl (lv_at hl 0 rfl) ?_
  refine va_get (D := (dC, dI)) (ci := 11) (v := .ref (p0a 6)) (C := RX11) (T := TX11) (N := 11) hx hb hts i_X11 hown hK hP 0 rfl rfl 5 (by decide) (hts _ qw976) (fun _ h9 => h9) rfl dX11_rounds_6 ?_
  refine va_get (D := (dC, dI)) (ci := 8) (v := .int (p0_5w 0 5)) (C := RX0) (T := TX0) (N := 17) hx hb hts i_X0 hown hK hP 12 rfl rfl 5 (by decide) (hts _ qw982) (fun _ h9 => h9) rfl dX11_rounds_9 ?_
  have J28 : ∀ (y0_28 : Int32) (H : Heap) (locs : List Loc) (ls : Array Slot), (fX11_rounds_J28 y0_28) = some o → va_P (dC, dI) cls ((oX11 (p0a 0) p0a p0w) ++ (oX6 (p0a 9) p0_8a p0_8k p0_8w p0_8l) ++ (oX0 (p0a 6) p0_5a p0_5k p0_5n p0_5w)) H → va_D A ((oX11 (p0a 0) p0a p0w) ++ (oX6 (p0a 9) p0_8a p0_8k p0_8w p0_8l) ++ (oX0 (p0a 6) p0_5a p0_5k p0_5n p0_5w)) → va_K (dC, dI) cls ((tX6 p0_8k) ++ (tX0 p0_5k)) s → va_S A s.heap H locs → lv_has ls 2 [] → W p l e ({ frames := 1, cells := 0, slots := 0, locals := 21 } : Room) s m ([.ref (p0a 0), .int p1] : List Value).toArray below meth c H locs 0 0 Q (F0 m 28 ls [.int y0_28]) := by
    intro y0_28 H locs ls hrun hP hD hK hS hl 
    unfold fX11_rounds_J28 at hrun
    have ho9 : y0_28 = o := Option.some.inj hrun
    have hP9 : va_P (dC, dI) cls ((oX11 (p0a 0) p0a p0w) ++ (oX6 (p0a 9) p0_8a p0_8k p0_8w p0_8l) ++ (oX0 (p0a 6) p0_5a p0_5k p0_5n p0_5w)) H := by first | exact hP | (rw [← ho9]; exact hP)
    have hD9 : va_D A ((oX11 (p0a 0) p0a p0w) ++ (oX6 (p0a 9) p0_8a p0_8k p0_8w p0_8l) ++ (oX0 (p0a 6) p0_5a p0_5k p0_5n p0_5w)) := by first | exact hD | (rw [← ho9]; exact hD)
    subst hQ
    exact W.iret (v := y0_28) hx hb hr (fun t ht hW => ⟨⟨y0_28, (), rfl, (by rw [← ho9]), ⟨by rw [ht]; exact hP9, va_K.moved hW.alike hK, hD9⟩⟩, hS.F ht⟩) hS.2.2 dX11_rounds_28
  rcases br9 hrun with ⟨hc2, hrun⟩ | ⟨hc2, hrun⟩
  · refine lv_if_eq (tgt := 27) hx hb dX11_rounds_12 (by decide) (fun _ => ?_) (fun c => absurd hc2 c)
    refine lv_iconst (v := 0) hx hb dX11_rounds_27 (by decide) ?_
    exact J28 0 _ _ _ hrun hP hD hK hS (lv_sub hl [] rfl)
  · refine lv_if_eq (tgt := 27) hx hb dX11_rounds_12 (by decide) (fun c => absurd c hc2) (fun _ => ?_)
    refine lv_aload_n hx hb dX11_rounds_15 rfl (lv_at hl 0 rfl) ?_
    refine va_get (D := (dC, dI)) (ci := 11) (v := .ref (p0a 6)) (C := RX11) (T := TX11) (N := 11) hx hb hts i_X11 hown hK hP 0 rfl rfl 5 (by decide) (hts _ qw976) (fun _ h9 => h9) rfl dX11_rounds_16 ?_
    refine va_get (D := (dC, dI)) (ci := 8) (v := .ref (p0_5a 5)) (C := RX0) (T := TX0) (N := 17) hx hb hts i_X0 hown hK hP 12 rfl rfl 4 (by decide) (hts _ qw1035) (fun _ h9 => h9) rfl dX11_rounds_19 ?_
    refine lv_iload_n hx hb dX11_rounds_22 rfl (lv_at hl 1 rfl) ?_
    obtain ⟨hq3, hrun⟩ := chk9 hrun
    refine va_iald hx hb hK hP 15 12 rfl rfl (ixb_in hq3) dX11_rounds_23 ?_
    refine lv_goto (tgt := 28) hx hb dX11_rounds_24 (by decide) ?_
    exact J28 (p0_5w 5 (nn p1)) _ _ _ hrun hP hD hK hS (lv_sub hl [] rfl)
def fX11_slots_J28 (y0_28 : Int32) : Option Int32 := some y0_28
def fX11_slots (p1 : Int32) (p0_8w : ST) (p0_5w : ST) : Option Int32 := ((fX11_needFunction p1 p0_8w).bind fun (o_1 : Unit) => (if (p0_5w 0 5) = 0 then (fX11_slots_J28 0) else (if ixb p1 6 = true then (fX11_slots_J28 (p0_5w 3 (nn p1))) else none)))
set_option maxHeartbeats 16000000 in
set_option maxRecDepth 100000 in
theorem kX11_slots {zs : Nat × Nat} (l : Launch) (dC : Nat → ClassId) (dI : Nat → Nat → Nat) (p0a : Nat → Nat) (p0w : ST) (p1 : Int32) (p0_8a : Nat → Nat) (p0_8k : Nat → ClassId) (p0_8w : ST) (p0_8l : SL) (p0_5a : Nat → Nat) (p0_5k : Nat → ClassId) (p0_5n : Nat → Nat) (p0_5w : ST) (sz : Nat) (o : Int32) (hrun : fX11_slots p1 p0_8w p0_5w = some o) : Met l yX11_slots (wz yX11_slots cX11_slots 2 (Option.some Jvm.ClassFile.FieldType.int)) ({ frames := 1, cells := 0, slots := 0, locals := 21 } : Room) (va_Pc [.ref (p0a 0), .int p1] (PRE zs dC dI ((oX11 (p0a 0) p0a p0w) ++ (oX6 (p0a 9) p0_8a p0_8k p0_8w p0_8l) ++ (oX0 (p0a 6) p0_5a p0_5k p0_5n p0_5w)) ((tX6 p0_8k) ++ (tX0 p0_5k)) sz)) (va_Qi (fun (r : Int32) (_ : Unit) => r = o) (fun _ t => POST dC dI ((oX11 (p0a 0) p0a p0w) ++ (oX6 (p0a 9) p0_8a p0_8k p0_8w p0_8l) ++ (oX0 (p0a 6) p0_5a p0_5k p0_5n p0_5w)) ((tX6 p0_8k) ++ (tX0 p0_5k)) (va_A ((oX11 (p0a 0) p0a p0w) ++ (oX6 (p0a 9) p0_8a p0_8k p0_8w p0_8l) ++ (oX0 (p0a 6) p0_5a p0_5k p0_5n p0_5w)) sz) t) (va_A ((oX11 (p0a 0) p0a p0w) ++ (oX6 (p0a 9) p0_8a p0_8k p0_8w p0_8l) ++ (oX0 (p0a 6) p0_5a p0_5k p0_5n p0_5w)) sz)) 0 0 (va_A ((oX11 (p0a 0) p0a p0w) ++ (oX6 (p0a 9) p0_8a p0_8k p0_8w p0_8l) ++ (oX0 (p0a 6) p0_5a p0_5k p0_5n p0_5w)) sz) := by
  refine Met.ofW (cc := cX11_slots) (maxL := 2) (ret := (Option.some Jvm.ClassFile.FieldType.int)) (by decide) rfl ?_
  intro p e s m args below meth c s₁ B hml hv
  obtain ⟨rfl, hsz, hP, hK, hD0, hE⟩ := hv
  have hx := B.exec
  have hb := B.bytes
  have hr := B.returns
  have hts0 := atoms_spec (ws := wz yX11_slots cX11_slots 2 (Option.some Jvm.ClassFile.FieldType.int)) B.pre
  have hts : ∀ w ∈ gw, w.before _ s = true := fun w h => hts0 w (List.mem_cons_of_mem _ h)
  have hown : s.vm.findClass RX11 = some m.cls := findClass_of_methodNamed B.named
  have hlocks := B.notSynchronized
  subst hsz
  have hD := hD0.self (sz := s.heap.size)
  refine gQ9 ?_
  intro Q hQ
  generalize hAe : va_A ((oX11 (p0a 0) p0a p0w) ++ (oX6 (p0a 9) p0_8a p0_8k p0_8w p0_8l) ++ (oX0 (p0a 6) p0_5a p0_5k p0_5n p0_5w)) s.heap.size = A at hD hE hQ
  have hA : ∀ q : Nat, s.heap.size ≤ q → A q := fun q h => by rw [← hAe]; exact Or.inr h
  have hS : va_S A s.heap s.heap [] := va_S.rf
  have hP : va_P (dC, dI) cls ((oX11 (p0a 0) p0a p0w) ++ (oX6 (p0a 9) p0_8a p0_8k p0_8w p0_8l) ++ (oX0 (p0a 6) p0_5a p0_5k p0_5n p0_5w)) s.heap := hP
  have hl := lv_entry ([.ref (p0a 0), .int p1]) (n := 2) (Nat.le_of_ble_eq_true rfl)
  rw [lg_entry_eq]
  generalize (lg_sl ([.ref (p0a 0), .int p1]) ++ List.replicate (2 - (lg_sl ([.ref (p0a 0), .int p1])).length) Slot.unset).toArray = ls at hl ⊢
  have hl : lv_has ls 2 [(0, .ref (p0a 0)), (1, .int p1)] := hl
  obtain ⟨H, hHe⟩ : ∃ H, H = s.heap := ⟨_, rfl⟩
  obtain ⟨locs, hle⟩ : ∃ locs : List Loc, locs = [] := ⟨_, rfl⟩
  rw [← hHe] at hP
  have hS : va_S A s.heap H locs := by rw [hHe, hle]; exact hS
  show W p l e ({ frames := 1, cells := 0, slots := 0, locals := 21 } : Room) s m ([.ref (p0a 0), .int p1] : List Value).toArray below meth c s.heap [] 0 0 Q (F0 m 0 ls [])
  rw [← hle]
  refine wH9 hHe ?_
  unfold fX11_slots at hrun
  refine lv_aload_n hx hb dX11_slots_0 rfl (lv_at hl 0 rfl) ?_
  refine lv_iload_n hx hb dX11_slots_1 rfl (lv_at hl 1 rfl) ?_
  obtain ⟨o_1, hc_1, hrun⟩ := bnd9 hrun
  have hPc := hP.sub (ws' := ((oX11 (p0a 0) p0a p0w) ++ (oX6 (p0a 9) p0_8a p0_8k p0_8w p0_8l))) [0, 1, 2, 3, 4, 5, 6, 7, 8, 9, 10, 11] rfl
  have hDc := hD.sub (ws' := ((oX11 (p0a 0) p0a p0w) ++ (oX6 (p0a 9) p0_8a p0_8k p0_8w p0_8l))) [0, 1, 2, 3, 4, 5, 6, 7, 8, 9, 10, 11] (by decide) rfl
  have hKc := hK.sub (tys' := (tX6 p0_8k)) [0, 1, 2, 3, 4, 5, 6, 7, 8, 9] rfl
  have hFc := va_free (wc := ((oX11 (p0a 0) p0a p0w) ++ (oX6 (p0a 9) p0_8a p0_8k p0_8w p0_8l))) hD hS hA [0, 1, 2, 3, 4, 5, 6, 7, 8, 9, 10, 11] rfl
  refine va_callv (va_runV (As := [.int p1]) (rest := []) ⟨hx, hb, hml, hown, hts⟩ (kX11_needFunction l dC dI (p0a := (st0 (p0a 0) p0a)) (p0w := p0w) (p1 := p1) (p0_8a := p0_8a) (p0_8k := p0_8k) (p0_8w := p0_8w) (p0_8l := p0_8l) (sz := _) (o := o_1) (hrun := hc_1)) (cwV 1 hts (gi_V qw979 qw980 qw981 qw129 (gi_z qw978)) rfl rfl rfl (by decide +kernel) ⟨Nat.le_of_ble_eq_true rfl, Nat.le_of_ble_eq_true rfl⟩) ⟨PRE.blind, va_recv hKc hPc (ci := 11) (q0 := 0) rfl rfl, PRE.of hE hS hFc hPc hKc hDc⟩ rfl rfl hl.1 rfl (lv_room (Nat.le_of_ble_eq_true rfl)) dX11_slots_2 ⟨(Nat.le_of_ble_eq_true rfl), (Nat.le_of_ble_eq_true rfl)⟩) hS (fun q _ h => hFc q h) hFc (fun u t H locs ht hvm hw hB hz1 hk1 hS => ?_)
  obtain ⟨hP, hD, hK⟩ := JOIN (wr := (oX0 (p0a 6) p0_5a p0_5k p0_5n p0_5w)) hP hD hK [0, 1, 2, 3, 4, 5, 6, 7, 8, 9, 10, 11] [12, 13, 14, 15, 16, 17, 18, 19, 20] [10, 11, 12, 13, 14, 15, 16, 17] rfl rfl (by decide) (by decide) rfl hk1 hFc ht hvm hB
  have hP : va_P (dC, dI) cls ((oX11 (p0a 0) p0a p0w) ++ (oX6 (p0a 9) p0_8a p0_8k p0_8w p0_8l) ++ (oX0 (p0a 6) p0_5a p0_5k p0_5n p0_5w)) H := hP.sub [9, 10, 11, 12, 13, 14, 15, 16, 17, 18, 19, 20, 0, 1, 2, 3, 4, 5, 6, 7, 8] rfl
  have hD : va_D A ((oX11 (p0a 0) p0a p0w) ++ (oX6 (p0a 9) p0_8a p0_8k p0_8w p0_8l) ++ (oX0 (p0a 6) p0_5a p0_5k p0_5n p0_5w)) := hD.sub [9, 10, 11, 12, 13, 14, 15, 16, 17, 18, 19, 20, 0, 1, 2, 3, 4, 5, 6, 7, 8] (by decide) rfl
  have hK : va_K (dC, dI) cls ((tX6 p0_8k) ++ (tX0 p0_5k)) s := hK.sub [8, 9, 10, 11, 12, 13, 14, 15, 16, 17, 0, 1, 2, 3, 4, 5, 6, 7] rfl
  refine lv_aload_n hx hb dX11_slots_5 rfl (lv_at hl 0 rfl) ?_
  refine va_get (D := (dC, dI)) (ci := 11) (v := .ref (p0a 6)) (C := RX11) (T := TX11) (N := 11) hx hb hts i_X11 hown hK hP 0 rfl rfl 5 (by decide) (hts _ qw976) (fun _ h9 => h9) rfl dX11_slots_6 ?_
  refine va_get (D := (dC, dI)) (ci := 8) (v := .int (p0_5w 0 5)) (C := RX0) (T := TX0) (N := 17) hx hb hts i_X0 hown hK hP 12 rfl rfl 5 (by decide) (hts _ qw982) (fun _ h9 => h9) rfl dX11_slots_9 ?_
  have J28 : ∀ (y0_28 : Int32) (H : Heap) (locs : List Loc) (ls : Array Slot), (fX11_slots_J28 y0_28) = some o → va_P (dC, dI) cls ((oX11 (p0a 0) p0a p0w) ++ (oX6 (p0a 9) p0_8a p0_8k p0_8w p0_8l) ++ (oX0 (p0a 6) p0_5a p0_5k p0_5n p0_5w)) H → va_D A ((oX11 (p0a 0) p0a p0w) ++ (oX6 (p0a 9) p0_8a p0_8k p0_8w p0_8l) ++ (oX0 (p0a 6) p0_5a p0_5k p0_5n p0_5w)) → va_K (dC, dI) cls ((tX6 p0_8k) ++ (tX0 p0_5k)) s → va_S A s.heap H locs → lv_has ls 2 [] → W p l e ({ frames := 1, cells := 0, slots := 0, locals := 21 } : Room) s m ([.ref (p0a 0), .int p1] : List Value).toArray below meth c H locs 0 0 Q (F0 m 28 ls [.int y0_28]) := by
    intro y0_28 H locs ls hrun hP hD hK hS hl 
    unfold fX11_slots_J28 at hrun
    have ho9 : y0_28 = o := Option.some.inj hrun
    have hP9 : va_P (dC, dI) cls ((oX11 (p0a 0) p0a p0w) ++ (oX6 (p0a 9) p0_8a p0_8k p0_8w p0_8l) ++ (oX0 (p0a 6) p0_5a p0_5k p0_5n p0_5w)) H := by first | exact hP | (rw [← ho9]; exact hP)
    have hD9 : va_D A ((oX11 (p0a 0) p0a p0w) ++ (oX6 (p0a 9) p0_8a p0_8k p0_8w p0_8l) ++ (oX0 (p0a 6) p0_5a p0_5k p0_5n p0_5w)) := by first | exact hD | (rw [← ho9]; exact hD)
    subst hQ
    exact W.iret (v := y0_28) hx hb hr (fun t ht hW => ⟨⟨y0_28, (), rfl, (by rw [← ho9]), ⟨by rw [ht]; exact hP9, va_K.moved hW.alike hK, hD9⟩⟩, hS.F ht⟩) hS.2.2 dX11_slots_28
  rcases br9 hrun with ⟨hc2, hrun⟩ | ⟨hc2, hrun⟩
  · refine lv_if_eq (tgt := 27) hx hb dX11_slots_12 (by decide) (fun _ => ?_) (fun c => absurd hc2 c)
    refine lv_iconst (v := 0) hx hb dX11_slots_27 (by decide) ?_
    exact J28 0 _ _ _ hrun hP hD hK hS (lv_sub hl [] rfl)
  · refine lv_if_eq (tgt := 27) hx hb dX11_slots_12 (by decide) (fun c => absurd c hc2) (fun _ => ?_)
    refine lv_aload_n hx hb dX11_slots_15 rfl (lv_at hl 0 rfl) ?_
    refine va_get (D := (dC, dI)) (ci := 11) (v := .ref (p0a 6)) (C := RX11) (T := TX11) (N := 11) hx hb hts i_X11 hown hK hP 0 rfl rfl 5 (by decide) (hts _ qw976) (fun _ h9 => h9) rfl dX11_slots_16 ?_
    refine va_get (D := (dC, dI)) (ci := 8) (v := .ref (p0_5a 3)) (C := RX0) (T := TX0) (N := 17) hx hb hts i_X0 hown hK hP 12 rfl rfl 2 (by decide) (hts _ qw1037) (fun _ h9 => h9) rfl dX11_slots_19 ?_
    refine lv_iload_n hx hb dX11_slots_22 rfl (lv_at hl 1 rfl) ?_
    obtain ⟨hq3, hrun⟩ := chk9 hrun
    refine va_iald hx hb hK hP 13 10 rfl rfl (ixb_in hq3) dX11_slots_23 ?_
    refine lv_goto (tgt := 28) hx hb dX11_slots_24 (by decide) ?_
    exact J28 (p0_5w 3 (nn p1)) _ _ _ hrun hP hD hK hS (lv_sub hl [] rfl)
def fX11_word (p1 : Int32) (p0_6w : ST) : Option Int32 := ((fX11_needPlace p1 16).bind fun (o_1 : Unit) => (if ixb p1 16 = true then some (p0_6w 4 (nn p1)) else none))
set_option maxHeartbeats 16000000 in
set_option maxRecDepth 100000 in
theorem kX11_word {zs : Nat × Nat} (l : Launch) (dC : Nat → ClassId) (dI : Nat → Nat → Nat) (p0a : Nat → Nat) (p0w : ST) (p1 : Int32) (p0_6a : Nat → Nat) (p0_6k : Nat → ClassId) (p0_6n : Nat → Nat) (p0_6w : ST) (sz : Nat) (o : Int32) (hrun : fX11_word p1 p0_6w = some o) : Met l yX11_word (wz yX11_word cX11_word 2 (Option.some Jvm.ClassFile.FieldType.int)) ({ frames := 1, cells := 0, slots := 0, locals := 22 } : Room) (va_Pc [.ref (p0a 0), .int p1] (PRE zs dC dI ((oX11 (p0a 0) p0a p0w) ++ (oX3 (p0a 7) p0_6a p0_6k p0_6n p0_6w)) (tX3 p0_6k) sz)) (va_Qi (fun (r : Int32) (_ : Unit) => r = o) (fun _ t => POST dC dI ((oX11 (p0a 0) p0a p0w) ++ (oX3 (p0a 7) p0_6a p0_6k p0_6n p0_6w)) (tX3 p0_6k) (va_A ((oX11 (p0a 0) p0a p0w) ++ (oX3 (p0a 7) p0_6a p0_6k p0_6n p0_6w)) sz) t) (va_A ((oX11 (p0a 0) p0a p0w) ++ (oX3 (p0a 7) p0_6a p0_6k p0_6n p0_6w)) sz)) 0 0 (va_A ((oX11 (p0a 0) p0a p0w) ++ (oX3 (p0a 7) p0_6a p0_6k p0_6n p0_6w)) sz) := by
  refine Met.ofW (cc := cX11_word) (maxL := 2) (ret := (Option.some Jvm.ClassFile.FieldType.int)) (by decide) rfl ?_
  intro p e s m args below meth c s₁ B hml hv
  obtain ⟨rfl, hsz, hP, hK, hD0, hE⟩ := hv
  have hx := B.exec
  have hb := B.bytes
  have hr := B.returns
  have hts0 := atoms_spec (ws := wz yX11_word cX11_word 2 (Option.some Jvm.ClassFile.FieldType.int)) B.pre
  have hts : ∀ w ∈ gw, w.before _ s = true := fun w h => hts0 w (List.mem_cons_of_mem _ h)
  have hown : s.vm.findClass RX11 = some m.cls := findClass_of_methodNamed B.named
  have hlocks := B.notSynchronized
  subst hsz
  have hD := hD0.self (sz := s.heap.size)
  refine gQ9 ?_
  intro Q hQ
  generalize hAe : va_A ((oX11 (p0a 0) p0a p0w) ++ (oX3 (p0a 7) p0_6a p0_6k p0_6n p0_6w)) s.heap.size = A at hD hE hQ
  have hA : ∀ q : Nat, s.heap.size ≤ q → A q := fun q h => by rw [← hAe]; exact Or.inr h
  have hS : va_S A s.heap s.heap [] := va_S.rf
  have hP : va_P (dC, dI) cls ((oX11 (p0a 0) p0a p0w) ++ (oX3 (p0a 7) p0_6a p0_6k p0_6n p0_6w)) s.heap := hP
  have hl := lv_entry ([.ref (p0a 0), .int p1]) (n := 2) (Nat.le_of_ble_eq_true rfl)
  rw [lg_entry_eq]
  generalize (lg_sl ([.ref (p0a 0), .int p1]) ++ List.replicate (2 - (lg_sl ([.ref (p0a 0), .int p1])).length) Slot.unset).toArray = ls at hl ⊢
  have hl : lv_has ls 2 [(0, .ref (p0a 0)), (1, .int p1)] := hl
  obtain ⟨H, hHe⟩ : ∃ H, H = s.heap := ⟨_, rfl⟩
  obtain ⟨locs, hle⟩ : ∃ locs : List Loc, locs = [] := ⟨_, rfl⟩
  rw [← hHe] at hP
  have hS : va_S A s.heap H locs := by rw [hHe, hle]; exact hS
  show W p l e ({ frames := 1, cells := 0, slots := 0, locals := 22 } : Room) s m ([.ref (p0a 0), .int p1] : List Value).toArray below meth c s.heap [] 0 0 Q (F0 m 0 ls [])
  rw [← hle]
  refine wH9 hHe ?_
  unfold fX11_word at hrun
  refine lv_aload_n hx hb dX11_word_0 rfl (lv_at hl 0 rfl) ?_
  refine lv_iload_n hx hb dX11_word_1 rfl (lv_at hl 1 rfl) ?_
  refine lv_bipush (v := 16) hx hb dX11_word_2 (by decide) ?_
  obtain ⟨o_1, hc_1, hrun⟩ := bnd9 hrun
  have hPc := hP.sub (ws' := (oX11 (p0a 0) p0a p0w)) [0] rfl
  have hDc := hD.sub (ws' := (oX11 (p0a 0) p0a p0w)) [0] (by decide) rfl
  have hKc := hK.sub (tys' := ([] : List (ClassId × FieldType))) [] rfl
  have hFc := va_free (wc := (oX11 (p0a 0) p0a p0w)) hD hS hA [0] rfl
  refine va_callv (va_runV (As := [.int p1, .int 16]) (rest := []) ⟨hx, hb, hml, hown, hts⟩ (kX11_needPlace l dC dI (p0a := (st0 (p0a 0) p0a)) (p0w := p0w) (p1 := p1) (p2 := 16) (sz := _) (o := o_1) (hrun := hc_1)) (cwV 2 hts (gi_V qw1039 qw1040 qw1041 qw129 (gi_z qw1038)) rfl rfl rfl (by decide +kernel) ⟨Nat.le_of_ble_eq_true rfl, Nat.le_of_ble_eq_true rfl⟩) ⟨PRE.blind, va_recv hKc hPc (ci := 11) (q0 := 0) rfl rfl, PRE.of hE hS hFc hPc hKc hDc⟩ rfl rfl hl.1 rfl (lv_room (Nat.le_of_ble_eq_true rfl)) dX11_word_4 ⟨(Nat.le_of_ble_eq_true rfl), (Nat.le_of_ble_eq_true rfl)⟩) hS (fun q _ h => hFc q h) hFc (fun u t H locs ht hvm hw hB hz1 hk1 hS => ?_)
  obtain ⟨hP, hD, hK⟩ := JOIN (wr := (oX3 (p0a 7) p0_6a p0_6k p0_6n p0_6w)) hP hD hK [0] [1, 2, 3, 4, 5, 6, 7, 8, 9, 10, 11] [0, 1, 2, 3, 4, 5, 6, 7, 8, 9] rfl rfl (by decide) (by decide) rfl hk1 hFc ht hvm hB
  have hP : va_P (dC, dI) cls ((oX11 (p0a 0) p0a p0w) ++ (oX3 (p0a 7) p0_6a p0_6k p0_6n p0_6w)) H := hP.sub [11, 0, 1, 2, 3, 4, 5, 6, 7, 8, 9, 10] rfl
  have hD : va_D A ((oX11 (p0a 0) p0a p0w) ++ (oX3 (p0a 7) p0_6a p0_6k p0_6n p0_6w)) := hD.sub [11, 0, 1, 2, 3, 4, 5, 6, 7, 8, 9, 10] (by decide) rfl
  have hK : va_K (dC, dI) cls (tX3 p0_6k) s := hK.sub [0, 1, 2, 3, 4, 5, 6, 7, 8, 9] rfl
  refine lv_aload_n hx hb dX11_word_7 rfl (lv_at hl 0 rfl) ?_
  refine va_get (D := (dC, dI)) (ci := 11) (v := .ref (p0a 7)) (C := RX11) (T := TX11) (N := 11) hx hb hts i_X11 hown hK hP 0 rfl rfl 6 (by decide) (hts _ qw985) (fun _ h9 => h9) rfl dX11_word_8 ?_
  refine va_get (D := (dC, dI)) (ci := 10) (v := .ref (p0_6a 4)) (C := RX3) (T := TX3) (N := 20) hx hb hts i_X3 hown hK hP 1 rfl rfl 3 (by decide) (hts _ qw997) (fun _ h9 => h9) rfl dX11_word_11 ?_
  refine lv_iload_n hx hb dX11_word_14 rfl (lv_at hl 1 rfl) ?_
  obtain ⟨hq2, hrun⟩ := chk9 hrun
  refine va_iald hx hb hK hP 2 0 rfl rfl (ixb_in hq2) dX11_word_15 ?_
  have ho9 : (p0_6w 4 (nn p1)) = o := Option.some.inj hrun
  have hP9 : va_P (dC, dI) cls ((oX11 (p0a 0) p0a p0w) ++ (oX3 (p0a 7) p0_6a p0_6k p0_6n p0_6w)) H := by first | exact hP | (rw [← ho9]; exact hP)
  have hD9 : va_D A ((oX11 (p0a 0) p0a p0w) ++ (oX3 (p0a 7) p0_6a p0_6k p0_6n p0_6w)) := by first | exact hD | (rw [← ho9]; exact hD)
  subst hQ
  exact W.iret (v := (p0_6w 4 (nn p1))) hx hb hr (fun t ht hW => ⟨⟨(p0_6w 4 (nn p1)), (), rfl, (by rw [← ho9]), ⟨by rw [ht]; exact hP9, va_K.moved hW.alike hK, hD9⟩⟩, hS.F ht⟩) hS.2.2 dX11_word_16
