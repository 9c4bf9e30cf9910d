abbrev cX1_addBlock : ByteArray := prog_3_method_3_code
def yX1_addBlock : MethodName := ⟨RX1, "addBlock", "(IIII)I"⟩
abbrev cX1_addPhi : ByteArray := prog_3_method_13_code
def yX1_addPhi : MethodName := ⟨RX1, "addPhi", "(II)I"⟩
abbrev cX1_linkPhi : ByteArray := prog_3_method_14_code
def yX1_linkPhi : MethodName := ⟨RX1, "linkPhi", "(II)V"⟩
abbrev cX11_atLeast : ByteArray := prog_1_method_71_code
def yX11_atLeast : MethodName := ⟨RX11, "atLeast", "([II)[I"⟩
abbrev cX1_addStep : ByteArray := prog_3_method_8_code
def yX1_addStep : MethodName := ⟨RX1, "addStep", "(IIIII)I"⟩
abbrev cX1_link : ByteArray := prog_3_method_9_code
def yX1_link : MethodName := ⟨RX1, "link", "(II)V"⟩
abbrev cX1_clear : ByteArray := prog_3_method_2_code
def yX1_clear : MethodName := ⟨RX1, "clear", "()V"⟩
abbrev cX1_copyFrom : ByteArray := prog_3_method_4_code
def yX1_copyFrom : MethodName := ⟨RX1, "copyFrom", "(LGearbox$Flow;)V"⟩
abbrev cX1_countPhis : ByteArray := prog_3_method_16_code
def yX1_countPhis : MethodName := ⟨RX1, "countPhis", "(I)I"⟩
abbrev cX1_countSteps : ByteArray := prog_3_method_11_code
def yX1_countSteps : MethodName := ⟨RX1, "countSteps", "(I)I"⟩
abbrev cX1_countValues : ByteArray := prog_3_method_20_code
def yX1_countValues : MethodName := ⟨RX1, "countValues", "()I"⟩
abbrev cX1_leads : ByteArray := prog_3_method_7_code
def yX1_leads : MethodName := ⟨RX1, "leads", "(II)Z"⟩
theorem dX11_atLeast_0 : decode cX11_atLeast 0 = .ok (.aload_n 0, 1) := by decide +kernel
theorem dX11_atLeast_1 : decode cX11_atLeast 1 = .ok (.arraylength, 1) := by decide +kernel
theorem dX11_atLeast_2 : decode cX11_atLeast 2 = .ok (.iload_n 1, 1) := by decide +kernel
theorem dX11_atLeast_3 : decode cX11_atLeast 3 = .ok (.if_icmp .lt 7, 3) := by decide +kernel
theorem dX11_atLeast_6 : decode cX11_atLeast 6 = .ok (.aload_n 0, 1) := by decide +kernel
theorem dX11_atLeast_7 : decode cX11_atLeast 7 = .ok (.goto 12, 3) := by decide +kernel
theorem dX11_atLeast_10 : decode cX11_atLeast 10 = .ok (.aload_n 0, 1) := by decide +kernel
theorem dX11_atLeast_11 : decode cX11_atLeast 11 = .ok (.iload_n 1, 1) := by decide +kernel
theorem dX11_atLeast_12 : decode cX11_atLeast 12 = .ok (.iload_n 1, 1) := by decide +kernel
theorem dX11_atLeast_13 : decode cX11_atLeast 13 = .ok (.iconst 2, 1) := by decide +kernel
theorem dX11_atLeast_14 : decode cX11_atLeast 14 = .ok (.idiv, 1) := by decide +kernel
theorem dX11_atLeast_15 : decode cX11_atLeast 15 = .ok (.iadd, 1) := by decide +kernel
theorem dX11_atLeast_16 : decode cX11_atLeast 16 = .ok (.invokestatic 387, 3) := by decide +kernel
theorem dX11_atLeast_19 : decode cX11_atLeast 19 = .ok (.areturn, 1) := by decide +kernel
theorem dX1_addBlock_0 : decode cX1_addBlock 0 = .ok (.aload_n 0, 1) := by decide +kernel
theorem dX1_addBlock_1 : decode cX1_addBlock 1 = .ok (.getfield 73, 3) := by decide +kernel
theorem dX1_addBlock_4 : decode cX1_addBlock 4 = .ok (.istore 5, 2) := by decide +kernel
theorem dX1_addBlock_6 : decode cX1_addBlock 6 = .ok (.aload_n 0, 1) := by decide +kernel
theorem dX1_addBlock_7 : decode cX1_addBlock 7 = .ok (.getfield 20, 3) := by decide +kernel
theorem dX1_addBlock_10 : decode cX1_addBlock 10 = .ok (.iload 5, 2) := by decide +kernel
theorem dX1_addBlock_12 : decode cX1_addBlock 12 = .ok (.iconst (-1), 1) := by decide +kernel
theorem dX1_addBlock_13 : decode cX1_addBlock 13 = .ok (.iastore, 1) := by decide +kernel
theorem dX1_addBlock_14 : decode cX1_addBlock 14 = .ok (.aload_n 0, 1) := by decide +kernel
theorem dX1_addBlock_15 : decode cX1_addBlock 15 = .ok (.getfield 24, 3) := by decide +kernel
theorem dX1_addBlock_18 : decode cX1_addBlock 18 = .ok (.iload 5, 2) := by decide +kernel
theorem dX1_addBlock_20 : decode cX1_addBlock 20 = .ok (.iconst (-1), 1) := by decide +kernel
theorem dX1_addBlock_21 : decode cX1_addBlock 21 = .ok (.iastore, 1) := by decide +kernel
theorem dX1_addBlock_22 : decode cX1_addBlock 22 = .ok (.aload_n 0, 1) := by decide +kernel
theorem dX1_addBlock_23 : decode cX1_addBlock 23 = .ok (.getfield 27, 3) := by decide +kernel
theorem dX1_addBlock_26 : decode cX1_addBlock 26 = .ok (.iload 5, 2) := by decide +kernel
theorem dX1_addBlock_28 : decode cX1_addBlock 28 = .ok (.iconst (-1), 1) := by decide +kernel
theorem dX1_addBlock_29 : decode cX1_addBlock 29 = .ok (.iastore, 1) := by decide +kernel
theorem dX1_addBlock_30 : decode cX1_addBlock 30 = .ok (.aload_n 0, 1) := by decide +kernel
theorem dX1_addBlock_31 : decode cX1_addBlock 31 = .ok (.getfield 30, 3) := by decide +kernel
theorem dX1_addBlock_34 : decode cX1_addBlock 34 = .ok (.iload 5, 2) := by decide +kernel
theorem dX1_addBlock_36 : decode cX1_addBlock 36 = .ok (.iconst (-1), 1) := by decide +kernel
theorem dX1_addBlock_37 : decode cX1_addBlock 37 = .ok (.iastore, 1) := by decide +kernel
theorem dX1_addBlock_38 : decode cX1_addBlock 38 = .ok (.aload_n 0, 1) := by decide +kernel
theorem dX1_addBlock_39 : decode cX1_addBlock 39 = .ok (.getfield 33, 3) := by decide +kernel
theorem dX1_addBlock_42 : decode cX1_addBlock 42 = .ok (.iload 5, 2) := by decide +kernel
theorem dX1_addBlock_44 : decode cX1_addBlock 44 = .ok (.iload_n 1, 1) := by decide +kernel
theorem dX1_addBlock_45 : decode cX1_addBlock 45 = .ok (.iastore, 1) := by decide +kernel
theorem dX1_addBlock_46 : decode cX1_addBlock 46 = .ok (.aload_n 0, 1) := by decide +kernel
theorem dX1_addBlock_47 : decode cX1_addBlock 47 = .ok (.getfield 36, 3) := by decide +kernel
theorem dX1_addBlock_50 : decode cX1_addBlock 50 = .ok (.iload 5, 2) := by decide +kernel
theorem dX1_addBlock_52 : decode cX1_addBlock 52 = .ok (.iload_n 2, 1) := by decide +kernel
theorem dX1_addBlock_53 : decode cX1_addBlock 53 = .ok (.iastore, 1) := by decide +kernel
theorem dX1_addBlock_54 : decode cX1_addBlock 54 = .ok (.aload_n 0, 1) := by decide +kernel
theorem dX1_addBlock_55 : decode cX1_addBlock 55 = .ok (.getfield 39, 3) := by decide +kernel
theorem dX1_addBlock_58 : decode cX1_addBlock 58 = .ok (.iload 5, 2) := by decide +kernel
theorem dX1_addBlock_60 : decode cX1_addBlock 60 = .ok (.iload_n 3, 1) := by decide +kernel
theorem dX1_addBlock_61 : decode cX1_addBlock 61 = .ok (.iastore, 1) := by decide +kernel
theorem dX1_addBlock_62 : decode cX1_addBlock 62 = .ok (.aload_n 0, 1) := by decide +kernel
theorem dX1_addBlock_63 : decode cX1_addBlock 63 = .ok (.getfield 42, 3) := by decide +kernel
theorem dX1_addBlock_66 : decode cX1_addBlock 66 = .ok (.iload 5, 2) := by decide +kernel
theorem dX1_addBlock_68 : decode cX1_addBlock 68 = .ok (.iload 4, 2) := by decide +kernel
theorem dX1_addBlock_70 : decode cX1_addBlock 70 = .ok (.iastore, 1) := by decide +kernel
theorem dX1_addBlock_71 : decode cX1_addBlock 71 = .ok (.aload_n 0, 1) := by decide +kernel
theorem dX1_addBlock_72 : decode cX1_addBlock 72 = .ok (.dup, 1) := by decide +kernel
theorem dX1_addBlock_73 : decode cX1_addBlock 73 = .ok (.getfield 73, 3) := by decide +kernel
theorem dX1_addBlock_76 : decode cX1_addBlock 76 = .ok (.iconst 1, 1) := by decide +kernel
theorem dX1_addBlock_77 : decode cX1_addBlock 77 = .ok (.iadd, 1) := by decide +kernel
theorem dX1_addBlock_78 : decode cX1_addBlock 78 = .ok (.putfield 73, 3) := by decide +kernel
theorem dX1_addBlock_81 : decode cX1_addBlock 81 = .ok (.iload 5, 2) := by decide +kernel
theorem dX1_addBlock_83 : decode cX1_addBlock 83 = .ok (.ireturn, 1) := by decide +kernel
theorem dX1_addPhi_0 : decode cX1_addPhi 0 = .ok (.aload_n 0, 1) := by decide +kernel
theorem dX1_addPhi_1 : decode cX1_addPhi 1 = .ok (.getfield 83, 3) := by decide +kernel
theorem dX1_addPhi_4 : decode cX1_addPhi 4 = .ok (.aload_n 0, 1) := by decide +kernel
theorem dX1_addPhi_5 : decode cX1_addPhi 5 = .ok (.getfield 64, 3) := by decide +kernel
theorem dX1_addPhi_8 : decode cX1_addPhi 8 = .ok (.arraylength, 1) := by decide +kernel
theorem dX1_addPhi_9 : decode cX1_addPhi 9 = .ok (.if_icmp .lt 57, 3) := by decide +kernel
theorem dX1_addPhi_12 : decode cX1_addPhi 12 = .ok (.aload_n 0, 1) := by decide +kernel
theorem dX1_addPhi_13 : decode cX1_addPhi 13 = .ok (.aload_n 0, 1) := by decide +kernel
theorem dX1_addPhi_14 : decode cX1_addPhi 14 = .ok (.getfield 64, 3) := by decide +kernel
theorem dX1_addPhi_17 : decode cX1_addPhi 17 = .ok (.aload_n 0, 1) := by decide +kernel
theorem dX1_addPhi_18 : decode cX1_addPhi 18 = .ok (.getfield 83, 3) := by decide +kernel
theorem dX1_addPhi_21 : decode cX1_addPhi 21 = .ok (.iconst 1, 1) := by decide +kernel
theorem dX1_addPhi_22 : decode cX1_addPhi 22 = .ok (.iadd, 1) := by decide +kernel
theorem dX1_addPhi_23 : decode cX1_addPhi 23 = .ok (.invokestatic 129, 3) := by decide +kernel
theorem dX1_addPhi_26 : decode cX1_addPhi 26 = .ok (.putfield 64, 3) := by decide +kernel
theorem dX1_addPhi_29 : decode cX1_addPhi 29 = .ok (.aload_n 0, 1) := by decide +kernel
theorem dX1_addPhi_30 : decode cX1_addPhi 30 = .ok (.aload_n 0, 1) := by decide +kernel
theorem dX1_addPhi_31 : decode cX1_addPhi 31 = .ok (.getfield 67, 3) := by decide +kernel
theorem dX1_addPhi_34 : decode cX1_addPhi 34 = .ok (.aload_n 0, 1) := by decide +kernel
theorem dX1_addPhi_35 : decode cX1_addPhi 35 = .ok (.getfield 83, 3) := by decide +kernel
theorem dX1_addPhi_38 : decode cX1_addPhi 38 = .ok (.iconst 1, 1) := by decide +kernel
theorem dX1_addPhi_39 : decode cX1_addPhi 39 = .ok (.iadd, 1) := by decide +kernel
theorem dX1_addPhi_40 : decode cX1_addPhi 40 = .ok (.invokestatic 129, 3) := by decide +kernel
theorem dX1_addPhi_43 : decode cX1_addPhi 43 = .ok (.putfield 67, 3) := by decide +kernel
theorem dX1_addPhi_46 : decode cX1_addPhi 46 = .ok (.aload_n 0, 1) := by decide +kernel
theorem dX1_addPhi_47 : decode cX1_addPhi 47 = .ok (.aload_n 0, 1) := by decide +kernel
theorem dX1_addPhi_48 : decode cX1_addPhi 48 = .ok (.getfield 70, 3) := by decide +kernel
theorem dX1_addPhi_51 : decode cX1_addPhi 51 = .ok (.aload_n 0, 1) := by decide +kernel
theorem dX1_addPhi_52 : decode cX1_addPhi 52 = .ok (.getfield 83, 3) := by decide +kernel
theorem dX1_addPhi_55 : decode cX1_addPhi 55 = .ok (.iconst 1, 1) := by decide +kernel
theorem dX1_addPhi_56 : decode cX1_addPhi 56 = .ok (.iadd, 1) := by decide +kernel
theorem dX1_addPhi_57 : decode cX1_addPhi 57 = .ok (.bipush 60, 2) := by decide +kernel
theorem dX1_addPhi_59 : decode cX1_addPhi 59 = .ok (.imul, 1) := by decide +kernel
theorem dX1_addPhi_60 : decode cX1_addPhi 60 = .ok (.invokestatic 129, 3) := by decide +kernel
theorem dX1_addPhi_63 : decode cX1_addPhi 63 = .ok (.putfield 70, 3) := by decide +kernel
theorem dX1_addPhi_66 : decode cX1_addPhi 66 = .ok (.aload_n 0, 1) := by decide +kernel
theorem dX1_addPhi_67 : decode cX1_addPhi 67 = .ok (.getfield 83, 3) := by decide +kernel
theorem dX1_addPhi_70 : decode cX1_addPhi 70 = .ok (.istore_n 3, 1) := by decide +kernel
theorem dX1_addPhi_71 : decode cX1_addPhi 71 = .ok (.aload_n 0, 1) := by decide +kernel
theorem dX1_addPhi_72 : decode cX1_addPhi 72 = .ok (.getfield 64, 3) := by decide +kernel
theorem dX1_addPhi_75 : decode cX1_addPhi 75 = .ok (.iload_n 3, 1) := by decide +kernel
theorem dX1_addPhi_76 : decode cX1_addPhi 76 = .ok (.iload_n 2, 1) := by decide +kernel
theorem dX1_addPhi_77 : decode cX1_addPhi 77 = .ok (.iastore, 1) := by decide +kernel
theorem dX1_addPhi_78 : decode cX1_addPhi 78 = .ok (.aload_n 0, 1) := by decide +kernel
theorem dX1_addPhi_79 : decode cX1_addPhi 79 = .ok (.iload_n 1, 1) := by decide +kernel
theorem dX1_addPhi_80 : decode cX1_addPhi 80 = .ok (.iload_n 3, 1) := by decide +kernel
theorem dX1_addPhi_81 : decode cX1_addPhi 81 = .ok (.invokevirtual 133, 3) := by decide +kernel
theorem dX1_addPhi_84 : decode cX1_addPhi 84 = .ok (.aload_n 0, 1) := by decide +kernel
theorem dX1_addPhi_85 : decode cX1_addPhi 85 = .ok (.dup, 1) := by decide +kernel
theorem dX1_addPhi_86 : decode cX1_addPhi 86 = .ok (.getfield 83, 3) := by decide +kernel
theorem dX1_addPhi_89 : decode cX1_addPhi 89 = .ok (.iconst 1, 1) := by decide +kernel
theorem dX1_addPhi_90 : decode cX1_addPhi 90 = .ok (.iadd, 1) := by decide +kernel
theorem dX1_addPhi_91 : decode cX1_addPhi 91 = .ok (.putfield 83, 3) := by decide +kernel
theorem dX1_addPhi_94 : decode cX1_addPhi 94 = .ok (.iload_n 3, 1) := by decide +kernel
theorem dX1_addPhi_95 : decode cX1_addPhi 95 = .ok (.ireturn, 1) := by decide +kernel
theorem dX1_addStep_0 : decode cX1_addStep 0 = .ok (.aload_n 0, 1) := by decide +kernel
theorem dX1_addStep_1 : decode cX1_addStep 1 = .ok (.getfield 16, 3) := by decide +kernel
theorem dX1_addStep_4 : decode cX1_addStep 4 = .ok (.iload_n 2, 1) := by decide +kernel
theorem dX1_addStep_5 : decode cX1_addStep 5 = .ok (.iload_n 3, 1) := by decide +kernel
theorem dX1_addStep_6 : decode cX1_addStep 6 = .ok (.iload 4, 2) := by decide +kernel
theorem dX1_addStep_8 : decode cX1_addStep 8 = .ok (.iload 5, 2) := by decide +kernel
theorem dX1_addStep_10 : decode cX1_addStep 10 = .ok (.invokevirtual 122, 3) := by decide +kernel
theorem dX1_addStep_13 : decode cX1_addStep 13 = .ok (.istore 6, 2) := by decide +kernel
theorem dX1_addStep_15 : decode cX1_addStep 15 = .ok (.aload_n 0, 1) := by decide +kernel
theorem dX1_addStep_16 : decode cX1_addStep 16 = .ok (.iload_n 1, 1) := by decide +kernel
theorem dX1_addStep_17 : decode cX1_addStep 17 = .ok (.iload 6, 2) := by decide +kernel
theorem dX1_addStep_19 : decode cX1_addStep 19 = .ok (.invokevirtual 125, 3) := by decide +kernel
theorem dX1_addStep_22 : decode cX1_addStep 22 = .ok (.iload 6, 2) := by decide +kernel
theorem dX1_addStep_24 : decode cX1_addStep 24 = .ok (.ireturn, 1) := by decide +kernel
theorem dX1_clear_0 : decode cX1_clear 0 = .ok (.aload_n 0, 1) := by decide +kernel
theorem dX1_clear_1 : decode cX1_clear 1 = .ok (.iconst 0, 1) := by decide +kernel
theorem dX1_clear_2 : decode cX1_clear 2 = .ok (.putfield 73, 3) := by decide +kernel
theorem dX1_clear_5 : decode cX1_clear 5 = .ok (.aload_n 0, 1) := by decide +kernel
theorem dX1_clear_6 : decode cX1_clear 6 = .ok (.iconst 0, 1) := by decide +kernel
theorem dX1_clear_7 : decode cX1_clear 7 = .ok (.putfield 77, 3) := by decide +kernel
theorem dX1_clear_10 : decode cX1_clear 10 = .ok (.aload_n 0, 1) := by decide +kernel
theorem dX1_clear_11 : decode cX1_clear 11 = .ok (.getfield 16, 3) := by decide +kernel
theorem dX1_clear_14 : decode cX1_clear 14 = .ok (.iconst 0, 1) := by decide +kernel
theorem dX1_clear_15 : decode cX1_clear 15 = .ok (.putfield 80, 3) := by decide +kernel
theorem dX1_clear_18 : decode cX1_clear 18 = .ok (.aload_n 0, 1) := by decide +kernel
theorem dX1_clear_19 : decode cX1_clear 19 = .ok (.iconst 0, 1) := by decide +kernel
theorem dX1_clear_20 : decode cX1_clear 20 = .ok (.putfield 83, 3) := by decide +kernel
theorem dX1_clear_23 : decode cX1_clear 23 = .ok (.return_, 1) := by decide +kernel
theorem dX1_copyFrom_0 : decode cX1_copyFrom 0 = .ok (.aload_n 0, 1) := by decide +kernel
theorem dX1_copyFrom_1 : decode cX1_copyFrom 1 = .ok (.invokevirtual 86, 3) := by decide +kernel
theorem dX1_copyFrom_4 : decode cX1_copyFrom 4 = .ok (.aload_n 0, 1) := by decide +kernel
theorem dX1_copyFrom_5 : decode cX1_copyFrom 5 = .ok (.aload_n 1, 1) := by decide +kernel
theorem dX1_copyFrom_6 : decode cX1_copyFrom 6 = .ok (.getfield 77, 3) := by decide +kernel
theorem dX1_copyFrom_9 : decode cX1_copyFrom 9 = .ok (.putfield 77, 3) := by decide +kernel
theorem dX1_copyFrom_12 : decode cX1_copyFrom 12 = .ok (.iconst 0, 1) := by decide +kernel
theorem dX1_copyFrom_13 : decode cX1_copyFrom 13 = .ok (.istore_n 2, 1) := by decide +kernel
theorem dX1_copyFrom_14 : decode cX1_copyFrom 14 = .ok (.iload_n 2, 1) := by decide +kernel
theorem dX1_copyFrom_15 : decode cX1_copyFrom 15 = .ok (.aload_n 1, 1) := by decide +kernel
theorem dX1_copyFrom_16 : decode cX1_copyFrom 16 = .ok (.getfield 73, 3) := by decide +kernel
theorem dX1_copyFrom_19 : decode cX1_copyFrom 19 = .ok (.if_icmp .ge 172, 3) := by decide +kernel
theorem dX1_copyFrom_22 : decode cX1_copyFrom 22 = .ok (.aload_n 0, 1) := by decide +kernel
theorem dX1_copyFrom_23 : decode cX1_copyFrom 23 = .ok (.aload_n 1, 1) := by decide +kernel
theorem dX1_copyFrom_24 : decode cX1_copyFrom 24 = .ok (.getfield 33, 3) := by decide +kernel
theorem dX1_copyFrom_27 : decode cX1_copyFrom 27 = .ok (.iload_n 2, 1) := by decide +kernel
theorem dX1_copyFrom_28 : decode cX1_copyFrom 28 = .ok (.iaload, 1) := by decide +kernel
theorem dX1_copyFrom_29 : decode cX1_copyFrom 29 = .ok (.aload_n 1, 1) := by decide +kernel
theorem dX1_copyFrom_30 : decode cX1_copyFrom 30 = .ok (.getfield 36, 3) := by decide +kernel
theorem dX1_copyFrom_33 : decode cX1_copyFrom 33 = .ok (.iload_n 2, 1) := by decide +kernel
theorem dX1_copyFrom_34 : decode cX1_copyFrom 34 = .ok (.iaload, 1) := by decide +kernel
theorem dX1_copyFrom_35 : decode cX1_copyFrom 35 = .ok (.aload_n 1, 1) := by decide +kernel
theorem dX1_copyFrom_36 : decode cX1_copyFrom 36 = .ok (.getfield 39, 3) := by decide +kernel
theorem dX1_copyFrom_39 : decode cX1_copyFrom 39 = .ok (.iload_n 2, 1) := by decide +kernel
theorem dX1_copyFrom_40 : decode cX1_copyFrom 40 = .ok (.iaload, 1) := by decide +kernel
theorem dX1_copyFrom_41 : decode cX1_copyFrom 41 = .ok (.aload_n 1, 1) := by decide +kernel
theorem dX1_copyFrom_42 : decode cX1_copyFrom 42 = .ok (.getfield 42, 3) := by decide +kernel
theorem dX1_copyFrom_45 : decode cX1_copyFrom 45 = .ok (.iload_n 2, 1) := by decide +kernel
theorem dX1_copyFrom_46 : decode cX1_copyFrom 46 = .ok (.iaload, 1) := by decide +kernel
theorem dX1_copyFrom_47 : decode cX1_copyFrom 47 = .ok (.invokevirtual 89, 3) := by decide +kernel
theorem dX1_copyFrom_50 : decode cX1_copyFrom 50 = .ok (.pop, 1) := by decide +kernel
theorem dX1_copyFrom_51 : decode cX1_copyFrom 51 = .ok (.aload_n 0, 1) := by decide +kernel
theorem dX1_copyFrom_52 : decode cX1_copyFrom 52 = .ok (.getfield 48, 3) := by decide +kernel
theorem dX1_copyFrom_55 : decode cX1_copyFrom 55 = .ok (.iload_n 2, 1) := by decide +kernel
theorem dX1_copyFrom_56 : decode cX1_copyFrom 56 = .ok (.aload_n 1, 1) := by decide +kernel
theorem dX1_copyFrom_57 : decode cX1_copyFrom 57 = .ok (.getfield 48, 3) := by decide +kernel
theorem dX1_copyFrom_60 : decode cX1_copyFrom 60 = .ok (.iload_n 2, 1) := by decide +kernel
theorem dX1_copyFrom_61 : decode cX1_copyFrom 61 = .ok (.iaload, 1) := by decide +kernel
theorem dX1_copyFrom_62 : decode cX1_copyFrom 62 = .ok (.iastore, 1) := by decide +kernel
theorem dX1_copyFrom_63 : decode cX1_copyFrom 63 = .ok (.aload_n 1, 1) := by decide +kernel
theorem dX1_copyFrom_64 : decode cX1_copyFrom 64 = .ok (.getfield 27, 3) := by decide +kernel
theorem dX1_copyFrom_67 : decode cX1_copyFrom 67 = .ok (.iload_n 2, 1) := by decide +kernel
theorem dX1_copyFrom_68 : decode cX1_copyFrom 68 = .ok (.iaload, 1) := by decide +kernel
theorem dX1_copyFrom_69 : decode cX1_copyFrom 69 = .ok (.istore_n 3, 1) := by decide +kernel
theorem dX1_copyFrom_70 : decode cX1_copyFrom 70 = .ok (.iload_n 3, 1) := by decide +kernel
theorem dX1_copyFrom_71 : decode cX1_copyFrom 71 = .ok (.ifCond .lt 48, 3) := by decide +kernel
theorem dX1_copyFrom_74 : decode cX1_copyFrom 74 = .ok (.aload_n 0, 1) := by decide +kernel
theorem dX1_copyFrom_75 : decode cX1_copyFrom 75 = .ok (.iload_n 2, 1) := by decide +kernel
theorem dX1_copyFrom_76 : decode cX1_copyFrom 76 = .ok (.aload_n 1, 1) := by decide +kernel
theorem dX1_copyFrom_77 : decode cX1_copyFrom 77 = .ok (.getfield 64, 3) := by decide +kernel
theorem dX1_copyFrom_80 : decode cX1_copyFrom 80 = .ok (.iload_n 3, 1) := by decide +kernel
theorem dX1_copyFrom_81 : decode cX1_copyFrom 81 = .ok (.iaload, 1) := by decide +kernel
theorem dX1_copyFrom_82 : decode cX1_copyFrom 82 = .ok (.invokevirtual 93, 3) := by decide +kernel
theorem dX1_copyFrom_85 : decode cX1_copyFrom 85 = .ok (.istore 4, 2) := by decide +kernel
theorem dX1_copyFrom_87 : decode cX1_copyFrom 87 = .ok (.aload_n 1, 1) := by decide +kernel
theorem dX1_copyFrom_88 : decode cX1_copyFrom 88 = .ok (.getfield 70, 3) := by decide +kernel
theorem dX1_copyFrom_91 : decode cX1_copyFrom 91 = .ok (.iload_n 3, 1) := by decide +kernel
theorem dX1_copyFrom_92 : decode cX1_copyFrom 92 = .ok (.bipush 60, 2) := by decide +kernel
theorem dX1_copyFrom_94 : decode cX1_copyFrom 94 = .ok (.imul, 1) := by decide +kernel
theorem dX1_copyFrom_95 : decode cX1_copyFrom 95 = .ok (.aload_n 0, 1) := by decide +kernel
theorem dX1_copyFrom_96 : decode cX1_copyFrom 96 = .ok (.getfield 70, 3) := by decide +kernel
theorem dX1_copyFrom_99 : decode cX1_copyFrom 99 = .ok (.iload 4, 2) := by decide +kernel
theorem dX1_copyFrom_101 : decode cX1_copyFrom 101 = .ok (.bipush 60, 2) := by decide +kernel
theorem dX1_copyFrom_103 : decode cX1_copyFrom 103 = .ok (.imul, 1) := by decide +kernel
theorem dX1_copyFrom_104 : decode cX1_copyFrom 104 = .ok (.bipush 60, 2) := by decide +kernel
theorem dX1_copyFrom_106 : decode cX1_copyFrom 106 = .ok (.invokestatic 97, 3) := by decide +kernel
theorem dX1_copyFrom_109 : decode cX1_copyFrom 109 = .ok (.aload_n 1, 1) := by decide +kernel
theorem dX1_copyFrom_110 : decode cX1_copyFrom 110 = .ok (.getfield 67, 3) := by decide +kernel
theorem dX1_copyFrom_113 : decode cX1_copyFrom 113 = .ok (.iload_n 3, 1) := by decide +kernel
theorem dX1_copyFrom_114 : decode cX1_copyFrom 114 = .ok (.iaload, 1) := by decide +kernel
theorem dX1_copyFrom_115 : decode cX1_copyFrom 115 = .ok (.istore_n 3, 1) := by decide +kernel
theorem dX1_copyFrom_116 : decode cX1_copyFrom 116 = .ok (.goto (-46), 3) := by decide +kernel
theorem dX1_copyFrom_119 : decode cX1_copyFrom 119 = .ok (.aload_n 1, 1) := by decide +kernel
theorem dX1_copyFrom_120 : decode cX1_copyFrom 120 = .ok (.getfield 20, 3) := by decide +kernel
theorem dX1_copyFrom_123 : decode cX1_copyFrom 123 = .ok (.iload_n 2, 1) := by decide +kernel
theorem dX1_copyFrom_124 : decode cX1_copyFrom 124 = .ok (.iaload, 1) := by decide +kernel
theorem dX1_copyFrom_125 : decode cX1_copyFrom 125 = .ok (.istore_n 3, 1) := by decide +kernel
theorem dX1_copyFrom_126 : decode cX1_copyFrom 126 = .ok (.iload_n 3, 1) := by decide +kernel
theorem dX1_copyFrom_127 : decode cX1_copyFrom 127 = .ok (.ifCond .lt 58, 3) := by decide +kernel
theorem dX1_copyFrom_130 : decode cX1_copyFrom 130 = .ok (.aload_n 0, 1) := by decide +kernel
theorem dX1_copyFrom_131 : decode cX1_copyFrom 131 = .ok (.iload_n 2, 1) := by decide +kernel
theorem dX1_copyFrom_132 : decode cX1_copyFrom 132 = .ok (.aload_n 1, 1) := by decide +kernel
theorem dX1_copyFrom_133 : decode cX1_copyFrom 133 = .ok (.getfield 16, 3) := by decide +kernel
theorem dX1_copyFrom_136 : decode cX1_copyFrom 136 = .ok (.getfield 103, 3) := by decide +kernel
theorem dX1_copyFrom_139 : decode cX1_copyFrom 139 = .ok (.iload_n 3, 1) := by decide +kernel
theorem dX1_copyFrom_140 : decode cX1_copyFrom 140 = .ok (.iaload, 1) := by decide +kernel
theorem dX1_copyFrom_141 : decode cX1_copyFrom 141 = .ok (.aload_n 1, 1) := by decide +kernel
theorem dX1_copyFrom_142 : decode cX1_copyFrom 142 = .ok (.getfield 16, 3) := by decide +kernel
theorem dX1_copyFrom_145 : decode cX1_copyFrom 145 = .ok (.getfield 106, 3) := by decide +kernel
theorem dX1_copyFrom_148 : decode cX1_copyFrom 148 = .ok (.iload_n 3, 1) := by decide +kernel
theorem dX1_copyFrom_149 : decode cX1_copyFrom 149 = .ok (.iaload, 1) := by decide +kernel
theorem dX1_copyFrom_150 : decode cX1_copyFrom 150 = .ok (.aload_n 1, 1) := by decide +kernel
theorem dX1_copyFrom_151 : decode cX1_copyFrom 151 = .ok (.getfield 16, 3) := by decide +kernel
theorem dX1_copyFrom_154 : decode cX1_copyFrom 154 = .ok (.getfield 109, 3) := by decide +kernel
theorem dX1_copyFrom_157 : decode cX1_copyFrom 157 = .ok (.iload_n 3, 1) := by decide +kernel
theorem dX1_copyFrom_158 : decode cX1_copyFrom 158 = .ok (.iaload, 1) := by decide +kernel
theorem dX1_copyFrom_159 : decode cX1_copyFrom 159 = .ok (.aload_n 1, 1) := by decide +kernel
theorem dX1_copyFrom_160 : decode cX1_copyFrom 160 = .ok (.getfield 16, 3) := by decide +kernel
theorem dX1_copyFrom_163 : decode cX1_copyFrom 163 = .ok (.getfield 112, 3) := by decide +kernel
theorem dX1_copyFrom_166 : decode cX1_copyFrom 166 = .ok (.iload_n 3, 1) := by decide +kernel
theorem dX1_copyFrom_167 : decode cX1_copyFrom 167 = .ok (.iaload, 1) := by decide +kernel
theorem dX1_copyFrom_168 : decode cX1_copyFrom 168 = .ok (.invokevirtual 115, 3) := by decide +kernel
theorem dX1_copyFrom_171 : decode cX1_copyFrom 171 = .ok (.pop, 1) := by decide +kernel
theorem dX1_copyFrom_172 : decode cX1_copyFrom 172 = .ok (.aload_n 1, 1) := by decide +kernel
theorem dX1_copyFrom_173 : decode cX1_copyFrom 173 = .ok (.getfield 16, 3) := by decide +kernel
theorem dX1_copyFrom_176 : decode cX1_copyFrom 176 = .ok (.getfield 119, 3) := by decide +kernel
theorem dX1_copyFrom_179 : decode cX1_copyFrom 179 = .ok (.iload_n 3, 1) := by decide +kernel
theorem dX1_copyFrom_180 : decode cX1_copyFrom 180 = .ok (.iaload, 1) := by decide +kernel
theorem dX1_copyFrom_181 : decode cX1_copyFrom 181 = .ok (.istore_n 3, 1) := by decide +kernel
theorem dX1_copyFrom_182 : decode cX1_copyFrom 182 = .ok (.goto (-56), 3) := by decide +kernel
theorem dX1_copyFrom_185 : decode cX1_copyFrom 185 = .ok (.iinc 2 1, 3) := by decide +kernel
theorem dX1_copyFrom_188 : decode cX1_copyFrom 188 = .ok (.goto (-174), 3) := by decide +kernel
theorem dX1_copyFrom_191 : decode cX1_copyFrom 191 = .ok (.aload_n 1, 1) := by decide +kernel
theorem dX1_copyFrom_192 : decode cX1_copyFrom 192 = .ok (.getfield 51, 3) := by decide +kernel
theorem dX1_copyFrom_195 : decode cX1_copyFrom 195 = .ok (.iconst 0, 1) := by decide +kernel
theorem dX1_copyFrom_196 : decode cX1_copyFrom 196 = .ok (.aload_n 0, 1) := by decide +kernel
theorem dX1_copyFrom_197 : decode cX1_copyFrom 197 = .ok (.getfield 51, 3) := by decide +kernel
theorem dX1_copyFrom_200 : decode cX1_copyFrom 200 = .ok (.iconst 0, 1) := by decide +kernel
theorem dX1_copyFrom_201 : decode cX1_copyFrom 201 = .ok (.aload_n 0, 1) := by decide +kernel
theorem dX1_copyFrom_202 : decode cX1_copyFrom 202 = .ok (.getfield 73, 3) := by decide +kernel
theorem dX1_copyFrom_205 : decode cX1_copyFrom 205 = .ok (.iconst 1, 1) := by decide +kernel
theorem dX1_copyFrom_206 : decode cX1_copyFrom 206 = .ok (.iadd, 1) := by decide +kernel
theorem dX1_copyFrom_207 : decode cX1_copyFrom 207 = .ok (.invokestatic 97, 3) := by decide +kernel
theorem dX1_copyFrom_210 : decode cX1_copyFrom 210 = .ok (.aload_n 1, 1) := by decide +kernel
theorem dX1_copyFrom_211 : decode cX1_copyFrom 211 = .ok (.getfield 54, 3) := by decide +kernel
theorem dX1_copyFrom_214 : decode cX1_copyFrom 214 = .ok (.iconst 0, 1) := by decide +kernel
theorem dX1_copyFrom_215 : decode cX1_copyFrom 215 = .ok (.aload_n 0, 1) := by decide +kernel
theorem dX1_copyFrom_216 : decode cX1_copyFrom 216 = .ok (.getfield 54, 3) := by decide +kernel
theorem dX1_copyFrom_219 : decode cX1_copyFrom 219 = .ok (.iconst 0, 1) := by decide +kernel
theorem dX1_copyFrom_220 : decode cX1_copyFrom 220 = .ok (.aload_n 0, 1) := by decide +kernel
theorem dX1_copyFrom_221 : decode cX1_copyFrom 221 = .ok (.getfield 51, 3) := by decide +kernel
theorem dX1_copyFrom_224 : decode cX1_copyFrom 224 = .ok (.aload_n 0, 1) := by decide +kernel
theorem dX1_copyFrom_225 : decode cX1_copyFrom 225 = .ok (.getfield 73, 3) := by decide +kernel
theorem dX1_copyFrom_228 : decode cX1_copyFrom 228 = .ok (.iaload, 1) := by decide +kernel
theorem dX1_copyFrom_229 : decode cX1_copyFrom 229 = .ok (.invokestatic 97, 3) := by decide +kernel
theorem dX1_copyFrom_232 : decode cX1_copyFrom 232 = .ok (.return_, 1) := by decide +kernel
theorem dX1_countPhis_0 : decode cX1_countPhis 0 = .ok (.iconst 0, 1) := by decide +kernel
theorem dX1_countPhis_1 : decode cX1_countPhis 1 = .ok (.istore_n 2, 1) := by decide +kernel
theorem dX1_countPhis_2 : decode cX1_countPhis 2 = .ok (.aload_n 0, 1) := by decide +kernel
theorem dX1_countPhis_3 : decode cX1_countPhis 3 = .ok (.getfield 27, 3) := by decide +kernel
theorem dX1_countPhis_6 : decode cX1_countPhis 6 = .ok (.iload_n 1, 1) := by decide +kernel
theorem dX1_countPhis_7 : decode cX1_countPhis 7 = .ok (.iaload, 1) := by decide +kernel
theorem dX1_countPhis_8 : decode cX1_countPhis 8 = .ok (.istore_n 3, 1) := by decide +kernel
theorem dX1_countPhis_9 : decode cX1_countPhis 9 = .ok (.iload_n 3, 1) := by decide +kernel
theorem dX1_countPhis_10 : decode cX1_countPhis 10 = .ok (.ifCond .lt 16, 3) := by decide +kernel
theorem dX1_countPhis_13 : decode cX1_countPhis 13 = .ok (.iinc 2 1, 3) := by decide +kernel
theorem dX1_countPhis_16 : decode cX1_countPhis 16 = .ok (.aload_n 0, 1) := by decide +kernel
theorem dX1_countPhis_17 : decode cX1_countPhis 17 = .ok (.getfield 67, 3) := by decide +kernel
theorem dX1_countPhis_20 : decode cX1_countPhis 20 = .ok (.iload_n 3, 1) := by decide +kernel
theorem dX1_countPhis_21 : decode cX1_countPhis 21 = .ok (.iaload, 1) := by decide +kernel
theorem dX1_countPhis_22 : decode cX1_countPhis 22 = .ok (.istore_n 3, 1) := by decide +kernel
theorem dX1_countPhis_23 : decode cX1_countPhis 23 = .ok (.goto (-14), 3) := by decide +kernel
theorem dX1_countPhis_26 : decode cX1_countPhis 26 = .ok (.iload_n 2, 1) := by decide +kernel
theorem dX1_countPhis_27 : decode cX1_countPhis 27 = .ok (.ireturn, 1) := by decide +kernel
theorem dX1_countSteps_0 : decode cX1_countSteps 0 = .ok (.iconst 0, 1) := by decide +kernel
theorem dX1_countSteps_1 : decode cX1_countSteps 1 = .ok (.istore_n 2, 1) := by decide +kernel
theorem dX1_countSteps_2 : decode cX1_countSteps 2 = .ok (.aload_n 0, 1) := by decide +kernel
theorem dX1_countSteps_3 : decode cX1_countSteps 3 = .ok (.getfield 20, 3) := by decide +kernel
theorem dX1_countSteps_6 : decode cX1_countSteps 6 = .ok (.iload_n 1, 1) := by decide +kernel
theorem dX1_countSteps_7 : decode cX1_countSteps 7 = .ok (.iaload, 1) := by decide +kernel
theorem dX1_countSteps_8 : decode cX1_countSteps 8 = .ok (.istore_n 3, 1) := by decide +kernel
theorem dX1_countSteps_9 : decode cX1_countSteps 9 = .ok (.iload_n 3, 1) := by decide +kernel
theorem dX1_countSteps_10 : decode cX1_countSteps 10 = .ok (.ifCond .lt 19, 3) := by decide +kernel
theorem dX1_countSteps_13 : decode cX1_countSteps 13 = .ok (.iinc 2 1, 3) := by decide +kernel
theorem dX1_countSteps_16 : decode cX1_countSteps 16 = .ok (.aload_n 0, 1) := by decide +kernel
theorem dX1_countSteps_17 : decode cX1_countSteps 17 = .ok (.getfield 16, 3) := by decide +kernel
theorem dX1_countSteps_20 : decode cX1_countSteps 20 = .ok (.getfield 119, 3) := by decide +kernel
theorem dX1_countSteps_23 : decode cX1_countSteps 23 = .ok (.iload_n 3, 1) := by decide +kernel
theorem dX1_countSteps_24 : decode cX1_countSteps 24 = .ok (.iaload, 1) := by decide +kernel
theorem dX1_countSteps_25 : decode cX1_countSteps 25 = .ok (.istore_n 3, 1) := by decide +kernel
theorem dX1_countSteps_26 : decode cX1_countSteps 26 = .ok (.goto (-17), 3) := by decide +kernel
theorem dX1_countSteps_29 : decode cX1_countSteps 29 = .ok (.iload_n 2, 1) := by decide +kernel
theorem dX1_countSteps_30 : decode cX1_countSteps 30 = .ok (.ireturn, 1) := by decide +kernel
theorem dX1_countValues_0 : decode cX1_countValues 0 = .ok (.iconst 0, 1) := by decide +kernel
theorem dX1_countValues_1 : decode cX1_countValues 1 = .ok (.istore_n 1, 1) := by decide +kernel
theorem dX1_countValues_2 : decode cX1_countValues 2 = .ok (.iconst 0, 1) := by decide +kernel
theorem dX1_countValues_3 : decode cX1_countValues 3 = .ok (.istore_n 2, 1) := by decide +kernel
theorem dX1_countValues_4 : decode cX1_countValues 4 = .ok (.iload_n 2, 1) := by decide +kernel
theorem dX1_countValues_5 : decode cX1_countValues 5 = .ok (.aload_n 0, 1) := by decide +kernel
theorem dX1_countValues_6 : decode cX1_countValues 6 = .ok (.getfield 73, 3) := by decide +kernel
theorem dX1_countValues_9 : decode cX1_countValues 9 = .ok (.if_icmp .ge 61, 3) := by decide +kernel
theorem dX1_countValues_12 : decode cX1_countValues 12 = .ok (.iload_n 1, 1) := by decide +kernel
theorem dX1_countValues_13 : decode cX1_countValues 13 = .ok (.aload_n 0, 1) := by decide +kernel
theorem dX1_countValues_14 : decode cX1_countValues 14 = .ok (.iload_n 2, 1) := by decide +kernel
theorem dX1_countValues_15 : decode cX1_countValues 15 = .ok (.invokevirtual 136, 3) := by decide +kernel
theorem dX1_countValues_18 : decode cX1_countValues 18 = .ok (.iadd, 1) := by decide +kernel
theorem dX1_countValues_19 : decode cX1_countValues 19 = .ok (.istore_n 1, 1) := by decide +kernel
theorem dX1_countValues_20 : decode cX1_countValues 20 = .ok (.aload_n 0, 1) := by decide +kernel
theorem dX1_countValues_21 : decode cX1_countValues 21 = .ok (.getfield 20, 3) := by decide +kernel
theorem dX1_countValues_24 : decode cX1_countValues 24 = .ok (.iload_n 2, 1) := by decide +kernel
theorem dX1_countValues_25 : decode cX1_countValues 25 = .ok (.iaload, 1) := by decide +kernel
theorem dX1_countValues_26 : decode cX1_countValues 26 = .ok (.istore_n 3, 1) := by decide +kernel
theorem dX1_countValues_27 : decode cX1_countValues 27 = .ok (.iload_n 3, 1) := by decide +kernel
theorem dX1_countValues_28 : decode cX1_countValues 28 = .ok (.ifCond .lt 36, 3) := by decide +kernel
theorem dX1_countValues_31 : decode cX1_countValues 31 = .ok (.iload_n 1, 1) := by decide +kernel
theorem dX1_countValues_32 : decode cX1_countValues 32 = .ok (.aload_n 0, 1) := by decide +kernel
theorem dX1_countValues_33 : decode cX1_countValues 33 = .ok (.getfield 16, 3) := by decide +kernel
theorem dX1_countValues_36 : decode cX1_countValues 36 = .ok (.getfield 106, 3) := by decide +kernel
theorem dX1_countValues_39 : decode cX1_countValues 39 = .ok (.iload_n 3, 1) := by decide +kernel
theorem dX1_countValues_40 : decode cX1_countValues 40 = .ok (.iaload, 1) := by decide +kernel
theorem dX1_countValues_41 : decode cX1_countValues 41 = .ok (.ifCond .lt 7, 3) := by decide +kernel
theorem dX1_countValues_44 : decode cX1_countValues 44 = .ok (.iconst 1, 1) := by decide +kernel
theorem dX1_countValues_45 : decode cX1_countValues 45 = .ok (.goto 4, 3) := by decide +kernel
theorem dX1_countValues_48 : decode cX1_countValues 48 = .ok (.iconst 0, 1) := by decide +kernel
theorem dX1_countValues_49 : decode cX1_countValues 49 = .ok (.iadd, 1) := by decide +kernel
theorem dX1_countValues_50 : decode cX1_countValues 50 = .ok (.istore_n 1, 1) := by decide +kernel
theorem dX1_countValues_51 : decode cX1_countValues 51 = .ok (.aload_n 0, 1) := by decide +kernel
theorem dX1_countValues_52 : decode cX1_countValues 52 = .ok (.getfield 16, 3) := by decide +kernel
theorem dX1_countValues_55 : decode cX1_countValues 55 = .ok (.getfield 119, 3) := by decide +kernel
theorem dX1_countValues_58 : decode cX1_countValues 58 = .ok (.iload_n 3, 1) := by decide +kernel
theorem dX1_countValues_59 : decode cX1_countValues 59 = .ok (.iaload, 1) := by decide +kernel
theorem dX1_countValues_60 : decode cX1_countValues 60 = .ok (.istore_n 3, 1) := by decide +kernel
theorem dX1_countValues_61 : decode cX1_countValues 61 = .ok (.goto (-34), 3) := by decide +kernel
theorem dX1_countValues_64 : decode cX1_countValues 64 = .ok (.iinc 2 1, 3) := by decide +kernel
theorem dX1_countValues_67 : decode cX1_countValues 67 = .ok (.goto (-63), 3) := by decide +kernel
theorem dX1_countValues_70 : decode cX1_countValues 70 = .ok (.iload_n 1, 1) := by decide +kernel
theorem dX1_countValues_71 : decode cX1_countValues 71 = .ok (.ireturn, 1) := by decide +kernel
theorem dX1_leads_0 : decode cX1_leads 0 = .ok (.aload_n 0, 1) := by decide +kernel
theorem dX1_leads_1 : decode cX1_leads 1 = .ok (.getfield 39, 3) := by decide +kernel
theorem dX1_leads_4 : decode cX1_leads 4 = .ok (.iload_n 1, 1) := by decide +kernel
theorem dX1_leads_5 : decode cX1_leads 5 = .ok (.iaload, 1) := by decide +kernel
theorem dX1_leads_6 : decode cX1_leads 6 = .ok (.iload_n 2, 1) := by decide +kernel
theorem dX1_leads_7 : decode cX1_leads 7 = .ok (.if_icmp .eq 13, 3) := by decide +kernel
theorem dX1_leads_10 : decode cX1_leads 10 = .ok (.aload_n 0, 1) := by decide +kernel
theorem dX1_leads_11 : decode cX1_leads 11 = .ok (.getfield 42, 3) := by decide +kernel
theorem dX1_leads_14 : decode cX1_leads 14 = .ok (.iload_n 1, 1) := by decide +kernel
theorem dX1_leads_15 : decode cX1_leads 15 = .ok (.iaload, 1) := by decide +kernel
theorem dX1_leads_16 : decode cX1_leads 16 = .ok (.iload_n 2, 1) := by decide +kernel
theorem dX1_leads_17 : decode cX1_leads 17 = .ok (.if_icmp .ne 7, 3) := by decide +kernel
theorem dX1_leads_20 : decode cX1_leads 20 = .ok (.iconst 1, 1) := by decide +kernel
theorem dX1_leads_21 : decode cX1_leads 21 = .ok (.goto 4, 3) := by decide +kernel
theorem dX1_leads_24 : decode cX1_leads 24 = .ok (.iconst 0, 1) := by decide +kernel
theorem dX1_leads_25 : decode cX1_leads 25 = .ok (.ireturn, 1) := by decide +kernel
theorem dX1_link_0 : decode cX1_link 0 = .ok (.aload_n 0, 1) := by decide +kernel
theorem dX1_link_1 : decode cX1_link 1 = .ok (.getfield 16, 3) := by decide +kernel
theorem dX1_link_4 : decode cX1_link 4 = .ok (.getfield 119, 3) := by decide +kernel
theorem dX1_link_7 : decode cX1_link 7 = .ok (.iload_n 2, 1) := by decide +kernel
theorem dX1_link_8 : decode cX1_link 8 = .ok (.iconst (-1), 1) := by decide +kernel
theorem dX1_link_9 : decode cX1_link 9 = .ok (.iastore, 1) := by decide +kernel
theorem dX1_link_10 : decode cX1_link 10 = .ok (.aload_n 0, 1) := by decide +kernel
theorem dX1_link_11 : decode cX1_link 11 = .ok (.getfield 20, 3) := by decide +kernel
theorem dX1_link_14 : decode cX1_link 14 = .ok (.iload_n 1, 1) := by decide +kernel
theorem dX1_link_15 : decode cX1_link 15 = .ok (.iaload, 1) := by decide +kernel
theorem dX1_link_16 : decode cX1_link 16 = .ok (.ifCond .ge 13, 3) := by decide +kernel
theorem dX1_link_19 : decode cX1_link 19 = .ok (.aload_n 0, 1) := by decide +kernel
theorem dX1_link_20 : decode cX1_link 20 = .ok (.getfield 20, 3) := by decide +kernel
theorem dX1_link_23 : decode cX1_link 23 = .ok (.iload_n 1, 1) := by decide +kernel
theorem dX1_link_24 : decode cX1_link 24 = .ok (.iload_n 2, 1) := by decide +kernel
theorem dX1_link_25 : decode cX1_link 25 = .ok (.iastore, 1) := by decide +kernel
theorem dX1_link_26 : decode cX1_link 26 = .ok (.goto 18, 3) := by decide +kernel
theorem dX1_link_29 : decode cX1_link 29 = .ok (.aload_n 0, 1) := by decide +kernel
theorem dX1_link_30 : decode cX1_link 30 = .ok (.getfield 16, 3) := by decide +kernel
theorem dX1_link_33 : decode cX1_link 33 = .ok (.getfield 119, 3) := by decide +kernel
theorem dX1_link_36 : decode cX1_link 36 = .ok (.aload_n 0, 1) := by decide +kernel
theorem dX1_link_37 : decode cX1_link 37 = .ok (.getfield 24, 3) := by decide +kernel
theorem dX1_link_40 : decode cX1_link 40 = .ok (.iload_n 1, 1) := by decide +kernel
theorem dX1_link_41 : decode cX1_link 41 = .ok (.iaload, 1) := by decide +kernel
theorem dX1_link_42 : decode cX1_link 42 = .ok (.iload_n 2, 1) := by decide +kernel
theorem dX1_link_43 : decode cX1_link 43 = .ok (.iastore, 1) := by decide +kernel
theorem dX1_link_44 : decode cX1_link 44 = .ok (.aload_n 0, 1) := by decide +kernel
theorem dX1_link_45 : decode cX1_link 45 = .ok (.getfield 24, 3) := by decide +kernel
theorem dX1_link_48 : decode cX1_link 48 = .ok (.iload_n 1, 1) := by decide +kernel
theorem dX1_link_49 : decode cX1_link 49 = .ok (.iload_n 2, 1) := by decide +kernel
theorem dX1_link_50 : decode cX1_link 50 = .ok (.iastore, 1) := by decide +kernel
theorem dX1_link_51 : decode cX1_link 51 = .ok (.return_, 1) := by decide +kernel
theorem dX1_linkPhi_0 : decode cX1_linkPhi 0 = .ok (.aload_n 0, 1) := by decide +kernel
theorem dX1_linkPhi_1 : decode cX1_linkPhi 1 = .ok (.getfield 67, 3) := by decide +kernel
theorem dX1_linkPhi_4 : decode cX1_linkPhi 4 = .ok (.iload_n 2, 1) := by decide +kernel
theorem dX1_linkPhi_5 : decode cX1_linkPhi 5 = .ok (.iconst (-1), 1) := by decide +kernel
theorem dX1_linkPhi_6 : decode cX1_linkPhi 6 = .ok (.iastore, 1) := by decide +kernel
theorem dX1_linkPhi_7 : decode cX1_linkPhi 7 = .ok (.aload_n 0, 1) := by decide +kernel
theorem dX1_linkPhi_8 : decode cX1_linkPhi 8 = .ok (.getfield 27, 3) := by decide +kernel
theorem dX1_linkPhi_11 : decode cX1_linkPhi 11 = .ok (.iload_n 1, 1) := by decide +kernel
theorem dX1_linkPhi_12 : decode cX1_linkPhi 12 = .ok (.iaload, 1) := by decide +kernel
theorem dX1_linkPhi_13 : decode cX1_linkPhi 13 = .ok (.ifCond .ge 13, 3) := by decide +kernel
theorem dX1_linkPhi_16 : decode cX1_linkPhi 16 = .ok (.aload_n 0, 1) := by decide +kernel
theorem dX1_linkPhi_17 : decode cX1_linkPhi 17 = .ok (.getfield 27, 3) := by decide +kernel
theorem dX1_linkPhi_20 : decode cX1_linkPhi 20 = .ok (.iload_n 1, 1) := by decide +kernel
theorem dX1_linkPhi_21 : decode cX1_linkPhi 21 = .ok (.iload_n 2, 1) := by decide +kernel
theorem dX1_linkPhi_22 : decode cX1_linkPhi 22 = .ok (.iastore, 1) := by decide +kernel
theorem dX1_linkPhi_23 : decode cX1_linkPhi 23 = .ok (.goto 15, 3) := by decide +kernel
theorem dX1_linkPhi_26 : decode cX1_linkPhi 26 = .ok (.aload_n 0, 1) := by decide +kernel
theorem dX1_linkPhi_27 : decode cX1_linkPhi 27 = .ok (.getfield 67, 3) := by decide +kernel
theorem dX1_linkPhi_30 : decode cX1_linkPhi 30 = .ok (.aload_n 0, 1) := by decide +kernel
theorem dX1_linkPhi_31 : decode cX1_linkPhi 31 = .ok (.getfield 30, 3) := by decide +kernel
theorem dX1_linkPhi_34 : decode cX1_linkPhi 34 = .ok (.iload_n 1, 1) := by decide +kernel
theorem dX1_linkPhi_35 : decode cX1_linkPhi 35 = .ok (.iaload, 1) := by decide +kernel
theorem dX1_linkPhi_36 : decode cX1_linkPhi 36 = .ok (.iload_n 2, 1) := by decide +kernel
theorem dX1_linkPhi_37 : decode cX1_linkPhi 37 = .ok (.iastore, 1) := by decide +kernel
theorem dX1_linkPhi_38 : decode cX1_linkPhi 38 = .ok (.aload_n 0, 1) := by decide +kernel
theorem dX1_linkPhi_39 : decode cX1_linkPhi 39 = .ok (.getfield 30, 3) := by decide +kernel
theorem dX1_linkPhi_42 : decode cX1_linkPhi 42 = .ok (.iload_n 1, 1) := by decide +kernel
theorem dX1_linkPhi_43 : decode cX1_linkPhi 43 = .ok (.iload_n 2, 1) := by decide +kernel
theorem dX1_linkPhi_44 : decode cX1_linkPhi 44 = .ok (.iastore, 1) := by decide +kernel
theorem dX1_linkPhi_45 : decode cX1_linkPhi 45 = .ok (.return_, 1) := by decide +kernel
theorem qw110 : Cond.fieldLink RX1 73 "Gearbox$Flow" "blocks" "I" ∈ gw := mq_1 (i := 210) rfl rfl
theorem qw111 : Cond.fieldLink RX1 20 "Gearbox$Flow" "firstStep" "[I" ∈ gw := mq_1 (i := 226) rfl rfl
theorem qw112 : Cond.fieldLink RX1 24 "Gearbox$Flow" "lastStep" "[I" ∈ gw := mq_1 (i := 233) rfl rfl
theorem qw113 : Cond.fieldLink RX1 27 "Gearbox$Flow" "firstPhi" "[I" ∈ gw := mq_1 (i := 235) rfl rfl
theorem qw114 : Cond.fieldLink RX1 30 "Gearbox$Flow" "lastPhi" "[I" ∈ gw := mq_2 (i := 2) rfl rfl
theorem qw115 : Cond.fieldLink RX1 33 "Gearbox$Flow" "end" "[I" ∈ gw := mq_2 (i := 4) rfl rfl
theorem qw116 : Cond.fieldLink RX1 36 "Gearbox$Flow" "endValue" "[I" ∈ gw := mq_2 (i := 11) rfl rfl
theorem qw117 : Cond.fieldLink RX1 39 "Gearbox$Flow" "first" "[I" ∈ gw := mq_2 (i := 19) rfl rfl
theorem qw118 : Cond.fieldLink RX1 42 "Gearbox$Flow" "second" "[I" ∈ gw := mq_2 (i := 27) rfl rfl
theorem qw119 : Cond.fieldLink RX1 83 "Gearbox$Flow" "phiCount" "I" ∈ gw := mq_2 (i := 55) rfl rfl
theorem qw120 : Cond.fieldLink RX1 64 "Gearbox$Flow" "phiGives" "[I" ∈ gw := mq_2 (i := 57) rfl rfl
theorem qw121 : Cond.fieldLink RX1 67 "Gearbox$Flow" "phiNext" "[I" ∈ gw := mq_2 (i := 63) rfl rfl
theorem qw122 : Cond.code yX1_linkPhi cX1_linkPhi 3 (Option.none : Option Jvm.ClassFile.FieldType) ∈ gw := mq_6 (i := 115) rfl rfl
theorem qw123 : Cond.methodLink RX1 133 yX1_linkPhi ∈ gw := mq_6 (i := 112) rfl rfl
theorem qw124 : Cond.instanceMethod yX1_linkPhi ∈ gw := mq_6 (i := 113) rfl rfl
theorem qw125 : Cond.selects RX1 yX1_linkPhi yX1_linkPhi ∈ gw := mq_6 (i := 114) rfl rfl
theorem qw126 : Cond.initialized RX1 ∈ gw := mq_1 (i := 19) rfl rfl
theorem qw127 : Cond.methodLink RX11 387 yJ7_copyOf_59c91 ∈ gw := mq_6 (i := 100) rfl rfl
theorem qw128 : Cond.code yX11_atLeast cX11_atLeast 2 (Option.some (Jvm.ClassFile.FieldType.array Jvm.ClassFile.FieldType.int)) ∈ gw := mq_6 (i := 99) rfl rfl
theorem qw129 : Cond.initialized RX11 ∈ gw := mq_1 (i := 16) rfl rfl
theorem qw130 : Cond.static yX11_atLeast ∈ gw := mq_6 (i := 98) rfl rfl
theorem qw131 : Cond.fieldLink RX1 70 "Gearbox$Flow" "takes" "[I" ∈ gw := mq_2 (i := 70) rfl rfl
theorem qw132 : Cond.fieldLink RX1 16 "Gearbox$Flow" "steps" "LGearbox$Steps;" ∈ gw := mq_1 (i := 220) rfl rfl
theorem qw133 : Cond.code yX9_add cX9_add 6 (Option.some Jvm.ClassFile.FieldType.int) ∈ gw := mq_7 (i := 109) rfl rfl
theorem qw134 : Cond.methodLink RX1 122 yX9_add ∈ gw := mq_7 (i := 106) rfl rfl
theorem qw135 : Cond.instanceMethod yX9_add ∈ gw := mq_7 (i := 107) rfl rfl
theorem qw136 : Cond.selects RX9 yX9_add yX9_add ∈ gw := mq_7 (i := 108) rfl rfl
theorem qw137 : Cond.initialized RX9 ∈ gw := mq_1 (i := 20) rfl rfl
theorem qw138 : Cond.fieldLink RX1 119 "Gearbox$Steps" "next" "[I" ∈ gw := mq_1 (i := 192) rfl rfl
theorem qw139 : Cond.code yX1_link cX1_link 3 (Option.none : Option Jvm.ClassFile.FieldType) ∈ gw := mq_7 (i := 114) rfl rfl
theorem qw140 : Cond.methodLink RX1 125 yX1_link ∈ gw := mq_7 (i := 111) rfl rfl
theorem qw141 : Cond.instanceMethod yX1_link ∈ gw := mq_7 (i := 112) rfl rfl
theorem qw142 : Cond.selects RX1 yX1_link yX1_link ∈ gw := mq_7 (i := 113) rfl rfl
theorem qw143 : Cond.fieldLink RX1 77 "Gearbox$Flow" "limit" "I" ∈ gw := mq_1 (i := 216) rfl rfl
theorem qw144 : Cond.fieldLink RX1 80 "Gearbox$Steps" "count" "I" ∈ gw := mq_1 (i := 158) rfl rfl
theorem qw145 : Cond.code yX1_clear cX1_clear 1 (Option.none : Option Jvm.ClassFile.FieldType) ∈ gw := mq_5 (i := 184) rfl rfl
theorem qw146 : Cond.methodLink RX1 86 yX1_clear ∈ gw := mq_8 (i := 165) rfl rfl
theorem qw147 : Cond.instanceMethod yX1_clear ∈ gw := mq_5 (i := 182) rfl rfl
theorem qw148 : Cond.selects RX1 yX1_clear yX1_clear ∈ gw := mq_5 (i := 183) rfl rfl
theorem qw149 : Cond.code yX1_addBlock cX1_addBlock 6 (Option.some Jvm.ClassFile.FieldType.int) ∈ gw := mq_5 (i := 238) rfl rfl
theorem qw150 : Cond.methodLink RX1 89 yX1_addBlock ∈ gw := mq_8 (i := 166) rfl rfl
theorem qw151 : Cond.instanceMethod yX1_addBlock ∈ gw := mq_5 (i := 236) rfl rfl
theorem qw152 : Cond.selects RX1 yX1_addBlock yX1_addBlock ∈ gw := mq_5 (i := 237) rfl rfl
theorem qw153 : Cond.fieldLink RX1 48 "Gearbox$Flow" "depth" "[I" ∈ gw := mq_2 (i := 40) rfl rfl
theorem qw154 : Cond.code yX1_addPhi cX1_addPhi 4 (Option.some Jvm.ClassFile.FieldType.int) ∈ gw := mq_6 (i := 96) rfl rfl
theorem qw155 : Cond.methodLink RX1 93 yX1_addPhi ∈ gw := mq_8 (i := 167) rfl rfl
theorem qw156 : Cond.instanceMethod yX1_addPhi ∈ gw := mq_6 (i := 94) rfl rfl
theorem qw157 : Cond.selects RX1 yX1_addPhi yX1_addPhi ∈ gw := mq_6 (i := 95) rfl rfl
theorem qw158 : Cond.methodLink RX1 97 ⟨"java/lang/System", "arraycopy", "(Ljava/lang/Object;ILjava/lang/Object;II)V"⟩ ∈ gw := mq_8 (i := 168) rfl rfl
theorem qw159 : Cond.fieldLink RX1 103 "Gearbox$Steps" "kind" "[I" ∈ gw := mq_1 (i := 164) rfl rfl
theorem qw160 : Cond.fieldLink RX1 106 "Gearbox$Steps" "gives" "[I" ∈ gw := mq_1 (i := 171) rfl rfl
theorem qw161 : Cond.fieldLink RX1 109 "Gearbox$Steps" "left" "[I" ∈ gw := mq_1 (i := 178) rfl rfl
theorem qw162 : Cond.fieldLink RX1 112 "Gearbox$Steps" "right" "[I" ∈ gw := mq_1 (i := 184) rfl rfl
theorem qw163 : Cond.code yX1_addStep cX1_addStep 7 (Option.some Jvm.ClassFile.FieldType.int) ∈ gw := mq_7 (i := 105) rfl rfl
theorem qw164 : Cond.methodLink RX1 115 yX1_addStep ∈ gw := mq_8 (i := 169) rfl rfl
theorem qw165 : Cond.instanceMethod yX1_addStep ∈ gw := mq_7 (i := 103) rfl rfl
theorem qw166 : Cond.selects RX1 yX1_addStep yX1_addStep ∈ gw := mq_7 (i := 104) rfl rfl
theorem qw167 : Cond.fieldLink RX1 51 "Gearbox$Flow" "waysBegin" "[I" ∈ gw := mq_2 (i := 44) rfl rfl
theorem qw168 : Cond.fieldLink RX1 54 "Gearbox$Flow" "ways" "[I" ∈ gw := mq_2 (i := 46) rfl rfl
theorem qw169 : Cond.code yX1_countPhis cX1_countPhis 4 (Option.some Jvm.ClassFile.FieldType.int) ∈ gw := mq_8 (i := 80) rfl rfl
theorem qw170 : Cond.methodLink RX1 136 yX1_countPhis ∈ gw := mq_8 (i := 77) rfl rfl
theorem qw171 : Cond.instanceMethod yX1_countPhis ∈ gw := mq_8 (i := 78) rfl rfl
theorem qw172 : Cond.selects RX1 yX1_countPhis yX1_countPhis ∈ gw := mq_8 (i := 79) rfl rfl
def fX1_addBlock (p0w : ST) (p1 : Int32) (p2 : Int32) (p3 : Int32) (p4 : Int32) : Option (Int32 × ST) := (if ixb (p0w 0 0) 60 = true then (lt9 (upw p0w 4 (nn (p0w 0 0)) (-1)) fun (w2 : ST) => (if ixb (p0w 0 0) 60 = true then (lt9 (upw w2 5 (nn (p0w 0 0)) (-1)) fun (w4 : ST) => (if ixb (p0w 0 0) 60 = true then (lt9 (upw w4 6 (nn (p0w 0 0)) (-1)) fun (w6 : ST) => (if ixb (p0w 0 0) 60 = true then (lt9 (upw w6 7 (nn (p0w 0 0)) (-1)) fun (w8 : ST) => (if ixb (p0w 0 0) 60 = true then (lt9 (upw w8 8 (nn (p0w 0 0)) p1) fun (w10 : ST) => (if ixb (p0w 0 0) 60 = true then (lt9 (upw w10 9 (nn (p0w 0 0)) p2) fun (w12 : ST) => (if ixb (p0w 0 0) 60 = true then (lt9 (upw w12 10 (nn (p0w 0 0)) p3) fun (w14 : ST) => (if ixb (p0w 0 0) 60 = true then (lt9 (upw w14 11 (nn (p0w 0 0)) p4) fun (w16 : ST) => (lt9 (upw w16 0 0 ((w16 0 0) + 1)) fun (w17 : ST) => some ((p0w 0 0), w17))) else none)) else none)) else none)) else none)) else none)) else none)) else none)) else none)
set_option maxHeartbeats 16000000 in
set_option maxRecDepth 100000 in
theorem kX1_addBlock {zs : ZS} (l : Launch) (dC : Nat → ClassId) (dI : Nat → Nat → Nat) (p0a : Nat → Nat) (p0k : Nat → ClassId) (p0n : Nat → Nat) (p0w : ST) (p0l : SL) (p1 : Int32) (p2 : Int32) (p3 : Int32) (p4 : Int32) (sz : Nat) (o : Int32 × ST) (hrun : fX1_addBlock p0w p1 p2 p3 p4 = some o) : Met l yX1_addBlock (wz yX1_addBlock cX1_addBlock 6 (Option.some Jvm.ClassFile.FieldType.int)) ({ frames := 0, cells := 0, slots := 0, locals := 0 } : Room) (va_Pc [.ref (p0a 0), .int p1, .int p2, .int p3, .int p4] (PRE zs dC dI (List.flatten ([(oX1 (p0a 0) p0a p0k p0n p0w p0l)] : List va_W)) (List.flatten ([(tX1 p0k)] : List (List (ClassId × FieldType)))) sz)) (va_Qi (fun (r : Int32) (_ : Unit) => r = (o.1)) (fun _ t => POST dC dI (List.flatten ([(oX1 (p0a 0) p0a p0k p0n (o.2) p0l)] : List va_W)) (List.flatten ([(tX1 p0k)] : List (List (ClassId × FieldType)))) (va_A (List.flatten ([(oX1 (p0a 0) p0a p0k p0n p0w p0l)] : List va_W)) sz) t) (va_A (List.flatten ([(oX1 (p0a 0) p0a p0k p0n p0w p0l)] : List va_W)) sz)) 0 0 (va_A (List.flatten ([(oX1 (p0a 0) p0a p0k p0n p0w p0l)] : List va_W)) sz) := by
  refine Met.ofW (cc := cX1_addBlock) (maxL := 6) (ret := (Option.some Jvm.ClassFile.FieldType.int)) (by decide) rfl ?_
  intro p e s m args below meth c s₁ B hml hv
  obtain ⟨rfl, hsz, hP, hK, hD0, hE⟩ := hv
  have hx := B.exec
  have hb := B.bytes
  have hr := B.returns
  have hts0 := atoms_spec (ws := wz yX1_addBlock cX1_addBlock 6 (Option.some Jvm.ClassFile.FieldType.int)) B.pre
  have hts : ∀ w ∈ gw, w.before _ s = true := fun w h => hts0 w (List.mem_cons_of_mem _ h)
  have hown : s.vm.findClass RX1 = some m.cls := findClass_of_methodNamed B.named
  have hlocks := B.notSynchronized
  subst hsz
  have hD := hD0.self (sz := s.heap.size)
  refine gQ9 ?_
  intro Q hQ
  generalize hAe : va_A (List.flatten ([(oX1 (p0a 0) p0a p0k p0n p0w p0l)] : List va_W)) s.heap.size = A at hD hE hQ
  have hA : ∀ q : Nat, s.heap.size ≤ q → A q := fun q h => by rw [← hAe]; exact Or.inr h
  have hS : va_S A s.heap s.heap [] := va_S.rf
  have hP : va_P (dC, dI) cls (List.flatten ([(oX1 (p0a 0) p0a p0k p0n p0w p0l)] : List va_W)) s.heap := hP
  have hl := lv_entry ([.ref (p0a 0), .int p1, .int p2, .int p3, .int p4]) (n := 6) (Nat.le_of_ble_eq_true rfl)
  rw [lg_entry_eq]
  generalize (lg_sl ([.ref (p0a 0), .int p1, .int p2, .int p3, .int p4]) ++ List.replicate (6 - (lg_sl ([.ref (p0a 0), .int p1, .int p2, .int p3, .int p4])).length) Slot.unset).toArray = ls at hl ⊢
  have hl : lv_has ls 6 [(0, .ref (p0a 0)), (1, .int p1), (2, .int p2), (3, .int p3), (4, .int p4)] := hl
  obtain ⟨H, hHe⟩ : ∃ H, H = s.heap := ⟨_, rfl⟩
  obtain ⟨locs, hle⟩ : ∃ locs : List Loc, locs = [] := ⟨_, rfl⟩
  rw [← hHe] at hP
  have hS : va_S A s.heap H locs := by rw [hHe, hle]; exact hS
  show W p l e ({ frames := 0, cells := 0, slots := 0, locals := 0 } : Room) s m ([.ref (p0a 0), .int p1, .int p2, .int p3, .int p4] : List Value).toArray below meth c s.heap [] 0 0 Q (F0 m 0 ls [])
  rw [← hle]
  refine wH9 hHe ?_
  unfold fX1_addBlock at hrun
  refine lv_aload_n hx hb dX1_addBlock_0 rfl (lv_at hl 0 rfl) ?_
  refine va_get (D := (dC, dI)) (ci := 4) (v := .int (p0w 0 0)) (C := RX1) (T := TX1) (N := 21) hx hb hts i_X1 hown hK hP 0 rfl rfl 0 (by decide) (hts _ qw110) (fun _ h9 => h9) rfl dX1_addBlock_1 ?_
  refine lv_istore (lv' := [(5, .int (p0w 0 0)), (0, .ref (p0a 0)), (1, .int p1), (2, .int p2), (3, .int p3), (4, .int p4)]) hx hb dX1_addBlock_4 hl (by decide) rfl (fun ls hl => ?_)
  refine lv_aload_n hx hb dX1_addBlock_6 rfl (lv_at hl 1 rfl) ?_
  refine va_get (D := (dC, dI)) (ci := 4) (v := .ref (p0a 4)) (C := RX1) (T := TX1) (N := 21) hx hb hts i_X1 hown hK hP 0 rfl rfl 3 (by decide) (hts _ qw111) (fun _ h9 => h9) rfl dX1_addBlock_7 ?_
  refine lv_iload hx hb dX1_addBlock_10 (lv_at hl 0 rfl) ?_
  refine lv_iconst (v := (-1)) hx hb dX1_addBlock_12 (by decide) ?_
  obtain ⟨hq1, hrun⟩ := chk9 hrun
  refine va_iast hx hb hK hP hD hS 1 0 rfl rfl (ixb_in hq1) dX1_addBlock_13 (fun H locs hP hD hS => ?_)
  have hP : va_P (dC, dI) cls (List.flatten ([(oX1 (p0a 0) p0a p0k p0n (upw p0w 4 (nn (p0w 0 0)) (-1)) p0l)] : List va_W)) H := hP
  have hD : va_D A (List.flatten ([(oX1 (p0a 0) p0a p0k p0n (upw p0w 4 (nn (p0w 0 0)) (-1)) p0l)] : List va_W)) := hD
  obtain ⟨w2, ew2, hrun⟩ := let9 hrun
  rw [← ew2] at hP hD
  refine lv_aload_n hx hb dX1_addBlock_14 rfl (lv_at hl 1 rfl) ?_
  refine va_get (D := (dC, dI)) (ci := 4) (v := .ref (p0a 5)) (C := RX1) (T := TX1) (N := 21) hx hb hts i_X1 hown hK hP 0 rfl rfl 4 (by decide) (hts _ qw112) (fun _ h9 => h9) rfl dX1_addBlock_15 ?_
  refine lv_iload hx hb dX1_addBlock_18 (lv_at hl 0 rfl) ?_
  refine lv_iconst (v := (-1)) hx hb dX1_addBlock_20 (by decide) ?_
  obtain ⟨hq3, hrun⟩ := chk9 hrun
  refine va_iast hx hb hK hP hD hS 2 1 rfl rfl (ixb_in hq3) dX1_addBlock_21 (fun H locs hP hD hS => ?_)
  have hP : va_P (dC, dI) cls (List.flatten ([(oX1 (p0a 0) p0a p0k p0n (upw w2 5 (nn (p0w 0 0)) (-1)) p0l)] : List va_W)) H := hP
  have hD : va_D A (List.flatten ([(oX1 (p0a 0) p0a p0k p0n (upw w2 5 (nn (p0w 0 0)) (-1)) p0l)] : List va_W)) := hD
  obtain ⟨w4, ew4, hrun⟩ := let9 hrun
  rw [← ew4] at hP hD
  refine lv_aload_n hx hb dX1_addBlock_22 rfl (lv_at hl 1 rfl) ?_
  refine va_get (D := (dC, dI)) (ci := 4) (v := .ref (p0a 6)) (C := RX1) (T := TX1) (N := 21) hx hb hts i_X1 hown hK hP 0 rfl rfl 5 (by decide) (hts _ qw113) (fun _ h9 => h9) rfl dX1_addBlock_23 ?_
  refine lv_iload hx hb dX1_addBlock_26 (lv_at hl 0 rfl) ?_
  refine lv_iconst (v := (-1)) hx hb dX1_addBlock_28 (by decide) ?_
  obtain ⟨hq5, hrun⟩ := chk9 hrun
  refine va_iast hx hb hK hP hD hS 3 2 rfl rfl (ixb_in hq5) dX1_addBlock_29 (fun H locs hP hD hS => ?_)
  have hP : va_P (dC, dI) cls (List.flatten ([(oX1 (p0a 0) p0a p0k p0n (upw w4 6 (nn (p0w 0 0)) (-1)) p0l)] : List va_W)) H := hP
  have hD : va_D A (List.flatten ([(oX1 (p0a 0) p0a p0k p0n (upw w4 6 (nn (p0w 0 0)) (-1)) p0l)] : List va_W)) := hD
  obtain ⟨w6, ew6, hrun⟩ := let9 hrun
  rw [← ew6] at hP hD
  refine lv_aload_n hx hb dX1_addBlock_30 rfl (lv_at hl 1 rfl) ?_
  refine va_get (D := (dC, dI)) (ci := 4) (v := .ref (p0a 7)) (C := RX1) (T := TX1) (N := 21) hx hb hts i_X1 hown hK hP 0 rfl rfl 6 (by decide) (hts _ qw114) (fun _ h9 => h9) rfl dX1_addBlock_31 ?_
  refine lv_iload hx hb dX1_addBlock_34 (lv_at hl 0 rfl) ?_
  refine lv_iconst (v := (-1)) hx hb dX1_addBlock_36 (by decide) ?_
  obtain ⟨hq7, hrun⟩ := chk9 hrun
  refine va_iast hx hb hK hP hD hS 4 3 rfl rfl (ixb_in hq7) dX1_addBlock_37 (fun H locs hP hD hS => ?_)
  have hP : va_P (dC, dI) cls (List.flatten ([(oX1 (p0a 0) p0a p0k p0n (upw w6 7 (nn (p0w 0 0)) (-1)) p0l)] : List va_W)) H := hP
  have hD : va_D A (List.flatten ([(oX1 (p0a 0) p0a p0k p0n (upw w6 7 (nn (p0w 0 0)) (-1)) p0l)] : List va_W)) := hD
  obtain ⟨w8, ew8, hrun⟩ := let9 hrun
  rw [← ew8] at hP hD
  refine lv_aload_n hx hb dX1_addBlock_38 rfl (lv_at hl 1 rfl) ?_
  refine va_get (D := (dC, dI)) (ci := 4) (v := .ref (p0a 8)) (C := RX1) (T := TX1) (N := 21) hx hb hts i_X1 hown hK hP 0 rfl rfl 7 (by decide) (hts _ qw115) (fun _ h9 => h9) rfl dX1_addBlock_39 ?_
  refine lv_iload hx hb dX1_addBlock_42 (lv_at hl 0 rfl) ?_
  refine lv_iload_n hx hb dX1_addBlock_44 rfl (lv_at hl 2 rfl) ?_
  obtain ⟨hq9, hrun⟩ := chk9 hrun
  refine va_iast hx hb hK hP hD hS 5 4 rfl rfl (ixb_in hq9) dX1_addBlock_45 (fun H locs hP hD hS => ?_)
  have hP : va_P (dC, dI) cls (List.flatten ([(oX1 (p0a 0) p0a p0k p0n (upw w8 8 (nn (p0w 0 0)) p1) p0l)] : List va_W)) H := hP
  have hD : va_D A (List.flatten ([(oX1 (p0a 0) p0a p0k p0n (upw w8 8 (nn (p0w 0 0)) p1) p0l)] : List va_W)) := hD
  obtain ⟨w10, ew10, hrun⟩ := let9 hrun
  rw [← ew10] at hP hD
  refine lv_aload_n hx hb dX1_addBlock_46 rfl (lv_at hl 1 rfl) ?_
  refine va_get (D := (dC, dI)) (ci := 4) (v := .ref (p0a 9)) (C := RX1) (T := TX1) (N := 21) hx hb hts i_X1 hown hK hP 0 rfl rfl 8 (by decide) (hts _ qw116) (fun _ h9 => h9) rfl dX1_addBlock_47 ?_
  refine lv_iload hx hb dX1_addBlock_50 (lv_at hl 0 rfl) ?_
  refine lv_iload_n hx hb dX1_addBlock_52 rfl (lv_at hl 3 rfl) ?_
  obtain ⟨hq11, hrun⟩ := chk9 hrun
  refine va_iast hx hb hK hP hD hS 6 5 rfl rfl (ixb_in hq11) dX1_addBlock_53 (fun H locs hP hD hS => ?_)
  have hP : va_P (dC, dI) cls (List.flatten ([(oX1 (p0a 0) p0a p0k p0n (upw w10 9 (nn (p0w 0 0)) p2) p0l)] : List va_W)) H := hP
  have hD : va_D A (List.flatten ([(oX1 (p0a 0) p0a p0k p0n (upw w10 9 (nn (p0w 0 0)) p2) p0l)] : List va_W)) := hD
  obtain ⟨w12, ew12, hrun⟩ := let9 hrun
  rw [← ew12] at hP hD
  refine lv_aload_n hx hb dX1_addBlock_54 rfl (lv_at hl 1 rfl) ?_
  refine va_get (D := (dC, dI)) (ci := 4) (v := .ref (p0a 10)) (C := RX1) (T := TX1) (N := 21) hx hb hts i_X1 hown hK hP 0 rfl rfl 9 (by decide) (hts _ qw117) (fun _ h9 => h9) rfl dX1_addBlock_55 ?_
  refine lv_iload hx hb dX1_addBlock_58 (lv_at hl 0 rfl) ?_
  refine lv_iload_n hx hb dX1_addBlock_60 rfl (lv_at hl 4 rfl) ?_
  obtain ⟨hq13, hrun⟩ := chk9 hrun
  refine va_iast hx hb hK hP hD hS 7 6 rfl rfl (ixb_in hq13) dX1_addBlock_61 (fun H locs hP hD hS => ?_)
  have hP : va_P (dC, dI) cls (List.flatten ([(oX1 (p0a 0) p0a p0k p0n (upw w12 10 (nn (p0w 0 0)) p3) p0l)] : List va_W)) H := hP
  have hD : va_D A (List.flatten ([(oX1 (p0a 0) p0a p0k p0n (upw w12 10 (nn (p0w 0 0)) p3) p0l)] : List va_W)) := hD
  obtain ⟨w14, ew14, hrun⟩ := let9 hrun
  rw [← ew14] at hP hD
  refine lv_aload_n hx hb dX1_addBlock_62 rfl (lv_at hl 1 rfl) ?_
  refine va_get (D := (dC, dI)) (ci := 4) (v := .ref (p0a 11)) (C := RX1) (T := TX1) (N := 21) hx hb hts i_X1 hown hK hP 0 rfl rfl 10 (by decide) (hts _ qw118) (fun _ h9 => h9) rfl dX1_addBlock_63 ?_
  refine lv_iload hx hb dX1_addBlock_66 (lv_at hl 0 rfl) ?_
  refine lv_iload hx hb dX1_addBlock_68 (lv_at hl 5 rfl) ?_
  obtain ⟨hq15, hrun⟩ := chk9 hrun
  refine va_iast hx hb hK hP hD hS 8 7 rfl rfl (ixb_in hq15) dX1_addBlock_70 (fun H locs hP hD hS => ?_)
  have hP : va_P (dC, dI) cls (List.flatten ([(oX1 (p0a 0) p0a p0k p0n (upw w14 11 (nn (p0w 0 0)) p4) p0l)] : List va_W)) H := hP
  have hD : va_D A (List.flatten ([(oX1 (p0a 0) p0a p0k p0n (upw w14 11 (nn (p0w 0 0)) p4) p0l)] : List va_W)) := hD
  obtain ⟨w16, ew16, hrun⟩ := let9 hrun
  rw [← ew16] at hP hD
  refine lv_aload_n hx hb dX1_addBlock_71 rfl (lv_at hl 1 rfl) ?_
  refine lv_dup hx hb dX1_addBlock_72 rfl ?_
  refine va_get (D := (dC, dI)) (ci := 4) (v := .int (w16 0 0)) (C := RX1) (T := TX1) (N := 21) hx hb hts i_X1 hown hK hP 0 rfl rfl 0 (by decide) (hts _ qw110) (fun _ h9 => h9) rfl dX1_addBlock_73 ?_
  refine lv_iconst (v := 1) hx hb dX1_addBlock_76 (by decide) ?_
  refine lv_iadd hx hb dX1_addBlock_77 ?_
  refine va_put (D := (dC, dI)) (ci := 4) (v := .int ((w16 0 0) + 1)) (ty := .int) (C := RX1) (T := TX1) (N := 21) hx hb hts i_X1 tyX1 tyX1_ok nmX1 hown hK hP hD hS 0 rfl rfl 0 (by decide) (hts _ qw110) (fun _ h9 => h9) rfl (by decide +kernel) rfl rfl (Nat.le_of_ble_eq_true rfl) dX1_addBlock_78 (fun H locs hP hD hS => ?_)
  have hP : va_P (dC, dI) cls (List.flatten ([(oX1 (p0a 0) p0a p0k p0n (upw w16 0 0 ((w16 0 0) + 1)) p0l)] : List va_W)) H := hP
  have hD : va_D A (List.flatten ([(oX1 (p0a 0) p0a p0k p0n (upw w16 0 0 ((w16 0 0) + 1)) p0l)] : List va_W)) := hD
  obtain ⟨w17, ew17, hrun⟩ := let9 hrun
  rw [← ew17] at hP hD
  refine lv_iload hx hb dX1_addBlock_81 (lv_at hl 0 rfl) ?_
  have ho9 : ((p0w 0 0), w17) = o := Option.some.inj hrun
  have hP9 : va_P (dC, dI) cls (List.flatten ([(oX1 (p0a 0) p0a p0k p0n (o.2) p0l)] : List va_W)) H := by first | exact hP | (rw [← ho9]; exact hP)
  have hD9 : va_D A (List.flatten ([(oX1 (p0a 0) p0a p0k p0n (o.2) p0l)] : List va_W)) := by first | exact hD | (rw [← ho9]; exact hD)
  subst hQ
  exact W.iret (v := (p0w 0 0)) hx hb hr (fun t ht hW => ⟨⟨(p0w 0 0), (), rfl, (by rw [← ho9]), ⟨by rw [ht]; exact hP9, va_K.moved hW.alike hK, hD9⟩⟩, hS.F ht⟩) hS.2.2 dX1_addBlock_83
def fX1_linkPhi_J38 (p1 : Int32) (p2 : Int32) (p0w_38 : ST) : Option ST := (if ixb p1 60 = true then (lt9 (upw p0w_38 7 (nn p1) p2) fun (w5 : ST) => some w5) else none)
def fX1_linkPhi (p0n : Nat → Nat) (p0w : ST) (p1 : Int32) (p2 : Int32) : Option ST := (if ixb p2 (p0n 20) = true then (lt9 (upw p0w 20 (nn p2) (-1)) fun (w2 : ST) => (if ixb p1 60 = true then (if 0 ≤ (w2 6 (nn p1)) then (if ixb p1 60 = true then (if ixb (w2 7 (nn p1)) (p0n 20) = true then (lt9 (upw w2 20 (nn (w2 7 (nn p1))) p2) fun (w9 : ST) => (fX1_linkPhi_J38 p1 p2 w9)) else none) else none) else (if ixb p1 60 = true then (lt9 (upw w2 6 (nn p1) p2) fun (w11 : ST) => (fX1_linkPhi_J38 p1 p2 w11)) else none)) else none)) else none)
set_option maxHeartbeats 16000000 in
set_option maxRecDepth 100000 in
theorem kX1_linkPhi {zs : ZS} (l : Launch) (dC : Nat → ClassId) (dI : Nat → Nat → Nat) (p0a : Nat → Nat) (p0k : Nat → ClassId) (p0n : Nat → Nat) (p0w : ST) (p0l : SL) (p1 : Int32) (p2 : Int32) (sz : Nat) (o : ST) (hrun : fX1_linkPhi p0n p0w p1 p2 = some o) : Met l yX1_linkPhi (wz yX1_linkPhi cX1_linkPhi 3 (Option.none : Option Jvm.ClassFile.FieldType)) ({ frames := 0, cells := 0, slots := 0, locals := 0 } : Room) (va_Pc [.ref (p0a 0), .int p1, .int p2] (PRE zs dC dI (List.flatten ([(oX1 (p0a 0) p0a p0k p0n p0w p0l)] : List va_W)) (List.flatten ([(tX1 p0k)] : List (List (ClassId × FieldType)))) sz)) (va_Qv (fun (_ : Unit) => True) (fun _ t => POST dC dI (List.flatten ([(oX1 (p0a 0) p0a p0k p0n o p0l)] : List va_W)) (List.flatten ([(tX1 p0k)] : List (List (ClassId × FieldType)))) (va_A (List.flatten ([(oX1 (p0a 0) p0a p0k p0n p0w p0l)] : List va_W)) sz) t) (va_A (List.flatten ([(oX1 (p0a 0) p0a p0k p0n p0w p0l)] : List va_W)) sz)) 0 0 (va_A (List.flatten ([(oX1 (p0a 0) p0a p0k p0n p0w p0l)] : List va_W)) sz) := by
  refine Met.ofW (cc := cX1_linkPhi) (maxL := 3) (ret := (Option.none : Option Jvm.ClassFile.FieldType)) (by decide) rfl ?_
  intro p e s m args below meth c s₁ B hml hv
  obtain ⟨rfl, hsz, hP, hK, hD0, hE⟩ := hv
  have hx := B.exec
  have hb := B.bytes
  have hr := B.returns
  have hts0 := atoms_spec (ws := wz yX1_linkPhi cX1_linkPhi 3 (Option.none : Option Jvm.ClassFile.FieldType)) B.pre
  have hts : ∀ w ∈ gw, w.before _ s = true := fun w h => hts0 w (List.mem_cons_of_mem _ h)
  have hown : s.vm.findClass RX1 = some m.cls := findClass_of_methodNamed B.named
  have hlocks := B.notSynchronized
  subst hsz
  have hD := hD0.self (sz := s.heap.size)
  refine gQ9 ?_
  intro Q hQ
  generalize hAe : va_A (List.flatten ([(oX1 (p0a 0) p0a p0k p0n p0w p0l)] : List va_W)) s.heap.size = A at hD hE hQ
  have hA : ∀ q : Nat, s.heap.size ≤ q → A q := fun q h => by rw [← hAe]; exact Or.inr h
  have hS : va_S A s.heap s.heap [] := va_S.rf
  have hP : va_P (dC, dI) cls (List.flatten ([(oX1 (p0a 0) p0a p0k p0n p0w p0l)] : List va_W)) s.heap := hP
  have hl := lv_entry ([.ref (p0a 0), .int p1, .int p2]) (n := 3) (Nat.le_of_ble_eq_true rfl)
  rw [lg_entry_eq]
  generalize (lg_sl ([.ref (p0a 0), .int p1, .int p2]) ++ List.replicate (3 - (lg_sl ([.ref (p0a 0), .int p1, .int p2])).length) Slot.unset).toArray = ls at hl ⊢
  have hl : lv_has ls 3 [(0, .ref (p0a 0)), (1, .int p1), (2, .int p2)] := hl
  obtain ⟨H, hHe⟩ : ∃ H, H = s.heap := ⟨_, rfl⟩
  obtain ⟨locs, hle⟩ : ∃ locs : List Loc, locs = [] := ⟨_, rfl⟩
  rw [← hHe] at hP
  have hS : va_S A s.heap H locs := by rw [hHe, hle]; exact hS
  show W p l e ({ frames := 0, cells := 0, slots := 0, locals := 0 } : Room) s m ([.ref (p0a 0), .int p1, .int p2] : List Value).toArray below meth c s.heap [] 0 0 Q (F0 m 0 ls [])
  rw [← hle]
  refine wH9 hHe ?_
  unfold fX1_linkPhi at hrun
  refine lv_aload_n hx hb dX1_linkPhi_0 rfl (lv_at hl 0 rfl) ?_
  refine va_get (D := (dC, dI)) (ci := 4) (v := .ref (p0a 20)) (C := RX1) (T := TX1) (N := 21) hx hb hts i_X1 hown hK hP 0 rfl rfl 19 (by decide) (hts _ qw121) (fun _ h9 => h9) rfl dX1_linkPhi_1 ?_
  refine lv_iload_n hx hb dX1_linkPhi_4 rfl (lv_at hl 2 rfl) ?_
  refine lv_iconst (v := (-1)) hx hb dX1_linkPhi_5 (by decide) ?_
  obtain ⟨hq1, hrun⟩ := chk9 hrun
  refine va_iast hx hb hK hP hD hS 16 15 rfl rfl (ixb_in hq1) dX1_linkPhi_6 (fun H locs hP hD hS => ?_)
  have hP : va_P (dC, dI) cls (List.flatten ([(oX1 (p0a 0) p0a p0k p0n (upw p0w 20 (nn p2) (-1)) p0l)] : List va_W)) H := hP
  have hD : va_D A (List.flatten ([(oX1 (p0a 0) p0a p0k p0n (upw p0w 20 (nn p2) (-1)) p0l)] : List va_W)) := hD
  obtain ⟨w2, ew2, hrun⟩ := let9 hrun
  rw [← ew2] at hP hD
  refine lv_aload_n hx hb dX1_linkPhi_7 rfl (lv_at hl 0 rfl) ?_
  refine va_get (D := (dC, dI)) (ci := 4) (v := .ref (p0a 6)) (C := RX1) (T := TX1) (N := 21) hx hb hts i_X1 hown hK hP 0 rfl rfl 5 (by decide) (hts _ qw113) (fun _ h9 => h9) rfl dX1_linkPhi_8 ?_
  refine lv_iload_n hx hb dX1_linkPhi_11 rfl (lv_at hl 1 rfl) ?_
  obtain ⟨hq3, hrun⟩ := chk9 hrun
  refine va_iald hx hb hK hP 3 2 rfl rfl (ixb_in hq3) dX1_linkPhi_12 ?_
  have J38 : ∀ (p0w_38 : ST) (H : Heap) (locs : List Loc) (ls : Array Slot), (fX1_linkPhi_J38 p1 p2 p0w_38) = some o → va_P (dC, dI) cls (List.flatten ([(oX1 (p0a 0) p0a p0k p0n p0w_38 p0l)] : List va_W)) H → va_D A (List.flatten ([(oX1 (p0a 0) p0a p0k p0n p0w_38 p0l)] : List va_W)) → va_K (dC, dI) cls (List.flatten ([(tX1 p0k)] : List (List (ClassId × FieldType)))) s → va_S A s.heap H locs → lv_has ls 3 [(0, .ref (p0a 0)), (1, .int p1), (2, .int p2)] → W p l e ({ frames := 0, cells := 0, slots := 0, locals := 0 } : Room) s m ([.ref (p0a 0), .int p1, .int p2] : List Value).toArray below meth c H locs 0 0 Q (F0 m 38 ls []) := by
    intro p0w_38 H locs ls hrun hP hD hK hS hl 
    unfold fX1_linkPhi_J38 at hrun
    refine lv_aload_n hx hb dX1_linkPhi_38 rfl (lv_at hl 0 rfl) ?_
    refine va_get (D := (dC, dI)) (ci := 4) (v := .ref (p0a 7)) (C := RX1) (T := TX1) (N := 21) hx hb hts i_X1 hown hK hP 0 rfl rfl 6 (by decide) (hts _ qw114) (fun _ h9 => h9) rfl dX1_linkPhi_39 ?_
    refine lv_iload_n hx hb dX1_linkPhi_42 rfl (lv_at hl 1 rfl) ?_
    refine lv_iload_n hx hb dX1_linkPhi_43 rfl (lv_at hl 2 rfl) ?_
    obtain ⟨hq4, hrun⟩ := chk9 hrun
    refine va_iast hx hb hK hP hD hS 4 3 rfl rfl (ixb_in hq4) dX1_linkPhi_44 (fun H locs hP hD hS => ?_)
    have hP : va_P (dC, dI) cls (List.flatten ([(oX1 (p0a 0) p0a p0k p0n (upw p0w_38 7 (nn p1) p2) p0l)] : List va_W)) H := hP
    have hD : va_D A (List.flatten ([(oX1 (p0a 0) p0a p0k p0n (upw p0w_38 7 (nn p1) p2) p0l)] : List va_W)) := hD
    obtain ⟨w5, ew5, hrun⟩ := let9 hrun
    rw [← ew5] at hP hD
    have ho9 : w5 = o := Option.some.inj hrun
    have hP9 : va_P (dC, dI) cls (List.flatten ([(oX1 (p0a 0) p0a p0k p0n o p0l)] : List va_W)) H := by first | exact hP | (rw [← ho9]; exact hP)
    have hD9 : va_D A (List.flatten ([(oX1 (p0a 0) p0a p0k p0n o p0l)] : List va_W)) := by first | exact hD | (rw [← ho9]; exact hD)
    subst hQ
    exact W.vret hx hb hr (fun t ht hW => ⟨⟨(), rfl, trivial, ⟨by rw [ht]; exact hP9, va_K.moved hW.alike hK, hD9⟩⟩, hS.F ht⟩) hS.2.2 dX1_linkPhi_45
  rcases br9 hrun with ⟨hc6, hrun⟩ | ⟨hc6, hrun⟩
  · refine lv_if_ge (tgt := 26) hx hb dX1_linkPhi_13 (by decide) (fun _ => ?_) (fun c => absurd hc6 c)
    refine lv_aload_n hx hb dX1_linkPhi_26 rfl (lv_at hl 0 rfl) ?_
    refine va_get (D := (dC, dI)) (ci := 4) (v := .ref (p0a 20)) (C := RX1) (T := TX1) (N := 21) hx hb hts i_X1 hown hK hP 0 rfl rfl 19 (by decide) (hts _ qw121) (fun _ h9 => h9) rfl dX1_linkPhi_27 ?_
    refine lv_aload_n hx hb dX1_linkPhi_30 rfl (lv_at hl 0 rfl) ?_
    refine va_get (D := (dC, dI)) (ci := 4) (v := .ref (p0a 7)) (C := RX1) (T := TX1) (N := 21) hx hb hts i_X1 hown hK hP 0 rfl rfl 6 (by decide) (hts _ qw114) (fun _ h9 => h9) rfl dX1_linkPhi_31 ?_
    refine lv_iload_n hx hb dX1_linkPhi_34 rfl (lv_at hl 1 rfl) ?_
    obtain ⟨hq7, hrun⟩ := chk9 hrun
    refine va_iald hx hb hK hP 4 3 rfl rfl (ixb_in hq7) dX1_linkPhi_35 ?_
    refine lv_iload_n hx hb dX1_linkPhi_36 rfl (lv_at hl 2 rfl) ?_
    obtain ⟨hq8, hrun⟩ := chk9 hrun
    refine va_iast hx hb hK hP hD hS 16 15 rfl rfl (ixb_in hq8) dX1_linkPhi_37 (fun H locs hP hD hS => ?_)
    have hP : va_P (dC, dI) cls (List.flatten ([(oX1 (p0a 0) p0a p0k p0n (upw w2 20 (nn (w2 7 (nn p1))) p2) p0l)] : List va_W)) H := hP
    have hD : va_D A (List.flatten ([(oX1 (p0a 0) p0a p0k p0n (upw w2 20 (nn (w2 7 (nn p1))) p2) p0l)] : List va_W)) := hD
    obtain ⟨w9, ew9, hrun⟩ := let9 hrun
    rw [← ew9] at hP hD
    exact J38 w9 _ _ _ hrun hP hD hK hS (lv_sub hl [0, 1, 2] rfl)
  · refine lv_if_ge (tgt := 26) hx hb dX1_linkPhi_13 (by decide) (fun c => absurd c hc6) (fun _ => ?_)
    refine lv_aload_n hx hb dX1_linkPhi_16 rfl (lv_at hl 0 rfl) ?_
    refine va_get (D := (dC, dI)) (ci := 4) (v := .ref (p0a 6)) (C := RX1) (T := TX1) (N := 21) hx hb hts i_X1 hown hK hP 0 rfl rfl 5 (by decide) (hts _ qw113) (fun _ h9 => h9) rfl dX1_linkPhi_17 ?_
    refine lv_iload_n hx hb dX1_linkPhi_20 rfl (lv_at hl 1 rfl) ?_
    refine lv_iload_n hx hb dX1_linkPhi_21 rfl (lv_at hl 2 rfl) ?_
    obtain ⟨hq10, hrun⟩ := chk9 hrun
    refine va_iast hx hb hK hP hD hS 3 2 rfl rfl (ixb_in hq10) dX1_linkPhi_22 (fun H locs hP hD hS => ?_)
    have hP : va_P (dC, dI) cls (List.flatten ([(oX1 (p0a 0) p0a p0k p0n (upw w2 6 (nn p1) p2) p0l)] : List va_W)) H := hP
    have hD : va_D A (List.flatten ([(oX1 (p0a 0) p0a p0k p0n (upw w2 6 (nn p1) p2) p0l)] : List va_W)) := hD
    obtain ⟨w11, ew11, hrun⟩ := let9 hrun
    rw [← ew11] at hP hD
    refine lv_goto (tgt := 38) hx hb dX1_linkPhi_23 (by decide) ?_
    exact J38 w11 _ _ _ hrun hP hD hK hS (lv_sub hl [0, 1, 2] rfl)
def fX11_atLeast (p0n : Nat) (p0f : RI) (p1 : Int32) : Option (Nat × RI) := (if (Int32.ofNat p0n) < p1 then ((fJ7_copyOf_59c91 p0n p0f (p1 + (p1 / 2))).bind fun (o_2 : Nat × RI) => (if grs p0n (o_2.1) = true then some o_2 else none)) else some (p0n, p0f))
theorem mo_fX11_atLeast {p0n : Nat} {p0f : RI} {p1 : Int32} {o : Nat × RI} (hrun : fX11_atLeast p0n p0f p1 = some o) : p0n ≤ o.1 := by
  unfold fX11_atLeast at hrun
  rcases br9 hrun with ⟨hc1, hrun⟩ | ⟨hc1, hrun⟩
  · skip
    obtain ⟨o_2, hc_2, hrun⟩ := bnd9 hrun
    obtain ⟨hq3, hrun⟩ := chk9 hrun
    obtain rfl := (Option.some.inj hrun)
    exact (grs_le hq3)
  · skip
    obtain rfl := (Option.some.inj hrun)
    exact (Nat.le_refl _)
set_option maxHeartbeats 16000000 in
set_option maxRecDepth 100000 in
theorem kX11_atLeast {zs : ZS} (l : Launch) (dC : Nat → ClassId) (dI : Nat → Nat → Nat) (p0a : Nat) (p0k : ClassId) (p0n : Nat) (p0f : RI) (p1 : Int32) (sz : Nat) (o : Nat × RI) (hrun : fX11_atLeast p0n p0f p1 = some o) : Met l yX11_atLeast (wz yX11_atLeast cX11_atLeast 2 (Option.some (Jvm.ClassFile.FieldType.array Jvm.ClassFile.FieldType.int))) ({ frames := 2, cells := (lgP o.1 - lgP p0n), slots := (3 * (o.1 - p0n)), locals := 62 } : Room) (va_Pc [.ref p0a, .int p1] (PRE zs dC dI (List.flatten ([[(p0a, .inl (p0k, p0n, .inl p0f))]] : List va_W)) (List.flatten ([[(p0k, .int)]] : List (List (ClassId × FieldType)))) sz)) (va_Qr (fun (_ : Unit) => True) (fun _ ra t => ∃ (z9 : ClassId), POST dC dI [(ra, .inl (z9, o.1, .inl o.2))] [(z9, .int)] (va_A (List.flatten ([[(p0a, .inl (p0k, p0n, .inl p0f))]] : List va_W)) sz) t) (va_A (List.flatten ([[(p0a, .inl (p0k, p0n, .inl p0f))]] : List va_W)) sz)) (lgP o.1 - lgP p0n) (3 * (o.1 - p0n)) (va_A (List.flatten ([[(p0a, .inl (p0k, p0n, .inl p0f))]] : List va_W)) sz) := by
  refine Met.ofW (cc := cX11_atLeast) (maxL := 2) (ret := (Option.some (Jvm.ClassFile.FieldType.array Jvm.ClassFile.FieldType.int))) (by decide) rfl ?_
  intro p e s m args below meth c s₁ B hml hv
  obtain ⟨rfl, hsz, hP, hK, hD0, hE⟩ := hv
  have hx := B.exec
  have hb := B.bytes
  have hr := B.returns
  have hts0 := atoms_spec (ws := wz yX11_atLeast cX11_atLeast 2 (Option.some (Jvm.ClassFile.FieldType.array Jvm.ClassFile.FieldType.int))) B.pre
  have hts : ∀ w ∈ gw, w.before _ s = true := fun w h => hts0 w (List.mem_cons_of_mem _ h)
  have hown : s.vm.findClass RX11 = some m.cls := findClass_of_methodNamed B.named
  have hlocks := B.notSynchronized
  subst hsz
  have hD := hD0.self (sz := s.heap.size)
  refine gQ9 ?_
  intro Q hQ
  generalize hAe : va_A (List.flatten ([[(p0a, .inl (p0k, p0n, .inl p0f))]] : List va_W)) s.heap.size = A at hD hE hQ
  have hA : ∀ q : Nat, s.heap.size ≤ q → A q := fun q h => by rw [← hAe]; exact Or.inr h
  have hS : va_S A s.heap s.heap [] := va_S.rf
  have hP : va_P (dC, dI) cls (List.flatten ([[(p0a, .inl (p0k, p0n, .inl p0f))]] : List va_W)) s.heap := hP
  have hl := lv_entry ([.ref p0a, .int p1]) (n := 2) (Nat.le_of_ble_eq_true rfl)
  rw [lg_entry_eq]
  generalize (lg_sl ([.ref p0a, .int p1]) ++ List.replicate (2 - (lg_sl ([.ref p0a, .int p1])).length) Slot.unset).toArray = ls at hl ⊢
  have hl : lv_has ls 2 [(0, .ref p0a), (1, .int p1)] := hl
  obtain ⟨H, hHe⟩ : ∃ H, H = s.heap := ⟨_, rfl⟩
  obtain ⟨locs, hle⟩ : ∃ locs : List Loc, locs = [] := ⟨_, rfl⟩
  rw [← hHe] at hP
  have hS : va_S A s.heap H locs := by rw [hHe, hle]; exact hS
  show W p l e ({ frames := 2, cells := (lgP o.1 - lgP p0n), slots := (3 * (o.1 - p0n)), locals := 62 } : Room) s m ([.ref p0a, .int p1] : List Value).toArray below meth c s.heap [] 0 0 Q (F0 m 0 ls [])
  rw [← hle]
  refine wH9 hHe ?_
  unfold fX11_atLeast at hrun
  refine lv_aload_n hx hb dX11_atLeast_0 rfl (lv_at hl 0 rfl) ?_
  refine va_alen (v := (Int32.ofNat p0n)) hx hb hK hP 0 0 rfl rfl rfl dX11_atLeast_1 ?_
  refine lv_iload_n hx hb dX11_atLeast_2 rfl (lv_at hl 1 rfl) ?_
  rcases br9 hrun with ⟨hc1, hrun⟩ | ⟨hc1, hrun⟩
  · refine lv_icmp_lt (tgt := 10) hx hb dX11_atLeast_3 (by decide) (fun _ => ?_) (fun c => absurd hc1 c)
    refine lv_aload_n hx hb dX11_atLeast_10 rfl (lv_at hl 0 rfl) ?_
    refine lv_iload_n hx hb dX11_atLeast_11 rfl (lv_at hl 1 rfl) ?_
    refine lv_iload_n hx hb dX11_atLeast_12 rfl (lv_at hl 1 rfl) ?_
    refine lv_iconst (v := 2) hx hb dX11_atLeast_13 (by decide) ?_
    refine lv_idiv hx hb dX11_atLeast_14 (by decide) ?_
    refine lv_iadd hx hb dX11_atLeast_15 ?_
    obtain ⟨o_2, hc_2, hrun⟩ := bnd9 hrun
    obtain ⟨hq3, hrun⟩ := chk9 hrun
    have hln := ln_fJ7_copyOf_59c91 hc_2
    have hPc := hP.sub (ws' := (List.flatten ([[(p0a, .inl (p0k, p0n, .inl p0f))]] : List va_W))) [0] rfl
    have hDc := hD.sub (ws' := (List.flatten ([[(p0a, .inl (p0k, p0n, .inl p0f))]] : List va_W))) [0] (by decide) rfl
    have hKc := hK.sub (tys' := (List.flatten ([[(p0k, .int)]] : List (List (ClassId × FieldType))))) [0] rfl
    have hFc := va_free (wc := (List.flatten ([[(p0a, .inl (p0k, p0n, .inl p0f))]] : List va_W))) hD hS hA [0] rfl
    have ho9 : o_2 = o := Option.some.inj hrun
    subst ho9
    have hrun : some o_2 = some o_2 := rfl
    refine va_callr (va_runS (As := [.ref p0a, .int (p1 + (p1 / 2))]) (rest := []) ⟨hx, hb, hml, hown, hts⟩ (kJ7_copyOf_59c91 l dC dI (p0a := p0a) (p0k := p0k) (p0n := p0n) (p0f := p0f) (p1 := (p1 + (p1 / 2))) (sz := _) (o := o_2) (hrun := hc_2)) (va_cwS 2 hts (gi_S qw127 qw108 qw109 (gi_z qw106)) rfl rfl rfl (by decide +kernel) ⟨Nat.le_of_ble_eq_true rfl, Nat.le_of_ble_eq_true rfl⟩) ⟨PRE.blind, PRE.of hE hS hFc hPc hKc hDc⟩ rfl rfl hl.1 rfl (lv_room (Nat.le_of_ble_eq_true rfl)) dX11_atLeast_16 ⟨(show 0 + 1 ≤ (lgP o_2.1 - lgP p0n) from by have q9 := grs_3 hq3; omega), (show 0 + nn (p1 + (p1 / 2)) ≤ (3 * (o_2.1 - p0n)) from by have q6 := grs_1 hq3; have q7 := grs_2 hq3; omega)⟩) hS (fun q _ h => hFc q h) hFc (fun u ra t H locs ht hvm hw hB hz1 hk1 hS => ?_)
    obtain ⟨z9, hB⟩ := hB
    obtain ⟨hP, hD, hK⟩ := JOIN (wr := ([] : va_W)) hP hD hK [0] [] [] rfl rfl (by decide +kernel) (by decide +kernel) rfl hk1 hFc ht hvm hB
    subst hQ
    have hP9 : va_P (dC, dI) cls (List.flatten ([[(ra, .inl (z9, (o_2.1), .inl (o_2.2)))]] : List va_W)) H := hP.sub [0] rfl
    have hD9 : va_D A (List.flatten ([[(ra, .inl (z9, (o_2.1), .inl (o_2.2)))]] : List va_W)) := hD.sub [0] (by decide) rfl
    have hK9 : va_K (dC, dI) cls (List.flatten ([[(z9, .int)]] : List (List (ClassId × FieldType)))) s := hK.sub [0] rfl
    refine W.widen (k := (lgP o_2.1 - lgP p0n)) (n := (3 * (o_2.1 - p0n))) (by have q9 := grs_3 hq3; omega) (by have q6 := grs_1 hq3; have q7 := grs_2 hq3; omega) ?_
    exact W.aret (v := .ref ra) (rt := .array .int) hx hb hr (Or.inr ⟨_, rfl⟩) (Or.inr ⟨_, rfl⟩) (fun t ht hW => ⟨⟨(), ra, rfl, trivial, z9, by rw [ht]; exact hP9, va_K.moved hW.alike hK9, hD9⟩, hS.F ht⟩) hS.2.2 dX11_atLeast_19
  · refine lv_icmp_lt (tgt := 10) hx hb dX11_atLeast_3 (by decide) (fun c => absurd c hc1) (fun _ => ?_)
    refine lv_aload_n hx hb dX11_atLeast_6 rfl (lv_at hl 0 rfl) ?_
    refine lv_goto (tgt := 19) hx hb dX11_atLeast_7 (by decide) ?_
    have ho9 : (p0n, p0f) = o := Option.some.inj hrun
    subst ho9
    subst hQ
    have hP9 : va_P (dC, dI) cls (List.flatten ([[(p0a, .inl (p0k, p0n, .inl p0f))]] : List va_W)) H := hP.sub [0] rfl
    have hD9 : va_D A (List.flatten ([[(p0a, .inl (p0k, p0n, .inl p0f))]] : List va_W)) := hD.sub [0] (by decide) rfl
    have hK9 : va_K (dC, dI) cls (List.flatten ([[(p0k, .int)]] : List (List (ClassId × FieldType)))) s := hK.sub [0] rfl
    refine W.widen (k := (lgP (p0n, p0f).1 - lgP p0n)) (n := (3 * ((p0n, p0f).1 - p0n))) (Nat.zero_le _) (Nat.zero_le _) ?_
    exact W.aret (v := .ref p0a) (rt := .array .int) hx hb hr (Or.inr ⟨_, rfl⟩) (Or.inr ⟨_, rfl⟩) (fun t ht hW => ⟨⟨(), p0a, rfl, trivial, p0k, by rw [ht]; exact hP9, va_K.moved hW.alike hK9, hD9⟩, hS.F ht⟩) hS.2.2 dX11_atLeast_19
def fX1_addPhi_J66 (p1 : Int32) (p2 : Int32) (p0w_66 : ST) (p0n_66 : Nat → Nat) : Option (Int32 × ST × (Nat → Nat)) := (if ixb (p0w_66 0 17) (p0n_66 19) = true then (lt9 (upw p0w_66 19 (nn (p0w_66 0 17)) p2) fun (w2 : ST) => ((fX1_linkPhi p0n_66 w2 p1 (p0w_66 0 17)).bind fun (o_3 : ST) => (lt9 (upw o_3 0 17 ((o_3 0 17) + 1)) fun (w4 : ST) => some ((p0w_66 0 17), w4, p0n_66)))) else none)
theorem mo_fX1_addPhi_J66 {p1 : Int32} {p2 : Int32} {p0w_66 : ST} {p0n_66 : Nat → Nat} {o9q : Int32 × ST × (Nat → Nat)} (hrun : fX1_addPhi_J66 p1 p2 p0w_66 p0n_66 = some o9q) : glX1 p0n_66 (o9q.2.2) := by
  unfold fX1_addPhi_J66 at hrun
  obtain ⟨hq1, hrun⟩ := chk9 hrun
  obtain ⟨w2, ew2, hrun⟩ := let9 hrun
  obtain ⟨o_3, hc_3, hrun⟩ := bnd9 hrun
  obtain ⟨w4, ew4, hrun⟩ := let9 hrun
  obtain rfl := (Option.some.inj hrun)
  exact (glX1_rf _)
def fX1_addPhi_G66_23 (p1 : Int32) (p2 : Int32) (n19 : Nat → Nat) (w20 : ST) : Option (Int32 × ST × (Nat → Nat)) := (fX1_addPhi_J66 p1 p2 w20 n19)
theorem mo_fX1_addPhi_G66_23 {p1 : Int32} {p2 : Int32} {n19 : Nat → Nat} {w20 : ST} {o9q : Int32 × ST × (Nat → Nat)} (hrun : fX1_addPhi_G66_23 p1 p2 n19 w20 = some o9q) : glX1 n19 (o9q.2.2) := by
  unfold fX1_addPhi_G66_23 at hrun
  exact (mo_fX1_addPhi_J66 hrun)
def fX1_addPhi_G46_17 (p1 : Int32) (p2 : Int32) (n13 : Nat → Nat) (w14 : ST) : Option (Int32 × ST × (Nat → Nat)) := ((fX11_atLeast (n13 21) (w14 21) (((w14 0 17) + 1) * 60)).bind fun (o_18 : Nat × RI) => (lt9 (stn n13 21 (o_18.1)) fun (n19 : Nat → Nat) => (lt9 (srw w14 21 (o_18.2)) fun (w20 : ST) => (fX1_addPhi_G66_23 p1 p2 n19 w20))))
theorem mo_fX1_addPhi_G46_17 {p1 : Int32} {p2 : Int32} {n13 : Nat → Nat} {w14 : ST} {o9q : Int32 × ST × (Nat → Nat)} (hrun : fX1_addPhi_G46_17 p1 p2 n13 w14 = some o9q) : glX1 n13 (o9q.2.2) := by
  unfold fX1_addPhi_G46_17 at hrun
  obtain ⟨o_18, hc_18, hrun⟩ := bnd9 hrun
  obtain ⟨n19, en19, hrun⟩ := let9 hrun
  obtain ⟨w20, ew20, hrun⟩ := let9 hrun
  skip
  exact (glX1_tr (by rw [en19]; exact glX1_21 (mo_fX11_atLeast hc_18) : glX1 n13 n19) (mo_fX1_addPhi_G66_23 hrun))
def fX1_addPhi_G29_11 (p1 : Int32) (p2 : Int32) (n7 : Nat → Nat) (w8 : ST) : Option (Int32 × ST × (Nat → Nat)) := ((fX11_atLeast (n7 20) (w8 20) ((w8 0 17) + 1)).bind fun (o_12 : Nat × RI) => (lt9 (stn n7 20 (o_12.1)) fun (n13 : Nat → Nat) => (lt9 (srw w8 20 (o_12.2)) fun (w14 : ST) => (fX1_addPhi_G46_17 p1 p2 n13 w14))))
theorem mo_fX1_addPhi_G29_11 {p1 : Int32} {p2 : Int32} {n7 : Nat → Nat} {w8 : ST} {o9q : Int32 × ST × (Nat → Nat)} (hrun : fX1_addPhi_G29_11 p1 p2 n7 w8 = some o9q) : glX1 n7 (o9q.2.2) := by
  unfold fX1_addPhi_G29_11 at hrun
  obtain ⟨o_12, hc_12, hrun⟩ := bnd9 hrun
  obtain ⟨n13, en13, hrun⟩ := let9 hrun
  obtain ⟨w14, ew14, hrun⟩ := let9 hrun
  skip
  exact (glX1_tr (by rw [en13]; exact glX1_20 (mo_fX11_atLeast hc_12) : glX1 n7 n13) (mo_fX1_addPhi_G46_17 hrun))
def fX1_addPhi (p0n : Nat → Nat) (p0w : ST) (p1 : Int32) (p2 : Int32) : Option (Int32 × ST × (Nat → Nat)) := (if (p0w 0 17) < (Int32.ofNat (p0n 19)) then (fX1_addPhi_J66 p1 p2 p0w p0n) else ((fX11_atLeast (p0n 19) (p0w 19) ((p0w 0 17) + 1)).bind fun (o_6 : Nat × RI) => (lt9 (stn p0n 19 (o_6.1)) fun (n7 : Nat → Nat) => (lt9 (srw p0w 19 (o_6.2)) fun (w8 : ST) => (fX1_addPhi_G29_11 p1 p2 n7 w8)))))
theorem mo_fX1_addPhi {p0n : Nat → Nat} {p0w : ST} {p1 : Int32} {p2 : Int32} {o9q : Int32 × ST × (Nat → Nat)} (hrun : fX1_addPhi p0n p0w p1 p2 = some o9q) : glX1 p0n (o9q.2.2) := by
  unfold fX1_addPhi at hrun
  rcases br9 hrun with ⟨hc5, hrun⟩ | ⟨hc5, hrun⟩
  · skip
    exact (mo_fX1_addPhi_J66 hrun)
  · skip
    obtain ⟨o_6, hc_6, hrun⟩ := bnd9 hrun
    obtain ⟨n7, en7, hrun⟩ := let9 hrun
    obtain ⟨w8, ew8, hrun⟩ := let9 hrun
    skip
    exact (glX1_tr (by rw [en7]; exact glX1_19 (mo_fX11_atLeast hc_6) : glX1 p0n n7) (mo_fX1_addPhi_G29_11 hrun))
set_option maxHeartbeats 16000000 in
set_option maxRecDepth 100000 in
theorem kX1_addPhi {zs : ZS} (l : Launch) (dC : Nat → ClassId) (dI : Nat → Nat → Nat) (p0a : Nat → Nat) (p0k : Nat → ClassId) (p0n : Nat → Nat) (p0w : ST) (p0l : SL) (p1 : Int32) (p2 : Int32) (sz : Nat) (o : Int32 × ST × (Nat → Nat)) (hrun : fX1_addPhi p0n p0w p1 p2 = some o) : Met l yX1_addPhi (wz yX1_addPhi cX1_addPhi 4 (Option.some Jvm.ClassFile.FieldType.int)) ({ frames := 3, cells := (hcX1 p0n (o.2.2)), slots := (3 * (gcX1 p0n (o.2.2))), locals := 83 } : Room) (va_Pc [.ref (p0a 0), .int p1, .int p2] (PRE zs dC dI (List.flatten ([(oX1 (p0a 0) p0a p0k p0n p0w p0l)] : List va_W)) (List.flatten ([(tX1 p0k)] : List (List (ClassId × FieldType)))) sz)) (va_Qi (fun (r : Int32) (_ : Unit) => r = (o.1)) (fun _ t => ∃ (xp0_18_z : Nat), ∃ (zp0_18_z : ClassId), ∃ (xp0_19_z : Nat), ∃ (zp0_19_z : ClassId), ∃ (xp0_20_z : Nat), ∃ (zp0_20_z : ClassId), POST dC dI (List.flatten ([(oX1 (p0a 0) (st1 (st1 (st1 p0a 19 xp0_18_z) 20 xp0_19_z) 21 xp0_20_z) (st1 (st1 (st1 p0k 19 zp0_18_z) 20 zp0_19_z) 21 zp0_20_z) (o.2.2) (o.2.1) p0l)] : List va_W)) (List.flatten ([(tX1 (st1 (st1 (st1 p0k 19 zp0_18_z) 20 zp0_19_z) 21 zp0_20_z))] : List (List (ClassId × FieldType)))) (va_A (List.flatten ([(oX1 (p0a 0) p0a p0k p0n p0w p0l)] : List va_W)) sz) t) (va_A (List.flatten ([(oX1 (p0a 0) p0a p0k p0n p0w p0l)] : List va_W)) sz)) (hcX1 p0n (o.2.2)) (3 * (gcX1 p0n (o.2.2))) (va_A (List.flatten ([(oX1 (p0a 0) p0a p0k p0n p0w p0l)] : List va_W)) sz) := by
  refine Met.ofW (cc := cX1_addPhi) (maxL := 4) (ret := (Option.some Jvm.ClassFile.FieldType.int)) (by decide) rfl ?_
  intro p e s m args below meth c s₁ B hml hv
  obtain ⟨rfl, hsz, hP, hK, hD0, hE⟩ := hv
  have hx := B.exec
  have hb := B.bytes
  have hr := B.returns
  have hts0 := atoms_spec (ws := wz yX1_addPhi cX1_addPhi 4 (Option.some Jvm.ClassFile.FieldType.int)) B.pre
  have hts : ∀ w ∈ gw, w.before _ s = true := fun w h => hts0 w (List.mem_cons_of_mem _ h)
  have hown : s.vm.findClass RX1 = some m.cls := findClass_of_methodNamed B.named
  have hlocks := B.notSynchronized
  subst hsz
  have hD := hD0.self (sz := s.heap.size)
  refine gQ9 ?_
  intro Q hQ
  generalize hAe : va_A (List.flatten ([(oX1 (p0a 0) p0a p0k p0n p0w p0l)] : List va_W)) s.heap.size = A at hD hE hQ
  have hA : ∀ q : Nat, s.heap.size ≤ q → A q := fun q h => by rw [← hAe]; exact Or.inr h
  have hS : va_S A s.heap s.heap [] := va_S.rf
  have hP : va_P (dC, dI) cls (List.flatten ([(oX1 (p0a 0) p0a p0k p0n p0w p0l)] : List va_W)) s.heap := hP
  have hl := lv_entry ([.ref (p0a 0), .int p1, .int p2]) (n := 4) (Nat.le_of_ble_eq_true rfl)
  rw [lg_entry_eq]
  generalize (lg_sl ([.ref (p0a 0), .int p1, .int p2]) ++ List.replicate (4 - (lg_sl ([.ref (p0a 0), .int p1, .int p2])).length) Slot.unset).toArray = ls at hl ⊢
  have hl : lv_has ls 4 [(0, .ref (p0a 0)), (1, .int p1), (2, .int p2)] := hl
  obtain ⟨H, hHe⟩ : ∃ H, H = s.heap := ⟨_, rfl⟩
  obtain ⟨locs, hle⟩ : ∃ locs : List Loc, locs = [] := ⟨_, rfl⟩
  rw [← hHe] at hP
  have hS : va_S A s.heap H locs := by rw [hHe, hle]; exact hS
  show W p l e ({ frames := 3, cells := (hcX1 p0n (o.2.2)), slots := (3 * (gcX1 p0n (o.2.2))), locals := 83 } : Room) s m ([.ref (p0a 0), .int p1, .int p2] : List Value).toArray below meth c s.heap [] 0 0 Q (F0 m 0 ls [])
  rw [← hle]
  refine wH9 hHe ?_
  have hg_p0 := glX1_rf p0n
  have hgn_p0 : glX1 p0n (o.2.2) := (mo_fX1_addPhi hrun)
  refine W.widen (k := (hcX1 p0n p0n)) (n := (3 * (gcX1 p0n p0n))) (Nat.zero_le _) (Nat.zero_le _) ?_
  unfold fX1_addPhi at hrun
  refine lv_aload_n hx hb dX1_addPhi_0 rfl (lv_at hl 0 rfl) ?_
  refine va_get (D := (dC, dI)) (ci := 4) (v := .int (p0w 0 17)) (C := RX1) (T := TX1) (N := 21) hx hb hts i_X1 hown hK hP 0 rfl rfl 17 (by decide) (hts _ qw119) (fun _ h9 => h9) rfl dX1_addPhi_1 ?_
  refine lv_aload_n hx hb dX1_addPhi_4 rfl (lv_at hl 0 rfl) ?_
  refine va_get (D := (dC, dI)) (ci := 4) (v := .ref (p0a 19)) (C := RX1) (T := TX1) (N := 21) hx hb hts i_X1 hown hK hP 0 rfl rfl 18 (by decide) (hts _ qw120) (fun _ h9 => h9) rfl dX1_addPhi_5 ?_
  refine va_alen (v := (Int32.ofNat (p0n 19))) hx hb hK hP 15 14 rfl rfl rfl dX1_addPhi_8 ?_
  have J66 : ∀ (p0w_66 : ST) (p0n_66 : Nat → Nat) (xp0_18_66 : Nat) (zp0_18_66 : ClassId) (xp0_19_66 : Nat) (zp0_19_66 : ClassId) (xp0_20_66 : Nat) (zp0_20_66 : ClassId) (H : Heap) (locs : List Loc) (ls : Array Slot), (fX1_addPhi_J66 p1 p2 p0w_66 p0n_66) = some o → va_P (dC, dI) cls (List.flatten ([(oX1 (p0a 0) (st1 (st1 (st1 p0a 19 xp0_18_66) 20 xp0_19_66) 21 xp0_20_66) (st1 (st1 (st1 p0k 19 zp0_18_66) 20 zp0_19_66) 21 zp0_20_66) p0n_66 p0w_66 p0l)] : List va_W)) H → va_D A (List.flatten ([(oX1 (p0a 0) (st1 (st1 (st1 p0a 19 xp0_18_66) 20 xp0_19_66) 21 xp0_20_66) (st1 (st1 (st1 p0k 19 zp0_18_66) 20 zp0_19_66) 21 zp0_20_66) p0n_66 p0w_66 p0l)] : List va_W)) → va_K (dC, dI) cls (List.flatten ([(tX1 (st1 (st1 (st1 p0k 19 zp0_18_66) 20 zp0_19_66) 21 zp0_20_66))] : List (List (ClassId × FieldType)))) s → va_S A s.heap H locs → lv_has ls 4 [(0, .ref (p0a 0)), (1, .int p1), (2, .int p2)] → glX1 p0n p0n_66 → W p l e ({ frames := 3, cells := (hcX1 p0n (o.2.2)), slots := (3 * (gcX1 p0n (o.2.2))), locals := 83 } : Room) s m ([.ref (p0a 0), .int p1, .int p2] : List Value).toArray below meth c H locs (hcX1 p0n p0n_66) (3 * (gcX1 p0n p0n_66)) Q (F0 m 66 ls []) := by
    intro p0w_66 p0n_66 xp0_18_66 zp0_18_66 xp0_19_66 zp0_19_66 xp0_20_66 zp0_20_66 H locs ls hrun hP hD hK hS hl hg_p0 
    have hgn_p0 : glX1 p0n_66 (o.2.2) := (mo_fX1_addPhi_J66 hrun)
    unfold fX1_addPhi_J66 at hrun
    refine lv_aload_n hx hb dX1_addPhi_66 rfl (lv_at hl 0 rfl) ?_
    refine va_get (D := (dC, dI)) (ci := 4) (v := .int (p0w_66 0 17)) (C := RX1) (T := TX1) (N := 21) hx hb hts i_X1 hown hK hP 0 rfl rfl 17 (by decide) (hts _ qw119) (fun _ h9 => h9) rfl dX1_addPhi_67 ?_
    refine lv_istore_n (lv' := [(3, .int (p0w_66 0 17)), (0, .ref (p0a 0)), (1, .int p1), (2, .int p2)]) hx hb dX1_addPhi_70 rfl hl (by decide) rfl (fun ls hl => ?_)
    refine lv_aload_n hx hb dX1_addPhi_71 rfl (lv_at hl 1 rfl) ?_
    refine va_get (D := (dC, dI)) (ci := 4) (v := .ref xp0_18_66) (C := RX1) (T := TX1) (N := 21) hx hb hts i_X1 hown hK hP 0 rfl rfl 18 (by decide) (hts _ qw120) (fun _ h9 => h9) rfl dX1_addPhi_72 ?_
    refine lv_iload_n hx hb dX1_addPhi_75 rfl (lv_at hl 0 rfl) ?_
    refine lv_iload_n hx hb dX1_addPhi_76 rfl (lv_at hl 3 rfl) ?_
    obtain ⟨hq1, hrun⟩ := chk9 hrun
    refine va_iast hx hb hK hP hD hS 15 14 rfl rfl (ixb_in hq1) dX1_addPhi_77 (fun H locs hP hD hS => ?_)
    have hP : va_P (dC, dI) cls (List.flatten ([(oX1 (p0a 0) (st1 (st1 (st1 p0a 19 xp0_18_66) 20 xp0_19_66) 21 xp0_20_66) (st1 (st1 (st1 p0k 19 zp0_18_66) 20 zp0_19_66) 21 zp0_20_66) p0n_66 (upw p0w_66 19 (nn (p0w_66 0 17)) p2) p0l)] : List va_W)) H := hP
    have hD : va_D A (List.flatten ([(oX1 (p0a 0) (st1 (st1 (st1 p0a 19 xp0_18_66) 20 xp0_19_66) 21 xp0_20_66) (st1 (st1 (st1 p0k 19 zp0_18_66) 20 zp0_19_66) 21 zp0_20_66) p0n_66 (upw p0w_66 19 (nn (p0w_66 0 17)) p2) p0l)] : List va_W)) := hD
    obtain ⟨w2, ew2, hrun⟩ := let9 hrun
    rw [← ew2] at hP hD
    refine lv_aload_n hx hb dX1_addPhi_78 rfl (lv_at hl 1 rfl) ?_
    refine lv_iload_n hx hb dX1_addPhi_79 rfl (lv_at hl 2 rfl) ?_
    refine lv_iload_n hx hb dX1_addPhi_80 rfl (lv_at hl 0 rfl) ?_
    obtain ⟨o_3, hc_3, hrun⟩ := bnd9 hrun
    have hPx : va_P (dC, dI) cls ((List.flatten ([(oX1 (p0a 0) (st1 (st1 (st1 p0a 19 xp0_18_66) 20 xp0_19_66) 21 xp0_20_66) (st1 (st1 (st1 p0k 19 zp0_18_66) 20 zp0_19_66) 21 zp0_20_66) p0n_66 w2 p0l)] : List va_W)) ++ (List.flatten ([] : List va_W))) H := vP_fa (vP_perm hP (bP (List.Perm.refl _)))
    have hDx : va_D A ((List.flatten ([(oX1 (p0a 0) (st1 (st1 (st1 p0a 19 xp0_18_66) 20 xp0_19_66) 21 xp0_20_66) (st1 (st1 (st1 p0k 19 zp0_18_66) 20 zp0_19_66) 21 zp0_20_66) p0n_66 w2 p0l)] : List va_W)) ++ (List.flatten ([] : List va_W))) := vD_fa (vD_perm hD (bP (List.Perm.refl _)))
    have hKx : va_K (dC, dI) cls ((List.flatten ([(tX1 (st1 (st1 (st1 p0k 19 zp0_18_66) 20 zp0_19_66) 21 zp0_20_66))] : List (List (ClassId × FieldType)))) ++ (List.flatten ([] : List (List (ClassId × FieldType))))) s := vK_fa (vK_perm hK (bP (List.Perm.refl _)))
    have hPc := vP_l hPx
    have hDc := vD_l hDx
    have hKc := vK_l hKx
    have hFc := vfree hDx hS hA
    refine va_callv (va_runV (As := [.int p1, .int (p0w_66 0 17)]) (rest := []) ⟨hx, hb, hml, hown, hts⟩ (kX1_linkPhi l dC dI (p0a := (st0 (p0a 0) (st1 (st1 (st1 p0a 19 xp0_18_66) 20 xp0_19_66) 21 xp0_20_66))) (p0k := (st1 (st1 (st1 p0k 19 zp0_18_66) 20 zp0_19_66) 21 zp0_20_66)) (p0n := p0n_66) (p0w := w2) (p0l := p0l) (p1 := p1) (p2 := (p0w_66 0 17)) (sz := _) (o := o_3) (hrun := hc_3)) (cwV 2 hts (gi_V qw123 qw124 qw125 qw126 (gi_z qw122)) rfl rfl rfl (by decide +kernel) ⟨Nat.le_of_ble_eq_true rfl, Nat.le_of_ble_eq_true rfl⟩) ⟨PRE.blind, va_recv hKc hPc (ci := 4) (q0 := 0) rfl rfl, PRE.of hE hS hFc hPc hKc hDc⟩ rfl rfl hl.1 rfl (lv_room (Nat.le_of_ble_eq_true rfl)) dX1_addPhi_81 ⟨(show (hcX1 p0n p0n_66) + 0 ≤ (hcX1 p0n (o.2.2)) from by have q0 := gmX1 hg_p0 hgn_p0; omega), (show (3 * (gcX1 p0n p0n_66)) + 0 ≤ (3 * (gcX1 p0n (o.2.2))) from by have q0 := gmX1 hg_p0 hgn_p0; omega)⟩) hS (fun q _ h => hFc q h) hFc (fun u t H locs ht hvm hw hB hz1 hk1 hS => ?_)
    obtain ⟨b1, b2, b3⟩ := hB
    rw [ht] at b1
    obtain ⟨hP, hD, hK⟩ := JOINC (wc := (List.flatten ([(oX1 (p0a 0) (st1 (st1 (st1 p0a 19 xp0_18_66) 20 xp0_19_66) 21 xp0_20_66) (st1 (st1 (st1 p0k 19 zp0_18_66) 20 zp0_19_66) 21 zp0_20_66) p0n_66 w2 p0l)] : List va_W))) (wr := (List.flatten ([] : List va_W))) (w1 := (List.flatten ([(oX1 (p0a 0) (st1 (st1 (st1 p0a 19 xp0_18_66) 20 xp0_19_66) 21 xp0_20_66) (st1 (st1 (st1 p0k 19 zp0_18_66) 20 zp0_19_66) 21 zp0_20_66) p0n_66 o_3 p0l)] : List va_W))) (t1 := (List.flatten ([(tX1 (st1 (st1 (st1 p0k 19 zp0_18_66) 20 zp0_19_66) 21 zp0_20_66))] : List (List (ClassId × FieldType))))) hPx hDx hKx hk1 hFc b1 (va_K.moved hvm.symm b2) b3
    have hP : va_P (dC, dI) cls (List.flatten ([(oX1 (p0a 0) (st1 (st1 (st1 p0a 19 xp0_18_66) 20 xp0_19_66) 21 xp0_20_66) (st1 (st1 (st1 p0k 19 zp0_18_66) 20 zp0_19_66) 21 zp0_20_66) p0n_66 o_3 p0l)] : List va_W)) H := vP_perm (vP_fb hP) (bP (List.Perm.refl _))
    have hD : va_D A (List.flatten ([(oX1 (p0a 0) (st1 (st1 (st1 p0a 19 xp0_18_66) 20 xp0_19_66) 21 xp0_20_66) (st1 (st1 (st1 p0k 19 zp0_18_66) 20 zp0_19_66) 21 zp0_20_66) p0n_66 o_3 p0l)] : List va_W)) := vD_perm (vD_fb hD) (bP (List.Perm.refl _))
    have hK : va_K (dC, dI) cls (List.flatten ([(tX1 (st1 (st1 (st1 p0k 19 zp0_18_66) 20 zp0_19_66) 21 zp0_20_66))] : List (List (ClassId × FieldType)))) s := vK_perm (vK_fb hK) (bP (List.Perm.refl _))
    refine lv_aload_n hx hb dX1_addPhi_84 rfl (lv_at hl 1 rfl) ?_
    refine lv_dup hx hb dX1_addPhi_85 rfl ?_
    refine va_get (D := (dC, dI)) (ci := 4) (v := .int (o_3 0 17)) (C := RX1) (T := TX1) (N := 21) hx hb hts i_X1 hown hK hP 0 rfl rfl 17 (by decide) (hts _ qw119) (fun _ h9 => h9) rfl dX1_addPhi_86 ?_
    refine lv_iconst (v := 1) hx hb dX1_addPhi_89 (by decide) ?_
    refine lv_iadd hx hb dX1_addPhi_90 ?_
    refine va_put (D := (dC, dI)) (ci := 4) (v := .int ((o_3 0 17) + 1)) (ty := .int) (C := RX1) (T := TX1) (N := 21) hx hb hts i_X1 tyX1 tyX1_ok nmX1 hown hK hP hD hS 0 rfl rfl 17 (by decide) (hts _ qw119) (fun _ h9 => h9) rfl (by decide +kernel) rfl rfl (Nat.le_of_ble_eq_true rfl) dX1_addPhi_91 (fun H locs hP hD hS => ?_)
    have hP : va_P (dC, dI) cls (List.flatten ([(oX1 (p0a 0) (st1 (st1 (st1 p0a 19 xp0_18_66) 20 xp0_19_66) 21 xp0_20_66) (st1 (st1 (st1 p0k 19 zp0_18_66) 20 zp0_19_66) 21 zp0_20_66) p0n_66 (upw o_3 0 17 ((o_3 0 17) + 1)) p0l)] : List va_W)) H := hP
    have hD : va_D A (List.flatten ([(oX1 (p0a 0) (st1 (st1 (st1 p0a 19 xp0_18_66) 20 xp0_19_66) 21 xp0_20_66) (st1 (st1 (st1 p0k 19 zp0_18_66) 20 zp0_19_66) 21 zp0_20_66) p0n_66 (upw o_3 0 17 ((o_3 0 17) + 1)) p0l)] : List va_W)) := hD
    obtain ⟨w4, ew4, hrun⟩ := let9 hrun
    rw [← ew4] at hP hD
    refine lv_iload_n hx hb dX1_addPhi_94 rfl (lv_at hl 0 rfl) ?_
    have ho9 : ((p0w_66 0 17), w4, p0n_66) = o := Option.some.inj hrun
    subst ho9
    subst hQ
    exact W.iret (v := (p0w_66 0 17)) hx hb hr (fun t ht hW => ⟨⟨(p0w_66 0 17), (), rfl, rfl, ⟨xp0_18_66, zp0_18_66, xp0_19_66, zp0_19_66, xp0_20_66, zp0_20_66, by rw [ht]; exact hP, va_K.moved hW.alike hK, hD⟩⟩, hS.F ht⟩) hS.2.2 dX1_addPhi_95
  rcases br9 hrun with ⟨hc5, hrun⟩ | ⟨hc5, hrun⟩
  · refine lv_icmp_lt (tgt := 66) hx hb dX1_addPhi_9 (by decide) (fun _ => ?_) (fun c => absurd hc5 c)
    exact J66 p0w p0n (p0a 19) (p0k 19) (p0a 20) (p0k 20) (p0a 21) (p0k 21) _ _ _ hrun hP hD hK hS (lv_sub hl [0, 1, 2] rfl) hg_p0
  · refine lv_icmp_lt (tgt := 66) hx hb dX1_addPhi_9 (by decide) (fun c => absurd c hc5) (fun _ => ?_)
    refine lv_aload_n hx hb dX1_addPhi_12 rfl (lv_at hl 0 rfl) ?_
    refine lv_aload_n hx hb dX1_addPhi_13 rfl (lv_at hl 0 rfl) ?_
    refine va_get (D := (dC, dI)) (ci := 4) (v := .ref (p0a 19)) (C := RX1) (T := TX1) (N := 21) hx hb hts i_X1 hown hK hP 0 rfl rfl 18 (by decide) (hts _ qw120) (fun _ h9 => h9) rfl dX1_addPhi_14 ?_
    refine lv_aload_n hx hb dX1_addPhi_17 rfl (lv_at hl 0 rfl) ?_
    refine va_get (D := (dC, dI)) (ci := 4) (v := .int (p0w 0 17)) (C := RX1) (T := TX1) (N := 21) hx hb hts i_X1 hown hK hP 0 rfl rfl 17 (by decide) (hts _ qw119) (fun _ h9 => h9) rfl dX1_addPhi_18 ?_
    refine lv_iconst (v := 1) hx hb dX1_addPhi_21 (by decide) ?_
    refine lv_iadd hx hb dX1_addPhi_22 ?_
    obtain ⟨o_6, hc_6, hrun⟩ := bnd9 hrun
    obtain ⟨n7, en7, hrun⟩ := let9 hrun
    obtain ⟨w8, ew8, hrun⟩ := let9 hrun
    have hst10 : glX1 p0n n7 := by rw [en7]; exact glX1_19 (mo_fX11_atLeast hc_6)
    have hgn_p0 : glX1 n7 (o.2.2) := (mo_fX1_addPhi_G29_11 hrun)
    have hP2 : va_P (dC, dI) cls (List.flatten ([[((p0a 19), .inl ((p0k 19), (p0n 19), .inl (p0w 19)))], [((p0a 0), .inr (4, [.int (p0w 0 0), .int (p0w 0 1), .ref (p0a 3), .ref (p0a 4), .ref (p0a 5), .ref (p0a 6), .ref (p0a 7), .ref (p0a 8), .ref (p0a 9), .ref (p0a 10), .ref (p0a 11), .ref (p0a 12), .ref (p0a 13), .ref (p0a 14), .ref (p0a 15), .ref (p0a 16), .ref (p0a 17), .int (p0w 0 17), .ref (p0a 19), .ref (p0a 20), .ref (p0a 21)])), ((p0a 4), .inl ((p0k 4), 60, .inl (p0w 4))), ((p0a 5), .inl ((p0k 5), 60, .inl (p0w 5))), ((p0a 6), .inl ((p0k 6), 60, .inl (p0w 6))), ((p0a 7), .inl ((p0k 7), 60, .inl (p0w 7))), ((p0a 8), .inl ((p0k 8), 60, .inl (p0w 8))), ((p0a 9), .inl ((p0k 9), 60, .inl (p0w 9))), ((p0a 10), .inl ((p0k 10), 60, .inl (p0w 10))), ((p0a 11), .inl ((p0k 11), 60, .inl (p0w 11))), ((p0a 12), .inl ((p0k 12), 60, .inl (p0w 12))), ((p0a 13), .inl ((p0k 13), 60, .inl (p0w 13))), ((p0a 14), .inl ((p0k 14), 61, .inl (p0w 14))), ((p0a 15), .inl ((p0k 15), 120, .inl (p0w 15))), ((p0a 16), .inl ((p0k 16), 60, .inr (.inl (p0l 16)))), ((p0a 17), .inl ((p0k 17), 60, .inr (.inl (p0l 17)))), ((p0a 20), .inl ((p0k 20), (p0n 20), .inl (p0w 20))), ((p0a 21), .inl ((p0k 21), (p0n 21), .inl (p0w 21)))]] : List va_W)) H := vP_perm hP ((bP (List.Perm.refl _)).trans (List.Perm.append_right _ (List.perm_middle (a := (((p0a 19), .inl ((p0k 19), (p0n 19), .inl (p0w 19))) : Nat × va_E)) (l₁ := ([((p0a 0), .inr (4, [.int (p0w 0 0), .int (p0w 0 1), .ref (p0a 3), .ref (p0a 4), .ref (p0a 5), .ref (p0a 6), .ref (p0a 7), .ref (p0a 8), .ref (p0a 9), .ref (p0a 10), .ref (p0a 11), .ref (p0a 12), .ref (p0a 13), .ref (p0a 14), .ref (p0a 15), .ref (p0a 16), .ref (p0a 17), .int (p0w 0 17), .ref (p0a 19), .ref (p0a 20), .ref (p0a 21)])), ((p0a 4), .inl ((p0k 4), 60, .inl (p0w 4))), ((p0a 5), .inl ((p0k 5), 60, .inl (p0w 5))), ((p0a 6), .inl ((p0k 6), 60, .inl (p0w 6))), ((p0a 7), .inl ((p0k 7), 60, .inl (p0w 7))), ((p0a 8), .inl ((p0k 8), 60, .inl (p0w 8))), ((p0a 9), .inl ((p0k 9), 60, .inl (p0w 9))), ((p0a 10), .inl ((p0k 10), 60, .inl (p0w 10))), ((p0a 11), .inl ((p0k 11), 60, .inl (p0w 11))), ((p0a 12), .inl ((p0k 12), 60, .inl (p0w 12))), ((p0a 13), .inl ((p0k 13), 60, .inl (p0w 13))), ((p0a 14), .inl ((p0k 14), 61, .inl (p0w 14))), ((p0a 15), .inl ((p0k 15), 120, .inl (p0w 15))), ((p0a 16), .inl ((p0k 16), 60, .inr (.inl (p0l 16)))), ((p0a 17), .inl ((p0k 17), 60, .inr (.inl (p0l 17))))] : va_W)) (l₂ := ([((p0a 20), .inl ((p0k 20), (p0n 20), .inl (p0w 20))), ((p0a 21), .inl ((p0k 21), (p0n 21), .inl (p0w 21)))] : va_W)))))
    have hD2 : va_D A (List.flatten ([[((p0a 19), .inl ((p0k 19), (p0n 19), .inl (p0w 19)))], [((p0a 0), .inr (4, [.int (p0w 0 0), .int (p0w 0 1), .ref (p0a 3), .ref (p0a 4), .ref (p0a 5), .ref (p0a 6), .ref (p0a 7), .ref (p0a 8), .ref (p0a 9), .ref (p0a 10), .ref (p0a 11), .ref (p0a 12), .ref (p0a 13), .ref (p0a 14), .ref (p0a 15), .ref (p0a 16), .ref (p0a 17), .int (p0w 0 17), .ref (p0a 19), .ref (p0a 20), .ref (p0a 21)])), ((p0a 4), .inl ((p0k 4), 60, .inl (p0w 4))), ((p0a 5), .inl ((p0k 5), 60, .inl (p0w 5))), ((p0a 6), .inl ((p0k 6), 60, .inl (p0w 6))), ((p0a 7), .inl ((p0k 7), 60, .inl (p0w 7))), ((p0a 8), .inl ((p0k 8), 60, .inl (p0w 8))), ((p0a 9), .inl ((p0k 9), 60, .inl (p0w 9))), ((p0a 10), .inl ((p0k 10), 60, .inl (p0w 10))), ((p0a 11), .inl ((p0k 11), 60, .inl (p0w 11))), ((p0a 12), .inl ((p0k 12), 60, .inl (p0w 12))), ((p0a 13), .inl ((p0k 13), 60, .inl (p0w 13))), ((p0a 14), .inl ((p0k 14), 61, .inl (p0w 14))), ((p0a 15), .inl ((p0k 15), 120, .inl (p0w 15))), ((p0a 16), .inl ((p0k 16), 60, .inr (.inl (p0l 16)))), ((p0a 17), .inl ((p0k 17), 60, .inr (.inl (p0l 17)))), ((p0a 20), .inl ((p0k 20), (p0n 20), .inl (p0w 20))), ((p0a 21), .inl ((p0k 21), (p0n 21), .inl (p0w 21)))]] : List va_W)) := vD_perm hD ((bP (List.Perm.refl _)).trans (List.Perm.append_right _ (List.perm_middle (a := (((p0a 19), .inl ((p0k 19), (p0n 19), .inl (p0w 19))) : Nat × va_E)) (l₁ := ([((p0a 0), .inr (4, [.int (p0w 0 0), .int (p0w 0 1), .ref (p0a 3), .ref (p0a 4), .ref (p0a 5), .ref (p0a 6), .ref (p0a 7), .ref (p0a 8), .ref (p0a 9), .ref (p0a 10), .ref (p0a 11), .ref (p0a 12), .ref (p0a 13), .ref (p0a 14), .ref (p0a 15), .ref (p0a 16), .ref (p0a 17), .int (p0w 0 17), .ref (p0a 19), .ref (p0a 20), .ref (p0a 21)])), ((p0a 4), .inl ((p0k 4), 60, .inl (p0w 4))), ((p0a 5), .inl ((p0k 5), 60, .inl (p0w 5))), ((p0a 6), .inl ((p0k 6), 60, .inl (p0w 6))), ((p0a 7), .inl ((p0k 7), 60, .inl (p0w 7))), ((p0a 8), .inl ((p0k 8), 60, .inl (p0w 8))), ((p0a 9), .inl ((p0k 9), 60, .inl (p0w 9))), ((p0a 10), .inl ((p0k 10), 60, .inl (p0w 10))), ((p0a 11), .inl ((p0k 11), 60, .inl (p0w 11))), ((p0a 12), .inl ((p0k 12), 60, .inl (p0w 12))), ((p0a 13), .inl ((p0k 13), 60, .inl (p0w 13))), ((p0a 14), .inl ((p0k 14), 61, .inl (p0w 14))), ((p0a 15), .inl ((p0k 15), 120, .inl (p0w 15))), ((p0a 16), .inl ((p0k 16), 60, .inr (.inl (p0l 16)))), ((p0a 17), .inl ((p0k 17), 60, .inr (.inl (p0l 17))))] : va_W)) (l₂ := ([((p0a 20), .inl ((p0k 20), (p0n 20), .inl (p0w 20))), ((p0a 21), .inl ((p0k 21), (p0n 21), .inl (p0w 21)))] : va_W)))))
    have hK2 : va_K (dC, dI) cls (List.flatten ([[((p0k 19), .int)], [((p0k 4), .int), ((p0k 5), .int), ((p0k 6), .int), ((p0k 7), .int), ((p0k 8), .int), ((p0k 9), .int), ((p0k 10), .int), ((p0k 11), .int), ((p0k 12), .int), ((p0k 13), .int), ((p0k 14), .int), ((p0k 15), .int), ((p0k 16), .long), ((p0k 17), .long), ((p0k 20), .int), ((p0k 21), .int)]] : List (List (ClassId × FieldType)))) s := vK_perm hK ((bP (List.Perm.refl _)).trans (List.Perm.append_right _ (List.perm_middle (a := (((p0k 19), .int) : ClassId × FieldType)) (l₁ := ([((p0k 4), .int), ((p0k 5), .int), ((p0k 6), .int), ((p0k 7), .int), ((p0k 8), .int), ((p0k 9), .int), ((p0k 10), .int), ((p0k 11), .int), ((p0k 12), .int), ((p0k 13), .int), ((p0k 14), .int), ((p0k 15), .int), ((p0k 16), .long), ((p0k 17), .long)] : List (ClassId × FieldType))) (l₂ := ([((p0k 20), .int), ((p0k 21), .int)] : List (ClassId × FieldType))))))
    have hPx : va_P (dC, dI) cls ((List.flatten ([[((p0a 19), .inl ((p0k 19), (p0n 19), .inl (p0w 19)))]] : List va_W)) ++ (List.flatten ([[((p0a 0), .inr (4, [.int (p0w 0 0), .int (p0w 0 1), .ref (p0a 3), .ref (p0a 4), .ref (p0a 5), .ref (p0a 6), .ref (p0a 7), .ref (p0a 8), .ref (p0a 9), .ref (p0a 10), .ref (p0a 11), .ref (p0a 12), .ref (p0a 13), .ref (p0a 14), .ref (p0a 15), .ref (p0a 16), .ref (p0a 17), .int (p0w 0 17), .ref (p0a 19), .ref (p0a 20), .ref (p0a 21)])), ((p0a 4), .inl ((p0k 4), 60, .inl (p0w 4))), ((p0a 5), .inl ((p0k 5), 60, .inl (p0w 5))), ((p0a 6), .inl ((p0k 6), 60, .inl (p0w 6))), ((p0a 7), .inl ((p0k 7), 60, .inl (p0w 7))), ((p0a 8), .inl ((p0k 8), 60, .inl (p0w 8))), ((p0a 9), .inl ((p0k 9), 60, .inl (p0w 9))), ((p0a 10), .inl ((p0k 10), 60, .inl (p0w 10))), ((p0a 11), .inl ((p0k 11), 60, .inl (p0w 11))), ((p0a 12), .inl ((p0k 12), 60, .inl (p0w 12))), ((p0a 13), .inl ((p0k 13), 60, .inl (p0w 13))), ((p0a 14), .inl ((p0k 14), 61, .inl (p0w 14))), ((p0a 15), .inl ((p0k 15), 120, .inl (p0w 15))), ((p0a 16), .inl ((p0k 16), 60, .inr (.inl (p0l 16)))), ((p0a 17), .inl ((p0k 17), 60, .inr (.inl (p0l 17)))), ((p0a 20), .inl ((p0k 20), (p0n 20), .inl (p0w 20))), ((p0a 21), .inl ((p0k 21), (p0n 21), .inl (p0w 21)))]] : List va_W))) H := vP_fa (vP_perm hP2 (bP (List.Perm.refl _)))
    have hDx : va_D A ((List.flatten ([[((p0a 19), .inl ((p0k 19), (p0n 19), .inl (p0w 19)))]] : List va_W)) ++ (List.flatten ([[((p0a 0), .inr (4, [.int (p0w 0 0), .int (p0w 0 1), .ref (p0a 3), .ref (p0a 4), .ref (p0a 5), .ref (p0a 6), .ref (p0a 7), .ref (p0a 8), .ref (p0a 9), .ref (p0a 10), .ref (p0a 11), .ref (p0a 12), .ref (p0a 13), .ref (p0a 14), .ref (p0a 15), .ref (p0a 16), .ref (p0a 17), .int (p0w 0 17), .ref (p0a 19), .ref (p0a 20), .ref (p0a 21)])), ((p0a 4), .inl ((p0k 4), 60, .inl (p0w 4))), ((p0a 5), .inl ((p0k 5), 60, .inl (p0w 5))), ((p0a 6), .inl ((p0k 6), 60, .inl (p0w 6))), ((p0a 7), .inl ((p0k 7), 60, .inl (p0w 7))), ((p0a 8), .inl ((p0k 8), 60, .inl (p0w 8))), ((p0a 9), .inl ((p0k 9), 60, .inl (p0w 9))), ((p0a 10), .inl ((p0k 10), 60, .inl (p0w 10))), ((p0a 11), .inl ((p0k 11), 60, .inl (p0w 11))), ((p0a 12), .inl ((p0k 12), 60, .inl (p0w 12))), ((p0a 13), .inl ((p0k 13), 60, .inl (p0w 13))), ((p0a 14), .inl ((p0k 14), 61, .inl (p0w 14))), ((p0a 15), .inl ((p0k 15), 120, .inl (p0w 15))), ((p0a 16), .inl ((p0k 16), 60, .inr (.inl (p0l 16)))), ((p0a 17), .inl ((p0k 17), 60, .inr (.inl (p0l 17)))), ((p0a 20), .inl ((p0k 20), (p0n 20), .inl (p0w 20))), ((p0a 21), .inl ((p0k 21), (p0n 21), .inl (p0w 21)))]] : List va_W))) := vD_fa (vD_perm hD2 (bP (List.Perm.refl _)))
    have hKx : va_K (dC, dI) cls ((List.flatten ([[((p0k 19), .int)]] : List (List (ClassId × FieldType)))) ++ (List.flatten ([[((p0k 4), .int), ((p0k 5), .int), ((p0k 6), .int), ((p0k 7), .int), ((p0k 8), .int), ((p0k 9), .int), ((p0k 10), .int), ((p0k 11), .int), ((p0k 12), .int), ((p0k 13), .int), ((p0k 14), .int), ((p0k 15), .int), ((p0k 16), .long), ((p0k 17), .long), ((p0k 20), .int), ((p0k 21), .int)]] : List (List (ClassId × FieldType))))) s := vK_fa (vK_perm hK2 (bP (List.Perm.refl _)))
    have hPc := vP_l hPx
    have hDc := vD_l hDx
    have hKc := vK_l hKx
    have hFc := vfree hDx hS hA
    refine va_callr (va_runSN (As := [.ref (p0a 19), .int ((p0w 0 17) + 1)]) (rest := [.ref (p0a 0)]) ⟨hx, hb, hml, hown, hts⟩ (kX11_atLeast l dC dI (p0a := (p0a 19)) (p0k := (p0k 19)) (p0n := (p0n 19)) (p0f := (p0w 19)) (p1 := ((p0w 0 17) + 1)) (sz := _) (o := o_6) (hrun := hc_6)) ⟨(va_cnB 2 hts (gi_z qw128) rfl rfl rfl (hE.nw (List.mem_append_right _ (tbl_6 (i := 97) rfl)) rfl) (hts _ qw129) (by decide +kernel) ⟨Nat.le_of_ble_eq_true rfl, Nat.le_of_ble_eq_true rfl⟩), (hts _ qw130), trivial⟩ ⟨PRE.blind, PRE.of hE hS hFc hPc hKc hDc⟩ rfl rfl hl.1 rfl (lv_room (Nat.le_of_ble_eq_true rfl)) dX1_addPhi_23 ⟨(show (hcX1 p0n p0n) + (lgP o_6.1 - lgP (p0n 19)) ≤ (hcX1 p0n (o.2.2)) from by have q0 := gsX1 hg_p0 hst10 hgn_p0; have q5 := gcX1_19 (n := p0n) (mo_fX11_atLeast hc_6); rw [← en7] at q5; omega), (show (3 * (gcX1 p0n p0n)) + (3 * (o_6.1 - (p0n 19))) ≤ (3 * (gcX1 p0n (o.2.2))) from by have q0 := gsX1 hg_p0 hst10 hgn_p0; have q5 := gcX1_19 (n := p0n) (mo_fX11_atLeast hc_6); rw [← en7] at q5; omega)⟩) hS (fun q _ h => hFc q h) hFc (fun u ra10 t H locs ht hvm hw hB hz1 hk1 hS => ?_)
    obtain ⟨z9, hB⟩ := hB
    obtain ⟨b1, b2, b3⟩ := hB
    rw [ht] at b1
    obtain ⟨hP, hD, hK⟩ := JOINC (wc := (List.flatten ([[((p0a 19), .inl ((p0k 19), (p0n 19), .inl (p0w 19)))]] : List va_W))) (wr := (List.flatten ([[((p0a 0), .inr (4, [.int (p0w 0 0), .int (p0w 0 1), .ref (p0a 3), .ref (p0a 4), .ref (p0a 5), .ref (p0a 6), .ref (p0a 7), .ref (p0a 8), .ref (p0a 9), .ref (p0a 10), .ref (p0a 11), .ref (p0a 12), .ref (p0a 13), .ref (p0a 14), .ref (p0a 15), .ref (p0a 16), .ref (p0a 17), .int (p0w 0 17), .ref (p0a 19), .ref (p0a 20), .ref (p0a 21)])), ((p0a 4), .inl ((p0k 4), 60, .inl (p0w 4))), ((p0a 5), .inl ((p0k 5), 60, .inl (p0w 5))), ((p0a 6), .inl ((p0k 6), 60, .inl (p0w 6))), ((p0a 7), .inl ((p0k 7), 60, .inl (p0w 7))), ((p0a 8), .inl ((p0k 8), 60, .inl (p0w 8))), ((p0a 9), .inl ((p0k 9), 60, .inl (p0w 9))), ((p0a 10), .inl ((p0k 10), 60, .inl (p0w 10))), ((p0a 11), .inl ((p0k 11), 60, .inl (p0w 11))), ((p0a 12), .inl ((p0k 12), 60, .inl (p0w 12))), ((p0a 13), .inl ((p0k 13), 60, .inl (p0w 13))), ((p0a 14), .inl ((p0k 14), 61, .inl (p0w 14))), ((p0a 15), .inl ((p0k 15), 120, .inl (p0w 15))), ((p0a 16), .inl ((p0k 16), 60, .inr (.inl (p0l 16)))), ((p0a 17), .inl ((p0k 17), 60, .inr (.inl (p0l 17)))), ((p0a 20), .inl ((p0k 20), (p0n 20), .inl (p0w 20))), ((p0a 21), .inl ((p0k 21), (p0n 21), .inl (p0w 21)))]] : List va_W))) (w1 := [(ra10, .inl (z9, o_6.1, .inl o_6.2))]) (t1 := [(z9, .int)]) hPx hDx hKx hk1 hFc b1 (va_K.moved hvm.symm b2) b3
    refine va_put (D := (dC, dI)) (ci := 4) (v := .ref ra10) (ty := .array .int) (C := RX1) (T := TX1) (N := 21) hx hb hts i_X1 tyX1 tyX1_ok nmX1 hown hK hP hD hS 1 rfl rfl 18 (by decide) (hts _ qw120) (fun _ h9 => h9) rfl (by decide +kernel) rfl rfl (Nat.le_of_ble_eq_true rfl) dX1_addPhi_26 (fun H locs hP hD hS => ?_)
    have hP : va_P (dC, dI) cls (List.flatten ([[(ra10, .inl (z9, (n7 19), .inl (w8 19)))], [((p0a 0), .inr (4, [.int (w8 0 0), .int (w8 0 1), .ref (p0a 3), .ref (p0a 4), .ref (p0a 5), .ref (p0a 6), .ref (p0a 7), .ref (p0a 8), .ref (p0a 9), .ref (p0a 10), .ref (p0a 11), .ref (p0a 12), .ref (p0a 13), .ref (p0a 14), .ref (p0a 15), .ref (p0a 16), .ref (p0a 17), .int (w8 0 17), .ref ra10, .ref (p0a 20), .ref (p0a 21)])), ((p0a 4), .inl ((p0k 4), 60, .inl (w8 4))), ((p0a 5), .inl ((p0k 5), 60, .inl (w8 5))), ((p0a 6), .inl ((p0k 6), 60, .inl (w8 6))), ((p0a 7), .inl ((p0k 7), 60, .inl (w8 7))), ((p0a 8), .inl ((p0k 8), 60, .inl (w8 8))), ((p0a 9), .inl ((p0k 9), 60, .inl (w8 9))), ((p0a 10), .inl ((p0k 10), 60, .inl (w8 10))), ((p0a 11), .inl ((p0k 11), 60, .inl (w8 11))), ((p0a 12), .inl ((p0k 12), 60, .inl (w8 12))), ((p0a 13), .inl ((p0k 13), 60, .inl (w8 13))), ((p0a 14), .inl ((p0k 14), 61, .inl (w8 14))), ((p0a 15), .inl ((p0k 15), 120, .inl (w8 15))), ((p0a 16), .inl ((p0k 16), 60, .inr (.inl (p0l 16)))), ((p0a 17), .inl ((p0k 17), 60, .inr (.inl (p0l 17)))), ((p0a 20), .inl ((p0k 20), (n7 20), .inl (w8 20))), ((p0a 21), .inl ((p0k 21), (n7 21), .inl (w8 21)))]] : List va_W)) H := by rw [en7, ew8]; exact hP
    have hD : va_D A (List.flatten ([[(ra10, .inl (z9, (n7 19), .inl (w8 19)))], [((p0a 0), .inr (4, [.int (w8 0 0), .int (w8 0 1), .ref (p0a 3), .ref (p0a 4), .ref (p0a 5), .ref (p0a 6), .ref (p0a 7), .ref (p0a 8), .ref (p0a 9), .ref (p0a 10), .ref (p0a 11), .ref (p0a 12), .ref (p0a 13), .ref (p0a 14), .ref (p0a 15), .ref (p0a 16), .ref (p0a 17), .int (w8 0 17), .ref ra10, .ref (p0a 20), .ref (p0a 21)])), ((p0a 4), .inl ((p0k 4), 60, .inl (w8 4))), ((p0a 5), .inl ((p0k 5), 60, .inl (w8 5))), ((p0a 6), .inl ((p0k 6), 60, .inl (w8 6))), ((p0a 7), .inl ((p0k 7), 60, .inl (w8 7))), ((p0a 8), .inl ((p0k 8), 60, .inl (w8 8))), ((p0a 9), .inl ((p0k 9), 60, .inl (w8 9))), ((p0a 10), .inl ((p0k 10), 60, .inl (w8 10))), ((p0a 11), .inl ((p0k 11), 60, .inl (w8 11))), ((p0a 12), .inl ((p0k 12), 60, .inl (w8 12))), ((p0a 13), .inl ((p0k 13), 60, .inl (w8 13))), ((p0a 14), .inl ((p0k 14), 61, .inl (w8 14))), ((p0a 15), .inl ((p0k 15), 120, .inl (w8 15))), ((p0a 16), .inl ((p0k 16), 60, .inr (.inl (p0l 16)))), ((p0a 17), .inl ((p0k 17), 60, .inr (.inl (p0l 17)))), ((p0a 20), .inl ((p0k 20), (n7 20), .inl (w8 20))), ((p0a 21), .inl ((p0k 21), (n7 21), .inl (w8 21)))]] : List va_W)) := by rw [en7, ew8]; exact hD
    have hK : va_K (dC, dI) cls (List.flatten ([[(z9, .int)], [((p0k 4), .int), ((p0k 5), .int), ((p0k 6), .int), ((p0k 7), .int), ((p0k 8), .int), ((p0k 9), .int), ((p0k 10), .int), ((p0k 11), .int), ((p0k 12), .int), ((p0k 13), .int), ((p0k 14), .int), ((p0k 15), .int), ((p0k 16), .long), ((p0k 17), .long), ((p0k 20), .int), ((p0k 21), .int)]] : List (List (ClassId × FieldType)))) s := hK
    have hP3 : va_P (dC, dI) cls (List.flatten ([(oX1 (p0a 0) (st1 p0a 19 ra10) (st1 p0k 19 z9) n7 w8 p0l)] : List va_W)) H := vP_perm hP ((bP (List.Perm.refl _)).trans (List.Perm.append_right _ (List.perm_middle (a := ((ra10, .inl (z9, (n7 19), .inl (w8 19))) : Nat × va_E)) (l₁ := ([((p0a 0), .inr (4, [.int (w8 0 0), .int (w8 0 1), .ref (p0a 3), .ref (p0a 4), .ref (p0a 5), .ref (p0a 6), .ref (p0a 7), .ref (p0a 8), .ref (p0a 9), .ref (p0a 10), .ref (p0a 11), .ref (p0a 12), .ref (p0a 13), .ref (p0a 14), .ref (p0a 15), .ref (p0a 16), .ref (p0a 17), .int (w8 0 17), .ref ra10, .ref (p0a 20), .ref (p0a 21)])), ((p0a 4), .inl ((p0k 4), 60, .inl (w8 4))), ((p0a 5), .inl ((p0k 5), 60, .inl (w8 5))), ((p0a 6), .inl ((p0k 6), 60, .inl (w8 6))), ((p0a 7), .inl ((p0k 7), 60, .inl (w8 7))), ((p0a 8), .inl ((p0k 8), 60, .inl (w8 8))), ((p0a 9), .inl ((p0k 9), 60, .inl (w8 9))), ((p0a 10), .inl ((p0k 10), 60, .inl (w8 10))), ((p0a 11), .inl ((p0k 11), 60, .inl (w8 11))), ((p0a 12), .inl ((p0k 12), 60, .inl (w8 12))), ((p0a 13), .inl ((p0k 13), 60, .inl (w8 13))), ((p0a 14), .inl ((p0k 14), 61, .inl (w8 14))), ((p0a 15), .inl ((p0k 15), 120, .inl (w8 15))), ((p0a 16), .inl ((p0k 16), 60, .inr (.inl (p0l 16)))), ((p0a 17), .inl ((p0k 17), 60, .inr (.inl (p0l 17))))] : va_W)) (l₂ := ([((p0a 20), .inl ((p0k 20), (n7 20), .inl (w8 20))), ((p0a 21), .inl ((p0k 21), (n7 21), .inl (w8 21)))] : va_W))).symm))
    have hD3 : va_D A (List.flatten ([(oX1 (p0a 0) (st1 p0a 19 ra10) (st1 p0k 19 z9) n7 w8 p0l)] : List va_W)) := vD_perm hD ((bP (List.Perm.refl _)).trans (List.Perm.append_right _ (List.perm_middle (a := ((ra10, .inl (z9, (n7 19), .inl (w8 19))) : Nat × va_E)) (l₁ := ([((p0a 0), .inr (4, [.int (w8 0 0), .int (w8 0 1), .ref (p0a 3), .ref (p0a 4), .ref (p0a 5), .ref (p0a 6), .ref (p0a 7), .ref (p0a 8), .ref (p0a 9), .ref (p0a 10), .ref (p0a 11), .ref (p0a 12), .ref (p0a 13), .ref (p0a 14), .ref (p0a 15), .ref (p0a 16), .ref (p0a 17), .int (w8 0 17), .ref ra10, .ref (p0a 20), .ref (p0a 21)])), ((p0a 4), .inl ((p0k 4), 60, .inl (w8 4))), ((p0a 5), .inl ((p0k 5), 60, .inl (w8 5))), ((p0a 6), .inl ((p0k 6), 60, .inl (w8 6))), ((p0a 7), .inl ((p0k 7), 60, .inl (w8 7))), ((p0a 8), .inl ((p0k 8), 60, .inl (w8 8))), ((p0a 9), .inl ((p0k 9), 60, .inl (w8 9))), ((p0a 10), .inl ((p0k 10), 60, .inl (w8 10))), ((p0a 11), .inl ((p0k 11), 60, .inl (w8 11))), ((p0a 12), .inl ((p0k 12), 60, .inl (w8 12))), ((p0a 13), .inl ((p0k 13), 60, .inl (w8 13))), ((p0a 14), .inl ((p0k 14), 61, .inl (w8 14))), ((p0a 15), .inl ((p0k 15), 120, .inl (w8 15))), ((p0a 16), .inl ((p0k 16), 60, .inr (.inl (p0l 16)))), ((p0a 17), .inl ((p0k 17), 60, .inr (.inl (p0l 17))))] : va_W)) (l₂ := ([((p0a 20), .inl ((p0k 20), (n7 20), .inl (w8 20))), ((p0a 21), .inl ((p0k 21), (n7 21), .inl (w8 21)))] : va_W))).symm))
    have hK3 : va_K (dC, dI) cls (List.flatten ([(tX1 (st1 p0k 19 z9))] : List (List (ClassId × FieldType)))) s := vK_perm hK ((bP (List.Perm.refl _)).trans (List.Perm.append_right _ (List.perm_middle (a := ((z9, .int) : ClassId × FieldType)) (l₁ := ([((p0k 4), .int), ((p0k 5), .int), ((p0k 6), .int), ((p0k 7), .int), ((p0k 8), .int), ((p0k 9), .int), ((p0k 10), .int), ((p0k 11), .int), ((p0k 12), .int), ((p0k 13), .int), ((p0k 14), .int), ((p0k 15), .int), ((p0k 16), .long), ((p0k 17), .long)] : List (ClassId × FieldType))) (l₂ := ([((p0k 20), .int), ((p0k 21), .int)] : List (ClassId × FieldType)))).symm))
    have hP : va_P (dC, dI) cls (List.flatten ([(oX1 (p0a 0) (st1 p0a 19 ra10) (st1 p0k 19 z9) n7 w8 p0l)] : List va_W)) H := vP_perm hP3 (bP (List.Perm.refl _))
    have hD : va_D A (List.flatten ([(oX1 (p0a 0) (st1 p0a 19 ra10) (st1 p0k 19 z9) n7 w8 p0l)] : List va_W)) := vD_perm hD3 (bP (List.Perm.refl _))
    have hK : va_K (dC, dI) cls (List.flatten ([(tX1 (st1 p0k 19 z9))] : List (List (ClassId × FieldType)))) s := vK_perm hK3 (bP (List.Perm.refl _))
    refine W.widen (k := (hcX1 p0n n7)) (n := (3 * (gcX1 p0n n7))) (by have a0 := gcX1_add hg_p0 hst10; have q5 := gcX1_19 (n := p0n) (mo_fX11_atLeast hc_6); rw [← en7] at q5; omega) (by have a0 := gcX1_add hg_p0 hst10; have q5 := gcX1_19 (n := p0n) (mo_fX11_atLeast hc_6); rw [← en7] at q5; omega) ?_
    have hg_p0 : glX1 p0n n7 := glX1_tr hg_p0 hst10
    unfold fX1_addPhi_G29_11 at hrun
    refine lv_aload_n hx hb dX1_addPhi_29 rfl (lv_at hl 0 rfl) ?_
    refine lv_aload_n hx hb dX1_addPhi_30 rfl (lv_at hl 0 rfl) ?_
    refine va_get (D := (dC, dI)) (ci := 4) (v := .ref (p0a 20)) (C := RX1) (T := TX1) (N := 21) hx hb hts i_X1 hown hK hP 0 rfl rfl 19 (by decide) (hts _ qw121) (fun _ h9 => h9) rfl dX1_addPhi_31 ?_
    refine lv_aload_n hx hb dX1_addPhi_34 rfl (lv_at hl 0 rfl) ?_
    refine va_get (D := (dC, dI)) (ci := 4) (v := .int (w8 0 17)) (C := RX1) (T := TX1) (N := 21) hx hb hts i_X1 hown hK hP 0 rfl rfl 17 (by decide) (hts _ qw119) (fun _ h9 => h9) rfl dX1_addPhi_35 ?_
    refine lv_iconst (v := 1) hx hb dX1_addPhi_38 (by decide) ?_
    refine lv_iadd hx hb dX1_addPhi_39 ?_
    obtain ⟨o_12, hc_12, hrun⟩ := bnd9 hrun
    obtain ⟨n13, en13, hrun⟩ := let9 hrun
    obtain ⟨w14, ew14, hrun⟩ := let9 hrun
    have hst16 : glX1 n7 n13 := by rw [en13]; exact glX1_20 (mo_fX11_atLeast hc_12)
    have hgn_p0 : glX1 n13 (o.2.2) := (mo_fX1_addPhi_G46_17 hrun)
    have hP2 : va_P (dC, dI) cls (List.flatten ([[((p0a 20), .inl ((p0k 20), (n7 20), .inl (w8 20)))], [((p0a 0), .inr (4, [.int (w8 0 0), .int (w8 0 1), .ref (p0a 3), .ref (p0a 4), .ref (p0a 5), .ref (p0a 6), .ref (p0a 7), .ref (p0a 8), .ref (p0a 9), .ref (p0a 10), .ref (p0a 11), .ref (p0a 12), .ref (p0a 13), .ref (p0a 14), .ref (p0a 15), .ref (p0a 16), .ref (p0a 17), .int (w8 0 17), .ref ra10, .ref (p0a 20), .ref (p0a 21)])), ((p0a 4), .inl ((p0k 4), 60, .inl (w8 4))), ((p0a 5), .inl ((p0k 5), 60, .inl (w8 5))), ((p0a 6), .inl ((p0k 6), 60, .inl (w8 6))), ((p0a 7), .inl ((p0k 7), 60, .inl (w8 7))), ((p0a 8), .inl ((p0k 8), 60, .inl (w8 8))), ((p0a 9), .inl ((p0k 9), 60, .inl (w8 9))), ((p0a 10), .inl ((p0k 10), 60, .inl (w8 10))), ((p0a 11), .inl ((p0k 11), 60, .inl (w8 11))), ((p0a 12), .inl ((p0k 12), 60, .inl (w8 12))), ((p0a 13), .inl ((p0k 13), 60, .inl (w8 13))), ((p0a 14), .inl ((p0k 14), 61, .inl (w8 14))), ((p0a 15), .inl ((p0k 15), 120, .inl (w8 15))), ((p0a 16), .inl ((p0k 16), 60, .inr (.inl (p0l 16)))), ((p0a 17), .inl ((p0k 17), 60, .inr (.inl (p0l 17)))), (ra10, .inl (z9, (n7 19), .inl (w8 19))), ((p0a 21), .inl ((p0k 21), (n7 21), .inl (w8 21)))]] : List va_W)) H := vP_perm hP ((bP (List.Perm.refl _)).trans (List.Perm.append_right _ (List.perm_middle (a := (((p0a 20), .inl ((p0k 20), (n7 20), .inl (w8 20))) : Nat × va_E)) (l₁ := ([((p0a 0), .inr (4, [.int (w8 0 0), .int (w8 0 1), .ref (p0a 3), .ref (p0a 4), .ref (p0a 5), .ref (p0a 6), .ref (p0a 7), .ref (p0a 8), .ref (p0a 9), .ref (p0a 10), .ref (p0a 11), .ref (p0a 12), .ref (p0a 13), .ref (p0a 14), .ref (p0a 15), .ref (p0a 16), .ref (p0a 17), .int (w8 0 17), .ref ra10, .ref (p0a 20), .ref (p0a 21)])), ((p0a 4), .inl ((p0k 4), 60, .inl (w8 4))), ((p0a 5), .inl ((p0k 5), 60, .inl (w8 5))), ((p0a 6), .inl ((p0k 6), 60, .inl (w8 6))), ((p0a 7), .inl ((p0k 7), 60, .inl (w8 7))), ((p0a 8), .inl ((p0k 8), 60, .inl (w8 8))), ((p0a 9), .inl ((p0k 9), 60, .inl (w8 9))), ((p0a 10), .inl ((p0k 10), 60, .inl (w8 10))), ((p0a 11), .inl ((p0k 11), 60, .inl (w8 11))), ((p0a 12), .inl ((p0k 12), 60, .inl (w8 12))), ((p0a 13), .inl ((p0k 13), 60, .inl (w8 13))), ((p0a 14), .inl ((p0k 14), 61, .inl (w8 14))), ((p0a 15), .inl ((p0k 15), 120, .inl (w8 15))), ((p0a 16), .inl ((p0k 16), 60, .inr (.inl (p0l 16)))), ((p0a 17), .inl ((p0k 17), 60, .inr (.inl (p0l 17)))), (ra10, .inl (z9, (n7 19), .inl (w8 19)))] : va_W)) (l₂ := ([((p0a 21), .inl ((p0k 21), (n7 21), .inl (w8 21)))] : va_W)))))
    have hD2 : va_D A (List.flatten ([[((p0a 20), .inl ((p0k 20), (n7 20), .inl (w8 20)))], [((p0a 0), .inr (4, [.int (w8 0 0), .int (w8 0 1), .ref (p0a 3), .ref (p0a 4), .ref (p0a 5), .ref (p0a 6), .ref (p0a 7), .ref (p0a 8), .ref (p0a 9), .ref (p0a 10), .ref (p0a 11), .ref (p0a 12), .ref (p0a 13), .ref (p0a 14), .ref (p0a 15), .ref (p0a 16), .ref (p0a 17), .int (w8 0 17), .ref ra10, .ref (p0a 20), .ref (p0a 21)])), ((p0a 4), .inl ((p0k 4), 60, .inl (w8 4))), ((p0a 5), .inl ((p0k 5), 60, .inl (w8 5))), ((p0a 6), .inl ((p0k 6), 60, .inl (w8 6))), ((p0a 7), .inl ((p0k 7), 60, .inl (w8 7))), ((p0a 8), .inl ((p0k 8), 60, .inl (w8 8))), ((p0a 9), .inl ((p0k 9), 60, .inl (w8 9))), ((p0a 10), .inl ((p0k 10), 60, .inl (w8 10))), ((p0a 11), .inl ((p0k 11), 60, .inl (w8 11))), ((p0a 12), .inl ((p0k 12), 60, .inl (w8 12))), ((p0a 13), .inl ((p0k 13), 60, .inl (w8 13))), ((p0a 14), .inl ((p0k 14), 61, .inl (w8 14))), ((p0a 15), .inl ((p0k 15), 120, .inl (w8 15))), ((p0a 16), .inl ((p0k 16), 60, .inr (.inl (p0l 16)))), ((p0a 17), .inl ((p0k 17), 60, .inr (.inl (p0l 17)))), (ra10, .inl (z9, (n7 19), .inl (w8 19))), ((p0a 21), .inl ((p0k 21), (n7 21), .inl (w8 21)))]] : List va_W)) := vD_perm hD ((bP (List.Perm.refl _)).trans (List.Perm.append_right _ (List.perm_middle (a := (((p0a 20), .inl ((p0k 20), (n7 20), .inl (w8 20))) : Nat × va_E)) (l₁ := ([((p0a 0), .inr (4, [.int (w8 0 0), .int (w8 0 1), .ref (p0a 3), .ref (p0a 4), .ref (p0a 5), .ref (p0a 6), .ref (p0a 7), .ref (p0a 8), .ref (p0a 9), .ref (p0a 10), .ref (p0a 11), .ref (p0a 12), .ref (p0a 13), .ref (p0a 14), .ref (p0a 15), .ref (p0a 16), .ref (p0a 17), .int (w8 0 17), .ref ra10, .ref (p0a 20), .ref (p0a 21)])), ((p0a 4), .inl ((p0k 4), 60, .inl (w8 4))), ((p0a 5), .inl ((p0k 5), 60, .inl (w8 5))), ((p0a 6), .inl ((p0k 6), 60, .inl (w8 6))), ((p0a 7), .inl ((p0k 7), 60, .inl (w8 7))), ((p0a 8), .inl ((p0k 8), 60, .inl (w8 8))), ((p0a 9), .inl ((p0k 9), 60, .inl (w8 9))), ((p0a 10), .inl ((p0k 10), 60, .inl (w8 10))), ((p0a 11), .inl ((p0k 11), 60, .inl (w8 11))), ((p0a 12), .inl ((p0k 12), 60, .inl (w8 12))), ((p0a 13), .inl ((p0k 13), 60, .inl (w8 13))), ((p0a 14), .inl ((p0k 14), 61, .inl (w8 14))), ((p0a 15), .inl ((p0k 15), 120, .inl (w8 15))), ((p0a 16), .inl ((p0k 16), 60, .inr (.inl (p0l 16)))), ((p0a 17), .inl ((p0k 17), 60, .inr (.inl (p0l 17)))), (ra10, .inl (z9, (n7 19), .inl (w8 19)))] : va_W)) (l₂ := ([((p0a 21), .inl ((p0k 21), (n7 21), .inl (w8 21)))] : va_W)))))
    have hK2 : va_K (dC, dI) cls (List.flatten ([[((p0k 20), .int)], [((p0k 4), .int), ((p0k 5), .int), ((p0k 6), .int), ((p0k 7), .int), ((p0k 8), .int), ((p0k 9), .int), ((p0k 10), .int), ((p0k 11), .int), ((p0k 12), .int), ((p0k 13), .int), ((p0k 14), .int), ((p0k 15), .int), ((p0k 16), .long), ((p0k 17), .long), (z9, .int), ((p0k 21), .int)]] : List (List (ClassId × FieldType)))) s := vK_perm hK ((bP (List.Perm.refl _)).trans (List.Perm.append_right _ (List.perm_middle (a := (((p0k 20), .int) : ClassId × FieldType)) (l₁ := ([((p0k 4), .int), ((p0k 5), .int), ((p0k 6), .int), ((p0k 7), .int), ((p0k 8), .int), ((p0k 9), .int), ((p0k 10), .int), ((p0k 11), .int), ((p0k 12), .int), ((p0k 13), .int), ((p0k 14), .int), ((p0k 15), .int), ((p0k 16), .long), ((p0k 17), .long), (z9, .int)] : List (ClassId × FieldType))) (l₂ := ([((p0k 21), .int)] : List (ClassId × FieldType))))))
    have hPx : va_P (dC, dI) cls ((List.flatten ([[((p0a 20), .inl ((p0k 20), (n7 20), .inl (w8 20)))]] : List va_W)) ++ (List.flatten ([[((p0a 0), .inr (4, [.int (w8 0 0), .int (w8 0 1), .ref (p0a 3), .ref (p0a 4), .ref (p0a 5), .ref (p0a 6), .ref (p0a 7), .ref (p0a 8), .ref (p0a 9), .ref (p0a 10), .ref (p0a 11), .ref (p0a 12), .ref (p0a 13), .ref (p0a 14), .ref (p0a 15), .ref (p0a 16), .ref (p0a 17), .int (w8 0 17), .ref ra10, .ref (p0a 20), .ref (p0a 21)])), ((p0a 4), .inl ((p0k 4), 60, .inl (w8 4))), ((p0a 5), .inl ((p0k 5), 60, .inl (w8 5))), ((p0a 6), .inl ((p0k 6), 60, .inl (w8 6))), ((p0a 7), .inl ((p0k 7), 60, .inl (w8 7))), ((p0a 8), .inl ((p0k 8), 60, .inl (w8 8))), ((p0a 9), .inl ((p0k 9), 60, .inl (w8 9))), ((p0a 10), .inl ((p0k 10), 60, .inl (w8 10))), ((p0a 11), .inl ((p0k 11), 60, .inl (w8 11))), ((p0a 12), .inl ((p0k 12), 60, .inl (w8 12))), ((p0a 13), .inl ((p0k 13), 60, .inl (w8 13))), ((p0a 14), .inl ((p0k 14), 61, .inl (w8 14))), ((p0a 15), .inl ((p0k 15), 120, .inl (w8 15))), ((p0a 16), .inl ((p0k 16), 60, .inr (.inl (p0l 16)))), ((p0a 17), .inl ((p0k 17), 60, .inr (.inl (p0l 17)))), (ra10, .inl (z9, (n7 19), .inl (w8 19))), ((p0a 21), .inl ((p0k 21), (n7 21), .inl (w8 21)))]] : List va_W))) H := vP_fa (vP_perm hP2 (bP (List.Perm.refl _)))
    have hDx : va_D A ((List.flatten ([[((p0a 20), .inl ((p0k 20), (n7 20), .inl (w8 20)))]] : List va_W)) ++ (List.flatten ([[((p0a 0), .inr (4, [.int (w8 0 0), .int (w8 0 1), .ref (p0a 3), .ref (p0a 4), .ref (p0a 5), .ref (p0a 6), .ref (p0a 7), .ref (p0a 8), .ref (p0a 9), .ref (p0a 10), .ref (p0a 11), .ref (p0a 12), .ref (p0a 13), .ref (p0a 14), .ref (p0a 15), .ref (p0a 16), .ref (p0a 17), .int (w8 0 17), .ref ra10, .ref (p0a 20), .ref (p0a 21)])), ((p0a 4), .inl ((p0k 4), 60, .inl (w8 4))), ((p0a 5), .inl ((p0k 5), 60, .inl (w8 5))), ((p0a 6), .inl ((p0k 6), 60, .inl (w8 6))), ((p0a 7), .inl ((p0k 7), 60, .inl (w8 7))), ((p0a 8), .inl ((p0k 8), 60, .inl (w8 8))), ((p0a 9), .inl ((p0k 9), 60, .inl (w8 9))), ((p0a 10), .inl ((p0k 10), 60, .inl (w8 10))), ((p0a 11), .inl ((p0k 11), 60, .inl (w8 11))), ((p0a 12), .inl ((p0k 12), 60, .inl (w8 12))), ((p0a 13), .inl ((p0k 13), 60, .inl (w8 13))), ((p0a 14), .inl ((p0k 14), 61, .inl (w8 14))), ((p0a 15), .inl ((p0k 15), 120, .inl (w8 15))), ((p0a 16), .inl ((p0k 16), 60, .inr (.inl (p0l 16)))), ((p0a 17), .inl ((p0k 17), 60, .inr (.inl (p0l 17)))), (ra10, .inl (z9, (n7 19), .inl (w8 19))), ((p0a 21), .inl ((p0k 21), (n7 21), .inl (w8 21)))]] : List va_W))) := vD_fa (vD_perm hD2 (bP (List.Perm.refl _)))
    have hKx : va_K (dC, dI) cls ((List.flatten ([[((p0k 20), .int)]] : List (List (ClassId × FieldType)))) ++ (List.flatten ([[((p0k 4), .int), ((p0k 5), .int), ((p0k 6), .int), ((p0k 7), .int), ((p0k 8), .int), ((p0k 9), .int), ((p0k 10), .int), ((p0k 11), .int), ((p0k 12), .int), ((p0k 13), .int), ((p0k 14), .int), ((p0k 15), .int), ((p0k 16), .long), ((p0k 17), .long), (z9, .int), ((p0k 21), .int)]] : List (List (ClassId × FieldType))))) s := vK_fa (vK_perm hK2 (bP (List.Perm.refl _)))
    have hPc := vP_l hPx
    have hDc := vD_l hDx
    have hKc := vK_l hKx
    have hFc := vfree hDx hS hA
    refine va_callr (va_runSN (As := [.ref (p0a 20), .int ((w8 0 17) + 1)]) (rest := [.ref (p0a 0)]) ⟨hx, hb, hml, hown, hts⟩ (kX11_atLeast l dC dI (p0a := (p0a 20)) (p0k := (p0k 20)) (p0n := (n7 20)) (p0f := (w8 20)) (p1 := ((w8 0 17) + 1)) (sz := _) (o := o_12) (hrun := hc_12)) ⟨(va_cnB 2 hts (gi_z qw128) rfl rfl rfl (hE.nw (List.mem_append_right _ (tbl_6 (i := 97) rfl)) rfl) (hts _ qw129) (by decide +kernel) ⟨Nat.le_of_ble_eq_true rfl, Nat.le_of_ble_eq_true rfl⟩), (hts _ qw130), trivial⟩ ⟨PRE.blind, PRE.of hE hS hFc hPc hKc hDc⟩ rfl rfl hl.1 rfl (lv_room (Nat.le_of_ble_eq_true rfl)) dX1_addPhi_40 ⟨(show (hcX1 p0n n7) + (lgP o_12.1 - lgP (n7 20)) ≤ (hcX1 p0n (o.2.2)) from by have q0 := gsX1 hg_p0 hst16 hgn_p0; have q5 := gcX1_20 (n := n7) (mo_fX11_atLeast hc_12); rw [← en13] at q5; omega), (show (3 * (gcX1 p0n n7)) + (3 * (o_12.1 - (n7 20))) ≤ (3 * (gcX1 p0n (o.2.2))) from by have q0 := gsX1 hg_p0 hst16 hgn_p0; have q5 := gcX1_20 (n := n7) (mo_fX11_atLeast hc_12); rw [← en13] at q5; omega)⟩) hS (fun q _ h => hFc q h) hFc (fun u ra16 t H locs ht hvm hw hB hz1 hk1 hS => ?_)
    obtain ⟨z15, hB⟩ := hB
    obtain ⟨b1, b2, b3⟩ := hB
    rw [ht] at b1
    obtain ⟨hP, hD, hK⟩ := JOINC (wc := (List.flatten ([[((p0a 20), .inl ((p0k 20), (n7 20), .inl (w8 20)))]] : List va_W))) (wr := (List.flatten ([[((p0a 0), .inr (4, [.int (w8 0 0), .int (w8 0 1), .ref (p0a 3), .ref (p0a 4), .ref (p0a 5), .ref (p0a 6), .ref (p0a 7), .ref (p0a 8), .ref (p0a 9), .ref (p0a 10), .ref (p0a 11), .ref (p0a 12), .ref (p0a 13), .ref (p0a 14), .ref (p0a 15), .ref (p0a 16), .ref (p0a 17), .int (w8 0 17), .ref ra10, .ref (p0a 20), .ref (p0a 21)])), ((p0a 4), .inl ((p0k 4), 60, .inl (w8 4))), ((p0a 5), .inl ((p0k 5), 60, .inl (w8 5))), ((p0a 6), .inl ((p0k 6), 60, .inl (w8 6))), ((p0a 7), .inl ((p0k 7), 60, .inl (w8 7))), ((p0a 8), .inl ((p0k 8), 60, .inl (w8 8))), ((p0a 9), .inl ((p0k 9), 60, .inl (w8 9))), ((p0a 10), .inl ((p0k 10), 60, .inl (w8 10))), ((p0a 11), .inl ((p0k 11), 60, .inl (w8 11))), ((p0a 12), .inl ((p0k 12), 60, .inl (w8 12))), ((p0a 13), .inl ((p0k 13), 60, .inl (w8 13))), ((p0a 14), .inl ((p0k 14), 61, .inl (w8 14))), ((p0a 15), .inl ((p0k 15), 120, .inl (w8 15))), ((p0a 16), .inl ((p0k 16), 60, .inr (.inl (p0l 16)))), ((p0a 17), .inl ((p0k 17), 60, .inr (.inl (p0l 17)))), (ra10, .inl (z9, (n7 19), .inl (w8 19))), ((p0a 21), .inl ((p0k 21), (n7 21), .inl (w8 21)))]] : List va_W))) (w1 := [(ra16, .inl (z15, o_12.1, .inl o_12.2))]) (t1 := [(z15, .int)]) hPx hDx hKx hk1 hFc b1 (va_K.moved hvm.symm b2) b3
    refine va_put (D := (dC, dI)) (ci := 4) (v := .ref ra16) (ty := .array .int) (C := RX1) (T := TX1) (N := 21) hx hb hts i_X1 tyX1 tyX1_ok nmX1 hown hK hP hD hS 1 rfl rfl 19 (by decide) (hts _ qw121) (fun _ h9 => h9) rfl (by decide +kernel) rfl rfl (Nat.le_of_ble_eq_true rfl) dX1_addPhi_43 (fun H locs hP hD hS => ?_)
    have hP : va_P (dC, dI) cls (List.flatten ([[(ra16, .inl (z15, (n13 20), .inl (w14 20)))], [((p0a 0), .inr (4, [.int (w14 0 0), .int (w14 0 1), .ref (p0a 3), .ref (p0a 4), .ref (p0a 5), .ref (p0a 6), .ref (p0a 7), .ref (p0a 8), .ref (p0a 9), .ref (p0a 10), .ref (p0a 11), .ref (p0a 12), .ref (p0a 13), .ref (p0a 14), .ref (p0a 15), .ref (p0a 16), .ref (p0a 17), .int (w14 0 17), .ref ra10, .ref ra16, .ref (p0a 21)])), ((p0a 4), .inl ((p0k 4), 60, .inl (w14 4))), ((p0a 5), .inl ((p0k 5), 60, .inl (w14 5))), ((p0a 6), .inl ((p0k 6), 60, .inl (w14 6))), ((p0a 7), .inl ((p0k 7), 60, .inl (w14 7))), ((p0a 8), .inl ((p0k 8), 60, .inl (w14 8))), ((p0a 9), .inl ((p0k 9), 60, .inl (w14 9))), ((p0a 10), .inl ((p0k 10), 60, .inl (w14 10))), ((p0a 11), .inl ((p0k 11), 60, .inl (w14 11))), ((p0a 12), .inl ((p0k 12), 60, .inl (w14 12))), ((p0a 13), .inl ((p0k 13), 60, .inl (w14 13))), ((p0a 14), .inl ((p0k 14), 61, .inl (w14 14))), ((p0a 15), .inl ((p0k 15), 120, .inl (w14 15))), ((p0a 16), .inl ((p0k 16), 60, .inr (.inl (p0l 16)))), ((p0a 17), .inl ((p0k 17), 60, .inr (.inl (p0l 17)))), (ra10, .inl (z9, (n13 19), .inl (w14 19))), ((p0a 21), .inl ((p0k 21), (n13 21), .inl (w14 21)))]] : List va_W)) H := by rw [en13, ew14]; exact hP
    have hD : va_D A (List.flatten ([[(ra16, .inl (z15, (n13 20), .inl (w14 20)))], [((p0a 0), .inr (4, [.int (w14 0 0), .int (w14 0 1), .ref (p0a 3), .ref (p0a 4), .ref (p0a 5), .ref (p0a 6), .ref (p0a 7), .ref (p0a 8), .ref (p0a 9), .ref (p0a 10), .ref (p0a 11), .ref (p0a 12), .ref (p0a 13), .ref (p0a 14), .ref (p0a 15), .ref (p0a 16), .ref (p0a 17), .int (w14 0 17), .ref ra10, .ref ra16, .ref (p0a 21)])), ((p0a 4), .inl ((p0k 4), 60, .inl (w14 4))), ((p0a 5), .inl ((p0k 5), 60, .inl (w14 5))), ((p0a 6), .inl ((p0k 6), 60, .inl (w14 6))), ((p0a 7), .inl ((p0k 7), 60, .inl (w14 7))), ((p0a 8), .inl ((p0k 8), 60, .inl (w14 8))), ((p0a 9), .inl ((p0k 9), 60, .inl (w14 9))), ((p0a 10), .inl ((p0k 10), 60, .inl (w14 10))), ((p0a 11), .inl ((p0k 11), 60, .inl (w14 11))), ((p0a 12), .inl ((p0k 12), 60, .inl (w14 12))), ((p0a 13), .inl ((p0k 13), 60, .inl (w14 13))), ((p0a 14), .inl ((p0k 14), 61, .inl (w14 14))), ((p0a 15), .inl ((p0k 15), 120, .inl (w14 15))), ((p0a 16), .inl ((p0k 16), 60, .inr (.inl (p0l 16)))), ((p0a 17), .inl ((p0k 17), 60, .inr (.inl (p0l 17)))), (ra10, .inl (z9, (n13 19), .inl (w14 19))), ((p0a 21), .inl ((p0k 21), (n13 21), .inl (w14 21)))]] : List va_W)) := by rw [en13, ew14]; exact hD
    have hK : va_K (dC, dI) cls (List.flatten ([[(z15, .int)], [((p0k 4), .int), ((p0k 5), .int), ((p0k 6), .int), ((p0k 7), .int), ((p0k 8), .int), ((p0k 9), .int), ((p0k 10), .int), ((p0k 11), .int), ((p0k 12), .int), ((p0k 13), .int), ((p0k 14), .int), ((p0k 15), .int), ((p0k 16), .long), ((p0k 17), .long), (z9, .int), ((p0k 21), .int)]] : List (List (ClassId × FieldType)))) s := hK
    have hP3 : va_P (dC, dI) cls (List.flatten ([(oX1 (p0a 0) (st1 (st1 p0a 19 ra10) 20 ra16) (st1 (st1 p0k 19 z9) 20 z15) n13 w14 p0l)] : List va_W)) H := vP_perm hP ((bP (List.Perm.refl _)).trans (List.Perm.append_right _ (List.perm_middle (a := ((ra16, .inl (z15, (n13 20), .inl (w14 20))) : Nat × va_E)) (l₁ := ([((p0a 0), .inr (4, [.int (w14 0 0), .int (w14 0 1), .ref (p0a 3), .ref (p0a 4), .ref (p0a 5), .ref (p0a 6), .ref (p0a 7), .ref (p0a 8), .ref (p0a 9), .ref (p0a 10), .ref (p0a 11), .ref (p0a 12), .ref (p0a 13), .ref (p0a 14), .ref (p0a 15), .ref (p0a 16), .ref (p0a 17), .int (w14 0 17), .ref ra10, .ref ra16, .ref (p0a 21)])), ((p0a 4), .inl ((p0k 4), 60, .inl (w14 4))), ((p0a 5), .inl ((p0k 5), 60, .inl (w14 5))), ((p0a 6), .inl ((p0k 6), 60, .inl (w14 6))), ((p0a 7), .inl ((p0k 7), 60, .inl (w14 7))), ((p0a 8), .inl ((p0k 8), 60, .inl (w14 8))), ((p0a 9), .inl ((p0k 9), 60, .inl (w14 9))), ((p0a 10), .inl ((p0k 10), 60, .inl (w14 10))), ((p0a 11), .inl ((p0k 11), 60, .inl (w14 11))), ((p0a 12), .inl ((p0k 12), 60, .inl (w14 12))), ((p0a 13), .inl ((p0k 13), 60, .inl (w14 13))), ((p0a 14), .inl ((p0k 14), 61, .inl (w14 14))), ((p0a 15), .inl ((p0k 15), 120, .inl (w14 15))), ((p0a 16), .inl ((p0k 16), 60, .inr (.inl (p0l 16)))), ((p0a 17), .inl ((p0k 17), 60, .inr (.inl (p0l 17)))), (ra10, .inl (z9, (n13 19), .inl (w14 19)))] : va_W)) (l₂ := ([((p0a 21), .inl ((p0k 21), (n13 21), .inl (w14 21)))] : va_W))).symm))
    have hD3 : va_D A (List.flatten ([(oX1 (p0a 0) (st1 (st1 p0a 19 ra10) 20 ra16) (st1 (st1 p0k 19 z9) 20 z15) n13 w14 p0l)] : List va_W)) := vD_perm hD ((bP (List.Perm.refl _)).trans (List.Perm.append_right _ (List.perm_middle (a := ((ra16, .inl (z15, (n13 20), .inl (w14 20))) : Nat × va_E)) (l₁ := ([((p0a 0), .inr (4, [.int (w14 0 0), .int (w14 0 1), .ref (p0a 3), .ref (p0a 4), .ref (p0a 5), .ref (p0a 6), .ref (p0a 7), .ref (p0a 8), .ref (p0a 9), .ref (p0a 10), .ref (p0a 11), .ref (p0a 12), .ref (p0a 13), .ref (p0a 14), .ref (p0a 15), .ref (p0a 16), .ref (p0a 17), .int (w14 0 17), .ref ra10, .ref ra16, .ref (p0a 21)])), ((p0a 4), .inl ((p0k 4), 60, .inl (w14 4))), ((p0a 5), .inl ((p0k 5), 60, .inl (w14 5))), ((p0a 6), .inl ((p0k 6), 60, .inl (w14 6))), ((p0a 7), .inl ((p0k 7), 60, .inl (w14 7))), ((p0a 8), .inl ((p0k 8), 60, .inl (w14 8))), ((p0a 9), .inl ((p0k 9), 60, .inl (w14 9))), ((p0a 10), .inl ((p0k 10), 60, .inl (w14 10))), ((p0a 11), .inl ((p0k 11), 60, .inl (w14 11))), ((p0a 12), .inl ((p0k 12), 60, .inl (w14 12))), ((p0a 13), .inl ((p0k 13), 60, .inl (w14 13))), ((p0a 14), .inl ((p0k 14), 61, .inl (w14 14))), ((p0a 15), .inl ((p0k 15), 120, .inl (w14 15))), ((p0a 16), .inl ((p0k 16), 60, .inr (.inl (p0l 16)))), ((p0a 17), .inl ((p0k 17), 60, .inr (.inl (p0l 17)))), (ra10, .inl (z9, (n13 19), .inl (w14 19)))] : va_W)) (l₂ := ([((p0a 21), .inl ((p0k 21), (n13 21), .inl (w14 21)))] : va_W))).symm))
    have hK3 : va_K (dC, dI) cls (List.flatten ([(tX1 (st1 (st1 p0k 19 z9) 20 z15))] : List (List (ClassId × FieldType)))) s := vK_perm hK ((bP (List.Perm.refl _)).trans (List.Perm.append_right _ (List.perm_middle (a := ((z15, .int) : ClassId × FieldType)) (l₁ := ([((p0k 4), .int), ((p0k 5), .int), ((p0k 6), .int), ((p0k 7), .int), ((p0k 8), .int), ((p0k 9), .int), ((p0k 10), .int), ((p0k 11), .int), ((p0k 12), .int), ((p0k 13), .int), ((p0k 14), .int), ((p0k 15), .int), ((p0k 16), .long), ((p0k 17), .long), (z9, .int)] : List (ClassId × FieldType))) (l₂ := ([((p0k 21), .int)] : List (ClassId × FieldType)))).symm))
    have hP : va_P (dC, dI) cls (List.flatten ([(oX1 (p0a 0) (st1 (st1 p0a 19 ra10) 20 ra16) (st1 (st1 p0k 19 z9) 20 z15) n13 w14 p0l)] : List va_W)) H := vP_perm hP3 (bP (List.Perm.refl _))
    have hD : va_D A (List.flatten ([(oX1 (p0a 0) (st1 (st1 p0a 19 ra10) 20 ra16) (st1 (st1 p0k 19 z9) 20 z15) n13 w14 p0l)] : List va_W)) := vD_perm hD3 (bP (List.Perm.refl _))
    have hK : va_K (dC, dI) cls (List.flatten ([(tX1 (st1 (st1 p0k 19 z9) 20 z15))] : List (List (ClassId × FieldType)))) s := vK_perm hK3 (bP (List.Perm.refl _))
    refine W.widen (k := (hcX1 p0n n13)) (n := (3 * (gcX1 p0n n13))) (by have a0 := gcX1_add hg_p0 hst16; have q5 := gcX1_20 (n := n7) (mo_fX11_atLeast hc_12); rw [← en13] at q5; omega) (by have a0 := gcX1_add hg_p0 hst16; have q5 := gcX1_20 (n := n7) (mo_fX11_atLeast hc_12); rw [← en13] at q5; omega) ?_
    have hg_p0 : glX1 p0n n13 := glX1_tr hg_p0 hst16
    unfold fX1_addPhi_G46_17 at hrun
    refine lv_aload_n hx hb dX1_addPhi_46 rfl (lv_at hl 0 rfl) ?_
    refine lv_aload_n hx hb dX1_addPhi_47 rfl (lv_at hl 0 rfl) ?_
    refine va_get (D := (dC, dI)) (ci := 4) (v := .ref (p0a 21)) (C := RX1) (T := TX1) (N := 21) hx hb hts i_X1 hown hK hP 0 rfl rfl 20 (by decide) (hts _ qw131) (fun _ h9 => h9) rfl dX1_addPhi_48 ?_
    refine lv_aload_n hx hb dX1_addPhi_51 rfl (lv_at hl 0 rfl) ?_
    refine va_get (D := (dC, dI)) (ci := 4) (v := .int (w14 0 17)) (C := RX1) (T := TX1) (N := 21) hx hb hts i_X1 hown hK hP 0 rfl rfl 17 (by decide) (hts _ qw119) (fun _ h9 => h9) rfl dX1_addPhi_52 ?_
    refine lv_iconst (v := 1) hx hb dX1_addPhi_55 (by decide) ?_
    refine lv_iadd hx hb dX1_addPhi_56 ?_
    refine lv_bipush (v := 60) hx hb dX1_addPhi_57 (by decide) ?_
    refine lv_imul hx hb dX1_addPhi_59 ?_
    obtain ⟨o_18, hc_18, hrun⟩ := bnd9 hrun
    obtain ⟨n19, en19, hrun⟩ := let9 hrun
    obtain ⟨w20, ew20, hrun⟩ := let9 hrun
    have hst22 : glX1 n13 n19 := by rw [en19]; exact glX1_21 (mo_fX11_atLeast hc_18)
    have hgn_p0 : glX1 n19 (o.2.2) := (mo_fX1_addPhi_G66_23 hrun)
    have hP2 : va_P (dC, dI) cls (List.flatten ([[((p0a 21), .inl ((p0k 21), (n13 21), .inl (w14 21)))], [((p0a 0), .inr (4, [.int (w14 0 0), .int (w14 0 1), .ref (p0a 3), .ref (p0a 4), .ref (p0a 5), .ref (p0a 6), .ref (p0a 7), .ref (p0a 8), .ref (p0a 9), .ref (p0a 10), .ref (p0a 11), .ref (p0a 12), .ref (p0a 13), .ref (p0a 14), .ref (p0a 15), .ref (p0a 16), .ref (p0a 17), .int (w14 0 17), .ref ra10, .ref ra16, .ref (p0a 21)])), ((p0a 4), .inl ((p0k 4), 60, .inl (w14 4))), ((p0a 5), .inl ((p0k 5), 60, .inl (w14 5))), ((p0a 6), .inl ((p0k 6), 60, .inl (w14 6))), ((p0a 7), .inl ((p0k 7), 60, .inl (w14 7))), ((p0a 8), .inl ((p0k 8), 60, .inl (w14 8))), ((p0a 9), .inl ((p0k 9), 60, .inl (w14 9))), ((p0a 10), .inl ((p0k 10), 60, .inl (w14 10))), ((p0a 11), .inl ((p0k 11), 60, .inl (w14 11))), ((p0a 12), .inl ((p0k 12), 60, .inl (w14 12))), ((p0a 13), .inl ((p0k 13), 60, .inl (w14 13))), ((p0a 14), .inl ((p0k 14), 61, .inl (w14 14))), ((p0a 15), .inl ((p0k 15), 120, .inl (w14 15))), ((p0a 16), .inl ((p0k 16), 60, .inr (.inl (p0l 16)))), ((p0a 17), .inl ((p0k 17), 60, .inr (.inl (p0l 17)))), (ra10, .inl (z9, (n13 19), .inl (w14 19))), (ra16, .inl (z15, (n13 20), .inl (w14 20)))]] : List va_W)) H := vP_perm hP ((bP (List.Perm.refl _)).trans (List.Perm.append_right _ (List.perm_middle (a := (((p0a 21), .inl ((p0k 21), (n13 21), .inl (w14 21))) : Nat × va_E)) (l₁ := ([((p0a 0), .inr (4, [.int (w14 0 0), .int (w14 0 1), .ref (p0a 3), .ref (p0a 4), .ref (p0a 5), .ref (p0a 6), .ref (p0a 7), .ref (p0a 8), .ref (p0a 9), .ref (p0a 10), .ref (p0a 11), .ref (p0a 12), .ref (p0a 13), .ref (p0a 14), .ref (p0a 15), .ref (p0a 16), .ref (p0a 17), .int (w14 0 17), .ref ra10, .ref ra16, .ref (p0a 21)])), ((p0a 4), .inl ((p0k 4), 60, .inl (w14 4))), ((p0a 5), .inl ((p0k 5), 60, .inl (w14 5))), ((p0a 6), .inl ((p0k 6), 60, .inl (w14 6))), ((p0a 7), .inl ((p0k 7), 60, .inl (w14 7))), ((p0a 8), .inl ((p0k 8), 60, .inl (w14 8))), ((p0a 9), .inl ((p0k 9), 60, .inl (w14 9))), ((p0a 10), .inl ((p0k 10), 60, .inl (w14 10))), ((p0a 11), .inl ((p0k 11), 60, .inl (w14 11))), ((p0a 12), .inl ((p0k 12), 60, .inl (w14 12))), ((p0a 13), .inl ((p0k 13), 60, .inl (w14 13))), ((p0a 14), .inl ((p0k 14), 61, .inl (w14 14))), ((p0a 15), .inl ((p0k 15), 120, .inl (w14 15))), ((p0a 16), .inl ((p0k 16), 60, .inr (.inl (p0l 16)))), ((p0a 17), .inl ((p0k 17), 60, .inr (.inl (p0l 17)))), (ra10, .inl (z9, (n13 19), .inl (w14 19))), (ra16, .inl (z15, (n13 20), .inl (w14 20)))] : va_W)) (l₂ := ([] : va_W)))))
    have hD2 : va_D A (List.flatten ([[((p0a 21), .inl ((p0k 21), (n13 21), .inl (w14 21)))], [((p0a 0), .inr (4, [.int (w14 0 0), .int (w14 0 1), .ref (p0a 3), .ref (p0a 4), .ref (p0a 5), .ref (p0a 6), .ref (p0a 7), .ref (p0a 8), .ref (p0a 9), .ref (p0a 10), .ref (p0a 11), .ref (p0a 12), .ref (p0a 13), .ref (p0a 14), .ref (p0a 15), .ref (p0a 16), .ref (p0a 17), .int (w14 0 17), .ref ra10, .ref ra16, .ref (p0a 21)])), ((p0a 4), .inl ((p0k 4), 60, .inl (w14 4))), ((p0a 5), .inl ((p0k 5), 60, .inl (w14 5))), ((p0a 6), .inl ((p0k 6), 60, .inl (w14 6))), ((p0a 7), .inl ((p0k 7), 60, .inl (w14 7))), ((p0a 8), .inl ((p0k 8), 60, .inl (w14 8))), ((p0a 9), .inl ((p0k 9), 60, .inl (w14 9))), ((p0a 10), .inl ((p0k 10), 60, .inl (w14 10))), ((p0a 11), .inl ((p0k 11), 60, .inl (w14 11))), ((p0a 12), .inl ((p0k 12), 60, .inl (w14 12))), ((p0a 13), .inl ((p0k 13), 60, .inl (w14 13))), ((p0a 14), .inl ((p0k 14), 61, .inl (w14 14))), ((p0a 15), .inl ((p0k 15), 120, .inl (w14 15))), ((p0a 16), .inl ((p0k 16), 60, .inr (.inl (p0l 16)))), ((p0a 17), .inl ((p0k 17), 60, .inr (.inl (p0l 17)))), (ra10, .inl (z9, (n13 19), .inl (w14 19))), (ra16, .inl (z15, (n13 20), .inl (w14 20)))]] : List va_W)) := vD_perm hD ((bP (List.Perm.refl _)).trans (List.Perm.append_right _ (List.perm_middle (a := (((p0a 21), .inl ((p0k 21), (n13 21), .inl (w14 21))) : Nat × va_E)) (l₁ := ([((p0a 0), .inr (4, [.int (w14 0 0), .int (w14 0 1), .ref (p0a 3), .ref (p0a 4), .ref (p0a 5), .ref (p0a 6), .ref (p0a 7), .ref (p0a 8), .ref (p0a 9), .ref (p0a 10), .ref (p0a 11), .ref (p0a 12), .ref (p0a 13), .ref (p0a 14), .ref (p0a 15), .ref (p0a 16), .ref (p0a 17), .int (w14 0 17), .ref ra10, .ref ra16, .ref (p0a 21)])), ((p0a 4), .inl ((p0k 4), 60, .inl (w14 4))), ((p0a 5), .inl ((p0k 5), 60, .inl (w14 5))), ((p0a 6), .inl ((p0k 6), 60, .inl (w14 6))), ((p0a 7), .inl ((p0k 7), 60, .inl (w14 7))), ((p0a 8), .inl ((p0k 8), 60, .inl (w14 8))), ((p0a 9), .inl ((p0k 9), 60, .inl (w14 9))), ((p0a 10), .inl ((p0k 10), 60, .inl (w14 10))), ((p0a 11), .inl ((p0k 11), 60, .inl (w14 11))), ((p0a 12), .inl ((p0k 12), 60, .inl (w14 12))), ((p0a 13), .inl ((p0k 13), 60, .inl (w14 13))), ((p0a 14), .inl ((p0k 14), 61, .inl (w14 14))), ((p0a 15), .inl ((p0k 15), 120, .inl (w14 15))), ((p0a 16), .inl ((p0k 16), 60, .inr (.inl (p0l 16)))), ((p0a 17), .inl ((p0k 17), 60, .inr (.inl (p0l 17)))), (ra10, .inl (z9, (n13 19), .inl (w14 19))), (ra16, .inl (z15, (n13 20), .inl (w14 20)))] : va_W)) (l₂ := ([] : va_W)))))
    have hK2 : va_K (dC, dI) cls (List.flatten ([[((p0k 21), .int)], [((p0k 4), .int), ((p0k 5), .int), ((p0k 6), .int), ((p0k 7), .int), ((p0k 8), .int), ((p0k 9), .int), ((p0k 10), .int), ((p0k 11), .int), ((p0k 12), .int), ((p0k 13), .int), ((p0k 14), .int), ((p0k 15), .int), ((p0k 16), .long), ((p0k 17), .long), (z9, .int), (z15, .int)]] : List (List (ClassId × FieldType)))) s := vK_perm hK ((bP (List.Perm.refl _)).trans (List.Perm.append_right _ (List.perm_middle (a := (((p0k 21), .int) : ClassId × FieldType)) (l₁ := ([((p0k 4), .int), ((p0k 5), .int), ((p0k 6), .int), ((p0k 7), .int), ((p0k 8), .int), ((p0k 9), .int), ((p0k 10), .int), ((p0k 11), .int), ((p0k 12), .int), ((p0k 13), .int), ((p0k 14), .int), ((p0k 15), .int), ((p0k 16), .long), ((p0k 17), .long), (z9, .int), (z15, .int)] : List (ClassId × FieldType))) (l₂ := ([] : List (ClassId × FieldType))))))
    have hPx : va_P (dC, dI) cls ((List.flatten ([[((p0a 21), .inl ((p0k 21), (n13 21), .inl (w14 21)))]] : List va_W)) ++ (List.flatten ([[((p0a 0), .inr (4, [.int (w14 0 0), .int (w14 0 1), .ref (p0a 3), .ref (p0a 4), .ref (p0a 5), .ref (p0a 6), .ref (p0a 7), .ref (p0a 8), .ref (p0a 9), .ref (p0a 10), .ref (p0a 11), .ref (p0a 12), .ref (p0a 13), .ref (p0a 14), .ref (p0a 15), .ref (p0a 16), .ref (p0a 17), .int (w14 0 17), .ref ra10, .ref ra16, .ref (p0a 21)])), ((p0a 4), .inl ((p0k 4), 60, .inl (w14 4))), ((p0a 5), .inl ((p0k 5), 60, .inl (w14 5))), ((p0a 6), .inl ((p0k 6), 60, .inl (w14 6))), ((p0a 7), .inl ((p0k 7), 60, .inl (w14 7))), ((p0a 8), .inl ((p0k 8), 60, .inl (w14 8))), ((p0a 9), .inl ((p0k 9), 60, .inl (w14 9))), ((p0a 10), .inl ((p0k 10), 60, .inl (w14 10))), ((p0a 11), .inl ((p0k 11), 60, .inl (w14 11))), ((p0a 12), .inl ((p0k 12), 60, .inl (w14 12))), ((p0a 13), .inl ((p0k 13), 60, .inl (w14 13))), ((p0a 14), .inl ((p0k 14), 61, .inl (w14 14))), ((p0a 15), .inl ((p0k 15), 120, .inl (w14 15))), ((p0a 16), .inl ((p0k 16), 60, .inr (.inl (p0l 16)))), ((p0a 17), .inl ((p0k 17), 60, .inr (.inl (p0l 17)))), (ra10, .inl (z9, (n13 19), .inl (w14 19))), (ra16, .inl (z15, (n13 20), .inl (w14 20)))]] : List va_W))) H := vP_fa (vP_perm hP2 (bP (List.Perm.refl _)))
    have hDx : va_D A ((List.flatten ([[((p0a 21), .inl ((p0k 21), (n13 21), .inl (w14 21)))]] : List va_W)) ++ (List.flatten ([[((p0a 0), .inr (4, [.int (w14 0 0), .int (w14 0 1), .ref (p0a 3), .ref (p0a 4), .ref (p0a 5), .ref (p0a 6), .ref (p0a 7), .ref (p0a 8), .ref (p0a 9), .ref (p0a 10), .ref (p0a 11), .ref (p0a 12), .ref (p0a 13), .ref (p0a 14), .ref (p0a 15), .ref (p0a 16), .ref (p0a 17), .int (w14 0 17), .ref ra10, .ref ra16, .ref (p0a 21)])), ((p0a 4), .inl ((p0k 4), 60, .inl (w14 4))), ((p0a 5), .inl ((p0k 5), 60, .inl (w14 5))), ((p0a 6), .inl ((p0k 6), 60, .inl (w14 6))), ((p0a 7), .inl ((p0k 7), 60, .inl (w14 7))), ((p0a 8), .inl ((p0k 8), 60, .inl (w14 8))), ((p0a 9), .inl ((p0k 9), 60, .inl (w14 9))), ((p0a 10), .inl ((p0k 10), 60, .inl (w14 10))), ((p0a 11), .inl ((p0k 11), 60, .inl (w14 11))), ((p0a 12), .inl ((p0k 12), 60, .inl (w14 12))), ((p0a 13), .inl ((p0k 13), 60, .inl (w14 13))), ((p0a 14), .inl ((p0k 14), 61, .inl (w14 14))), ((p0a 15), .inl ((p0k 15), 120, .inl (w14 15))), ((p0a 16), .inl ((p0k 16), 60, .inr (.inl (p0l 16)))), ((p0a 17), .inl ((p0k 17), 60, .inr (.inl (p0l 17)))), (ra10, .inl (z9, (n13 19), .inl (w14 19))), (ra16, .inl (z15, (n13 20), .inl (w14 20)))]] : List va_W))) := vD_fa (vD_perm hD2 (bP (List.Perm.refl _)))
    have hKx : va_K (dC, dI) cls ((List.flatten ([[((p0k 21), .int)]] : List (List (ClassId × FieldType)))) ++ (List.flatten ([[((p0k 4), .int), ((p0k 5), .int), ((p0k 6), .int), ((p0k 7), .int), ((p0k 8), .int), ((p0k 9), .int), ((p0k 10), .int), ((p0k 11), .int), ((p0k 12), .int), ((p0k 13), .int), ((p0k 14), .int), ((p0k 15), .int), ((p0k 16), .long), ((p0k 17), .long), (z9, .int), (z15, .int)]] : List (List (ClassId × FieldType))))) s := vK_fa (vK_perm hK2 (bP (List.Perm.refl _)))
    have hPc := vP_l hPx
    have hDc := vD_l hDx
    have hKc := vK_l hKx
    have hFc := vfree hDx hS hA
    refine va_callr (va_runSN (As := [.ref (p0a 21), .int (((w14 0 17) + 1) * 60)]) (rest := [.ref (p0a 0)]) ⟨hx, hb, hml, hown, hts⟩ (kX11_atLeast l dC dI (p0a := (p0a 21)) (p0k := (p0k 21)) (p0n := (n13 21)) (p0f := (w14 21)) (p1 := (((w14 0 17) + 1) * 60)) (sz := _) (o := o_18) (hrun := hc_18)) ⟨(va_cnB 2 hts (gi_z qw128) rfl rfl rfl (hE.nw (List.mem_append_right _ (tbl_6 (i := 97) rfl)) rfl) (hts _ qw129) (by decide +kernel) ⟨Nat.le_of_ble_eq_true rfl, Nat.le_of_ble_eq_true rfl⟩), (hts _ qw130), trivial⟩ ⟨PRE.blind, PRE.of hE hS hFc hPc hKc hDc⟩ rfl rfl hl.1 rfl (lv_room (Nat.le_of_ble_eq_true rfl)) dX1_addPhi_60 ⟨(show (hcX1 p0n n13) + (lgP o_18.1 - lgP (n13 21)) ≤ (hcX1 p0n (o.2.2)) from by have q0 := gsX1 hg_p0 hst22 hgn_p0; have q5 := gcX1_21 (n := n13) (mo_fX11_atLeast hc_18); rw [← en19] at q5; omega), (show (3 * (gcX1 p0n n13)) + (3 * (o_18.1 - (n13 21))) ≤ (3 * (gcX1 p0n (o.2.2))) from by have q0 := gsX1 hg_p0 hst22 hgn_p0; have q5 := gcX1_21 (n := n13) (mo_fX11_atLeast hc_18); rw [← en19] at q5; omega)⟩) hS (fun q _ h => hFc q h) hFc (fun u ra22 t H locs ht hvm hw hB hz1 hk1 hS => ?_)
    obtain ⟨z21, hB⟩ := hB
    obtain ⟨b1, b2, b3⟩ := hB
    rw [ht] at b1
    obtain ⟨hP, hD, hK⟩ := JOINC (wc := (List.flatten ([[((p0a 21), .inl ((p0k 21), (n13 21), .inl (w14 21)))]] : List va_W))) (wr := (List.flatten ([[((p0a 0), .inr (4, [.int (w14 0 0), .int (w14 0 1), .ref (p0a 3), .ref (p0a 4), .ref (p0a 5), .ref (p0a 6), .ref (p0a 7), .ref (p0a 8), .ref (p0a 9), .ref (p0a 10), .ref (p0a 11), .ref (p0a 12), .ref (p0a 13), .ref (p0a 14), .ref (p0a 15), .ref (p0a 16), .ref (p0a 17), .int (w14 0 17), .ref ra10, .ref ra16, .ref (p0a 21)])), ((p0a 4), .inl ((p0k 4), 60, .inl (w14 4))), ((p0a 5), .inl ((p0k 5), 60, .inl (w14 5))), ((p0a 6), .inl ((p0k 6), 60, .inl (w14 6))), ((p0a 7), .inl ((p0k 7), 60, .inl (w14 7))), ((p0a 8), .inl ((p0k 8), 60, .inl (w14 8))), ((p0a 9), .inl ((p0k 9), 60, .inl (w14 9))), ((p0a 10), .inl ((p0k 10), 60, .inl (w14 10))), ((p0a 11), .inl ((p0k 11), 60, .inl (w14 11))), ((p0a 12), .inl ((p0k 12), 60, .inl (w14 12))), ((p0a 13), .inl ((p0k 13), 60, .inl (w14 13))), ((p0a 14), .inl ((p0k 14), 61, .inl (w14 14))), ((p0a 15), .inl ((p0k 15), 120, .inl (w14 15))), ((p0a 16), .inl ((p0k 16), 60, .inr (.inl (p0l 16)))), ((p0a 17), .inl ((p0k 17), 60, .inr (.inl (p0l 17)))), (ra10, .inl (z9, (n13 19), .inl (w14 19))), (ra16, .inl (z15, (n13 20), .inl (w14 20)))]] : List va_W))) (w1 := [(ra22, .inl (z21, o_18.1, .inl o_18.2))]) (t1 := [(z21, .int)]) hPx hDx hKx hk1 hFc b1 (va_K.moved hvm.symm b2) b3
    refine va_put (D := (dC, dI)) (ci := 4) (v := .ref ra22) (ty := .array .int) (C := RX1) (T := TX1) (N := 21) hx hb hts i_X1 tyX1 tyX1_ok nmX1 hown hK hP hD hS 1 rfl rfl 20 (by decide) (hts _ qw131) (fun _ h9 => h9) rfl (by decide +kernel) rfl rfl (Nat.le_of_ble_eq_true rfl) dX1_addPhi_63 (fun H locs hP hD hS => ?_)
    have hP : va_P (dC, dI) cls (List.flatten ([[(ra22, .inl (z21, (n19 21), .inl (w20 21)))], [((p0a 0), .inr (4, [.int (w20 0 0), .int (w20 0 1), .ref (p0a 3), .ref (p0a 4), .ref (p0a 5), .ref (p0a 6), .ref (p0a 7), .ref (p0a 8), .ref (p0a 9), .ref (p0a 10), .ref (p0a 11), .ref (p0a 12), .ref (p0a 13), .ref (p0a 14), .ref (p0a 15), .ref (p0a 16), .ref (p0a 17), .int (w20 0 17), .ref ra10, .ref ra16, .ref ra22])), ((p0a 4), .inl ((p0k 4), 60, .inl (w20 4))), ((p0a 5), .inl ((p0k 5), 60, .inl (w20 5))), ((p0a 6), .inl ((p0k 6), 60, .inl (w20 6))), ((p0a 7), .inl ((p0k 7), 60, .inl (w20 7))), ((p0a 8), .inl ((p0k 8), 60, .inl (w20 8))), ((p0a 9), .inl ((p0k 9), 60, .inl (w20 9))), ((p0a 10), .inl ((p0k 10), 60, .inl (w20 10))), ((p0a 11), .inl ((p0k 11), 60, .inl (w20 11))), ((p0a 12), .inl ((p0k 12), 60, .inl (w20 12))), ((p0a 13), .inl ((p0k 13), 60, .inl (w20 13))), ((p0a 14), .inl ((p0k 14), 61, .inl (w20 14))), ((p0a 15), .inl ((p0k 15), 120, .inl (w20 15))), ((p0a 16), .inl ((p0k 16), 60, .inr (.inl (p0l 16)))), ((p0a 17), .inl ((p0k 17), 60, .inr (.inl (p0l 17)))), (ra10, .inl (z9, (n19 19), .inl (w20 19))), (ra16, .inl (z15, (n19 20), .inl (w20 20)))]] : List va_W)) H := by rw [en19, ew20]; exact hP
    have hD : va_D A (List.flatten ([[(ra22, .inl (z21, (n19 21), .inl (w20 21)))], [((p0a 0), .inr (4, [.int (w20 0 0), .int (w20 0 1), .ref (p0a 3), .ref (p0a 4), .ref (p0a 5), .ref (p0a 6), .ref (p0a 7), .ref (p0a 8), .ref (p0a 9), .ref (p0a 10), .ref (p0a 11), .ref (p0a 12), .ref (p0a 13), .ref (p0a 14), .ref (p0a 15), .ref (p0a 16), .ref (p0a 17), .int (w20 0 17), .ref ra10, .ref ra16, .ref ra22])), ((p0a 4), .inl ((p0k 4), 60, .inl (w20 4))), ((p0a 5), .inl ((p0k 5), 60, .inl (w20 5))), ((p0a 6), .inl ((p0k 6), 60, .inl (w20 6))), ((p0a 7), .inl ((p0k 7), 60, .inl (w20 7))), ((p0a 8), .inl ((p0k 8), 60, .inl (w20 8))), ((p0a 9), .inl ((p0k 9), 60, .inl (w20 9))), ((p0a 10), .inl ((p0k 10), 60, .inl (w20 10))), ((p0a 11), .inl ((p0k 11), 60, .inl (w20 11))), ((p0a 12), .inl ((p0k 12), 60, .inl (w20 12))), ((p0a 13), .inl ((p0k 13), 60, .inl (w20 13))), ((p0a 14), .inl ((p0k 14), 61, .inl (w20 14))), ((p0a 15), .inl ((p0k 15), 120, .inl (w20 15))), ((p0a 16), .inl ((p0k 16), 60, .inr (.inl (p0l 16)))), ((p0a 17), .inl ((p0k 17), 60, .inr (.inl (p0l 17)))), (ra10, .inl (z9, (n19 19), .inl (w20 19))), (ra16, .inl (z15, (n19 20), .inl (w20 20)))]] : List va_W)) := by rw [en19, ew20]; exact hD
    have hK : va_K (dC, dI) cls (List.flatten ([[(z21, .int)], [((p0k 4), .int), ((p0k 5), .int), ((p0k 6), .int), ((p0k 7), .int), ((p0k 8), .int), ((p0k 9), .int), ((p0k 10), .int), ((p0k 11), .int), ((p0k 12), .int), ((p0k 13), .int), ((p0k 14), .int), ((p0k 15), .int), ((p0k 16), .long), ((p0k 17), .long), (z9, .int), (z15, .int)]] : List (List (ClassId × FieldType)))) s := hK
    have hP3 : va_P (dC, dI) cls (List.flatten ([(oX1 (p0a 0) (st1 (st1 (st1 p0a 19 ra10) 20 ra16) 21 ra22) (st1 (st1 (st1 p0k 19 z9) 20 z15) 21 z21) n19 w20 p0l)] : List va_W)) H := vP_perm hP ((bP (List.Perm.refl _)).trans (List.Perm.append_right _ (List.perm_middle (a := ((ra22, .inl (z21, (n19 21), .inl (w20 21))) : Nat × va_E)) (l₁ := ([((p0a 0), .inr (4, [.int (w20 0 0), .int (w20 0 1), .ref (p0a 3), .ref (p0a 4), .ref (p0a 5), .ref (p0a 6), .ref (p0a 7), .ref (p0a 8), .ref (p0a 9), .ref (p0a 10), .ref (p0a 11), .ref (p0a 12), .ref (p0a 13), .ref (p0a 14), .ref (p0a 15), .ref (p0a 16), .ref (p0a 17), .int (w20 0 17), .ref ra10, .ref ra16, .ref ra22])), ((p0a 4), .inl ((p0k 4), 60, .inl (w20 4))), ((p0a 5), .inl ((p0k 5), 60, .inl (w20 5))), ((p0a 6), .inl ((p0k 6), 60, .inl (w20 6))), ((p0a 7), .inl ((p0k 7), 60, .inl (w20 7))), ((p0a 8), .inl ((p0k 8), 60, .inl (w20 8))), ((p0a 9), .inl ((p0k 9), 60, .inl (w20 9))), ((p0a 10), .inl ((p0k 10), 60, .inl (w20 10))), ((p0a 11), .inl ((p0k 11), 60, .inl (w20 11))), ((p0a 12), .inl ((p0k 12), 60, .inl (w20 12))), ((p0a 13), .inl ((p0k 13), 60, .inl (w20 13))), ((p0a 14), .inl ((p0k 14), 61, .inl (w20 14))), ((p0a 15), .inl ((p0k 15), 120, .inl (w20 15))), ((p0a 16), .inl ((p0k 16), 60, .inr (.inl (p0l 16)))), ((p0a 17), .inl ((p0k 17), 60, .inr (.inl (p0l 17)))), (ra10, .inl (z9, (n19 19), .inl (w20 19))), (ra16, .inl (z15, (n19 20), .inl (w20 20)))] : va_W)) (l₂ := ([] : va_W))).symm))
    have hD3 : va_D A (List.flatten ([(oX1 (p0a 0) (st1 (st1 (st1 p0a 19 ra10) 20 ra16) 21 ra22) (st1 (st1 (st1 p0k 19 z9) 20 z15) 21 z21) n19 w20 p0l)] : List va_W)) := vD_perm hD ((bP (List.Perm.refl _)).trans (List.Perm.append_right _ (List.perm_middle (a := ((ra22, .inl (z21, (n19 21), .inl (w20 21))) : Nat × va_E)) (l₁ := ([((p0a 0), .inr (4, [.int (w20 0 0), .int (w20 0 1), .ref (p0a 3), .ref (p0a 4), .ref (p0a 5), .ref (p0a 6), .ref (p0a 7), .ref (p0a 8), .ref (p0a 9), .ref (p0a 10), .ref (p0a 11), .ref (p0a 12), .ref (p0a 13), .ref (p0a 14), .ref (p0a 15), .ref (p0a 16), .ref (p0a 17), .int (w20 0 17), .ref ra10, .ref ra16, .ref ra22])), ((p0a 4), .inl ((p0k 4), 60, .inl (w20 4))), ((p0a 5), .inl ((p0k 5), 60, .inl (w20 5))), ((p0a 6), .inl ((p0k 6), 60, .inl (w20 6))), ((p0a 7), .inl ((p0k 7), 60, .inl (w20 7))), ((p0a 8), .inl ((p0k 8), 60, .inl (w20 8))), ((p0a 9), .inl ((p0k 9), 60, .inl (w20 9))), ((p0a 10), .inl ((p0k 10), 60, .inl (w20 10))), ((p0a 11), .inl ((p0k 11), 60, .inl (w20 11))), ((p0a 12), .inl ((p0k 12), 60, .inl (w20 12))), ((p0a 13), .inl ((p0k 13), 60, .inl (w20 13))), ((p0a 14), .inl ((p0k 14), 61, .inl (w20 14))), ((p0a 15), .inl ((p0k 15), 120, .inl (w20 15))), ((p0a 16), .inl ((p0k 16), 60, .inr (.inl (p0l 16)))), ((p0a 17), .inl ((p0k 17), 60, .inr (.inl (p0l 17)))), (ra10, .inl (z9, (n19 19), .inl (w20 19))), (ra16, .inl (z15, (n19 20), .inl (w20 20)))] : va_W)) (l₂ := ([] : va_W))).symm))
    have hK3 : va_K (dC, dI) cls (List.flatten ([(tX1 (st1 (st1 (st1 p0k 19 z9) 20 z15) 21 z21))] : List (List (ClassId × FieldType)))) s := vK_perm hK ((bP (List.Perm.refl _)).trans (List.Perm.append_right _ (List.perm_middle (a := ((z21, .int) : ClassId × FieldType)) (l₁ := ([((p0k 4), .int), ((p0k 5), .int), ((p0k 6), .int), ((p0k 7), .int), ((p0k 8), .int), ((p0k 9), .int), ((p0k 10), .int), ((p0k 11), .int), ((p0k 12), .int), ((p0k 13), .int), ((p0k 14), .int), ((p0k 15), .int), ((p0k 16), .long), ((p0k 17), .long), (z9, .int), (z15, .int)] : List (ClassId × FieldType))) (l₂ := ([] : List (ClassId × FieldType)))).symm))
    have hP : va_P (dC, dI) cls (List.flatten ([(oX1 (p0a 0) (st1 (st1 (st1 p0a 19 ra10) 20 ra16) 21 ra22) (st1 (st1 (st1 p0k 19 z9) 20 z15) 21 z21) n19 w20 p0l)] : List va_W)) H := vP_perm hP3 (bP (List.Perm.refl _))
    have hD : va_D A (List.flatten ([(oX1 (p0a 0) (st1 (st1 (st1 p0a 19 ra10) 20 ra16) 21 ra22) (st1 (st1 (st1 p0k 19 z9) 20 z15) 21 z21) n19 w20 p0l)] : List va_W)) := vD_perm hD3 (bP (List.Perm.refl _))
    have hK : va_K (dC, dI) cls (List.flatten ([(tX1 (st1 (st1 (st1 p0k 19 z9) 20 z15) 21 z21))] : List (List (ClassId × FieldType)))) s := vK_perm hK3 (bP (List.Perm.refl _))
    refine W.widen (k := (hcX1 p0n n19)) (n := (3 * (gcX1 p0n n19))) (by have a0 := gcX1_add hg_p0 hst22; have q5 := gcX1_21 (n := n13) (mo_fX11_atLeast hc_18); rw [← en19] at q5; omega) (by have a0 := gcX1_add hg_p0 hst22; have q5 := gcX1_21 (n := n13) (mo_fX11_atLeast hc_18); rw [← en19] at q5; omega) ?_
    have hg_p0 : glX1 p0n n19 := glX1_tr hg_p0 hst22
    unfold fX1_addPhi_G66_23 at hrun
    exact J66 w20 n19 ra10 z9 ra16 z15 ra22 z21 _ _ _ hrun hP hD hK hS (lv_sub hl [0, 1, 2] rfl) hg_p0
def fX1_link_J44 (p1 : Int32) (p2 : Int32) (p0w_44 : ST) (p0_2w_44 : ST) : Option (ST × ST) := (if ixb p1 60 = true then (lt9 (upw p0w_44 5 (nn p1) p2) fun (w5 : ST) => some (w5, p0_2w_44)) else none)
def fX1_link (p0w : ST) (p1 : Int32) (p2 : Int32) (p0_2n : Nat → Nat) (p0_2w : ST) : Option (ST × ST) := (if ixb p2 (p0_2n 6) = true then (lt9 (upw p0_2w 6 (nn p2) (-1)) fun (w2 : ST) => (if ixb p1 60 = true then (if 0 ≤ (p0w 4 (nn p1)) then (if ixb p1 60 = true then (if ixb (p0w 5 (nn p1)) (p0_2n 6) = true then (lt9 (upw w2 6 (nn (p0w 5 (nn p1))) p2) fun (w9 : ST) => (fX1_link_J44 p1 p2 p0w w9)) else none) else none) else (if ixb p1 60 = true then (lt9 (upw p0w 4 (nn p1) p2) fun (w11 : ST) => (fX1_link_J44 p1 p2 w11 w2)) else none)) else none)) else none)
set_option maxHeartbeats 16000000 in
set_option maxRecDepth 100000 in
theorem kX1_link {zs : ZS} (l : Launch) (dC : Nat → ClassId) (dI : Nat → Nat → Nat) (p0a : Nat → Nat) (p0k : Nat → ClassId) (p0n : Nat → Nat) (p0w : ST) (p0l : SL) (p1 : Int32) (p2 : Int32) (p0_2a : Nat → Nat) (p0_2k : Nat → ClassId) (p0_2n : Nat → Nat) (p0_2w : ST) (sz : Nat) (o : ST × ST) (hrun : fX1_link p0w p1 p2 p0_2n p0_2w = some o) : Met l yX1_link (wz yX1_link cX1_link 3 (Option.none : Option Jvm.ClassFile.FieldType)) ({ frames := 0, cells := 0, slots := 0, locals := 0 } : Room) (va_Pc [.ref (p0a 0), .int p1, .int p2] (PRE zs dC dI (List.flatten ([(oX1 (p0a 0) p0a p0k p0n p0w p0l), (oX9 (p0a 3) p0_2a p0_2k p0_2n p0_2w)] : List va_W)) (List.flatten ([(tX1 p0k), (tX9 p0_2k)] : List (List (ClassId × FieldType)))) sz)) (va_Qv (fun (_ : Unit) => True) (fun _ t => POST dC dI (List.flatten ([(oX1 (p0a 0) p0a p0k p0n (o.1) p0l), (oX9 (p0a 3) p0_2a p0_2k p0_2n (o.2))] : List va_W)) (List.flatten ([(tX1 p0k), (tX9 p0_2k)] : List (List (ClassId × FieldType)))) (va_A (List.flatten ([(oX1 (p0a 0) p0a p0k p0n p0w p0l), (oX9 (p0a 3) p0_2a p0_2k p0_2n p0_2w)] : List va_W)) sz) t) (va_A (List.flatten ([(oX1 (p0a 0) p0a p0k p0n p0w p0l), (oX9 (p0a 3) p0_2a p0_2k p0_2n p0_2w)] : List va_W)) sz)) 0 0 (va_A (List.flatten ([(oX1 (p0a 0) p0a p0k p0n p0w p0l), (oX9 (p0a 3) p0_2a p0_2k p0_2n p0_2w)] : List va_W)) sz) := by
  refine Met.ofW (cc := cX1_link) (maxL := 3) (ret := (Option.none : Option Jvm.ClassFile.FieldType)) (by decide) rfl ?_
  intro p e s m args below meth c s₁ B hml hv
  obtain ⟨rfl, hsz, hP, hK, hD0, hE⟩ := hv
  have hx := B.exec
  have hb := B.bytes
  have hr := B.returns
  have hts0 := atoms_spec (ws := wz yX1_link cX1_link 3 (Option.none : Option Jvm.ClassFile.FieldType)) B.pre
  have hts : ∀ w ∈ gw, w.before _ s = true := fun w h => hts0 w (List.mem_cons_of_mem _ h)
  have hown : s.vm.findClass RX1 = some m.cls := findClass_of_methodNamed B.named
  have hlocks := B.notSynchronized
  subst hsz
  have hD := hD0.self (sz := s.heap.size)
  refine gQ9 ?_
  intro Q hQ
  generalize hAe : va_A (List.flatten ([(oX1 (p0a 0) p0a p0k p0n p0w p0l), (oX9 (p0a 3) p0_2a p0_2k p0_2n p0_2w)] : List va_W)) s.heap.size = A at hD hE hQ
  have hA : ∀ q : Nat, s.heap.size ≤ q → A q := fun q h => by rw [← hAe]; exact Or.inr h
  have hS : va_S A s.heap s.heap [] := va_S.rf
  have hP : va_P (dC, dI) cls (List.flatten ([(oX1 (p0a 0) p0a p0k p0n p0w p0l), (oX9 (p0a 3) p0_2a p0_2k p0_2n p0_2w)] : List va_W)) s.heap := hP
  have hl := lv_entry ([.ref (p0a 0), .int p1, .int p2]) (n := 3) (Nat.le_of_ble_eq_true rfl)
  rw [lg_entry_eq]
  generalize (lg_sl ([.ref (p0a 0), .int p1, .int p2]) ++ List.replicate (3 - (lg_sl ([.ref (p0a 0), .int p1, .int p2])).length) Slot.unset).toArray = ls at hl ⊢
  have hl : lv_has ls 3 [(0, .ref (p0a 0)), (1, .int p1), (2, .int p2)] := hl
  obtain ⟨H, hHe⟩ : ∃ H, H = s.heap := ⟨_, rfl⟩
  obtain ⟨locs, hle⟩ : ∃ locs : List Loc, locs = [] := ⟨_, rfl⟩
  rw [← hHe] at hP
  have hS : va_S A s.heap H locs := by rw [hHe, hle]; exact hS
  show W p l e ({ frames := 0, cells := 0, slots := 0, locals := 0 } : Room) s m ([.ref (p0a 0), .int p1, .int p2] : List Value).toArray below meth c s.heap [] 0 0 Q (F0 m 0 ls [])
  rw [← hle]
  refine wH9 hHe ?_
  unfold fX1_link at hrun
  refine lv_aload_n hx hb dX1_link_0 rfl (lv_at hl 0 rfl) ?_
  refine va_get (D := (dC, dI)) (ci := 4) (v := .ref (p0a 3)) (C := RX1) (T := TX1) (N := 21) hx hb hts i_X1 hown hK hP 0 rfl rfl 2 (by decide) (hts _ qw132) (fun _ h9 => h9) rfl dX1_link_1 ?_
  refine va_get (D := (dC, dI)) (ci := 3) (v := .ref (p0_2a 6)) (C := RX9) (T := TX9) (N := 6) hx hb hts i_X9 hown hK hP 18 rfl rfl 5 (by decide) (hts _ qw138) (fun _ h9 => h9) rfl dX1_link_4 ?_
  refine lv_iload_n hx hb dX1_link_7 rfl (lv_at hl 2 rfl) ?_
  refine lv_iconst (v := (-1)) hx hb dX1_link_8 (by decide) ?_
  obtain ⟨hq1, hrun⟩ := chk9 hrun
  refine va_iast hx hb hK hP hD hS 23 21 rfl rfl (ixb_in hq1) dX1_link_9 (fun H locs hP hD hS => ?_)
  have hP : va_P (dC, dI) cls (List.flatten ([(oX1 (p0a 0) p0a p0k p0n p0w p0l), (oX9 (p0a 3) p0_2a p0_2k p0_2n (upw p0_2w 6 (nn p2) (-1)))] : List va_W)) H := hP
  have hD : va_D A (List.flatten ([(oX1 (p0a 0) p0a p0k p0n p0w p0l), (oX9 (p0a 3) p0_2a p0_2k p0_2n (upw p0_2w 6 (nn p2) (-1)))] : List va_W)) := hD
  obtain ⟨w2, ew2, hrun⟩ := let9 hrun
  rw [← ew2] at hP hD
  refine lv_aload_n hx hb dX1_link_10 rfl (lv_at hl 0 rfl) ?_
  refine va_get (D := (dC, dI)) (ci := 4) (v := .ref (p0a 4)) (C := RX1) (T := TX1) (N := 21) hx hb hts i_X1 hown hK hP 0 rfl rfl 3 (by decide) (hts _ qw111) (fun _ h9 => h9) rfl dX1_link_11 ?_
  refine lv_iload_n hx hb dX1_link_14 rfl (lv_at hl 1 rfl) ?_
  obtain ⟨hq3, hrun⟩ := chk9 hrun
  refine va_iald hx hb hK hP 1 0 rfl rfl (ixb_in hq3) dX1_link_15 ?_
  have J44 : ∀ (p0w_44 : ST) (p0_2w_44 : ST) (H : Heap) (locs : List Loc) (ls : Array Slot), (fX1_link_J44 p1 p2 p0w_44 p0_2w_44) = some o → va_P (dC, dI) cls (List.flatten ([(oX1 (p0a 0) p0a p0k p0n p0w_44 p0l), (oX9 (p0a 3) p0_2a p0_2k p0_2n p0_2w_44)] : List va_W)) H → va_D A (List.flatten ([(oX1 (p0a 0) p0a p0k p0n p0w_44 p0l), (oX9 (p0a 3) p0_2a p0_2k p0_2n p0_2w_44)] : List va_W)) → va_K (dC, dI) cls (List.flatten ([(tX1 p0k), (tX9 p0_2k)] : List (List (ClassId × FieldType)))) s → va_S A s.heap H locs → lv_has ls 3 [(0, .ref (p0a 0)), (1, .int p1), (2, .int p2)] → W p l e ({ frames := 0, cells := 0, slots := 0, locals := 0 } : Room) s m ([.ref (p0a 0), .int p1, .int p2] : List Value).toArray below meth c H locs 0 0 Q (F0 m 44 ls []) := by
    intro p0w_44 p0_2w_44 H locs ls hrun hP hD hK hS hl 
    unfold fX1_link_J44 at hrun
    refine lv_aload_n hx hb dX1_link_44 rfl (lv_at hl 0 rfl) ?_
    refine va_get (D := (dC, dI)) (ci := 4) (v := .ref (p0a 5)) (C := RX1) (T := TX1) (N := 21) hx hb hts i_X1 hown hK hP 0 rfl rfl 4 (by decide) (hts _ qw112) (fun _ h9 => h9) rfl dX1_link_45 ?_
    refine lv_iload_n hx hb dX1_link_48 rfl (lv_at hl 1 rfl) ?_
    refine lv_iload_n hx hb dX1_link_49 rfl (lv_at hl 2 rfl) ?_
    obtain ⟨hq4, hrun⟩ := chk9 hrun
    refine va_iast hx hb hK hP hD hS 2 1 rfl rfl (ixb_in hq4) dX1_link_50 (fun H locs hP hD hS => ?_)
    have hP : va_P (dC, dI) cls (List.flatten ([(oX1 (p0a 0) p0a p0k p0n (upw p0w_44 5 (nn p1) p2) p0l), (oX9 (p0a 3) p0_2a p0_2k p0_2n p0_2w_44)] : List va_W)) H := hP
    have hD : va_D A (List.flatten ([(oX1 (p0a 0) p0a p0k p0n (upw p0w_44 5 (nn p1) p2) p0l), (oX9 (p0a 3) p0_2a p0_2k p0_2n p0_2w_44)] : List va_W)) := hD
    obtain ⟨w5, ew5, hrun⟩ := let9 hrun
    rw [← ew5] at hP hD
    have ho9 : (w5, p0_2w_44) = o := Option.some.inj hrun
    have hP9 : va_P (dC, dI) cls (List.flatten ([(oX1 (p0a 0) p0a p0k p0n (o.1) p0l), (oX9 (p0a 3) p0_2a p0_2k p0_2n (o.2))] : List va_W)) H := by first | exact hP | (rw [← ho9]; exact hP)
    have hD9 : va_D A (List.flatten ([(oX1 (p0a 0) p0a p0k p0n (o.1) p0l), (oX9 (p0a 3) p0_2a p0_2k p0_2n (o.2))] : List va_W)) := by first | exact hD | (rw [← ho9]; exact hD)
    subst hQ
    exact W.vret hx hb hr (fun t ht hW => ⟨⟨(), rfl, trivial, ⟨by rw [ht]; exact hP9, va_K.moved hW.alike hK, hD9⟩⟩, hS.F ht⟩) hS.2.2 dX1_link_51
  rcases br9 hrun with ⟨hc6, hrun⟩ | ⟨hc6, hrun⟩
  · refine lv_if_ge (tgt := 29) hx hb dX1_link_16 (by decide) (fun _ => ?_) (fun c => absurd hc6 c)
    refine lv_aload_n hx hb dX1_link_29 rfl (lv_at hl 0 rfl) ?_
    refine va_get (D := (dC, dI)) (ci := 4) (v := .ref (p0a 3)) (C := RX1) (T := TX1) (N := 21) hx hb hts i_X1 hown hK hP 0 rfl rfl 2 (by decide) (hts _ qw132) (fun _ h9 => h9) rfl dX1_link_30 ?_
    refine va_get (D := (dC, dI)) (ci := 3) (v := .ref (p0_2a 6)) (C := RX9) (T := TX9) (N := 6) hx hb hts i_X9 hown hK hP 18 rfl rfl 5 (by decide) (hts _ qw138) (fun _ h9 => h9) rfl dX1_link_33 ?_
    refine lv_aload_n hx hb dX1_link_36 rfl (lv_at hl 0 rfl) ?_
    refine va_get (D := (dC, dI)) (ci := 4) (v := .ref (p0a 5)) (C := RX1) (T := TX1) (N := 21) hx hb hts i_X1 hown hK hP 0 rfl rfl 4 (by decide) (hts _ qw112) (fun _ h9 => h9) rfl dX1_link_37 ?_
    refine lv_iload_n hx hb dX1_link_40 rfl (lv_at hl 1 rfl) ?_
    obtain ⟨hq7, hrun⟩ := chk9 hrun
    refine va_iald hx hb hK hP 2 1 rfl rfl (ixb_in hq7) dX1_link_41 ?_
    refine lv_iload_n hx hb dX1_link_42 rfl (lv_at hl 2 rfl) ?_
    obtain ⟨hq8, hrun⟩ := chk9 hrun
    refine va_iast hx hb hK hP hD hS 23 21 rfl rfl (ixb_in hq8) dX1_link_43 (fun H locs hP hD hS => ?_)
    have hP : va_P (dC, dI) cls (List.flatten ([(oX1 (p0a 0) p0a p0k p0n p0w p0l), (oX9 (p0a 3) p0_2a p0_2k p0_2n (upw w2 6 (nn (p0w 5 (nn p1))) p2))] : List va_W)) H := hP
    have hD : va_D A (List.flatten ([(oX1 (p0a 0) p0a p0k p0n p0w p0l), (oX9 (p0a 3) p0_2a p0_2k p0_2n (upw w2 6 (nn (p0w 5 (nn p1))) p2))] : List va_W)) := hD
    obtain ⟨w9, ew9, hrun⟩ := let9 hrun
    rw [← ew9] at hP hD
    exact J44 p0w w9 _ _ _ hrun hP hD hK hS (lv_sub hl [0, 1, 2] rfl)
  · refine lv_if_ge (tgt := 29) hx hb dX1_link_16 (by decide) (fun c => absurd c hc6) (fun _ => ?_)
    refine lv_aload_n hx hb dX1_link_19 rfl (lv_at hl 0 rfl) ?_
    refine va_get (D := (dC, dI)) (ci := 4) (v := .ref (p0a 4)) (C := RX1) (T := TX1) (N := 21) hx hb hts i_X1 hown hK hP 0 rfl rfl 3 (by decide) (hts _ qw111) (fun _ h9 => h9) rfl dX1_link_20 ?_
    refine lv_iload_n hx hb dX1_link_23 rfl (lv_at hl 1 rfl) ?_
    refine lv_iload_n hx hb dX1_link_24 rfl (lv_at hl 2 rfl) ?_
    obtain ⟨hq10, hrun⟩ := chk9 hrun
    refine va_iast hx hb hK hP hD hS 1 0 rfl rfl (ixb_in hq10) dX1_link_25 (fun H locs hP hD hS => ?_)
    have hP : va_P (dC, dI) cls (List.flatten ([(oX1 (p0a 0) p0a p0k p0n (upw p0w 4 (nn p1) p2) p0l), (oX9 (p0a 3) p0_2a p0_2k p0_2n w2)] : List va_W)) H := hP
    have hD : va_D A (List.flatten ([(oX1 (p0a 0) p0a p0k p0n (upw p0w 4 (nn p1) p2) p0l), (oX9 (p0a 3) p0_2a p0_2k p0_2n w2)] : List va_W)) := hD
    obtain ⟨w11, ew11, hrun⟩ := let9 hrun
    rw [← ew11] at hP hD
    refine lv_goto (tgt := 44) hx hb dX1_link_26 (by decide) ?_
    exact J44 w11 w2 _ _ _ hrun hP hD hK hS (lv_sub hl [0, 1, 2] rfl)
def fX1_addStep_G13_13 (p0w : ST) (p1 : Int32) (o_1 : Int32 × ST × (Nat → Nat)) : Option (Int32 × ST × ST × (Nat → Nat)) := ((fX1_link p0w p1 (o_1.1) (o_1.2.2) (o_1.2.1)).bind fun (o_14 : ST × ST) => some ((o_1.1), (o_14.1), (o_14.2), (o_1.2.2)))
theorem mo_fX1_addStep_G13_13 {p0w : ST} {p1 : Int32} {o_1 : Int32 × ST × (Nat → Nat)} {o9q : Int32 × ST × ST × (Nat → Nat)} (hrun : fX1_addStep_G13_13 p0w p1 o_1 = some o9q) : glX9 (o_1.2.2) (o9q.2.2.2) := by
  unfold fX1_addStep_G13_13 at hrun
  obtain ⟨o_14, hc_14, hrun⟩ := bnd9 hrun
  obtain rfl := (Option.some.inj hrun)
  exact (glX9_rf _)
def fX1_addStep (p0w : ST) (p1 : Int32) (p2 : Int32) (p3 : Int32) (p4 : Int32) (p5 : Int32) (p0_2n : Nat → Nat) (p0_2w : ST) : Option (Int32 × ST × ST × (Nat → Nat)) := ((fX9_add p0_2n p0_2w p2 p3 p4 p5).bind fun (o_1 : Int32 × ST × (Nat → Nat)) => (fX1_addStep_G13_13 p0w p1 o_1))
theorem mo_fX1_addStep {p0w : ST} {p1 : Int32} {p2 : Int32} {p3 : Int32} {p4 : Int32} {p5 : Int32} {p0_2n : Nat → Nat} {p0_2w : ST} {o9q : Int32 × ST × ST × (Nat → Nat)} (hrun : fX1_addStep p0w p1 p2 p3 p4 p5 p0_2n p0_2w = some o9q) : glX9 p0_2n (o9q.2.2.2) := by
  unfold fX1_addStep at hrun
  obtain ⟨o_1, hc_1, hrun⟩ := bnd9 hrun
  exact (glX9_tr (mo_fX9_add hc_1) (mo_fX1_addStep_G13_13 hrun))
set_option maxHeartbeats 16000000 in
set_option maxRecDepth 100000 in
theorem kX1_addStep {zs : ZS} (l : Launch) (dC : Nat → ClassId) (dI : Nat → Nat → Nat) (p0a : Nat → Nat) (p0k : Nat → ClassId) (p0n : Nat → Nat) (p0w : ST) (p0l : SL) (p1 : Int32) (p2 : Int32) (p3 : Int32) (p4 : Int32) (p5 : Int32) (p0_2a : Nat → Nat) (p0_2k : Nat → ClassId) (p0_2n : Nat → Nat) (p0_2w : ST) (sz : Nat) (o : Int32 × ST × ST × (Nat → Nat)) (hrun : fX1_addStep p0w p1 p2 p3 p4 p5 p0_2n p0_2w = some o) : Met l yX1_addStep (wz yX1_addStep cX1_addStep 7 (Option.some Jvm.ClassFile.FieldType.int)) ({ frames := 3, cells := (hcX9 p0_2n (o.2.2.2)), slots := (3 * (gcX9 p0_2n (o.2.2.2))), locals := 87 } : Room) (va_Pc [.ref (p0a 0), .int p1, .int p2, .int p3, .int p4, .int p5] (PRE zs dC dI (List.flatten ([(oX1 (p0a 0) p0a p0k p0n p0w p0l), (oX9 (p0a 3) p0_2a p0_2k p0_2n p0_2w)] : List va_W)) (List.flatten ([(tX1 p0k), (tX9 p0_2k)] : List (List (ClassId × FieldType)))) sz)) (va_Qi (fun (r : Int32) (_ : Unit) => r = (o.1)) (fun _ t => ∃ (xp0_2_1_z : Nat), ∃ (zp0_2_1_z : ClassId), ∃ (xp0_2_2_z : Nat), ∃ (zp0_2_2_z : ClassId), ∃ (xp0_2_3_z : Nat), ∃ (zp0_2_3_z : ClassId), ∃ (xp0_2_4_z : Nat), ∃ (zp0_2_4_z : ClassId), ∃ (xp0_2_5_z : Nat), ∃ (zp0_2_5_z : ClassId), POST dC dI (List.flatten ([(oX1 (p0a 0) p0a p0k p0n (o.2.1) p0l), (oX9 (p0a 3) (st1 (st1 (st1 (st1 (st1 p0_2a 2 xp0_2_1_z) 3 xp0_2_2_z) 4 xp0_2_3_z) 5 xp0_2_4_z) 6 xp0_2_5_z) (st1 (st1 (st1 (st1 (st1 p0_2k 2 zp0_2_1_z) 3 zp0_2_2_z) 4 zp0_2_3_z) 5 zp0_2_4_z) 6 zp0_2_5_z) (o.2.2.2) (o.2.2.1))] : List va_W)) (List.flatten ([(tX1 p0k), (tX9 (st1 (st1 (st1 (st1 (st1 p0_2k 2 zp0_2_1_z) 3 zp0_2_2_z) 4 zp0_2_3_z) 5 zp0_2_4_z) 6 zp0_2_5_z))] : List (List (ClassId × FieldType)))) (va_A (List.flatten ([(oX1 (p0a 0) p0a p0k p0n p0w p0l), (oX9 (p0a 3) p0_2a p0_2k p0_2n p0_2w)] : List va_W)) sz) t) (va_A (List.flatten ([(oX1 (p0a 0) p0a p0k p0n p0w p0l), (oX9 (p0a 3) p0_2a p0_2k p0_2n p0_2w)] : List va_W)) sz)) (hcX9 p0_2n (o.2.2.2)) (3 * (gcX9 p0_2n (o.2.2.2))) (va_A (List.flatten ([(oX1 (p0a 0) p0a p0k p0n p0w p0l), (oX9 (p0a 3) p0_2a p0_2k p0_2n p0_2w)] : List va_W)) sz) := by
  refine Met.ofW (cc := cX1_addStep) (maxL := 7) (ret := (Option.some Jvm.ClassFile.FieldType.int)) (by decide) rfl ?_
  intro p e s m args below meth c s₁ B hml hv
  obtain ⟨rfl, hsz, hP, hK, hD0, hE⟩ := hv
  have hx := B.exec
  have hb := B.bytes
  have hr := B.returns
  have hts0 := atoms_spec (ws := wz yX1_addStep cX1_addStep 7 (Option.some Jvm.ClassFile.FieldType.int)) B.pre
  have hts : ∀ w ∈ gw, w.before _ s = true := fun w h => hts0 w (List.mem_cons_of_mem _ h)
  have hown : s.vm.findClass RX1 = some m.cls := findClass_of_methodNamed B.named
  have hlocks := B.notSynchronized
  subst hsz
  have hD := hD0.self (sz := s.heap.size)
  refine gQ9 ?_
  intro Q hQ
  generalize hAe : va_A (List.flatten ([(oX1 (p0a 0) p0a p0k p0n p0w p0l), (oX9 (p0a 3) p0_2a p0_2k p0_2n p0_2w)] : List va_W)) s.heap.size = A at hD hE hQ
  have hA : ∀ q : Nat, s.heap.size ≤ q → A q := fun q h => by rw [← hAe]; exact Or.inr h
  have hS : va_S A s.heap s.heap [] := va_S.rf
  have hP : va_P (dC, dI) cls (List.flatten ([(oX1 (p0a 0) p0a p0k p0n p0w p0l), (oX9 (p0a 3) p0_2a p0_2k p0_2n p0_2w)] : List va_W)) s.heap := hP
  have hl := lv_entry ([.ref (p0a 0), .int p1, .int p2, .int p3, .int p4, .int p5]) (n := 7) (Nat.le_of_ble_eq_true rfl)
  rw [lg_entry_eq]
  generalize (lg_sl ([.ref (p0a 0), .int p1, .int p2, .int p3, .int p4, .int p5]) ++ List.replicate (7 - (lg_sl ([.ref (p0a 0), .int p1, .int p2, .int p3, .int p4, .int p5])).length) Slot.unset).toArray = ls at hl ⊢
  have hl : lv_has ls 7 [(0, .ref (p0a 0)), (1, .int p1), (2, .int p2), (3, .int p3), (4, .int p4), (5, .int p5)] := hl
  obtain ⟨H, hHe⟩ : ∃ H, H = s.heap := ⟨_, rfl⟩
  obtain ⟨locs, hle⟩ : ∃ locs : List Loc, locs = [] := ⟨_, rfl⟩
  rw [← hHe] at hP
  have hS : va_S A s.heap H locs := by rw [hHe, hle]; exact hS
  show W p l e ({ frames := 3, cells := (hcX9 p0_2n (o.2.2.2)), slots := (3 * (gcX9 p0_2n (o.2.2.2))), locals := 87 } : Room) s m ([.ref (p0a 0), .int p1, .int p2, .int p3, .int p4, .int p5] : List Value).toArray below meth c s.heap [] 0 0 Q (F0 m 0 ls [])
  rw [← hle]
  refine wH9 hHe ?_
  have hg_p0_2 := glX9_rf p0_2n
  have hgn_p0_2 : glX9 p0_2n (o.2.2.2) := (mo_fX1_addStep hrun)
  refine W.widen (k := (hcX9 p0_2n p0_2n)) (n := (3 * (gcX9 p0_2n p0_2n))) (Nat.zero_le _) (Nat.zero_le _) ?_
  unfold fX1_addStep at hrun
  refine lv_aload_n hx hb dX1_addStep_0 rfl (lv_at hl 0 rfl) ?_
  refine va_get (D := (dC, dI)) (ci := 4) (v := .ref (p0a 3)) (C := RX1) (T := TX1) (N := 21) hx hb hts i_X1 hown hK hP 0 rfl rfl 2 (by decide) (hts _ qw132) (fun _ h9 => h9) rfl dX1_addStep_1 ?_
  refine lv_iload_n hx hb dX1_addStep_4 rfl (lv_at hl 2 rfl) ?_
  refine lv_iload_n hx hb dX1_addStep_5 rfl (lv_at hl 3 rfl) ?_
  refine lv_iload hx hb dX1_addStep_6 (lv_at hl 4 rfl) ?_
  refine lv_iload hx hb dX1_addStep_8 (lv_at hl 5 rfl) ?_
  obtain ⟨o_1, hc_1, hrun⟩ := bnd9 hrun
  have hPx : va_P (dC, dI) cls ((List.flatten ([(oX9 (p0a 3) p0_2a p0_2k p0_2n p0_2w)] : List va_W)) ++ (List.flatten ([(oX1 (p0a 0) p0a p0k p0n p0w p0l)] : List va_W))) H := vP_fa (vP_perm hP (bP ((((List.Perm.refl _)).cons _).trans (List.Perm.swap _ _ _))))
  have hDx : va_D A ((List.flatten ([(oX9 (p0a 3) p0_2a p0_2k p0_2n p0_2w)] : List va_W)) ++ (List.flatten ([(oX1 (p0a 0) p0a p0k p0n p0w p0l)] : List va_W))) := vD_fa (vD_perm hD (bP ((((List.Perm.refl _)).cons _).trans (List.Perm.swap _ _ _))))
  have hKx : va_K (dC, dI) cls ((List.flatten ([(tX9 p0_2k)] : List (List (ClassId × FieldType)))) ++ (List.flatten ([(tX1 p0k)] : List (List (ClassId × FieldType))))) s := vK_fa (vK_perm hK (bP ((((List.Perm.refl _)).cons _).trans (List.Perm.swap _ _ _))))
  have hPc := vP_l hPx
  have hDc := vD_l hDx
  have hKc := vK_l hKx
  have hFc := vfree hDx hS hA
  have hgn_p0_2 : glX9 (o_1.2.2) (o.2.2.2) := (mo_fX1_addStep_G13_13 hrun)
  refine va_calli (va_runV (As := [.int p2, .int p3, .int p4, .int p5]) (rest := []) ⟨hx, hb, hml, hown, hts⟩ (kX9_add l dC dI (p0a := (st0 (p0a 3) p0_2a)) (p0k := p0_2k) (p0n := p0_2n) (p0w := p0_2w) (p1 := p2) (p2 := p3) (p3 := p4) (p4 := p5) (sz := _) (o := o_1) (hrun := hc_1)) (cwV 4 hts (gi_V qw134 qw135 qw136 qw137 (gi_z qw133)) rfl rfl rfl (by decide +kernel) ⟨Nat.le_of_ble_eq_true rfl, Nat.le_of_ble_eq_true rfl⟩) ⟨PRE.blind, va_recv hKc hPc (ci := 3) (q0 := 0) rfl rfl, PRE.of hE hS hFc hPc hKc hDc⟩ rfl rfl hl.1 rfl (lv_room (Nat.le_of_ble_eq_true rfl)) dX1_addStep_10 ⟨(show (hcX9 p0_2n p0_2n) + (hcX9 p0_2n (o_1.2.2)) ≤ (hcX9 p0_2n (o.2.2.2)) from by have q0 := gsX9 hg_p0_2 (mo_fX9_add hc_1) hgn_p0_2; omega), (show (3 * (gcX9 p0_2n p0_2n)) + (3 * (gcX9 p0_2n (o_1.2.2))) ≤ (3 * (gcX9 p0_2n (o.2.2.2))) from by have q0 := gsX9 hg_p0_2 (mo_fX9_add hc_1) hgn_p0_2; omega)⟩) hS (fun q _ h => hFc q h) hFc (fun r2 u t H locs ht hvm hw hB hz1 hk1 hS => ?_)
  obtain ⟨x3, z4, x5, z6, x7, z8, x9, z10, x11, z12, hB⟩ := hB
  obtain ⟨b1, b2, b3⟩ := hB
  rw [ht] at b1
  obtain ⟨hP, hD, hK⟩ := JOINC (wc := (List.flatten ([(oX9 (p0a 3) p0_2a p0_2k p0_2n p0_2w)] : List va_W))) (wr := (List.flatten ([(oX1 (p0a 0) p0a p0k p0n p0w p0l)] : List va_W))) (w1 := (List.flatten ([(oX9 (p0a 3) (st1 (st1 (st1 (st1 (st1 p0_2a 2 x3) 3 x5) 4 x7) 5 x9) 6 x11) (st1 (st1 (st1 (st1 (st1 p0_2k 2 z4) 3 z6) 4 z8) 5 z10) 6 z12) (o_1.2.2) (o_1.2.1))] : List va_W))) (t1 := (List.flatten ([(tX9 (st1 (st1 (st1 (st1 (st1 p0_2k 2 z4) 3 z6) 4 z8) 5 z10) 6 z12))] : List (List (ClassId × FieldType))))) hPx hDx hKx hk1 hFc b1 (va_K.moved hvm.symm b2) b3
  have hP : va_P (dC, dI) cls (List.flatten ([(oX1 (p0a 0) p0a p0k p0n p0w p0l), (oX9 (p0a 3) (st1 (st1 (st1 (st1 (st1 p0_2a 2 x3) 3 x5) 4 x7) 5 x9) 6 x11) (st1 (st1 (st1 (st1 (st1 p0_2k 2 z4) 3 z6) 4 z8) 5 z10) 6 z12) (o_1.2.2) (o_1.2.1))] : List va_W)) H := vP_perm (vP_fb hP) (bP ((((List.Perm.refl _)).cons _).trans (List.Perm.swap _ _ _)))
  have hD : va_D A (List.flatten ([(oX1 (p0a 0) p0a p0k p0n p0w p0l), (oX9 (p0a 3) (st1 (st1 (st1 (st1 (st1 p0_2a 2 x3) 3 x5) 4 x7) 5 x9) 6 x11) (st1 (st1 (st1 (st1 (st1 p0_2k 2 z4) 3 z6) 4 z8) 5 z10) 6 z12) (o_1.2.2) (o_1.2.1))] : List va_W)) := vD_perm (vD_fb hD) (bP ((((List.Perm.refl _)).cons _).trans (List.Perm.swap _ _ _)))
  have hK : va_K (dC, dI) cls (List.flatten ([(tX1 p0k), (tX9 (st1 (st1 (st1 (st1 (st1 p0_2k 2 z4) 3 z6) 4 z8) 5 z10) 6 z12))] : List (List (ClassId × FieldType)))) s := vK_perm (vK_fb hK) (bP ((((List.Perm.refl _)).cons _).trans (List.Perm.swap _ _ _)))
  obtain rfl : r2 = (o_1.1) := hw
  refine W.widen (k := (hcX9 p0_2n (o_1.2.2))) (n := (3 * (gcX9 p0_2n (o_1.2.2)))) (by have a0 := gcX9_add hg_p0_2 (mo_fX9_add hc_1); omega) (by have a0 := gcX9_add hg_p0_2 (mo_fX9_add hc_1); omega) ?_
  have hg_p0_2 : glX9 p0_2n (o_1.2.2) := glX9_tr hg_p0_2 (mo_fX9_add hc_1)
  unfold fX1_addStep_G13_13 at hrun
  refine lv_istore (lv' := [(6, .int (o_1.1)), (0, .ref (p0a 0)), (1, .int p1), (2, .int p2), (3, .int p3), (4, .int p4), (5, .int p5)]) hx hb dX1_addStep_13 hl (by decide) rfl (fun ls hl => ?_)
  refine lv_aload_n hx hb dX1_addStep_15 rfl (lv_at hl 1 rfl) ?_
  refine lv_iload_n hx hb dX1_addStep_16 rfl (lv_at hl 2 rfl) ?_
  refine lv_iload hx hb dX1_addStep_17 (lv_at hl 0 rfl) ?_
  obtain ⟨o_14, hc_14, hrun⟩ := bnd9 hrun
  have hPx : va_P (dC, dI) cls ((List.flatten ([(oX1 (p0a 0) p0a p0k p0n p0w p0l), (oX9 (p0a 3) (st1 (st1 (st1 (st1 (st1 p0_2a 2 x3) 3 x5) 4 x7) 5 x9) 6 x11) (st1 (st1 (st1 (st1 (st1 p0_2k 2 z4) 3 z6) 4 z8) 5 z10) 6 z12) (o_1.2.2) (o_1.2.1))] : List va_W)) ++ (List.flatten ([] : List va_W))) H := vP_fa (vP_perm hP (bP (List.Perm.refl _)))
  have hDx : va_D A ((List.flatten ([(oX1 (p0a 0) p0a p0k p0n p0w p0l), (oX9 (p0a 3) (st1 (st1 (st1 (st1 (st1 p0_2a 2 x3) 3 x5) 4 x7) 5 x9) 6 x11) (st1 (st1 (st1 (st1 (st1 p0_2k 2 z4) 3 z6) 4 z8) 5 z10) 6 z12) (o_1.2.2) (o_1.2.1))] : List va_W)) ++ (List.flatten ([] : List va_W))) := vD_fa (vD_perm hD (bP (List.Perm.refl _)))
  have hKx : va_K (dC, dI) cls ((List.flatten ([(tX1 p0k), (tX9 (st1 (st1 (st1 (st1 (st1 p0_2k 2 z4) 3 z6) 4 z8) 5 z10) 6 z12))] : List (List (ClassId × FieldType)))) ++ (List.flatten ([] : List (List (ClassId × FieldType))))) s := vK_fa (vK_perm hK (bP (List.Perm.refl _)))
  have hPc := vP_l hPx
  have hDc := vD_l hDx
  have hKc := vK_l hKx
  have hFc := vfree hDx hS hA
  refine va_callv (va_runV (As := [.int p1, .int (o_1.1)]) (rest := []) ⟨hx, hb, hml, hown, hts⟩ (kX1_link l dC dI (p0a := p0a) (p0k := p0k) (p0n := p0n) (p0w := p0w) (p0l := p0l) (p1 := p1) (p2 := (o_1.1)) (p0_2a := (st1 (st1 (st1 (st1 (st1 p0_2a 2 x3) 3 x5) 4 x7) 5 x9) 6 x11)) (p0_2k := (st1 (st1 (st1 (st1 (st1 p0_2k 2 z4) 3 z6) 4 z8) 5 z10) 6 z12)) (p0_2n := (o_1.2.2)) (p0_2w := (o_1.2.1)) (sz := _) (o := o_14) (hrun := hc_14)) (cwV 2 hts (gi_V qw140 qw141 qw142 qw126 (gi_z qw139)) rfl rfl rfl (by decide +kernel) ⟨Nat.le_of_ble_eq_true rfl, Nat.le_of_ble_eq_true rfl⟩) ⟨PRE.blind, va_recv hKc hPc (ci := 4) (q0 := 0) rfl rfl, PRE.of hE hS hFc hPc hKc hDc⟩ rfl rfl hl.1 rfl (lv_room (Nat.le_of_ble_eq_true rfl)) dX1_addStep_19 ⟨(show (hcX9 p0_2n (o_1.2.2)) + 0 ≤ (hcX9 p0_2n (o.2.2.2)) from by have q0 := gmX9 hg_p0_2 hgn_p0_2; omega), (show (3 * (gcX9 p0_2n (o_1.2.2))) + 0 ≤ (3 * (gcX9 p0_2n (o.2.2.2))) from by have q0 := gmX9 hg_p0_2 hgn_p0_2; omega)⟩) hS (fun q _ h => hFc q h) hFc (fun u t H locs ht hvm hw hB hz1 hk1 hS => ?_)
  obtain ⟨b1, b2, b3⟩ := hB
  rw [ht] at b1
  obtain ⟨hP, hD, hK⟩ := JOINC (wc := (List.flatten ([(oX1 (p0a 0) p0a p0k p0n p0w p0l), (oX9 (p0a 3) (st1 (st1 (st1 (st1 (st1 p0_2a 2 x3) 3 x5) 4 x7) 5 x9) 6 x11) (st1 (st1 (st1 (st1 (st1 p0_2k 2 z4) 3 z6) 4 z8) 5 z10) 6 z12) (o_1.2.2) (o_1.2.1))] : List va_W))) (wr := (List.flatten ([] : List va_W))) (w1 := (List.flatten ([(oX1 (p0a 0) p0a p0k p0n (o_14.1) p0l), (oX9 (p0a 3) (st1 (st1 (st1 (st1 (st1 p0_2a 2 x3) 3 x5) 4 x7) 5 x9) 6 x11) (st1 (st1 (st1 (st1 (st1 p0_2k 2 z4) 3 z6) 4 z8) 5 z10) 6 z12) (o_1.2.2) (o_14.2))] : List va_W))) (t1 := (List.flatten ([(tX1 p0k), (tX9 (st1 (st1 (st1 (st1 (st1 p0_2k 2 z4) 3 z6) 4 z8) 5 z10) 6 z12))] : List (List (ClassId × FieldType))))) hPx hDx hKx hk1 hFc b1 (va_K.moved hvm.symm b2) b3
  have hP : va_P (dC, dI) cls (List.flatten ([(oX1 (p0a 0) p0a p0k p0n (o_14.1) p0l), (oX9 (p0a 3) (st1 (st1 (st1 (st1 (st1 p0_2a 2 x3) 3 x5) 4 x7) 5 x9) 6 x11) (st1 (st1 (st1 (st1 (st1 p0_2k 2 z4) 3 z6) 4 z8) 5 z10) 6 z12) (o_1.2.2) (o_14.2))] : List va_W)) H := vP_perm (vP_fb hP) (bP (List.Perm.refl _))
  have hD : va_D A (List.flatten ([(oX1 (p0a 0) p0a p0k p0n (o_14.1) p0l), (oX9 (p0a 3) (st1 (st1 (st1 (st1 (st1 p0_2a 2 x3) 3 x5) 4 x7) 5 x9) 6 x11) (st1 (st1 (st1 (st1 (st1 p0_2k 2 z4) 3 z6) 4 z8) 5 z10) 6 z12) (o_1.2.2) (o_14.2))] : List va_W)) := vD_perm (vD_fb hD) (bP (List.Perm.refl _))
  have hK : va_K (dC, dI) cls (List.flatten ([(tX1 p0k), (tX9 (st1 (st1 (st1 (st1 (st1 p0_2k 2 z4) 3 z6) 4 z8) 5 z10) 6 z12))] : List (List (ClassId × FieldType)))) s := vK_perm (vK_fb hK) (bP (List.Perm.refl _))
  refine lv_iload hx hb dX1_addStep_22 (lv_at hl 0 rfl) ?_
  have ho9 : ((o_1.1), (o_14.1), (o_14.2), (o_1.2.2)) = o := Option.some.inj hrun
  subst ho9
  subst hQ
  exact W.iret (v := (o_1.1)) hx hb hr (fun t ht hW => ⟨⟨(o_1.1), (), rfl, rfl, ⟨x3, z4, x5, z6, x7, z8, x9, z10, x11, z12, by rw [ht]; exact hP, va_K.moved hW.alike hK, hD⟩⟩, hS.F ht⟩) hS.2.2 dX1_addStep_24
def fX1_clear (p0w : ST) (p0_2w : ST) : Option (ST × ST) := (lt9 (upw p0w 0 0 0) fun (w1 : ST) => (lt9 (upw w1 0 1 0) fun (w2 : ST) => (lt9 (upw p0_2w 0 0 0) fun (w3 : ST) => (lt9 (upw w2 0 17 0) fun (w4 : ST) => some (w4, w3)))))
set_option maxHeartbeats 16000000 in
set_option maxRecDepth 100000 in
theorem kX1_clear {zs : ZS} (l : Launch) (dC : Nat → ClassId) (dI : Nat → Nat → Nat) (p0a : Nat → Nat) (p0k : Nat → ClassId) (p0n : Nat → Nat) (p0w : ST) (p0l : SL) (p0_2a : Nat → Nat) (p0_2k : Nat → ClassId) (p0_2n : Nat → Nat) (p0_2w : ST) (sz : Nat) (o : ST × ST) (hrun : fX1_clear p0w p0_2w = some o) : Met l yX1_clear (wz yX1_clear cX1_clear 1 (Option.none : Option Jvm.ClassFile.FieldType)) ({ frames := 0, cells := 0, slots := 0, locals := 0 } : Room) (va_Pc [.ref (p0a 0)] (PRE zs dC dI (List.flatten ([(oX1 (p0a 0) p0a p0k p0n p0w p0l), (oX9 (p0a 3) p0_2a p0_2k p0_2n p0_2w)] : List va_W)) (List.flatten ([(tX1 p0k), (tX9 p0_2k)] : List (List (ClassId × FieldType)))) sz)) (va_Qv (fun (_ : Unit) => True) (fun _ t => POST dC dI (List.flatten ([(oX1 (p0a 0) p0a p0k p0n (o.1) p0l), (oX9 (p0a 3) p0_2a p0_2k p0_2n (o.2))] : List va_W)) (List.flatten ([(tX1 p0k), (tX9 p0_2k)] : List (List (ClassId × FieldType)))) (va_A (List.flatten ([(oX1 (p0a 0) p0a p0k p0n p0w p0l), (oX9 (p0a 3) p0_2a p0_2k p0_2n p0_2w)] : List va_W)) sz) t) (va_A (List.flatten ([(oX1 (p0a 0) p0a p0k p0n p0w p0l), (oX9 (p0a 3) p0_2a p0_2k p0_2n p0_2w)] : List va_W)) sz)) 0 0 (va_A (List.flatten ([(oX1 (p0a 0) p0a p0k p0n p0w p0l), (oX9 (p0a 3) p0_2a p0_2k p0_2n p0_2w)] : List va_W)) sz) := by
  refine Met.ofW (cc := cX1_clear) (maxL := 1) (ret := (Option.none : Option Jvm.ClassFile.FieldType)) (by decide) rfl ?_
  intro p e s m args below meth c s₁ B hml hv
  obtain ⟨rfl, hsz, hP, hK, hD0, hE⟩ := hv
  have hx := B.exec
  have hb := B.bytes
  have hr := B.returns
  have hts0 := atoms_spec (ws := wz yX1_clear cX1_clear 1 (Option.none : Option Jvm.ClassFile.FieldType)) B.pre
  have hts : ∀ w ∈ gw, w.before _ s = true := fun w h => hts0 w (List.mem_cons_of_mem _ h)
  have hown : s.vm.findClass RX1 = some m.cls := findClass_of_methodNamed B.named
  have hlocks := B.notSynchronized
  subst hsz
  have hD := hD0.self (sz := s.heap.size)
  refine gQ9 ?_
  intro Q hQ
  generalize hAe : va_A (List.flatten ([(oX1 (p0a 0) p0a p0k p0n p0w p0l), (oX9 (p0a 3) p0_2a p0_2k p0_2n p0_2w)] : List va_W)) s.heap.size = A at hD hE hQ
  have hA : ∀ q : Nat, s.heap.size ≤ q → A q := fun q h => by rw [← hAe]; exact Or.inr h
  have hS : va_S A s.heap s.heap [] := va_S.rf
  have hP : va_P (dC, dI) cls (List.flatten ([(oX1 (p0a 0) p0a p0k p0n p0w p0l), (oX9 (p0a 3) p0_2a p0_2k p0_2n p0_2w)] : List va_W)) s.heap := hP
  have hl := lv_entry ([.ref (p0a 0)]) (n := 1) (Nat.le_of_ble_eq_true rfl)
  rw [lg_entry_eq]
  generalize (lg_sl ([.ref (p0a 0)]) ++ List.replicate (1 - (lg_sl ([.ref (p0a 0)])).length) Slot.unset).toArray = ls at hl ⊢
  have hl : lv_has ls 1 [(0, .ref (p0a 0))] := hl
  obtain ⟨H, hHe⟩ : ∃ H, H = s.heap := ⟨_, rfl⟩
  obtain ⟨locs, hle⟩ : ∃ locs : List Loc, locs = [] := ⟨_, rfl⟩
  rw [← hHe] at hP
  have hS : va_S A s.heap H locs := by rw [hHe, hle]; exact hS
  show W p l e ({ frames := 0, cells := 0, slots := 0, locals := 0 } : Room) s m ([.ref (p0a 0)] : List Value).toArray below meth c s.heap [] 0 0 Q (F0 m 0 ls [])
  rw [← hle]
  refine wH9 hHe ?_
  unfold fX1_clear at hrun
  refine lv_aload_n hx hb dX1_clear_0 rfl (lv_at hl 0 rfl) ?_
  refine lv_iconst (v := 0) hx hb dX1_clear_1 (by decide) ?_
  refine va_put (D := (dC, dI)) (ci := 4) (v := .int 0) (ty := .int) (C := RX1) (T := TX1) (N := 21) hx hb hts i_X1 tyX1 tyX1_ok nmX1 hown hK hP hD hS 0 rfl rfl 0 (by decide) (hts _ qw110) (fun _ h9 => h9) rfl (by decide +kernel) rfl rfl (Nat.le_of_ble_eq_true rfl) dX1_clear_2 (fun H locs hP hD hS => ?_)
  have hP : va_P (dC, dI) cls (List.flatten ([(oX1 (p0a 0) p0a p0k p0n (upw p0w 0 0 0) p0l), (oX9 (p0a 3) p0_2a p0_2k p0_2n p0_2w)] : List va_W)) H := hP
  have hD : va_D A (List.flatten ([(oX1 (p0a 0) p0a p0k p0n (upw p0w 0 0 0) p0l), (oX9 (p0a 3) p0_2a p0_2k p0_2n p0_2w)] : List va_W)) := hD
  obtain ⟨w1, ew1, hrun⟩ := let9 hrun
  rw [← ew1] at hP hD
  refine lv_aload_n hx hb dX1_clear_5 rfl (lv_at hl 0 rfl) ?_
  refine lv_iconst (v := 0) hx hb dX1_clear_6 (by decide) ?_
  refine va_put (D := (dC, dI)) (ci := 4) (v := .int 0) (ty := .int) (C := RX1) (T := TX1) (N := 21) hx hb hts i_X1 tyX1 tyX1_ok nmX1 hown hK hP hD hS 0 rfl rfl 1 (by decide) (hts _ qw143) (fun _ h9 => h9) rfl (by decide +kernel) rfl rfl (Nat.le_of_ble_eq_true rfl) dX1_clear_7 (fun H locs hP hD hS => ?_)
  have hP : va_P (dC, dI) cls (List.flatten ([(oX1 (p0a 0) p0a p0k p0n (upw w1 0 1 0) p0l), (oX9 (p0a 3) p0_2a p0_2k p0_2n p0_2w)] : List va_W)) H := hP
  have hD : va_D A (List.flatten ([(oX1 (p0a 0) p0a p0k p0n (upw w1 0 1 0) p0l), (oX9 (p0a 3) p0_2a p0_2k p0_2n p0_2w)] : List va_W)) := hD
  obtain ⟨w2, ew2, hrun⟩ := let9 hrun
  rw [← ew2] at hP hD
  refine lv_aload_n hx hb dX1_clear_10 rfl (lv_at hl 0 rfl) ?_
  refine va_get (D := (dC, dI)) (ci := 4) (v := .ref (p0a 3)) (C := RX1) (T := TX1) (N := 21) hx hb hts i_X1 hown hK hP 0 rfl rfl 2 (by decide) (hts _ qw132) (fun _ h9 => h9) rfl dX1_clear_11 ?_
  refine lv_iconst (v := 0) hx hb dX1_clear_14 (by decide) ?_
  refine va_put (D := (dC, dI)) (ci := 3) (v := .int 0) (ty := .int) (C := RX9) (T := TX9) (N := 6) hx hb hts i_X9 tyX9 tyX9_ok nmX9 hown hK hP hD hS 18 rfl rfl 0 (by decide) (hts _ qw144) (fun _ h9 => h9) rfl (by decide +kernel) rfl rfl (Nat.le_of_ble_eq_true rfl) dX1_clear_15 (fun H locs hP hD hS => ?_)
  have hP : va_P (dC, dI) cls (List.flatten ([(oX1 (p0a 0) p0a p0k p0n w2 p0l), (oX9 (p0a 3) p0_2a p0_2k p0_2n (upw p0_2w 0 0 0))] : List va_W)) H := hP
  have hD : va_D A (List.flatten ([(oX1 (p0a 0) p0a p0k p0n w2 p0l), (oX9 (p0a 3) p0_2a p0_2k p0_2n (upw p0_2w 0 0 0))] : List va_W)) := hD
  obtain ⟨w3, ew3, hrun⟩ := let9 hrun
  rw [← ew3] at hP hD
  refine lv_aload_n hx hb dX1_clear_18 rfl (lv_at hl 0 rfl) ?_
  refine lv_iconst (v := 0) hx hb dX1_clear_19 (by decide) ?_
  refine va_put (D := (dC, dI)) (ci := 4) (v := .int 0) (ty := .int) (C := RX1) (T := TX1) (N := 21) hx hb hts i_X1 tyX1 tyX1_ok nmX1 hown hK hP hD hS 0 rfl rfl 17 (by decide) (hts _ qw119) (fun _ h9 => h9) rfl (by decide +kernel) rfl rfl (Nat.le_of_ble_eq_true rfl) dX1_clear_20 (fun H locs hP hD hS => ?_)
  have hP : va_P (dC, dI) cls (List.flatten ([(oX1 (p0a 0) p0a p0k p0n (upw w2 0 17 0) p0l), (oX9 (p0a 3) p0_2a p0_2k p0_2n w3)] : List va_W)) H := hP
  have hD : va_D A (List.flatten ([(oX1 (p0a 0) p0a p0k p0n (upw w2 0 17 0) p0l), (oX9 (p0a 3) p0_2a p0_2k p0_2n w3)] : List va_W)) := hD
  obtain ⟨w4, ew4, hrun⟩ := let9 hrun
  rw [← ew4] at hP hD
  have ho9 : (w4, w3) = o := Option.some.inj hrun
  have hP9 : va_P (dC, dI) cls (List.flatten ([(oX1 (p0a 0) p0a p0k p0n (o.1) p0l), (oX9 (p0a 3) p0_2a p0_2k p0_2n (o.2))] : List va_W)) H := by first | exact hP | (rw [← ho9]; exact hP)
  have hD9 : va_D A (List.flatten ([(oX1 (p0a 0) p0a p0k p0n (o.1) p0l), (oX9 (p0a 3) p0_2a p0_2k p0_2n (o.2))] : List va_W)) := by first | exact hD | (rw [← ho9]; exact hD)
  subst hQ
  exact W.vret hx hb hr (fun t ht hW => ⟨⟨(), rfl, trivial, ⟨by rw [ht]; exact hP9, va_K.moved hW.alike hK, hD9⟩⟩, hS.F ht⟩) hS.2.2 dX1_clear_23
def fX1_copyFrom_G85_24 (kk70 : Int32 → ST → (Nat → Nat) → Option (ST × (Nat → Nat))) (p1n : Nat → Nat) (p1w : ST) (v3_70 : Int32) (o_16 : Int32 × ST × (Nat → Nat)) : Option (ST × (Nat → Nat)) := (if cpk (v3_70 * 60) ((o_16.1) * 60) 60 (p1n 21) ((o_16.2.2) 21) = true then (lt9 (srw (o_16.2.1) 21 (va_cpy (p1w 21) ((o_16.2.1) 21) (nn (v3_70 * 60)) (nn ((o_16.1) * 60)) (nn 60))) fun (w26 : ST) => (if ixb v3_70 (p1n 20) = true then (kk70 (p1w 20 (nn v3_70)) w26 (o_16.2.2)) else none)) else none)
theorem mo_fX1_copyFrom_G85_24 {kk70 : Int32 → ST → (Nat → Nat) → Option (ST × (Nat → Nat))} {p1n : Nat → Nat} {p1w : ST} {v3_70 : Int32} {o_16 : Int32 × ST × (Nat → Nat)} {o9q : ST × (Nat → Nat)} (hkk : ∀ (v3_70q : Int32) (p0w_70q : ST) (p0n_70q : Nat → Nat) (r9 : ST × (Nat → Nat)), kk70 v3_70q p0w_70q p0n_70q = some r9 → glX1 p0n_70q (r9.2)) (hrun : fX1_copyFrom_G85_24 kk70 p1n p1w v3_70 o_16 = some o9q) : glX1 (o_16.2.2) (o9q.2) := by
  unfold fX1_copyFrom_G85_24 at hrun
  obtain ⟨hq25, hrun⟩ := chk9 hrun
  obtain ⟨w26, ew26, hrun⟩ := let9 hrun
  obtain ⟨hq27, hrun⟩ := chk9 hrun
  exact (hkk _ _ _ _ hrun)
def fX1_copyFrom_L70 (p1n : Nat → Nat) (p1w : ST) (v2_14 : Int32) : Nat → Int32 → ST → (Nat → Nat) → Option (ST × (Nat → Nat))
  | 0 => fun _ _ _ => none
  | n_70 + 1 => fun v3_70 p0w_70 p0n_70 => (if v3_70 < 0 then some (p0w_70, p0n_70) else (if ixb v3_70 (p1n 19) = true then ((fX1_addPhi p0n_70 p0w_70 v2_14 (p1w 19 (nn v3_70))).bind fun (o_16 : Int32 × ST × (Nat → Nat)) => (fX1_copyFrom_G85_24 (fX1_copyFrom_L70 p1n p1w v2_14 n_70) p1n p1w v3_70 o_16)) else none))
theorem mo_fX1_copyFrom_L70 {p1n : Nat → Nat} {p1w : ST} {v2_14 : Int32} : ∀ (n_70 : Nat) (v3_70 : Int32) (p0w_70 : ST) (p0n_70 : Nat → Nat) (o9q : ST × (Nat → Nat)), (fX1_copyFrom_L70 p1n p1w v2_14 n_70) v3_70 p0w_70 p0n_70 = some o9q → glX1 p0n_70 (o9q.2) := by
  intro n_70
  induction n_70 with
  | zero => intro v3_70 p0w_70 p0n_70 o9q hrun; exact (no9 rfl hrun).elim
  | succ n_70 ih9 =>
    intro v3_70 p0w_70 p0n_70 o9q hrun
    unfold fX1_copyFrom_L70 at hrun
    rcases br9 hrun with ⟨hc14, hrun⟩ | ⟨hc14, hrun⟩
    · skip
      obtain rfl := (Option.some.inj hrun)
      exact (glX1_rf _)
    · skip
      obtain ⟨hq15, hrun⟩ := chk9 hrun
      obtain ⟨o_16, hc_16, hrun⟩ := bnd9 hrun
      exact (glX1_tr (mo_fX1_addPhi hc_16) (mo_fX1_copyFrom_G85_24 ih9 hrun))
def fX1_copyFrom_G171_47 (kk126 : Int32 → ST → ST → (Nat → Nat) → Option (ST × ST × (Nat → Nat))) (p1_2n : Nat → Nat) (p1_2w : ST) (v3_126 : Int32) (o_35 : Int32 × ST × ST × (Nat → Nat)) : Option (ST × ST × (Nat → Nat)) := (if ixb v3_126 (p1_2n 6) = true then (kk126 (p1_2w 6 (nn v3_126)) (o_35.2.1) (o_35.2.2.1) (o_35.2.2.2)) else none)
theorem mo_fX1_copyFrom_G171_47 {kk126 : Int32 → ST → ST → (Nat → Nat) → Option (ST × ST × (Nat → Nat))} {p1_2n : Nat → Nat} {p1_2w : ST} {v3_126 : Int32} {o_35 : Int32 × ST × ST × (Nat → Nat)} {o9q : ST × ST × (Nat → Nat)} (hkk : ∀ (v3_126q : Int32) (p0w_126q : ST) (p0_2w_126q : ST) (p0_2n_126q : Nat → Nat) (r9 : ST × ST × (Nat → Nat)), kk126 v3_126q p0w_126q p0_2w_126q p0_2n_126q = some r9 → glX9 p0_2n_126q (r9.2.2)) (hrun : fX1_copyFrom_G171_47 kk126 p1_2n p1_2w v3_126 o_35 = some o9q) : glX9 (o_35.2.2.2) (o9q.2.2) := by
  unfold fX1_copyFrom_G171_47 at hrun
  obtain ⟨hq48, hrun⟩ := chk9 hrun
  exact (hkk _ _ _ _ _ hrun)
def fX1_copyFrom_L126 (p1_2n : Nat → Nat) (p1_2w : ST) (v2_14 : Int32) : Nat → Int32 → ST → ST → (Nat → Nat) → Option (ST × ST × (Nat → Nat))
  | 0 => fun _ _ _ _ => none
  | n_126 + 1 => fun v3_126 p0w_126 p0_2w_126 p0_2n_126 => (if v3_126 < 0 then some (p0w_126, p0_2w_126, p0_2n_126) else (if ixb v3_126 (p1_2n 2) = true then (if ixb v3_126 (p1_2n 3) = true then (if ixb v3_126 (p1_2n 4) = true then (if ixb v3_126 (p1_2n 5) = true then ((fX1_addStep p0w_126 v2_14 (p1_2w 2 (nn v3_126)) (p1_2w 3 (nn v3_126)) (p1_2w 4 (nn v3_126)) (p1_2w 5 (nn v3_126)) p0_2n_126 p0_2w_126).bind fun (o_35 : Int32 × ST × ST × (Nat → Nat)) => (fX1_copyFrom_G171_47 (fX1_copyFrom_L126 p1_2n p1_2w v2_14 n_126) p1_2n p1_2w v3_126 o_35)) else none) else none) else none) else none))
theorem mo_fX1_copyFrom_L126 {p1_2n : Nat → Nat} {p1_2w : ST} {v2_14 : Int32} : ∀ (n_126 : Nat) (v3_126 : Int32) (p0w_126 : ST) (p0_2w_126 : ST) (p0_2n_126 : Nat → Nat) (o9q : ST × ST × (Nat → Nat)), (fX1_copyFrom_L126 p1_2n p1_2w v2_14 n_126) v3_126 p0w_126 p0_2w_126 p0_2n_126 = some o9q → glX9 p0_2n_126 (o9q.2.2) := by
  intro n_126
  induction n_126 with
  | zero => intro v3_126 p0w_126 p0_2w_126 p0_2n_126 o9q hrun; exact (no9 rfl hrun).elim
  | succ n_126 ih9 =>
    intro v3_126 p0w_126 p0_2w_126 p0_2n_126 o9q hrun
    unfold fX1_copyFrom_L126 at hrun
    rcases br9 hrun with ⟨hc30, hrun⟩ | ⟨hc30, hrun⟩
    · skip
      obtain rfl := (Option.some.inj hrun)
      exact (glX9_rf _)
    · skip
      obtain ⟨hq31, hrun⟩ := chk9 hrun
      obtain ⟨hq32, hrun⟩ := chk9 hrun
      obtain ⟨hq33, hrun⟩ := chk9 hrun
      obtain ⟨hq34, hrun⟩ := chk9 hrun
      obtain ⟨o_35, hc_35, hrun⟩ := bnd9 hrun
      exact (glX9_tr (mo_fX1_addStep hc_35) (mo_fX1_copyFrom_G171_47 ih9 hrun))
def fX1_copyFrom_G185_49 (kk14 : Int32 → ST → (Nat → Nat) → ST → (Nat → Nat) → Option (ST × (Nat → Nat) × ST × (Nat → Nat))) (v2_14 : Int32) (o70 : ST × (Nat → Nat)) (o126 : ST × ST × (Nat → Nat)) : Option (ST × (Nat → Nat) × ST × (Nat → Nat)) := (kk14 (v2_14 + 1) (o126.1) (o70.2) (o126.2.1) (o126.2.2))
theorem mo_fX1_copyFrom_G185_49 {kk14 : Int32 → ST → (Nat → Nat) → ST → (Nat → Nat) → Option (ST × (Nat → Nat) × ST × (Nat → Nat))} {v2_14 : Int32} {o70 : ST × (Nat → Nat)} {o126 : ST × ST × (Nat → Nat)} {o9q : ST × (Nat → Nat) × ST × (Nat → Nat)} (hkk : ∀ (v2_14q : Int32) (p0w_14q : ST) (p0n_14q : Nat → Nat) (p0_2w_14q : ST) (p0_2n_14q : Nat → Nat) (r9 : ST × (Nat → Nat) × ST × (Nat → Nat)), kk14 v2_14q p0w_14q p0n_14q p0_2w_14q p0_2n_14q = some r9 → (glX1 p0n_14q (r9.2.1)) ∧ (glX9 p0_2n_14q (r9.2.2.2))) (hrun : fX1_copyFrom_G185_49 kk14 v2_14 o70 o126 = some o9q) : (glX1 (o70.2) (o9q.2.1)) ∧ (glX9 (o126.2.2) (o9q.2.2.2)) := by
  unfold fX1_copyFrom_G185_49 at hrun
  exact ⟨((hkk _ _ _ _ _ _ hrun).1), ((hkk _ _ _ _ _ _ hrun).2)⟩
def fX1_copyFrom_G119_28 (kk14 : Int32 → ST → (Nat → Nat) → ST → (Nat → Nat) → Option (ST × (Nat → Nat) × ST × (Nat → Nat))) (p1w : ST) (p1_2n : Nat → Nat) (p1_2w : ST) (v2_14 : Int32) (p0_2w_14 : ST) (p0_2n_14 : Nat → Nat) (o70 : ST × (Nat → Nat)) : Option (ST × (Nat → Nat) × ST × (Nat → Nat)) := (if ixb v2_14 60 = true then ((fX1_copyFrom_L126 p1_2n p1_2w v2_14 NF (p1w 4 (nn v2_14)) (o70.1) p0_2w_14 p0_2n_14).bind fun (o126 : ST × ST × (Nat → Nat)) => (fX1_copyFrom_G185_49 kk14 v2_14 o70 o126)) else none)
theorem mo_fX1_copyFrom_G119_28 {kk14 : Int32 → ST → (Nat → Nat) → ST → (Nat → Nat) → Option (ST × (Nat → Nat) × ST × (Nat → Nat))} {p1w : ST} {p1_2n : Nat → Nat} {p1_2w : ST} {v2_14 : Int32} {p0_2w_14 : ST} {p0_2n_14 : Nat → Nat} {o70 : ST × (Nat → Nat)} {o9q : ST × (Nat → Nat) × ST × (Nat → Nat)} (hkk : ∀ (v2_14q : Int32) (p0w_14q : ST) (p0n_14q : Nat → Nat) (p0_2w_14q : ST) (p0_2n_14q : Nat → Nat) (r9 : ST × (Nat → Nat) × ST × (Nat → Nat)), kk14 v2_14q p0w_14q p0n_14q p0_2w_14q p0_2n_14q = some r9 → (glX1 p0n_14q (r9.2.1)) ∧ (glX9 p0_2n_14q (r9.2.2.2))) (hrun : fX1_copyFrom_G119_28 kk14 p1w p1_2n p1_2w v2_14 p0_2w_14 p0_2n_14 o70 = some o9q) : (glX1 (o70.2) (o9q.2.1)) ∧ (glX9 p0_2n_14 (o9q.2.2.2)) := by
  unfold fX1_copyFrom_G119_28 at hrun
  obtain ⟨hq29, hrun⟩ := chk9 hrun
  obtain ⟨o126, hc126, hrun⟩ := bnd9 hrun
  exact ⟨((mo_fX1_copyFrom_G185_49 hkk hrun).1), (glX9_tr (mo_fX1_copyFrom_L126 _ _ _ _ _ _ hc126) ((mo_fX1_copyFrom_G185_49 hkk hrun).2))⟩
def fX1_copyFrom_L14 (p1n : Nat → Nat) (p1w : ST) (p1_2n : Nat → Nat) (p1_2w : ST) : Nat → Int32 → ST → (Nat → Nat) → ST → (Nat → Nat) → Option (ST × (Nat → Nat) × ST × (Nat → Nat))
  | 0 => fun _ _ _ _ _ => none
  | n_14 + 1 => fun v2_14 p0w_14 p0n_14 p0_2w_14 p0_2n_14 => (if (p1w 0 0) ≤ v2_14 then some (p0w_14, p0n_14, p0_2w_14, p0_2n_14) else (if ixb v2_14 60 = true then (if ixb v2_14 60 = true then (if ixb v2_14 60 = true then (if ixb v2_14 60 = true then ((fX1_addBlock p0w_14 (p1w 8 (nn v2_14)) (p1w 9 (nn v2_14)) (p1w 10 (nn v2_14)) (p1w 11 (nn v2_14))).bind fun (o_8 : Int32 × ST) => (if ixb v2_14 60 = true then (if ixb v2_14 60 = true then (lt9 (upw (o_8.2) 13 (nn v2_14) (p1w 13 (nn v2_14))) fun (w12 : ST) => (if ixb v2_14 60 = true then ((fX1_copyFrom_L70 p1n p1w v2_14 NF (p1w 6 (nn v2_14)) w12 p0n_14).bind fun (o70 : ST × (Nat → Nat)) => (fX1_copyFrom_G119_28 (fX1_copyFrom_L14 p1n p1w p1_2n p1_2w n_14) p1w p1_2n p1_2w v2_14 p0_2w_14 p0_2n_14 o70)) else none)) else none) else none)) else none) else none) else none) else none))
theorem mo_fX1_copyFrom_L14 {p1n : Nat → Nat} {p1w : ST} {p1_2n : Nat → Nat} {p1_2w : ST} : ∀ (n_14 : Nat) (v2_14 : Int32) (p0w_14 : ST) (p0n_14 : Nat → Nat) (p0_2w_14 : ST) (p0_2n_14 : Nat → Nat) (o9q : ST × (Nat → Nat) × ST × (Nat → Nat)), (fX1_copyFrom_L14 p1n p1w p1_2n p1_2w n_14) v2_14 p0w_14 p0n_14 p0_2w_14 p0_2n_14 = some o9q → (glX1 p0n_14 (o9q.2.1)) ∧ (glX9 p0_2n_14 (o9q.2.2.2)) := by
  intro n_14
  induction n_14 with
  | zero => intro v2_14 p0w_14 p0n_14 p0_2w_14 p0_2n_14 o9q hrun; exact (no9 rfl hrun).elim
  | succ n_14 ih9 =>
    intro v2_14 p0w_14 p0n_14 p0_2w_14 p0_2n_14 o9q hrun
    unfold fX1_copyFrom_L14 at hrun
    rcases br9 hrun with ⟨hc3, hrun⟩ | ⟨hc3, hrun⟩
    · skip
      obtain rfl := (Option.some.inj hrun)
      exact ⟨(glX1_rf _), (glX9_rf _)⟩
    · skip
      obtain ⟨hq4, hrun⟩ := chk9 hrun
      obtain ⟨hq5, hrun⟩ := chk9 hrun
      obtain ⟨hq6, hrun⟩ := chk9 hrun
      obtain ⟨hq7, hrun⟩ := chk9 hrun
      obtain ⟨o_8, hc_8, hrun⟩ := bnd9 hrun
      obtain ⟨hq10, hrun⟩ := chk9 hrun
      obtain ⟨hq11, hrun⟩ := chk9 hrun
      obtain ⟨w12, ew12, hrun⟩ := let9 hrun
      obtain ⟨hq13, hrun⟩ := chk9 hrun
      obtain ⟨o70, hc70, hrun⟩ := bnd9 hrun
      exact ⟨(glX1_tr (mo_fX1_copyFrom_L70 _ _ _ _ _ hc70) ((mo_fX1_copyFrom_G119_28 ih9 hrun).1)), ((mo_fX1_copyFrom_G119_28 ih9 hrun).2)⟩
def fX1_copyFrom_G191_50 (p1w : ST) (o14 : ST × (Nat → Nat) × ST × (Nat → Nat)) : Option (ST × (Nat → Nat) × ST × (Nat → Nat)) := (if cpk 0 0 (((o14.1) 0 0) + 1) 61 61 = true then (lt9 (srw (o14.1) 14 (va_cpy (p1w 14) ((o14.1) 14) (nn 0) (nn 0) (nn (((o14.1) 0 0) + 1)))) fun (w52 : ST) => (if ixb (w52 0 0) 61 = true then (if cpk 0 0 (w52 14 (nn (w52 0 0))) 120 120 = true then (lt9 (srw w52 15 (va_cpy (p1w 15) (w52 15) (nn 0) (nn 0) (nn (w52 14 (nn (w52 0 0)))))) fun (w55 : ST) => some (w55, (o14.2.1), (o14.2.2.1), (o14.2.2.2))) else none) else none)) else none)
theorem mo_fX1_copyFrom_G191_50 {p1w : ST} {o14 : ST × (Nat → Nat) × ST × (Nat → Nat)} {o9q : ST × (Nat → Nat) × ST × (Nat → Nat)} (hrun : fX1_copyFrom_G191_50 p1w o14 = some o9q) : (glX1 (o14.2.1) (o9q.2.1)) ∧ (glX9 (o14.2.2.2) (o9q.2.2.2)) := by
  unfold fX1_copyFrom_G191_50 at hrun
  obtain ⟨hq51, hrun⟩ := chk9 hrun
  obtain ⟨w52, ew52, hrun⟩ := let9 hrun
  obtain ⟨hq53, hrun⟩ := chk9 hrun
  obtain ⟨hq54, hrun⟩ := chk9 hrun
  obtain ⟨w55, ew55, hrun⟩ := let9 hrun
  obtain rfl := (Option.some.inj hrun)
  exact ⟨(glX1_rf _), (glX9_rf _)⟩
def fX1_copyFrom (p0n : Nat → Nat) (p0w : ST) (p1n : Nat → Nat) (p1w : ST) (p0_2n : Nat → Nat) (p0_2w : ST) (p1_2n : Nat → Nat) (p1_2w : ST) : Option (ST × (Nat → Nat) × ST × (Nat → Nat)) := ((fX1_clear p0w p0_2w).bind fun (o_1 : ST × ST) => (lt9 (upw (o_1.1) 0 1 (p1w 0 1)) fun (w2 : ST) => ((fX1_copyFrom_L14 p1n p1w p1_2n p1_2w NF 0 w2 p0n (o_1.2) p0_2n).bind fun (o14 : ST × (Nat → Nat) × ST × (Nat → Nat)) => (fX1_copyFrom_G191_50 p1w o14))))
theorem mo_fX1_copyFrom {p0n : Nat → Nat} {p0w : ST} {p1n : Nat → Nat} {p1w : ST} {p0_2n : Nat → Nat} {p0_2w : ST} {p1_2n : Nat → Nat} {p1_2w : ST} {o9q : ST × (Nat → Nat) × ST × (Nat → Nat)} (hrun : fX1_copyFrom p0n p0w p1n p1w p0_2n p0_2w p1_2n p1_2w = some o9q) : (glX1 p0n (o9q.2.1)) ∧ (glX9 p0_2n (o9q.2.2.2)) := by
  unfold fX1_copyFrom at hrun
  obtain ⟨o_1, hc_1, hrun⟩ := bnd9 hrun
  obtain ⟨w2, ew2, hrun⟩ := let9 hrun
  obtain ⟨o14, hc14, hrun⟩ := bnd9 hrun
  exact ⟨(glX1_tr ((mo_fX1_copyFrom_L14 _ _ _ _ _ _ _ hc14).1) ((mo_fX1_copyFrom_G191_50 hrun).1)), (glX9_tr ((mo_fX1_copyFrom_L14 _ _ _ _ _ _ _ hc14).2) ((mo_fX1_copyFrom_G191_50 hrun).2))⟩
set_option maxHeartbeats 16000000 in
set_option maxRecDepth 100000 in
theorem kX1_copyFrom {zs : ZS} (l : Launch) (dC : Nat → ClassId) (dI : Nat → Nat → Nat) (p0a : Nat → Nat) (p0k : Nat → ClassId) (p0n : Nat → Nat) (p0w : ST) (p0l : SL) (p1a : Nat → Nat) (p1k : Nat → ClassId) (p1n : Nat → Nat) (p1w : ST) (p1l : SL) (p0_2a : Nat → Nat) (p0_2k : Nat → ClassId) (p0_2n : Nat → Nat) (p0_2w : ST) (p1_2a : Nat → Nat) (p1_2k : Nat → ClassId) (p1_2n : Nat → Nat) (p1_2w : ST) (sz : Nat) (o : ST × (Nat → Nat) × ST × (Nat → Nat)) (hrun : fX1_copyFrom p0n p0w p1n p1w p0_2n p0_2w p1_2n p1_2w = some o) : Met l yX1_copyFrom (wz yX1_copyFrom cX1_copyFrom 5 (Option.none : Option Jvm.ClassFile.FieldType)) ({ frames := 4, cells := (hcX1 p0n (o.2.1) + hcX9 p0_2n (o.2.2.2)), slots := (3 * (gcX1 p0n (o.2.1) + gcX9 p0_2n (o.2.2.2))), locals := 113 } : Room) (va_Pc [.ref (p0a 0), .ref (p1a 0)] (PRE zs dC dI (List.flatten ([(oX1 (p0a 0) p0a p0k p0n p0w p0l), (oX1 (p1a 0) p1a p1k p1n p1w p1l), (oX9 (p0a 3) p0_2a p0_2k p0_2n p0_2w), (oX9 (p1a 3) p1_2a p1_2k p1_2n p1_2w)] : List va_W)) (List.flatten ([(tX1 p0k), (tX1 p1k), (tX9 p0_2k), (tX9 p1_2k)] : List (List (ClassId × FieldType)))) sz)) (va_Qv (fun (_ : Unit) => True) (fun _ t => ∃ (xp0_18_z : Nat), ∃ (zp0_18_z : ClassId), ∃ (xp0_19_z : Nat), ∃ (zp0_19_z : ClassId), ∃ (xp0_20_z : Nat), ∃ (zp0_20_z : ClassId), ∃ (xp0_2_1_z : Nat), ∃ (zp0_2_1_z : ClassId), ∃ (xp0_2_2_z : Nat), ∃ (zp0_2_2_z : ClassId), ∃ (xp0_2_3_z : Nat), ∃ (zp0_2_3_z : ClassId), ∃ (xp0_2_4_z : Nat), ∃ (zp0_2_4_z : ClassId), ∃ (xp0_2_5_z : Nat), ∃ (zp0_2_5_z : ClassId), POST dC dI (List.flatten ([(oX1 (p0a 0) (st1 (st1 (st1 p0a 19 xp0_18_z) 20 xp0_19_z) 21 xp0_20_z) (st1 (st1 (st1 p0k 19 zp0_18_z) 20 zp0_19_z) 21 zp0_20_z) (o.2.1) (o.1) p0l), (oX1 (p1a 0) p1a p1k p1n p1w p1l), (oX9 (p0a 3) (st1 (st1 (st1 (st1 (st1 p0_2a 2 xp0_2_1_z) 3 xp0_2_2_z) 4 xp0_2_3_z) 5 xp0_2_4_z) 6 xp0_2_5_z) (st1 (st1 (st1 (st1 (st1 p0_2k 2 zp0_2_1_z) 3 zp0_2_2_z) 4 zp0_2_3_z) 5 zp0_2_4_z) 6 zp0_2_5_z) (o.2.2.2) (o.2.2.1)), (oX9 (p1a 3) p1_2a p1_2k p1_2n p1_2w)] : List va_W)) (List.flatten ([(tX1 (st1 (st1 (st1 p0k 19 zp0_18_z) 20 zp0_19_z) 21 zp0_20_z)), (tX1 p1k), (tX9 (st1 (st1 (st1 (st1 (st1 p0_2k 2 zp0_2_1_z) 3 zp0_2_2_z) 4 zp0_2_3_z) 5 zp0_2_4_z) 6 zp0_2_5_z)), (tX9 p1_2k)] : List (List (ClassId × FieldType)))) (va_A (List.flatten ([(oX1 (p0a 0) p0a p0k p0n p0w p0l), (oX1 (p1a 0) p1a p1k p1n p1w p1l), (oX9 (p0a 3) p0_2a p0_2k p0_2n p0_2w), (oX9 (p1a 3) p1_2a p1_2k p1_2n p1_2w)] : List va_W)) sz) t) (va_A (List.flatten ([(oX1 (p0a 0) p0a p0k p0n p0w p0l), (oX1 (p1a 0) p1a p1k p1n p1w p1l), (oX9 (p0a 3) p0_2a p0_2k p0_2n p0_2w), (oX9 (p1a 3) p1_2a p1_2k p1_2n p1_2w)] : List va_W)) sz)) (hcX1 p0n (o.2.1) + hcX9 p0_2n (o.2.2.2)) (3 * (gcX1 p0n (o.2.1) + gcX9 p0_2n (o.2.2.2))) (va_A (List.flatten ([(oX1 (p0a 0) p0a p0k p0n p0w p0l), (oX1 (p1a 0) p1a p1k p1n p1w p1l), (oX9 (p0a 3) p0_2a p0_2k p0_2n p0_2w), (oX9 (p1a 3) p1_2a p1_2k p1_2n p1_2w)] : List va_W)) sz) := by
  refine Met.ofW (cc := cX1_copyFrom) (maxL := 5) (ret := (Option.none : Option Jvm.ClassFile.FieldType)) (by decide) rfl ?_
  intro p e s m args below meth c s₁ B hml hv
  obtain ⟨rfl, hsz, hP, hK, hD0, hE⟩ := hv
  have hx := B.exec
  have hb := B.bytes
  have hr := B.returns
  have hts0 := atoms_spec (ws := wz yX1_copyFrom cX1_copyFrom 5 (Option.none : Option Jvm.ClassFile.FieldType)) B.pre
  have hts : ∀ w ∈ gw, w.before _ s = true := fun w h => hts0 w (List.mem_cons_of_mem _ h)
  have hown : s.vm.findClass RX1 = some m.cls := findClass_of_methodNamed B.named
  have hlocks := B.notSynchronized
  subst hsz
  have hD := hD0.self (sz := s.heap.size)
  refine gQ9 ?_
  intro Q hQ
  generalize hAe : va_A (List.flatten ([(oX1 (p0a 0) p0a p0k p0n p0w p0l), (oX1 (p1a 0) p1a p1k p1n p1w p1l), (oX9 (p0a 3) p0_2a p0_2k p0_2n p0_2w), (oX9 (p1a 3) p1_2a p1_2k p1_2n p1_2w)] : List va_W)) s.heap.size = A at hD hE hQ
  have hA : ∀ q : Nat, s.heap.size ≤ q → A q := fun q h => by rw [← hAe]; exact Or.inr h
  have hS : va_S A s.heap s.heap [] := va_S.rf
  have hP : va_P (dC, dI) cls (List.flatten ([(oX1 (p0a 0) p0a p0k p0n p0w p0l), (oX1 (p1a 0) p1a p1k p1n p1w p1l), (oX9 (p0a 3) p0_2a p0_2k p0_2n p0_2w), (oX9 (p1a 3) p1_2a p1_2k p1_2n p1_2w)] : List va_W)) s.heap := hP
  have hl := lv_entry ([.ref (p0a 0), .ref (p1a 0)]) (n := 5) (Nat.le_of_ble_eq_true rfl)
  rw [lg_entry_eq]
  generalize (lg_sl ([.ref (p0a 0), .ref (p1a 0)]) ++ List.replicate (5 - (lg_sl ([.ref (p0a 0), .ref (p1a 0)])).length) Slot.unset).toArray = ls at hl ⊢
  have hl : lv_has ls 5 [(0, .ref (p0a 0)), (1, .ref (p1a 0))] := hl
  obtain ⟨H, hHe⟩ : ∃ H, H = s.heap := ⟨_, rfl⟩
  obtain ⟨locs, hle⟩ : ∃ locs : List Loc, locs = [] := ⟨_, rfl⟩
  rw [← hHe] at hP
  have hS : va_S A s.heap H locs := by rw [hHe, hle]; exact hS
  show W p l e ({ frames := 4, cells := (hcX1 p0n (o.2.1) + hcX9 p0_2n (o.2.2.2)), slots := (3 * (gcX1 p0n (o.2.1) + gcX9 p0_2n (o.2.2.2))), locals := 113 } : Room) s m ([.ref (p0a 0), .ref (p1a 0)] : List Value).toArray below meth c s.heap [] 0 0 Q (F0 m 0 ls [])
  rw [← hle]
  refine wH9 hHe ?_
  have hg_p0 := glX1_rf p0n
  have hg_p0_2 := glX9_rf p0_2n
  have hgn_p0 : glX1 p0n (o.2.1) := ((mo_fX1_copyFrom hrun).1)
  have hgn_p0_2 : glX9 p0_2n (o.2.2.2) := ((mo_fX1_copyFrom hrun).2)
  refine W.widen (k := (hcX1 p0n p0n + hcX9 p0_2n p0_2n)) (n := (3 * (gcX1 p0n p0n + gcX9 p0_2n p0_2n))) (Nat.zero_le _) (Nat.zero_le _) ?_
  unfold fX1_copyFrom at hrun
  refine lv_aload_n hx hb dX1_copyFrom_0 rfl (lv_at hl 0 rfl) ?_
  obtain ⟨o_1, hc_1, hrun⟩ := bnd9 hrun
  have hPx : va_P (dC, dI) cls ((List.flatten ([(oX1 (p0a 0) p0a p0k p0n p0w p0l), (oX9 (p0a 3) p0_2a p0_2k p0_2n p0_2w)] : List va_W)) ++ (List.flatten ([(oX1 (p1a 0) p1a p1k p1n p1w p1l), (oX9 (p1a 3) p1_2a p1_2k p1_2n p1_2w)] : List va_W))) H := vP_fa (vP_perm hP (bP (((List.Perm.refl _)).trans ((((((List.Perm.refl _)).cons _).trans (List.Perm.swap _ _ _))).cons _))))
  have hDx : va_D A ((List.flatten ([(oX1 (p0a 0) p0a p0k p0n p0w p0l), (oX9 (p0a 3) p0_2a p0_2k p0_2n p0_2w)] : List va_W)) ++ (List.flatten ([(oX1 (p1a 0) p1a p1k p1n p1w p1l), (oX9 (p1a 3) p1_2a p1_2k p1_2n p1_2w)] : List va_W))) := vD_fa (vD_perm hD (bP (((List.Perm.refl _)).trans ((((((List.Perm.refl _)).cons _).trans (List.Perm.swap _ _ _))).cons _))))
  have hKx : va_K (dC, dI) cls ((List.flatten ([(tX1 p0k), (tX9 p0_2k)] : List (List (ClassId × FieldType)))) ++ (List.flatten ([(tX1 p1k), (tX9 p1_2k)] : List (List (ClassId × FieldType))))) s := vK_fa (vK_perm hK (bP (((List.Perm.refl _)).trans ((((((List.Perm.refl _)).cons _).trans (List.Perm.swap _ _ _))).cons _))))
  have hPc := vP_l hPx
  have hDc := vD_l hDx
  have hKc := vK_l hKx
  have hFc := vfree hDx hS hA
  refine va_callv (va_runV (As := []) (rest := []) ⟨hx, hb, hml, hown, hts⟩ (kX1_clear l dC dI (p0a := p0a) (p0k := p0k) (p0n := p0n) (p0w := p0w) (p0l := p0l) (p0_2a := p0_2a) (p0_2k := p0_2k) (p0_2n := p0_2n) (p0_2w := p0_2w) (sz := _) (o := o_1) (hrun := hc_1)) (cwV 0 hts (gi_V qw146 qw147 qw148 qw126 (gi_z qw145)) rfl rfl rfl (by decide +kernel) ⟨Nat.le_of_ble_eq_true rfl, Nat.le_of_ble_eq_true rfl⟩) ⟨PRE.blind, va_recv hKc hPc (ci := 4) (q0 := 0) rfl rfl, PRE.of hE hS hFc hPc hKc hDc⟩ rfl rfl hl.1 rfl (lv_room (Nat.le_of_ble_eq_true rfl)) dX1_copyFrom_1 ⟨(show (hcX1 p0n p0n + hcX9 p0_2n p0_2n) + 0 ≤ (hcX1 p0n (o.2.1) + hcX9 p0_2n (o.2.2.2)) from by have q0 := gmX1 hg_p0 hgn_p0; have q1 := gmX9 hg_p0_2 hgn_p0_2; omega), (show (3 * (gcX1 p0n p0n + gcX9 p0_2n p0_2n)) + 0 ≤ (3 * (gcX1 p0n (o.2.1) + gcX9 p0_2n (o.2.2.2))) from by have q0 := gmX1 hg_p0 hgn_p0; have q1 := gmX9 hg_p0_2 hgn_p0_2; omega)⟩) hS (fun q _ h => hFc q h) hFc (fun u t H locs ht hvm hw hB hz1 hk1 hS => ?_)
  obtain ⟨b1, b2, b3⟩ := hB
  rw [ht] at b1
  obtain ⟨hP, hD, hK⟩ := JOINC (wc := (List.flatten ([(oX1 (p0a 0) p0a p0k p0n p0w p0l), (oX9 (p0a 3) p0_2a p0_2k p0_2n p0_2w)] : List va_W))) (wr := (List.flatten ([(oX1 (p1a 0) p1a p1k p1n p1w p1l), (oX9 (p1a 3) p1_2a p1_2k p1_2n p1_2w)] : List va_W))) (w1 := (List.flatten ([(oX1 (p0a 0) p0a p0k p0n (o_1.1) p0l), (oX9 (p0a 3) p0_2a p0_2k p0_2n (o_1.2))] : List va_W))) (t1 := (List.flatten ([(tX1 p0k), (tX9 p0_2k)] : List (List (ClassId × FieldType))))) hPx hDx hKx hk1 hFc b1 (va_K.moved hvm.symm b2) b3
  have hP : va_P (dC, dI) cls (List.flatten ([(oX1 (p0a 0) p0a p0k p0n (o_1.1) p0l), (oX1 (p1a 0) p1a p1k p1n p1w p1l), (oX9 (p0a 3) p0_2a p0_2k p0_2n (o_1.2)), (oX9 (p1a 3) p1_2a p1_2k p1_2n p1_2w)] : List va_W)) H := vP_perm (vP_fb hP) (bP (((List.Perm.refl _)).trans ((((((List.Perm.refl _)).cons _).trans (List.Perm.swap _ _ _))).cons _)))
  have hD : va_D A (List.flatten ([(oX1 (p0a 0) p0a p0k p0n (o_1.1) p0l), (oX1 (p1a 0) p1a p1k p1n p1w p1l), (oX9 (p0a 3) p0_2a p0_2k p0_2n (o_1.2)), (oX9 (p1a 3) p1_2a p1_2k p1_2n p1_2w)] : List va_W)) := vD_perm (vD_fb hD) (bP (((List.Perm.refl _)).trans ((((((List.Perm.refl _)).cons _).trans (List.Perm.swap _ _ _))).cons _)))
  have hK : va_K (dC, dI) cls (List.flatten ([(tX1 p0k), (tX1 p1k), (tX9 p0_2k), (tX9 p1_2k)] : List (List (ClassId × FieldType)))) s := vK_perm (vK_fb hK) (bP (((List.Perm.refl _)).trans ((((((List.Perm.refl _)).cons _).trans (List.Perm.swap _ _ _))).cons _)))
  refine lv_aload_n hx hb dX1_copyFrom_4 rfl (lv_at hl 0 rfl) ?_
  refine lv_aload_n hx hb dX1_copyFrom_5 rfl (lv_at hl 1 rfl) ?_
  refine va_get (D := (dC, dI)) (ci := 4) (v := .int (p1w 0 1)) (C := RX1) (T := TX1) (N := 21) hx hb hts i_X1 hown hK hP 18 rfl rfl 1 (by decide) (hts _ qw143) (fun _ h9 => h9) rfl dX1_copyFrom_6 ?_
  refine va_put (D := (dC, dI)) (ci := 4) (v := .int (p1w 0 1)) (ty := .int) (C := RX1) (T := TX1) (N := 21) hx hb hts i_X1 tyX1 tyX1_ok nmX1 hown hK hP hD hS 0 rfl rfl 1 (by decide) (hts _ qw143) (fun _ h9 => h9) rfl (by decide +kernel) rfl rfl (Nat.le_of_ble_eq_true rfl) dX1_copyFrom_9 (fun H locs hP hD hS => ?_)
  have hP : va_P (dC, dI) cls (List.flatten ([(oX1 (p0a 0) p0a p0k p0n (upw (o_1.1) 0 1 (p1w 0 1)) p0l), (oX1 (p1a 0) p1a p1k p1n p1w p1l), (oX9 (p0a 3) p0_2a p0_2k p0_2n (o_1.2)), (oX9 (p1a 3) p1_2a p1_2k p1_2n p1_2w)] : List va_W)) H := hP
  have hD : va_D A (List.flatten ([(oX1 (p0a 0) p0a p0k p0n (upw (o_1.1) 0 1 (p1w 0 1)) p0l), (oX1 (p1a 0) p1a p1k p1n p1w p1l), (oX9 (p0a 3) p0_2a p0_2k p0_2n (o_1.2)), (oX9 (p1a 3) p1_2a p1_2k p1_2n p1_2w)] : List va_W)) := hD
  obtain ⟨w2, ew2, hrun⟩ := let9 hrun
  rw [← ew2] at hP hD
  refine lv_iconst (v := 0) hx hb dX1_copyFrom_12 (by decide) ?_
  refine lv_istore_n (lv' := [(2, .int 0), (0, .ref (p0a 0)), (1, .ref (p1a 0))]) hx hb dX1_copyFrom_13 rfl hl (by decide) rfl (fun ls hl => ?_)
  obtain ⟨o14, hc14, hrun⟩ := bnd9 hrun
  have hgn_p0 : glX1 (o14.2.1) (o.2.1) := ((mo_fX1_copyFrom_G191_50 hrun).1)
  have hgn_p0_2 : glX9 (o14.2.2.2) (o.2.2.2) := ((mo_fX1_copyFrom_G191_50 hrun).2)
  have L14 : ∀ (n_14 : Nat) (v2_14 : Int32) (p0w_14 : ST) (p0n_14 : Nat → Nat) (p0_2w_14 : ST) (p0_2n_14 : Nat → Nat) (xp0_18_14 : Nat) (zp0_18_14 : ClassId) (xp0_19_14 : Nat) (zp0_19_14 : ClassId) (xp0_20_14 : Nat) (zp0_20_14 : ClassId) (xp0_2_1_14 : Nat) (zp0_2_1_14 : ClassId) (xp0_2_2_14 : Nat) (zp0_2_2_14 : ClassId) (xp0_2_3_14 : Nat) (zp0_2_3_14 : ClassId) (xp0_2_4_14 : Nat) (zp0_2_4_14 : ClassId) (xp0_2_5_14 : Nat) (zp0_2_5_14 : ClassId) (o14 : ST × (Nat → Nat) × ST × (Nat → Nat)) (H : Heap) (locs : List Loc) (ls : Array Slot), (fX1_copyFrom_L14 p1n p1w p1_2n p1_2w n_14) v2_14 p0w_14 p0n_14 p0_2w_14 p0_2n_14 = some o14 → va_P (dC, dI) cls (List.flatten ([(oX1 (p0a 0) (st1 (st1 (st1 p0a 19 xp0_18_14) 20 xp0_19_14) 21 xp0_20_14) (st1 (st1 (st1 p0k 19 zp0_18_14) 20 zp0_19_14) 21 zp0_20_14) p0n_14 p0w_14 p0l), (oX1 (p1a 0) p1a p1k p1n p1w p1l), (oX9 (p0a 3) (st1 (st1 (st1 (st1 (st1 p0_2a 2 xp0_2_1_14) 3 xp0_2_2_14) 4 xp0_2_3_14) 5 xp0_2_4_14) 6 xp0_2_5_14) (st1 (st1 (st1 (st1 (st1 p0_2k 2 zp0_2_1_14) 3 zp0_2_2_14) 4 zp0_2_3_14) 5 zp0_2_4_14) 6 zp0_2_5_14) p0_2n_14 p0_2w_14), (oX9 (p1a 3) p1_2a p1_2k p1_2n p1_2w)] : List va_W)) H → va_D A (List.flatten ([(oX1 (p0a 0) (st1 (st1 (st1 p0a 19 xp0_18_14) 20 xp0_19_14) 21 xp0_20_14) (st1 (st1 (st1 p0k 19 zp0_18_14) 20 zp0_19_14) 21 zp0_20_14) p0n_14 p0w_14 p0l), (oX1 (p1a 0) p1a p1k p1n p1w p1l), (oX9 (p0a 3) (st1 (st1 (st1 (st1 (st1 p0_2a 2 xp0_2_1_14) 3 xp0_2_2_14) 4 xp0_2_3_14) 5 xp0_2_4_14) 6 xp0_2_5_14) (st1 (st1 (st1 (st1 (st1 p0_2k 2 zp0_2_1_14) 3 zp0_2_2_14) 4 zp0_2_3_14) 5 zp0_2_4_14) 6 zp0_2_5_14) p0_2n_14 p0_2w_14), (oX9 (p1a 3) p1_2a p1_2k p1_2n p1_2w)] : List va_W)) → va_K (dC, dI) cls (List.flatten ([(tX1 (st1 (st1 (st1 p0k 19 zp0_18_14) 20 zp0_19_14) 21 zp0_20_14)), (tX1 p1k), (tX9 (st1 (st1 (st1 (st1 (st1 p0_2k 2 zp0_2_1_14) 3 zp0_2_2_14) 4 zp0_2_3_14) 5 zp0_2_4_14) 6 zp0_2_5_14)), (tX9 p1_2k)] : List (List (ClassId × FieldType)))) s → va_S A s.heap H locs → lv_has ls 5 [(0, .ref (p0a 0)), (1, .ref (p1a 0)), (2, .int v2_14)] → glX1 p0n p0n_14 → glX9 p0_2n p0_2n_14 → glX1 (o14.2.1) (o.2.1) → glX9 (o14.2.2.2) (o.2.2.2) → (∀ (xp0_18_14x : Nat) (zp0_18_14x : ClassId) (xp0_19_14x : Nat) (zp0_19_14x : ClassId) (xp0_20_14x : Nat) (zp0_20_14x : ClassId) (xp0_2_1_14x : Nat) (zp0_2_1_14x : ClassId) (xp0_2_2_14x : Nat) (zp0_2_2_14x : ClassId) (xp0_2_3_14x : Nat) (zp0_2_3_14x : ClassId) (xp0_2_4_14x : Nat) (zp0_2_4_14x : ClassId) (xp0_2_5_14x : Nat) (zp0_2_5_14x : ClassId) (H : Heap) (locs : List Loc) (ls : Array Slot), va_P (dC, dI) cls (List.flatten ([(oX1 (p0a 0) (st1 (st1 (st1 p0a 19 xp0_18_14x) 20 xp0_19_14x) 21 xp0_20_14x) (st1 (st1 (st1 p0k 19 zp0_18_14x) 20 zp0_19_14x) 21 zp0_20_14x) (o14.2.1) (o14.1) p0l), (oX1 (p1a 0) p1a p1k p1n p1w p1l), (oX9 (p0a 3) (st1 (st1 (st1 (st1 (st1 p0_2a 2 xp0_2_1_14x) 3 xp0_2_2_14x) 4 xp0_2_3_14x) 5 xp0_2_4_14x) 6 xp0_2_5_14x) (st1 (st1 (st1 (st1 (st1 p0_2k 2 zp0_2_1_14x) 3 zp0_2_2_14x) 4 zp0_2_3_14x) 5 zp0_2_4_14x) 6 zp0_2_5_14x) (o14.2.2.2) (o14.2.2.1)), (oX9 (p1a 3) p1_2a p1_2k p1_2n p1_2w)] : List va_W)) H → va_D A (List.flatten ([(oX1 (p0a 0) (st1 (st1 (st1 p0a 19 xp0_18_14x) 20 xp0_19_14x) 21 xp0_20_14x) (st1 (st1 (st1 p0k 19 zp0_18_14x) 20 zp0_19_14x) 21 zp0_20_14x) (o14.2.1) (o14.1) p0l), (oX1 (p1a 0) p1a p1k p1n p1w p1l), (oX9 (p0a 3) (st1 (st1 (st1 (st1 (st1 p0_2a 2 xp0_2_1_14x) 3 xp0_2_2_14x) 4 xp0_2_3_14x) 5 xp0_2_4_14x) 6 xp0_2_5_14x) (st1 (st1 (st1 (st1 (st1 p0_2k 2 zp0_2_1_14x) 3 zp0_2_2_14x) 4 zp0_2_3_14x) 5 zp0_2_4_14x) 6 zp0_2_5_14x) (o14.2.2.2) (o14.2.2.1)), (oX9 (p1a 3) p1_2a p1_2k p1_2n p1_2w)] : List va_W)) → va_K (dC, dI) cls (List.flatten ([(tX1 (st1 (st1 (st1 p0k 19 zp0_18_14x) 20 zp0_19_14x) 21 zp0_20_14x)), (tX1 p1k), (tX9 (st1 (st1 (st1 (st1 (st1 p0_2k 2 zp0_2_1_14x) 3 zp0_2_2_14x) 4 zp0_2_3_14x) 5 zp0_2_4_14x) 6 zp0_2_5_14x)), (tX9 p1_2k)] : List (List (ClassId × FieldType)))) s → va_S A s.heap H locs → lv_has ls 5 [(0, .ref (p0a 0)), (1, .ref (p1a 0))] → glX1 p0n (o14.2.1) → glX9 p0_2n (o14.2.2.2) → W p l e ({ frames := 4, cells := (hcX1 p0n (o.2.1) + hcX9 p0_2n (o.2.2.2)), slots := (3 * (gcX1 p0n (o.2.1) + gcX9 p0_2n (o.2.2.2))), locals := 113 } : Room) s m ([.ref (p0a 0), .ref (p1a 0)] : List Value).toArray below meth c H locs (hcX1 p0n (o14.2.1) + hcX9 p0_2n (o14.2.2.2)) (3 * (gcX1 p0n (o14.2.1) + gcX9 p0_2n (o14.2.2.2))) Q (F0 m 191 ls [])) → W p l e ({ frames := 4, cells := (hcX1 p0n (o.2.1) + hcX9 p0_2n (o.2.2.2)), slots := (3 * (gcX1 p0n (o.2.1) + gcX9 p0_2n (o.2.2.2))), locals := 113 } : Room) s m ([.ref (p0a 0), .ref (p1a 0)] : List Value).toArray below meth c H locs (hcX1 p0n p0n_14 + hcX9 p0_2n p0_2n_14) (3 * (gcX1 p0n p0n_14 + gcX9 p0_2n p0_2n_14)) Q (F0 m 14 ls []) := by
    intro n_14
    induction n_14 with
    | zero => intro v2_14 p0w_14 p0n_14 p0_2w_14 p0_2n_14 xp0_18_14 zp0_18_14 xp0_19_14 zp0_19_14 xp0_20_14 zp0_20_14 xp0_2_1_14 zp0_2_1_14 xp0_2_2_14 zp0_2_2_14 xp0_2_3_14 zp0_2_3_14 xp0_2_4_14 zp0_2_4_14 xp0_2_5_14 zp0_2_5_14 o14 H locs ls hrun; exact (no9 rfl hrun).elim
    | succ n_14 IH14 =>
      intro v2_14 p0w_14 p0n_14 p0_2w_14 p0_2n_14 xp0_18_14 zp0_18_14 xp0_19_14 zp0_19_14 xp0_20_14 zp0_20_14 xp0_2_1_14 zp0_2_1_14 xp0_2_2_14 zp0_2_2_14 xp0_2_3_14 zp0_2_3_14 xp0_2_4_14 zp0_2_4_14 xp0_2_5_14 zp0_2_5_14 o14 H locs ls hrun hP hD hK hS hl hg_p0 hg_p0_2 hgo_p0 hgo_p0_2 hk14
      have hgn_p0 : glX1 p0n_14 (o.2.1) := (glX1_tr ((mo_fX1_copyFrom_L14 (n_14 + 1) _ _ _ _ _ _ hrun).1) hgo_p0)
      have hgn_p0_2 : glX9 p0_2n_14 (o.2.2.2) := (glX9_tr ((mo_fX1_copyFrom_L14 (n_14 + 1) _ _ _ _ _ _ hrun).2) hgo_p0_2)
      unfold fX1_copyFrom_L14 at hrun
      refine lv_iload_n hx hb dX1_copyFrom_14 rfl (lv_at hl 2 rfl) ?_
      refine lv_aload_n hx hb dX1_copyFrom_15 rfl (lv_at hl 1 rfl) ?_
      refine va_get (D := (dC, dI)) (ci := 4) (v := .int (p1w 0 0)) (C := RX1) (T := TX1) (N := 21) hx hb hts i_X1 hown hK hP 18 rfl rfl 0 (by decide) (hts _ qw110) (fun _ h9 => h9) rfl dX1_copyFrom_16 ?_
      rcases br9 hrun with ⟨hc3, hrun⟩ | ⟨hc3, hrun⟩
      · refine lv_icmp_ge (tgt := 191) hx hb dX1_copyFrom_19 (by decide) (fun _ => ?_) (fun c => absurd hc3 c)
        obtain rfl := (Option.some.inj hrun)
        exact hk14 xp0_18_14 zp0_18_14 xp0_19_14 zp0_19_14 xp0_20_14 zp0_20_14 xp0_2_1_14 zp0_2_1_14 xp0_2_2_14 zp0_2_2_14 xp0_2_3_14 zp0_2_3_14 xp0_2_4_14 zp0_2_4_14 xp0_2_5_14 zp0_2_5_14 _ _ _ hP hD hK hS (lv_sub hl [0, 1] rfl) hg_p0 hg_p0_2
      · refine lv_icmp_ge (tgt := 191) hx hb dX1_copyFrom_19 (by decide) (fun c => absurd c hc3) (fun _ => ?_)
        refine lv_aload_n hx hb dX1_copyFrom_22 rfl (lv_at hl 0 rfl) ?_
        refine lv_aload_n hx hb dX1_copyFrom_23 rfl (lv_at hl 1 rfl) ?_
        refine va_get (D := (dC, dI)) (ci := 4) (v := .ref (p1a 8)) (C := RX1) (T := TX1) (N := 21) hx hb hts i_X1 hown hK hP 18 rfl rfl 7 (by decide) (hts _ qw115) (fun _ h9 => h9) rfl dX1_copyFrom_24 ?_
        refine lv_iload_n hx hb dX1_copyFrom_27 rfl (lv_at hl 2 rfl) ?_
        obtain ⟨hq4, hrun⟩ := chk9 hrun
        refine va_iald hx hb hK hP 23 21 rfl rfl (ixb_in hq4) dX1_copyFrom_28 ?_
        refine lv_aload_n hx hb dX1_copyFrom_29 rfl (lv_at hl 1 rfl) ?_
        refine va_get (D := (dC, dI)) (ci := 4) (v := .ref (p1a 9)) (C := RX1) (T := TX1) (N := 21) hx hb hts i_X1 hown hK hP 18 rfl rfl 8 (by decide) (hts _ qw116) (fun _ h9 => h9) rfl dX1_copyFrom_30 ?_
        refine lv_iload_n hx hb dX1_copyFrom_33 rfl (lv_at hl 2 rfl) ?_
        obtain ⟨hq5, hrun⟩ := chk9 hrun
        refine va_iald hx hb hK hP 24 22 rfl rfl (ixb_in hq5) dX1_copyFrom_34 ?_
        refine lv_aload_n hx hb dX1_copyFrom_35 rfl (lv_at hl 1 rfl) ?_
        refine va_get (D := (dC, dI)) (ci := 4) (v := .ref (p1a 10)) (C := RX1) (T := TX1) (N := 21) hx hb hts i_X1 hown hK hP 18 rfl rfl 9 (by decide) (hts _ qw117) (fun _ h9 => h9) rfl dX1_copyFrom_36 ?_
        refine lv_iload_n hx hb dX1_copyFrom_39 rfl (lv_at hl 2 rfl) ?_
        obtain ⟨hq6, hrun⟩ := chk9 hrun
        refine va_iald hx hb hK hP 25 23 rfl rfl (ixb_in hq6) dX1_copyFrom_40 ?_
        refine lv_aload_n hx hb dX1_copyFrom_41 rfl (lv_at hl 1 rfl) ?_
        refine va_get (D := (dC, dI)) (ci := 4) (v := .ref (p1a 11)) (C := RX1) (T := TX1) (N := 21) hx hb hts i_X1 hown hK hP 18 rfl rfl 10 (by decide) (hts _ qw118) (fun _ h9 => h9) rfl dX1_copyFrom_42 ?_
        refine lv_iload_n hx hb dX1_copyFrom_45 rfl (lv_at hl 2 rfl) ?_
        obtain ⟨hq7, hrun⟩ := chk9 hrun
        refine va_iald hx hb hK hP 26 24 rfl rfl (ixb_in hq7) dX1_copyFrom_46 ?_
        obtain ⟨o_8, hc_8, hrun⟩ := bnd9 hrun
        have hPx : va_P (dC, dI) cls ((List.flatten ([(oX1 (p0a 0) (st1 (st1 (st1 p0a 19 xp0_18_14) 20 xp0_19_14) 21 xp0_20_14) (st1 (st1 (st1 p0k 19 zp0_18_14) 20 zp0_19_14) 21 zp0_20_14) p0n_14 p0w_14 p0l)] : List va_W)) ++ (List.flatten ([(oX1 (p1a 0) p1a p1k p1n p1w p1l), (oX9 (p0a 3) (st1 (st1 (st1 (st1 (st1 p0_2a 2 xp0_2_1_14) 3 xp0_2_2_14) 4 xp0_2_3_14) 5 xp0_2_4_14) 6 xp0_2_5_14) (st1 (st1 (st1 (st1 (st1 p0_2k 2 zp0_2_1_14) 3 zp0_2_2_14) 4 zp0_2_3_14) 5 zp0_2_4_14) 6 zp0_2_5_14) p0_2n_14 p0_2w_14), (oX9 (p1a 3) p1_2a p1_2k p1_2n p1_2w)] : List va_W))) H := vP_fa (vP_perm hP (bP (List.Perm.refl _)))
        have hDx : va_D A ((List.flatten ([(oX1 (p0a 0) (st1 (st1 (st1 p0a 19 xp0_18_14) 20 xp0_19_14) 21 xp0_20_14) (st1 (st1 (st1 p0k 19 zp0_18_14) 20 zp0_19_14) 21 zp0_20_14) p0n_14 p0w_14 p0l)] : List va_W)) ++ (List.flatten ([(oX1 (p1a 0) p1a p1k p1n p1w p1l), (oX9 (p0a 3) (st1 (st1 (st1 (st1 (st1 p0_2a 2 xp0_2_1_14) 3 xp0_2_2_14) 4 xp0_2_3_14) 5 xp0_2_4_14) 6 xp0_2_5_14) (st1 (st1 (st1 (st1 (st1 p0_2k 2 zp0_2_1_14) 3 zp0_2_2_14) 4 zp0_2_3_14) 5 zp0_2_4_14) 6 zp0_2_5_14) p0_2n_14 p0_2w_14), (oX9 (p1a 3) p1_2a p1_2k p1_2n p1_2w)] : List va_W))) := vD_fa (vD_perm hD (bP (List.Perm.refl _)))
        have hKx : va_K (dC, dI) cls ((List.flatten ([(tX1 (st1 (st1 (st1 p0k 19 zp0_18_14) 20 zp0_19_14) 21 zp0_20_14))] : List (List (ClassId × FieldType)))) ++ (List.flatten ([(tX1 p1k), (tX9 (st1 (st1 (st1 (st1 (st1 p0_2k 2 zp0_2_1_14) 3 zp0_2_2_14) 4 zp0_2_3_14) 5 zp0_2_4_14) 6 zp0_2_5_14)), (tX9 p1_2k)] : List (List (ClassId × FieldType))))) s := vK_fa (vK_perm hK (bP (List.Perm.refl _)))
        have hPc := vP_l hPx
        have hDc := vD_l hDx
        have hKc := vK_l hKx
        have hFc := vfree hDx hS hA
        refine va_calli (va_runV (As := [.int (p1w 8 (nn v2_14)), .int (p1w 9 (nn v2_14)), .int (p1w 10 (nn v2_14)), .int (p1w 11 (nn v2_14))]) (rest := []) ⟨hx, hb, hml, hown, hts⟩ (kX1_addBlock l dC dI (p0a := (st0 (p0a 0) (st1 (st1 (st1 p0a 19 xp0_18_14) 20 xp0_19_14) 21 xp0_20_14))) (p0k := (st1 (st1 (st1 p0k 19 zp0_18_14) 20 zp0_19_14) 21 zp0_20_14)) (p0n := p0n_14) (p0w := p0w_14) (p0l := p0l) (p1 := (p1w 8 (nn v2_14))) (p2 := (p1w 9 (nn v2_14))) (p3 := (p1w 10 (nn v2_14))) (p4 := (p1w 11 (nn v2_14))) (sz := _) (o := o_8) (hrun := hc_8)) (cwV 4 hts (gi_V qw150 qw151 qw152 qw126 (gi_z qw149)) rfl rfl rfl (by decide +kernel) ⟨Nat.le_of_ble_eq_true rfl, Nat.le_of_ble_eq_true rfl⟩) ⟨PRE.blind, va_recv hKc hPc (ci := 4) (q0 := 0) rfl rfl, PRE.of hE hS hFc hPc hKc hDc⟩ rfl rfl hl.1 rfl (lv_room (Nat.le_of_ble_eq_true rfl)) dX1_copyFrom_47 ⟨(show (hcX1 p0n p0n_14 + hcX9 p0_2n p0_2n_14) + 0 ≤ (hcX1 p0n (o.2.1) + hcX9 p0_2n (o.2.2.2)) from by have q0 := gmX1 hg_p0 hgn_p0; have q1 := gmX9 hg_p0_2 hgn_p0_2; omega), (show (3 * (gcX1 p0n p0n_14 + gcX9 p0_2n p0_2n_14)) + 0 ≤ (3 * (gcX1 p0n (o.2.1) + gcX9 p0_2n (o.2.2.2))) from by have q0 := gmX1 hg_p0 hgn_p0; have q1 := gmX9 hg_p0_2 hgn_p0_2; omega)⟩) hS (fun q _ h => hFc q h) hFc (fun r9 u t H locs ht hvm hw hB hz1 hk1 hS => ?_)
        obtain ⟨b1, b2, b3⟩ := hB
        rw [ht] at b1
        obtain ⟨hP, hD, hK⟩ := JOINC (wc := (List.flatten ([(oX1 (p0a 0) (st1 (st1 (st1 p0a 19 xp0_18_14) 20 xp0_19_14) 21 xp0_20_14) (st1 (st1 (st1 p0k 19 zp0_18_14) 20 zp0_19_14) 21 zp0_20_14) p0n_14 p0w_14 p0l)] : List va_W))) (wr := (List.flatten ([(oX1 (p1a 0) p1a p1k p1n p1w p1l), (oX9 (p0a 3) (st1 (st1 (st1 (st1 (st1 p0_2a 2 xp0_2_1_14) 3 xp0_2_2_14) 4 xp0_2_3_14) 5 xp0_2_4_14) 6 xp0_2_5_14) (st1 (st1 (st1 (st1 (st1 p0_2k 2 zp0_2_1_14) 3 zp0_2_2_14) 4 zp0_2_3_14) 5 zp0_2_4_14) 6 zp0_2_5_14) p0_2n_14 p0_2w_14), (oX9 (p1a 3) p1_2a p1_2k p1_2n p1_2w)] : List va_W))) (w1 := (List.flatten ([(oX1 (p0a 0) (st1 (st1 (st1 p0a 19 xp0_18_14) 20 xp0_19_14) 21 xp0_20_14) (st1 (st1 (st1 p0k 19 zp0_18_14) 20 zp0_19_14) 21 zp0_20_14) p0n_14 (o_8.2) p0l)] : List va_W))) (t1 := (List.flatten ([(tX1 (st1 (st1 (st1 p0k 19 zp0_18_14) 20 zp0_19_14) 21 zp0_20_14))] : List (List (ClassId × FieldType))))) hPx hDx hKx hk1 hFc b1 (va_K.moved hvm.symm b2) b3
        have hP : va_P (dC, dI) cls (List.flatten ([(oX1 (p0a 0) (st1 (st1 (st1 p0a 19 xp0_18_14) 20 xp0_19_14) 21 xp0_20_14) (st1 (st1 (st1 p0k 19 zp0_18_14) 20 zp0_19_14) 21 zp0_20_14) p0n_14 (o_8.2) p0l), (oX1 (p1a 0) p1a p1k p1n p1w p1l), (oX9 (p0a 3) (st1 (st1 (st1 (st1 (st1 p0_2a 2 xp0_2_1_14) 3 xp0_2_2_14) 4 xp0_2_3_14) 5 xp0_2_4_14) 6 xp0_2_5_14) (st1 (st1 (st1 (st1 (st1 p0_2k 2 zp0_2_1_14) 3 zp0_2_2_14) 4 zp0_2_3_14) 5 zp0_2_4_14) 6 zp0_2_5_14) p0_2n_14 p0_2w_14), (oX9 (p1a 3) p1_2a p1_2k p1_2n p1_2w)] : List va_W)) H := vP_perm (vP_fb hP) (bP (List.Perm.refl _))
        have hD : va_D A (List.flatten ([(oX1 (p0a 0) (st1 (st1 (st1 p0a 19 xp0_18_14) 20 xp0_19_14) 21 xp0_20_14) (st1 (st1 (st1 p0k 19 zp0_18_14) 20 zp0_19_14) 21 zp0_20_14) p0n_14 (o_8.2) p0l), (oX1 (p1a 0) p1a p1k p1n p1w p1l), (oX9 (p0a 3) (st1 (st1 (st1 (st1 (st1 p0_2a 2 xp0_2_1_14) 3 xp0_2_2_14) 4 xp0_2_3_14) 5 xp0_2_4_14) 6 xp0_2_5_14) (st1 (st1 (st1 (st1 (st1 p0_2k 2 zp0_2_1_14) 3 zp0_2_2_14) 4 zp0_2_3_14) 5 zp0_2_4_14) 6 zp0_2_5_14) p0_2n_14 p0_2w_14), (oX9 (p1a 3) p1_2a p1_2k p1_2n p1_2w)] : List va_W)) := vD_perm (vD_fb hD) (bP (List.Perm.refl _))
        have hK : va_K (dC, dI) cls (List.flatten ([(tX1 (st1 (st1 (st1 p0k 19 zp0_18_14) 20 zp0_19_14) 21 zp0_20_14)), (tX1 p1k), (tX9 (st1 (st1 (st1 (st1 (st1 p0_2k 2 zp0_2_1_14) 3 zp0_2_2_14) 4 zp0_2_3_14) 5 zp0_2_4_14) 6 zp0_2_5_14)), (tX9 p1_2k)] : List (List (ClassId × FieldType)))) s := vK_perm (vK_fb hK) (bP (List.Perm.refl _))
        obtain rfl : r9 = (o_8.1) := hw
        refine lv_pop hx hb dX1_copyFrom_50 rfl ?_
        refine lv_aload_n hx hb dX1_copyFrom_51 rfl (lv_at hl 0 rfl) ?_
        refine va_get (D := (dC, dI)) (ci := 4) (v := .ref (p0a 13)) (C := RX1) (T := TX1) (N := 21) hx hb hts i_X1 hown hK hP 0 rfl rfl 12 (by decide) (hts _ qw153) (fun _ h9 => h9) rfl dX1_copyFrom_52 ?_
        refine lv_iload_n hx hb dX1_copyFrom_55 rfl (lv_at hl 2 rfl) ?_
        refine lv_aload_n hx hb dX1_copyFrom_56 rfl (lv_at hl 1 rfl) ?_
        refine va_get (D := (dC, dI)) (ci := 4) (v := .ref (p1a 13)) (C := RX1) (T := TX1) (N := 21) hx hb hts i_X1 hown hK hP 18 rfl rfl 12 (by decide) (hts _ qw153) (fun _ h9 => h9) rfl dX1_copyFrom_57 ?_
        refine lv_iload_n hx hb dX1_copyFrom_60 rfl (lv_at hl 2 rfl) ?_
        obtain ⟨hq10, hrun⟩ := chk9 hrun
        refine va_iald hx hb hK hP 28 26 rfl rfl (ixb_in hq10) dX1_copyFrom_61 ?_
        obtain ⟨hq11, hrun⟩ := chk9 hrun
        refine va_iast hx hb hK hP hD hS 10 9 rfl rfl (ixb_in hq11) dX1_copyFrom_62 (fun H locs hP hD hS => ?_)
        have hP : va_P (dC, dI) cls (List.flatten ([(oX1 (p0a 0) (st1 (st1 (st1 p0a 19 xp0_18_14) 20 xp0_19_14) 21 xp0_20_14) (st1 (st1 (st1 p0k 19 zp0_18_14) 20 zp0_19_14) 21 zp0_20_14) p0n_14 (upw (o_8.2) 13 (nn v2_14) (p1w 13 (nn v2_14))) p0l), (oX1 (p1a 0) p1a p1k p1n p1w p1l), (oX9 (p0a 3) (st1 (st1 (st1 (st1 (st1 p0_2a 2 xp0_2_1_14) 3 xp0_2_2_14) 4 xp0_2_3_14) 5 xp0_2_4_14) 6 xp0_2_5_14) (st1 (st1 (st1 (st1 (st1 p0_2k 2 zp0_2_1_14) 3 zp0_2_2_14) 4 zp0_2_3_14) 5 zp0_2_4_14) 6 zp0_2_5_14) p0_2n_14 p0_2w_14), (oX9 (p1a 3) p1_2a p1_2k p1_2n p1_2w)] : List va_W)) H := hP
        have hD : va_D A (List.flatten ([(oX1 (p0a 0) (st1 (st1 (st1 p0a 19 xp0_18_14) 20 xp0_19_14) 21 xp0_20_14) (st1 (st1 (st1 p0k 19 zp0_18_14) 20 zp0_19_14) 21 zp0_20_14) p0n_14 (upw (o_8.2) 13 (nn v2_14) (p1w 13 (nn v2_14))) p0l), (oX1 (p1a 0) p1a p1k p1n p1w p1l), (oX9 (p0a 3) (st1 (st1 (st1 (st1 (st1 p0_2a 2 xp0_2_1_14) 3 xp0_2_2_14) 4 xp0_2_3_14) 5 xp0_2_4_14) 6 xp0_2_5_14) (st1 (st1 (st1 (st1 (st1 p0_2k 2 zp0_2_1_14) 3 zp0_2_2_14) 4 zp0_2_3_14) 5 zp0_2_4_14) 6 zp0_2_5_14) p0_2n_14 p0_2w_14), (oX9 (p1a 3) p1_2a p1_2k p1_2n p1_2w)] : List va_W)) := hD
        obtain ⟨w12, ew12, hrun⟩ := let9 hrun
        rw [← ew12] at hP hD
        refine lv_aload_n hx hb dX1_copyFrom_63 rfl (lv_at hl 1 rfl) ?_
        refine va_get (D := (dC, dI)) (ci := 4) (v := .ref (p1a 6)) (C := RX1) (T := TX1) (N := 21) hx hb hts i_X1 hown hK hP 18 rfl rfl 5 (by decide) (hts _ qw113) (fun _ h9 => h9) rfl dX1_copyFrom_64 ?_
        refine lv_iload_n hx hb dX1_copyFrom_67 rfl (lv_at hl 2 rfl) ?_
        obtain ⟨hq13, hrun⟩ := chk9 hrun
        refine va_iald hx hb hK hP 21 19 rfl rfl (ixb_in hq13) dX1_copyFrom_68 ?_
        refine lv_istore_n (lv' := [(3, .int (p1w 6 (nn v2_14))), (0, .ref (p0a 0)), (1, .ref (p1a 0)), (2, .int v2_14)]) hx hb dX1_copyFrom_69 rfl hl (by decide) rfl (fun ls hl => ?_)
        obtain ⟨o70, hc70, hrun⟩ := bnd9 hrun
        have hgn_p0 : glX1 (o70.2) (o.2.1) := (glX1_tr ((mo_fX1_copyFrom_G119_28 (mo_fX1_copyFrom_L14 n_14) hrun).1) hgo_p0)
        have hgn_p0_2 : glX9 p0_2n_14 (o.2.2.2) := (glX9_tr ((mo_fX1_copyFrom_G119_28 (mo_fX1_copyFrom_L14 n_14) hrun).2) hgo_p0_2)
        have L70 : ∀ (n_70 : Nat) (v3_70 : Int32) (p0w_70 : ST) (p0n_70 : Nat → Nat) (xp0_18_70 : Nat) (zp0_18_70 : ClassId) (xp0_19_70 : Nat) (zp0_19_70 : ClassId) (xp0_20_70 : Nat) (zp0_20_70 : ClassId) (o70 : ST × (Nat → Nat)) (H : Heap) (locs : List Loc) (ls : Array Slot), (fX1_copyFrom_L70 p1n p1w v2_14 n_70) v3_70 p0w_70 p0n_70 = some o70 → va_P (dC, dI) cls (List.flatten ([(oX1 (p0a 0) (st1 (st1 (st1 p0a 19 xp0_18_70) 20 xp0_19_70) 21 xp0_20_70) (st1 (st1 (st1 p0k 19 zp0_18_70) 20 zp0_19_70) 21 zp0_20_70) p0n_70 p0w_70 p0l), (oX1 (p1a 0) p1a p1k p1n p1w p1l), (oX9 (p0a 3) (st1 (st1 (st1 (st1 (st1 p0_2a 2 xp0_2_1_14) 3 xp0_2_2_14) 4 xp0_2_3_14) 5 xp0_2_4_14) 6 xp0_2_5_14) (st1 (st1 (st1 (st1 (st1 p0_2k 2 zp0_2_1_14) 3 zp0_2_2_14) 4 zp0_2_3_14) 5 zp0_2_4_14) 6 zp0_2_5_14) p0_2n_14 p0_2w_14), (oX9 (p1a 3) p1_2a p1_2k p1_2n p1_2w)] : List va_W)) H → va_D A (List.flatten ([(oX1 (p0a 0) (st1 (st1 (st1 p0a 19 xp0_18_70) 20 xp0_19_70) 21 xp0_20_70) (st1 (st1 (st1 p0k 19 zp0_18_70) 20 zp0_19_70) 21 zp0_20_70) p0n_70 p0w_70 p0l), (oX1 (p1a 0) p1a p1k p1n p1w p1l), (oX9 (p0a 3) (st1 (st1 (st1 (st1 (st1 p0_2a 2 xp0_2_1_14) 3 xp0_2_2_14) 4 xp0_2_3_14) 5 xp0_2_4_14) 6 xp0_2_5_14) (st1 (st1 (st1 (st1 (st1 p0_2k 2 zp0_2_1_14) 3 zp0_2_2_14) 4 zp0_2_3_14) 5 zp0_2_4_14) 6 zp0_2_5_14) p0_2n_14 p0_2w_14), (oX9 (p1a 3) p1_2a p1_2k p1_2n p1_2w)] : List va_W)) → va_K (dC, dI) cls (List.flatten ([(tX1 (st1 (st1 (st1 p0k 19 zp0_18_70) 20 zp0_19_70) 21 zp0_20_70)), (tX1 p1k), (tX9 (st1 (st1 (st1 (st1 (st1 p0_2k 2 zp0_2_1_14) 3 zp0_2_2_14) 4 zp0_2_3_14) 5 zp0_2_4_14) 6 zp0_2_5_14)), (tX9 p1_2k)] : List (List (ClassId × FieldType)))) s → va_S A s.heap H locs → lv_has ls 5 [(0, .ref (p0a 0)), (1, .ref (p1a 0)), (2, .int v2_14), (3, .int v3_70)] → glX1 p0n p0n_70 → glX9 p0_2n p0_2n_14 → glX1 (o70.2) (o.2.1) → (∀ (xp0_18_70x : Nat) (zp0_18_70x : ClassId) (xp0_19_70x : Nat) (zp0_19_70x : ClassId) (xp0_20_70x : Nat) (zp0_20_70x : ClassId) (H : Heap) (locs : List Loc) (ls : Array Slot), va_P (dC, dI) cls (List.flatten ([(oX1 (p0a 0) (st1 (st1 (st1 p0a 19 xp0_18_70x) 20 xp0_19_70x) 21 xp0_20_70x) (st1 (st1 (st1 p0k 19 zp0_18_70x) 20 zp0_19_70x) 21 zp0_20_70x) (o70.2) (o70.1) p0l), (oX1 (p1a 0) p1a p1k p1n p1w p1l), (oX9 (p0a 3) (st1 (st1 (st1 (st1 (st1 p0_2a 2 xp0_2_1_14) 3 xp0_2_2_14) 4 xp0_2_3_14) 5 xp0_2_4_14) 6 xp0_2_5_14) (st1 (st1 (st1 (st1 (st1 p0_2k 2 zp0_2_1_14) 3 zp0_2_2_14) 4 zp0_2_3_14) 5 zp0_2_4_14) 6 zp0_2_5_14) p0_2n_14 p0_2w_14), (oX9 (p1a 3) p1_2a p1_2k p1_2n p1_2w)] : List va_W)) H → va_D A (List.flatten ([(oX1 (p0a 0) (st1 (st1 (st1 p0a 19 xp0_18_70x) 20 xp0_19_70x) 21 xp0_20_70x) (st1 (st1 (st1 p0k 19 zp0_18_70x) 20 zp0_19_70x) 21 zp0_20_70x) (o70.2) (o70.1) p0l), (oX1 (p1a 0) p1a p1k p1n p1w p1l), (oX9 (p0a 3) (st1 (st1 (st1 (st1 (st1 p0_2a 2 xp0_2_1_14) 3 xp0_2_2_14) 4 xp0_2_3_14) 5 xp0_2_4_14) 6 xp0_2_5_14) (st1 (st1 (st1 (st1 (st1 p0_2k 2 zp0_2_1_14) 3 zp0_2_2_14) 4 zp0_2_3_14) 5 zp0_2_4_14) 6 zp0_2_5_14) p0_2n_14 p0_2w_14), (oX9 (p1a 3) p1_2a p1_2k p1_2n p1_2w)] : List va_W)) → va_K (dC, dI) cls (List.flatten ([(tX1 (st1 (st1 (st1 p0k 19 zp0_18_70x) 20 zp0_19_70x) 21 zp0_20_70x)), (tX1 p1k), (tX9 (st1 (st1 (st1 (st1 (st1 p0_2k 2 zp0_2_1_14) 3 zp0_2_2_14) 4 zp0_2_3_14) 5 zp0_2_4_14) 6 zp0_2_5_14)), (tX9 p1_2k)] : List (List (ClassId × FieldType)))) s → va_S A s.heap H locs → lv_has ls 5 [(0, .ref (p0a 0)), (1, .ref (p1a 0)), (2, .int v2_14)] → glX1 p0n (o70.2) → glX9 p0_2n p0_2n_14 → W p l e ({ frames := 4, cells := (hcX1 p0n (o.2.1) + hcX9 p0_2n (o.2.2.2)), slots := (3 * (gcX1 p0n (o.2.1) + gcX9 p0_2n (o.2.2.2))), locals := 113 } : Room) s m ([.ref (p0a 0), .ref (p1a 0)] : List Value).toArray below meth c H locs (hcX1 p0n (o70.2) + hcX9 p0_2n p0_2n_14) (3 * (gcX1 p0n (o70.2) + gcX9 p0_2n p0_2n_14)) Q (F0 m 119 ls [])) → W p l e ({ frames := 4, cells := (hcX1 p0n (o.2.1) + hcX9 p0_2n (o.2.2.2)), slots := (3 * (gcX1 p0n (o.2.1) + gcX9 p0_2n (o.2.2.2))), locals := 113 } : Room) s m ([.ref (p0a 0), .ref (p1a 0)] : List Value).toArray below meth c H locs (hcX1 p0n p0n_70 + hcX9 p0_2n p0_2n_14) (3 * (gcX1 p0n p0n_70 + gcX9 p0_2n p0_2n_14)) Q (F0 m 70 ls []) := by
          intro n_70
          induction n_70 with
          | zero => intro v3_70 p0w_70 p0n_70 xp0_18_70 zp0_18_70 xp0_19_70 zp0_19_70 xp0_20_70 zp0_20_70 o70 H locs ls hrun; exact (no9 rfl hrun).elim
          | succ n_70 IH70 =>
            intro v3_70 p0w_70 p0n_70 xp0_18_70 zp0_18_70 xp0_19_70 zp0_19_70 xp0_20_70 zp0_20_70 o70 H locs ls hrun hP hD hK hS hl hg_p0 hg_p0_2 hgo_p0 hk70
            have hgn_p0 : glX1 p0n_70 (o.2.1) := (glX1_tr (mo_fX1_copyFrom_L70 (n_70 + 1) _ _ _ _ hrun) hgo_p0)
            unfold fX1_copyFrom_L70 at hrun
            refine lv_iload_n hx hb dX1_copyFrom_70 rfl (lv_at hl 3 rfl) ?_
            rcases br9 hrun with ⟨hc14, hrun⟩ | ⟨hc14, hrun⟩
            · refine lv_if_lt (tgt := 119) hx hb dX1_copyFrom_71 (by decide) (fun _ => ?_) (fun c => absurd hc14 c)
              obtain rfl := (Option.some.inj hrun)
              exact hk70 xp0_18_70 zp0_18_70 xp0_19_70 zp0_19_70 xp0_20_70 zp0_20_70 _ _ _ hP hD hK hS (lv_sub hl [0, 1, 2] rfl) hg_p0 hg_p0_2
            · refine lv_if_lt (tgt := 119) hx hb dX1_copyFrom_71 (by decide) (fun c => absurd c hc14) (fun _ => ?_)
              refine lv_aload_n hx hb dX1_copyFrom_74 rfl (lv_at hl 0 rfl) ?_
              refine lv_iload_n hx hb dX1_copyFrom_75 rfl (lv_at hl 2 rfl) ?_
              refine lv_aload_n hx hb dX1_copyFrom_76 rfl (lv_at hl 1 rfl) ?_
              refine va_get (D := (dC, dI)) (ci := 4) (v := .ref (p1a 19)) (C := RX1) (T := TX1) (N := 21) hx hb hts i_X1 hown hK hP 18 rfl rfl 18 (by decide) (hts _ qw120) (fun _ h9 => h9) rfl dX1_copyFrom_77 ?_
              refine lv_iload_n hx hb dX1_copyFrom_80 rfl (lv_at hl 3 rfl) ?_
              obtain ⟨hq15, hrun⟩ := chk9 hrun
              refine va_iald hx hb hK hP 33 31 rfl rfl (ixb_in hq15) dX1_copyFrom_81 ?_
              obtain ⟨o_16, hc_16, hrun⟩ := bnd9 hrun
              have hPx : va_P (dC, dI) cls ((List.flatten ([(oX1 (p0a 0) (st1 (st1 (st1 p0a 19 xp0_18_70) 20 xp0_19_70) 21 xp0_20_70) (st1 (st1 (st1 p0k 19 zp0_18_70) 20 zp0_19_70) 21 zp0_20_70) p0n_70 p0w_70 p0l)] : List va_W)) ++ (List.flatten ([(oX1 (p1a 0) p1a p1k p1n p1w p1l), (oX9 (p0a 3) (st1 (st1 (st1 (st1 (st1 p0_2a 2 xp0_2_1_14) 3 xp0_2_2_14) 4 xp0_2_3_14) 5 xp0_2_4_14) 6 xp0_2_5_14) (st1 (st1 (st1 (st1 (st1 p0_2k 2 zp0_2_1_14) 3 zp0_2_2_14) 4 zp0_2_3_14) 5 zp0_2_4_14) 6 zp0_2_5_14) p0_2n_14 p0_2w_14), (oX9 (p1a 3) p1_2a p1_2k p1_2n p1_2w)] : List va_W))) H := vP_fa (vP_perm hP (bP (List.Perm.refl _)))
              have hDx : va_D A ((List.flatten ([(oX1 (p0a 0) (st1 (st1 (st1 p0a 19 xp0_18_70) 20 xp0_19_70) 21 xp0_20_70) (st1 (st1 (st1 p0k 19 zp0_18_70) 20 zp0_19_70) 21 zp0_20_70) p0n_70 p0w_70 p0l)] : List va_W)) ++ (List.flatten ([(oX1 (p1a 0) p1a p1k p1n p1w p1l), (oX9 (p0a 3) (st1 (st1 (st1 (st1 (st1 p0_2a 2 xp0_2_1_14) 3 xp0_2_2_14) 4 xp0_2_3_14) 5 xp0_2_4_14) 6 xp0_2_5_14) (st1 (st1 (st1 (st1 (st1 p0_2k 2 zp0_2_1_14) 3 zp0_2_2_14) 4 zp0_2_3_14) 5 zp0_2_4_14) 6 zp0_2_5_14) p0_2n_14 p0_2w_14), (oX9 (p1a 3) p1_2a p1_2k p1_2n p1_2w)] : List va_W))) := vD_fa (vD_perm hD (bP (List.Perm.refl _)))
              have hKx : va_K (dC, dI) cls ((List.flatten ([(tX1 (st1 (st1 (st1 p0k 19 zp0_18_70) 20 zp0_19_70) 21 zp0_20_70))] : List (List (ClassId × FieldType)))) ++ (List.flatten ([(tX1 p1k), (tX9 (st1 (st1 (st1 (st1 (st1 p0_2k 2 zp0_2_1_14) 3 zp0_2_2_14) 4 zp0_2_3_14) 5 zp0_2_4_14) 6 zp0_2_5_14)), (tX9 p1_2k)] : List (List (ClassId × FieldType))))) s := vK_fa (vK_perm hK (bP (List.Perm.refl _)))
              have hPc := vP_l hPx
              have hDc := vD_l hDx
              have hKc := vK_l hKx
              have hFc := vfree hDx hS hA
              have hgn_p0 : glX1 (o_16.2.2) (o.2.1) := (glX1_tr (mo_fX1_copyFrom_G85_24 (mo_fX1_copyFrom_L70 n_70) hrun) hgo_p0)
              refine va_calli (va_runV (As := [.int v2_14, .int (p1w 19 (nn v3_70))]) (rest := []) ⟨hx, hb, hml, hown, hts⟩ (kX1_addPhi l dC dI (p0a := (st0 (p0a 0) (st1 (st1 (st1 p0a 19 xp0_18_70) 20 xp0_19_70) 21 xp0_20_70))) (p0k := (st1 (st1 (st1 p0k 19 zp0_18_70) 20 zp0_19_70) 21 zp0_20_70)) (p0n := p0n_70) (p0w := p0w_70) (p0l := p0l) (p1 := v2_14) (p2 := (p1w 19 (nn v3_70))) (sz := _) (o := o_16) (hrun := hc_16)) (cwV 2 hts (gi_V qw155 qw156 qw157 qw126 (gi_z qw154)) rfl rfl rfl (by decide +kernel) ⟨Nat.le_of_ble_eq_true rfl, Nat.le_of_ble_eq_true rfl⟩) ⟨PRE.blind, va_recv hKc hPc (ci := 4) (q0 := 0) rfl rfl, PRE.of hE hS hFc hPc hKc hDc⟩ rfl rfl hl.1 rfl (lv_room (Nat.le_of_ble_eq_true rfl)) dX1_copyFrom_82 ⟨(show (hcX1 p0n p0n_70 + hcX9 p0_2n p0_2n_14) + (hcX1 p0n_70 (o_16.2.2)) ≤ (hcX1 p0n (o.2.1) + hcX9 p0_2n (o.2.2.2)) from by have q0 := gsX1 hg_p0 (mo_fX1_addPhi hc_16) hgn_p0; have q1 := gmX9 hg_p0_2 hgn_p0_2; omega), (show (3 * (gcX1 p0n p0n_70 + gcX9 p0_2n p0_2n_14)) + (3 * (gcX1 p0n_70 (o_16.2.2))) ≤ (3 * (gcX1 p0n (o.2.1) + gcX9 p0_2n (o.2.2.2))) from by have q0 := gsX1 hg_p0 (mo_fX1_addPhi hc_16) hgn_p0; have q1 := gmX9 hg_p0_2 hgn_p0_2; omega)⟩) hS (fun q _ h => hFc q h) hFc (fun r17 u t H locs ht hvm hw hB hz1 hk1 hS => ?_)
              obtain ⟨x18, z19, x20, z21, x22, z23, hB⟩ := hB
              obtain ⟨b1, b2, b3⟩ := hB
              rw [ht] at b1
              obtain ⟨hP, hD, hK⟩ := JOINC (wc := (List.flatten ([(oX1 (p0a 0) (st1 (st1 (st1 p0a 19 xp0_18_70) 20 xp0_19_70) 21 xp0_20_70) (st1 (st1 (st1 p0k 19 zp0_18_70) 20 zp0_19_70) 21 zp0_20_70) p0n_70 p0w_70 p0l)] : List va_W))) (wr := (List.flatten ([(oX1 (p1a 0) p1a p1k p1n p1w p1l), (oX9 (p0a 3) (st1 (st1 (st1 (st1 (st1 p0_2a 2 xp0_2_1_14) 3 xp0_2_2_14) 4 xp0_2_3_14) 5 xp0_2_4_14) 6 xp0_2_5_14) (st1 (st1 (st1 (st1 (st1 p0_2k 2 zp0_2_1_14) 3 zp0_2_2_14) 4 zp0_2_3_14) 5 zp0_2_4_14) 6 zp0_2_5_14) p0_2n_14 p0_2w_14), (oX9 (p1a 3) p1_2a p1_2k p1_2n p1_2w)] : List va_W))) (w1 := (List.flatten ([(oX1 (p0a 0) (st1 (st1 (st1 p0a 19 x18) 20 x20) 21 x22) (st1 (st1 (st1 p0k 19 z19) 20 z21) 21 z23) (o_16.2.2) (o_16.2.1) p0l)] : List va_W))) (t1 := (List.flatten ([(tX1 (st1 (st1 (st1 p0k 19 z19) 20 z21) 21 z23))] : List (List (ClassId × FieldType))))) hPx hDx hKx hk1 hFc b1 (va_K.moved hvm.symm b2) b3
              have hP : va_P (dC, dI) cls (List.flatten ([(oX1 (p0a 0) (st1 (st1 (st1 p0a 19 x18) 20 x20) 21 x22) (st1 (st1 (st1 p0k 19 z19) 20 z21) 21 z23) (o_16.2.2) (o_16.2.1) p0l), (oX1 (p1a 0) p1a p1k p1n p1w p1l), (oX9 (p0a 3) (st1 (st1 (st1 (st1 (st1 p0_2a 2 xp0_2_1_14) 3 xp0_2_2_14) 4 xp0_2_3_14) 5 xp0_2_4_14) 6 xp0_2_5_14) (st1 (st1 (st1 (st1 (st1 p0_2k 2 zp0_2_1_14) 3 zp0_2_2_14) 4 zp0_2_3_14) 5 zp0_2_4_14) 6 zp0_2_5_14) p0_2n_14 p0_2w_14), (oX9 (p1a 3) p1_2a p1_2k p1_2n p1_2w)] : List va_W)) H := vP_perm (vP_fb hP) (bP (List.Perm.refl _))
              have hD : va_D A (List.flatten ([(oX1 (p0a 0) (st1 (st1 (st1 p0a 19 x18) 20 x20) 21 x22) (st1 (st1 (st1 p0k 19 z19) 20 z21) 21 z23) (o_16.2.2) (o_16.2.1) p0l), (oX1 (p1a 0) p1a p1k p1n p1w p1l), (oX9 (p0a 3) (st1 (st1 (st1 (st1 (st1 p0_2a 2 xp0_2_1_14) 3 xp0_2_2_14) 4 xp0_2_3_14) 5 xp0_2_4_14) 6 xp0_2_5_14) (st1 (st1 (st1 (st1 (st1 p0_2k 2 zp0_2_1_14) 3 zp0_2_2_14) 4 zp0_2_3_14) 5 zp0_2_4_14) 6 zp0_2_5_14) p0_2n_14 p0_2w_14), (oX9 (p1a 3) p1_2a p1_2k p1_2n p1_2w)] : List va_W)) := vD_perm (vD_fb hD) (bP (List.Perm.refl _))
              have hK : va_K (dC, dI) cls (List.flatten ([(tX1 (st1 (st1 (st1 p0k 19 z19) 20 z21) 21 z23)), (tX1 p1k), (tX9 (st1 (st1 (st1 (st1 (st1 p0_2k 2 zp0_2_1_14) 3 zp0_2_2_14) 4 zp0_2_3_14) 5 zp0_2_4_14) 6 zp0_2_5_14)), (tX9 p1_2k)] : List (List (ClassId × FieldType)))) s := vK_perm (vK_fb hK) (bP (List.Perm.refl _))
              obtain rfl : r17 = (o_16.1) := hw
              refine W.widen (k := (hcX1 p0n (o_16.2.2) + hcX9 p0_2n p0_2n_14)) (n := (3 * (gcX1 p0n (o_16.2.2) + gcX9 p0_2n p0_2n_14))) (by have a0 := gcX1_add hg_p0 (mo_fX1_addPhi hc_16); omega) (by have a0 := gcX1_add hg_p0 (mo_fX1_addPhi hc_16); omega) ?_
              have hg_p0 : glX1 p0n (o_16.2.2) := glX1_tr hg_p0 (mo_fX1_addPhi hc_16)
              unfold fX1_copyFrom_G85_24 at hrun
              refine lv_istore (lv' := [(4, .int (o_16.1)), (0, .ref (p0a 0)), (1, .ref (p1a 0)), (2, .int v2_14), (3, .int v3_70)]) hx hb dX1_copyFrom_85 hl (by decide) rfl (fun ls hl => ?_)
              refine lv_aload_n hx hb dX1_copyFrom_87 rfl (lv_at hl 2 rfl) ?_
              refine va_get (D := (dC, dI)) (ci := 4) (v := .ref (p1a 21)) (C := RX1) (T := TX1) (N := 21) hx hb hts i_X1 hown hK hP 18 rfl rfl 20 (by decide) (hts _ qw131) (fun _ h9 => h9) rfl dX1_copyFrom_88 ?_
              refine lv_iload_n hx hb dX1_copyFrom_91 rfl (lv_at hl 4 rfl) ?_
              refine lv_bipush (v := 60) hx hb dX1_copyFrom_92 (by decide) ?_
              refine lv_imul hx hb dX1_copyFrom_94 ?_
              refine lv_aload_n hx hb dX1_copyFrom_95 rfl (lv_at hl 1 rfl) ?_
              refine va_get (D := (dC, dI)) (ci := 4) (v := .ref x22) (C := RX1) (T := TX1) (N := 21) hx hb hts i_X1 hown hK hP 0 rfl rfl 20 (by decide) (hts _ qw131) (fun _ h9 => h9) rfl dX1_copyFrom_96 ?_
              refine lv_iload hx hb dX1_copyFrom_99 (lv_at hl 0 rfl) ?_
              refine lv_bipush (v := 60) hx hb dX1_copyFrom_101 (by decide) ?_
              refine lv_imul hx hb dX1_copyFrom_103 ?_
              refine lv_bipush (v := 60) hx hb dX1_copyFrom_104 (by decide) ?_
              obtain ⟨hq25, hrun⟩ := chk9 hrun
              refine va_copyi (ty := .int) (sp := (v3_70 * 60)) (dp := ((o_16.1) * 60)) (n := 60) hx hb (hml.trans hl.1.symm) hown (hts _ qw158) (hts _ qw103) (hts _ qw104) (hts _ qw105) hK hP hD hS 35 17 33 16 rfl rfl rfl rfl rfl (cpk_1 hq25) (cpk_2 hq25) (cpk_3 hq25) (cpk_4 hq25) (cpk_5 hq25) (fun _ _ => rfl) (Nat.le_of_ble_eq_true rfl) (Nat.le_of_ble_eq_true rfl) dX1_copyFrom_106 (fun H locs hP hD hS => ?_)
              have hP : va_P (dC, dI) cls (List.flatten ([(oX1 (p0a 0) (st1 (st1 (st1 p0a 19 x18) 20 x20) 21 x22) (st1 (st1 (st1 p0k 19 z19) 20 z21) 21 z23) (o_16.2.2) (srw (o_16.2.1) 21 (va_cpy (p1w 21) ((o_16.2.1) 21) (nn (v3_70 * 60)) (nn ((o_16.1) * 60)) (nn 60))) p0l), (oX1 (p1a 0) p1a p1k p1n p1w p1l), (oX9 (p0a 3) (st1 (st1 (st1 (st1 (st1 p0_2a 2 xp0_2_1_14) 3 xp0_2_2_14) 4 xp0_2_3_14) 5 xp0_2_4_14) 6 xp0_2_5_14) (st1 (st1 (st1 (st1 (st1 p0_2k 2 zp0_2_1_14) 3 zp0_2_2_14) 4 zp0_2_3_14) 5 zp0_2_4_14) 6 zp0_2_5_14) p0_2n_14 p0_2w_14), (oX9 (p1a 3) p1_2a p1_2k p1_2n p1_2w)] : List va_W)) H := hP
              have hD : va_D A (List.flatten ([(oX1 (p0a 0) (st1 (st1 (st1 p0a 19 x18) 20 x20) 21 x22) (st1 (st1 (st1 p0k 19 z19) 20 z21) 21 z23) (o_16.2.2) (srw (o_16.2.1) 21 (va_cpy (p1w 21) ((o_16.2.1) 21) (nn (v3_70 * 60)) (nn ((o_16.1) * 60)) (nn 60))) p0l), (oX1 (p1a 0) p1a p1k p1n p1w p1l), (oX9 (p0a 3) (st1 (st1 (st1 (st1 (st1 p0_2a 2 xp0_2_1_14) 3 xp0_2_2_14) 4 xp0_2_3_14) 5 xp0_2_4_14) 6 xp0_2_5_14) (st1 (st1 (st1 (st1 (st1 p0_2k 2 zp0_2_1_14) 3 zp0_2_2_14) 4 zp0_2_3_14) 5 zp0_2_4_14) 6 zp0_2_5_14) p0_2n_14 p0_2w_14), (oX9 (p1a 3) p1_2a p1_2k p1_2n p1_2w)] : List va_W)) := hD
              obtain ⟨w26, ew26, hrun⟩ := let9 hrun
              rw [← ew26] at hP hD
              refine lv_aload_n hx hb dX1_copyFrom_109 rfl (lv_at hl 2 rfl) ?_
              refine va_get (D := (dC, dI)) (ci := 4) (v := .ref (p1a 20)) (C := RX1) (T := TX1) (N := 21) hx hb hts i_X1 hown hK hP 18 rfl rfl 19 (by decide) (hts _ qw121) (fun _ h9 => h9) rfl dX1_copyFrom_110 ?_
              refine lv_iload_n hx hb dX1_copyFrom_113 rfl (lv_at hl 4 rfl) ?_
              obtain ⟨hq27, hrun⟩ := chk9 hrun
              refine va_iald hx hb hK hP 34 32 rfl rfl (ixb_in hq27) dX1_copyFrom_114 ?_
              refine lv_istore_n (lv' := [(3, .int (p1w 20 (nn v3_70))), (4, .int (o_16.1)), (0, .ref (p0a 0)), (1, .ref (p1a 0)), (2, .int v2_14)]) hx hb dX1_copyFrom_115 rfl hl (by decide) rfl (fun ls hl => ?_)
              refine lv_goto (tgt := 70) hx hb dX1_copyFrom_116 (by decide) ?_
              exact IH70 (p1w 20 (nn v3_70)) w26 (o_16.2.2) x18 z19 x20 z21 x22 z23 o70 _ _ _ hrun hP hD hK hS (lv_sub hl [2, 3, 4, 0] rfl) hg_p0 hg_p0_2 hgo_p0 hk70
        refine L70 NF (p1w 6 (nn v2_14)) w12 p0n_14 xp0_18_14 zp0_18_14 xp0_19_14 zp0_19_14 xp0_20_14 zp0_20_14 o70 _ _ _ hc70 hP hD hK hS (lv_sub hl [1, 2, 3, 0] rfl) hg_p0 hg_p0_2 hgn_p0 ?_
        intro xp0_18_70x zp0_18_70x xp0_19_70x zp0_19_70x xp0_20_70x zp0_20_70x H locs ls hP hD hK hS hl hg_p0 hg_p0_2
        have hl := hl
        unfold fX1_copyFrom_G119_28 at hrun
        refine lv_aload_n hx hb dX1_copyFrom_119 rfl (lv_at hl 1 rfl) ?_
        refine va_get (D := (dC, dI)) (ci := 4) (v := .ref (p1a 4)) (C := RX1) (T := TX1) (N := 21) hx hb hts i_X1 hown hK hP 18 rfl rfl 3 (by decide) (hts _ qw111) (fun _ h9 => h9) rfl dX1_copyFrom_120 ?_
        refine lv_iload_n hx hb dX1_copyFrom_123 rfl (lv_at hl 2 rfl) ?_
        obtain ⟨hq29, hrun⟩ := chk9 hrun
        refine va_iald hx hb hK hP 19 17 rfl rfl (ixb_in hq29) dX1_copyFrom_124 ?_
        refine lv_istore_n (lv' := [(3, .int (p1w 4 (nn v2_14))), (0, .ref (p0a 0)), (1, .ref (p1a 0)), (2, .int v2_14)]) hx hb dX1_copyFrom_125 rfl hl (by decide) rfl (fun ls hl => ?_)
        obtain ⟨o126, hc126, hrun⟩ := bnd9 hrun
        have hgn_p0 : glX1 (o70.2) (o.2.1) := (glX1_tr ((mo_fX1_copyFrom_G185_49 (mo_fX1_copyFrom_L14 n_14) hrun).1) hgo_p0)
        have hgn_p0_2 : glX9 (o126.2.2) (o.2.2.2) := (glX9_tr ((mo_fX1_copyFrom_G185_49 (mo_fX1_copyFrom_L14 n_14) hrun).2) hgo_p0_2)
        have L126 : ∀ (n_126 : Nat) (v3_126 : Int32) (p0w_126 : ST) (p0_2w_126 : ST) (p0_2n_126 : Nat → Nat) (xp0_2_1_126 : Nat) (zp0_2_1_126 : ClassId) (xp0_2_2_126 : Nat) (zp0_2_2_126 : ClassId) (xp0_2_3_126 : Nat) (zp0_2_3_126 : ClassId) (xp0_2_4_126 : Nat) (zp0_2_4_126 : ClassId) (xp0_2_5_126 : Nat) (zp0_2_5_126 : ClassId) (o126 : ST × ST × (Nat → Nat)) (H : Heap) (locs : List Loc) (ls : Array Slot), (fX1_copyFrom_L126 p1_2n p1_2w v2_14 n_126) v3_126 p0w_126 p0_2w_126 p0_2n_126 = some o126 → va_P (dC, dI) cls (List.flatten ([(oX1 (p0a 0) (st1 (st1 (st1 p0a 19 xp0_18_70x) 20 xp0_19_70x) 21 xp0_20_70x) (st1 (st1 (st1 p0k 19 zp0_18_70x) 20 zp0_19_70x) 21 zp0_20_70x) (o70.2) p0w_126 p0l), (oX1 (p1a 0) p1a p1k p1n p1w p1l), (oX9 (p0a 3) (st1 (st1 (st1 (st1 (st1 p0_2a 2 xp0_2_1_126) 3 xp0_2_2_126) 4 xp0_2_3_126) 5 xp0_2_4_126) 6 xp0_2_5_126) (st1 (st1 (st1 (st1 (st1 p0_2k 2 zp0_2_1_126) 3 zp0_2_2_126) 4 zp0_2_3_126) 5 zp0_2_4_126) 6 zp0_2_5_126) p0_2n_126 p0_2w_126), (oX9 (p1a 3) p1_2a p1_2k p1_2n p1_2w)] : List va_W)) H → va_D A (List.flatten ([(oX1 (p0a 0) (st1 (st1 (st1 p0a 19 xp0_18_70x) 20 xp0_19_70x) 21 xp0_20_70x) (st1 (st1 (st1 p0k 19 zp0_18_70x) 20 zp0_19_70x) 21 zp0_20_70x) (o70.2) p0w_126 p0l), (oX1 (p1a 0) p1a p1k p1n p1w p1l), (oX9 (p0a 3) (st1 (st1 (st1 (st1 (st1 p0_2a 2 xp0_2_1_126) 3 xp0_2_2_126) 4 xp0_2_3_126) 5 xp0_2_4_126) 6 xp0_2_5_126) (st1 (st1 (st1 (st1 (st1 p0_2k 2 zp0_2_1_126) 3 zp0_2_2_126) 4 zp0_2_3_126) 5 zp0_2_4_126) 6 zp0_2_5_126) p0_2n_126 p0_2w_126), (oX9 (p1a 3) p1_2a p1_2k p1_2n p1_2w)] : List va_W)) → va_K (dC, dI) cls (List.flatten ([(tX1 (st1 (st1 (st1 p0k 19 zp0_18_70x) 20 zp0_19_70x) 21 zp0_20_70x)), (tX1 p1k), (tX9 (st1 (st1 (st1 (st1 (st1 p0_2k 2 zp0_2_1_126) 3 zp0_2_2_126) 4 zp0_2_3_126) 5 zp0_2_4_126) 6 zp0_2_5_126)), (tX9 p1_2k)] : List (List (ClassId × FieldType)))) s → va_S A s.heap H locs → lv_has ls 5 [(0, .ref (p0a 0)), (1, .ref (p1a 0)), (2, .int v2_14), (3, .int v3_126)] → glX1 p0n (o70.2) → glX9 p0_2n p0_2n_126 → glX9 (o126.2.2) (o.2.2.2) → (∀ (xp0_2_1_126x : Nat) (zp0_2_1_126x : ClassId) (xp0_2_2_126x : Nat) (zp0_2_2_126x : ClassId) (xp0_2_3_126x : Nat) (zp0_2_3_126x : ClassId) (xp0_2_4_126x : Nat) (zp0_2_4_126x : ClassId) (xp0_2_5_126x : Nat) (zp0_2_5_126x : ClassId) (H : Heap) (locs : List Loc) (ls : Array Slot), va_P (dC, dI) cls (List.flatten ([(oX1 (p0a 0) (st1 (st1 (st1 p0a 19 xp0_18_70x) 20 xp0_19_70x) 21 xp0_20_70x) (st1 (st1 (st1 p0k 19 zp0_18_70x) 20 zp0_19_70x) 21 zp0_20_70x) (o70.2) (o126.1) p0l), (oX1 (p1a 0) p1a p1k p1n p1w p1l), (oX9 (p0a 3) (st1 (st1 (st1 (st1 (st1 p0_2a 2 xp0_2_1_126x) 3 xp0_2_2_126x) 4 xp0_2_3_126x) 5 xp0_2_4_126x) 6 xp0_2_5_126x) (st1 (st1 (st1 (st1 (st1 p0_2k 2 zp0_2_1_126x) 3 zp0_2_2_126x) 4 zp0_2_3_126x) 5 zp0_2_4_126x) 6 zp0_2_5_126x) (o126.2.2) (o126.2.1)), (oX9 (p1a 3) p1_2a p1_2k p1_2n p1_2w)] : List va_W)) H → va_D A (List.flatten ([(oX1 (p0a 0) (st1 (st1 (st1 p0a 19 xp0_18_70x) 20 xp0_19_70x) 21 xp0_20_70x) (st1 (st1 (st1 p0k 19 zp0_18_70x) 20 zp0_19_70x) 21 zp0_20_70x) (o70.2) (o126.1) p0l), (oX1 (p1a 0) p1a p1k p1n p1w p1l), (oX9 (p0a 3) (st1 (st1 (st1 (st1 (st1 p0_2a 2 xp0_2_1_126x) 3 xp0_2_2_126x) 4 xp0_2_3_126x) 5 xp0_2_4_126x) 6 xp0_2_5_126x) (st1 (st1 (st1 (st1 (st1 p0_2k 2 zp0_2_1_126x) 3 zp0_2_2_126x) 4 zp0_2_3_126x) 5 zp0_2_4_126x) 6 zp0_2_5_126x) (o126.2.2) (o126.2.1)), (oX9 (p1a 3) p1_2a p1_2k p1_2n p1_2w)] : List va_W)) → va_K (dC, dI) cls (List.flatten ([(tX1 (st1 (st1 (st1 p0k 19 zp0_18_70x) 20 zp0_19_70x) 21 zp0_20_70x)), (tX1 p1k), (tX9 (st1 (st1 (st1 (st1 (st1 p0_2k 2 zp0_2_1_126x) 3 zp0_2_2_126x) 4 zp0_2_3_126x) 5 zp0_2_4_126x) 6 zp0_2_5_126x)), (tX9 p1_2k)] : List (List (ClassId × FieldType)))) s → va_S A s.heap H locs → lv_has ls 5 [(0, .ref (p0a 0)), (1, .ref (p1a 0)), (2, .int v2_14)] → glX1 p0n (o70.2) → glX9 p0_2n (o126.2.2) → W p l e ({ frames := 4, cells := (hcX1 p0n (o.2.1) + hcX9 p0_2n (o.2.2.2)), slots := (3 * (gcX1 p0n (o.2.1) + gcX9 p0_2n (o.2.2.2))), locals := 113 } : Room) s m ([.ref (p0a 0), .ref (p1a 0)] : List Value).toArray below meth c H locs (hcX1 p0n (o70.2) + hcX9 p0_2n (o126.2.2)) (3 * (gcX1 p0n (o70.2) + gcX9 p0_2n (o126.2.2))) Q (F0 m 185 ls [])) → W p l e ({ frames := 4, cells := (hcX1 p0n (o.2.1) + hcX9 p0_2n (o.2.2.2)), slots := (3 * (gcX1 p0n (o.2.1) + gcX9 p0_2n (o.2.2.2))), locals := 113 } : Room) s m ([.ref (p0a 0), .ref (p1a 0)] : List Value).toArray below meth c H locs (hcX1 p0n (o70.2) + hcX9 p0_2n p0_2n_126) (3 * (gcX1 p0n (o70.2) + gcX9 p0_2n p0_2n_126)) Q (F0 m 126 ls []) := by
          intro n_126
          induction n_126 with
          | zero => intro v3_126 p0w_126 p0_2w_126 p0_2n_126 xp0_2_1_126 zp0_2_1_126 xp0_2_2_126 zp0_2_2_126 xp0_2_3_126 zp0_2_3_126 xp0_2_4_126 zp0_2_4_126 xp0_2_5_126 zp0_2_5_126 o126 H locs ls hrun; exact (no9 rfl hrun).elim
          | succ n_126 IH126 =>
            intro v3_126 p0w_126 p0_2w_126 p0_2n_126 xp0_2_1_126 zp0_2_1_126 xp0_2_2_126 zp0_2_2_126 xp0_2_3_126 zp0_2_3_126 xp0_2_4_126 zp0_2_4_126 xp0_2_5_126 zp0_2_5_126 o126 H locs ls hrun hP hD hK hS hl hg_p0 hg_p0_2 hgo_p0_2 hk126
            have hgn_p0_2 : glX9 p0_2n_126 (o.2.2.2) := (glX9_tr (mo_fX1_copyFrom_L126 (n_126 + 1) _ _ _ _ _ hrun) hgo_p0_2)
            unfold fX1_copyFrom_L126 at hrun
            refine lv_iload_n hx hb dX1_copyFrom_126 rfl (lv_at hl 3 rfl) ?_
            rcases br9 hrun with ⟨hc30, hrun⟩ | ⟨hc30, hrun⟩
            · refine lv_if_lt (tgt := 185) hx hb dX1_copyFrom_127 (by decide) (fun _ => ?_) (fun c => absurd hc30 c)
              obtain rfl := (Option.some.inj hrun)
              exact hk126 xp0_2_1_126 zp0_2_1_126 xp0_2_2_126 zp0_2_2_126 xp0_2_3_126 zp0_2_3_126 xp0_2_4_126 zp0_2_4_126 xp0_2_5_126 zp0_2_5_126 _ _ _ hP hD hK hS (lv_sub hl [0, 1, 2] rfl) hg_p0 hg_p0_2
            · refine lv_if_lt (tgt := 185) hx hb dX1_copyFrom_127 (by decide) (fun c => absurd c hc30) (fun _ => ?_)
              refine lv_aload_n hx hb dX1_copyFrom_130 rfl (lv_at hl 0 rfl) ?_
              refine lv_iload_n hx hb dX1_copyFrom_131 rfl (lv_at hl 2 rfl) ?_
              refine lv_aload_n hx hb dX1_copyFrom_132 rfl (lv_at hl 1 rfl) ?_
              refine va_get (D := (dC, dI)) (ci := 4) (v := .ref (p1a 3)) (C := RX1) (T := TX1) (N := 21) hx hb hts i_X1 hown hK hP 18 rfl rfl 2 (by decide) (hts _ qw132) (fun _ h9 => h9) rfl dX1_copyFrom_133 ?_
              refine va_get (D := (dC, dI)) (ci := 3) (v := .ref (p1_2a 2)) (C := RX9) (T := TX9) (N := 6) hx hb hts i_X9 hown hK hP 42 rfl rfl 1 (by decide) (hts _ qw159) (fun _ h9 => h9) rfl dX1_copyFrom_136 ?_
              refine lv_iload_n hx hb dX1_copyFrom_139 rfl (lv_at hl 3 rfl) ?_
              obtain ⟨hq31, hrun⟩ := chk9 hrun
              refine va_iald hx hb hK hP 43 39 rfl rfl (ixb_in hq31) dX1_copyFrom_140 ?_
              refine lv_aload_n hx hb dX1_copyFrom_141 rfl (lv_at hl 1 rfl) ?_
              refine va_get (D := (dC, dI)) (ci := 4) (v := .ref (p1a 3)) (C := RX1) (T := TX1) (N := 21) hx hb hts i_X1 hown hK hP 18 rfl rfl 2 (by decide) (hts _ qw132) (fun _ h9 => h9) rfl dX1_copyFrom_142 ?_
              refine va_get (D := (dC, dI)) (ci := 3) (v := .ref (p1_2a 3)) (C := RX9) (T := TX9) (N := 6) hx hb hts i_X9 hown hK hP 42 rfl rfl 2 (by decide) (hts _ qw160) (fun _ h9 => h9) rfl dX1_copyFrom_145 ?_
              refine lv_iload_n hx hb dX1_copyFrom_148 rfl (lv_at hl 3 rfl) ?_
              obtain ⟨hq32, hrun⟩ := chk9 hrun
              refine va_iald hx hb hK hP 44 40 rfl rfl (ixb_in hq32) dX1_copyFrom_149 ?_
              refine lv_aload_n hx hb dX1_copyFrom_150 rfl (lv_at hl 1 rfl) ?_
              refine va_get (D := (dC, dI)) (ci := 4) (v := .ref (p1a 3)) (C := RX1) (T := TX1) (N := 21) hx hb hts i_X1 hown hK hP 18 rfl rfl 2 (by decide) (hts _ qw132) (fun _ h9 => h9) rfl dX1_copyFrom_151 ?_
              refine va_get (D := (dC, dI)) (ci := 3) (v := .ref (p1_2a 4)) (C := RX9) (T := TX9) (N := 6) hx hb hts i_X9 hown hK hP 42 rfl rfl 3 (by decide) (hts _ qw161) (fun _ h9 => h9) rfl dX1_copyFrom_154 ?_
              refine lv_iload_n hx hb dX1_copyFrom_157 rfl (lv_at hl 3 rfl) ?_
              obtain ⟨hq33, hrun⟩ := chk9 hrun
              refine va_iald hx hb hK hP 45 41 rfl rfl (ixb_in hq33) dX1_copyFrom_158 ?_
              refine lv_aload_n hx hb dX1_copyFrom_159 rfl (lv_at hl 1 rfl) ?_
              refine va_get (D := (dC, dI)) (ci := 4) (v := .ref (p1a 3)) (C := RX1) (T := TX1) (N := 21) hx hb hts i_X1 hown hK hP 18 rfl rfl 2 (by decide) (hts _ qw132) (fun _ h9 => h9) rfl dX1_copyFrom_160 ?_
              refine va_get (D := (dC, dI)) (ci := 3) (v := .ref (p1_2a 5)) (C := RX9) (T := TX9) (N := 6) hx hb hts i_X9 hown hK hP 42 rfl rfl 4 (by decide) (hts _ qw162) (fun _ h9 => h9) rfl dX1_copyFrom_163 ?_
              refine lv_iload_n hx hb dX1_copyFrom_166 rfl (lv_at hl 3 rfl) ?_
              obtain ⟨hq34, hrun⟩ := chk9 hrun
              refine va_iald hx hb hK hP 46 42 rfl rfl (ixb_in hq34) dX1_copyFrom_167 ?_
              obtain ⟨o_35, hc_35, hrun⟩ := bnd9 hrun
              have hPx : va_P (dC, dI) cls ((List.flatten ([(oX1 (p0a 0) (st1 (st1 (st1 p0a 19 xp0_18_70x) 20 xp0_19_70x) 21 xp0_20_70x) (st1 (st1 (st1 p0k 19 zp0_18_70x) 20 zp0_19_70x) 21 zp0_20_70x) (o70.2) p0w_126 p0l), (oX9 (p0a 3) (st1 (st1 (st1 (st1 (st1 p0_2a 2 xp0_2_1_126) 3 xp0_2_2_126) 4 xp0_2_3_126) 5 xp0_2_4_126) 6 xp0_2_5_126) (st1 (st1 (st1 (st1 (st1 p0_2k 2 zp0_2_1_126) 3 zp0_2_2_126) 4 zp0_2_3_126) 5 zp0_2_4_126) 6 zp0_2_5_126) p0_2n_126 p0_2w_126)] : List va_W)) ++ (List.flatten ([(oX1 (p1a 0) p1a p1k p1n p1w p1l), (oX9 (p1a 3) p1_2a p1_2k p1_2n p1_2w)] : List va_W))) H := vP_fa (vP_perm hP (bP (((List.Perm.refl _)).trans ((((((List.Perm.refl _)).cons _).trans (List.Perm.swap _ _ _))).cons _))))
              have hDx : va_D A ((List.flatten ([(oX1 (p0a 0) (st1 (st1 (st1 p0a 19 xp0_18_70x) 20 xp0_19_70x) 21 xp0_20_70x) (st1 (st1 (st1 p0k 19 zp0_18_70x) 20 zp0_19_70x) 21 zp0_20_70x) (o70.2) p0w_126 p0l), (oX9 (p0a 3) (st1 (st1 (st1 (st1 (st1 p0_2a 2 xp0_2_1_126) 3 xp0_2_2_126) 4 xp0_2_3_126) 5 xp0_2_4_126) 6 xp0_2_5_126) (st1 (st1 (st1 (st1 (st1 p0_2k 2 zp0_2_1_126) 3 zp0_2_2_126) 4 zp0_2_3_126) 5 zp0_2_4_126) 6 zp0_2_5_126) p0_2n_126 p0_2w_126)] : List va_W)) ++ (List.flatten ([(oX1 (p1a 0) p1a p1k p1n p1w p1l), (oX9 (p1a 3) p1_2a p1_2k p1_2n p1_2w)] : List va_W))) := vD_fa (vD_perm hD (bP (((List.Perm.refl _)).trans ((((((List.Perm.refl _)).cons _).trans (List.Perm.swap _ _ _))).cons _))))
              have hKx : va_K (dC, dI) cls ((List.flatten ([(tX1 (st1 (st1 (st1 p0k 19 zp0_18_70x) 20 zp0_19_70x) 21 zp0_20_70x)), (tX9 (st1 (st1 (st1 (st1 (st1 p0_2k 2 zp0_2_1_126) 3 zp0_2_2_126) 4 zp0_2_3_126) 5 zp0_2_4_126) 6 zp0_2_5_126))] : List (List (ClassId × FieldType)))) ++ (List.flatten ([(tX1 p1k), (tX9 p1_2k)] : List (List (ClassId × FieldType))))) s := vK_fa (vK_perm hK (bP (((List.Perm.refl _)).trans ((((((List.Perm.refl _)).cons _).trans (List.Perm.swap _ _ _))).cons _))))
              have hPc := vP_l hPx
              have hDc := vD_l hDx
              have hKc := vK_l hKx
              have hFc := vfree hDx hS hA
              have hgn_p0_2 : glX9 (o_35.2.2.2) (o.2.2.2) := (glX9_tr (mo_fX1_copyFrom_G171_47 (mo_fX1_copyFrom_L126 n_126) hrun) hgo_p0_2)
              refine va_calli (va_runV (As := [.int v2_14, .int (p1_2w 2 (nn v3_126)), .int (p1_2w 3 (nn v3_126)), .int (p1_2w 4 (nn v3_126)), .int (p1_2w 5 (nn v3_126))]) (rest := []) ⟨hx, hb, hml, hown, hts⟩ (kX1_addStep l dC dI (p0a := (st0 (p0a 0) (st1 (st1 (st1 p0a 19 xp0_18_70x) 20 xp0_19_70x) 21 xp0_20_70x))) (p0k := (st1 (st1 (st1 p0k 19 zp0_18_70x) 20 zp0_19_70x) 21 zp0_20_70x)) (p0n := (o70.2)) (p0w := p0w_126) (p0l := p0l) (p1 := v2_14) (p2 := (p1_2w 2 (nn v3_126))) (p3 := (p1_2w 3 (nn v3_126))) (p4 := (p1_2w 4 (nn v3_126))) (p5 := (p1_2w 5 (nn v3_126))) (p0_2a := (st1 (st1 (st1 (st1 (st1 p0_2a 2 xp0_2_1_126) 3 xp0_2_2_126) 4 xp0_2_3_126) 5 xp0_2_4_126) 6 xp0_2_5_126)) (p0_2k := (st1 (st1 (st1 (st1 (st1 p0_2k 2 zp0_2_1_126) 3 zp0_2_2_126) 4 zp0_2_3_126) 5 zp0_2_4_126) 6 zp0_2_5_126)) (p0_2n := p0_2n_126) (p0_2w := p0_2w_126) (sz := _) (o := o_35) (hrun := hc_35)) (cwV 5 hts (gi_V qw164 qw165 qw166 qw126 (gi_z qw163)) rfl rfl rfl (by decide +kernel) ⟨Nat.le_of_ble_eq_true rfl, Nat.le_of_ble_eq_true rfl⟩) ⟨PRE.blind, va_recv hKc hPc (ci := 4) (q0 := 0) rfl rfl, PRE.of hE hS hFc hPc hKc hDc⟩ rfl rfl hl.1 rfl (lv_room (Nat.le_of_ble_eq_true rfl)) dX1_copyFrom_168 ⟨(show (hcX1 p0n (o70.2) + hcX9 p0_2n p0_2n_126) + (hcX9 p0_2n_126 (o_35.2.2.2)) ≤ (hcX1 p0n (o.2.1) + hcX9 p0_2n (o.2.2.2)) from by have q0 := gmX1 hg_p0 hgn_p0; have q1 := gsX9 hg_p0_2 (mo_fX1_addStep hc_35) hgn_p0_2; omega), (show (3 * (gcX1 p0n (o70.2) + gcX9 p0_2n p0_2n_126)) + (3 * (gcX9 p0_2n_126 (o_35.2.2.2))) ≤ (3 * (gcX1 p0n (o.2.1) + gcX9 p0_2n (o.2.2.2))) from by have q0 := gmX1 hg_p0 hgn_p0; have q1 := gsX9 hg_p0_2 (mo_fX1_addStep hc_35) hgn_p0_2; omega)⟩) hS (fun q _ h => hFc q h) hFc (fun r36 u t H locs ht hvm hw hB hz1 hk1 hS => ?_)
              obtain ⟨x37, z38, x39, z40, x41, z42, x43, z44, x45, z46, hB⟩ := hB
              obtain ⟨b1, b2, b3⟩ := hB
              rw [ht] at b1
              obtain ⟨hP, hD, hK⟩ := JOINC (wc := (List.flatten ([(oX1 (p0a 0) (st1 (st1 (st1 p0a 19 xp0_18_70x) 20 xp0_19_70x) 21 xp0_20_70x) (st1 (st1 (st1 p0k 19 zp0_18_70x) 20 zp0_19_70x) 21 zp0_20_70x) (o70.2) p0w_126 p0l), (oX9 (p0a 3) (st1 (st1 (st1 (st1 (st1 p0_2a 2 xp0_2_1_126) 3 xp0_2_2_126) 4 xp0_2_3_126) 5 xp0_2_4_126) 6 xp0_2_5_126) (st1 (st1 (st1 (st1 (st1 p0_2k 2 zp0_2_1_126) 3 zp0_2_2_126) 4 zp0_2_3_126) 5 zp0_2_4_126) 6 zp0_2_5_126) p0_2n_126 p0_2w_126)] : List va_W))) (wr := (List.flatten ([(oX1 (p1a 0) p1a p1k p1n p1w p1l), (oX9 (p1a 3) p1_2a p1_2k p1_2n p1_2w)] : List va_W))) (w1 := (List.flatten ([(oX1 (p0a 0) (st1 (st1 (st1 p0a 19 xp0_18_70x) 20 xp0_19_70x) 21 xp0_20_70x) (st1 (st1 (st1 p0k 19 zp0_18_70x) 20 zp0_19_70x) 21 zp0_20_70x) (o70.2) (o_35.2.1) p0l), (oX9 (p0a 3) (st1 (st1 (st1 (st1 (st1 p0_2a 2 x37) 3 x39) 4 x41) 5 x43) 6 x45) (st1 (st1 (st1 (st1 (st1 p0_2k 2 z38) 3 z40) 4 z42) 5 z44) 6 z46) (o_35.2.2.2) (o_35.2.2.1))] : List va_W))) (t1 := (List.flatten ([(tX1 (st1 (st1 (st1 p0k 19 zp0_18_70x) 20 zp0_19_70x) 21 zp0_20_70x)), (tX9 (st1 (st1 (st1 (st1 (st1 p0_2k 2 z38) 3 z40) 4 z42) 5 z44) 6 z46))] : List (List (ClassId × FieldType))))) hPx hDx hKx hk1 hFc b1 (va_K.moved hvm.symm b2) b3
              have hP : va_P (dC, dI) cls (List.flatten ([(oX1 (p0a 0) (st1 (st1 (st1 p0a 19 xp0_18_70x) 20 xp0_19_70x) 21 xp0_20_70x) (st1 (st1 (st1 p0k 19 zp0_18_70x) 20 zp0_19_70x) 21 zp0_20_70x) (o70.2) (o_35.2.1) p0l), (oX1 (p1a 0) p1a p1k p1n p1w p1l), (oX9 (p0a 3) (st1 (st1 (st1 (st1 (st1 p0_2a 2 x37) 3 x39) 4 x41) 5 x43) 6 x45) (st1 (st1 (st1 (st1 (st1 p0_2k 2 z38) 3 z40) 4 z42) 5 z44) 6 z46) (o_35.2.2.2) (o_35.2.2.1)), (oX9 (p1a 3) p1_2a p1_2k p1_2n p1_2w)] : List va_W)) H := vP_perm (vP_fb hP) (bP (((List.Perm.refl _)).trans ((((((List.Perm.refl _)).cons _).trans (List.Perm.swap _ _ _))).cons _)))
              have hD : va_D A (List.flatten ([(oX1 (p0a 0) (st1 (st1 (st1 p0a 19 xp0_18_70x) 20 xp0_19_70x) 21 xp0_20_70x) (st1 (st1 (st1 p0k 19 zp0_18_70x) 20 zp0_19_70x) 21 zp0_20_70x) (o70.2) (o_35.2.1) p0l), (oX1 (p1a 0) p1a p1k p1n p1w p1l), (oX9 (p0a 3) (st1 (st1 (st1 (st1 (st1 p0_2a 2 x37) 3 x39) 4 x41) 5 x43) 6 x45) (st1 (st1 (st1 (st1 (st1 p0_2k 2 z38) 3 z40) 4 z42) 5 z44) 6 z46) (o_35.2.2.2) (o_35.2.2.1)), (oX9 (p1a 3) p1_2a p1_2k p1_2n p1_2w)] : List va_W)) := vD_perm (vD_fb hD) (bP (((List.Perm.refl _)).trans ((((((List.Perm.refl _)).cons _).trans (List.Perm.swap _ _ _))).cons _)))
              have hK : va_K (dC, dI) cls (List.flatten ([(tX1 (st1 (st1 (st1 p0k 19 zp0_18_70x) 20 zp0_19_70x) 21 zp0_20_70x)), (tX1 p1k), (tX9 (st1 (st1 (st1 (st1 (st1 p0_2k 2 z38) 3 z40) 4 z42) 5 z44) 6 z46)), (tX9 p1_2k)] : List (List (ClassId × FieldType)))) s := vK_perm (vK_fb hK) (bP (((List.Perm.refl _)).trans ((((((List.Perm.refl _)).cons _).trans (List.Perm.swap _ _ _))).cons _)))
              obtain rfl : r36 = (o_35.1) := hw
              refine W.widen (k := (hcX1 p0n (o70.2) + hcX9 p0_2n (o_35.2.2.2))) (n := (3 * (gcX1 p0n (o70.2) + gcX9 p0_2n (o_35.2.2.2)))) (by have a0 := gcX9_add hg_p0_2 (mo_fX1_addStep hc_35); omega) (by have a0 := gcX9_add hg_p0_2 (mo_fX1_addStep hc_35); omega) ?_
              have hg_p0_2 : glX9 p0_2n (o_35.2.2.2) := glX9_tr hg_p0_2 (mo_fX1_addStep hc_35)
              unfold fX1_copyFrom_G171_47 at hrun
              refine lv_pop hx hb dX1_copyFrom_171 rfl ?_
              refine lv_aload_n hx hb dX1_copyFrom_172 rfl (lv_at hl 1 rfl) ?_
              refine va_get (D := (dC, dI)) (ci := 4) (v := .ref (p1a 3)) (C := RX1) (T := TX1) (N := 21) hx hb hts i_X1 hown hK hP 18 rfl rfl 2 (by decide) (hts _ qw132) (fun _ h9 => h9) rfl dX1_copyFrom_173 ?_
              refine va_get (D := (dC, dI)) (ci := 3) (v := .ref (p1_2a 6)) (C := RX9) (T := TX9) (N := 6) hx hb hts i_X9 hown hK hP 42 rfl rfl 5 (by decide) (hts _ qw138) (fun _ h9 => h9) rfl dX1_copyFrom_176 ?_
              refine lv_iload_n hx hb dX1_copyFrom_179 rfl (lv_at hl 3 rfl) ?_
              obtain ⟨hq48, hrun⟩ := chk9 hrun
              refine va_iald hx hb hK hP 47 43 rfl rfl (ixb_in hq48) dX1_copyFrom_180 ?_
              refine lv_istore_n (lv' := [(3, .int (p1_2w 6 (nn v3_126))), (0, .ref (p0a 0)), (1, .ref (p1a 0)), (2, .int v2_14)]) hx hb dX1_copyFrom_181 rfl hl (by decide) rfl (fun ls hl => ?_)
              refine lv_goto (tgt := 126) hx hb dX1_copyFrom_182 (by decide) ?_
              exact IH126 (p1_2w 6 (nn v3_126)) (o_35.2.1) (o_35.2.2.1) (o_35.2.2.2) x37 z38 x39 z40 x41 z42 x43 z44 x45 z46 o126 _ _ _ hrun hP hD hK hS (lv_sub hl [1, 2, 3, 0] rfl) hg_p0 hg_p0_2 hgo_p0_2 hk126
        refine L126 NF (p1w 4 (nn v2_14)) (o70.1) p0_2w_14 p0_2n_14 xp0_2_1_14 zp0_2_1_14 xp0_2_2_14 zp0_2_2_14 xp0_2_3_14 zp0_2_3_14 xp0_2_4_14 zp0_2_4_14 xp0_2_5_14 zp0_2_5_14 o126 _ _ _ hc126 hP hD hK hS (lv_sub hl [1, 2, 3, 0] rfl) hg_p0 hg_p0_2 hgn_p0_2 ?_
        intro xp0_2_1_126x zp0_2_1_126x xp0_2_2_126x zp0_2_2_126x xp0_2_3_126x zp0_2_3_126x xp0_2_4_126x zp0_2_4_126x xp0_2_5_126x zp0_2_5_126x H locs ls hP hD hK hS hl hg_p0 hg_p0_2
        have hl := hl
        unfold fX1_copyFrom_G185_49 at hrun
        refine lv_iinc (v := (v2_14 + 1)) (lv' := [(2, .int (v2_14 + 1)), (0, .ref (p0a 0)), (1, .ref (p1a 0))]) hx hb dX1_copyFrom_185 hl (k := 2) rfl rfl (by decide) rfl (fun ls hl => ?_)
        refine lv_goto (tgt := 14) hx hb dX1_copyFrom_188 (by decide) ?_
        exact IH14 (v2_14 + 1) (o126.1) (o70.2) (o126.2.1) (o126.2.2) xp0_18_70x zp0_18_70x xp0_19_70x zp0_19_70x xp0_20_70x zp0_20_70x xp0_2_1_126x zp0_2_1_126x xp0_2_2_126x zp0_2_2_126x xp0_2_3_126x zp0_2_3_126x xp0_2_4_126x zp0_2_4_126x xp0_2_5_126x zp0_2_5_126x o14 _ _ _ hrun hP hD hK hS (lv_sub hl [1, 2, 0] rfl) hg_p0 hg_p0_2 hgo_p0 hgo_p0_2 hk14
  refine L14 NF 0 w2 p0n (o_1.2) p0_2n (p0a 19) (p0k 19) (p0a 20) (p0k 20) (p0a 21) (p0k 21) (p0_2a 2) (p0_2k 2) (p0_2a 3) (p0_2k 3) (p0_2a 4) (p0_2k 4) (p0_2a 5) (p0_2k 5) (p0_2a 6) (p0_2k 6) o14 _ _ _ hc14 hP hD hK hS (lv_sub hl [1, 2, 0] rfl) hg_p0 hg_p0_2 hgn_p0 hgn_p0_2 ?_
  intro xp0_18_14x zp0_18_14x xp0_19_14x zp0_19_14x xp0_20_14x zp0_20_14x xp0_2_1_14x zp0_2_1_14x xp0_2_2_14x zp0_2_2_14x xp0_2_3_14x zp0_2_3_14x xp0_2_4_14x zp0_2_4_14x xp0_2_5_14x zp0_2_5_14x H locs ls hP hD hK hS hl hg_p0 hg_p0_2
  have hl := hl
  unfold fX1_copyFrom_G191_50 at hrun
  refine lv_aload_n hx hb dX1_copyFrom_191 rfl (lv_at hl 1 rfl) ?_
  refine va_get (D := (dC, dI)) (ci := 4) (v := .ref (p1a 14)) (C := RX1) (T := TX1) (N := 21) hx hb hts i_X1 hown hK hP 18 rfl rfl 13 (by decide) (hts _ qw167) (fun _ h9 => h9) rfl dX1_copyFrom_192 ?_
  refine lv_iconst (v := 0) hx hb dX1_copyFrom_195 (by decide) ?_
  refine lv_aload_n hx hb dX1_copyFrom_196 rfl (lv_at hl 0 rfl) ?_
  refine va_get (D := (dC, dI)) (ci := 4) (v := .ref (p0a 14)) (C := RX1) (T := TX1) (N := 21) hx hb hts i_X1 hown hK hP 0 rfl rfl 13 (by decide) (hts _ qw167) (fun _ h9 => h9) rfl dX1_copyFrom_197 ?_
  refine lv_iconst (v := 0) hx hb dX1_copyFrom_200 (by decide) ?_
  refine lv_aload_n hx hb dX1_copyFrom_201 rfl (lv_at hl 0 rfl) ?_
  refine va_get (D := (dC, dI)) (ci := 4) (v := .int ((o14.1) 0 0)) (C := RX1) (T := TX1) (N := 21) hx hb hts i_X1 hown hK hP 0 rfl rfl 0 (by decide) (hts _ qw110) (fun _ h9 => h9) rfl dX1_copyFrom_202 ?_
  refine lv_iconst (v := 1) hx hb dX1_copyFrom_205 (by decide) ?_
  refine lv_iadd hx hb dX1_copyFrom_206 ?_
  obtain ⟨hq51, hrun⟩ := chk9 hrun
  refine va_copyi (ty := .int) (sp := 0) (dp := 0) (n := (((o14.1) 0 0) + 1)) hx hb (hml.trans hl.1.symm) hown (hts _ qw158) (hts _ qw103) (hts _ qw104) (hts _ qw105) hK hP hD hS 29 11 27 10 rfl rfl rfl rfl rfl (cpk_1 hq51) (cpk_2 hq51) (cpk_3 hq51) (cpk_4 hq51) (cpk_5 hq51) (fun _ _ => rfl) (Nat.le_of_ble_eq_true rfl) (Nat.le_of_ble_eq_true rfl) dX1_copyFrom_207 (fun H locs hP hD hS => ?_)
  have hP : va_P (dC, dI) cls (List.flatten ([(oX1 (p0a 0) (st1 (st1 (st1 p0a 19 xp0_18_14x) 20 xp0_19_14x) 21 xp0_20_14x) (st1 (st1 (st1 p0k 19 zp0_18_14x) 20 zp0_19_14x) 21 zp0_20_14x) (o14.2.1) (srw (o14.1) 14 (va_cpy (p1w 14) ((o14.1) 14) (nn 0) (nn 0) (nn (((o14.1) 0 0) + 1)))) p0l), (oX1 (p1a 0) p1a p1k p1n p1w p1l), (oX9 (p0a 3) (st1 (st1 (st1 (st1 (st1 p0_2a 2 xp0_2_1_14x) 3 xp0_2_2_14x) 4 xp0_2_3_14x) 5 xp0_2_4_14x) 6 xp0_2_5_14x) (st1 (st1 (st1 (st1 (st1 p0_2k 2 zp0_2_1_14x) 3 zp0_2_2_14x) 4 zp0_2_3_14x) 5 zp0_2_4_14x) 6 zp0_2_5_14x) (o14.2.2.2) (o14.2.2.1)), (oX9 (p1a 3) p1_2a p1_2k p1_2n p1_2w)] : List va_W)) H := hP
  have hD : va_D A (List.flatten ([(oX1 (p0a 0) (st1 (st1 (st1 p0a 19 xp0_18_14x) 20 xp0_19_14x) 21 xp0_20_14x) (st1 (st1 (st1 p0k 19 zp0_18_14x) 20 zp0_19_14x) 21 zp0_20_14x) (o14.2.1) (srw (o14.1) 14 (va_cpy (p1w 14) ((o14.1) 14) (nn 0) (nn 0) (nn (((o14.1) 0 0) + 1)))) p0l), (oX1 (p1a 0) p1a p1k p1n p1w p1l), (oX9 (p0a 3) (st1 (st1 (st1 (st1 (st1 p0_2a 2 xp0_2_1_14x) 3 xp0_2_2_14x) 4 xp0_2_3_14x) 5 xp0_2_4_14x) 6 xp0_2_5_14x) (st1 (st1 (st1 (st1 (st1 p0_2k 2 zp0_2_1_14x) 3 zp0_2_2_14x) 4 zp0_2_3_14x) 5 zp0_2_4_14x) 6 zp0_2_5_14x) (o14.2.2.2) (o14.2.2.1)), (oX9 (p1a 3) p1_2a p1_2k p1_2n p1_2w)] : List va_W)) := hD
  obtain ⟨w52, ew52, hrun⟩ := let9 hrun
  rw [← ew52] at hP hD
  refine lv_aload_n hx hb dX1_copyFrom_210 rfl (lv_at hl 1 rfl) ?_
  refine va_get (D := (dC, dI)) (ci := 4) (v := .ref (p1a 15)) (C := RX1) (T := TX1) (N := 21) hx hb hts i_X1 hown hK hP 18 rfl rfl 14 (by decide) (hts _ qw168) (fun _ h9 => h9) rfl dX1_copyFrom_211 ?_
  refine lv_iconst (v := 0) hx hb dX1_copyFrom_214 (by decide) ?_
  refine lv_aload_n hx hb dX1_copyFrom_215 rfl (lv_at hl 0 rfl) ?_
  refine va_get (D := (dC, dI)) (ci := 4) (v := .ref (p0a 15)) (C := RX1) (T := TX1) (N := 21) hx hb hts i_X1 hown hK hP 0 rfl rfl 14 (by decide) (hts _ qw168) (fun _ h9 => h9) rfl dX1_copyFrom_216 ?_
  refine lv_iconst (v := 0) hx hb dX1_copyFrom_219 (by decide) ?_
  refine lv_aload_n hx hb dX1_copyFrom_220 rfl (lv_at hl 0 rfl) ?_
  refine va_get (D := (dC, dI)) (ci := 4) (v := .ref (p0a 14)) (C := RX1) (T := TX1) (N := 21) hx hb hts i_X1 hown hK hP 0 rfl rfl 13 (by decide) (hts _ qw167) (fun _ h9 => h9) rfl dX1_copyFrom_221 ?_
  refine lv_aload_n hx hb dX1_copyFrom_224 rfl (lv_at hl 0 rfl) ?_
  refine va_get (D := (dC, dI)) (ci := 4) (v := .int (w52 0 0)) (C := RX1) (T := TX1) (N := 21) hx hb hts i_X1 hown hK hP 0 rfl rfl 0 (by decide) (hts _ qw110) (fun _ h9 => h9) rfl dX1_copyFrom_225 ?_
  obtain ⟨hq53, hrun⟩ := chk9 hrun
  refine va_iald hx hb hK hP 11 10 rfl rfl (ixb_in hq53) dX1_copyFrom_228 ?_
  obtain ⟨hq54, hrun⟩ := chk9 hrun
  refine va_copyi (ty := .int) (sp := 0) (dp := 0) (n := (w52 14 (nn (w52 0 0)))) hx hb (hml.trans hl.1.symm) hown (hts _ qw158) (hts _ qw103) (hts _ qw104) (hts _ qw105) hK hP hD hS 30 12 28 11 rfl rfl rfl rfl rfl (cpk_1 hq54) (cpk_2 hq54) (cpk_3 hq54) (cpk_4 hq54) (cpk_5 hq54) (fun _ _ => rfl) (Nat.le_of_ble_eq_true rfl) (Nat.le_of_ble_eq_true rfl) dX1_copyFrom_229 (fun H locs hP hD hS => ?_)
  have hP : va_P (dC, dI) cls (List.flatten ([(oX1 (p0a 0) (st1 (st1 (st1 p0a 19 xp0_18_14x) 20 xp0_19_14x) 21 xp0_20_14x) (st1 (st1 (st1 p0k 19 zp0_18_14x) 20 zp0_19_14x) 21 zp0_20_14x) (o14.2.1) (srw w52 15 (va_cpy (p1w 15) (w52 15) (nn 0) (nn 0) (nn (w52 14 (nn (w52 0 0)))))) p0l), (oX1 (p1a 0) p1a p1k p1n p1w p1l), (oX9 (p0a 3) (st1 (st1 (st1 (st1 (st1 p0_2a 2 xp0_2_1_14x) 3 xp0_2_2_14x) 4 xp0_2_3_14x) 5 xp0_2_4_14x) 6 xp0_2_5_14x) (st1 (st1 (st1 (st1 (st1 p0_2k 2 zp0_2_1_14x) 3 zp0_2_2_14x) 4 zp0_2_3_14x) 5 zp0_2_4_14x) 6 zp0_2_5_14x) (o14.2.2.2) (o14.2.2.1)), (oX9 (p1a 3) p1_2a p1_2k p1_2n p1_2w)] : List va_W)) H := hP
  have hD : va_D A (List.flatten ([(oX1 (p0a 0) (st1 (st1 (st1 p0a 19 xp0_18_14x) 20 xp0_19_14x) 21 xp0_20_14x) (st1 (st1 (st1 p0k 19 zp0_18_14x) 20 zp0_19_14x) 21 zp0_20_14x) (o14.2.1) (srw w52 15 (va_cpy (p1w 15) (w52 15) (nn 0) (nn 0) (nn (w52 14 (nn (w52 0 0)))))) p0l), (oX1 (p1a 0) p1a p1k p1n p1w p1l), (oX9 (p0a 3) (st1 (st1 (st1 (st1 (st1 p0_2a 2 xp0_2_1_14x) 3 xp0_2_2_14x) 4 xp0_2_3_14x) 5 xp0_2_4_14x) 6 xp0_2_5_14x) (st1 (st1 (st1 (st1 (st1 p0_2k 2 zp0_2_1_14x) 3 zp0_2_2_14x) 4 zp0_2_3_14x) 5 zp0_2_4_14x) 6 zp0_2_5_14x) (o14.2.2.2) (o14.2.2.1)), (oX9 (p1a 3) p1_2a p1_2k p1_2n p1_2w)] : List va_W)) := hD
  obtain ⟨w55, ew55, hrun⟩ := let9 hrun
  rw [← ew55] at hP hD
  have ho9 : (w55, (o14.2.1), (o14.2.2.1), (o14.2.2.2)) = o := Option.some.inj hrun
  subst ho9
  subst hQ
  exact W.vret hx hb hr (fun t ht hW => ⟨⟨(), rfl, trivial, ⟨xp0_18_14x, zp0_18_14x, xp0_19_14x, zp0_19_14x, xp0_20_14x, zp0_20_14x, xp0_2_1_14x, zp0_2_1_14x, xp0_2_2_14x, zp0_2_2_14x, xp0_2_3_14x, zp0_2_3_14x, xp0_2_4_14x, zp0_2_4_14x, xp0_2_5_14x, zp0_2_5_14x, by rw [ht]; exact hP, va_K.moved hW.alike hK, hD⟩⟩, hS.F ht⟩) hS.2.2 dX1_copyFrom_232
def fX1_countPhis_L9 (p0n : Nat → Nat) (p0w : ST) : Nat → Int32 → Int32 → Option Int32
  | 0 => fun _ _ => none
  | n_9 + 1 => fun v2_9 v3_9 => (if v3_9 < 0 then some v2_9 else (if ixb v3_9 (p0n 20) = true then ((fX1_countPhis_L9 p0n p0w n_9) (v2_9 + 1) (p0w 20 (nn v3_9))) else none))
def fX1_countPhis (p0n : Nat → Nat) (p0w : ST) (p1 : Int32) : Option Int32 := (if ixb p1 60 = true then ((fX1_countPhis_L9 p0n p0w NF 0 (p0w 6 (nn p1))).bind fun (o9 : Int32) => some o9) else none)
set_option maxHeartbeats 16000000 in
set_option maxRecDepth 100000 in
theorem kX1_countPhis {zs : ZS} (l : Launch) (dC : Nat → ClassId) (dI : Nat → Nat → Nat) (p0a : Nat → Nat) (p0k : Nat → ClassId) (p0n : Nat → Nat) (p0w : ST) (p0l : SL) (p1 : Int32) (sz : Nat) (o : Int32) (hrun : fX1_countPhis p0n p0w p1 = some o) : Met l yX1_countPhis (wz yX1_countPhis cX1_countPhis 4 (Option.some Jvm.ClassFile.FieldType.int)) ({ frames := 0, cells := 0, slots := 0, locals := 0 } : Room) (va_Pc [.ref (p0a 0), .int p1] (PRE zs dC dI (List.flatten ([(oX1 (p0a 0) p0a p0k p0n p0w p0l)] : List va_W)) (List.flatten ([(tX1 p0k)] : List (List (ClassId × FieldType)))) sz)) (va_Qi (fun (r : Int32) (_ : Unit) => r = o) (fun _ t => POST dC dI (List.flatten ([(oX1 (p0a 0) p0a p0k p0n p0w p0l)] : List va_W)) (List.flatten ([(tX1 p0k)] : List (List (ClassId × FieldType)))) (va_A (List.flatten ([(oX1 (p0a 0) p0a p0k p0n p0w p0l)] : List va_W)) sz) t) (va_A (List.flatten ([(oX1 (p0a 0) p0a p0k p0n p0w p0l)] : List va_W)) sz)) 0 0 (va_A (List.flatten ([(oX1 (p0a 0) p0a p0k p0n p0w p0l)] : List va_W)) sz) := by
  refine Met.ofW (cc := cX1_countPhis) (maxL := 4) (ret := (Option.some Jvm.ClassFile.FieldType.int)) (by decide) rfl ?_
  intro p e s m args below meth c s₁ B hml hv
  obtain ⟨rfl, hsz, hP, hK, hD0, hE⟩ := hv
  have hx := B.exec
  have hb := B.bytes
  have hr := B.returns
  have hts0 := atoms_spec (ws := wz yX1_countPhis cX1_countPhis 4 (Option.some Jvm.ClassFile.FieldType.int)) B.pre
  have hts : ∀ w ∈ gw, w.before _ s = true := fun w h => hts0 w (List.mem_cons_of_mem _ h)
  have hown : s.vm.findClass RX1 = some m.cls := findClass_of_methodNamed B.named
  have hlocks := B.notSynchronized
  subst hsz
  have hD := hD0.self (sz := s.heap.size)
  refine gQ9 ?_
  intro Q hQ
  generalize hAe : va_A (List.flatten ([(oX1 (p0a 0) p0a p0k p0n p0w p0l)] : List va_W)) s.heap.size = A at hD hE hQ
  have hA : ∀ q : Nat, s.heap.size ≤ q → A q := fun q h => by rw [← hAe]; exact Or.inr h
  have hS : va_S A s.heap s.heap [] := va_S.rf
  have hP : va_P (dC, dI) cls (List.flatten ([(oX1 (p0a 0) p0a p0k p0n p0w p0l)] : List va_W)) s.heap := hP
  have hl := lv_entry ([.ref (p0a 0), .int p1]) (n := 4) (Nat.le_of_ble_eq_true rfl)
  rw [lg_entry_eq]
  generalize (lg_sl ([.ref (p0a 0), .int p1]) ++ List.replicate (4 - (lg_sl ([.ref (p0a 0), .int p1])).length) Slot.unset).toArray = ls at hl ⊢
  have hl : lv_has ls 4 [(0, .ref (p0a 0)), (1, .int p1)] := hl
  obtain ⟨H, hHe⟩ : ∃ H, H = s.heap := ⟨_, rfl⟩
  obtain ⟨locs, hle⟩ : ∃ locs : List Loc, locs = [] := ⟨_, rfl⟩
  rw [← hHe] at hP
  have hS : va_S A s.heap H locs := by rw [hHe, hle]; exact hS
  show W p l e ({ frames := 0, cells := 0, slots := 0, locals := 0 } : Room) s m ([.ref (p0a 0), .int p1] : List Value).toArray below meth c s.heap [] 0 0 Q (F0 m 0 ls [])
  rw [← hle]
  refine wH9 hHe ?_
  unfold fX1_countPhis at hrun
  refine lv_iconst (v := 0) hx hb dX1_countPhis_0 (by decide) ?_
  refine lv_istore_n (lv' := [(2, .int 0), (0, .ref (p0a 0)), (1, .int p1)]) hx hb dX1_countPhis_1 rfl hl (by decide) rfl (fun ls hl => ?_)
  refine lv_aload_n hx hb dX1_countPhis_2 rfl (lv_at hl 1 rfl) ?_
  refine va_get (D := (dC, dI)) (ci := 4) (v := .ref (p0a 6)) (C := RX1) (T := TX1) (N := 21) hx hb hts i_X1 hown hK hP 0 rfl rfl 5 (by decide) (hts _ qw113) (fun _ h9 => h9) rfl dX1_countPhis_3 ?_
  refine lv_iload_n hx hb dX1_countPhis_6 rfl (lv_at hl 2 rfl) ?_
  obtain ⟨hq1, hrun⟩ := chk9 hrun
  refine va_iald hx hb hK hP 3 2 rfl rfl (ixb_in hq1) dX1_countPhis_7 ?_
  refine lv_istore_n (lv' := [(3, .int (p0w 6 (nn p1))), (2, .int 0), (0, .ref (p0a 0)), (1, .int p1)]) hx hb dX1_countPhis_8 rfl hl (by decide) rfl (fun ls hl => ?_)
  have L9 : ∀ (n_9 : Nat) (v2_9 : Int32) (v3_9 : Int32) (o9 : Int32) (H : Heap) (locs : List Loc) (ls : Array Slot), (fX1_countPhis_L9 p0n p0w n_9) v2_9 v3_9 = some o9 → va_P (dC, dI) cls (List.flatten ([(oX1 (p0a 0) p0a p0k p0n p0w p0l)] : List va_W)) H → va_D A (List.flatten ([(oX1 (p0a 0) p0a p0k p0n p0w p0l)] : List va_W)) → va_K (dC, dI) cls (List.flatten ([(tX1 p0k)] : List (List (ClassId × FieldType)))) s → va_S A s.heap H locs → lv_has ls 4 [(0, .ref (p0a 0)), (2, .int v2_9), (3, .int v3_9)] → (∀ (H : Heap) (locs : List Loc) (ls : Array Slot), va_P (dC, dI) cls (List.flatten ([(oX1 (p0a 0) p0a p0k p0n p0w p0l)] : List va_W)) H → va_D A (List.flatten ([(oX1 (p0a 0) p0a p0k p0n p0w p0l)] : List va_W)) → va_K (dC, dI) cls (List.flatten ([(tX1 p0k)] : List (List (ClassId × FieldType)))) s → va_S A s.heap H locs → lv_has ls 4 [(2, .int o9)] → W p l e ({ frames := 0, cells := 0, slots := 0, locals := 0 } : Room) s m ([.ref (p0a 0), .int p1] : List Value).toArray below meth c H locs 0 0 Q (F0 m 26 ls [])) → W p l e ({ frames := 0, cells := 0, slots := 0, locals := 0 } : Room) s m ([.ref (p0a 0), .int p1] : List Value).toArray below meth c H locs 0 0 Q (F0 m 9 ls []) := by
    intro n_9
    induction n_9 with
    | zero => intro v2_9 v3_9 o9 H locs ls hrun; exact (no9 rfl hrun).elim
    | succ n_9 IH9 =>
      intro v2_9 v3_9 o9 H locs ls hrun hP hD hK hS hl hk9
      unfold fX1_countPhis_L9 at hrun
      refine lv_iload_n hx hb dX1_countPhis_9 rfl (lv_at hl 2 rfl) ?_
      rcases br9 hrun with ⟨hc2, hrun⟩ | ⟨hc2, hrun⟩
      · refine lv_if_lt (tgt := 26) hx hb dX1_countPhis_10 (by decide) (fun _ => ?_) (fun c => absurd hc2 c)
        obtain rfl := (Option.some.inj hrun)
        exact hk9 _ _ _ hP hD hK hS (lv_sub hl [1] rfl)
      · refine lv_if_lt (tgt := 26) hx hb dX1_countPhis_10 (by decide) (fun c => absurd c hc2) (fun _ => ?_)
        refine lv_iinc (v := (v2_9 + 1)) (lv' := [(2, .int (v2_9 + 1)), (0, .ref (p0a 0)), (3, .int v3_9)]) hx hb dX1_countPhis_13 hl (k := 1) rfl rfl (by decide) rfl (fun ls hl => ?_)
        refine lv_aload_n hx hb dX1_countPhis_16 rfl (lv_at hl 1 rfl) ?_
        refine va_get (D := (dC, dI)) (ci := 4) (v := .ref (p0a 20)) (C := RX1) (T := TX1) (N := 21) hx hb hts i_X1 hown hK hP 0 rfl rfl 19 (by decide) (hts _ qw121) (fun _ h9 => h9) rfl dX1_countPhis_17 ?_
        refine lv_iload_n hx hb dX1_countPhis_20 rfl (lv_at hl 2 rfl) ?_
        obtain ⟨hq3, hrun⟩ := chk9 hrun
        refine va_iald hx hb hK hP 16 15 rfl rfl (ixb_in hq3) dX1_countPhis_21 ?_
        refine lv_istore_n (lv' := [(3, .int (p0w 20 (nn v3_9))), (2, .int (v2_9 + 1)), (0, .ref (p0a 0))]) hx hb dX1_countPhis_22 rfl hl (by decide) rfl (fun ls hl => ?_)
        refine lv_goto (tgt := 9) hx hb dX1_countPhis_23 (by decide) ?_
        exact IH9 (v2_9 + 1) (p0w 20 (nn v3_9)) o9 _ _ _ hrun hP hD hK hS (lv_sub hl [2, 1, 0] rfl) hk9
  obtain ⟨o9, hc9, hrun⟩ := bnd9 hrun
  refine L9 NF 0 (p0w 6 (nn p1)) o9 _ _ _ hc9 hP hD hK hS (lv_sub hl [2, 1, 0] rfl) ?_
  intro H locs ls hP hD hK hS hl
  have hl := hl
  refine lv_iload_n hx hb dX1_countPhis_26 rfl (lv_at hl 0 rfl) ?_
  have ho9 : o9 = o := Option.some.inj hrun
  have hP9 : va_P (dC, dI) cls (List.flatten ([(oX1 (p0a 0) p0a p0k p0n p0w p0l)] : List va_W)) H := by first | exact hP | (rw [← ho9]; exact hP)
  have hD9 : va_D A (List.flatten ([(oX1 (p0a 0) p0a p0k p0n p0w p0l)] : List va_W)) := by first | exact hD | (rw [← ho9]; exact hD)
  subst hQ
  exact W.iret (v := o9) hx hb hr (fun t ht hW => ⟨⟨o9, (), rfl, (by rw [← ho9]), ⟨by rw [ht]; exact hP9, va_K.moved hW.alike hK, hD9⟩⟩, hS.F ht⟩) hS.2.2 dX1_countPhis_27
def fX1_countSteps_L9 (p0_2n : Nat → Nat) (p0_2w : ST) : Nat → Int32 → Int32 → Option Int32
  | 0 => fun _ _ => none
  | n_9 + 1 => fun v2_9 v3_9 => (if v3_9 < 0 then some v2_9 else (if ixb v3_9 (p0_2n 6) = true then ((fX1_countSteps_L9 p0_2n p0_2w n_9) (v2_9 + 1) (p0_2w 6 (nn v3_9))) else none))
def fX1_countSteps (p0w : ST) (p1 : Int32) (p0_2n : Nat → Nat) (p0_2w : ST) : Option Int32 := (if ixb p1 60 = true then ((fX1_countSteps_L9 p0_2n p0_2w NF 0 (p0w 4 (nn p1))).bind fun (o9 : Int32) => some o9) else none)
set_option maxHeartbeats 16000000 in
set_option maxRecDepth 100000 in
theorem kX1_countSteps {zs : ZS} (l : Launch) (dC : Nat → ClassId) (dI : Nat → Nat → Nat) (p0a : Nat → Nat) (p0k : Nat → ClassId) (p0n : Nat → Nat) (p0w : ST) (p0l : SL) (p1 : Int32) (p0_2a : Nat → Nat) (p0_2k : Nat → ClassId) (p0_2n : Nat → Nat) (p0_2w : ST) (sz : Nat) (o : Int32) (hrun : fX1_countSteps p0w p1 p0_2n p0_2w = some o) : Met l yX1_countSteps (wz yX1_countSteps cX1_countSteps 4 (Option.some Jvm.ClassFile.FieldType.int)) ({ frames := 0, cells := 0, slots := 0, locals := 0 } : Room) (va_Pc [.ref (p0a 0), .int p1] (PRE zs dC dI (List.flatten ([(oX1 (p0a 0) p0a p0k p0n p0w p0l), (oX9 (p0a 3) p0_2a p0_2k p0_2n p0_2w)] : List va_W)) (List.flatten ([(tX1 p0k), (tX9 p0_2k)] : List (List (ClassId × FieldType)))) sz)) (va_Qi (fun (r : Int32) (_ : Unit) => r = o) (fun _ t => POST dC dI (List.flatten ([(oX1 (p0a 0) p0a p0k p0n p0w p0l), (oX9 (p0a 3) p0_2a p0_2k p0_2n p0_2w)] : List va_W)) (List.flatten ([(tX1 p0k), (tX9 p0_2k)] : List (List (ClassId × FieldType)))) (va_A (List.flatten ([(oX1 (p0a 0) p0a p0k p0n p0w p0l), (oX9 (p0a 3) p0_2a p0_2k p0_2n p0_2w)] : List va_W)) sz) t) (va_A (List.flatten ([(oX1 (p0a 0) p0a p0k p0n p0w p0l), (oX9 (p0a 3) p0_2a p0_2k p0_2n p0_2w)] : List va_W)) sz)) 0 0 (va_A (List.flatten ([(oX1 (p0a 0) p0a p0k p0n p0w p0l), (oX9 (p0a 3) p0_2a p0_2k p0_2n p0_2w)] : List va_W)) sz) := by
  refine Met.ofW (cc := cX1_countSteps) (maxL := 4) (ret := (Option.some Jvm.ClassFile.FieldType.int)) (by decide) rfl ?_
  intro p e s m args below meth c s₁ B hml hv
  obtain ⟨rfl, hsz, hP, hK, hD0, hE⟩ := hv
  have hx := B.exec
  have hb := B.bytes
  have hr := B.returns
  have hts0 := atoms_spec (ws := wz yX1_countSteps cX1_countSteps 4 (Option.some Jvm.ClassFile.FieldType.int)) B.pre
  have hts : ∀ w ∈ gw, w.before _ s = true := fun w h => hts0 w (List.mem_cons_of_mem _ h)
  have hown : s.vm.findClass RX1 = some m.cls := findClass_of_methodNamed B.named
  have hlocks := B.notSynchronized
  subst hsz
  have hD := hD0.self (sz := s.heap.size)
  refine gQ9 ?_
  intro Q hQ
  generalize hAe : va_A (List.flatten ([(oX1 (p0a 0) p0a p0k p0n p0w p0l), (oX9 (p0a 3) p0_2a p0_2k p0_2n p0_2w)] : List va_W)) s.heap.size = A at hD hE hQ
  have hA : ∀ q : Nat, s.heap.size ≤ q → A q := fun q h => by rw [← hAe]; exact Or.inr h
  have hS : va_S A s.heap s.heap [] := va_S.rf
  have hP : va_P (dC, dI) cls (List.flatten ([(oX1 (p0a 0) p0a p0k p0n p0w p0l), (oX9 (p0a 3) p0_2a p0_2k p0_2n p0_2w)] : List va_W)) s.heap := hP
  have hl := lv_entry ([.ref (p0a 0), .int p1]) (n := 4) (Nat.le_of_ble_eq_true rfl)
  rw [lg_entry_eq]
  generalize (lg_sl ([.ref (p0a 0), .int p1]) ++ List.replicate (4 - (lg_sl ([.ref (p0a 0), .int p1])).length) Slot.unset).toArray = ls at hl ⊢
  have hl : lv_has ls 4 [(0, .ref (p0a 0)), (1, .int p1)] := hl
  obtain ⟨H, hHe⟩ : ∃ H, H = s.heap := ⟨_, rfl⟩
  obtain ⟨locs, hle⟩ : ∃ locs : List Loc, locs = [] := ⟨_, rfl⟩
  rw [← hHe] at hP
  have hS : va_S A s.heap H locs := by rw [hHe, hle]; exact hS
  show W p l e ({ frames := 0, cells := 0, slots := 0, locals := 0 } : Room) s m ([.ref (p0a 0), .int p1] : List Value).toArray below meth c s.heap [] 0 0 Q (F0 m 0 ls [])
  rw [← hle]
  refine wH9 hHe ?_
  unfold fX1_countSteps at hrun
  refine lv_iconst (v := 0) hx hb dX1_countSteps_0 (by decide) ?_
  refine lv_istore_n (lv' := [(2, .int 0), (0, .ref (p0a 0)), (1, .int p1)]) hx hb dX1_countSteps_1 rfl hl (by decide) rfl (fun ls hl => ?_)
  refine lv_aload_n hx hb dX1_countSteps_2 rfl (lv_at hl 1 rfl) ?_
  refine va_get (D := (dC, dI)) (ci := 4) (v := .ref (p0a 4)) (C := RX1) (T := TX1) (N := 21) hx hb hts i_X1 hown hK hP 0 rfl rfl 3 (by decide) (hts _ qw111) (fun _ h9 => h9) rfl dX1_countSteps_3 ?_
  refine lv_iload_n hx hb dX1_countSteps_6 rfl (lv_at hl 2 rfl) ?_
  obtain ⟨hq1, hrun⟩ := chk9 hrun
  refine va_iald hx hb hK hP 1 0 rfl rfl (ixb_in hq1) dX1_countSteps_7 ?_
  refine lv_istore_n (lv' := [(3, .int (p0w 4 (nn p1))), (2, .int 0), (0, .ref (p0a 0)), (1, .int p1)]) hx hb dX1_countSteps_8 rfl hl (by decide) rfl (fun ls hl => ?_)
  have L9 : ∀ (n_9 : Nat) (v2_9 : Int32) (v3_9 : Int32) (o9 : Int32) (H : Heap) (locs : List Loc) (ls : Array Slot), (fX1_countSteps_L9 p0_2n p0_2w n_9) v2_9 v3_9 = some o9 → va_P (dC, dI) cls (List.flatten ([(oX1 (p0a 0) p0a p0k p0n p0w p0l), (oX9 (p0a 3) p0_2a p0_2k p0_2n p0_2w)] : List va_W)) H → va_D A (List.flatten ([(oX1 (p0a 0) p0a p0k p0n p0w p0l), (oX9 (p0a 3) p0_2a p0_2k p0_2n p0_2w)] : List va_W)) → va_K (dC, dI) cls (List.flatten ([(tX1 p0k), (tX9 p0_2k)] : List (List (ClassId × FieldType)))) s → va_S A s.heap H locs → lv_has ls 4 [(0, .ref (p0a 0)), (2, .int v2_9), (3, .int v3_9)] → (∀ (H : Heap) (locs : List Loc) (ls : Array Slot), va_P (dC, dI) cls (List.flatten ([(oX1 (p0a 0) p0a p0k p0n p0w p0l), (oX9 (p0a 3) p0_2a p0_2k p0_2n p0_2w)] : List va_W)) H → va_D A (List.flatten ([(oX1 (p0a 0) p0a p0k p0n p0w p0l), (oX9 (p0a 3) p0_2a p0_2k p0_2n p0_2w)] : List va_W)) → va_K (dC, dI) cls (List.flatten ([(tX1 p0k), (tX9 p0_2k)] : List (List (ClassId × FieldType)))) s → va_S A s.heap H locs → lv_has ls 4 [(2, .int o9)] → W p l e ({ frames := 0, cells := 0, slots := 0, locals := 0 } : Room) s m ([.ref (p0a 0), .int p1] : List Value).toArray below meth c H locs 0 0 Q (F0 m 29 ls [])) → W p l e ({ frames := 0, cells := 0, slots := 0, locals := 0 } : Room) s m ([.ref (p0a 0), .int p1] : List Value).toArray below meth c H locs 0 0 Q (F0 m 9 ls []) := by
    intro n_9
    induction n_9 with
    | zero => intro v2_9 v3_9 o9 H locs ls hrun; exact (no9 rfl hrun).elim
    | succ n_9 IH9 =>
      intro v2_9 v3_9 o9 H locs ls hrun hP hD hK hS hl hk9
      unfold fX1_countSteps_L9 at hrun
      refine lv_iload_n hx hb dX1_countSteps_9 rfl (lv_at hl 2 rfl) ?_
      rcases br9 hrun with ⟨hc2, hrun⟩ | ⟨hc2, hrun⟩
      · refine lv_if_lt (tgt := 29) hx hb dX1_countSteps_10 (by decide) (fun _ => ?_) (fun c => absurd hc2 c)
        obtain rfl := (Option.some.inj hrun)
        exact hk9 _ _ _ hP hD hK hS (lv_sub hl [1] rfl)
      · refine lv_if_lt (tgt := 29) hx hb dX1_countSteps_10 (by decide) (fun c => absurd c hc2) (fun _ => ?_)
        refine lv_iinc (v := (v2_9 + 1)) (lv' := [(2, .int (v2_9 + 1)), (0, .ref (p0a 0)), (3, .int v3_9)]) hx hb dX1_countSteps_13 hl (k := 1) rfl rfl (by decide) rfl (fun ls hl => ?_)
        refine lv_aload_n hx hb dX1_countSteps_16 rfl (lv_at hl 1 rfl) ?_
        refine va_get (D := (dC, dI)) (ci := 4) (v := .ref (p0a 3)) (C := RX1) (T := TX1) (N := 21) hx hb hts i_X1 hown hK hP 0 rfl rfl 2 (by decide) (hts _ qw132) (fun _ h9 => h9) rfl dX1_countSteps_17 ?_
        refine va_get (D := (dC, dI)) (ci := 3) (v := .ref (p0_2a 6)) (C := RX9) (T := TX9) (N := 6) hx hb hts i_X9 hown hK hP 18 rfl rfl 5 (by decide) (hts _ qw138) (fun _ h9 => h9) rfl dX1_countSteps_20 ?_
        refine lv_iload_n hx hb dX1_countSteps_23 rfl (lv_at hl 2 rfl) ?_
        obtain ⟨hq3, hrun⟩ := chk9 hrun
        refine va_iald hx hb hK hP 23 21 rfl rfl (ixb_in hq3) dX1_countSteps_24 ?_
        refine lv_istore_n (lv' := [(3, .int (p0_2w 6 (nn v3_9))), (2, .int (v2_9 + 1)), (0, .ref (p0a 0))]) hx hb dX1_countSteps_25 rfl hl (by decide) rfl (fun ls hl => ?_)
        refine lv_goto (tgt := 9) hx hb dX1_countSteps_26 (by decide) ?_
        exact IH9 (v2_9 + 1) (p0_2w 6 (nn v3_9)) o9 _ _ _ hrun hP hD hK hS (lv_sub hl [2, 1, 0] rfl) hk9
  obtain ⟨o9, hc9, hrun⟩ := bnd9 hrun
  refine L9 NF 0 (p0w 4 (nn p1)) o9 _ _ _ hc9 hP hD hK hS (lv_sub hl [2, 1, 0] rfl) ?_
  intro H locs ls hP hD hK hS hl
  have hl := hl
  refine lv_iload_n hx hb dX1_countSteps_29 rfl (lv_at hl 0 rfl) ?_
  have ho9 : o9 = o := Option.some.inj hrun
  have hP9 : va_P (dC, dI) cls (List.flatten ([(oX1 (p0a 0) p0a p0k p0n p0w p0l), (oX9 (p0a 3) p0_2a p0_2k p0_2n p0_2w)] : List va_W)) H := by first | exact hP | (rw [← ho9]; exact hP)
  have hD9 : va_D A (List.flatten ([(oX1 (p0a 0) p0a p0k p0n p0w p0l), (oX9 (p0a 3) p0_2a p0_2k p0_2n p0_2w)] : List va_W)) := by first | exact hD | (rw [← ho9]; exact hD)
  subst hQ
  exact W.iret (v := o9) hx hb hr (fun t ht hW => ⟨⟨o9, (), rfl, (by rw [← ho9]), ⟨by rw [ht]; exact hP9, va_K.moved hW.alike hK, hD9⟩⟩, hS.F ht⟩) hS.2.2 dX1_countSteps_30
def fX1_countValues_J49 (kk27 : Int32 → Int32 → Option Int32) (p0_2n : Nat → Nat) (p0_2w : ST) (v3_27 : Int32) (y0_49 : Int32) (y1_49 : Int32) : Option Int32 := (if ixb v3_27 (p0_2n 6) = true then (kk27 (y1_49 + y0_49) (p0_2w 6 (nn v3_27))) else none)
def fX1_countValues_L27 (p0_2n : Nat → Nat) (p0_2w : ST) : Nat → Int32 → Int32 → Option Int32
  | 0 => fun _ _ => none
  | n_27 + 1 => fun v1_27 v3_27 => (if v3_27 < 0 then some v1_27 else (if ixb v3_27 (p0_2n 3) = true then (if (p0_2w 3 (nn v3_27)) < 0 then (fX1_countValues_J49 (fX1_countValues_L27 p0_2n p0_2w n_27) p0_2n p0_2w v3_27 0 v1_27) else (fX1_countValues_J49 (fX1_countValues_L27 p0_2n p0_2w n_27) p0_2n p0_2w v3_27 1 v1_27)) else none))
def fX1_countValues_L4 (p0n : Nat → Nat) (p0w : ST) (p0_2n : Nat → Nat) (p0_2w : ST) : Nat → Int32 → Int32 → Option Int32
  | 0 => fun _ _ => none
  | n_4 + 1 => fun v1_4 v2_4 => (if (p0w 0 0) ≤ v2_4 then some v1_4 else ((fX1_countPhis p0n p0w v2_4).bind fun (o_2 : Int32) => (if ixb v2_4 60 = true then ((fX1_countValues_L27 p0_2n p0_2w NF (v1_4 + o_2) (p0w 4 (nn v2_4))).bind fun (o27 : Int32) => ((fX1_countValues_L4 p0n p0w p0_2n p0_2w n_4) o27 (v2_4 + 1))) else none)))
def fX1_countValues (p0n : Nat → Nat) (p0w : ST) (p0_2n : Nat → Nat) (p0_2w : ST) : Option Int32 := ((fX1_countValues_L4 p0n p0w p0_2n p0_2w NF 0 0).bind fun (o4 : Int32) => some o4)
set_option maxHeartbeats 16000000 in
set_option maxRecDepth 100000 in
theorem kX1_countValues {zs : ZS} (l : Launch) (dC : Nat → ClassId) (dI : Nat → Nat → Nat) (p0a : Nat → Nat) (p0k : Nat → ClassId) (p0n : Nat → Nat) (p0w : ST) (p0l : SL) (p0_2a : Nat → Nat) (p0_2k : Nat → ClassId) (p0_2n : Nat → Nat) (p0_2w : ST) (sz : Nat) (o : Int32) (hrun : fX1_countValues p0n p0w p0_2n p0_2w = some o) : Met l yX1_countValues (wz yX1_countValues cX1_countValues 4 (Option.some Jvm.ClassFile.FieldType.int)) ({ frames := 1, cells := 0, slots := 0, locals := 23 } : Room) (va_Pc [.ref (p0a 0)] (PRE zs dC dI (List.flatten ([(oX1 (p0a 0) p0a p0k p0n p0w p0l), (oX9 (p0a 3) p0_2a p0_2k p0_2n p0_2w)] : List va_W)) (List.flatten ([(tX1 p0k), (tX9 p0_2k)] : List (List (ClassId × FieldType)))) sz)) (va_Qi (fun (r : Int32) (_ : Unit) => r = o) (fun _ t => POST dC dI (List.flatten ([(oX1 (p0a 0) p0a p0k p0n p0w p0l), (oX9 (p0a 3) p0_2a p0_2k p0_2n p0_2w)] : List va_W)) (List.flatten ([(tX1 p0k), (tX9 p0_2k)] : List (List (ClassId × FieldType)))) (va_A (List.flatten ([(oX1 (p0a 0) p0a p0k p0n p0w p0l), (oX9 (p0a 3) p0_2a p0_2k p0_2n p0_2w)] : List va_W)) sz) t) (va_A (List.flatten ([(oX1 (p0a 0) p0a p0k p0n p0w p0l), (oX9 (p0a 3) p0_2a p0_2k p0_2n p0_2w)] : List va_W)) sz)) 0 0 (va_A (List.flatten ([(oX1 (p0a 0) p0a p0k p0n p0w p0l), (oX9 (p0a 3) p0_2a p0_2k p0_2n p0_2w)] : List va_W)) sz) := by
  refine Met.ofW (cc := cX1_countValues) (maxL := 4) (ret := (Option.some Jvm.ClassFile.FieldType.int)) (by decide) rfl ?_
  intro p e s m args below meth c s₁ B hml hv
  obtain ⟨rfl, hsz, hP, hK, hD0, hE⟩ := hv
  have hx := B.exec
  have hb := B.bytes
  have hr := B.returns
  have hts0 := atoms_spec (ws := wz yX1_countValues cX1_countValues 4 (Option.some Jvm.ClassFile.FieldType.int)) B.pre
  have hts : ∀ w ∈ gw, w.before _ s = true := fun w h => hts0 w (List.mem_cons_of_mem _ h)
  have hown : s.vm.findClass RX1 = some m.cls := findClass_of_methodNamed B.named
  have hlocks := B.notSynchronized
  subst hsz
  have hD := hD0.self (sz := s.heap.size)
  refine gQ9 ?_
  intro Q hQ
  generalize hAe : va_A (List.flatten ([(oX1 (p0a 0) p0a p0k p0n p0w p0l), (oX9 (p0a 3) p0_2a p0_2k p0_2n p0_2w)] : List va_W)) s.heap.size = A at hD hE hQ
  have hA : ∀ q : Nat, s.heap.size ≤ q → A q := fun q h => by rw [← hAe]; exact Or.inr h
  have hS : va_S A s.heap s.heap [] := va_S.rf
  have hP : va_P (dC, dI) cls (List.flatten ([(oX1 (p0a 0) p0a p0k p0n p0w p0l), (oX9 (p0a 3) p0_2a p0_2k p0_2n p0_2w)] : List va_W)) s.heap := hP
  have hl := lv_entry ([.ref (p0a 0)]) (n := 4) (Nat.le_of_ble_eq_true rfl)
  rw [lg_entry_eq]
  generalize (lg_sl ([.ref (p0a 0)]) ++ List.replicate (4 - (lg_sl ([.ref (p0a 0)])).length) Slot.unset).toArray = ls at hl ⊢
  have hl : lv_has ls 4 [(0, .ref (p0a 0))] := hl
  obtain ⟨H, hHe⟩ : ∃ H, H = s.heap := ⟨_, rfl⟩
  obtain ⟨locs, hle⟩ : ∃ locs : List Loc, locs = [] := ⟨_, rfl⟩
  rw [← hHe] at hP
  have hS : va_S A s.heap H locs := by rw [hHe, hle]; exact hS
  show W p l e ({ frames := 1, cells := 0, slots := 0, locals := 23 } : Room) s m ([.ref (p0a 0)] : List Value).toArray below meth c s.heap [] 0 0 Q (F0 m 0 ls [])
  rw [← hle]
  refine wH9 hHe ?_
  unfold fX1_countValues at hrun
  refine lv_iconst (v := 0) hx hb dX1_countValues_0 (by decide) ?_
  refine lv_istore_n (lv' := [(1, .int 0), (0, .ref (p0a 0))]) hx hb dX1_countValues_1 rfl hl (by decide) rfl (fun ls hl => ?_)
  refine lv_iconst (v := 0) hx hb dX1_countValues_2 (by decide) ?_
  refine lv_istore_n (lv' := [(2, .int 0), (1, .int 0), (0, .ref (p0a 0))]) hx hb dX1_countValues_3 rfl hl (by decide) rfl (fun ls hl => ?_)
  have L4 : ∀ (n_4 : Nat) (v1_4 : Int32) (v2_4 : Int32) (o4 : Int32) (H : Heap) (locs : List Loc) (ls : Array Slot), (fX1_countValues_L4 p0n p0w p0_2n p0_2w n_4) v1_4 v2_4 = some o4 → va_P (dC, dI) cls (List.flatten ([(oX1 (p0a 0) p0a p0k p0n p0w p0l), (oX9 (p0a 3) p0_2a p0_2k p0_2n p0_2w)] : List va_W)) H → va_D A (List.flatten ([(oX1 (p0a 0) p0a p0k p0n p0w p0l), (oX9 (p0a 3) p0_2a p0_2k p0_2n p0_2w)] : List va_W)) → va_K (dC, dI) cls (List.flatten ([(tX1 p0k), (tX9 p0_2k)] : List (List (ClassId × FieldType)))) s → va_S A s.heap H locs → lv_has ls 4 [(0, .ref (p0a 0)), (1, .int v1_4), (2, .int v2_4)] → (∀ (H : Heap) (locs : List Loc) (ls : Array Slot), va_P (dC, dI) cls (List.flatten ([(oX1 (p0a 0) p0a p0k p0n p0w p0l), (oX9 (p0a 3) p0_2a p0_2k p0_2n p0_2w)] : List va_W)) H → va_D A (List.flatten ([(oX1 (p0a 0) p0a p0k p0n p0w p0l), (oX9 (p0a 3) p0_2a p0_2k p0_2n p0_2w)] : List va_W)) → va_K (dC, dI) cls (List.flatten ([(tX1 p0k), (tX9 p0_2k)] : List (List (ClassId × FieldType)))) s → va_S A s.heap H locs → lv_has ls 4 [(1, .int o4)] → W p l e ({ frames := 1, cells := 0, slots := 0, locals := 23 } : Room) s m ([.ref (p0a 0)] : List Value).toArray below meth c H locs 0 0 Q (F0 m 70 ls [])) → W p l e ({ frames := 1, cells := 0, slots := 0, locals := 23 } : Room) s m ([.ref (p0a 0)] : List Value).toArray below meth c H locs 0 0 Q (F0 m 4 ls []) := by
    intro n_4
    induction n_4 with
    | zero => intro v1_4 v2_4 o4 H locs ls hrun; exact (no9 rfl hrun).elim
    | succ n_4 IH4 =>
      intro v1_4 v2_4 o4 H locs ls hrun hP hD hK hS hl hk4
      unfold fX1_countValues_L4 at hrun
      refine lv_iload_n hx hb dX1_countValues_4 rfl (lv_at hl 2 rfl) ?_
      refine lv_aload_n hx hb dX1_countValues_5 rfl (lv_at hl 0 rfl) ?_
      refine va_get (D := (dC, dI)) (ci := 4) (v := .int (p0w 0 0)) (C := RX1) (T := TX1) (N := 21) hx hb hts i_X1 hown hK hP 0 rfl rfl 0 (by decide) (hts _ qw110) (fun _ h9 => h9) rfl dX1_countValues_6 ?_
      rcases br9 hrun with ⟨hc1, hrun⟩ | ⟨hc1, hrun⟩
      · refine lv_icmp_ge (tgt := 70) hx hb dX1_countValues_9 (by decide) (fun _ => ?_) (fun c => absurd hc1 c)
        obtain rfl := (Option.some.inj hrun)
        exact hk4 _ _ _ hP hD hK hS (lv_sub hl [1] rfl)
      · refine lv_icmp_ge (tgt := 70) hx hb dX1_countValues_9 (by decide) (fun c => absurd c hc1) (fun _ => ?_)
        refine lv_iload_n hx hb dX1_countValues_12 rfl (lv_at hl 1 rfl) ?_
        refine lv_aload_n hx hb dX1_countValues_13 rfl (lv_at hl 0 rfl) ?_
        refine lv_iload_n hx hb dX1_countValues_14 rfl (lv_at hl 2 rfl) ?_
        obtain ⟨o_2, hc_2, hrun⟩ := bnd9 hrun
        have hPx : va_P (dC, dI) cls ((List.flatten ([(oX1 (p0a 0) p0a p0k p0n p0w p0l)] : List va_W)) ++ (List.flatten ([(oX9 (p0a 3) p0_2a p0_2k p0_2n p0_2w)] : List va_W))) H := vP_fa (vP_perm hP (bP (List.Perm.refl _)))
        have hDx : va_D A ((List.flatten ([(oX1 (p0a 0) p0a p0k p0n p0w p0l)] : List va_W)) ++ (List.flatten ([(oX9 (p0a 3) p0_2a p0_2k p0_2n p0_2w)] : List va_W))) := vD_fa (vD_perm hD (bP (List.Perm.refl _)))
        have hKx : va_K (dC, dI) cls ((List.flatten ([(tX1 p0k)] : List (List (ClassId × FieldType)))) ++ (List.flatten ([(tX9 p0_2k)] : List (List (ClassId × FieldType))))) s := vK_fa (vK_perm hK (bP (List.Perm.refl _)))
        have hPc := vP_l hPx
        have hDc := vD_l hDx
        have hKc := vK_l hKx
        have hFc := vfree hDx hS hA
        refine va_calli (va_runV (As := [.int v2_4]) (rest := [.int v1_4]) ⟨hx, hb, hml, hown, hts⟩ (kX1_countPhis l dC dI (p0a := p0a) (p0k := p0k) (p0n := p0n) (p0w := p0w) (p0l := p0l) (p1 := v2_4) (sz := _) (o := o_2) (hrun := hc_2)) (cwV 1 hts (gi_V qw170 qw171 qw172 qw126 (gi_z qw169)) rfl rfl rfl (by decide +kernel) ⟨Nat.le_of_ble_eq_true rfl, Nat.le_of_ble_eq_true rfl⟩) ⟨PRE.blind, va_recv hKc hPc (ci := 4) (q0 := 0) rfl rfl, PRE.of hE hS hFc hPc hKc hDc⟩ rfl rfl hl.1 rfl (lv_room (Nat.le_of_ble_eq_true rfl)) dX1_countValues_15 ⟨(Nat.le_of_ble_eq_true rfl), (Nat.le_of_ble_eq_true rfl)⟩) hS (fun q _ h => hFc q h) hFc (fun r3 u t H locs ht hvm hw hB hz1 hk1 hS => ?_)
        obtain ⟨b1, b2, b3⟩ := hB
        rw [ht] at b1
        obtain ⟨hP, hD, hK⟩ := JOINC (wc := (List.flatten ([(oX1 (p0a 0) p0a p0k p0n p0w p0l)] : List va_W))) (wr := (List.flatten ([(oX9 (p0a 3) p0_2a p0_2k p0_2n p0_2w)] : List va_W))) (w1 := (List.flatten ([(oX1 (p0a 0) p0a p0k p0n p0w p0l)] : List va_W))) (t1 := (List.flatten ([(tX1 p0k)] : List (List (ClassId × FieldType))))) hPx hDx hKx hk1 hFc b1 (va_K.moved hvm.symm b2) b3
        have hP : va_P (dC, dI) cls (List.flatten ([(oX1 (p0a 0) p0a p0k p0n p0w p0l), (oX9 (p0a 3) p0_2a p0_2k p0_2n p0_2w)] : List va_W)) H := vP_perm (vP_fb hP) (bP (List.Perm.refl _))
        have hD : va_D A (List.flatten ([(oX1 (p0a 0) p0a p0k p0n p0w p0l), (oX9 (p0a 3) p0_2a p0_2k p0_2n p0_2w)] : List va_W)) := vD_perm (vD_fb hD) (bP (List.Perm.refl _))
        have hK : va_K (dC, dI) cls (List.flatten ([(tX1 p0k), (tX9 p0_2k)] : List (List (ClassId × FieldType)))) s := vK_perm (vK_fb hK) (bP (List.Perm.refl _))
        obtain rfl : o_2 = r3 := hw.symm
        refine lv_iadd hx hb dX1_countValues_18 ?_
        refine lv_istore_n (lv' := [(1, .int (v1_4 + o_2)), (0, .ref (p0a 0)), (2, .int v2_4)]) hx hb dX1_countValues_19 rfl hl (by decide) rfl (fun ls hl => ?_)
        refine lv_aload_n hx hb dX1_countValues_20 rfl (lv_at hl 1 rfl) ?_
        refine va_get (D := (dC, dI)) (ci := 4) (v := .ref (p0a 4)) (C := RX1) (T := TX1) (N := 21) hx hb hts i_X1 hown hK hP 0 rfl rfl 3 (by decide) (hts _ qw111) (fun _ h9 => h9) rfl dX1_countValues_21 ?_
        refine lv_iload_n hx hb dX1_countValues_24 rfl (lv_at hl 2 rfl) ?_
        obtain ⟨hq4, hrun⟩ := chk9 hrun
        refine va_iald hx hb hK hP 1 0 rfl rfl (ixb_in hq4) dX1_countValues_25 ?_
        refine lv_istore_n (lv' := [(3, .int (p0w 4 (nn v2_4))), (1, .int (v1_4 + o_2)), (0, .ref (p0a 0)), (2, .int v2_4)]) hx hb dX1_countValues_26 rfl hl (by decide) rfl (fun ls hl => ?_)
        have L27 : ∀ (n_27 : Nat) (v1_27 : Int32) (v3_27 : Int32) (o27 : Int32) (H : Heap) (locs : List Loc) (ls : Array Slot), (fX1_countValues_L27 p0_2n p0_2w n_27) v1_27 v3_27 = some o27 → va_P (dC, dI) cls (List.flatten ([(oX1 (p0a 0) p0a p0k p0n p0w p0l), (oX9 (p0a 3) p0_2a p0_2k p0_2n p0_2w)] : List va_W)) H → va_D A (List.flatten ([(oX1 (p0a 0) p0a p0k p0n p0w p0l), (oX9 (p0a 3) p0_2a p0_2k p0_2n p0_2w)] : List va_W)) → va_K (dC, dI) cls (List.flatten ([(tX1 p0k), (tX9 p0_2k)] : List (List (ClassId × FieldType)))) s → va_S A s.heap H locs → lv_has ls 4 [(0, .ref (p0a 0)), (1, .int v1_27), (2, .int v2_4), (3, .int v3_27)] → (∀ (H : Heap) (locs : List Loc) (ls : Array Slot), va_P (dC, dI) cls (List.flatten ([(oX1 (p0a 0) p0a p0k p0n p0w p0l), (oX9 (p0a 3) p0_2a p0_2k p0_2n p0_2w)] : List va_W)) H → va_D A (List.flatten ([(oX1 (p0a 0) p0a p0k p0n p0w p0l), (oX9 (p0a 3) p0_2a p0_2k p0_2n p0_2w)] : List va_W)) → va_K (dC, dI) cls (List.flatten ([(tX1 p0k), (tX9 p0_2k)] : List (List (ClassId × FieldType)))) s → va_S A s.heap H locs → lv_has ls 4 [(0, .ref (p0a 0)), (1, .int o27), (2, .int v2_4)] → W p l e ({ frames := 1, cells := 0, slots := 0, locals := 23 } : Room) s m ([.ref (p0a 0)] : List Value).toArray below meth c H locs 0 0 Q (F0 m 64 ls [])) → W p l e ({ frames := 1, cells := 0, slots := 0, locals := 23 } : Room) s m ([.ref (p0a 0)] : List Value).toArray below meth c H locs 0 0 Q (F0 m 27 ls []) := by
          intro n_27
          induction n_27 with
          | zero => intro v1_27 v3_27 o27 H locs ls hrun; exact (no9 rfl hrun).elim
          | succ n_27 IH27 =>
            intro v1_27 v3_27 o27 H locs ls hrun hP hD hK hS hl hk27
            unfold fX1_countValues_L27 at hrun
            refine lv_iload_n hx hb dX1_countValues_27 rfl (lv_at hl 3 rfl) ?_
            rcases br9 hrun with ⟨hc5, hrun⟩ | ⟨hc5, hrun⟩
            · refine lv_if_lt (tgt := 64) hx hb dX1_countValues_28 (by decide) (fun _ => ?_) (fun c => absurd hc5 c)
              obtain rfl := (Option.some.inj hrun)
              exact hk27 _ _ _ hP hD hK hS (lv_sub hl [0, 1, 2] rfl)
            · refine lv_if_lt (tgt := 64) hx hb dX1_countValues_28 (by decide) (fun c => absurd c hc5) (fun _ => ?_)
              refine lv_iload_n hx hb dX1_countValues_31 rfl (lv_at hl 1 rfl) ?_
              refine lv_aload_n hx hb dX1_countValues_32 rfl (lv_at hl 0 rfl) ?_
              refine va_get (D := (dC, dI)) (ci := 4) (v := .ref (p0a 3)) (C := RX1) (T := TX1) (N := 21) hx hb hts i_X1 hown hK hP 0 rfl rfl 2 (by decide) (hts _ qw132) (fun _ h9 => h9) rfl dX1_countValues_33 ?_
              refine va_get (D := (dC, dI)) (ci := 3) (v := .ref (p0_2a 3)) (C := RX9) (T := TX9) (N := 6) hx hb hts i_X9 hown hK hP 18 rfl rfl 2 (by decide) (hts _ qw160) (fun _ h9 => h9) rfl dX1_countValues_36 ?_
              refine lv_iload_n hx hb dX1_countValues_39 rfl (lv_at hl 3 rfl) ?_
              obtain ⟨hq6, hrun⟩ := chk9 hrun
              refine va_iald hx hb hK hP 20 18 rfl rfl (ixb_in hq6) dX1_countValues_40 ?_
              have J49 : ∀ (y0_49 : Int32) (y1_49 : Int32) (H : Heap) (locs : List Loc) (ls : Array Slot), (fX1_countValues_J49 (fX1_countValues_L27 p0_2n p0_2w n_27) p0_2n p0_2w v3_27 y0_49 y1_49) = some o27 → va_P (dC, dI) cls (List.flatten ([(oX1 (p0a 0) p0a p0k p0n p0w p0l), (oX9 (p0a 3) p0_2a p0_2k p0_2n p0_2w)] : List va_W)) H → va_D A (List.flatten ([(oX1 (p0a 0) p0a p0k p0n p0w p0l), (oX9 (p0a 3) p0_2a p0_2k p0_2n p0_2w)] : List va_W)) → va_K (dC, dI) cls (List.flatten ([(tX1 p0k), (tX9 p0_2k)] : List (List (ClassId × FieldType)))) s → va_S A s.heap H locs → lv_has ls 4 [(0, .ref (p0a 0)), (2, .int v2_4), (3, .int v3_27)] → W p l e ({ frames := 1, cells := 0, slots := 0, locals := 23 } : Room) s m ([.ref (p0a 0)] : List Value).toArray below meth c H locs 0 0 Q (F0 m 49 ls [.int y0_49, .int y1_49]) := by
                intro y0_49 y1_49 H locs ls hrun hP hD hK hS hl 
                unfold fX1_countValues_J49 at hrun
                refine lv_iadd hx hb dX1_countValues_49 ?_
                refine lv_istore_n (lv' := [(1, .int (y1_49 + y0_49)), (0, .ref (p0a 0)), (2, .int v2_4), (3, .int v3_27)]) hx hb dX1_countValues_50 rfl hl (by decide) rfl (fun ls hl => ?_)
                refine lv_aload_n hx hb dX1_countValues_51 rfl (lv_at hl 1 rfl) ?_
                refine va_get (D := (dC, dI)) (ci := 4) (v := .ref (p0a 3)) (C := RX1) (T := TX1) (N := 21) hx hb hts i_X1 hown hK hP 0 rfl rfl 2 (by decide) (hts _ qw132) (fun _ h9 => h9) rfl dX1_countValues_52 ?_
                refine va_get (D := (dC, dI)) (ci := 3) (v := .ref (p0_2a 6)) (C := RX9) (T := TX9) (N := 6) hx hb hts i_X9 hown hK hP 18 rfl rfl 5 (by decide) (hts _ qw138) (fun _ h9 => h9) rfl dX1_countValues_55 ?_
                refine lv_iload_n hx hb dX1_countValues_58 rfl (lv_at hl 3 rfl) ?_
                obtain ⟨hq7, hrun⟩ := chk9 hrun
                refine va_iald hx hb hK hP 23 21 rfl rfl (ixb_in hq7) dX1_countValues_59 ?_
                refine lv_istore_n (lv' := [(3, .int (p0_2w 6 (nn v3_27))), (1, .int (y1_49 + y0_49)), (0, .ref (p0a 0)), (2, .int v2_4)]) hx hb dX1_countValues_60 rfl hl (by decide) rfl (fun ls hl => ?_)
                refine lv_goto (tgt := 27) hx hb dX1_countValues_61 (by decide) ?_
                exact IH27 (y1_49 + y0_49) (p0_2w 6 (nn v3_27)) o27 _ _ _ hrun hP hD hK hS (lv_sub hl [2, 1, 3, 0] rfl) hk27
              rcases br9 hrun with ⟨hc8, hrun⟩ | ⟨hc8, hrun⟩
              · refine lv_if_lt (tgt := 48) hx hb dX1_countValues_41 (by decide) (fun _ => ?_) (fun c => absurd hc8 c)
                refine lv_iconst (v := 0) hx hb dX1_countValues_48 (by decide) ?_
                exact J49 0 v1_27 _ _ _ hrun hP hD hK hS (lv_sub hl [0, 2, 3] rfl)
              · refine lv_if_lt (tgt := 48) hx hb dX1_countValues_41 (by decide) (fun c => absurd c hc8) (fun _ => ?_)
                refine lv_iconst (v := 1) hx hb dX1_countValues_44 (by decide) ?_
                refine lv_goto (tgt := 49) hx hb dX1_countValues_45 (by decide) ?_
                exact J49 1 v1_27 _ _ _ hrun hP hD hK hS (lv_sub hl [0, 2, 3] rfl)
        obtain ⟨o27, hc27, hrun⟩ := bnd9 hrun
        refine L27 NF (v1_4 + o_2) (p0w 4 (nn v2_4)) o27 _ _ _ hc27 hP hD hK hS (lv_sub hl [2, 1, 3, 0] rfl) ?_
        intro H locs ls hP hD hK hS hl
        have hl := hl
        refine lv_iinc (v := (v2_4 + 1)) (lv' := [(2, .int (v2_4 + 1)), (0, .ref (p0a 0)), (1, .int o27)]) hx hb dX1_countValues_64 hl (k := 2) rfl rfl (by decide) rfl (fun ls hl => ?_)
        refine lv_goto (tgt := 4) hx hb dX1_countValues_67 (by decide) ?_
        exact IH4 o27 (v2_4 + 1) o4 _ _ _ hrun hP hD hK hS (lv_sub hl [1, 2, 0] rfl) hk4
  obtain ⟨o4, hc4, hrun⟩ := bnd9 hrun
  refine L4 NF 0 0 o4 _ _ _ hc4 hP hD hK hS (lv_sub hl [2, 1, 0] rfl) ?_
  intro H locs ls hP hD hK hS hl
  have hl := hl
  refine lv_iload_n hx hb dX1_countValues_70 rfl (lv_at hl 0 rfl) ?_
  have ho9 : o4 = o := Option.some.inj hrun
  have hP9 : va_P (dC, dI) cls (List.flatten ([(oX1 (p0a 0) p0a p0k p0n p0w p0l), (oX9 (p0a 3) p0_2a p0_2k p0_2n p0_2w)] : List va_W)) H := by first | exact hP | (rw [← ho9]; exact hP)
  have hD9 : va_D A (List.flatten ([(oX1 (p0a 0) p0a p0k p0n p0w p0l), (oX9 (p0a 3) p0_2a p0_2k p0_2n p0_2w)] : List va_W)) := by first | exact hD | (rw [← ho9]; exact hD)
  subst hQ
  exact W.iret (v := o4) hx hb hr (fun t ht hW => ⟨⟨o4, (), rfl, (by rw [← ho9]), ⟨by rw [ht]; exact hP9, va_K.moved hW.alike hK, hD9⟩⟩, hS.F ht⟩) hS.2.2 dX1_countValues_71
def fX1_leads_J25 (y0_25 : Int32) : Option Int32 := (if y0_25 = 0 ∨ y0_25 = 1 then some y0_25 else none)
def fX1_leads_J20  : Option Int32 := (fX1_leads_J25 1)
def fX1_leads (p0w : ST) (p1 : Int32) (p2 : Int32) : Option Int32 := (if ixb p1 60 = true then (if (p0w 10 (nn p1)) = p2 then (fX1_leads_J20) else (if ixb p1 60 = true then (if (p0w 11 (nn p1)) = p2 then (fX1_leads_J20) else (fX1_leads_J25 0)) else none)) else none)
set_option maxHeartbeats 16000000 in
set_option maxRecDepth 100000 in
theorem kX1_leads {zs : ZS} (l : Launch) (dC : Nat → ClassId) (dI : Nat → Nat → Nat) (p0a : Nat → Nat) (p0k : Nat → ClassId) (p0n : Nat → Nat) (p0w : ST) (p0l : SL) (p1 : Int32) (p2 : Int32) (sz : Nat) (o : Int32) (hrun : fX1_leads p0w p1 p2 = some o) : Met l yX1_leads (wz yX1_leads cX1_leads 3 (Option.some Jvm.ClassFile.FieldType.boolean)) ({ frames := 0, cells := 0, slots := 0, locals := 0 } : Room) (va_Pc [.ref (p0a 0), .int p1, .int p2] (PRE zs dC dI (List.flatten ([(oX1 (p0a 0) p0a p0k p0n p0w p0l)] : List va_W)) (List.flatten ([(tX1 p0k)] : List (List (ClassId × FieldType)))) sz)) (va_Qi (fun (r : Int32) (_ : Unit) => r = o) (fun _ t => POST dC dI (List.flatten ([(oX1 (p0a 0) p0a p0k p0n p0w p0l)] : List va_W)) (List.flatten ([(tX1 p0k)] : List (List (ClassId × FieldType)))) (va_A (List.flatten ([(oX1 (p0a 0) p0a p0k p0n p0w p0l)] : List va_W)) sz) t) (va_A (List.flatten ([(oX1 (p0a 0) p0a p0k p0n p0w p0l)] : List va_W)) sz)) 0 0 (va_A (List.flatten ([(oX1 (p0a 0) p0a p0k p0n p0w p0l)] : List va_W)) sz) := by
  refine Met.ofW (cc := cX1_leads) (maxL := 3) (ret := (Option.some Jvm.ClassFile.FieldType.boolean)) (by decide) rfl ?_
  intro p e s m args below meth c s₁ B hml hv
  obtain ⟨rfl, hsz, hP, hK, hD0, hE⟩ := hv
  have hx := B.exec
  have hb := B.bytes
  have hr := B.returns
  have hts0 := atoms_spec (ws := wz yX1_leads cX1_leads 3 (Option.some Jvm.ClassFile.FieldType.boolean)) B.pre
  have hts : ∀ w ∈ gw, w.before _ s = true := fun w h => hts0 w (List.mem_cons_of_mem _ h)
  have hown : s.vm.findClass RX1 = some m.cls := findClass_of_methodNamed B.named
  have hlocks := B.notSynchronized
  subst hsz
  have hD := hD0.self (sz := s.heap.size)
  refine gQ9 ?_
  intro Q hQ
  generalize hAe : va_A (List.flatten ([(oX1 (p0a 0) p0a p0k p0n p0w p0l)] : List va_W)) s.heap.size = A at hD hE hQ
  have hA : ∀ q : Nat, s.heap.size ≤ q → A q := fun q h => by rw [← hAe]; exact Or.inr h
  have hS : va_S A s.heap s.heap [] := va_S.rf
  have hP : va_P (dC, dI) cls (List.flatten ([(oX1 (p0a 0) p0a p0k p0n p0w p0l)] : List va_W)) s.heap := hP
  have hl := lv_entry ([.ref (p0a 0), .int p1, .int p2]) (n := 3) (Nat.le_of_ble_eq_true rfl)
  rw [lg_entry_eq]
  generalize (lg_sl ([.ref (p0a 0), .int p1, .int p2]) ++ List.replicate (3 - (lg_sl ([.ref (p0a 0), .int p1, .int p2])).length) Slot.unset).toArray = ls at hl ⊢
  have hl : lv_has ls 3 [(0, .ref (p0a 0)), (1, .int p1), (2, .int p2)] := hl
  obtain ⟨H, hHe⟩ : ∃ H, H = s.heap := ⟨_, rfl⟩
  obtain ⟨locs, hle⟩ : ∃ locs : List Loc, locs = [] := ⟨_, rfl⟩
  rw [← hHe] at hP
  have hS : va_S A s.heap H locs := by rw [hHe, hle]; exact hS
  show W p l e ({ frames := 0, cells := 0, slots := 0, locals := 0 } : Room) s m ([.ref (p0a 0), .int p1, .int p2] : List Value).toArray below meth c s.heap [] 0 0 Q (F0 m 0 ls [])
  rw [← hle]
  refine wH9 hHe ?_
  unfold fX1_leads at hrun
  refine lv_aload_n hx hb dX1_leads_0 rfl (lv_at hl 0 rfl) ?_
  refine va_get (D := (dC, dI)) (ci := 4) (v := .ref (p0a 10)) (C := RX1) (T := TX1) (N := 21) hx hb hts i_X1 hown hK hP 0 rfl rfl 9 (by decide) (hts _ qw117) (fun _ h9 => h9) rfl dX1_leads_1 ?_
  refine lv_iload_n hx hb dX1_leads_4 rfl (lv_at hl 1 rfl) ?_
  obtain ⟨hq1, hrun⟩ := chk9 hrun
  refine va_iald hx hb hK hP 7 6 rfl rfl (ixb_in hq1) dX1_leads_5 ?_
  refine lv_iload_n hx hb dX1_leads_6 rfl (lv_at hl 2 rfl) ?_
  have J25 : ∀ (y0_25 : Int32) (H : Heap) (locs : List Loc) (ls : Array Slot), (fX1_leads_J25 y0_25) = some o → va_P (dC, dI) cls (List.flatten ([(oX1 (p0a 0) p0a p0k p0n p0w p0l)] : List va_W)) H → va_D A (List.flatten ([(oX1 (p0a 0) p0a p0k p0n p0w p0l)] : List va_W)) → va_K (dC, dI) cls (List.flatten ([(tX1 p0k)] : List (List (ClassId × FieldType)))) s → va_S A s.heap H locs → lv_has ls 3 [] → W p l e ({ frames := 0, cells := 0, slots := 0, locals := 0 } : Room) s m ([.ref (p0a 0), .int p1, .int p2] : List Value).toArray below meth c H locs 0 0 Q (F0 m 25 ls [.int y0_25]) := by
    intro y0_25 H locs ls hrun hP hD hK hS hl 
    unfold fX1_leads_J25 at hrun
    obtain ⟨hz9, hrun⟩ := chk9 hrun
    have ho9 : y0_25 = o := Option.some.inj hrun
    have hP9 : va_P (dC, dI) cls (List.flatten ([(oX1 (p0a 0) p0a p0k p0n p0w p0l)] : List va_W)) H := by first | exact hP | (rw [← ho9]; exact hP)
    have hD9 : va_D A (List.flatten ([(oX1 (p0a 0) p0a p0k p0n p0w p0l)] : List va_W)) := by first | exact hD | (rw [← ho9]; exact hD)
    subst hQ
    exact W.zret (v := y0_25) hx hb hr (bz9 hz9) (fun t ht hW => ⟨⟨y0_25, (), rfl, (by rw [← ho9]), ⟨by rw [ht]; exact hP9, va_K.moved hW.alike hK, hD9⟩⟩, hS.F ht⟩) hS.2.2 dX1_leads_25
  have J20 : ∀ (H : Heap) (locs : List Loc) (ls : Array Slot), (fX1_leads_J20) = some o → va_P (dC, dI) cls (List.flatten ([(oX1 (p0a 0) p0a p0k p0n p0w p0l)] : List va_W)) H → va_D A (List.flatten ([(oX1 (p0a 0) p0a p0k p0n p0w p0l)] : List va_W)) → va_K (dC, dI) cls (List.flatten ([(tX1 p0k)] : List (List (ClassId × FieldType)))) s → va_S A s.heap H locs → lv_has ls 3 [] → W p l e ({ frames := 0, cells := 0, slots := 0, locals := 0 } : Room) s m ([.ref (p0a 0), .int p1, .int p2] : List Value).toArray below meth c H locs 0 0 Q (F0 m 20 ls []) := by
    intro  H locs ls hrun hP hD hK hS hl 
    unfold fX1_leads_J20 at hrun
    refine lv_iconst (v := 1) hx hb dX1_leads_20 (by decide) ?_
    refine lv_goto (tgt := 25) hx hb dX1_leads_21 (by decide) ?_
    exact J25 1 _ _ _ hrun hP hD hK hS (lv_sub hl [] rfl)
  rcases br9 hrun with ⟨hc2, hrun⟩ | ⟨hc2, hrun⟩
  · refine lv_icmp_eq (tgt := 20) hx hb dX1_leads_7 (by decide) (fun _ => ?_) (fun c => absurd hc2 c)
    exact J20 _ _ _ hrun hP hD hK hS (lv_sub hl [] rfl)
  · refine lv_icmp_eq (tgt := 20) hx hb dX1_leads_7 (by decide) (fun c => absurd c hc2) (fun _ => ?_)
    refine lv_aload_n hx hb dX1_leads_10 rfl (lv_at hl 0 rfl) ?_
    refine va_get (D := (dC, dI)) (ci := 4) (v := .ref (p0a 11)) (C := RX1) (T := TX1) (N := 21) hx hb hts i_X1 hown hK hP 0 rfl rfl 10 (by decide) (hts _ qw118) (fun _ h9 => h9) rfl dX1_leads_11 ?_
    refine lv_iload_n hx hb dX1_leads_14 rfl (lv_at hl 1 rfl) ?_
    obtain ⟨hq3, hrun⟩ := chk9 hrun
    refine va_iald hx hb hK hP 8 7 rfl rfl (ixb_in hq3) dX1_leads_15 ?_
    refine lv_iload_n hx hb dX1_leads_16 rfl (lv_at hl 2 rfl) ?_
    rcases br9 hrun with ⟨hc4, hrun⟩ | ⟨hc4, hrun⟩
    · refine lv_icmp_ne (tgt := 24) hx hb dX1_leads_17 (by decide) (fun c => absurd hc4 c) (fun _ => ?_)
      exact J20 _ _ _ hrun hP hD hK hS (lv_sub hl [] rfl)
    · refine lv_icmp_ne (tgt := 24) hx hb dX1_leads_17 (by decide) (fun _ => ?_) (fun c => absurd c hc4)
      refine lv_iconst (v := 0) hx hb dX1_leads_24 (by decide) ?_
      exact J25 0 _ _ _ hrun hP hD hK hS (lv_sub hl [] rfl)
