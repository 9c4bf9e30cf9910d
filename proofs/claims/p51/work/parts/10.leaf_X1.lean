abbrev cX1_waysTo : ByteArray := prog_3_method_5_code
def yX1_waysTo : MethodName := ⟨RX1, "waysTo", "(I)I"⟩
abbrev cX1_addBlock : ByteArray := prog_3_method_3_code
def yX1_addBlock : MethodName := ⟨RX1, "addBlock", "(IIII)I"⟩
abbrev cX1_linkPhi : ByteArray := prog_3_method_14_code
def yX1_linkPhi : MethodName := ⟨RX1, "linkPhi", "(II)V"⟩
abbrev cX1_clear : ByteArray := prog_3_method_2_code
def yX1_clear : MethodName := ⟨RX1, "clear", "()V"⟩
abbrev cX1_leads : ByteArray := prog_3_method_7_code
def yX1_leads : MethodName := ⟨RX1, "leads", "(II)Z"⟩
abbrev cX1_takePhis : ByteArray := prog_3_method_15_code
def yX1_takePhis : MethodName := ⟨RX1, "takePhis", "(I)I"⟩
abbrev cX1_takeSteps : ByteArray := prog_3_method_10_code
def yX1_takeSteps : MethodName := ⟨RX1, "takeSteps", "(I)I"⟩
abbrev cX1_link : ByteArray := prog_3_method_9_code
def yX1_link : MethodName := ⟨RX1, "link", "(II)V"⟩
abbrev cX1_setTake : ByteArray := prog_3_method_19_code
def yX1_setTake : MethodName := ⟨RX1, "setTake", "(III)V"⟩
abbrev cX1_take : ByteArray := prog_3_method_18_code
def yX1_take : MethodName := ⟨RX1, "take", "(II)I"⟩
abbrev cX1_wayFrom : ByteArray := prog_3_method_6_code
def yX1_wayFrom : MethodName := ⟨RX1, "wayFrom", "(II)I"⟩
theorem dX1_addBlock_0 : decode cX1_addBlock 0 = .ok (.aload_n 0, 1) := by decide +kernel
theorem dX1_addBlock_1 : decode cX1_addBlock 1 = .ok (.getfield 73, 3) := by decide +kernel
theorem dX1_addBlock_4 : decode cX1_addBlock 4 = .ok (.istore 5, 2) := by decide +kernel
theorem dX1_addBlock_6 : decode cX1_addBlock 6 = .ok (.aload_n 0, 1) := by decide +kernel
theorem dX1_addBlock_7 : decode cX1_addBlock 7 = .ok (.getfield 20, 3) := by decide +kernel
theorem dX1_addBlock_10 : decode cX1_addBlock 10 = .ok (.iload 5, 2) := by decide +kernel
theorem dX1_addBlock_12 : decode cX1_addBlock 12 = .ok (.iconst (-1), 1) := by decide +kernel
theorem dX1_addBlock_13 : decode cX1_addBlock 13 = .ok (.iastore, 1) := by decide +kernel
theorem dX1_addBlock_14 : decode cX1_addBlock 14 = .ok (.aload_n 0, 1) := by decide +kernel
theorem dX1_addBlock_15 : decode cX1_addBlock 15 = .ok (.getfield 24, 3) := by decide +kernel
theorem dX1_addBlock_18 : decode cX1_addBlock 18 = .ok (.iload 5, 2) := by decide +kernel
theorem dX1_addBlock_20 : decode cX1_addBlock 20 = .ok (.iconst (-1), 1) := by decide +kernel
theorem dX1_addBlock_21 : decode cX1_addBlock 21 = .ok (.iastore, 1) := by decide +kernel
theorem dX1_addBlock_22 : decode cX1_addBlock 22 = .ok (.aload_n 0, 1) := by decide +kernel
theorem dX1_addBlock_23 : decode cX1_addBlock 23 = .ok (.getfield 27, 3) := by decide +kernel
theorem dX1_addBlock_26 : decode cX1_addBlock 26 = .ok (.iload 5, 2) := by decide +kernel
theorem dX1_addBlock_28 : decode cX1_addBlock 28 = .ok (.iconst (-1), 1) := by decide +kernel
theorem dX1_addBlock_29 : decode cX1_addBlock 29 = .ok (.iastore, 1) := by decide +kernel
theorem dX1_addBlock_30 : decode cX1_addBlock 30 = .ok (.aload_n 0, 1) := by decide +kernel
theorem dX1_addBlock_31 : decode cX1_addBlock 31 = .ok (.getfield 30, 3) := by decide +kernel
theorem dX1_addBlock_34 : decode cX1_addBlock 34 = .ok (.iload 5, 2) := by decide +kernel
theorem dX1_addBlock_36 : decode cX1_addBlock 36 = .ok (.iconst (-1), 1) := by decide +kernel
theorem dX1_addBlock_37 : decode cX1_addBlock 37 = .ok (.iastore, 1) := by decide +kernel
theorem dX1_addBlock_38 : decode cX1_addBlock 38 = .ok (.aload_n 0, 1) := by decide +kernel
theorem dX1_addBlock_39 : decode cX1_addBlock 39 = .ok (.getfield 33, 3) := by decide +kernel
theorem dX1_addBlock_42 : decode cX1_addBlock 42 = .ok (.iload 5, 2) := by decide +kernel
theorem dX1_addBlock_44 : decode cX1_addBlock 44 = .ok (.iload_n 1, 1) := by decide +kernel
theorem dX1_addBlock_45 : decode cX1_addBlock 45 = .ok (.iastore, 1) := by decide +kernel
theorem dX1_addBlock_46 : decode cX1_addBlock 46 = .ok (.aload_n 0, 1) := by decide +kernel
theorem dX1_addBlock_47 : decode cX1_addBlock 47 = .ok (.getfield 36, 3) := by decide +kernel
theorem dX1_addBlock_50 : decode cX1_addBlock 50 = .ok (.iload 5, 2) := by decide +kernel
theorem dX1_addBlock_52 : decode cX1_addBlock 52 = .ok (.iload_n 2, 1) := by decide +kernel
theorem dX1_addBlock_53 : decode cX1_addBlock 53 = .ok (.iastore, 1) := by decide +kernel
theorem dX1_addBlock_54 : decode cX1_addBlock 54 = .ok (.aload_n 0, 1) := by decide +kernel
theorem dX1_addBlock_55 : decode cX1_addBlock 55 = .ok (.getfield 39, 3) := by decide +kernel
theorem dX1_addBlock_58 : decode cX1_addBlock 58 = .ok (.iload 5, 2) := by decide +kernel
theorem dX1_addBlock_60 : decode cX1_addBlock 60 = .ok (.iload_n 3, 1) := by decide +kernel
theorem dX1_addBlock_61 : decode cX1_addBlock 61 = .ok (.iastore, 1) := by decide +kernel
theorem dX1_addBlock_62 : decode cX1_addBlock 62 = .ok (.aload_n 0, 1) := by decide +kernel
theorem dX1_addBlock_63 : decode cX1_addBlock 63 = .ok (.getfield 42, 3) := by decide +kernel
theorem dX1_addBlock_66 : decode cX1_addBlock 66 = .ok (.iload 5, 2) := by decide +kernel
theorem dX1_addBlock_68 : decode cX1_addBlock 68 = .ok (.iload 4, 2) := by decide +kernel
theorem dX1_addBlock_70 : decode cX1_addBlock 70 = .ok (.iastore, 1) := by decide +kernel
theorem dX1_addBlock_71 : decode cX1_addBlock 71 = .ok (.aload_n 0, 1) := by decide +kernel
theorem dX1_addBlock_72 : decode cX1_addBlock 72 = .ok (.dup, 1) := by decide +kernel
theorem dX1_addBlock_73 : decode cX1_addBlock 73 = .ok (.getfield 73, 3) := by decide +kernel
theorem dX1_addBlock_76 : decode cX1_addBlock 76 = .ok (.iconst 1, 1) := by decide +kernel
theorem dX1_addBlock_77 : decode cX1_addBlock 77 = .ok (.iadd, 1) := by decide +kernel
theorem dX1_addBlock_78 : decode cX1_addBlock 78 = .ok (.putfield 73, 3) := by decide +kernel
theorem dX1_addBlock_81 : decode cX1_addBlock 81 = .ok (.iload 5, 2) := by decide +kernel
theorem dX1_addBlock_83 : decode cX1_addBlock 83 = .ok (.ireturn, 1) := by decide +kernel
theorem dX1_clear_0 : decode cX1_clear 0 = .ok (.aload_n 0, 1) := by decide +kernel
theorem dX1_clear_1 : decode cX1_clear 1 = .ok (.iconst 0, 1) := by decide +kernel
theorem dX1_clear_2 : decode cX1_clear 2 = .ok (.putfield 73, 3) := by decide +kernel
theorem dX1_clear_5 : decode cX1_clear 5 = .ok (.aload_n 0, 1) := by decide +kernel
theorem dX1_clear_6 : decode cX1_clear 6 = .ok (.iconst 0, 1) := by decide +kernel
theorem dX1_clear_7 : decode cX1_clear 7 = .ok (.putfield 77, 3) := by decide +kernel
theorem dX1_clear_10 : decode cX1_clear 10 = .ok (.aload_n 0, 1) := by decide +kernel
theorem dX1_clear_11 : decode cX1_clear 11 = .ok (.getfield 16, 3) := by decide +kernel
theorem dX1_clear_14 : decode cX1_clear 14 = .ok (.iconst 0, 1) := by decide +kernel
theorem dX1_clear_15 : decode cX1_clear 15 = .ok (.putfield 80, 3) := by decide +kernel
theorem dX1_clear_18 : decode cX1_clear 18 = .ok (.aload_n 0, 1) := by decide +kernel
theorem dX1_clear_19 : decode cX1_clear 19 = .ok (.iconst 0, 1) := by decide +kernel
theorem dX1_clear_20 : decode cX1_clear 20 = .ok (.putfield 83, 3) := by decide +kernel
theorem dX1_clear_23 : decode cX1_clear 23 = .ok (.return_, 1) := by decide +kernel
theorem dX1_leads_0 : decode cX1_leads 0 = .ok (.aload_n 0, 1) := by decide +kernel
theorem dX1_leads_1 : decode cX1_leads 1 = .ok (.getfield 39, 3) := by decide +kernel
theorem dX1_leads_4 : decode cX1_leads 4 = .ok (.iload_n 1, 1) := by decide +kernel
theorem dX1_leads_5 : decode cX1_leads 5 = .ok (.iaload, 1) := by decide +kernel
theorem dX1_leads_6 : decode cX1_leads 6 = .ok (.iload_n 2, 1) := by decide +kernel
theorem dX1_leads_7 : decode cX1_leads 7 = .ok (.if_icmp .eq 13, 3) := by decide +kernel
theorem dX1_leads_10 : decode cX1_leads 10 = .ok (.aload_n 0, 1) := by decide +kernel
theorem dX1_leads_11 : decode cX1_leads 11 = .ok (.getfield 42, 3) := by decide +kernel
theorem dX1_leads_14 : decode cX1_leads 14 = .ok (.iload_n 1, 1) := by decide +kernel
theorem dX1_leads_15 : decode cX1_leads 15 = .ok (.iaload, 1) := by decide +kernel
theorem dX1_leads_16 : decode cX1_leads 16 = .ok (.iload_n 2, 1) := by decide +kernel
theorem dX1_leads_17 : decode cX1_leads 17 = .ok (.if_icmp .ne 7, 3) := by decide +kernel
theorem dX1_leads_20 : decode cX1_leads 20 = .ok (.iconst 1, 1) := by decide +kernel
theorem dX1_leads_21 : decode cX1_leads 21 = .ok (.goto 4, 3) := by decide +kernel
theorem dX1_leads_24 : decode cX1_leads 24 = .ok (.iconst 0, 1) := by decide +kernel
theorem dX1_leads_25 : decode cX1_leads 25 = .ok (.ireturn, 1) := by decide +kernel
theorem dX1_link_0 : decode cX1_link 0 = .ok (.aload_n 0, 1) := by decide +kernel
theorem dX1_link_1 : decode cX1_link 1 = .ok (.getfield 16, 3) := by decide +kernel
theorem dX1_link_4 : decode cX1_link 4 = .ok (.getfield 119, 3) := by decide +kernel
theorem dX1_link_7 : decode cX1_link 7 = .ok (.iload_n 2, 1) := by decide +kernel
theorem dX1_link_8 : decode cX1_link 8 = .ok (.iconst (-1), 1) := by decide +kernel
theorem dX1_link_9 : decode cX1_link 9 = .ok (.iastore, 1) := by decide +kernel
theorem dX1_link_10 : decode cX1_link 10 = .ok (.aload_n 0, 1) := by decide +kernel
theorem dX1_link_11 : decode cX1_link 11 = .ok (.getfield 20, 3) := by decide +kernel
theorem dX1_link_14 : decode cX1_link 14 = .ok (.iload_n 1, 1) := by decide +kernel
theorem dX1_link_15 : decode cX1_link 15 = .ok (.iaload, 1) := by decide +kernel
theorem dX1_link_16 : decode cX1_link 16 = .ok (.ifCond .ge 13, 3) := by decide +kernel
theorem dX1_link_19 : decode cX1_link 19 = .ok (.aload_n 0, 1) := by decide +kernel
theorem dX1_link_20 : decode cX1_link 20 = .ok (.getfield 20, 3) := by decide +kernel
theorem dX1_link_23 : decode cX1_link 23 = .ok (.iload_n 1, 1) := by decide +kernel
theorem dX1_link_24 : decode cX1_link 24 = .ok (.iload_n 2, 1) := by decide +kernel
theorem dX1_link_25 : decode cX1_link 25 = .ok (.iastore, 1) := by decide +kernel
theorem dX1_link_26 : decode cX1_link 26 = .ok (.goto 18, 3) := by decide +kernel
theorem dX1_link_29 : decode cX1_link 29 = .ok (.aload_n 0, 1) := by decide +kernel
theorem dX1_link_30 : decode cX1_link 30 = .ok (.getfield 16, 3) := by decide +kernel
theorem dX1_link_33 : decode cX1_link 33 = .ok (.getfield 119, 3) := by decide +kernel
theorem dX1_link_36 : decode cX1_link 36 = .ok (.aload_n 0, 1) := by decide +kernel
theorem dX1_link_37 : decode cX1_link 37 = .ok (.getfield 24, 3) := by decide +kernel
theorem dX1_link_40 : decode cX1_link 40 = .ok (.iload_n 1, 1) := by decide +kernel
theorem dX1_link_41 : decode cX1_link 41 = .ok (.iaload, 1) := by decide +kernel
theorem dX1_link_42 : decode cX1_link 42 = .ok (.iload_n 2, 1) := by decide +kernel
theorem dX1_link_43 : decode cX1_link 43 = .ok (.iastore, 1) := by decide +kernel
theorem dX1_link_44 : decode cX1_link 44 = .ok (.aload_n 0, 1) := by decide +kernel
theorem dX1_link_45 : decode cX1_link 45 = .ok (.getfield 24, 3) := by decide +kernel
theorem dX1_link_48 : decode cX1_link 48 = .ok (.iload_n 1, 1) := by decide +kernel
theorem dX1_link_49 : decode cX1_link 49 = .ok (.iload_n 2, 1) := by decide +kernel
theorem dX1_link_50 : decode cX1_link 50 = .ok (.iastore, 1) := by decide +kernel
theorem dX1_link_51 : decode cX1_link 51 = .ok (.return_, 1) := by decide +kernel
theorem dX1_linkPhi_0 : decode cX1_linkPhi 0 = .ok (.aload_n 0, 1) := by decide +kernel
theorem dX1_linkPhi_1 : decode cX1_linkPhi 1 = .ok (.getfield 67, 3) := by decide +kernel
theorem dX1_linkPhi_4 : decode cX1_linkPhi 4 = .ok (.iload_n 2, 1) := by decide +kernel
theorem dX1_linkPhi_5 : decode cX1_linkPhi 5 = .ok (.iconst (-1), 1) := by decide +kernel
theorem dX1_linkPhi_6 : decode cX1_linkPhi 6 = .ok (.iastore, 1) := by decide +kernel
theorem dX1_linkPhi_7 : decode cX1_linkPhi 7 = .ok (.aload_n 0, 1) := by decide +kernel
theorem dX1_linkPhi_8 : decode cX1_linkPhi 8 = .ok (.getfield 27, 3) := by decide +kernel
theorem dX1_linkPhi_11 : decode cX1_linkPhi 11 = .ok (.iload_n 1, 1) := by decide +kernel
theorem dX1_linkPhi_12 : decode cX1_linkPhi 12 = .ok (.iaload, 1) := by decide +kernel
theorem dX1_linkPhi_13 : decode cX1_linkPhi 13 = .ok (.ifCond .ge 13, 3) := by decide +kernel
theorem dX1_linkPhi_16 : decode cX1_linkPhi 16 = .ok (.aload_n 0, 1) := by decide +kernel
theorem dX1_linkPhi_17 : decode cX1_linkPhi 17 = .ok (.getfield 27, 3) := by decide +kernel
theorem dX1_linkPhi_20 : decode cX1_linkPhi 20 = .ok (.iload_n 1, 1) := by decide +kernel
theorem dX1_linkPhi_21 : decode cX1_linkPhi 21 = .ok (.iload_n 2, 1) := by decide +kernel
theorem dX1_linkPhi_22 : decode cX1_linkPhi 22 = .ok (.iastore, 1) := by decide +kernel
theorem dX1_linkPhi_23 : decode cX1_linkPhi 23 = .ok (.goto 15, 3) := by decide +kernel
theorem dX1_linkPhi_26 : decode cX1_linkPhi 26 = .ok (.aload_n 0, 1) := by decide +kernel
theorem dX1_linkPhi_27 : decode cX1_linkPhi 27 = .ok (.getfield 67, 3) := by decide +kernel
theorem dX1_linkPhi_30 : decode cX1_linkPhi 30 = .ok (.aload_n 0, 1) := by decide +kernel
theorem dX1_linkPhi_31 : decode cX1_linkPhi 31 = .ok (.getfield 30, 3) := by decide +kernel
theorem dX1_linkPhi_34 : decode cX1_linkPhi 34 = .ok (.iload_n 1, 1) := by decide +kernel
theorem dX1_linkPhi_35 : decode cX1_linkPhi 35 = .ok (.iaload, 1) := by decide +kernel
theorem dX1_linkPhi_36 : decode cX1_linkPhi 36 = .ok (.iload_n 2, 1) := by decide +kernel
theorem dX1_linkPhi_37 : decode cX1_linkPhi 37 = .ok (.iastore, 1) := by decide +kernel
theorem dX1_linkPhi_38 : decode cX1_linkPhi 38 = .ok (.aload_n 0, 1) := by decide +kernel
theorem dX1_linkPhi_39 : decode cX1_linkPhi 39 = .ok (.getfield 30, 3) := by decide +kernel
theorem dX1_linkPhi_42 : decode cX1_linkPhi 42 = .ok (.iload_n 1, 1) := by decide +kernel
theorem dX1_linkPhi_43 : decode cX1_linkPhi 43 = .ok (.iload_n 2, 1) := by decide +kernel
theorem dX1_linkPhi_44 : decode cX1_linkPhi 44 = .ok (.iastore, 1) := by decide +kernel
theorem dX1_linkPhi_45 : decode cX1_linkPhi 45 = .ok (.return_, 1) := by decide +kernel
theorem dX1_setTake_0 : decode cX1_setTake 0 = .ok (.aload_n 0, 1) := by decide +kernel
theorem dX1_setTake_1 : decode cX1_setTake 1 = .ok (.getfield 70, 3) := by decide +kernel
theorem dX1_setTake_4 : decode cX1_setTake 4 = .ok (.iload_n 1, 1) := by decide +kernel
theorem dX1_setTake_5 : decode cX1_setTake 5 = .ok (.bipush 60, 2) := by decide +kernel
theorem dX1_setTake_7 : decode cX1_setTake 7 = .ok (.imul, 1) := by decide +kernel
theorem dX1_setTake_8 : decode cX1_setTake 8 = .ok (.iload_n 2, 1) := by decide +kernel
theorem dX1_setTake_9 : decode cX1_setTake 9 = .ok (.iadd, 1) := by decide +kernel
theorem dX1_setTake_10 : decode cX1_setTake 10 = .ok (.iload_n 3, 1) := by decide +kernel
theorem dX1_setTake_11 : decode cX1_setTake 11 = .ok (.iastore, 1) := by decide +kernel
theorem dX1_setTake_12 : decode cX1_setTake 12 = .ok (.return_, 1) := by decide +kernel
theorem dX1_take_0 : decode cX1_take 0 = .ok (.aload_n 0, 1) := by decide +kernel
theorem dX1_take_1 : decode cX1_take 1 = .ok (.getfield 70, 3) := by decide +kernel
theorem dX1_take_4 : decode cX1_take 4 = .ok (.iload_n 1, 1) := by decide +kernel
theorem dX1_take_5 : decode cX1_take 5 = .ok (.bipush 60, 2) := by decide +kernel
theorem dX1_take_7 : decode cX1_take 7 = .ok (.imul, 1) := by decide +kernel
theorem dX1_take_8 : decode cX1_take 8 = .ok (.iload_n 2, 1) := by decide +kernel
theorem dX1_take_9 : decode cX1_take 9 = .ok (.iadd, 1) := by decide +kernel
theorem dX1_take_10 : decode cX1_take 10 = .ok (.iaload, 1) := by decide +kernel
theorem dX1_take_11 : decode cX1_take 11 = .ok (.ireturn, 1) := by decide +kernel
theorem dX1_takePhis_0 : decode cX1_takePhis 0 = .ok (.aload_n 0, 1) := by decide +kernel
theorem dX1_takePhis_1 : decode cX1_takePhis 1 = .ok (.getfield 27, 3) := by decide +kernel
theorem dX1_takePhis_4 : decode cX1_takePhis 4 = .ok (.iload_n 1, 1) := by decide +kernel
theorem dX1_takePhis_5 : decode cX1_takePhis 5 = .ok (.iaload, 1) := by decide +kernel
theorem dX1_takePhis_6 : decode cX1_takePhis 6 = .ok (.istore_n 2, 1) := by decide +kernel
theorem dX1_takePhis_7 : decode cX1_takePhis 7 = .ok (.aload_n 0, 1) := by decide +kernel
theorem dX1_takePhis_8 : decode cX1_takePhis 8 = .ok (.getfield 27, 3) := by decide +kernel
theorem dX1_takePhis_11 : decode cX1_takePhis 11 = .ok (.iload_n 1, 1) := by decide +kernel
theorem dX1_takePhis_12 : decode cX1_takePhis 12 = .ok (.iconst (-1), 1) := by decide +kernel
theorem dX1_takePhis_13 : decode cX1_takePhis 13 = .ok (.iastore, 1) := by decide +kernel
theorem dX1_takePhis_14 : decode cX1_takePhis 14 = .ok (.aload_n 0, 1) := by decide +kernel
theorem dX1_takePhis_15 : decode cX1_takePhis 15 = .ok (.getfield 30, 3) := by decide +kernel
theorem dX1_takePhis_18 : decode cX1_takePhis 18 = .ok (.iload_n 1, 1) := by decide +kernel
theorem dX1_takePhis_19 : decode cX1_takePhis 19 = .ok (.iconst (-1), 1) := by decide +kernel
theorem dX1_takePhis_20 : decode cX1_takePhis 20 = .ok (.iastore, 1) := by decide +kernel
theorem dX1_takePhis_21 : decode cX1_takePhis 21 = .ok (.iload_n 2, 1) := by decide +kernel
theorem dX1_takePhis_22 : decode cX1_takePhis 22 = .ok (.ireturn, 1) := by decide +kernel
theorem dX1_takeSteps_0 : decode cX1_takeSteps 0 = .ok (.aload_n 0, 1) := by decide +kernel
theorem dX1_takeSteps_1 : decode cX1_takeSteps 1 = .ok (.getfield 20, 3) := by decide +kernel
theorem dX1_takeSteps_4 : decode cX1_takeSteps 4 = .ok (.iload_n 1, 1) := by decide +kernel
theorem dX1_takeSteps_5 : decode cX1_takeSteps 5 = .ok (.iaload, 1) := by decide +kernel
theorem dX1_takeSteps_6 : decode cX1_takeSteps 6 = .ok (.istore_n 2, 1) := by decide +kernel
theorem dX1_takeSteps_7 : decode cX1_takeSteps 7 = .ok (.aload_n 0, 1) := by decide +kernel
theorem dX1_takeSteps_8 : decode cX1_takeSteps 8 = .ok (.getfield 20, 3) := by decide +kernel
theorem dX1_takeSteps_11 : decode cX1_takeSteps 11 = .ok (.iload_n 1, 1) := by decide +kernel
theorem dX1_takeSteps_12 : decode cX1_takeSteps 12 = .ok (.iconst (-1), 1) := by decide +kernel
theorem dX1_takeSteps_13 : decode cX1_takeSteps 13 = .ok (.iastore, 1) := by decide +kernel
theorem dX1_takeSteps_14 : decode cX1_takeSteps 14 = .ok (.aload_n 0, 1) := by decide +kernel
theorem dX1_takeSteps_15 : decode cX1_takeSteps 15 = .ok (.getfield 24, 3) := by decide +kernel
theorem dX1_takeSteps_18 : decode cX1_takeSteps 18 = .ok (.iload_n 1, 1) := by decide +kernel
theorem dX1_takeSteps_19 : decode cX1_takeSteps 19 = .ok (.iconst (-1), 1) := by decide +kernel
theorem dX1_takeSteps_20 : decode cX1_takeSteps 20 = .ok (.iastore, 1) := by decide +kernel
theorem dX1_takeSteps_21 : decode cX1_takeSteps 21 = .ok (.iload_n 2, 1) := by decide +kernel
theorem dX1_takeSteps_22 : decode cX1_takeSteps 22 = .ok (.ireturn, 1) := by decide +kernel
theorem dX1_wayFrom_0 : decode cX1_wayFrom 0 = .ok (.aload_n 0, 1) := by decide +kernel
theorem dX1_wayFrom_1 : decode cX1_wayFrom 1 = .ok (.getfield 54, 3) := by decide +kernel
theorem dX1_wayFrom_4 : decode cX1_wayFrom 4 = .ok (.aload_n 0, 1) := by decide +kernel
theorem dX1_wayFrom_5 : decode cX1_wayFrom 5 = .ok (.getfield 51, 3) := by decide +kernel
theorem dX1_wayFrom_8 : decode cX1_wayFrom 8 = .ok (.iload_n 1, 1) := by decide +kernel
theorem dX1_wayFrom_9 : decode cX1_wayFrom 9 = .ok (.iaload, 1) := by decide +kernel
theorem dX1_wayFrom_10 : decode cX1_wayFrom 10 = .ok (.iload_n 2, 1) := by decide +kernel
theorem dX1_wayFrom_11 : decode cX1_wayFrom 11 = .ok (.iadd, 1) := by decide +kernel
theorem dX1_wayFrom_12 : decode cX1_wayFrom 12 = .ok (.iaload, 1) := by decide +kernel
theorem dX1_wayFrom_13 : decode cX1_wayFrom 13 = .ok (.ireturn, 1) := by decide +kernel
theorem dX1_waysTo_0 : decode cX1_waysTo 0 = .ok (.aload_n 0, 1) := by decide +kernel
theorem dX1_waysTo_1 : decode cX1_waysTo 1 = .ok (.getfield 51, 3) := by decide +kernel
theorem dX1_waysTo_4 : decode cX1_waysTo 4 = .ok (.iload_n 1, 1) := by decide +kernel
theorem dX1_waysTo_5 : decode cX1_waysTo 5 = .ok (.iconst 1, 1) := by decide +kernel
theorem dX1_waysTo_6 : decode cX1_waysTo 6 = .ok (.iadd, 1) := by decide +kernel
theorem dX1_waysTo_7 : decode cX1_waysTo 7 = .ok (.iaload, 1) := by decide +kernel
theorem dX1_waysTo_8 : decode cX1_waysTo 8 = .ok (.aload_n 0, 1) := by decide +kernel
theorem dX1_waysTo_9 : decode cX1_waysTo 9 = .ok (.getfield 51, 3) := by decide +kernel
theorem dX1_waysTo_12 : decode cX1_waysTo 12 = .ok (.iload_n 1, 1) := by decide +kernel
theorem dX1_waysTo_13 : decode cX1_waysTo 13 = .ok (.iaload, 1) := by decide +kernel
theorem dX1_waysTo_14 : decode cX1_waysTo 14 = .ok (.isub, 1) := by decide +kernel
theorem dX1_waysTo_15 : decode cX1_waysTo 15 = .ok (.ireturn, 1) := by decide +kernel
theorem qw217 : Cond.fieldLink RX1 73 "Gearbox$Flow" "blocks" "I" ∈ gw := mq_1 (i := 210) rfl rfl
theorem qw218 : Cond.fieldLink RX1 83 "Gearbox$Flow" "phiCount" "I" ∈ gw := mq_2 (i := 55) rfl rfl
theorem qw223 : Cond.fieldLink RX1 77 "Gearbox$Flow" "limit" "I" ∈ gw := mq_1 (i := 216) rfl rfl
theorem qw224 : Cond.fieldLink RX1 80 "Gearbox$Steps" "count" "I" ∈ gw := mq_1 (i := 158) rfl rfl
theorem qw229 : Cond.fieldLink RX1 119 "Gearbox$Steps" "next" "[I" ∈ gw := mq_1 (i := 192) rfl rfl
set_option maxHeartbeats 4000000 in
set_option maxRecDepth 100000 in
theorem kX1_addBlock {zs : Nat × Nat} (l : Launch) (dC : Nat → ClassId) (dI : Nat → Nat → Nat) (h0 : Nat) (blocks : Int32) (limit : Int32) (firstStepA : Nat) (firstStepC : ClassId) (firstStepF : Nat → Int32) (lastStepA : Nat) (lastStepC : ClassId) (lastStepF : Nat → Int32) (firstPhiA : Nat) (firstPhiC : ClassId) (firstPhiF : Nat → Int32) (lastPhiA : Nat) (lastPhiC : ClassId) (lastPhiF : Nat → Int32) (endA : Nat) (endC : ClassId) (endF : Nat → Int32) (endValueA : Nat) (endValueC : ClassId) (endValueF : Nat → Int32) (firstA : Nat) (firstC : ClassId) (firstF : Nat → Int32) (secondA : Nat) (secondC : ClassId) (secondF : Nat → Int32) (dominatorA : Nat) (depthA : Nat) (waysBeginA : Nat) (waysA : Nat) (dominatorsA : Nat) (loopA : Nat) (phiCount : Int32) (phiGivesA : Nat) (phiNextA : Nat) (takesA : Nat) (stepsO : Nat) (p0 : Int32) (p1 : Int32) (p2 : Int32) (p3 : Int32) (sz : Nat) (hq1 : vp_in blocks 60) : Met l yX1_addBlock (wz yX1_addBlock cX1_addBlock 6 (Option.some Jvm.ClassFile.FieldType.int)) ({ frames := 0, cells := 0, slots := 0, locals := 0 }) (va_Pc [.ref h0, .int p0, .int p1, .int p2, .int p3] (PRE zs dC dI [(h0, .inr (4, [.int blocks, .int limit, .ref stepsO, .ref firstStepA, .ref lastStepA, .ref firstPhiA, .ref lastPhiA, .ref endA, .ref endValueA, .ref firstA, .ref secondA, .ref dominatorA, .ref depthA, .ref waysBeginA, .ref waysA, .ref dominatorsA, .ref loopA, .int phiCount, .ref phiGivesA, .ref phiNextA, .ref takesA])), (firstStepA, .inl (firstStepC, 60, .inl firstStepF)), (lastStepA, .inl (lastStepC, 60, .inl lastStepF)), (firstPhiA, .inl (firstPhiC, 60, .inl firstPhiF)), (lastPhiA, .inl (lastPhiC, 60, .inl lastPhiF)), (endA, .inl (endC, 60, .inl endF)), (endValueA, .inl (endValueC, 60, .inl endValueF)), (firstA, .inl (firstC, 60, .inl firstF)), (secondA, .inl (secondC, 60, .inl secondF))] [(firstStepC, .int), (lastStepC, .int), (firstPhiC, .int), (lastPhiC, .int), (endC, .int), (endValueC, .int), (firstC, .int), (secondC, .int)] sz)) (va_Qi (fun (r : Int32) (_ : Unit) => r = blocks) (fun _ t => POST dC dI [(h0, .inr (4, [.int (blocks + 1), .int limit, .ref stepsO, .ref firstStepA, .ref lastStepA, .ref firstPhiA, .ref lastPhiA, .ref endA, .ref endValueA, .ref firstA, .ref secondA, .ref dominatorA, .ref depthA, .ref waysBeginA, .ref waysA, .ref dominatorsA, .ref loopA, .int phiCount, .ref phiGivesA, .ref phiNextA, .ref takesA])), (firstStepA, .inl (firstStepC, 60, .inl (upd firstStepF (Int32.toNatClampNeg blocks) (-1)))), (lastStepA, .inl (lastStepC, 60, .inl (upd lastStepF (Int32.toNatClampNeg blocks) (-1)))), (firstPhiA, .inl (firstPhiC, 60, .inl (upd firstPhiF (Int32.toNatClampNeg blocks) (-1)))), (lastPhiA, .inl (lastPhiC, 60, .inl (upd lastPhiF (Int32.toNatClampNeg blocks) (-1)))), (endA, .inl (endC, 60, .inl (upd endF (Int32.toNatClampNeg blocks) p0))), (endValueA, .inl (endValueC, 60, .inl (upd endValueF (Int32.toNatClampNeg blocks) p1))), (firstA, .inl (firstC, 60, .inl (upd firstF (Int32.toNatClampNeg blocks) p2))), (secondA, .inl (secondC, 60, .inl (upd secondF (Int32.toNatClampNeg blocks) p3)))] [(firstStepC, .int), (lastStepC, .int), (firstPhiC, .int), (lastPhiC, .int), (endC, .int), (endValueC, .int), (firstC, .int), (secondC, .int)] (va_A [(h0, .inr (4, [.int blocks, .int limit, .ref stepsO, .ref firstStepA, .ref lastStepA, .ref firstPhiA, .ref lastPhiA, .ref endA, .ref endValueA, .ref firstA, .ref secondA, .ref dominatorA, .ref depthA, .ref waysBeginA, .ref waysA, .ref dominatorsA, .ref loopA, .int phiCount, .ref phiGivesA, .ref phiNextA, .ref takesA])), (firstStepA, .inl (firstStepC, 60, .inl firstStepF)), (lastStepA, .inl (lastStepC, 60, .inl lastStepF)), (firstPhiA, .inl (firstPhiC, 60, .inl firstPhiF)), (lastPhiA, .inl (lastPhiC, 60, .inl lastPhiF)), (endA, .inl (endC, 60, .inl endF)), (endValueA, .inl (endValueC, 60, .inl endValueF)), (firstA, .inl (firstC, 60, .inl firstF)), (secondA, .inl (secondC, 60, .inl secondF))] sz) t) (va_A [(h0, .inr (4, [.int blocks, .int limit, .ref stepsO, .ref firstStepA, .ref lastStepA, .ref firstPhiA, .ref lastPhiA, .ref endA, .ref endValueA, .ref firstA, .ref secondA, .ref dominatorA, .ref depthA, .ref waysBeginA, .ref waysA, .ref dominatorsA, .ref loopA, .int phiCount, .ref phiGivesA, .ref phiNextA, .ref takesA])), (firstStepA, .inl (firstStepC, 60, .inl firstStepF)), (lastStepA, .inl (lastStepC, 60, .inl lastStepF)), (firstPhiA, .inl (firstPhiC, 60, .inl firstPhiF)), (lastPhiA, .inl (lastPhiC, 60, .inl lastPhiF)), (endA, .inl (endC, 60, .inl endF)), (endValueA, .inl (endValueC, 60, .inl endValueF)), (firstA, .inl (firstC, 60, .inl firstF)), (secondA, .inl (secondC, 60, .inl secondF))] sz)) 0 0 (va_A [(h0, .inr (4, [.int blocks, .int limit, .ref stepsO, .ref firstStepA, .ref lastStepA, .ref firstPhiA, .ref lastPhiA, .ref endA, .ref endValueA, .ref firstA, .ref secondA, .ref dominatorA, .ref depthA, .ref waysBeginA, .ref waysA, .ref dominatorsA, .ref loopA, .int phiCount, .ref phiGivesA, .ref phiNextA, .ref takesA])), (firstStepA, .inl (firstStepC, 60, .inl firstStepF)), (lastStepA, .inl (lastStepC, 60, .inl lastStepF)), (firstPhiA, .inl (firstPhiC, 60, .inl firstPhiF)), (lastPhiA, .inl (lastPhiC, 60, .inl lastPhiF)), (endA, .inl (endC, 60, .inl endF)), (endValueA, .inl (endValueC, 60, .inl endValueF)), (firstA, .inl (firstC, 60, .inl firstF)), (secondA, .inl (secondC, 60, .inl secondF))] sz) := by
  refine Met.ofW (cc := cX1_addBlock) (maxL := 6) (ret := (Option.some Jvm.ClassFile.FieldType.int)) (by decide) rfl ?_
  intro p e s m args below meth c s₁ B hml hv
  obtain ⟨rfl, hsz, hP, hK, hD0, hE⟩ := hv
  have hx := B.exec
  have hb := B.bytes
  have hr := B.returns
  have hts0 := atoms_spec (ws := wz yX1_addBlock cX1_addBlock 6 (Option.some Jvm.ClassFile.FieldType.int)) B.pre
  have hts : ∀ w ∈ gw, w.before _ s = true := fun w h => hts0 w (List.mem_cons_of_mem _ h)
  have hown : s.vm.findClass RX1 = some m.cls := findClass_of_methodNamed B.named
  have hlocks := B.notSynchronized
  subst hsz
  have hD := hD0.self (sz := s.heap.size)
  generalize hAe : va_A [(h0, .inr (4, [.int blocks, .int limit, .ref stepsO, .ref firstStepA, .ref lastStepA, .ref firstPhiA, .ref lastPhiA, .ref endA, .ref endValueA, .ref firstA, .ref secondA, .ref dominatorA, .ref depthA, .ref waysBeginA, .ref waysA, .ref dominatorsA, .ref loopA, .int phiCount, .ref phiGivesA, .ref phiNextA, .ref takesA])), (firstStepA, .inl (firstStepC, 60, .inl firstStepF)), (lastStepA, .inl (lastStepC, 60, .inl lastStepF)), (firstPhiA, .inl (firstPhiC, 60, .inl firstPhiF)), (lastPhiA, .inl (lastPhiC, 60, .inl lastPhiF)), (endA, .inl (endC, 60, .inl endF)), (endValueA, .inl (endValueC, 60, .inl endValueF)), (firstA, .inl (firstC, 60, .inl firstF)), (secondA, .inl (secondC, 60, .inl secondF))] s.heap.size = A at hD hE ⊢
  have hA : ∀ q : Nat, s.heap.size ≤ q → A q := fun q h => by rw [← hAe]; exact Or.inr h
  have hS : va_S A s.heap s.heap [] := va_S.rf
  have hP : va_P (dC, dI) cls [(h0, .inr (4, [.int blocks, .int limit, .ref stepsO, .ref firstStepA, .ref lastStepA, .ref firstPhiA, .ref lastPhiA, .ref endA, .ref endValueA, .ref firstA, .ref secondA, .ref dominatorA, .ref depthA, .ref waysBeginA, .ref waysA, .ref dominatorsA, .ref loopA, .int phiCount, .ref phiGivesA, .ref phiNextA, .ref takesA])), (firstStepA, .inl (firstStepC, 60, .inl firstStepF)), (lastStepA, .inl (lastStepC, 60, .inl lastStepF)), (firstPhiA, .inl (firstPhiC, 60, .inl firstPhiF)), (lastPhiA, .inl (lastPhiC, 60, .inl lastPhiF)), (endA, .inl (endC, 60, .inl endF)), (endValueA, .inl (endValueC, 60, .inl endValueF)), (firstA, .inl (firstC, 60, .inl firstF)), (secondA, .inl (secondC, 60, .inl secondF))] s.heap := hP
  have hl := lv_entry ([.ref h0, .int p0, .int p1, .int p2, .int p3]) (n := 6) (Nat.le_of_ble_eq_true rfl)
  rw [lg_entry_eq]
  generalize (lg_sl ([.ref h0, .int p0, .int p1, .int p2, .int p3]) ++ List.replicate (6 - (lg_sl ([.ref h0, .int p0, .int p1, .int p2, .int p3])).length) Slot.unset).toArray = ls at hl ⊢
  have hl : lv_has ls 6 [(0, .ref h0), (1, .int p0), (2, .int p1), (3, .int p2), (4, .int p3)] := hl
  refine lv_aload_n hx hb dX1_addBlock_0 rfl (lv_at hl 0 rfl) ?_
  refine va_get (D := (dC, dI)) (ci := 4) (v := .int blocks) (C := RX1) (T := TX1) (N := 21) hx hb hts i_X1 hown hK hP 0 rfl rfl 0 (by decide) (hts _ qw217) (fun _ h9 => h9) rfl dX1_addBlock_1 ?_
  refine lv_istore (lv' := [(5, .int blocks), (0, .ref h0), (1, .int p0), (2, .int p1), (3, .int p2), (4, .int p3)]) hx hb dX1_addBlock_4 hl (by decide) rfl (fun ls hl => ?_)
  refine lv_aload_n hx hb dX1_addBlock_6 rfl (lv_at hl 1 rfl) ?_
  refine va_get (D := (dC, dI)) (ci := 4) (v := .ref firstStepA) (C := RX1) (T := TX1) (N := 21) hx hb hts i_X1 hown hK hP 0 rfl rfl 3 (by decide) (hts _ qw40) (fun _ h9 => h9) rfl dX1_addBlock_7 ?_
  refine lv_iload hx hb dX1_addBlock_10 (lv_at hl 0 rfl) ?_
  refine lv_iconst (v := (-1)) hx hb dX1_addBlock_12 (by decide) ?_
  refine va_iast hx hb hK hP hD hS 1 0 rfl rfl (hq1) dX1_addBlock_13 (fun H locs hP hD hS => ?_)
  have hP : va_P (dC, dI) cls [(h0, .inr (4, [.int blocks, .int limit, .ref stepsO, .ref firstStepA, .ref lastStepA, .ref firstPhiA, .ref lastPhiA, .ref endA, .ref endValueA, .ref firstA, .ref secondA, .ref dominatorA, .ref depthA, .ref waysBeginA, .ref waysA, .ref dominatorsA, .ref loopA, .int phiCount, .ref phiGivesA, .ref phiNextA, .ref takesA])), (firstStepA, .inl (firstStepC, 60, .inl (upd firstStepF (Int32.toNatClampNeg blocks) (-1)))), (lastStepA, .inl (lastStepC, 60, .inl lastStepF)), (firstPhiA, .inl (firstPhiC, 60, .inl firstPhiF)), (lastPhiA, .inl (lastPhiC, 60, .inl lastPhiF)), (endA, .inl (endC, 60, .inl endF)), (endValueA, .inl (endValueC, 60, .inl endValueF)), (firstA, .inl (firstC, 60, .inl firstF)), (secondA, .inl (secondC, 60, .inl secondF))] H := hP
  have hD : va_D A [(h0, .inr (4, [.int blocks, .int limit, .ref stepsO, .ref firstStepA, .ref lastStepA, .ref firstPhiA, .ref lastPhiA, .ref endA, .ref endValueA, .ref firstA, .ref secondA, .ref dominatorA, .ref depthA, .ref waysBeginA, .ref waysA, .ref dominatorsA, .ref loopA, .int phiCount, .ref phiGivesA, .ref phiNextA, .ref takesA])), (firstStepA, .inl (firstStepC, 60, .inl (upd firstStepF (Int32.toNatClampNeg blocks) (-1)))), (lastStepA, .inl (lastStepC, 60, .inl lastStepF)), (firstPhiA, .inl (firstPhiC, 60, .inl firstPhiF)), (lastPhiA, .inl (lastPhiC, 60, .inl lastPhiF)), (endA, .inl (endC, 60, .inl endF)), (endValueA, .inl (endValueC, 60, .inl endValueF)), (firstA, .inl (firstC, 60, .inl firstF)), (secondA, .inl (secondC, 60, .inl secondF))] := hD
  refine lv_aload_n hx hb dX1_addBlock_14 rfl (lv_at hl 1 rfl) ?_
  refine va_get (D := (dC, dI)) (ci := 4) (v := .ref lastStepA) (C := RX1) (T := TX1) (N := 21) hx hb hts i_X1 hown hK hP 0 rfl rfl 4 (by decide) (hts _ qw41) (fun _ h9 => h9) rfl dX1_addBlock_15 ?_
  refine lv_iload hx hb dX1_addBlock_18 (lv_at hl 0 rfl) ?_
  refine lv_iconst (v := (-1)) hx hb dX1_addBlock_20 (by decide) ?_
  refine va_iast hx hb hK hP hD hS 2 1 rfl rfl (hq1) dX1_addBlock_21 (fun H locs hP hD hS => ?_)
  have hP : va_P (dC, dI) cls [(h0, .inr (4, [.int blocks, .int limit, .ref stepsO, .ref firstStepA, .ref lastStepA, .ref firstPhiA, .ref lastPhiA, .ref endA, .ref endValueA, .ref firstA, .ref secondA, .ref dominatorA, .ref depthA, .ref waysBeginA, .ref waysA, .ref dominatorsA, .ref loopA, .int phiCount, .ref phiGivesA, .ref phiNextA, .ref takesA])), (firstStepA, .inl (firstStepC, 60, .inl (upd firstStepF (Int32.toNatClampNeg blocks) (-1)))), (lastStepA, .inl (lastStepC, 60, .inl (upd lastStepF (Int32.toNatClampNeg blocks) (-1)))), (firstPhiA, .inl (firstPhiC, 60, .inl firstPhiF)), (lastPhiA, .inl (lastPhiC, 60, .inl lastPhiF)), (endA, .inl (endC, 60, .inl endF)), (endValueA, .inl (endValueC, 60, .inl endValueF)), (firstA, .inl (firstC, 60, .inl firstF)), (secondA, .inl (secondC, 60, .inl secondF))] H := hP
  have hD : va_D A [(h0, .inr (4, [.int blocks, .int limit, .ref stepsO, .ref firstStepA, .ref lastStepA, .ref firstPhiA, .ref lastPhiA, .ref endA, .ref endValueA, .ref firstA, .ref secondA, .ref dominatorA, .ref depthA, .ref waysBeginA, .ref waysA, .ref dominatorsA, .ref loopA, .int phiCount, .ref phiGivesA, .ref phiNextA, .ref takesA])), (firstStepA, .inl (firstStepC, 60, .inl (upd firstStepF (Int32.toNatClampNeg blocks) (-1)))), (lastStepA, .inl (lastStepC, 60, .inl (upd lastStepF (Int32.toNatClampNeg blocks) (-1)))), (firstPhiA, .inl (firstPhiC, 60, .inl firstPhiF)), (lastPhiA, .inl (lastPhiC, 60, .inl lastPhiF)), (endA, .inl (endC, 60, .inl endF)), (endValueA, .inl (endValueC, 60, .inl endValueF)), (firstA, .inl (firstC, 60, .inl firstF)), (secondA, .inl (secondC, 60, .inl secondF))] := hD
  refine lv_aload_n hx hb dX1_addBlock_22 rfl (lv_at hl 1 rfl) ?_
  refine va_get (D := (dC, dI)) (ci := 4) (v := .ref firstPhiA) (C := RX1) (T := TX1) (N := 21) hx hb hts i_X1 hown hK hP 0 rfl rfl 5 (by decide) (hts _ qw42) (fun _ h9 => h9) rfl dX1_addBlock_23 ?_
  refine lv_iload hx hb dX1_addBlock_26 (lv_at hl 0 rfl) ?_
  refine lv_iconst (v := (-1)) hx hb dX1_addBlock_28 (by decide) ?_
  refine va_iast hx hb hK hP hD hS 3 2 rfl rfl (hq1) dX1_addBlock_29 (fun H locs hP hD hS => ?_)
  have hP : va_P (dC, dI) cls [(h0, .inr (4, [.int blocks, .int limit, .ref stepsO, .ref firstStepA, .ref lastStepA, .ref firstPhiA, .ref lastPhiA, .ref endA, .ref endValueA, .ref firstA, .ref secondA, .ref dominatorA, .ref depthA, .ref waysBeginA, .ref waysA, .ref dominatorsA, .ref loopA, .int phiCount, .ref phiGivesA, .ref phiNextA, .ref takesA])), (firstStepA, .inl (firstStepC, 60, .inl (upd firstStepF (Int32.toNatClampNeg blocks) (-1)))), (lastStepA, .inl (lastStepC, 60, .inl (upd lastStepF (Int32.toNatClampNeg blocks) (-1)))), (firstPhiA, .inl (firstPhiC, 60, .inl (upd firstPhiF (Int32.toNatClampNeg blocks) (-1)))), (lastPhiA, .inl (lastPhiC, 60, .inl lastPhiF)), (endA, .inl (endC, 60, .inl endF)), (endValueA, .inl (endValueC, 60, .inl endValueF)), (firstA, .inl (firstC, 60, .inl firstF)), (secondA, .inl (secondC, 60, .inl secondF))] H := hP
  have hD : va_D A [(h0, .inr (4, [.int blocks, .int limit, .ref stepsO, .ref firstStepA, .ref lastStepA, .ref firstPhiA, .ref lastPhiA, .ref endA, .ref endValueA, .ref firstA, .ref secondA, .ref dominatorA, .ref depthA, .ref waysBeginA, .ref waysA, .ref dominatorsA, .ref loopA, .int phiCount, .ref phiGivesA, .ref phiNextA, .ref takesA])), (firstStepA, .inl (firstStepC, 60, .inl (upd firstStepF (Int32.toNatClampNeg blocks) (-1)))), (lastStepA, .inl (lastStepC, 60, .inl (upd lastStepF (Int32.toNatClampNeg blocks) (-1)))), (firstPhiA, .inl (firstPhiC, 60, .inl (upd firstPhiF (Int32.toNatClampNeg blocks) (-1)))), (lastPhiA, .inl (lastPhiC, 60, .inl lastPhiF)), (endA, .inl (endC, 60, .inl endF)), (endValueA, .inl (endValueC, 60, .inl endValueF)), (firstA, .inl (firstC, 60, .inl firstF)), (secondA, .inl (secondC, 60, .inl secondF))] := hD
  refine lv_aload_n hx hb dX1_addBlock_30 rfl (lv_at hl 1 rfl) ?_
  refine va_get (D := (dC, dI)) (ci := 4) (v := .ref lastPhiA) (C := RX1) (T := TX1) (N := 21) hx hb hts i_X1 hown hK hP 0 rfl rfl 6 (by decide) (hts _ qw43) (fun _ h9 => h9) rfl dX1_addBlock_31 ?_
  refine lv_iload hx hb dX1_addBlock_34 (lv_at hl 0 rfl) ?_
  refine lv_iconst (v := (-1)) hx hb dX1_addBlock_36 (by decide) ?_
  refine va_iast hx hb hK hP hD hS 4 3 rfl rfl (hq1) dX1_addBlock_37 (fun H locs hP hD hS => ?_)
  have hP : va_P (dC, dI) cls [(h0, .inr (4, [.int blocks, .int limit, .ref stepsO, .ref firstStepA, .ref lastStepA, .ref firstPhiA, .ref lastPhiA, .ref endA, .ref endValueA, .ref firstA, .ref secondA, .ref dominatorA, .ref depthA, .ref waysBeginA, .ref waysA, .ref dominatorsA, .ref loopA, .int phiCount, .ref phiGivesA, .ref phiNextA, .ref takesA])), (firstStepA, .inl (firstStepC, 60, .inl (upd firstStepF (Int32.toNatClampNeg blocks) (-1)))), (lastStepA, .inl (lastStepC, 60, .inl (upd lastStepF (Int32.toNatClampNeg blocks) (-1)))), (firstPhiA, .inl (firstPhiC, 60, .inl (upd firstPhiF (Int32.toNatClampNeg blocks) (-1)))), (lastPhiA, .inl (lastPhiC, 60, .inl (upd lastPhiF (Int32.toNatClampNeg blocks) (-1)))), (endA, .inl (endC, 60, .inl endF)), (endValueA, .inl (endValueC, 60, .inl endValueF)), (firstA, .inl (firstC, 60, .inl firstF)), (secondA, .inl (secondC, 60, .inl secondF))] H := hP
  have hD : va_D A [(h0, .inr (4, [.int blocks, .int limit, .ref stepsO, .ref firstStepA, .ref lastStepA, .ref firstPhiA, .ref lastPhiA, .ref endA, .ref endValueA, .ref firstA, .ref secondA, .ref dominatorA, .ref depthA, .ref waysBeginA, .ref waysA, .ref dominatorsA, .ref loopA, .int phiCount, .ref phiGivesA, .ref phiNextA, .ref takesA])), (firstStepA, .inl (firstStepC, 60, .inl (upd firstStepF (Int32.toNatClampNeg blocks) (-1)))), (lastStepA, .inl (lastStepC, 60, .inl (upd lastStepF (Int32.toNatClampNeg blocks) (-1)))), (firstPhiA, .inl (firstPhiC, 60, .inl (upd firstPhiF (Int32.toNatClampNeg blocks) (-1)))), (lastPhiA, .inl (lastPhiC, 60, .inl (upd lastPhiF (Int32.toNatClampNeg blocks) (-1)))), (endA, .inl (endC, 60, .inl endF)), (endValueA, .inl (endValueC, 60, .inl endValueF)), (firstA, .inl (firstC, 60, .inl firstF)), (secondA, .inl (secondC, 60, .inl secondF))] := hD
  refine lv_aload_n hx hb dX1_addBlock_38 rfl (lv_at hl 1 rfl) ?_
  refine va_get (D := (dC, dI)) (ci := 4) (v := .ref endA) (C := RX1) (T := TX1) (N := 21) hx hb hts i_X1 hown hK hP 0 rfl rfl 7 (by decide) (hts _ qw44) (fun _ h9 => h9) rfl dX1_addBlock_39 ?_
  refine lv_iload hx hb dX1_addBlock_42 (lv_at hl 0 rfl) ?_
  refine lv_iload_n hx hb dX1_addBlock_44 rfl (lv_at hl 2 rfl) ?_
  refine va_iast hx hb hK hP hD hS 5 4 rfl rfl (hq1) dX1_addBlock_45 (fun H locs hP hD hS => ?_)
  have hP : va_P (dC, dI) cls [(h0, .inr (4, [.int blocks, .int limit, .ref stepsO, .ref firstStepA, .ref lastStepA, .ref firstPhiA, .ref lastPhiA, .ref endA, .ref endValueA, .ref firstA, .ref secondA, .ref dominatorA, .ref depthA, .ref waysBeginA, .ref waysA, .ref dominatorsA, .ref loopA, .int phiCount, .ref phiGivesA, .ref phiNextA, .ref takesA])), (firstStepA, .inl (firstStepC, 60, .inl (upd firstStepF (Int32.toNatClampNeg blocks) (-1)))), (lastStepA, .inl (lastStepC, 60, .inl (upd lastStepF (Int32.toNatClampNeg blocks) (-1)))), (firstPhiA, .inl (firstPhiC, 60, .inl (upd firstPhiF (Int32.toNatClampNeg blocks) (-1)))), (lastPhiA, .inl (lastPhiC, 60, .inl (upd lastPhiF (Int32.toNatClampNeg blocks) (-1)))), (endA, .inl (endC, 60, .inl (upd endF (Int32.toNatClampNeg blocks) p0))), (endValueA, .inl (endValueC, 60, .inl endValueF)), (firstA, .inl (firstC, 60, .inl firstF)), (secondA, .inl (secondC, 60, .inl secondF))] H := hP
  have hD : va_D A [(h0, .inr (4, [.int blocks, .int limit, .ref stepsO, .ref firstStepA, .ref lastStepA, .ref firstPhiA, .ref lastPhiA, .ref endA, .ref endValueA, .ref firstA, .ref secondA, .ref dominatorA, .ref depthA, .ref waysBeginA, .ref waysA, .ref dominatorsA, .ref loopA, .int phiCount, .ref phiGivesA, .ref phiNextA, .ref takesA])), (firstStepA, .inl (firstStepC, 60, .inl (upd firstStepF (Int32.toNatClampNeg blocks) (-1)))), (lastStepA, .inl (lastStepC, 60, .inl (upd lastStepF (Int32.toNatClampNeg blocks) (-1)))), (firstPhiA, .inl (firstPhiC, 60, .inl (upd firstPhiF (Int32.toNatClampNeg blocks) (-1)))), (lastPhiA, .inl (lastPhiC, 60, .inl (upd lastPhiF (Int32.toNatClampNeg blocks) (-1)))), (endA, .inl (endC, 60, .inl (upd endF (Int32.toNatClampNeg blocks) p0))), (endValueA, .inl (endValueC, 60, .inl endValueF)), (firstA, .inl (firstC, 60, .inl firstF)), (secondA, .inl (secondC, 60, .inl secondF))] := hD
  refine lv_aload_n hx hb dX1_addBlock_46 rfl (lv_at hl 1 rfl) ?_
  refine va_get (D := (dC, dI)) (ci := 4) (v := .ref endValueA) (C := RX1) (T := TX1) (N := 21) hx hb hts i_X1 hown hK hP 0 rfl rfl 8 (by decide) (hts _ qw45) (fun _ h9 => h9) rfl dX1_addBlock_47 ?_
  refine lv_iload hx hb dX1_addBlock_50 (lv_at hl 0 rfl) ?_
  refine lv_iload_n hx hb dX1_addBlock_52 rfl (lv_at hl 3 rfl) ?_
  refine va_iast hx hb hK hP hD hS 6 5 rfl rfl (hq1) dX1_addBlock_53 (fun H locs hP hD hS => ?_)
  have hP : va_P (dC, dI) cls [(h0, .inr (4, [.int blocks, .int limit, .ref stepsO, .ref firstStepA, .ref lastStepA, .ref firstPhiA, .ref lastPhiA, .ref endA, .ref endValueA, .ref firstA, .ref secondA, .ref dominatorA, .ref depthA, .ref waysBeginA, .ref waysA, .ref dominatorsA, .ref loopA, .int phiCount, .ref phiGivesA, .ref phiNextA, .ref takesA])), (firstStepA, .inl (firstStepC, 60, .inl (upd firstStepF (Int32.toNatClampNeg blocks) (-1)))), (lastStepA, .inl (lastStepC, 60, .inl (upd lastStepF (Int32.toNatClampNeg blocks) (-1)))), (firstPhiA, .inl (firstPhiC, 60, .inl (upd firstPhiF (Int32.toNatClampNeg blocks) (-1)))), (lastPhiA, .inl (lastPhiC, 60, .inl (upd lastPhiF (Int32.toNatClampNeg blocks) (-1)))), (endA, .inl (endC, 60, .inl (upd endF (Int32.toNatClampNeg blocks) p0))), (endValueA, .inl (endValueC, 60, .inl (upd endValueF (Int32.toNatClampNeg blocks) p1))), (firstA, .inl (firstC, 60, .inl firstF)), (secondA, .inl (secondC, 60, .inl secondF))] H := hP
  have hD : va_D A [(h0, .inr (4, [.int blocks, .int limit, .ref stepsO, .ref firstStepA, .ref lastStepA, .ref firstPhiA, .ref lastPhiA, .ref endA, .ref endValueA, .ref firstA, .ref secondA, .ref dominatorA, .ref depthA, .ref waysBeginA, .ref waysA, .ref dominatorsA, .ref loopA, .int phiCount, .ref phiGivesA, .ref phiNextA, .ref takesA])), (firstStepA, .inl (firstStepC, 60, .inl (upd firstStepF (Int32.toNatClampNeg blocks) (-1)))), (lastStepA, .inl (lastStepC, 60, .inl (upd lastStepF (Int32.toNatClampNeg blocks) (-1)))), (firstPhiA, .inl (firstPhiC, 60, .inl (upd firstPhiF (Int32.toNatClampNeg blocks) (-1)))), (lastPhiA, .inl (lastPhiC, 60, .inl (upd lastPhiF (Int32.toNatClampNeg blocks) (-1)))), (endA, .inl (endC, 60, .inl (upd endF (Int32.toNatClampNeg blocks) p0))), (endValueA, .inl (endValueC, 60, .inl (upd endValueF (Int32.toNatClampNeg blocks) p1))), (firstA, .inl (firstC, 60, .inl firstF)), (secondA, .inl (secondC, 60, .inl secondF))] := hD
  refine lv_aload_n hx hb dX1_addBlock_54 rfl (lv_at hl 1 rfl) ?_
  refine va_get (D := (dC, dI)) (ci := 4) (v := .ref firstA) (C := RX1) (T := TX1) (N := 21) hx hb hts i_X1 hown hK hP 0 rfl rfl 9 (by decide) (hts _ qw46) (fun _ h9 => h9) rfl dX1_addBlock_55 ?_
  refine lv_iload hx hb dX1_addBlock_58 (lv_at hl 0 rfl) ?_
  refine lv_iload_n hx hb dX1_addBlock_60 rfl (lv_at hl 4 rfl) ?_
  refine va_iast hx hb hK hP hD hS 7 6 rfl rfl (hq1) dX1_addBlock_61 (fun H locs hP hD hS => ?_)
  have hP : va_P (dC, dI) cls [(h0, .inr (4, [.int blocks, .int limit, .ref stepsO, .ref firstStepA, .ref lastStepA, .ref firstPhiA, .ref lastPhiA, .ref endA, .ref endValueA, .ref firstA, .ref secondA, .ref dominatorA, .ref depthA, .ref waysBeginA, .ref waysA, .ref dominatorsA, .ref loopA, .int phiCount, .ref phiGivesA, .ref phiNextA, .ref takesA])), (firstStepA, .inl (firstStepC, 60, .inl (upd firstStepF (Int32.toNatClampNeg blocks) (-1)))), (lastStepA, .inl (lastStepC, 60, .inl (upd lastStepF (Int32.toNatClampNeg blocks) (-1)))), (firstPhiA, .inl (firstPhiC, 60, .inl (upd firstPhiF (Int32.toNatClampNeg blocks) (-1)))), (lastPhiA, .inl (lastPhiC, 60, .inl (upd lastPhiF (Int32.toNatClampNeg blocks) (-1)))), (endA, .inl (endC, 60, .inl (upd endF (Int32.toNatClampNeg blocks) p0))), (endValueA, .inl (endValueC, 60, .inl (upd endValueF (Int32.toNatClampNeg blocks) p1))), (firstA, .inl (firstC, 60, .inl (upd firstF (Int32.toNatClampNeg blocks) p2))), (secondA, .inl (secondC, 60, .inl secondF))] H := hP
  have hD : va_D A [(h0, .inr (4, [.int blocks, .int limit, .ref stepsO, .ref firstStepA, .ref lastStepA, .ref firstPhiA, .ref lastPhiA, .ref endA, .ref endValueA, .ref firstA, .ref secondA, .ref dominatorA, .ref depthA, .ref waysBeginA, .ref waysA, .ref dominatorsA, .ref loopA, .int phiCount, .ref phiGivesA, .ref phiNextA, .ref takesA])), (firstStepA, .inl (firstStepC, 60, .inl (upd firstStepF (Int32.toNatClampNeg blocks) (-1)))), (lastStepA, .inl (lastStepC, 60, .inl (upd lastStepF (Int32.toNatClampNeg blocks) (-1)))), (firstPhiA, .inl (firstPhiC, 60, .inl (upd firstPhiF (Int32.toNatClampNeg blocks) (-1)))), (lastPhiA, .inl (lastPhiC, 60, .inl (upd lastPhiF (Int32.toNatClampNeg blocks) (-1)))), (endA, .inl (endC, 60, .inl (upd endF (Int32.toNatClampNeg blocks) p0))), (endValueA, .inl (endValueC, 60, .inl (upd endValueF (Int32.toNatClampNeg blocks) p1))), (firstA, .inl (firstC, 60, .inl (upd firstF (Int32.toNatClampNeg blocks) p2))), (secondA, .inl (secondC, 60, .inl secondF))] := hD
  refine lv_aload_n hx hb dX1_addBlock_62 rfl (lv_at hl 1 rfl) ?_
  refine va_get (D := (dC, dI)) (ci := 4) (v := .ref secondA) (C := RX1) (T := TX1) (N := 21) hx hb hts i_X1 hown hK hP 0 rfl rfl 10 (by decide) (hts _ qw47) (fun _ h9 => h9) rfl dX1_addBlock_63 ?_
  refine lv_iload hx hb dX1_addBlock_66 (lv_at hl 0 rfl) ?_
  refine lv_iload hx hb dX1_addBlock_68 (lv_at hl 5 rfl) ?_
  refine va_iast hx hb hK hP hD hS 8 7 rfl rfl (hq1) dX1_addBlock_70 (fun H locs hP hD hS => ?_)
  have hP : va_P (dC, dI) cls [(h0, .inr (4, [.int blocks, .int limit, .ref stepsO, .ref firstStepA, .ref lastStepA, .ref firstPhiA, .ref lastPhiA, .ref endA, .ref endValueA, .ref firstA, .ref secondA, .ref dominatorA, .ref depthA, .ref waysBeginA, .ref waysA, .ref dominatorsA, .ref loopA, .int phiCount, .ref phiGivesA, .ref phiNextA, .ref takesA])), (firstStepA, .inl (firstStepC, 60, .inl (upd firstStepF (Int32.toNatClampNeg blocks) (-1)))), (lastStepA, .inl (lastStepC, 60, .inl (upd lastStepF (Int32.toNatClampNeg blocks) (-1)))), (firstPhiA, .inl (firstPhiC, 60, .inl (upd firstPhiF (Int32.toNatClampNeg blocks) (-1)))), (lastPhiA, .inl (lastPhiC, 60, .inl (upd lastPhiF (Int32.toNatClampNeg blocks) (-1)))), (endA, .inl (endC, 60, .inl (upd endF (Int32.toNatClampNeg blocks) p0))), (endValueA, .inl (endValueC, 60, .inl (upd endValueF (Int32.toNatClampNeg blocks) p1))), (firstA, .inl (firstC, 60, .inl (upd firstF (Int32.toNatClampNeg blocks) p2))), (secondA, .inl (secondC, 60, .inl (upd secondF (Int32.toNatClampNeg blocks) p3)))] H := hP
  have hD : va_D A [(h0, .inr (4, [.int blocks, .int limit, .ref stepsO, .ref firstStepA, .ref lastStepA, .ref firstPhiA, .ref lastPhiA, .ref endA, .ref endValueA, .ref firstA, .ref secondA, .ref dominatorA, .ref depthA, .ref waysBeginA, .ref waysA, .ref dominatorsA, .ref loopA, .int phiCount, .ref phiGivesA, .ref phiNextA, .ref takesA])), (firstStepA, .inl (firstStepC, 60, .inl (upd firstStepF (Int32.toNatClampNeg blocks) (-1)))), (lastStepA, .inl (lastStepC, 60, .inl (upd lastStepF (Int32.toNatClampNeg blocks) (-1)))), (firstPhiA, .inl (firstPhiC, 60, .inl (upd firstPhiF (Int32.toNatClampNeg blocks) (-1)))), (lastPhiA, .inl (lastPhiC, 60, .inl (upd lastPhiF (Int32.toNatClampNeg blocks) (-1)))), (endA, .inl (endC, 60, .inl (upd endF (Int32.toNatClampNeg blocks) p0))), (endValueA, .inl (endValueC, 60, .inl (upd endValueF (Int32.toNatClampNeg blocks) p1))), (firstA, .inl (firstC, 60, .inl (upd firstF (Int32.toNatClampNeg blocks) p2))), (secondA, .inl (secondC, 60, .inl (upd secondF (Int32.toNatClampNeg blocks) p3)))] := hD
  refine lv_aload_n hx hb dX1_addBlock_71 rfl (lv_at hl 1 rfl) ?_
  refine lv_dup hx hb dX1_addBlock_72 rfl ?_
  refine va_get (D := (dC, dI)) (ci := 4) (v := .int blocks) (C := RX1) (T := TX1) (N := 21) hx hb hts i_X1 hown hK hP 0 rfl rfl 0 (by decide) (hts _ qw217) (fun _ h9 => h9) rfl dX1_addBlock_73 ?_
  refine lv_iconst (v := 1) hx hb dX1_addBlock_76 (by decide) ?_
  refine lv_iadd hx hb dX1_addBlock_77 ?_
  refine va_put (D := (dC, dI)) (ci := 4) (v := .int (blocks + 1)) (ty := .int) (C := RX1) (T := TX1) (N := 21) hx hb hts i_X1 tyX1 tyX1_ok nmX1 hown hK hP hD hS 0 rfl rfl 0 (by decide) (hts _ qw217) (fun _ h9 => h9) rfl (by decide +kernel) rfl rfl (Nat.le_of_ble_eq_true rfl) dX1_addBlock_78 (fun H locs hP hD hS => ?_)
  have hP : va_P (dC, dI) cls [(h0, .inr (4, [.int (blocks + 1), .int limit, .ref stepsO, .ref firstStepA, .ref lastStepA, .ref firstPhiA, .ref lastPhiA, .ref endA, .ref endValueA, .ref firstA, .ref secondA, .ref dominatorA, .ref depthA, .ref waysBeginA, .ref waysA, .ref dominatorsA, .ref loopA, .int phiCount, .ref phiGivesA, .ref phiNextA, .ref takesA])), (firstStepA, .inl (firstStepC, 60, .inl (upd firstStepF (Int32.toNatClampNeg blocks) (-1)))), (lastStepA, .inl (lastStepC, 60, .inl (upd lastStepF (Int32.toNatClampNeg blocks) (-1)))), (firstPhiA, .inl (firstPhiC, 60, .inl (upd firstPhiF (Int32.toNatClampNeg blocks) (-1)))), (lastPhiA, .inl (lastPhiC, 60, .inl (upd lastPhiF (Int32.toNatClampNeg blocks) (-1)))), (endA, .inl (endC, 60, .inl (upd endF (Int32.toNatClampNeg blocks) p0))), (endValueA, .inl (endValueC, 60, .inl (upd endValueF (Int32.toNatClampNeg blocks) p1))), (firstA, .inl (firstC, 60, .inl (upd firstF (Int32.toNatClampNeg blocks) p2))), (secondA, .inl (secondC, 60, .inl (upd secondF (Int32.toNatClampNeg blocks) p3)))] H := hP
  have hD : va_D A [(h0, .inr (4, [.int (blocks + 1), .int limit, .ref stepsO, .ref firstStepA, .ref lastStepA, .ref firstPhiA, .ref lastPhiA, .ref endA, .ref endValueA, .ref firstA, .ref secondA, .ref dominatorA, .ref depthA, .ref waysBeginA, .ref waysA, .ref dominatorsA, .ref loopA, .int phiCount, .ref phiGivesA, .ref phiNextA, .ref takesA])), (firstStepA, .inl (firstStepC, 60, .inl (upd firstStepF (Int32.toNatClampNeg blocks) (-1)))), (lastStepA, .inl (lastStepC, 60, .inl (upd lastStepF (Int32.toNatClampNeg blocks) (-1)))), (firstPhiA, .inl (firstPhiC, 60, .inl (upd firstPhiF (Int32.toNatClampNeg blocks) (-1)))), (lastPhiA, .inl (lastPhiC, 60, .inl (upd lastPhiF (Int32.toNatClampNeg blocks) (-1)))), (endA, .inl (endC, 60, .inl (upd endF (Int32.toNatClampNeg blocks) p0))), (endValueA, .inl (endValueC, 60, .inl (upd endValueF (Int32.toNatClampNeg blocks) p1))), (firstA, .inl (firstC, 60, .inl (upd firstF (Int32.toNatClampNeg blocks) p2))), (secondA, .inl (secondC, 60, .inl (upd secondF (Int32.toNatClampNeg blocks) p3)))] := hD
  refine lv_iload hx hb dX1_addBlock_81 (lv_at hl 0 rfl) ?_
  have hP9 : va_P (dC, dI) cls [(h0, .inr (4, [.int (blocks + 1), .int limit, .ref stepsO, .ref firstStepA, .ref lastStepA, .ref firstPhiA, .ref lastPhiA, .ref endA, .ref endValueA, .ref firstA, .ref secondA, .ref dominatorA, .ref depthA, .ref waysBeginA, .ref waysA, .ref dominatorsA, .ref loopA, .int phiCount, .ref phiGivesA, .ref phiNextA, .ref takesA])), (firstStepA, .inl (firstStepC, 60, .inl (upd firstStepF (Int32.toNatClampNeg blocks) (-1)))), (lastStepA, .inl (lastStepC, 60, .inl (upd lastStepF (Int32.toNatClampNeg blocks) (-1)))), (firstPhiA, .inl (firstPhiC, 60, .inl (upd firstPhiF (Int32.toNatClampNeg blocks) (-1)))), (lastPhiA, .inl (lastPhiC, 60, .inl (upd lastPhiF (Int32.toNatClampNeg blocks) (-1)))), (endA, .inl (endC, 60, .inl (upd endF (Int32.toNatClampNeg blocks) p0))), (endValueA, .inl (endValueC, 60, .inl (upd endValueF (Int32.toNatClampNeg blocks) p1))), (firstA, .inl (firstC, 60, .inl (upd firstF (Int32.toNatClampNeg blocks) p2))), (secondA, .inl (secondC, 60, .inl (upd secondF (Int32.toNatClampNeg blocks) p3)))] H := by exact hP.sub [0, 1, 2, 3, 4, 5, 6, 7, 8] rfl
  have hD9 : va_D A [(h0, .inr (4, [.int (blocks + 1), .int limit, .ref stepsO, .ref firstStepA, .ref lastStepA, .ref firstPhiA, .ref lastPhiA, .ref endA, .ref endValueA, .ref firstA, .ref secondA, .ref dominatorA, .ref depthA, .ref waysBeginA, .ref waysA, .ref dominatorsA, .ref loopA, .int phiCount, .ref phiGivesA, .ref phiNextA, .ref takesA])), (firstStepA, .inl (firstStepC, 60, .inl (upd firstStepF (Int32.toNatClampNeg blocks) (-1)))), (lastStepA, .inl (lastStepC, 60, .inl (upd lastStepF (Int32.toNatClampNeg blocks) (-1)))), (firstPhiA, .inl (firstPhiC, 60, .inl (upd firstPhiF (Int32.toNatClampNeg blocks) (-1)))), (lastPhiA, .inl (lastPhiC, 60, .inl (upd lastPhiF (Int32.toNatClampNeg blocks) (-1)))), (endA, .inl (endC, 60, .inl (upd endF (Int32.toNatClampNeg blocks) p0))), (endValueA, .inl (endValueC, 60, .inl (upd endValueF (Int32.toNatClampNeg blocks) p1))), (firstA, .inl (firstC, 60, .inl (upd firstF (Int32.toNatClampNeg blocks) p2))), (secondA, .inl (secondC, 60, .inl (upd secondF (Int32.toNatClampNeg blocks) p3)))] := by exact hD.sub [0, 1, 2, 3, 4, 5, 6, 7, 8] (by decide) rfl
  have hK9 : va_K (dC, dI) cls [(firstStepC, .int), (lastStepC, .int), (firstPhiC, .int), (lastPhiC, .int), (endC, .int), (endValueC, .int), (firstC, .int), (secondC, .int)] s := hK.sub [0, 1, 2, 3, 4, 5, 6, 7] rfl
  refine W.widen (k := 0) (n := 0) (Nat.le_of_ble_eq_true rfl) (Nat.le_of_ble_eq_true rfl) ?_
  exact W.iret (v := blocks) hx hb hr (fun t ht hW => ⟨⟨blocks, (), rfl, rfl, ⟨by rw [ht]; exact hP9, va_K.moved hW.alike hK9, hD9⟩⟩, hS.F ht⟩) hS.2.2 dX1_addBlock_83
set_option maxHeartbeats 4000000 in
set_option maxRecDepth 100000 in
theorem kX1_clear {zs : Nat × Nat} (l : Launch) (dC : Nat → ClassId) (dI : Nat → Nat → Nat) (h0 : Nat) (blocks : Int32) (limit : Int32) (firstStepA : Nat) (lastStepA : Nat) (firstPhiA : Nat) (lastPhiA : Nat) (endA : Nat) (endValueA : Nat) (firstA : Nat) (secondA : Nat) (dominatorA : Nat) (depthA : Nat) (waysBeginA : Nat) (waysA : Nat) (dominatorsA : Nat) (loopA : Nat) (phiCount : Int32) (phiGivesA : Nat) (phiNextA : Nat) (takesA : Nat) (stepsO : Nat) (steps_count : Int32) (steps_kindA : Nat) (steps_givesA : Nat) (steps_leftA : Nat) (steps_rightA : Nat) (steps_nextA : Nat) (sz : Nat)  : Met l yX1_clear (wz yX1_clear cX1_clear 1 (Option.none : Option Jvm.ClassFile.FieldType)) ({ frames := 0, cells := 0, slots := 0, locals := 0 }) (va_Pc [.ref h0] (PRE zs dC dI [(h0, .inr (4, [.int blocks, .int limit, .ref stepsO, .ref firstStepA, .ref lastStepA, .ref firstPhiA, .ref lastPhiA, .ref endA, .ref endValueA, .ref firstA, .ref secondA, .ref dominatorA, .ref depthA, .ref waysBeginA, .ref waysA, .ref dominatorsA, .ref loopA, .int phiCount, .ref phiGivesA, .ref phiNextA, .ref takesA])), (stepsO, .inr (3, [.int steps_count, .ref steps_kindA, .ref steps_givesA, .ref steps_leftA, .ref steps_rightA, .ref steps_nextA]))] [] sz)) (va_Qv (fun (_ : Unit) => True) (fun _ t => POST dC dI [(h0, .inr (4, [.int 0, .int 0, .ref stepsO, .ref firstStepA, .ref lastStepA, .ref firstPhiA, .ref lastPhiA, .ref endA, .ref endValueA, .ref firstA, .ref secondA, .ref dominatorA, .ref depthA, .ref waysBeginA, .ref waysA, .ref dominatorsA, .ref loopA, .int 0, .ref phiGivesA, .ref phiNextA, .ref takesA])), (stepsO, .inr (3, [.int 0, .ref steps_kindA, .ref steps_givesA, .ref steps_leftA, .ref steps_rightA, .ref steps_nextA]))] [] (va_A [(h0, .inr (4, [.int blocks, .int limit, .ref stepsO, .ref firstStepA, .ref lastStepA, .ref firstPhiA, .ref lastPhiA, .ref endA, .ref endValueA, .ref firstA, .ref secondA, .ref dominatorA, .ref depthA, .ref waysBeginA, .ref waysA, .ref dominatorsA, .ref loopA, .int phiCount, .ref phiGivesA, .ref phiNextA, .ref takesA])), (stepsO, .inr (3, [.int steps_count, .ref steps_kindA, .ref steps_givesA, .ref steps_leftA, .ref steps_rightA, .ref steps_nextA]))] sz) t) (va_A [(h0, .inr (4, [.int blocks, .int limit, .ref stepsO, .ref firstStepA, .ref lastStepA, .ref firstPhiA, .ref lastPhiA, .ref endA, .ref endValueA, .ref firstA, .ref secondA, .ref dominatorA, .ref depthA, .ref waysBeginA, .ref waysA, .ref dominatorsA, .ref loopA, .int phiCount, .ref phiGivesA, .ref phiNextA, .ref takesA])), (stepsO, .inr (3, [.int steps_count, .ref steps_kindA, .ref steps_givesA, .ref steps_leftA, .ref steps_rightA, .ref steps_nextA]))] sz)) 0 0 (va_A [(h0, .inr (4, [.int blocks, .int limit, .ref stepsO, .ref firstStepA, .ref lastStepA, .ref firstPhiA, .ref lastPhiA, .ref endA, .ref endValueA, .ref firstA, .ref secondA, .ref dominatorA, .ref depthA, .ref waysBeginA, .ref waysA, .ref dominatorsA, .ref loopA, .int phiCount, .ref phiGivesA, .ref phiNextA, .ref takesA])), (stepsO, .inr (3, [.int steps_count, .ref steps_kindA, .ref steps_givesA, .ref steps_leftA, .ref steps_rightA, .ref steps_nextA]))] sz) := by
  refine Met.ofW (cc := cX1_clear) (maxL := 1) (ret := (Option.none : Option Jvm.ClassFile.FieldType)) (by decide) rfl ?_
  intro p e s m args below meth c s₁ B hml hv
  obtain ⟨rfl, hsz, hP, hK, hD0, hE⟩ := hv
  have hx := B.exec
  have hb := B.bytes
  have hr := B.returns
  have hts0 := atoms_spec (ws := wz yX1_clear cX1_clear 1 (Option.none : Option Jvm.ClassFile.FieldType)) B.pre
  have hts : ∀ w ∈ gw, w.before _ s = true := fun w h => hts0 w (List.mem_cons_of_mem _ h)
  have hown : s.vm.findClass RX1 = some m.cls := findClass_of_methodNamed B.named
  have hlocks := B.notSynchronized
  subst hsz
  have hD := hD0.self (sz := s.heap.size)
  generalize hAe : va_A [(h0, .inr (4, [.int blocks, .int limit, .ref stepsO, .ref firstStepA, .ref lastStepA, .ref firstPhiA, .ref lastPhiA, .ref endA, .ref endValueA, .ref firstA, .ref secondA, .ref dominatorA, .ref depthA, .ref waysBeginA, .ref waysA, .ref dominatorsA, .ref loopA, .int phiCount, .ref phiGivesA, .ref phiNextA, .ref takesA])), (stepsO, .inr (3, [.int steps_count, .ref steps_kindA, .ref steps_givesA, .ref steps_leftA, .ref steps_rightA, .ref steps_nextA]))] s.heap.size = A at hD hE ⊢
  have hA : ∀ q : Nat, s.heap.size ≤ q → A q := fun q h => by rw [← hAe]; exact Or.inr h
  have hS : va_S A s.heap s.heap [] := va_S.rf
  have hP : va_P (dC, dI) cls [(h0, .inr (4, [.int blocks, .int limit, .ref stepsO, .ref firstStepA, .ref lastStepA, .ref firstPhiA, .ref lastPhiA, .ref endA, .ref endValueA, .ref firstA, .ref secondA, .ref dominatorA, .ref depthA, .ref waysBeginA, .ref waysA, .ref dominatorsA, .ref loopA, .int phiCount, .ref phiGivesA, .ref phiNextA, .ref takesA])), (stepsO, .inr (3, [.int steps_count, .ref steps_kindA, .ref steps_givesA, .ref steps_leftA, .ref steps_rightA, .ref steps_nextA]))] s.heap := hP
  have hl := lv_entry ([.ref h0]) (n := 1) (Nat.le_of_ble_eq_true rfl)
  rw [lg_entry_eq]
  generalize (lg_sl ([.ref h0]) ++ List.replicate (1 - (lg_sl ([.ref h0])).length) Slot.unset).toArray = ls at hl ⊢
  have hl : lv_has ls 1 [(0, .ref h0)] := hl
  refine lv_aload_n hx hb dX1_clear_0 rfl (lv_at hl 0 rfl) ?_
  refine lv_iconst (v := 0) hx hb dX1_clear_1 (by decide) ?_
  refine va_put (D := (dC, dI)) (ci := 4) (v := .int 0) (ty := .int) (C := RX1) (T := TX1) (N := 21) hx hb hts i_X1 tyX1 tyX1_ok nmX1 hown hK hP hD hS 0 rfl rfl 0 (by decide) (hts _ qw217) (fun _ h9 => h9) rfl (by decide +kernel) rfl rfl (Nat.le_of_ble_eq_true rfl) dX1_clear_2 (fun H locs hP hD hS => ?_)
  have hP : va_P (dC, dI) cls [(h0, .inr (4, [.int 0, .int limit, .ref stepsO, .ref firstStepA, .ref lastStepA, .ref firstPhiA, .ref lastPhiA, .ref endA, .ref endValueA, .ref firstA, .ref secondA, .ref dominatorA, .ref depthA, .ref waysBeginA, .ref waysA, .ref dominatorsA, .ref loopA, .int phiCount, .ref phiGivesA, .ref phiNextA, .ref takesA])), (stepsO, .inr (3, [.int steps_count, .ref steps_kindA, .ref steps_givesA, .ref steps_leftA, .ref steps_rightA, .ref steps_nextA]))] H := hP
  have hD : va_D A [(h0, .inr (4, [.int 0, .int limit, .ref stepsO, .ref firstStepA, .ref lastStepA, .ref firstPhiA, .ref lastPhiA, .ref endA, .ref endValueA, .ref firstA, .ref secondA, .ref dominatorA, .ref depthA, .ref waysBeginA, .ref waysA, .ref dominatorsA, .ref loopA, .int phiCount, .ref phiGivesA, .ref phiNextA, .ref takesA])), (stepsO, .inr (3, [.int steps_count, .ref steps_kindA, .ref steps_givesA, .ref steps_leftA, .ref steps_rightA, .ref steps_nextA]))] := hD
  refine lv_aload_n hx hb dX1_clear_5 rfl (lv_at hl 0 rfl) ?_
  refine lv_iconst (v := 0) hx hb dX1_clear_6 (by decide) ?_
  refine va_put (D := (dC, dI)) (ci := 4) (v := .int 0) (ty := .int) (C := RX1) (T := TX1) (N := 21) hx hb hts i_X1 tyX1 tyX1_ok nmX1 hown hK hP hD hS 0 rfl rfl 1 (by decide) (hts _ qw223) (fun _ h9 => h9) rfl (by decide +kernel) rfl rfl (Nat.le_of_ble_eq_true rfl) dX1_clear_7 (fun H locs hP hD hS => ?_)
  have hP : va_P (dC, dI) cls [(h0, .inr (4, [.int 0, .int 0, .ref stepsO, .ref firstStepA, .ref lastStepA, .ref firstPhiA, .ref lastPhiA, .ref endA, .ref endValueA, .ref firstA, .ref secondA, .ref dominatorA, .ref depthA, .ref waysBeginA, .ref waysA, .ref dominatorsA, .ref loopA, .int phiCount, .ref phiGivesA, .ref phiNextA, .ref takesA])), (stepsO, .inr (3, [.int steps_count, .ref steps_kindA, .ref steps_givesA, .ref steps_leftA, .ref steps_rightA, .ref steps_nextA]))] H := hP
  have hD : va_D A [(h0, .inr (4, [.int 0, .int 0, .ref stepsO, .ref firstStepA, .ref lastStepA, .ref firstPhiA, .ref lastPhiA, .ref endA, .ref endValueA, .ref firstA, .ref secondA, .ref dominatorA, .ref depthA, .ref waysBeginA, .ref waysA, .ref dominatorsA, .ref loopA, .int phiCount, .ref phiGivesA, .ref phiNextA, .ref takesA])), (stepsO, .inr (3, [.int steps_count, .ref steps_kindA, .ref steps_givesA, .ref steps_leftA, .ref steps_rightA, .ref steps_nextA]))] := hD
  refine lv_aload_n hx hb dX1_clear_10 rfl (lv_at hl 0 rfl) ?_
  refine va_get (D := (dC, dI)) (ci := 4) (v := .ref stepsO) (C := RX1) (T := TX1) (N := 21) hx hb hts i_X1 hown hK hP 0 rfl rfl 2 (by decide) (hts _ qw39) (fun _ h9 => h9) rfl dX1_clear_11 ?_
  refine lv_iconst (v := 0) hx hb dX1_clear_14 (by decide) ?_
  refine va_put (D := (dC, dI)) (ci := 3) (v := .int 0) (ty := .int) (C := RX9) (T := TX9) (N := 6) hx hb hts i_X9 tyX9 tyX9_ok nmX9 hown hK hP hD hS 1 rfl rfl 0 (by decide) (hts _ qw224) (fun _ h9 => h9) rfl (by decide +kernel) rfl rfl (Nat.le_of_ble_eq_true rfl) dX1_clear_15 (fun H locs hP hD hS => ?_)
  have hP : va_P (dC, dI) cls [(h0, .inr (4, [.int 0, .int 0, .ref stepsO, .ref firstStepA, .ref lastStepA, .ref firstPhiA, .ref lastPhiA, .ref endA, .ref endValueA, .ref firstA, .ref secondA, .ref dominatorA, .ref depthA, .ref waysBeginA, .ref waysA, .ref dominatorsA, .ref loopA, .int phiCount, .ref phiGivesA, .ref phiNextA, .ref takesA])), (stepsO, .inr (3, [.int 0, .ref steps_kindA, .ref steps_givesA, .ref steps_leftA, .ref steps_rightA, .ref steps_nextA]))] H := hP
  have hD : va_D A [(h0, .inr (4, [.int 0, .int 0, .ref stepsO, .ref firstStepA, .ref lastStepA, .ref firstPhiA, .ref lastPhiA, .ref endA, .ref endValueA, .ref firstA, .ref secondA, .ref dominatorA, .ref depthA, .ref waysBeginA, .ref waysA, .ref dominatorsA, .ref loopA, .int phiCount, .ref phiGivesA, .ref phiNextA, .ref takesA])), (stepsO, .inr (3, [.int 0, .ref steps_kindA, .ref steps_givesA, .ref steps_leftA, .ref steps_rightA, .ref steps_nextA]))] := hD
  refine lv_aload_n hx hb dX1_clear_18 rfl (lv_at hl 0 rfl) ?_
  refine lv_iconst (v := 0) hx hb dX1_clear_19 (by decide) ?_
  refine va_put (D := (dC, dI)) (ci := 4) (v := .int 0) (ty := .int) (C := RX1) (T := TX1) (N := 21) hx hb hts i_X1 tyX1 tyX1_ok nmX1 hown hK hP hD hS 0 rfl rfl 17 (by decide) (hts _ qw218) (fun _ h9 => h9) rfl (by decide +kernel) rfl rfl (Nat.le_of_ble_eq_true rfl) dX1_clear_20 (fun H locs hP hD hS => ?_)
  have hP : va_P (dC, dI) cls [(h0, .inr (4, [.int 0, .int 0, .ref stepsO, .ref firstStepA, .ref lastStepA, .ref firstPhiA, .ref lastPhiA, .ref endA, .ref endValueA, .ref firstA, .ref secondA, .ref dominatorA, .ref depthA, .ref waysBeginA, .ref waysA, .ref dominatorsA, .ref loopA, .int 0, .ref phiGivesA, .ref phiNextA, .ref takesA])), (stepsO, .inr (3, [.int 0, .ref steps_kindA, .ref steps_givesA, .ref steps_leftA, .ref steps_rightA, .ref steps_nextA]))] H := hP
  have hD : va_D A [(h0, .inr (4, [.int 0, .int 0, .ref stepsO, .ref firstStepA, .ref lastStepA, .ref firstPhiA, .ref lastPhiA, .ref endA, .ref endValueA, .ref firstA, .ref secondA, .ref dominatorA, .ref depthA, .ref waysBeginA, .ref waysA, .ref dominatorsA, .ref loopA, .int 0, .ref phiGivesA, .ref phiNextA, .ref takesA])), (stepsO, .inr (3, [.int 0, .ref steps_kindA, .ref steps_givesA, .ref steps_leftA, .ref steps_rightA, .ref steps_nextA]))] := hD
  have hP9 : va_P (dC, dI) cls [(h0, .inr (4, [.int 0, .int 0, .ref stepsO, .ref firstStepA, .ref lastStepA, .ref firstPhiA, .ref lastPhiA, .ref endA, .ref endValueA, .ref firstA, .ref secondA, .ref dominatorA, .ref depthA, .ref waysBeginA, .ref waysA, .ref dominatorsA, .ref loopA, .int 0, .ref phiGivesA, .ref phiNextA, .ref takesA])), (stepsO, .inr (3, [.int 0, .ref steps_kindA, .ref steps_givesA, .ref steps_leftA, .ref steps_rightA, .ref steps_nextA]))] H := by exact hP.sub [0, 1] rfl
  have hD9 : va_D A [(h0, .inr (4, [.int 0, .int 0, .ref stepsO, .ref firstStepA, .ref lastStepA, .ref firstPhiA, .ref lastPhiA, .ref endA, .ref endValueA, .ref firstA, .ref secondA, .ref dominatorA, .ref depthA, .ref waysBeginA, .ref waysA, .ref dominatorsA, .ref loopA, .int 0, .ref phiGivesA, .ref phiNextA, .ref takesA])), (stepsO, .inr (3, [.int 0, .ref steps_kindA, .ref steps_givesA, .ref steps_leftA, .ref steps_rightA, .ref steps_nextA]))] := by exact hD.sub [0, 1] (by decide) rfl
  have hK9 : va_K (dC, dI) cls [] s := hK.sub [] rfl
  refine W.widen (k := 0) (n := 0) (Nat.le_of_ble_eq_true rfl) (Nat.le_of_ble_eq_true rfl) ?_
  exact W.vret hx hb hr (fun t ht hW => ⟨⟨(), rfl, trivial, ⟨by rw [ht]; exact hP9, va_K.moved hW.alike hK9, hD9⟩⟩, hS.F ht⟩) hS.2.2 dX1_clear_23
def sX1_leads_r (firstF : Nat → Int32) (secondF : Nat → Int32) (p0 : Int32) (p1 : Int32) : Int32 := (if (firstF (Int32.toNatClampNeg p0)) = p1 then 1 else (if (secondF (Int32.toNatClampNeg p0)) = p1 then 1 else 0))
set_option maxHeartbeats 4000000 in
set_option maxRecDepth 100000 in
theorem kX1_leads {zs : Nat × Nat} (l : Launch) (dC : Nat → ClassId) (dI : Nat → Nat → Nat) (h0 : Nat) (blocks : Int32) (limit : Int32) (firstStepA : Nat) (lastStepA : Nat) (firstPhiA : Nat) (lastPhiA : Nat) (endA : Nat) (endValueA : Nat) (firstA : Nat) (firstC : ClassId) (firstF : Nat → Int32) (secondA : Nat) (secondC : ClassId) (secondF : Nat → Int32) (dominatorA : Nat) (depthA : Nat) (waysBeginA : Nat) (waysA : Nat) (dominatorsA : Nat) (loopA : Nat) (phiCount : Int32) (phiGivesA : Nat) (phiNextA : Nat) (takesA : Nat) (stepsO : Nat) (p0 : Int32) (p1 : Int32) (sz : Nat) (hq1 : vp_in p0 60) : Met l yX1_leads (wz yX1_leads cX1_leads 3 (Option.some Jvm.ClassFile.FieldType.boolean)) ({ frames := 0, cells := 0, slots := 0, locals := 0 }) (va_Pc [.ref h0, .int p0, .int p1] (PRE zs dC dI [(h0, .inr (4, [.int blocks, .int limit, .ref stepsO, .ref firstStepA, .ref lastStepA, .ref firstPhiA, .ref lastPhiA, .ref endA, .ref endValueA, .ref firstA, .ref secondA, .ref dominatorA, .ref depthA, .ref waysBeginA, .ref waysA, .ref dominatorsA, .ref loopA, .int phiCount, .ref phiGivesA, .ref phiNextA, .ref takesA])), (firstA, .inl (firstC, 60, .inl firstF)), (secondA, .inl (secondC, 60, .inl secondF))] [(firstC, .int), (secondC, .int)] sz)) (va_Qi (fun (r : Int32) (_ : Unit) => r = (sX1_leads_r firstF secondF p0 p1)) (fun _ t => POST dC dI [(h0, .inr (4, [.int blocks, .int limit, .ref stepsO, .ref firstStepA, .ref lastStepA, .ref firstPhiA, .ref lastPhiA, .ref endA, .ref endValueA, .ref firstA, .ref secondA, .ref dominatorA, .ref depthA, .ref waysBeginA, .ref waysA, .ref dominatorsA, .ref loopA, .int phiCount, .ref phiGivesA, .ref phiNextA, .ref takesA])), (firstA, .inl (firstC, 60, .inl firstF)), (secondA, .inl (secondC, 60, .inl secondF))] [(firstC, .int), (secondC, .int)] (va_A [(h0, .inr (4, [.int blocks, .int limit, .ref stepsO, .ref firstStepA, .ref lastStepA, .ref firstPhiA, .ref lastPhiA, .ref endA, .ref endValueA, .ref firstA, .ref secondA, .ref dominatorA, .ref depthA, .ref waysBeginA, .ref waysA, .ref dominatorsA, .ref loopA, .int phiCount, .ref phiGivesA, .ref phiNextA, .ref takesA])), (firstA, .inl (firstC, 60, .inl firstF)), (secondA, .inl (secondC, 60, .inl secondF))] sz) t) (va_A [(h0, .inr (4, [.int blocks, .int limit, .ref stepsO, .ref firstStepA, .ref lastStepA, .ref firstPhiA, .ref lastPhiA, .ref endA, .ref endValueA, .ref firstA, .ref secondA, .ref dominatorA, .ref depthA, .ref waysBeginA, .ref waysA, .ref dominatorsA, .ref loopA, .int phiCount, .ref phiGivesA, .ref phiNextA, .ref takesA])), (firstA, .inl (firstC, 60, .inl firstF)), (secondA, .inl (secondC, 60, .inl secondF))] sz)) 0 0 (va_A [(h0, .inr (4, [.int blocks, .int limit, .ref stepsO, .ref firstStepA, .ref lastStepA, .ref firstPhiA, .ref lastPhiA, .ref endA, .ref endValueA, .ref firstA, .ref secondA, .ref dominatorA, .ref depthA, .ref waysBeginA, .ref waysA, .ref dominatorsA, .ref loopA, .int phiCount, .ref phiGivesA, .ref phiNextA, .ref takesA])), (firstA, .inl (firstC, 60, .inl firstF)), (secondA, .inl (secondC, 60, .inl secondF))] sz) := by
  refine Met.ofW (cc := cX1_leads) (maxL := 3) (ret := (Option.some Jvm.ClassFile.FieldType.boolean)) (by decide) rfl ?_
  intro p e s m args below meth c s₁ B hml hv
  obtain ⟨rfl, hsz, hP, hK, hD0, hE⟩ := hv
  have hx := B.exec
  have hb := B.bytes
  have hr := B.returns
  have hts0 := atoms_spec (ws := wz yX1_leads cX1_leads 3 (Option.some Jvm.ClassFile.FieldType.boolean)) B.pre
  have hts : ∀ w ∈ gw, w.before _ s = true := fun w h => hts0 w (List.mem_cons_of_mem _ h)
  have hown : s.vm.findClass RX1 = some m.cls := findClass_of_methodNamed B.named
  have hlocks := B.notSynchronized
  subst hsz
  have hD := hD0.self (sz := s.heap.size)
  generalize hAe : va_A [(h0, .inr (4, [.int blocks, .int limit, .ref stepsO, .ref firstStepA, .ref lastStepA, .ref firstPhiA, .ref lastPhiA, .ref endA, .ref endValueA, .ref firstA, .ref secondA, .ref dominatorA, .ref depthA, .ref waysBeginA, .ref waysA, .ref dominatorsA, .ref loopA, .int phiCount, .ref phiGivesA, .ref phiNextA, .ref takesA])), (firstA, .inl (firstC, 60, .inl firstF)), (secondA, .inl (secondC, 60, .inl secondF))] s.heap.size = A at hD hE ⊢
  have hA : ∀ q : Nat, s.heap.size ≤ q → A q := fun q h => by rw [← hAe]; exact Or.inr h
  have hS : va_S A s.heap s.heap [] := va_S.rf
  have hP : va_P (dC, dI) cls [(h0, .inr (4, [.int blocks, .int limit, .ref stepsO, .ref firstStepA, .ref lastStepA, .ref firstPhiA, .ref lastPhiA, .ref endA, .ref endValueA, .ref firstA, .ref secondA, .ref dominatorA, .ref depthA, .ref waysBeginA, .ref waysA, .ref dominatorsA, .ref loopA, .int phiCount, .ref phiGivesA, .ref phiNextA, .ref takesA])), (firstA, .inl (firstC, 60, .inl firstF)), (secondA, .inl (secondC, 60, .inl secondF))] s.heap := hP
  have hl := lv_entry ([.ref h0, .int p0, .int p1]) (n := 3) (Nat.le_of_ble_eq_true rfl)
  rw [lg_entry_eq]
  generalize (lg_sl ([.ref h0, .int p0, .int p1]) ++ List.replicate (3 - (lg_sl ([.ref h0, .int p0, .int p1])).length) Slot.unset).toArray = ls at hl ⊢
  have hl : lv_has ls 3 [(0, .ref h0), (1, .int p0), (2, .int p1)] := hl
  refine lv_aload_n hx hb dX1_leads_0 rfl (lv_at hl 0 rfl) ?_
  refine va_get (D := (dC, dI)) (ci := 4) (v := .ref firstA) (C := RX1) (T := TX1) (N := 21) hx hb hts i_X1 hown hK hP 0 rfl rfl 9 (by decide) (hts _ qw46) (fun _ h9 => h9) rfl dX1_leads_1 ?_
  refine lv_iload_n hx hb dX1_leads_4 rfl (lv_at hl 1 rfl) ?_
  refine va_iald hx hb hK hP 1 0 rfl rfl (hq1) dX1_leads_5 ?_
  refine lv_iload_n hx hb dX1_leads_6 rfl (lv_at hl 2 rfl) ?_
  by_cases hc1 : (firstF (Int32.toNatClampNeg p0)) = p1
  · refine lv_icmp_eq (tgt := 20) hx hb dX1_leads_7 (by decide) (fun _ => ?_) (fun c => absurd hc1 c)
    refine lv_iconst (v := 1) hx hb dX1_leads_20 (by decide) ?_
    refine lv_goto (tgt := 25) hx hb dX1_leads_21 (by decide) ?_
    have e_sX1_leads_r : sX1_leads_r firstF secondF p0 p1 = 1 := by unfold sX1_leads_r; rw [if_pos hc1]
    have hP9 : va_P (dC, dI) cls [(h0, .inr (4, [.int blocks, .int limit, .ref stepsO, .ref firstStepA, .ref lastStepA, .ref firstPhiA, .ref lastPhiA, .ref endA, .ref endValueA, .ref firstA, .ref secondA, .ref dominatorA, .ref depthA, .ref waysBeginA, .ref waysA, .ref dominatorsA, .ref loopA, .int phiCount, .ref phiGivesA, .ref phiNextA, .ref takesA])), (firstA, .inl (firstC, 60, .inl firstF)), (secondA, .inl (secondC, 60, .inl secondF))] s.heap := by exact hP.sub [0, 1, 2] rfl
    have hD9 : va_D A [(h0, .inr (4, [.int blocks, .int limit, .ref stepsO, .ref firstStepA, .ref lastStepA, .ref firstPhiA, .ref lastPhiA, .ref endA, .ref endValueA, .ref firstA, .ref secondA, .ref dominatorA, .ref depthA, .ref waysBeginA, .ref waysA, .ref dominatorsA, .ref loopA, .int phiCount, .ref phiGivesA, .ref phiNextA, .ref takesA])), (firstA, .inl (firstC, 60, .inl firstF)), (secondA, .inl (secondC, 60, .inl secondF))] := by exact hD.sub [0, 1, 2] (by decide) rfl
    have hK9 : va_K (dC, dI) cls [(firstC, .int), (secondC, .int)] s := hK.sub [0, 1] rfl
    refine W.widen (k := 0) (n := 0) (Nat.le_of_ble_eq_true rfl) (Nat.le_of_ble_eq_true rfl) ?_
    exact W.zret (v := 1) hx hb hr (by decide) (fun t ht hW => ⟨⟨1, (), rfl, e_sX1_leads_r.symm, ⟨by rw [ht]; exact hP9, va_K.moved hW.alike hK9, hD9⟩⟩, hS.F ht⟩) hS.2.2 dX1_leads_25
  · refine lv_icmp_eq (tgt := 20) hx hb dX1_leads_7 (by decide) (fun c => absurd c hc1) (fun _ => ?_)
    refine lv_aload_n hx hb dX1_leads_10 rfl (lv_at hl 0 rfl) ?_
    refine va_get (D := (dC, dI)) (ci := 4) (v := .ref secondA) (C := RX1) (T := TX1) (N := 21) hx hb hts i_X1 hown hK hP 0 rfl rfl 10 (by decide) (hts _ qw47) (fun _ h9 => h9) rfl dX1_leads_11 ?_
    refine lv_iload_n hx hb dX1_leads_14 rfl (lv_at hl 1 rfl) ?_
    refine va_iald hx hb hK hP 2 1 rfl rfl (hq1) dX1_leads_15 ?_
    refine lv_iload_n hx hb dX1_leads_16 rfl (lv_at hl 2 rfl) ?_
    by_cases hc2 : (secondF (Int32.toNatClampNeg p0)) = p1
    · refine lv_icmp_ne (tgt := 24) hx hb dX1_leads_17 (by decide) (fun c => absurd hc2 c) (fun _ => ?_)
      refine lv_iconst (v := 1) hx hb dX1_leads_20 (by decide) ?_
      refine lv_goto (tgt := 25) hx hb dX1_leads_21 (by decide) ?_
      have e_sX1_leads_r : sX1_leads_r firstF secondF p0 p1 = 1 := by unfold sX1_leads_r; rw [if_neg hc1, if_pos hc2]
      have hP9 : va_P (dC, dI) cls [(h0, .inr (4, [.int blocks, .int limit, .ref stepsO, .ref firstStepA, .ref lastStepA, .ref firstPhiA, .ref lastPhiA, .ref endA, .ref endValueA, .ref firstA, .ref secondA, .ref dominatorA, .ref depthA, .ref waysBeginA, .ref waysA, .ref dominatorsA, .ref loopA, .int phiCount, .ref phiGivesA, .ref phiNextA, .ref takesA])), (firstA, .inl (firstC, 60, .inl firstF)), (secondA, .inl (secondC, 60, .inl secondF))] s.heap := by exact hP.sub [0, 1, 2] rfl
      have hD9 : va_D A [(h0, .inr (4, [.int blocks, .int limit, .ref stepsO, .ref firstStepA, .ref lastStepA, .ref firstPhiA, .ref lastPhiA, .ref endA, .ref endValueA, .ref firstA, .ref secondA, .ref dominatorA, .ref depthA, .ref waysBeginA, .ref waysA, .ref dominatorsA, .ref loopA, .int phiCount, .ref phiGivesA, .ref phiNextA, .ref takesA])), (firstA, .inl (firstC, 60, .inl firstF)), (secondA, .inl (secondC, 60, .inl secondF))] := by exact hD.sub [0, 1, 2] (by decide) rfl
      have hK9 : va_K (dC, dI) cls [(firstC, .int), (secondC, .int)] s := hK.sub [0, 1] rfl
      refine W.widen (k := 0) (n := 0) (Nat.le_of_ble_eq_true rfl) (Nat.le_of_ble_eq_true rfl) ?_
      exact W.zret (v := 1) hx hb hr (by decide) (fun t ht hW => ⟨⟨1, (), rfl, e_sX1_leads_r.symm, ⟨by rw [ht]; exact hP9, va_K.moved hW.alike hK9, hD9⟩⟩, hS.F ht⟩) hS.2.2 dX1_leads_25
    · refine lv_icmp_ne (tgt := 24) hx hb dX1_leads_17 (by decide) (fun _ => ?_) (fun c => absurd c hc2)
      refine lv_iconst (v := 0) hx hb dX1_leads_24 (by decide) ?_
      have e_sX1_leads_r : sX1_leads_r firstF secondF p0 p1 = 0 := by unfold sX1_leads_r; rw [if_neg hc1, if_neg hc2]
      have hP9 : va_P (dC, dI) cls [(h0, .inr (4, [.int blocks, .int limit, .ref stepsO, .ref firstStepA, .ref lastStepA, .ref firstPhiA, .ref lastPhiA, .ref endA, .ref endValueA, .ref firstA, .ref secondA, .ref dominatorA, .ref depthA, .ref waysBeginA, .ref waysA, .ref dominatorsA, .ref loopA, .int phiCount, .ref phiGivesA, .ref phiNextA, .ref takesA])), (firstA, .inl (firstC, 60, .inl firstF)), (secondA, .inl (secondC, 60, .inl secondF))] s.heap := by exact hP.sub [0, 1, 2] rfl
      have hD9 : va_D A [(h0, .inr (4, [.int blocks, .int limit, .ref stepsO, .ref firstStepA, .ref lastStepA, .ref firstPhiA, .ref lastPhiA, .ref endA, .ref endValueA, .ref firstA, .ref secondA, .ref dominatorA, .ref depthA, .ref waysBeginA, .ref waysA, .ref dominatorsA, .ref loopA, .int phiCount, .ref phiGivesA, .ref phiNextA, .ref takesA])), (firstA, .inl (firstC, 60, .inl firstF)), (secondA, .inl (secondC, 60, .inl secondF))] := by exact hD.sub [0, 1, 2] (by decide) rfl
      have hK9 : va_K (dC, dI) cls [(firstC, .int), (secondC, .int)] s := hK.sub [0, 1] rfl
      refine W.widen (k := 0) (n := 0) (Nat.le_of_ble_eq_true rfl) (Nat.le_of_ble_eq_true rfl) ?_
      exact W.zret (v := 0) hx hb hr (by decide) (fun t ht hW => ⟨⟨0, (), rfl, e_sX1_leads_r.symm, ⟨by rw [ht]; exact hP9, va_K.moved hW.alike hK9, hD9⟩⟩, hS.F ht⟩) hS.2.2 dX1_leads_25
def sX1_link_2 (firstStepF : Nat → Int32) (lastStepF : Nat → Int32) (steps_nextF : Nat → Int32) (p0 : Int32) (p1 : Int32) : Nat → Int32 := (if 0 ≤ (firstStepF (Int32.toNatClampNeg p0)) then (upd (upd steps_nextF (Int32.toNatClampNeg p1) (-1)) (Int32.toNatClampNeg (lastStepF (Int32.toNatClampNeg p0))) p1) else (upd steps_nextF (Int32.toNatClampNeg p1) (-1)))
def sX1_link_3 (firstStepF : Nat → Int32) (p0 : Int32) (p1 : Int32) : Nat → Int32 := (if 0 ≤ (firstStepF (Int32.toNatClampNeg p0)) then firstStepF else (upd firstStepF (Int32.toNatClampNeg p0) p1))
set_option maxHeartbeats 4000000 in
set_option maxRecDepth 100000 in
theorem kX1_link {zs : Nat × Nat} (l : Launch) (dC : Nat → ClassId) (dI : Nat → Nat → Nat) (h0 : Nat) (blocks : Int32) (limit : Int32) (firstStepA : Nat) (firstStepC : ClassId) (firstStepF : Nat → Int32) (lastStepA : Nat) (lastStepC : ClassId) (lastStepF : Nat → Int32) (firstPhiA : Nat) (lastPhiA : Nat) (endA : Nat) (endValueA : Nat) (firstA : Nat) (secondA : Nat) (dominatorA : Nat) (depthA : Nat) (waysBeginA : Nat) (waysA : Nat) (dominatorsA : Nat) (loopA : Nat) (phiCount : Int32) (phiGivesA : Nat) (phiNextA : Nat) (takesA : Nat) (stepsO : Nat) (steps_count : Int32) (steps_kindA : Nat) (steps_givesA : Nat) (steps_leftA : Nat) (steps_rightA : Nat) (steps_nextA : Nat) (steps_nextN : Nat) (steps_nextC : ClassId) (steps_nextF : Nat → Int32) (p0 : Int32) (p1 : Int32) (sz : Nat) (hq1 : vp_in p1 steps_nextN) (hq2 : vp_in p0 60) (hq3 : 0 ≤ (firstStepF (Int32.toNatClampNeg p0)) → vp_in (lastStepF (Int32.toNatClampNeg p0)) steps_nextN) : Met l yX1_link (wz yX1_link cX1_link 3 (Option.none : Option Jvm.ClassFile.FieldType)) ({ frames := 0, cells := 0, slots := 0, locals := 0 }) (va_Pc [.ref h0, .int p0, .int p1] (PRE zs dC dI [(h0, .inr (4, [.int blocks, .int limit, .ref stepsO, .ref firstStepA, .ref lastStepA, .ref firstPhiA, .ref lastPhiA, .ref endA, .ref endValueA, .ref firstA, .ref secondA, .ref dominatorA, .ref depthA, .ref waysBeginA, .ref waysA, .ref dominatorsA, .ref loopA, .int phiCount, .ref phiGivesA, .ref phiNextA, .ref takesA])), (stepsO, .inr (3, [.int steps_count, .ref steps_kindA, .ref steps_givesA, .ref steps_leftA, .ref steps_rightA, .ref steps_nextA])), (steps_nextA, .inl (steps_nextC, steps_nextN, .inl steps_nextF)), (firstStepA, .inl (firstStepC, 60, .inl firstStepF)), (lastStepA, .inl (lastStepC, 60, .inl lastStepF))] [(steps_nextC, .int), (firstStepC, .int), (lastStepC, .int)] sz)) (va_Qv (fun (_ : Unit) => True) (fun _ t => POST dC dI [(h0, .inr (4, [.int blocks, .int limit, .ref stepsO, .ref firstStepA, .ref lastStepA, .ref firstPhiA, .ref lastPhiA, .ref endA, .ref endValueA, .ref firstA, .ref secondA, .ref dominatorA, .ref depthA, .ref waysBeginA, .ref waysA, .ref dominatorsA, .ref loopA, .int phiCount, .ref phiGivesA, .ref phiNextA, .ref takesA])), (stepsO, .inr (3, [.int steps_count, .ref steps_kindA, .ref steps_givesA, .ref steps_leftA, .ref steps_rightA, .ref steps_nextA])), (steps_nextA, .inl (steps_nextC, steps_nextN, .inl (sX1_link_2 firstStepF lastStepF steps_nextF p0 p1))), (firstStepA, .inl (firstStepC, 60, .inl (sX1_link_3 firstStepF p0 p1))), (lastStepA, .inl (lastStepC, 60, .inl (upd lastStepF (Int32.toNatClampNeg p0) p1)))] [(steps_nextC, .int), (firstStepC, .int), (lastStepC, .int)] (va_A [(h0, .inr (4, [.int blocks, .int limit, .ref stepsO, .ref firstStepA, .ref lastStepA, .ref firstPhiA, .ref lastPhiA, .ref endA, .ref endValueA, .ref firstA, .ref secondA, .ref dominatorA, .ref depthA, .ref waysBeginA, .ref waysA, .ref dominatorsA, .ref loopA, .int phiCount, .ref phiGivesA, .ref phiNextA, .ref takesA])), (stepsO, .inr (3, [.int steps_count, .ref steps_kindA, .ref steps_givesA, .ref steps_leftA, .ref steps_rightA, .ref steps_nextA])), (steps_nextA, .inl (steps_nextC, steps_nextN, .inl steps_nextF)), (firstStepA, .inl (firstStepC, 60, .inl firstStepF)), (lastStepA, .inl (lastStepC, 60, .inl lastStepF))] sz) t) (va_A [(h0, .inr (4, [.int blocks, .int limit, .ref stepsO, .ref firstStepA, .ref lastStepA, .ref firstPhiA, .ref lastPhiA, .ref endA, .ref endValueA, .ref firstA, .ref secondA, .ref dominatorA, .ref depthA, .ref waysBeginA, .ref waysA, .ref dominatorsA, .ref loopA, .int phiCount, .ref phiGivesA, .ref phiNextA, .ref takesA])), (stepsO, .inr (3, [.int steps_count, .ref steps_kindA, .ref steps_givesA, .ref steps_leftA, .ref steps_rightA, .ref steps_nextA])), (steps_nextA, .inl (steps_nextC, steps_nextN, .inl steps_nextF)), (firstStepA, .inl (firstStepC, 60, .inl firstStepF)), (lastStepA, .inl (lastStepC, 60, .inl lastStepF))] sz)) 0 0 (va_A [(h0, .inr (4, [.int blocks, .int limit, .ref stepsO, .ref firstStepA, .ref lastStepA, .ref firstPhiA, .ref lastPhiA, .ref endA, .ref endValueA, .ref firstA, .ref secondA, .ref dominatorA, .ref depthA, .ref waysBeginA, .ref waysA, .ref dominatorsA, .ref loopA, .int phiCount, .ref phiGivesA, .ref phiNextA, .ref takesA])), (stepsO, .inr (3, [.int steps_count, .ref steps_kindA, .ref steps_givesA, .ref steps_leftA, .ref steps_rightA, .ref steps_nextA])), (steps_nextA, .inl (steps_nextC, steps_nextN, .inl steps_nextF)), (firstStepA, .inl (firstStepC, 60, .inl firstStepF)), (lastStepA, .inl (lastStepC, 60, .inl lastStepF))] sz) := by
  refine Met.ofW (cc := cX1_link) (maxL := 3) (ret := (Option.none : Option Jvm.ClassFile.FieldType)) (by decide) rfl ?_
  intro p e s m args below meth c s₁ B hml hv
  obtain ⟨rfl, hsz, hP, hK, hD0, hE⟩ := hv
  have hx := B.exec
  have hb := B.bytes
  have hr := B.returns
  have hts0 := atoms_spec (ws := wz yX1_link cX1_link 3 (Option.none : Option Jvm.ClassFile.FieldType)) B.pre
  have hts : ∀ w ∈ gw, w.before _ s = true := fun w h => hts0 w (List.mem_cons_of_mem _ h)
  have hown : s.vm.findClass RX1 = some m.cls := findClass_of_methodNamed B.named
  have hlocks := B.notSynchronized
  subst hsz
  have hD := hD0.self (sz := s.heap.size)
  generalize hAe : va_A [(h0, .inr (4, [.int blocks, .int limit, .ref stepsO, .ref firstStepA, .ref lastStepA, .ref firstPhiA, .ref lastPhiA, .ref endA, .ref endValueA, .ref firstA, .ref secondA, .ref dominatorA, .ref depthA, .ref waysBeginA, .ref waysA, .ref dominatorsA, .ref loopA, .int phiCount, .ref phiGivesA, .ref phiNextA, .ref takesA])), (stepsO, .inr (3, [.int steps_count, .ref steps_kindA, .ref steps_givesA, .ref steps_leftA, .ref steps_rightA, .ref steps_nextA])), (steps_nextA, .inl (steps_nextC, steps_nextN, .inl steps_nextF)), (firstStepA, .inl (firstStepC, 60, .inl firstStepF)), (lastStepA, .inl (lastStepC, 60, .inl lastStepF))] s.heap.size = A at hD hE ⊢
  have hA : ∀ q : Nat, s.heap.size ≤ q → A q := fun q h => by rw [← hAe]; exact Or.inr h
  have hS : va_S A s.heap s.heap [] := va_S.rf
  have hP : va_P (dC, dI) cls [(h0, .inr (4, [.int blocks, .int limit, .ref stepsO, .ref firstStepA, .ref lastStepA, .ref firstPhiA, .ref lastPhiA, .ref endA, .ref endValueA, .ref firstA, .ref secondA, .ref dominatorA, .ref depthA, .ref waysBeginA, .ref waysA, .ref dominatorsA, .ref loopA, .int phiCount, .ref phiGivesA, .ref phiNextA, .ref takesA])), (stepsO, .inr (3, [.int steps_count, .ref steps_kindA, .ref steps_givesA, .ref steps_leftA, .ref steps_rightA, .ref steps_nextA])), (steps_nextA, .inl (steps_nextC, steps_nextN, .inl steps_nextF)), (firstStepA, .inl (firstStepC, 60, .inl firstStepF)), (lastStepA, .inl (lastStepC, 60, .inl lastStepF))] s.heap := hP
  have hl := lv_entry ([.ref h0, .int p0, .int p1]) (n := 3) (Nat.le_of_ble_eq_true rfl)
  rw [lg_entry_eq]
  generalize (lg_sl ([.ref h0, .int p0, .int p1]) ++ List.replicate (3 - (lg_sl ([.ref h0, .int p0, .int p1])).length) Slot.unset).toArray = ls at hl ⊢
  have hl : lv_has ls 3 [(0, .ref h0), (1, .int p0), (2, .int p1)] := hl
  refine lv_aload_n hx hb dX1_link_0 rfl (lv_at hl 0 rfl) ?_
  refine va_get (D := (dC, dI)) (ci := 4) (v := .ref stepsO) (C := RX1) (T := TX1) (N := 21) hx hb hts i_X1 hown hK hP 0 rfl rfl 2 (by decide) (hts _ qw39) (fun _ h9 => h9) rfl dX1_link_1 ?_
  refine va_get (D := (dC, dI)) (ci := 3) (v := .ref steps_nextA) (C := RX9) (T := TX9) (N := 6) hx hb hts i_X9 hown hK hP 1 rfl rfl 5 (by decide) (hts _ qw229) (fun _ h9 => h9) rfl dX1_link_4 ?_
  refine lv_iload_n hx hb dX1_link_7 rfl (lv_at hl 2 rfl) ?_
  refine lv_iconst (v := (-1)) hx hb dX1_link_8 (by decide) ?_
  refine va_iast hx hb hK hP hD hS 2 0 rfl rfl (hq1) dX1_link_9 (fun H locs hP hD hS => ?_)
  have hP : va_P (dC, dI) cls [(h0, .inr (4, [.int blocks, .int limit, .ref stepsO, .ref firstStepA, .ref lastStepA, .ref firstPhiA, .ref lastPhiA, .ref endA, .ref endValueA, .ref firstA, .ref secondA, .ref dominatorA, .ref depthA, .ref waysBeginA, .ref waysA, .ref dominatorsA, .ref loopA, .int phiCount, .ref phiGivesA, .ref phiNextA, .ref takesA])), (stepsO, .inr (3, [.int steps_count, .ref steps_kindA, .ref steps_givesA, .ref steps_leftA, .ref steps_rightA, .ref steps_nextA])), (steps_nextA, .inl (steps_nextC, steps_nextN, .inl (upd steps_nextF (Int32.toNatClampNeg p1) (-1)))), (firstStepA, .inl (firstStepC, 60, .inl firstStepF)), (lastStepA, .inl (lastStepC, 60, .inl lastStepF))] H := hP
  have hD : va_D A [(h0, .inr (4, [.int blocks, .int limit, .ref stepsO, .ref firstStepA, .ref lastStepA, .ref firstPhiA, .ref lastPhiA, .ref endA, .ref endValueA, .ref firstA, .ref secondA, .ref dominatorA, .ref depthA, .ref waysBeginA, .ref waysA, .ref dominatorsA, .ref loopA, .int phiCount, .ref phiGivesA, .ref phiNextA, .ref takesA])), (stepsO, .inr (3, [.int steps_count, .ref steps_kindA, .ref steps_givesA, .ref steps_leftA, .ref steps_rightA, .ref steps_nextA])), (steps_nextA, .inl (steps_nextC, steps_nextN, .inl (upd steps_nextF (Int32.toNatClampNeg p1) (-1)))), (firstStepA, .inl (firstStepC, 60, .inl firstStepF)), (lastStepA, .inl (lastStepC, 60, .inl lastStepF))] := hD
  refine lv_aload_n hx hb dX1_link_10 rfl (lv_at hl 0 rfl) ?_
  refine va_get (D := (dC, dI)) (ci := 4) (v := .ref firstStepA) (C := RX1) (T := TX1) (N := 21) hx hb hts i_X1 hown hK hP 0 rfl rfl 3 (by decide) (hts _ qw40) (fun _ h9 => h9) rfl dX1_link_11 ?_
  refine lv_iload_n hx hb dX1_link_14 rfl (lv_at hl 1 rfl) ?_
  refine va_iald hx hb hK hP 3 1 rfl rfl (hq2) dX1_link_15 ?_
  by_cases hc1 : 0 ≤ (firstStepF (Int32.toNatClampNeg p0))
  · refine lv_if_ge (tgt := 29) hx hb dX1_link_16 (by decide) (fun _ => ?_) (fun c => absurd hc1 c)
    refine lv_aload_n hx hb dX1_link_29 rfl (lv_at hl 0 rfl) ?_
    refine va_get (D := (dC, dI)) (ci := 4) (v := .ref stepsO) (C := RX1) (T := TX1) (N := 21) hx hb hts i_X1 hown hK hP 0 rfl rfl 2 (by decide) (hts _ qw39) (fun _ h9 => h9) rfl dX1_link_30 ?_
    refine va_get (D := (dC, dI)) (ci := 3) (v := .ref steps_nextA) (C := RX9) (T := TX9) (N := 6) hx hb hts i_X9 hown hK hP 1 rfl rfl 5 (by decide) (hts _ qw229) (fun _ h9 => h9) rfl dX1_link_33 ?_
    refine lv_aload_n hx hb dX1_link_36 rfl (lv_at hl 0 rfl) ?_
    refine va_get (D := (dC, dI)) (ci := 4) (v := .ref lastStepA) (C := RX1) (T := TX1) (N := 21) hx hb hts i_X1 hown hK hP 0 rfl rfl 4 (by decide) (hts _ qw41) (fun _ h9 => h9) rfl dX1_link_37 ?_
    refine lv_iload_n hx hb dX1_link_40 rfl (lv_at hl 1 rfl) ?_
    refine va_iald hx hb hK hP 4 2 rfl rfl (hq2) dX1_link_41 ?_
    refine lv_iload_n hx hb dX1_link_42 rfl (lv_at hl 2 rfl) ?_
    refine va_iast hx hb hK hP hD hS 2 0 rfl rfl (hq3 hc1) dX1_link_43 (fun H locs hP hD hS => ?_)
    have hP : va_P (dC, dI) cls [(h0, .inr (4, [.int blocks, .int limit, .ref stepsO, .ref firstStepA, .ref lastStepA, .ref firstPhiA, .ref lastPhiA, .ref endA, .ref endValueA, .ref firstA, .ref secondA, .ref dominatorA, .ref depthA, .ref waysBeginA, .ref waysA, .ref dominatorsA, .ref loopA, .int phiCount, .ref phiGivesA, .ref phiNextA, .ref takesA])), (stepsO, .inr (3, [.int steps_count, .ref steps_kindA, .ref steps_givesA, .ref steps_leftA, .ref steps_rightA, .ref steps_nextA])), (steps_nextA, .inl (steps_nextC, steps_nextN, .inl (upd (upd steps_nextF (Int32.toNatClampNeg p1) (-1)) (Int32.toNatClampNeg (lastStepF (Int32.toNatClampNeg p0))) p1))), (firstStepA, .inl (firstStepC, 60, .inl firstStepF)), (lastStepA, .inl (lastStepC, 60, .inl lastStepF))] H := hP
    have hD : va_D A [(h0, .inr (4, [.int blocks, .int limit, .ref stepsO, .ref firstStepA, .ref lastStepA, .ref firstPhiA, .ref lastPhiA, .ref endA, .ref endValueA, .ref firstA, .ref secondA, .ref dominatorA, .ref depthA, .ref waysBeginA, .ref waysA, .ref dominatorsA, .ref loopA, .int phiCount, .ref phiGivesA, .ref phiNextA, .ref takesA])), (stepsO, .inr (3, [.int steps_count, .ref steps_kindA, .ref steps_givesA, .ref steps_leftA, .ref steps_rightA, .ref steps_nextA])), (steps_nextA, .inl (steps_nextC, steps_nextN, .inl (upd (upd steps_nextF (Int32.toNatClampNeg p1) (-1)) (Int32.toNatClampNeg (lastStepF (Int32.toNatClampNeg p0))) p1))), (firstStepA, .inl (firstStepC, 60, .inl firstStepF)), (lastStepA, .inl (lastStepC, 60, .inl lastStepF))] := hD
    refine lv_aload_n hx hb dX1_link_44 rfl (lv_at hl 0 rfl) ?_
    refine va_get (D := (dC, dI)) (ci := 4) (v := .ref lastStepA) (C := RX1) (T := TX1) (N := 21) hx hb hts i_X1 hown hK hP 0 rfl rfl 4 (by decide) (hts _ qw41) (fun _ h9 => h9) rfl dX1_link_45 ?_
    refine lv_iload_n hx hb dX1_link_48 rfl (lv_at hl 1 rfl) ?_
    refine lv_iload_n hx hb dX1_link_49 rfl (lv_at hl 2 rfl) ?_
    refine va_iast hx hb hK hP hD hS 4 2 rfl rfl (hq2) dX1_link_50 (fun H locs hP hD hS => ?_)
    have hP : va_P (dC, dI) cls [(h0, .inr (4, [.int blocks, .int limit, .ref stepsO, .ref firstStepA, .ref lastStepA, .ref firstPhiA, .ref lastPhiA, .ref endA, .ref endValueA, .ref firstA, .ref secondA, .ref dominatorA, .ref depthA, .ref waysBeginA, .ref waysA, .ref dominatorsA, .ref loopA, .int phiCount, .ref phiGivesA, .ref phiNextA, .ref takesA])), (stepsO, .inr (3, [.int steps_count, .ref steps_kindA, .ref steps_givesA, .ref steps_leftA, .ref steps_rightA, .ref steps_nextA])), (steps_nextA, .inl (steps_nextC, steps_nextN, .inl (upd (upd steps_nextF (Int32.toNatClampNeg p1) (-1)) (Int32.toNatClampNeg (lastStepF (Int32.toNatClampNeg p0))) p1))), (firstStepA, .inl (firstStepC, 60, .inl firstStepF)), (lastStepA, .inl (lastStepC, 60, .inl (upd lastStepF (Int32.toNatClampNeg p0) p1)))] H := hP
    have hD : va_D A [(h0, .inr (4, [.int blocks, .int limit, .ref stepsO, .ref firstStepA, .ref lastStepA, .ref firstPhiA, .ref lastPhiA, .ref endA, .ref endValueA, .ref firstA, .ref secondA, .ref dominatorA, .ref depthA, .ref waysBeginA, .ref waysA, .ref dominatorsA, .ref loopA, .int phiCount, .ref phiGivesA, .ref phiNextA, .ref takesA])), (stepsO, .inr (3, [.int steps_count, .ref steps_kindA, .ref steps_givesA, .ref steps_leftA, .ref steps_rightA, .ref steps_nextA])), (steps_nextA, .inl (steps_nextC, steps_nextN, .inl (upd (upd steps_nextF (Int32.toNatClampNeg p1) (-1)) (Int32.toNatClampNeg (lastStepF (Int32.toNatClampNeg p0))) p1))), (firstStepA, .inl (firstStepC, 60, .inl firstStepF)), (lastStepA, .inl (lastStepC, 60, .inl (upd lastStepF (Int32.toNatClampNeg p0) p1)))] := hD
    have e_sX1_link_2 : sX1_link_2 firstStepF lastStepF steps_nextF p0 p1 = (upd (upd steps_nextF (Int32.toNatClampNeg p1) (-1)) (Int32.toNatClampNeg (lastStepF (Int32.toNatClampNeg p0))) p1) := by unfold sX1_link_2; rw [if_pos hc1]
    have e_sX1_link_3 : sX1_link_3 firstStepF p0 p1 = firstStepF := by unfold sX1_link_3; rw [if_pos hc1]
    have hP9 : va_P (dC, dI) cls [(h0, .inr (4, [.int blocks, .int limit, .ref stepsO, .ref firstStepA, .ref lastStepA, .ref firstPhiA, .ref lastPhiA, .ref endA, .ref endValueA, .ref firstA, .ref secondA, .ref dominatorA, .ref depthA, .ref waysBeginA, .ref waysA, .ref dominatorsA, .ref loopA, .int phiCount, .ref phiGivesA, .ref phiNextA, .ref takesA])), (stepsO, .inr (3, [.int steps_count, .ref steps_kindA, .ref steps_givesA, .ref steps_leftA, .ref steps_rightA, .ref steps_nextA])), (steps_nextA, .inl (steps_nextC, steps_nextN, .inl (sX1_link_2 firstStepF lastStepF steps_nextF p0 p1))), (firstStepA, .inl (firstStepC, 60, .inl (sX1_link_3 firstStepF p0 p1))), (lastStepA, .inl (lastStepC, 60, .inl (upd lastStepF (Int32.toNatClampNeg p0) p1)))] H := by rw [e_sX1_link_2, e_sX1_link_3]; exact hP.sub [0, 1, 2, 3, 4] rfl
    have hD9 : va_D A [(h0, .inr (4, [.int blocks, .int limit, .ref stepsO, .ref firstStepA, .ref lastStepA, .ref firstPhiA, .ref lastPhiA, .ref endA, .ref endValueA, .ref firstA, .ref secondA, .ref dominatorA, .ref depthA, .ref waysBeginA, .ref waysA, .ref dominatorsA, .ref loopA, .int phiCount, .ref phiGivesA, .ref phiNextA, .ref takesA])), (stepsO, .inr (3, [.int steps_count, .ref steps_kindA, .ref steps_givesA, .ref steps_leftA, .ref steps_rightA, .ref steps_nextA])), (steps_nextA, .inl (steps_nextC, steps_nextN, .inl (sX1_link_2 firstStepF lastStepF steps_nextF p0 p1))), (firstStepA, .inl (firstStepC, 60, .inl (sX1_link_3 firstStepF p0 p1))), (lastStepA, .inl (lastStepC, 60, .inl (upd lastStepF (Int32.toNatClampNeg p0) p1)))] := by rw [e_sX1_link_2, e_sX1_link_3]; exact hD.sub [0, 1, 2, 3, 4] (by decide) rfl
    have hK9 : va_K (dC, dI) cls [(steps_nextC, .int), (firstStepC, .int), (lastStepC, .int)] s := hK.sub [0, 1, 2] rfl
    refine W.widen (k := 0) (n := 0) (Nat.le_of_ble_eq_true rfl) (Nat.le_of_ble_eq_true rfl) ?_
    exact W.vret hx hb hr (fun t ht hW => ⟨⟨(), rfl, trivial, ⟨by rw [ht]; exact hP9, va_K.moved hW.alike hK9, hD9⟩⟩, hS.F ht⟩) hS.2.2 dX1_link_51
  · refine lv_if_ge (tgt := 29) hx hb dX1_link_16 (by decide) (fun c => absurd c hc1) (fun _ => ?_)
    refine lv_aload_n hx hb dX1_link_19 rfl (lv_at hl 0 rfl) ?_
    refine va_get (D := (dC, dI)) (ci := 4) (v := .ref firstStepA) (C := RX1) (T := TX1) (N := 21) hx hb hts i_X1 hown hK hP 0 rfl rfl 3 (by decide) (hts _ qw40) (fun _ h9 => h9) rfl dX1_link_20 ?_
    refine lv_iload_n hx hb dX1_link_23 rfl (lv_at hl 1 rfl) ?_
    refine lv_iload_n hx hb dX1_link_24 rfl (lv_at hl 2 rfl) ?_
    refine va_iast hx hb hK hP hD hS 3 1 rfl rfl (hq2) dX1_link_25 (fun H locs hP hD hS => ?_)
    have hP : va_P (dC, dI) cls [(h0, .inr (4, [.int blocks, .int limit, .ref stepsO, .ref firstStepA, .ref lastStepA, .ref firstPhiA, .ref lastPhiA, .ref endA, .ref endValueA, .ref firstA, .ref secondA, .ref dominatorA, .ref depthA, .ref waysBeginA, .ref waysA, .ref dominatorsA, .ref loopA, .int phiCount, .ref phiGivesA, .ref phiNextA, .ref takesA])), (stepsO, .inr (3, [.int steps_count, .ref steps_kindA, .ref steps_givesA, .ref steps_leftA, .ref steps_rightA, .ref steps_nextA])), (steps_nextA, .inl (steps_nextC, steps_nextN, .inl (upd steps_nextF (Int32.toNatClampNeg p1) (-1)))), (firstStepA, .inl (firstStepC, 60, .inl (upd firstStepF (Int32.toNatClampNeg p0) p1))), (lastStepA, .inl (lastStepC, 60, .inl lastStepF))] H := hP
    have hD : va_D A [(h0, .inr (4, [.int blocks, .int limit, .ref stepsO, .ref firstStepA, .ref lastStepA, .ref firstPhiA, .ref lastPhiA, .ref endA, .ref endValueA, .ref firstA, .ref secondA, .ref dominatorA, .ref depthA, .ref waysBeginA, .ref waysA, .ref dominatorsA, .ref loopA, .int phiCount, .ref phiGivesA, .ref phiNextA, .ref takesA])), (stepsO, .inr (3, [.int steps_count, .ref steps_kindA, .ref steps_givesA, .ref steps_leftA, .ref steps_rightA, .ref steps_nextA])), (steps_nextA, .inl (steps_nextC, steps_nextN, .inl (upd steps_nextF (Int32.toNatClampNeg p1) (-1)))), (firstStepA, .inl (firstStepC, 60, .inl (upd firstStepF (Int32.toNatClampNeg p0) p1))), (lastStepA, .inl (lastStepC, 60, .inl lastStepF))] := hD
    refine lv_goto (tgt := 44) hx hb dX1_link_26 (by decide) ?_
    refine lv_aload_n hx hb dX1_link_44 rfl (lv_at hl 0 rfl) ?_
    refine va_get (D := (dC, dI)) (ci := 4) (v := .ref lastStepA) (C := RX1) (T := TX1) (N := 21) hx hb hts i_X1 hown hK hP 0 rfl rfl 4 (by decide) (hts _ qw41) (fun _ h9 => h9) rfl dX1_link_45 ?_
    refine lv_iload_n hx hb dX1_link_48 rfl (lv_at hl 1 rfl) ?_
    refine lv_iload_n hx hb dX1_link_49 rfl (lv_at hl 2 rfl) ?_
    refine va_iast hx hb hK hP hD hS 4 2 rfl rfl (hq2) dX1_link_50 (fun H locs hP hD hS => ?_)
    have hP : va_P (dC, dI) cls [(h0, .inr (4, [.int blocks, .int limit, .ref stepsO, .ref firstStepA, .ref lastStepA, .ref firstPhiA, .ref lastPhiA, .ref endA, .ref endValueA, .ref firstA, .ref secondA, .ref dominatorA, .ref depthA, .ref waysBeginA, .ref waysA, .ref dominatorsA, .ref loopA, .int phiCount, .ref phiGivesA, .ref phiNextA, .ref takesA])), (stepsO, .inr (3, [.int steps_count, .ref steps_kindA, .ref steps_givesA, .ref steps_leftA, .ref steps_rightA, .ref steps_nextA])), (steps_nextA, .inl (steps_nextC, steps_nextN, .inl (upd steps_nextF (Int32.toNatClampNeg p1) (-1)))), (firstStepA, .inl (firstStepC, 60, .inl (upd firstStepF (Int32.toNatClampNeg p0) p1))), (lastStepA, .inl (lastStepC, 60, .inl (upd lastStepF (Int32.toNatClampNeg p0) p1)))] H := hP
    have hD : va_D A [(h0, .inr (4, [.int blocks, .int limit, .ref stepsO, .ref firstStepA, .ref lastStepA, .ref firstPhiA, .ref lastPhiA, .ref endA, .ref endValueA, .ref firstA, .ref secondA, .ref dominatorA, .ref depthA, .ref waysBeginA, .ref waysA, .ref dominatorsA, .ref loopA, .int phiCount, .ref phiGivesA, .ref phiNextA, .ref takesA])), (stepsO, .inr (3, [.int steps_count, .ref steps_kindA, .ref steps_givesA, .ref steps_leftA, .ref steps_rightA, .ref steps_nextA])), (steps_nextA, .inl (steps_nextC, steps_nextN, .inl (upd steps_nextF (Int32.toNatClampNeg p1) (-1)))), (firstStepA, .inl (firstStepC, 60, .inl (upd firstStepF (Int32.toNatClampNeg p0) p1))), (lastStepA, .inl (lastStepC, 60, .inl (upd lastStepF (Int32.toNatClampNeg p0) p1)))] := hD
    have e_sX1_link_2 : sX1_link_2 firstStepF lastStepF steps_nextF p0 p1 = (upd steps_nextF (Int32.toNatClampNeg p1) (-1)) := by unfold sX1_link_2; rw [if_neg hc1]
    have e_sX1_link_3 : sX1_link_3 firstStepF p0 p1 = (upd firstStepF (Int32.toNatClampNeg p0) p1) := by unfold sX1_link_3; rw [if_neg hc1]
    have hP9 : va_P (dC, dI) cls [(h0, .inr (4, [.int blocks, .int limit, .ref stepsO, .ref firstStepA, .ref lastStepA, .ref firstPhiA, .ref lastPhiA, .ref endA, .ref endValueA, .ref firstA, .ref secondA, .ref dominatorA, .ref depthA, .ref waysBeginA, .ref waysA, .ref dominatorsA, .ref loopA, .int phiCount, .ref phiGivesA, .ref phiNextA, .ref takesA])), (stepsO, .inr (3, [.int steps_count, .ref steps_kindA, .ref steps_givesA, .ref steps_leftA, .ref steps_rightA, .ref steps_nextA])), (steps_nextA, .inl (steps_nextC, steps_nextN, .inl (sX1_link_2 firstStepF lastStepF steps_nextF p0 p1))), (firstStepA, .inl (firstStepC, 60, .inl (sX1_link_3 firstStepF p0 p1))), (lastStepA, .inl (lastStepC, 60, .inl (upd lastStepF (Int32.toNatClampNeg p0) p1)))] H := by rw [e_sX1_link_2, e_sX1_link_3]; exact hP.sub [0, 1, 2, 3, 4] rfl
    have hD9 : va_D A [(h0, .inr (4, [.int blocks, .int limit, .ref stepsO, .ref firstStepA, .ref lastStepA, .ref firstPhiA, .ref lastPhiA, .ref endA, .ref endValueA, .ref firstA, .ref secondA, .ref dominatorA, .ref depthA, .ref waysBeginA, .ref waysA, .ref dominatorsA, .ref loopA, .int phiCount, .ref phiGivesA, .ref phiNextA, .ref takesA])), (stepsO, .inr (3, [.int steps_count, .ref steps_kindA, .ref steps_givesA, .ref steps_leftA, .ref steps_rightA, .ref steps_nextA])), (steps_nextA, .inl (steps_nextC, steps_nextN, .inl (sX1_link_2 firstStepF lastStepF steps_nextF p0 p1))), (firstStepA, .inl (firstStepC, 60, .inl (sX1_link_3 firstStepF p0 p1))), (lastStepA, .inl (lastStepC, 60, .inl (upd lastStepF (Int32.toNatClampNeg p0) p1)))] := by rw [e_sX1_link_2, e_sX1_link_3]; exact hD.sub [0, 1, 2, 3, 4] (by decide) rfl
    have hK9 : va_K (dC, dI) cls [(steps_nextC, .int), (firstStepC, .int), (lastStepC, .int)] s := hK.sub [0, 1, 2] rfl
    refine W.widen (k := 0) (n := 0) (Nat.le_of_ble_eq_true rfl) (Nat.le_of_ble_eq_true rfl) ?_
    exact W.vret hx hb hr (fun t ht hW => ⟨⟨(), rfl, trivial, ⟨by rw [ht]; exact hP9, va_K.moved hW.alike hK9, hD9⟩⟩, hS.F ht⟩) hS.2.2 dX1_link_51
def sX1_linkPhi_1 (firstPhiF : Nat → Int32) (p0 : Int32) (p1 : Int32) : Nat → Int32 := (if 0 ≤ (firstPhiF (Int32.toNatClampNeg p0)) then firstPhiF else (upd firstPhiF (Int32.toNatClampNeg p0) p1))
def sX1_linkPhi_3 (firstPhiF : Nat → Int32) (lastPhiF : Nat → Int32) (phiNextF : Nat → Int32) (p0 : Int32) (p1 : Int32) : Nat → Int32 := (if 0 ≤ (firstPhiF (Int32.toNatClampNeg p0)) then (upd (upd phiNextF (Int32.toNatClampNeg p1) (-1)) (Int32.toNatClampNeg (lastPhiF (Int32.toNatClampNeg p0))) p1) else (upd phiNextF (Int32.toNatClampNeg p1) (-1)))
set_option maxHeartbeats 4000000 in
set_option maxRecDepth 100000 in
theorem kX1_linkPhi {zs : Nat × Nat} (l : Launch) (dC : Nat → ClassId) (dI : Nat → Nat → Nat) (h0 : Nat) (blocks : Int32) (limit : Int32) (firstStepA : Nat) (lastStepA : Nat) (firstPhiA : Nat) (firstPhiC : ClassId) (firstPhiF : Nat → Int32) (lastPhiA : Nat) (lastPhiC : ClassId) (lastPhiF : Nat → Int32) (endA : Nat) (endValueA : Nat) (firstA : Nat) (secondA : Nat) (dominatorA : Nat) (depthA : Nat) (waysBeginA : Nat) (waysA : Nat) (dominatorsA : Nat) (loopA : Nat) (phiCount : Int32) (phiGivesA : Nat) (phiNextA : Nat) (phiNextN : Nat) (phiNextC : ClassId) (phiNextF : Nat → Int32) (takesA : Nat) (stepsO : Nat) (p0 : Int32) (p1 : Int32) (sz : Nat) (hq1 : vp_in p1 phiNextN) (hq2 : vp_in p0 60) (hq3 : 0 ≤ (firstPhiF (Int32.toNatClampNeg p0)) → vp_in (lastPhiF (Int32.toNatClampNeg p0)) phiNextN) : Met l yX1_linkPhi (wz yX1_linkPhi cX1_linkPhi 3 (Option.none : Option Jvm.ClassFile.FieldType)) ({ frames := 0, cells := 0, slots := 0, locals := 0 }) (va_Pc [.ref h0, .int p0, .int p1] (PRE zs dC dI [(h0, .inr (4, [.int blocks, .int limit, .ref stepsO, .ref firstStepA, .ref lastStepA, .ref firstPhiA, .ref lastPhiA, .ref endA, .ref endValueA, .ref firstA, .ref secondA, .ref dominatorA, .ref depthA, .ref waysBeginA, .ref waysA, .ref dominatorsA, .ref loopA, .int phiCount, .ref phiGivesA, .ref phiNextA, .ref takesA])), (firstPhiA, .inl (firstPhiC, 60, .inl firstPhiF)), (lastPhiA, .inl (lastPhiC, 60, .inl lastPhiF)), (phiNextA, .inl (phiNextC, phiNextN, .inl phiNextF))] [(firstPhiC, .int), (lastPhiC, .int), (phiNextC, .int)] sz)) (va_Qv (fun (_ : Unit) => True) (fun _ t => POST dC dI [(h0, .inr (4, [.int blocks, .int limit, .ref stepsO, .ref firstStepA, .ref lastStepA, .ref firstPhiA, .ref lastPhiA, .ref endA, .ref endValueA, .ref firstA, .ref secondA, .ref dominatorA, .ref depthA, .ref waysBeginA, .ref waysA, .ref dominatorsA, .ref loopA, .int phiCount, .ref phiGivesA, .ref phiNextA, .ref takesA])), (firstPhiA, .inl (firstPhiC, 60, .inl (sX1_linkPhi_1 firstPhiF p0 p1))), (lastPhiA, .inl (lastPhiC, 60, .inl (upd lastPhiF (Int32.toNatClampNeg p0) p1))), (phiNextA, .inl (phiNextC, phiNextN, .inl (sX1_linkPhi_3 firstPhiF lastPhiF phiNextF p0 p1)))] [(firstPhiC, .int), (lastPhiC, .int), (phiNextC, .int)] (va_A [(h0, .inr (4, [.int blocks, .int limit, .ref stepsO, .ref firstStepA, .ref lastStepA, .ref firstPhiA, .ref lastPhiA, .ref endA, .ref endValueA, .ref firstA, .ref secondA, .ref dominatorA, .ref depthA, .ref waysBeginA, .ref waysA, .ref dominatorsA, .ref loopA, .int phiCount, .ref phiGivesA, .ref phiNextA, .ref takesA])), (firstPhiA, .inl (firstPhiC, 60, .inl firstPhiF)), (lastPhiA, .inl (lastPhiC, 60, .inl lastPhiF)), (phiNextA, .inl (phiNextC, phiNextN, .inl phiNextF))] sz) t) (va_A [(h0, .inr (4, [.int blocks, .int limit, .ref stepsO, .ref firstStepA, .ref lastStepA, .ref firstPhiA, .ref lastPhiA, .ref endA, .ref endValueA, .ref firstA, .ref secondA, .ref dominatorA, .ref depthA, .ref waysBeginA, .ref waysA, .ref dominatorsA, .ref loopA, .int phiCount, .ref phiGivesA, .ref phiNextA, .ref takesA])), (firstPhiA, .inl (firstPhiC, 60, .inl firstPhiF)), (lastPhiA, .inl (lastPhiC, 60, .inl lastPhiF)), (phiNextA, .inl (phiNextC, phiNextN, .inl phiNextF))] sz)) 0 0 (va_A [(h0, .inr (4, [.int blocks, .int limit, .ref stepsO, .ref firstStepA, .ref lastStepA, .ref firstPhiA, .ref lastPhiA, .ref endA, .ref endValueA, .ref firstA, .ref secondA, .ref dominatorA, .ref depthA, .ref waysBeginA, .ref waysA, .ref dominatorsA, .ref loopA, .int phiCount, .ref phiGivesA, .ref phiNextA, .ref takesA])), (firstPhiA, .inl (firstPhiC, 60, .inl firstPhiF)), (lastPhiA, .inl (lastPhiC, 60, .inl lastPhiF)), (phiNextA, .inl (phiNextC, phiNextN, .inl phiNextF))] sz) := by
  refine Met.ofW (cc := cX1_linkPhi) (maxL := 3) (ret := (Option.none : Option Jvm.ClassFile.FieldType)) (by decide) rfl ?_
  intro p e s m args below meth c s₁ B hml hv
  obtain ⟨rfl, hsz, hP, hK, hD0, hE⟩ := hv
  have hx := B.exec
  have hb := B.bytes
  have hr := B.returns
  have hts0 := atoms_spec (ws := wz yX1_linkPhi cX1_linkPhi 3 (Option.none : Option Jvm.ClassFile.FieldType)) B.pre
  have hts : ∀ w ∈ gw, w.before _ s = true := fun w h => hts0 w (List.mem_cons_of_mem _ h)
  have hown : s.vm.findClass RX1 = some m.cls := findClass_of_methodNamed B.named
  have hlocks := B.notSynchronized
  subst hsz
  have hD := hD0.self (sz := s.heap.size)
  generalize hAe : va_A [(h0, .inr (4, [.int blocks, .int limit, .ref stepsO, .ref firstStepA, .ref lastStepA, .ref firstPhiA, .ref lastPhiA, .ref endA, .ref endValueA, .ref firstA, .ref secondA, .ref dominatorA, .ref depthA, .ref waysBeginA, .ref waysA, .ref dominatorsA, .ref loopA, .int phiCount, .ref phiGivesA, .ref phiNextA, .ref takesA])), (firstPhiA, .inl (firstPhiC, 60, .inl firstPhiF)), (lastPhiA, .inl (lastPhiC, 60, .inl lastPhiF)), (phiNextA, .inl (phiNextC, phiNextN, .inl phiNextF))] s.heap.size = A at hD hE ⊢
  have hA : ∀ q : Nat, s.heap.size ≤ q → A q := fun q h => by rw [← hAe]; exact Or.inr h
  have hS : va_S A s.heap s.heap [] := va_S.rf
  have hP : va_P (dC, dI) cls [(h0, .inr (4, [.int blocks, .int limit, .ref stepsO, .ref firstStepA, .ref lastStepA, .ref firstPhiA, .ref lastPhiA, .ref endA, .ref endValueA, .ref firstA, .ref secondA, .ref dominatorA, .ref depthA, .ref waysBeginA, .ref waysA, .ref dominatorsA, .ref loopA, .int phiCount, .ref phiGivesA, .ref phiNextA, .ref takesA])), (firstPhiA, .inl (firstPhiC, 60, .inl firstPhiF)), (lastPhiA, .inl (lastPhiC, 60, .inl lastPhiF)), (phiNextA, .inl (phiNextC, phiNextN, .inl phiNextF))] s.heap := hP
  have hl := lv_entry ([.ref h0, .int p0, .int p1]) (n := 3) (Nat.le_of_ble_eq_true rfl)
  rw [lg_entry_eq]
  generalize (lg_sl ([.ref h0, .int p0, .int p1]) ++ List.replicate (3 - (lg_sl ([.ref h0, .int p0, .int p1])).length) Slot.unset).toArray = ls at hl ⊢
  have hl : lv_has ls 3 [(0, .ref h0), (1, .int p0), (2, .int p1)] := hl
  refine lv_aload_n hx hb dX1_linkPhi_0 rfl (lv_at hl 0 rfl) ?_
  refine va_get (D := (dC, dI)) (ci := 4) (v := .ref phiNextA) (C := RX1) (T := TX1) (N := 21) hx hb hts i_X1 hown hK hP 0 rfl rfl 19 (by decide) (hts _ qw55) (fun _ h9 => h9) rfl dX1_linkPhi_1 ?_
  refine lv_iload_n hx hb dX1_linkPhi_4 rfl (lv_at hl 2 rfl) ?_
  refine lv_iconst (v := (-1)) hx hb dX1_linkPhi_5 (by decide) ?_
  refine va_iast hx hb hK hP hD hS 3 2 rfl rfl (hq1) dX1_linkPhi_6 (fun H locs hP hD hS => ?_)
  have hP : va_P (dC, dI) cls [(h0, .inr (4, [.int blocks, .int limit, .ref stepsO, .ref firstStepA, .ref lastStepA, .ref firstPhiA, .ref lastPhiA, .ref endA, .ref endValueA, .ref firstA, .ref secondA, .ref dominatorA, .ref depthA, .ref waysBeginA, .ref waysA, .ref dominatorsA, .ref loopA, .int phiCount, .ref phiGivesA, .ref phiNextA, .ref takesA])), (firstPhiA, .inl (firstPhiC, 60, .inl firstPhiF)), (lastPhiA, .inl (lastPhiC, 60, .inl lastPhiF)), (phiNextA, .inl (phiNextC, phiNextN, .inl (upd phiNextF (Int32.toNatClampNeg p1) (-1))))] H := hP
  have hD : va_D A [(h0, .inr (4, [.int blocks, .int limit, .ref stepsO, .ref firstStepA, .ref lastStepA, .ref firstPhiA, .ref lastPhiA, .ref endA, .ref endValueA, .ref firstA, .ref secondA, .ref dominatorA, .ref depthA, .ref waysBeginA, .ref waysA, .ref dominatorsA, .ref loopA, .int phiCount, .ref phiGivesA, .ref phiNextA, .ref takesA])), (firstPhiA, .inl (firstPhiC, 60, .inl firstPhiF)), (lastPhiA, .inl (lastPhiC, 60, .inl lastPhiF)), (phiNextA, .inl (phiNextC, phiNextN, .inl (upd phiNextF (Int32.toNatClampNeg p1) (-1))))] := hD
  refine lv_aload_n hx hb dX1_linkPhi_7 rfl (lv_at hl 0 rfl) ?_
  refine va_get (D := (dC, dI)) (ci := 4) (v := .ref firstPhiA) (C := RX1) (T := TX1) (N := 21) hx hb hts i_X1 hown hK hP 0 rfl rfl 5 (by decide) (hts _ qw42) (fun _ h9 => h9) rfl dX1_linkPhi_8 ?_
  refine lv_iload_n hx hb dX1_linkPhi_11 rfl (lv_at hl 1 rfl) ?_
  refine va_iald hx hb hK hP 1 0 rfl rfl (hq2) dX1_linkPhi_12 ?_
  by_cases hc1 : 0 ≤ (firstPhiF (Int32.toNatClampNeg p0))
  · refine lv_if_ge (tgt := 26) hx hb dX1_linkPhi_13 (by decide) (fun _ => ?_) (fun c => absurd hc1 c)
    refine lv_aload_n hx hb dX1_linkPhi_26 rfl (lv_at hl 0 rfl) ?_
    refine va_get (D := (dC, dI)) (ci := 4) (v := .ref phiNextA) (C := RX1) (T := TX1) (N := 21) hx hb hts i_X1 hown hK hP 0 rfl rfl 19 (by decide) (hts _ qw55) (fun _ h9 => h9) rfl dX1_linkPhi_27 ?_
    refine lv_aload_n hx hb dX1_linkPhi_30 rfl (lv_at hl 0 rfl) ?_
    refine va_get (D := (dC, dI)) (ci := 4) (v := .ref lastPhiA) (C := RX1) (T := TX1) (N := 21) hx hb hts i_X1 hown hK hP 0 rfl rfl 6 (by decide) (hts _ qw43) (fun _ h9 => h9) rfl dX1_linkPhi_31 ?_
    refine lv_iload_n hx hb dX1_linkPhi_34 rfl (lv_at hl 1 rfl) ?_
    refine va_iald hx hb hK hP 2 1 rfl rfl (hq2) dX1_linkPhi_35 ?_
    refine lv_iload_n hx hb dX1_linkPhi_36 rfl (lv_at hl 2 rfl) ?_
    refine va_iast hx hb hK hP hD hS 3 2 rfl rfl (hq3 hc1) dX1_linkPhi_37 (fun H locs hP hD hS => ?_)
    have hP : va_P (dC, dI) cls [(h0, .inr (4, [.int blocks, .int limit, .ref stepsO, .ref firstStepA, .ref lastStepA, .ref firstPhiA, .ref lastPhiA, .ref endA, .ref endValueA, .ref firstA, .ref secondA, .ref dominatorA, .ref depthA, .ref waysBeginA, .ref waysA, .ref dominatorsA, .ref loopA, .int phiCount, .ref phiGivesA, .ref phiNextA, .ref takesA])), (firstPhiA, .inl (firstPhiC, 60, .inl firstPhiF)), (lastPhiA, .inl (lastPhiC, 60, .inl lastPhiF)), (phiNextA, .inl (phiNextC, phiNextN, .inl (upd (upd phiNextF (Int32.toNatClampNeg p1) (-1)) (Int32.toNatClampNeg (lastPhiF (Int32.toNatClampNeg p0))) p1)))] H := hP
    have hD : va_D A [(h0, .inr (4, [.int blocks, .int limit, .ref stepsO, .ref firstStepA, .ref lastStepA, .ref firstPhiA, .ref lastPhiA, .ref endA, .ref endValueA, .ref firstA, .ref secondA, .ref dominatorA, .ref depthA, .ref waysBeginA, .ref waysA, .ref dominatorsA, .ref loopA, .int phiCount, .ref phiGivesA, .ref phiNextA, .ref takesA])), (firstPhiA, .inl (firstPhiC, 60, .inl firstPhiF)), (lastPhiA, .inl (lastPhiC, 60, .inl lastPhiF)), (phiNextA, .inl (phiNextC, phiNextN, .inl (upd (upd phiNextF (Int32.toNatClampNeg p1) (-1)) (Int32.toNatClampNeg (lastPhiF (Int32.toNatClampNeg p0))) p1)))] := hD
    refine lv_aload_n hx hb dX1_linkPhi_38 rfl (lv_at hl 0 rfl) ?_
    refine va_get (D := (dC, dI)) (ci := 4) (v := .ref lastPhiA) (C := RX1) (T := TX1) (N := 21) hx hb hts i_X1 hown hK hP 0 rfl rfl 6 (by decide) (hts _ qw43) (fun _ h9 => h9) rfl dX1_linkPhi_39 ?_
    refine lv_iload_n hx hb dX1_linkPhi_42 rfl (lv_at hl 1 rfl) ?_
    refine lv_iload_n hx hb dX1_linkPhi_43 rfl (lv_at hl 2 rfl) ?_
    refine va_iast hx hb hK hP hD hS 2 1 rfl rfl (hq2) dX1_linkPhi_44 (fun H locs hP hD hS => ?_)
    have hP : va_P (dC, dI) cls [(h0, .inr (4, [.int blocks, .int limit, .ref stepsO, .ref firstStepA, .ref lastStepA, .ref firstPhiA, .ref lastPhiA, .ref endA, .ref endValueA, .ref firstA, .ref secondA, .ref dominatorA, .ref depthA, .ref waysBeginA, .ref waysA, .ref dominatorsA, .ref loopA, .int phiCount, .ref phiGivesA, .ref phiNextA, .ref takesA])), (firstPhiA, .inl (firstPhiC, 60, .inl firstPhiF)), (lastPhiA, .inl (lastPhiC, 60, .inl (upd lastPhiF (Int32.toNatClampNeg p0) p1))), (phiNextA, .inl (phiNextC, phiNextN, .inl (upd (upd phiNextF (Int32.toNatClampNeg p1) (-1)) (Int32.toNatClampNeg (lastPhiF (Int32.toNatClampNeg p0))) p1)))] H := hP
    have hD : va_D A [(h0, .inr (4, [.int blocks, .int limit, .ref stepsO, .ref firstStepA, .ref lastStepA, .ref firstPhiA, .ref lastPhiA, .ref endA, .ref endValueA, .ref firstA, .ref secondA, .ref dominatorA, .ref depthA, .ref waysBeginA, .ref waysA, .ref dominatorsA, .ref loopA, .int phiCount, .ref phiGivesA, .ref phiNextA, .ref takesA])), (firstPhiA, .inl (firstPhiC, 60, .inl firstPhiF)), (lastPhiA, .inl (lastPhiC, 60, .inl (upd lastPhiF (Int32.toNatClampNeg p0) p1))), (phiNextA, .inl (phiNextC, phiNextN, .inl (upd (upd phiNextF (Int32.toNatClampNeg p1) (-1)) (Int32.toNatClampNeg (lastPhiF (Int32.toNatClampNeg p0))) p1)))] := hD
    have e_sX1_linkPhi_1 : sX1_linkPhi_1 firstPhiF p0 p1 = firstPhiF := by unfold sX1_linkPhi_1; rw [if_pos hc1]
    have e_sX1_linkPhi_3 : sX1_linkPhi_3 firstPhiF lastPhiF phiNextF p0 p1 = (upd (upd phiNextF (Int32.toNatClampNeg p1) (-1)) (Int32.toNatClampNeg (lastPhiF (Int32.toNatClampNeg p0))) p1) := by unfold sX1_linkPhi_3; rw [if_pos hc1]
    have hP9 : va_P (dC, dI) cls [(h0, .inr (4, [.int blocks, .int limit, .ref stepsO, .ref firstStepA, .ref lastStepA, .ref firstPhiA, .ref lastPhiA, .ref endA, .ref endValueA, .ref firstA, .ref secondA, .ref dominatorA, .ref depthA, .ref waysBeginA, .ref waysA, .ref dominatorsA, .ref loopA, .int phiCount, .ref phiGivesA, .ref phiNextA, .ref takesA])), (firstPhiA, .inl (firstPhiC, 60, .inl (sX1_linkPhi_1 firstPhiF p0 p1))), (lastPhiA, .inl (lastPhiC, 60, .inl (upd lastPhiF (Int32.toNatClampNeg p0) p1))), (phiNextA, .inl (phiNextC, phiNextN, .inl (sX1_linkPhi_3 firstPhiF lastPhiF phiNextF p0 p1)))] H := by rw [e_sX1_linkPhi_1, e_sX1_linkPhi_3]; exact hP.sub [0, 1, 2, 3] rfl
    have hD9 : va_D A [(h0, .inr (4, [.int blocks, .int limit, .ref stepsO, .ref firstStepA, .ref lastStepA, .ref firstPhiA, .ref lastPhiA, .ref endA, .ref endValueA, .ref firstA, .ref secondA, .ref dominatorA, .ref depthA, .ref waysBeginA, .ref waysA, .ref dominatorsA, .ref loopA, .int phiCount, .ref phiGivesA, .ref phiNextA, .ref takesA])), (firstPhiA, .inl (firstPhiC, 60, .inl (sX1_linkPhi_1 firstPhiF p0 p1))), (lastPhiA, .inl (lastPhiC, 60, .inl (upd lastPhiF (Int32.toNatClampNeg p0) p1))), (phiNextA, .inl (phiNextC, phiNextN, .inl (sX1_linkPhi_3 firstPhiF lastPhiF phiNextF p0 p1)))] := by rw [e_sX1_linkPhi_1, e_sX1_linkPhi_3]; exact hD.sub [0, 1, 2, 3] (by decide) rfl
    have hK9 : va_K (dC, dI) cls [(firstPhiC, .int), (lastPhiC, .int), (phiNextC, .int)] s := hK.sub [0, 1, 2] rfl
    refine W.widen (k := 0) (n := 0) (Nat.le_of_ble_eq_true rfl) (Nat.le_of_ble_eq_true rfl) ?_
    exact W.vret hx hb hr (fun t ht hW => ⟨⟨(), rfl, trivial, ⟨by rw [ht]; exact hP9, va_K.moved hW.alike hK9, hD9⟩⟩, hS.F ht⟩) hS.2.2 dX1_linkPhi_45
  · refine lv_if_ge (tgt := 26) hx hb dX1_linkPhi_13 (by decide) (fun c => absurd c hc1) (fun _ => ?_)
    refine lv_aload_n hx hb dX1_linkPhi_16 rfl (lv_at hl 0 rfl) ?_
    refine va_get (D := (dC, dI)) (ci := 4) (v := .ref firstPhiA) (C := RX1) (T := TX1) (N := 21) hx hb hts i_X1 hown hK hP 0 rfl rfl 5 (by decide) (hts _ qw42) (fun _ h9 => h9) rfl dX1_linkPhi_17 ?_
    refine lv_iload_n hx hb dX1_linkPhi_20 rfl (lv_at hl 1 rfl) ?_
    refine lv_iload_n hx hb dX1_linkPhi_21 rfl (lv_at hl 2 rfl) ?_
    refine va_iast hx hb hK hP hD hS 1 0 rfl rfl (hq2) dX1_linkPhi_22 (fun H locs hP hD hS => ?_)
    have hP : va_P (dC, dI) cls [(h0, .inr (4, [.int blocks, .int limit, .ref stepsO, .ref firstStepA, .ref lastStepA, .ref firstPhiA, .ref lastPhiA, .ref endA, .ref endValueA, .ref firstA, .ref secondA, .ref dominatorA, .ref depthA, .ref waysBeginA, .ref waysA, .ref dominatorsA, .ref loopA, .int phiCount, .ref phiGivesA, .ref phiNextA, .ref takesA])), (firstPhiA, .inl (firstPhiC, 60, .inl (upd firstPhiF (Int32.toNatClampNeg p0) p1))), (lastPhiA, .inl (lastPhiC, 60, .inl lastPhiF)), (phiNextA, .inl (phiNextC, phiNextN, .inl (upd phiNextF (Int32.toNatClampNeg p1) (-1))))] H := hP
    have hD : va_D A [(h0, .inr (4, [.int blocks, .int limit, .ref stepsO, .ref firstStepA, .ref lastStepA, .ref firstPhiA, .ref lastPhiA, .ref endA, .ref endValueA, .ref firstA, .ref secondA, .ref dominatorA, .ref depthA, .ref waysBeginA, .ref waysA, .ref dominatorsA, .ref loopA, .int phiCount, .ref phiGivesA, .ref phiNextA, .ref takesA])), (firstPhiA, .inl (firstPhiC, 60, .inl (upd firstPhiF (Int32.toNatClampNeg p0) p1))), (lastPhiA, .inl (lastPhiC, 60, .inl lastPhiF)), (phiNextA, .inl (phiNextC, phiNextN, .inl (upd phiNextF (Int32.toNatClampNeg p1) (-1))))] := hD
    refine lv_goto (tgt := 38) hx hb dX1_linkPhi_23 (by decide) ?_
    refine lv_aload_n hx hb dX1_linkPhi_38 rfl (lv_at hl 0 rfl) ?_
    refine va_get (D := (dC, dI)) (ci := 4) (v := .ref lastPhiA) (C := RX1) (T := TX1) (N := 21) hx hb hts i_X1 hown hK hP 0 rfl rfl 6 (by decide) (hts _ qw43) (fun _ h9 => h9) rfl dX1_linkPhi_39 ?_
    refine lv_iload_n hx hb dX1_linkPhi_42 rfl (lv_at hl 1 rfl) ?_
    refine lv_iload_n hx hb dX1_linkPhi_43 rfl (lv_at hl 2 rfl) ?_
    refine va_iast hx hb hK hP hD hS 2 1 rfl rfl (hq2) dX1_linkPhi_44 (fun H locs hP hD hS => ?_)
    have hP : va_P (dC, dI) cls [(h0, .inr (4, [.int blocks, .int limit, .ref stepsO, .ref firstStepA, .ref lastStepA, .ref firstPhiA, .ref lastPhiA, .ref endA, .ref endValueA, .ref firstA, .ref secondA, .ref dominatorA, .ref depthA, .ref waysBeginA, .ref waysA, .ref dominatorsA, .ref loopA, .int phiCount, .ref phiGivesA, .ref phiNextA, .ref takesA])), (firstPhiA, .inl (firstPhiC, 60, .inl (upd firstPhiF (Int32.toNatClampNeg p0) p1))), (lastPhiA, .inl (lastPhiC, 60, .inl (upd lastPhiF (Int32.toNatClampNeg p0) p1))), (phiNextA, .inl (phiNextC, phiNextN, .inl (upd phiNextF (Int32.toNatClampNeg p1) (-1))))] H := hP
    have hD : va_D A [(h0, .inr (4, [.int blocks, .int limit, .ref stepsO, .ref firstStepA, .ref lastStepA, .ref firstPhiA, .ref lastPhiA, .ref endA, .ref endValueA, .ref firstA, .ref secondA, .ref dominatorA, .ref depthA, .ref waysBeginA, .ref waysA, .ref dominatorsA, .ref loopA, .int phiCount, .ref phiGivesA, .ref phiNextA, .ref takesA])), (firstPhiA, .inl (firstPhiC, 60, .inl (upd firstPhiF (Int32.toNatClampNeg p0) p1))), (lastPhiA, .inl (lastPhiC, 60, .inl (upd lastPhiF (Int32.toNatClampNeg p0) p1))), (phiNextA, .inl (phiNextC, phiNextN, .inl (upd phiNextF (Int32.toNatClampNeg p1) (-1))))] := hD
    have e_sX1_linkPhi_1 : sX1_linkPhi_1 firstPhiF p0 p1 = (upd firstPhiF (Int32.toNatClampNeg p0) p1) := by unfold sX1_linkPhi_1; rw [if_neg hc1]
    have e_sX1_linkPhi_3 : sX1_linkPhi_3 firstPhiF lastPhiF phiNextF p0 p1 = (upd phiNextF (Int32.toNatClampNeg p1) (-1)) := by unfold sX1_linkPhi_3; rw [if_neg hc1]
    have hP9 : va_P (dC, dI) cls [(h0, .inr (4, [.int blocks, .int limit, .ref stepsO, .ref firstStepA, .ref lastStepA, .ref firstPhiA, .ref lastPhiA, .ref endA, .ref endValueA, .ref firstA, .ref secondA, .ref dominatorA, .ref depthA, .ref waysBeginA, .ref waysA, .ref dominatorsA, .ref loopA, .int phiCount, .ref phiGivesA, .ref phiNextA, .ref takesA])), (firstPhiA, .inl (firstPhiC, 60, .inl (sX1_linkPhi_1 firstPhiF p0 p1))), (lastPhiA, .inl (lastPhiC, 60, .inl (upd lastPhiF (Int32.toNatClampNeg p0) p1))), (phiNextA, .inl (phiNextC, phiNextN, .inl (sX1_linkPhi_3 firstPhiF lastPhiF phiNextF p0 p1)))] H := by rw [e_sX1_linkPhi_1, e_sX1_linkPhi_3]; exact hP.sub [0, 1, 2, 3] rfl
    have hD9 : va_D A [(h0, .inr (4, [.int blocks, .int limit, .ref stepsO, .ref firstStepA, .ref lastStepA, .ref firstPhiA, .ref lastPhiA, .ref endA, .ref endValueA, .ref firstA, .ref secondA, .ref dominatorA, .ref depthA, .ref waysBeginA, .ref waysA, .ref dominatorsA, .ref loopA, .int phiCount, .ref phiGivesA, .ref phiNextA, .ref takesA])), (firstPhiA, .inl (firstPhiC, 60, .inl (sX1_linkPhi_1 firstPhiF p0 p1))), (lastPhiA, .inl (lastPhiC, 60, .inl (upd lastPhiF (Int32.toNatClampNeg p0) p1))), (phiNextA, .inl (phiNextC, phiNextN, .inl (sX1_linkPhi_3 firstPhiF lastPhiF phiNextF p0 p1)))] := by rw [e_sX1_linkPhi_1, e_sX1_linkPhi_3]; exact hD.sub [0, 1, 2, 3] (by decide) rfl
    have hK9 : va_K (dC, dI) cls [(firstPhiC, .int), (lastPhiC, .int), (phiNextC, .int)] s := hK.sub [0, 1, 2] rfl
    refine W.widen (k := 0) (n := 0) (Nat.le_of_ble_eq_true rfl) (Nat.le_of_ble_eq_true rfl) ?_
    exact W.vret hx hb hr (fun t ht hW => ⟨⟨(), rfl, trivial, ⟨by rw [ht]; exact hP9, va_K.moved hW.alike hK9, hD9⟩⟩, hS.F ht⟩) hS.2.2 dX1_linkPhi_45
set_option maxHeartbeats 4000000 in
set_option maxRecDepth 100000 in
theorem kX1_setTake {zs : Nat × Nat} (l : Launch) (dC : Nat → ClassId) (dI : Nat → Nat → Nat) (h0 : Nat) (blocks : Int32) (limit : Int32) (firstStepA : Nat) (lastStepA : Nat) (firstPhiA : Nat) (lastPhiA : Nat) (endA : Nat) (endValueA : Nat) (firstA : Nat) (secondA : Nat) (dominatorA : Nat) (depthA : Nat) (waysBeginA : Nat) (waysA : Nat) (dominatorsA : Nat) (loopA : Nat) (phiCount : Int32) (phiGivesA : Nat) (phiNextA : Nat) (takesA : Nat) (takesN : Nat) (takesC : ClassId) (takesF : Nat → Int32) (stepsO : Nat) (p0 : Int32) (p1 : Int32) (p2 : Int32) (sz : Nat) (hq1 : vp_in ((p0 * 60) + p1) takesN) : Met l yX1_setTake (wz yX1_setTake cX1_setTake 4 (Option.none : Option Jvm.ClassFile.FieldType)) ({ frames := 0, cells := 0, slots := 0, locals := 0 }) (va_Pc [.ref h0, .int p0, .int p1, .int p2] (PRE zs dC dI [(h0, .inr (4, [.int blocks, .int limit, .ref stepsO, .ref firstStepA, .ref lastStepA, .ref firstPhiA, .ref lastPhiA, .ref endA, .ref endValueA, .ref firstA, .ref secondA, .ref dominatorA, .ref depthA, .ref waysBeginA, .ref waysA, .ref dominatorsA, .ref loopA, .int phiCount, .ref phiGivesA, .ref phiNextA, .ref takesA])), (takesA, .inl (takesC, takesN, .inl takesF))] [(takesC, .int)] sz)) (va_Qv (fun (_ : Unit) => True) (fun _ t => POST dC dI [(h0, .inr (4, [.int blocks, .int limit, .ref stepsO, .ref firstStepA, .ref lastStepA, .ref firstPhiA, .ref lastPhiA, .ref endA, .ref endValueA, .ref firstA, .ref secondA, .ref dominatorA, .ref depthA, .ref waysBeginA, .ref waysA, .ref dominatorsA, .ref loopA, .int phiCount, .ref phiGivesA, .ref phiNextA, .ref takesA])), (takesA, .inl (takesC, takesN, .inl (upd takesF (Int32.toNatClampNeg ((p0 * 60) + p1)) p2)))] [(takesC, .int)] (va_A [(h0, .inr (4, [.int blocks, .int limit, .ref stepsO, .ref firstStepA, .ref lastStepA, .ref firstPhiA, .ref lastPhiA, .ref endA, .ref endValueA, .ref firstA, .ref secondA, .ref dominatorA, .ref depthA, .ref waysBeginA, .ref waysA, .ref dominatorsA, .ref loopA, .int phiCount, .ref phiGivesA, .ref phiNextA, .ref takesA])), (takesA, .inl (takesC, takesN, .inl takesF))] sz) t) (va_A [(h0, .inr (4, [.int blocks, .int limit, .ref stepsO, .ref firstStepA, .ref lastStepA, .ref firstPhiA, .ref lastPhiA, .ref endA, .ref endValueA, .ref firstA, .ref secondA, .ref dominatorA, .ref depthA, .ref waysBeginA, .ref waysA, .ref dominatorsA, .ref loopA, .int phiCount, .ref phiGivesA, .ref phiNextA, .ref takesA])), (takesA, .inl (takesC, takesN, .inl takesF))] sz)) 0 0 (va_A [(h0, .inr (4, [.int blocks, .int limit, .ref stepsO, .ref firstStepA, .ref lastStepA, .ref firstPhiA, .ref lastPhiA, .ref endA, .ref endValueA, .ref firstA, .ref secondA, .ref dominatorA, .ref depthA, .ref waysBeginA, .ref waysA, .ref dominatorsA, .ref loopA, .int phiCount, .ref phiGivesA, .ref phiNextA, .ref takesA])), (takesA, .inl (takesC, takesN, .inl takesF))] sz) := by
  refine Met.ofW (cc := cX1_setTake) (maxL := 4) (ret := (Option.none : Option Jvm.ClassFile.FieldType)) (by decide) rfl ?_
  intro p e s m args below meth c s₁ B hml hv
  obtain ⟨rfl, hsz, hP, hK, hD0, hE⟩ := hv
  have hx := B.exec
  have hb := B.bytes
  have hr := B.returns
  have hts0 := atoms_spec (ws := wz yX1_setTake cX1_setTake 4 (Option.none : Option Jvm.ClassFile.FieldType)) B.pre
  have hts : ∀ w ∈ gw, w.before _ s = true := fun w h => hts0 w (List.mem_cons_of_mem _ h)
  have hown : s.vm.findClass RX1 = some m.cls := findClass_of_methodNamed B.named
  have hlocks := B.notSynchronized
  subst hsz
  have hD := hD0.self (sz := s.heap.size)
  generalize hAe : va_A [(h0, .inr (4, [.int blocks, .int limit, .ref stepsO, .ref firstStepA, .ref lastStepA, .ref firstPhiA, .ref lastPhiA, .ref endA, .ref endValueA, .ref firstA, .ref secondA, .ref dominatorA, .ref depthA, .ref waysBeginA, .ref waysA, .ref dominatorsA, .ref loopA, .int phiCount, .ref phiGivesA, .ref phiNextA, .ref takesA])), (takesA, .inl (takesC, takesN, .inl takesF))] s.heap.size = A at hD hE ⊢
  have hA : ∀ q : Nat, s.heap.size ≤ q → A q := fun q h => by rw [← hAe]; exact Or.inr h
  have hS : va_S A s.heap s.heap [] := va_S.rf
  have hP : va_P (dC, dI) cls [(h0, .inr (4, [.int blocks, .int limit, .ref stepsO, .ref firstStepA, .ref lastStepA, .ref firstPhiA, .ref lastPhiA, .ref endA, .ref endValueA, .ref firstA, .ref secondA, .ref dominatorA, .ref depthA, .ref waysBeginA, .ref waysA, .ref dominatorsA, .ref loopA, .int phiCount, .ref phiGivesA, .ref phiNextA, .ref takesA])), (takesA, .inl (takesC, takesN, .inl takesF))] s.heap := hP
  have hl := lv_entry ([.ref h0, .int p0, .int p1, .int p2]) (n := 4) (Nat.le_of_ble_eq_true rfl)
  rw [lg_entry_eq]
  generalize (lg_sl ([.ref h0, .int p0, .int p1, .int p2]) ++ List.replicate (4 - (lg_sl ([.ref h0, .int p0, .int p1, .int p2])).length) Slot.unset).toArray = ls at hl ⊢
  have hl : lv_has ls 4 [(0, .ref h0), (1, .int p0), (2, .int p1), (3, .int p2)] := hl
  refine lv_aload_n hx hb dX1_setTake_0 rfl (lv_at hl 0 rfl) ?_
  refine va_get (D := (dC, dI)) (ci := 4) (v := .ref takesA) (C := RX1) (T := TX1) (N := 21) hx hb hts i_X1 hown hK hP 0 rfl rfl 20 (by decide) (hts _ qw56) (fun _ h9 => h9) rfl dX1_setTake_1 ?_
  refine lv_iload_n hx hb dX1_setTake_4 rfl (lv_at hl 1 rfl) ?_
  refine lv_bipush (v := 60) hx hb dX1_setTake_5 (by decide) ?_
  refine lv_imul hx hb dX1_setTake_7 ?_
  refine lv_iload_n hx hb dX1_setTake_8 rfl (lv_at hl 2 rfl) ?_
  refine lv_iadd hx hb dX1_setTake_9 ?_
  refine lv_iload_n hx hb dX1_setTake_10 rfl (lv_at hl 3 rfl) ?_
  refine va_iast hx hb hK hP hD hS 1 0 rfl rfl (hq1) dX1_setTake_11 (fun H locs hP hD hS => ?_)
  have hP : va_P (dC, dI) cls [(h0, .inr (4, [.int blocks, .int limit, .ref stepsO, .ref firstStepA, .ref lastStepA, .ref firstPhiA, .ref lastPhiA, .ref endA, .ref endValueA, .ref firstA, .ref secondA, .ref dominatorA, .ref depthA, .ref waysBeginA, .ref waysA, .ref dominatorsA, .ref loopA, .int phiCount, .ref phiGivesA, .ref phiNextA, .ref takesA])), (takesA, .inl (takesC, takesN, .inl (upd takesF (Int32.toNatClampNeg ((p0 * 60) + p1)) p2)))] H := hP
  have hD : va_D A [(h0, .inr (4, [.int blocks, .int limit, .ref stepsO, .ref firstStepA, .ref lastStepA, .ref firstPhiA, .ref lastPhiA, .ref endA, .ref endValueA, .ref firstA, .ref secondA, .ref dominatorA, .ref depthA, .ref waysBeginA, .ref waysA, .ref dominatorsA, .ref loopA, .int phiCount, .ref phiGivesA, .ref phiNextA, .ref takesA])), (takesA, .inl (takesC, takesN, .inl (upd takesF (Int32.toNatClampNeg ((p0 * 60) + p1)) p2)))] := hD
  have hP9 : va_P (dC, dI) cls [(h0, .inr (4, [.int blocks, .int limit, .ref stepsO, .ref firstStepA, .ref lastStepA, .ref firstPhiA, .ref lastPhiA, .ref endA, .ref endValueA, .ref firstA, .ref secondA, .ref dominatorA, .ref depthA, .ref waysBeginA, .ref waysA, .ref dominatorsA, .ref loopA, .int phiCount, .ref phiGivesA, .ref phiNextA, .ref takesA])), (takesA, .inl (takesC, takesN, .inl (upd takesF (Int32.toNatClampNeg ((p0 * 60) + p1)) p2)))] H := by exact hP.sub [0, 1] rfl
  have hD9 : va_D A [(h0, .inr (4, [.int blocks, .int limit, .ref stepsO, .ref firstStepA, .ref lastStepA, .ref firstPhiA, .ref lastPhiA, .ref endA, .ref endValueA, .ref firstA, .ref secondA, .ref dominatorA, .ref depthA, .ref waysBeginA, .ref waysA, .ref dominatorsA, .ref loopA, .int phiCount, .ref phiGivesA, .ref phiNextA, .ref takesA])), (takesA, .inl (takesC, takesN, .inl (upd takesF (Int32.toNatClampNeg ((p0 * 60) + p1)) p2)))] := by exact hD.sub [0, 1] (by decide) rfl
  have hK9 : va_K (dC, dI) cls [(takesC, .int)] s := hK.sub [0] rfl
  refine W.widen (k := 0) (n := 0) (Nat.le_of_ble_eq_true rfl) (Nat.le_of_ble_eq_true rfl) ?_
  exact W.vret hx hb hr (fun t ht hW => ⟨⟨(), rfl, trivial, ⟨by rw [ht]; exact hP9, va_K.moved hW.alike hK9, hD9⟩⟩, hS.F ht⟩) hS.2.2 dX1_setTake_12
set_option maxHeartbeats 4000000 in
set_option maxRecDepth 100000 in
theorem kX1_take {zs : Nat × Nat} (l : Launch) (dC : Nat → ClassId) (dI : Nat → Nat → Nat) (h0 : Nat) (blocks : Int32) (limit : Int32) (firstStepA : Nat) (lastStepA : Nat) (firstPhiA : Nat) (lastPhiA : Nat) (endA : Nat) (endValueA : Nat) (firstA : Nat) (secondA : Nat) (dominatorA : Nat) (depthA : Nat) (waysBeginA : Nat) (waysA : Nat) (dominatorsA : Nat) (loopA : Nat) (phiCount : Int32) (phiGivesA : Nat) (phiNextA : Nat) (takesA : Nat) (takesN : Nat) (takesC : ClassId) (takesF : Nat → Int32) (stepsO : Nat) (p0 : Int32) (p1 : Int32) (sz : Nat) (hq1 : vp_in ((p0 * 60) + p1) takesN) : Met l yX1_take (wz yX1_take cX1_take 3 (Option.some Jvm.ClassFile.FieldType.int)) ({ frames := 0, cells := 0, slots := 0, locals := 0 }) (va_Pc [.ref h0, .int p0, .int p1] (PRE zs dC dI [(h0, .inr (4, [.int blocks, .int limit, .ref stepsO, .ref firstStepA, .ref lastStepA, .ref firstPhiA, .ref lastPhiA, .ref endA, .ref endValueA, .ref firstA, .ref secondA, .ref dominatorA, .ref depthA, .ref waysBeginA, .ref waysA, .ref dominatorsA, .ref loopA, .int phiCount, .ref phiGivesA, .ref phiNextA, .ref takesA])), (takesA, .inl (takesC, takesN, .inl takesF))] [(takesC, .int)] sz)) (va_Qi (fun (r : Int32) (_ : Unit) => r = (takesF (Int32.toNatClampNeg ((p0 * 60) + p1)))) (fun _ t => POST dC dI [(h0, .inr (4, [.int blocks, .int limit, .ref stepsO, .ref firstStepA, .ref lastStepA, .ref firstPhiA, .ref lastPhiA, .ref endA, .ref endValueA, .ref firstA, .ref secondA, .ref dominatorA, .ref depthA, .ref waysBeginA, .ref waysA, .ref dominatorsA, .ref loopA, .int phiCount, .ref phiGivesA, .ref phiNextA, .ref takesA])), (takesA, .inl (takesC, takesN, .inl takesF))] [(takesC, .int)] (va_A [(h0, .inr (4, [.int blocks, .int limit, .ref stepsO, .ref firstStepA, .ref lastStepA, .ref firstPhiA, .ref lastPhiA, .ref endA, .ref endValueA, .ref firstA, .ref secondA, .ref dominatorA, .ref depthA, .ref waysBeginA, .ref waysA, .ref dominatorsA, .ref loopA, .int phiCount, .ref phiGivesA, .ref phiNextA, .ref takesA])), (takesA, .inl (takesC, takesN, .inl takesF))] sz) t) (va_A [(h0, .inr (4, [.int blocks, .int limit, .ref stepsO, .ref firstStepA, .ref lastStepA, .ref firstPhiA, .ref lastPhiA, .ref endA, .ref endValueA, .ref firstA, .ref secondA, .ref dominatorA, .ref depthA, .ref waysBeginA, .ref waysA, .ref dominatorsA, .ref loopA, .int phiCount, .ref phiGivesA, .ref phiNextA, .ref takesA])), (takesA, .inl (takesC, takesN, .inl takesF))] sz)) 0 0 (va_A [(h0, .inr (4, [.int blocks, .int limit, .ref stepsO, .ref firstStepA, .ref lastStepA, .ref firstPhiA, .ref lastPhiA, .ref endA, .ref endValueA, .ref firstA, .ref secondA, .ref dominatorA, .ref depthA, .ref waysBeginA, .ref waysA, .ref dominatorsA, .ref loopA, .int phiCount, .ref phiGivesA, .ref phiNextA, .ref takesA])), (takesA, .inl (takesC, takesN, .inl takesF))] sz) := by
  refine Met.ofW (cc := cX1_take) (maxL := 3) (ret := (Option.some Jvm.ClassFile.FieldType.int)) (by decide) rfl ?_
  intro p e s m args below meth c s₁ B hml hv
  obtain ⟨rfl, hsz, hP, hK, hD0, hE⟩ := hv
  have hx := B.exec
  have hb := B.bytes
  have hr := B.returns
  have hts0 := atoms_spec (ws := wz yX1_take cX1_take 3 (Option.some Jvm.ClassFile.FieldType.int)) B.pre
  have hts : ∀ w ∈ gw, w.before _ s = true := fun w h => hts0 w (List.mem_cons_of_mem _ h)
  have hown : s.vm.findClass RX1 = some m.cls := findClass_of_methodNamed B.named
  have hlocks := B.notSynchronized
  subst hsz
  have hD := hD0.self (sz := s.heap.size)
  generalize hAe : va_A [(h0, .inr (4, [.int blocks, .int limit, .ref stepsO, .ref firstStepA, .ref lastStepA, .ref firstPhiA, .ref lastPhiA, .ref endA, .ref endValueA, .ref firstA, .ref secondA, .ref dominatorA, .ref depthA, .ref waysBeginA, .ref waysA, .ref dominatorsA, .ref loopA, .int phiCount, .ref phiGivesA, .ref phiNextA, .ref takesA])), (takesA, .inl (takesC, takesN, .inl takesF))] s.heap.size = A at hD hE ⊢
  have hA : ∀ q : Nat, s.heap.size ≤ q → A q := fun q h => by rw [← hAe]; exact Or.inr h
  have hS : va_S A s.heap s.heap [] := va_S.rf
  have hP : va_P (dC, dI) cls [(h0, .inr (4, [.int blocks, .int limit, .ref stepsO, .ref firstStepA, .ref lastStepA, .ref firstPhiA, .ref lastPhiA, .ref endA, .ref endValueA, .ref firstA, .ref secondA, .ref dominatorA, .ref depthA, .ref waysBeginA, .ref waysA, .ref dominatorsA, .ref loopA, .int phiCount, .ref phiGivesA, .ref phiNextA, .ref takesA])), (takesA, .inl (takesC, takesN, .inl takesF))] s.heap := hP
  have hl := lv_entry ([.ref h0, .int p0, .int p1]) (n := 3) (Nat.le_of_ble_eq_true rfl)
  rw [lg_entry_eq]
  generalize (lg_sl ([.ref h0, .int p0, .int p1]) ++ List.replicate (3 - (lg_sl ([.ref h0, .int p0, .int p1])).length) Slot.unset).toArray = ls at hl ⊢
  have hl : lv_has ls 3 [(0, .ref h0), (1, .int p0), (2, .int p1)] := hl
  refine lv_aload_n hx hb dX1_take_0 rfl (lv_at hl 0 rfl) ?_
  refine va_get (D := (dC, dI)) (ci := 4) (v := .ref takesA) (C := RX1) (T := TX1) (N := 21) hx hb hts i_X1 hown hK hP 0 rfl rfl 20 (by decide) (hts _ qw56) (fun _ h9 => h9) rfl dX1_take_1 ?_
  refine lv_iload_n hx hb dX1_take_4 rfl (lv_at hl 1 rfl) ?_
  refine lv_bipush (v := 60) hx hb dX1_take_5 (by decide) ?_
  refine lv_imul hx hb dX1_take_7 ?_
  refine lv_iload_n hx hb dX1_take_8 rfl (lv_at hl 2 rfl) ?_
  refine lv_iadd hx hb dX1_take_9 ?_
  refine va_iald hx hb hK hP 1 0 rfl rfl (hq1) dX1_take_10 ?_
  have hP9 : va_P (dC, dI) cls [(h0, .inr (4, [.int blocks, .int limit, .ref stepsO, .ref firstStepA, .ref lastStepA, .ref firstPhiA, .ref lastPhiA, .ref endA, .ref endValueA, .ref firstA, .ref secondA, .ref dominatorA, .ref depthA, .ref waysBeginA, .ref waysA, .ref dominatorsA, .ref loopA, .int phiCount, .ref phiGivesA, .ref phiNextA, .ref takesA])), (takesA, .inl (takesC, takesN, .inl takesF))] s.heap := by exact hP.sub [0, 1] rfl
  have hD9 : va_D A [(h0, .inr (4, [.int blocks, .int limit, .ref stepsO, .ref firstStepA, .ref lastStepA, .ref firstPhiA, .ref lastPhiA, .ref endA, .ref endValueA, .ref firstA, .ref secondA, .ref dominatorA, .ref depthA, .ref waysBeginA, .ref waysA, .ref dominatorsA, .ref loopA, .int phiCount, .ref phiGivesA, .ref phiNextA, .ref takesA])), (takesA, .inl (takesC, takesN, .inl takesF))] := by exact hD.sub [0, 1] (by decide) rfl
  have hK9 : va_K (dC, dI) cls [(takesC, .int)] s := hK.sub [0] rfl
  refine W.widen (k := 0) (n := 0) (Nat.le_of_ble_eq_true rfl) (Nat.le_of_ble_eq_true rfl) ?_
  exact W.iret (v := (takesF (Int32.toNatClampNeg ((p0 * 60) + p1)))) hx hb hr (fun t ht hW => ⟨⟨(takesF (Int32.toNatClampNeg ((p0 * 60) + p1))), (), rfl, rfl, ⟨by rw [ht]; exact hP9, va_K.moved hW.alike hK9, hD9⟩⟩, hS.F ht⟩) hS.2.2 dX1_take_11
set_option maxHeartbeats 4000000 in
set_option maxRecDepth 100000 in
theorem kX1_takePhis {zs : Nat × Nat} (l : Launch) (dC : Nat → ClassId) (dI : Nat → Nat → Nat) (h0 : Nat) (blocks : Int32) (limit : Int32) (firstStepA : Nat) (lastStepA : Nat) (firstPhiA : Nat) (firstPhiC : ClassId) (firstPhiF : Nat → Int32) (lastPhiA : Nat) (lastPhiC : ClassId) (lastPhiF : Nat → Int32) (endA : Nat) (endValueA : Nat) (firstA : Nat) (secondA : Nat) (dominatorA : Nat) (depthA : Nat) (waysBeginA : Nat) (waysA : Nat) (dominatorsA : Nat) (loopA : Nat) (phiCount : Int32) (phiGivesA : Nat) (phiNextA : Nat) (takesA : Nat) (stepsO : Nat) (p0 : Int32) (sz : Nat) (hq1 : vp_in p0 60) : Met l yX1_takePhis (wz yX1_takePhis cX1_takePhis 3 (Option.some Jvm.ClassFile.FieldType.int)) ({ frames := 0, cells := 0, slots := 0, locals := 0 }) (va_Pc [.ref h0, .int p0] (PRE zs dC dI [(h0, .inr (4, [.int blocks, .int limit, .ref stepsO, .ref firstStepA, .ref lastStepA, .ref firstPhiA, .ref lastPhiA, .ref endA, .ref endValueA, .ref firstA, .ref secondA, .ref dominatorA, .ref depthA, .ref waysBeginA, .ref waysA, .ref dominatorsA, .ref loopA, .int phiCount, .ref phiGivesA, .ref phiNextA, .ref takesA])), (firstPhiA, .inl (firstPhiC, 60, .inl firstPhiF)), (lastPhiA, .inl (lastPhiC, 60, .inl lastPhiF))] [(firstPhiC, .int), (lastPhiC, .int)] sz)) (va_Qi (fun (r : Int32) (_ : Unit) => r = (firstPhiF (Int32.toNatClampNeg p0))) (fun _ t => POST dC dI [(h0, .inr (4, [.int blocks, .int limit, .ref stepsO, .ref firstStepA, .ref lastStepA, .ref firstPhiA, .ref lastPhiA, .ref endA, .ref endValueA, .ref firstA, .ref secondA, .ref dominatorA, .ref depthA, .ref waysBeginA, .ref waysA, .ref dominatorsA, .ref loopA, .int phiCount, .ref phiGivesA, .ref phiNextA, .ref takesA])), (firstPhiA, .inl (firstPhiC, 60, .inl (upd firstPhiF (Int32.toNatClampNeg p0) (-1)))), (lastPhiA, .inl (lastPhiC, 60, .inl (upd lastPhiF (Int32.toNatClampNeg p0) (-1))))] [(firstPhiC, .int), (lastPhiC, .int)] (va_A [(h0, .inr (4, [.int blocks, .int limit, .ref stepsO, .ref firstStepA, .ref lastStepA, .ref firstPhiA, .ref lastPhiA, .ref endA, .ref endValueA, .ref firstA, .ref secondA, .ref dominatorA, .ref depthA, .ref waysBeginA, .ref waysA, .ref dominatorsA, .ref loopA, .int phiCount, .ref phiGivesA, .ref phiNextA, .ref takesA])), (firstPhiA, .inl (firstPhiC, 60, .inl firstPhiF)), (lastPhiA, .inl (lastPhiC, 60, .inl lastPhiF))] sz) t) (va_A [(h0, .inr (4, [.int blocks, .int limit, .ref stepsO, .ref firstStepA, .ref lastStepA, .ref firstPhiA, .ref lastPhiA, .ref endA, .ref endValueA, .ref firstA, .ref secondA, .ref dominatorA, .ref depthA, .ref waysBeginA, .ref waysA, .ref dominatorsA, .ref loopA, .int phiCount, .ref phiGivesA, .ref phiNextA, .ref takesA])), (firstPhiA, .inl (firstPhiC, 60, .inl firstPhiF)), (lastPhiA, .inl (lastPhiC, 60, .inl lastPhiF))] sz)) 0 0 (va_A [(h0, .inr (4, [.int blocks, .int limit, .ref stepsO, .ref firstStepA, .ref lastStepA, .ref firstPhiA, .ref lastPhiA, .ref endA, .ref endValueA, .ref firstA, .ref secondA, .ref dominatorA, .ref depthA, .ref waysBeginA, .ref waysA, .ref dominatorsA, .ref loopA, .int phiCount, .ref phiGivesA, .ref phiNextA, .ref takesA])), (firstPhiA, .inl (firstPhiC, 60, .inl firstPhiF)), (lastPhiA, .inl (lastPhiC, 60, .inl lastPhiF))] sz) := by
  refine Met.ofW (cc := cX1_takePhis) (maxL := 3) (ret := (Option.some Jvm.ClassFile.FieldType.int)) (by decide) rfl ?_
  intro p e s m args below meth c s₁ B hml hv
  obtain ⟨rfl, hsz, hP, hK, hD0, hE⟩ := hv
  have hx := B.exec
  have hb := B.bytes
  have hr := B.returns
  have hts0 := atoms_spec (ws := wz yX1_takePhis cX1_takePhis 3 (Option.some Jvm.ClassFile.FieldType.int)) B.pre
  have hts : ∀ w ∈ gw, w.before _ s = true := fun w h => hts0 w (List.mem_cons_of_mem _ h)
  have hown : s.vm.findClass RX1 = some m.cls := findClass_of_methodNamed B.named
  have hlocks := B.notSynchronized
  subst hsz
  have hD := hD0.self (sz := s.heap.size)
  generalize hAe : va_A [(h0, .inr (4, [.int blocks, .int limit, .ref stepsO, .ref firstStepA, .ref lastStepA, .ref firstPhiA, .ref lastPhiA, .ref endA, .ref endValueA, .ref firstA, .ref secondA, .ref dominatorA, .ref depthA, .ref waysBeginA, .ref waysA, .ref dominatorsA, .ref loopA, .int phiCount, .ref phiGivesA, .ref phiNextA, .ref takesA])), (firstPhiA, .inl (firstPhiC, 60, .inl firstPhiF)), (lastPhiA, .inl (lastPhiC, 60, .inl lastPhiF))] s.heap.size = A at hD hE ⊢
  have hA : ∀ q : Nat, s.heap.size ≤ q → A q := fun q h => by rw [← hAe]; exact Or.inr h
  have hS : va_S A s.heap s.heap [] := va_S.rf
  have hP : va_P (dC, dI) cls [(h0, .inr (4, [.int blocks, .int limit, .ref stepsO, .ref firstStepA, .ref lastStepA, .ref firstPhiA, .ref lastPhiA, .ref endA, .ref endValueA, .ref firstA, .ref secondA, .ref dominatorA, .ref depthA, .ref waysBeginA, .ref waysA, .ref dominatorsA, .ref loopA, .int phiCount, .ref phiGivesA, .ref phiNextA, .ref takesA])), (firstPhiA, .inl (firstPhiC, 60, .inl firstPhiF)), (lastPhiA, .inl (lastPhiC, 60, .inl lastPhiF))] s.heap := hP
  have hl := lv_entry ([.ref h0, .int p0]) (n := 3) (Nat.le_of_ble_eq_true rfl)
  rw [lg_entry_eq]
  generalize (lg_sl ([.ref h0, .int p0]) ++ List.replicate (3 - (lg_sl ([.ref h0, .int p0])).length) Slot.unset).toArray = ls at hl ⊢
  have hl : lv_has ls 3 [(0, .ref h0), (1, .int p0)] := hl
  refine lv_aload_n hx hb dX1_takePhis_0 rfl (lv_at hl 0 rfl) ?_
  refine va_get (D := (dC, dI)) (ci := 4) (v := .ref firstPhiA) (C := RX1) (T := TX1) (N := 21) hx hb hts i_X1 hown hK hP 0 rfl rfl 5 (by decide) (hts _ qw42) (fun _ h9 => h9) rfl dX1_takePhis_1 ?_
  refine lv_iload_n hx hb dX1_takePhis_4 rfl (lv_at hl 1 rfl) ?_
  refine va_iald hx hb hK hP 1 0 rfl rfl (hq1) dX1_takePhis_5 ?_
  refine lv_istore_n (lv' := [(2, .int (firstPhiF (Int32.toNatClampNeg p0))), (0, .ref h0), (1, .int p0)]) hx hb dX1_takePhis_6 rfl hl (by decide) rfl (fun ls hl => ?_)
  refine lv_aload_n hx hb dX1_takePhis_7 rfl (lv_at hl 1 rfl) ?_
  refine va_get (D := (dC, dI)) (ci := 4) (v := .ref firstPhiA) (C := RX1) (T := TX1) (N := 21) hx hb hts i_X1 hown hK hP 0 rfl rfl 5 (by decide) (hts _ qw42) (fun _ h9 => h9) rfl dX1_takePhis_8 ?_
  refine lv_iload_n hx hb dX1_takePhis_11 rfl (lv_at hl 2 rfl) ?_
  refine lv_iconst (v := (-1)) hx hb dX1_takePhis_12 (by decide) ?_
  refine va_iast hx hb hK hP hD hS 1 0 rfl rfl (hq1) dX1_takePhis_13 (fun H locs hP hD hS => ?_)
  have hP : va_P (dC, dI) cls [(h0, .inr (4, [.int blocks, .int limit, .ref stepsO, .ref firstStepA, .ref lastStepA, .ref firstPhiA, .ref lastPhiA, .ref endA, .ref endValueA, .ref firstA, .ref secondA, .ref dominatorA, .ref depthA, .ref waysBeginA, .ref waysA, .ref dominatorsA, .ref loopA, .int phiCount, .ref phiGivesA, .ref phiNextA, .ref takesA])), (firstPhiA, .inl (firstPhiC, 60, .inl (upd firstPhiF (Int32.toNatClampNeg p0) (-1)))), (lastPhiA, .inl (lastPhiC, 60, .inl lastPhiF))] H := hP
  have hD : va_D A [(h0, .inr (4, [.int blocks, .int limit, .ref stepsO, .ref firstStepA, .ref lastStepA, .ref firstPhiA, .ref lastPhiA, .ref endA, .ref endValueA, .ref firstA, .ref secondA, .ref dominatorA, .ref depthA, .ref waysBeginA, .ref waysA, .ref dominatorsA, .ref loopA, .int phiCount, .ref phiGivesA, .ref phiNextA, .ref takesA])), (firstPhiA, .inl (firstPhiC, 60, .inl (upd firstPhiF (Int32.toNatClampNeg p0) (-1)))), (lastPhiA, .inl (lastPhiC, 60, .inl lastPhiF))] := hD
  refine lv_aload_n hx hb dX1_takePhis_14 rfl (lv_at hl 1 rfl) ?_
  refine va_get (D := (dC, dI)) (ci := 4) (v := .ref lastPhiA) (C := RX1) (T := TX1) (N := 21) hx hb hts i_X1 hown hK hP 0 rfl rfl 6 (by decide) (hts _ qw43) (fun _ h9 => h9) rfl dX1_takePhis_15 ?_
  refine lv_iload_n hx hb dX1_takePhis_18 rfl (lv_at hl 2 rfl) ?_
  refine lv_iconst (v := (-1)) hx hb dX1_takePhis_19 (by decide) ?_
  refine va_iast hx hb hK hP hD hS 2 1 rfl rfl (hq1) dX1_takePhis_20 (fun H locs hP hD hS => ?_)
  have hP : va_P (dC, dI) cls [(h0, .inr (4, [.int blocks, .int limit, .ref stepsO, .ref firstStepA, .ref lastStepA, .ref firstPhiA, .ref lastPhiA, .ref endA, .ref endValueA, .ref firstA, .ref secondA, .ref dominatorA, .ref depthA, .ref waysBeginA, .ref waysA, .ref dominatorsA, .ref loopA, .int phiCount, .ref phiGivesA, .ref phiNextA, .ref takesA])), (firstPhiA, .inl (firstPhiC, 60, .inl (upd firstPhiF (Int32.toNatClampNeg p0) (-1)))), (lastPhiA, .inl (lastPhiC, 60, .inl (upd lastPhiF (Int32.toNatClampNeg p0) (-1))))] H := hP
  have hD : va_D A [(h0, .inr (4, [.int blocks, .int limit, .ref stepsO, .ref firstStepA, .ref lastStepA, .ref firstPhiA, .ref lastPhiA, .ref endA, .ref endValueA, .ref firstA, .ref secondA, .ref dominatorA, .ref depthA, .ref waysBeginA, .ref waysA, .ref dominatorsA, .ref loopA, .int phiCount, .ref phiGivesA, .ref phiNextA, .ref takesA])), (firstPhiA, .inl (firstPhiC, 60, .inl (upd firstPhiF (Int32.toNatClampNeg p0) (-1)))), (lastPhiA, .inl (lastPhiC, 60, .inl (upd lastPhiF (Int32.toNatClampNeg p0) (-1))))] := hD
  refine lv_iload_n hx hb dX1_takePhis_21 rfl (lv_at hl 0 rfl) ?_
  have hP9 : va_P (dC, dI) cls [(h0, .inr (4, [.int blocks, .int limit, .ref stepsO, .ref firstStepA, .ref lastStepA, .ref firstPhiA, .ref lastPhiA, .ref endA, .ref endValueA, .ref firstA, .ref secondA, .ref dominatorA, .ref depthA, .ref waysBeginA, .ref waysA, .ref dominatorsA, .ref loopA, .int phiCount, .ref phiGivesA, .ref phiNextA, .ref takesA])), (firstPhiA, .inl (firstPhiC, 60, .inl (upd firstPhiF (Int32.toNatClampNeg p0) (-1)))), (lastPhiA, .inl (lastPhiC, 60, .inl (upd lastPhiF (Int32.toNatClampNeg p0) (-1))))] H := by exact hP.sub [0, 1, 2] rfl
  have hD9 : va_D A [(h0, .inr (4, [.int blocks, .int limit, .ref stepsO, .ref firstStepA, .ref lastStepA, .ref firstPhiA, .ref lastPhiA, .ref endA, .ref endValueA, .ref firstA, .ref secondA, .ref dominatorA, .ref depthA, .ref waysBeginA, .ref waysA, .ref dominatorsA, .ref loopA, .int phiCount, .ref phiGivesA, .ref phiNextA, .ref takesA])), (firstPhiA, .inl (firstPhiC, 60, .inl (upd firstPhiF (Int32.toNatClampNeg p0) (-1)))), (lastPhiA, .inl (lastPhiC, 60, .inl (upd lastPhiF (Int32.toNatClampNeg p0) (-1))))] := by exact hD.sub [0, 1, 2] (by decide) rfl
  have hK9 : va_K (dC, dI) cls [(firstPhiC, .int), (lastPhiC, .int)] s := hK.sub [0, 1] rfl
  refine W.widen (k := 0) (n := 0) (Nat.le_of_ble_eq_true rfl) (Nat.le_of_ble_eq_true rfl) ?_
  exact W.iret (v := (firstPhiF (Int32.toNatClampNeg p0))) hx hb hr (fun t ht hW => ⟨⟨(firstPhiF (Int32.toNatClampNeg p0)), (), rfl, rfl, ⟨by rw [ht]; exact hP9, va_K.moved hW.alike hK9, hD9⟩⟩, hS.F ht⟩) hS.2.2 dX1_takePhis_22
set_option maxHeartbeats 4000000 in
set_option maxRecDepth 100000 in
theorem kX1_takeSteps {zs : Nat × Nat} (l : Launch) (dC : Nat → ClassId) (dI : Nat → Nat → Nat) (h0 : Nat) (blocks : Int32) (limit : Int32) (firstStepA : Nat) (firstStepC : ClassId) (firstStepF : Nat → Int32) (lastStepA : Nat) (lastStepC : ClassId) (lastStepF : Nat → Int32) (firstPhiA : Nat) (lastPhiA : Nat) (endA : Nat) (endValueA : Nat) (firstA : Nat) (secondA : Nat) (dominatorA : Nat) (depthA : Nat) (waysBeginA : Nat) (waysA : Nat) (dominatorsA : Nat) (loopA : Nat) (phiCount : Int32) (phiGivesA : Nat) (phiNextA : Nat) (takesA : Nat) (stepsO : Nat) (p0 : Int32) (sz : Nat) (hq1 : vp_in p0 60) : Met l yX1_takeSteps (wz yX1_takeSteps cX1_takeSteps 3 (Option.some Jvm.ClassFile.FieldType.int)) ({ frames := 0, cells := 0, slots := 0, locals := 0 }) (va_Pc [.ref h0, .int p0] (PRE zs dC dI [(h0, .inr (4, [.int blocks, .int limit, .ref stepsO, .ref firstStepA, .ref lastStepA, .ref firstPhiA, .ref lastPhiA, .ref endA, .ref endValueA, .ref firstA, .ref secondA, .ref dominatorA, .ref depthA, .ref waysBeginA, .ref waysA, .ref dominatorsA, .ref loopA, .int phiCount, .ref phiGivesA, .ref phiNextA, .ref takesA])), (firstStepA, .inl (firstStepC, 60, .inl firstStepF)), (lastStepA, .inl (lastStepC, 60, .inl lastStepF))] [(firstStepC, .int), (lastStepC, .int)] sz)) (va_Qi (fun (r : Int32) (_ : Unit) => r = (firstStepF (Int32.toNatClampNeg p0))) (fun _ t => POST dC dI [(h0, .inr (4, [.int blocks, .int limit, .ref stepsO, .ref firstStepA, .ref lastStepA, .ref firstPhiA, .ref lastPhiA, .ref endA, .ref endValueA, .ref firstA, .ref secondA, .ref dominatorA, .ref depthA, .ref waysBeginA, .ref waysA, .ref dominatorsA, .ref loopA, .int phiCount, .ref phiGivesA, .ref phiNextA, .ref takesA])), (firstStepA, .inl (firstStepC, 60, .inl (upd firstStepF (Int32.toNatClampNeg p0) (-1)))), (lastStepA, .inl (lastStepC, 60, .inl (upd lastStepF (Int32.toNatClampNeg p0) (-1))))] [(firstStepC, .int), (lastStepC, .int)] (va_A [(h0, .inr (4, [.int blocks, .int limit, .ref stepsO, .ref firstStepA, .ref lastStepA, .ref firstPhiA, .ref lastPhiA, .ref endA, .ref endValueA, .ref firstA, .ref secondA, .ref dominatorA, .ref depthA, .ref waysBeginA, .ref waysA, .ref dominatorsA, .ref loopA, .int phiCount, .ref phiGivesA, .ref phiNextA, .ref takesA])), (firstStepA, .inl (firstStepC, 60, .inl firstStepF)), (lastStepA, .inl (lastStepC, 60, .inl lastStepF))] sz) t) (va_A [(h0, .inr (4, [.int blocks, .int limit, .ref stepsO, .ref firstStepA, .ref lastStepA, .ref firstPhiA, .ref lastPhiA, .ref endA, .ref endValueA, .ref firstA, .ref secondA, .ref dominatorA, .ref depthA, .ref waysBeginA, .ref waysA, .ref dominatorsA, .ref loopA, .int phiCount, .ref phiGivesA, .ref phiNextA, .ref takesA])), (firstStepA, .inl (firstStepC, 60, .inl firstStepF)), (lastStepA, .inl (lastStepC, 60, .inl lastStepF))] sz)) 0 0 (va_A [(h0, .inr (4, [.int blocks, .int limit, .ref stepsO, .ref firstStepA, .ref lastStepA, .ref firstPhiA, .ref lastPhiA, .ref endA, .ref endValueA, .ref firstA, .ref secondA, .ref dominatorA, .ref depthA, .ref waysBeginA, .ref waysA, .ref dominatorsA, .ref loopA, .int phiCount, .ref phiGivesA, .ref phiNextA, .ref takesA])), (firstStepA, .inl (firstStepC, 60, .inl firstStepF)), (lastStepA, .inl (lastStepC, 60, .inl lastStepF))] sz) := by
  refine Met.ofW (cc := cX1_takeSteps) (maxL := 3) (ret := (Option.some Jvm.ClassFile.FieldType.int)) (by decide) rfl ?_
  intro p e s m args below meth c s₁ B hml hv
  obtain ⟨rfl, hsz, hP, hK, hD0, hE⟩ := hv
  have hx := B.exec
  have hb := B.bytes
  have hr := B.returns
  have hts0 := atoms_spec (ws := wz yX1_takeSteps cX1_takeSteps 3 (Option.some Jvm.ClassFile.FieldType.int)) B.pre
  have hts : ∀ w ∈ gw, w.before _ s = true := fun w h => hts0 w (List.mem_cons_of_mem _ h)
  have hown : s.vm.findClass RX1 = some m.cls := findClass_of_methodNamed B.named
  have hlocks := B.notSynchronized
  subst hsz
  have hD := hD0.self (sz := s.heap.size)
  generalize hAe : va_A [(h0, .inr (4, [.int blocks, .int limit, .ref stepsO, .ref firstStepA, .ref lastStepA, .ref firstPhiA, .ref lastPhiA, .ref endA, .ref endValueA, .ref firstA, .ref secondA, .ref dominatorA, .ref depthA, .ref waysBeginA, .ref waysA, .ref dominatorsA, .ref loopA, .int phiCount, .ref phiGivesA, .ref phiNextA, .ref takesA])), (firstStepA, .inl (firstStepC, 60, .inl firstStepF)), (lastStepA, .inl (lastStepC, 60, .inl lastStepF))] s.heap.size = A at hD hE ⊢
  have hA : ∀ q : Nat, s.heap.size ≤ q → A q := fun q h => by rw [← hAe]; exact Or.inr h
  have hS : va_S A s.heap s.heap [] := va_S.rf
  have hP : va_P (dC, dI) cls [(h0, .inr (4, [.int blocks, .int limit, .ref stepsO, .ref firstStepA, .ref lastStepA, .ref firstPhiA, .ref lastPhiA, .ref endA, .ref endValueA, .ref firstA, .ref secondA, .ref dominatorA, .ref depthA, .ref waysBeginA, .ref waysA, .ref dominatorsA, .ref loopA, .int phiCount, .ref phiGivesA, .ref phiNextA, .ref takesA])), (firstStepA, .inl (firstStepC, 60, .inl firstStepF)), (lastStepA, .inl (lastStepC, 60, .inl lastStepF))] s.heap := hP
  have hl := lv_entry ([.ref h0, .int p0]) (n := 3) (Nat.le_of_ble_eq_true rfl)
  rw [lg_entry_eq]
  generalize (lg_sl ([.ref h0, .int p0]) ++ List.replicate (3 - (lg_sl ([.ref h0, .int p0])).length) Slot.unset).toArray = ls at hl ⊢
  have hl : lv_has ls 3 [(0, .ref h0), (1, .int p0)] := hl
  refine lv_aload_n hx hb dX1_takeSteps_0 rfl (lv_at hl 0 rfl) ?_
  refine va_get (D := (dC, dI)) (ci := 4) (v := .ref firstStepA) (C := RX1) (T := TX1) (N := 21) hx hb hts i_X1 hown hK hP 0 rfl rfl 3 (by decide) (hts _ qw40) (fun _ h9 => h9) rfl dX1_takeSteps_1 ?_
  refine lv_iload_n hx hb dX1_takeSteps_4 rfl (lv_at hl 1 rfl) ?_
  refine va_iald hx hb hK hP 1 0 rfl rfl (hq1) dX1_takeSteps_5 ?_
  refine lv_istore_n (lv' := [(2, .int (firstStepF (Int32.toNatClampNeg p0))), (0, .ref h0), (1, .int p0)]) hx hb dX1_takeSteps_6 rfl hl (by decide) rfl (fun ls hl => ?_)
  refine lv_aload_n hx hb dX1_takeSteps_7 rfl (lv_at hl 1 rfl) ?_
  refine va_get (D := (dC, dI)) (ci := 4) (v := .ref firstStepA) (C := RX1) (T := TX1) (N := 21) hx hb hts i_X1 hown hK hP 0 rfl rfl 3 (by decide) (hts _ qw40) (fun _ h9 => h9) rfl dX1_takeSteps_8 ?_
  refine lv_iload_n hx hb dX1_takeSteps_11 rfl (lv_at hl 2 rfl) ?_
  refine lv_iconst (v := (-1)) hx hb dX1_takeSteps_12 (by decide) ?_
  refine va_iast hx hb hK hP hD hS 1 0 rfl rfl (hq1) dX1_takeSteps_13 (fun H locs hP hD hS => ?_)
  have hP : va_P (dC, dI) cls [(h0, .inr (4, [.int blocks, .int limit, .ref stepsO, .ref firstStepA, .ref lastStepA, .ref firstPhiA, .ref lastPhiA, .ref endA, .ref endValueA, .ref firstA, .ref secondA, .ref dominatorA, .ref depthA, .ref waysBeginA, .ref waysA, .ref dominatorsA, .ref loopA, .int phiCount, .ref phiGivesA, .ref phiNextA, .ref takesA])), (firstStepA, .inl (firstStepC, 60, .inl (upd firstStepF (Int32.toNatClampNeg p0) (-1)))), (lastStepA, .inl (lastStepC, 60, .inl lastStepF))] H := hP
  have hD : va_D A [(h0, .inr (4, [.int blocks, .int limit, .ref stepsO, .ref firstStepA, .ref lastStepA, .ref firstPhiA, .ref lastPhiA, .ref endA, .ref endValueA, .ref firstA, .ref secondA, .ref dominatorA, .ref depthA, .ref waysBeginA, .ref waysA, .ref dominatorsA, .ref loopA, .int phiCount, .ref phiGivesA, .ref phiNextA, .ref takesA])), (firstStepA, .inl (firstStepC, 60, .inl (upd firstStepF (Int32.toNatClampNeg p0) (-1)))), (lastStepA, .inl (lastStepC, 60, .inl lastStepF))] := hD
  refine lv_aload_n hx hb dX1_takeSteps_14 rfl (lv_at hl 1 rfl) ?_
  refine va_get (D := (dC, dI)) (ci := 4) (v := .ref lastStepA) (C := RX1) (T := TX1) (N := 21) hx hb hts i_X1 hown hK hP 0 rfl rfl 4 (by decide) (hts _ qw41) (fun _ h9 => h9) rfl dX1_takeSteps_15 ?_
  refine lv_iload_n hx hb dX1_takeSteps_18 rfl (lv_at hl 2 rfl) ?_
  refine lv_iconst (v := (-1)) hx hb dX1_takeSteps_19 (by decide) ?_
  refine va_iast hx hb hK hP hD hS 2 1 rfl rfl (hq1) dX1_takeSteps_20 (fun H locs hP hD hS => ?_)
  have hP : va_P (dC, dI) cls [(h0, .inr (4, [.int blocks, .int limit, .ref stepsO, .ref firstStepA, .ref lastStepA, .ref firstPhiA, .ref lastPhiA, .ref endA, .ref endValueA, .ref firstA, .ref secondA, .ref dominatorA, .ref depthA, .ref waysBeginA, .ref waysA, .ref dominatorsA, .ref loopA, .int phiCount, .ref phiGivesA, .ref phiNextA, .ref takesA])), (firstStepA, .inl (firstStepC, 60, .inl (upd firstStepF (Int32.toNatClampNeg p0) (-1)))), (lastStepA, .inl (lastStepC, 60, .inl (upd lastStepF (Int32.toNatClampNeg p0) (-1))))] H := hP
  have hD : va_D A [(h0, .inr (4, [.int blocks, .int limit, .ref stepsO, .ref firstStepA, .ref lastStepA, .ref firstPhiA, .ref lastPhiA, .ref endA, .ref endValueA, .ref firstA, .ref secondA, .ref dominatorA, .ref depthA, .ref waysBeginA, .ref waysA, .ref dominatorsA, .ref loopA, .int phiCount, .ref phiGivesA, .ref phiNextA, .ref takesA])), (firstStepA, .inl (firstStepC, 60, .inl (upd firstStepF (Int32.toNatClampNeg p0) (-1)))), (lastStepA, .inl (lastStepC, 60, .inl (upd lastStepF (Int32.toNatClampNeg p0) (-1))))] := hD
  refine lv_iload_n hx hb dX1_takeSteps_21 rfl (lv_at hl 0 rfl) ?_
  have hP9 : va_P (dC, dI) cls [(h0, .inr (4, [.int blocks, .int limit, .ref stepsO, .ref firstStepA, .ref lastStepA, .ref firstPhiA, .ref lastPhiA, .ref endA, .ref endValueA, .ref firstA, .ref secondA, .ref dominatorA, .ref depthA, .ref waysBeginA, .ref waysA, .ref dominatorsA, .ref loopA, .int phiCount, .ref phiGivesA, .ref phiNextA, .ref takesA])), (firstStepA, .inl (firstStepC, 60, .inl (upd firstStepF (Int32.toNatClampNeg p0) (-1)))), (lastStepA, .inl (lastStepC, 60, .inl (upd lastStepF (Int32.toNatClampNeg p0) (-1))))] H := by exact hP.sub [0, 1, 2] rfl
  have hD9 : va_D A [(h0, .inr (4, [.int blocks, .int limit, .ref stepsO, .ref firstStepA, .ref lastStepA, .ref firstPhiA, .ref lastPhiA, .ref endA, .ref endValueA, .ref firstA, .ref secondA, .ref dominatorA, .ref depthA, .ref waysBeginA, .ref waysA, .ref dominatorsA, .ref loopA, .int phiCount, .ref phiGivesA, .ref phiNextA, .ref takesA])), (firstStepA, .inl (firstStepC, 60, .inl (upd firstStepF (Int32.toNatClampNeg p0) (-1)))), (lastStepA, .inl (lastStepC, 60, .inl (upd lastStepF (Int32.toNatClampNeg p0) (-1))))] := by exact hD.sub [0, 1, 2] (by decide) rfl
  have hK9 : va_K (dC, dI) cls [(firstStepC, .int), (lastStepC, .int)] s := hK.sub [0, 1] rfl
  refine W.widen (k := 0) (n := 0) (Nat.le_of_ble_eq_true rfl) (Nat.le_of_ble_eq_true rfl) ?_
  exact W.iret (v := (firstStepF (Int32.toNatClampNeg p0))) hx hb hr (fun t ht hW => ⟨⟨(firstStepF (Int32.toNatClampNeg p0)), (), rfl, rfl, ⟨by rw [ht]; exact hP9, va_K.moved hW.alike hK9, hD9⟩⟩, hS.F ht⟩) hS.2.2 dX1_takeSteps_22
set_option maxHeartbeats 4000000 in
set_option maxRecDepth 100000 in
theorem kX1_wayFrom {zs : Nat × Nat} (l : Launch) (dC : Nat → ClassId) (dI : Nat → Nat → Nat) (h0 : Nat) (blocks : Int32) (limit : Int32) (firstStepA : Nat) (lastStepA : Nat) (firstPhiA : Nat) (lastPhiA : Nat) (endA : Nat) (endValueA : Nat) (firstA : Nat) (secondA : Nat) (dominatorA : Nat) (depthA : Nat) (waysBeginA : Nat) (waysBeginC : ClassId) (waysBeginF : Nat → Int32) (waysA : Nat) (waysC : ClassId) (waysF : Nat → Int32) (dominatorsA : Nat) (loopA : Nat) (phiCount : Int32) (phiGivesA : Nat) (phiNextA : Nat) (takesA : Nat) (stepsO : Nat) (p0 : Int32) (p1 : Int32) (sz : Nat) (hq1 : vp_in p0 61) (hq2 : vp_in ((waysBeginF (Int32.toNatClampNeg p0)) + p1) 120) : Met l yX1_wayFrom (wz yX1_wayFrom cX1_wayFrom 3 (Option.some Jvm.ClassFile.FieldType.int)) ({ frames := 0, cells := 0, slots := 0, locals := 0 }) (va_Pc [.ref h0, .int p0, .int p1] (PRE zs dC dI [(h0, .inr (4, [.int blocks, .int limit, .ref stepsO, .ref firstStepA, .ref lastStepA, .ref firstPhiA, .ref lastPhiA, .ref endA, .ref endValueA, .ref firstA, .ref secondA, .ref dominatorA, .ref depthA, .ref waysBeginA, .ref waysA, .ref dominatorsA, .ref loopA, .int phiCount, .ref phiGivesA, .ref phiNextA, .ref takesA])), (waysBeginA, .inl (waysBeginC, 61, .inl waysBeginF)), (waysA, .inl (waysC, 120, .inl waysF))] [(waysBeginC, .int), (waysC, .int)] sz)) (va_Qi (fun (r : Int32) (_ : Unit) => r = (waysF (Int32.toNatClampNeg ((waysBeginF (Int32.toNatClampNeg p0)) + p1)))) (fun _ t => POST dC dI [(h0, .inr (4, [.int blocks, .int limit, .ref stepsO, .ref firstStepA, .ref lastStepA, .ref firstPhiA, .ref lastPhiA, .ref endA, .ref endValueA, .ref firstA, .ref secondA, .ref dominatorA, .ref depthA, .ref waysBeginA, .ref waysA, .ref dominatorsA, .ref loopA, .int phiCount, .ref phiGivesA, .ref phiNextA, .ref takesA])), (waysBeginA, .inl (waysBeginC, 61, .inl waysBeginF)), (waysA, .inl (waysC, 120, .inl waysF))] [(waysBeginC, .int), (waysC, .int)] (va_A [(h0, .inr (4, [.int blocks, .int limit, .ref stepsO, .ref firstStepA, .ref lastStepA, .ref firstPhiA, .ref lastPhiA, .ref endA, .ref endValueA, .ref firstA, .ref secondA, .ref dominatorA, .ref depthA, .ref waysBeginA, .ref waysA, .ref dominatorsA, .ref loopA, .int phiCount, .ref phiGivesA, .ref phiNextA, .ref takesA])), (waysBeginA, .inl (waysBeginC, 61, .inl waysBeginF)), (waysA, .inl (waysC, 120, .inl waysF))] sz) t) (va_A [(h0, .inr (4, [.int blocks, .int limit, .ref stepsO, .ref firstStepA, .ref lastStepA, .ref firstPhiA, .ref lastPhiA, .ref endA, .ref endValueA, .ref firstA, .ref secondA, .ref dominatorA, .ref depthA, .ref waysBeginA, .ref waysA, .ref dominatorsA, .ref loopA, .int phiCount, .ref phiGivesA, .ref phiNextA, .ref takesA])), (waysBeginA, .inl (waysBeginC, 61, .inl waysBeginF)), (waysA, .inl (waysC, 120, .inl waysF))] sz)) 0 0 (va_A [(h0, .inr (4, [.int blocks, .int limit, .ref stepsO, .ref firstStepA, .ref lastStepA, .ref firstPhiA, .ref lastPhiA, .ref endA, .ref endValueA, .ref firstA, .ref secondA, .ref dominatorA, .ref depthA, .ref waysBeginA, .ref waysA, .ref dominatorsA, .ref loopA, .int phiCount, .ref phiGivesA, .ref phiNextA, .ref takesA])), (waysBeginA, .inl (waysBeginC, 61, .inl waysBeginF)), (waysA, .inl (waysC, 120, .inl waysF))] sz) := by
  refine Met.ofW (cc := cX1_wayFrom) (maxL := 3) (ret := (Option.some Jvm.ClassFile.FieldType.int)) (by decide) rfl ?_
  intro p e s m args below meth c s₁ B hml hv
  obtain ⟨rfl, hsz, hP, hK, hD0, hE⟩ := hv
  have hx := B.exec
  have hb := B.bytes
  have hr := B.returns
  have hts0 := atoms_spec (ws := wz yX1_wayFrom cX1_wayFrom 3 (Option.some Jvm.ClassFile.FieldType.int)) B.pre
  have hts : ∀ w ∈ gw, w.before _ s = true := fun w h => hts0 w (List.mem_cons_of_mem _ h)
  have hown : s.vm.findClass RX1 = some m.cls := findClass_of_methodNamed B.named
  have hlocks := B.notSynchronized
  subst hsz
  have hD := hD0.self (sz := s.heap.size)
  generalize hAe : va_A [(h0, .inr (4, [.int blocks, .int limit, .ref stepsO, .ref firstStepA, .ref lastStepA, .ref firstPhiA, .ref lastPhiA, .ref endA, .ref endValueA, .ref firstA, .ref secondA, .ref dominatorA, .ref depthA, .ref waysBeginA, .ref waysA, .ref dominatorsA, .ref loopA, .int phiCount, .ref phiGivesA, .ref phiNextA, .ref takesA])), (waysBeginA, .inl (waysBeginC, 61, .inl waysBeginF)), (waysA, .inl (waysC, 120, .inl waysF))] s.heap.size = A at hD hE ⊢
  have hA : ∀ q : Nat, s.heap.size ≤ q → A q := fun q h => by rw [← hAe]; exact Or.inr h
  have hS : va_S A s.heap s.heap [] := va_S.rf
  have hP : va_P (dC, dI) cls [(h0, .inr (4, [.int blocks, .int limit, .ref stepsO, .ref firstStepA, .ref lastStepA, .ref firstPhiA, .ref lastPhiA, .ref endA, .ref endValueA, .ref firstA, .ref secondA, .ref dominatorA, .ref depthA, .ref waysBeginA, .ref waysA, .ref dominatorsA, .ref loopA, .int phiCount, .ref phiGivesA, .ref phiNextA, .ref takesA])), (waysBeginA, .inl (waysBeginC, 61, .inl waysBeginF)), (waysA, .inl (waysC, 120, .inl waysF))] s.heap := hP
  have hl := lv_entry ([.ref h0, .int p0, .int p1]) (n := 3) (Nat.le_of_ble_eq_true rfl)
  rw [lg_entry_eq]
  generalize (lg_sl ([.ref h0, .int p0, .int p1]) ++ List.replicate (3 - (lg_sl ([.ref h0, .int p0, .int p1])).length) Slot.unset).toArray = ls at hl ⊢
  have hl : lv_has ls 3 [(0, .ref h0), (1, .int p0), (2, .int p1)] := hl
  refine lv_aload_n hx hb dX1_wayFrom_0 rfl (lv_at hl 0 rfl) ?_
  refine va_get (D := (dC, dI)) (ci := 4) (v := .ref waysA) (C := RX1) (T := TX1) (N := 21) hx hb hts i_X1 hown hK hP 0 rfl rfl 14 (by decide) (hts _ qw51) (fun _ h9 => h9) rfl dX1_wayFrom_1 ?_
  refine lv_aload_n hx hb dX1_wayFrom_4 rfl (lv_at hl 0 rfl) ?_
  refine va_get (D := (dC, dI)) (ci := 4) (v := .ref waysBeginA) (C := RX1) (T := TX1) (N := 21) hx hb hts i_X1 hown hK hP 0 rfl rfl 13 (by decide) (hts _ qw50) (fun _ h9 => h9) rfl dX1_wayFrom_5 ?_
  refine lv_iload_n hx hb dX1_wayFrom_8 rfl (lv_at hl 1 rfl) ?_
  refine va_iald hx hb hK hP 1 0 rfl rfl (hq1) dX1_wayFrom_9 ?_
  refine lv_iload_n hx hb dX1_wayFrom_10 rfl (lv_at hl 2 rfl) ?_
  refine lv_iadd hx hb dX1_wayFrom_11 ?_
  refine va_iald hx hb hK hP 2 1 rfl rfl (hq2) dX1_wayFrom_12 ?_
  have hP9 : va_P (dC, dI) cls [(h0, .inr (4, [.int blocks, .int limit, .ref stepsO, .ref firstStepA, .ref lastStepA, .ref firstPhiA, .ref lastPhiA, .ref endA, .ref endValueA, .ref firstA, .ref secondA, .ref dominatorA, .ref depthA, .ref waysBeginA, .ref waysA, .ref dominatorsA, .ref loopA, .int phiCount, .ref phiGivesA, .ref phiNextA, .ref takesA])), (waysBeginA, .inl (waysBeginC, 61, .inl waysBeginF)), (waysA, .inl (waysC, 120, .inl waysF))] s.heap := by exact hP.sub [0, 1, 2] rfl
  have hD9 : va_D A [(h0, .inr (4, [.int blocks, .int limit, .ref stepsO, .ref firstStepA, .ref lastStepA, .ref firstPhiA, .ref lastPhiA, .ref endA, .ref endValueA, .ref firstA, .ref secondA, .ref dominatorA, .ref depthA, .ref waysBeginA, .ref waysA, .ref dominatorsA, .ref loopA, .int phiCount, .ref phiGivesA, .ref phiNextA, .ref takesA])), (waysBeginA, .inl (waysBeginC, 61, .inl waysBeginF)), (waysA, .inl (waysC, 120, .inl waysF))] := by exact hD.sub [0, 1, 2] (by decide) rfl
  have hK9 : va_K (dC, dI) cls [(waysBeginC, .int), (waysC, .int)] s := hK.sub [0, 1] rfl
  refine W.widen (k := 0) (n := 0) (Nat.le_of_ble_eq_true rfl) (Nat.le_of_ble_eq_true rfl) ?_
  exact W.iret (v := (waysF (Int32.toNatClampNeg ((waysBeginF (Int32.toNatClampNeg p0)) + p1)))) hx hb hr (fun t ht hW => ⟨⟨(waysF (Int32.toNatClampNeg ((waysBeginF (Int32.toNatClampNeg p0)) + p1))), (), rfl, rfl, ⟨by rw [ht]; exact hP9, va_K.moved hW.alike hK9, hD9⟩⟩, hS.F ht⟩) hS.2.2 dX1_wayFrom_13
set_option maxHeartbeats 4000000 in
set_option maxRecDepth 100000 in
theorem kX1_waysTo {zs : Nat × Nat} (l : Launch) (dC : Nat → ClassId) (dI : Nat → Nat → Nat) (h0 : Nat) (blocks : Int32) (limit : Int32) (firstStepA : Nat) (lastStepA : Nat) (firstPhiA : Nat) (lastPhiA : Nat) (endA : Nat) (endValueA : Nat) (firstA : Nat) (secondA : Nat) (dominatorA : Nat) (depthA : Nat) (waysBeginA : Nat) (waysBeginC : ClassId) (waysBeginF : Nat → Int32) (waysA : Nat) (dominatorsA : Nat) (loopA : Nat) (phiCount : Int32) (phiGivesA : Nat) (phiNextA : Nat) (takesA : Nat) (stepsO : Nat) (p0 : Int32) (sz : Nat) (hq1 : vp_in (p0 + 1) 61) (hq2 : vp_in p0 61) : Met l yX1_waysTo (wz yX1_waysTo cX1_waysTo 2 (Option.some Jvm.ClassFile.FieldType.int)) ({ frames := 0, cells := 0, slots := 0, locals := 0 }) (va_Pc [.ref h0, .int p0] (PRE zs dC dI [(h0, .inr (4, [.int blocks, .int limit, .ref stepsO, .ref firstStepA, .ref lastStepA, .ref firstPhiA, .ref lastPhiA, .ref endA, .ref endValueA, .ref firstA, .ref secondA, .ref dominatorA, .ref depthA, .ref waysBeginA, .ref waysA, .ref dominatorsA, .ref loopA, .int phiCount, .ref phiGivesA, .ref phiNextA, .ref takesA])), (waysBeginA, .inl (waysBeginC, 61, .inl waysBeginF))] [(waysBeginC, .int)] sz)) (va_Qi (fun (r : Int32) (_ : Unit) => r = ((waysBeginF (Int32.toNatClampNeg (p0 + 1))) - (waysBeginF (Int32.toNatClampNeg p0)))) (fun _ t => POST dC dI [(h0, .inr (4, [.int blocks, .int limit, .ref stepsO, .ref firstStepA, .ref lastStepA, .ref firstPhiA, .ref lastPhiA, .ref endA, .ref endValueA, .ref firstA, .ref secondA, .ref dominatorA, .ref depthA, .ref waysBeginA, .ref waysA, .ref dominatorsA, .ref loopA, .int phiCount, .ref phiGivesA, .ref phiNextA, .ref takesA])), (waysBeginA, .inl (waysBeginC, 61, .inl waysBeginF))] [(waysBeginC, .int)] (va_A [(h0, .inr (4, [.int blocks, .int limit, .ref stepsO, .ref firstStepA, .ref lastStepA, .ref firstPhiA, .ref lastPhiA, .ref endA, .ref endValueA, .ref firstA, .ref secondA, .ref dominatorA, .ref depthA, .ref waysBeginA, .ref waysA, .ref dominatorsA, .ref loopA, .int phiCount, .ref phiGivesA, .ref phiNextA, .ref takesA])), (waysBeginA, .inl (waysBeginC, 61, .inl waysBeginF))] sz) t) (va_A [(h0, .inr (4, [.int blocks, .int limit, .ref stepsO, .ref firstStepA, .ref lastStepA, .ref firstPhiA, .ref lastPhiA, .ref endA, .ref endValueA, .ref firstA, .ref secondA, .ref dominatorA, .ref depthA, .ref waysBeginA, .ref waysA, .ref dominatorsA, .ref loopA, .int phiCount, .ref phiGivesA, .ref phiNextA, .ref takesA])), (waysBeginA, .inl (waysBeginC, 61, .inl waysBeginF))] sz)) 0 0 (va_A [(h0, .inr (4, [.int blocks, .int limit, .ref stepsO, .ref firstStepA, .ref lastStepA, .ref firstPhiA, .ref lastPhiA, .ref endA, .ref endValueA, .ref firstA, .ref secondA, .ref dominatorA, .ref depthA, .ref waysBeginA, .ref waysA, .ref dominatorsA, .ref loopA, .int phiCount, .ref phiGivesA, .ref phiNextA, .ref takesA])), (waysBeginA, .inl (waysBeginC, 61, .inl waysBeginF))] sz) := by
  refine Met.ofW (cc := cX1_waysTo) (maxL := 2) (ret := (Option.some Jvm.ClassFile.FieldType.int)) (by decide) rfl ?_
  intro p e s m args below meth c s₁ B hml hv
  obtain ⟨rfl, hsz, hP, hK, hD0, hE⟩ := hv
  have hx := B.exec
  have hb := B.bytes
  have hr := B.returns
  have hts0 := atoms_spec (ws := wz yX1_waysTo cX1_waysTo 2 (Option.some Jvm.ClassFile.FieldType.int)) B.pre
  have hts : ∀ w ∈ gw, w.before _ s = true := fun w h => hts0 w (List.mem_cons_of_mem _ h)
  have hown : s.vm.findClass RX1 = some m.cls := findClass_of_methodNamed B.named
  have hlocks := B.notSynchronized
  subst hsz
  have hD := hD0.self (sz := s.heap.size)
  generalize hAe : va_A [(h0, .inr (4, [.int blocks, .int limit, .ref stepsO, .ref firstStepA, .ref lastStepA, .ref firstPhiA, .ref lastPhiA, .ref endA, .ref endValueA, .ref firstA, .ref secondA, .ref dominatorA, .ref depthA, .ref waysBeginA, .ref waysA, .ref dominatorsA, .ref loopA, .int phiCount, .ref phiGivesA, .ref phiNextA, .ref takesA])), (waysBeginA, .inl (waysBeginC, 61, .inl waysBeginF))] s.heap.size = A at hD hE ⊢
  have hA : ∀ q : Nat, s.heap.size ≤ q → A q := fun q h => by rw [← hAe]; exact Or.inr h
  have hS : va_S A s.heap s.heap [] := va_S.rf
  have hP : va_P (dC, dI) cls [(h0, .inr (4, [.int blocks, .int limit, .ref stepsO, .ref firstStepA, .ref lastStepA, .ref firstPhiA, .ref lastPhiA, .ref endA, .ref endValueA, .ref firstA, .ref secondA, .ref dominatorA, .ref depthA, .ref waysBeginA, .ref waysA, .ref dominatorsA, .ref loopA, .int phiCount, .ref phiGivesA, .ref phiNextA, .ref takesA])), (waysBeginA, .inl (waysBeginC, 61, .inl waysBeginF))] s.heap := hP
  have hl := lv_entry ([.ref h0, .int p0]) (n := 2) (Nat.le_of_ble_eq_true rfl)
  rw [lg_entry_eq]
  generalize (lg_sl ([.ref h0, .int p0]) ++ List.replicate (2 - (lg_sl ([.ref h0, .int p0])).length) Slot.unset).toArray = ls at hl ⊢
  have hl : lv_has ls 2 [(0, .ref h0), (1, .int p0)] := hl
  refine lv_aload_n hx hb dX1_waysTo_0 rfl (lv_at hl 0 rfl) ?_
  refine va_get (D := (dC, dI)) (ci := 4) (v := .ref waysBeginA) (C := RX1) (T := TX1) (N := 21) hx hb hts i_X1 hown hK hP 0 rfl rfl 13 (by decide) (hts _ qw50) (fun _ h9 => h9) rfl dX1_waysTo_1 ?_
  refine lv_iload_n hx hb dX1_waysTo_4 rfl (lv_at hl 1 rfl) ?_
  refine lv_iconst (v := 1) hx hb dX1_waysTo_5 (by decide) ?_
  refine lv_iadd hx hb dX1_waysTo_6 ?_
  refine va_iald hx hb hK hP 1 0 rfl rfl (hq1) dX1_waysTo_7 ?_
  refine lv_aload_n hx hb dX1_waysTo_8 rfl (lv_at hl 0 rfl) ?_
  refine va_get (D := (dC, dI)) (ci := 4) (v := .ref waysBeginA) (C := RX1) (T := TX1) (N := 21) hx hb hts i_X1 hown hK hP 0 rfl rfl 13 (by decide) (hts _ qw50) (fun _ h9 => h9) rfl dX1_waysTo_9 ?_
  refine lv_iload_n hx hb dX1_waysTo_12 rfl (lv_at hl 1 rfl) ?_
  refine va_iald hx hb hK hP 1 0 rfl rfl (hq2) dX1_waysTo_13 ?_
  refine lv_isub hx hb dX1_waysTo_14 ?_
  have hP9 : va_P (dC, dI) cls [(h0, .inr (4, [.int blocks, .int limit, .ref stepsO, .ref firstStepA, .ref lastStepA, .ref firstPhiA, .ref lastPhiA, .ref endA, .ref endValueA, .ref firstA, .ref secondA, .ref dominatorA, .ref depthA, .ref waysBeginA, .ref waysA, .ref dominatorsA, .ref loopA, .int phiCount, .ref phiGivesA, .ref phiNextA, .ref takesA])), (waysBeginA, .inl (waysBeginC, 61, .inl waysBeginF))] s.heap := by exact hP.sub [0, 1] rfl
  have hD9 : va_D A [(h0, .inr (4, [.int blocks, .int limit, .ref stepsO, .ref firstStepA, .ref lastStepA, .ref firstPhiA, .ref lastPhiA, .ref endA, .ref endValueA, .ref firstA, .ref secondA, .ref dominatorA, .ref depthA, .ref waysBeginA, .ref waysA, .ref dominatorsA, .ref loopA, .int phiCount, .ref phiGivesA, .ref phiNextA, .ref takesA])), (waysBeginA, .inl (waysBeginC, 61, .inl waysBeginF))] := by exact hD.sub [0, 1] (by decide) rfl
  have hK9 : va_K (dC, dI) cls [(waysBeginC, .int)] s := hK.sub [0] rfl
  refine W.widen (k := 0) (n := 0) (Nat.le_of_ble_eq_true rfl) (Nat.le_of_ble_eq_true rfl) ?_
  exact W.iret (v := ((waysBeginF (Int32.toNatClampNeg (p0 + 1))) - (waysBeginF (Int32.toNatClampNeg p0)))) hx hb hr (fun t ht hW => ⟨⟨((waysBeginF (Int32.toNatClampNeg (p0 + 1))) - (waysBeginF (Int32.toNatClampNeg p0))), (), rfl, rfl, ⟨by rw [ht]; exact hP9, va_K.moved hW.alike hK9, hD9⟩⟩, hS.F ht⟩) hS.2.2 dX1_waysTo_15
