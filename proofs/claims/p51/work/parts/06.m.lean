abbrev cX1_countSteps : ByteArray := prog_3_method_11_code
def yX1_countSteps : MethodName := ⟨RX1, "countSteps", "(I)I"⟩
abbrev cX1_link : ByteArray := prog_3_method_9_code
def yX1_link : MethodName := ⟨RX1, "link", "(II)V"⟩
abbrev cX1_linkPhi : ByteArray := prog_3_method_14_code
def yX1_linkPhi : MethodName := ⟨RX1, "linkPhi", "(II)V"⟩
abbrev cX1_takeSteps : ByteArray := prog_3_method_10_code
def yX1_takeSteps : MethodName := ⟨RX1, "takeSteps", "(I)I"⟩
abbrev cX1_waysTo : ByteArray := prog_3_method_5_code
def yX1_waysTo : MethodName := ⟨RX1, "waysTo", "(I)I"⟩
abbrev cX2_bitIn : ByteArray := prog_4_method_16_code
def yX2_bitIn : MethodName := ⟨RX2, "bitIn", "(II)J"⟩
abbrev cX2_isIn : ByteArray := prog_4_method_7_code
def yX2_isIn : MethodName := ⟨RX2, "isIn", "([JII)Z"⟩
abbrev cX11_holds : ByteArray := prog_1_method_69_code
def yX11_holds : MethodName := ⟨RX11, "holds", "(JI)Z"⟩
abbrev cX2_lowerLeft : ByteArray := prog_4_method_24_code
def yX2_lowerLeft : MethodName := ⟨RX2, "lowerLeft", "(I)V"⟩
theorem dX11_holds_0 : decode cX11_holds 0 = .ok (.lload_n 0, 1) := by decide +kernel
theorem dX11_holds_1 : decode cX11_holds 1 = .ok (.iload_n 2, 1) := by decide +kernel
theorem dX11_holds_2 : decode cX11_holds 2 = .ok (.lushr, 1) := by decide +kernel
theorem dX11_holds_3 : decode cX11_holds 3 = .ok (.lconst 1, 1) := by decide +kernel
theorem dX11_holds_4 : decode cX11_holds 4 = .ok (.land, 1) := by decide +kernel
theorem dX11_holds_5 : decode cX11_holds 5 = .ok (.lconst 0, 1) := by decide +kernel
theorem dX11_holds_6 : decode cX11_holds 6 = .ok (.lcmp, 1) := by decide +kernel
theorem dX11_holds_7 : decode cX11_holds 7 = .ok (.ifCond .eq 7, 3) := by decide +kernel
theorem dX11_holds_10 : decode cX11_holds 10 = .ok (.iconst 1, 1) := by decide +kernel
theorem dX11_holds_11 : decode cX11_holds 11 = .ok (.goto 4, 3) := by decide +kernel
theorem dX11_holds_14 : decode cX11_holds 14 = .ok (.iconst 0, 1) := by decide +kernel
theorem dX11_holds_15 : decode cX11_holds 15 = .ok (.ireturn, 1) := by decide +kernel
theorem dX1_countSteps_0 : decode cX1_countSteps 0 = .ok (.iconst 0, 1) := by decide +kernel
theorem dX1_countSteps_1 : decode cX1_countSteps 1 = .ok (.istore_n 2, 1) := by decide +kernel
theorem dX1_countSteps_2 : decode cX1_countSteps 2 = .ok (.aload_n 0, 1) := by decide +kernel
theorem dX1_countSteps_3 : decode cX1_countSteps 3 = .ok (.getfield 20, 3) := by decide +kernel
theorem dX1_countSteps_6 : decode cX1_countSteps 6 = .ok (.iload_n 1, 1) := by decide +kernel
theorem dX1_countSteps_7 : decode cX1_countSteps 7 = .ok (.iaload, 1) := by decide +kernel
theorem dX1_countSteps_8 : decode cX1_countSteps 8 = .ok (.istore_n 3, 1) := by decide +kernel
theorem dX1_countSteps_9 : decode cX1_countSteps 9 = .ok (.iload_n 3, 1) := by decide +kernel
theorem dX1_countSteps_10 : decode cX1_countSteps 10 = .ok (.ifCond .lt 19, 3) := by decide +kernel
theorem dX1_countSteps_13 : decode cX1_countSteps 13 = .ok (.iinc 2 1, 3) := by decide +kernel
theorem dX1_countSteps_16 : decode cX1_countSteps 16 = .ok (.aload_n 0, 1) := by decide +kernel
theorem dX1_countSteps_17 : decode cX1_countSteps 17 = .ok (.getfield 16, 3) := by decide +kernel
theorem dX1_countSteps_20 : decode cX1_countSteps 20 = .ok (.getfield 119, 3) := by decide +kernel
theorem dX1_countSteps_23 : decode cX1_countSteps 23 = .ok (.iload_n 3, 1) := by decide +kernel
theorem dX1_countSteps_24 : decode cX1_countSteps 24 = .ok (.iaload, 1) := by decide +kernel
theorem dX1_countSteps_25 : decode cX1_countSteps 25 = .ok (.istore_n 3, 1) := by decide +kernel
theorem dX1_countSteps_26 : decode cX1_countSteps 26 = .ok (.goto (-17), 3) := by decide +kernel
theorem dX1_countSteps_29 : decode cX1_countSteps 29 = .ok (.iload_n 2, 1) := by decide +kernel
theorem dX1_countSteps_30 : decode cX1_countSteps 30 = .ok (.ireturn, 1) := by decide +kernel
theorem dX1_link_0 : decode cX1_link 0 = .ok (.aload_n 0, 1) := by decide +kernel
theorem dX1_link_1 : decode cX1_link 1 = .ok (.getfield 16, 3) := by decide +kernel
theorem dX1_link_4 : decode cX1_link 4 = .ok (.getfield 119, 3) := by decide +kernel
theorem dX1_link_7 : decode cX1_link 7 = .ok (.iload_n 2, 1) := by decide +kernel
theorem dX1_link_8 : decode cX1_link 8 = .ok (.iconst (-1), 1) := by decide +kernel
theorem dX1_link_9 : decode cX1_link 9 = .ok (.iastore, 1) := by decide +kernel
theorem dX1_link_10 : decode cX1_link 10 = .ok (.aload_n 0, 1) := by decide +kernel
theorem dX1_link_11 : decode cX1_link 11 = .ok (.getfield 20, 3) := by decide +kernel
theorem dX1_link_14 : decode cX1_link 14 = .ok (.iload_n 1, 1) := by decide +kernel
theorem dX1_link_15 : decode cX1_link 15 = .ok (.iaload, 1) := by decide +kernel
theorem dX1_link_16 : decode cX1_link 16 = .ok (.ifCond .ge 13, 3) := by decide +kernel
theorem dX1_link_19 : decode cX1_link 19 = .ok (.aload_n 0, 1) := by decide +kernel
theorem dX1_link_20 : decode cX1_link 20 = .ok (.getfield 20, 3) := by decide +kernel
theorem dX1_link_23 : decode cX1_link 23 = .ok (.iload_n 1, 1) := by decide +kernel
theorem dX1_link_24 : decode cX1_link 24 = .ok (.iload_n 2, 1) := by decide +kernel
theorem dX1_link_25 : decode cX1_link 25 = .ok (.iastore, 1) := by decide +kernel
theorem dX1_link_26 : decode cX1_link 26 = .ok (.goto 18, 3) := by decide +kernel
theorem dX1_link_29 : decode cX1_link 29 = .ok (.aload_n 0, 1) := by decide +kernel
theorem dX1_link_30 : decode cX1_link 30 = .ok (.getfield 16, 3) := by decide +kernel
theorem dX1_link_33 : decode cX1_link 33 = .ok (.getfield 119, 3) := by decide +kernel
theorem dX1_link_36 : decode cX1_link 36 = .ok (.aload_n 0, 1) := by decide +kernel
theorem dX1_link_37 : decode cX1_link 37 = .ok (.getfield 24, 3) := by decide +kernel
theorem dX1_link_40 : decode cX1_link 40 = .ok (.iload_n 1, 1) := by decide +kernel
theorem dX1_link_41 : decode cX1_link 41 = .ok (.iaload, 1) := by decide +kernel
theorem dX1_link_42 : decode cX1_link 42 = .ok (.iload_n 2, 1) := by decide +kernel
theorem dX1_link_43 : decode cX1_link 43 = .ok (.iastore, 1) := by decide +kernel
theorem dX1_link_44 : decode cX1_link 44 = .ok (.aload_n 0, 1) := by decide +kernel
theorem dX1_link_45 : decode cX1_link 45 = .ok (.getfield 24, 3) := by decide +kernel
theorem dX1_link_48 : decode cX1_link 48 = .ok (.iload_n 1, 1) := by decide +kernel
theorem dX1_link_49 : decode cX1_link 49 = .ok (.iload_n 2, 1) := by decide +kernel
theorem dX1_link_50 : decode cX1_link 50 = .ok (.iastore, 1) := by decide +kernel
theorem dX1_link_51 : decode cX1_link 51 = .ok (.return_, 1) := by decide +kernel
theorem dX1_linkPhi_0 : decode cX1_linkPhi 0 = .ok (.aload_n 0, 1) := by decide +kernel
theorem dX1_linkPhi_1 : decode cX1_linkPhi 1 = .ok (.getfield 67, 3) := by decide +kernel
theorem dX1_linkPhi_4 : decode cX1_linkPhi 4 = .ok (.iload_n 2, 1) := by decide +kernel
theorem dX1_linkPhi_5 : decode cX1_linkPhi 5 = .ok (.iconst (-1), 1) := by decide +kernel
theorem dX1_linkPhi_6 : decode cX1_linkPhi 6 = .ok (.iastore, 1) := by decide +kernel
theorem dX1_linkPhi_7 : decode cX1_linkPhi 7 = .ok (.aload_n 0, 1) := by decide +kernel
theorem dX1_linkPhi_8 : decode cX1_linkPhi 8 = .ok (.getfield 27, 3) := by decide +kernel
theorem dX1_linkPhi_11 : decode cX1_linkPhi 11 = .ok (.iload_n 1, 1) := by decide +kernel
theorem dX1_linkPhi_12 : decode cX1_linkPhi 12 = .ok (.iaload, 1) := by decide +kernel
theorem dX1_linkPhi_13 : decode cX1_linkPhi 13 = .ok (.ifCond .ge 13, 3) := by decide +kernel
theorem dX1_linkPhi_16 : decode cX1_linkPhi 16 = .ok (.aload_n 0, 1) := by decide +kernel
theorem dX1_linkPhi_17 : decode cX1_linkPhi 17 = .ok (.getfield 27, 3) := by decide +kernel
theorem dX1_linkPhi_20 : decode cX1_linkPhi 20 = .ok (.iload_n 1, 1) := by decide +kernel
theorem dX1_linkPhi_21 : decode cX1_linkPhi 21 = .ok (.iload_n 2, 1) := by decide +kernel
theorem dX1_linkPhi_22 : decode cX1_linkPhi 22 = .ok (.iastore, 1) := by decide +kernel
theorem dX1_linkPhi_23 : decode cX1_linkPhi 23 = .ok (.goto 15, 3) := by decide +kernel
theorem dX1_linkPhi_26 : decode cX1_linkPhi 26 = .ok (.aload_n 0, 1) := by decide +kernel
theorem dX1_linkPhi_27 : decode cX1_linkPhi 27 = .ok (.getfield 67, 3) := by decide +kernel
theorem dX1_linkPhi_30 : decode cX1_linkPhi 30 = .ok (.aload_n 0, 1) := by decide +kernel
theorem dX1_linkPhi_31 : decode cX1_linkPhi 31 = .ok (.getfield 30, 3) := by decide +kernel
theorem dX1_linkPhi_34 : decode cX1_linkPhi 34 = .ok (.iload_n 1, 1) := by decide +kernel
theorem dX1_linkPhi_35 : decode cX1_linkPhi 35 = .ok (.iaload, 1) := by decide +kernel
theorem dX1_linkPhi_36 : decode cX1_linkPhi 36 = .ok (.iload_n 2, 1) := by decide +kernel
theorem dX1_linkPhi_37 : decode cX1_linkPhi 37 = .ok (.iastore, 1) := by decide +kernel
theorem dX1_linkPhi_38 : decode cX1_linkPhi 38 = .ok (.aload_n 0, 1) := by decide +kernel
theorem dX1_linkPhi_39 : decode cX1_linkPhi 39 = .ok (.getfield 30, 3) := by decide +kernel
theorem dX1_linkPhi_42 : decode cX1_linkPhi 42 = .ok (.iload_n 1, 1) := by decide +kernel
theorem dX1_linkPhi_43 : decode cX1_linkPhi 43 = .ok (.iload_n 2, 1) := by decide +kernel
theorem dX1_linkPhi_44 : decode cX1_linkPhi 44 = .ok (.iastore, 1) := by decide +kernel
theorem dX1_linkPhi_45 : decode cX1_linkPhi 45 = .ok (.return_, 1) := by decide +kernel
theorem dX1_takeSteps_0 : decode cX1_takeSteps 0 = .ok (.aload_n 0, 1) := by decide +kernel
theorem dX1_takeSteps_1 : decode cX1_takeSteps 1 = .ok (.getfield 20, 3) := by decide +kernel
theorem dX1_takeSteps_4 : decode cX1_takeSteps 4 = .ok (.iload_n 1, 1) := by decide +kernel
theorem dX1_takeSteps_5 : decode cX1_takeSteps 5 = .ok (.iaload, 1) := by decide +kernel
theorem dX1_takeSteps_6 : decode cX1_takeSteps 6 = .ok (.istore_n 2, 1) := by decide +kernel
theorem dX1_takeSteps_7 : decode cX1_takeSteps 7 = .ok (.aload_n 0, 1) := by decide +kernel
theorem dX1_takeSteps_8 : decode cX1_takeSteps 8 = .ok (.getfield 20, 3) := by decide +kernel
theorem dX1_takeSteps_11 : decode cX1_takeSteps 11 = .ok (.iload_n 1, 1) := by decide +kernel
theorem dX1_takeSteps_12 : decode cX1_takeSteps 12 = .ok (.iconst (-1), 1) := by decide +kernel
theorem dX1_takeSteps_13 : decode cX1_takeSteps 13 = .ok (.iastore, 1) := by decide +kernel
theorem dX1_takeSteps_14 : decode cX1_takeSteps 14 = .ok (.aload_n 0, 1) := by decide +kernel
theorem dX1_takeSteps_15 : decode cX1_takeSteps 15 = .ok (.getfield 24, 3) := by decide +kernel
theorem dX1_takeSteps_18 : decode cX1_takeSteps 18 = .ok (.iload_n 1, 1) := by decide +kernel
theorem dX1_takeSteps_19 : decode cX1_takeSteps 19 = .ok (.iconst (-1), 1) := by decide +kernel
theorem dX1_takeSteps_20 : decode cX1_takeSteps 20 = .ok (.iastore, 1) := by decide +kernel
theorem dX1_takeSteps_21 : decode cX1_takeSteps 21 = .ok (.iload_n 2, 1) := by decide +kernel
theorem dX1_takeSteps_22 : decode cX1_takeSteps 22 = .ok (.ireturn, 1) := by decide +kernel
theorem dX1_waysTo_0 : decode cX1_waysTo 0 = .ok (.aload_n 0, 1) := by decide +kernel
theorem dX1_waysTo_1 : decode cX1_waysTo 1 = .ok (.getfield 51, 3) := by decide +kernel
theorem dX1_waysTo_4 : decode cX1_waysTo 4 = .ok (.iload_n 1, 1) := by decide +kernel
theorem dX1_waysTo_5 : decode cX1_waysTo 5 = .ok (.iconst 1, 1) := by decide +kernel
theorem dX1_waysTo_6 : decode cX1_waysTo 6 = .ok (.iadd, 1) := by decide +kernel
theorem dX1_waysTo_7 : decode cX1_waysTo 7 = .ok (.iaload, 1) := by decide +kernel
theorem dX1_waysTo_8 : decode cX1_waysTo 8 = .ok (.aload_n 0, 1) := by decide +kernel
theorem dX1_waysTo_9 : decode cX1_waysTo 9 = .ok (.getfield 51, 3) := by decide +kernel
theorem dX1_waysTo_12 : decode cX1_waysTo 12 = .ok (.iload_n 1, 1) := by decide +kernel
theorem dX1_waysTo_13 : decode cX1_waysTo 13 = .ok (.iaload, 1) := by decide +kernel
theorem dX1_waysTo_14 : decode cX1_waysTo 14 = .ok (.isub, 1) := by decide +kernel
theorem dX1_waysTo_15 : decode cX1_waysTo 15 = .ok (.ireturn, 1) := by decide +kernel
theorem dX2_bitIn_0 : decode cX2_bitIn 0 = .ok (.iload_n 2, 1) := by decide +kernel
theorem dX2_bitIn_1 : decode cX2_bitIn 1 = .ok (.ifCond .lt 28, 3) := by decide +kernel
theorem dX2_bitIn_4 : decode cX2_bitIn 4 = .ok (.iload_n 2, 1) := by decide +kernel
theorem dX2_bitIn_5 : decode cX2_bitIn 5 = .ok (.aload_n 0, 1) := by decide +kernel
theorem dX2_bitIn_6 : decode cX2_bitIn 6 = .ok (.getfield 58, 3) := by decide +kernel
theorem dX2_bitIn_9 : decode cX2_bitIn 9 = .ok (.if_icmp .ge 20, 3) := by decide +kernel
theorem dX2_bitIn_12 : decode cX2_bitIn 12 = .ok (.iload_n 2, 1) := by decide +kernel
theorem dX2_bitIn_13 : decode cX2_bitIn 13 = .ok (.bipush 6, 2) := by decide +kernel
theorem dX2_bitIn_15 : decode cX2_bitIn 15 = .ok (.ishr, 1) := by decide +kernel
theorem dX2_bitIn_16 : decode cX2_bitIn 16 = .ok (.iload_n 1, 1) := by decide +kernel
theorem dX2_bitIn_17 : decode cX2_bitIn 17 = .ok (.if_icmp .ne 12, 3) := by decide +kernel
theorem dX2_bitIn_20 : decode cX2_bitIn 20 = .ok (.lconst 1, 1) := by decide +kernel
theorem dX2_bitIn_21 : decode cX2_bitIn 21 = .ok (.iload_n 2, 1) := by decide +kernel
theorem dX2_bitIn_22 : decode cX2_bitIn 22 = .ok (.bipush 63, 2) := by decide +kernel
theorem dX2_bitIn_24 : decode cX2_bitIn 24 = .ok (.iand, 1) := by decide +kernel
theorem dX2_bitIn_25 : decode cX2_bitIn 25 = .ok (.lshl, 1) := by decide +kernel
theorem dX2_bitIn_26 : decode cX2_bitIn 26 = .ok (.goto 4, 3) := by decide +kernel
theorem dX2_bitIn_29 : decode cX2_bitIn 29 = .ok (.lconst 0, 1) := by decide +kernel
theorem dX2_bitIn_30 : decode cX2_bitIn 30 = .ok (.lreturn, 1) := by decide +kernel
theorem dX2_isIn_0 : decode cX2_isIn 0 = .ok (.aload_n 1, 1) := by decide +kernel
theorem dX2_isIn_1 : decode cX2_isIn 1 = .ok (.iload_n 2, 1) := by decide +kernel
theorem dX2_isIn_2 : decode cX2_isIn 2 = .ok (.aload_n 0, 1) := by decide +kernel
theorem dX2_isIn_3 : decode cX2_isIn 3 = .ok (.getfield 65, 3) := by decide +kernel
theorem dX2_isIn_6 : decode cX2_isIn 6 = .ok (.imul, 1) := by decide +kernel
theorem dX2_isIn_7 : decode cX2_isIn 7 = .ok (.iload_n 3, 1) := by decide +kernel
theorem dX2_isIn_8 : decode cX2_isIn 8 = .ok (.bipush 6, 2) := by decide +kernel
theorem dX2_isIn_10 : decode cX2_isIn 10 = .ok (.ishr, 1) := by decide +kernel
theorem dX2_isIn_11 : decode cX2_isIn 11 = .ok (.iadd, 1) := by decide +kernel
theorem dX2_isIn_12 : decode cX2_isIn 12 = .ok (.laload, 1) := by decide +kernel
theorem dX2_isIn_13 : decode cX2_isIn 13 = .ok (.iload_n 3, 1) := by decide +kernel
theorem dX2_isIn_14 : decode cX2_isIn 14 = .ok (.bipush 63, 2) := by decide +kernel
theorem dX2_isIn_16 : decode cX2_isIn 16 = .ok (.iand, 1) := by decide +kernel
theorem dX2_isIn_17 : decode cX2_isIn 17 = .ok (.invokestatic 154, 3) := by decide +kernel
theorem dX2_isIn_20 : decode cX2_isIn 20 = .ok (.ireturn, 1) := by decide +kernel
theorem dX2_lowerLeft_0 : decode cX2_lowerLeft 0 = .ok (.aload_n 0, 1) := by decide +kernel
theorem dX2_lowerLeft_1 : decode cX2_lowerLeft 1 = .ok (.getfield 52, 3) := by decide +kernel
theorem dX2_lowerLeft_4 : decode cX2_lowerLeft 4 = .ok (.iload_n 1, 1) := by decide +kernel
theorem dX2_lowerLeft_5 : decode cX2_lowerLeft 5 = .ok (.iaload, 1) := by decide +kernel
theorem dX2_lowerLeft_6 : decode cX2_lowerLeft 6 = .ok (.iconst (-1), 1) := by decide +kernel
theorem dX2_lowerLeft_7 : decode cX2_lowerLeft 7 = .ok (.if_icmp .eq 13, 3) := by decide +kernel
theorem dX2_lowerLeft_10 : decode cX2_lowerLeft 10 = .ok (.aload_n 0, 1) := by decide +kernel
theorem dX2_lowerLeft_11 : decode cX2_lowerLeft 11 = .ok (.getfield 52, 3) := by decide +kernel
theorem dX2_lowerLeft_14 : decode cX2_lowerLeft 14 = .ok (.iload_n 1, 1) := by decide +kernel
theorem dX2_lowerLeft_15 : decode cX2_lowerLeft 15 = .ok (.dup2, 1) := by decide +kernel
theorem dX2_lowerLeft_16 : decode cX2_lowerLeft 16 = .ok (.iaload, 1) := by decide +kernel
theorem dX2_lowerLeft_17 : decode cX2_lowerLeft 17 = .ok (.iconst 1, 1) := by decide +kernel
theorem dX2_lowerLeft_18 : decode cX2_lowerLeft 18 = .ok (.isub, 1) := by decide +kernel
theorem dX2_lowerLeft_19 : decode cX2_lowerLeft 19 = .ok (.iastore, 1) := by decide +kernel
theorem dX2_lowerLeft_20 : decode cX2_lowerLeft 20 = .ok (.return_, 1) := by decide +kernel
theorem qw0 : Cond.fieldLink RX1 20 "Gearbox$Flow" "firstStep" "[I" ∈ gw := mq_1 (i := 226) rfl rfl
theorem qw1 : Cond.fieldLink RX1 16 "Gearbox$Flow" "steps" "LGearbox$Steps;" ∈ gw := mq_1 (i := 220) rfl rfl
theorem qw2 : Cond.fieldLink RX1 119 "Gearbox$Steps" "next" "[I" ∈ gw := mq_1 (i := 192) rfl rfl
theorem qw3 : Cond.fieldLink RX1 24 "Gearbox$Flow" "lastStep" "[I" ∈ gw := mq_1 (i := 233) rfl rfl
theorem qw4 : Cond.fieldLink RX1 67 "Gearbox$Flow" "phiNext" "[I" ∈ gw := mq_2 (i := 63) rfl rfl
theorem qw5 : Cond.fieldLink RX1 27 "Gearbox$Flow" "firstPhi" "[I" ∈ gw := mq_1 (i := 235) rfl rfl
theorem qw6 : Cond.fieldLink RX1 30 "Gearbox$Flow" "lastPhi" "[I" ∈ gw := mq_2 (i := 2) rfl rfl
theorem qw7 : Cond.fieldLink RX1 51 "Gearbox$Flow" "waysBegin" "[I" ∈ gw := mq_2 (i := 44) rfl rfl
theorem qw8 : Cond.fieldLink RX2 58 "Gearbox$Graph" "homes" "I" ∈ gw := mq_3 (i := 23) rfl rfl
theorem qw9 : Cond.fieldLink RX2 65 "Gearbox$Graph" "width" "I" ∈ gw := mq_3 (i := 25) rfl rfl
theorem qw10 : Cond.code yX11_holds cX11_holds 3 (Option.some Jvm.ClassFile.FieldType.boolean) ∈ gw := mq_6 (i := 52) rfl rfl
theorem qw11 : Cond.initialized RX11 ∈ gw := mq_1 (i := 16) rfl rfl
theorem qw12 : Cond.static yX11_holds ∈ gw := mq_6 (i := 51) rfl rfl
theorem qw13 : Cond.fieldLink RX2 52 "Gearbox$Graph" "left" "[I" ∈ gw := mq_3 (i := 43) rfl rfl
def fX1_countSteps_L9 (p0_2n : Nat → Nat) (p0_2w : ST) : Nat → Int32 → Int32 → Option Int32
  | 0 => fun _ _ => none
  | n_9 + 1 => fun v2_9 v3_9 => (if v3_9 < 0 then some v2_9 else (if ixb v3_9 (p0_2n 6) = true then ((fX1_countSteps_L9 p0_2n p0_2w n_9) (v2_9 + 1) (p0_2w 6 (nn v3_9))) else none))
def fX1_countSteps (p0w : ST) (p1 : Int32) (p0_2n : Nat → Nat) (p0_2w : ST) : Option Int32 := (if ixb p1 60 = true then ((fX1_countSteps_L9 p0_2n p0_2w NF 0 (p0w 4 (nn p1))).bind fun (o9 : Int32) => some o9) else none)
set_option maxHeartbeats 16000000 in
set_option maxRecDepth 100000 in
theorem kX1_countSteps {zs : Nat × Nat} (l : Launch) (dC : Nat → ClassId) (dI : Nat → Nat → Nat) (p0a : Nat → Nat) (p0k : Nat → ClassId) (p0n : Nat → Nat) (p0w : ST) (p0l : SL) (p1 : Int32) (p0_2a : Nat → Nat) (p0_2k : Nat → ClassId) (p0_2n : Nat → Nat) (p0_2w : ST) (sz : Nat) (o : Int32) (hrun : fX1_countSteps p0w p1 p0_2n p0_2w = some o) : Met l yX1_countSteps (wz yX1_countSteps cX1_countSteps 4 (Option.some Jvm.ClassFile.FieldType.int)) ({ frames := 0, cells := 0, slots := 0, locals := 0 } : Room) (va_Pc [.ref (p0a 0), .int p1] (PRE zs dC dI ((oX1 (p0a 0) p0a p0k p0n p0w p0l) ++ (oX9 (p0a 3) p0_2a p0_2k p0_2n p0_2w)) ((tX1 p0k) ++ (tX9 p0_2k)) sz)) (va_Qi (fun (r : Int32) (_ : Unit) => r = o) (fun _ t => POST dC dI ((oX1 (p0a 0) p0a p0k p0n p0w p0l) ++ (oX9 (p0a 3) p0_2a p0_2k p0_2n p0_2w)) ((tX1 p0k) ++ (tX9 p0_2k)) (va_A ((oX1 (p0a 0) p0a p0k p0n p0w p0l) ++ (oX9 (p0a 3) p0_2a p0_2k p0_2n p0_2w)) sz) t) (va_A ((oX1 (p0a 0) p0a p0k p0n p0w p0l) ++ (oX9 (p0a 3) p0_2a p0_2k p0_2n p0_2w)) sz)) 0 0 (va_A ((oX1 (p0a 0) p0a p0k p0n p0w p0l) ++ (oX9 (p0a 3) p0_2a p0_2k p0_2n p0_2w)) sz) := by
  refine Met.ofW (cc := cX1_countSteps) (maxL := 4) (ret := (Option.some Jvm.ClassFile.FieldType.int)) (by decide) rfl ?_
  intro p e s m args below meth c s₁ B hml hv
  obtain ⟨rfl, hsz, hP, hK, hD0, hE⟩ := hv
  have hx := B.exec
  have hb := B.bytes
  have hr := B.returns
  have hts0 := atoms_spec (ws := wz yX1_countSteps cX1_countSteps 4 (Option.some Jvm.ClassFile.FieldType.int)) B.pre
  have hts : ∀ w ∈ gw, w.before _ s = true := fun w h => hts0 w (List.mem_cons_of_mem _ h)
  have hown : s.vm.findClass RX1 = some m.cls := findClass_of_methodNamed B.named
  have hlocks := B.notSynchronized
  subst hsz
  have hD := hD0.self (sz := s.heap.size)
  refine gQ9 ?_
  intro Q hQ
  generalize hAe : va_A ((oX1 (p0a 0) p0a p0k p0n p0w p0l) ++ (oX9 (p0a 3) p0_2a p0_2k p0_2n p0_2w)) s.heap.size = A at hD hE hQ
  have hA : ∀ q : Nat, s.heap.size ≤ q → A q := fun q h => by rw [← hAe]; exact Or.inr h
  have hS : va_S A s.heap s.heap [] := va_S.rf
  have hP : va_P (dC, dI) cls ((oX1 (p0a 0) p0a p0k p0n p0w p0l) ++ (oX9 (p0a 3) p0_2a p0_2k p0_2n p0_2w)) s.heap := hP
  have hl := lv_entry ([.ref (p0a 0), .int p1]) (n := 4) (Nat.le_of_ble_eq_true rfl)
  rw [lg_entry_eq]
  generalize (lg_sl ([.ref (p0a 0), .int p1]) ++ List.replicate (4 - (lg_sl ([.ref (p0a 0), .int p1])).length) Slot.unset).toArray = ls at hl ⊢
  have hl : lv_has ls 4 [(0, .ref (p0a 0)), (1, .int p1)] := hl
  obtain ⟨H, hHe⟩ : ∃ H, H = s.heap := ⟨_, rfl⟩
  obtain ⟨locs, hle⟩ : ∃ locs : List Loc, locs = [] := ⟨_, rfl⟩
  rw [← hHe] at hP
  have hS : va_S A s.heap H locs := by rw [hHe, hle]; exact hS
  show W p l e ({ frames := 0, cells := 0, slots := 0, locals := 0 } : Room) s m ([.ref (p0a 0), .int p1] : List Value).toArray below meth c s.heap [] 0 0 Q (F0 m 0 ls [])
  rw [← hle]
  refine wH9 hHe ?_
  unfold fX1_countSteps at hrun
  refine lv_iconst (v := 0) hx hb dX1_countSteps_0 (by decide) ?_
  refine lv_istore_n (lv' := [(2, .int 0), (0, .ref (p0a 0)), (1, .int p1)]) hx hb dX1_countSteps_1 rfl hl (by decide) rfl (fun ls hl => ?_)
  refine lv_aload_n hx hb dX1_countSteps_2 rfl (lv_at hl 1 rfl) ?_
  refine va_get (D := (dC, dI)) (ci := 4) (v := .ref (p0a 4)) (C := RX1) (T := TX1) (N := 21) hx hb hts i_X1 hown hK hP 0 rfl rfl 3 (by decide) (hts _ qw0) (fun _ h9 => h9) rfl dX1_countSteps_3 ?_
  refine lv_iload_n hx hb dX1_countSteps_6 rfl (lv_at hl 2 rfl) ?_
  obtain ⟨hq1, hrun⟩ := chk9 hrun
  refine va_iald hx hb hK hP 1 0 rfl rfl (ixb_in hq1) dX1_countSteps_7 ?_
  refine lv_istore_n (lv' := [(3, .int (p0w 4 (nn p1))), (2, .int 0), (0, .ref (p0a 0)), (1, .int p1)]) hx hb dX1_countSteps_8 rfl hl (by decide) rfl (fun ls hl => ?_)
  have L9 : ∀ (n_9 : Nat) (v2_9 : Int32) (v3_9 : Int32) (o9 : Int32) (H : Heap) (locs : List Loc) (ls : Array Slot), (fX1_countSteps_L9 p0_2n p0_2w n_9) v2_9 v3_9 = some o9 → va_P (dC, dI) cls ((oX1 (p0a 0) p0a p0k p0n p0w p0l) ++ (oX9 (p0a 3) p0_2a p0_2k p0_2n p0_2w)) H → va_D A ((oX1 (p0a 0) p0a p0k p0n p0w p0l) ++ (oX9 (p0a 3) p0_2a p0_2k p0_2n p0_2w)) → va_S A s.heap H locs → lv_has ls 4 [(0, .ref (p0a 0)), (2, .int v2_9), (3, .int v3_9)] → (∀ (H : Heap) (locs : List Loc) (ls : Array Slot), va_P (dC, dI) cls ((oX1 (p0a 0) p0a p0k p0n p0w p0l) ++ (oX9 (p0a 3) p0_2a p0_2k p0_2n p0_2w)) H → va_D A ((oX1 (p0a 0) p0a p0k p0n p0w p0l) ++ (oX9 (p0a 3) p0_2a p0_2k p0_2n p0_2w)) → va_S A s.heap H locs → lv_has ls 4 [(2, .int o9)] → W p l e ({ frames := 0, cells := 0, slots := 0, locals := 0 } : Room) s m ([.ref (p0a 0), .int p1] : List Value).toArray below meth c H locs 0 0 Q (F0 m 29 ls [])) → W p l e ({ frames := 0, cells := 0, slots := 0, locals := 0 } : Room) s m ([.ref (p0a 0), .int p1] : List Value).toArray below meth c H locs 0 0 Q (F0 m 9 ls []) := by
    intro n_9
    induction n_9 with
    | zero => intro v2_9 v3_9 o9 H locs ls hrun; exact (no9 rfl hrun).elim
    | succ n_9 IH9 =>
      intro v2_9 v3_9 o9 H locs ls hrun hP hD hS hl hk9
      unfold fX1_countSteps_L9 at hrun
      refine lv_iload_n hx hb dX1_countSteps_9 rfl (lv_at hl 2 rfl) ?_
      rcases br9 hrun with ⟨hc2, hrun⟩ | ⟨hc2, hrun⟩
      · refine lv_if_lt (tgt := 29) hx hb dX1_countSteps_10 (by decide) (fun _ => ?_) (fun c => absurd hc2 c)
        obtain rfl := (Option.some.inj hrun)
        exact hk9 _ _ _ hP hD hS (lv_sub hl [1] rfl)
      · refine lv_if_lt (tgt := 29) hx hb dX1_countSteps_10 (by decide) (fun c => absurd c hc2) (fun _ => ?_)
        refine lv_iinc (v := (v2_9 + 1)) (lv' := [(2, .int (v2_9 + 1)), (0, .ref (p0a 0)), (3, .int v3_9)]) hx hb dX1_countSteps_13 hl (k := 1) rfl rfl (by decide) rfl (fun ls hl => ?_)
        refine lv_aload_n hx hb dX1_countSteps_16 rfl (lv_at hl 1 rfl) ?_
        refine va_get (D := (dC, dI)) (ci := 4) (v := .ref (p0a 3)) (C := RX1) (T := TX1) (N := 21) hx hb hts i_X1 hown hK hP 0 rfl rfl 2 (by decide) (hts _ qw1) (fun _ h9 => h9) rfl dX1_countSteps_17 ?_
        refine va_get (D := (dC, dI)) (ci := 3) (v := .ref (p0_2a 6)) (C := RX9) (T := TX9) (N := 6) hx hb hts i_X9 hown hK hP 18 rfl rfl 5 (by decide) (hts _ qw2) (fun _ h9 => h9) rfl dX1_countSteps_20 ?_
        refine lv_iload_n hx hb dX1_countSteps_23 rfl (lv_at hl 2 rfl) ?_
        obtain ⟨hq3, hrun⟩ := chk9 hrun
        refine va_iald hx hb hK hP 23 21 rfl rfl (ixb_in hq3) dX1_countSteps_24 ?_
        refine lv_istore_n (lv' := [(3, .int (p0_2w 6 (nn v3_9))), (2, .int (v2_9 + 1)), (0, .ref (p0a 0))]) hx hb dX1_countSteps_25 rfl hl (by decide) rfl (fun ls hl => ?_)
        refine lv_goto (tgt := 9) hx hb dX1_countSteps_26 (by decide) ?_
        exact IH9 (v2_9 + 1) (p0_2w 6 (nn v3_9)) o9 _ _ _ hrun hP hD hS (lv_sub hl [2, 1, 0] rfl) hk9
  obtain ⟨o9, hc9, hrun⟩ := bnd9 hrun
  refine L9 NF 0 (p0w 4 (nn p1)) o9 _ _ _ hc9 hP hD hS (lv_sub hl [2, 1, 0] rfl) ?_
  intro H locs ls hP hD hS hl
  have hl := hl
  refine lv_iload_n hx hb dX1_countSteps_29 rfl (lv_at hl 0 rfl) ?_
  have ho9 : o9 = o := Option.some.inj hrun
  have hP9 : va_P (dC, dI) cls ((oX1 (p0a 0) p0a p0k p0n p0w p0l) ++ (oX9 (p0a 3) p0_2a p0_2k p0_2n p0_2w)) H := by first | exact hP | (rw [← ho9]; exact hP)
  have hD9 : va_D A ((oX1 (p0a 0) p0a p0k p0n p0w p0l) ++ (oX9 (p0a 3) p0_2a p0_2k p0_2n p0_2w)) := by first | exact hD | (rw [← ho9]; exact hD)
  subst hQ
  exact W.iret (v := o9) hx hb hr (fun t ht hW => ⟨⟨o9, (), rfl, (by rw [← ho9]), ⟨by rw [ht]; exact hP9, va_K.moved hW.alike hK, hD9⟩⟩, hS.F ht⟩) hS.2.2 dX1_countSteps_30
def fX1_link_J44 (p1 : Int32) (p2 : Int32) (p0w_44 : ST) (p0_2w_44 : ST) : Option (ST × ST) := (if ixb p1 60 = true then (lt9 (upw p0w_44 5 (nn p1) p2) fun (w5 : ST) => some (w5, p0_2w_44)) else none)
def fX1_link (p0w : ST) (p1 : Int32) (p2 : Int32) (p0_2n : Nat → Nat) (p0_2w : ST) : Option (ST × ST) := (if ixb p2 (p0_2n 6) = true then (lt9 (upw p0_2w 6 (nn p2) (-1)) fun (w2 : ST) => (if ixb p1 60 = true then (if 0 ≤ (p0w 4 (nn p1)) then (if ixb p1 60 = true then (if ixb (p0w 5 (nn p1)) (p0_2n 6) = true then (lt9 (upw w2 6 (nn (p0w 5 (nn p1))) p2) fun (w9 : ST) => (fX1_link_J44 p1 p2 p0w w9)) else none) else none) else (if ixb p1 60 = true then (lt9 (upw p0w 4 (nn p1) p2) fun (w11 : ST) => (fX1_link_J44 p1 p2 w11 w2)) else none)) else none)) else none)
set_option maxHeartbeats 16000000 in
set_option maxRecDepth 100000 in
theorem kX1_link {zs : Nat × Nat} (l : Launch) (dC : Nat → ClassId) (dI : Nat → Nat → Nat) (p0a : Nat → Nat) (p0k : Nat → ClassId) (p0n : Nat → Nat) (p0w : ST) (p0l : SL) (p1 : Int32) (p2 : Int32) (p0_2a : Nat → Nat) (p0_2k : Nat → ClassId) (p0_2n : Nat → Nat) (p0_2w : ST) (sz : Nat) (o : ST × ST) (hrun : fX1_link p0w p1 p2 p0_2n p0_2w = some o) : Met l yX1_link (wz yX1_link cX1_link 3 (Option.none : Option Jvm.ClassFile.FieldType)) ({ frames := 0, cells := 0, slots := 0, locals := 0 } : Room) (va_Pc [.ref (p0a 0), .int p1, .int p2] (PRE zs dC dI ((oX1 (p0a 0) p0a p0k p0n p0w p0l) ++ (oX9 (p0a 3) p0_2a p0_2k p0_2n p0_2w)) ((tX1 p0k) ++ (tX9 p0_2k)) sz)) (va_Qv (fun (_ : Unit) => True) (fun _ t => POST dC dI ((oX1 (p0a 0) p0a p0k p0n (o.1) p0l) ++ (oX9 (p0a 3) p0_2a p0_2k p0_2n (o.2))) ((tX1 p0k) ++ (tX9 p0_2k)) (va_A ((oX1 (p0a 0) p0a p0k p0n p0w p0l) ++ (oX9 (p0a 3) p0_2a p0_2k p0_2n p0_2w)) sz) t) (va_A ((oX1 (p0a 0) p0a p0k p0n p0w p0l) ++ (oX9 (p0a 3) p0_2a p0_2k p0_2n p0_2w)) sz)) 0 0 (va_A ((oX1 (p0a 0) p0a p0k p0n p0w p0l) ++ (oX9 (p0a 3) p0_2a p0_2k p0_2n p0_2w)) sz) := by
  refine Met.ofW (cc := cX1_link) (maxL := 3) (ret := (Option.none : Option Jvm.ClassFile.FieldType)) (by decide) rfl ?_
  intro p e s m args below meth c s₁ B hml hv
  obtain ⟨rfl, hsz, hP, hK, hD0, hE⟩ := hv
  have hx := B.exec
  have hb := B.bytes
  have hr := B.returns
  have hts0 := atoms_spec (ws := wz yX1_link cX1_link 3 (Option.none : Option Jvm.ClassFile.FieldType)) B.pre
  have hts : ∀ w ∈ gw, w.before _ s = true := fun w h => hts0 w (List.mem_cons_of_mem _ h)
  have hown : s.vm.findClass RX1 = some m.cls := findClass_of_methodNamed B.named
  have hlocks := B.notSynchronized
  subst hsz
  have hD := hD0.self (sz := s.heap.size)
  refine gQ9 ?_
  intro Q hQ
  generalize hAe : va_A ((oX1 (p0a 0) p0a p0k p0n p0w p0l) ++ (oX9 (p0a 3) p0_2a p0_2k p0_2n p0_2w)) s.heap.size = A at hD hE hQ
  have hA : ∀ q : Nat, s.heap.size ≤ q → A q := fun q h => by rw [← hAe]; exact Or.inr h
  have hS : va_S A s.heap s.heap [] := va_S.rf
  have hP : va_P (dC, dI) cls ((oX1 (p0a 0) p0a p0k p0n p0w p0l) ++ (oX9 (p0a 3) p0_2a p0_2k p0_2n p0_2w)) s.heap := hP
  have hl := lv_entry ([.ref (p0a 0), .int p1, .int p2]) (n := 3) (Nat.le_of_ble_eq_true rfl)
  rw [lg_entry_eq]
  generalize (lg_sl ([.ref (p0a 0), .int p1, .int p2]) ++ List.replicate (3 - (lg_sl ([.ref (p0a 0), .int p1, .int p2])).length) Slot.unset).toArray = ls at hl ⊢
  have hl : lv_has ls 3 [(0, .ref (p0a 0)), (1, .int p1), (2, .int p2)] := hl
  obtain ⟨H, hHe⟩ : ∃ H, H = s.heap := ⟨_, rfl⟩
  obtain ⟨locs, hle⟩ : ∃ locs : List Loc, locs = [] := ⟨_, rfl⟩
  rw [← hHe] at hP
  have hS : va_S A s.heap H locs := by rw [hHe, hle]; exact hS
  show W p l e ({ frames := 0, cells := 0, slots := 0, locals := 0 } : Room) s m ([.ref (p0a 0), .int p1, .int p2] : List Value).toArray below meth c s.heap [] 0 0 Q (F0 m 0 ls [])
  rw [← hle]
  refine wH9 hHe ?_
  unfold fX1_link at hrun
  refine lv_aload_n hx hb dX1_link_0 rfl (lv_at hl 0 rfl) ?_
  refine va_get (D := (dC, dI)) (ci := 4) (v := .ref (p0a 3)) (C := RX1) (T := TX1) (N := 21) hx hb hts i_X1 hown hK hP 0 rfl rfl 2 (by decide) (hts _ qw1) (fun _ h9 => h9) rfl dX1_link_1 ?_
  refine va_get (D := (dC, dI)) (ci := 3) (v := .ref (p0_2a 6)) (C := RX9) (T := TX9) (N := 6) hx hb hts i_X9 hown hK hP 18 rfl rfl 5 (by decide) (hts _ qw2) (fun _ h9 => h9) rfl dX1_link_4 ?_
  refine lv_iload_n hx hb dX1_link_7 rfl (lv_at hl 2 rfl) ?_
  refine lv_iconst (v := (-1)) hx hb dX1_link_8 (by decide) ?_
  obtain ⟨hq1, hrun⟩ := chk9 hrun
  refine va_iast hx hb hK hP hD hS 23 21 rfl rfl (ixb_in hq1) dX1_link_9 (fun H locs hP hD hS => ?_)
  have hP : va_P (dC, dI) cls ((oX1 (p0a 0) p0a p0k p0n p0w p0l) ++ (oX9 (p0a 3) p0_2a p0_2k p0_2n (upw p0_2w 6 (nn p2) (-1)))) H := hP
  have hD : va_D A ((oX1 (p0a 0) p0a p0k p0n p0w p0l) ++ (oX9 (p0a 3) p0_2a p0_2k p0_2n (upw p0_2w 6 (nn p2) (-1)))) := hD
  obtain ⟨w2, ew2, hrun⟩ := let9 hrun
  rw [← ew2] at hP hD
  refine lv_aload_n hx hb dX1_link_10 rfl (lv_at hl 0 rfl) ?_
  refine va_get (D := (dC, dI)) (ci := 4) (v := .ref (p0a 4)) (C := RX1) (T := TX1) (N := 21) hx hb hts i_X1 hown hK hP 0 rfl rfl 3 (by decide) (hts _ qw0) (fun _ h9 => h9) rfl dX1_link_11 ?_
  refine lv_iload_n hx hb dX1_link_14 rfl (lv_at hl 1 rfl) ?_
  obtain ⟨hq3, hrun⟩ := chk9 hrun
  refine va_iald hx hb hK hP 1 0 rfl rfl (ixb_in hq3) dX1_link_15 ?_
  have J44 : ∀ (p0w_44 : ST) (p0_2w_44 : ST) (H : Heap) (locs : List Loc) (ls : Array Slot), (fX1_link_J44 p1 p2 p0w_44 p0_2w_44) = some o → va_P (dC, dI) cls ((oX1 (p0a 0) p0a p0k p0n p0w_44 p0l) ++ (oX9 (p0a 3) p0_2a p0_2k p0_2n p0_2w_44)) H → va_D A ((oX1 (p0a 0) p0a p0k p0n p0w_44 p0l) ++ (oX9 (p0a 3) p0_2a p0_2k p0_2n p0_2w_44)) → va_S A s.heap H locs → lv_has ls 3 [(0, .ref (p0a 0)), (1, .int p1), (2, .int p2)] → W p l e ({ frames := 0, cells := 0, slots := 0, locals := 0 } : Room) s m ([.ref (p0a 0), .int p1, .int p2] : List Value).toArray below meth c H locs 0 0 Q (F0 m 44 ls []) := by
    intro p0w_44 p0_2w_44 H locs ls hrun hP hD hS hl
    unfold fX1_link_J44 at hrun
    refine lv_aload_n hx hb dX1_link_44 rfl (lv_at hl 0 rfl) ?_
    refine va_get (D := (dC, dI)) (ci := 4) (v := .ref (p0a 5)) (C := RX1) (T := TX1) (N := 21) hx hb hts i_X1 hown hK hP 0 rfl rfl 4 (by decide) (hts _ qw3) (fun _ h9 => h9) rfl dX1_link_45 ?_
    refine lv_iload_n hx hb dX1_link_48 rfl (lv_at hl 1 rfl) ?_
    refine lv_iload_n hx hb dX1_link_49 rfl (lv_at hl 2 rfl) ?_
    obtain ⟨hq4, hrun⟩ := chk9 hrun
    refine va_iast hx hb hK hP hD hS 2 1 rfl rfl (ixb_in hq4) dX1_link_50 (fun H locs hP hD hS => ?_)
    have hP : va_P (dC, dI) cls ((oX1 (p0a 0) p0a p0k p0n (upw p0w_44 5 (nn p1) p2) p0l) ++ (oX9 (p0a 3) p0_2a p0_2k p0_2n p0_2w_44)) H := hP
    have hD : va_D A ((oX1 (p0a 0) p0a p0k p0n (upw p0w_44 5 (nn p1) p2) p0l) ++ (oX9 (p0a 3) p0_2a p0_2k p0_2n p0_2w_44)) := hD
    obtain ⟨w5, ew5, hrun⟩ := let9 hrun
    rw [← ew5] at hP hD
    have ho9 : (w5, p0_2w_44) = o := Option.some.inj hrun
    have hP9 : va_P (dC, dI) cls ((oX1 (p0a 0) p0a p0k p0n (o.1) p0l) ++ (oX9 (p0a 3) p0_2a p0_2k p0_2n (o.2))) H := by first | exact hP | (rw [← ho9]; exact hP)
    have hD9 : va_D A ((oX1 (p0a 0) p0a p0k p0n (o.1) p0l) ++ (oX9 (p0a 3) p0_2a p0_2k p0_2n (o.2))) := by first | exact hD | (rw [← ho9]; exact hD)
    subst hQ
    exact W.vret hx hb hr (fun t ht hW => ⟨⟨(), rfl, trivial, ⟨by rw [ht]; exact hP9, va_K.moved hW.alike hK, hD9⟩⟩, hS.F ht⟩) hS.2.2 dX1_link_51
  rcases br9 hrun with ⟨hc6, hrun⟩ | ⟨hc6, hrun⟩
  · refine lv_if_ge (tgt := 29) hx hb dX1_link_16 (by decide) (fun _ => ?_) (fun c => absurd hc6 c)
    refine lv_aload_n hx hb dX1_link_29 rfl (lv_at hl 0 rfl) ?_
    refine va_get (D := (dC, dI)) (ci := 4) (v := .ref (p0a 3)) (C := RX1) (T := TX1) (N := 21) hx hb hts i_X1 hown hK hP 0 rfl rfl 2 (by decide) (hts _ qw1) (fun _ h9 => h9) rfl dX1_link_30 ?_
    refine va_get (D := (dC, dI)) (ci := 3) (v := .ref (p0_2a 6)) (C := RX9) (T := TX9) (N := 6) hx hb hts i_X9 hown hK hP 18 rfl rfl 5 (by decide) (hts _ qw2) (fun _ h9 => h9) rfl dX1_link_33 ?_
    refine lv_aload_n hx hb dX1_link_36 rfl (lv_at hl 0 rfl) ?_
    refine va_get (D := (dC, dI)) (ci := 4) (v := .ref (p0a 5)) (C := RX1) (T := TX1) (N := 21) hx hb hts i_X1 hown hK hP 0 rfl rfl 4 (by decide) (hts _ qw3) (fun _ h9 => h9) rfl dX1_link_37 ?_
    refine lv_iload_n hx hb dX1_link_40 rfl (lv_at hl 1 rfl) ?_
    obtain ⟨hq7, hrun⟩ := chk9 hrun
    refine va_iald hx hb hK hP 2 1 rfl rfl (ixb_in hq7) dX1_link_41 ?_
    refine lv_iload_n hx hb dX1_link_42 rfl (lv_at hl 2 rfl) ?_
    obtain ⟨hq8, hrun⟩ := chk9 hrun
    refine va_iast hx hb hK hP hD hS 23 21 rfl rfl (ixb_in hq8) dX1_link_43 (fun H locs hP hD hS => ?_)
    have hP : va_P (dC, dI) cls ((oX1 (p0a 0) p0a p0k p0n p0w p0l) ++ (oX9 (p0a 3) p0_2a p0_2k p0_2n (upw w2 6 (nn (p0w 5 (nn p1))) p2))) H := hP
    have hD : va_D A ((oX1 (p0a 0) p0a p0k p0n p0w p0l) ++ (oX9 (p0a 3) p0_2a p0_2k p0_2n (upw w2 6 (nn (p0w 5 (nn p1))) p2))) := hD
    obtain ⟨w9, ew9, hrun⟩ := let9 hrun
    rw [← ew9] at hP hD
    exact J44 p0w w9 _ _ _ hrun hP hD hS (lv_sub hl [0, 1, 2] rfl)
  · refine lv_if_ge (tgt := 29) hx hb dX1_link_16 (by decide) (fun c => absurd c hc6) (fun _ => ?_)
    refine lv_aload_n hx hb dX1_link_19 rfl (lv_at hl 0 rfl) ?_
    refine va_get (D := (dC, dI)) (ci := 4) (v := .ref (p0a 4)) (C := RX1) (T := TX1) (N := 21) hx hb hts i_X1 hown hK hP 0 rfl rfl 3 (by decide) (hts _ qw0) (fun _ h9 => h9) rfl dX1_link_20 ?_
    refine lv_iload_n hx hb dX1_link_23 rfl (lv_at hl 1 rfl) ?_
    refine lv_iload_n hx hb dX1_link_24 rfl (lv_at hl 2 rfl) ?_
    obtain ⟨hq10, hrun⟩ := chk9 hrun
    refine va_iast hx hb hK hP hD hS 1 0 rfl rfl (ixb_in hq10) dX1_link_25 (fun H locs hP hD hS => ?_)
    have hP : va_P (dC, dI) cls ((oX1 (p0a 0) p0a p0k p0n (upw p0w 4 (nn p1) p2) p0l) ++ (oX9 (p0a 3) p0_2a p0_2k p0_2n w2)) H := hP
    have hD : va_D A ((oX1 (p0a 0) p0a p0k p0n (upw p0w 4 (nn p1) p2) p0l) ++ (oX9 (p0a 3) p0_2a p0_2k p0_2n w2)) := hD
    obtain ⟨w11, ew11, hrun⟩ := let9 hrun
    rw [← ew11] at hP hD
    refine lv_goto (tgt := 44) hx hb dX1_link_26 (by decide) ?_
    exact J44 w11 w2 _ _ _ hrun hP hD hS (lv_sub hl [0, 1, 2] rfl)
def fX1_linkPhi_J38 (p1 : Int32) (p2 : Int32) (p0w_38 : ST) : Option ST := (if ixb p1 60 = true then (lt9 (upw p0w_38 7 (nn p1) p2) fun (w5 : ST) => some w5) else none)
def fX1_linkPhi (p0n : Nat → Nat) (p0w : ST) (p1 : Int32) (p2 : Int32) : Option ST := (if ixb p2 (p0n 20) = true then (lt9 (upw p0w 20 (nn p2) (-1)) fun (w2 : ST) => (if ixb p1 60 = true then (if 0 ≤ (w2 6 (nn p1)) then (if ixb p1 60 = true then (if ixb (w2 7 (nn p1)) (p0n 20) = true then (lt9 (upw w2 20 (nn (w2 7 (nn p1))) p2) fun (w9 : ST) => (fX1_linkPhi_J38 p1 p2 w9)) else none) else none) else (if ixb p1 60 = true then (lt9 (upw w2 6 (nn p1) p2) fun (w11 : ST) => (fX1_linkPhi_J38 p1 p2 w11)) else none)) else none)) else none)
set_option maxHeartbeats 16000000 in
set_option maxRecDepth 100000 in
theorem kX1_linkPhi {zs : Nat × Nat} (l : Launch) (dC : Nat → ClassId) (dI : Nat → Nat → Nat) (p0a : Nat → Nat) (p0k : Nat → ClassId) (p0n : Nat → Nat) (p0w : ST) (p0l : SL) (p1 : Int32) (p2 : Int32) (sz : Nat) (o : ST) (hrun : fX1_linkPhi p0n p0w p1 p2 = some o) : Met l yX1_linkPhi (wz yX1_linkPhi cX1_linkPhi 3 (Option.none : Option Jvm.ClassFile.FieldType)) ({ frames := 0, cells := 0, slots := 0, locals := 0 } : Room) (va_Pc [.ref (p0a 0), .int p1, .int p2] (PRE zs dC dI (oX1 (p0a 0) p0a p0k p0n p0w p0l) (tX1 p0k) sz)) (va_Qv (fun (_ : Unit) => True) (fun _ t => POST dC dI (oX1 (p0a 0) p0a p0k p0n o p0l) (tX1 p0k) (va_A (oX1 (p0a 0) p0a p0k p0n p0w p0l) sz) t) (va_A (oX1 (p0a 0) p0a p0k p0n p0w p0l) sz)) 0 0 (va_A (oX1 (p0a 0) p0a p0k p0n p0w p0l) sz) := by
  refine Met.ofW (cc := cX1_linkPhi) (maxL := 3) (ret := (Option.none : Option Jvm.ClassFile.FieldType)) (by decide) rfl ?_
  intro p e s m args below meth c s₁ B hml hv
  obtain ⟨rfl, hsz, hP, hK, hD0, hE⟩ := hv
  have hx := B.exec
  have hb := B.bytes
  have hr := B.returns
  have hts0 := atoms_spec (ws := wz yX1_linkPhi cX1_linkPhi 3 (Option.none : Option Jvm.ClassFile.FieldType)) B.pre
  have hts : ∀ w ∈ gw, w.before _ s = true := fun w h => hts0 w (List.mem_cons_of_mem _ h)
  have hown : s.vm.findClass RX1 = some m.cls := findClass_of_methodNamed B.named
  have hlocks := B.notSynchronized
  subst hsz
  have hD := hD0.self (sz := s.heap.size)
  refine gQ9 ?_
  intro Q hQ
  generalize hAe : va_A (oX1 (p0a 0) p0a p0k p0n p0w p0l) s.heap.size = A at hD hE hQ
  have hA : ∀ q : Nat, s.heap.size ≤ q → A q := fun q h => by rw [← hAe]; exact Or.inr h
  have hS : va_S A s.heap s.heap [] := va_S.rf
  have hP : va_P (dC, dI) cls (oX1 (p0a 0) p0a p0k p0n p0w p0l) s.heap := hP
  have hl := lv_entry ([.ref (p0a 0), .int p1, .int p2]) (n := 3) (Nat.le_of_ble_eq_true rfl)
  rw [lg_entry_eq]
  generalize (lg_sl ([.ref (p0a 0), .int p1, .int p2]) ++ List.replicate (3 - (lg_sl ([.ref (p0a 0), .int p1, .int p2])).length) Slot.unset).toArray = ls at hl ⊢
  have hl : lv_has ls 3 [(0, .ref (p0a 0)), (1, .int p1), (2, .int p2)] := hl
  obtain ⟨H, hHe⟩ : ∃ H, H = s.heap := ⟨_, rfl⟩
  obtain ⟨locs, hle⟩ : ∃ locs : List Loc, locs = [] := ⟨_, rfl⟩
  rw [← hHe] at hP
  have hS : va_S A s.heap H locs := by rw [hHe, hle]; exact hS
  show W p l e ({ frames := 0, cells := 0, slots := 0, locals := 0 } : Room) s m ([.ref (p0a 0), .int p1, .int p2] : List Value).toArray below meth c s.heap [] 0 0 Q (F0 m 0 ls [])
  rw [← hle]
  refine wH9 hHe ?_
  unfold fX1_linkPhi at hrun
  refine lv_aload_n hx hb dX1_linkPhi_0 rfl (lv_at hl 0 rfl) ?_
  refine va_get (D := (dC, dI)) (ci := 4) (v := .ref (p0a 20)) (C := RX1) (T := TX1) (N := 21) hx hb hts i_X1 hown hK hP 0 rfl rfl 19 (by decide) (hts _ qw4) (fun _ h9 => h9) rfl dX1_linkPhi_1 ?_
  refine lv_iload_n hx hb dX1_linkPhi_4 rfl (lv_at hl 2 rfl) ?_
  refine lv_iconst (v := (-1)) hx hb dX1_linkPhi_5 (by decide) ?_
  obtain ⟨hq1, hrun⟩ := chk9 hrun
  refine va_iast hx hb hK hP hD hS 16 15 rfl rfl (ixb_in hq1) dX1_linkPhi_6 (fun H locs hP hD hS => ?_)
  have hP : va_P (dC, dI) cls (oX1 (p0a 0) p0a p0k p0n (upw p0w 20 (nn p2) (-1)) p0l) H := hP
  have hD : va_D A (oX1 (p0a 0) p0a p0k p0n (upw p0w 20 (nn p2) (-1)) p0l) := hD
  obtain ⟨w2, ew2, hrun⟩ := let9 hrun
  rw [← ew2] at hP hD
  refine lv_aload_n hx hb dX1_linkPhi_7 rfl (lv_at hl 0 rfl) ?_
  refine va_get (D := (dC, dI)) (ci := 4) (v := .ref (p0a 6)) (C := RX1) (T := TX1) (N := 21) hx hb hts i_X1 hown hK hP 0 rfl rfl 5 (by decide) (hts _ qw5) (fun _ h9 => h9) rfl dX1_linkPhi_8 ?_
  refine lv_iload_n hx hb dX1_linkPhi_11 rfl (lv_at hl 1 rfl) ?_
  obtain ⟨hq3, hrun⟩ := chk9 hrun
  refine va_iald hx hb hK hP 3 2 rfl rfl (ixb_in hq3) dX1_linkPhi_12 ?_
  have J38 : ∀ (p0w_38 : ST) (H : Heap) (locs : List Loc) (ls : Array Slot), (fX1_linkPhi_J38 p1 p2 p0w_38) = some o → va_P (dC, dI) cls (oX1 (p0a 0) p0a p0k p0n p0w_38 p0l) H → va_D A (oX1 (p0a 0) p0a p0k p0n p0w_38 p0l) → va_S A s.heap H locs → lv_has ls 3 [(0, .ref (p0a 0)), (1, .int p1), (2, .int p2)] → W p l e ({ frames := 0, cells := 0, slots := 0, locals := 0 } : Room) s m ([.ref (p0a 0), .int p1, .int p2] : List Value).toArray below meth c H locs 0 0 Q (F0 m 38 ls []) := by
    intro p0w_38 H locs ls hrun hP hD hS hl
    unfold fX1_linkPhi_J38 at hrun
    refine lv_aload_n hx hb dX1_linkPhi_38 rfl (lv_at hl 0 rfl) ?_
    refine va_get (D := (dC, dI)) (ci := 4) (v := .ref (p0a 7)) (C := RX1) (T := TX1) (N := 21) hx hb hts i_X1 hown hK hP 0 rfl rfl 6 (by decide) (hts _ qw6) (fun _ h9 => h9) rfl dX1_linkPhi_39 ?_
    refine lv_iload_n hx hb dX1_linkPhi_42 rfl (lv_at hl 1 rfl) ?_
    refine lv_iload_n hx hb dX1_linkPhi_43 rfl (lv_at hl 2 rfl) ?_
    obtain ⟨hq4, hrun⟩ := chk9 hrun
    refine va_iast hx hb hK hP hD hS 4 3 rfl rfl (ixb_in hq4) dX1_linkPhi_44 (fun H locs hP hD hS => ?_)
    have hP : va_P (dC, dI) cls (oX1 (p0a 0) p0a p0k p0n (upw p0w_38 7 (nn p1) p2) p0l) H := hP
    have hD : va_D A (oX1 (p0a 0) p0a p0k p0n (upw p0w_38 7 (nn p1) p2) p0l) := hD
    obtain ⟨w5, ew5, hrun⟩ := let9 hrun
    rw [← ew5] at hP hD
    have ho9 : w5 = o := Option.some.inj hrun
    have hP9 : va_P (dC, dI) cls (oX1 (p0a 0) p0a p0k p0n o p0l) H := by first | exact hP | (rw [← ho9]; exact hP)
    have hD9 : va_D A (oX1 (p0a 0) p0a p0k p0n o p0l) := by first | exact hD | (rw [← ho9]; exact hD)
    subst hQ
    exact W.vret hx hb hr (fun t ht hW => ⟨⟨(), rfl, trivial, ⟨by rw [ht]; exact hP9, va_K.moved hW.alike hK, hD9⟩⟩, hS.F ht⟩) hS.2.2 dX1_linkPhi_45
  rcases br9 hrun with ⟨hc6, hrun⟩ | ⟨hc6, hrun⟩
  · refine lv_if_ge (tgt := 26) hx hb dX1_linkPhi_13 (by decide) (fun _ => ?_) (fun c => absurd hc6 c)
    refine lv_aload_n hx hb dX1_linkPhi_26 rfl (lv_at hl 0 rfl) ?_
    refine va_get (D := (dC, dI)) (ci := 4) (v := .ref (p0a 20)) (C := RX1) (T := TX1) (N := 21) hx hb hts i_X1 hown hK hP 0 rfl rfl 19 (by decide) (hts _ qw4) (fun _ h9 => h9) rfl dX1_linkPhi_27 ?_
    refine lv_aload_n hx hb dX1_linkPhi_30 rfl (lv_at hl 0 rfl) ?_
    refine va_get (D := (dC, dI)) (ci := 4) (v := .ref (p0a 7)) (C := RX1) (T := TX1) (N := 21) hx hb hts i_X1 hown hK hP 0 rfl rfl 6 (by decide) (hts _ qw6) (fun _ h9 => h9) rfl dX1_linkPhi_31 ?_
    refine lv_iload_n hx hb dX1_linkPhi_34 rfl (lv_at hl 1 rfl) ?_
    obtain ⟨hq7, hrun⟩ := chk9 hrun
    refine va_iald hx hb hK hP 4 3 rfl rfl (ixb_in hq7) dX1_linkPhi_35 ?_
    refine lv_iload_n hx hb dX1_linkPhi_36 rfl (lv_at hl 2 rfl) ?_
    obtain ⟨hq8, hrun⟩ := chk9 hrun
    refine va_iast hx hb hK hP hD hS 16 15 rfl rfl (ixb_in hq8) dX1_linkPhi_37 (fun H locs hP hD hS => ?_)
    have hP : va_P (dC, dI) cls (oX1 (p0a 0) p0a p0k p0n (upw w2 20 (nn (w2 7 (nn p1))) p2) p0l) H := hP
    have hD : va_D A (oX1 (p0a 0) p0a p0k p0n (upw w2 20 (nn (w2 7 (nn p1))) p2) p0l) := hD
    obtain ⟨w9, ew9, hrun⟩ := let9 hrun
    rw [← ew9] at hP hD
    exact J38 w9 _ _ _ hrun hP hD hS (lv_sub hl [0, 1, 2] rfl)
  · refine lv_if_ge (tgt := 26) hx hb dX1_linkPhi_13 (by decide) (fun c => absurd c hc6) (fun _ => ?_)
    refine lv_aload_n hx hb dX1_linkPhi_16 rfl (lv_at hl 0 rfl) ?_
    refine va_get (D := (dC, dI)) (ci := 4) (v := .ref (p0a 6)) (C := RX1) (T := TX1) (N := 21) hx hb hts i_X1 hown hK hP 0 rfl rfl 5 (by decide) (hts _ qw5) (fun _ h9 => h9) rfl dX1_linkPhi_17 ?_
    refine lv_iload_n hx hb dX1_linkPhi_20 rfl (lv_at hl 1 rfl) ?_
    refine lv_iload_n hx hb dX1_linkPhi_21 rfl (lv_at hl 2 rfl) ?_
    obtain ⟨hq10, hrun⟩ := chk9 hrun
    refine va_iast hx hb hK hP hD hS 3 2 rfl rfl (ixb_in hq10) dX1_linkPhi_22 (fun H locs hP hD hS => ?_)
    have hP : va_P (dC, dI) cls (oX1 (p0a 0) p0a p0k p0n (upw w2 6 (nn p1) p2) p0l) H := hP
    have hD : va_D A (oX1 (p0a 0) p0a p0k p0n (upw w2 6 (nn p1) p2) p0l) := hD
    obtain ⟨w11, ew11, hrun⟩ := let9 hrun
    rw [← ew11] at hP hD
    refine lv_goto (tgt := 38) hx hb dX1_linkPhi_23 (by decide) ?_
    exact J38 w11 _ _ _ hrun hP hD hS (lv_sub hl [0, 1, 2] rfl)
def fX1_takeSteps (p0w : ST) (p1 : Int32) : Option (Int32 × ST) := (if ixb p1 60 = true then (if ixb p1 60 = true then (lt9 (upw p0w 4 (nn p1) (-1)) fun (w3 : ST) => (if ixb p1 60 = true then (lt9 (upw w3 5 (nn p1) (-1)) fun (w5 : ST) => some ((p0w 4 (nn p1)), w5)) else none)) else none) else none)
set_option maxHeartbeats 16000000 in
set_option maxRecDepth 100000 in
theorem kX1_takeSteps {zs : Nat × Nat} (l : Launch) (dC : Nat → ClassId) (dI : Nat → Nat → Nat) (p0a : Nat → Nat) (p0k : Nat → ClassId) (p0n : Nat → Nat) (p0w : ST) (p0l : SL) (p1 : Int32) (sz : Nat) (o : Int32 × ST) (hrun : fX1_takeSteps p0w p1 = some o) : Met l yX1_takeSteps (wz yX1_takeSteps cX1_takeSteps 3 (Option.some Jvm.ClassFile.FieldType.int)) ({ frames := 0, cells := 0, slots := 0, locals := 0 } : Room) (va_Pc [.ref (p0a 0), .int p1] (PRE zs dC dI (oX1 (p0a 0) p0a p0k p0n p0w p0l) (tX1 p0k) sz)) (va_Qi (fun (r : Int32) (_ : Unit) => r = (o.1)) (fun _ t => POST dC dI (oX1 (p0a 0) p0a p0k p0n (o.2) p0l) (tX1 p0k) (va_A (oX1 (p0a 0) p0a p0k p0n p0w p0l) sz) t) (va_A (oX1 (p0a 0) p0a p0k p0n p0w p0l) sz)) 0 0 (va_A (oX1 (p0a 0) p0a p0k p0n p0w p0l) sz) := by
  refine Met.ofW (cc := cX1_takeSteps) (maxL := 3) (ret := (Option.some Jvm.ClassFile.FieldType.int)) (by decide) rfl ?_
  intro p e s m args below meth c s₁ B hml hv
  obtain ⟨rfl, hsz, hP, hK, hD0, hE⟩ := hv
  have hx := B.exec
  have hb := B.bytes
  have hr := B.returns
  have hts0 := atoms_spec (ws := wz yX1_takeSteps cX1_takeSteps 3 (Option.some Jvm.ClassFile.FieldType.int)) B.pre
  have hts : ∀ w ∈ gw, w.before _ s = true := fun w h => hts0 w (List.mem_cons_of_mem _ h)
  have hown : s.vm.findClass RX1 = some m.cls := findClass_of_methodNamed B.named
  have hlocks := B.notSynchronized
  subst hsz
  have hD := hD0.self (sz := s.heap.size)
  refine gQ9 ?_
  intro Q hQ
  generalize hAe : va_A (oX1 (p0a 0) p0a p0k p0n p0w p0l) s.heap.size = A at hD hE hQ
  have hA : ∀ q : Nat, s.heap.size ≤ q → A q := fun q h => by rw [← hAe]; exact Or.inr h
  have hS : va_S A s.heap s.heap [] := va_S.rf
  have hP : va_P (dC, dI) cls (oX1 (p0a 0) p0a p0k p0n p0w p0l) s.heap := hP
  have hl := lv_entry ([.ref (p0a 0), .int p1]) (n := 3) (Nat.le_of_ble_eq_true rfl)
  rw [lg_entry_eq]
  generalize (lg_sl ([.ref (p0a 0), .int p1]) ++ List.replicate (3 - (lg_sl ([.ref (p0a 0), .int p1])).length) Slot.unset).toArray = ls at hl ⊢
  have hl : lv_has ls 3 [(0, .ref (p0a 0)), (1, .int p1)] := hl
  obtain ⟨H, hHe⟩ : ∃ H, H = s.heap := ⟨_, rfl⟩
  obtain ⟨locs, hle⟩ : ∃ locs : List Loc, locs = [] := ⟨_, rfl⟩
  rw [← hHe] at hP
  have hS : va_S A s.heap H locs := by rw [hHe, hle]; exact hS
  show W p l e ({ frames := 0, cells := 0, slots := 0, locals := 0 } : Room) s m ([.ref (p0a 0), .int p1] : List Value).toArray below meth c s.heap [] 0 0 Q (F0 m 0 ls [])
  rw [← hle]
  refine wH9 hHe ?_
  unfold fX1_takeSteps at hrun
  refine lv_aload_n hx hb dX1_takeSteps_0 rfl (lv_at hl 0 rfl) ?_
  refine va_get (D := (dC, dI)) (ci := 4) (v := .ref (p0a 4)) (C := RX1) (T := TX1) (N := 21) hx hb hts i_X1 hown hK hP 0 rfl rfl 3 (by decide) (hts _ qw0) (fun _ h9 => h9) rfl dX1_takeSteps_1 ?_
  refine lv_iload_n hx hb dX1_takeSteps_4 rfl (lv_at hl 1 rfl) ?_
  obtain ⟨hq1, hrun⟩ := chk9 hrun
  refine va_iald hx hb hK hP 1 0 rfl rfl (ixb_in hq1) dX1_takeSteps_5 ?_
  refine lv_istore_n (lv' := [(2, .int (p0w 4 (nn p1))), (0, .ref (p0a 0)), (1, .int p1)]) hx hb dX1_takeSteps_6 rfl hl (by decide) rfl (fun ls hl => ?_)
  refine lv_aload_n hx hb dX1_takeSteps_7 rfl (lv_at hl 1 rfl) ?_
  refine va_get (D := (dC, dI)) (ci := 4) (v := .ref (p0a 4)) (C := RX1) (T := TX1) (N := 21) hx hb hts i_X1 hown hK hP 0 rfl rfl 3 (by decide) (hts _ qw0) (fun _ h9 => h9) rfl dX1_takeSteps_8 ?_
  refine lv_iload_n hx hb dX1_takeSteps_11 rfl (lv_at hl 2 rfl) ?_
  refine lv_iconst (v := (-1)) hx hb dX1_takeSteps_12 (by decide) ?_
  obtain ⟨hq2, hrun⟩ := chk9 hrun
  refine va_iast hx hb hK hP hD hS 1 0 rfl rfl (ixb_in hq2) dX1_takeSteps_13 (fun H locs hP hD hS => ?_)
  have hP : va_P (dC, dI) cls (oX1 (p0a 0) p0a p0k p0n (upw p0w 4 (nn p1) (-1)) p0l) H := hP
  have hD : va_D A (oX1 (p0a 0) p0a p0k p0n (upw p0w 4 (nn p1) (-1)) p0l) := hD
  obtain ⟨w3, ew3, hrun⟩ := let9 hrun
  rw [← ew3] at hP hD
  refine lv_aload_n hx hb dX1_takeSteps_14 rfl (lv_at hl 1 rfl) ?_
  refine va_get (D := (dC, dI)) (ci := 4) (v := .ref (p0a 5)) (C := RX1) (T := TX1) (N := 21) hx hb hts i_X1 hown hK hP 0 rfl rfl 4 (by decide) (hts _ qw3) (fun _ h9 => h9) rfl dX1_takeSteps_15 ?_
  refine lv_iload_n hx hb dX1_takeSteps_18 rfl (lv_at hl 2 rfl) ?_
  refine lv_iconst (v := (-1)) hx hb dX1_takeSteps_19 (by decide) ?_
  obtain ⟨hq4, hrun⟩ := chk9 hrun
  refine va_iast hx hb hK hP hD hS 2 1 rfl rfl (ixb_in hq4) dX1_takeSteps_20 (fun H locs hP hD hS => ?_)
  have hP : va_P (dC, dI) cls (oX1 (p0a 0) p0a p0k p0n (upw w3 5 (nn p1) (-1)) p0l) H := hP
  have hD : va_D A (oX1 (p0a 0) p0a p0k p0n (upw w3 5 (nn p1) (-1)) p0l) := hD
  obtain ⟨w5, ew5, hrun⟩ := let9 hrun
  rw [← ew5] at hP hD
  refine lv_iload_n hx hb dX1_takeSteps_21 rfl (lv_at hl 0 rfl) ?_
  have ho9 : ((p0w 4 (nn p1)), w5) = o := Option.some.inj hrun
  have hP9 : va_P (dC, dI) cls (oX1 (p0a 0) p0a p0k p0n (o.2) p0l) H := by first | exact hP | (rw [← ho9]; exact hP)
  have hD9 : va_D A (oX1 (p0a 0) p0a p0k p0n (o.2) p0l) := by first | exact hD | (rw [← ho9]; exact hD)
  subst hQ
  exact W.iret (v := (p0w 4 (nn p1))) hx hb hr (fun t ht hW => ⟨⟨(p0w 4 (nn p1)), (), rfl, (by rw [← ho9]), ⟨by rw [ht]; exact hP9, va_K.moved hW.alike hK, hD9⟩⟩, hS.F ht⟩) hS.2.2 dX1_takeSteps_22
def fX1_waysTo (p0w : ST) (p1 : Int32) : Option Int32 := (if ixb (p1 + 1) 61 = true then (if ixb p1 61 = true then some ((p0w 14 (nn (p1 + 1))) - (p0w 14 (nn p1))) else none) else none)
set_option maxHeartbeats 16000000 in
set_option maxRecDepth 100000 in
theorem kX1_waysTo {zs : Nat × Nat} (l : Launch) (dC : Nat → ClassId) (dI : Nat → Nat → Nat) (p0a : Nat → Nat) (p0k : Nat → ClassId) (p0n : Nat → Nat) (p0w : ST) (p0l : SL) (p1 : Int32) (sz : Nat) (o : Int32) (hrun : fX1_waysTo p0w p1 = some o) : Met l yX1_waysTo (wz yX1_waysTo cX1_waysTo 2 (Option.some Jvm.ClassFile.FieldType.int)) ({ frames := 0, cells := 0, slots := 0, locals := 0 } : Room) (va_Pc [.ref (p0a 0), .int p1] (PRE zs dC dI (oX1 (p0a 0) p0a p0k p0n p0w p0l) (tX1 p0k) sz)) (va_Qi (fun (r : Int32) (_ : Unit) => r = o) (fun _ t => POST dC dI (oX1 (p0a 0) p0a p0k p0n p0w p0l) (tX1 p0k) (va_A (oX1 (p0a 0) p0a p0k p0n p0w p0l) sz) t) (va_A (oX1 (p0a 0) p0a p0k p0n p0w p0l) sz)) 0 0 (va_A (oX1 (p0a 0) p0a p0k p0n p0w p0l) sz) := by
  refine Met.ofW (cc := cX1_waysTo) (maxL := 2) (ret := (Option.some Jvm.ClassFile.FieldType.int)) (by decide) rfl ?_
  intro p e s m args below meth c s₁ B hml hv
  obtain ⟨rfl, hsz, hP, hK, hD0, hE⟩ := hv
  have hx := B.exec
  have hb := B.bytes
  have hr := B.returns
  have hts0 := atoms_spec (ws := wz yX1_waysTo cX1_waysTo 2 (Option.some Jvm.ClassFile.FieldType.int)) B.pre
  have hts : ∀ w ∈ gw, w.before _ s = true := fun w h => hts0 w (List.mem_cons_of_mem _ h)
  have hown : s.vm.findClass RX1 = some m.cls := findClass_of_methodNamed B.named
  have hlocks := B.notSynchronized
  subst hsz
  have hD := hD0.self (sz := s.heap.size)
  refine gQ9 ?_
  intro Q hQ
  generalize hAe : va_A (oX1 (p0a 0) p0a p0k p0n p0w p0l) s.heap.size = A at hD hE hQ
  have hA : ∀ q : Nat, s.heap.size ≤ q → A q := fun q h => by rw [← hAe]; exact Or.inr h
  have hS : va_S A s.heap s.heap [] := va_S.rf
  have hP : va_P (dC, dI) cls (oX1 (p0a 0) p0a p0k p0n p0w p0l) s.heap := hP
  have hl := lv_entry ([.ref (p0a 0), .int p1]) (n := 2) (Nat.le_of_ble_eq_true rfl)
  rw [lg_entry_eq]
  generalize (lg_sl ([.ref (p0a 0), .int p1]) ++ List.replicate (2 - (lg_sl ([.ref (p0a 0), .int p1])).length) Slot.unset).toArray = ls at hl ⊢
  have hl : lv_has ls 2 [(0, .ref (p0a 0)), (1, .int p1)] := hl
  obtain ⟨H, hHe⟩ : ∃ H, H = s.heap := ⟨_, rfl⟩
  obtain ⟨locs, hle⟩ : ∃ locs : List Loc, locs = [] := ⟨_, rfl⟩
  rw [← hHe] at hP
  have hS : va_S A s.heap H locs := by rw [hHe, hle]; exact hS
  show W p l e ({ frames := 0, cells := 0, slots := 0, locals := 0 } : Room) s m ([.ref (p0a 0), .int p1] : List Value).toArray below meth c s.heap [] 0 0 Q (F0 m 0 ls [])
  rw [← hle]
  refine wH9 hHe ?_
  unfold fX1_waysTo at hrun
  refine lv_aload_n hx hb dX1_waysTo_0 rfl (lv_at hl 0 rfl) ?_
  refine va_get (D := (dC, dI)) (ci := 4) (v := .ref (p0a 14)) (C := RX1) (T := TX1) (N := 21) hx hb hts i_X1 hown hK hP 0 rfl rfl 13 (by decide) (hts _ qw7) (fun _ h9 => h9) rfl dX1_waysTo_1 ?_
  refine lv_iload_n hx hb dX1_waysTo_4 rfl (lv_at hl 1 rfl) ?_
  refine lv_iconst (v := 1) hx hb dX1_waysTo_5 (by decide) ?_
  refine lv_iadd hx hb dX1_waysTo_6 ?_
  obtain ⟨hq1, hrun⟩ := chk9 hrun
  refine va_iald hx hb hK hP 11 10 rfl rfl (ixb_in hq1) dX1_waysTo_7 ?_
  refine lv_aload_n hx hb dX1_waysTo_8 rfl (lv_at hl 0 rfl) ?_
  refine va_get (D := (dC, dI)) (ci := 4) (v := .ref (p0a 14)) (C := RX1) (T := TX1) (N := 21) hx hb hts i_X1 hown hK hP 0 rfl rfl 13 (by decide) (hts _ qw7) (fun _ h9 => h9) rfl dX1_waysTo_9 ?_
  refine lv_iload_n hx hb dX1_waysTo_12 rfl (lv_at hl 1 rfl) ?_
  obtain ⟨hq2, hrun⟩ := chk9 hrun
  refine va_iald hx hb hK hP 11 10 rfl rfl (ixb_in hq2) dX1_waysTo_13 ?_
  refine lv_isub hx hb dX1_waysTo_14 ?_
  have ho9 : ((p0w 14 (nn (p1 + 1))) - (p0w 14 (nn p1))) = o := Option.some.inj hrun
  have hP9 : va_P (dC, dI) cls (oX1 (p0a 0) p0a p0k p0n p0w p0l) H := by first | exact hP | (rw [← ho9]; exact hP)
  have hD9 : va_D A (oX1 (p0a 0) p0a p0k p0n p0w p0l) := by first | exact hD | (rw [← ho9]; exact hD)
  subst hQ
  exact W.iret (v := ((p0w 14 (nn (p1 + 1))) - (p0w 14 (nn p1)))) hx hb hr (fun t ht hW => ⟨⟨((p0w 14 (nn (p1 + 1))) - (p0w 14 (nn p1))), (), rfl, (by rw [← ho9]), ⟨by rw [ht]; exact hP9, va_K.moved hW.alike hK, hD9⟩⟩, hS.F ht⟩) hS.2.2 dX1_waysTo_15
def fX2_bitIn_J30 (y0_30 : Int64) : Option Int64 := some y0_30
def fX2_bitIn_J29  : Option Int64 := (fX2_bitIn_J30 0)
def fX2_bitIn (p0w : ST) (p1 : Int32) (p2 : Int32) : Option Int64 := (if p2 < 0 then (fX2_bitIn_J29) else (if (p0w 0 0) ≤ p2 then (fX2_bitIn_J29) else (if (p2 >>> (6 &&& 31)) = p1 then (fX2_bitIn_J30 (((1 : Int64) <<< (((p2 &&& 63) : Int32).toInt64 &&& 63)))) else (fX2_bitIn_J29))))
set_option maxHeartbeats 16000000 in
set_option maxRecDepth 100000 in
theorem kX2_bitIn {zs : Nat × Nat} (l : Launch) (dC : Nat → ClassId) (dI : Nat → Nat → Nat) (p0a : Nat → Nat) (p0k : Nat → ClassId) (p0n : Nat → Nat) (p0w : ST) (p0l : SL) (p1 : Int32) (p2 : Int32) (sz : Nat) (o : Int64) (hrun : fX2_bitIn p0w p1 p2 = some o) : Met l yX2_bitIn (wz yX2_bitIn cX2_bitIn 3 (Option.some Jvm.ClassFile.FieldType.long)) ({ frames := 0, cells := 0, slots := 0, locals := 0 } : Room) (va_Pc [.ref (p0a 0), .int p1, .int p2] (PRE zs dC dI (oX2 (p0a 0) p0a p0k p0n p0w p0l) (tX2 p0k) sz)) (va_Ql (fun (r : Int64) (_ : Unit) => r = o) (fun _ t => POST dC dI (oX2 (p0a 0) p0a p0k p0n p0w p0l) (tX2 p0k) (va_A (oX2 (p0a 0) p0a p0k p0n p0w p0l) sz) t) (va_A (oX2 (p0a 0) p0a p0k p0n p0w p0l) sz)) 0 0 (va_A (oX2 (p0a 0) p0a p0k p0n p0w p0l) sz) := by
  refine Met.ofW (cc := cX2_bitIn) (maxL := 3) (ret := (Option.some Jvm.ClassFile.FieldType.long)) (by decide) rfl ?_
  intro p e s m args below meth c s₁ B hml hv
  obtain ⟨rfl, hsz, hP, hK, hD0, hE⟩ := hv
  have hx := B.exec
  have hb := B.bytes
  have hr := B.returns
  have hts0 := atoms_spec (ws := wz yX2_bitIn cX2_bitIn 3 (Option.some Jvm.ClassFile.FieldType.long)) B.pre
  have hts : ∀ w ∈ gw, w.before _ s = true := fun w h => hts0 w (List.mem_cons_of_mem _ h)
  have hown : s.vm.findClass RX2 = some m.cls := findClass_of_methodNamed B.named
  have hlocks := B.notSynchronized
  subst hsz
  have hD := hD0.self (sz := s.heap.size)
  refine gQ9 ?_
  intro Q hQ
  generalize hAe : va_A (oX2 (p0a 0) p0a p0k p0n p0w p0l) s.heap.size = A at hD hE hQ
  have hA : ∀ q : Nat, s.heap.size ≤ q → A q := fun q h => by rw [← hAe]; exact Or.inr h
  have hS : va_S A s.heap s.heap [] := va_S.rf
  have hP : va_P (dC, dI) cls (oX2 (p0a 0) p0a p0k p0n p0w p0l) s.heap := hP
  have hl := lv_entry ([.ref (p0a 0), .int p1, .int p2]) (n := 3) (Nat.le_of_ble_eq_true rfl)
  rw [lg_entry_eq]
  generalize (lg_sl ([.ref (p0a 0), .int p1, .int p2]) ++ List.replicate (3 - (lg_sl ([.ref (p0a 0), .int p1, .int p2])).length) Slot.unset).toArray = ls at hl ⊢
  have hl : lv_has ls 3 [(0, .ref (p0a 0)), (1, .int p1), (2, .int p2)] := hl
  obtain ⟨H, hHe⟩ : ∃ H, H = s.heap := ⟨_, rfl⟩
  obtain ⟨locs, hle⟩ : ∃ locs : List Loc, locs = [] := ⟨_, rfl⟩
  rw [← hHe] at hP
  have hS : va_S A s.heap H locs := by rw [hHe, hle]; exact hS
  show W p l e ({ frames := 0, cells := 0, slots := 0, locals := 0 } : Room) s m ([.ref (p0a 0), .int p1, .int p2] : List Value).toArray below meth c s.heap [] 0 0 Q (F0 m 0 ls [])
  rw [← hle]
  refine wH9 hHe ?_
  unfold fX2_bitIn at hrun
  refine lv_iload_n hx hb dX2_bitIn_0 rfl (lv_at hl 2 rfl) ?_
  have J30 : ∀ (y0_30 : Int64) (H : Heap) (locs : List Loc) (ls : Array Slot), (fX2_bitIn_J30 y0_30) = some o → va_P (dC, dI) cls (oX2 (p0a 0) p0a p0k p0n p0w p0l) H → va_D A (oX2 (p0a 0) p0a p0k p0n p0w p0l) → va_S A s.heap H locs → lv_has ls 3 [] → W p l e ({ frames := 0, cells := 0, slots := 0, locals := 0 } : Room) s m ([.ref (p0a 0), .int p1, .int p2] : List Value).toArray below meth c H locs 0 0 Q (F0 m 30 ls [.long y0_30]) := by
    intro y0_30 H locs ls hrun hP hD hS hl
    unfold fX2_bitIn_J30 at hrun
    have ho9 : y0_30 = o := Option.some.inj hrun
    have hP9 : va_P (dC, dI) cls (oX2 (p0a 0) p0a p0k p0n p0w p0l) H := by first | exact hP | (rw [← ho9]; exact hP)
    have hD9 : va_D A (oX2 (p0a 0) p0a p0k p0n p0w p0l) := by first | exact hD | (rw [← ho9]; exact hD)
    subst hQ
    exact W.lret (v := y0_30) hx hb hr (fun t ht hW => ⟨⟨y0_30, (), rfl, (by rw [← ho9]), ⟨by rw [ht]; exact hP9, va_K.moved hW.alike hK, hD9⟩⟩, hS.F ht⟩) hS.2.2 dX2_bitIn_30
  have J29 : ∀ (H : Heap) (locs : List Loc) (ls : Array Slot), (fX2_bitIn_J29) = some o → va_P (dC, dI) cls (oX2 (p0a 0) p0a p0k p0n p0w p0l) H → va_D A (oX2 (p0a 0) p0a p0k p0n p0w p0l) → va_S A s.heap H locs → lv_has ls 3 [] → W p l e ({ frames := 0, cells := 0, slots := 0, locals := 0 } : Room) s m ([.ref (p0a 0), .int p1, .int p2] : List Value).toArray below meth c H locs 0 0 Q (F0 m 29 ls []) := by
    intro  H locs ls hrun hP hD hS hl
    unfold fX2_bitIn_J29 at hrun
    refine lv_lconst (v := 0) hx hb dX2_bitIn_29 (by decide) ?_
    exact J30 0 _ _ _ hrun hP hD hS (lv_sub hl [] rfl)
  rcases br9 hrun with ⟨hc1, hrun⟩ | ⟨hc1, hrun⟩
  · refine lv_if_lt (tgt := 29) hx hb dX2_bitIn_1 (by decide) (fun _ => ?_) (fun c => absurd hc1 c)
    exact J29 _ _ _ hrun hP hD hS (lv_sub hl [] rfl)
  · refine lv_if_lt (tgt := 29) hx hb dX2_bitIn_1 (by decide) (fun c => absurd c hc1) (fun _ => ?_)
    refine lv_iload_n hx hb dX2_bitIn_4 rfl (lv_at hl 2 rfl) ?_
    refine lv_aload_n hx hb dX2_bitIn_5 rfl (lv_at hl 0 rfl) ?_
    refine va_get (D := (dC, dI)) (ci := 9) (v := .int (p0w 0 0)) (C := RX2) (T := TX2) (N := 19) hx hb hts i_X2 hown hK hP 0 rfl rfl 0 (by decide) (hts _ qw8) (fun _ h9 => h9) rfl dX2_bitIn_6 ?_
    rcases br9 hrun with ⟨hc2, hrun⟩ | ⟨hc2, hrun⟩
    · refine lv_icmp_ge (tgt := 29) hx hb dX2_bitIn_9 (by decide) (fun _ => ?_) (fun c => absurd hc2 c)
      exact J29 _ _ _ hrun hP hD hS (lv_sub hl [] rfl)
    · refine lv_icmp_ge (tgt := 29) hx hb dX2_bitIn_9 (by decide) (fun c => absurd c hc2) (fun _ => ?_)
      refine lv_iload_n hx hb dX2_bitIn_12 rfl (lv_at hl 2 rfl) ?_
      refine lv_bipush (v := 6) hx hb dX2_bitIn_13 (by decide) ?_
      refine lv_ishr hx hb dX2_bitIn_15 ?_
      refine lv_iload_n hx hb dX2_bitIn_16 rfl (lv_at hl 1 rfl) ?_
      rcases br9 hrun with ⟨hc3, hrun⟩ | ⟨hc3, hrun⟩
      · refine lv_icmp_ne (tgt := 29) hx hb dX2_bitIn_17 (by decide) (fun c => absurd hc3 c) (fun _ => ?_)
        refine lv_lconst (v := 1) hx hb dX2_bitIn_20 (by decide) ?_
        refine lv_iload_n hx hb dX2_bitIn_21 rfl (lv_at hl 2 rfl) ?_
        refine lv_bipush (v := 63) hx hb dX2_bitIn_22 (by decide) ?_
        refine lv_iand hx hb dX2_bitIn_24 ?_
        refine lv_lshl (v := (((1 : Int64) <<< (((p2 &&& 63) : Int32).toInt64 &&& 63)))) hx hb dX2_bitIn_25 rfl ?_
        refine lv_goto (tgt := 30) hx hb dX2_bitIn_26 (by decide) ?_
        exact J30 (((1 : Int64) <<< (((p2 &&& 63) : Int32).toInt64 &&& 63))) _ _ _ hrun hP hD hS (lv_sub hl [] rfl)
      · refine lv_icmp_ne (tgt := 29) hx hb dX2_bitIn_17 (by decide) (fun _ => ?_) (fun c => absurd c hc3)
        exact J29 _ _ _ hrun hP hD hS (lv_sub hl [] rfl)
def fX11_holds_J15 (y0_15 : Int32) : Option Int32 := (if y0_15 = 0 ∨ y0_15 = 1 then some y0_15 else none)
def fX11_holds (p0 : Int64) (p1 : Int32) : Option Int32 := (if (lg_cmp ((((p0 : Int64).toUInt64 >>> ((p1 : Int32).toInt64.toUInt64 &&& Int64.toUInt64 63)).toInt64) &&& (1 : Int64)) (0 : Int64)) = 0 then (fX11_holds_J15 0) else (fX11_holds_J15 1))
set_option maxHeartbeats 16000000 in
set_option maxRecDepth 100000 in
theorem kX11_holds {zs : Nat × Nat} (l : Launch) (dC : Nat → ClassId) (dI : Nat → Nat → Nat) (p0 : Int64) (p1 : Int32) (sz : Nat) (o : Int32) (hrun : fX11_holds p0 p1 = some o) : Met l yX11_holds (wz yX11_holds cX11_holds 3 (Option.some Jvm.ClassFile.FieldType.boolean)) ({ frames := 0, cells := 0, slots := 0, locals := 0 } : Room) (va_Pc [.long p0, .int p1] (PRE zs dC dI ([] : va_W) ([] : List (ClassId × FieldType)) sz)) (va_Qi (fun (r : Int32) (_ : Unit) => r = o) (fun _ t => POST dC dI ([] : va_W) ([] : List (ClassId × FieldType)) (va_A ([] : va_W) sz) t) (va_A ([] : va_W) sz)) 0 0 (va_A ([] : va_W) sz) := by
  refine Met.ofW (cc := cX11_holds) (maxL := 3) (ret := (Option.some Jvm.ClassFile.FieldType.boolean)) (by decide) rfl ?_
  intro p e s m args below meth c s₁ B hml hv
  obtain ⟨rfl, hsz, hP, hK, hD0, hE⟩ := hv
  have hx := B.exec
  have hb := B.bytes
  have hr := B.returns
  have hts0 := atoms_spec (ws := wz yX11_holds cX11_holds 3 (Option.some Jvm.ClassFile.FieldType.boolean)) B.pre
  have hts : ∀ w ∈ gw, w.before _ s = true := fun w h => hts0 w (List.mem_cons_of_mem _ h)
  have hown : s.vm.findClass RX11 = some m.cls := findClass_of_methodNamed B.named
  have hlocks := B.notSynchronized
  subst hsz
  have hD := hD0.self (sz := s.heap.size)
  refine gQ9 ?_
  intro Q hQ
  generalize hAe : va_A ([] : va_W) s.heap.size = A at hD hE hQ
  have hA : ∀ q : Nat, s.heap.size ≤ q → A q := fun q h => by rw [← hAe]; exact Or.inr h
  have hS : va_S A s.heap s.heap [] := va_S.rf
  have hP : va_P (dC, dI) cls ([] : va_W) s.heap := hP
  have hl := lv_entry ([.long p0, .int p1]) (n := 3) (Nat.le_of_ble_eq_true rfl)
  rw [lg_entry_eq]
  generalize (lg_sl ([.long p0, .int p1]) ++ List.replicate (3 - (lg_sl ([.long p0, .int p1])).length) Slot.unset).toArray = ls at hl ⊢
  have hl : lv_has ls 3 [(0, .long p0), (2, .int p1)] := hl
  obtain ⟨H, hHe⟩ : ∃ H, H = s.heap := ⟨_, rfl⟩
  obtain ⟨locs, hle⟩ : ∃ locs : List Loc, locs = [] := ⟨_, rfl⟩
  rw [← hHe] at hP
  have hS : va_S A s.heap H locs := by rw [hHe, hle]; exact hS
  show W p l e ({ frames := 0, cells := 0, slots := 0, locals := 0 } : Room) s m ([.long p0, .int p1] : List Value).toArray below meth c s.heap [] 0 0 Q (F0 m 0 ls [])
  rw [← hle]
  refine wH9 hHe ?_
  unfold fX11_holds at hrun
  refine lv_lload_n hx hb dX11_holds_0 rfl (lv_at hl 0 rfl) ?_
  refine lv_iload_n hx hb dX11_holds_1 rfl (lv_at hl 1 rfl) ?_
  refine lv_lushr (v := (((p0 : Int64).toUInt64 >>> ((p1 : Int32).toInt64.toUInt64 &&& Int64.toUInt64 63)).toInt64)) hx hb dX11_holds_2 rfl ?_
  refine lv_lconst (v := 1) hx hb dX11_holds_3 (by decide) ?_
  refine lv_land hx hb dX11_holds_4 ?_
  refine lv_lconst (v := 0) hx hb dX11_holds_5 (by decide) ?_
  refine W.lcmp hx hb dX11_holds_6 ?_
  have J15 : ∀ (y0_15 : Int32) (H : Heap) (locs : List Loc) (ls : Array Slot), (fX11_holds_J15 y0_15) = some o → va_P (dC, dI) cls ([] : va_W) H → va_D A ([] : va_W) → va_S A s.heap H locs → lv_has ls 3 [] → W p l e ({ frames := 0, cells := 0, slots := 0, locals := 0 } : Room) s m ([.long p0, .int p1] : List Value).toArray below meth c H locs 0 0 Q (F0 m 15 ls [.int y0_15]) := by
    intro y0_15 H locs ls hrun hP hD hS hl
    unfold fX11_holds_J15 at hrun
    obtain ⟨hz9, hrun⟩ := chk9 hrun
    have ho9 : y0_15 = o := Option.some.inj hrun
    have hP9 : va_P (dC, dI) cls ([] : va_W) H := by first | exact hP | (rw [← ho9]; exact hP)
    have hD9 : va_D A ([] : va_W) := by first | exact hD | (rw [← ho9]; exact hD)
    subst hQ
    exact W.zret (v := y0_15) hx hb hr (bz9 hz9) (fun t ht hW => ⟨⟨y0_15, (), rfl, (by rw [← ho9]), ⟨by rw [ht]; exact hP9, va_K.moved hW.alike hK, hD9⟩⟩, hS.F ht⟩) hS.2.2 dX11_holds_15
  rcases br9 hrun with ⟨hc1, hrun⟩ | ⟨hc1, hrun⟩
  · refine lv_if_eq (tgt := 14) hx hb dX11_holds_7 (by decide) (fun _ => ?_) (fun c => absurd hc1 c)
    refine lv_iconst (v := 0) hx hb dX11_holds_14 (by decide) ?_
    exact J15 0 _ _ _ hrun hP hD hS (lv_sub hl [] rfl)
  · refine lv_if_eq (tgt := 14) hx hb dX11_holds_7 (by decide) (fun c => absurd c hc1) (fun _ => ?_)
    refine lv_iconst (v := 1) hx hb dX11_holds_10 (by decide) ?_
    refine lv_goto (tgt := 15) hx hb dX11_holds_11 (by decide) ?_
    exact J15 1 _ _ _ hrun hP hD hS (lv_sub hl [] rfl)
def fX2_isIn (p0w : ST) (p1n : Nat) (p1f : RL) (p2 : Int32) (p3 : Int32) : Option Int32 := (if ixb ((p2 * (p0w 0 2)) + (p3 >>> (6 &&& 31))) p1n = true then ((fX11_holds (p1f (nn ((p2 * (p0w 0 2)) + (p3 >>> (6 &&& 31))))) (p3 &&& 63)).bind fun (o_2 : Int32) => (if o_2 = 0 ∨ o_2 = 1 then some o_2 else none)) else none)
set_option maxHeartbeats 16000000 in
set_option maxRecDepth 100000 in
theorem kX2_isIn {zs : Nat × Nat} (l : Launch) (dC : Nat → ClassId) (dI : Nat → Nat → Nat) (p0a : Nat → Nat) (p0k : Nat → ClassId) (p0n : Nat → Nat) (p0w : ST) (p0l : SL) (p1a : Nat) (p1k : ClassId) (p1n : Nat) (p1f : RL) (p2 : Int32) (p3 : Int32) (sz : Nat) (o : Int32) (hrun : fX2_isIn p0w p1n p1f p2 p3 = some o) : Met l yX2_isIn (wz yX2_isIn cX2_isIn 4 (Option.some Jvm.ClassFile.FieldType.boolean)) ({ frames := 1, cells := 0, slots := 0, locals := 22 } : Room) (va_Pc [.ref (p0a 0), .ref p1a, .int p2, .int p3] (PRE zs dC dI ((oX2 (p0a 0) p0a p0k p0n p0w p0l) ++ [(p1a, .inl (p1k, p1n, .inr (.inl p1f)))]) ((tX2 p0k) ++ [(p1k, .long)]) sz)) (va_Qi (fun (r : Int32) (_ : Unit) => r = o) (fun _ t => POST dC dI ((oX2 (p0a 0) p0a p0k p0n p0w p0l) ++ [(p1a, .inl (p1k, p1n, .inr (.inl p1f)))]) ((tX2 p0k) ++ [(p1k, .long)]) (va_A ((oX2 (p0a 0) p0a p0k p0n p0w p0l) ++ [(p1a, .inl (p1k, p1n, .inr (.inl p1f)))]) sz) t) (va_A ((oX2 (p0a 0) p0a p0k p0n p0w p0l) ++ [(p1a, .inl (p1k, p1n, .inr (.inl p1f)))]) sz)) 0 0 (va_A ((oX2 (p0a 0) p0a p0k p0n p0w p0l) ++ [(p1a, .inl (p1k, p1n, .inr (.inl p1f)))]) sz) := by
  refine Met.ofW (cc := cX2_isIn) (maxL := 4) (ret := (Option.some Jvm.ClassFile.FieldType.boolean)) (by decide) rfl ?_
  intro p e s m args below meth c s₁ B hml hv
  obtain ⟨rfl, hsz, hP, hK, hD0, hE⟩ := hv
  have hx := B.exec
  have hb := B.bytes
  have hr := B.returns
  have hts0 := atoms_spec (ws := wz yX2_isIn cX2_isIn 4 (Option.some Jvm.ClassFile.FieldType.boolean)) B.pre
  have hts : ∀ w ∈ gw, w.before _ s = true := fun w h => hts0 w (List.mem_cons_of_mem _ h)
  have hown : s.vm.findClass RX2 = some m.cls := findClass_of_methodNamed B.named
  have hlocks := B.notSynchronized
  subst hsz
  have hD := hD0.self (sz := s.heap.size)
  refine gQ9 ?_
  intro Q hQ
  generalize hAe : va_A ((oX2 (p0a 0) p0a p0k p0n p0w p0l) ++ [(p1a, .inl (p1k, p1n, .inr (.inl p1f)))]) s.heap.size = A at hD hE hQ
  have hA : ∀ q : Nat, s.heap.size ≤ q → A q := fun q h => by rw [← hAe]; exact Or.inr h
  have hS : va_S A s.heap s.heap [] := va_S.rf
  have hP : va_P (dC, dI) cls ((oX2 (p0a 0) p0a p0k p0n p0w p0l) ++ [(p1a, .inl (p1k, p1n, .inr (.inl p1f)))]) s.heap := hP
  have hl := lv_entry ([.ref (p0a 0), .ref p1a, .int p2, .int p3]) (n := 4) (Nat.le_of_ble_eq_true rfl)
  rw [lg_entry_eq]
  generalize (lg_sl ([.ref (p0a 0), .ref p1a, .int p2, .int p3]) ++ List.replicate (4 - (lg_sl ([.ref (p0a 0), .ref p1a, .int p2, .int p3])).length) Slot.unset).toArray = ls at hl ⊢
  have hl : lv_has ls 4 [(0, .ref (p0a 0)), (1, .ref p1a), (2, .int p2), (3, .int p3)] := hl
  obtain ⟨H, hHe⟩ : ∃ H, H = s.heap := ⟨_, rfl⟩
  obtain ⟨locs, hle⟩ : ∃ locs : List Loc, locs = [] := ⟨_, rfl⟩
  rw [← hHe] at hP
  have hS : va_S A s.heap H locs := by rw [hHe, hle]; exact hS
  show W p l e ({ frames := 1, cells := 0, slots := 0, locals := 22 } : Room) s m ([.ref (p0a 0), .ref p1a, .int p2, .int p3] : List Value).toArray below meth c s.heap [] 0 0 Q (F0 m 0 ls [])
  rw [← hle]
  refine wH9 hHe ?_
  unfold fX2_isIn at hrun
  refine lv_aload_n hx hb dX2_isIn_0 rfl (lv_at hl 1 rfl) ?_
  refine lv_iload_n hx hb dX2_isIn_1 rfl (lv_at hl 2 rfl) ?_
  refine lv_aload_n hx hb dX2_isIn_2 rfl (lv_at hl 0 rfl) ?_
  refine va_get (D := (dC, dI)) (ci := 9) (v := .int (p0w 0 2)) (C := RX2) (T := TX2) (N := 19) hx hb hts i_X2 hown hK hP 0 rfl rfl 2 (by decide) (hts _ qw9) (fun _ h9 => h9) rfl dX2_isIn_3 ?_
  refine lv_imul hx hb dX2_isIn_6 ?_
  refine lv_iload_n hx hb dX2_isIn_7 rfl (lv_at hl 3 rfl) ?_
  refine lv_bipush (v := 6) hx hb dX2_isIn_8 (by decide) ?_
  refine lv_ishr hx hb dX2_isIn_10 ?_
  refine lv_iadd hx hb dX2_isIn_11 ?_
  obtain ⟨hq1, hrun⟩ := chk9 hrun
  refine va_lald hx hb hK hP 16 15 rfl rfl (ixb_in hq1) dX2_isIn_12 ?_
  refine lv_iload_n hx hb dX2_isIn_13 rfl (lv_at hl 3 rfl) ?_
  refine lv_bipush (v := 63) hx hb dX2_isIn_14 (by decide) ?_
  refine lv_iand hx hb dX2_isIn_16 ?_
  obtain ⟨o_2, hc_2, hrun⟩ := bnd9 hrun
  have hPc := hP.sub (ws' := ([] : va_W)) [] rfl
  have hDc := hD.sub (ws' := ([] : va_W)) [] (by decide) rfl
  have hKc := hK.sub (tys' := ([] : List (ClassId × FieldType))) [] rfl
  have hFc := va_free (wc := ([] : va_W)) hD hS hA [] rfl
  refine va_calli (va_runSN (As := [.long (p1f (nn ((p2 * (p0w 0 2)) + (p3 >>> (6 &&& 31))))), .int (p3 &&& 63)]) (rest := []) ⟨hx, hb, hml, hown, hts⟩ (kX11_holds l dC dI (p0 := (p1f (nn ((p2 * (p0w 0 2)) + (p3 >>> (6 &&& 31)))))) (p1 := (p3 &&& 63)) (sz := _) (o := o_2) (hrun := hc_2)) ⟨(va_cnB 2 hts (gi_z qw10) rfl rfl rfl (hE.nw (List.mem_append_right _ (tbl_8 (i := 223) rfl)) rfl) (hts _ qw11) (by decide +kernel) ⟨Nat.le_of_ble_eq_true rfl, Nat.le_of_ble_eq_true rfl⟩), (hts _ qw12), trivial⟩ ⟨PRE.blind, PRE.of hE hS hFc hPc hKc hDc⟩ rfl rfl hl.1 rfl (lv_room (Nat.le_of_ble_eq_true rfl)) dX2_isIn_17 ⟨Nat.le_of_ble_eq_true rfl, Nat.le_of_ble_eq_true rfl⟩) hS (fun q _ h => hFc q h) hFc (fun r3 u t H locs ht hvm hw hB hz1 hk1 hS => ?_)
  obtain ⟨hP, hD, hK⟩ := JOIN (wr := ((oX2 (p0a 0) p0a p0k p0n p0w p0l) ++ [(p1a, .inl (p1k, p1n, .inr (.inl p1f)))])) hP hD hK [] [0, 1, 2, 3, 4, 5, 6, 7, 8, 9, 10, 11, 12, 13, 14, 15, 16] [0, 1, 2, 3, 4, 5, 6, 7, 8, 9, 10, 11, 12, 13, 14, 15] rfl rfl (by decide) (by decide) rfl hk1 hFc ht hvm hB
  have hP : va_P (dC, dI) cls ((oX2 (p0a 0) p0a p0k p0n p0w p0l) ++ [(p1a, .inl (p1k, p1n, .inr (.inl p1f)))]) H := hP.sub [0, 1, 2, 3, 4, 5, 6, 7, 8, 9, 10, 11, 12, 13, 14, 15, 16] rfl
  have hD : va_D A ((oX2 (p0a 0) p0a p0k p0n p0w p0l) ++ [(p1a, .inl (p1k, p1n, .inr (.inl p1f)))]) := hD.sub [0, 1, 2, 3, 4, 5, 6, 7, 8, 9, 10, 11, 12, 13, 14, 15, 16] (by decide) rfl
  have hK : va_K (dC, dI) cls ((tX2 p0k) ++ [(p1k, .long)]) s := hK.sub [0, 1, 2, 3, 4, 5, 6, 7, 8, 9, 10, 11, 12, 13, 14, 15] rfl
  obtain rfl : o_2 = r3 := hw.symm
  obtain ⟨hz9, hrun⟩ := chk9 hrun
  have ho9 : o_2 = o := Option.some.inj hrun
  have hP9 : va_P (dC, dI) cls ((oX2 (p0a 0) p0a p0k p0n p0w p0l) ++ [(p1a, .inl (p1k, p1n, .inr (.inl p1f)))]) H := by first | exact hP | (rw [← ho9]; exact hP)
  have hD9 : va_D A ((oX2 (p0a 0) p0a p0k p0n p0w p0l) ++ [(p1a, .inl (p1k, p1n, .inr (.inl p1f)))]) := by first | exact hD | (rw [← ho9]; exact hD)
  subst hQ
  exact W.zret (v := o_2) hx hb hr (bz9 hz9) (fun t ht hW => ⟨⟨o_2, (), rfl, (by rw [← ho9]), ⟨by rw [ht]; exact hP9, va_K.moved hW.alike hK, hD9⟩⟩, hS.F ht⟩) hS.2.2 dX2_isIn_20
def fX2_lowerLeft_J20 (p0w_20 : ST) : Option ST := some p0w_20
def fX2_lowerLeft (p0n : Nat → Nat) (p0w : ST) (p1 : Int32) : Option ST := (if ixb p1 (p0n 18) = true then (if (p0w 18 (nn p1)) = (-1) then (fX2_lowerLeft_J20 p0w) else (if ixb p1 (p0n 18) = true then (if ixb p1 (p0n 18) = true then (lt9 (upw p0w 18 (nn p1) ((p0w 18 (nn p1)) - 1)) fun (w5 : ST) => (fX2_lowerLeft_J20 w5)) else none) else none)) else none)
set_option maxHeartbeats 16000000 in
set_option maxRecDepth 100000 in
theorem kX2_lowerLeft {zs : Nat × Nat} (l : Launch) (dC : Nat → ClassId) (dI : Nat → Nat → Nat) (p0a : Nat → Nat) (p0k : Nat → ClassId) (p0n : Nat → Nat) (p0w : ST) (p0l : SL) (p1 : Int32) (sz : Nat) (o : ST) (hrun : fX2_lowerLeft p0n p0w p1 = some o) : Met l yX2_lowerLeft (wz yX2_lowerLeft cX2_lowerLeft 2 (Option.none : Option Jvm.ClassFile.FieldType)) ({ frames := 0, cells := 0, slots := 0, locals := 0 } : Room) (va_Pc [.ref (p0a 0), .int p1] (PRE zs dC dI (oX2 (p0a 0) p0a p0k p0n p0w p0l) (tX2 p0k) sz)) (va_Qv (fun (_ : Unit) => True) (fun _ t => POST dC dI (oX2 (p0a 0) p0a p0k p0n o p0l) (tX2 p0k) (va_A (oX2 (p0a 0) p0a p0k p0n p0w p0l) sz) t) (va_A (oX2 (p0a 0) p0a p0k p0n p0w p0l) sz)) 0 0 (va_A (oX2 (p0a 0) p0a p0k p0n p0w p0l) sz) := by
  refine Met.ofW (cc := cX2_lowerLeft) (maxL := 2) (ret := (Option.none : Option Jvm.ClassFile.FieldType)) (by decide) rfl ?_
  intro p e s m args below meth c s₁ B hml hv
  obtain ⟨rfl, hsz, hP, hK, hD0, hE⟩ := hv
  have hx := B.exec
  have hb := B.bytes
  have hr := B.returns
  have hts0 := atoms_spec (ws := wz yX2_lowerLeft cX2_lowerLeft 2 (Option.none : Option Jvm.ClassFile.FieldType)) B.pre
  have hts : ∀ w ∈ gw, w.before _ s = true := fun w h => hts0 w (List.mem_cons_of_mem _ h)
  have hown : s.vm.findClass RX2 = some m.cls := findClass_of_methodNamed B.named
  have hlocks := B.notSynchronized
  subst hsz
  have hD := hD0.self (sz := s.heap.size)
  refine gQ9 ?_
  intro Q hQ
  generalize hAe : va_A (oX2 (p0a 0) p0a p0k p0n p0w p0l) s.heap.size = A at hD hE hQ
  have hA : ∀ q : Nat, s.heap.size ≤ q → A q := fun q h => by rw [← hAe]; exact Or.inr h
  have hS : va_S A s.heap s.heap [] := va_S.rf
  have hP : va_P (dC, dI) cls (oX2 (p0a 0) p0a p0k p0n p0w p0l) s.heap := hP
  have hl := lv_entry ([.ref (p0a 0), .int p1]) (n := 2) (Nat.le_of_ble_eq_true rfl)
  rw [lg_entry_eq]
  generalize (lg_sl ([.ref (p0a 0), .int p1]) ++ List.replicate (2 - (lg_sl ([.ref (p0a 0), .int p1])).length) Slot.unset).toArray = ls at hl ⊢
  have hl : lv_has ls 2 [(0, .ref (p0a 0)), (1, .int p1)] := hl
  obtain ⟨H, hHe⟩ : ∃ H, H = s.heap := ⟨_, rfl⟩
  obtain ⟨locs, hle⟩ : ∃ locs : List Loc, locs = [] := ⟨_, rfl⟩
  rw [← hHe] at hP
  have hS : va_S A s.heap H locs := by rw [hHe, hle]; exact hS
  show W p l e ({ frames := 0, cells := 0, slots := 0, locals := 0 } : Room) s m ([.ref (p0a 0), .int p1] : List Value).toArray below meth c s.heap [] 0 0 Q (F0 m 0 ls [])
  rw [← hle]
  refine wH9 hHe ?_
  unfold fX2_lowerLeft at hrun
  refine lv_aload_n hx hb dX2_lowerLeft_0 rfl (lv_at hl 0 rfl) ?_
  refine va_get (D := (dC, dI)) (ci := 9) (v := .ref (p0a 18)) (C := RX2) (T := TX2) (N := 19) hx hb hts i_X2 hown hK hP 0 rfl rfl 17 (by decide) (hts _ qw13) (fun _ h9 => h9) rfl dX2_lowerLeft_1 ?_
  refine lv_iload_n hx hb dX2_lowerLeft_4 rfl (lv_at hl 1 rfl) ?_
  obtain ⟨hq1, hrun⟩ := chk9 hrun
  refine va_iald hx hb hK hP 14 13 rfl rfl (ixb_in hq1) dX2_lowerLeft_5 ?_
  refine lv_iconst (v := (-1)) hx hb dX2_lowerLeft_6 (by decide) ?_
  have J20 : ∀ (p0w_20 : ST) (H : Heap) (locs : List Loc) (ls : Array Slot), (fX2_lowerLeft_J20 p0w_20) = some o → va_P (dC, dI) cls (oX2 (p0a 0) p0a p0k p0n p0w_20 p0l) H → va_D A (oX2 (p0a 0) p0a p0k p0n p0w_20 p0l) → va_S A s.heap H locs → lv_has ls 2 [] → W p l e ({ frames := 0, cells := 0, slots := 0, locals := 0 } : Room) s m ([.ref (p0a 0), .int p1] : List Value).toArray below meth c H locs 0 0 Q (F0 m 20 ls []) := by
    intro p0w_20 H locs ls hrun hP hD hS hl
    unfold fX2_lowerLeft_J20 at hrun
    have ho9 : p0w_20 = o := Option.some.inj hrun
    have hP9 : va_P (dC, dI) cls (oX2 (p0a 0) p0a p0k p0n o p0l) H := by first | exact hP | (rw [← ho9]; exact hP)
    have hD9 : va_D A (oX2 (p0a 0) p0a p0k p0n o p0l) := by first | exact hD | (rw [← ho9]; exact hD)
    subst hQ
    exact W.vret hx hb hr (fun t ht hW => ⟨⟨(), rfl, trivial, ⟨by rw [ht]; exact hP9, va_K.moved hW.alike hK, hD9⟩⟩, hS.F ht⟩) hS.2.2 dX2_lowerLeft_20
  rcases br9 hrun with ⟨hc2, hrun⟩ | ⟨hc2, hrun⟩
  · refine lv_icmp_eq (tgt := 20) hx hb dX2_lowerLeft_7 (by decide) (fun _ => ?_) (fun c => absurd hc2 c)
    exact J20 p0w _ _ _ hrun hP hD hS (lv_sub hl [] rfl)
  · refine lv_icmp_eq (tgt := 20) hx hb dX2_lowerLeft_7 (by decide) (fun c => absurd c hc2) (fun _ => ?_)
    refine lv_aload_n hx hb dX2_lowerLeft_10 rfl (lv_at hl 0 rfl) ?_
    refine va_get (D := (dC, dI)) (ci := 9) (v := .ref (p0a 18)) (C := RX2) (T := TX2) (N := 19) hx hb hts i_X2 hown hK hP 0 rfl rfl 17 (by decide) (hts _ qw13) (fun _ h9 => h9) rfl dX2_lowerLeft_11 ?_
    refine lv_iload_n hx hb dX2_lowerLeft_14 rfl (lv_at hl 1 rfl) ?_
    refine lv_dup2_11 hx hb dX2_lowerLeft_15 rfl rfl ?_
    obtain ⟨hq3, hrun⟩ := chk9 hrun
    refine va_iald hx hb hK hP 14 13 rfl rfl (ixb_in hq3) dX2_lowerLeft_16 ?_
    refine lv_iconst (v := 1) hx hb dX2_lowerLeft_17 (by decide) ?_
    refine lv_isub hx hb dX2_lowerLeft_18 ?_
    obtain ⟨hq4, hrun⟩ := chk9 hrun
    refine va_iast hx hb hK hP hD hS 14 13 rfl rfl (ixb_in hq4) dX2_lowerLeft_19 (fun H locs hP hD hS => ?_)
    have hP : va_P (dC, dI) cls (oX2 (p0a 0) p0a p0k p0n (upw p0w 18 (nn p1) ((p0w 18 (nn p1)) - 1)) p0l) H := hP
    have hD : va_D A (oX2 (p0a 0) p0a p0k p0n (upw p0w 18 (nn p1) ((p0w 18 (nn p1)) - 1)) p0l) := hD
    obtain ⟨w5, ew5, hrun⟩ := let9 hrun
    rw [← ew5] at hP hD
    exact J20 w5 _ _ _ hrun hP hD hS (lv_sub hl [] rfl)
