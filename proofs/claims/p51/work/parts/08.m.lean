abbrev cX1_leaveOut : ByteArray := prog_3_method_22_code
def yX1_leaveOut : MethodName := ⟨RX1, "leaveOut", "([I)V"⟩
abbrev cX1_takePhis : ByteArray := prog_3_method_15_code
def yX1_takePhis : MethodName := ⟨RX1, "takePhis", "(I)I"⟩
abbrev cX1_takeSteps : ByteArray := prog_3_method_10_code
def yX1_takeSteps : MethodName := ⟨RX1, "takeSteps", "(I)I"⟩
abbrev cX1_setTake : ByteArray := prog_3_method_19_code
def yX1_setTake : MethodName := ⟨RX1, "setTake", "(III)V"⟩
abbrev cX1_take : ByteArray := prog_3_method_18_code
def yX1_take : MethodName := ⟨RX1, "take", "(II)I"⟩
abbrev cX1_wayFrom : ByteArray := prog_3_method_6_code
def yX1_wayFrom : MethodName := ⟨RX1, "wayFrom", "(II)I"⟩
abbrev cX1_waysTo : ByteArray := prog_3_method_5_code
def yX1_waysTo : MethodName := ⟨RX1, "waysTo", "(I)I"⟩
abbrev cX8_findDominators : ByteArray := prog_10_method_8_code
def yX8_findDominators : MethodName := ⟨RX8, "findDominators", "(LGearbox$Flow;)V"⟩
abbrev cX8_nearest : ByteArray := prog_10_method_9_code
def yX8_nearest : MethodName := ⟨RX8, "nearest", "(JI)I"⟩
abbrev cX11_holds : ByteArray := prog_1_method_69_code
def yX11_holds : MethodName := ⟨RX11, "holds", "(JI)Z"⟩
abbrev cX8_findLoop : ByteArray := prog_10_method_10_code
def yX8_findLoop : MethodName := ⟨RX8, "findLoop", "(LGearbox$Flow;I)J"⟩
abbrev cX8_waysInto : ByteArray := prog_10_method_11_code
def yX8_waysInto : MethodName := ⟨RX8, "waysInto", "(LGearbox$Flow;I)J"⟩
abbrev cX8_findWays : ByteArray := prog_10_method_7_code
def yX8_findWays : MethodName := ⟨RX8, "findWays", "(LGearbox$Flow;)V"⟩
abbrev cX8_measure : ByteArray := prog_10_method_6_code
def yX8_measure : MethodName := ⟨RX8, "measure", "(LGearbox$Flow;)V"⟩
abbrev cJ7_fill_53178 : ByteArray := prog_48_method_103_code
def yJ7_fill_53178 : MethodName := ⟨RJ7, "fill", "([II)V"⟩
abbrev cX8_move : ByteArray := prog_10_method_3_code
def yX8_move : MethodName := ⟨RX8, "move", "([III)V"⟩
theorem dJ7_fill_53178_0 : decode cJ7_fill_53178 0 = .ok (.iconst 0, 1) := by decide +kernel
theorem dJ7_fill_53178_1 : decode cJ7_fill_53178 1 = .ok (.istore_n 2, 1) := by decide +kernel
theorem dJ7_fill_53178_2 : decode cJ7_fill_53178 2 = .ok (.aload_n 0, 1) := by decide +kernel
theorem dJ7_fill_53178_3 : decode cJ7_fill_53178 3 = .ok (.arraylength, 1) := by decide +kernel
theorem dJ7_fill_53178_4 : decode cJ7_fill_53178 4 = .ok (.istore_n 3, 1) := by decide +kernel
theorem dJ7_fill_53178_5 : decode cJ7_fill_53178 5 = .ok (.iload_n 2, 1) := by decide +kernel
theorem dJ7_fill_53178_6 : decode cJ7_fill_53178 6 = .ok (.iload_n 3, 1) := by decide +kernel
theorem dJ7_fill_53178_7 : decode cJ7_fill_53178 7 = .ok (.if_icmp .ge 13, 3) := by decide +kernel
theorem dJ7_fill_53178_10 : decode cJ7_fill_53178 10 = .ok (.aload_n 0, 1) := by decide +kernel
theorem dJ7_fill_53178_11 : decode cJ7_fill_53178 11 = .ok (.iload_n 2, 1) := by decide +kernel
theorem dJ7_fill_53178_12 : decode cJ7_fill_53178 12 = .ok (.iload_n 1, 1) := by decide +kernel
theorem dJ7_fill_53178_13 : decode cJ7_fill_53178 13 = .ok (.iastore, 1) := by decide +kernel
theorem dJ7_fill_53178_14 : decode cJ7_fill_53178 14 = .ok (.iinc 2 1, 3) := by decide +kernel
theorem dJ7_fill_53178_17 : decode cJ7_fill_53178 17 = .ok (.goto (-12), 3) := by decide +kernel
theorem dJ7_fill_53178_20 : decode cJ7_fill_53178 20 = .ok (.return_, 1) := by decide +kernel
theorem dX11_holds_0 : decode cX11_holds 0 = .ok (.lload_n 0, 1) := by decide +kernel
theorem dX11_holds_1 : decode cX11_holds 1 = .ok (.iload_n 2, 1) := by decide +kernel
theorem dX11_holds_2 : decode cX11_holds 2 = .ok (.lushr, 1) := by decide +kernel
theorem dX11_holds_3 : decode cX11_holds 3 = .ok (.lconst 1, 1) := by decide +kernel
theorem dX11_holds_4 : decode cX11_holds 4 = .ok (.land, 1) := by decide +kernel
theorem dX11_holds_5 : decode cX11_holds 5 = .ok (.lconst 0, 1) := by decide +kernel
theorem dX11_holds_6 : decode cX11_holds 6 = .ok (.lcmp, 1) := by decide +kernel
theorem dX11_holds_7 : decode cX11_holds 7 = .ok (.ifCond .eq 7, 3) := by decide +kernel
theorem dX11_holds_10 : decode cX11_holds 10 = .ok (.iconst 1, 1) := by decide +kernel
theorem dX11_holds_11 : decode cX11_holds 11 = .ok (.goto 4, 3) := by decide +kernel
theorem dX11_holds_14 : decode cX11_holds 14 = .ok (.iconst 0, 1) := by decide +kernel
theorem dX11_holds_15 : decode cX11_holds 15 = .ok (.ireturn, 1) := by decide +kernel
theorem dX1_leaveOut_0 : decode cX1_leaveOut 0 = .ok (.iconst 0, 1) := by decide +kernel
theorem dX1_leaveOut_1 : decode cX1_leaveOut 1 = .ok (.istore_n 2, 1) := by decide +kernel
theorem dX1_leaveOut_2 : decode cX1_leaveOut 2 = .ok (.iload_n 2, 1) := by decide +kernel
theorem dX1_leaveOut_3 : decode cX1_leaveOut 3 = .ok (.aload_n 0, 1) := by decide +kernel
theorem dX1_leaveOut_4 : decode cX1_leaveOut 4 = .ok (.getfield 73, 3) := by decide +kernel
theorem dX1_leaveOut_7 : decode cX1_leaveOut 7 = .ok (.if_icmp .ge 114, 3) := by decide +kernel
theorem dX1_leaveOut_10 : decode cX1_leaveOut 10 = .ok (.aload_n 0, 1) := by decide +kernel
theorem dX1_leaveOut_11 : decode cX1_leaveOut 11 = .ok (.iload_n 2, 1) := by decide +kernel
theorem dX1_leaveOut_12 : decode cX1_leaveOut 12 = .ok (.invokevirtual 140, 3) := by decide +kernel
theorem dX1_leaveOut_15 : decode cX1_leaveOut 15 = .ok (.istore 4, 2) := by decide +kernel
theorem dX1_leaveOut_17 : decode cX1_leaveOut 17 = .ok (.iload 4, 2) := by decide +kernel
theorem dX1_leaveOut_19 : decode cX1_leaveOut 19 = .ok (.ifCond .lt 36, 3) := by decide +kernel
theorem dX1_leaveOut_22 : decode cX1_leaveOut 22 = .ok (.aload_n 0, 1) := by decide +kernel
theorem dX1_leaveOut_23 : decode cX1_leaveOut 23 = .ok (.getfield 67, 3) := by decide +kernel
theorem dX1_leaveOut_26 : decode cX1_leaveOut 26 = .ok (.iload 4, 2) := by decide +kernel
theorem dX1_leaveOut_28 : decode cX1_leaveOut 28 = .ok (.iaload, 1) := by decide +kernel
theorem dX1_leaveOut_29 : decode cX1_leaveOut 29 = .ok (.istore_n 3, 1) := by decide +kernel
theorem dX1_leaveOut_30 : decode cX1_leaveOut 30 = .ok (.aload_n 1, 1) := by decide +kernel
theorem dX1_leaveOut_31 : decode cX1_leaveOut 31 = .ok (.aload_n 0, 1) := by decide +kernel
theorem dX1_leaveOut_32 : decode cX1_leaveOut 32 = .ok (.getfield 64, 3) := by decide +kernel
theorem dX1_leaveOut_35 : decode cX1_leaveOut 35 = .ok (.iload 4, 2) := by decide +kernel
theorem dX1_leaveOut_37 : decode cX1_leaveOut 37 = .ok (.iaload, 1) := by decide +kernel
theorem dX1_leaveOut_38 : decode cX1_leaveOut 38 = .ok (.iaload, 1) := by decide +kernel
theorem dX1_leaveOut_39 : decode cX1_leaveOut 39 = .ok (.ifCond .ne 10, 3) := by decide +kernel
theorem dX1_leaveOut_42 : decode cX1_leaveOut 42 = .ok (.aload_n 0, 1) := by decide +kernel
theorem dX1_leaveOut_43 : decode cX1_leaveOut 43 = .ok (.iload_n 2, 1) := by decide +kernel
theorem dX1_leaveOut_44 : decode cX1_leaveOut 44 = .ok (.iload 4, 2) := by decide +kernel
theorem dX1_leaveOut_46 : decode cX1_leaveOut 46 = .ok (.invokevirtual 133, 3) := by decide +kernel
theorem dX1_leaveOut_49 : decode cX1_leaveOut 49 = .ok (.iload_n 3, 1) := by decide +kernel
theorem dX1_leaveOut_50 : decode cX1_leaveOut 50 = .ok (.istore 4, 2) := by decide +kernel
theorem dX1_leaveOut_52 : decode cX1_leaveOut 52 = .ok (.goto (-35), 3) := by decide +kernel
theorem dX1_leaveOut_55 : decode cX1_leaveOut 55 = .ok (.aload_n 0, 1) := by decide +kernel
theorem dX1_leaveOut_56 : decode cX1_leaveOut 56 = .ok (.iload_n 2, 1) := by decide +kernel
theorem dX1_leaveOut_57 : decode cX1_leaveOut 57 = .ok (.invokevirtual 143, 3) := by decide +kernel
theorem dX1_leaveOut_60 : decode cX1_leaveOut 60 = .ok (.istore 4, 2) := by decide +kernel
theorem dX1_leaveOut_62 : decode cX1_leaveOut 62 = .ok (.iload 4, 2) := by decide +kernel
theorem dX1_leaveOut_64 : decode cX1_leaveOut 64 = .ok (.ifCond .lt 51, 3) := by decide +kernel
theorem dX1_leaveOut_67 : decode cX1_leaveOut 67 = .ok (.aload_n 0, 1) := by decide +kernel
theorem dX1_leaveOut_68 : decode cX1_leaveOut 68 = .ok (.getfield 16, 3) := by decide +kernel
theorem dX1_leaveOut_71 : decode cX1_leaveOut 71 = .ok (.getfield 119, 3) := by decide +kernel
theorem dX1_leaveOut_74 : decode cX1_leaveOut 74 = .ok (.iload 4, 2) := by decide +kernel
theorem dX1_leaveOut_76 : decode cX1_leaveOut 76 = .ok (.iaload, 1) := by decide +kernel
theorem dX1_leaveOut_77 : decode cX1_leaveOut 77 = .ok (.istore_n 3, 1) := by decide +kernel
theorem dX1_leaveOut_78 : decode cX1_leaveOut 78 = .ok (.aload_n 0, 1) := by decide +kernel
theorem dX1_leaveOut_79 : decode cX1_leaveOut 79 = .ok (.getfield 16, 3) := by decide +kernel
theorem dX1_leaveOut_82 : decode cX1_leaveOut 82 = .ok (.getfield 106, 3) := by decide +kernel
theorem dX1_leaveOut_85 : decode cX1_leaveOut 85 = .ok (.iload 4, 2) := by decide +kernel
theorem dX1_leaveOut_87 : decode cX1_leaveOut 87 = .ok (.iaload, 1) := by decide +kernel
theorem dX1_leaveOut_88 : decode cX1_leaveOut 88 = .ok (.istore 5, 2) := by decide +kernel
theorem dX1_leaveOut_90 : decode cX1_leaveOut 90 = .ok (.iload 5, 2) := by decide +kernel
theorem dX1_leaveOut_92 : decode cX1_leaveOut 92 = .ok (.ifCond .lt 10, 3) := by decide +kernel
theorem dX1_leaveOut_95 : decode cX1_leaveOut 95 = .ok (.aload_n 1, 1) := by decide +kernel
theorem dX1_leaveOut_96 : decode cX1_leaveOut 96 = .ok (.iload 5, 2) := by decide +kernel
theorem dX1_leaveOut_98 : decode cX1_leaveOut 98 = .ok (.iaload, 1) := by decide +kernel
theorem dX1_leaveOut_99 : decode cX1_leaveOut 99 = .ok (.ifCond .ne 10, 3) := by decide +kernel
theorem dX1_leaveOut_102 : decode cX1_leaveOut 102 = .ok (.aload_n 0, 1) := by decide +kernel
theorem dX1_leaveOut_103 : decode cX1_leaveOut 103 = .ok (.iload_n 2, 1) := by decide +kernel
theorem dX1_leaveOut_104 : decode cX1_leaveOut 104 = .ok (.iload 4, 2) := by decide +kernel
theorem dX1_leaveOut_106 : decode cX1_leaveOut 106 = .ok (.invokevirtual 125, 3) := by decide +kernel
theorem dX1_leaveOut_109 : decode cX1_leaveOut 109 = .ok (.iload_n 3, 1) := by decide +kernel
theorem dX1_leaveOut_110 : decode cX1_leaveOut 110 = .ok (.istore 4, 2) := by decide +kernel
theorem dX1_leaveOut_112 : decode cX1_leaveOut 112 = .ok (.goto (-50), 3) := by decide +kernel
theorem dX1_leaveOut_115 : decode cX1_leaveOut 115 = .ok (.iinc 2 1, 3) := by decide +kernel
theorem dX1_leaveOut_118 : decode cX1_leaveOut 118 = .ok (.goto (-116), 3) := by decide +kernel
theorem dX1_leaveOut_121 : decode cX1_leaveOut 121 = .ok (.return_, 1) := by decide +kernel
theorem dX1_setTake_0 : decode cX1_setTake 0 = .ok (.aload_n 0, 1) := by decide +kernel
theorem dX1_setTake_1 : decode cX1_setTake 1 = .ok (.getfield 70, 3) := by decide +kernel
theorem dX1_setTake_4 : decode cX1_setTake 4 = .ok (.iload_n 1, 1) := by decide +kernel
theorem dX1_setTake_5 : decode cX1_setTake 5 = .ok (.bipush 60, 2) := by decide +kernel
theorem dX1_setTake_7 : decode cX1_setTake 7 = .ok (.imul, 1) := by decide +kernel
theorem dX1_setTake_8 : decode cX1_setTake 8 = .ok (.iload_n 2, 1) := by decide +kernel
theorem dX1_setTake_9 : decode cX1_setTake 9 = .ok (.iadd, 1) := by decide +kernel
theorem dX1_setTake_10 : decode cX1_setTake 10 = .ok (.iload_n 3, 1) := by decide +kernel
theorem dX1_setTake_11 : decode cX1_setTake 11 = .ok (.iastore, 1) := by decide +kernel
theorem dX1_setTake_12 : decode cX1_setTake 12 = .ok (.return_, 1) := by decide +kernel
theorem dX1_take_0 : decode cX1_take 0 = .ok (.aload_n 0, 1) := by decide +kernel
theorem dX1_take_1 : decode cX1_take 1 = .ok (.getfield 70, 3) := by decide +kernel
theorem dX1_take_4 : decode cX1_take 4 = .ok (.iload_n 1, 1) := by decide +kernel
theorem dX1_take_5 : decode cX1_take 5 = .ok (.bipush 60, 2) := by decide +kernel
theorem dX1_take_7 : decode cX1_take 7 = .ok (.imul, 1) := by decide +kernel
theorem dX1_take_8 : decode cX1_take 8 = .ok (.iload_n 2, 1) := by decide +kernel
theorem dX1_take_9 : decode cX1_take 9 = .ok (.iadd, 1) := by decide +kernel
theorem dX1_take_10 : decode cX1_take 10 = .ok (.iaload, 1) := by decide +kernel
theorem dX1_take_11 : decode cX1_take 11 = .ok (.ireturn, 1) := by decide +kernel
theorem dX1_takePhis_0 : decode cX1_takePhis 0 = .ok (.aload_n 0, 1) := by decide +kernel
theorem dX1_takePhis_1 : decode cX1_takePhis 1 = .ok (.getfield 27, 3) := by decide +kernel
theorem dX1_takePhis_4 : decode cX1_takePhis 4 = .ok (.iload_n 1, 1) := by decide +kernel
theorem dX1_takePhis_5 : decode cX1_takePhis 5 = .ok (.iaload, 1) := by decide +kernel
theorem dX1_takePhis_6 : decode cX1_takePhis 6 = .ok (.istore_n 2, 1) := by decide +kernel
theorem dX1_takePhis_7 : decode cX1_takePhis 7 = .ok (.aload_n 0, 1) := by decide +kernel
theorem dX1_takePhis_8 : decode cX1_takePhis 8 = .ok (.getfield 27, 3) := by decide +kernel
theorem dX1_takePhis_11 : decode cX1_takePhis 11 = .ok (.iload_n 1, 1) := by decide +kernel
theorem dX1_takePhis_12 : decode cX1_takePhis 12 = .ok (.iconst (-1), 1) := by decide +kernel
theorem dX1_takePhis_13 : decode cX1_takePhis 13 = .ok (.iastore, 1) := by decide +kernel
theorem dX1_takePhis_14 : decode cX1_takePhis 14 = .ok (.aload_n 0, 1) := by decide +kernel
theorem dX1_takePhis_15 : decode cX1_takePhis 15 = .ok (.getfield 30, 3) := by decide +kernel
theorem dX1_takePhis_18 : decode cX1_takePhis 18 = .ok (.iload_n 1, 1) := by decide +kernel
theorem dX1_takePhis_19 : decode cX1_takePhis 19 = .ok (.iconst (-1), 1) := by decide +kernel
theorem dX1_takePhis_20 : decode cX1_takePhis 20 = .ok (.iastore, 1) := by decide +kernel
theorem dX1_takePhis_21 : decode cX1_takePhis 21 = .ok (.iload_n 2, 1) := by decide +kernel
theorem dX1_takePhis_22 : decode cX1_takePhis 22 = .ok (.ireturn, 1) := by decide +kernel
theorem dX1_takeSteps_0 : decode cX1_takeSteps 0 = .ok (.aload_n 0, 1) := by decide +kernel
theorem dX1_takeSteps_1 : decode cX1_takeSteps 1 = .ok (.getfield 20, 3) := by decide +kernel
theorem dX1_takeSteps_4 : decode cX1_takeSteps 4 = .ok (.iload_n 1, 1) := by decide +kernel
theorem dX1_takeSteps_5 : decode cX1_takeSteps 5 = .ok (.iaload, 1) := by decide +kernel
theorem dX1_takeSteps_6 : decode cX1_takeSteps 6 = .ok (.istore_n 2, 1) := by decide +kernel
theorem dX1_takeSteps_7 : decode cX1_takeSteps 7 = .ok (.aload_n 0, 1) := by decide +kernel
theorem dX1_takeSteps_8 : decode cX1_takeSteps 8 = .ok (.getfield 20, 3) := by decide +kernel
theorem dX1_takeSteps_11 : decode cX1_takeSteps 11 = .ok (.iload_n 1, 1) := by decide +kernel
theorem dX1_takeSteps_12 : decode cX1_takeSteps 12 = .ok (.iconst (-1), 1) := by decide +kernel
theorem dX1_takeSteps_13 : decode cX1_takeSteps 13 = .ok (.iastore, 1) := by decide +kernel
theorem dX1_takeSteps_14 : decode cX1_takeSteps 14 = .ok (.aload_n 0, 1) := by decide +kernel
theorem dX1_takeSteps_15 : decode cX1_takeSteps 15 = .ok (.getfield 24, 3) := by decide +kernel
theorem dX1_takeSteps_18 : decode cX1_takeSteps 18 = .ok (.iload_n 1, 1) := by decide +kernel
theorem dX1_takeSteps_19 : decode cX1_takeSteps 19 = .ok (.iconst (-1), 1) := by decide +kernel
theorem dX1_takeSteps_20 : decode cX1_takeSteps 20 = .ok (.iastore, 1) := by decide +kernel
theorem dX1_takeSteps_21 : decode cX1_takeSteps 21 = .ok (.iload_n 2, 1) := by decide +kernel
theorem dX1_takeSteps_22 : decode cX1_takeSteps 22 = .ok (.ireturn, 1) := by decide +kernel
theorem dX1_wayFrom_0 : decode cX1_wayFrom 0 = .ok (.aload_n 0, 1) := by decide +kernel
theorem dX1_wayFrom_1 : decode cX1_wayFrom 1 = .ok (.getfield 54, 3) := by decide +kernel
theorem dX1_wayFrom_4 : decode cX1_wayFrom 4 = .ok (.aload_n 0, 1) := by decide +kernel
theorem dX1_wayFrom_5 : decode cX1_wayFrom 5 = .ok (.getfield 51, 3) := by decide +kernel
theorem dX1_wayFrom_8 : decode cX1_wayFrom 8 = .ok (.iload_n 1, 1) := by decide +kernel
theorem dX1_wayFrom_9 : decode cX1_wayFrom 9 = .ok (.iaload, 1) := by decide +kernel
theorem dX1_wayFrom_10 : decode cX1_wayFrom 10 = .ok (.iload_n 2, 1) := by decide +kernel
theorem dX1_wayFrom_11 : decode cX1_wayFrom 11 = .ok (.iadd, 1) := by decide +kernel
theorem dX1_wayFrom_12 : decode cX1_wayFrom 12 = .ok (.iaload, 1) := by decide +kernel
theorem dX1_wayFrom_13 : decode cX1_wayFrom 13 = .ok (.ireturn, 1) := by decide +kernel
theorem dX1_waysTo_0 : decode cX1_waysTo 0 = .ok (.aload_n 0, 1) := by decide +kernel
theorem dX1_waysTo_1 : decode cX1_waysTo 1 = .ok (.getfield 51, 3) := by decide +kernel
theorem dX1_waysTo_4 : decode cX1_waysTo 4 = .ok (.iload_n 1, 1) := by decide +kernel
theorem dX1_waysTo_5 : decode cX1_waysTo 5 = .ok (.iconst 1, 1) := by decide +kernel
theorem dX1_waysTo_6 : decode cX1_waysTo 6 = .ok (.iadd, 1) := by decide +kernel
theorem dX1_waysTo_7 : decode cX1_waysTo 7 = .ok (.iaload, 1) := by decide +kernel
theorem dX1_waysTo_8 : decode cX1_waysTo 8 = .ok (.aload_n 0, 1) := by decide +kernel
theorem dX1_waysTo_9 : decode cX1_waysTo 9 = .ok (.getfield 51, 3) := by decide +kernel
theorem dX1_waysTo_12 : decode cX1_waysTo 12 = .ok (.iload_n 1, 1) := by decide +kernel
theorem dX1_waysTo_13 : decode cX1_waysTo 13 = .ok (.iaload, 1) := by decide +kernel
theorem dX1_waysTo_14 : decode cX1_waysTo 14 = .ok (.isub, 1) := by decide +kernel
theorem dX1_waysTo_15 : decode cX1_waysTo 15 = .ok (.ireturn, 1) := by decide +kernel
theorem dX8_findDominators_0 : decode cX8_findDominators 0 = .ok (.lconst 1, 1) := by decide +kernel
theorem dX8_findDominators_1 : decode cX8_findDominators 1 = .ok (.aload_n 1, 1) := by decide +kernel
theorem dX8_findDominators_2 : decode cX8_findDominators 2 = .ok (.getfield 27, 3) := by decide +kernel
theorem dX8_findDominators_5 : decode cX8_findDominators 5 = .ok (.lshl, 1) := by decide +kernel
theorem dX8_findDominators_6 : decode cX8_findDominators 6 = .ok (.lconst 1, 1) := by decide +kernel
theorem dX8_findDominators_7 : decode cX8_findDominators 7 = .ok (.lsub, 1) := by decide +kernel
theorem dX8_findDominators_8 : decode cX8_findDominators 8 = .ok (.lstore_n 2, 1) := by decide +kernel
theorem dX8_findDominators_9 : decode cX8_findDominators 9 = .ok (.iconst 0, 1) := by decide +kernel
theorem dX8_findDominators_10 : decode cX8_findDominators 10 = .ok (.istore 4, 2) := by decide +kernel
theorem dX8_findDominators_12 : decode cX8_findDominators 12 = .ok (.iload 4, 2) := by decide +kernel
theorem dX8_findDominators_14 : decode cX8_findDominators 14 = .ok (.aload_n 1, 1) := by decide +kernel
theorem dX8_findDominators_15 : decode cX8_findDominators 15 = .ok (.getfield 27, 3) := by decide +kernel
theorem dX8_findDominators_18 : decode cX8_findDominators 18 = .ok (.if_icmp .ge 26, 3) := by decide +kernel
theorem dX8_findDominators_21 : decode cX8_findDominators 21 = .ok (.aload_n 1, 1) := by decide +kernel
theorem dX8_findDominators_22 : decode cX8_findDominators 22 = .ok (.getfield 122, 3) := by decide +kernel
theorem dX8_findDominators_25 : decode cX8_findDominators 25 = .ok (.iload 4, 2) := by decide +kernel
theorem dX8_findDominators_27 : decode cX8_findDominators 27 = .ok (.iload 4, 2) := by decide +kernel
theorem dX8_findDominators_29 : decode cX8_findDominators 29 = .ok (.ifCond .ne 7, 3) := by decide +kernel
theorem dX8_findDominators_32 : decode cX8_findDominators 32 = .ok (.lconst 1, 1) := by decide +kernel
theorem dX8_findDominators_33 : decode cX8_findDominators 33 = .ok (.goto 4, 3) := by decide +kernel
theorem dX8_findDominators_36 : decode cX8_findDominators 36 = .ok (.lload_n 2, 1) := by decide +kernel
theorem dX8_findDominators_37 : decode cX8_findDominators 37 = .ok (.lastore, 1) := by decide +kernel
theorem dX8_findDominators_38 : decode cX8_findDominators 38 = .ok (.iinc 4 1, 3) := by decide +kernel
theorem dX8_findDominators_41 : decode cX8_findDominators 41 = .ok (.goto (-29), 3) := by decide +kernel
theorem dX8_findDominators_44 : decode cX8_findDominators 44 = .ok (.iconst 1, 1) := by decide +kernel
theorem dX8_findDominators_45 : decode cX8_findDominators 45 = .ok (.istore 4, 2) := by decide +kernel
theorem dX8_findDominators_47 : decode cX8_findDominators 47 = .ok (.iconst 0, 1) := by decide +kernel
theorem dX8_findDominators_48 : decode cX8_findDominators 48 = .ok (.istore 5, 2) := by decide +kernel
theorem dX8_findDominators_50 : decode cX8_findDominators 50 = .ok (.iload 4, 2) := by decide +kernel
theorem dX8_findDominators_52 : decode cX8_findDominators 52 = .ok (.ifCond .eq 121, 3) := by decide +kernel
theorem dX8_findDominators_55 : decode cX8_findDominators 55 = .ok (.iload 5, 2) := by decide +kernel
theorem dX8_findDominators_57 : decode cX8_findDominators 57 = .ok (.bipush 60, 2) := by decide +kernel
theorem dX8_findDominators_59 : decode cX8_findDominators 59 = .ok (.if_icmp .gt 114, 3) := by decide +kernel
theorem dX8_findDominators_62 : decode cX8_findDominators 62 = .ok (.iconst 0, 1) := by decide +kernel
theorem dX8_findDominators_63 : decode cX8_findDominators 63 = .ok (.istore 4, 2) := by decide +kernel
theorem dX8_findDominators_65 : decode cX8_findDominators 65 = .ok (.iconst 1, 1) := by decide +kernel
theorem dX8_findDominators_66 : decode cX8_findDominators 66 = .ok (.istore 6, 2) := by decide +kernel
theorem dX8_findDominators_68 : decode cX8_findDominators 68 = .ok (.iload 6, 2) := by decide +kernel
theorem dX8_findDominators_70 : decode cX8_findDominators 70 = .ok (.aload_n 1, 1) := by decide +kernel
theorem dX8_findDominators_71 : decode cX8_findDominators 71 = .ok (.getfield 27, 3) := by decide +kernel
theorem dX8_findDominators_74 : decode cX8_findDominators 74 = .ok (.if_icmp .ge 93, 3) := by decide +kernel
theorem dX8_findDominators_77 : decode cX8_findDominators 77 = .ok (.lload_n 2, 1) := by decide +kernel
theorem dX8_findDominators_78 : decode cX8_findDominators 78 = .ok (.lstore 7, 2) := by decide +kernel
theorem dX8_findDominators_80 : decode cX8_findDominators 80 = .ok (.iconst 0, 1) := by decide +kernel
theorem dX8_findDominators_81 : decode cX8_findDominators 81 = .ok (.istore 9, 2) := by decide +kernel
theorem dX8_findDominators_83 : decode cX8_findDominators 83 = .ok (.iload 9, 2) := by decide +kernel
theorem dX8_findDominators_85 : decode cX8_findDominators 85 = .ok (.aload_n 1, 1) := by decide +kernel
theorem dX8_findDominators_86 : decode cX8_findDominators 86 = .ok (.iload 6, 2) := by decide +kernel
theorem dX8_findDominators_88 : decode cX8_findDominators 88 = .ok (.invokevirtual 125, 3) := by decide +kernel
theorem dX8_findDominators_91 : decode cX8_findDominators 91 = .ok (.if_icmp .ge 27, 3) := by decide +kernel
theorem dX8_findDominators_94 : decode cX8_findDominators 94 = .ok (.lload 7, 2) := by decide +kernel
theorem dX8_findDominators_96 : decode cX8_findDominators 96 = .ok (.aload_n 1, 1) := by decide +kernel
theorem dX8_findDominators_97 : decode cX8_findDominators 97 = .ok (.getfield 122, 3) := by decide +kernel
theorem dX8_findDominators_100 : decode cX8_findDominators 100 = .ok (.aload_n 1, 1) := by decide +kernel
theorem dX8_findDominators_101 : decode cX8_findDominators 101 = .ok (.iload 6, 2) := by decide +kernel
theorem dX8_findDominators_103 : decode cX8_findDominators 103 = .ok (.iload 9, 2) := by decide +kernel
theorem dX8_findDominators_105 : decode cX8_findDominators 105 = .ok (.invokevirtual 129, 3) := by decide +kernel
theorem dX8_findDominators_108 : decode cX8_findDominators 108 = .ok (.laload, 1) := by decide +kernel
theorem dX8_findDominators_109 : decode cX8_findDominators 109 = .ok (.land, 1) := by decide +kernel
theorem dX8_findDominators_110 : decode cX8_findDominators 110 = .ok (.lstore 7, 2) := by decide +kernel
theorem dX8_findDominators_112 : decode cX8_findDominators 112 = .ok (.iinc 9 1, 3) := by decide +kernel
theorem dX8_findDominators_115 : decode cX8_findDominators 115 = .ok (.goto (-32), 3) := by decide +kernel
theorem dX8_findDominators_118 : decode cX8_findDominators 118 = .ok (.lload 7, 2) := by decide +kernel
theorem dX8_findDominators_120 : decode cX8_findDominators 120 = .ok (.lconst 1, 1) := by decide +kernel
theorem dX8_findDominators_121 : decode cX8_findDominators 121 = .ok (.iload 6, 2) := by decide +kernel
theorem dX8_findDominators_123 : decode cX8_findDominators 123 = .ok (.lshl, 1) := by decide +kernel
theorem dX8_findDominators_124 : decode cX8_findDominators 124 = .ok (.lor, 1) := by decide +kernel
theorem dX8_findDominators_125 : decode cX8_findDominators 125 = .ok (.lstore 7, 2) := by decide +kernel
theorem dX8_findDominators_127 : decode cX8_findDominators 127 = .ok (.iload 4, 2) := by decide +kernel
theorem dX8_findDominators_129 : decode cX8_findDominators 129 = .ok (.ifCond .ne 16, 3) := by decide +kernel
theorem dX8_findDominators_132 : decode cX8_findDominators 132 = .ok (.lload 7, 2) := by decide +kernel
theorem dX8_findDominators_134 : decode cX8_findDominators 134 = .ok (.aload_n 1, 1) := by decide +kernel
theorem dX8_findDominators_135 : decode cX8_findDominators 135 = .ok (.getfield 122, 3) := by decide +kernel
theorem dX8_findDominators_138 : decode cX8_findDominators 138 = .ok (.iload 6, 2) := by decide +kernel
theorem dX8_findDominators_140 : decode cX8_findDominators 140 = .ok (.laload, 1) := by decide +kernel
theorem dX8_findDominators_141 : decode cX8_findDominators 141 = .ok (.lcmp, 1) := by decide +kernel
theorem dX8_findDominators_142 : decode cX8_findDominators 142 = .ok (.ifCond .eq 7, 3) := by decide +kernel
theorem dX8_findDominators_145 : decode cX8_findDominators 145 = .ok (.iconst 1, 1) := by decide +kernel
theorem dX8_findDominators_146 : decode cX8_findDominators 146 = .ok (.goto 4, 3) := by decide +kernel
theorem dX8_findDominators_149 : decode cX8_findDominators 149 = .ok (.iconst 0, 1) := by decide +kernel
theorem dX8_findDominators_150 : decode cX8_findDominators 150 = .ok (.istore 4, 2) := by decide +kernel
theorem dX8_findDominators_152 : decode cX8_findDominators 152 = .ok (.aload_n 1, 1) := by decide +kernel
theorem dX8_findDominators_153 : decode cX8_findDominators 153 = .ok (.getfield 122, 3) := by decide +kernel
theorem dX8_findDominators_156 : decode cX8_findDominators 156 = .ok (.iload 6, 2) := by decide +kernel
theorem dX8_findDominators_158 : decode cX8_findDominators 158 = .ok (.lload 7, 2) := by decide +kernel
theorem dX8_findDominators_160 : decode cX8_findDominators 160 = .ok (.lastore, 1) := by decide +kernel
theorem dX8_findDominators_161 : decode cX8_findDominators 161 = .ok (.iinc 6 1, 3) := by decide +kernel
theorem dX8_findDominators_164 : decode cX8_findDominators 164 = .ok (.goto (-96), 3) := by decide +kernel
theorem dX8_findDominators_167 : decode cX8_findDominators 167 = .ok (.iinc 5 1, 3) := by decide +kernel
theorem dX8_findDominators_170 : decode cX8_findDominators 170 = .ok (.goto (-120), 3) := by decide +kernel
theorem dX8_findDominators_173 : decode cX8_findDominators 173 = .ok (.iconst 0, 1) := by decide +kernel
theorem dX8_findDominators_174 : decode cX8_findDominators 174 = .ok (.istore 5, 2) := by decide +kernel
theorem dX8_findDominators_176 : decode cX8_findDominators 176 = .ok (.iload 5, 2) := by decide +kernel
theorem dX8_findDominators_178 : decode cX8_findDominators 178 = .ok (.aload_n 1, 1) := by decide +kernel
theorem dX8_findDominators_179 : decode cX8_findDominators 179 = .ok (.getfield 27, 3) := by decide +kernel
theorem dX8_findDominators_182 : decode cX8_findDominators 182 = .ok (.if_icmp .ge 28, 3) := by decide +kernel
theorem dX8_findDominators_185 : decode cX8_findDominators 185 = .ok (.aload_n 1, 1) := by decide +kernel
theorem dX8_findDominators_186 : decode cX8_findDominators 186 = .ok (.getfield 133, 3) := by decide +kernel
theorem dX8_findDominators_189 : decode cX8_findDominators 189 = .ok (.iload 5, 2) := by decide +kernel
theorem dX8_findDominators_191 : decode cX8_findDominators 191 = .ok (.aload_n 1, 1) := by decide +kernel
theorem dX8_findDominators_192 : decode cX8_findDominators 192 = .ok (.getfield 122, 3) := by decide +kernel
theorem dX8_findDominators_195 : decode cX8_findDominators 195 = .ok (.iload 5, 2) := by decide +kernel
theorem dX8_findDominators_197 : decode cX8_findDominators 197 = .ok (.laload, 1) := by decide +kernel
theorem dX8_findDominators_198 : decode cX8_findDominators 198 = .ok (.iload 5, 2) := by decide +kernel
theorem dX8_findDominators_200 : decode cX8_findDominators 200 = .ok (.invokestatic 136, 3) := by decide +kernel
theorem dX8_findDominators_203 : decode cX8_findDominators 203 = .ok (.iastore, 1) := by decide +kernel
theorem dX8_findDominators_204 : decode cX8_findDominators 204 = .ok (.iinc 5 1, 3) := by decide +kernel
theorem dX8_findDominators_207 : decode cX8_findDominators 207 = .ok (.goto (-31), 3) := by decide +kernel
theorem dX8_findDominators_210 : decode cX8_findDominators 210 = .ok (.return_, 1) := by decide +kernel
theorem dX8_findLoop_0 : decode cX8_findLoop 0 = .ok (.lconst 0, 1) := by decide +kernel
theorem dX8_findLoop_1 : decode cX8_findLoop 1 = .ok (.lstore_n 2, 1) := by decide +kernel
theorem dX8_findLoop_2 : decode cX8_findLoop 2 = .ok (.iconst 0, 1) := by decide +kernel
theorem dX8_findLoop_3 : decode cX8_findLoop 3 = .ok (.istore 4, 2) := by decide +kernel
theorem dX8_findLoop_5 : decode cX8_findLoop 5 = .ok (.iload 4, 2) := by decide +kernel
theorem dX8_findLoop_7 : decode cX8_findLoop 7 = .ok (.aload_n 0, 1) := by decide +kernel
theorem dX8_findLoop_8 : decode cX8_findLoop 8 = .ok (.iload_n 1, 1) := by decide +kernel
theorem dX8_findLoop_9 : decode cX8_findLoop 9 = .ok (.invokevirtual 125, 3) := by decide +kernel
theorem dX8_findLoop_12 : decode cX8_findLoop 12 = .ok (.if_icmp .ge 39, 3) := by decide +kernel
theorem dX8_findLoop_15 : decode cX8_findLoop 15 = .ok (.aload_n 0, 1) := by decide +kernel
theorem dX8_findLoop_16 : decode cX8_findLoop 16 = .ok (.iload_n 1, 1) := by decide +kernel
theorem dX8_findLoop_17 : decode cX8_findLoop 17 = .ok (.iload 4, 2) := by decide +kernel
theorem dX8_findLoop_19 : decode cX8_findLoop 19 = .ok (.invokevirtual 129, 3) := by decide +kernel
theorem dX8_findLoop_22 : decode cX8_findLoop 22 = .ok (.istore 5, 2) := by decide +kernel
theorem dX8_findLoop_24 : decode cX8_findLoop 24 = .ok (.aload_n 0, 1) := by decide +kernel
theorem dX8_findLoop_25 : decode cX8_findLoop 25 = .ok (.getfield 122, 3) := by decide +kernel
theorem dX8_findLoop_28 : decode cX8_findLoop 28 = .ok (.iload 5, 2) := by decide +kernel
theorem dX8_findLoop_30 : decode cX8_findLoop 30 = .ok (.laload, 1) := by decide +kernel
theorem dX8_findLoop_31 : decode cX8_findLoop 31 = .ok (.iload_n 1, 1) := by decide +kernel
theorem dX8_findLoop_32 : decode cX8_findLoop 32 = .ok (.invokestatic 108, 3) := by decide +kernel
theorem dX8_findLoop_35 : decode cX8_findLoop 35 = .ok (.ifCond .eq 10, 3) := by decide +kernel
theorem dX8_findLoop_38 : decode cX8_findLoop 38 = .ok (.lload_n 2, 1) := by decide +kernel
theorem dX8_findLoop_39 : decode cX8_findLoop 39 = .ok (.lconst 1, 1) := by decide +kernel
theorem dX8_findLoop_40 : decode cX8_findLoop 40 = .ok (.iload 5, 2) := by decide +kernel
theorem dX8_findLoop_42 : decode cX8_findLoop 42 = .ok (.lshl, 1) := by decide +kernel
theorem dX8_findLoop_43 : decode cX8_findLoop 43 = .ok (.lor, 1) := by decide +kernel
theorem dX8_findLoop_44 : decode cX8_findLoop 44 = .ok (.lstore_n 2, 1) := by decide +kernel
theorem dX8_findLoop_45 : decode cX8_findLoop 45 = .ok (.iinc 4 1, 3) := by decide +kernel
theorem dX8_findLoop_48 : decode cX8_findLoop 48 = .ok (.goto (-43), 3) := by decide +kernel
theorem dX8_findLoop_51 : decode cX8_findLoop 51 = .ok (.lload_n 2, 1) := by decide +kernel
theorem dX8_findLoop_52 : decode cX8_findLoop 52 = .ok (.lconst 0, 1) := by decide +kernel
theorem dX8_findLoop_53 : decode cX8_findLoop 53 = .ok (.lcmp, 1) := by decide +kernel
theorem dX8_findLoop_54 : decode cX8_findLoop 54 = .ok (.ifCond .ne 5, 3) := by decide +kernel
theorem dX8_findLoop_57 : decode cX8_findLoop 57 = .ok (.lconst 0, 1) := by decide +kernel
theorem dX8_findLoop_58 : decode cX8_findLoop 58 = .ok (.lreturn, 1) := by decide +kernel
theorem dX8_findLoop_59 : decode cX8_findLoop 59 = .ok (.lload_n 2, 1) := by decide +kernel
theorem dX8_findLoop_60 : decode cX8_findLoop 60 = .ok (.lconst 1, 1) := by decide +kernel
theorem dX8_findLoop_61 : decode cX8_findLoop 61 = .ok (.iload_n 1, 1) := by decide +kernel
theorem dX8_findLoop_62 : decode cX8_findLoop 62 = .ok (.lshl, 1) := by decide +kernel
theorem dX8_findLoop_63 : decode cX8_findLoop 63 = .ok (.lor, 1) := by decide +kernel
theorem dX8_findLoop_64 : decode cX8_findLoop 64 = .ok (.lstore_n 2, 1) := by decide +kernel
theorem dX8_findLoop_65 : decode cX8_findLoop 65 = .ok (.iconst 1, 1) := by decide +kernel
theorem dX8_findLoop_66 : decode cX8_findLoop 66 = .ok (.istore 4, 2) := by decide +kernel
theorem dX8_findLoop_68 : decode cX8_findLoop 68 = .ok (.iconst 0, 1) := by decide +kernel
theorem dX8_findLoop_69 : decode cX8_findLoop 69 = .ok (.istore 5, 2) := by decide +kernel
theorem dX8_findLoop_71 : decode cX8_findLoop 71 = .ok (.iload 4, 2) := by decide +kernel
theorem dX8_findLoop_73 : decode cX8_findLoop 73 = .ok (.ifCond .eq 76, 3) := by decide +kernel
theorem dX8_findLoop_76 : decode cX8_findLoop 76 = .ok (.iload 5, 2) := by decide +kernel
theorem dX8_findLoop_78 : decode cX8_findLoop 78 = .ok (.bipush 60, 2) := by decide +kernel
theorem dX8_findLoop_80 : decode cX8_findLoop 80 = .ok (.if_icmp .gt 69, 3) := by decide +kernel
theorem dX8_findLoop_83 : decode cX8_findLoop 83 = .ok (.lload_n 2, 1) := by decide +kernel
theorem dX8_findLoop_84 : decode cX8_findLoop 84 = .ok (.lstore 6, 2) := by decide +kernel
theorem dX8_findLoop_86 : decode cX8_findLoop 86 = .ok (.aload_n 0, 1) := by decide +kernel
theorem dX8_findLoop_87 : decode cX8_findLoop 87 = .ok (.getfield 27, 3) := by decide +kernel
theorem dX8_findLoop_90 : decode cX8_findLoop 90 = .ok (.iconst 1, 1) := by decide +kernel
theorem dX8_findLoop_91 : decode cX8_findLoop 91 = .ok (.isub, 1) := by decide +kernel
theorem dX8_findLoop_92 : decode cX8_findLoop 92 = .ok (.istore 8, 2) := by decide +kernel
theorem dX8_findLoop_94 : decode cX8_findLoop 94 = .ok (.iload 8, 2) := by decide +kernel
theorem dX8_findLoop_96 : decode cX8_findLoop 96 = .ok (.ifCond .lt 33, 3) := by decide +kernel
theorem dX8_findLoop_99 : decode cX8_findLoop 99 = .ok (.iload 8, 2) := by decide +kernel
theorem dX8_findLoop_101 : decode cX8_findLoop 101 = .ok (.iload_n 1, 1) := by decide +kernel
theorem dX8_findLoop_102 : decode cX8_findLoop 102 = .ok (.if_icmp .eq 21, 3) := by decide +kernel
theorem dX8_findLoop_105 : decode cX8_findLoop 105 = .ok (.lload_n 2, 1) := by decide +kernel
theorem dX8_findLoop_106 : decode cX8_findLoop 106 = .ok (.iload 8, 2) := by decide +kernel
theorem dX8_findLoop_108 : decode cX8_findLoop 108 = .ok (.invokestatic 108, 3) := by decide +kernel
theorem dX8_findLoop_111 : decode cX8_findLoop 111 = .ok (.ifCond .eq 12, 3) := by decide +kernel
theorem dX8_findLoop_114 : decode cX8_findLoop 114 = .ok (.lload_n 2, 1) := by decide +kernel
theorem dX8_findLoop_115 : decode cX8_findLoop 115 = .ok (.aload_n 0, 1) := by decide +kernel
theorem dX8_findLoop_116 : decode cX8_findLoop 116 = .ok (.iload 8, 2) := by decide +kernel
theorem dX8_findLoop_118 : decode cX8_findLoop 118 = .ok (.invokestatic 140, 3) := by decide +kernel
theorem dX8_findLoop_121 : decode cX8_findLoop 121 = .ok (.lor, 1) := by decide +kernel
theorem dX8_findLoop_122 : decode cX8_findLoop 122 = .ok (.lstore_n 2, 1) := by decide +kernel
theorem dX8_findLoop_123 : decode cX8_findLoop 123 = .ok (.iinc 8 (-1), 3) := by decide +kernel
theorem dX8_findLoop_126 : decode cX8_findLoop 126 = .ok (.goto (-32), 3) := by decide +kernel
theorem dX8_findLoop_129 : decode cX8_findLoop 129 = .ok (.lload_n 2, 1) := by decide +kernel
theorem dX8_findLoop_130 : decode cX8_findLoop 130 = .ok (.lload 6, 2) := by decide +kernel
theorem dX8_findLoop_132 : decode cX8_findLoop 132 = .ok (.lcmp, 1) := by decide +kernel
theorem dX8_findLoop_133 : decode cX8_findLoop 133 = .ok (.ifCond .eq 7, 3) := by decide +kernel
theorem dX8_findLoop_136 : decode cX8_findLoop 136 = .ok (.iconst 1, 1) := by decide +kernel
theorem dX8_findLoop_137 : decode cX8_findLoop 137 = .ok (.goto 4, 3) := by decide +kernel
theorem dX8_findLoop_140 : decode cX8_findLoop 140 = .ok (.iconst 0, 1) := by decide +kernel
theorem dX8_findLoop_141 : decode cX8_findLoop 141 = .ok (.istore 4, 2) := by decide +kernel
theorem dX8_findLoop_143 : decode cX8_findLoop 143 = .ok (.iinc 5 1, 3) := by decide +kernel
theorem dX8_findLoop_146 : decode cX8_findLoop 146 = .ok (.goto (-75), 3) := by decide +kernel
theorem dX8_findLoop_149 : decode cX8_findLoop 149 = .ok (.lload_n 2, 1) := by decide +kernel
theorem dX8_findLoop_150 : decode cX8_findLoop 150 = .ok (.lreturn, 1) := by decide +kernel
theorem dX8_findWays_0 : decode cX8_findWays 0 = .ok (.iconst 0, 1) := by decide +kernel
theorem dX8_findWays_1 : decode cX8_findWays 1 = .ok (.istore_n 2, 1) := by decide +kernel
theorem dX8_findWays_2 : decode cX8_findWays 2 = .ok (.iconst 0, 1) := by decide +kernel
theorem dX8_findWays_3 : decode cX8_findWays 3 = .ok (.istore_n 3, 1) := by decide +kernel
theorem dX8_findWays_4 : decode cX8_findWays 4 = .ok (.iload_n 3, 1) := by decide +kernel
theorem dX8_findWays_5 : decode cX8_findWays 5 = .ok (.aload_n 1, 1) := by decide +kernel
theorem dX8_findWays_6 : decode cX8_findWays 6 = .ok (.getfield 27, 3) := by decide +kernel
theorem dX8_findWays_9 : decode cX8_findWays 9 = .ok (.if_icmp .ge 55, 3) := by decide +kernel
theorem dX8_findWays_12 : decode cX8_findWays 12 = .ok (.aload_n 1, 1) := by decide +kernel
theorem dX8_findWays_13 : decode cX8_findWays 13 = .ok (.getfield 112, 3) := by decide +kernel
theorem dX8_findWays_16 : decode cX8_findWays 16 = .ok (.iload_n 3, 1) := by decide +kernel
theorem dX8_findWays_17 : decode cX8_findWays 17 = .ok (.iload_n 2, 1) := by decide +kernel
theorem dX8_findWays_18 : decode cX8_findWays 18 = .ok (.iastore, 1) := by decide +kernel
theorem dX8_findWays_19 : decode cX8_findWays 19 = .ok (.iconst 0, 1) := by decide +kernel
theorem dX8_findWays_20 : decode cX8_findWays 20 = .ok (.istore 4, 2) := by decide +kernel
theorem dX8_findWays_22 : decode cX8_findWays 22 = .ok (.iload 4, 2) := by decide +kernel
theorem dX8_findWays_24 : decode cX8_findWays 24 = .ok (.aload_n 1, 1) := by decide +kernel
theorem dX8_findWays_25 : decode cX8_findWays 25 = .ok (.getfield 27, 3) := by decide +kernel
theorem dX8_findWays_28 : decode cX8_findWays 28 = .ok (.if_icmp .ge 30, 3) := by decide +kernel
theorem dX8_findWays_31 : decode cX8_findWays 31 = .ok (.aload_n 1, 1) := by decide +kernel
theorem dX8_findWays_32 : decode cX8_findWays 32 = .ok (.iload 4, 2) := by decide +kernel
theorem dX8_findWays_34 : decode cX8_findWays 34 = .ok (.iload_n 3, 1) := by decide +kernel
theorem dX8_findWays_35 : decode cX8_findWays 35 = .ok (.invokevirtual 115, 3) := by decide +kernel
theorem dX8_findWays_38 : decode cX8_findWays 38 = .ok (.ifCond .eq 14, 3) := by decide +kernel
theorem dX8_findWays_41 : decode cX8_findWays 41 = .ok (.aload_n 1, 1) := by decide +kernel
theorem dX8_findWays_42 : decode cX8_findWays 42 = .ok (.getfield 119, 3) := by decide +kernel
theorem dX8_findWays_45 : decode cX8_findWays 45 = .ok (.iload_n 2, 1) := by decide +kernel
theorem dX8_findWays_46 : decode cX8_findWays 46 = .ok (.iload 4, 2) := by decide +kernel
theorem dX8_findWays_48 : decode cX8_findWays 48 = .ok (.iastore, 1) := by decide +kernel
theorem dX8_findWays_49 : decode cX8_findWays 49 = .ok (.iinc 2 1, 3) := by decide +kernel
theorem dX8_findWays_52 : decode cX8_findWays 52 = .ok (.iinc 4 1, 3) := by decide +kernel
theorem dX8_findWays_55 : decode cX8_findWays 55 = .ok (.goto (-33), 3) := by decide +kernel
theorem dX8_findWays_58 : decode cX8_findWays 58 = .ok (.iinc 3 1, 3) := by decide +kernel
theorem dX8_findWays_61 : decode cX8_findWays 61 = .ok (.goto (-57), 3) := by decide +kernel
theorem dX8_findWays_64 : decode cX8_findWays 64 = .ok (.aload_n 1, 1) := by decide +kernel
theorem dX8_findWays_65 : decode cX8_findWays 65 = .ok (.getfield 112, 3) := by decide +kernel
theorem dX8_findWays_68 : decode cX8_findWays 68 = .ok (.aload_n 1, 1) := by decide +kernel
theorem dX8_findWays_69 : decode cX8_findWays 69 = .ok (.getfield 27, 3) := by decide +kernel
theorem dX8_findWays_72 : decode cX8_findWays 72 = .ok (.iload_n 2, 1) := by decide +kernel
theorem dX8_findWays_73 : decode cX8_findWays 73 = .ok (.iastore, 1) := by decide +kernel
theorem dX8_findWays_74 : decode cX8_findWays 74 = .ok (.return_, 1) := by decide +kernel
theorem dX8_measure_0 : decode cX8_measure 0 = .ok (.aload_n 0, 1) := by decide +kernel
theorem dX8_measure_1 : decode cX8_measure 1 = .ok (.aload_n 1, 1) := by decide +kernel
theorem dX8_measure_2 : decode cX8_measure 2 = .ok (.invokevirtual 91, 3) := by decide +kernel
theorem dX8_measure_5 : decode cX8_measure 5 = .ok (.aload_n 0, 1) := by decide +kernel
theorem dX8_measure_6 : decode cX8_measure 6 = .ok (.aload_n 1, 1) := by decide +kernel
theorem dX8_measure_7 : decode cX8_measure 7 = .ok (.invokevirtual 94, 3) := by decide +kernel
theorem dX8_measure_10 : decode cX8_measure 10 = .ok (.aload_n 1, 1) := by decide +kernel
theorem dX8_measure_11 : decode cX8_measure 11 = .ok (.getfield 97, 3) := by decide +kernel
theorem dX8_measure_14 : decode cX8_measure 14 = .ok (.iconst 0, 1) := by decide +kernel
theorem dX8_measure_15 : decode cX8_measure 15 = .ok (.invokestatic 79, 3) := by decide +kernel
theorem dX8_measure_18 : decode cX8_measure 18 = .ok (.iconst 0, 1) := by decide +kernel
theorem dX8_measure_19 : decode cX8_measure 19 = .ok (.istore_n 2, 1) := by decide +kernel
theorem dX8_measure_20 : decode cX8_measure 20 = .ok (.iload_n 2, 1) := by decide +kernel
theorem dX8_measure_21 : decode cX8_measure 21 = .ok (.aload_n 1, 1) := by decide +kernel
theorem dX8_measure_22 : decode cX8_measure 22 = .ok (.getfield 27, 3) := by decide +kernel
theorem dX8_measure_25 : decode cX8_measure 25 = .ok (.if_icmp .ge 63, 3) := by decide +kernel
theorem dX8_measure_28 : decode cX8_measure 28 = .ok (.aload_n 1, 1) := by decide +kernel
theorem dX8_measure_29 : decode cX8_measure 29 = .ok (.getfield 100, 3) := by decide +kernel
theorem dX8_measure_32 : decode cX8_measure 32 = .ok (.iload_n 2, 1) := by decide +kernel
theorem dX8_measure_33 : decode cX8_measure 33 = .ok (.aload_n 1, 1) := by decide +kernel
theorem dX8_measure_34 : decode cX8_measure 34 = .ok (.iload_n 2, 1) := by decide +kernel
theorem dX8_measure_35 : decode cX8_measure 35 = .ok (.invokestatic 104, 3) := by decide +kernel
theorem dX8_measure_38 : decode cX8_measure 38 = .ok (.lastore, 1) := by decide +kernel
theorem dX8_measure_39 : decode cX8_measure 39 = .ok (.iconst 0, 1) := by decide +kernel
theorem dX8_measure_40 : decode cX8_measure 40 = .ok (.istore_n 3, 1) := by decide +kernel
theorem dX8_measure_41 : decode cX8_measure 41 = .ok (.iload_n 3, 1) := by decide +kernel
theorem dX8_measure_42 : decode cX8_measure 42 = .ok (.aload_n 1, 1) := by decide +kernel
theorem dX8_measure_43 : decode cX8_measure 43 = .ok (.getfield 27, 3) := by decide +kernel
theorem dX8_measure_46 : decode cX8_measure 46 = .ok (.if_icmp .ge 36, 3) := by decide +kernel
theorem dX8_measure_49 : decode cX8_measure 49 = .ok (.aload_n 1, 1) := by decide +kernel
theorem dX8_measure_50 : decode cX8_measure 50 = .ok (.getfield 97, 3) := by decide +kernel
theorem dX8_measure_53 : decode cX8_measure 53 = .ok (.iload_n 3, 1) := by decide +kernel
theorem dX8_measure_54 : decode cX8_measure 54 = .ok (.dup2, 1) := by decide +kernel
theorem dX8_measure_55 : decode cX8_measure 55 = .ok (.iaload, 1) := by decide +kernel
theorem dX8_measure_56 : decode cX8_measure 56 = .ok (.aload_n 1, 1) := by decide +kernel
theorem dX8_measure_57 : decode cX8_measure 57 = .ok (.getfield 100, 3) := by decide +kernel
theorem dX8_measure_60 : decode cX8_measure 60 = .ok (.iload_n 2, 1) := by decide +kernel
theorem dX8_measure_61 : decode cX8_measure 61 = .ok (.laload, 1) := by decide +kernel
theorem dX8_measure_62 : decode cX8_measure 62 = .ok (.iload_n 3, 1) := by decide +kernel
theorem dX8_measure_63 : decode cX8_measure 63 = .ok (.invokestatic 108, 3) := by decide +kernel
theorem dX8_measure_66 : decode cX8_measure 66 = .ok (.ifCond .eq 7, 3) := by decide +kernel
theorem dX8_measure_69 : decode cX8_measure 69 = .ok (.iconst 1, 1) := by decide +kernel
theorem dX8_measure_70 : decode cX8_measure 70 = .ok (.goto 4, 3) := by decide +kernel
theorem dX8_measure_73 : decode cX8_measure 73 = .ok (.iconst 0, 1) := by decide +kernel
theorem dX8_measure_74 : decode cX8_measure 74 = .ok (.iadd, 1) := by decide +kernel
theorem dX8_measure_75 : decode cX8_measure 75 = .ok (.iastore, 1) := by decide +kernel
theorem dX8_measure_76 : decode cX8_measure 76 = .ok (.iinc 3 1, 3) := by decide +kernel
theorem dX8_measure_79 : decode cX8_measure 79 = .ok (.goto (-38), 3) := by decide +kernel
theorem dX8_measure_82 : decode cX8_measure 82 = .ok (.iinc 2 1, 3) := by decide +kernel
theorem dX8_measure_85 : decode cX8_measure 85 = .ok (.goto (-65), 3) := by decide +kernel
theorem dX8_measure_88 : decode cX8_measure 88 = .ok (.return_, 1) := by decide +kernel
theorem dX8_move_0 : decode cX8_move 0 = .ok (.iconst 0, 1) := by decide +kernel
theorem dX8_move_1 : decode cX8_move 1 = .ok (.istore 4, 2) := by decide +kernel
theorem dX8_move_3 : decode cX8_move 3 = .ok (.iload 4, 2) := by decide +kernel
theorem dX8_move_5 : decode cX8_move 5 = .ok (.iload_n 2, 1) := by decide +kernel
theorem dX8_move_6 : decode cX8_move 6 = .ok (.if_icmp .ge 35, 3) := by decide +kernel
theorem dX8_move_9 : decode cX8_move 9 = .ok (.aload_n 0, 1) := by decide +kernel
theorem dX8_move_10 : decode cX8_move 10 = .ok (.getfield 9, 3) := by decide +kernel
theorem dX8_move_13 : decode cX8_move 13 = .ok (.iload 4, 2) := by decide +kernel
theorem dX8_move_15 : decode cX8_move 15 = .ok (.iaload, 1) := by decide +kernel
theorem dX8_move_16 : decode cX8_move 16 = .ok (.ifCond .lt 19, 3) := by decide +kernel
theorem dX8_move_19 : decode cX8_move 19 = .ok (.aload_n 0, 1) := by decide +kernel
theorem dX8_move_20 : decode cX8_move 20 = .ok (.getfield 24, 3) := by decide +kernel
theorem dX8_move_23 : decode cX8_move 23 = .ok (.aload_n 0, 1) := by decide +kernel
theorem dX8_move_24 : decode cX8_move 24 = .ok (.getfield 9, 3) := by decide +kernel
theorem dX8_move_27 : decode cX8_move 27 = .ok (.iload 4, 2) := by decide +kernel
theorem dX8_move_29 : decode cX8_move 29 = .ok (.iaload, 1) := by decide +kernel
theorem dX8_move_30 : decode cX8_move 30 = .ok (.aload_n 1, 1) := by decide +kernel
theorem dX8_move_31 : decode cX8_move 31 = .ok (.iload 4, 2) := by decide +kernel
theorem dX8_move_33 : decode cX8_move 33 = .ok (.iaload, 1) := by decide +kernel
theorem dX8_move_34 : decode cX8_move 34 = .ok (.iastore, 1) := by decide +kernel
theorem dX8_move_35 : decode cX8_move 35 = .ok (.iinc 4 1, 3) := by decide +kernel
theorem dX8_move_38 : decode cX8_move 38 = .ok (.goto (-35), 3) := by decide +kernel
theorem dX8_move_41 : decode cX8_move 41 = .ok (.aload_n 0, 1) := by decide +kernel
theorem dX8_move_42 : decode cX8_move 42 = .ok (.getfield 24, 3) := by decide +kernel
theorem dX8_move_45 : decode cX8_move 45 = .ok (.iconst 0, 1) := by decide +kernel
theorem dX8_move_46 : decode cX8_move 46 = .ok (.aload_n 1, 1) := by decide +kernel
theorem dX8_move_47 : decode cX8_move 47 = .ok (.iconst 0, 1) := by decide +kernel
theorem dX8_move_48 : decode cX8_move 48 = .ok (.iload_n 3, 1) := by decide +kernel
theorem dX8_move_49 : decode cX8_move 49 = .ok (.invokestatic 73, 3) := by decide +kernel
theorem dX8_move_52 : decode cX8_move 52 = .ok (.return_, 1) := by decide +kernel
theorem dX8_nearest_0 : decode cX8_nearest 0 = .ok (.iload_n 2, 1) := by decide +kernel
theorem dX8_nearest_1 : decode cX8_nearest 1 = .ok (.iconst 1, 1) := by decide +kernel
theorem dX8_nearest_2 : decode cX8_nearest 2 = .ok (.isub, 1) := by decide +kernel
theorem dX8_nearest_3 : decode cX8_nearest 3 = .ok (.istore_n 3, 1) := by decide +kernel
theorem dX8_nearest_4 : decode cX8_nearest 4 = .ok (.iload_n 3, 1) := by decide +kernel
theorem dX8_nearest_5 : decode cX8_nearest 5 = .ok (.ifCond .lt 19, 3) := by decide +kernel
theorem dX8_nearest_8 : decode cX8_nearest 8 = .ok (.lload_n 0, 1) := by decide +kernel
theorem dX8_nearest_9 : decode cX8_nearest 9 = .ok (.iload_n 3, 1) := by decide +kernel
theorem dX8_nearest_10 : decode cX8_nearest 10 = .ok (.invokestatic 108, 3) := by decide +kernel
theorem dX8_nearest_13 : decode cX8_nearest 13 = .ok (.ifCond .eq 5, 3) := by decide +kernel
theorem dX8_nearest_16 : decode cX8_nearest 16 = .ok (.iload_n 3, 1) := by decide +kernel
theorem dX8_nearest_17 : decode cX8_nearest 17 = .ok (.ireturn, 1) := by decide +kernel
theorem dX8_nearest_18 : decode cX8_nearest 18 = .ok (.iinc 3 (-1), 3) := by decide +kernel
theorem dX8_nearest_21 : decode cX8_nearest 21 = .ok (.goto (-17), 3) := by decide +kernel
theorem dX8_nearest_24 : decode cX8_nearest 24 = .ok (.iconst (-1), 1) := by decide +kernel
theorem dX8_nearest_25 : decode cX8_nearest 25 = .ok (.ireturn, 1) := by decide +kernel
theorem dX8_waysInto_0 : decode cX8_waysInto 0 = .ok (.lconst 0, 1) := by decide +kernel
theorem dX8_waysInto_1 : decode cX8_waysInto 1 = .ok (.lstore_n 2, 1) := by decide +kernel
theorem dX8_waysInto_2 : decode cX8_waysInto 2 = .ok (.iconst 0, 1) := by decide +kernel
theorem dX8_waysInto_3 : decode cX8_waysInto 3 = .ok (.istore 4, 2) := by decide +kernel
theorem dX8_waysInto_5 : decode cX8_waysInto 5 = .ok (.iload 4, 2) := by decide +kernel
theorem dX8_waysInto_7 : decode cX8_waysInto 7 = .ok (.aload_n 0, 1) := by decide +kernel
theorem dX8_waysInto_8 : decode cX8_waysInto 8 = .ok (.iload_n 1, 1) := by decide +kernel
theorem dX8_waysInto_9 : decode cX8_waysInto 9 = .ok (.invokevirtual 125, 3) := by decide +kernel
theorem dX8_waysInto_12 : decode cX8_waysInto 12 = .ok (.if_icmp .ge 21, 3) := by decide +kernel
theorem dX8_waysInto_15 : decode cX8_waysInto 15 = .ok (.lload_n 2, 1) := by decide +kernel
theorem dX8_waysInto_16 : decode cX8_waysInto 16 = .ok (.lconst 1, 1) := by decide +kernel
theorem dX8_waysInto_17 : decode cX8_waysInto 17 = .ok (.aload_n 0, 1) := by decide +kernel
theorem dX8_waysInto_18 : decode cX8_waysInto 18 = .ok (.iload_n 1, 1) := by decide +kernel
theorem dX8_waysInto_19 : decode cX8_waysInto 19 = .ok (.iload 4, 2) := by decide +kernel
theorem dX8_waysInto_21 : decode cX8_waysInto 21 = .ok (.invokevirtual 129, 3) := by decide +kernel
theorem dX8_waysInto_24 : decode cX8_waysInto 24 = .ok (.lshl, 1) := by decide +kernel
theorem dX8_waysInto_25 : decode cX8_waysInto 25 = .ok (.lor, 1) := by decide +kernel
theorem dX8_waysInto_26 : decode cX8_waysInto 26 = .ok (.lstore_n 2, 1) := by decide +kernel
theorem dX8_waysInto_27 : decode cX8_waysInto 27 = .ok (.iinc 4 1, 3) := by decide +kernel
theorem dX8_waysInto_30 : decode cX8_waysInto 30 = .ok (.goto (-25), 3) := by decide +kernel
theorem dX8_waysInto_33 : decode cX8_waysInto 33 = .ok (.lload_n 2, 1) := by decide +kernel
theorem dX8_waysInto_34 : decode cX8_waysInto 34 = .ok (.lreturn, 1) := by decide +kernel
theorem qw173 : Cond.code yX1_takePhis cX1_takePhis 3 (Option.some Jvm.ClassFile.FieldType.int) ∈ gw := mq_7 (i := 191) rfl rfl
theorem qw174 : Cond.methodLink RX1 140 yX1_takePhis ∈ gw := mq_8 (i := 34) rfl rfl
theorem qw175 : Cond.instanceMethod yX1_takePhis ∈ gw := mq_7 (i := 189) rfl rfl
theorem qw176 : Cond.selects RX1 yX1_takePhis yX1_takePhis ∈ gw := mq_7 (i := 190) rfl rfl
theorem qw177 : Cond.code yX1_takeSteps cX1_takeSteps 3 (Option.some Jvm.ClassFile.FieldType.int) ∈ gw := mq_7 (i := 187) rfl rfl
theorem qw178 : Cond.methodLink RX1 143 yX1_takeSteps ∈ gw := mq_8 (i := 35) rfl rfl
theorem qw179 : Cond.instanceMethod yX1_takeSteps ∈ gw := mq_7 (i := 185) rfl rfl
theorem qw180 : Cond.selects RX1 yX1_takeSteps yX1_takeSteps ∈ gw := mq_7 (i := 186) rfl rfl
theorem qw181 : Cond.fieldLink RX8 27 "Gearbox$Flow" "blocks" "I" ∈ gw := mq_1 (i := 209) rfl rfl
theorem qw182 : Cond.fieldLink RX8 122 "Gearbox$Flow" "dominators" "[J" ∈ gw := mq_2 (i := 49) rfl rfl
theorem qw183 : Cond.code yX1_waysTo cX1_waysTo 2 (Option.some Jvm.ClassFile.FieldType.int) ∈ gw := mq_6 (i := 42) rfl rfl
theorem qw184 : Cond.methodLink RX8 125 yX1_waysTo ∈ gw := mq_6 (i := 39) rfl rfl
theorem qw185 : Cond.instanceMethod yX1_waysTo ∈ gw := mq_6 (i := 40) rfl rfl
theorem qw186 : Cond.selects RX1 yX1_waysTo yX1_waysTo ∈ gw := mq_6 (i := 41) rfl rfl
theorem qw187 : Cond.code yX1_wayFrom cX1_wayFrom 3 (Option.some Jvm.ClassFile.FieldType.int) ∈ gw := mq_6 (i := 46) rfl rfl
theorem qw188 : Cond.methodLink RX8 129 yX1_wayFrom ∈ gw := mq_6 (i := 43) rfl rfl
theorem qw189 : Cond.instanceMethod yX1_wayFrom ∈ gw := mq_6 (i := 44) rfl rfl
theorem qw190 : Cond.selects RX1 yX1_wayFrom yX1_wayFrom ∈ gw := mq_6 (i := 45) rfl rfl
theorem qw191 : Cond.fieldLink RX8 133 "Gearbox$Flow" "dominator" "[I" ∈ gw := mq_2 (i := 36) rfl rfl
theorem qw192 : Cond.code yX11_holds cX11_holds 3 (Option.some Jvm.ClassFile.FieldType.boolean) ∈ gw := mq_6 (i := 52) rfl rfl
theorem qw193 : Cond.static yX11_holds ∈ gw := mq_6 (i := 51) rfl rfl
theorem qw194 : Cond.code yX8_nearest cX8_nearest 4 (Option.some Jvm.ClassFile.FieldType.int) ∈ gw := mq_6 (i := 49) rfl rfl
theorem qw195 : Cond.methodLink RX8 136 yX8_nearest ∈ gw := mq_6 (i := 47) rfl rfl
theorem qw196 : Cond.static yX8_nearest ∈ gw := mq_6 (i := 48) rfl rfl
theorem qw197 : Cond.initialized RX8 ∈ gw := mq_1 (i := 21) rfl rfl
theorem qw198 : Cond.code yX8_waysInto cX8_waysInto 5 (Option.some Jvm.ClassFile.FieldType.long) ∈ gw := mq_6 (i := 58) rfl rfl
theorem qw199 : Cond.methodLink RX8 140 yX8_waysInto ∈ gw := mq_6 (i := 56) rfl rfl
theorem qw200 : Cond.static yX8_waysInto ∈ gw := mq_6 (i := 57) rfl rfl
theorem qw201 : Cond.fieldLink RX8 112 "Gearbox$Flow" "waysBegin" "[I" ∈ gw := mq_2 (i := 45) rfl rfl
theorem qw202 : Cond.code yX1_leads cX1_leads 3 (Option.some Jvm.ClassFile.FieldType.boolean) ∈ gw := mq_6 (i := 34) rfl rfl
theorem qw203 : Cond.methodLink RX8 115 yX1_leads ∈ gw := mq_6 (i := 31) rfl rfl
theorem qw204 : Cond.instanceMethod yX1_leads ∈ gw := mq_6 (i := 32) rfl rfl
theorem qw205 : Cond.selects RX1 yX1_leads yX1_leads ∈ gw := mq_6 (i := 33) rfl rfl
theorem qw206 : Cond.fieldLink RX8 119 "Gearbox$Flow" "ways" "[I" ∈ gw := mq_2 (i := 47) rfl rfl
theorem qw207 : Cond.code yX8_findWays cX8_findWays 5 (Option.none : Option Jvm.ClassFile.FieldType) ∈ gw := mq_6 (i := 30) rfl rfl
theorem qw208 : Cond.methodLink RX8 91 yX8_findWays ∈ gw := mq_6 (i := 27) rfl rfl
theorem qw209 : Cond.instanceMethod yX8_findWays ∈ gw := mq_6 (i := 29) rfl rfl
theorem qw210 : Cond.selects RX8 yX8_findWays yX8_findWays ∈ gw := mk_s (i := 3) rfl rfl
theorem qw211 : Cond.code yX8_findDominators cX8_findDominators 10 (Option.none : Option Jvm.ClassFile.FieldType) ∈ gw := mq_6 (i := 38) rfl rfl
theorem qw212 : Cond.methodLink RX8 94 yX8_findDominators ∈ gw := mq_6 (i := 35) rfl rfl
theorem qw213 : Cond.instanceMethod yX8_findDominators ∈ gw := mq_6 (i := 37) rfl rfl
theorem qw214 : Cond.selects RX8 yX8_findDominators yX8_findDominators ∈ gw := mk_s (i := 4) rfl rfl
theorem qw215 : Cond.fieldLink RX8 97 "Gearbox$Flow" "depth" "[I" ∈ gw := mq_2 (i := 41) rfl rfl
theorem qw216 : Cond.code yJ7_fill_53178 cJ7_fill_53178 4 (Option.none : Option Jvm.ClassFile.FieldType) ∈ gw := mq_5 (i := 226) rfl rfl
theorem qw217 : Cond.methodLink RX8 79 yJ7_fill_53178 ∈ gw := mq_6 (i := 11) rfl rfl
theorem qw218 : Cond.static yJ7_fill_53178 ∈ gw := mq_5 (i := 225) rfl rfl
theorem qw219 : Cond.fieldLink RX8 100 "Gearbox$Flow" "loop" "[J" ∈ gw := mq_2 (i := 53) rfl rfl
theorem qw220 : Cond.code yX8_findLoop cX8_findLoop 9 (Option.some Jvm.ClassFile.FieldType.long) ∈ gw := mq_6 (i := 55) rfl rfl
theorem qw221 : Cond.methodLink RX8 104 yX8_findLoop ∈ gw := mq_6 (i := 53) rfl rfl
theorem qw222 : Cond.static yX8_findLoop ∈ gw := mq_6 (i := 54) rfl rfl
theorem qw223 : Cond.fieldLink RX8 9 "Gearbox$Shape" "renamed" "[I" ∈ gw := mq_2 (i := 121) rfl rfl
theorem qw224 : Cond.fieldLink RX8 24 "Gearbox$Shape" "row" "[I" ∈ gw := mq_2 (i := 125) rfl rfl
theorem qw225 : Cond.methodLink RX8 73 ⟨"java/lang/System", "arraycopy", "(Ljava/lang/Object;ILjava/lang/Object;II)V"⟩ ∈ gw := mq_6 (i := 16) rfl rfl
def fX1_takePhis (p0w : ST) (p1 : Int32) : Option (Int32 × ST) := (if ixb p1 60 = true then (if ixb p1 60 = true then (lt9 (upw p0w 6 (nn p1) (-1)) fun (w3 : ST) => (if ixb p1 60 = true then (lt9 (upw w3 7 (nn p1) (-1)) fun (w5 : ST) => some ((p0w 6 (nn p1)), w5)) else none)) else none) else none)
set_option maxHeartbeats 16000000 in
set_option maxRecDepth 100000 in
theorem kX1_takePhis {zs : ZS} (l : Launch) (dC : Nat → ClassId) (dI : Nat → Nat → Nat) (p0a : Nat → Nat) (p0k : Nat → ClassId) (p0n : Nat → Nat) (p0w : ST) (p0l : SL) (p1 : Int32) (sz : Nat) (o : Int32 × ST) (hrun : fX1_takePhis p0w p1 = some o) : Met l yX1_takePhis (wz yX1_takePhis cX1_takePhis 3 (Option.some Jvm.ClassFile.FieldType.int)) ({ frames := 0, cells := 0, slots := 0, locals := 0 } : Room) (va_Pc [.ref (p0a 0), .int p1] (PRE zs dC dI (List.flatten ([(oX1 (p0a 0) p0a p0k p0n p0w p0l)] : List va_W)) (List.flatten ([(tX1 p0k)] : List (List (ClassId × FieldType)))) sz)) (va_Qi (fun (r : Int32) (_ : Unit) => r = (o.1)) (fun _ t => POST dC dI (List.flatten ([(oX1 (p0a 0) p0a p0k p0n (o.2) p0l)] : List va_W)) (List.flatten ([(tX1 p0k)] : List (List (ClassId × FieldType)))) (va_A (List.flatten ([(oX1 (p0a 0) p0a p0k p0n p0w p0l)] : List va_W)) sz) t) (va_A (List.flatten ([(oX1 (p0a 0) p0a p0k p0n p0w p0l)] : List va_W)) sz)) 0 0 (va_A (List.flatten ([(oX1 (p0a 0) p0a p0k p0n p0w p0l)] : List va_W)) sz) := by
  refine Met.ofW (cc := cX1_takePhis) (maxL := 3) (ret := (Option.some Jvm.ClassFile.FieldType.int)) (by decide) rfl ?_
  intro p e s m args below meth c s₁ B hml hv
  obtain ⟨rfl, hsz, hP, hK, hD0, hE⟩ := hv
  have hx := B.exec
  have hb := B.bytes
  have hr := B.returns
  have hts0 := atoms_spec (ws := wz yX1_takePhis cX1_takePhis 3 (Option.some Jvm.ClassFile.FieldType.int)) B.pre
  have hts : ∀ w ∈ gw, w.before _ s = true := fun w h => hts0 w (List.mem_cons_of_mem _ h)
  have hown : s.vm.findClass RX1 = some m.cls := findClass_of_methodNamed B.named
  have hlocks := B.notSynchronized
  subst hsz
  have hD := hD0.self (sz := s.heap.size)
  refine gQ9 ?_
  intro Q hQ
  generalize hAe : va_A (List.flatten ([(oX1 (p0a 0) p0a p0k p0n p0w p0l)] : List va_W)) s.heap.size = A at hD hE hQ
  have hA : ∀ q : Nat, s.heap.size ≤ q → A q := fun q h => by rw [← hAe]; exact Or.inr h
  have hS : va_S A s.heap s.heap [] := va_S.rf
  have hP : va_P (dC, dI) cls (List.flatten ([(oX1 (p0a 0) p0a p0k p0n p0w p0l)] : List va_W)) s.heap := hP
  have hl := lv_entry ([.ref (p0a 0), .int p1]) (n := 3) (Nat.le_of_ble_eq_true rfl)
  rw [lg_entry_eq]
  generalize (lg_sl ([.ref (p0a 0), .int p1]) ++ List.replicate (3 - (lg_sl ([.ref (p0a 0), .int p1])).length) Slot.unset).toArray = ls at hl ⊢
  have hl : lv_has ls 3 [(0, .ref (p0a 0)), (1, .int p1)] := hl
  obtain ⟨H, hHe⟩ : ∃ H, H = s.heap := ⟨_, rfl⟩
  obtain ⟨locs, hle⟩ : ∃ locs : List Loc, locs = [] := ⟨_, rfl⟩
  rw [← hHe] at hP
  have hS : va_S A s.heap H locs := by rw [hHe, hle]; exact hS
  show W p l e ({ frames := 0, cells := 0, slots := 0, locals := 0 } : Room) s m ([.ref (p0a 0), .int p1] : List Value).toArray below meth c s.heap [] 0 0 Q (F0 m 0 ls [])
  rw [← hle]
  refine wH9 hHe ?_
  unfold fX1_takePhis at hrun
  refine lv_aload_n hx hb dX1_takePhis_0 rfl (lv_at hl 0 rfl) ?_
  refine va_get (D := (dC, dI)) (ci := 4) (v := .ref (p0a 6)) (C := RX1) (T := TX1) (N := 21) hx hb hts i_X1 hown hK hP 0 rfl rfl 5 (by decide) (hts _ qw113) (fun _ h9 => h9) rfl dX1_takePhis_1 ?_
  refine lv_iload_n hx hb dX1_takePhis_4 rfl (lv_at hl 1 rfl) ?_
  obtain ⟨hq1, hrun⟩ := chk9 hrun
  refine va_iald hx hb hK hP 3 2 rfl rfl (ixb_in hq1) dX1_takePhis_5 ?_
  refine lv_istore_n (lv' := [(2, .int (p0w 6 (nn p1))), (0, .ref (p0a 0)), (1, .int p1)]) hx hb dX1_takePhis_6 rfl hl (by decide) rfl (fun ls hl => ?_)
  refine lv_aload_n hx hb dX1_takePhis_7 rfl (lv_at hl 1 rfl) ?_
  refine va_get (D := (dC, dI)) (ci := 4) (v := .ref (p0a 6)) (C := RX1) (T := TX1) (N := 21) hx hb hts i_X1 hown hK hP 0 rfl rfl 5 (by decide) (hts _ qw113) (fun _ h9 => h9) rfl dX1_takePhis_8 ?_
  refine lv_iload_n hx hb dX1_takePhis_11 rfl (lv_at hl 2 rfl) ?_
  refine lv_iconst (v := (-1)) hx hb dX1_takePhis_12 (by decide) ?_
  obtain ⟨hq2, hrun⟩ := chk9 hrun
  refine va_iast hx hb hK hP hD hS 3 2 rfl rfl (ixb_in hq2) dX1_takePhis_13 (fun H locs hP hD hS => ?_)
  have hP : va_P (dC, dI) cls (List.flatten ([(oX1 (p0a 0) p0a p0k p0n (upw p0w 6 (nn p1) (-1)) p0l)] : List va_W)) H := hP
  have hD : va_D A (List.flatten ([(oX1 (p0a 0) p0a p0k p0n (upw p0w 6 (nn p1) (-1)) p0l)] : List va_W)) := hD
  obtain ⟨w3, ew3, hrun⟩ := let9 hrun
  rw [← ew3] at hP hD
  refine lv_aload_n hx hb dX1_takePhis_14 rfl (lv_at hl 1 rfl) ?_
  refine va_get (D := (dC, dI)) (ci := 4) (v := .ref (p0a 7)) (C := RX1) (T := TX1) (N := 21) hx hb hts i_X1 hown hK hP 0 rfl rfl 6 (by decide) (hts _ qw114) (fun _ h9 => h9) rfl dX1_takePhis_15 ?_
  refine lv_iload_n hx hb dX1_takePhis_18 rfl (lv_at hl 2 rfl) ?_
  refine lv_iconst (v := (-1)) hx hb dX1_takePhis_19 (by decide) ?_
  obtain ⟨hq4, hrun⟩ := chk9 hrun
  refine va_iast hx hb hK hP hD hS 4 3 rfl rfl (ixb_in hq4) dX1_takePhis_20 (fun H locs hP hD hS => ?_)
  have hP : va_P (dC, dI) cls (List.flatten ([(oX1 (p0a 0) p0a p0k p0n (upw w3 7 (nn p1) (-1)) p0l)] : List va_W)) H := hP
  have hD : va_D A (List.flatten ([(oX1 (p0a 0) p0a p0k p0n (upw w3 7 (nn p1) (-1)) p0l)] : List va_W)) := hD
  obtain ⟨w5, ew5, hrun⟩ := let9 hrun
  rw [← ew5] at hP hD
  refine lv_iload_n hx hb dX1_takePhis_21 rfl (lv_at hl 0 rfl) ?_
  have ho9 : ((p0w 6 (nn p1)), w5) = o := Option.some.inj hrun
  have hP9 : va_P (dC, dI) cls (List.flatten ([(oX1 (p0a 0) p0a p0k p0n (o.2) p0l)] : List va_W)) H := by first | exact hP | (rw [← ho9]; exact hP)
  have hD9 : va_D A (List.flatten ([(oX1 (p0a 0) p0a p0k p0n (o.2) p0l)] : List va_W)) := by first | exact hD | (rw [← ho9]; exact hD)
  subst hQ
  exact W.iret (v := (p0w 6 (nn p1))) hx hb hr (fun t ht hW => ⟨⟨(p0w 6 (nn p1)), (), rfl, (by rw [← ho9]), ⟨by rw [ht]; exact hP9, va_K.moved hW.alike hK, hD9⟩⟩, hS.F ht⟩) hS.2.2 dX1_takePhis_22
def fX1_takeSteps (p0w : ST) (p1 : Int32) : Option (Int32 × ST) := (if ixb p1 60 = true then (if ixb p1 60 = true then (lt9 (upw p0w 4 (nn p1) (-1)) fun (w3 : ST) => (if ixb p1 60 = true then (lt9 (upw w3 5 (nn p1) (-1)) fun (w5 : ST) => some ((p0w 4 (nn p1)), w5)) else none)) else none) else none)
set_option maxHeartbeats 16000000 in
set_option maxRecDepth 100000 in
theorem kX1_takeSteps {zs : ZS} (l : Launch) (dC : Nat → ClassId) (dI : Nat → Nat → Nat) (p0a : Nat → Nat) (p0k : Nat → ClassId) (p0n : Nat → Nat) (p0w : ST) (p0l : SL) (p1 : Int32) (sz : Nat) (o : Int32 × ST) (hrun : fX1_takeSteps p0w p1 = some o) : Met l yX1_takeSteps (wz yX1_takeSteps cX1_takeSteps 3 (Option.some Jvm.ClassFile.FieldType.int)) ({ frames := 0, cells := 0, slots := 0, locals := 0 } : Room) (va_Pc [.ref (p0a 0), .int p1] (PRE zs dC dI (List.flatten ([(oX1 (p0a 0) p0a p0k p0n p0w p0l)] : List va_W)) (List.flatten ([(tX1 p0k)] : List (List (ClassId × FieldType)))) sz)) (va_Qi (fun (r : Int32) (_ : Unit) => r = (o.1)) (fun _ t => POST dC dI (List.flatten ([(oX1 (p0a 0) p0a p0k p0n (o.2) p0l)] : List va_W)) (List.flatten ([(tX1 p0k)] : List (List (ClassId × FieldType)))) (va_A (List.flatten ([(oX1 (p0a 0) p0a p0k p0n p0w p0l)] : List va_W)) sz) t) (va_A (List.flatten ([(oX1 (p0a 0) p0a p0k p0n p0w p0l)] : List va_W)) sz)) 0 0 (va_A (List.flatten ([(oX1 (p0a 0) p0a p0k p0n p0w p0l)] : List va_W)) sz) := by
  refine Met.ofW (cc := cX1_takeSteps) (maxL := 3) (ret := (Option.some Jvm.ClassFile.FieldType.int)) (by decide) rfl ?_
  intro p e s m args below meth c s₁ B hml hv
  obtain ⟨rfl, hsz, hP, hK, hD0, hE⟩ := hv
  have hx := B.exec
  have hb := B.bytes
  have hr := B.returns
  have hts0 := atoms_spec (ws := wz yX1_takeSteps cX1_takeSteps 3 (Option.some Jvm.ClassFile.FieldType.int)) B.pre
  have hts : ∀ w ∈ gw, w.before _ s = true := fun w h => hts0 w (List.mem_cons_of_mem _ h)
  have hown : s.vm.findClass RX1 = some m.cls := findClass_of_methodNamed B.named
  have hlocks := B.notSynchronized
  subst hsz
  have hD := hD0.self (sz := s.heap.size)
  refine gQ9 ?_
  intro Q hQ
  generalize hAe : va_A (List.flatten ([(oX1 (p0a 0) p0a p0k p0n p0w p0l)] : List va_W)) s.heap.size = A at hD hE hQ
  have hA : ∀ q : Nat, s.heap.size ≤ q → A q := fun q h => by rw [← hAe]; exact Or.inr h
  have hS : va_S A s.heap s.heap [] := va_S.rf
  have hP : va_P (dC, dI) cls (List.flatten ([(oX1 (p0a 0) p0a p0k p0n p0w p0l)] : List va_W)) s.heap := hP
  have hl := lv_entry ([.ref (p0a 0), .int p1]) (n := 3) (Nat.le_of_ble_eq_true rfl)
  rw [lg_entry_eq]
  generalize (lg_sl ([.ref (p0a 0), .int p1]) ++ List.replicate (3 - (lg_sl ([.ref (p0a 0), .int p1])).length) Slot.unset).toArray = ls at hl ⊢
  have hl : lv_has ls 3 [(0, .ref (p0a 0)), (1, .int p1)] := hl
  obtain ⟨H, hHe⟩ : ∃ H, H = s.heap := ⟨_, rfl⟩
  obtain ⟨locs, hle⟩ : ∃ locs : List Loc, locs = [] := ⟨_, rfl⟩
  rw [← hHe] at hP
  have hS : va_S A s.heap H locs := by rw [hHe, hle]; exact hS
  show W p l e ({ frames := 0, cells := 0, slots := 0, locals := 0 } : Room) s m ([.ref (p0a 0), .int p1] : List Value).toArray below meth c s.heap [] 0 0 Q (F0 m 0 ls [])
  rw [← hle]
  refine wH9 hHe ?_
  unfold fX1_takeSteps at hrun
  refine lv_aload_n hx hb dX1_takeSteps_0 rfl (lv_at hl 0 rfl) ?_
  refine va_get (D := (dC, dI)) (ci := 4) (v := .ref (p0a 4)) (C := RX1) (T := TX1) (N := 21) hx hb hts i_X1 hown hK hP 0 rfl rfl 3 (by decide) (hts _ qw111) (fun _ h9 => h9) rfl dX1_takeSteps_1 ?_
  refine lv_iload_n hx hb dX1_takeSteps_4 rfl (lv_at hl 1 rfl) ?_
  obtain ⟨hq1, hrun⟩ := chk9 hrun
  refine va_iald hx hb hK hP 1 0 rfl rfl (ixb_in hq1) dX1_takeSteps_5 ?_
  refine lv_istore_n (lv' := [(2, .int (p0w 4 (nn p1))), (0, .ref (p0a 0)), (1, .int p1)]) hx hb dX1_takeSteps_6 rfl hl (by decide) rfl (fun ls hl => ?_)
  refine lv_aload_n hx hb dX1_takeSteps_7 rfl (lv_at hl 1 rfl) ?_
  refine va_get (D := (dC, dI)) (ci := 4) (v := .ref (p0a 4)) (C := RX1) (T := TX1) (N := 21) hx hb hts i_X1 hown hK hP 0 rfl rfl 3 (by decide) (hts _ qw111) (fun _ h9 => h9) rfl dX1_takeSteps_8 ?_
  refine lv_iload_n hx hb dX1_takeSteps_11 rfl (lv_at hl 2 rfl) ?_
  refine lv_iconst (v := (-1)) hx hb dX1_takeSteps_12 (by decide) ?_
  obtain ⟨hq2, hrun⟩ := chk9 hrun
  refine va_iast hx hb hK hP hD hS 1 0 rfl rfl (ixb_in hq2) dX1_takeSteps_13 (fun H locs hP hD hS => ?_)
  have hP : va_P (dC, dI) cls (List.flatten ([(oX1 (p0a 0) p0a p0k p0n (upw p0w 4 (nn p1) (-1)) p0l)] : List va_W)) H := hP
  have hD : va_D A (List.flatten ([(oX1 (p0a 0) p0a p0k p0n (upw p0w 4 (nn p1) (-1)) p0l)] : List va_W)) := hD
  obtain ⟨w3, ew3, hrun⟩ := let9 hrun
  rw [← ew3] at hP hD
  refine lv_aload_n hx hb dX1_takeSteps_14 rfl (lv_at hl 1 rfl) ?_
  refine va_get (D := (dC, dI)) (ci := 4) (v := .ref (p0a 5)) (C := RX1) (T := TX1) (N := 21) hx hb hts i_X1 hown hK hP 0 rfl rfl 4 (by decide) (hts _ qw112) (fun _ h9 => h9) rfl dX1_takeSteps_15 ?_
  refine lv_iload_n hx hb dX1_takeSteps_18 rfl (lv_at hl 2 rfl) ?_
  refine lv_iconst (v := (-1)) hx hb dX1_takeSteps_19 (by decide) ?_
  obtain ⟨hq4, hrun⟩ := chk9 hrun
  refine va_iast hx hb hK hP hD hS 2 1 rfl rfl (ixb_in hq4) dX1_takeSteps_20 (fun H locs hP hD hS => ?_)
  have hP : va_P (dC, dI) cls (List.flatten ([(oX1 (p0a 0) p0a p0k p0n (upw w3 5 (nn p1) (-1)) p0l)] : List va_W)) H := hP
  have hD : va_D A (List.flatten ([(oX1 (p0a 0) p0a p0k p0n (upw w3 5 (nn p1) (-1)) p0l)] : List va_W)) := hD
  obtain ⟨w5, ew5, hrun⟩ := let9 hrun
  rw [← ew5] at hP hD
  refine lv_iload_n hx hb dX1_takeSteps_21 rfl (lv_at hl 0 rfl) ?_
  have ho9 : ((p0w 4 (nn p1)), w5) = o := Option.some.inj hrun
  have hP9 : va_P (dC, dI) cls (List.flatten ([(oX1 (p0a 0) p0a p0k p0n (o.2) p0l)] : List va_W)) H := by first | exact hP | (rw [← ho9]; exact hP)
  have hD9 : va_D A (List.flatten ([(oX1 (p0a 0) p0a p0k p0n (o.2) p0l)] : List va_W)) := by first | exact hD | (rw [← ho9]; exact hD)
  subst hQ
  exact W.iret (v := (p0w 4 (nn p1))) hx hb hr (fun t ht hW => ⟨⟨(p0w 4 (nn p1)), (), rfl, (by rw [← ho9]), ⟨by rw [ht]; exact hP9, va_K.moved hW.alike hK, hD9⟩⟩, hS.F ht⟩) hS.2.2 dX1_takeSteps_22
def fX1_leaveOut_J49 (kk17 : Int32 → ST → Option ST) (v4_17 : Int32) (p0w_17 : ST) (p0w_49 : ST) : Option ST := (kk17 (p0w_17 20 (nn v4_17)) p0w_49)
def fX1_leaveOut_L17 (p0n : Nat → Nat) (p1n : Nat) (p1f : RI) (v2_2 : Int32) : Nat → Int32 → ST → Option ST
  | 0 => fun _ _ => none
  | n_17 + 1 => fun v4_17 p0w_17 => (if v4_17 < 0 then some p0w_17 else (if ixb v4_17 (p0n 20) = true then (if ixb v4_17 (p0n 19) = true then (if ixb (p0w_17 19 (nn v4_17)) p1n = true then (if (p1f (nn (p0w_17 19 (nn v4_17)))) = 0 then ((fX1_linkPhi p0n p0w_17 v2_2 v4_17).bind fun (o_9 : ST) => (fX1_leaveOut_J49 (fX1_leaveOut_L17 p0n p1n p1f v2_2 n_17) v4_17 p0w_17 o_9)) else (fX1_leaveOut_J49 (fX1_leaveOut_L17 p0n p1n p1f v2_2 n_17) v4_17 p0w_17 p0w_17)) else none) else none) else none))
def fX1_leaveOut_J109 (kk62 : Int32 → ST → ST → Option (ST × ST)) (v4_62 : Int32) (p0_2w_62 : ST) (p0w_109 : ST) (p0_2w_109 : ST) : Option (ST × ST) := (kk62 (p0_2w_62 6 (nn v4_62)) p0w_109 p0_2w_109)
def fX1_leaveOut_J102 (kk62 : Int32 → ST → ST → Option (ST × ST)) (p0_2n : Nat → Nat) (v2_2 : Int32) (v4_62 : Int32) (p0w_62 : ST) (p0_2w_62 : ST) : Option (ST × ST) := ((fX1_link p0w_62 v2_2 v4_62 p0_2n p0_2w_62).bind fun (o_15 : ST × ST) => (fX1_leaveOut_J109 kk62 v4_62 p0_2w_62 (o_15.1) (o_15.2)))
def fX1_leaveOut_L62 (p1n : Nat) (p1f : RI) (p0_2n : Nat → Nat) (v2_2 : Int32) : Nat → Int32 → ST → ST → Option (ST × ST)
  | 0 => fun _ _ _ => none
  | n_62 + 1 => fun v4_62 p0w_62 p0_2w_62 => (if v4_62 < 0 then some (p0w_62, p0_2w_62) else (if ixb v4_62 (p0_2n 6) = true then (if ixb v4_62 (p0_2n 3) = true then (if (p0_2w_62 3 (nn v4_62)) < 0 then (fX1_leaveOut_J102 (fX1_leaveOut_L62 p1n p1f p0_2n v2_2 n_62) p0_2n v2_2 v4_62 p0w_62 p0_2w_62) else (if ixb (p0_2w_62 3 (nn v4_62)) p1n = true then (if (p1f (nn (p0_2w_62 3 (nn v4_62)))) = 0 then (fX1_leaveOut_J102 (fX1_leaveOut_L62 p1n p1f p0_2n v2_2 n_62) p0_2n v2_2 v4_62 p0w_62 p0_2w_62) else (fX1_leaveOut_J109 (fX1_leaveOut_L62 p1n p1f p0_2n v2_2 n_62) v4_62 p0_2w_62 p0w_62 p0_2w_62)) else none)) else none) else none))
def fX1_leaveOut_L2 (p0n : Nat → Nat) (p1n : Nat) (p1f : RI) (p0_2n : Nat → Nat) : Nat → Int32 → ST → ST → Option (ST × ST)
  | 0 => fun _ _ _ => none
  | n_2 + 1 => fun v2_2 p0w_2 p0_2w_2 => (if (p0w_2 0 0) ≤ v2_2 then some (p0w_2, p0_2w_2) else ((fX1_takePhis p0w_2 v2_2).bind fun (o_2 : Int32 × ST) => ((fX1_leaveOut_L17 p0n p1n p1f v2_2 NF (o_2.1) (o_2.2)).bind fun (o17 : ST) => ((fX1_takeSteps o17 v2_2).bind fun (o_10 : Int32 × ST) => ((fX1_leaveOut_L62 p1n p1f p0_2n v2_2 NF (o_10.1) (o_10.2) p0_2w_2).bind fun (o62 : ST × ST) => ((fX1_leaveOut_L2 p0n p1n p1f p0_2n n_2) (v2_2 + 1) (o62.1) (o62.2)))))))
def fX1_leaveOut (p0n : Nat → Nat) (p0w : ST) (p1n : Nat) (p1f : RI) (p0_2n : Nat → Nat) (p0_2w : ST) : Option (ST × ST) := ((fX1_leaveOut_L2 p0n p1n p1f p0_2n NF 0 p0w p0_2w).bind fun (o2 : ST × ST) => some ((o2.1), (o2.2)))
set_option maxHeartbeats 16000000 in
set_option maxRecDepth 100000 in
theorem kX1_leaveOut {zs : ZS} (l : Launch) (dC : Nat → ClassId) (dI : Nat → Nat → Nat) (p0a : Nat → Nat) (p0k : Nat → ClassId) (p0n : Nat → Nat) (p0w : ST) (p0l : SL) (p1a : Nat) (p1k : ClassId) (p1n : Nat) (p1f : RI) (p0_2a : Nat → Nat) (p0_2k : Nat → ClassId) (p0_2n : Nat → Nat) (p0_2w : ST) (sz : Nat) (o : ST × ST) (hrun : fX1_leaveOut p0n p0w p1n p1f p0_2n p0_2w = some o) : Met l yX1_leaveOut (wz yX1_leaveOut cX1_leaveOut 6 (Option.none : Option Jvm.ClassFile.FieldType)) ({ frames := 1, cells := 0, slots := 0, locals := 22 } : Room) (va_Pc [.ref (p0a 0), .ref p1a] (PRE zs dC dI (List.flatten ([(oX1 (p0a 0) p0a p0k p0n p0w p0l), (oX9 (p0a 3) p0_2a p0_2k p0_2n p0_2w), [(p1a, .inl (p1k, p1n, .inl p1f))]] : List va_W)) (List.flatten ([(tX1 p0k), (tX9 p0_2k), [(p1k, .int)]] : List (List (ClassId × FieldType)))) sz)) (va_Qv (fun (_ : Unit) => True) (fun _ t => POST dC dI (List.flatten ([(oX1 (p0a 0) p0a p0k p0n (o.1) p0l), (oX9 (p0a 3) p0_2a p0_2k p0_2n (o.2)), [(p1a, .inl (p1k, p1n, .inl p1f))]] : List va_W)) (List.flatten ([(tX1 p0k), (tX9 p0_2k), [(p1k, .int)]] : List (List (ClassId × FieldType)))) (va_A (List.flatten ([(oX1 (p0a 0) p0a p0k p0n p0w p0l), (oX9 (p0a 3) p0_2a p0_2k p0_2n p0_2w), [(p1a, .inl (p1k, p1n, .inl p1f))]] : List va_W)) sz) t) (va_A (List.flatten ([(oX1 (p0a 0) p0a p0k p0n p0w p0l), (oX9 (p0a 3) p0_2a p0_2k p0_2n p0_2w), [(p1a, .inl (p1k, p1n, .inl p1f))]] : List va_W)) sz)) 0 0 (va_A (List.flatten ([(oX1 (p0a 0) p0a p0k p0n p0w p0l), (oX9 (p0a 3) p0_2a p0_2k p0_2n p0_2w), [(p1a, .inl (p1k, p1n, .inl p1f))]] : List va_W)) sz) := by
  refine Met.ofW (cc := cX1_leaveOut) (maxL := 6) (ret := (Option.none : Option Jvm.ClassFile.FieldType)) (by decide) rfl ?_
  intro p e s m args below meth c s₁ B hml hv
  obtain ⟨rfl, hsz, hP, hK, hD0, hE⟩ := hv
  have hx := B.exec
  have hb := B.bytes
  have hr := B.returns
  have hts0 := atoms_spec (ws := wz yX1_leaveOut cX1_leaveOut 6 (Option.none : Option Jvm.ClassFile.FieldType)) B.pre
  have hts : ∀ w ∈ gw, w.before _ s = true := fun w h => hts0 w (List.mem_cons_of_mem _ h)
  have hown : s.vm.findClass RX1 = some m.cls := findClass_of_methodNamed B.named
  have hlocks := B.notSynchronized
  subst hsz
  have hD := hD0.self (sz := s.heap.size)
  refine gQ9 ?_
  intro Q hQ
  generalize hAe : va_A (List.flatten ([(oX1 (p0a 0) p0a p0k p0n p0w p0l), (oX9 (p0a 3) p0_2a p0_2k p0_2n p0_2w), [(p1a, .inl (p1k, p1n, .inl p1f))]] : List va_W)) s.heap.size = A at hD hE hQ
  have hA : ∀ q : Nat, s.heap.size ≤ q → A q := fun q h => by rw [← hAe]; exact Or.inr h
  have hS : va_S A s.heap s.heap [] := va_S.rf
  have hP : va_P (dC, dI) cls (List.flatten ([(oX1 (p0a 0) p0a p0k p0n p0w p0l), (oX9 (p0a 3) p0_2a p0_2k p0_2n p0_2w), [(p1a, .inl (p1k, p1n, .inl p1f))]] : List va_W)) s.heap := hP
  have hl := lv_entry ([.ref (p0a 0), .ref p1a]) (n := 6) (Nat.le_of_ble_eq_true rfl)
  rw [lg_entry_eq]
  generalize (lg_sl ([.ref (p0a 0), .ref p1a]) ++ List.replicate (6 - (lg_sl ([.ref (p0a 0), .ref p1a])).length) Slot.unset).toArray = ls at hl ⊢
  have hl : lv_has ls 6 [(0, .ref (p0a 0)), (1, .ref p1a)] := hl
  obtain ⟨H, hHe⟩ : ∃ H, H = s.heap := ⟨_, rfl⟩
  obtain ⟨locs, hle⟩ : ∃ locs : List Loc, locs = [] := ⟨_, rfl⟩
  rw [← hHe] at hP
  have hS : va_S A s.heap H locs := by rw [hHe, hle]; exact hS
  show W p l e ({ frames := 1, cells := 0, slots := 0, locals := 22 } : Room) s m ([.ref (p0a 0), .ref p1a] : List Value).toArray below meth c s.heap [] 0 0 Q (F0 m 0 ls [])
  rw [← hle]
  refine wH9 hHe ?_
  unfold fX1_leaveOut at hrun
  refine lv_iconst (v := 0) hx hb dX1_leaveOut_0 (by decide) ?_
  refine lv_istore_n (lv' := [(2, .int 0), (0, .ref (p0a 0)), (1, .ref p1a)]) hx hb dX1_leaveOut_1 rfl hl (by decide) rfl (fun ls hl => ?_)
  have L2 : ∀ (n_2 : Nat) (v2_2 : Int32) (p0w_2 : ST) (p0_2w_2 : ST) (o2 : ST × ST) (H : Heap) (locs : List Loc) (ls : Array Slot), (fX1_leaveOut_L2 p0n p1n p1f p0_2n n_2) v2_2 p0w_2 p0_2w_2 = some o2 → va_P (dC, dI) cls (List.flatten ([(oX1 (p0a 0) p0a p0k p0n p0w_2 p0l), (oX9 (p0a 3) p0_2a p0_2k p0_2n p0_2w_2), [(p1a, .inl (p1k, p1n, .inl p1f))]] : List va_W)) H → va_D A (List.flatten ([(oX1 (p0a 0) p0a p0k p0n p0w_2 p0l), (oX9 (p0a 3) p0_2a p0_2k p0_2n p0_2w_2), [(p1a, .inl (p1k, p1n, .inl p1f))]] : List va_W)) → va_K (dC, dI) cls (List.flatten ([(tX1 p0k), (tX9 p0_2k), [(p1k, .int)]] : List (List (ClassId × FieldType)))) s → va_S A s.heap H locs → lv_has ls 6 [(0, .ref (p0a 0)), (1, .ref p1a), (2, .int v2_2)] → (∀ (H : Heap) (locs : List Loc) (ls : Array Slot), va_P (dC, dI) cls (List.flatten ([(oX1 (p0a 0) p0a p0k p0n (o2.1) p0l), (oX9 (p0a 3) p0_2a p0_2k p0_2n (o2.2)), [(p1a, .inl (p1k, p1n, .inl p1f))]] : List va_W)) H → va_D A (List.flatten ([(oX1 (p0a 0) p0a p0k p0n (o2.1) p0l), (oX9 (p0a 3) p0_2a p0_2k p0_2n (o2.2)), [(p1a, .inl (p1k, p1n, .inl p1f))]] : List va_W)) → va_K (dC, dI) cls (List.flatten ([(tX1 p0k), (tX9 p0_2k), [(p1k, .int)]] : List (List (ClassId × FieldType)))) s → va_S A s.heap H locs → lv_has ls 6 [] → W p l e ({ frames := 1, cells := 0, slots := 0, locals := 22 } : Room) s m ([.ref (p0a 0), .ref p1a] : List Value).toArray below meth c H locs 0 0 Q (F0 m 121 ls [])) → W p l e ({ frames := 1, cells := 0, slots := 0, locals := 22 } : Room) s m ([.ref (p0a 0), .ref p1a] : List Value).toArray below meth c H locs 0 0 Q (F0 m 2 ls []) := by
    intro n_2
    induction n_2 with
    | zero => intro v2_2 p0w_2 p0_2w_2 o2 H locs ls hrun; exact (no9 rfl hrun).elim
    | succ n_2 IH2 =>
      intro v2_2 p0w_2 p0_2w_2 o2 H locs ls hrun hP hD hK hS hl hk2
      unfold fX1_leaveOut_L2 at hrun
      refine lv_iload_n hx hb dX1_leaveOut_2 rfl (lv_at hl 2 rfl) ?_
      refine lv_aload_n hx hb dX1_leaveOut_3 rfl (lv_at hl 0 rfl) ?_
      refine va_get (D := (dC, dI)) (ci := 4) (v := .int (p0w_2 0 0)) (C := RX1) (T := TX1) (N := 21) hx hb hts i_X1 hown hK hP 0 rfl rfl 0 (by decide) (hts _ qw110) (fun _ h9 => h9) rfl dX1_leaveOut_4 ?_
      rcases br9 hrun with ⟨hc1, hrun⟩ | ⟨hc1, hrun⟩
      · refine lv_icmp_ge (tgt := 121) hx hb dX1_leaveOut_7 (by decide) (fun _ => ?_) (fun c => absurd hc1 c)
        obtain rfl := (Option.some.inj hrun)
        exact hk2 _ _ _ hP hD hK hS (lv_sub hl [] rfl)
      · refine lv_icmp_ge (tgt := 121) hx hb dX1_leaveOut_7 (by decide) (fun c => absurd c hc1) (fun _ => ?_)
        refine lv_aload_n hx hb dX1_leaveOut_10 rfl (lv_at hl 0 rfl) ?_
        refine lv_iload_n hx hb dX1_leaveOut_11 rfl (lv_at hl 2 rfl) ?_
        obtain ⟨o_2, hc_2, hrun⟩ := bnd9 hrun
        have hPx : va_P (dC, dI) cls ((List.flatten ([(oX1 (p0a 0) p0a p0k p0n p0w_2 p0l)] : List va_W)) ++ (List.flatten ([(oX9 (p0a 3) p0_2a p0_2k p0_2n p0_2w_2), [(p1a, .inl (p1k, p1n, .inl p1f))]] : List va_W))) H := vP_fa (vP_perm hP (bP (List.Perm.refl _)))
        have hDx : va_D A ((List.flatten ([(oX1 (p0a 0) p0a p0k p0n p0w_2 p0l)] : List va_W)) ++ (List.flatten ([(oX9 (p0a 3) p0_2a p0_2k p0_2n p0_2w_2), [(p1a, .inl (p1k, p1n, .inl p1f))]] : List va_W))) := vD_fa (vD_perm hD (bP (List.Perm.refl _)))
        have hKx : va_K (dC, dI) cls ((List.flatten ([(tX1 p0k)] : List (List (ClassId × FieldType)))) ++ (List.flatten ([(tX9 p0_2k), [(p1k, .int)]] : List (List (ClassId × FieldType))))) s := vK_fa (vK_perm hK (bP (List.Perm.refl _)))
        have hPc := vP_l hPx
        have hDc := vD_l hDx
        have hKc := vK_l hKx
        have hFc := vfree hDx hS hA
        refine va_calli (va_runV (As := [.int v2_2]) (rest := []) ⟨hx, hb, hml, hown, hts⟩ (kX1_takePhis l dC dI (p0a := p0a) (p0k := p0k) (p0n := p0n) (p0w := p0w_2) (p0l := p0l) (p1 := v2_2) (sz := _) (o := o_2) (hrun := hc_2)) (cwV 1 hts (gi_V qw174 qw175 qw176 qw126 (gi_z qw173)) rfl rfl rfl (by decide +kernel) ⟨Nat.le_of_ble_eq_true rfl, Nat.le_of_ble_eq_true rfl⟩) ⟨PRE.blind, va_recv hKc hPc (ci := 4) (q0 := 0) rfl rfl, PRE.of hE hS hFc hPc hKc hDc⟩ rfl rfl hl.1 rfl (lv_room (Nat.le_of_ble_eq_true rfl)) dX1_leaveOut_12 ⟨(Nat.le_of_ble_eq_true rfl), (Nat.le_of_ble_eq_true rfl)⟩) hS (fun q _ h => hFc q h) hFc (fun r3 u t H locs ht hvm hw hB hz1 hk1 hS => ?_)
        obtain ⟨b1, b2, b3⟩ := hB
        rw [ht] at b1
        obtain ⟨hP, hD, hK⟩ := JOINC (wc := (List.flatten ([(oX1 (p0a 0) p0a p0k p0n p0w_2 p0l)] : List va_W))) (wr := (List.flatten ([(oX9 (p0a 3) p0_2a p0_2k p0_2n p0_2w_2), [(p1a, .inl (p1k, p1n, .inl p1f))]] : List va_W))) (w1 := (List.flatten ([(oX1 (p0a 0) p0a p0k p0n (o_2.2) p0l)] : List va_W))) (t1 := (List.flatten ([(tX1 p0k)] : List (List (ClassId × FieldType))))) hPx hDx hKx hk1 hFc b1 (va_K.moved hvm.symm b2) b3
        have hP : va_P (dC, dI) cls (List.flatten ([(oX1 (p0a 0) p0a p0k p0n (o_2.2) p0l), (oX9 (p0a 3) p0_2a p0_2k p0_2n p0_2w_2), [(p1a, .inl (p1k, p1n, .inl p1f))]] : List va_W)) H := vP_perm (vP_fb hP) (bP (List.Perm.refl _))
        have hD : va_D A (List.flatten ([(oX1 (p0a 0) p0a p0k p0n (o_2.2) p0l), (oX9 (p0a 3) p0_2a p0_2k p0_2n p0_2w_2), [(p1a, .inl (p1k, p1n, .inl p1f))]] : List va_W)) := vD_perm (vD_fb hD) (bP (List.Perm.refl _))
        have hK : va_K (dC, dI) cls (List.flatten ([(tX1 p0k), (tX9 p0_2k), [(p1k, .int)]] : List (List (ClassId × FieldType)))) s := vK_perm (vK_fb hK) (bP (List.Perm.refl _))
        obtain rfl : r3 = (o_2.1) := hw
        refine lv_istore (lv' := [(4, .int (o_2.1)), (0, .ref (p0a 0)), (1, .ref p1a), (2, .int v2_2)]) hx hb dX1_leaveOut_15 hl (by decide) rfl (fun ls hl => ?_)
        have L17 : ∀ (n_17 : Nat) (v4_17 : Int32) (p0w_17 : ST) (o17 : ST) (H : Heap) (locs : List Loc) (ls : Array Slot), (fX1_leaveOut_L17 p0n p1n p1f v2_2 n_17) v4_17 p0w_17 = some o17 → va_P (dC, dI) cls (List.flatten ([(oX1 (p0a 0) p0a p0k p0n p0w_17 p0l), (oX9 (p0a 3) p0_2a p0_2k p0_2n p0_2w_2), [(p1a, .inl (p1k, p1n, .inl p1f))]] : List va_W)) H → va_D A (List.flatten ([(oX1 (p0a 0) p0a p0k p0n p0w_17 p0l), (oX9 (p0a 3) p0_2a p0_2k p0_2n p0_2w_2), [(p1a, .inl (p1k, p1n, .inl p1f))]] : List va_W)) → va_K (dC, dI) cls (List.flatten ([(tX1 p0k), (tX9 p0_2k), [(p1k, .int)]] : List (List (ClassId × FieldType)))) s → va_S A s.heap H locs → lv_has ls 6 [(0, .ref (p0a 0)), (1, .ref p1a), (2, .int v2_2), (4, .int v4_17)] → (∀ (H : Heap) (locs : List Loc) (ls : Array Slot), va_P (dC, dI) cls (List.flatten ([(oX1 (p0a 0) p0a p0k p0n o17 p0l), (oX9 (p0a 3) p0_2a p0_2k p0_2n p0_2w_2), [(p1a, .inl (p1k, p1n, .inl p1f))]] : List va_W)) H → va_D A (List.flatten ([(oX1 (p0a 0) p0a p0k p0n o17 p0l), (oX9 (p0a 3) p0_2a p0_2k p0_2n p0_2w_2), [(p1a, .inl (p1k, p1n, .inl p1f))]] : List va_W)) → va_K (dC, dI) cls (List.flatten ([(tX1 p0k), (tX9 p0_2k), [(p1k, .int)]] : List (List (ClassId × FieldType)))) s → va_S A s.heap H locs → lv_has ls 6 [(0, .ref (p0a 0)), (1, .ref p1a), (2, .int v2_2)] → W p l e ({ frames := 1, cells := 0, slots := 0, locals := 22 } : Room) s m ([.ref (p0a 0), .ref p1a] : List Value).toArray below meth c H locs 0 0 Q (F0 m 55 ls [])) → W p l e ({ frames := 1, cells := 0, slots := 0, locals := 22 } : Room) s m ([.ref (p0a 0), .ref p1a] : List Value).toArray below meth c H locs 0 0 Q (F0 m 17 ls []) := by
          intro n_17
          induction n_17 with
          | zero => intro v4_17 p0w_17 o17 H locs ls hrun; exact (no9 rfl hrun).elim
          | succ n_17 IH17 =>
            intro v4_17 p0w_17 o17 H locs ls hrun hP hD hK hS hl hk17
            unfold fX1_leaveOut_L17 at hrun
            refine lv_iload hx hb dX1_leaveOut_17 (lv_at hl 3 rfl) ?_
            rcases br9 hrun with ⟨hc4, hrun⟩ | ⟨hc4, hrun⟩
            · refine lv_if_lt (tgt := 55) hx hb dX1_leaveOut_19 (by decide) (fun _ => ?_) (fun c => absurd hc4 c)
              obtain rfl := (Option.some.inj hrun)
              exact hk17 _ _ _ hP hD hK hS (lv_sub hl [0, 1, 2] rfl)
            · refine lv_if_lt (tgt := 55) hx hb dX1_leaveOut_19 (by decide) (fun c => absurd c hc4) (fun _ => ?_)
              refine lv_aload_n hx hb dX1_leaveOut_22 rfl (lv_at hl 0 rfl) ?_
              refine va_get (D := (dC, dI)) (ci := 4) (v := .ref (p0a 20)) (C := RX1) (T := TX1) (N := 21) hx hb hts i_X1 hown hK hP 0 rfl rfl 19 (by decide) (hts _ qw121) (fun _ h9 => h9) rfl dX1_leaveOut_23 ?_
              refine lv_iload hx hb dX1_leaveOut_26 (lv_at hl 3 rfl) ?_
              obtain ⟨hq5, hrun⟩ := chk9 hrun
              refine va_iald hx hb hK hP 16 15 rfl rfl (ixb_in hq5) dX1_leaveOut_28 ?_
              refine lv_istore_n (lv' := [(3, .int (p0w_17 20 (nn v4_17))), (0, .ref (p0a 0)), (1, .ref p1a), (2, .int v2_2), (4, .int v4_17)]) hx hb dX1_leaveOut_29 rfl hl (by decide) rfl (fun ls hl => ?_)
              refine lv_aload_n hx hb dX1_leaveOut_30 rfl (lv_at hl 2 rfl) ?_
              refine lv_aload_n hx hb dX1_leaveOut_31 rfl (lv_at hl 1 rfl) ?_
              refine va_get (D := (dC, dI)) (ci := 4) (v := .ref (p0a 19)) (C := RX1) (T := TX1) (N := 21) hx hb hts i_X1 hown hK hP 0 rfl rfl 18 (by decide) (hts _ qw120) (fun _ h9 => h9) rfl dX1_leaveOut_32 ?_
              refine lv_iload hx hb dX1_leaveOut_35 (lv_at hl 4 rfl) ?_
              obtain ⟨hq6, hrun⟩ := chk9 hrun
              refine va_iald hx hb hK hP 15 14 rfl rfl (ixb_in hq6) dX1_leaveOut_37 ?_
              obtain ⟨hq7, hrun⟩ := chk9 hrun
              refine va_iald hx hb hK hP 24 22 rfl rfl (ixb_in hq7) dX1_leaveOut_38 ?_
              have J49 : ∀ (p0w_49 : ST) (H : Heap) (locs : List Loc) (ls : Array Slot), (fX1_leaveOut_J49 (fX1_leaveOut_L17 p0n p1n p1f v2_2 n_17) v4_17 p0w_17 p0w_49) = some o17 → va_P (dC, dI) cls (List.flatten ([(oX1 (p0a 0) p0a p0k p0n p0w_49 p0l), (oX9 (p0a 3) p0_2a p0_2k p0_2n p0_2w_2), [(p1a, .inl (p1k, p1n, .inl p1f))]] : List va_W)) H → va_D A (List.flatten ([(oX1 (p0a 0) p0a p0k p0n p0w_49 p0l), (oX9 (p0a 3) p0_2a p0_2k p0_2n p0_2w_2), [(p1a, .inl (p1k, p1n, .inl p1f))]] : List va_W)) → va_K (dC, dI) cls (List.flatten ([(tX1 p0k), (tX9 p0_2k), [(p1k, .int)]] : List (List (ClassId × FieldType)))) s → va_S A s.heap H locs → lv_has ls 6 [(0, .ref (p0a 0)), (1, .ref p1a), (2, .int v2_2), (3, .int (p0w_17 20 (nn v4_17)))] → W p l e ({ frames := 1, cells := 0, slots := 0, locals := 22 } : Room) s m ([.ref (p0a 0), .ref p1a] : List Value).toArray below meth c H locs 0 0 Q (F0 m 49 ls []) := by
                intro p0w_49 H locs ls hrun hP hD hK hS hl 
                unfold fX1_leaveOut_J49 at hrun
                refine lv_iload_n hx hb dX1_leaveOut_49 rfl (lv_at hl 3 rfl) ?_
                refine lv_istore (lv' := [(4, .int (p0w_17 20 (nn v4_17))), (0, .ref (p0a 0)), (1, .ref p1a), (2, .int v2_2), (3, .int (p0w_17 20 (nn v4_17)))]) hx hb dX1_leaveOut_50 hl (by decide) rfl (fun ls hl => ?_)
                refine lv_goto (tgt := 17) hx hb dX1_leaveOut_52 (by decide) ?_
                exact IH17 (p0w_17 20 (nn v4_17)) p0w_49 o17 _ _ _ hrun hP hD hK hS (lv_sub hl [1, 2, 3, 0] rfl) hk17
              rcases br9 hrun with ⟨hc8, hrun⟩ | ⟨hc8, hrun⟩
              · refine lv_if_ne (tgt := 49) hx hb dX1_leaveOut_39 (by decide) (fun c => absurd hc8 c) (fun _ => ?_)
                refine lv_aload_n hx hb dX1_leaveOut_42 rfl (lv_at hl 1 rfl) ?_
                refine lv_iload_n hx hb dX1_leaveOut_43 rfl (lv_at hl 3 rfl) ?_
                refine lv_iload hx hb dX1_leaveOut_44 (lv_at hl 4 rfl) ?_
                obtain ⟨o_9, hc_9, hrun⟩ := bnd9 hrun
                have hPx : va_P (dC, dI) cls ((List.flatten ([(oX1 (p0a 0) p0a p0k p0n p0w_17 p0l)] : List va_W)) ++ (List.flatten ([(oX9 (p0a 3) p0_2a p0_2k p0_2n p0_2w_2), [(p1a, .inl (p1k, p1n, .inl p1f))]] : List va_W))) H := vP_fa (vP_perm hP (bP (List.Perm.refl _)))
                have hDx : va_D A ((List.flatten ([(oX1 (p0a 0) p0a p0k p0n p0w_17 p0l)] : List va_W)) ++ (List.flatten ([(oX9 (p0a 3) p0_2a p0_2k p0_2n p0_2w_2), [(p1a, .inl (p1k, p1n, .inl p1f))]] : List va_W))) := vD_fa (vD_perm hD (bP (List.Perm.refl _)))
                have hKx : va_K (dC, dI) cls ((List.flatten ([(tX1 p0k)] : List (List (ClassId × FieldType)))) ++ (List.flatten ([(tX9 p0_2k), [(p1k, .int)]] : List (List (ClassId × FieldType))))) s := vK_fa (vK_perm hK (bP (List.Perm.refl _)))
                have hPc := vP_l hPx
                have hDc := vD_l hDx
                have hKc := vK_l hKx
                have hFc := vfree hDx hS hA
                refine va_callv (va_runV (As := [.int v2_2, .int v4_17]) (rest := []) ⟨hx, hb, hml, hown, hts⟩ (kX1_linkPhi l dC dI (p0a := p0a) (p0k := p0k) (p0n := p0n) (p0w := p0w_17) (p0l := p0l) (p1 := v2_2) (p2 := v4_17) (sz := _) (o := o_9) (hrun := hc_9)) (cwV 2 hts (gi_V qw123 qw124 qw125 qw126 (gi_z qw122)) rfl rfl rfl (by decide +kernel) ⟨Nat.le_of_ble_eq_true rfl, Nat.le_of_ble_eq_true rfl⟩) ⟨PRE.blind, va_recv hKc hPc (ci := 4) (q0 := 0) rfl rfl, PRE.of hE hS hFc hPc hKc hDc⟩ rfl rfl hl.1 rfl (lv_room (Nat.le_of_ble_eq_true rfl)) dX1_leaveOut_46 ⟨(Nat.le_of_ble_eq_true rfl), (Nat.le_of_ble_eq_true rfl)⟩) hS (fun q _ h => hFc q h) hFc (fun u t H locs ht hvm hw hB hz1 hk1 hS => ?_)
                obtain ⟨b1, b2, b3⟩ := hB
                rw [ht] at b1
                obtain ⟨hP, hD, hK⟩ := JOINC (wc := (List.flatten ([(oX1 (p0a 0) p0a p0k p0n p0w_17 p0l)] : List va_W))) (wr := (List.flatten ([(oX9 (p0a 3) p0_2a p0_2k p0_2n p0_2w_2), [(p1a, .inl (p1k, p1n, .inl p1f))]] : List va_W))) (w1 := (List.flatten ([(oX1 (p0a 0) p0a p0k p0n o_9 p0l)] : List va_W))) (t1 := (List.flatten ([(tX1 p0k)] : List (List (ClassId × FieldType))))) hPx hDx hKx hk1 hFc b1 (va_K.moved hvm.symm b2) b3
                have hP : va_P (dC, dI) cls (List.flatten ([(oX1 (p0a 0) p0a p0k p0n o_9 p0l), (oX9 (p0a 3) p0_2a p0_2k p0_2n p0_2w_2), [(p1a, .inl (p1k, p1n, .inl p1f))]] : List va_W)) H := vP_perm (vP_fb hP) (bP (List.Perm.refl _))
                have hD : va_D A (List.flatten ([(oX1 (p0a 0) p0a p0k p0n o_9 p0l), (oX9 (p0a 3) p0_2a p0_2k p0_2n p0_2w_2), [(p1a, .inl (p1k, p1n, .inl p1f))]] : List va_W)) := vD_perm (vD_fb hD) (bP (List.Perm.refl _))
                have hK : va_K (dC, dI) cls (List.flatten ([(tX1 p0k), (tX9 p0_2k), [(p1k, .int)]] : List (List (ClassId × FieldType)))) s := vK_perm (vK_fb hK) (bP (List.Perm.refl _))
                exact J49 o_9 _ _ _ hrun hP hD hK hS (lv_sub hl [1, 2, 3, 0] rfl)
              · refine lv_if_ne (tgt := 49) hx hb dX1_leaveOut_39 (by decide) (fun _ => ?_) (fun c => absurd c hc8)
                exact J49 p0w_17 _ _ _ hrun hP hD hK hS (lv_sub hl [1, 2, 3, 0] rfl)
        obtain ⟨o17, hc17, hrun⟩ := bnd9 hrun
        refine L17 NF (o_2.1) (o_2.2) o17 _ _ _ hc17 hP hD hK hS (lv_sub hl [1, 2, 3, 0] rfl) ?_
        intro H locs ls hP hD hK hS hl
        have hl := hl
        refine lv_aload_n hx hb dX1_leaveOut_55 rfl (lv_at hl 0 rfl) ?_
        refine lv_iload_n hx hb dX1_leaveOut_56 rfl (lv_at hl 2 rfl) ?_
        obtain ⟨o_10, hc_10, hrun⟩ := bnd9 hrun
        have hPx : va_P (dC, dI) cls ((List.flatten ([(oX1 (p0a 0) p0a p0k p0n o17 p0l)] : List va_W)) ++ (List.flatten ([(oX9 (p0a 3) p0_2a p0_2k p0_2n p0_2w_2), [(p1a, .inl (p1k, p1n, .inl p1f))]] : List va_W))) H := vP_fa (vP_perm hP (bP (List.Perm.refl _)))
        have hDx : va_D A ((List.flatten ([(oX1 (p0a 0) p0a p0k p0n o17 p0l)] : List va_W)) ++ (List.flatten ([(oX9 (p0a 3) p0_2a p0_2k p0_2n p0_2w_2), [(p1a, .inl (p1k, p1n, .inl p1f))]] : List va_W))) := vD_fa (vD_perm hD (bP (List.Perm.refl _)))
        have hKx : va_K (dC, dI) cls ((List.flatten ([(tX1 p0k)] : List (List (ClassId × FieldType)))) ++ (List.flatten ([(tX9 p0_2k), [(p1k, .int)]] : List (List (ClassId × FieldType))))) s := vK_fa (vK_perm hK (bP (List.Perm.refl _)))
        have hPc := vP_l hPx
        have hDc := vD_l hDx
        have hKc := vK_l hKx
        have hFc := vfree hDx hS hA
        refine va_calli (va_runV (As := [.int v2_2]) (rest := []) ⟨hx, hb, hml, hown, hts⟩ (kX1_takeSteps l dC dI (p0a := p0a) (p0k := p0k) (p0n := p0n) (p0w := o17) (p0l := p0l) (p1 := v2_2) (sz := _) (o := o_10) (hrun := hc_10)) (cwV 1 hts (gi_V qw178 qw179 qw180 qw126 (gi_z qw177)) rfl rfl rfl (by decide +kernel) ⟨Nat.le_of_ble_eq_true rfl, Nat.le_of_ble_eq_true rfl⟩) ⟨PRE.blind, va_recv hKc hPc (ci := 4) (q0 := 0) rfl rfl, PRE.of hE hS hFc hPc hKc hDc⟩ rfl rfl hl.1 rfl (lv_room (Nat.le_of_ble_eq_true rfl)) dX1_leaveOut_57 ⟨(Nat.le_of_ble_eq_true rfl), (Nat.le_of_ble_eq_true rfl)⟩) hS (fun q _ h => hFc q h) hFc (fun r11 u t H locs ht hvm hw hB hz1 hk1 hS => ?_)
        obtain ⟨b1, b2, b3⟩ := hB
        rw [ht] at b1
        obtain ⟨hP, hD, hK⟩ := JOINC (wc := (List.flatten ([(oX1 (p0a 0) p0a p0k p0n o17 p0l)] : List va_W))) (wr := (List.flatten ([(oX9 (p0a 3) p0_2a p0_2k p0_2n p0_2w_2), [(p1a, .inl (p1k, p1n, .inl p1f))]] : List va_W))) (w1 := (List.flatten ([(oX1 (p0a 0) p0a p0k p0n (o_10.2) p0l)] : List va_W))) (t1 := (List.flatten ([(tX1 p0k)] : List (List (ClassId × FieldType))))) hPx hDx hKx hk1 hFc b1 (va_K.moved hvm.symm b2) b3
        have hP : va_P (dC, dI) cls (List.flatten ([(oX1 (p0a 0) p0a p0k p0n (o_10.2) p0l), (oX9 (p0a 3) p0_2a p0_2k p0_2n p0_2w_2), [(p1a, .inl (p1k, p1n, .inl p1f))]] : List va_W)) H := vP_perm (vP_fb hP) (bP (List.Perm.refl _))
        have hD : va_D A (List.flatten ([(oX1 (p0a 0) p0a p0k p0n (o_10.2) p0l), (oX9 (p0a 3) p0_2a p0_2k p0_2n p0_2w_2), [(p1a, .inl (p1k, p1n, .inl p1f))]] : List va_W)) := vD_perm (vD_fb hD) (bP (List.Perm.refl _))
        have hK : va_K (dC, dI) cls (List.flatten ([(tX1 p0k), (tX9 p0_2k), [(p1k, .int)]] : List (List (ClassId × FieldType)))) s := vK_perm (vK_fb hK) (bP (List.Perm.refl _))
        obtain rfl : r11 = (o_10.1) := hw
        refine lv_istore (lv' := [(4, .int (o_10.1)), (0, .ref (p0a 0)), (1, .ref p1a), (2, .int v2_2)]) hx hb dX1_leaveOut_60 hl (by decide) rfl (fun ls hl => ?_)
        have L62 : ∀ (n_62 : Nat) (v4_62 : Int32) (p0w_62 : ST) (p0_2w_62 : ST) (o62 : ST × ST) (H : Heap) (locs : List Loc) (ls : Array Slot), (fX1_leaveOut_L62 p1n p1f p0_2n v2_2 n_62) v4_62 p0w_62 p0_2w_62 = some o62 → va_P (dC, dI) cls (List.flatten ([(oX1 (p0a 0) p0a p0k p0n p0w_62 p0l), (oX9 (p0a 3) p0_2a p0_2k p0_2n p0_2w_62), [(p1a, .inl (p1k, p1n, .inl p1f))]] : List va_W)) H → va_D A (List.flatten ([(oX1 (p0a 0) p0a p0k p0n p0w_62 p0l), (oX9 (p0a 3) p0_2a p0_2k p0_2n p0_2w_62), [(p1a, .inl (p1k, p1n, .inl p1f))]] : List va_W)) → va_K (dC, dI) cls (List.flatten ([(tX1 p0k), (tX9 p0_2k), [(p1k, .int)]] : List (List (ClassId × FieldType)))) s → va_S A s.heap H locs → lv_has ls 6 [(0, .ref (p0a 0)), (1, .ref p1a), (2, .int v2_2), (4, .int v4_62)] → (∀ (H : Heap) (locs : List Loc) (ls : Array Slot), va_P (dC, dI) cls (List.flatten ([(oX1 (p0a 0) p0a p0k p0n (o62.1) p0l), (oX9 (p0a 3) p0_2a p0_2k p0_2n (o62.2)), [(p1a, .inl (p1k, p1n, .inl p1f))]] : List va_W)) H → va_D A (List.flatten ([(oX1 (p0a 0) p0a p0k p0n (o62.1) p0l), (oX9 (p0a 3) p0_2a p0_2k p0_2n (o62.2)), [(p1a, .inl (p1k, p1n, .inl p1f))]] : List va_W)) → va_K (dC, dI) cls (List.flatten ([(tX1 p0k), (tX9 p0_2k), [(p1k, .int)]] : List (List (ClassId × FieldType)))) s → va_S A s.heap H locs → lv_has ls 6 [(0, .ref (p0a 0)), (1, .ref p1a), (2, .int v2_2)] → W p l e ({ frames := 1, cells := 0, slots := 0, locals := 22 } : Room) s m ([.ref (p0a 0), .ref p1a] : List Value).toArray below meth c H locs 0 0 Q (F0 m 115 ls [])) → W p l e ({ frames := 1, cells := 0, slots := 0, locals := 22 } : Room) s m ([.ref (p0a 0), .ref p1a] : List Value).toArray below meth c H locs 0 0 Q (F0 m 62 ls []) := by
          intro n_62
          induction n_62 with
          | zero => intro v4_62 p0w_62 p0_2w_62 o62 H locs ls hrun; exact (no9 rfl hrun).elim
          | succ n_62 IH62 =>
            intro v4_62 p0w_62 p0_2w_62 o62 H locs ls hrun hP hD hK hS hl hk62
            unfold fX1_leaveOut_L62 at hrun
            refine lv_iload hx hb dX1_leaveOut_62 (lv_at hl 3 rfl) ?_
            rcases br9 hrun with ⟨hc12, hrun⟩ | ⟨hc12, hrun⟩
            · refine lv_if_lt (tgt := 115) hx hb dX1_leaveOut_64 (by decide) (fun _ => ?_) (fun c => absurd hc12 c)
              obtain rfl := (Option.some.inj hrun)
              exact hk62 _ _ _ hP hD hK hS (lv_sub hl [0, 1, 2] rfl)
            · refine lv_if_lt (tgt := 115) hx hb dX1_leaveOut_64 (by decide) (fun c => absurd c hc12) (fun _ => ?_)
              refine lv_aload_n hx hb dX1_leaveOut_67 rfl (lv_at hl 0 rfl) ?_
              refine va_get (D := (dC, dI)) (ci := 4) (v := .ref (p0a 3)) (C := RX1) (T := TX1) (N := 21) hx hb hts i_X1 hown hK hP 0 rfl rfl 2 (by decide) (hts _ qw132) (fun _ h9 => h9) rfl dX1_leaveOut_68 ?_
              refine va_get (D := (dC, dI)) (ci := 3) (v := .ref (p0_2a 6)) (C := RX9) (T := TX9) (N := 6) hx hb hts i_X9 hown hK hP 18 rfl rfl 5 (by decide) (hts _ qw138) (fun _ h9 => h9) rfl dX1_leaveOut_71 ?_
              refine lv_iload hx hb dX1_leaveOut_74 (lv_at hl 3 rfl) ?_
              obtain ⟨hq13, hrun⟩ := chk9 hrun
              refine va_iald hx hb hK hP 23 21 rfl rfl (ixb_in hq13) dX1_leaveOut_76 ?_
              refine lv_istore_n (lv' := [(3, .int (p0_2w_62 6 (nn v4_62))), (0, .ref (p0a 0)), (1, .ref p1a), (2, .int v2_2), (4, .int v4_62)]) hx hb dX1_leaveOut_77 rfl hl (by decide) rfl (fun ls hl => ?_)
              refine lv_aload_n hx hb dX1_leaveOut_78 rfl (lv_at hl 1 rfl) ?_
              refine va_get (D := (dC, dI)) (ci := 4) (v := .ref (p0a 3)) (C := RX1) (T := TX1) (N := 21) hx hb hts i_X1 hown hK hP 0 rfl rfl 2 (by decide) (hts _ qw132) (fun _ h9 => h9) rfl dX1_leaveOut_79 ?_
              refine va_get (D := (dC, dI)) (ci := 3) (v := .ref (p0_2a 3)) (C := RX9) (T := TX9) (N := 6) hx hb hts i_X9 hown hK hP 18 rfl rfl 2 (by decide) (hts _ qw160) (fun _ h9 => h9) rfl dX1_leaveOut_82 ?_
              refine lv_iload hx hb dX1_leaveOut_85 (lv_at hl 4 rfl) ?_
              obtain ⟨hq14, hrun⟩ := chk9 hrun
              refine va_iald hx hb hK hP 20 18 rfl rfl (ixb_in hq14) dX1_leaveOut_87 ?_
              refine lv_istore (lv' := [(5, .int (p0_2w_62 3 (nn v4_62))), (3, .int (p0_2w_62 6 (nn v4_62))), (0, .ref (p0a 0)), (1, .ref p1a), (2, .int v2_2), (4, .int v4_62)]) hx hb dX1_leaveOut_88 hl (by decide) rfl (fun ls hl => ?_)
              refine lv_iload hx hb dX1_leaveOut_90 (lv_at hl 0 rfl) ?_
              have J109 : ∀ (p0w_109 : ST) (p0_2w_109 : ST) (H : Heap) (locs : List Loc) (ls : Array Slot), (fX1_leaveOut_J109 (fX1_leaveOut_L62 p1n p1f p0_2n v2_2 n_62) v4_62 p0_2w_62 p0w_109 p0_2w_109) = some o62 → va_P (dC, dI) cls (List.flatten ([(oX1 (p0a 0) p0a p0k p0n p0w_109 p0l), (oX9 (p0a 3) p0_2a p0_2k p0_2n p0_2w_109), [(p1a, .inl (p1k, p1n, .inl p1f))]] : List va_W)) H → va_D A (List.flatten ([(oX1 (p0a 0) p0a p0k p0n p0w_109 p0l), (oX9 (p0a 3) p0_2a p0_2k p0_2n p0_2w_109), [(p1a, .inl (p1k, p1n, .inl p1f))]] : List va_W)) → va_K (dC, dI) cls (List.flatten ([(tX1 p0k), (tX9 p0_2k), [(p1k, .int)]] : List (List (ClassId × FieldType)))) s → va_S A s.heap H locs → lv_has ls 6 [(0, .ref (p0a 0)), (1, .ref p1a), (2, .int v2_2), (3, .int (p0_2w_62 6 (nn v4_62)))] → W p l e ({ frames := 1, cells := 0, slots := 0, locals := 22 } : Room) s m ([.ref (p0a 0), .ref p1a] : List Value).toArray below meth c H locs 0 0 Q (F0 m 109 ls []) := by
                intro p0w_109 p0_2w_109 H locs ls hrun hP hD hK hS hl 
                unfold fX1_leaveOut_J109 at hrun
                refine lv_iload_n hx hb dX1_leaveOut_109 rfl (lv_at hl 3 rfl) ?_
                refine lv_istore (lv' := [(4, .int (p0_2w_62 6 (nn v4_62))), (0, .ref (p0a 0)), (1, .ref p1a), (2, .int v2_2), (3, .int (p0_2w_62 6 (nn v4_62)))]) hx hb dX1_leaveOut_110 hl (by decide) rfl (fun ls hl => ?_)
                refine lv_goto (tgt := 62) hx hb dX1_leaveOut_112 (by decide) ?_
                exact IH62 (p0_2w_62 6 (nn v4_62)) p0w_109 p0_2w_109 o62 _ _ _ hrun hP hD hK hS (lv_sub hl [1, 2, 3, 0] rfl) hk62
              have J102 : ∀ (H : Heap) (locs : List Loc) (ls : Array Slot), (fX1_leaveOut_J102 (fX1_leaveOut_L62 p1n p1f p0_2n v2_2 n_62) p0_2n v2_2 v4_62 p0w_62 p0_2w_62) = some o62 → va_P (dC, dI) cls (List.flatten ([(oX1 (p0a 0) p0a p0k p0n p0w_62 p0l), (oX9 (p0a 3) p0_2a p0_2k p0_2n p0_2w_62), [(p1a, .inl (p1k, p1n, .inl p1f))]] : List va_W)) H → va_D A (List.flatten ([(oX1 (p0a 0) p0a p0k p0n p0w_62 p0l), (oX9 (p0a 3) p0_2a p0_2k p0_2n p0_2w_62), [(p1a, .inl (p1k, p1n, .inl p1f))]] : List va_W)) → va_K (dC, dI) cls (List.flatten ([(tX1 p0k), (tX9 p0_2k), [(p1k, .int)]] : List (List (ClassId × FieldType)))) s → va_S A s.heap H locs → lv_has ls 6 [(0, .ref (p0a 0)), (1, .ref p1a), (2, .int v2_2), (3, .int (p0_2w_62 6 (nn v4_62))), (4, .int v4_62)] → W p l e ({ frames := 1, cells := 0, slots := 0, locals := 22 } : Room) s m ([.ref (p0a 0), .ref p1a] : List Value).toArray below meth c H locs 0 0 Q (F0 m 102 ls []) := by
                intro  H locs ls hrun hP hD hK hS hl 
                unfold fX1_leaveOut_J102 at hrun
                refine lv_aload_n hx hb dX1_leaveOut_102 rfl (lv_at hl 0 rfl) ?_
                refine lv_iload_n hx hb dX1_leaveOut_103 rfl (lv_at hl 2 rfl) ?_
                refine lv_iload hx hb dX1_leaveOut_104 (lv_at hl 4 rfl) ?_
                obtain ⟨o_15, hc_15, hrun⟩ := bnd9 hrun
                have hPx : va_P (dC, dI) cls ((List.flatten ([(oX1 (p0a 0) p0a p0k p0n p0w_62 p0l), (oX9 (p0a 3) p0_2a p0_2k p0_2n p0_2w_62)] : List va_W)) ++ (List.flatten ([[(p1a, .inl (p1k, p1n, .inl p1f))]] : List va_W))) H := vP_fa (vP_perm hP (bP (List.Perm.refl _)))
                have hDx : va_D A ((List.flatten ([(oX1 (p0a 0) p0a p0k p0n p0w_62 p0l), (oX9 (p0a 3) p0_2a p0_2k p0_2n p0_2w_62)] : List va_W)) ++ (List.flatten ([[(p1a, .inl (p1k, p1n, .inl p1f))]] : List va_W))) := vD_fa (vD_perm hD (bP (List.Perm.refl _)))
                have hKx : va_K (dC, dI) cls ((List.flatten ([(tX1 p0k), (tX9 p0_2k)] : List (List (ClassId × FieldType)))) ++ (List.flatten ([[(p1k, .int)]] : List (List (ClassId × FieldType))))) s := vK_fa (vK_perm hK (bP (List.Perm.refl _)))
                have hPc := vP_l hPx
                have hDc := vD_l hDx
                have hKc := vK_l hKx
                have hFc := vfree hDx hS hA
                refine va_callv (va_runV (As := [.int v2_2, .int v4_62]) (rest := []) ⟨hx, hb, hml, hown, hts⟩ (kX1_link l dC dI (p0a := p0a) (p0k := p0k) (p0n := p0n) (p0w := p0w_62) (p0l := p0l) (p1 := v2_2) (p2 := v4_62) (p0_2a := p0_2a) (p0_2k := p0_2k) (p0_2n := p0_2n) (p0_2w := p0_2w_62) (sz := _) (o := o_15) (hrun := hc_15)) (cwV 2 hts (gi_V qw140 qw141 qw142 qw126 (gi_z qw139)) rfl rfl rfl (by decide +kernel) ⟨Nat.le_of_ble_eq_true rfl, Nat.le_of_ble_eq_true rfl⟩) ⟨PRE.blind, va_recv hKc hPc (ci := 4) (q0 := 0) rfl rfl, PRE.of hE hS hFc hPc hKc hDc⟩ rfl rfl hl.1 rfl (lv_room (Nat.le_of_ble_eq_true rfl)) dX1_leaveOut_106 ⟨(Nat.le_of_ble_eq_true rfl), (Nat.le_of_ble_eq_true rfl)⟩) hS (fun q _ h => hFc q h) hFc (fun u t H locs ht hvm hw hB hz1 hk1 hS => ?_)
                obtain ⟨b1, b2, b3⟩ := hB
                rw [ht] at b1
                obtain ⟨hP, hD, hK⟩ := JOINC (wc := (List.flatten ([(oX1 (p0a 0) p0a p0k p0n p0w_62 p0l), (oX9 (p0a 3) p0_2a p0_2k p0_2n p0_2w_62)] : List va_W))) (wr := (List.flatten ([[(p1a, .inl (p1k, p1n, .inl p1f))]] : List va_W))) (w1 := (List.flatten ([(oX1 (p0a 0) p0a p0k p0n (o_15.1) p0l), (oX9 (p0a 3) p0_2a p0_2k p0_2n (o_15.2))] : List va_W))) (t1 := (List.flatten ([(tX1 p0k), (tX9 p0_2k)] : List (List (ClassId × FieldType))))) hPx hDx hKx hk1 hFc b1 (va_K.moved hvm.symm b2) b3
                have hP : va_P (dC, dI) cls (List.flatten ([(oX1 (p0a 0) p0a p0k p0n (o_15.1) p0l), (oX9 (p0a 3) p0_2a p0_2k p0_2n (o_15.2)), [(p1a, .inl (p1k, p1n, .inl p1f))]] : List va_W)) H := vP_perm (vP_fb hP) (bP (List.Perm.refl _))
                have hD : va_D A (List.flatten ([(oX1 (p0a 0) p0a p0k p0n (o_15.1) p0l), (oX9 (p0a 3) p0_2a p0_2k p0_2n (o_15.2)), [(p1a, .inl (p1k, p1n, .inl p1f))]] : List va_W)) := vD_perm (vD_fb hD) (bP (List.Perm.refl _))
                have hK : va_K (dC, dI) cls (List.flatten ([(tX1 p0k), (tX9 p0_2k), [(p1k, .int)]] : List (List (ClassId × FieldType)))) s := vK_perm (vK_fb hK) (bP (List.Perm.refl _))
                exact J109 (o_15.1) (o_15.2) _ _ _ hrun hP hD hK hS (lv_sub hl [0, 1, 2, 3] rfl)
              rcases br9 hrun with ⟨hc16, hrun⟩ | ⟨hc16, hrun⟩
              · refine lv_if_lt (tgt := 102) hx hb dX1_leaveOut_92 (by decide) (fun _ => ?_) (fun c => absurd hc16 c)
                exact J102 _ _ _ hrun hP hD hK hS (lv_sub hl [2, 3, 4, 1, 5] rfl)
              · refine lv_if_lt (tgt := 102) hx hb dX1_leaveOut_92 (by decide) (fun c => absurd c hc16) (fun _ => ?_)
                refine lv_aload_n hx hb dX1_leaveOut_95 rfl (lv_at hl 3 rfl) ?_
                refine lv_iload hx hb dX1_leaveOut_96 (lv_at hl 0 rfl) ?_
                obtain ⟨hq17, hrun⟩ := chk9 hrun
                refine va_iald hx hb hK hP 24 22 rfl rfl (ixb_in hq17) dX1_leaveOut_98 ?_
                rcases br9 hrun with ⟨hc18, hrun⟩ | ⟨hc18, hrun⟩
                · refine lv_if_ne (tgt := 109) hx hb dX1_leaveOut_99 (by decide) (fun c => absurd hc18 c) (fun _ => ?_)
                  exact J102 _ _ _ hrun hP hD hK hS (lv_sub hl [2, 3, 4, 1, 5] rfl)
                · refine lv_if_ne (tgt := 109) hx hb dX1_leaveOut_99 (by decide) (fun _ => ?_) (fun c => absurd c hc18)
                  exact J109 p0w_62 p0_2w_62 _ _ _ hrun hP hD hK hS (lv_sub hl [2, 3, 4, 1] rfl)
        obtain ⟨o62, hc62, hrun⟩ := bnd9 hrun
        refine L62 NF (o_10.1) (o_10.2) p0_2w_2 o62 _ _ _ hc62 hP hD hK hS (lv_sub hl [1, 2, 3, 0] rfl) ?_
        intro H locs ls hP hD hK hS hl
        have hl := hl
        refine lv_iinc (v := (v2_2 + 1)) (lv' := [(2, .int (v2_2 + 1)), (0, .ref (p0a 0)), (1, .ref p1a)]) hx hb dX1_leaveOut_115 hl (k := 2) rfl rfl (by decide) rfl (fun ls hl => ?_)
        refine lv_goto (tgt := 2) hx hb dX1_leaveOut_118 (by decide) ?_
        exact IH2 (v2_2 + 1) (o62.1) (o62.2) o2 _ _ _ hrun hP hD hK hS (lv_sub hl [1, 2, 0] rfl) hk2
  obtain ⟨o2, hc2, hrun⟩ := bnd9 hrun
  refine L2 NF 0 p0w p0_2w o2 _ _ _ hc2 hP hD hK hS (lv_sub hl [1, 2, 0] rfl) ?_
  intro H locs ls hP hD hK hS hl
  have hl := hl
  have ho9 : ((o2.1), (o2.2)) = o := Option.some.inj hrun
  have hP9 : va_P (dC, dI) cls (List.flatten ([(oX1 (p0a 0) p0a p0k p0n (o.1) p0l), (oX9 (p0a 3) p0_2a p0_2k p0_2n (o.2)), [(p1a, .inl (p1k, p1n, .inl p1f))]] : List va_W)) H := by first | exact hP | (rw [← ho9]; exact hP)
  have hD9 : va_D A (List.flatten ([(oX1 (p0a 0) p0a p0k p0n (o.1) p0l), (oX9 (p0a 3) p0_2a p0_2k p0_2n (o.2)), [(p1a, .inl (p1k, p1n, .inl p1f))]] : List va_W)) := by first | exact hD | (rw [← ho9]; exact hD)
  subst hQ
  exact W.vret hx hb hr (fun t ht hW => ⟨⟨(), rfl, trivial, ⟨by rw [ht]; exact hP9, va_K.moved hW.alike hK, hD9⟩⟩, hS.F ht⟩) hS.2.2 dX1_leaveOut_121
def fX1_setTake (p0n : Nat → Nat) (p0w : ST) (p1 : Int32) (p2 : Int32) (p3 : Int32) : Option ST := (if ixb ((p1 * 60) + p2) (p0n 21) = true then (lt9 (upw p0w 21 (nn ((p1 * 60) + p2)) p3) fun (w2 : ST) => some w2) else none)
set_option maxHeartbeats 16000000 in
set_option maxRecDepth 100000 in
theorem kX1_setTake {zs : ZS} (l : Launch) (dC : Nat → ClassId) (dI : Nat → Nat → Nat) (p0a : Nat → Nat) (p0k : Nat → ClassId) (p0n : Nat → Nat) (p0w : ST) (p0l : SL) (p1 : Int32) (p2 : Int32) (p3 : Int32) (sz : Nat) (o : ST) (hrun : fX1_setTake p0n p0w p1 p2 p3 = some o) : Met l yX1_setTake (wz yX1_setTake cX1_setTake 4 (Option.none : Option Jvm.ClassFile.FieldType)) ({ frames := 0, cells := 0, slots := 0, locals := 0 } : Room) (va_Pc [.ref (p0a 0), .int p1, .int p2, .int p3] (PRE zs dC dI (List.flatten ([(oX1 (p0a 0) p0a p0k p0n p0w p0l)] : List va_W)) (List.flatten ([(tX1 p0k)] : List (List (ClassId × FieldType)))) sz)) (va_Qv (fun (_ : Unit) => True) (fun _ t => POST dC dI (List.flatten ([(oX1 (p0a 0) p0a p0k p0n o p0l)] : List va_W)) (List.flatten ([(tX1 p0k)] : List (List (ClassId × FieldType)))) (va_A (List.flatten ([(oX1 (p0a 0) p0a p0k p0n p0w p0l)] : List va_W)) sz) t) (va_A (List.flatten ([(oX1 (p0a 0) p0a p0k p0n p0w p0l)] : List va_W)) sz)) 0 0 (va_A (List.flatten ([(oX1 (p0a 0) p0a p0k p0n p0w p0l)] : List va_W)) sz) := by
  refine Met.ofW (cc := cX1_setTake) (maxL := 4) (ret := (Option.none : Option Jvm.ClassFile.FieldType)) (by decide) rfl ?_
  intro p e s m args below meth c s₁ B hml hv
  obtain ⟨rfl, hsz, hP, hK, hD0, hE⟩ := hv
  have hx := B.exec
  have hb := B.bytes
  have hr := B.returns
  have hts0 := atoms_spec (ws := wz yX1_setTake cX1_setTake 4 (Option.none : Option Jvm.ClassFile.FieldType)) B.pre
  have hts : ∀ w ∈ gw, w.before _ s = true := fun w h => hts0 w (List.mem_cons_of_mem _ h)
  have hown : s.vm.findClass RX1 = some m.cls := findClass_of_methodNamed B.named
  have hlocks := B.notSynchronized
  subst hsz
  have hD := hD0.self (sz := s.heap.size)
  refine gQ9 ?_
  intro Q hQ
  generalize hAe : va_A (List.flatten ([(oX1 (p0a 0) p0a p0k p0n p0w p0l)] : List va_W)) s.heap.size = A at hD hE hQ
  have hA : ∀ q : Nat, s.heap.size ≤ q → A q := fun q h => by rw [← hAe]; exact Or.inr h
  have hS : va_S A s.heap s.heap [] := va_S.rf
  have hP : va_P (dC, dI) cls (List.flatten ([(oX1 (p0a 0) p0a p0k p0n p0w p0l)] : List va_W)) s.heap := hP
  have hl := lv_entry ([.ref (p0a 0), .int p1, .int p2, .int p3]) (n := 4) (Nat.le_of_ble_eq_true rfl)
  rw [lg_entry_eq]
  generalize (lg_sl ([.ref (p0a 0), .int p1, .int p2, .int p3]) ++ List.replicate (4 - (lg_sl ([.ref (p0a 0), .int p1, .int p2, .int p3])).length) Slot.unset).toArray = ls at hl ⊢
  have hl : lv_has ls 4 [(0, .ref (p0a 0)), (1, .int p1), (2, .int p2), (3, .int p3)] := hl
  obtain ⟨H, hHe⟩ : ∃ H, H = s.heap := ⟨_, rfl⟩
  obtain ⟨locs, hle⟩ : ∃ locs : List Loc, locs = [] := ⟨_, rfl⟩
  rw [← hHe] at hP
  have hS : va_S A s.heap H locs := by rw [hHe, hle]; exact hS
  show W p l e ({ frames := 0, cells := 0, slots := 0, locals := 0 } : Room) s m ([.ref (p0a 0), .int p1, .int p2, .int p3] : List Value).toArray below meth c s.heap [] 0 0 Q (F0 m 0 ls [])
  rw [← hle]
  refine wH9 hHe ?_
  unfold fX1_setTake at hrun
  refine lv_aload_n hx hb dX1_setTake_0 rfl (lv_at hl 0 rfl) ?_
  refine va_get (D := (dC, dI)) (ci := 4) (v := .ref (p0a 21)) (C := RX1) (T := TX1) (N := 21) hx hb hts i_X1 hown hK hP 0 rfl rfl 20 (by decide) (hts _ qw131) (fun _ h9 => h9) rfl dX1_setTake_1 ?_
  refine lv_iload_n hx hb dX1_setTake_4 rfl (lv_at hl 1 rfl) ?_
  refine lv_bipush (v := 60) hx hb dX1_setTake_5 (by decide) ?_
  refine lv_imul hx hb dX1_setTake_7 ?_
  refine lv_iload_n hx hb dX1_setTake_8 rfl (lv_at hl 2 rfl) ?_
  refine lv_iadd hx hb dX1_setTake_9 ?_
  refine lv_iload_n hx hb dX1_setTake_10 rfl (lv_at hl 3 rfl) ?_
  obtain ⟨hq1, hrun⟩ := chk9 hrun
  refine va_iast hx hb hK hP hD hS 17 16 rfl rfl (ixb_in hq1) dX1_setTake_11 (fun H locs hP hD hS => ?_)
  have hP : va_P (dC, dI) cls (List.flatten ([(oX1 (p0a 0) p0a p0k p0n (upw p0w 21 (nn ((p1 * 60) + p2)) p3) p0l)] : List va_W)) H := hP
  have hD : va_D A (List.flatten ([(oX1 (p0a 0) p0a p0k p0n (upw p0w 21 (nn ((p1 * 60) + p2)) p3) p0l)] : List va_W)) := hD
  obtain ⟨w2, ew2, hrun⟩ := let9 hrun
  rw [← ew2] at hP hD
  have ho9 : w2 = o := Option.some.inj hrun
  have hP9 : va_P (dC, dI) cls (List.flatten ([(oX1 (p0a 0) p0a p0k p0n o p0l)] : List va_W)) H := by first | exact hP | (rw [← ho9]; exact hP)
  have hD9 : va_D A (List.flatten ([(oX1 (p0a 0) p0a p0k p0n o p0l)] : List va_W)) := by first | exact hD | (rw [← ho9]; exact hD)
  subst hQ
  exact W.vret hx hb hr (fun t ht hW => ⟨⟨(), rfl, trivial, ⟨by rw [ht]; exact hP9, va_K.moved hW.alike hK, hD9⟩⟩, hS.F ht⟩) hS.2.2 dX1_setTake_12
def fX1_take (p0n : Nat → Nat) (p0w : ST) (p1 : Int32) (p2 : Int32) : Option Int32 := (if ixb ((p1 * 60) + p2) (p0n 21) = true then some (p0w 21 (nn ((p1 * 60) + p2))) else none)
set_option maxHeartbeats 16000000 in
set_option maxRecDepth 100000 in
theorem kX1_take {zs : ZS} (l : Launch) (dC : Nat → ClassId) (dI : Nat → Nat → Nat) (p0a : Nat → Nat) (p0k : Nat → ClassId) (p0n : Nat → Nat) (p0w : ST) (p0l : SL) (p1 : Int32) (p2 : Int32) (sz : Nat) (o : Int32) (hrun : fX1_take p0n p0w p1 p2 = some o) : Met l yX1_take (wz yX1_take cX1_take 3 (Option.some Jvm.ClassFile.FieldType.int)) ({ frames := 0, cells := 0, slots := 0, locals := 0 } : Room) (va_Pc [.ref (p0a 0), .int p1, .int p2] (PRE zs dC dI (List.flatten ([(oX1 (p0a 0) p0a p0k p0n p0w p0l)] : List va_W)) (List.flatten ([(tX1 p0k)] : List (List (ClassId × FieldType)))) sz)) (va_Qi (fun (r : Int32) (_ : Unit) => r = o) (fun _ t => POST dC dI (List.flatten ([(oX1 (p0a 0) p0a p0k p0n p0w p0l)] : List va_W)) (List.flatten ([(tX1 p0k)] : List (List (ClassId × FieldType)))) (va_A (List.flatten ([(oX1 (p0a 0) p0a p0k p0n p0w p0l)] : List va_W)) sz) t) (va_A (List.flatten ([(oX1 (p0a 0) p0a p0k p0n p0w p0l)] : List va_W)) sz)) 0 0 (va_A (List.flatten ([(oX1 (p0a 0) p0a p0k p0n p0w p0l)] : List va_W)) sz) := by
  refine Met.ofW (cc := cX1_take) (maxL := 3) (ret := (Option.some Jvm.ClassFile.FieldType.int)) (by decide) rfl ?_
  intro p e s m args below meth c s₁ B hml hv
  obtain ⟨rfl, hsz, hP, hK, hD0, hE⟩ := hv
  have hx := B.exec
  have hb := B.bytes
  have hr := B.returns
  have hts0 := atoms_spec (ws := wz yX1_take cX1_take 3 (Option.some Jvm.ClassFile.FieldType.int)) B.pre
  have hts : ∀ w ∈ gw, w.before _ s = true := fun w h => hts0 w (List.mem_cons_of_mem _ h)
  have hown : s.vm.findClass RX1 = some m.cls := findClass_of_methodNamed B.named
  have hlocks := B.notSynchronized
  subst hsz
  have hD := hD0.self (sz := s.heap.size)
  refine gQ9 ?_
  intro Q hQ
  generalize hAe : va_A (List.flatten ([(oX1 (p0a 0) p0a p0k p0n p0w p0l)] : List va_W)) s.heap.size = A at hD hE hQ
  have hA : ∀ q : Nat, s.heap.size ≤ q → A q := fun q h => by rw [← hAe]; exact Or.inr h
  have hS : va_S A s.heap s.heap [] := va_S.rf
  have hP : va_P (dC, dI) cls (List.flatten ([(oX1 (p0a 0) p0a p0k p0n p0w p0l)] : List va_W)) s.heap := hP
  have hl := lv_entry ([.ref (p0a 0), .int p1, .int p2]) (n := 3) (Nat.le_of_ble_eq_true rfl)
  rw [lg_entry_eq]
  generalize (lg_sl ([.ref (p0a 0), .int p1, .int p2]) ++ List.replicate (3 - (lg_sl ([.ref (p0a 0), .int p1, .int p2])).length) Slot.unset).toArray = ls at hl ⊢
  have hl : lv_has ls 3 [(0, .ref (p0a 0)), (1, .int p1), (2, .int p2)] := hl
  obtain ⟨H, hHe⟩ : ∃ H, H = s.heap := ⟨_, rfl⟩
  obtain ⟨locs, hle⟩ : ∃ locs : List Loc, locs = [] := ⟨_, rfl⟩
  rw [← hHe] at hP
  have hS : va_S A s.heap H locs := by rw [hHe, hle]; exact hS
  show W p l e ({ frames := 0, cells := 0, slots := 0, locals := 0 } : Room) s m ([.ref (p0a 0), .int p1, .int p2] : List Value).toArray below meth c s.heap [] 0 0 Q (F0 m 0 ls [])
  rw [← hle]
  refine wH9 hHe ?_
  unfold fX1_take at hrun
  refine lv_aload_n hx hb dX1_take_0 rfl (lv_at hl 0 rfl) ?_
  refine va_get (D := (dC, dI)) (ci := 4) (v := .ref (p0a 21)) (C := RX1) (T := TX1) (N := 21) hx hb hts i_X1 hown hK hP 0 rfl rfl 20 (by decide) (hts _ qw131) (fun _ h9 => h9) rfl dX1_take_1 ?_
  refine lv_iload_n hx hb dX1_take_4 rfl (lv_at hl 1 rfl) ?_
  refine lv_bipush (v := 60) hx hb dX1_take_5 (by decide) ?_
  refine lv_imul hx hb dX1_take_7 ?_
  refine lv_iload_n hx hb dX1_take_8 rfl (lv_at hl 2 rfl) ?_
  refine lv_iadd hx hb dX1_take_9 ?_
  obtain ⟨hq1, hrun⟩ := chk9 hrun
  refine va_iald hx hb hK hP 17 16 rfl rfl (ixb_in hq1) dX1_take_10 ?_
  have ho9 : (p0w 21 (nn ((p1 * 60) + p2))) = o := Option.some.inj hrun
  have hP9 : va_P (dC, dI) cls (List.flatten ([(oX1 (p0a 0) p0a p0k p0n p0w p0l)] : List va_W)) H := by first | exact hP | (rw [← ho9]; exact hP)
  have hD9 : va_D A (List.flatten ([(oX1 (p0a 0) p0a p0k p0n p0w p0l)] : List va_W)) := by first | exact hD | (rw [← ho9]; exact hD)
  subst hQ
  exact W.iret (v := (p0w 21 (nn ((p1 * 60) + p2)))) hx hb hr (fun t ht hW => ⟨⟨(p0w 21 (nn ((p1 * 60) + p2))), (), rfl, (by rw [← ho9]), ⟨by rw [ht]; exact hP9, va_K.moved hW.alike hK, hD9⟩⟩, hS.F ht⟩) hS.2.2 dX1_take_11
def fX1_wayFrom (p0w : ST) (p1 : Int32) (p2 : Int32) : Option Int32 := (if ixb p1 61 = true then (if ixb ((p0w 14 (nn p1)) + p2) 120 = true then some (p0w 15 (nn ((p0w 14 (nn p1)) + p2))) else none) else none)
set_option maxHeartbeats 16000000 in
set_option maxRecDepth 100000 in
theorem kX1_wayFrom {zs : ZS} (l : Launch) (dC : Nat → ClassId) (dI : Nat → Nat → Nat) (p0a : Nat → Nat) (p0k : Nat → ClassId) (p0n : Nat → Nat) (p0w : ST) (p0l : SL) (p1 : Int32) (p2 : Int32) (sz : Nat) (o : Int32) (hrun : fX1_wayFrom p0w p1 p2 = some o) : Met l yX1_wayFrom (wz yX1_wayFrom cX1_wayFrom 3 (Option.some Jvm.ClassFile.FieldType.int)) ({ frames := 0, cells := 0, slots := 0, locals := 0 } : Room) (va_Pc [.ref (p0a 0), .int p1, .int p2] (PRE zs dC dI (List.flatten ([(oX1 (p0a 0) p0a p0k p0n p0w p0l)] : List va_W)) (List.flatten ([(tX1 p0k)] : List (List (ClassId × FieldType)))) sz)) (va_Qi (fun (r : Int32) (_ : Unit) => r = o) (fun _ t => POST dC dI (List.flatten ([(oX1 (p0a 0) p0a p0k p0n p0w p0l)] : List va_W)) (List.flatten ([(tX1 p0k)] : List (List (ClassId × FieldType)))) (va_A (List.flatten ([(oX1 (p0a 0) p0a p0k p0n p0w p0l)] : List va_W)) sz) t) (va_A (List.flatten ([(oX1 (p0a 0) p0a p0k p0n p0w p0l)] : List va_W)) sz)) 0 0 (va_A (List.flatten ([(oX1 (p0a 0) p0a p0k p0n p0w p0l)] : List va_W)) sz) := by
  refine Met.ofW (cc := cX1_wayFrom) (maxL := 3) (ret := (Option.some Jvm.ClassFile.FieldType.int)) (by decide) rfl ?_
  intro p e s m args below meth c s₁ B hml hv
  obtain ⟨rfl, hsz, hP, hK, hD0, hE⟩ := hv
  have hx := B.exec
  have hb := B.bytes
  have hr := B.returns
  have hts0 := atoms_spec (ws := wz yX1_wayFrom cX1_wayFrom 3 (Option.some Jvm.ClassFile.FieldType.int)) B.pre
  have hts : ∀ w ∈ gw, w.before _ s = true := fun w h => hts0 w (List.mem_cons_of_mem _ h)
  have hown : s.vm.findClass RX1 = some m.cls := findClass_of_methodNamed B.named
  have hlocks := B.notSynchronized
  subst hsz
  have hD := hD0.self (sz := s.heap.size)
  refine gQ9 ?_
  intro Q hQ
  generalize hAe : va_A (List.flatten ([(oX1 (p0a 0) p0a p0k p0n p0w p0l)] : List va_W)) s.heap.size = A at hD hE hQ
  have hA : ∀ q : Nat, s.heap.size ≤ q → A q := fun q h => by rw [← hAe]; exact Or.inr h
  have hS : va_S A s.heap s.heap [] := va_S.rf
  have hP : va_P (dC, dI) cls (List.flatten ([(oX1 (p0a 0) p0a p0k p0n p0w p0l)] : List va_W)) s.heap := hP
  have hl := lv_entry ([.ref (p0a 0), .int p1, .int p2]) (n := 3) (Nat.le_of_ble_eq_true rfl)
  rw [lg_entry_eq]
  generalize (lg_sl ([.ref (p0a 0), .int p1, .int p2]) ++ List.replicate (3 - (lg_sl ([.ref (p0a 0), .int p1, .int p2])).length) Slot.unset).toArray = ls at hl ⊢
  have hl : lv_has ls 3 [(0, .ref (p0a 0)), (1, .int p1), (2, .int p2)] := hl
  obtain ⟨H, hHe⟩ : ∃ H, H = s.heap := ⟨_, rfl⟩
  obtain ⟨locs, hle⟩ : ∃ locs : List Loc, locs = [] := ⟨_, rfl⟩
  rw [← hHe] at hP
  have hS : va_S A s.heap H locs := by rw [hHe, hle]; exact hS
  show W p l e ({ frames := 0, cells := 0, slots := 0, locals := 0 } : Room) s m ([.ref (p0a 0), .int p1, .int p2] : List Value).toArray below meth c s.heap [] 0 0 Q (F0 m 0 ls [])
  rw [← hle]
  refine wH9 hHe ?_
  unfold fX1_wayFrom at hrun
  refine lv_aload_n hx hb dX1_wayFrom_0 rfl (lv_at hl 0 rfl) ?_
  refine va_get (D := (dC, dI)) (ci := 4) (v := .ref (p0a 15)) (C := RX1) (T := TX1) (N := 21) hx hb hts i_X1 hown hK hP 0 rfl rfl 14 (by decide) (hts _ qw168) (fun _ h9 => h9) rfl dX1_wayFrom_1 ?_
  refine lv_aload_n hx hb dX1_wayFrom_4 rfl (lv_at hl 0 rfl) ?_
  refine va_get (D := (dC, dI)) (ci := 4) (v := .ref (p0a 14)) (C := RX1) (T := TX1) (N := 21) hx hb hts i_X1 hown hK hP 0 rfl rfl 13 (by decide) (hts _ qw167) (fun _ h9 => h9) rfl dX1_wayFrom_5 ?_
  refine lv_iload_n hx hb dX1_wayFrom_8 rfl (lv_at hl 1 rfl) ?_
  obtain ⟨hq1, hrun⟩ := chk9 hrun
  refine va_iald hx hb hK hP 11 10 rfl rfl (ixb_in hq1) dX1_wayFrom_9 ?_
  refine lv_iload_n hx hb dX1_wayFrom_10 rfl (lv_at hl 2 rfl) ?_
  refine lv_iadd hx hb dX1_wayFrom_11 ?_
  obtain ⟨hq2, hrun⟩ := chk9 hrun
  refine va_iald hx hb hK hP 12 11 rfl rfl (ixb_in hq2) dX1_wayFrom_12 ?_
  have ho9 : (p0w 15 (nn ((p0w 14 (nn p1)) + p2))) = o := Option.some.inj hrun
  have hP9 : va_P (dC, dI) cls (List.flatten ([(oX1 (p0a 0) p0a p0k p0n p0w p0l)] : List va_W)) H := by first | exact hP | (rw [← ho9]; exact hP)
  have hD9 : va_D A (List.flatten ([(oX1 (p0a 0) p0a p0k p0n p0w p0l)] : List va_W)) := by first | exact hD | (rw [← ho9]; exact hD)
  subst hQ
  exact W.iret (v := (p0w 15 (nn ((p0w 14 (nn p1)) + p2)))) hx hb hr (fun t ht hW => ⟨⟨(p0w 15 (nn ((p0w 14 (nn p1)) + p2))), (), rfl, (by rw [← ho9]), ⟨by rw [ht]; exact hP9, va_K.moved hW.alike hK, hD9⟩⟩, hS.F ht⟩) hS.2.2 dX1_wayFrom_13
def fX1_waysTo (p0w : ST) (p1 : Int32) : Option Int32 := (if ixb (p1 + 1) 61 = true then (if ixb p1 61 = true then some ((p0w 14 (nn (p1 + 1))) - (p0w 14 (nn p1))) else none) else none)
set_option maxHeartbeats 16000000 in
set_option maxRecDepth 100000 in
theorem kX1_waysTo {zs : ZS} (l : Launch) (dC : Nat → ClassId) (dI : Nat → Nat → Nat) (p0a : Nat → Nat) (p0k : Nat → ClassId) (p0n : Nat → Nat) (p0w : ST) (p0l : SL) (p1 : Int32) (sz : Nat) (o : Int32) (hrun : fX1_waysTo p0w p1 = some o) : Met l yX1_waysTo (wz yX1_waysTo cX1_waysTo 2 (Option.some Jvm.ClassFile.FieldType.int)) ({ frames := 0, cells := 0, slots := 0, locals := 0 } : Room) (va_Pc [.ref (p0a 0), .int p1] (PRE zs dC dI (List.flatten ([(oX1 (p0a 0) p0a p0k p0n p0w p0l)] : List va_W)) (List.flatten ([(tX1 p0k)] : List (List (ClassId × FieldType)))) sz)) (va_Qi (fun (r : Int32) (_ : Unit) => r = o) (fun _ t => POST dC dI (List.flatten ([(oX1 (p0a 0) p0a p0k p0n p0w p0l)] : List va_W)) (List.flatten ([(tX1 p0k)] : List (List (ClassId × FieldType)))) (va_A (List.flatten ([(oX1 (p0a 0) p0a p0k p0n p0w p0l)] : List va_W)) sz) t) (va_A (List.flatten ([(oX1 (p0a 0) p0a p0k p0n p0w p0l)] : List va_W)) sz)) 0 0 (va_A (List.flatten ([(oX1 (p0a 0) p0a p0k p0n p0w p0l)] : List va_W)) sz) := by
  refine Met.ofW (cc := cX1_waysTo) (maxL := 2) (ret := (Option.some Jvm.ClassFile.FieldType.int)) (by decide) rfl ?_
  intro p e s m args below meth c s₁ B hml hv
  obtain ⟨rfl, hsz, hP, hK, hD0, hE⟩ := hv
  have hx := B.exec
  have hb := B.bytes
  have hr := B.returns
  have hts0 := atoms_spec (ws := wz yX1_waysTo cX1_waysTo 2 (Option.some Jvm.ClassFile.FieldType.int)) B.pre
  have hts : ∀ w ∈ gw, w.before _ s = true := fun w h => hts0 w (List.mem_cons_of_mem _ h)
  have hown : s.vm.findClass RX1 = some m.cls := findClass_of_methodNamed B.named
  have hlocks := B.notSynchronized
  subst hsz
  have hD := hD0.self (sz := s.heap.size)
  refine gQ9 ?_
  intro Q hQ
  generalize hAe : va_A (List.flatten ([(oX1 (p0a 0) p0a p0k p0n p0w p0l)] : List va_W)) s.heap.size = A at hD hE hQ
  have hA : ∀ q : Nat, s.heap.size ≤ q → A q := fun q h => by rw [← hAe]; exact Or.inr h
  have hS : va_S A s.heap s.heap [] := va_S.rf
  have hP : va_P (dC, dI) cls (List.flatten ([(oX1 (p0a 0) p0a p0k p0n p0w p0l)] : List va_W)) s.heap := hP
  have hl := lv_entry ([.ref (p0a 0), .int p1]) (n := 2) (Nat.le_of_ble_eq_true rfl)
  rw [lg_entry_eq]
  generalize (lg_sl ([.ref (p0a 0), .int p1]) ++ List.replicate (2 - (lg_sl ([.ref (p0a 0), .int p1])).length) Slot.unset).toArray = ls at hl ⊢
  have hl : lv_has ls 2 [(0, .ref (p0a 0)), (1, .int p1)] := hl
  obtain ⟨H, hHe⟩ : ∃ H, H = s.heap := ⟨_, rfl⟩
  obtain ⟨locs, hle⟩ : ∃ locs : List Loc, locs = [] := ⟨_, rfl⟩
  rw [← hHe] at hP
  have hS : va_S A s.heap H locs := by rw [hHe, hle]; exact hS
  show W p l e ({ frames := 0, cells := 0, slots := 0, locals := 0 } : Room) s m ([.ref (p0a 0), .int p1] : List Value).toArray below meth c s.heap [] 0 0 Q (F0 m 0 ls [])
  rw [← hle]
  refine wH9 hHe ?_
  unfold fX1_waysTo at hrun
  refine lv_aload_n hx hb dX1_waysTo_0 rfl (lv_at hl 0 rfl) ?_
  refine va_get (D := (dC, dI)) (ci := 4) (v := .ref (p0a 14)) (C := RX1) (T := TX1) (N := 21) hx hb hts i_X1 hown hK hP 0 rfl rfl 13 (by decide) (hts _ qw167) (fun _ h9 => h9) rfl dX1_waysTo_1 ?_
  refine lv_iload_n hx hb dX1_waysTo_4 rfl (lv_at hl 1 rfl) ?_
  refine lv_iconst (v := 1) hx hb dX1_waysTo_5 (by decide) ?_
  refine lv_iadd hx hb dX1_waysTo_6 ?_
  obtain ⟨hq1, hrun⟩ := chk9 hrun
  refine va_iald hx hb hK hP 11 10 rfl rfl (ixb_in hq1) dX1_waysTo_7 ?_
  refine lv_aload_n hx hb dX1_waysTo_8 rfl (lv_at hl 0 rfl) ?_
  refine va_get (D := (dC, dI)) (ci := 4) (v := .ref (p0a 14)) (C := RX1) (T := TX1) (N := 21) hx hb hts i_X1 hown hK hP 0 rfl rfl 13 (by decide) (hts _ qw167) (fun _ h9 => h9) rfl dX1_waysTo_9 ?_
  refine lv_iload_n hx hb dX1_waysTo_12 rfl (lv_at hl 1 rfl) ?_
  obtain ⟨hq2, hrun⟩ := chk9 hrun
  refine va_iald hx hb hK hP 11 10 rfl rfl (ixb_in hq2) dX1_waysTo_13 ?_
  refine lv_isub hx hb dX1_waysTo_14 ?_
  have ho9 : ((p0w 14 (nn (p1 + 1))) - (p0w 14 (nn p1))) = o := Option.some.inj hrun
  have hP9 : va_P (dC, dI) cls (List.flatten ([(oX1 (p0a 0) p0a p0k p0n p0w p0l)] : List va_W)) H := by first | exact hP | (rw [← ho9]; exact hP)
  have hD9 : va_D A (List.flatten ([(oX1 (p0a 0) p0a p0k p0n p0w p0l)] : List va_W)) := by first | exact hD | (rw [← ho9]; exact hD)
  subst hQ
  exact W.iret (v := ((p0w 14 (nn (p1 + 1))) - (p0w 14 (nn p1)))) hx hb hr (fun t ht hW => ⟨⟨((p0w 14 (nn (p1 + 1))) - (p0w 14 (nn p1))), (), rfl, (by rw [← ho9]), ⟨by rw [ht]; exact hP9, va_K.moved hW.alike hK, hD9⟩⟩, hS.F ht⟩) hS.2.2 dX1_waysTo_15
def fX11_holds_J15 (y0_15 : Int32) : Option Int32 := (if y0_15 = 0 ∨ y0_15 = 1 then some y0_15 else none)
def fX11_holds (p0 : Int64) (p1 : Int32) : Option Int32 := (if (lg_cmp ((((p0 : Int64).toUInt64 >>> ((p1 : Int32).toInt64.toUInt64 &&& Int64.toUInt64 63)).toInt64) &&& (1 : Int64)) (0 : Int64)) = 0 then (fX11_holds_J15 0) else (fX11_holds_J15 1))
set_option maxHeartbeats 16000000 in
set_option maxRecDepth 100000 in
theorem kX11_holds {zs : ZS} (l : Launch) (dC : Nat → ClassId) (dI : Nat → Nat → Nat) (p0 : Int64) (p1 : Int32) (sz : Nat) (o : Int32) (hrun : fX11_holds p0 p1 = some o) : Met l yX11_holds (wz yX11_holds cX11_holds 3 (Option.some Jvm.ClassFile.FieldType.boolean)) ({ frames := 0, cells := 0, slots := 0, locals := 0 } : Room) (va_Pc [.long p0, .int p1] (PRE zs dC dI (List.flatten ([] : List va_W)) (List.flatten ([] : List (List (ClassId × FieldType)))) sz)) (va_Qi (fun (r : Int32) (_ : Unit) => r = o) (fun _ t => POST dC dI (List.flatten ([] : List va_W)) (List.flatten ([] : List (List (ClassId × FieldType)))) (va_A (List.flatten ([] : List va_W)) sz) t) (va_A (List.flatten ([] : List va_W)) sz)) 0 0 (va_A (List.flatten ([] : List va_W)) sz) := by
  refine Met.ofW (cc := cX11_holds) (maxL := 3) (ret := (Option.some Jvm.ClassFile.FieldType.boolean)) (by decide) rfl ?_
  intro p e s m args below meth c s₁ B hml hv
  obtain ⟨rfl, hsz, hP, hK, hD0, hE⟩ := hv
  have hx := B.exec
  have hb := B.bytes
  have hr := B.returns
  have hts0 := atoms_spec (ws := wz yX11_holds cX11_holds 3 (Option.some Jvm.ClassFile.FieldType.boolean)) B.pre
  have hts : ∀ w ∈ gw, w.before _ s = true := fun w h => hts0 w (List.mem_cons_of_mem _ h)
  have hown : s.vm.findClass RX11 = some m.cls := findClass_of_methodNamed B.named
  have hlocks := B.notSynchronized
  subst hsz
  have hD := hD0.self (sz := s.heap.size)
  refine gQ9 ?_
  intro Q hQ
  generalize hAe : va_A (List.flatten ([] : List va_W)) s.heap.size = A at hD hE hQ
  have hA : ∀ q : Nat, s.heap.size ≤ q → A q := fun q h => by rw [← hAe]; exact Or.inr h
  have hS : va_S A s.heap s.heap [] := va_S.rf
  have hP : va_P (dC, dI) cls (List.flatten ([] : List va_W)) s.heap := hP
  have hl := lv_entry ([.long p0, .int p1]) (n := 3) (Nat.le_of_ble_eq_true rfl)
  rw [lg_entry_eq]
  generalize (lg_sl ([.long p0, .int p1]) ++ List.replicate (3 - (lg_sl ([.long p0, .int p1])).length) Slot.unset).toArray = ls at hl ⊢
  have hl : lv_has ls 3 [(0, .long p0), (2, .int p1)] := hl
  obtain ⟨H, hHe⟩ : ∃ H, H = s.heap := ⟨_, rfl⟩
  obtain ⟨locs, hle⟩ : ∃ locs : List Loc, locs = [] := ⟨_, rfl⟩
  rw [← hHe] at hP
  have hS : va_S A s.heap H locs := by rw [hHe, hle]; exact hS
  show W p l e ({ frames := 0, cells := 0, slots := 0, locals := 0 } : Room) s m ([.long p0, .int p1] : List Value).toArray below meth c s.heap [] 0 0 Q (F0 m 0 ls [])
  rw [← hle]
  refine wH9 hHe ?_
  unfold fX11_holds at hrun
  refine lv_lload_n hx hb dX11_holds_0 rfl (lv_at hl 0 rfl) ?_
  refine lv_iload_n hx hb dX11_holds_1 rfl (lv_at hl 1 rfl) ?_
  refine lv_lushr (v := (((p0 : Int64).toUInt64 >>> ((p1 : Int32).toInt64.toUInt64 &&& Int64.toUInt64 63)).toInt64)) hx hb dX11_holds_2 rfl ?_
  refine lv_lconst (v := 1) hx hb dX11_holds_3 (by decide) ?_
  refine lv_land hx hb dX11_holds_4 ?_
  refine lv_lconst (v := 0) hx hb dX11_holds_5 (by decide) ?_
  refine W.lcmp hx hb dX11_holds_6 ?_
  have J15 : ∀ (y0_15 : Int32) (H : Heap) (locs : List Loc) (ls : Array Slot), (fX11_holds_J15 y0_15) = some o → va_P (dC, dI) cls (List.flatten ([] : List va_W)) H → va_D A (List.flatten ([] : List va_W)) → va_K (dC, dI) cls (List.flatten ([] : List (List (ClassId × FieldType)))) s → va_S A s.heap H locs → lv_has ls 3 [] → W p l e ({ frames := 0, cells := 0, slots := 0, locals := 0 } : Room) s m ([.long p0, .int p1] : List Value).toArray below meth c H locs 0 0 Q (F0 m 15 ls [.int y0_15]) := by
    intro y0_15 H locs ls hrun hP hD hK hS hl 
    unfold fX11_holds_J15 at hrun
    obtain ⟨hz9, hrun⟩ := chk9 hrun
    have ho9 : y0_15 = o := Option.some.inj hrun
    have hP9 : va_P (dC, dI) cls (List.flatten ([] : List va_W)) H := by first | exact hP | (rw [← ho9]; exact hP)
    have hD9 : va_D A (List.flatten ([] : List va_W)) := by first | exact hD | (rw [← ho9]; exact hD)
    subst hQ
    exact W.zret (v := y0_15) hx hb hr (bz9 hz9) (fun t ht hW => ⟨⟨y0_15, (), rfl, (by rw [← ho9]), ⟨by rw [ht]; exact hP9, va_K.moved hW.alike hK, hD9⟩⟩, hS.F ht⟩) hS.2.2 dX11_holds_15
  rcases br9 hrun with ⟨hc1, hrun⟩ | ⟨hc1, hrun⟩
  · refine lv_if_eq (tgt := 14) hx hb dX11_holds_7 (by decide) (fun _ => ?_) (fun c => absurd hc1 c)
    refine lv_iconst (v := 0) hx hb dX11_holds_14 (by decide) ?_
    exact J15 0 _ _ _ hrun hP hD hK hS (lv_sub hl [] rfl)
  · refine lv_if_eq (tgt := 14) hx hb dX11_holds_7 (by decide) (fun c => absurd c hc1) (fun _ => ?_)
    refine lv_iconst (v := 1) hx hb dX11_holds_10 (by decide) ?_
    refine lv_goto (tgt := 15) hx hb dX11_holds_11 (by decide) ?_
    exact J15 1 _ _ _ hrun hP hD hK hS (lv_sub hl [] rfl)
def fX8_nearest_L4 (p0 : Int64) : Nat → Int32 → Option (Sum Int32 Unit)
  | 0 => fun _ => none
  | n_4 + 1 => fun v3_4 => (if v3_4 < 0 then some (Sum.inr ()) else ((fX11_holds p0 v3_4).bind fun (o_2 : Int32) => (if o_2 = 0 then ((fX8_nearest_L4 p0 n_4) (v3_4 + (-1))) else some (Sum.inl v3_4))))
def fX8_nearest (p0 : Int64) (p1 : Int32) : Option Int32 := ((fX8_nearest_L4 p0 NF (p1 - 1)).bind fun (o4 : (Sum Int32 Unit)) => Sum.elim (fun r => some r) (fun (t4 : Unit) => some (-1)) o4)
set_option maxHeartbeats 16000000 in
set_option maxRecDepth 100000 in
theorem kX8_nearest {zs : ZS} (l : Launch) (dC : Nat → ClassId) (dI : Nat → Nat → Nat) (p0 : Int64) (p1 : Int32) (sz : Nat) (o : Int32) (hrun : fX8_nearest p0 p1 = some o) : Met l yX8_nearest (wz yX8_nearest cX8_nearest 4 (Option.some Jvm.ClassFile.FieldType.int)) ({ frames := 1, cells := 0, slots := 0, locals := 22 } : Room) (va_Pc [.long p0, .int p1] (PRE zs dC dI (List.flatten ([] : List va_W)) (List.flatten ([] : List (List (ClassId × FieldType)))) sz)) (va_Qi (fun (r : Int32) (_ : Unit) => r = o) (fun _ t => POST dC dI (List.flatten ([] : List va_W)) (List.flatten ([] : List (List (ClassId × FieldType)))) (va_A (List.flatten ([] : List va_W)) sz) t) (va_A (List.flatten ([] : List va_W)) sz)) 0 0 (va_A (List.flatten ([] : List va_W)) sz) := by
  refine Met.ofW (cc := cX8_nearest) (maxL := 4) (ret := (Option.some Jvm.ClassFile.FieldType.int)) (by decide) rfl ?_
  intro p e s m args below meth c s₁ B hml hv
  obtain ⟨rfl, hsz, hP, hK, hD0, hE⟩ := hv
  have hx := B.exec
  have hb := B.bytes
  have hr := B.returns
  have hts0 := atoms_spec (ws := wz yX8_nearest cX8_nearest 4 (Option.some Jvm.ClassFile.FieldType.int)) B.pre
  have hts : ∀ w ∈ gw, w.before _ s = true := fun w h => hts0 w (List.mem_cons_of_mem _ h)
  have hown : s.vm.findClass RX8 = some m.cls := findClass_of_methodNamed B.named
  have hlocks := B.notSynchronized
  subst hsz
  have hD := hD0.self (sz := s.heap.size)
  refine gQ9 ?_
  intro Q hQ
  generalize hAe : va_A (List.flatten ([] : List va_W)) s.heap.size = A at hD hE hQ
  have hA : ∀ q : Nat, s.heap.size ≤ q → A q := fun q h => by rw [← hAe]; exact Or.inr h
  have hS : va_S A s.heap s.heap [] := va_S.rf
  have hP : va_P (dC, dI) cls (List.flatten ([] : List va_W)) s.heap := hP
  have hl := lv_entry ([.long p0, .int p1]) (n := 4) (Nat.le_of_ble_eq_true rfl)
  rw [lg_entry_eq]
  generalize (lg_sl ([.long p0, .int p1]) ++ List.replicate (4 - (lg_sl ([.long p0, .int p1])).length) Slot.unset).toArray = ls at hl ⊢
  have hl : lv_has ls 4 [(0, .long p0), (2, .int p1)] := hl
  obtain ⟨H, hHe⟩ : ∃ H, H = s.heap := ⟨_, rfl⟩
  obtain ⟨locs, hle⟩ : ∃ locs : List Loc, locs = [] := ⟨_, rfl⟩
  rw [← hHe] at hP
  have hS : va_S A s.heap H locs := by rw [hHe, hle]; exact hS
  show W p l e ({ frames := 1, cells := 0, slots := 0, locals := 22 } : Room) s m ([.long p0, .int p1] : List Value).toArray below meth c s.heap [] 0 0 Q (F0 m 0 ls [])
  rw [← hle]
  refine wH9 hHe ?_
  unfold fX8_nearest at hrun
  refine lv_iload_n hx hb dX8_nearest_0 rfl (lv_at hl 1 rfl) ?_
  refine lv_iconst (v := 1) hx hb dX8_nearest_1 (by decide) ?_
  refine lv_isub hx hb dX8_nearest_2 ?_
  refine lv_istore_n (lv' := [(3, .int (p1 - 1)), (0, .long p0), (2, .int p1)]) hx hb dX8_nearest_3 rfl hl (by decide) rfl (fun ls hl => ?_)
  have L4 : ∀ (n_4 : Nat) (v3_4 : Int32) (o4 : (Sum Int32 Unit)) (H : Heap) (locs : List Loc) (ls : Array Slot), (fX8_nearest_L4 p0 n_4) v3_4 = some o4 → va_P (dC, dI) cls (List.flatten ([] : List va_W)) H → va_D A (List.flatten ([] : List va_W)) → va_K (dC, dI) cls (List.flatten ([] : List (List (ClassId × FieldType)))) s → va_S A s.heap H locs → lv_has ls 4 [(0, .long p0), (3, .int v3_4)] → (∀ r, o4 = Sum.inl r → r = o) → (∀ (t4 : Unit), o4 = Sum.inr t4 → ∀ (H : Heap) (locs : List Loc) (ls : Array Slot), va_P (dC, dI) cls (List.flatten ([] : List va_W)) H → va_D A (List.flatten ([] : List va_W)) → va_K (dC, dI) cls (List.flatten ([] : List (List (ClassId × FieldType)))) s → va_S A s.heap H locs → lv_has ls 4 [] → W p l e ({ frames := 1, cells := 0, slots := 0, locals := 22 } : Room) s m ([.long p0, .int p1] : List Value).toArray below meth c H locs 0 0 Q (F0 m 24 ls [])) → W p l e ({ frames := 1, cells := 0, slots := 0, locals := 22 } : Room) s m ([.long p0, .int p1] : List Value).toArray below meth c H locs 0 0 Q (F0 m 4 ls []) := by
    intro n_4
    induction n_4 with
    | zero => intro v3_4 o4 H locs ls hrun; exact (no9 rfl hrun).elim
    | succ n_4 IH4 =>
      intro v3_4 o4 H locs ls hrun hP hD hK hS hl hr4 hk4
      unfold fX8_nearest_L4 at hrun
      refine lv_iload_n hx hb dX8_nearest_4 rfl (lv_at hl 1 rfl) ?_
      rcases br9 hrun with ⟨hc1, hrun⟩ | ⟨hc1, hrun⟩
      · refine lv_if_lt (tgt := 24) hx hb dX8_nearest_5 (by decide) (fun _ => ?_) (fun c => absurd hc1 c)
        obtain rfl := (Option.some.inj hrun)
        exact hk4 _ rfl _ _ _ hP hD hK hS (lv_sub hl [] rfl)
      · refine lv_if_lt (tgt := 24) hx hb dX8_nearest_5 (by decide) (fun c => absurd c hc1) (fun _ => ?_)
        refine lv_lload_n hx hb dX8_nearest_8 rfl (lv_at hl 0 rfl) ?_
        refine lv_iload_n hx hb dX8_nearest_9 rfl (lv_at hl 1 rfl) ?_
        obtain ⟨o_2, hc_2, hrun⟩ := bnd9 hrun
        have hPx : va_P (dC, dI) cls ((List.flatten ([] : List va_W)) ++ (List.flatten ([] : List va_W))) H := vP_fa (vP_perm hP (bP (List.Perm.refl _)))
        have hDx : va_D A ((List.flatten ([] : List va_W)) ++ (List.flatten ([] : List va_W))) := vD_fa (vD_perm hD (bP (List.Perm.refl _)))
        have hKx : va_K (dC, dI) cls ((List.flatten ([] : List (List (ClassId × FieldType)))) ++ (List.flatten ([] : List (List (ClassId × FieldType))))) s := vK_fa (vK_perm hK (bP (List.Perm.refl _)))
        have hPc := vP_l hPx
        have hDc := vD_l hDx
        have hKc := vK_l hKx
        have hFc := vfree hDx hS hA
        refine va_calli (va_runSN (As := [.long p0, .int v3_4]) (rest := []) ⟨hx, hb, hml, hown, hts⟩ (kX11_holds l dC dI (p0 := p0) (p1 := v3_4) (sz := _) (o := o_2) (hrun := hc_2)) ⟨(va_cnB 2 hts (gi_z qw192) rfl rfl rfl (hE.nw (List.mem_append_right _ (tbl_6 (i := 50) rfl)) rfl) (hts _ qw129) (by decide +kernel) ⟨Nat.le_of_ble_eq_true rfl, Nat.le_of_ble_eq_true rfl⟩), (hts _ qw193), trivial⟩ ⟨PRE.blind, PRE.of hE hS hFc hPc hKc hDc⟩ rfl rfl hl.1 rfl (lv_room (Nat.le_of_ble_eq_true rfl)) dX8_nearest_10 ⟨(Nat.le_of_ble_eq_true rfl), (Nat.le_of_ble_eq_true rfl)⟩) hS (fun q _ h => hFc q h) hFc (fun r3 u t H locs ht hvm hw hB hz1 hk1 hS => ?_)
        obtain ⟨b1, b2, b3⟩ := hB
        rw [ht] at b1
        obtain ⟨hP, hD, hK⟩ := JOINC (wc := (List.flatten ([] : List va_W))) (wr := (List.flatten ([] : List va_W))) (w1 := (List.flatten ([] : List va_W))) (t1 := (List.flatten ([] : List (List (ClassId × FieldType))))) hPx hDx hKx hk1 hFc b1 (va_K.moved hvm.symm b2) b3
        have hP : va_P (dC, dI) cls (List.flatten ([] : List va_W)) H := vP_perm (vP_fb hP) (bP (List.Perm.refl _))
        have hD : va_D A (List.flatten ([] : List va_W)) := vD_perm (vD_fb hD) (bP (List.Perm.refl _))
        have hK : va_K (dC, dI) cls (List.flatten ([] : List (List (ClassId × FieldType)))) s := vK_perm (vK_fb hK) (bP (List.Perm.refl _))
        obtain rfl : o_2 = r3 := hw.symm
        rcases br9 hrun with ⟨hc4, hrun⟩ | ⟨hc4, hrun⟩
        · refine lv_if_eq (tgt := 18) hx hb dX8_nearest_13 (by decide) (fun _ => ?_) (fun c => absurd hc4 c)
          refine lv_iinc (v := (v3_4 + (-1))) (lv' := [(3, .int (v3_4 + (-1))), (0, .long p0)]) hx hb dX8_nearest_18 hl (k := 1) rfl rfl (by decide) rfl (fun ls hl => ?_)
          refine lv_goto (tgt := 4) hx hb dX8_nearest_21 (by decide) ?_
          exact IH4 (v3_4 + (-1)) o4 _ _ _ hrun hP hD hK hS (lv_sub hl [1, 0] rfl) hr4 hk4
        · refine lv_if_eq (tgt := 18) hx hb dX8_nearest_13 (by decide) (fun c => absurd c hc4) (fun _ => ?_)
          refine lv_iload_n hx hb dX8_nearest_16 rfl (lv_at hl 1 rfl) ?_
          have ho9 : v3_4 = o := hr4 _ (Option.some.inj hrun).symm
          have hP9 : va_P (dC, dI) cls (List.flatten ([] : List va_W)) H := by first | exact hP | (rw [← ho9]; exact hP)
          have hD9 : va_D A (List.flatten ([] : List va_W)) := by first | exact hD | (rw [← ho9]; exact hD)
          subst hQ
          exact W.iret (v := v3_4) hx hb hr (fun t ht hW => ⟨⟨v3_4, (), rfl, (by rw [← ho9]), ⟨by rw [ht]; exact hP9, va_K.moved hW.alike hK, hD9⟩⟩, hS.F ht⟩) hS.2.2 dX8_nearest_17
  obtain ⟨o4, hc4, hrun⟩ := bnd9 hrun
  refine L4 NF (p1 - 1) o4 _ _ _ hc4 hP hD hK hS (lv_sub hl [1, 0] rfl) (fun r e9 => by subst e9; exact Option.some.inj hrun) ?_
  intro t4 e9
  subst e9
  replace hrun := el9 hrun
  intro H locs ls hP hD hK hS hl
  have hl := hl
  refine lv_iconst (v := (-1)) hx hb dX8_nearest_24 (by decide) ?_
  have ho9 : (-1) = o := Option.some.inj hrun
  have hP9 : va_P (dC, dI) cls (List.flatten ([] : List va_W)) H := by first | exact hP | (rw [← ho9]; exact hP)
  have hD9 : va_D A (List.flatten ([] : List va_W)) := by first | exact hD | (rw [← ho9]; exact hD)
  subst hQ
  exact W.iret (v := (-1)) hx hb hr (fun t ht hW => ⟨⟨(-1), (), rfl, (by rw [← ho9]), ⟨by rw [ht]; exact hP9, va_K.moved hW.alike hK, hD9⟩⟩, hS.F ht⟩) hS.2.2 dX8_nearest_25
def fX8_findDominators_J37 (kk12 : Int32 → SL → Option SL) (v4_12 : Int32) (p1l_12 : SL) (y0_37 : Int64) (y1_37 : Int32) : Option SL := (if ixb y1_37 60 = true then (lt9 (upl p1l_12 16 (nn y1_37) y0_37) fun (l3 : SL) => (kk12 (v4_12 + 1) l3)) else none)
def fX8_findDominators_L12 (p1w : ST) : Nat → Int32 → SL → Option SL
  | 0 => fun _ _ => none
  | n_12 + 1 => fun v4_12 p1l_12 => (if (p1w 0 0) ≤ v4_12 then some p1l_12 else (if v4_12 = 0 then (fX8_findDominators_J37 (fX8_findDominators_L12 p1w n_12) v4_12 p1l_12 1 v4_12) else (fX8_findDominators_J37 (fX8_findDominators_L12 p1w n_12) v4_12 p1l_12 ((((1 : Int64) <<< (((p1w 0 0) : Int32).toInt64 &&& 63))) - (1 : Int64)) v4_12)))
def fX8_findDominators_L83 (p1w : ST) (v6_68 : Int32) (p1l_68 : SL) : Nat → Int64 → Int32 → Option Int64
  | 0 => fun _ _ => none
  | n_83 + 1 => fun v7_83 v9_83 => ((fX1_waysTo p1w v6_68).bind fun (o_8 : Int32) => (if o_8 ≤ v9_83 then some v7_83 else ((fX1_wayFrom p1w v6_68 v9_83).bind fun (o_11 : Int32) => (if ixb o_11 60 = true then ((fX8_findDominators_L83 p1w v6_68 p1l_68 n_83) (v7_83 &&& (p1l_68 16 (nn o_11))) (v9_83 + 1)) else none))))
def fX8_findDominators_J150 (kk68 : Int32 → Int32 → SL → Option (Int32 × SL)) (v6_68 : Int32) (p1l_68 : SL) (o83 : Int64) (y0_150 : Int32) : Option (Int32 × SL) := (if ixb v6_68 60 = true then (lt9 (upl p1l_68 16 (nn v6_68) (o83 ||| (((1 : Int64) <<< ((v6_68 : Int32).toInt64 &&& 63))))) fun (l15 : SL) => (kk68 y0_150 (v6_68 + 1) l15)) else none)
def fX8_findDominators_J145 (kk68 : Int32 → Int32 → SL → Option (Int32 × SL)) (v6_68 : Int32) (p1l_68 : SL) (o83 : Int64) : Option (Int32 × SL) := (fX8_findDominators_J150 kk68 v6_68 p1l_68 o83 1)
def fX8_findDominators_L68 (p1w : ST) : Nat → Int32 → Int32 → SL → Option (Int32 × SL)
  | 0 => fun _ _ _ => none
  | n_68 + 1 => fun v4_68 v6_68 p1l_68 => (if (p1w 0 0) ≤ v6_68 then some (v4_68, p1l_68) else ((fX8_findDominators_L83 p1w v6_68 p1l_68 NF ((((1 : Int64) <<< (((p1w 0 0) : Int32).toInt64 &&& 63))) - (1 : Int64)) 0).bind fun (o83 : Int64) => (if v4_68 = 0 then (if ixb v6_68 60 = true then (if (lg_cmp (o83 ||| (((1 : Int64) <<< ((v6_68 : Int32).toInt64 &&& 63)))) (p1l_68 16 (nn v6_68))) = 0 then (fX8_findDominators_J150 (fX8_findDominators_L68 p1w n_68) v6_68 p1l_68 o83 0) else (fX8_findDominators_J145 (fX8_findDominators_L68 p1w n_68) v6_68 p1l_68 o83)) else none) else (fX8_findDominators_J145 (fX8_findDominators_L68 p1w n_68) v6_68 p1l_68 o83))))
def fX8_findDominators_L50 (p1w : ST) : Nat → Int32 → Int32 → SL → Option SL
  | 0 => fun _ _ _ => none
  | n_50 + 1 => fun v4_50 v5_50 p1l_50 => (if v4_50 = 0 then some p1l_50 else (if 60 < v5_50 then some p1l_50 else ((fX8_findDominators_L68 p1w NF 0 1 p1l_50).bind fun (o68 : Int32 × SL) => ((fX8_findDominators_L50 p1w n_50) (o68.1) (v5_50 + 1) (o68.2)))))
def fX8_findDominators_L176 (o50 : SL) : Nat → Int32 → ST → Option ST
  | 0 => fun _ _ => none
  | n_176 + 1 => fun v5_176 p1w_176 => (if (p1w_176 0 0) ≤ v5_176 then some p1w_176 else (if ixb v5_176 60 = true then ((fX8_nearest (o50 16 (nn v5_176)) v5_176).bind fun (o_21 : Int32) => (if ixb v5_176 60 = true then (lt9 (upw p1w_176 12 (nn v5_176) o_21) fun (w24 : ST) => ((fX8_findDominators_L176 o50 n_176) (v5_176 + 1) w24)) else none)) else none))
def fX8_findDominators (p1w : ST) (p1l : SL) : Option (ST × SL) := ((fX8_findDominators_L12 p1w NF 0 p1l).bind fun (o12 : SL) => ((fX8_findDominators_L50 p1w NF 1 0 o12).bind fun (o50 : SL) => ((fX8_findDominators_L176 o50 NF 0 p1w).bind fun (o176 : ST) => some (o176, o50))))
set_option maxHeartbeats 16000000 in
set_option maxRecDepth 100000 in
theorem kX8_findDominators {zs : ZS} (l : Launch) (dC : Nat → ClassId) (dI : Nat → Nat → Nat) (p0a : Nat → Nat) (p0k : Nat → ClassId) (p0w : ST) (p1a : Nat → Nat) (p1k : Nat → ClassId) (p1n : Nat → Nat) (p1w : ST) (p1l : SL) (sz : Nat) (o : ST × SL) (hrun : fX8_findDominators p1w p1l = some o) : Met l yX8_findDominators (wz yX8_findDominators cX8_findDominators 10 (Option.none : Option Jvm.ClassFile.FieldType)) ({ frames := 2, cells := 0, slots := 0, locals := 45 } : Room) (va_Pc [.ref (p0a 0), .ref (p1a 0)] (PRE zs dC dI (List.flatten ([(oX8 (p0a 0) p0a p0k p0w), (oX1 (p1a 0) p1a p1k p1n p1w p1l)] : List va_W)) (List.flatten ([(tX8 p0k), (tX1 p1k)] : List (List (ClassId × FieldType)))) sz)) (va_Qv (fun (_ : Unit) => True) (fun _ t => POST dC dI (List.flatten ([(oX8 (p0a 0) p0a p0k p0w), (oX1 (p1a 0) p1a p1k p1n (o.1) (o.2))] : List va_W)) (List.flatten ([(tX8 p0k), (tX1 p1k)] : List (List (ClassId × FieldType)))) (va_A (List.flatten ([(oX8 (p0a 0) p0a p0k p0w), (oX1 (p1a 0) p1a p1k p1n p1w p1l)] : List va_W)) sz) t) (va_A (List.flatten ([(oX8 (p0a 0) p0a p0k p0w), (oX1 (p1a 0) p1a p1k p1n p1w p1l)] : List va_W)) sz)) 0 0 (va_A (List.flatten ([(oX8 (p0a 0) p0a p0k p0w), (oX1 (p1a 0) p1a p1k p1n p1w p1l)] : List va_W)) sz) := by
  refine Met.ofW (cc := cX8_findDominators) (maxL := 10) (ret := (Option.none : Option Jvm.ClassFile.FieldType)) (by decide) rfl ?_
  intro p e s m args below meth c s₁ B hml hv
  obtain ⟨rfl, hsz, hP, hK, hD0, hE⟩ := hv
  have hx := B.exec
  have hb := B.bytes
  have hr := B.returns
  have hts0 := atoms_spec (ws := wz yX8_findDominators cX8_findDominators 10 (Option.none : Option Jvm.ClassFile.FieldType)) B.pre
  have hts : ∀ w ∈ gw, w.before _ s = true := fun w h => hts0 w (List.mem_cons_of_mem _ h)
  have hown : s.vm.findClass RX8 = some m.cls := findClass_of_methodNamed B.named
  have hlocks := B.notSynchronized
  subst hsz
  have hD := hD0.self (sz := s.heap.size)
  refine gQ9 ?_
  intro Q hQ
  generalize hAe : va_A (List.flatten ([(oX8 (p0a 0) p0a p0k p0w), (oX1 (p1a 0) p1a p1k p1n p1w p1l)] : List va_W)) s.heap.size = A at hD hE hQ
  have hA : ∀ q : Nat, s.heap.size ≤ q → A q := fun q h => by rw [← hAe]; exact Or.inr h
  have hS : va_S A s.heap s.heap [] := va_S.rf
  have hP : va_P (dC, dI) cls (List.flatten ([(oX8 (p0a 0) p0a p0k p0w), (oX1 (p1a 0) p1a p1k p1n p1w p1l)] : List va_W)) s.heap := hP
  have hl := lv_entry ([.ref (p0a 0), .ref (p1a 0)]) (n := 10) (Nat.le_of_ble_eq_true rfl)
  rw [lg_entry_eq]
  generalize (lg_sl ([.ref (p0a 0), .ref (p1a 0)]) ++ List.replicate (10 - (lg_sl ([.ref (p0a 0), .ref (p1a 0)])).length) Slot.unset).toArray = ls at hl ⊢
  have hl : lv_has ls 10 [(0, .ref (p0a 0)), (1, .ref (p1a 0))] := hl
  obtain ⟨H, hHe⟩ : ∃ H, H = s.heap := ⟨_, rfl⟩
  obtain ⟨locs, hle⟩ : ∃ locs : List Loc, locs = [] := ⟨_, rfl⟩
  rw [← hHe] at hP
  have hS : va_S A s.heap H locs := by rw [hHe, hle]; exact hS
  show W p l e ({ frames := 2, cells := 0, slots := 0, locals := 45 } : Room) s m ([.ref (p0a 0), .ref (p1a 0)] : List Value).toArray below meth c s.heap [] 0 0 Q (F0 m 0 ls [])
  rw [← hle]
  refine wH9 hHe ?_
  unfold fX8_findDominators at hrun
  refine lv_lconst (v := 1) hx hb dX8_findDominators_0 (by decide) ?_
  refine lv_aload_n hx hb dX8_findDominators_1 rfl (lv_at hl 1 rfl) ?_
  refine va_get (D := (dC, dI)) (ci := 4) (v := .int (p1w 0 0)) (C := RX1) (T := TX1) (N := 21) hx hb hts i_X1 hown hK hP 6 rfl rfl 0 (by decide) (hts _ qw181) (fun _ h9 => h9) rfl dX8_findDominators_2 ?_
  refine lv_lshl (v := (((1 : Int64) <<< (((p1w 0 0) : Int32).toInt64 &&& 63)))) hx hb dX8_findDominators_5 rfl ?_
  refine lv_lconst (v := 1) hx hb dX8_findDominators_6 (by decide) ?_
  refine lv_lsub hx hb dX8_findDominators_7 ?_
  refine lv_lstore_n (lv' := [(2, .long ((((1 : Int64) <<< (((p1w 0 0) : Int32).toInt64 &&& 63))) - (1 : Int64))), (0, .ref (p0a 0)), (1, .ref (p1a 0))]) hx hb dX8_findDominators_8 rfl hl (by decide) rfl (fun ls hl => ?_)
  refine lv_iconst (v := 0) hx hb dX8_findDominators_9 (by decide) ?_
  refine lv_istore (lv' := [(4, .int 0), (2, .long ((((1 : Int64) <<< (((p1w 0 0) : Int32).toInt64 &&& 63))) - (1 : Int64))), (0, .ref (p0a 0)), (1, .ref (p1a 0))]) hx hb dX8_findDominators_10 hl (by decide) rfl (fun ls hl => ?_)
  have L12 : ∀ (n_12 : Nat) (v4_12 : Int32) (p1l_12 : SL) (o12 : SL) (H : Heap) (locs : List Loc) (ls : Array Slot), (fX8_findDominators_L12 p1w n_12) v4_12 p1l_12 = some o12 → va_P (dC, dI) cls (List.flatten ([(oX8 (p0a 0) p0a p0k p0w), (oX1 (p1a 0) p1a p1k p1n p1w p1l_12)] : List va_W)) H → va_D A (List.flatten ([(oX8 (p0a 0) p0a p0k p0w), (oX1 (p1a 0) p1a p1k p1n p1w p1l_12)] : List va_W)) → va_K (dC, dI) cls (List.flatten ([(tX8 p0k), (tX1 p1k)] : List (List (ClassId × FieldType)))) s → va_S A s.heap H locs → lv_has ls 10 [(1, .ref (p1a 0)), (2, .long ((((1 : Int64) <<< (((p1w 0 0) : Int32).toInt64 &&& 63))) - (1 : Int64))), (4, .int v4_12)] → (∀ (H : Heap) (locs : List Loc) (ls : Array Slot), va_P (dC, dI) cls (List.flatten ([(oX8 (p0a 0) p0a p0k p0w), (oX1 (p1a 0) p1a p1k p1n p1w o12)] : List va_W)) H → va_D A (List.flatten ([(oX8 (p0a 0) p0a p0k p0w), (oX1 (p1a 0) p1a p1k p1n p1w o12)] : List va_W)) → va_K (dC, dI) cls (List.flatten ([(tX8 p0k), (tX1 p1k)] : List (List (ClassId × FieldType)))) s → va_S A s.heap H locs → lv_has ls 10 [(1, .ref (p1a 0)), (2, .long ((((1 : Int64) <<< (((p1w 0 0) : Int32).toInt64 &&& 63))) - (1 : Int64)))] → W p l e ({ frames := 2, cells := 0, slots := 0, locals := 45 } : Room) s m ([.ref (p0a 0), .ref (p1a 0)] : List Value).toArray below meth c H locs 0 0 Q (F0 m 44 ls [])) → W p l e ({ frames := 2, cells := 0, slots := 0, locals := 45 } : Room) s m ([.ref (p0a 0), .ref (p1a 0)] : List Value).toArray below meth c H locs 0 0 Q (F0 m 12 ls []) := by
    intro n_12
    induction n_12 with
    | zero => intro v4_12 p1l_12 o12 H locs ls hrun; exact (no9 rfl hrun).elim
    | succ n_12 IH12 =>
      intro v4_12 p1l_12 o12 H locs ls hrun hP hD hK hS hl hk12
      unfold fX8_findDominators_L12 at hrun
      refine lv_iload hx hb dX8_findDominators_12 (lv_at hl 2 rfl) ?_
      refine lv_aload_n hx hb dX8_findDominators_14 rfl (lv_at hl 0 rfl) ?_
      refine va_get (D := (dC, dI)) (ci := 4) (v := .int (p1w 0 0)) (C := RX1) (T := TX1) (N := 21) hx hb hts i_X1 hown hK hP 6 rfl rfl 0 (by decide) (hts _ qw181) (fun _ h9 => h9) rfl dX8_findDominators_15 ?_
      rcases br9 hrun with ⟨hc1, hrun⟩ | ⟨hc1, hrun⟩
      · refine lv_icmp_ge (tgt := 44) hx hb dX8_findDominators_18 (by decide) (fun _ => ?_) (fun c => absurd hc1 c)
        obtain rfl := (Option.some.inj hrun)
        exact hk12 _ _ _ hP hD hK hS (lv_sub hl [0, 1] rfl)
      · refine lv_icmp_ge (tgt := 44) hx hb dX8_findDominators_18 (by decide) (fun c => absurd c hc1) (fun _ => ?_)
        refine lv_aload_n hx hb dX8_findDominators_21 rfl (lv_at hl 0 rfl) ?_
        refine va_get (D := (dC, dI)) (ci := 4) (v := .ref (p1a 16)) (C := RX1) (T := TX1) (N := 21) hx hb hts i_X1 hown hK hP 6 rfl rfl 15 (by decide) (hts _ qw182) (fun _ h9 => h9) rfl dX8_findDominators_22 ?_
        refine lv_iload hx hb dX8_findDominators_25 (lv_at hl 2 rfl) ?_
        refine lv_iload hx hb dX8_findDominators_27 (lv_at hl 2 rfl) ?_
        have J37 : ∀ (y0_37 : Int64) (y1_37 : Int32) (H : Heap) (locs : List Loc) (ls : Array Slot), (fX8_findDominators_J37 (fX8_findDominators_L12 p1w n_12) v4_12 p1l_12 y0_37 y1_37) = some o12 → va_P (dC, dI) cls (List.flatten ([(oX8 (p0a 0) p0a p0k p0w), (oX1 (p1a 0) p1a p1k p1n p1w p1l_12)] : List va_W)) H → va_D A (List.flatten ([(oX8 (p0a 0) p0a p0k p0w), (oX1 (p1a 0) p1a p1k p1n p1w p1l_12)] : List va_W)) → va_K (dC, dI) cls (List.flatten ([(tX8 p0k), (tX1 p1k)] : List (List (ClassId × FieldType)))) s → va_S A s.heap H locs → lv_has ls 10 [(1, .ref (p1a 0)), (2, .long ((((1 : Int64) <<< (((p1w 0 0) : Int32).toInt64 &&& 63))) - (1 : Int64))), (4, .int v4_12)] → W p l e ({ frames := 2, cells := 0, slots := 0, locals := 45 } : Room) s m ([.ref (p0a 0), .ref (p1a 0)] : List Value).toArray below meth c H locs 0 0 Q (F0 m 37 ls [.long y0_37, .int y1_37, .ref (p1a 16)]) := by
          intro y0_37 y1_37 H locs ls hrun hP hD hK hS hl 
          unfold fX8_findDominators_J37 at hrun
          obtain ⟨hq2, hrun⟩ := chk9 hrun
          refine va_last hx hb hK hP hD hS 19 17 rfl rfl (ixb_in hq2) dX8_findDominators_37 (fun H locs hP hD hS => ?_)
          have hP : va_P (dC, dI) cls (List.flatten ([(oX8 (p0a 0) p0a p0k p0w), (oX1 (p1a 0) p1a p1k p1n p1w (upl p1l_12 16 (nn y1_37) y0_37))] : List va_W)) H := hP
          have hD : va_D A (List.flatten ([(oX8 (p0a 0) p0a p0k p0w), (oX1 (p1a 0) p1a p1k p1n p1w (upl p1l_12 16 (nn y1_37) y0_37))] : List va_W)) := hD
          obtain ⟨l3, el3, hrun⟩ := let9 hrun
          rw [← el3] at hP hD
          refine lv_iinc (v := (v4_12 + 1)) (lv' := [(4, .int (v4_12 + 1)), (1, .ref (p1a 0)), (2, .long ((((1 : Int64) <<< (((p1w 0 0) : Int32).toInt64 &&& 63))) - (1 : Int64)))]) hx hb dX8_findDominators_38 hl (k := 2) rfl rfl (by decide) rfl (fun ls hl => ?_)
          refine lv_goto (tgt := 12) hx hb dX8_findDominators_41 (by decide) ?_
          exact IH12 (v4_12 + 1) l3 o12 _ _ _ hrun hP hD hK hS (lv_sub hl [1, 2, 0] rfl) hk12
        rcases br9 hrun with ⟨hc4, hrun⟩ | ⟨hc4, hrun⟩
        · refine lv_if_ne (tgt := 36) hx hb dX8_findDominators_29 (by decide) (fun c => absurd hc4 c) (fun _ => ?_)
          refine lv_lconst (v := 1) hx hb dX8_findDominators_32 (by decide) ?_
          refine lv_goto (tgt := 37) hx hb dX8_findDominators_33 (by decide) ?_
          exact J37 1 v4_12 _ _ _ hrun hP hD hK hS (lv_sub hl [0, 1, 2] rfl)
        · refine lv_if_ne (tgt := 36) hx hb dX8_findDominators_29 (by decide) (fun _ => ?_) (fun c => absurd c hc4)
          refine lv_lload_n hx hb dX8_findDominators_36 rfl (lv_at hl 1 rfl) ?_
          exact J37 ((((1 : Int64) <<< (((p1w 0 0) : Int32).toInt64 &&& 63))) - (1 : Int64)) v4_12 _ _ _ hrun hP hD hK hS (lv_sub hl [0, 1, 2] rfl)
  obtain ⟨o12, hc12, hrun⟩ := bnd9 hrun
  refine L12 NF 0 p1l o12 _ _ _ hc12 hP hD hK hS (lv_sub hl [3, 1, 0] rfl) ?_
  intro H locs ls hP hD hK hS hl
  have hl := hl
  refine lv_iconst (v := 1) hx hb dX8_findDominators_44 (by decide) ?_
  refine lv_istore (lv' := [(4, .int 1), (1, .ref (p1a 0)), (2, .long ((((1 : Int64) <<< (((p1w 0 0) : Int32).toInt64 &&& 63))) - (1 : Int64)))]) hx hb dX8_findDominators_45 hl (by decide) rfl (fun ls hl => ?_)
  refine lv_iconst (v := 0) hx hb dX8_findDominators_47 (by decide) ?_
  refine lv_istore (lv' := [(5, .int 0), (4, .int 1), (1, .ref (p1a 0)), (2, .long ((((1 : Int64) <<< (((p1w 0 0) : Int32).toInt64 &&& 63))) - (1 : Int64)))]) hx hb dX8_findDominators_48 hl (by decide) rfl (fun ls hl => ?_)
  have L50 : ∀ (n_50 : Nat) (v4_50 : Int32) (v5_50 : Int32) (p1l_50 : SL) (o50 : SL) (H : Heap) (locs : List Loc) (ls : Array Slot), (fX8_findDominators_L50 p1w n_50) v4_50 v5_50 p1l_50 = some o50 → va_P (dC, dI) cls (List.flatten ([(oX8 (p0a 0) p0a p0k p0w), (oX1 (p1a 0) p1a p1k p1n p1w p1l_50)] : List va_W)) H → va_D A (List.flatten ([(oX8 (p0a 0) p0a p0k p0w), (oX1 (p1a 0) p1a p1k p1n p1w p1l_50)] : List va_W)) → va_K (dC, dI) cls (List.flatten ([(tX8 p0k), (tX1 p1k)] : List (List (ClassId × FieldType)))) s → va_S A s.heap H locs → lv_has ls 10 [(1, .ref (p1a 0)), (2, .long ((((1 : Int64) <<< (((p1w 0 0) : Int32).toInt64 &&& 63))) - (1 : Int64))), (4, .int v4_50), (5, .int v5_50)] → (∀ (H : Heap) (locs : List Loc) (ls : Array Slot), va_P (dC, dI) cls (List.flatten ([(oX8 (p0a 0) p0a p0k p0w), (oX1 (p1a 0) p1a p1k p1n p1w o50)] : List va_W)) H → va_D A (List.flatten ([(oX8 (p0a 0) p0a p0k p0w), (oX1 (p1a 0) p1a p1k p1n p1w o50)] : List va_W)) → va_K (dC, dI) cls (List.flatten ([(tX8 p0k), (tX1 p1k)] : List (List (ClassId × FieldType)))) s → va_S A s.heap H locs → lv_has ls 10 [(1, .ref (p1a 0))] → W p l e ({ frames := 2, cells := 0, slots := 0, locals := 45 } : Room) s m ([.ref (p0a 0), .ref (p1a 0)] : List Value).toArray below meth c H locs 0 0 Q (F0 m 173 ls [])) → W p l e ({ frames := 2, cells := 0, slots := 0, locals := 45 } : Room) s m ([.ref (p0a 0), .ref (p1a 0)] : List Value).toArray below meth c H locs 0 0 Q (F0 m 50 ls []) := by
    intro n_50
    induction n_50 with
    | zero => intro v4_50 v5_50 p1l_50 o50 H locs ls hrun; exact (no9 rfl hrun).elim
    | succ n_50 IH50 =>
      intro v4_50 v5_50 p1l_50 o50 H locs ls hrun hP hD hK hS hl hk50
      unfold fX8_findDominators_L50 at hrun
      refine lv_iload hx hb dX8_findDominators_50 (lv_at hl 2 rfl) ?_
      rcases br9 hrun with ⟨hc5, hrun⟩ | ⟨hc5, hrun⟩
      · refine lv_if_eq (tgt := 173) hx hb dX8_findDominators_52 (by decide) (fun _ => ?_) (fun c => absurd hc5 c)
        obtain rfl := (Option.some.inj hrun)
        exact hk50 _ _ _ hP hD hK hS (lv_sub hl [0] rfl)
      · refine lv_if_eq (tgt := 173) hx hb dX8_findDominators_52 (by decide) (fun c => absurd c hc5) (fun _ => ?_)
        refine lv_iload hx hb dX8_findDominators_55 (lv_at hl 3 rfl) ?_
        refine lv_bipush (v := 60) hx hb dX8_findDominators_57 (by decide) ?_
        rcases br9 hrun with ⟨hc6, hrun⟩ | ⟨hc6, hrun⟩
        · refine lv_icmp_gt (tgt := 173) hx hb dX8_findDominators_59 (by decide) (fun _ => ?_) (fun c => absurd hc6 c)
          obtain rfl := (Option.some.inj hrun)
          exact hk50 _ _ _ hP hD hK hS (lv_sub hl [0] rfl)
        · refine lv_icmp_gt (tgt := 173) hx hb dX8_findDominators_59 (by decide) (fun c => absurd c hc6) (fun _ => ?_)
          refine lv_iconst (v := 0) hx hb dX8_findDominators_62 (by decide) ?_
          refine lv_istore (lv' := [(4, .int 0), (1, .ref (p1a 0)), (2, .long ((((1 : Int64) <<< (((p1w 0 0) : Int32).toInt64 &&& 63))) - (1 : Int64))), (5, .int v5_50)]) hx hb dX8_findDominators_63 hl (by decide) rfl (fun ls hl => ?_)
          refine lv_iconst (v := 1) hx hb dX8_findDominators_65 (by decide) ?_
          refine lv_istore (lv' := [(6, .int 1), (4, .int 0), (1, .ref (p1a 0)), (2, .long ((((1 : Int64) <<< (((p1w 0 0) : Int32).toInt64 &&& 63))) - (1 : Int64))), (5, .int v5_50)]) hx hb dX8_findDominators_66 hl (by decide) rfl (fun ls hl => ?_)
          have L68 : ∀ (n_68 : Nat) (v4_68 : Int32) (v6_68 : Int32) (p1l_68 : SL) (o68 : Int32 × SL) (H : Heap) (locs : List Loc) (ls : Array Slot), (fX8_findDominators_L68 p1w n_68) v4_68 v6_68 p1l_68 = some o68 → va_P (dC, dI) cls (List.flatten ([(oX8 (p0a 0) p0a p0k p0w), (oX1 (p1a 0) p1a p1k p1n p1w p1l_68)] : List va_W)) H → va_D A (List.flatten ([(oX8 (p0a 0) p0a p0k p0w), (oX1 (p1a 0) p1a p1k p1n p1w p1l_68)] : List va_W)) → va_K (dC, dI) cls (List.flatten ([(tX8 p0k), (tX1 p1k)] : List (List (ClassId × FieldType)))) s → va_S A s.heap H locs → lv_has ls 10 [(1, .ref (p1a 0)), (2, .long ((((1 : Int64) <<< (((p1w 0 0) : Int32).toInt64 &&& 63))) - (1 : Int64))), (4, .int v4_68), (5, .int v5_50), (6, .int v6_68)] → (∀ (H : Heap) (locs : List Loc) (ls : Array Slot), va_P (dC, dI) cls (List.flatten ([(oX8 (p0a 0) p0a p0k p0w), (oX1 (p1a 0) p1a p1k p1n p1w (o68.2))] : List va_W)) H → va_D A (List.flatten ([(oX8 (p0a 0) p0a p0k p0w), (oX1 (p1a 0) p1a p1k p1n p1w (o68.2))] : List va_W)) → va_K (dC, dI) cls (List.flatten ([(tX8 p0k), (tX1 p1k)] : List (List (ClassId × FieldType)))) s → va_S A s.heap H locs → lv_has ls 10 [(1, .ref (p1a 0)), (2, .long ((((1 : Int64) <<< (((p1w 0 0) : Int32).toInt64 &&& 63))) - (1 : Int64))), (4, .int (o68.1)), (5, .int v5_50)] → W p l e ({ frames := 2, cells := 0, slots := 0, locals := 45 } : Room) s m ([.ref (p0a 0), .ref (p1a 0)] : List Value).toArray below meth c H locs 0 0 Q (F0 m 167 ls [])) → W p l e ({ frames := 2, cells := 0, slots := 0, locals := 45 } : Room) s m ([.ref (p0a 0), .ref (p1a 0)] : List Value).toArray below meth c H locs 0 0 Q (F0 m 68 ls []) := by
            intro n_68
            induction n_68 with
            | zero => intro v4_68 v6_68 p1l_68 o68 H locs ls hrun; exact (no9 rfl hrun).elim
            | succ n_68 IH68 =>
              intro v4_68 v6_68 p1l_68 o68 H locs ls hrun hP hD hK hS hl hk68
              unfold fX8_findDominators_L68 at hrun
              refine lv_iload hx hb dX8_findDominators_68 (lv_at hl 4 rfl) ?_
              refine lv_aload_n hx hb dX8_findDominators_70 rfl (lv_at hl 0 rfl) ?_
              refine va_get (D := (dC, dI)) (ci := 4) (v := .int (p1w 0 0)) (C := RX1) (T := TX1) (N := 21) hx hb hts i_X1 hown hK hP 6 rfl rfl 0 (by decide) (hts _ qw181) (fun _ h9 => h9) rfl dX8_findDominators_71 ?_
              rcases br9 hrun with ⟨hc7, hrun⟩ | ⟨hc7, hrun⟩
              · refine lv_icmp_ge (tgt := 167) hx hb dX8_findDominators_74 (by decide) (fun _ => ?_) (fun c => absurd hc7 c)
                obtain rfl := (Option.some.inj hrun)
                exact hk68 _ _ _ hP hD hK hS (lv_sub hl [0, 1, 2, 3] rfl)
              · refine lv_icmp_ge (tgt := 167) hx hb dX8_findDominators_74 (by decide) (fun c => absurd c hc7) (fun _ => ?_)
                refine lv_lload_n hx hb dX8_findDominators_77 rfl (lv_at hl 1 rfl) ?_
                refine lv_lstore (lv' := [(7, .long ((((1 : Int64) <<< (((p1w 0 0) : Int32).toInt64 &&& 63))) - (1 : Int64))), (1, .ref (p1a 0)), (2, .long ((((1 : Int64) <<< (((p1w 0 0) : Int32).toInt64 &&& 63))) - (1 : Int64))), (4, .int v4_68), (5, .int v5_50), (6, .int v6_68)]) hx hb dX8_findDominators_78 hl (by decide) rfl (fun ls hl => ?_)
                refine lv_iconst (v := 0) hx hb dX8_findDominators_80 (by decide) ?_
                refine lv_istore (lv' := [(9, .int 0), (7, .long ((((1 : Int64) <<< (((p1w 0 0) : Int32).toInt64 &&& 63))) - (1 : Int64))), (1, .ref (p1a 0)), (2, .long ((((1 : Int64) <<< (((p1w 0 0) : Int32).toInt64 &&& 63))) - (1 : Int64))), (4, .int v4_68), (5, .int v5_50), (6, .int v6_68)]) hx hb dX8_findDominators_81 hl (by decide) rfl (fun ls hl => ?_)
                have L83 : ∀ (n_83 : Nat) (v7_83 : Int64) (v9_83 : Int32) (o83 : Int64) (H : Heap) (locs : List Loc) (ls : Array Slot), (fX8_findDominators_L83 p1w v6_68 p1l_68 n_83) v7_83 v9_83 = some o83 → va_P (dC, dI) cls (List.flatten ([(oX8 (p0a 0) p0a p0k p0w), (oX1 (p1a 0) p1a p1k p1n p1w p1l_68)] : List va_W)) H → va_D A (List.flatten ([(oX8 (p0a 0) p0a p0k p0w), (oX1 (p1a 0) p1a p1k p1n p1w p1l_68)] : List va_W)) → va_K (dC, dI) cls (List.flatten ([(tX8 p0k), (tX1 p1k)] : List (List (ClassId × FieldType)))) s → va_S A s.heap H locs → lv_has ls 10 [(1, .ref (p1a 0)), (2, .long ((((1 : Int64) <<< (((p1w 0 0) : Int32).toInt64 &&& 63))) - (1 : Int64))), (4, .int v4_68), (5, .int v5_50), (6, .int v6_68), (7, .long v7_83), (9, .int v9_83)] → (∀ (H : Heap) (locs : List Loc) (ls : Array Slot), va_P (dC, dI) cls (List.flatten ([(oX8 (p0a 0) p0a p0k p0w), (oX1 (p1a 0) p1a p1k p1n p1w p1l_68)] : List va_W)) H → va_D A (List.flatten ([(oX8 (p0a 0) p0a p0k p0w), (oX1 (p1a 0) p1a p1k p1n p1w p1l_68)] : List va_W)) → va_K (dC, dI) cls (List.flatten ([(tX8 p0k), (tX1 p1k)] : List (List (ClassId × FieldType)))) s → va_S A s.heap H locs → lv_has ls 10 [(1, .ref (p1a 0)), (2, .long ((((1 : Int64) <<< (((p1w 0 0) : Int32).toInt64 &&& 63))) - (1 : Int64))), (4, .int v4_68), (5, .int v5_50), (6, .int v6_68), (7, .long o83)] → W p l e ({ frames := 2, cells := 0, slots := 0, locals := 45 } : Room) s m ([.ref (p0a 0), .ref (p1a 0)] : List Value).toArray below meth c H locs 0 0 Q (F0 m 118 ls [])) → W p l e ({ frames := 2, cells := 0, slots := 0, locals := 45 } : Room) s m ([.ref (p0a 0), .ref (p1a 0)] : List Value).toArray below meth c H locs 0 0 Q (F0 m 83 ls []) := by
                  intro n_83
                  induction n_83 with
                  | zero => intro v7_83 v9_83 o83 H locs ls hrun; exact (no9 rfl hrun).elim
                  | succ n_83 IH83 =>
                    intro v7_83 v9_83 o83 H locs ls hrun hP hD hK hS hl hk83
                    unfold fX8_findDominators_L83 at hrun
                    refine lv_iload hx hb dX8_findDominators_83 (lv_at hl 6 rfl) ?_
                    refine lv_aload_n hx hb dX8_findDominators_85 rfl (lv_at hl 0 rfl) ?_
                    refine lv_iload hx hb dX8_findDominators_86 (lv_at hl 4 rfl) ?_
                    obtain ⟨o_8, hc_8, hrun⟩ := bnd9 hrun
                    have hPx : va_P (dC, dI) cls ((List.flatten ([(oX1 (p1a 0) p1a p1k p1n p1w p1l_68)] : List va_W)) ++ (List.flatten ([(oX8 (p0a 0) p0a p0k p0w)] : List va_W))) H := vP_fa (vP_perm hP (bP ((((List.Perm.refl _)).cons _).trans (List.Perm.swap _ _ _))))
                    have hDx : va_D A ((List.flatten ([(oX1 (p1a 0) p1a p1k p1n p1w p1l_68)] : List va_W)) ++ (List.flatten ([(oX8 (p0a 0) p0a p0k p0w)] : List va_W))) := vD_fa (vD_perm hD (bP ((((List.Perm.refl _)).cons _).trans (List.Perm.swap _ _ _))))
                    have hKx : va_K (dC, dI) cls ((List.flatten ([(tX1 p1k)] : List (List (ClassId × FieldType)))) ++ (List.flatten ([(tX8 p0k)] : List (List (ClassId × FieldType))))) s := vK_fa (vK_perm hK (bP ((((List.Perm.refl _)).cons _).trans (List.Perm.swap _ _ _))))
                    have hPc := vP_l hPx
                    have hDc := vD_l hDx
                    have hKc := vK_l hKx
                    have hFc := vfree hDx hS hA
                    refine va_calli (va_runV (As := [.int v6_68]) (rest := [.int v9_83]) ⟨hx, hb, hml, hown, hts⟩ (kX1_waysTo l dC dI (p0a := p1a) (p0k := p1k) (p0n := p1n) (p0w := p1w) (p0l := p1l_68) (p1 := v6_68) (sz := _) (o := o_8) (hrun := hc_8)) (cwV 1 hts (gi_V qw184 qw185 qw186 qw126 (gi_z qw183)) rfl rfl rfl (by decide +kernel) ⟨Nat.le_of_ble_eq_true rfl, Nat.le_of_ble_eq_true rfl⟩) ⟨PRE.blind, va_recv hKc hPc (ci := 4) (q0 := 0) rfl rfl, PRE.of hE hS hFc hPc hKc hDc⟩ rfl rfl hl.1 rfl (lv_room (Nat.le_of_ble_eq_true rfl)) dX8_findDominators_88 ⟨(Nat.le_of_ble_eq_true rfl), (Nat.le_of_ble_eq_true rfl)⟩) hS (fun q _ h => hFc q h) hFc (fun r9 u t H locs ht hvm hw hB hz1 hk1 hS => ?_)
                    obtain ⟨b1, b2, b3⟩ := hB
                    rw [ht] at b1
                    obtain ⟨hP, hD, hK⟩ := JOINC (wc := (List.flatten ([(oX1 (p1a 0) p1a p1k p1n p1w p1l_68)] : List va_W))) (wr := (List.flatten ([(oX8 (p0a 0) p0a p0k p0w)] : List va_W))) (w1 := (List.flatten ([(oX1 (p1a 0) p1a p1k p1n p1w p1l_68)] : List va_W))) (t1 := (List.flatten ([(tX1 p1k)] : List (List (ClassId × FieldType))))) hPx hDx hKx hk1 hFc b1 (va_K.moved hvm.symm b2) b3
                    have hP : va_P (dC, dI) cls (List.flatten ([(oX8 (p0a 0) p0a p0k p0w), (oX1 (p1a 0) p1a p1k p1n p1w p1l_68)] : List va_W)) H := vP_perm (vP_fb hP) (bP ((((List.Perm.refl _)).cons _).trans (List.Perm.swap _ _ _)))
                    have hD : va_D A (List.flatten ([(oX8 (p0a 0) p0a p0k p0w), (oX1 (p1a 0) p1a p1k p1n p1w p1l_68)] : List va_W)) := vD_perm (vD_fb hD) (bP ((((List.Perm.refl _)).cons _).trans (List.Perm.swap _ _ _)))
                    have hK : va_K (dC, dI) cls (List.flatten ([(tX8 p0k), (tX1 p1k)] : List (List (ClassId × FieldType)))) s := vK_perm (vK_fb hK) (bP ((((List.Perm.refl _)).cons _).trans (List.Perm.swap _ _ _)))
                    obtain rfl : o_8 = r9 := hw.symm
                    rcases br9 hrun with ⟨hc10, hrun⟩ | ⟨hc10, hrun⟩
                    · refine lv_icmp_ge (tgt := 118) hx hb dX8_findDominators_91 (by decide) (fun _ => ?_) (fun c => absurd hc10 c)
                      obtain rfl := (Option.some.inj hrun)
                      exact hk83 _ _ _ hP hD hK hS (lv_sub hl [0, 1, 2, 3, 4, 5] rfl)
                    · refine lv_icmp_ge (tgt := 118) hx hb dX8_findDominators_91 (by decide) (fun c => absurd c hc10) (fun _ => ?_)
                      refine lv_lload hx hb dX8_findDominators_94 (lv_at hl 5 rfl) ?_
                      refine lv_aload_n hx hb dX8_findDominators_96 rfl (lv_at hl 0 rfl) ?_
                      refine va_get (D := (dC, dI)) (ci := 4) (v := .ref (p1a 16)) (C := RX1) (T := TX1) (N := 21) hx hb hts i_X1 hown hK hP 6 rfl rfl 15 (by decide) (hts _ qw182) (fun _ h9 => h9) rfl dX8_findDominators_97 ?_
                      refine lv_aload_n hx hb dX8_findDominators_100 rfl (lv_at hl 0 rfl) ?_
                      refine lv_iload hx hb dX8_findDominators_101 (lv_at hl 4 rfl) ?_
                      refine lv_iload hx hb dX8_findDominators_103 (lv_at hl 6 rfl) ?_
                      obtain ⟨o_11, hc_11, hrun⟩ := bnd9 hrun
                      have hPx : va_P (dC, dI) cls ((List.flatten ([(oX1 (p1a 0) p1a p1k p1n p1w p1l_68)] : List va_W)) ++ (List.flatten ([(oX8 (p0a 0) p0a p0k p0w)] : List va_W))) H := vP_fa (vP_perm hP (bP ((((List.Perm.refl _)).cons _).trans (List.Perm.swap _ _ _))))
                      have hDx : va_D A ((List.flatten ([(oX1 (p1a 0) p1a p1k p1n p1w p1l_68)] : List va_W)) ++ (List.flatten ([(oX8 (p0a 0) p0a p0k p0w)] : List va_W))) := vD_fa (vD_perm hD (bP ((((List.Perm.refl _)).cons _).trans (List.Perm.swap _ _ _))))
                      have hKx : va_K (dC, dI) cls ((List.flatten ([(tX1 p1k)] : List (List (ClassId × FieldType)))) ++ (List.flatten ([(tX8 p0k)] : List (List (ClassId × FieldType))))) s := vK_fa (vK_perm hK (bP ((((List.Perm.refl _)).cons _).trans (List.Perm.swap _ _ _))))
                      have hPc := vP_l hPx
                      have hDc := vD_l hDx
                      have hKc := vK_l hKx
                      have hFc := vfree hDx hS hA
                      refine va_calli (va_runV (As := [.int v6_68, .int v9_83]) (rest := [.ref (p1a 16), .long v7_83]) ⟨hx, hb, hml, hown, hts⟩ (kX1_wayFrom l dC dI (p0a := p1a) (p0k := p1k) (p0n := p1n) (p0w := p1w) (p0l := p1l_68) (p1 := v6_68) (p2 := v9_83) (sz := _) (o := o_11) (hrun := hc_11)) (cwV 2 hts (gi_V qw188 qw189 qw190 qw126 (gi_z qw187)) rfl rfl rfl (by decide +kernel) ⟨Nat.le_of_ble_eq_true rfl, Nat.le_of_ble_eq_true rfl⟩) ⟨PRE.blind, va_recv hKc hPc (ci := 4) (q0 := 0) rfl rfl, PRE.of hE hS hFc hPc hKc hDc⟩ rfl rfl hl.1 rfl (lv_room (Nat.le_of_ble_eq_true rfl)) dX8_findDominators_105 ⟨(Nat.le_of_ble_eq_true rfl), (Nat.le_of_ble_eq_true rfl)⟩) hS (fun q _ h => hFc q h) hFc (fun r12 u t H locs ht hvm hw hB hz1 hk1 hS => ?_)
                      obtain ⟨b1, b2, b3⟩ := hB
                      rw [ht] at b1
                      obtain ⟨hP, hD, hK⟩ := JOINC (wc := (List.flatten ([(oX1 (p1a 0) p1a p1k p1n p1w p1l_68)] : List va_W))) (wr := (List.flatten ([(oX8 (p0a 0) p0a p0k p0w)] : List va_W))) (w1 := (List.flatten ([(oX1 (p1a 0) p1a p1k p1n p1w p1l_68)] : List va_W))) (t1 := (List.flatten ([(tX1 p1k)] : List (List (ClassId × FieldType))))) hPx hDx hKx hk1 hFc b1 (va_K.moved hvm.symm b2) b3
                      have hP : va_P (dC, dI) cls (List.flatten ([(oX8 (p0a 0) p0a p0k p0w), (oX1 (p1a 0) p1a p1k p1n p1w p1l_68)] : List va_W)) H := vP_perm (vP_fb hP) (bP ((((List.Perm.refl _)).cons _).trans (List.Perm.swap _ _ _)))
                      have hD : va_D A (List.flatten ([(oX8 (p0a 0) p0a p0k p0w), (oX1 (p1a 0) p1a p1k p1n p1w p1l_68)] : List va_W)) := vD_perm (vD_fb hD) (bP ((((List.Perm.refl _)).cons _).trans (List.Perm.swap _ _ _)))
                      have hK : va_K (dC, dI) cls (List.flatten ([(tX8 p0k), (tX1 p1k)] : List (List (ClassId × FieldType)))) s := vK_perm (vK_fb hK) (bP ((((List.Perm.refl _)).cons _).trans (List.Perm.swap _ _ _)))
                      obtain rfl : o_11 = r12 := hw.symm
                      obtain ⟨hq13, hrun⟩ := chk9 hrun
                      refine va_lald hx hb hK hP 19 17 rfl rfl (ixb_in hq13) dX8_findDominators_108 ?_
                      refine lv_land hx hb dX8_findDominators_109 ?_
                      refine lv_lstore (lv' := [(7, .long (v7_83 &&& (p1l_68 16 (nn o_11)))), (1, .ref (p1a 0)), (2, .long ((((1 : Int64) <<< (((p1w 0 0) : Int32).toInt64 &&& 63))) - (1 : Int64))), (4, .int v4_68), (5, .int v5_50), (6, .int v6_68), (9, .int v9_83)]) hx hb dX8_findDominators_110 hl (by decide) rfl (fun ls hl => ?_)
                      refine lv_iinc (v := (v9_83 + 1)) (lv' := [(9, .int (v9_83 + 1)), (7, .long (v7_83 &&& (p1l_68 16 (nn o_11)))), (1, .ref (p1a 0)), (2, .long ((((1 : Int64) <<< (((p1w 0 0) : Int32).toInt64 &&& 63))) - (1 : Int64))), (4, .int v4_68), (5, .int v5_50), (6, .int v6_68)]) hx hb dX8_findDominators_112 hl (k := 6) rfl rfl (by decide) rfl (fun ls hl => ?_)
                      refine lv_goto (tgt := 83) hx hb dX8_findDominators_115 (by decide) ?_
                      exact IH83 (v7_83 &&& (p1l_68 16 (nn o_11))) (v9_83 + 1) o83 _ _ _ hrun hP hD hK hS (lv_sub hl [2, 3, 4, 5, 6, 1, 0] rfl) hk83
                obtain ⟨o83, hc83, hrun⟩ := bnd9 hrun
                refine L83 NF ((((1 : Int64) <<< (((p1w 0 0) : Int32).toInt64 &&& 63))) - (1 : Int64)) 0 o83 _ _ _ hc83 hP hD hK hS (lv_sub hl [2, 3, 4, 5, 6, 1, 0] rfl) ?_
                intro H locs ls hP hD hK hS hl
                have hl := hl
                refine lv_lload hx hb dX8_findDominators_118 (lv_at hl 5 rfl) ?_
                refine lv_lconst (v := 1) hx hb dX8_findDominators_120 (by decide) ?_
                refine lv_iload hx hb dX8_findDominators_121 (lv_at hl 4 rfl) ?_
                refine lv_lshl (v := (((1 : Int64) <<< ((v6_68 : Int32).toInt64 &&& 63)))) hx hb dX8_findDominators_123 rfl ?_
                refine lv_lor hx hb dX8_findDominators_124 ?_
                refine lv_lstore (lv' := [(7, .long (o83 ||| (((1 : Int64) <<< ((v6_68 : Int32).toInt64 &&& 63))))), (1, .ref (p1a 0)), (2, .long ((((1 : Int64) <<< (((p1w 0 0) : Int32).toInt64 &&& 63))) - (1 : Int64))), (4, .int v4_68), (5, .int v5_50), (6, .int v6_68)]) hx hb dX8_findDominators_125 hl (by decide) rfl (fun ls hl => ?_)
                refine lv_iload hx hb dX8_findDominators_127 (lv_at hl 3 rfl) ?_
                have J150 : ∀ (y0_150 : Int32) (H : Heap) (locs : List Loc) (ls : Array Slot), (fX8_findDominators_J150 (fX8_findDominators_L68 p1w n_68) v6_68 p1l_68 o83 y0_150) = some o68 → va_P (dC, dI) cls (List.flatten ([(oX8 (p0a 0) p0a p0k p0w), (oX1 (p1a 0) p1a p1k p1n p1w p1l_68)] : List va_W)) H → va_D A (List.flatten ([(oX8 (p0a 0) p0a p0k p0w), (oX1 (p1a 0) p1a p1k p1n p1w p1l_68)] : List va_W)) → va_K (dC, dI) cls (List.flatten ([(tX8 p0k), (tX1 p1k)] : List (List (ClassId × FieldType)))) s → va_S A s.heap H locs → lv_has ls 10 [(1, .ref (p1a 0)), (2, .long ((((1 : Int64) <<< (((p1w 0 0) : Int32).toInt64 &&& 63))) - (1 : Int64))), (5, .int v5_50), (6, .int v6_68), (7, .long (o83 ||| (((1 : Int64) <<< ((v6_68 : Int32).toInt64 &&& 63)))))] → W p l e ({ frames := 2, cells := 0, slots := 0, locals := 45 } : Room) s m ([.ref (p0a 0), .ref (p1a 0)] : List Value).toArray below meth c H locs 0 0 Q (F0 m 150 ls [.int y0_150]) := by
                  intro y0_150 H locs ls hrun hP hD hK hS hl 
                  unfold fX8_findDominators_J150 at hrun
                  refine lv_istore (lv' := [(4, .int y0_150), (1, .ref (p1a 0)), (2, .long ((((1 : Int64) <<< (((p1w 0 0) : Int32).toInt64 &&& 63))) - (1 : Int64))), (5, .int v5_50), (6, .int v6_68), (7, .long (o83 ||| (((1 : Int64) <<< ((v6_68 : Int32).toInt64 &&& 63)))))]) hx hb dX8_findDominators_150 hl (by decide) rfl (fun ls hl => ?_)
                  refine lv_aload_n hx hb dX8_findDominators_152 rfl (lv_at hl 1 rfl) ?_
                  refine va_get (D := (dC, dI)) (ci := 4) (v := .ref (p1a 16)) (C := RX1) (T := TX1) (N := 21) hx hb hts i_X1 hown hK hP 6 rfl rfl 15 (by decide) (hts _ qw182) (fun _ h9 => h9) rfl dX8_findDominators_153 ?_
                  refine lv_iload hx hb dX8_findDominators_156 (lv_at hl 4 rfl) ?_
                  refine lv_lload hx hb dX8_findDominators_158 (lv_at hl 5 rfl) ?_
                  obtain ⟨hq14, hrun⟩ := chk9 hrun
                  refine va_last hx hb hK hP hD hS 19 17 rfl rfl (ixb_in hq14) dX8_findDominators_160 (fun H locs hP hD hS => ?_)
                  have hP : va_P (dC, dI) cls (List.flatten ([(oX8 (p0a 0) p0a p0k p0w), (oX1 (p1a 0) p1a p1k p1n p1w (upl p1l_68 16 (nn v6_68) (o83 ||| (((1 : Int64) <<< ((v6_68 : Int32).toInt64 &&& 63))))))] : List va_W)) H := hP
                  have hD : va_D A (List.flatten ([(oX8 (p0a 0) p0a p0k p0w), (oX1 (p1a 0) p1a p1k p1n p1w (upl p1l_68 16 (nn v6_68) (o83 ||| (((1 : Int64) <<< ((v6_68 : Int32).toInt64 &&& 63))))))] : List va_W)) := hD
                  obtain ⟨l15, el15, hrun⟩ := let9 hrun
                  rw [← el15] at hP hD
                  refine lv_iinc (v := (v6_68 + 1)) (lv' := [(6, .int (v6_68 + 1)), (4, .int y0_150), (1, .ref (p1a 0)), (2, .long ((((1 : Int64) <<< (((p1w 0 0) : Int32).toInt64 &&& 63))) - (1 : Int64))), (5, .int v5_50), (7, .long (o83 ||| (((1 : Int64) <<< ((v6_68 : Int32).toInt64 &&& 63)))))]) hx hb dX8_findDominators_161 hl (k := 4) rfl rfl (by decide) rfl (fun ls hl => ?_)
                  refine lv_goto (tgt := 68) hx hb dX8_findDominators_164 (by decide) ?_
                  exact IH68 y0_150 (v6_68 + 1) l15 o68 _ _ _ hrun hP hD hK hS (lv_sub hl [2, 3, 1, 4, 0] rfl) hk68
                have J145 : ∀ (H : Heap) (locs : List Loc) (ls : Array Slot), (fX8_findDominators_J145 (fX8_findDominators_L68 p1w n_68) v6_68 p1l_68 o83) = some o68 → va_P (dC, dI) cls (List.flatten ([(oX8 (p0a 0) p0a p0k p0w), (oX1 (p1a 0) p1a p1k p1n p1w p1l_68)] : List va_W)) H → va_D A (List.flatten ([(oX8 (p0a 0) p0a p0k p0w), (oX1 (p1a 0) p1a p1k p1n p1w p1l_68)] : List va_W)) → va_K (dC, dI) cls (List.flatten ([(tX8 p0k), (tX1 p1k)] : List (List (ClassId × FieldType)))) s → va_S A s.heap H locs → lv_has ls 10 [(1, .ref (p1a 0)), (2, .long ((((1 : Int64) <<< (((p1w 0 0) : Int32).toInt64 &&& 63))) - (1 : Int64))), (5, .int v5_50), (6, .int v6_68), (7, .long (o83 ||| (((1 : Int64) <<< ((v6_68 : Int32).toInt64 &&& 63)))))] → W p l e ({ frames := 2, cells := 0, slots := 0, locals := 45 } : Room) s m ([.ref (p0a 0), .ref (p1a 0)] : List Value).toArray below meth c H locs 0 0 Q (F0 m 145 ls []) := by
                  intro  H locs ls hrun hP hD hK hS hl 
                  unfold fX8_findDominators_J145 at hrun
                  refine lv_iconst (v := 1) hx hb dX8_findDominators_145 (by decide) ?_
                  refine lv_goto (tgt := 150) hx hb dX8_findDominators_146 (by decide) ?_
                  exact J150 1 _ _ _ hrun hP hD hK hS (lv_sub hl [0, 1, 2, 3, 4] rfl)
                rcases br9 hrun with ⟨hc16, hrun⟩ | ⟨hc16, hrun⟩
                · refine lv_if_ne (tgt := 145) hx hb dX8_findDominators_129 (by decide) (fun c => absurd hc16 c) (fun _ => ?_)
                  refine lv_lload hx hb dX8_findDominators_132 (lv_at hl 0 rfl) ?_
                  refine lv_aload_n hx hb dX8_findDominators_134 rfl (lv_at hl 1 rfl) ?_
                  refine va_get (D := (dC, dI)) (ci := 4) (v := .ref (p1a 16)) (C := RX1) (T := TX1) (N := 21) hx hb hts i_X1 hown hK hP 6 rfl rfl 15 (by decide) (hts _ qw182) (fun _ h9 => h9) rfl dX8_findDominators_135 ?_
                  refine lv_iload hx hb dX8_findDominators_138 (lv_at hl 5 rfl) ?_
                  obtain ⟨hq17, hrun⟩ := chk9 hrun
                  refine va_lald hx hb hK hP 19 17 rfl rfl (ixb_in hq17) dX8_findDominators_140 ?_
                  refine W.lcmp hx hb dX8_findDominators_141 ?_
                  rcases br9 hrun with ⟨hc18, hrun⟩ | ⟨hc18, hrun⟩
                  · refine lv_if_eq (tgt := 149) hx hb dX8_findDominators_142 (by decide) (fun _ => ?_) (fun c => absurd hc18 c)
                    refine lv_iconst (v := 0) hx hb dX8_findDominators_149 (by decide) ?_
                    exact J150 0 _ _ _ hrun hP hD hK hS (lv_sub hl [1, 2, 4, 5, 0] rfl)
                  · refine lv_if_eq (tgt := 149) hx hb dX8_findDominators_142 (by decide) (fun c => absurd c hc18) (fun _ => ?_)
                    exact J145 _ _ _ hrun hP hD hK hS (lv_sub hl [1, 2, 4, 5, 0] rfl)
                · refine lv_if_ne (tgt := 145) hx hb dX8_findDominators_129 (by decide) (fun _ => ?_) (fun c => absurd c hc16)
                  exact J145 _ _ _ hrun hP hD hK hS (lv_sub hl [1, 2, 4, 5, 0] rfl)
          obtain ⟨o68, hc68, hrun⟩ := bnd9 hrun
          refine L68 NF 0 1 p1l_50 o68 _ _ _ hc68 hP hD hK hS (lv_sub hl [2, 3, 1, 4, 0] rfl) ?_
          intro H locs ls hP hD hK hS hl
          have hl := hl
          refine lv_iinc (v := (v5_50 + 1)) (lv' := [(5, .int (v5_50 + 1)), (1, .ref (p1a 0)), (2, .long ((((1 : Int64) <<< (((p1w 0 0) : Int32).toInt64 &&& 63))) - (1 : Int64))), (4, .int (o68.1))]) hx hb dX8_findDominators_167 hl (k := 3) rfl rfl (by decide) rfl (fun ls hl => ?_)
          refine lv_goto (tgt := 50) hx hb dX8_findDominators_170 (by decide) ?_
          exact IH50 (o68.1) (v5_50 + 1) (o68.2) o50 _ _ _ hrun hP hD hK hS (lv_sub hl [1, 2, 3, 0] rfl) hk50
  obtain ⟨o50, hc50, hrun⟩ := bnd9 hrun
  refine L50 NF 1 0 o12 o50 _ _ _ hc50 hP hD hK hS (lv_sub hl [2, 3, 1, 0] rfl) ?_
  intro H locs ls hP hD hK hS hl
  have hl := hl
  refine lv_iconst (v := 0) hx hb dX8_findDominators_173 (by decide) ?_
  refine lv_istore (lv' := [(5, .int 0), (1, .ref (p1a 0))]) hx hb dX8_findDominators_174 hl (by decide) rfl (fun ls hl => ?_)
  have L176 : ∀ (n_176 : Nat) (v5_176 : Int32) (p1w_176 : ST) (o176 : ST) (H : Heap) (locs : List Loc) (ls : Array Slot), (fX8_findDominators_L176 o50 n_176) v5_176 p1w_176 = some o176 → va_P (dC, dI) cls (List.flatten ([(oX8 (p0a 0) p0a p0k p0w), (oX1 (p1a 0) p1a p1k p1n p1w_176 o50)] : List va_W)) H → va_D A (List.flatten ([(oX8 (p0a 0) p0a p0k p0w), (oX1 (p1a 0) p1a p1k p1n p1w_176 o50)] : List va_W)) → va_K (dC, dI) cls (List.flatten ([(tX8 p0k), (tX1 p1k)] : List (List (ClassId × FieldType)))) s → va_S A s.heap H locs → lv_has ls 10 [(1, .ref (p1a 0)), (5, .int v5_176)] → (∀ (H : Heap) (locs : List Loc) (ls : Array Slot), va_P (dC, dI) cls (List.flatten ([(oX8 (p0a 0) p0a p0k p0w), (oX1 (p1a 0) p1a p1k p1n o176 o50)] : List va_W)) H → va_D A (List.flatten ([(oX8 (p0a 0) p0a p0k p0w), (oX1 (p1a 0) p1a p1k p1n o176 o50)] : List va_W)) → va_K (dC, dI) cls (List.flatten ([(tX8 p0k), (tX1 p1k)] : List (List (ClassId × FieldType)))) s → va_S A s.heap H locs → lv_has ls 10 [] → W p l e ({ frames := 2, cells := 0, slots := 0, locals := 45 } : Room) s m ([.ref (p0a 0), .ref (p1a 0)] : List Value).toArray below meth c H locs 0 0 Q (F0 m 210 ls [])) → W p l e ({ frames := 2, cells := 0, slots := 0, locals := 45 } : Room) s m ([.ref (p0a 0), .ref (p1a 0)] : List Value).toArray below meth c H locs 0 0 Q (F0 m 176 ls []) := by
    intro n_176
    induction n_176 with
    | zero => intro v5_176 p1w_176 o176 H locs ls hrun; exact (no9 rfl hrun).elim
    | succ n_176 IH176 =>
      intro v5_176 p1w_176 o176 H locs ls hrun hP hD hK hS hl hk176
      unfold fX8_findDominators_L176 at hrun
      refine lv_iload hx hb dX8_findDominators_176 (lv_at hl 1 rfl) ?_
      refine lv_aload_n hx hb dX8_findDominators_178 rfl (lv_at hl 0 rfl) ?_
      refine va_get (D := (dC, dI)) (ci := 4) (v := .int (p1w_176 0 0)) (C := RX1) (T := TX1) (N := 21) hx hb hts i_X1 hown hK hP 6 rfl rfl 0 (by decide) (hts _ qw181) (fun _ h9 => h9) rfl dX8_findDominators_179 ?_
      rcases br9 hrun with ⟨hc19, hrun⟩ | ⟨hc19, hrun⟩
      · refine lv_icmp_ge (tgt := 210) hx hb dX8_findDominators_182 (by decide) (fun _ => ?_) (fun c => absurd hc19 c)
        obtain rfl := (Option.some.inj hrun)
        exact hk176 _ _ _ hP hD hK hS (lv_sub hl [] rfl)
      · refine lv_icmp_ge (tgt := 210) hx hb dX8_findDominators_182 (by decide) (fun c => absurd c hc19) (fun _ => ?_)
        refine lv_aload_n hx hb dX8_findDominators_185 rfl (lv_at hl 0 rfl) ?_
        refine va_get (D := (dC, dI)) (ci := 4) (v := .ref (p1a 12)) (C := RX1) (T := TX1) (N := 21) hx hb hts i_X1 hown hK hP 6 rfl rfl 11 (by decide) (hts _ qw191) (fun _ h9 => h9) rfl dX8_findDominators_186 ?_
        refine lv_iload hx hb dX8_findDominators_189 (lv_at hl 1 rfl) ?_
        refine lv_aload_n hx hb dX8_findDominators_191 rfl (lv_at hl 0 rfl) ?_
        refine va_get (D := (dC, dI)) (ci := 4) (v := .ref (p1a 16)) (C := RX1) (T := TX1) (N := 21) hx hb hts i_X1 hown hK hP 6 rfl rfl 15 (by decide) (hts _ qw182) (fun _ h9 => h9) rfl dX8_findDominators_192 ?_
        refine lv_iload hx hb dX8_findDominators_195 (lv_at hl 1 rfl) ?_
        obtain ⟨hq20, hrun⟩ := chk9 hrun
        refine va_lald hx hb hK hP 19 17 rfl rfl (ixb_in hq20) dX8_findDominators_197 ?_
        refine lv_iload hx hb dX8_findDominators_198 (lv_at hl 1 rfl) ?_
        obtain ⟨o_21, hc_21, hrun⟩ := bnd9 hrun
        have hPx : va_P (dC, dI) cls ((List.flatten ([] : List va_W)) ++ (List.flatten ([(oX8 (p0a 0) p0a p0k p0w), (oX1 (p1a 0) p1a p1k p1n p1w_176 o50)] : List va_W))) H := vP_fa (vP_perm hP (bP (List.Perm.refl _)))
        have hDx : va_D A ((List.flatten ([] : List va_W)) ++ (List.flatten ([(oX8 (p0a 0) p0a p0k p0w), (oX1 (p1a 0) p1a p1k p1n p1w_176 o50)] : List va_W))) := vD_fa (vD_perm hD (bP (List.Perm.refl _)))
        have hKx : va_K (dC, dI) cls ((List.flatten ([] : List (List (ClassId × FieldType)))) ++ (List.flatten ([(tX8 p0k), (tX1 p1k)] : List (List (ClassId × FieldType))))) s := vK_fa (vK_perm hK (bP (List.Perm.refl _)))
        have hPc := vP_l hPx
        have hDc := vD_l hDx
        have hKc := vK_l hKx
        have hFc := vfree hDx hS hA
        refine va_calli (va_runS (As := [.long (o50 16 (nn v5_176)), .int v5_176]) (rest := [.int v5_176, .ref (p1a 12)]) ⟨hx, hb, hml, hown, hts⟩ (kX8_nearest l dC dI (p0 := (o50 16 (nn v5_176))) (p1 := v5_176) (sz := _) (o := o_21) (hrun := hc_21)) (va_cwS 2 hts (gi_S qw195 qw196 qw197 (gi_z qw194)) rfl rfl rfl (by decide +kernel) ⟨Nat.le_of_ble_eq_true rfl, Nat.le_of_ble_eq_true rfl⟩) ⟨PRE.blind, PRE.of hE hS hFc hPc hKc hDc⟩ rfl rfl hl.1 rfl (lv_room (Nat.le_of_ble_eq_true rfl)) dX8_findDominators_200 ⟨(Nat.le_of_ble_eq_true rfl), (Nat.le_of_ble_eq_true rfl)⟩) hS (fun q _ h => hFc q h) hFc (fun r22 u t H locs ht hvm hw hB hz1 hk1 hS => ?_)
        obtain ⟨b1, b2, b3⟩ := hB
        rw [ht] at b1
        obtain ⟨hP, hD, hK⟩ := JOINC (wc := (List.flatten ([] : List va_W))) (wr := (List.flatten ([(oX8 (p0a 0) p0a p0k p0w), (oX1 (p1a 0) p1a p1k p1n p1w_176 o50)] : List va_W))) (w1 := (List.flatten ([] : List va_W))) (t1 := (List.flatten ([] : List (List (ClassId × FieldType))))) hPx hDx hKx hk1 hFc b1 (va_K.moved hvm.symm b2) b3
        have hP : va_P (dC, dI) cls (List.flatten ([(oX8 (p0a 0) p0a p0k p0w), (oX1 (p1a 0) p1a p1k p1n p1w_176 o50)] : List va_W)) H := vP_perm (vP_fb hP) (bP (List.Perm.refl _))
        have hD : va_D A (List.flatten ([(oX8 (p0a 0) p0a p0k p0w), (oX1 (p1a 0) p1a p1k p1n p1w_176 o50)] : List va_W)) := vD_perm (vD_fb hD) (bP (List.Perm.refl _))
        have hK : va_K (dC, dI) cls (List.flatten ([(tX8 p0k), (tX1 p1k)] : List (List (ClassId × FieldType)))) s := vK_perm (vK_fb hK) (bP (List.Perm.refl _))
        obtain rfl : o_21 = r22 := hw.symm
        obtain ⟨hq23, hrun⟩ := chk9 hrun
        refine va_iast hx hb hK hP hD hS 15 13 rfl rfl (ixb_in hq23) dX8_findDominators_203 (fun H locs hP hD hS => ?_)
        have hP : va_P (dC, dI) cls (List.flatten ([(oX8 (p0a 0) p0a p0k p0w), (oX1 (p1a 0) p1a p1k p1n (upw p1w_176 12 (nn v5_176) o_21) o50)] : List va_W)) H := hP
        have hD : va_D A (List.flatten ([(oX8 (p0a 0) p0a p0k p0w), (oX1 (p1a 0) p1a p1k p1n (upw p1w_176 12 (nn v5_176) o_21) o50)] : List va_W)) := hD
        obtain ⟨w24, ew24, hrun⟩ := let9 hrun
        rw [← ew24] at hP hD
        refine lv_iinc (v := (v5_176 + 1)) (lv' := [(5, .int (v5_176 + 1)), (1, .ref (p1a 0))]) hx hb dX8_findDominators_204 hl (k := 1) rfl rfl (by decide) rfl (fun ls hl => ?_)
        refine lv_goto (tgt := 176) hx hb dX8_findDominators_207 (by decide) ?_
        exact IH176 (v5_176 + 1) w24 o176 _ _ _ hrun hP hD hK hS (lv_sub hl [1, 0] rfl) hk176
  obtain ⟨o176, hc176, hrun⟩ := bnd9 hrun
  refine L176 NF 0 p1w o176 _ _ _ hc176 hP hD hK hS (lv_sub hl [1, 0] rfl) ?_
  intro H locs ls hP hD hK hS hl
  have hl := hl
  have ho9 : (o176, o50) = o := Option.some.inj hrun
  have hP9 : va_P (dC, dI) cls (List.flatten ([(oX8 (p0a 0) p0a p0k p0w), (oX1 (p1a 0) p1a p1k p1n (o.1) (o.2))] : List va_W)) H := by first | exact hP | (rw [← ho9]; exact hP)
  have hD9 : va_D A (List.flatten ([(oX8 (p0a 0) p0a p0k p0w), (oX1 (p1a 0) p1a p1k p1n (o.1) (o.2))] : List va_W)) := by first | exact hD | (rw [← ho9]; exact hD)
  subst hQ
  exact W.vret hx hb hr (fun t ht hW => ⟨⟨(), rfl, trivial, ⟨by rw [ht]; exact hP9, va_K.moved hW.alike hK, hD9⟩⟩, hS.F ht⟩) hS.2.2 dX8_findDominators_210
def fX8_waysInto_L5 (p0w : ST) (p1 : Int32) : Nat → Int64 → Int32 → Option Int64
  | 0 => fun _ _ => none
  | n_5 + 1 => fun v2_5 v4_5 => ((fX1_waysTo p0w p1).bind fun (o_1 : Int32) => (if o_1 ≤ v4_5 then some v2_5 else ((fX1_wayFrom p0w p1 v4_5).bind fun (o_4 : Int32) => ((fX8_waysInto_L5 p0w p1 n_5) (v2_5 ||| (((1 : Int64) <<< ((o_4 : Int32).toInt64 &&& 63)))) (v4_5 + 1)))))
def fX8_waysInto (p0w : ST) (p1 : Int32) : Option Int64 := ((fX8_waysInto_L5 p0w p1 NF 0 0).bind fun (o5 : Int64) => some o5)
set_option maxHeartbeats 16000000 in
set_option maxRecDepth 100000 in
theorem kX8_waysInto {zs : ZS} (l : Launch) (dC : Nat → ClassId) (dI : Nat → Nat → Nat) (p0a : Nat → Nat) (p0k : Nat → ClassId) (p0n : Nat → Nat) (p0w : ST) (p0l : SL) (p1 : Int32) (sz : Nat) (o : Int64) (hrun : fX8_waysInto p0w p1 = some o) : Met l yX8_waysInto (wz yX8_waysInto cX8_waysInto 5 (Option.some Jvm.ClassFile.FieldType.long)) ({ frames := 1, cells := 0, slots := 0, locals := 22 } : Room) (va_Pc [.ref (p0a 0), .int p1] (PRE zs dC dI (List.flatten ([(oX1 (p0a 0) p0a p0k p0n p0w p0l)] : List va_W)) (List.flatten ([(tX1 p0k)] : List (List (ClassId × FieldType)))) sz)) (va_Ql (fun (r : Int64) (_ : Unit) => r = o) (fun _ t => POST dC dI (List.flatten ([(oX1 (p0a 0) p0a p0k p0n p0w p0l)] : List va_W)) (List.flatten ([(tX1 p0k)] : List (List (ClassId × FieldType)))) (va_A (List.flatten ([(oX1 (p0a 0) p0a p0k p0n p0w p0l)] : List va_W)) sz) t) (va_A (List.flatten ([(oX1 (p0a 0) p0a p0k p0n p0w p0l)] : List va_W)) sz)) 0 0 (va_A (List.flatten ([(oX1 (p0a 0) p0a p0k p0n p0w p0l)] : List va_W)) sz) := by
  refine Met.ofW (cc := cX8_waysInto) (maxL := 5) (ret := (Option.some Jvm.ClassFile.FieldType.long)) (by decide) rfl ?_
  intro p e s m args below meth c s₁ B hml hv
  obtain ⟨rfl, hsz, hP, hK, hD0, hE⟩ := hv
  have hx := B.exec
  have hb := B.bytes
  have hr := B.returns
  have hts0 := atoms_spec (ws := wz yX8_waysInto cX8_waysInto 5 (Option.some Jvm.ClassFile.FieldType.long)) B.pre
  have hts : ∀ w ∈ gw, w.before _ s = true := fun w h => hts0 w (List.mem_cons_of_mem _ h)
  have hown : s.vm.findClass RX8 = some m.cls := findClass_of_methodNamed B.named
  have hlocks := B.notSynchronized
  subst hsz
  have hD := hD0.self (sz := s.heap.size)
  refine gQ9 ?_
  intro Q hQ
  generalize hAe : va_A (List.flatten ([(oX1 (p0a 0) p0a p0k p0n p0w p0l)] : List va_W)) s.heap.size = A at hD hE hQ
  have hA : ∀ q : Nat, s.heap.size ≤ q → A q := fun q h => by rw [← hAe]; exact Or.inr h
  have hS : va_S A s.heap s.heap [] := va_S.rf
  have hP : va_P (dC, dI) cls (List.flatten ([(oX1 (p0a 0) p0a p0k p0n p0w p0l)] : List va_W)) s.heap := hP
  have hl := lv_entry ([.ref (p0a 0), .int p1]) (n := 5) (Nat.le_of_ble_eq_true rfl)
  rw [lg_entry_eq]
  generalize (lg_sl ([.ref (p0a 0), .int p1]) ++ List.replicate (5 - (lg_sl ([.ref (p0a 0), .int p1])).length) Slot.unset).toArray = ls at hl ⊢
  have hl : lv_has ls 5 [(0, .ref (p0a 0)), (1, .int p1)] := hl
  obtain ⟨H, hHe⟩ : ∃ H, H = s.heap := ⟨_, rfl⟩
  obtain ⟨locs, hle⟩ : ∃ locs : List Loc, locs = [] := ⟨_, rfl⟩
  rw [← hHe] at hP
  have hS : va_S A s.heap H locs := by rw [hHe, hle]; exact hS
  show W p l e ({ frames := 1, cells := 0, slots := 0, locals := 22 } : Room) s m ([.ref (p0a 0), .int p1] : List Value).toArray below meth c s.heap [] 0 0 Q (F0 m 0 ls [])
  rw [← hle]
  refine wH9 hHe ?_
  unfold fX8_waysInto at hrun
  refine lv_lconst (v := 0) hx hb dX8_waysInto_0 (by decide) ?_
  refine lv_lstore_n (lv' := [(2, .long 0), (0, .ref (p0a 0)), (1, .int p1)]) hx hb dX8_waysInto_1 rfl hl (by decide) rfl (fun ls hl => ?_)
  refine lv_iconst (v := 0) hx hb dX8_waysInto_2 (by decide) ?_
  refine lv_istore (lv' := [(4, .int 0), (2, .long 0), (0, .ref (p0a 0)), (1, .int p1)]) hx hb dX8_waysInto_3 hl (by decide) rfl (fun ls hl => ?_)
  have L5 : ∀ (n_5 : Nat) (v2_5 : Int64) (v4_5 : Int32) (o5 : Int64) (H : Heap) (locs : List Loc) (ls : Array Slot), (fX8_waysInto_L5 p0w p1 n_5) v2_5 v4_5 = some o5 → va_P (dC, dI) cls (List.flatten ([(oX1 (p0a 0) p0a p0k p0n p0w p0l)] : List va_W)) H → va_D A (List.flatten ([(oX1 (p0a 0) p0a p0k p0n p0w p0l)] : List va_W)) → va_K (dC, dI) cls (List.flatten ([(tX1 p0k)] : List (List (ClassId × FieldType)))) s → va_S A s.heap H locs → lv_has ls 5 [(0, .ref (p0a 0)), (1, .int p1), (2, .long v2_5), (4, .int v4_5)] → (∀ (H : Heap) (locs : List Loc) (ls : Array Slot), va_P (dC, dI) cls (List.flatten ([(oX1 (p0a 0) p0a p0k p0n p0w p0l)] : List va_W)) H → va_D A (List.flatten ([(oX1 (p0a 0) p0a p0k p0n p0w p0l)] : List va_W)) → va_K (dC, dI) cls (List.flatten ([(tX1 p0k)] : List (List (ClassId × FieldType)))) s → va_S A s.heap H locs → lv_has ls 5 [(2, .long o5)] → W p l e ({ frames := 1, cells := 0, slots := 0, locals := 22 } : Room) s m ([.ref (p0a 0), .int p1] : List Value).toArray below meth c H locs 0 0 Q (F0 m 33 ls [])) → W p l e ({ frames := 1, cells := 0, slots := 0, locals := 22 } : Room) s m ([.ref (p0a 0), .int p1] : List Value).toArray below meth c H locs 0 0 Q (F0 m 5 ls []) := by
    intro n_5
    induction n_5 with
    | zero => intro v2_5 v4_5 o5 H locs ls hrun; exact (no9 rfl hrun).elim
    | succ n_5 IH5 =>
      intro v2_5 v4_5 o5 H locs ls hrun hP hD hK hS hl hk5
      unfold fX8_waysInto_L5 at hrun
      refine lv_iload hx hb dX8_waysInto_5 (lv_at hl 3 rfl) ?_
      refine lv_aload_n hx hb dX8_waysInto_7 rfl (lv_at hl 0 rfl) ?_
      refine lv_iload_n hx hb dX8_waysInto_8 rfl (lv_at hl 1 rfl) ?_
      obtain ⟨o_1, hc_1, hrun⟩ := bnd9 hrun
      have hPx : va_P (dC, dI) cls ((List.flatten ([(oX1 (p0a 0) p0a p0k p0n p0w p0l)] : List va_W)) ++ (List.flatten ([] : List va_W))) H := vP_fa (vP_perm hP (bP (List.Perm.refl _)))
      have hDx : va_D A ((List.flatten ([(oX1 (p0a 0) p0a p0k p0n p0w p0l)] : List va_W)) ++ (List.flatten ([] : List va_W))) := vD_fa (vD_perm hD (bP (List.Perm.refl _)))
      have hKx : va_K (dC, dI) cls ((List.flatten ([(tX1 p0k)] : List (List (ClassId × FieldType)))) ++ (List.flatten ([] : List (List (ClassId × FieldType))))) s := vK_fa (vK_perm hK (bP (List.Perm.refl _)))
      have hPc := vP_l hPx
      have hDc := vD_l hDx
      have hKc := vK_l hKx
      have hFc := vfree hDx hS hA
      refine va_calli (va_runV (As := [.int p1]) (rest := [.int v4_5]) ⟨hx, hb, hml, hown, hts⟩ (kX1_waysTo l dC dI (p0a := p0a) (p0k := p0k) (p0n := p0n) (p0w := p0w) (p0l := p0l) (p1 := p1) (sz := _) (o := o_1) (hrun := hc_1)) (cwV 1 hts (gi_V qw184 qw185 qw186 qw126 (gi_z qw183)) rfl rfl rfl (by decide +kernel) ⟨Nat.le_of_ble_eq_true rfl, Nat.le_of_ble_eq_true rfl⟩) ⟨PRE.blind, va_recv hKc hPc (ci := 4) (q0 := 0) rfl rfl, PRE.of hE hS hFc hPc hKc hDc⟩ rfl rfl hl.1 rfl (lv_room (Nat.le_of_ble_eq_true rfl)) dX8_waysInto_9 ⟨(Nat.le_of_ble_eq_true rfl), (Nat.le_of_ble_eq_true rfl)⟩) hS (fun q _ h => hFc q h) hFc (fun r2 u t H locs ht hvm hw hB hz1 hk1 hS => ?_)
      obtain ⟨b1, b2, b3⟩ := hB
      rw [ht] at b1
      obtain ⟨hP, hD, hK⟩ := JOINC (wc := (List.flatten ([(oX1 (p0a 0) p0a p0k p0n p0w p0l)] : List va_W))) (wr := (List.flatten ([] : List va_W))) (w1 := (List.flatten ([(oX1 (p0a 0) p0a p0k p0n p0w p0l)] : List va_W))) (t1 := (List.flatten ([(tX1 p0k)] : List (List (ClassId × FieldType))))) hPx hDx hKx hk1 hFc b1 (va_K.moved hvm.symm b2) b3
      have hP : va_P (dC, dI) cls (List.flatten ([(oX1 (p0a 0) p0a p0k p0n p0w p0l)] : List va_W)) H := vP_perm (vP_fb hP) (bP (List.Perm.refl _))
      have hD : va_D A (List.flatten ([(oX1 (p0a 0) p0a p0k p0n p0w p0l)] : List va_W)) := vD_perm (vD_fb hD) (bP (List.Perm.refl _))
      have hK : va_K (dC, dI) cls (List.flatten ([(tX1 p0k)] : List (List (ClassId × FieldType)))) s := vK_perm (vK_fb hK) (bP (List.Perm.refl _))
      obtain rfl : o_1 = r2 := hw.symm
      rcases br9 hrun with ⟨hc3, hrun⟩ | ⟨hc3, hrun⟩
      · refine lv_icmp_ge (tgt := 33) hx hb dX8_waysInto_12 (by decide) (fun _ => ?_) (fun c => absurd hc3 c)
        obtain rfl := (Option.some.inj hrun)
        exact hk5 _ _ _ hP hD hK hS (lv_sub hl [2] rfl)
      · refine lv_icmp_ge (tgt := 33) hx hb dX8_waysInto_12 (by decide) (fun c => absurd c hc3) (fun _ => ?_)
        refine lv_lload_n hx hb dX8_waysInto_15 rfl (lv_at hl 2 rfl) ?_
        refine lv_lconst (v := 1) hx hb dX8_waysInto_16 (by decide) ?_
        refine lv_aload_n hx hb dX8_waysInto_17 rfl (lv_at hl 0 rfl) ?_
        refine lv_iload_n hx hb dX8_waysInto_18 rfl (lv_at hl 1 rfl) ?_
        refine lv_iload hx hb dX8_waysInto_19 (lv_at hl 3 rfl) ?_
        obtain ⟨o_4, hc_4, hrun⟩ := bnd9 hrun
        have hPx : va_P (dC, dI) cls ((List.flatten ([(oX1 (p0a 0) p0a p0k p0n p0w p0l)] : List va_W)) ++ (List.flatten ([] : List va_W))) H := vP_fa (vP_perm hP (bP (List.Perm.refl _)))
        have hDx : va_D A ((List.flatten ([(oX1 (p0a 0) p0a p0k p0n p0w p0l)] : List va_W)) ++ (List.flatten ([] : List va_W))) := vD_fa (vD_perm hD (bP (List.Perm.refl _)))
        have hKx : va_K (dC, dI) cls ((List.flatten ([(tX1 p0k)] : List (List (ClassId × FieldType)))) ++ (List.flatten ([] : List (List (ClassId × FieldType))))) s := vK_fa (vK_perm hK (bP (List.Perm.refl _)))
        have hPc := vP_l hPx
        have hDc := vD_l hDx
        have hKc := vK_l hKx
        have hFc := vfree hDx hS hA
        refine va_calli (va_runV (As := [.int p1, .int v4_5]) (rest := [.long 1, .long v2_5]) ⟨hx, hb, hml, hown, hts⟩ (kX1_wayFrom l dC dI (p0a := p0a) (p0k := p0k) (p0n := p0n) (p0w := p0w) (p0l := p0l) (p1 := p1) (p2 := v4_5) (sz := _) (o := o_4) (hrun := hc_4)) (cwV 2 hts (gi_V qw188 qw189 qw190 qw126 (gi_z qw187)) rfl rfl rfl (by decide +kernel) ⟨Nat.le_of_ble_eq_true rfl, Nat.le_of_ble_eq_true rfl⟩) ⟨PRE.blind, va_recv hKc hPc (ci := 4) (q0 := 0) rfl rfl, PRE.of hE hS hFc hPc hKc hDc⟩ rfl rfl hl.1 rfl (lv_room (Nat.le_of_ble_eq_true rfl)) dX8_waysInto_21 ⟨(Nat.le_of_ble_eq_true rfl), (Nat.le_of_ble_eq_true rfl)⟩) hS (fun q _ h => hFc q h) hFc (fun r5 u t H locs ht hvm hw hB hz1 hk1 hS => ?_)
        obtain ⟨b1, b2, b3⟩ := hB
        rw [ht] at b1
        obtain ⟨hP, hD, hK⟩ := JOINC (wc := (List.flatten ([(oX1 (p0a 0) p0a p0k p0n p0w p0l)] : List va_W))) (wr := (List.flatten ([] : List va_W))) (w1 := (List.flatten ([(oX1 (p0a 0) p0a p0k p0n p0w p0l)] : List va_W))) (t1 := (List.flatten ([(tX1 p0k)] : List (List (ClassId × FieldType))))) hPx hDx hKx hk1 hFc b1 (va_K.moved hvm.symm b2) b3
        have hP : va_P (dC, dI) cls (List.flatten ([(oX1 (p0a 0) p0a p0k p0n p0w p0l)] : List va_W)) H := vP_perm (vP_fb hP) (bP (List.Perm.refl _))
        have hD : va_D A (List.flatten ([(oX1 (p0a 0) p0a p0k p0n p0w p0l)] : List va_W)) := vD_perm (vD_fb hD) (bP (List.Perm.refl _))
        have hK : va_K (dC, dI) cls (List.flatten ([(tX1 p0k)] : List (List (ClassId × FieldType)))) s := vK_perm (vK_fb hK) (bP (List.Perm.refl _))
        obtain rfl : o_4 = r5 := hw.symm
        refine lv_lshl (v := (((1 : Int64) <<< ((o_4 : Int32).toInt64 &&& 63)))) hx hb dX8_waysInto_24 rfl ?_
        refine lv_lor hx hb dX8_waysInto_25 ?_
        refine lv_lstore_n (lv' := [(2, .long (v2_5 ||| (((1 : Int64) <<< ((o_4 : Int32).toInt64 &&& 63))))), (0, .ref (p0a 0)), (1, .int p1), (4, .int v4_5)]) hx hb dX8_waysInto_26 rfl hl (by decide) rfl (fun ls hl => ?_)
        refine lv_iinc (v := (v4_5 + 1)) (lv' := [(4, .int (v4_5 + 1)), (2, .long (v2_5 ||| (((1 : Int64) <<< ((o_4 : Int32).toInt64 &&& 63))))), (0, .ref (p0a 0)), (1, .int p1)]) hx hb dX8_waysInto_27 hl (k := 3) rfl rfl (by decide) rfl (fun ls hl => ?_)
        refine lv_goto (tgt := 5) hx hb dX8_waysInto_30 (by decide) ?_
        exact IH5 (v2_5 ||| (((1 : Int64) <<< ((o_4 : Int32).toInt64 &&& 63)))) (v4_5 + 1) o5 _ _ _ hrun hP hD hK hS (lv_sub hl [2, 3, 1, 0] rfl) hk5
  obtain ⟨o5, hc5, hrun⟩ := bnd9 hrun
  refine L5 NF 0 0 o5 _ _ _ hc5 hP hD hK hS (lv_sub hl [2, 3, 1, 0] rfl) ?_
  intro H locs ls hP hD hK hS hl
  have hl := hl
  refine lv_lload_n hx hb dX8_waysInto_33 rfl (lv_at hl 0 rfl) ?_
  have ho9 : o5 = o := Option.some.inj hrun
  have hP9 : va_P (dC, dI) cls (List.flatten ([(oX1 (p0a 0) p0a p0k p0n p0w p0l)] : List va_W)) H := by first | exact hP | (rw [← ho9]; exact hP)
  have hD9 : va_D A (List.flatten ([(oX1 (p0a 0) p0a p0k p0n p0w p0l)] : List va_W)) := by first | exact hD | (rw [← ho9]; exact hD)
  subst hQ
  exact W.lret (v := o5) hx hb hr (fun t ht hW => ⟨⟨o5, (), rfl, (by rw [← ho9]), ⟨by rw [ht]; exact hP9, va_K.moved hW.alike hK, hD9⟩⟩, hS.F ht⟩) hS.2.2 dX8_waysInto_34
def fX8_findLoop_J45 (kk5 : Int64 → Int32 → Option Int64) (v4_5 : Int32) (v2_45 : Int64) : Option Int64 := (kk5 v2_45 (v4_5 + 1))
def fX8_findLoop_L5 (p0w : ST) (p0l : SL) (p1 : Int32) : Nat → Int64 → Int32 → Option Int64
  | 0 => fun _ _ => none
  | n_5 + 1 => fun v2_5 v4_5 => ((fX1_waysTo p0w p1).bind fun (o_1 : Int32) => (if o_1 ≤ v4_5 then some v2_5 else ((fX1_wayFrom p0w p1 v4_5).bind fun (o_4 : Int32) => (if ixb o_4 60 = true then ((fX11_holds (p0l 16 (nn o_4)) p1).bind fun (o_7 : Int32) => (if o_7 = 0 then (fX8_findLoop_J45 (fX8_findLoop_L5 p0w p0l p1 n_5) v4_5 v2_5) else (fX8_findLoop_J45 (fX8_findLoop_L5 p0w p0l p1 n_5) v4_5 (v2_5 ||| (((1 : Int64) <<< ((o_4 : Int32).toInt64 &&& 63))))))) else none))))
def fX8_findLoop_J123 (kk94 : Int64 → Int32 → Option Int64) (v8_94 : Int32) (v2_123 : Int64) : Option Int64 := (kk94 v2_123 (v8_94 + (-1)))
def fX8_findLoop_L94 (p0w : ST) (p1 : Int32) : Nat → Int64 → Int32 → Option Int64
  | 0 => fun _ _ => none
  | n_94 + 1 => fun v2_94 v8_94 => (if v8_94 < 0 then some v2_94 else (if v8_94 = p1 then (fX8_findLoop_J123 (fX8_findLoop_L94 p0w p1 n_94) v8_94 v2_94) else ((fX11_holds v2_94 v8_94).bind fun (o_15 : Int32) => (if o_15 = 0 then (fX8_findLoop_J123 (fX8_findLoop_L94 p0w p1 n_94) v8_94 v2_94) else ((fX8_waysInto p0w v8_94).bind fun (o_18 : Int64) => (fX8_findLoop_J123 (fX8_findLoop_L94 p0w p1 n_94) v8_94 (v2_94 ||| o_18)))))))
def fX8_findLoop_J141 (kk71 : Int64 → Int32 → Int32 → Option Int64) (v5_71 : Int32) (o94 : Int64) (y0_141 : Int32) : Option Int64 := (kk71 o94 y0_141 (v5_71 + 1))
def fX8_findLoop_L71 (p0w : ST) (p1 : Int32) : Nat → Int64 → Int32 → Int32 → Option Int64
  | 0 => fun _ _ _ => none
  | n_71 + 1 => fun v2_71 v4_71 v5_71 => (if v4_71 = 0 then some v2_71 else (if 60 < v5_71 then some v2_71 else ((fX8_findLoop_L94 p0w p1 NF v2_71 ((p0w 0 0) - 1)).bind fun (o94 : Int64) => (if (lg_cmp o94 v2_71) = 0 then (fX8_findLoop_J141 (fX8_findLoop_L71 p0w p1 n_71) v5_71 o94 0) else (fX8_findLoop_J141 (fX8_findLoop_L71 p0w p1 n_71) v5_71 o94 1)))))
def fX8_findLoop (p0w : ST) (p0l : SL) (p1 : Int32) : Option Int64 := ((fX8_findLoop_L5 p0w p0l p1 NF 0 0).bind fun (o5 : Int64) => (if (lg_cmp o5 (0 : Int64)) = 0 then some 0 else ((fX8_findLoop_L71 p0w p1 NF (o5 ||| (((1 : Int64) <<< ((p1 : Int32).toInt64 &&& 63)))) 1 0).bind fun (o71 : Int64) => some o71)))
set_option maxHeartbeats 16000000 in
set_option maxRecDepth 100000 in
theorem kX8_findLoop {zs : ZS} (l : Launch) (dC : Nat → ClassId) (dI : Nat → Nat → Nat) (p0a : Nat → Nat) (p0k : Nat → ClassId) (p0n : Nat → Nat) (p0w : ST) (p0l : SL) (p1 : Int32) (sz : Nat) (o : Int64) (hrun : fX8_findLoop p0w p0l p1 = some o) : Met l yX8_findLoop (wz yX8_findLoop cX8_findLoop 9 (Option.some Jvm.ClassFile.FieldType.long)) ({ frames := 2, cells := 0, slots := 0, locals := 46 } : Room) (va_Pc [.ref (p0a 0), .int p1] (PRE zs dC dI (List.flatten ([(oX1 (p0a 0) p0a p0k p0n p0w p0l)] : List va_W)) (List.flatten ([(tX1 p0k)] : List (List (ClassId × FieldType)))) sz)) (va_Ql (fun (r : Int64) (_ : Unit) => r = o) (fun _ t => POST dC dI (List.flatten ([(oX1 (p0a 0) p0a p0k p0n p0w p0l)] : List va_W)) (List.flatten ([(tX1 p0k)] : List (List (ClassId × FieldType)))) (va_A (List.flatten ([(oX1 (p0a 0) p0a p0k p0n p0w p0l)] : List va_W)) sz) t) (va_A (List.flatten ([(oX1 (p0a 0) p0a p0k p0n p0w p0l)] : List va_W)) sz)) 0 0 (va_A (List.flatten ([(oX1 (p0a 0) p0a p0k p0n p0w p0l)] : List va_W)) sz) := by
  refine Met.ofW (cc := cX8_findLoop) (maxL := 9) (ret := (Option.some Jvm.ClassFile.FieldType.long)) (by decide) rfl ?_
  intro p e s m args below meth c s₁ B hml hv
  obtain ⟨rfl, hsz, hP, hK, hD0, hE⟩ := hv
  have hx := B.exec
  have hb := B.bytes
  have hr := B.returns
  have hts0 := atoms_spec (ws := wz yX8_findLoop cX8_findLoop 9 (Option.some Jvm.ClassFile.FieldType.long)) B.pre
  have hts : ∀ w ∈ gw, w.before _ s = true := fun w h => hts0 w (List.mem_cons_of_mem _ h)
  have hown : s.vm.findClass RX8 = some m.cls := findClass_of_methodNamed B.named
  have hlocks := B.notSynchronized
  subst hsz
  have hD := hD0.self (sz := s.heap.size)
  refine gQ9 ?_
  intro Q hQ
  generalize hAe : va_A (List.flatten ([(oX1 (p0a 0) p0a p0k p0n p0w p0l)] : List va_W)) s.heap.size = A at hD hE hQ
  have hA : ∀ q : Nat, s.heap.size ≤ q → A q := fun q h => by rw [← hAe]; exact Or.inr h
  have hS : va_S A s.heap s.heap [] := va_S.rf
  have hP : va_P (dC, dI) cls (List.flatten ([(oX1 (p0a 0) p0a p0k p0n p0w p0l)] : List va_W)) s.heap := hP
  have hl := lv_entry ([.ref (p0a 0), .int p1]) (n := 9) (Nat.le_of_ble_eq_true rfl)
  rw [lg_entry_eq]
  generalize (lg_sl ([.ref (p0a 0), .int p1]) ++ List.replicate (9 - (lg_sl ([.ref (p0a 0), .int p1])).length) Slot.unset).toArray = ls at hl ⊢
  have hl : lv_has ls 9 [(0, .ref (p0a 0)), (1, .int p1)] := hl
  obtain ⟨H, hHe⟩ : ∃ H, H = s.heap := ⟨_, rfl⟩
  obtain ⟨locs, hle⟩ : ∃ locs : List Loc, locs = [] := ⟨_, rfl⟩
  rw [← hHe] at hP
  have hS : va_S A s.heap H locs := by rw [hHe, hle]; exact hS
  show W p l e ({ frames := 2, cells := 0, slots := 0, locals := 46 } : Room) s m ([.ref (p0a 0), .int p1] : List Value).toArray below meth c s.heap [] 0 0 Q (F0 m 0 ls [])
  rw [← hle]
  refine wH9 hHe ?_
  unfold fX8_findLoop at hrun
  refine lv_lconst (v := 0) hx hb dX8_findLoop_0 (by decide) ?_
  refine lv_lstore_n (lv' := [(2, .long 0), (0, .ref (p0a 0)), (1, .int p1)]) hx hb dX8_findLoop_1 rfl hl (by decide) rfl (fun ls hl => ?_)
  refine lv_iconst (v := 0) hx hb dX8_findLoop_2 (by decide) ?_
  refine lv_istore (lv' := [(4, .int 0), (2, .long 0), (0, .ref (p0a 0)), (1, .int p1)]) hx hb dX8_findLoop_3 hl (by decide) rfl (fun ls hl => ?_)
  have L5 : ∀ (n_5 : Nat) (v2_5 : Int64) (v4_5 : Int32) (o5 : Int64) (H : Heap) (locs : List Loc) (ls : Array Slot), (fX8_findLoop_L5 p0w p0l p1 n_5) v2_5 v4_5 = some o5 → va_P (dC, dI) cls (List.flatten ([(oX1 (p0a 0) p0a p0k p0n p0w p0l)] : List va_W)) H → va_D A (List.flatten ([(oX1 (p0a 0) p0a p0k p0n p0w p0l)] : List va_W)) → va_K (dC, dI) cls (List.flatten ([(tX1 p0k)] : List (List (ClassId × FieldType)))) s → va_S A s.heap H locs → lv_has ls 9 [(0, .ref (p0a 0)), (1, .int p1), (2, .long v2_5), (4, .int v4_5)] → (∀ (H : Heap) (locs : List Loc) (ls : Array Slot), va_P (dC, dI) cls (List.flatten ([(oX1 (p0a 0) p0a p0k p0n p0w p0l)] : List va_W)) H → va_D A (List.flatten ([(oX1 (p0a 0) p0a p0k p0n p0w p0l)] : List va_W)) → va_K (dC, dI) cls (List.flatten ([(tX1 p0k)] : List (List (ClassId × FieldType)))) s → va_S A s.heap H locs → lv_has ls 9 [(0, .ref (p0a 0)), (1, .int p1), (2, .long o5)] → W p l e ({ frames := 2, cells := 0, slots := 0, locals := 46 } : Room) s m ([.ref (p0a 0), .int p1] : List Value).toArray below meth c H locs 0 0 Q (F0 m 51 ls [])) → W p l e ({ frames := 2, cells := 0, slots := 0, locals := 46 } : Room) s m ([.ref (p0a 0), .int p1] : List Value).toArray below meth c H locs 0 0 Q (F0 m 5 ls []) := by
    intro n_5
    induction n_5 with
    | zero => intro v2_5 v4_5 o5 H locs ls hrun; exact (no9 rfl hrun).elim
    | succ n_5 IH5 =>
      intro v2_5 v4_5 o5 H locs ls hrun hP hD hK hS hl hk5
      unfold fX8_findLoop_L5 at hrun
      refine lv_iload hx hb dX8_findLoop_5 (lv_at hl 3 rfl) ?_
      refine lv_aload_n hx hb dX8_findLoop_7 rfl (lv_at hl 0 rfl) ?_
      refine lv_iload_n hx hb dX8_findLoop_8 rfl (lv_at hl 1 rfl) ?_
      obtain ⟨o_1, hc_1, hrun⟩ := bnd9 hrun
      have hPx : va_P (dC, dI) cls ((List.flatten ([(oX1 (p0a 0) p0a p0k p0n p0w p0l)] : List va_W)) ++ (List.flatten ([] : List va_W))) H := vP_fa (vP_perm hP (bP (List.Perm.refl _)))
      have hDx : va_D A ((List.flatten ([(oX1 (p0a 0) p0a p0k p0n p0w p0l)] : List va_W)) ++ (List.flatten ([] : List va_W))) := vD_fa (vD_perm hD (bP (List.Perm.refl _)))
      have hKx : va_K (dC, dI) cls ((List.flatten ([(tX1 p0k)] : List (List (ClassId × FieldType)))) ++ (List.flatten ([] : List (List (ClassId × FieldType))))) s := vK_fa (vK_perm hK (bP (List.Perm.refl _)))
      have hPc := vP_l hPx
      have hDc := vD_l hDx
      have hKc := vK_l hKx
      have hFc := vfree hDx hS hA
      refine va_calli (va_runV (As := [.int p1]) (rest := [.int v4_5]) ⟨hx, hb, hml, hown, hts⟩ (kX1_waysTo l dC dI (p0a := p0a) (p0k := p0k) (p0n := p0n) (p0w := p0w) (p0l := p0l) (p1 := p1) (sz := _) (o := o_1) (hrun := hc_1)) (cwV 1 hts (gi_V qw184 qw185 qw186 qw126 (gi_z qw183)) rfl rfl rfl (by decide +kernel) ⟨Nat.le_of_ble_eq_true rfl, Nat.le_of_ble_eq_true rfl⟩) ⟨PRE.blind, va_recv hKc hPc (ci := 4) (q0 := 0) rfl rfl, PRE.of hE hS hFc hPc hKc hDc⟩ rfl rfl hl.1 rfl (lv_room (Nat.le_of_ble_eq_true rfl)) dX8_findLoop_9 ⟨(Nat.le_of_ble_eq_true rfl), (Nat.le_of_ble_eq_true rfl)⟩) hS (fun q _ h => hFc q h) hFc (fun r2 u t H locs ht hvm hw hB hz1 hk1 hS => ?_)
      obtain ⟨b1, b2, b3⟩ := hB
      rw [ht] at b1
      obtain ⟨hP, hD, hK⟩ := JOINC (wc := (List.flatten ([(oX1 (p0a 0) p0a p0k p0n p0w p0l)] : List va_W))) (wr := (List.flatten ([] : List va_W))) (w1 := (List.flatten ([(oX1 (p0a 0) p0a p0k p0n p0w p0l)] : List va_W))) (t1 := (List.flatten ([(tX1 p0k)] : List (List (ClassId × FieldType))))) hPx hDx hKx hk1 hFc b1 (va_K.moved hvm.symm b2) b3
      have hP : va_P (dC, dI) cls (List.flatten ([(oX1 (p0a 0) p0a p0k p0n p0w p0l)] : List va_W)) H := vP_perm (vP_fb hP) (bP (List.Perm.refl _))
      have hD : va_D A (List.flatten ([(oX1 (p0a 0) p0a p0k p0n p0w p0l)] : List va_W)) := vD_perm (vD_fb hD) (bP (List.Perm.refl _))
      have hK : va_K (dC, dI) cls (List.flatten ([(tX1 p0k)] : List (List (ClassId × FieldType)))) s := vK_perm (vK_fb hK) (bP (List.Perm.refl _))
      obtain rfl : o_1 = r2 := hw.symm
      rcases br9 hrun with ⟨hc3, hrun⟩ | ⟨hc3, hrun⟩
      · refine lv_icmp_ge (tgt := 51) hx hb dX8_findLoop_12 (by decide) (fun _ => ?_) (fun c => absurd hc3 c)
        obtain rfl := (Option.some.inj hrun)
        exact hk5 _ _ _ hP hD hK hS (lv_sub hl [0, 1, 2] rfl)
      · refine lv_icmp_ge (tgt := 51) hx hb dX8_findLoop_12 (by decide) (fun c => absurd c hc3) (fun _ => ?_)
        refine lv_aload_n hx hb dX8_findLoop_15 rfl (lv_at hl 0 rfl) ?_
        refine lv_iload_n hx hb dX8_findLoop_16 rfl (lv_at hl 1 rfl) ?_
        refine lv_iload hx hb dX8_findLoop_17 (lv_at hl 3 rfl) ?_
        obtain ⟨o_4, hc_4, hrun⟩ := bnd9 hrun
        have hPx : va_P (dC, dI) cls ((List.flatten ([(oX1 (p0a 0) p0a p0k p0n p0w p0l)] : List va_W)) ++ (List.flatten ([] : List va_W))) H := vP_fa (vP_perm hP (bP (List.Perm.refl _)))
        have hDx : va_D A ((List.flatten ([(oX1 (p0a 0) p0a p0k p0n p0w p0l)] : List va_W)) ++ (List.flatten ([] : List va_W))) := vD_fa (vD_perm hD (bP (List.Perm.refl _)))
        have hKx : va_K (dC, dI) cls ((List.flatten ([(tX1 p0k)] : List (List (ClassId × FieldType)))) ++ (List.flatten ([] : List (List (ClassId × FieldType))))) s := vK_fa (vK_perm hK (bP (List.Perm.refl _)))
        have hPc := vP_l hPx
        have hDc := vD_l hDx
        have hKc := vK_l hKx
        have hFc := vfree hDx hS hA
        refine va_calli (va_runV (As := [.int p1, .int v4_5]) (rest := []) ⟨hx, hb, hml, hown, hts⟩ (kX1_wayFrom l dC dI (p0a := p0a) (p0k := p0k) (p0n := p0n) (p0w := p0w) (p0l := p0l) (p1 := p1) (p2 := v4_5) (sz := _) (o := o_4) (hrun := hc_4)) (cwV 2 hts (gi_V qw188 qw189 qw190 qw126 (gi_z qw187)) rfl rfl rfl (by decide +kernel) ⟨Nat.le_of_ble_eq_true rfl, Nat.le_of_ble_eq_true rfl⟩) ⟨PRE.blind, va_recv hKc hPc (ci := 4) (q0 := 0) rfl rfl, PRE.of hE hS hFc hPc hKc hDc⟩ rfl rfl hl.1 rfl (lv_room (Nat.le_of_ble_eq_true rfl)) dX8_findLoop_19 ⟨(Nat.le_of_ble_eq_true rfl), (Nat.le_of_ble_eq_true rfl)⟩) hS (fun q _ h => hFc q h) hFc (fun r5 u t H locs ht hvm hw hB hz1 hk1 hS => ?_)
        obtain ⟨b1, b2, b3⟩ := hB
        rw [ht] at b1
        obtain ⟨hP, hD, hK⟩ := JOINC (wc := (List.flatten ([(oX1 (p0a 0) p0a p0k p0n p0w p0l)] : List va_W))) (wr := (List.flatten ([] : List va_W))) (w1 := (List.flatten ([(oX1 (p0a 0) p0a p0k p0n p0w p0l)] : List va_W))) (t1 := (List.flatten ([(tX1 p0k)] : List (List (ClassId × FieldType))))) hPx hDx hKx hk1 hFc b1 (va_K.moved hvm.symm b2) b3
        have hP : va_P (dC, dI) cls (List.flatten ([(oX1 (p0a 0) p0a p0k p0n p0w p0l)] : List va_W)) H := vP_perm (vP_fb hP) (bP (List.Perm.refl _))
        have hD : va_D A (List.flatten ([(oX1 (p0a 0) p0a p0k p0n p0w p0l)] : List va_W)) := vD_perm (vD_fb hD) (bP (List.Perm.refl _))
        have hK : va_K (dC, dI) cls (List.flatten ([(tX1 p0k)] : List (List (ClassId × FieldType)))) s := vK_perm (vK_fb hK) (bP (List.Perm.refl _))
        obtain rfl : o_4 = r5 := hw.symm
        refine lv_istore (lv' := [(5, .int o_4), (0, .ref (p0a 0)), (1, .int p1), (2, .long v2_5), (4, .int v4_5)]) hx hb dX8_findLoop_22 hl (by decide) rfl (fun ls hl => ?_)
        refine lv_aload_n hx hb dX8_findLoop_24 rfl (lv_at hl 1 rfl) ?_
        refine va_get (D := (dC, dI)) (ci := 4) (v := .ref (p0a 16)) (C := RX1) (T := TX1) (N := 21) hx hb hts i_X1 hown hK hP 0 rfl rfl 15 (by decide) (hts _ qw182) (fun _ h9 => h9) rfl dX8_findLoop_25 ?_
        refine lv_iload hx hb dX8_findLoop_28 (lv_at hl 0 rfl) ?_
        obtain ⟨hq6, hrun⟩ := chk9 hrun
        refine va_lald hx hb hK hP 13 12 rfl rfl (ixb_in hq6) dX8_findLoop_30 ?_
        refine lv_iload_n hx hb dX8_findLoop_31 rfl (lv_at hl 2 rfl) ?_
        obtain ⟨o_7, hc_7, hrun⟩ := bnd9 hrun
        have hPx : va_P (dC, dI) cls ((List.flatten ([] : List va_W)) ++ (List.flatten ([(oX1 (p0a 0) p0a p0k p0n p0w p0l)] : List va_W))) H := vP_fa (vP_perm hP (bP (List.Perm.refl _)))
        have hDx : va_D A ((List.flatten ([] : List va_W)) ++ (List.flatten ([(oX1 (p0a 0) p0a p0k p0n p0w p0l)] : List va_W))) := vD_fa (vD_perm hD (bP (List.Perm.refl _)))
        have hKx : va_K (dC, dI) cls ((List.flatten ([] : List (List (ClassId × FieldType)))) ++ (List.flatten ([(tX1 p0k)] : List (List (ClassId × FieldType))))) s := vK_fa (vK_perm hK (bP (List.Perm.refl _)))
        have hPc := vP_l hPx
        have hDc := vD_l hDx
        have hKc := vK_l hKx
        have hFc := vfree hDx hS hA
        refine va_calli (va_runSN (As := [.long (p0l 16 (nn o_4)), .int p1]) (rest := []) ⟨hx, hb, hml, hown, hts⟩ (kX11_holds l dC dI (p0 := (p0l 16 (nn o_4))) (p1 := p1) (sz := _) (o := o_7) (hrun := hc_7)) ⟨(va_cnB 2 hts (gi_z qw192) rfl rfl rfl (hE.nw (List.mem_append_right _ (tbl_6 (i := 50) rfl)) rfl) (hts _ qw129) (by decide +kernel) ⟨Nat.le_of_ble_eq_true rfl, Nat.le_of_ble_eq_true rfl⟩), (hts _ qw193), trivial⟩ ⟨PRE.blind, PRE.of hE hS hFc hPc hKc hDc⟩ rfl rfl hl.1 rfl (lv_room (Nat.le_of_ble_eq_true rfl)) dX8_findLoop_32 ⟨(Nat.le_of_ble_eq_true rfl), (Nat.le_of_ble_eq_true rfl)⟩) hS (fun q _ h => hFc q h) hFc (fun r8 u t H locs ht hvm hw hB hz1 hk1 hS => ?_)
        obtain ⟨b1, b2, b3⟩ := hB
        rw [ht] at b1
        obtain ⟨hP, hD, hK⟩ := JOINC (wc := (List.flatten ([] : List va_W))) (wr := (List.flatten ([(oX1 (p0a 0) p0a p0k p0n p0w p0l)] : List va_W))) (w1 := (List.flatten ([] : List va_W))) (t1 := (List.flatten ([] : List (List (ClassId × FieldType))))) hPx hDx hKx hk1 hFc b1 (va_K.moved hvm.symm b2) b3
        have hP : va_P (dC, dI) cls (List.flatten ([(oX1 (p0a 0) p0a p0k p0n p0w p0l)] : List va_W)) H := vP_perm (vP_fb hP) (bP (List.Perm.refl _))
        have hD : va_D A (List.flatten ([(oX1 (p0a 0) p0a p0k p0n p0w p0l)] : List va_W)) := vD_perm (vD_fb hD) (bP (List.Perm.refl _))
        have hK : va_K (dC, dI) cls (List.flatten ([(tX1 p0k)] : List (List (ClassId × FieldType)))) s := vK_perm (vK_fb hK) (bP (List.Perm.refl _))
        obtain rfl : o_7 = r8 := hw.symm
        have J45 : ∀ (v2_45 : Int64) (H : Heap) (locs : List Loc) (ls : Array Slot), (fX8_findLoop_J45 (fX8_findLoop_L5 p0w p0l p1 n_5) v4_5 v2_45) = some o5 → va_P (dC, dI) cls (List.flatten ([(oX1 (p0a 0) p0a p0k p0n p0w p0l)] : List va_W)) H → va_D A (List.flatten ([(oX1 (p0a 0) p0a p0k p0n p0w p0l)] : List va_W)) → va_K (dC, dI) cls (List.flatten ([(tX1 p0k)] : List (List (ClassId × FieldType)))) s → va_S A s.heap H locs → lv_has ls 9 [(0, .ref (p0a 0)), (1, .int p1), (2, .long v2_45), (4, .int v4_5)] → W p l e ({ frames := 2, cells := 0, slots := 0, locals := 46 } : Room) s m ([.ref (p0a 0), .int p1] : List Value).toArray below meth c H locs 0 0 Q (F0 m 45 ls []) := by
          intro v2_45 H locs ls hrun hP hD hK hS hl 
          unfold fX8_findLoop_J45 at hrun
          refine lv_iinc (v := (v4_5 + 1)) (lv' := [(4, .int (v4_5 + 1)), (0, .ref (p0a 0)), (1, .int p1), (2, .long v2_45)]) hx hb dX8_findLoop_45 hl (k := 3) rfl rfl (by decide) rfl (fun ls hl => ?_)
          refine lv_goto (tgt := 5) hx hb dX8_findLoop_48 (by decide) ?_
          exact IH5 v2_45 (v4_5 + 1) o5 _ _ _ hrun hP hD hK hS (lv_sub hl [1, 2, 3, 0] rfl) hk5
        rcases br9 hrun with ⟨hc9, hrun⟩ | ⟨hc9, hrun⟩
        · refine lv_if_eq (tgt := 45) hx hb dX8_findLoop_35 (by decide) (fun _ => ?_) (fun c => absurd hc9 c)
          exact J45 v2_5 _ _ _ hrun hP hD hK hS (lv_sub hl [1, 2, 3, 4] rfl)
        · refine lv_if_eq (tgt := 45) hx hb dX8_findLoop_35 (by decide) (fun c => absurd c hc9) (fun _ => ?_)
          refine lv_lload_n hx hb dX8_findLoop_38 rfl (lv_at hl 3 rfl) ?_
          refine lv_lconst (v := 1) hx hb dX8_findLoop_39 (by decide) ?_
          refine lv_iload hx hb dX8_findLoop_40 (lv_at hl 0 rfl) ?_
          refine lv_lshl (v := (((1 : Int64) <<< ((o_4 : Int32).toInt64 &&& 63)))) hx hb dX8_findLoop_42 rfl ?_
          refine lv_lor hx hb dX8_findLoop_43 ?_
          refine lv_lstore_n (lv' := [(2, .long (v2_5 ||| (((1 : Int64) <<< ((o_4 : Int32).toInt64 &&& 63))))), (5, .int o_4), (0, .ref (p0a 0)), (1, .int p1), (4, .int v4_5)]) hx hb dX8_findLoop_44 rfl hl (by decide) rfl (fun ls hl => ?_)
          exact J45 (v2_5 ||| (((1 : Int64) <<< ((o_4 : Int32).toInt64 &&& 63)))) _ _ _ hrun hP hD hK hS (lv_sub hl [2, 3, 0, 4] rfl)
  obtain ⟨o5, hc5, hrun⟩ := bnd9 hrun
  refine L5 NF 0 0 o5 _ _ _ hc5 hP hD hK hS (lv_sub hl [2, 3, 1, 0] rfl) ?_
  intro H locs ls hP hD hK hS hl
  have hl := hl
  refine lv_lload_n hx hb dX8_findLoop_51 rfl (lv_at hl 2 rfl) ?_
  refine lv_lconst (v := 0) hx hb dX8_findLoop_52 (by decide) ?_
  refine W.lcmp hx hb dX8_findLoop_53 ?_
  rcases br9 hrun with ⟨hc10, hrun⟩ | ⟨hc10, hrun⟩
  · refine lv_if_ne (tgt := 59) hx hb dX8_findLoop_54 (by decide) (fun c => absurd hc10 c) (fun _ => ?_)
    refine lv_lconst (v := 0) hx hb dX8_findLoop_57 (by decide) ?_
    have ho9 : 0 = o := Option.some.inj hrun
    have hP9 : va_P (dC, dI) cls (List.flatten ([(oX1 (p0a 0) p0a p0k p0n p0w p0l)] : List va_W)) H := by first | exact hP | (rw [← ho9]; exact hP)
    have hD9 : va_D A (List.flatten ([(oX1 (p0a 0) p0a p0k p0n p0w p0l)] : List va_W)) := by first | exact hD | (rw [← ho9]; exact hD)
    subst hQ
    exact W.lret (v := 0) hx hb hr (fun t ht hW => ⟨⟨0, (), rfl, (by rw [← ho9]), ⟨by rw [ht]; exact hP9, va_K.moved hW.alike hK, hD9⟩⟩, hS.F ht⟩) hS.2.2 dX8_findLoop_58
  · refine lv_if_ne (tgt := 59) hx hb dX8_findLoop_54 (by decide) (fun _ => ?_) (fun c => absurd c hc10)
    refine lv_lload_n hx hb dX8_findLoop_59 rfl (lv_at hl 2 rfl) ?_
    refine lv_lconst (v := 1) hx hb dX8_findLoop_60 (by decide) ?_
    refine lv_iload_n hx hb dX8_findLoop_61 rfl (lv_at hl 1 rfl) ?_
    refine lv_lshl (v := (((1 : Int64) <<< ((p1 : Int32).toInt64 &&& 63)))) hx hb dX8_findLoop_62 rfl ?_
    refine lv_lor hx hb dX8_findLoop_63 ?_
    refine lv_lstore_n (lv' := [(2, .long (o5 ||| (((1 : Int64) <<< ((p1 : Int32).toInt64 &&& 63))))), (0, .ref (p0a 0)), (1, .int p1)]) hx hb dX8_findLoop_64 rfl hl (by decide) rfl (fun ls hl => ?_)
    refine lv_iconst (v := 1) hx hb dX8_findLoop_65 (by decide) ?_
    refine lv_istore (lv' := [(4, .int 1), (2, .long (o5 ||| (((1 : Int64) <<< ((p1 : Int32).toInt64 &&& 63))))), (0, .ref (p0a 0)), (1, .int p1)]) hx hb dX8_findLoop_66 hl (by decide) rfl (fun ls hl => ?_)
    refine lv_iconst (v := 0) hx hb dX8_findLoop_68 (by decide) ?_
    refine lv_istore (lv' := [(5, .int 0), (4, .int 1), (2, .long (o5 ||| (((1 : Int64) <<< ((p1 : Int32).toInt64 &&& 63))))), (0, .ref (p0a 0)), (1, .int p1)]) hx hb dX8_findLoop_69 hl (by decide) rfl (fun ls hl => ?_)
    have L71 : ∀ (n_71 : Nat) (v2_71 : Int64) (v4_71 : Int32) (v5_71 : Int32) (o71 : Int64) (H : Heap) (locs : List Loc) (ls : Array Slot), (fX8_findLoop_L71 p0w p1 n_71) v2_71 v4_71 v5_71 = some o71 → va_P (dC, dI) cls (List.flatten ([(oX1 (p0a 0) p0a p0k p0n p0w p0l)] : List va_W)) H → va_D A (List.flatten ([(oX1 (p0a 0) p0a p0k p0n p0w p0l)] : List va_W)) → va_K (dC, dI) cls (List.flatten ([(tX1 p0k)] : List (List (ClassId × FieldType)))) s → va_S A s.heap H locs → lv_has ls 9 [(0, .ref (p0a 0)), (1, .int p1), (2, .long v2_71), (4, .int v4_71), (5, .int v5_71)] → (∀ (H : Heap) (locs : List Loc) (ls : Array Slot), va_P (dC, dI) cls (List.flatten ([(oX1 (p0a 0) p0a p0k p0n p0w p0l)] : List va_W)) H → va_D A (List.flatten ([(oX1 (p0a 0) p0a p0k p0n p0w p0l)] : List va_W)) → va_K (dC, dI) cls (List.flatten ([(tX1 p0k)] : List (List (ClassId × FieldType)))) s → va_S A s.heap H locs → lv_has ls 9 [(2, .long o71)] → W p l e ({ frames := 2, cells := 0, slots := 0, locals := 46 } : Room) s m ([.ref (p0a 0), .int p1] : List Value).toArray below meth c H locs 0 0 Q (F0 m 149 ls [])) → W p l e ({ frames := 2, cells := 0, slots := 0, locals := 46 } : Room) s m ([.ref (p0a 0), .int p1] : List Value).toArray below meth c H locs 0 0 Q (F0 m 71 ls []) := by
      intro n_71
      induction n_71 with
      | zero => intro v2_71 v4_71 v5_71 o71 H locs ls hrun; exact (no9 rfl hrun).elim
      | succ n_71 IH71 =>
        intro v2_71 v4_71 v5_71 o71 H locs ls hrun hP hD hK hS hl hk71
        unfold fX8_findLoop_L71 at hrun
        refine lv_iload hx hb dX8_findLoop_71 (lv_at hl 3 rfl) ?_
        rcases br9 hrun with ⟨hc11, hrun⟩ | ⟨hc11, hrun⟩
        · refine lv_if_eq (tgt := 149) hx hb dX8_findLoop_73 (by decide) (fun _ => ?_) (fun c => absurd hc11 c)
          obtain rfl := (Option.some.inj hrun)
          exact hk71 _ _ _ hP hD hK hS (lv_sub hl [2] rfl)
        · refine lv_if_eq (tgt := 149) hx hb dX8_findLoop_73 (by decide) (fun c => absurd c hc11) (fun _ => ?_)
          refine lv_iload hx hb dX8_findLoop_76 (lv_at hl 4 rfl) ?_
          refine lv_bipush (v := 60) hx hb dX8_findLoop_78 (by decide) ?_
          rcases br9 hrun with ⟨hc12, hrun⟩ | ⟨hc12, hrun⟩
          · refine lv_icmp_gt (tgt := 149) hx hb dX8_findLoop_80 (by decide) (fun _ => ?_) (fun c => absurd hc12 c)
            obtain rfl := (Option.some.inj hrun)
            exact hk71 _ _ _ hP hD hK hS (lv_sub hl [2] rfl)
          · refine lv_icmp_gt (tgt := 149) hx hb dX8_findLoop_80 (by decide) (fun c => absurd c hc12) (fun _ => ?_)
            refine lv_lload_n hx hb dX8_findLoop_83 rfl (lv_at hl 2 rfl) ?_
            refine lv_lstore (lv' := [(6, .long v2_71), (0, .ref (p0a 0)), (1, .int p1), (2, .long v2_71), (4, .int v4_71), (5, .int v5_71)]) hx hb dX8_findLoop_84 hl (by decide) rfl (fun ls hl => ?_)
            refine lv_aload_n hx hb dX8_findLoop_86 rfl (lv_at hl 1 rfl) ?_
            refine va_get (D := (dC, dI)) (ci := 4) (v := .int (p0w 0 0)) (C := RX1) (T := TX1) (N := 21) hx hb hts i_X1 hown hK hP 0 rfl rfl 0 (by decide) (hts _ qw181) (fun _ h9 => h9) rfl dX8_findLoop_87 ?_
            refine lv_iconst (v := 1) hx hb dX8_findLoop_90 (by decide) ?_
            refine lv_isub hx hb dX8_findLoop_91 ?_
            refine lv_istore (lv' := [(8, .int ((p0w 0 0) - 1)), (6, .long v2_71), (0, .ref (p0a 0)), (1, .int p1), (2, .long v2_71), (4, .int v4_71), (5, .int v5_71)]) hx hb dX8_findLoop_92 hl (by decide) rfl (fun ls hl => ?_)
            have L94 : ∀ (n_94 : Nat) (v2_94 : Int64) (v8_94 : Int32) (o94 : Int64) (H : Heap) (locs : List Loc) (ls : Array Slot), (fX8_findLoop_L94 p0w p1 n_94) v2_94 v8_94 = some o94 → va_P (dC, dI) cls (List.flatten ([(oX1 (p0a 0) p0a p0k p0n p0w p0l)] : List va_W)) H → va_D A (List.flatten ([(oX1 (p0a 0) p0a p0k p0n p0w p0l)] : List va_W)) → va_K (dC, dI) cls (List.flatten ([(tX1 p0k)] : List (List (ClassId × FieldType)))) s → va_S A s.heap H locs → lv_has ls 9 [(0, .ref (p0a 0)), (1, .int p1), (2, .long v2_94), (5, .int v5_71), (6, .long v2_71), (8, .int v8_94)] → (∀ (H : Heap) (locs : List Loc) (ls : Array Slot), va_P (dC, dI) cls (List.flatten ([(oX1 (p0a 0) p0a p0k p0n p0w p0l)] : List va_W)) H → va_D A (List.flatten ([(oX1 (p0a 0) p0a p0k p0n p0w p0l)] : List va_W)) → va_K (dC, dI) cls (List.flatten ([(tX1 p0k)] : List (List (ClassId × FieldType)))) s → va_S A s.heap H locs → lv_has ls 9 [(0, .ref (p0a 0)), (1, .int p1), (2, .long o94), (5, .int v5_71), (6, .long v2_71)] → W p l e ({ frames := 2, cells := 0, slots := 0, locals := 46 } : Room) s m ([.ref (p0a 0), .int p1] : List Value).toArray below meth c H locs 0 0 Q (F0 m 129 ls [])) → W p l e ({ frames := 2, cells := 0, slots := 0, locals := 46 } : Room) s m ([.ref (p0a 0), .int p1] : List Value).toArray below meth c H locs 0 0 Q (F0 m 94 ls []) := by
              intro n_94
              induction n_94 with
              | zero => intro v2_94 v8_94 o94 H locs ls hrun; exact (no9 rfl hrun).elim
              | succ n_94 IH94 =>
                intro v2_94 v8_94 o94 H locs ls hrun hP hD hK hS hl hk94
                unfold fX8_findLoop_L94 at hrun
                refine lv_iload hx hb dX8_findLoop_94 (lv_at hl 5 rfl) ?_
                rcases br9 hrun with ⟨hc13, hrun⟩ | ⟨hc13, hrun⟩
                · refine lv_if_lt (tgt := 129) hx hb dX8_findLoop_96 (by decide) (fun _ => ?_) (fun c => absurd hc13 c)
                  obtain rfl := (Option.some.inj hrun)
                  exact hk94 _ _ _ hP hD hK hS (lv_sub hl [0, 1, 2, 3, 4] rfl)
                · refine lv_if_lt (tgt := 129) hx hb dX8_findLoop_96 (by decide) (fun c => absurd c hc13) (fun _ => ?_)
                  refine lv_iload hx hb dX8_findLoop_99 (lv_at hl 5 rfl) ?_
                  refine lv_iload_n hx hb dX8_findLoop_101 rfl (lv_at hl 1 rfl) ?_
                  have J123 : ∀ (v2_123 : Int64) (H : Heap) (locs : List Loc) (ls : Array Slot), (fX8_findLoop_J123 (fX8_findLoop_L94 p0w p1 n_94) v8_94 v2_123) = some o94 → va_P (dC, dI) cls (List.flatten ([(oX1 (p0a 0) p0a p0k p0n p0w p0l)] : List va_W)) H → va_D A (List.flatten ([(oX1 (p0a 0) p0a p0k p0n p0w p0l)] : List va_W)) → va_K (dC, dI) cls (List.flatten ([(tX1 p0k)] : List (List (ClassId × FieldType)))) s → va_S A s.heap H locs → lv_has ls 9 [(0, .ref (p0a 0)), (1, .int p1), (2, .long v2_123), (5, .int v5_71), (6, .long v2_71), (8, .int v8_94)] → W p l e ({ frames := 2, cells := 0, slots := 0, locals := 46 } : Room) s m ([.ref (p0a 0), .int p1] : List Value).toArray below meth c H locs 0 0 Q (F0 m 123 ls []) := by
                    intro v2_123 H locs ls hrun hP hD hK hS hl 
                    unfold fX8_findLoop_J123 at hrun
                    refine lv_iinc (v := (v8_94 + (-1))) (lv' := [(8, .int (v8_94 + (-1))), (0, .ref (p0a 0)), (1, .int p1), (2, .long v2_123), (5, .int v5_71), (6, .long v2_71)]) hx hb dX8_findLoop_123 hl (k := 5) rfl rfl (by decide) rfl (fun ls hl => ?_)
                    refine lv_goto (tgt := 94) hx hb dX8_findLoop_126 (by decide) ?_
                    exact IH94 v2_123 (v8_94 + (-1)) o94 _ _ _ hrun hP hD hK hS (lv_sub hl [1, 2, 3, 4, 5, 0] rfl) hk94
                  rcases br9 hrun with ⟨hc14, hrun⟩ | ⟨hc14, hrun⟩
                  · refine lv_icmp_eq (tgt := 123) hx hb dX8_findLoop_102 (by decide) (fun _ => ?_) (fun c => absurd hc14 c)
                    exact J123 v2_94 _ _ _ hrun hP hD hK hS (lv_sub hl [0, 1, 2, 3, 4, 5] rfl)
                  · refine lv_icmp_eq (tgt := 123) hx hb dX8_findLoop_102 (by decide) (fun c => absurd c hc14) (fun _ => ?_)
                    refine lv_lload_n hx hb dX8_findLoop_105 rfl (lv_at hl 2 rfl) ?_
                    refine lv_iload hx hb dX8_findLoop_106 (lv_at hl 5 rfl) ?_
                    obtain ⟨o_15, hc_15, hrun⟩ := bnd9 hrun
                    have hPx : va_P (dC, dI) cls ((List.flatten ([] : List va_W)) ++ (List.flatten ([(oX1 (p0a 0) p0a p0k p0n p0w p0l)] : List va_W))) H := vP_fa (vP_perm hP (bP (List.Perm.refl _)))
                    have hDx : va_D A ((List.flatten ([] : List va_W)) ++ (List.flatten ([(oX1 (p0a 0) p0a p0k p0n p0w p0l)] : List va_W))) := vD_fa (vD_perm hD (bP (List.Perm.refl _)))
                    have hKx : va_K (dC, dI) cls ((List.flatten ([] : List (List (ClassId × FieldType)))) ++ (List.flatten ([(tX1 p0k)] : List (List (ClassId × FieldType))))) s := vK_fa (vK_perm hK (bP (List.Perm.refl _)))
                    have hPc := vP_l hPx
                    have hDc := vD_l hDx
                    have hKc := vK_l hKx
                    have hFc := vfree hDx hS hA
                    refine va_calli (va_runSN (As := [.long v2_94, .int v8_94]) (rest := []) ⟨hx, hb, hml, hown, hts⟩ (kX11_holds l dC dI (p0 := v2_94) (p1 := v8_94) (sz := _) (o := o_15) (hrun := hc_15)) ⟨(va_cnB 2 hts (gi_z qw192) rfl rfl rfl (hE.nw (List.mem_append_right _ (tbl_6 (i := 50) rfl)) rfl) (hts _ qw129) (by decide +kernel) ⟨Nat.le_of_ble_eq_true rfl, Nat.le_of_ble_eq_true rfl⟩), (hts _ qw193), trivial⟩ ⟨PRE.blind, PRE.of hE hS hFc hPc hKc hDc⟩ rfl rfl hl.1 rfl (lv_room (Nat.le_of_ble_eq_true rfl)) dX8_findLoop_108 ⟨(Nat.le_of_ble_eq_true rfl), (Nat.le_of_ble_eq_true rfl)⟩) hS (fun q _ h => hFc q h) hFc (fun r16 u t H locs ht hvm hw hB hz1 hk1 hS => ?_)
                    obtain ⟨b1, b2, b3⟩ := hB
                    rw [ht] at b1
                    obtain ⟨hP, hD, hK⟩ := JOINC (wc := (List.flatten ([] : List va_W))) (wr := (List.flatten ([(oX1 (p0a 0) p0a p0k p0n p0w p0l)] : List va_W))) (w1 := (List.flatten ([] : List va_W))) (t1 := (List.flatten ([] : List (List (ClassId × FieldType))))) hPx hDx hKx hk1 hFc b1 (va_K.moved hvm.symm b2) b3
                    have hP : va_P (dC, dI) cls (List.flatten ([(oX1 (p0a 0) p0a p0k p0n p0w p0l)] : List va_W)) H := vP_perm (vP_fb hP) (bP (List.Perm.refl _))
                    have hD : va_D A (List.flatten ([(oX1 (p0a 0) p0a p0k p0n p0w p0l)] : List va_W)) := vD_perm (vD_fb hD) (bP (List.Perm.refl _))
                    have hK : va_K (dC, dI) cls (List.flatten ([(tX1 p0k)] : List (List (ClassId × FieldType)))) s := vK_perm (vK_fb hK) (bP (List.Perm.refl _))
                    obtain rfl : o_15 = r16 := hw.symm
                    rcases br9 hrun with ⟨hc17, hrun⟩ | ⟨hc17, hrun⟩
                    · refine lv_if_eq (tgt := 123) hx hb dX8_findLoop_111 (by decide) (fun _ => ?_) (fun c => absurd hc17 c)
                      exact J123 v2_94 _ _ _ hrun hP hD hK hS (lv_sub hl [0, 1, 2, 3, 4, 5] rfl)
                    · refine lv_if_eq (tgt := 123) hx hb dX8_findLoop_111 (by decide) (fun c => absurd c hc17) (fun _ => ?_)
                      refine lv_lload_n hx hb dX8_findLoop_114 rfl (lv_at hl 2 rfl) ?_
                      refine lv_aload_n hx hb dX8_findLoop_115 rfl (lv_at hl 0 rfl) ?_
                      refine lv_iload hx hb dX8_findLoop_116 (lv_at hl 5 rfl) ?_
                      obtain ⟨o_18, hc_18, hrun⟩ := bnd9 hrun
                      have hPx : va_P (dC, dI) cls ((List.flatten ([(oX1 (p0a 0) p0a p0k p0n p0w p0l)] : List va_W)) ++ (List.flatten ([] : List va_W))) H := vP_fa (vP_perm hP (bP (List.Perm.refl _)))
                      have hDx : va_D A ((List.flatten ([(oX1 (p0a 0) p0a p0k p0n p0w p0l)] : List va_W)) ++ (List.flatten ([] : List va_W))) := vD_fa (vD_perm hD (bP (List.Perm.refl _)))
                      have hKx : va_K (dC, dI) cls ((List.flatten ([(tX1 p0k)] : List (List (ClassId × FieldType)))) ++ (List.flatten ([] : List (List (ClassId × FieldType))))) s := vK_fa (vK_perm hK (bP (List.Perm.refl _)))
                      have hPc := vP_l hPx
                      have hDc := vD_l hDx
                      have hKc := vK_l hKx
                      have hFc := vfree hDx hS hA
                      refine va_calll (va_runS (As := [.ref (p0a 0), .int v8_94]) (rest := [.long v2_94]) ⟨hx, hb, hml, hown, hts⟩ (kX8_waysInto l dC dI (p0a := p0a) (p0k := p0k) (p0n := p0n) (p0w := p0w) (p0l := p0l) (p1 := v8_94) (sz := _) (o := o_18) (hrun := hc_18)) (va_cwS 2 hts (gi_S qw199 qw200 qw197 (gi_z qw198)) rfl rfl rfl (by decide +kernel) ⟨Nat.le_of_ble_eq_true rfl, Nat.le_of_ble_eq_true rfl⟩) ⟨PRE.blind, PRE.of hE hS hFc hPc hKc hDc⟩ rfl rfl hl.1 rfl (lv_room (Nat.le_of_ble_eq_true rfl)) dX8_findLoop_118 ⟨(Nat.le_of_ble_eq_true rfl), (Nat.le_of_ble_eq_true rfl)⟩) hS (fun q _ h => hFc q h) hFc (fun r19 u t H locs ht hvm hw hB hz1 hk1 hS => ?_)
                      obtain ⟨b1, b2, b3⟩ := hB
                      rw [ht] at b1
                      obtain ⟨hP, hD, hK⟩ := JOINC (wc := (List.flatten ([(oX1 (p0a 0) p0a p0k p0n p0w p0l)] : List va_W))) (wr := (List.flatten ([] : List va_W))) (w1 := (List.flatten ([(oX1 (p0a 0) p0a p0k p0n p0w p0l)] : List va_W))) (t1 := (List.flatten ([(tX1 p0k)] : List (List (ClassId × FieldType))))) hPx hDx hKx hk1 hFc b1 (va_K.moved hvm.symm b2) b3
                      have hP : va_P (dC, dI) cls (List.flatten ([(oX1 (p0a 0) p0a p0k p0n p0w p0l)] : List va_W)) H := vP_perm (vP_fb hP) (bP (List.Perm.refl _))
                      have hD : va_D A (List.flatten ([(oX1 (p0a 0) p0a p0k p0n p0w p0l)] : List va_W)) := vD_perm (vD_fb hD) (bP (List.Perm.refl _))
                      have hK : va_K (dC, dI) cls (List.flatten ([(tX1 p0k)] : List (List (ClassId × FieldType)))) s := vK_perm (vK_fb hK) (bP (List.Perm.refl _))
                      obtain rfl : o_18 = r19 := hw.symm
                      refine lv_lor hx hb dX8_findLoop_121 ?_
                      refine lv_lstore_n (lv' := [(2, .long (v2_94 ||| o_18)), (0, .ref (p0a 0)), (1, .int p1), (5, .int v5_71), (6, .long v2_71), (8, .int v8_94)]) hx hb dX8_findLoop_122 rfl hl (by decide) rfl (fun ls hl => ?_)
                      exact J123 (v2_94 ||| o_18) _ _ _ hrun hP hD hK hS (lv_sub hl [1, 2, 0, 3, 4, 5] rfl)
            obtain ⟨o94, hc94, hrun⟩ := bnd9 hrun
            refine L94 NF v2_71 ((p0w 0 0) - 1) o94 _ _ _ hc94 hP hD hK hS (lv_sub hl [2, 3, 4, 6, 1, 0] rfl) ?_
            intro H locs ls hP hD hK hS hl
            have hl := hl
            refine lv_lload_n hx hb dX8_findLoop_129 rfl (lv_at hl 2 rfl) ?_
            refine lv_lload hx hb dX8_findLoop_130 (lv_at hl 4 rfl) ?_
            refine W.lcmp hx hb dX8_findLoop_132 ?_
            have J141 : ∀ (y0_141 : Int32) (H : Heap) (locs : List Loc) (ls : Array Slot), (fX8_findLoop_J141 (fX8_findLoop_L71 p0w p1 n_71) v5_71 o94 y0_141) = some o71 → va_P (dC, dI) cls (List.flatten ([(oX1 (p0a 0) p0a p0k p0n p0w p0l)] : List va_W)) H → va_D A (List.flatten ([(oX1 (p0a 0) p0a p0k p0n p0w p0l)] : List va_W)) → va_K (dC, dI) cls (List.flatten ([(tX1 p0k)] : List (List (ClassId × FieldType)))) s → va_S A s.heap H locs → lv_has ls 9 [(0, .ref (p0a 0)), (1, .int p1), (2, .long o94), (5, .int v5_71)] → W p l e ({ frames := 2, cells := 0, slots := 0, locals := 46 } : Room) s m ([.ref (p0a 0), .int p1] : List Value).toArray below meth c H locs 0 0 Q (F0 m 141 ls [.int y0_141]) := by
              intro y0_141 H locs ls hrun hP hD hK hS hl 
              unfold fX8_findLoop_J141 at hrun
              refine lv_istore (lv' := [(4, .int y0_141), (0, .ref (p0a 0)), (1, .int p1), (2, .long o94), (5, .int v5_71)]) hx hb dX8_findLoop_141 hl (by decide) rfl (fun ls hl => ?_)
              refine lv_iinc (v := (v5_71 + 1)) (lv' := [(5, .int (v5_71 + 1)), (4, .int y0_141), (0, .ref (p0a 0)), (1, .int p1), (2, .long o94)]) hx hb dX8_findLoop_143 hl (k := 4) rfl rfl (by decide) rfl (fun ls hl => ?_)
              refine lv_goto (tgt := 71) hx hb dX8_findLoop_146 (by decide) ?_
              exact IH71 o94 y0_141 (v5_71 + 1) o71 _ _ _ hrun hP hD hK hS (lv_sub hl [2, 3, 4, 1, 0] rfl) hk71
            rcases br9 hrun with ⟨hc20, hrun⟩ | ⟨hc20, hrun⟩
            · refine lv_if_eq (tgt := 140) hx hb dX8_findLoop_133 (by decide) (fun _ => ?_) (fun c => absurd hc20 c)
              refine lv_iconst (v := 0) hx hb dX8_findLoop_140 (by decide) ?_
              exact J141 0 _ _ _ hrun hP hD hK hS (lv_sub hl [0, 1, 2, 3] rfl)
            · refine lv_if_eq (tgt := 140) hx hb dX8_findLoop_133 (by decide) (fun c => absurd c hc20) (fun _ => ?_)
              refine lv_iconst (v := 1) hx hb dX8_findLoop_136 (by decide) ?_
              refine lv_goto (tgt := 141) hx hb dX8_findLoop_137 (by decide) ?_
              exact J141 1 _ _ _ hrun hP hD hK hS (lv_sub hl [0, 1, 2, 3] rfl)
    obtain ⟨o71, hc71, hrun⟩ := bnd9 hrun
    refine L71 NF (o5 ||| (((1 : Int64) <<< ((p1 : Int32).toInt64 &&& 63)))) 1 0 o71 _ _ _ hc71 hP hD hK hS (lv_sub hl [3, 4, 2, 1, 0] rfl) ?_
    intro H locs ls hP hD hK hS hl
    have hl := hl
    refine lv_lload_n hx hb dX8_findLoop_149 rfl (lv_at hl 0 rfl) ?_
    have ho9 : o71 = o := Option.some.inj hrun
    have hP9 : va_P (dC, dI) cls (List.flatten ([(oX1 (p0a 0) p0a p0k p0n p0w p0l)] : List va_W)) H := by first | exact hP | (rw [← ho9]; exact hP)
    have hD9 : va_D A (List.flatten ([(oX1 (p0a 0) p0a p0k p0n p0w p0l)] : List va_W)) := by first | exact hD | (rw [← ho9]; exact hD)
    subst hQ
    exact W.lret (v := o71) hx hb hr (fun t ht hW => ⟨⟨o71, (), rfl, (by rw [← ho9]), ⟨by rw [ht]; exact hP9, va_K.moved hW.alike hK, hD9⟩⟩, hS.F ht⟩) hS.2.2 dX8_findLoop_150
def fX8_findWays_J52 (kk22 : Int32 → Int32 → ST → Option (Int32 × ST)) (v4_22 : Int32) (v2_52 : Int32) (p1w_52 : ST) : Option (Int32 × ST) := (kk22 v2_52 (v4_22 + 1) p1w_52)
def fX8_findWays_L22 (v3_4 : Int32) : Nat → Int32 → Int32 → ST → Option (Int32 × ST)
  | 0 => fun _ _ _ => none
  | n_22 + 1 => fun v2_22 v4_22 p1w_22 => (if (p1w_22 0 0) ≤ v4_22 then some (v2_22, p1w_22) else ((fX1_leads p1w_22 v4_22 v3_4).bind fun (o_5 : Int32) => (if o_5 = 0 then (fX8_findWays_J52 (fX8_findWays_L22 v3_4 n_22) v4_22 v2_22 p1w_22) else (if ixb v2_22 120 = true then (lt9 (upw p1w_22 15 (nn v2_22) v4_22) fun (w9 : ST) => (fX8_findWays_J52 (fX8_findWays_L22 v3_4 n_22) v4_22 (v2_22 + 1) w9)) else none))))
def fX8_findWays_L4  : Nat → Int32 → Int32 → ST → Option (Int32 × ST)
  | 0 => fun _ _ _ => none
  | n_4 + 1 => fun v2_4 v3_4 p1w_4 => (if (p1w_4 0 0) ≤ v3_4 then some (v2_4, p1w_4) else (if ixb v3_4 61 = true then (lt9 (upw p1w_4 14 (nn v3_4) v2_4) fun (w3 : ST) => ((fX8_findWays_L22 v3_4 NF v2_4 0 w3).bind fun (o22 : Int32 × ST) => ((fX8_findWays_L4 n_4) (o22.1) (v3_4 + 1) (o22.2)))) else none))
def fX8_findWays (p1w : ST) : Option ST := ((fX8_findWays_L4 NF 0 0 p1w).bind fun (o4 : Int32 × ST) => (if ixb ((o4.2) 0 0) 61 = true then (lt9 (upw (o4.2) 14 (nn ((o4.2) 0 0)) (o4.1)) fun (w11 : ST) => some w11) else none))
set_option maxHeartbeats 16000000 in
set_option maxRecDepth 100000 in
theorem kX8_findWays {zs : ZS} (l : Launch) (dC : Nat → ClassId) (dI : Nat → Nat → Nat) (p0a : Nat → Nat) (p0k : Nat → ClassId) (p0w : ST) (p1a : Nat → Nat) (p1k : Nat → ClassId) (p1n : Nat → Nat) (p1w : ST) (p1l : SL) (sz : Nat) (o : ST) (hrun : fX8_findWays p1w = some o) : Met l yX8_findWays (wz yX8_findWays cX8_findWays 5 (Option.none : Option Jvm.ClassFile.FieldType)) ({ frames := 1, cells := 0, slots := 0, locals := 22 } : Room) (va_Pc [.ref (p0a 0), .ref (p1a 0)] (PRE zs dC dI (List.flatten ([(oX8 (p0a 0) p0a p0k p0w), (oX1 (p1a 0) p1a p1k p1n p1w p1l)] : List va_W)) (List.flatten ([(tX8 p0k), (tX1 p1k)] : List (List (ClassId × FieldType)))) sz)) (va_Qv (fun (_ : Unit) => True) (fun _ t => POST dC dI (List.flatten ([(oX8 (p0a 0) p0a p0k p0w), (oX1 (p1a 0) p1a p1k p1n o p1l)] : List va_W)) (List.flatten ([(tX8 p0k), (tX1 p1k)] : List (List (ClassId × FieldType)))) (va_A (List.flatten ([(oX8 (p0a 0) p0a p0k p0w), (oX1 (p1a 0) p1a p1k p1n p1w p1l)] : List va_W)) sz) t) (va_A (List.flatten ([(oX8 (p0a 0) p0a p0k p0w), (oX1 (p1a 0) p1a p1k p1n p1w p1l)] : List va_W)) sz)) 0 0 (va_A (List.flatten ([(oX8 (p0a 0) p0a p0k p0w), (oX1 (p1a 0) p1a p1k p1n p1w p1l)] : List va_W)) sz) := by
  refine Met.ofW (cc := cX8_findWays) (maxL := 5) (ret := (Option.none : Option Jvm.ClassFile.FieldType)) (by decide) rfl ?_
  intro p e s m args below meth c s₁ B hml hv
  obtain ⟨rfl, hsz, hP, hK, hD0, hE⟩ := hv
  have hx := B.exec
  have hb := B.bytes
  have hr := B.returns
  have hts0 := atoms_spec (ws := wz yX8_findWays cX8_findWays 5 (Option.none : Option Jvm.ClassFile.FieldType)) B.pre
  have hts : ∀ w ∈ gw, w.before _ s = true := fun w h => hts0 w (List.mem_cons_of_mem _ h)
  have hown : s.vm.findClass RX8 = some m.cls := findClass_of_methodNamed B.named
  have hlocks := B.notSynchronized
  subst hsz
  have hD := hD0.self (sz := s.heap.size)
  refine gQ9 ?_
  intro Q hQ
  generalize hAe : va_A (List.flatten ([(oX8 (p0a 0) p0a p0k p0w), (oX1 (p1a 0) p1a p1k p1n p1w p1l)] : List va_W)) s.heap.size = A at hD hE hQ
  have hA : ∀ q : Nat, s.heap.size ≤ q → A q := fun q h => by rw [← hAe]; exact Or.inr h
  have hS : va_S A s.heap s.heap [] := va_S.rf
  have hP : va_P (dC, dI) cls (List.flatten ([(oX8 (p0a 0) p0a p0k p0w), (oX1 (p1a 0) p1a p1k p1n p1w p1l)] : List va_W)) s.heap := hP
  have hl := lv_entry ([.ref (p0a 0), .ref (p1a 0)]) (n := 5) (Nat.le_of_ble_eq_true rfl)
  rw [lg_entry_eq]
  generalize (lg_sl ([.ref (p0a 0), .ref (p1a 0)]) ++ List.replicate (5 - (lg_sl ([.ref (p0a 0), .ref (p1a 0)])).length) Slot.unset).toArray = ls at hl ⊢
  have hl : lv_has ls 5 [(0, .ref (p0a 0)), (1, .ref (p1a 0))] := hl
  obtain ⟨H, hHe⟩ : ∃ H, H = s.heap := ⟨_, rfl⟩
  obtain ⟨locs, hle⟩ : ∃ locs : List Loc, locs = [] := ⟨_, rfl⟩
  rw [← hHe] at hP
  have hS : va_S A s.heap H locs := by rw [hHe, hle]; exact hS
  show W p l e ({ frames := 1, cells := 0, slots := 0, locals := 22 } : Room) s m ([.ref (p0a 0), .ref (p1a 0)] : List Value).toArray below meth c s.heap [] 0 0 Q (F0 m 0 ls [])
  rw [← hle]
  refine wH9 hHe ?_
  unfold fX8_findWays at hrun
  refine lv_iconst (v := 0) hx hb dX8_findWays_0 (by decide) ?_
  refine lv_istore_n (lv' := [(2, .int 0), (0, .ref (p0a 0)), (1, .ref (p1a 0))]) hx hb dX8_findWays_1 rfl hl (by decide) rfl (fun ls hl => ?_)
  refine lv_iconst (v := 0) hx hb dX8_findWays_2 (by decide) ?_
  refine lv_istore_n (lv' := [(3, .int 0), (2, .int 0), (0, .ref (p0a 0)), (1, .ref (p1a 0))]) hx hb dX8_findWays_3 rfl hl (by decide) rfl (fun ls hl => ?_)
  have L4 : ∀ (n_4 : Nat) (v2_4 : Int32) (v3_4 : Int32) (p1w_4 : ST) (o4 : Int32 × ST) (H : Heap) (locs : List Loc) (ls : Array Slot), (fX8_findWays_L4 n_4) v2_4 v3_4 p1w_4 = some o4 → va_P (dC, dI) cls (List.flatten ([(oX8 (p0a 0) p0a p0k p0w), (oX1 (p1a 0) p1a p1k p1n p1w_4 p1l)] : List va_W)) H → va_D A (List.flatten ([(oX8 (p0a 0) p0a p0k p0w), (oX1 (p1a 0) p1a p1k p1n p1w_4 p1l)] : List va_W)) → va_K (dC, dI) cls (List.flatten ([(tX8 p0k), (tX1 p1k)] : List (List (ClassId × FieldType)))) s → va_S A s.heap H locs → lv_has ls 5 [(1, .ref (p1a 0)), (2, .int v2_4), (3, .int v3_4)] → (∀ (H : Heap) (locs : List Loc) (ls : Array Slot), va_P (dC, dI) cls (List.flatten ([(oX8 (p0a 0) p0a p0k p0w), (oX1 (p1a 0) p1a p1k p1n (o4.2) p1l)] : List va_W)) H → va_D A (List.flatten ([(oX8 (p0a 0) p0a p0k p0w), (oX1 (p1a 0) p1a p1k p1n (o4.2) p1l)] : List va_W)) → va_K (dC, dI) cls (List.flatten ([(tX8 p0k), (tX1 p1k)] : List (List (ClassId × FieldType)))) s → va_S A s.heap H locs → lv_has ls 5 [(1, .ref (p1a 0)), (2, .int (o4.1))] → W p l e ({ frames := 1, cells := 0, slots := 0, locals := 22 } : Room) s m ([.ref (p0a 0), .ref (p1a 0)] : List Value).toArray below meth c H locs 0 0 Q (F0 m 64 ls [])) → W p l e ({ frames := 1, cells := 0, slots := 0, locals := 22 } : Room) s m ([.ref (p0a 0), .ref (p1a 0)] : List Value).toArray below meth c H locs 0 0 Q (F0 m 4 ls []) := by
    intro n_4
    induction n_4 with
    | zero => intro v2_4 v3_4 p1w_4 o4 H locs ls hrun; exact (no9 rfl hrun).elim
    | succ n_4 IH4 =>
      intro v2_4 v3_4 p1w_4 o4 H locs ls hrun hP hD hK hS hl hk4
      unfold fX8_findWays_L4 at hrun
      refine lv_iload_n hx hb dX8_findWays_4 rfl (lv_at hl 2 rfl) ?_
      refine lv_aload_n hx hb dX8_findWays_5 rfl (lv_at hl 0 rfl) ?_
      refine va_get (D := (dC, dI)) (ci := 4) (v := .int (p1w_4 0 0)) (C := RX1) (T := TX1) (N := 21) hx hb hts i_X1 hown hK hP 6 rfl rfl 0 (by decide) (hts _ qw181) (fun _ h9 => h9) rfl dX8_findWays_6 ?_
      rcases br9 hrun with ⟨hc1, hrun⟩ | ⟨hc1, hrun⟩
      · refine lv_icmp_ge (tgt := 64) hx hb dX8_findWays_9 (by decide) (fun _ => ?_) (fun c => absurd hc1 c)
        obtain rfl := (Option.some.inj hrun)
        exact hk4 _ _ _ hP hD hK hS (lv_sub hl [0, 1] rfl)
      · refine lv_icmp_ge (tgt := 64) hx hb dX8_findWays_9 (by decide) (fun c => absurd c hc1) (fun _ => ?_)
        refine lv_aload_n hx hb dX8_findWays_12 rfl (lv_at hl 0 rfl) ?_
        refine va_get (D := (dC, dI)) (ci := 4) (v := .ref (p1a 14)) (C := RX1) (T := TX1) (N := 21) hx hb hts i_X1 hown hK hP 6 rfl rfl 13 (by decide) (hts _ qw201) (fun _ h9 => h9) rfl dX8_findWays_13 ?_
        refine lv_iload_n hx hb dX8_findWays_16 rfl (lv_at hl 2 rfl) ?_
        refine lv_iload_n hx hb dX8_findWays_17 rfl (lv_at hl 1 rfl) ?_
        obtain ⟨hq2, hrun⟩ := chk9 hrun
        refine va_iast hx hb hK hP hD hS 17 15 rfl rfl (ixb_in hq2) dX8_findWays_18 (fun H locs hP hD hS => ?_)
        have hP : va_P (dC, dI) cls (List.flatten ([(oX8 (p0a 0) p0a p0k p0w), (oX1 (p1a 0) p1a p1k p1n (upw p1w_4 14 (nn v3_4) v2_4) p1l)] : List va_W)) H := hP
        have hD : va_D A (List.flatten ([(oX8 (p0a 0) p0a p0k p0w), (oX1 (p1a 0) p1a p1k p1n (upw p1w_4 14 (nn v3_4) v2_4) p1l)] : List va_W)) := hD
        obtain ⟨w3, ew3, hrun⟩ := let9 hrun
        rw [← ew3] at hP hD
        refine lv_iconst (v := 0) hx hb dX8_findWays_19 (by decide) ?_
        refine lv_istore (lv' := [(4, .int 0), (1, .ref (p1a 0)), (2, .int v2_4), (3, .int v3_4)]) hx hb dX8_findWays_20 hl (by decide) rfl (fun ls hl => ?_)
        have L22 : ∀ (n_22 : Nat) (v2_22 : Int32) (v4_22 : Int32) (p1w_22 : ST) (o22 : Int32 × ST) (H : Heap) (locs : List Loc) (ls : Array Slot), (fX8_findWays_L22 v3_4 n_22) v2_22 v4_22 p1w_22 = some o22 → va_P (dC, dI) cls (List.flatten ([(oX8 (p0a 0) p0a p0k p0w), (oX1 (p1a 0) p1a p1k p1n p1w_22 p1l)] : List va_W)) H → va_D A (List.flatten ([(oX8 (p0a 0) p0a p0k p0w), (oX1 (p1a 0) p1a p1k p1n p1w_22 p1l)] : List va_W)) → va_K (dC, dI) cls (List.flatten ([(tX8 p0k), (tX1 p1k)] : List (List (ClassId × FieldType)))) s → va_S A s.heap H locs → lv_has ls 5 [(1, .ref (p1a 0)), (2, .int v2_22), (3, .int v3_4), (4, .int v4_22)] → (∀ (H : Heap) (locs : List Loc) (ls : Array Slot), va_P (dC, dI) cls (List.flatten ([(oX8 (p0a 0) p0a p0k p0w), (oX1 (p1a 0) p1a p1k p1n (o22.2) p1l)] : List va_W)) H → va_D A (List.flatten ([(oX8 (p0a 0) p0a p0k p0w), (oX1 (p1a 0) p1a p1k p1n (o22.2) p1l)] : List va_W)) → va_K (dC, dI) cls (List.flatten ([(tX8 p0k), (tX1 p1k)] : List (List (ClassId × FieldType)))) s → va_S A s.heap H locs → lv_has ls 5 [(1, .ref (p1a 0)), (2, .int (o22.1)), (3, .int v3_4)] → W p l e ({ frames := 1, cells := 0, slots := 0, locals := 22 } : Room) s m ([.ref (p0a 0), .ref (p1a 0)] : List Value).toArray below meth c H locs 0 0 Q (F0 m 58 ls [])) → W p l e ({ frames := 1, cells := 0, slots := 0, locals := 22 } : Room) s m ([.ref (p0a 0), .ref (p1a 0)] : List Value).toArray below meth c H locs 0 0 Q (F0 m 22 ls []) := by
          intro n_22
          induction n_22 with
          | zero => intro v2_22 v4_22 p1w_22 o22 H locs ls hrun; exact (no9 rfl hrun).elim
          | succ n_22 IH22 =>
            intro v2_22 v4_22 p1w_22 o22 H locs ls hrun hP hD hK hS hl hk22
            unfold fX8_findWays_L22 at hrun
            refine lv_iload hx hb dX8_findWays_22 (lv_at hl 3 rfl) ?_
            refine lv_aload_n hx hb dX8_findWays_24 rfl (lv_at hl 0 rfl) ?_
            refine va_get (D := (dC, dI)) (ci := 4) (v := .int (p1w_22 0 0)) (C := RX1) (T := TX1) (N := 21) hx hb hts i_X1 hown hK hP 6 rfl rfl 0 (by decide) (hts _ qw181) (fun _ h9 => h9) rfl dX8_findWays_25 ?_
            rcases br9 hrun with ⟨hc4, hrun⟩ | ⟨hc4, hrun⟩
            · refine lv_icmp_ge (tgt := 58) hx hb dX8_findWays_28 (by decide) (fun _ => ?_) (fun c => absurd hc4 c)
              obtain rfl := (Option.some.inj hrun)
              exact hk22 _ _ _ hP hD hK hS (lv_sub hl [0, 1, 2] rfl)
            · refine lv_icmp_ge (tgt := 58) hx hb dX8_findWays_28 (by decide) (fun c => absurd c hc4) (fun _ => ?_)
              refine lv_aload_n hx hb dX8_findWays_31 rfl (lv_at hl 0 rfl) ?_
              refine lv_iload hx hb dX8_findWays_32 (lv_at hl 3 rfl) ?_
              refine lv_iload_n hx hb dX8_findWays_34 rfl (lv_at hl 2 rfl) ?_
              obtain ⟨o_5, hc_5, hrun⟩ := bnd9 hrun
              have hPx : va_P (dC, dI) cls ((List.flatten ([(oX1 (p1a 0) p1a p1k p1n p1w_22 p1l)] : List va_W)) ++ (List.flatten ([(oX8 (p0a 0) p0a p0k p0w)] : List va_W))) H := vP_fa (vP_perm hP (bP ((((List.Perm.refl _)).cons _).trans (List.Perm.swap _ _ _))))
              have hDx : va_D A ((List.flatten ([(oX1 (p1a 0) p1a p1k p1n p1w_22 p1l)] : List va_W)) ++ (List.flatten ([(oX8 (p0a 0) p0a p0k p0w)] : List va_W))) := vD_fa (vD_perm hD (bP ((((List.Perm.refl _)).cons _).trans (List.Perm.swap _ _ _))))
              have hKx : va_K (dC, dI) cls ((List.flatten ([(tX1 p1k)] : List (List (ClassId × FieldType)))) ++ (List.flatten ([(tX8 p0k)] : List (List (ClassId × FieldType))))) s := vK_fa (vK_perm hK (bP ((((List.Perm.refl _)).cons _).trans (List.Perm.swap _ _ _))))
              have hPc := vP_l hPx
              have hDc := vD_l hDx
              have hKc := vK_l hKx
              have hFc := vfree hDx hS hA
              refine va_calli (va_runV (As := [.int v4_22, .int v3_4]) (rest := []) ⟨hx, hb, hml, hown, hts⟩ (kX1_leads l dC dI (p0a := p1a) (p0k := p1k) (p0n := p1n) (p0w := p1w_22) (p0l := p1l) (p1 := v4_22) (p2 := v3_4) (sz := _) (o := o_5) (hrun := hc_5)) (cwV 2 hts (gi_V qw203 qw204 qw205 qw126 (gi_z qw202)) rfl rfl rfl (by decide +kernel) ⟨Nat.le_of_ble_eq_true rfl, Nat.le_of_ble_eq_true rfl⟩) ⟨PRE.blind, va_recv hKc hPc (ci := 4) (q0 := 0) rfl rfl, PRE.of hE hS hFc hPc hKc hDc⟩ rfl rfl hl.1 rfl (lv_room (Nat.le_of_ble_eq_true rfl)) dX8_findWays_35 ⟨(Nat.le_of_ble_eq_true rfl), (Nat.le_of_ble_eq_true rfl)⟩) hS (fun q _ h => hFc q h) hFc (fun r6 u t H locs ht hvm hw hB hz1 hk1 hS => ?_)
              obtain ⟨b1, b2, b3⟩ := hB
              rw [ht] at b1
              obtain ⟨hP, hD, hK⟩ := JOINC (wc := (List.flatten ([(oX1 (p1a 0) p1a p1k p1n p1w_22 p1l)] : List va_W))) (wr := (List.flatten ([(oX8 (p0a 0) p0a p0k p0w)] : List va_W))) (w1 := (List.flatten ([(oX1 (p1a 0) p1a p1k p1n p1w_22 p1l)] : List va_W))) (t1 := (List.flatten ([(tX1 p1k)] : List (List (ClassId × FieldType))))) hPx hDx hKx hk1 hFc b1 (va_K.moved hvm.symm b2) b3
              have hP : va_P (dC, dI) cls (List.flatten ([(oX8 (p0a 0) p0a p0k p0w), (oX1 (p1a 0) p1a p1k p1n p1w_22 p1l)] : List va_W)) H := vP_perm (vP_fb hP) (bP ((((List.Perm.refl _)).cons _).trans (List.Perm.swap _ _ _)))
              have hD : va_D A (List.flatten ([(oX8 (p0a 0) p0a p0k p0w), (oX1 (p1a 0) p1a p1k p1n p1w_22 p1l)] : List va_W)) := vD_perm (vD_fb hD) (bP ((((List.Perm.refl _)).cons _).trans (List.Perm.swap _ _ _)))
              have hK : va_K (dC, dI) cls (List.flatten ([(tX8 p0k), (tX1 p1k)] : List (List (ClassId × FieldType)))) s := vK_perm (vK_fb hK) (bP ((((List.Perm.refl _)).cons _).trans (List.Perm.swap _ _ _)))
              obtain rfl : o_5 = r6 := hw.symm
              have J52 : ∀ (v2_52 : Int32) (p1w_52 : ST) (H : Heap) (locs : List Loc) (ls : Array Slot), (fX8_findWays_J52 (fX8_findWays_L22 v3_4 n_22) v4_22 v2_52 p1w_52) = some o22 → va_P (dC, dI) cls (List.flatten ([(oX8 (p0a 0) p0a p0k p0w), (oX1 (p1a 0) p1a p1k p1n p1w_52 p1l)] : List va_W)) H → va_D A (List.flatten ([(oX8 (p0a 0) p0a p0k p0w), (oX1 (p1a 0) p1a p1k p1n p1w_52 p1l)] : List va_W)) → va_K (dC, dI) cls (List.flatten ([(tX8 p0k), (tX1 p1k)] : List (List (ClassId × FieldType)))) s → va_S A s.heap H locs → lv_has ls 5 [(1, .ref (p1a 0)), (2, .int v2_52), (3, .int v3_4), (4, .int v4_22)] → W p l e ({ frames := 1, cells := 0, slots := 0, locals := 22 } : Room) s m ([.ref (p0a 0), .ref (p1a 0)] : List Value).toArray below meth c H locs 0 0 Q (F0 m 52 ls []) := by
                intro v2_52 p1w_52 H locs ls hrun hP hD hK hS hl 
                unfold fX8_findWays_J52 at hrun
                refine lv_iinc (v := (v4_22 + 1)) (lv' := [(4, .int (v4_22 + 1)), (1, .ref (p1a 0)), (2, .int v2_52), (3, .int v3_4)]) hx hb dX8_findWays_52 hl (k := 3) rfl rfl (by decide) rfl (fun ls hl => ?_)
                refine lv_goto (tgt := 22) hx hb dX8_findWays_55 (by decide) ?_
                exact IH22 v2_52 (v4_22 + 1) p1w_52 o22 _ _ _ hrun hP hD hK hS (lv_sub hl [1, 2, 3, 0] rfl) hk22
              rcases br9 hrun with ⟨hc7, hrun⟩ | ⟨hc7, hrun⟩
              · refine lv_if_eq (tgt := 52) hx hb dX8_findWays_38 (by decide) (fun _ => ?_) (fun c => absurd hc7 c)
                exact J52 v2_22 p1w_22 _ _ _ hrun hP hD hK hS (lv_sub hl [0, 1, 2, 3] rfl)
              · refine lv_if_eq (tgt := 52) hx hb dX8_findWays_38 (by decide) (fun c => absurd c hc7) (fun _ => ?_)
                refine lv_aload_n hx hb dX8_findWays_41 rfl (lv_at hl 0 rfl) ?_
                refine va_get (D := (dC, dI)) (ci := 4) (v := .ref (p1a 15)) (C := RX1) (T := TX1) (N := 21) hx hb hts i_X1 hown hK hP 6 rfl rfl 14 (by decide) (hts _ qw206) (fun _ h9 => h9) rfl dX8_findWays_42 ?_
                refine lv_iload_n hx hb dX8_findWays_45 rfl (lv_at hl 1 rfl) ?_
                refine lv_iload hx hb dX8_findWays_46 (lv_at hl 3 rfl) ?_
                obtain ⟨hq8, hrun⟩ := chk9 hrun
                refine va_iast hx hb hK hP hD hS 18 16 rfl rfl (ixb_in hq8) dX8_findWays_48 (fun H locs hP hD hS => ?_)
                have hP : va_P (dC, dI) cls (List.flatten ([(oX8 (p0a 0) p0a p0k p0w), (oX1 (p1a 0) p1a p1k p1n (upw p1w_22 15 (nn v2_22) v4_22) p1l)] : List va_W)) H := hP
                have hD : va_D A (List.flatten ([(oX8 (p0a 0) p0a p0k p0w), (oX1 (p1a 0) p1a p1k p1n (upw p1w_22 15 (nn v2_22) v4_22) p1l)] : List va_W)) := hD
                obtain ⟨w9, ew9, hrun⟩ := let9 hrun
                rw [← ew9] at hP hD
                refine lv_iinc (v := (v2_22 + 1)) (lv' := [(2, .int (v2_22 + 1)), (1, .ref (p1a 0)), (3, .int v3_4), (4, .int v4_22)]) hx hb dX8_findWays_49 hl (k := 1) rfl rfl (by decide) rfl (fun ls hl => ?_)
                exact J52 (v2_22 + 1) w9 _ _ _ hrun hP hD hK hS (lv_sub hl [1, 0, 2, 3] rfl)
        obtain ⟨o22, hc22, hrun⟩ := bnd9 hrun
        refine L22 NF v2_4 0 w3 o22 _ _ _ hc22 hP hD hK hS (lv_sub hl [1, 2, 3, 0] rfl) ?_
        intro H locs ls hP hD hK hS hl
        have hl := hl
        refine lv_iinc (v := (v3_4 + 1)) (lv' := [(3, .int (v3_4 + 1)), (1, .ref (p1a 0)), (2, .int (o22.1))]) hx hb dX8_findWays_58 hl (k := 2) rfl rfl (by decide) rfl (fun ls hl => ?_)
        refine lv_goto (tgt := 4) hx hb dX8_findWays_61 (by decide) ?_
        exact IH4 (o22.1) (v3_4 + 1) (o22.2) o4 _ _ _ hrun hP hD hK hS (lv_sub hl [1, 2, 0] rfl) hk4
  obtain ⟨o4, hc4, hrun⟩ := bnd9 hrun
  refine L4 NF 0 0 p1w o4 _ _ _ hc4 hP hD hK hS (lv_sub hl [3, 1, 0] rfl) ?_
  intro H locs ls hP hD hK hS hl
  have hl := hl
  refine lv_aload_n hx hb dX8_findWays_64 rfl (lv_at hl 0 rfl) ?_
  refine va_get (D := (dC, dI)) (ci := 4) (v := .ref (p1a 14)) (C := RX1) (T := TX1) (N := 21) hx hb hts i_X1 hown hK hP 6 rfl rfl 13 (by decide) (hts _ qw201) (fun _ h9 => h9) rfl dX8_findWays_65 ?_
  refine lv_aload_n hx hb dX8_findWays_68 rfl (lv_at hl 0 rfl) ?_
  refine va_get (D := (dC, dI)) (ci := 4) (v := .int ((o4.2) 0 0)) (C := RX1) (T := TX1) (N := 21) hx hb hts i_X1 hown hK hP 6 rfl rfl 0 (by decide) (hts _ qw181) (fun _ h9 => h9) rfl dX8_findWays_69 ?_
  refine lv_iload_n hx hb dX8_findWays_72 rfl (lv_at hl 1 rfl) ?_
  obtain ⟨hq10, hrun⟩ := chk9 hrun
  refine va_iast hx hb hK hP hD hS 17 15 rfl rfl (ixb_in hq10) dX8_findWays_73 (fun H locs hP hD hS => ?_)
  have hP : va_P (dC, dI) cls (List.flatten ([(oX8 (p0a 0) p0a p0k p0w), (oX1 (p1a 0) p1a p1k p1n (upw (o4.2) 14 (nn ((o4.2) 0 0)) (o4.1)) p1l)] : List va_W)) H := hP
  have hD : va_D A (List.flatten ([(oX8 (p0a 0) p0a p0k p0w), (oX1 (p1a 0) p1a p1k p1n (upw (o4.2) 14 (nn ((o4.2) 0 0)) (o4.1)) p1l)] : List va_W)) := hD
  obtain ⟨w11, ew11, hrun⟩ := let9 hrun
  rw [← ew11] at hP hD
  have ho9 : w11 = o := Option.some.inj hrun
  have hP9 : va_P (dC, dI) cls (List.flatten ([(oX8 (p0a 0) p0a p0k p0w), (oX1 (p1a 0) p1a p1k p1n o p1l)] : List va_W)) H := by first | exact hP | (rw [← ho9]; exact hP)
  have hD9 : va_D A (List.flatten ([(oX8 (p0a 0) p0a p0k p0w), (oX1 (p1a 0) p1a p1k p1n o p1l)] : List va_W)) := by first | exact hD | (rw [← ho9]; exact hD)
  subst hQ
  exact W.vret hx hb hr (fun t ht hW => ⟨⟨(), rfl, trivial, ⟨by rw [ht]; exact hP9, va_K.moved hW.alike hK, hD9⟩⟩, hS.F ht⟩) hS.2.2 dX8_findWays_74
def fJ7_fill_53178_L5 (p0n : Nat) (p1 : Int32) : Nat → Int32 → RI → Option RI
  | 0 => fun _ _ => none
  | n_5 + 1 => fun v2_5 p0f_5 => (if (Int32.ofNat p0n) ≤ v2_5 then some p0f_5 else (if ixb v2_5 p0n = true then (lt9 (upd p0f_5 (nn v2_5) p1) fun (f3 : RI) => ((fJ7_fill_53178_L5 p0n p1 n_5) (v2_5 + 1) f3)) else none))
def fJ7_fill_53178 (p0n : Nat) (p0f : RI) (p1 : Int32) : Option RI := ((fJ7_fill_53178_L5 p0n p1 NF 0 p0f).bind fun (o5 : RI) => some o5)
set_option maxHeartbeats 16000000 in
set_option maxRecDepth 100000 in
theorem kJ7_fill_53178 {zs : ZS} (l : Launch) (dC : Nat → ClassId) (dI : Nat → Nat → Nat) (p0a : Nat) (p0k : ClassId) (p0n : Nat) (p0f : RI) (p1 : Int32) (sz : Nat) (o : RI) (hrun : fJ7_fill_53178 p0n p0f p1 = some o) : Met l yJ7_fill_53178 (wz yJ7_fill_53178 cJ7_fill_53178 4 (Option.none : Option Jvm.ClassFile.FieldType)) ({ frames := 0, cells := 0, slots := 0, locals := 0 } : Room) (va_Pc [.ref p0a, .int p1] (PRE zs dC dI (List.flatten ([[(p0a, .inl (p0k, p0n, .inl p0f))]] : List va_W)) (List.flatten ([[(p0k, .int)]] : List (List (ClassId × FieldType)))) sz)) (va_Qv (fun (_ : Unit) => True) (fun _ t => POST dC dI (List.flatten ([[(p0a, .inl (p0k, p0n, .inl o))]] : List va_W)) (List.flatten ([[(p0k, .int)]] : List (List (ClassId × FieldType)))) (va_A (List.flatten ([[(p0a, .inl (p0k, p0n, .inl p0f))]] : List va_W)) sz) t) (va_A (List.flatten ([[(p0a, .inl (p0k, p0n, .inl p0f))]] : List va_W)) sz)) 0 0 (va_A (List.flatten ([[(p0a, .inl (p0k, p0n, .inl p0f))]] : List va_W)) sz) := by
  refine Met.ofW (cc := cJ7_fill_53178) (maxL := 4) (ret := (Option.none : Option Jvm.ClassFile.FieldType)) (by decide) rfl ?_
  intro p e s m args below meth c s₁ B hml hv
  obtain ⟨rfl, hsz, hP, hK, hD0, hE⟩ := hv
  have hx := B.exec
  have hb := B.bytes
  have hr := B.returns
  have hts0 := atoms_spec (ws := wz yJ7_fill_53178 cJ7_fill_53178 4 (Option.none : Option Jvm.ClassFile.FieldType)) B.pre
  have hts : ∀ w ∈ gw, w.before _ s = true := fun w h => hts0 w (List.mem_cons_of_mem _ h)
  have hown : s.vm.findClass RJ7 = some m.cls := findClass_of_methodNamed B.named
  have hlocks := B.notSynchronized
  subst hsz
  have hD := hD0.self (sz := s.heap.size)
  refine gQ9 ?_
  intro Q hQ
  generalize hAe : va_A (List.flatten ([[(p0a, .inl (p0k, p0n, .inl p0f))]] : List va_W)) s.heap.size = A at hD hE hQ
  have hA : ∀ q : Nat, s.heap.size ≤ q → A q := fun q h => by rw [← hAe]; exact Or.inr h
  have hS : va_S A s.heap s.heap [] := va_S.rf
  have hP : va_P (dC, dI) cls (List.flatten ([[(p0a, .inl (p0k, p0n, .inl p0f))]] : List va_W)) s.heap := hP
  have hl := lv_entry ([.ref p0a, .int p1]) (n := 4) (Nat.le_of_ble_eq_true rfl)
  rw [lg_entry_eq]
  generalize (lg_sl ([.ref p0a, .int p1]) ++ List.replicate (4 - (lg_sl ([.ref p0a, .int p1])).length) Slot.unset).toArray = ls at hl ⊢
  have hl : lv_has ls 4 [(0, .ref p0a), (1, .int p1)] := hl
  obtain ⟨H, hHe⟩ : ∃ H, H = s.heap := ⟨_, rfl⟩
  obtain ⟨locs, hle⟩ : ∃ locs : List Loc, locs = [] := ⟨_, rfl⟩
  rw [← hHe] at hP
  have hS : va_S A s.heap H locs := by rw [hHe, hle]; exact hS
  show W p l e ({ frames := 0, cells := 0, slots := 0, locals := 0 } : Room) s m ([.ref p0a, .int p1] : List Value).toArray below meth c s.heap [] 0 0 Q (F0 m 0 ls [])
  rw [← hle]
  refine wH9 hHe ?_
  unfold fJ7_fill_53178 at hrun
  refine lv_iconst (v := 0) hx hb dJ7_fill_53178_0 (by decide) ?_
  refine lv_istore_n (lv' := [(2, .int 0), (0, .ref p0a), (1, .int p1)]) hx hb dJ7_fill_53178_1 rfl hl (by decide) rfl (fun ls hl => ?_)
  refine lv_aload_n hx hb dJ7_fill_53178_2 rfl (lv_at hl 1 rfl) ?_
  refine va_alen (v := (Int32.ofNat p0n)) hx hb hK hP 0 0 rfl rfl rfl dJ7_fill_53178_3 ?_
  refine lv_istore_n (lv' := [(3, .int (Int32.ofNat p0n)), (2, .int 0), (0, .ref p0a), (1, .int p1)]) hx hb dJ7_fill_53178_4 rfl hl (by decide) rfl (fun ls hl => ?_)
  have L5 : ∀ (n_5 : Nat) (v2_5 : Int32) (p0f_5 : RI) (o5 : RI) (H : Heap) (locs : List Loc) (ls : Array Slot), (fJ7_fill_53178_L5 p0n p1 n_5) v2_5 p0f_5 = some o5 → va_P (dC, dI) cls (List.flatten ([[(p0a, .inl (p0k, p0n, .inl p0f_5))]] : List va_W)) H → va_D A (List.flatten ([[(p0a, .inl (p0k, p0n, .inl p0f_5))]] : List va_W)) → va_K (dC, dI) cls (List.flatten ([[(p0k, .int)]] : List (List (ClassId × FieldType)))) s → va_S A s.heap H locs → lv_has ls 4 [(0, .ref p0a), (1, .int p1), (2, .int v2_5), (3, .int (Int32.ofNat p0n))] → (∀ (H : Heap) (locs : List Loc) (ls : Array Slot), va_P (dC, dI) cls (List.flatten ([[(p0a, .inl (p0k, p0n, .inl o5))]] : List va_W)) H → va_D A (List.flatten ([[(p0a, .inl (p0k, p0n, .inl o5))]] : List va_W)) → va_K (dC, dI) cls (List.flatten ([[(p0k, .int)]] : List (List (ClassId × FieldType)))) s → va_S A s.heap H locs → lv_has ls 4 [] → W p l e ({ frames := 0, cells := 0, slots := 0, locals := 0 } : Room) s m ([.ref p0a, .int p1] : List Value).toArray below meth c H locs 0 0 Q (F0 m 20 ls [])) → W p l e ({ frames := 0, cells := 0, slots := 0, locals := 0 } : Room) s m ([.ref p0a, .int p1] : List Value).toArray below meth c H locs 0 0 Q (F0 m 5 ls []) := by
    intro n_5
    induction n_5 with
    | zero => intro v2_5 p0f_5 o5 H locs ls hrun; exact (no9 rfl hrun).elim
    | succ n_5 IH5 =>
      intro v2_5 p0f_5 o5 H locs ls hrun hP hD hK hS hl hk5
      unfold fJ7_fill_53178_L5 at hrun
      refine lv_iload_n hx hb dJ7_fill_53178_5 rfl (lv_at hl 2 rfl) ?_
      refine lv_iload_n hx hb dJ7_fill_53178_6 rfl (lv_at hl 3 rfl) ?_
      rcases br9 hrun with ⟨hc1, hrun⟩ | ⟨hc1, hrun⟩
      · refine lv_icmp_ge (tgt := 20) hx hb dJ7_fill_53178_7 (by decide) (fun _ => ?_) (fun c => absurd hc1 c)
        obtain rfl := (Option.some.inj hrun)
        exact hk5 _ _ _ hP hD hK hS (lv_sub hl [] rfl)
      · refine lv_icmp_ge (tgt := 20) hx hb dJ7_fill_53178_7 (by decide) (fun c => absurd c hc1) (fun _ => ?_)
        refine lv_aload_n hx hb dJ7_fill_53178_10 rfl (lv_at hl 0 rfl) ?_
        refine lv_iload_n hx hb dJ7_fill_53178_11 rfl (lv_at hl 2 rfl) ?_
        refine lv_iload_n hx hb dJ7_fill_53178_12 rfl (lv_at hl 1 rfl) ?_
        obtain ⟨hq2, hrun⟩ := chk9 hrun
        refine va_iast hx hb hK hP hD hS 0 0 rfl rfl (ixb_in hq2) dJ7_fill_53178_13 (fun H locs hP hD hS => ?_)
        have hP : va_P (dC, dI) cls (List.flatten ([[(p0a, .inl (p0k, p0n, .inl (upd p0f_5 (nn v2_5) p1)))]] : List va_W)) H := hP
        have hD : va_D A (List.flatten ([[(p0a, .inl (p0k, p0n, .inl (upd p0f_5 (nn v2_5) p1)))]] : List va_W)) := hD
        obtain ⟨f3, ef3, hrun⟩ := let9 hrun
        rw [← ef3] at hP hD
        refine lv_iinc (v := (v2_5 + 1)) (lv' := [(2, .int (v2_5 + 1)), (0, .ref p0a), (1, .int p1), (3, .int (Int32.ofNat p0n))]) hx hb dJ7_fill_53178_14 hl (k := 2) rfl rfl (by decide) rfl (fun ls hl => ?_)
        refine lv_goto (tgt := 5) hx hb dJ7_fill_53178_17 (by decide) ?_
        exact IH5 (v2_5 + 1) f3 o5 _ _ _ hrun hP hD hK hS (lv_sub hl [1, 2, 0, 3] rfl) hk5
  obtain ⟨o5, hc5, hrun⟩ := bnd9 hrun
  refine L5 NF 0 p0f o5 _ _ _ hc5 hP hD hK hS (lv_sub hl [2, 3, 1, 0] rfl) ?_
  intro H locs ls hP hD hK hS hl
  have hl := hl
  have ho9 : o5 = o := Option.some.inj hrun
  have hP9 : va_P (dC, dI) cls (List.flatten ([[(p0a, .inl (p0k, p0n, .inl o))]] : List va_W)) H := by first | exact hP | (rw [← ho9]; exact hP)
  have hD9 : va_D A (List.flatten ([[(p0a, .inl (p0k, p0n, .inl o))]] : List va_W)) := by first | exact hD | (rw [← ho9]; exact hD)
  subst hQ
  exact W.vret hx hb hr (fun t ht hW => ⟨⟨(), rfl, trivial, ⟨by rw [ht]; exact hP9, va_K.moved hW.alike hK, hD9⟩⟩, hS.F ht⟩) hS.2.2 dJ7_fill_53178_20
def fX8_measure_J74 (kk41 : Int32 → ST → Option ST) (v3_41 : Int32) (p1w_41 : ST) (y0_74 : Int32) (y1_74 : Int32) (y2_74 : Int32) : Option ST := (if ixb y2_74 60 = true then (lt9 (upw p1w_41 13 (nn y2_74) (y1_74 + y0_74)) fun (w15 : ST) => (kk41 (v3_41 + 1) w15)) else none)
def fX8_measure_L41 (v2_20 : Int32) (l8 : SL) : Nat → Int32 → ST → Option ST
  | 0 => fun _ _ => none
  | n_41 + 1 => fun v3_41 p1w_41 => (if (p1w_41 0 0) ≤ v3_41 then some p1w_41 else (if ixb v3_41 60 = true then (if ixb v2_20 60 = true then ((fX11_holds (l8 17 (nn v2_20)) v3_41).bind fun (o_12 : Int32) => (if o_12 = 0 then (fX8_measure_J74 (fX8_measure_L41 v2_20 l8 n_41) v3_41 p1w_41 0 (p1w_41 13 (nn v3_41)) v3_41) else (fX8_measure_J74 (fX8_measure_L41 v2_20 l8 n_41) v3_41 p1w_41 1 (p1w_41 13 (nn v3_41)) v3_41))) else none) else none))
def fX8_measure_L20  : Nat → Int32 → ST → SL → Option (ST × SL)
  | 0 => fun _ _ _ => none
  | n_20 + 1 => fun v2_20 p1w_20 p1l_20 => (if (p1w_20 0 0) ≤ v2_20 then some (p1w_20, p1l_20) else ((fX8_findLoop p1w_20 p1l_20 v2_20).bind fun (o_5 : Int64) => (if ixb v2_20 60 = true then (lt9 (upl p1l_20 17 (nn v2_20) o_5) fun (l8 : SL) => ((fX8_measure_L41 v2_20 l8 NF 0 p1w_20).bind fun (o41 : ST) => ((fX8_measure_L20 n_20) (v2_20 + 1) o41 l8))) else none)))
def fX8_measure (p1w : ST) (p1l : SL) : Option (ST × SL) := ((fX8_findWays p1w).bind fun (o_1 : ST) => ((fX8_findDominators o_1 p1l).bind fun (o_2 : ST × SL) => ((fJ7_fill_53178 60 ((o_2.1) 13) 0).bind fun (o_3 : RI) => ((fX8_measure_L20 NF 0 (srw (o_2.1) 13 o_3) (o_2.2)).bind fun (o20 : ST × SL) => some ((o20.1), (o20.2))))))
set_option maxHeartbeats 16000000 in
set_option maxRecDepth 100000 in
theorem kX8_measure {zs : ZS} (l : Launch) (dC : Nat → ClassId) (dI : Nat → Nat → Nat) (p0a : Nat → Nat) (p0k : Nat → ClassId) (p0w : ST) (p1a : Nat → Nat) (p1k : Nat → ClassId) (p1n : Nat → Nat) (p1w : ST) (p1l : SL) (sz : Nat) (o : ST × SL) (hrun : fX8_measure p1w p1l = some o) : Met l yX8_measure (wz yX8_measure cX8_measure 4 (Option.none : Option Jvm.ClassFile.FieldType)) ({ frames := 3, cells := 0, slots := 0, locals := 74 } : Room) (va_Pc [.ref (p0a 0), .ref (p1a 0)] (PRE zs dC dI (List.flatten ([(oX8 (p0a 0) p0a p0k p0w), (oX1 (p1a 0) p1a p1k p1n p1w p1l)] : List va_W)) (List.flatten ([(tX8 p0k), (tX1 p1k)] : List (List (ClassId × FieldType)))) sz)) (va_Qv (fun (_ : Unit) => True) (fun _ t => POST dC dI (List.flatten ([(oX8 (p0a 0) p0a p0k p0w), (oX1 (p1a 0) p1a p1k p1n (o.1) (o.2))] : List va_W)) (List.flatten ([(tX8 p0k), (tX1 p1k)] : List (List (ClassId × FieldType)))) (va_A (List.flatten ([(oX8 (p0a 0) p0a p0k p0w), (oX1 (p1a 0) p1a p1k p1n p1w p1l)] : List va_W)) sz) t) (va_A (List.flatten ([(oX8 (p0a 0) p0a p0k p0w), (oX1 (p1a 0) p1a p1k p1n p1w p1l)] : List va_W)) sz)) 0 0 (va_A (List.flatten ([(oX8 (p0a 0) p0a p0k p0w), (oX1 (p1a 0) p1a p1k p1n p1w p1l)] : List va_W)) sz) := by
  refine Met.ofW (cc := cX8_measure) (maxL := 4) (ret := (Option.none : Option Jvm.ClassFile.FieldType)) (by decide) rfl ?_
  intro p e s m args below meth c s₁ B hml hv
  obtain ⟨rfl, hsz, hP, hK, hD0, hE⟩ := hv
  have hx := B.exec
  have hb := B.bytes
  have hr := B.returns
  have hts0 := atoms_spec (ws := wz yX8_measure cX8_measure 4 (Option.none : Option Jvm.ClassFile.FieldType)) B.pre
  have hts : ∀ w ∈ gw, w.before _ s = true := fun w h => hts0 w (List.mem_cons_of_mem _ h)
  have hown : s.vm.findClass RX8 = some m.cls := findClass_of_methodNamed B.named
  have hlocks := B.notSynchronized
  subst hsz
  have hD := hD0.self (sz := s.heap.size)
  refine gQ9 ?_
  intro Q hQ
  generalize hAe : va_A (List.flatten ([(oX8 (p0a 0) p0a p0k p0w), (oX1 (p1a 0) p1a p1k p1n p1w p1l)] : List va_W)) s.heap.size = A at hD hE hQ
  have hA : ∀ q : Nat, s.heap.size ≤ q → A q := fun q h => by rw [← hAe]; exact Or.inr h
  have hS : va_S A s.heap s.heap [] := va_S.rf
  have hP : va_P (dC, dI) cls (List.flatten ([(oX8 (p0a 0) p0a p0k p0w), (oX1 (p1a 0) p1a p1k p1n p1w p1l)] : List va_W)) s.heap := hP
  have hl := lv_entry ([.ref (p0a 0), .ref (p1a 0)]) (n := 4) (Nat.le_of_ble_eq_true rfl)
  rw [lg_entry_eq]
  generalize (lg_sl ([.ref (p0a 0), .ref (p1a 0)]) ++ List.replicate (4 - (lg_sl ([.ref (p0a 0), .ref (p1a 0)])).length) Slot.unset).toArray = ls at hl ⊢
  have hl : lv_has ls 4 [(0, .ref (p0a 0)), (1, .ref (p1a 0))] := hl
  obtain ⟨H, hHe⟩ : ∃ H, H = s.heap := ⟨_, rfl⟩
  obtain ⟨locs, hle⟩ : ∃ locs : List Loc, locs = [] := ⟨_, rfl⟩
  rw [← hHe] at hP
  have hS : va_S A s.heap H locs := by rw [hHe, hle]; exact hS
  show W p l e ({ frames := 3, cells := 0, slots := 0, locals := 74 } : Room) s m ([.ref (p0a 0), .ref (p1a 0)] : List Value).toArray below meth c s.heap [] 0 0 Q (F0 m 0 ls [])
  rw [← hle]
  refine wH9 hHe ?_
  unfold fX8_measure at hrun
  refine lv_aload_n hx hb dX8_measure_0 rfl (lv_at hl 0 rfl) ?_
  refine lv_aload_n hx hb dX8_measure_1 rfl (lv_at hl 1 rfl) ?_
  obtain ⟨o_1, hc_1, hrun⟩ := bnd9 hrun
  have hPx : va_P (dC, dI) cls ((List.flatten ([(oX8 (p0a 0) p0a p0k p0w), (oX1 (p1a 0) p1a p1k p1n p1w p1l)] : List va_W)) ++ (List.flatten ([] : List va_W))) H := vP_fa (vP_perm hP (bP (List.Perm.refl _)))
  have hDx : va_D A ((List.flatten ([(oX8 (p0a 0) p0a p0k p0w), (oX1 (p1a 0) p1a p1k p1n p1w p1l)] : List va_W)) ++ (List.flatten ([] : List va_W))) := vD_fa (vD_perm hD (bP (List.Perm.refl _)))
  have hKx : va_K (dC, dI) cls ((List.flatten ([(tX8 p0k), (tX1 p1k)] : List (List (ClassId × FieldType)))) ++ (List.flatten ([] : List (List (ClassId × FieldType))))) s := vK_fa (vK_perm hK (bP (List.Perm.refl _)))
  have hPc := vP_l hPx
  have hDc := vD_l hDx
  have hKc := vK_l hKx
  have hFc := vfree hDx hS hA
  refine va_callv (va_runV (As := [.ref (p1a 0)]) (rest := []) ⟨hx, hb, hml, hown, hts⟩ (kX8_findWays l dC dI (p0a := p0a) (p0k := p0k) (p0w := p0w) (p1a := p1a) (p1k := p1k) (p1n := p1n) (p1w := p1w) (p1l := p1l) (sz := _) (o := o_1) (hrun := hc_1)) (cwV 1 hts (gi_V qw208 qw209 qw210 qw197 (gi_z qw207)) rfl rfl rfl (by decide +kernel) ⟨Nat.le_of_ble_eq_true rfl, Nat.le_of_ble_eq_true rfl⟩) ⟨PRE.blind, va_recv hKc hPc (ci := 5) (q0 := 0) rfl rfl, PRE.of hE hS hFc hPc hKc hDc⟩ rfl rfl hl.1 rfl (lv_room (Nat.le_of_ble_eq_true rfl)) dX8_measure_2 ⟨(Nat.le_of_ble_eq_true rfl), (Nat.le_of_ble_eq_true rfl)⟩) hS (fun q _ h => hFc q h) hFc (fun u t H locs ht hvm hw hB hz1 hk1 hS => ?_)
  obtain ⟨b1, b2, b3⟩ := hB
  rw [ht] at b1
  obtain ⟨hP, hD, hK⟩ := JOINC (wc := (List.flatten ([(oX8 (p0a 0) p0a p0k p0w), (oX1 (p1a 0) p1a p1k p1n p1w p1l)] : List va_W))) (wr := (List.flatten ([] : List va_W))) (w1 := (List.flatten ([(oX8 (p0a 0) p0a p0k p0w), (oX1 (p1a 0) p1a p1k p1n o_1 p1l)] : List va_W))) (t1 := (List.flatten ([(tX8 p0k), (tX1 p1k)] : List (List (ClassId × FieldType))))) hPx hDx hKx hk1 hFc b1 (va_K.moved hvm.symm b2) b3
  have hP : va_P (dC, dI) cls (List.flatten ([(oX8 (p0a 0) p0a p0k p0w), (oX1 (p1a 0) p1a p1k p1n o_1 p1l)] : List va_W)) H := vP_perm (vP_fb hP) (bP (List.Perm.refl _))
  have hD : va_D A (List.flatten ([(oX8 (p0a 0) p0a p0k p0w), (oX1 (p1a 0) p1a p1k p1n o_1 p1l)] : List va_W)) := vD_perm (vD_fb hD) (bP (List.Perm.refl _))
  have hK : va_K (dC, dI) cls (List.flatten ([(tX8 p0k), (tX1 p1k)] : List (List (ClassId × FieldType)))) s := vK_perm (vK_fb hK) (bP (List.Perm.refl _))
  refine lv_aload_n hx hb dX8_measure_5 rfl (lv_at hl 0 rfl) ?_
  refine lv_aload_n hx hb dX8_measure_6 rfl (lv_at hl 1 rfl) ?_
  obtain ⟨o_2, hc_2, hrun⟩ := bnd9 hrun
  have hPx : va_P (dC, dI) cls ((List.flatten ([(oX8 (p0a 0) p0a p0k p0w), (oX1 (p1a 0) p1a p1k p1n o_1 p1l)] : List va_W)) ++ (List.flatten ([] : List va_W))) H := vP_fa (vP_perm hP (bP (List.Perm.refl _)))
  have hDx : va_D A ((List.flatten ([(oX8 (p0a 0) p0a p0k p0w), (oX1 (p1a 0) p1a p1k p1n o_1 p1l)] : List va_W)) ++ (List.flatten ([] : List va_W))) := vD_fa (vD_perm hD (bP (List.Perm.refl _)))
  have hKx : va_K (dC, dI) cls ((List.flatten ([(tX8 p0k), (tX1 p1k)] : List (List (ClassId × FieldType)))) ++ (List.flatten ([] : List (List (ClassId × FieldType))))) s := vK_fa (vK_perm hK (bP (List.Perm.refl _)))
  have hPc := vP_l hPx
  have hDc := vD_l hDx
  have hKc := vK_l hKx
  have hFc := vfree hDx hS hA
  refine va_callv (va_runV (As := [.ref (p1a 0)]) (rest := []) ⟨hx, hb, hml, hown, hts⟩ (kX8_findDominators l dC dI (p0a := p0a) (p0k := p0k) (p0w := p0w) (p1a := p1a) (p1k := p1k) (p1n := p1n) (p1w := o_1) (p1l := p1l) (sz := _) (o := o_2) (hrun := hc_2)) (cwV 1 hts (gi_V qw212 qw213 qw214 qw197 (gi_z qw211)) rfl rfl rfl (by decide +kernel) ⟨Nat.le_of_ble_eq_true rfl, Nat.le_of_ble_eq_true rfl⟩) ⟨PRE.blind, va_recv hKc hPc (ci := 5) (q0 := 0) rfl rfl, PRE.of hE hS hFc hPc hKc hDc⟩ rfl rfl hl.1 rfl (lv_room (Nat.le_of_ble_eq_true rfl)) dX8_measure_7 ⟨(Nat.le_of_ble_eq_true rfl), (Nat.le_of_ble_eq_true rfl)⟩) hS (fun q _ h => hFc q h) hFc (fun u t H locs ht hvm hw hB hz1 hk1 hS => ?_)
  obtain ⟨b1, b2, b3⟩ := hB
  rw [ht] at b1
  obtain ⟨hP, hD, hK⟩ := JOINC (wc := (List.flatten ([(oX8 (p0a 0) p0a p0k p0w), (oX1 (p1a 0) p1a p1k p1n o_1 p1l)] : List va_W))) (wr := (List.flatten ([] : List va_W))) (w1 := (List.flatten ([(oX8 (p0a 0) p0a p0k p0w), (oX1 (p1a 0) p1a p1k p1n (o_2.1) (o_2.2))] : List va_W))) (t1 := (List.flatten ([(tX8 p0k), (tX1 p1k)] : List (List (ClassId × FieldType))))) hPx hDx hKx hk1 hFc b1 (va_K.moved hvm.symm b2) b3
  have hP : va_P (dC, dI) cls (List.flatten ([(oX8 (p0a 0) p0a p0k p0w), (oX1 (p1a 0) p1a p1k p1n (o_2.1) (o_2.2))] : List va_W)) H := vP_perm (vP_fb hP) (bP (List.Perm.refl _))
  have hD : va_D A (List.flatten ([(oX8 (p0a 0) p0a p0k p0w), (oX1 (p1a 0) p1a p1k p1n (o_2.1) (o_2.2))] : List va_W)) := vD_perm (vD_fb hD) (bP (List.Perm.refl _))
  have hK : va_K (dC, dI) cls (List.flatten ([(tX8 p0k), (tX1 p1k)] : List (List (ClassId × FieldType)))) s := vK_perm (vK_fb hK) (bP (List.Perm.refl _))
  refine lv_aload_n hx hb dX8_measure_10 rfl (lv_at hl 1 rfl) ?_
  refine va_get (D := (dC, dI)) (ci := 4) (v := .ref (p1a 13)) (C := RX1) (T := TX1) (N := 21) hx hb hts i_X1 hown hK hP 6 rfl rfl 12 (by decide) (hts _ qw215) (fun _ h9 => h9) rfl dX8_measure_11 ?_
  refine lv_iconst (v := 0) hx hb dX8_measure_14 (by decide) ?_
  obtain ⟨o_3, hc_3, hrun⟩ := bnd9 hrun
  have hP2 : va_P (dC, dI) cls (List.flatten ([[((p1a 13), .inl ((p1k 13), 60, .inl ((o_2.1) 13)))], [((p1a 0), .inr (4, [.int ((o_2.1) 0 0), .int ((o_2.1) 0 1), .ref (p1a 3), .ref (p1a 4), .ref (p1a 5), .ref (p1a 6), .ref (p1a 7), .ref (p1a 8), .ref (p1a 9), .ref (p1a 10), .ref (p1a 11), .ref (p1a 12), .ref (p1a 13), .ref (p1a 14), .ref (p1a 15), .ref (p1a 16), .ref (p1a 17), .int ((o_2.1) 0 17), .ref (p1a 19), .ref (p1a 20), .ref (p1a 21)])), ((p1a 4), .inl ((p1k 4), 60, .inl ((o_2.1) 4))), ((p1a 5), .inl ((p1k 5), 60, .inl ((o_2.1) 5))), ((p1a 6), .inl ((p1k 6), 60, .inl ((o_2.1) 6))), ((p1a 7), .inl ((p1k 7), 60, .inl ((o_2.1) 7))), ((p1a 8), .inl ((p1k 8), 60, .inl ((o_2.1) 8))), ((p1a 9), .inl ((p1k 9), 60, .inl ((o_2.1) 9))), ((p1a 10), .inl ((p1k 10), 60, .inl ((o_2.1) 10))), ((p1a 11), .inl ((p1k 11), 60, .inl ((o_2.1) 11))), ((p1a 12), .inl ((p1k 12), 60, .inl ((o_2.1) 12))), ((p1a 14), .inl ((p1k 14), 61, .inl ((o_2.1) 14))), ((p1a 15), .inl ((p1k 15), 120, .inl ((o_2.1) 15))), ((p1a 16), .inl ((p1k 16), 60, .inr (.inl ((o_2.2) 16)))), ((p1a 17), .inl ((p1k 17), 60, .inr (.inl ((o_2.2) 17)))), ((p1a 19), .inl ((p1k 19), (p1n 19), .inl ((o_2.1) 19))), ((p1a 20), .inl ((p1k 20), (p1n 20), .inl ((o_2.1) 20))), ((p1a 21), .inl ((p1k 21), (p1n 21), .inl ((o_2.1) 21)))], (oX8 (p0a 0) p0a p0k p0w)] : List va_W)) H := vP_perm hP ((bP ((((List.Perm.refl _)).cons _).trans (List.Perm.swap _ _ _))).trans (List.Perm.append_right _ (List.perm_middle (a := (((p1a 13), .inl ((p1k 13), 60, .inl ((o_2.1) 13))) : Nat × va_E)) (l₁ := ([((p1a 0), .inr (4, [.int ((o_2.1) 0 0), .int ((o_2.1) 0 1), .ref (p1a 3), .ref (p1a 4), .ref (p1a 5), .ref (p1a 6), .ref (p1a 7), .ref (p1a 8), .ref (p1a 9), .ref (p1a 10), .ref (p1a 11), .ref (p1a 12), .ref (p1a 13), .ref (p1a 14), .ref (p1a 15), .ref (p1a 16), .ref (p1a 17), .int ((o_2.1) 0 17), .ref (p1a 19), .ref (p1a 20), .ref (p1a 21)])), ((p1a 4), .inl ((p1k 4), 60, .inl ((o_2.1) 4))), ((p1a 5), .inl ((p1k 5), 60, .inl ((o_2.1) 5))), ((p1a 6), .inl ((p1k 6), 60, .inl ((o_2.1) 6))), ((p1a 7), .inl ((p1k 7), 60, .inl ((o_2.1) 7))), ((p1a 8), .inl ((p1k 8), 60, .inl ((o_2.1) 8))), ((p1a 9), .inl ((p1k 9), 60, .inl ((o_2.1) 9))), ((p1a 10), .inl ((p1k 10), 60, .inl ((o_2.1) 10))), ((p1a 11), .inl ((p1k 11), 60, .inl ((o_2.1) 11))), ((p1a 12), .inl ((p1k 12), 60, .inl ((o_2.1) 12)))] : va_W)) (l₂ := ([((p1a 14), .inl ((p1k 14), 61, .inl ((o_2.1) 14))), ((p1a 15), .inl ((p1k 15), 120, .inl ((o_2.1) 15))), ((p1a 16), .inl ((p1k 16), 60, .inr (.inl ((o_2.2) 16)))), ((p1a 17), .inl ((p1k 17), 60, .inr (.inl ((o_2.2) 17)))), ((p1a 19), .inl ((p1k 19), (p1n 19), .inl ((o_2.1) 19))), ((p1a 20), .inl ((p1k 20), (p1n 20), .inl ((o_2.1) 20))), ((p1a 21), .inl ((p1k 21), (p1n 21), .inl ((o_2.1) 21)))] : va_W)))))
  have hD2 : va_D A (List.flatten ([[((p1a 13), .inl ((p1k 13), 60, .inl ((o_2.1) 13)))], [((p1a 0), .inr (4, [.int ((o_2.1) 0 0), .int ((o_2.1) 0 1), .ref (p1a 3), .ref (p1a 4), .ref (p1a 5), .ref (p1a 6), .ref (p1a 7), .ref (p1a 8), .ref (p1a 9), .ref (p1a 10), .ref (p1a 11), .ref (p1a 12), .ref (p1a 13), .ref (p1a 14), .ref (p1a 15), .ref (p1a 16), .ref (p1a 17), .int ((o_2.1) 0 17), .ref (p1a 19), .ref (p1a 20), .ref (p1a 21)])), ((p1a 4), .inl ((p1k 4), 60, .inl ((o_2.1) 4))), ((p1a 5), .inl ((p1k 5), 60, .inl ((o_2.1) 5))), ((p1a 6), .inl ((p1k 6), 60, .inl ((o_2.1) 6))), ((p1a 7), .inl ((p1k 7), 60, .inl ((o_2.1) 7))), ((p1a 8), .inl ((p1k 8), 60, .inl ((o_2.1) 8))), ((p1a 9), .inl ((p1k 9), 60, .inl ((o_2.1) 9))), ((p1a 10), .inl ((p1k 10), 60, .inl ((o_2.1) 10))), ((p1a 11), .inl ((p1k 11), 60, .inl ((o_2.1) 11))), ((p1a 12), .inl ((p1k 12), 60, .inl ((o_2.1) 12))), ((p1a 14), .inl ((p1k 14), 61, .inl ((o_2.1) 14))), ((p1a 15), .inl ((p1k 15), 120, .inl ((o_2.1) 15))), ((p1a 16), .inl ((p1k 16), 60, .inr (.inl ((o_2.2) 16)))), ((p1a 17), .inl ((p1k 17), 60, .inr (.inl ((o_2.2) 17)))), ((p1a 19), .inl ((p1k 19), (p1n 19), .inl ((o_2.1) 19))), ((p1a 20), .inl ((p1k 20), (p1n 20), .inl ((o_2.1) 20))), ((p1a 21), .inl ((p1k 21), (p1n 21), .inl ((o_2.1) 21)))], (oX8 (p0a 0) p0a p0k p0w)] : List va_W)) := vD_perm hD ((bP ((((List.Perm.refl _)).cons _).trans (List.Perm.swap _ _ _))).trans (List.Perm.append_right _ (List.perm_middle (a := (((p1a 13), .inl ((p1k 13), 60, .inl ((o_2.1) 13))) : Nat × va_E)) (l₁ := ([((p1a 0), .inr (4, [.int ((o_2.1) 0 0), .int ((o_2.1) 0 1), .ref (p1a 3), .ref (p1a 4), .ref (p1a 5), .ref (p1a 6), .ref (p1a 7), .ref (p1a 8), .ref (p1a 9), .ref (p1a 10), .ref (p1a 11), .ref (p1a 12), .ref (p1a 13), .ref (p1a 14), .ref (p1a 15), .ref (p1a 16), .ref (p1a 17), .int ((o_2.1) 0 17), .ref (p1a 19), .ref (p1a 20), .ref (p1a 21)])), ((p1a 4), .inl ((p1k 4), 60, .inl ((o_2.1) 4))), ((p1a 5), .inl ((p1k 5), 60, .inl ((o_2.1) 5))), ((p1a 6), .inl ((p1k 6), 60, .inl ((o_2.1) 6))), ((p1a 7), .inl ((p1k 7), 60, .inl ((o_2.1) 7))), ((p1a 8), .inl ((p1k 8), 60, .inl ((o_2.1) 8))), ((p1a 9), .inl ((p1k 9), 60, .inl ((o_2.1) 9))), ((p1a 10), .inl ((p1k 10), 60, .inl ((o_2.1) 10))), ((p1a 11), .inl ((p1k 11), 60, .inl ((o_2.1) 11))), ((p1a 12), .inl ((p1k 12), 60, .inl ((o_2.1) 12)))] : va_W)) (l₂ := ([((p1a 14), .inl ((p1k 14), 61, .inl ((o_2.1) 14))), ((p1a 15), .inl ((p1k 15), 120, .inl ((o_2.1) 15))), ((p1a 16), .inl ((p1k 16), 60, .inr (.inl ((o_2.2) 16)))), ((p1a 17), .inl ((p1k 17), 60, .inr (.inl ((o_2.2) 17)))), ((p1a 19), .inl ((p1k 19), (p1n 19), .inl ((o_2.1) 19))), ((p1a 20), .inl ((p1k 20), (p1n 20), .inl ((o_2.1) 20))), ((p1a 21), .inl ((p1k 21), (p1n 21), .inl ((o_2.1) 21)))] : va_W)))))
  have hK2 : va_K (dC, dI) cls (List.flatten ([[((p1k 13), .int)], [((p1k 4), .int), ((p1k 5), .int), ((p1k 6), .int), ((p1k 7), .int), ((p1k 8), .int), ((p1k 9), .int), ((p1k 10), .int), ((p1k 11), .int), ((p1k 12), .int), ((p1k 14), .int), ((p1k 15), .int), ((p1k 16), .long), ((p1k 17), .long), ((p1k 19), .int), ((p1k 20), .int), ((p1k 21), .int)], (tX8 p0k)] : List (List (ClassId × FieldType)))) s := vK_perm hK ((bP ((((List.Perm.refl _)).cons _).trans (List.Perm.swap _ _ _))).trans (List.Perm.append_right _ (List.perm_middle (a := (((p1k 13), .int) : ClassId × FieldType)) (l₁ := ([((p1k 4), .int), ((p1k 5), .int), ((p1k 6), .int), ((p1k 7), .int), ((p1k 8), .int), ((p1k 9), .int), ((p1k 10), .int), ((p1k 11), .int), ((p1k 12), .int)] : List (ClassId × FieldType))) (l₂ := ([((p1k 14), .int), ((p1k 15), .int), ((p1k 16), .long), ((p1k 17), .long), ((p1k 19), .int), ((p1k 20), .int), ((p1k 21), .int)] : List (ClassId × FieldType))))))
  have hPx : va_P (dC, dI) cls ((List.flatten ([[((p1a 13), .inl ((p1k 13), 60, .inl ((o_2.1) 13)))]] : List va_W)) ++ (List.flatten ([[((p1a 0), .inr (4, [.int ((o_2.1) 0 0), .int ((o_2.1) 0 1), .ref (p1a 3), .ref (p1a 4), .ref (p1a 5), .ref (p1a 6), .ref (p1a 7), .ref (p1a 8), .ref (p1a 9), .ref (p1a 10), .ref (p1a 11), .ref (p1a 12), .ref (p1a 13), .ref (p1a 14), .ref (p1a 15), .ref (p1a 16), .ref (p1a 17), .int ((o_2.1) 0 17), .ref (p1a 19), .ref (p1a 20), .ref (p1a 21)])), ((p1a 4), .inl ((p1k 4), 60, .inl ((o_2.1) 4))), ((p1a 5), .inl ((p1k 5), 60, .inl ((o_2.1) 5))), ((p1a 6), .inl ((p1k 6), 60, .inl ((o_2.1) 6))), ((p1a 7), .inl ((p1k 7), 60, .inl ((o_2.1) 7))), ((p1a 8), .inl ((p1k 8), 60, .inl ((o_2.1) 8))), ((p1a 9), .inl ((p1k 9), 60, .inl ((o_2.1) 9))), ((p1a 10), .inl ((p1k 10), 60, .inl ((o_2.1) 10))), ((p1a 11), .inl ((p1k 11), 60, .inl ((o_2.1) 11))), ((p1a 12), .inl ((p1k 12), 60, .inl ((o_2.1) 12))), ((p1a 14), .inl ((p1k 14), 61, .inl ((o_2.1) 14))), ((p1a 15), .inl ((p1k 15), 120, .inl ((o_2.1) 15))), ((p1a 16), .inl ((p1k 16), 60, .inr (.inl ((o_2.2) 16)))), ((p1a 17), .inl ((p1k 17), 60, .inr (.inl ((o_2.2) 17)))), ((p1a 19), .inl ((p1k 19), (p1n 19), .inl ((o_2.1) 19))), ((p1a 20), .inl ((p1k 20), (p1n 20), .inl ((o_2.1) 20))), ((p1a 21), .inl ((p1k 21), (p1n 21), .inl ((o_2.1) 21)))], (oX8 (p0a 0) p0a p0k p0w)] : List va_W))) H := vP_fa (vP_perm hP2 (bP (List.Perm.refl _)))
  have hDx : va_D A ((List.flatten ([[((p1a 13), .inl ((p1k 13), 60, .inl ((o_2.1) 13)))]] : List va_W)) ++ (List.flatten ([[((p1a 0), .inr (4, [.int ((o_2.1) 0 0), .int ((o_2.1) 0 1), .ref (p1a 3), .ref (p1a 4), .ref (p1a 5), .ref (p1a 6), .ref (p1a 7), .ref (p1a 8), .ref (p1a 9), .ref (p1a 10), .ref (p1a 11), .ref (p1a 12), .ref (p1a 13), .ref (p1a 14), .ref (p1a 15), .ref (p1a 16), .ref (p1a 17), .int ((o_2.1) 0 17), .ref (p1a 19), .ref (p1a 20), .ref (p1a 21)])), ((p1a 4), .inl ((p1k 4), 60, .inl ((o_2.1) 4))), ((p1a 5), .inl ((p1k 5), 60, .inl ((o_2.1) 5))), ((p1a 6), .inl ((p1k 6), 60, .inl ((o_2.1) 6))), ((p1a 7), .inl ((p1k 7), 60, .inl ((o_2.1) 7))), ((p1a 8), .inl ((p1k 8), 60, .inl ((o_2.1) 8))), ((p1a 9), .inl ((p1k 9), 60, .inl ((o_2.1) 9))), ((p1a 10), .inl ((p1k 10), 60, .inl ((o_2.1) 10))), ((p1a 11), .inl ((p1k 11), 60, .inl ((o_2.1) 11))), ((p1a 12), .inl ((p1k 12), 60, .inl ((o_2.1) 12))), ((p1a 14), .inl ((p1k 14), 61, .inl ((o_2.1) 14))), ((p1a 15), .inl ((p1k 15), 120, .inl ((o_2.1) 15))), ((p1a 16), .inl ((p1k 16), 60, .inr (.inl ((o_2.2) 16)))), ((p1a 17), .inl ((p1k 17), 60, .inr (.inl ((o_2.2) 17)))), ((p1a 19), .inl ((p1k 19), (p1n 19), .inl ((o_2.1) 19))), ((p1a 20), .inl ((p1k 20), (p1n 20), .inl ((o_2.1) 20))), ((p1a 21), .inl ((p1k 21), (p1n 21), .inl ((o_2.1) 21)))], (oX8 (p0a 0) p0a p0k p0w)] : List va_W))) := vD_fa (vD_perm hD2 (bP (List.Perm.refl _)))
  have hKx : va_K (dC, dI) cls ((List.flatten ([[((p1k 13), .int)]] : List (List (ClassId × FieldType)))) ++ (List.flatten ([[((p1k 4), .int), ((p1k 5), .int), ((p1k 6), .int), ((p1k 7), .int), ((p1k 8), .int), ((p1k 9), .int), ((p1k 10), .int), ((p1k 11), .int), ((p1k 12), .int), ((p1k 14), .int), ((p1k 15), .int), ((p1k 16), .long), ((p1k 17), .long), ((p1k 19), .int), ((p1k 20), .int), ((p1k 21), .int)], (tX8 p0k)] : List (List (ClassId × FieldType))))) s := vK_fa (vK_perm hK2 (bP (List.Perm.refl _)))
  have hPc := vP_l hPx
  have hDc := vD_l hDx
  have hKc := vK_l hKx
  have hFc := vfree hDx hS hA
  refine va_callv (va_runS (As := [.ref (p1a 13), .int 0]) (rest := []) ⟨hx, hb, hml, hown, hts⟩ (kJ7_fill_53178 l dC dI (p0a := (p1a 13)) (p0k := (p1k 13)) (p0n := 60) (p0f := ((o_2.1) 13)) (p1 := 0) (sz := _) (o := o_3) (hrun := hc_3)) (va_cwS 2 hts (gi_S qw217 qw218 qw109 (gi_z qw216)) rfl rfl rfl (by decide +kernel) ⟨Nat.le_of_ble_eq_true rfl, Nat.le_of_ble_eq_true rfl⟩) ⟨PRE.blind, PRE.of hE hS hFc hPc hKc hDc⟩ rfl rfl hl.1 rfl (lv_room (Nat.le_of_ble_eq_true rfl)) dX8_measure_15 ⟨(Nat.le_of_ble_eq_true rfl), (Nat.le_of_ble_eq_true rfl)⟩) hS (fun q _ h => hFc q h) hFc (fun u t H locs ht hvm hw hB hz1 hk1 hS => ?_)
  obtain ⟨b1, b2, b3⟩ := hB
  rw [ht] at b1
  obtain ⟨hP, hD, hK⟩ := JOINC (wc := (List.flatten ([[((p1a 13), .inl ((p1k 13), 60, .inl ((o_2.1) 13)))]] : List va_W))) (wr := (List.flatten ([[((p1a 0), .inr (4, [.int ((o_2.1) 0 0), .int ((o_2.1) 0 1), .ref (p1a 3), .ref (p1a 4), .ref (p1a 5), .ref (p1a 6), .ref (p1a 7), .ref (p1a 8), .ref (p1a 9), .ref (p1a 10), .ref (p1a 11), .ref (p1a 12), .ref (p1a 13), .ref (p1a 14), .ref (p1a 15), .ref (p1a 16), .ref (p1a 17), .int ((o_2.1) 0 17), .ref (p1a 19), .ref (p1a 20), .ref (p1a 21)])), ((p1a 4), .inl ((p1k 4), 60, .inl ((o_2.1) 4))), ((p1a 5), .inl ((p1k 5), 60, .inl ((o_2.1) 5))), ((p1a 6), .inl ((p1k 6), 60, .inl ((o_2.1) 6))), ((p1a 7), .inl ((p1k 7), 60, .inl ((o_2.1) 7))), ((p1a 8), .inl ((p1k 8), 60, .inl ((o_2.1) 8))), ((p1a 9), .inl ((p1k 9), 60, .inl ((o_2.1) 9))), ((p1a 10), .inl ((p1k 10), 60, .inl ((o_2.1) 10))), ((p1a 11), .inl ((p1k 11), 60, .inl ((o_2.1) 11))), ((p1a 12), .inl ((p1k 12), 60, .inl ((o_2.1) 12))), ((p1a 14), .inl ((p1k 14), 61, .inl ((o_2.1) 14))), ((p1a 15), .inl ((p1k 15), 120, .inl ((o_2.1) 15))), ((p1a 16), .inl ((p1k 16), 60, .inr (.inl ((o_2.2) 16)))), ((p1a 17), .inl ((p1k 17), 60, .inr (.inl ((o_2.2) 17)))), ((p1a 19), .inl ((p1k 19), (p1n 19), .inl ((o_2.1) 19))), ((p1a 20), .inl ((p1k 20), (p1n 20), .inl ((o_2.1) 20))), ((p1a 21), .inl ((p1k 21), (p1n 21), .inl ((o_2.1) 21)))], (oX8 (p0a 0) p0a p0k p0w)] : List va_W))) (w1 := (List.flatten ([[((p1a 13), .inl ((p1k 13), 60, .inl ((srw (o_2.1) 13 o_3) 13)))]] : List va_W))) (t1 := (List.flatten ([[((p1k 13), .int)]] : List (List (ClassId × FieldType))))) hPx hDx hKx hk1 hFc b1 (va_K.moved hvm.symm b2) b3
  have hP3 : va_P (dC, dI) cls (List.flatten ([(oX1 (p1a 0) p1a p1k p1n (srw (o_2.1) 13 o_3) (o_2.2)), (oX8 (p0a 0) p0a p0k p0w)] : List va_W)) H := vP_perm (vP_fb hP) ((bP (List.Perm.refl _)).trans (List.Perm.append_right _ (List.perm_middle (a := (((p1a 13), .inl ((p1k 13), 60, .inl ((srw (o_2.1) 13 o_3) 13))) : Nat × va_E)) (l₁ := ([((p1a 0), .inr (4, [.int ((srw (o_2.1) 13 o_3) 0 0), .int ((srw (o_2.1) 13 o_3) 0 1), .ref (p1a 3), .ref (p1a 4), .ref (p1a 5), .ref (p1a 6), .ref (p1a 7), .ref (p1a 8), .ref (p1a 9), .ref (p1a 10), .ref (p1a 11), .ref (p1a 12), .ref (p1a 13), .ref (p1a 14), .ref (p1a 15), .ref (p1a 16), .ref (p1a 17), .int ((srw (o_2.1) 13 o_3) 0 17), .ref (p1a 19), .ref (p1a 20), .ref (p1a 21)])), ((p1a 4), .inl ((p1k 4), 60, .inl ((srw (o_2.1) 13 o_3) 4))), ((p1a 5), .inl ((p1k 5), 60, .inl ((srw (o_2.1) 13 o_3) 5))), ((p1a 6), .inl ((p1k 6), 60, .inl ((srw (o_2.1) 13 o_3) 6))), ((p1a 7), .inl ((p1k 7), 60, .inl ((srw (o_2.1) 13 o_3) 7))), ((p1a 8), .inl ((p1k 8), 60, .inl ((srw (o_2.1) 13 o_3) 8))), ((p1a 9), .inl ((p1k 9), 60, .inl ((srw (o_2.1) 13 o_3) 9))), ((p1a 10), .inl ((p1k 10), 60, .inl ((srw (o_2.1) 13 o_3) 10))), ((p1a 11), .inl ((p1k 11), 60, .inl ((srw (o_2.1) 13 o_3) 11))), ((p1a 12), .inl ((p1k 12), 60, .inl ((srw (o_2.1) 13 o_3) 12)))] : va_W)) (l₂ := ([((p1a 14), .inl ((p1k 14), 61, .inl ((srw (o_2.1) 13 o_3) 14))), ((p1a 15), .inl ((p1k 15), 120, .inl ((srw (o_2.1) 13 o_3) 15))), ((p1a 16), .inl ((p1k 16), 60, .inr (.inl ((o_2.2) 16)))), ((p1a 17), .inl ((p1k 17), 60, .inr (.inl ((o_2.2) 17)))), ((p1a 19), .inl ((p1k 19), (p1n 19), .inl ((srw (o_2.1) 13 o_3) 19))), ((p1a 20), .inl ((p1k 20), (p1n 20), .inl ((srw (o_2.1) 13 o_3) 20))), ((p1a 21), .inl ((p1k 21), (p1n 21), .inl ((srw (o_2.1) 13 o_3) 21)))] : va_W))).symm))
  have hD3 : va_D A (List.flatten ([(oX1 (p1a 0) p1a p1k p1n (srw (o_2.1) 13 o_3) (o_2.2)), (oX8 (p0a 0) p0a p0k p0w)] : List va_W)) := vD_perm (vD_fb hD) ((bP (List.Perm.refl _)).trans (List.Perm.append_right _ (List.perm_middle (a := (((p1a 13), .inl ((p1k 13), 60, .inl ((srw (o_2.1) 13 o_3) 13))) : Nat × va_E)) (l₁ := ([((p1a 0), .inr (4, [.int ((srw (o_2.1) 13 o_3) 0 0), .int ((srw (o_2.1) 13 o_3) 0 1), .ref (p1a 3), .ref (p1a 4), .ref (p1a 5), .ref (p1a 6), .ref (p1a 7), .ref (p1a 8), .ref (p1a 9), .ref (p1a 10), .ref (p1a 11), .ref (p1a 12), .ref (p1a 13), .ref (p1a 14), .ref (p1a 15), .ref (p1a 16), .ref (p1a 17), .int ((srw (o_2.1) 13 o_3) 0 17), .ref (p1a 19), .ref (p1a 20), .ref (p1a 21)])), ((p1a 4), .inl ((p1k 4), 60, .inl ((srw (o_2.1) 13 o_3) 4))), ((p1a 5), .inl ((p1k 5), 60, .inl ((srw (o_2.1) 13 o_3) 5))), ((p1a 6), .inl ((p1k 6), 60, .inl ((srw (o_2.1) 13 o_3) 6))), ((p1a 7), .inl ((p1k 7), 60, .inl ((srw (o_2.1) 13 o_3) 7))), ((p1a 8), .inl ((p1k 8), 60, .inl ((srw (o_2.1) 13 o_3) 8))), ((p1a 9), .inl ((p1k 9), 60, .inl ((srw (o_2.1) 13 o_3) 9))), ((p1a 10), .inl ((p1k 10), 60, .inl ((srw (o_2.1) 13 o_3) 10))), ((p1a 11), .inl ((p1k 11), 60, .inl ((srw (o_2.1) 13 o_3) 11))), ((p1a 12), .inl ((p1k 12), 60, .inl ((srw (o_2.1) 13 o_3) 12)))] : va_W)) (l₂ := ([((p1a 14), .inl ((p1k 14), 61, .inl ((srw (o_2.1) 13 o_3) 14))), ((p1a 15), .inl ((p1k 15), 120, .inl ((srw (o_2.1) 13 o_3) 15))), ((p1a 16), .inl ((p1k 16), 60, .inr (.inl ((o_2.2) 16)))), ((p1a 17), .inl ((p1k 17), 60, .inr (.inl ((o_2.2) 17)))), ((p1a 19), .inl ((p1k 19), (p1n 19), .inl ((srw (o_2.1) 13 o_3) 19))), ((p1a 20), .inl ((p1k 20), (p1n 20), .inl ((srw (o_2.1) 13 o_3) 20))), ((p1a 21), .inl ((p1k 21), (p1n 21), .inl ((srw (o_2.1) 13 o_3) 21)))] : va_W))).symm))
  have hK3 : va_K (dC, dI) cls (List.flatten ([(tX1 p1k), (tX8 p0k)] : List (List (ClassId × FieldType)))) s := vK_perm (vK_fb hK) ((bP (List.Perm.refl _)).trans (List.Perm.append_right _ (List.perm_middle (a := (((p1k 13), .int) : ClassId × FieldType)) (l₁ := ([((p1k 4), .int), ((p1k 5), .int), ((p1k 6), .int), ((p1k 7), .int), ((p1k 8), .int), ((p1k 9), .int), ((p1k 10), .int), ((p1k 11), .int), ((p1k 12), .int)] : List (ClassId × FieldType))) (l₂ := ([((p1k 14), .int), ((p1k 15), .int), ((p1k 16), .long), ((p1k 17), .long), ((p1k 19), .int), ((p1k 20), .int), ((p1k 21), .int)] : List (ClassId × FieldType)))).symm))
  have hP : va_P (dC, dI) cls (List.flatten ([(oX8 (p0a 0) p0a p0k p0w), (oX1 (p1a 0) p1a p1k p1n (srw (o_2.1) 13 o_3) (o_2.2))] : List va_W)) H := vP_perm hP3 (bP ((((List.Perm.refl _)).cons _).trans (List.Perm.swap _ _ _)))
  have hD : va_D A (List.flatten ([(oX8 (p0a 0) p0a p0k p0w), (oX1 (p1a 0) p1a p1k p1n (srw (o_2.1) 13 o_3) (o_2.2))] : List va_W)) := vD_perm hD3 (bP ((((List.Perm.refl _)).cons _).trans (List.Perm.swap _ _ _)))
  have hK : va_K (dC, dI) cls (List.flatten ([(tX8 p0k), (tX1 p1k)] : List (List (ClassId × FieldType)))) s := vK_perm hK3 (bP ((((List.Perm.refl _)).cons _).trans (List.Perm.swap _ _ _)))
  refine lv_iconst (v := 0) hx hb dX8_measure_18 (by decide) ?_
  refine lv_istore_n (lv' := [(2, .int 0), (0, .ref (p0a 0)), (1, .ref (p1a 0))]) hx hb dX8_measure_19 rfl hl (by decide) rfl (fun ls hl => ?_)
  have L20 : ∀ (n_20 : Nat) (v2_20 : Int32) (p1w_20 : ST) (p1l_20 : SL) (o20 : ST × SL) (H : Heap) (locs : List Loc) (ls : Array Slot), (fX8_measure_L20 n_20) v2_20 p1w_20 p1l_20 = some o20 → va_P (dC, dI) cls (List.flatten ([(oX8 (p0a 0) p0a p0k p0w), (oX1 (p1a 0) p1a p1k p1n p1w_20 p1l_20)] : List va_W)) H → va_D A (List.flatten ([(oX8 (p0a 0) p0a p0k p0w), (oX1 (p1a 0) p1a p1k p1n p1w_20 p1l_20)] : List va_W)) → va_K (dC, dI) cls (List.flatten ([(tX8 p0k), (tX1 p1k)] : List (List (ClassId × FieldType)))) s → va_S A s.heap H locs → lv_has ls 4 [(1, .ref (p1a 0)), (2, .int v2_20)] → (∀ (H : Heap) (locs : List Loc) (ls : Array Slot), va_P (dC, dI) cls (List.flatten ([(oX8 (p0a 0) p0a p0k p0w), (oX1 (p1a 0) p1a p1k p1n (o20.1) (o20.2))] : List va_W)) H → va_D A (List.flatten ([(oX8 (p0a 0) p0a p0k p0w), (oX1 (p1a 0) p1a p1k p1n (o20.1) (o20.2))] : List va_W)) → va_K (dC, dI) cls (List.flatten ([(tX8 p0k), (tX1 p1k)] : List (List (ClassId × FieldType)))) s → va_S A s.heap H locs → lv_has ls 4 [] → W p l e ({ frames := 3, cells := 0, slots := 0, locals := 74 } : Room) s m ([.ref (p0a 0), .ref (p1a 0)] : List Value).toArray below meth c H locs 0 0 Q (F0 m 88 ls [])) → W p l e ({ frames := 3, cells := 0, slots := 0, locals := 74 } : Room) s m ([.ref (p0a 0), .ref (p1a 0)] : List Value).toArray below meth c H locs 0 0 Q (F0 m 20 ls []) := by
    intro n_20
    induction n_20 with
    | zero => intro v2_20 p1w_20 p1l_20 o20 H locs ls hrun; exact (no9 rfl hrun).elim
    | succ n_20 IH20 =>
      intro v2_20 p1w_20 p1l_20 o20 H locs ls hrun hP hD hK hS hl hk20
      unfold fX8_measure_L20 at hrun
      refine lv_iload_n hx hb dX8_measure_20 rfl (lv_at hl 1 rfl) ?_
      refine lv_aload_n hx hb dX8_measure_21 rfl (lv_at hl 0 rfl) ?_
      refine va_get (D := (dC, dI)) (ci := 4) (v := .int (p1w_20 0 0)) (C := RX1) (T := TX1) (N := 21) hx hb hts i_X1 hown hK hP 6 rfl rfl 0 (by decide) (hts _ qw181) (fun _ h9 => h9) rfl dX8_measure_22 ?_
      rcases br9 hrun with ⟨hc4, hrun⟩ | ⟨hc4, hrun⟩
      · refine lv_icmp_ge (tgt := 88) hx hb dX8_measure_25 (by decide) (fun _ => ?_) (fun c => absurd hc4 c)
        obtain rfl := (Option.some.inj hrun)
        exact hk20 _ _ _ hP hD hK hS (lv_sub hl [] rfl)
      · refine lv_icmp_ge (tgt := 88) hx hb dX8_measure_25 (by decide) (fun c => absurd c hc4) (fun _ => ?_)
        refine lv_aload_n hx hb dX8_measure_28 rfl (lv_at hl 0 rfl) ?_
        refine va_get (D := (dC, dI)) (ci := 4) (v := .ref (p1a 17)) (C := RX1) (T := TX1) (N := 21) hx hb hts i_X1 hown hK hP 6 rfl rfl 16 (by decide) (hts _ qw219) (fun _ h9 => h9) rfl dX8_measure_29 ?_
        refine lv_iload_n hx hb dX8_measure_32 rfl (lv_at hl 1 rfl) ?_
        refine lv_aload_n hx hb dX8_measure_33 rfl (lv_at hl 0 rfl) ?_
        refine lv_iload_n hx hb dX8_measure_34 rfl (lv_at hl 1 rfl) ?_
        obtain ⟨o_5, hc_5, hrun⟩ := bnd9 hrun
        have hPx : va_P (dC, dI) cls ((List.flatten ([(oX1 (p1a 0) p1a p1k p1n p1w_20 p1l_20)] : List va_W)) ++ (List.flatten ([(oX8 (p0a 0) p0a p0k p0w)] : List va_W))) H := vP_fa (vP_perm hP (bP ((((List.Perm.refl _)).cons _).trans (List.Perm.swap _ _ _))))
        have hDx : va_D A ((List.flatten ([(oX1 (p1a 0) p1a p1k p1n p1w_20 p1l_20)] : List va_W)) ++ (List.flatten ([(oX8 (p0a 0) p0a p0k p0w)] : List va_W))) := vD_fa (vD_perm hD (bP ((((List.Perm.refl _)).cons _).trans (List.Perm.swap _ _ _))))
        have hKx : va_K (dC, dI) cls ((List.flatten ([(tX1 p1k)] : List (List (ClassId × FieldType)))) ++ (List.flatten ([(tX8 p0k)] : List (List (ClassId × FieldType))))) s := vK_fa (vK_perm hK (bP ((((List.Perm.refl _)).cons _).trans (List.Perm.swap _ _ _))))
        have hPc := vP_l hPx
        have hDc := vD_l hDx
        have hKc := vK_l hKx
        have hFc := vfree hDx hS hA
        refine va_calll (va_runS (As := [.ref (p1a 0), .int v2_20]) (rest := [.int v2_20, .ref (p1a 17)]) ⟨hx, hb, hml, hown, hts⟩ (kX8_findLoop l dC dI (p0a := p1a) (p0k := p1k) (p0n := p1n) (p0w := p1w_20) (p0l := p1l_20) (p1 := v2_20) (sz := _) (o := o_5) (hrun := hc_5)) (va_cwS 2 hts (gi_S qw221 qw222 qw197 (gi_z qw220)) rfl rfl rfl (by decide +kernel) ⟨Nat.le_of_ble_eq_true rfl, Nat.le_of_ble_eq_true rfl⟩) ⟨PRE.blind, PRE.of hE hS hFc hPc hKc hDc⟩ rfl rfl hl.1 rfl (lv_room (Nat.le_of_ble_eq_true rfl)) dX8_measure_35 ⟨(Nat.le_of_ble_eq_true rfl), (Nat.le_of_ble_eq_true rfl)⟩) hS (fun q _ h => hFc q h) hFc (fun r6 u t H locs ht hvm hw hB hz1 hk1 hS => ?_)
        obtain ⟨b1, b2, b3⟩ := hB
        rw [ht] at b1
        obtain ⟨hP, hD, hK⟩ := JOINC (wc := (List.flatten ([(oX1 (p1a 0) p1a p1k p1n p1w_20 p1l_20)] : List va_W))) (wr := (List.flatten ([(oX8 (p0a 0) p0a p0k p0w)] : List va_W))) (w1 := (List.flatten ([(oX1 (p1a 0) p1a p1k p1n p1w_20 p1l_20)] : List va_W))) (t1 := (List.flatten ([(tX1 p1k)] : List (List (ClassId × FieldType))))) hPx hDx hKx hk1 hFc b1 (va_K.moved hvm.symm b2) b3
        have hP : va_P (dC, dI) cls (List.flatten ([(oX8 (p0a 0) p0a p0k p0w), (oX1 (p1a 0) p1a p1k p1n p1w_20 p1l_20)] : List va_W)) H := vP_perm (vP_fb hP) (bP ((((List.Perm.refl _)).cons _).trans (List.Perm.swap _ _ _)))
        have hD : va_D A (List.flatten ([(oX8 (p0a 0) p0a p0k p0w), (oX1 (p1a 0) p1a p1k p1n p1w_20 p1l_20)] : List va_W)) := vD_perm (vD_fb hD) (bP ((((List.Perm.refl _)).cons _).trans (List.Perm.swap _ _ _)))
        have hK : va_K (dC, dI) cls (List.flatten ([(tX8 p0k), (tX1 p1k)] : List (List (ClassId × FieldType)))) s := vK_perm (vK_fb hK) (bP ((((List.Perm.refl _)).cons _).trans (List.Perm.swap _ _ _)))
        obtain rfl : o_5 = r6 := hw.symm
        obtain ⟨hq7, hrun⟩ := chk9 hrun
        refine va_last hx hb hK hP hD hS 20 18 rfl rfl (ixb_in hq7) dX8_measure_38 (fun H locs hP hD hS => ?_)
        have hP : va_P (dC, dI) cls (List.flatten ([(oX8 (p0a 0) p0a p0k p0w), (oX1 (p1a 0) p1a p1k p1n p1w_20 (upl p1l_20 17 (nn v2_20) o_5))] : List va_W)) H := hP
        have hD : va_D A (List.flatten ([(oX8 (p0a 0) p0a p0k p0w), (oX1 (p1a 0) p1a p1k p1n p1w_20 (upl p1l_20 17 (nn v2_20) o_5))] : List va_W)) := hD
        obtain ⟨l8, el8, hrun⟩ := let9 hrun
        rw [← el8] at hP hD
        refine lv_iconst (v := 0) hx hb dX8_measure_39 (by decide) ?_
        refine lv_istore_n (lv' := [(3, .int 0), (1, .ref (p1a 0)), (2, .int v2_20)]) hx hb dX8_measure_40 rfl hl (by decide) rfl (fun ls hl => ?_)
        have L41 : ∀ (n_41 : Nat) (v3_41 : Int32) (p1w_41 : ST) (o41 : ST) (H : Heap) (locs : List Loc) (ls : Array Slot), (fX8_measure_L41 v2_20 l8 n_41) v3_41 p1w_41 = some o41 → va_P (dC, dI) cls (List.flatten ([(oX8 (p0a 0) p0a p0k p0w), (oX1 (p1a 0) p1a p1k p1n p1w_41 l8)] : List va_W)) H → va_D A (List.flatten ([(oX8 (p0a 0) p0a p0k p0w), (oX1 (p1a 0) p1a p1k p1n p1w_41 l8)] : List va_W)) → va_K (dC, dI) cls (List.flatten ([(tX8 p0k), (tX1 p1k)] : List (List (ClassId × FieldType)))) s → va_S A s.heap H locs → lv_has ls 4 [(1, .ref (p1a 0)), (2, .int v2_20), (3, .int v3_41)] → (∀ (H : Heap) (locs : List Loc) (ls : Array Slot), va_P (dC, dI) cls (List.flatten ([(oX8 (p0a 0) p0a p0k p0w), (oX1 (p1a 0) p1a p1k p1n o41 l8)] : List va_W)) H → va_D A (List.flatten ([(oX8 (p0a 0) p0a p0k p0w), (oX1 (p1a 0) p1a p1k p1n o41 l8)] : List va_W)) → va_K (dC, dI) cls (List.flatten ([(tX8 p0k), (tX1 p1k)] : List (List (ClassId × FieldType)))) s → va_S A s.heap H locs → lv_has ls 4 [(1, .ref (p1a 0)), (2, .int v2_20)] → W p l e ({ frames := 3, cells := 0, slots := 0, locals := 74 } : Room) s m ([.ref (p0a 0), .ref (p1a 0)] : List Value).toArray below meth c H locs 0 0 Q (F0 m 82 ls [])) → W p l e ({ frames := 3, cells := 0, slots := 0, locals := 74 } : Room) s m ([.ref (p0a 0), .ref (p1a 0)] : List Value).toArray below meth c H locs 0 0 Q (F0 m 41 ls []) := by
          intro n_41
          induction n_41 with
          | zero => intro v3_41 p1w_41 o41 H locs ls hrun; exact (no9 rfl hrun).elim
          | succ n_41 IH41 =>
            intro v3_41 p1w_41 o41 H locs ls hrun hP hD hK hS hl hk41
            unfold fX8_measure_L41 at hrun
            refine lv_iload_n hx hb dX8_measure_41 rfl (lv_at hl 2 rfl) ?_
            refine lv_aload_n hx hb dX8_measure_42 rfl (lv_at hl 0 rfl) ?_
            refine va_get (D := (dC, dI)) (ci := 4) (v := .int (p1w_41 0 0)) (C := RX1) (T := TX1) (N := 21) hx hb hts i_X1 hown hK hP 6 rfl rfl 0 (by decide) (hts _ qw181) (fun _ h9 => h9) rfl dX8_measure_43 ?_
            rcases br9 hrun with ⟨hc9, hrun⟩ | ⟨hc9, hrun⟩
            · refine lv_icmp_ge (tgt := 82) hx hb dX8_measure_46 (by decide) (fun _ => ?_) (fun c => absurd hc9 c)
              obtain rfl := (Option.some.inj hrun)
              exact hk41 _ _ _ hP hD hK hS (lv_sub hl [0, 1] rfl)
            · refine lv_icmp_ge (tgt := 82) hx hb dX8_measure_46 (by decide) (fun c => absurd c hc9) (fun _ => ?_)
              refine lv_aload_n hx hb dX8_measure_49 rfl (lv_at hl 0 rfl) ?_
              refine va_get (D := (dC, dI)) (ci := 4) (v := .ref (p1a 13)) (C := RX1) (T := TX1) (N := 21) hx hb hts i_X1 hown hK hP 6 rfl rfl 12 (by decide) (hts _ qw215) (fun _ h9 => h9) rfl dX8_measure_50 ?_
              refine lv_iload_n hx hb dX8_measure_53 rfl (lv_at hl 2 rfl) ?_
              refine lv_dup2_11 hx hb dX8_measure_54 rfl rfl ?_
              obtain ⟨hq10, hrun⟩ := chk9 hrun
              refine va_iald hx hb hK hP 16 14 rfl rfl (ixb_in hq10) dX8_measure_55 ?_
              refine lv_aload_n hx hb dX8_measure_56 rfl (lv_at hl 0 rfl) ?_
              refine va_get (D := (dC, dI)) (ci := 4) (v := .ref (p1a 17)) (C := RX1) (T := TX1) (N := 21) hx hb hts i_X1 hown hK hP 6 rfl rfl 16 (by decide) (hts _ qw219) (fun _ h9 => h9) rfl dX8_measure_57 ?_
              refine lv_iload_n hx hb dX8_measure_60 rfl (lv_at hl 1 rfl) ?_
              obtain ⟨hq11, hrun⟩ := chk9 hrun
              refine va_lald hx hb hK hP 20 18 rfl rfl (ixb_in hq11) dX8_measure_61 ?_
              refine lv_iload_n hx hb dX8_measure_62 rfl (lv_at hl 2 rfl) ?_
              obtain ⟨o_12, hc_12, hrun⟩ := bnd9 hrun
              have hPx : va_P (dC, dI) cls ((List.flatten ([] : List va_W)) ++ (List.flatten ([(oX8 (p0a 0) p0a p0k p0w), (oX1 (p1a 0) p1a p1k p1n p1w_41 l8)] : List va_W))) H := vP_fa (vP_perm hP (bP (List.Perm.refl _)))
              have hDx : va_D A ((List.flatten ([] : List va_W)) ++ (List.flatten ([(oX8 (p0a 0) p0a p0k p0w), (oX1 (p1a 0) p1a p1k p1n p1w_41 l8)] : List va_W))) := vD_fa (vD_perm hD (bP (List.Perm.refl _)))
              have hKx : va_K (dC, dI) cls ((List.flatten ([] : List (List (ClassId × FieldType)))) ++ (List.flatten ([(tX8 p0k), (tX1 p1k)] : List (List (ClassId × FieldType))))) s := vK_fa (vK_perm hK (bP (List.Perm.refl _)))
              have hPc := vP_l hPx
              have hDc := vD_l hDx
              have hKc := vK_l hKx
              have hFc := vfree hDx hS hA
              refine va_calli (va_runSN (As := [.long (l8 17 (nn v2_20)), .int v3_41]) (rest := [.int (p1w_41 13 (nn v3_41)), .int v3_41, .ref (p1a 13)]) ⟨hx, hb, hml, hown, hts⟩ (kX11_holds l dC dI (p0 := (l8 17 (nn v2_20))) (p1 := v3_41) (sz := _) (o := o_12) (hrun := hc_12)) ⟨(va_cnB 2 hts (gi_z qw192) rfl rfl rfl (hE.nw (List.mem_append_right _ (tbl_6 (i := 50) rfl)) rfl) (hts _ qw129) (by decide +kernel) ⟨Nat.le_of_ble_eq_true rfl, Nat.le_of_ble_eq_true rfl⟩), (hts _ qw193), trivial⟩ ⟨PRE.blind, PRE.of hE hS hFc hPc hKc hDc⟩ rfl rfl hl.1 rfl (lv_room (Nat.le_of_ble_eq_true rfl)) dX8_measure_63 ⟨(Nat.le_of_ble_eq_true rfl), (Nat.le_of_ble_eq_true rfl)⟩) hS (fun q _ h => hFc q h) hFc (fun r13 u t H locs ht hvm hw hB hz1 hk1 hS => ?_)
              obtain ⟨b1, b2, b3⟩ := hB
              rw [ht] at b1
              obtain ⟨hP, hD, hK⟩ := JOINC (wc := (List.flatten ([] : List va_W))) (wr := (List.flatten ([(oX8 (p0a 0) p0a p0k p0w), (oX1 (p1a 0) p1a p1k p1n p1w_41 l8)] : List va_W))) (w1 := (List.flatten ([] : List va_W))) (t1 := (List.flatten ([] : List (List (ClassId × FieldType))))) hPx hDx hKx hk1 hFc b1 (va_K.moved hvm.symm b2) b3
              have hP : va_P (dC, dI) cls (List.flatten ([(oX8 (p0a 0) p0a p0k p0w), (oX1 (p1a 0) p1a p1k p1n p1w_41 l8)] : List va_W)) H := vP_perm (vP_fb hP) (bP (List.Perm.refl _))
              have hD : va_D A (List.flatten ([(oX8 (p0a 0) p0a p0k p0w), (oX1 (p1a 0) p1a p1k p1n p1w_41 l8)] : List va_W)) := vD_perm (vD_fb hD) (bP (List.Perm.refl _))
              have hK : va_K (dC, dI) cls (List.flatten ([(tX8 p0k), (tX1 p1k)] : List (List (ClassId × FieldType)))) s := vK_perm (vK_fb hK) (bP (List.Perm.refl _))
              obtain rfl : o_12 = r13 := hw.symm
              have J74 : ∀ (y0_74 : Int32) (y1_74 : Int32) (y2_74 : Int32) (H : Heap) (locs : List Loc) (ls : Array Slot), (fX8_measure_J74 (fX8_measure_L41 v2_20 l8 n_41) v3_41 p1w_41 y0_74 y1_74 y2_74) = some o41 → va_P (dC, dI) cls (List.flatten ([(oX8 (p0a 0) p0a p0k p0w), (oX1 (p1a 0) p1a p1k p1n p1w_41 l8)] : List va_W)) H → va_D A (List.flatten ([(oX8 (p0a 0) p0a p0k p0w), (oX1 (p1a 0) p1a p1k p1n p1w_41 l8)] : List va_W)) → va_K (dC, dI) cls (List.flatten ([(tX8 p0k), (tX1 p1k)] : List (List (ClassId × FieldType)))) s → va_S A s.heap H locs → lv_has ls 4 [(1, .ref (p1a 0)), (2, .int v2_20), (3, .int v3_41)] → W p l e ({ frames := 3, cells := 0, slots := 0, locals := 74 } : Room) s m ([.ref (p0a 0), .ref (p1a 0)] : List Value).toArray below meth c H locs 0 0 Q (F0 m 74 ls [.int y0_74, .int y1_74, .int y2_74, .ref (p1a 13)]) := by
                intro y0_74 y1_74 y2_74 H locs ls hrun hP hD hK hS hl 
                unfold fX8_measure_J74 at hrun
                refine lv_iadd hx hb dX8_measure_74 ?_
                obtain ⟨hq14, hrun⟩ := chk9 hrun
                refine va_iast hx hb hK hP hD hS 16 14 rfl rfl (ixb_in hq14) dX8_measure_75 (fun H locs hP hD hS => ?_)
                have hP : va_P (dC, dI) cls (List.flatten ([(oX8 (p0a 0) p0a p0k p0w), (oX1 (p1a 0) p1a p1k p1n (upw p1w_41 13 (nn y2_74) (y1_74 + y0_74)) l8)] : List va_W)) H := hP
                have hD : va_D A (List.flatten ([(oX8 (p0a 0) p0a p0k p0w), (oX1 (p1a 0) p1a p1k p1n (upw p1w_41 13 (nn y2_74) (y1_74 + y0_74)) l8)] : List va_W)) := hD
                obtain ⟨w15, ew15, hrun⟩ := let9 hrun
                rw [← ew15] at hP hD
                refine lv_iinc (v := (v3_41 + 1)) (lv' := [(3, .int (v3_41 + 1)), (1, .ref (p1a 0)), (2, .int v2_20)]) hx hb dX8_measure_76 hl (k := 2) rfl rfl (by decide) rfl (fun ls hl => ?_)
                refine lv_goto (tgt := 41) hx hb dX8_measure_79 (by decide) ?_
                exact IH41 (v3_41 + 1) w15 o41 _ _ _ hrun hP hD hK hS (lv_sub hl [1, 2, 0] rfl) hk41
              rcases br9 hrun with ⟨hc16, hrun⟩ | ⟨hc16, hrun⟩
              · refine lv_if_eq (tgt := 73) hx hb dX8_measure_66 (by decide) (fun _ => ?_) (fun c => absurd hc16 c)
                refine lv_iconst (v := 0) hx hb dX8_measure_73 (by decide) ?_
                exact J74 0 (p1w_41 13 (nn v3_41)) v3_41 _ _ _ hrun hP hD hK hS (lv_sub hl [0, 1, 2] rfl)
              · refine lv_if_eq (tgt := 73) hx hb dX8_measure_66 (by decide) (fun c => absurd c hc16) (fun _ => ?_)
                refine lv_iconst (v := 1) hx hb dX8_measure_69 (by decide) ?_
                refine lv_goto (tgt := 74) hx hb dX8_measure_70 (by decide) ?_
                exact J74 1 (p1w_41 13 (nn v3_41)) v3_41 _ _ _ hrun hP hD hK hS (lv_sub hl [0, 1, 2] rfl)
        obtain ⟨o41, hc41, hrun⟩ := bnd9 hrun
        refine L41 NF 0 p1w_20 o41 _ _ _ hc41 hP hD hK hS (lv_sub hl [1, 2, 0] rfl) ?_
        intro H locs ls hP hD hK hS hl
        have hl := hl
        refine lv_iinc (v := (v2_20 + 1)) (lv' := [(2, .int (v2_20 + 1)), (1, .ref (p1a 0))]) hx hb dX8_measure_82 hl (k := 1) rfl rfl (by decide) rfl (fun ls hl => ?_)
        refine lv_goto (tgt := 20) hx hb dX8_measure_85 (by decide) ?_
        exact IH20 (v2_20 + 1) o41 l8 o20 _ _ _ hrun hP hD hK hS (lv_sub hl [1, 0] rfl) hk20
  obtain ⟨o20, hc20, hrun⟩ := bnd9 hrun
  refine L20 NF 0 (srw (o_2.1) 13 o_3) (o_2.2) o20 _ _ _ hc20 hP hD hK hS (lv_sub hl [2, 0] rfl) ?_
  intro H locs ls hP hD hK hS hl
  have hl := hl
  have ho9 : ((o20.1), (o20.2)) = o := Option.some.inj hrun
  have hP9 : va_P (dC, dI) cls (List.flatten ([(oX8 (p0a 0) p0a p0k p0w), (oX1 (p1a 0) p1a p1k p1n (o.1) (o.2))] : List va_W)) H := by first | exact hP | (rw [← ho9]; exact hP)
  have hD9 : va_D A (List.flatten ([(oX8 (p0a 0) p0a p0k p0w), (oX1 (p1a 0) p1a p1k p1n (o.1) (o.2))] : List va_W)) := by first | exact hD | (rw [← ho9]; exact hD)
  subst hQ
  exact W.vret hx hb hr (fun t ht hW => ⟨⟨(), rfl, trivial, ⟨by rw [ht]; exact hP9, va_K.moved hW.alike hK, hD9⟩⟩, hS.F ht⟩) hS.2.2 dX8_measure_88
def fX8_move_J35 (kk3 : Int32 → ST → Option ST) (v4_3 : Int32) (p0w_35 : ST) : Option ST := (kk3 (v4_3 + 1) p0w_35)
def fX8_move_L3 (p1n : Nat) (p1f : RI) (p2 : Int32) : Nat → Int32 → ST → Option ST
  | 0 => fun _ _ => none
  | n_3 + 1 => fun v4_3 p0w_3 => (if p2 ≤ v4_3 then some p0w_3 else (if ixb v4_3 60 = true then (if (p0w_3 1 (nn v4_3)) < 0 then (fX8_move_J35 (fX8_move_L3 p1n p1f p2 n_3) v4_3 p0w_3) else (if ixb v4_3 60 = true then (if ixb v4_3 p1n = true then (if ixb (p0w_3 1 (nn v4_3)) 60 = true then (lt9 (upw p0w_3 5 (nn (p0w_3 1 (nn v4_3))) (p1f (nn v4_3))) fun (w7 : ST) => (fX8_move_J35 (fX8_move_L3 p1n p1f p2 n_3) v4_3 w7)) else none) else none) else none)) else none))
def fX8_move (p0w : ST) (p1n : Nat) (p1f : RI) (p2 : Int32) (p3 : Int32) : Option (ST × RI) := ((fX8_move_L3 p1n p1f p2 NF 0 p0w).bind fun (o3 : ST) => (if cpk 0 0 p3 60 p1n = true then (lt9 (va_cpy (o3 5) p1f (nn 0) (nn 0) (nn p3)) fun (f9 : RI) => some (o3, f9)) else none))
set_option maxHeartbeats 16000000 in
set_option maxRecDepth 100000 in
theorem kX8_move {zs : ZS} (l : Launch) (dC : Nat → ClassId) (dI : Nat → Nat → Nat) (p0a : Nat → Nat) (p0k : Nat → ClassId) (p0w : ST) (p1a : Nat) (p1k : ClassId) (p1n : Nat) (p1f : RI) (p2 : Int32) (p3 : Int32) (sz : Nat) (o : ST × RI) (hrun : fX8_move p0w p1n p1f p2 p3 = some o) : Met l yX8_move (wz yX8_move cX8_move 5 (Option.none : Option Jvm.ClassFile.FieldType)) ({ frames := 1, cells := 0, slots := 0, locals := 40 } : Room) (va_Pc [.ref (p0a 0), .ref p1a, .int p2, .int p3] (PRE zs dC dI (List.flatten ([(oX8 (p0a 0) p0a p0k p0w), [(p1a, .inl (p1k, p1n, .inl p1f))]] : List va_W)) (List.flatten ([(tX8 p0k), [(p1k, .int)]] : List (List (ClassId × FieldType)))) sz)) (va_Qv (fun (_ : Unit) => True) (fun _ t => POST dC dI (List.flatten ([(oX8 (p0a 0) p0a p0k (o.1)), [(p1a, .inl (p1k, p1n, .inl (o.2)))]] : List va_W)) (List.flatten ([(tX8 p0k), [(p1k, .int)]] : List (List (ClassId × FieldType)))) (va_A (List.flatten ([(oX8 (p0a 0) p0a p0k p0w), [(p1a, .inl (p1k, p1n, .inl p1f))]] : List va_W)) sz) t) (va_A (List.flatten ([(oX8 (p0a 0) p0a p0k p0w), [(p1a, .inl (p1k, p1n, .inl p1f))]] : List va_W)) sz)) 0 0 (va_A (List.flatten ([(oX8 (p0a 0) p0a p0k p0w), [(p1a, .inl (p1k, p1n, .inl p1f))]] : List va_W)) sz) := by
  refine Met.ofW (cc := cX8_move) (maxL := 5) (ret := (Option.none : Option Jvm.ClassFile.FieldType)) (by decide) rfl ?_
  intro p e s m args below meth c s₁ B hml hv
  obtain ⟨rfl, hsz, hP, hK, hD0, hE⟩ := hv
  have hx := B.exec
  have hb := B.bytes
  have hr := B.returns
  have hts0 := atoms_spec (ws := wz yX8_move cX8_move 5 (Option.none : Option Jvm.ClassFile.FieldType)) B.pre
  have hts : ∀ w ∈ gw, w.before _ s = true := fun w h => hts0 w (List.mem_cons_of_mem _ h)
  have hown : s.vm.findClass RX8 = some m.cls := findClass_of_methodNamed B.named
  have hlocks := B.notSynchronized
  subst hsz
  have hD := hD0.self (sz := s.heap.size)
  refine gQ9 ?_
  intro Q hQ
  generalize hAe : va_A (List.flatten ([(oX8 (p0a 0) p0a p0k p0w), [(p1a, .inl (p1k, p1n, .inl p1f))]] : List va_W)) s.heap.size = A at hD hE hQ
  have hA : ∀ q : Nat, s.heap.size ≤ q → A q := fun q h => by rw [← hAe]; exact Or.inr h
  have hS : va_S A s.heap s.heap [] := va_S.rf
  have hP : va_P (dC, dI) cls (List.flatten ([(oX8 (p0a 0) p0a p0k p0w), [(p1a, .inl (p1k, p1n, .inl p1f))]] : List va_W)) s.heap := hP
  have hl := lv_entry ([.ref (p0a 0), .ref p1a, .int p2, .int p3]) (n := 5) (Nat.le_of_ble_eq_true rfl)
  rw [lg_entry_eq]
  generalize (lg_sl ([.ref (p0a 0), .ref p1a, .int p2, .int p3]) ++ List.replicate (5 - (lg_sl ([.ref (p0a 0), .ref p1a, .int p2, .int p3])).length) Slot.unset).toArray = ls at hl ⊢
  have hl : lv_has ls 5 [(0, .ref (p0a 0)), (1, .ref p1a), (2, .int p2), (3, .int p3)] := hl
  obtain ⟨H, hHe⟩ : ∃ H, H = s.heap := ⟨_, rfl⟩
  obtain ⟨locs, hle⟩ : ∃ locs : List Loc, locs = [] := ⟨_, rfl⟩
  rw [← hHe] at hP
  have hS : va_S A s.heap H locs := by rw [hHe, hle]; exact hS
  show W p l e ({ frames := 1, cells := 0, slots := 0, locals := 40 } : Room) s m ([.ref (p0a 0), .ref p1a, .int p2, .int p3] : List Value).toArray below meth c s.heap [] 0 0 Q (F0 m 0 ls [])
  rw [← hle]
  refine wH9 hHe ?_
  unfold fX8_move at hrun
  refine lv_iconst (v := 0) hx hb dX8_move_0 (by decide) ?_
  refine lv_istore (lv' := [(4, .int 0), (0, .ref (p0a 0)), (1, .ref p1a), (2, .int p2), (3, .int p3)]) hx hb dX8_move_1 hl (by decide) rfl (fun ls hl => ?_)
  have L3 : ∀ (n_3 : Nat) (v4_3 : Int32) (p0w_3 : ST) (o3 : ST) (H : Heap) (locs : List Loc) (ls : Array Slot), (fX8_move_L3 p1n p1f p2 n_3) v4_3 p0w_3 = some o3 → va_P (dC, dI) cls (List.flatten ([(oX8 (p0a 0) p0a p0k p0w_3), [(p1a, .inl (p1k, p1n, .inl p1f))]] : List va_W)) H → va_D A (List.flatten ([(oX8 (p0a 0) p0a p0k p0w_3), [(p1a, .inl (p1k, p1n, .inl p1f))]] : List va_W)) → va_K (dC, dI) cls (List.flatten ([(tX8 p0k), [(p1k, .int)]] : List (List (ClassId × FieldType)))) s → va_S A s.heap H locs → lv_has ls 5 [(0, .ref (p0a 0)), (1, .ref p1a), (2, .int p2), (3, .int p3), (4, .int v4_3)] → (∀ (H : Heap) (locs : List Loc) (ls : Array Slot), va_P (dC, dI) cls (List.flatten ([(oX8 (p0a 0) p0a p0k o3), [(p1a, .inl (p1k, p1n, .inl p1f))]] : List va_W)) H → va_D A (List.flatten ([(oX8 (p0a 0) p0a p0k o3), [(p1a, .inl (p1k, p1n, .inl p1f))]] : List va_W)) → va_K (dC, dI) cls (List.flatten ([(tX8 p0k), [(p1k, .int)]] : List (List (ClassId × FieldType)))) s → va_S A s.heap H locs → lv_has ls 5 [(0, .ref (p0a 0)), (1, .ref p1a), (3, .int p3)] → W p l e ({ frames := 1, cells := 0, slots := 0, locals := 40 } : Room) s m ([.ref (p0a 0), .ref p1a, .int p2, .int p3] : List Value).toArray below meth c H locs 0 0 Q (F0 m 41 ls [])) → W p l e ({ frames := 1, cells := 0, slots := 0, locals := 40 } : Room) s m ([.ref (p0a 0), .ref p1a, .int p2, .int p3] : List Value).toArray below meth c H locs 0 0 Q (F0 m 3 ls []) := by
    intro n_3
    induction n_3 with
    | zero => intro v4_3 p0w_3 o3 H locs ls hrun; exact (no9 rfl hrun).elim
    | succ n_3 IH3 =>
      intro v4_3 p0w_3 o3 H locs ls hrun hP hD hK hS hl hk3
      unfold fX8_move_L3 at hrun
      refine lv_iload hx hb dX8_move_3 (lv_at hl 4 rfl) ?_
      refine lv_iload_n hx hb dX8_move_5 rfl (lv_at hl 2 rfl) ?_
      rcases br9 hrun with ⟨hc1, hrun⟩ | ⟨hc1, hrun⟩
      · refine lv_icmp_ge (tgt := 41) hx hb dX8_move_6 (by decide) (fun _ => ?_) (fun c => absurd hc1 c)
        obtain rfl := (Option.some.inj hrun)
        exact hk3 _ _ _ hP hD hK hS (lv_sub hl [0, 1, 3] rfl)
      · refine lv_icmp_ge (tgt := 41) hx hb dX8_move_6 (by decide) (fun c => absurd c hc1) (fun _ => ?_)
        refine lv_aload_n hx hb dX8_move_9 rfl (lv_at hl 0 rfl) ?_
        refine va_get (D := (dC, dI)) (ci := 5) (v := .ref (p0a 1)) (C := RX8) (T := TX8) (N := 5) hx hb hts i_X8 hown hK hP 0 rfl rfl 0 (by decide) (hts _ qw223) (fun _ h9 => h9) rfl dX8_move_10 ?_
        refine lv_iload hx hb dX8_move_13 (lv_at hl 4 rfl) ?_
        obtain ⟨hq2, hrun⟩ := chk9 hrun
        refine va_iald hx hb hK hP 1 0 rfl rfl (ixb_in hq2) dX8_move_15 ?_
        have J35 : ∀ (p0w_35 : ST) (H : Heap) (locs : List Loc) (ls : Array Slot), (fX8_move_J35 (fX8_move_L3 p1n p1f p2 n_3) v4_3 p0w_35) = some o3 → va_P (dC, dI) cls (List.flatten ([(oX8 (p0a 0) p0a p0k p0w_35), [(p1a, .inl (p1k, p1n, .inl p1f))]] : List va_W)) H → va_D A (List.flatten ([(oX8 (p0a 0) p0a p0k p0w_35), [(p1a, .inl (p1k, p1n, .inl p1f))]] : List va_W)) → va_K (dC, dI) cls (List.flatten ([(tX8 p0k), [(p1k, .int)]] : List (List (ClassId × FieldType)))) s → va_S A s.heap H locs → lv_has ls 5 [(0, .ref (p0a 0)), (1, .ref p1a), (2, .int p2), (3, .int p3), (4, .int v4_3)] → W p l e ({ frames := 1, cells := 0, slots := 0, locals := 40 } : Room) s m ([.ref (p0a 0), .ref p1a, .int p2, .int p3] : List Value).toArray below meth c H locs 0 0 Q (F0 m 35 ls []) := by
          intro p0w_35 H locs ls hrun hP hD hK hS hl 
          unfold fX8_move_J35 at hrun
          refine lv_iinc (v := (v4_3 + 1)) (lv' := [(4, .int (v4_3 + 1)), (0, .ref (p0a 0)), (1, .ref p1a), (2, .int p2), (3, .int p3)]) hx hb dX8_move_35 hl (k := 4) rfl rfl (by decide) rfl (fun ls hl => ?_)
          refine lv_goto (tgt := 3) hx hb dX8_move_38 (by decide) ?_
          exact IH3 (v4_3 + 1) p0w_35 o3 _ _ _ hrun hP hD hK hS (lv_sub hl [1, 2, 3, 4, 0] rfl) hk3
        rcases br9 hrun with ⟨hc3, hrun⟩ | ⟨hc3, hrun⟩
        · refine lv_if_lt (tgt := 35) hx hb dX8_move_16 (by decide) (fun _ => ?_) (fun c => absurd hc3 c)
          exact J35 p0w_3 _ _ _ hrun hP hD hK hS (lv_sub hl [0, 1, 2, 3, 4] rfl)
        · refine lv_if_lt (tgt := 35) hx hb dX8_move_16 (by decide) (fun c => absurd c hc3) (fun _ => ?_)
          refine lv_aload_n hx hb dX8_move_19 rfl (lv_at hl 0 rfl) ?_
          refine va_get (D := (dC, dI)) (ci := 5) (v := .ref (p0a 5)) (C := RX8) (T := TX8) (N := 5) hx hb hts i_X8 hown hK hP 0 rfl rfl 4 (by decide) (hts _ qw224) (fun _ h9 => h9) rfl dX8_move_20 ?_
          refine lv_aload_n hx hb dX8_move_23 rfl (lv_at hl 0 rfl) ?_
          refine va_get (D := (dC, dI)) (ci := 5) (v := .ref (p0a 1)) (C := RX8) (T := TX8) (N := 5) hx hb hts i_X8 hown hK hP 0 rfl rfl 0 (by decide) (hts _ qw223) (fun _ h9 => h9) rfl dX8_move_24 ?_
          refine lv_iload hx hb dX8_move_27 (lv_at hl 4 rfl) ?_
          obtain ⟨hq4, hrun⟩ := chk9 hrun
          refine va_iald hx hb hK hP 1 0 rfl rfl (ixb_in hq4) dX8_move_29 ?_
          refine lv_aload_n hx hb dX8_move_30 rfl (lv_at hl 1 rfl) ?_
          refine lv_iload hx hb dX8_move_31 (lv_at hl 4 rfl) ?_
          obtain ⟨hq5, hrun⟩ := chk9 hrun
          refine va_iald hx hb hK hP 6 5 rfl rfl (ixb_in hq5) dX8_move_33 ?_
          obtain ⟨hq6, hrun⟩ := chk9 hrun
          refine va_iast hx hb hK hP hD hS 5 4 rfl rfl (ixb_in hq6) dX8_move_34 (fun H locs hP hD hS => ?_)
          have hP : va_P (dC, dI) cls (List.flatten ([(oX8 (p0a 0) p0a p0k (upw p0w_3 5 (nn (p0w_3 1 (nn v4_3))) (p1f (nn v4_3)))), [(p1a, .inl (p1k, p1n, .inl p1f))]] : List va_W)) H := hP
          have hD : va_D A (List.flatten ([(oX8 (p0a 0) p0a p0k (upw p0w_3 5 (nn (p0w_3 1 (nn v4_3))) (p1f (nn v4_3)))), [(p1a, .inl (p1k, p1n, .inl p1f))]] : List va_W)) := hD
          obtain ⟨w7, ew7, hrun⟩ := let9 hrun
          rw [← ew7] at hP hD
          exact J35 w7 _ _ _ hrun hP hD hK hS (lv_sub hl [0, 1, 2, 3, 4] rfl)
  obtain ⟨o3, hc3, hrun⟩ := bnd9 hrun
  refine L3 NF 0 p0w o3 _ _ _ hc3 hP hD hK hS (lv_sub hl [1, 2, 3, 4, 0] rfl) ?_
  intro H locs ls hP hD hK hS hl
  have hl := hl
  refine lv_aload_n hx hb dX8_move_41 rfl (lv_at hl 0 rfl) ?_
  refine va_get (D := (dC, dI)) (ci := 5) (v := .ref (p0a 5)) (C := RX8) (T := TX8) (N := 5) hx hb hts i_X8 hown hK hP 0 rfl rfl 4 (by decide) (hts _ qw224) (fun _ h9 => h9) rfl dX8_move_42 ?_
  refine lv_iconst (v := 0) hx hb dX8_move_45 (by decide) ?_
  refine lv_aload_n hx hb dX8_move_46 rfl (lv_at hl 1 rfl) ?_
  refine lv_iconst (v := 0) hx hb dX8_move_47 (by decide) ?_
  refine lv_iload_n hx hb dX8_move_48 rfl (lv_at hl 2 rfl) ?_
  obtain ⟨hq8, hrun⟩ := chk9 hrun
  refine va_copyi (ty := .int) (sp := 0) (dp := 0) (n := p3) hx hb (hml.trans hl.1.symm) hown (hts _ qw225) (hts _ qw103) (hts _ qw104) (hts _ qw105) hK hP hD hS 5 6 4 5 rfl rfl rfl rfl rfl (cpk_1 hq8) (cpk_2 hq8) (cpk_3 hq8) (cpk_4 hq8) (cpk_5 hq8) (fun _ _ => rfl) (Nat.le_of_ble_eq_true rfl) (Nat.le_of_ble_eq_true rfl) dX8_move_49 (fun H locs hP hD hS => ?_)
  have hP : va_P (dC, dI) cls (List.flatten ([(oX8 (p0a 0) p0a p0k o3), [(p1a, .inl (p1k, p1n, .inl (va_cpy (o3 5) p1f (nn 0) (nn 0) (nn p3))))]] : List va_W)) H := hP
  have hD : va_D A (List.flatten ([(oX8 (p0a 0) p0a p0k o3), [(p1a, .inl (p1k, p1n, .inl (va_cpy (o3 5) p1f (nn 0) (nn 0) (nn p3))))]] : List va_W)) := hD
  obtain ⟨f9, ef9, hrun⟩ := let9 hrun
  rw [← ef9] at hP hD
  have ho9 : (o3, f9) = o := Option.some.inj hrun
  have hP9 : va_P (dC, dI) cls (List.flatten ([(oX8 (p0a 0) p0a p0k (o.1)), [(p1a, .inl (p1k, p1n, .inl (o.2)))]] : List va_W)) H := by first | exact hP | (rw [← ho9]; exact hP)
  have hD9 : va_D A (List.flatten ([(oX8 (p0a 0) p0a p0k (o.1)), [(p1a, .inl (p1k, p1n, .inl (o.2)))]] : List va_W)) := by first | exact hD | (rw [← ho9]; exact hD)
  subst hQ
  exact W.vret hx hb hr (fun t ht hW => ⟨⟨(), rfl, trivial, ⟨by rw [ht]; exact hP9, va_K.moved hW.alike hK, hD9⟩⟩, hS.F ht⟩) hS.2.2 dX8_move_52
