abbrev cX4_make : ByteArray := prog_6_method_2_code
def yX4_make : MethodName := ⟨RX4, "make", "(LGearbox$Program;ILGearbox$Flow;)Z"⟩
abbrev cX4_noteVariables : ByteArray := prog_6_method_17_code
def yX4_noteVariables : MethodName := ⟨RX4, "noteVariables", "(LGearbox$Program;ILGearbox$Flow;)V"⟩
abbrev cX4_placePhis : ByteArray := prog_6_method_21_code
def yX4_placePhis : MethodName := ⟨RX4, "placePhis", "(LGearbox$Flow;I)Z"⟩
abbrev cX4_wantedAt : ByteArray := prog_6_method_19_code
def yX4_wantedAt : MethodName := ⟨RX4, "wantedAt", "(LGearbox$Flow;I)J"⟩
abbrev cX4_numberValues : ByteArray := prog_6_method_22_code
def yX4_numberValues : MethodName := ⟨RX4, "numberValues", "(LGearbox$Program;LGearbox$Flow;)Z"⟩
theorem dX4_make_0 : decode cX4_make 0 = .ok (.aload_n 3, 1) := by decide +kernel
theorem dX4_make_1 : decode cX4_make 1 = .ok (.invokevirtual 71, 3) := by decide +kernel
theorem dX4_make_4 : decode cX4_make 4 = .ok (.aload_n 0, 1) := by decide +kernel
theorem dX4_make_5 : decode cX4_make 5 = .ok (.aload_n 1, 1) := by decide +kernel
theorem dX4_make_6 : decode cX4_make 6 = .ok (.iload_n 2, 1) := by decide +kernel
theorem dX4_make_7 : decode cX4_make 7 = .ok (.invokevirtual 76, 3) := by decide +kernel
theorem dX4_make_10 : decode cX4_make 10 = .ok (.aload_n 0, 1) := by decide +kernel
theorem dX4_make_11 : decode cX4_make 11 = .ok (.aload_n 1, 1) := by decide +kernel
theorem dX4_make_12 : decode cX4_make 12 = .ok (.iload_n 2, 1) := by decide +kernel
theorem dX4_make_13 : decode cX4_make 13 = .ok (.invokevirtual 80, 3) := by decide +kernel
theorem dX4_make_16 : decode cX4_make 16 = .ok (.aload_n 0, 1) := by decide +kernel
theorem dX4_make_17 : decode cX4_make 17 = .ok (.aload_n 1, 1) := by decide +kernel
theorem dX4_make_18 : decode cX4_make 18 = .ok (.aload_n 3, 1) := by decide +kernel
theorem dX4_make_19 : decode cX4_make 19 = .ok (.invokevirtual 83, 3) := by decide +kernel
theorem dX4_make_22 : decode cX4_make 22 = .ok (.ifCond .ne 5, 3) := by decide +kernel
theorem dX4_make_25 : decode cX4_make 25 = .ok (.iconst 0, 1) := by decide +kernel
theorem dX4_make_26 : decode cX4_make 26 = .ok (.ireturn, 1) := by decide +kernel
theorem dX4_make_27 : decode cX4_make 27 = .ok (.aload_n 3, 1) := by decide +kernel
theorem dX4_make_28 : decode cX4_make 28 = .ok (.getfield 87, 3) := by decide +kernel
theorem dX4_make_31 : decode cX4_make 31 = .ok (.istore 4, 2) := by decide +kernel
theorem dX4_make_33 : decode cX4_make 33 = .ok (.aload_n 0, 1) := by decide +kernel
theorem dX4_make_34 : decode cX4_make 34 = .ok (.getfield 67, 3) := by decide +kernel
theorem dX4_make_37 : decode cX4_make 37 = .ok (.aload_n 3, 1) := by decide +kernel
theorem dX4_make_38 : decode cX4_make 38 = .ok (.invokevirtual 91, 3) := by decide +kernel
theorem dX4_make_41 : decode cX4_make 41 = .ok (.aload_n 0, 1) := by decide +kernel
theorem dX4_make_42 : decode cX4_make 42 = .ok (.getfield 67, 3) := by decide +kernel
theorem dX4_make_45 : decode cX4_make 45 = .ok (.aload_n 0, 1) := by decide +kernel
theorem dX4_make_46 : decode cX4_make 46 = .ok (.getfield 48, 3) := by decide +kernel
theorem dX4_make_49 : decode cX4_make 49 = .ok (.iload 4, 2) := by decide +kernel
theorem dX4_make_51 : decode cX4_make 51 = .ok (.aload_n 3, 1) := by decide +kernel
theorem dX4_make_52 : decode cX4_make 52 = .ok (.getfield 87, 3) := by decide +kernel
theorem dX4_make_55 : decode cX4_make 55 = .ok (.invokevirtual 97, 3) := by decide +kernel
theorem dX4_make_58 : decode cX4_make 58 = .ok (.aload_n 0, 1) := by decide +kernel
theorem dX4_make_59 : decode cX4_make 59 = .ok (.aload_n 1, 1) := by decide +kernel
theorem dX4_make_60 : decode cX4_make 60 = .ok (.iload_n 2, 1) := by decide +kernel
theorem dX4_make_61 : decode cX4_make 61 = .ok (.aload_n 3, 1) := by decide +kernel
theorem dX4_make_62 : decode cX4_make 62 = .ok (.invokevirtual 101, 3) := by decide +kernel
theorem dX4_make_65 : decode cX4_make 65 = .ok (.aload_n 0, 1) := by decide +kernel
theorem dX4_make_66 : decode cX4_make 66 = .ok (.aload_n 3, 1) := by decide +kernel
theorem dX4_make_67 : decode cX4_make 67 = .ok (.invokevirtual 105, 3) := by decide +kernel
theorem dX4_make_70 : decode cX4_make 70 = .ok (.iconst 0, 1) := by decide +kernel
theorem dX4_make_71 : decode cX4_make 71 = .ok (.istore 5, 2) := by decide +kernel
theorem dX4_make_73 : decode cX4_make 73 = .ok (.iload 5, 2) := by decide +kernel
theorem dX4_make_75 : decode cX4_make 75 = .ok (.aload_n 1, 1) := by decide +kernel
theorem dX4_make_76 : decode cX4_make 76 = .ok (.getfield 108, 3) := by decide +kernel
theorem dX4_make_79 : decode cX4_make 79 = .ok (.iload_n 2, 1) := by decide +kernel
theorem dX4_make_80 : decode cX4_make 80 = .ok (.iaload, 1) := by decide +kernel
theorem dX4_make_81 : decode cX4_make 81 = .ok (.if_icmp .ge 21, 3) := by decide +kernel
theorem dX4_make_84 : decode cX4_make 84 = .ok (.aload_n 0, 1) := by decide +kernel
theorem dX4_make_85 : decode cX4_make 85 = .ok (.aload_n 3, 1) := by decide +kernel
theorem dX4_make_86 : decode cX4_make 86 = .ok (.iload 5, 2) := by decide +kernel
theorem dX4_make_88 : decode cX4_make 88 = .ok (.invokevirtual 113, 3) := by decide +kernel
theorem dX4_make_91 : decode cX4_make 91 = .ok (.ifCond .ne 5, 3) := by decide +kernel
theorem dX4_make_94 : decode cX4_make 94 = .ok (.iconst 0, 1) := by decide +kernel
theorem dX4_make_95 : decode cX4_make 95 = .ok (.ireturn, 1) := by decide +kernel
theorem dX4_make_96 : decode cX4_make 96 = .ok (.iinc 5 1, 3) := by decide +kernel
theorem dX4_make_99 : decode cX4_make 99 = .ok (.goto (-26), 3) := by decide +kernel
theorem dX4_make_102 : decode cX4_make 102 = .ok (.aload_n 0, 1) := by decide +kernel
theorem dX4_make_103 : decode cX4_make 103 = .ok (.aload_n 1, 1) := by decide +kernel
theorem dX4_make_104 : decode cX4_make 104 = .ok (.aload_n 3, 1) := by decide +kernel
theorem dX4_make_105 : decode cX4_make 105 = .ok (.invokevirtual 117, 3) := by decide +kernel
theorem dX4_make_108 : decode cX4_make 108 = .ok (.ifCond .ne 5, 3) := by decide +kernel
theorem dX4_make_111 : decode cX4_make 111 = .ok (.iconst 0, 1) := by decide +kernel
theorem dX4_make_112 : decode cX4_make 112 = .ok (.ireturn, 1) := by decide +kernel
theorem dX4_make_113 : decode cX4_make 113 = .ok (.iconst 0, 1) := by decide +kernel
theorem dX4_make_114 : decode cX4_make 114 = .ok (.istore 5, 2) := by decide +kernel
theorem dX4_make_116 : decode cX4_make 116 = .ok (.iload 5, 2) := by decide +kernel
theorem dX4_make_118 : decode cX4_make 118 = .ok (.aload_n 3, 1) := by decide +kernel
theorem dX4_make_119 : decode cX4_make 119 = .ok (.getfield 87, 3) := by decide +kernel
theorem dX4_make_122 : decode cX4_make 122 = .ok (.if_icmp .ge 18, 3) := by decide +kernel
theorem dX4_make_125 : decode cX4_make 125 = .ok (.aload_n 0, 1) := by decide +kernel
theorem dX4_make_126 : decode cX4_make 126 = .ok (.aload_n 1, 1) := by decide +kernel
theorem dX4_make_127 : decode cX4_make 127 = .ok (.iload_n 2, 1) := by decide +kernel
theorem dX4_make_128 : decode cX4_make 128 = .ok (.aload_n 3, 1) := by decide +kernel
theorem dX4_make_129 : decode cX4_make 129 = .ok (.iload 5, 2) := by decide +kernel
theorem dX4_make_131 : decode cX4_make 131 = .ok (.invokevirtual 120, 3) := by decide +kernel
theorem dX4_make_134 : decode cX4_make 134 = .ok (.iinc 5 1, 3) := by decide +kernel
theorem dX4_make_137 : decode cX4_make 137 = .ok (.goto (-21), 3) := by decide +kernel
theorem dX4_make_140 : decode cX4_make 140 = .ok (.aload_n 0, 1) := by decide +kernel
theorem dX4_make_141 : decode cX4_make 141 = .ok (.aload_n 3, 1) := by decide +kernel
theorem dX4_make_142 : decode cX4_make 142 = .ok (.invokevirtual 124, 3) := by decide +kernel
theorem dX4_make_145 : decode cX4_make 145 = .ok (.iconst 1, 1) := by decide +kernel
theorem dX4_make_146 : decode cX4_make 146 = .ok (.ireturn, 1) := by decide +kernel
theorem dX4_noteVariables_0 : decode cX4_noteVariables 0 = .ok (.aload_n 0, 1) := by decide +kernel
theorem dX4_noteVariables_1 : decode cX4_noteVariables 1 = .ok (.getfield 51, 3) := by decide +kernel
theorem dX4_noteVariables_4 : decode cX4_noteVariables 4 = .ok (.lconst 0, 1) := by decide +kernel
theorem dX4_noteVariables_5 : decode cX4_noteVariables 5 = .ok (.invokestatic 205, 3) := by decide +kernel
theorem dX4_noteVariables_8 : decode cX4_noteVariables 8 = .ok (.aload_n 0, 1) := by decide +kernel
theorem dX4_noteVariables_9 : decode cX4_noteVariables 9 = .ok (.getfield 55, 3) := by decide +kernel
theorem dX4_noteVariables_12 : decode cX4_noteVariables 12 = .ok (.lconst 0, 1) := by decide +kernel
theorem dX4_noteVariables_13 : decode cX4_noteVariables 13 = .ok (.invokestatic 205, 3) := by decide +kernel
theorem dX4_noteVariables_16 : decode cX4_noteVariables 16 = .ok (.iconst 0, 1) := by decide +kernel
theorem dX4_noteVariables_17 : decode cX4_noteVariables 17 = .ok (.istore 4, 2) := by decide +kernel
theorem dX4_noteVariables_19 : decode cX4_noteVariables 19 = .ok (.iload 4, 2) := by decide +kernel
theorem dX4_noteVariables_21 : decode cX4_noteVariables 21 = .ok (.aload_n 3, 1) := by decide +kernel
theorem dX4_noteVariables_22 : decode cX4_noteVariables 22 = .ok (.getfield 87, 3) := by decide +kernel
theorem dX4_noteVariables_25 : decode cX4_noteVariables 25 = .ok (.if_icmp .ge 126, 3) := by decide +kernel
theorem dX4_noteVariables_28 : decode cX4_noteVariables 28 = .ok (.aload_n 0, 1) := by decide +kernel
theorem dX4_noteVariables_29 : decode cX4_noteVariables 29 = .ok (.iload 4, 2) := by decide +kernel
theorem dX4_noteVariables_31 : decode cX4_noteVariables 31 = .ok (.invokevirtual 208, 3) := by decide +kernel
theorem dX4_noteVariables_34 : decode cX4_noteVariables 34 = .ok (.istore 5, 2) := by decide +kernel
theorem dX4_noteVariables_36 : decode cX4_noteVariables 36 = .ok (.iload 5, 2) := by decide +kernel
theorem dX4_noteVariables_38 : decode cX4_noteVariables 38 = .ok (.aload_n 0, 1) := by decide +kernel
theorem dX4_noteVariables_39 : decode cX4_noteVariables 39 = .ok (.iload 4, 2) := by decide +kernel
theorem dX4_noteVariables_41 : decode cX4_noteVariables 41 = .ok (.invokevirtual 211, 3) := by decide +kernel
theorem dX4_noteVariables_44 : decode cX4_noteVariables 44 = .ok (.if_icmp .ge 101, 3) := by decide +kernel
theorem dX4_noteVariables_47 : decode cX4_noteVariables 47 = .ok (.aload_n 1, 1) := by decide +kernel
theorem dX4_noteVariables_48 : decode cX4_noteVariables 48 = .ok (.getfield 139, 3) := by decide +kernel
theorem dX4_noteVariables_51 : decode cX4_noteVariables 51 = .ok (.iload 5, 2) := by decide +kernel
theorem dX4_noteVariables_53 : decode cX4_noteVariables 53 = .ok (.iaload, 1) := by decide +kernel
theorem dX4_noteVariables_54 : decode cX4_noteVariables 54 = .ok (.istore 6, 2) := by decide +kernel
theorem dX4_noteVariables_56 : decode cX4_noteVariables 56 = .ok (.aload_n 1, 1) := by decide +kernel
theorem dX4_noteVariables_57 : decode cX4_noteVariables 57 = .ok (.getfield 146, 3) := by decide +kernel
theorem dX4_noteVariables_60 : decode cX4_noteVariables 60 = .ok (.iload 5, 2) := by decide +kernel
theorem dX4_noteVariables_62 : decode cX4_noteVariables 62 = .ok (.iaload, 1) := by decide +kernel
theorem dX4_noteVariables_63 : decode cX4_noteVariables 63 = .ok (.istore 7, 2) := by decide +kernel
theorem dX4_noteVariables_65 : decode cX4_noteVariables 65 = .ok (.iload 6, 2) := by decide +kernel
theorem dX4_noteVariables_67 : decode cX4_noteVariables 67 = .ok (.bipush 30, 2) := by decide +kernel
theorem dX4_noteVariables_69 : decode cX4_noteVariables 69 = .ok (.if_icmp .ne 35, 3) := by decide +kernel
theorem dX4_noteVariables_72 : decode cX4_noteVariables 72 = .ok (.aload_n 0, 1) := by decide +kernel
theorem dX4_noteVariables_73 : decode cX4_noteVariables 73 = .ok (.getfield 55, 3) := by decide +kernel
theorem dX4_noteVariables_76 : decode cX4_noteVariables 76 = .ok (.iload 7, 2) := by decide +kernel
theorem dX4_noteVariables_78 : decode cX4_noteVariables 78 = .ok (.laload, 1) := by decide +kernel
theorem dX4_noteVariables_79 : decode cX4_noteVariables 79 = .ok (.iload 4, 2) := by decide +kernel
theorem dX4_noteVariables_81 : decode cX4_noteVariables 81 = .ok (.invokestatic 214, 3) := by decide +kernel
theorem dX4_noteVariables_84 : decode cX4_noteVariables 84 = .ok (.ifCond .ne 20, 3) := by decide +kernel
theorem dX4_noteVariables_87 : decode cX4_noteVariables 87 = .ok (.aload_n 0, 1) := by decide +kernel
theorem dX4_noteVariables_88 : decode cX4_noteVariables 88 = .ok (.getfield 51, 3) := by decide +kernel
theorem dX4_noteVariables_91 : decode cX4_noteVariables 91 = .ok (.iload 7, 2) := by decide +kernel
theorem dX4_noteVariables_93 : decode cX4_noteVariables 93 = .ok (.dup2, 1) := by decide +kernel
theorem dX4_noteVariables_94 : decode cX4_noteVariables 94 = .ok (.laload, 1) := by decide +kernel
theorem dX4_noteVariables_95 : decode cX4_noteVariables 95 = .ok (.lconst 1, 1) := by decide +kernel
theorem dX4_noteVariables_96 : decode cX4_noteVariables 96 = .ok (.iload 4, 2) := by decide +kernel
theorem dX4_noteVariables_98 : decode cX4_noteVariables 98 = .ok (.lshl, 1) := by decide +kernel
theorem dX4_noteVariables_99 : decode cX4_noteVariables 99 = .ok (.lor, 1) := by decide +kernel
theorem dX4_noteVariables_100 : decode cX4_noteVariables 100 = .ok (.lastore, 1) := by decide +kernel
theorem dX4_noteVariables_101 : decode cX4_noteVariables 101 = .ok (.goto 38, 3) := by decide +kernel
theorem dX4_noteVariables_104 : decode cX4_noteVariables 104 = .ok (.iload 6, 2) := by decide +kernel
theorem dX4_noteVariables_106 : decode cX4_noteVariables 106 = .ok (.bipush 31, 2) := by decide +kernel
theorem dX4_noteVariables_108 : decode cX4_noteVariables 108 = .ok (.if_icmp .eq 17, 3) := by decide +kernel
theorem dX4_noteVariables_111 : decode cX4_noteVariables 111 = .ok (.iload 6, 2) := by decide +kernel
theorem dX4_noteVariables_113 : decode cX4_noteVariables 113 = .ok (.bipush 32, 2) := by decide +kernel
theorem dX4_noteVariables_115 : decode cX4_noteVariables 115 = .ok (.if_icmp .eq 10, 3) := by decide +kernel
theorem dX4_noteVariables_118 : decode cX4_noteVariables 118 = .ok (.iload 6, 2) := by decide +kernel
theorem dX4_noteVariables_120 : decode cX4_noteVariables 120 = .ok (.bipush 21, 2) := by decide +kernel
theorem dX4_noteVariables_122 : decode cX4_noteVariables 122 = .ok (.if_icmp .ne 17, 3) := by decide +kernel
theorem dX4_noteVariables_125 : decode cX4_noteVariables 125 = .ok (.aload_n 0, 1) := by decide +kernel
theorem dX4_noteVariables_126 : decode cX4_noteVariables 126 = .ok (.getfield 55, 3) := by decide +kernel
theorem dX4_noteVariables_129 : decode cX4_noteVariables 129 = .ok (.iload 7, 2) := by decide +kernel
theorem dX4_noteVariables_131 : decode cX4_noteVariables 131 = .ok (.dup2, 1) := by decide +kernel
theorem dX4_noteVariables_132 : decode cX4_noteVariables 132 = .ok (.laload, 1) := by decide +kernel
theorem dX4_noteVariables_133 : decode cX4_noteVariables 133 = .ok (.lconst 1, 1) := by decide +kernel
theorem dX4_noteVariables_134 : decode cX4_noteVariables 134 = .ok (.iload 4, 2) := by decide +kernel
theorem dX4_noteVariables_136 : decode cX4_noteVariables 136 = .ok (.lshl, 1) := by decide +kernel
theorem dX4_noteVariables_137 : decode cX4_noteVariables 137 = .ok (.lor, 1) := by decide +kernel
theorem dX4_noteVariables_138 : decode cX4_noteVariables 138 = .ok (.lastore, 1) := by decide +kernel
theorem dX4_noteVariables_139 : decode cX4_noteVariables 139 = .ok (.iinc 5 1, 3) := by decide +kernel
theorem dX4_noteVariables_142 : decode cX4_noteVariables 142 = .ok (.goto (-106), 3) := by decide +kernel
theorem dX4_noteVariables_145 : decode cX4_noteVariables 145 = .ok (.iinc 4 1, 3) := by decide +kernel
theorem dX4_noteVariables_148 : decode cX4_noteVariables 148 = .ok (.goto (-129), 3) := by decide +kernel
theorem dX4_noteVariables_151 : decode cX4_noteVariables 151 = .ok (.return_, 1) := by decide +kernel
theorem dX4_numberValues_0 : decode cX4_numberValues 0 = .ok (.iconst 0, 1) := by decide +kernel
theorem dX4_numberValues_1 : decode cX4_numberValues 1 = .ok (.istore_n 3, 1) := by decide +kernel
theorem dX4_numberValues_2 : decode cX4_numberValues 2 = .ok (.iconst 0, 1) := by decide +kernel
theorem dX4_numberValues_3 : decode cX4_numberValues 3 = .ok (.istore 4, 2) := by decide +kernel
theorem dX4_numberValues_5 : decode cX4_numberValues 5 = .ok (.iload 4, 2) := by decide +kernel
theorem dX4_numberValues_7 : decode cX4_numberValues 7 = .ok (.aload_n 2, 1) := by decide +kernel
theorem dX4_numberValues_8 : decode cX4_numberValues 8 = .ok (.getfield 87, 3) := by decide +kernel
theorem dX4_numberValues_11 : decode cX4_numberValues 11 = .ok (.if_icmp .ge 95, 3) := by decide +kernel
theorem dX4_numberValues_14 : decode cX4_numberValues 14 = .ok (.aload_n 2, 1) := by decide +kernel
theorem dX4_numberValues_15 : decode cX4_numberValues 15 = .ok (.getfield 240, 3) := by decide +kernel
theorem dX4_numberValues_18 : decode cX4_numberValues 18 = .ok (.iload 4, 2) := by decide +kernel
theorem dX4_numberValues_20 : decode cX4_numberValues 20 = .ok (.iaload, 1) := by decide +kernel
theorem dX4_numberValues_21 : decode cX4_numberValues 21 = .ok (.istore 5, 2) := by decide +kernel
theorem dX4_numberValues_23 : decode cX4_numberValues 23 = .ok (.iload 5, 2) := by decide +kernel
theorem dX4_numberValues_25 : decode cX4_numberValues 25 = .ok (.ifCond .lt 26, 3) := by decide +kernel
theorem dX4_numberValues_28 : decode cX4_numberValues 28 = .ok (.aload_n 2, 1) := by decide +kernel
theorem dX4_numberValues_29 : decode cX4_numberValues 29 = .ok (.getfield 243, 3) := by decide +kernel
theorem dX4_numberValues_32 : decode cX4_numberValues 32 = .ok (.iload 5, 2) := by decide +kernel
theorem dX4_numberValues_34 : decode cX4_numberValues 34 = .ok (.iload_n 3, 1) := by decide +kernel
theorem dX4_numberValues_35 : decode cX4_numberValues 35 = .ok (.iastore, 1) := by decide +kernel
theorem dX4_numberValues_36 : decode cX4_numberValues 36 = .ok (.iinc 3 1, 3) := by decide +kernel
theorem dX4_numberValues_39 : decode cX4_numberValues 39 = .ok (.aload_n 2, 1) := by decide +kernel
theorem dX4_numberValues_40 : decode cX4_numberValues 40 = .ok (.getfield 246, 3) := by decide +kernel
theorem dX4_numberValues_43 : decode cX4_numberValues 43 = .ok (.iload 5, 2) := by decide +kernel
theorem dX4_numberValues_45 : decode cX4_numberValues 45 = .ok (.iaload, 1) := by decide +kernel
theorem dX4_numberValues_46 : decode cX4_numberValues 46 = .ok (.istore 5, 2) := by decide +kernel
theorem dX4_numberValues_48 : decode cX4_numberValues 48 = .ok (.goto (-25), 3) := by decide +kernel
theorem dX4_numberValues_51 : decode cX4_numberValues 51 = .ok (.aload_n 0, 1) := by decide +kernel
theorem dX4_numberValues_52 : decode cX4_numberValues 52 = .ok (.iload 4, 2) := by decide +kernel
theorem dX4_numberValues_54 : decode cX4_numberValues 54 = .ok (.invokevirtual 208, 3) := by decide +kernel
theorem dX4_numberValues_57 : decode cX4_numberValues 57 = .ok (.istore 5, 2) := by decide +kernel
theorem dX4_numberValues_59 : decode cX4_numberValues 59 = .ok (.iload 5, 2) := by decide +kernel
theorem dX4_numberValues_61 : decode cX4_numberValues 61 = .ok (.aload_n 0, 1) := by decide +kernel
theorem dX4_numberValues_62 : decode cX4_numberValues 62 = .ok (.iload 4, 2) := by decide +kernel
theorem dX4_numberValues_64 : decode cX4_numberValues 64 = .ok (.invokevirtual 211, 3) := by decide +kernel
theorem dX4_numberValues_67 : decode cX4_numberValues 67 = .ok (.if_icmp .ge 33, 3) := by decide +kernel
theorem dX4_numberValues_70 : decode cX4_numberValues 70 = .ok (.aload_n 1, 1) := by decide +kernel
theorem dX4_numberValues_71 : decode cX4_numberValues 71 = .ok (.getfield 139, 3) := by decide +kernel
theorem dX4_numberValues_74 : decode cX4_numberValues 74 = .ok (.iload 5, 2) := by decide +kernel
theorem dX4_numberValues_76 : decode cX4_numberValues 76 = .ok (.iaload, 1) := by decide +kernel
theorem dX4_numberValues_77 : decode cX4_numberValues 77 = .ok (.invokestatic 249, 3) := by decide +kernel
theorem dX4_numberValues_80 : decode cX4_numberValues 80 = .ok (.ifCond .eq 14, 3) := by decide +kernel
theorem dX4_numberValues_83 : decode cX4_numberValues 83 = .ok (.aload_n 0, 1) := by decide +kernel
theorem dX4_numberValues_84 : decode cX4_numberValues 84 = .ok (.getfield 18, 3) := by decide +kernel
theorem dX4_numberValues_87 : decode cX4_numberValues 87 = .ok (.iload 5, 2) := by decide +kernel
theorem dX4_numberValues_89 : decode cX4_numberValues 89 = .ok (.iload_n 3, 1) := by decide +kernel
theorem dX4_numberValues_90 : decode cX4_numberValues 90 = .ok (.iastore, 1) := by decide +kernel
theorem dX4_numberValues_91 : decode cX4_numberValues 91 = .ok (.iinc 3 1, 3) := by decide +kernel
theorem dX4_numberValues_94 : decode cX4_numberValues 94 = .ok (.iinc 5 1, 3) := by decide +kernel
theorem dX4_numberValues_97 : decode cX4_numberValues 97 = .ok (.goto (-38), 3) := by decide +kernel
theorem dX4_numberValues_100 : decode cX4_numberValues 100 = .ok (.iinc 4 1, 3) := by decide +kernel
theorem dX4_numberValues_103 : decode cX4_numberValues 103 = .ok (.goto (-98), 3) := by decide +kernel
theorem dX4_numberValues_106 : decode cX4_numberValues 106 = .ok (.aload_n 2, 1) := by decide +kernel
theorem dX4_numberValues_107 : decode cX4_numberValues 107 = .ok (.iload_n 3, 1) := by decide +kernel
theorem dX4_numberValues_108 : decode cX4_numberValues 108 = .ok (.putfield 252, 3) := by decide +kernel
theorem dX4_numberValues_111 : decode cX4_numberValues 111 = .ok (.iload_n 3, 1) := by decide +kernel
theorem dX4_numberValues_112 : decode cX4_numberValues 112 = .ok (.sipush 250, 3) := by decide +kernel
theorem dX4_numberValues_115 : decode cX4_numberValues 115 = .ok (.if_icmp .gt 7, 3) := by decide +kernel
theorem dX4_numberValues_118 : decode cX4_numberValues 118 = .ok (.iconst 1, 1) := by decide +kernel
theorem dX4_numberValues_119 : decode cX4_numberValues 119 = .ok (.goto 4, 3) := by decide +kernel
theorem dX4_numberValues_122 : decode cX4_numberValues 122 = .ok (.iconst 0, 1) := by decide +kernel
theorem dX4_numberValues_123 : decode cX4_numberValues 123 = .ok (.ireturn, 1) := by decide +kernel
theorem dX4_placePhis_0 : decode cX4_placePhis 0 = .ok (.aload_n 0, 1) := by decide +kernel
theorem dX4_placePhis_1 : decode cX4_placePhis 1 = .ok (.aload_n 1, 1) := by decide +kernel
theorem dX4_placePhis_2 : decode cX4_placePhis 2 = .ok (.iload_n 2, 1) := by decide +kernel
theorem dX4_placePhis_3 : decode cX4_placePhis 3 = .ok (.invokevirtual 230, 3) := by decide +kernel
theorem dX4_placePhis_6 : decode cX4_placePhis 6 = .ok (.lstore_n 3, 1) := by decide +kernel
theorem dX4_placePhis_7 : decode cX4_placePhis 7 = .ok (.lconst 0, 1) := by decide +kernel
theorem dX4_placePhis_8 : decode cX4_placePhis 8 = .ok (.lstore 5, 2) := by decide +kernel
theorem dX4_placePhis_10 : decode cX4_placePhis 10 = .ok (.lload_n 3, 1) := by decide +kernel
theorem dX4_placePhis_11 : decode cX4_placePhis 11 = .ok (.lconst 0, 1) := by decide +kernel
theorem dX4_placePhis_12 : decode cX4_placePhis 12 = .ok (.lcmp, 1) := by decide +kernel
theorem dX4_placePhis_13 : decode cX4_placePhis 13 = .ok (.ifCond .eq 7, 3) := by decide +kernel
theorem dX4_placePhis_16 : decode cX4_placePhis 16 = .ok (.iconst 1, 1) := by decide +kernel
theorem dX4_placePhis_17 : decode cX4_placePhis 17 = .ok (.goto 4, 3) := by decide +kernel
theorem dX4_placePhis_20 : decode cX4_placePhis 20 = .ok (.iconst 0, 1) := by decide +kernel
theorem dX4_placePhis_21 : decode cX4_placePhis 21 = .ok (.istore 7, 2) := by decide +kernel
theorem dX4_placePhis_23 : decode cX4_placePhis 23 = .ok (.iconst 0, 1) := by decide +kernel
theorem dX4_placePhis_24 : decode cX4_placePhis 24 = .ok (.istore 8, 2) := by decide +kernel
theorem dX4_placePhis_26 : decode cX4_placePhis 26 = .ok (.iload 7, 2) := by decide +kernel
theorem dX4_placePhis_28 : decode cX4_placePhis 28 = .ok (.ifCond .eq 84, 3) := by decide +kernel
theorem dX4_placePhis_31 : decode cX4_placePhis 31 = .ok (.iload 8, 2) := by decide +kernel
theorem dX4_placePhis_33 : decode cX4_placePhis 33 = .ok (.bipush 60, 2) := by decide +kernel
theorem dX4_placePhis_35 : decode cX4_placePhis 35 = .ok (.if_icmp .gt 77, 3) := by decide +kernel
theorem dX4_placePhis_38 : decode cX4_placePhis 38 = .ok (.lload 5, 2) := by decide +kernel
theorem dX4_placePhis_40 : decode cX4_placePhis 40 = .ok (.lstore 9, 2) := by decide +kernel
theorem dX4_placePhis_42 : decode cX4_placePhis 42 = .ok (.iconst 0, 1) := by decide +kernel
theorem dX4_placePhis_43 : decode cX4_placePhis 43 = .ok (.istore 11, 2) := by decide +kernel
theorem dX4_placePhis_45 : decode cX4_placePhis 45 = .ok (.iload 11, 2) := by decide +kernel
theorem dX4_placePhis_47 : decode cX4_placePhis 47 = .ok (.aload_n 1, 1) := by decide +kernel
theorem dX4_placePhis_48 : decode cX4_placePhis 48 = .ok (.getfield 87, 3) := by decide +kernel
theorem dX4_placePhis_51 : decode cX4_placePhis 51 = .ok (.if_icmp .ge 40, 3) := by decide +kernel
theorem dX4_placePhis_54 : decode cX4_placePhis 54 = .ok (.aload_n 0, 1) := by decide +kernel
theorem dX4_placePhis_55 : decode cX4_placePhis 55 = .ok (.getfield 55, 3) := by decide +kernel
theorem dX4_placePhis_58 : decode cX4_placePhis 58 = .ok (.iload_n 2, 1) := by decide +kernel
theorem dX4_placePhis_59 : decode cX4_placePhis 59 = .ok (.laload, 1) := by decide +kernel
theorem dX4_placePhis_60 : decode cX4_placePhis 60 = .ok (.lload 5, 2) := by decide +kernel
theorem dX4_placePhis_62 : decode cX4_placePhis 62 = .ok (.lor, 1) := by decide +kernel
theorem dX4_placePhis_63 : decode cX4_placePhis 63 = .ok (.iload 11, 2) := by decide +kernel
theorem dX4_placePhis_65 : decode cX4_placePhis 65 = .ok (.invokestatic 214, 3) := by decide +kernel
theorem dX4_placePhis_68 : decode cX4_placePhis 68 = .ok (.ifCond .eq 17, 3) := by decide +kernel
theorem dX4_placePhis_71 : decode cX4_placePhis 71 = .ok (.lload 5, 2) := by decide +kernel
theorem dX4_placePhis_73 : decode cX4_placePhis 73 = .ok (.aload_n 0, 1) := by decide +kernel
theorem dX4_placePhis_74 : decode cX4_placePhis 74 = .ok (.getfield 58, 3) := by decide +kernel
theorem dX4_placePhis_77 : decode cX4_placePhis 77 = .ok (.iload 11, 2) := by decide +kernel
theorem dX4_placePhis_79 : decode cX4_placePhis 79 = .ok (.laload, 1) := by decide +kernel
theorem dX4_placePhis_80 : decode cX4_placePhis 80 = .ok (.lload_n 3, 1) := by decide +kernel
theorem dX4_placePhis_81 : decode cX4_placePhis 81 = .ok (.land, 1) := by decide +kernel
theorem dX4_placePhis_82 : decode cX4_placePhis 82 = .ok (.lor, 1) := by decide +kernel
theorem dX4_placePhis_83 : decode cX4_placePhis 83 = .ok (.lstore 5, 2) := by decide +kernel
theorem dX4_placePhis_85 : decode cX4_placePhis 85 = .ok (.iinc 11 1, 3) := by decide +kernel
theorem dX4_placePhis_88 : decode cX4_placePhis 88 = .ok (.goto (-43), 3) := by decide +kernel
theorem dX4_placePhis_91 : decode cX4_placePhis 91 = .ok (.lload 5, 2) := by decide +kernel
theorem dX4_placePhis_93 : decode cX4_placePhis 93 = .ok (.lload 9, 2) := by decide +kernel
theorem dX4_placePhis_95 : decode cX4_placePhis 95 = .ok (.lcmp, 1) := by decide +kernel
theorem dX4_placePhis_96 : decode cX4_placePhis 96 = .ok (.ifCond .eq 7, 3) := by decide +kernel
theorem dX4_placePhis_99 : decode cX4_placePhis 99 = .ok (.iconst 1, 1) := by decide +kernel
theorem dX4_placePhis_100 : decode cX4_placePhis 100 = .ok (.goto 4, 3) := by decide +kernel
theorem dX4_placePhis_103 : decode cX4_placePhis 103 = .ok (.iconst 0, 1) := by decide +kernel
theorem dX4_placePhis_104 : decode cX4_placePhis 104 = .ok (.istore 7, 2) := by decide +kernel
theorem dX4_placePhis_106 : decode cX4_placePhis 106 = .ok (.iinc 8 1, 3) := by decide +kernel
theorem dX4_placePhis_109 : decode cX4_placePhis 109 = .ok (.goto (-83), 3) := by decide +kernel
theorem dX4_placePhis_112 : decode cX4_placePhis 112 = .ok (.iconst 0, 1) := by decide +kernel
theorem dX4_placePhis_113 : decode cX4_placePhis 113 = .ok (.istore 8, 2) := by decide +kernel
theorem dX4_placePhis_115 : decode cX4_placePhis 115 = .ok (.iload 8, 2) := by decide +kernel
theorem dX4_placePhis_117 : decode cX4_placePhis 117 = .ok (.aload_n 1, 1) := by decide +kernel
theorem dX4_placePhis_118 : decode cX4_placePhis 118 = .ok (.getfield 87, 3) := by decide +kernel
theorem dX4_placePhis_121 : decode cX4_placePhis 121 = .ok (.if_icmp .ge 44, 3) := by decide +kernel
theorem dX4_placePhis_124 : decode cX4_placePhis 124 = .ok (.lload 5, 2) := by decide +kernel
theorem dX4_placePhis_126 : decode cX4_placePhis 126 = .ok (.iload 8, 2) := by decide +kernel
theorem dX4_placePhis_128 : decode cX4_placePhis 128 = .ok (.invokestatic 214, 3) := by decide +kernel
theorem dX4_placePhis_131 : decode cX4_placePhis 131 = .ok (.ifCond .eq 28, 3) := by decide +kernel
theorem dX4_placePhis_134 : decode cX4_placePhis 134 = .ok (.aload_n 1, 1) := by decide +kernel
theorem dX4_placePhis_135 : decode cX4_placePhis 135 = .ok (.getfield 234, 3) := by decide +kernel
theorem dX4_placePhis_138 : decode cX4_placePhis 138 = .ok (.sipush 250, 3) := by decide +kernel
theorem dX4_placePhis_141 : decode cX4_placePhis 141 = .ok (.if_icmp .lt 5, 3) := by decide +kernel
theorem dX4_placePhis_144 : decode cX4_placePhis 144 = .ok (.iconst 0, 1) := by decide +kernel
theorem dX4_placePhis_145 : decode cX4_placePhis 145 = .ok (.ireturn, 1) := by decide +kernel
theorem dX4_placePhis_146 : decode cX4_placePhis 146 = .ok (.aload_n 0, 1) := by decide +kernel
theorem dX4_placePhis_147 : decode cX4_placePhis 147 = .ok (.getfield 61, 3) := by decide +kernel
theorem dX4_placePhis_150 : decode cX4_placePhis 150 = .ok (.aload_n 1, 1) := by decide +kernel
theorem dX4_placePhis_151 : decode cX4_placePhis 151 = .ok (.iload 8, 2) := by decide +kernel
theorem dX4_placePhis_153 : decode cX4_placePhis 153 = .ok (.iconst (-1), 1) := by decide +kernel
theorem dX4_placePhis_154 : decode cX4_placePhis 154 = .ok (.invokevirtual 237, 3) := by decide +kernel
theorem dX4_placePhis_157 : decode cX4_placePhis 157 = .ok (.iload_n 2, 1) := by decide +kernel
theorem dX4_placePhis_158 : decode cX4_placePhis 158 = .ok (.iastore, 1) := by decide +kernel
theorem dX4_placePhis_159 : decode cX4_placePhis 159 = .ok (.iinc 8 1, 3) := by decide +kernel
theorem dX4_placePhis_162 : decode cX4_placePhis 162 = .ok (.goto (-47), 3) := by decide +kernel
theorem dX4_placePhis_165 : decode cX4_placePhis 165 = .ok (.iconst 1, 1) := by decide +kernel
theorem dX4_placePhis_166 : decode cX4_placePhis 166 = .ok (.ireturn, 1) := by decide +kernel
theorem dX4_wantedAt_0 : decode cX4_wantedAt 0 = .ok (.aload_n 0, 1) := by decide +kernel
theorem dX4_wantedAt_1 : decode cX4_wantedAt 1 = .ok (.getfield 51, 3) := by decide +kernel
theorem dX4_wantedAt_4 : decode cX4_wantedAt 4 = .ok (.iload_n 2, 1) := by decide +kernel
theorem dX4_wantedAt_5 : decode cX4_wantedAt 5 = .ok (.laload, 1) := by decide +kernel
theorem dX4_wantedAt_6 : decode cX4_wantedAt 6 = .ok (.lstore_n 3, 1) := by decide +kernel
theorem dX4_wantedAt_7 : decode cX4_wantedAt 7 = .ok (.lload_n 3, 1) := by decide +kernel
theorem dX4_wantedAt_8 : decode cX4_wantedAt 8 = .ok (.lconst 0, 1) := by decide +kernel
theorem dX4_wantedAt_9 : decode cX4_wantedAt 9 = .ok (.lcmp, 1) := by decide +kernel
theorem dX4_wantedAt_10 : decode cX4_wantedAt 10 = .ok (.ifCond .eq 7, 3) := by decide +kernel
theorem dX4_wantedAt_13 : decode cX4_wantedAt 13 = .ok (.iconst 1, 1) := by decide +kernel
theorem dX4_wantedAt_14 : decode cX4_wantedAt 14 = .ok (.goto 4, 3) := by decide +kernel
theorem dX4_wantedAt_17 : decode cX4_wantedAt 17 = .ok (.iconst 0, 1) := by decide +kernel
theorem dX4_wantedAt_18 : decode cX4_wantedAt 18 = .ok (.istore 5, 2) := by decide +kernel
theorem dX4_wantedAt_20 : decode cX4_wantedAt 20 = .ok (.iconst 0, 1) := by decide +kernel
theorem dX4_wantedAt_21 : decode cX4_wantedAt 21 = .ok (.istore 6, 2) := by decide +kernel
theorem dX4_wantedAt_23 : decode cX4_wantedAt 23 = .ok (.iload 5, 2) := by decide +kernel
theorem dX4_wantedAt_25 : decode cX4_wantedAt 25 = .ok (.ifCond .eq 113, 3) := by decide +kernel
theorem dX4_wantedAt_28 : decode cX4_wantedAt 28 = .ok (.iload 6, 2) := by decide +kernel
theorem dX4_wantedAt_30 : decode cX4_wantedAt 30 = .ok (.bipush 60, 2) := by decide +kernel
theorem dX4_wantedAt_32 : decode cX4_wantedAt 32 = .ok (.if_icmp .gt 106, 3) := by decide +kernel
theorem dX4_wantedAt_35 : decode cX4_wantedAt 35 = .ok (.lload_n 3, 1) := by decide +kernel
theorem dX4_wantedAt_36 : decode cX4_wantedAt 36 = .ok (.lstore 7, 2) := by decide +kernel
theorem dX4_wantedAt_38 : decode cX4_wantedAt 38 = .ok (.aload_n 1, 1) := by decide +kernel
theorem dX4_wantedAt_39 : decode cX4_wantedAt 39 = .ok (.getfield 87, 3) := by decide +kernel
theorem dX4_wantedAt_42 : decode cX4_wantedAt 42 = .ok (.iconst 1, 1) := by decide +kernel
theorem dX4_wantedAt_43 : decode cX4_wantedAt 43 = .ok (.isub, 1) := by decide +kernel
theorem dX4_wantedAt_44 : decode cX4_wantedAt 44 = .ok (.istore 9, 2) := by decide +kernel
theorem dX4_wantedAt_46 : decode cX4_wantedAt 46 = .ok (.iload 9, 2) := by decide +kernel
theorem dX4_wantedAt_48 : decode cX4_wantedAt 48 = .ok (.ifCond .lt 70, 3) := by decide +kernel
theorem dX4_wantedAt_51 : decode cX4_wantedAt 51 = .ok (.lload_n 3, 1) := by decide +kernel
theorem dX4_wantedAt_52 : decode cX4_wantedAt 52 = .ok (.aload_n 1, 1) := by decide +kernel
theorem dX4_wantedAt_53 : decode cX4_wantedAt 53 = .ok (.getfield 186, 3) := by decide +kernel
theorem dX4_wantedAt_56 : decode cX4_wantedAt 56 = .ok (.iload 9, 2) := by decide +kernel
theorem dX4_wantedAt_58 : decode cX4_wantedAt 58 = .ok (.iaload, 1) := by decide +kernel
theorem dX4_wantedAt_59 : decode cX4_wantedAt 59 = .ok (.invokestatic 227, 3) := by decide +kernel
theorem dX4_wantedAt_62 : decode cX4_wantedAt 62 = .ok (.ifCond .ne 17, 3) := by decide +kernel
theorem dX4_wantedAt_65 : decode cX4_wantedAt 65 = .ok (.lload_n 3, 1) := by decide +kernel
theorem dX4_wantedAt_66 : decode cX4_wantedAt 66 = .ok (.aload_n 1, 1) := by decide +kernel
theorem dX4_wantedAt_67 : decode cX4_wantedAt 67 = .ok (.getfield 193, 3) := by decide +kernel
theorem dX4_wantedAt_70 : decode cX4_wantedAt 70 = .ok (.iload 9, 2) := by decide +kernel
theorem dX4_wantedAt_72 : decode cX4_wantedAt 72 = .ok (.iaload, 1) := by decide +kernel
theorem dX4_wantedAt_73 : decode cX4_wantedAt 73 = .ok (.invokestatic 227, 3) := by decide +kernel
theorem dX4_wantedAt_76 : decode cX4_wantedAt 76 = .ok (.ifCond .eq 7, 3) := by decide +kernel
theorem dX4_wantedAt_79 : decode cX4_wantedAt 79 = .ok (.iconst 1, 1) := by decide +kernel
theorem dX4_wantedAt_80 : decode cX4_wantedAt 80 = .ok (.goto 4, 3) := by decide +kernel
theorem dX4_wantedAt_83 : decode cX4_wantedAt 83 = .ok (.iconst 0, 1) := by decide +kernel
theorem dX4_wantedAt_84 : decode cX4_wantedAt 84 = .ok (.istore 10, 2) := by decide +kernel
theorem dX4_wantedAt_86 : decode cX4_wantedAt 86 = .ok (.iload 10, 2) := by decide +kernel
theorem dX4_wantedAt_88 : decode cX4_wantedAt 88 = .ok (.ifCond .eq 24, 3) := by decide +kernel
theorem dX4_wantedAt_91 : decode cX4_wantedAt 91 = .ok (.aload_n 0, 1) := by decide +kernel
theorem dX4_wantedAt_92 : decode cX4_wantedAt 92 = .ok (.getfield 55, 3) := by decide +kernel
theorem dX4_wantedAt_95 : decode cX4_wantedAt 95 = .ok (.iload_n 2, 1) := by decide +kernel
theorem dX4_wantedAt_96 : decode cX4_wantedAt 96 = .ok (.laload, 1) := by decide +kernel
theorem dX4_wantedAt_97 : decode cX4_wantedAt 97 = .ok (.iload 9, 2) := by decide +kernel
theorem dX4_wantedAt_99 : decode cX4_wantedAt 99 = .ok (.invokestatic 214, 3) := by decide +kernel
theorem dX4_wantedAt_102 : decode cX4_wantedAt 102 = .ok (.ifCond .ne 10, 3) := by decide +kernel
theorem dX4_wantedAt_105 : decode cX4_wantedAt 105 = .ok (.lload_n 3, 1) := by decide +kernel
theorem dX4_wantedAt_106 : decode cX4_wantedAt 106 = .ok (.lconst 1, 1) := by decide +kernel
theorem dX4_wantedAt_107 : decode cX4_wantedAt 107 = .ok (.iload 9, 2) := by decide +kernel
theorem dX4_wantedAt_109 : decode cX4_wantedAt 109 = .ok (.lshl, 1) := by decide +kernel
theorem dX4_wantedAt_110 : decode cX4_wantedAt 110 = .ok (.lor, 1) := by decide +kernel
theorem dX4_wantedAt_111 : decode cX4_wantedAt 111 = .ok (.lstore_n 3, 1) := by decide +kernel
theorem dX4_wantedAt_112 : decode cX4_wantedAt 112 = .ok (.iinc 9 (-1), 3) := by decide +kernel
theorem dX4_wantedAt_115 : decode cX4_wantedAt 115 = .ok (.goto (-69), 3) := by decide +kernel
theorem dX4_wantedAt_118 : decode cX4_wantedAt 118 = .ok (.lload_n 3, 1) := by decide +kernel
theorem dX4_wantedAt_119 : decode cX4_wantedAt 119 = .ok (.lload 7, 2) := by decide +kernel
theorem dX4_wantedAt_121 : decode cX4_wantedAt 121 = .ok (.lcmp, 1) := by decide +kernel
theorem dX4_wantedAt_122 : decode cX4_wantedAt 122 = .ok (.ifCond .eq 7, 3) := by decide +kernel
theorem dX4_wantedAt_125 : decode cX4_wantedAt 125 = .ok (.iconst 1, 1) := by decide +kernel
theorem dX4_wantedAt_126 : decode cX4_wantedAt 126 = .ok (.goto 4, 3) := by decide +kernel
theorem dX4_wantedAt_129 : decode cX4_wantedAt 129 = .ok (.iconst 0, 1) := by decide +kernel
theorem dX4_wantedAt_130 : decode cX4_wantedAt 130 = .ok (.istore 5, 2) := by decide +kernel
theorem dX4_wantedAt_132 : decode cX4_wantedAt 132 = .ok (.iinc 6 1, 3) := by decide +kernel
theorem dX4_wantedAt_135 : decode cX4_wantedAt 135 = .ok (.goto (-112), 3) := by decide +kernel
theorem dX4_wantedAt_138 : decode cX4_wantedAt 138 = .ok (.lload_n 3, 1) := by decide +kernel
theorem dX4_wantedAt_139 : decode cX4_wantedAt 139 = .ok (.lreturn, 1) := by decide +kernel
theorem qw365 : Cond.methodLink RX4 71 yX1_clear ∈ gw := mq_5 (i := 181) rfl rfl
theorem qw366 : Cond.code yX4_cutPieces cX4_cutPieces 7 (Option.none : Option Jvm.ClassFile.FieldType) ∈ gw := mq_5 (i := 188) rfl rfl
theorem qw367 : Cond.methodLink RX4 76 yX4_cutPieces ∈ gw := mq_5 (i := 185) rfl rfl
theorem qw368 : Cond.instanceMethod yX4_cutPieces ∈ gw := mq_5 (i := 187) rfl rfl
theorem qw369 : Cond.selects RX4 yX4_cutPieces yX4_cutPieces ∈ gw := mk_s (i := 19) rfl rfl
theorem qw370 : Cond.code yX4_linkOperands cX4_linkOperands 6 (Option.none : Option Jvm.ClassFile.FieldType) ∈ gw := mq_5 (i := 200) rfl rfl
theorem qw371 : Cond.methodLink RX4 80 yX4_linkOperands ∈ gw := mq_5 (i := 197) rfl rfl
theorem qw372 : Cond.instanceMethod yX4_linkOperands ∈ gw := mq_5 (i := 199) rfl rfl
theorem qw373 : Cond.selects RX4 yX4_linkOperands yX4_linkOperands ∈ gw := mk_s (i := 20) rfl rfl
theorem qw374 : Cond.code yX4_layBlocks cX4_layBlocks 7 (Option.some Jvm.ClassFile.FieldType.boolean) ∈ gw := mq_5 (i := 219) rfl rfl
theorem qw375 : Cond.methodLink RX4 83 yX4_layBlocks ∈ gw := mq_5 (i := 216) rfl rfl
theorem qw376 : Cond.instanceMethod yX4_layBlocks ∈ gw := mq_5 (i := 218) rfl rfl
theorem qw377 : Cond.selects RX4 yX4_layBlocks yX4_layBlocks ∈ gw := mk_s (i := 21) rfl rfl
theorem qw378 : Cond.fieldLink RX4 67 "Gearbox$Maker" "shape" "LGearbox$Shape;" ∈ gw := mq_2 (i := 143) rfl rfl
theorem qw379 : Cond.code yX8_renumber cX8_renumber 5 (Option.none : Option Jvm.ClassFile.FieldType) ∈ gw := mq_6 (i := 6) rfl rfl
theorem qw380 : Cond.methodLink RX4 91 yX8_renumber ∈ gw := mq_6 (i := 3) rfl rfl
theorem qw381 : Cond.instanceMethod yX8_renumber ∈ gw := mq_6 (i := 4) rfl rfl
theorem qw382 : Cond.selects RX8 yX8_renumber yX8_renumber ∈ gw := mq_6 (i := 5) rfl rfl
theorem qw383 : Cond.methodLink RX4 97 yX8_move ∈ gw := mq_6 (i := 59) rfl rfl
theorem qw384 : Cond.fieldLink RX4 51 "Gearbox$Maker" "uses" "[J" ∈ gw := mq_2 (i := 158) rfl rfl
theorem qw385 : Cond.fieldLink RX4 55 "Gearbox$Maker" "assigns" "[J" ∈ gw := mq_2 (i := 159) rfl rfl
theorem qw386 : Cond.code yX4_noteVariables cX4_noteVariables 8 (Option.none : Option Jvm.ClassFile.FieldType) ∈ gw := mq_6 (i := 63) rfl rfl
theorem qw387 : Cond.methodLink RX4 101 yX4_noteVariables ∈ gw := mq_6 (i := 60) rfl rfl
theorem qw388 : Cond.instanceMethod yX4_noteVariables ∈ gw := mq_6 (i := 62) rfl rfl
theorem qw389 : Cond.selects RX4 yX4_noteVariables yX4_noteVariables ∈ gw := mk_s (i := 22) rfl rfl
theorem qw390 : Cond.code yX4_findBorders cX4_findBorders 7 (Option.none : Option Jvm.ClassFile.FieldType) ∈ gw := mq_6 (i := 79) rfl rfl
theorem qw391 : Cond.methodLink RX4 105 yX4_findBorders ∈ gw := mq_6 (i := 76) rfl rfl
theorem qw392 : Cond.instanceMethod yX4_findBorders ∈ gw := mq_6 (i := 78) rfl rfl
theorem qw393 : Cond.selects RX4 yX4_findBorders yX4_findBorders ∈ gw := mk_s (i := 23) rfl rfl
theorem qw394 : Cond.code yX4_isIn cX4_isIn 3 (Option.some Jvm.ClassFile.FieldType.boolean) ∈ gw := mq_6 (i := 92) rfl rfl
theorem qw395 : Cond.methodLink RX4 227 yX4_isIn ∈ gw := mq_6 (i := 90) rfl rfl
theorem qw396 : Cond.static yX4_isIn ∈ gw := mq_6 (i := 91) rfl rfl
theorem qw397 : Cond.code yX4_wantedAt cX4_wantedAt 11 (Option.some Jvm.ClassFile.FieldType.long) ∈ gw := mq_6 (i := 89) rfl rfl
theorem qw398 : Cond.methodLink RX4 230 yX4_wantedAt ∈ gw := mq_6 (i := 86) rfl rfl
theorem qw399 : Cond.instanceMethod yX4_wantedAt ∈ gw := mq_6 (i := 88) rfl rfl
theorem qw400 : Cond.selects RX4 yX4_wantedAt yX4_wantedAt ∈ gw := mk_s (i := 24) rfl rfl
theorem qw401 : Cond.fieldLink RX4 234 "Gearbox$Flow" "phiCount" "I" ∈ gw := mq_2 (i := 56) rfl rfl
theorem qw402 : Cond.methodLink RX4 237 yX1_addPhi ∈ gw := mq_6 (i := 93) rfl rfl
theorem qw403 : Cond.code yX4_placePhis cX4_placePhis 12 (Option.some Jvm.ClassFile.FieldType.boolean) ∈ gw := mq_6 (i := 85) rfl rfl
theorem qw404 : Cond.methodLink RX4 113 yX4_placePhis ∈ gw := mq_6 (i := 82) rfl rfl
theorem qw405 : Cond.instanceMethod yX4_placePhis ∈ gw := mq_6 (i := 84) rfl rfl
theorem qw406 : Cond.selects RX4 yX4_placePhis yX4_placePhis ∈ gw := mk_s (i := 25) rfl rfl
theorem qw407 : Cond.fieldLink RX4 252 "Gearbox$Flow" "limit" "I" ∈ gw := mq_1 (i := 219) rfl rfl
theorem qw408 : Cond.code yX4_numberValues cX4_numberValues 6 (Option.some Jvm.ClassFile.FieldType.boolean) ∈ gw := mq_6 (i := 119) rfl rfl
theorem qw409 : Cond.methodLink RX4 117 yX4_numberValues ∈ gw := mq_6 (i := 116) rfl rfl
theorem qw410 : Cond.instanceMethod yX4_numberValues ∈ gw := mq_6 (i := 118) rfl rfl
theorem qw411 : Cond.selects RX4 yX4_numberValues yX4_numberValues ∈ gw := mk_s (i := 26) rfl rfl
theorem qw412 : Cond.code yX4_fillBlock cX4_fillBlock 8 (Option.none : Option Jvm.ClassFile.FieldType) ∈ gw := mq_6 (i := 126) rfl rfl
theorem qw413 : Cond.methodLink RX4 120 yX4_fillBlock ∈ gw := mq_6 (i := 123) rfl rfl
theorem qw414 : Cond.instanceMethod yX4_fillBlock ∈ gw := mq_6 (i := 125) rfl rfl
theorem qw415 : Cond.selects RX4 yX4_fillBlock yX4_fillBlock ∈ gw := mk_s (i := 27) rfl rfl
theorem qw416 : Cond.code yX4_fillPhis cX4_fillPhis 6 (Option.none : Option Jvm.ClassFile.FieldType) ∈ gw := mq_7 (i := 118) rfl rfl
theorem qw417 : Cond.methodLink RX4 124 yX4_fillPhis ∈ gw := mq_7 (i := 115) rfl rfl
theorem qw418 : Cond.instanceMethod yX4_fillPhis ∈ gw := mq_7 (i := 117) rfl rfl
theorem qw419 : Cond.selects RX4 yX4_fillPhis yX4_fillPhis ∈ gw := mk_s (i := 28) rfl rfl
def fX4_noteVariables_J139 (kk36 : Int32 → SL → Option SL) (v5_36 : Int32) (p0l_139 : SL) : Option SL := (kk36 (v5_36 + 1) p0l_139)
def fX4_noteVariables_J125 (kk36 : Int32 → SL → Option SL) (p1w : ST) (v4_19 : Int32) (v5_36 : Int32) (p0l_36 : SL) : Option SL := (if ixb (p1w 10 (nn v5_36)) 320 = true then (if ixb (p1w 10 (nn v5_36)) 320 = true then (lt9 (upl p0l_36 17 (nn (p1w 10 (nn v5_36))) ((p0l_36 17 (nn (p1w 10 (nn v5_36)))) ||| (((1 : Int64) <<< ((v4_19 : Int32).toInt64 &&& 63))))) fun (l13 : SL) => (fX4_noteVariables_J139 kk36 v5_36 l13)) else none) else none)
def fX4_noteVariables_J104 (kk36 : Int32 → SL → Option SL) (p1w : ST) (v4_19 : Int32) (v5_36 : Int32) (p0l_36 : SL) : Option SL := (if (p1w 9 (nn v5_36)) = 31 then (fX4_noteVariables_J125 kk36 p1w v4_19 v5_36 p0l_36) else (if (p1w 9 (nn v5_36)) = 32 then (fX4_noteVariables_J125 kk36 p1w v4_19 v5_36 p0l_36) else (if (p1w 9 (nn v5_36)) = 21 then (fX4_noteVariables_J125 kk36 p1w v4_19 v5_36 p0l_36) else (fX4_noteVariables_J139 kk36 v5_36 p0l_36))))
def fX4_noteVariables_L36 (p0w : ST) (p1w : ST) (v4_19 : Int32) : Nat → Int32 → SL → Option SL
  | 0 => fun _ _ => none
  | n_36 + 1 => fun v5_36 p0l_36 => ((fX4_opsTo p0w v4_19).bind fun (o_6 : Int32) => (if o_6 ≤ v5_36 then some p0l_36 else (if ixb v5_36 3200 = true then (if ixb v5_36 3200 = true then (if (p1w 9 (nn v5_36)) = 30 then (if ixb (p1w 10 (nn v5_36)) 320 = true then ((fX11_holds (p0l_36 17 (nn (p1w 10 (nn v5_36)))) v4_19).bind fun (o_19 : Int32) => (if o_19 = 0 then (if ixb (p1w 10 (nn v5_36)) 320 = true then (if ixb (p1w 10 (nn v5_36)) 320 = true then (lt9 (upl p0l_36 16 (nn (p1w 10 (nn v5_36))) ((p0l_36 16 (nn (p1w 10 (nn v5_36)))) ||| (((1 : Int64) <<< ((v4_19 : Int32).toInt64 &&& 63))))) fun (l24 : SL) => (fX4_noteVariables_J139 (fX4_noteVariables_L36 p0w p1w v4_19 n_36) v5_36 l24)) else none) else none) else (fX4_noteVariables_J104 (fX4_noteVariables_L36 p0w p1w v4_19 n_36) p1w v4_19 v5_36 p0l_36))) else none) else (fX4_noteVariables_J104 (fX4_noteVariables_L36 p0w p1w v4_19 n_36) p1w v4_19 v5_36 p0l_36)) else none) else none)))
def fX4_noteVariables_L19 (p0w : ST) (p1w : ST) (p3w : ST) : Nat → Int32 → SL → Option SL
  | 0 => fun _ _ => none
  | n_19 + 1 => fun v4_19 p0l_19 => (if (p3w 0 0) ≤ v4_19 then some p0l_19 else ((fX4_opsFrom p0w v4_19).bind fun (o_4 : Int32) => ((fX4_noteVariables_L36 p0w p1w v4_19 NF o_4 p0l_19).bind fun (o36 : SL) => ((fX4_noteVariables_L19 p0w p1w p3w n_19) (v4_19 + 1) o36))))
def fX4_noteVariables (p0w : ST) (p0l : SL) (p1w : ST) (p3w : ST) : Option SL := ((fJ7_fill_d0a16 320 (p0l 16) 0).bind fun (o_1 : RL) => ((fJ7_fill_d0a16 320 ((srl p0l 16 o_1) 17) 0).bind fun (o_2 : RL) => ((fX4_noteVariables_L19 p0w p1w p3w NF 0 (srl (srl p0l 16 o_1) 17 o_2)).bind fun (o19 : SL) => some o19)))
set_option maxHeartbeats 16000000 in
set_option maxRecDepth 100000 in
theorem kX4_noteVariables {zs : ZS} (l : Launch) (dC : Nat → ClassId) (dI : Nat → Nat → Nat) (p0a : Nat → Nat) (p0k : Nat → ClassId) (p0w : ST) (p0l : SL) (p1a : Nat → Nat) (p1k : Nat → ClassId) (p1w : ST) (p1l : SL) (p2 : Int32) (p3a : Nat → Nat) (p3k : Nat → ClassId) (p3n : Nat → Nat) (p3w : ST) (p3l : SL) (sz : Nat) (o : SL) (hrun : fX4_noteVariables p0w p0l p1w p3w = some o) : Met l yX4_noteVariables (wz yX4_noteVariables cX4_noteVariables 8 (Option.none : Option Jvm.ClassFile.FieldType)) ({ frames := 1, cells := 0, slots := 0, locals := 24 } : Room) (va_Pc [.ref (p0a 0), .ref (p1a 0), .int p2, .ref (p3a 0)] (PRE zs dC dI (List.flatten ([(oX4 (p0a 0) p0a p0k p0w p0l), (oX6 (p1a 0) p1a p1k p1w p1l), (oX1 (p3a 0) p3a p3k p3n p3w p3l)] : List va_W)) (List.flatten ([(tX4 p0k), (tX6 p1k), (tX1 p3k)] : List (List (ClassId × FieldType)))) sz)) (va_Qv (fun (_ : Unit) => True) (fun _ t => POST dC dI (List.flatten ([(oX4 (p0a 0) p0a p0k p0w o), (oX6 (p1a 0) p1a p1k p1w p1l), (oX1 (p3a 0) p3a p3k p3n p3w p3l)] : List va_W)) (List.flatten ([(tX4 p0k), (tX6 p1k), (tX1 p3k)] : List (List (ClassId × FieldType)))) (va_A (List.flatten ([(oX4 (p0a 0) p0a p0k p0w p0l), (oX6 (p1a 0) p1a p1k p1w p1l), (oX1 (p3a 0) p3a p3k p3n p3w p3l)] : List va_W)) sz) t) (va_A (List.flatten ([(oX4 (p0a 0) p0a p0k p0w p0l), (oX6 (p1a 0) p1a p1k p1w p1l), (oX1 (p3a 0) p3a p3k p3n p3w p3l)] : List va_W)) sz)) 0 0 (va_A (List.flatten ([(oX4 (p0a 0) p0a p0k p0w p0l), (oX6 (p1a 0) p1a p1k p1w p1l), (oX1 (p3a 0) p3a p3k p3n p3w p3l)] : List va_W)) sz) := by
  refine Met.ofW (cc := cX4_noteVariables) (maxL := 8) (ret := (Option.none : Option Jvm.ClassFile.FieldType)) (by decide) rfl ?_
  intro p e s m args below meth c s₁ B hml hv
  obtain ⟨rfl, hsz, hP, hK, hD0, hE⟩ := hv
  have hx := B.exec
  have hb := B.bytes
  have hr := B.returns
  have hts0 := atoms_spec (ws := wz yX4_noteVariables cX4_noteVariables 8 (Option.none : Option Jvm.ClassFile.FieldType)) B.pre
  have hts : ∀ w ∈ gw, w.before _ s = true := fun w h => hts0 w (List.mem_cons_of_mem _ h)
  have hown : s.vm.findClass RX4 = some m.cls := findClass_of_methodNamed B.named
  have hlocks := B.notSynchronized
  subst hsz
  have hD := hD0.self (sz := s.heap.size)
  refine gQ9 ?_
  intro Q hQ
  generalize hAe : va_A (List.flatten ([(oX4 (p0a 0) p0a p0k p0w p0l), (oX6 (p1a 0) p1a p1k p1w p1l), (oX1 (p3a 0) p3a p3k p3n p3w p3l)] : List va_W)) s.heap.size = A at hD hE hQ
  have hA : ∀ q : Nat, s.heap.size ≤ q → A q := fun q h => by rw [← hAe]; exact Or.inr h
  have hS : va_S A s.heap s.heap [] := va_S.rf
  have hP : va_P (dC, dI) cls (List.flatten ([(oX4 (p0a 0) p0a p0k p0w p0l), (oX6 (p1a 0) p1a p1k p1w p1l), (oX1 (p3a 0) p3a p3k p3n p3w p3l)] : List va_W)) s.heap := hP
  have hl := lv_entry ([.ref (p0a 0), .ref (p1a 0), .int p2, .ref (p3a 0)]) (n := 8) (Nat.le_of_ble_eq_true rfl)
  rw [lg_entry_eq]
  generalize (lg_sl ([.ref (p0a 0), .ref (p1a 0), .int p2, .ref (p3a 0)]) ++ List.replicate (8 - (lg_sl ([.ref (p0a 0), .ref (p1a 0), .int p2, .ref (p3a 0)])).length) Slot.unset).toArray = ls at hl ⊢
  have hl : lv_has ls 8 [(0, .ref (p0a 0)), (1, .ref (p1a 0)), (2, .int p2), (3, .ref (p3a 0))] := hl
  obtain ⟨H, hHe⟩ : ∃ H, H = s.heap := ⟨_, rfl⟩
  obtain ⟨locs, hle⟩ : ∃ locs : List Loc, locs = [] := ⟨_, rfl⟩
  rw [← hHe] at hP
  have hS : va_S A s.heap H locs := by rw [hHe, hle]; exact hS
  show W p l e ({ frames := 1, cells := 0, slots := 0, locals := 24 } : Room) s m ([.ref (p0a 0), .ref (p1a 0), .int p2, .ref (p3a 0)] : List Value).toArray below meth c s.heap [] 0 0 Q (F0 m 0 ls [])
  rw [← hle]
  refine wH9 hHe ?_
  unfold fX4_noteVariables at hrun
  refine lv_aload_n hx hb dX4_noteVariables_0 rfl (lv_at hl 0 rfl) ?_
  refine va_get (D := (dC, dI)) (ci := 6) (v := .ref (p0a 16)) (C := RX4) (T := TX4) (N := 20) hx hb hts i_X4 hown hK hP 0 rfl rfl 15 (by decide) (hts _ qw384) (fun _ h9 => h9) rfl dX4_noteVariables_1 ?_
  refine lv_lconst (v := 0) hx hb dX4_noteVariables_4 (by decide) ?_
  obtain ⟨o_1, hc_1, hrun⟩ := bnd9 hrun
  have hP2 : va_P (dC, dI) cls (List.flatten ([[((p0a 16), .inl ((p0k 16), 320, .inr (.inl (p0l 16))))], [((p0a 0), .inr (6, [.ref (p0a 1), .ref (p0a 2), .ref (p0a 3), .ref (p0a 4), .ref (p0a 5), .int (p0w 0 5), .ref (p0a 7), .ref (p0a 8), .ref (p0a 9), .ref (p0a 10), .ref (p0a 11), .ref (p0a 12), .ref (p0a 13), .ref (p0a 14), .ref (p0a 15), .ref (p0a 16), .ref (p0a 17), .ref (p0a 18), .ref (p0a 19), .ref (p0a 20)])), ((p0a 2), .inl ((p0k 2), 3200, .inl (p0w 2))), ((p0a 3), .inl ((p0k 3), 3200, .inl (p0w 3))), ((p0a 4), .inl ((p0k 4), 3200, .inl (p0w 4))), ((p0a 5), .inl ((p0k 5), 512, .inl (p0w 5))), ((p0a 7), .inl ((p0k 7), 640, .inl (p0w 7))), ((p0a 8), .inl ((p0k 8), 640, .inl (p0w 8))), ((p0a 9), .inl ((p0k 9), 640, .inl (p0w 9))), ((p0a 10), .inl ((p0k 10), 640, .inl (p0w 10))), ((p0a 11), .inl ((p0k 11), 640, .inl (p0w 11))), ((p0a 12), .inl ((p0k 12), 640, .inl (p0w 12))), ((p0a 13), .inl ((p0k 13), 640, .inl (p0w 13))), ((p0a 14), .inl ((p0k 14), 640, .inl (p0w 14))), ((p0a 15), .inl ((p0k 15), 60, .inl (p0w 15))), ((p0a 17), .inl ((p0k 17), 320, .inr (.inl (p0l 17)))), ((p0a 18), .inl ((p0k 18), 60, .inr (.inl (p0l 18)))), ((p0a 19), .inl ((p0k 19), 250, .inl (p0w 19))), ((p0a 20), .inl ((p0k 20), 19200, .inl (p0w 20)))], (oX6 (p1a 0) p1a p1k p1w p1l), (oX1 (p3a 0) p3a p3k p3n p3w p3l)] : List va_W)) H := vP_perm hP ((bP (List.Perm.refl _)).trans (List.Perm.append_right _ (List.perm_middle (a := (((p0a 16), .inl ((p0k 16), 320, .inr (.inl (p0l 16)))) : Nat × va_E)) (l₁ := ([((p0a 0), .inr (6, [.ref (p0a 1), .ref (p0a 2), .ref (p0a 3), .ref (p0a 4), .ref (p0a 5), .int (p0w 0 5), .ref (p0a 7), .ref (p0a 8), .ref (p0a 9), .ref (p0a 10), .ref (p0a 11), .ref (p0a 12), .ref (p0a 13), .ref (p0a 14), .ref (p0a 15), .ref (p0a 16), .ref (p0a 17), .ref (p0a 18), .ref (p0a 19), .ref (p0a 20)])), ((p0a 2), .inl ((p0k 2), 3200, .inl (p0w 2))), ((p0a 3), .inl ((p0k 3), 3200, .inl (p0w 3))), ((p0a 4), .inl ((p0k 4), 3200, .inl (p0w 4))), ((p0a 5), .inl ((p0k 5), 512, .inl (p0w 5))), ((p0a 7), .inl ((p0k 7), 640, .inl (p0w 7))), ((p0a 8), .inl ((p0k 8), 640, .inl (p0w 8))), ((p0a 9), .inl ((p0k 9), 640, .inl (p0w 9))), ((p0a 10), .inl ((p0k 10), 640, .inl (p0w 10))), ((p0a 11), .inl ((p0k 11), 640, .inl (p0w 11))), ((p0a 12), .inl ((p0k 12), 640, .inl (p0w 12))), ((p0a 13), .inl ((p0k 13), 640, .inl (p0w 13))), ((p0a 14), .inl ((p0k 14), 640, .inl (p0w 14))), ((p0a 15), .inl ((p0k 15), 60, .inl (p0w 15)))] : va_W)) (l₂ := ([((p0a 17), .inl ((p0k 17), 320, .inr (.inl (p0l 17)))), ((p0a 18), .inl ((p0k 18), 60, .inr (.inl (p0l 18)))), ((p0a 19), .inl ((p0k 19), 250, .inl (p0w 19))), ((p0a 20), .inl ((p0k 20), 19200, .inl (p0w 20)))] : va_W)))))
  have hD2 : va_D A (List.flatten ([[((p0a 16), .inl ((p0k 16), 320, .inr (.inl (p0l 16))))], [((p0a 0), .inr (6, [.ref (p0a 1), .ref (p0a 2), .ref (p0a 3), .ref (p0a 4), .ref (p0a 5), .int (p0w 0 5), .ref (p0a 7), .ref (p0a 8), .ref (p0a 9), .ref (p0a 10), .ref (p0a 11), .ref (p0a 12), .ref (p0a 13), .ref (p0a 14), .ref (p0a 15), .ref (p0a 16), .ref (p0a 17), .ref (p0a 18), .ref (p0a 19), .ref (p0a 20)])), ((p0a 2), .inl ((p0k 2), 3200, .inl (p0w 2))), ((p0a 3), .inl ((p0k 3), 3200, .inl (p0w 3))), ((p0a 4), .inl ((p0k 4), 3200, .inl (p0w 4))), ((p0a 5), .inl ((p0k 5), 512, .inl (p0w 5))), ((p0a 7), .inl ((p0k 7), 640, .inl (p0w 7))), ((p0a 8), .inl ((p0k 8), 640, .inl (p0w 8))), ((p0a 9), .inl ((p0k 9), 640, .inl (p0w 9))), ((p0a 10), .inl ((p0k 10), 640, .inl (p0w 10))), ((p0a 11), .inl ((p0k 11), 640, .inl (p0w 11))), ((p0a 12), .inl ((p0k 12), 640, .inl (p0w 12))), ((p0a 13), .inl ((p0k 13), 640, .inl (p0w 13))), ((p0a 14), .inl ((p0k 14), 640, .inl (p0w 14))), ((p0a 15), .inl ((p0k 15), 60, .inl (p0w 15))), ((p0a 17), .inl ((p0k 17), 320, .inr (.inl (p0l 17)))), ((p0a 18), .inl ((p0k 18), 60, .inr (.inl (p0l 18)))), ((p0a 19), .inl ((p0k 19), 250, .inl (p0w 19))), ((p0a 20), .inl ((p0k 20), 19200, .inl (p0w 20)))], (oX6 (p1a 0) p1a p1k p1w p1l), (oX1 (p3a 0) p3a p3k p3n p3w p3l)] : List va_W)) := vD_perm hD ((bP (List.Perm.refl _)).trans (List.Perm.append_right _ (List.perm_middle (a := (((p0a 16), .inl ((p0k 16), 320, .inr (.inl (p0l 16)))) : Nat × va_E)) (l₁ := ([((p0a 0), .inr (6, [.ref (p0a 1), .ref (p0a 2), .ref (p0a 3), .ref (p0a 4), .ref (p0a 5), .int (p0w 0 5), .ref (p0a 7), .ref (p0a 8), .ref (p0a 9), .ref (p0a 10), .ref (p0a 11), .ref (p0a 12), .ref (p0a 13), .ref (p0a 14), .ref (p0a 15), .ref (p0a 16), .ref (p0a 17), .ref (p0a 18), .ref (p0a 19), .ref (p0a 20)])), ((p0a 2), .inl ((p0k 2), 3200, .inl (p0w 2))), ((p0a 3), .inl ((p0k 3), 3200, .inl (p0w 3))), ((p0a 4), .inl ((p0k 4), 3200, .inl (p0w 4))), ((p0a 5), .inl ((p0k 5), 512, .inl (p0w 5))), ((p0a 7), .inl ((p0k 7), 640, .inl (p0w 7))), ((p0a 8), .inl ((p0k 8), 640, .inl (p0w 8))), ((p0a 9), .inl ((p0k 9), 640, .inl (p0w 9))), ((p0a 10), .inl ((p0k 10), 640, .inl (p0w 10))), ((p0a 11), .inl ((p0k 11), 640, .inl (p0w 11))), ((p0a 12), .inl ((p0k 12), 640, .inl (p0w 12))), ((p0a 13), .inl ((p0k 13), 640, .inl (p0w 13))), ((p0a 14), .inl ((p0k 14), 640, .inl (p0w 14))), ((p0a 15), .inl ((p0k 15), 60, .inl (p0w 15)))] : va_W)) (l₂ := ([((p0a 17), .inl ((p0k 17), 320, .inr (.inl (p0l 17)))), ((p0a 18), .inl ((p0k 18), 60, .inr (.inl (p0l 18)))), ((p0a 19), .inl ((p0k 19), 250, .inl (p0w 19))), ((p0a 20), .inl ((p0k 20), 19200, .inl (p0w 20)))] : va_W)))))
  have hK2 : va_K (dC, dI) cls (List.flatten ([[((p0k 16), .long)], [((p0k 2), .int), ((p0k 3), .int), ((p0k 4), .int), ((p0k 5), .int), ((p0k 7), .int), ((p0k 8), .int), ((p0k 9), .int), ((p0k 10), .int), ((p0k 11), .int), ((p0k 12), .int), ((p0k 13), .int), ((p0k 14), .int), ((p0k 15), .int), ((p0k 17), .long), ((p0k 18), .long), ((p0k 19), .int), ((p0k 20), .int)], (tX6 p1k), (tX1 p3k)] : List (List (ClassId × FieldType)))) s := vK_perm hK ((bP (List.Perm.refl _)).trans (List.Perm.append_right _ (List.perm_middle (a := (((p0k 16), .long) : ClassId × FieldType)) (l₁ := ([((p0k 2), .int), ((p0k 3), .int), ((p0k 4), .int), ((p0k 5), .int), ((p0k 7), .int), ((p0k 8), .int), ((p0k 9), .int), ((p0k 10), .int), ((p0k 11), .int), ((p0k 12), .int), ((p0k 13), .int), ((p0k 14), .int), ((p0k 15), .int)] : List (ClassId × FieldType))) (l₂ := ([((p0k 17), .long), ((p0k 18), .long), ((p0k 19), .int), ((p0k 20), .int)] : List (ClassId × FieldType))))))
  have hPx : va_P (dC, dI) cls ((List.flatten ([[((p0a 16), .inl ((p0k 16), 320, .inr (.inl (p0l 16))))]] : List va_W)) ++ (List.flatten ([[((p0a 0), .inr (6, [.ref (p0a 1), .ref (p0a 2), .ref (p0a 3), .ref (p0a 4), .ref (p0a 5), .int (p0w 0 5), .ref (p0a 7), .ref (p0a 8), .ref (p0a 9), .ref (p0a 10), .ref (p0a 11), .ref (p0a 12), .ref (p0a 13), .ref (p0a 14), .ref (p0a 15), .ref (p0a 16), .ref (p0a 17), .ref (p0a 18), .ref (p0a 19), .ref (p0a 20)])), ((p0a 2), .inl ((p0k 2), 3200, .inl (p0w 2))), ((p0a 3), .inl ((p0k 3), 3200, .inl (p0w 3))), ((p0a 4), .inl ((p0k 4), 3200, .inl (p0w 4))), ((p0a 5), .inl ((p0k 5), 512, .inl (p0w 5))), ((p0a 7), .inl ((p0k 7), 640, .inl (p0w 7))), ((p0a 8), .inl ((p0k 8), 640, .inl (p0w 8))), ((p0a 9), .inl ((p0k 9), 640, .inl (p0w 9))), ((p0a 10), .inl ((p0k 10), 640, .inl (p0w 10))), ((p0a 11), .inl ((p0k 11), 640, .inl (p0w 11))), ((p0a 12), .inl ((p0k 12), 640, .inl (p0w 12))), ((p0a 13), .inl ((p0k 13), 640, .inl (p0w 13))), ((p0a 14), .inl ((p0k 14), 640, .inl (p0w 14))), ((p0a 15), .inl ((p0k 15), 60, .inl (p0w 15))), ((p0a 17), .inl ((p0k 17), 320, .inr (.inl (p0l 17)))), ((p0a 18), .inl ((p0k 18), 60, .inr (.inl (p0l 18)))), ((p0a 19), .inl ((p0k 19), 250, .inl (p0w 19))), ((p0a 20), .inl ((p0k 20), 19200, .inl (p0w 20)))], (oX6 (p1a 0) p1a p1k p1w p1l), (oX1 (p3a 0) p3a p3k p3n p3w p3l)] : List va_W))) H := vP_fa (vP_perm hP2 (bP (List.Perm.refl _)))
  have hDx : va_D A ((List.flatten ([[((p0a 16), .inl ((p0k 16), 320, .inr (.inl (p0l 16))))]] : List va_W)) ++ (List.flatten ([[((p0a 0), .inr (6, [.ref (p0a 1), .ref (p0a 2), .ref (p0a 3), .ref (p0a 4), .ref (p0a 5), .int (p0w 0 5), .ref (p0a 7), .ref (p0a 8), .ref (p0a 9), .ref (p0a 10), .ref (p0a 11), .ref (p0a 12), .ref (p0a 13), .ref (p0a 14), .ref (p0a 15), .ref (p0a 16), .ref (p0a 17), .ref (p0a 18), .ref (p0a 19), .ref (p0a 20)])), ((p0a 2), .inl ((p0k 2), 3200, .inl (p0w 2))), ((p0a 3), .inl ((p0k 3), 3200, .inl (p0w 3))), ((p0a 4), .inl ((p0k 4), 3200, .inl (p0w 4))), ((p0a 5), .inl ((p0k 5), 512, .inl (p0w 5))), ((p0a 7), .inl ((p0k 7), 640, .inl (p0w 7))), ((p0a 8), .inl ((p0k 8), 640, .inl (p0w 8))), ((p0a 9), .inl ((p0k 9), 640, .inl (p0w 9))), ((p0a 10), .inl ((p0k 10), 640, .inl (p0w 10))), ((p0a 11), .inl ((p0k 11), 640, .inl (p0w 11))), ((p0a 12), .inl ((p0k 12), 640, .inl (p0w 12))), ((p0a 13), .inl ((p0k 13), 640, .inl (p0w 13))), ((p0a 14), .inl ((p0k 14), 640, .inl (p0w 14))), ((p0a 15), .inl ((p0k 15), 60, .inl (p0w 15))), ((p0a 17), .inl ((p0k 17), 320, .inr (.inl (p0l 17)))), ((p0a 18), .inl ((p0k 18), 60, .inr (.inl (p0l 18)))), ((p0a 19), .inl ((p0k 19), 250, .inl (p0w 19))), ((p0a 20), .inl ((p0k 20), 19200, .inl (p0w 20)))], (oX6 (p1a 0) p1a p1k p1w p1l), (oX1 (p3a 0) p3a p3k p3n p3w p3l)] : List va_W))) := vD_fa (vD_perm hD2 (bP (List.Perm.refl _)))
  have hKx : va_K (dC, dI) cls ((List.flatten ([[((p0k 16), .long)]] : List (List (ClassId × FieldType)))) ++ (List.flatten ([[((p0k 2), .int), ((p0k 3), .int), ((p0k 4), .int), ((p0k 5), .int), ((p0k 7), .int), ((p0k 8), .int), ((p0k 9), .int), ((p0k 10), .int), ((p0k 11), .int), ((p0k 12), .int), ((p0k 13), .int), ((p0k 14), .int), ((p0k 15), .int), ((p0k 17), .long), ((p0k 18), .long), ((p0k 19), .int), ((p0k 20), .int)], (tX6 p1k), (tX1 p3k)] : List (List (ClassId × FieldType))))) s := vK_fa (vK_perm hK2 (bP (List.Perm.refl _)))
  have hPc := vP_l hPx
  have hDc := vD_l hDx
  have hKc := vK_l hKx
  have hFc := vfree hDx hS hA
  refine va_callv (va_runS (As := [.ref (p0a 16), .long 0]) (rest := []) ⟨hx, hb, hml, hown, hts⟩ (kJ7_fill_d0a16 l dC dI (p0a := (p0a 16)) (p0k := (p0k 16)) (p0n := 320) (p0f := (p0l 16)) (p1 := 0) (sz := _) (o := o_1) (hrun := hc_1)) (va_cwS 2 hts (gi_S qw322 qw323 qw109 (gi_z qw321)) rfl rfl rfl (by decide +kernel) ⟨Nat.le_of_ble_eq_true rfl, Nat.le_of_ble_eq_true rfl⟩) ⟨PRE.blind, PRE.of hE hS hFc hPc hKc hDc⟩ rfl rfl hl.1 rfl (lv_room (Nat.le_of_ble_eq_true rfl)) dX4_noteVariables_5 ⟨(Nat.le_of_ble_eq_true rfl), (Nat.le_of_ble_eq_true rfl)⟩) hS (fun q _ h => hFc q h) hFc (fun u t H locs ht hvm hw hB hz1 hk1 hS => ?_)
  obtain ⟨b1, b2, b3⟩ := hB
  rw [ht] at b1
  obtain ⟨hP, hD, hK⟩ := JOINC (wc := (List.flatten ([[((p0a 16), .inl ((p0k 16), 320, .inr (.inl (p0l 16))))]] : List va_W))) (wr := (List.flatten ([[((p0a 0), .inr (6, [.ref (p0a 1), .ref (p0a 2), .ref (p0a 3), .ref (p0a 4), .ref (p0a 5), .int (p0w 0 5), .ref (p0a 7), .ref (p0a 8), .ref (p0a 9), .ref (p0a 10), .ref (p0a 11), .ref (p0a 12), .ref (p0a 13), .ref (p0a 14), .ref (p0a 15), .ref (p0a 16), .ref (p0a 17), .ref (p0a 18), .ref (p0a 19), .ref (p0a 20)])), ((p0a 2), .inl ((p0k 2), 3200, .inl (p0w 2))), ((p0a 3), .inl ((p0k 3), 3200, .inl (p0w 3))), ((p0a 4), .inl ((p0k 4), 3200, .inl (p0w 4))), ((p0a 5), .inl ((p0k 5), 512, .inl (p0w 5))), ((p0a 7), .inl ((p0k 7), 640, .inl (p0w 7))), ((p0a 8), .inl ((p0k 8), 640, .inl (p0w 8))), ((p0a 9), .inl ((p0k 9), 640, .inl (p0w 9))), ((p0a 10), .inl ((p0k 10), 640, .inl (p0w 10))), ((p0a 11), .inl ((p0k 11), 640, .inl (p0w 11))), ((p0a 12), .inl ((p0k 12), 640, .inl (p0w 12))), ((p0a 13), .inl ((p0k 13), 640, .inl (p0w 13))), ((p0a 14), .inl ((p0k 14), 640, .inl (p0w 14))), ((p0a 15), .inl ((p0k 15), 60, .inl (p0w 15))), ((p0a 17), .inl ((p0k 17), 320, .inr (.inl (p0l 17)))), ((p0a 18), .inl ((p0k 18), 60, .inr (.inl (p0l 18)))), ((p0a 19), .inl ((p0k 19), 250, .inl (p0w 19))), ((p0a 20), .inl ((p0k 20), 19200, .inl (p0w 20)))], (oX6 (p1a 0) p1a p1k p1w p1l), (oX1 (p3a 0) p3a p3k p3n p3w p3l)] : List va_W))) (w1 := (List.flatten ([[((p0a 16), .inl ((p0k 16), 320, .inr (.inl ((srl p0l 16 o_1) 16))))]] : List va_W))) (t1 := (List.flatten ([[((p0k 16), .long)]] : List (List (ClassId × FieldType))))) hPx hDx hKx hk1 hFc b1 (va_K.moved hvm.symm b2) b3
  have hP3 : va_P (dC, dI) cls (List.flatten ([(oX4 (p0a 0) p0a p0k p0w (srl p0l 16 o_1)), (oX6 (p1a 0) p1a p1k p1w p1l), (oX1 (p3a 0) p3a p3k p3n p3w p3l)] : List va_W)) H := vP_perm (vP_fb hP) ((bP (List.Perm.refl _)).trans (List.Perm.append_right _ (List.perm_middle (a := (((p0a 16), .inl ((p0k 16), 320, .inr (.inl ((srl p0l 16 o_1) 16)))) : Nat × va_E)) (l₁ := ([((p0a 0), .inr (6, [.ref (p0a 1), .ref (p0a 2), .ref (p0a 3), .ref (p0a 4), .ref (p0a 5), .int (p0w 0 5), .ref (p0a 7), .ref (p0a 8), .ref (p0a 9), .ref (p0a 10), .ref (p0a 11), .ref (p0a 12), .ref (p0a 13), .ref (p0a 14), .ref (p0a 15), .ref (p0a 16), .ref (p0a 17), .ref (p0a 18), .ref (p0a 19), .ref (p0a 20)])), ((p0a 2), .inl ((p0k 2), 3200, .inl (p0w 2))), ((p0a 3), .inl ((p0k 3), 3200, .inl (p0w 3))), ((p0a 4), .inl ((p0k 4), 3200, .inl (p0w 4))), ((p0a 5), .inl ((p0k 5), 512, .inl (p0w 5))), ((p0a 7), .inl ((p0k 7), 640, .inl (p0w 7))), ((p0a 8), .inl ((p0k 8), 640, .inl (p0w 8))), ((p0a 9), .inl ((p0k 9), 640, .inl (p0w 9))), ((p0a 10), .inl ((p0k 10), 640, .inl (p0w 10))), ((p0a 11), .inl ((p0k 11), 640, .inl (p0w 11))), ((p0a 12), .inl ((p0k 12), 640, .inl (p0w 12))), ((p0a 13), .inl ((p0k 13), 640, .inl (p0w 13))), ((p0a 14), .inl ((p0k 14), 640, .inl (p0w 14))), ((p0a 15), .inl ((p0k 15), 60, .inl (p0w 15)))] : va_W)) (l₂ := ([((p0a 17), .inl ((p0k 17), 320, .inr (.inl ((srl p0l 16 o_1) 17)))), ((p0a 18), .inl ((p0k 18), 60, .inr (.inl ((srl p0l 16 o_1) 18)))), ((p0a 19), .inl ((p0k 19), 250, .inl (p0w 19))), ((p0a 20), .inl ((p0k 20), 19200, .inl (p0w 20)))] : va_W))).symm))
  have hD3 : va_D A (List.flatten ([(oX4 (p0a 0) p0a p0k p0w (srl p0l 16 o_1)), (oX6 (p1a 0) p1a p1k p1w p1l), (oX1 (p3a 0) p3a p3k p3n p3w p3l)] : List va_W)) := vD_perm (vD_fb hD) ((bP (List.Perm.refl _)).trans (List.Perm.append_right _ (List.perm_middle (a := (((p0a 16), .inl ((p0k 16), 320, .inr (.inl ((srl p0l 16 o_1) 16)))) : Nat × va_E)) (l₁ := ([((p0a 0), .inr (6, [.ref (p0a 1), .ref (p0a 2), .ref (p0a 3), .ref (p0a 4), .ref (p0a 5), .int (p0w 0 5), .ref (p0a 7), .ref (p0a 8), .ref (p0a 9), .ref (p0a 10), .ref (p0a 11), .ref (p0a 12), .ref (p0a 13), .ref (p0a 14), .ref (p0a 15), .ref (p0a 16), .ref (p0a 17), .ref (p0a 18), .ref (p0a 19), .ref (p0a 20)])), ((p0a 2), .inl ((p0k 2), 3200, .inl (p0w 2))), ((p0a 3), .inl ((p0k 3), 3200, .inl (p0w 3))), ((p0a 4), .inl ((p0k 4), 3200, .inl (p0w 4))), ((p0a 5), .inl ((p0k 5), 512, .inl (p0w 5))), ((p0a 7), .inl ((p0k 7), 640, .inl (p0w 7))), ((p0a 8), .inl ((p0k 8), 640, .inl (p0w 8))), ((p0a 9), .inl ((p0k 9), 640, .inl (p0w 9))), ((p0a 10), .inl ((p0k 10), 640, .inl (p0w 10))), ((p0a 11), .inl ((p0k 11), 640, .inl (p0w 11))), ((p0a 12), .inl ((p0k 12), 640, .inl (p0w 12))), ((p0a 13), .inl ((p0k 13), 640, .inl (p0w 13))), ((p0a 14), .inl ((p0k 14), 640, .inl (p0w 14))), ((p0a 15), .inl ((p0k 15), 60, .inl (p0w 15)))] : va_W)) (l₂ := ([((p0a 17), .inl ((p0k 17), 320, .inr (.inl ((srl p0l 16 o_1) 17)))), ((p0a 18), .inl ((p0k 18), 60, .inr (.inl ((srl p0l 16 o_1) 18)))), ((p0a 19), .inl ((p0k 19), 250, .inl (p0w 19))), ((p0a 20), .inl ((p0k 20), 19200, .inl (p0w 20)))] : va_W))).symm))
  have hK3 : va_K (dC, dI) cls (List.flatten ([(tX4 p0k), (tX6 p1k), (tX1 p3k)] : List (List (ClassId × FieldType)))) s := vK_perm (vK_fb hK) ((bP (List.Perm.refl _)).trans (List.Perm.append_right _ (List.perm_middle (a := (((p0k 16), .long) : ClassId × FieldType)) (l₁ := ([((p0k 2), .int), ((p0k 3), .int), ((p0k 4), .int), ((p0k 5), .int), ((p0k 7), .int), ((p0k 8), .int), ((p0k 9), .int), ((p0k 10), .int), ((p0k 11), .int), ((p0k 12), .int), ((p0k 13), .int), ((p0k 14), .int), ((p0k 15), .int)] : List (ClassId × FieldType))) (l₂ := ([((p0k 17), .long), ((p0k 18), .long), ((p0k 19), .int), ((p0k 20), .int)] : List (ClassId × FieldType)))).symm))
  have hP : va_P (dC, dI) cls (List.flatten ([(oX4 (p0a 0) p0a p0k p0w (srl p0l 16 o_1)), (oX6 (p1a 0) p1a p1k p1w p1l), (oX1 (p3a 0) p3a p3k p3n p3w p3l)] : List va_W)) H := vP_perm hP3 (bP (List.Perm.refl _))
  have hD : va_D A (List.flatten ([(oX4 (p0a 0) p0a p0k p0w (srl p0l 16 o_1)), (oX6 (p1a 0) p1a p1k p1w p1l), (oX1 (p3a 0) p3a p3k p3n p3w p3l)] : List va_W)) := vD_perm hD3 (bP (List.Perm.refl _))
  have hK : va_K (dC, dI) cls (List.flatten ([(tX4 p0k), (tX6 p1k), (tX1 p3k)] : List (List (ClassId × FieldType)))) s := vK_perm hK3 (bP (List.Perm.refl _))
  refine lv_aload_n hx hb dX4_noteVariables_8 rfl (lv_at hl 0 rfl) ?_
  refine va_get (D := (dC, dI)) (ci := 6) (v := .ref (p0a 17)) (C := RX4) (T := TX4) (N := 20) hx hb hts i_X4 hown hK hP 0 rfl rfl 16 (by decide) (hts _ qw385) (fun _ h9 => h9) rfl dX4_noteVariables_9 ?_
  refine lv_lconst (v := 0) hx hb dX4_noteVariables_12 (by decide) ?_
  obtain ⟨o_2, hc_2, hrun⟩ := bnd9 hrun
  have hP2 : va_P (dC, dI) cls (List.flatten ([[((p0a 17), .inl ((p0k 17), 320, .inr (.inl ((srl p0l 16 o_1) 17))))], [((p0a 0), .inr (6, [.ref (p0a 1), .ref (p0a 2), .ref (p0a 3), .ref (p0a 4), .ref (p0a 5), .int (p0w 0 5), .ref (p0a 7), .ref (p0a 8), .ref (p0a 9), .ref (p0a 10), .ref (p0a 11), .ref (p0a 12), .ref (p0a 13), .ref (p0a 14), .ref (p0a 15), .ref (p0a 16), .ref (p0a 17), .ref (p0a 18), .ref (p0a 19), .ref (p0a 20)])), ((p0a 2), .inl ((p0k 2), 3200, .inl (p0w 2))), ((p0a 3), .inl ((p0k 3), 3200, .inl (p0w 3))), ((p0a 4), .inl ((p0k 4), 3200, .inl (p0w 4))), ((p0a 5), .inl ((p0k 5), 512, .inl (p0w 5))), ((p0a 7), .inl ((p0k 7), 640, .inl (p0w 7))), ((p0a 8), .inl ((p0k 8), 640, .inl (p0w 8))), ((p0a 9), .inl ((p0k 9), 640, .inl (p0w 9))), ((p0a 10), .inl ((p0k 10), 640, .inl (p0w 10))), ((p0a 11), .inl ((p0k 11), 640, .inl (p0w 11))), ((p0a 12), .inl ((p0k 12), 640, .inl (p0w 12))), ((p0a 13), .inl ((p0k 13), 640, .inl (p0w 13))), ((p0a 14), .inl ((p0k 14), 640, .inl (p0w 14))), ((p0a 15), .inl ((p0k 15), 60, .inl (p0w 15))), ((p0a 16), .inl ((p0k 16), 320, .inr (.inl ((srl p0l 16 o_1) 16)))), ((p0a 18), .inl ((p0k 18), 60, .inr (.inl ((srl p0l 16 o_1) 18)))), ((p0a 19), .inl ((p0k 19), 250, .inl (p0w 19))), ((p0a 20), .inl ((p0k 20), 19200, .inl (p0w 20)))], (oX6 (p1a 0) p1a p1k p1w p1l), (oX1 (p3a 0) p3a p3k p3n p3w p3l)] : List va_W)) H := vP_perm hP ((bP (List.Perm.refl _)).trans (List.Perm.append_right _ (List.perm_middle (a := (((p0a 17), .inl ((p0k 17), 320, .inr (.inl ((srl p0l 16 o_1) 17)))) : Nat × va_E)) (l₁ := ([((p0a 0), .inr (6, [.ref (p0a 1), .ref (p0a 2), .ref (p0a 3), .ref (p0a 4), .ref (p0a 5), .int (p0w 0 5), .ref (p0a 7), .ref (p0a 8), .ref (p0a 9), .ref (p0a 10), .ref (p0a 11), .ref (p0a 12), .ref (p0a 13), .ref (p0a 14), .ref (p0a 15), .ref (p0a 16), .ref (p0a 17), .ref (p0a 18), .ref (p0a 19), .ref (p0a 20)])), ((p0a 2), .inl ((p0k 2), 3200, .inl (p0w 2))), ((p0a 3), .inl ((p0k 3), 3200, .inl (p0w 3))), ((p0a 4), .inl ((p0k 4), 3200, .inl (p0w 4))), ((p0a 5), .inl ((p0k 5), 512, .inl (p0w 5))), ((p0a 7), .inl ((p0k 7), 640, .inl (p0w 7))), ((p0a 8), .inl ((p0k 8), 640, .inl (p0w 8))), ((p0a 9), .inl ((p0k 9), 640, .inl (p0w 9))), ((p0a 10), .inl ((p0k 10), 640, .inl (p0w 10))), ((p0a 11), .inl ((p0k 11), 640, .inl (p0w 11))), ((p0a 12), .inl ((p0k 12), 640, .inl (p0w 12))), ((p0a 13), .inl ((p0k 13), 640, .inl (p0w 13))), ((p0a 14), .inl ((p0k 14), 640, .inl (p0w 14))), ((p0a 15), .inl ((p0k 15), 60, .inl (p0w 15))), ((p0a 16), .inl ((p0k 16), 320, .inr (.inl ((srl p0l 16 o_1) 16))))] : va_W)) (l₂ := ([((p0a 18), .inl ((p0k 18), 60, .inr (.inl ((srl p0l 16 o_1) 18)))), ((p0a 19), .inl ((p0k 19), 250, .inl (p0w 19))), ((p0a 20), .inl ((p0k 20), 19200, .inl (p0w 20)))] : va_W)))))
  have hD2 : va_D A (List.flatten ([[((p0a 17), .inl ((p0k 17), 320, .inr (.inl ((srl p0l 16 o_1) 17))))], [((p0a 0), .inr (6, [.ref (p0a 1), .ref (p0a 2), .ref (p0a 3), .ref (p0a 4), .ref (p0a 5), .int (p0w 0 5), .ref (p0a 7), .ref (p0a 8), .ref (p0a 9), .ref (p0a 10), .ref (p0a 11), .ref (p0a 12), .ref (p0a 13), .ref (p0a 14), .ref (p0a 15), .ref (p0a 16), .ref (p0a 17), .ref (p0a 18), .ref (p0a 19), .ref (p0a 20)])), ((p0a 2), .inl ((p0k 2), 3200, .inl (p0w 2))), ((p0a 3), .inl ((p0k 3), 3200, .inl (p0w 3))), ((p0a 4), .inl ((p0k 4), 3200, .inl (p0w 4))), ((p0a 5), .inl ((p0k 5), 512, .inl (p0w 5))), ((p0a 7), .inl ((p0k 7), 640, .inl (p0w 7))), ((p0a 8), .inl ((p0k 8), 640, .inl (p0w 8))), ((p0a 9), .inl ((p0k 9), 640, .inl (p0w 9))), ((p0a 10), .inl ((p0k 10), 640, .inl (p0w 10))), ((p0a 11), .inl ((p0k 11), 640, .inl (p0w 11))), ((p0a 12), .inl ((p0k 12), 640, .inl (p0w 12))), ((p0a 13), .inl ((p0k 13), 640, .inl (p0w 13))), ((p0a 14), .inl ((p0k 14), 640, .inl (p0w 14))), ((p0a 15), .inl ((p0k 15), 60, .inl (p0w 15))), ((p0a 16), .inl ((p0k 16), 320, .inr (.inl ((srl p0l 16 o_1) 16)))), ((p0a 18), .inl ((p0k 18), 60, .inr (.inl ((srl p0l 16 o_1) 18)))), ((p0a 19), .inl ((p0k 19), 250, .inl (p0w 19))), ((p0a 20), .inl ((p0k 20), 19200, .inl (p0w 20)))], (oX6 (p1a 0) p1a p1k p1w p1l), (oX1 (p3a 0) p3a p3k p3n p3w p3l)] : List va_W)) := vD_perm hD ((bP (List.Perm.refl _)).trans (List.Perm.append_right _ (List.perm_middle (a := (((p0a 17), .inl ((p0k 17), 320, .inr (.inl ((srl p0l 16 o_1) 17)))) : Nat × va_E)) (l₁ := ([((p0a 0), .inr (6, [.ref (p0a 1), .ref (p0a 2), .ref (p0a 3), .ref (p0a 4), .ref (p0a 5), .int (p0w 0 5), .ref (p0a 7), .ref (p0a 8), .ref (p0a 9), .ref (p0a 10), .ref (p0a 11), .ref (p0a 12), .ref (p0a 13), .ref (p0a 14), .ref (p0a 15), .ref (p0a 16), .ref (p0a 17), .ref (p0a 18), .ref (p0a 19), .ref (p0a 20)])), ((p0a 2), .inl ((p0k 2), 3200, .inl (p0w 2))), ((p0a 3), .inl ((p0k 3), 3200, .inl (p0w 3))), ((p0a 4), .inl ((p0k 4), 3200, .inl (p0w 4))), ((p0a 5), .inl ((p0k 5), 512, .inl (p0w 5))), ((p0a 7), .inl ((p0k 7), 640, .inl (p0w 7))), ((p0a 8), .inl ((p0k 8), 640, .inl (p0w 8))), ((p0a 9), .inl ((p0k 9), 640, .inl (p0w 9))), ((p0a 10), .inl ((p0k 10), 640, .inl (p0w 10))), ((p0a 11), .inl ((p0k 11), 640, .inl (p0w 11))), ((p0a 12), .inl ((p0k 12), 640, .inl (p0w 12))), ((p0a 13), .inl ((p0k 13), 640, .inl (p0w 13))), ((p0a 14), .inl ((p0k 14), 640, .inl (p0w 14))), ((p0a 15), .inl ((p0k 15), 60, .inl (p0w 15))), ((p0a 16), .inl ((p0k 16), 320, .inr (.inl ((srl p0l 16 o_1) 16))))] : va_W)) (l₂ := ([((p0a 18), .inl ((p0k 18), 60, .inr (.inl ((srl p0l 16 o_1) 18)))), ((p0a 19), .inl ((p0k 19), 250, .inl (p0w 19))), ((p0a 20), .inl ((p0k 20), 19200, .inl (p0w 20)))] : va_W)))))
  have hK2 : va_K (dC, dI) cls (List.flatten ([[((p0k 17), .long)], [((p0k 2), .int), ((p0k 3), .int), ((p0k 4), .int), ((p0k 5), .int), ((p0k 7), .int), ((p0k 8), .int), ((p0k 9), .int), ((p0k 10), .int), ((p0k 11), .int), ((p0k 12), .int), ((p0k 13), .int), ((p0k 14), .int), ((p0k 15), .int), ((p0k 16), .long), ((p0k 18), .long), ((p0k 19), .int), ((p0k 20), .int)], (tX6 p1k), (tX1 p3k)] : List (List (ClassId × FieldType)))) s := vK_perm hK ((bP (List.Perm.refl _)).trans (List.Perm.append_right _ (List.perm_middle (a := (((p0k 17), .long) : ClassId × FieldType)) (l₁ := ([((p0k 2), .int), ((p0k 3), .int), ((p0k 4), .int), ((p0k 5), .int), ((p0k 7), .int), ((p0k 8), .int), ((p0k 9), .int), ((p0k 10), .int), ((p0k 11), .int), ((p0k 12), .int), ((p0k 13), .int), ((p0k 14), .int), ((p0k 15), .int), ((p0k 16), .long)] : List (ClassId × FieldType))) (l₂ := ([((p0k 18), .long), ((p0k 19), .int), ((p0k 20), .int)] : List (ClassId × FieldType))))))
  have hPx : va_P (dC, dI) cls ((List.flatten ([[((p0a 17), .inl ((p0k 17), 320, .inr (.inl ((srl p0l 16 o_1) 17))))]] : List va_W)) ++ (List.flatten ([[((p0a 0), .inr (6, [.ref (p0a 1), .ref (p0a 2), .ref (p0a 3), .ref (p0a 4), .ref (p0a 5), .int (p0w 0 5), .ref (p0a 7), .ref (p0a 8), .ref (p0a 9), .ref (p0a 10), .ref (p0a 11), .ref (p0a 12), .ref (p0a 13), .ref (p0a 14), .ref (p0a 15), .ref (p0a 16), .ref (p0a 17), .ref (p0a 18), .ref (p0a 19), .ref (p0a 20)])), ((p0a 2), .inl ((p0k 2), 3200, .inl (p0w 2))), ((p0a 3), .inl ((p0k 3), 3200, .inl (p0w 3))), ((p0a 4), .inl ((p0k 4), 3200, .inl (p0w 4))), ((p0a 5), .inl ((p0k 5), 512, .inl (p0w 5))), ((p0a 7), .inl ((p0k 7), 640, .inl (p0w 7))), ((p0a 8), .inl ((p0k 8), 640, .inl (p0w 8))), ((p0a 9), .inl ((p0k 9), 640, .inl (p0w 9))), ((p0a 10), .inl ((p0k 10), 640, .inl (p0w 10))), ((p0a 11), .inl ((p0k 11), 640, .inl (p0w 11))), ((p0a 12), .inl ((p0k 12), 640, .inl (p0w 12))), ((p0a 13), .inl ((p0k 13), 640, .inl (p0w 13))), ((p0a 14), .inl ((p0k 14), 640, .inl (p0w 14))), ((p0a 15), .inl ((p0k 15), 60, .inl (p0w 15))), ((p0a 16), .inl ((p0k 16), 320, .inr (.inl ((srl p0l 16 o_1) 16)))), ((p0a 18), .inl ((p0k 18), 60, .inr (.inl ((srl p0l 16 o_1) 18)))), ((p0a 19), .inl ((p0k 19), 250, .inl (p0w 19))), ((p0a 20), .inl ((p0k 20), 19200, .inl (p0w 20)))], (oX6 (p1a 0) p1a p1k p1w p1l), (oX1 (p3a 0) p3a p3k p3n p3w p3l)] : List va_W))) H := vP_fa (vP_perm hP2 (bP (List.Perm.refl _)))
  have hDx : va_D A ((List.flatten ([[((p0a 17), .inl ((p0k 17), 320, .inr (.inl ((srl p0l 16 o_1) 17))))]] : List va_W)) ++ (List.flatten ([[((p0a 0), .inr (6, [.ref (p0a 1), .ref (p0a 2), .ref (p0a 3), .ref (p0a 4), .ref (p0a 5), .int (p0w 0 5), .ref (p0a 7), .ref (p0a 8), .ref (p0a 9), .ref (p0a 10), .ref (p0a 11), .ref (p0a 12), .ref (p0a 13), .ref (p0a 14), .ref (p0a 15), .ref (p0a 16), .ref (p0a 17), .ref (p0a 18), .ref (p0a 19), .ref (p0a 20)])), ((p0a 2), .inl ((p0k 2), 3200, .inl (p0w 2))), ((p0a 3), .inl ((p0k 3), 3200, .inl (p0w 3))), ((p0a 4), .inl ((p0k 4), 3200, .inl (p0w 4))), ((p0a 5), .inl ((p0k 5), 512, .inl (p0w 5))), ((p0a 7), .inl ((p0k 7), 640, .inl (p0w 7))), ((p0a 8), .inl ((p0k 8), 640, .inl (p0w 8))), ((p0a 9), .inl ((p0k 9), 640, .inl (p0w 9))), ((p0a 10), .inl ((p0k 10), 640, .inl (p0w 10))), ((p0a 11), .inl ((p0k 11), 640, .inl (p0w 11))), ((p0a 12), .inl ((p0k 12), 640, .inl (p0w 12))), ((p0a 13), .inl ((p0k 13), 640, .inl (p0w 13))), ((p0a 14), .inl ((p0k 14), 640, .inl (p0w 14))), ((p0a 15), .inl ((p0k 15), 60, .inl (p0w 15))), ((p0a 16), .inl ((p0k 16), 320, .inr (.inl ((srl p0l 16 o_1) 16)))), ((p0a 18), .inl ((p0k 18), 60, .inr (.inl ((srl p0l 16 o_1) 18)))), ((p0a 19), .inl ((p0k 19), 250, .inl (p0w 19))), ((p0a 20), .inl ((p0k 20), 19200, .inl (p0w 20)))], (oX6 (p1a 0) p1a p1k p1w p1l), (oX1 (p3a 0) p3a p3k p3n p3w p3l)] : List va_W))) := vD_fa (vD_perm hD2 (bP (List.Perm.refl _)))
  have hKx : va_K (dC, dI) cls ((List.flatten ([[((p0k 17), .long)]] : List (List (ClassId × FieldType)))) ++ (List.flatten ([[((p0k 2), .int), ((p0k 3), .int), ((p0k 4), .int), ((p0k 5), .int), ((p0k 7), .int), ((p0k 8), .int), ((p0k 9), .int), ((p0k 10), .int), ((p0k 11), .int), ((p0k 12), .int), ((p0k 13), .int), ((p0k 14), .int), ((p0k 15), .int), ((p0k 16), .long), ((p0k 18), .long), ((p0k 19), .int), ((p0k 20), .int)], (tX6 p1k), (tX1 p3k)] : List (List (ClassId × FieldType))))) s := vK_fa (vK_perm hK2 (bP (List.Perm.refl _)))
  have hPc := vP_l hPx
  have hDc := vD_l hDx
  have hKc := vK_l hKx
  have hFc := vfree hDx hS hA
  refine va_callv (va_runS (As := [.ref (p0a 17), .long 0]) (rest := []) ⟨hx, hb, hml, hown, hts⟩ (kJ7_fill_d0a16 l dC dI (p0a := (p0a 17)) (p0k := (p0k 17)) (p0n := 320) (p0f := ((srl p0l 16 o_1) 17)) (p1 := 0) (sz := _) (o := o_2) (hrun := hc_2)) (va_cwS 2 hts (gi_S qw322 qw323 qw109 (gi_z qw321)) rfl rfl rfl (by decide +kernel) ⟨Nat.le_of_ble_eq_true rfl, Nat.le_of_ble_eq_true rfl⟩) ⟨PRE.blind, PRE.of hE hS hFc hPc hKc hDc⟩ rfl rfl hl.1 rfl (lv_room (Nat.le_of_ble_eq_true rfl)) dX4_noteVariables_13 ⟨(Nat.le_of_ble_eq_true rfl), (Nat.le_of_ble_eq_true rfl)⟩) hS (fun q _ h => hFc q h) hFc (fun u t H locs ht hvm hw hB hz1 hk1 hS => ?_)
  obtain ⟨b1, b2, b3⟩ := hB
  rw [ht] at b1
  obtain ⟨hP, hD, hK⟩ := JOINC (wc := (List.flatten ([[((p0a 17), .inl ((p0k 17), 320, .inr (.inl ((srl p0l 16 o_1) 17))))]] : List va_W))) (wr := (List.flatten ([[((p0a 0), .inr (6, [.ref (p0a 1), .ref (p0a 2), .ref (p0a 3), .ref (p0a 4), .ref (p0a 5), .int (p0w 0 5), .ref (p0a 7), .ref (p0a 8), .ref (p0a 9), .ref (p0a 10), .ref (p0a 11), .ref (p0a 12), .ref (p0a 13), .ref (p0a 14), .ref (p0a 15), .ref (p0a 16), .ref (p0a 17), .ref (p0a 18), .ref (p0a 19), .ref (p0a 20)])), ((p0a 2), .inl ((p0k 2), 3200, .inl (p0w 2))), ((p0a 3), .inl ((p0k 3), 3200, .inl (p0w 3))), ((p0a 4), .inl ((p0k 4), 3200, .inl (p0w 4))), ((p0a 5), .inl ((p0k 5), 512, .inl (p0w 5))), ((p0a 7), .inl ((p0k 7), 640, .inl (p0w 7))), ((p0a 8), .inl ((p0k 8), 640, .inl (p0w 8))), ((p0a 9), .inl ((p0k 9), 640, .inl (p0w 9))), ((p0a 10), .inl ((p0k 10), 640, .inl (p0w 10))), ((p0a 11), .inl ((p0k 11), 640, .inl (p0w 11))), ((p0a 12), .inl ((p0k 12), 640, .inl (p0w 12))), ((p0a 13), .inl ((p0k 13), 640, .inl (p0w 13))), ((p0a 14), .inl ((p0k 14), 640, .inl (p0w 14))), ((p0a 15), .inl ((p0k 15), 60, .inl (p0w 15))), ((p0a 16), .inl ((p0k 16), 320, .inr (.inl ((srl p0l 16 o_1) 16)))), ((p0a 18), .inl ((p0k 18), 60, .inr (.inl ((srl p0l 16 o_1) 18)))), ((p0a 19), .inl ((p0k 19), 250, .inl (p0w 19))), ((p0a 20), .inl ((p0k 20), 19200, .inl (p0w 20)))], (oX6 (p1a 0) p1a p1k p1w p1l), (oX1 (p3a 0) p3a p3k p3n p3w p3l)] : List va_W))) (w1 := (List.flatten ([[((p0a 17), .inl ((p0k 17), 320, .inr (.inl ((srl (srl p0l 16 o_1) 17 o_2) 17))))]] : List va_W))) (t1 := (List.flatten ([[((p0k 17), .long)]] : List (List (ClassId × FieldType))))) hPx hDx hKx hk1 hFc b1 (va_K.moved hvm.symm b2) b3
  have hP3 : va_P (dC, dI) cls (List.flatten ([(oX4 (p0a 0) p0a p0k p0w (srl (srl p0l 16 o_1) 17 o_2)), (oX6 (p1a 0) p1a p1k p1w p1l), (oX1 (p3a 0) p3a p3k p3n p3w p3l)] : List va_W)) H := vP_perm (vP_fb hP) ((bP (List.Perm.refl _)).trans (List.Perm.append_right _ (List.perm_middle (a := (((p0a 17), .inl ((p0k 17), 320, .inr (.inl ((srl (srl p0l 16 o_1) 17 o_2) 17)))) : Nat × va_E)) (l₁ := ([((p0a 0), .inr (6, [.ref (p0a 1), .ref (p0a 2), .ref (p0a 3), .ref (p0a 4), .ref (p0a 5), .int (p0w 0 5), .ref (p0a 7), .ref (p0a 8), .ref (p0a 9), .ref (p0a 10), .ref (p0a 11), .ref (p0a 12), .ref (p0a 13), .ref (p0a 14), .ref (p0a 15), .ref (p0a 16), .ref (p0a 17), .ref (p0a 18), .ref (p0a 19), .ref (p0a 20)])), ((p0a 2), .inl ((p0k 2), 3200, .inl (p0w 2))), ((p0a 3), .inl ((p0k 3), 3200, .inl (p0w 3))), ((p0a 4), .inl ((p0k 4), 3200, .inl (p0w 4))), ((p0a 5), .inl ((p0k 5), 512, .inl (p0w 5))), ((p0a 7), .inl ((p0k 7), 640, .inl (p0w 7))), ((p0a 8), .inl ((p0k 8), 640, .inl (p0w 8))), ((p0a 9), .inl ((p0k 9), 640, .inl (p0w 9))), ((p0a 10), .inl ((p0k 10), 640, .inl (p0w 10))), ((p0a 11), .inl ((p0k 11), 640, .inl (p0w 11))), ((p0a 12), .inl ((p0k 12), 640, .inl (p0w 12))), ((p0a 13), .inl ((p0k 13), 640, .inl (p0w 13))), ((p0a 14), .inl ((p0k 14), 640, .inl (p0w 14))), ((p0a 15), .inl ((p0k 15), 60, .inl (p0w 15))), ((p0a 16), .inl ((p0k 16), 320, .inr (.inl ((srl (srl p0l 16 o_1) 17 o_2) 16))))] : va_W)) (l₂ := ([((p0a 18), .inl ((p0k 18), 60, .inr (.inl ((srl (srl p0l 16 o_1) 17 o_2) 18)))), ((p0a 19), .inl ((p0k 19), 250, .inl (p0w 19))), ((p0a 20), .inl ((p0k 20), 19200, .inl (p0w 20)))] : va_W))).symm))
  have hD3 : va_D A (List.flatten ([(oX4 (p0a 0) p0a p0k p0w (srl (srl p0l 16 o_1) 17 o_2)), (oX6 (p1a 0) p1a p1k p1w p1l), (oX1 (p3a 0) p3a p3k p3n p3w p3l)] : List va_W)) := vD_perm (vD_fb hD) ((bP (List.Perm.refl _)).trans (List.Perm.append_right _ (List.perm_middle (a := (((p0a 17), .inl ((p0k 17), 320, .inr (.inl ((srl (srl p0l 16 o_1) 17 o_2) 17)))) : Nat × va_E)) (l₁ := ([((p0a 0), .inr (6, [.ref (p0a 1), .ref (p0a 2), .ref (p0a 3), .ref (p0a 4), .ref (p0a 5), .int (p0w 0 5), .ref (p0a 7), .ref (p0a 8), .ref (p0a 9), .ref (p0a 10), .ref (p0a 11), .ref (p0a 12), .ref (p0a 13), .ref (p0a 14), .ref (p0a 15), .ref (p0a 16), .ref (p0a 17), .ref (p0a 18), .ref (p0a 19), .ref (p0a 20)])), ((p0a 2), .inl ((p0k 2), 3200, .inl (p0w 2))), ((p0a 3), .inl ((p0k 3), 3200, .inl (p0w 3))), ((p0a 4), .inl ((p0k 4), 3200, .inl (p0w 4))), ((p0a 5), .inl ((p0k 5), 512, .inl (p0w 5))), ((p0a 7), .inl ((p0k 7), 640, .inl (p0w 7))), ((p0a 8), .inl ((p0k 8), 640, .inl (p0w 8))), ((p0a 9), .inl ((p0k 9), 640, .inl (p0w 9))), ((p0a 10), .inl ((p0k 10), 640, .inl (p0w 10))), ((p0a 11), .inl ((p0k 11), 640, .inl (p0w 11))), ((p0a 12), .inl ((p0k 12), 640, .inl (p0w 12))), ((p0a 13), .inl ((p0k 13), 640, .inl (p0w 13))), ((p0a 14), .inl ((p0k 14), 640, .inl (p0w 14))), ((p0a 15), .inl ((p0k 15), 60, .inl (p0w 15))), ((p0a 16), .inl ((p0k 16), 320, .inr (.inl ((srl (srl p0l 16 o_1) 17 o_2) 16))))] : va_W)) (l₂ := ([((p0a 18), .inl ((p0k 18), 60, .inr (.inl ((srl (srl p0l 16 o_1) 17 o_2) 18)))), ((p0a 19), .inl ((p0k 19), 250, .inl (p0w 19))), ((p0a 20), .inl ((p0k 20), 19200, .inl (p0w 20)))] : va_W))).symm))
  have hK3 : va_K (dC, dI) cls (List.flatten ([(tX4 p0k), (tX6 p1k), (tX1 p3k)] : List (List (ClassId × FieldType)))) s := vK_perm (vK_fb hK) ((bP (List.Perm.refl _)).trans (List.Perm.append_right _ (List.perm_middle (a := (((p0k 17), .long) : ClassId × FieldType)) (l₁ := ([((p0k 2), .int), ((p0k 3), .int), ((p0k 4), .int), ((p0k 5), .int), ((p0k 7), .int), ((p0k 8), .int), ((p0k 9), .int), ((p0k 10), .int), ((p0k 11), .int), ((p0k 12), .int), ((p0k 13), .int), ((p0k 14), .int), ((p0k 15), .int), ((p0k 16), .long)] : List (ClassId × FieldType))) (l₂ := ([((p0k 18), .long), ((p0k 19), .int), ((p0k 20), .int)] : List (ClassId × FieldType)))).symm))
  have hP : va_P (dC, dI) cls (List.flatten ([(oX4 (p0a 0) p0a p0k p0w (srl (srl p0l 16 o_1) 17 o_2)), (oX6 (p1a 0) p1a p1k p1w p1l), (oX1 (p3a 0) p3a p3k p3n p3w p3l)] : List va_W)) H := vP_perm hP3 (bP (List.Perm.refl _))
  have hD : va_D A (List.flatten ([(oX4 (p0a 0) p0a p0k p0w (srl (srl p0l 16 o_1) 17 o_2)), (oX6 (p1a 0) p1a p1k p1w p1l), (oX1 (p3a 0) p3a p3k p3n p3w p3l)] : List va_W)) := vD_perm hD3 (bP (List.Perm.refl _))
  have hK : va_K (dC, dI) cls (List.flatten ([(tX4 p0k), (tX6 p1k), (tX1 p3k)] : List (List (ClassId × FieldType)))) s := vK_perm hK3 (bP (List.Perm.refl _))
  refine lv_iconst (v := 0) hx hb dX4_noteVariables_16 (by decide) ?_
  refine lv_istore (lv' := [(4, .int 0), (0, .ref (p0a 0)), (1, .ref (p1a 0)), (2, .int p2), (3, .ref (p3a 0))]) hx hb dX4_noteVariables_17 hl (by decide) rfl (fun ls hl => ?_)
  have L19 : ∀ (n_19 : Nat) (v4_19 : Int32) (p0l_19 : SL) (o19 : SL) (H : Heap) (locs : List Loc) (ls : Array Slot), (fX4_noteVariables_L19 p0w p1w p3w n_19) v4_19 p0l_19 = some o19 → va_P (dC, dI) cls (List.flatten ([(oX4 (p0a 0) p0a p0k p0w p0l_19), (oX6 (p1a 0) p1a p1k p1w p1l), (oX1 (p3a 0) p3a p3k p3n p3w p3l)] : List va_W)) H → va_D A (List.flatten ([(oX4 (p0a 0) p0a p0k p0w p0l_19), (oX6 (p1a 0) p1a p1k p1w p1l), (oX1 (p3a 0) p3a p3k p3n p3w p3l)] : List va_W)) → va_K (dC, dI) cls (List.flatten ([(tX4 p0k), (tX6 p1k), (tX1 p3k)] : List (List (ClassId × FieldType)))) s → va_S A s.heap H locs → lv_has ls 8 [(0, .ref (p0a 0)), (1, .ref (p1a 0)), (3, .ref (p3a 0)), (4, .int v4_19)] → (∀ (H : Heap) (locs : List Loc) (ls : Array Slot), va_P (dC, dI) cls (List.flatten ([(oX4 (p0a 0) p0a p0k p0w o19), (oX6 (p1a 0) p1a p1k p1w p1l), (oX1 (p3a 0) p3a p3k p3n p3w p3l)] : List va_W)) H → va_D A (List.flatten ([(oX4 (p0a 0) p0a p0k p0w o19), (oX6 (p1a 0) p1a p1k p1w p1l), (oX1 (p3a 0) p3a p3k p3n p3w p3l)] : List va_W)) → va_K (dC, dI) cls (List.flatten ([(tX4 p0k), (tX6 p1k), (tX1 p3k)] : List (List (ClassId × FieldType)))) s → va_S A s.heap H locs → lv_has ls 8 [] → W p l e ({ frames := 1, cells := 0, slots := 0, locals := 24 } : Room) s m ([.ref (p0a 0), .ref (p1a 0), .int p2, .ref (p3a 0)] : List Value).toArray below meth c H locs 0 0 Q (F0 m 151 ls [])) → W p l e ({ frames := 1, cells := 0, slots := 0, locals := 24 } : Room) s m ([.ref (p0a 0), .ref (p1a 0), .int p2, .ref (p3a 0)] : List Value).toArray below meth c H locs 0 0 Q (F0 m 19 ls []) := by
    intro n_19
    induction n_19 with
    | zero => intro v4_19 p0l_19 o19 H locs ls hrun; exact (no9 rfl hrun).elim
    | succ n_19 IH19 =>
      intro v4_19 p0l_19 o19 H locs ls hrun hP hD hK hS hl hk19
      unfold fX4_noteVariables_L19 at hrun
      refine lv_iload hx hb dX4_noteVariables_19 (lv_at hl 3 rfl) ?_
      refine lv_aload_n hx hb dX4_noteVariables_21 rfl (lv_at hl 2 rfl) ?_
      refine va_get (D := (dC, dI)) (ci := 4) (v := .int (p3w 0 0)) (C := RX1) (T := TX1) (N := 21) hx hb hts i_X1 hown hK hP 30 rfl rfl 0 (by decide) (hts _ qw313) (fun _ h9 => h9) rfl dX4_noteVariables_22 ?_
      rcases br9 hrun with ⟨hc3, hrun⟩ | ⟨hc3, hrun⟩
      · refine lv_icmp_ge (tgt := 151) hx hb dX4_noteVariables_25 (by decide) (fun _ => ?_) (fun c => absurd hc3 c)
        obtain rfl := (Option.some.inj hrun)
        exact hk19 _ _ _ hP hD hK hS (lv_sub hl [] rfl)
      · refine lv_icmp_ge (tgt := 151) hx hb dX4_noteVariables_25 (by decide) (fun c => absurd c hc3) (fun _ => ?_)
        refine lv_aload_n hx hb dX4_noteVariables_28 rfl (lv_at hl 0 rfl) ?_
        refine lv_iload hx hb dX4_noteVariables_29 (lv_at hl 3 rfl) ?_
        obtain ⟨o_4, hc_4, hrun⟩ := bnd9 hrun
        have hPx : va_P (dC, dI) cls ((List.flatten ([(oX4 (p0a 0) p0a p0k p0w p0l_19)] : List va_W)) ++ (List.flatten ([(oX6 (p1a 0) p1a p1k p1w p1l), (oX1 (p3a 0) p3a p3k p3n p3w p3l)] : List va_W))) H := vP_fa (vP_perm hP (bP (List.Perm.refl _)))
        have hDx : va_D A ((List.flatten ([(oX4 (p0a 0) p0a p0k p0w p0l_19)] : List va_W)) ++ (List.flatten ([(oX6 (p1a 0) p1a p1k p1w p1l), (oX1 (p3a 0) p3a p3k p3n p3w p3l)] : List va_W))) := vD_fa (vD_perm hD (bP (List.Perm.refl _)))
        have hKx : va_K (dC, dI) cls ((List.flatten ([(tX4 p0k)] : List (List (ClassId × FieldType)))) ++ (List.flatten ([(tX6 p1k), (tX1 p3k)] : List (List (ClassId × FieldType))))) s := vK_fa (vK_perm hK (bP (List.Perm.refl _)))
        have hPc := vP_l hPx
        have hDc := vD_l hDx
        have hKc := vK_l hKx
        have hFc := vfree hDx hS hA
        refine va_calli (va_runV (As := [.int v4_19]) (rest := []) ⟨hx, hb, hml, hown, hts⟩ (kX4_opsFrom l dC dI (p0a := p0a) (p0k := p0k) (p0w := p0w) (p0l := p0l_19) (p1 := v4_19) (sz := _) (o := o_4) (hrun := hc_4)) (cwV 1 hts (gi_V qw288 qw289 qw290 qw270 (gi_z qw287)) rfl rfl rfl (by decide +kernel) ⟨Nat.le_of_ble_eq_true rfl, Nat.le_of_ble_eq_true rfl⟩) ⟨PRE.blind, va_recv hKc hPc (ci := 6) (q0 := 0) rfl rfl, PRE.of hE hS hFc hPc hKc hDc⟩ rfl rfl hl.1 rfl (lv_room (Nat.le_of_ble_eq_true rfl)) dX4_noteVariables_31 ⟨(Nat.le_of_ble_eq_true rfl), (Nat.le_of_ble_eq_true rfl)⟩) hS (fun q _ h => hFc q h) hFc (fun r5 u t H locs ht hvm hw hB hz1 hk1 hS => ?_)
        obtain ⟨b1, b2, b3⟩ := hB
        rw [ht] at b1
        obtain ⟨hP, hD, hK⟩ := JOINC (wc := (List.flatten ([(oX4 (p0a 0) p0a p0k p0w p0l_19)] : List va_W))) (wr := (List.flatten ([(oX6 (p1a 0) p1a p1k p1w p1l), (oX1 (p3a 0) p3a p3k p3n p3w p3l)] : List va_W))) (w1 := (List.flatten ([(oX4 (p0a 0) p0a p0k p0w p0l_19)] : List va_W))) (t1 := (List.flatten ([(tX4 p0k)] : List (List (ClassId × FieldType))))) hPx hDx hKx hk1 hFc b1 (va_K.moved hvm.symm b2) b3
        have hP : va_P (dC, dI) cls (List.flatten ([(oX4 (p0a 0) p0a p0k p0w p0l_19), (oX6 (p1a 0) p1a p1k p1w p1l), (oX1 (p3a 0) p3a p3k p3n p3w p3l)] : List va_W)) H := vP_perm (vP_fb hP) (bP (List.Perm.refl _))
        have hD : va_D A (List.flatten ([(oX4 (p0a 0) p0a p0k p0w p0l_19), (oX6 (p1a 0) p1a p1k p1w p1l), (oX1 (p3a 0) p3a p3k p3n p3w p3l)] : List va_W)) := vD_perm (vD_fb hD) (bP (List.Perm.refl _))
        have hK : va_K (dC, dI) cls (List.flatten ([(tX4 p0k), (tX6 p1k), (tX1 p3k)] : List (List (ClassId × FieldType)))) s := vK_perm (vK_fb hK) (bP (List.Perm.refl _))
        obtain rfl : o_4 = r5 := hw.symm
        refine lv_istore (lv' := [(5, .int o_4), (0, .ref (p0a 0)), (1, .ref (p1a 0)), (3, .ref (p3a 0)), (4, .int v4_19)]) hx hb dX4_noteVariables_34 hl (by decide) rfl (fun ls hl => ?_)
        have L36 : ∀ (n_36 : Nat) (v5_36 : Int32) (p0l_36 : SL) (o36 : SL) (H : Heap) (locs : List Loc) (ls : Array Slot), (fX4_noteVariables_L36 p0w p1w v4_19 n_36) v5_36 p0l_36 = some o36 → va_P (dC, dI) cls (List.flatten ([(oX4 (p0a 0) p0a p0k p0w p0l_36), (oX6 (p1a 0) p1a p1k p1w p1l), (oX1 (p3a 0) p3a p3k p3n p3w p3l)] : List va_W)) H → va_D A (List.flatten ([(oX4 (p0a 0) p0a p0k p0w p0l_36), (oX6 (p1a 0) p1a p1k p1w p1l), (oX1 (p3a 0) p3a p3k p3n p3w p3l)] : List va_W)) → va_K (dC, dI) cls (List.flatten ([(tX4 p0k), (tX6 p1k), (tX1 p3k)] : List (List (ClassId × FieldType)))) s → va_S A s.heap H locs → lv_has ls 8 [(0, .ref (p0a 0)), (1, .ref (p1a 0)), (3, .ref (p3a 0)), (4, .int v4_19), (5, .int v5_36)] → (∀ (H : Heap) (locs : List Loc) (ls : Array Slot), va_P (dC, dI) cls (List.flatten ([(oX4 (p0a 0) p0a p0k p0w o36), (oX6 (p1a 0) p1a p1k p1w p1l), (oX1 (p3a 0) p3a p3k p3n p3w p3l)] : List va_W)) H → va_D A (List.flatten ([(oX4 (p0a 0) p0a p0k p0w o36), (oX6 (p1a 0) p1a p1k p1w p1l), (oX1 (p3a 0) p3a p3k p3n p3w p3l)] : List va_W)) → va_K (dC, dI) cls (List.flatten ([(tX4 p0k), (tX6 p1k), (tX1 p3k)] : List (List (ClassId × FieldType)))) s → va_S A s.heap H locs → lv_has ls 8 [(0, .ref (p0a 0)), (1, .ref (p1a 0)), (3, .ref (p3a 0)), (4, .int v4_19)] → W p l e ({ frames := 1, cells := 0, slots := 0, locals := 24 } : Room) s m ([.ref (p0a 0), .ref (p1a 0), .int p2, .ref (p3a 0)] : List Value).toArray below meth c H locs 0 0 Q (F0 m 145 ls [])) → W p l e ({ frames := 1, cells := 0, slots := 0, locals := 24 } : Room) s m ([.ref (p0a 0), .ref (p1a 0), .int p2, .ref (p3a 0)] : List Value).toArray below meth c H locs 0 0 Q (F0 m 36 ls []) := by
          intro n_36
          induction n_36 with
          | zero => intro v5_36 p0l_36 o36 H locs ls hrun; exact (no9 rfl hrun).elim
          | succ n_36 IH36 =>
            intro v5_36 p0l_36 o36 H locs ls hrun hP hD hK hS hl hk36
            unfold fX4_noteVariables_L36 at hrun
            refine lv_iload hx hb dX4_noteVariables_36 (lv_at hl 4 rfl) ?_
            refine lv_aload_n hx hb dX4_noteVariables_38 rfl (lv_at hl 0 rfl) ?_
            refine lv_iload hx hb dX4_noteVariables_39 (lv_at hl 3 rfl) ?_
            obtain ⟨o_6, hc_6, hrun⟩ := bnd9 hrun
            have hPx : va_P (dC, dI) cls ((List.flatten ([(oX4 (p0a 0) p0a p0k p0w p0l_36)] : List va_W)) ++ (List.flatten ([(oX6 (p1a 0) p1a p1k p1w p1l), (oX1 (p3a 0) p3a p3k p3n p3w p3l)] : List va_W))) H := vP_fa (vP_perm hP (bP (List.Perm.refl _)))
            have hDx : va_D A ((List.flatten ([(oX4 (p0a 0) p0a p0k p0w p0l_36)] : List va_W)) ++ (List.flatten ([(oX6 (p1a 0) p1a p1k p1w p1l), (oX1 (p3a 0) p3a p3k p3n p3w p3l)] : List va_W))) := vD_fa (vD_perm hD (bP (List.Perm.refl _)))
            have hKx : va_K (dC, dI) cls ((List.flatten ([(tX4 p0k)] : List (List (ClassId × FieldType)))) ++ (List.flatten ([(tX6 p1k), (tX1 p3k)] : List (List (ClassId × FieldType))))) s := vK_fa (vK_perm hK (bP (List.Perm.refl _)))
            have hPc := vP_l hPx
            have hDc := vD_l hDx
            have hKc := vK_l hKx
            have hFc := vfree hDx hS hA
            refine va_calli (va_runV (As := [.int v4_19]) (rest := [.int v5_36]) ⟨hx, hb, hml, hown, hts⟩ (kX4_opsTo l dC dI (p0a := p0a) (p0k := p0k) (p0w := p0w) (p0l := p0l_36) (p1 := v4_19) (sz := _) (o := o_6) (hrun := hc_6)) (cwV 1 hts (gi_V qw292 qw293 qw294 qw270 (gi_z qw291)) rfl rfl rfl (by decide +kernel) ⟨Nat.le_of_ble_eq_true rfl, Nat.le_of_ble_eq_true rfl⟩) ⟨PRE.blind, va_recv hKc hPc (ci := 6) (q0 := 0) rfl rfl, PRE.of hE hS hFc hPc hKc hDc⟩ rfl rfl hl.1 rfl (lv_room (Nat.le_of_ble_eq_true rfl)) dX4_noteVariables_41 ⟨(Nat.le_of_ble_eq_true rfl), (Nat.le_of_ble_eq_true rfl)⟩) hS (fun q _ h => hFc q h) hFc (fun r7 u t H locs ht hvm hw hB hz1 hk1 hS => ?_)
            obtain ⟨b1, b2, b3⟩ := hB
            rw [ht] at b1
            obtain ⟨hP, hD, hK⟩ := JOINC (wc := (List.flatten ([(oX4 (p0a 0) p0a p0k p0w p0l_36)] : List va_W))) (wr := (List.flatten ([(oX6 (p1a 0) p1a p1k p1w p1l), (oX1 (p3a 0) p3a p3k p3n p3w p3l)] : List va_W))) (w1 := (List.flatten ([(oX4 (p0a 0) p0a p0k p0w p0l_36)] : List va_W))) (t1 := (List.flatten ([(tX4 p0k)] : List (List (ClassId × FieldType))))) hPx hDx hKx hk1 hFc b1 (va_K.moved hvm.symm b2) b3
            have hP : va_P (dC, dI) cls (List.flatten ([(oX4 (p0a 0) p0a p0k p0w p0l_36), (oX6 (p1a 0) p1a p1k p1w p1l), (oX1 (p3a 0) p3a p3k p3n p3w p3l)] : List va_W)) H := vP_perm (vP_fb hP) (bP (List.Perm.refl _))
            have hD : va_D A (List.flatten ([(oX4 (p0a 0) p0a p0k p0w p0l_36), (oX6 (p1a 0) p1a p1k p1w p1l), (oX1 (p3a 0) p3a p3k p3n p3w p3l)] : List va_W)) := vD_perm (vD_fb hD) (bP (List.Perm.refl _))
            have hK : va_K (dC, dI) cls (List.flatten ([(tX4 p0k), (tX6 p1k), (tX1 p3k)] : List (List (ClassId × FieldType)))) s := vK_perm (vK_fb hK) (bP (List.Perm.refl _))
            obtain rfl : o_6 = r7 := hw.symm
            rcases br9 hrun with ⟨hc8, hrun⟩ | ⟨hc8, hrun⟩
            · refine lv_icmp_ge (tgt := 145) hx hb dX4_noteVariables_44 (by decide) (fun _ => ?_) (fun c => absurd hc8 c)
              obtain rfl := (Option.some.inj hrun)
              exact hk36 _ _ _ hP hD hK hS (lv_sub hl [0, 1, 2, 3] rfl)
            · refine lv_icmp_ge (tgt := 145) hx hb dX4_noteVariables_44 (by decide) (fun c => absurd c hc8) (fun _ => ?_)
              refine lv_aload_n hx hb dX4_noteVariables_47 rfl (lv_at hl 1 rfl) ?_
              refine va_get (D := (dC, dI)) (ci := 2) (v := .ref (p1a 9)) (C := RX6) (T := TX6) (N := 13) hx hb hts i_X6 hown hK hP 19 rfl rfl 8 (by decide) (hts _ qw263) (fun _ h9 => h9) rfl dX4_noteVariables_48 ?_
              refine lv_iload hx hb dX4_noteVariables_51 (lv_at hl 4 rfl) ?_
              obtain ⟨hq9, hrun⟩ := chk9 hrun
              refine va_iald hx hb hK hP 26 24 rfl rfl (ixb_in hq9) dX4_noteVariables_53 ?_
              refine lv_istore (lv' := [(6, .int (p1w 9 (nn v5_36))), (0, .ref (p0a 0)), (1, .ref (p1a 0)), (3, .ref (p3a 0)), (4, .int v4_19), (5, .int v5_36)]) hx hb dX4_noteVariables_54 hl (by decide) rfl (fun ls hl => ?_)
              refine lv_aload_n hx hb dX4_noteVariables_56 rfl (lv_at hl 2 rfl) ?_
              refine va_get (D := (dC, dI)) (ci := 2) (v := .ref (p1a 10)) (C := RX6) (T := TX6) (N := 13) hx hb hts i_X6 hown hK hP 19 rfl rfl 9 (by decide) (hts _ qw265) (fun _ h9 => h9) rfl dX4_noteVariables_57 ?_
              refine lv_iload hx hb dX4_noteVariables_60 (lv_at hl 5 rfl) ?_
              obtain ⟨hq10, hrun⟩ := chk9 hrun
              refine va_iald hx hb hK hP 27 25 rfl rfl (ixb_in hq10) dX4_noteVariables_62 ?_
              refine lv_istore (lv' := [(7, .int (p1w 10 (nn v5_36))), (6, .int (p1w 9 (nn v5_36))), (0, .ref (p0a 0)), (1, .ref (p1a 0)), (3, .ref (p3a 0)), (4, .int v4_19), (5, .int v5_36)]) hx hb dX4_noteVariables_63 hl (by decide) rfl (fun ls hl => ?_)
              refine lv_iload hx hb dX4_noteVariables_65 (lv_at hl 1 rfl) ?_
              refine lv_bipush (v := 30) hx hb dX4_noteVariables_67 (by decide) ?_
              have J139 : ∀ (p0l_139 : SL) (H : Heap) (locs : List Loc) (ls : Array Slot), (fX4_noteVariables_J139 (fX4_noteVariables_L36 p0w p1w v4_19 n_36) v5_36 p0l_139) = some o36 → va_P (dC, dI) cls (List.flatten ([(oX4 (p0a 0) p0a p0k p0w p0l_139), (oX6 (p1a 0) p1a p1k p1w p1l), (oX1 (p3a 0) p3a p3k p3n p3w p3l)] : List va_W)) H → va_D A (List.flatten ([(oX4 (p0a 0) p0a p0k p0w p0l_139), (oX6 (p1a 0) p1a p1k p1w p1l), (oX1 (p3a 0) p3a p3k p3n p3w p3l)] : List va_W)) → va_K (dC, dI) cls (List.flatten ([(tX4 p0k), (tX6 p1k), (tX1 p3k)] : List (List (ClassId × FieldType)))) s → va_S A s.heap H locs → lv_has ls 8 [(0, .ref (p0a 0)), (1, .ref (p1a 0)), (3, .ref (p3a 0)), (4, .int v4_19), (5, .int v5_36)] → W p l e ({ frames := 1, cells := 0, slots := 0, locals := 24 } : Room) s m ([.ref (p0a 0), .ref (p1a 0), .int p2, .ref (p3a 0)] : List Value).toArray below meth c H locs 0 0 Q (F0 m 139 ls []) := by
                intro p0l_139 H locs ls hrun hP hD hK hS hl 
                unfold fX4_noteVariables_J139 at hrun
                refine lv_iinc (v := (v5_36 + 1)) (lv' := [(5, .int (v5_36 + 1)), (0, .ref (p0a 0)), (1, .ref (p1a 0)), (3, .ref (p3a 0)), (4, .int v4_19)]) hx hb dX4_noteVariables_139 hl (k := 4) rfl rfl (by decide) rfl (fun ls hl => ?_)
                refine lv_goto (tgt := 36) hx hb dX4_noteVariables_142 (by decide) ?_
                exact IH36 (v5_36 + 1) p0l_139 o36 _ _ _ hrun hP hD hK hS (lv_sub hl [1, 2, 3, 4, 0] rfl) hk36
              have J104 : ∀ (H : Heap) (locs : List Loc) (ls : Array Slot), (fX4_noteVariables_J104 (fX4_noteVariables_L36 p0w p1w v4_19 n_36) p1w v4_19 v5_36 p0l_36) = some o36 → va_P (dC, dI) cls (List.flatten ([(oX4 (p0a 0) p0a p0k p0w p0l_36), (oX6 (p1a 0) p1a p1k p1w p1l), (oX1 (p3a 0) p3a p3k p3n p3w p3l)] : List va_W)) H → va_D A (List.flatten ([(oX4 (p0a 0) p0a p0k p0w p0l_36), (oX6 (p1a 0) p1a p1k p1w p1l), (oX1 (p3a 0) p3a p3k p3n p3w p3l)] : List va_W)) → va_K (dC, dI) cls (List.flatten ([(tX4 p0k), (tX6 p1k), (tX1 p3k)] : List (List (ClassId × FieldType)))) s → va_S A s.heap H locs → lv_has ls 8 [(0, .ref (p0a 0)), (1, .ref (p1a 0)), (3, .ref (p3a 0)), (4, .int v4_19), (5, .int v5_36), (6, .int (p1w 9 (nn v5_36))), (7, .int (p1w 10 (nn v5_36)))] → W p l e ({ frames := 1, cells := 0, slots := 0, locals := 24 } : Room) s m ([.ref (p0a 0), .ref (p1a 0), .int p2, .ref (p3a 0)] : List Value).toArray below meth c H locs 0 0 Q (F0 m 104 ls []) := by
                intro  H locs ls hrun hP hD hK hS hl 
                unfold fX4_noteVariables_J104 at hrun
                refine lv_iload hx hb dX4_noteVariables_104 (lv_at hl 5 rfl) ?_
                refine lv_bipush (v := 31) hx hb dX4_noteVariables_106 (by decide) ?_
                have J125 : ∀ (H : Heap) (locs : List Loc) (ls : Array Slot), (fX4_noteVariables_J125 (fX4_noteVariables_L36 p0w p1w v4_19 n_36) p1w v4_19 v5_36 p0l_36) = some o36 → va_P (dC, dI) cls (List.flatten ([(oX4 (p0a 0) p0a p0k p0w p0l_36), (oX6 (p1a 0) p1a p1k p1w p1l), (oX1 (p3a 0) p3a p3k p3n p3w p3l)] : List va_W)) H → va_D A (List.flatten ([(oX4 (p0a 0) p0a p0k p0w p0l_36), (oX6 (p1a 0) p1a p1k p1w p1l), (oX1 (p3a 0) p3a p3k p3n p3w p3l)] : List va_W)) → va_K (dC, dI) cls (List.flatten ([(tX4 p0k), (tX6 p1k), (tX1 p3k)] : List (List (ClassId × FieldType)))) s → va_S A s.heap H locs → lv_has ls 8 [(0, .ref (p0a 0)), (1, .ref (p1a 0)), (3, .ref (p3a 0)), (4, .int v4_19), (5, .int v5_36), (7, .int (p1w 10 (nn v5_36)))] → W p l e ({ frames := 1, cells := 0, slots := 0, locals := 24 } : Room) s m ([.ref (p0a 0), .ref (p1a 0), .int p2, .ref (p3a 0)] : List Value).toArray below meth c H locs 0 0 Q (F0 m 125 ls []) := by
                  intro  H locs ls hrun hP hD hK hS hl 
                  unfold fX4_noteVariables_J125 at hrun
                  refine lv_aload_n hx hb dX4_noteVariables_125 rfl (lv_at hl 0 rfl) ?_
                  refine va_get (D := (dC, dI)) (ci := 6) (v := .ref (p0a 17)) (C := RX4) (T := TX4) (N := 20) hx hb hts i_X4 hown hK hP 0 rfl rfl 16 (by decide) (hts _ qw385) (fun _ h9 => h9) rfl dX4_noteVariables_126 ?_
                  refine lv_iload hx hb dX4_noteVariables_129 (lv_at hl 5 rfl) ?_
                  refine lv_dup2_11 hx hb dX4_noteVariables_131 rfl rfl ?_
                  obtain ⟨hq11, hrun⟩ := chk9 hrun
                  refine va_lald hx hb hK hP 15 14 rfl rfl (ixb_in hq11) dX4_noteVariables_132 ?_
                  refine lv_lconst (v := 1) hx hb dX4_noteVariables_133 (by decide) ?_
                  refine lv_iload hx hb dX4_noteVariables_134 (lv_at hl 3 rfl) ?_
                  refine lv_lshl (v := (((1 : Int64) <<< ((v4_19 : Int32).toInt64 &&& 63)))) hx hb dX4_noteVariables_136 rfl ?_
                  refine lv_lor hx hb dX4_noteVariables_137 ?_
                  obtain ⟨hq12, hrun⟩ := chk9 hrun
                  refine va_last hx hb hK hP hD hS 15 14 rfl rfl (ixb_in hq12) dX4_noteVariables_138 (fun H locs hP hD hS => ?_)
                  have hP : va_P (dC, dI) cls (List.flatten ([(oX4 (p0a 0) p0a p0k p0w (upl p0l_36 17 (nn (p1w 10 (nn v5_36))) ((p0l_36 17 (nn (p1w 10 (nn v5_36)))) ||| (((1 : Int64) <<< ((v4_19 : Int32).toInt64 &&& 63)))))), (oX6 (p1a 0) p1a p1k p1w p1l), (oX1 (p3a 0) p3a p3k p3n p3w p3l)] : List va_W)) H := hP
                  have hD : va_D A (List.flatten ([(oX4 (p0a 0) p0a p0k p0w (upl p0l_36 17 (nn (p1w 10 (nn v5_36))) ((p0l_36 17 (nn (p1w 10 (nn v5_36)))) ||| (((1 : Int64) <<< ((v4_19 : Int32).toInt64 &&& 63)))))), (oX6 (p1a 0) p1a p1k p1w p1l), (oX1 (p3a 0) p3a p3k p3n p3w p3l)] : List va_W)) := hD
                  obtain ⟨l13, el13, hrun⟩ := let9 hrun
                  rw [← el13] at hP hD
                  exact J139 l13 _ _ _ hrun hP hD hK hS (lv_sub hl [0, 1, 2, 3, 4] rfl)
                rcases br9 hrun with ⟨hc14, hrun⟩ | ⟨hc14, hrun⟩
                · refine lv_icmp_eq (tgt := 125) hx hb dX4_noteVariables_108 (by decide) (fun _ => ?_) (fun c => absurd hc14 c)
                  exact J125 _ _ _ hrun hP hD hK hS (lv_sub hl [0, 1, 2, 3, 4, 6] rfl)
                · refine lv_icmp_eq (tgt := 125) hx hb dX4_noteVariables_108 (by decide) (fun c => absurd c hc14) (fun _ => ?_)
                  refine lv_iload hx hb dX4_noteVariables_111 (lv_at hl 5 rfl) ?_
                  refine lv_bipush (v := 32) hx hb dX4_noteVariables_113 (by decide) ?_
                  rcases br9 hrun with ⟨hc15, hrun⟩ | ⟨hc15, hrun⟩
                  · refine lv_icmp_eq (tgt := 125) hx hb dX4_noteVariables_115 (by decide) (fun _ => ?_) (fun c => absurd hc15 c)
                    exact J125 _ _ _ hrun hP hD hK hS (lv_sub hl [0, 1, 2, 3, 4, 6] rfl)
                  · refine lv_icmp_eq (tgt := 125) hx hb dX4_noteVariables_115 (by decide) (fun c => absurd c hc15) (fun _ => ?_)
                    refine lv_iload hx hb dX4_noteVariables_118 (lv_at hl 5 rfl) ?_
                    refine lv_bipush (v := 21) hx hb dX4_noteVariables_120 (by decide) ?_
                    rcases br9 hrun with ⟨hc16, hrun⟩ | ⟨hc16, hrun⟩
                    · refine lv_icmp_ne (tgt := 139) hx hb dX4_noteVariables_122 (by decide) (fun c => absurd hc16 c) (fun _ => ?_)
                      exact J125 _ _ _ hrun hP hD hK hS (lv_sub hl [0, 1, 2, 3, 4, 6] rfl)
                    · refine lv_icmp_ne (tgt := 139) hx hb dX4_noteVariables_122 (by decide) (fun _ => ?_) (fun c => absurd c hc16)
                      exact J139 p0l_36 _ _ _ hrun hP hD hK hS (lv_sub hl [0, 1, 2, 3, 4] rfl)
              rcases br9 hrun with ⟨hc17, hrun⟩ | ⟨hc17, hrun⟩
              · refine lv_icmp_ne (tgt := 104) hx hb dX4_noteVariables_69 (by decide) (fun c => absurd hc17 c) (fun _ => ?_)
                refine lv_aload_n hx hb dX4_noteVariables_72 rfl (lv_at hl 2 rfl) ?_
                refine va_get (D := (dC, dI)) (ci := 6) (v := .ref (p0a 17)) (C := RX4) (T := TX4) (N := 20) hx hb hts i_X4 hown hK hP 0 rfl rfl 16 (by decide) (hts _ qw385) (fun _ h9 => h9) rfl dX4_noteVariables_73 ?_
                refine lv_iload hx hb dX4_noteVariables_76 (lv_at hl 0 rfl) ?_
                obtain ⟨hq18, hrun⟩ := chk9 hrun
                refine va_lald hx hb hK hP 15 14 rfl rfl (ixb_in hq18) dX4_noteVariables_78 ?_
                refine lv_iload hx hb dX4_noteVariables_79 (lv_at hl 5 rfl) ?_
                obtain ⟨o_19, hc_19, hrun⟩ := bnd9 hrun
                have hPx : va_P (dC, dI) cls ((List.flatten ([] : List va_W)) ++ (List.flatten ([(oX4 (p0a 0) p0a p0k p0w p0l_36), (oX6 (p1a 0) p1a p1k p1w p1l), (oX1 (p3a 0) p3a p3k p3n p3w p3l)] : List va_W))) H := vP_fa (vP_perm hP (bP (List.Perm.refl _)))
                have hDx : va_D A ((List.flatten ([] : List va_W)) ++ (List.flatten ([(oX4 (p0a 0) p0a p0k p0w p0l_36), (oX6 (p1a 0) p1a p1k p1w p1l), (oX1 (p3a 0) p3a p3k p3n p3w p3l)] : List va_W))) := vD_fa (vD_perm hD (bP (List.Perm.refl _)))
                have hKx : va_K (dC, dI) cls ((List.flatten ([] : List (List (ClassId × FieldType)))) ++ (List.flatten ([(tX4 p0k), (tX6 p1k), (tX1 p3k)] : List (List (ClassId × FieldType))))) s := vK_fa (vK_perm hK (bP (List.Perm.refl _)))
                have hPc := vP_l hPx
                have hDc := vD_l hDx
                have hKc := vK_l hKx
                have hFc := vfree hDx hS hA
                refine va_calli (va_runSN (As := [.long (p0l_36 17 (nn (p1w 10 (nn v5_36)))), .int v4_19]) (rest := []) ⟨hx, hb, hml, hown, hts⟩ (kX11_holds l dC dI (p0 := (p0l_36 17 (nn (p1w 10 (nn v5_36))))) (p1 := v4_19) (sz := _) (o := o_19) (hrun := hc_19)) ⟨(va_cnB 2 hts (gi_z qw192) rfl rfl rfl (hE.nw (List.mem_append_right _ (tbl_6 (i := 75) rfl)) rfl) (hts _ qw129) (by decide +kernel) ⟨Nat.le_of_ble_eq_true rfl, Nat.le_of_ble_eq_true rfl⟩), (hts _ qw193), trivial⟩ ⟨PRE.blind, PRE.of hE hS hFc hPc hKc hDc⟩ rfl rfl hl.1 rfl (lv_room (Nat.le_of_ble_eq_true rfl)) dX4_noteVariables_81 ⟨(Nat.le_of_ble_eq_true rfl), (Nat.le_of_ble_eq_true rfl)⟩) hS (fun q _ h => hFc q h) hFc (fun r20 u t H locs ht hvm hw hB hz1 hk1 hS => ?_)
                obtain ⟨b1, b2, b3⟩ := hB
                rw [ht] at b1
                obtain ⟨hP, hD, hK⟩ := JOINC (wc := (List.flatten ([] : List va_W))) (wr := (List.flatten ([(oX4 (p0a 0) p0a p0k p0w p0l_36), (oX6 (p1a 0) p1a p1k p1w p1l), (oX1 (p3a 0) p3a p3k p3n p3w p3l)] : List va_W))) (w1 := (List.flatten ([] : List va_W))) (t1 := (List.flatten ([] : List (List (ClassId × FieldType))))) hPx hDx hKx hk1 hFc b1 (va_K.moved hvm.symm b2) b3
                have hP : va_P (dC, dI) cls (List.flatten ([(oX4 (p0a 0) p0a p0k p0w p0l_36), (oX6 (p1a 0) p1a p1k p1w p1l), (oX1 (p3a 0) p3a p3k p3n p3w p3l)] : List va_W)) H := vP_perm (vP_fb hP) (bP (List.Perm.refl _))
                have hD : va_D A (List.flatten ([(oX4 (p0a 0) p0a p0k p0w p0l_36), (oX6 (p1a 0) p1a p1k p1w p1l), (oX1 (p3a 0) p3a p3k p3n p3w p3l)] : List va_W)) := vD_perm (vD_fb hD) (bP (List.Perm.refl _))
                have hK : va_K (dC, dI) cls (List.flatten ([(tX4 p0k), (tX6 p1k), (tX1 p3k)] : List (List (ClassId × FieldType)))) s := vK_perm (vK_fb hK) (bP (List.Perm.refl _))
                obtain rfl : o_19 = r20 := hw.symm
                rcases br9 hrun with ⟨hc21, hrun⟩ | ⟨hc21, hrun⟩
                · refine lv_if_ne (tgt := 104) hx hb dX4_noteVariables_84 (by decide) (fun c => absurd hc21 c) (fun _ => ?_)
                  refine lv_aload_n hx hb dX4_noteVariables_87 rfl (lv_at hl 2 rfl) ?_
                  refine va_get (D := (dC, dI)) (ci := 6) (v := .ref (p0a 16)) (C := RX4) (T := TX4) (N := 20) hx hb hts i_X4 hown hK hP 0 rfl rfl 15 (by decide) (hts _ qw384) (fun _ h9 => h9) rfl dX4_noteVariables_88 ?_
                  refine lv_iload hx hb dX4_noteVariables_91 (lv_at hl 0 rfl) ?_
                  refine lv_dup2_11 hx hb dX4_noteVariables_93 rfl rfl ?_
                  obtain ⟨hq22, hrun⟩ := chk9 hrun
                  refine va_lald hx hb hK hP 14 13 rfl rfl (ixb_in hq22) dX4_noteVariables_94 ?_
                  refine lv_lconst (v := 1) hx hb dX4_noteVariables_95 (by decide) ?_
                  refine lv_iload hx hb dX4_noteVariables_96 (lv_at hl 5 rfl) ?_
                  refine lv_lshl (v := (((1 : Int64) <<< ((v4_19 : Int32).toInt64 &&& 63)))) hx hb dX4_noteVariables_98 rfl ?_
                  refine lv_lor hx hb dX4_noteVariables_99 ?_
                  obtain ⟨hq23, hrun⟩ := chk9 hrun
                  refine va_last hx hb hK hP hD hS 14 13 rfl rfl (ixb_in hq23) dX4_noteVariables_100 (fun H locs hP hD hS => ?_)
                  have hP : va_P (dC, dI) cls (List.flatten ([(oX4 (p0a 0) p0a p0k p0w (upl p0l_36 16 (nn (p1w 10 (nn v5_36))) ((p0l_36 16 (nn (p1w 10 (nn v5_36)))) ||| (((1 : Int64) <<< ((v4_19 : Int32).toInt64 &&& 63)))))), (oX6 (p1a 0) p1a p1k p1w p1l), (oX1 (p3a 0) p3a p3k p3n p3w p3l)] : List va_W)) H := hP
                  have hD : va_D A (List.flatten ([(oX4 (p0a 0) p0a p0k p0w (upl p0l_36 16 (nn (p1w 10 (nn v5_36))) ((p0l_36 16 (nn (p1w 10 (nn v5_36)))) ||| (((1 : Int64) <<< ((v4_19 : Int32).toInt64 &&& 63)))))), (oX6 (p1a 0) p1a p1k p1w p1l), (oX1 (p3a 0) p3a p3k p3n p3w p3l)] : List va_W)) := hD
                  obtain ⟨l24, el24, hrun⟩ := let9 hrun
                  rw [← el24] at hP hD
                  refine lv_goto (tgt := 139) hx hb dX4_noteVariables_101 (by decide) ?_
                  exact J139 l24 _ _ _ hrun hP hD hK hS (lv_sub hl [2, 3, 4, 5, 6] rfl)
                · refine lv_if_ne (tgt := 104) hx hb dX4_noteVariables_84 (by decide) (fun _ => ?_) (fun c => absurd c hc21)
                  exact J104 _ _ _ hrun hP hD hK hS (lv_sub hl [2, 3, 4, 5, 6, 1, 0] rfl)
              · refine lv_icmp_ne (tgt := 104) hx hb dX4_noteVariables_69 (by decide) (fun _ => ?_) (fun c => absurd c hc17)
                exact J104 _ _ _ hrun hP hD hK hS (lv_sub hl [2, 3, 4, 5, 6, 1, 0] rfl)
        obtain ⟨o36, hc36, hrun⟩ := bnd9 hrun
        refine L36 NF o_4 p0l_19 o36 _ _ _ hc36 hP hD hK hS (lv_sub hl [1, 2, 3, 4, 0] rfl) ?_
        intro H locs ls hP hD hK hS hl
        have hl := hl
        refine lv_iinc (v := (v4_19 + 1)) (lv' := [(4, .int (v4_19 + 1)), (0, .ref (p0a 0)), (1, .ref (p1a 0)), (3, .ref (p3a 0))]) hx hb dX4_noteVariables_145 hl (k := 3) rfl rfl (by decide) rfl (fun ls hl => ?_)
        refine lv_goto (tgt := 19) hx hb dX4_noteVariables_148 (by decide) ?_
        exact IH19 (v4_19 + 1) o36 o19 _ _ _ hrun hP hD hK hS (lv_sub hl [1, 2, 3, 0] rfl) hk19
  obtain ⟨o19, hc19, hrun⟩ := bnd9 hrun
  refine L19 NF 0 (srl (srl p0l 16 o_1) 17 o_2) o19 _ _ _ hc19 hP hD hK hS (lv_sub hl [1, 2, 4, 0] rfl) ?_
  intro H locs ls hP hD hK hS hl
  have hl := hl
  have ho9 : o19 = o := Option.some.inj hrun
  have hP9 : va_P (dC, dI) cls (List.flatten ([(oX4 (p0a 0) p0a p0k p0w o), (oX6 (p1a 0) p1a p1k p1w p1l), (oX1 (p3a 0) p3a p3k p3n p3w p3l)] : List va_W)) H := by first | exact hP | (rw [← ho9]; exact hP)
  have hD9 : va_D A (List.flatten ([(oX4 (p0a 0) p0a p0k p0w o), (oX6 (p1a 0) p1a p1k p1w p1l), (oX1 (p3a 0) p3a p3k p3n p3w p3l)] : List va_W)) := by first | exact hD | (rw [← ho9]; exact hD)
  subst hQ
  exact W.vret hx hb hr (fun t ht hW => ⟨⟨(), rfl, trivial, ⟨by rw [ht]; exact hP9, va_K.moved hW.alike hK, hD9⟩⟩, hS.F ht⟩) hS.2.2 dX4_noteVariables_151
def fX4_wantedAt_J112 (kk46 : Int64 → Int32 → Option Int64) (v9_46 : Int32) (v3_112 : Int64) : Option Int64 := (kk46 v3_112 (v9_46 + (-1)))
def fX4_wantedAt_J84 (kk46 : Int64 → Int32 → Option Int64) (p0l : SL) (p2 : Int32) (v3_46 : Int64) (v9_46 : Int32) (y0_84 : Int32) : Option Int64 := (if y0_84 = 0 then (fX4_wantedAt_J112 kk46 v9_46 v3_46) else (if ixb p2 320 = true then ((fX11_holds (p0l 17 (nn p2)) v9_46).bind fun (o_10 : Int32) => (if o_10 = 0 then (fX4_wantedAt_J112 kk46 v9_46 (v3_46 ||| (((1 : Int64) <<< ((v9_46 : Int32).toInt64 &&& 63))))) else (fX4_wantedAt_J112 kk46 v9_46 v3_46))) else none))
def fX4_wantedAt_J79 (kk46 : Int64 → Int32 → Option Int64) (p0l : SL) (p2 : Int32) (v3_46 : Int64) (v9_46 : Int32) : Option Int64 := (fX4_wantedAt_J84 kk46 p0l p2 v3_46 v9_46 1)
def fX4_wantedAt_L46 (p0l : SL) (p1w : ST) (p2 : Int32) : Nat → Int64 → Int32 → Option Int64
  | 0 => fun _ _ => none
  | n_46 + 1 => fun v3_46 v9_46 => (if v9_46 < 0 then some v3_46 else (if ixb v9_46 60 = true then ((fX4_isIn v3_46 (p1w 10 (nn v9_46))).bind fun (o_6 : Int32) => (if o_6 = 0 then (if ixb v9_46 60 = true then ((fX4_isIn v3_46 (p1w 11 (nn v9_46))).bind fun (o_15 : Int32) => (if o_15 = 0 then (fX4_wantedAt_J84 (fX4_wantedAt_L46 p0l p1w p2 n_46) p0l p2 v3_46 v9_46 0) else (fX4_wantedAt_J79 (fX4_wantedAt_L46 p0l p1w p2 n_46) p0l p2 v3_46 v9_46))) else none) else (fX4_wantedAt_J79 (fX4_wantedAt_L46 p0l p1w p2 n_46) p0l p2 v3_46 v9_46))) else none))
def fX4_wantedAt_J130 (kk23 : Int64 → Int32 → Int32 → Option Int64) (v6_23 : Int32) (o46 : Int64) (y0_130 : Int32) : Option Int64 := (kk23 o46 y0_130 (v6_23 + 1))
def fX4_wantedAt_L23 (p0l : SL) (p1w : ST) (p2 : Int32) : Nat → Int64 → Int32 → Int32 → Option Int64
  | 0 => fun _ _ _ => none
  | n_23 + 1 => fun v3_23 v5_23 v6_23 => (if v5_23 = 0 then some v3_23 else (if 60 < v6_23 then some v3_23 else ((fX4_wantedAt_L46 p0l p1w p2 NF v3_23 ((p1w 0 0) - 1)).bind fun (o46 : Int64) => (if (lg_cmp o46 v3_23) = 0 then (fX4_wantedAt_J130 (fX4_wantedAt_L23 p0l p1w p2 n_23) v6_23 o46 0) else (fX4_wantedAt_J130 (fX4_wantedAt_L23 p0l p1w p2 n_23) v6_23 o46 1)))))
def fX4_wantedAt_J18 (p0l : SL) (p1w : ST) (p2 : Int32) (y0_18 : Int32) : Option Int64 := ((fX4_wantedAt_L23 p0l p1w p2 NF (p0l 16 (nn p2)) y0_18 0).bind fun (o23 : Int64) => some o23)
def fX4_wantedAt (p0l : SL) (p1w : ST) (p2 : Int32) : Option Int64 := (if ixb p2 320 = true then (if (lg_cmp (p0l 16 (nn p2)) (0 : Int64)) = 0 then (fX4_wantedAt_J18 p0l p1w p2 0) else (fX4_wantedAt_J18 p0l p1w p2 1)) else none)
set_option maxHeartbeats 16000000 in
set_option maxRecDepth 100000 in
theorem kX4_wantedAt {zs : ZS} (l : Launch) (dC : Nat → ClassId) (dI : Nat → Nat → Nat) (p0a : Nat → Nat) (p0k : Nat → ClassId) (p0w : ST) (p0l : SL) (p1a : Nat → Nat) (p1k : Nat → ClassId) (p1n : Nat → Nat) (p1w : ST) (p1l : SL) (p2 : Int32) (sz : Nat) (o : Int64) (hrun : fX4_wantedAt p0l p1w p2 = some o) : Met l yX4_wantedAt (wz yX4_wantedAt cX4_wantedAt 11 (Option.some Jvm.ClassFile.FieldType.long)) ({ frames := 2, cells := 0, slots := 0, locals := 44 } : Room) (va_Pc [.ref (p0a 0), .ref (p1a 0), .int p2] (PRE zs dC dI (List.flatten ([(oX4 (p0a 0) p0a p0k p0w p0l), (oX1 (p1a 0) p1a p1k p1n p1w p1l)] : List va_W)) (List.flatten ([(tX4 p0k), (tX1 p1k)] : List (List (ClassId × FieldType)))) sz)) (va_Ql (fun (r : Int64) (_ : Unit) => r = o) (fun _ t => POST dC dI (List.flatten ([(oX4 (p0a 0) p0a p0k p0w p0l), (oX1 (p1a 0) p1a p1k p1n p1w p1l)] : List va_W)) (List.flatten ([(tX4 p0k), (tX1 p1k)] : List (List (ClassId × FieldType)))) (va_A (List.flatten ([(oX4 (p0a 0) p0a p0k p0w p0l), (oX1 (p1a 0) p1a p1k p1n p1w p1l)] : List va_W)) sz) t) (va_A (List.flatten ([(oX4 (p0a 0) p0a p0k p0w p0l), (oX1 (p1a 0) p1a p1k p1n p1w p1l)] : List va_W)) sz)) 0 0 (va_A (List.flatten ([(oX4 (p0a 0) p0a p0k p0w p0l), (oX1 (p1a 0) p1a p1k p1n p1w p1l)] : List va_W)) sz) := by
  refine Met.ofW (cc := cX4_wantedAt) (maxL := 11) (ret := (Option.some Jvm.ClassFile.FieldType.long)) (by decide) rfl ?_
  intro p e s m args below meth c s₁ B hml hv
  obtain ⟨rfl, hsz, hP, hK, hD0, hE⟩ := hv
  have hx := B.exec
  have hb := B.bytes
  have hr := B.returns
  have hts0 := atoms_spec (ws := wz yX4_wantedAt cX4_wantedAt 11 (Option.some Jvm.ClassFile.FieldType.long)) B.pre
  have hts : ∀ w ∈ gw, w.before _ s = true := fun w h => hts0 w (List.mem_cons_of_mem _ h)
  have hown : s.vm.findClass RX4 = some m.cls := findClass_of_methodNamed B.named
  have hlocks := B.notSynchronized
  subst hsz
  have hD := hD0.self (sz := s.heap.size)
  refine gQ9 ?_
  intro Q hQ
  generalize hAe : va_A (List.flatten ([(oX4 (p0a 0) p0a p0k p0w p0l), (oX1 (p1a 0) p1a p1k p1n p1w p1l)] : List va_W)) s.heap.size = A at hD hE hQ
  have hA : ∀ q : Nat, s.heap.size ≤ q → A q := fun q h => by rw [← hAe]; exact Or.inr h
  have hS : va_S A s.heap s.heap [] := va_S.rf
  have hP : va_P (dC, dI) cls (List.flatten ([(oX4 (p0a 0) p0a p0k p0w p0l), (oX1 (p1a 0) p1a p1k p1n p1w p1l)] : List va_W)) s.heap := hP
  have hl := lv_entry ([.ref (p0a 0), .ref (p1a 0), .int p2]) (n := 11) (Nat.le_of_ble_eq_true rfl)
  rw [lg_entry_eq]
  generalize (lg_sl ([.ref (p0a 0), .ref (p1a 0), .int p2]) ++ List.replicate (11 - (lg_sl ([.ref (p0a 0), .ref (p1a 0), .int p2])).length) Slot.unset).toArray = ls at hl ⊢
  have hl : lv_has ls 11 [(0, .ref (p0a 0)), (1, .ref (p1a 0)), (2, .int p2)] := hl
  obtain ⟨H, hHe⟩ : ∃ H, H = s.heap := ⟨_, rfl⟩
  obtain ⟨locs, hle⟩ : ∃ locs : List Loc, locs = [] := ⟨_, rfl⟩
  rw [← hHe] at hP
  have hS : va_S A s.heap H locs := by rw [hHe, hle]; exact hS
  show W p l e ({ frames := 2, cells := 0, slots := 0, locals := 44 } : Room) s m ([.ref (p0a 0), .ref (p1a 0), .int p2] : List Value).toArray below meth c s.heap [] 0 0 Q (F0 m 0 ls [])
  rw [← hle]
  refine wH9 hHe ?_
  unfold fX4_wantedAt at hrun
  refine lv_aload_n hx hb dX4_wantedAt_0 rfl (lv_at hl 0 rfl) ?_
  refine va_get (D := (dC, dI)) (ci := 6) (v := .ref (p0a 16)) (C := RX4) (T := TX4) (N := 20) hx hb hts i_X4 hown hK hP 0 rfl rfl 15 (by decide) (hts _ qw384) (fun _ h9 => h9) rfl dX4_wantedAt_1 ?_
  refine lv_iload_n hx hb dX4_wantedAt_4 rfl (lv_at hl 2 rfl) ?_
  obtain ⟨hq1, hrun⟩ := chk9 hrun
  refine va_lald hx hb hK hP 14 13 rfl rfl (ixb_in hq1) dX4_wantedAt_5 ?_
  refine lv_lstore_n (lv' := [(3, .long (p0l 16 (nn p2))), (0, .ref (p0a 0)), (1, .ref (p1a 0)), (2, .int p2)]) hx hb dX4_wantedAt_6 rfl hl (by decide) rfl (fun ls hl => ?_)
  refine lv_lload_n hx hb dX4_wantedAt_7 rfl (lv_at hl 0 rfl) ?_
  refine lv_lconst (v := 0) hx hb dX4_wantedAt_8 (by decide) ?_
  refine W.lcmp hx hb dX4_wantedAt_9 ?_
  have J18 : ∀ (y0_18 : Int32) (H : Heap) (locs : List Loc) (ls : Array Slot), (fX4_wantedAt_J18 p0l p1w p2 y0_18) = some o → va_P (dC, dI) cls (List.flatten ([(oX4 (p0a 0) p0a p0k p0w p0l), (oX1 (p1a 0) p1a p1k p1n p1w p1l)] : List va_W)) H → va_D A (List.flatten ([(oX4 (p0a 0) p0a p0k p0w p0l), (oX1 (p1a 0) p1a p1k p1n p1w p1l)] : List va_W)) → va_K (dC, dI) cls (List.flatten ([(tX4 p0k), (tX1 p1k)] : List (List (ClassId × FieldType)))) s → va_S A s.heap H locs → lv_has ls 11 [(0, .ref (p0a 0)), (1, .ref (p1a 0)), (2, .int p2), (3, .long (p0l 16 (nn p2)))] → W p l e ({ frames := 2, cells := 0, slots := 0, locals := 44 } : Room) s m ([.ref (p0a 0), .ref (p1a 0), .int p2] : List Value).toArray below meth c H locs 0 0 Q (F0 m 18 ls [.int y0_18]) := by
    intro y0_18 H locs ls hrun hP hD hK hS hl 
    unfold fX4_wantedAt_J18 at hrun
    refine lv_istore (lv' := [(5, .int y0_18), (0, .ref (p0a 0)), (1, .ref (p1a 0)), (2, .int p2), (3, .long (p0l 16 (nn p2)))]) hx hb dX4_wantedAt_18 hl (by decide) rfl (fun ls hl => ?_)
    refine lv_iconst (v := 0) hx hb dX4_wantedAt_20 (by decide) ?_
    refine lv_istore (lv' := [(6, .int 0), (5, .int y0_18), (0, .ref (p0a 0)), (1, .ref (p1a 0)), (2, .int p2), (3, .long (p0l 16 (nn p2)))]) hx hb dX4_wantedAt_21 hl (by decide) rfl (fun ls hl => ?_)
    have L23 : ∀ (n_23 : Nat) (v3_23 : Int64) (v5_23 : Int32) (v6_23 : Int32) (o23 : Int64) (H : Heap) (locs : List Loc) (ls : Array Slot), (fX4_wantedAt_L23 p0l p1w p2 n_23) v3_23 v5_23 v6_23 = some o23 → va_P (dC, dI) cls (List.flatten ([(oX4 (p0a 0) p0a p0k p0w p0l), (oX1 (p1a 0) p1a p1k p1n p1w p1l)] : List va_W)) H → va_D A (List.flatten ([(oX4 (p0a 0) p0a p0k p0w p0l), (oX1 (p1a 0) p1a p1k p1n p1w p1l)] : List va_W)) → va_K (dC, dI) cls (List.flatten ([(tX4 p0k), (tX1 p1k)] : List (List (ClassId × FieldType)))) s → va_S A s.heap H locs → lv_has ls 11 [(0, .ref (p0a 0)), (1, .ref (p1a 0)), (2, .int p2), (3, .long v3_23), (5, .int v5_23), (6, .int v6_23)] → (∀ (H : Heap) (locs : List Loc) (ls : Array Slot), va_P (dC, dI) cls (List.flatten ([(oX4 (p0a 0) p0a p0k p0w p0l), (oX1 (p1a 0) p1a p1k p1n p1w p1l)] : List va_W)) H → va_D A (List.flatten ([(oX4 (p0a 0) p0a p0k p0w p0l), (oX1 (p1a 0) p1a p1k p1n p1w p1l)] : List va_W)) → va_K (dC, dI) cls (List.flatten ([(tX4 p0k), (tX1 p1k)] : List (List (ClassId × FieldType)))) s → va_S A s.heap H locs → lv_has ls 11 [(3, .long o23)] → W p l e ({ frames := 2, cells := 0, slots := 0, locals := 44 } : Room) s m ([.ref (p0a 0), .ref (p1a 0), .int p2] : List Value).toArray below meth c H locs 0 0 Q (F0 m 138 ls [])) → W p l e ({ frames := 2, cells := 0, slots := 0, locals := 44 } : Room) s m ([.ref (p0a 0), .ref (p1a 0), .int p2] : List Value).toArray below meth c H locs 0 0 Q (F0 m 23 ls []) := by
      intro n_23
      induction n_23 with
      | zero => intro v3_23 v5_23 v6_23 o23 H locs ls hrun; exact (no9 rfl hrun).elim
      | succ n_23 IH23 =>
        intro v3_23 v5_23 v6_23 o23 H locs ls hrun hP hD hK hS hl hk23
        unfold fX4_wantedAt_L23 at hrun
        refine lv_iload hx hb dX4_wantedAt_23 (lv_at hl 4 rfl) ?_
        rcases br9 hrun with ⟨hc2, hrun⟩ | ⟨hc2, hrun⟩
        · refine lv_if_eq (tgt := 138) hx hb dX4_wantedAt_25 (by decide) (fun _ => ?_) (fun c => absurd hc2 c)
          obtain rfl := (Option.some.inj hrun)
          exact hk23 _ _ _ hP hD hK hS (lv_sub hl [3] rfl)
        · refine lv_if_eq (tgt := 138) hx hb dX4_wantedAt_25 (by decide) (fun c => absurd c hc2) (fun _ => ?_)
          refine lv_iload hx hb dX4_wantedAt_28 (lv_at hl 5 rfl) ?_
          refine lv_bipush (v := 60) hx hb dX4_wantedAt_30 (by decide) ?_
          rcases br9 hrun with ⟨hc3, hrun⟩ | ⟨hc3, hrun⟩
          · refine lv_icmp_gt (tgt := 138) hx hb dX4_wantedAt_32 (by decide) (fun _ => ?_) (fun c => absurd hc3 c)
            obtain rfl := (Option.some.inj hrun)
            exact hk23 _ _ _ hP hD hK hS (lv_sub hl [3] rfl)
          · refine lv_icmp_gt (tgt := 138) hx hb dX4_wantedAt_32 (by decide) (fun c => absurd c hc3) (fun _ => ?_)
            refine lv_lload_n hx hb dX4_wantedAt_35 rfl (lv_at hl 3 rfl) ?_
            refine lv_lstore (lv' := [(7, .long v3_23), (0, .ref (p0a 0)), (1, .ref (p1a 0)), (2, .int p2), (3, .long v3_23), (5, .int v5_23), (6, .int v6_23)]) hx hb dX4_wantedAt_36 hl (by decide) rfl (fun ls hl => ?_)
            refine lv_aload_n hx hb dX4_wantedAt_38 rfl (lv_at hl 2 rfl) ?_
            refine va_get (D := (dC, dI)) (ci := 4) (v := .int (p1w 0 0)) (C := RX1) (T := TX1) (N := 21) hx hb hts i_X1 hown hK hP 19 rfl rfl 0 (by decide) (hts _ qw313) (fun _ h9 => h9) rfl dX4_wantedAt_39 ?_
            refine lv_iconst (v := 1) hx hb dX4_wantedAt_42 (by decide) ?_
            refine lv_isub hx hb dX4_wantedAt_43 ?_
            refine lv_istore (lv' := [(9, .int ((p1w 0 0) - 1)), (7, .long v3_23), (0, .ref (p0a 0)), (1, .ref (p1a 0)), (2, .int p2), (3, .long v3_23), (5, .int v5_23), (6, .int v6_23)]) hx hb dX4_wantedAt_44 hl (by decide) rfl (fun ls hl => ?_)
            have L46 : ∀ (n_46 : Nat) (v3_46 : Int64) (v9_46 : Int32) (o46 : Int64) (H : Heap) (locs : List Loc) (ls : Array Slot), (fX4_wantedAt_L46 p0l p1w p2 n_46) v3_46 v9_46 = some o46 → va_P (dC, dI) cls (List.flatten ([(oX4 (p0a 0) p0a p0k p0w p0l), (oX1 (p1a 0) p1a p1k p1n p1w p1l)] : List va_W)) H → va_D A (List.flatten ([(oX4 (p0a 0) p0a p0k p0w p0l), (oX1 (p1a 0) p1a p1k p1n p1w p1l)] : List va_W)) → va_K (dC, dI) cls (List.flatten ([(tX4 p0k), (tX1 p1k)] : List (List (ClassId × FieldType)))) s → va_S A s.heap H locs → lv_has ls 11 [(0, .ref (p0a 0)), (1, .ref (p1a 0)), (2, .int p2), (3, .long v3_46), (6, .int v6_23), (7, .long v3_23), (9, .int v9_46)] → (∀ (H : Heap) (locs : List Loc) (ls : Array Slot), va_P (dC, dI) cls (List.flatten ([(oX4 (p0a 0) p0a p0k p0w p0l), (oX1 (p1a 0) p1a p1k p1n p1w p1l)] : List va_W)) H → va_D A (List.flatten ([(oX4 (p0a 0) p0a p0k p0w p0l), (oX1 (p1a 0) p1a p1k p1n p1w p1l)] : List va_W)) → va_K (dC, dI) cls (List.flatten ([(tX4 p0k), (tX1 p1k)] : List (List (ClassId × FieldType)))) s → va_S A s.heap H locs → lv_has ls 11 [(0, .ref (p0a 0)), (1, .ref (p1a 0)), (2, .int p2), (3, .long o46), (6, .int v6_23), (7, .long v3_23)] → W p l e ({ frames := 2, cells := 0, slots := 0, locals := 44 } : Room) s m ([.ref (p0a 0), .ref (p1a 0), .int p2] : List Value).toArray below meth c H locs 0 0 Q (F0 m 118 ls [])) → W p l e ({ frames := 2, cells := 0, slots := 0, locals := 44 } : Room) s m ([.ref (p0a 0), .ref (p1a 0), .int p2] : List Value).toArray below meth c H locs 0 0 Q (F0 m 46 ls []) := by
              intro n_46
              induction n_46 with
              | zero => intro v3_46 v9_46 o46 H locs ls hrun; exact (no9 rfl hrun).elim
              | succ n_46 IH46 =>
                intro v3_46 v9_46 o46 H locs ls hrun hP hD hK hS hl hk46
                unfold fX4_wantedAt_L46 at hrun
                refine lv_iload hx hb dX4_wantedAt_46 (lv_at hl 6 rfl) ?_
                rcases br9 hrun with ⟨hc4, hrun⟩ | ⟨hc4, hrun⟩
                · refine lv_if_lt (tgt := 118) hx hb dX4_wantedAt_48 (by decide) (fun _ => ?_) (fun c => absurd hc4 c)
                  obtain rfl := (Option.some.inj hrun)
                  exact hk46 _ _ _ hP hD hK hS (lv_sub hl [0, 1, 2, 3, 4, 5] rfl)
                · refine lv_if_lt (tgt := 118) hx hb dX4_wantedAt_48 (by decide) (fun c => absurd c hc4) (fun _ => ?_)
                  refine lv_lload_n hx hb dX4_wantedAt_51 rfl (lv_at hl 3 rfl) ?_
                  refine lv_aload_n hx hb dX4_wantedAt_52 rfl (lv_at hl 1 rfl) ?_
                  refine va_get (D := (dC, dI)) (ci := 4) (v := .ref (p1a 10)) (C := RX1) (T := TX1) (N := 21) hx hb hts i_X1 hown hK hP 19 rfl rfl 9 (by decide) (hts _ qw342) (fun _ h9 => h9) rfl dX4_wantedAt_53 ?_
                  refine lv_iload hx hb dX4_wantedAt_56 (lv_at hl 6 rfl) ?_
                  obtain ⟨hq5, hrun⟩ := chk9 hrun
                  refine va_iald hx hb hK hP 26 24 rfl rfl (ixb_in hq5) dX4_wantedAt_58 ?_
                  obtain ⟨o_6, hc_6, hrun⟩ := bnd9 hrun
                  have hPx : va_P (dC, dI) cls ((List.flatten ([] : List va_W)) ++ (List.flatten ([(oX4 (p0a 0) p0a p0k p0w p0l), (oX1 (p1a 0) p1a p1k p1n p1w p1l)] : List va_W))) H := vP_fa (vP_perm hP (bP (List.Perm.refl _)))
                  have hDx : va_D A ((List.flatten ([] : List va_W)) ++ (List.flatten ([(oX4 (p0a 0) p0a p0k p0w p0l), (oX1 (p1a 0) p1a p1k p1n p1w p1l)] : List va_W))) := vD_fa (vD_perm hD (bP (List.Perm.refl _)))
                  have hKx : va_K (dC, dI) cls ((List.flatten ([] : List (List (ClassId × FieldType)))) ++ (List.flatten ([(tX4 p0k), (tX1 p1k)] : List (List (ClassId × FieldType))))) s := vK_fa (vK_perm hK (bP (List.Perm.refl _)))
                  have hPc := vP_l hPx
                  have hDc := vD_l hDx
                  have hKc := vK_l hKx
                  have hFc := vfree hDx hS hA
                  refine va_calli (va_runS (As := [.long v3_46, .int (p1w 10 (nn v9_46))]) (rest := []) ⟨hx, hb, hml, hown, hts⟩ (kX4_isIn l dC dI (p0 := v3_46) (p1 := (p1w 10 (nn v9_46))) (sz := _) (o := o_6) (hrun := hc_6)) (va_cwS 2 hts (gi_S qw395 qw396 qw270 (gi_z qw394)) rfl rfl rfl (by decide +kernel) ⟨Nat.le_of_ble_eq_true rfl, Nat.le_of_ble_eq_true rfl⟩) ⟨PRE.blind, PRE.of hE hS hFc hPc hKc hDc⟩ rfl rfl hl.1 rfl (lv_room (Nat.le_of_ble_eq_true rfl)) dX4_wantedAt_59 ⟨(Nat.le_of_ble_eq_true rfl), (Nat.le_of_ble_eq_true rfl)⟩) hS (fun q _ h => hFc q h) hFc (fun r7 u t H locs ht hvm hw hB hz1 hk1 hS => ?_)
                  obtain ⟨b1, b2, b3⟩ := hB
                  rw [ht] at b1
                  obtain ⟨hP, hD, hK⟩ := JOINC (wc := (List.flatten ([] : List va_W))) (wr := (List.flatten ([(oX4 (p0a 0) p0a p0k p0w p0l), (oX1 (p1a 0) p1a p1k p1n p1w p1l)] : List va_W))) (w1 := (List.flatten ([] : List va_W))) (t1 := (List.flatten ([] : List (List (ClassId × FieldType))))) hPx hDx hKx hk1 hFc b1 (va_K.moved hvm.symm b2) b3
                  have hP : va_P (dC, dI) cls (List.flatten ([(oX4 (p0a 0) p0a p0k p0w p0l), (oX1 (p1a 0) p1a p1k p1n p1w p1l)] : List va_W)) H := vP_perm (vP_fb hP) (bP (List.Perm.refl _))
                  have hD : va_D A (List.flatten ([(oX4 (p0a 0) p0a p0k p0w p0l), (oX1 (p1a 0) p1a p1k p1n p1w p1l)] : List va_W)) := vD_perm (vD_fb hD) (bP (List.Perm.refl _))
                  have hK : va_K (dC, dI) cls (List.flatten ([(tX4 p0k), (tX1 p1k)] : List (List (ClassId × FieldType)))) s := vK_perm (vK_fb hK) (bP (List.Perm.refl _))
                  obtain rfl : o_6 = r7 := hw.symm
                  have J84 : ∀ (y0_84 : Int32) (H : Heap) (locs : List Loc) (ls : Array Slot), (fX4_wantedAt_J84 (fX4_wantedAt_L46 p0l p1w p2 n_46) p0l p2 v3_46 v9_46 y0_84) = some o46 → va_P (dC, dI) cls (List.flatten ([(oX4 (p0a 0) p0a p0k p0w p0l), (oX1 (p1a 0) p1a p1k p1n p1w p1l)] : List va_W)) H → va_D A (List.flatten ([(oX4 (p0a 0) p0a p0k p0w p0l), (oX1 (p1a 0) p1a p1k p1n p1w p1l)] : List va_W)) → va_K (dC, dI) cls (List.flatten ([(tX4 p0k), (tX1 p1k)] : List (List (ClassId × FieldType)))) s → va_S A s.heap H locs → lv_has ls 11 [(0, .ref (p0a 0)), (1, .ref (p1a 0)), (2, .int p2), (3, .long v3_46), (6, .int v6_23), (7, .long v3_23), (9, .int v9_46)] → W p l e ({ frames := 2, cells := 0, slots := 0, locals := 44 } : Room) s m ([.ref (p0a 0), .ref (p1a 0), .int p2] : List Value).toArray below meth c H locs 0 0 Q (F0 m 84 ls [.int y0_84]) := by
                    intro y0_84 H locs ls hrun hP hD hK hS hl 
                    unfold fX4_wantedAt_J84 at hrun
                    refine lv_istore (lv' := [(10, .int y0_84), (0, .ref (p0a 0)), (1, .ref (p1a 0)), (2, .int p2), (3, .long v3_46), (6, .int v6_23), (7, .long v3_23), (9, .int v9_46)]) hx hb dX4_wantedAt_84 hl (by decide) rfl (fun ls hl => ?_)
                    refine lv_iload hx hb dX4_wantedAt_86 (lv_at hl 0 rfl) ?_
                    have J112 : ∀ (v3_112 : Int64) (H : Heap) (locs : List Loc) (ls : Array Slot), (fX4_wantedAt_J112 (fX4_wantedAt_L46 p0l p1w p2 n_46) v9_46 v3_112) = some o46 → va_P (dC, dI) cls (List.flatten ([(oX4 (p0a 0) p0a p0k p0w p0l), (oX1 (p1a 0) p1a p1k p1n p1w p1l)] : List va_W)) H → va_D A (List.flatten ([(oX4 (p0a 0) p0a p0k p0w p0l), (oX1 (p1a 0) p1a p1k p1n p1w p1l)] : List va_W)) → va_K (dC, dI) cls (List.flatten ([(tX4 p0k), (tX1 p1k)] : List (List (ClassId × FieldType)))) s → va_S A s.heap H locs → lv_has ls 11 [(0, .ref (p0a 0)), (1, .ref (p1a 0)), (2, .int p2), (3, .long v3_112), (6, .int v6_23), (7, .long v3_23), (9, .int v9_46)] → W p l e ({ frames := 2, cells := 0, slots := 0, locals := 44 } : Room) s m ([.ref (p0a 0), .ref (p1a 0), .int p2] : List Value).toArray below meth c H locs 0 0 Q (F0 m 112 ls []) := by
                      intro v3_112 H locs ls hrun hP hD hK hS hl 
                      unfold fX4_wantedAt_J112 at hrun
                      refine lv_iinc (v := (v9_46 + (-1))) (lv' := [(9, .int (v9_46 + (-1))), (0, .ref (p0a 0)), (1, .ref (p1a 0)), (2, .int p2), (3, .long v3_112), (6, .int v6_23), (7, .long v3_23)]) hx hb dX4_wantedAt_112 hl (k := 6) rfl rfl (by decide) rfl (fun ls hl => ?_)
                      refine lv_goto (tgt := 46) hx hb dX4_wantedAt_115 (by decide) ?_
                      exact IH46 v3_112 (v9_46 + (-1)) o46 _ _ _ hrun hP hD hK hS (lv_sub hl [1, 2, 3, 4, 5, 6, 0] rfl) hk46
                    rcases br9 hrun with ⟨hc8, hrun⟩ | ⟨hc8, hrun⟩
                    · refine lv_if_eq (tgt := 112) hx hb dX4_wantedAt_88 (by decide) (fun _ => ?_) (fun c => absurd hc8 c)
                      exact J112 v3_46 _ _ _ hrun hP hD hK hS (lv_sub hl [1, 2, 3, 4, 5, 6, 7] rfl)
                    · refine lv_if_eq (tgt := 112) hx hb dX4_wantedAt_88 (by decide) (fun c => absurd c hc8) (fun _ => ?_)
                      refine lv_aload_n hx hb dX4_wantedAt_91 rfl (lv_at hl 1 rfl) ?_
                      refine va_get (D := (dC, dI)) (ci := 6) (v := .ref (p0a 17)) (C := RX4) (T := TX4) (N := 20) hx hb hts i_X4 hown hK hP 0 rfl rfl 16 (by decide) (hts _ qw385) (fun _ h9 => h9) rfl dX4_wantedAt_92 ?_
                      refine lv_iload_n hx hb dX4_wantedAt_95 rfl (lv_at hl 3 rfl) ?_
                      obtain ⟨hq9, hrun⟩ := chk9 hrun
                      refine va_lald hx hb hK hP 15 14 rfl rfl (ixb_in hq9) dX4_wantedAt_96 ?_
                      refine lv_iload hx hb dX4_wantedAt_97 (lv_at hl 7 rfl) ?_
                      obtain ⟨o_10, hc_10, hrun⟩ := bnd9 hrun
                      have hPx : va_P (dC, dI) cls ((List.flatten ([] : List va_W)) ++ (List.flatten ([(oX4 (p0a 0) p0a p0k p0w p0l), (oX1 (p1a 0) p1a p1k p1n p1w p1l)] : List va_W))) H := vP_fa (vP_perm hP (bP (List.Perm.refl _)))
                      have hDx : va_D A ((List.flatten ([] : List va_W)) ++ (List.flatten ([(oX4 (p0a 0) p0a p0k p0w p0l), (oX1 (p1a 0) p1a p1k p1n p1w p1l)] : List va_W))) := vD_fa (vD_perm hD (bP (List.Perm.refl _)))
                      have hKx : va_K (dC, dI) cls ((List.flatten ([] : List (List (ClassId × FieldType)))) ++ (List.flatten ([(tX4 p0k), (tX1 p1k)] : List (List (ClassId × FieldType))))) s := vK_fa (vK_perm hK (bP (List.Perm.refl _)))
                      have hPc := vP_l hPx
                      have hDc := vD_l hDx
                      have hKc := vK_l hKx
                      have hFc := vfree hDx hS hA
                      refine va_calli (va_runSN (As := [.long (p0l 17 (nn p2)), .int v9_46]) (rest := []) ⟨hx, hb, hml, hown, hts⟩ (kX11_holds l dC dI (p0 := (p0l 17 (nn p2))) (p1 := v9_46) (sz := _) (o := o_10) (hrun := hc_10)) ⟨(va_cnB 2 hts (gi_z qw192) rfl rfl rfl (hE.nw (List.mem_append_right _ (tbl_6 (i := 75) rfl)) rfl) (hts _ qw129) (by decide +kernel) ⟨Nat.le_of_ble_eq_true rfl, Nat.le_of_ble_eq_true rfl⟩), (hts _ qw193), trivial⟩ ⟨PRE.blind, PRE.of hE hS hFc hPc hKc hDc⟩ rfl rfl hl.1 rfl (lv_room (Nat.le_of_ble_eq_true rfl)) dX4_wantedAt_99 ⟨(Nat.le_of_ble_eq_true rfl), (Nat.le_of_ble_eq_true rfl)⟩) hS (fun q _ h => hFc q h) hFc (fun r11 u t H locs ht hvm hw hB hz1 hk1 hS => ?_)
                      obtain ⟨b1, b2, b3⟩ := hB
                      rw [ht] at b1
                      obtain ⟨hP, hD, hK⟩ := JOINC (wc := (List.flatten ([] : List va_W))) (wr := (List.flatten ([(oX4 (p0a 0) p0a p0k p0w p0l), (oX1 (p1a 0) p1a p1k p1n p1w p1l)] : List va_W))) (w1 := (List.flatten ([] : List va_W))) (t1 := (List.flatten ([] : List (List (ClassId × FieldType))))) hPx hDx hKx hk1 hFc b1 (va_K.moved hvm.symm b2) b3
                      have hP : va_P (dC, dI) cls (List.flatten ([(oX4 (p0a 0) p0a p0k p0w p0l), (oX1 (p1a 0) p1a p1k p1n p1w p1l)] : List va_W)) H := vP_perm (vP_fb hP) (bP (List.Perm.refl _))
                      have hD : va_D A (List.flatten ([(oX4 (p0a 0) p0a p0k p0w p0l), (oX1 (p1a 0) p1a p1k p1n p1w p1l)] : List va_W)) := vD_perm (vD_fb hD) (bP (List.Perm.refl _))
                      have hK : va_K (dC, dI) cls (List.flatten ([(tX4 p0k), (tX1 p1k)] : List (List (ClassId × FieldType)))) s := vK_perm (vK_fb hK) (bP (List.Perm.refl _))
                      obtain rfl : o_10 = r11 := hw.symm
                      rcases br9 hrun with ⟨hc12, hrun⟩ | ⟨hc12, hrun⟩
                      · refine lv_if_ne (tgt := 112) hx hb dX4_wantedAt_102 (by decide) (fun c => absurd hc12 c) (fun _ => ?_)
                        refine lv_lload_n hx hb dX4_wantedAt_105 rfl (lv_at hl 4 rfl) ?_
                        refine lv_lconst (v := 1) hx hb dX4_wantedAt_106 (by decide) ?_
                        refine lv_iload hx hb dX4_wantedAt_107 (lv_at hl 7 rfl) ?_
                        refine lv_lshl (v := (((1 : Int64) <<< ((v9_46 : Int32).toInt64 &&& 63)))) hx hb dX4_wantedAt_109 rfl ?_
                        refine lv_lor hx hb dX4_wantedAt_110 ?_
                        refine lv_lstore_n (lv' := [(3, .long (v3_46 ||| (((1 : Int64) <<< ((v9_46 : Int32).toInt64 &&& 63))))), (10, .int y0_84), (0, .ref (p0a 0)), (1, .ref (p1a 0)), (2, .int p2), (6, .int v6_23), (7, .long v3_23), (9, .int v9_46)]) hx hb dX4_wantedAt_111 rfl hl (by decide) rfl (fun ls hl => ?_)
                        exact J112 (v3_46 ||| (((1 : Int64) <<< ((v9_46 : Int32).toInt64 &&& 63)))) _ _ _ hrun hP hD hK hS (lv_sub hl [2, 3, 4, 0, 5, 6, 7] rfl)
                      · refine lv_if_ne (tgt := 112) hx hb dX4_wantedAt_102 (by decide) (fun _ => ?_) (fun c => absurd c hc12)
                        exact J112 v3_46 _ _ _ hrun hP hD hK hS (lv_sub hl [1, 2, 3, 4, 5, 6, 7] rfl)
                  have J79 : ∀ (H : Heap) (locs : List Loc) (ls : Array Slot), (fX4_wantedAt_J79 (fX4_wantedAt_L46 p0l p1w p2 n_46) p0l p2 v3_46 v9_46) = some o46 → va_P (dC, dI) cls (List.flatten ([(oX4 (p0a 0) p0a p0k p0w p0l), (oX1 (p1a 0) p1a p1k p1n p1w p1l)] : List va_W)) H → va_D A (List.flatten ([(oX4 (p0a 0) p0a p0k p0w p0l), (oX1 (p1a 0) p1a p1k p1n p1w p1l)] : List va_W)) → va_K (dC, dI) cls (List.flatten ([(tX4 p0k), (tX1 p1k)] : List (List (ClassId × FieldType)))) s → va_S A s.heap H locs → lv_has ls 11 [(0, .ref (p0a 0)), (1, .ref (p1a 0)), (2, .int p2), (3, .long v3_46), (6, .int v6_23), (7, .long v3_23), (9, .int v9_46)] → W p l e ({ frames := 2, cells := 0, slots := 0, locals := 44 } : Room) s m ([.ref (p0a 0), .ref (p1a 0), .int p2] : List Value).toArray below meth c H locs 0 0 Q (F0 m 79 ls []) := by
                    intro  H locs ls hrun hP hD hK hS hl 
                    unfold fX4_wantedAt_J79 at hrun
                    refine lv_iconst (v := 1) hx hb dX4_wantedAt_79 (by decide) ?_
                    refine lv_goto (tgt := 84) hx hb dX4_wantedAt_80 (by decide) ?_
                    exact J84 1 _ _ _ hrun hP hD hK hS (lv_sub hl [0, 1, 2, 3, 4, 5, 6] rfl)
                  rcases br9 hrun with ⟨hc13, hrun⟩ | ⟨hc13, hrun⟩
                  · refine lv_if_ne (tgt := 79) hx hb dX4_wantedAt_62 (by decide) (fun c => absurd hc13 c) (fun _ => ?_)
                    refine lv_lload_n hx hb dX4_wantedAt_65 rfl (lv_at hl 3 rfl) ?_
                    refine lv_aload_n hx hb dX4_wantedAt_66 rfl (lv_at hl 1 rfl) ?_
                    refine va_get (D := (dC, dI)) (ci := 4) (v := .ref (p1a 11)) (C := RX1) (T := TX1) (N := 21) hx hb hts i_X1 hown hK hP 19 rfl rfl 10 (by decide) (hts _ qw347) (fun _ h9 => h9) rfl dX4_wantedAt_67 ?_
                    refine lv_iload hx hb dX4_wantedAt_70 (lv_at hl 6 rfl) ?_
                    obtain ⟨hq14, hrun⟩ := chk9 hrun
                    refine va_iald hx hb hK hP 27 25 rfl rfl (ixb_in hq14) dX4_wantedAt_72 ?_
                    obtain ⟨o_15, hc_15, hrun⟩ := bnd9 hrun
                    have hPx : va_P (dC, dI) cls ((List.flatten ([] : List va_W)) ++ (List.flatten ([(oX4 (p0a 0) p0a p0k p0w p0l), (oX1 (p1a 0) p1a p1k p1n p1w p1l)] : List va_W))) H := vP_fa (vP_perm hP (bP (List.Perm.refl _)))
                    have hDx : va_D A ((List.flatten ([] : List va_W)) ++ (List.flatten ([(oX4 (p0a 0) p0a p0k p0w p0l), (oX1 (p1a 0) p1a p1k p1n p1w p1l)] : List va_W))) := vD_fa (vD_perm hD (bP (List.Perm.refl _)))
                    have hKx : va_K (dC, dI) cls ((List.flatten ([] : List (List (ClassId × FieldType)))) ++ (List.flatten ([(tX4 p0k), (tX1 p1k)] : List (List (ClassId × FieldType))))) s := vK_fa (vK_perm hK (bP (List.Perm.refl _)))
                    have hPc := vP_l hPx
                    have hDc := vD_l hDx
                    have hKc := vK_l hKx
                    have hFc := vfree hDx hS hA
                    refine va_calli (va_runS (As := [.long v3_46, .int (p1w 11 (nn v9_46))]) (rest := []) ⟨hx, hb, hml, hown, hts⟩ (kX4_isIn l dC dI (p0 := v3_46) (p1 := (p1w 11 (nn v9_46))) (sz := _) (o := o_15) (hrun := hc_15)) (va_cwS 2 hts (gi_S qw395 qw396 qw270 (gi_z qw394)) rfl rfl rfl (by decide +kernel) ⟨Nat.le_of_ble_eq_true rfl, Nat.le_of_ble_eq_true rfl⟩) ⟨PRE.blind, PRE.of hE hS hFc hPc hKc hDc⟩ rfl rfl hl.1 rfl (lv_room (Nat.le_of_ble_eq_true rfl)) dX4_wantedAt_73 ⟨(Nat.le_of_ble_eq_true rfl), (Nat.le_of_ble_eq_true rfl)⟩) hS (fun q _ h => hFc q h) hFc (fun r16 u t H locs ht hvm hw hB hz1 hk1 hS => ?_)
                    obtain ⟨b1, b2, b3⟩ := hB
                    rw [ht] at b1
                    obtain ⟨hP, hD, hK⟩ := JOINC (wc := (List.flatten ([] : List va_W))) (wr := (List.flatten ([(oX4 (p0a 0) p0a p0k p0w p0l), (oX1 (p1a 0) p1a p1k p1n p1w p1l)] : List va_W))) (w1 := (List.flatten ([] : List va_W))) (t1 := (List.flatten ([] : List (List (ClassId × FieldType))))) hPx hDx hKx hk1 hFc b1 (va_K.moved hvm.symm b2) b3
                    have hP : va_P (dC, dI) cls (List.flatten ([(oX4 (p0a 0) p0a p0k p0w p0l), (oX1 (p1a 0) p1a p1k p1n p1w p1l)] : List va_W)) H := vP_perm (vP_fb hP) (bP (List.Perm.refl _))
                    have hD : va_D A (List.flatten ([(oX4 (p0a 0) p0a p0k p0w p0l), (oX1 (p1a 0) p1a p1k p1n p1w p1l)] : List va_W)) := vD_perm (vD_fb hD) (bP (List.Perm.refl _))
                    have hK : va_K (dC, dI) cls (List.flatten ([(tX4 p0k), (tX1 p1k)] : List (List (ClassId × FieldType)))) s := vK_perm (vK_fb hK) (bP (List.Perm.refl _))
                    obtain rfl : o_15 = r16 := hw.symm
                    rcases br9 hrun with ⟨hc17, hrun⟩ | ⟨hc17, hrun⟩
                    · refine lv_if_eq (tgt := 83) hx hb dX4_wantedAt_76 (by decide) (fun _ => ?_) (fun c => absurd hc17 c)
                      refine lv_iconst (v := 0) hx hb dX4_wantedAt_83 (by decide) ?_
                      exact J84 0 _ _ _ hrun hP hD hK hS (lv_sub hl [0, 1, 2, 3, 4, 5, 6] rfl)
                    · refine lv_if_eq (tgt := 83) hx hb dX4_wantedAt_76 (by decide) (fun c => absurd c hc17) (fun _ => ?_)
                      exact J79 _ _ _ hrun hP hD hK hS (lv_sub hl [0, 1, 2, 3, 4, 5, 6] rfl)
                  · refine lv_if_ne (tgt := 79) hx hb dX4_wantedAt_62 (by decide) (fun _ => ?_) (fun c => absurd c hc13)
                    exact J79 _ _ _ hrun hP hD hK hS (lv_sub hl [0, 1, 2, 3, 4, 5, 6] rfl)
            obtain ⟨o46, hc46, hrun⟩ := bnd9 hrun
            refine L46 NF v3_23 ((p1w 0 0) - 1) o46 _ _ _ hc46 hP hD hK hS (lv_sub hl [2, 3, 4, 5, 7, 1, 0] rfl) ?_
            intro H locs ls hP hD hK hS hl
            have hl := hl
            refine lv_lload_n hx hb dX4_wantedAt_118 rfl (lv_at hl 3 rfl) ?_
            refine lv_lload hx hb dX4_wantedAt_119 (lv_at hl 5 rfl) ?_
            refine W.lcmp hx hb dX4_wantedAt_121 ?_
            have J130 : ∀ (y0_130 : Int32) (H : Heap) (locs : List Loc) (ls : Array Slot), (fX4_wantedAt_J130 (fX4_wantedAt_L23 p0l p1w p2 n_23) v6_23 o46 y0_130) = some o23 → va_P (dC, dI) cls (List.flatten ([(oX4 (p0a 0) p0a p0k p0w p0l), (oX1 (p1a 0) p1a p1k p1n p1w p1l)] : List va_W)) H → va_D A (List.flatten ([(oX4 (p0a 0) p0a p0k p0w p0l), (oX1 (p1a 0) p1a p1k p1n p1w p1l)] : List va_W)) → va_K (dC, dI) cls (List.flatten ([(tX4 p0k), (tX1 p1k)] : List (List (ClassId × FieldType)))) s → va_S A s.heap H locs → lv_has ls 11 [(0, .ref (p0a 0)), (1, .ref (p1a 0)), (2, .int p2), (3, .long o46), (6, .int v6_23)] → W p l e ({ frames := 2, cells := 0, slots := 0, locals := 44 } : Room) s m ([.ref (p0a 0), .ref (p1a 0), .int p2] : List Value).toArray below meth c H locs 0 0 Q (F0 m 130 ls [.int y0_130]) := by
              intro y0_130 H locs ls hrun hP hD hK hS hl 
              unfold fX4_wantedAt_J130 at hrun
              refine lv_istore (lv' := [(5, .int y0_130), (0, .ref (p0a 0)), (1, .ref (p1a 0)), (2, .int p2), (3, .long o46), (6, .int v6_23)]) hx hb dX4_wantedAt_130 hl (by decide) rfl (fun ls hl => ?_)
              refine lv_iinc (v := (v6_23 + 1)) (lv' := [(6, .int (v6_23 + 1)), (5, .int y0_130), (0, .ref (p0a 0)), (1, .ref (p1a 0)), (2, .int p2), (3, .long o46)]) hx hb dX4_wantedAt_132 hl (k := 5) rfl rfl (by decide) rfl (fun ls hl => ?_)
              refine lv_goto (tgt := 23) hx hb dX4_wantedAt_135 (by decide) ?_
              exact IH23 o46 y0_130 (v6_23 + 1) o23 _ _ _ hrun hP hD hK hS (lv_sub hl [2, 3, 4, 5, 1, 0] rfl) hk23
            rcases br9 hrun with ⟨hc18, hrun⟩ | ⟨hc18, hrun⟩
            · refine lv_if_eq (tgt := 129) hx hb dX4_wantedAt_122 (by decide) (fun _ => ?_) (fun c => absurd hc18 c)
              refine lv_iconst (v := 0) hx hb dX4_wantedAt_129 (by decide) ?_
              exact J130 0 _ _ _ hrun hP hD hK hS (lv_sub hl [0, 1, 2, 3, 4] rfl)
            · refine lv_if_eq (tgt := 129) hx hb dX4_wantedAt_122 (by decide) (fun c => absurd c hc18) (fun _ => ?_)
              refine lv_iconst (v := 1) hx hb dX4_wantedAt_125 (by decide) ?_
              refine lv_goto (tgt := 130) hx hb dX4_wantedAt_126 (by decide) ?_
              exact J130 1 _ _ _ hrun hP hD hK hS (lv_sub hl [0, 1, 2, 3, 4] rfl)
    obtain ⟨o23, hc23, hrun⟩ := bnd9 hrun
    refine L23 NF (p0l 16 (nn p2)) y0_18 0 o23 _ _ _ hc23 hP hD hK hS (lv_sub hl [2, 3, 4, 5, 1, 0] rfl) ?_
    intro H locs ls hP hD hK hS hl
    have hl := hl
    refine lv_lload_n hx hb dX4_wantedAt_138 rfl (lv_at hl 0 rfl) ?_
    have ho9 : o23 = o := Option.some.inj hrun
    have hP9 : va_P (dC, dI) cls (List.flatten ([(oX4 (p0a 0) p0a p0k p0w p0l), (oX1 (p1a 0) p1a p1k p1n p1w p1l)] : List va_W)) H := by first | exact hP | (rw [← ho9]; exact hP)
    have hD9 : va_D A (List.flatten ([(oX4 (p0a 0) p0a p0k p0w p0l), (oX1 (p1a 0) p1a p1k p1n p1w p1l)] : List va_W)) := by first | exact hD | (rw [← ho9]; exact hD)
    subst hQ
    exact W.lret (v := o23) hx hb hr (fun t ht hW => ⟨⟨o23, (), rfl, (by rw [← ho9]), ⟨by rw [ht]; exact hP9, va_K.moved hW.alike hK, hD9⟩⟩, hS.F ht⟩) hS.2.2 dX4_wantedAt_139
  rcases br9 hrun with ⟨hc19, hrun⟩ | ⟨hc19, hrun⟩
  · refine lv_if_eq (tgt := 17) hx hb dX4_wantedAt_10 (by decide) (fun _ => ?_) (fun c => absurd hc19 c)
    refine lv_iconst (v := 0) hx hb dX4_wantedAt_17 (by decide) ?_
    exact J18 0 _ _ _ hrun hP hD hK hS (lv_sub hl [1, 2, 3, 0] rfl)
  · refine lv_if_eq (tgt := 17) hx hb dX4_wantedAt_10 (by decide) (fun c => absurd c hc19) (fun _ => ?_)
    refine lv_iconst (v := 1) hx hb dX4_wantedAt_13 (by decide) ?_
    refine lv_goto (tgt := 18) hx hb dX4_wantedAt_14 (by decide) ?_
    exact J18 1 _ _ _ hrun hP hD hK hS (lv_sub hl [1, 2, 3, 0] rfl)
def fX4_placePhis_J85 (kk45 : Int64 → Int32 → Option Int64) (v11_45 : Int32) (v5_85 : Int64) : Option Int64 := (kk45 v5_85 (v11_45 + 1))
def fX4_placePhis_L45 (p0l : SL) (p1w : ST) (p2 : Int32) (o_1 : Int64) : Nat → Int64 → Int32 → Option Int64
  | 0 => fun _ _ => none
  | n_45 + 1 => fun v5_45 v11_45 => (if (p1w 0 0) ≤ v11_45 then some v5_45 else (if ixb p2 320 = true then ((fX11_holds ((p0l 17 (nn p2)) ||| v5_45) v11_45).bind fun (o_7 : Int32) => (if o_7 = 0 then (fX4_placePhis_J85 (fX4_placePhis_L45 p0l p1w p2 o_1 n_45) v11_45 v5_45) else (if ixb v11_45 60 = true then (fX4_placePhis_J85 (fX4_placePhis_L45 p0l p1w p2 o_1 n_45) v11_45 (v5_45 ||| ((p0l 18 (nn v11_45)) &&& o_1))) else none))) else none))
def fX4_placePhis_J104 (kk26 : Int64 → Int32 → Int32 → Option Int64) (v8_26 : Int32) (o45 : Int64) (y0_104 : Int32) : Option Int64 := (kk26 o45 y0_104 (v8_26 + 1))
def fX4_placePhis_L26 (p0l : SL) (p1w : ST) (p2 : Int32) (o_1 : Int64) : Nat → Int64 → Int32 → Int32 → Option Int64
  | 0 => fun _ _ _ => none
  | n_26 + 1 => fun v5_26 v7_26 v8_26 => (if v7_26 = 0 then some v5_26 else (if 60 < v8_26 then some v5_26 else ((fX4_placePhis_L45 p0l p1w p2 o_1 NF v5_26 0).bind fun (o45 : Int64) => (if (lg_cmp o45 v5_26) = 0 then (fX4_placePhis_J104 (fX4_placePhis_L26 p0l p1w p2 o_1 n_26) v8_26 o45 0) else (fX4_placePhis_J104 (fX4_placePhis_L26 p0l p1w p2 o_1 n_26) v8_26 o45 1)))))
def fX4_placePhis_J159 (kk115 : Int32 → ST → ST → (Nat → Nat) → Option (Sum (Int32 × ST × ST × (Nat → Nat)) (ST × ST × (Nat → Nat)))) (v8_115 : Int32) (p0w_159 : ST) (p1w_159 : ST) (p1n_159 : Nat → Nat) : Option (Sum (Int32 × ST × ST × (Nat → Nat)) (ST × ST × (Nat → Nat))) := (kk115 (v8_115 + 1) p0w_159 p1w_159 p1n_159)
theorem mo_fX4_placePhis_J159 {kk115 : Int32 → ST → ST → (Nat → Nat) → Option (Sum (Int32 × ST × ST × (Nat → Nat)) (ST × ST × (Nat → Nat)))} {v8_115 : Int32} {p0w_159 : ST} {p1w_159 : ST} {p1n_159 : Nat → Nat} {o9q : (Sum (Int32 × ST × ST × (Nat → Nat)) (ST × ST × (Nat → Nat)))} (hkk : ∀ (v8_115q : Int32) (p0w_115q : ST) (p1w_115q : ST) (p1n_115q : Nat → Nat) (r9 : (Sum (Int32 × ST × ST × (Nat → Nat)) (ST × ST × (Nat → Nat)))), kk115 v8_115q p0w_115q p1w_115q p1n_115q = some r9 → Sum.elim (fun r7 => glX1 p1n_115q (r7.2.2.2)) (fun t7 => glX1 p1n_115q (t7.2.2)) r9) (hrun : fX4_placePhis_J159 kk115 v8_115 p0w_159 p1w_159 p1n_159 = some o9q) : Sum.elim (fun r7 => glX1 p1n_159 (r7.2.2.2)) (fun t7 => glX1 p1n_159 (t7.2.2)) o9q := by
  unfold fX4_placePhis_J159 at hrun
  exact (hkk _ _ _ _ _ hrun)
def fX4_placePhis_G157_25 (kk115 : Int32 → ST → ST → (Nat → Nat) → Option (Sum (Int32 × ST × ST × (Nat → Nat)) (ST × ST × (Nat → Nat)))) (p2 : Int32) (v8_115 : Int32) (p0w_115 : ST) (o_17 : Int32 × ST × (Nat → Nat)) : Option (Sum (Int32 × ST × ST × (Nat → Nat)) (ST × ST × (Nat → Nat))) := (if ixb (o_17.1) 250 = true then (lt9 (upw p0w_115 19 (nn (o_17.1)) p2) fun (w27 : ST) => (fX4_placePhis_J159 kk115 v8_115 w27 (o_17.2.1) (o_17.2.2))) else none)
theorem mo_fX4_placePhis_G157_25 {kk115 : Int32 → ST → ST → (Nat → Nat) → Option (Sum (Int32 × ST × ST × (Nat → Nat)) (ST × ST × (Nat → Nat)))} {p2 : Int32} {v8_115 : Int32} {p0w_115 : ST} {o_17 : Int32 × ST × (Nat → Nat)} {o9q : (Sum (Int32 × ST × ST × (Nat → Nat)) (ST × ST × (Nat → Nat)))} (hkk : ∀ (v8_115q : Int32) (p0w_115q : ST) (p1w_115q : ST) (p1n_115q : Nat → Nat) (r9 : (Sum (Int32 × ST × ST × (Nat → Nat)) (ST × ST × (Nat → Nat)))), kk115 v8_115q p0w_115q p1w_115q p1n_115q = some r9 → Sum.elim (fun r7 => glX1 p1n_115q (r7.2.2.2)) (fun t7 => glX1 p1n_115q (t7.2.2)) r9) (hrun : fX4_placePhis_G157_25 kk115 p2 v8_115 p0w_115 o_17 = some o9q) : Sum.elim (fun r7 => glX1 (o_17.2.2) (r7.2.2.2)) (fun t7 => glX1 (o_17.2.2) (t7.2.2)) o9q := by
  unfold fX4_placePhis_G157_25 at hrun
  obtain ⟨hq26, hrun⟩ := chk9 hrun
  obtain ⟨w27, ew27, hrun⟩ := let9 hrun
  exact (mo_fX4_placePhis_J159 hkk hrun)
def fX4_placePhis_L115 (p2 : Int32) (o26 : Int64) : Nat → Int32 → ST → ST → (Nat → Nat) → Option (Sum (Int32 × ST × ST × (Nat → Nat)) (ST × ST × (Nat → Nat)))
  | 0 => fun _ _ _ _ => none
  | n_115 + 1 => fun v8_115 p0w_115 p1w_115 p1n_115 => (if (p1w_115 0 0) ≤ v8_115 then some (Sum.inr (p0w_115, p1w_115, p1n_115)) else ((fX11_holds o26 v8_115).bind fun (o_13 : Int32) => (if o_13 = 0 then (fX4_placePhis_J159 (fX4_placePhis_L115 p2 o26 n_115) v8_115 p0w_115 p1w_115 p1n_115) else (if (p1w_115 0 17) < 250 then ((fX1_addPhi p1n_115 p1w_115 v8_115 (-1)).bind fun (o_17 : Int32 × ST × (Nat → Nat)) => (fX4_placePhis_G157_25 (fX4_placePhis_L115 p2 o26 n_115) p2 v8_115 p0w_115 o_17)) else some (Sum.inl (0, p0w_115, p1w_115, p1n_115))))))
theorem mo_fX4_placePhis_L115 {p2 : Int32} {o26 : Int64} : ∀ (n_115 : Nat) (v8_115 : Int32) (p0w_115 : ST) (p1w_115 : ST) (p1n_115 : Nat → Nat) (o9q : (Sum (Int32 × ST × ST × (Nat → Nat)) (ST × ST × (Nat → Nat)))), (fX4_placePhis_L115 p2 o26 n_115) v8_115 p0w_115 p1w_115 p1n_115 = some o9q → Sum.elim (fun r7 => glX1 p1n_115 (r7.2.2.2)) (fun t7 => glX1 p1n_115 (t7.2.2)) o9q := by
  intro n_115
  induction n_115 with
  | zero => intro v8_115 p0w_115 p1w_115 p1n_115 o9q hrun; exact (no9 rfl hrun).elim
  | succ n_115 ih9 =>
    intro v8_115 p0w_115 p1w_115 p1n_115 o9q hrun
    unfold fX4_placePhis_L115 at hrun
    rcases br9 hrun with ⟨hc12, hrun⟩ | ⟨hc12, hrun⟩
    · skip
      obtain rfl := (Option.some.inj hrun)
      exact (glX1_rf _)
    · skip
      obtain ⟨o_13, hc_13, hrun⟩ := bnd9 hrun
      rcases br9 hrun with ⟨hc15, hrun⟩ | ⟨hc15, hrun⟩
      · skip
        exact (mo_fX4_placePhis_J159 ih9 hrun)
      · skip
        rcases br9 hrun with ⟨hc16, hrun⟩ | ⟨hc16, hrun⟩
        · skip
          obtain ⟨o_17, hc_17, hrun⟩ := bnd9 hrun
          exact (glX1_te (mo_fX1_addPhi hc_17) (mo_fX4_placePhis_G157_25 ih9 hrun))
        · skip
          obtain rfl := (Option.some.inj hrun)
          exact (glX1_rf _)
def fX4_placePhis_G165_28 (t115 : ST × ST × (Nat → Nat)) : Option (Int32 × ST × ST × (Nat → Nat)) := some (1, (t115.1), (t115.2.1), (t115.2.2))
theorem mo_fX4_placePhis_G165_28 {t115 : ST × ST × (Nat → Nat)} {o9q : Int32 × ST × ST × (Nat → Nat)} (hrun : fX4_placePhis_G165_28 t115 = some o9q) : glX1 (t115.2.2) (o9q.2.2.2) := by
  unfold fX4_placePhis_G165_28 at hrun
  obtain rfl := (Option.some.inj hrun)
  exact (glX1_rf _)
def fX4_placePhis_J21 (p0w : ST) (p0l : SL) (p1n : Nat → Nat) (p1w : ST) (p2 : Int32) (o_1 : Int64) (y0_21 : Int32) : Option (Int32 × ST × ST × (Nat → Nat)) := ((fX4_placePhis_L26 p0l p1w p2 o_1 NF 0 y0_21 0).bind fun (o26 : Int64) => ((fX4_placePhis_L115 p2 o26 NF 0 p0w p1w p1n).bind fun (o115 : (Sum (Int32 × ST × ST × (Nat → Nat)) (ST × ST × (Nat → Nat)))) => Sum.elim (fun r => some r) (fun (t115 : ST × ST × (Nat → Nat)) => (fX4_placePhis_G165_28 t115)) o115))
theorem mo_fX4_placePhis_J21 {p0w : ST} {p0l : SL} {p1n : Nat → Nat} {p1w : ST} {p2 : Int32} {o_1 : Int64} {y0_21 : Int32} {o9q : Int32 × ST × ST × (Nat → Nat)} (hrun : fX4_placePhis_J21 p0w p0l p1n p1w p2 o_1 y0_21 = some o9q) : glX1 p1n (o9q.2.2.2) := by
  unfold fX4_placePhis_J21 at hrun
  obtain ⟨o26, hc26, hrun⟩ := bnd9 hrun
  obtain ⟨o115, hc115, hrun⟩ := bnd9 hrun
  rcases o115 with r7 | t115
  · obtain rfl := (Option.some.inj hrun); exact (mo_fX4_placePhis_L115 _ _ _ _ _ _ hc115)
  replace hrun := el9 hrun
  exact (glX1_tr (mo_fX4_placePhis_L115 _ _ _ _ _ _ hc115) (mo_fX4_placePhis_G165_28 hrun))
def fX4_placePhis (p0w : ST) (p0l : SL) (p1n : Nat → Nat) (p1w : ST) (p2 : Int32) : Option (Int32 × ST × ST × (Nat → Nat)) := ((fX4_wantedAt p0l p1w p2).bind fun (o_1 : Int64) => (if (lg_cmp o_1 (0 : Int64)) = 0 then (fX4_placePhis_J21 p0w p0l p1n p1w p2 o_1 0) else (fX4_placePhis_J21 p0w p0l p1n p1w p2 o_1 1)))
theorem mo_fX4_placePhis {p0w : ST} {p0l : SL} {p1n : Nat → Nat} {p1w : ST} {p2 : Int32} {o9q : Int32 × ST × ST × (Nat → Nat)} (hrun : fX4_placePhis p0w p0l p1n p1w p2 = some o9q) : glX1 p1n (o9q.2.2.2) := by
  unfold fX4_placePhis at hrun
  obtain ⟨o_1, hc_1, hrun⟩ := bnd9 hrun
  rcases br9 hrun with ⟨hc29, hrun⟩ | ⟨hc29, hrun⟩
  · skip
    exact (mo_fX4_placePhis_J21 hrun)
  · skip
    exact (mo_fX4_placePhis_J21 hrun)
set_option maxHeartbeats 16000000 in
set_option maxRecDepth 100000 in
theorem kX4_placePhis {zs : ZS} (l : Launch) (dC : Nat → ClassId) (dI : Nat → Nat → Nat) (p0a : Nat → Nat) (p0k : Nat → ClassId) (p0w : ST) (p0l : SL) (p1a : Nat → Nat) (p1k : Nat → ClassId) (p1n : Nat → Nat) (p1w : ST) (p1l : SL) (p2 : Int32) (sz : Nat) (o : Int32 × ST × ST × (Nat → Nat)) (hrun : fX4_placePhis p0w p0l p1n p1w p2 = some o) : Met l yX4_placePhis (wz yX4_placePhis cX4_placePhis 12 (Option.some Jvm.ClassFile.FieldType.boolean)) ({ frames := 4, cells := (hcX1 p1n (o.2.2.2)), slots := (3 * (gcX1 p1n (o.2.2.2))), locals := 106 } : Room) (va_Pc [.ref (p0a 0), .ref (p1a 0), .int p2] (PRE zs dC dI (List.flatten ([(oX4 (p0a 0) p0a p0k p0w p0l), (oX1 (p1a 0) p1a p1k p1n p1w p1l)] : List va_W)) (List.flatten ([(tX4 p0k), (tX1 p1k)] : List (List (ClassId × FieldType)))) sz)) (va_Qi (fun (r : Int32) (_ : Unit) => r = (o.1)) (fun _ t => ∃ (xp1_18_z : Nat), ∃ (zp1_18_z : ClassId), ∃ (xp1_19_z : Nat), ∃ (zp1_19_z : ClassId), ∃ (xp1_20_z : Nat), ∃ (zp1_20_z : ClassId), POST dC dI (List.flatten ([(oX4 (p0a 0) p0a p0k (o.2.1) p0l), (oX1 (p1a 0) (st1 (st1 (st1 p1a 19 xp1_18_z) 20 xp1_19_z) 21 xp1_20_z) (st1 (st1 (st1 p1k 19 zp1_18_z) 20 zp1_19_z) 21 zp1_20_z) (o.2.2.2) (o.2.2.1) p1l)] : List va_W)) (List.flatten ([(tX4 p0k), (tX1 (st1 (st1 (st1 p1k 19 zp1_18_z) 20 zp1_19_z) 21 zp1_20_z))] : List (List (ClassId × FieldType)))) (va_A (List.flatten ([(oX4 (p0a 0) p0a p0k p0w p0l), (oX1 (p1a 0) p1a p1k p1n p1w p1l)] : List va_W)) sz) t) (va_A (List.flatten ([(oX4 (p0a 0) p0a p0k p0w p0l), (oX1 (p1a 0) p1a p1k p1n p1w p1l)] : List va_W)) sz)) (hcX1 p1n (o.2.2.2)) (3 * (gcX1 p1n (o.2.2.2))) (va_A (List.flatten ([(oX4 (p0a 0) p0a p0k p0w p0l), (oX1 (p1a 0) p1a p1k p1n p1w p1l)] : List va_W)) sz) := by
  refine Met.ofW (cc := cX4_placePhis) (maxL := 12) (ret := (Option.some Jvm.ClassFile.FieldType.boolean)) (by decide) rfl ?_
  intro p e s m args below meth c s₁ B hml hv
  obtain ⟨rfl, hsz, hP, hK, hD0, hE⟩ := hv
  have hx := B.exec
  have hb := B.bytes
  have hr := B.returns
  have hts0 := atoms_spec (ws := wz yX4_placePhis cX4_placePhis 12 (Option.some Jvm.ClassFile.FieldType.boolean)) B.pre
  have hts : ∀ w ∈ gw, w.before _ s = true := fun w h => hts0 w (List.mem_cons_of_mem _ h)
  have hown : s.vm.findClass RX4 = some m.cls := findClass_of_methodNamed B.named
  have hlocks := B.notSynchronized
  subst hsz
  have hD := hD0.self (sz := s.heap.size)
  refine gQ9 ?_
  intro Q hQ
  generalize hAe : va_A (List.flatten ([(oX4 (p0a 0) p0a p0k p0w p0l), (oX1 (p1a 0) p1a p1k p1n p1w p1l)] : List va_W)) s.heap.size = A at hD hE hQ
  have hA : ∀ q : Nat, s.heap.size ≤ q → A q := fun q h => by rw [← hAe]; exact Or.inr h
  have hS : va_S A s.heap s.heap [] := va_S.rf
  have hP : va_P (dC, dI) cls (List.flatten ([(oX4 (p0a 0) p0a p0k p0w p0l), (oX1 (p1a 0) p1a p1k p1n p1w p1l)] : List va_W)) s.heap := hP
  have hl := lv_entry ([.ref (p0a 0), .ref (p1a 0), .int p2]) (n := 12) (Nat.le_of_ble_eq_true rfl)
  rw [lg_entry_eq]
  generalize (lg_sl ([.ref (p0a 0), .ref (p1a 0), .int p2]) ++ List.replicate (12 - (lg_sl ([.ref (p0a 0), .ref (p1a 0), .int p2])).length) Slot.unset).toArray = ls at hl ⊢
  have hl : lv_has ls 12 [(0, .ref (p0a 0)), (1, .ref (p1a 0)), (2, .int p2)] := hl
  obtain ⟨H, hHe⟩ : ∃ H, H = s.heap := ⟨_, rfl⟩
  obtain ⟨locs, hle⟩ : ∃ locs : List Loc, locs = [] := ⟨_, rfl⟩
  rw [← hHe] at hP
  have hS : va_S A s.heap H locs := by rw [hHe, hle]; exact hS
  show W p l e ({ frames := 4, cells := (hcX1 p1n (o.2.2.2)), slots := (3 * (gcX1 p1n (o.2.2.2))), locals := 106 } : Room) s m ([.ref (p0a 0), .ref (p1a 0), .int p2] : List Value).toArray below meth c s.heap [] 0 0 Q (F0 m 0 ls [])
  rw [← hle]
  refine wH9 hHe ?_
  have hg_p1 := glX1_rf p1n
  have hgn_p1 : glX1 p1n (o.2.2.2) := (mo_fX4_placePhis hrun)
  refine W.widen (k := (hcX1 p1n p1n)) (n := (3 * (gcX1 p1n p1n))) (Nat.zero_le _) (Nat.zero_le _) ?_
  unfold fX4_placePhis at hrun
  refine lv_aload_n hx hb dX4_placePhis_0 rfl (lv_at hl 0 rfl) ?_
  refine lv_aload_n hx hb dX4_placePhis_1 rfl (lv_at hl 1 rfl) ?_
  refine lv_iload_n hx hb dX4_placePhis_2 rfl (lv_at hl 2 rfl) ?_
  obtain ⟨o_1, hc_1, hrun⟩ := bnd9 hrun
  have hPx : va_P (dC, dI) cls ((List.flatten ([(oX4 (p0a 0) p0a p0k p0w p0l), (oX1 (p1a 0) p1a p1k p1n p1w p1l)] : List va_W)) ++ (List.flatten ([] : List va_W))) H := vP_fa (vP_perm hP (bP (List.Perm.refl _)))
  have hDx : va_D A ((List.flatten ([(oX4 (p0a 0) p0a p0k p0w p0l), (oX1 (p1a 0) p1a p1k p1n p1w p1l)] : List va_W)) ++ (List.flatten ([] : List va_W))) := vD_fa (vD_perm hD (bP (List.Perm.refl _)))
  have hKx : va_K (dC, dI) cls ((List.flatten ([(tX4 p0k), (tX1 p1k)] : List (List (ClassId × FieldType)))) ++ (List.flatten ([] : List (List (ClassId × FieldType))))) s := vK_fa (vK_perm hK (bP (List.Perm.refl _)))
  have hPc := vP_l hPx
  have hDc := vD_l hDx
  have hKc := vK_l hKx
  have hFc := vfree hDx hS hA
  refine va_calll (va_runV (As := [.ref (p1a 0), .int p2]) (rest := []) ⟨hx, hb, hml, hown, hts⟩ (kX4_wantedAt l dC dI (p0a := p0a) (p0k := p0k) (p0w := p0w) (p0l := p0l) (p1a := p1a) (p1k := p1k) (p1n := p1n) (p1w := p1w) (p1l := p1l) (p2 := p2) (sz := _) (o := o_1) (hrun := hc_1)) (cwV 2 hts (gi_V qw398 qw399 qw400 qw270 (gi_z qw397)) rfl rfl rfl (by decide +kernel) ⟨Nat.le_of_ble_eq_true rfl, Nat.le_of_ble_eq_true rfl⟩) ⟨PRE.blind, va_recv hKc hPc (ci := 6) (q0 := 0) rfl rfl, PRE.of hE hS hFc hPc hKc hDc⟩ rfl rfl hl.1 rfl (lv_room (Nat.le_of_ble_eq_true rfl)) dX4_placePhis_3 ⟨(show (hcX1 p1n p1n) + 0 ≤ (hcX1 p1n (o.2.2.2)) from by have q0 := gmX1 hg_p1 hgn_p1; omega), (show (3 * (gcX1 p1n p1n)) + 0 ≤ (3 * (gcX1 p1n (o.2.2.2))) from by have q0 := gmX1 hg_p1 hgn_p1; omega)⟩) hS (fun q _ h => hFc q h) hFc (fun r2 u t H locs ht hvm hw hB hz1 hk1 hS => ?_)
  obtain ⟨b1, b2, b3⟩ := hB
  rw [ht] at b1
  obtain ⟨hP, hD, hK⟩ := JOINC (wc := (List.flatten ([(oX4 (p0a 0) p0a p0k p0w p0l), (oX1 (p1a 0) p1a p1k p1n p1w p1l)] : List va_W))) (wr := (List.flatten ([] : List va_W))) (w1 := (List.flatten ([(oX4 (p0a 0) p0a p0k p0w p0l), (oX1 (p1a 0) p1a p1k p1n p1w p1l)] : List va_W))) (t1 := (List.flatten ([(tX4 p0k), (tX1 p1k)] : List (List (ClassId × FieldType))))) hPx hDx hKx hk1 hFc b1 (va_K.moved hvm.symm b2) b3
  have hP : va_P (dC, dI) cls (List.flatten ([(oX4 (p0a 0) p0a p0k p0w p0l), (oX1 (p1a 0) p1a p1k p1n p1w p1l)] : List va_W)) H := vP_perm (vP_fb hP) (bP (List.Perm.refl _))
  have hD : va_D A (List.flatten ([(oX4 (p0a 0) p0a p0k p0w p0l), (oX1 (p1a 0) p1a p1k p1n p1w p1l)] : List va_W)) := vD_perm (vD_fb hD) (bP (List.Perm.refl _))
  have hK : va_K (dC, dI) cls (List.flatten ([(tX4 p0k), (tX1 p1k)] : List (List (ClassId × FieldType)))) s := vK_perm (vK_fb hK) (bP (List.Perm.refl _))
  obtain rfl : o_1 = r2 := hw.symm
  refine lv_lstore_n (lv' := [(3, .long o_1), (0, .ref (p0a 0)), (1, .ref (p1a 0)), (2, .int p2)]) hx hb dX4_placePhis_6 rfl hl (by decide) rfl (fun ls hl => ?_)
  refine lv_lconst (v := 0) hx hb dX4_placePhis_7 (by decide) ?_
  refine lv_lstore (lv' := [(5, .long 0), (3, .long o_1), (0, .ref (p0a 0)), (1, .ref (p1a 0)), (2, .int p2)]) hx hb dX4_placePhis_8 hl (by decide) rfl (fun ls hl => ?_)
  refine lv_lload_n hx hb dX4_placePhis_10 rfl (lv_at hl 1 rfl) ?_
  refine lv_lconst (v := 0) hx hb dX4_placePhis_11 (by decide) ?_
  refine W.lcmp hx hb dX4_placePhis_12 ?_
  have J21 : ∀ (y0_21 : Int32) (H : Heap) (locs : List Loc) (ls : Array Slot), (fX4_placePhis_J21 p0w p0l p1n p1w p2 o_1 y0_21) = some o → va_P (dC, dI) cls (List.flatten ([(oX4 (p0a 0) p0a p0k p0w p0l), (oX1 (p1a 0) p1a p1k p1n p1w p1l)] : List va_W)) H → va_D A (List.flatten ([(oX4 (p0a 0) p0a p0k p0w p0l), (oX1 (p1a 0) p1a p1k p1n p1w p1l)] : List va_W)) → va_K (dC, dI) cls (List.flatten ([(tX4 p0k), (tX1 p1k)] : List (List (ClassId × FieldType)))) s → va_S A s.heap H locs → lv_has ls 12 [(0, .ref (p0a 0)), (1, .ref (p1a 0)), (2, .int p2), (3, .long o_1), (5, .long 0)] → glX1 p1n p1n → W p l e ({ frames := 4, cells := (hcX1 p1n (o.2.2.2)), slots := (3 * (gcX1 p1n (o.2.2.2))), locals := 106 } : Room) s m ([.ref (p0a 0), .ref (p1a 0), .int p2] : List Value).toArray below meth c H locs (hcX1 p1n p1n) (3 * (gcX1 p1n p1n)) Q (F0 m 21 ls [.int y0_21]) := by
    intro y0_21 H locs ls hrun hP hD hK hS hl hg_p1 
    have hgn_p1 : glX1 p1n (o.2.2.2) := (mo_fX4_placePhis_J21 hrun)
    unfold fX4_placePhis_J21 at hrun
    refine lv_istore (lv' := [(7, .int y0_21), (0, .ref (p0a 0)), (1, .ref (p1a 0)), (2, .int p2), (3, .long o_1), (5, .long 0)]) hx hb dX4_placePhis_21 hl (by decide) rfl (fun ls hl => ?_)
    refine lv_iconst (v := 0) hx hb dX4_placePhis_23 (by decide) ?_
    refine lv_istore (lv' := [(8, .int 0), (7, .int y0_21), (0, .ref (p0a 0)), (1, .ref (p1a 0)), (2, .int p2), (3, .long o_1), (5, .long 0)]) hx hb dX4_placePhis_24 hl (by decide) rfl (fun ls hl => ?_)
    have L26 : ∀ (n_26 : Nat) (v5_26 : Int64) (v7_26 : Int32) (v8_26 : Int32) (o26 : Int64) (H : Heap) (locs : List Loc) (ls : Array Slot), (fX4_placePhis_L26 p0l p1w p2 o_1 n_26) v5_26 v7_26 v8_26 = some o26 → va_P (dC, dI) cls (List.flatten ([(oX4 (p0a 0) p0a p0k p0w p0l), (oX1 (p1a 0) p1a p1k p1n p1w p1l)] : List va_W)) H → va_D A (List.flatten ([(oX4 (p0a 0) p0a p0k p0w p0l), (oX1 (p1a 0) p1a p1k p1n p1w p1l)] : List va_W)) → va_K (dC, dI) cls (List.flatten ([(tX4 p0k), (tX1 p1k)] : List (List (ClassId × FieldType)))) s → va_S A s.heap H locs → lv_has ls 12 [(0, .ref (p0a 0)), (1, .ref (p1a 0)), (2, .int p2), (3, .long o_1), (5, .long v5_26), (7, .int v7_26), (8, .int v8_26)] → glX1 p1n p1n → (∀ (H : Heap) (locs : List Loc) (ls : Array Slot), va_P (dC, dI) cls (List.flatten ([(oX4 (p0a 0) p0a p0k p0w p0l), (oX1 (p1a 0) p1a p1k p1n p1w p1l)] : List va_W)) H → va_D A (List.flatten ([(oX4 (p0a 0) p0a p0k p0w p0l), (oX1 (p1a 0) p1a p1k p1n p1w p1l)] : List va_W)) → va_K (dC, dI) cls (List.flatten ([(tX4 p0k), (tX1 p1k)] : List (List (ClassId × FieldType)))) s → va_S A s.heap H locs → lv_has ls 12 [(0, .ref (p0a 0)), (1, .ref (p1a 0)), (2, .int p2), (5, .long o26)] → glX1 p1n p1n → W p l e ({ frames := 4, cells := (hcX1 p1n (o.2.2.2)), slots := (3 * (gcX1 p1n (o.2.2.2))), locals := 106 } : Room) s m ([.ref (p0a 0), .ref (p1a 0), .int p2] : List Value).toArray below meth c H locs (hcX1 p1n p1n) (3 * (gcX1 p1n p1n)) Q (F0 m 112 ls [])) → W p l e ({ frames := 4, cells := (hcX1 p1n (o.2.2.2)), slots := (3 * (gcX1 p1n (o.2.2.2))), locals := 106 } : Room) s m ([.ref (p0a 0), .ref (p1a 0), .int p2] : List Value).toArray below meth c H locs (hcX1 p1n p1n) (3 * (gcX1 p1n p1n)) Q (F0 m 26 ls []) := by
      intro n_26
      induction n_26 with
      | zero => intro v5_26 v7_26 v8_26 o26 H locs ls hrun; exact (no9 rfl hrun).elim
      | succ n_26 IH26 =>
        intro v5_26 v7_26 v8_26 o26 H locs ls hrun hP hD hK hS hl hg_p1 hk26
        unfold fX4_placePhis_L26 at hrun
        refine lv_iload hx hb dX4_placePhis_26 (lv_at hl 5 rfl) ?_
        rcases br9 hrun with ⟨hc3, hrun⟩ | ⟨hc3, hrun⟩
        · refine lv_if_eq (tgt := 112) hx hb dX4_placePhis_28 (by decide) (fun _ => ?_) (fun c => absurd hc3 c)
          obtain rfl := (Option.some.inj hrun)
          exact hk26 _ _ _ hP hD hK hS (lv_sub hl [0, 1, 2, 4] rfl) hg_p1
        · refine lv_if_eq (tgt := 112) hx hb dX4_placePhis_28 (by decide) (fun c => absurd c hc3) (fun _ => ?_)
          refine lv_iload hx hb dX4_placePhis_31 (lv_at hl 6 rfl) ?_
          refine lv_bipush (v := 60) hx hb dX4_placePhis_33 (by decide) ?_
          rcases br9 hrun with ⟨hc4, hrun⟩ | ⟨hc4, hrun⟩
          · refine lv_icmp_gt (tgt := 112) hx hb dX4_placePhis_35 (by decide) (fun _ => ?_) (fun c => absurd hc4 c)
            obtain rfl := (Option.some.inj hrun)
            exact hk26 _ _ _ hP hD hK hS (lv_sub hl [0, 1, 2, 4] rfl) hg_p1
          · refine lv_icmp_gt (tgt := 112) hx hb dX4_placePhis_35 (by decide) (fun c => absurd c hc4) (fun _ => ?_)
            refine lv_lload hx hb dX4_placePhis_38 (lv_at hl 4 rfl) ?_
            refine lv_lstore (lv' := [(9, .long v5_26), (0, .ref (p0a 0)), (1, .ref (p1a 0)), (2, .int p2), (3, .long o_1), (5, .long v5_26), (7, .int v7_26), (8, .int v8_26)]) hx hb dX4_placePhis_40 hl (by decide) rfl (fun ls hl => ?_)
            refine lv_iconst (v := 0) hx hb dX4_placePhis_42 (by decide) ?_
            refine lv_istore (lv' := [(11, .int 0), (9, .long v5_26), (0, .ref (p0a 0)), (1, .ref (p1a 0)), (2, .int p2), (3, .long o_1), (5, .long v5_26), (7, .int v7_26), (8, .int v8_26)]) hx hb dX4_placePhis_43 hl (by decide) rfl (fun ls hl => ?_)
            have L45 : ∀ (n_45 : Nat) (v5_45 : Int64) (v11_45 : Int32) (o45 : Int64) (H : Heap) (locs : List Loc) (ls : Array Slot), (fX4_placePhis_L45 p0l p1w p2 o_1 n_45) v5_45 v11_45 = some o45 → va_P (dC, dI) cls (List.flatten ([(oX4 (p0a 0) p0a p0k p0w p0l), (oX1 (p1a 0) p1a p1k p1n p1w p1l)] : List va_W)) H → va_D A (List.flatten ([(oX4 (p0a 0) p0a p0k p0w p0l), (oX1 (p1a 0) p1a p1k p1n p1w p1l)] : List va_W)) → va_K (dC, dI) cls (List.flatten ([(tX4 p0k), (tX1 p1k)] : List (List (ClassId × FieldType)))) s → va_S A s.heap H locs → lv_has ls 12 [(0, .ref (p0a 0)), (1, .ref (p1a 0)), (2, .int p2), (3, .long o_1), (5, .long v5_45), (8, .int v8_26), (9, .long v5_26), (11, .int v11_45)] → glX1 p1n p1n → (∀ (H : Heap) (locs : List Loc) (ls : Array Slot), va_P (dC, dI) cls (List.flatten ([(oX4 (p0a 0) p0a p0k p0w p0l), (oX1 (p1a 0) p1a p1k p1n p1w p1l)] : List va_W)) H → va_D A (List.flatten ([(oX4 (p0a 0) p0a p0k p0w p0l), (oX1 (p1a 0) p1a p1k p1n p1w p1l)] : List va_W)) → va_K (dC, dI) cls (List.flatten ([(tX4 p0k), (tX1 p1k)] : List (List (ClassId × FieldType)))) s → va_S A s.heap H locs → lv_has ls 12 [(0, .ref (p0a 0)), (1, .ref (p1a 0)), (2, .int p2), (3, .long o_1), (5, .long o45), (8, .int v8_26), (9, .long v5_26)] → glX1 p1n p1n → W p l e ({ frames := 4, cells := (hcX1 p1n (o.2.2.2)), slots := (3 * (gcX1 p1n (o.2.2.2))), locals := 106 } : Room) s m ([.ref (p0a 0), .ref (p1a 0), .int p2] : List Value).toArray below meth c H locs (hcX1 p1n p1n) (3 * (gcX1 p1n p1n)) Q (F0 m 91 ls [])) → W p l e ({ frames := 4, cells := (hcX1 p1n (o.2.2.2)), slots := (3 * (gcX1 p1n (o.2.2.2))), locals := 106 } : Room) s m ([.ref (p0a 0), .ref (p1a 0), .int p2] : List Value).toArray below meth c H locs (hcX1 p1n p1n) (3 * (gcX1 p1n p1n)) Q (F0 m 45 ls []) := by
              intro n_45
              induction n_45 with
              | zero => intro v5_45 v11_45 o45 H locs ls hrun; exact (no9 rfl hrun).elim
              | succ n_45 IH45 =>
                intro v5_45 v11_45 o45 H locs ls hrun hP hD hK hS hl hg_p1 hk45
                unfold fX4_placePhis_L45 at hrun
                refine lv_iload hx hb dX4_placePhis_45 (lv_at hl 7 rfl) ?_
                refine lv_aload_n hx hb dX4_placePhis_47 rfl (lv_at hl 1 rfl) ?_
                refine va_get (D := (dC, dI)) (ci := 4) (v := .int (p1w 0 0)) (C := RX1) (T := TX1) (N := 21) hx hb hts i_X1 hown hK hP 19 rfl rfl 0 (by decide) (hts _ qw313) (fun _ h9 => h9) rfl dX4_placePhis_48 ?_
                rcases br9 hrun with ⟨hc5, hrun⟩ | ⟨hc5, hrun⟩
                · refine lv_icmp_ge (tgt := 91) hx hb dX4_placePhis_51 (by decide) (fun _ => ?_) (fun c => absurd hc5 c)
                  obtain rfl := (Option.some.inj hrun)
                  exact hk45 _ _ _ hP hD hK hS (lv_sub hl [0, 1, 2, 3, 4, 5, 6] rfl) hg_p1
                · refine lv_icmp_ge (tgt := 91) hx hb dX4_placePhis_51 (by decide) (fun c => absurd c hc5) (fun _ => ?_)
                  refine lv_aload_n hx hb dX4_placePhis_54 rfl (lv_at hl 0 rfl) ?_
                  refine va_get (D := (dC, dI)) (ci := 6) (v := .ref (p0a 17)) (C := RX4) (T := TX4) (N := 20) hx hb hts i_X4 hown hK hP 0 rfl rfl 16 (by decide) (hts _ qw385) (fun _ h9 => h9) rfl dX4_placePhis_55 ?_
                  refine lv_iload_n hx hb dX4_placePhis_58 rfl (lv_at hl 2 rfl) ?_
                  obtain ⟨hq6, hrun⟩ := chk9 hrun
                  refine va_lald hx hb hK hP 15 14 rfl rfl (ixb_in hq6) dX4_placePhis_59 ?_
                  refine lv_lload hx hb dX4_placePhis_60 (lv_at hl 4 rfl) ?_
                  refine lv_lor hx hb dX4_placePhis_62 ?_
                  refine lv_iload hx hb dX4_placePhis_63 (lv_at hl 7 rfl) ?_
                  obtain ⟨o_7, hc_7, hrun⟩ := bnd9 hrun
                  have hPx : va_P (dC, dI) cls ((List.flatten ([] : List va_W)) ++ (List.flatten ([(oX4 (p0a 0) p0a p0k p0w p0l), (oX1 (p1a 0) p1a p1k p1n p1w p1l)] : List va_W))) H := vP_fa (vP_perm hP (bP (List.Perm.refl _)))
                  have hDx : va_D A ((List.flatten ([] : List va_W)) ++ (List.flatten ([(oX4 (p0a 0) p0a p0k p0w p0l), (oX1 (p1a 0) p1a p1k p1n p1w p1l)] : List va_W))) := vD_fa (vD_perm hD (bP (List.Perm.refl _)))
                  have hKx : va_K (dC, dI) cls ((List.flatten ([] : List (List (ClassId × FieldType)))) ++ (List.flatten ([(tX4 p0k), (tX1 p1k)] : List (List (ClassId × FieldType))))) s := vK_fa (vK_perm hK (bP (List.Perm.refl _)))
                  have hPc := vP_l hPx
                  have hDc := vD_l hDx
                  have hKc := vK_l hKx
                  have hFc := vfree hDx hS hA
                  refine va_calli (va_runSN (As := [.long ((p0l 17 (nn p2)) ||| v5_45), .int v11_45]) (rest := []) ⟨hx, hb, hml, hown, hts⟩ (kX11_holds l dC dI (p0 := ((p0l 17 (nn p2)) ||| v5_45)) (p1 := v11_45) (sz := _) (o := o_7) (hrun := hc_7)) ⟨(va_cnB 2 hts (gi_z qw192) rfl rfl rfl (hE.nw (List.mem_append_right _ (tbl_6 (i := 75) rfl)) rfl) (hts _ qw129) (by decide +kernel) ⟨Nat.le_of_ble_eq_true rfl, Nat.le_of_ble_eq_true rfl⟩), (hts _ qw193), trivial⟩ ⟨PRE.blind, PRE.of hE hS hFc hPc hKc hDc⟩ rfl rfl hl.1 rfl (lv_room (Nat.le_of_ble_eq_true rfl)) dX4_placePhis_65 ⟨(show (hcX1 p1n p1n) + 0 ≤ (hcX1 p1n (o.2.2.2)) from by have q0 := gmX1 hg_p1 hgn_p1; omega), (show (3 * (gcX1 p1n p1n)) + 0 ≤ (3 * (gcX1 p1n (o.2.2.2))) from by have q0 := gmX1 hg_p1 hgn_p1; omega)⟩) hS (fun q _ h => hFc q h) hFc (fun r8 u t H locs ht hvm hw hB hz1 hk1 hS => ?_)
                  obtain ⟨b1, b2, b3⟩ := hB
                  rw [ht] at b1
                  obtain ⟨hP, hD, hK⟩ := JOINC (wc := (List.flatten ([] : List va_W))) (wr := (List.flatten ([(oX4 (p0a 0) p0a p0k p0w p0l), (oX1 (p1a 0) p1a p1k p1n p1w p1l)] : List va_W))) (w1 := (List.flatten ([] : List va_W))) (t1 := (List.flatten ([] : List (List (ClassId × FieldType))))) hPx hDx hKx hk1 hFc b1 (va_K.moved hvm.symm b2) b3
                  have hP : va_P (dC, dI) cls (List.flatten ([(oX4 (p0a 0) p0a p0k p0w p0l), (oX1 (p1a 0) p1a p1k p1n p1w p1l)] : List va_W)) H := vP_perm (vP_fb hP) (bP (List.Perm.refl _))
                  have hD : va_D A (List.flatten ([(oX4 (p0a 0) p0a p0k p0w p0l), (oX1 (p1a 0) p1a p1k p1n p1w p1l)] : List va_W)) := vD_perm (vD_fb hD) (bP (List.Perm.refl _))
                  have hK : va_K (dC, dI) cls (List.flatten ([(tX4 p0k), (tX1 p1k)] : List (List (ClassId × FieldType)))) s := vK_perm (vK_fb hK) (bP (List.Perm.refl _))
                  obtain rfl : o_7 = r8 := hw.symm
                  have J85 : ∀ (v5_85 : Int64) (H : Heap) (locs : List Loc) (ls : Array Slot), (fX4_placePhis_J85 (fX4_placePhis_L45 p0l p1w p2 o_1 n_45) v11_45 v5_85) = some o45 → va_P (dC, dI) cls (List.flatten ([(oX4 (p0a 0) p0a p0k p0w p0l), (oX1 (p1a 0) p1a p1k p1n p1w p1l)] : List va_W)) H → va_D A (List.flatten ([(oX4 (p0a 0) p0a p0k p0w p0l), (oX1 (p1a 0) p1a p1k p1n p1w p1l)] : List va_W)) → va_K (dC, dI) cls (List.flatten ([(tX4 p0k), (tX1 p1k)] : List (List (ClassId × FieldType)))) s → va_S A s.heap H locs → lv_has ls 12 [(0, .ref (p0a 0)), (1, .ref (p1a 0)), (2, .int p2), (3, .long o_1), (5, .long v5_85), (8, .int v8_26), (9, .long v5_26), (11, .int v11_45)] → glX1 p1n p1n → W p l e ({ frames := 4, cells := (hcX1 p1n (o.2.2.2)), slots := (3 * (gcX1 p1n (o.2.2.2))), locals := 106 } : Room) s m ([.ref (p0a 0), .ref (p1a 0), .int p2] : List Value).toArray below meth c H locs (hcX1 p1n p1n) (3 * (gcX1 p1n p1n)) Q (F0 m 85 ls []) := by
                    intro v5_85 H locs ls hrun hP hD hK hS hl hg_p1 
                    unfold fX4_placePhis_J85 at hrun
                    refine lv_iinc (v := (v11_45 + 1)) (lv' := [(11, .int (v11_45 + 1)), (0, .ref (p0a 0)), (1, .ref (p1a 0)), (2, .int p2), (3, .long o_1), (5, .long v5_85), (8, .int v8_26), (9, .long v5_26)]) hx hb dX4_placePhis_85 hl (k := 7) rfl rfl (by decide) rfl (fun ls hl => ?_)
                    refine lv_goto (tgt := 45) hx hb dX4_placePhis_88 (by decide) ?_
                    exact IH45 v5_85 (v11_45 + 1) o45 _ _ _ hrun hP hD hK hS (lv_sub hl [1, 2, 3, 4, 5, 6, 7, 0] rfl) hg_p1 hk45
                  rcases br9 hrun with ⟨hc9, hrun⟩ | ⟨hc9, hrun⟩
                  · refine lv_if_eq (tgt := 85) hx hb dX4_placePhis_68 (by decide) (fun _ => ?_) (fun c => absurd hc9 c)
                    exact J85 v5_45 _ _ _ hrun hP hD hK hS (lv_sub hl [0, 1, 2, 3, 4, 5, 6, 7] rfl) hg_p1
                  · refine lv_if_eq (tgt := 85) hx hb dX4_placePhis_68 (by decide) (fun c => absurd c hc9) (fun _ => ?_)
                    refine lv_lload hx hb dX4_placePhis_71 (lv_at hl 4 rfl) ?_
                    refine lv_aload_n hx hb dX4_placePhis_73 rfl (lv_at hl 0 rfl) ?_
                    refine va_get (D := (dC, dI)) (ci := 6) (v := .ref (p0a 18)) (C := RX4) (T := TX4) (N := 20) hx hb hts i_X4 hown hK hP 0 rfl rfl 17 (by decide) (hts _ qw320) (fun _ h9 => h9) rfl dX4_placePhis_74 ?_
                    refine lv_iload hx hb dX4_placePhis_77 (lv_at hl 7 rfl) ?_
                    obtain ⟨hq10, hrun⟩ := chk9 hrun
                    refine va_lald hx hb hK hP 16 15 rfl rfl (ixb_in hq10) dX4_placePhis_79 ?_
                    refine lv_lload_n hx hb dX4_placePhis_80 rfl (lv_at hl 3 rfl) ?_
                    refine lv_land hx hb dX4_placePhis_81 ?_
                    refine lv_lor hx hb dX4_placePhis_82 ?_
                    refine lv_lstore (lv' := [(5, .long (v5_45 ||| ((p0l 18 (nn v11_45)) &&& o_1))), (0, .ref (p0a 0)), (1, .ref (p1a 0)), (2, .int p2), (3, .long o_1), (8, .int v8_26), (9, .long v5_26), (11, .int v11_45)]) hx hb dX4_placePhis_83 hl (by decide) rfl (fun ls hl => ?_)
                    exact J85 (v5_45 ||| ((p0l 18 (nn v11_45)) &&& o_1)) _ _ _ hrun hP hD hK hS (lv_sub hl [1, 2, 3, 4, 0, 5, 6, 7] rfl) hg_p1
            obtain ⟨o45, hc45, hrun⟩ := bnd9 hrun
            refine L45 NF v5_26 0 o45 _ _ _ hc45 hP hD hK hS (lv_sub hl [2, 3, 4, 5, 6, 8, 1, 0] rfl) hg_p1 ?_
            intro H locs ls hP hD hK hS hl hg_p1
            have hl := hl
            refine lv_lload hx hb dX4_placePhis_91 (lv_at hl 4 rfl) ?_
            refine lv_lload hx hb dX4_placePhis_93 (lv_at hl 6 rfl) ?_
            refine W.lcmp hx hb dX4_placePhis_95 ?_
            have J104 : ∀ (y0_104 : Int32) (H : Heap) (locs : List Loc) (ls : Array Slot), (fX4_placePhis_J104 (fX4_placePhis_L26 p0l p1w p2 o_1 n_26) v8_26 o45 y0_104) = some o26 → va_P (dC, dI) cls (List.flatten ([(oX4 (p0a 0) p0a p0k p0w p0l), (oX1 (p1a 0) p1a p1k p1n p1w p1l)] : List va_W)) H → va_D A (List.flatten ([(oX4 (p0a 0) p0a p0k p0w p0l), (oX1 (p1a 0) p1a p1k p1n p1w p1l)] : List va_W)) → va_K (dC, dI) cls (List.flatten ([(tX4 p0k), (tX1 p1k)] : List (List (ClassId × FieldType)))) s → va_S A s.heap H locs → lv_has ls 12 [(0, .ref (p0a 0)), (1, .ref (p1a 0)), (2, .int p2), (3, .long o_1), (5, .long o45), (8, .int v8_26)] → glX1 p1n p1n → W p l e ({ frames := 4, cells := (hcX1 p1n (o.2.2.2)), slots := (3 * (gcX1 p1n (o.2.2.2))), locals := 106 } : Room) s m ([.ref (p0a 0), .ref (p1a 0), .int p2] : List Value).toArray below meth c H locs (hcX1 p1n p1n) (3 * (gcX1 p1n p1n)) Q (F0 m 104 ls [.int y0_104]) := by
              intro y0_104 H locs ls hrun hP hD hK hS hl hg_p1 
              unfold fX4_placePhis_J104 at hrun
              refine lv_istore (lv' := [(7, .int y0_104), (0, .ref (p0a 0)), (1, .ref (p1a 0)), (2, .int p2), (3, .long o_1), (5, .long o45), (8, .int v8_26)]) hx hb dX4_placePhis_104 hl (by decide) rfl (fun ls hl => ?_)
              refine lv_iinc (v := (v8_26 + 1)) (lv' := [(8, .int (v8_26 + 1)), (7, .int y0_104), (0, .ref (p0a 0)), (1, .ref (p1a 0)), (2, .int p2), (3, .long o_1), (5, .long o45)]) hx hb dX4_placePhis_106 hl (k := 6) rfl rfl (by decide) rfl (fun ls hl => ?_)
              refine lv_goto (tgt := 26) hx hb dX4_placePhis_109 (by decide) ?_
              exact IH26 o45 y0_104 (v8_26 + 1) o26 _ _ _ hrun hP hD hK hS (lv_sub hl [2, 3, 4, 5, 6, 1, 0] rfl) hg_p1 hk26
            rcases br9 hrun with ⟨hc11, hrun⟩ | ⟨hc11, hrun⟩
            · refine lv_if_eq (tgt := 103) hx hb dX4_placePhis_96 (by decide) (fun _ => ?_) (fun c => absurd hc11 c)
              refine lv_iconst (v := 0) hx hb dX4_placePhis_103 (by decide) ?_
              exact J104 0 _ _ _ hrun hP hD hK hS (lv_sub hl [0, 1, 2, 3, 4, 5] rfl) hg_p1
            · refine lv_if_eq (tgt := 103) hx hb dX4_placePhis_96 (by decide) (fun c => absurd c hc11) (fun _ => ?_)
              refine lv_iconst (v := 1) hx hb dX4_placePhis_99 (by decide) ?_
              refine lv_goto (tgt := 104) hx hb dX4_placePhis_100 (by decide) ?_
              exact J104 1 _ _ _ hrun hP hD hK hS (lv_sub hl [0, 1, 2, 3, 4, 5] rfl) hg_p1
    obtain ⟨o26, hc26, hrun⟩ := bnd9 hrun
    refine L26 NF 0 y0_21 0 o26 _ _ _ hc26 hP hD hK hS (lv_sub hl [2, 3, 4, 5, 6, 1, 0] rfl) hg_p1 ?_
    intro H locs ls hP hD hK hS hl hg_p1
    have hl := hl
    refine lv_iconst (v := 0) hx hb dX4_placePhis_112 (by decide) ?_
    refine lv_istore (lv' := [(8, .int 0), (0, .ref (p0a 0)), (1, .ref (p1a 0)), (2, .int p2), (5, .long o26)]) hx hb dX4_placePhis_113 hl (by decide) rfl (fun ls hl => ?_)
    obtain ⟨o115, hc115, hrun⟩ := bnd9 hrun
    have hgl9_115_0 : ∀ {t115 : ST × ST × (Nat → Nat)}, (fX4_placePhis_G165_28 t115) = some o → glX1 (t115.2.2) (o.2.2.2) := fun h7 => (mo_fX4_placePhis_G165_28 h7)
    have L115 : ∀ (n_115 : Nat) (v8_115 : Int32) (p0w_115 : ST) (p1w_115 : ST) (p1n_115 : Nat → Nat) (xp1_18_115 : Nat) (zp1_18_115 : ClassId) (xp1_19_115 : Nat) (zp1_19_115 : ClassId) (xp1_20_115 : Nat) (zp1_20_115 : ClassId) (o115 : (Sum (Int32 × ST × ST × (Nat → Nat)) (ST × ST × (Nat → Nat)))) (H : Heap) (locs : List Loc) (ls : Array Slot), (fX4_placePhis_L115 p2 o26 n_115) v8_115 p0w_115 p1w_115 p1n_115 = some o115 → va_P (dC, dI) cls (List.flatten ([(oX4 (p0a 0) p0a p0k p0w_115 p0l), (oX1 (p1a 0) (st1 (st1 (st1 p1a 19 xp1_18_115) 20 xp1_19_115) 21 xp1_20_115) (st1 (st1 (st1 p1k 19 zp1_18_115) 20 zp1_19_115) 21 zp1_20_115) p1n_115 p1w_115 p1l)] : List va_W)) H → va_D A (List.flatten ([(oX4 (p0a 0) p0a p0k p0w_115 p0l), (oX1 (p1a 0) (st1 (st1 (st1 p1a 19 xp1_18_115) 20 xp1_19_115) 21 xp1_20_115) (st1 (st1 (st1 p1k 19 zp1_18_115) 20 zp1_19_115) 21 zp1_20_115) p1n_115 p1w_115 p1l)] : List va_W)) → va_K (dC, dI) cls (List.flatten ([(tX4 p0k), (tX1 (st1 (st1 (st1 p1k 19 zp1_18_115) 20 zp1_19_115) 21 zp1_20_115))] : List (List (ClassId × FieldType)))) s → va_S A s.heap H locs → lv_has ls 12 [(0, .ref (p0a 0)), (1, .ref (p1a 0)), (2, .int p2), (5, .long o26), (8, .int v8_115)] → glX1 p1n p1n_115 → (∀ r, o115 = Sum.inl r → r = o) → (∀ t7, o115 = Sum.inr t7 → glX1 (t7.2.2) (o.2.2.2)) → (∀ (t115 : ST × ST × (Nat → Nat)), o115 = Sum.inr t115 → ∀ (xp1_18_115x : Nat) (zp1_18_115x : ClassId) (xp1_19_115x : Nat) (zp1_19_115x : ClassId) (xp1_20_115x : Nat) (zp1_20_115x : ClassId) (H : Heap) (locs : List Loc) (ls : Array Slot), va_P (dC, dI) cls (List.flatten ([(oX4 (p0a 0) p0a p0k (t115.1) p0l), (oX1 (p1a 0) (st1 (st1 (st1 p1a 19 xp1_18_115x) 20 xp1_19_115x) 21 xp1_20_115x) (st1 (st1 (st1 p1k 19 zp1_18_115x) 20 zp1_19_115x) 21 zp1_20_115x) (t115.2.2) (t115.2.1) p1l)] : List va_W)) H → va_D A (List.flatten ([(oX4 (p0a 0) p0a p0k (t115.1) p0l), (oX1 (p1a 0) (st1 (st1 (st1 p1a 19 xp1_18_115x) 20 xp1_19_115x) 21 xp1_20_115x) (st1 (st1 (st1 p1k 19 zp1_18_115x) 20 zp1_19_115x) 21 zp1_20_115x) (t115.2.2) (t115.2.1) p1l)] : List va_W)) → va_K (dC, dI) cls (List.flatten ([(tX4 p0k), (tX1 (st1 (st1 (st1 p1k 19 zp1_18_115x) 20 zp1_19_115x) 21 zp1_20_115x))] : List (List (ClassId × FieldType)))) s → va_S A s.heap H locs → lv_has ls 12 [] → glX1 p1n (t115.2.2) → W p l e ({ frames := 4, cells := (hcX1 p1n (o.2.2.2)), slots := (3 * (gcX1 p1n (o.2.2.2))), locals := 106 } : Room) s m ([.ref (p0a 0), .ref (p1a 0), .int p2] : List Value).toArray below meth c H locs (hcX1 p1n (t115.2.2)) (3 * (gcX1 p1n (t115.2.2))) Q (F0 m 165 ls [])) → W p l e ({ frames := 4, cells := (hcX1 p1n (o.2.2.2)), slots := (3 * (gcX1 p1n (o.2.2.2))), locals := 106 } : Room) s m ([.ref (p0a 0), .ref (p1a 0), .int p2] : List Value).toArray below meth c H locs (hcX1 p1n p1n_115) (3 * (gcX1 p1n p1n_115)) Q (F0 m 115 ls []) := by
      intro n_115
      induction n_115 with
      | zero => intro v8_115 p0w_115 p1w_115 p1n_115 xp1_18_115 zp1_18_115 xp1_19_115 zp1_19_115 xp1_20_115 zp1_20_115 o115 H locs ls hrun; exact (no9 rfl hrun).elim
      | succ n_115 IH115 =>
        intro v8_115 p0w_115 p1w_115 p1n_115 xp1_18_115 zp1_18_115 xp1_19_115 zp1_19_115 xp1_20_115 zp1_20_115 o115 H locs ls hrun hP hD hK hS hl hg_p1 hr115 hgo_p1 hk115
        have hgn_p1 : glX1 p1n_115 (o.2.2.2) := (glX1_el (f := fun r7 => (r7.2.2.2)) (g := fun t7 => (t7.2.2)) (mo_fX4_placePhis_L115 (n_115 + 1) _ _ _ _ _ hrun) hr115 hgo_p1)
        unfold fX4_placePhis_L115 at hrun
        refine lv_iload hx hb dX4_placePhis_115 (lv_at hl 4 rfl) ?_
        refine lv_aload_n hx hb dX4_placePhis_117 rfl (lv_at hl 1 rfl) ?_
        refine va_get (D := (dC, dI)) (ci := 4) (v := .int (p1w_115 0 0)) (C := RX1) (T := TX1) (N := 21) hx hb hts i_X1 hown hK hP 19 rfl rfl 0 (by decide) (hts _ qw313) (fun _ h9 => h9) rfl dX4_placePhis_118 ?_
        rcases br9 hrun with ⟨hc12, hrun⟩ | ⟨hc12, hrun⟩
        · refine lv_icmp_ge (tgt := 165) hx hb dX4_placePhis_121 (by decide) (fun _ => ?_) (fun c => absurd hc12 c)
          obtain rfl := (Option.some.inj hrun)
          exact hk115 _ rfl xp1_18_115 zp1_18_115 xp1_19_115 zp1_19_115 xp1_20_115 zp1_20_115 _ _ _ hP hD hK hS (lv_sub hl [] rfl) hg_p1
        · refine lv_icmp_ge (tgt := 165) hx hb dX4_placePhis_121 (by decide) (fun c => absurd c hc12) (fun _ => ?_)
          refine lv_lload hx hb dX4_placePhis_124 (lv_at hl 3 rfl) ?_
          refine lv_iload hx hb dX4_placePhis_126 (lv_at hl 4 rfl) ?_
          obtain ⟨o_13, hc_13, hrun⟩ := bnd9 hrun
          have hPx : va_P (dC, dI) cls ((List.flatten ([] : List va_W)) ++ (List.flatten ([(oX4 (p0a 0) p0a p0k p0w_115 p0l), (oX1 (p1a 0) (st1 (st1 (st1 p1a 19 xp1_18_115) 20 xp1_19_115) 21 xp1_20_115) (st1 (st1 (st1 p1k 19 zp1_18_115) 20 zp1_19_115) 21 zp1_20_115) p1n_115 p1w_115 p1l)] : List va_W))) H := vP_fa (vP_perm hP (bP (List.Perm.refl _)))
          have hDx : va_D A ((List.flatten ([] : List va_W)) ++ (List.flatten ([(oX4 (p0a 0) p0a p0k p0w_115 p0l), (oX1 (p1a 0) (st1 (st1 (st1 p1a 19 xp1_18_115) 20 xp1_19_115) 21 xp1_20_115) (st1 (st1 (st1 p1k 19 zp1_18_115) 20 zp1_19_115) 21 zp1_20_115) p1n_115 p1w_115 p1l)] : List va_W))) := vD_fa (vD_perm hD (bP (List.Perm.refl _)))
          have hKx : va_K (dC, dI) cls ((List.flatten ([] : List (List (ClassId × FieldType)))) ++ (List.flatten ([(tX4 p0k), (tX1 (st1 (st1 (st1 p1k 19 zp1_18_115) 20 zp1_19_115) 21 zp1_20_115))] : List (List (ClassId × FieldType))))) s := vK_fa (vK_perm hK (bP (List.Perm.refl _)))
          have hPc := vP_l hPx
          have hDc := vD_l hDx
          have hKc := vK_l hKx
          have hFc := vfree hDx hS hA
          refine va_calli (va_runSN (As := [.long o26, .int v8_115]) (rest := []) ⟨hx, hb, hml, hown, hts⟩ (kX11_holds l dC dI (p0 := o26) (p1 := v8_115) (sz := _) (o := o_13) (hrun := hc_13)) ⟨(va_cnB 2 hts (gi_z qw192) rfl rfl rfl (hE.nw (List.mem_append_right _ (tbl_6 (i := 75) rfl)) rfl) (hts _ qw129) (by decide +kernel) ⟨Nat.le_of_ble_eq_true rfl, Nat.le_of_ble_eq_true rfl⟩), (hts _ qw193), trivial⟩ ⟨PRE.blind, PRE.of hE hS hFc hPc hKc hDc⟩ rfl rfl hl.1 rfl (lv_room (Nat.le_of_ble_eq_true rfl)) dX4_placePhis_128 ⟨(show (hcX1 p1n p1n_115) + 0 ≤ (hcX1 p1n (o.2.2.2)) from by have q0 := gmX1 hg_p1 hgn_p1; omega), (show (3 * (gcX1 p1n p1n_115)) + 0 ≤ (3 * (gcX1 p1n (o.2.2.2))) from by have q0 := gmX1 hg_p1 hgn_p1; omega)⟩) hS (fun q _ h => hFc q h) hFc (fun r14 u t H locs ht hvm hw hB hz1 hk1 hS => ?_)
          obtain ⟨b1, b2, b3⟩ := hB
          rw [ht] at b1
          obtain ⟨hP, hD, hK⟩ := JOINC (wc := (List.flatten ([] : List va_W))) (wr := (List.flatten ([(oX4 (p0a 0) p0a p0k p0w_115 p0l), (oX1 (p1a 0) (st1 (st1 (st1 p1a 19 xp1_18_115) 20 xp1_19_115) 21 xp1_20_115) (st1 (st1 (st1 p1k 19 zp1_18_115) 20 zp1_19_115) 21 zp1_20_115) p1n_115 p1w_115 p1l)] : List va_W))) (w1 := (List.flatten ([] : List va_W))) (t1 := (List.flatten ([] : List (List (ClassId × FieldType))))) hPx hDx hKx hk1 hFc b1 (va_K.moved hvm.symm b2) b3
          have hP : va_P (dC, dI) cls (List.flatten ([(oX4 (p0a 0) p0a p0k p0w_115 p0l), (oX1 (p1a 0) (st1 (st1 (st1 p1a 19 xp1_18_115) 20 xp1_19_115) 21 xp1_20_115) (st1 (st1 (st1 p1k 19 zp1_18_115) 20 zp1_19_115) 21 zp1_20_115) p1n_115 p1w_115 p1l)] : List va_W)) H := vP_perm (vP_fb hP) (bP (List.Perm.refl _))
          have hD : va_D A (List.flatten ([(oX4 (p0a 0) p0a p0k p0w_115 p0l), (oX1 (p1a 0) (st1 (st1 (st1 p1a 19 xp1_18_115) 20 xp1_19_115) 21 xp1_20_115) (st1 (st1 (st1 p1k 19 zp1_18_115) 20 zp1_19_115) 21 zp1_20_115) p1n_115 p1w_115 p1l)] : List va_W)) := vD_perm (vD_fb hD) (bP (List.Perm.refl _))
          have hK : va_K (dC, dI) cls (List.flatten ([(tX4 p0k), (tX1 (st1 (st1 (st1 p1k 19 zp1_18_115) 20 zp1_19_115) 21 zp1_20_115))] : List (List (ClassId × FieldType)))) s := vK_perm (vK_fb hK) (bP (List.Perm.refl _))
          obtain rfl : o_13 = r14 := hw.symm
          have J159 : ∀ (p0w_159 : ST) (p1w_159 : ST) (p1n_159 : Nat → Nat) (xp1_18_159 : Nat) (zp1_18_159 : ClassId) (xp1_19_159 : Nat) (zp1_19_159 : ClassId) (xp1_20_159 : Nat) (zp1_20_159 : ClassId) (H : Heap) (locs : List Loc) (ls : Array Slot), (fX4_placePhis_J159 (fX4_placePhis_L115 p2 o26 n_115) v8_115 p0w_159 p1w_159 p1n_159) = some o115 → va_P (dC, dI) cls (List.flatten ([(oX4 (p0a 0) p0a p0k p0w_159 p0l), (oX1 (p1a 0) (st1 (st1 (st1 p1a 19 xp1_18_159) 20 xp1_19_159) 21 xp1_20_159) (st1 (st1 (st1 p1k 19 zp1_18_159) 20 zp1_19_159) 21 zp1_20_159) p1n_159 p1w_159 p1l)] : List va_W)) H → va_D A (List.flatten ([(oX4 (p0a 0) p0a p0k p0w_159 p0l), (oX1 (p1a 0) (st1 (st1 (st1 p1a 19 xp1_18_159) 20 xp1_19_159) 21 xp1_20_159) (st1 (st1 (st1 p1k 19 zp1_18_159) 20 zp1_19_159) 21 zp1_20_159) p1n_159 p1w_159 p1l)] : List va_W)) → va_K (dC, dI) cls (List.flatten ([(tX4 p0k), (tX1 (st1 (st1 (st1 p1k 19 zp1_18_159) 20 zp1_19_159) 21 zp1_20_159))] : List (List (ClassId × FieldType)))) s → va_S A s.heap H locs → lv_has ls 12 [(0, .ref (p0a 0)), (1, .ref (p1a 0)), (2, .int p2), (5, .long o26), (8, .int v8_115)] → glX1 p1n p1n_159 → W p l e ({ frames := 4, cells := (hcX1 p1n (o.2.2.2)), slots := (3 * (gcX1 p1n (o.2.2.2))), locals := 106 } : Room) s m ([.ref (p0a 0), .ref (p1a 0), .int p2] : List Value).toArray below meth c H locs (hcX1 p1n p1n_159) (3 * (gcX1 p1n p1n_159)) Q (F0 m 159 ls []) := by
            intro p0w_159 p1w_159 p1n_159 xp1_18_159 zp1_18_159 xp1_19_159 zp1_19_159 xp1_20_159 zp1_20_159 H locs ls hrun hP hD hK hS hl hg_p1 
            have hgn_p1 : glX1 p1n_159 (o.2.2.2) := (glX1_el (f := fun r7 => (r7.2.2.2)) (g := fun t7 => (t7.2.2)) (mo_fX4_placePhis_J159 (mo_fX4_placePhis_L115 n_115) hrun) hr115 hgo_p1)
            unfold fX4_placePhis_J159 at hrun
            refine lv_iinc (v := (v8_115 + 1)) (lv' := [(8, .int (v8_115 + 1)), (0, .ref (p0a 0)), (1, .ref (p1a 0)), (2, .int p2), (5, .long o26)]) hx hb dX4_placePhis_159 hl (k := 4) rfl rfl (by decide) rfl (fun ls hl => ?_)
            refine lv_goto (tgt := 115) hx hb dX4_placePhis_162 (by decide) ?_
            exact IH115 (v8_115 + 1) p0w_159 p1w_159 p1n_159 xp1_18_159 zp1_18_159 xp1_19_159 zp1_19_159 xp1_20_159 zp1_20_159 o115 _ _ _ hrun hP hD hK hS (lv_sub hl [1, 2, 3, 4, 0] rfl) hg_p1 hr115 hgo_p1 hk115
          rcases br9 hrun with ⟨hc15, hrun⟩ | ⟨hc15, hrun⟩
          · refine lv_if_eq (tgt := 159) hx hb dX4_placePhis_131 (by decide) (fun _ => ?_) (fun c => absurd hc15 c)
            exact J159 p0w_115 p1w_115 p1n_115 xp1_18_115 zp1_18_115 xp1_19_115 zp1_19_115 xp1_20_115 zp1_20_115 _ _ _ hrun hP hD hK hS (lv_sub hl [0, 1, 2, 3, 4] rfl) hg_p1
          · refine lv_if_eq (tgt := 159) hx hb dX4_placePhis_131 (by decide) (fun c => absurd c hc15) (fun _ => ?_)
            refine lv_aload_n hx hb dX4_placePhis_134 rfl (lv_at hl 1 rfl) ?_
            refine va_get (D := (dC, dI)) (ci := 4) (v := .int (p1w_115 0 17)) (C := RX1) (T := TX1) (N := 21) hx hb hts i_X1 hown hK hP 19 rfl rfl 17 (by decide) (hts _ qw401) (fun _ h9 => h9) rfl dX4_placePhis_135 ?_
            refine lv_sipush (v := 250) hx hb dX4_placePhis_138 (by decide) ?_
            rcases br9 hrun with ⟨hc16, hrun⟩ | ⟨hc16, hrun⟩
            · refine lv_icmp_lt (tgt := 146) hx hb dX4_placePhis_141 (by decide) (fun _ => ?_) (fun c => absurd hc16 c)
              refine lv_aload_n hx hb dX4_placePhis_146 rfl (lv_at hl 0 rfl) ?_
              refine va_get (D := (dC, dI)) (ci := 6) (v := .ref (p0a 19)) (C := RX4) (T := TX4) (N := 20) hx hb hts i_X4 hown hK hP 0 rfl rfl 18 (by decide) (hts _ qw283) (fun _ h9 => h9) rfl dX4_placePhis_147 ?_
              refine lv_aload_n hx hb dX4_placePhis_150 rfl (lv_at hl 1 rfl) ?_
              refine lv_iload hx hb dX4_placePhis_151 (lv_at hl 4 rfl) ?_
              refine lv_iconst (v := (-1)) hx hb dX4_placePhis_153 (by decide) ?_
              obtain ⟨o_17, hc_17, hrun⟩ := bnd9 hrun
              have hPx : va_P (dC, dI) cls ((List.flatten ([(oX1 (p1a 0) (st1 (st1 (st1 p1a 19 xp1_18_115) 20 xp1_19_115) 21 xp1_20_115) (st1 (st1 (st1 p1k 19 zp1_18_115) 20 zp1_19_115) 21 zp1_20_115) p1n_115 p1w_115 p1l)] : List va_W)) ++ (List.flatten ([(oX4 (p0a 0) p0a p0k p0w_115 p0l)] : List va_W))) H := vP_fa (vP_perm hP (bP ((((List.Perm.refl _)).cons _).trans (List.Perm.swap _ _ _))))
              have hDx : va_D A ((List.flatten ([(oX1 (p1a 0) (st1 (st1 (st1 p1a 19 xp1_18_115) 20 xp1_19_115) 21 xp1_20_115) (st1 (st1 (st1 p1k 19 zp1_18_115) 20 zp1_19_115) 21 zp1_20_115) p1n_115 p1w_115 p1l)] : List va_W)) ++ (List.flatten ([(oX4 (p0a 0) p0a p0k p0w_115 p0l)] : List va_W))) := vD_fa (vD_perm hD (bP ((((List.Perm.refl _)).cons _).trans (List.Perm.swap _ _ _))))
              have hKx : va_K (dC, dI) cls ((List.flatten ([(tX1 (st1 (st1 (st1 p1k 19 zp1_18_115) 20 zp1_19_115) 21 zp1_20_115))] : List (List (ClassId × FieldType)))) ++ (List.flatten ([(tX4 p0k)] : List (List (ClassId × FieldType))))) s := vK_fa (vK_perm hK (bP ((((List.Perm.refl _)).cons _).trans (List.Perm.swap _ _ _))))
              have hPc := vP_l hPx
              have hDc := vD_l hDx
              have hKc := vK_l hKx
              have hFc := vfree hDx hS hA
              have hgn_p1 : glX1 (o_17.2.2) (o.2.2.2) := (glX1_el (f := fun r7 => (r7.2.2.2)) (g := fun t7 => (t7.2.2)) (mo_fX4_placePhis_G157_25 (mo_fX4_placePhis_L115 n_115) hrun) hr115 hgo_p1)
              refine va_calli (va_runV (As := [.int v8_115, .int (-1)]) (rest := [.ref (p0a 19)]) ⟨hx, hb, hml, hown, hts⟩ (kX1_addPhi l dC dI (p0a := (st0 (p1a 0) (st1 (st1 (st1 p1a 19 xp1_18_115) 20 xp1_19_115) 21 xp1_20_115))) (p0k := (st1 (st1 (st1 p1k 19 zp1_18_115) 20 zp1_19_115) 21 zp1_20_115)) (p0n := p1n_115) (p0w := p1w_115) (p0l := p1l) (p1 := v8_115) (p2 := (-1)) (sz := _) (o := o_17) (hrun := hc_17)) (cwV 2 hts (gi_V qw402 qw156 qw157 qw126 (gi_z qw154)) rfl rfl rfl (by decide +kernel) ⟨Nat.le_of_ble_eq_true rfl, Nat.le_of_ble_eq_true rfl⟩) ⟨PRE.blind, va_recv hKc hPc (ci := 4) (q0 := 0) rfl rfl, PRE.of hE hS hFc hPc hKc hDc⟩ rfl rfl hl.1 rfl (lv_room (Nat.le_of_ble_eq_true rfl)) dX4_placePhis_154 ⟨(show (hcX1 p1n p1n_115) + (hcX1 p1n_115 (o_17.2.2)) ≤ (hcX1 p1n (o.2.2.2)) from by have q0 := gsX1 hg_p1 (mo_fX1_addPhi hc_17) hgn_p1; omega), (show (3 * (gcX1 p1n p1n_115)) + (3 * (gcX1 p1n_115 (o_17.2.2))) ≤ (3 * (gcX1 p1n (o.2.2.2))) from by have q0 := gsX1 hg_p1 (mo_fX1_addPhi hc_17) hgn_p1; omega)⟩) hS (fun q _ h => hFc q h) hFc (fun r18 u t H locs ht hvm hw hB hz1 hk1 hS => ?_)
              obtain ⟨x19, z20, x21, z22, x23, z24, hB⟩ := hB
              obtain ⟨b1, b2, b3⟩ := hB
              rw [ht] at b1
              obtain ⟨hP, hD, hK⟩ := JOINC (wc := (List.flatten ([(oX1 (p1a 0) (st1 (st1 (st1 p1a 19 xp1_18_115) 20 xp1_19_115) 21 xp1_20_115) (st1 (st1 (st1 p1k 19 zp1_18_115) 20 zp1_19_115) 21 zp1_20_115) p1n_115 p1w_115 p1l)] : List va_W))) (wr := (List.flatten ([(oX4 (p0a 0) p0a p0k p0w_115 p0l)] : List va_W))) (w1 := (List.flatten ([(oX1 (p1a 0) (st1 (st1 (st1 p1a 19 x19) 20 x21) 21 x23) (st1 (st1 (st1 p1k 19 z20) 20 z22) 21 z24) (o_17.2.2) (o_17.2.1) p1l)] : List va_W))) (t1 := (List.flatten ([(tX1 (st1 (st1 (st1 p1k 19 z20) 20 z22) 21 z24))] : List (List (ClassId × FieldType))))) hPx hDx hKx hk1 hFc b1 (va_K.moved hvm.symm b2) b3
              have hP : va_P (dC, dI) cls (List.flatten ([(oX4 (p0a 0) p0a p0k p0w_115 p0l), (oX1 (p1a 0) (st1 (st1 (st1 p1a 19 x19) 20 x21) 21 x23) (st1 (st1 (st1 p1k 19 z20) 20 z22) 21 z24) (o_17.2.2) (o_17.2.1) p1l)] : List va_W)) H := vP_perm (vP_fb hP) (bP ((((List.Perm.refl _)).cons _).trans (List.Perm.swap _ _ _)))
              have hD : va_D A (List.flatten ([(oX4 (p0a 0) p0a p0k p0w_115 p0l), (oX1 (p1a 0) (st1 (st1 (st1 p1a 19 x19) 20 x21) 21 x23) (st1 (st1 (st1 p1k 19 z20) 20 z22) 21 z24) (o_17.2.2) (o_17.2.1) p1l)] : List va_W)) := vD_perm (vD_fb hD) (bP ((((List.Perm.refl _)).cons _).trans (List.Perm.swap _ _ _)))
              have hK : va_K (dC, dI) cls (List.flatten ([(tX4 p0k), (tX1 (st1 (st1 (st1 p1k 19 z20) 20 z22) 21 z24))] : List (List (ClassId × FieldType)))) s := vK_perm (vK_fb hK) (bP ((((List.Perm.refl _)).cons _).trans (List.Perm.swap _ _ _)))
              obtain rfl : r18 = (o_17.1) := hw
              refine W.widen (k := (hcX1 p1n (o_17.2.2))) (n := (3 * (gcX1 p1n (o_17.2.2)))) (by have a0 := gcX1_add hg_p1 (mo_fX1_addPhi hc_17); omega) (by have a0 := gcX1_add hg_p1 (mo_fX1_addPhi hc_17); omega) ?_
              have hg_p1 : glX1 p1n (o_17.2.2) := glX1_tr hg_p1 (mo_fX1_addPhi hc_17)
              unfold fX4_placePhis_G157_25 at hrun
              refine lv_iload_n hx hb dX4_placePhis_157 rfl (lv_at hl 2 rfl) ?_
              obtain ⟨hq26, hrun⟩ := chk9 hrun
              refine va_iast hx hb hK hP hD hS 17 16 rfl rfl (ixb_in hq26) dX4_placePhis_158 (fun H locs hP hD hS => ?_)
              have hP : va_P (dC, dI) cls (List.flatten ([(oX4 (p0a 0) p0a p0k (upw p0w_115 19 (nn (o_17.1)) p2) p0l), (oX1 (p1a 0) (st1 (st1 (st1 p1a 19 x19) 20 x21) 21 x23) (st1 (st1 (st1 p1k 19 z20) 20 z22) 21 z24) (o_17.2.2) (o_17.2.1) p1l)] : List va_W)) H := hP
              have hD : va_D A (List.flatten ([(oX4 (p0a 0) p0a p0k (upw p0w_115 19 (nn (o_17.1)) p2) p0l), (oX1 (p1a 0) (st1 (st1 (st1 p1a 19 x19) 20 x21) 21 x23) (st1 (st1 (st1 p1k 19 z20) 20 z22) 21 z24) (o_17.2.2) (o_17.2.1) p1l)] : List va_W)) := hD
              obtain ⟨w27, ew27, hrun⟩ := let9 hrun
              rw [← ew27] at hP hD
              exact J159 w27 (o_17.2.1) (o_17.2.2) x19 z20 x21 z22 x23 z24 _ _ _ hrun hP hD hK hS (lv_sub hl [0, 1, 2, 3, 4] rfl) hg_p1
            · refine lv_icmp_lt (tgt := 146) hx hb dX4_placePhis_141 (by decide) (fun c => absurd c hc16) (fun _ => ?_)
              refine lv_iconst (v := 0) hx hb dX4_placePhis_144 (by decide) ?_
              have ho9 : (0, p0w_115, p1w_115, p1n_115) = o := hr115 _ (Option.some.inj hrun).symm
              subst ho9
              subst hQ
              exact W.zret (v := 0) hx hb hr (by decide) (fun t ht hW => ⟨⟨0, (), rfl, rfl, ⟨xp1_18_115, zp1_18_115, xp1_19_115, zp1_19_115, xp1_20_115, zp1_20_115, by rw [ht]; exact hP, va_K.moved hW.alike hK, hD⟩⟩, hS.F ht⟩) hS.2.2 dX4_placePhis_145
    refine L115 NF 0 p0w p1w p1n (p1a 19) (p1k 19) (p1a 20) (p1k 20) (p1a 21) (p1k 21) o115 _ _ _ hc115 hP hD hK hS (lv_sub hl [1, 2, 3, 4, 0] rfl) hg_p1 (fun r e9 => by subst e9; exact Option.some.inj hrun) (fun t7 e9 => by subst e9; replace hrun := el9 hrun; exact hgl9_115_0 hrun) ?_
    intro t115 e9
    subst e9
    replace hrun := el9 hrun
    intro xp1_18_115x zp1_18_115x xp1_19_115x zp1_19_115x xp1_20_115x zp1_20_115x H locs ls hP hD hK hS hl hg_p1
    have hl := hl
    have hgn_p1 : glX1 (t115.2.2) (o.2.2.2) := (mo_fX4_placePhis_G165_28 hrun)
    unfold fX4_placePhis_G165_28 at hrun
    refine lv_iconst (v := 1) hx hb dX4_placePhis_165 (by decide) ?_
    have ho9 : (1, (t115.1), (t115.2.1), (t115.2.2)) = o := Option.some.inj hrun
    subst ho9
    subst hQ
    exact W.zret (v := 1) hx hb hr (by decide) (fun t ht hW => ⟨⟨1, (), rfl, rfl, ⟨xp1_18_115x, zp1_18_115x, xp1_19_115x, zp1_19_115x, xp1_20_115x, zp1_20_115x, by rw [ht]; exact hP, va_K.moved hW.alike hK, hD⟩⟩, hS.F ht⟩) hS.2.2 dX4_placePhis_166
  rcases br9 hrun with ⟨hc29, hrun⟩ | ⟨hc29, hrun⟩
  · refine lv_if_eq (tgt := 20) hx hb dX4_placePhis_13 (by decide) (fun _ => ?_) (fun c => absurd hc29 c)
    refine lv_iconst (v := 0) hx hb dX4_placePhis_20 (by decide) ?_
    exact J21 0 _ _ _ hrun hP hD hK hS (lv_sub hl [2, 3, 4, 1, 0] rfl) hg_p1
  · refine lv_if_eq (tgt := 20) hx hb dX4_placePhis_13 (by decide) (fun c => absurd c hc29) (fun _ => ?_)
    refine lv_iconst (v := 1) hx hb dX4_placePhis_16 (by decide) ?_
    refine lv_goto (tgt := 21) hx hb dX4_placePhis_17 (by decide) ?_
    exact J21 1 _ _ _ hrun hP hD hK hS (lv_sub hl [2, 3, 4, 1, 0] rfl) hg_p1
def fX4_numberValues_L23 (p2n : Nat → Nat) : Nat → Int32 → Int32 → ST → Option (Int32 × ST)
  | 0 => fun _ _ _ => none
  | n_23 + 1 => fun v3_23 v5_23 p2w_23 => (if v5_23 < 0 then some (v3_23, p2w_23) else (if ixb v5_23 (p2n 19) = true then (lt9 (upw p2w_23 19 (nn v5_23) v3_23) fun (w5 : ST) => (if ixb v5_23 (p2n 20) = true then ((fX4_numberValues_L23 p2n n_23) (v3_23 + 1) (w5 20 (nn v5_23)) w5) else none)) else none))
def fX4_numberValues_J94 (kk59 : Int32 → Int32 → ST → Option (Int32 × ST)) (v5_59 : Int32) (v3_94 : Int32) (p0w_94 : ST) : Option (Int32 × ST) := (kk59 v3_94 (v5_59 + 1) p0w_94)
def fX4_numberValues_L59 (p1w : ST) (v4_5 : Int32) : Nat → Int32 → Int32 → ST → Option (Int32 × ST)
  | 0 => fun _ _ _ => none
  | n_59 + 1 => fun v3_59 v5_59 p0w_59 => ((fX4_opsTo p0w_59 v4_5).bind fun (o_9 : Int32) => (if o_9 ≤ v5_59 then some (v3_59, p0w_59) else (if ixb v5_59 3200 = true then ((fX11_givesValue (p1w 9 (nn v5_59))).bind fun (o_13 : Int32) => (if o_13 = 0 then (fX4_numberValues_J94 (fX4_numberValues_L59 p1w v4_5 n_59) v5_59 v3_59 p0w_59) else (if ixb v5_59 3200 = true then (lt9 (upw p0w_59 4 (nn v5_59) v3_59) fun (w17 : ST) => (fX4_numberValues_J94 (fX4_numberValues_L59 p1w v4_5 n_59) v5_59 (v3_59 + 1) w17)) else none))) else none)))
def fX4_numberValues_L5 (p1w : ST) (p2n : Nat → Nat) : Nat → Int32 → Int32 → ST → ST → Option (Int32 × ST × ST)
  | 0 => fun _ _ _ _ => none
  | n_5 + 1 => fun v3_5 v4_5 p0w_5 p2w_5 => (if (p2w_5 0 0) ≤ v4_5 then some (v3_5, p0w_5, p2w_5) else (if ixb v4_5 60 = true then ((fX4_numberValues_L23 p2n NF v3_5 (p2w_5 6 (nn v4_5)) p2w_5).bind fun (o23 : Int32 × ST) => ((fX4_opsFrom p0w_5 v4_5).bind fun (o_7 : Int32) => ((fX4_numberValues_L59 p1w v4_5 NF (o23.1) o_7 p0w_5).bind fun (o59 : Int32 × ST) => ((fX4_numberValues_L5 p1w p2n n_5) (o59.1) (v4_5 + 1) (o59.2) (o23.2))))) else none))
def fX4_numberValues_J123 (o5 : Int32 × ST × ST) (w18 : ST) (y0_123 : Int32) : Option (Int32 × ST × ST) := (if y0_123 = 0 ∨ y0_123 = 1 then some (y0_123, (o5.2.1), w18) else none)
def fX4_numberValues (p0w : ST) (p1w : ST) (p2n : Nat → Nat) (p2w : ST) : Option (Int32 × ST × ST) := ((fX4_numberValues_L5 p1w p2n NF 0 0 p0w p2w).bind fun (o5 : Int32 × ST × ST) => (lt9 (upw (o5.2.2) 0 1 (o5.1)) fun (w18 : ST) => (if 250 < (o5.1) then (fX4_numberValues_J123 o5 w18 0) else (fX4_numberValues_J123 o5 w18 1))))
set_option maxHeartbeats 16000000 in
set_option maxRecDepth 100000 in
theorem kX4_numberValues {zs : ZS} (l : Launch) (dC : Nat → ClassId) (dI : Nat → Nat → Nat) (p0a : Nat → Nat) (p0k : Nat → ClassId) (p0w : ST) (p0l : SL) (p1a : Nat → Nat) (p1k : Nat → ClassId) (p1w : ST) (p1l : SL) (p2a : Nat → Nat) (p2k : Nat → ClassId) (p2n : Nat → Nat) (p2w : ST) (p2l : SL) (sz : Nat) (o : Int32 × ST × ST) (hrun : fX4_numberValues p0w p1w p2n p2w = some o) : Met l yX4_numberValues (wz yX4_numberValues cX4_numberValues 6 (Option.some Jvm.ClassFile.FieldType.boolean)) ({ frames := 1, cells := 0, slots := 0, locals := 21 } : Room) (va_Pc [.ref (p0a 0), .ref (p1a 0), .ref (p2a 0)] (PRE zs dC dI (List.flatten ([(oX4 (p0a 0) p0a p0k p0w p0l), (oX6 (p1a 0) p1a p1k p1w p1l), (oX1 (p2a 0) p2a p2k p2n p2w p2l)] : List va_W)) (List.flatten ([(tX4 p0k), (tX6 p1k), (tX1 p2k)] : List (List (ClassId × FieldType)))) sz)) (va_Qi (fun (r : Int32) (_ : Unit) => r = (o.1)) (fun _ t => POST dC dI (List.flatten ([(oX4 (p0a 0) p0a p0k (o.2.1) p0l), (oX6 (p1a 0) p1a p1k p1w p1l), (oX1 (p2a 0) p2a p2k p2n (o.2.2) p2l)] : List va_W)) (List.flatten ([(tX4 p0k), (tX6 p1k), (tX1 p2k)] : List (List (ClassId × FieldType)))) (va_A (List.flatten ([(oX4 (p0a 0) p0a p0k p0w p0l), (oX6 (p1a 0) p1a p1k p1w p1l), (oX1 (p2a 0) p2a p2k p2n p2w p2l)] : List va_W)) sz) t) (va_A (List.flatten ([(oX4 (p0a 0) p0a p0k p0w p0l), (oX6 (p1a 0) p1a p1k p1w p1l), (oX1 (p2a 0) p2a p2k p2n p2w p2l)] : List va_W)) sz)) 0 0 (va_A (List.flatten ([(oX4 (p0a 0) p0a p0k p0w p0l), (oX6 (p1a 0) p1a p1k p1w p1l), (oX1 (p2a 0) p2a p2k p2n p2w p2l)] : List va_W)) sz) := by
  refine Met.ofW (cc := cX4_numberValues) (maxL := 6) (ret := (Option.some Jvm.ClassFile.FieldType.boolean)) (by decide) rfl ?_
  intro p e s m args below meth c s₁ B hml hv
  obtain ⟨rfl, hsz, hP, hK, hD0, hE⟩ := hv
  have hx := B.exec
  have hb := B.bytes
  have hr := B.returns
  have hts0 := atoms_spec (ws := wz yX4_numberValues cX4_numberValues 6 (Option.some Jvm.ClassFile.FieldType.boolean)) B.pre
  have hts : ∀ w ∈ gw, w.before _ s = true := fun w h => hts0 w (List.mem_cons_of_mem _ h)
  have hown : s.vm.findClass RX4 = some m.cls := findClass_of_methodNamed B.named
  have hlocks := B.notSynchronized
  subst hsz
  have hD := hD0.self (sz := s.heap.size)
  refine gQ9 ?_
  intro Q hQ
  generalize hAe : va_A (List.flatten ([(oX4 (p0a 0) p0a p0k p0w p0l), (oX6 (p1a 0) p1a p1k p1w p1l), (oX1 (p2a 0) p2a p2k p2n p2w p2l)] : List va_W)) s.heap.size = A at hD hE hQ
  have hA : ∀ q : Nat, s.heap.size ≤ q → A q := fun q h => by rw [← hAe]; exact Or.inr h
  have hS : va_S A s.heap s.heap [] := va_S.rf
  have hP : va_P (dC, dI) cls (List.flatten ([(oX4 (p0a 0) p0a p0k p0w p0l), (oX6 (p1a 0) p1a p1k p1w p1l), (oX1 (p2a 0) p2a p2k p2n p2w p2l)] : List va_W)) s.heap := hP
  have hl := lv_entry ([.ref (p0a 0), .ref (p1a 0), .ref (p2a 0)]) (n := 6) (Nat.le_of_ble_eq_true rfl)
  rw [lg_entry_eq]
  generalize (lg_sl ([.ref (p0a 0), .ref (p1a 0), .ref (p2a 0)]) ++ List.replicate (6 - (lg_sl ([.ref (p0a 0), .ref (p1a 0), .ref (p2a 0)])).length) Slot.unset).toArray = ls at hl ⊢
  have hl : lv_has ls 6 [(0, .ref (p0a 0)), (1, .ref (p1a 0)), (2, .ref (p2a 0))] := hl
  obtain ⟨H, hHe⟩ : ∃ H, H = s.heap := ⟨_, rfl⟩
  obtain ⟨locs, hle⟩ : ∃ locs : List Loc, locs = [] := ⟨_, rfl⟩
  rw [← hHe] at hP
  have hS : va_S A s.heap H locs := by rw [hHe, hle]; exact hS
  show W p l e ({ frames := 1, cells := 0, slots := 0, locals := 21 } : Room) s m ([.ref (p0a 0), .ref (p1a 0), .ref (p2a 0)] : List Value).toArray below meth c s.heap [] 0 0 Q (F0 m 0 ls [])
  rw [← hle]
  refine wH9 hHe ?_
  unfold fX4_numberValues at hrun
  refine lv_iconst (v := 0) hx hb dX4_numberValues_0 (by decide) ?_
  refine lv_istore_n (lv' := [(3, .int 0), (0, .ref (p0a 0)), (1, .ref (p1a 0)), (2, .ref (p2a 0))]) hx hb dX4_numberValues_1 rfl hl (by decide) rfl (fun ls hl => ?_)
  refine lv_iconst (v := 0) hx hb dX4_numberValues_2 (by decide) ?_
  refine lv_istore (lv' := [(4, .int 0), (3, .int 0), (0, .ref (p0a 0)), (1, .ref (p1a 0)), (2, .ref (p2a 0))]) hx hb dX4_numberValues_3 hl (by decide) rfl (fun ls hl => ?_)
  have L5 : ∀ (n_5 : Nat) (v3_5 : Int32) (v4_5 : Int32) (p0w_5 : ST) (p2w_5 : ST) (o5 : Int32 × ST × ST) (H : Heap) (locs : List Loc) (ls : Array Slot), (fX4_numberValues_L5 p1w p2n n_5) v3_5 v4_5 p0w_5 p2w_5 = some o5 → va_P (dC, dI) cls (List.flatten ([(oX4 (p0a 0) p0a p0k p0w_5 p0l), (oX6 (p1a 0) p1a p1k p1w p1l), (oX1 (p2a 0) p2a p2k p2n p2w_5 p2l)] : List va_W)) H → va_D A (List.flatten ([(oX4 (p0a 0) p0a p0k p0w_5 p0l), (oX6 (p1a 0) p1a p1k p1w p1l), (oX1 (p2a 0) p2a p2k p2n p2w_5 p2l)] : List va_W)) → va_K (dC, dI) cls (List.flatten ([(tX4 p0k), (tX6 p1k), (tX1 p2k)] : List (List (ClassId × FieldType)))) s → va_S A s.heap H locs → lv_has ls 6 [(0, .ref (p0a 0)), (1, .ref (p1a 0)), (2, .ref (p2a 0)), (3, .int v3_5), (4, .int v4_5)] → (∀ (H : Heap) (locs : List Loc) (ls : Array Slot), va_P (dC, dI) cls (List.flatten ([(oX4 (p0a 0) p0a p0k (o5.2.1) p0l), (oX6 (p1a 0) p1a p1k p1w p1l), (oX1 (p2a 0) p2a p2k p2n (o5.2.2) p2l)] : List va_W)) H → va_D A (List.flatten ([(oX4 (p0a 0) p0a p0k (o5.2.1) p0l), (oX6 (p1a 0) p1a p1k p1w p1l), (oX1 (p2a 0) p2a p2k p2n (o5.2.2) p2l)] : List va_W)) → va_K (dC, dI) cls (List.flatten ([(tX4 p0k), (tX6 p1k), (tX1 p2k)] : List (List (ClassId × FieldType)))) s → va_S A s.heap H locs → lv_has ls 6 [(2, .ref (p2a 0)), (3, .int (o5.1))] → W p l e ({ frames := 1, cells := 0, slots := 0, locals := 21 } : Room) s m ([.ref (p0a 0), .ref (p1a 0), .ref (p2a 0)] : List Value).toArray below meth c H locs 0 0 Q (F0 m 106 ls [])) → W p l e ({ frames := 1, cells := 0, slots := 0, locals := 21 } : Room) s m ([.ref (p0a 0), .ref (p1a 0), .ref (p2a 0)] : List Value).toArray below meth c H locs 0 0 Q (F0 m 5 ls []) := by
    intro n_5
    induction n_5 with
    | zero => intro v3_5 v4_5 p0w_5 p2w_5 o5 H locs ls hrun; exact (no9 rfl hrun).elim
    | succ n_5 IH5 =>
      intro v3_5 v4_5 p0w_5 p2w_5 o5 H locs ls hrun hP hD hK hS hl hk5
      unfold fX4_numberValues_L5 at hrun
      refine lv_iload hx hb dX4_numberValues_5 (lv_at hl 4 rfl) ?_
      refine lv_aload_n hx hb dX4_numberValues_7 rfl (lv_at hl 2 rfl) ?_
      refine va_get (D := (dC, dI)) (ci := 4) (v := .int (p2w_5 0 0)) (C := RX1) (T := TX1) (N := 21) hx hb hts i_X1 hown hK hP 30 rfl rfl 0 (by decide) (hts _ qw313) (fun _ h9 => h9) rfl dX4_numberValues_8 ?_
      rcases br9 hrun with ⟨hc1, hrun⟩ | ⟨hc1, hrun⟩
      · refine lv_icmp_ge (tgt := 106) hx hb dX4_numberValues_11 (by decide) (fun _ => ?_) (fun c => absurd hc1 c)
        obtain rfl := (Option.some.inj hrun)
        exact hk5 _ _ _ hP hD hK hS (lv_sub hl [2, 3] rfl)
      · refine lv_icmp_ge (tgt := 106) hx hb dX4_numberValues_11 (by decide) (fun c => absurd c hc1) (fun _ => ?_)
        refine lv_aload_n hx hb dX4_numberValues_14 rfl (lv_at hl 2 rfl) ?_
        refine va_get (D := (dC, dI)) (ci := 4) (v := .ref (p2a 6)) (C := RX1) (T := TX1) (N := 21) hx hb hts i_X1 hown hK hP 30 rfl rfl 5 (by decide) (hts _ qw282) (fun _ h9 => h9) rfl dX4_numberValues_15 ?_
        refine lv_iload hx hb dX4_numberValues_18 (lv_at hl 4 rfl) ?_
        obtain ⟨hq2, hrun⟩ := chk9 hrun
        refine va_iald hx hb hK hP 33 30 rfl rfl (ixb_in hq2) dX4_numberValues_20 ?_
        refine lv_istore (lv' := [(5, .int (p2w_5 6 (nn v4_5))), (0, .ref (p0a 0)), (1, .ref (p1a 0)), (2, .ref (p2a 0)), (3, .int v3_5), (4, .int v4_5)]) hx hb dX4_numberValues_21 hl (by decide) rfl (fun ls hl => ?_)
        have L23 : ∀ (n_23 : Nat) (v3_23 : Int32) (v5_23 : Int32) (p2w_23 : ST) (o23 : Int32 × ST) (H : Heap) (locs : List Loc) (ls : Array Slot), (fX4_numberValues_L23 p2n n_23) v3_23 v5_23 p2w_23 = some o23 → va_P (dC, dI) cls (List.flatten ([(oX4 (p0a 0) p0a p0k p0w_5 p0l), (oX6 (p1a 0) p1a p1k p1w p1l), (oX1 (p2a 0) p2a p2k p2n p2w_23 p2l)] : List va_W)) H → va_D A (List.flatten ([(oX4 (p0a 0) p0a p0k p0w_5 p0l), (oX6 (p1a 0) p1a p1k p1w p1l), (oX1 (p2a 0) p2a p2k p2n p2w_23 p2l)] : List va_W)) → va_K (dC, dI) cls (List.flatten ([(tX4 p0k), (tX6 p1k), (tX1 p2k)] : List (List (ClassId × FieldType)))) s → va_S A s.heap H locs → lv_has ls 6 [(0, .ref (p0a 0)), (1, .ref (p1a 0)), (2, .ref (p2a 0)), (3, .int v3_23), (4, .int v4_5), (5, .int v5_23)] → (∀ (H : Heap) (locs : List Loc) (ls : Array Slot), va_P (dC, dI) cls (List.flatten ([(oX4 (p0a 0) p0a p0k p0w_5 p0l), (oX6 (p1a 0) p1a p1k p1w p1l), (oX1 (p2a 0) p2a p2k p2n (o23.2) p2l)] : List va_W)) H → va_D A (List.flatten ([(oX4 (p0a 0) p0a p0k p0w_5 p0l), (oX6 (p1a 0) p1a p1k p1w p1l), (oX1 (p2a 0) p2a p2k p2n (o23.2) p2l)] : List va_W)) → va_K (dC, dI) cls (List.flatten ([(tX4 p0k), (tX6 p1k), (tX1 p2k)] : List (List (ClassId × FieldType)))) s → va_S A s.heap H locs → lv_has ls 6 [(0, .ref (p0a 0)), (1, .ref (p1a 0)), (2, .ref (p2a 0)), (3, .int (o23.1)), (4, .int v4_5)] → W p l e ({ frames := 1, cells := 0, slots := 0, locals := 21 } : Room) s m ([.ref (p0a 0), .ref (p1a 0), .ref (p2a 0)] : List Value).toArray below meth c H locs 0 0 Q (F0 m 51 ls [])) → W p l e ({ frames := 1, cells := 0, slots := 0, locals := 21 } : Room) s m ([.ref (p0a 0), .ref (p1a 0), .ref (p2a 0)] : List Value).toArray below meth c H locs 0 0 Q (F0 m 23 ls []) := by
          intro n_23
          induction n_23 with
          | zero => intro v3_23 v5_23 p2w_23 o23 H locs ls hrun; exact (no9 rfl hrun).elim
          | succ n_23 IH23 =>
            intro v3_23 v5_23 p2w_23 o23 H locs ls hrun hP hD hK hS hl hk23
            unfold fX4_numberValues_L23 at hrun
            refine lv_iload hx hb dX4_numberValues_23 (lv_at hl 5 rfl) ?_
            rcases br9 hrun with ⟨hc3, hrun⟩ | ⟨hc3, hrun⟩
            · refine lv_if_lt (tgt := 51) hx hb dX4_numberValues_25 (by decide) (fun _ => ?_) (fun c => absurd hc3 c)
              obtain rfl := (Option.some.inj hrun)
              exact hk23 _ _ _ hP hD hK hS (lv_sub hl [0, 1, 2, 3, 4] rfl)
            · refine lv_if_lt (tgt := 51) hx hb dX4_numberValues_25 (by decide) (fun c => absurd c hc3) (fun _ => ?_)
              refine lv_aload_n hx hb dX4_numberValues_28 rfl (lv_at hl 2 rfl) ?_
              refine va_get (D := (dC, dI)) (ci := 4) (v := .ref (p2a 19)) (C := RX1) (T := TX1) (N := 21) hx hb hts i_X1 hown hK hP 30 rfl rfl 18 (by decide) (hts _ qw284) (fun _ h9 => h9) rfl dX4_numberValues_29 ?_
              refine lv_iload hx hb dX4_numberValues_32 (lv_at hl 5 rfl) ?_
              refine lv_iload_n hx hb dX4_numberValues_34 rfl (lv_at hl 3 rfl) ?_
              obtain ⟨hq4, hrun⟩ := chk9 hrun
              refine va_iast hx hb hK hP hD hS 45 42 rfl rfl (ixb_in hq4) dX4_numberValues_35 (fun H locs hP hD hS => ?_)
              have hP : va_P (dC, dI) cls (List.flatten ([(oX4 (p0a 0) p0a p0k p0w_5 p0l), (oX6 (p1a 0) p1a p1k p1w p1l), (oX1 (p2a 0) p2a p2k p2n (upw p2w_23 19 (nn v5_23) v3_23) p2l)] : List va_W)) H := hP
              have hD : va_D A (List.flatten ([(oX4 (p0a 0) p0a p0k p0w_5 p0l), (oX6 (p1a 0) p1a p1k p1w p1l), (oX1 (p2a 0) p2a p2k p2n (upw p2w_23 19 (nn v5_23) v3_23) p2l)] : List va_W)) := hD
              obtain ⟨w5, ew5, hrun⟩ := let9 hrun
              rw [← ew5] at hP hD
              refine lv_iinc (v := (v3_23 + 1)) (lv' := [(3, .int (v3_23 + 1)), (0, .ref (p0a 0)), (1, .ref (p1a 0)), (2, .ref (p2a 0)), (4, .int v4_5), (5, .int v5_23)]) hx hb dX4_numberValues_36 hl (k := 3) rfl rfl (by decide) rfl (fun ls hl => ?_)
              refine lv_aload_n hx hb dX4_numberValues_39 rfl (lv_at hl 3 rfl) ?_
              refine va_get (D := (dC, dI)) (ci := 4) (v := .ref (p2a 20)) (C := RX1) (T := TX1) (N := 21) hx hb hts i_X1 hown hK hP 30 rfl rfl 19 (by decide) (hts _ qw285) (fun _ h9 => h9) rfl dX4_numberValues_40 ?_
              refine lv_iload hx hb dX4_numberValues_43 (lv_at hl 5 rfl) ?_
              obtain ⟨hq6, hrun⟩ := chk9 hrun
              refine va_iald hx hb hK hP 46 43 rfl rfl (ixb_in hq6) dX4_numberValues_45 ?_
              refine lv_istore (lv' := [(5, .int (w5 20 (nn v5_23))), (3, .int (v3_23 + 1)), (0, .ref (p0a 0)), (1, .ref (p1a 0)), (2, .ref (p2a 0)), (4, .int v4_5)]) hx hb dX4_numberValues_46 hl (by decide) rfl (fun ls hl => ?_)
              refine lv_goto (tgt := 23) hx hb dX4_numberValues_48 (by decide) ?_
              exact IH23 (v3_23 + 1) (w5 20 (nn v5_23)) w5 o23 _ _ _ hrun hP hD hK hS (lv_sub hl [2, 3, 4, 1, 5, 0] rfl) hk23
        obtain ⟨o23, hc23, hrun⟩ := bnd9 hrun
        refine L23 NF v3_5 (p2w_5 6 (nn v4_5)) p2w_5 o23 _ _ _ hc23 hP hD hK hS (lv_sub hl [1, 2, 3, 4, 5, 0] rfl) ?_
        intro H locs ls hP hD hK hS hl
        have hl := hl
        refine lv_aload_n hx hb dX4_numberValues_51 rfl (lv_at hl 0 rfl) ?_
        refine lv_iload hx hb dX4_numberValues_52 (lv_at hl 4 rfl) ?_
        obtain ⟨o_7, hc_7, hrun⟩ := bnd9 hrun
        have hPx : va_P (dC, dI) cls ((List.flatten ([(oX4 (p0a 0) p0a p0k p0w_5 p0l)] : List va_W)) ++ (List.flatten ([(oX6 (p1a 0) p1a p1k p1w p1l), (oX1 (p2a 0) p2a p2k p2n (o23.2) p2l)] : List va_W))) H := vP_fa (vP_perm hP (bP (List.Perm.refl _)))
        have hDx : va_D A ((List.flatten ([(oX4 (p0a 0) p0a p0k p0w_5 p0l)] : List va_W)) ++ (List.flatten ([(oX6 (p1a 0) p1a p1k p1w p1l), (oX1 (p2a 0) p2a p2k p2n (o23.2) p2l)] : List va_W))) := vD_fa (vD_perm hD (bP (List.Perm.refl _)))
        have hKx : va_K (dC, dI) cls ((List.flatten ([(tX4 p0k)] : List (List (ClassId × FieldType)))) ++ (List.flatten ([(tX6 p1k), (tX1 p2k)] : List (List (ClassId × FieldType))))) s := vK_fa (vK_perm hK (bP (List.Perm.refl _)))
        have hPc := vP_l hPx
        have hDc := vD_l hDx
        have hKc := vK_l hKx
        have hFc := vfree hDx hS hA
        refine va_calli (va_runV (As := [.int v4_5]) (rest := []) ⟨hx, hb, hml, hown, hts⟩ (kX4_opsFrom l dC dI (p0a := p0a) (p0k := p0k) (p0w := p0w_5) (p0l := p0l) (p1 := v4_5) (sz := _) (o := o_7) (hrun := hc_7)) (cwV 1 hts (gi_V qw288 qw289 qw290 qw270 (gi_z qw287)) rfl rfl rfl (by decide +kernel) ⟨Nat.le_of_ble_eq_true rfl, Nat.le_of_ble_eq_true rfl⟩) ⟨PRE.blind, va_recv hKc hPc (ci := 6) (q0 := 0) rfl rfl, PRE.of hE hS hFc hPc hKc hDc⟩ rfl rfl hl.1 rfl (lv_room (Nat.le_of_ble_eq_true rfl)) dX4_numberValues_54 ⟨(Nat.le_of_ble_eq_true rfl), (Nat.le_of_ble_eq_true rfl)⟩) hS (fun q _ h => hFc q h) hFc (fun r8 u t H locs ht hvm hw hB hz1 hk1 hS => ?_)
        obtain ⟨b1, b2, b3⟩ := hB
        rw [ht] at b1
        obtain ⟨hP, hD, hK⟩ := JOINC (wc := (List.flatten ([(oX4 (p0a 0) p0a p0k p0w_5 p0l)] : List va_W))) (wr := (List.flatten ([(oX6 (p1a 0) p1a p1k p1w p1l), (oX1 (p2a 0) p2a p2k p2n (o23.2) p2l)] : List va_W))) (w1 := (List.flatten ([(oX4 (p0a 0) p0a p0k p0w_5 p0l)] : List va_W))) (t1 := (List.flatten ([(tX4 p0k)] : List (List (ClassId × FieldType))))) hPx hDx hKx hk1 hFc b1 (va_K.moved hvm.symm b2) b3
        have hP : va_P (dC, dI) cls (List.flatten ([(oX4 (p0a 0) p0a p0k p0w_5 p0l), (oX6 (p1a 0) p1a p1k p1w p1l), (oX1 (p2a 0) p2a p2k p2n (o23.2) p2l)] : List va_W)) H := vP_perm (vP_fb hP) (bP (List.Perm.refl _))
        have hD : va_D A (List.flatten ([(oX4 (p0a 0) p0a p0k p0w_5 p0l), (oX6 (p1a 0) p1a p1k p1w p1l), (oX1 (p2a 0) p2a p2k p2n (o23.2) p2l)] : List va_W)) := vD_perm (vD_fb hD) (bP (List.Perm.refl _))
        have hK : va_K (dC, dI) cls (List.flatten ([(tX4 p0k), (tX6 p1k), (tX1 p2k)] : List (List (ClassId × FieldType)))) s := vK_perm (vK_fb hK) (bP (List.Perm.refl _))
        obtain rfl : o_7 = r8 := hw.symm
        refine lv_istore (lv' := [(5, .int o_7), (0, .ref (p0a 0)), (1, .ref (p1a 0)), (2, .ref (p2a 0)), (3, .int (o23.1)), (4, .int v4_5)]) hx hb dX4_numberValues_57 hl (by decide) rfl (fun ls hl => ?_)
        have L59 : ∀ (n_59 : Nat) (v3_59 : Int32) (v5_59 : Int32) (p0w_59 : ST) (o59 : Int32 × ST) (H : Heap) (locs : List Loc) (ls : Array Slot), (fX4_numberValues_L59 p1w v4_5 n_59) v3_59 v5_59 p0w_59 = some o59 → va_P (dC, dI) cls (List.flatten ([(oX4 (p0a 0) p0a p0k p0w_59 p0l), (oX6 (p1a 0) p1a p1k p1w p1l), (oX1 (p2a 0) p2a p2k p2n (o23.2) p2l)] : List va_W)) H → va_D A (List.flatten ([(oX4 (p0a 0) p0a p0k p0w_59 p0l), (oX6 (p1a 0) p1a p1k p1w p1l), (oX1 (p2a 0) p2a p2k p2n (o23.2) p2l)] : List va_W)) → va_K (dC, dI) cls (List.flatten ([(tX4 p0k), (tX6 p1k), (tX1 p2k)] : List (List (ClassId × FieldType)))) s → va_S A s.heap H locs → lv_has ls 6 [(0, .ref (p0a 0)), (1, .ref (p1a 0)), (2, .ref (p2a 0)), (3, .int v3_59), (4, .int v4_5), (5, .int v5_59)] → (∀ (H : Heap) (locs : List Loc) (ls : Array Slot), va_P (dC, dI) cls (List.flatten ([(oX4 (p0a 0) p0a p0k (o59.2) p0l), (oX6 (p1a 0) p1a p1k p1w p1l), (oX1 (p2a 0) p2a p2k p2n (o23.2) p2l)] : List va_W)) H → va_D A (List.flatten ([(oX4 (p0a 0) p0a p0k (o59.2) p0l), (oX6 (p1a 0) p1a p1k p1w p1l), (oX1 (p2a 0) p2a p2k p2n (o23.2) p2l)] : List va_W)) → va_K (dC, dI) cls (List.flatten ([(tX4 p0k), (tX6 p1k), (tX1 p2k)] : List (List (ClassId × FieldType)))) s → va_S A s.heap H locs → lv_has ls 6 [(0, .ref (p0a 0)), (1, .ref (p1a 0)), (2, .ref (p2a 0)), (3, .int (o59.1)), (4, .int v4_5)] → W p l e ({ frames := 1, cells := 0, slots := 0, locals := 21 } : Room) s m ([.ref (p0a 0), .ref (p1a 0), .ref (p2a 0)] : List Value).toArray below meth c H locs 0 0 Q (F0 m 100 ls [])) → W p l e ({ frames := 1, cells := 0, slots := 0, locals := 21 } : Room) s m ([.ref (p0a 0), .ref (p1a 0), .ref (p2a 0)] : List Value).toArray below meth c H locs 0 0 Q (F0 m 59 ls []) := by
          intro n_59
          induction n_59 with
          | zero => intro v3_59 v5_59 p0w_59 o59 H locs ls hrun; exact (no9 rfl hrun).elim
          | succ n_59 IH59 =>
            intro v3_59 v5_59 p0w_59 o59 H locs ls hrun hP hD hK hS hl hk59
            unfold fX4_numberValues_L59 at hrun
            refine lv_iload hx hb dX4_numberValues_59 (lv_at hl 5 rfl) ?_
            refine lv_aload_n hx hb dX4_numberValues_61 rfl (lv_at hl 0 rfl) ?_
            refine lv_iload hx hb dX4_numberValues_62 (lv_at hl 4 rfl) ?_
            obtain ⟨o_9, hc_9, hrun⟩ := bnd9 hrun
            have hPx : va_P (dC, dI) cls ((List.flatten ([(oX4 (p0a 0) p0a p0k p0w_59 p0l)] : List va_W)) ++ (List.flatten ([(oX6 (p1a 0) p1a p1k p1w p1l), (oX1 (p2a 0) p2a p2k p2n (o23.2) p2l)] : List va_W))) H := vP_fa (vP_perm hP (bP (List.Perm.refl _)))
            have hDx : va_D A ((List.flatten ([(oX4 (p0a 0) p0a p0k p0w_59 p0l)] : List va_W)) ++ (List.flatten ([(oX6 (p1a 0) p1a p1k p1w p1l), (oX1 (p2a 0) p2a p2k p2n (o23.2) p2l)] : List va_W))) := vD_fa (vD_perm hD (bP (List.Perm.refl _)))
            have hKx : va_K (dC, dI) cls ((List.flatten ([(tX4 p0k)] : List (List (ClassId × FieldType)))) ++ (List.flatten ([(tX6 p1k), (tX1 p2k)] : List (List (ClassId × FieldType))))) s := vK_fa (vK_perm hK (bP (List.Perm.refl _)))
            have hPc := vP_l hPx
            have hDc := vD_l hDx
            have hKc := vK_l hKx
            have hFc := vfree hDx hS hA
            refine va_calli (va_runV (As := [.int v4_5]) (rest := [.int v5_59]) ⟨hx, hb, hml, hown, hts⟩ (kX4_opsTo l dC dI (p0a := p0a) (p0k := p0k) (p0w := p0w_59) (p0l := p0l) (p1 := v4_5) (sz := _) (o := o_9) (hrun := hc_9)) (cwV 1 hts (gi_V qw292 qw293 qw294 qw270 (gi_z qw291)) rfl rfl rfl (by decide +kernel) ⟨Nat.le_of_ble_eq_true rfl, Nat.le_of_ble_eq_true rfl⟩) ⟨PRE.blind, va_recv hKc hPc (ci := 6) (q0 := 0) rfl rfl, PRE.of hE hS hFc hPc hKc hDc⟩ rfl rfl hl.1 rfl (lv_room (Nat.le_of_ble_eq_true rfl)) dX4_numberValues_64 ⟨(Nat.le_of_ble_eq_true rfl), (Nat.le_of_ble_eq_true rfl)⟩) hS (fun q _ h => hFc q h) hFc (fun r10 u t H locs ht hvm hw hB hz1 hk1 hS => ?_)
            obtain ⟨b1, b2, b3⟩ := hB
            rw [ht] at b1
            obtain ⟨hP, hD, hK⟩ := JOINC (wc := (List.flatten ([(oX4 (p0a 0) p0a p0k p0w_59 p0l)] : List va_W))) (wr := (List.flatten ([(oX6 (p1a 0) p1a p1k p1w p1l), (oX1 (p2a 0) p2a p2k p2n (o23.2) p2l)] : List va_W))) (w1 := (List.flatten ([(oX4 (p0a 0) p0a p0k p0w_59 p0l)] : List va_W))) (t1 := (List.flatten ([(tX4 p0k)] : List (List (ClassId × FieldType))))) hPx hDx hKx hk1 hFc b1 (va_K.moved hvm.symm b2) b3
            have hP : va_P (dC, dI) cls (List.flatten ([(oX4 (p0a 0) p0a p0k p0w_59 p0l), (oX6 (p1a 0) p1a p1k p1w p1l), (oX1 (p2a 0) p2a p2k p2n (o23.2) p2l)] : List va_W)) H := vP_perm (vP_fb hP) (bP (List.Perm.refl _))
            have hD : va_D A (List.flatten ([(oX4 (p0a 0) p0a p0k p0w_59 p0l), (oX6 (p1a 0) p1a p1k p1w p1l), (oX1 (p2a 0) p2a p2k p2n (o23.2) p2l)] : List va_W)) := vD_perm (vD_fb hD) (bP (List.Perm.refl _))
            have hK : va_K (dC, dI) cls (List.flatten ([(tX4 p0k), (tX6 p1k), (tX1 p2k)] : List (List (ClassId × FieldType)))) s := vK_perm (vK_fb hK) (bP (List.Perm.refl _))
            obtain rfl : o_9 = r10 := hw.symm
            rcases br9 hrun with ⟨hc11, hrun⟩ | ⟨hc11, hrun⟩
            · refine lv_icmp_ge (tgt := 100) hx hb dX4_numberValues_67 (by decide) (fun _ => ?_) (fun c => absurd hc11 c)
              obtain rfl := (Option.some.inj hrun)
              exact hk59 _ _ _ hP hD hK hS (lv_sub hl [0, 1, 2, 3, 4] rfl)
            · refine lv_icmp_ge (tgt := 100) hx hb dX4_numberValues_67 (by decide) (fun c => absurd c hc11) (fun _ => ?_)
              refine lv_aload_n hx hb dX4_numberValues_70 rfl (lv_at hl 1 rfl) ?_
              refine va_get (D := (dC, dI)) (ci := 2) (v := .ref (p1a 9)) (C := RX6) (T := TX6) (N := 13) hx hb hts i_X6 hown hK hP 19 rfl rfl 8 (by decide) (hts _ qw263) (fun _ h9 => h9) rfl dX4_numberValues_71 ?_
              refine lv_iload hx hb dX4_numberValues_74 (lv_at hl 5 rfl) ?_
              obtain ⟨hq12, hrun⟩ := chk9 hrun
              refine va_iald hx hb hK hP 26 24 rfl rfl (ixb_in hq12) dX4_numberValues_76 ?_
              obtain ⟨o_13, hc_13, hrun⟩ := bnd9 hrun
              have hPx : va_P (dC, dI) cls ((List.flatten ([] : List va_W)) ++ (List.flatten ([(oX4 (p0a 0) p0a p0k p0w_59 p0l), (oX6 (p1a 0) p1a p1k p1w p1l), (oX1 (p2a 0) p2a p2k p2n (o23.2) p2l)] : List va_W))) H := vP_fa (vP_perm hP (bP (List.Perm.refl _)))
              have hDx : va_D A ((List.flatten ([] : List va_W)) ++ (List.flatten ([(oX4 (p0a 0) p0a p0k p0w_59 p0l), (oX6 (p1a 0) p1a p1k p1w p1l), (oX1 (p2a 0) p2a p2k p2n (o23.2) p2l)] : List va_W))) := vD_fa (vD_perm hD (bP (List.Perm.refl _)))
              have hKx : va_K (dC, dI) cls ((List.flatten ([] : List (List (ClassId × FieldType)))) ++ (List.flatten ([(tX4 p0k), (tX6 p1k), (tX1 p2k)] : List (List (ClassId × FieldType))))) s := vK_fa (vK_perm hK (bP (List.Perm.refl _)))
              have hPc := vP_l hPx
              have hDc := vD_l hDx
              have hKc := vK_l hKx
              have hFc := vfree hDx hS hA
              refine va_calli (va_runSN (As := [.int (p1w 9 (nn v5_59))]) (rest := []) ⟨hx, hb, hml, hown, hts⟩ (kX11_givesValue l dC dI (p0 := (p1w 9 (nn v5_59))) (sz := _) (o := o_13) (hrun := hc_13)) ⟨(va_cnB 1 hts (gi_z qw302) rfl rfl rfl (hE.nw (List.mem_append_right _ (tbl_6 (i := 120) rfl)) rfl) (hts _ qw129) (by decide +kernel) ⟨Nat.le_of_ble_eq_true rfl, Nat.le_of_ble_eq_true rfl⟩), (hts _ qw303), trivial⟩ ⟨PRE.blind, PRE.of hE hS hFc hPc hKc hDc⟩ rfl rfl hl.1 rfl (lv_room (Nat.le_of_ble_eq_true rfl)) dX4_numberValues_77 ⟨(Nat.le_of_ble_eq_true rfl), (Nat.le_of_ble_eq_true rfl)⟩) hS (fun q _ h => hFc q h) hFc (fun r14 u t H locs ht hvm hw hB hz1 hk1 hS => ?_)
              obtain ⟨b1, b2, b3⟩ := hB
              rw [ht] at b1
              obtain ⟨hP, hD, hK⟩ := JOINC (wc := (List.flatten ([] : List va_W))) (wr := (List.flatten ([(oX4 (p0a 0) p0a p0k p0w_59 p0l), (oX6 (p1a 0) p1a p1k p1w p1l), (oX1 (p2a 0) p2a p2k p2n (o23.2) p2l)] : List va_W))) (w1 := (List.flatten ([] : List va_W))) (t1 := (List.flatten ([] : List (List (ClassId × FieldType))))) hPx hDx hKx hk1 hFc b1 (va_K.moved hvm.symm b2) b3
              have hP : va_P (dC, dI) cls (List.flatten ([(oX4 (p0a 0) p0a p0k p0w_59 p0l), (oX6 (p1a 0) p1a p1k p1w p1l), (oX1 (p2a 0) p2a p2k p2n (o23.2) p2l)] : List va_W)) H := vP_perm (vP_fb hP) (bP (List.Perm.refl _))
              have hD : va_D A (List.flatten ([(oX4 (p0a 0) p0a p0k p0w_59 p0l), (oX6 (p1a 0) p1a p1k p1w p1l), (oX1 (p2a 0) p2a p2k p2n (o23.2) p2l)] : List va_W)) := vD_perm (vD_fb hD) (bP (List.Perm.refl _))
              have hK : va_K (dC, dI) cls (List.flatten ([(tX4 p0k), (tX6 p1k), (tX1 p2k)] : List (List (ClassId × FieldType)))) s := vK_perm (vK_fb hK) (bP (List.Perm.refl _))
              obtain rfl : o_13 = r14 := hw.symm
              have J94 : ∀ (v3_94 : Int32) (p0w_94 : ST) (H : Heap) (locs : List Loc) (ls : Array Slot), (fX4_numberValues_J94 (fX4_numberValues_L59 p1w v4_5 n_59) v5_59 v3_94 p0w_94) = some o59 → va_P (dC, dI) cls (List.flatten ([(oX4 (p0a 0) p0a p0k p0w_94 p0l), (oX6 (p1a 0) p1a p1k p1w p1l), (oX1 (p2a 0) p2a p2k p2n (o23.2) p2l)] : List va_W)) H → va_D A (List.flatten ([(oX4 (p0a 0) p0a p0k p0w_94 p0l), (oX6 (p1a 0) p1a p1k p1w p1l), (oX1 (p2a 0) p2a p2k p2n (o23.2) p2l)] : List va_W)) → va_K (dC, dI) cls (List.flatten ([(tX4 p0k), (tX6 p1k), (tX1 p2k)] : List (List (ClassId × FieldType)))) s → va_S A s.heap H locs → lv_has ls 6 [(0, .ref (p0a 0)), (1, .ref (p1a 0)), (2, .ref (p2a 0)), (3, .int v3_94), (4, .int v4_5), (5, .int v5_59)] → W p l e ({ frames := 1, cells := 0, slots := 0, locals := 21 } : Room) s m ([.ref (p0a 0), .ref (p1a 0), .ref (p2a 0)] : List Value).toArray below meth c H locs 0 0 Q (F0 m 94 ls []) := by
                intro v3_94 p0w_94 H locs ls hrun hP hD hK hS hl 
                unfold fX4_numberValues_J94 at hrun
                refine lv_iinc (v := (v5_59 + 1)) (lv' := [(5, .int (v5_59 + 1)), (0, .ref (p0a 0)), (1, .ref (p1a 0)), (2, .ref (p2a 0)), (3, .int v3_94), (4, .int v4_5)]) hx hb dX4_numberValues_94 hl (k := 5) rfl rfl (by decide) rfl (fun ls hl => ?_)
                refine lv_goto (tgt := 59) hx hb dX4_numberValues_97 (by decide) ?_
                exact IH59 v3_94 (v5_59 + 1) p0w_94 o59 _ _ _ hrun hP hD hK hS (lv_sub hl [1, 2, 3, 4, 5, 0] rfl) hk59
              rcases br9 hrun with ⟨hc15, hrun⟩ | ⟨hc15, hrun⟩
              · refine lv_if_eq (tgt := 94) hx hb dX4_numberValues_80 (by decide) (fun _ => ?_) (fun c => absurd hc15 c)
                exact J94 v3_59 p0w_59 _ _ _ hrun hP hD hK hS (lv_sub hl [0, 1, 2, 3, 4, 5] rfl)
              · refine lv_if_eq (tgt := 94) hx hb dX4_numberValues_80 (by decide) (fun c => absurd c hc15) (fun _ => ?_)
                refine lv_aload_n hx hb dX4_numberValues_83 rfl (lv_at hl 0 rfl) ?_
                refine va_get (D := (dC, dI)) (ci := 6) (v := .ref (p0a 4)) (C := RX4) (T := TX4) (N := 20) hx hb hts i_X4 hown hK hP 0 rfl rfl 3 (by decide) (hts _ qw295) (fun _ h9 => h9) rfl dX4_numberValues_84 ?_
                refine lv_iload hx hb dX4_numberValues_87 (lv_at hl 5 rfl) ?_
                refine lv_iload_n hx hb dX4_numberValues_89 rfl (lv_at hl 3 rfl) ?_
                obtain ⟨hq16, hrun⟩ := chk9 hrun
                refine va_iast hx hb hK hP hD hS 3 2 rfl rfl (ixb_in hq16) dX4_numberValues_90 (fun H locs hP hD hS => ?_)
                have hP : va_P (dC, dI) cls (List.flatten ([(oX4 (p0a 0) p0a p0k (upw p0w_59 4 (nn v5_59) v3_59) p0l), (oX6 (p1a 0) p1a p1k p1w p1l), (oX1 (p2a 0) p2a p2k p2n (o23.2) p2l)] : List va_W)) H := hP
                have hD : va_D A (List.flatten ([(oX4 (p0a 0) p0a p0k (upw p0w_59 4 (nn v5_59) v3_59) p0l), (oX6 (p1a 0) p1a p1k p1w p1l), (oX1 (p2a 0) p2a p2k p2n (o23.2) p2l)] : List va_W)) := hD
                obtain ⟨w17, ew17, hrun⟩ := let9 hrun
                rw [← ew17] at hP hD
                refine lv_iinc (v := (v3_59 + 1)) (lv' := [(3, .int (v3_59 + 1)), (0, .ref (p0a 0)), (1, .ref (p1a 0)), (2, .ref (p2a 0)), (4, .int v4_5), (5, .int v5_59)]) hx hb dX4_numberValues_91 hl (k := 3) rfl rfl (by decide) rfl (fun ls hl => ?_)
                exact J94 (v3_59 + 1) w17 _ _ _ hrun hP hD hK hS (lv_sub hl [1, 2, 3, 0, 4, 5] rfl)
        obtain ⟨o59, hc59, hrun⟩ := bnd9 hrun
        refine L59 NF (o23.1) o_7 p0w_5 o59 _ _ _ hc59 hP hD hK hS (lv_sub hl [1, 2, 3, 4, 5, 0] rfl) ?_
        intro H locs ls hP hD hK hS hl
        have hl := hl
        refine lv_iinc (v := (v4_5 + 1)) (lv' := [(4, .int (v4_5 + 1)), (0, .ref (p0a 0)), (1, .ref (p1a 0)), (2, .ref (p2a 0)), (3, .int (o59.1))]) hx hb dX4_numberValues_100 hl (k := 4) rfl rfl (by decide) rfl (fun ls hl => ?_)
        refine lv_goto (tgt := 5) hx hb dX4_numberValues_103 (by decide) ?_
        exact IH5 (o59.1) (v4_5 + 1) (o59.2) (o23.2) o5 _ _ _ hrun hP hD hK hS (lv_sub hl [1, 2, 3, 4, 0] rfl) hk5
  obtain ⟨o5, hc5, hrun⟩ := bnd9 hrun
  refine L5 NF 0 0 p0w p2w o5 _ _ _ hc5 hP hD hK hS (lv_sub hl [2, 3, 4, 1, 0] rfl) ?_
  intro H locs ls hP hD hK hS hl
  have hl := hl
  refine lv_aload_n hx hb dX4_numberValues_106 rfl (lv_at hl 0 rfl) ?_
  refine lv_iload_n hx hb dX4_numberValues_107 rfl (lv_at hl 1 rfl) ?_
  refine va_put (D := (dC, dI)) (ci := 4) (v := .int (o5.1)) (ty := .int) (C := RX1) (T := TX1) (N := 21) hx hb hts i_X1 tyX1 tyX1_ok nmX1 hown hK hP hD hS 30 rfl rfl 1 (by decide) (hts _ qw407) (fun _ h9 => h9) rfl (by decide +kernel) rfl rfl (Nat.le_of_ble_eq_true rfl) dX4_numberValues_108 (fun H locs hP hD hS => ?_)
  have hP : va_P (dC, dI) cls (List.flatten ([(oX4 (p0a 0) p0a p0k (o5.2.1) p0l), (oX6 (p1a 0) p1a p1k p1w p1l), (oX1 (p2a 0) p2a p2k p2n (upw (o5.2.2) 0 1 (o5.1)) p2l)] : List va_W)) H := hP
  have hD : va_D A (List.flatten ([(oX4 (p0a 0) p0a p0k (o5.2.1) p0l), (oX6 (p1a 0) p1a p1k p1w p1l), (oX1 (p2a 0) p2a p2k p2n (upw (o5.2.2) 0 1 (o5.1)) p2l)] : List va_W)) := hD
  obtain ⟨w18, ew18, hrun⟩ := let9 hrun
  rw [← ew18] at hP hD
  refine lv_iload_n hx hb dX4_numberValues_111 rfl (lv_at hl 1 rfl) ?_
  refine lv_sipush (v := 250) hx hb dX4_numberValues_112 (by decide) ?_
  have J123 : ∀ (y0_123 : Int32) (H : Heap) (locs : List Loc) (ls : Array Slot), (fX4_numberValues_J123 o5 w18 y0_123) = some o → va_P (dC, dI) cls (List.flatten ([(oX4 (p0a 0) p0a p0k (o5.2.1) p0l), (oX6 (p1a 0) p1a p1k p1w p1l), (oX1 (p2a 0) p2a p2k p2n w18 p2l)] : List va_W)) H → va_D A (List.flatten ([(oX4 (p0a 0) p0a p0k (o5.2.1) p0l), (oX6 (p1a 0) p1a p1k p1w p1l), (oX1 (p2a 0) p2a p2k p2n w18 p2l)] : List va_W)) → va_K (dC, dI) cls (List.flatten ([(tX4 p0k), (tX6 p1k), (tX1 p2k)] : List (List (ClassId × FieldType)))) s → va_S A s.heap H locs → lv_has ls 6 [] → W p l e ({ frames := 1, cells := 0, slots := 0, locals := 21 } : Room) s m ([.ref (p0a 0), .ref (p1a 0), .ref (p2a 0)] : List Value).toArray below meth c H locs 0 0 Q (F0 m 123 ls [.int y0_123]) := by
    intro y0_123 H locs ls hrun hP hD hK hS hl 
    unfold fX4_numberValues_J123 at hrun
    obtain ⟨hz9, hrun⟩ := chk9 hrun
    have ho9 : (y0_123, (o5.2.1), w18) = o := Option.some.inj hrun
    have hP9 : va_P (dC, dI) cls (List.flatten ([(oX4 (p0a 0) p0a p0k (o.2.1) p0l), (oX6 (p1a 0) p1a p1k p1w p1l), (oX1 (p2a 0) p2a p2k p2n (o.2.2) p2l)] : List va_W)) H := by first | exact hP | (rw [← ho9]; exact hP)
    have hD9 : va_D A (List.flatten ([(oX4 (p0a 0) p0a p0k (o.2.1) p0l), (oX6 (p1a 0) p1a p1k p1w p1l), (oX1 (p2a 0) p2a p2k p2n (o.2.2) p2l)] : List va_W)) := by first | exact hD | (rw [← ho9]; exact hD)
    subst hQ
    exact W.zret (v := y0_123) hx hb hr (bz9 hz9) (fun t ht hW => ⟨⟨y0_123, (), rfl, (by rw [← ho9]), ⟨by rw [ht]; exact hP9, va_K.moved hW.alike hK, hD9⟩⟩, hS.F ht⟩) hS.2.2 dX4_numberValues_123
  rcases br9 hrun with ⟨hc19, hrun⟩ | ⟨hc19, hrun⟩
  · refine lv_icmp_gt (tgt := 122) hx hb dX4_numberValues_115 (by decide) (fun _ => ?_) (fun c => absurd hc19 c)
    refine lv_iconst (v := 0) hx hb dX4_numberValues_122 (by decide) ?_
    exact J123 0 _ _ _ hrun hP hD hK hS (lv_sub hl [] rfl)
  · refine lv_icmp_gt (tgt := 122) hx hb dX4_numberValues_115 (by decide) (fun c => absurd c hc19) (fun _ => ?_)
    refine lv_iconst (v := 1) hx hb dX4_numberValues_118 (by decide) ?_
    refine lv_goto (tgt := 123) hx hb dX4_numberValues_119 (by decide) ?_
    exact J123 1 _ _ _ hrun hP hD hK hS (lv_sub hl [] rfl)
def fX4_make_G91_21 (kk73 : Int32 → ST → ST → (Nat → Nat) → (Nat → Nat) → Option (Sum (Int32 × ST × SL × ST × SL × (Nat → Nat) × ST × (Nat → Nat) × ST) (ST × ST × (Nat → Nat) × (Nat → Nat)))) (o_1 : ST × ST) (o_7 : ST × ST × SL) (o_8 : ST × RI) (o_10 : SL) (v5_73 : Int32) (p3_2n_73 : Nat → Nat) (o_13 : Int32 × ST × ST × (Nat → Nat)) : Option (Sum (Int32 × ST × SL × ST × SL × (Nat → Nat) × ST × (Nat → Nat) × ST) (ST × ST × (Nat → Nat) × (Nat → Nat))) := (if (o_13.1) = 0 then some (Sum.inl (0, (o_13.2.1), o_10, (o_13.2.2.1), (o_7.2.2), (o_13.2.2.2), (o_1.2), p3_2n_73, (o_8.1))) else (kk73 (v5_73 + 1) (o_13.2.1) (o_13.2.2.1) (o_13.2.2.2) p3_2n_73))
theorem mo_fX4_make_G91_21 {kk73 : Int32 → ST → ST → (Nat → Nat) → (Nat → Nat) → Option (Sum (Int32 × ST × SL × ST × SL × (Nat → Nat) × ST × (Nat → Nat) × ST) (ST × ST × (Nat → Nat) × (Nat → Nat)))} {o_1 : ST × ST} {o_7 : ST × ST × SL} {o_8 : ST × RI} {o_10 : SL} {v5_73 : Int32} {p3_2n_73 : Nat → Nat} {o_13 : Int32 × ST × ST × (Nat → Nat)} {o9q : (Sum (Int32 × ST × SL × ST × SL × (Nat → Nat) × ST × (Nat → Nat) × ST) (ST × ST × (Nat → Nat) × (Nat → Nat)))} (hkk : ∀ (v5_73q : Int32) (p0w_73q : ST) (p3w_73q : ST) (p3n_73q : Nat → Nat) (p3_2n_73q : Nat → Nat) (r9 : (Sum (Int32 × ST × SL × ST × SL × (Nat → Nat) × ST × (Nat → Nat) × ST) (ST × ST × (Nat → Nat) × (Nat → Nat)))), kk73 v5_73q p0w_73q p3w_73q p3n_73q p3_2n_73q = some r9 → (Sum.elim (fun r7 => glX1 p3n_73q (r7.2.2.2.2.2.1)) (fun t7 => glX1 p3n_73q (t7.2.2.1)) r9) ∧ (Sum.elim (fun r7 => glX9 p3_2n_73q (r7.2.2.2.2.2.2.2.1)) (fun t7 => glX9 p3_2n_73q (t7.2.2.2)) r9)) (hrun : fX4_make_G91_21 kk73 o_1 o_7 o_8 o_10 v5_73 p3_2n_73 o_13 = some o9q) : (Sum.elim (fun r7 => glX1 (o_13.2.2.2) (r7.2.2.2.2.2.1)) (fun t7 => glX1 (o_13.2.2.2) (t7.2.2.1)) o9q) ∧ (Sum.elim (fun r7 => glX9 p3_2n_73 (r7.2.2.2.2.2.2.2.1)) (fun t7 => glX9 p3_2n_73 (t7.2.2.2)) o9q) := by
  unfold fX4_make_G91_21 at hrun
  rcases br9 hrun with ⟨hc22, hrun⟩ | ⟨hc22, hrun⟩
  · skip
    obtain rfl := (Option.some.inj hrun)
    exact ⟨(glX1_rf _), (glX9_rf _)⟩
  · skip
    exact ⟨((hkk _ _ _ _ _ _ hrun).1), ((hkk _ _ _ _ _ _ hrun).2)⟩
def fX4_make_L73 (p1w : ST) (p2 : Int32) (o_1 : ST × ST) (o_7 : ST × ST × SL) (o_8 : ST × RI) (o_10 : SL) : Nat → Int32 → ST → ST → (Nat → Nat) → (Nat → Nat) → Option (Sum (Int32 × ST × SL × ST × SL × (Nat → Nat) × ST × (Nat → Nat) × ST) (ST × ST × (Nat → Nat) × (Nat → Nat)))
  | 0 => fun _ _ _ _ _ => none
  | n_73 + 1 => fun v5_73 p0w_73 p3w_73 p3n_73 p3_2n_73 => (if ixb p2 6 = true then (if (p1w 5 (nn p2)) ≤ v5_73 then some (Sum.inr (p0w_73, p3w_73, p3n_73, p3_2n_73)) else ((fX4_placePhis p0w_73 o_10 p3n_73 p3w_73 v5_73).bind fun (o_13 : Int32 × ST × ST × (Nat → Nat)) => (fX4_make_G91_21 (fX4_make_L73 p1w p2 o_1 o_7 o_8 o_10 n_73) o_1 o_7 o_8 o_10 v5_73 p3_2n_73 o_13))) else none)
theorem mo_fX4_make_L73 {p1w : ST} {p2 : Int32} {o_1 : ST × ST} {o_7 : ST × ST × SL} {o_8 : ST × RI} {o_10 : SL} : ∀ (n_73 : Nat) (v5_73 : Int32) (p0w_73 : ST) (p3w_73 : ST) (p3n_73 : Nat → Nat) (p3_2n_73 : Nat → Nat) (o9q : (Sum (Int32 × ST × SL × ST × SL × (Nat → Nat) × ST × (Nat → Nat) × ST) (ST × ST × (Nat → Nat) × (Nat → Nat)))), (fX4_make_L73 p1w p2 o_1 o_7 o_8 o_10 n_73) v5_73 p0w_73 p3w_73 p3n_73 p3_2n_73 = some o9q → (Sum.elim (fun r7 => glX1 p3n_73 (r7.2.2.2.2.2.1)) (fun t7 => glX1 p3n_73 (t7.2.2.1)) o9q) ∧ (Sum.elim (fun r7 => glX9 p3_2n_73 (r7.2.2.2.2.2.2.2.1)) (fun t7 => glX9 p3_2n_73 (t7.2.2.2)) o9q) := by
  intro n_73
  induction n_73 with
  | zero => intro v5_73 p0w_73 p3w_73 p3n_73 p3_2n_73 o9q hrun; exact (no9 rfl hrun).elim
  | succ n_73 ih9 =>
    intro v5_73 p0w_73 p3w_73 p3n_73 p3_2n_73 o9q hrun
    unfold fX4_make_L73 at hrun
    obtain ⟨hq11, hrun⟩ := chk9 hrun
    rcases br9 hrun with ⟨hc12, hrun⟩ | ⟨hc12, hrun⟩
    · skip
      obtain rfl := (Option.some.inj hrun)
      exact ⟨(glX1_rf _), (glX9_rf _)⟩
    · skip
      obtain ⟨o_13, hc_13, hrun⟩ := bnd9 hrun
      exact ⟨(glX1_te (mo_fX4_placePhis hc_13) ((mo_fX4_make_G91_21 ih9 hrun).1)), ((mo_fX4_make_G91_21 ih9 hrun).2)⟩
def fX4_make_G134_39 (kk116 : Int32 → ST → ST → ST → (Nat → Nat) → Option (ST × ST × ST × (Nat → Nat))) (v5_116 : Int32) (o_28 : ST × ST × ST × (Nat → Nat)) : Option (ST × ST × ST × (Nat → Nat)) := (kk116 (v5_116 + 1) (o_28.1) (o_28.2.1) (o_28.2.2.1) (o_28.2.2.2))
theorem mo_fX4_make_G134_39 {kk116 : Int32 → ST → ST → ST → (Nat → Nat) → Option (ST × ST × ST × (Nat → Nat))} {v5_116 : Int32} {o_28 : ST × ST × ST × (Nat → Nat)} {o9q : ST × ST × ST × (Nat → Nat)} (hkk : ∀ (v5_116q : Int32) (p0w_116q : ST) (p3w_116q : ST) (p3_2w_116q : ST) (p3_2n_116q : Nat → Nat) (r9 : ST × ST × ST × (Nat → Nat)), kk116 v5_116q p0w_116q p3w_116q p3_2w_116q p3_2n_116q = some r9 → glX9 p3_2n_116q (r9.2.2.2)) (hrun : fX4_make_G134_39 kk116 v5_116 o_28 = some o9q) : glX9 (o_28.2.2.2) (o9q.2.2.2) := by
  unfold fX4_make_G134_39 at hrun
  exact (hkk _ _ _ _ _ _ hrun)
def fX4_make_L116 (p1w : ST) (p2 : Int32) (t73 : ST × ST × (Nat → Nat) × (Nat → Nat)) : Nat → Int32 → ST → ST → ST → (Nat → Nat) → Option (ST × ST × ST × (Nat → Nat))
  | 0 => fun _ _ _ _ _ => none
  | n_116 + 1 => fun v5_116 p0w_116 p3w_116 p3_2w_116 p3_2n_116 => (if (p3w_116 0 0) ≤ v5_116 then some (p0w_116, p3w_116, p3_2w_116, p3_2n_116) else ((fX4_fillBlock p0w_116 p1w p2 (t73.2.2.1) p3w_116 v5_116 p3_2n_116 p3_2w_116).bind fun (o_28 : ST × ST × ST × (Nat → Nat)) => (fX4_make_G134_39 (fX4_make_L116 p1w p2 t73 n_116) v5_116 o_28)))
theorem mo_fX4_make_L116 {p1w : ST} {p2 : Int32} {t73 : ST × ST × (Nat → Nat) × (Nat → Nat)} : ∀ (n_116 : Nat) (v5_116 : Int32) (p0w_116 : ST) (p3w_116 : ST) (p3_2w_116 : ST) (p3_2n_116 : Nat → Nat) (o9q : ST × ST × ST × (Nat → Nat)), (fX4_make_L116 p1w p2 t73 n_116) v5_116 p0w_116 p3w_116 p3_2w_116 p3_2n_116 = some o9q → glX9 p3_2n_116 (o9q.2.2.2) := by
  intro n_116
  induction n_116 with
  | zero => intro v5_116 p0w_116 p3w_116 p3_2w_116 p3_2n_116 o9q hrun; exact (no9 rfl hrun).elim
  | succ n_116 ih9 =>
    intro v5_116 p0w_116 p3w_116 p3_2w_116 p3_2n_116 o9q hrun
    unfold fX4_make_L116 at hrun
    rcases br9 hrun with ⟨hc27, hrun⟩ | ⟨hc27, hrun⟩
    · skip
      obtain rfl := (Option.some.inj hrun)
      exact (glX9_rf _)
    · skip
      obtain ⟨o_28, hc_28, hrun⟩ := bnd9 hrun
      exact (glX9_tr (mo_fX4_fillBlock hc_28) (mo_fX4_make_G134_39 ih9 hrun))
def fX4_make_G140_40 (o_7 : ST × ST × SL) (o_8 : ST × RI) (o_10 : SL) (t73 : ST × ST × (Nat → Nat) × (Nat → Nat)) (o116 : ST × ST × ST × (Nat → Nat)) : Option (Int32 × ST × SL × ST × SL × (Nat → Nat) × ST × (Nat → Nat) × ST) := ((fX4_fillPhis (o116.1) (t73.2.2.1) (o116.2.1)).bind fun (o_41 : ST) => some (1, (o116.1), o_10, o_41, (o_7.2.2), (t73.2.2.1), (o116.2.2.1), (o116.2.2.2), (o_8.1)))
theorem mo_fX4_make_G140_40 {o_7 : ST × ST × SL} {o_8 : ST × RI} {o_10 : SL} {t73 : ST × ST × (Nat → Nat) × (Nat → Nat)} {o116 : ST × ST × ST × (Nat → Nat)} {o9q : Int32 × ST × SL × ST × SL × (Nat → Nat) × ST × (Nat → Nat) × ST} (hrun : fX4_make_G140_40 o_7 o_8 o_10 t73 o116 = some o9q) : (glX1 (t73.2.2.1) (o9q.2.2.2.2.2.1)) ∧ (glX9 (o116.2.2.2) (o9q.2.2.2.2.2.2.2.1)) := by
  unfold fX4_make_G140_40 at hrun
  obtain ⟨o_41, hc_41, hrun⟩ := bnd9 hrun
  obtain rfl := (Option.some.inj hrun)
  exact ⟨(glX1_rf _), (glX9_rf _)⟩
def fX4_make_G102_23 (p1w : ST) (p2 : Int32) (o_1 : ST × ST) (o_7 : ST × ST × SL) (o_8 : ST × RI) (o_10 : SL) (t73 : ST × ST × (Nat → Nat) × (Nat → Nat)) : Option (Int32 × ST × SL × ST × SL × (Nat → Nat) × ST × (Nat → Nat) × ST) := ((fX4_numberValues (t73.1) p1w (t73.2.2.1) (t73.2.1)).bind fun (o_24 : Int32 × ST × ST) => (if (o_24.1) = 0 then some (0, (o_24.2.1), o_10, (o_24.2.2), (o_7.2.2), (t73.2.2.1), (o_1.2), (t73.2.2.2), (o_8.1)) else ((fX4_make_L116 p1w p2 t73 NF 0 (o_24.2.1) (o_24.2.2) (o_1.2) (t73.2.2.2)).bind fun (o116 : ST × ST × ST × (Nat → Nat)) => (fX4_make_G140_40 o_7 o_8 o_10 t73 o116))))
theorem mo_fX4_make_G102_23 {p1w : ST} {p2 : Int32} {o_1 : ST × ST} {o_7 : ST × ST × SL} {o_8 : ST × RI} {o_10 : SL} {t73 : ST × ST × (Nat → Nat) × (Nat → Nat)} {o9q : Int32 × ST × SL × ST × SL × (Nat → Nat) × ST × (Nat → Nat) × ST} (hrun : fX4_make_G102_23 p1w p2 o_1 o_7 o_8 o_10 t73 = some o9q) : (glX1 (t73.2.2.1) (o9q.2.2.2.2.2.1)) ∧ (glX9 (t73.2.2.2) (o9q.2.2.2.2.2.2.2.1)) := by
  unfold fX4_make_G102_23 at hrun
  obtain ⟨o_24, hc_24, hrun⟩ := bnd9 hrun
  rcases br9 hrun with ⟨hc26, hrun⟩ | ⟨hc26, hrun⟩
  · skip
    obtain rfl := (Option.some.inj hrun)
    exact ⟨(glX1_rf _), (glX9_rf _)⟩
  · skip
    obtain ⟨o116, hc116, hrun⟩ := bnd9 hrun
    exact ⟨((mo_fX4_make_G140_40 hrun).1), (glX9_tr (mo_fX4_make_L116 _ _ _ _ _ _ _ hc116) ((mo_fX4_make_G140_40 hrun).2))⟩
def fX4_make (p0w : ST) (p0l : SL) (p1w : ST) (p2 : Int32) (p3n : Nat → Nat) (p3w : ST) (p3l : SL) (p3_2n : Nat → Nat) (p3_2w : ST) (p0_0w : ST) : Option (Int32 × ST × SL × ST × SL × (Nat → Nat) × ST × (Nat → Nat) × ST) := ((fX1_clear p3w p3_2w).bind fun (o_1 : ST × ST) => ((fX4_cutPieces p0w p1w p2).bind fun (o_2 : ST) => ((fX4_linkOperands o_2 p1w p2).bind fun (o_3 : ST) => ((fX4_layBlocks o_3 (o_1.1)).bind fun (o_4 : Int32 × ST × ST) => (if (o_4.1) = 0 then some (0, (o_4.2.1), p0l, (o_4.2.2), p3l, p3n, (o_1.2), p3_2n, p0_0w) else ((fX8_renumber p0_0w p3n (o_4.2.2) p3l).bind fun (o_7 : ST × ST × SL) => ((fX8_move (o_7.1) 60 ((o_4.2.1) 15) ((o_4.2.2) 0 0) ((o_7.2.1) 0 0)).bind fun (o_8 : ST × RI) => ((fX4_noteVariables (srw (o_4.2.1) 15 (o_8.2)) p0l p1w (o_7.2.1)).bind fun (o_9 : SL) => ((fX4_findBorders o_9 (o_7.2.1) (o_7.2.2)).bind fun (o_10 : SL) => ((fX4_make_L73 p1w p2 o_1 o_7 o_8 o_10 NF 0 (srw (o_4.2.1) 15 (o_8.2)) (o_7.2.1) p3n p3_2n).bind fun (o73 : (Sum (Int32 × ST × SL × ST × SL × (Nat → Nat) × ST × (Nat → Nat) × ST) (ST × ST × (Nat → Nat) × (Nat → Nat)))) => Sum.elim (fun r => some r) (fun (t73 : ST × ST × (Nat → Nat) × (Nat → Nat)) => (fX4_make_G102_23 p1w p2 o_1 o_7 o_8 o_10 t73)) o73))))))))))
theorem mo_fX4_make {p0w : ST} {p0l : SL} {p1w : ST} {p2 : Int32} {p3n : Nat → Nat} {p3w : ST} {p3l : SL} {p3_2n : Nat → Nat} {p3_2w : ST} {p0_0w : ST} {o9q : Int32 × ST × SL × ST × SL × (Nat → Nat) × ST × (Nat → Nat) × ST} (hrun : fX4_make p0w p0l p1w p2 p3n p3w p3l p3_2n p3_2w p0_0w = some o9q) : (glX1 p3n (o9q.2.2.2.2.2.1)) ∧ (glX9 p3_2n (o9q.2.2.2.2.2.2.2.1)) := by
  unfold fX4_make at hrun
  obtain ⟨o_1, hc_1, hrun⟩ := bnd9 hrun
  obtain ⟨o_2, hc_2, hrun⟩ := bnd9 hrun
  obtain ⟨o_3, hc_3, hrun⟩ := bnd9 hrun
  obtain ⟨o_4, hc_4, hrun⟩ := bnd9 hrun
  rcases br9 hrun with ⟨hc6, hrun⟩ | ⟨hc6, hrun⟩
  · skip
    obtain rfl := (Option.some.inj hrun)
    exact ⟨(glX1_rf _), (glX9_rf _)⟩
  · skip
    obtain ⟨o_7, hc_7, hrun⟩ := bnd9 hrun
    obtain ⟨o_8, hc_8, hrun⟩ := bnd9 hrun
    obtain ⟨o_9, hc_9, hrun⟩ := bnd9 hrun
    obtain ⟨o_10, hc_10, hrun⟩ := bnd9 hrun
    obtain ⟨o73, hc73, hrun⟩ := bnd9 hrun
    rcases o73 with r7 | t73
    · obtain rfl := (Option.some.inj hrun); exact ⟨((mo_fX4_make_L73 _ _ _ _ _ _ _ hc73).1), ((mo_fX4_make_L73 _ _ _ _ _ _ _ hc73).2)⟩
    replace hrun := el9 hrun
    exact ⟨(glX1_tr ((mo_fX4_make_L73 _ _ _ _ _ _ _ hc73).1) ((mo_fX4_make_G102_23 hrun).1)), (glX9_tr ((mo_fX4_make_L73 _ _ _ _ _ _ _ hc73).2) ((mo_fX4_make_G102_23 hrun).2))⟩
set_option maxHeartbeats 16000000 in
set_option maxRecDepth 100000 in
theorem kX4_make {zs : ZS} (l : Launch) (dC : Nat → ClassId) (dI : Nat → Nat → Nat) (p0a : Nat → Nat) (p0k : Nat → ClassId) (p0w : ST) (p0l : SL) (p1a : Nat → Nat) (p1k : Nat → ClassId) (p1w : ST) (p1l : SL) (p2 : Int32) (p3a : Nat → Nat) (p3k : Nat → ClassId) (p3n : Nat → Nat) (p3w : ST) (p3l : SL) (p3_2a : Nat → Nat) (p3_2k : Nat → ClassId) (p3_2n : Nat → Nat) (p3_2w : ST) (p0_0a : Nat → Nat) (p0_0k : Nat → ClassId) (p0_0w : ST) (sz : Nat) (o : Int32 × ST × SL × ST × SL × (Nat → Nat) × ST × (Nat → Nat) × ST) (hrun : fX4_make p0w p0l p1w p2 p3n p3w p3l p3_2n p3_2w p0_0w = some o) : Met l yX4_make (wz yX4_make cX4_make 6 (Option.some Jvm.ClassFile.FieldType.boolean)) ({ frames := 6, cells := (hcX1 p3n (o.2.2.2.2.2.1) + hcX9 p3_2n (o.2.2.2.2.2.2.2.1)), slots := (3 * (gcX1 p3n (o.2.2.2.2.2.1) + gcX9 p3_2n (o.2.2.2.2.2.2.2.1))), locals := 168 } : Room) (va_Pc [.ref (p0a 0), .ref (p1a 0), .int p2, .ref (p3a 0)] (PRE zs dC dI (List.flatten ([(oX4 (p0a 0) p0a p0k p0w p0l), (oX6 (p1a 0) p1a p1k p1w p1l), (oX1 (p3a 0) p3a p3k p3n p3w p3l), (oX9 (p3a 3) p3_2a p3_2k p3_2n p3_2w), (oX8 (p0a 1) p0_0a p0_0k p0_0w)] : List va_W)) (List.flatten ([(tX4 p0k), (tX6 p1k), (tX1 p3k), (tX9 p3_2k), (tX8 p0_0k)] : List (List (ClassId × FieldType)))) sz)) (va_Qi (fun (r : Int32) (_ : Unit) => r = (o.1)) (fun _ t => ∃ (xp3_18_z : Nat), ∃ (zp3_18_z : ClassId), ∃ (xp3_19_z : Nat), ∃ (zp3_19_z : ClassId), ∃ (xp3_20_z : Nat), ∃ (zp3_20_z : ClassId), ∃ (xp3_2_1_z : Nat), ∃ (zp3_2_1_z : ClassId), ∃ (xp3_2_2_z : Nat), ∃ (zp3_2_2_z : ClassId), ∃ (xp3_2_3_z : Nat), ∃ (zp3_2_3_z : ClassId), ∃ (xp3_2_4_z : Nat), ∃ (zp3_2_4_z : ClassId), ∃ (xp3_2_5_z : Nat), ∃ (zp3_2_5_z : ClassId), POST dC dI (List.flatten ([(oX4 (p0a 0) p0a p0k (o.2.1) (o.2.2.1)), (oX6 (p1a 0) p1a p1k p1w p1l), (oX1 (p3a 0) (st1 (st1 (st1 p3a 19 xp3_18_z) 20 xp3_19_z) 21 xp3_20_z) (st1 (st1 (st1 p3k 19 zp3_18_z) 20 zp3_19_z) 21 zp3_20_z) (o.2.2.2.2.2.1) (o.2.2.2.1) (o.2.2.2.2.1)), (oX9 (p3a 3) (st1 (st1 (st1 (st1 (st1 p3_2a 2 xp3_2_1_z) 3 xp3_2_2_z) 4 xp3_2_3_z) 5 xp3_2_4_z) 6 xp3_2_5_z) (st1 (st1 (st1 (st1 (st1 p3_2k 2 zp3_2_1_z) 3 zp3_2_2_z) 4 zp3_2_3_z) 5 zp3_2_4_z) 6 zp3_2_5_z) (o.2.2.2.2.2.2.2.1) (o.2.2.2.2.2.2.1)), (oX8 (p0a 1) p0_0a p0_0k (o.2.2.2.2.2.2.2.2))] : List va_W)) (List.flatten ([(tX4 p0k), (tX6 p1k), (tX1 (st1 (st1 (st1 p3k 19 zp3_18_z) 20 zp3_19_z) 21 zp3_20_z)), (tX9 (st1 (st1 (st1 (st1 (st1 p3_2k 2 zp3_2_1_z) 3 zp3_2_2_z) 4 zp3_2_3_z) 5 zp3_2_4_z) 6 zp3_2_5_z)), (tX8 p0_0k)] : List (List (ClassId × FieldType)))) (va_A (List.flatten ([(oX4 (p0a 0) p0a p0k p0w p0l), (oX6 (p1a 0) p1a p1k p1w p1l), (oX1 (p3a 0) p3a p3k p3n p3w p3l), (oX9 (p3a 3) p3_2a p3_2k p3_2n p3_2w), (oX8 (p0a 1) p0_0a p0_0k p0_0w)] : List va_W)) sz) t) (va_A (List.flatten ([(oX4 (p0a 0) p0a p0k p0w p0l), (oX6 (p1a 0) p1a p1k p1w p1l), (oX1 (p3a 0) p3a p3k p3n p3w p3l), (oX9 (p3a 3) p3_2a p3_2k p3_2n p3_2w), (oX8 (p0a 1) p0_0a p0_0k p0_0w)] : List va_W)) sz)) (hcX1 p3n (o.2.2.2.2.2.1) + hcX9 p3_2n (o.2.2.2.2.2.2.2.1)) (3 * (gcX1 p3n (o.2.2.2.2.2.1) + gcX9 p3_2n (o.2.2.2.2.2.2.2.1))) (va_A (List.flatten ([(oX4 (p0a 0) p0a p0k p0w p0l), (oX6 (p1a 0) p1a p1k p1w p1l), (oX1 (p3a 0) p3a p3k p3n p3w p3l), (oX9 (p3a 3) p3_2a p3_2k p3_2n p3_2w), (oX8 (p0a 1) p0_0a p0_0k p0_0w)] : List va_W)) sz) := by
  refine Met.ofW (cc := cX4_make) (maxL := 6) (ret := (Option.some Jvm.ClassFile.FieldType.boolean)) (by decide) rfl ?_
  intro p e s m args below meth c s₁ B hml hv
  obtain ⟨rfl, hsz, hP, hK, hD0, hE⟩ := hv
  have hx := B.exec
  have hb := B.bytes
  have hr := B.returns
  have hts0 := atoms_spec (ws := wz yX4_make cX4_make 6 (Option.some Jvm.ClassFile.FieldType.boolean)) B.pre
  have hts : ∀ w ∈ gw, w.before _ s = true := fun w h => hts0 w (List.mem_cons_of_mem _ h)
  have hown : s.vm.findClass RX4 = some m.cls := findClass_of_methodNamed B.named
  have hlocks := B.notSynchronized
  subst hsz
  have hD := hD0.self (sz := s.heap.size)
  refine gQ9 ?_
  intro Q hQ
  generalize hAe : va_A (List.flatten ([(oX4 (p0a 0) p0a p0k p0w p0l), (oX6 (p1a 0) p1a p1k p1w p1l), (oX1 (p3a 0) p3a p3k p3n p3w p3l), (oX9 (p3a 3) p3_2a p3_2k p3_2n p3_2w), (oX8 (p0a 1) p0_0a p0_0k p0_0w)] : List va_W)) s.heap.size = A at hD hE hQ
  have hA : ∀ q : Nat, s.heap.size ≤ q → A q := fun q h => by rw [← hAe]; exact Or.inr h
  have hS : va_S A s.heap s.heap [] := va_S.rf
  have hP : va_P (dC, dI) cls (List.flatten ([(oX4 (p0a 0) p0a p0k p0w p0l), (oX6 (p1a 0) p1a p1k p1w p1l), (oX1 (p3a 0) p3a p3k p3n p3w p3l), (oX9 (p3a 3) p3_2a p3_2k p3_2n p3_2w), (oX8 (p0a 1) p0_0a p0_0k p0_0w)] : List va_W)) s.heap := hP
  have hl := lv_entry ([.ref (p0a 0), .ref (p1a 0), .int p2, .ref (p3a 0)]) (n := 6) (Nat.le_of_ble_eq_true rfl)
  rw [lg_entry_eq]
  generalize (lg_sl ([.ref (p0a 0), .ref (p1a 0), .int p2, .ref (p3a 0)]) ++ List.replicate (6 - (lg_sl ([.ref (p0a 0), .ref (p1a 0), .int p2, .ref (p3a 0)])).length) Slot.unset).toArray = ls at hl ⊢
  have hl : lv_has ls 6 [(0, .ref (p0a 0)), (1, .ref (p1a 0)), (2, .int p2), (3, .ref (p3a 0))] := hl
  obtain ⟨H, hHe⟩ : ∃ H, H = s.heap := ⟨_, rfl⟩
  obtain ⟨locs, hle⟩ : ∃ locs : List Loc, locs = [] := ⟨_, rfl⟩
  rw [← hHe] at hP
  have hS : va_S A s.heap H locs := by rw [hHe, hle]; exact hS
  show W p l e ({ frames := 6, cells := (hcX1 p3n (o.2.2.2.2.2.1) + hcX9 p3_2n (o.2.2.2.2.2.2.2.1)), slots := (3 * (gcX1 p3n (o.2.2.2.2.2.1) + gcX9 p3_2n (o.2.2.2.2.2.2.2.1))), locals := 168 } : Room) s m ([.ref (p0a 0), .ref (p1a 0), .int p2, .ref (p3a 0)] : List Value).toArray below meth c s.heap [] 0 0 Q (F0 m 0 ls [])
  rw [← hle]
  refine wH9 hHe ?_
  have hg_p3 := glX1_rf p3n
  have hg_p3_2 := glX9_rf p3_2n
  have hgn_p3 : glX1 p3n (o.2.2.2.2.2.1) := ((mo_fX4_make hrun).1)
  have hgn_p3_2 : glX9 p3_2n (o.2.2.2.2.2.2.2.1) := ((mo_fX4_make hrun).2)
  refine W.widen (k := (hcX1 p3n p3n + hcX9 p3_2n p3_2n)) (n := (3 * (gcX1 p3n p3n + gcX9 p3_2n p3_2n))) (Nat.zero_le _) (Nat.zero_le _) ?_
  unfold fX4_make at hrun
  refine lv_aload_n hx hb dX4_make_0 rfl (lv_at hl 3 rfl) ?_
  obtain ⟨o_1, hc_1, hrun⟩ := bnd9 hrun
  have hPx : va_P (dC, dI) cls ((List.flatten ([(oX1 (p3a 0) p3a p3k p3n p3w p3l), (oX9 (p3a 3) p3_2a p3_2k p3_2n p3_2w)] : List va_W)) ++ (List.flatten ([(oX4 (p0a 0) p0a p0k p0w p0l), (oX6 (p1a 0) p1a p1k p1w p1l), (oX8 (p0a 1) p0_0a p0_0k p0_0w)] : List va_W))) H := vP_fa (vP_perm hP (bP (((((((((List.Perm.refl _)).cons _).trans (List.Perm.swap _ _ _))).cons _).trans (List.Perm.swap _ _ _))).trans (((((((((List.Perm.refl _)).cons _).trans (List.Perm.swap _ _ _))).cons _).trans (List.Perm.swap _ _ _))).cons _))))
  have hDx : va_D A ((List.flatten ([(oX1 (p3a 0) p3a p3k p3n p3w p3l), (oX9 (p3a 3) p3_2a p3_2k p3_2n p3_2w)] : List va_W)) ++ (List.flatten ([(oX4 (p0a 0) p0a p0k p0w p0l), (oX6 (p1a 0) p1a p1k p1w p1l), (oX8 (p0a 1) p0_0a p0_0k p0_0w)] : List va_W))) := vD_fa (vD_perm hD (bP (((((((((List.Perm.refl _)).cons _).trans (List.Perm.swap _ _ _))).cons _).trans (List.Perm.swap _ _ _))).trans (((((((((List.Perm.refl _)).cons _).trans (List.Perm.swap _ _ _))).cons _).trans (List.Perm.swap _ _ _))).cons _))))
  have hKx : va_K (dC, dI) cls ((List.flatten ([(tX1 p3k), (tX9 p3_2k)] : List (List (ClassId × FieldType)))) ++ (List.flatten ([(tX4 p0k), (tX6 p1k), (tX8 p0_0k)] : List (List (ClassId × FieldType))))) s := vK_fa (vK_perm hK (bP (((((((((List.Perm.refl _)).cons _).trans (List.Perm.swap _ _ _))).cons _).trans (List.Perm.swap _ _ _))).trans (((((((((List.Perm.refl _)).cons _).trans (List.Perm.swap _ _ _))).cons _).trans (List.Perm.swap _ _ _))).cons _))))
  have hPc := vP_l hPx
  have hDc := vD_l hDx
  have hKc := vK_l hKx
  have hFc := vfree hDx hS hA
  refine va_callv (va_runV (As := []) (rest := []) ⟨hx, hb, hml, hown, hts⟩ (kX1_clear l dC dI (p0a := p3a) (p0k := p3k) (p0n := p3n) (p0w := p3w) (p0l := p3l) (p0_2a := p3_2a) (p0_2k := p3_2k) (p0_2n := p3_2n) (p0_2w := p3_2w) (sz := _) (o := o_1) (hrun := hc_1)) (cwV 0 hts (gi_V qw365 qw147 qw148 qw126 (gi_z qw145)) rfl rfl rfl (by decide +kernel) ⟨Nat.le_of_ble_eq_true rfl, Nat.le_of_ble_eq_true rfl⟩) ⟨PRE.blind, va_recv hKc hPc (ci := 4) (q0 := 0) rfl rfl, PRE.of hE hS hFc hPc hKc hDc⟩ rfl rfl hl.1 rfl (lv_room (Nat.le_of_ble_eq_true rfl)) dX4_make_1 ⟨(show (hcX1 p3n p3n + hcX9 p3_2n p3_2n) + 0 ≤ (hcX1 p3n (o.2.2.2.2.2.1) + hcX9 p3_2n (o.2.2.2.2.2.2.2.1)) from by have q0 := gmX1 hg_p3 hgn_p3; have q1 := gmX9 hg_p3_2 hgn_p3_2; omega), (show (3 * (gcX1 p3n p3n + gcX9 p3_2n p3_2n)) + 0 ≤ (3 * (gcX1 p3n (o.2.2.2.2.2.1) + gcX9 p3_2n (o.2.2.2.2.2.2.2.1))) from by have q0 := gmX1 hg_p3 hgn_p3; have q1 := gmX9 hg_p3_2 hgn_p3_2; omega)⟩) hS (fun q _ h => hFc q h) hFc (fun u t H locs ht hvm hw hB hz1 hk1 hS => ?_)
  obtain ⟨b1, b2, b3⟩ := hB
  rw [ht] at b1
  obtain ⟨hP, hD, hK⟩ := JOINC (wc := (List.flatten ([(oX1 (p3a 0) p3a p3k p3n p3w p3l), (oX9 (p3a 3) p3_2a p3_2k p3_2n p3_2w)] : List va_W))) (wr := (List.flatten ([(oX4 (p0a 0) p0a p0k p0w p0l), (oX6 (p1a 0) p1a p1k p1w p1l), (oX8 (p0a 1) p0_0a p0_0k p0_0w)] : List va_W))) (w1 := (List.flatten ([(oX1 (p3a 0) p3a p3k p3n (o_1.1) p3l), (oX9 (p3a 3) p3_2a p3_2k p3_2n (o_1.2))] : List va_W))) (t1 := (List.flatten ([(tX1 p3k), (tX9 p3_2k)] : List (List (ClassId × FieldType))))) hPx hDx hKx hk1 hFc b1 (va_K.moved hvm.symm b2) b3
  have hP : va_P (dC, dI) cls (List.flatten ([(oX4 (p0a 0) p0a p0k p0w p0l), (oX6 (p1a 0) p1a p1k p1w p1l), (oX1 (p3a 0) p3a p3k p3n (o_1.1) p3l), (oX9 (p3a 3) p3_2a p3_2k p3_2n (o_1.2)), (oX8 (p0a 1) p0_0a p0_0k p0_0w)] : List va_W)) H := vP_perm (vP_fb hP) (bP (((((((((List.Perm.refl _)).cons _).trans (List.Perm.swap _ _ _))).cons _).trans (List.Perm.swap _ _ _))).trans (((((((((List.Perm.refl _)).cons _).trans (List.Perm.swap _ _ _))).cons _).trans (List.Perm.swap _ _ _))).cons _)))
  have hD : va_D A (List.flatten ([(oX4 (p0a 0) p0a p0k p0w p0l), (oX6 (p1a 0) p1a p1k p1w p1l), (oX1 (p3a 0) p3a p3k p3n (o_1.1) p3l), (oX9 (p3a 3) p3_2a p3_2k p3_2n (o_1.2)), (oX8 (p0a 1) p0_0a p0_0k p0_0w)] : List va_W)) := vD_perm (vD_fb hD) (bP (((((((((List.Perm.refl _)).cons _).trans (List.Perm.swap _ _ _))).cons _).trans (List.Perm.swap _ _ _))).trans (((((((((List.Perm.refl _)).cons _).trans (List.Perm.swap _ _ _))).cons _).trans (List.Perm.swap _ _ _))).cons _)))
  have hK : va_K (dC, dI) cls (List.flatten ([(tX4 p0k), (tX6 p1k), (tX1 p3k), (tX9 p3_2k), (tX8 p0_0k)] : List (List (ClassId × FieldType)))) s := vK_perm (vK_fb hK) (bP (((((((((List.Perm.refl _)).cons _).trans (List.Perm.swap _ _ _))).cons _).trans (List.Perm.swap _ _ _))).trans (((((((((List.Perm.refl _)).cons _).trans (List.Perm.swap _ _ _))).cons _).trans (List.Perm.swap _ _ _))).cons _)))
  refine lv_aload_n hx hb dX4_make_4 rfl (lv_at hl 0 rfl) ?_
  refine lv_aload_n hx hb dX4_make_5 rfl (lv_at hl 1 rfl) ?_
  refine lv_iload_n hx hb dX4_make_6 rfl (lv_at hl 2 rfl) ?_
  obtain ⟨o_2, hc_2, hrun⟩ := bnd9 hrun
  have hPx : va_P (dC, dI) cls ((List.flatten ([(oX4 (p0a 0) p0a p0k p0w p0l), (oX6 (p1a 0) p1a p1k p1w p1l)] : List va_W)) ++ (List.flatten ([(oX1 (p3a 0) p3a p3k p3n (o_1.1) p3l), (oX9 (p3a 3) p3_2a p3_2k p3_2n (o_1.2)), (oX8 (p0a 1) p0_0a p0_0k p0_0w)] : List va_W))) H := vP_fa (vP_perm hP (bP (List.Perm.refl _)))
  have hDx : va_D A ((List.flatten ([(oX4 (p0a 0) p0a p0k p0w p0l), (oX6 (p1a 0) p1a p1k p1w p1l)] : List va_W)) ++ (List.flatten ([(oX1 (p3a 0) p3a p3k p3n (o_1.1) p3l), (oX9 (p3a 3) p3_2a p3_2k p3_2n (o_1.2)), (oX8 (p0a 1) p0_0a p0_0k p0_0w)] : List va_W))) := vD_fa (vD_perm hD (bP (List.Perm.refl _)))
  have hKx : va_K (dC, dI) cls ((List.flatten ([(tX4 p0k), (tX6 p1k)] : List (List (ClassId × FieldType)))) ++ (List.flatten ([(tX1 p3k), (tX9 p3_2k), (tX8 p0_0k)] : List (List (ClassId × FieldType))))) s := vK_fa (vK_perm hK (bP (List.Perm.refl _)))
  have hPc := vP_l hPx
  have hDc := vD_l hDx
  have hKc := vK_l hKx
  have hFc := vfree hDx hS hA
  refine va_callv (va_runV (As := [.ref (p1a 0), .int p2]) (rest := []) ⟨hx, hb, hml, hown, hts⟩ (kX4_cutPieces l dC dI (p0a := p0a) (p0k := p0k) (p0w := p0w) (p0l := p0l) (p1a := p1a) (p1k := p1k) (p1w := p1w) (p1l := p1l) (p2 := p2) (sz := _) (o := o_2) (hrun := hc_2)) (cwV 2 hts (gi_V qw367 qw368 qw369 qw270 (gi_z qw366)) rfl rfl rfl (by decide +kernel) ⟨Nat.le_of_ble_eq_true rfl, Nat.le_of_ble_eq_true rfl⟩) ⟨PRE.blind, va_recv hKc hPc (ci := 6) (q0 := 0) rfl rfl, PRE.of hE hS hFc hPc hKc hDc⟩ rfl rfl hl.1 rfl (lv_room (Nat.le_of_ble_eq_true rfl)) dX4_make_7 ⟨(show (hcX1 p3n p3n + hcX9 p3_2n p3_2n) + 0 ≤ (hcX1 p3n (o.2.2.2.2.2.1) + hcX9 p3_2n (o.2.2.2.2.2.2.2.1)) from by have q0 := gmX1 hg_p3 hgn_p3; have q1 := gmX9 hg_p3_2 hgn_p3_2; omega), (show (3 * (gcX1 p3n p3n + gcX9 p3_2n p3_2n)) + 0 ≤ (3 * (gcX1 p3n (o.2.2.2.2.2.1) + gcX9 p3_2n (o.2.2.2.2.2.2.2.1))) from by have q0 := gmX1 hg_p3 hgn_p3; have q1 := gmX9 hg_p3_2 hgn_p3_2; omega)⟩) hS (fun q _ h => hFc q h) hFc (fun u t H locs ht hvm hw hB hz1 hk1 hS => ?_)
  obtain ⟨b1, b2, b3⟩ := hB
  rw [ht] at b1
  obtain ⟨hP, hD, hK⟩ := JOINC (wc := (List.flatten ([(oX4 (p0a 0) p0a p0k p0w p0l), (oX6 (p1a 0) p1a p1k p1w p1l)] : List va_W))) (wr := (List.flatten ([(oX1 (p3a 0) p3a p3k p3n (o_1.1) p3l), (oX9 (p3a 3) p3_2a p3_2k p3_2n (o_1.2)), (oX8 (p0a 1) p0_0a p0_0k p0_0w)] : List va_W))) (w1 := (List.flatten ([(oX4 (p0a 0) p0a p0k o_2 p0l), (oX6 (p1a 0) p1a p1k p1w p1l)] : List va_W))) (t1 := (List.flatten ([(tX4 p0k), (tX6 p1k)] : List (List (ClassId × FieldType))))) hPx hDx hKx hk1 hFc b1 (va_K.moved hvm.symm b2) b3
  have hP : va_P (dC, dI) cls (List.flatten ([(oX4 (p0a 0) p0a p0k o_2 p0l), (oX6 (p1a 0) p1a p1k p1w p1l), (oX1 (p3a 0) p3a p3k p3n (o_1.1) p3l), (oX9 (p3a 3) p3_2a p3_2k p3_2n (o_1.2)), (oX8 (p0a 1) p0_0a p0_0k p0_0w)] : List va_W)) H := vP_perm (vP_fb hP) (bP (List.Perm.refl _))
  have hD : va_D A (List.flatten ([(oX4 (p0a 0) p0a p0k o_2 p0l), (oX6 (p1a 0) p1a p1k p1w p1l), (oX1 (p3a 0) p3a p3k p3n (o_1.1) p3l), (oX9 (p3a 3) p3_2a p3_2k p3_2n (o_1.2)), (oX8 (p0a 1) p0_0a p0_0k p0_0w)] : List va_W)) := vD_perm (vD_fb hD) (bP (List.Perm.refl _))
  have hK : va_K (dC, dI) cls (List.flatten ([(tX4 p0k), (tX6 p1k), (tX1 p3k), (tX9 p3_2k), (tX8 p0_0k)] : List (List (ClassId × FieldType)))) s := vK_perm (vK_fb hK) (bP (List.Perm.refl _))
  refine lv_aload_n hx hb dX4_make_10 rfl (lv_at hl 0 rfl) ?_
  refine lv_aload_n hx hb dX4_make_11 rfl (lv_at hl 1 rfl) ?_
  refine lv_iload_n hx hb dX4_make_12 rfl (lv_at hl 2 rfl) ?_
  obtain ⟨o_3, hc_3, hrun⟩ := bnd9 hrun
  have hPx : va_P (dC, dI) cls ((List.flatten ([(oX4 (p0a 0) p0a p0k o_2 p0l), (oX6 (p1a 0) p1a p1k p1w p1l)] : List va_W)) ++ (List.flatten ([(oX1 (p3a 0) p3a p3k p3n (o_1.1) p3l), (oX9 (p3a 3) p3_2a p3_2k p3_2n (o_1.2)), (oX8 (p0a 1) p0_0a p0_0k p0_0w)] : List va_W))) H := vP_fa (vP_perm hP (bP (List.Perm.refl _)))
  have hDx : va_D A ((List.flatten ([(oX4 (p0a 0) p0a p0k o_2 p0l), (oX6 (p1a 0) p1a p1k p1w p1l)] : List va_W)) ++ (List.flatten ([(oX1 (p3a 0) p3a p3k p3n (o_1.1) p3l), (oX9 (p3a 3) p3_2a p3_2k p3_2n (o_1.2)), (oX8 (p0a 1) p0_0a p0_0k p0_0w)] : List va_W))) := vD_fa (vD_perm hD (bP (List.Perm.refl _)))
  have hKx : va_K (dC, dI) cls ((List.flatten ([(tX4 p0k), (tX6 p1k)] : List (List (ClassId × FieldType)))) ++ (List.flatten ([(tX1 p3k), (tX9 p3_2k), (tX8 p0_0k)] : List (List (ClassId × FieldType))))) s := vK_fa (vK_perm hK (bP (List.Perm.refl _)))
  have hPc := vP_l hPx
  have hDc := vD_l hDx
  have hKc := vK_l hKx
  have hFc := vfree hDx hS hA
  refine va_callv (va_runV (As := [.ref (p1a 0), .int p2]) (rest := []) ⟨hx, hb, hml, hown, hts⟩ (kX4_linkOperands l dC dI (p0a := p0a) (p0k := p0k) (p0w := o_2) (p0l := p0l) (p1a := p1a) (p1k := p1k) (p1w := p1w) (p1l := p1l) (p2 := p2) (sz := _) (o := o_3) (hrun := hc_3)) (cwV 2 hts (gi_V qw371 qw372 qw373 qw270 (gi_z qw370)) rfl rfl rfl (by decide +kernel) ⟨Nat.le_of_ble_eq_true rfl, Nat.le_of_ble_eq_true rfl⟩) ⟨PRE.blind, va_recv hKc hPc (ci := 6) (q0 := 0) rfl rfl, PRE.of hE hS hFc hPc hKc hDc⟩ rfl rfl hl.1 rfl (lv_room (Nat.le_of_ble_eq_true rfl)) dX4_make_13 ⟨(show (hcX1 p3n p3n + hcX9 p3_2n p3_2n) + 0 ≤ (hcX1 p3n (o.2.2.2.2.2.1) + hcX9 p3_2n (o.2.2.2.2.2.2.2.1)) from by have q0 := gmX1 hg_p3 hgn_p3; have q1 := gmX9 hg_p3_2 hgn_p3_2; omega), (show (3 * (gcX1 p3n p3n + gcX9 p3_2n p3_2n)) + 0 ≤ (3 * (gcX1 p3n (o.2.2.2.2.2.1) + gcX9 p3_2n (o.2.2.2.2.2.2.2.1))) from by have q0 := gmX1 hg_p3 hgn_p3; have q1 := gmX9 hg_p3_2 hgn_p3_2; omega)⟩) hS (fun q _ h => hFc q h) hFc (fun u t H locs ht hvm hw hB hz1 hk1 hS => ?_)
  obtain ⟨b1, b2, b3⟩ := hB
  rw [ht] at b1
  obtain ⟨hP, hD, hK⟩ := JOINC (wc := (List.flatten ([(oX4 (p0a 0) p0a p0k o_2 p0l), (oX6 (p1a 0) p1a p1k p1w p1l)] : List va_W))) (wr := (List.flatten ([(oX1 (p3a 0) p3a p3k p3n (o_1.1) p3l), (oX9 (p3a 3) p3_2a p3_2k p3_2n (o_1.2)), (oX8 (p0a 1) p0_0a p0_0k p0_0w)] : List va_W))) (w1 := (List.flatten ([(oX4 (p0a 0) p0a p0k o_3 p0l), (oX6 (p1a 0) p1a p1k p1w p1l)] : List va_W))) (t1 := (List.flatten ([(tX4 p0k), (tX6 p1k)] : List (List (ClassId × FieldType))))) hPx hDx hKx hk1 hFc b1 (va_K.moved hvm.symm b2) b3
  have hP : va_P (dC, dI) cls (List.flatten ([(oX4 (p0a 0) p0a p0k o_3 p0l), (oX6 (p1a 0) p1a p1k p1w p1l), (oX1 (p3a 0) p3a p3k p3n (o_1.1) p3l), (oX9 (p3a 3) p3_2a p3_2k p3_2n (o_1.2)), (oX8 (p0a 1) p0_0a p0_0k p0_0w)] : List va_W)) H := vP_perm (vP_fb hP) (bP (List.Perm.refl _))
  have hD : va_D A (List.flatten ([(oX4 (p0a 0) p0a p0k o_3 p0l), (oX6 (p1a 0) p1a p1k p1w p1l), (oX1 (p3a 0) p3a p3k p3n (o_1.1) p3l), (oX9 (p3a 3) p3_2a p3_2k p3_2n (o_1.2)), (oX8 (p0a 1) p0_0a p0_0k p0_0w)] : List va_W)) := vD_perm (vD_fb hD) (bP (List.Perm.refl _))
  have hK : va_K (dC, dI) cls (List.flatten ([(tX4 p0k), (tX6 p1k), (tX1 p3k), (tX9 p3_2k), (tX8 p0_0k)] : List (List (ClassId × FieldType)))) s := vK_perm (vK_fb hK) (bP (List.Perm.refl _))
  refine lv_aload_n hx hb dX4_make_16 rfl (lv_at hl 0 rfl) ?_
  refine lv_aload_n hx hb dX4_make_17 rfl (lv_at hl 1 rfl) ?_
  refine lv_aload_n hx hb dX4_make_18 rfl (lv_at hl 3 rfl) ?_
  obtain ⟨o_4, hc_4, hrun⟩ := bnd9 hrun
  have hPx : va_P (dC, dI) cls ((List.flatten ([(oX4 (p0a 0) p0a p0k o_3 p0l), (oX1 (p3a 0) p3a p3k p3n (o_1.1) p3l)] : List va_W)) ++ (List.flatten ([(oX6 (p1a 0) p1a p1k p1w p1l), (oX9 (p3a 3) p3_2a p3_2k p3_2n (o_1.2)), (oX8 (p0a 1) p0_0a p0_0k p0_0w)] : List va_W))) H := vP_fa (vP_perm hP (bP (((List.Perm.refl _)).trans ((((((List.Perm.refl _)).cons _).trans (List.Perm.swap _ _ _))).cons _))))
  have hDx : va_D A ((List.flatten ([(oX4 (p0a 0) p0a p0k o_3 p0l), (oX1 (p3a 0) p3a p3k p3n (o_1.1) p3l)] : List va_W)) ++ (List.flatten ([(oX6 (p1a 0) p1a p1k p1w p1l), (oX9 (p3a 3) p3_2a p3_2k p3_2n (o_1.2)), (oX8 (p0a 1) p0_0a p0_0k p0_0w)] : List va_W))) := vD_fa (vD_perm hD (bP (((List.Perm.refl _)).trans ((((((List.Perm.refl _)).cons _).trans (List.Perm.swap _ _ _))).cons _))))
  have hKx : va_K (dC, dI) cls ((List.flatten ([(tX4 p0k), (tX1 p3k)] : List (List (ClassId × FieldType)))) ++ (List.flatten ([(tX6 p1k), (tX9 p3_2k), (tX8 p0_0k)] : List (List (ClassId × FieldType))))) s := vK_fa (vK_perm hK (bP (((List.Perm.refl _)).trans ((((((List.Perm.refl _)).cons _).trans (List.Perm.swap _ _ _))).cons _))))
  have hPc := vP_l hPx
  have hDc := vD_l hDx
  have hKc := vK_l hKx
  have hFc := vfree hDx hS hA
  refine va_calli (va_runV (As := [.ref (p1a 0), .ref (p3a 0)]) (rest := []) ⟨hx, hb, hml, hown, hts⟩ (kX4_layBlocks l dC dI (p0a := p0a) (p0k := p0k) (p0w := o_3) (p0l := p0l) (p1a := (fun _ => (p1a 0))) (p2a := p3a) (p2k := p3k) (p2n := p3n) (p2w := (o_1.1)) (p2l := p3l) (sz := _) (o := o_4) (hrun := hc_4)) (cwV 2 hts (gi_V qw375 qw376 qw377 qw270 (gi_z qw374)) rfl rfl rfl (by decide +kernel) ⟨Nat.le_of_ble_eq_true rfl, Nat.le_of_ble_eq_true rfl⟩) ⟨PRE.blind, va_recv hKc hPc (ci := 6) (q0 := 0) rfl rfl, PRE.of hE hS hFc hPc hKc hDc⟩ rfl rfl hl.1 rfl (lv_room (Nat.le_of_ble_eq_true rfl)) dX4_make_19 ⟨(show (hcX1 p3n p3n + hcX9 p3_2n p3_2n) + 0 ≤ (hcX1 p3n (o.2.2.2.2.2.1) + hcX9 p3_2n (o.2.2.2.2.2.2.2.1)) from by have q0 := gmX1 hg_p3 hgn_p3; have q1 := gmX9 hg_p3_2 hgn_p3_2; omega), (show (3 * (gcX1 p3n p3n + gcX9 p3_2n p3_2n)) + 0 ≤ (3 * (gcX1 p3n (o.2.2.2.2.2.1) + gcX9 p3_2n (o.2.2.2.2.2.2.2.1))) from by have q0 := gmX1 hg_p3 hgn_p3; have q1 := gmX9 hg_p3_2 hgn_p3_2; omega)⟩) hS (fun q _ h => hFc q h) hFc (fun r5 u t H locs ht hvm hw hB hz1 hk1 hS => ?_)
  obtain ⟨b1, b2, b3⟩ := hB
  rw [ht] at b1
  obtain ⟨hP, hD, hK⟩ := JOINC (wc := (List.flatten ([(oX4 (p0a 0) p0a p0k o_3 p0l), (oX1 (p3a 0) p3a p3k p3n (o_1.1) p3l)] : List va_W))) (wr := (List.flatten ([(oX6 (p1a 0) p1a p1k p1w p1l), (oX9 (p3a 3) p3_2a p3_2k p3_2n (o_1.2)), (oX8 (p0a 1) p0_0a p0_0k p0_0w)] : List va_W))) (w1 := (List.flatten ([(oX4 (p0a 0) p0a p0k (o_4.2.1) p0l), (oX1 (p3a 0) p3a p3k p3n (o_4.2.2) p3l)] : List va_W))) (t1 := (List.flatten ([(tX4 p0k), (tX1 p3k)] : List (List (ClassId × FieldType))))) hPx hDx hKx hk1 hFc b1 (va_K.moved hvm.symm b2) b3
  have hP : va_P (dC, dI) cls (List.flatten ([(oX4 (p0a 0) p0a p0k (o_4.2.1) p0l), (oX6 (p1a 0) p1a p1k p1w p1l), (oX1 (p3a 0) p3a p3k p3n (o_4.2.2) p3l), (oX9 (p3a 3) p3_2a p3_2k p3_2n (o_1.2)), (oX8 (p0a 1) p0_0a p0_0k p0_0w)] : List va_W)) H := vP_perm (vP_fb hP) (bP (((List.Perm.refl _)).trans ((((((List.Perm.refl _)).cons _).trans (List.Perm.swap _ _ _))).cons _)))
  have hD : va_D A (List.flatten ([(oX4 (p0a 0) p0a p0k (o_4.2.1) p0l), (oX6 (p1a 0) p1a p1k p1w p1l), (oX1 (p3a 0) p3a p3k p3n (o_4.2.2) p3l), (oX9 (p3a 3) p3_2a p3_2k p3_2n (o_1.2)), (oX8 (p0a 1) p0_0a p0_0k p0_0w)] : List va_W)) := vD_perm (vD_fb hD) (bP (((List.Perm.refl _)).trans ((((((List.Perm.refl _)).cons _).trans (List.Perm.swap _ _ _))).cons _)))
  have hK : va_K (dC, dI) cls (List.flatten ([(tX4 p0k), (tX6 p1k), (tX1 p3k), (tX9 p3_2k), (tX8 p0_0k)] : List (List (ClassId × FieldType)))) s := vK_perm (vK_fb hK) (bP (((List.Perm.refl _)).trans ((((((List.Perm.refl _)).cons _).trans (List.Perm.swap _ _ _))).cons _)))
  obtain rfl : r5 = (o_4.1) := hw
  rcases br9 hrun with ⟨hc6, hrun⟩ | ⟨hc6, hrun⟩
  · refine lv_if_ne (tgt := 27) hx hb dX4_make_22 (by decide) (fun c => absurd hc6 c) (fun _ => ?_)
    refine lv_iconst (v := 0) hx hb dX4_make_25 (by decide) ?_
    have ho9 : (0, (o_4.2.1), p0l, (o_4.2.2), p3l, p3n, (o_1.2), p3_2n, p0_0w) = o := Option.some.inj hrun
    subst ho9
    subst hQ
    exact W.zret (v := 0) hx hb hr (by decide) (fun t ht hW => ⟨⟨0, (), rfl, rfl, ⟨(p3a 19), (p3k 19), (p3a 20), (p3k 20), (p3a 21), (p3k 21), (p3_2a 2), (p3_2k 2), (p3_2a 3), (p3_2k 3), (p3_2a 4), (p3_2k 4), (p3_2a 5), (p3_2k 5), (p3_2a 6), (p3_2k 6), by rw [ht]; exact hP, va_K.moved hW.alike hK, hD⟩⟩, hS.F ht⟩) hS.2.2 dX4_make_26
  · refine lv_if_ne (tgt := 27) hx hb dX4_make_22 (by decide) (fun _ => ?_) (fun c => absurd c hc6)
    refine lv_aload_n hx hb dX4_make_27 rfl (lv_at hl 3 rfl) ?_
    refine va_get (D := (dC, dI)) (ci := 4) (v := .int ((o_4.2.2) 0 0)) (C := RX1) (T := TX1) (N := 21) hx hb hts i_X1 hown hK hP 30 rfl rfl 0 (by decide) (hts _ qw313) (fun _ h9 => h9) rfl dX4_make_28 ?_
    refine lv_istore (lv' := [(4, .int ((o_4.2.2) 0 0)), (0, .ref (p0a 0)), (1, .ref (p1a 0)), (2, .int p2), (3, .ref (p3a 0))]) hx hb dX4_make_31 hl (by decide) rfl (fun ls hl => ?_)
    refine lv_aload_n hx hb dX4_make_33 rfl (lv_at hl 1 rfl) ?_
    refine va_get (D := (dC, dI)) (ci := 6) (v := .ref (p0a 1)) (C := RX4) (T := TX4) (N := 20) hx hb hts i_X4 hown hK hP 0 rfl rfl 0 (by decide) (hts _ qw378) (fun _ h9 => h9) rfl dX4_make_34 ?_
    refine lv_aload_n hx hb dX4_make_37 rfl (lv_at hl 4 rfl) ?_
    obtain ⟨o_7, hc_7, hrun⟩ := bnd9 hrun
    have hPx : va_P (dC, dI) cls ((List.flatten ([(oX8 (p0a 1) p0_0a p0_0k p0_0w), (oX1 (p3a 0) p3a p3k p3n (o_4.2.2) p3l)] : List va_W)) ++ (List.flatten ([(oX4 (p0a 0) p0a p0k (o_4.2.1) p0l), (oX6 (p1a 0) p1a p1k p1w p1l), (oX9 (p3a 3) p3_2a p3_2k p3_2n (o_1.2))] : List va_W))) H := vP_fa (vP_perm hP (bP (((((((((((((((List.Perm.refl _)).cons _).trans (List.Perm.swap _ _ _))).cons _).trans (List.Perm.swap _ _ _))).cons _).trans (List.Perm.swap _ _ _))).cons _).trans (List.Perm.swap _ _ _))).trans (((((((((List.Perm.refl _)).cons _).trans (List.Perm.swap _ _ _))).cons _).trans (List.Perm.swap _ _ _))).cons _))))
    have hDx : va_D A ((List.flatten ([(oX8 (p0a 1) p0_0a p0_0k p0_0w), (oX1 (p3a 0) p3a p3k p3n (o_4.2.2) p3l)] : List va_W)) ++ (List.flatten ([(oX4 (p0a 0) p0a p0k (o_4.2.1) p0l), (oX6 (p1a 0) p1a p1k p1w p1l), (oX9 (p3a 3) p3_2a p3_2k p3_2n (o_1.2))] : List va_W))) := vD_fa (vD_perm hD (bP (((((((((((((((List.Perm.refl _)).cons _).trans (List.Perm.swap _ _ _))).cons _).trans (List.Perm.swap _ _ _))).cons _).trans (List.Perm.swap _ _ _))).cons _).trans (List.Perm.swap _ _ _))).trans (((((((((List.Perm.refl _)).cons _).trans (List.Perm.swap _ _ _))).cons _).trans (List.Perm.swap _ _ _))).cons _))))
    have hKx : va_K (dC, dI) cls ((List.flatten ([(tX8 p0_0k), (tX1 p3k)] : List (List (ClassId × FieldType)))) ++ (List.flatten ([(tX4 p0k), (tX6 p1k), (tX9 p3_2k)] : List (List (ClassId × FieldType))))) s := vK_fa (vK_perm hK (bP (((((((((((((((List.Perm.refl _)).cons _).trans (List.Perm.swap _ _ _))).cons _).trans (List.Perm.swap _ _ _))).cons _).trans (List.Perm.swap _ _ _))).cons _).trans (List.Perm.swap _ _ _))).trans (((((((((List.Perm.refl _)).cons _).trans (List.Perm.swap _ _ _))).cons _).trans (List.Perm.swap _ _ _))).cons _))))
    have hPc := vP_l hPx
    have hDc := vD_l hDx
    have hKc := vK_l hKx
    have hFc := vfree hDx hS hA
    refine va_callv (va_runV (As := [.ref (p3a 0)]) (rest := []) ⟨hx, hb, hml, hown, hts⟩ (kX8_renumber l dC dI (p0a := (st0 (p0a 1) p0_0a)) (p0k := p0_0k) (p0w := p0_0w) (p1a := p3a) (p1k := p3k) (p1n := p3n) (p1w := (o_4.2.2)) (p1l := p3l) (sz := _) (o := o_7) (hrun := hc_7)) (cwV 1 hts (gi_V qw380 qw381 qw382 qw197 (gi_z qw379)) rfl rfl rfl (by decide +kernel) ⟨Nat.le_of_ble_eq_true rfl, Nat.le_of_ble_eq_true rfl⟩) ⟨PRE.blind, va_recv hKc hPc (ci := 5) (q0 := 0) rfl rfl, PRE.of hE hS hFc hPc hKc hDc⟩ rfl rfl hl.1 rfl (lv_room (Nat.le_of_ble_eq_true rfl)) dX4_make_38 ⟨(show (hcX1 p3n p3n + hcX9 p3_2n p3_2n) + 0 ≤ (hcX1 p3n (o.2.2.2.2.2.1) + hcX9 p3_2n (o.2.2.2.2.2.2.2.1)) from by have q0 := gmX1 hg_p3 hgn_p3; have q1 := gmX9 hg_p3_2 hgn_p3_2; omega), (show (3 * (gcX1 p3n p3n + gcX9 p3_2n p3_2n)) + 0 ≤ (3 * (gcX1 p3n (o.2.2.2.2.2.1) + gcX9 p3_2n (o.2.2.2.2.2.2.2.1))) from by have q0 := gmX1 hg_p3 hgn_p3; have q1 := gmX9 hg_p3_2 hgn_p3_2; omega)⟩) hS (fun q _ h => hFc q h) hFc (fun u t H locs ht hvm hw hB hz1 hk1 hS => ?_)
    obtain ⟨b1, b2, b3⟩ := hB
    rw [ht] at b1
    obtain ⟨hP, hD, hK⟩ := JOINC (wc := (List.flatten ([(oX8 (p0a 1) p0_0a p0_0k p0_0w), (oX1 (p3a 0) p3a p3k p3n (o_4.2.2) p3l)] : List va_W))) (wr := (List.flatten ([(oX4 (p0a 0) p0a p0k (o_4.2.1) p0l), (oX6 (p1a 0) p1a p1k p1w p1l), (oX9 (p3a 3) p3_2a p3_2k p3_2n (o_1.2))] : List va_W))) (w1 := (List.flatten ([(oX8 (p0a 1) p0_0a p0_0k (o_7.1)), (oX1 (p3a 0) p3a p3k p3n (o_7.2.1) (o_7.2.2))] : List va_W))) (t1 := (List.flatten ([(tX8 p0_0k), (tX1 p3k)] : List (List (ClassId × FieldType))))) hPx hDx hKx hk1 hFc b1 (va_K.moved hvm.symm b2) b3
    have hP : va_P (dC, dI) cls (List.flatten ([(oX4 (p0a 0) p0a p0k (o_4.2.1) p0l), (oX6 (p1a 0) p1a p1k p1w p1l), (oX1 (p3a 0) p3a p3k p3n (o_7.2.1) (o_7.2.2)), (oX9 (p3a 3) p3_2a p3_2k p3_2n (o_1.2)), (oX8 (p0a 1) p0_0a p0_0k (o_7.1))] : List va_W)) H := vP_perm (vP_fb hP) (bP (((((((((List.Perm.refl _)).cons _).trans (List.Perm.swap _ _ _))).cons _).trans (List.Perm.swap _ _ _))).trans (((((((((((List.Perm.refl _)).cons _).trans (List.Perm.swap _ _ _))).cons _).trans (List.Perm.swap _ _ _))).trans ((((((((List.Perm.refl _)).cons _).trans (List.Perm.swap _ _ _))).trans ((((((List.Perm.refl _)).cons _).trans (List.Perm.swap _ _ _))).cons _))).cons _))).cons _)))
    have hD : va_D A (List.flatten ([(oX4 (p0a 0) p0a p0k (o_4.2.1) p0l), (oX6 (p1a 0) p1a p1k p1w p1l), (oX1 (p3a 0) p3a p3k p3n (o_7.2.1) (o_7.2.2)), (oX9 (p3a 3) p3_2a p3_2k p3_2n (o_1.2)), (oX8 (p0a 1) p0_0a p0_0k (o_7.1))] : List va_W)) := vD_perm (vD_fb hD) (bP (((((((((List.Perm.refl _)).cons _).trans (List.Perm.swap _ _ _))).cons _).trans (List.Perm.swap _ _ _))).trans (((((((((((List.Perm.refl _)).cons _).trans (List.Perm.swap _ _ _))).cons _).trans (List.Perm.swap _ _ _))).trans ((((((((List.Perm.refl _)).cons _).trans (List.Perm.swap _ _ _))).trans ((((((List.Perm.refl _)).cons _).trans (List.Perm.swap _ _ _))).cons _))).cons _))).cons _)))
    have hK : va_K (dC, dI) cls (List.flatten ([(tX4 p0k), (tX6 p1k), (tX1 p3k), (tX9 p3_2k), (tX8 p0_0k)] : List (List (ClassId × FieldType)))) s := vK_perm (vK_fb hK) (bP (((((((((List.Perm.refl _)).cons _).trans (List.Perm.swap _ _ _))).cons _).trans (List.Perm.swap _ _ _))).trans (((((((((((List.Perm.refl _)).cons _).trans (List.Perm.swap _ _ _))).cons _).trans (List.Perm.swap _ _ _))).trans ((((((((List.Perm.refl _)).cons _).trans (List.Perm.swap _ _ _))).trans ((((((List.Perm.refl _)).cons _).trans (List.Perm.swap _ _ _))).cons _))).cons _))).cons _)))
    refine lv_aload_n hx hb dX4_make_41 rfl (lv_at hl 1 rfl) ?_
    refine va_get (D := (dC, dI)) (ci := 6) (v := .ref (p0a 1)) (C := RX4) (T := TX4) (N := 20) hx hb hts i_X4 hown hK hP 0 rfl rfl 0 (by decide) (hts _ qw378) (fun _ h9 => h9) rfl dX4_make_42 ?_
    refine lv_aload_n hx hb dX4_make_45 rfl (lv_at hl 1 rfl) ?_
    refine va_get (D := (dC, dI)) (ci := 6) (v := .ref (p0a 15)) (C := RX4) (T := TX4) (N := 20) hx hb hts i_X4 hown hK hP 0 rfl rfl 14 (by decide) (hts _ qw286) (fun _ h9 => h9) rfl dX4_make_46 ?_
    refine lv_iload hx hb dX4_make_49 (lv_at hl 0 rfl) ?_
    refine lv_aload_n hx hb dX4_make_51 rfl (lv_at hl 4 rfl) ?_
    refine va_get (D := (dC, dI)) (ci := 4) (v := .int ((o_7.2.1) 0 0)) (C := RX1) (T := TX1) (N := 21) hx hb hts i_X1 hown hK hP 30 rfl rfl 0 (by decide) (hts _ qw313) (fun _ h9 => h9) rfl dX4_make_52 ?_
    obtain ⟨o_8, hc_8, hrun⟩ := bnd9 hrun
    have hP2 : va_P (dC, dI) cls (List.flatten ([[((p0a 15), .inl ((p0k 15), 60, .inl ((o_4.2.1) 15)))], [((p0a 0), .inr (6, [.ref (p0a 1), .ref (p0a 2), .ref (p0a 3), .ref (p0a 4), .ref (p0a 5), .int ((o_4.2.1) 0 5), .ref (p0a 7), .ref (p0a 8), .ref (p0a 9), .ref (p0a 10), .ref (p0a 11), .ref (p0a 12), .ref (p0a 13), .ref (p0a 14), .ref (p0a 15), .ref (p0a 16), .ref (p0a 17), .ref (p0a 18), .ref (p0a 19), .ref (p0a 20)])), ((p0a 2), .inl ((p0k 2), 3200, .inl ((o_4.2.1) 2))), ((p0a 3), .inl ((p0k 3), 3200, .inl ((o_4.2.1) 3))), ((p0a 4), .inl ((p0k 4), 3200, .inl ((o_4.2.1) 4))), ((p0a 5), .inl ((p0k 5), 512, .inl ((o_4.2.1) 5))), ((p0a 7), .inl ((p0k 7), 640, .inl ((o_4.2.1) 7))), ((p0a 8), .inl ((p0k 8), 640, .inl ((o_4.2.1) 8))), ((p0a 9), .inl ((p0k 9), 640, .inl ((o_4.2.1) 9))), ((p0a 10), .inl ((p0k 10), 640, .inl ((o_4.2.1) 10))), ((p0a 11), .inl ((p0k 11), 640, .inl ((o_4.2.1) 11))), ((p0a 12), .inl ((p0k 12), 640, .inl ((o_4.2.1) 12))), ((p0a 13), .inl ((p0k 13), 640, .inl ((o_4.2.1) 13))), ((p0a 14), .inl ((p0k 14), 640, .inl ((o_4.2.1) 14))), ((p0a 16), .inl ((p0k 16), 320, .inr (.inl (p0l 16)))), ((p0a 17), .inl ((p0k 17), 320, .inr (.inl (p0l 17)))), ((p0a 18), .inl ((p0k 18), 60, .inr (.inl (p0l 18)))), ((p0a 19), .inl ((p0k 19), 250, .inl ((o_4.2.1) 19))), ((p0a 20), .inl ((p0k 20), 19200, .inl ((o_4.2.1) 20)))], (oX6 (p1a 0) p1a p1k p1w p1l), (oX1 (p3a 0) p3a p3k p3n (o_7.2.1) (o_7.2.2)), (oX9 (p3a 3) p3_2a p3_2k p3_2n (o_1.2)), (oX8 (p0a 1) p0_0a p0_0k (o_7.1))] : List va_W)) H := vP_perm hP ((bP (List.Perm.refl _)).trans (List.Perm.append_right _ (List.perm_middle (a := (((p0a 15), .inl ((p0k 15), 60, .inl ((o_4.2.1) 15))) : Nat × va_E)) (l₁ := ([((p0a 0), .inr (6, [.ref (p0a 1), .ref (p0a 2), .ref (p0a 3), .ref (p0a 4), .ref (p0a 5), .int ((o_4.2.1) 0 5), .ref (p0a 7), .ref (p0a 8), .ref (p0a 9), .ref (p0a 10), .ref (p0a 11), .ref (p0a 12), .ref (p0a 13), .ref (p0a 14), .ref (p0a 15), .ref (p0a 16), .ref (p0a 17), .ref (p0a 18), .ref (p0a 19), .ref (p0a 20)])), ((p0a 2), .inl ((p0k 2), 3200, .inl ((o_4.2.1) 2))), ((p0a 3), .inl ((p0k 3), 3200, .inl ((o_4.2.1) 3))), ((p0a 4), .inl ((p0k 4), 3200, .inl ((o_4.2.1) 4))), ((p0a 5), .inl ((p0k 5), 512, .inl ((o_4.2.1) 5))), ((p0a 7), .inl ((p0k 7), 640, .inl ((o_4.2.1) 7))), ((p0a 8), .inl ((p0k 8), 640, .inl ((o_4.2.1) 8))), ((p0a 9), .inl ((p0k 9), 640, .inl ((o_4.2.1) 9))), ((p0a 10), .inl ((p0k 10), 640, .inl ((o_4.2.1) 10))), ((p0a 11), .inl ((p0k 11), 640, .inl ((o_4.2.1) 11))), ((p0a 12), .inl ((p0k 12), 640, .inl ((o_4.2.1) 12))), ((p0a 13), .inl ((p0k 13), 640, .inl ((o_4.2.1) 13))), ((p0a 14), .inl ((p0k 14), 640, .inl ((o_4.2.1) 14)))] : va_W)) (l₂ := ([((p0a 16), .inl ((p0k 16), 320, .inr (.inl (p0l 16)))), ((p0a 17), .inl ((p0k 17), 320, .inr (.inl (p0l 17)))), ((p0a 18), .inl ((p0k 18), 60, .inr (.inl (p0l 18)))), ((p0a 19), .inl ((p0k 19), 250, .inl ((o_4.2.1) 19))), ((p0a 20), .inl ((p0k 20), 19200, .inl ((o_4.2.1) 20)))] : va_W)))))
    have hD2 : va_D A (List.flatten ([[((p0a 15), .inl ((p0k 15), 60, .inl ((o_4.2.1) 15)))], [((p0a 0), .inr (6, [.ref (p0a 1), .ref (p0a 2), .ref (p0a 3), .ref (p0a 4), .ref (p0a 5), .int ((o_4.2.1) 0 5), .ref (p0a 7), .ref (p0a 8), .ref (p0a 9), .ref (p0a 10), .ref (p0a 11), .ref (p0a 12), .ref (p0a 13), .ref (p0a 14), .ref (p0a 15), .ref (p0a 16), .ref (p0a 17), .ref (p0a 18), .ref (p0a 19), .ref (p0a 20)])), ((p0a 2), .inl ((p0k 2), 3200, .inl ((o_4.2.1) 2))), ((p0a 3), .inl ((p0k 3), 3200, .inl ((o_4.2.1) 3))), ((p0a 4), .inl ((p0k 4), 3200, .inl ((o_4.2.1) 4))), ((p0a 5), .inl ((p0k 5), 512, .inl ((o_4.2.1) 5))), ((p0a 7), .inl ((p0k 7), 640, .inl ((o_4.2.1) 7))), ((p0a 8), .inl ((p0k 8), 640, .inl ((o_4.2.1) 8))), ((p0a 9), .inl ((p0k 9), 640, .inl ((o_4.2.1) 9))), ((p0a 10), .inl ((p0k 10), 640, .inl ((o_4.2.1) 10))), ((p0a 11), .inl ((p0k 11), 640, .inl ((o_4.2.1) 11))), ((p0a 12), .inl ((p0k 12), 640, .inl ((o_4.2.1) 12))), ((p0a 13), .inl ((p0k 13), 640, .inl ((o_4.2.1) 13))), ((p0a 14), .inl ((p0k 14), 640, .inl ((o_4.2.1) 14))), ((p0a 16), .inl ((p0k 16), 320, .inr (.inl (p0l 16)))), ((p0a 17), .inl ((p0k 17), 320, .inr (.inl (p0l 17)))), ((p0a 18), .inl ((p0k 18), 60, .inr (.inl (p0l 18)))), ((p0a 19), .inl ((p0k 19), 250, .inl ((o_4.2.1) 19))), ((p0a 20), .inl ((p0k 20), 19200, .inl ((o_4.2.1) 20)))], (oX6 (p1a 0) p1a p1k p1w p1l), (oX1 (p3a 0) p3a p3k p3n (o_7.2.1) (o_7.2.2)), (oX9 (p3a 3) p3_2a p3_2k p3_2n (o_1.2)), (oX8 (p0a 1) p0_0a p0_0k (o_7.1))] : List va_W)) := vD_perm hD ((bP (List.Perm.refl _)).trans (List.Perm.append_right _ (List.perm_middle (a := (((p0a 15), .inl ((p0k 15), 60, .inl ((o_4.2.1) 15))) : Nat × va_E)) (l₁ := ([((p0a 0), .inr (6, [.ref (p0a 1), .ref (p0a 2), .ref (p0a 3), .ref (p0a 4), .ref (p0a 5), .int ((o_4.2.1) 0 5), .ref (p0a 7), .ref (p0a 8), .ref (p0a 9), .ref (p0a 10), .ref (p0a 11), .ref (p0a 12), .ref (p0a 13), .ref (p0a 14), .ref (p0a 15), .ref (p0a 16), .ref (p0a 17), .ref (p0a 18), .ref (p0a 19), .ref (p0a 20)])), ((p0a 2), .inl ((p0k 2), 3200, .inl ((o_4.2.1) 2))), ((p0a 3), .inl ((p0k 3), 3200, .inl ((o_4.2.1) 3))), ((p0a 4), .inl ((p0k 4), 3200, .inl ((o_4.2.1) 4))), ((p0a 5), .inl ((p0k 5), 512, .inl ((o_4.2.1) 5))), ((p0a 7), .inl ((p0k 7), 640, .inl ((o_4.2.1) 7))), ((p0a 8), .inl ((p0k 8), 640, .inl ((o_4.2.1) 8))), ((p0a 9), .inl ((p0k 9), 640, .inl ((o_4.2.1) 9))), ((p0a 10), .inl ((p0k 10), 640, .inl ((o_4.2.1) 10))), ((p0a 11), .inl ((p0k 11), 640, .inl ((o_4.2.1) 11))), ((p0a 12), .inl ((p0k 12), 640, .inl ((o_4.2.1) 12))), ((p0a 13), .inl ((p0k 13), 640, .inl ((o_4.2.1) 13))), ((p0a 14), .inl ((p0k 14), 640, .inl ((o_4.2.1) 14)))] : va_W)) (l₂ := ([((p0a 16), .inl ((p0k 16), 320, .inr (.inl (p0l 16)))), ((p0a 17), .inl ((p0k 17), 320, .inr (.inl (p0l 17)))), ((p0a 18), .inl ((p0k 18), 60, .inr (.inl (p0l 18)))), ((p0a 19), .inl ((p0k 19), 250, .inl ((o_4.2.1) 19))), ((p0a 20), .inl ((p0k 20), 19200, .inl ((o_4.2.1) 20)))] : va_W)))))
    have hK2 : va_K (dC, dI) cls (List.flatten ([[((p0k 15), .int)], [((p0k 2), .int), ((p0k 3), .int), ((p0k 4), .int), ((p0k 5), .int), ((p0k 7), .int), ((p0k 8), .int), ((p0k 9), .int), ((p0k 10), .int), ((p0k 11), .int), ((p0k 12), .int), ((p0k 13), .int), ((p0k 14), .int), ((p0k 16), .long), ((p0k 17), .long), ((p0k 18), .long), ((p0k 19), .int), ((p0k 20), .int)], (tX6 p1k), (tX1 p3k), (tX9 p3_2k), (tX8 p0_0k)] : List (List (ClassId × FieldType)))) s := vK_perm hK ((bP (List.Perm.refl _)).trans (List.Perm.append_right _ (List.perm_middle (a := (((p0k 15), .int) : ClassId × FieldType)) (l₁ := ([((p0k 2), .int), ((p0k 3), .int), ((p0k 4), .int), ((p0k 5), .int), ((p0k 7), .int), ((p0k 8), .int), ((p0k 9), .int), ((p0k 10), .int), ((p0k 11), .int), ((p0k 12), .int), ((p0k 13), .int), ((p0k 14), .int)] : List (ClassId × FieldType))) (l₂ := ([((p0k 16), .long), ((p0k 17), .long), ((p0k 18), .long), ((p0k 19), .int), ((p0k 20), .int)] : List (ClassId × FieldType))))))
    have hPx : va_P (dC, dI) cls ((List.flatten ([(oX8 (p0a 1) p0_0a p0_0k (o_7.1)), [((p0a 15), .inl ((p0k 15), 60, .inl ((o_4.2.1) 15)))]] : List va_W)) ++ (List.flatten ([[((p0a 0), .inr (6, [.ref (p0a 1), .ref (p0a 2), .ref (p0a 3), .ref (p0a 4), .ref (p0a 5), .int ((o_4.2.1) 0 5), .ref (p0a 7), .ref (p0a 8), .ref (p0a 9), .ref (p0a 10), .ref (p0a 11), .ref (p0a 12), .ref (p0a 13), .ref (p0a 14), .ref (p0a 15), .ref (p0a 16), .ref (p0a 17), .ref (p0a 18), .ref (p0a 19), .ref (p0a 20)])), ((p0a 2), .inl ((p0k 2), 3200, .inl ((o_4.2.1) 2))), ((p0a 3), .inl ((p0k 3), 3200, .inl ((o_4.2.1) 3))), ((p0a 4), .inl ((p0k 4), 3200, .inl ((o_4.2.1) 4))), ((p0a 5), .inl ((p0k 5), 512, .inl ((o_4.2.1) 5))), ((p0a 7), .inl ((p0k 7), 640, .inl ((o_4.2.1) 7))), ((p0a 8), .inl ((p0k 8), 640, .inl ((o_4.2.1) 8))), ((p0a 9), .inl ((p0k 9), 640, .inl ((o_4.2.1) 9))), ((p0a 10), .inl ((p0k 10), 640, .inl ((o_4.2.1) 10))), ((p0a 11), .inl ((p0k 11), 640, .inl ((o_4.2.1) 11))), ((p0a 12), .inl ((p0k 12), 640, .inl ((o_4.2.1) 12))), ((p0a 13), .inl ((p0k 13), 640, .inl ((o_4.2.1) 13))), ((p0a 14), .inl ((p0k 14), 640, .inl ((o_4.2.1) 14))), ((p0a 16), .inl ((p0k 16), 320, .inr (.inl (p0l 16)))), ((p0a 17), .inl ((p0k 17), 320, .inr (.inl (p0l 17)))), ((p0a 18), .inl ((p0k 18), 60, .inr (.inl (p0l 18)))), ((p0a 19), .inl ((p0k 19), 250, .inl ((o_4.2.1) 19))), ((p0a 20), .inl ((p0k 20), 19200, .inl ((o_4.2.1) 20)))], (oX6 (p1a 0) p1a p1k p1w p1l), (oX1 (p3a 0) p3a p3k p3n (o_7.2.1) (o_7.2.2)), (oX9 (p3a 3) p3_2a p3_2k p3_2n (o_1.2))] : List va_W))) H := vP_fa (vP_perm hP2 (bP ((((((((((((((((List.Perm.refl _)).cons _).trans (List.Perm.swap _ _ _))).cons _).trans (List.Perm.swap _ _ _))).cons _).trans (List.Perm.swap _ _ _))).cons _).trans (List.Perm.swap _ _ _))).cons _).trans (List.Perm.swap _ _ _))))
    have hDx : va_D A ((List.flatten ([(oX8 (p0a 1) p0_0a p0_0k (o_7.1)), [((p0a 15), .inl ((p0k 15), 60, .inl ((o_4.2.1) 15)))]] : List va_W)) ++ (List.flatten ([[((p0a 0), .inr (6, [.ref (p0a 1), .ref (p0a 2), .ref (p0a 3), .ref (p0a 4), .ref (p0a 5), .int ((o_4.2.1) 0 5), .ref (p0a 7), .ref (p0a 8), .ref (p0a 9), .ref (p0a 10), .ref (p0a 11), .ref (p0a 12), .ref (p0a 13), .ref (p0a 14), .ref (p0a 15), .ref (p0a 16), .ref (p0a 17), .ref (p0a 18), .ref (p0a 19), .ref (p0a 20)])), ((p0a 2), .inl ((p0k 2), 3200, .inl ((o_4.2.1) 2))), ((p0a 3), .inl ((p0k 3), 3200, .inl ((o_4.2.1) 3))), ((p0a 4), .inl ((p0k 4), 3200, .inl ((o_4.2.1) 4))), ((p0a 5), .inl ((p0k 5), 512, .inl ((o_4.2.1) 5))), ((p0a 7), .inl ((p0k 7), 640, .inl ((o_4.2.1) 7))), ((p0a 8), .inl ((p0k 8), 640, .inl ((o_4.2.1) 8))), ((p0a 9), .inl ((p0k 9), 640, .inl ((o_4.2.1) 9))), ((p0a 10), .inl ((p0k 10), 640, .inl ((o_4.2.1) 10))), ((p0a 11), .inl ((p0k 11), 640, .inl ((o_4.2.1) 11))), ((p0a 12), .inl ((p0k 12), 640, .inl ((o_4.2.1) 12))), ((p0a 13), .inl ((p0k 13), 640, .inl ((o_4.2.1) 13))), ((p0a 14), .inl ((p0k 14), 640, .inl ((o_4.2.1) 14))), ((p0a 16), .inl ((p0k 16), 320, .inr (.inl (p0l 16)))), ((p0a 17), .inl ((p0k 17), 320, .inr (.inl (p0l 17)))), ((p0a 18), .inl ((p0k 18), 60, .inr (.inl (p0l 18)))), ((p0a 19), .inl ((p0k 19), 250, .inl ((o_4.2.1) 19))), ((p0a 20), .inl ((p0k 20), 19200, .inl ((o_4.2.1) 20)))], (oX6 (p1a 0) p1a p1k p1w p1l), (oX1 (p3a 0) p3a p3k p3n (o_7.2.1) (o_7.2.2)), (oX9 (p3a 3) p3_2a p3_2k p3_2n (o_1.2))] : List va_W))) := vD_fa (vD_perm hD2 (bP ((((((((((((((((List.Perm.refl _)).cons _).trans (List.Perm.swap _ _ _))).cons _).trans (List.Perm.swap _ _ _))).cons _).trans (List.Perm.swap _ _ _))).cons _).trans (List.Perm.swap _ _ _))).cons _).trans (List.Perm.swap _ _ _))))
    have hKx : va_K (dC, dI) cls ((List.flatten ([(tX8 p0_0k), [((p0k 15), .int)]] : List (List (ClassId × FieldType)))) ++ (List.flatten ([[((p0k 2), .int), ((p0k 3), .int), ((p0k 4), .int), ((p0k 5), .int), ((p0k 7), .int), ((p0k 8), .int), ((p0k 9), .int), ((p0k 10), .int), ((p0k 11), .int), ((p0k 12), .int), ((p0k 13), .int), ((p0k 14), .int), ((p0k 16), .long), ((p0k 17), .long), ((p0k 18), .long), ((p0k 19), .int), ((p0k 20), .int)], (tX6 p1k), (tX1 p3k), (tX9 p3_2k)] : List (List (ClassId × FieldType))))) s := vK_fa (vK_perm hK2 (bP ((((((((((((((((List.Perm.refl _)).cons _).trans (List.Perm.swap _ _ _))).cons _).trans (List.Perm.swap _ _ _))).cons _).trans (List.Perm.swap _ _ _))).cons _).trans (List.Perm.swap _ _ _))).cons _).trans (List.Perm.swap _ _ _))))
    have hPc := vP_l hPx
    have hDc := vD_l hDx
    have hKc := vK_l hKx
    have hFc := vfree hDx hS hA
    refine va_callv (va_runV (As := [.ref (p0a 15), .int ((o_4.2.2) 0 0), .int ((o_7.2.1) 0 0)]) (rest := []) ⟨hx, hb, hml, hown, hts⟩ (kX8_move l dC dI (p0a := (st0 (p0a 1) p0_0a)) (p0k := p0_0k) (p0w := (o_7.1)) (p1a := (p0a 15)) (p1k := (p0k 15)) (p1n := 60) (p1f := ((o_4.2.1) 15)) (p2 := ((o_4.2.2) 0 0)) (p3 := ((o_7.2.1) 0 0)) (sz := _) (o := o_8) (hrun := hc_8)) (cwV 3 hts (gi_V qw383 qw245 qw246 qw197 (gi_z qw243)) rfl rfl rfl (by decide +kernel) ⟨Nat.le_of_ble_eq_true rfl, Nat.le_of_ble_eq_true rfl⟩) ⟨PRE.blind, va_recv hKc hPc (ci := 5) (q0 := 0) rfl rfl, PRE.of hE hS hFc hPc hKc hDc⟩ rfl rfl hl.1 rfl (lv_room (Nat.le_of_ble_eq_true rfl)) dX4_make_55 ⟨(show (hcX1 p3n p3n + hcX9 p3_2n p3_2n) + 0 ≤ (hcX1 p3n (o.2.2.2.2.2.1) + hcX9 p3_2n (o.2.2.2.2.2.2.2.1)) from by have q0 := gmX1 hg_p3 hgn_p3; have q1 := gmX9 hg_p3_2 hgn_p3_2; omega), (show (3 * (gcX1 p3n p3n + gcX9 p3_2n p3_2n)) + 0 ≤ (3 * (gcX1 p3n (o.2.2.2.2.2.1) + gcX9 p3_2n (o.2.2.2.2.2.2.2.1))) from by have q0 := gmX1 hg_p3 hgn_p3; have q1 := gmX9 hg_p3_2 hgn_p3_2; omega)⟩) hS (fun q _ h => hFc q h) hFc (fun u t H locs ht hvm hw hB hz1 hk1 hS => ?_)
    obtain ⟨b1, b2, b3⟩ := hB
    rw [ht] at b1
    obtain ⟨hP, hD, hK⟩ := JOINC (wc := (List.flatten ([(oX8 (p0a 1) p0_0a p0_0k (o_7.1)), [((p0a 15), .inl ((p0k 15), 60, .inl ((o_4.2.1) 15)))]] : List va_W))) (wr := (List.flatten ([[((p0a 0), .inr (6, [.ref (p0a 1), .ref (p0a 2), .ref (p0a 3), .ref (p0a 4), .ref (p0a 5), .int ((o_4.2.1) 0 5), .ref (p0a 7), .ref (p0a 8), .ref (p0a 9), .ref (p0a 10), .ref (p0a 11), .ref (p0a 12), .ref (p0a 13), .ref (p0a 14), .ref (p0a 15), .ref (p0a 16), .ref (p0a 17), .ref (p0a 18), .ref (p0a 19), .ref (p0a 20)])), ((p0a 2), .inl ((p0k 2), 3200, .inl ((o_4.2.1) 2))), ((p0a 3), .inl ((p0k 3), 3200, .inl ((o_4.2.1) 3))), ((p0a 4), .inl ((p0k 4), 3200, .inl ((o_4.2.1) 4))), ((p0a 5), .inl ((p0k 5), 512, .inl ((o_4.2.1) 5))), ((p0a 7), .inl ((p0k 7), 640, .inl ((o_4.2.1) 7))), ((p0a 8), .inl ((p0k 8), 640, .inl ((o_4.2.1) 8))), ((p0a 9), .inl ((p0k 9), 640, .inl ((o_4.2.1) 9))), ((p0a 10), .inl ((p0k 10), 640, .inl ((o_4.2.1) 10))), ((p0a 11), .inl ((p0k 11), 640, .inl ((o_4.2.1) 11))), ((p0a 12), .inl ((p0k 12), 640, .inl ((o_4.2.1) 12))), ((p0a 13), .inl ((p0k 13), 640, .inl ((o_4.2.1) 13))), ((p0a 14), .inl ((p0k 14), 640, .inl ((o_4.2.1) 14))), ((p0a 16), .inl ((p0k 16), 320, .inr (.inl (p0l 16)))), ((p0a 17), .inl ((p0k 17), 320, .inr (.inl (p0l 17)))), ((p0a 18), .inl ((p0k 18), 60, .inr (.inl (p0l 18)))), ((p0a 19), .inl ((p0k 19), 250, .inl ((o_4.2.1) 19))), ((p0a 20), .inl ((p0k 20), 19200, .inl ((o_4.2.1) 20)))], (oX6 (p1a 0) p1a p1k p1w p1l), (oX1 (p3a 0) p3a p3k p3n (o_7.2.1) (o_7.2.2)), (oX9 (p3a 3) p3_2a p3_2k p3_2n (o_1.2))] : List va_W))) (w1 := (List.flatten ([(oX8 (p0a 1) p0_0a p0_0k (o_8.1)), [((p0a 15), .inl ((p0k 15), 60, .inl ((srw (o_4.2.1) 15 (o_8.2)) 15)))]] : List va_W))) (t1 := (List.flatten ([(tX8 p0_0k), [((p0k 15), .int)]] : List (List (ClassId × FieldType))))) hPx hDx hKx hk1 hFc b1 (va_K.moved hvm.symm b2) b3
    have hP3 : va_P (dC, dI) cls (List.flatten ([(oX4 (p0a 0) p0a p0k (srw (o_4.2.1) 15 (o_8.2)) p0l), (oX8 (p0a 1) p0_0a p0_0k (o_8.1)), (oX6 (p1a 0) p1a p1k p1w p1l), (oX1 (p3a 0) p3a p3k p3n (o_7.2.1) (o_7.2.2)), (oX9 (p3a 3) p3_2a p3_2k p3_2n (o_1.2))] : List va_W)) H := vP_perm (vP_fb hP) ((bP ((((((List.Perm.refl _)).cons _).trans (List.Perm.swap _ _ _))).trans ((((((List.Perm.refl _)).cons _).trans (List.Perm.swap _ _ _))).cons _))).trans (List.Perm.append_right _ (List.perm_middle (a := (((p0a 15), .inl ((p0k 15), 60, .inl ((srw (o_4.2.1) 15 (o_8.2)) 15))) : Nat × va_E)) (l₁ := ([((p0a 0), .inr (6, [.ref (p0a 1), .ref (p0a 2), .ref (p0a 3), .ref (p0a 4), .ref (p0a 5), .int ((srw (o_4.2.1) 15 (o_8.2)) 0 5), .ref (p0a 7), .ref (p0a 8), .ref (p0a 9), .ref (p0a 10), .ref (p0a 11), .ref (p0a 12), .ref (p0a 13), .ref (p0a 14), .ref (p0a 15), .ref (p0a 16), .ref (p0a 17), .ref (p0a 18), .ref (p0a 19), .ref (p0a 20)])), ((p0a 2), .inl ((p0k 2), 3200, .inl ((srw (o_4.2.1) 15 (o_8.2)) 2))), ((p0a 3), .inl ((p0k 3), 3200, .inl ((srw (o_4.2.1) 15 (o_8.2)) 3))), ((p0a 4), .inl ((p0k 4), 3200, .inl ((srw (o_4.2.1) 15 (o_8.2)) 4))), ((p0a 5), .inl ((p0k 5), 512, .inl ((srw (o_4.2.1) 15 (o_8.2)) 5))), ((p0a 7), .inl ((p0k 7), 640, .inl ((srw (o_4.2.1) 15 (o_8.2)) 7))), ((p0a 8), .inl ((p0k 8), 640, .inl ((srw (o_4.2.1) 15 (o_8.2)) 8))), ((p0a 9), .inl ((p0k 9), 640, .inl ((srw (o_4.2.1) 15 (o_8.2)) 9))), ((p0a 10), .inl ((p0k 10), 640, .inl ((srw (o_4.2.1) 15 (o_8.2)) 10))), ((p0a 11), .inl ((p0k 11), 640, .inl ((srw (o_4.2.1) 15 (o_8.2)) 11))), ((p0a 12), .inl ((p0k 12), 640, .inl ((srw (o_4.2.1) 15 (o_8.2)) 12))), ((p0a 13), .inl ((p0k 13), 640, .inl ((srw (o_4.2.1) 15 (o_8.2)) 13))), ((p0a 14), .inl ((p0k 14), 640, .inl ((srw (o_4.2.1) 15 (o_8.2)) 14)))] : va_W)) (l₂ := ([((p0a 16), .inl ((p0k 16), 320, .inr (.inl (p0l 16)))), ((p0a 17), .inl ((p0k 17), 320, .inr (.inl (p0l 17)))), ((p0a 18), .inl ((p0k 18), 60, .inr (.inl (p0l 18)))), ((p0a 19), .inl ((p0k 19), 250, .inl ((srw (o_4.2.1) 15 (o_8.2)) 19))), ((p0a 20), .inl ((p0k 20), 19200, .inl ((srw (o_4.2.1) 15 (o_8.2)) 20)))] : va_W))).symm))
    have hD3 : va_D A (List.flatten ([(oX4 (p0a 0) p0a p0k (srw (o_4.2.1) 15 (o_8.2)) p0l), (oX8 (p0a 1) p0_0a p0_0k (o_8.1)), (oX6 (p1a 0) p1a p1k p1w p1l), (oX1 (p3a 0) p3a p3k p3n (o_7.2.1) (o_7.2.2)), (oX9 (p3a 3) p3_2a p3_2k p3_2n (o_1.2))] : List va_W)) := vD_perm (vD_fb hD) ((bP ((((((List.Perm.refl _)).cons _).trans (List.Perm.swap _ _ _))).trans ((((((List.Perm.refl _)).cons _).trans (List.Perm.swap _ _ _))).cons _))).trans (List.Perm.append_right _ (List.perm_middle (a := (((p0a 15), .inl ((p0k 15), 60, .inl ((srw (o_4.2.1) 15 (o_8.2)) 15))) : Nat × va_E)) (l₁ := ([((p0a 0), .inr (6, [.ref (p0a 1), .ref (p0a 2), .ref (p0a 3), .ref (p0a 4), .ref (p0a 5), .int ((srw (o_4.2.1) 15 (o_8.2)) 0 5), .ref (p0a 7), .ref (p0a 8), .ref (p0a 9), .ref (p0a 10), .ref (p0a 11), .ref (p0a 12), .ref (p0a 13), .ref (p0a 14), .ref (p0a 15), .ref (p0a 16), .ref (p0a 17), .ref (p0a 18), .ref (p0a 19), .ref (p0a 20)])), ((p0a 2), .inl ((p0k 2), 3200, .inl ((srw (o_4.2.1) 15 (o_8.2)) 2))), ((p0a 3), .inl ((p0k 3), 3200, .inl ((srw (o_4.2.1) 15 (o_8.2)) 3))), ((p0a 4), .inl ((p0k 4), 3200, .inl ((srw (o_4.2.1) 15 (o_8.2)) 4))), ((p0a 5), .inl ((p0k 5), 512, .inl ((srw (o_4.2.1) 15 (o_8.2)) 5))), ((p0a 7), .inl ((p0k 7), 640, .inl ((srw (o_4.2.1) 15 (o_8.2)) 7))), ((p0a 8), .inl ((p0k 8), 640, .inl ((srw (o_4.2.1) 15 (o_8.2)) 8))), ((p0a 9), .inl ((p0k 9), 640, .inl ((srw (o_4.2.1) 15 (o_8.2)) 9))), ((p0a 10), .inl ((p0k 10), 640, .inl ((srw (o_4.2.1) 15 (o_8.2)) 10))), ((p0a 11), .inl ((p0k 11), 640, .inl ((srw (o_4.2.1) 15 (o_8.2)) 11))), ((p0a 12), .inl ((p0k 12), 640, .inl ((srw (o_4.2.1) 15 (o_8.2)) 12))), ((p0a 13), .inl ((p0k 13), 640, .inl ((srw (o_4.2.1) 15 (o_8.2)) 13))), ((p0a 14), .inl ((p0k 14), 640, .inl ((srw (o_4.2.1) 15 (o_8.2)) 14)))] : va_W)) (l₂ := ([((p0a 16), .inl ((p0k 16), 320, .inr (.inl (p0l 16)))), ((p0a 17), .inl ((p0k 17), 320, .inr (.inl (p0l 17)))), ((p0a 18), .inl ((p0k 18), 60, .inr (.inl (p0l 18)))), ((p0a 19), .inl ((p0k 19), 250, .inl ((srw (o_4.2.1) 15 (o_8.2)) 19))), ((p0a 20), .inl ((p0k 20), 19200, .inl ((srw (o_4.2.1) 15 (o_8.2)) 20)))] : va_W))).symm))
    have hK3 : va_K (dC, dI) cls (List.flatten ([(tX4 p0k), (tX8 p0_0k), (tX6 p1k), (tX1 p3k), (tX9 p3_2k)] : List (List (ClassId × FieldType)))) s := vK_perm (vK_fb hK) ((bP ((((((List.Perm.refl _)).cons _).trans (List.Perm.swap _ _ _))).trans ((((((List.Perm.refl _)).cons _).trans (List.Perm.swap _ _ _))).cons _))).trans (List.Perm.append_right _ (List.perm_middle (a := (((p0k 15), .int) : ClassId × FieldType)) (l₁ := ([((p0k 2), .int), ((p0k 3), .int), ((p0k 4), .int), ((p0k 5), .int), ((p0k 7), .int), ((p0k 8), .int), ((p0k 9), .int), ((p0k 10), .int), ((p0k 11), .int), ((p0k 12), .int), ((p0k 13), .int), ((p0k 14), .int)] : List (ClassId × FieldType))) (l₂ := ([((p0k 16), .long), ((p0k 17), .long), ((p0k 18), .long), ((p0k 19), .int), ((p0k 20), .int)] : List (ClassId × FieldType)))).symm))
    have hP : va_P (dC, dI) cls (List.flatten ([(oX4 (p0a 0) p0a p0k (srw (o_4.2.1) 15 (o_8.2)) p0l), (oX6 (p1a 0) p1a p1k p1w p1l), (oX1 (p3a 0) p3a p3k p3n (o_7.2.1) (o_7.2.2)), (oX9 (p3a 3) p3_2a p3_2k p3_2n (o_1.2)), (oX8 (p0a 1) p0_0a p0_0k (o_8.1))] : List va_W)) H := vP_perm hP3 (bP (((List.Perm.refl _)).trans ((((((((List.Perm.refl _)).cons _).trans (List.Perm.swap _ _ _))).trans ((((((((List.Perm.refl _)).cons _).trans (List.Perm.swap _ _ _))).trans ((((((List.Perm.refl _)).cons _).trans (List.Perm.swap _ _ _))).cons _))).cons _))).cons _)))
    have hD : va_D A (List.flatten ([(oX4 (p0a 0) p0a p0k (srw (o_4.2.1) 15 (o_8.2)) p0l), (oX6 (p1a 0) p1a p1k p1w p1l), (oX1 (p3a 0) p3a p3k p3n (o_7.2.1) (o_7.2.2)), (oX9 (p3a 3) p3_2a p3_2k p3_2n (o_1.2)), (oX8 (p0a 1) p0_0a p0_0k (o_8.1))] : List va_W)) := vD_perm hD3 (bP (((List.Perm.refl _)).trans ((((((((List.Perm.refl _)).cons _).trans (List.Perm.swap _ _ _))).trans ((((((((List.Perm.refl _)).cons _).trans (List.Perm.swap _ _ _))).trans ((((((List.Perm.refl _)).cons _).trans (List.Perm.swap _ _ _))).cons _))).cons _))).cons _)))
    have hK : va_K (dC, dI) cls (List.flatten ([(tX4 p0k), (tX6 p1k), (tX1 p3k), (tX9 p3_2k), (tX8 p0_0k)] : List (List (ClassId × FieldType)))) s := vK_perm hK3 (bP (((List.Perm.refl _)).trans ((((((((List.Perm.refl _)).cons _).trans (List.Perm.swap _ _ _))).trans ((((((((List.Perm.refl _)).cons _).trans (List.Perm.swap _ _ _))).trans ((((((List.Perm.refl _)).cons _).trans (List.Perm.swap _ _ _))).cons _))).cons _))).cons _)))
    refine lv_aload_n hx hb dX4_make_58 rfl (lv_at hl 1 rfl) ?_
    refine lv_aload_n hx hb dX4_make_59 rfl (lv_at hl 2 rfl) ?_
    refine lv_iload_n hx hb dX4_make_60 rfl (lv_at hl 3 rfl) ?_
    refine lv_aload_n hx hb dX4_make_61 rfl (lv_at hl 4 rfl) ?_
    obtain ⟨o_9, hc_9, hrun⟩ := bnd9 hrun
    have hPx : va_P (dC, dI) cls ((List.flatten ([(oX4 (p0a 0) p0a p0k (srw (o_4.2.1) 15 (o_8.2)) p0l), (oX6 (p1a 0) p1a p1k p1w p1l), (oX1 (p3a 0) p3a p3k p3n (o_7.2.1) (o_7.2.2))] : List va_W)) ++ (List.flatten ([(oX9 (p3a 3) p3_2a p3_2k p3_2n (o_1.2)), (oX8 (p0a 1) p0_0a p0_0k (o_8.1))] : List va_W))) H := vP_fa (vP_perm hP (bP (List.Perm.refl _)))
    have hDx : va_D A ((List.flatten ([(oX4 (p0a 0) p0a p0k (srw (o_4.2.1) 15 (o_8.2)) p0l), (oX6 (p1a 0) p1a p1k p1w p1l), (oX1 (p3a 0) p3a p3k p3n (o_7.2.1) (o_7.2.2))] : List va_W)) ++ (List.flatten ([(oX9 (p3a 3) p3_2a p3_2k p3_2n (o_1.2)), (oX8 (p0a 1) p0_0a p0_0k (o_8.1))] : List va_W))) := vD_fa (vD_perm hD (bP (List.Perm.refl _)))
    have hKx : va_K (dC, dI) cls ((List.flatten ([(tX4 p0k), (tX6 p1k), (tX1 p3k)] : List (List (ClassId × FieldType)))) ++ (List.flatten ([(tX9 p3_2k), (tX8 p0_0k)] : List (List (ClassId × FieldType))))) s := vK_fa (vK_perm hK (bP (List.Perm.refl _)))
    have hPc := vP_l hPx
    have hDc := vD_l hDx
    have hKc := vK_l hKx
    have hFc := vfree hDx hS hA
    refine va_callv (va_runV (As := [.ref (p1a 0), .int p2, .ref (p3a 0)]) (rest := []) ⟨hx, hb, hml, hown, hts⟩ (kX4_noteVariables l dC dI (p0a := p0a) (p0k := p0k) (p0w := (srw (o_4.2.1) 15 (o_8.2))) (p0l := p0l) (p1a := p1a) (p1k := p1k) (p1w := p1w) (p1l := p1l) (p2 := p2) (p3a := p3a) (p3k := p3k) (p3n := p3n) (p3w := (o_7.2.1)) (p3l := (o_7.2.2)) (sz := _) (o := o_9) (hrun := hc_9)) (cwV 3 hts (gi_V qw387 qw388 qw389 qw270 (gi_z qw386)) rfl rfl rfl (by decide +kernel) ⟨Nat.le_of_ble_eq_true rfl, Nat.le_of_ble_eq_true rfl⟩) ⟨PRE.blind, va_recv hKc hPc (ci := 6) (q0 := 0) rfl rfl, PRE.of hE hS hFc hPc hKc hDc⟩ rfl rfl hl.1 rfl (lv_room (Nat.le_of_ble_eq_true rfl)) dX4_make_62 ⟨(show (hcX1 p3n p3n + hcX9 p3_2n p3_2n) + 0 ≤ (hcX1 p3n (o.2.2.2.2.2.1) + hcX9 p3_2n (o.2.2.2.2.2.2.2.1)) from by have q0 := gmX1 hg_p3 hgn_p3; have q1 := gmX9 hg_p3_2 hgn_p3_2; omega), (show (3 * (gcX1 p3n p3n + gcX9 p3_2n p3_2n)) + 0 ≤ (3 * (gcX1 p3n (o.2.2.2.2.2.1) + gcX9 p3_2n (o.2.2.2.2.2.2.2.1))) from by have q0 := gmX1 hg_p3 hgn_p3; have q1 := gmX9 hg_p3_2 hgn_p3_2; omega)⟩) hS (fun q _ h => hFc q h) hFc (fun u t H locs ht hvm hw hB hz1 hk1 hS => ?_)
    obtain ⟨b1, b2, b3⟩ := hB
    rw [ht] at b1
    obtain ⟨hP, hD, hK⟩ := JOINC (wc := (List.flatten ([(oX4 (p0a 0) p0a p0k (srw (o_4.2.1) 15 (o_8.2)) p0l), (oX6 (p1a 0) p1a p1k p1w p1l), (oX1 (p3a 0) p3a p3k p3n (o_7.2.1) (o_7.2.2))] : List va_W))) (wr := (List.flatten ([(oX9 (p3a 3) p3_2a p3_2k p3_2n (o_1.2)), (oX8 (p0a 1) p0_0a p0_0k (o_8.1))] : List va_W))) (w1 := (List.flatten ([(oX4 (p0a 0) p0a p0k (srw (o_4.2.1) 15 (o_8.2)) o_9), (oX6 (p1a 0) p1a p1k p1w p1l), (oX1 (p3a 0) p3a p3k p3n (o_7.2.1) (o_7.2.2))] : List va_W))) (t1 := (List.flatten ([(tX4 p0k), (tX6 p1k), (tX1 p3k)] : List (List (ClassId × FieldType))))) hPx hDx hKx hk1 hFc b1 (va_K.moved hvm.symm b2) b3
    have hP : va_P (dC, dI) cls (List.flatten ([(oX4 (p0a 0) p0a p0k (srw (o_4.2.1) 15 (o_8.2)) o_9), (oX6 (p1a 0) p1a p1k p1w p1l), (oX1 (p3a 0) p3a p3k p3n (o_7.2.1) (o_7.2.2)), (oX9 (p3a 3) p3_2a p3_2k p3_2n (o_1.2)), (oX8 (p0a 1) p0_0a p0_0k (o_8.1))] : List va_W)) H := vP_perm (vP_fb hP) (bP (List.Perm.refl _))
    have hD : va_D A (List.flatten ([(oX4 (p0a 0) p0a p0k (srw (o_4.2.1) 15 (o_8.2)) o_9), (oX6 (p1a 0) p1a p1k p1w p1l), (oX1 (p3a 0) p3a p3k p3n (o_7.2.1) (o_7.2.2)), (oX9 (p3a 3) p3_2a p3_2k p3_2n (o_1.2)), (oX8 (p0a 1) p0_0a p0_0k (o_8.1))] : List va_W)) := vD_perm (vD_fb hD) (bP (List.Perm.refl _))
    have hK : va_K (dC, dI) cls (List.flatten ([(tX4 p0k), (tX6 p1k), (tX1 p3k), (tX9 p3_2k), (tX8 p0_0k)] : List (List (ClassId × FieldType)))) s := vK_perm (vK_fb hK) (bP (List.Perm.refl _))
    refine lv_aload_n hx hb dX4_make_65 rfl (lv_at hl 1 rfl) ?_
    refine lv_aload_n hx hb dX4_make_66 rfl (lv_at hl 4 rfl) ?_
    obtain ⟨o_10, hc_10, hrun⟩ := bnd9 hrun
    have hPx : va_P (dC, dI) cls ((List.flatten ([(oX4 (p0a 0) p0a p0k (srw (o_4.2.1) 15 (o_8.2)) o_9), (oX1 (p3a 0) p3a p3k p3n (o_7.2.1) (o_7.2.2))] : List va_W)) ++ (List.flatten ([(oX6 (p1a 0) p1a p1k p1w p1l), (oX9 (p3a 3) p3_2a p3_2k p3_2n (o_1.2)), (oX8 (p0a 1) p0_0a p0_0k (o_8.1))] : List va_W))) H := vP_fa (vP_perm hP (bP (((List.Perm.refl _)).trans ((((((List.Perm.refl _)).cons _).trans (List.Perm.swap _ _ _))).cons _))))
    have hDx : va_D A ((List.flatten ([(oX4 (p0a 0) p0a p0k (srw (o_4.2.1) 15 (o_8.2)) o_9), (oX1 (p3a 0) p3a p3k p3n (o_7.2.1) (o_7.2.2))] : List va_W)) ++ (List.flatten ([(oX6 (p1a 0) p1a p1k p1w p1l), (oX9 (p3a 3) p3_2a p3_2k p3_2n (o_1.2)), (oX8 (p0a 1) p0_0a p0_0k (o_8.1))] : List va_W))) := vD_fa (vD_perm hD (bP (((List.Perm.refl _)).trans ((((((List.Perm.refl _)).cons _).trans (List.Perm.swap _ _ _))).cons _))))
    have hKx : va_K (dC, dI) cls ((List.flatten ([(tX4 p0k), (tX1 p3k)] : List (List (ClassId × FieldType)))) ++ (List.flatten ([(tX6 p1k), (tX9 p3_2k), (tX8 p0_0k)] : List (List (ClassId × FieldType))))) s := vK_fa (vK_perm hK (bP (((List.Perm.refl _)).trans ((((((List.Perm.refl _)).cons _).trans (List.Perm.swap _ _ _))).cons _))))
    have hPc := vP_l hPx
    have hDc := vD_l hDx
    have hKc := vK_l hKx
    have hFc := vfree hDx hS hA
    refine va_callv (va_runV (As := [.ref (p3a 0)]) (rest := []) ⟨hx, hb, hml, hown, hts⟩ (kX4_findBorders l dC dI (p0a := p0a) (p0k := p0k) (p0w := (srw (o_4.2.1) 15 (o_8.2))) (p0l := o_9) (p1a := p3a) (p1k := p3k) (p1n := p3n) (p1w := (o_7.2.1)) (p1l := (o_7.2.2)) (sz := _) (o := o_10) (hrun := hc_10)) (cwV 1 hts (gi_V qw391 qw392 qw393 qw270 (gi_z qw390)) rfl rfl rfl (by decide +kernel) ⟨Nat.le_of_ble_eq_true rfl, Nat.le_of_ble_eq_true rfl⟩) ⟨PRE.blind, va_recv hKc hPc (ci := 6) (q0 := 0) rfl rfl, PRE.of hE hS hFc hPc hKc hDc⟩ rfl rfl hl.1 rfl (lv_room (Nat.le_of_ble_eq_true rfl)) dX4_make_67 ⟨(show (hcX1 p3n p3n + hcX9 p3_2n p3_2n) + 0 ≤ (hcX1 p3n (o.2.2.2.2.2.1) + hcX9 p3_2n (o.2.2.2.2.2.2.2.1)) from by have q0 := gmX1 hg_p3 hgn_p3; have q1 := gmX9 hg_p3_2 hgn_p3_2; omega), (show (3 * (gcX1 p3n p3n + gcX9 p3_2n p3_2n)) + 0 ≤ (3 * (gcX1 p3n (o.2.2.2.2.2.1) + gcX9 p3_2n (o.2.2.2.2.2.2.2.1))) from by have q0 := gmX1 hg_p3 hgn_p3; have q1 := gmX9 hg_p3_2 hgn_p3_2; omega)⟩) hS (fun q _ h => hFc q h) hFc (fun u t H locs ht hvm hw hB hz1 hk1 hS => ?_)
    obtain ⟨b1, b2, b3⟩ := hB
    rw [ht] at b1
    obtain ⟨hP, hD, hK⟩ := JOINC (wc := (List.flatten ([(oX4 (p0a 0) p0a p0k (srw (o_4.2.1) 15 (o_8.2)) o_9), (oX1 (p3a 0) p3a p3k p3n (o_7.2.1) (o_7.2.2))] : List va_W))) (wr := (List.flatten ([(oX6 (p1a 0) p1a p1k p1w p1l), (oX9 (p3a 3) p3_2a p3_2k p3_2n (o_1.2)), (oX8 (p0a 1) p0_0a p0_0k (o_8.1))] : List va_W))) (w1 := (List.flatten ([(oX4 (p0a 0) p0a p0k (srw (o_4.2.1) 15 (o_8.2)) o_10), (oX1 (p3a 0) p3a p3k p3n (o_7.2.1) (o_7.2.2))] : List va_W))) (t1 := (List.flatten ([(tX4 p0k), (tX1 p3k)] : List (List (ClassId × FieldType))))) hPx hDx hKx hk1 hFc b1 (va_K.moved hvm.symm b2) b3
    have hP : va_P (dC, dI) cls (List.flatten ([(oX4 (p0a 0) p0a p0k (srw (o_4.2.1) 15 (o_8.2)) o_10), (oX6 (p1a 0) p1a p1k p1w p1l), (oX1 (p3a 0) p3a p3k p3n (o_7.2.1) (o_7.2.2)), (oX9 (p3a 3) p3_2a p3_2k p3_2n (o_1.2)), (oX8 (p0a 1) p0_0a p0_0k (o_8.1))] : List va_W)) H := vP_perm (vP_fb hP) (bP (((List.Perm.refl _)).trans ((((((List.Perm.refl _)).cons _).trans (List.Perm.swap _ _ _))).cons _)))
    have hD : va_D A (List.flatten ([(oX4 (p0a 0) p0a p0k (srw (o_4.2.1) 15 (o_8.2)) o_10), (oX6 (p1a 0) p1a p1k p1w p1l), (oX1 (p3a 0) p3a p3k p3n (o_7.2.1) (o_7.2.2)), (oX9 (p3a 3) p3_2a p3_2k p3_2n (o_1.2)), (oX8 (p0a 1) p0_0a p0_0k (o_8.1))] : List va_W)) := vD_perm (vD_fb hD) (bP (((List.Perm.refl _)).trans ((((((List.Perm.refl _)).cons _).trans (List.Perm.swap _ _ _))).cons _)))
    have hK : va_K (dC, dI) cls (List.flatten ([(tX4 p0k), (tX6 p1k), (tX1 p3k), (tX9 p3_2k), (tX8 p0_0k)] : List (List (ClassId × FieldType)))) s := vK_perm (vK_fb hK) (bP (((List.Perm.refl _)).trans ((((((List.Perm.refl _)).cons _).trans (List.Perm.swap _ _ _))).cons _)))
    refine lv_iconst (v := 0) hx hb dX4_make_70 (by decide) ?_
    refine lv_istore (lv' := [(5, .int 0), (4, .int ((o_4.2.2) 0 0)), (0, .ref (p0a 0)), (1, .ref (p1a 0)), (2, .int p2), (3, .ref (p3a 0))]) hx hb dX4_make_71 hl (by decide) rfl (fun ls hl => ?_)
    obtain ⟨o73, hc73, hrun⟩ := bnd9 hrun
    have hgl9_73_0 : ∀ {t73 : ST × ST × (Nat → Nat) × (Nat → Nat)}, (fX4_make_G102_23 p1w p2 o_1 o_7 o_8 o_10 t73) = some o → glX1 (t73.2.2.1) (o.2.2.2.2.2.1) := fun h7 => ((mo_fX4_make_G102_23 h7).1)
    have hgl9_73_1 : ∀ {t73 : ST × ST × (Nat → Nat) × (Nat → Nat)}, (fX4_make_G102_23 p1w p2 o_1 o_7 o_8 o_10 t73) = some o → glX9 (t73.2.2.2) (o.2.2.2.2.2.2.2.1) := fun h7 => ((mo_fX4_make_G102_23 h7).2)
    have L73 : ∀ (n_73 : Nat) (v5_73 : Int32) (p0w_73 : ST) (p3w_73 : ST) (p3n_73 : Nat → Nat) (p3_2n_73 : Nat → Nat) (xp3_18_73 : Nat) (zp3_18_73 : ClassId) (xp3_19_73 : Nat) (zp3_19_73 : ClassId) (xp3_20_73 : Nat) (zp3_20_73 : ClassId) (xp3_2_1_73 : Nat) (zp3_2_1_73 : ClassId) (xp3_2_2_73 : Nat) (zp3_2_2_73 : ClassId) (xp3_2_3_73 : Nat) (zp3_2_3_73 : ClassId) (xp3_2_4_73 : Nat) (zp3_2_4_73 : ClassId) (xp3_2_5_73 : Nat) (zp3_2_5_73 : ClassId) (o73 : (Sum (Int32 × ST × SL × ST × SL × (Nat → Nat) × ST × (Nat → Nat) × ST) (ST × ST × (Nat → Nat) × (Nat → Nat)))) (H : Heap) (locs : List Loc) (ls : Array Slot), (fX4_make_L73 p1w p2 o_1 o_7 o_8 o_10 n_73) v5_73 p0w_73 p3w_73 p3n_73 p3_2n_73 = some o73 → va_P (dC, dI) cls (List.flatten ([(oX4 (p0a 0) p0a p0k p0w_73 o_10), (oX6 (p1a 0) p1a p1k p1w p1l), (oX1 (p3a 0) (st1 (st1 (st1 p3a 19 xp3_18_73) 20 xp3_19_73) 21 xp3_20_73) (st1 (st1 (st1 p3k 19 zp3_18_73) 20 zp3_19_73) 21 zp3_20_73) p3n_73 p3w_73 (o_7.2.2)), (oX9 (p3a 3) (st1 (st1 (st1 (st1 (st1 p3_2a 2 xp3_2_1_73) 3 xp3_2_2_73) 4 xp3_2_3_73) 5 xp3_2_4_73) 6 xp3_2_5_73) (st1 (st1 (st1 (st1 (st1 p3_2k 2 zp3_2_1_73) 3 zp3_2_2_73) 4 zp3_2_3_73) 5 zp3_2_4_73) 6 zp3_2_5_73) p3_2n_73 (o_1.2)), (oX8 (p0a 1) p0_0a p0_0k (o_8.1))] : List va_W)) H → va_D A (List.flatten ([(oX4 (p0a 0) p0a p0k p0w_73 o_10), (oX6 (p1a 0) p1a p1k p1w p1l), (oX1 (p3a 0) (st1 (st1 (st1 p3a 19 xp3_18_73) 20 xp3_19_73) 21 xp3_20_73) (st1 (st1 (st1 p3k 19 zp3_18_73) 20 zp3_19_73) 21 zp3_20_73) p3n_73 p3w_73 (o_7.2.2)), (oX9 (p3a 3) (st1 (st1 (st1 (st1 (st1 p3_2a 2 xp3_2_1_73) 3 xp3_2_2_73) 4 xp3_2_3_73) 5 xp3_2_4_73) 6 xp3_2_5_73) (st1 (st1 (st1 (st1 (st1 p3_2k 2 zp3_2_1_73) 3 zp3_2_2_73) 4 zp3_2_3_73) 5 zp3_2_4_73) 6 zp3_2_5_73) p3_2n_73 (o_1.2)), (oX8 (p0a 1) p0_0a p0_0k (o_8.1))] : List va_W)) → va_K (dC, dI) cls (List.flatten ([(tX4 p0k), (tX6 p1k), (tX1 (st1 (st1 (st1 p3k 19 zp3_18_73) 20 zp3_19_73) 21 zp3_20_73)), (tX9 (st1 (st1 (st1 (st1 (st1 p3_2k 2 zp3_2_1_73) 3 zp3_2_2_73) 4 zp3_2_3_73) 5 zp3_2_4_73) 6 zp3_2_5_73)), (tX8 p0_0k)] : List (List (ClassId × FieldType)))) s → va_S A s.heap H locs → lv_has ls 6 [(0, .ref (p0a 0)), (1, .ref (p1a 0)), (2, .int p2), (3, .ref (p3a 0)), (5, .int v5_73)] → glX1 p3n p3n_73 → glX9 p3_2n p3_2n_73 → (∀ r, o73 = Sum.inl r → r = o) → (∀ t7, o73 = Sum.inr t7 → glX1 (t7.2.2.1) (o.2.2.2.2.2.1)) → (∀ t7, o73 = Sum.inr t7 → glX9 (t7.2.2.2) (o.2.2.2.2.2.2.2.1)) → (∀ (t73 : ST × ST × (Nat → Nat) × (Nat → Nat)), o73 = Sum.inr t73 → ∀ (xp3_18_73x : Nat) (zp3_18_73x : ClassId) (xp3_19_73x : Nat) (zp3_19_73x : ClassId) (xp3_20_73x : Nat) (zp3_20_73x : ClassId) (xp3_2_1_73x : Nat) (zp3_2_1_73x : ClassId) (xp3_2_2_73x : Nat) (zp3_2_2_73x : ClassId) (xp3_2_3_73x : Nat) (zp3_2_3_73x : ClassId) (xp3_2_4_73x : Nat) (zp3_2_4_73x : ClassId) (xp3_2_5_73x : Nat) (zp3_2_5_73x : ClassId) (H : Heap) (locs : List Loc) (ls : Array Slot), va_P (dC, dI) cls (List.flatten ([(oX4 (p0a 0) p0a p0k (t73.1) o_10), (oX6 (p1a 0) p1a p1k p1w p1l), (oX1 (p3a 0) (st1 (st1 (st1 p3a 19 xp3_18_73x) 20 xp3_19_73x) 21 xp3_20_73x) (st1 (st1 (st1 p3k 19 zp3_18_73x) 20 zp3_19_73x) 21 zp3_20_73x) (t73.2.2.1) (t73.2.1) (o_7.2.2)), (oX9 (p3a 3) (st1 (st1 (st1 (st1 (st1 p3_2a 2 xp3_2_1_73x) 3 xp3_2_2_73x) 4 xp3_2_3_73x) 5 xp3_2_4_73x) 6 xp3_2_5_73x) (st1 (st1 (st1 (st1 (st1 p3_2k 2 zp3_2_1_73x) 3 zp3_2_2_73x) 4 zp3_2_3_73x) 5 zp3_2_4_73x) 6 zp3_2_5_73x) (t73.2.2.2) (o_1.2)), (oX8 (p0a 1) p0_0a p0_0k (o_8.1))] : List va_W)) H → va_D A (List.flatten ([(oX4 (p0a 0) p0a p0k (t73.1) o_10), (oX6 (p1a 0) p1a p1k p1w p1l), (oX1 (p3a 0) (st1 (st1 (st1 p3a 19 xp3_18_73x) 20 xp3_19_73x) 21 xp3_20_73x) (st1 (st1 (st1 p3k 19 zp3_18_73x) 20 zp3_19_73x) 21 zp3_20_73x) (t73.2.2.1) (t73.2.1) (o_7.2.2)), (oX9 (p3a 3) (st1 (st1 (st1 (st1 (st1 p3_2a 2 xp3_2_1_73x) 3 xp3_2_2_73x) 4 xp3_2_3_73x) 5 xp3_2_4_73x) 6 xp3_2_5_73x) (st1 (st1 (st1 (st1 (st1 p3_2k 2 zp3_2_1_73x) 3 zp3_2_2_73x) 4 zp3_2_3_73x) 5 zp3_2_4_73x) 6 zp3_2_5_73x) (t73.2.2.2) (o_1.2)), (oX8 (p0a 1) p0_0a p0_0k (o_8.1))] : List va_W)) → va_K (dC, dI) cls (List.flatten ([(tX4 p0k), (tX6 p1k), (tX1 (st1 (st1 (st1 p3k 19 zp3_18_73x) 20 zp3_19_73x) 21 zp3_20_73x)), (tX9 (st1 (st1 (st1 (st1 (st1 p3_2k 2 zp3_2_1_73x) 3 zp3_2_2_73x) 4 zp3_2_3_73x) 5 zp3_2_4_73x) 6 zp3_2_5_73x)), (tX8 p0_0k)] : List (List (ClassId × FieldType)))) s → va_S A s.heap H locs → lv_has ls 6 [(0, .ref (p0a 0)), (1, .ref (p1a 0)), (2, .int p2), (3, .ref (p3a 0))] → glX1 p3n (t73.2.2.1) → glX9 p3_2n (t73.2.2.2) → W p l e ({ frames := 6, cells := (hcX1 p3n (o.2.2.2.2.2.1) + hcX9 p3_2n (o.2.2.2.2.2.2.2.1)), slots := (3 * (gcX1 p3n (o.2.2.2.2.2.1) + gcX9 p3_2n (o.2.2.2.2.2.2.2.1))), locals := 168 } : Room) s m ([.ref (p0a 0), .ref (p1a 0), .int p2, .ref (p3a 0)] : List Value).toArray below meth c H locs (hcX1 p3n (t73.2.2.1) + hcX9 p3_2n (t73.2.2.2)) (3 * (gcX1 p3n (t73.2.2.1) + gcX9 p3_2n (t73.2.2.2))) Q (F0 m 102 ls [])) → W p l e ({ frames := 6, cells := (hcX1 p3n (o.2.2.2.2.2.1) + hcX9 p3_2n (o.2.2.2.2.2.2.2.1)), slots := (3 * (gcX1 p3n (o.2.2.2.2.2.1) + gcX9 p3_2n (o.2.2.2.2.2.2.2.1))), locals := 168 } : Room) s m ([.ref (p0a 0), .ref (p1a 0), .int p2, .ref (p3a 0)] : List Value).toArray below meth c H locs (hcX1 p3n p3n_73 + hcX9 p3_2n p3_2n_73) (3 * (gcX1 p3n p3n_73 + gcX9 p3_2n p3_2n_73)) Q (F0 m 73 ls []) := by
      intro n_73
      induction n_73 with
      | zero => intro v5_73 p0w_73 p3w_73 p3n_73 p3_2n_73 xp3_18_73 zp3_18_73 xp3_19_73 zp3_19_73 xp3_20_73 zp3_20_73 xp3_2_1_73 zp3_2_1_73 xp3_2_2_73 zp3_2_2_73 xp3_2_3_73 zp3_2_3_73 xp3_2_4_73 zp3_2_4_73 xp3_2_5_73 zp3_2_5_73 o73 H locs ls hrun; exact (no9 rfl hrun).elim
      | succ n_73 IH73 =>
        intro v5_73 p0w_73 p3w_73 p3n_73 p3_2n_73 xp3_18_73 zp3_18_73 xp3_19_73 zp3_19_73 xp3_20_73 zp3_20_73 xp3_2_1_73 zp3_2_1_73 xp3_2_2_73 zp3_2_2_73 xp3_2_3_73 zp3_2_3_73 xp3_2_4_73 zp3_2_4_73 xp3_2_5_73 zp3_2_5_73 o73 H locs ls hrun hP hD hK hS hl hg_p3 hg_p3_2 hr73 hgo_p3 hgo_p3_2 hk73
        have hgn_p3 : glX1 p3n_73 (o.2.2.2.2.2.1) := (glX1_el (f := fun r7 => (r7.2.2.2.2.2.1)) (g := fun t7 => (t7.2.2.1)) ((mo_fX4_make_L73 (n_73 + 1) _ _ _ _ _ _ hrun).1) hr73 hgo_p3)
        have hgn_p3_2 : glX9 p3_2n_73 (o.2.2.2.2.2.2.2.1) := (glX9_el (f := fun r7 => (r7.2.2.2.2.2.2.2.1)) (g := fun t7 => (t7.2.2.2)) ((mo_fX4_make_L73 (n_73 + 1) _ _ _ _ _ _ hrun).2) hr73 hgo_p3_2)
        unfold fX4_make_L73 at hrun
        refine lv_iload hx hb dX4_make_73 (lv_at hl 4 rfl) ?_
        refine lv_aload_n hx hb dX4_make_75 rfl (lv_at hl 1 rfl) ?_
        refine va_get (D := (dC, dI)) (ci := 2) (v := .ref (p1a 5)) (C := RX6) (T := TX6) (N := 13) hx hb hts i_X6 hown hK hP 19 rfl rfl 4 (by decide) (hts _ qw311) (fun _ h9 => h9) rfl dX4_make_76 ?_
        refine lv_iload_n hx hb dX4_make_79 rfl (lv_at hl 2 rfl) ?_
        obtain ⟨hq11, hrun⟩ := chk9 hrun
        refine va_iald hx hb hK hP 23 21 rfl rfl (ixb_in hq11) dX4_make_80 ?_
        rcases br9 hrun with ⟨hc12, hrun⟩ | ⟨hc12, hrun⟩
        · refine lv_icmp_ge (tgt := 102) hx hb dX4_make_81 (by decide) (fun _ => ?_) (fun c => absurd hc12 c)
          obtain rfl := (Option.some.inj hrun)
          exact hk73 _ rfl xp3_18_73 zp3_18_73 xp3_19_73 zp3_19_73 xp3_20_73 zp3_20_73 xp3_2_1_73 zp3_2_1_73 xp3_2_2_73 zp3_2_2_73 xp3_2_3_73 zp3_2_3_73 xp3_2_4_73 zp3_2_4_73 xp3_2_5_73 zp3_2_5_73 _ _ _ hP hD hK hS (lv_sub hl [0, 1, 2, 3] rfl) hg_p3 hg_p3_2
        · refine lv_icmp_ge (tgt := 102) hx hb dX4_make_81 (by decide) (fun c => absurd c hc12) (fun _ => ?_)
          refine lv_aload_n hx hb dX4_make_84 rfl (lv_at hl 0 rfl) ?_
          refine lv_aload_n hx hb dX4_make_85 rfl (lv_at hl 3 rfl) ?_
          refine lv_iload hx hb dX4_make_86 (lv_at hl 4 rfl) ?_
          obtain ⟨o_13, hc_13, hrun⟩ := bnd9 hrun
          have hPx : va_P (dC, dI) cls ((List.flatten ([(oX4 (p0a 0) p0a p0k p0w_73 o_10), (oX1 (p3a 0) (st1 (st1 (st1 p3a 19 xp3_18_73) 20 xp3_19_73) 21 xp3_20_73) (st1 (st1 (st1 p3k 19 zp3_18_73) 20 zp3_19_73) 21 zp3_20_73) p3n_73 p3w_73 (o_7.2.2))] : List va_W)) ++ (List.flatten ([(oX6 (p1a 0) p1a p1k p1w p1l), (oX9 (p3a 3) (st1 (st1 (st1 (st1 (st1 p3_2a 2 xp3_2_1_73) 3 xp3_2_2_73) 4 xp3_2_3_73) 5 xp3_2_4_73) 6 xp3_2_5_73) (st1 (st1 (st1 (st1 (st1 p3_2k 2 zp3_2_1_73) 3 zp3_2_2_73) 4 zp3_2_3_73) 5 zp3_2_4_73) 6 zp3_2_5_73) p3_2n_73 (o_1.2)), (oX8 (p0a 1) p0_0a p0_0k (o_8.1))] : List va_W))) H := vP_fa (vP_perm hP (bP (((List.Perm.refl _)).trans ((((((List.Perm.refl _)).cons _).trans (List.Perm.swap _ _ _))).cons _))))
          have hDx : va_D A ((List.flatten ([(oX4 (p0a 0) p0a p0k p0w_73 o_10), (oX1 (p3a 0) (st1 (st1 (st1 p3a 19 xp3_18_73) 20 xp3_19_73) 21 xp3_20_73) (st1 (st1 (st1 p3k 19 zp3_18_73) 20 zp3_19_73) 21 zp3_20_73) p3n_73 p3w_73 (o_7.2.2))] : List va_W)) ++ (List.flatten ([(oX6 (p1a 0) p1a p1k p1w p1l), (oX9 (p3a 3) (st1 (st1 (st1 (st1 (st1 p3_2a 2 xp3_2_1_73) 3 xp3_2_2_73) 4 xp3_2_3_73) 5 xp3_2_4_73) 6 xp3_2_5_73) (st1 (st1 (st1 (st1 (st1 p3_2k 2 zp3_2_1_73) 3 zp3_2_2_73) 4 zp3_2_3_73) 5 zp3_2_4_73) 6 zp3_2_5_73) p3_2n_73 (o_1.2)), (oX8 (p0a 1) p0_0a p0_0k (o_8.1))] : List va_W))) := vD_fa (vD_perm hD (bP (((List.Perm.refl _)).trans ((((((List.Perm.refl _)).cons _).trans (List.Perm.swap _ _ _))).cons _))))
          have hKx : va_K (dC, dI) cls ((List.flatten ([(tX4 p0k), (tX1 (st1 (st1 (st1 p3k 19 zp3_18_73) 20 zp3_19_73) 21 zp3_20_73))] : List (List (ClassId × FieldType)))) ++ (List.flatten ([(tX6 p1k), (tX9 (st1 (st1 (st1 (st1 (st1 p3_2k 2 zp3_2_1_73) 3 zp3_2_2_73) 4 zp3_2_3_73) 5 zp3_2_4_73) 6 zp3_2_5_73)), (tX8 p0_0k)] : List (List (ClassId × FieldType))))) s := vK_fa (vK_perm hK (bP (((List.Perm.refl _)).trans ((((((List.Perm.refl _)).cons _).trans (List.Perm.swap _ _ _))).cons _))))
          have hPc := vP_l hPx
          have hDc := vD_l hDx
          have hKc := vK_l hKx
          have hFc := vfree hDx hS hA
          have hgn_p3 : glX1 (o_13.2.2.2) (o.2.2.2.2.2.1) := (glX1_el (f := fun r7 => (r7.2.2.2.2.2.1)) (g := fun t7 => (t7.2.2.1)) ((mo_fX4_make_G91_21 (mo_fX4_make_L73 n_73) hrun).1) hr73 hgo_p3)
          have hgn_p3_2 : glX9 p3_2n_73 (o.2.2.2.2.2.2.2.1) := (glX9_el (f := fun r7 => (r7.2.2.2.2.2.2.2.1)) (g := fun t7 => (t7.2.2.2)) ((mo_fX4_make_G91_21 (mo_fX4_make_L73 n_73) hrun).2) hr73 hgo_p3_2)
          refine va_calli (va_runV (As := [.ref (p3a 0), .int v5_73]) (rest := []) ⟨hx, hb, hml, hown, hts⟩ (kX4_placePhis l dC dI (p0a := p0a) (p0k := p0k) (p0w := p0w_73) (p0l := o_10) (p1a := (st0 (p3a 0) (st1 (st1 (st1 p3a 19 xp3_18_73) 20 xp3_19_73) 21 xp3_20_73))) (p1k := (st1 (st1 (st1 p3k 19 zp3_18_73) 20 zp3_19_73) 21 zp3_20_73)) (p1n := p3n_73) (p1w := p3w_73) (p1l := (o_7.2.2)) (p2 := v5_73) (sz := _) (o := o_13) (hrun := hc_13)) (cwV 2 hts (gi_V qw404 qw405 qw406 qw270 (gi_z qw403)) rfl rfl rfl (by decide +kernel) ⟨Nat.le_of_ble_eq_true rfl, Nat.le_of_ble_eq_true rfl⟩) ⟨PRE.blind, va_recv hKc hPc (ci := 6) (q0 := 0) rfl rfl, PRE.of hE hS hFc hPc hKc hDc⟩ rfl rfl hl.1 rfl (lv_room (Nat.le_of_ble_eq_true rfl)) dX4_make_88 ⟨(show (hcX1 p3n p3n_73 + hcX9 p3_2n p3_2n_73) + (hcX1 p3n_73 (o_13.2.2.2)) ≤ (hcX1 p3n (o.2.2.2.2.2.1) + hcX9 p3_2n (o.2.2.2.2.2.2.2.1)) from by have q0 := gsX1 hg_p3 (mo_fX4_placePhis hc_13) hgn_p3; have q1 := gmX9 hg_p3_2 hgn_p3_2; omega), (show (3 * (gcX1 p3n p3n_73 + gcX9 p3_2n p3_2n_73)) + (3 * (gcX1 p3n_73 (o_13.2.2.2))) ≤ (3 * (gcX1 p3n (o.2.2.2.2.2.1) + gcX9 p3_2n (o.2.2.2.2.2.2.2.1))) from by have q0 := gsX1 hg_p3 (mo_fX4_placePhis hc_13) hgn_p3; have q1 := gmX9 hg_p3_2 hgn_p3_2; omega)⟩) hS (fun q _ h => hFc q h) hFc (fun r14 u t H locs ht hvm hw hB hz1 hk1 hS => ?_)
          obtain ⟨x15, z16, x17, z18, x19, z20, hB⟩ := hB
          obtain ⟨b1, b2, b3⟩ := hB
          rw [ht] at b1
          obtain ⟨hP, hD, hK⟩ := JOINC (wc := (List.flatten ([(oX4 (p0a 0) p0a p0k p0w_73 o_10), (oX1 (p3a 0) (st1 (st1 (st1 p3a 19 xp3_18_73) 20 xp3_19_73) 21 xp3_20_73) (st1 (st1 (st1 p3k 19 zp3_18_73) 20 zp3_19_73) 21 zp3_20_73) p3n_73 p3w_73 (o_7.2.2))] : List va_W))) (wr := (List.flatten ([(oX6 (p1a 0) p1a p1k p1w p1l), (oX9 (p3a 3) (st1 (st1 (st1 (st1 (st1 p3_2a 2 xp3_2_1_73) 3 xp3_2_2_73) 4 xp3_2_3_73) 5 xp3_2_4_73) 6 xp3_2_5_73) (st1 (st1 (st1 (st1 (st1 p3_2k 2 zp3_2_1_73) 3 zp3_2_2_73) 4 zp3_2_3_73) 5 zp3_2_4_73) 6 zp3_2_5_73) p3_2n_73 (o_1.2)), (oX8 (p0a 1) p0_0a p0_0k (o_8.1))] : List va_W))) (w1 := (List.flatten ([(oX4 (p0a 0) p0a p0k (o_13.2.1) o_10), (oX1 (p3a 0) (st1 (st1 (st1 p3a 19 x15) 20 x17) 21 x19) (st1 (st1 (st1 p3k 19 z16) 20 z18) 21 z20) (o_13.2.2.2) (o_13.2.2.1) (o_7.2.2))] : List va_W))) (t1 := (List.flatten ([(tX4 p0k), (tX1 (st1 (st1 (st1 p3k 19 z16) 20 z18) 21 z20))] : List (List (ClassId × FieldType))))) hPx hDx hKx hk1 hFc b1 (va_K.moved hvm.symm b2) b3
          have hP : va_P (dC, dI) cls (List.flatten ([(oX4 (p0a 0) p0a p0k (o_13.2.1) o_10), (oX6 (p1a 0) p1a p1k p1w p1l), (oX1 (p3a 0) (st1 (st1 (st1 p3a 19 x15) 20 x17) 21 x19) (st1 (st1 (st1 p3k 19 z16) 20 z18) 21 z20) (o_13.2.2.2) (o_13.2.2.1) (o_7.2.2)), (oX9 (p3a 3) (st1 (st1 (st1 (st1 (st1 p3_2a 2 xp3_2_1_73) 3 xp3_2_2_73) 4 xp3_2_3_73) 5 xp3_2_4_73) 6 xp3_2_5_73) (st1 (st1 (st1 (st1 (st1 p3_2k 2 zp3_2_1_73) 3 zp3_2_2_73) 4 zp3_2_3_73) 5 zp3_2_4_73) 6 zp3_2_5_73) p3_2n_73 (o_1.2)), (oX8 (p0a 1) p0_0a p0_0k (o_8.1))] : List va_W)) H := vP_perm (vP_fb hP) (bP (((List.Perm.refl _)).trans ((((((List.Perm.refl _)).cons _).trans (List.Perm.swap _ _ _))).cons _)))
          have hD : va_D A (List.flatten ([(oX4 (p0a 0) p0a p0k (o_13.2.1) o_10), (oX6 (p1a 0) p1a p1k p1w p1l), (oX1 (p3a 0) (st1 (st1 (st1 p3a 19 x15) 20 x17) 21 x19) (st1 (st1 (st1 p3k 19 z16) 20 z18) 21 z20) (o_13.2.2.2) (o_13.2.2.1) (o_7.2.2)), (oX9 (p3a 3) (st1 (st1 (st1 (st1 (st1 p3_2a 2 xp3_2_1_73) 3 xp3_2_2_73) 4 xp3_2_3_73) 5 xp3_2_4_73) 6 xp3_2_5_73) (st1 (st1 (st1 (st1 (st1 p3_2k 2 zp3_2_1_73) 3 zp3_2_2_73) 4 zp3_2_3_73) 5 zp3_2_4_73) 6 zp3_2_5_73) p3_2n_73 (o_1.2)), (oX8 (p0a 1) p0_0a p0_0k (o_8.1))] : List va_W)) := vD_perm (vD_fb hD) (bP (((List.Perm.refl _)).trans ((((((List.Perm.refl _)).cons _).trans (List.Perm.swap _ _ _))).cons _)))
          have hK : va_K (dC, dI) cls (List.flatten ([(tX4 p0k), (tX6 p1k), (tX1 (st1 (st1 (st1 p3k 19 z16) 20 z18) 21 z20)), (tX9 (st1 (st1 (st1 (st1 (st1 p3_2k 2 zp3_2_1_73) 3 zp3_2_2_73) 4 zp3_2_3_73) 5 zp3_2_4_73) 6 zp3_2_5_73)), (tX8 p0_0k)] : List (List (ClassId × FieldType)))) s := vK_perm (vK_fb hK) (bP (((List.Perm.refl _)).trans ((((((List.Perm.refl _)).cons _).trans (List.Perm.swap _ _ _))).cons _)))
          obtain rfl : r14 = (o_13.1) := hw
          refine W.widen (k := (hcX1 p3n (o_13.2.2.2) + hcX9 p3_2n p3_2n_73)) (n := (3 * (gcX1 p3n (o_13.2.2.2) + gcX9 p3_2n p3_2n_73))) (by have a0 := gcX1_add hg_p3 (mo_fX4_placePhis hc_13); omega) (by have a0 := gcX1_add hg_p3 (mo_fX4_placePhis hc_13); omega) ?_
          have hg_p3 : glX1 p3n (o_13.2.2.2) := glX1_tr hg_p3 (mo_fX4_placePhis hc_13)
          unfold fX4_make_G91_21 at hrun
          rcases br9 hrun with ⟨hc22, hrun⟩ | ⟨hc22, hrun⟩
          · refine lv_if_ne (tgt := 96) hx hb dX4_make_91 (by decide) (fun c => absurd hc22 c) (fun _ => ?_)
            refine lv_iconst (v := 0) hx hb dX4_make_94 (by decide) ?_
            have ho9 : (0, (o_13.2.1), o_10, (o_13.2.2.1), (o_7.2.2), (o_13.2.2.2), (o_1.2), p3_2n_73, (o_8.1)) = o := hr73 _ (Option.some.inj hrun).symm
            subst ho9
            subst hQ
            exact W.zret (v := 0) hx hb hr (by decide) (fun t ht hW => ⟨⟨0, (), rfl, rfl, ⟨x15, z16, x17, z18, x19, z20, xp3_2_1_73, zp3_2_1_73, xp3_2_2_73, zp3_2_2_73, xp3_2_3_73, zp3_2_3_73, xp3_2_4_73, zp3_2_4_73, xp3_2_5_73, zp3_2_5_73, by rw [ht]; exact hP, va_K.moved hW.alike hK, hD⟩⟩, hS.F ht⟩) hS.2.2 dX4_make_95
          · refine lv_if_ne (tgt := 96) hx hb dX4_make_91 (by decide) (fun _ => ?_) (fun c => absurd c hc22)
            refine lv_iinc (v := (v5_73 + 1)) (lv' := [(5, .int (v5_73 + 1)), (0, .ref (p0a 0)), (1, .ref (p1a 0)), (2, .int p2), (3, .ref (p3a 0))]) hx hb dX4_make_96 hl (k := 4) rfl rfl (by decide) rfl (fun ls hl => ?_)
            refine lv_goto (tgt := 73) hx hb dX4_make_99 (by decide) ?_
            exact IH73 (v5_73 + 1) (o_13.2.1) (o_13.2.2.1) (o_13.2.2.2) p3_2n_73 x15 z16 x17 z18 x19 z20 xp3_2_1_73 zp3_2_1_73 xp3_2_2_73 zp3_2_2_73 xp3_2_3_73 zp3_2_3_73 xp3_2_4_73 zp3_2_4_73 xp3_2_5_73 zp3_2_5_73 o73 _ _ _ hrun hP hD hK hS (lv_sub hl [1, 2, 3, 4, 0] rfl) hg_p3 hg_p3_2 hr73 hgo_p3 hgo_p3_2 hk73
    refine L73 NF 0 (srw (o_4.2.1) 15 (o_8.2)) (o_7.2.1) p3n p3_2n (p3a 19) (p3k 19) (p3a 20) (p3k 20) (p3a 21) (p3k 21) (p3_2a 2) (p3_2k 2) (p3_2a 3) (p3_2k 3) (p3_2a 4) (p3_2k 4) (p3_2a 5) (p3_2k 5) (p3_2a 6) (p3_2k 6) o73 _ _ _ hc73 hP hD hK hS (lv_sub hl [2, 3, 4, 5, 0] rfl) hg_p3 hg_p3_2 (fun r e9 => by subst e9; exact Option.some.inj hrun) (fun t7 e9 => by subst e9; replace hrun := el9 hrun; exact hgl9_73_0 hrun) (fun t7 e9 => by subst e9; replace hrun := el9 hrun; exact hgl9_73_1 hrun) ?_
    intro t73 e9
    subst e9
    replace hrun := el9 hrun
    intro xp3_18_73x zp3_18_73x xp3_19_73x zp3_19_73x xp3_20_73x zp3_20_73x xp3_2_1_73x zp3_2_1_73x xp3_2_2_73x zp3_2_2_73x xp3_2_3_73x zp3_2_3_73x xp3_2_4_73x zp3_2_4_73x xp3_2_5_73x zp3_2_5_73x H locs ls hP hD hK hS hl hg_p3 hg_p3_2
    have hl := hl
    have hgn_p3 : glX1 (t73.2.2.1) (o.2.2.2.2.2.1) := ((mo_fX4_make_G102_23 hrun).1)
    have hgn_p3_2 : glX9 (t73.2.2.2) (o.2.2.2.2.2.2.2.1) := ((mo_fX4_make_G102_23 hrun).2)
    unfold fX4_make_G102_23 at hrun
    refine lv_aload_n hx hb dX4_make_102 rfl (lv_at hl 0 rfl) ?_
    refine lv_aload_n hx hb dX4_make_103 rfl (lv_at hl 1 rfl) ?_
    refine lv_aload_n hx hb dX4_make_104 rfl (lv_at hl 3 rfl) ?_
    obtain ⟨o_24, hc_24, hrun⟩ := bnd9 hrun
    have hPx : va_P (dC, dI) cls ((List.flatten ([(oX4 (p0a 0) p0a p0k (t73.1) o_10), (oX6 (p1a 0) p1a p1k p1w p1l), (oX1 (p3a 0) (st1 (st1 (st1 p3a 19 xp3_18_73x) 20 xp3_19_73x) 21 xp3_20_73x) (st1 (st1 (st1 p3k 19 zp3_18_73x) 20 zp3_19_73x) 21 zp3_20_73x) (t73.2.2.1) (t73.2.1) (o_7.2.2))] : List va_W)) ++ (List.flatten ([(oX9 (p3a 3) (st1 (st1 (st1 (st1 (st1 p3_2a 2 xp3_2_1_73x) 3 xp3_2_2_73x) 4 xp3_2_3_73x) 5 xp3_2_4_73x) 6 xp3_2_5_73x) (st1 (st1 (st1 (st1 (st1 p3_2k 2 zp3_2_1_73x) 3 zp3_2_2_73x) 4 zp3_2_3_73x) 5 zp3_2_4_73x) 6 zp3_2_5_73x) (t73.2.2.2) (o_1.2)), (oX8 (p0a 1) p0_0a p0_0k (o_8.1))] : List va_W))) H := vP_fa (vP_perm hP (bP (List.Perm.refl _)))
    have hDx : va_D A ((List.flatten ([(oX4 (p0a 0) p0a p0k (t73.1) o_10), (oX6 (p1a 0) p1a p1k p1w p1l), (oX1 (p3a 0) (st1 (st1 (st1 p3a 19 xp3_18_73x) 20 xp3_19_73x) 21 xp3_20_73x) (st1 (st1 (st1 p3k 19 zp3_18_73x) 20 zp3_19_73x) 21 zp3_20_73x) (t73.2.2.1) (t73.2.1) (o_7.2.2))] : List va_W)) ++ (List.flatten ([(oX9 (p3a 3) (st1 (st1 (st1 (st1 (st1 p3_2a 2 xp3_2_1_73x) 3 xp3_2_2_73x) 4 xp3_2_3_73x) 5 xp3_2_4_73x) 6 xp3_2_5_73x) (st1 (st1 (st1 (st1 (st1 p3_2k 2 zp3_2_1_73x) 3 zp3_2_2_73x) 4 zp3_2_3_73x) 5 zp3_2_4_73x) 6 zp3_2_5_73x) (t73.2.2.2) (o_1.2)), (oX8 (p0a 1) p0_0a p0_0k (o_8.1))] : List va_W))) := vD_fa (vD_perm hD (bP (List.Perm.refl _)))
    have hKx : va_K (dC, dI) cls ((List.flatten ([(tX4 p0k), (tX6 p1k), (tX1 (st1 (st1 (st1 p3k 19 zp3_18_73x) 20 zp3_19_73x) 21 zp3_20_73x))] : List (List (ClassId × FieldType)))) ++ (List.flatten ([(tX9 (st1 (st1 (st1 (st1 (st1 p3_2k 2 zp3_2_1_73x) 3 zp3_2_2_73x) 4 zp3_2_3_73x) 5 zp3_2_4_73x) 6 zp3_2_5_73x)), (tX8 p0_0k)] : List (List (ClassId × FieldType))))) s := vK_fa (vK_perm hK (bP (List.Perm.refl _)))
    have hPc := vP_l hPx
    have hDc := vD_l hDx
    have hKc := vK_l hKx
    have hFc := vfree hDx hS hA
    refine va_calli (va_runV (As := [.ref (p1a 0), .ref (p3a 0)]) (rest := []) ⟨hx, hb, hml, hown, hts⟩ (kX4_numberValues l dC dI (p0a := p0a) (p0k := p0k) (p0w := (t73.1)) (p0l := o_10) (p1a := p1a) (p1k := p1k) (p1w := p1w) (p1l := p1l) (p2a := (st0 (p3a 0) (st1 (st1 (st1 p3a 19 xp3_18_73x) 20 xp3_19_73x) 21 xp3_20_73x))) (p2k := (st1 (st1 (st1 p3k 19 zp3_18_73x) 20 zp3_19_73x) 21 zp3_20_73x)) (p2n := (t73.2.2.1)) (p2w := (t73.2.1)) (p2l := (o_7.2.2)) (sz := _) (o := o_24) (hrun := hc_24)) (cwV 2 hts (gi_V qw409 qw410 qw411 qw270 (gi_z qw408)) rfl rfl rfl (by decide +kernel) ⟨Nat.le_of_ble_eq_true rfl, Nat.le_of_ble_eq_true rfl⟩) ⟨PRE.blind, va_recv hKc hPc (ci := 6) (q0 := 0) rfl rfl, PRE.of hE hS hFc hPc hKc hDc⟩ rfl rfl hl.1 rfl (lv_room (Nat.le_of_ble_eq_true rfl)) dX4_make_105 ⟨(show (hcX1 p3n (t73.2.2.1) + hcX9 p3_2n (t73.2.2.2)) + 0 ≤ (hcX1 p3n (o.2.2.2.2.2.1) + hcX9 p3_2n (o.2.2.2.2.2.2.2.1)) from by have q0 := gmX1 hg_p3 hgn_p3; have q1 := gmX9 hg_p3_2 hgn_p3_2; omega), (show (3 * (gcX1 p3n (t73.2.2.1) + gcX9 p3_2n (t73.2.2.2))) + 0 ≤ (3 * (gcX1 p3n (o.2.2.2.2.2.1) + gcX9 p3_2n (o.2.2.2.2.2.2.2.1))) from by have q0 := gmX1 hg_p3 hgn_p3; have q1 := gmX9 hg_p3_2 hgn_p3_2; omega)⟩) hS (fun q _ h => hFc q h) hFc (fun r25 u t H locs ht hvm hw hB hz1 hk1 hS => ?_)
    obtain ⟨b1, b2, b3⟩ := hB
    rw [ht] at b1
    obtain ⟨hP, hD, hK⟩ := JOINC (wc := (List.flatten ([(oX4 (p0a 0) p0a p0k (t73.1) o_10), (oX6 (p1a 0) p1a p1k p1w p1l), (oX1 (p3a 0) (st1 (st1 (st1 p3a 19 xp3_18_73x) 20 xp3_19_73x) 21 xp3_20_73x) (st1 (st1 (st1 p3k 19 zp3_18_73x) 20 zp3_19_73x) 21 zp3_20_73x) (t73.2.2.1) (t73.2.1) (o_7.2.2))] : List va_W))) (wr := (List.flatten ([(oX9 (p3a 3) (st1 (st1 (st1 (st1 (st1 p3_2a 2 xp3_2_1_73x) 3 xp3_2_2_73x) 4 xp3_2_3_73x) 5 xp3_2_4_73x) 6 xp3_2_5_73x) (st1 (st1 (st1 (st1 (st1 p3_2k 2 zp3_2_1_73x) 3 zp3_2_2_73x) 4 zp3_2_3_73x) 5 zp3_2_4_73x) 6 zp3_2_5_73x) (t73.2.2.2) (o_1.2)), (oX8 (p0a 1) p0_0a p0_0k (o_8.1))] : List va_W))) (w1 := (List.flatten ([(oX4 (p0a 0) p0a p0k (o_24.2.1) o_10), (oX6 (p1a 0) p1a p1k p1w p1l), (oX1 (p3a 0) (st1 (st1 (st1 p3a 19 xp3_18_73x) 20 xp3_19_73x) 21 xp3_20_73x) (st1 (st1 (st1 p3k 19 zp3_18_73x) 20 zp3_19_73x) 21 zp3_20_73x) (t73.2.2.1) (o_24.2.2) (o_7.2.2))] : List va_W))) (t1 := (List.flatten ([(tX4 p0k), (tX6 p1k), (tX1 (st1 (st1 (st1 p3k 19 zp3_18_73x) 20 zp3_19_73x) 21 zp3_20_73x))] : List (List (ClassId × FieldType))))) hPx hDx hKx hk1 hFc b1 (va_K.moved hvm.symm b2) b3
    have hP : va_P (dC, dI) cls (List.flatten ([(oX4 (p0a 0) p0a p0k (o_24.2.1) o_10), (oX6 (p1a 0) p1a p1k p1w p1l), (oX1 (p3a 0) (st1 (st1 (st1 p3a 19 xp3_18_73x) 20 xp3_19_73x) 21 xp3_20_73x) (st1 (st1 (st1 p3k 19 zp3_18_73x) 20 zp3_19_73x) 21 zp3_20_73x) (t73.2.2.1) (o_24.2.2) (o_7.2.2)), (oX9 (p3a 3) (st1 (st1 (st1 (st1 (st1 p3_2a 2 xp3_2_1_73x) 3 xp3_2_2_73x) 4 xp3_2_3_73x) 5 xp3_2_4_73x) 6 xp3_2_5_73x) (st1 (st1 (st1 (st1 (st1 p3_2k 2 zp3_2_1_73x) 3 zp3_2_2_73x) 4 zp3_2_3_73x) 5 zp3_2_4_73x) 6 zp3_2_5_73x) (t73.2.2.2) (o_1.2)), (oX8 (p0a 1) p0_0a p0_0k (o_8.1))] : List va_W)) H := vP_perm (vP_fb hP) (bP (List.Perm.refl _))
    have hD : va_D A (List.flatten ([(oX4 (p0a 0) p0a p0k (o_24.2.1) o_10), (oX6 (p1a 0) p1a p1k p1w p1l), (oX1 (p3a 0) (st1 (st1 (st1 p3a 19 xp3_18_73x) 20 xp3_19_73x) 21 xp3_20_73x) (st1 (st1 (st1 p3k 19 zp3_18_73x) 20 zp3_19_73x) 21 zp3_20_73x) (t73.2.2.1) (o_24.2.2) (o_7.2.2)), (oX9 (p3a 3) (st1 (st1 (st1 (st1 (st1 p3_2a 2 xp3_2_1_73x) 3 xp3_2_2_73x) 4 xp3_2_3_73x) 5 xp3_2_4_73x) 6 xp3_2_5_73x) (st1 (st1 (st1 (st1 (st1 p3_2k 2 zp3_2_1_73x) 3 zp3_2_2_73x) 4 zp3_2_3_73x) 5 zp3_2_4_73x) 6 zp3_2_5_73x) (t73.2.2.2) (o_1.2)), (oX8 (p0a 1) p0_0a p0_0k (o_8.1))] : List va_W)) := vD_perm (vD_fb hD) (bP (List.Perm.refl _))
    have hK : va_K (dC, dI) cls (List.flatten ([(tX4 p0k), (tX6 p1k), (tX1 (st1 (st1 (st1 p3k 19 zp3_18_73x) 20 zp3_19_73x) 21 zp3_20_73x)), (tX9 (st1 (st1 (st1 (st1 (st1 p3_2k 2 zp3_2_1_73x) 3 zp3_2_2_73x) 4 zp3_2_3_73x) 5 zp3_2_4_73x) 6 zp3_2_5_73x)), (tX8 p0_0k)] : List (List (ClassId × FieldType)))) s := vK_perm (vK_fb hK) (bP (List.Perm.refl _))
    obtain rfl : r25 = (o_24.1) := hw
    rcases br9 hrun with ⟨hc26, hrun⟩ | ⟨hc26, hrun⟩
    · refine lv_if_ne (tgt := 113) hx hb dX4_make_108 (by decide) (fun c => absurd hc26 c) (fun _ => ?_)
      refine lv_iconst (v := 0) hx hb dX4_make_111 (by decide) ?_
      have ho9 : (0, (o_24.2.1), o_10, (o_24.2.2), (o_7.2.2), (t73.2.2.1), (o_1.2), (t73.2.2.2), (o_8.1)) = o := Option.some.inj hrun
      subst ho9
      subst hQ
      exact W.zret (v := 0) hx hb hr (by decide) (fun t ht hW => ⟨⟨0, (), rfl, rfl, ⟨xp3_18_73x, zp3_18_73x, xp3_19_73x, zp3_19_73x, xp3_20_73x, zp3_20_73x, xp3_2_1_73x, zp3_2_1_73x, xp3_2_2_73x, zp3_2_2_73x, xp3_2_3_73x, zp3_2_3_73x, xp3_2_4_73x, zp3_2_4_73x, xp3_2_5_73x, zp3_2_5_73x, by rw [ht]; exact hP, va_K.moved hW.alike hK, hD⟩⟩, hS.F ht⟩) hS.2.2 dX4_make_112
    · refine lv_if_ne (tgt := 113) hx hb dX4_make_108 (by decide) (fun _ => ?_) (fun c => absurd c hc26)
      refine lv_iconst (v := 0) hx hb dX4_make_113 (by decide) ?_
      refine lv_istore (lv' := [(5, .int 0), (0, .ref (p0a 0)), (1, .ref (p1a 0)), (2, .int p2), (3, .ref (p3a 0))]) hx hb dX4_make_114 hl (by decide) rfl (fun ls hl => ?_)
      obtain ⟨o116, hc116, hrun⟩ := bnd9 hrun
      have hgn_p3 : glX1 (t73.2.2.1) (o.2.2.2.2.2.1) := ((mo_fX4_make_G140_40 hrun).1)
      have hgn_p3_2 : glX9 (o116.2.2.2) (o.2.2.2.2.2.2.2.1) := ((mo_fX4_make_G140_40 hrun).2)
      have L116 : ∀ (n_116 : Nat) (v5_116 : Int32) (p0w_116 : ST) (p3w_116 : ST) (p3_2w_116 : ST) (p3_2n_116 : Nat → Nat) (xp3_2_1_116 : Nat) (zp3_2_1_116 : ClassId) (xp3_2_2_116 : Nat) (zp3_2_2_116 : ClassId) (xp3_2_3_116 : Nat) (zp3_2_3_116 : ClassId) (xp3_2_4_116 : Nat) (zp3_2_4_116 : ClassId) (xp3_2_5_116 : Nat) (zp3_2_5_116 : ClassId) (o116 : ST × ST × ST × (Nat → Nat)) (H : Heap) (locs : List Loc) (ls : Array Slot), (fX4_make_L116 p1w p2 t73 n_116) v5_116 p0w_116 p3w_116 p3_2w_116 p3_2n_116 = some o116 → va_P (dC, dI) cls (List.flatten ([(oX4 (p0a 0) p0a p0k p0w_116 o_10), (oX6 (p1a 0) p1a p1k p1w p1l), (oX1 (p3a 0) (st1 (st1 (st1 p3a 19 xp3_18_73x) 20 xp3_19_73x) 21 xp3_20_73x) (st1 (st1 (st1 p3k 19 zp3_18_73x) 20 zp3_19_73x) 21 zp3_20_73x) (t73.2.2.1) p3w_116 (o_7.2.2)), (oX9 (p3a 3) (st1 (st1 (st1 (st1 (st1 p3_2a 2 xp3_2_1_116) 3 xp3_2_2_116) 4 xp3_2_3_116) 5 xp3_2_4_116) 6 xp3_2_5_116) (st1 (st1 (st1 (st1 (st1 p3_2k 2 zp3_2_1_116) 3 zp3_2_2_116) 4 zp3_2_3_116) 5 zp3_2_4_116) 6 zp3_2_5_116) p3_2n_116 p3_2w_116), (oX8 (p0a 1) p0_0a p0_0k (o_8.1))] : List va_W)) H → va_D A (List.flatten ([(oX4 (p0a 0) p0a p0k p0w_116 o_10), (oX6 (p1a 0) p1a p1k p1w p1l), (oX1 (p3a 0) (st1 (st1 (st1 p3a 19 xp3_18_73x) 20 xp3_19_73x) 21 xp3_20_73x) (st1 (st1 (st1 p3k 19 zp3_18_73x) 20 zp3_19_73x) 21 zp3_20_73x) (t73.2.2.1) p3w_116 (o_7.2.2)), (oX9 (p3a 3) (st1 (st1 (st1 (st1 (st1 p3_2a 2 xp3_2_1_116) 3 xp3_2_2_116) 4 xp3_2_3_116) 5 xp3_2_4_116) 6 xp3_2_5_116) (st1 (st1 (st1 (st1 (st1 p3_2k 2 zp3_2_1_116) 3 zp3_2_2_116) 4 zp3_2_3_116) 5 zp3_2_4_116) 6 zp3_2_5_116) p3_2n_116 p3_2w_116), (oX8 (p0a 1) p0_0a p0_0k (o_8.1))] : List va_W)) → va_K (dC, dI) cls (List.flatten ([(tX4 p0k), (tX6 p1k), (tX1 (st1 (st1 (st1 p3k 19 zp3_18_73x) 20 zp3_19_73x) 21 zp3_20_73x)), (tX9 (st1 (st1 (st1 (st1 (st1 p3_2k 2 zp3_2_1_116) 3 zp3_2_2_116) 4 zp3_2_3_116) 5 zp3_2_4_116) 6 zp3_2_5_116)), (tX8 p0_0k)] : List (List (ClassId × FieldType)))) s → va_S A s.heap H locs → lv_has ls 6 [(0, .ref (p0a 0)), (1, .ref (p1a 0)), (2, .int p2), (3, .ref (p3a 0)), (5, .int v5_116)] → glX1 p3n (t73.2.2.1) → glX9 p3_2n p3_2n_116 → glX9 (o116.2.2.2) (o.2.2.2.2.2.2.2.1) → (∀ (xp3_2_1_116x : Nat) (zp3_2_1_116x : ClassId) (xp3_2_2_116x : Nat) (zp3_2_2_116x : ClassId) (xp3_2_3_116x : Nat) (zp3_2_3_116x : ClassId) (xp3_2_4_116x : Nat) (zp3_2_4_116x : ClassId) (xp3_2_5_116x : Nat) (zp3_2_5_116x : ClassId) (H : Heap) (locs : List Loc) (ls : Array Slot), va_P (dC, dI) cls (List.flatten ([(oX4 (p0a 0) p0a p0k (o116.1) o_10), (oX6 (p1a 0) p1a p1k p1w p1l), (oX1 (p3a 0) (st1 (st1 (st1 p3a 19 xp3_18_73x) 20 xp3_19_73x) 21 xp3_20_73x) (st1 (st1 (st1 p3k 19 zp3_18_73x) 20 zp3_19_73x) 21 zp3_20_73x) (t73.2.2.1) (o116.2.1) (o_7.2.2)), (oX9 (p3a 3) (st1 (st1 (st1 (st1 (st1 p3_2a 2 xp3_2_1_116x) 3 xp3_2_2_116x) 4 xp3_2_3_116x) 5 xp3_2_4_116x) 6 xp3_2_5_116x) (st1 (st1 (st1 (st1 (st1 p3_2k 2 zp3_2_1_116x) 3 zp3_2_2_116x) 4 zp3_2_3_116x) 5 zp3_2_4_116x) 6 zp3_2_5_116x) (o116.2.2.2) (o116.2.2.1)), (oX8 (p0a 1) p0_0a p0_0k (o_8.1))] : List va_W)) H → va_D A (List.flatten ([(oX4 (p0a 0) p0a p0k (o116.1) o_10), (oX6 (p1a 0) p1a p1k p1w p1l), (oX1 (p3a 0) (st1 (st1 (st1 p3a 19 xp3_18_73x) 20 xp3_19_73x) 21 xp3_20_73x) (st1 (st1 (st1 p3k 19 zp3_18_73x) 20 zp3_19_73x) 21 zp3_20_73x) (t73.2.2.1) (o116.2.1) (o_7.2.2)), (oX9 (p3a 3) (st1 (st1 (st1 (st1 (st1 p3_2a 2 xp3_2_1_116x) 3 xp3_2_2_116x) 4 xp3_2_3_116x) 5 xp3_2_4_116x) 6 xp3_2_5_116x) (st1 (st1 (st1 (st1 (st1 p3_2k 2 zp3_2_1_116x) 3 zp3_2_2_116x) 4 zp3_2_3_116x) 5 zp3_2_4_116x) 6 zp3_2_5_116x) (o116.2.2.2) (o116.2.2.1)), (oX8 (p0a 1) p0_0a p0_0k (o_8.1))] : List va_W)) → va_K (dC, dI) cls (List.flatten ([(tX4 p0k), (tX6 p1k), (tX1 (st1 (st1 (st1 p3k 19 zp3_18_73x) 20 zp3_19_73x) 21 zp3_20_73x)), (tX9 (st1 (st1 (st1 (st1 (st1 p3_2k 2 zp3_2_1_116x) 3 zp3_2_2_116x) 4 zp3_2_3_116x) 5 zp3_2_4_116x) 6 zp3_2_5_116x)), (tX8 p0_0k)] : List (List (ClassId × FieldType)))) s → va_S A s.heap H locs → lv_has ls 6 [(0, .ref (p0a 0)), (3, .ref (p3a 0))] → glX1 p3n (t73.2.2.1) → glX9 p3_2n (o116.2.2.2) → W p l e ({ frames := 6, cells := (hcX1 p3n (o.2.2.2.2.2.1) + hcX9 p3_2n (o.2.2.2.2.2.2.2.1)), slots := (3 * (gcX1 p3n (o.2.2.2.2.2.1) + gcX9 p3_2n (o.2.2.2.2.2.2.2.1))), locals := 168 } : Room) s m ([.ref (p0a 0), .ref (p1a 0), .int p2, .ref (p3a 0)] : List Value).toArray below meth c H locs (hcX1 p3n (t73.2.2.1) + hcX9 p3_2n (o116.2.2.2)) (3 * (gcX1 p3n (t73.2.2.1) + gcX9 p3_2n (o116.2.2.2))) Q (F0 m 140 ls [])) → W p l e ({ frames := 6, cells := (hcX1 p3n (o.2.2.2.2.2.1) + hcX9 p3_2n (o.2.2.2.2.2.2.2.1)), slots := (3 * (gcX1 p3n (o.2.2.2.2.2.1) + gcX9 p3_2n (o.2.2.2.2.2.2.2.1))), locals := 168 } : Room) s m ([.ref (p0a 0), .ref (p1a 0), .int p2, .ref (p3a 0)] : List Value).toArray below meth c H locs (hcX1 p3n (t73.2.2.1) + hcX9 p3_2n p3_2n_116) (3 * (gcX1 p3n (t73.2.2.1) + gcX9 p3_2n p3_2n_116)) Q (F0 m 116 ls []) := by
        intro n_116
        induction n_116 with
        | zero => intro v5_116 p0w_116 p3w_116 p3_2w_116 p3_2n_116 xp3_2_1_116 zp3_2_1_116 xp3_2_2_116 zp3_2_2_116 xp3_2_3_116 zp3_2_3_116 xp3_2_4_116 zp3_2_4_116 xp3_2_5_116 zp3_2_5_116 o116 H locs ls hrun; exact (no9 rfl hrun).elim
        | succ n_116 IH116 =>
          intro v5_116 p0w_116 p3w_116 p3_2w_116 p3_2n_116 xp3_2_1_116 zp3_2_1_116 xp3_2_2_116 zp3_2_2_116 xp3_2_3_116 zp3_2_3_116 xp3_2_4_116 zp3_2_4_116 xp3_2_5_116 zp3_2_5_116 o116 H locs ls hrun hP hD hK hS hl hg_p3 hg_p3_2 hgo_p3_2 hk116
          have hgn_p3_2 : glX9 p3_2n_116 (o.2.2.2.2.2.2.2.1) := (glX9_tr (mo_fX4_make_L116 (n_116 + 1) _ _ _ _ _ _ hrun) hgo_p3_2)
          unfold fX4_make_L116 at hrun
          refine lv_iload hx hb dX4_make_116 (lv_at hl 4 rfl) ?_
          refine lv_aload_n hx hb dX4_make_118 rfl (lv_at hl 3 rfl) ?_
          refine va_get (D := (dC, dI)) (ci := 4) (v := .int (p3w_116 0 0)) (C := RX1) (T := TX1) (N := 21) hx hb hts i_X1 hown hK hP 30 rfl rfl 0 (by decide) (hts _ qw313) (fun _ h9 => h9) rfl dX4_make_119 ?_
          rcases br9 hrun with ⟨hc27, hrun⟩ | ⟨hc27, hrun⟩
          · refine lv_icmp_ge (tgt := 140) hx hb dX4_make_122 (by decide) (fun _ => ?_) (fun c => absurd hc27 c)
            obtain rfl := (Option.some.inj hrun)
            exact hk116 xp3_2_1_116 zp3_2_1_116 xp3_2_2_116 zp3_2_2_116 xp3_2_3_116 zp3_2_3_116 xp3_2_4_116 zp3_2_4_116 xp3_2_5_116 zp3_2_5_116 _ _ _ hP hD hK hS (lv_sub hl [0, 3] rfl) hg_p3 hg_p3_2
          · refine lv_icmp_ge (tgt := 140) hx hb dX4_make_122 (by decide) (fun c => absurd c hc27) (fun _ => ?_)
            refine lv_aload_n hx hb dX4_make_125 rfl (lv_at hl 0 rfl) ?_
            refine lv_aload_n hx hb dX4_make_126 rfl (lv_at hl 1 rfl) ?_
            refine lv_iload_n hx hb dX4_make_127 rfl (lv_at hl 2 rfl) ?_
            refine lv_aload_n hx hb dX4_make_128 rfl (lv_at hl 3 rfl) ?_
            refine lv_iload hx hb dX4_make_129 (lv_at hl 4 rfl) ?_
            obtain ⟨o_28, hc_28, hrun⟩ := bnd9 hrun
            have hPx : va_P (dC, dI) cls ((List.flatten ([(oX4 (p0a 0) p0a p0k p0w_116 o_10), (oX6 (p1a 0) p1a p1k p1w p1l), (oX1 (p3a 0) (st1 (st1 (st1 p3a 19 xp3_18_73x) 20 xp3_19_73x) 21 xp3_20_73x) (st1 (st1 (st1 p3k 19 zp3_18_73x) 20 zp3_19_73x) 21 zp3_20_73x) (t73.2.2.1) p3w_116 (o_7.2.2)), (oX9 (p3a 3) (st1 (st1 (st1 (st1 (st1 p3_2a 2 xp3_2_1_116) 3 xp3_2_2_116) 4 xp3_2_3_116) 5 xp3_2_4_116) 6 xp3_2_5_116) (st1 (st1 (st1 (st1 (st1 p3_2k 2 zp3_2_1_116) 3 zp3_2_2_116) 4 zp3_2_3_116) 5 zp3_2_4_116) 6 zp3_2_5_116) p3_2n_116 p3_2w_116)] : List va_W)) ++ (List.flatten ([(oX8 (p0a 1) p0_0a p0_0k (o_8.1))] : List va_W))) H := vP_fa (vP_perm hP (bP (List.Perm.refl _)))
            have hDx : va_D A ((List.flatten ([(oX4 (p0a 0) p0a p0k p0w_116 o_10), (oX6 (p1a 0) p1a p1k p1w p1l), (oX1 (p3a 0) (st1 (st1 (st1 p3a 19 xp3_18_73x) 20 xp3_19_73x) 21 xp3_20_73x) (st1 (st1 (st1 p3k 19 zp3_18_73x) 20 zp3_19_73x) 21 zp3_20_73x) (t73.2.2.1) p3w_116 (o_7.2.2)), (oX9 (p3a 3) (st1 (st1 (st1 (st1 (st1 p3_2a 2 xp3_2_1_116) 3 xp3_2_2_116) 4 xp3_2_3_116) 5 xp3_2_4_116) 6 xp3_2_5_116) (st1 (st1 (st1 (st1 (st1 p3_2k 2 zp3_2_1_116) 3 zp3_2_2_116) 4 zp3_2_3_116) 5 zp3_2_4_116) 6 zp3_2_5_116) p3_2n_116 p3_2w_116)] : List va_W)) ++ (List.flatten ([(oX8 (p0a 1) p0_0a p0_0k (o_8.1))] : List va_W))) := vD_fa (vD_perm hD (bP (List.Perm.refl _)))
            have hKx : va_K (dC, dI) cls ((List.flatten ([(tX4 p0k), (tX6 p1k), (tX1 (st1 (st1 (st1 p3k 19 zp3_18_73x) 20 zp3_19_73x) 21 zp3_20_73x)), (tX9 (st1 (st1 (st1 (st1 (st1 p3_2k 2 zp3_2_1_116) 3 zp3_2_2_116) 4 zp3_2_3_116) 5 zp3_2_4_116) 6 zp3_2_5_116))] : List (List (ClassId × FieldType)))) ++ (List.flatten ([(tX8 p0_0k)] : List (List (ClassId × FieldType))))) s := vK_fa (vK_perm hK (bP (List.Perm.refl _)))
            have hPc := vP_l hPx
            have hDc := vD_l hDx
            have hKc := vK_l hKx
            have hFc := vfree hDx hS hA
            have hgn_p3_2 : glX9 (o_28.2.2.2) (o.2.2.2.2.2.2.2.1) := (glX9_tr (mo_fX4_make_G134_39 (mo_fX4_make_L116 n_116) hrun) hgo_p3_2)
            refine va_callv (va_runV (As := [.ref (p1a 0), .int p2, .ref (p3a 0), .int v5_116]) (rest := []) ⟨hx, hb, hml, hown, hts⟩ (kX4_fillBlock l dC dI (p0a := p0a) (p0k := p0k) (p0w := p0w_116) (p0l := o_10) (p1a := p1a) (p1k := p1k) (p1w := p1w) (p1l := p1l) (p2 := p2) (p3a := (st0 (p3a 0) (st1 (st1 (st1 p3a 19 xp3_18_73x) 20 xp3_19_73x) 21 xp3_20_73x))) (p3k := (st1 (st1 (st1 p3k 19 zp3_18_73x) 20 zp3_19_73x) 21 zp3_20_73x)) (p3n := (t73.2.2.1)) (p3w := p3w_116) (p3l := (o_7.2.2)) (p4 := v5_116) (p3_2a := (st1 (st1 (st1 (st1 (st1 p3_2a 2 xp3_2_1_116) 3 xp3_2_2_116) 4 xp3_2_3_116) 5 xp3_2_4_116) 6 xp3_2_5_116)) (p3_2k := (st1 (st1 (st1 (st1 (st1 p3_2k 2 zp3_2_1_116) 3 zp3_2_2_116) 4 zp3_2_3_116) 5 zp3_2_4_116) 6 zp3_2_5_116)) (p3_2n := p3_2n_116) (p3_2w := p3_2w_116) (sz := _) (o := o_28) (hrun := hc_28)) (cwV 4 hts (gi_V qw413 qw414 qw415 qw270 (gi_z qw412)) rfl rfl rfl (by decide +kernel) ⟨Nat.le_of_ble_eq_true rfl, Nat.le_of_ble_eq_true rfl⟩) ⟨PRE.blind, va_recv hKc hPc (ci := 6) (q0 := 0) rfl rfl, PRE.of hE hS hFc hPc hKc hDc⟩ rfl rfl hl.1 rfl (lv_room (Nat.le_of_ble_eq_true rfl)) dX4_make_131 ⟨(show (hcX1 p3n (t73.2.2.1) + hcX9 p3_2n p3_2n_116) + (hcX9 p3_2n_116 (o_28.2.2.2)) ≤ (hcX1 p3n (o.2.2.2.2.2.1) + hcX9 p3_2n (o.2.2.2.2.2.2.2.1)) from by have q0 := gmX1 hg_p3 hgn_p3; have q1 := gsX9 hg_p3_2 (mo_fX4_fillBlock hc_28) hgn_p3_2; omega), (show (3 * (gcX1 p3n (t73.2.2.1) + gcX9 p3_2n p3_2n_116)) + (3 * (gcX9 p3_2n_116 (o_28.2.2.2))) ≤ (3 * (gcX1 p3n (o.2.2.2.2.2.1) + gcX9 p3_2n (o.2.2.2.2.2.2.2.1))) from by have q0 := gmX1 hg_p3 hgn_p3; have q1 := gsX9 hg_p3_2 (mo_fX4_fillBlock hc_28) hgn_p3_2; omega)⟩) hS (fun q _ h => hFc q h) hFc (fun u t H locs ht hvm hw hB hz1 hk1 hS => ?_)
            obtain ⟨x29, z30, x31, z32, x33, z34, x35, z36, x37, z38, hB⟩ := hB
            obtain ⟨b1, b2, b3⟩ := hB
            rw [ht] at b1
            obtain ⟨hP, hD, hK⟩ := JOINC (wc := (List.flatten ([(oX4 (p0a 0) p0a p0k p0w_116 o_10), (oX6 (p1a 0) p1a p1k p1w p1l), (oX1 (p3a 0) (st1 (st1 (st1 p3a 19 xp3_18_73x) 20 xp3_19_73x) 21 xp3_20_73x) (st1 (st1 (st1 p3k 19 zp3_18_73x) 20 zp3_19_73x) 21 zp3_20_73x) (t73.2.2.1) p3w_116 (o_7.2.2)), (oX9 (p3a 3) (st1 (st1 (st1 (st1 (st1 p3_2a 2 xp3_2_1_116) 3 xp3_2_2_116) 4 xp3_2_3_116) 5 xp3_2_4_116) 6 xp3_2_5_116) (st1 (st1 (st1 (st1 (st1 p3_2k 2 zp3_2_1_116) 3 zp3_2_2_116) 4 zp3_2_3_116) 5 zp3_2_4_116) 6 zp3_2_5_116) p3_2n_116 p3_2w_116)] : List va_W))) (wr := (List.flatten ([(oX8 (p0a 1) p0_0a p0_0k (o_8.1))] : List va_W))) (w1 := (List.flatten ([(oX4 (p0a 0) p0a p0k (o_28.1) o_10), (oX6 (p1a 0) p1a p1k p1w p1l), (oX1 (p3a 0) (st1 (st1 (st1 p3a 19 xp3_18_73x) 20 xp3_19_73x) 21 xp3_20_73x) (st1 (st1 (st1 p3k 19 zp3_18_73x) 20 zp3_19_73x) 21 zp3_20_73x) (t73.2.2.1) (o_28.2.1) (o_7.2.2)), (oX9 (p3a 3) (st1 (st1 (st1 (st1 (st1 p3_2a 2 x29) 3 x31) 4 x33) 5 x35) 6 x37) (st1 (st1 (st1 (st1 (st1 p3_2k 2 z30) 3 z32) 4 z34) 5 z36) 6 z38) (o_28.2.2.2) (o_28.2.2.1))] : List va_W))) (t1 := (List.flatten ([(tX4 p0k), (tX6 p1k), (tX1 (st1 (st1 (st1 p3k 19 zp3_18_73x) 20 zp3_19_73x) 21 zp3_20_73x)), (tX9 (st1 (st1 (st1 (st1 (st1 p3_2k 2 z30) 3 z32) 4 z34) 5 z36) 6 z38))] : List (List (ClassId × FieldType))))) hPx hDx hKx hk1 hFc b1 (va_K.moved hvm.symm b2) b3
            have hP : va_P (dC, dI) cls (List.flatten ([(oX4 (p0a 0) p0a p0k (o_28.1) o_10), (oX6 (p1a 0) p1a p1k p1w p1l), (oX1 (p3a 0) (st1 (st1 (st1 p3a 19 xp3_18_73x) 20 xp3_19_73x) 21 xp3_20_73x) (st1 (st1 (st1 p3k 19 zp3_18_73x) 20 zp3_19_73x) 21 zp3_20_73x) (t73.2.2.1) (o_28.2.1) (o_7.2.2)), (oX9 (p3a 3) (st1 (st1 (st1 (st1 (st1 p3_2a 2 x29) 3 x31) 4 x33) 5 x35) 6 x37) (st1 (st1 (st1 (st1 (st1 p3_2k 2 z30) 3 z32) 4 z34) 5 z36) 6 z38) (o_28.2.2.2) (o_28.2.2.1)), (oX8 (p0a 1) p0_0a p0_0k (o_8.1))] : List va_W)) H := vP_perm (vP_fb hP) (bP (List.Perm.refl _))
            have hD : va_D A (List.flatten ([(oX4 (p0a 0) p0a p0k (o_28.1) o_10), (oX6 (p1a 0) p1a p1k p1w p1l), (oX1 (p3a 0) (st1 (st1 (st1 p3a 19 xp3_18_73x) 20 xp3_19_73x) 21 xp3_20_73x) (st1 (st1 (st1 p3k 19 zp3_18_73x) 20 zp3_19_73x) 21 zp3_20_73x) (t73.2.2.1) (o_28.2.1) (o_7.2.2)), (oX9 (p3a 3) (st1 (st1 (st1 (st1 (st1 p3_2a 2 x29) 3 x31) 4 x33) 5 x35) 6 x37) (st1 (st1 (st1 (st1 (st1 p3_2k 2 z30) 3 z32) 4 z34) 5 z36) 6 z38) (o_28.2.2.2) (o_28.2.2.1)), (oX8 (p0a 1) p0_0a p0_0k (o_8.1))] : List va_W)) := vD_perm (vD_fb hD) (bP (List.Perm.refl _))
            have hK : va_K (dC, dI) cls (List.flatten ([(tX4 p0k), (tX6 p1k), (tX1 (st1 (st1 (st1 p3k 19 zp3_18_73x) 20 zp3_19_73x) 21 zp3_20_73x)), (tX9 (st1 (st1 (st1 (st1 (st1 p3_2k 2 z30) 3 z32) 4 z34) 5 z36) 6 z38)), (tX8 p0_0k)] : List (List (ClassId × FieldType)))) s := vK_perm (vK_fb hK) (bP (List.Perm.refl _))
            refine W.widen (k := (hcX1 p3n (t73.2.2.1) + hcX9 p3_2n (o_28.2.2.2))) (n := (3 * (gcX1 p3n (t73.2.2.1) + gcX9 p3_2n (o_28.2.2.2)))) (by have a0 := gcX9_add hg_p3_2 (mo_fX4_fillBlock hc_28); omega) (by have a0 := gcX9_add hg_p3_2 (mo_fX4_fillBlock hc_28); omega) ?_
            have hg_p3_2 : glX9 p3_2n (o_28.2.2.2) := glX9_tr hg_p3_2 (mo_fX4_fillBlock hc_28)
            unfold fX4_make_G134_39 at hrun
            refine lv_iinc (v := (v5_116 + 1)) (lv' := [(5, .int (v5_116 + 1)), (0, .ref (p0a 0)), (1, .ref (p1a 0)), (2, .int p2), (3, .ref (p3a 0))]) hx hb dX4_make_134 hl (k := 4) rfl rfl (by decide) rfl (fun ls hl => ?_)
            refine lv_goto (tgt := 116) hx hb dX4_make_137 (by decide) ?_
            exact IH116 (v5_116 + 1) (o_28.1) (o_28.2.1) (o_28.2.2.1) (o_28.2.2.2) x29 z30 x31 z32 x33 z34 x35 z36 x37 z38 o116 _ _ _ hrun hP hD hK hS (lv_sub hl [1, 2, 3, 4, 0] rfl) hg_p3 hg_p3_2 hgo_p3_2 hk116
      refine L116 NF 0 (o_24.2.1) (o_24.2.2) (o_1.2) (t73.2.2.2) xp3_2_1_73x zp3_2_1_73x xp3_2_2_73x zp3_2_2_73x xp3_2_3_73x zp3_2_3_73x xp3_2_4_73x zp3_2_4_73x xp3_2_5_73x zp3_2_5_73x o116 _ _ _ hc116 hP hD hK hS (lv_sub hl [1, 2, 3, 4, 0] rfl) hg_p3 hg_p3_2 hgn_p3_2 ?_
      intro xp3_2_1_116x zp3_2_1_116x xp3_2_2_116x zp3_2_2_116x xp3_2_3_116x zp3_2_3_116x xp3_2_4_116x zp3_2_4_116x xp3_2_5_116x zp3_2_5_116x H locs ls hP hD hK hS hl hg_p3 hg_p3_2
      have hl := hl
      unfold fX4_make_G140_40 at hrun
      refine lv_aload_n hx hb dX4_make_140 rfl (lv_at hl 0 rfl) ?_
      refine lv_aload_n hx hb dX4_make_141 rfl (lv_at hl 1 rfl) ?_
      obtain ⟨o_41, hc_41, hrun⟩ := bnd9 hrun
      have hPx : va_P (dC, dI) cls ((List.flatten ([(oX4 (p0a 0) p0a p0k (o116.1) o_10), (oX1 (p3a 0) (st1 (st1 (st1 p3a 19 xp3_18_73x) 20 xp3_19_73x) 21 xp3_20_73x) (st1 (st1 (st1 p3k 19 zp3_18_73x) 20 zp3_19_73x) 21 zp3_20_73x) (t73.2.2.1) (o116.2.1) (o_7.2.2))] : List va_W)) ++ (List.flatten ([(oX6 (p1a 0) p1a p1k p1w p1l), (oX9 (p3a 3) (st1 (st1 (st1 (st1 (st1 p3_2a 2 xp3_2_1_116x) 3 xp3_2_2_116x) 4 xp3_2_3_116x) 5 xp3_2_4_116x) 6 xp3_2_5_116x) (st1 (st1 (st1 (st1 (st1 p3_2k 2 zp3_2_1_116x) 3 zp3_2_2_116x) 4 zp3_2_3_116x) 5 zp3_2_4_116x) 6 zp3_2_5_116x) (o116.2.2.2) (o116.2.2.1)), (oX8 (p0a 1) p0_0a p0_0k (o_8.1))] : List va_W))) H := vP_fa (vP_perm hP (bP (((List.Perm.refl _)).trans ((((((List.Perm.refl _)).cons _).trans (List.Perm.swap _ _ _))).cons _))))
      have hDx : va_D A ((List.flatten ([(oX4 (p0a 0) p0a p0k (o116.1) o_10), (oX1 (p3a 0) (st1 (st1 (st1 p3a 19 xp3_18_73x) 20 xp3_19_73x) 21 xp3_20_73x) (st1 (st1 (st1 p3k 19 zp3_18_73x) 20 zp3_19_73x) 21 zp3_20_73x) (t73.2.2.1) (o116.2.1) (o_7.2.2))] : List va_W)) ++ (List.flatten ([(oX6 (p1a 0) p1a p1k p1w p1l), (oX9 (p3a 3) (st1 (st1 (st1 (st1 (st1 p3_2a 2 xp3_2_1_116x) 3 xp3_2_2_116x) 4 xp3_2_3_116x) 5 xp3_2_4_116x) 6 xp3_2_5_116x) (st1 (st1 (st1 (st1 (st1 p3_2k 2 zp3_2_1_116x) 3 zp3_2_2_116x) 4 zp3_2_3_116x) 5 zp3_2_4_116x) 6 zp3_2_5_116x) (o116.2.2.2) (o116.2.2.1)), (oX8 (p0a 1) p0_0a p0_0k (o_8.1))] : List va_W))) := vD_fa (vD_perm hD (bP (((List.Perm.refl _)).trans ((((((List.Perm.refl _)).cons _).trans (List.Perm.swap _ _ _))).cons _))))
      have hKx : va_K (dC, dI) cls ((List.flatten ([(tX4 p0k), (tX1 (st1 (st1 (st1 p3k 19 zp3_18_73x) 20 zp3_19_73x) 21 zp3_20_73x))] : List (List (ClassId × FieldType)))) ++ (List.flatten ([(tX6 p1k), (tX9 (st1 (st1 (st1 (st1 (st1 p3_2k 2 zp3_2_1_116x) 3 zp3_2_2_116x) 4 zp3_2_3_116x) 5 zp3_2_4_116x) 6 zp3_2_5_116x)), (tX8 p0_0k)] : List (List (ClassId × FieldType))))) s := vK_fa (vK_perm hK (bP (((List.Perm.refl _)).trans ((((((List.Perm.refl _)).cons _).trans (List.Perm.swap _ _ _))).cons _))))
      have hPc := vP_l hPx
      have hDc := vD_l hDx
      have hKc := vK_l hKx
      have hFc := vfree hDx hS hA
      refine va_callv (va_runV (As := [.ref (p3a 0)]) (rest := []) ⟨hx, hb, hml, hown, hts⟩ (kX4_fillPhis l dC dI (p0a := p0a) (p0k := p0k) (p0w := (o116.1)) (p0l := o_10) (p1a := (st0 (p3a 0) (st1 (st1 (st1 p3a 19 xp3_18_73x) 20 xp3_19_73x) 21 xp3_20_73x))) (p1k := (st1 (st1 (st1 p3k 19 zp3_18_73x) 20 zp3_19_73x) 21 zp3_20_73x)) (p1n := (t73.2.2.1)) (p1w := (o116.2.1)) (p1l := (o_7.2.2)) (sz := _) (o := o_41) (hrun := hc_41)) (cwV 1 hts (gi_V qw417 qw418 qw419 qw270 (gi_z qw416)) rfl rfl rfl (by decide +kernel) ⟨Nat.le_of_ble_eq_true rfl, Nat.le_of_ble_eq_true rfl⟩) ⟨PRE.blind, va_recv hKc hPc (ci := 6) (q0 := 0) rfl rfl, PRE.of hE hS hFc hPc hKc hDc⟩ rfl rfl hl.1 rfl (lv_room (Nat.le_of_ble_eq_true rfl)) dX4_make_142 ⟨(show (hcX1 p3n (t73.2.2.1) + hcX9 p3_2n (o116.2.2.2)) + 0 ≤ (hcX1 p3n (o.2.2.2.2.2.1) + hcX9 p3_2n (o.2.2.2.2.2.2.2.1)) from by have q0 := gmX1 hg_p3 hgn_p3; have q1 := gmX9 hg_p3_2 hgn_p3_2; omega), (show (3 * (gcX1 p3n (t73.2.2.1) + gcX9 p3_2n (o116.2.2.2))) + 0 ≤ (3 * (gcX1 p3n (o.2.2.2.2.2.1) + gcX9 p3_2n (o.2.2.2.2.2.2.2.1))) from by have q0 := gmX1 hg_p3 hgn_p3; have q1 := gmX9 hg_p3_2 hgn_p3_2; omega)⟩) hS (fun q _ h => hFc q h) hFc (fun u t H locs ht hvm hw hB hz1 hk1 hS => ?_)
      obtain ⟨b1, b2, b3⟩ := hB
      rw [ht] at b1
      obtain ⟨hP, hD, hK⟩ := JOINC (wc := (List.flatten ([(oX4 (p0a 0) p0a p0k (o116.1) o_10), (oX1 (p3a 0) (st1 (st1 (st1 p3a 19 xp3_18_73x) 20 xp3_19_73x) 21 xp3_20_73x) (st1 (st1 (st1 p3k 19 zp3_18_73x) 20 zp3_19_73x) 21 zp3_20_73x) (t73.2.2.1) (o116.2.1) (o_7.2.2))] : List va_W))) (wr := (List.flatten ([(oX6 (p1a 0) p1a p1k p1w p1l), (oX9 (p3a 3) (st1 (st1 (st1 (st1 (st1 p3_2a 2 xp3_2_1_116x) 3 xp3_2_2_116x) 4 xp3_2_3_116x) 5 xp3_2_4_116x) 6 xp3_2_5_116x) (st1 (st1 (st1 (st1 (st1 p3_2k 2 zp3_2_1_116x) 3 zp3_2_2_116x) 4 zp3_2_3_116x) 5 zp3_2_4_116x) 6 zp3_2_5_116x) (o116.2.2.2) (o116.2.2.1)), (oX8 (p0a 1) p0_0a p0_0k (o_8.1))] : List va_W))) (w1 := (List.flatten ([(oX4 (p0a 0) p0a p0k (o116.1) o_10), (oX1 (p3a 0) (st1 (st1 (st1 p3a 19 xp3_18_73x) 20 xp3_19_73x) 21 xp3_20_73x) (st1 (st1 (st1 p3k 19 zp3_18_73x) 20 zp3_19_73x) 21 zp3_20_73x) (t73.2.2.1) o_41 (o_7.2.2))] : List va_W))) (t1 := (List.flatten ([(tX4 p0k), (tX1 (st1 (st1 (st1 p3k 19 zp3_18_73x) 20 zp3_19_73x) 21 zp3_20_73x))] : List (List (ClassId × FieldType))))) hPx hDx hKx hk1 hFc b1 (va_K.moved hvm.symm b2) b3
      have hP : va_P (dC, dI) cls (List.flatten ([(oX4 (p0a 0) p0a p0k (o116.1) o_10), (oX6 (p1a 0) p1a p1k p1w p1l), (oX1 (p3a 0) (st1 (st1 (st1 p3a 19 xp3_18_73x) 20 xp3_19_73x) 21 xp3_20_73x) (st1 (st1 (st1 p3k 19 zp3_18_73x) 20 zp3_19_73x) 21 zp3_20_73x) (t73.2.2.1) o_41 (o_7.2.2)), (oX9 (p3a 3) (st1 (st1 (st1 (st1 (st1 p3_2a 2 xp3_2_1_116x) 3 xp3_2_2_116x) 4 xp3_2_3_116x) 5 xp3_2_4_116x) 6 xp3_2_5_116x) (st1 (st1 (st1 (st1 (st1 p3_2k 2 zp3_2_1_116x) 3 zp3_2_2_116x) 4 zp3_2_3_116x) 5 zp3_2_4_116x) 6 zp3_2_5_116x) (o116.2.2.2) (o116.2.2.1)), (oX8 (p0a 1) p0_0a p0_0k (o_8.1))] : List va_W)) H := vP_perm (vP_fb hP) (bP (((List.Perm.refl _)).trans ((((((List.Perm.refl _)).cons _).trans (List.Perm.swap _ _ _))).cons _)))
      have hD : va_D A (List.flatten ([(oX4 (p0a 0) p0a p0k (o116.1) o_10), (oX6 (p1a 0) p1a p1k p1w p1l), (oX1 (p3a 0) (st1 (st1 (st1 p3a 19 xp3_18_73x) 20 xp3_19_73x) 21 xp3_20_73x) (st1 (st1 (st1 p3k 19 zp3_18_73x) 20 zp3_19_73x) 21 zp3_20_73x) (t73.2.2.1) o_41 (o_7.2.2)), (oX9 (p3a 3) (st1 (st1 (st1 (st1 (st1 p3_2a 2 xp3_2_1_116x) 3 xp3_2_2_116x) 4 xp3_2_3_116x) 5 xp3_2_4_116x) 6 xp3_2_5_116x) (st1 (st1 (st1 (st1 (st1 p3_2k 2 zp3_2_1_116x) 3 zp3_2_2_116x) 4 zp3_2_3_116x) 5 zp3_2_4_116x) 6 zp3_2_5_116x) (o116.2.2.2) (o116.2.2.1)), (oX8 (p0a 1) p0_0a p0_0k (o_8.1))] : List va_W)) := vD_perm (vD_fb hD) (bP (((List.Perm.refl _)).trans ((((((List.Perm.refl _)).cons _).trans (List.Perm.swap _ _ _))).cons _)))
      have hK : va_K (dC, dI) cls (List.flatten ([(tX4 p0k), (tX6 p1k), (tX1 (st1 (st1 (st1 p3k 19 zp3_18_73x) 20 zp3_19_73x) 21 zp3_20_73x)), (tX9 (st1 (st1 (st1 (st1 (st1 p3_2k 2 zp3_2_1_116x) 3 zp3_2_2_116x) 4 zp3_2_3_116x) 5 zp3_2_4_116x) 6 zp3_2_5_116x)), (tX8 p0_0k)] : List (List (ClassId × FieldType)))) s := vK_perm (vK_fb hK) (bP (((List.Perm.refl _)).trans ((((((List.Perm.refl _)).cons _).trans (List.Perm.swap _ _ _))).cons _)))
      refine lv_iconst (v := 1) hx hb dX4_make_145 (by decide) ?_
      have ho9 : (1, (o116.1), o_10, o_41, (o_7.2.2), (t73.2.2.1), (o116.2.2.1), (o116.2.2.2), (o_8.1)) = o := Option.some.inj hrun
      subst ho9
      subst hQ
      exact W.zret (v := 1) hx hb hr (by decide) (fun t ht hW => ⟨⟨1, (), rfl, rfl, ⟨xp3_18_73x, zp3_18_73x, xp3_19_73x, zp3_19_73x, xp3_20_73x, zp3_20_73x, xp3_2_1_116x, zp3_2_1_116x, xp3_2_2_116x, zp3_2_2_116x, xp3_2_3_116x, zp3_2_3_116x, xp3_2_4_116x, zp3_2_4_116x, xp3_2_5_116x, zp3_2_5_116x, by rw [ht]; exact hP, va_K.moved hW.alike hK, hD⟩⟩, hS.F ht⟩) hS.2.2 dX4_make_146
