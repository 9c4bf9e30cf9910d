abbrev cX4_fillStep : ByteArray := prog_6_method_24_code
def yX4_fillStep : MethodName := ⟨RX4, "fillStep", "(LGearbox$Program;LGearbox$Flow;II)V"⟩
abbrev cX1_addStep : ByteArray := prog_3_method_8_code
def yX1_addStep : MethodName := ⟨RX1, "addStep", "(IIIII)I"⟩
abbrev cX1_link : ByteArray := prog_3_method_9_code
def yX1_link : MethodName := ⟨RX1, "link", "(II)V"⟩
theorem dX1_addStep_0 : decode cX1_addStep 0 = .ok (.aload_n 0, 1) := by decide +kernel
theorem dX1_addStep_1 : decode cX1_addStep 1 = .ok (.getfield 16, 3) := by decide +kernel
theorem dX1_addStep_4 : decode cX1_addStep 4 = .ok (.iload_n 2, 1) := by decide +kernel
theorem dX1_addStep_5 : decode cX1_addStep 5 = .ok (.iload_n 3, 1) := by decide +kernel
theorem dX1_addStep_6 : decode cX1_addStep 6 = .ok (.iload 4, 2) := by decide +kernel
theorem dX1_addStep_8 : decode cX1_addStep 8 = .ok (.iload 5, 2) := by decide +kernel
theorem dX1_addStep_10 : decode cX1_addStep 10 = .ok (.invokevirtual 122, 3) := by decide +kernel
theorem dX1_addStep_13 : decode cX1_addStep 13 = .ok (.istore 6, 2) := by decide +kernel
theorem dX1_addStep_15 : decode cX1_addStep 15 = .ok (.aload_n 0, 1) := by decide +kernel
theorem dX1_addStep_16 : decode cX1_addStep 16 = .ok (.iload_n 1, 1) := by decide +kernel
theorem dX1_addStep_17 : decode cX1_addStep 17 = .ok (.iload 6, 2) := by decide +kernel
theorem dX1_addStep_19 : decode cX1_addStep 19 = .ok (.invokevirtual 125, 3) := by decide +kernel
theorem dX1_addStep_22 : decode cX1_addStep 22 = .ok (.iload 6, 2) := by decide +kernel
theorem dX1_addStep_24 : decode cX1_addStep 24 = .ok (.ireturn, 1) := by decide +kernel
theorem dX1_link_0 : decode cX1_link 0 = .ok (.aload_n 0, 1) := by decide +kernel
theorem dX1_link_1 : decode cX1_link 1 = .ok (.getfield 16, 3) := by decide +kernel
theorem dX1_link_4 : decode cX1_link 4 = .ok (.getfield 119, 3) := by decide +kernel
theorem dX1_link_7 : decode cX1_link 7 = .ok (.iload_n 2, 1) := by decide +kernel
theorem dX1_link_8 : decode cX1_link 8 = .ok (.iconst (-1), 1) := by decide +kernel
theorem dX1_link_9 : decode cX1_link 9 = .ok (.iastore, 1) := by decide +kernel
theorem dX1_link_10 : decode cX1_link 10 = .ok (.aload_n 0, 1) := by decide +kernel
theorem dX1_link_11 : decode cX1_link 11 = .ok (.getfield 20, 3) := by decide +kernel
theorem dX1_link_14 : decode cX1_link 14 = .ok (.iload_n 1, 1) := by decide +kernel
theorem dX1_link_15 : decode cX1_link 15 = .ok (.iaload, 1) := by decide +kernel
theorem dX1_link_16 : decode cX1_link 16 = .ok (.ifCond .ge 13, 3) := by decide +kernel
theorem dX1_link_19 : decode cX1_link 19 = .ok (.aload_n 0, 1) := by decide +kernel
theorem dX1_link_20 : decode cX1_link 20 = .ok (.getfield 20, 3) := by decide +kernel
theorem dX1_link_23 : decode cX1_link 23 = .ok (.iload_n 1, 1) := by decide +kernel
theorem dX1_link_24 : decode cX1_link 24 = .ok (.iload_n 2, 1) := by decide +kernel
theorem dX1_link_25 : decode cX1_link 25 = .ok (.iastore, 1) := by decide +kernel
theorem dX1_link_26 : decode cX1_link 26 = .ok (.goto 18, 3) := by decide +kernel
theorem dX1_link_29 : decode cX1_link 29 = .ok (.aload_n 0, 1) := by decide +kernel
theorem dX1_link_30 : decode cX1_link 30 = .ok (.getfield 16, 3) := by decide +kernel
theorem dX1_link_33 : decode cX1_link 33 = .ok (.getfield 119, 3) := by decide +kernel
theorem dX1_link_36 : decode cX1_link 36 = .ok (.aload_n 0, 1) := by decide +kernel
theorem dX1_link_37 : decode cX1_link 37 = .ok (.getfield 24, 3) := by decide +kernel
theorem dX1_link_40 : decode cX1_link 40 = .ok (.iload_n 1, 1) := by decide +kernel
theorem dX1_link_41 : decode cX1_link 41 = .ok (.iaload, 1) := by decide +kernel
theorem dX1_link_42 : decode cX1_link 42 = .ok (.iload_n 2, 1) := by decide +kernel
theorem dX1_link_43 : decode cX1_link 43 = .ok (.iastore, 1) := by decide +kernel
theorem dX1_link_44 : decode cX1_link 44 = .ok (.aload_n 0, 1) := by decide +kernel
theorem dX1_link_45 : decode cX1_link 45 = .ok (.getfield 24, 3) := by decide +kernel
theorem dX1_link_48 : decode cX1_link 48 = .ok (.iload_n 1, 1) := by decide +kernel
theorem dX1_link_49 : decode cX1_link 49 = .ok (.iload_n 2, 1) := by decide +kernel
theorem dX1_link_50 : decode cX1_link 50 = .ok (.iastore, 1) := by decide +kernel
theorem dX1_link_51 : decode cX1_link 51 = .ok (.return_, 1) := by decide +kernel
theorem dX4_fillStep_0 : decode cX4_fillStep 0 = .ok (.aload_n 1, 1) := by decide +kernel
theorem dX4_fillStep_1 : decode cX4_fillStep 1 = .ok (.getfield 139, 3) := by decide +kernel
theorem dX4_fillStep_4 : decode cX4_fillStep 4 = .ok (.iload 4, 2) := by decide +kernel
theorem dX4_fillStep_6 : decode cX4_fillStep 6 = .ok (.iaload, 1) := by decide +kernel
theorem dX4_fillStep_7 : decode cX4_fillStep 7 = .ok (.istore 5, 2) := by decide +kernel
theorem dX4_fillStep_9 : decode cX4_fillStep 9 = .ok (.aload_n 0, 1) := by decide +kernel
theorem dX4_fillStep_10 : decode cX4_fillStep 10 = .ok (.aload_n 0, 1) := by decide +kernel
theorem dX4_fillStep_11 : decode cX4_fillStep 11 = .ok (.getfield 9, 3) := by decide +kernel
theorem dX4_fillStep_14 : decode cX4_fillStep 14 = .ok (.iload 4, 2) := by decide +kernel
theorem dX4_fillStep_16 : decode cX4_fillStep 16 = .ok (.iaload, 1) := by decide +kernel
theorem dX4_fillStep_17 : decode cX4_fillStep 17 = .ok (.invokevirtual 267, 3) := by decide +kernel
theorem dX4_fillStep_20 : decode cX4_fillStep 20 = .ok (.istore 6, 2) := by decide +kernel
theorem dX4_fillStep_22 : decode cX4_fillStep 22 = .ok (.iload 5, 2) := by decide +kernel
theorem dX4_fillStep_24 : decode cX4_fillStep 24 = .ok (.bipush 24, 2) := by decide +kernel
theorem dX4_fillStep_26 : decode cX4_fillStep 26 = .ok (.if_icmp .eq 17, 3) := by decide +kernel
theorem dX4_fillStep_29 : decode cX4_fillStep 29 = .ok (.iload 5, 2) := by decide +kernel
theorem dX4_fillStep_31 : decode cX4_fillStep 31 = .ok (.bipush 33, 2) := by decide +kernel
theorem dX4_fillStep_33 : decode cX4_fillStep 33 = .ok (.if_icmp .eq 10, 3) := by decide +kernel
theorem dX4_fillStep_36 : decode cX4_fillStep 36 = .ok (.iload 5, 2) := by decide +kernel
theorem dX4_fillStep_38 : decode cX4_fillStep 38 = .ok (.bipush 34, 2) := by decide +kernel
theorem dX4_fillStep_40 : decode cX4_fillStep 40 = .ok (.if_icmp .ne 14, 3) := by decide +kernel
theorem dX4_fillStep_43 : decode cX4_fillStep 43 = .ok (.aload_n 2, 1) := by decide +kernel
theorem dX4_fillStep_44 : decode cX4_fillStep 44 = .ok (.getfield 274, 3) := by decide +kernel
theorem dX4_fillStep_47 : decode cX4_fillStep 47 = .ok (.iload_n 3, 1) := by decide +kernel
theorem dX4_fillStep_48 : decode cX4_fillStep 48 = .ok (.iload 6, 2) := by decide +kernel
theorem dX4_fillStep_50 : decode cX4_fillStep 50 = .ok (.iastore, 1) := by decide +kernel
theorem dX4_fillStep_51 : decode cX4_fillStep 51 = .ok (.goto 95, 3) := by decide +kernel
theorem dX4_fillStep_54 : decode cX4_fillStep 54 = .ok (.iload 5, 2) := by decide +kernel
theorem dX4_fillStep_56 : decode cX4_fillStep 56 = .ok (.bipush 21, 2) := by decide +kernel
theorem dX4_fillStep_58 : decode cX4_fillStep 58 = .ok (.if_icmp .gt 88, 3) := by decide +kernel
theorem dX4_fillStep_61 : decode cX4_fillStep 61 = .ok (.iload 5, 2) := by decide +kernel
theorem dX4_fillStep_63 : decode cX4_fillStep 63 = .ok (.ifCond .eq 17, 3) := by decide +kernel
theorem dX4_fillStep_66 : decode cX4_fillStep 66 = .ok (.iload 5, 2) := by decide +kernel
theorem dX4_fillStep_68 : decode cX4_fillStep 68 = .ok (.bipush 20, 2) := by decide +kernel
theorem dX4_fillStep_70 : decode cX4_fillStep 70 = .ok (.if_icmp .eq 10, 3) := by decide +kernel
theorem dX4_fillStep_73 : decode cX4_fillStep 73 = .ok (.iload 5, 2) := by decide +kernel
theorem dX4_fillStep_75 : decode cX4_fillStep 75 = .ok (.bipush 21, 2) := by decide +kernel
theorem dX4_fillStep_77 : decode cX4_fillStep 77 = .ok (.if_icmp .ne 7, 3) := by decide +kernel
theorem dX4_fillStep_80 : decode cX4_fillStep 80 = .ok (.iconst 1, 1) := by decide +kernel
theorem dX4_fillStep_81 : decode cX4_fillStep 81 = .ok (.goto 4, 3) := by decide +kernel
theorem dX4_fillStep_84 : decode cX4_fillStep 84 = .ok (.iconst 0, 1) := by decide +kernel
theorem dX4_fillStep_85 : decode cX4_fillStep 85 = .ok (.istore 7, 2) := by decide +kernel
theorem dX4_fillStep_87 : decode cX4_fillStep 87 = .ok (.iload 5, 2) := by decide +kernel
theorem dX4_fillStep_89 : decode cX4_fillStep 89 = .ok (.invokestatic 249, 3) := by decide +kernel
theorem dX4_fillStep_92 : decode cX4_fillStep 92 = .ok (.ifCond .eq 13, 3) := by decide +kernel
theorem dX4_fillStep_95 : decode cX4_fillStep 95 = .ok (.aload_n 0, 1) := by decide +kernel
theorem dX4_fillStep_96 : decode cX4_fillStep 96 = .ok (.getfield 18, 3) := by decide +kernel
theorem dX4_fillStep_99 : decode cX4_fillStep 99 = .ok (.iload 4, 2) := by decide +kernel
theorem dX4_fillStep_101 : decode cX4_fillStep 101 = .ok (.iaload, 1) := by decide +kernel
theorem dX4_fillStep_102 : decode cX4_fillStep 102 = .ok (.goto 4, 3) := by decide +kernel
theorem dX4_fillStep_105 : decode cX4_fillStep 105 = .ok (.iconst (-1), 1) := by decide +kernel
theorem dX4_fillStep_106 : decode cX4_fillStep 106 = .ok (.istore 8, 2) := by decide +kernel
theorem dX4_fillStep_108 : decode cX4_fillStep 108 = .ok (.aload_n 2, 1) := by decide +kernel
theorem dX4_fillStep_109 : decode cX4_fillStep 109 = .ok (.iload_n 3, 1) := by decide +kernel
theorem dX4_fillStep_110 : decode cX4_fillStep 110 = .ok (.iload 5, 2) := by decide +kernel
theorem dX4_fillStep_112 : decode cX4_fillStep 112 = .ok (.iload 8, 2) := by decide +kernel
theorem dX4_fillStep_114 : decode cX4_fillStep 114 = .ok (.iload 7, 2) := by decide +kernel
theorem dX4_fillStep_116 : decode cX4_fillStep 116 = .ok (.ifCond .eq 13, 3) := by decide +kernel
theorem dX4_fillStep_119 : decode cX4_fillStep 119 = .ok (.aload_n 1, 1) := by decide +kernel
theorem dX4_fillStep_120 : decode cX4_fillStep 120 = .ok (.getfield 146, 3) := by decide +kernel
theorem dX4_fillStep_123 : decode cX4_fillStep 123 = .ok (.iload 4, 2) := by decide +kernel
theorem dX4_fillStep_125 : decode cX4_fillStep 125 = .ok (.iaload, 1) := by decide +kernel
theorem dX4_fillStep_126 : decode cX4_fillStep 126 = .ok (.goto 5, 3) := by decide +kernel
theorem dX4_fillStep_129 : decode cX4_fillStep 129 = .ok (.iload 6, 2) := by decide +kernel
theorem dX4_fillStep_131 : decode cX4_fillStep 131 = .ok (.aload_n 0, 1) := by decide +kernel
theorem dX4_fillStep_132 : decode cX4_fillStep 132 = .ok (.aload_n 0, 1) := by decide +kernel
theorem dX4_fillStep_133 : decode cX4_fillStep 133 = .ok (.getfield 15, 3) := by decide +kernel
theorem dX4_fillStep_136 : decode cX4_fillStep 136 = .ok (.iload 4, 2) := by decide +kernel
theorem dX4_fillStep_138 : decode cX4_fillStep 138 = .ok (.iaload, 1) := by decide +kernel
theorem dX4_fillStep_139 : decode cX4_fillStep 139 = .ok (.invokevirtual 267, 3) := by decide +kernel
theorem dX4_fillStep_142 : decode cX4_fillStep 142 = .ok (.invokevirtual 277, 3) := by decide +kernel
theorem dX4_fillStep_145 : decode cX4_fillStep 145 = .ok (.pop, 1) := by decide +kernel
theorem dX4_fillStep_146 : decode cX4_fillStep 146 = .ok (.return_, 1) := by decide +kernel
theorem qw18 : Cond.initialized RX4 ∈ gw := mq_1 (i := 22) rfl rfl
theorem qw24 : Cond.fieldLink RX4 146 "Gearbox$Program" "argument" "[I" ∈ gw := mq_3 (i := 181) rfl rfl
theorem qw25 : Cond.fieldLink RX4 139 "Gearbox$Program" "op" "[I" ∈ gw := mq_3 (i := 178) rfl rfl
theorem qw27 : Cond.fieldLink RX4 9 "Gearbox$Maker" "leftOp" "[I" ∈ gw := mq_2 (i := 144) rfl rfl
theorem qw28 : Cond.code yX4_valueAt cX4_valueAt 2 (Option.some Jvm.ClassFile.FieldType.int) ∈ gw := mq_7 (i := 97) rfl rfl
theorem qw29 : Cond.methodLink RX4 267 yX4_valueAt ∈ gw := mq_7 (i := 94) rfl rfl
theorem qw30 : Cond.instanceMethod yX4_valueAt ∈ gw := mq_7 (i := 96) rfl rfl
theorem qw31 : Cond.selects RX4 yX4_valueAt yX4_valueAt ∈ gw := mk_s (i := 2) rfl rfl
theorem qw32 : Cond.fieldLink RX4 274 "Gearbox$Flow" "endValue" "[I" ∈ gw := mq_2 (i := 17) rfl rfl
theorem qw33 : Cond.code yX11_givesValue cX11_givesValue 1 (Option.some Jvm.ClassFile.FieldType.boolean) ∈ gw := mq_6 (i := 122) rfl rfl
theorem qw34 : Cond.initialized RX11 ∈ gw := mq_1 (i := 16) rfl rfl
theorem qw35 : Cond.static yX11_givesValue ∈ gw := mq_6 (i := 121) rfl rfl
theorem qw36 : Cond.fieldLink RX4 15 "Gearbox$Maker" "rightOp" "[I" ∈ gw := mq_2 (i := 145) rfl rfl
theorem qw37 : Cond.fieldLink RX1 16 "Gearbox$Flow" "steps" "LGearbox$Steps;" ∈ gw := mq_1 (i := 220) rfl rfl
theorem qw56 : Cond.code yX9_add cX9_add 6 (Option.some Jvm.ClassFile.FieldType.int) ∈ gw := mq_7 (i := 109) rfl rfl
theorem qw57 : Cond.methodLink RX1 122 yX9_add ∈ gw := mq_7 (i := 106) rfl rfl
theorem qw58 : Cond.instanceMethod yX9_add ∈ gw := mq_7 (i := 107) rfl rfl
theorem qw59 : Cond.selects RX9 yX9_add yX9_add ∈ gw := mq_7 (i := 108) rfl rfl
theorem qw60 : Cond.initialized RX9 ∈ gw := mq_1 (i := 20) rfl rfl
theorem qw61 : Cond.fieldLink RX1 119 "Gearbox$Steps" "next" "[I" ∈ gw := mq_1 (i := 192) rfl rfl
theorem qw62 : Cond.fieldLink RX1 20 "Gearbox$Flow" "firstStep" "[I" ∈ gw := mq_1 (i := 226) rfl rfl
theorem qw63 : Cond.fieldLink RX1 24 "Gearbox$Flow" "lastStep" "[I" ∈ gw := mq_1 (i := 233) rfl rfl
theorem qw64 : Cond.code yX1_link cX1_link 3 (Option.none : Option Jvm.ClassFile.FieldType) ∈ gw := mq_7 (i := 114) rfl rfl
theorem qw65 : Cond.methodLink RX1 125 yX1_link ∈ gw := mq_7 (i := 111) rfl rfl
theorem qw66 : Cond.instanceMethod yX1_link ∈ gw := mq_7 (i := 112) rfl rfl
theorem qw67 : Cond.selects RX1 yX1_link yX1_link ∈ gw := mq_7 (i := 113) rfl rfl
theorem qw68 : Cond.initialized RX1 ∈ gw := mq_1 (i := 19) rfl rfl
theorem qw69 : Cond.code yX1_addStep cX1_addStep 7 (Option.some Jvm.ClassFile.FieldType.int) ∈ gw := mq_7 (i := 105) rfl rfl
theorem qw70 : Cond.methodLink RX4 277 yX1_addStep ∈ gw := mq_7 (i := 102) rfl rfl
theorem qw71 : Cond.instanceMethod yX1_addStep ∈ gw := mq_7 (i := 103) rfl rfl
theorem qw72 : Cond.selects RX1 yX1_addStep yX1_addStep ∈ gw := mq_7 (i := 104) rfl rfl
def fX1_link_J44 (p1 : Int32) (p2 : Int32) (p0w_44 : ST) (p0_2w_44 : ST) : Option (ST × ST) := (if ixb p1 60 = true then (lt9 (upw p0w_44 5 (nn p1) p2) fun (w5 : ST) => some (w5, p0_2w_44)) else none)
def fX1_link (p0w : ST) (p1 : Int32) (p2 : Int32) (p0_2n : Nat → Nat) (p0_2w : ST) : Option (ST × ST) := (if ixb p2 (p0_2n 6) = true then (lt9 (upw p0_2w 6 (nn p2) (-1)) fun (w2 : ST) => (if ixb p1 60 = true then (if 0 ≤ (p0w 4 (nn p1)) then (if ixb p1 60 = true then (if ixb (p0w 5 (nn p1)) (p0_2n 6) = true then (lt9 (upw w2 6 (nn (p0w 5 (nn p1))) p2) fun (w9 : ST) => (fX1_link_J44 p1 p2 p0w w9)) else none) else none) else (if ixb p1 60 = true then (lt9 (upw p0w 4 (nn p1) p2) fun (w11 : ST) => (fX1_link_J44 p1 p2 w11 w2)) else none)) else none)) else none)
set_option maxHeartbeats 16000000 in
set_option maxRecDepth 100000 in
theorem kX1_link {zs : Nat × Nat} (l : Launch) (dC : Nat → ClassId) (dI : Nat → Nat → Nat) (p0a : Nat → Nat) (p0k : Nat → ClassId) (p0n : Nat → Nat) (p0w : ST) (p0l : SL) (p1 : Int32) (p2 : Int32) (p0_2a : Nat → Nat) (p0_2k : Nat → ClassId) (p0_2n : Nat → Nat) (p0_2w : ST) (sz : Nat) (o : ST × ST) (hrun : fX1_link p0w p1 p2 p0_2n p0_2w = some o) : Met l yX1_link (wz yX1_link cX1_link 3 (Option.none : Option Jvm.ClassFile.FieldType)) ({ frames := 0, cells := 0, slots := 0, locals := 0 } : Room) (va_Pc [.ref (p0a 0), .int p1, .int p2] (PRE zs dC dI ((oX1 (p0a 0) p0a p0k p0n p0w p0l) ++ (oX9 (p0a 3) p0_2a p0_2k p0_2n p0_2w)) ((tX1 p0k) ++ (tX9 p0_2k)) sz)) (va_Qv (fun (_ : Unit) => True) (fun _ t => POST dC dI ((oX1 (p0a 0) p0a p0k p0n (o.1) p0l) ++ (oX9 (p0a 3) p0_2a p0_2k p0_2n (o.2))) ((tX1 p0k) ++ (tX9 p0_2k)) (va_A ((oX1 (p0a 0) p0a p0k p0n p0w p0l) ++ (oX9 (p0a 3) p0_2a p0_2k p0_2n p0_2w)) sz) t) (va_A ((oX1 (p0a 0) p0a p0k p0n p0w p0l) ++ (oX9 (p0a 3) p0_2a p0_2k p0_2n p0_2w)) sz)) 0 0 (va_A ((oX1 (p0a 0) p0a p0k p0n p0w p0l) ++ (oX9 (p0a 3) p0_2a p0_2k p0_2n p0_2w)) sz) := by
  refine Met.ofW (cc := cX1_link) (maxL := 3) (ret := (Option.none : Option Jvm.ClassFile.FieldType)) (by decide) rfl ?_
  intro p e s m args below meth c s₁ B hml hv
  obtain ⟨rfl, hsz, hP, hK, hD0, hE⟩ := hv
  have hx := B.exec
  have hb := B.bytes
  have hr := B.returns
  have hts0 := atoms_spec (ws := wz yX1_link cX1_link 3 (Option.none : Option Jvm.ClassFile.FieldType)) B.pre
  have hts : ∀ w ∈ gw, w.before _ s = true := fun w h => hts0 w (List.mem_cons_of_mem _ h)
  have hown : s.vm.findClass RX1 = some m.cls := findClass_of_methodNamed B.named
  have hlocks := B.notSynchronized
  subst hsz
  have hD := hD0.self (sz := s.heap.size)
  refine gQ9 ?_
  intro Q hQ
  generalize hAe : va_A ((oX1 (p0a 0) p0a p0k p0n p0w p0l) ++ (oX9 (p0a 3) p0_2a p0_2k p0_2n p0_2w)) s.heap.size = A at hD hE hQ
  have hA : ∀ q : Nat, s.heap.size ≤ q → A q := fun q h => by rw [← hAe]; exact Or.inr h
  have hS : va_S A s.heap s.heap [] := va_S.rf
  have hP : va_P (dC, dI) cls ((oX1 (p0a 0) p0a p0k p0n p0w p0l) ++ (oX9 (p0a 3) p0_2a p0_2k p0_2n p0_2w)) s.heap := hP
  have hl := lv_entry ([.ref (p0a 0), .int p1, .int p2]) (n := 3) (Nat.le_of_ble_eq_true rfl)
  rw [lg_entry_eq]
  generalize (lg_sl ([.ref (p0a 0), .int p1, .int p2]) ++ List.replicate (3 - (lg_sl ([.ref (p0a 0), .int p1, .int p2])).length) Slot.unset).toArray = ls at hl ⊢
  have hl : lv_has ls 3 [(0, .ref (p0a 0)), (1, .int p1), (2, .int p2)] := hl
  obtain ⟨H, hHe⟩ : ∃ H, H = s.heap := ⟨_, rfl⟩
  obtain ⟨locs, hle⟩ : ∃ locs : List Loc, locs = [] := ⟨_, rfl⟩
  rw [← hHe] at hP
  have hS : va_S A s.heap H locs := by rw [hHe, hle]; exact hS
  show W p l e ({ frames := 0, cells := 0, slots := 0, locals := 0 } : Room) s m ([.ref (p0a 0), .int p1, .int p2] : List Value).toArray below meth c s.heap [] 0 0 Q (F0 m 0 ls [])
  rw [← hle]
  refine wH9 hHe ?_
  unfold fX1_link at hrun
  refine lv_aload_n hx hb dX1_link_0 rfl (lv_at hl 0 rfl) ?_
  refine va_get (D := (dC, dI)) (ci := 4) (v := .ref (p0a 3)) (C := RX1) (T := TX1) (N := 21) hx hb hts i_X1 hown hK hP 0 rfl rfl 2 (by decide) (hts _ qw37) (fun _ h9 => h9) rfl dX1_link_1 ?_
  refine va_get (D := (dC, dI)) (ci := 3) (v := .ref (p0_2a 6)) (C := RX9) (T := TX9) (N := 6) hx hb hts i_X9 hown hK hP 18 rfl rfl 5 (by decide) (hts _ qw61) (fun _ h9 => h9) rfl dX1_link_4 ?_
  refine lv_iload_n hx hb dX1_link_7 rfl (lv_at hl 2 rfl) ?_
  refine lv_iconst (v := (-1)) hx hb dX1_link_8 (by decide) ?_
  obtain ⟨hq1, hrun⟩ := chk9 hrun
  refine va_iast hx hb hK hP hD hS 23 21 rfl rfl (ixb_in hq1) dX1_link_9 (fun H locs hP hD hS => ?_)
  have hP : va_P (dC, dI) cls ((oX1 (p0a 0) p0a p0k p0n p0w p0l) ++ (oX9 (p0a 3) p0_2a p0_2k p0_2n (upw p0_2w 6 (nn p2) (-1)))) H := hP
  have hD : va_D A ((oX1 (p0a 0) p0a p0k p0n p0w p0l) ++ (oX9 (p0a 3) p0_2a p0_2k p0_2n (upw p0_2w 6 (nn p2) (-1)))) := hD
  obtain ⟨w2, ew2, hrun⟩ := let9 hrun
  rw [← ew2] at hP hD
  refine lv_aload_n hx hb dX1_link_10 rfl (lv_at hl 0 rfl) ?_
  refine va_get (D := (dC, dI)) (ci := 4) (v := .ref (p0a 4)) (C := RX1) (T := TX1) (N := 21) hx hb hts i_X1 hown hK hP 0 rfl rfl 3 (by decide) (hts _ qw62) (fun _ h9 => h9) rfl dX1_link_11 ?_
  refine lv_iload_n hx hb dX1_link_14 rfl (lv_at hl 1 rfl) ?_
  obtain ⟨hq3, hrun⟩ := chk9 hrun
  refine va_iald hx hb hK hP 1 0 rfl rfl (ixb_in hq3) dX1_link_15 ?_
  have J44 : ∀ (p0w_44 : ST) (p0_2w_44 : ST) (H : Heap) (locs : List Loc) (ls : Array Slot), (fX1_link_J44 p1 p2 p0w_44 p0_2w_44) = some o → va_P (dC, dI) cls ((oX1 (p0a 0) p0a p0k p0n p0w_44 p0l) ++ (oX9 (p0a 3) p0_2a p0_2k p0_2n p0_2w_44)) H → va_D A ((oX1 (p0a 0) p0a p0k p0n p0w_44 p0l) ++ (oX9 (p0a 3) p0_2a p0_2k p0_2n p0_2w_44)) → va_K (dC, dI) cls ((tX1 p0k) ++ (tX9 p0_2k)) s → va_S A s.heap H locs → lv_has ls 3 [(0, .ref (p0a 0)), (1, .int p1), (2, .int p2)] → W p l e ({ frames := 0, cells := 0, slots := 0, locals := 0 } : Room) s m ([.ref (p0a 0), .int p1, .int p2] : List Value).toArray below meth c H locs 0 0 Q (F0 m 44 ls []) := by
    intro p0w_44 p0_2w_44 H locs ls hrun hP hD hK hS hl 
    unfold fX1_link_J44 at hrun
    refine lv_aload_n hx hb dX1_link_44 rfl (lv_at hl 0 rfl) ?_
    refine va_get (D := (dC, dI)) (ci := 4) (v := .ref (p0a 5)) (C := RX1) (T := TX1) (N := 21) hx hb hts i_X1 hown hK hP 0 rfl rfl 4 (by decide) (hts _ qw63) (fun _ h9 => h9) rfl dX1_link_45 ?_
    refine lv_iload_n hx hb dX1_link_48 rfl (lv_at hl 1 rfl) ?_
    refine lv_iload_n hx hb dX1_link_49 rfl (lv_at hl 2 rfl) ?_
    obtain ⟨hq4, hrun⟩ := chk9 hrun
    refine va_iast hx hb hK hP hD hS 2 1 rfl rfl (ixb_in hq4) dX1_link_50 (fun H locs hP hD hS => ?_)
    have hP : va_P (dC, dI) cls ((oX1 (p0a 0) p0a p0k p0n (upw p0w_44 5 (nn p1) p2) p0l) ++ (oX9 (p0a 3) p0_2a p0_2k p0_2n p0_2w_44)) H := hP
    have hD : va_D A ((oX1 (p0a 0) p0a p0k p0n (upw p0w_44 5 (nn p1) p2) p0l) ++ (oX9 (p0a 3) p0_2a p0_2k p0_2n p0_2w_44)) := hD
    obtain ⟨w5, ew5, hrun⟩ := let9 hrun
    rw [← ew5] at hP hD
    have ho9 : (w5, p0_2w_44) = o := Option.some.inj hrun
    have hP9 : va_P (dC, dI) cls ((oX1 (p0a 0) p0a p0k p0n (o.1) p0l) ++ (oX9 (p0a 3) p0_2a p0_2k p0_2n (o.2))) H := by first | exact hP | (rw [← ho9]; exact hP)
    have hD9 : va_D A ((oX1 (p0a 0) p0a p0k p0n (o.1) p0l) ++ (oX9 (p0a 3) p0_2a p0_2k p0_2n (o.2))) := by first | exact hD | (rw [← ho9]; exact hD)
    subst hQ
    exact W.vret hx hb hr (fun t ht hW => ⟨⟨(), rfl, trivial, ⟨by rw [ht]; exact hP9, va_K.moved hW.alike hK, hD9⟩⟩, hS.F ht⟩) hS.2.2 dX1_link_51
  rcases br9 hrun with ⟨hc6, hrun⟩ | ⟨hc6, hrun⟩
  · refine lv_if_ge (tgt := 29) hx hb dX1_link_16 (by decide) (fun _ => ?_) (fun c => absurd hc6 c)
    refine lv_aload_n hx hb dX1_link_29 rfl (lv_at hl 0 rfl) ?_
    refine va_get (D := (dC, dI)) (ci := 4) (v := .ref (p0a 3)) (C := RX1) (T := TX1) (N := 21) hx hb hts i_X1 hown hK hP 0 rfl rfl 2 (by decide) (hts _ qw37) (fun _ h9 => h9) rfl dX1_link_30 ?_
    refine va_get (D := (dC, dI)) (ci := 3) (v := .ref (p0_2a 6)) (C := RX9) (T := TX9) (N := 6) hx hb hts i_X9 hown hK hP 18 rfl rfl 5 (by decide) (hts _ qw61) (fun _ h9 => h9) rfl dX1_link_33 ?_
    refine lv_aload_n hx hb dX1_link_36 rfl (lv_at hl 0 rfl) ?_
    refine va_get (D := (dC, dI)) (ci := 4) (v := .ref (p0a 5)) (C := RX1) (T := TX1) (N := 21) hx hb hts i_X1 hown hK hP 0 rfl rfl 4 (by decide) (hts _ qw63) (fun _ h9 => h9) rfl dX1_link_37 ?_
    refine lv_iload_n hx hb dX1_link_40 rfl (lv_at hl 1 rfl) ?_
    obtain ⟨hq7, hrun⟩ := chk9 hrun
    refine va_iald hx hb hK hP 2 1 rfl rfl (ixb_in hq7) dX1_link_41 ?_
    refine lv_iload_n hx hb dX1_link_42 rfl (lv_at hl 2 rfl) ?_
    obtain ⟨hq8, hrun⟩ := chk9 hrun
    refine va_iast hx hb hK hP hD hS 23 21 rfl rfl (ixb_in hq8) dX1_link_43 (fun H locs hP hD hS => ?_)
    have hP : va_P (dC, dI) cls ((oX1 (p0a 0) p0a p0k p0n p0w p0l) ++ (oX9 (p0a 3) p0_2a p0_2k p0_2n (upw w2 6 (nn (p0w 5 (nn p1))) p2))) H := hP
    have hD : va_D A ((oX1 (p0a 0) p0a p0k p0n p0w p0l) ++ (oX9 (p0a 3) p0_2a p0_2k p0_2n (upw w2 6 (nn (p0w 5 (nn p1))) p2))) := hD
    obtain ⟨w9, ew9, hrun⟩ := let9 hrun
    rw [← ew9] at hP hD
    exact J44 p0w w9 _ _ _ hrun hP hD hK hS (lv_sub hl [0, 1, 2] rfl)
  · refine lv_if_ge (tgt := 29) hx hb dX1_link_16 (by decide) (fun c => absurd c hc6) (fun _ => ?_)
    refine lv_aload_n hx hb dX1_link_19 rfl (lv_at hl 0 rfl) ?_
    refine va_get (D := (dC, dI)) (ci := 4) (v := .ref (p0a 4)) (C := RX1) (T := TX1) (N := 21) hx hb hts i_X1 hown hK hP 0 rfl rfl 3 (by decide) (hts _ qw62) (fun _ h9 => h9) rfl dX1_link_20 ?_
    refine lv_iload_n hx hb dX1_link_23 rfl (lv_at hl 1 rfl) ?_
    refine lv_iload_n hx hb dX1_link_24 rfl (lv_at hl 2 rfl) ?_
    obtain ⟨hq10, hrun⟩ := chk9 hrun
    refine va_iast hx hb hK hP hD hS 1 0 rfl rfl (ixb_in hq10) dX1_link_25 (fun H locs hP hD hS => ?_)
    have hP : va_P (dC, dI) cls ((oX1 (p0a 0) p0a p0k p0n (upw p0w 4 (nn p1) p2) p0l) ++ (oX9 (p0a 3) p0_2a p0_2k p0_2n w2)) H := hP
    have hD : va_D A ((oX1 (p0a 0) p0a p0k p0n (upw p0w 4 (nn p1) p2) p0l) ++ (oX9 (p0a 3) p0_2a p0_2k p0_2n w2)) := hD
    obtain ⟨w11, ew11, hrun⟩ := let9 hrun
    rw [← ew11] at hP hD
    refine lv_goto (tgt := 44) hx hb dX1_link_26 (by decide) ?_
    exact J44 w11 w2 _ _ _ hrun hP hD hK hS (lv_sub hl [0, 1, 2] rfl)
def fX1_addStep_G13_13 (p0w : ST) (p1 : Int32) (o_1 : Int32 × ST × (Nat → Nat)) : Option (Int32 × ST × ST × (Nat → Nat)) := ((fX1_link p0w p1 (o_1.1) (o_1.2.2) (o_1.2.1)).bind fun (o_14 : ST × ST) => some ((o_1.1), (o_14.1), (o_14.2), (o_1.2.2)))
theorem mo_fX1_addStep_G13_13 {p0w : ST} {p1 : Int32} {o_1 : Int32 × ST × (Nat → Nat)} {o9q : Int32 × ST × ST × (Nat → Nat)} (hrun : fX1_addStep_G13_13 p0w p1 o_1 = some o9q) : glX9 (o_1.2.2) (o9q.2.2.2) := by
  unfold fX1_addStep_G13_13 at hrun
  obtain ⟨o_14, hc_14, hrun⟩ := bnd9 hrun
  obtain rfl := (Option.some.inj hrun)
  exact (glX9_rf _)
def fX1_addStep (p0w : ST) (p1 : Int32) (p2 : Int32) (p3 : Int32) (p4 : Int32) (p5 : Int32) (p0_2n : Nat → Nat) (p0_2w : ST) : Option (Int32 × ST × ST × (Nat → Nat)) := ((fX9_add p0_2n p0_2w p2 p3 p4 p5).bind fun (o_1 : Int32 × ST × (Nat → Nat)) => (fX1_addStep_G13_13 p0w p1 o_1))
theorem mo_fX1_addStep {p0w : ST} {p1 : Int32} {p2 : Int32} {p3 : Int32} {p4 : Int32} {p5 : Int32} {p0_2n : Nat → Nat} {p0_2w : ST} {o9q : Int32 × ST × ST × (Nat → Nat)} (hrun : fX1_addStep p0w p1 p2 p3 p4 p5 p0_2n p0_2w = some o9q) : glX9 p0_2n (o9q.2.2.2) := by
  unfold fX1_addStep at hrun
  obtain ⟨o_1, hc_1, hrun⟩ := bnd9 hrun
  exact (glX9_tr (mo_fX9_add hc_1) (mo_fX1_addStep_G13_13 hrun))
set_option maxHeartbeats 16000000 in
set_option maxRecDepth 100000 in
theorem kX1_addStep {zs : Nat × Nat} (l : Launch) (dC : Nat → ClassId) (dI : Nat → Nat → Nat) (p0a : Nat → Nat) (p0k : Nat → ClassId) (p0n : Nat → Nat) (p0w : ST) (p0l : SL) (p1 : Int32) (p2 : Int32) (p3 : Int32) (p4 : Int32) (p5 : Int32) (p0_2a : Nat → Nat) (p0_2k : Nat → ClassId) (p0_2n : Nat → Nat) (p0_2w : ST) (sz : Nat) (o : Int32 × ST × ST × (Nat → Nat)) (hrun : fX1_addStep p0w p1 p2 p3 p4 p5 p0_2n p0_2w = some o) : Met l yX1_addStep (wz yX1_addStep cX1_addStep 7 (Option.some Jvm.ClassFile.FieldType.int)) ({ frames := 3, cells := (gcX9 p0_2n (o.2.2.2)), slots := (3 * (gcX9 p0_2n (o.2.2.2))), locals := 87 } : Room) (va_Pc [.ref (p0a 0), .int p1, .int p2, .int p3, .int p4, .int p5] (PRE zs dC dI ((oX1 (p0a 0) p0a p0k p0n p0w p0l) ++ (oX9 (p0a 3) p0_2a p0_2k p0_2n p0_2w)) ((tX1 p0k) ++ (tX9 p0_2k)) sz)) (va_Qi (fun (r : Int32) (_ : Unit) => r = (o.1)) (fun _ t => ∃ (xp0_2_1_z : Nat), ∃ (zp0_2_1_z : ClassId), ∃ (xp0_2_2_z : Nat), ∃ (zp0_2_2_z : ClassId), ∃ (xp0_2_3_z : Nat), ∃ (zp0_2_3_z : ClassId), ∃ (xp0_2_4_z : Nat), ∃ (zp0_2_4_z : ClassId), ∃ (xp0_2_5_z : Nat), ∃ (zp0_2_5_z : ClassId), POST dC dI ((oX1 (p0a 0) p0a p0k p0n (o.2.1) p0l) ++ (oX9 (p0a 3) (st1 (st1 (st1 (st1 (st1 p0_2a 2 xp0_2_1_z) 3 xp0_2_2_z) 4 xp0_2_3_z) 5 xp0_2_4_z) 6 xp0_2_5_z) (st1 (st1 (st1 (st1 (st1 p0_2k 2 zp0_2_1_z) 3 zp0_2_2_z) 4 zp0_2_3_z) 5 zp0_2_4_z) 6 zp0_2_5_z) (o.2.2.2) (o.2.2.1))) ((tX1 p0k) ++ (tX9 (st1 (st1 (st1 (st1 (st1 p0_2k 2 zp0_2_1_z) 3 zp0_2_2_z) 4 zp0_2_3_z) 5 zp0_2_4_z) 6 zp0_2_5_z))) (va_A ((oX1 (p0a 0) p0a p0k p0n p0w p0l) ++ (oX9 (p0a 3) p0_2a p0_2k p0_2n p0_2w)) sz) t) (va_A ((oX1 (p0a 0) p0a p0k p0n p0w p0l) ++ (oX9 (p0a 3) p0_2a p0_2k p0_2n p0_2w)) sz)) (gcX9 p0_2n (o.2.2.2)) (3 * (gcX9 p0_2n (o.2.2.2))) (va_A ((oX1 (p0a 0) p0a p0k p0n p0w p0l) ++ (oX9 (p0a 3) p0_2a p0_2k p0_2n p0_2w)) sz) := by
  refine Met.ofW (cc := cX1_addStep) (maxL := 7) (ret := (Option.some Jvm.ClassFile.FieldType.int)) (by decide) rfl ?_
  intro p e s m args below meth c s₁ B hml hv
  obtain ⟨rfl, hsz, hP, hK, hD0, hE⟩ := hv
  have hx := B.exec
  have hb := B.bytes
  have hr := B.returns
  have hts0 := atoms_spec (ws := wz yX1_addStep cX1_addStep 7 (Option.some Jvm.ClassFile.FieldType.int)) B.pre
  have hts : ∀ w ∈ gw, w.before _ s = true := fun w h => hts0 w (List.mem_cons_of_mem _ h)
  have hown : s.vm.findClass RX1 = some m.cls := findClass_of_methodNamed B.named
  have hlocks := B.notSynchronized
  subst hsz
  have hD := hD0.self (sz := s.heap.size)
  refine gQ9 ?_
  intro Q hQ
  generalize hAe : va_A ((oX1 (p0a 0) p0a p0k p0n p0w p0l) ++ (oX9 (p0a 3) p0_2a p0_2k p0_2n p0_2w)) s.heap.size = A at hD hE hQ
  have hA : ∀ q : Nat, s.heap.size ≤ q → A q := fun q h => by rw [← hAe]; exact Or.inr h
  have hS : va_S A s.heap s.heap [] := va_S.rf
  have hP : va_P (dC, dI) cls ((oX1 (p0a 0) p0a p0k p0n p0w p0l) ++ (oX9 (p0a 3) p0_2a p0_2k p0_2n p0_2w)) s.heap := hP
  have hl := lv_entry ([.ref (p0a 0), .int p1, .int p2, .int p3, .int p4, .int p5]) (n := 7) (Nat.le_of_ble_eq_true rfl)
  rw [lg_entry_eq]
  generalize (lg_sl ([.ref (p0a 0), .int p1, .int p2, .int p3, .int p4, .int p5]) ++ List.replicate (7 - (lg_sl ([.ref (p0a 0), .int p1, .int p2, .int p3, .int p4, .int p5])).length) Slot.unset).toArray = ls at hl ⊢
  have hl : lv_has ls 7 [(0, .ref (p0a 0)), (1, .int p1), (2, .int p2), (3, .int p3), (4, .int p4), (5, .int p5)] := hl
  obtain ⟨H, hHe⟩ : ∃ H, H = s.heap := ⟨_, rfl⟩
  obtain ⟨locs, hle⟩ : ∃ locs : List Loc, locs = [] := ⟨_, rfl⟩
  rw [← hHe] at hP
  have hS : va_S A s.heap H locs := by rw [hHe, hle]; exact hS
  show W p l e ({ frames := 3, cells := (gcX9 p0_2n (o.2.2.2)), slots := (3 * (gcX9 p0_2n (o.2.2.2))), locals := 87 } : Room) s m ([.ref (p0a 0), .int p1, .int p2, .int p3, .int p4, .int p5] : List Value).toArray below meth c s.heap [] 0 0 Q (F0 m 0 ls [])
  rw [← hle]
  refine wH9 hHe ?_
  have hg_p0_2 := glX9_rf p0_2n
  have hgn_p0_2 : glX9 p0_2n (o.2.2.2) := (mo_fX1_addStep hrun)
  refine W.widen (k := (gcX9 p0_2n p0_2n)) (n := (3 * (gcX9 p0_2n p0_2n))) (Nat.zero_le _) (Nat.zero_le _) ?_
  unfold fX1_addStep at hrun
  refine lv_aload_n hx hb dX1_addStep_0 rfl (lv_at hl 0 rfl) ?_
  refine va_get (D := (dC, dI)) (ci := 4) (v := .ref (p0a 3)) (C := RX1) (T := TX1) (N := 21) hx hb hts i_X1 hown hK hP 0 rfl rfl 2 (by decide) (hts _ qw37) (fun _ h9 => h9) rfl dX1_addStep_1 ?_
  refine lv_iload_n hx hb dX1_addStep_4 rfl (lv_at hl 2 rfl) ?_
  refine lv_iload_n hx hb dX1_addStep_5 rfl (lv_at hl 3 rfl) ?_
  refine lv_iload hx hb dX1_addStep_6 (lv_at hl 4 rfl) ?_
  refine lv_iload hx hb dX1_addStep_8 (lv_at hl 5 rfl) ?_
  obtain ⟨o_1, hc_1, hrun⟩ := bnd9 hrun
  have hPc := hP.sub (ws' := (oX9 (p0a 3) p0_2a p0_2k p0_2n p0_2w)) [18, 19, 20, 21, 22, 23] rfl
  have hDc := hD.sub (ws' := (oX9 (p0a 3) p0_2a p0_2k p0_2n p0_2w)) [18, 19, 20, 21, 22, 23] (by decide +kernel) rfl
  have hKc := hK.sub (tys' := (tX9 p0_2k)) [17, 18, 19, 20, 21] rfl
  have hFc := va_free (wc := (oX9 (p0a 3) p0_2a p0_2k p0_2n p0_2w)) hD hS hA [18, 19, 20, 21, 22, 23] rfl
  have hgn_p0_2 : glX9 (o_1.2.2) (o.2.2.2) := (mo_fX1_addStep_G13_13 hrun)
  refine va_calli (va_runV (As := [.int p2, .int p3, .int p4, .int p5]) (rest := []) ⟨hx, hb, hml, hown, hts⟩ (kX9_add l dC dI (p0a := (st0 (p0a 3) p0_2a)) (p0k := p0_2k) (p0n := p0_2n) (p0w := p0_2w) (p1 := p2) (p2 := p3) (p3 := p4) (p4 := p5) (sz := _) (o := o_1) (hrun := hc_1)) (cwV 4 hts (gi_V qw57 qw58 qw59 qw60 (gi_z qw56)) rfl rfl rfl (by decide +kernel) ⟨Nat.le_of_ble_eq_true rfl, Nat.le_of_ble_eq_true rfl⟩) ⟨PRE.blind, va_recv hKc hPc (ci := 3) (q0 := 0) rfl rfl, PRE.of hE hS hFc hPc hKc hDc⟩ rfl rfl hl.1 rfl (lv_room (Nat.le_of_ble_eq_true rfl)) dX1_addStep_10 ⟨(show (gcX9 p0_2n p0_2n) + (gcX9 p0_2n (o_1.2.2)) ≤ (gcX9 p0_2n (o.2.2.2)) from by have q0 := gsX9 hg_p0_2 (mo_fX9_add hc_1) hgn_p0_2; omega), (show (3 * (gcX9 p0_2n p0_2n)) + (3 * ((gcX9 p0_2n (o_1.2.2)))) ≤ (3 * (gcX9 p0_2n (o.2.2.2))) from by have q0 := gsX9 hg_p0_2 (mo_fX9_add hc_1) hgn_p0_2; omega)⟩) hS (fun q _ h => hFc q h) hFc (fun r2 u t H locs ht hvm hw hB hz1 hk1 hS => ?_)
  obtain ⟨x3, z4, x5, z6, x7, z8, x9, z10, x11, z12, hB⟩ := hB
  obtain ⟨hP, hD, hK⟩ := JOIN (wr := (oX1 (p0a 0) p0a p0k p0n p0w p0l)) hP hD hK [18, 19, 20, 21, 22, 23] [0, 1, 2, 3, 4, 5, 6, 7, 8, 9, 10, 11, 12, 13, 14, 15, 16, 17] [0, 1, 2, 3, 4, 5, 6, 7, 8, 9, 10, 11, 12, 13, 14, 15, 16] rfl rfl (by decide +kernel) (by decide +kernel) rfl hk1 hFc ht hvm hB
  have hP : va_P (dC, dI) cls ((oX1 (p0a 0) p0a p0k p0n p0w p0l) ++ (oX9 (p0a 3) (st1 (st1 (st1 (st1 (st1 p0_2a 2 x3) 3 x5) 4 x7) 5 x9) 6 x11) (st1 (st1 (st1 (st1 (st1 p0_2k 2 z4) 3 z6) 4 z8) 5 z10) 6 z12) (o_1.2.2) (o_1.2.1))) H := hP.sub [0, 1, 2, 3, 4, 5, 6, 7, 8, 9, 10, 11, 12, 13, 14, 15, 16, 17, 18, 19, 20, 21, 22, 23] rfl
  have hD : va_D A ((oX1 (p0a 0) p0a p0k p0n p0w p0l) ++ (oX9 (p0a 3) (st1 (st1 (st1 (st1 (st1 p0_2a 2 x3) 3 x5) 4 x7) 5 x9) 6 x11) (st1 (st1 (st1 (st1 (st1 p0_2k 2 z4) 3 z6) 4 z8) 5 z10) 6 z12) (o_1.2.2) (o_1.2.1))) := hD.sub [0, 1, 2, 3, 4, 5, 6, 7, 8, 9, 10, 11, 12, 13, 14, 15, 16, 17, 18, 19, 20, 21, 22, 23] (by decide +kernel) rfl
  have hK : va_K (dC, dI) cls ((tX1 p0k) ++ (tX9 (st1 (st1 (st1 (st1 (st1 p0_2k 2 z4) 3 z6) 4 z8) 5 z10) 6 z12))) s := hK.sub [0, 1, 2, 3, 4, 5, 6, 7, 8, 9, 10, 11, 12, 13, 14, 15, 16, 17, 18, 19, 20, 21] rfl
  obtain rfl : r2 = (o_1.1) := hw
  refine W.widen (k := (gcX9 p0_2n (o_1.2.2))) (n := (3 * (gcX9 p0_2n (o_1.2.2)))) (by have a0 := gcX9_add hg_p0_2 (mo_fX9_add hc_1); omega) (by have a0 := gcX9_add hg_p0_2 (mo_fX9_add hc_1); omega) ?_
  have hg_p0_2 : glX9 p0_2n (o_1.2.2) := glX9_tr hg_p0_2 (mo_fX9_add hc_1)
  unfold fX1_addStep_G13_13 at hrun
  refine lv_istore (lv' := [(6, .int (o_1.1)), (0, .ref (p0a 0)), (1, .int p1), (2, .int p2), (3, .int p3), (4, .int p4), (5, .int p5)]) hx hb dX1_addStep_13 hl (by decide) rfl (fun ls hl => ?_)
  refine lv_aload_n hx hb dX1_addStep_15 rfl (lv_at hl 1 rfl) ?_
  refine lv_iload_n hx hb dX1_addStep_16 rfl (lv_at hl 2 rfl) ?_
  refine lv_iload hx hb dX1_addStep_17 (lv_at hl 0 rfl) ?_
  obtain ⟨o_14, hc_14, hrun⟩ := bnd9 hrun
  have hPc := hP.sub (ws' := ((oX1 (p0a 0) p0a p0k p0n p0w p0l) ++ (oX9 (p0a 3) (st1 (st1 (st1 (st1 (st1 p0_2a 2 x3) 3 x5) 4 x7) 5 x9) 6 x11) (st1 (st1 (st1 (st1 (st1 p0_2k 2 z4) 3 z6) 4 z8) 5 z10) 6 z12) (o_1.2.2) (o_1.2.1)))) [0, 1, 2, 3, 4, 5, 6, 7, 8, 9, 10, 11, 12, 13, 14, 15, 16, 17, 18, 19, 20, 21, 22, 23] rfl
  have hDc := hD.sub (ws' := ((oX1 (p0a 0) p0a p0k p0n p0w p0l) ++ (oX9 (p0a 3) (st1 (st1 (st1 (st1 (st1 p0_2a 2 x3) 3 x5) 4 x7) 5 x9) 6 x11) (st1 (st1 (st1 (st1 (st1 p0_2k 2 z4) 3 z6) 4 z8) 5 z10) 6 z12) (o_1.2.2) (o_1.2.1)))) [0, 1, 2, 3, 4, 5, 6, 7, 8, 9, 10, 11, 12, 13, 14, 15, 16, 17, 18, 19, 20, 21, 22, 23] (by decide +kernel) rfl
  have hKc := hK.sub (tys' := ((tX1 p0k) ++ (tX9 (st1 (st1 (st1 (st1 (st1 p0_2k 2 z4) 3 z6) 4 z8) 5 z10) 6 z12)))) [0, 1, 2, 3, 4, 5, 6, 7, 8, 9, 10, 11, 12, 13, 14, 15, 16, 17, 18, 19, 20, 21] rfl
  have hFc := va_free (wc := ((oX1 (p0a 0) p0a p0k p0n p0w p0l) ++ (oX9 (p0a 3) (st1 (st1 (st1 (st1 (st1 p0_2a 2 x3) 3 x5) 4 x7) 5 x9) 6 x11) (st1 (st1 (st1 (st1 (st1 p0_2k 2 z4) 3 z6) 4 z8) 5 z10) 6 z12) (o_1.2.2) (o_1.2.1)))) hD hS hA [0, 1, 2, 3, 4, 5, 6, 7, 8, 9, 10, 11, 12, 13, 14, 15, 16, 17, 18, 19, 20, 21, 22, 23] rfl
  refine va_callv (va_runV (As := [.int p1, .int (o_1.1)]) (rest := []) ⟨hx, hb, hml, hown, hts⟩ (kX1_link l dC dI (p0a := (st0 (p0a 0) p0a)) (p0k := p0k) (p0n := p0n) (p0w := p0w) (p0l := p0l) (p1 := p1) (p2 := (o_1.1)) (p0_2a := (st1 (st1 (st1 (st1 (st1 p0_2a 2 x3) 3 x5) 4 x7) 5 x9) 6 x11)) (p0_2k := (st1 (st1 (st1 (st1 (st1 p0_2k 2 z4) 3 z6) 4 z8) 5 z10) 6 z12)) (p0_2n := (o_1.2.2)) (p0_2w := (o_1.2.1)) (sz := _) (o := o_14) (hrun := hc_14)) (cwV 2 hts (gi_V qw65 qw66 qw67 qw68 (gi_z qw64)) rfl rfl rfl (by decide +kernel) ⟨Nat.le_of_ble_eq_true rfl, Nat.le_of_ble_eq_true rfl⟩) ⟨PRE.blind, va_recv hKc hPc (ci := 4) (q0 := 0) rfl rfl, PRE.of hE hS hFc hPc hKc hDc⟩ rfl rfl hl.1 rfl (lv_room (Nat.le_of_ble_eq_true rfl)) dX1_addStep_19 ⟨(show (gcX9 p0_2n (o_1.2.2)) + 0 ≤ (gcX9 p0_2n (o.2.2.2)) from by have q0 := gmX9 hg_p0_2 hgn_p0_2; omega), (show (3 * (gcX9 p0_2n (o_1.2.2))) + 0 ≤ (3 * (gcX9 p0_2n (o.2.2.2))) from by have q0 := gmX9 hg_p0_2 hgn_p0_2; omega)⟩) hS (fun q _ h => hFc q h) hFc (fun u t H locs ht hvm hw hB hz1 hk1 hS => ?_)
  obtain ⟨hP, hD, hK⟩ := JOIN (wr := ([] : va_W)) hP hD hK [0, 1, 2, 3, 4, 5, 6, 7, 8, 9, 10, 11, 12, 13, 14, 15, 16, 17, 18, 19, 20, 21, 22, 23] [] [] rfl rfl (by decide +kernel) (by decide +kernel) rfl hk1 hFc ht hvm hB
  have hP : va_P (dC, dI) cls ((oX1 (p0a 0) p0a p0k p0n (o_14.1) p0l) ++ (oX9 (p0a 3) (st1 (st1 (st1 (st1 (st1 p0_2a 2 x3) 3 x5) 4 x7) 5 x9) 6 x11) (st1 (st1 (st1 (st1 (st1 p0_2k 2 z4) 3 z6) 4 z8) 5 z10) 6 z12) (o_1.2.2) (o_14.2))) H := hP.sub [0, 1, 2, 3, 4, 5, 6, 7, 8, 9, 10, 11, 12, 13, 14, 15, 16, 17, 18, 19, 20, 21, 22, 23] rfl
  have hD : va_D A ((oX1 (p0a 0) p0a p0k p0n (o_14.1) p0l) ++ (oX9 (p0a 3) (st1 (st1 (st1 (st1 (st1 p0_2a 2 x3) 3 x5) 4 x7) 5 x9) 6 x11) (st1 (st1 (st1 (st1 (st1 p0_2k 2 z4) 3 z6) 4 z8) 5 z10) 6 z12) (o_1.2.2) (o_14.2))) := hD.sub [0, 1, 2, 3, 4, 5, 6, 7, 8, 9, 10, 11, 12, 13, 14, 15, 16, 17, 18, 19, 20, 21, 22, 23] (by decide +kernel) rfl
  have hK : va_K (dC, dI) cls ((tX1 p0k) ++ (tX9 (st1 (st1 (st1 (st1 (st1 p0_2k 2 z4) 3 z6) 4 z8) 5 z10) 6 z12))) s := hK.sub [0, 1, 2, 3, 4, 5, 6, 7, 8, 9, 10, 11, 12, 13, 14, 15, 16, 17, 18, 19, 20, 21] rfl
  refine lv_iload hx hb dX1_addStep_22 (lv_at hl 0 rfl) ?_
  have ho9 : ((o_1.1), (o_14.1), (o_14.2), (o_1.2.2)) = o := Option.some.inj hrun
  subst ho9
  subst hQ
  exact W.iret (v := (o_1.1)) hx hb hr (fun t ht hW => ⟨⟨(o_1.1), (), rfl, rfl, ⟨x3, z4, x5, z6, x7, z8, x9, z10, x11, z12, by rw [ht]; exact hP, va_K.moved hW.alike hK, hD⟩⟩, hS.F ht⟩) hS.2.2 dX1_addStep_24
def fX4_fillStep_J146 (p2w_146 : ST) (p2_2w_146 : ST) (p2_2n_146 : Nat → Nat) : Option (ST × ST × (Nat → Nat)) := some (p2w_146, p2_2w_146, p2_2n_146)
theorem mo_fX4_fillStep_J146 {p2w_146 : ST} {p2_2w_146 : ST} {p2_2n_146 : Nat → Nat} {o9q : ST × ST × (Nat → Nat)} (hrun : fX4_fillStep_J146 p2w_146 p2_2w_146 p2_2n_146 = some o9q) : glX9 p2_2n_146 (o9q.2.2) := by
  unfold fX4_fillStep_J146 at hrun
  obtain rfl := (Option.some.inj hrun)
  exact (glX9_rf _)
def fX4_fillStep_J43 (p2w : ST) (p3 : Int32) (p2_2n : Nat → Nat) (p2_2w : ST) (o_3 : Int32) : Option (ST × ST × (Nat → Nat)) := (if ixb p3 60 = true then (lt9 (upw p2w 9 (nn p3) o_3) fun (w6 : ST) => (fX4_fillStep_J146 w6 p2_2w p2_2n)) else none)
theorem mo_fX4_fillStep_J43 {p2w : ST} {p3 : Int32} {p2_2n : Nat → Nat} {p2_2w : ST} {o_3 : Int32} {o9q : ST × ST × (Nat → Nat)} (hrun : fX4_fillStep_J43 p2w p3 p2_2n p2_2w o_3 = some o9q) : glX9 p2_2n (o9q.2.2) := by
  unfold fX4_fillStep_J43 at hrun
  obtain ⟨hq5, hrun⟩ := chk9 hrun
  obtain ⟨w6, ew6, hrun⟩ := let9 hrun
  exact (mo_fX4_fillStep_J146 hrun)
def fX4_fillStep_G145_28 (o_16 : Int32 × ST × ST × (Nat → Nat)) : Option (ST × ST × (Nat → Nat)) := (fX4_fillStep_J146 (o_16.2.1) (o_16.2.2.1) (o_16.2.2.2))
theorem mo_fX4_fillStep_G145_28 {o_16 : Int32 × ST × ST × (Nat → Nat)} {o9q : ST × ST × (Nat → Nat)} (hrun : fX4_fillStep_G145_28 o_16 = some o9q) : glX9 (o_16.2.2.2) (o9q.2.2) := by
  unfold fX4_fillStep_G145_28 at hrun
  exact (mo_fX4_fillStep_J146 hrun)
def fX4_fillStep_J131 (p0w : ST) (p1w : ST) (p2w : ST) (p3 : Int32) (p4 : Int32) (p2_2n : Nat → Nat) (p2_2w : ST) (y0_131 : Int32) (y1_131 : Int32) : Option (ST × ST × (Nat → Nat)) := (if ixb p4 3200 = true then ((fX4_valueAt p0w (p0w 3 (nn p4))).bind fun (o_14 : Int32) => ((fX1_addStep p2w p3 (p1w 9 (nn p4)) y1_131 y0_131 o_14 p2_2n p2_2w).bind fun (o_16 : Int32 × ST × ST × (Nat → Nat)) => (fX4_fillStep_G145_28 o_16))) else none)
theorem mo_fX4_fillStep_J131 {p0w : ST} {p1w : ST} {p2w : ST} {p3 : Int32} {p4 : Int32} {p2_2n : Nat → Nat} {p2_2w : ST} {y0_131 : Int32} {y1_131 : Int32} {o9q : ST × ST × (Nat → Nat)} (hrun : fX4_fillStep_J131 p0w p1w p2w p3 p4 p2_2n p2_2w y0_131 y1_131 = some o9q) : glX9 p2_2n (o9q.2.2) := by
  unfold fX4_fillStep_J131 at hrun
  obtain ⟨hq13, hrun⟩ := chk9 hrun
  obtain ⟨o_14, hc_14, hrun⟩ := bnd9 hrun
  obtain ⟨o_16, hc_16, hrun⟩ := bnd9 hrun
  exact (glX9_tr (mo_fX1_addStep hc_16) (mo_fX4_fillStep_G145_28 hrun))
def fX4_fillStep_J106 (p0w : ST) (p1w : ST) (p2w : ST) (p3 : Int32) (p4 : Int32) (p2_2n : Nat → Nat) (p2_2w : ST) (o_3 : Int32) (y0_85 : Int32) (y0_106 : Int32) : Option (ST × ST × (Nat → Nat)) := (if y0_85 = 0 then (fX4_fillStep_J131 p0w p1w p2w p3 p4 p2_2n p2_2w o_3 y0_106) else (if ixb p4 3200 = true then (fX4_fillStep_J131 p0w p1w p2w p3 p4 p2_2n p2_2w (p1w 10 (nn p4)) y0_106) else none))
theorem mo_fX4_fillStep_J106 {p0w : ST} {p1w : ST} {p2w : ST} {p3 : Int32} {p4 : Int32} {p2_2n : Nat → Nat} {p2_2w : ST} {o_3 : Int32} {y0_85 : Int32} {y0_106 : Int32} {o9q : ST × ST × (Nat → Nat)} (hrun : fX4_fillStep_J106 p0w p1w p2w p3 p4 p2_2n p2_2w o_3 y0_85 y0_106 = some o9q) : glX9 p2_2n (o9q.2.2) := by
  unfold fX4_fillStep_J106 at hrun
  rcases br9 hrun with ⟨hc29, hrun⟩ | ⟨hc29, hrun⟩
  · skip
    exact (mo_fX4_fillStep_J131 hrun)
  · skip
    obtain ⟨hq30, hrun⟩ := chk9 hrun
    exact (mo_fX4_fillStep_J131 hrun)
def fX4_fillStep_J85 (p0w : ST) (p1w : ST) (p2w : ST) (p3 : Int32) (p4 : Int32) (p2_2n : Nat → Nat) (p2_2w : ST) (o_3 : Int32) (y0_85 : Int32) : Option (ST × ST × (Nat → Nat)) := ((fX11_givesValue (p1w 9 (nn p4))).bind fun (o_11 : Int32) => (if o_11 = 0 then (fX4_fillStep_J106 p0w p1w p2w p3 p4 p2_2n p2_2w o_3 y0_85 (-1)) else (if ixb p4 3200 = true then (fX4_fillStep_J106 p0w p1w p2w p3 p4 p2_2n p2_2w o_3 y0_85 (p0w 4 (nn p4))) else none)))
theorem mo_fX4_fillStep_J85 {p0w : ST} {p1w : ST} {p2w : ST} {p3 : Int32} {p4 : Int32} {p2_2n : Nat → Nat} {p2_2w : ST} {o_3 : Int32} {y0_85 : Int32} {o9q : ST × ST × (Nat → Nat)} (hrun : fX4_fillStep_J85 p0w p1w p2w p3 p4 p2_2n p2_2w o_3 y0_85 = some o9q) : glX9 p2_2n (o9q.2.2) := by
  unfold fX4_fillStep_J85 at hrun
  obtain ⟨o_11, hc_11, hrun⟩ := bnd9 hrun
  rcases br9 hrun with ⟨hc31, hrun⟩ | ⟨hc31, hrun⟩
  · skip
    exact (mo_fX4_fillStep_J106 hrun)
  · skip
    obtain ⟨hq32, hrun⟩ := chk9 hrun
    exact (mo_fX4_fillStep_J106 hrun)
def fX4_fillStep_J80 (p0w : ST) (p1w : ST) (p2w : ST) (p3 : Int32) (p4 : Int32) (p2_2n : Nat → Nat) (p2_2w : ST) (o_3 : Int32) : Option (ST × ST × (Nat → Nat)) := (fX4_fillStep_J85 p0w p1w p2w p3 p4 p2_2n p2_2w o_3 1)
theorem mo_fX4_fillStep_J80 {p0w : ST} {p1w : ST} {p2w : ST} {p3 : Int32} {p4 : Int32} {p2_2n : Nat → Nat} {p2_2w : ST} {o_3 : Int32} {o9q : ST × ST × (Nat → Nat)} (hrun : fX4_fillStep_J80 p0w p1w p2w p3 p4 p2_2n p2_2w o_3 = some o9q) : glX9 p2_2n (o9q.2.2) := by
  unfold fX4_fillStep_J80 at hrun
  exact (mo_fX4_fillStep_J85 hrun)
def fX4_fillStep (p0w : ST) (p1w : ST) (p2w : ST) (p3 : Int32) (p4 : Int32) (p2_2n : Nat → Nat) (p2_2w : ST) : Option (ST × ST × (Nat → Nat)) := (if ixb p4 3200 = true then (if ixb p4 3200 = true then ((fX4_valueAt p0w (p0w 2 (nn p4))).bind fun (o_3 : Int32) => (if (p1w 9 (nn p4)) = 24 then (fX4_fillStep_J43 p2w p3 p2_2n p2_2w o_3) else (if (p1w 9 (nn p4)) = 33 then (fX4_fillStep_J43 p2w p3 p2_2n p2_2w o_3) else (if (p1w 9 (nn p4)) = 34 then (fX4_fillStep_J43 p2w p3 p2_2n p2_2w o_3) else (if 21 < (p1w 9 (nn p4)) then (fX4_fillStep_J146 p2w p2_2w p2_2n) else (if (p1w 9 (nn p4)) = 0 then (fX4_fillStep_J80 p0w p1w p2w p3 p4 p2_2n p2_2w o_3) else (if (p1w 9 (nn p4)) = 20 then (fX4_fillStep_J80 p0w p1w p2w p3 p4 p2_2n p2_2w o_3) else (if (p1w 9 (nn p4)) = 21 then (fX4_fillStep_J80 p0w p1w p2w p3 p4 p2_2n p2_2w o_3) else (fX4_fillStep_J85 p0w p1w p2w p3 p4 p2_2n p2_2w o_3 0))))))))) else none) else none)
theorem mo_fX4_fillStep {p0w : ST} {p1w : ST} {p2w : ST} {p3 : Int32} {p4 : Int32} {p2_2n : Nat → Nat} {p2_2w : ST} {o9q : ST × ST × (Nat → Nat)} (hrun : fX4_fillStep p0w p1w p2w p3 p4 p2_2n p2_2w = some o9q) : glX9 p2_2n (o9q.2.2) := by
  unfold fX4_fillStep at hrun
  obtain ⟨hq1, hrun⟩ := chk9 hrun
  obtain ⟨hq2, hrun⟩ := chk9 hrun
  obtain ⟨o_3, hc_3, hrun⟩ := bnd9 hrun
  rcases br9 hrun with ⟨hc7, hrun⟩ | ⟨hc7, hrun⟩
  · skip
    exact (mo_fX4_fillStep_J43 hrun)
  · skip
    rcases br9 hrun with ⟨hc8, hrun⟩ | ⟨hc8, hrun⟩
    · skip
      exact (mo_fX4_fillStep_J43 hrun)
    · skip
      rcases br9 hrun with ⟨hc9, hrun⟩ | ⟨hc9, hrun⟩
      · skip
        exact (mo_fX4_fillStep_J43 hrun)
      · skip
        rcases br9 hrun with ⟨hc10, hrun⟩ | ⟨hc10, hrun⟩
        · skip
          exact (mo_fX4_fillStep_J146 hrun)
        · skip
          rcases br9 hrun with ⟨hc33, hrun⟩ | ⟨hc33, hrun⟩
          · skip
            exact (mo_fX4_fillStep_J80 hrun)
          · skip
            rcases br9 hrun with ⟨hc34, hrun⟩ | ⟨hc34, hrun⟩
            · skip
              exact (mo_fX4_fillStep_J80 hrun)
            · skip
              rcases br9 hrun with ⟨hc35, hrun⟩ | ⟨hc35, hrun⟩
              · skip
                exact (mo_fX4_fillStep_J80 hrun)
              · skip
                exact (mo_fX4_fillStep_J85 hrun)
set_option maxHeartbeats 16000000 in
set_option maxRecDepth 100000 in
theorem kX4_fillStep {zs : Nat × Nat} (l : Launch) (dC : Nat → ClassId) (dI : Nat → Nat → Nat) (p0a : Nat → Nat) (p0k : Nat → ClassId) (p0w : ST) (p0l : SL) (p1a : Nat → Nat) (p1k : Nat → ClassId) (p1w : ST) (p1l : SL) (p2a : Nat → Nat) (p2k : Nat → ClassId) (p2n : Nat → Nat) (p2w : ST) (p2l : SL) (p3 : Int32) (p4 : Int32) (p2_2a : Nat → Nat) (p2_2k : Nat → ClassId) (p2_2n : Nat → Nat) (p2_2w : ST) (sz : Nat) (o : ST × ST × (Nat → Nat)) (hrun : fX4_fillStep p0w p1w p2w p3 p4 p2_2n p2_2w = some o) : Met l yX4_fillStep (wz yX4_fillStep cX4_fillStep 9 (Option.none : Option Jvm.ClassFile.FieldType)) ({ frames := 4, cells := (gcX9 p2_2n (o.2.2)), slots := (3 * (gcX9 p2_2n (o.2.2))), locals := 113 } : Room) (va_Pc [.ref (p0a 0), .ref (p1a 0), .ref (p2a 0), .int p3, .int p4] (PRE zs dC dI ((oX4 (p0a 0) p0a p0k p0w p0l) ++ (oX6 (p1a 0) p1a p1k p1w p1l) ++ (oX1 (p2a 0) p2a p2k p2n p2w p2l) ++ (oX9 (p2a 3) p2_2a p2_2k p2_2n p2_2w)) ((tX4 p0k) ++ (tX6 p1k) ++ (tX1 p2k) ++ (tX9 p2_2k)) sz)) (va_Qv (fun (_ : Unit) => True) (fun _ t => ∃ (xp2_2_1_z : Nat), ∃ (zp2_2_1_z : ClassId), ∃ (xp2_2_2_z : Nat), ∃ (zp2_2_2_z : ClassId), ∃ (xp2_2_3_z : Nat), ∃ (zp2_2_3_z : ClassId), ∃ (xp2_2_4_z : Nat), ∃ (zp2_2_4_z : ClassId), ∃ (xp2_2_5_z : Nat), ∃ (zp2_2_5_z : ClassId), POST dC dI ((oX4 (p0a 0) p0a p0k p0w p0l) ++ (oX6 (p1a 0) p1a p1k p1w p1l) ++ (oX1 (p2a 0) p2a p2k p2n (o.1) p2l) ++ (oX9 (p2a 3) (st1 (st1 (st1 (st1 (st1 p2_2a 2 xp2_2_1_z) 3 xp2_2_2_z) 4 xp2_2_3_z) 5 xp2_2_4_z) 6 xp2_2_5_z) (st1 (st1 (st1 (st1 (st1 p2_2k 2 zp2_2_1_z) 3 zp2_2_2_z) 4 zp2_2_3_z) 5 zp2_2_4_z) 6 zp2_2_5_z) (o.2.2) (o.2.1))) ((tX4 p0k) ++ (tX6 p1k) ++ (tX1 p2k) ++ (tX9 (st1 (st1 (st1 (st1 (st1 p2_2k 2 zp2_2_1_z) 3 zp2_2_2_z) 4 zp2_2_3_z) 5 zp2_2_4_z) 6 zp2_2_5_z))) (va_A ((oX4 (p0a 0) p0a p0k p0w p0l) ++ (oX6 (p1a 0) p1a p1k p1w p1l) ++ (oX1 (p2a 0) p2a p2k p2n p2w p2l) ++ (oX9 (p2a 3) p2_2a p2_2k p2_2n p2_2w)) sz) t) (va_A ((oX4 (p0a 0) p0a p0k p0w p0l) ++ (oX6 (p1a 0) p1a p1k p1w p1l) ++ (oX1 (p2a 0) p2a p2k p2n p2w p2l) ++ (oX9 (p2a 3) p2_2a p2_2k p2_2n p2_2w)) sz)) (gcX9 p2_2n (o.2.2)) (3 * (gcX9 p2_2n (o.2.2))) (va_A ((oX4 (p0a 0) p0a p0k p0w p0l) ++ (oX6 (p1a 0) p1a p1k p1w p1l) ++ (oX1 (p2a 0) p2a p2k p2n p2w p2l) ++ (oX9 (p2a 3) p2_2a p2_2k p2_2n p2_2w)) sz) := by
  refine Met.ofW (cc := cX4_fillStep) (maxL := 9) (ret := (Option.none : Option Jvm.ClassFile.FieldType)) (by decide) rfl ?_
  intro p e s m args below meth c s₁ B hml hv
  obtain ⟨rfl, hsz, hP, hK, hD0, hE⟩ := hv
  have hx := B.exec
  have hb := B.bytes
  have hr := B.returns
  have hts0 := atoms_spec (ws := wz yX4_fillStep cX4_fillStep 9 (Option.none : Option Jvm.ClassFile.FieldType)) B.pre
  have hts : ∀ w ∈ gw, w.before _ s = true := fun w h => hts0 w (List.mem_cons_of_mem _ h)
  have hown : s.vm.findClass RX4 = some m.cls := findClass_of_methodNamed B.named
  have hlocks := B.notSynchronized
  subst hsz
  have hD := hD0.self (sz := s.heap.size)
  refine gQ9 ?_
  intro Q hQ
  generalize hAe : va_A ((oX4 (p0a 0) p0a p0k p0w p0l) ++ (oX6 (p1a 0) p1a p1k p1w p1l) ++ (oX1 (p2a 0) p2a p2k p2n p2w p2l) ++ (oX9 (p2a 3) p2_2a p2_2k p2_2n p2_2w)) s.heap.size = A at hD hE hQ
  have hA : ∀ q : Nat, s.heap.size ≤ q → A q := fun q h => by rw [← hAe]; exact Or.inr h
  have hS : va_S A s.heap s.heap [] := va_S.rf
  have hP : va_P (dC, dI) cls ((oX4 (p0a 0) p0a p0k p0w p0l) ++ (oX6 (p1a 0) p1a p1k p1w p1l) ++ (oX1 (p2a 0) p2a p2k p2n p2w p2l) ++ (oX9 (p2a 3) p2_2a p2_2k p2_2n p2_2w)) s.heap := hP
  have hl := lv_entry ([.ref (p0a 0), .ref (p1a 0), .ref (p2a 0), .int p3, .int p4]) (n := 9) (Nat.le_of_ble_eq_true rfl)
  rw [lg_entry_eq]
  generalize (lg_sl ([.ref (p0a 0), .ref (p1a 0), .ref (p2a 0), .int p3, .int p4]) ++ List.replicate (9 - (lg_sl ([.ref (p0a 0), .ref (p1a 0), .ref (p2a 0), .int p3, .int p4])).length) Slot.unset).toArray = ls at hl ⊢
  have hl : lv_has ls 9 [(0, .ref (p0a 0)), (1, .ref (p1a 0)), (2, .ref (p2a 0)), (3, .int p3), (4, .int p4)] := hl
  obtain ⟨H, hHe⟩ : ∃ H, H = s.heap := ⟨_, rfl⟩
  obtain ⟨locs, hle⟩ : ∃ locs : List Loc, locs = [] := ⟨_, rfl⟩
  rw [← hHe] at hP
  have hS : va_S A s.heap H locs := by rw [hHe, hle]; exact hS
  show W p l e ({ frames := 4, cells := (gcX9 p2_2n (o.2.2)), slots := (3 * (gcX9 p2_2n (o.2.2))), locals := 113 } : Room) s m ([.ref (p0a 0), .ref (p1a 0), .ref (p2a 0), .int p3, .int p4] : List Value).toArray below meth c s.heap [] 0 0 Q (F0 m 0 ls [])
  rw [← hle]
  refine wH9 hHe ?_
  have hg_p2_2 := glX9_rf p2_2n
  have hgn_p2_2 : glX9 p2_2n (o.2.2) := (mo_fX4_fillStep hrun)
  refine W.widen (k := (gcX9 p2_2n p2_2n)) (n := (3 * (gcX9 p2_2n p2_2n))) (Nat.zero_le _) (Nat.zero_le _) ?_
  unfold fX4_fillStep at hrun
  refine lv_aload_n hx hb dX4_fillStep_0 rfl (lv_at hl 1 rfl) ?_
  refine va_get (D := (dC, dI)) (ci := 2) (v := .ref (p1a 9)) (C := RX6) (T := TX6) (N := 13) hx hb hts i_X6 hown hK hP 19 rfl rfl 8 (by decide) (hts _ qw25) (fun _ h9 => h9) rfl dX4_fillStep_1 ?_
  refine lv_iload hx hb dX4_fillStep_4 (lv_at hl 4 rfl) ?_
  obtain ⟨hq1, hrun⟩ := chk9 hrun
  refine va_iald hx hb hK hP 26 24 rfl rfl (ixb_in hq1) dX4_fillStep_6 ?_
  refine lv_istore (lv' := [(5, .int (p1w 9 (nn p4))), (0, .ref (p0a 0)), (1, .ref (p1a 0)), (2, .ref (p2a 0)), (3, .int p3), (4, .int p4)]) hx hb dX4_fillStep_7 hl (by decide) rfl (fun ls hl => ?_)
  refine lv_aload_n hx hb dX4_fillStep_9 rfl (lv_at hl 1 rfl) ?_
  refine lv_aload_n hx hb dX4_fillStep_10 rfl (lv_at hl 1 rfl) ?_
  refine va_get (D := (dC, dI)) (ci := 6) (v := .ref (p0a 2)) (C := RX4) (T := TX4) (N := 20) hx hb hts i_X4 hown hK hP 0 rfl rfl 1 (by decide) (hts _ qw27) (fun _ h9 => h9) rfl dX4_fillStep_11 ?_
  refine lv_iload hx hb dX4_fillStep_14 (lv_at hl 5 rfl) ?_
  obtain ⟨hq2, hrun⟩ := chk9 hrun
  refine va_iald hx hb hK hP 1 0 rfl rfl (ixb_in hq2) dX4_fillStep_16 ?_
  obtain ⟨o_3, hc_3, hrun⟩ := bnd9 hrun
  have hPc := hP.sub (ws' := (oX4 (p0a 0) p0a p0k p0w p0l)) [0, 1, 2, 3, 4, 5, 6, 7, 8, 9, 10, 11, 12, 13, 14, 15, 16, 17, 18] rfl
  have hDc := hD.sub (ws' := (oX4 (p0a 0) p0a p0k p0w p0l)) [0, 1, 2, 3, 4, 5, 6, 7, 8, 9, 10, 11, 12, 13, 14, 15, 16, 17, 18] (by decide +kernel) rfl
  have hKc := hK.sub (tys' := (tX4 p0k)) [0, 1, 2, 3, 4, 5, 6, 7, 8, 9, 10, 11, 12, 13, 14, 15, 16, 17] rfl
  have hFc := va_free (wc := (oX4 (p0a 0) p0a p0k p0w p0l)) hD hS hA [0, 1, 2, 3, 4, 5, 6, 7, 8, 9, 10, 11, 12, 13, 14, 15, 16, 17, 18] rfl
  refine va_calli (va_runV (As := [.int (p0w 2 (nn p4))]) (rest := []) ⟨hx, hb, hml, hown, hts⟩ (kX4_valueAt l dC dI (p0a := (st0 (p0a 0) p0a)) (p0k := p0k) (p0w := p0w) (p0l := p0l) (p1 := (p0w 2 (nn p4))) (sz := _) (o := o_3) (hrun := hc_3)) (cwV 1 hts (gi_V qw29 qw30 qw31 qw18 (gi_z qw28)) rfl rfl rfl (by decide +kernel) ⟨Nat.le_of_ble_eq_true rfl, Nat.le_of_ble_eq_true rfl⟩) ⟨PRE.blind, va_recv hKc hPc (ci := 6) (q0 := 0) rfl rfl, PRE.of hE hS hFc hPc hKc hDc⟩ rfl rfl hl.1 rfl (lv_room (Nat.le_of_ble_eq_true rfl)) dX4_fillStep_17 ⟨(show (gcX9 p2_2n p2_2n) + 0 ≤ (gcX9 p2_2n (o.2.2)) from by have q0 := gmX9 hg_p2_2 hgn_p2_2; omega), (show (3 * (gcX9 p2_2n p2_2n)) + 0 ≤ (3 * (gcX9 p2_2n (o.2.2))) from by have q0 := gmX9 hg_p2_2 hgn_p2_2; omega)⟩) hS (fun q _ h => hFc q h) hFc (fun r4 u t H locs ht hvm hw hB hz1 hk1 hS => ?_)
  obtain ⟨hP, hD, hK⟩ := JOIN (wr := ((oX6 (p1a 0) p1a p1k p1w p1l) ++ (oX1 (p2a 0) p2a p2k p2n p2w p2l) ++ (oX9 (p2a 3) p2_2a p2_2k p2_2n p2_2w))) hP hD hK [0, 1, 2, 3, 4, 5, 6, 7, 8, 9, 10, 11, 12, 13, 14, 15, 16, 17, 18] [19, 20, 21, 22, 23, 24, 25, 26, 27, 28, 29, 30, 31, 32, 33, 34, 35, 36, 37, 38, 39, 40, 41, 42, 43, 44, 45, 46, 47, 48, 49, 50, 51, 52, 53] [18, 19, 20, 21, 22, 23, 24, 25, 26, 27, 28, 29, 30, 31, 32, 33, 34, 35, 36, 37, 38, 39, 40, 41, 42, 43, 44, 45, 46, 47, 48, 49] rfl rfl (by decide +kernel) (by decide +kernel) rfl hk1 hFc ht hvm hB
  have hP : va_P (dC, dI) cls ((oX4 (p0a 0) p0a p0k p0w p0l) ++ (oX6 (p1a 0) p1a p1k p1w p1l) ++ (oX1 (p2a 0) p2a p2k p2n p2w p2l) ++ (oX9 (p2a 3) p2_2a p2_2k p2_2n p2_2w)) H := hP.sub [35, 36, 37, 38, 39, 40, 41, 42, 43, 44, 45, 46, 47, 48, 49, 50, 51, 52, 53, 0, 1, 2, 3, 4, 5, 6, 7, 8, 9, 10, 11, 12, 13, 14, 15, 16, 17, 18, 19, 20, 21, 22, 23, 24, 25, 26, 27, 28, 29, 30, 31, 32, 33, 34] rfl
  have hD : va_D A ((oX4 (p0a 0) p0a p0k p0w p0l) ++ (oX6 (p1a 0) p1a p1k p1w p1l) ++ (oX1 (p2a 0) p2a p2k p2n p2w p2l) ++ (oX9 (p2a 3) p2_2a p2_2k p2_2n p2_2w)) := hD.sub [35, 36, 37, 38, 39, 40, 41, 42, 43, 44, 45, 46, 47, 48, 49, 50, 51, 52, 53, 0, 1, 2, 3, 4, 5, 6, 7, 8, 9, 10, 11, 12, 13, 14, 15, 16, 17, 18, 19, 20, 21, 22, 23, 24, 25, 26, 27, 28, 29, 30, 31, 32, 33, 34] (by decide +kernel) rfl
  have hK : va_K (dC, dI) cls ((tX4 p0k) ++ (tX6 p1k) ++ (tX1 p2k) ++ (tX9 p2_2k)) s := hK.sub [32, 33, 34, 35, 36, 37, 38, 39, 40, 41, 42, 43, 44, 45, 46, 47, 48, 49, 0, 1, 2, 3, 4, 5, 6, 7, 8, 9, 10, 11, 12, 13, 14, 15, 16, 17, 18, 19, 20, 21, 22, 23, 24, 25, 26, 27, 28, 29, 30, 31] rfl
  obtain rfl : o_3 = r4 := hw.symm
  refine lv_istore (lv' := [(6, .int o_3), (5, .int (p1w 9 (nn p4))), (0, .ref (p0a 0)), (1, .ref (p1a 0)), (2, .ref (p2a 0)), (3, .int p3), (4, .int p4)]) hx hb dX4_fillStep_20 hl (by decide) rfl (fun ls hl => ?_)
  refine lv_iload hx hb dX4_fillStep_22 (lv_at hl 1 rfl) ?_
  refine lv_bipush (v := 24) hx hb dX4_fillStep_24 (by decide) ?_
  have J146 : ∀ (p2w_146 : ST) (p2_2w_146 : ST) (p2_2n_146 : Nat → Nat) (xp2_2_1_146 : Nat) (zp2_2_1_146 : ClassId) (xp2_2_2_146 : Nat) (zp2_2_2_146 : ClassId) (xp2_2_3_146 : Nat) (zp2_2_3_146 : ClassId) (xp2_2_4_146 : Nat) (zp2_2_4_146 : ClassId) (xp2_2_5_146 : Nat) (zp2_2_5_146 : ClassId) (H : Heap) (locs : List Loc) (ls : Array Slot), (fX4_fillStep_J146 p2w_146 p2_2w_146 p2_2n_146) = some o → va_P (dC, dI) cls ((oX4 (p0a 0) p0a p0k p0w p0l) ++ (oX6 (p1a 0) p1a p1k p1w p1l) ++ (oX1 (p2a 0) p2a p2k p2n p2w_146 p2l) ++ (oX9 (p2a 3) (st1 (st1 (st1 (st1 (st1 p2_2a 2 xp2_2_1_146) 3 xp2_2_2_146) 4 xp2_2_3_146) 5 xp2_2_4_146) 6 xp2_2_5_146) (st1 (st1 (st1 (st1 (st1 p2_2k 2 zp2_2_1_146) 3 zp2_2_2_146) 4 zp2_2_3_146) 5 zp2_2_4_146) 6 zp2_2_5_146) p2_2n_146 p2_2w_146)) H → va_D A ((oX4 (p0a 0) p0a p0k p0w p0l) ++ (oX6 (p1a 0) p1a p1k p1w p1l) ++ (oX1 (p2a 0) p2a p2k p2n p2w_146 p2l) ++ (oX9 (p2a 3) (st1 (st1 (st1 (st1 (st1 p2_2a 2 xp2_2_1_146) 3 xp2_2_2_146) 4 xp2_2_3_146) 5 xp2_2_4_146) 6 xp2_2_5_146) (st1 (st1 (st1 (st1 (st1 p2_2k 2 zp2_2_1_146) 3 zp2_2_2_146) 4 zp2_2_3_146) 5 zp2_2_4_146) 6 zp2_2_5_146) p2_2n_146 p2_2w_146)) → va_K (dC, dI) cls ((tX4 p0k) ++ (tX6 p1k) ++ (tX1 p2k) ++ (tX9 (st1 (st1 (st1 (st1 (st1 p2_2k 2 zp2_2_1_146) 3 zp2_2_2_146) 4 zp2_2_3_146) 5 zp2_2_4_146) 6 zp2_2_5_146))) s → va_S A s.heap H locs → lv_has ls 9 [] → glX9 p2_2n p2_2n_146 → W p l e ({ frames := 4, cells := (gcX9 p2_2n (o.2.2)), slots := (3 * (gcX9 p2_2n (o.2.2))), locals := 113 } : Room) s m ([.ref (p0a 0), .ref (p1a 0), .ref (p2a 0), .int p3, .int p4] : List Value).toArray below meth c H locs (gcX9 p2_2n p2_2n_146) (3 * (gcX9 p2_2n p2_2n_146)) Q (F0 m 146 ls []) := by
    intro p2w_146 p2_2w_146 p2_2n_146 xp2_2_1_146 zp2_2_1_146 xp2_2_2_146 zp2_2_2_146 xp2_2_3_146 zp2_2_3_146 xp2_2_4_146 zp2_2_4_146 xp2_2_5_146 zp2_2_5_146 H locs ls hrun hP hD hK hS hl hg_p2_2 
    have hgn_p2_2 : glX9 p2_2n_146 (o.2.2) := (mo_fX4_fillStep_J146 hrun)
    unfold fX4_fillStep_J146 at hrun
    have ho9 : (p2w_146, p2_2w_146, p2_2n_146) = o := Option.some.inj hrun
    subst ho9
    subst hQ
    exact W.vret hx hb hr (fun t ht hW => ⟨⟨(), rfl, trivial, ⟨xp2_2_1_146, zp2_2_1_146, xp2_2_2_146, zp2_2_2_146, xp2_2_3_146, zp2_2_3_146, xp2_2_4_146, zp2_2_4_146, xp2_2_5_146, zp2_2_5_146, by rw [ht]; exact hP, va_K.moved hW.alike hK, hD⟩⟩, hS.F ht⟩) hS.2.2 dX4_fillStep_146
  have J43 : ∀ (H : Heap) (locs : List Loc) (ls : Array Slot), (fX4_fillStep_J43 p2w p3 p2_2n p2_2w o_3) = some o → va_P (dC, dI) cls ((oX4 (p0a 0) p0a p0k p0w p0l) ++ (oX6 (p1a 0) p1a p1k p1w p1l) ++ (oX1 (p2a 0) p2a p2k p2n p2w p2l) ++ (oX9 (p2a 3) p2_2a p2_2k p2_2n p2_2w)) H → va_D A ((oX4 (p0a 0) p0a p0k p0w p0l) ++ (oX6 (p1a 0) p1a p1k p1w p1l) ++ (oX1 (p2a 0) p2a p2k p2n p2w p2l) ++ (oX9 (p2a 3) p2_2a p2_2k p2_2n p2_2w)) → va_K (dC, dI) cls ((tX4 p0k) ++ (tX6 p1k) ++ (tX1 p2k) ++ (tX9 p2_2k)) s → va_S A s.heap H locs → lv_has ls 9 [(2, .ref (p2a 0)), (3, .int p3), (6, .int o_3)] → glX9 p2_2n p2_2n → W p l e ({ frames := 4, cells := (gcX9 p2_2n (o.2.2)), slots := (3 * (gcX9 p2_2n (o.2.2))), locals := 113 } : Room) s m ([.ref (p0a 0), .ref (p1a 0), .ref (p2a 0), .int p3, .int p4] : List Value).toArray below meth c H locs (gcX9 p2_2n p2_2n) (3 * (gcX9 p2_2n p2_2n)) Q (F0 m 43 ls []) := by
    intro  H locs ls hrun hP hD hK hS hl hg_p2_2 
    have hgn_p2_2 : glX9 p2_2n (o.2.2) := (mo_fX4_fillStep_J43 hrun)
    unfold fX4_fillStep_J43 at hrun
    refine lv_aload_n hx hb dX4_fillStep_43 rfl (lv_at hl 0 rfl) ?_
    refine va_get (D := (dC, dI)) (ci := 4) (v := .ref (p2a 9)) (C := RX1) (T := TX1) (N := 21) hx hb hts i_X1 hown hK hP 30 rfl rfl 8 (by decide) (hts _ qw32) (fun _ h9 => h9) rfl dX4_fillStep_44 ?_
    refine lv_iload_n hx hb dX4_fillStep_47 rfl (lv_at hl 1 rfl) ?_
    refine lv_iload hx hb dX4_fillStep_48 (lv_at hl 2 rfl) ?_
    obtain ⟨hq5, hrun⟩ := chk9 hrun
    refine va_iast hx hb hK hP hD hS 36 33 rfl rfl (ixb_in hq5) dX4_fillStep_50 (fun H locs hP hD hS => ?_)
    have hP : va_P (dC, dI) cls ((oX4 (p0a 0) p0a p0k p0w p0l) ++ (oX6 (p1a 0) p1a p1k p1w p1l) ++ (oX1 (p2a 0) p2a p2k p2n (upw p2w 9 (nn p3) o_3) p2l) ++ (oX9 (p2a 3) p2_2a p2_2k p2_2n p2_2w)) H := hP
    have hD : va_D A ((oX4 (p0a 0) p0a p0k p0w p0l) ++ (oX6 (p1a 0) p1a p1k p1w p1l) ++ (oX1 (p2a 0) p2a p2k p2n (upw p2w 9 (nn p3) o_3) p2l) ++ (oX9 (p2a 3) p2_2a p2_2k p2_2n p2_2w)) := hD
    obtain ⟨w6, ew6, hrun⟩ := let9 hrun
    rw [← ew6] at hP hD
    refine lv_goto (tgt := 146) hx hb dX4_fillStep_51 (by decide) ?_
    exact J146 w6 p2_2w p2_2n (p2_2a 2) (p2_2k 2) (p2_2a 3) (p2_2k 3) (p2_2a 4) (p2_2k 4) (p2_2a 5) (p2_2k 5) (p2_2a 6) (p2_2k 6) _ _ _ hrun hP hD hK hS (lv_sub hl [] rfl) hg_p2_2
  rcases br9 hrun with ⟨hc7, hrun⟩ | ⟨hc7, hrun⟩
  · refine lv_icmp_eq (tgt := 43) hx hb dX4_fillStep_26 (by decide) (fun _ => ?_) (fun c => absurd hc7 c)
    exact J43 _ _ _ hrun hP hD hK hS (lv_sub hl [4, 5, 0] rfl) hg_p2_2
  · refine lv_icmp_eq (tgt := 43) hx hb dX4_fillStep_26 (by decide) (fun c => absurd c hc7) (fun _ => ?_)
    refine lv_iload hx hb dX4_fillStep_29 (lv_at hl 1 rfl) ?_
    refine lv_bipush (v := 33) hx hb dX4_fillStep_31 (by decide) ?_
    rcases br9 hrun with ⟨hc8, hrun⟩ | ⟨hc8, hrun⟩
    · refine lv_icmp_eq (tgt := 43) hx hb dX4_fillStep_33 (by decide) (fun _ => ?_) (fun c => absurd hc8 c)
      exact J43 _ _ _ hrun hP hD hK hS (lv_sub hl [4, 5, 0] rfl) hg_p2_2
    · refine lv_icmp_eq (tgt := 43) hx hb dX4_fillStep_33 (by decide) (fun c => absurd c hc8) (fun _ => ?_)
      refine lv_iload hx hb dX4_fillStep_36 (lv_at hl 1 rfl) ?_
      refine lv_bipush (v := 34) hx hb dX4_fillStep_38 (by decide) ?_
      rcases br9 hrun with ⟨hc9, hrun⟩ | ⟨hc9, hrun⟩
      · refine lv_icmp_ne (tgt := 54) hx hb dX4_fillStep_40 (by decide) (fun c => absurd hc9 c) (fun _ => ?_)
        exact J43 _ _ _ hrun hP hD hK hS (lv_sub hl [4, 5, 0] rfl) hg_p2_2
      · refine lv_icmp_ne (tgt := 54) hx hb dX4_fillStep_40 (by decide) (fun _ => ?_) (fun c => absurd c hc9)
        refine lv_iload hx hb dX4_fillStep_54 (lv_at hl 1 rfl) ?_
        refine lv_bipush (v := 21) hx hb dX4_fillStep_56 (by decide) ?_
        rcases br9 hrun with ⟨hc10, hrun⟩ | ⟨hc10, hrun⟩
        · refine lv_icmp_gt (tgt := 146) hx hb dX4_fillStep_58 (by decide) (fun _ => ?_) (fun c => absurd hc10 c)
          exact J146 p2w p2_2w p2_2n (p2_2a 2) (p2_2k 2) (p2_2a 3) (p2_2k 3) (p2_2a 4) (p2_2k 4) (p2_2a 5) (p2_2k 5) (p2_2a 6) (p2_2k 6) _ _ _ hrun hP hD hK hS (lv_sub hl [] rfl) hg_p2_2
        · refine lv_icmp_gt (tgt := 146) hx hb dX4_fillStep_58 (by decide) (fun c => absurd c hc10) (fun _ => ?_)
          refine lv_iload hx hb dX4_fillStep_61 (lv_at hl 1 rfl) ?_
          have J85 : ∀ (y0_85 : Int32) (H : Heap) (locs : List Loc) (ls : Array Slot), (fX4_fillStep_J85 p0w p1w p2w p3 p4 p2_2n p2_2w o_3 y0_85) = some o → va_P (dC, dI) cls ((oX4 (p0a 0) p0a p0k p0w p0l) ++ (oX6 (p1a 0) p1a p1k p1w p1l) ++ (oX1 (p2a 0) p2a p2k p2n p2w p2l) ++ (oX9 (p2a 3) p2_2a p2_2k p2_2n p2_2w)) H → va_D A ((oX4 (p0a 0) p0a p0k p0w p0l) ++ (oX6 (p1a 0) p1a p1k p1w p1l) ++ (oX1 (p2a 0) p2a p2k p2n p2w p2l) ++ (oX9 (p2a 3) p2_2a p2_2k p2_2n p2_2w)) → va_K (dC, dI) cls ((tX4 p0k) ++ (tX6 p1k) ++ (tX1 p2k) ++ (tX9 p2_2k)) s → va_S A s.heap H locs → lv_has ls 9 [(0, .ref (p0a 0)), (1, .ref (p1a 0)), (2, .ref (p2a 0)), (3, .int p3), (4, .int p4), (5, .int (p1w 9 (nn p4))), (6, .int o_3)] → glX9 p2_2n p2_2n → W p l e ({ frames := 4, cells := (gcX9 p2_2n (o.2.2)), slots := (3 * (gcX9 p2_2n (o.2.2))), locals := 113 } : Room) s m ([.ref (p0a 0), .ref (p1a 0), .ref (p2a 0), .int p3, .int p4] : List Value).toArray below meth c H locs (gcX9 p2_2n p2_2n) (3 * (gcX9 p2_2n p2_2n)) Q (F0 m 85 ls [.int y0_85]) := by
            intro y0_85 H locs ls hrun hP hD hK hS hl hg_p2_2 
            have hgn_p2_2 : glX9 p2_2n (o.2.2) := (mo_fX4_fillStep_J85 hrun)
            unfold fX4_fillStep_J85 at hrun
            refine lv_istore (lv' := [(7, .int y0_85), (0, .ref (p0a 0)), (1, .ref (p1a 0)), (2, .ref (p2a 0)), (3, .int p3), (4, .int p4), (5, .int (p1w 9 (nn p4))), (6, .int o_3)]) hx hb dX4_fillStep_85 hl (by decide) rfl (fun ls hl => ?_)
            refine lv_iload hx hb dX4_fillStep_87 (lv_at hl 6 rfl) ?_
            obtain ⟨o_11, hc_11, hrun⟩ := bnd9 hrun
            have hPc := hP.sub (ws' := ([] : va_W)) [] rfl
            have hDc := hD.sub (ws' := ([] : va_W)) [] (by decide +kernel) rfl
            have hKc := hK.sub (tys' := ([] : List (ClassId × FieldType))) [] rfl
            have hFc := va_free (wc := ([] : va_W)) hD hS hA [] rfl
            refine va_calli (va_runSN (As := [.int (p1w 9 (nn p4))]) (rest := []) ⟨hx, hb, hml, hown, hts⟩ (kX11_givesValue l dC dI (p0 := (p1w 9 (nn p4))) (sz := _) (o := o_11) (hrun := hc_11)) ⟨(va_cnB 1 hts (gi_z qw33) rfl rfl rfl (hE.nw (List.mem_append_right _ (tbl_6 (i := 120) rfl)) rfl) (hts _ qw34) (by decide +kernel) ⟨Nat.le_of_ble_eq_true rfl, Nat.le_of_ble_eq_true rfl⟩), (hts _ qw35), trivial⟩ ⟨PRE.blind, PRE.of hE hS hFc hPc hKc hDc⟩ rfl rfl hl.1 rfl (lv_room (Nat.le_of_ble_eq_true rfl)) dX4_fillStep_89 ⟨(show (gcX9 p2_2n p2_2n) + 0 ≤ (gcX9 p2_2n (o.2.2)) from by have q0 := gmX9 hg_p2_2 hgn_p2_2; omega), (show (3 * (gcX9 p2_2n p2_2n)) + 0 ≤ (3 * (gcX9 p2_2n (o.2.2))) from by have q0 := gmX9 hg_p2_2 hgn_p2_2; omega)⟩) hS (fun q _ h => hFc q h) hFc (fun r12 u t H locs ht hvm hw hB hz1 hk1 hS => ?_)
            obtain ⟨hP, hD, hK⟩ := JOIN (wr := ((oX4 (p0a 0) p0a p0k p0w p0l) ++ (oX6 (p1a 0) p1a p1k p1w p1l) ++ (oX1 (p2a 0) p2a p2k p2n p2w p2l) ++ (oX9 (p2a 3) p2_2a p2_2k p2_2n p2_2w))) hP hD hK [] [0, 1, 2, 3, 4, 5, 6, 7, 8, 9, 10, 11, 12, 13, 14, 15, 16, 17, 18, 19, 20, 21, 22, 23, 24, 25, 26, 27, 28, 29, 30, 31, 32, 33, 34, 35, 36, 37, 38, 39, 40, 41, 42, 43, 44, 45, 46, 47, 48, 49, 50, 51, 52, 53] [0, 1, 2, 3, 4, 5, 6, 7, 8, 9, 10, 11, 12, 13, 14, 15, 16, 17, 18, 19, 20, 21, 22, 23, 24, 25, 26, 27, 28, 29, 30, 31, 32, 33, 34, 35, 36, 37, 38, 39, 40, 41, 42, 43, 44, 45, 46, 47, 48, 49] rfl rfl (by decide +kernel) (by decide +kernel) rfl hk1 hFc ht hvm hB
            have hP : va_P (dC, dI) cls ((oX4 (p0a 0) p0a p0k p0w p0l) ++ (oX6 (p1a 0) p1a p1k p1w p1l) ++ (oX1 (p2a 0) p2a p2k p2n p2w p2l) ++ (oX9 (p2a 3) p2_2a p2_2k p2_2n p2_2w)) H := hP.sub [0, 1, 2, 3, 4, 5, 6, 7, 8, 9, 10, 11, 12, 13, 14, 15, 16, 17, 18, 19, 20, 21, 22, 23, 24, 25, 26, 27, 28, 29, 30, 31, 32, 33, 34, 35, 36, 37, 38, 39, 40, 41, 42, 43, 44, 45, 46, 47, 48, 49, 50, 51, 52, 53] rfl
            have hD : va_D A ((oX4 (p0a 0) p0a p0k p0w p0l) ++ (oX6 (p1a 0) p1a p1k p1w p1l) ++ (oX1 (p2a 0) p2a p2k p2n p2w p2l) ++ (oX9 (p2a 3) p2_2a p2_2k p2_2n p2_2w)) := hD.sub [0, 1, 2, 3, 4, 5, 6, 7, 8, 9, 10, 11, 12, 13, 14, 15, 16, 17, 18, 19, 20, 21, 22, 23, 24, 25, 26, 27, 28, 29, 30, 31, 32, 33, 34, 35, 36, 37, 38, 39, 40, 41, 42, 43, 44, 45, 46, 47, 48, 49, 50, 51, 52, 53] (by decide +kernel) rfl
            have hK : va_K (dC, dI) cls ((tX4 p0k) ++ (tX6 p1k) ++ (tX1 p2k) ++ (tX9 p2_2k)) s := hK.sub [0, 1, 2, 3, 4, 5, 6, 7, 8, 9, 10, 11, 12, 13, 14, 15, 16, 17, 18, 19, 20, 21, 22, 23, 24, 25, 26, 27, 28, 29, 30, 31, 32, 33, 34, 35, 36, 37, 38, 39, 40, 41, 42, 43, 44, 45, 46, 47, 48, 49] rfl
            obtain rfl : o_11 = r12 := hw.symm
            have J106 : ∀ (y0_106 : Int32) (H : Heap) (locs : List Loc) (ls : Array Slot), (fX4_fillStep_J106 p0w p1w p2w p3 p4 p2_2n p2_2w o_3 y0_85 y0_106) = some o → va_P (dC, dI) cls ((oX4 (p0a 0) p0a p0k p0w p0l) ++ (oX6 (p1a 0) p1a p1k p1w p1l) ++ (oX1 (p2a 0) p2a p2k p2n p2w p2l) ++ (oX9 (p2a 3) p2_2a p2_2k p2_2n p2_2w)) H → va_D A ((oX4 (p0a 0) p0a p0k p0w p0l) ++ (oX6 (p1a 0) p1a p1k p1w p1l) ++ (oX1 (p2a 0) p2a p2k p2n p2w p2l) ++ (oX9 (p2a 3) p2_2a p2_2k p2_2n p2_2w)) → va_K (dC, dI) cls ((tX4 p0k) ++ (tX6 p1k) ++ (tX1 p2k) ++ (tX9 p2_2k)) s → va_S A s.heap H locs → lv_has ls 9 [(0, .ref (p0a 0)), (1, .ref (p1a 0)), (2, .ref (p2a 0)), (3, .int p3), (4, .int p4), (5, .int (p1w 9 (nn p4))), (6, .int o_3), (7, .int y0_85)] → glX9 p2_2n p2_2n → W p l e ({ frames := 4, cells := (gcX9 p2_2n (o.2.2)), slots := (3 * (gcX9 p2_2n (o.2.2))), locals := 113 } : Room) s m ([.ref (p0a 0), .ref (p1a 0), .ref (p2a 0), .int p3, .int p4] : List Value).toArray below meth c H locs (gcX9 p2_2n p2_2n) (3 * (gcX9 p2_2n p2_2n)) Q (F0 m 106 ls [.int y0_106]) := by
              intro y0_106 H locs ls hrun hP hD hK hS hl hg_p2_2 
              have hgn_p2_2 : glX9 p2_2n (o.2.2) := (mo_fX4_fillStep_J106 hrun)
              unfold fX4_fillStep_J106 at hrun
              refine lv_istore (lv' := [(8, .int y0_106), (0, .ref (p0a 0)), (1, .ref (p1a 0)), (2, .ref (p2a 0)), (3, .int p3), (4, .int p4), (5, .int (p1w 9 (nn p4))), (6, .int o_3), (7, .int y0_85)]) hx hb dX4_fillStep_106 hl (by decide) rfl (fun ls hl => ?_)
              refine lv_aload_n hx hb dX4_fillStep_108 rfl (lv_at hl 3 rfl) ?_
              refine lv_iload_n hx hb dX4_fillStep_109 rfl (lv_at hl 4 rfl) ?_
              refine lv_iload hx hb dX4_fillStep_110 (lv_at hl 6 rfl) ?_
              refine lv_iload hx hb dX4_fillStep_112 (lv_at hl 0 rfl) ?_
              refine lv_iload hx hb dX4_fillStep_114 (lv_at hl 8 rfl) ?_
              have J131 : ∀ (y0_131 : Int32) (y1_131 : Int32) (H : Heap) (locs : List Loc) (ls : Array Slot), (fX4_fillStep_J131 p0w p1w p2w p3 p4 p2_2n p2_2w y0_131 y1_131) = some o → va_P (dC, dI) cls ((oX4 (p0a 0) p0a p0k p0w p0l) ++ (oX6 (p1a 0) p1a p1k p1w p1l) ++ (oX1 (p2a 0) p2a p2k p2n p2w p2l) ++ (oX9 (p2a 3) p2_2a p2_2k p2_2n p2_2w)) H → va_D A ((oX4 (p0a 0) p0a p0k p0w p0l) ++ (oX6 (p1a 0) p1a p1k p1w p1l) ++ (oX1 (p2a 0) p2a p2k p2n p2w p2l) ++ (oX9 (p2a 3) p2_2a p2_2k p2_2n p2_2w)) → va_K (dC, dI) cls ((tX4 p0k) ++ (tX6 p1k) ++ (tX1 p2k) ++ (tX9 p2_2k)) s → va_S A s.heap H locs → lv_has ls 9 [(0, .ref (p0a 0)), (4, .int p4)] → glX9 p2_2n p2_2n → W p l e ({ frames := 4, cells := (gcX9 p2_2n (o.2.2)), slots := (3 * (gcX9 p2_2n (o.2.2))), locals := 113 } : Room) s m ([.ref (p0a 0), .ref (p1a 0), .ref (p2a 0), .int p3, .int p4] : List Value).toArray below meth c H locs (gcX9 p2_2n p2_2n) (3 * (gcX9 p2_2n p2_2n)) Q (F0 m 131 ls [.int y0_131, .int y1_131, .int (p1w 9 (nn p4)), .int p3, .ref (p2a 0)]) := by
                intro y0_131 y1_131 H locs ls hrun hP hD hK hS hl hg_p2_2 
                have hgn_p2_2 : glX9 p2_2n (o.2.2) := (mo_fX4_fillStep_J131 hrun)
                unfold fX4_fillStep_J131 at hrun
                refine lv_aload_n hx hb dX4_fillStep_131 rfl (lv_at hl 0 rfl) ?_
                refine lv_aload_n hx hb dX4_fillStep_132 rfl (lv_at hl 0 rfl) ?_
                refine va_get (D := (dC, dI)) (ci := 6) (v := .ref (p0a 3)) (C := RX4) (T := TX4) (N := 20) hx hb hts i_X4 hown hK hP 0 rfl rfl 2 (by decide) (hts _ qw36) (fun _ h9 => h9) rfl dX4_fillStep_133 ?_
                refine lv_iload hx hb dX4_fillStep_136 (lv_at hl 1 rfl) ?_
                obtain ⟨hq13, hrun⟩ := chk9 hrun
                refine va_iald hx hb hK hP 2 1 rfl rfl (ixb_in hq13) dX4_fillStep_138 ?_
                obtain ⟨o_14, hc_14, hrun⟩ := bnd9 hrun
                have hPc := hP.sub (ws' := (oX4 (p0a 0) p0a p0k p0w p0l)) [0, 1, 2, 3, 4, 5, 6, 7, 8, 9, 10, 11, 12, 13, 14, 15, 16, 17, 18] rfl
                have hDc := hD.sub (ws' := (oX4 (p0a 0) p0a p0k p0w p0l)) [0, 1, 2, 3, 4, 5, 6, 7, 8, 9, 10, 11, 12, 13, 14, 15, 16, 17, 18] (by decide +kernel) rfl
                have hKc := hK.sub (tys' := (tX4 p0k)) [0, 1, 2, 3, 4, 5, 6, 7, 8, 9, 10, 11, 12, 13, 14, 15, 16, 17] rfl
                have hFc := va_free (wc := (oX4 (p0a 0) p0a p0k p0w p0l)) hD hS hA [0, 1, 2, 3, 4, 5, 6, 7, 8, 9, 10, 11, 12, 13, 14, 15, 16, 17, 18] rfl
                refine va_calli (va_runV (As := [.int (p0w 3 (nn p4))]) (rest := [.int y0_131, .int y1_131, .int (p1w 9 (nn p4)), .int p3, .ref (p2a 0)]) ⟨hx, hb, hml, hown, hts⟩ (kX4_valueAt l dC dI (p0a := (st0 (p0a 0) p0a)) (p0k := p0k) (p0w := p0w) (p0l := p0l) (p1 := (p0w 3 (nn p4))) (sz := _) (o := o_14) (hrun := hc_14)) (cwV 1 hts (gi_V qw29 qw30 qw31 qw18 (gi_z qw28)) rfl rfl rfl (by decide +kernel) ⟨Nat.le_of_ble_eq_true rfl, Nat.le_of_ble_eq_true rfl⟩) ⟨PRE.blind, va_recv hKc hPc (ci := 6) (q0 := 0) rfl rfl, PRE.of hE hS hFc hPc hKc hDc⟩ rfl rfl hl.1 rfl (lv_room (Nat.le_of_ble_eq_true rfl)) dX4_fillStep_139 ⟨(show (gcX9 p2_2n p2_2n) + 0 ≤ (gcX9 p2_2n (o.2.2)) from by have q0 := gmX9 hg_p2_2 hgn_p2_2; omega), (show (3 * (gcX9 p2_2n p2_2n)) + 0 ≤ (3 * (gcX9 p2_2n (o.2.2))) from by have q0 := gmX9 hg_p2_2 hgn_p2_2; omega)⟩) hS (fun q _ h => hFc q h) hFc (fun r15 u t H locs ht hvm hw hB hz1 hk1 hS => ?_)
                obtain ⟨hP, hD, hK⟩ := JOIN (wr := ((oX6 (p1a 0) p1a p1k p1w p1l) ++ (oX1 (p2a 0) p2a p2k p2n p2w p2l) ++ (oX9 (p2a 3) p2_2a p2_2k p2_2n p2_2w))) hP hD hK [0, 1, 2, 3, 4, 5, 6, 7, 8, 9, 10, 11, 12, 13, 14, 15, 16, 17, 18] [19, 20, 21, 22, 23, 24, 25, 26, 27, 28, 29, 30, 31, 32, 33, 34, 35, 36, 37, 38, 39, 40, 41, 42, 43, 44, 45, 46, 47, 48, 49, 50, 51, 52, 53] [18, 19, 20, 21, 22, 23, 24, 25, 26, 27, 28, 29, 30, 31, 32, 33, 34, 35, 36, 37, 38, 39, 40, 41, 42, 43, 44, 45, 46, 47, 48, 49] rfl rfl (by decide +kernel) (by decide +kernel) rfl hk1 hFc ht hvm hB
                have hP : va_P (dC, dI) cls ((oX4 (p0a 0) p0a p0k p0w p0l) ++ (oX6 (p1a 0) p1a p1k p1w p1l) ++ (oX1 (p2a 0) p2a p2k p2n p2w p2l) ++ (oX9 (p2a 3) p2_2a p2_2k p2_2n p2_2w)) H := hP.sub [35, 36, 37, 38, 39, 40, 41, 42, 43, 44, 45, 46, 47, 48, 49, 50, 51, 52, 53, 0, 1, 2, 3, 4, 5, 6, 7, 8, 9, 10, 11, 12, 13, 14, 15, 16, 17, 18, 19, 20, 21, 22, 23, 24, 25, 26, 27, 28, 29, 30, 31, 32, 33, 34] rfl
                have hD : va_D A ((oX4 (p0a 0) p0a p0k p0w p0l) ++ (oX6 (p1a 0) p1a p1k p1w p1l) ++ (oX1 (p2a 0) p2a p2k p2n p2w p2l) ++ (oX9 (p2a 3) p2_2a p2_2k p2_2n p2_2w)) := hD.sub [35, 36, 37, 38, 39, 40, 41, 42, 43, 44, 45, 46, 47, 48, 49, 50, 51, 52, 53, 0, 1, 2, 3, 4, 5, 6, 7, 8, 9, 10, 11, 12, 13, 14, 15, 16, 17, 18, 19, 20, 21, 22, 23, 24, 25, 26, 27, 28, 29, 30, 31, 32, 33, 34] (by decide +kernel) rfl
                have hK : va_K (dC, dI) cls ((tX4 p0k) ++ (tX6 p1k) ++ (tX1 p2k) ++ (tX9 p2_2k)) s := hK.sub [32, 33, 34, 35, 36, 37, 38, 39, 40, 41, 42, 43, 44, 45, 46, 47, 48, 49, 0, 1, 2, 3, 4, 5, 6, 7, 8, 9, 10, 11, 12, 13, 14, 15, 16, 17, 18, 19, 20, 21, 22, 23, 24, 25, 26, 27, 28, 29, 30, 31] rfl
                obtain rfl : o_14 = r15 := hw.symm
                obtain ⟨o_16, hc_16, hrun⟩ := bnd9 hrun
                have hPc := hP.sub (ws' := ((oX1 (p2a 0) p2a p2k p2n p2w p2l) ++ (oX9 (p2a 3) p2_2a p2_2k p2_2n p2_2w))) [30, 31, 32, 33, 34, 35, 36, 37, 38, 39, 40, 41, 42, 43, 44, 45, 46, 47, 48, 49, 50, 51, 52, 53] rfl
                have hDc := hD.sub (ws' := ((oX1 (p2a 0) p2a p2k p2n p2w p2l) ++ (oX9 (p2a 3) p2_2a p2_2k p2_2n p2_2w))) [30, 31, 32, 33, 34, 35, 36, 37, 38, 39, 40, 41, 42, 43, 44, 45, 46, 47, 48, 49, 50, 51, 52, 53] (by decide +kernel) rfl
                have hKc := hK.sub (tys' := ((tX1 p2k) ++ (tX9 p2_2k))) [28, 29, 30, 31, 32, 33, 34, 35, 36, 37, 38, 39, 40, 41, 42, 43, 44, 45, 46, 47, 48, 49] rfl
                have hFc := va_free (wc := ((oX1 (p2a 0) p2a p2k p2n p2w p2l) ++ (oX9 (p2a 3) p2_2a p2_2k p2_2n p2_2w))) hD hS hA [30, 31, 32, 33, 34, 35, 36, 37, 38, 39, 40, 41, 42, 43, 44, 45, 46, 47, 48, 49, 50, 51, 52, 53] rfl
                have hgn_p2_2 : glX9 (o_16.2.2.2) (o.2.2) := (mo_fX4_fillStep_G145_28 hrun)
                refine va_calli (va_runV (As := [.int p3, .int (p1w 9 (nn p4)), .int y1_131, .int y0_131, .int o_14]) (rest := []) ⟨hx, hb, hml, hown, hts⟩ (kX1_addStep l dC dI (p0a := (st0 (p2a 0) p2a)) (p0k := p2k) (p0n := p2n) (p0w := p2w) (p0l := p2l) (p1 := p3) (p2 := (p1w 9 (nn p4))) (p3 := y1_131) (p4 := y0_131) (p5 := o_14) (p0_2a := p2_2a) (p0_2k := p2_2k) (p0_2n := p2_2n) (p0_2w := p2_2w) (sz := _) (o := o_16) (hrun := hc_16)) (cwV 5 hts (gi_V qw70 qw71 qw72 qw68 (gi_z qw69)) rfl rfl rfl (by decide +kernel) ⟨Nat.le_of_ble_eq_true rfl, Nat.le_of_ble_eq_true rfl⟩) ⟨PRE.blind, va_recv hKc hPc (ci := 4) (q0 := 0) rfl rfl, PRE.of hE hS hFc hPc hKc hDc⟩ rfl rfl hl.1 rfl (lv_room (Nat.le_of_ble_eq_true rfl)) dX4_fillStep_142 ⟨(show (gcX9 p2_2n p2_2n) + (gcX9 p2_2n (o_16.2.2.2)) ≤ (gcX9 p2_2n (o.2.2)) from by have q0 := gsX9 hg_p2_2 (mo_fX1_addStep hc_16) hgn_p2_2; omega), (show (3 * (gcX9 p2_2n p2_2n)) + (3 * ((gcX9 p2_2n (o_16.2.2.2)))) ≤ (3 * (gcX9 p2_2n (o.2.2))) from by have q0 := gsX9 hg_p2_2 (mo_fX1_addStep hc_16) hgn_p2_2; omega)⟩) hS (fun q _ h => hFc q h) hFc (fun r17 u t H locs ht hvm hw hB hz1 hk1 hS => ?_)
                obtain ⟨x18, z19, x20, z21, x22, z23, x24, z25, x26, z27, hB⟩ := hB
                obtain ⟨hP, hD, hK⟩ := JOIN (wr := ((oX4 (p0a 0) p0a p0k p0w p0l) ++ (oX6 (p1a 0) p1a p1k p1w p1l))) hP hD hK [30, 31, 32, 33, 34, 35, 36, 37, 38, 39, 40, 41, 42, 43, 44, 45, 46, 47, 48, 49, 50, 51, 52, 53] [0, 1, 2, 3, 4, 5, 6, 7, 8, 9, 10, 11, 12, 13, 14, 15, 16, 17, 18, 19, 20, 21, 22, 23, 24, 25, 26, 27, 28, 29] [0, 1, 2, 3, 4, 5, 6, 7, 8, 9, 10, 11, 12, 13, 14, 15, 16, 17, 18, 19, 20, 21, 22, 23, 24, 25, 26, 27] rfl rfl (by decide +kernel) (by decide +kernel) rfl hk1 hFc ht hvm hB
                have hP : va_P (dC, dI) cls ((oX4 (p0a 0) p0a p0k p0w p0l) ++ (oX6 (p1a 0) p1a p1k p1w p1l) ++ (oX1 (p2a 0) p2a p2k p2n (o_16.2.1) p2l) ++ (oX9 (p2a 3) (st1 (st1 (st1 (st1 (st1 p2_2a 2 x18) 3 x20) 4 x22) 5 x24) 6 x26) (st1 (st1 (st1 (st1 (st1 p2_2k 2 z19) 3 z21) 4 z23) 5 z25) 6 z27) (o_16.2.2.2) (o_16.2.2.1))) H := hP.sub [0, 1, 2, 3, 4, 5, 6, 7, 8, 9, 10, 11, 12, 13, 14, 15, 16, 17, 18, 19, 20, 21, 22, 23, 24, 25, 26, 27, 28, 29, 30, 31, 32, 33, 34, 35, 36, 37, 38, 39, 40, 41, 42, 43, 44, 45, 46, 47, 48, 49, 50, 51, 52, 53] rfl
                have hD : va_D A ((oX4 (p0a 0) p0a p0k p0w p0l) ++ (oX6 (p1a 0) p1a p1k p1w p1l) ++ (oX1 (p2a 0) p2a p2k p2n (o_16.2.1) p2l) ++ (oX9 (p2a 3) (st1 (st1 (st1 (st1 (st1 p2_2a 2 x18) 3 x20) 4 x22) 5 x24) 6 x26) (st1 (st1 (st1 (st1 (st1 p2_2k 2 z19) 3 z21) 4 z23) 5 z25) 6 z27) (o_16.2.2.2) (o_16.2.2.1))) := hD.sub [0, 1, 2, 3, 4, 5, 6, 7, 8, 9, 10, 11, 12, 13, 14, 15, 16, 17, 18, 19, 20, 21, 22, 23, 24, 25, 26, 27, 28, 29, 30, 31, 32, 33, 34, 35, 36, 37, 38, 39, 40, 41, 42, 43, 44, 45, 46, 47, 48, 49, 50, 51, 52, 53] (by decide +kernel) rfl
                have hK : va_K (dC, dI) cls ((tX4 p0k) ++ (tX6 p1k) ++ (tX1 p2k) ++ (tX9 (st1 (st1 (st1 (st1 (st1 p2_2k 2 z19) 3 z21) 4 z23) 5 z25) 6 z27))) s := hK.sub [0, 1, 2, 3, 4, 5, 6, 7, 8, 9, 10, 11, 12, 13, 14, 15, 16, 17, 18, 19, 20, 21, 22, 23, 24, 25, 26, 27, 28, 29, 30, 31, 32, 33, 34, 35, 36, 37, 38, 39, 40, 41, 42, 43, 44, 45, 46, 47, 48, 49] rfl
                obtain rfl : r17 = (o_16.1) := hw
                refine W.widen (k := (gcX9 p2_2n (o_16.2.2.2))) (n := (3 * (gcX9 p2_2n (o_16.2.2.2)))) (by have a0 := gcX9_add hg_p2_2 (mo_fX1_addStep hc_16); omega) (by have a0 := gcX9_add hg_p2_2 (mo_fX1_addStep hc_16); omega) ?_
                have hg_p2_2 : glX9 p2_2n (o_16.2.2.2) := glX9_tr hg_p2_2 (mo_fX1_addStep hc_16)
                unfold fX4_fillStep_G145_28 at hrun
                refine lv_pop hx hb dX4_fillStep_145 rfl ?_
                exact J146 (o_16.2.1) (o_16.2.2.1) (o_16.2.2.2) x18 z19 x20 z21 x22 z23 x24 z25 x26 z27 _ _ _ hrun hP hD hK hS (lv_sub hl [] rfl) hg_p2_2
              rcases br9 hrun with ⟨hc29, hrun⟩ | ⟨hc29, hrun⟩
              · refine lv_if_eq (tgt := 129) hx hb dX4_fillStep_116 (by decide) (fun _ => ?_) (fun c => absurd hc29 c)
                refine lv_iload hx hb dX4_fillStep_129 (lv_at hl 7 rfl) ?_
                exact J131 o_3 y0_106 _ _ _ hrun hP hD hK hS (lv_sub hl [1, 5] rfl) hg_p2_2
              · refine lv_if_eq (tgt := 129) hx hb dX4_fillStep_116 (by decide) (fun c => absurd c hc29) (fun _ => ?_)
                refine lv_aload_n hx hb dX4_fillStep_119 rfl (lv_at hl 2 rfl) ?_
                refine va_get (D := (dC, dI)) (ci := 2) (v := .ref (p1a 10)) (C := RX6) (T := TX6) (N := 13) hx hb hts i_X6 hown hK hP 19 rfl rfl 9 (by decide) (hts _ qw24) (fun _ h9 => h9) rfl dX4_fillStep_120 ?_
                refine lv_iload hx hb dX4_fillStep_123 (lv_at hl 5 rfl) ?_
                obtain ⟨hq30, hrun⟩ := chk9 hrun
                refine va_iald hx hb hK hP 27 25 rfl rfl (ixb_in hq30) dX4_fillStep_125 ?_
                refine lv_goto (tgt := 131) hx hb dX4_fillStep_126 (by decide) ?_
                exact J131 (p1w 10 (nn p4)) y0_106 _ _ _ hrun hP hD hK hS (lv_sub hl [1, 5] rfl) hg_p2_2
            rcases br9 hrun with ⟨hc31, hrun⟩ | ⟨hc31, hrun⟩
            · refine lv_if_eq (tgt := 105) hx hb dX4_fillStep_92 (by decide) (fun _ => ?_) (fun c => absurd hc31 c)
              refine lv_iconst (v := (-1)) hx hb dX4_fillStep_105 (by decide) ?_
              exact J106 (-1) _ _ _ hrun hP hD hK hS (lv_sub hl [1, 2, 3, 4, 5, 6, 7, 0] rfl) hg_p2_2
            · refine lv_if_eq (tgt := 105) hx hb dX4_fillStep_92 (by decide) (fun c => absurd c hc31) (fun _ => ?_)
              refine lv_aload_n hx hb dX4_fillStep_95 rfl (lv_at hl 1 rfl) ?_
              refine va_get (D := (dC, dI)) (ci := 6) (v := .ref (p0a 4)) (C := RX4) (T := TX4) (N := 20) hx hb hts i_X4 hown hK hP 0 rfl rfl 3 (by decide) (hts _ qw26) (fun _ h9 => h9) rfl dX4_fillStep_96 ?_
              refine lv_iload hx hb dX4_fillStep_99 (lv_at hl 5 rfl) ?_
              obtain ⟨hq32, hrun⟩ := chk9 hrun
              refine va_iald hx hb hK hP 3 2 rfl rfl (ixb_in hq32) dX4_fillStep_101 ?_
              refine lv_goto (tgt := 106) hx hb dX4_fillStep_102 (by decide) ?_
              exact J106 (p0w 4 (nn p4)) _ _ _ hrun hP hD hK hS (lv_sub hl [1, 2, 3, 4, 5, 6, 7, 0] rfl) hg_p2_2
          have J80 : ∀ (H : Heap) (locs : List Loc) (ls : Array Slot), (fX4_fillStep_J80 p0w p1w p2w p3 p4 p2_2n p2_2w o_3) = some o → va_P (dC, dI) cls ((oX4 (p0a 0) p0a p0k p0w p0l) ++ (oX6 (p1a 0) p1a p1k p1w p1l) ++ (oX1 (p2a 0) p2a p2k p2n p2w p2l) ++ (oX9 (p2a 3) p2_2a p2_2k p2_2n p2_2w)) H → va_D A ((oX4 (p0a 0) p0a p0k p0w p0l) ++ (oX6 (p1a 0) p1a p1k p1w p1l) ++ (oX1 (p2a 0) p2a p2k p2n p2w p2l) ++ (oX9 (p2a 3) p2_2a p2_2k p2_2n p2_2w)) → va_K (dC, dI) cls ((tX4 p0k) ++ (tX6 p1k) ++ (tX1 p2k) ++ (tX9 p2_2k)) s → va_S A s.heap H locs → lv_has ls 9 [(0, .ref (p0a 0)), (1, .ref (p1a 0)), (2, .ref (p2a 0)), (3, .int p3), (4, .int p4), (5, .int (p1w 9 (nn p4))), (6, .int o_3)] → glX9 p2_2n p2_2n → W p l e ({ frames := 4, cells := (gcX9 p2_2n (o.2.2)), slots := (3 * (gcX9 p2_2n (o.2.2))), locals := 113 } : Room) s m ([.ref (p0a 0), .ref (p1a 0), .ref (p2a 0), .int p3, .int p4] : List Value).toArray below meth c H locs (gcX9 p2_2n p2_2n) (3 * (gcX9 p2_2n p2_2n)) Q (F0 m 80 ls []) := by
            intro  H locs ls hrun hP hD hK hS hl hg_p2_2 
            have hgn_p2_2 : glX9 p2_2n (o.2.2) := (mo_fX4_fillStep_J80 hrun)
            unfold fX4_fillStep_J80 at hrun
            refine lv_iconst (v := 1) hx hb dX4_fillStep_80 (by decide) ?_
            refine lv_goto (tgt := 85) hx hb dX4_fillStep_81 (by decide) ?_
            exact J85 1 _ _ _ hrun hP hD hK hS (lv_sub hl [0, 1, 2, 3, 4, 5, 6] rfl) hg_p2_2
          rcases br9 hrun with ⟨hc33, hrun⟩ | ⟨hc33, hrun⟩
          · refine lv_if_eq (tgt := 80) hx hb dX4_fillStep_63 (by decide) (fun _ => ?_) (fun c => absurd hc33 c)
            exact J80 _ _ _ hrun hP hD hK hS (lv_sub hl [2, 3, 4, 5, 6, 1, 0] rfl) hg_p2_2
          · refine lv_if_eq (tgt := 80) hx hb dX4_fillStep_63 (by decide) (fun c => absurd c hc33) (fun _ => ?_)
            refine lv_iload hx hb dX4_fillStep_66 (lv_at hl 1 rfl) ?_
            refine lv_bipush (v := 20) hx hb dX4_fillStep_68 (by decide) ?_
            rcases br9 hrun with ⟨hc34, hrun⟩ | ⟨hc34, hrun⟩
            · refine lv_icmp_eq (tgt := 80) hx hb dX4_fillStep_70 (by decide) (fun _ => ?_) (fun c => absurd hc34 c)
              exact J80 _ _ _ hrun hP hD hK hS (lv_sub hl [2, 3, 4, 5, 6, 1, 0] rfl) hg_p2_2
            · refine lv_icmp_eq (tgt := 80) hx hb dX4_fillStep_70 (by decide) (fun c => absurd c hc34) (fun _ => ?_)
              refine lv_iload hx hb dX4_fillStep_73 (lv_at hl 1 rfl) ?_
              refine lv_bipush (v := 21) hx hb dX4_fillStep_75 (by decide) ?_
              rcases br9 hrun with ⟨hc35, hrun⟩ | ⟨hc35, hrun⟩
              · refine lv_icmp_ne (tgt := 84) hx hb dX4_fillStep_77 (by decide) (fun c => absurd hc35 c) (fun _ => ?_)
                exact J80 _ _ _ hrun hP hD hK hS (lv_sub hl [2, 3, 4, 5, 6, 1, 0] rfl) hg_p2_2
              · refine lv_icmp_ne (tgt := 84) hx hb dX4_fillStep_77 (by decide) (fun _ => ?_) (fun c => absurd c hc35)
                refine lv_iconst (v := 0) hx hb dX4_fillStep_84 (by decide) ?_
                exact J85 0 _ _ _ hrun hP hD hK hS (lv_sub hl [2, 3, 4, 5, 6, 1, 0] rfl) hg_p2_2
