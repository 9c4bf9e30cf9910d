abbrev cX19_init : ByteArray := prog_22_method_1_code
def yX19_init : MethodName := ⟨RX19, "<init>", "([II)V"⟩
abbrev cX19_keep : ByteArray := prog_22_method_2_code
def yX19_keep : MethodName := ⟨RX19, "keep", "(I)I"⟩
theorem dX19_init_0 : decode cX19_init 0 = .ok (.aload_n 0, 1) := by decide +kernel
theorem dX19_init_1 : decode cX19_init 1 = .ok (.invokespecial 3, 3) := by decide +kernel
theorem dX19_init_4 : decode cX19_init 4 = .ok (.aload_n 0, 1) := by decide +kernel
theorem dX19_init_5 : decode cX19_init 5 = .ok (.new 9, 3) := by decide +kernel
theorem dX19_init_8 : decode cX19_init 8 = .ok (.dup, 1) := by decide +kernel
theorem dX19_init_9 : decode cX19_init 9 = .ok (.invokespecial 11, 3) := by decide +kernel
theorem dX19_init_12 : decode cX19_init 12 = .ok (.putfield 12, 3) := by decide +kernel
theorem dX19_init_15 : decode cX19_init 15 = .ok (.aload_n 0, 1) := by decide +kernel
theorem dX19_init_16 : decode cX19_init 16 = .ok (.sipush 1260, 3) := by decide +kernel
theorem dX19_init_19 : decode cX19_init 19 = .ok (.newarray .int, 2) := by decide +kernel
theorem dX19_init_21 : decode cX19_init 21 = .ok (.putfield 18, 3) := by decide +kernel
theorem dX19_init_24 : decode cX19_init 24 = .ok (.aload_n 0, 1) := by decide +kernel
theorem dX19_init_25 : decode cX19_init 25 = .ok (.sipush 610, 3) := by decide +kernel
theorem dX19_init_28 : decode cX19_init 28 = .ok (.newarray .int, 2) := by decide +kernel
theorem dX19_init_30 : decode cX19_init 30 = .ok (.putfield 22, 3) := by decide +kernel
theorem dX19_init_33 : decode cX19_init 33 = .ok (.aload_n 0, 1) := by decide +kernel
theorem dX19_init_34 : decode cX19_init 34 = .ok (.sipush 610, 3) := by decide +kernel
theorem dX19_init_37 : decode cX19_init 37 = .ok (.newarray .int, 2) := by decide +kernel
theorem dX19_init_39 : decode cX19_init 39 = .ok (.putfield 25, 3) := by decide +kernel
theorem dX19_init_42 : decode cX19_init 42 = .ok (.aload_n 0, 1) := by decide +kernel
theorem dX19_init_43 : decode cX19_init 43 = .ok (.sipush 600, 3) := by decide +kernel
theorem dX19_init_46 : decode cX19_init 46 = .ok (.newarray .int, 2) := by decide +kernel
theorem dX19_init_48 : decode cX19_init 48 = .ok (.putfield 28, 3) := by decide +kernel
theorem dX19_init_51 : decode cX19_init 51 = .ok (.aload_n 0, 1) := by decide +kernel
theorem dX19_init_52 : decode cX19_init 52 = .ok (.sipush 600, 3) := by decide +kernel
theorem dX19_init_55 : decode cX19_init 55 = .ok (.newarray .int, 2) := by decide +kernel
theorem dX19_init_57 : decode cX19_init 57 = .ok (.putfield 31, 3) := by decide +kernel
theorem dX19_init_60 : decode cX19_init 60 = .ok (.aload_n 0, 1) := by decide +kernel
theorem dX19_init_61 : decode cX19_init 61 = .ok (.ldc 36, 2) := by decide +kernel
theorem dX19_init_63 : decode cX19_init 63 = .ok (.putfield 37, 3) := by decide +kernel
theorem dX19_init_66 : decode cX19_init 66 = .ok (.aload_n 0, 1) := by decide +kernel
theorem dX19_init_67 : decode cX19_init 67 = .ok (.ldc 36, 2) := by decide +kernel
theorem dX19_init_69 : decode cX19_init 69 = .ok (.putfield 41, 3) := by decide +kernel
theorem dX19_init_72 : decode cX19_init 72 = .ok (.aload_n 0, 1) := by decide +kernel
theorem dX19_init_73 : decode cX19_init 73 = .ok (.aload_n 1, 1) := by decide +kernel
theorem dX19_init_74 : decode cX19_init 74 = .ok (.putfield 44, 3) := by decide +kernel
theorem dX19_init_77 : decode cX19_init 77 = .ok (.aload_n 0, 1) := by decide +kernel
theorem dX19_init_78 : decode cX19_init 78 = .ok (.iload_n 2, 1) := by decide +kernel
theorem dX19_init_79 : decode cX19_init 79 = .ok (.putfield 47, 3) := by decide +kernel
theorem dX19_init_82 : decode cX19_init 82 = .ok (.iconst 0, 1) := by decide +kernel
theorem dX19_init_83 : decode cX19_init 83 = .ok (.istore_n 3, 1) := by decide +kernel
theorem dX19_init_84 : decode cX19_init 84 = .ok (.iconst 0, 1) := by decide +kernel
theorem dX19_init_85 : decode cX19_init 85 = .ok (.istore 4, 2) := by decide +kernel
theorem dX19_init_87 : decode cX19_init 87 = .ok (.iload 4, 2) := by decide +kernel
theorem dX19_init_89 : decode cX19_init 89 = .ok (.ldc 50, 2) := by decide +kernel
theorem dX19_init_91 : decode cX19_init 91 = .ok (.invokevirtual 52, 3) := by decide +kernel
theorem dX19_init_94 : decode cX19_init 94 = .ok (.if_icmp .ge 58, 3) := by decide +kernel
theorem dX19_init_97 : decode cX19_init 97 = .ok (.ldc 50, 2) := by decide +kernel
theorem dX19_init_99 : decode cX19_init 99 = .ok (.iload 4, 2) := by decide +kernel
theorem dX19_init_101 : decode cX19_init 101 = .ok (.invokevirtual 57, 3) := by decide +kernel
theorem dX19_init_104 : decode cX19_init 104 = .ok (.bipush 32, 2) := by decide +kernel
theorem dX19_init_106 : decode cX19_init 106 = .ok (.if_icmp .eq 29, 3) := by decide +kernel
theorem dX19_init_109 : decode cX19_init 109 = .ok (.aload_n 0, 1) := by decide +kernel
theorem dX19_init_110 : decode cX19_init 110 = .ok (.getfield 18, 3) := by decide +kernel
theorem dX19_init_113 : decode cX19_init 113 = .ok (.aload_n 0, 1) := by decide +kernel
theorem dX19_init_114 : decode cX19_init 114 = .ok (.dup, 1) := by decide +kernel
theorem dX19_init_115 : decode cX19_init 115 = .ok (.getfield 61, 3) := by decide +kernel
theorem dX19_init_118 : decode cX19_init 118 = .ok (.dup_x1, 1) := by decide +kernel
theorem dX19_init_119 : decode cX19_init 119 = .ok (.iconst 1, 1) := by decide +kernel
theorem dX19_init_120 : decode cX19_init 120 = .ok (.iadd, 1) := by decide +kernel
theorem dX19_init_121 : decode cX19_init 121 = .ok (.putfield 61, 3) := by decide +kernel
theorem dX19_init_124 : decode cX19_init 124 = .ok (.ldc 50, 2) := by decide +kernel
theorem dX19_init_126 : decode cX19_init 126 = .ok (.iload 4, 2) := by decide +kernel
theorem dX19_init_128 : decode cX19_init 128 = .ok (.invokevirtual 57, 3) := by decide +kernel
theorem dX19_init_131 : decode cX19_init 131 = .ok (.iastore, 1) := by decide +kernel
theorem dX19_init_132 : decode cX19_init 132 = .ok (.goto 14, 3) := by decide +kernel
theorem dX19_init_135 : decode cX19_init 135 = .ok (.aload_n 0, 1) := by decide +kernel
theorem dX19_init_136 : decode cX19_init 136 = .ok (.iload_n 3, 1) := by decide +kernel
theorem dX19_init_137 : decode cX19_init 137 = .ok (.invokevirtual 64, 3) := by decide +kernel
theorem dX19_init_140 : decode cX19_init 140 = .ok (.pop, 1) := by decide +kernel
theorem dX19_init_141 : decode cX19_init 141 = .ok (.aload_n 0, 1) := by decide +kernel
theorem dX19_init_142 : decode cX19_init 142 = .ok (.getfield 61, 3) := by decide +kernel
theorem dX19_init_145 : decode cX19_init 145 = .ok (.istore_n 3, 1) := by decide +kernel
theorem dX19_init_146 : decode cX19_init 146 = .ok (.iinc 4 1, 3) := by decide +kernel
theorem dX19_init_149 : decode cX19_init 149 = .ok (.goto (-62), 3) := by decide +kernel
theorem dX19_init_152 : decode cX19_init 152 = .ok (.return_, 1) := by decide +kernel
theorem dX19_keep_0 : decode cX19_keep 0 = .ok (.aload_n 0, 1) := by decide +kernel
theorem dX19_keep_1 : decode cX19_keep 1 = .ok (.getfield 22, 3) := by decide +kernel
theorem dX19_keep_4 : decode cX19_keep 4 = .ok (.aload_n 0, 1) := by decide +kernel
theorem dX19_keep_5 : decode cX19_keep 5 = .ok (.getfield 68, 3) := by decide +kernel
theorem dX19_keep_8 : decode cX19_keep 8 = .ok (.iload_n 1, 1) := by decide +kernel
theorem dX19_keep_9 : decode cX19_keep 9 = .ok (.iastore, 1) := by decide +kernel
theorem dX19_keep_10 : decode cX19_keep 10 = .ok (.aload_n 0, 1) := by decide +kernel
theorem dX19_keep_11 : decode cX19_keep 11 = .ok (.getfield 25, 3) := by decide +kernel
theorem dX19_keep_14 : decode cX19_keep 14 = .ok (.aload_n 0, 1) := by decide +kernel
theorem dX19_keep_15 : decode cX19_keep 15 = .ok (.getfield 68, 3) := by decide +kernel
theorem dX19_keep_18 : decode cX19_keep 18 = .ok (.aload_n 0, 1) := by decide +kernel
theorem dX19_keep_19 : decode cX19_keep 19 = .ok (.getfield 61, 3) := by decide +kernel
theorem dX19_keep_22 : decode cX19_keep 22 = .ok (.iload_n 1, 1) := by decide +kernel
theorem dX19_keep_23 : decode cX19_keep 23 = .ok (.isub, 1) := by decide +kernel
theorem dX19_keep_24 : decode cX19_keep 24 = .ok (.iastore, 1) := by decide +kernel
theorem dX19_keep_25 : decode cX19_keep 25 = .ok (.aload_n 0, 1) := by decide +kernel
theorem dX19_keep_26 : decode cX19_keep 26 = .ok (.dup, 1) := by decide +kernel
theorem dX19_keep_27 : decode cX19_keep 27 = .ok (.getfield 68, 3) := by decide +kernel
theorem dX19_keep_30 : decode cX19_keep 30 = .ok (.dup_x1, 1) := by decide +kernel
theorem dX19_keep_31 : decode cX19_keep 31 = .ok (.iconst 1, 1) := by decide +kernel
theorem dX19_keep_32 : decode cX19_keep 32 = .ok (.iadd, 1) := by decide +kernel
theorem dX19_keep_33 : decode cX19_keep 33 = .ok (.putfield 68, 3) := by decide +kernel
theorem dX19_keep_36 : decode cX19_keep 36 = .ok (.ireturn, 1) := by decide +kernel
theorem qw400 : Cond.methodLink RX19 3 objectInit ∈ gw := mq_12 (i := 169) rfl rfl
theorem qw401 : Cond.classLink RX19 9 RX22 ∈ gw := mq_12 (i := 170) rfl rfl
theorem qw402 : Cond.fieldLink RX19 12 "GearboxModel$Reader" "t" "LGearboxModel$Text;" ∈ gw := mq_12 (i := 201) rfl rfl
theorem qw403 : Cond.fieldLink RX19 18 "GearboxModel$Reader" "letters" "[I" ∈ gw := mq_12 (i := 203) rfl rfl
theorem qw404 : Cond.fieldLink RX19 22 "GearboxModel$Reader" "from" "[I" ∈ gw := mq_12 (i := 204) rfl rfl
theorem qw405 : Cond.fieldLink RX19 25 "GearboxModel$Reader" "many" "[I" ∈ gw := mq_12 (i := 205) rfl rfl
theorem qw406 : Cond.fieldLink RX19 28 "GearboxModel$Reader" "seenName" "[I" ∈ gw := mq_12 (i := 208) rfl rfl
theorem qw407 : Cond.fieldLink RX19 31 "GearboxModel$Reader" "seenVariable" "[I" ∈ gw := mq_12 (i := 209) rfl rfl
theorem qw408 : Cond.constant RX19 36 (2147483647) ∈ gw := mq_12 (i := 172) rfl rfl
theorem qw409 : Cond.fieldLink RX19 37 "GearboxModel$Reader" "highAt" "I" ∈ gw := mq_12 (i := 220) rfl rfl
theorem qw410 : Cond.fieldLink RX19 41 "GearboxModel$Reader" "errorAt" "I" ∈ gw := mq_12 (i := 223) rfl rfl
theorem qw411 : Cond.fieldLink RX19 44 "GearboxModel$Reader" "tape" "[I" ∈ gw := mq_12 (i := 199) rfl rfl
theorem qw412 : Cond.fieldLink RX19 47 "GearboxModel$Reader" "length" "I" ∈ gw := mq_12 (i := 200) rfl rfl
theorem qw413 : Cond.code yJ0_length_8abf5 cJ0_length_8abf5 1 (Option.some Jvm.ClassFile.FieldType.int) ∈ gw := mq_4 (i := 163) rfl rfl
theorem qw414 : Cond.methodLink RX19 52 yJ0_length_8abf5 ∈ gw := mq_12 (i := 174) rfl rfl
theorem qw415 : Cond.instanceMethod yJ0_length_8abf5 ∈ gw := mq_4 (i := 161) rfl rfl
theorem qw416 : Cond.selects RJ0 yJ0_length_8abf5 yJ0_length_8abf5 ∈ gw := mq_4 (i := 162) rfl rfl
theorem qw417 : Cond.code yJ0_charAt_5068e cJ0_charAt_5068e 2 (Option.some Jvm.ClassFile.FieldType.char) ∈ gw := mq_12 (i := 178) rfl rfl
theorem qw418 : Cond.methodLink RX19 57 yJ0_charAt_5068e ∈ gw := mq_12 (i := 175) rfl rfl
theorem qw419 : Cond.instanceMethod yJ0_charAt_5068e ∈ gw := mq_12 (i := 176) rfl rfl
theorem qw420 : Cond.selects RJ0 yJ0_charAt_5068e yJ0_charAt_5068e ∈ gw := mq_12 (i := 177) rfl rfl
theorem qw421 : Cond.fieldLink RX19 61 "GearboxModel$Reader" "used" "I" ∈ gw := mq_12 (i := 207) rfl rfl
theorem qw422 : Cond.fieldLink RX19 68 "GearboxModel$Reader" "texts" "I" ∈ gw := mq_12 (i := 206) rfl rfl
theorem qw423 : Cond.code yX19_keep cX19_keep 2 (Option.some Jvm.ClassFile.FieldType.int) ∈ gw := mq_12 (i := 198) rfl rfl
theorem qw424 : Cond.methodLink RX19 64 yX19_keep ∈ gw := mq_12 (i := 195) rfl rfl
theorem qw425 : Cond.instanceMethod yX19_keep ∈ gw := mq_12 (i := 197) rfl rfl
theorem qw426 : Cond.selects RX19 yX19_keep yX19_keep ∈ gw := mk_s (i := 8) rfl rfl
theorem qw427 : Cond.initialized RX19 ∈ gw := mq_1 (i := 37) rfl rfl
set_option maxHeartbeats 4000000 in
set_option maxRecDepth 100000 in
/-- GearboxModel$Reader.keep, from the state that its caller has -/
theorem kX19_keep_n26 {zs : Nat × Nat} (l : Launch) (dC : Nat → ClassId) (dI : Nat → Nat → Nat) (a0 : Nat) (a1 : Nat) (a2 : Nat) (a3 : Nat) (a4 : Nat) (a5 : Nat) (a6 : Nat) (a7 : Nat) (k10 : ClassId) (k11 : ClassId) (sz : Nat)  : Met l yX19_keep (wz yX19_keep cX19_keep 2 (Option.some Jvm.ClassFile.FieldType.int)) ({ frames := 0, cells := 0, slots := 0, locals := 0 }) (va_Pc [.ref a0, .int 0] (PRE zs dC dI [(a0, .inr (16, [.ref a1, .int 0, .ref a2, .ref a3, .ref a4, .ref a5, .int 0, .int 5, .ref a6, .ref a7, .int 0, .int 0, .int 0, .int 0, .int 0, .int 0, .int 0, .int 0, .int 0, .int 0, .int 2147483647, .int 0, .int 2147483647])), (a4, .inl (k10, 610, .inl (fun _ => 0))), (a5, .inl (k11, 610, .inl (fun _ => 0)))] [(k10, .int), (k11, .int)] sz)) (va_Qi (fun (r : Int32) (_ : Unit) => r = 0) (fun _ t => ∃ (f1 : Nat → Int32), ∃ (f2 : Nat → Int32), POST dC dI [(a0, .inr (16, [.ref a1, .int 0, .ref a2, .ref a3, .ref a4, .ref a5, .int 1, .int 5, .ref a6, .ref a7, .int 0, .int 0, .int 0, .int 0, .int 0, .int 0, .int 0, .int 0, .int 0, .int 0, .int 2147483647, .int 0, .int 2147483647])), (a4, .inl (k10, 610, .inl f1)), (a5, .inl (k11, 610, .inl f2))] [(k10, .int), (k11, .int)] (va_A [(a0, .inr (16, [.ref a1, .int 0, .ref a2, .ref a3, .ref a4, .ref a5, .int 0, .int 5, .ref a6, .ref a7, .int 0, .int 0, .int 0, .int 0, .int 0, .int 0, .int 0, .int 0, .int 0, .int 0, .int 2147483647, .int 0, .int 2147483647])), (a4, .inl (k10, 610, .inl (fun _ => 0))), (a5, .inl (k11, 610, .inl (fun _ => 0)))] sz) t) (va_A [(a0, .inr (16, [.ref a1, .int 0, .ref a2, .ref a3, .ref a4, .ref a5, .int 0, .int 5, .ref a6, .ref a7, .int 0, .int 0, .int 0, .int 0, .int 0, .int 0, .int 0, .int 0, .int 0, .int 0, .int 2147483647, .int 0, .int 2147483647])), (a4, .inl (k10, 610, .inl (fun _ => 0))), (a5, .inl (k11, 610, .inl (fun _ => 0)))] sz)) 0 0 (va_A [(a0, .inr (16, [.ref a1, .int 0, .ref a2, .ref a3, .ref a4, .ref a5, .int 0, .int 5, .ref a6, .ref a7, .int 0, .int 0, .int 0, .int 0, .int 0, .int 0, .int 0, .int 0, .int 0, .int 0, .int 2147483647, .int 0, .int 2147483647])), (a4, .inl (k10, 610, .inl (fun _ => 0))), (a5, .inl (k11, 610, .inl (fun _ => 0)))] sz) := by
  refine Met.ofW (cc := cX19_keep) (maxL := 2) (ret := (Option.some Jvm.ClassFile.FieldType.int)) (by decide) rfl ?_
  intro p e s m args below meth c s₁ B hml hv
  obtain ⟨rfl, hsz, hP, hK, hD0, hE⟩ := hv
  have hx := B.exec
  have hb := B.bytes
  have hr := B.returns
  have hts0 := atoms_spec (ws := wz yX19_keep cX19_keep 2 (Option.some Jvm.ClassFile.FieldType.int)) B.pre
  have hts : ∀ w ∈ gw, w.before _ s = true := fun w h => hts0 w (List.mem_cons_of_mem _ h)
  have hown : s.vm.findClass RX19 = some m.cls := findClass_of_methodNamed B.named
  have hlocks := B.notSynchronized
  subst hsz
  have hD := hD0.self (sz := s.heap.size)
  generalize hAe : va_A [(a0, .inr (16, [.ref a1, .int 0, .ref a2, .ref a3, .ref a4, .ref a5, .int 0, .int 5, .ref a6, .ref a7, .int 0, .int 0, .int 0, .int 0, .int 0, .int 0, .int 0, .int 0, .int 0, .int 0, .int 2147483647, .int 0, .int 2147483647])), (a4, .inl (k10, 610, .inl (fun _ => 0))), (a5, .inl (k11, 610, .inl (fun _ => 0)))] s.heap.size = A at hD hE ⊢
  have hA : ∀ q : Nat, s.heap.size ≤ q → A q := fun q h => by rw [← hAe]; exact Or.inr h
  have hS : va_S A s.heap s.heap [] := va_S.rf
  have hP : va_P (dC, dI) cls [(a0, .inr (16, [.ref a1, .int 0, .ref a2, .ref a3, .ref a4, .ref a5, .int 0, .int 5, .ref a6, .ref a7, .int 0, .int 0, .int 0, .int 0, .int 0, .int 0, .int 0, .int 0, .int 0, .int 0, .int 2147483647, .int 0, .int 2147483647])), (a4, .inl (k10, 610, .inl (fun _ => 0))), (a5, .inl (k11, 610, .inl (fun _ => 0)))] s.heap := hP
  have hl := lv_entry ([.ref a0, .int 0]) (n := 2) (Nat.le_of_ble_eq_true rfl)
  rw [lg_entry_eq]
  generalize (lg_sl ([.ref a0, .int 0]) ++ List.replicate (2 - (lg_sl ([.ref a0, .int 0])).length) Slot.unset).toArray = ls at hl ⊢
  have hl : lv_has ls 2 [(0, .ref a0), (1, .int 0)] := hl
  refine lv_aload_n hx hb dX19_keep_0 rfl (lv_at hl 0 rfl) ?_
  refine va_get (D := (dC, dI)) (ci := 16) (v := .ref a4) (C := RX19) (T := TX19) (N := 23) hx hb hts i_X19 hown hK hP 0 rfl rfl 4 (by decide) (hts _ qw404) (fun _ h9 => h9) rfl dX19_keep_1 ?_
  refine lv_aload_n hx hb dX19_keep_4 rfl (lv_at hl 0 rfl) ?_
  refine va_get (D := (dC, dI)) (ci := 16) (v := .int 0) (C := RX19) (T := TX19) (N := 23) hx hb hts i_X19 hown hK hP 0 rfl rfl 6 (by decide) (hts _ qw422) (fun _ h9 => h9) rfl dX19_keep_5 ?_
  refine lv_iload_n hx hb dX19_keep_8 rfl (lv_at hl 1 rfl) ?_
  refine va_iast hx hb hK hP hD hS 1 0 rfl rfl (by unfold vp_in; decide +kernel) dX19_keep_9 (fun H locs hP hD hS => ?_)
  have hP : va_P (dC, dI) cls [(a0, .inr (16, [.ref a1, .int 0, .ref a2, .ref a3, .ref a4, .ref a5, .int 0, .int 5, .ref a6, .ref a7, .int 0, .int 0, .int 0, .int 0, .int 0, .int 0, .int 0, .int 0, .int 0, .int 0, .int 2147483647, .int 0, .int 2147483647])), (a4, .inl (k10, 610, .inl (upd (fun _ => 0) (Int32.toNatClampNeg 0) 0))), (a5, .inl (k11, 610, .inl (fun _ => 0)))] H := hP
  have hD : va_D A [(a0, .inr (16, [.ref a1, .int 0, .ref a2, .ref a3, .ref a4, .ref a5, .int 0, .int 5, .ref a6, .ref a7, .int 0, .int 0, .int 0, .int 0, .int 0, .int 0, .int 0, .int 0, .int 0, .int 0, .int 2147483647, .int 0, .int 2147483647])), (a4, .inl (k10, 610, .inl (upd (fun _ => 0) (Int32.toNatClampNeg 0) 0))), (a5, .inl (k11, 610, .inl (fun _ => 0)))] := hD
  generalize upd (fun _ => 0) (Int32.toNatClampNeg 0) 0 = f1 at hP hD
  refine lv_aload_n hx hb dX19_keep_10 rfl (lv_at hl 0 rfl) ?_
  refine va_get (D := (dC, dI)) (ci := 16) (v := .ref a5) (C := RX19) (T := TX19) (N := 23) hx hb hts i_X19 hown hK hP 0 rfl rfl 5 (by decide) (hts _ qw405) (fun _ h9 => h9) rfl dX19_keep_11 ?_
  refine lv_aload_n hx hb dX19_keep_14 rfl (lv_at hl 0 rfl) ?_
  refine va_get (D := (dC, dI)) (ci := 16) (v := .int 0) (C := RX19) (T := TX19) (N := 23) hx hb hts i_X19 hown hK hP 0 rfl rfl 6 (by decide) (hts _ qw422) (fun _ h9 => h9) rfl dX19_keep_15 ?_
  refine lv_aload_n hx hb dX19_keep_18 rfl (lv_at hl 0 rfl) ?_
  refine va_get (D := (dC, dI)) (ci := 16) (v := .int 5) (C := RX19) (T := TX19) (N := 23) hx hb hts i_X19 hown hK hP 0 rfl rfl 7 (by decide) (hts _ qw421) (fun _ h9 => h9) rfl dX19_keep_19 ?_
  refine lv_iload_n hx hb dX19_keep_22 rfl (lv_at hl 1 rfl) ?_
  refine lv_isub hx hb dX19_keep_23 ?_
  refine lv_topC (y := 5) (by decide) ?_
  refine va_iast hx hb hK hP hD hS 2 1 rfl rfl (by unfold vp_in; decide +kernel) dX19_keep_24 (fun H locs hP hD hS => ?_)
  have hP : va_P (dC, dI) cls [(a0, .inr (16, [.ref a1, .int 0, .ref a2, .ref a3, .ref a4, .ref a5, .int 0, .int 5, .ref a6, .ref a7, .int 0, .int 0, .int 0, .int 0, .int 0, .int 0, .int 0, .int 0, .int 0, .int 0, .int 2147483647, .int 0, .int 2147483647])), (a4, .inl (k10, 610, .inl f1)), (a5, .inl (k11, 610, .inl (upd (fun _ => 0) (Int32.toNatClampNeg 0) 5)))] H := hP
  have hD : va_D A [(a0, .inr (16, [.ref a1, .int 0, .ref a2, .ref a3, .ref a4, .ref a5, .int 0, .int 5, .ref a6, .ref a7, .int 0, .int 0, .int 0, .int 0, .int 0, .int 0, .int 0, .int 0, .int 0, .int 0, .int 2147483647, .int 0, .int 2147483647])), (a4, .inl (k10, 610, .inl f1)), (a5, .inl (k11, 610, .inl (upd (fun _ => 0) (Int32.toNatClampNeg 0) 5)))] := hD
  generalize upd (fun _ => 0) (Int32.toNatClampNeg 0) 5 = f2 at hP hD
  refine lv_aload_n hx hb dX19_keep_25 rfl (lv_at hl 0 rfl) ?_
  refine lv_dup hx hb dX19_keep_26 rfl ?_
  refine va_get (D := (dC, dI)) (ci := 16) (v := .int 0) (C := RX19) (T := TX19) (N := 23) hx hb hts i_X19 hown hK hP 0 rfl rfl 6 (by decide) (hts _ qw422) (fun _ h9 => h9) rfl dX19_keep_27 ?_
  refine lv_dup_x1 hx hb dX19_keep_30 rfl rfl ?_
  refine lv_iconst (v := 1) hx hb dX19_keep_31 (by decide) ?_
  refine lv_iadd hx hb dX19_keep_32 ?_
  refine lv_topC (y := 1) (by decide) ?_
  refine va_put (D := (dC, dI)) (ci := 16) (v := .int 1) (ty := .int) (C := RX19) (T := TX19) (N := 23) hx hb hts i_X19 tyX19 tyX19_ok nmX19 hown hK hP hD hS 0 rfl rfl 6 (by decide) (hts _ qw422) (fun _ h9 => h9) rfl (by decide +kernel) rfl rfl (Nat.le_of_ble_eq_true rfl) dX19_keep_33 (fun H locs hP hD hS => ?_)
  have hP : va_P (dC, dI) cls [(a0, .inr (16, [.ref a1, .int 0, .ref a2, .ref a3, .ref a4, .ref a5, .int 1, .int 5, .ref a6, .ref a7, .int 0, .int 0, .int 0, .int 0, .int 0, .int 0, .int 0, .int 0, .int 0, .int 0, .int 2147483647, .int 0, .int 2147483647])), (a4, .inl (k10, 610, .inl f1)), (a5, .inl (k11, 610, .inl f2))] H := hP
  have hD : va_D A [(a0, .inr (16, [.ref a1, .int 0, .ref a2, .ref a3, .ref a4, .ref a5, .int 1, .int 5, .ref a6, .ref a7, .int 0, .int 0, .int 0, .int 0, .int 0, .int 0, .int 0, .int 0, .int 0, .int 0, .int 2147483647, .int 0, .int 2147483647])), (a4, .inl (k10, 610, .inl f1)), (a5, .inl (k11, 610, .inl f2))] := hD
  have hP9 : va_P (dC, dI) cls [(a0, .inr (16, [.ref a1, .int 0, .ref a2, .ref a3, .ref a4, .ref a5, .int 1, .int 5, .ref a6, .ref a7, .int 0, .int 0, .int 0, .int 0, .int 0, .int 0, .int 0, .int 0, .int 0, .int 0, .int 2147483647, .int 0, .int 2147483647])), (a4, .inl (k10, 610, .inl f1)), (a5, .inl (k11, 610, .inl f2))] H := hP.sub [0, 1, 2] rfl
  have hD9 : va_D A [(a0, .inr (16, [.ref a1, .int 0, .ref a2, .ref a3, .ref a4, .ref a5, .int 1, .int 5, .ref a6, .ref a7, .int 0, .int 0, .int 0, .int 0, .int 0, .int 0, .int 0, .int 0, .int 0, .int 0, .int 2147483647, .int 0, .int 2147483647])), (a4, .inl (k10, 610, .inl f1)), (a5, .inl (k11, 610, .inl f2))] := hD.sub [0, 1, 2] (by decide) rfl
  have hK9 : va_K (dC, dI) cls [(k10, .int), (k11, .int)] s := hK.sub [0, 1] rfl
  exact W.iret (v := 0) hx hb hr (fun t ht hW => ⟨⟨0, (), rfl, rfl, ⟨f1, f2, ⟨by rw [ht]; exact hP9, va_K.moved hW.alike hK9, hD9⟩⟩⟩, hS.F ht⟩) hS.2.2 dX19_keep_36
set_option maxHeartbeats 4000000 in
set_option maxRecDepth 100000 in
/-- GearboxModel$Reader.keep, from the state that its caller has -/
theorem kX19_keep_n27 {zs : Nat × Nat} (l : Launch) (dC : Nat → ClassId) (dI : Nat → Nat → Nat) (a0 : Nat) (a2 : Nat) (a4 : Nat) (a5 : Nat) (a6 : Nat) (a7 : Nat) (a8 : Nat) (a9 : Nat) (F10 : Nat → Int32) (k11 : ClassId) (F12 : Nat → Int32) (k13 : ClassId) (sz : Nat)  : Met l yX19_keep (wz yX19_keep cX19_keep 2 (Option.some Jvm.ClassFile.FieldType.int)) ({ frames := 0, cells := 0, slots := 0, locals := 0 }) (va_Pc [.ref a0, .int 5] (PRE zs dC dI [(a0, .inr (16, [.ref a4, .int 0, .ref a5, .ref a2, .ref a6, .ref a7, .int 1, .int 13, .ref a8, .ref a9, .int 0, .int 0, .int 0, .int 0, .int 0, .int 0, .int 0, .int 0, .int 0, .int 0, .int 2147483647, .int 0, .int 2147483647])), (a6, .inl (k11, 610, .inl F10)), (a7, .inl (k13, 610, .inl F12))] [(k11, .int), (k13, .int)] sz)) (va_Qi (fun (r : Int32) (_ : Unit) => r = 1) (fun _ t => ∃ (f1 : Nat → Int32), ∃ (f2 : Nat → Int32), POST dC dI [(a0, .inr (16, [.ref a4, .int 0, .ref a5, .ref a2, .ref a6, .ref a7, .int 2, .int 13, .ref a8, .ref a9, .int 0, .int 0, .int 0, .int 0, .int 0, .int 0, .int 0, .int 0, .int 0, .int 0, .int 2147483647, .int 0, .int 2147483647])), (a6, .inl (k11, 610, .inl f1)), (a7, .inl (k13, 610, .inl f2))] [(k11, .int), (k13, .int)] (va_A [(a0, .inr (16, [.ref a4, .int 0, .ref a5, .ref a2, .ref a6, .ref a7, .int 1, .int 13, .ref a8, .ref a9, .int 0, .int 0, .int 0, .int 0, .int 0, .int 0, .int 0, .int 0, .int 0, .int 0, .int 2147483647, .int 0, .int 2147483647])), (a6, .inl (k11, 610, .inl F10)), (a7, .inl (k13, 610, .inl F12))] sz) t) (va_A [(a0, .inr (16, [.ref a4, .int 0, .ref a5, .ref a2, .ref a6, .ref a7, .int 1, .int 13, .ref a8, .ref a9, .int 0, .int 0, .int 0, .int 0, .int 0, .int 0, .int 0, .int 0, .int 0, .int 0, .int 2147483647, .int 0, .int 2147483647])), (a6, .inl (k11, 610, .inl F10)), (a7, .inl (k13, 610, .inl F12))] sz)) 0 0 (va_A [(a0, .inr (16, [.ref a4, .int 0, .ref a5, .ref a2, .ref a6, .ref a7, .int 1, .int 13, .ref a8, .ref a9, .int 0, .int 0, .int 0, .int 0, .int 0, .int 0, .int 0, .int 0, .int 0, .int 0, .int 2147483647, .int 0, .int 2147483647])), (a6, .inl (k11, 610, .inl F10)), (a7, .inl (k13, 610, .inl F12))] sz) := by
  refine Met.ofW (cc := cX19_keep) (maxL := 2) (ret := (Option.some Jvm.ClassFile.FieldType.int)) (by decide) rfl ?_
  intro p e s m args below meth c s₁ B hml hv
  obtain ⟨rfl, hsz, hP, hK, hD0, hE⟩ := hv
  have hx := B.exec
  have hb := B.bytes
  have hr := B.returns
  have hts0 := atoms_spec (ws := wz yX19_keep cX19_keep 2 (Option.some Jvm.ClassFile.FieldType.int)) B.pre
  have hts : ∀ w ∈ gw, w.before _ s = true := fun w h => hts0 w (List.mem_cons_of_mem _ h)
  have hown : s.vm.findClass RX19 = some m.cls := findClass_of_methodNamed B.named
  have hlocks := B.notSynchronized
  subst hsz
  have hD := hD0.self (sz := s.heap.size)
  generalize hAe : va_A [(a0, .inr (16, [.ref a4, .int 0, .ref a5, .ref a2, .ref a6, .ref a7, .int 1, .int 13, .ref a8, .ref a9, .int 0, .int 0, .int 0, .int 0, .int 0, .int 0, .int 0, .int 0, .int 0, .int 0, .int 2147483647, .int 0, .int 2147483647])), (a6, .inl (k11, 610, .inl F10)), (a7, .inl (k13, 610, .inl F12))] s.heap.size = A at hD hE ⊢
  have hA : ∀ q : Nat, s.heap.size ≤ q → A q := fun q h => by rw [← hAe]; exact Or.inr h
  have hS : va_S A s.heap s.heap [] := va_S.rf
  have hP : va_P (dC, dI) cls [(a0, .inr (16, [.ref a4, .int 0, .ref a5, .ref a2, .ref a6, .ref a7, .int 1, .int 13, .ref a8, .ref a9, .int 0, .int 0, .int 0, .int 0, .int 0, .int 0, .int 0, .int 0, .int 0, .int 0, .int 2147483647, .int 0, .int 2147483647])), (a6, .inl (k11, 610, .inl F10)), (a7, .inl (k13, 610, .inl F12))] s.heap := hP
  have hl := lv_entry ([.ref a0, .int 5]) (n := 2) (Nat.le_of_ble_eq_true rfl)
  rw [lg_entry_eq]
  generalize (lg_sl ([.ref a0, .int 5]) ++ List.replicate (2 - (lg_sl ([.ref a0, .int 5])).length) Slot.unset).toArray = ls at hl ⊢
  have hl : lv_has ls 2 [(0, .ref a0), (1, .int 5)] := hl
  refine lv_aload_n hx hb dX19_keep_0 rfl (lv_at hl 0 rfl) ?_
  refine va_get (D := (dC, dI)) (ci := 16) (v := .ref a6) (C := RX19) (T := TX19) (N := 23) hx hb hts i_X19 hown hK hP 0 rfl rfl 4 (by decide) (hts _ qw404) (fun _ h9 => h9) rfl dX19_keep_1 ?_
  refine lv_aload_n hx hb dX19_keep_4 rfl (lv_at hl 0 rfl) ?_
  refine va_get (D := (dC, dI)) (ci := 16) (v := .int 1) (C := RX19) (T := TX19) (N := 23) hx hb hts i_X19 hown hK hP 0 rfl rfl 6 (by decide) (hts _ qw422) (fun _ h9 => h9) rfl dX19_keep_5 ?_
  refine lv_iload_n hx hb dX19_keep_8 rfl (lv_at hl 1 rfl) ?_
  refine va_iast hx hb hK hP hD hS 1 0 rfl rfl (by unfold vp_in; decide +kernel) dX19_keep_9 (fun H locs hP hD hS => ?_)
  have hP : va_P (dC, dI) cls [(a0, .inr (16, [.ref a4, .int 0, .ref a5, .ref a2, .ref a6, .ref a7, .int 1, .int 13, .ref a8, .ref a9, .int 0, .int 0, .int 0, .int 0, .int 0, .int 0, .int 0, .int 0, .int 0, .int 0, .int 2147483647, .int 0, .int 2147483647])), (a6, .inl (k11, 610, .inl (upd F10 (Int32.toNatClampNeg 1) 5))), (a7, .inl (k13, 610, .inl F12))] H := hP
  have hD : va_D A [(a0, .inr (16, [.ref a4, .int 0, .ref a5, .ref a2, .ref a6, .ref a7, .int 1, .int 13, .ref a8, .ref a9, .int 0, .int 0, .int 0, .int 0, .int 0, .int 0, .int 0, .int 0, .int 0, .int 0, .int 2147483647, .int 0, .int 2147483647])), (a6, .inl (k11, 610, .inl (upd F10 (Int32.toNatClampNeg 1) 5))), (a7, .inl (k13, 610, .inl F12))] := hD
  generalize upd F10 (Int32.toNatClampNeg 1) 5 = f1 at hP hD
  refine lv_aload_n hx hb dX19_keep_10 rfl (lv_at hl 0 rfl) ?_
  refine va_get (D := (dC, dI)) (ci := 16) (v := .ref a7) (C := RX19) (T := TX19) (N := 23) hx hb hts i_X19 hown hK hP 0 rfl rfl 5 (by decide) (hts _ qw405) (fun _ h9 => h9) rfl dX19_keep_11 ?_
  refine lv_aload_n hx hb dX19_keep_14 rfl (lv_at hl 0 rfl) ?_
  refine va_get (D := (dC, dI)) (ci := 16) (v := .int 1) (C := RX19) (T := TX19) (N := 23) hx hb hts i_X19 hown hK hP 0 rfl rfl 6 (by decide) (hts _ qw422) (fun _ h9 => h9) rfl dX19_keep_15 ?_
  refine lv_aload_n hx hb dX19_keep_18 rfl (lv_at hl 0 rfl) ?_
  refine va_get (D := (dC, dI)) (ci := 16) (v := .int 13) (C := RX19) (T := TX19) (N := 23) hx hb hts i_X19 hown hK hP 0 rfl rfl 7 (by decide) (hts _ qw421) (fun _ h9 => h9) rfl dX19_keep_19 ?_
  refine lv_iload_n hx hb dX19_keep_22 rfl (lv_at hl 1 rfl) ?_
  refine lv_isub hx hb dX19_keep_23 ?_
  refine lv_topC (y := 8) (by decide) ?_
  refine va_iast hx hb hK hP hD hS 2 1 rfl rfl (by unfold vp_in; decide +kernel) dX19_keep_24 (fun H locs hP hD hS => ?_)
  have hP : va_P (dC, dI) cls [(a0, .inr (16, [.ref a4, .int 0, .ref a5, .ref a2, .ref a6, .ref a7, .int 1, .int 13, .ref a8, .ref a9, .int 0, .int 0, .int 0, .int 0, .int 0, .int 0, .int 0, .int 0, .int 0, .int 0, .int 2147483647, .int 0, .int 2147483647])), (a6, .inl (k11, 610, .inl f1)), (a7, .inl (k13, 610, .inl (upd F12 (Int32.toNatClampNeg 1) 8)))] H := hP
  have hD : va_D A [(a0, .inr (16, [.ref a4, .int 0, .ref a5, .ref a2, .ref a6, .ref a7, .int 1, .int 13, .ref a8, .ref a9, .int 0, .int 0, .int 0, .int 0, .int 0, .int 0, .int 0, .int 0, .int 0, .int 0, .int 2147483647, .int 0, .int 2147483647])), (a6, .inl (k11, 610, .inl f1)), (a7, .inl (k13, 610, .inl (upd F12 (Int32.toNatClampNeg 1) 8)))] := hD
  generalize upd F12 (Int32.toNatClampNeg 1) 8 = f2 at hP hD
  refine lv_aload_n hx hb dX19_keep_25 rfl (lv_at hl 0 rfl) ?_
  refine lv_dup hx hb dX19_keep_26 rfl ?_
  refine va_get (D := (dC, dI)) (ci := 16) (v := .int 1) (C := RX19) (T := TX19) (N := 23) hx hb hts i_X19 hown hK hP 0 rfl rfl 6 (by decide) (hts _ qw422) (fun _ h9 => h9) rfl dX19_keep_27 ?_
  refine lv_dup_x1 hx hb dX19_keep_30 rfl rfl ?_
  refine lv_iconst (v := 1) hx hb dX19_keep_31 (by decide) ?_
  refine lv_iadd hx hb dX19_keep_32 ?_
  refine lv_topC (y := 2) (by decide) ?_
  refine va_put (D := (dC, dI)) (ci := 16) (v := .int 2) (ty := .int) (C := RX19) (T := TX19) (N := 23) hx hb hts i_X19 tyX19 tyX19_ok nmX19 hown hK hP hD hS 0 rfl rfl 6 (by decide) (hts _ qw422) (fun _ h9 => h9) rfl (by decide +kernel) rfl rfl (Nat.le_of_ble_eq_true rfl) dX19_keep_33 (fun H locs hP hD hS => ?_)
  have hP : va_P (dC, dI) cls [(a0, .inr (16, [.ref a4, .int 0, .ref a5, .ref a2, .ref a6, .ref a7, .int 2, .int 13, .ref a8, .ref a9, .int 0, .int 0, .int 0, .int 0, .int 0, .int 0, .int 0, .int 0, .int 0, .int 0, .int 2147483647, .int 0, .int 2147483647])), (a6, .inl (k11, 610, .inl f1)), (a7, .inl (k13, 610, .inl f2))] H := hP
  have hD : va_D A [(a0, .inr (16, [.ref a4, .int 0, .ref a5, .ref a2, .ref a6, .ref a7, .int 2, .int 13, .ref a8, .ref a9, .int 0, .int 0, .int 0, .int 0, .int 0, .int 0, .int 0, .int 0, .int 0, .int 0, .int 2147483647, .int 0, .int 2147483647])), (a6, .inl (k11, 610, .inl f1)), (a7, .inl (k13, 610, .inl f2))] := hD
  have hP9 : va_P (dC, dI) cls [(a0, .inr (16, [.ref a4, .int 0, .ref a5, .ref a2, .ref a6, .ref a7, .int 2, .int 13, .ref a8, .ref a9, .int 0, .int 0, .int 0, .int 0, .int 0, .int 0, .int 0, .int 0, .int 0, .int 0, .int 2147483647, .int 0, .int 2147483647])), (a6, .inl (k11, 610, .inl f1)), (a7, .inl (k13, 610, .inl f2))] H := hP.sub [0, 1, 2] rfl
  have hD9 : va_D A [(a0, .inr (16, [.ref a4, .int 0, .ref a5, .ref a2, .ref a6, .ref a7, .int 2, .int 13, .ref a8, .ref a9, .int 0, .int 0, .int 0, .int 0, .int 0, .int 0, .int 0, .int 0, .int 0, .int 0, .int 2147483647, .int 0, .int 2147483647])), (a6, .inl (k11, 610, .inl f1)), (a7, .inl (k13, 610, .inl f2))] := hD.sub [0, 1, 2] (by decide) rfl
  have hK9 : va_K (dC, dI) cls [(k11, .int), (k13, .int)] s := hK.sub [0, 1] rfl
  exact W.iret (v := 1) hx hb hr (fun t ht hW => ⟨⟨1, (), rfl, rfl, ⟨f1, f2, ⟨by rw [ht]; exact hP9, va_K.moved hW.alike hK9, hD9⟩⟩⟩, hS.F ht⟩) hS.2.2 dX19_keep_36
set_option maxHeartbeats 4000000 in
set_option maxRecDepth 100000 in
/-- GearboxModel$Reader.keep, from the state that its caller has -/
theorem kX19_keep_n28 {zs : Nat × Nat} (l : Launch) (dC : Nat → ClassId) (dI : Nat → Nat → Nat) (a0 : Nat) (a2 : Nat) (a4 : Nat) (a5 : Nat) (a6 : Nat) (a7 : Nat) (a8 : Nat) (a9 : Nat) (F10 : Nat → Int32) (k11 : ClassId) (F12 : Nat → Int32) (k13 : ClassId) (sz : Nat)  : Met l yX19_keep (wz yX19_keep cX19_keep 2 (Option.some Jvm.ClassFile.FieldType.int)) ({ frames := 0, cells := 0, slots := 0, locals := 0 }) (va_Pc [.ref a0, .int 13] (PRE zs dC dI [(a0, .inr (16, [.ref a4, .int 0, .ref a5, .ref a2, .ref a6, .ref a7, .int 2, .int 17, .ref a8, .ref a9, .int 0, .int 0, .int 0, .int 0, .int 0, .int 0, .int 0, .int 0, .int 0, .int 0, .int 2147483647, .int 0, .int 2147483647])), (a6, .inl (k11, 610, .inl F10)), (a7, .inl (k13, 610, .inl F12))] [(k11, .int), (k13, .int)] sz)) (va_Qi (fun (r : Int32) (_ : Unit) => r = 2) (fun _ t => ∃ (f1 : Nat → Int32), ∃ (f2 : Nat → Int32), POST dC dI [(a0, .inr (16, [.ref a4, .int 0, .ref a5, .ref a2, .ref a6, .ref a7, .int 3, .int 17, .ref a8, .ref a9, .int 0, .int 0, .int 0, .int 0, .int 0, .int 0, .int 0, .int 0, .int 0, .int 0, .int 2147483647, .int 0, .int 2147483647])), (a6, .inl (k11, 610, .inl f1)), (a7, .inl (k13, 610, .inl f2))] [(k11, .int), (k13, .int)] (va_A [(a0, .inr (16, [.ref a4, .int 0, .ref a5, .ref a2, .ref a6, .ref a7, .int 2, .int 17, .ref a8, .ref a9, .int 0, .int 0, .int 0, .int 0, .int 0, .int 0, .int 0, .int 0, .int 0, .int 0, .int 2147483647, .int 0, .int 2147483647])), (a6, .inl (k11, 610, .inl F10)), (a7, .inl (k13, 610, .inl F12))] sz) t) (va_A [(a0, .inr (16, [.ref a4, .int 0, .ref a5, .ref a2, .ref a6, .ref a7, .int 2, .int 17, .ref a8, .ref a9, .int 0, .int 0, .int 0, .int 0, .int 0, .int 0, .int 0, .int 0, .int 0, .int 0, .int 2147483647, .int 0, .int 2147483647])), (a6, .inl (k11, 610, .inl F10)), (a7, .inl (k13, 610, .inl F12))] sz)) 0 0 (va_A [(a0, .inr (16, [.ref a4, .int 0, .ref a5, .ref a2, .ref a6, .ref a7, .int 2, .int 17, .ref a8, .ref a9, .int 0, .int 0, .int 0, .int 0, .int 0, .int 0, .int 0, .int 0, .int 0, .int 0, .int 2147483647, .int 0, .int 2147483647])), (a6, .inl (k11, 610, .inl F10)), (a7, .inl (k13, 610, .inl F12))] sz) := by
  refine Met.ofW (cc := cX19_keep) (maxL := 2) (ret := (Option.some Jvm.ClassFile.FieldType.int)) (by decide) rfl ?_
  intro p e s m args below meth c s₁ B hml hv
  obtain ⟨rfl, hsz, hP, hK, hD0, hE⟩ := hv
  have hx := B.exec
  have hb := B.bytes
  have hr := B.returns
  have hts0 := atoms_spec (ws := wz yX19_keep cX19_keep 2 (Option.some Jvm.ClassFile.FieldType.int)) B.pre
  have hts : ∀ w ∈ gw, w.before _ s = true := fun w h => hts0 w (List.mem_cons_of_mem _ h)
  have hown : s.vm.findClass RX19 = some m.cls := findClass_of_methodNamed B.named
  have hlocks := B.notSynchronized
  subst hsz
  have hD := hD0.self (sz := s.heap.size)
  generalize hAe : va_A [(a0, .inr (16, [.ref a4, .int 0, .ref a5, .ref a2, .ref a6, .ref a7, .int 2, .int 17, .ref a8, .ref a9, .int 0, .int 0, .int 0, .int 0, .int 0, .int 0, .int 0, .int 0, .int 0, .int 0, .int 2147483647, .int 0, .int 2147483647])), (a6, .inl (k11, 610, .inl F10)), (a7, .inl (k13, 610, .inl F12))] s.heap.size = A at hD hE ⊢
  have hA : ∀ q : Nat, s.heap.size ≤ q → A q := fun q h => by rw [← hAe]; exact Or.inr h
  have hS : va_S A s.heap s.heap [] := va_S.rf
  have hP : va_P (dC, dI) cls [(a0, .inr (16, [.ref a4, .int 0, .ref a5, .ref a2, .ref a6, .ref a7, .int 2, .int 17, .ref a8, .ref a9, .int 0, .int 0, .int 0, .int 0, .int 0, .int 0, .int 0, .int 0, .int 0, .int 0, .int 2147483647, .int 0, .int 2147483647])), (a6, .inl (k11, 610, .inl F10)), (a7, .inl (k13, 610, .inl F12))] s.heap := hP
  have hl := lv_entry ([.ref a0, .int 13]) (n := 2) (Nat.le_of_ble_eq_true rfl)
  rw [lg_entry_eq]
  generalize (lg_sl ([.ref a0, .int 13]) ++ List.replicate (2 - (lg_sl ([.ref a0, .int 13])).length) Slot.unset).toArray = ls at hl ⊢
  have hl : lv_has ls 2 [(0, .ref a0), (1, .int 13)] := hl
  refine lv_aload_n hx hb dX19_keep_0 rfl (lv_at hl 0 rfl) ?_
  refine va_get (D := (dC, dI)) (ci := 16) (v := .ref a6) (C := RX19) (T := TX19) (N := 23) hx hb hts i_X19 hown hK hP 0 rfl rfl 4 (by decide) (hts _ qw404) (fun _ h9 => h9) rfl dX19_keep_1 ?_
  refine lv_aload_n hx hb dX19_keep_4 rfl (lv_at hl 0 rfl) ?_
  refine va_get (D := (dC, dI)) (ci := 16) (v := .int 2) (C := RX19) (T := TX19) (N := 23) hx hb hts i_X19 hown hK hP 0 rfl rfl 6 (by decide) (hts _ qw422) (fun _ h9 => h9) rfl dX19_keep_5 ?_
  refine lv_iload_n hx hb dX19_keep_8 rfl (lv_at hl 1 rfl) ?_
  refine va_iast hx hb hK hP hD hS 1 0 rfl rfl (by unfold vp_in; decide +kernel) dX19_keep_9 (fun H locs hP hD hS => ?_)
  have hP : va_P (dC, dI) cls [(a0, .inr (16, [.ref a4, .int 0, .ref a5, .ref a2, .ref a6, .ref a7, .int 2, .int 17, .ref a8, .ref a9, .int 0, .int 0, .int 0, .int 0, .int 0, .int 0, .int 0, .int 0, .int 0, .int 0, .int 2147483647, .int 0, .int 2147483647])), (a6, .inl (k11, 610, .inl (upd F10 (Int32.toNatClampNeg 2) 13))), (a7, .inl (k13, 610, .inl F12))] H := hP
  have hD : va_D A [(a0, .inr (16, [.ref a4, .int 0, .ref a5, .ref a2, .ref a6, .ref a7, .int 2, .int 17, .ref a8, .ref a9, .int 0, .int 0, .int 0, .int 0, .int 0, .int 0, .int 0, .int 0, .int 0, .int 0, .int 2147483647, .int 0, .int 2147483647])), (a6, .inl (k11, 610, .inl (upd F10 (Int32.toNatClampNeg 2) 13))), (a7, .inl (k13, 610, .inl F12))] := hD
  generalize upd F10 (Int32.toNatClampNeg 2) 13 = f1 at hP hD
  refine lv_aload_n hx hb dX19_keep_10 rfl (lv_at hl 0 rfl) ?_
  refine va_get (D := (dC, dI)) (ci := 16) (v := .ref a7) (C := RX19) (T := TX19) (N := 23) hx hb hts i_X19 hown hK hP 0 rfl rfl 5 (by decide) (hts _ qw405) (fun _ h9 => h9) rfl dX19_keep_11 ?_
  refine lv_aload_n hx hb dX19_keep_14 rfl (lv_at hl 0 rfl) ?_
  refine va_get (D := (dC, dI)) (ci := 16) (v := .int 2) (C := RX19) (T := TX19) (N := 23) hx hb hts i_X19 hown hK hP 0 rfl rfl 6 (by decide) (hts _ qw422) (fun _ h9 => h9) rfl dX19_keep_15 ?_
  refine lv_aload_n hx hb dX19_keep_18 rfl (lv_at hl 0 rfl) ?_
  refine va_get (D := (dC, dI)) (ci := 16) (v := .int 17) (C := RX19) (T := TX19) (N := 23) hx hb hts i_X19 hown hK hP 0 rfl rfl 7 (by decide) (hts _ qw421) (fun _ h9 => h9) rfl dX19_keep_19 ?_
  refine lv_iload_n hx hb dX19_keep_22 rfl (lv_at hl 1 rfl) ?_
  refine lv_isub hx hb dX19_keep_23 ?_
  refine lv_topC (y := 4) (by decide) ?_
  refine va_iast hx hb hK hP hD hS 2 1 rfl rfl (by unfold vp_in; decide +kernel) dX19_keep_24 (fun H locs hP hD hS => ?_)
  have hP : va_P (dC, dI) cls [(a0, .inr (16, [.ref a4, .int 0, .ref a5, .ref a2, .ref a6, .ref a7, .int 2, .int 17, .ref a8, .ref a9, .int 0, .int 0, .int 0, .int 0, .int 0, .int 0, .int 0, .int 0, .int 0, .int 0, .int 2147483647, .int 0, .int 2147483647])), (a6, .inl (k11, 610, .inl f1)), (a7, .inl (k13, 610, .inl (upd F12 (Int32.toNatClampNeg 2) 4)))] H := hP
  have hD : va_D A [(a0, .inr (16, [.ref a4, .int 0, .ref a5, .ref a2, .ref a6, .ref a7, .int 2, .int 17, .ref a8, .ref a9, .int 0, .int 0, .int 0, .int 0, .int 0, .int 0, .int 0, .int 0, .int 0, .int 0, .int 2147483647, .int 0, .int 2147483647])), (a6, .inl (k11, 610, .inl f1)), (a7, .inl (k13, 610, .inl (upd F12 (Int32.toNatClampNeg 2) 4)))] := hD
  generalize upd F12 (Int32.toNatClampNeg 2) 4 = f2 at hP hD
  refine lv_aload_n hx hb dX19_keep_25 rfl (lv_at hl 0 rfl) ?_
  refine lv_dup hx hb dX19_keep_26 rfl ?_
  refine va_get (D := (dC, dI)) (ci := 16) (v := .int 2) (C := RX19) (T := TX19) (N := 23) hx hb hts i_X19 hown hK hP 0 rfl rfl 6 (by decide) (hts _ qw422) (fun _ h9 => h9) rfl dX19_keep_27 ?_
  refine lv_dup_x1 hx hb dX19_keep_30 rfl rfl ?_
  refine lv_iconst (v := 1) hx hb dX19_keep_31 (by decide) ?_
  refine lv_iadd hx hb dX19_keep_32 ?_
  refine lv_topC (y := 3) (by decide) ?_
  refine va_put (D := (dC, dI)) (ci := 16) (v := .int 3) (ty := .int) (C := RX19) (T := TX19) (N := 23) hx hb hts i_X19 tyX19 tyX19_ok nmX19 hown hK hP hD hS 0 rfl rfl 6 (by decide) (hts _ qw422) (fun _ h9 => h9) rfl (by decide +kernel) rfl rfl (Nat.le_of_ble_eq_true rfl) dX19_keep_33 (fun H locs hP hD hS => ?_)
  have hP : va_P (dC, dI) cls [(a0, .inr (16, [.ref a4, .int 0, .ref a5, .ref a2, .ref a6, .ref a7, .int 3, .int 17, .ref a8, .ref a9, .int 0, .int 0, .int 0, .int 0, .int 0, .int 0, .int 0, .int 0, .int 0, .int 0, .int 2147483647, .int 0, .int 2147483647])), (a6, .inl (k11, 610, .inl f1)), (a7, .inl (k13, 610, .inl f2))] H := hP
  have hD : va_D A [(a0, .inr (16, [.ref a4, .int 0, .ref a5, .ref a2, .ref a6, .ref a7, .int 3, .int 17, .ref a8, .ref a9, .int 0, .int 0, .int 0, .int 0, .int 0, .int 0, .int 0, .int 0, .int 0, .int 0, .int 2147483647, .int 0, .int 2147483647])), (a6, .inl (k11, 610, .inl f1)), (a7, .inl (k13, 610, .inl f2))] := hD
  have hP9 : va_P (dC, dI) cls [(a0, .inr (16, [.ref a4, .int 0, .ref a5, .ref a2, .ref a6, .ref a7, .int 3, .int 17, .ref a8, .ref a9, .int 0, .int 0, .int 0, .int 0, .int 0, .int 0, .int 0, .int 0, .int 0, .int 0, .int 2147483647, .int 0, .int 2147483647])), (a6, .inl (k11, 610, .inl f1)), (a7, .inl (k13, 610, .inl f2))] H := hP.sub [0, 1, 2] rfl
  have hD9 : va_D A [(a0, .inr (16, [.ref a4, .int 0, .ref a5, .ref a2, .ref a6, .ref a7, .int 3, .int 17, .ref a8, .ref a9, .int 0, .int 0, .int 0, .int 0, .int 0, .int 0, .int 0, .int 0, .int 0, .int 0, .int 2147483647, .int 0, .int 2147483647])), (a6, .inl (k11, 610, .inl f1)), (a7, .inl (k13, 610, .inl f2))] := hD.sub [0, 1, 2] (by decide) rfl
  have hK9 : va_K (dC, dI) cls [(k11, .int), (k13, .int)] s := hK.sub [0, 1] rfl
  exact W.iret (v := 2) hx hb hr (fun t ht hW => ⟨⟨2, (), rfl, rfl, ⟨f1, f2, ⟨by rw [ht]; exact hP9, va_K.moved hW.alike hK9, hD9⟩⟩⟩, hS.F ht⟩) hS.2.2 dX19_keep_36
set_option maxHeartbeats 4000000 in
set_option maxRecDepth 100000 in
/-- GearboxModel$Reader.keep, from the state that its caller has -/
theorem kX19_keep_n29 {zs : Nat × Nat} (l : Launch) (dC : Nat → ClassId) (dI : Nat → Nat → Nat) (a0 : Nat) (a2 : Nat) (a4 : Nat) (a5 : Nat) (a6 : Nat) (a7 : Nat) (a8 : Nat) (a9 : Nat) (F10 : Nat → Int32) (k11 : ClassId) (F12 : Nat → Int32) (k13 : ClassId) (sz : Nat)  : Met l yX19_keep (wz yX19_keep cX19_keep 2 (Option.some Jvm.ClassFile.FieldType.int)) ({ frames := 0, cells := 0, slots := 0, locals := 0 }) (va_Pc [.ref a0, .int 17] (PRE zs dC dI [(a0, .inr (16, [.ref a4, .int 0, .ref a5, .ref a2, .ref a6, .ref a7, .int 3, .int 20, .ref a8, .ref a9, .int 0, .int 0, .int 0, .int 0, .int 0, .int 0, .int 0, .int 0, .int 0, .int 0, .int 2147483647, .int 0, .int 2147483647])), (a6, .inl (k11, 610, .inl F10)), (a7, .inl (k13, 610, .inl F12))] [(k11, .int), (k13, .int)] sz)) (va_Qi (fun (r : Int32) (_ : Unit) => r = 3) (fun _ t => ∃ (f1 : Nat → Int32), ∃ (f2 : Nat → Int32), POST dC dI [(a0, .inr (16, [.ref a4, .int 0, .ref a5, .ref a2, .ref a6, .ref a7, .int 4, .int 20, .ref a8, .ref a9, .int 0, .int 0, .int 0, .int 0, .int 0, .int 0, .int 0, .int 0, .int 0, .int 0, .int 2147483647, .int 0, .int 2147483647])), (a6, .inl (k11, 610, .inl f1)), (a7, .inl (k13, 610, .inl f2))] [(k11, .int), (k13, .int)] (va_A [(a0, .inr (16, [.ref a4, .int 0, .ref a5, .ref a2, .ref a6, .ref a7, .int 3, .int 20, .ref a8, .ref a9, .int 0, .int 0, .int 0, .int 0, .int 0, .int 0, .int 0, .int 0, .int 0, .int 0, .int 2147483647, .int 0, .int 2147483647])), (a6, .inl (k11, 610, .inl F10)), (a7, .inl (k13, 610, .inl F12))] sz) t) (va_A [(a0, .inr (16, [.ref a4, .int 0, .ref a5, .ref a2, .ref a6, .ref a7, .int 3, .int 20, .ref a8, .ref a9, .int 0, .int 0, .int 0, .int 0, .int 0, .int 0, .int 0, .int 0, .int 0, .int 0, .int 2147483647, .int 0, .int 2147483647])), (a6, .inl (k11, 610, .inl F10)), (a7, .inl (k13, 610, .inl F12))] sz)) 0 0 (va_A [(a0, .inr (16, [.ref a4, .int 0, .ref a5, .ref a2, .ref a6, .ref a7, .int 3, .int 20, .ref a8, .ref a9, .int 0, .int 0, .int 0, .int 0, .int 0, .int 0, .int 0, .int 0, .int 0, .int 0, .int 2147483647, .int 0, .int 2147483647])), (a6, .inl (k11, 610, .inl F10)), (a7, .inl (k13, 610, .inl F12))] sz) := by
  refine Met.ofW (cc := cX19_keep) (maxL := 2) (ret := (Option.some Jvm.ClassFile.FieldType.int)) (by decide) rfl ?_
  intro p e s m args below meth c s₁ B hml hv
  obtain ⟨rfl, hsz, hP, hK, hD0, hE⟩ := hv
  have hx := B.exec
  have hb := B.bytes
  have hr := B.returns
  have hts0 := atoms_spec (ws := wz yX19_keep cX19_keep 2 (Option.some Jvm.ClassFile.FieldType.int)) B.pre
  have hts : ∀ w ∈ gw, w.before _ s = true := fun w h => hts0 w (List.mem_cons_of_mem _ h)
  have hown : s.vm.findClass RX19 = some m.cls := findClass_of_methodNamed B.named
  have hlocks := B.notSynchronized
  subst hsz
  have hD := hD0.self (sz := s.heap.size)
  generalize hAe : va_A [(a0, .inr (16, [.ref a4, .int 0, .ref a5, .ref a2, .ref a6, .ref a7, .int 3, .int 20, .ref a8, .ref a9, .int 0, .int 0, .int 0, .int 0, .int 0, .int 0, .int 0, .int 0, .int 0, .int 0, .int 2147483647, .int 0, .int 2147483647])), (a6, .inl (k11, 610, .inl F10)), (a7, .inl (k13, 610, .inl F12))] s.heap.size = A at hD hE ⊢
  have hA : ∀ q : Nat, s.heap.size ≤ q → A q := fun q h => by rw [← hAe]; exact Or.inr h
  have hS : va_S A s.heap s.heap [] := va_S.rf
  have hP : va_P (dC, dI) cls [(a0, .inr (16, [.ref a4, .int 0, .ref a5, .ref a2, .ref a6, .ref a7, .int 3, .int 20, .ref a8, .ref a9, .int 0, .int 0, .int 0, .int 0, .int 0, .int 0, .int 0, .int 0, .int 0, .int 0, .int 2147483647, .int 0, .int 2147483647])), (a6, .inl (k11, 610, .inl F10)), (a7, .inl (k13, 610, .inl F12))] s.heap := hP
  have hl := lv_entry ([.ref a0, .int 17]) (n := 2) (Nat.le_of_ble_eq_true rfl)
  rw [lg_entry_eq]
  generalize (lg_sl ([.ref a0, .int 17]) ++ List.replicate (2 - (lg_sl ([.ref a0, .int 17])).length) Slot.unset).toArray = ls at hl ⊢
  have hl : lv_has ls 2 [(0, .ref a0), (1, .int 17)] := hl
  refine lv_aload_n hx hb dX19_keep_0 rfl (lv_at hl 0 rfl) ?_
  refine va_get (D := (dC, dI)) (ci := 16) (v := .ref a6) (C := RX19) (T := TX19) (N := 23) hx hb hts i_X19 hown hK hP 0 rfl rfl 4 (by decide) (hts _ qw404) (fun _ h9 => h9) rfl dX19_keep_1 ?_
  refine lv_aload_n hx hb dX19_keep_4 rfl (lv_at hl 0 rfl) ?_
  refine va_get (D := (dC, dI)) (ci := 16) (v := .int 3) (C := RX19) (T := TX19) (N := 23) hx hb hts i_X19 hown hK hP 0 rfl rfl 6 (by decide) (hts _ qw422) (fun _ h9 => h9) rfl dX19_keep_5 ?_
  refine lv_iload_n hx hb dX19_keep_8 rfl (lv_at hl 1 rfl) ?_
  refine va_iast hx hb hK hP hD hS 1 0 rfl rfl (by unfold vp_in; decide +kernel) dX19_keep_9 (fun H locs hP hD hS => ?_)
  have hP : va_P (dC, dI) cls [(a0, .inr (16, [.ref a4, .int 0, .ref a5, .ref a2, .ref a6, .ref a7, .int 3, .int 20, .ref a8, .ref a9, .int 0, .int 0, .int 0, .int 0, .int 0, .int 0, .int 0, .int 0, .int 0, .int 0, .int 2147483647, .int 0, .int 2147483647])), (a6, .inl (k11, 610, .inl (upd F10 (Int32.toNatClampNeg 3) 17))), (a7, .inl (k13, 610, .inl F12))] H := hP
  have hD : va_D A [(a0, .inr (16, [.ref a4, .int 0, .ref a5, .ref a2, .ref a6, .ref a7, .int 3, .int 20, .ref a8, .ref a9, .int 0, .int 0, .int 0, .int 0, .int 0, .int 0, .int 0, .int 0, .int 0, .int 0, .int 2147483647, .int 0, .int 2147483647])), (a6, .inl (k11, 610, .inl (upd F10 (Int32.toNatClampNeg 3) 17))), (a7, .inl (k13, 610, .inl F12))] := hD
  generalize upd F10 (Int32.toNatClampNeg 3) 17 = f1 at hP hD
  refine lv_aload_n hx hb dX19_keep_10 rfl (lv_at hl 0 rfl) ?_
  refine va_get (D := (dC, dI)) (ci := 16) (v := .ref a7) (C := RX19) (T := TX19) (N := 23) hx hb hts i_X19 hown hK hP 0 rfl rfl 5 (by decide) (hts _ qw405) (fun _ h9 => h9) rfl dX19_keep_11 ?_
  refine lv_aload_n hx hb dX19_keep_14 rfl (lv_at hl 0 rfl) ?_
  refine va_get (D := (dC, dI)) (ci := 16) (v := .int 3) (C := RX19) (T := TX19) (N := 23) hx hb hts i_X19 hown hK hP 0 rfl rfl 6 (by decide) (hts _ qw422) (fun _ h9 => h9) rfl dX19_keep_15 ?_
  refine lv_aload_n hx hb dX19_keep_18 rfl (lv_at hl 0 rfl) ?_
  refine va_get (D := (dC, dI)) (ci := 16) (v := .int 20) (C := RX19) (T := TX19) (N := 23) hx hb hts i_X19 hown hK hP 0 rfl rfl 7 (by decide) (hts _ qw421) (fun _ h9 => h9) rfl dX19_keep_19 ?_
  refine lv_iload_n hx hb dX19_keep_22 rfl (lv_at hl 1 rfl) ?_
  refine lv_isub hx hb dX19_keep_23 ?_
  refine lv_topC (y := 3) (by decide) ?_
  refine va_iast hx hb hK hP hD hS 2 1 rfl rfl (by unfold vp_in; decide +kernel) dX19_keep_24 (fun H locs hP hD hS => ?_)
  have hP : va_P (dC, dI) cls [(a0, .inr (16, [.ref a4, .int 0, .ref a5, .ref a2, .ref a6, .ref a7, .int 3, .int 20, .ref a8, .ref a9, .int 0, .int 0, .int 0, .int 0, .int 0, .int 0, .int 0, .int 0, .int 0, .int 0, .int 2147483647, .int 0, .int 2147483647])), (a6, .inl (k11, 610, .inl f1)), (a7, .inl (k13, 610, .inl (upd F12 (Int32.toNatClampNeg 3) 3)))] H := hP
  have hD : va_D A [(a0, .inr (16, [.ref a4, .int 0, .ref a5, .ref a2, .ref a6, .ref a7, .int 3, .int 20, .ref a8, .ref a9, .int 0, .int 0, .int 0, .int 0, .int 0, .int 0, .int 0, .int 0, .int 0, .int 0, .int 2147483647, .int 0, .int 2147483647])), (a6, .inl (k11, 610, .inl f1)), (a7, .inl (k13, 610, .inl (upd F12 (Int32.toNatClampNeg 3) 3)))] := hD
  generalize upd F12 (Int32.toNatClampNeg 3) 3 = f2 at hP hD
  refine lv_aload_n hx hb dX19_keep_25 rfl (lv_at hl 0 rfl) ?_
  refine lv_dup hx hb dX19_keep_26 rfl ?_
  refine va_get (D := (dC, dI)) (ci := 16) (v := .int 3) (C := RX19) (T := TX19) (N := 23) hx hb hts i_X19 hown hK hP 0 rfl rfl 6 (by decide) (hts _ qw422) (fun _ h9 => h9) rfl dX19_keep_27 ?_
  refine lv_dup_x1 hx hb dX19_keep_30 rfl rfl ?_
  refine lv_iconst (v := 1) hx hb dX19_keep_31 (by decide) ?_
  refine lv_iadd hx hb dX19_keep_32 ?_
  refine lv_topC (y := 4) (by decide) ?_
  refine va_put (D := (dC, dI)) (ci := 16) (v := .int 4) (ty := .int) (C := RX19) (T := TX19) (N := 23) hx hb hts i_X19 tyX19 tyX19_ok nmX19 hown hK hP hD hS 0 rfl rfl 6 (by decide) (hts _ qw422) (fun _ h9 => h9) rfl (by decide +kernel) rfl rfl (Nat.le_of_ble_eq_true rfl) dX19_keep_33 (fun H locs hP hD hS => ?_)
  have hP : va_P (dC, dI) cls [(a0, .inr (16, [.ref a4, .int 0, .ref a5, .ref a2, .ref a6, .ref a7, .int 4, .int 20, .ref a8, .ref a9, .int 0, .int 0, .int 0, .int 0, .int 0, .int 0, .int 0, .int 0, .int 0, .int 0, .int 2147483647, .int 0, .int 2147483647])), (a6, .inl (k11, 610, .inl f1)), (a7, .inl (k13, 610, .inl f2))] H := hP
  have hD : va_D A [(a0, .inr (16, [.ref a4, .int 0, .ref a5, .ref a2, .ref a6, .ref a7, .int 4, .int 20, .ref a8, .ref a9, .int 0, .int 0, .int 0, .int 0, .int 0, .int 0, .int 0, .int 0, .int 0, .int 0, .int 2147483647, .int 0, .int 2147483647])), (a6, .inl (k11, 610, .inl f1)), (a7, .inl (k13, 610, .inl f2))] := hD
  have hP9 : va_P (dC, dI) cls [(a0, .inr (16, [.ref a4, .int 0, .ref a5, .ref a2, .ref a6, .ref a7, .int 4, .int 20, .ref a8, .ref a9, .int 0, .int 0, .int 0, .int 0, .int 0, .int 0, .int 0, .int 0, .int 0, .int 0, .int 2147483647, .int 0, .int 2147483647])), (a6, .inl (k11, 610, .inl f1)), (a7, .inl (k13, 610, .inl f2))] H := hP.sub [0, 1, 2] rfl
  have hD9 : va_D A [(a0, .inr (16, [.ref a4, .int 0, .ref a5, .ref a2, .ref a6, .ref a7, .int 4, .int 20, .ref a8, .ref a9, .int 0, .int 0, .int 0, .int 0, .int 0, .int 0, .int 0, .int 0, .int 0, .int 0, .int 2147483647, .int 0, .int 2147483647])), (a6, .inl (k11, 610, .inl f1)), (a7, .inl (k13, 610, .inl f2))] := hD.sub [0, 1, 2] (by decide) rfl
  have hK9 : va_K (dC, dI) cls [(k11, .int), (k13, .int)] s := hK.sub [0, 1] rfl
  exact W.iret (v := 3) hx hb hr (fun t ht hW => ⟨⟨3, (), rfl, rfl, ⟨f1, f2, ⟨by rw [ht]; exact hP9, va_K.moved hW.alike hK9, hD9⟩⟩⟩, hS.F ht⟩) hS.2.2 dX19_keep_36
set_option maxHeartbeats 4000000 in
set_option maxRecDepth 100000 in
/-- GearboxModel$Reader.keep, from the state that its caller has -/
theorem kX19_keep_n30 {zs : Nat × Nat} (l : Launch) (dC : Nat → ClassId) (dI : Nat → Nat → Nat) (a0 : Nat) (a2 : Nat) (a4 : Nat) (a5 : Nat) (a6 : Nat) (a7 : Nat) (a8 : Nat) (a9 : Nat) (F10 : Nat → Int32) (k11 : ClassId) (F12 : Nat → Int32) (k13 : ClassId) (sz : Nat)  : Met l yX19_keep (wz yX19_keep cX19_keep 2 (Option.some Jvm.ClassFile.FieldType.int)) ({ frames := 0, cells := 0, slots := 0, locals := 0 }) (va_Pc [.ref a0, .int 20] (PRE zs dC dI [(a0, .inr (16, [.ref a4, .int 0, .ref a5, .ref a2, .ref a6, .ref a7, .int 4, .int 22, .ref a8, .ref a9, .int 0, .int 0, .int 0, .int 0, .int 0, .int 0, .int 0, .int 0, .int 0, .int 0, .int 2147483647, .int 0, .int 2147483647])), (a6, .inl (k11, 610, .inl F10)), (a7, .inl (k13, 610, .inl F12))] [(k11, .int), (k13, .int)] sz)) (va_Qi (fun (r : Int32) (_ : Unit) => r = 4) (fun _ t => ∃ (f1 : Nat → Int32), ∃ (f2 : Nat → Int32), POST dC dI [(a0, .inr (16, [.ref a4, .int 0, .ref a5, .ref a2, .ref a6, .ref a7, .int 5, .int 22, .ref a8, .ref a9, .int 0, .int 0, .int 0, .int 0, .int 0, .int 0, .int 0, .int 0, .int 0, .int 0, .int 2147483647, .int 0, .int 2147483647])), (a6, .inl (k11, 610, .inl f1)), (a7, .inl (k13, 610, .inl f2))] [(k11, .int), (k13, .int)] (va_A [(a0, .inr (16, [.ref a4, .int 0, .ref a5, .ref a2, .ref a6, .ref a7, .int 4, .int 22, .ref a8, .ref a9, .int 0, .int 0, .int 0, .int 0, .int 0, .int 0, .int 0, .int 0, .int 0, .int 0, .int 2147483647, .int 0, .int 2147483647])), (a6, .inl (k11, 610, .inl F10)), (a7, .inl (k13, 610, .inl F12))] sz) t) (va_A [(a0, .inr (16, [.ref a4, .int 0, .ref a5, .ref a2, .ref a6, .ref a7, .int 4, .int 22, .ref a8, .ref a9, .int 0, .int 0, .int 0, .int 0, .int 0, .int 0, .int 0, .int 0, .int 0, .int 0, .int 2147483647, .int 0, .int 2147483647])), (a6, .inl (k11, 610, .inl F10)), (a7, .inl (k13, 610, .inl F12))] sz)) 0 0 (va_A [(a0, .inr (16, [.ref a4, .int 0, .ref a5, .ref a2, .ref a6, .ref a7, .int 4, .int 22, .ref a8, .ref a9, .int 0, .int 0, .int 0, .int 0, .int 0, .int 0, .int 0, .int 0, .int 0, .int 0, .int 2147483647, .int 0, .int 2147483647])), (a6, .inl (k11, 610, .inl F10)), (a7, .inl (k13, 610, .inl F12))] sz) := by
  refine Met.ofW (cc := cX19_keep) (maxL := 2) (ret := (Option.some Jvm.ClassFile.FieldType.int)) (by decide) rfl ?_
  intro p e s m args below meth c s₁ B hml hv
  obtain ⟨rfl, hsz, hP, hK, hD0, hE⟩ := hv
  have hx := B.exec
  have hb := B.bytes
  have hr := B.returns
  have hts0 := atoms_spec (ws := wz yX19_keep cX19_keep 2 (Option.some Jvm.ClassFile.FieldType.int)) B.pre
  have hts : ∀ w ∈ gw, w.before _ s = true := fun w h => hts0 w (List.mem_cons_of_mem _ h)
  have hown : s.vm.findClass RX19 = some m.cls := findClass_of_methodNamed B.named
  have hlocks := B.notSynchronized
  subst hsz
  have hD := hD0.self (sz := s.heap.size)
  generalize hAe : va_A [(a0, .inr (16, [.ref a4, .int 0, .ref a5, .ref a2, .ref a6, .ref a7, .int 4, .int 22, .ref a8, .ref a9, .int 0, .int 0, .int 0, .int 0, .int 0, .int 0, .int 0, .int 0, .int 0, .int 0, .int 2147483647, .int 0, .int 2147483647])), (a6, .inl (k11, 610, .inl F10)), (a7, .inl (k13, 610, .inl F12))] s.heap.size = A at hD hE ⊢
  have hA : ∀ q : Nat, s.heap.size ≤ q → A q := fun q h => by rw [← hAe]; exact Or.inr h
  have hS : va_S A s.heap s.heap [] := va_S.rf
  have hP : va_P (dC, dI) cls [(a0, .inr (16, [.ref a4, .int 0, .ref a5, .ref a2, .ref a6, .ref a7, .int 4, .int 22, .ref a8, .ref a9, .int 0, .int 0, .int 0, .int 0, .int 0, .int 0, .int 0, .int 0, .int 0, .int 0, .int 2147483647, .int 0, .int 2147483647])), (a6, .inl (k11, 610, .inl F10)), (a7, .inl (k13, 610, .inl F12))] s.heap := hP
  have hl := lv_entry ([.ref a0, .int 20]) (n := 2) (Nat.le_of_ble_eq_true rfl)
  rw [lg_entry_eq]
  generalize (lg_sl ([.ref a0, .int 20]) ++ List.replicate (2 - (lg_sl ([.ref a0, .int 20])).length) Slot.unset).toArray = ls at hl ⊢
  have hl : lv_has ls 2 [(0, .ref a0), (1, .int 20)] := hl
  refine lv_aload_n hx hb dX19_keep_0 rfl (lv_at hl 0 rfl) ?_
  refine va_get (D := (dC, dI)) (ci := 16) (v := .ref a6) (C := RX19) (T := TX19) (N := 23) hx hb hts i_X19 hown hK hP 0 rfl rfl 4 (by decide) (hts _ qw404) (fun _ h9 => h9) rfl dX19_keep_1 ?_
  refine lv_aload_n hx hb dX19_keep_4 rfl (lv_at hl 0 rfl) ?_
  refine va_get (D := (dC, dI)) (ci := 16) (v := .int 4) (C := RX19) (T := TX19) (N := 23) hx hb hts i_X19 hown hK hP 0 rfl rfl 6 (by decide) (hts _ qw422) (fun _ h9 => h9) rfl dX19_keep_5 ?_
  refine lv_iload_n hx hb dX19_keep_8 rfl (lv_at hl 1 rfl) ?_
  refine va_iast hx hb hK hP hD hS 1 0 rfl rfl (by unfold vp_in; decide +kernel) dX19_keep_9 (fun H locs hP hD hS => ?_)
  have hP : va_P (dC, dI) cls [(a0, .inr (16, [.ref a4, .int 0, .ref a5, .ref a2, .ref a6, .ref a7, .int 4, .int 22, .ref a8, .ref a9, .int 0, .int 0, .int 0, .int 0, .int 0, .int 0, .int 0, .int 0, .int 0, .int 0, .int 2147483647, .int 0, .int 2147483647])), (a6, .inl (k11, 610, .inl (upd F10 (Int32.toNatClampNeg 4) 20))), (a7, .inl (k13, 610, .inl F12))] H := hP
  have hD : va_D A [(a0, .inr (16, [.ref a4, .int 0, .ref a5, .ref a2, .ref a6, .ref a7, .int 4, .int 22, .ref a8, .ref a9, .int 0, .int 0, .int 0, .int 0, .int 0, .int 0, .int 0, .int 0, .int 0, .int 0, .int 2147483647, .int 0, .int 2147483647])), (a6, .inl (k11, 610, .inl (upd F10 (Int32.toNatClampNeg 4) 20))), (a7, .inl (k13, 610, .inl F12))] := hD
  generalize upd F10 (Int32.toNatClampNeg 4) 20 = f1 at hP hD
  refine lv_aload_n hx hb dX19_keep_10 rfl (lv_at hl 0 rfl) ?_
  refine va_get (D := (dC, dI)) (ci := 16) (v := .ref a7) (C := RX19) (T := TX19) (N := 23) hx hb hts i_X19 hown hK hP 0 rfl rfl 5 (by decide) (hts _ qw405) (fun _ h9 => h9) rfl dX19_keep_11 ?_
  refine lv_aload_n hx hb dX19_keep_14 rfl (lv_at hl 0 rfl) ?_
  refine va_get (D := (dC, dI)) (ci := 16) (v := .int 4) (C := RX19) (T := TX19) (N := 23) hx hb hts i_X19 hown hK hP 0 rfl rfl 6 (by decide) (hts _ qw422) (fun _ h9 => h9) rfl dX19_keep_15 ?_
  refine lv_aload_n hx hb dX19_keep_18 rfl (lv_at hl 0 rfl) ?_
  refine va_get (D := (dC, dI)) (ci := 16) (v := .int 22) (C := RX19) (T := TX19) (N := 23) hx hb hts i_X19 hown hK hP 0 rfl rfl 7 (by decide) (hts _ qw421) (fun _ h9 => h9) rfl dX19_keep_19 ?_
  refine lv_iload_n hx hb dX19_keep_22 rfl (lv_at hl 1 rfl) ?_
  refine lv_isub hx hb dX19_keep_23 ?_
  refine lv_topC (y := 2) (by decide) ?_
  refine va_iast hx hb hK hP hD hS 2 1 rfl rfl (by unfold vp_in; decide +kernel) dX19_keep_24 (fun H locs hP hD hS => ?_)
  have hP : va_P (dC, dI) cls [(a0, .inr (16, [.ref a4, .int 0, .ref a5, .ref a2, .ref a6, .ref a7, .int 4, .int 22, .ref a8, .ref a9, .int 0, .int 0, .int 0, .int 0, .int 0, .int 0, .int 0, .int 0, .int 0, .int 0, .int 2147483647, .int 0, .int 2147483647])), (a6, .inl (k11, 610, .inl f1)), (a7, .inl (k13, 610, .inl (upd F12 (Int32.toNatClampNeg 4) 2)))] H := hP
  have hD : va_D A [(a0, .inr (16, [.ref a4, .int 0, .ref a5, .ref a2, .ref a6, .ref a7, .int 4, .int 22, .ref a8, .ref a9, .int 0, .int 0, .int 0, .int 0, .int 0, .int 0, .int 0, .int 0, .int 0, .int 0, .int 2147483647, .int 0, .int 2147483647])), (a6, .inl (k11, 610, .inl f1)), (a7, .inl (k13, 610, .inl (upd F12 (Int32.toNatClampNeg 4) 2)))] := hD
  generalize upd F12 (Int32.toNatClampNeg 4) 2 = f2 at hP hD
  refine lv_aload_n hx hb dX19_keep_25 rfl (lv_at hl 0 rfl) ?_
  refine lv_dup hx hb dX19_keep_26 rfl ?_
  refine va_get (D := (dC, dI)) (ci := 16) (v := .int 4) (C := RX19) (T := TX19) (N := 23) hx hb hts i_X19 hown hK hP 0 rfl rfl 6 (by decide) (hts _ qw422) (fun _ h9 => h9) rfl dX19_keep_27 ?_
  refine lv_dup_x1 hx hb dX19_keep_30 rfl rfl ?_
  refine lv_iconst (v := 1) hx hb dX19_keep_31 (by decide) ?_
  refine lv_iadd hx hb dX19_keep_32 ?_
  refine lv_topC (y := 5) (by decide) ?_
  refine va_put (D := (dC, dI)) (ci := 16) (v := .int 5) (ty := .int) (C := RX19) (T := TX19) (N := 23) hx hb hts i_X19 tyX19 tyX19_ok nmX19 hown hK hP hD hS 0 rfl rfl 6 (by decide) (hts _ qw422) (fun _ h9 => h9) rfl (by decide +kernel) rfl rfl (Nat.le_of_ble_eq_true rfl) dX19_keep_33 (fun H locs hP hD hS => ?_)
  have hP : va_P (dC, dI) cls [(a0, .inr (16, [.ref a4, .int 0, .ref a5, .ref a2, .ref a6, .ref a7, .int 5, .int 22, .ref a8, .ref a9, .int 0, .int 0, .int 0, .int 0, .int 0, .int 0, .int 0, .int 0, .int 0, .int 0, .int 2147483647, .int 0, .int 2147483647])), (a6, .inl (k11, 610, .inl f1)), (a7, .inl (k13, 610, .inl f2))] H := hP
  have hD : va_D A [(a0, .inr (16, [.ref a4, .int 0, .ref a5, .ref a2, .ref a6, .ref a7, .int 5, .int 22, .ref a8, .ref a9, .int 0, .int 0, .int 0, .int 0, .int 0, .int 0, .int 0, .int 0, .int 0, .int 0, .int 2147483647, .int 0, .int 2147483647])), (a6, .inl (k11, 610, .inl f1)), (a7, .inl (k13, 610, .inl f2))] := hD
  have hP9 : va_P (dC, dI) cls [(a0, .inr (16, [.ref a4, .int 0, .ref a5, .ref a2, .ref a6, .ref a7, .int 5, .int 22, .ref a8, .ref a9, .int 0, .int 0, .int 0, .int 0, .int 0, .int 0, .int 0, .int 0, .int 0, .int 0, .int 2147483647, .int 0, .int 2147483647])), (a6, .inl (k11, 610, .inl f1)), (a7, .inl (k13, 610, .inl f2))] H := hP.sub [0, 1, 2] rfl
  have hD9 : va_D A [(a0, .inr (16, [.ref a4, .int 0, .ref a5, .ref a2, .ref a6, .ref a7, .int 5, .int 22, .ref a8, .ref a9, .int 0, .int 0, .int 0, .int 0, .int 0, .int 0, .int 0, .int 0, .int 0, .int 0, .int 2147483647, .int 0, .int 2147483647])), (a6, .inl (k11, 610, .inl f1)), (a7, .inl (k13, 610, .inl f2))] := hD.sub [0, 1, 2] (by decide) rfl
  have hK9 : va_K (dC, dI) cls [(k11, .int), (k13, .int)] s := hK.sub [0, 1] rfl
  exact W.iret (v := 4) hx hb hr (fun t ht hW => ⟨⟨4, (), rfl, rfl, ⟨f1, f2, ⟨by rw [ht]; exact hP9, va_K.moved hW.alike hK9, hD9⟩⟩⟩, hS.F ht⟩) hS.2.2 dX19_keep_36
set_option maxHeartbeats 4000000 in
set_option maxRecDepth 100000 in
/-- GearboxModel$Reader.keep, from the state that its caller has -/
theorem kX19_keep_n31 {zs : Nat × Nat} (l : Launch) (dC : Nat → ClassId) (dI : Nat → Nat → Nat) (a0 : Nat) (a2 : Nat) (a4 : Nat) (a5 : Nat) (a6 : Nat) (a7 : Nat) (a8 : Nat) (a9 : Nat) (F10 : Nat → Int32) (k11 : ClassId) (F12 : Nat → Int32) (k13 : ClassId) (sz : Nat)  : Met l yX19_keep (wz yX19_keep cX19_keep 2 (Option.some Jvm.ClassFile.FieldType.int)) ({ frames := 0, cells := 0, slots := 0, locals := 0 }) (va_Pc [.ref a0, .int 22] (PRE zs dC dI [(a0, .inr (16, [.ref a4, .int 0, .ref a5, .ref a2, .ref a6, .ref a7, .int 5, .int 28, .ref a8, .ref a9, .int 0, .int 0, .int 0, .int 0, .int 0, .int 0, .int 0, .int 0, .int 0, .int 0, .int 2147483647, .int 0, .int 2147483647])), (a6, .inl (k11, 610, .inl F10)), (a7, .inl (k13, 610, .inl F12))] [(k11, .int), (k13, .int)] sz)) (va_Qi (fun (r : Int32) (_ : Unit) => r = 5) (fun _ t => ∃ (f1 : Nat → Int32), ∃ (f2 : Nat → Int32), POST dC dI [(a0, .inr (16, [.ref a4, .int 0, .ref a5, .ref a2, .ref a6, .ref a7, .int 6, .int 28, .ref a8, .ref a9, .int 0, .int 0, .int 0, .int 0, .int 0, .int 0, .int 0, .int 0, .int 0, .int 0, .int 2147483647, .int 0, .int 2147483647])), (a6, .inl (k11, 610, .inl f1)), (a7, .inl (k13, 610, .inl f2))] [(k11, .int), (k13, .int)] (va_A [(a0, .inr (16, [.ref a4, .int 0, .ref a5, .ref a2, .ref a6, .ref a7, .int 5, .int 28, .ref a8, .ref a9, .int 0, .int 0, .int 0, .int 0, .int 0, .int 0, .int 0, .int 0, .int 0, .int 0, .int 2147483647, .int 0, .int 2147483647])), (a6, .inl (k11, 610, .inl F10)), (a7, .inl (k13, 610, .inl F12))] sz) t) (va_A [(a0, .inr (16, [.ref a4, .int 0, .ref a5, .ref a2, .ref a6, .ref a7, .int 5, .int 28, .ref a8, .ref a9, .int 0, .int 0, .int 0, .int 0, .int 0, .int 0, .int 0, .int 0, .int 0, .int 0, .int 2147483647, .int 0, .int 2147483647])), (a6, .inl (k11, 610, .inl F10)), (a7, .inl (k13, 610, .inl F12))] sz)) 0 0 (va_A [(a0, .inr (16, [.ref a4, .int 0, .ref a5, .ref a2, .ref a6, .ref a7, .int 5, .int 28, .ref a8, .ref a9, .int 0, .int 0, .int 0, .int 0, .int 0, .int 0, .int 0, .int 0, .int 0, .int 0, .int 2147483647, .int 0, .int 2147483647])), (a6, .inl (k11, 610, .inl F10)), (a7, .inl (k13, 610, .inl F12))] sz) := by
  refine Met.ofW (cc := cX19_keep) (maxL := 2) (ret := (Option.some Jvm.ClassFile.FieldType.int)) (by decide) rfl ?_
  intro p e s m args below meth c s₁ B hml hv
  obtain ⟨rfl, hsz, hP, hK, hD0, hE⟩ := hv
  have hx := B.exec
  have hb := B.bytes
  have hr := B.returns
  have hts0 := atoms_spec (ws := wz yX19_keep cX19_keep 2 (Option.some Jvm.ClassFile.FieldType.int)) B.pre
  have hts : ∀ w ∈ gw, w.before _ s = true := fun w h => hts0 w (List.mem_cons_of_mem _ h)
  have hown : s.vm.findClass RX19 = some m.cls := findClass_of_methodNamed B.named
  have hlocks := B.notSynchronized
  subst hsz
  have hD := hD0.self (sz := s.heap.size)
  generalize hAe : va_A [(a0, .inr (16, [.ref a4, .int 0, .ref a5, .ref a2, .ref a6, .ref a7, .int 5, .int 28, .ref a8, .ref a9, .int 0, .int 0, .int 0, .int 0, .int 0, .int 0, .int 0, .int 0, .int 0, .int 0, .int 2147483647, .int 0, .int 2147483647])), (a6, .inl (k11, 610, .inl F10)), (a7, .inl (k13, 610, .inl F12))] s.heap.size = A at hD hE ⊢
  have hA : ∀ q : Nat, s.heap.size ≤ q → A q := fun q h => by rw [← hAe]; exact Or.inr h
  have hS : va_S A s.heap s.heap [] := va_S.rf
  have hP : va_P (dC, dI) cls [(a0, .inr (16, [.ref a4, .int 0, .ref a5, .ref a2, .ref a6, .ref a7, .int 5, .int 28, .ref a8, .ref a9, .int 0, .int 0, .int 0, .int 0, .int 0, .int 0, .int 0, .int 0, .int 0, .int 0, .int 2147483647, .int 0, .int 2147483647])), (a6, .inl (k11, 610, .inl F10)), (a7, .inl (k13, 610, .inl F12))] s.heap := hP
  have hl := lv_entry ([.ref a0, .int 22]) (n := 2) (Nat.le_of_ble_eq_true rfl)
  rw [lg_entry_eq]
  generalize (lg_sl ([.ref a0, .int 22]) ++ List.replicate (2 - (lg_sl ([.ref a0, .int 22])).length) Slot.unset).toArray = ls at hl ⊢
  have hl : lv_has ls 2 [(0, .ref a0), (1, .int 22)] := hl
  refine lv_aload_n hx hb dX19_keep_0 rfl (lv_at hl 0 rfl) ?_
  refine va_get (D := (dC, dI)) (ci := 16) (v := .ref a6) (C := RX19) (T := TX19) (N := 23) hx hb hts i_X19 hown hK hP 0 rfl rfl 4 (by decide) (hts _ qw404) (fun _ h9 => h9) rfl dX19_keep_1 ?_
  refine lv_aload_n hx hb dX19_keep_4 rfl (lv_at hl 0 rfl) ?_
  refine va_get (D := (dC, dI)) (ci := 16) (v := .int 5) (C := RX19) (T := TX19) (N := 23) hx hb hts i_X19 hown hK hP 0 rfl rfl 6 (by decide) (hts _ qw422) (fun _ h9 => h9) rfl dX19_keep_5 ?_
  refine lv_iload_n hx hb dX19_keep_8 rfl (lv_at hl 1 rfl) ?_
  refine va_iast hx hb hK hP hD hS 1 0 rfl rfl (by unfold vp_in; decide +kernel) dX19_keep_9 (fun H locs hP hD hS => ?_)
  have hP : va_P (dC, dI) cls [(a0, .inr (16, [.ref a4, .int 0, .ref a5, .ref a2, .ref a6, .ref a7, .int 5, .int 28, .ref a8, .ref a9, .int 0, .int 0, .int 0, .int 0, .int 0, .int 0, .int 0, .int 0, .int 0, .int 0, .int 2147483647, .int 0, .int 2147483647])), (a6, .inl (k11, 610, .inl (upd F10 (Int32.toNatClampNeg 5) 22))), (a7, .inl (k13, 610, .inl F12))] H := hP
  have hD : va_D A [(a0, .inr (16, [.ref a4, .int 0, .ref a5, .ref a2, .ref a6, .ref a7, .int 5, .int 28, .ref a8, .ref a9, .int 0, .int 0, .int 0, .int 0, .int 0, .int 0, .int 0, .int 0, .int 0, .int 0, .int 2147483647, .int 0, .int 2147483647])), (a6, .inl (k11, 610, .inl (upd F10 (Int32.toNatClampNeg 5) 22))), (a7, .inl (k13, 610, .inl F12))] := hD
  generalize upd F10 (Int32.toNatClampNeg 5) 22 = f1 at hP hD
  refine lv_aload_n hx hb dX19_keep_10 rfl (lv_at hl 0 rfl) ?_
  refine va_get (D := (dC, dI)) (ci := 16) (v := .ref a7) (C := RX19) (T := TX19) (N := 23) hx hb hts i_X19 hown hK hP 0 rfl rfl 5 (by decide) (hts _ qw405) (fun _ h9 => h9) rfl dX19_keep_11 ?_
  refine lv_aload_n hx hb dX19_keep_14 rfl (lv_at hl 0 rfl) ?_
  refine va_get (D := (dC, dI)) (ci := 16) (v := .int 5) (C := RX19) (T := TX19) (N := 23) hx hb hts i_X19 hown hK hP 0 rfl rfl 6 (by decide) (hts _ qw422) (fun _ h9 => h9) rfl dX19_keep_15 ?_
  refine lv_aload_n hx hb dX19_keep_18 rfl (lv_at hl 0 rfl) ?_
  refine va_get (D := (dC, dI)) (ci := 16) (v := .int 28) (C := RX19) (T := TX19) (N := 23) hx hb hts i_X19 hown hK hP 0 rfl rfl 7 (by decide) (hts _ qw421) (fun _ h9 => h9) rfl dX19_keep_19 ?_
  refine lv_iload_n hx hb dX19_keep_22 rfl (lv_at hl 1 rfl) ?_
  refine lv_isub hx hb dX19_keep_23 ?_
  refine lv_topC (y := 6) (by decide) ?_
  refine va_iast hx hb hK hP hD hS 2 1 rfl rfl (by unfold vp_in; decide +kernel) dX19_keep_24 (fun H locs hP hD hS => ?_)
  have hP : va_P (dC, dI) cls [(a0, .inr (16, [.ref a4, .int 0, .ref a5, .ref a2, .ref a6, .ref a7, .int 5, .int 28, .ref a8, .ref a9, .int 0, .int 0, .int 0, .int 0, .int 0, .int 0, .int 0, .int 0, .int 0, .int 0, .int 2147483647, .int 0, .int 2147483647])), (a6, .inl (k11, 610, .inl f1)), (a7, .inl (k13, 610, .inl (upd F12 (Int32.toNatClampNeg 5) 6)))] H := hP
  have hD : va_D A [(a0, .inr (16, [.ref a4, .int 0, .ref a5, .ref a2, .ref a6, .ref a7, .int 5, .int 28, .ref a8, .ref a9, .int 0, .int 0, .int 0, .int 0, .int 0, .int 0, .int 0, .int 0, .int 0, .int 0, .int 2147483647, .int 0, .int 2147483647])), (a6, .inl (k11, 610, .inl f1)), (a7, .inl (k13, 610, .inl (upd F12 (Int32.toNatClampNeg 5) 6)))] := hD
  generalize upd F12 (Int32.toNatClampNeg 5) 6 = f2 at hP hD
  refine lv_aload_n hx hb dX19_keep_25 rfl (lv_at hl 0 rfl) ?_
  refine lv_dup hx hb dX19_keep_26 rfl ?_
  refine va_get (D := (dC, dI)) (ci := 16) (v := .int 5) (C := RX19) (T := TX19) (N := 23) hx hb hts i_X19 hown hK hP 0 rfl rfl 6 (by decide) (hts _ qw422) (fun _ h9 => h9) rfl dX19_keep_27 ?_
  refine lv_dup_x1 hx hb dX19_keep_30 rfl rfl ?_
  refine lv_iconst (v := 1) hx hb dX19_keep_31 (by decide) ?_
  refine lv_iadd hx hb dX19_keep_32 ?_
  refine lv_topC (y := 6) (by decide) ?_
  refine va_put (D := (dC, dI)) (ci := 16) (v := .int 6) (ty := .int) (C := RX19) (T := TX19) (N := 23) hx hb hts i_X19 tyX19 tyX19_ok nmX19 hown hK hP hD hS 0 rfl rfl 6 (by decide) (hts _ qw422) (fun _ h9 => h9) rfl (by decide +kernel) rfl rfl (Nat.le_of_ble_eq_true rfl) dX19_keep_33 (fun H locs hP hD hS => ?_)
  have hP : va_P (dC, dI) cls [(a0, .inr (16, [.ref a4, .int 0, .ref a5, .ref a2, .ref a6, .ref a7, .int 6, .int 28, .ref a8, .ref a9, .int 0, .int 0, .int 0, .int 0, .int 0, .int 0, .int 0, .int 0, .int 0, .int 0, .int 2147483647, .int 0, .int 2147483647])), (a6, .inl (k11, 610, .inl f1)), (a7, .inl (k13, 610, .inl f2))] H := hP
  have hD : va_D A [(a0, .inr (16, [.ref a4, .int 0, .ref a5, .ref a2, .ref a6, .ref a7, .int 6, .int 28, .ref a8, .ref a9, .int 0, .int 0, .int 0, .int 0, .int 0, .int 0, .int 0, .int 0, .int 0, .int 0, .int 2147483647, .int 0, .int 2147483647])), (a6, .inl (k11, 610, .inl f1)), (a7, .inl (k13, 610, .inl f2))] := hD
  have hP9 : va_P (dC, dI) cls [(a0, .inr (16, [.ref a4, .int 0, .ref a5, .ref a2, .ref a6, .ref a7, .int 6, .int 28, .ref a8, .ref a9, .int 0, .int 0, .int 0, .int 0, .int 0, .int 0, .int 0, .int 0, .int 0, .int 0, .int 2147483647, .int 0, .int 2147483647])), (a6, .inl (k11, 610, .inl f1)), (a7, .inl (k13, 610, .inl f2))] H := hP.sub [0, 1, 2] rfl
  have hD9 : va_D A [(a0, .inr (16, [.ref a4, .int 0, .ref a5, .ref a2, .ref a6, .ref a7, .int 6, .int 28, .ref a8, .ref a9, .int 0, .int 0, .int 0, .int 0, .int 0, .int 0, .int 0, .int 0, .int 0, .int 0, .int 2147483647, .int 0, .int 2147483647])), (a6, .inl (k11, 610, .inl f1)), (a7, .inl (k13, 610, .inl f2))] := hD.sub [0, 1, 2] (by decide) rfl
  have hK9 : va_K (dC, dI) cls [(k11, .int), (k13, .int)] s := hK.sub [0, 1] rfl
  exact W.iret (v := 5) hx hb hr (fun t ht hW => ⟨⟨5, (), rfl, rfl, ⟨f1, f2, ⟨by rw [ht]; exact hP9, va_K.moved hW.alike hK9, hD9⟩⟩⟩, hS.F ht⟩) hS.2.2 dX19_keep_36
set_option maxHeartbeats 4000000 in
set_option maxRecDepth 100000 in
/-- GearboxModel$Reader.keep, from the state that its caller has -/
theorem kX19_keep_n32 {zs : Nat × Nat} (l : Launch) (dC : Nat → ClassId) (dI : Nat → Nat → Nat) (a0 : Nat) (a2 : Nat) (a4 : Nat) (a5 : Nat) (a6 : Nat) (a7 : Nat) (a8 : Nat) (a9 : Nat) (F10 : Nat → Int32) (k11 : ClassId) (F12 : Nat → Int32) (k13 : ClassId) (sz : Nat)  : Met l yX19_keep (wz yX19_keep cX19_keep 2 (Option.some Jvm.ClassFile.FieldType.int)) ({ frames := 0, cells := 0, slots := 0, locals := 0 }) (va_Pc [.ref a0, .int 28] (PRE zs dC dI [(a0, .inr (16, [.ref a4, .int 0, .ref a5, .ref a2, .ref a6, .ref a7, .int 6, .int 31, .ref a8, .ref a9, .int 0, .int 0, .int 0, .int 0, .int 0, .int 0, .int 0, .int 0, .int 0, .int 0, .int 2147483647, .int 0, .int 2147483647])), (a6, .inl (k11, 610, .inl F10)), (a7, .inl (k13, 610, .inl F12))] [(k11, .int), (k13, .int)] sz)) (va_Qi (fun (r : Int32) (_ : Unit) => r = 6) (fun _ t => ∃ (f1 : Nat → Int32), ∃ (f2 : Nat → Int32), POST dC dI [(a0, .inr (16, [.ref a4, .int 0, .ref a5, .ref a2, .ref a6, .ref a7, .int 7, .int 31, .ref a8, .ref a9, .int 0, .int 0, .int 0, .int 0, .int 0, .int 0, .int 0, .int 0, .int 0, .int 0, .int 2147483647, .int 0, .int 2147483647])), (a6, .inl (k11, 610, .inl f1)), (a7, .inl (k13, 610, .inl f2))] [(k11, .int), (k13, .int)] (va_A [(a0, .inr (16, [.ref a4, .int 0, .ref a5, .ref a2, .ref a6, .ref a7, .int 6, .int 31, .ref a8, .ref a9, .int 0, .int 0, .int 0, .int 0, .int 0, .int 0, .int 0, .int 0, .int 0, .int 0, .int 2147483647, .int 0, .int 2147483647])), (a6, .inl (k11, 610, .inl F10)), (a7, .inl (k13, 610, .inl F12))] sz) t) (va_A [(a0, .inr (16, [.ref a4, .int 0, .ref a5, .ref a2, .ref a6, .ref a7, .int 6, .int 31, .ref a8, .ref a9, .int 0, .int 0, .int 0, .int 0, .int 0, .int 0, .int 0, .int 0, .int 0, .int 0, .int 2147483647, .int 0, .int 2147483647])), (a6, .inl (k11, 610, .inl F10)), (a7, .inl (k13, 610, .inl F12))] sz)) 0 0 (va_A [(a0, .inr (16, [.ref a4, .int 0, .ref a5, .ref a2, .ref a6, .ref a7, .int 6, .int 31, .ref a8, .ref a9, .int 0, .int 0, .int 0, .int 0, .int 0, .int 0, .int 0, .int 0, .int 0, .int 0, .int 2147483647, .int 0, .int 2147483647])), (a6, .inl (k11, 610, .inl F10)), (a7, .inl (k13, 610, .inl F12))] sz) := by
  refine Met.ofW (cc := cX19_keep) (maxL := 2) (ret := (Option.some Jvm.ClassFile.FieldType.int)) (by decide) rfl ?_
  intro p e s m args below meth c s₁ B hml hv
  obtain ⟨rfl, hsz, hP, hK, hD0, hE⟩ := hv
  have hx := B.exec
  have hb := B.bytes
  have hr := B.returns
  have hts0 := atoms_spec (ws := wz yX19_keep cX19_keep 2 (Option.some Jvm.ClassFile.FieldType.int)) B.pre
  have hts : ∀ w ∈ gw, w.before _ s = true := fun w h => hts0 w (List.mem_cons_of_mem _ h)
  have hown : s.vm.findClass RX19 = some m.cls := findClass_of_methodNamed B.named
  have hlocks := B.notSynchronized
  subst hsz
  have hD := hD0.self (sz := s.heap.size)
  generalize hAe : va_A [(a0, .inr (16, [.ref a4, .int 0, .ref a5, .ref a2, .ref a6, .ref a7, .int 6, .int 31, .ref a8, .ref a9, .int 0, .int 0, .int 0, .int 0, .int 0, .int 0, .int 0, .int 0, .int 0, .int 0, .int 2147483647, .int 0, .int 2147483647])), (a6, .inl (k11, 610, .inl F10)), (a7, .inl (k13, 610, .inl F12))] s.heap.size = A at hD hE ⊢
  have hA : ∀ q : Nat, s.heap.size ≤ q → A q := fun q h => by rw [← hAe]; exact Or.inr h
  have hS : va_S A s.heap s.heap [] := va_S.rf
  have hP : va_P (dC, dI) cls [(a0, .inr (16, [.ref a4, .int 0, .ref a5, .ref a2, .ref a6, .ref a7, .int 6, .int 31, .ref a8, .ref a9, .int 0, .int 0, .int 0, .int 0, .int 0, .int 0, .int 0, .int 0, .int 0, .int 0, .int 2147483647, .int 0, .int 2147483647])), (a6, .inl (k11, 610, .inl F10)), (a7, .inl (k13, 610, .inl F12))] s.heap := hP
  have hl := lv_entry ([.ref a0, .int 28]) (n := 2) (Nat.le_of_ble_eq_true rfl)
  rw [lg_entry_eq]
  generalize (lg_sl ([.ref a0, .int 28]) ++ List.replicate (2 - (lg_sl ([.ref a0, .int 28])).length) Slot.unset).toArray = ls at hl ⊢
  have hl : lv_has ls 2 [(0, .ref a0), (1, .int 28)] := hl
  refine lv_aload_n hx hb dX19_keep_0 rfl (lv_at hl 0 rfl) ?_
  refine va_get (D := (dC, dI)) (ci := 16) (v := .ref a6) (C := RX19) (T := TX19) (N := 23) hx hb hts i_X19 hown hK hP 0 rfl rfl 4 (by decide) (hts _ qw404) (fun _ h9 => h9) rfl dX19_keep_1 ?_
  refine lv_aload_n hx hb dX19_keep_4 rfl (lv_at hl 0 rfl) ?_
  refine va_get (D := (dC, dI)) (ci := 16) (v := .int 6) (C := RX19) (T := TX19) (N := 23) hx hb hts i_X19 hown hK hP 0 rfl rfl 6 (by decide) (hts _ qw422) (fun _ h9 => h9) rfl dX19_keep_5 ?_
  refine lv_iload_n hx hb dX19_keep_8 rfl (lv_at hl 1 rfl) ?_
  refine va_iast hx hb hK hP hD hS 1 0 rfl rfl (by unfold vp_in; decide +kernel) dX19_keep_9 (fun H locs hP hD hS => ?_)
  have hP : va_P (dC, dI) cls [(a0, .inr (16, [.ref a4, .int 0, .ref a5, .ref a2, .ref a6, .ref a7, .int 6, .int 31, .ref a8, .ref a9, .int 0, .int 0, .int 0, .int 0, .int 0, .int 0, .int 0, .int 0, .int 0, .int 0, .int 2147483647, .int 0, .int 2147483647])), (a6, .inl (k11, 610, .inl (upd F10 (Int32.toNatClampNeg 6) 28))), (a7, .inl (k13, 610, .inl F12))] H := hP
  have hD : va_D A [(a0, .inr (16, [.ref a4, .int 0, .ref a5, .ref a2, .ref a6, .ref a7, .int 6, .int 31, .ref a8, .ref a9, .int 0, .int 0, .int 0, .int 0, .int 0, .int 0, .int 0, .int 0, .int 0, .int 0, .int 2147483647, .int 0, .int 2147483647])), (a6, .inl (k11, 610, .inl (upd F10 (Int32.toNatClampNeg 6) 28))), (a7, .inl (k13, 610, .inl F12))] := hD
  generalize upd F10 (Int32.toNatClampNeg 6) 28 = f1 at hP hD
  refine lv_aload_n hx hb dX19_keep_10 rfl (lv_at hl 0 rfl) ?_
  refine va_get (D := (dC, dI)) (ci := 16) (v := .ref a7) (C := RX19) (T := TX19) (N := 23) hx hb hts i_X19 hown hK hP 0 rfl rfl 5 (by decide) (hts _ qw405) (fun _ h9 => h9) rfl dX19_keep_11 ?_
  refine lv_aload_n hx hb dX19_keep_14 rfl (lv_at hl 0 rfl) ?_
  refine va_get (D := (dC, dI)) (ci := 16) (v := .int 6) (C := RX19) (T := TX19) (N := 23) hx hb hts i_X19 hown hK hP 0 rfl rfl 6 (by decide) (hts _ qw422) (fun _ h9 => h9) rfl dX19_keep_15 ?_
  refine lv_aload_n hx hb dX19_keep_18 rfl (lv_at hl 0 rfl) ?_
  refine va_get (D := (dC, dI)) (ci := 16) (v := .int 31) (C := RX19) (T := TX19) (N := 23) hx hb hts i_X19 hown hK hP 0 rfl rfl 7 (by decide) (hts _ qw421) (fun _ h9 => h9) rfl dX19_keep_19 ?_
  refine lv_iload_n hx hb dX19_keep_22 rfl (lv_at hl 1 rfl) ?_
  refine lv_isub hx hb dX19_keep_23 ?_
  refine lv_topC (y := 3) (by decide) ?_
  refine va_iast hx hb hK hP hD hS 2 1 rfl rfl (by unfold vp_in; decide +kernel) dX19_keep_24 (fun H locs hP hD hS => ?_)
  have hP : va_P (dC, dI) cls [(a0, .inr (16, [.ref a4, .int 0, .ref a5, .ref a2, .ref a6, .ref a7, .int 6, .int 31, .ref a8, .ref a9, .int 0, .int 0, .int 0, .int 0, .int 0, .int 0, .int 0, .int 0, .int 0, .int 0, .int 2147483647, .int 0, .int 2147483647])), (a6, .inl (k11, 610, .inl f1)), (a7, .inl (k13, 610, .inl (upd F12 (Int32.toNatClampNeg 6) 3)))] H := hP
  have hD : va_D A [(a0, .inr (16, [.ref a4, .int 0, .ref a5, .ref a2, .ref a6, .ref a7, .int 6, .int 31, .ref a8, .ref a9, .int 0, .int 0, .int 0, .int 0, .int 0, .int 0, .int 0, .int 0, .int 0, .int 0, .int 2147483647, .int 0, .int 2147483647])), (a6, .inl (k11, 610, .inl f1)), (a7, .inl (k13, 610, .inl (upd F12 (Int32.toNatClampNeg 6) 3)))] := hD
  generalize upd F12 (Int32.toNatClampNeg 6) 3 = f2 at hP hD
  refine lv_aload_n hx hb dX19_keep_25 rfl (lv_at hl 0 rfl) ?_
  refine lv_dup hx hb dX19_keep_26 rfl ?_
  refine va_get (D := (dC, dI)) (ci := 16) (v := .int 6) (C := RX19) (T := TX19) (N := 23) hx hb hts i_X19 hown hK hP 0 rfl rfl 6 (by decide) (hts _ qw422) (fun _ h9 => h9) rfl dX19_keep_27 ?_
  refine lv_dup_x1 hx hb dX19_keep_30 rfl rfl ?_
  refine lv_iconst (v := 1) hx hb dX19_keep_31 (by decide) ?_
  refine lv_iadd hx hb dX19_keep_32 ?_
  refine lv_topC (y := 7) (by decide) ?_
  refine va_put (D := (dC, dI)) (ci := 16) (v := .int 7) (ty := .int) (C := RX19) (T := TX19) (N := 23) hx hb hts i_X19 tyX19 tyX19_ok nmX19 hown hK hP hD hS 0 rfl rfl 6 (by decide) (hts _ qw422) (fun _ h9 => h9) rfl (by decide +kernel) rfl rfl (Nat.le_of_ble_eq_true rfl) dX19_keep_33 (fun H locs hP hD hS => ?_)
  have hP : va_P (dC, dI) cls [(a0, .inr (16, [.ref a4, .int 0, .ref a5, .ref a2, .ref a6, .ref a7, .int 7, .int 31, .ref a8, .ref a9, .int 0, .int 0, .int 0, .int 0, .int 0, .int 0, .int 0, .int 0, .int 0, .int 0, .int 2147483647, .int 0, .int 2147483647])), (a6, .inl (k11, 610, .inl f1)), (a7, .inl (k13, 610, .inl f2))] H := hP
  have hD : va_D A [(a0, .inr (16, [.ref a4, .int 0, .ref a5, .ref a2, .ref a6, .ref a7, .int 7, .int 31, .ref a8, .ref a9, .int 0, .int 0, .int 0, .int 0, .int 0, .int 0, .int 0, .int 0, .int 0, .int 0, .int 2147483647, .int 0, .int 2147483647])), (a6, .inl (k11, 610, .inl f1)), (a7, .inl (k13, 610, .inl f2))] := hD
  have hP9 : va_P (dC, dI) cls [(a0, .inr (16, [.ref a4, .int 0, .ref a5, .ref a2, .ref a6, .ref a7, .int 7, .int 31, .ref a8, .ref a9, .int 0, .int 0, .int 0, .int 0, .int 0, .int 0, .int 0, .int 0, .int 0, .int 0, .int 2147483647, .int 0, .int 2147483647])), (a6, .inl (k11, 610, .inl f1)), (a7, .inl (k13, 610, .inl f2))] H := hP.sub [0, 1, 2] rfl
  have hD9 : va_D A [(a0, .inr (16, [.ref a4, .int 0, .ref a5, .ref a2, .ref a6, .ref a7, .int 7, .int 31, .ref a8, .ref a9, .int 0, .int 0, .int 0, .int 0, .int 0, .int 0, .int 0, .int 0, .int 0, .int 0, .int 2147483647, .int 0, .int 2147483647])), (a6, .inl (k11, 610, .inl f1)), (a7, .inl (k13, 610, .inl f2))] := hD.sub [0, 1, 2] (by decide) rfl
  have hK9 : va_K (dC, dI) cls [(k11, .int), (k13, .int)] s := hK.sub [0, 1] rfl
  exact W.iret (v := 6) hx hb hr (fun t ht hW => ⟨⟨6, (), rfl, rfl, ⟨f1, f2, ⟨by rw [ht]; exact hP9, va_K.moved hW.alike hK9, hD9⟩⟩⟩, hS.F ht⟩) hS.2.2 dX19_keep_36
set_option maxHeartbeats 4000000 in
set_option maxRecDepth 100000 in
/-- GearboxModel$Reader.keep, from the state that its caller has -/
theorem kX19_keep_n33 {zs : Nat × Nat} (l : Launch) (dC : Nat → ClassId) (dI : Nat → Nat → Nat) (a0 : Nat) (a2 : Nat) (a4 : Nat) (a5 : Nat) (a6 : Nat) (a7 : Nat) (a8 : Nat) (a9 : Nat) (F10 : Nat → Int32) (k11 : ClassId) (F12 : Nat → Int32) (k13 : ClassId) (sz : Nat)  : Met l yX19_keep (wz yX19_keep cX19_keep 2 (Option.some Jvm.ClassFile.FieldType.int)) ({ frames := 0, cells := 0, slots := 0, locals := 0 }) (va_Pc [.ref a0, .int 31] (PRE zs dC dI [(a0, .inr (16, [.ref a4, .int 0, .ref a5, .ref a2, .ref a6, .ref a7, .int 7, .int 36, .ref a8, .ref a9, .int 0, .int 0, .int 0, .int 0, .int 0, .int 0, .int 0, .int 0, .int 0, .int 0, .int 2147483647, .int 0, .int 2147483647])), (a6, .inl (k11, 610, .inl F10)), (a7, .inl (k13, 610, .inl F12))] [(k11, .int), (k13, .int)] sz)) (va_Qi (fun (r : Int32) (_ : Unit) => r = 7) (fun _ t => ∃ (f1 : Nat → Int32), ∃ (f2 : Nat → Int32), POST dC dI [(a0, .inr (16, [.ref a4, .int 0, .ref a5, .ref a2, .ref a6, .ref a7, .int 8, .int 36, .ref a8, .ref a9, .int 0, .int 0, .int 0, .int 0, .int 0, .int 0, .int 0, .int 0, .int 0, .int 0, .int 2147483647, .int 0, .int 2147483647])), (a6, .inl (k11, 610, .inl f1)), (a7, .inl (k13, 610, .inl f2))] [(k11, .int), (k13, .int)] (va_A [(a0, .inr (16, [.ref a4, .int 0, .ref a5, .ref a2, .ref a6, .ref a7, .int 7, .int 36, .ref a8, .ref a9, .int 0, .int 0, .int 0, .int 0, .int 0, .int 0, .int 0, .int 0, .int 0, .int 0, .int 2147483647, .int 0, .int 2147483647])), (a6, .inl (k11, 610, .inl F10)), (a7, .inl (k13, 610, .inl F12))] sz) t) (va_A [(a0, .inr (16, [.ref a4, .int 0, .ref a5, .ref a2, .ref a6, .ref a7, .int 7, .int 36, .ref a8, .ref a9, .int 0, .int 0, .int 0, .int 0, .int 0, .int 0, .int 0, .int 0, .int 0, .int 0, .int 2147483647, .int 0, .int 2147483647])), (a6, .inl (k11, 610, .inl F10)), (a7, .inl (k13, 610, .inl F12))] sz)) 0 0 (va_A [(a0, .inr (16, [.ref a4, .int 0, .ref a5, .ref a2, .ref a6, .ref a7, .int 7, .int 36, .ref a8, .ref a9, .int 0, .int 0, .int 0, .int 0, .int 0, .int 0, .int 0, .int 0, .int 0, .int 0, .int 2147483647, .int 0, .int 2147483647])), (a6, .inl (k11, 610, .inl F10)), (a7, .inl (k13, 610, .inl F12))] sz) := by
  refine Met.ofW (cc := cX19_keep) (maxL := 2) (ret := (Option.some Jvm.ClassFile.FieldType.int)) (by decide) rfl ?_
  intro p e s m args below meth c s₁ B hml hv
  obtain ⟨rfl, hsz, hP, hK, hD0, hE⟩ := hv
  have hx := B.exec
  have hb := B.bytes
  have hr := B.returns
  have hts0 := atoms_spec (ws := wz yX19_keep cX19_keep 2 (Option.some Jvm.ClassFile.FieldType.int)) B.pre
  have hts : ∀ w ∈ gw, w.before _ s = true := fun w h => hts0 w (List.mem_cons_of_mem _ h)
  have hown : s.vm.findClass RX19 = some m.cls := findClass_of_methodNamed B.named
  have hlocks := B.notSynchronized
  subst hsz
  have hD := hD0.self (sz := s.heap.size)
  generalize hAe : va_A [(a0, .inr (16, [.ref a4, .int 0, .ref a5, .ref a2, .ref a6, .ref a7, .int 7, .int 36, .ref a8, .ref a9, .int 0, .int 0, .int 0, .int 0, .int 0, .int 0, .int 0, .int 0, .int 0, .int 0, .int 2147483647, .int 0, .int 2147483647])), (a6, .inl (k11, 610, .inl F10)), (a7, .inl (k13, 610, .inl F12))] s.heap.size = A at hD hE ⊢
  have hA : ∀ q : Nat, s.heap.size ≤ q → A q := fun q h => by rw [← hAe]; exact Or.inr h
  have hS : va_S A s.heap s.heap [] := va_S.rf
  have hP : va_P (dC, dI) cls [(a0, .inr (16, [.ref a4, .int 0, .ref a5, .ref a2, .ref a6, .ref a7, .int 7, .int 36, .ref a8, .ref a9, .int 0, .int 0, .int 0, .int 0, .int 0, .int 0, .int 0, .int 0, .int 0, .int 0, .int 2147483647, .int 0, .int 2147483647])), (a6, .inl (k11, 610, .inl F10)), (a7, .inl (k13, 610, .inl F12))] s.heap := hP
  have hl := lv_entry ([.ref a0, .int 31]) (n := 2) (Nat.le_of_ble_eq_true rfl)
  rw [lg_entry_eq]
  generalize (lg_sl ([.ref a0, .int 31]) ++ List.replicate (2 - (lg_sl ([.ref a0, .int 31])).length) Slot.unset).toArray = ls at hl ⊢
  have hl : lv_has ls 2 [(0, .ref a0), (1, .int 31)] := hl
  refine lv_aload_n hx hb dX19_keep_0 rfl (lv_at hl 0 rfl) ?_
  refine va_get (D := (dC, dI)) (ci := 16) (v := .ref a6) (C := RX19) (T := TX19) (N := 23) hx hb hts i_X19 hown hK hP 0 rfl rfl 4 (by decide) (hts _ qw404) (fun _ h9 => h9) rfl dX19_keep_1 ?_
  refine lv_aload_n hx hb dX19_keep_4 rfl (lv_at hl 0 rfl) ?_
  refine va_get (D := (dC, dI)) (ci := 16) (v := .int 7) (C := RX19) (T := TX19) (N := 23) hx hb hts i_X19 hown hK hP 0 rfl rfl 6 (by decide) (hts _ qw422) (fun _ h9 => h9) rfl dX19_keep_5 ?_
  refine lv_iload_n hx hb dX19_keep_8 rfl (lv_at hl 1 rfl) ?_
  refine va_iast hx hb hK hP hD hS 1 0 rfl rfl (by unfold vp_in; decide +kernel) dX19_keep_9 (fun H locs hP hD hS => ?_)
  have hP : va_P (dC, dI) cls [(a0, .inr (16, [.ref a4, .int 0, .ref a5, .ref a2, .ref a6, .ref a7, .int 7, .int 36, .ref a8, .ref a9, .int 0, .int 0, .int 0, .int 0, .int 0, .int 0, .int 0, .int 0, .int 0, .int 0, .int 2147483647, .int 0, .int 2147483647])), (a6, .inl (k11, 610, .inl (upd F10 (Int32.toNatClampNeg 7) 31))), (a7, .inl (k13, 610, .inl F12))] H := hP
  have hD : va_D A [(a0, .inr (16, [.ref a4, .int 0, .ref a5, .ref a2, .ref a6, .ref a7, .int 7, .int 36, .ref a8, .ref a9, .int 0, .int 0, .int 0, .int 0, .int 0, .int 0, .int 0, .int 0, .int 0, .int 0, .int 2147483647, .int 0, .int 2147483647])), (a6, .inl (k11, 610, .inl (upd F10 (Int32.toNatClampNeg 7) 31))), (a7, .inl (k13, 610, .inl F12))] := hD
  generalize upd F10 (Int32.toNatClampNeg 7) 31 = f1 at hP hD
  refine lv_aload_n hx hb dX19_keep_10 rfl (lv_at hl 0 rfl) ?_
  refine va_get (D := (dC, dI)) (ci := 16) (v := .ref a7) (C := RX19) (T := TX19) (N := 23) hx hb hts i_X19 hown hK hP 0 rfl rfl 5 (by decide) (hts _ qw405) (fun _ h9 => h9) rfl dX19_keep_11 ?_
  refine lv_aload_n hx hb dX19_keep_14 rfl (lv_at hl 0 rfl) ?_
  refine va_get (D := (dC, dI)) (ci := 16) (v := .int 7) (C := RX19) (T := TX19) (N := 23) hx hb hts i_X19 hown hK hP 0 rfl rfl 6 (by decide) (hts _ qw422) (fun _ h9 => h9) rfl dX19_keep_15 ?_
  refine lv_aload_n hx hb dX19_keep_18 rfl (lv_at hl 0 rfl) ?_
  refine va_get (D := (dC, dI)) (ci := 16) (v := .int 36) (C := RX19) (T := TX19) (N := 23) hx hb hts i_X19 hown hK hP 0 rfl rfl 7 (by decide) (hts _ qw421) (fun _ h9 => h9) rfl dX19_keep_19 ?_
  refine lv_iload_n hx hb dX19_keep_22 rfl (lv_at hl 1 rfl) ?_
  refine lv_isub hx hb dX19_keep_23 ?_
  refine lv_topC (y := 5) (by decide) ?_
  refine va_iast hx hb hK hP hD hS 2 1 rfl rfl (by unfold vp_in; decide +kernel) dX19_keep_24 (fun H locs hP hD hS => ?_)
  have hP : va_P (dC, dI) cls [(a0, .inr (16, [.ref a4, .int 0, .ref a5, .ref a2, .ref a6, .ref a7, .int 7, .int 36, .ref a8, .ref a9, .int 0, .int 0, .int 0, .int 0, .int 0, .int 0, .int 0, .int 0, .int 0, .int 0, .int 2147483647, .int 0, .int 2147483647])), (a6, .inl (k11, 610, .inl f1)), (a7, .inl (k13, 610, .inl (upd F12 (Int32.toNatClampNeg 7) 5)))] H := hP
  have hD : va_D A [(a0, .inr (16, [.ref a4, .int 0, .ref a5, .ref a2, .ref a6, .ref a7, .int 7, .int 36, .ref a8, .ref a9, .int 0, .int 0, .int 0, .int 0, .int 0, .int 0, .int 0, .int 0, .int 0, .int 0, .int 2147483647, .int 0, .int 2147483647])), (a6, .inl (k11, 610, .inl f1)), (a7, .inl (k13, 610, .inl (upd F12 (Int32.toNatClampNeg 7) 5)))] := hD
  generalize upd F12 (Int32.toNatClampNeg 7) 5 = f2 at hP hD
  refine lv_aload_n hx hb dX19_keep_25 rfl (lv_at hl 0 rfl) ?_
  refine lv_dup hx hb dX19_keep_26 rfl ?_
  refine va_get (D := (dC, dI)) (ci := 16) (v := .int 7) (C := RX19) (T := TX19) (N := 23) hx hb hts i_X19 hown hK hP 0 rfl rfl 6 (by decide) (hts _ qw422) (fun _ h9 => h9) rfl dX19_keep_27 ?_
  refine lv_dup_x1 hx hb dX19_keep_30 rfl rfl ?_
  refine lv_iconst (v := 1) hx hb dX19_keep_31 (by decide) ?_
  refine lv_iadd hx hb dX19_keep_32 ?_
  refine lv_topC (y := 8) (by decide) ?_
  refine va_put (D := (dC, dI)) (ci := 16) (v := .int 8) (ty := .int) (C := RX19) (T := TX19) (N := 23) hx hb hts i_X19 tyX19 tyX19_ok nmX19 hown hK hP hD hS 0 rfl rfl 6 (by decide) (hts _ qw422) (fun _ h9 => h9) rfl (by decide +kernel) rfl rfl (Nat.le_of_ble_eq_true rfl) dX19_keep_33 (fun H locs hP hD hS => ?_)
  have hP : va_P (dC, dI) cls [(a0, .inr (16, [.ref a4, .int 0, .ref a5, .ref a2, .ref a6, .ref a7, .int 8, .int 36, .ref a8, .ref a9, .int 0, .int 0, .int 0, .int 0, .int 0, .int 0, .int 0, .int 0, .int 0, .int 0, .int 2147483647, .int 0, .int 2147483647])), (a6, .inl (k11, 610, .inl f1)), (a7, .inl (k13, 610, .inl f2))] H := hP
  have hD : va_D A [(a0, .inr (16, [.ref a4, .int 0, .ref a5, .ref a2, .ref a6, .ref a7, .int 8, .int 36, .ref a8, .ref a9, .int 0, .int 0, .int 0, .int 0, .int 0, .int 0, .int 0, .int 0, .int 0, .int 0, .int 2147483647, .int 0, .int 2147483647])), (a6, .inl (k11, 610, .inl f1)), (a7, .inl (k13, 610, .inl f2))] := hD
  have hP9 : va_P (dC, dI) cls [(a0, .inr (16, [.ref a4, .int 0, .ref a5, .ref a2, .ref a6, .ref a7, .int 8, .int 36, .ref a8, .ref a9, .int 0, .int 0, .int 0, .int 0, .int 0, .int 0, .int 0, .int 0, .int 0, .int 0, .int 2147483647, .int 0, .int 2147483647])), (a6, .inl (k11, 610, .inl f1)), (a7, .inl (k13, 610, .inl f2))] H := hP.sub [0, 1, 2] rfl
  have hD9 : va_D A [(a0, .inr (16, [.ref a4, .int 0, .ref a5, .ref a2, .ref a6, .ref a7, .int 8, .int 36, .ref a8, .ref a9, .int 0, .int 0, .int 0, .int 0, .int 0, .int 0, .int 0, .int 0, .int 0, .int 0, .int 2147483647, .int 0, .int 2147483647])), (a6, .inl (k11, 610, .inl f1)), (a7, .inl (k13, 610, .inl f2))] := hD.sub [0, 1, 2] (by decide) rfl
  have hK9 : va_K (dC, dI) cls [(k11, .int), (k13, .int)] s := hK.sub [0, 1] rfl
  exact W.iret (v := 7) hx hb hr (fun t ht hW => ⟨⟨7, (), rfl, rfl, ⟨f1, f2, ⟨by rw [ht]; exact hP9, va_K.moved hW.alike hK9, hD9⟩⟩⟩, hS.F ht⟩) hS.2.2 dX19_keep_36
set_option maxHeartbeats 4000000 in
set_option maxRecDepth 100000 in
theorem kX19_init {zs : Nat × Nat} (l : Launch) (dC : Nat → ClassId) (dI : Nat → Nat → Nat) (h0 : Nat) (h1 : Nat) (sz : Nat)  : Met l yX19_init (wz yX19_init cX19_init 5 (Option.none : Option Jvm.ClassFile.FieldType)) ({ frames := 4, cells := 19, slots := 19730, locals := 85 }) (va_Pc [.ref h0, .ref h1, .int 0] (PRE zs dC dI [(h0, .inr (16, [.null, .int 0, .null, .null, .null, .null, .int 0, .int 0, .null, .null, .int 0, .int 0, .int 0, .int 0, .int 0, .int 0, .int 0, .int 0, .int 0, .int 0, .int 0, .int 0, .int 0]))] [] sz)) (va_Qv (fun (_ : Unit) => True) (fun _ t => ∃ (q1 : Nat), ∃ (q2 : Nat), ∃ (q4 : Nat), ∃ (q6 : Nat), ∃ (q8 : Nat), ∃ (q10 : Nat), POST dC dI [(h0, .inr (16, [.ref h1, .int 0, .ref q1, .ref q2, .ref q4, .ref q6, .int 8, .int 36, .ref q8, .ref q10, .int 0, .int 0, .int 0, .int 0, .int 0, .int 0, .int 0, .int 0, .int 0, .int 0, .int 2147483647, .int 0, .int 2147483647]))] [] (va_A [(h0, .inr (16, [.null, .int 0, .null, .null, .null, .null, .int 0, .int 0, .null, .null, .int 0, .int 0, .int 0, .int 0, .int 0, .int 0, .int 0, .int 0, .int 0, .int 0, .int 0, .int 0, .int 0]))] sz) t) (va_A [(h0, .inr (16, [.null, .int 0, .null, .null, .null, .null, .int 0, .int 0, .null, .null, .int 0, .int 0, .int 0, .int 0, .int 0, .int 0, .int 0, .int 0, .int 0, .int 0, .int 0, .int 0, .int 0]))] sz)) 19 19730 (va_A [(h0, .inr (16, [.null, .int 0, .null, .null, .null, .null, .int 0, .int 0, .null, .null, .int 0, .int 0, .int 0, .int 0, .int 0, .int 0, .int 0, .int 0, .int 0, .int 0, .int 0, .int 0, .int 0]))] sz) := by
  refine Met.ofW (cc := cX19_init) (maxL := 5) (ret := (Option.none : Option Jvm.ClassFile.FieldType)) (by decide) rfl ?_
  intro p e s m args below meth c s₁ B hml hv
  obtain ⟨rfl, hsz, hP, hK, hD0, hE⟩ := hv
  have hx := B.exec
  have hb := B.bytes
  have hr := B.returns
  have hts0 := atoms_spec (ws := wz yX19_init cX19_init 5 (Option.none : Option Jvm.ClassFile.FieldType)) B.pre
  have hts : ∀ w ∈ gw, w.before _ s = true := fun w h => hts0 w (List.mem_cons_of_mem _ h)
  have hown : s.vm.findClass RX19 = some m.cls := findClass_of_methodNamed B.named
  have hlocks := B.notSynchronized
  have hin : meth.name = "<init>" := (name_of_methodNamed B.named B.method).1
  subst hsz
  have hD := hD0.self (sz := s.heap.size)
  generalize hAe : va_A [(h0, .inr (16, [.null, .int 0, .null, .null, .null, .null, .int 0, .int 0, .null, .null, .int 0, .int 0, .int 0, .int 0, .int 0, .int 0, .int 0, .int 0, .int 0, .int 0, .int 0, .int 0, .int 0]))] s.heap.size = A at hD hE ⊢
  have hA : ∀ q : Nat, s.heap.size ≤ q → A q := fun q h => by rw [← hAe]; exact Or.inr h
  have hS : va_S A s.heap s.heap [] := va_S.rf
  have hP : va_P (dC, dI) cls [(h0, .inr (16, [.null, .int 0, .null, .null, .null, .null, .int 0, .int 0, .null, .null, .int 0, .int 0, .int 0, .int 0, .int 0, .int 0, .int 0, .int 0, .int 0, .int 0, .int 0, .int 0, .int 0]))] s.heap := hP
  have hl := lv_entry ([.ref h0, .ref h1, .int 0]) (n := 5) (Nat.le_of_ble_eq_true rfl)
  rw [lg_entry_eq]
  generalize (lg_sl ([.ref h0, .ref h1, .int 0]) ++ List.replicate (5 - (lg_sl ([.ref h0, .ref h1, .int 0])).length) Slot.unset).toArray = ls at hl ⊢
  have hl : lv_has ls 5 [(0, .ref h0), (1, .ref h1), (2, .int 0)] := hl
  refine lv_aload_n hx hb dX19_init_0 rfl (lv_at hl 0 rfl) ?_
  refine W.objInit hx hb hown (hts _ qw400) (hts _ qw1) (hts _ qw_oi) rfl (by rw [hml]; exact hl.1) rfl dX19_init_1 (Nat.le_of_ble_eq_true rfl) (Nat.le_of_ble_eq_true rfl) ?_
  refine W.eq (g2 := F0 m 4 ls []) rfl ?_
  refine lv_aload_n hx hb dX19_init_4 rfl (lv_at hl 0 rfl) ?_
  refine va_new (ci := 13) (fs := [.int 0, .null, .null, .null, .null, .null, .null, .null, .null, .int 0, .null, .null, .null, .null, .null]) (C := RX22) (T := TX22) (N := 15) hx hb hts i_X22 tyX22 tyX22_ok hown (hts _ qw401) (hts _ qw384) (hts _ qw385) hK hP hD hS hA rfl df_X22 (Nat.le_of_ble_eq_true rfl) (Nat.le_of_ble_eq_true rfl) dX19_init_5 (fun q1 H hP hD hS => ?_)
  have hP : va_P (dC, dI) cls [(h0, .inr (16, [.null, .int 0, .null, .null, .null, .null, .int 0, .int 0, .null, .null, .int 0, .int 0, .int 0, .int 0, .int 0, .int 0, .int 0, .int 0, .int 0, .int 0, .int 0, .int 0, .int 0])), (q1, .inr (13, [.int 0, .null, .null, .null, .null, .null, .null, .null, .null, .int 0, .null, .null, .null, .null, .null]))] H := hP
  have hD : va_D A [(h0, .inr (16, [.null, .int 0, .null, .null, .null, .null, .int 0, .int 0, .null, .null, .int 0, .int 0, .int 0, .int 0, .int 0, .int 0, .int 0, .int 0, .int 0, .int 0, .int 0, .int 0, .int 0])), (q1, .inr (13, [.int 0, .null, .null, .null, .null, .null, .null, .null, .null, .int 0, .null, .null, .null, .null, .null]))] := hD
  refine W.widen (k := 1) (n := 15) (Nat.le_of_ble_eq_true rfl) (Nat.le_of_ble_eq_true rfl) ?_
  refine lv_dup hx hb dX19_init_8 rfl ?_
  have hPc := hP.sub (ws' := [(q1, .inr (13, [.int 0, .null, .null, .null, .null, .null, .null, .null, .null, .int 0, .null, .null, .null, .null, .null]))]) [1] rfl
  have hDc := hD.sub (ws' := [(q1, .inr (13, [.int 0, .null, .null, .null, .null, .null, .null, .null, .null, .int 0, .null, .null, .null, .null, .null]))]) [1] (by decide) rfl
  have hKc := hK.sub (tys' := []) [] rfl
  have hFc := va_free (wc := [(q1, .inr (13, [.int 0, .null, .null, .null, .null, .null, .null, .null, .null, .int 0, .null, .null, .null, .null, .null]))]) hD hS hA [1] rfl
  refine va_callv (va_runIN (As := []) (rest := [.ref q1, .ref h0]) ⟨hx, hb, hml, hown, hts⟩ (kX22_init l dC dI (h0 := q1) (sz := _)) ⟨(va_cnB 0 hts (gi_z qw386) rfl rfl rfl (hE.nw (List.mem_append_right _ (tbl_12 (i := 171) rfl)) rfl) (hts _ qw385) (by decide +kernel) ⟨Nat.le_of_ble_eq_true rfl, Nat.le_of_ble_eq_true rfl⟩), rfl, (hts _ qw387)⟩ ⟨PRE.blind, PRE.of hE hS hFc hPc hKc hDc⟩ rfl rfl hl.1 rfl (lv_room (Nat.le_of_ble_eq_true rfl)) dX19_init_9 ⟨Nat.le_of_ble_eq_true rfl, Nat.le_of_ble_eq_true rfl⟩) hS (fun q _ h => hFc q h) hFc (fun u t H locs ht hvm hw hB hz1 hk1 hS => ?_)
  obtain ⟨hP, hD, hK⟩ := JOIN (wr := [(h0, .inr (16, [.null, .int 0, .null, .null, .null, .null, .int 0, .int 0, .null, .null, .int 0, .int 0, .int 0, .int 0, .int 0, .int 0, .int 0, .int 0, .int 0, .int 0, .int 0, .int 0, .int 0]))]) hP hD hK [1] [0] [] rfl rfl (by decide) (by decide) rfl hk1 hFc ht hvm hB
  have hP : va_P (dC, dI) cls [(h0, .inr (16, [.null, .int 0, .null, .null, .null, .null, .int 0, .int 0, .null, .null, .int 0, .int 0, .int 0, .int 0, .int 0, .int 0, .int 0, .int 0, .int 0, .int 0, .int 0, .int 0, .int 0]))] H := hP
  have hD : va_D A [(h0, .inr (16, [.null, .int 0, .null, .null, .null, .null, .int 0, .int 0, .null, .null, .int 0, .int 0, .int 0, .int 0, .int 0, .int 0, .int 0, .int 0, .int 0, .int 0, .int 0, .int 0, .int 0]))] := hD
  have hK : va_K (dC, dI) cls [] s := hK
  refine W.widen (k := 14) (n := 16050) (Nat.le_of_ble_eq_true rfl) (Nat.le_of_ble_eq_true rfl) ?_
  refine va_putF (D := (dC, dI)) (ci := 16) (v := .ref q1) (ty := .object "GearboxModel$Text") (C := RX19) (T := TX19) (N := 23) hx hb hts i_X19 tyX19 tyX19_ok nmX19 hown hK hP hD hS 0 rfl rfl 2 (by decide) (hts _ qw402) (fun _ h9 => h9) rfl hin rfl (by decide +kernel) rfl rfl (Nat.le_of_ble_eq_true rfl) dX19_init_12 (fun H locs hP hD hS => ?_)
  have hP : va_P (dC, dI) cls [(h0, .inr (16, [.null, .int 0, .ref q1, .null, .null, .null, .int 0, .int 0, .null, .null, .int 0, .int 0, .int 0, .int 0, .int 0, .int 0, .int 0, .int 0, .int 0, .int 0, .int 0, .int 0, .int 0]))] H := hP
  have hD : va_D A [(h0, .inr (16, [.null, .int 0, .ref q1, .null, .null, .null, .int 0, .int 0, .null, .null, .int 0, .int 0, .int 0, .int 0, .int 0, .int 0, .int 0, .int 0, .int 0, .int 0, .int 0, .int 0, .int 0]))] := hD
  refine lv_aload_n hx hb dX19_init_15 rfl (lv_at hl 0 rfl) ?_
  refine lv_sipush (v := 1260) hx hb dX19_init_16 (by decide) ?_
  refine va_newa (atype := .int) (ty := .int) hx hb (hts _ qw2) rfl hK hP hD hS hA (a0 := (1260, .inl (fun _ => 0))) (fun _ => rfl) (by decide) (by decide +kernel) (Nat.le_of_ble_eq_true rfl) (Nat.le_of_ble_eq_true rfl) (Nat.le_of_ble_eq_true rfl) dX19_init_19 (fun q2 c3 H hK hP hD hS => ?_)
  have hP : va_P (dC, dI) cls [(h0, .inr (16, [.null, .int 0, .ref q1, .null, .null, .null, .int 0, .int 0, .null, .null, .int 0, .int 0, .int 0, .int 0, .int 0, .int 0, .int 0, .int 0, .int 0, .int 0, .int 0, .int 0, .int 0])), (q2, .inl (c3, 1260, .inl (fun _ => 0)))] H := hP
  have hD : va_D A [(h0, .inr (16, [.null, .int 0, .ref q1, .null, .null, .null, .int 0, .int 0, .null, .null, .int 0, .int 0, .int 0, .int 0, .int 0, .int 0, .int 0, .int 0, .int 0, .int 0, .int 0, .int 0, .int 0])), (q2, .inl (c3, 1260, .inl (fun _ => 0)))] := hD
  have hK : va_K (dC, dI) cls [(c3, .int)] s := hK
  refine W.widen (k := 15) (n := 17310) (Nat.le_of_ble_eq_true rfl) (Nat.le_of_ble_eq_true rfl) ?_
  refine va_putF (D := (dC, dI)) (ci := 16) (v := .ref q2) (ty := .array .int) (C := RX19) (T := TX19) (N := 23) hx hb hts i_X19 tyX19 tyX19_ok nmX19 hown hK hP hD hS 0 rfl rfl 3 (by decide) (hts _ qw403) (fun _ h9 => h9) rfl hin rfl (by decide +kernel) rfl rfl (Nat.le_of_ble_eq_true rfl) dX19_init_21 (fun H locs hP hD hS => ?_)
  have hP : va_P (dC, dI) cls [(h0, .inr (16, [.null, .int 0, .ref q1, .ref q2, .null, .null, .int 0, .int 0, .null, .null, .int 0, .int 0, .int 0, .int 0, .int 0, .int 0, .int 0, .int 0, .int 0, .int 0, .int 0, .int 0, .int 0])), (q2, .inl (c3, 1260, .inl (fun _ => 0)))] H := hP
  have hD : va_D A [(h0, .inr (16, [.null, .int 0, .ref q1, .ref q2, .null, .null, .int 0, .int 0, .null, .null, .int 0, .int 0, .int 0, .int 0, .int 0, .int 0, .int 0, .int 0, .int 0, .int 0, .int 0, .int 0, .int 0])), (q2, .inl (c3, 1260, .inl (fun _ => 0)))] := hD
  refine lv_aload_n hx hb dX19_init_24 rfl (lv_at hl 0 rfl) ?_
  refine lv_sipush (v := 610) hx hb dX19_init_25 (by decide) ?_
  refine va_newa (atype := .int) (ty := .int) hx hb (hts _ qw2) rfl hK hP hD hS hA (a0 := (610, .inl (fun _ => 0))) (fun _ => rfl) (by decide) (by decide +kernel) (Nat.le_of_ble_eq_true rfl) (Nat.le_of_ble_eq_true rfl) (Nat.le_of_ble_eq_true rfl) dX19_init_28 (fun q4 c5 H hK hP hD hS => ?_)
  have hP : va_P (dC, dI) cls [(h0, .inr (16, [.null, .int 0, .ref q1, .ref q2, .null, .null, .int 0, .int 0, .null, .null, .int 0, .int 0, .int 0, .int 0, .int 0, .int 0, .int 0, .int 0, .int 0, .int 0, .int 0, .int 0, .int 0])), (q2, .inl (c3, 1260, .inl (fun _ => 0))), (q4, .inl (c5, 610, .inl (fun _ => 0)))] H := hP
  have hD : va_D A [(h0, .inr (16, [.null, .int 0, .ref q1, .ref q2, .null, .null, .int 0, .int 0, .null, .null, .int 0, .int 0, .int 0, .int 0, .int 0, .int 0, .int 0, .int 0, .int 0, .int 0, .int 0, .int 0, .int 0])), (q2, .inl (c3, 1260, .inl (fun _ => 0))), (q4, .inl (c5, 610, .inl (fun _ => 0)))] := hD
  have hK : va_K (dC, dI) cls [(c3, .int), (c5, .int)] s := hK
  refine W.widen (k := 16) (n := 17920) (Nat.le_of_ble_eq_true rfl) (Nat.le_of_ble_eq_true rfl) ?_
  refine va_putF (D := (dC, dI)) (ci := 16) (v := .ref q4) (ty := .array .int) (C := RX19) (T := TX19) (N := 23) hx hb hts i_X19 tyX19 tyX19_ok nmX19 hown hK hP hD hS 0 rfl rfl 4 (by decide) (hts _ qw404) (fun _ h9 => h9) rfl hin rfl (by decide +kernel) rfl rfl (Nat.le_of_ble_eq_true rfl) dX19_init_30 (fun H locs hP hD hS => ?_)
  have hP : va_P (dC, dI) cls [(h0, .inr (16, [.null, .int 0, .ref q1, .ref q2, .ref q4, .null, .int 0, .int 0, .null, .null, .int 0, .int 0, .int 0, .int 0, .int 0, .int 0, .int 0, .int 0, .int 0, .int 0, .int 0, .int 0, .int 0])), (q2, .inl (c3, 1260, .inl (fun _ => 0))), (q4, .inl (c5, 610, .inl (fun _ => 0)))] H := hP
  have hD : va_D A [(h0, .inr (16, [.null, .int 0, .ref q1, .ref q2, .ref q4, .null, .int 0, .int 0, .null, .null, .int 0, .int 0, .int 0, .int 0, .int 0, .int 0, .int 0, .int 0, .int 0, .int 0, .int 0, .int 0, .int 0])), (q2, .inl (c3, 1260, .inl (fun _ => 0))), (q4, .inl (c5, 610, .inl (fun _ => 0)))] := hD
  refine lv_aload_n hx hb dX19_init_33 rfl (lv_at hl 0 rfl) ?_
  refine lv_sipush (v := 610) hx hb dX19_init_34 (by decide) ?_
  refine va_newa (atype := .int) (ty := .int) hx hb (hts _ qw2) rfl hK hP hD hS hA (a0 := (610, .inl (fun _ => 0))) (fun _ => rfl) (by decide) (by decide +kernel) (Nat.le_of_ble_eq_true rfl) (Nat.le_of_ble_eq_true rfl) (Nat.le_of_ble_eq_true rfl) dX19_init_37 (fun q6 c7 H hK hP hD hS => ?_)
  have hP : va_P (dC, dI) cls [(h0, .inr (16, [.null, .int 0, .ref q1, .ref q2, .ref q4, .null, .int 0, .int 0, .null, .null, .int 0, .int 0, .int 0, .int 0, .int 0, .int 0, .int 0, .int 0, .int 0, .int 0, .int 0, .int 0, .int 0])), (q2, .inl (c3, 1260, .inl (fun _ => 0))), (q4, .inl (c5, 610, .inl (fun _ => 0))), (q6, .inl (c7, 610, .inl (fun _ => 0)))] H := hP
  have hD : va_D A [(h0, .inr (16, [.null, .int 0, .ref q1, .ref q2, .ref q4, .null, .int 0, .int 0, .null, .null, .int 0, .int 0, .int 0, .int 0, .int 0, .int 0, .int 0, .int 0, .int 0, .int 0, .int 0, .int 0, .int 0])), (q2, .inl (c3, 1260, .inl (fun _ => 0))), (q4, .inl (c5, 610, .inl (fun _ => 0))), (q6, .inl (c7, 610, .inl (fun _ => 0)))] := hD
  have hK : va_K (dC, dI) cls [(c3, .int), (c5, .int), (c7, .int)] s := hK
  refine W.widen (k := 17) (n := 18530) (Nat.le_of_ble_eq_true rfl) (Nat.le_of_ble_eq_true rfl) ?_
  refine va_putF (D := (dC, dI)) (ci := 16) (v := .ref q6) (ty := .array .int) (C := RX19) (T := TX19) (N := 23) hx hb hts i_X19 tyX19 tyX19_ok nmX19 hown hK hP hD hS 0 rfl rfl 5 (by decide) (hts _ qw405) (fun _ h9 => h9) rfl hin rfl (by decide +kernel) rfl rfl (Nat.le_of_ble_eq_true rfl) dX19_init_39 (fun H locs hP hD hS => ?_)
  have hP : va_P (dC, dI) cls [(h0, .inr (16, [.null, .int 0, .ref q1, .ref q2, .ref q4, .ref q6, .int 0, .int 0, .null, .null, .int 0, .int 0, .int 0, .int 0, .int 0, .int 0, .int 0, .int 0, .int 0, .int 0, .int 0, .int 0, .int 0])), (q2, .inl (c3, 1260, .inl (fun _ => 0))), (q4, .inl (c5, 610, .inl (fun _ => 0))), (q6, .inl (c7, 610, .inl (fun _ => 0)))] H := hP
  have hD : va_D A [(h0, .inr (16, [.null, .int 0, .ref q1, .ref q2, .ref q4, .ref q6, .int 0, .int 0, .null, .null, .int 0, .int 0, .int 0, .int 0, .int 0, .int 0, .int 0, .int 0, .int 0, .int 0, .int 0, .int 0, .int 0])), (q2, .inl (c3, 1260, .inl (fun _ => 0))), (q4, .inl (c5, 610, .inl (fun _ => 0))), (q6, .inl (c7, 610, .inl (fun _ => 0)))] := hD
  refine lv_aload_n hx hb dX19_init_42 rfl (lv_at hl 0 rfl) ?_
  refine lv_sipush (v := 600) hx hb dX19_init_43 (by decide) ?_
  refine va_newa (atype := .int) (ty := .int) hx hb (hts _ qw2) rfl hK hP hD hS hA (a0 := (600, .inl (fun _ => 0))) (fun _ => rfl) (by decide) (by decide +kernel) (Nat.le_of_ble_eq_true rfl) (Nat.le_of_ble_eq_true rfl) (Nat.le_of_ble_eq_true rfl) dX19_init_46 (fun q8 c9 H hK hP hD hS => ?_)
  have hP : va_P (dC, dI) cls [(h0, .inr (16, [.null, .int 0, .ref q1, .ref q2, .ref q4, .ref q6, .int 0, .int 0, .null, .null, .int 0, .int 0, .int 0, .int 0, .int 0, .int 0, .int 0, .int 0, .int 0, .int 0, .int 0, .int 0, .int 0])), (q2, .inl (c3, 1260, .inl (fun _ => 0))), (q4, .inl (c5, 610, .inl (fun _ => 0))), (q6, .inl (c7, 610, .inl (fun _ => 0))), (q8, .inl (c9, 600, .inl (fun _ => 0)))] H := hP
  have hD : va_D A [(h0, .inr (16, [.null, .int 0, .ref q1, .ref q2, .ref q4, .ref q6, .int 0, .int 0, .null, .null, .int 0, .int 0, .int 0, .int 0, .int 0, .int 0, .int 0, .int 0, .int 0, .int 0, .int 0, .int 0, .int 0])), (q2, .inl (c3, 1260, .inl (fun _ => 0))), (q4, .inl (c5, 610, .inl (fun _ => 0))), (q6, .inl (c7, 610, .inl (fun _ => 0))), (q8, .inl (c9, 600, .inl (fun _ => 0)))] := hD
  have hK : va_K (dC, dI) cls [(c3, .int), (c5, .int), (c7, .int), (c9, .int)] s := hK
  have hP : va_P (dC, dI) cls [(h0, .inr (16, [.null, .int 0, .ref q1, .ref q2, .ref q4, .ref q6, .int 0, .int 0, .null, .null, .int 0, .int 0, .int 0, .int 0, .int 0, .int 0, .int 0, .int 0, .int 0, .int 0, .int 0, .int 0, .int 0])), (q2, .inl (c3, 1260, .inl (fun _ => 0))), (q4, .inl (c5, 610, .inl (fun _ => 0))), (q6, .inl (c7, 610, .inl (fun _ => 0)))] H := hP.sub [0, 1, 2, 3] rfl
  have hD : va_D A [(h0, .inr (16, [.null, .int 0, .ref q1, .ref q2, .ref q4, .ref q6, .int 0, .int 0, .null, .null, .int 0, .int 0, .int 0, .int 0, .int 0, .int 0, .int 0, .int 0, .int 0, .int 0, .int 0, .int 0, .int 0])), (q2, .inl (c3, 1260, .inl (fun _ => 0))), (q4, .inl (c5, 610, .inl (fun _ => 0))), (q6, .inl (c7, 610, .inl (fun _ => 0)))] := hD.sub [0, 1, 2, 3] (by decide) rfl
  have hK : va_K (dC, dI) cls [(c3, .int), (c5, .int), (c7, .int)] s := hK.sub [0, 1, 2] rfl
  refine W.widen (k := 18) (n := 19130) (Nat.le_of_ble_eq_true rfl) (Nat.le_of_ble_eq_true rfl) ?_
  refine va_putF (D := (dC, dI)) (ci := 16) (v := .ref q8) (ty := .array .int) (C := RX19) (T := TX19) (N := 23) hx hb hts i_X19 tyX19 tyX19_ok nmX19 hown hK hP hD hS 0 rfl rfl 8 (by decide) (hts _ qw406) (fun _ h9 => h9) rfl hin rfl (by decide +kernel) rfl rfl (Nat.le_of_ble_eq_true rfl) dX19_init_48 (fun H locs hP hD hS => ?_)
  have hP : va_P (dC, dI) cls [(h0, .inr (16, [.null, .int 0, .ref q1, .ref q2, .ref q4, .ref q6, .int 0, .int 0, .ref q8, .null, .int 0, .int 0, .int 0, .int 0, .int 0, .int 0, .int 0, .int 0, .int 0, .int 0, .int 0, .int 0, .int 0])), (q2, .inl (c3, 1260, .inl (fun _ => 0))), (q4, .inl (c5, 610, .inl (fun _ => 0))), (q6, .inl (c7, 610, .inl (fun _ => 0)))] H := hP
  have hD : va_D A [(h0, .inr (16, [.null, .int 0, .ref q1, .ref q2, .ref q4, .ref q6, .int 0, .int 0, .ref q8, .null, .int 0, .int 0, .int 0, .int 0, .int 0, .int 0, .int 0, .int 0, .int 0, .int 0, .int 0, .int 0, .int 0])), (q2, .inl (c3, 1260, .inl (fun _ => 0))), (q4, .inl (c5, 610, .inl (fun _ => 0))), (q6, .inl (c7, 610, .inl (fun _ => 0)))] := hD
  refine lv_aload_n hx hb dX19_init_51 rfl (lv_at hl 0 rfl) ?_
  refine lv_sipush (v := 600) hx hb dX19_init_52 (by decide) ?_
  refine va_newa (atype := .int) (ty := .int) hx hb (hts _ qw2) rfl hK hP hD hS hA (a0 := (600, .inl (fun _ => 0))) (fun _ => rfl) (by decide) (by decide +kernel) (Nat.le_of_ble_eq_true rfl) (Nat.le_of_ble_eq_true rfl) (Nat.le_of_ble_eq_true rfl) dX19_init_55 (fun q10 c11 H hK hP hD hS => ?_)
  have hP : va_P (dC, dI) cls [(h0, .inr (16, [.null, .int 0, .ref q1, .ref q2, .ref q4, .ref q6, .int 0, .int 0, .ref q8, .null, .int 0, .int 0, .int 0, .int 0, .int 0, .int 0, .int 0, .int 0, .int 0, .int 0, .int 0, .int 0, .int 0])), (q2, .inl (c3, 1260, .inl (fun _ => 0))), (q4, .inl (c5, 610, .inl (fun _ => 0))), (q6, .inl (c7, 610, .inl (fun _ => 0))), (q10, .inl (c11, 600, .inl (fun _ => 0)))] H := hP
  have hD : va_D A [(h0, .inr (16, [.null, .int 0, .ref q1, .ref q2, .ref q4, .ref q6, .int 0, .int 0, .ref q8, .null, .int 0, .int 0, .int 0, .int 0, .int 0, .int 0, .int 0, .int 0, .int 0, .int 0, .int 0, .int 0, .int 0])), (q2, .inl (c3, 1260, .inl (fun _ => 0))), (q4, .inl (c5, 610, .inl (fun _ => 0))), (q6, .inl (c7, 610, .inl (fun _ => 0))), (q10, .inl (c11, 600, .inl (fun _ => 0)))] := hD
  have hK : va_K (dC, dI) cls [(c3, .int), (c5, .int), (c7, .int), (c11, .int)] s := hK
  have hP : va_P (dC, dI) cls [(h0, .inr (16, [.null, .int 0, .ref q1, .ref q2, .ref q4, .ref q6, .int 0, .int 0, .ref q8, .null, .int 0, .int 0, .int 0, .int 0, .int 0, .int 0, .int 0, .int 0, .int 0, .int 0, .int 0, .int 0, .int 0])), (q2, .inl (c3, 1260, .inl (fun _ => 0))), (q4, .inl (c5, 610, .inl (fun _ => 0))), (q6, .inl (c7, 610, .inl (fun _ => 0)))] H := hP.sub [0, 1, 2, 3] rfl
  have hD : va_D A [(h0, .inr (16, [.null, .int 0, .ref q1, .ref q2, .ref q4, .ref q6, .int 0, .int 0, .ref q8, .null, .int 0, .int 0, .int 0, .int 0, .int 0, .int 0, .int 0, .int 0, .int 0, .int 0, .int 0, .int 0, .int 0])), (q2, .inl (c3, 1260, .inl (fun _ => 0))), (q4, .inl (c5, 610, .inl (fun _ => 0))), (q6, .inl (c7, 610, .inl (fun _ => 0)))] := hD.sub [0, 1, 2, 3] (by decide) rfl
  have hK : va_K (dC, dI) cls [(c3, .int), (c5, .int), (c7, .int)] s := hK.sub [0, 1, 2] rfl
  refine W.widen (k := 19) (n := 19730) (Nat.le_of_ble_eq_true rfl) (Nat.le_of_ble_eq_true rfl) ?_
  refine va_putF (D := (dC, dI)) (ci := 16) (v := .ref q10) (ty := .array .int) (C := RX19) (T := TX19) (N := 23) hx hb hts i_X19 tyX19 tyX19_ok nmX19 hown hK hP hD hS 0 rfl rfl 9 (by decide) (hts _ qw407) (fun _ h9 => h9) rfl hin rfl (by decide +kernel) rfl rfl (Nat.le_of_ble_eq_true rfl) dX19_init_57 (fun H locs hP hD hS => ?_)
  have hP : va_P (dC, dI) cls [(h0, .inr (16, [.null, .int 0, .ref q1, .ref q2, .ref q4, .ref q6, .int 0, .int 0, .ref q8, .ref q10, .int 0, .int 0, .int 0, .int 0, .int 0, .int 0, .int 0, .int 0, .int 0, .int 0, .int 0, .int 0, .int 0])), (q2, .inl (c3, 1260, .inl (fun _ => 0))), (q4, .inl (c5, 610, .inl (fun _ => 0))), (q6, .inl (c7, 610, .inl (fun _ => 0)))] H := hP
  have hD : va_D A [(h0, .inr (16, [.null, .int 0, .ref q1, .ref q2, .ref q4, .ref q6, .int 0, .int 0, .ref q8, .ref q10, .int 0, .int 0, .int 0, .int 0, .int 0, .int 0, .int 0, .int 0, .int 0, .int 0, .int 0, .int 0, .int 0])), (q2, .inl (c3, 1260, .inl (fun _ => 0))), (q4, .inl (c5, 610, .inl (fun _ => 0))), (q6, .inl (c7, 610, .inl (fun _ => 0)))] := hD
  refine lv_aload_n hx hb dX19_init_60 rfl (lv_at hl 0 rfl) ?_
  refine lv_ldc (v := 2147483647) hx hb hown (hts _ qw408) dX19_init_61 ?_
  refine va_put (D := (dC, dI)) (ci := 16) (v := .int 2147483647) (ty := .int) (C := RX19) (T := TX19) (N := 23) hx hb hts i_X19 tyX19 tyX19_ok nmX19 hown hK hP hD hS 0 rfl rfl 20 (by decide) (hts _ qw409) (fun _ h9 => h9) rfl (by decide +kernel) rfl rfl (Nat.le_of_ble_eq_true rfl) dX19_init_63 (fun H locs hP hD hS => ?_)
  have hP : va_P (dC, dI) cls [(h0, .inr (16, [.null, .int 0, .ref q1, .ref q2, .ref q4, .ref q6, .int 0, .int 0, .ref q8, .ref q10, .int 0, .int 0, .int 0, .int 0, .int 0, .int 0, .int 0, .int 0, .int 0, .int 0, .int 2147483647, .int 0, .int 0])), (q2, .inl (c3, 1260, .inl (fun _ => 0))), (q4, .inl (c5, 610, .inl (fun _ => 0))), (q6, .inl (c7, 610, .inl (fun _ => 0)))] H := hP
  have hD : va_D A [(h0, .inr (16, [.null, .int 0, .ref q1, .ref q2, .ref q4, .ref q6, .int 0, .int 0, .ref q8, .ref q10, .int 0, .int 0, .int 0, .int 0, .int 0, .int 0, .int 0, .int 0, .int 0, .int 0, .int 2147483647, .int 0, .int 0])), (q2, .inl (c3, 1260, .inl (fun _ => 0))), (q4, .inl (c5, 610, .inl (fun _ => 0))), (q6, .inl (c7, 610, .inl (fun _ => 0)))] := hD
  refine lv_aload_n hx hb dX19_init_66 rfl (lv_at hl 0 rfl) ?_
  refine lv_ldc (v := 2147483647) hx hb hown (hts _ qw408) dX19_init_67 ?_
  refine va_put (D := (dC, dI)) (ci := 16) (v := .int 2147483647) (ty := .int) (C := RX19) (T := TX19) (N := 23) hx hb hts i_X19 tyX19 tyX19_ok nmX19 hown hK hP hD hS 0 rfl rfl 22 (by decide) (hts _ qw410) (fun _ h9 => h9) rfl (by decide +kernel) rfl rfl (Nat.le_of_ble_eq_true rfl) dX19_init_69 (fun H locs hP hD hS => ?_)
  have hP : va_P (dC, dI) cls [(h0, .inr (16, [.null, .int 0, .ref q1, .ref q2, .ref q4, .ref q6, .int 0, .int 0, .ref q8, .ref q10, .int 0, .int 0, .int 0, .int 0, .int 0, .int 0, .int 0, .int 0, .int 0, .int 0, .int 2147483647, .int 0, .int 2147483647])), (q2, .inl (c3, 1260, .inl (fun _ => 0))), (q4, .inl (c5, 610, .inl (fun _ => 0))), (q6, .inl (c7, 610, .inl (fun _ => 0)))] H := hP
  have hD : va_D A [(h0, .inr (16, [.null, .int 0, .ref q1, .ref q2, .ref q4, .ref q6, .int 0, .int 0, .ref q8, .ref q10, .int 0, .int 0, .int 0, .int 0, .int 0, .int 0, .int 0, .int 0, .int 0, .int 0, .int 2147483647, .int 0, .int 2147483647])), (q2, .inl (c3, 1260, .inl (fun _ => 0))), (q4, .inl (c5, 610, .inl (fun _ => 0))), (q6, .inl (c7, 610, .inl (fun _ => 0)))] := hD
  refine lv_aload_n hx hb dX19_init_72 rfl (lv_at hl 0 rfl) ?_
  refine lv_aload_n hx hb dX19_init_73 rfl (lv_at hl 1 rfl) ?_
  refine va_putF (D := (dC, dI)) (ci := 16) (v := .ref h1) (ty := .array .int) (C := RX19) (T := TX19) (N := 23) hx hb hts i_X19 tyX19 tyX19_ok nmX19 hown hK hP hD hS 0 rfl rfl 0 (by decide) (hts _ qw411) (fun _ h9 => h9) rfl hin rfl (by decide +kernel) rfl rfl (Nat.le_of_ble_eq_true rfl) dX19_init_74 (fun H locs hP hD hS => ?_)
  have hP : va_P (dC, dI) cls [(h0, .inr (16, [.ref h1, .int 0, .ref q1, .ref q2, .ref q4, .ref q6, .int 0, .int 0, .ref q8, .ref q10, .int 0, .int 0, .int 0, .int 0, .int 0, .int 0, .int 0, .int 0, .int 0, .int 0, .int 2147483647, .int 0, .int 2147483647])), (q2, .inl (c3, 1260, .inl (fun _ => 0))), (q4, .inl (c5, 610, .inl (fun _ => 0))), (q6, .inl (c7, 610, .inl (fun _ => 0)))] H := hP
  have hD : va_D A [(h0, .inr (16, [.ref h1, .int 0, .ref q1, .ref q2, .ref q4, .ref q6, .int 0, .int 0, .ref q8, .ref q10, .int 0, .int 0, .int 0, .int 0, .int 0, .int 0, .int 0, .int 0, .int 0, .int 0, .int 2147483647, .int 0, .int 2147483647])), (q2, .inl (c3, 1260, .inl (fun _ => 0))), (q4, .inl (c5, 610, .inl (fun _ => 0))), (q6, .inl (c7, 610, .inl (fun _ => 0)))] := hD
  refine lv_aload_n hx hb dX19_init_77 rfl (lv_at hl 0 rfl) ?_
  refine lv_iload_n hx hb dX19_init_78 rfl (lv_at hl 2 rfl) ?_
  refine va_putF (D := (dC, dI)) (ci := 16) (v := .int 0) (ty := .int) (C := RX19) (T := TX19) (N := 23) hx hb hts i_X19 tyX19 tyX19_ok nmX19 hown hK hP hD hS 0 rfl rfl 1 (by decide) (hts _ qw412) (fun _ h9 => h9) rfl hin rfl (by decide +kernel) rfl rfl (Nat.le_of_ble_eq_true rfl) dX19_init_79 (fun H locs hP hD hS => ?_)
  have hP : va_P (dC, dI) cls [(h0, .inr (16, [.ref h1, .int 0, .ref q1, .ref q2, .ref q4, .ref q6, .int 0, .int 0, .ref q8, .ref q10, .int 0, .int 0, .int 0, .int 0, .int 0, .int 0, .int 0, .int 0, .int 0, .int 0, .int 2147483647, .int 0, .int 2147483647])), (q2, .inl (c3, 1260, .inl (fun _ => 0))), (q4, .inl (c5, 610, .inl (fun _ => 0))), (q6, .inl (c7, 610, .inl (fun _ => 0)))] H := hP
  have hD : va_D A [(h0, .inr (16, [.ref h1, .int 0, .ref q1, .ref q2, .ref q4, .ref q6, .int 0, .int 0, .ref q8, .ref q10, .int 0, .int 0, .int 0, .int 0, .int 0, .int 0, .int 0, .int 0, .int 0, .int 0, .int 2147483647, .int 0, .int 2147483647])), (q2, .inl (c3, 1260, .inl (fun _ => 0))), (q4, .inl (c5, 610, .inl (fun _ => 0))), (q6, .inl (c7, 610, .inl (fun _ => 0)))] := hD
  refine lv_iconst (v := 0) hx hb dX19_init_82 (by decide) ?_
  refine lv_istore_n (lv' := [(3, .int 0), (0, .ref h0), (1, .ref h1), (2, .int 0)]) hx hb dX19_init_83 rfl hl (by decide) rfl (fun ls hl => ?_)
  refine lv_iconst (v := 0) hx hb dX19_init_84 (by decide) ?_
  refine lv_istore (lv' := [(4, .int 0), (3, .int 0), (0, .ref h0), (1, .ref h1), (2, .int 0)]) hx hb dX19_init_85 hl (by decide) rfl (fun ls hl => ?_)
  refine lv_iload hx hb dX19_init_87 (lv_at hl 0 rfl) ?_
  refine va_ldcS hx hb hown hE.2.2.2.2.2.2.2.2.1 dX19_init_89 ?_
  have hPc := hP.sub (ws' := []) [] rfl
  have hDc := hD.sub (ws' := []) [] (by decide) rfl
  have hKc := hK.sub (tys' := []) [] rfl
  have hFc := va_free (wc := []) hD hS hA [] rfl
  refine va_calli (va_runV (As := []) (rest := [.int 0]) ⟨hx, hb, hml, hown, hts⟩ (kS_length l dC dI  (sz := _)) (cwV 0 hts (gi_V qw414 qw415 qw416 qw324 (gi_z qw413)) rfl rfl rfl (by decide +kernel) ⟨Nat.le_of_ble_eq_true rfl, Nat.le_of_ble_eq_true rfl⟩) ⟨PRE.blind, STC.recv hE.2.2.2.2.2.2.2.2 hS, PRE.of hE hS hFc hPc hKc hDc⟩ rfl rfl hl.1 rfl (lv_room (Nat.le_of_ble_eq_true rfl)) dX19_init_91 ⟨Nat.le_of_ble_eq_true rfl, Nat.le_of_ble_eq_true rfl⟩) hS (fun q _ h => hFc q h) hFc (fun r12 u t H locs ht hvm hw hB hz1 hk1 hS => ?_)
  obtain ⟨hP, hD, hK⟩ := JOIN (wr := [(h0, .inr (16, [.ref h1, .int 0, .ref q1, .ref q2, .ref q4, .ref q6, .int 0, .int 0, .ref q8, .ref q10, .int 0, .int 0, .int 0, .int 0, .int 0, .int 0, .int 0, .int 0, .int 0, .int 0, .int 2147483647, .int 0, .int 2147483647])), (q2, .inl (c3, 1260, .inl (fun _ => 0))), (q4, .inl (c5, 610, .inl (fun _ => 0))), (q6, .inl (c7, 610, .inl (fun _ => 0)))]) hP hD hK [] [0, 1, 2, 3] [0, 1, 2] rfl rfl (by decide) (by decide) rfl hk1 hFc ht hvm hB
  have hP : va_P (dC, dI) cls [(h0, .inr (16, [.ref h1, .int 0, .ref q1, .ref q2, .ref q4, .ref q6, .int 0, .int 0, .ref q8, .ref q10, .int 0, .int 0, .int 0, .int 0, .int 0, .int 0, .int 0, .int 0, .int 0, .int 0, .int 2147483647, .int 0, .int 2147483647])), (q2, .inl (c3, 1260, .inl (fun _ => 0))), (q4, .inl (c5, 610, .inl (fun _ => 0))), (q6, .inl (c7, 610, .inl (fun _ => 0)))] H := hP
  have hD : va_D A [(h0, .inr (16, [.ref h1, .int 0, .ref q1, .ref q2, .ref q4, .ref q6, .int 0, .int 0, .ref q8, .ref q10, .int 0, .int 0, .int 0, .int 0, .int 0, .int 0, .int 0, .int 0, .int 0, .int 0, .int 2147483647, .int 0, .int 2147483647])), (q2, .inl (c3, 1260, .inl (fun _ => 0))), (q4, .inl (c5, 610, .inl (fun _ => 0))), (q6, .inl (c7, 610, .inl (fun _ => 0)))] := hD
  have hK : va_K (dC, dI) cls [(c3, .int), (c5, .int), (c7, .int)] s := hK
  refine W.widen (k := 19) (n := 19730) (Nat.le_of_ble_eq_true rfl) (Nat.le_of_ble_eq_true rfl) ?_
  obtain rfl : r12 = 44 := hw
  refine lv_icmp_ge (tgt := 152) hx hb dX19_init_94 (by decide) (fun c => absurd c (by decide)) (fun _ => ?_)
  refine va_ldcS hx hb hown hE.2.2.2.2.2.2.2.2.1 dX19_init_97 ?_
  refine lv_iload hx hb dX19_init_99 (lv_at hl 0 rfl) ?_
  have hPc := hP.sub (ws' := []) [] rfl
  have hDc := hD.sub (ws' := []) [] (by decide) rfl
  have hKc := hK.sub (tys' := []) [] rfl
  have hFc := va_free (wc := []) hD hS hA [] rfl
  refine va_calli (va_runV (As := [.int 0]) (rest := []) ⟨hx, hb, hml, hown, hts⟩ (kS_charAt l dC dI (p0 := 0) (sz := _) (h1 := (by decide)) (h2 := (by decide))) (cwV 1 hts (gi_V qw418 qw419 qw420 qw324 (gi_z qw417)) rfl rfl rfl (by decide +kernel) ⟨Nat.le_of_ble_eq_true rfl, Nat.le_of_ble_eq_true rfl⟩) ⟨PRE.blind, STC.recv hE.2.2.2.2.2.2.2.2 hS, PRE.of hE hS hFc hPc hKc hDc⟩ rfl rfl hl.1 rfl (lv_room (Nat.le_of_ble_eq_true rfl)) dX19_init_101 ⟨Nat.le_of_ble_eq_true rfl, Nat.le_of_ble_eq_true rfl⟩) hS (fun q _ h => hFc q h) hFc (fun r13 u t H locs ht hvm hw hB hz1 hk1 hS => ?_)
  obtain ⟨hP, hD, hK⟩ := JOIN (wr := [(h0, .inr (16, [.ref h1, .int 0, .ref q1, .ref q2, .ref q4, .ref q6, .int 0, .int 0, .ref q8, .ref q10, .int 0, .int 0, .int 0, .int 0, .int 0, .int 0, .int 0, .int 0, .int 0, .int 0, .int 2147483647, .int 0, .int 2147483647])), (q2, .inl (c3, 1260, .inl (fun _ => 0))), (q4, .inl (c5, 610, .inl (fun _ => 0))), (q6, .inl (c7, 610, .inl (fun _ => 0)))]) hP hD hK [] [0, 1, 2, 3] [0, 1, 2] rfl rfl (by decide) (by decide) rfl hk1 hFc ht hvm hB
  have hP : va_P (dC, dI) cls [(h0, .inr (16, [.ref h1, .int 0, .ref q1, .ref q2, .ref q4, .ref q6, .int 0, .int 0, .ref q8, .ref q10, .int 0, .int 0, .int 0, .int 0, .int 0, .int 0, .int 0, .int 0, .int 0, .int 0, .int 2147483647, .int 0, .int 2147483647])), (q2, .inl (c3, 1260, .inl (fun _ => 0))), (q4, .inl (c5, 610, .inl (fun _ => 0))), (q6, .inl (c7, 610, .inl (fun _ => 0)))] H := hP
  have hD : va_D A [(h0, .inr (16, [.ref h1, .int 0, .ref q1, .ref q2, .ref q4, .ref q6, .int 0, .int 0, .ref q8, .ref q10, .int 0, .int 0, .int 0, .int 0, .int 0, .int 0, .int 0, .int 0, .int 0, .int 0, .int 2147483647, .int 0, .int 2147483647])), (q2, .inl (c3, 1260, .inl (fun _ => 0))), (q4, .inl (c5, 610, .inl (fun _ => 0))), (q6, .inl (c7, 610, .inl (fun _ => 0)))] := hD
  have hK : va_K (dC, dI) cls [(c3, .int), (c5, .int), (c7, .int)] s := hK
  refine W.widen (k := 19) (n := 19730) (Nat.le_of_ble_eq_true rfl) (Nat.le_of_ble_eq_true rfl) ?_
  obtain rfl : r13 = (((((kb (Int32.toNatClampNeg 0)) &&& 255)).toUInt32 % 65536).toInt32) := hw
  refine lv_topC (y := 98) (by decide) ?_
  refine lv_bipush (v := 32) hx hb dX19_init_104 (by decide) ?_
  refine lv_icmp_eq (tgt := 135) hx hb dX19_init_106 (by decide) (fun c => absurd c (by decide)) (fun _ => ?_)
  refine lv_aload_n hx hb dX19_init_109 rfl (lv_at hl 2 rfl) ?_
  refine va_get (D := (dC, dI)) (ci := 16) (v := .ref q2) (C := RX19) (T := TX19) (N := 23) hx hb hts i_X19 hown hK hP 0 rfl rfl 3 (by decide) (hts _ qw403) (fun _ h9 => h9) rfl dX19_init_110 ?_
  refine lv_aload_n hx hb dX19_init_113 rfl (lv_at hl 2 rfl) ?_
  refine lv_dup hx hb dX19_init_114 rfl ?_
  refine va_get (D := (dC, dI)) (ci := 16) (v := .int 0) (C := RX19) (T := TX19) (N := 23) hx hb hts i_X19 hown hK hP 0 rfl rfl 7 (by decide) (hts _ qw421) (fun _ h9 => h9) rfl dX19_init_115 ?_
  refine lv_dup_x1 hx hb dX19_init_118 rfl rfl ?_
  refine lv_iconst (v := 1) hx hb dX19_init_119 (by decide) ?_
  refine lv_iadd hx hb dX19_init_120 ?_
  refine lv_topC (y := 1) (by decide) ?_
  refine va_put (D := (dC, dI)) (ci := 16) (v := .int 1) (ty := .int) (C := RX19) (T := TX19) (N := 23) hx hb hts i_X19 tyX19 tyX19_ok nmX19 hown hK hP hD hS 0 rfl rfl 7 (by decide) (hts _ qw421) (fun _ h9 => h9) rfl (by decide +kernel) rfl rfl (Nat.le_of_ble_eq_true rfl) dX19_init_121 (fun H locs hP hD hS => ?_)
  have hP : va_P (dC, dI) cls [(h0, .inr (16, [.ref h1, .int 0, .ref q1, .ref q2, .ref q4, .ref q6, .int 0, .int 1, .ref q8, .ref q10, .int 0, .int 0, .int 0, .int 0, .int 0, .int 0, .int 0, .int 0, .int 0, .int 0, .int 2147483647, .int 0, .int 2147483647])), (q2, .inl (c3, 1260, .inl (fun _ => 0))), (q4, .inl (c5, 610, .inl (fun _ => 0))), (q6, .inl (c7, 610, .inl (fun _ => 0)))] H := hP
  have hD : va_D A [(h0, .inr (16, [.ref h1, .int 0, .ref q1, .ref q2, .ref q4, .ref q6, .int 0, .int 1, .ref q8, .ref q10, .int 0, .int 0, .int 0, .int 0, .int 0, .int 0, .int 0, .int 0, .int 0, .int 0, .int 2147483647, .int 0, .int 2147483647])), (q2, .inl (c3, 1260, .inl (fun _ => 0))), (q4, .inl (c5, 610, .inl (fun _ => 0))), (q6, .inl (c7, 610, .inl (fun _ => 0)))] := hD
  refine va_ldcS hx hb hown hE.2.2.2.2.2.2.2.2.1 dX19_init_124 ?_
  refine lv_iload hx hb dX19_init_126 (lv_at hl 0 rfl) ?_
  have hPc := hP.sub (ws' := []) [] rfl
  have hDc := hD.sub (ws' := []) [] (by decide) rfl
  have hKc := hK.sub (tys' := []) [] rfl
  have hFc := va_free (wc := []) hD hS hA [] rfl
  refine va_calli (va_runV (As := [.int 0]) (rest := [.int 0, .ref q2]) ⟨hx, hb, hml, hown, hts⟩ (kS_charAt l dC dI (p0 := 0) (sz := _) (h1 := (by decide)) (h2 := (by decide))) (cwV 1 hts (gi_V qw418 qw419 qw420 qw324 (gi_z qw417)) rfl rfl rfl (by decide +kernel) ⟨Nat.le_of_ble_eq_true rfl, Nat.le_of_ble_eq_true rfl⟩) ⟨PRE.blind, STC.recv hE.2.2.2.2.2.2.2.2 hS, PRE.of hE hS hFc hPc hKc hDc⟩ rfl rfl hl.1 rfl (lv_room (Nat.le_of_ble_eq_true rfl)) dX19_init_128 ⟨Nat.le_of_ble_eq_true rfl, Nat.le_of_ble_eq_true rfl⟩) hS (fun q _ h => hFc q h) hFc (fun r14 u t H locs ht hvm hw hB hz1 hk1 hS => ?_)
  obtain ⟨hP, hD, hK⟩ := JOIN (wr := [(h0, .inr (16, [.ref h1, .int 0, .ref q1, .ref q2, .ref q4, .ref q6, .int 0, .int 1, .ref q8, .ref q10, .int 0, .int 0, .int 0, .int 0, .int 0, .int 0, .int 0, .int 0, .int 0, .int 0, .int 2147483647, .int 0, .int 2147483647])), (q2, .inl (c3, 1260, .inl (fun _ => 0))), (q4, .inl (c5, 610, .inl (fun _ => 0))), (q6, .inl (c7, 610, .inl (fun _ => 0)))]) hP hD hK [] [0, 1, 2, 3] [0, 1, 2] rfl rfl (by decide) (by decide) rfl hk1 hFc ht hvm hB
  have hP : va_P (dC, dI) cls [(h0, .inr (16, [.ref h1, .int 0, .ref q1, .ref q2, .ref q4, .ref q6, .int 0, .int 1, .ref q8, .ref q10, .int 0, .int 0, .int 0, .int 0, .int 0, .int 0, .int 0, .int 0, .int 0, .int 0, .int 2147483647, .int 0, .int 2147483647])), (q2, .inl (c3, 1260, .inl (fun _ => 0))), (q4, .inl (c5, 610, .inl (fun _ => 0))), (q6, .inl (c7, 610, .inl (fun _ => 0)))] H := hP
  have hD : va_D A [(h0, .inr (16, [.ref h1, .int 0, .ref q1, .ref q2, .ref q4, .ref q6, .int 0, .int 1, .ref q8, .ref q10, .int 0, .int 0, .int 0, .int 0, .int 0, .int 0, .int 0, .int 0, .int 0, .int 0, .int 2147483647, .int 0, .int 2147483647])), (q2, .inl (c3, 1260, .inl (fun _ => 0))), (q4, .inl (c5, 610, .inl (fun _ => 0))), (q6, .inl (c7, 610, .inl (fun _ => 0)))] := hD
  have hK : va_K (dC, dI) cls [(c3, .int), (c5, .int), (c7, .int)] s := hK
  refine W.widen (k := 19) (n := 19730) (Nat.le_of_ble_eq_true rfl) (Nat.le_of_ble_eq_true rfl) ?_
  obtain rfl : r14 = (((((kb (Int32.toNatClampNeg 0)) &&& 255)).toUInt32 % 65536).toInt32) := hw
  refine lv_topC (y := 98) (by decide) ?_
  refine va_iast hx hb hK hP hD hS 1 0 rfl rfl (by unfold vp_in; decide +kernel) dX19_init_131 (fun H locs hP hD hS => ?_)
  have hP : va_P (dC, dI) cls [(h0, .inr (16, [.ref h1, .int 0, .ref q1, .ref q2, .ref q4, .ref q6, .int 0, .int 1, .ref q8, .ref q10, .int 0, .int 0, .int 0, .int 0, .int 0, .int 0, .int 0, .int 0, .int 0, .int 0, .int 2147483647, .int 0, .int 2147483647])), (q2, .inl (c3, 1260, .inl (upd (fun _ => 0) (Int32.toNatClampNeg 0) 98))), (q4, .inl (c5, 610, .inl (fun _ => 0))), (q6, .inl (c7, 610, .inl (fun _ => 0)))] H := hP
  have hD : va_D A [(h0, .inr (16, [.ref h1, .int 0, .ref q1, .ref q2, .ref q4, .ref q6, .int 0, .int 1, .ref q8, .ref q10, .int 0, .int 0, .int 0, .int 0, .int 0, .int 0, .int 0, .int 0, .int 0, .int 0, .int 2147483647, .int 0, .int 2147483647])), (q2, .inl (c3, 1260, .inl (upd (fun _ => 0) (Int32.toNatClampNeg 0) 98))), (q4, .inl (c5, 610, .inl (fun _ => 0))), (q6, .inl (c7, 610, .inl (fun _ => 0)))] := hD
  generalize upd (fun _ => 0) (Int32.toNatClampNeg 0) 98 = f15 at hP hD
  refine lv_goto (tgt := 146) hx hb dX19_init_132 (by decide) ?_
  refine lv_iinc (v := 1) (lv' := [(4, .int 1), (3, .int 0), (0, .ref h0), (1, .ref h1), (2, .int 0)]) hx hb dX19_init_146 hl (k := 0) rfl (by decide) (by decide) rfl (fun ls hl => ?_)
  refine lv_goto (tgt := 87) hx hb dX19_init_149 (by decide) ?_
  refine lv_iload hx hb dX19_init_87 (lv_at hl 0 rfl) ?_
  refine va_ldcS hx hb hown hE.2.2.2.2.2.2.2.2.1 dX19_init_89 ?_
  have hPc := hP.sub (ws' := []) [] rfl
  have hDc := hD.sub (ws' := []) [] (by decide) rfl
  have hKc := hK.sub (tys' := []) [] rfl
  have hFc := va_free (wc := []) hD hS hA [] rfl
  refine va_calli (va_runV (As := []) (rest := [.int 1]) ⟨hx, hb, hml, hown, hts⟩ (kS_length l dC dI  (sz := _)) (cwV 0 hts (gi_V qw414 qw415 qw416 qw324 (gi_z qw413)) rfl rfl rfl (by decide +kernel) ⟨Nat.le_of_ble_eq_true rfl, Nat.le_of_ble_eq_true rfl⟩) ⟨PRE.blind, STC.recv hE.2.2.2.2.2.2.2.2 hS, PRE.of hE hS hFc hPc hKc hDc⟩ rfl rfl hl.1 rfl (lv_room (Nat.le_of_ble_eq_true rfl)) dX19_init_91 ⟨Nat.le_of_ble_eq_true rfl, Nat.le_of_ble_eq_true rfl⟩) hS (fun q _ h => hFc q h) hFc (fun r16 u t H locs ht hvm hw hB hz1 hk1 hS => ?_)
  obtain ⟨hP, hD, hK⟩ := JOIN (wr := [(h0, .inr (16, [.ref h1, .int 0, .ref q1, .ref q2, .ref q4, .ref q6, .int 0, .int 1, .ref q8, .ref q10, .int 0, .int 0, .int 0, .int 0, .int 0, .int 0, .int 0, .int 0, .int 0, .int 0, .int 2147483647, .int 0, .int 2147483647])), (q2, .inl (c3, 1260, .inl f15)), (q4, .inl (c5, 610, .inl (fun _ => 0))), (q6, .inl (c7, 610, .inl (fun _ => 0)))]) hP hD hK [] [0, 1, 2, 3] [0, 1, 2] rfl rfl (by decide) (by decide) rfl hk1 hFc ht hvm hB
  have hP : va_P (dC, dI) cls [(h0, .inr (16, [.ref h1, .int 0, .ref q1, .ref q2, .ref q4, .ref q6, .int 0, .int 1, .ref q8, .ref q10, .int 0, .int 0, .int 0, .int 0, .int 0, .int 0, .int 0, .int 0, .int 0, .int 0, .int 2147483647, .int 0, .int 2147483647])), (q2, .inl (c3, 1260, .inl f15)), (q4, .inl (c5, 610, .inl (fun _ => 0))), (q6, .inl (c7, 610, .inl (fun _ => 0)))] H := hP
  have hD : va_D A [(h0, .inr (16, [.ref h1, .int 0, .ref q1, .ref q2, .ref q4, .ref q6, .int 0, .int 1, .ref q8, .ref q10, .int 0, .int 0, .int 0, .int 0, .int 0, .int 0, .int 0, .int 0, .int 0, .int 0, .int 2147483647, .int 0, .int 2147483647])), (q2, .inl (c3, 1260, .inl f15)), (q4, .inl (c5, 610, .inl (fun _ => 0))), (q6, .inl (c7, 610, .inl (fun _ => 0)))] := hD
  have hK : va_K (dC, dI) cls [(c3, .int), (c5, .int), (c7, .int)] s := hK
  refine W.widen (k := 19) (n := 19730) (Nat.le_of_ble_eq_true rfl) (Nat.le_of_ble_eq_true rfl) ?_
  obtain rfl : r16 = 44 := hw
  refine lv_icmp_ge (tgt := 152) hx hb dX19_init_94 (by decide) (fun c => absurd c (by decide)) (fun _ => ?_)
  refine va_ldcS hx hb hown hE.2.2.2.2.2.2.2.2.1 dX19_init_97 ?_
  refine lv_iload hx hb dX19_init_99 (lv_at hl 0 rfl) ?_
  have hPc := hP.sub (ws' := []) [] rfl
  have hDc := hD.sub (ws' := []) [] (by decide) rfl
  have hKc := hK.sub (tys' := []) [] rfl
  have hFc := va_free (wc := []) hD hS hA [] rfl
  refine va_calli (va_runV (As := [.int 1]) (rest := []) ⟨hx, hb, hml, hown, hts⟩ (kS_charAt l dC dI (p0 := 1) (sz := _) (h1 := (by decide)) (h2 := (by decide))) (cwV 1 hts (gi_V qw418 qw419 qw420 qw324 (gi_z qw417)) rfl rfl rfl (by decide +kernel) ⟨Nat.le_of_ble_eq_true rfl, Nat.le_of_ble_eq_true rfl⟩) ⟨PRE.blind, STC.recv hE.2.2.2.2.2.2.2.2 hS, PRE.of hE hS hFc hPc hKc hDc⟩ rfl rfl hl.1 rfl (lv_room (Nat.le_of_ble_eq_true rfl)) dX19_init_101 ⟨Nat.le_of_ble_eq_true rfl, Nat.le_of_ble_eq_true rfl⟩) hS (fun q _ h => hFc q h) hFc (fun r17 u t H locs ht hvm hw hB hz1 hk1 hS => ?_)
  obtain ⟨hP, hD, hK⟩ := JOIN (wr := [(h0, .inr (16, [.ref h1, .int 0, .ref q1, .ref q2, .ref q4, .ref q6, .int 0, .int 1, .ref q8, .ref q10, .int 0, .int 0, .int 0, .int 0, .int 0, .int 0, .int 0, .int 0, .int 0, .int 0, .int 2147483647, .int 0, .int 2147483647])), (q2, .inl (c3, 1260, .inl f15)), (q4, .inl (c5, 610, .inl (fun _ => 0))), (q6, .inl (c7, 610, .inl (fun _ => 0)))]) hP hD hK [] [0, 1, 2, 3] [0, 1, 2] rfl rfl (by decide) (by decide) rfl hk1 hFc ht hvm hB
  have hP : va_P (dC, dI) cls [(h0, .inr (16, [.ref h1, .int 0, .ref q1, .ref q2, .ref q4, .ref q6, .int 0, .int 1, .ref q8, .ref q10, .int 0, .int 0, .int 0, .int 0, .int 0, .int 0, .int 0, .int 0, .int 0, .int 0, .int 2147483647, .int 0, .int 2147483647])), (q2, .inl (c3, 1260, .inl f15)), (q4, .inl (c5, 610, .inl (fun _ => 0))), (q6, .inl (c7, 610, .inl (fun _ => 0)))] H := hP
  have hD : va_D A [(h0, .inr (16, [.ref h1, .int 0, .ref q1, .ref q2, .ref q4, .ref q6, .int 0, .int 1, .ref q8, .ref q10, .int 0, .int 0, .int 0, .int 0, .int 0, .int 0, .int 0, .int 0, .int 0, .int 0, .int 2147483647, .int 0, .int 2147483647])), (q2, .inl (c3, 1260, .inl f15)), (q4, .inl (c5, 610, .inl (fun _ => 0))), (q6, .inl (c7, 610, .inl (fun _ => 0)))] := hD
  have hK : va_K (dC, dI) cls [(c3, .int), (c5, .int), (c7, .int)] s := hK
  refine W.widen (k := 19) (n := 19730) (Nat.le_of_ble_eq_true rfl) (Nat.le_of_ble_eq_true rfl) ?_
  obtain rfl : r17 = (((((kb (Int32.toNatClampNeg 1)) &&& 255)).toUInt32 % 65536).toInt32) := hw
  refine lv_topC (y := 114) (by decide) ?_
  refine lv_bipush (v := 32) hx hb dX19_init_104 (by decide) ?_
  refine lv_icmp_eq (tgt := 135) hx hb dX19_init_106 (by decide) (fun c => absurd c (by decide)) (fun _ => ?_)
  refine lv_aload_n hx hb dX19_init_109 rfl (lv_at hl 2 rfl) ?_
  refine va_get (D := (dC, dI)) (ci := 16) (v := .ref q2) (C := RX19) (T := TX19) (N := 23) hx hb hts i_X19 hown hK hP 0 rfl rfl 3 (by decide) (hts _ qw403) (fun _ h9 => h9) rfl dX19_init_110 ?_
  refine lv_aload_n hx hb dX19_init_113 rfl (lv_at hl 2 rfl) ?_
  refine lv_dup hx hb dX19_init_114 rfl ?_
  refine va_get (D := (dC, dI)) (ci := 16) (v := .int 1) (C := RX19) (T := TX19) (N := 23) hx hb hts i_X19 hown hK hP 0 rfl rfl 7 (by decide) (hts _ qw421) (fun _ h9 => h9) rfl dX19_init_115 ?_
  refine lv_dup_x1 hx hb dX19_init_118 rfl rfl ?_
  refine lv_iconst (v := 1) hx hb dX19_init_119 (by decide) ?_
  refine lv_iadd hx hb dX19_init_120 ?_
  refine lv_topC (y := 2) (by decide) ?_
  refine va_put (D := (dC, dI)) (ci := 16) (v := .int 2) (ty := .int) (C := RX19) (T := TX19) (N := 23) hx hb hts i_X19 tyX19 tyX19_ok nmX19 hown hK hP hD hS 0 rfl rfl 7 (by decide) (hts _ qw421) (fun _ h9 => h9) rfl (by decide +kernel) rfl rfl (Nat.le_of_ble_eq_true rfl) dX19_init_121 (fun H locs hP hD hS => ?_)
  have hP : va_P (dC, dI) cls [(h0, .inr (16, [.ref h1, .int 0, .ref q1, .ref q2, .ref q4, .ref q6, .int 0, .int 2, .ref q8, .ref q10, .int 0, .int 0, .int 0, .int 0, .int 0, .int 0, .int 0, .int 0, .int 0, .int 0, .int 2147483647, .int 0, .int 2147483647])), (q2, .inl (c3, 1260, .inl f15)), (q4, .inl (c5, 610, .inl (fun _ => 0))), (q6, .inl (c7, 610, .inl (fun _ => 0)))] H := hP
  have hD : va_D A [(h0, .inr (16, [.ref h1, .int 0, .ref q1, .ref q2, .ref q4, .ref q6, .int 0, .int 2, .ref q8, .ref q10, .int 0, .int 0, .int 0, .int 0, .int 0, .int 0, .int 0, .int 0, .int 0, .int 0, .int 2147483647, .int 0, .int 2147483647])), (q2, .inl (c3, 1260, .inl f15)), (q4, .inl (c5, 610, .inl (fun _ => 0))), (q6, .inl (c7, 610, .inl (fun _ => 0)))] := hD
  refine va_ldcS hx hb hown hE.2.2.2.2.2.2.2.2.1 dX19_init_124 ?_
  refine lv_iload hx hb dX19_init_126 (lv_at hl 0 rfl) ?_
  have hPc := hP.sub (ws' := []) [] rfl
  have hDc := hD.sub (ws' := []) [] (by decide) rfl
  have hKc := hK.sub (tys' := []) [] rfl
  have hFc := va_free (wc := []) hD hS hA [] rfl
  refine va_calli (va_runV (As := [.int 1]) (rest := [.int 1, .ref q2]) ⟨hx, hb, hml, hown, hts⟩ (kS_charAt l dC dI (p0 := 1) (sz := _) (h1 := (by decide)) (h2 := (by decide))) (cwV 1 hts (gi_V qw418 qw419 qw420 qw324 (gi_z qw417)) rfl rfl rfl (by decide +kernel) ⟨Nat.le_of_ble_eq_true rfl, Nat.le_of_ble_eq_true rfl⟩) ⟨PRE.blind, STC.recv hE.2.2.2.2.2.2.2.2 hS, PRE.of hE hS hFc hPc hKc hDc⟩ rfl rfl hl.1 rfl (lv_room (Nat.le_of_ble_eq_true rfl)) dX19_init_128 ⟨Nat.le_of_ble_eq_true rfl, Nat.le_of_ble_eq_true rfl⟩) hS (fun q _ h => hFc q h) hFc (fun r18 u t H locs ht hvm hw hB hz1 hk1 hS => ?_)
  obtain ⟨hP, hD, hK⟩ := JOIN (wr := [(h0, .inr (16, [.ref h1, .int 0, .ref q1, .ref q2, .ref q4, .ref q6, .int 0, .int 2, .ref q8, .ref q10, .int 0, .int 0, .int 0, .int 0, .int 0, .int 0, .int 0, .int 0, .int 0, .int 0, .int 2147483647, .int 0, .int 2147483647])), (q2, .inl (c3, 1260, .inl f15)), (q4, .inl (c5, 610, .inl (fun _ => 0))), (q6, .inl (c7, 610, .inl (fun _ => 0)))]) hP hD hK [] [0, 1, 2, 3] [0, 1, 2] rfl rfl (by decide) (by decide) rfl hk1 hFc ht hvm hB
  have hP : va_P (dC, dI) cls [(h0, .inr (16, [.ref h1, .int 0, .ref q1, .ref q2, .ref q4, .ref q6, .int 0, .int 2, .ref q8, .ref q10, .int 0, .int 0, .int 0, .int 0, .int 0, .int 0, .int 0, .int 0, .int 0, .int 0, .int 2147483647, .int 0, .int 2147483647])), (q2, .inl (c3, 1260, .inl f15)), (q4, .inl (c5, 610, .inl (fun _ => 0))), (q6, .inl (c7, 610, .inl (fun _ => 0)))] H := hP
  have hD : va_D A [(h0, .inr (16, [.ref h1, .int 0, .ref q1, .ref q2, .ref q4, .ref q6, .int 0, .int 2, .ref q8, .ref q10, .int 0, .int 0, .int 0, .int 0, .int 0, .int 0, .int 0, .int 0, .int 0, .int 0, .int 2147483647, .int 0, .int 2147483647])), (q2, .inl (c3, 1260, .inl f15)), (q4, .inl (c5, 610, .inl (fun _ => 0))), (q6, .inl (c7, 610, .inl (fun _ => 0)))] := hD
  have hK : va_K (dC, dI) cls [(c3, .int), (c5, .int), (c7, .int)] s := hK
  refine W.widen (k := 19) (n := 19730) (Nat.le_of_ble_eq_true rfl) (Nat.le_of_ble_eq_true rfl) ?_
  obtain rfl : r18 = (((((kb (Int32.toNatClampNeg 1)) &&& 255)).toUInt32 % 65536).toInt32) := hw
  refine lv_topC (y := 114) (by decide) ?_
  refine va_iast hx hb hK hP hD hS 1 0 rfl rfl (by unfold vp_in; decide +kernel) dX19_init_131 (fun H locs hP hD hS => ?_)
  have hP : va_P (dC, dI) cls [(h0, .inr (16, [.ref h1, .int 0, .ref q1, .ref q2, .ref q4, .ref q6, .int 0, .int 2, .ref q8, .ref q10, .int 0, .int 0, .int 0, .int 0, .int 0, .int 0, .int 0, .int 0, .int 0, .int 0, .int 2147483647, .int 0, .int 2147483647])), (q2, .inl (c3, 1260, .inl (upd f15 (Int32.toNatClampNeg 1) 114))), (q4, .inl (c5, 610, .inl (fun _ => 0))), (q6, .inl (c7, 610, .inl (fun _ => 0)))] H := hP
  have hD : va_D A [(h0, .inr (16, [.ref h1, .int 0, .ref q1, .ref q2, .ref q4, .ref q6, .int 0, .int 2, .ref q8, .ref q10, .int 0, .int 0, .int 0, .int 0, .int 0, .int 0, .int 0, .int 0, .int 0, .int 0, .int 2147483647, .int 0, .int 2147483647])), (q2, .inl (c3, 1260, .inl (upd f15 (Int32.toNatClampNeg 1) 114))), (q4, .inl (c5, 610, .inl (fun _ => 0))), (q6, .inl (c7, 610, .inl (fun _ => 0)))] := hD
  generalize upd f15 (Int32.toNatClampNeg 1) 114 = f19 at hP hD
  refine lv_goto (tgt := 146) hx hb dX19_init_132 (by decide) ?_
  refine lv_iinc (v := 2) (lv' := [(4, .int 2), (3, .int 0), (0, .ref h0), (1, .ref h1), (2, .int 0)]) hx hb dX19_init_146 hl (k := 0) rfl (by decide) (by decide) rfl (fun ls hl => ?_)
  refine lv_goto (tgt := 87) hx hb dX19_init_149 (by decide) ?_
  refine lv_iload hx hb dX19_init_87 (lv_at hl 0 rfl) ?_
  refine va_ldcS hx hb hown hE.2.2.2.2.2.2.2.2.1 dX19_init_89 ?_
  have hPc := hP.sub (ws' := []) [] rfl
  have hDc := hD.sub (ws' := []) [] (by decide) rfl
  have hKc := hK.sub (tys' := []) [] rfl
  have hFc := va_free (wc := []) hD hS hA [] rfl
  refine va_calli (va_runV (As := []) (rest := [.int 2]) ⟨hx, hb, hml, hown, hts⟩ (kS_length l dC dI  (sz := _)) (cwV 0 hts (gi_V qw414 qw415 qw416 qw324 (gi_z qw413)) rfl rfl rfl (by decide +kernel) ⟨Nat.le_of_ble_eq_true rfl, Nat.le_of_ble_eq_true rfl⟩) ⟨PRE.blind, STC.recv hE.2.2.2.2.2.2.2.2 hS, PRE.of hE hS hFc hPc hKc hDc⟩ rfl rfl hl.1 rfl (lv_room (Nat.le_of_ble_eq_true rfl)) dX19_init_91 ⟨Nat.le_of_ble_eq_true rfl, Nat.le_of_ble_eq_true rfl⟩) hS (fun q _ h => hFc q h) hFc (fun r20 u t H locs ht hvm hw hB hz1 hk1 hS => ?_)
  obtain ⟨hP, hD, hK⟩ := JOIN (wr := [(h0, .inr (16, [.ref h1, .int 0, .ref q1, .ref q2, .ref q4, .ref q6, .int 0, .int 2, .ref q8, .ref q10, .int 0, .int 0, .int 0, .int 0, .int 0, .int 0, .int 0, .int 0, .int 0, .int 0, .int 2147483647, .int 0, .int 2147483647])), (q2, .inl (c3, 1260, .inl f19)), (q4, .inl (c5, 610, .inl (fun _ => 0))), (q6, .inl (c7, 610, .inl (fun _ => 0)))]) hP hD hK [] [0, 1, 2, 3] [0, 1, 2] rfl rfl (by decide) (by decide) rfl hk1 hFc ht hvm hB
  have hP : va_P (dC, dI) cls [(h0, .inr (16, [.ref h1, .int 0, .ref q1, .ref q2, .ref q4, .ref q6, .int 0, .int 2, .ref q8, .ref q10, .int 0, .int 0, .int 0, .int 0, .int 0, .int 0, .int 0, .int 0, .int 0, .int 0, .int 2147483647, .int 0, .int 2147483647])), (q2, .inl (c3, 1260, .inl f19)), (q4, .inl (c5, 610, .inl (fun _ => 0))), (q6, .inl (c7, 610, .inl (fun _ => 0)))] H := hP
  have hD : va_D A [(h0, .inr (16, [.ref h1, .int 0, .ref q1, .ref q2, .ref q4, .ref q6, .int 0, .int 2, .ref q8, .ref q10, .int 0, .int 0, .int 0, .int 0, .int 0, .int 0, .int 0, .int 0, .int 0, .int 0, .int 2147483647, .int 0, .int 2147483647])), (q2, .inl (c3, 1260, .inl f19)), (q4, .inl (c5, 610, .inl (fun _ => 0))), (q6, .inl (c7, 610, .inl (fun _ => 0)))] := hD
  have hK : va_K (dC, dI) cls [(c3, .int), (c5, .int), (c7, .int)] s := hK
  refine W.widen (k := 19) (n := 19730) (Nat.le_of_ble_eq_true rfl) (Nat.le_of_ble_eq_true rfl) ?_
  obtain rfl : r20 = 44 := hw
  refine lv_icmp_ge (tgt := 152) hx hb dX19_init_94 (by decide) (fun c => absurd c (by decide)) (fun _ => ?_)
  refine va_ldcS hx hb hown hE.2.2.2.2.2.2.2.2.1 dX19_init_97 ?_
  refine lv_iload hx hb dX19_init_99 (lv_at hl 0 rfl) ?_
  have hPc := hP.sub (ws' := []) [] rfl
  have hDc := hD.sub (ws' := []) [] (by decide) rfl
  have hKc := hK.sub (tys' := []) [] rfl
  have hFc := va_free (wc := []) hD hS hA [] rfl
  refine va_calli (va_runV (As := [.int 2]) (rest := []) ⟨hx, hb, hml, hown, hts⟩ (kS_charAt l dC dI (p0 := 2) (sz := _) (h1 := (by decide)) (h2 := (by decide))) (cwV 1 hts (gi_V qw418 qw419 qw420 qw324 (gi_z qw417)) rfl rfl rfl (by decide +kernel) ⟨Nat.le_of_ble_eq_true rfl, Nat.le_of_ble_eq_true rfl⟩) ⟨PRE.blind, STC.recv hE.2.2.2.2.2.2.2.2 hS, PRE.of hE hS hFc hPc hKc hDc⟩ rfl rfl hl.1 rfl (lv_room (Nat.le_of_ble_eq_true rfl)) dX19_init_101 ⟨Nat.le_of_ble_eq_true rfl, Nat.le_of_ble_eq_true rfl⟩) hS (fun q _ h => hFc q h) hFc (fun r21 u t H locs ht hvm hw hB hz1 hk1 hS => ?_)
  obtain ⟨hP, hD, hK⟩ := JOIN (wr := [(h0, .inr (16, [.ref h1, .int 0, .ref q1, .ref q2, .ref q4, .ref q6, .int 0, .int 2, .ref q8, .ref q10, .int 0, .int 0, .int 0, .int 0, .int 0, .int 0, .int 0, .int 0, .int 0, .int 0, .int 2147483647, .int 0, .int 2147483647])), (q2, .inl (c3, 1260, .inl f19)), (q4, .inl (c5, 610, .inl (fun _ => 0))), (q6, .inl (c7, 610, .inl (fun _ => 0)))]) hP hD hK [] [0, 1, 2, 3] [0, 1, 2] rfl rfl (by decide) (by decide) rfl hk1 hFc ht hvm hB
  have hP : va_P (dC, dI) cls [(h0, .inr (16, [.ref h1, .int 0, .ref q1, .ref q2, .ref q4, .ref q6, .int 0, .int 2, .ref q8, .ref q10, .int 0, .int 0, .int 0, .int 0, .int 0, .int 0, .int 0, .int 0, .int 0, .int 0, .int 2147483647, .int 0, .int 2147483647])), (q2, .inl (c3, 1260, .inl f19)), (q4, .inl (c5, 610, .inl (fun _ => 0))), (q6, .inl (c7, 610, .inl (fun _ => 0)))] H := hP
  have hD : va_D A [(h0, .inr (16, [.ref h1, .int 0, .ref q1, .ref q2, .ref q4, .ref q6, .int 0, .int 2, .ref q8, .ref q10, .int 0, .int 0, .int 0, .int 0, .int 0, .int 0, .int 0, .int 0, .int 0, .int 0, .int 2147483647, .int 0, .int 2147483647])), (q2, .inl (c3, 1260, .inl f19)), (q4, .inl (c5, 610, .inl (fun _ => 0))), (q6, .inl (c7, 610, .inl (fun _ => 0)))] := hD
  have hK : va_K (dC, dI) cls [(c3, .int), (c5, .int), (c7, .int)] s := hK
  refine W.widen (k := 19) (n := 19730) (Nat.le_of_ble_eq_true rfl) (Nat.le_of_ble_eq_true rfl) ?_
  obtain rfl : r21 = (((((kb (Int32.toNatClampNeg 2)) &&& 255)).toUInt32 % 65536).toInt32) := hw
  refine lv_topC (y := 101) (by decide) ?_
  refine lv_bipush (v := 32) hx hb dX19_init_104 (by decide) ?_
  refine lv_icmp_eq (tgt := 135) hx hb dX19_init_106 (by decide) (fun c => absurd c (by decide)) (fun _ => ?_)
  refine lv_aload_n hx hb dX19_init_109 rfl (lv_at hl 2 rfl) ?_
  refine va_get (D := (dC, dI)) (ci := 16) (v := .ref q2) (C := RX19) (T := TX19) (N := 23) hx hb hts i_X19 hown hK hP 0 rfl rfl 3 (by decide) (hts _ qw403) (fun _ h9 => h9) rfl dX19_init_110 ?_
  refine lv_aload_n hx hb dX19_init_113 rfl (lv_at hl 2 rfl) ?_
  refine lv_dup hx hb dX19_init_114 rfl ?_
  refine va_get (D := (dC, dI)) (ci := 16) (v := .int 2) (C := RX19) (T := TX19) (N := 23) hx hb hts i_X19 hown hK hP 0 rfl rfl 7 (by decide) (hts _ qw421) (fun _ h9 => h9) rfl dX19_init_115 ?_
  refine lv_dup_x1 hx hb dX19_init_118 rfl rfl ?_
  refine lv_iconst (v := 1) hx hb dX19_init_119 (by decide) ?_
  refine lv_iadd hx hb dX19_init_120 ?_
  refine lv_topC (y := 3) (by decide) ?_
  refine va_put (D := (dC, dI)) (ci := 16) (v := .int 3) (ty := .int) (C := RX19) (T := TX19) (N := 23) hx hb hts i_X19 tyX19 tyX19_ok nmX19 hown hK hP hD hS 0 rfl rfl 7 (by decide) (hts _ qw421) (fun _ h9 => h9) rfl (by decide +kernel) rfl rfl (Nat.le_of_ble_eq_true rfl) dX19_init_121 (fun H locs hP hD hS => ?_)
  have hP : va_P (dC, dI) cls [(h0, .inr (16, [.ref h1, .int 0, .ref q1, .ref q2, .ref q4, .ref q6, .int 0, .int 3, .ref q8, .ref q10, .int 0, .int 0, .int 0, .int 0, .int 0, .int 0, .int 0, .int 0, .int 0, .int 0, .int 2147483647, .int 0, .int 2147483647])), (q2, .inl (c3, 1260, .inl f19)), (q4, .inl (c5, 610, .inl (fun _ => 0))), (q6, .inl (c7, 610, .inl (fun _ => 0)))] H := hP
  have hD : va_D A [(h0, .inr (16, [.ref h1, .int 0, .ref q1, .ref q2, .ref q4, .ref q6, .int 0, .int 3, .ref q8, .ref q10, .int 0, .int 0, .int 0, .int 0, .int 0, .int 0, .int 0, .int 0, .int 0, .int 0, .int 2147483647, .int 0, .int 2147483647])), (q2, .inl (c3, 1260, .inl f19)), (q4, .inl (c5, 610, .inl (fun _ => 0))), (q6, .inl (c7, 610, .inl (fun _ => 0)))] := hD
  refine va_ldcS hx hb hown hE.2.2.2.2.2.2.2.2.1 dX19_init_124 ?_
  refine lv_iload hx hb dX19_init_126 (lv_at hl 0 rfl) ?_
  have hPc := hP.sub (ws' := []) [] rfl
  have hDc := hD.sub (ws' := []) [] (by decide) rfl
  have hKc := hK.sub (tys' := []) [] rfl
  have hFc := va_free (wc := []) hD hS hA [] rfl
  refine va_calli (va_runV (As := [.int 2]) (rest := [.int 2, .ref q2]) ⟨hx, hb, hml, hown, hts⟩ (kS_charAt l dC dI (p0 := 2) (sz := _) (h1 := (by decide)) (h2 := (by decide))) (cwV 1 hts (gi_V qw418 qw419 qw420 qw324 (gi_z qw417)) rfl rfl rfl (by decide +kernel) ⟨Nat.le_of_ble_eq_true rfl, Nat.le_of_ble_eq_true rfl⟩) ⟨PRE.blind, STC.recv hE.2.2.2.2.2.2.2.2 hS, PRE.of hE hS hFc hPc hKc hDc⟩ rfl rfl hl.1 rfl (lv_room (Nat.le_of_ble_eq_true rfl)) dX19_init_128 ⟨Nat.le_of_ble_eq_true rfl, Nat.le_of_ble_eq_true rfl⟩) hS (fun q _ h => hFc q h) hFc (fun r22 u t H locs ht hvm hw hB hz1 hk1 hS => ?_)
  obtain ⟨hP, hD, hK⟩ := JOIN (wr := [(h0, .inr (16, [.ref h1, .int 0, .ref q1, .ref q2, .ref q4, .ref q6, .int 0, .int 3, .ref q8, .ref q10, .int 0, .int 0, .int 0, .int 0, .int 0, .int 0, .int 0, .int 0, .int 0, .int 0, .int 2147483647, .int 0, .int 2147483647])), (q2, .inl (c3, 1260, .inl f19)), (q4, .inl (c5, 610, .inl (fun _ => 0))), (q6, .inl (c7, 610, .inl (fun _ => 0)))]) hP hD hK [] [0, 1, 2, 3] [0, 1, 2] rfl rfl (by decide) (by decide) rfl hk1 hFc ht hvm hB
  have hP : va_P (dC, dI) cls [(h0, .inr (16, [.ref h1, .int 0, .ref q1, .ref q2, .ref q4, .ref q6, .int 0, .int 3, .ref q8, .ref q10, .int 0, .int 0, .int 0, .int 0, .int 0, .int 0, .int 0, .int 0, .int 0, .int 0, .int 2147483647, .int 0, .int 2147483647])), (q2, .inl (c3, 1260, .inl f19)), (q4, .inl (c5, 610, .inl (fun _ => 0))), (q6, .inl (c7, 610, .inl (fun _ => 0)))] H := hP
  have hD : va_D A [(h0, .inr (16, [.ref h1, .int 0, .ref q1, .ref q2, .ref q4, .ref q6, .int 0, .int 3, .ref q8, .ref q10, .int 0, .int 0, .int 0, .int 0, .int 0, .int 0, .int 0, .int 0, .int 0, .int 0, .int 2147483647, .int 0, .int 2147483647])), (q2, .inl (c3, 1260, .inl f19)), (q4, .inl (c5, 610, .inl (fun _ => 0))), (q6, .inl (c7, 610, .inl (fun _ => 0)))] := hD
  have hK : va_K (dC, dI) cls [(c3, .int), (c5, .int), (c7, .int)] s := hK
  refine W.widen (k := 19) (n := 19730) (Nat.le_of_ble_eq_true rfl) (Nat.le_of_ble_eq_true rfl) ?_
  obtain rfl : r22 = (((((kb (Int32.toNatClampNeg 2)) &&& 255)).toUInt32 % 65536).toInt32) := hw
  refine lv_topC (y := 101) (by decide) ?_
  refine va_iast hx hb hK hP hD hS 1 0 rfl rfl (by unfold vp_in; decide +kernel) dX19_init_131 (fun H locs hP hD hS => ?_)
  have hP : va_P (dC, dI) cls [(h0, .inr (16, [.ref h1, .int 0, .ref q1, .ref q2, .ref q4, .ref q6, .int 0, .int 3, .ref q8, .ref q10, .int 0, .int 0, .int 0, .int 0, .int 0, .int 0, .int 0, .int 0, .int 0, .int 0, .int 2147483647, .int 0, .int 2147483647])), (q2, .inl (c3, 1260, .inl (upd f19 (Int32.toNatClampNeg 2) 101))), (q4, .inl (c5, 610, .inl (fun _ => 0))), (q6, .inl (c7, 610, .inl (fun _ => 0)))] H := hP
  have hD : va_D A [(h0, .inr (16, [.ref h1, .int 0, .ref q1, .ref q2, .ref q4, .ref q6, .int 0, .int 3, .ref q8, .ref q10, .int 0, .int 0, .int 0, .int 0, .int 0, .int 0, .int 0, .int 0, .int 0, .int 0, .int 2147483647, .int 0, .int 2147483647])), (q2, .inl (c3, 1260, .inl (upd f19 (Int32.toNatClampNeg 2) 101))), (q4, .inl (c5, 610, .inl (fun _ => 0))), (q6, .inl (c7, 610, .inl (fun _ => 0)))] := hD
  generalize upd f19 (Int32.toNatClampNeg 2) 101 = f23 at hP hD
  refine lv_goto (tgt := 146) hx hb dX19_init_132 (by decide) ?_
  refine lv_iinc (v := 3) (lv' := [(4, .int 3), (3, .int 0), (0, .ref h0), (1, .ref h1), (2, .int 0)]) hx hb dX19_init_146 hl (k := 0) rfl (by decide) (by decide) rfl (fun ls hl => ?_)
  refine lv_goto (tgt := 87) hx hb dX19_init_149 (by decide) ?_
  refine lv_iload hx hb dX19_init_87 (lv_at hl 0 rfl) ?_
  refine va_ldcS hx hb hown hE.2.2.2.2.2.2.2.2.1 dX19_init_89 ?_
  have hPc := hP.sub (ws' := []) [] rfl
  have hDc := hD.sub (ws' := []) [] (by decide) rfl
  have hKc := hK.sub (tys' := []) [] rfl
  have hFc := va_free (wc := []) hD hS hA [] rfl
  refine va_calli (va_runV (As := []) (rest := [.int 3]) ⟨hx, hb, hml, hown, hts⟩ (kS_length l dC dI  (sz := _)) (cwV 0 hts (gi_V qw414 qw415 qw416 qw324 (gi_z qw413)) rfl rfl rfl (by decide +kernel) ⟨Nat.le_of_ble_eq_true rfl, Nat.le_of_ble_eq_true rfl⟩) ⟨PRE.blind, STC.recv hE.2.2.2.2.2.2.2.2 hS, PRE.of hE hS hFc hPc hKc hDc⟩ rfl rfl hl.1 rfl (lv_room (Nat.le_of_ble_eq_true rfl)) dX19_init_91 ⟨Nat.le_of_ble_eq_true rfl, Nat.le_of_ble_eq_true rfl⟩) hS (fun q _ h => hFc q h) hFc (fun r24 u t H locs ht hvm hw hB hz1 hk1 hS => ?_)
  obtain ⟨hP, hD, hK⟩ := JOIN (wr := [(h0, .inr (16, [.ref h1, .int 0, .ref q1, .ref q2, .ref q4, .ref q6, .int 0, .int 3, .ref q8, .ref q10, .int 0, .int 0, .int 0, .int 0, .int 0, .int 0, .int 0, .int 0, .int 0, .int 0, .int 2147483647, .int 0, .int 2147483647])), (q2, .inl (c3, 1260, .inl f23)), (q4, .inl (c5, 610, .inl (fun _ => 0))), (q6, .inl (c7, 610, .inl (fun _ => 0)))]) hP hD hK [] [0, 1, 2, 3] [0, 1, 2] rfl rfl (by decide) (by decide) rfl hk1 hFc ht hvm hB
  have hP : va_P (dC, dI) cls [(h0, .inr (16, [.ref h1, .int 0, .ref q1, .ref q2, .ref q4, .ref q6, .int 0, .int 3, .ref q8, .ref q10, .int 0, .int 0, .int 0, .int 0, .int 0, .int 0, .int 0, .int 0, .int 0, .int 0, .int 2147483647, .int 0, .int 2147483647])), (q2, .inl (c3, 1260, .inl f23)), (q4, .inl (c5, 610, .inl (fun _ => 0))), (q6, .inl (c7, 610, .inl (fun _ => 0)))] H := hP
  have hD : va_D A [(h0, .inr (16, [.ref h1, .int 0, .ref q1, .ref q2, .ref q4, .ref q6, .int 0, .int 3, .ref q8, .ref q10, .int 0, .int 0, .int 0, .int 0, .int 0, .int 0, .int 0, .int 0, .int 0, .int 0, .int 2147483647, .int 0, .int 2147483647])), (q2, .inl (c3, 1260, .inl f23)), (q4, .inl (c5, 610, .inl (fun _ => 0))), (q6, .inl (c7, 610, .inl (fun _ => 0)))] := hD
  have hK : va_K (dC, dI) cls [(c3, .int), (c5, .int), (c7, .int)] s := hK
  refine W.widen (k := 19) (n := 19730) (Nat.le_of_ble_eq_true rfl) (Nat.le_of_ble_eq_true rfl) ?_
  obtain rfl : r24 = 44 := hw
  refine lv_icmp_ge (tgt := 152) hx hb dX19_init_94 (by decide) (fun c => absurd c (by decide)) (fun _ => ?_)
  refine va_ldcS hx hb hown hE.2.2.2.2.2.2.2.2.1 dX19_init_97 ?_
  refine lv_iload hx hb dX19_init_99 (lv_at hl 0 rfl) ?_
  have hPc := hP.sub (ws' := []) [] rfl
  have hDc := hD.sub (ws' := []) [] (by decide) rfl
  have hKc := hK.sub (tys' := []) [] rfl
  have hFc := va_free (wc := []) hD hS hA [] rfl
  refine va_calli (va_runV (As := [.int 3]) (rest := []) ⟨hx, hb, hml, hown, hts⟩ (kS_charAt l dC dI (p0 := 3) (sz := _) (h1 := (by decide)) (h2 := (by decide))) (cwV 1 hts (gi_V qw418 qw419 qw420 qw324 (gi_z qw417)) rfl rfl rfl (by decide +kernel) ⟨Nat.le_of_ble_eq_true rfl, Nat.le_of_ble_eq_true rfl⟩) ⟨PRE.blind, STC.recv hE.2.2.2.2.2.2.2.2 hS, PRE.of hE hS hFc hPc hKc hDc⟩ rfl rfl hl.1 rfl (lv_room (Nat.le_of_ble_eq_true rfl)) dX19_init_101 ⟨Nat.le_of_ble_eq_true rfl, Nat.le_of_ble_eq_true rfl⟩) hS (fun q _ h => hFc q h) hFc (fun r25 u t H locs ht hvm hw hB hz1 hk1 hS => ?_)
  obtain ⟨hP, hD, hK⟩ := JOIN (wr := [(h0, .inr (16, [.ref h1, .int 0, .ref q1, .ref q2, .ref q4, .ref q6, .int 0, .int 3, .ref q8, .ref q10, .int 0, .int 0, .int 0, .int 0, .int 0, .int 0, .int 0, .int 0, .int 0, .int 0, .int 2147483647, .int 0, .int 2147483647])), (q2, .inl (c3, 1260, .inl f23)), (q4, .inl (c5, 610, .inl (fun _ => 0))), (q6, .inl (c7, 610, .inl (fun _ => 0)))]) hP hD hK [] [0, 1, 2, 3] [0, 1, 2] rfl rfl (by decide) (by decide) rfl hk1 hFc ht hvm hB
  have hP : va_P (dC, dI) cls [(h0, .inr (16, [.ref h1, .int 0, .ref q1, .ref q2, .ref q4, .ref q6, .int 0, .int 3, .ref q8, .ref q10, .int 0, .int 0, .int 0, .int 0, .int 0, .int 0, .int 0, .int 0, .int 0, .int 0, .int 2147483647, .int 0, .int 2147483647])), (q2, .inl (c3, 1260, .inl f23)), (q4, .inl (c5, 610, .inl (fun _ => 0))), (q6, .inl (c7, 610, .inl (fun _ => 0)))] H := hP
  have hD : va_D A [(h0, .inr (16, [.ref h1, .int 0, .ref q1, .ref q2, .ref q4, .ref q6, .int 0, .int 3, .ref q8, .ref q10, .int 0, .int 0, .int 0, .int 0, .int 0, .int 0, .int 0, .int 0, .int 0, .int 0, .int 2147483647, .int 0, .int 2147483647])), (q2, .inl (c3, 1260, .inl f23)), (q4, .inl (c5, 610, .inl (fun _ => 0))), (q6, .inl (c7, 610, .inl (fun _ => 0)))] := hD
  have hK : va_K (dC, dI) cls [(c3, .int), (c5, .int), (c7, .int)] s := hK
  refine W.widen (k := 19) (n := 19730) (Nat.le_of_ble_eq_true rfl) (Nat.le_of_ble_eq_true rfl) ?_
  obtain rfl : r25 = (((((kb (Int32.toNatClampNeg 3)) &&& 255)).toUInt32 % 65536).toInt32) := hw
  refine lv_topC (y := 97) (by decide) ?_
  refine lv_bipush (v := 32) hx hb dX19_init_104 (by decide) ?_
  refine lv_icmp_eq (tgt := 135) hx hb dX19_init_106 (by decide) (fun c => absurd c (by decide)) (fun _ => ?_)
  refine lv_aload_n hx hb dX19_init_109 rfl (lv_at hl 2 rfl) ?_
  refine va_get (D := (dC, dI)) (ci := 16) (v := .ref q2) (C := RX19) (T := TX19) (N := 23) hx hb hts i_X19 hown hK hP 0 rfl rfl 3 (by decide) (hts _ qw403) (fun _ h9 => h9) rfl dX19_init_110 ?_
  refine lv_aload_n hx hb dX19_init_113 rfl (lv_at hl 2 rfl) ?_
  refine lv_dup hx hb dX19_init_114 rfl ?_
  refine va_get (D := (dC, dI)) (ci := 16) (v := .int 3) (C := RX19) (T := TX19) (N := 23) hx hb hts i_X19 hown hK hP 0 rfl rfl 7 (by decide) (hts _ qw421) (fun _ h9 => h9) rfl dX19_init_115 ?_
  refine lv_dup_x1 hx hb dX19_init_118 rfl rfl ?_
  refine lv_iconst (v := 1) hx hb dX19_init_119 (by decide) ?_
  refine lv_iadd hx hb dX19_init_120 ?_
  refine lv_topC (y := 4) (by decide) ?_
  refine va_put (D := (dC, dI)) (ci := 16) (v := .int 4) (ty := .int) (C := RX19) (T := TX19) (N := 23) hx hb hts i_X19 tyX19 tyX19_ok nmX19 hown hK hP hD hS 0 rfl rfl 7 (by decide) (hts _ qw421) (fun _ h9 => h9) rfl (by decide +kernel) rfl rfl (Nat.le_of_ble_eq_true rfl) dX19_init_121 (fun H locs hP hD hS => ?_)
  have hP : va_P (dC, dI) cls [(h0, .inr (16, [.ref h1, .int 0, .ref q1, .ref q2, .ref q4, .ref q6, .int 0, .int 4, .ref q8, .ref q10, .int 0, .int 0, .int 0, .int 0, .int 0, .int 0, .int 0, .int 0, .int 0, .int 0, .int 2147483647, .int 0, .int 2147483647])), (q2, .inl (c3, 1260, .inl f23)), (q4, .inl (c5, 610, .inl (fun _ => 0))), (q6, .inl (c7, 610, .inl (fun _ => 0)))] H := hP
  have hD : va_D A [(h0, .inr (16, [.ref h1, .int 0, .ref q1, .ref q2, .ref q4, .ref q6, .int 0, .int 4, .ref q8, .ref q10, .int 0, .int 0, .int 0, .int 0, .int 0, .int 0, .int 0, .int 0, .int 0, .int 0, .int 2147483647, .int 0, .int 2147483647])), (q2, .inl (c3, 1260, .inl f23)), (q4, .inl (c5, 610, .inl (fun _ => 0))), (q6, .inl (c7, 610, .inl (fun _ => 0)))] := hD
  refine va_ldcS hx hb hown hE.2.2.2.2.2.2.2.2.1 dX19_init_124 ?_
  refine lv_iload hx hb dX19_init_126 (lv_at hl 0 rfl) ?_
  have hPc := hP.sub (ws' := []) [] rfl
  have hDc := hD.sub (ws' := []) [] (by decide) rfl
  have hKc := hK.sub (tys' := []) [] rfl
  have hFc := va_free (wc := []) hD hS hA [] rfl
  refine va_calli (va_runV (As := [.int 3]) (rest := [.int 3, .ref q2]) ⟨hx, hb, hml, hown, hts⟩ (kS_charAt l dC dI (p0 := 3) (sz := _) (h1 := (by decide)) (h2 := (by decide))) (cwV 1 hts (gi_V qw418 qw419 qw420 qw324 (gi_z qw417)) rfl rfl rfl (by decide +kernel) ⟨Nat.le_of_ble_eq_true rfl, Nat.le_of_ble_eq_true rfl⟩) ⟨PRE.blind, STC.recv hE.2.2.2.2.2.2.2.2 hS, PRE.of hE hS hFc hPc hKc hDc⟩ rfl rfl hl.1 rfl (lv_room (Nat.le_of_ble_eq_true rfl)) dX19_init_128 ⟨Nat.le_of_ble_eq_true rfl, Nat.le_of_ble_eq_true rfl⟩) hS (fun q _ h => hFc q h) hFc (fun r26 u t H locs ht hvm hw hB hz1 hk1 hS => ?_)
  obtain ⟨hP, hD, hK⟩ := JOIN (wr := [(h0, .inr (16, [.ref h1, .int 0, .ref q1, .ref q2, .ref q4, .ref q6, .int 0, .int 4, .ref q8, .ref q10, .int 0, .int 0, .int 0, .int 0, .int 0, .int 0, .int 0, .int 0, .int 0, .int 0, .int 2147483647, .int 0, .int 2147483647])), (q2, .inl (c3, 1260, .inl f23)), (q4, .inl (c5, 610, .inl (fun _ => 0))), (q6, .inl (c7, 610, .inl (fun _ => 0)))]) hP hD hK [] [0, 1, 2, 3] [0, 1, 2] rfl rfl (by decide) (by decide) rfl hk1 hFc ht hvm hB
  have hP : va_P (dC, dI) cls [(h0, .inr (16, [.ref h1, .int 0, .ref q1, .ref q2, .ref q4, .ref q6, .int 0, .int 4, .ref q8, .ref q10, .int 0, .int 0, .int 0, .int 0, .int 0, .int 0, .int 0, .int 0, .int 0, .int 0, .int 2147483647, .int 0, .int 2147483647])), (q2, .inl (c3, 1260, .inl f23)), (q4, .inl (c5, 610, .inl (fun _ => 0))), (q6, .inl (c7, 610, .inl (fun _ => 0)))] H := hP
  have hD : va_D A [(h0, .inr (16, [.ref h1, .int 0, .ref q1, .ref q2, .ref q4, .ref q6, .int 0, .int 4, .ref q8, .ref q10, .int 0, .int 0, .int 0, .int 0, .int 0, .int 0, .int 0, .int 0, .int 0, .int 0, .int 2147483647, .int 0, .int 2147483647])), (q2, .inl (c3, 1260, .inl f23)), (q4, .inl (c5, 610, .inl (fun _ => 0))), (q6, .inl (c7, 610, .inl (fun _ => 0)))] := hD
  have hK : va_K (dC, dI) cls [(c3, .int), (c5, .int), (c7, .int)] s := hK
  refine W.widen (k := 19) (n := 19730) (Nat.le_of_ble_eq_true rfl) (Nat.le_of_ble_eq_true rfl) ?_
  obtain rfl : r26 = (((((kb (Int32.toNatClampNeg 3)) &&& 255)).toUInt32 % 65536).toInt32) := hw
  refine lv_topC (y := 97) (by decide) ?_
  refine va_iast hx hb hK hP hD hS 1 0 rfl rfl (by unfold vp_in; decide +kernel) dX19_init_131 (fun H locs hP hD hS => ?_)
  have hP : va_P (dC, dI) cls [(h0, .inr (16, [.ref h1, .int 0, .ref q1, .ref q2, .ref q4, .ref q6, .int 0, .int 4, .ref q8, .ref q10, .int 0, .int 0, .int 0, .int 0, .int 0, .int 0, .int 0, .int 0, .int 0, .int 0, .int 2147483647, .int 0, .int 2147483647])), (q2, .inl (c3, 1260, .inl (upd f23 (Int32.toNatClampNeg 3) 97))), (q4, .inl (c5, 610, .inl (fun _ => 0))), (q6, .inl (c7, 610, .inl (fun _ => 0)))] H := hP
  have hD : va_D A [(h0, .inr (16, [.ref h1, .int 0, .ref q1, .ref q2, .ref q4, .ref q6, .int 0, .int 4, .ref q8, .ref q10, .int 0, .int 0, .int 0, .int 0, .int 0, .int 0, .int 0, .int 0, .int 0, .int 0, .int 2147483647, .int 0, .int 2147483647])), (q2, .inl (c3, 1260, .inl (upd f23 (Int32.toNatClampNeg 3) 97))), (q4, .inl (c5, 610, .inl (fun _ => 0))), (q6, .inl (c7, 610, .inl (fun _ => 0)))] := hD
  generalize upd f23 (Int32.toNatClampNeg 3) 97 = f27 at hP hD
  refine lv_goto (tgt := 146) hx hb dX19_init_132 (by decide) ?_
  refine lv_iinc (v := 4) (lv' := [(4, .int 4), (3, .int 0), (0, .ref h0), (1, .ref h1), (2, .int 0)]) hx hb dX19_init_146 hl (k := 0) rfl (by decide) (by decide) rfl (fun ls hl => ?_)
  refine lv_goto (tgt := 87) hx hb dX19_init_149 (by decide) ?_
  refine lv_iload hx hb dX19_init_87 (lv_at hl 0 rfl) ?_
  refine va_ldcS hx hb hown hE.2.2.2.2.2.2.2.2.1 dX19_init_89 ?_
  have hPc := hP.sub (ws' := []) [] rfl
  have hDc := hD.sub (ws' := []) [] (by decide) rfl
  have hKc := hK.sub (tys' := []) [] rfl
  have hFc := va_free (wc := []) hD hS hA [] rfl
  refine va_calli (va_runV (As := []) (rest := [.int 4]) ⟨hx, hb, hml, hown, hts⟩ (kS_length l dC dI  (sz := _)) (cwV 0 hts (gi_V qw414 qw415 qw416 qw324 (gi_z qw413)) rfl rfl rfl (by decide +kernel) ⟨Nat.le_of_ble_eq_true rfl, Nat.le_of_ble_eq_true rfl⟩) ⟨PRE.blind, STC.recv hE.2.2.2.2.2.2.2.2 hS, PRE.of hE hS hFc hPc hKc hDc⟩ rfl rfl hl.1 rfl (lv_room (Nat.le_of_ble_eq_true rfl)) dX19_init_91 ⟨Nat.le_of_ble_eq_true rfl, Nat.le_of_ble_eq_true rfl⟩) hS (fun q _ h => hFc q h) hFc (fun r28 u t H locs ht hvm hw hB hz1 hk1 hS => ?_)
  obtain ⟨hP, hD, hK⟩ := JOIN (wr := [(h0, .inr (16, [.ref h1, .int 0, .ref q1, .ref q2, .ref q4, .ref q6, .int 0, .int 4, .ref q8, .ref q10, .int 0, .int 0, .int 0, .int 0, .int 0, .int 0, .int 0, .int 0, .int 0, .int 0, .int 2147483647, .int 0, .int 2147483647])), (q2, .inl (c3, 1260, .inl f27)), (q4, .inl (c5, 610, .inl (fun _ => 0))), (q6, .inl (c7, 610, .inl (fun _ => 0)))]) hP hD hK [] [0, 1, 2, 3] [0, 1, 2] rfl rfl (by decide) (by decide) rfl hk1 hFc ht hvm hB
  have hP : va_P (dC, dI) cls [(h0, .inr (16, [.ref h1, .int 0, .ref q1, .ref q2, .ref q4, .ref q6, .int 0, .int 4, .ref q8, .ref q10, .int 0, .int 0, .int 0, .int 0, .int 0, .int 0, .int 0, .int 0, .int 0, .int 0, .int 2147483647, .int 0, .int 2147483647])), (q2, .inl (c3, 1260, .inl f27)), (q4, .inl (c5, 610, .inl (fun _ => 0))), (q6, .inl (c7, 610, .inl (fun _ => 0)))] H := hP
  have hD : va_D A [(h0, .inr (16, [.ref h1, .int 0, .ref q1, .ref q2, .ref q4, .ref q6, .int 0, .int 4, .ref q8, .ref q10, .int 0, .int 0, .int 0, .int 0, .int 0, .int 0, .int 0, .int 0, .int 0, .int 0, .int 2147483647, .int 0, .int 2147483647])), (q2, .inl (c3, 1260, .inl f27)), (q4, .inl (c5, 610, .inl (fun _ => 0))), (q6, .inl (c7, 610, .inl (fun _ => 0)))] := hD
  have hK : va_K (dC, dI) cls [(c3, .int), (c5, .int), (c7, .int)] s := hK
  refine W.widen (k := 19) (n := 19730) (Nat.le_of_ble_eq_true rfl) (Nat.le_of_ble_eq_true rfl) ?_
  obtain rfl : r28 = 44 := hw
  refine lv_icmp_ge (tgt := 152) hx hb dX19_init_94 (by decide) (fun c => absurd c (by decide)) (fun _ => ?_)
  refine va_ldcS hx hb hown hE.2.2.2.2.2.2.2.2.1 dX19_init_97 ?_
  refine lv_iload hx hb dX19_init_99 (lv_at hl 0 rfl) ?_
  have hPc := hP.sub (ws' := []) [] rfl
  have hDc := hD.sub (ws' := []) [] (by decide) rfl
  have hKc := hK.sub (tys' := []) [] rfl
  have hFc := va_free (wc := []) hD hS hA [] rfl
  refine va_calli (va_runV (As := [.int 4]) (rest := []) ⟨hx, hb, hml, hown, hts⟩ (kS_charAt l dC dI (p0 := 4) (sz := _) (h1 := (by decide)) (h2 := (by decide))) (cwV 1 hts (gi_V qw418 qw419 qw420 qw324 (gi_z qw417)) rfl rfl rfl (by decide +kernel) ⟨Nat.le_of_ble_eq_true rfl, Nat.le_of_ble_eq_true rfl⟩) ⟨PRE.blind, STC.recv hE.2.2.2.2.2.2.2.2 hS, PRE.of hE hS hFc hPc hKc hDc⟩ rfl rfl hl.1 rfl (lv_room (Nat.le_of_ble_eq_true rfl)) dX19_init_101 ⟨Nat.le_of_ble_eq_true rfl, Nat.le_of_ble_eq_true rfl⟩) hS (fun q _ h => hFc q h) hFc (fun r29 u t H locs ht hvm hw hB hz1 hk1 hS => ?_)
  obtain ⟨hP, hD, hK⟩ := JOIN (wr := [(h0, .inr (16, [.ref h1, .int 0, .ref q1, .ref q2, .ref q4, .ref q6, .int 0, .int 4, .ref q8, .ref q10, .int 0, .int 0, .int 0, .int 0, .int 0, .int 0, .int 0, .int 0, .int 0, .int 0, .int 2147483647, .int 0, .int 2147483647])), (q2, .inl (c3, 1260, .inl f27)), (q4, .inl (c5, 610, .inl (fun _ => 0))), (q6, .inl (c7, 610, .inl (fun _ => 0)))]) hP hD hK [] [0, 1, 2, 3] [0, 1, 2] rfl rfl (by decide) (by decide) rfl hk1 hFc ht hvm hB
  have hP : va_P (dC, dI) cls [(h0, .inr (16, [.ref h1, .int 0, .ref q1, .ref q2, .ref q4, .ref q6, .int 0, .int 4, .ref q8, .ref q10, .int 0, .int 0, .int 0, .int 0, .int 0, .int 0, .int 0, .int 0, .int 0, .int 0, .int 2147483647, .int 0, .int 2147483647])), (q2, .inl (c3, 1260, .inl f27)), (q4, .inl (c5, 610, .inl (fun _ => 0))), (q6, .inl (c7, 610, .inl (fun _ => 0)))] H := hP
  have hD : va_D A [(h0, .inr (16, [.ref h1, .int 0, .ref q1, .ref q2, .ref q4, .ref q6, .int 0, .int 4, .ref q8, .ref q10, .int 0, .int 0, .int 0, .int 0, .int 0, .int 0, .int 0, .int 0, .int 0, .int 0, .int 2147483647, .int 0, .int 2147483647])), (q2, .inl (c3, 1260, .inl f27)), (q4, .inl (c5, 610, .inl (fun _ => 0))), (q6, .inl (c7, 610, .inl (fun _ => 0)))] := hD
  have hK : va_K (dC, dI) cls [(c3, .int), (c5, .int), (c7, .int)] s := hK
  refine W.widen (k := 19) (n := 19730) (Nat.le_of_ble_eq_true rfl) (Nat.le_of_ble_eq_true rfl) ?_
  obtain rfl : r29 = (((((kb (Int32.toNatClampNeg 4)) &&& 255)).toUInt32 % 65536).toInt32) := hw
  refine lv_topC (y := 107) (by decide) ?_
  refine lv_bipush (v := 32) hx hb dX19_init_104 (by decide) ?_
  refine lv_icmp_eq (tgt := 135) hx hb dX19_init_106 (by decide) (fun c => absurd c (by decide)) (fun _ => ?_)
  refine lv_aload_n hx hb dX19_init_109 rfl (lv_at hl 2 rfl) ?_
  refine va_get (D := (dC, dI)) (ci := 16) (v := .ref q2) (C := RX19) (T := TX19) (N := 23) hx hb hts i_X19 hown hK hP 0 rfl rfl 3 (by decide) (hts _ qw403) (fun _ h9 => h9) rfl dX19_init_110 ?_
  refine lv_aload_n hx hb dX19_init_113 rfl (lv_at hl 2 rfl) ?_
  refine lv_dup hx hb dX19_init_114 rfl ?_
  refine va_get (D := (dC, dI)) (ci := 16) (v := .int 4) (C := RX19) (T := TX19) (N := 23) hx hb hts i_X19 hown hK hP 0 rfl rfl 7 (by decide) (hts _ qw421) (fun _ h9 => h9) rfl dX19_init_115 ?_
  refine lv_dup_x1 hx hb dX19_init_118 rfl rfl ?_
  refine lv_iconst (v := 1) hx hb dX19_init_119 (by decide) ?_
  refine lv_iadd hx hb dX19_init_120 ?_
  refine lv_topC (y := 5) (by decide) ?_
  refine va_put (D := (dC, dI)) (ci := 16) (v := .int 5) (ty := .int) (C := RX19) (T := TX19) (N := 23) hx hb hts i_X19 tyX19 tyX19_ok nmX19 hown hK hP hD hS 0 rfl rfl 7 (by decide) (hts _ qw421) (fun _ h9 => h9) rfl (by decide +kernel) rfl rfl (Nat.le_of_ble_eq_true rfl) dX19_init_121 (fun H locs hP hD hS => ?_)
  have hP : va_P (dC, dI) cls [(h0, .inr (16, [.ref h1, .int 0, .ref q1, .ref q2, .ref q4, .ref q6, .int 0, .int 5, .ref q8, .ref q10, .int 0, .int 0, .int 0, .int 0, .int 0, .int 0, .int 0, .int 0, .int 0, .int 0, .int 2147483647, .int 0, .int 2147483647])), (q2, .inl (c3, 1260, .inl f27)), (q4, .inl (c5, 610, .inl (fun _ => 0))), (q6, .inl (c7, 610, .inl (fun _ => 0)))] H := hP
  have hD : va_D A [(h0, .inr (16, [.ref h1, .int 0, .ref q1, .ref q2, .ref q4, .ref q6, .int 0, .int 5, .ref q8, .ref q10, .int 0, .int 0, .int 0, .int 0, .int 0, .int 0, .int 0, .int 0, .int 0, .int 0, .int 2147483647, .int 0, .int 2147483647])), (q2, .inl (c3, 1260, .inl f27)), (q4, .inl (c5, 610, .inl (fun _ => 0))), (q6, .inl (c7, 610, .inl (fun _ => 0)))] := hD
  refine va_ldcS hx hb hown hE.2.2.2.2.2.2.2.2.1 dX19_init_124 ?_
  refine lv_iload hx hb dX19_init_126 (lv_at hl 0 rfl) ?_
  have hPc := hP.sub (ws' := []) [] rfl
  have hDc := hD.sub (ws' := []) [] (by decide) rfl
  have hKc := hK.sub (tys' := []) [] rfl
  have hFc := va_free (wc := []) hD hS hA [] rfl
  refine va_calli (va_runV (As := [.int 4]) (rest := [.int 4, .ref q2]) ⟨hx, hb, hml, hown, hts⟩ (kS_charAt l dC dI (p0 := 4) (sz := _) (h1 := (by decide)) (h2 := (by decide))) (cwV 1 hts (gi_V qw418 qw419 qw420 qw324 (gi_z qw417)) rfl rfl rfl (by decide +kernel) ⟨Nat.le_of_ble_eq_true rfl, Nat.le_of_ble_eq_true rfl⟩) ⟨PRE.blind, STC.recv hE.2.2.2.2.2.2.2.2 hS, PRE.of hE hS hFc hPc hKc hDc⟩ rfl rfl hl.1 rfl (lv_room (Nat.le_of_ble_eq_true rfl)) dX19_init_128 ⟨Nat.le_of_ble_eq_true rfl, Nat.le_of_ble_eq_true rfl⟩) hS (fun q _ h => hFc q h) hFc (fun r30 u t H locs ht hvm hw hB hz1 hk1 hS => ?_)
  obtain ⟨hP, hD, hK⟩ := JOIN (wr := [(h0, .inr (16, [.ref h1, .int 0, .ref q1, .ref q2, .ref q4, .ref q6, .int 0, .int 5, .ref q8, .ref q10, .int 0, .int 0, .int 0, .int 0, .int 0, .int 0, .int 0, .int 0, .int 0, .int 0, .int 2147483647, .int 0, .int 2147483647])), (q2, .inl (c3, 1260, .inl f27)), (q4, .inl (c5, 610, .inl (fun _ => 0))), (q6, .inl (c7, 610, .inl (fun _ => 0)))]) hP hD hK [] [0, 1, 2, 3] [0, 1, 2] rfl rfl (by decide) (by decide) rfl hk1 hFc ht hvm hB
  have hP : va_P (dC, dI) cls [(h0, .inr (16, [.ref h1, .int 0, .ref q1, .ref q2, .ref q4, .ref q6, .int 0, .int 5, .ref q8, .ref q10, .int 0, .int 0, .int 0, .int 0, .int 0, .int 0, .int 0, .int 0, .int 0, .int 0, .int 2147483647, .int 0, .int 2147483647])), (q2, .inl (c3, 1260, .inl f27)), (q4, .inl (c5, 610, .inl (fun _ => 0))), (q6, .inl (c7, 610, .inl (fun _ => 0)))] H := hP
  have hD : va_D A [(h0, .inr (16, [.ref h1, .int 0, .ref q1, .ref q2, .ref q4, .ref q6, .int 0, .int 5, .ref q8, .ref q10, .int 0, .int 0, .int 0, .int 0, .int 0, .int 0, .int 0, .int 0, .int 0, .int 0, .int 2147483647, .int 0, .int 2147483647])), (q2, .inl (c3, 1260, .inl f27)), (q4, .inl (c5, 610, .inl (fun _ => 0))), (q6, .inl (c7, 610, .inl (fun _ => 0)))] := hD
  have hK : va_K (dC, dI) cls [(c3, .int), (c5, .int), (c7, .int)] s := hK
  refine W.widen (k := 19) (n := 19730) (Nat.le_of_ble_eq_true rfl) (Nat.le_of_ble_eq_true rfl) ?_
  obtain rfl : r30 = (((((kb (Int32.toNatClampNeg 4)) &&& 255)).toUInt32 % 65536).toInt32) := hw
  refine lv_topC (y := 107) (by decide) ?_
  refine va_iast hx hb hK hP hD hS 1 0 rfl rfl (by unfold vp_in; decide +kernel) dX19_init_131 (fun H locs hP hD hS => ?_)
  have hP : va_P (dC, dI) cls [(h0, .inr (16, [.ref h1, .int 0, .ref q1, .ref q2, .ref q4, .ref q6, .int 0, .int 5, .ref q8, .ref q10, .int 0, .int 0, .int 0, .int 0, .int 0, .int 0, .int 0, .int 0, .int 0, .int 0, .int 2147483647, .int 0, .int 2147483647])), (q2, .inl (c3, 1260, .inl (upd f27 (Int32.toNatClampNeg 4) 107))), (q4, .inl (c5, 610, .inl (fun _ => 0))), (q6, .inl (c7, 610, .inl (fun _ => 0)))] H := hP
  have hD : va_D A [(h0, .inr (16, [.ref h1, .int 0, .ref q1, .ref q2, .ref q4, .ref q6, .int 0, .int 5, .ref q8, .ref q10, .int 0, .int 0, .int 0, .int 0, .int 0, .int 0, .int 0, .int 0, .int 0, .int 0, .int 2147483647, .int 0, .int 2147483647])), (q2, .inl (c3, 1260, .inl (upd f27 (Int32.toNatClampNeg 4) 107))), (q4, .inl (c5, 610, .inl (fun _ => 0))), (q6, .inl (c7, 610, .inl (fun _ => 0)))] := hD
  generalize upd f27 (Int32.toNatClampNeg 4) 107 = f31 at hP hD
  refine lv_goto (tgt := 146) hx hb dX19_init_132 (by decide) ?_
  refine lv_iinc (v := 5) (lv' := [(4, .int 5), (3, .int 0), (0, .ref h0), (1, .ref h1), (2, .int 0)]) hx hb dX19_init_146 hl (k := 0) rfl (by decide) (by decide) rfl (fun ls hl => ?_)
  refine lv_goto (tgt := 87) hx hb dX19_init_149 (by decide) ?_
  refine lv_iload hx hb dX19_init_87 (lv_at hl 0 rfl) ?_
  refine va_ldcS hx hb hown hE.2.2.2.2.2.2.2.2.1 dX19_init_89 ?_
  have hPc := hP.sub (ws' := []) [] rfl
  have hDc := hD.sub (ws' := []) [] (by decide) rfl
  have hKc := hK.sub (tys' := []) [] rfl
  have hFc := va_free (wc := []) hD hS hA [] rfl
  refine va_calli (va_runV (As := []) (rest := [.int 5]) ⟨hx, hb, hml, hown, hts⟩ (kS_length l dC dI  (sz := _)) (cwV 0 hts (gi_V qw414 qw415 qw416 qw324 (gi_z qw413)) rfl rfl rfl (by decide +kernel) ⟨Nat.le_of_ble_eq_true rfl, Nat.le_of_ble_eq_true rfl⟩) ⟨PRE.blind, STC.recv hE.2.2.2.2.2.2.2.2 hS, PRE.of hE hS hFc hPc hKc hDc⟩ rfl rfl hl.1 rfl (lv_room (Nat.le_of_ble_eq_true rfl)) dX19_init_91 ⟨Nat.le_of_ble_eq_true rfl, Nat.le_of_ble_eq_true rfl⟩) hS (fun q _ h => hFc q h) hFc (fun r32 u t H locs ht hvm hw hB hz1 hk1 hS => ?_)
  obtain ⟨hP, hD, hK⟩ := JOIN (wr := [(h0, .inr (16, [.ref h1, .int 0, .ref q1, .ref q2, .ref q4, .ref q6, .int 0, .int 5, .ref q8, .ref q10, .int 0, .int 0, .int 0, .int 0, .int 0, .int 0, .int 0, .int 0, .int 0, .int 0, .int 2147483647, .int 0, .int 2147483647])), (q2, .inl (c3, 1260, .inl f31)), (q4, .inl (c5, 610, .inl (fun _ => 0))), (q6, .inl (c7, 610, .inl (fun _ => 0)))]) hP hD hK [] [0, 1, 2, 3] [0, 1, 2] rfl rfl (by decide) (by decide) rfl hk1 hFc ht hvm hB
  have hP : va_P (dC, dI) cls [(h0, .inr (16, [.ref h1, .int 0, .ref q1, .ref q2, .ref q4, .ref q6, .int 0, .int 5, .ref q8, .ref q10, .int 0, .int 0, .int 0, .int 0, .int 0, .int 0, .int 0, .int 0, .int 0, .int 0, .int 2147483647, .int 0, .int 2147483647])), (q2, .inl (c3, 1260, .inl f31)), (q4, .inl (c5, 610, .inl (fun _ => 0))), (q6, .inl (c7, 610, .inl (fun _ => 0)))] H := hP
  have hD : va_D A [(h0, .inr (16, [.ref h1, .int 0, .ref q1, .ref q2, .ref q4, .ref q6, .int 0, .int 5, .ref q8, .ref q10, .int 0, .int 0, .int 0, .int 0, .int 0, .int 0, .int 0, .int 0, .int 0, .int 0, .int 2147483647, .int 0, .int 2147483647])), (q2, .inl (c3, 1260, .inl f31)), (q4, .inl (c5, 610, .inl (fun _ => 0))), (q6, .inl (c7, 610, .inl (fun _ => 0)))] := hD
  have hK : va_K (dC, dI) cls [(c3, .int), (c5, .int), (c7, .int)] s := hK
  refine W.widen (k := 19) (n := 19730) (Nat.le_of_ble_eq_true rfl) (Nat.le_of_ble_eq_true rfl) ?_
  obtain rfl : r32 = 44 := hw
  refine lv_icmp_ge (tgt := 152) hx hb dX19_init_94 (by decide) (fun c => absurd c (by decide)) (fun _ => ?_)
  refine va_ldcS hx hb hown hE.2.2.2.2.2.2.2.2.1 dX19_init_97 ?_
  refine lv_iload hx hb dX19_init_99 (lv_at hl 0 rfl) ?_
  have hPc := hP.sub (ws' := []) [] rfl
  have hDc := hD.sub (ws' := []) [] (by decide) rfl
  have hKc := hK.sub (tys' := []) [] rfl
  have hFc := va_free (wc := []) hD hS hA [] rfl
  refine va_calli (va_runV (As := [.int 5]) (rest := []) ⟨hx, hb, hml, hown, hts⟩ (kS_charAt l dC dI (p0 := 5) (sz := _) (h1 := (by decide)) (h2 := (by decide))) (cwV 1 hts (gi_V qw418 qw419 qw420 qw324 (gi_z qw417)) rfl rfl rfl (by decide +kernel) ⟨Nat.le_of_ble_eq_true rfl, Nat.le_of_ble_eq_true rfl⟩) ⟨PRE.blind, STC.recv hE.2.2.2.2.2.2.2.2 hS, PRE.of hE hS hFc hPc hKc hDc⟩ rfl rfl hl.1 rfl (lv_room (Nat.le_of_ble_eq_true rfl)) dX19_init_101 ⟨Nat.le_of_ble_eq_true rfl, Nat.le_of_ble_eq_true rfl⟩) hS (fun q _ h => hFc q h) hFc (fun r33 u t H locs ht hvm hw hB hz1 hk1 hS => ?_)
  obtain ⟨hP, hD, hK⟩ := JOIN (wr := [(h0, .inr (16, [.ref h1, .int 0, .ref q1, .ref q2, .ref q4, .ref q6, .int 0, .int 5, .ref q8, .ref q10, .int 0, .int 0, .int 0, .int 0, .int 0, .int 0, .int 0, .int 0, .int 0, .int 0, .int 2147483647, .int 0, .int 2147483647])), (q2, .inl (c3, 1260, .inl f31)), (q4, .inl (c5, 610, .inl (fun _ => 0))), (q6, .inl (c7, 610, .inl (fun _ => 0)))]) hP hD hK [] [0, 1, 2, 3] [0, 1, 2] rfl rfl (by decide) (by decide) rfl hk1 hFc ht hvm hB
  have hP : va_P (dC, dI) cls [(h0, .inr (16, [.ref h1, .int 0, .ref q1, .ref q2, .ref q4, .ref q6, .int 0, .int 5, .ref q8, .ref q10, .int 0, .int 0, .int 0, .int 0, .int 0, .int 0, .int 0, .int 0, .int 0, .int 0, .int 2147483647, .int 0, .int 2147483647])), (q2, .inl (c3, 1260, .inl f31)), (q4, .inl (c5, 610, .inl (fun _ => 0))), (q6, .inl (c7, 610, .inl (fun _ => 0)))] H := hP
  have hD : va_D A [(h0, .inr (16, [.ref h1, .int 0, .ref q1, .ref q2, .ref q4, .ref q6, .int 0, .int 5, .ref q8, .ref q10, .int 0, .int 0, .int 0, .int 0, .int 0, .int 0, .int 0, .int 0, .int 0, .int 0, .int 2147483647, .int 0, .int 2147483647])), (q2, .inl (c3, 1260, .inl f31)), (q4, .inl (c5, 610, .inl (fun _ => 0))), (q6, .inl (c7, 610, .inl (fun _ => 0)))] := hD
  have hK : va_K (dC, dI) cls [(c3, .int), (c5, .int), (c7, .int)] s := hK
  refine W.widen (k := 19) (n := 19730) (Nat.le_of_ble_eq_true rfl) (Nat.le_of_ble_eq_true rfl) ?_
  obtain rfl : r33 = (((((kb (Int32.toNatClampNeg 5)) &&& 255)).toUInt32 % 65536).toInt32) := hw
  refine lv_topC (y := 32) (by decide) ?_
  refine lv_bipush (v := 32) hx hb dX19_init_104 (by decide) ?_
  refine lv_icmp_eq (tgt := 135) hx hb dX19_init_106 (by decide) (fun _ => ?_) (fun c => absurd (by decide) c)
  refine lv_aload_n hx hb dX19_init_135 rfl (lv_at hl 2 rfl) ?_
  refine lv_iload_n hx hb dX19_init_136 rfl (lv_at hl 1 rfl) ?_
  have hPc := hP.sub (ws' := [(h0, .inr (16, [.ref h1, .int 0, .ref q1, .ref q2, .ref q4, .ref q6, .int 0, .int 5, .ref q8, .ref q10, .int 0, .int 0, .int 0, .int 0, .int 0, .int 0, .int 0, .int 0, .int 0, .int 0, .int 2147483647, .int 0, .int 2147483647])), (q4, .inl (c5, 610, .inl (fun _ => 0))), (q6, .inl (c7, 610, .inl (fun _ => 0)))]) [0, 2, 3] rfl
  have hDc := hD.sub (ws' := [(h0, .inr (16, [.ref h1, .int 0, .ref q1, .ref q2, .ref q4, .ref q6, .int 0, .int 5, .ref q8, .ref q10, .int 0, .int 0, .int 0, .int 0, .int 0, .int 0, .int 0, .int 0, .int 0, .int 0, .int 2147483647, .int 0, .int 2147483647])), (q4, .inl (c5, 610, .inl (fun _ => 0))), (q6, .inl (c7, 610, .inl (fun _ => 0)))]) [0, 2, 3] (by decide) rfl
  have hKc := hK.sub (tys' := [(c5, .int), (c7, .int)]) [1, 2] rfl
  have hFc := va_free (wc := [(h0, .inr (16, [.ref h1, .int 0, .ref q1, .ref q2, .ref q4, .ref q6, .int 0, .int 5, .ref q8, .ref q10, .int 0, .int 0, .int 0, .int 0, .int 0, .int 0, .int 0, .int 0, .int 0, .int 0, .int 2147483647, .int 0, .int 2147483647])), (q4, .inl (c5, 610, .inl (fun _ => 0))), (q6, .inl (c7, 610, .inl (fun _ => 0)))]) hD hS hA [0, 2, 3] rfl
  refine va_calli (va_runV (As := [.int 0]) (rest := []) ⟨hx, hb, hml, hown, hts⟩ (kX19_keep_n26 l dC dI (a0 := h0) (a1 := h1) (a2 := q1) (a3 := q2) (a4 := q4) (a5 := q6) (a6 := q8) (a7 := q10) (k10 := c5) (k11 := c7) (sz := _)) (cwV 1 hts (gi_V qw424 qw425 qw426 qw427 (gi_z qw423)) rfl rfl rfl (by decide +kernel) ⟨Nat.le_of_ble_eq_true rfl, Nat.le_of_ble_eq_true rfl⟩) ⟨PRE.blind, va_recv hKc hPc (ci := 16) (q0 := 0) rfl rfl, PRE.of hE hS hFc hPc hKc hDc⟩ rfl rfl hl.1 rfl (lv_room (Nat.le_of_ble_eq_true rfl)) dX19_init_137 ⟨Nat.le_of_ble_eq_true rfl, Nat.le_of_ble_eq_true rfl⟩) hS (fun q _ h => hFc q h) hFc (fun r34 u t H locs ht hvm hw hB hz1 hk1 hS => ?_)
  obtain ⟨f35, f36, hB⟩ := hB
  obtain ⟨hP, hD, hK⟩ := JOIN (wr := [(q2, .inl (c3, 1260, .inl f31))]) hP hD hK [0, 2, 3] [1] [0] rfl rfl (by decide) (by decide) rfl hk1 hFc ht hvm hB
  have hP : va_P (dC, dI) cls [(q2, .inl (c3, 1260, .inl f31)), (h0, .inr (16, [.ref h1, .int 0, .ref q1, .ref q2, .ref q4, .ref q6, .int 1, .int 5, .ref q8, .ref q10, .int 0, .int 0, .int 0, .int 0, .int 0, .int 0, .int 0, .int 0, .int 0, .int 0, .int 2147483647, .int 0, .int 2147483647])), (q4, .inl (c5, 610, .inl f35)), (q6, .inl (c7, 610, .inl f36))] H := hP
  have hD : va_D A [(q2, .inl (c3, 1260, .inl f31)), (h0, .inr (16, [.ref h1, .int 0, .ref q1, .ref q2, .ref q4, .ref q6, .int 1, .int 5, .ref q8, .ref q10, .int 0, .int 0, .int 0, .int 0, .int 0, .int 0, .int 0, .int 0, .int 0, .int 0, .int 2147483647, .int 0, .int 2147483647])), (q4, .inl (c5, 610, .inl f35)), (q6, .inl (c7, 610, .inl f36))] := hD
  have hK : va_K (dC, dI) cls [(c3, .int), (c5, .int), (c7, .int)] s := hK
  refine W.widen (k := 19) (n := 19730) (Nat.le_of_ble_eq_true rfl) (Nat.le_of_ble_eq_true rfl) ?_
  obtain rfl : r34 = 0 := hw
  refine lv_pop hx hb dX19_init_140 rfl ?_
  refine lv_aload_n hx hb dX19_init_141 rfl (lv_at hl 2 rfl) ?_
  refine va_get (D := (dC, dI)) (ci := 16) (v := .int 5) (C := RX19) (T := TX19) (N := 23) hx hb hts i_X19 hown hK hP 1 rfl rfl 7 (by decide) (hts _ qw421) (fun _ h9 => h9) rfl dX19_init_142 ?_
  refine lv_istore_n (lv' := [(3, .int 5), (4, .int 5), (0, .ref h0), (1, .ref h1), (2, .int 0)]) hx hb dX19_init_145 rfl hl (by decide) rfl (fun ls hl => ?_)
  refine lv_iinc (v := 6) (lv' := [(4, .int 6), (3, .int 5), (0, .ref h0), (1, .ref h1), (2, .int 0)]) hx hb dX19_init_146 hl (k := 1) rfl (by decide) (by decide) rfl (fun ls hl => ?_)
  refine lv_goto (tgt := 87) hx hb dX19_init_149 (by decide) ?_
  refine lv_iload hx hb dX19_init_87 (lv_at hl 0 rfl) ?_
  refine va_ldcS hx hb hown hE.2.2.2.2.2.2.2.2.1 dX19_init_89 ?_
  have hPc := hP.sub (ws' := []) [] rfl
  have hDc := hD.sub (ws' := []) [] (by decide) rfl
  have hKc := hK.sub (tys' := []) [] rfl
  have hFc := va_free (wc := []) hD hS hA [] rfl
  refine va_calli (va_runV (As := []) (rest := [.int 6]) ⟨hx, hb, hml, hown, hts⟩ (kS_length l dC dI  (sz := _)) (cwV 0 hts (gi_V qw414 qw415 qw416 qw324 (gi_z qw413)) rfl rfl rfl (by decide +kernel) ⟨Nat.le_of_ble_eq_true rfl, Nat.le_of_ble_eq_true rfl⟩) ⟨PRE.blind, STC.recv hE.2.2.2.2.2.2.2.2 hS, PRE.of hE hS hFc hPc hKc hDc⟩ rfl rfl hl.1 rfl (lv_room (Nat.le_of_ble_eq_true rfl)) dX19_init_91 ⟨Nat.le_of_ble_eq_true rfl, Nat.le_of_ble_eq_true rfl⟩) hS (fun q _ h => hFc q h) hFc (fun r37 u t H locs ht hvm hw hB hz1 hk1 hS => ?_)
  obtain ⟨hP, hD, hK⟩ := JOIN (wr := [(q2, .inl (c3, 1260, .inl f31)), (h0, .inr (16, [.ref h1, .int 0, .ref q1, .ref q2, .ref q4, .ref q6, .int 1, .int 5, .ref q8, .ref q10, .int 0, .int 0, .int 0, .int 0, .int 0, .int 0, .int 0, .int 0, .int 0, .int 0, .int 2147483647, .int 0, .int 2147483647])), (q4, .inl (c5, 610, .inl f35)), (q6, .inl (c7, 610, .inl f36))]) hP hD hK [] [0, 1, 2, 3] [0, 1, 2] rfl rfl (by decide) (by decide) rfl hk1 hFc ht hvm hB
  have hP : va_P (dC, dI) cls [(q2, .inl (c3, 1260, .inl f31)), (h0, .inr (16, [.ref h1, .int 0, .ref q1, .ref q2, .ref q4, .ref q6, .int 1, .int 5, .ref q8, .ref q10, .int 0, .int 0, .int 0, .int 0, .int 0, .int 0, .int 0, .int 0, .int 0, .int 0, .int 2147483647, .int 0, .int 2147483647])), (q4, .inl (c5, 610, .inl f35)), (q6, .inl (c7, 610, .inl f36))] H := hP
  have hD : va_D A [(q2, .inl (c3, 1260, .inl f31)), (h0, .inr (16, [.ref h1, .int 0, .ref q1, .ref q2, .ref q4, .ref q6, .int 1, .int 5, .ref q8, .ref q10, .int 0, .int 0, .int 0, .int 0, .int 0, .int 0, .int 0, .int 0, .int 0, .int 0, .int 2147483647, .int 0, .int 2147483647])), (q4, .inl (c5, 610, .inl f35)), (q6, .inl (c7, 610, .inl f36))] := hD
  have hK : va_K (dC, dI) cls [(c3, .int), (c5, .int), (c7, .int)] s := hK
  refine W.widen (k := 19) (n := 19730) (Nat.le_of_ble_eq_true rfl) (Nat.le_of_ble_eq_true rfl) ?_
  obtain rfl : r37 = 44 := hw
  refine lv_icmp_ge (tgt := 152) hx hb dX19_init_94 (by decide) (fun c => absurd c (by decide)) (fun _ => ?_)
  refine va_ldcS hx hb hown hE.2.2.2.2.2.2.2.2.1 dX19_init_97 ?_
  refine lv_iload hx hb dX19_init_99 (lv_at hl 0 rfl) ?_
  have hPc := hP.sub (ws' := []) [] rfl
  have hDc := hD.sub (ws' := []) [] (by decide) rfl
  have hKc := hK.sub (tys' := []) [] rfl
  have hFc := va_free (wc := []) hD hS hA [] rfl
  refine va_calli (va_runV (As := [.int 6]) (rest := []) ⟨hx, hb, hml, hown, hts⟩ (kS_charAt l dC dI (p0 := 6) (sz := _) (h1 := (by decide)) (h2 := (by decide))) (cwV 1 hts (gi_V qw418 qw419 qw420 qw324 (gi_z qw417)) rfl rfl rfl (by decide +kernel) ⟨Nat.le_of_ble_eq_true rfl, Nat.le_of_ble_eq_true rfl⟩) ⟨PRE.blind, STC.recv hE.2.2.2.2.2.2.2.2 hS, PRE.of hE hS hFc hPc hKc hDc⟩ rfl rfl hl.1 rfl (lv_room (Nat.le_of_ble_eq_true rfl)) dX19_init_101 ⟨Nat.le_of_ble_eq_true rfl, Nat.le_of_ble_eq_true rfl⟩) hS (fun q _ h => hFc q h) hFc (fun r38 u t H locs ht hvm hw hB hz1 hk1 hS => ?_)
  obtain ⟨hP, hD, hK⟩ := JOIN (wr := [(q2, .inl (c3, 1260, .inl f31)), (h0, .inr (16, [.ref h1, .int 0, .ref q1, .ref q2, .ref q4, .ref q6, .int 1, .int 5, .ref q8, .ref q10, .int 0, .int 0, .int 0, .int 0, .int 0, .int 0, .int 0, .int 0, .int 0, .int 0, .int 2147483647, .int 0, .int 2147483647])), (q4, .inl (c5, 610, .inl f35)), (q6, .inl (c7, 610, .inl f36))]) hP hD hK [] [0, 1, 2, 3] [0, 1, 2] rfl rfl (by decide) (by decide) rfl hk1 hFc ht hvm hB
  have hP : va_P (dC, dI) cls [(q2, .inl (c3, 1260, .inl f31)), (h0, .inr (16, [.ref h1, .int 0, .ref q1, .ref q2, .ref q4, .ref q6, .int 1, .int 5, .ref q8, .ref q10, .int 0, .int 0, .int 0, .int 0, .int 0, .int 0, .int 0, .int 0, .int 0, .int 0, .int 2147483647, .int 0, .int 2147483647])), (q4, .inl (c5, 610, .inl f35)), (q6, .inl (c7, 610, .inl f36))] H := hP
  have hD : va_D A [(q2, .inl (c3, 1260, .inl f31)), (h0, .inr (16, [.ref h1, .int 0, .ref q1, .ref q2, .ref q4, .ref q6, .int 1, .int 5, .ref q8, .ref q10, .int 0, .int 0, .int 0, .int 0, .int 0, .int 0, .int 0, .int 0, .int 0, .int 0, .int 2147483647, .int 0, .int 2147483647])), (q4, .inl (c5, 610, .inl f35)), (q6, .inl (c7, 610, .inl f36))] := hD
  have hK : va_K (dC, dI) cls [(c3, .int), (c5, .int), (c7, .int)] s := hK
  refine W.widen (k := 19) (n := 19730) (Nat.le_of_ble_eq_true rfl) (Nat.le_of_ble_eq_true rfl) ?_
  obtain rfl : r38 = (((((kb (Int32.toNatClampNeg 6)) &&& 255)).toUInt32 % 65536).toInt32) := hw
  refine lv_topC (y := 99) (by decide) ?_
  refine lv_bipush (v := 32) hx hb dX19_init_104 (by decide) ?_
  refine lv_icmp_eq (tgt := 135) hx hb dX19_init_106 (by decide) (fun c => absurd c (by decide)) (fun _ => ?_)
  refine lv_aload_n hx hb dX19_init_109 rfl (lv_at hl 2 rfl) ?_
  refine va_get (D := (dC, dI)) (ci := 16) (v := .ref q2) (C := RX19) (T := TX19) (N := 23) hx hb hts i_X19 hown hK hP 1 rfl rfl 3 (by decide) (hts _ qw403) (fun _ h9 => h9) rfl dX19_init_110 ?_
  refine lv_aload_n hx hb dX19_init_113 rfl (lv_at hl 2 rfl) ?_
  refine lv_dup hx hb dX19_init_114 rfl ?_
  refine va_get (D := (dC, dI)) (ci := 16) (v := .int 5) (C := RX19) (T := TX19) (N := 23) hx hb hts i_X19 hown hK hP 1 rfl rfl 7 (by decide) (hts _ qw421) (fun _ h9 => h9) rfl dX19_init_115 ?_
  refine lv_dup_x1 hx hb dX19_init_118 rfl rfl ?_
  refine lv_iconst (v := 1) hx hb dX19_init_119 (by decide) ?_
  refine lv_iadd hx hb dX19_init_120 ?_
  refine lv_topC (y := 6) (by decide) ?_
  refine va_put (D := (dC, dI)) (ci := 16) (v := .int 6) (ty := .int) (C := RX19) (T := TX19) (N := 23) hx hb hts i_X19 tyX19 tyX19_ok nmX19 hown hK hP hD hS 1 rfl rfl 7 (by decide) (hts _ qw421) (fun _ h9 => h9) rfl (by decide +kernel) rfl rfl (Nat.le_of_ble_eq_true rfl) dX19_init_121 (fun H locs hP hD hS => ?_)
  have hP : va_P (dC, dI) cls [(q2, .inl (c3, 1260, .inl f31)), (h0, .inr (16, [.ref h1, .int 0, .ref q1, .ref q2, .ref q4, .ref q6, .int 1, .int 6, .ref q8, .ref q10, .int 0, .int 0, .int 0, .int 0, .int 0, .int 0, .int 0, .int 0, .int 0, .int 0, .int 2147483647, .int 0, .int 2147483647])), (q4, .inl (c5, 610, .inl f35)), (q6, .inl (c7, 610, .inl f36))] H := hP
  have hD : va_D A [(q2, .inl (c3, 1260, .inl f31)), (h0, .inr (16, [.ref h1, .int 0, .ref q1, .ref q2, .ref q4, .ref q6, .int 1, .int 6, .ref q8, .ref q10, .int 0, .int 0, .int 0, .int 0, .int 0, .int 0, .int 0, .int 0, .int 0, .int 0, .int 2147483647, .int 0, .int 2147483647])), (q4, .inl (c5, 610, .inl f35)), (q6, .inl (c7, 610, .inl f36))] := hD
  refine va_ldcS hx hb hown hE.2.2.2.2.2.2.2.2.1 dX19_init_124 ?_
  refine lv_iload hx hb dX19_init_126 (lv_at hl 0 rfl) ?_
  have hPc := hP.sub (ws' := []) [] rfl
  have hDc := hD.sub (ws' := []) [] (by decide) rfl
  have hKc := hK.sub (tys' := []) [] rfl
  have hFc := va_free (wc := []) hD hS hA [] rfl
  refine va_calli (va_runV (As := [.int 6]) (rest := [.int 5, .ref q2]) ⟨hx, hb, hml, hown, hts⟩ (kS_charAt l dC dI (p0 := 6) (sz := _) (h1 := (by decide)) (h2 := (by decide))) (cwV 1 hts (gi_V qw418 qw419 qw420 qw324 (gi_z qw417)) rfl rfl rfl (by decide +kernel) ⟨Nat.le_of_ble_eq_true rfl, Nat.le_of_ble_eq_true rfl⟩) ⟨PRE.blind, STC.recv hE.2.2.2.2.2.2.2.2 hS, PRE.of hE hS hFc hPc hKc hDc⟩ rfl rfl hl.1 rfl (lv_room (Nat.le_of_ble_eq_true rfl)) dX19_init_128 ⟨Nat.le_of_ble_eq_true rfl, Nat.le_of_ble_eq_true rfl⟩) hS (fun q _ h => hFc q h) hFc (fun r39 u t H locs ht hvm hw hB hz1 hk1 hS => ?_)
  obtain ⟨hP, hD, hK⟩ := JOIN (wr := [(q2, .inl (c3, 1260, .inl f31)), (h0, .inr (16, [.ref h1, .int 0, .ref q1, .ref q2, .ref q4, .ref q6, .int 1, .int 6, .ref q8, .ref q10, .int 0, .int 0, .int 0, .int 0, .int 0, .int 0, .int 0, .int 0, .int 0, .int 0, .int 2147483647, .int 0, .int 2147483647])), (q4, .inl (c5, 610, .inl f35)), (q6, .inl (c7, 610, .inl f36))]) hP hD hK [] [0, 1, 2, 3] [0, 1, 2] rfl rfl (by decide) (by decide) rfl hk1 hFc ht hvm hB
  have hP : va_P (dC, dI) cls [(q2, .inl (c3, 1260, .inl f31)), (h0, .inr (16, [.ref h1, .int 0, .ref q1, .ref q2, .ref q4, .ref q6, .int 1, .int 6, .ref q8, .ref q10, .int 0, .int 0, .int 0, .int 0, .int 0, .int 0, .int 0, .int 0, .int 0, .int 0, .int 2147483647, .int 0, .int 2147483647])), (q4, .inl (c5, 610, .inl f35)), (q6, .inl (c7, 610, .inl f36))] H := hP
  have hD : va_D A [(q2, .inl (c3, 1260, .inl f31)), (h0, .inr (16, [.ref h1, .int 0, .ref q1, .ref q2, .ref q4, .ref q6, .int 1, .int 6, .ref q8, .ref q10, .int 0, .int 0, .int 0, .int 0, .int 0, .int 0, .int 0, .int 0, .int 0, .int 0, .int 2147483647, .int 0, .int 2147483647])), (q4, .inl (c5, 610, .inl f35)), (q6, .inl (c7, 610, .inl f36))] := hD
  have hK : va_K (dC, dI) cls [(c3, .int), (c5, .int), (c7, .int)] s := hK
  refine W.widen (k := 19) (n := 19730) (Nat.le_of_ble_eq_true rfl) (Nat.le_of_ble_eq_true rfl) ?_
  obtain rfl : r39 = (((((kb (Int32.toNatClampNeg 6)) &&& 255)).toUInt32 % 65536).toInt32) := hw
  refine lv_topC (y := 99) (by decide) ?_
  refine va_iast hx hb hK hP hD hS 0 0 rfl rfl (by unfold vp_in; decide +kernel) dX19_init_131 (fun H locs hP hD hS => ?_)
  have hP : va_P (dC, dI) cls [(q2, .inl (c3, 1260, .inl (upd f31 (Int32.toNatClampNeg 5) 99))), (h0, .inr (16, [.ref h1, .int 0, .ref q1, .ref q2, .ref q4, .ref q6, .int 1, .int 6, .ref q8, .ref q10, .int 0, .int 0, .int 0, .int 0, .int 0, .int 0, .int 0, .int 0, .int 0, .int 0, .int 2147483647, .int 0, .int 2147483647])), (q4, .inl (c5, 610, .inl f35)), (q6, .inl (c7, 610, .inl f36))] H := hP
  have hD : va_D A [(q2, .inl (c3, 1260, .inl (upd f31 (Int32.toNatClampNeg 5) 99))), (h0, .inr (16, [.ref h1, .int 0, .ref q1, .ref q2, .ref q4, .ref q6, .int 1, .int 6, .ref q8, .ref q10, .int 0, .int 0, .int 0, .int 0, .int 0, .int 0, .int 0, .int 0, .int 0, .int 0, .int 2147483647, .int 0, .int 2147483647])), (q4, .inl (c5, 610, .inl f35)), (q6, .inl (c7, 610, .inl f36))] := hD
  generalize upd f31 (Int32.toNatClampNeg 5) 99 = f40 at hP hD
  refine lv_goto (tgt := 146) hx hb dX19_init_132 (by decide) ?_
  refine lv_iinc (v := 7) (lv' := [(4, .int 7), (3, .int 5), (0, .ref h0), (1, .ref h1), (2, .int 0)]) hx hb dX19_init_146 hl (k := 0) rfl (by decide) (by decide) rfl (fun ls hl => ?_)
  refine lv_goto (tgt := 87) hx hb dX19_init_149 (by decide) ?_
  refine lv_iload hx hb dX19_init_87 (lv_at hl 0 rfl) ?_
  refine va_ldcS hx hb hown hE.2.2.2.2.2.2.2.2.1 dX19_init_89 ?_
  have hPc := hP.sub (ws' := []) [] rfl
  have hDc := hD.sub (ws' := []) [] (by decide) rfl
  have hKc := hK.sub (tys' := []) [] rfl
  have hFc := va_free (wc := []) hD hS hA [] rfl
  refine va_calli (va_runV (As := []) (rest := [.int 7]) ⟨hx, hb, hml, hown, hts⟩ (kS_length l dC dI  (sz := _)) (cwV 0 hts (gi_V qw414 qw415 qw416 qw324 (gi_z qw413)) rfl rfl rfl (by decide +kernel) ⟨Nat.le_of_ble_eq_true rfl, Nat.le_of_ble_eq_true rfl⟩) ⟨PRE.blind, STC.recv hE.2.2.2.2.2.2.2.2 hS, PRE.of hE hS hFc hPc hKc hDc⟩ rfl rfl hl.1 rfl (lv_room (Nat.le_of_ble_eq_true rfl)) dX19_init_91 ⟨Nat.le_of_ble_eq_true rfl, Nat.le_of_ble_eq_true rfl⟩) hS (fun q _ h => hFc q h) hFc (fun r41 u t H locs ht hvm hw hB hz1 hk1 hS => ?_)
  obtain ⟨hP, hD, hK⟩ := JOIN (wr := [(q2, .inl (c3, 1260, .inl f40)), (h0, .inr (16, [.ref h1, .int 0, .ref q1, .ref q2, .ref q4, .ref q6, .int 1, .int 6, .ref q8, .ref q10, .int 0, .int 0, .int 0, .int 0, .int 0, .int 0, .int 0, .int 0, .int 0, .int 0, .int 2147483647, .int 0, .int 2147483647])), (q4, .inl (c5, 610, .inl f35)), (q6, .inl (c7, 610, .inl f36))]) hP hD hK [] [0, 1, 2, 3] [0, 1, 2] rfl rfl (by decide) (by decide) rfl hk1 hFc ht hvm hB
  have hP : va_P (dC, dI) cls [(q2, .inl (c3, 1260, .inl f40)), (h0, .inr (16, [.ref h1, .int 0, .ref q1, .ref q2, .ref q4, .ref q6, .int 1, .int 6, .ref q8, .ref q10, .int 0, .int 0, .int 0, .int 0, .int 0, .int 0, .int 0, .int 0, .int 0, .int 0, .int 2147483647, .int 0, .int 2147483647])), (q4, .inl (c5, 610, .inl f35)), (q6, .inl (c7, 610, .inl f36))] H := hP
  have hD : va_D A [(q2, .inl (c3, 1260, .inl f40)), (h0, .inr (16, [.ref h1, .int 0, .ref q1, .ref q2, .ref q4, .ref q6, .int 1, .int 6, .ref q8, .ref q10, .int 0, .int 0, .int 0, .int 0, .int 0, .int 0, .int 0, .int 0, .int 0, .int 0, .int 2147483647, .int 0, .int 2147483647])), (q4, .inl (c5, 610, .inl f35)), (q6, .inl (c7, 610, .inl f36))] := hD
  have hK : va_K (dC, dI) cls [(c3, .int), (c5, .int), (c7, .int)] s := hK
  refine W.widen (k := 19) (n := 19730) (Nat.le_of_ble_eq_true rfl) (Nat.le_of_ble_eq_true rfl) ?_
  obtain rfl : r41 = 44 := hw
  refine lv_icmp_ge (tgt := 152) hx hb dX19_init_94 (by decide) (fun c => absurd c (by decide)) (fun _ => ?_)
  refine va_ldcS hx hb hown hE.2.2.2.2.2.2.2.2.1 dX19_init_97 ?_
  refine lv_iload hx hb dX19_init_99 (lv_at hl 0 rfl) ?_
  have hPc := hP.sub (ws' := []) [] rfl
  have hDc := hD.sub (ws' := []) [] (by decide) rfl
  have hKc := hK.sub (tys' := []) [] rfl
  have hFc := va_free (wc := []) hD hS hA [] rfl
  refine va_calli (va_runV (As := [.int 7]) (rest := []) ⟨hx, hb, hml, hown, hts⟩ (kS_charAt l dC dI (p0 := 7) (sz := _) (h1 := (by decide)) (h2 := (by decide))) (cwV 1 hts (gi_V qw418 qw419 qw420 qw324 (gi_z qw417)) rfl rfl rfl (by decide +kernel) ⟨Nat.le_of_ble_eq_true rfl, Nat.le_of_ble_eq_true rfl⟩) ⟨PRE.blind, STC.recv hE.2.2.2.2.2.2.2.2 hS, PRE.of hE hS hFc hPc hKc hDc⟩ rfl rfl hl.1 rfl (lv_room (Nat.le_of_ble_eq_true rfl)) dX19_init_101 ⟨Nat.le_of_ble_eq_true rfl, Nat.le_of_ble_eq_true rfl⟩) hS (fun q _ h => hFc q h) hFc (fun r42 u t H locs ht hvm hw hB hz1 hk1 hS => ?_)
  obtain ⟨hP, hD, hK⟩ := JOIN (wr := [(q2, .inl (c3, 1260, .inl f40)), (h0, .inr (16, [.ref h1, .int 0, .ref q1, .ref q2, .ref q4, .ref q6, .int 1, .int 6, .ref q8, .ref q10, .int 0, .int 0, .int 0, .int 0, .int 0, .int 0, .int 0, .int 0, .int 0, .int 0, .int 2147483647, .int 0, .int 2147483647])), (q4, .inl (c5, 610, .inl f35)), (q6, .inl (c7, 610, .inl f36))]) hP hD hK [] [0, 1, 2, 3] [0, 1, 2] rfl rfl (by decide) (by decide) rfl hk1 hFc ht hvm hB
  have hP : va_P (dC, dI) cls [(q2, .inl (c3, 1260, .inl f40)), (h0, .inr (16, [.ref h1, .int 0, .ref q1, .ref q2, .ref q4, .ref q6, .int 1, .int 6, .ref q8, .ref q10, .int 0, .int 0, .int 0, .int 0, .int 0, .int 0, .int 0, .int 0, .int 0, .int 0, .int 2147483647, .int 0, .int 2147483647])), (q4, .inl (c5, 610, .inl f35)), (q6, .inl (c7, 610, .inl f36))] H := hP
  have hD : va_D A [(q2, .inl (c3, 1260, .inl f40)), (h0, .inr (16, [.ref h1, .int 0, .ref q1, .ref q2, .ref q4, .ref q6, .int 1, .int 6, .ref q8, .ref q10, .int 0, .int 0, .int 0, .int 0, .int 0, .int 0, .int 0, .int 0, .int 0, .int 0, .int 2147483647, .int 0, .int 2147483647])), (q4, .inl (c5, 610, .inl f35)), (q6, .inl (c7, 610, .inl f36))] := hD
  have hK : va_K (dC, dI) cls [(c3, .int), (c5, .int), (c7, .int)] s := hK
  refine W.widen (k := 19) (n := 19730) (Nat.le_of_ble_eq_true rfl) (Nat.le_of_ble_eq_true rfl) ?_
  obtain rfl : r42 = (((((kb (Int32.toNatClampNeg 7)) &&& 255)).toUInt32 % 65536).toInt32) := hw
  refine lv_topC (y := 111) (by decide) ?_
  refine lv_bipush (v := 32) hx hb dX19_init_104 (by decide) ?_
  refine lv_icmp_eq (tgt := 135) hx hb dX19_init_106 (by decide) (fun c => absurd c (by decide)) (fun _ => ?_)
  refine lv_aload_n hx hb dX19_init_109 rfl (lv_at hl 2 rfl) ?_
  refine va_get (D := (dC, dI)) (ci := 16) (v := .ref q2) (C := RX19) (T := TX19) (N := 23) hx hb hts i_X19 hown hK hP 1 rfl rfl 3 (by decide) (hts _ qw403) (fun _ h9 => h9) rfl dX19_init_110 ?_
  refine lv_aload_n hx hb dX19_init_113 rfl (lv_at hl 2 rfl) ?_
  refine lv_dup hx hb dX19_init_114 rfl ?_
  refine va_get (D := (dC, dI)) (ci := 16) (v := .int 6) (C := RX19) (T := TX19) (N := 23) hx hb hts i_X19 hown hK hP 1 rfl rfl 7 (by decide) (hts _ qw421) (fun _ h9 => h9) rfl dX19_init_115 ?_
  refine lv_dup_x1 hx hb dX19_init_118 rfl rfl ?_
  refine lv_iconst (v := 1) hx hb dX19_init_119 (by decide) ?_
  refine lv_iadd hx hb dX19_init_120 ?_
  refine lv_topC (y := 7) (by decide) ?_
  refine va_put (D := (dC, dI)) (ci := 16) (v := .int 7) (ty := .int) (C := RX19) (T := TX19) (N := 23) hx hb hts i_X19 tyX19 tyX19_ok nmX19 hown hK hP hD hS 1 rfl rfl 7 (by decide) (hts _ qw421) (fun _ h9 => h9) rfl (by decide +kernel) rfl rfl (Nat.le_of_ble_eq_true rfl) dX19_init_121 (fun H locs hP hD hS => ?_)
  have hP : va_P (dC, dI) cls [(q2, .inl (c3, 1260, .inl f40)), (h0, .inr (16, [.ref h1, .int 0, .ref q1, .ref q2, .ref q4, .ref q6, .int 1, .int 7, .ref q8, .ref q10, .int 0, .int 0, .int 0, .int 0, .int 0, .int 0, .int 0, .int 0, .int 0, .int 0, .int 2147483647, .int 0, .int 2147483647])), (q4, .inl (c5, 610, .inl f35)), (q6, .inl (c7, 610, .inl f36))] H := hP
  have hD : va_D A [(q2, .inl (c3, 1260, .inl f40)), (h0, .inr (16, [.ref h1, .int 0, .ref q1, .ref q2, .ref q4, .ref q6, .int 1, .int 7, .ref q8, .ref q10, .int 0, .int 0, .int 0, .int 0, .int 0, .int 0, .int 0, .int 0, .int 0, .int 0, .int 2147483647, .int 0, .int 2147483647])), (q4, .inl (c5, 610, .inl f35)), (q6, .inl (c7, 610, .inl f36))] := hD
  refine va_ldcS hx hb hown hE.2.2.2.2.2.2.2.2.1 dX19_init_124 ?_
  refine lv_iload hx hb dX19_init_126 (lv_at hl 0 rfl) ?_
  have hPc := hP.sub (ws' := []) [] rfl
  have hDc := hD.sub (ws' := []) [] (by decide) rfl
  have hKc := hK.sub (tys' := []) [] rfl
  have hFc := va_free (wc := []) hD hS hA [] rfl
  refine va_calli (va_runV (As := [.int 7]) (rest := [.int 6, .ref q2]) ⟨hx, hb, hml, hown, hts⟩ (kS_charAt l dC dI (p0 := 7) (sz := _) (h1 := (by decide)) (h2 := (by decide))) (cwV 1 hts (gi_V qw418 qw419 qw420 qw324 (gi_z qw417)) rfl rfl rfl (by decide +kernel) ⟨Nat.le_of_ble_eq_true rfl, Nat.le_of_ble_eq_true rfl⟩) ⟨PRE.blind, STC.recv hE.2.2.2.2.2.2.2.2 hS, PRE.of hE hS hFc hPc hKc hDc⟩ rfl rfl hl.1 rfl (lv_room (Nat.le_of_ble_eq_true rfl)) dX19_init_128 ⟨Nat.le_of_ble_eq_true rfl, Nat.le_of_ble_eq_true rfl⟩) hS (fun q _ h => hFc q h) hFc (fun r43 u t H locs ht hvm hw hB hz1 hk1 hS => ?_)
  obtain ⟨hP, hD, hK⟩ := JOIN (wr := [(q2, .inl (c3, 1260, .inl f40)), (h0, .inr (16, [.ref h1, .int 0, .ref q1, .ref q2, .ref q4, .ref q6, .int 1, .int 7, .ref q8, .ref q10, .int 0, .int 0, .int 0, .int 0, .int 0, .int 0, .int 0, .int 0, .int 0, .int 0, .int 2147483647, .int 0, .int 2147483647])), (q4, .inl (c5, 610, .inl f35)), (q6, .inl (c7, 610, .inl f36))]) hP hD hK [] [0, 1, 2, 3] [0, 1, 2] rfl rfl (by decide) (by decide) rfl hk1 hFc ht hvm hB
  have hP : va_P (dC, dI) cls [(q2, .inl (c3, 1260, .inl f40)), (h0, .inr (16, [.ref h1, .int 0, .ref q1, .ref q2, .ref q4, .ref q6, .int 1, .int 7, .ref q8, .ref q10, .int 0, .int 0, .int 0, .int 0, .int 0, .int 0, .int 0, .int 0, .int 0, .int 0, .int 2147483647, .int 0, .int 2147483647])), (q4, .inl (c5, 610, .inl f35)), (q6, .inl (c7, 610, .inl f36))] H := hP
  have hD : va_D A [(q2, .inl (c3, 1260, .inl f40)), (h0, .inr (16, [.ref h1, .int 0, .ref q1, .ref q2, .ref q4, .ref q6, .int 1, .int 7, .ref q8, .ref q10, .int 0, .int 0, .int 0, .int 0, .int 0, .int 0, .int 0, .int 0, .int 0, .int 0, .int 2147483647, .int 0, .int 2147483647])), (q4, .inl (c5, 610, .inl f35)), (q6, .inl (c7, 610, .inl f36))] := hD
  have hK : va_K (dC, dI) cls [(c3, .int), (c5, .int), (c7, .int)] s := hK
  refine W.widen (k := 19) (n := 19730) (Nat.le_of_ble_eq_true rfl) (Nat.le_of_ble_eq_true rfl) ?_
  obtain rfl : r43 = (((((kb (Int32.toNatClampNeg 7)) &&& 255)).toUInt32 % 65536).toInt32) := hw
  refine lv_topC (y := 111) (by decide) ?_
  refine va_iast hx hb hK hP hD hS 0 0 rfl rfl (by unfold vp_in; decide +kernel) dX19_init_131 (fun H locs hP hD hS => ?_)
  have hP : va_P (dC, dI) cls [(q2, .inl (c3, 1260, .inl (upd f40 (Int32.toNatClampNeg 6) 111))), (h0, .inr (16, [.ref h1, .int 0, .ref q1, .ref q2, .ref q4, .ref q6, .int 1, .int 7, .ref q8, .ref q10, .int 0, .int 0, .int 0, .int 0, .int 0, .int 0, .int 0, .int 0, .int 0, .int 0, .int 2147483647, .int 0, .int 2147483647])), (q4, .inl (c5, 610, .inl f35)), (q6, .inl (c7, 610, .inl f36))] H := hP
  have hD : va_D A [(q2, .inl (c3, 1260, .inl (upd f40 (Int32.toNatClampNeg 6) 111))), (h0, .inr (16, [.ref h1, .int 0, .ref q1, .ref q2, .ref q4, .ref q6, .int 1, .int 7, .ref q8, .ref q10, .int 0, .int 0, .int 0, .int 0, .int 0, .int 0, .int 0, .int 0, .int 0, .int 0, .int 2147483647, .int 0, .int 2147483647])), (q4, .inl (c5, 610, .inl f35)), (q6, .inl (c7, 610, .inl f36))] := hD
  generalize upd f40 (Int32.toNatClampNeg 6) 111 = f44 at hP hD
  refine lv_goto (tgt := 146) hx hb dX19_init_132 (by decide) ?_
  refine lv_iinc (v := 8) (lv' := [(4, .int 8), (3, .int 5), (0, .ref h0), (1, .ref h1), (2, .int 0)]) hx hb dX19_init_146 hl (k := 0) rfl (by decide) (by decide) rfl (fun ls hl => ?_)
  refine lv_goto (tgt := 87) hx hb dX19_init_149 (by decide) ?_
  refine lv_iload hx hb dX19_init_87 (lv_at hl 0 rfl) ?_
  refine va_ldcS hx hb hown hE.2.2.2.2.2.2.2.2.1 dX19_init_89 ?_
  have hPc := hP.sub (ws' := []) [] rfl
  have hDc := hD.sub (ws' := []) [] (by decide) rfl
  have hKc := hK.sub (tys' := []) [] rfl
  have hFc := va_free (wc := []) hD hS hA [] rfl
  refine va_calli (va_runV (As := []) (rest := [.int 8]) ⟨hx, hb, hml, hown, hts⟩ (kS_length l dC dI  (sz := _)) (cwV 0 hts (gi_V qw414 qw415 qw416 qw324 (gi_z qw413)) rfl rfl rfl (by decide +kernel) ⟨Nat.le_of_ble_eq_true rfl, Nat.le_of_ble_eq_true rfl⟩) ⟨PRE.blind, STC.recv hE.2.2.2.2.2.2.2.2 hS, PRE.of hE hS hFc hPc hKc hDc⟩ rfl rfl hl.1 rfl (lv_room (Nat.le_of_ble_eq_true rfl)) dX19_init_91 ⟨Nat.le_of_ble_eq_true rfl, Nat.le_of_ble_eq_true rfl⟩) hS (fun q _ h => hFc q h) hFc (fun r45 u t H locs ht hvm hw hB hz1 hk1 hS => ?_)
  obtain ⟨hP, hD, hK⟩ := JOIN (wr := [(q2, .inl (c3, 1260, .inl f44)), (h0, .inr (16, [.ref h1, .int 0, .ref q1, .ref q2, .ref q4, .ref q6, .int 1, .int 7, .ref q8, .ref q10, .int 0, .int 0, .int 0, .int 0, .int 0, .int 0, .int 0, .int 0, .int 0, .int 0, .int 2147483647, .int 0, .int 2147483647])), (q4, .inl (c5, 610, .inl f35)), (q6, .inl (c7, 610, .inl f36))]) hP hD hK [] [0, 1, 2, 3] [0, 1, 2] rfl rfl (by decide) (by decide) rfl hk1 hFc ht hvm hB
  have hP : va_P (dC, dI) cls [(q2, .inl (c3, 1260, .inl f44)), (h0, .inr (16, [.ref h1, .int 0, .ref q1, .ref q2, .ref q4, .ref q6, .int 1, .int 7, .ref q8, .ref q10, .int 0, .int 0, .int 0, .int 0, .int 0, .int 0, .int 0, .int 0, .int 0, .int 0, .int 2147483647, .int 0, .int 2147483647])), (q4, .inl (c5, 610, .inl f35)), (q6, .inl (c7, 610, .inl f36))] H := hP
  have hD : va_D A [(q2, .inl (c3, 1260, .inl f44)), (h0, .inr (16, [.ref h1, .int 0, .ref q1, .ref q2, .ref q4, .ref q6, .int 1, .int 7, .ref q8, .ref q10, .int 0, .int 0, .int 0, .int 0, .int 0, .int 0, .int 0, .int 0, .int 0, .int 0, .int 2147483647, .int 0, .int 2147483647])), (q4, .inl (c5, 610, .inl f35)), (q6, .inl (c7, 610, .inl f36))] := hD
  have hK : va_K (dC, dI) cls [(c3, .int), (c5, .int), (c7, .int)] s := hK
  refine W.widen (k := 19) (n := 19730) (Nat.le_of_ble_eq_true rfl) (Nat.le_of_ble_eq_true rfl) ?_
  obtain rfl : r45 = 44 := hw
  refine lv_icmp_ge (tgt := 152) hx hb dX19_init_94 (by decide) (fun c => absurd c (by decide)) (fun _ => ?_)
  refine va_ldcS hx hb hown hE.2.2.2.2.2.2.2.2.1 dX19_init_97 ?_
  refine lv_iload hx hb dX19_init_99 (lv_at hl 0 rfl) ?_
  have hPc := hP.sub (ws' := []) [] rfl
  have hDc := hD.sub (ws' := []) [] (by decide) rfl
  have hKc := hK.sub (tys' := []) [] rfl
  have hFc := va_free (wc := []) hD hS hA [] rfl
  refine va_calli (va_runV (As := [.int 8]) (rest := []) ⟨hx, hb, hml, hown, hts⟩ (kS_charAt l dC dI (p0 := 8) (sz := _) (h1 := (by decide)) (h2 := (by decide))) (cwV 1 hts (gi_V qw418 qw419 qw420 qw324 (gi_z qw417)) rfl rfl rfl (by decide +kernel) ⟨Nat.le_of_ble_eq_true rfl, Nat.le_of_ble_eq_true rfl⟩) ⟨PRE.blind, STC.recv hE.2.2.2.2.2.2.2.2 hS, PRE.of hE hS hFc hPc hKc hDc⟩ rfl rfl hl.1 rfl (lv_room (Nat.le_of_ble_eq_true rfl)) dX19_init_101 ⟨Nat.le_of_ble_eq_true rfl, Nat.le_of_ble_eq_true rfl⟩) hS (fun q _ h => hFc q h) hFc (fun r46 u t H locs ht hvm hw hB hz1 hk1 hS => ?_)
  obtain ⟨hP, hD, hK⟩ := JOIN (wr := [(q2, .inl (c3, 1260, .inl f44)), (h0, .inr (16, [.ref h1, .int 0, .ref q1, .ref q2, .ref q4, .ref q6, .int 1, .int 7, .ref q8, .ref q10, .int 0, .int 0, .int 0, .int 0, .int 0, .int 0, .int 0, .int 0, .int 0, .int 0, .int 2147483647, .int 0, .int 2147483647])), (q4, .inl (c5, 610, .inl f35)), (q6, .inl (c7, 610, .inl f36))]) hP hD hK [] [0, 1, 2, 3] [0, 1, 2] rfl rfl (by decide) (by decide) rfl hk1 hFc ht hvm hB
  have hP : va_P (dC, dI) cls [(q2, .inl (c3, 1260, .inl f44)), (h0, .inr (16, [.ref h1, .int 0, .ref q1, .ref q2, .ref q4, .ref q6, .int 1, .int 7, .ref q8, .ref q10, .int 0, .int 0, .int 0, .int 0, .int 0, .int 0, .int 0, .int 0, .int 0, .int 0, .int 2147483647, .int 0, .int 2147483647])), (q4, .inl (c5, 610, .inl f35)), (q6, .inl (c7, 610, .inl f36))] H := hP
  have hD : va_D A [(q2, .inl (c3, 1260, .inl f44)), (h0, .inr (16, [.ref h1, .int 0, .ref q1, .ref q2, .ref q4, .ref q6, .int 1, .int 7, .ref q8, .ref q10, .int 0, .int 0, .int 0, .int 0, .int 0, .int 0, .int 0, .int 0, .int 0, .int 0, .int 2147483647, .int 0, .int 2147483647])), (q4, .inl (c5, 610, .inl f35)), (q6, .inl (c7, 610, .inl f36))] := hD
  have hK : va_K (dC, dI) cls [(c3, .int), (c5, .int), (c7, .int)] s := hK
  refine W.widen (k := 19) (n := 19730) (Nat.le_of_ble_eq_true rfl) (Nat.le_of_ble_eq_true rfl) ?_
  obtain rfl : r46 = (((((kb (Int32.toNatClampNeg 8)) &&& 255)).toUInt32 % 65536).toInt32) := hw
  refine lv_topC (y := 110) (by decide) ?_
  refine lv_bipush (v := 32) hx hb dX19_init_104 (by decide) ?_
  refine lv_icmp_eq (tgt := 135) hx hb dX19_init_106 (by decide) (fun c => absurd c (by decide)) (fun _ => ?_)
  refine lv_aload_n hx hb dX19_init_109 rfl (lv_at hl 2 rfl) ?_
  refine va_get (D := (dC, dI)) (ci := 16) (v := .ref q2) (C := RX19) (T := TX19) (N := 23) hx hb hts i_X19 hown hK hP 1 rfl rfl 3 (by decide) (hts _ qw403) (fun _ h9 => h9) rfl dX19_init_110 ?_
  refine lv_aload_n hx hb dX19_init_113 rfl (lv_at hl 2 rfl) ?_
  refine lv_dup hx hb dX19_init_114 rfl ?_
  refine va_get (D := (dC, dI)) (ci := 16) (v := .int 7) (C := RX19) (T := TX19) (N := 23) hx hb hts i_X19 hown hK hP 1 rfl rfl 7 (by decide) (hts _ qw421) (fun _ h9 => h9) rfl dX19_init_115 ?_
  refine lv_dup_x1 hx hb dX19_init_118 rfl rfl ?_
  refine lv_iconst (v := 1) hx hb dX19_init_119 (by decide) ?_
  refine lv_iadd hx hb dX19_init_120 ?_
  refine lv_topC (y := 8) (by decide) ?_
  refine va_put (D := (dC, dI)) (ci := 16) (v := .int 8) (ty := .int) (C := RX19) (T := TX19) (N := 23) hx hb hts i_X19 tyX19 tyX19_ok nmX19 hown hK hP hD hS 1 rfl rfl 7 (by decide) (hts _ qw421) (fun _ h9 => h9) rfl (by decide +kernel) rfl rfl (Nat.le_of_ble_eq_true rfl) dX19_init_121 (fun H locs hP hD hS => ?_)
  have hP : va_P (dC, dI) cls [(q2, .inl (c3, 1260, .inl f44)), (h0, .inr (16, [.ref h1, .int 0, .ref q1, .ref q2, .ref q4, .ref q6, .int 1, .int 8, .ref q8, .ref q10, .int 0, .int 0, .int 0, .int 0, .int 0, .int 0, .int 0, .int 0, .int 0, .int 0, .int 2147483647, .int 0, .int 2147483647])), (q4, .inl (c5, 610, .inl f35)), (q6, .inl (c7, 610, .inl f36))] H := hP
  have hD : va_D A [(q2, .inl (c3, 1260, .inl f44)), (h0, .inr (16, [.ref h1, .int 0, .ref q1, .ref q2, .ref q4, .ref q6, .int 1, .int 8, .ref q8, .ref q10, .int 0, .int 0, .int 0, .int 0, .int 0, .int 0, .int 0, .int 0, .int 0, .int 0, .int 2147483647, .int 0, .int 2147483647])), (q4, .inl (c5, 610, .inl f35)), (q6, .inl (c7, 610, .inl f36))] := hD
  refine va_ldcS hx hb hown hE.2.2.2.2.2.2.2.2.1 dX19_init_124 ?_
  refine lv_iload hx hb dX19_init_126 (lv_at hl 0 rfl) ?_
  have hPc := hP.sub (ws' := []) [] rfl
  have hDc := hD.sub (ws' := []) [] (by decide) rfl
  have hKc := hK.sub (tys' := []) [] rfl
  have hFc := va_free (wc := []) hD hS hA [] rfl
  refine va_calli (va_runV (As := [.int 8]) (rest := [.int 7, .ref q2]) ⟨hx, hb, hml, hown, hts⟩ (kS_charAt l dC dI (p0 := 8) (sz := _) (h1 := (by decide)) (h2 := (by decide))) (cwV 1 hts (gi_V qw418 qw419 qw420 qw324 (gi_z qw417)) rfl rfl rfl (by decide +kernel) ⟨Nat.le_of_ble_eq_true rfl, Nat.le_of_ble_eq_true rfl⟩) ⟨PRE.blind, STC.recv hE.2.2.2.2.2.2.2.2 hS, PRE.of hE hS hFc hPc hKc hDc⟩ rfl rfl hl.1 rfl (lv_room (Nat.le_of_ble_eq_true rfl)) dX19_init_128 ⟨Nat.le_of_ble_eq_true rfl, Nat.le_of_ble_eq_true rfl⟩) hS (fun q _ h => hFc q h) hFc (fun r47 u t H locs ht hvm hw hB hz1 hk1 hS => ?_)
  obtain ⟨hP, hD, hK⟩ := JOIN (wr := [(q2, .inl (c3, 1260, .inl f44)), (h0, .inr (16, [.ref h1, .int 0, .ref q1, .ref q2, .ref q4, .ref q6, .int 1, .int 8, .ref q8, .ref q10, .int 0, .int 0, .int 0, .int 0, .int 0, .int 0, .int 0, .int 0, .int 0, .int 0, .int 2147483647, .int 0, .int 2147483647])), (q4, .inl (c5, 610, .inl f35)), (q6, .inl (c7, 610, .inl f36))]) hP hD hK [] [0, 1, 2, 3] [0, 1, 2] rfl rfl (by decide) (by decide) rfl hk1 hFc ht hvm hB
  have hP : va_P (dC, dI) cls [(q2, .inl (c3, 1260, .inl f44)), (h0, .inr (16, [.ref h1, .int 0, .ref q1, .ref q2, .ref q4, .ref q6, .int 1, .int 8, .ref q8, .ref q10, .int 0, .int 0, .int 0, .int 0, .int 0, .int 0, .int 0, .int 0, .int 0, .int 0, .int 2147483647, .int 0, .int 2147483647])), (q4, .inl (c5, 610, .inl f35)), (q6, .inl (c7, 610, .inl f36))] H := hP
  have hD : va_D A [(q2, .inl (c3, 1260, .inl f44)), (h0, .inr (16, [.ref h1, .int 0, .ref q1, .ref q2, .ref q4, .ref q6, .int 1, .int 8, .ref q8, .ref q10, .int 0, .int 0, .int 0, .int 0, .int 0, .int 0, .int 0, .int 0, .int 0, .int 0, .int 2147483647, .int 0, .int 2147483647])), (q4, .inl (c5, 610, .inl f35)), (q6, .inl (c7, 610, .inl f36))] := hD
  have hK : va_K (dC, dI) cls [(c3, .int), (c5, .int), (c7, .int)] s := hK
  refine W.widen (k := 19) (n := 19730) (Nat.le_of_ble_eq_true rfl) (Nat.le_of_ble_eq_true rfl) ?_
  obtain rfl : r47 = (((((kb (Int32.toNatClampNeg 8)) &&& 255)).toUInt32 % 65536).toInt32) := hw
  refine lv_topC (y := 110) (by decide) ?_
  refine va_iast hx hb hK hP hD hS 0 0 rfl rfl (by unfold vp_in; decide +kernel) dX19_init_131 (fun H locs hP hD hS => ?_)
  have hP : va_P (dC, dI) cls [(q2, .inl (c3, 1260, .inl (upd f44 (Int32.toNatClampNeg 7) 110))), (h0, .inr (16, [.ref h1, .int 0, .ref q1, .ref q2, .ref q4, .ref q6, .int 1, .int 8, .ref q8, .ref q10, .int 0, .int 0, .int 0, .int 0, .int 0, .int 0, .int 0, .int 0, .int 0, .int 0, .int 2147483647, .int 0, .int 2147483647])), (q4, .inl (c5, 610, .inl f35)), (q6, .inl (c7, 610, .inl f36))] H := hP
  have hD : va_D A [(q2, .inl (c3, 1260, .inl (upd f44 (Int32.toNatClampNeg 7) 110))), (h0, .inr (16, [.ref h1, .int 0, .ref q1, .ref q2, .ref q4, .ref q6, .int 1, .int 8, .ref q8, .ref q10, .int 0, .int 0, .int 0, .int 0, .int 0, .int 0, .int 0, .int 0, .int 0, .int 0, .int 2147483647, .int 0, .int 2147483647])), (q4, .inl (c5, 610, .inl f35)), (q6, .inl (c7, 610, .inl f36))] := hD
  generalize upd f44 (Int32.toNatClampNeg 7) 110 = f48 at hP hD
  refine lv_goto (tgt := 146) hx hb dX19_init_132 (by decide) ?_
  refine lv_iinc (v := 9) (lv' := [(4, .int 9), (3, .int 5), (0, .ref h0), (1, .ref h1), (2, .int 0)]) hx hb dX19_init_146 hl (k := 0) rfl (by decide) (by decide) rfl (fun ls hl => ?_)
  refine lv_goto (tgt := 87) hx hb dX19_init_149 (by decide) ?_
  refine lv_iload hx hb dX19_init_87 (lv_at hl 0 rfl) ?_
  refine va_ldcS hx hb hown hE.2.2.2.2.2.2.2.2.1 dX19_init_89 ?_
  have hPc := hP.sub (ws' := []) [] rfl
  have hDc := hD.sub (ws' := []) [] (by decide) rfl
  have hKc := hK.sub (tys' := []) [] rfl
  have hFc := va_free (wc := []) hD hS hA [] rfl
  refine va_calli (va_runV (As := []) (rest := [.int 9]) ⟨hx, hb, hml, hown, hts⟩ (kS_length l dC dI  (sz := _)) (cwV 0 hts (gi_V qw414 qw415 qw416 qw324 (gi_z qw413)) rfl rfl rfl (by decide +kernel) ⟨Nat.le_of_ble_eq_true rfl, Nat.le_of_ble_eq_true rfl⟩) ⟨PRE.blind, STC.recv hE.2.2.2.2.2.2.2.2 hS, PRE.of hE hS hFc hPc hKc hDc⟩ rfl rfl hl.1 rfl (lv_room (Nat.le_of_ble_eq_true rfl)) dX19_init_91 ⟨Nat.le_of_ble_eq_true rfl, Nat.le_of_ble_eq_true rfl⟩) hS (fun q _ h => hFc q h) hFc (fun r49 u t H locs ht hvm hw hB hz1 hk1 hS => ?_)
  obtain ⟨hP, hD, hK⟩ := JOIN (wr := [(q2, .inl (c3, 1260, .inl f48)), (h0, .inr (16, [.ref h1, .int 0, .ref q1, .ref q2, .ref q4, .ref q6, .int 1, .int 8, .ref q8, .ref q10, .int 0, .int 0, .int 0, .int 0, .int 0, .int 0, .int 0, .int 0, .int 0, .int 0, .int 2147483647, .int 0, .int 2147483647])), (q4, .inl (c5, 610, .inl f35)), (q6, .inl (c7, 610, .inl f36))]) hP hD hK [] [0, 1, 2, 3] [0, 1, 2] rfl rfl (by decide) (by decide) rfl hk1 hFc ht hvm hB
  have hP : va_P (dC, dI) cls [(q2, .inl (c3, 1260, .inl f48)), (h0, .inr (16, [.ref h1, .int 0, .ref q1, .ref q2, .ref q4, .ref q6, .int 1, .int 8, .ref q8, .ref q10, .int 0, .int 0, .int 0, .int 0, .int 0, .int 0, .int 0, .int 0, .int 0, .int 0, .int 2147483647, .int 0, .int 2147483647])), (q4, .inl (c5, 610, .inl f35)), (q6, .inl (c7, 610, .inl f36))] H := hP
  have hD : va_D A [(q2, .inl (c3, 1260, .inl f48)), (h0, .inr (16, [.ref h1, .int 0, .ref q1, .ref q2, .ref q4, .ref q6, .int 1, .int 8, .ref q8, .ref q10, .int 0, .int 0, .int 0, .int 0, .int 0, .int 0, .int 0, .int 0, .int 0, .int 0, .int 2147483647, .int 0, .int 2147483647])), (q4, .inl (c5, 610, .inl f35)), (q6, .inl (c7, 610, .inl f36))] := hD
  have hK : va_K (dC, dI) cls [(c3, .int), (c5, .int), (c7, .int)] s := hK
  refine W.widen (k := 19) (n := 19730) (Nat.le_of_ble_eq_true rfl) (Nat.le_of_ble_eq_true rfl) ?_
  obtain rfl : r49 = 44 := hw
  refine lv_icmp_ge (tgt := 152) hx hb dX19_init_94 (by decide) (fun c => absurd c (by decide)) (fun _ => ?_)
  refine va_ldcS hx hb hown hE.2.2.2.2.2.2.2.2.1 dX19_init_97 ?_
  refine lv_iload hx hb dX19_init_99 (lv_at hl 0 rfl) ?_
  have hPc := hP.sub (ws' := []) [] rfl
  have hDc := hD.sub (ws' := []) [] (by decide) rfl
  have hKc := hK.sub (tys' := []) [] rfl
  have hFc := va_free (wc := []) hD hS hA [] rfl
  refine va_calli (va_runV (As := [.int 9]) (rest := []) ⟨hx, hb, hml, hown, hts⟩ (kS_charAt l dC dI (p0 := 9) (sz := _) (h1 := (by decide)) (h2 := (by decide))) (cwV 1 hts (gi_V qw418 qw419 qw420 qw324 (gi_z qw417)) rfl rfl rfl (by decide +kernel) ⟨Nat.le_of_ble_eq_true rfl, Nat.le_of_ble_eq_true rfl⟩) ⟨PRE.blind, STC.recv hE.2.2.2.2.2.2.2.2 hS, PRE.of hE hS hFc hPc hKc hDc⟩ rfl rfl hl.1 rfl (lv_room (Nat.le_of_ble_eq_true rfl)) dX19_init_101 ⟨Nat.le_of_ble_eq_true rfl, Nat.le_of_ble_eq_true rfl⟩) hS (fun q _ h => hFc q h) hFc (fun r50 u t H locs ht hvm hw hB hz1 hk1 hS => ?_)
  obtain ⟨hP, hD, hK⟩ := JOIN (wr := [(q2, .inl (c3, 1260, .inl f48)), (h0, .inr (16, [.ref h1, .int 0, .ref q1, .ref q2, .ref q4, .ref q6, .int 1, .int 8, .ref q8, .ref q10, .int 0, .int 0, .int 0, .int 0, .int 0, .int 0, .int 0, .int 0, .int 0, .int 0, .int 2147483647, .int 0, .int 2147483647])), (q4, .inl (c5, 610, .inl f35)), (q6, .inl (c7, 610, .inl f36))]) hP hD hK [] [0, 1, 2, 3] [0, 1, 2] rfl rfl (by decide) (by decide) rfl hk1 hFc ht hvm hB
  have hP : va_P (dC, dI) cls [(q2, .inl (c3, 1260, .inl f48)), (h0, .inr (16, [.ref h1, .int 0, .ref q1, .ref q2, .ref q4, .ref q6, .int 1, .int 8, .ref q8, .ref q10, .int 0, .int 0, .int 0, .int 0, .int 0, .int 0, .int 0, .int 0, .int 0, .int 0, .int 2147483647, .int 0, .int 2147483647])), (q4, .inl (c5, 610, .inl f35)), (q6, .inl (c7, 610, .inl f36))] H := hP
  have hD : va_D A [(q2, .inl (c3, 1260, .inl f48)), (h0, .inr (16, [.ref h1, .int 0, .ref q1, .ref q2, .ref q4, .ref q6, .int 1, .int 8, .ref q8, .ref q10, .int 0, .int 0, .int 0, .int 0, .int 0, .int 0, .int 0, .int 0, .int 0, .int 0, .int 2147483647, .int 0, .int 2147483647])), (q4, .inl (c5, 610, .inl f35)), (q6, .inl (c7, 610, .inl f36))] := hD
  have hK : va_K (dC, dI) cls [(c3, .int), (c5, .int), (c7, .int)] s := hK
  refine W.widen (k := 19) (n := 19730) (Nat.le_of_ble_eq_true rfl) (Nat.le_of_ble_eq_true rfl) ?_
  obtain rfl : r50 = (((((kb (Int32.toNatClampNeg 9)) &&& 255)).toUInt32 % 65536).toInt32) := hw
  refine lv_topC (y := 116) (by decide) ?_
  refine lv_bipush (v := 32) hx hb dX19_init_104 (by decide) ?_
  refine lv_icmp_eq (tgt := 135) hx hb dX19_init_106 (by decide) (fun c => absurd c (by decide)) (fun _ => ?_)
  refine lv_aload_n hx hb dX19_init_109 rfl (lv_at hl 2 rfl) ?_
  refine va_get (D := (dC, dI)) (ci := 16) (v := .ref q2) (C := RX19) (T := TX19) (N := 23) hx hb hts i_X19 hown hK hP 1 rfl rfl 3 (by decide) (hts _ qw403) (fun _ h9 => h9) rfl dX19_init_110 ?_
  refine lv_aload_n hx hb dX19_init_113 rfl (lv_at hl 2 rfl) ?_
  refine lv_dup hx hb dX19_init_114 rfl ?_
  refine va_get (D := (dC, dI)) (ci := 16) (v := .int 8) (C := RX19) (T := TX19) (N := 23) hx hb hts i_X19 hown hK hP 1 rfl rfl 7 (by decide) (hts _ qw421) (fun _ h9 => h9) rfl dX19_init_115 ?_
  refine lv_dup_x1 hx hb dX19_init_118 rfl rfl ?_
  refine lv_iconst (v := 1) hx hb dX19_init_119 (by decide) ?_
  refine lv_iadd hx hb dX19_init_120 ?_
  refine lv_topC (y := 9) (by decide) ?_
  refine va_put (D := (dC, dI)) (ci := 16) (v := .int 9) (ty := .int) (C := RX19) (T := TX19) (N := 23) hx hb hts i_X19 tyX19 tyX19_ok nmX19 hown hK hP hD hS 1 rfl rfl 7 (by decide) (hts _ qw421) (fun _ h9 => h9) rfl (by decide +kernel) rfl rfl (Nat.le_of_ble_eq_true rfl) dX19_init_121 (fun H locs hP hD hS => ?_)
  have hP : va_P (dC, dI) cls [(q2, .inl (c3, 1260, .inl f48)), (h0, .inr (16, [.ref h1, .int 0, .ref q1, .ref q2, .ref q4, .ref q6, .int 1, .int 9, .ref q8, .ref q10, .int 0, .int 0, .int 0, .int 0, .int 0, .int 0, .int 0, .int 0, .int 0, .int 0, .int 2147483647, .int 0, .int 2147483647])), (q4, .inl (c5, 610, .inl f35)), (q6, .inl (c7, 610, .inl f36))] H := hP
  have hD : va_D A [(q2, .inl (c3, 1260, .inl f48)), (h0, .inr (16, [.ref h1, .int 0, .ref q1, .ref q2, .ref q4, .ref q6, .int 1, .int 9, .ref q8, .ref q10, .int 0, .int 0, .int 0, .int 0, .int 0, .int 0, .int 0, .int 0, .int 0, .int 0, .int 2147483647, .int 0, .int 2147483647])), (q4, .inl (c5, 610, .inl f35)), (q6, .inl (c7, 610, .inl f36))] := hD
  refine va_ldcS hx hb hown hE.2.2.2.2.2.2.2.2.1 dX19_init_124 ?_
  refine lv_iload hx hb dX19_init_126 (lv_at hl 0 rfl) ?_
  have hPc := hP.sub (ws' := []) [] rfl
  have hDc := hD.sub (ws' := []) [] (by decide) rfl
  have hKc := hK.sub (tys' := []) [] rfl
  have hFc := va_free (wc := []) hD hS hA [] rfl
  refine va_calli (va_runV (As := [.int 9]) (rest := [.int 8, .ref q2]) ⟨hx, hb, hml, hown, hts⟩ (kS_charAt l dC dI (p0 := 9) (sz := _) (h1 := (by decide)) (h2 := (by decide))) (cwV 1 hts (gi_V qw418 qw419 qw420 qw324 (gi_z qw417)) rfl rfl rfl (by decide +kernel) ⟨Nat.le_of_ble_eq_true rfl, Nat.le_of_ble_eq_true rfl⟩) ⟨PRE.blind, STC.recv hE.2.2.2.2.2.2.2.2 hS, PRE.of hE hS hFc hPc hKc hDc⟩ rfl rfl hl.1 rfl (lv_room (Nat.le_of_ble_eq_true rfl)) dX19_init_128 ⟨Nat.le_of_ble_eq_true rfl, Nat.le_of_ble_eq_true rfl⟩) hS (fun q _ h => hFc q h) hFc (fun r51 u t H locs ht hvm hw hB hz1 hk1 hS => ?_)
  obtain ⟨hP, hD, hK⟩ := JOIN (wr := [(q2, .inl (c3, 1260, .inl f48)), (h0, .inr (16, [.ref h1, .int 0, .ref q1, .ref q2, .ref q4, .ref q6, .int 1, .int 9, .ref q8, .ref q10, .int 0, .int 0, .int 0, .int 0, .int 0, .int 0, .int 0, .int 0, .int 0, .int 0, .int 2147483647, .int 0, .int 2147483647])), (q4, .inl (c5, 610, .inl f35)), (q6, .inl (c7, 610, .inl f36))]) hP hD hK [] [0, 1, 2, 3] [0, 1, 2] rfl rfl (by decide) (by decide) rfl hk1 hFc ht hvm hB
  have hP : va_P (dC, dI) cls [(q2, .inl (c3, 1260, .inl f48)), (h0, .inr (16, [.ref h1, .int 0, .ref q1, .ref q2, .ref q4, .ref q6, .int 1, .int 9, .ref q8, .ref q10, .int 0, .int 0, .int 0, .int 0, .int 0, .int 0, .int 0, .int 0, .int 0, .int 0, .int 2147483647, .int 0, .int 2147483647])), (q4, .inl (c5, 610, .inl f35)), (q6, .inl (c7, 610, .inl f36))] H := hP
  have hD : va_D A [(q2, .inl (c3, 1260, .inl f48)), (h0, .inr (16, [.ref h1, .int 0, .ref q1, .ref q2, .ref q4, .ref q6, .int 1, .int 9, .ref q8, .ref q10, .int 0, .int 0, .int 0, .int 0, .int 0, .int 0, .int 0, .int 0, .int 0, .int 0, .int 2147483647, .int 0, .int 2147483647])), (q4, .inl (c5, 610, .inl f35)), (q6, .inl (c7, 610, .inl f36))] := hD
  have hK : va_K (dC, dI) cls [(c3, .int), (c5, .int), (c7, .int)] s := hK
  refine W.widen (k := 19) (n := 19730) (Nat.le_of_ble_eq_true rfl) (Nat.le_of_ble_eq_true rfl) ?_
  obtain rfl : r51 = (((((kb (Int32.toNatClampNeg 9)) &&& 255)).toUInt32 % 65536).toInt32) := hw
  refine lv_topC (y := 116) (by decide) ?_
  refine va_iast hx hb hK hP hD hS 0 0 rfl rfl (by unfold vp_in; decide +kernel) dX19_init_131 (fun H locs hP hD hS => ?_)
  have hP : va_P (dC, dI) cls [(q2, .inl (c3, 1260, .inl (upd f48 (Int32.toNatClampNeg 8) 116))), (h0, .inr (16, [.ref h1, .int 0, .ref q1, .ref q2, .ref q4, .ref q6, .int 1, .int 9, .ref q8, .ref q10, .int 0, .int 0, .int 0, .int 0, .int 0, .int 0, .int 0, .int 0, .int 0, .int 0, .int 2147483647, .int 0, .int 2147483647])), (q4, .inl (c5, 610, .inl f35)), (q6, .inl (c7, 610, .inl f36))] H := hP
  have hD : va_D A [(q2, .inl (c3, 1260, .inl (upd f48 (Int32.toNatClampNeg 8) 116))), (h0, .inr (16, [.ref h1, .int 0, .ref q1, .ref q2, .ref q4, .ref q6, .int 1, .int 9, .ref q8, .ref q10, .int 0, .int 0, .int 0, .int 0, .int 0, .int 0, .int 0, .int 0, .int 0, .int 0, .int 2147483647, .int 0, .int 2147483647])), (q4, .inl (c5, 610, .inl f35)), (q6, .inl (c7, 610, .inl f36))] := hD
  generalize upd f48 (Int32.toNatClampNeg 8) 116 = f52 at hP hD
  refine lv_goto (tgt := 146) hx hb dX19_init_132 (by decide) ?_
  refine lv_iinc (v := 10) (lv' := [(4, .int 10), (3, .int 5), (0, .ref h0), (1, .ref h1), (2, .int 0)]) hx hb dX19_init_146 hl (k := 0) rfl (by decide) (by decide) rfl (fun ls hl => ?_)
  refine lv_goto (tgt := 87) hx hb dX19_init_149 (by decide) ?_
  refine lv_iload hx hb dX19_init_87 (lv_at hl 0 rfl) ?_
  refine va_ldcS hx hb hown hE.2.2.2.2.2.2.2.2.1 dX19_init_89 ?_
  have hPc := hP.sub (ws' := []) [] rfl
  have hDc := hD.sub (ws' := []) [] (by decide) rfl
  have hKc := hK.sub (tys' := []) [] rfl
  have hFc := va_free (wc := []) hD hS hA [] rfl
  refine va_calli (va_runV (As := []) (rest := [.int 10]) ⟨hx, hb, hml, hown, hts⟩ (kS_length l dC dI  (sz := _)) (cwV 0 hts (gi_V qw414 qw415 qw416 qw324 (gi_z qw413)) rfl rfl rfl (by decide +kernel) ⟨Nat.le_of_ble_eq_true rfl, Nat.le_of_ble_eq_true rfl⟩) ⟨PRE.blind, STC.recv hE.2.2.2.2.2.2.2.2 hS, PRE.of hE hS hFc hPc hKc hDc⟩ rfl rfl hl.1 rfl (lv_room (Nat.le_of_ble_eq_true rfl)) dX19_init_91 ⟨Nat.le_of_ble_eq_true rfl, Nat.le_of_ble_eq_true rfl⟩) hS (fun q _ h => hFc q h) hFc (fun r53 u t H locs ht hvm hw hB hz1 hk1 hS => ?_)
  obtain ⟨hP, hD, hK⟩ := JOIN (wr := [(q2, .inl (c3, 1260, .inl f52)), (h0, .inr (16, [.ref h1, .int 0, .ref q1, .ref q2, .ref q4, .ref q6, .int 1, .int 9, .ref q8, .ref q10, .int 0, .int 0, .int 0, .int 0, .int 0, .int 0, .int 0, .int 0, .int 0, .int 0, .int 2147483647, .int 0, .int 2147483647])), (q4, .inl (c5, 610, .inl f35)), (q6, .inl (c7, 610, .inl f36))]) hP hD hK [] [0, 1, 2, 3] [0, 1, 2] rfl rfl (by decide) (by decide) rfl hk1 hFc ht hvm hB
  have hP : va_P (dC, dI) cls [(q2, .inl (c3, 1260, .inl f52)), (h0, .inr (16, [.ref h1, .int 0, .ref q1, .ref q2, .ref q4, .ref q6, .int 1, .int 9, .ref q8, .ref q10, .int 0, .int 0, .int 0, .int 0, .int 0, .int 0, .int 0, .int 0, .int 0, .int 0, .int 2147483647, .int 0, .int 2147483647])), (q4, .inl (c5, 610, .inl f35)), (q6, .inl (c7, 610, .inl f36))] H := hP
  have hD : va_D A [(q2, .inl (c3, 1260, .inl f52)), (h0, .inr (16, [.ref h1, .int 0, .ref q1, .ref q2, .ref q4, .ref q6, .int 1, .int 9, .ref q8, .ref q10, .int 0, .int 0, .int 0, .int 0, .int 0, .int 0, .int 0, .int 0, .int 0, .int 0, .int 2147483647, .int 0, .int 2147483647])), (q4, .inl (c5, 610, .inl f35)), (q6, .inl (c7, 610, .inl f36))] := hD
  have hK : va_K (dC, dI) cls [(c3, .int), (c5, .int), (c7, .int)] s := hK
  refine W.widen (k := 19) (n := 19730) (Nat.le_of_ble_eq_true rfl) (Nat.le_of_ble_eq_true rfl) ?_
  obtain rfl : r53 = 44 := hw
  refine lv_icmp_ge (tgt := 152) hx hb dX19_init_94 (by decide) (fun c => absurd c (by decide)) (fun _ => ?_)
  refine va_ldcS hx hb hown hE.2.2.2.2.2.2.2.2.1 dX19_init_97 ?_
  refine lv_iload hx hb dX19_init_99 (lv_at hl 0 rfl) ?_
  have hPc := hP.sub (ws' := []) [] rfl
  have hDc := hD.sub (ws' := []) [] (by decide) rfl
  have hKc := hK.sub (tys' := []) [] rfl
  have hFc := va_free (wc := []) hD hS hA [] rfl
  refine va_calli (va_runV (As := [.int 10]) (rest := []) ⟨hx, hb, hml, hown, hts⟩ (kS_charAt l dC dI (p0 := 10) (sz := _) (h1 := (by decide)) (h2 := (by decide))) (cwV 1 hts (gi_V qw418 qw419 qw420 qw324 (gi_z qw417)) rfl rfl rfl (by decide +kernel) ⟨Nat.le_of_ble_eq_true rfl, Nat.le_of_ble_eq_true rfl⟩) ⟨PRE.blind, STC.recv hE.2.2.2.2.2.2.2.2 hS, PRE.of hE hS hFc hPc hKc hDc⟩ rfl rfl hl.1 rfl (lv_room (Nat.le_of_ble_eq_true rfl)) dX19_init_101 ⟨Nat.le_of_ble_eq_true rfl, Nat.le_of_ble_eq_true rfl⟩) hS (fun q _ h => hFc q h) hFc (fun r54 u t H locs ht hvm hw hB hz1 hk1 hS => ?_)
  obtain ⟨hP, hD, hK⟩ := JOIN (wr := [(q2, .inl (c3, 1260, .inl f52)), (h0, .inr (16, [.ref h1, .int 0, .ref q1, .ref q2, .ref q4, .ref q6, .int 1, .int 9, .ref q8, .ref q10, .int 0, .int 0, .int 0, .int 0, .int 0, .int 0, .int 0, .int 0, .int 0, .int 0, .int 2147483647, .int 0, .int 2147483647])), (q4, .inl (c5, 610, .inl f35)), (q6, .inl (c7, 610, .inl f36))]) hP hD hK [] [0, 1, 2, 3] [0, 1, 2] rfl rfl (by decide) (by decide) rfl hk1 hFc ht hvm hB
  have hP : va_P (dC, dI) cls [(q2, .inl (c3, 1260, .inl f52)), (h0, .inr (16, [.ref h1, .int 0, .ref q1, .ref q2, .ref q4, .ref q6, .int 1, .int 9, .ref q8, .ref q10, .int 0, .int 0, .int 0, .int 0, .int 0, .int 0, .int 0, .int 0, .int 0, .int 0, .int 2147483647, .int 0, .int 2147483647])), (q4, .inl (c5, 610, .inl f35)), (q6, .inl (c7, 610, .inl f36))] H := hP
  have hD : va_D A [(q2, .inl (c3, 1260, .inl f52)), (h0, .inr (16, [.ref h1, .int 0, .ref q1, .ref q2, .ref q4, .ref q6, .int 1, .int 9, .ref q8, .ref q10, .int 0, .int 0, .int 0, .int 0, .int 0, .int 0, .int 0, .int 0, .int 0, .int 0, .int 2147483647, .int 0, .int 2147483647])), (q4, .inl (c5, 610, .inl f35)), (q6, .inl (c7, 610, .inl f36))] := hD
  have hK : va_K (dC, dI) cls [(c3, .int), (c5, .int), (c7, .int)] s := hK
  refine W.widen (k := 19) (n := 19730) (Nat.le_of_ble_eq_true rfl) (Nat.le_of_ble_eq_true rfl) ?_
  obtain rfl : r54 = (((((kb (Int32.toNatClampNeg 10)) &&& 255)).toUInt32 % 65536).toInt32) := hw
  refine lv_topC (y := 105) (by decide) ?_
  refine lv_bipush (v := 32) hx hb dX19_init_104 (by decide) ?_
  refine lv_icmp_eq (tgt := 135) hx hb dX19_init_106 (by decide) (fun c => absurd c (by decide)) (fun _ => ?_)
  refine lv_aload_n hx hb dX19_init_109 rfl (lv_at hl 2 rfl) ?_
  refine va_get (D := (dC, dI)) (ci := 16) (v := .ref q2) (C := RX19) (T := TX19) (N := 23) hx hb hts i_X19 hown hK hP 1 rfl rfl 3 (by decide) (hts _ qw403) (fun _ h9 => h9) rfl dX19_init_110 ?_
  refine lv_aload_n hx hb dX19_init_113 rfl (lv_at hl 2 rfl) ?_
  refine lv_dup hx hb dX19_init_114 rfl ?_
  refine va_get (D := (dC, dI)) (ci := 16) (v := .int 9) (C := RX19) (T := TX19) (N := 23) hx hb hts i_X19 hown hK hP 1 rfl rfl 7 (by decide) (hts _ qw421) (fun _ h9 => h9) rfl dX19_init_115 ?_
  refine lv_dup_x1 hx hb dX19_init_118 rfl rfl ?_
  refine lv_iconst (v := 1) hx hb dX19_init_119 (by decide) ?_
  refine lv_iadd hx hb dX19_init_120 ?_
  refine lv_topC (y := 10) (by decide) ?_
  refine va_put (D := (dC, dI)) (ci := 16) (v := .int 10) (ty := .int) (C := RX19) (T := TX19) (N := 23) hx hb hts i_X19 tyX19 tyX19_ok nmX19 hown hK hP hD hS 1 rfl rfl 7 (by decide) (hts _ qw421) (fun _ h9 => h9) rfl (by decide +kernel) rfl rfl (Nat.le_of_ble_eq_true rfl) dX19_init_121 (fun H locs hP hD hS => ?_)
  have hP : va_P (dC, dI) cls [(q2, .inl (c3, 1260, .inl f52)), (h0, .inr (16, [.ref h1, .int 0, .ref q1, .ref q2, .ref q4, .ref q6, .int 1, .int 10, .ref q8, .ref q10, .int 0, .int 0, .int 0, .int 0, .int 0, .int 0, .int 0, .int 0, .int 0, .int 0, .int 2147483647, .int 0, .int 2147483647])), (q4, .inl (c5, 610, .inl f35)), (q6, .inl (c7, 610, .inl f36))] H := hP
  have hD : va_D A [(q2, .inl (c3, 1260, .inl f52)), (h0, .inr (16, [.ref h1, .int 0, .ref q1, .ref q2, .ref q4, .ref q6, .int 1, .int 10, .ref q8, .ref q10, .int 0, .int 0, .int 0, .int 0, .int 0, .int 0, .int 0, .int 0, .int 0, .int 0, .int 2147483647, .int 0, .int 2147483647])), (q4, .inl (c5, 610, .inl f35)), (q6, .inl (c7, 610, .inl f36))] := hD
  refine va_ldcS hx hb hown hE.2.2.2.2.2.2.2.2.1 dX19_init_124 ?_
  refine lv_iload hx hb dX19_init_126 (lv_at hl 0 rfl) ?_
  have hPc := hP.sub (ws' := []) [] rfl
  have hDc := hD.sub (ws' := []) [] (by decide) rfl
  have hKc := hK.sub (tys' := []) [] rfl
  have hFc := va_free (wc := []) hD hS hA [] rfl
  refine va_calli (va_runV (As := [.int 10]) (rest := [.int 9, .ref q2]) ⟨hx, hb, hml, hown, hts⟩ (kS_charAt l dC dI (p0 := 10) (sz := _) (h1 := (by decide)) (h2 := (by decide))) (cwV 1 hts (gi_V qw418 qw419 qw420 qw324 (gi_z qw417)) rfl rfl rfl (by decide +kernel) ⟨Nat.le_of_ble_eq_true rfl, Nat.le_of_ble_eq_true rfl⟩) ⟨PRE.blind, STC.recv hE.2.2.2.2.2.2.2.2 hS, PRE.of hE hS hFc hPc hKc hDc⟩ rfl rfl hl.1 rfl (lv_room (Nat.le_of_ble_eq_true rfl)) dX19_init_128 ⟨Nat.le_of_ble_eq_true rfl, Nat.le_of_ble_eq_true rfl⟩) hS (fun q _ h => hFc q h) hFc (fun r55 u t H locs ht hvm hw hB hz1 hk1 hS => ?_)
  obtain ⟨hP, hD, hK⟩ := JOIN (wr := [(q2, .inl (c3, 1260, .inl f52)), (h0, .inr (16, [.ref h1, .int 0, .ref q1, .ref q2, .ref q4, .ref q6, .int 1, .int 10, .ref q8, .ref q10, .int 0, .int 0, .int 0, .int 0, .int 0, .int 0, .int 0, .int 0, .int 0, .int 0, .int 2147483647, .int 0, .int 2147483647])), (q4, .inl (c5, 610, .inl f35)), (q6, .inl (c7, 610, .inl f36))]) hP hD hK [] [0, 1, 2, 3] [0, 1, 2] rfl rfl (by decide) (by decide) rfl hk1 hFc ht hvm hB
  have hP : va_P (dC, dI) cls [(q2, .inl (c3, 1260, .inl f52)), (h0, .inr (16, [.ref h1, .int 0, .ref q1, .ref q2, .ref q4, .ref q6, .int 1, .int 10, .ref q8, .ref q10, .int 0, .int 0, .int 0, .int 0, .int 0, .int 0, .int 0, .int 0, .int 0, .int 0, .int 2147483647, .int 0, .int 2147483647])), (q4, .inl (c5, 610, .inl f35)), (q6, .inl (c7, 610, .inl f36))] H := hP
  have hD : va_D A [(q2, .inl (c3, 1260, .inl f52)), (h0, .inr (16, [.ref h1, .int 0, .ref q1, .ref q2, .ref q4, .ref q6, .int 1, .int 10, .ref q8, .ref q10, .int 0, .int 0, .int 0, .int 0, .int 0, .int 0, .int 0, .int 0, .int 0, .int 0, .int 2147483647, .int 0, .int 2147483647])), (q4, .inl (c5, 610, .inl f35)), (q6, .inl (c7, 610, .inl f36))] := hD
  have hK : va_K (dC, dI) cls [(c3, .int), (c5, .int), (c7, .int)] s := hK
  refine W.widen (k := 19) (n := 19730) (Nat.le_of_ble_eq_true rfl) (Nat.le_of_ble_eq_true rfl) ?_
  obtain rfl : r55 = (((((kb (Int32.toNatClampNeg 10)) &&& 255)).toUInt32 % 65536).toInt32) := hw
  refine lv_topC (y := 105) (by decide) ?_
  refine va_iast hx hb hK hP hD hS 0 0 rfl rfl (by unfold vp_in; decide +kernel) dX19_init_131 (fun H locs hP hD hS => ?_)
  have hP : va_P (dC, dI) cls [(q2, .inl (c3, 1260, .inl (upd f52 (Int32.toNatClampNeg 9) 105))), (h0, .inr (16, [.ref h1, .int 0, .ref q1, .ref q2, .ref q4, .ref q6, .int 1, .int 10, .ref q8, .ref q10, .int 0, .int 0, .int 0, .int 0, .int 0, .int 0, .int 0, .int 0, .int 0, .int 0, .int 2147483647, .int 0, .int 2147483647])), (q4, .inl (c5, 610, .inl f35)), (q6, .inl (c7, 610, .inl f36))] H := hP
  have hD : va_D A [(q2, .inl (c3, 1260, .inl (upd f52 (Int32.toNatClampNeg 9) 105))), (h0, .inr (16, [.ref h1, .int 0, .ref q1, .ref q2, .ref q4, .ref q6, .int 1, .int 10, .ref q8, .ref q10, .int 0, .int 0, .int 0, .int 0, .int 0, .int 0, .int 0, .int 0, .int 0, .int 0, .int 2147483647, .int 0, .int 2147483647])), (q4, .inl (c5, 610, .inl f35)), (q6, .inl (c7, 610, .inl f36))] := hD
  generalize upd f52 (Int32.toNatClampNeg 9) 105 = f56 at hP hD
  refine lv_goto (tgt := 146) hx hb dX19_init_132 (by decide) ?_
  refine lv_iinc (v := 11) (lv' := [(4, .int 11), (3, .int 5), (0, .ref h0), (1, .ref h1), (2, .int 0)]) hx hb dX19_init_146 hl (k := 0) rfl (by decide) (by decide) rfl (fun ls hl => ?_)
  refine lv_goto (tgt := 87) hx hb dX19_init_149 (by decide) ?_
  refine lv_iload hx hb dX19_init_87 (lv_at hl 0 rfl) ?_
  refine va_ldcS hx hb hown hE.2.2.2.2.2.2.2.2.1 dX19_init_89 ?_
  have hPc := hP.sub (ws' := []) [] rfl
  have hDc := hD.sub (ws' := []) [] (by decide) rfl
  have hKc := hK.sub (tys' := []) [] rfl
  have hFc := va_free (wc := []) hD hS hA [] rfl
  refine va_calli (va_runV (As := []) (rest := [.int 11]) ⟨hx, hb, hml, hown, hts⟩ (kS_length l dC dI  (sz := _)) (cwV 0 hts (gi_V qw414 qw415 qw416 qw324 (gi_z qw413)) rfl rfl rfl (by decide +kernel) ⟨Nat.le_of_ble_eq_true rfl, Nat.le_of_ble_eq_true rfl⟩) ⟨PRE.blind, STC.recv hE.2.2.2.2.2.2.2.2 hS, PRE.of hE hS hFc hPc hKc hDc⟩ rfl rfl hl.1 rfl (lv_room (Nat.le_of_ble_eq_true rfl)) dX19_init_91 ⟨Nat.le_of_ble_eq_true rfl, Nat.le_of_ble_eq_true rfl⟩) hS (fun q _ h => hFc q h) hFc (fun r57 u t H locs ht hvm hw hB hz1 hk1 hS => ?_)
  obtain ⟨hP, hD, hK⟩ := JOIN (wr := [(q2, .inl (c3, 1260, .inl f56)), (h0, .inr (16, [.ref h1, .int 0, .ref q1, .ref q2, .ref q4, .ref q6, .int 1, .int 10, .ref q8, .ref q10, .int 0, .int 0, .int 0, .int 0, .int 0, .int 0, .int 0, .int 0, .int 0, .int 0, .int 2147483647, .int 0, .int 2147483647])), (q4, .inl (c5, 610, .inl f35)), (q6, .inl (c7, 610, .inl f36))]) hP hD hK [] [0, 1, 2, 3] [0, 1, 2] rfl rfl (by decide) (by decide) rfl hk1 hFc ht hvm hB
  have hP : va_P (dC, dI) cls [(q2, .inl (c3, 1260, .inl f56)), (h0, .inr (16, [.ref h1, .int 0, .ref q1, .ref q2, .ref q4, .ref q6, .int 1, .int 10, .ref q8, .ref q10, .int 0, .int 0, .int 0, .int 0, .int 0, .int 0, .int 0, .int 0, .int 0, .int 0, .int 2147483647, .int 0, .int 2147483647])), (q4, .inl (c5, 610, .inl f35)), (q6, .inl (c7, 610, .inl f36))] H := hP
  have hD : va_D A [(q2, .inl (c3, 1260, .inl f56)), (h0, .inr (16, [.ref h1, .int 0, .ref q1, .ref q2, .ref q4, .ref q6, .int 1, .int 10, .ref q8, .ref q10, .int 0, .int 0, .int 0, .int 0, .int 0, .int 0, .int 0, .int 0, .int 0, .int 0, .int 2147483647, .int 0, .int 2147483647])), (q4, .inl (c5, 610, .inl f35)), (q6, .inl (c7, 610, .inl f36))] := hD
  have hK : va_K (dC, dI) cls [(c3, .int), (c5, .int), (c7, .int)] s := hK
  refine W.widen (k := 19) (n := 19730) (Nat.le_of_ble_eq_true rfl) (Nat.le_of_ble_eq_true rfl) ?_
  obtain rfl : r57 = 44 := hw
  refine lv_icmp_ge (tgt := 152) hx hb dX19_init_94 (by decide) (fun c => absurd c (by decide)) (fun _ => ?_)
  refine va_ldcS hx hb hown hE.2.2.2.2.2.2.2.2.1 dX19_init_97 ?_
  refine lv_iload hx hb dX19_init_99 (lv_at hl 0 rfl) ?_
  have hPc := hP.sub (ws' := []) [] rfl
  have hDc := hD.sub (ws' := []) [] (by decide) rfl
  have hKc := hK.sub (tys' := []) [] rfl
  have hFc := va_free (wc := []) hD hS hA [] rfl
  refine va_calli (va_runV (As := [.int 11]) (rest := []) ⟨hx, hb, hml, hown, hts⟩ (kS_charAt l dC dI (p0 := 11) (sz := _) (h1 := (by decide)) (h2 := (by decide))) (cwV 1 hts (gi_V qw418 qw419 qw420 qw324 (gi_z qw417)) rfl rfl rfl (by decide +kernel) ⟨Nat.le_of_ble_eq_true rfl, Nat.le_of_ble_eq_true rfl⟩) ⟨PRE.blind, STC.recv hE.2.2.2.2.2.2.2.2 hS, PRE.of hE hS hFc hPc hKc hDc⟩ rfl rfl hl.1 rfl (lv_room (Nat.le_of_ble_eq_true rfl)) dX19_init_101 ⟨Nat.le_of_ble_eq_true rfl, Nat.le_of_ble_eq_true rfl⟩) hS (fun q _ h => hFc q h) hFc (fun r58 u t H locs ht hvm hw hB hz1 hk1 hS => ?_)
  obtain ⟨hP, hD, hK⟩ := JOIN (wr := [(q2, .inl (c3, 1260, .inl f56)), (h0, .inr (16, [.ref h1, .int 0, .ref q1, .ref q2, .ref q4, .ref q6, .int 1, .int 10, .ref q8, .ref q10, .int 0, .int 0, .int 0, .int 0, .int 0, .int 0, .int 0, .int 0, .int 0, .int 0, .int 2147483647, .int 0, .int 2147483647])), (q4, .inl (c5, 610, .inl f35)), (q6, .inl (c7, 610, .inl f36))]) hP hD hK [] [0, 1, 2, 3] [0, 1, 2] rfl rfl (by decide) (by decide) rfl hk1 hFc ht hvm hB
  have hP : va_P (dC, dI) cls [(q2, .inl (c3, 1260, .inl f56)), (h0, .inr (16, [.ref h1, .int 0, .ref q1, .ref q2, .ref q4, .ref q6, .int 1, .int 10, .ref q8, .ref q10, .int 0, .int 0, .int 0, .int 0, .int 0, .int 0, .int 0, .int 0, .int 0, .int 0, .int 2147483647, .int 0, .int 2147483647])), (q4, .inl (c5, 610, .inl f35)), (q6, .inl (c7, 610, .inl f36))] H := hP
  have hD : va_D A [(q2, .inl (c3, 1260, .inl f56)), (h0, .inr (16, [.ref h1, .int 0, .ref q1, .ref q2, .ref q4, .ref q6, .int 1, .int 10, .ref q8, .ref q10, .int 0, .int 0, .int 0, .int 0, .int 0, .int 0, .int 0, .int 0, .int 0, .int 0, .int 2147483647, .int 0, .int 2147483647])), (q4, .inl (c5, 610, .inl f35)), (q6, .inl (c7, 610, .inl f36))] := hD
  have hK : va_K (dC, dI) cls [(c3, .int), (c5, .int), (c7, .int)] s := hK
  refine W.widen (k := 19) (n := 19730) (Nat.le_of_ble_eq_true rfl) (Nat.le_of_ble_eq_true rfl) ?_
  obtain rfl : r58 = (((((kb (Int32.toNatClampNeg 11)) &&& 255)).toUInt32 % 65536).toInt32) := hw
  refine lv_topC (y := 110) (by decide) ?_
  refine lv_bipush (v := 32) hx hb dX19_init_104 (by decide) ?_
  refine lv_icmp_eq (tgt := 135) hx hb dX19_init_106 (by decide) (fun c => absurd c (by decide)) (fun _ => ?_)
  refine lv_aload_n hx hb dX19_init_109 rfl (lv_at hl 2 rfl) ?_
  refine va_get (D := (dC, dI)) (ci := 16) (v := .ref q2) (C := RX19) (T := TX19) (N := 23) hx hb hts i_X19 hown hK hP 1 rfl rfl 3 (by decide) (hts _ qw403) (fun _ h9 => h9) rfl dX19_init_110 ?_
  refine lv_aload_n hx hb dX19_init_113 rfl (lv_at hl 2 rfl) ?_
  refine lv_dup hx hb dX19_init_114 rfl ?_
  refine va_get (D := (dC, dI)) (ci := 16) (v := .int 10) (C := RX19) (T := TX19) (N := 23) hx hb hts i_X19 hown hK hP 1 rfl rfl 7 (by decide) (hts _ qw421) (fun _ h9 => h9) rfl dX19_init_115 ?_
  refine lv_dup_x1 hx hb dX19_init_118 rfl rfl ?_
  refine lv_iconst (v := 1) hx hb dX19_init_119 (by decide) ?_
  refine lv_iadd hx hb dX19_init_120 ?_
  refine lv_topC (y := 11) (by decide) ?_
  refine va_put (D := (dC, dI)) (ci := 16) (v := .int 11) (ty := .int) (C := RX19) (T := TX19) (N := 23) hx hb hts i_X19 tyX19 tyX19_ok nmX19 hown hK hP hD hS 1 rfl rfl 7 (by decide) (hts _ qw421) (fun _ h9 => h9) rfl (by decide +kernel) rfl rfl (Nat.le_of_ble_eq_true rfl) dX19_init_121 (fun H locs hP hD hS => ?_)
  have hP : va_P (dC, dI) cls [(q2, .inl (c3, 1260, .inl f56)), (h0, .inr (16, [.ref h1, .int 0, .ref q1, .ref q2, .ref q4, .ref q6, .int 1, .int 11, .ref q8, .ref q10, .int 0, .int 0, .int 0, .int 0, .int 0, .int 0, .int 0, .int 0, .int 0, .int 0, .int 2147483647, .int 0, .int 2147483647])), (q4, .inl (c5, 610, .inl f35)), (q6, .inl (c7, 610, .inl f36))] H := hP
  have hD : va_D A [(q2, .inl (c3, 1260, .inl f56)), (h0, .inr (16, [.ref h1, .int 0, .ref q1, .ref q2, .ref q4, .ref q6, .int 1, .int 11, .ref q8, .ref q10, .int 0, .int 0, .int 0, .int 0, .int 0, .int 0, .int 0, .int 0, .int 0, .int 0, .int 2147483647, .int 0, .int 2147483647])), (q4, .inl (c5, 610, .inl f35)), (q6, .inl (c7, 610, .inl f36))] := hD
  refine va_ldcS hx hb hown hE.2.2.2.2.2.2.2.2.1 dX19_init_124 ?_
  refine lv_iload hx hb dX19_init_126 (lv_at hl 0 rfl) ?_
  have hPc := hP.sub (ws' := []) [] rfl
  have hDc := hD.sub (ws' := []) [] (by decide) rfl
  have hKc := hK.sub (tys' := []) [] rfl
  have hFc := va_free (wc := []) hD hS hA [] rfl
  refine va_calli (va_runV (As := [.int 11]) (rest := [.int 10, .ref q2]) ⟨hx, hb, hml, hown, hts⟩ (kS_charAt l dC dI (p0 := 11) (sz := _) (h1 := (by decide)) (h2 := (by decide))) (cwV 1 hts (gi_V qw418 qw419 qw420 qw324 (gi_z qw417)) rfl rfl rfl (by decide +kernel) ⟨Nat.le_of_ble_eq_true rfl, Nat.le_of_ble_eq_true rfl⟩) ⟨PRE.blind, STC.recv hE.2.2.2.2.2.2.2.2 hS, PRE.of hE hS hFc hPc hKc hDc⟩ rfl rfl hl.1 rfl (lv_room (Nat.le_of_ble_eq_true rfl)) dX19_init_128 ⟨Nat.le_of_ble_eq_true rfl, Nat.le_of_ble_eq_true rfl⟩) hS (fun q _ h => hFc q h) hFc (fun r59 u t H locs ht hvm hw hB hz1 hk1 hS => ?_)
  obtain ⟨hP, hD, hK⟩ := JOIN (wr := [(q2, .inl (c3, 1260, .inl f56)), (h0, .inr (16, [.ref h1, .int 0, .ref q1, .ref q2, .ref q4, .ref q6, .int 1, .int 11, .ref q8, .ref q10, .int 0, .int 0, .int 0, .int 0, .int 0, .int 0, .int 0, .int 0, .int 0, .int 0, .int 2147483647, .int 0, .int 2147483647])), (q4, .inl (c5, 610, .inl f35)), (q6, .inl (c7, 610, .inl f36))]) hP hD hK [] [0, 1, 2, 3] [0, 1, 2] rfl rfl (by decide) (by decide) rfl hk1 hFc ht hvm hB
  have hP : va_P (dC, dI) cls [(q2, .inl (c3, 1260, .inl f56)), (h0, .inr (16, [.ref h1, .int 0, .ref q1, .ref q2, .ref q4, .ref q6, .int 1, .int 11, .ref q8, .ref q10, .int 0, .int 0, .int 0, .int 0, .int 0, .int 0, .int 0, .int 0, .int 0, .int 0, .int 2147483647, .int 0, .int 2147483647])), (q4, .inl (c5, 610, .inl f35)), (q6, .inl (c7, 610, .inl f36))] H := hP
  have hD : va_D A [(q2, .inl (c3, 1260, .inl f56)), (h0, .inr (16, [.ref h1, .int 0, .ref q1, .ref q2, .ref q4, .ref q6, .int 1, .int 11, .ref q8, .ref q10, .int 0, .int 0, .int 0, .int 0, .int 0, .int 0, .int 0, .int 0, .int 0, .int 0, .int 2147483647, .int 0, .int 2147483647])), (q4, .inl (c5, 610, .inl f35)), (q6, .inl (c7, 610, .inl f36))] := hD
  have hK : va_K (dC, dI) cls [(c3, .int), (c5, .int), (c7, .int)] s := hK
  refine W.widen (k := 19) (n := 19730) (Nat.le_of_ble_eq_true rfl) (Nat.le_of_ble_eq_true rfl) ?_
  obtain rfl : r59 = (((((kb (Int32.toNatClampNeg 11)) &&& 255)).toUInt32 % 65536).toInt32) := hw
  refine lv_topC (y := 110) (by decide) ?_
  refine va_iast hx hb hK hP hD hS 0 0 rfl rfl (by unfold vp_in; decide +kernel) dX19_init_131 (fun H locs hP hD hS => ?_)
  have hP : va_P (dC, dI) cls [(q2, .inl (c3, 1260, .inl (upd f56 (Int32.toNatClampNeg 10) 110))), (h0, .inr (16, [.ref h1, .int 0, .ref q1, .ref q2, .ref q4, .ref q6, .int 1, .int 11, .ref q8, .ref q10, .int 0, .int 0, .int 0, .int 0, .int 0, .int 0, .int 0, .int 0, .int 0, .int 0, .int 2147483647, .int 0, .int 2147483647])), (q4, .inl (c5, 610, .inl f35)), (q6, .inl (c7, 610, .inl f36))] H := hP
  have hD : va_D A [(q2, .inl (c3, 1260, .inl (upd f56 (Int32.toNatClampNeg 10) 110))), (h0, .inr (16, [.ref h1, .int 0, .ref q1, .ref q2, .ref q4, .ref q6, .int 1, .int 11, .ref q8, .ref q10, .int 0, .int 0, .int 0, .int 0, .int 0, .int 0, .int 0, .int 0, .int 0, .int 0, .int 2147483647, .int 0, .int 2147483647])), (q4, .inl (c5, 610, .inl f35)), (q6, .inl (c7, 610, .inl f36))] := hD
  generalize upd f56 (Int32.toNatClampNeg 10) 110 = f60 at hP hD
  refine lv_goto (tgt := 146) hx hb dX19_init_132 (by decide) ?_
  refine lv_iinc (v := 12) (lv' := [(4, .int 12), (3, .int 5), (0, .ref h0), (1, .ref h1), (2, .int 0)]) hx hb dX19_init_146 hl (k := 0) rfl (by decide) (by decide) rfl (fun ls hl => ?_)
  refine lv_goto (tgt := 87) hx hb dX19_init_149 (by decide) ?_
  refine lv_iload hx hb dX19_init_87 (lv_at hl 0 rfl) ?_
  refine va_ldcS hx hb hown hE.2.2.2.2.2.2.2.2.1 dX19_init_89 ?_
  have hPc := hP.sub (ws' := []) [] rfl
  have hDc := hD.sub (ws' := []) [] (by decide) rfl
  have hKc := hK.sub (tys' := []) [] rfl
  have hFc := va_free (wc := []) hD hS hA [] rfl
  refine va_calli (va_runV (As := []) (rest := [.int 12]) ⟨hx, hb, hml, hown, hts⟩ (kS_length l dC dI  (sz := _)) (cwV 0 hts (gi_V qw414 qw415 qw416 qw324 (gi_z qw413)) rfl rfl rfl (by decide +kernel) ⟨Nat.le_of_ble_eq_true rfl, Nat.le_of_ble_eq_true rfl⟩) ⟨PRE.blind, STC.recv hE.2.2.2.2.2.2.2.2 hS, PRE.of hE hS hFc hPc hKc hDc⟩ rfl rfl hl.1 rfl (lv_room (Nat.le_of_ble_eq_true rfl)) dX19_init_91 ⟨Nat.le_of_ble_eq_true rfl, Nat.le_of_ble_eq_true rfl⟩) hS (fun q _ h => hFc q h) hFc (fun r61 u t H locs ht hvm hw hB hz1 hk1 hS => ?_)
  obtain ⟨hP, hD, hK⟩ := JOIN (wr := [(q2, .inl (c3, 1260, .inl f60)), (h0, .inr (16, [.ref h1, .int 0, .ref q1, .ref q2, .ref q4, .ref q6, .int 1, .int 11, .ref q8, .ref q10, .int 0, .int 0, .int 0, .int 0, .int 0, .int 0, .int 0, .int 0, .int 0, .int 0, .int 2147483647, .int 0, .int 2147483647])), (q4, .inl (c5, 610, .inl f35)), (q6, .inl (c7, 610, .inl f36))]) hP hD hK [] [0, 1, 2, 3] [0, 1, 2] rfl rfl (by decide) (by decide) rfl hk1 hFc ht hvm hB
  have hP : va_P (dC, dI) cls [(q2, .inl (c3, 1260, .inl f60)), (h0, .inr (16, [.ref h1, .int 0, .ref q1, .ref q2, .ref q4, .ref q6, .int 1, .int 11, .ref q8, .ref q10, .int 0, .int 0, .int 0, .int 0, .int 0, .int 0, .int 0, .int 0, .int 0, .int 0, .int 2147483647, .int 0, .int 2147483647])), (q4, .inl (c5, 610, .inl f35)), (q6, .inl (c7, 610, .inl f36))] H := hP
  have hD : va_D A [(q2, .inl (c3, 1260, .inl f60)), (h0, .inr (16, [.ref h1, .int 0, .ref q1, .ref q2, .ref q4, .ref q6, .int 1, .int 11, .ref q8, .ref q10, .int 0, .int 0, .int 0, .int 0, .int 0, .int 0, .int 0, .int 0, .int 0, .int 0, .int 2147483647, .int 0, .int 2147483647])), (q4, .inl (c5, 610, .inl f35)), (q6, .inl (c7, 610, .inl f36))] := hD
  have hK : va_K (dC, dI) cls [(c3, .int), (c5, .int), (c7, .int)] s := hK
  refine W.widen (k := 19) (n := 19730) (Nat.le_of_ble_eq_true rfl) (Nat.le_of_ble_eq_true rfl) ?_
  obtain rfl : r61 = 44 := hw
  refine lv_icmp_ge (tgt := 152) hx hb dX19_init_94 (by decide) (fun c => absurd c (by decide)) (fun _ => ?_)
  refine va_ldcS hx hb hown hE.2.2.2.2.2.2.2.2.1 dX19_init_97 ?_
  refine lv_iload hx hb dX19_init_99 (lv_at hl 0 rfl) ?_
  have hPc := hP.sub (ws' := []) [] rfl
  have hDc := hD.sub (ws' := []) [] (by decide) rfl
  have hKc := hK.sub (tys' := []) [] rfl
  have hFc := va_free (wc := []) hD hS hA [] rfl
  refine va_calli (va_runV (As := [.int 12]) (rest := []) ⟨hx, hb, hml, hown, hts⟩ (kS_charAt l dC dI (p0 := 12) (sz := _) (h1 := (by decide)) (h2 := (by decide))) (cwV 1 hts (gi_V qw418 qw419 qw420 qw324 (gi_z qw417)) rfl rfl rfl (by decide +kernel) ⟨Nat.le_of_ble_eq_true rfl, Nat.le_of_ble_eq_true rfl⟩) ⟨PRE.blind, STC.recv hE.2.2.2.2.2.2.2.2 hS, PRE.of hE hS hFc hPc hKc hDc⟩ rfl rfl hl.1 rfl (lv_room (Nat.le_of_ble_eq_true rfl)) dX19_init_101 ⟨Nat.le_of_ble_eq_true rfl, Nat.le_of_ble_eq_true rfl⟩) hS (fun q _ h => hFc q h) hFc (fun r62 u t H locs ht hvm hw hB hz1 hk1 hS => ?_)
  obtain ⟨hP, hD, hK⟩ := JOIN (wr := [(q2, .inl (c3, 1260, .inl f60)), (h0, .inr (16, [.ref h1, .int 0, .ref q1, .ref q2, .ref q4, .ref q6, .int 1, .int 11, .ref q8, .ref q10, .int 0, .int 0, .int 0, .int 0, .int 0, .int 0, .int 0, .int 0, .int 0, .int 0, .int 2147483647, .int 0, .int 2147483647])), (q4, .inl (c5, 610, .inl f35)), (q6, .inl (c7, 610, .inl f36))]) hP hD hK [] [0, 1, 2, 3] [0, 1, 2] rfl rfl (by decide) (by decide) rfl hk1 hFc ht hvm hB
  have hP : va_P (dC, dI) cls [(q2, .inl (c3, 1260, .inl f60)), (h0, .inr (16, [.ref h1, .int 0, .ref q1, .ref q2, .ref q4, .ref q6, .int 1, .int 11, .ref q8, .ref q10, .int 0, .int 0, .int 0, .int 0, .int 0, .int 0, .int 0, .int 0, .int 0, .int 0, .int 2147483647, .int 0, .int 2147483647])), (q4, .inl (c5, 610, .inl f35)), (q6, .inl (c7, 610, .inl f36))] H := hP
  have hD : va_D A [(q2, .inl (c3, 1260, .inl f60)), (h0, .inr (16, [.ref h1, .int 0, .ref q1, .ref q2, .ref q4, .ref q6, .int 1, .int 11, .ref q8, .ref q10, .int 0, .int 0, .int 0, .int 0, .int 0, .int 0, .int 0, .int 0, .int 0, .int 0, .int 2147483647, .int 0, .int 2147483647])), (q4, .inl (c5, 610, .inl f35)), (q6, .inl (c7, 610, .inl f36))] := hD
  have hK : va_K (dC, dI) cls [(c3, .int), (c5, .int), (c7, .int)] s := hK
  refine W.widen (k := 19) (n := 19730) (Nat.le_of_ble_eq_true rfl) (Nat.le_of_ble_eq_true rfl) ?_
  obtain rfl : r62 = (((((kb (Int32.toNatClampNeg 12)) &&& 255)).toUInt32 % 65536).toInt32) := hw
  refine lv_topC (y := 117) (by decide) ?_
  refine lv_bipush (v := 32) hx hb dX19_init_104 (by decide) ?_
  refine lv_icmp_eq (tgt := 135) hx hb dX19_init_106 (by decide) (fun c => absurd c (by decide)) (fun _ => ?_)
  refine lv_aload_n hx hb dX19_init_109 rfl (lv_at hl 2 rfl) ?_
  refine va_get (D := (dC, dI)) (ci := 16) (v := .ref q2) (C := RX19) (T := TX19) (N := 23) hx hb hts i_X19 hown hK hP 1 rfl rfl 3 (by decide) (hts _ qw403) (fun _ h9 => h9) rfl dX19_init_110 ?_
  refine lv_aload_n hx hb dX19_init_113 rfl (lv_at hl 2 rfl) ?_
  refine lv_dup hx hb dX19_init_114 rfl ?_
  refine va_get (D := (dC, dI)) (ci := 16) (v := .int 11) (C := RX19) (T := TX19) (N := 23) hx hb hts i_X19 hown hK hP 1 rfl rfl 7 (by decide) (hts _ qw421) (fun _ h9 => h9) rfl dX19_init_115 ?_
  refine lv_dup_x1 hx hb dX19_init_118 rfl rfl ?_
  refine lv_iconst (v := 1) hx hb dX19_init_119 (by decide) ?_
  refine lv_iadd hx hb dX19_init_120 ?_
  refine lv_topC (y := 12) (by decide) ?_
  refine va_put (D := (dC, dI)) (ci := 16) (v := .int 12) (ty := .int) (C := RX19) (T := TX19) (N := 23) hx hb hts i_X19 tyX19 tyX19_ok nmX19 hown hK hP hD hS 1 rfl rfl 7 (by decide) (hts _ qw421) (fun _ h9 => h9) rfl (by decide +kernel) rfl rfl (Nat.le_of_ble_eq_true rfl) dX19_init_121 (fun H locs hP hD hS => ?_)
  have hP : va_P (dC, dI) cls [(q2, .inl (c3, 1260, .inl f60)), (h0, .inr (16, [.ref h1, .int 0, .ref q1, .ref q2, .ref q4, .ref q6, .int 1, .int 12, .ref q8, .ref q10, .int 0, .int 0, .int 0, .int 0, .int 0, .int 0, .int 0, .int 0, .int 0, .int 0, .int 2147483647, .int 0, .int 2147483647])), (q4, .inl (c5, 610, .inl f35)), (q6, .inl (c7, 610, .inl f36))] H := hP
  have hD : va_D A [(q2, .inl (c3, 1260, .inl f60)), (h0, .inr (16, [.ref h1, .int 0, .ref q1, .ref q2, .ref q4, .ref q6, .int 1, .int 12, .ref q8, .ref q10, .int 0, .int 0, .int 0, .int 0, .int 0, .int 0, .int 0, .int 0, .int 0, .int 0, .int 2147483647, .int 0, .int 2147483647])), (q4, .inl (c5, 610, .inl f35)), (q6, .inl (c7, 610, .inl f36))] := hD
  refine va_ldcS hx hb hown hE.2.2.2.2.2.2.2.2.1 dX19_init_124 ?_
  refine lv_iload hx hb dX19_init_126 (lv_at hl 0 rfl) ?_
  have hPc := hP.sub (ws' := []) [] rfl
  have hDc := hD.sub (ws' := []) [] (by decide) rfl
  have hKc := hK.sub (tys' := []) [] rfl
  have hFc := va_free (wc := []) hD hS hA [] rfl
  refine va_calli (va_runV (As := [.int 12]) (rest := [.int 11, .ref q2]) ⟨hx, hb, hml, hown, hts⟩ (kS_charAt l dC dI (p0 := 12) (sz := _) (h1 := (by decide)) (h2 := (by decide))) (cwV 1 hts (gi_V qw418 qw419 qw420 qw324 (gi_z qw417)) rfl rfl rfl (by decide +kernel) ⟨Nat.le_of_ble_eq_true rfl, Nat.le_of_ble_eq_true rfl⟩) ⟨PRE.blind, STC.recv hE.2.2.2.2.2.2.2.2 hS, PRE.of hE hS hFc hPc hKc hDc⟩ rfl rfl hl.1 rfl (lv_room (Nat.le_of_ble_eq_true rfl)) dX19_init_128 ⟨Nat.le_of_ble_eq_true rfl, Nat.le_of_ble_eq_true rfl⟩) hS (fun q _ h => hFc q h) hFc (fun r63 u t H locs ht hvm hw hB hz1 hk1 hS => ?_)
  obtain ⟨hP, hD, hK⟩ := JOIN (wr := [(q2, .inl (c3, 1260, .inl f60)), (h0, .inr (16, [.ref h1, .int 0, .ref q1, .ref q2, .ref q4, .ref q6, .int 1, .int 12, .ref q8, .ref q10, .int 0, .int 0, .int 0, .int 0, .int 0, .int 0, .int 0, .int 0, .int 0, .int 0, .int 2147483647, .int 0, .int 2147483647])), (q4, .inl (c5, 610, .inl f35)), (q6, .inl (c7, 610, .inl f36))]) hP hD hK [] [0, 1, 2, 3] [0, 1, 2] rfl rfl (by decide) (by decide) rfl hk1 hFc ht hvm hB
  have hP : va_P (dC, dI) cls [(q2, .inl (c3, 1260, .inl f60)), (h0, .inr (16, [.ref h1, .int 0, .ref q1, .ref q2, .ref q4, .ref q6, .int 1, .int 12, .ref q8, .ref q10, .int 0, .int 0, .int 0, .int 0, .int 0, .int 0, .int 0, .int 0, .int 0, .int 0, .int 2147483647, .int 0, .int 2147483647])), (q4, .inl (c5, 610, .inl f35)), (q6, .inl (c7, 610, .inl f36))] H := hP
  have hD : va_D A [(q2, .inl (c3, 1260, .inl f60)), (h0, .inr (16, [.ref h1, .int 0, .ref q1, .ref q2, .ref q4, .ref q6, .int 1, .int 12, .ref q8, .ref q10, .int 0, .int 0, .int 0, .int 0, .int 0, .int 0, .int 0, .int 0, .int 0, .int 0, .int 2147483647, .int 0, .int 2147483647])), (q4, .inl (c5, 610, .inl f35)), (q6, .inl (c7, 610, .inl f36))] := hD
  have hK : va_K (dC, dI) cls [(c3, .int), (c5, .int), (c7, .int)] s := hK
  refine W.widen (k := 19) (n := 19730) (Nat.le_of_ble_eq_true rfl) (Nat.le_of_ble_eq_true rfl) ?_
  obtain rfl : r63 = (((((kb (Int32.toNatClampNeg 12)) &&& 255)).toUInt32 % 65536).toInt32) := hw
  refine lv_topC (y := 117) (by decide) ?_
  refine va_iast hx hb hK hP hD hS 0 0 rfl rfl (by unfold vp_in; decide +kernel) dX19_init_131 (fun H locs hP hD hS => ?_)
  have hP : va_P (dC, dI) cls [(q2, .inl (c3, 1260, .inl (upd f60 (Int32.toNatClampNeg 11) 117))), (h0, .inr (16, [.ref h1, .int 0, .ref q1, .ref q2, .ref q4, .ref q6, .int 1, .int 12, .ref q8, .ref q10, .int 0, .int 0, .int 0, .int 0, .int 0, .int 0, .int 0, .int 0, .int 0, .int 0, .int 2147483647, .int 0, .int 2147483647])), (q4, .inl (c5, 610, .inl f35)), (q6, .inl (c7, 610, .inl f36))] H := hP
  have hD : va_D A [(q2, .inl (c3, 1260, .inl (upd f60 (Int32.toNatClampNeg 11) 117))), (h0, .inr (16, [.ref h1, .int 0, .ref q1, .ref q2, .ref q4, .ref q6, .int 1, .int 12, .ref q8, .ref q10, .int 0, .int 0, .int 0, .int 0, .int 0, .int 0, .int 0, .int 0, .int 0, .int 0, .int 2147483647, .int 0, .int 2147483647])), (q4, .inl (c5, 610, .inl f35)), (q6, .inl (c7, 610, .inl f36))] := hD
  generalize upd f60 (Int32.toNatClampNeg 11) 117 = f64 at hP hD
  refine lv_goto (tgt := 146) hx hb dX19_init_132 (by decide) ?_
  refine lv_iinc (v := 13) (lv' := [(4, .int 13), (3, .int 5), (0, .ref h0), (1, .ref h1), (2, .int 0)]) hx hb dX19_init_146 hl (k := 0) rfl (by decide) (by decide) rfl (fun ls hl => ?_)
  refine lv_goto (tgt := 87) hx hb dX19_init_149 (by decide) ?_
  refine lv_iload hx hb dX19_init_87 (lv_at hl 0 rfl) ?_
  refine va_ldcS hx hb hown hE.2.2.2.2.2.2.2.2.1 dX19_init_89 ?_
  have hPc := hP.sub (ws' := []) [] rfl
  have hDc := hD.sub (ws' := []) [] (by decide) rfl
  have hKc := hK.sub (tys' := []) [] rfl
  have hFc := va_free (wc := []) hD hS hA [] rfl
  refine va_calli (va_runV (As := []) (rest := [.int 13]) ⟨hx, hb, hml, hown, hts⟩ (kS_length l dC dI  (sz := _)) (cwV 0 hts (gi_V qw414 qw415 qw416 qw324 (gi_z qw413)) rfl rfl rfl (by decide +kernel) ⟨Nat.le_of_ble_eq_true rfl, Nat.le_of_ble_eq_true rfl⟩) ⟨PRE.blind, STC.recv hE.2.2.2.2.2.2.2.2 hS, PRE.of hE hS hFc hPc hKc hDc⟩ rfl rfl hl.1 rfl (lv_room (Nat.le_of_ble_eq_true rfl)) dX19_init_91 ⟨Nat.le_of_ble_eq_true rfl, Nat.le_of_ble_eq_true rfl⟩) hS (fun q _ h => hFc q h) hFc (fun r65 u t H locs ht hvm hw hB hz1 hk1 hS => ?_)
  obtain ⟨hP, hD, hK⟩ := JOIN (wr := [(q2, .inl (c3, 1260, .inl f64)), (h0, .inr (16, [.ref h1, .int 0, .ref q1, .ref q2, .ref q4, .ref q6, .int 1, .int 12, .ref q8, .ref q10, .int 0, .int 0, .int 0, .int 0, .int 0, .int 0, .int 0, .int 0, .int 0, .int 0, .int 2147483647, .int 0, .int 2147483647])), (q4, .inl (c5, 610, .inl f35)), (q6, .inl (c7, 610, .inl f36))]) hP hD hK [] [0, 1, 2, 3] [0, 1, 2] rfl rfl (by decide) (by decide) rfl hk1 hFc ht hvm hB
  have hP : va_P (dC, dI) cls [(q2, .inl (c3, 1260, .inl f64)), (h0, .inr (16, [.ref h1, .int 0, .ref q1, .ref q2, .ref q4, .ref q6, .int 1, .int 12, .ref q8, .ref q10, .int 0, .int 0, .int 0, .int 0, .int 0, .int 0, .int 0, .int 0, .int 0, .int 0, .int 2147483647, .int 0, .int 2147483647])), (q4, .inl (c5, 610, .inl f35)), (q6, .inl (c7, 610, .inl f36))] H := hP
  have hD : va_D A [(q2, .inl (c3, 1260, .inl f64)), (h0, .inr (16, [.ref h1, .int 0, .ref q1, .ref q2, .ref q4, .ref q6, .int 1, .int 12, .ref q8, .ref q10, .int 0, .int 0, .int 0, .int 0, .int 0, .int 0, .int 0, .int 0, .int 0, .int 0, .int 2147483647, .int 0, .int 2147483647])), (q4, .inl (c5, 610, .inl f35)), (q6, .inl (c7, 610, .inl f36))] := hD
  have hK : va_K (dC, dI) cls [(c3, .int), (c5, .int), (c7, .int)] s := hK
  refine W.widen (k := 19) (n := 19730) (Nat.le_of_ble_eq_true rfl) (Nat.le_of_ble_eq_true rfl) ?_
  obtain rfl : r65 = 44 := hw
  refine lv_icmp_ge (tgt := 152) hx hb dX19_init_94 (by decide) (fun c => absurd c (by decide)) (fun _ => ?_)
  refine va_ldcS hx hb hown hE.2.2.2.2.2.2.2.2.1 dX19_init_97 ?_
  refine lv_iload hx hb dX19_init_99 (lv_at hl 0 rfl) ?_
  have hPc := hP.sub (ws' := []) [] rfl
  have hDc := hD.sub (ws' := []) [] (by decide) rfl
  have hKc := hK.sub (tys' := []) [] rfl
  have hFc := va_free (wc := []) hD hS hA [] rfl
  refine va_calli (va_runV (As := [.int 13]) (rest := []) ⟨hx, hb, hml, hown, hts⟩ (kS_charAt l dC dI (p0 := 13) (sz := _) (h1 := (by decide)) (h2 := (by decide))) (cwV 1 hts (gi_V qw418 qw419 qw420 qw324 (gi_z qw417)) rfl rfl rfl (by decide +kernel) ⟨Nat.le_of_ble_eq_true rfl, Nat.le_of_ble_eq_true rfl⟩) ⟨PRE.blind, STC.recv hE.2.2.2.2.2.2.2.2 hS, PRE.of hE hS hFc hPc hKc hDc⟩ rfl rfl hl.1 rfl (lv_room (Nat.le_of_ble_eq_true rfl)) dX19_init_101 ⟨Nat.le_of_ble_eq_true rfl, Nat.le_of_ble_eq_true rfl⟩) hS (fun q _ h => hFc q h) hFc (fun r66 u t H locs ht hvm hw hB hz1 hk1 hS => ?_)
  obtain ⟨hP, hD, hK⟩ := JOIN (wr := [(q2, .inl (c3, 1260, .inl f64)), (h0, .inr (16, [.ref h1, .int 0, .ref q1, .ref q2, .ref q4, .ref q6, .int 1, .int 12, .ref q8, .ref q10, .int 0, .int 0, .int 0, .int 0, .int 0, .int 0, .int 0, .int 0, .int 0, .int 0, .int 2147483647, .int 0, .int 2147483647])), (q4, .inl (c5, 610, .inl f35)), (q6, .inl (c7, 610, .inl f36))]) hP hD hK [] [0, 1, 2, 3] [0, 1, 2] rfl rfl (by decide) (by decide) rfl hk1 hFc ht hvm hB
  have hP : va_P (dC, dI) cls [(q2, .inl (c3, 1260, .inl f64)), (h0, .inr (16, [.ref h1, .int 0, .ref q1, .ref q2, .ref q4, .ref q6, .int 1, .int 12, .ref q8, .ref q10, .int 0, .int 0, .int 0, .int 0, .int 0, .int 0, .int 0, .int 0, .int 0, .int 0, .int 2147483647, .int 0, .int 2147483647])), (q4, .inl (c5, 610, .inl f35)), (q6, .inl (c7, 610, .inl f36))] H := hP
  have hD : va_D A [(q2, .inl (c3, 1260, .inl f64)), (h0, .inr (16, [.ref h1, .int 0, .ref q1, .ref q2, .ref q4, .ref q6, .int 1, .int 12, .ref q8, .ref q10, .int 0, .int 0, .int 0, .int 0, .int 0, .int 0, .int 0, .int 0, .int 0, .int 0, .int 2147483647, .int 0, .int 2147483647])), (q4, .inl (c5, 610, .inl f35)), (q6, .inl (c7, 610, .inl f36))] := hD
  have hK : va_K (dC, dI) cls [(c3, .int), (c5, .int), (c7, .int)] s := hK
  refine W.widen (k := 19) (n := 19730) (Nat.le_of_ble_eq_true rfl) (Nat.le_of_ble_eq_true rfl) ?_
  obtain rfl : r66 = (((((kb (Int32.toNatClampNeg 13)) &&& 255)).toUInt32 % 65536).toInt32) := hw
  refine lv_topC (y := 101) (by decide) ?_
  refine lv_bipush (v := 32) hx hb dX19_init_104 (by decide) ?_
  refine lv_icmp_eq (tgt := 135) hx hb dX19_init_106 (by decide) (fun c => absurd c (by decide)) (fun _ => ?_)
  refine lv_aload_n hx hb dX19_init_109 rfl (lv_at hl 2 rfl) ?_
  refine va_get (D := (dC, dI)) (ci := 16) (v := .ref q2) (C := RX19) (T := TX19) (N := 23) hx hb hts i_X19 hown hK hP 1 rfl rfl 3 (by decide) (hts _ qw403) (fun _ h9 => h9) rfl dX19_init_110 ?_
  refine lv_aload_n hx hb dX19_init_113 rfl (lv_at hl 2 rfl) ?_
  refine lv_dup hx hb dX19_init_114 rfl ?_
  refine va_get (D := (dC, dI)) (ci := 16) (v := .int 12) (C := RX19) (T := TX19) (N := 23) hx hb hts i_X19 hown hK hP 1 rfl rfl 7 (by decide) (hts _ qw421) (fun _ h9 => h9) rfl dX19_init_115 ?_
  refine lv_dup_x1 hx hb dX19_init_118 rfl rfl ?_
  refine lv_iconst (v := 1) hx hb dX19_init_119 (by decide) ?_
  refine lv_iadd hx hb dX19_init_120 ?_
  refine lv_topC (y := 13) (by decide) ?_
  refine va_put (D := (dC, dI)) (ci := 16) (v := .int 13) (ty := .int) (C := RX19) (T := TX19) (N := 23) hx hb hts i_X19 tyX19 tyX19_ok nmX19 hown hK hP hD hS 1 rfl rfl 7 (by decide) (hts _ qw421) (fun _ h9 => h9) rfl (by decide +kernel) rfl rfl (Nat.le_of_ble_eq_true rfl) dX19_init_121 (fun H locs hP hD hS => ?_)
  have hP : va_P (dC, dI) cls [(q2, .inl (c3, 1260, .inl f64)), (h0, .inr (16, [.ref h1, .int 0, .ref q1, .ref q2, .ref q4, .ref q6, .int 1, .int 13, .ref q8, .ref q10, .int 0, .int 0, .int 0, .int 0, .int 0, .int 0, .int 0, .int 0, .int 0, .int 0, .int 2147483647, .int 0, .int 2147483647])), (q4, .inl (c5, 610, .inl f35)), (q6, .inl (c7, 610, .inl f36))] H := hP
  have hD : va_D A [(q2, .inl (c3, 1260, .inl f64)), (h0, .inr (16, [.ref h1, .int 0, .ref q1, .ref q2, .ref q4, .ref q6, .int 1, .int 13, .ref q8, .ref q10, .int 0, .int 0, .int 0, .int 0, .int 0, .int 0, .int 0, .int 0, .int 0, .int 0, .int 2147483647, .int 0, .int 2147483647])), (q4, .inl (c5, 610, .inl f35)), (q6, .inl (c7, 610, .inl f36))] := hD
  refine va_ldcS hx hb hown hE.2.2.2.2.2.2.2.2.1 dX19_init_124 ?_
  refine lv_iload hx hb dX19_init_126 (lv_at hl 0 rfl) ?_
  have hPc := hP.sub (ws' := []) [] rfl
  have hDc := hD.sub (ws' := []) [] (by decide) rfl
  have hKc := hK.sub (tys' := []) [] rfl
  have hFc := va_free (wc := []) hD hS hA [] rfl
  refine va_calli (va_runV (As := [.int 13]) (rest := [.int 12, .ref q2]) ⟨hx, hb, hml, hown, hts⟩ (kS_charAt l dC dI (p0 := 13) (sz := _) (h1 := (by decide)) (h2 := (by decide))) (cwV 1 hts (gi_V qw418 qw419 qw420 qw324 (gi_z qw417)) rfl rfl rfl (by decide +kernel) ⟨Nat.le_of_ble_eq_true rfl, Nat.le_of_ble_eq_true rfl⟩) ⟨PRE.blind, STC.recv hE.2.2.2.2.2.2.2.2 hS, PRE.of hE hS hFc hPc hKc hDc⟩ rfl rfl hl.1 rfl (lv_room (Nat.le_of_ble_eq_true rfl)) dX19_init_128 ⟨Nat.le_of_ble_eq_true rfl, Nat.le_of_ble_eq_true rfl⟩) hS (fun q _ h => hFc q h) hFc (fun r67 u t H locs ht hvm hw hB hz1 hk1 hS => ?_)
  obtain ⟨hP, hD, hK⟩ := JOIN (wr := [(q2, .inl (c3, 1260, .inl f64)), (h0, .inr (16, [.ref h1, .int 0, .ref q1, .ref q2, .ref q4, .ref q6, .int 1, .int 13, .ref q8, .ref q10, .int 0, .int 0, .int 0, .int 0, .int 0, .int 0, .int 0, .int 0, .int 0, .int 0, .int 2147483647, .int 0, .int 2147483647])), (q4, .inl (c5, 610, .inl f35)), (q6, .inl (c7, 610, .inl f36))]) hP hD hK [] [0, 1, 2, 3] [0, 1, 2] rfl rfl (by decide) (by decide) rfl hk1 hFc ht hvm hB
  have hP : va_P (dC, dI) cls [(q2, .inl (c3, 1260, .inl f64)), (h0, .inr (16, [.ref h1, .int 0, .ref q1, .ref q2, .ref q4, .ref q6, .int 1, .int 13, .ref q8, .ref q10, .int 0, .int 0, .int 0, .int 0, .int 0, .int 0, .int 0, .int 0, .int 0, .int 0, .int 2147483647, .int 0, .int 2147483647])), (q4, .inl (c5, 610, .inl f35)), (q6, .inl (c7, 610, .inl f36))] H := hP
  have hD : va_D A [(q2, .inl (c3, 1260, .inl f64)), (h0, .inr (16, [.ref h1, .int 0, .ref q1, .ref q2, .ref q4, .ref q6, .int 1, .int 13, .ref q8, .ref q10, .int 0, .int 0, .int 0, .int 0, .int 0, .int 0, .int 0, .int 0, .int 0, .int 0, .int 2147483647, .int 0, .int 2147483647])), (q4, .inl (c5, 610, .inl f35)), (q6, .inl (c7, 610, .inl f36))] := hD
  have hK : va_K (dC, dI) cls [(c3, .int), (c5, .int), (c7, .int)] s := hK
  refine W.widen (k := 19) (n := 19730) (Nat.le_of_ble_eq_true rfl) (Nat.le_of_ble_eq_true rfl) ?_
  obtain rfl : r67 = (((((kb (Int32.toNatClampNeg 13)) &&& 255)).toUInt32 % 65536).toInt32) := hw
  refine lv_topC (y := 101) (by decide) ?_
  refine va_iast hx hb hK hP hD hS 0 0 rfl rfl (by unfold vp_in; decide +kernel) dX19_init_131 (fun H locs hP hD hS => ?_)
  have hP : va_P (dC, dI) cls [(q2, .inl (c3, 1260, .inl (upd f64 (Int32.toNatClampNeg 12) 101))), (h0, .inr (16, [.ref h1, .int 0, .ref q1, .ref q2, .ref q4, .ref q6, .int 1, .int 13, .ref q8, .ref q10, .int 0, .int 0, .int 0, .int 0, .int 0, .int 0, .int 0, .int 0, .int 0, .int 0, .int 2147483647, .int 0, .int 2147483647])), (q4, .inl (c5, 610, .inl f35)), (q6, .inl (c7, 610, .inl f36))] H := hP
  have hD : va_D A [(q2, .inl (c3, 1260, .inl (upd f64 (Int32.toNatClampNeg 12) 101))), (h0, .inr (16, [.ref h1, .int 0, .ref q1, .ref q2, .ref q4, .ref q6, .int 1, .int 13, .ref q8, .ref q10, .int 0, .int 0, .int 0, .int 0, .int 0, .int 0, .int 0, .int 0, .int 0, .int 0, .int 2147483647, .int 0, .int 2147483647])), (q4, .inl (c5, 610, .inl f35)), (q6, .inl (c7, 610, .inl f36))] := hD
  generalize upd f64 (Int32.toNatClampNeg 12) 101 = f68 at hP hD
  refine lv_goto (tgt := 146) hx hb dX19_init_132 (by decide) ?_
  refine lv_iinc (v := 14) (lv' := [(4, .int 14), (3, .int 5), (0, .ref h0), (1, .ref h1), (2, .int 0)]) hx hb dX19_init_146 hl (k := 0) rfl (by decide) (by decide) rfl (fun ls hl => ?_)
  refine lv_goto (tgt := 87) hx hb dX19_init_149 (by decide) ?_
  refine lv_iload hx hb dX19_init_87 (lv_at hl 0 rfl) ?_
  refine va_ldcS hx hb hown hE.2.2.2.2.2.2.2.2.1 dX19_init_89 ?_
  have hPc := hP.sub (ws' := []) [] rfl
  have hDc := hD.sub (ws' := []) [] (by decide) rfl
  have hKc := hK.sub (tys' := []) [] rfl
  have hFc := va_free (wc := []) hD hS hA [] rfl
  refine va_calli (va_runV (As := []) (rest := [.int 14]) ⟨hx, hb, hml, hown, hts⟩ (kS_length l dC dI  (sz := _)) (cwV 0 hts (gi_V qw414 qw415 qw416 qw324 (gi_z qw413)) rfl rfl rfl (by decide +kernel) ⟨Nat.le_of_ble_eq_true rfl, Nat.le_of_ble_eq_true rfl⟩) ⟨PRE.blind, STC.recv hE.2.2.2.2.2.2.2.2 hS, PRE.of hE hS hFc hPc hKc hDc⟩ rfl rfl hl.1 rfl (lv_room (Nat.le_of_ble_eq_true rfl)) dX19_init_91 ⟨Nat.le_of_ble_eq_true rfl, Nat.le_of_ble_eq_true rfl⟩) hS (fun q _ h => hFc q h) hFc (fun r69 u t H locs ht hvm hw hB hz1 hk1 hS => ?_)
  obtain ⟨hP, hD, hK⟩ := JOIN (wr := [(q2, .inl (c3, 1260, .inl f68)), (h0, .inr (16, [.ref h1, .int 0, .ref q1, .ref q2, .ref q4, .ref q6, .int 1, .int 13, .ref q8, .ref q10, .int 0, .int 0, .int 0, .int 0, .int 0, .int 0, .int 0, .int 0, .int 0, .int 0, .int 2147483647, .int 0, .int 2147483647])), (q4, .inl (c5, 610, .inl f35)), (q6, .inl (c7, 610, .inl f36))]) hP hD hK [] [0, 1, 2, 3] [0, 1, 2] rfl rfl (by decide) (by decide) rfl hk1 hFc ht hvm hB
  have hP : va_P (dC, dI) cls [(q2, .inl (c3, 1260, .inl f68)), (h0, .inr (16, [.ref h1, .int 0, .ref q1, .ref q2, .ref q4, .ref q6, .int 1, .int 13, .ref q8, .ref q10, .int 0, .int 0, .int 0, .int 0, .int 0, .int 0, .int 0, .int 0, .int 0, .int 0, .int 2147483647, .int 0, .int 2147483647])), (q4, .inl (c5, 610, .inl f35)), (q6, .inl (c7, 610, .inl f36))] H := hP
  have hD : va_D A [(q2, .inl (c3, 1260, .inl f68)), (h0, .inr (16, [.ref h1, .int 0, .ref q1, .ref q2, .ref q4, .ref q6, .int 1, .int 13, .ref q8, .ref q10, .int 0, .int 0, .int 0, .int 0, .int 0, .int 0, .int 0, .int 0, .int 0, .int 0, .int 2147483647, .int 0, .int 2147483647])), (q4, .inl (c5, 610, .inl f35)), (q6, .inl (c7, 610, .inl f36))] := hD
  have hK : va_K (dC, dI) cls [(c3, .int), (c5, .int), (c7, .int)] s := hK
  refine W.widen (k := 19) (n := 19730) (Nat.le_of_ble_eq_true rfl) (Nat.le_of_ble_eq_true rfl) ?_
  obtain rfl : r69 = 44 := hw
  refine lv_icmp_ge (tgt := 152) hx hb dX19_init_94 (by decide) (fun c => absurd c (by decide)) (fun _ => ?_)
  refine va_ldcS hx hb hown hE.2.2.2.2.2.2.2.2.1 dX19_init_97 ?_
  refine lv_iload hx hb dX19_init_99 (lv_at hl 0 rfl) ?_
  have hPc := hP.sub (ws' := []) [] rfl
  have hDc := hD.sub (ws' := []) [] (by decide) rfl
  have hKc := hK.sub (tys' := []) [] rfl
  have hFc := va_free (wc := []) hD hS hA [] rfl
  refine va_calli (va_runV (As := [.int 14]) (rest := []) ⟨hx, hb, hml, hown, hts⟩ (kS_charAt l dC dI (p0 := 14) (sz := _) (h1 := (by decide)) (h2 := (by decide))) (cwV 1 hts (gi_V qw418 qw419 qw420 qw324 (gi_z qw417)) rfl rfl rfl (by decide +kernel) ⟨Nat.le_of_ble_eq_true rfl, Nat.le_of_ble_eq_true rfl⟩) ⟨PRE.blind, STC.recv hE.2.2.2.2.2.2.2.2 hS, PRE.of hE hS hFc hPc hKc hDc⟩ rfl rfl hl.1 rfl (lv_room (Nat.le_of_ble_eq_true rfl)) dX19_init_101 ⟨Nat.le_of_ble_eq_true rfl, Nat.le_of_ble_eq_true rfl⟩) hS (fun q _ h => hFc q h) hFc (fun r70 u t H locs ht hvm hw hB hz1 hk1 hS => ?_)
  obtain ⟨hP, hD, hK⟩ := JOIN (wr := [(q2, .inl (c3, 1260, .inl f68)), (h0, .inr (16, [.ref h1, .int 0, .ref q1, .ref q2, .ref q4, .ref q6, .int 1, .int 13, .ref q8, .ref q10, .int 0, .int 0, .int 0, .int 0, .int 0, .int 0, .int 0, .int 0, .int 0, .int 0, .int 2147483647, .int 0, .int 2147483647])), (q4, .inl (c5, 610, .inl f35)), (q6, .inl (c7, 610, .inl f36))]) hP hD hK [] [0, 1, 2, 3] [0, 1, 2] rfl rfl (by decide) (by decide) rfl hk1 hFc ht hvm hB
  have hP : va_P (dC, dI) cls [(q2, .inl (c3, 1260, .inl f68)), (h0, .inr (16, [.ref h1, .int 0, .ref q1, .ref q2, .ref q4, .ref q6, .int 1, .int 13, .ref q8, .ref q10, .int 0, .int 0, .int 0, .int 0, .int 0, .int 0, .int 0, .int 0, .int 0, .int 0, .int 2147483647, .int 0, .int 2147483647])), (q4, .inl (c5, 610, .inl f35)), (q6, .inl (c7, 610, .inl f36))] H := hP
  have hD : va_D A [(q2, .inl (c3, 1260, .inl f68)), (h0, .inr (16, [.ref h1, .int 0, .ref q1, .ref q2, .ref q4, .ref q6, .int 1, .int 13, .ref q8, .ref q10, .int 0, .int 0, .int 0, .int 0, .int 0, .int 0, .int 0, .int 0, .int 0, .int 0, .int 2147483647, .int 0, .int 2147483647])), (q4, .inl (c5, 610, .inl f35)), (q6, .inl (c7, 610, .inl f36))] := hD
  have hK : va_K (dC, dI) cls [(c3, .int), (c5, .int), (c7, .int)] s := hK
  refine W.widen (k := 19) (n := 19730) (Nat.le_of_ble_eq_true rfl) (Nat.le_of_ble_eq_true rfl) ?_
  obtain rfl : r70 = (((((kb (Int32.toNatClampNeg 14)) &&& 255)).toUInt32 % 65536).toInt32) := hw
  refine lv_topC (y := 32) (by decide) ?_
  refine lv_bipush (v := 32) hx hb dX19_init_104 (by decide) ?_
  refine lv_icmp_eq (tgt := 135) hx hb dX19_init_106 (by decide) (fun _ => ?_) (fun c => absurd (by decide) c)
  refine lv_aload_n hx hb dX19_init_135 rfl (lv_at hl 2 rfl) ?_
  refine lv_iload_n hx hb dX19_init_136 rfl (lv_at hl 1 rfl) ?_
  have hPc := hP.sub (ws' := [(h0, .inr (16, [.ref h1, .int 0, .ref q1, .ref q2, .ref q4, .ref q6, .int 1, .int 13, .ref q8, .ref q10, .int 0, .int 0, .int 0, .int 0, .int 0, .int 0, .int 0, .int 0, .int 0, .int 0, .int 2147483647, .int 0, .int 2147483647])), (q4, .inl (c5, 610, .inl f35)), (q6, .inl (c7, 610, .inl f36))]) [1, 2, 3] rfl
  have hDc := hD.sub (ws' := [(h0, .inr (16, [.ref h1, .int 0, .ref q1, .ref q2, .ref q4, .ref q6, .int 1, .int 13, .ref q8, .ref q10, .int 0, .int 0, .int 0, .int 0, .int 0, .int 0, .int 0, .int 0, .int 0, .int 0, .int 2147483647, .int 0, .int 2147483647])), (q4, .inl (c5, 610, .inl f35)), (q6, .inl (c7, 610, .inl f36))]) [1, 2, 3] (by decide) rfl
  have hKc := hK.sub (tys' := [(c5, .int), (c7, .int)]) [1, 2] rfl
  have hFc := va_free (wc := [(h0, .inr (16, [.ref h1, .int 0, .ref q1, .ref q2, .ref q4, .ref q6, .int 1, .int 13, .ref q8, .ref q10, .int 0, .int 0, .int 0, .int 0, .int 0, .int 0, .int 0, .int 0, .int 0, .int 0, .int 2147483647, .int 0, .int 2147483647])), (q4, .inl (c5, 610, .inl f35)), (q6, .inl (c7, 610, .inl f36))]) hD hS hA [1, 2, 3] rfl
  refine va_calli (va_runV (As := [.int 5]) (rest := []) ⟨hx, hb, hml, hown, hts⟩ (kX19_keep_n27 l dC dI (a0 := h0) (a2 := q2) (a4 := h1) (a5 := q1) (a6 := q4) (a7 := q6) (a8 := q8) (a9 := q10) (F10 := f35) (k11 := c5) (F12 := f36) (k13 := c7) (sz := _)) (cwV 1 hts (gi_V qw424 qw425 qw426 qw427 (gi_z qw423)) rfl rfl rfl (by decide +kernel) ⟨Nat.le_of_ble_eq_true rfl, Nat.le_of_ble_eq_true rfl⟩) ⟨PRE.blind, va_recv hKc hPc (ci := 16) (q0 := 0) rfl rfl, PRE.of hE hS hFc hPc hKc hDc⟩ rfl rfl hl.1 rfl (lv_room (Nat.le_of_ble_eq_true rfl)) dX19_init_137 ⟨Nat.le_of_ble_eq_true rfl, Nat.le_of_ble_eq_true rfl⟩) hS (fun q _ h => hFc q h) hFc (fun r71 u t H locs ht hvm hw hB hz1 hk1 hS => ?_)
  obtain ⟨f72, f73, hB⟩ := hB
  obtain ⟨hP, hD, hK⟩ := JOIN (wr := [(q2, .inl (c3, 1260, .inl f68))]) hP hD hK [1, 2, 3] [0] [0] rfl rfl (by decide) (by decide) rfl hk1 hFc ht hvm hB
  have hP : va_P (dC, dI) cls [(q2, .inl (c3, 1260, .inl f68)), (h0, .inr (16, [.ref h1, .int 0, .ref q1, .ref q2, .ref q4, .ref q6, .int 2, .int 13, .ref q8, .ref q10, .int 0, .int 0, .int 0, .int 0, .int 0, .int 0, .int 0, .int 0, .int 0, .int 0, .int 2147483647, .int 0, .int 2147483647])), (q4, .inl (c5, 610, .inl f72)), (q6, .inl (c7, 610, .inl f73))] H := hP
  have hD : va_D A [(q2, .inl (c3, 1260, .inl f68)), (h0, .inr (16, [.ref h1, .int 0, .ref q1, .ref q2, .ref q4, .ref q6, .int 2, .int 13, .ref q8, .ref q10, .int 0, .int 0, .int 0, .int 0, .int 0, .int 0, .int 0, .int 0, .int 0, .int 0, .int 2147483647, .int 0, .int 2147483647])), (q4, .inl (c5, 610, .inl f72)), (q6, .inl (c7, 610, .inl f73))] := hD
  have hK : va_K (dC, dI) cls [(c3, .int), (c5, .int), (c7, .int)] s := hK
  refine W.widen (k := 19) (n := 19730) (Nat.le_of_ble_eq_true rfl) (Nat.le_of_ble_eq_true rfl) ?_
  obtain rfl : r71 = 1 := hw
  refine lv_pop hx hb dX19_init_140 rfl ?_
  refine lv_aload_n hx hb dX19_init_141 rfl (lv_at hl 2 rfl) ?_
  refine va_get (D := (dC, dI)) (ci := 16) (v := .int 13) (C := RX19) (T := TX19) (N := 23) hx hb hts i_X19 hown hK hP 1 rfl rfl 7 (by decide) (hts _ qw421) (fun _ h9 => h9) rfl dX19_init_142 ?_
  refine lv_istore_n (lv' := [(3, .int 13), (4, .int 14), (0, .ref h0), (1, .ref h1), (2, .int 0)]) hx hb dX19_init_145 rfl hl (by decide) rfl (fun ls hl => ?_)
  refine lv_iinc (v := 15) (lv' := [(4, .int 15), (3, .int 13), (0, .ref h0), (1, .ref h1), (2, .int 0)]) hx hb dX19_init_146 hl (k := 1) rfl (by decide) (by decide) rfl (fun ls hl => ?_)
  refine lv_goto (tgt := 87) hx hb dX19_init_149 (by decide) ?_
  refine lv_iload hx hb dX19_init_87 (lv_at hl 0 rfl) ?_
  refine va_ldcS hx hb hown hE.2.2.2.2.2.2.2.2.1 dX19_init_89 ?_
  have hPc := hP.sub (ws' := []) [] rfl
  have hDc := hD.sub (ws' := []) [] (by decide) rfl
  have hKc := hK.sub (tys' := []) [] rfl
  have hFc := va_free (wc := []) hD hS hA [] rfl
  refine va_calli (va_runV (As := []) (rest := [.int 15]) ⟨hx, hb, hml, hown, hts⟩ (kS_length l dC dI  (sz := _)) (cwV 0 hts (gi_V qw414 qw415 qw416 qw324 (gi_z qw413)) rfl rfl rfl (by decide +kernel) ⟨Nat.le_of_ble_eq_true rfl, Nat.le_of_ble_eq_true rfl⟩) ⟨PRE.blind, STC.recv hE.2.2.2.2.2.2.2.2 hS, PRE.of hE hS hFc hPc hKc hDc⟩ rfl rfl hl.1 rfl (lv_room (Nat.le_of_ble_eq_true rfl)) dX19_init_91 ⟨Nat.le_of_ble_eq_true rfl, Nat.le_of_ble_eq_true rfl⟩) hS (fun q _ h => hFc q h) hFc (fun r74 u t H locs ht hvm hw hB hz1 hk1 hS => ?_)
  obtain ⟨hP, hD, hK⟩ := JOIN (wr := [(q2, .inl (c3, 1260, .inl f68)), (h0, .inr (16, [.ref h1, .int 0, .ref q1, .ref q2, .ref q4, .ref q6, .int 2, .int 13, .ref q8, .ref q10, .int 0, .int 0, .int 0, .int 0, .int 0, .int 0, .int 0, .int 0, .int 0, .int 0, .int 2147483647, .int 0, .int 2147483647])), (q4, .inl (c5, 610, .inl f72)), (q6, .inl (c7, 610, .inl f73))]) hP hD hK [] [0, 1, 2, 3] [0, 1, 2] rfl rfl (by decide) (by decide) rfl hk1 hFc ht hvm hB
  have hP : va_P (dC, dI) cls [(q2, .inl (c3, 1260, .inl f68)), (h0, .inr (16, [.ref h1, .int 0, .ref q1, .ref q2, .ref q4, .ref q6, .int 2, .int 13, .ref q8, .ref q10, .int 0, .int 0, .int 0, .int 0, .int 0, .int 0, .int 0, .int 0, .int 0, .int 0, .int 2147483647, .int 0, .int 2147483647])), (q4, .inl (c5, 610, .inl f72)), (q6, .inl (c7, 610, .inl f73))] H := hP
  have hD : va_D A [(q2, .inl (c3, 1260, .inl f68)), (h0, .inr (16, [.ref h1, .int 0, .ref q1, .ref q2, .ref q4, .ref q6, .int 2, .int 13, .ref q8, .ref q10, .int 0, .int 0, .int 0, .int 0, .int 0, .int 0, .int 0, .int 0, .int 0, .int 0, .int 2147483647, .int 0, .int 2147483647])), (q4, .inl (c5, 610, .inl f72)), (q6, .inl (c7, 610, .inl f73))] := hD
  have hK : va_K (dC, dI) cls [(c3, .int), (c5, .int), (c7, .int)] s := hK
  refine W.widen (k := 19) (n := 19730) (Nat.le_of_ble_eq_true rfl) (Nat.le_of_ble_eq_true rfl) ?_
  obtain rfl : r74 = 44 := hw
  refine lv_icmp_ge (tgt := 152) hx hb dX19_init_94 (by decide) (fun c => absurd c (by decide)) (fun _ => ?_)
  refine va_ldcS hx hb hown hE.2.2.2.2.2.2.2.2.1 dX19_init_97 ?_
  refine lv_iload hx hb dX19_init_99 (lv_at hl 0 rfl) ?_
  have hPc := hP.sub (ws' := []) [] rfl
  have hDc := hD.sub (ws' := []) [] (by decide) rfl
  have hKc := hK.sub (tys' := []) [] rfl
  have hFc := va_free (wc := []) hD hS hA [] rfl
  refine va_calli (va_runV (As := [.int 15]) (rest := []) ⟨hx, hb, hml, hown, hts⟩ (kS_charAt l dC dI (p0 := 15) (sz := _) (h1 := (by decide)) (h2 := (by decide))) (cwV 1 hts (gi_V qw418 qw419 qw420 qw324 (gi_z qw417)) rfl rfl rfl (by decide +kernel) ⟨Nat.le_of_ble_eq_true rfl, Nat.le_of_ble_eq_true rfl⟩) ⟨PRE.blind, STC.recv hE.2.2.2.2.2.2.2.2 hS, PRE.of hE hS hFc hPc hKc hDc⟩ rfl rfl hl.1 rfl (lv_room (Nat.le_of_ble_eq_true rfl)) dX19_init_101 ⟨Nat.le_of_ble_eq_true rfl, Nat.le_of_ble_eq_true rfl⟩) hS (fun q _ h => hFc q h) hFc (fun r75 u t H locs ht hvm hw hB hz1 hk1 hS => ?_)
  obtain ⟨hP, hD, hK⟩ := JOIN (wr := [(q2, .inl (c3, 1260, .inl f68)), (h0, .inr (16, [.ref h1, .int 0, .ref q1, .ref q2, .ref q4, .ref q6, .int 2, .int 13, .ref q8, .ref q10, .int 0, .int 0, .int 0, .int 0, .int 0, .int 0, .int 0, .int 0, .int 0, .int 0, .int 2147483647, .int 0, .int 2147483647])), (q4, .inl (c5, 610, .inl f72)), (q6, .inl (c7, 610, .inl f73))]) hP hD hK [] [0, 1, 2, 3] [0, 1, 2] rfl rfl (by decide) (by decide) rfl hk1 hFc ht hvm hB
  have hP : va_P (dC, dI) cls [(q2, .inl (c3, 1260, .inl f68)), (h0, .inr (16, [.ref h1, .int 0, .ref q1, .ref q2, .ref q4, .ref q6, .int 2, .int 13, .ref q8, .ref q10, .int 0, .int 0, .int 0, .int 0, .int 0, .int 0, .int 0, .int 0, .int 0, .int 0, .int 2147483647, .int 0, .int 2147483647])), (q4, .inl (c5, 610, .inl f72)), (q6, .inl (c7, 610, .inl f73))] H := hP
  have hD : va_D A [(q2, .inl (c3, 1260, .inl f68)), (h0, .inr (16, [.ref h1, .int 0, .ref q1, .ref q2, .ref q4, .ref q6, .int 2, .int 13, .ref q8, .ref q10, .int 0, .int 0, .int 0, .int 0, .int 0, .int 0, .int 0, .int 0, .int 0, .int 0, .int 2147483647, .int 0, .int 2147483647])), (q4, .inl (c5, 610, .inl f72)), (q6, .inl (c7, 610, .inl f73))] := hD
  have hK : va_K (dC, dI) cls [(c3, .int), (c5, .int), (c7, .int)] s := hK
  refine W.widen (k := 19) (n := 19730) (Nat.le_of_ble_eq_true rfl) (Nat.le_of_ble_eq_true rfl) ?_
  obtain rfl : r75 = (((((kb (Int32.toNatClampNeg 15)) &&& 255)).toUInt32 % 65536).toInt32) := hw
  refine lv_topC (y := 101) (by decide) ?_
  refine lv_bipush (v := 32) hx hb dX19_init_104 (by decide) ?_
  refine lv_icmp_eq (tgt := 135) hx hb dX19_init_106 (by decide) (fun c => absurd c (by decide)) (fun _ => ?_)
  refine lv_aload_n hx hb dX19_init_109 rfl (lv_at hl 2 rfl) ?_
  refine va_get (D := (dC, dI)) (ci := 16) (v := .ref q2) (C := RX19) (T := TX19) (N := 23) hx hb hts i_X19 hown hK hP 1 rfl rfl 3 (by decide) (hts _ qw403) (fun _ h9 => h9) rfl dX19_init_110 ?_
  refine lv_aload_n hx hb dX19_init_113 rfl (lv_at hl 2 rfl) ?_
  refine lv_dup hx hb dX19_init_114 rfl ?_
  refine va_get (D := (dC, dI)) (ci := 16) (v := .int 13) (C := RX19) (T := TX19) (N := 23) hx hb hts i_X19 hown hK hP 1 rfl rfl 7 (by decide) (hts _ qw421) (fun _ h9 => h9) rfl dX19_init_115 ?_
  refine lv_dup_x1 hx hb dX19_init_118 rfl rfl ?_
  refine lv_iconst (v := 1) hx hb dX19_init_119 (by decide) ?_
  refine lv_iadd hx hb dX19_init_120 ?_
  refine lv_topC (y := 14) (by decide) ?_
  refine va_put (D := (dC, dI)) (ci := 16) (v := .int 14) (ty := .int) (C := RX19) (T := TX19) (N := 23) hx hb hts i_X19 tyX19 tyX19_ok nmX19 hown hK hP hD hS 1 rfl rfl 7 (by decide) (hts _ qw421) (fun _ h9 => h9) rfl (by decide +kernel) rfl rfl (Nat.le_of_ble_eq_true rfl) dX19_init_121 (fun H locs hP hD hS => ?_)
  have hP : va_P (dC, dI) cls [(q2, .inl (c3, 1260, .inl f68)), (h0, .inr (16, [.ref h1, .int 0, .ref q1, .ref q2, .ref q4, .ref q6, .int 2, .int 14, .ref q8, .ref q10, .int 0, .int 0, .int 0, .int 0, .int 0, .int 0, .int 0, .int 0, .int 0, .int 0, .int 2147483647, .int 0, .int 2147483647])), (q4, .inl (c5, 610, .inl f72)), (q6, .inl (c7, 610, .inl f73))] H := hP
  have hD : va_D A [(q2, .inl (c3, 1260, .inl f68)), (h0, .inr (16, [.ref h1, .int 0, .ref q1, .ref q2, .ref q4, .ref q6, .int 2, .int 14, .ref q8, .ref q10, .int 0, .int 0, .int 0, .int 0, .int 0, .int 0, .int 0, .int 0, .int 0, .int 0, .int 2147483647, .int 0, .int 2147483647])), (q4, .inl (c5, 610, .inl f72)), (q6, .inl (c7, 610, .inl f73))] := hD
  refine va_ldcS hx hb hown hE.2.2.2.2.2.2.2.2.1 dX19_init_124 ?_
  refine lv_iload hx hb dX19_init_126 (lv_at hl 0 rfl) ?_
  have hPc := hP.sub (ws' := []) [] rfl
  have hDc := hD.sub (ws' := []) [] (by decide) rfl
  have hKc := hK.sub (tys' := []) [] rfl
  have hFc := va_free (wc := []) hD hS hA [] rfl
  refine va_calli (va_runV (As := [.int 15]) (rest := [.int 13, .ref q2]) ⟨hx, hb, hml, hown, hts⟩ (kS_charAt l dC dI (p0 := 15) (sz := _) (h1 := (by decide)) (h2 := (by decide))) (cwV 1 hts (gi_V qw418 qw419 qw420 qw324 (gi_z qw417)) rfl rfl rfl (by decide +kernel) ⟨Nat.le_of_ble_eq_true rfl, Nat.le_of_ble_eq_true rfl⟩) ⟨PRE.blind, STC.recv hE.2.2.2.2.2.2.2.2 hS, PRE.of hE hS hFc hPc hKc hDc⟩ rfl rfl hl.1 rfl (lv_room (Nat.le_of_ble_eq_true rfl)) dX19_init_128 ⟨Nat.le_of_ble_eq_true rfl, Nat.le_of_ble_eq_true rfl⟩) hS (fun q _ h => hFc q h) hFc (fun r76 u t H locs ht hvm hw hB hz1 hk1 hS => ?_)
  obtain ⟨hP, hD, hK⟩ := JOIN (wr := [(q2, .inl (c3, 1260, .inl f68)), (h0, .inr (16, [.ref h1, .int 0, .ref q1, .ref q2, .ref q4, .ref q6, .int 2, .int 14, .ref q8, .ref q10, .int 0, .int 0, .int 0, .int 0, .int 0, .int 0, .int 0, .int 0, .int 0, .int 0, .int 2147483647, .int 0, .int 2147483647])), (q4, .inl (c5, 610, .inl f72)), (q6, .inl (c7, 610, .inl f73))]) hP hD hK [] [0, 1, 2, 3] [0, 1, 2] rfl rfl (by decide) (by decide) rfl hk1 hFc ht hvm hB
  have hP : va_P (dC, dI) cls [(q2, .inl (c3, 1260, .inl f68)), (h0, .inr (16, [.ref h1, .int 0, .ref q1, .ref q2, .ref q4, .ref q6, .int 2, .int 14, .ref q8, .ref q10, .int 0, .int 0, .int 0, .int 0, .int 0, .int 0, .int 0, .int 0, .int 0, .int 0, .int 2147483647, .int 0, .int 2147483647])), (q4, .inl (c5, 610, .inl f72)), (q6, .inl (c7, 610, .inl f73))] H := hP
  have hD : va_D A [(q2, .inl (c3, 1260, .inl f68)), (h0, .inr (16, [.ref h1, .int 0, .ref q1, .ref q2, .ref q4, .ref q6, .int 2, .int 14, .ref q8, .ref q10, .int 0, .int 0, .int 0, .int 0, .int 0, .int 0, .int 0, .int 0, .int 0, .int 0, .int 2147483647, .int 0, .int 2147483647])), (q4, .inl (c5, 610, .inl f72)), (q6, .inl (c7, 610, .inl f73))] := hD
  have hK : va_K (dC, dI) cls [(c3, .int), (c5, .int), (c7, .int)] s := hK
  refine W.widen (k := 19) (n := 19730) (Nat.le_of_ble_eq_true rfl) (Nat.le_of_ble_eq_true rfl) ?_
  obtain rfl : r76 = (((((kb (Int32.toNatClampNeg 15)) &&& 255)).toUInt32 % 65536).toInt32) := hw
  refine lv_topC (y := 101) (by decide) ?_
  refine va_iast hx hb hK hP hD hS 0 0 rfl rfl (by unfold vp_in; decide +kernel) dX19_init_131 (fun H locs hP hD hS => ?_)
  have hP : va_P (dC, dI) cls [(q2, .inl (c3, 1260, .inl (upd f68 (Int32.toNatClampNeg 13) 101))), (h0, .inr (16, [.ref h1, .int 0, .ref q1, .ref q2, .ref q4, .ref q6, .int 2, .int 14, .ref q8, .ref q10, .int 0, .int 0, .int 0, .int 0, .int 0, .int 0, .int 0, .int 0, .int 0, .int 0, .int 2147483647, .int 0, .int 2147483647])), (q4, .inl (c5, 610, .inl f72)), (q6, .inl (c7, 610, .inl f73))] H := hP
  have hD : va_D A [(q2, .inl (c3, 1260, .inl (upd f68 (Int32.toNatClampNeg 13) 101))), (h0, .inr (16, [.ref h1, .int 0, .ref q1, .ref q2, .ref q4, .ref q6, .int 2, .int 14, .ref q8, .ref q10, .int 0, .int 0, .int 0, .int 0, .int 0, .int 0, .int 0, .int 0, .int 0, .int 0, .int 2147483647, .int 0, .int 2147483647])), (q4, .inl (c5, 610, .inl f72)), (q6, .inl (c7, 610, .inl f73))] := hD
  generalize upd f68 (Int32.toNatClampNeg 13) 101 = f77 at hP hD
  refine lv_goto (tgt := 146) hx hb dX19_init_132 (by decide) ?_
  refine lv_iinc (v := 16) (lv' := [(4, .int 16), (3, .int 13), (0, .ref h0), (1, .ref h1), (2, .int 0)]) hx hb dX19_init_146 hl (k := 0) rfl (by decide) (by decide) rfl (fun ls hl => ?_)
  refine lv_goto (tgt := 87) hx hb dX19_init_149 (by decide) ?_
  refine lv_iload hx hb dX19_init_87 (lv_at hl 0 rfl) ?_
  refine va_ldcS hx hb hown hE.2.2.2.2.2.2.2.2.1 dX19_init_89 ?_
  have hPc := hP.sub (ws' := []) [] rfl
  have hDc := hD.sub (ws' := []) [] (by decide) rfl
  have hKc := hK.sub (tys' := []) [] rfl
  have hFc := va_free (wc := []) hD hS hA [] rfl
  refine va_calli (va_runV (As := []) (rest := [.int 16]) ⟨hx, hb, hml, hown, hts⟩ (kS_length l dC dI  (sz := _)) (cwV 0 hts (gi_V qw414 qw415 qw416 qw324 (gi_z qw413)) rfl rfl rfl (by decide +kernel) ⟨Nat.le_of_ble_eq_true rfl, Nat.le_of_ble_eq_true rfl⟩) ⟨PRE.blind, STC.recv hE.2.2.2.2.2.2.2.2 hS, PRE.of hE hS hFc hPc hKc hDc⟩ rfl rfl hl.1 rfl (lv_room (Nat.le_of_ble_eq_true rfl)) dX19_init_91 ⟨Nat.le_of_ble_eq_true rfl, Nat.le_of_ble_eq_true rfl⟩) hS (fun q _ h => hFc q h) hFc (fun r78 u t H locs ht hvm hw hB hz1 hk1 hS => ?_)
  obtain ⟨hP, hD, hK⟩ := JOIN (wr := [(q2, .inl (c3, 1260, .inl f77)), (h0, .inr (16, [.ref h1, .int 0, .ref q1, .ref q2, .ref q4, .ref q6, .int 2, .int 14, .ref q8, .ref q10, .int 0, .int 0, .int 0, .int 0, .int 0, .int 0, .int 0, .int 0, .int 0, .int 0, .int 2147483647, .int 0, .int 2147483647])), (q4, .inl (c5, 610, .inl f72)), (q6, .inl (c7, 610, .inl f73))]) hP hD hK [] [0, 1, 2, 3] [0, 1, 2] rfl rfl (by decide) (by decide) rfl hk1 hFc ht hvm hB
  have hP : va_P (dC, dI) cls [(q2, .inl (c3, 1260, .inl f77)), (h0, .inr (16, [.ref h1, .int 0, .ref q1, .ref q2, .ref q4, .ref q6, .int 2, .int 14, .ref q8, .ref q10, .int 0, .int 0, .int 0, .int 0, .int 0, .int 0, .int 0, .int 0, .int 0, .int 0, .int 2147483647, .int 0, .int 2147483647])), (q4, .inl (c5, 610, .inl f72)), (q6, .inl (c7, 610, .inl f73))] H := hP
  have hD : va_D A [(q2, .inl (c3, 1260, .inl f77)), (h0, .inr (16, [.ref h1, .int 0, .ref q1, .ref q2, .ref q4, .ref q6, .int 2, .int 14, .ref q8, .ref q10, .int 0, .int 0, .int 0, .int 0, .int 0, .int 0, .int 0, .int 0, .int 0, .int 0, .int 2147483647, .int 0, .int 2147483647])), (q4, .inl (c5, 610, .inl f72)), (q6, .inl (c7, 610, .inl f73))] := hD
  have hK : va_K (dC, dI) cls [(c3, .int), (c5, .int), (c7, .int)] s := hK
  refine W.widen (k := 19) (n := 19730) (Nat.le_of_ble_eq_true rfl) (Nat.le_of_ble_eq_true rfl) ?_
  obtain rfl : r78 = 44 := hw
  refine lv_icmp_ge (tgt := 152) hx hb dX19_init_94 (by decide) (fun c => absurd c (by decide)) (fun _ => ?_)
  refine va_ldcS hx hb hown hE.2.2.2.2.2.2.2.2.1 dX19_init_97 ?_
  refine lv_iload hx hb dX19_init_99 (lv_at hl 0 rfl) ?_
  have hPc := hP.sub (ws' := []) [] rfl
  have hDc := hD.sub (ws' := []) [] (by decide) rfl
  have hKc := hK.sub (tys' := []) [] rfl
  have hFc := va_free (wc := []) hD hS hA [] rfl
  refine va_calli (va_runV (As := [.int 16]) (rest := []) ⟨hx, hb, hml, hown, hts⟩ (kS_charAt l dC dI (p0 := 16) (sz := _) (h1 := (by decide)) (h2 := (by decide))) (cwV 1 hts (gi_V qw418 qw419 qw420 qw324 (gi_z qw417)) rfl rfl rfl (by decide +kernel) ⟨Nat.le_of_ble_eq_true rfl, Nat.le_of_ble_eq_true rfl⟩) ⟨PRE.blind, STC.recv hE.2.2.2.2.2.2.2.2 hS, PRE.of hE hS hFc hPc hKc hDc⟩ rfl rfl hl.1 rfl (lv_room (Nat.le_of_ble_eq_true rfl)) dX19_init_101 ⟨Nat.le_of_ble_eq_true rfl, Nat.le_of_ble_eq_true rfl⟩) hS (fun q _ h => hFc q h) hFc (fun r79 u t H locs ht hvm hw hB hz1 hk1 hS => ?_)
  obtain ⟨hP, hD, hK⟩ := JOIN (wr := [(q2, .inl (c3, 1260, .inl f77)), (h0, .inr (16, [.ref h1, .int 0, .ref q1, .ref q2, .ref q4, .ref q6, .int 2, .int 14, .ref q8, .ref q10, .int 0, .int 0, .int 0, .int 0, .int 0, .int 0, .int 0, .int 0, .int 0, .int 0, .int 2147483647, .int 0, .int 2147483647])), (q4, .inl (c5, 610, .inl f72)), (q6, .inl (c7, 610, .inl f73))]) hP hD hK [] [0, 1, 2, 3] [0, 1, 2] rfl rfl (by decide) (by decide) rfl hk1 hFc ht hvm hB
  have hP : va_P (dC, dI) cls [(q2, .inl (c3, 1260, .inl f77)), (h0, .inr (16, [.ref h1, .int 0, .ref q1, .ref q2, .ref q4, .ref q6, .int 2, .int 14, .ref q8, .ref q10, .int 0, .int 0, .int 0, .int 0, .int 0, .int 0, .int 0, .int 0, .int 0, .int 0, .int 2147483647, .int 0, .int 2147483647])), (q4, .inl (c5, 610, .inl f72)), (q6, .inl (c7, 610, .inl f73))] H := hP
  have hD : va_D A [(q2, .inl (c3, 1260, .inl f77)), (h0, .inr (16, [.ref h1, .int 0, .ref q1, .ref q2, .ref q4, .ref q6, .int 2, .int 14, .ref q8, .ref q10, .int 0, .int 0, .int 0, .int 0, .int 0, .int 0, .int 0, .int 0, .int 0, .int 0, .int 2147483647, .int 0, .int 2147483647])), (q4, .inl (c5, 610, .inl f72)), (q6, .inl (c7, 610, .inl f73))] := hD
  have hK : va_K (dC, dI) cls [(c3, .int), (c5, .int), (c7, .int)] s := hK
  refine W.widen (k := 19) (n := 19730) (Nat.le_of_ble_eq_true rfl) (Nat.le_of_ble_eq_true rfl) ?_
  obtain rfl : r79 = (((((kb (Int32.toNatClampNeg 16)) &&& 255)).toUInt32 % 65536).toInt32) := hw
  refine lv_topC (y := 108) (by decide) ?_
  refine lv_bipush (v := 32) hx hb dX19_init_104 (by decide) ?_
  refine lv_icmp_eq (tgt := 135) hx hb dX19_init_106 (by decide) (fun c => absurd c (by decide)) (fun _ => ?_)
  refine lv_aload_n hx hb dX19_init_109 rfl (lv_at hl 2 rfl) ?_
  refine va_get (D := (dC, dI)) (ci := 16) (v := .ref q2) (C := RX19) (T := TX19) (N := 23) hx hb hts i_X19 hown hK hP 1 rfl rfl 3 (by decide) (hts _ qw403) (fun _ h9 => h9) rfl dX19_init_110 ?_
  refine lv_aload_n hx hb dX19_init_113 rfl (lv_at hl 2 rfl) ?_
  refine lv_dup hx hb dX19_init_114 rfl ?_
  refine va_get (D := (dC, dI)) (ci := 16) (v := .int 14) (C := RX19) (T := TX19) (N := 23) hx hb hts i_X19 hown hK hP 1 rfl rfl 7 (by decide) (hts _ qw421) (fun _ h9 => h9) rfl dX19_init_115 ?_
  refine lv_dup_x1 hx hb dX19_init_118 rfl rfl ?_
  refine lv_iconst (v := 1) hx hb dX19_init_119 (by decide) ?_
  refine lv_iadd hx hb dX19_init_120 ?_
  refine lv_topC (y := 15) (by decide) ?_
  refine va_put (D := (dC, dI)) (ci := 16) (v := .int 15) (ty := .int) (C := RX19) (T := TX19) (N := 23) hx hb hts i_X19 tyX19 tyX19_ok nmX19 hown hK hP hD hS 1 rfl rfl 7 (by decide) (hts _ qw421) (fun _ h9 => h9) rfl (by decide +kernel) rfl rfl (Nat.le_of_ble_eq_true rfl) dX19_init_121 (fun H locs hP hD hS => ?_)
  have hP : va_P (dC, dI) cls [(q2, .inl (c3, 1260, .inl f77)), (h0, .inr (16, [.ref h1, .int 0, .ref q1, .ref q2, .ref q4, .ref q6, .int 2, .int 15, .ref q8, .ref q10, .int 0, .int 0, .int 0, .int 0, .int 0, .int 0, .int 0, .int 0, .int 0, .int 0, .int 2147483647, .int 0, .int 2147483647])), (q4, .inl (c5, 610, .inl f72)), (q6, .inl (c7, 610, .inl f73))] H := hP
  have hD : va_D A [(q2, .inl (c3, 1260, .inl f77)), (h0, .inr (16, [.ref h1, .int 0, .ref q1, .ref q2, .ref q4, .ref q6, .int 2, .int 15, .ref q8, .ref q10, .int 0, .int 0, .int 0, .int 0, .int 0, .int 0, .int 0, .int 0, .int 0, .int 0, .int 2147483647, .int 0, .int 2147483647])), (q4, .inl (c5, 610, .inl f72)), (q6, .inl (c7, 610, .inl f73))] := hD
  refine va_ldcS hx hb hown hE.2.2.2.2.2.2.2.2.1 dX19_init_124 ?_
  refine lv_iload hx hb dX19_init_126 (lv_at hl 0 rfl) ?_
  have hPc := hP.sub (ws' := []) [] rfl
  have hDc := hD.sub (ws' := []) [] (by decide) rfl
  have hKc := hK.sub (tys' := []) [] rfl
  have hFc := va_free (wc := []) hD hS hA [] rfl
  refine va_calli (va_runV (As := [.int 16]) (rest := [.int 14, .ref q2]) ⟨hx, hb, hml, hown, hts⟩ (kS_charAt l dC dI (p0 := 16) (sz := _) (h1 := (by decide)) (h2 := (by decide))) (cwV 1 hts (gi_V qw418 qw419 qw420 qw324 (gi_z qw417)) rfl rfl rfl (by decide +kernel) ⟨Nat.le_of_ble_eq_true rfl, Nat.le_of_ble_eq_true rfl⟩) ⟨PRE.blind, STC.recv hE.2.2.2.2.2.2.2.2 hS, PRE.of hE hS hFc hPc hKc hDc⟩ rfl rfl hl.1 rfl (lv_room (Nat.le_of_ble_eq_true rfl)) dX19_init_128 ⟨Nat.le_of_ble_eq_true rfl, Nat.le_of_ble_eq_true rfl⟩) hS (fun q _ h => hFc q h) hFc (fun r80 u t H locs ht hvm hw hB hz1 hk1 hS => ?_)
  obtain ⟨hP, hD, hK⟩ := JOIN (wr := [(q2, .inl (c3, 1260, .inl f77)), (h0, .inr (16, [.ref h1, .int 0, .ref q1, .ref q2, .ref q4, .ref q6, .int 2, .int 15, .ref q8, .ref q10, .int 0, .int 0, .int 0, .int 0, .int 0, .int 0, .int 0, .int 0, .int 0, .int 0, .int 2147483647, .int 0, .int 2147483647])), (q4, .inl (c5, 610, .inl f72)), (q6, .inl (c7, 610, .inl f73))]) hP hD hK [] [0, 1, 2, 3] [0, 1, 2] rfl rfl (by decide) (by decide) rfl hk1 hFc ht hvm hB
  have hP : va_P (dC, dI) cls [(q2, .inl (c3, 1260, .inl f77)), (h0, .inr (16, [.ref h1, .int 0, .ref q1, .ref q2, .ref q4, .ref q6, .int 2, .int 15, .ref q8, .ref q10, .int 0, .int 0, .int 0, .int 0, .int 0, .int 0, .int 0, .int 0, .int 0, .int 0, .int 2147483647, .int 0, .int 2147483647])), (q4, .inl (c5, 610, .inl f72)), (q6, .inl (c7, 610, .inl f73))] H := hP
  have hD : va_D A [(q2, .inl (c3, 1260, .inl f77)), (h0, .inr (16, [.ref h1, .int 0, .ref q1, .ref q2, .ref q4, .ref q6, .int 2, .int 15, .ref q8, .ref q10, .int 0, .int 0, .int 0, .int 0, .int 0, .int 0, .int 0, .int 0, .int 0, .int 0, .int 2147483647, .int 0, .int 2147483647])), (q4, .inl (c5, 610, .inl f72)), (q6, .inl (c7, 610, .inl f73))] := hD
  have hK : va_K (dC, dI) cls [(c3, .int), (c5, .int), (c7, .int)] s := hK
  refine W.widen (k := 19) (n := 19730) (Nat.le_of_ble_eq_true rfl) (Nat.le_of_ble_eq_true rfl) ?_
  obtain rfl : r80 = (((((kb (Int32.toNatClampNeg 16)) &&& 255)).toUInt32 % 65536).toInt32) := hw
  refine lv_topC (y := 108) (by decide) ?_
  refine va_iast hx hb hK hP hD hS 0 0 rfl rfl (by unfold vp_in; decide +kernel) dX19_init_131 (fun H locs hP hD hS => ?_)
  have hP : va_P (dC, dI) cls [(q2, .inl (c3, 1260, .inl (upd f77 (Int32.toNatClampNeg 14) 108))), (h0, .inr (16, [.ref h1, .int 0, .ref q1, .ref q2, .ref q4, .ref q6, .int 2, .int 15, .ref q8, .ref q10, .int 0, .int 0, .int 0, .int 0, .int 0, .int 0, .int 0, .int 0, .int 0, .int 0, .int 2147483647, .int 0, .int 2147483647])), (q4, .inl (c5, 610, .inl f72)), (q6, .inl (c7, 610, .inl f73))] H := hP
  have hD : va_D A [(q2, .inl (c3, 1260, .inl (upd f77 (Int32.toNatClampNeg 14) 108))), (h0, .inr (16, [.ref h1, .int 0, .ref q1, .ref q2, .ref q4, .ref q6, .int 2, .int 15, .ref q8, .ref q10, .int 0, .int 0, .int 0, .int 0, .int 0, .int 0, .int 0, .int 0, .int 0, .int 0, .int 2147483647, .int 0, .int 2147483647])), (q4, .inl (c5, 610, .inl f72)), (q6, .inl (c7, 610, .inl f73))] := hD
  generalize upd f77 (Int32.toNatClampNeg 14) 108 = f81 at hP hD
  refine lv_goto (tgt := 146) hx hb dX19_init_132 (by decide) ?_
  refine lv_iinc (v := 17) (lv' := [(4, .int 17), (3, .int 13), (0, .ref h0), (1, .ref h1), (2, .int 0)]) hx hb dX19_init_146 hl (k := 0) rfl (by decide) (by decide) rfl (fun ls hl => ?_)
  refine lv_goto (tgt := 87) hx hb dX19_init_149 (by decide) ?_
  refine lv_iload hx hb dX19_init_87 (lv_at hl 0 rfl) ?_
  refine va_ldcS hx hb hown hE.2.2.2.2.2.2.2.2.1 dX19_init_89 ?_
  have hPc := hP.sub (ws' := []) [] rfl
  have hDc := hD.sub (ws' := []) [] (by decide) rfl
  have hKc := hK.sub (tys' := []) [] rfl
  have hFc := va_free (wc := []) hD hS hA [] rfl
  refine va_calli (va_runV (As := []) (rest := [.int 17]) ⟨hx, hb, hml, hown, hts⟩ (kS_length l dC dI  (sz := _)) (cwV 0 hts (gi_V qw414 qw415 qw416 qw324 (gi_z qw413)) rfl rfl rfl (by decide +kernel) ⟨Nat.le_of_ble_eq_true rfl, Nat.le_of_ble_eq_true rfl⟩) ⟨PRE.blind, STC.recv hE.2.2.2.2.2.2.2.2 hS, PRE.of hE hS hFc hPc hKc hDc⟩ rfl rfl hl.1 rfl (lv_room (Nat.le_of_ble_eq_true rfl)) dX19_init_91 ⟨Nat.le_of_ble_eq_true rfl, Nat.le_of_ble_eq_true rfl⟩) hS (fun q _ h => hFc q h) hFc (fun r82 u t H locs ht hvm hw hB hz1 hk1 hS => ?_)
  obtain ⟨hP, hD, hK⟩ := JOIN (wr := [(q2, .inl (c3, 1260, .inl f81)), (h0, .inr (16, [.ref h1, .int 0, .ref q1, .ref q2, .ref q4, .ref q6, .int 2, .int 15, .ref q8, .ref q10, .int 0, .int 0, .int 0, .int 0, .int 0, .int 0, .int 0, .int 0, .int 0, .int 0, .int 2147483647, .int 0, .int 2147483647])), (q4, .inl (c5, 610, .inl f72)), (q6, .inl (c7, 610, .inl f73))]) hP hD hK [] [0, 1, 2, 3] [0, 1, 2] rfl rfl (by decide) (by decide) rfl hk1 hFc ht hvm hB
  have hP : va_P (dC, dI) cls [(q2, .inl (c3, 1260, .inl f81)), (h0, .inr (16, [.ref h1, .int 0, .ref q1, .ref q2, .ref q4, .ref q6, .int 2, .int 15, .ref q8, .ref q10, .int 0, .int 0, .int 0, .int 0, .int 0, .int 0, .int 0, .int 0, .int 0, .int 0, .int 2147483647, .int 0, .int 2147483647])), (q4, .inl (c5, 610, .inl f72)), (q6, .inl (c7, 610, .inl f73))] H := hP
  have hD : va_D A [(q2, .inl (c3, 1260, .inl f81)), (h0, .inr (16, [.ref h1, .int 0, .ref q1, .ref q2, .ref q4, .ref q6, .int 2, .int 15, .ref q8, .ref q10, .int 0, .int 0, .int 0, .int 0, .int 0, .int 0, .int 0, .int 0, .int 0, .int 0, .int 2147483647, .int 0, .int 2147483647])), (q4, .inl (c5, 610, .inl f72)), (q6, .inl (c7, 610, .inl f73))] := hD
  have hK : va_K (dC, dI) cls [(c3, .int), (c5, .int), (c7, .int)] s := hK
  refine W.widen (k := 19) (n := 19730) (Nat.le_of_ble_eq_true rfl) (Nat.le_of_ble_eq_true rfl) ?_
  obtain rfl : r82 = 44 := hw
  refine lv_icmp_ge (tgt := 152) hx hb dX19_init_94 (by decide) (fun c => absurd c (by decide)) (fun _ => ?_)
  refine va_ldcS hx hb hown hE.2.2.2.2.2.2.2.2.1 dX19_init_97 ?_
  refine lv_iload hx hb dX19_init_99 (lv_at hl 0 rfl) ?_
  have hPc := hP.sub (ws' := []) [] rfl
  have hDc := hD.sub (ws' := []) [] (by decide) rfl
  have hKc := hK.sub (tys' := []) [] rfl
  have hFc := va_free (wc := []) hD hS hA [] rfl
  refine va_calli (va_runV (As := [.int 17]) (rest := []) ⟨hx, hb, hml, hown, hts⟩ (kS_charAt l dC dI (p0 := 17) (sz := _) (h1 := (by decide)) (h2 := (by decide))) (cwV 1 hts (gi_V qw418 qw419 qw420 qw324 (gi_z qw417)) rfl rfl rfl (by decide +kernel) ⟨Nat.le_of_ble_eq_true rfl, Nat.le_of_ble_eq_true rfl⟩) ⟨PRE.blind, STC.recv hE.2.2.2.2.2.2.2.2 hS, PRE.of hE hS hFc hPc hKc hDc⟩ rfl rfl hl.1 rfl (lv_room (Nat.le_of_ble_eq_true rfl)) dX19_init_101 ⟨Nat.le_of_ble_eq_true rfl, Nat.le_of_ble_eq_true rfl⟩) hS (fun q _ h => hFc q h) hFc (fun r83 u t H locs ht hvm hw hB hz1 hk1 hS => ?_)
  obtain ⟨hP, hD, hK⟩ := JOIN (wr := [(q2, .inl (c3, 1260, .inl f81)), (h0, .inr (16, [.ref h1, .int 0, .ref q1, .ref q2, .ref q4, .ref q6, .int 2, .int 15, .ref q8, .ref q10, .int 0, .int 0, .int 0, .int 0, .int 0, .int 0, .int 0, .int 0, .int 0, .int 0, .int 2147483647, .int 0, .int 2147483647])), (q4, .inl (c5, 610, .inl f72)), (q6, .inl (c7, 610, .inl f73))]) hP hD hK [] [0, 1, 2, 3] [0, 1, 2] rfl rfl (by decide) (by decide) rfl hk1 hFc ht hvm hB
  have hP : va_P (dC, dI) cls [(q2, .inl (c3, 1260, .inl f81)), (h0, .inr (16, [.ref h1, .int 0, .ref q1, .ref q2, .ref q4, .ref q6, .int 2, .int 15, .ref q8, .ref q10, .int 0, .int 0, .int 0, .int 0, .int 0, .int 0, .int 0, .int 0, .int 0, .int 0, .int 2147483647, .int 0, .int 2147483647])), (q4, .inl (c5, 610, .inl f72)), (q6, .inl (c7, 610, .inl f73))] H := hP
  have hD : va_D A [(q2, .inl (c3, 1260, .inl f81)), (h0, .inr (16, [.ref h1, .int 0, .ref q1, .ref q2, .ref q4, .ref q6, .int 2, .int 15, .ref q8, .ref q10, .int 0, .int 0, .int 0, .int 0, .int 0, .int 0, .int 0, .int 0, .int 0, .int 0, .int 2147483647, .int 0, .int 2147483647])), (q4, .inl (c5, 610, .inl f72)), (q6, .inl (c7, 610, .inl f73))] := hD
  have hK : va_K (dC, dI) cls [(c3, .int), (c5, .int), (c7, .int)] s := hK
  refine W.widen (k := 19) (n := 19730) (Nat.le_of_ble_eq_true rfl) (Nat.le_of_ble_eq_true rfl) ?_
  obtain rfl : r83 = (((((kb (Int32.toNatClampNeg 17)) &&& 255)).toUInt32 % 65536).toInt32) := hw
  refine lv_topC (y := 115) (by decide) ?_
  refine lv_bipush (v := 32) hx hb dX19_init_104 (by decide) ?_
  refine lv_icmp_eq (tgt := 135) hx hb dX19_init_106 (by decide) (fun c => absurd c (by decide)) (fun _ => ?_)
  refine lv_aload_n hx hb dX19_init_109 rfl (lv_at hl 2 rfl) ?_
  refine va_get (D := (dC, dI)) (ci := 16) (v := .ref q2) (C := RX19) (T := TX19) (N := 23) hx hb hts i_X19 hown hK hP 1 rfl rfl 3 (by decide) (hts _ qw403) (fun _ h9 => h9) rfl dX19_init_110 ?_
  refine lv_aload_n hx hb dX19_init_113 rfl (lv_at hl 2 rfl) ?_
  refine lv_dup hx hb dX19_init_114 rfl ?_
  refine va_get (D := (dC, dI)) (ci := 16) (v := .int 15) (C := RX19) (T := TX19) (N := 23) hx hb hts i_X19 hown hK hP 1 rfl rfl 7 (by decide) (hts _ qw421) (fun _ h9 => h9) rfl dX19_init_115 ?_
  refine lv_dup_x1 hx hb dX19_init_118 rfl rfl ?_
  refine lv_iconst (v := 1) hx hb dX19_init_119 (by decide) ?_
  refine lv_iadd hx hb dX19_init_120 ?_
  refine lv_topC (y := 16) (by decide) ?_
  refine va_put (D := (dC, dI)) (ci := 16) (v := .int 16) (ty := .int) (C := RX19) (T := TX19) (N := 23) hx hb hts i_X19 tyX19 tyX19_ok nmX19 hown hK hP hD hS 1 rfl rfl 7 (by decide) (hts _ qw421) (fun _ h9 => h9) rfl (by decide +kernel) rfl rfl (Nat.le_of_ble_eq_true rfl) dX19_init_121 (fun H locs hP hD hS => ?_)
  have hP : va_P (dC, dI) cls [(q2, .inl (c3, 1260, .inl f81)), (h0, .inr (16, [.ref h1, .int 0, .ref q1, .ref q2, .ref q4, .ref q6, .int 2, .int 16, .ref q8, .ref q10, .int 0, .int 0, .int 0, .int 0, .int 0, .int 0, .int 0, .int 0, .int 0, .int 0, .int 2147483647, .int 0, .int 2147483647])), (q4, .inl (c5, 610, .inl f72)), (q6, .inl (c7, 610, .inl f73))] H := hP
  have hD : va_D A [(q2, .inl (c3, 1260, .inl f81)), (h0, .inr (16, [.ref h1, .int 0, .ref q1, .ref q2, .ref q4, .ref q6, .int 2, .int 16, .ref q8, .ref q10, .int 0, .int 0, .int 0, .int 0, .int 0, .int 0, .int 0, .int 0, .int 0, .int 0, .int 2147483647, .int 0, .int 2147483647])), (q4, .inl (c5, 610, .inl f72)), (q6, .inl (c7, 610, .inl f73))] := hD
  refine va_ldcS hx hb hown hE.2.2.2.2.2.2.2.2.1 dX19_init_124 ?_
  refine lv_iload hx hb dX19_init_126 (lv_at hl 0 rfl) ?_
  have hPc := hP.sub (ws' := []) [] rfl
  have hDc := hD.sub (ws' := []) [] (by decide) rfl
  have hKc := hK.sub (tys' := []) [] rfl
  have hFc := va_free (wc := []) hD hS hA [] rfl
  refine va_calli (va_runV (As := [.int 17]) (rest := [.int 15, .ref q2]) ⟨hx, hb, hml, hown, hts⟩ (kS_charAt l dC dI (p0 := 17) (sz := _) (h1 := (by decide)) (h2 := (by decide))) (cwV 1 hts (gi_V qw418 qw419 qw420 qw324 (gi_z qw417)) rfl rfl rfl (by decide +kernel) ⟨Nat.le_of_ble_eq_true rfl, Nat.le_of_ble_eq_true rfl⟩) ⟨PRE.blind, STC.recv hE.2.2.2.2.2.2.2.2 hS, PRE.of hE hS hFc hPc hKc hDc⟩ rfl rfl hl.1 rfl (lv_room (Nat.le_of_ble_eq_true rfl)) dX19_init_128 ⟨Nat.le_of_ble_eq_true rfl, Nat.le_of_ble_eq_true rfl⟩) hS (fun q _ h => hFc q h) hFc (fun r84 u t H locs ht hvm hw hB hz1 hk1 hS => ?_)
  obtain ⟨hP, hD, hK⟩ := JOIN (wr := [(q2, .inl (c3, 1260, .inl f81)), (h0, .inr (16, [.ref h1, .int 0, .ref q1, .ref q2, .ref q4, .ref q6, .int 2, .int 16, .ref q8, .ref q10, .int 0, .int 0, .int 0, .int 0, .int 0, .int 0, .int 0, .int 0, .int 0, .int 0, .int 2147483647, .int 0, .int 2147483647])), (q4, .inl (c5, 610, .inl f72)), (q6, .inl (c7, 610, .inl f73))]) hP hD hK [] [0, 1, 2, 3] [0, 1, 2] rfl rfl (by decide) (by decide) rfl hk1 hFc ht hvm hB
  have hP : va_P (dC, dI) cls [(q2, .inl (c3, 1260, .inl f81)), (h0, .inr (16, [.ref h1, .int 0, .ref q1, .ref q2, .ref q4, .ref q6, .int 2, .int 16, .ref q8, .ref q10, .int 0, .int 0, .int 0, .int 0, .int 0, .int 0, .int 0, .int 0, .int 0, .int 0, .int 2147483647, .int 0, .int 2147483647])), (q4, .inl (c5, 610, .inl f72)), (q6, .inl (c7, 610, .inl f73))] H := hP
  have hD : va_D A [(q2, .inl (c3, 1260, .inl f81)), (h0, .inr (16, [.ref h1, .int 0, .ref q1, .ref q2, .ref q4, .ref q6, .int 2, .int 16, .ref q8, .ref q10, .int 0, .int 0, .int 0, .int 0, .int 0, .int 0, .int 0, .int 0, .int 0, .int 0, .int 2147483647, .int 0, .int 2147483647])), (q4, .inl (c5, 610, .inl f72)), (q6, .inl (c7, 610, .inl f73))] := hD
  have hK : va_K (dC, dI) cls [(c3, .int), (c5, .int), (c7, .int)] s := hK
  refine W.widen (k := 19) (n := 19730) (Nat.le_of_ble_eq_true rfl) (Nat.le_of_ble_eq_true rfl) ?_
  obtain rfl : r84 = (((((kb (Int32.toNatClampNeg 17)) &&& 255)).toUInt32 % 65536).toInt32) := hw
  refine lv_topC (y := 115) (by decide) ?_
  refine va_iast hx hb hK hP hD hS 0 0 rfl rfl (by unfold vp_in; decide +kernel) dX19_init_131 (fun H locs hP hD hS => ?_)
  have hP : va_P (dC, dI) cls [(q2, .inl (c3, 1260, .inl (upd f81 (Int32.toNatClampNeg 15) 115))), (h0, .inr (16, [.ref h1, .int 0, .ref q1, .ref q2, .ref q4, .ref q6, .int 2, .int 16, .ref q8, .ref q10, .int 0, .int 0, .int 0, .int 0, .int 0, .int 0, .int 0, .int 0, .int 0, .int 0, .int 2147483647, .int 0, .int 2147483647])), (q4, .inl (c5, 610, .inl f72)), (q6, .inl (c7, 610, .inl f73))] H := hP
  have hD : va_D A [(q2, .inl (c3, 1260, .inl (upd f81 (Int32.toNatClampNeg 15) 115))), (h0, .inr (16, [.ref h1, .int 0, .ref q1, .ref q2, .ref q4, .ref q6, .int 2, .int 16, .ref q8, .ref q10, .int 0, .int 0, .int 0, .int 0, .int 0, .int 0, .int 0, .int 0, .int 0, .int 0, .int 2147483647, .int 0, .int 2147483647])), (q4, .inl (c5, 610, .inl f72)), (q6, .inl (c7, 610, .inl f73))] := hD
  generalize upd f81 (Int32.toNatClampNeg 15) 115 = f85 at hP hD
  refine lv_goto (tgt := 146) hx hb dX19_init_132 (by decide) ?_
  refine lv_iinc (v := 18) (lv' := [(4, .int 18), (3, .int 13), (0, .ref h0), (1, .ref h1), (2, .int 0)]) hx hb dX19_init_146 hl (k := 0) rfl (by decide) (by decide) rfl (fun ls hl => ?_)
  refine lv_goto (tgt := 87) hx hb dX19_init_149 (by decide) ?_
  refine lv_iload hx hb dX19_init_87 (lv_at hl 0 rfl) ?_
  refine va_ldcS hx hb hown hE.2.2.2.2.2.2.2.2.1 dX19_init_89 ?_
  have hPc := hP.sub (ws' := []) [] rfl
  have hDc := hD.sub (ws' := []) [] (by decide) rfl
  have hKc := hK.sub (tys' := []) [] rfl
  have hFc := va_free (wc := []) hD hS hA [] rfl
  refine va_calli (va_runV (As := []) (rest := [.int 18]) ⟨hx, hb, hml, hown, hts⟩ (kS_length l dC dI  (sz := _)) (cwV 0 hts (gi_V qw414 qw415 qw416 qw324 (gi_z qw413)) rfl rfl rfl (by decide +kernel) ⟨Nat.le_of_ble_eq_true rfl, Nat.le_of_ble_eq_true rfl⟩) ⟨PRE.blind, STC.recv hE.2.2.2.2.2.2.2.2 hS, PRE.of hE hS hFc hPc hKc hDc⟩ rfl rfl hl.1 rfl (lv_room (Nat.le_of_ble_eq_true rfl)) dX19_init_91 ⟨Nat.le_of_ble_eq_true rfl, Nat.le_of_ble_eq_true rfl⟩) hS (fun q _ h => hFc q h) hFc (fun r86 u t H locs ht hvm hw hB hz1 hk1 hS => ?_)
  obtain ⟨hP, hD, hK⟩ := JOIN (wr := [(q2, .inl (c3, 1260, .inl f85)), (h0, .inr (16, [.ref h1, .int 0, .ref q1, .ref q2, .ref q4, .ref q6, .int 2, .int 16, .ref q8, .ref q10, .int 0, .int 0, .int 0, .int 0, .int 0, .int 0, .int 0, .int 0, .int 0, .int 0, .int 2147483647, .int 0, .int 2147483647])), (q4, .inl (c5, 610, .inl f72)), (q6, .inl (c7, 610, .inl f73))]) hP hD hK [] [0, 1, 2, 3] [0, 1, 2] rfl rfl (by decide) (by decide) rfl hk1 hFc ht hvm hB
  have hP : va_P (dC, dI) cls [(q2, .inl (c3, 1260, .inl f85)), (h0, .inr (16, [.ref h1, .int 0, .ref q1, .ref q2, .ref q4, .ref q6, .int 2, .int 16, .ref q8, .ref q10, .int 0, .int 0, .int 0, .int 0, .int 0, .int 0, .int 0, .int 0, .int 0, .int 0, .int 2147483647, .int 0, .int 2147483647])), (q4, .inl (c5, 610, .inl f72)), (q6, .inl (c7, 610, .inl f73))] H := hP
  have hD : va_D A [(q2, .inl (c3, 1260, .inl f85)), (h0, .inr (16, [.ref h1, .int 0, .ref q1, .ref q2, .ref q4, .ref q6, .int 2, .int 16, .ref q8, .ref q10, .int 0, .int 0, .int 0, .int 0, .int 0, .int 0, .int 0, .int 0, .int 0, .int 0, .int 2147483647, .int 0, .int 2147483647])), (q4, .inl (c5, 610, .inl f72)), (q6, .inl (c7, 610, .inl f73))] := hD
  have hK : va_K (dC, dI) cls [(c3, .int), (c5, .int), (c7, .int)] s := hK
  refine W.widen (k := 19) (n := 19730) (Nat.le_of_ble_eq_true rfl) (Nat.le_of_ble_eq_true rfl) ?_
  obtain rfl : r86 = 44 := hw
  refine lv_icmp_ge (tgt := 152) hx hb dX19_init_94 (by decide) (fun c => absurd c (by decide)) (fun _ => ?_)
  refine va_ldcS hx hb hown hE.2.2.2.2.2.2.2.2.1 dX19_init_97 ?_
  refine lv_iload hx hb dX19_init_99 (lv_at hl 0 rfl) ?_
  have hPc := hP.sub (ws' := []) [] rfl
  have hDc := hD.sub (ws' := []) [] (by decide) rfl
  have hKc := hK.sub (tys' := []) [] rfl
  have hFc := va_free (wc := []) hD hS hA [] rfl
  refine va_calli (va_runV (As := [.int 18]) (rest := []) ⟨hx, hb, hml, hown, hts⟩ (kS_charAt l dC dI (p0 := 18) (sz := _) (h1 := (by decide)) (h2 := (by decide))) (cwV 1 hts (gi_V qw418 qw419 qw420 qw324 (gi_z qw417)) rfl rfl rfl (by decide +kernel) ⟨Nat.le_of_ble_eq_true rfl, Nat.le_of_ble_eq_true rfl⟩) ⟨PRE.blind, STC.recv hE.2.2.2.2.2.2.2.2 hS, PRE.of hE hS hFc hPc hKc hDc⟩ rfl rfl hl.1 rfl (lv_room (Nat.le_of_ble_eq_true rfl)) dX19_init_101 ⟨Nat.le_of_ble_eq_true rfl, Nat.le_of_ble_eq_true rfl⟩) hS (fun q _ h => hFc q h) hFc (fun r87 u t H locs ht hvm hw hB hz1 hk1 hS => ?_)
  obtain ⟨hP, hD, hK⟩ := JOIN (wr := [(q2, .inl (c3, 1260, .inl f85)), (h0, .inr (16, [.ref h1, .int 0, .ref q1, .ref q2, .ref q4, .ref q6, .int 2, .int 16, .ref q8, .ref q10, .int 0, .int 0, .int 0, .int 0, .int 0, .int 0, .int 0, .int 0, .int 0, .int 0, .int 2147483647, .int 0, .int 2147483647])), (q4, .inl (c5, 610, .inl f72)), (q6, .inl (c7, 610, .inl f73))]) hP hD hK [] [0, 1, 2, 3] [0, 1, 2] rfl rfl (by decide) (by decide) rfl hk1 hFc ht hvm hB
  have hP : va_P (dC, dI) cls [(q2, .inl (c3, 1260, .inl f85)), (h0, .inr (16, [.ref h1, .int 0, .ref q1, .ref q2, .ref q4, .ref q6, .int 2, .int 16, .ref q8, .ref q10, .int 0, .int 0, .int 0, .int 0, .int 0, .int 0, .int 0, .int 0, .int 0, .int 0, .int 2147483647, .int 0, .int 2147483647])), (q4, .inl (c5, 610, .inl f72)), (q6, .inl (c7, 610, .inl f73))] H := hP
  have hD : va_D A [(q2, .inl (c3, 1260, .inl f85)), (h0, .inr (16, [.ref h1, .int 0, .ref q1, .ref q2, .ref q4, .ref q6, .int 2, .int 16, .ref q8, .ref q10, .int 0, .int 0, .int 0, .int 0, .int 0, .int 0, .int 0, .int 0, .int 0, .int 0, .int 2147483647, .int 0, .int 2147483647])), (q4, .inl (c5, 610, .inl f72)), (q6, .inl (c7, 610, .inl f73))] := hD
  have hK : va_K (dC, dI) cls [(c3, .int), (c5, .int), (c7, .int)] s := hK
  refine W.widen (k := 19) (n := 19730) (Nat.le_of_ble_eq_true rfl) (Nat.le_of_ble_eq_true rfl) ?_
  obtain rfl : r87 = (((((kb (Int32.toNatClampNeg 18)) &&& 255)).toUInt32 % 65536).toInt32) := hw
  refine lv_topC (y := 101) (by decide) ?_
  refine lv_bipush (v := 32) hx hb dX19_init_104 (by decide) ?_
  refine lv_icmp_eq (tgt := 135) hx hb dX19_init_106 (by decide) (fun c => absurd c (by decide)) (fun _ => ?_)
  refine lv_aload_n hx hb dX19_init_109 rfl (lv_at hl 2 rfl) ?_
  refine va_get (D := (dC, dI)) (ci := 16) (v := .ref q2) (C := RX19) (T := TX19) (N := 23) hx hb hts i_X19 hown hK hP 1 rfl rfl 3 (by decide) (hts _ qw403) (fun _ h9 => h9) rfl dX19_init_110 ?_
  refine lv_aload_n hx hb dX19_init_113 rfl (lv_at hl 2 rfl) ?_
  refine lv_dup hx hb dX19_init_114 rfl ?_
  refine va_get (D := (dC, dI)) (ci := 16) (v := .int 16) (C := RX19) (T := TX19) (N := 23) hx hb hts i_X19 hown hK hP 1 rfl rfl 7 (by decide) (hts _ qw421) (fun _ h9 => h9) rfl dX19_init_115 ?_
  refine lv_dup_x1 hx hb dX19_init_118 rfl rfl ?_
  refine lv_iconst (v := 1) hx hb dX19_init_119 (by decide) ?_
  refine lv_iadd hx hb dX19_init_120 ?_
  refine lv_topC (y := 17) (by decide) ?_
  refine va_put (D := (dC, dI)) (ci := 16) (v := .int 17) (ty := .int) (C := RX19) (T := TX19) (N := 23) hx hb hts i_X19 tyX19 tyX19_ok nmX19 hown hK hP hD hS 1 rfl rfl 7 (by decide) (hts _ qw421) (fun _ h9 => h9) rfl (by decide +kernel) rfl rfl (Nat.le_of_ble_eq_true rfl) dX19_init_121 (fun H locs hP hD hS => ?_)
  have hP : va_P (dC, dI) cls [(q2, .inl (c3, 1260, .inl f85)), (h0, .inr (16, [.ref h1, .int 0, .ref q1, .ref q2, .ref q4, .ref q6, .int 2, .int 17, .ref q8, .ref q10, .int 0, .int 0, .int 0, .int 0, .int 0, .int 0, .int 0, .int 0, .int 0, .int 0, .int 2147483647, .int 0, .int 2147483647])), (q4, .inl (c5, 610, .inl f72)), (q6, .inl (c7, 610, .inl f73))] H := hP
  have hD : va_D A [(q2, .inl (c3, 1260, .inl f85)), (h0, .inr (16, [.ref h1, .int 0, .ref q1, .ref q2, .ref q4, .ref q6, .int 2, .int 17, .ref q8, .ref q10, .int 0, .int 0, .int 0, .int 0, .int 0, .int 0, .int 0, .int 0, .int 0, .int 0, .int 2147483647, .int 0, .int 2147483647])), (q4, .inl (c5, 610, .inl f72)), (q6, .inl (c7, 610, .inl f73))] := hD
  refine va_ldcS hx hb hown hE.2.2.2.2.2.2.2.2.1 dX19_init_124 ?_
  refine lv_iload hx hb dX19_init_126 (lv_at hl 0 rfl) ?_
  have hPc := hP.sub (ws' := []) [] rfl
  have hDc := hD.sub (ws' := []) [] (by decide) rfl
  have hKc := hK.sub (tys' := []) [] rfl
  have hFc := va_free (wc := []) hD hS hA [] rfl
  refine va_calli (va_runV (As := [.int 18]) (rest := [.int 16, .ref q2]) ⟨hx, hb, hml, hown, hts⟩ (kS_charAt l dC dI (p0 := 18) (sz := _) (h1 := (by decide)) (h2 := (by decide))) (cwV 1 hts (gi_V qw418 qw419 qw420 qw324 (gi_z qw417)) rfl rfl rfl (by decide +kernel) ⟨Nat.le_of_ble_eq_true rfl, Nat.le_of_ble_eq_true rfl⟩) ⟨PRE.blind, STC.recv hE.2.2.2.2.2.2.2.2 hS, PRE.of hE hS hFc hPc hKc hDc⟩ rfl rfl hl.1 rfl (lv_room (Nat.le_of_ble_eq_true rfl)) dX19_init_128 ⟨Nat.le_of_ble_eq_true rfl, Nat.le_of_ble_eq_true rfl⟩) hS (fun q _ h => hFc q h) hFc (fun r88 u t H locs ht hvm hw hB hz1 hk1 hS => ?_)
  obtain ⟨hP, hD, hK⟩ := JOIN (wr := [(q2, .inl (c3, 1260, .inl f85)), (h0, .inr (16, [.ref h1, .int 0, .ref q1, .ref q2, .ref q4, .ref q6, .int 2, .int 17, .ref q8, .ref q10, .int 0, .int 0, .int 0, .int 0, .int 0, .int 0, .int 0, .int 0, .int 0, .int 0, .int 2147483647, .int 0, .int 2147483647])), (q4, .inl (c5, 610, .inl f72)), (q6, .inl (c7, 610, .inl f73))]) hP hD hK [] [0, 1, 2, 3] [0, 1, 2] rfl rfl (by decide) (by decide) rfl hk1 hFc ht hvm hB
  have hP : va_P (dC, dI) cls [(q2, .inl (c3, 1260, .inl f85)), (h0, .inr (16, [.ref h1, .int 0, .ref q1, .ref q2, .ref q4, .ref q6, .int 2, .int 17, .ref q8, .ref q10, .int 0, .int 0, .int 0, .int 0, .int 0, .int 0, .int 0, .int 0, .int 0, .int 0, .int 2147483647, .int 0, .int 2147483647])), (q4, .inl (c5, 610, .inl f72)), (q6, .inl (c7, 610, .inl f73))] H := hP
  have hD : va_D A [(q2, .inl (c3, 1260, .inl f85)), (h0, .inr (16, [.ref h1, .int 0, .ref q1, .ref q2, .ref q4, .ref q6, .int 2, .int 17, .ref q8, .ref q10, .int 0, .int 0, .int 0, .int 0, .int 0, .int 0, .int 0, .int 0, .int 0, .int 0, .int 2147483647, .int 0, .int 2147483647])), (q4, .inl (c5, 610, .inl f72)), (q6, .inl (c7, 610, .inl f73))] := hD
  have hK : va_K (dC, dI) cls [(c3, .int), (c5, .int), (c7, .int)] s := hK
  refine W.widen (k := 19) (n := 19730) (Nat.le_of_ble_eq_true rfl) (Nat.le_of_ble_eq_true rfl) ?_
  obtain rfl : r88 = (((((kb (Int32.toNatClampNeg 18)) &&& 255)).toUInt32 % 65536).toInt32) := hw
  refine lv_topC (y := 101) (by decide) ?_
  refine va_iast hx hb hK hP hD hS 0 0 rfl rfl (by unfold vp_in; decide +kernel) dX19_init_131 (fun H locs hP hD hS => ?_)
  have hP : va_P (dC, dI) cls [(q2, .inl (c3, 1260, .inl (upd f85 (Int32.toNatClampNeg 16) 101))), (h0, .inr (16, [.ref h1, .int 0, .ref q1, .ref q2, .ref q4, .ref q6, .int 2, .int 17, .ref q8, .ref q10, .int 0, .int 0, .int 0, .int 0, .int 0, .int 0, .int 0, .int 0, .int 0, .int 0, .int 2147483647, .int 0, .int 2147483647])), (q4, .inl (c5, 610, .inl f72)), (q6, .inl (c7, 610, .inl f73))] H := hP
  have hD : va_D A [(q2, .inl (c3, 1260, .inl (upd f85 (Int32.toNatClampNeg 16) 101))), (h0, .inr (16, [.ref h1, .int 0, .ref q1, .ref q2, .ref q4, .ref q6, .int 2, .int 17, .ref q8, .ref q10, .int 0, .int 0, .int 0, .int 0, .int 0, .int 0, .int 0, .int 0, .int 0, .int 0, .int 2147483647, .int 0, .int 2147483647])), (q4, .inl (c5, 610, .inl f72)), (q6, .inl (c7, 610, .inl f73))] := hD
  generalize upd f85 (Int32.toNatClampNeg 16) 101 = f89 at hP hD
  refine lv_goto (tgt := 146) hx hb dX19_init_132 (by decide) ?_
  refine lv_iinc (v := 19) (lv' := [(4, .int 19), (3, .int 13), (0, .ref h0), (1, .ref h1), (2, .int 0)]) hx hb dX19_init_146 hl (k := 0) rfl (by decide) (by decide) rfl (fun ls hl => ?_)
  refine lv_goto (tgt := 87) hx hb dX19_init_149 (by decide) ?_
  refine lv_iload hx hb dX19_init_87 (lv_at hl 0 rfl) ?_
  refine va_ldcS hx hb hown hE.2.2.2.2.2.2.2.2.1 dX19_init_89 ?_
  have hPc := hP.sub (ws' := []) [] rfl
  have hDc := hD.sub (ws' := []) [] (by decide) rfl
  have hKc := hK.sub (tys' := []) [] rfl
  have hFc := va_free (wc := []) hD hS hA [] rfl
  refine va_calli (va_runV (As := []) (rest := [.int 19]) ⟨hx, hb, hml, hown, hts⟩ (kS_length l dC dI  (sz := _)) (cwV 0 hts (gi_V qw414 qw415 qw416 qw324 (gi_z qw413)) rfl rfl rfl (by decide +kernel) ⟨Nat.le_of_ble_eq_true rfl, Nat.le_of_ble_eq_true rfl⟩) ⟨PRE.blind, STC.recv hE.2.2.2.2.2.2.2.2 hS, PRE.of hE hS hFc hPc hKc hDc⟩ rfl rfl hl.1 rfl (lv_room (Nat.le_of_ble_eq_true rfl)) dX19_init_91 ⟨Nat.le_of_ble_eq_true rfl, Nat.le_of_ble_eq_true rfl⟩) hS (fun q _ h => hFc q h) hFc (fun r90 u t H locs ht hvm hw hB hz1 hk1 hS => ?_)
  obtain ⟨hP, hD, hK⟩ := JOIN (wr := [(q2, .inl (c3, 1260, .inl f89)), (h0, .inr (16, [.ref h1, .int 0, .ref q1, .ref q2, .ref q4, .ref q6, .int 2, .int 17, .ref q8, .ref q10, .int 0, .int 0, .int 0, .int 0, .int 0, .int 0, .int 0, .int 0, .int 0, .int 0, .int 2147483647, .int 0, .int 2147483647])), (q4, .inl (c5, 610, .inl f72)), (q6, .inl (c7, 610, .inl f73))]) hP hD hK [] [0, 1, 2, 3] [0, 1, 2] rfl rfl (by decide) (by decide) rfl hk1 hFc ht hvm hB
  have hP : va_P (dC, dI) cls [(q2, .inl (c3, 1260, .inl f89)), (h0, .inr (16, [.ref h1, .int 0, .ref q1, .ref q2, .ref q4, .ref q6, .int 2, .int 17, .ref q8, .ref q10, .int 0, .int 0, .int 0, .int 0, .int 0, .int 0, .int 0, .int 0, .int 0, .int 0, .int 2147483647, .int 0, .int 2147483647])), (q4, .inl (c5, 610, .inl f72)), (q6, .inl (c7, 610, .inl f73))] H := hP
  have hD : va_D A [(q2, .inl (c3, 1260, .inl f89)), (h0, .inr (16, [.ref h1, .int 0, .ref q1, .ref q2, .ref q4, .ref q6, .int 2, .int 17, .ref q8, .ref q10, .int 0, .int 0, .int 0, .int 0, .int 0, .int 0, .int 0, .int 0, .int 0, .int 0, .int 2147483647, .int 0, .int 2147483647])), (q4, .inl (c5, 610, .inl f72)), (q6, .inl (c7, 610, .inl f73))] := hD
  have hK : va_K (dC, dI) cls [(c3, .int), (c5, .int), (c7, .int)] s := hK
  refine W.widen (k := 19) (n := 19730) (Nat.le_of_ble_eq_true rfl) (Nat.le_of_ble_eq_true rfl) ?_
  obtain rfl : r90 = 44 := hw
  refine lv_icmp_ge (tgt := 152) hx hb dX19_init_94 (by decide) (fun c => absurd c (by decide)) (fun _ => ?_)
  refine va_ldcS hx hb hown hE.2.2.2.2.2.2.2.2.1 dX19_init_97 ?_
  refine lv_iload hx hb dX19_init_99 (lv_at hl 0 rfl) ?_
  have hPc := hP.sub (ws' := []) [] rfl
  have hDc := hD.sub (ws' := []) [] (by decide) rfl
  have hKc := hK.sub (tys' := []) [] rfl
  have hFc := va_free (wc := []) hD hS hA [] rfl
  refine va_calli (va_runV (As := [.int 19]) (rest := []) ⟨hx, hb, hml, hown, hts⟩ (kS_charAt l dC dI (p0 := 19) (sz := _) (h1 := (by decide)) (h2 := (by decide))) (cwV 1 hts (gi_V qw418 qw419 qw420 qw324 (gi_z qw417)) rfl rfl rfl (by decide +kernel) ⟨Nat.le_of_ble_eq_true rfl, Nat.le_of_ble_eq_true rfl⟩) ⟨PRE.blind, STC.recv hE.2.2.2.2.2.2.2.2 hS, PRE.of hE hS hFc hPc hKc hDc⟩ rfl rfl hl.1 rfl (lv_room (Nat.le_of_ble_eq_true rfl)) dX19_init_101 ⟨Nat.le_of_ble_eq_true rfl, Nat.le_of_ble_eq_true rfl⟩) hS (fun q _ h => hFc q h) hFc (fun r91 u t H locs ht hvm hw hB hz1 hk1 hS => ?_)
  obtain ⟨hP, hD, hK⟩ := JOIN (wr := [(q2, .inl (c3, 1260, .inl f89)), (h0, .inr (16, [.ref h1, .int 0, .ref q1, .ref q2, .ref q4, .ref q6, .int 2, .int 17, .ref q8, .ref q10, .int 0, .int 0, .int 0, .int 0, .int 0, .int 0, .int 0, .int 0, .int 0, .int 0, .int 2147483647, .int 0, .int 2147483647])), (q4, .inl (c5, 610, .inl f72)), (q6, .inl (c7, 610, .inl f73))]) hP hD hK [] [0, 1, 2, 3] [0, 1, 2] rfl rfl (by decide) (by decide) rfl hk1 hFc ht hvm hB
  have hP : va_P (dC, dI) cls [(q2, .inl (c3, 1260, .inl f89)), (h0, .inr (16, [.ref h1, .int 0, .ref q1, .ref q2, .ref q4, .ref q6, .int 2, .int 17, .ref q8, .ref q10, .int 0, .int 0, .int 0, .int 0, .int 0, .int 0, .int 0, .int 0, .int 0, .int 0, .int 2147483647, .int 0, .int 2147483647])), (q4, .inl (c5, 610, .inl f72)), (q6, .inl (c7, 610, .inl f73))] H := hP
  have hD : va_D A [(q2, .inl (c3, 1260, .inl f89)), (h0, .inr (16, [.ref h1, .int 0, .ref q1, .ref q2, .ref q4, .ref q6, .int 2, .int 17, .ref q8, .ref q10, .int 0, .int 0, .int 0, .int 0, .int 0, .int 0, .int 0, .int 0, .int 0, .int 0, .int 2147483647, .int 0, .int 2147483647])), (q4, .inl (c5, 610, .inl f72)), (q6, .inl (c7, 610, .inl f73))] := hD
  have hK : va_K (dC, dI) cls [(c3, .int), (c5, .int), (c7, .int)] s := hK
  refine W.widen (k := 19) (n := 19730) (Nat.le_of_ble_eq_true rfl) (Nat.le_of_ble_eq_true rfl) ?_
  obtain rfl : r91 = (((((kb (Int32.toNatClampNeg 19)) &&& 255)).toUInt32 % 65536).toInt32) := hw
  refine lv_topC (y := 32) (by decide) ?_
  refine lv_bipush (v := 32) hx hb dX19_init_104 (by decide) ?_
  refine lv_icmp_eq (tgt := 135) hx hb dX19_init_106 (by decide) (fun _ => ?_) (fun c => absurd (by decide) c)
  refine lv_aload_n hx hb dX19_init_135 rfl (lv_at hl 2 rfl) ?_
  refine lv_iload_n hx hb dX19_init_136 rfl (lv_at hl 1 rfl) ?_
  have hPc := hP.sub (ws' := [(h0, .inr (16, [.ref h1, .int 0, .ref q1, .ref q2, .ref q4, .ref q6, .int 2, .int 17, .ref q8, .ref q10, .int 0, .int 0, .int 0, .int 0, .int 0, .int 0, .int 0, .int 0, .int 0, .int 0, .int 2147483647, .int 0, .int 2147483647])), (q4, .inl (c5, 610, .inl f72)), (q6, .inl (c7, 610, .inl f73))]) [1, 2, 3] rfl
  have hDc := hD.sub (ws' := [(h0, .inr (16, [.ref h1, .int 0, .ref q1, .ref q2, .ref q4, .ref q6, .int 2, .int 17, .ref q8, .ref q10, .int 0, .int 0, .int 0, .int 0, .int 0, .int 0, .int 0, .int 0, .int 0, .int 0, .int 2147483647, .int 0, .int 2147483647])), (q4, .inl (c5, 610, .inl f72)), (q6, .inl (c7, 610, .inl f73))]) [1, 2, 3] (by decide) rfl
  have hKc := hK.sub (tys' := [(c5, .int), (c7, .int)]) [1, 2] rfl
  have hFc := va_free (wc := [(h0, .inr (16, [.ref h1, .int 0, .ref q1, .ref q2, .ref q4, .ref q6, .int 2, .int 17, .ref q8, .ref q10, .int 0, .int 0, .int 0, .int 0, .int 0, .int 0, .int 0, .int 0, .int 0, .int 0, .int 2147483647, .int 0, .int 2147483647])), (q4, .inl (c5, 610, .inl f72)), (q6, .inl (c7, 610, .inl f73))]) hD hS hA [1, 2, 3] rfl
  refine va_calli (va_runV (As := [.int 13]) (rest := []) ⟨hx, hb, hml, hown, hts⟩ (kX19_keep_n28 l dC dI (a0 := h0) (a2 := q2) (a4 := h1) (a5 := q1) (a6 := q4) (a7 := q6) (a8 := q8) (a9 := q10) (F10 := f72) (k11 := c5) (F12 := f73) (k13 := c7) (sz := _)) (cwV 1 hts (gi_V qw424 qw425 qw426 qw427 (gi_z qw423)) rfl rfl rfl (by decide +kernel) ⟨Nat.le_of_ble_eq_true rfl, Nat.le_of_ble_eq_true rfl⟩) ⟨PRE.blind, va_recv hKc hPc (ci := 16) (q0 := 0) rfl rfl, PRE.of hE hS hFc hPc hKc hDc⟩ rfl rfl hl.1 rfl (lv_room (Nat.le_of_ble_eq_true rfl)) dX19_init_137 ⟨Nat.le_of_ble_eq_true rfl, Nat.le_of_ble_eq_true rfl⟩) hS (fun q _ h => hFc q h) hFc (fun r92 u t H locs ht hvm hw hB hz1 hk1 hS => ?_)
  obtain ⟨f93, f94, hB⟩ := hB
  obtain ⟨hP, hD, hK⟩ := JOIN (wr := [(q2, .inl (c3, 1260, .inl f89))]) hP hD hK [1, 2, 3] [0] [0] rfl rfl (by decide) (by decide) rfl hk1 hFc ht hvm hB
  have hP : va_P (dC, dI) cls [(q2, .inl (c3, 1260, .inl f89)), (h0, .inr (16, [.ref h1, .int 0, .ref q1, .ref q2, .ref q4, .ref q6, .int 3, .int 17, .ref q8, .ref q10, .int 0, .int 0, .int 0, .int 0, .int 0, .int 0, .int 0, .int 0, .int 0, .int 0, .int 2147483647, .int 0, .int 2147483647])), (q4, .inl (c5, 610, .inl f93)), (q6, .inl (c7, 610, .inl f94))] H := hP
  have hD : va_D A [(q2, .inl (c3, 1260, .inl f89)), (h0, .inr (16, [.ref h1, .int 0, .ref q1, .ref q2, .ref q4, .ref q6, .int 3, .int 17, .ref q8, .ref q10, .int 0, .int 0, .int 0, .int 0, .int 0, .int 0, .int 0, .int 0, .int 0, .int 0, .int 2147483647, .int 0, .int 2147483647])), (q4, .inl (c5, 610, .inl f93)), (q6, .inl (c7, 610, .inl f94))] := hD
  have hK : va_K (dC, dI) cls [(c3, .int), (c5, .int), (c7, .int)] s := hK
  refine W.widen (k := 19) (n := 19730) (Nat.le_of_ble_eq_true rfl) (Nat.le_of_ble_eq_true rfl) ?_
  obtain rfl : r92 = 2 := hw
  refine lv_pop hx hb dX19_init_140 rfl ?_
  refine lv_aload_n hx hb dX19_init_141 rfl (lv_at hl 2 rfl) ?_
  refine va_get (D := (dC, dI)) (ci := 16) (v := .int 17) (C := RX19) (T := TX19) (N := 23) hx hb hts i_X19 hown hK hP 1 rfl rfl 7 (by decide) (hts _ qw421) (fun _ h9 => h9) rfl dX19_init_142 ?_
  refine lv_istore_n (lv' := [(3, .int 17), (4, .int 19), (0, .ref h0), (1, .ref h1), (2, .int 0)]) hx hb dX19_init_145 rfl hl (by decide) rfl (fun ls hl => ?_)
  refine lv_iinc (v := 20) (lv' := [(4, .int 20), (3, .int 17), (0, .ref h0), (1, .ref h1), (2, .int 0)]) hx hb dX19_init_146 hl (k := 1) rfl (by decide) (by decide) rfl (fun ls hl => ?_)
  refine lv_goto (tgt := 87) hx hb dX19_init_149 (by decide) ?_
  refine lv_iload hx hb dX19_init_87 (lv_at hl 0 rfl) ?_
  refine va_ldcS hx hb hown hE.2.2.2.2.2.2.2.2.1 dX19_init_89 ?_
  have hPc := hP.sub (ws' := []) [] rfl
  have hDc := hD.sub (ws' := []) [] (by decide) rfl
  have hKc := hK.sub (tys' := []) [] rfl
  have hFc := va_free (wc := []) hD hS hA [] rfl
  refine va_calli (va_runV (As := []) (rest := [.int 20]) ⟨hx, hb, hml, hown, hts⟩ (kS_length l dC dI  (sz := _)) (cwV 0 hts (gi_V qw414 qw415 qw416 qw324 (gi_z qw413)) rfl rfl rfl (by decide +kernel) ⟨Nat.le_of_ble_eq_true rfl, Nat.le_of_ble_eq_true rfl⟩) ⟨PRE.blind, STC.recv hE.2.2.2.2.2.2.2.2 hS, PRE.of hE hS hFc hPc hKc hDc⟩ rfl rfl hl.1 rfl (lv_room (Nat.le_of_ble_eq_true rfl)) dX19_init_91 ⟨Nat.le_of_ble_eq_true rfl, Nat.le_of_ble_eq_true rfl⟩) hS (fun q _ h => hFc q h) hFc (fun r95 u t H locs ht hvm hw hB hz1 hk1 hS => ?_)
  obtain ⟨hP, hD, hK⟩ := JOIN (wr := [(q2, .inl (c3, 1260, .inl f89)), (h0, .inr (16, [.ref h1, .int 0, .ref q1, .ref q2, .ref q4, .ref q6, .int 3, .int 17, .ref q8, .ref q10, .int 0, .int 0, .int 0, .int 0, .int 0, .int 0, .int 0, .int 0, .int 0, .int 0, .int 2147483647, .int 0, .int 2147483647])), (q4, .inl (c5, 610, .inl f93)), (q6, .inl (c7, 610, .inl f94))]) hP hD hK [] [0, 1, 2, 3] [0, 1, 2] rfl rfl (by decide) (by decide) rfl hk1 hFc ht hvm hB
  have hP : va_P (dC, dI) cls [(q2, .inl (c3, 1260, .inl f89)), (h0, .inr (16, [.ref h1, .int 0, .ref q1, .ref q2, .ref q4, .ref q6, .int 3, .int 17, .ref q8, .ref q10, .int 0, .int 0, .int 0, .int 0, .int 0, .int 0, .int 0, .int 0, .int 0, .int 0, .int 2147483647, .int 0, .int 2147483647])), (q4, .inl (c5, 610, .inl f93)), (q6, .inl (c7, 610, .inl f94))] H := hP
  have hD : va_D A [(q2, .inl (c3, 1260, .inl f89)), (h0, .inr (16, [.ref h1, .int 0, .ref q1, .ref q2, .ref q4, .ref q6, .int 3, .int 17, .ref q8, .ref q10, .int 0, .int 0, .int 0, .int 0, .int 0, .int 0, .int 0, .int 0, .int 0, .int 0, .int 2147483647, .int 0, .int 2147483647])), (q4, .inl (c5, 610, .inl f93)), (q6, .inl (c7, 610, .inl f94))] := hD
  have hK : va_K (dC, dI) cls [(c3, .int), (c5, .int), (c7, .int)] s := hK
  refine W.widen (k := 19) (n := 19730) (Nat.le_of_ble_eq_true rfl) (Nat.le_of_ble_eq_true rfl) ?_
  obtain rfl : r95 = 44 := hw
  refine lv_icmp_ge (tgt := 152) hx hb dX19_init_94 (by decide) (fun c => absurd c (by decide)) (fun _ => ?_)
  refine va_ldcS hx hb hown hE.2.2.2.2.2.2.2.2.1 dX19_init_97 ?_
  refine lv_iload hx hb dX19_init_99 (lv_at hl 0 rfl) ?_
  have hPc := hP.sub (ws' := []) [] rfl
  have hDc := hD.sub (ws' := []) [] (by decide) rfl
  have hKc := hK.sub (tys' := []) [] rfl
  have hFc := va_free (wc := []) hD hS hA [] rfl
  refine va_calli (va_runV (As := [.int 20]) (rest := []) ⟨hx, hb, hml, hown, hts⟩ (kS_charAt l dC dI (p0 := 20) (sz := _) (h1 := (by decide)) (h2 := (by decide))) (cwV 1 hts (gi_V qw418 qw419 qw420 qw324 (gi_z qw417)) rfl rfl rfl (by decide +kernel) ⟨Nat.le_of_ble_eq_true rfl, Nat.le_of_ble_eq_true rfl⟩) ⟨PRE.blind, STC.recv hE.2.2.2.2.2.2.2.2 hS, PRE.of hE hS hFc hPc hKc hDc⟩ rfl rfl hl.1 rfl (lv_room (Nat.le_of_ble_eq_true rfl)) dX19_init_101 ⟨Nat.le_of_ble_eq_true rfl, Nat.le_of_ble_eq_true rfl⟩) hS (fun q _ h => hFc q h) hFc (fun r96 u t H locs ht hvm hw hB hz1 hk1 hS => ?_)
  obtain ⟨hP, hD, hK⟩ := JOIN (wr := [(q2, .inl (c3, 1260, .inl f89)), (h0, .inr (16, [.ref h1, .int 0, .ref q1, .ref q2, .ref q4, .ref q6, .int 3, .int 17, .ref q8, .ref q10, .int 0, .int 0, .int 0, .int 0, .int 0, .int 0, .int 0, .int 0, .int 0, .int 0, .int 2147483647, .int 0, .int 2147483647])), (q4, .inl (c5, 610, .inl f93)), (q6, .inl (c7, 610, .inl f94))]) hP hD hK [] [0, 1, 2, 3] [0, 1, 2] rfl rfl (by decide) (by decide) rfl hk1 hFc ht hvm hB
  have hP : va_P (dC, dI) cls [(q2, .inl (c3, 1260, .inl f89)), (h0, .inr (16, [.ref h1, .int 0, .ref q1, .ref q2, .ref q4, .ref q6, .int 3, .int 17, .ref q8, .ref q10, .int 0, .int 0, .int 0, .int 0, .int 0, .int 0, .int 0, .int 0, .int 0, .int 0, .int 2147483647, .int 0, .int 2147483647])), (q4, .inl (c5, 610, .inl f93)), (q6, .inl (c7, 610, .inl f94))] H := hP
  have hD : va_D A [(q2, .inl (c3, 1260, .inl f89)), (h0, .inr (16, [.ref h1, .int 0, .ref q1, .ref q2, .ref q4, .ref q6, .int 3, .int 17, .ref q8, .ref q10, .int 0, .int 0, .int 0, .int 0, .int 0, .int 0, .int 0, .int 0, .int 0, .int 0, .int 2147483647, .int 0, .int 2147483647])), (q4, .inl (c5, 610, .inl f93)), (q6, .inl (c7, 610, .inl f94))] := hD
  have hK : va_K (dC, dI) cls [(c3, .int), (c5, .int), (c7, .int)] s := hK
  refine W.widen (k := 19) (n := 19730) (Nat.le_of_ble_eq_true rfl) (Nat.le_of_ble_eq_true rfl) ?_
  obtain rfl : r96 = (((((kb (Int32.toNatClampNeg 20)) &&& 255)).toUInt32 % 65536).toInt32) := hw
  refine lv_topC (y := 102) (by decide) ?_
  refine lv_bipush (v := 32) hx hb dX19_init_104 (by decide) ?_
  refine lv_icmp_eq (tgt := 135) hx hb dX19_init_106 (by decide) (fun c => absurd c (by decide)) (fun _ => ?_)
  refine lv_aload_n hx hb dX19_init_109 rfl (lv_at hl 2 rfl) ?_
  refine va_get (D := (dC, dI)) (ci := 16) (v := .ref q2) (C := RX19) (T := TX19) (N := 23) hx hb hts i_X19 hown hK hP 1 rfl rfl 3 (by decide) (hts _ qw403) (fun _ h9 => h9) rfl dX19_init_110 ?_
  refine lv_aload_n hx hb dX19_init_113 rfl (lv_at hl 2 rfl) ?_
  refine lv_dup hx hb dX19_init_114 rfl ?_
  refine va_get (D := (dC, dI)) (ci := 16) (v := .int 17) (C := RX19) (T := TX19) (N := 23) hx hb hts i_X19 hown hK hP 1 rfl rfl 7 (by decide) (hts _ qw421) (fun _ h9 => h9) rfl dX19_init_115 ?_
  refine lv_dup_x1 hx hb dX19_init_118 rfl rfl ?_
  refine lv_iconst (v := 1) hx hb dX19_init_119 (by decide) ?_
  refine lv_iadd hx hb dX19_init_120 ?_
  refine lv_topC (y := 18) (by decide) ?_
  refine va_put (D := (dC, dI)) (ci := 16) (v := .int 18) (ty := .int) (C := RX19) (T := TX19) (N := 23) hx hb hts i_X19 tyX19 tyX19_ok nmX19 hown hK hP hD hS 1 rfl rfl 7 (by decide) (hts _ qw421) (fun _ h9 => h9) rfl (by decide +kernel) rfl rfl (Nat.le_of_ble_eq_true rfl) dX19_init_121 (fun H locs hP hD hS => ?_)
  have hP : va_P (dC, dI) cls [(q2, .inl (c3, 1260, .inl f89)), (h0, .inr (16, [.ref h1, .int 0, .ref q1, .ref q2, .ref q4, .ref q6, .int 3, .int 18, .ref q8, .ref q10, .int 0, .int 0, .int 0, .int 0, .int 0, .int 0, .int 0, .int 0, .int 0, .int 0, .int 2147483647, .int 0, .int 2147483647])), (q4, .inl (c5, 610, .inl f93)), (q6, .inl (c7, 610, .inl f94))] H := hP
  have hD : va_D A [(q2, .inl (c3, 1260, .inl f89)), (h0, .inr (16, [.ref h1, .int 0, .ref q1, .ref q2, .ref q4, .ref q6, .int 3, .int 18, .ref q8, .ref q10, .int 0, .int 0, .int 0, .int 0, .int 0, .int 0, .int 0, .int 0, .int 0, .int 0, .int 2147483647, .int 0, .int 2147483647])), (q4, .inl (c5, 610, .inl f93)), (q6, .inl (c7, 610, .inl f94))] := hD
  refine va_ldcS hx hb hown hE.2.2.2.2.2.2.2.2.1 dX19_init_124 ?_
  refine lv_iload hx hb dX19_init_126 (lv_at hl 0 rfl) ?_
  have hPc := hP.sub (ws' := []) [] rfl
  have hDc := hD.sub (ws' := []) [] (by decide) rfl
  have hKc := hK.sub (tys' := []) [] rfl
  have hFc := va_free (wc := []) hD hS hA [] rfl
  refine va_calli (va_runV (As := [.int 20]) (rest := [.int 17, .ref q2]) ⟨hx, hb, hml, hown, hts⟩ (kS_charAt l dC dI (p0 := 20) (sz := _) (h1 := (by decide)) (h2 := (by decide))) (cwV 1 hts (gi_V qw418 qw419 qw420 qw324 (gi_z qw417)) rfl rfl rfl (by decide +kernel) ⟨Nat.le_of_ble_eq_true rfl, Nat.le_of_ble_eq_true rfl⟩) ⟨PRE.blind, STC.recv hE.2.2.2.2.2.2.2.2 hS, PRE.of hE hS hFc hPc hKc hDc⟩ rfl rfl hl.1 rfl (lv_room (Nat.le_of_ble_eq_true rfl)) dX19_init_128 ⟨Nat.le_of_ble_eq_true rfl, Nat.le_of_ble_eq_true rfl⟩) hS (fun q _ h => hFc q h) hFc (fun r97 u t H locs ht hvm hw hB hz1 hk1 hS => ?_)
  obtain ⟨hP, hD, hK⟩ := JOIN (wr := [(q2, .inl (c3, 1260, .inl f89)), (h0, .inr (16, [.ref h1, .int 0, .ref q1, .ref q2, .ref q4, .ref q6, .int 3, .int 18, .ref q8, .ref q10, .int 0, .int 0, .int 0, .int 0, .int 0, .int 0, .int 0, .int 0, .int 0, .int 0, .int 2147483647, .int 0, .int 2147483647])), (q4, .inl (c5, 610, .inl f93)), (q6, .inl (c7, 610, .inl f94))]) hP hD hK [] [0, 1, 2, 3] [0, 1, 2] rfl rfl (by decide) (by decide) rfl hk1 hFc ht hvm hB
  have hP : va_P (dC, dI) cls [(q2, .inl (c3, 1260, .inl f89)), (h0, .inr (16, [.ref h1, .int 0, .ref q1, .ref q2, .ref q4, .ref q6, .int 3, .int 18, .ref q8, .ref q10, .int 0, .int 0, .int 0, .int 0, .int 0, .int 0, .int 0, .int 0, .int 0, .int 0, .int 2147483647, .int 0, .int 2147483647])), (q4, .inl (c5, 610, .inl f93)), (q6, .inl (c7, 610, .inl f94))] H := hP
  have hD : va_D A [(q2, .inl (c3, 1260, .inl f89)), (h0, .inr (16, [.ref h1, .int 0, .ref q1, .ref q2, .ref q4, .ref q6, .int 3, .int 18, .ref q8, .ref q10, .int 0, .int 0, .int 0, .int 0, .int 0, .int 0, .int 0, .int 0, .int 0, .int 0, .int 2147483647, .int 0, .int 2147483647])), (q4, .inl (c5, 610, .inl f93)), (q6, .inl (c7, 610, .inl f94))] := hD
  have hK : va_K (dC, dI) cls [(c3, .int), (c5, .int), (c7, .int)] s := hK
  refine W.widen (k := 19) (n := 19730) (Nat.le_of_ble_eq_true rfl) (Nat.le_of_ble_eq_true rfl) ?_
  obtain rfl : r97 = (((((kb (Int32.toNatClampNeg 20)) &&& 255)).toUInt32 % 65536).toInt32) := hw
  refine lv_topC (y := 102) (by decide) ?_
  refine va_iast hx hb hK hP hD hS 0 0 rfl rfl (by unfold vp_in; decide +kernel) dX19_init_131 (fun H locs hP hD hS => ?_)
  have hP : va_P (dC, dI) cls [(q2, .inl (c3, 1260, .inl (upd f89 (Int32.toNatClampNeg 17) 102))), (h0, .inr (16, [.ref h1, .int 0, .ref q1, .ref q2, .ref q4, .ref q6, .int 3, .int 18, .ref q8, .ref q10, .int 0, .int 0, .int 0, .int 0, .int 0, .int 0, .int 0, .int 0, .int 0, .int 0, .int 2147483647, .int 0, .int 2147483647])), (q4, .inl (c5, 610, .inl f93)), (q6, .inl (c7, 610, .inl f94))] H := hP
  have hD : va_D A [(q2, .inl (c3, 1260, .inl (upd f89 (Int32.toNatClampNeg 17) 102))), (h0, .inr (16, [.ref h1, .int 0, .ref q1, .ref q2, .ref q4, .ref q6, .int 3, .int 18, .ref q8, .ref q10, .int 0, .int 0, .int 0, .int 0, .int 0, .int 0, .int 0, .int 0, .int 0, .int 0, .int 2147483647, .int 0, .int 2147483647])), (q4, .inl (c5, 610, .inl f93)), (q6, .inl (c7, 610, .inl f94))] := hD
  generalize upd f89 (Int32.toNatClampNeg 17) 102 = f98 at hP hD
  refine lv_goto (tgt := 146) hx hb dX19_init_132 (by decide) ?_
  refine lv_iinc (v := 21) (lv' := [(4, .int 21), (3, .int 17), (0, .ref h0), (1, .ref h1), (2, .int 0)]) hx hb dX19_init_146 hl (k := 0) rfl (by decide) (by decide) rfl (fun ls hl => ?_)
  refine lv_goto (tgt := 87) hx hb dX19_init_149 (by decide) ?_
  refine lv_iload hx hb dX19_init_87 (lv_at hl 0 rfl) ?_
  refine va_ldcS hx hb hown hE.2.2.2.2.2.2.2.2.1 dX19_init_89 ?_
  have hPc := hP.sub (ws' := []) [] rfl
  have hDc := hD.sub (ws' := []) [] (by decide) rfl
  have hKc := hK.sub (tys' := []) [] rfl
  have hFc := va_free (wc := []) hD hS hA [] rfl
  refine va_calli (va_runV (As := []) (rest := [.int 21]) ⟨hx, hb, hml, hown, hts⟩ (kS_length l dC dI  (sz := _)) (cwV 0 hts (gi_V qw414 qw415 qw416 qw324 (gi_z qw413)) rfl rfl rfl (by decide +kernel) ⟨Nat.le_of_ble_eq_true rfl, Nat.le_of_ble_eq_true rfl⟩) ⟨PRE.blind, STC.recv hE.2.2.2.2.2.2.2.2 hS, PRE.of hE hS hFc hPc hKc hDc⟩ rfl rfl hl.1 rfl (lv_room (Nat.le_of_ble_eq_true rfl)) dX19_init_91 ⟨Nat.le_of_ble_eq_true rfl, Nat.le_of_ble_eq_true rfl⟩) hS (fun q _ h => hFc q h) hFc (fun r99 u t H locs ht hvm hw hB hz1 hk1 hS => ?_)
  obtain ⟨hP, hD, hK⟩ := JOIN (wr := [(q2, .inl (c3, 1260, .inl f98)), (h0, .inr (16, [.ref h1, .int 0, .ref q1, .ref q2, .ref q4, .ref q6, .int 3, .int 18, .ref q8, .ref q10, .int 0, .int 0, .int 0, .int 0, .int 0, .int 0, .int 0, .int 0, .int 0, .int 0, .int 2147483647, .int 0, .int 2147483647])), (q4, .inl (c5, 610, .inl f93)), (q6, .inl (c7, 610, .inl f94))]) hP hD hK [] [0, 1, 2, 3] [0, 1, 2] rfl rfl (by decide) (by decide) rfl hk1 hFc ht hvm hB
  have hP : va_P (dC, dI) cls [(q2, .inl (c3, 1260, .inl f98)), (h0, .inr (16, [.ref h1, .int 0, .ref q1, .ref q2, .ref q4, .ref q6, .int 3, .int 18, .ref q8, .ref q10, .int 0, .int 0, .int 0, .int 0, .int 0, .int 0, .int 0, .int 0, .int 0, .int 0, .int 2147483647, .int 0, .int 2147483647])), (q4, .inl (c5, 610, .inl f93)), (q6, .inl (c7, 610, .inl f94))] H := hP
  have hD : va_D A [(q2, .inl (c3, 1260, .inl f98)), (h0, .inr (16, [.ref h1, .int 0, .ref q1, .ref q2, .ref q4, .ref q6, .int 3, .int 18, .ref q8, .ref q10, .int 0, .int 0, .int 0, .int 0, .int 0, .int 0, .int 0, .int 0, .int 0, .int 0, .int 2147483647, .int 0, .int 2147483647])), (q4, .inl (c5, 610, .inl f93)), (q6, .inl (c7, 610, .inl f94))] := hD
  have hK : va_K (dC, dI) cls [(c3, .int), (c5, .int), (c7, .int)] s := hK
  refine W.widen (k := 19) (n := 19730) (Nat.le_of_ble_eq_true rfl) (Nat.le_of_ble_eq_true rfl) ?_
  obtain rfl : r99 = 44 := hw
  refine lv_icmp_ge (tgt := 152) hx hb dX19_init_94 (by decide) (fun c => absurd c (by decide)) (fun _ => ?_)
  refine va_ldcS hx hb hown hE.2.2.2.2.2.2.2.2.1 dX19_init_97 ?_
  refine lv_iload hx hb dX19_init_99 (lv_at hl 0 rfl) ?_
  have hPc := hP.sub (ws' := []) [] rfl
  have hDc := hD.sub (ws' := []) [] (by decide) rfl
  have hKc := hK.sub (tys' := []) [] rfl
  have hFc := va_free (wc := []) hD hS hA [] rfl
  refine va_calli (va_runV (As := [.int 21]) (rest := []) ⟨hx, hb, hml, hown, hts⟩ (kS_charAt l dC dI (p0 := 21) (sz := _) (h1 := (by decide)) (h2 := (by decide))) (cwV 1 hts (gi_V qw418 qw419 qw420 qw324 (gi_z qw417)) rfl rfl rfl (by decide +kernel) ⟨Nat.le_of_ble_eq_true rfl, Nat.le_of_ble_eq_true rfl⟩) ⟨PRE.blind, STC.recv hE.2.2.2.2.2.2.2.2 hS, PRE.of hE hS hFc hPc hKc hDc⟩ rfl rfl hl.1 rfl (lv_room (Nat.le_of_ble_eq_true rfl)) dX19_init_101 ⟨Nat.le_of_ble_eq_true rfl, Nat.le_of_ble_eq_true rfl⟩) hS (fun q _ h => hFc q h) hFc (fun r100 u t H locs ht hvm hw hB hz1 hk1 hS => ?_)
  obtain ⟨hP, hD, hK⟩ := JOIN (wr := [(q2, .inl (c3, 1260, .inl f98)), (h0, .inr (16, [.ref h1, .int 0, .ref q1, .ref q2, .ref q4, .ref q6, .int 3, .int 18, .ref q8, .ref q10, .int 0, .int 0, .int 0, .int 0, .int 0, .int 0, .int 0, .int 0, .int 0, .int 0, .int 2147483647, .int 0, .int 2147483647])), (q4, .inl (c5, 610, .inl f93)), (q6, .inl (c7, 610, .inl f94))]) hP hD hK [] [0, 1, 2, 3] [0, 1, 2] rfl rfl (by decide) (by decide) rfl hk1 hFc ht hvm hB
  have hP : va_P (dC, dI) cls [(q2, .inl (c3, 1260, .inl f98)), (h0, .inr (16, [.ref h1, .int 0, .ref q1, .ref q2, .ref q4, .ref q6, .int 3, .int 18, .ref q8, .ref q10, .int 0, .int 0, .int 0, .int 0, .int 0, .int 0, .int 0, .int 0, .int 0, .int 0, .int 2147483647, .int 0, .int 2147483647])), (q4, .inl (c5, 610, .inl f93)), (q6, .inl (c7, 610, .inl f94))] H := hP
  have hD : va_D A [(q2, .inl (c3, 1260, .inl f98)), (h0, .inr (16, [.ref h1, .int 0, .ref q1, .ref q2, .ref q4, .ref q6, .int 3, .int 18, .ref q8, .ref q10, .int 0, .int 0, .int 0, .int 0, .int 0, .int 0, .int 0, .int 0, .int 0, .int 0, .int 2147483647, .int 0, .int 2147483647])), (q4, .inl (c5, 610, .inl f93)), (q6, .inl (c7, 610, .inl f94))] := hD
  have hK : va_K (dC, dI) cls [(c3, .int), (c5, .int), (c7, .int)] s := hK
  refine W.widen (k := 19) (n := 19730) (Nat.le_of_ble_eq_true rfl) (Nat.le_of_ble_eq_true rfl) ?_
  obtain rfl : r100 = (((((kb (Int32.toNatClampNeg 21)) &&& 255)).toUInt32 % 65536).toInt32) := hw
  refine lv_topC (y := 117) (by decide) ?_
  refine lv_bipush (v := 32) hx hb dX19_init_104 (by decide) ?_
  refine lv_icmp_eq (tgt := 135) hx hb dX19_init_106 (by decide) (fun c => absurd c (by decide)) (fun _ => ?_)
  refine lv_aload_n hx hb dX19_init_109 rfl (lv_at hl 2 rfl) ?_
  refine va_get (D := (dC, dI)) (ci := 16) (v := .ref q2) (C := RX19) (T := TX19) (N := 23) hx hb hts i_X19 hown hK hP 1 rfl rfl 3 (by decide) (hts _ qw403) (fun _ h9 => h9) rfl dX19_init_110 ?_
  refine lv_aload_n hx hb dX19_init_113 rfl (lv_at hl 2 rfl) ?_
  refine lv_dup hx hb dX19_init_114 rfl ?_
  refine va_get (D := (dC, dI)) (ci := 16) (v := .int 18) (C := RX19) (T := TX19) (N := 23) hx hb hts i_X19 hown hK hP 1 rfl rfl 7 (by decide) (hts _ qw421) (fun _ h9 => h9) rfl dX19_init_115 ?_
  refine lv_dup_x1 hx hb dX19_init_118 rfl rfl ?_
  refine lv_iconst (v := 1) hx hb dX19_init_119 (by decide) ?_
  refine lv_iadd hx hb dX19_init_120 ?_
  refine lv_topC (y := 19) (by decide) ?_
  refine va_put (D := (dC, dI)) (ci := 16) (v := .int 19) (ty := .int) (C := RX19) (T := TX19) (N := 23) hx hb hts i_X19 tyX19 tyX19_ok nmX19 hown hK hP hD hS 1 rfl rfl 7 (by decide) (hts _ qw421) (fun _ h9 => h9) rfl (by decide +kernel) rfl rfl (Nat.le_of_ble_eq_true rfl) dX19_init_121 (fun H locs hP hD hS => ?_)
  have hP : va_P (dC, dI) cls [(q2, .inl (c3, 1260, .inl f98)), (h0, .inr (16, [.ref h1, .int 0, .ref q1, .ref q2, .ref q4, .ref q6, .int 3, .int 19, .ref q8, .ref q10, .int 0, .int 0, .int 0, .int 0, .int 0, .int 0, .int 0, .int 0, .int 0, .int 0, .int 2147483647, .int 0, .int 2147483647])), (q4, .inl (c5, 610, .inl f93)), (q6, .inl (c7, 610, .inl f94))] H := hP
  have hD : va_D A [(q2, .inl (c3, 1260, .inl f98)), (h0, .inr (16, [.ref h1, .int 0, .ref q1, .ref q2, .ref q4, .ref q6, .int 3, .int 19, .ref q8, .ref q10, .int 0, .int 0, .int 0, .int 0, .int 0, .int 0, .int 0, .int 0, .int 0, .int 0, .int 2147483647, .int 0, .int 2147483647])), (q4, .inl (c5, 610, .inl f93)), (q6, .inl (c7, 610, .inl f94))] := hD
  refine va_ldcS hx hb hown hE.2.2.2.2.2.2.2.2.1 dX19_init_124 ?_
  refine lv_iload hx hb dX19_init_126 (lv_at hl 0 rfl) ?_
  have hPc := hP.sub (ws' := []) [] rfl
  have hDc := hD.sub (ws' := []) [] (by decide) rfl
  have hKc := hK.sub (tys' := []) [] rfl
  have hFc := va_free (wc := []) hD hS hA [] rfl
  refine va_calli (va_runV (As := [.int 21]) (rest := [.int 18, .ref q2]) ⟨hx, hb, hml, hown, hts⟩ (kS_charAt l dC dI (p0 := 21) (sz := _) (h1 := (by decide)) (h2 := (by decide))) (cwV 1 hts (gi_V qw418 qw419 qw420 qw324 (gi_z qw417)) rfl rfl rfl (by decide +kernel) ⟨Nat.le_of_ble_eq_true rfl, Nat.le_of_ble_eq_true rfl⟩) ⟨PRE.blind, STC.recv hE.2.2.2.2.2.2.2.2 hS, PRE.of hE hS hFc hPc hKc hDc⟩ rfl rfl hl.1 rfl (lv_room (Nat.le_of_ble_eq_true rfl)) dX19_init_128 ⟨Nat.le_of_ble_eq_true rfl, Nat.le_of_ble_eq_true rfl⟩) hS (fun q _ h => hFc q h) hFc (fun r101 u t H locs ht hvm hw hB hz1 hk1 hS => ?_)
  obtain ⟨hP, hD, hK⟩ := JOIN (wr := [(q2, .inl (c3, 1260, .inl f98)), (h0, .inr (16, [.ref h1, .int 0, .ref q1, .ref q2, .ref q4, .ref q6, .int 3, .int 19, .ref q8, .ref q10, .int 0, .int 0, .int 0, .int 0, .int 0, .int 0, .int 0, .int 0, .int 0, .int 0, .int 2147483647, .int 0, .int 2147483647])), (q4, .inl (c5, 610, .inl f93)), (q6, .inl (c7, 610, .inl f94))]) hP hD hK [] [0, 1, 2, 3] [0, 1, 2] rfl rfl (by decide) (by decide) rfl hk1 hFc ht hvm hB
  have hP : va_P (dC, dI) cls [(q2, .inl (c3, 1260, .inl f98)), (h0, .inr (16, [.ref h1, .int 0, .ref q1, .ref q2, .ref q4, .ref q6, .int 3, .int 19, .ref q8, .ref q10, .int 0, .int 0, .int 0, .int 0, .int 0, .int 0, .int 0, .int 0, .int 0, .int 0, .int 2147483647, .int 0, .int 2147483647])), (q4, .inl (c5, 610, .inl f93)), (q6, .inl (c7, 610, .inl f94))] H := hP
  have hD : va_D A [(q2, .inl (c3, 1260, .inl f98)), (h0, .inr (16, [.ref h1, .int 0, .ref q1, .ref q2, .ref q4, .ref q6, .int 3, .int 19, .ref q8, .ref q10, .int 0, .int 0, .int 0, .int 0, .int 0, .int 0, .int 0, .int 0, .int 0, .int 0, .int 2147483647, .int 0, .int 2147483647])), (q4, .inl (c5, 610, .inl f93)), (q6, .inl (c7, 610, .inl f94))] := hD
  have hK : va_K (dC, dI) cls [(c3, .int), (c5, .int), (c7, .int)] s := hK
  refine W.widen (k := 19) (n := 19730) (Nat.le_of_ble_eq_true rfl) (Nat.le_of_ble_eq_true rfl) ?_
  obtain rfl : r101 = (((((kb (Int32.toNatClampNeg 21)) &&& 255)).toUInt32 % 65536).toInt32) := hw
  refine lv_topC (y := 117) (by decide) ?_
  refine va_iast hx hb hK hP hD hS 0 0 rfl rfl (by unfold vp_in; decide +kernel) dX19_init_131 (fun H locs hP hD hS => ?_)
  have hP : va_P (dC, dI) cls [(q2, .inl (c3, 1260, .inl (upd f98 (Int32.toNatClampNeg 18) 117))), (h0, .inr (16, [.ref h1, .int 0, .ref q1, .ref q2, .ref q4, .ref q6, .int 3, .int 19, .ref q8, .ref q10, .int 0, .int 0, .int 0, .int 0, .int 0, .int 0, .int 0, .int 0, .int 0, .int 0, .int 2147483647, .int 0, .int 2147483647])), (q4, .inl (c5, 610, .inl f93)), (q6, .inl (c7, 610, .inl f94))] H := hP
  have hD : va_D A [(q2, .inl (c3, 1260, .inl (upd f98 (Int32.toNatClampNeg 18) 117))), (h0, .inr (16, [.ref h1, .int 0, .ref q1, .ref q2, .ref q4, .ref q6, .int 3, .int 19, .ref q8, .ref q10, .int 0, .int 0, .int 0, .int 0, .int 0, .int 0, .int 0, .int 0, .int 0, .int 0, .int 2147483647, .int 0, .int 2147483647])), (q4, .inl (c5, 610, .inl f93)), (q6, .inl (c7, 610, .inl f94))] := hD
  generalize upd f98 (Int32.toNatClampNeg 18) 117 = f102 at hP hD
  refine lv_goto (tgt := 146) hx hb dX19_init_132 (by decide) ?_
  refine lv_iinc (v := 22) (lv' := [(4, .int 22), (3, .int 17), (0, .ref h0), (1, .ref h1), (2, .int 0)]) hx hb dX19_init_146 hl (k := 0) rfl (by decide) (by decide) rfl (fun ls hl => ?_)
  refine lv_goto (tgt := 87) hx hb dX19_init_149 (by decide) ?_
  refine lv_iload hx hb dX19_init_87 (lv_at hl 0 rfl) ?_
  refine va_ldcS hx hb hown hE.2.2.2.2.2.2.2.2.1 dX19_init_89 ?_
  have hPc := hP.sub (ws' := []) [] rfl
  have hDc := hD.sub (ws' := []) [] (by decide) rfl
  have hKc := hK.sub (tys' := []) [] rfl
  have hFc := va_free (wc := []) hD hS hA [] rfl
  refine va_calli (va_runV (As := []) (rest := [.int 22]) ⟨hx, hb, hml, hown, hts⟩ (kS_length l dC dI  (sz := _)) (cwV 0 hts (gi_V qw414 qw415 qw416 qw324 (gi_z qw413)) rfl rfl rfl (by decide +kernel) ⟨Nat.le_of_ble_eq_true rfl, Nat.le_of_ble_eq_true rfl⟩) ⟨PRE.blind, STC.recv hE.2.2.2.2.2.2.2.2 hS, PRE.of hE hS hFc hPc hKc hDc⟩ rfl rfl hl.1 rfl (lv_room (Nat.le_of_ble_eq_true rfl)) dX19_init_91 ⟨Nat.le_of_ble_eq_true rfl, Nat.le_of_ble_eq_true rfl⟩) hS (fun q _ h => hFc q h) hFc (fun r103 u t H locs ht hvm hw hB hz1 hk1 hS => ?_)
  obtain ⟨hP, hD, hK⟩ := JOIN (wr := [(q2, .inl (c3, 1260, .inl f102)), (h0, .inr (16, [.ref h1, .int 0, .ref q1, .ref q2, .ref q4, .ref q6, .int 3, .int 19, .ref q8, .ref q10, .int 0, .int 0, .int 0, .int 0, .int 0, .int 0, .int 0, .int 0, .int 0, .int 0, .int 2147483647, .int 0, .int 2147483647])), (q4, .inl (c5, 610, .inl f93)), (q6, .inl (c7, 610, .inl f94))]) hP hD hK [] [0, 1, 2, 3] [0, 1, 2] rfl rfl (by decide) (by decide) rfl hk1 hFc ht hvm hB
  have hP : va_P (dC, dI) cls [(q2, .inl (c3, 1260, .inl f102)), (h0, .inr (16, [.ref h1, .int 0, .ref q1, .ref q2, .ref q4, .ref q6, .int 3, .int 19, .ref q8, .ref q10, .int 0, .int 0, .int 0, .int 0, .int 0, .int 0, .int 0, .int 0, .int 0, .int 0, .int 2147483647, .int 0, .int 2147483647])), (q4, .inl (c5, 610, .inl f93)), (q6, .inl (c7, 610, .inl f94))] H := hP
  have hD : va_D A [(q2, .inl (c3, 1260, .inl f102)), (h0, .inr (16, [.ref h1, .int 0, .ref q1, .ref q2, .ref q4, .ref q6, .int 3, .int 19, .ref q8, .ref q10, .int 0, .int 0, .int 0, .int 0, .int 0, .int 0, .int 0, .int 0, .int 0, .int 0, .int 2147483647, .int 0, .int 2147483647])), (q4, .inl (c5, 610, .inl f93)), (q6, .inl (c7, 610, .inl f94))] := hD
  have hK : va_K (dC, dI) cls [(c3, .int), (c5, .int), (c7, .int)] s := hK
  refine W.widen (k := 19) (n := 19730) (Nat.le_of_ble_eq_true rfl) (Nat.le_of_ble_eq_true rfl) ?_
  obtain rfl : r103 = 44 := hw
  refine lv_icmp_ge (tgt := 152) hx hb dX19_init_94 (by decide) (fun c => absurd c (by decide)) (fun _ => ?_)
  refine va_ldcS hx hb hown hE.2.2.2.2.2.2.2.2.1 dX19_init_97 ?_
  refine lv_iload hx hb dX19_init_99 (lv_at hl 0 rfl) ?_
  have hPc := hP.sub (ws' := []) [] rfl
  have hDc := hD.sub (ws' := []) [] (by decide) rfl
  have hKc := hK.sub (tys' := []) [] rfl
  have hFc := va_free (wc := []) hD hS hA [] rfl
  refine va_calli (va_runV (As := [.int 22]) (rest := []) ⟨hx, hb, hml, hown, hts⟩ (kS_charAt l dC dI (p0 := 22) (sz := _) (h1 := (by decide)) (h2 := (by decide))) (cwV 1 hts (gi_V qw418 qw419 qw420 qw324 (gi_z qw417)) rfl rfl rfl (by decide +kernel) ⟨Nat.le_of_ble_eq_true rfl, Nat.le_of_ble_eq_true rfl⟩) ⟨PRE.blind, STC.recv hE.2.2.2.2.2.2.2.2 hS, PRE.of hE hS hFc hPc hKc hDc⟩ rfl rfl hl.1 rfl (lv_room (Nat.le_of_ble_eq_true rfl)) dX19_init_101 ⟨Nat.le_of_ble_eq_true rfl, Nat.le_of_ble_eq_true rfl⟩) hS (fun q _ h => hFc q h) hFc (fun r104 u t H locs ht hvm hw hB hz1 hk1 hS => ?_)
  obtain ⟨hP, hD, hK⟩ := JOIN (wr := [(q2, .inl (c3, 1260, .inl f102)), (h0, .inr (16, [.ref h1, .int 0, .ref q1, .ref q2, .ref q4, .ref q6, .int 3, .int 19, .ref q8, .ref q10, .int 0, .int 0, .int 0, .int 0, .int 0, .int 0, .int 0, .int 0, .int 0, .int 0, .int 2147483647, .int 0, .int 2147483647])), (q4, .inl (c5, 610, .inl f93)), (q6, .inl (c7, 610, .inl f94))]) hP hD hK [] [0, 1, 2, 3] [0, 1, 2] rfl rfl (by decide) (by decide) rfl hk1 hFc ht hvm hB
  have hP : va_P (dC, dI) cls [(q2, .inl (c3, 1260, .inl f102)), (h0, .inr (16, [.ref h1, .int 0, .ref q1, .ref q2, .ref q4, .ref q6, .int 3, .int 19, .ref q8, .ref q10, .int 0, .int 0, .int 0, .int 0, .int 0, .int 0, .int 0, .int 0, .int 0, .int 0, .int 2147483647, .int 0, .int 2147483647])), (q4, .inl (c5, 610, .inl f93)), (q6, .inl (c7, 610, .inl f94))] H := hP
  have hD : va_D A [(q2, .inl (c3, 1260, .inl f102)), (h0, .inr (16, [.ref h1, .int 0, .ref q1, .ref q2, .ref q4, .ref q6, .int 3, .int 19, .ref q8, .ref q10, .int 0, .int 0, .int 0, .int 0, .int 0, .int 0, .int 0, .int 0, .int 0, .int 0, .int 2147483647, .int 0, .int 2147483647])), (q4, .inl (c5, 610, .inl f93)), (q6, .inl (c7, 610, .inl f94))] := hD
  have hK : va_K (dC, dI) cls [(c3, .int), (c5, .int), (c7, .int)] s := hK
  refine W.widen (k := 19) (n := 19730) (Nat.le_of_ble_eq_true rfl) (Nat.le_of_ble_eq_true rfl) ?_
  obtain rfl : r104 = (((((kb (Int32.toNatClampNeg 22)) &&& 255)).toUInt32 % 65536).toInt32) := hw
  refine lv_topC (y := 110) (by decide) ?_
  refine lv_bipush (v := 32) hx hb dX19_init_104 (by decide) ?_
  refine lv_icmp_eq (tgt := 135) hx hb dX19_init_106 (by decide) (fun c => absurd c (by decide)) (fun _ => ?_)
  refine lv_aload_n hx hb dX19_init_109 rfl (lv_at hl 2 rfl) ?_
  refine va_get (D := (dC, dI)) (ci := 16) (v := .ref q2) (C := RX19) (T := TX19) (N := 23) hx hb hts i_X19 hown hK hP 1 rfl rfl 3 (by decide) (hts _ qw403) (fun _ h9 => h9) rfl dX19_init_110 ?_
  refine lv_aload_n hx hb dX19_init_113 rfl (lv_at hl 2 rfl) ?_
  refine lv_dup hx hb dX19_init_114 rfl ?_
  refine va_get (D := (dC, dI)) (ci := 16) (v := .int 19) (C := RX19) (T := TX19) (N := 23) hx hb hts i_X19 hown hK hP 1 rfl rfl 7 (by decide) (hts _ qw421) (fun _ h9 => h9) rfl dX19_init_115 ?_
  refine lv_dup_x1 hx hb dX19_init_118 rfl rfl ?_
  refine lv_iconst (v := 1) hx hb dX19_init_119 (by decide) ?_
  refine lv_iadd hx hb dX19_init_120 ?_
  refine lv_topC (y := 20) (by decide) ?_
  refine va_put (D := (dC, dI)) (ci := 16) (v := .int 20) (ty := .int) (C := RX19) (T := TX19) (N := 23) hx hb hts i_X19 tyX19 tyX19_ok nmX19 hown hK hP hD hS 1 rfl rfl 7 (by decide) (hts _ qw421) (fun _ h9 => h9) rfl (by decide +kernel) rfl rfl (Nat.le_of_ble_eq_true rfl) dX19_init_121 (fun H locs hP hD hS => ?_)
  have hP : va_P (dC, dI) cls [(q2, .inl (c3, 1260, .inl f102)), (h0, .inr (16, [.ref h1, .int 0, .ref q1, .ref q2, .ref q4, .ref q6, .int 3, .int 20, .ref q8, .ref q10, .int 0, .int 0, .int 0, .int 0, .int 0, .int 0, .int 0, .int 0, .int 0, .int 0, .int 2147483647, .int 0, .int 2147483647])), (q4, .inl (c5, 610, .inl f93)), (q6, .inl (c7, 610, .inl f94))] H := hP
  have hD : va_D A [(q2, .inl (c3, 1260, .inl f102)), (h0, .inr (16, [.ref h1, .int 0, .ref q1, .ref q2, .ref q4, .ref q6, .int 3, .int 20, .ref q8, .ref q10, .int 0, .int 0, .int 0, .int 0, .int 0, .int 0, .int 0, .int 0, .int 0, .int 0, .int 2147483647, .int 0, .int 2147483647])), (q4, .inl (c5, 610, .inl f93)), (q6, .inl (c7, 610, .inl f94))] := hD
  refine va_ldcS hx hb hown hE.2.2.2.2.2.2.2.2.1 dX19_init_124 ?_
  refine lv_iload hx hb dX19_init_126 (lv_at hl 0 rfl) ?_
  have hPc := hP.sub (ws' := []) [] rfl
  have hDc := hD.sub (ws' := []) [] (by decide) rfl
  have hKc := hK.sub (tys' := []) [] rfl
  have hFc := va_free (wc := []) hD hS hA [] rfl
  refine va_calli (va_runV (As := [.int 22]) (rest := [.int 19, .ref q2]) ⟨hx, hb, hml, hown, hts⟩ (kS_charAt l dC dI (p0 := 22) (sz := _) (h1 := (by decide)) (h2 := (by decide))) (cwV 1 hts (gi_V qw418 qw419 qw420 qw324 (gi_z qw417)) rfl rfl rfl (by decide +kernel) ⟨Nat.le_of_ble_eq_true rfl, Nat.le_of_ble_eq_true rfl⟩) ⟨PRE.blind, STC.recv hE.2.2.2.2.2.2.2.2 hS, PRE.of hE hS hFc hPc hKc hDc⟩ rfl rfl hl.1 rfl (lv_room (Nat.le_of_ble_eq_true rfl)) dX19_init_128 ⟨Nat.le_of_ble_eq_true rfl, Nat.le_of_ble_eq_true rfl⟩) hS (fun q _ h => hFc q h) hFc (fun r105 u t H locs ht hvm hw hB hz1 hk1 hS => ?_)
  obtain ⟨hP, hD, hK⟩ := JOIN (wr := [(q2, .inl (c3, 1260, .inl f102)), (h0, .inr (16, [.ref h1, .int 0, .ref q1, .ref q2, .ref q4, .ref q6, .int 3, .int 20, .ref q8, .ref q10, .int 0, .int 0, .int 0, .int 0, .int 0, .int 0, .int 0, .int 0, .int 0, .int 0, .int 2147483647, .int 0, .int 2147483647])), (q4, .inl (c5, 610, .inl f93)), (q6, .inl (c7, 610, .inl f94))]) hP hD hK [] [0, 1, 2, 3] [0, 1, 2] rfl rfl (by decide) (by decide) rfl hk1 hFc ht hvm hB
  have hP : va_P (dC, dI) cls [(q2, .inl (c3, 1260, .inl f102)), (h0, .inr (16, [.ref h1, .int 0, .ref q1, .ref q2, .ref q4, .ref q6, .int 3, .int 20, .ref q8, .ref q10, .int 0, .int 0, .int 0, .int 0, .int 0, .int 0, .int 0, .int 0, .int 0, .int 0, .int 2147483647, .int 0, .int 2147483647])), (q4, .inl (c5, 610, .inl f93)), (q6, .inl (c7, 610, .inl f94))] H := hP
  have hD : va_D A [(q2, .inl (c3, 1260, .inl f102)), (h0, .inr (16, [.ref h1, .int 0, .ref q1, .ref q2, .ref q4, .ref q6, .int 3, .int 20, .ref q8, .ref q10, .int 0, .int 0, .int 0, .int 0, .int 0, .int 0, .int 0, .int 0, .int 0, .int 0, .int 2147483647, .int 0, .int 2147483647])), (q4, .inl (c5, 610, .inl f93)), (q6, .inl (c7, 610, .inl f94))] := hD
  have hK : va_K (dC, dI) cls [(c3, .int), (c5, .int), (c7, .int)] s := hK
  refine W.widen (k := 19) (n := 19730) (Nat.le_of_ble_eq_true rfl) (Nat.le_of_ble_eq_true rfl) ?_
  obtain rfl : r105 = (((((kb (Int32.toNatClampNeg 22)) &&& 255)).toUInt32 % 65536).toInt32) := hw
  refine lv_topC (y := 110) (by decide) ?_
  refine va_iast hx hb hK hP hD hS 0 0 rfl rfl (by unfold vp_in; decide +kernel) dX19_init_131 (fun H locs hP hD hS => ?_)
  have hP : va_P (dC, dI) cls [(q2, .inl (c3, 1260, .inl (upd f102 (Int32.toNatClampNeg 19) 110))), (h0, .inr (16, [.ref h1, .int 0, .ref q1, .ref q2, .ref q4, .ref q6, .int 3, .int 20, .ref q8, .ref q10, .int 0, .int 0, .int 0, .int 0, .int 0, .int 0, .int 0, .int 0, .int 0, .int 0, .int 2147483647, .int 0, .int 2147483647])), (q4, .inl (c5, 610, .inl f93)), (q6, .inl (c7, 610, .inl f94))] H := hP
  have hD : va_D A [(q2, .inl (c3, 1260, .inl (upd f102 (Int32.toNatClampNeg 19) 110))), (h0, .inr (16, [.ref h1, .int 0, .ref q1, .ref q2, .ref q4, .ref q6, .int 3, .int 20, .ref q8, .ref q10, .int 0, .int 0, .int 0, .int 0, .int 0, .int 0, .int 0, .int 0, .int 0, .int 0, .int 2147483647, .int 0, .int 2147483647])), (q4, .inl (c5, 610, .inl f93)), (q6, .inl (c7, 610, .inl f94))] := hD
  generalize upd f102 (Int32.toNatClampNeg 19) 110 = f106 at hP hD
  refine lv_goto (tgt := 146) hx hb dX19_init_132 (by decide) ?_
  refine lv_iinc (v := 23) (lv' := [(4, .int 23), (3, .int 17), (0, .ref h0), (1, .ref h1), (2, .int 0)]) hx hb dX19_init_146 hl (k := 0) rfl (by decide) (by decide) rfl (fun ls hl => ?_)
  refine lv_goto (tgt := 87) hx hb dX19_init_149 (by decide) ?_
  refine lv_iload hx hb dX19_init_87 (lv_at hl 0 rfl) ?_
  refine va_ldcS hx hb hown hE.2.2.2.2.2.2.2.2.1 dX19_init_89 ?_
  have hPc := hP.sub (ws' := []) [] rfl
  have hDc := hD.sub (ws' := []) [] (by decide) rfl
  have hKc := hK.sub (tys' := []) [] rfl
  have hFc := va_free (wc := []) hD hS hA [] rfl
  refine va_calli (va_runV (As := []) (rest := [.int 23]) ⟨hx, hb, hml, hown, hts⟩ (kS_length l dC dI  (sz := _)) (cwV 0 hts (gi_V qw414 qw415 qw416 qw324 (gi_z qw413)) rfl rfl rfl (by decide +kernel) ⟨Nat.le_of_ble_eq_true rfl, Nat.le_of_ble_eq_true rfl⟩) ⟨PRE.blind, STC.recv hE.2.2.2.2.2.2.2.2 hS, PRE.of hE hS hFc hPc hKc hDc⟩ rfl rfl hl.1 rfl (lv_room (Nat.le_of_ble_eq_true rfl)) dX19_init_91 ⟨Nat.le_of_ble_eq_true rfl, Nat.le_of_ble_eq_true rfl⟩) hS (fun q _ h => hFc q h) hFc (fun r107 u t H locs ht hvm hw hB hz1 hk1 hS => ?_)
  obtain ⟨hP, hD, hK⟩ := JOIN (wr := [(q2, .inl (c3, 1260, .inl f106)), (h0, .inr (16, [.ref h1, .int 0, .ref q1, .ref q2, .ref q4, .ref q6, .int 3, .int 20, .ref q8, .ref q10, .int 0, .int 0, .int 0, .int 0, .int 0, .int 0, .int 0, .int 0, .int 0, .int 0, .int 2147483647, .int 0, .int 2147483647])), (q4, .inl (c5, 610, .inl f93)), (q6, .inl (c7, 610, .inl f94))]) hP hD hK [] [0, 1, 2, 3] [0, 1, 2] rfl rfl (by decide) (by decide) rfl hk1 hFc ht hvm hB
  have hP : va_P (dC, dI) cls [(q2, .inl (c3, 1260, .inl f106)), (h0, .inr (16, [.ref h1, .int 0, .ref q1, .ref q2, .ref q4, .ref q6, .int 3, .int 20, .ref q8, .ref q10, .int 0, .int 0, .int 0, .int 0, .int 0, .int 0, .int 0, .int 0, .int 0, .int 0, .int 2147483647, .int 0, .int 2147483647])), (q4, .inl (c5, 610, .inl f93)), (q6, .inl (c7, 610, .inl f94))] H := hP
  have hD : va_D A [(q2, .inl (c3, 1260, .inl f106)), (h0, .inr (16, [.ref h1, .int 0, .ref q1, .ref q2, .ref q4, .ref q6, .int 3, .int 20, .ref q8, .ref q10, .int 0, .int 0, .int 0, .int 0, .int 0, .int 0, .int 0, .int 0, .int 0, .int 0, .int 2147483647, .int 0, .int 2147483647])), (q4, .inl (c5, 610, .inl f93)), (q6, .inl (c7, 610, .inl f94))] := hD
  have hK : va_K (dC, dI) cls [(c3, .int), (c5, .int), (c7, .int)] s := hK
  refine W.widen (k := 19) (n := 19730) (Nat.le_of_ble_eq_true rfl) (Nat.le_of_ble_eq_true rfl) ?_
  obtain rfl : r107 = 44 := hw
  refine lv_icmp_ge (tgt := 152) hx hb dX19_init_94 (by decide) (fun c => absurd c (by decide)) (fun _ => ?_)
  refine va_ldcS hx hb hown hE.2.2.2.2.2.2.2.2.1 dX19_init_97 ?_
  refine lv_iload hx hb dX19_init_99 (lv_at hl 0 rfl) ?_
  have hPc := hP.sub (ws' := []) [] rfl
  have hDc := hD.sub (ws' := []) [] (by decide) rfl
  have hKc := hK.sub (tys' := []) [] rfl
  have hFc := va_free (wc := []) hD hS hA [] rfl
  refine va_calli (va_runV (As := [.int 23]) (rest := []) ⟨hx, hb, hml, hown, hts⟩ (kS_charAt l dC dI (p0 := 23) (sz := _) (h1 := (by decide)) (h2 := (by decide))) (cwV 1 hts (gi_V qw418 qw419 qw420 qw324 (gi_z qw417)) rfl rfl rfl (by decide +kernel) ⟨Nat.le_of_ble_eq_true rfl, Nat.le_of_ble_eq_true rfl⟩) ⟨PRE.blind, STC.recv hE.2.2.2.2.2.2.2.2 hS, PRE.of hE hS hFc hPc hKc hDc⟩ rfl rfl hl.1 rfl (lv_room (Nat.le_of_ble_eq_true rfl)) dX19_init_101 ⟨Nat.le_of_ble_eq_true rfl, Nat.le_of_ble_eq_true rfl⟩) hS (fun q _ h => hFc q h) hFc (fun r108 u t H locs ht hvm hw hB hz1 hk1 hS => ?_)
  obtain ⟨hP, hD, hK⟩ := JOIN (wr := [(q2, .inl (c3, 1260, .inl f106)), (h0, .inr (16, [.ref h1, .int 0, .ref q1, .ref q2, .ref q4, .ref q6, .int 3, .int 20, .ref q8, .ref q10, .int 0, .int 0, .int 0, .int 0, .int 0, .int 0, .int 0, .int 0, .int 0, .int 0, .int 2147483647, .int 0, .int 2147483647])), (q4, .inl (c5, 610, .inl f93)), (q6, .inl (c7, 610, .inl f94))]) hP hD hK [] [0, 1, 2, 3] [0, 1, 2] rfl rfl (by decide) (by decide) rfl hk1 hFc ht hvm hB
  have hP : va_P (dC, dI) cls [(q2, .inl (c3, 1260, .inl f106)), (h0, .inr (16, [.ref h1, .int 0, .ref q1, .ref q2, .ref q4, .ref q6, .int 3, .int 20, .ref q8, .ref q10, .int 0, .int 0, .int 0, .int 0, .int 0, .int 0, .int 0, .int 0, .int 0, .int 0, .int 2147483647, .int 0, .int 2147483647])), (q4, .inl (c5, 610, .inl f93)), (q6, .inl (c7, 610, .inl f94))] H := hP
  have hD : va_D A [(q2, .inl (c3, 1260, .inl f106)), (h0, .inr (16, [.ref h1, .int 0, .ref q1, .ref q2, .ref q4, .ref q6, .int 3, .int 20, .ref q8, .ref q10, .int 0, .int 0, .int 0, .int 0, .int 0, .int 0, .int 0, .int 0, .int 0, .int 0, .int 2147483647, .int 0, .int 2147483647])), (q4, .inl (c5, 610, .inl f93)), (q6, .inl (c7, 610, .inl f94))] := hD
  have hK : va_K (dC, dI) cls [(c3, .int), (c5, .int), (c7, .int)] s := hK
  refine W.widen (k := 19) (n := 19730) (Nat.le_of_ble_eq_true rfl) (Nat.le_of_ble_eq_true rfl) ?_
  obtain rfl : r108 = (((((kb (Int32.toNatClampNeg 23)) &&& 255)).toUInt32 % 65536).toInt32) := hw
  refine lv_topC (y := 32) (by decide) ?_
  refine lv_bipush (v := 32) hx hb dX19_init_104 (by decide) ?_
  refine lv_icmp_eq (tgt := 135) hx hb dX19_init_106 (by decide) (fun _ => ?_) (fun c => absurd (by decide) c)
  refine lv_aload_n hx hb dX19_init_135 rfl (lv_at hl 2 rfl) ?_
  refine lv_iload_n hx hb dX19_init_136 rfl (lv_at hl 1 rfl) ?_
  have hPc := hP.sub (ws' := [(h0, .inr (16, [.ref h1, .int 0, .ref q1, .ref q2, .ref q4, .ref q6, .int 3, .int 20, .ref q8, .ref q10, .int 0, .int 0, .int 0, .int 0, .int 0, .int 0, .int 0, .int 0, .int 0, .int 0, .int 2147483647, .int 0, .int 2147483647])), (q4, .inl (c5, 610, .inl f93)), (q6, .inl (c7, 610, .inl f94))]) [1, 2, 3] rfl
  have hDc := hD.sub (ws' := [(h0, .inr (16, [.ref h1, .int 0, .ref q1, .ref q2, .ref q4, .ref q6, .int 3, .int 20, .ref q8, .ref q10, .int 0, .int 0, .int 0, .int 0, .int 0, .int 0, .int 0, .int 0, .int 0, .int 0, .int 2147483647, .int 0, .int 2147483647])), (q4, .inl (c5, 610, .inl f93)), (q6, .inl (c7, 610, .inl f94))]) [1, 2, 3] (by decide) rfl
  have hKc := hK.sub (tys' := [(c5, .int), (c7, .int)]) [1, 2] rfl
  have hFc := va_free (wc := [(h0, .inr (16, [.ref h1, .int 0, .ref q1, .ref q2, .ref q4, .ref q6, .int 3, .int 20, .ref q8, .ref q10, .int 0, .int 0, .int 0, .int 0, .int 0, .int 0, .int 0, .int 0, .int 0, .int 0, .int 2147483647, .int 0, .int 2147483647])), (q4, .inl (c5, 610, .inl f93)), (q6, .inl (c7, 610, .inl f94))]) hD hS hA [1, 2, 3] rfl
  refine va_calli (va_runV (As := [.int 17]) (rest := []) ⟨hx, hb, hml, hown, hts⟩ (kX19_keep_n29 l dC dI (a0 := h0) (a2 := q2) (a4 := h1) (a5 := q1) (a6 := q4) (a7 := q6) (a8 := q8) (a9 := q10) (F10 := f93) (k11 := c5) (F12 := f94) (k13 := c7) (sz := _)) (cwV 1 hts (gi_V qw424 qw425 qw426 qw427 (gi_z qw423)) rfl rfl rfl (by decide +kernel) ⟨Nat.le_of_ble_eq_true rfl, Nat.le_of_ble_eq_true rfl⟩) ⟨PRE.blind, va_recv hKc hPc (ci := 16) (q0 := 0) rfl rfl, PRE.of hE hS hFc hPc hKc hDc⟩ rfl rfl hl.1 rfl (lv_room (Nat.le_of_ble_eq_true rfl)) dX19_init_137 ⟨Nat.le_of_ble_eq_true rfl, Nat.le_of_ble_eq_true rfl⟩) hS (fun q _ h => hFc q h) hFc (fun r109 u t H locs ht hvm hw hB hz1 hk1 hS => ?_)
  obtain ⟨f110, f111, hB⟩ := hB
  obtain ⟨hP, hD, hK⟩ := JOIN (wr := [(q2, .inl (c3, 1260, .inl f106))]) hP hD hK [1, 2, 3] [0] [0] rfl rfl (by decide) (by decide) rfl hk1 hFc ht hvm hB
  have hP : va_P (dC, dI) cls [(q2, .inl (c3, 1260, .inl f106)), (h0, .inr (16, [.ref h1, .int 0, .ref q1, .ref q2, .ref q4, .ref q6, .int 4, .int 20, .ref q8, .ref q10, .int 0, .int 0, .int 0, .int 0, .int 0, .int 0, .int 0, .int 0, .int 0, .int 0, .int 2147483647, .int 0, .int 2147483647])), (q4, .inl (c5, 610, .inl f110)), (q6, .inl (c7, 610, .inl f111))] H := hP
  have hD : va_D A [(q2, .inl (c3, 1260, .inl f106)), (h0, .inr (16, [.ref h1, .int 0, .ref q1, .ref q2, .ref q4, .ref q6, .int 4, .int 20, .ref q8, .ref q10, .int 0, .int 0, .int 0, .int 0, .int 0, .int 0, .int 0, .int 0, .int 0, .int 0, .int 2147483647, .int 0, .int 2147483647])), (q4, .inl (c5, 610, .inl f110)), (q6, .inl (c7, 610, .inl f111))] := hD
  have hK : va_K (dC, dI) cls [(c3, .int), (c5, .int), (c7, .int)] s := hK
  refine W.widen (k := 19) (n := 19730) (Nat.le_of_ble_eq_true rfl) (Nat.le_of_ble_eq_true rfl) ?_
  obtain rfl : r109 = 3 := hw
  refine lv_pop hx hb dX19_init_140 rfl ?_
  refine lv_aload_n hx hb dX19_init_141 rfl (lv_at hl 2 rfl) ?_
  refine va_get (D := (dC, dI)) (ci := 16) (v := .int 20) (C := RX19) (T := TX19) (N := 23) hx hb hts i_X19 hown hK hP 1 rfl rfl 7 (by decide) (hts _ qw421) (fun _ h9 => h9) rfl dX19_init_142 ?_
  refine lv_istore_n (lv' := [(3, .int 20), (4, .int 23), (0, .ref h0), (1, .ref h1), (2, .int 0)]) hx hb dX19_init_145 rfl hl (by decide) rfl (fun ls hl => ?_)
  refine lv_iinc (v := 24) (lv' := [(4, .int 24), (3, .int 20), (0, .ref h0), (1, .ref h1), (2, .int 0)]) hx hb dX19_init_146 hl (k := 1) rfl (by decide) (by decide) rfl (fun ls hl => ?_)
  refine lv_goto (tgt := 87) hx hb dX19_init_149 (by decide) ?_
  refine lv_iload hx hb dX19_init_87 (lv_at hl 0 rfl) ?_
  refine va_ldcS hx hb hown hE.2.2.2.2.2.2.2.2.1 dX19_init_89 ?_
  have hPc := hP.sub (ws' := []) [] rfl
  have hDc := hD.sub (ws' := []) [] (by decide) rfl
  have hKc := hK.sub (tys' := []) [] rfl
  have hFc := va_free (wc := []) hD hS hA [] rfl
  refine va_calli (va_runV (As := []) (rest := [.int 24]) ⟨hx, hb, hml, hown, hts⟩ (kS_length l dC dI  (sz := _)) (cwV 0 hts (gi_V qw414 qw415 qw416 qw324 (gi_z qw413)) rfl rfl rfl (by decide +kernel) ⟨Nat.le_of_ble_eq_true rfl, Nat.le_of_ble_eq_true rfl⟩) ⟨PRE.blind, STC.recv hE.2.2.2.2.2.2.2.2 hS, PRE.of hE hS hFc hPc hKc hDc⟩ rfl rfl hl.1 rfl (lv_room (Nat.le_of_ble_eq_true rfl)) dX19_init_91 ⟨Nat.le_of_ble_eq_true rfl, Nat.le_of_ble_eq_true rfl⟩) hS (fun q _ h => hFc q h) hFc (fun r112 u t H locs ht hvm hw hB hz1 hk1 hS => ?_)
  obtain ⟨hP, hD, hK⟩ := JOIN (wr := [(q2, .inl (c3, 1260, .inl f106)), (h0, .inr (16, [.ref h1, .int 0, .ref q1, .ref q2, .ref q4, .ref q6, .int 4, .int 20, .ref q8, .ref q10, .int 0, .int 0, .int 0, .int 0, .int 0, .int 0, .int 0, .int 0, .int 0, .int 0, .int 2147483647, .int 0, .int 2147483647])), (q4, .inl (c5, 610, .inl f110)), (q6, .inl (c7, 610, .inl f111))]) hP hD hK [] [0, 1, 2, 3] [0, 1, 2] rfl rfl (by decide) (by decide) rfl hk1 hFc ht hvm hB
  have hP : va_P (dC, dI) cls [(q2, .inl (c3, 1260, .inl f106)), (h0, .inr (16, [.ref h1, .int 0, .ref q1, .ref q2, .ref q4, .ref q6, .int 4, .int 20, .ref q8, .ref q10, .int 0, .int 0, .int 0, .int 0, .int 0, .int 0, .int 0, .int 0, .int 0, .int 0, .int 2147483647, .int 0, .int 2147483647])), (q4, .inl (c5, 610, .inl f110)), (q6, .inl (c7, 610, .inl f111))] H := hP
  have hD : va_D A [(q2, .inl (c3, 1260, .inl f106)), (h0, .inr (16, [.ref h1, .int 0, .ref q1, .ref q2, .ref q4, .ref q6, .int 4, .int 20, .ref q8, .ref q10, .int 0, .int 0, .int 0, .int 0, .int 0, .int 0, .int 0, .int 0, .int 0, .int 0, .int 2147483647, .int 0, .int 2147483647])), (q4, .inl (c5, 610, .inl f110)), (q6, .inl (c7, 610, .inl f111))] := hD
  have hK : va_K (dC, dI) cls [(c3, .int), (c5, .int), (c7, .int)] s := hK
  refine W.widen (k := 19) (n := 19730) (Nat.le_of_ble_eq_true rfl) (Nat.le_of_ble_eq_true rfl) ?_
  obtain rfl : r112 = 44 := hw
  refine lv_icmp_ge (tgt := 152) hx hb dX19_init_94 (by decide) (fun c => absurd c (by decide)) (fun _ => ?_)
  refine va_ldcS hx hb hown hE.2.2.2.2.2.2.2.2.1 dX19_init_97 ?_
  refine lv_iload hx hb dX19_init_99 (lv_at hl 0 rfl) ?_
  have hPc := hP.sub (ws' := []) [] rfl
  have hDc := hD.sub (ws' := []) [] (by decide) rfl
  have hKc := hK.sub (tys' := []) [] rfl
  have hFc := va_free (wc := []) hD hS hA [] rfl
  refine va_calli (va_runV (As := [.int 24]) (rest := []) ⟨hx, hb, hml, hown, hts⟩ (kS_charAt l dC dI (p0 := 24) (sz := _) (h1 := (by decide)) (h2 := (by decide))) (cwV 1 hts (gi_V qw418 qw419 qw420 qw324 (gi_z qw417)) rfl rfl rfl (by decide +kernel) ⟨Nat.le_of_ble_eq_true rfl, Nat.le_of_ble_eq_true rfl⟩) ⟨PRE.blind, STC.recv hE.2.2.2.2.2.2.2.2 hS, PRE.of hE hS hFc hPc hKc hDc⟩ rfl rfl hl.1 rfl (lv_room (Nat.le_of_ble_eq_true rfl)) dX19_init_101 ⟨Nat.le_of_ble_eq_true rfl, Nat.le_of_ble_eq_true rfl⟩) hS (fun q _ h => hFc q h) hFc (fun r113 u t H locs ht hvm hw hB hz1 hk1 hS => ?_)
  obtain ⟨hP, hD, hK⟩ := JOIN (wr := [(q2, .inl (c3, 1260, .inl f106)), (h0, .inr (16, [.ref h1, .int 0, .ref q1, .ref q2, .ref q4, .ref q6, .int 4, .int 20, .ref q8, .ref q10, .int 0, .int 0, .int 0, .int 0, .int 0, .int 0, .int 0, .int 0, .int 0, .int 0, .int 2147483647, .int 0, .int 2147483647])), (q4, .inl (c5, 610, .inl f110)), (q6, .inl (c7, 610, .inl f111))]) hP hD hK [] [0, 1, 2, 3] [0, 1, 2] rfl rfl (by decide) (by decide) rfl hk1 hFc ht hvm hB
  have hP : va_P (dC, dI) cls [(q2, .inl (c3, 1260, .inl f106)), (h0, .inr (16, [.ref h1, .int 0, .ref q1, .ref q2, .ref q4, .ref q6, .int 4, .int 20, .ref q8, .ref q10, .int 0, .int 0, .int 0, .int 0, .int 0, .int 0, .int 0, .int 0, .int 0, .int 0, .int 2147483647, .int 0, .int 2147483647])), (q4, .inl (c5, 610, .inl f110)), (q6, .inl (c7, 610, .inl f111))] H := hP
  have hD : va_D A [(q2, .inl (c3, 1260, .inl f106)), (h0, .inr (16, [.ref h1, .int 0, .ref q1, .ref q2, .ref q4, .ref q6, .int 4, .int 20, .ref q8, .ref q10, .int 0, .int 0, .int 0, .int 0, .int 0, .int 0, .int 0, .int 0, .int 0, .int 0, .int 2147483647, .int 0, .int 2147483647])), (q4, .inl (c5, 610, .inl f110)), (q6, .inl (c7, 610, .inl f111))] := hD
  have hK : va_K (dC, dI) cls [(c3, .int), (c5, .int), (c7, .int)] s := hK
  refine W.widen (k := 19) (n := 19730) (Nat.le_of_ble_eq_true rfl) (Nat.le_of_ble_eq_true rfl) ?_
  obtain rfl : r113 = (((((kb (Int32.toNatClampNeg 24)) &&& 255)).toUInt32 % 65536).toInt32) := hw
  refine lv_topC (y := 105) (by decide) ?_
  refine lv_bipush (v := 32) hx hb dX19_init_104 (by decide) ?_
  refine lv_icmp_eq (tgt := 135) hx hb dX19_init_106 (by decide) (fun c => absurd c (by decide)) (fun _ => ?_)
  refine lv_aload_n hx hb dX19_init_109 rfl (lv_at hl 2 rfl) ?_
  refine va_get (D := (dC, dI)) (ci := 16) (v := .ref q2) (C := RX19) (T := TX19) (N := 23) hx hb hts i_X19 hown hK hP 1 rfl rfl 3 (by decide) (hts _ qw403) (fun _ h9 => h9) rfl dX19_init_110 ?_
  refine lv_aload_n hx hb dX19_init_113 rfl (lv_at hl 2 rfl) ?_
  refine lv_dup hx hb dX19_init_114 rfl ?_
  refine va_get (D := (dC, dI)) (ci := 16) (v := .int 20) (C := RX19) (T := TX19) (N := 23) hx hb hts i_X19 hown hK hP 1 rfl rfl 7 (by decide) (hts _ qw421) (fun _ h9 => h9) rfl dX19_init_115 ?_
  refine lv_dup_x1 hx hb dX19_init_118 rfl rfl ?_
  refine lv_iconst (v := 1) hx hb dX19_init_119 (by decide) ?_
  refine lv_iadd hx hb dX19_init_120 ?_
  refine lv_topC (y := 21) (by decide) ?_
  refine va_put (D := (dC, dI)) (ci := 16) (v := .int 21) (ty := .int) (C := RX19) (T := TX19) (N := 23) hx hb hts i_X19 tyX19 tyX19_ok nmX19 hown hK hP hD hS 1 rfl rfl 7 (by decide) (hts _ qw421) (fun _ h9 => h9) rfl (by decide +kernel) rfl rfl (Nat.le_of_ble_eq_true rfl) dX19_init_121 (fun H locs hP hD hS => ?_)
  have hP : va_P (dC, dI) cls [(q2, .inl (c3, 1260, .inl f106)), (h0, .inr (16, [.ref h1, .int 0, .ref q1, .ref q2, .ref q4, .ref q6, .int 4, .int 21, .ref q8, .ref q10, .int 0, .int 0, .int 0, .int 0, .int 0, .int 0, .int 0, .int 0, .int 0, .int 0, .int 2147483647, .int 0, .int 2147483647])), (q4, .inl (c5, 610, .inl f110)), (q6, .inl (c7, 610, .inl f111))] H := hP
  have hD : va_D A [(q2, .inl (c3, 1260, .inl f106)), (h0, .inr (16, [.ref h1, .int 0, .ref q1, .ref q2, .ref q4, .ref q6, .int 4, .int 21, .ref q8, .ref q10, .int 0, .int 0, .int 0, .int 0, .int 0, .int 0, .int 0, .int 0, .int 0, .int 0, .int 2147483647, .int 0, .int 2147483647])), (q4, .inl (c5, 610, .inl f110)), (q6, .inl (c7, 610, .inl f111))] := hD
  refine va_ldcS hx hb hown hE.2.2.2.2.2.2.2.2.1 dX19_init_124 ?_
  refine lv_iload hx hb dX19_init_126 (lv_at hl 0 rfl) ?_
  have hPc := hP.sub (ws' := []) [] rfl
  have hDc := hD.sub (ws' := []) [] (by decide) rfl
  have hKc := hK.sub (tys' := []) [] rfl
  have hFc := va_free (wc := []) hD hS hA [] rfl
  refine va_calli (va_runV (As := [.int 24]) (rest := [.int 20, .ref q2]) ⟨hx, hb, hml, hown, hts⟩ (kS_charAt l dC dI (p0 := 24) (sz := _) (h1 := (by decide)) (h2 := (by decide))) (cwV 1 hts (gi_V qw418 qw419 qw420 qw324 (gi_z qw417)) rfl rfl rfl (by decide +kernel) ⟨Nat.le_of_ble_eq_true rfl, Nat.le_of_ble_eq_true rfl⟩) ⟨PRE.blind, STC.recv hE.2.2.2.2.2.2.2.2 hS, PRE.of hE hS hFc hPc hKc hDc⟩ rfl rfl hl.1 rfl (lv_room (Nat.le_of_ble_eq_true rfl)) dX19_init_128 ⟨Nat.le_of_ble_eq_true rfl, Nat.le_of_ble_eq_true rfl⟩) hS (fun q _ h => hFc q h) hFc (fun r114 u t H locs ht hvm hw hB hz1 hk1 hS => ?_)
  obtain ⟨hP, hD, hK⟩ := JOIN (wr := [(q2, .inl (c3, 1260, .inl f106)), (h0, .inr (16, [.ref h1, .int 0, .ref q1, .ref q2, .ref q4, .ref q6, .int 4, .int 21, .ref q8, .ref q10, .int 0, .int 0, .int 0, .int 0, .int 0, .int 0, .int 0, .int 0, .int 0, .int 0, .int 2147483647, .int 0, .int 2147483647])), (q4, .inl (c5, 610, .inl f110)), (q6, .inl (c7, 610, .inl f111))]) hP hD hK [] [0, 1, 2, 3] [0, 1, 2] rfl rfl (by decide) (by decide) rfl hk1 hFc ht hvm hB
  have hP : va_P (dC, dI) cls [(q2, .inl (c3, 1260, .inl f106)), (h0, .inr (16, [.ref h1, .int 0, .ref q1, .ref q2, .ref q4, .ref q6, .int 4, .int 21, .ref q8, .ref q10, .int 0, .int 0, .int 0, .int 0, .int 0, .int 0, .int 0, .int 0, .int 0, .int 0, .int 2147483647, .int 0, .int 2147483647])), (q4, .inl (c5, 610, .inl f110)), (q6, .inl (c7, 610, .inl f111))] H := hP
  have hD : va_D A [(q2, .inl (c3, 1260, .inl f106)), (h0, .inr (16, [.ref h1, .int 0, .ref q1, .ref q2, .ref q4, .ref q6, .int 4, .int 21, .ref q8, .ref q10, .int 0, .int 0, .int 0, .int 0, .int 0, .int 0, .int 0, .int 0, .int 0, .int 0, .int 2147483647, .int 0, .int 2147483647])), (q4, .inl (c5, 610, .inl f110)), (q6, .inl (c7, 610, .inl f111))] := hD
  have hK : va_K (dC, dI) cls [(c3, .int), (c5, .int), (c7, .int)] s := hK
  refine W.widen (k := 19) (n := 19730) (Nat.le_of_ble_eq_true rfl) (Nat.le_of_ble_eq_true rfl) ?_
  obtain rfl : r114 = (((((kb (Int32.toNatClampNeg 24)) &&& 255)).toUInt32 % 65536).toInt32) := hw
  refine lv_topC (y := 105) (by decide) ?_
  refine va_iast hx hb hK hP hD hS 0 0 rfl rfl (by unfold vp_in; decide +kernel) dX19_init_131 (fun H locs hP hD hS => ?_)
  have hP : va_P (dC, dI) cls [(q2, .inl (c3, 1260, .inl (upd f106 (Int32.toNatClampNeg 20) 105))), (h0, .inr (16, [.ref h1, .int 0, .ref q1, .ref q2, .ref q4, .ref q6, .int 4, .int 21, .ref q8, .ref q10, .int 0, .int 0, .int 0, .int 0, .int 0, .int 0, .int 0, .int 0, .int 0, .int 0, .int 2147483647, .int 0, .int 2147483647])), (q4, .inl (c5, 610, .inl f110)), (q6, .inl (c7, 610, .inl f111))] H := hP
  have hD : va_D A [(q2, .inl (c3, 1260, .inl (upd f106 (Int32.toNatClampNeg 20) 105))), (h0, .inr (16, [.ref h1, .int 0, .ref q1, .ref q2, .ref q4, .ref q6, .int 4, .int 21, .ref q8, .ref q10, .int 0, .int 0, .int 0, .int 0, .int 0, .int 0, .int 0, .int 0, .int 0, .int 0, .int 2147483647, .int 0, .int 2147483647])), (q4, .inl (c5, 610, .inl f110)), (q6, .inl (c7, 610, .inl f111))] := hD
  generalize upd f106 (Int32.toNatClampNeg 20) 105 = f115 at hP hD
  refine lv_goto (tgt := 146) hx hb dX19_init_132 (by decide) ?_
  refine lv_iinc (v := 25) (lv' := [(4, .int 25), (3, .int 20), (0, .ref h0), (1, .ref h1), (2, .int 0)]) hx hb dX19_init_146 hl (k := 0) rfl (by decide) (by decide) rfl (fun ls hl => ?_)
  refine lv_goto (tgt := 87) hx hb dX19_init_149 (by decide) ?_
  refine lv_iload hx hb dX19_init_87 (lv_at hl 0 rfl) ?_
  refine va_ldcS hx hb hown hE.2.2.2.2.2.2.2.2.1 dX19_init_89 ?_
  have hPc := hP.sub (ws' := []) [] rfl
  have hDc := hD.sub (ws' := []) [] (by decide) rfl
  have hKc := hK.sub (tys' := []) [] rfl
  have hFc := va_free (wc := []) hD hS hA [] rfl
  refine va_calli (va_runV (As := []) (rest := [.int 25]) ⟨hx, hb, hml, hown, hts⟩ (kS_length l dC dI  (sz := _)) (cwV 0 hts (gi_V qw414 qw415 qw416 qw324 (gi_z qw413)) rfl rfl rfl (by decide +kernel) ⟨Nat.le_of_ble_eq_true rfl, Nat.le_of_ble_eq_true rfl⟩) ⟨PRE.blind, STC.recv hE.2.2.2.2.2.2.2.2 hS, PRE.of hE hS hFc hPc hKc hDc⟩ rfl rfl hl.1 rfl (lv_room (Nat.le_of_ble_eq_true rfl)) dX19_init_91 ⟨Nat.le_of_ble_eq_true rfl, Nat.le_of_ble_eq_true rfl⟩) hS (fun q _ h => hFc q h) hFc (fun r116 u t H locs ht hvm hw hB hz1 hk1 hS => ?_)
  obtain ⟨hP, hD, hK⟩ := JOIN (wr := [(q2, .inl (c3, 1260, .inl f115)), (h0, .inr (16, [.ref h1, .int 0, .ref q1, .ref q2, .ref q4, .ref q6, .int 4, .int 21, .ref q8, .ref q10, .int 0, .int 0, .int 0, .int 0, .int 0, .int 0, .int 0, .int 0, .int 0, .int 0, .int 2147483647, .int 0, .int 2147483647])), (q4, .inl (c5, 610, .inl f110)), (q6, .inl (c7, 610, .inl f111))]) hP hD hK [] [0, 1, 2, 3] [0, 1, 2] rfl rfl (by decide) (by decide) rfl hk1 hFc ht hvm hB
  have hP : va_P (dC, dI) cls [(q2, .inl (c3, 1260, .inl f115)), (h0, .inr (16, [.ref h1, .int 0, .ref q1, .ref q2, .ref q4, .ref q6, .int 4, .int 21, .ref q8, .ref q10, .int 0, .int 0, .int 0, .int 0, .int 0, .int 0, .int 0, .int 0, .int 0, .int 0, .int 2147483647, .int 0, .int 2147483647])), (q4, .inl (c5, 610, .inl f110)), (q6, .inl (c7, 610, .inl f111))] H := hP
  have hD : va_D A [(q2, .inl (c3, 1260, .inl f115)), (h0, .inr (16, [.ref h1, .int 0, .ref q1, .ref q2, .ref q4, .ref q6, .int 4, .int 21, .ref q8, .ref q10, .int 0, .int 0, .int 0, .int 0, .int 0, .int 0, .int 0, .int 0, .int 0, .int 0, .int 2147483647, .int 0, .int 2147483647])), (q4, .inl (c5, 610, .inl f110)), (q6, .inl (c7, 610, .inl f111))] := hD
  have hK : va_K (dC, dI) cls [(c3, .int), (c5, .int), (c7, .int)] s := hK
  refine W.widen (k := 19) (n := 19730) (Nat.le_of_ble_eq_true rfl) (Nat.le_of_ble_eq_true rfl) ?_
  obtain rfl : r116 = 44 := hw
  refine lv_icmp_ge (tgt := 152) hx hb dX19_init_94 (by decide) (fun c => absurd c (by decide)) (fun _ => ?_)
  refine va_ldcS hx hb hown hE.2.2.2.2.2.2.2.2.1 dX19_init_97 ?_
  refine lv_iload hx hb dX19_init_99 (lv_at hl 0 rfl) ?_
  have hPc := hP.sub (ws' := []) [] rfl
  have hDc := hD.sub (ws' := []) [] (by decide) rfl
  have hKc := hK.sub (tys' := []) [] rfl
  have hFc := va_free (wc := []) hD hS hA [] rfl
  refine va_calli (va_runV (As := [.int 25]) (rest := []) ⟨hx, hb, hml, hown, hts⟩ (kS_charAt l dC dI (p0 := 25) (sz := _) (h1 := (by decide)) (h2 := (by decide))) (cwV 1 hts (gi_V qw418 qw419 qw420 qw324 (gi_z qw417)) rfl rfl rfl (by decide +kernel) ⟨Nat.le_of_ble_eq_true rfl, Nat.le_of_ble_eq_true rfl⟩) ⟨PRE.blind, STC.recv hE.2.2.2.2.2.2.2.2 hS, PRE.of hE hS hFc hPc hKc hDc⟩ rfl rfl hl.1 rfl (lv_room (Nat.le_of_ble_eq_true rfl)) dX19_init_101 ⟨Nat.le_of_ble_eq_true rfl, Nat.le_of_ble_eq_true rfl⟩) hS (fun q _ h => hFc q h) hFc (fun r117 u t H locs ht hvm hw hB hz1 hk1 hS => ?_)
  obtain ⟨hP, hD, hK⟩ := JOIN (wr := [(q2, .inl (c3, 1260, .inl f115)), (h0, .inr (16, [.ref h1, .int 0, .ref q1, .ref q2, .ref q4, .ref q6, .int 4, .int 21, .ref q8, .ref q10, .int 0, .int 0, .int 0, .int 0, .int 0, .int 0, .int 0, .int 0, .int 0, .int 0, .int 2147483647, .int 0, .int 2147483647])), (q4, .inl (c5, 610, .inl f110)), (q6, .inl (c7, 610, .inl f111))]) hP hD hK [] [0, 1, 2, 3] [0, 1, 2] rfl rfl (by decide) (by decide) rfl hk1 hFc ht hvm hB
  have hP : va_P (dC, dI) cls [(q2, .inl (c3, 1260, .inl f115)), (h0, .inr (16, [.ref h1, .int 0, .ref q1, .ref q2, .ref q4, .ref q6, .int 4, .int 21, .ref q8, .ref q10, .int 0, .int 0, .int 0, .int 0, .int 0, .int 0, .int 0, .int 0, .int 0, .int 0, .int 2147483647, .int 0, .int 2147483647])), (q4, .inl (c5, 610, .inl f110)), (q6, .inl (c7, 610, .inl f111))] H := hP
  have hD : va_D A [(q2, .inl (c3, 1260, .inl f115)), (h0, .inr (16, [.ref h1, .int 0, .ref q1, .ref q2, .ref q4, .ref q6, .int 4, .int 21, .ref q8, .ref q10, .int 0, .int 0, .int 0, .int 0, .int 0, .int 0, .int 0, .int 0, .int 0, .int 0, .int 2147483647, .int 0, .int 2147483647])), (q4, .inl (c5, 610, .inl f110)), (q6, .inl (c7, 610, .inl f111))] := hD
  have hK : va_K (dC, dI) cls [(c3, .int), (c5, .int), (c7, .int)] s := hK
  refine W.widen (k := 19) (n := 19730) (Nat.le_of_ble_eq_true rfl) (Nat.le_of_ble_eq_true rfl) ?_
  obtain rfl : r117 = (((((kb (Int32.toNatClampNeg 25)) &&& 255)).toUInt32 % 65536).toInt32) := hw
  refine lv_topC (y := 102) (by decide) ?_
  refine lv_bipush (v := 32) hx hb dX19_init_104 (by decide) ?_
  refine lv_icmp_eq (tgt := 135) hx hb dX19_init_106 (by decide) (fun c => absurd c (by decide)) (fun _ => ?_)
  refine lv_aload_n hx hb dX19_init_109 rfl (lv_at hl 2 rfl) ?_
  refine va_get (D := (dC, dI)) (ci := 16) (v := .ref q2) (C := RX19) (T := TX19) (N := 23) hx hb hts i_X19 hown hK hP 1 rfl rfl 3 (by decide) (hts _ qw403) (fun _ h9 => h9) rfl dX19_init_110 ?_
  refine lv_aload_n hx hb dX19_init_113 rfl (lv_at hl 2 rfl) ?_
  refine lv_dup hx hb dX19_init_114 rfl ?_
  refine va_get (D := (dC, dI)) (ci := 16) (v := .int 21) (C := RX19) (T := TX19) (N := 23) hx hb hts i_X19 hown hK hP 1 rfl rfl 7 (by decide) (hts _ qw421) (fun _ h9 => h9) rfl dX19_init_115 ?_
  refine lv_dup_x1 hx hb dX19_init_118 rfl rfl ?_
  refine lv_iconst (v := 1) hx hb dX19_init_119 (by decide) ?_
  refine lv_iadd hx hb dX19_init_120 ?_
  refine lv_topC (y := 22) (by decide) ?_
  refine va_put (D := (dC, dI)) (ci := 16) (v := .int 22) (ty := .int) (C := RX19) (T := TX19) (N := 23) hx hb hts i_X19 tyX19 tyX19_ok nmX19 hown hK hP hD hS 1 rfl rfl 7 (by decide) (hts _ qw421) (fun _ h9 => h9) rfl (by decide +kernel) rfl rfl (Nat.le_of_ble_eq_true rfl) dX19_init_121 (fun H locs hP hD hS => ?_)
  have hP : va_P (dC, dI) cls [(q2, .inl (c3, 1260, .inl f115)), (h0, .inr (16, [.ref h1, .int 0, .ref q1, .ref q2, .ref q4, .ref q6, .int 4, .int 22, .ref q8, .ref q10, .int 0, .int 0, .int 0, .int 0, .int 0, .int 0, .int 0, .int 0, .int 0, .int 0, .int 2147483647, .int 0, .int 2147483647])), (q4, .inl (c5, 610, .inl f110)), (q6, .inl (c7, 610, .inl f111))] H := hP
  have hD : va_D A [(q2, .inl (c3, 1260, .inl f115)), (h0, .inr (16, [.ref h1, .int 0, .ref q1, .ref q2, .ref q4, .ref q6, .int 4, .int 22, .ref q8, .ref q10, .int 0, .int 0, .int 0, .int 0, .int 0, .int 0, .int 0, .int 0, .int 0, .int 0, .int 2147483647, .int 0, .int 2147483647])), (q4, .inl (c5, 610, .inl f110)), (q6, .inl (c7, 610, .inl f111))] := hD
  refine va_ldcS hx hb hown hE.2.2.2.2.2.2.2.2.1 dX19_init_124 ?_
  refine lv_iload hx hb dX19_init_126 (lv_at hl 0 rfl) ?_
  have hPc := hP.sub (ws' := []) [] rfl
  have hDc := hD.sub (ws' := []) [] (by decide) rfl
  have hKc := hK.sub (tys' := []) [] rfl
  have hFc := va_free (wc := []) hD hS hA [] rfl
  refine va_calli (va_runV (As := [.int 25]) (rest := [.int 21, .ref q2]) ⟨hx, hb, hml, hown, hts⟩ (kS_charAt l dC dI (p0 := 25) (sz := _) (h1 := (by decide)) (h2 := (by decide))) (cwV 1 hts (gi_V qw418 qw419 qw420 qw324 (gi_z qw417)) rfl rfl rfl (by decide +kernel) ⟨Nat.le_of_ble_eq_true rfl, Nat.le_of_ble_eq_true rfl⟩) ⟨PRE.blind, STC.recv hE.2.2.2.2.2.2.2.2 hS, PRE.of hE hS hFc hPc hKc hDc⟩ rfl rfl hl.1 rfl (lv_room (Nat.le_of_ble_eq_true rfl)) dX19_init_128 ⟨Nat.le_of_ble_eq_true rfl, Nat.le_of_ble_eq_true rfl⟩) hS (fun q _ h => hFc q h) hFc (fun r118 u t H locs ht hvm hw hB hz1 hk1 hS => ?_)
  obtain ⟨hP, hD, hK⟩ := JOIN (wr := [(q2, .inl (c3, 1260, .inl f115)), (h0, .inr (16, [.ref h1, .int 0, .ref q1, .ref q2, .ref q4, .ref q6, .int 4, .int 22, .ref q8, .ref q10, .int 0, .int 0, .int 0, .int 0, .int 0, .int 0, .int 0, .int 0, .int 0, .int 0, .int 2147483647, .int 0, .int 2147483647])), (q4, .inl (c5, 610, .inl f110)), (q6, .inl (c7, 610, .inl f111))]) hP hD hK [] [0, 1, 2, 3] [0, 1, 2] rfl rfl (by decide) (by decide) rfl hk1 hFc ht hvm hB
  have hP : va_P (dC, dI) cls [(q2, .inl (c3, 1260, .inl f115)), (h0, .inr (16, [.ref h1, .int 0, .ref q1, .ref q2, .ref q4, .ref q6, .int 4, .int 22, .ref q8, .ref q10, .int 0, .int 0, .int 0, .int 0, .int 0, .int 0, .int 0, .int 0, .int 0, .int 0, .int 2147483647, .int 0, .int 2147483647])), (q4, .inl (c5, 610, .inl f110)), (q6, .inl (c7, 610, .inl f111))] H := hP
  have hD : va_D A [(q2, .inl (c3, 1260, .inl f115)), (h0, .inr (16, [.ref h1, .int 0, .ref q1, .ref q2, .ref q4, .ref q6, .int 4, .int 22, .ref q8, .ref q10, .int 0, .int 0, .int 0, .int 0, .int 0, .int 0, .int 0, .int 0, .int 0, .int 0, .int 2147483647, .int 0, .int 2147483647])), (q4, .inl (c5, 610, .inl f110)), (q6, .inl (c7, 610, .inl f111))] := hD
  have hK : va_K (dC, dI) cls [(c3, .int), (c5, .int), (c7, .int)] s := hK
  refine W.widen (k := 19) (n := 19730) (Nat.le_of_ble_eq_true rfl) (Nat.le_of_ble_eq_true rfl) ?_
  obtain rfl : r118 = (((((kb (Int32.toNatClampNeg 25)) &&& 255)).toUInt32 % 65536).toInt32) := hw
  refine lv_topC (y := 102) (by decide) ?_
  refine va_iast hx hb hK hP hD hS 0 0 rfl rfl (by unfold vp_in; decide +kernel) dX19_init_131 (fun H locs hP hD hS => ?_)
  have hP : va_P (dC, dI) cls [(q2, .inl (c3, 1260, .inl (upd f115 (Int32.toNatClampNeg 21) 102))), (h0, .inr (16, [.ref h1, .int 0, .ref q1, .ref q2, .ref q4, .ref q6, .int 4, .int 22, .ref q8, .ref q10, .int 0, .int 0, .int 0, .int 0, .int 0, .int 0, .int 0, .int 0, .int 0, .int 0, .int 2147483647, .int 0, .int 2147483647])), (q4, .inl (c5, 610, .inl f110)), (q6, .inl (c7, 610, .inl f111))] H := hP
  have hD : va_D A [(q2, .inl (c3, 1260, .inl (upd f115 (Int32.toNatClampNeg 21) 102))), (h0, .inr (16, [.ref h1, .int 0, .ref q1, .ref q2, .ref q4, .ref q6, .int 4, .int 22, .ref q8, .ref q10, .int 0, .int 0, .int 0, .int 0, .int 0, .int 0, .int 0, .int 0, .int 0, .int 0, .int 2147483647, .int 0, .int 2147483647])), (q4, .inl (c5, 610, .inl f110)), (q6, .inl (c7, 610, .inl f111))] := hD
  generalize upd f115 (Int32.toNatClampNeg 21) 102 = f119 at hP hD
  refine lv_goto (tgt := 146) hx hb dX19_init_132 (by decide) ?_
  refine lv_iinc (v := 26) (lv' := [(4, .int 26), (3, .int 20), (0, .ref h0), (1, .ref h1), (2, .int 0)]) hx hb dX19_init_146 hl (k := 0) rfl (by decide) (by decide) rfl (fun ls hl => ?_)
  refine lv_goto (tgt := 87) hx hb dX19_init_149 (by decide) ?_
  refine lv_iload hx hb dX19_init_87 (lv_at hl 0 rfl) ?_
  refine va_ldcS hx hb hown hE.2.2.2.2.2.2.2.2.1 dX19_init_89 ?_
  have hPc := hP.sub (ws' := []) [] rfl
  have hDc := hD.sub (ws' := []) [] (by decide) rfl
  have hKc := hK.sub (tys' := []) [] rfl
  have hFc := va_free (wc := []) hD hS hA [] rfl
  refine va_calli (va_runV (As := []) (rest := [.int 26]) ⟨hx, hb, hml, hown, hts⟩ (kS_length l dC dI  (sz := _)) (cwV 0 hts (gi_V qw414 qw415 qw416 qw324 (gi_z qw413)) rfl rfl rfl (by decide +kernel) ⟨Nat.le_of_ble_eq_true rfl, Nat.le_of_ble_eq_true rfl⟩) ⟨PRE.blind, STC.recv hE.2.2.2.2.2.2.2.2 hS, PRE.of hE hS hFc hPc hKc hDc⟩ rfl rfl hl.1 rfl (lv_room (Nat.le_of_ble_eq_true rfl)) dX19_init_91 ⟨Nat.le_of_ble_eq_true rfl, Nat.le_of_ble_eq_true rfl⟩) hS (fun q _ h => hFc q h) hFc (fun r120 u t H locs ht hvm hw hB hz1 hk1 hS => ?_)
  obtain ⟨hP, hD, hK⟩ := JOIN (wr := [(q2, .inl (c3, 1260, .inl f119)), (h0, .inr (16, [.ref h1, .int 0, .ref q1, .ref q2, .ref q4, .ref q6, .int 4, .int 22, .ref q8, .ref q10, .int 0, .int 0, .int 0, .int 0, .int 0, .int 0, .int 0, .int 0, .int 0, .int 0, .int 2147483647, .int 0, .int 2147483647])), (q4, .inl (c5, 610, .inl f110)), (q6, .inl (c7, 610, .inl f111))]) hP hD hK [] [0, 1, 2, 3] [0, 1, 2] rfl rfl (by decide) (by decide) rfl hk1 hFc ht hvm hB
  have hP : va_P (dC, dI) cls [(q2, .inl (c3, 1260, .inl f119)), (h0, .inr (16, [.ref h1, .int 0, .ref q1, .ref q2, .ref q4, .ref q6, .int 4, .int 22, .ref q8, .ref q10, .int 0, .int 0, .int 0, .int 0, .int 0, .int 0, .int 0, .int 0, .int 0, .int 0, .int 2147483647, .int 0, .int 2147483647])), (q4, .inl (c5, 610, .inl f110)), (q6, .inl (c7, 610, .inl f111))] H := hP
  have hD : va_D A [(q2, .inl (c3, 1260, .inl f119)), (h0, .inr (16, [.ref h1, .int 0, .ref q1, .ref q2, .ref q4, .ref q6, .int 4, .int 22, .ref q8, .ref q10, .int 0, .int 0, .int 0, .int 0, .int 0, .int 0, .int 0, .int 0, .int 0, .int 0, .int 2147483647, .int 0, .int 2147483647])), (q4, .inl (c5, 610, .inl f110)), (q6, .inl (c7, 610, .inl f111))] := hD
  have hK : va_K (dC, dI) cls [(c3, .int), (c5, .int), (c7, .int)] s := hK
  refine W.widen (k := 19) (n := 19730) (Nat.le_of_ble_eq_true rfl) (Nat.le_of_ble_eq_true rfl) ?_
  obtain rfl : r120 = 44 := hw
  refine lv_icmp_ge (tgt := 152) hx hb dX19_init_94 (by decide) (fun c => absurd c (by decide)) (fun _ => ?_)
  refine va_ldcS hx hb hown hE.2.2.2.2.2.2.2.2.1 dX19_init_97 ?_
  refine lv_iload hx hb dX19_init_99 (lv_at hl 0 rfl) ?_
  have hPc := hP.sub (ws' := []) [] rfl
  have hDc := hD.sub (ws' := []) [] (by decide) rfl
  have hKc := hK.sub (tys' := []) [] rfl
  have hFc := va_free (wc := []) hD hS hA [] rfl
  refine va_calli (va_runV (As := [.int 26]) (rest := []) ⟨hx, hb, hml, hown, hts⟩ (kS_charAt l dC dI (p0 := 26) (sz := _) (h1 := (by decide)) (h2 := (by decide))) (cwV 1 hts (gi_V qw418 qw419 qw420 qw324 (gi_z qw417)) rfl rfl rfl (by decide +kernel) ⟨Nat.le_of_ble_eq_true rfl, Nat.le_of_ble_eq_true rfl⟩) ⟨PRE.blind, STC.recv hE.2.2.2.2.2.2.2.2 hS, PRE.of hE hS hFc hPc hKc hDc⟩ rfl rfl hl.1 rfl (lv_room (Nat.le_of_ble_eq_true rfl)) dX19_init_101 ⟨Nat.le_of_ble_eq_true rfl, Nat.le_of_ble_eq_true rfl⟩) hS (fun q _ h => hFc q h) hFc (fun r121 u t H locs ht hvm hw hB hz1 hk1 hS => ?_)
  obtain ⟨hP, hD, hK⟩ := JOIN (wr := [(q2, .inl (c3, 1260, .inl f119)), (h0, .inr (16, [.ref h1, .int 0, .ref q1, .ref q2, .ref q4, .ref q6, .int 4, .int 22, .ref q8, .ref q10, .int 0, .int 0, .int 0, .int 0, .int 0, .int 0, .int 0, .int 0, .int 0, .int 0, .int 2147483647, .int 0, .int 2147483647])), (q4, .inl (c5, 610, .inl f110)), (q6, .inl (c7, 610, .inl f111))]) hP hD hK [] [0, 1, 2, 3] [0, 1, 2] rfl rfl (by decide) (by decide) rfl hk1 hFc ht hvm hB
  have hP : va_P (dC, dI) cls [(q2, .inl (c3, 1260, .inl f119)), (h0, .inr (16, [.ref h1, .int 0, .ref q1, .ref q2, .ref q4, .ref q6, .int 4, .int 22, .ref q8, .ref q10, .int 0, .int 0, .int 0, .int 0, .int 0, .int 0, .int 0, .int 0, .int 0, .int 0, .int 2147483647, .int 0, .int 2147483647])), (q4, .inl (c5, 610, .inl f110)), (q6, .inl (c7, 610, .inl f111))] H := hP
  have hD : va_D A [(q2, .inl (c3, 1260, .inl f119)), (h0, .inr (16, [.ref h1, .int 0, .ref q1, .ref q2, .ref q4, .ref q6, .int 4, .int 22, .ref q8, .ref q10, .int 0, .int 0, .int 0, .int 0, .int 0, .int 0, .int 0, .int 0, .int 0, .int 0, .int 2147483647, .int 0, .int 2147483647])), (q4, .inl (c5, 610, .inl f110)), (q6, .inl (c7, 610, .inl f111))] := hD
  have hK : va_K (dC, dI) cls [(c3, .int), (c5, .int), (c7, .int)] s := hK
  refine W.widen (k := 19) (n := 19730) (Nat.le_of_ble_eq_true rfl) (Nat.le_of_ble_eq_true rfl) ?_
  obtain rfl : r121 = (((((kb (Int32.toNatClampNeg 26)) &&& 255)).toUInt32 % 65536).toInt32) := hw
  refine lv_topC (y := 32) (by decide) ?_
  refine lv_bipush (v := 32) hx hb dX19_init_104 (by decide) ?_
  refine lv_icmp_eq (tgt := 135) hx hb dX19_init_106 (by decide) (fun _ => ?_) (fun c => absurd (by decide) c)
  refine lv_aload_n hx hb dX19_init_135 rfl (lv_at hl 2 rfl) ?_
  refine lv_iload_n hx hb dX19_init_136 rfl (lv_at hl 1 rfl) ?_
  have hPc := hP.sub (ws' := [(h0, .inr (16, [.ref h1, .int 0, .ref q1, .ref q2, .ref q4, .ref q6, .int 4, .int 22, .ref q8, .ref q10, .int 0, .int 0, .int 0, .int 0, .int 0, .int 0, .int 0, .int 0, .int 0, .int 0, .int 2147483647, .int 0, .int 2147483647])), (q4, .inl (c5, 610, .inl f110)), (q6, .inl (c7, 610, .inl f111))]) [1, 2, 3] rfl
  have hDc := hD.sub (ws' := [(h0, .inr (16, [.ref h1, .int 0, .ref q1, .ref q2, .ref q4, .ref q6, .int 4, .int 22, .ref q8, .ref q10, .int 0, .int 0, .int 0, .int 0, .int 0, .int 0, .int 0, .int 0, .int 0, .int 0, .int 2147483647, .int 0, .int 2147483647])), (q4, .inl (c5, 610, .inl f110)), (q6, .inl (c7, 610, .inl f111))]) [1, 2, 3] (by decide) rfl
  have hKc := hK.sub (tys' := [(c5, .int), (c7, .int)]) [1, 2] rfl
  have hFc := va_free (wc := [(h0, .inr (16, [.ref h1, .int 0, .ref q1, .ref q2, .ref q4, .ref q6, .int 4, .int 22, .ref q8, .ref q10, .int 0, .int 0, .int 0, .int 0, .int 0, .int 0, .int 0, .int 0, .int 0, .int 0, .int 2147483647, .int 0, .int 2147483647])), (q4, .inl (c5, 610, .inl f110)), (q6, .inl (c7, 610, .inl f111))]) hD hS hA [1, 2, 3] rfl
  refine va_calli (va_runV (As := [.int 20]) (rest := []) ⟨hx, hb, hml, hown, hts⟩ (kX19_keep_n30 l dC dI (a0 := h0) (a2 := q2) (a4 := h1) (a5 := q1) (a6 := q4) (a7 := q6) (a8 := q8) (a9 := q10) (F10 := f110) (k11 := c5) (F12 := f111) (k13 := c7) (sz := _)) (cwV 1 hts (gi_V qw424 qw425 qw426 qw427 (gi_z qw423)) rfl rfl rfl (by decide +kernel) ⟨Nat.le_of_ble_eq_true rfl, Nat.le_of_ble_eq_true rfl⟩) ⟨PRE.blind, va_recv hKc hPc (ci := 16) (q0 := 0) rfl rfl, PRE.of hE hS hFc hPc hKc hDc⟩ rfl rfl hl.1 rfl (lv_room (Nat.le_of_ble_eq_true rfl)) dX19_init_137 ⟨Nat.le_of_ble_eq_true rfl, Nat.le_of_ble_eq_true rfl⟩) hS (fun q _ h => hFc q h) hFc (fun r122 u t H locs ht hvm hw hB hz1 hk1 hS => ?_)
  obtain ⟨f123, f124, hB⟩ := hB
  obtain ⟨hP, hD, hK⟩ := JOIN (wr := [(q2, .inl (c3, 1260, .inl f119))]) hP hD hK [1, 2, 3] [0] [0] rfl rfl (by decide) (by decide) rfl hk1 hFc ht hvm hB
  have hP : va_P (dC, dI) cls [(q2, .inl (c3, 1260, .inl f119)), (h0, .inr (16, [.ref h1, .int 0, .ref q1, .ref q2, .ref q4, .ref q6, .int 5, .int 22, .ref q8, .ref q10, .int 0, .int 0, .int 0, .int 0, .int 0, .int 0, .int 0, .int 0, .int 0, .int 0, .int 2147483647, .int 0, .int 2147483647])), (q4, .inl (c5, 610, .inl f123)), (q6, .inl (c7, 610, .inl f124))] H := hP
  have hD : va_D A [(q2, .inl (c3, 1260, .inl f119)), (h0, .inr (16, [.ref h1, .int 0, .ref q1, .ref q2, .ref q4, .ref q6, .int 5, .int 22, .ref q8, .ref q10, .int 0, .int 0, .int 0, .int 0, .int 0, .int 0, .int 0, .int 0, .int 0, .int 0, .int 2147483647, .int 0, .int 2147483647])), (q4, .inl (c5, 610, .inl f123)), (q6, .inl (c7, 610, .inl f124))] := hD
  have hK : va_K (dC, dI) cls [(c3, .int), (c5, .int), (c7, .int)] s := hK
  refine W.widen (k := 19) (n := 19730) (Nat.le_of_ble_eq_true rfl) (Nat.le_of_ble_eq_true rfl) ?_
  obtain rfl : r122 = 4 := hw
  refine lv_pop hx hb dX19_init_140 rfl ?_
  refine lv_aload_n hx hb dX19_init_141 rfl (lv_at hl 2 rfl) ?_
  refine va_get (D := (dC, dI)) (ci := 16) (v := .int 22) (C := RX19) (T := TX19) (N := 23) hx hb hts i_X19 hown hK hP 1 rfl rfl 7 (by decide) (hts _ qw421) (fun _ h9 => h9) rfl dX19_init_142 ?_
  refine lv_istore_n (lv' := [(3, .int 22), (4, .int 26), (0, .ref h0), (1, .ref h1), (2, .int 0)]) hx hb dX19_init_145 rfl hl (by decide) rfl (fun ls hl => ?_)
  refine lv_iinc (v := 27) (lv' := [(4, .int 27), (3, .int 22), (0, .ref h0), (1, .ref h1), (2, .int 0)]) hx hb dX19_init_146 hl (k := 1) rfl (by decide) (by decide) rfl (fun ls hl => ?_)
  refine lv_goto (tgt := 87) hx hb dX19_init_149 (by decide) ?_
  refine lv_iload hx hb dX19_init_87 (lv_at hl 0 rfl) ?_
  refine va_ldcS hx hb hown hE.2.2.2.2.2.2.2.2.1 dX19_init_89 ?_
  have hPc := hP.sub (ws' := []) [] rfl
  have hDc := hD.sub (ws' := []) [] (by decide) rfl
  have hKc := hK.sub (tys' := []) [] rfl
  have hFc := va_free (wc := []) hD hS hA [] rfl
  refine va_calli (va_runV (As := []) (rest := [.int 27]) ⟨hx, hb, hml, hown, hts⟩ (kS_length l dC dI  (sz := _)) (cwV 0 hts (gi_V qw414 qw415 qw416 qw324 (gi_z qw413)) rfl rfl rfl (by decide +kernel) ⟨Nat.le_of_ble_eq_true rfl, Nat.le_of_ble_eq_true rfl⟩) ⟨PRE.blind, STC.recv hE.2.2.2.2.2.2.2.2 hS, PRE.of hE hS hFc hPc hKc hDc⟩ rfl rfl hl.1 rfl (lv_room (Nat.le_of_ble_eq_true rfl)) dX19_init_91 ⟨Nat.le_of_ble_eq_true rfl, Nat.le_of_ble_eq_true rfl⟩) hS (fun q _ h => hFc q h) hFc (fun r125 u t H locs ht hvm hw hB hz1 hk1 hS => ?_)
  obtain ⟨hP, hD, hK⟩ := JOIN (wr := [(q2, .inl (c3, 1260, .inl f119)), (h0, .inr (16, [.ref h1, .int 0, .ref q1, .ref q2, .ref q4, .ref q6, .int 5, .int 22, .ref q8, .ref q10, .int 0, .int 0, .int 0, .int 0, .int 0, .int 0, .int 0, .int 0, .int 0, .int 0, .int 2147483647, .int 0, .int 2147483647])), (q4, .inl (c5, 610, .inl f123)), (q6, .inl (c7, 610, .inl f124))]) hP hD hK [] [0, 1, 2, 3] [0, 1, 2] rfl rfl (by decide) (by decide) rfl hk1 hFc ht hvm hB
  have hP : va_P (dC, dI) cls [(q2, .inl (c3, 1260, .inl f119)), (h0, .inr (16, [.ref h1, .int 0, .ref q1, .ref q2, .ref q4, .ref q6, .int 5, .int 22, .ref q8, .ref q10, .int 0, .int 0, .int 0, .int 0, .int 0, .int 0, .int 0, .int 0, .int 0, .int 0, .int 2147483647, .int 0, .int 2147483647])), (q4, .inl (c5, 610, .inl f123)), (q6, .inl (c7, 610, .inl f124))] H := hP
  have hD : va_D A [(q2, .inl (c3, 1260, .inl f119)), (h0, .inr (16, [.ref h1, .int 0, .ref q1, .ref q2, .ref q4, .ref q6, .int 5, .int 22, .ref q8, .ref q10, .int 0, .int 0, .int 0, .int 0, .int 0, .int 0, .int 0, .int 0, .int 0, .int 0, .int 2147483647, .int 0, .int 2147483647])), (q4, .inl (c5, 610, .inl f123)), (q6, .inl (c7, 610, .inl f124))] := hD
  have hK : va_K (dC, dI) cls [(c3, .int), (c5, .int), (c7, .int)] s := hK
  refine W.widen (k := 19) (n := 19730) (Nat.le_of_ble_eq_true rfl) (Nat.le_of_ble_eq_true rfl) ?_
  obtain rfl : r125 = 44 := hw
  refine lv_icmp_ge (tgt := 152) hx hb dX19_init_94 (by decide) (fun c => absurd c (by decide)) (fun _ => ?_)
  refine va_ldcS hx hb hown hE.2.2.2.2.2.2.2.2.1 dX19_init_97 ?_
  refine lv_iload hx hb dX19_init_99 (lv_at hl 0 rfl) ?_
  have hPc := hP.sub (ws' := []) [] rfl
  have hDc := hD.sub (ws' := []) [] (by decide) rfl
  have hKc := hK.sub (tys' := []) [] rfl
  have hFc := va_free (wc := []) hD hS hA [] rfl
  refine va_calli (va_runV (As := [.int 27]) (rest := []) ⟨hx, hb, hml, hown, hts⟩ (kS_charAt l dC dI (p0 := 27) (sz := _) (h1 := (by decide)) (h2 := (by decide))) (cwV 1 hts (gi_V qw418 qw419 qw420 qw324 (gi_z qw417)) rfl rfl rfl (by decide +kernel) ⟨Nat.le_of_ble_eq_true rfl, Nat.le_of_ble_eq_true rfl⟩) ⟨PRE.blind, STC.recv hE.2.2.2.2.2.2.2.2 hS, PRE.of hE hS hFc hPc hKc hDc⟩ rfl rfl hl.1 rfl (lv_room (Nat.le_of_ble_eq_true rfl)) dX19_init_101 ⟨Nat.le_of_ble_eq_true rfl, Nat.le_of_ble_eq_true rfl⟩) hS (fun q _ h => hFc q h) hFc (fun r126 u t H locs ht hvm hw hB hz1 hk1 hS => ?_)
  obtain ⟨hP, hD, hK⟩ := JOIN (wr := [(q2, .inl (c3, 1260, .inl f119)), (h0, .inr (16, [.ref h1, .int 0, .ref q1, .ref q2, .ref q4, .ref q6, .int 5, .int 22, .ref q8, .ref q10, .int 0, .int 0, .int 0, .int 0, .int 0, .int 0, .int 0, .int 0, .int 0, .int 0, .int 2147483647, .int 0, .int 2147483647])), (q4, .inl (c5, 610, .inl f123)), (q6, .inl (c7, 610, .inl f124))]) hP hD hK [] [0, 1, 2, 3] [0, 1, 2] rfl rfl (by decide) (by decide) rfl hk1 hFc ht hvm hB
  have hP : va_P (dC, dI) cls [(q2, .inl (c3, 1260, .inl f119)), (h0, .inr (16, [.ref h1, .int 0, .ref q1, .ref q2, .ref q4, .ref q6, .int 5, .int 22, .ref q8, .ref q10, .int 0, .int 0, .int 0, .int 0, .int 0, .int 0, .int 0, .int 0, .int 0, .int 0, .int 2147483647, .int 0, .int 2147483647])), (q4, .inl (c5, 610, .inl f123)), (q6, .inl (c7, 610, .inl f124))] H := hP
  have hD : va_D A [(q2, .inl (c3, 1260, .inl f119)), (h0, .inr (16, [.ref h1, .int 0, .ref q1, .ref q2, .ref q4, .ref q6, .int 5, .int 22, .ref q8, .ref q10, .int 0, .int 0, .int 0, .int 0, .int 0, .int 0, .int 0, .int 0, .int 0, .int 0, .int 2147483647, .int 0, .int 2147483647])), (q4, .inl (c5, 610, .inl f123)), (q6, .inl (c7, 610, .inl f124))] := hD
  have hK : va_K (dC, dI) cls [(c3, .int), (c5, .int), (c7, .int)] s := hK
  refine W.widen (k := 19) (n := 19730) (Nat.le_of_ble_eq_true rfl) (Nat.le_of_ble_eq_true rfl) ?_
  obtain rfl : r126 = (((((kb (Int32.toNatClampNeg 27)) &&& 255)).toUInt32 % 65536).toInt32) := hw
  refine lv_topC (y := 114) (by decide) ?_
  refine lv_bipush (v := 32) hx hb dX19_init_104 (by decide) ?_
  refine lv_icmp_eq (tgt := 135) hx hb dX19_init_106 (by decide) (fun c => absurd c (by decide)) (fun _ => ?_)
  refine lv_aload_n hx hb dX19_init_109 rfl (lv_at hl 2 rfl) ?_
  refine va_get (D := (dC, dI)) (ci := 16) (v := .ref q2) (C := RX19) (T := TX19) (N := 23) hx hb hts i_X19 hown hK hP 1 rfl rfl 3 (by decide) (hts _ qw403) (fun _ h9 => h9) rfl dX19_init_110 ?_
  refine lv_aload_n hx hb dX19_init_113 rfl (lv_at hl 2 rfl) ?_
  refine lv_dup hx hb dX19_init_114 rfl ?_
  refine va_get (D := (dC, dI)) (ci := 16) (v := .int 22) (C := RX19) (T := TX19) (N := 23) hx hb hts i_X19 hown hK hP 1 rfl rfl 7 (by decide) (hts _ qw421) (fun _ h9 => h9) rfl dX19_init_115 ?_
  refine lv_dup_x1 hx hb dX19_init_118 rfl rfl ?_
  refine lv_iconst (v := 1) hx hb dX19_init_119 (by decide) ?_
  refine lv_iadd hx hb dX19_init_120 ?_
  refine lv_topC (y := 23) (by decide) ?_
  refine va_put (D := (dC, dI)) (ci := 16) (v := .int 23) (ty := .int) (C := RX19) (T := TX19) (N := 23) hx hb hts i_X19 tyX19 tyX19_ok nmX19 hown hK hP hD hS 1 rfl rfl 7 (by decide) (hts _ qw421) (fun _ h9 => h9) rfl (by decide +kernel) rfl rfl (Nat.le_of_ble_eq_true rfl) dX19_init_121 (fun H locs hP hD hS => ?_)
  have hP : va_P (dC, dI) cls [(q2, .inl (c3, 1260, .inl f119)), (h0, .inr (16, [.ref h1, .int 0, .ref q1, .ref q2, .ref q4, .ref q6, .int 5, .int 23, .ref q8, .ref q10, .int 0, .int 0, .int 0, .int 0, .int 0, .int 0, .int 0, .int 0, .int 0, .int 0, .int 2147483647, .int 0, .int 2147483647])), (q4, .inl (c5, 610, .inl f123)), (q6, .inl (c7, 610, .inl f124))] H := hP
  have hD : va_D A [(q2, .inl (c3, 1260, .inl f119)), (h0, .inr (16, [.ref h1, .int 0, .ref q1, .ref q2, .ref q4, .ref q6, .int 5, .int 23, .ref q8, .ref q10, .int 0, .int 0, .int 0, .int 0, .int 0, .int 0, .int 0, .int 0, .int 0, .int 0, .int 2147483647, .int 0, .int 2147483647])), (q4, .inl (c5, 610, .inl f123)), (q6, .inl (c7, 610, .inl f124))] := hD
  refine va_ldcS hx hb hown hE.2.2.2.2.2.2.2.2.1 dX19_init_124 ?_
  refine lv_iload hx hb dX19_init_126 (lv_at hl 0 rfl) ?_
  have hPc := hP.sub (ws' := []) [] rfl
  have hDc := hD.sub (ws' := []) [] (by decide) rfl
  have hKc := hK.sub (tys' := []) [] rfl
  have hFc := va_free (wc := []) hD hS hA [] rfl
  refine va_calli (va_runV (As := [.int 27]) (rest := [.int 22, .ref q2]) ⟨hx, hb, hml, hown, hts⟩ (kS_charAt l dC dI (p0 := 27) (sz := _) (h1 := (by decide)) (h2 := (by decide))) (cwV 1 hts (gi_V qw418 qw419 qw420 qw324 (gi_z qw417)) rfl rfl rfl (by decide +kernel) ⟨Nat.le_of_ble_eq_true rfl, Nat.le_of_ble_eq_true rfl⟩) ⟨PRE.blind, STC.recv hE.2.2.2.2.2.2.2.2 hS, PRE.of hE hS hFc hPc hKc hDc⟩ rfl rfl hl.1 rfl (lv_room (Nat.le_of_ble_eq_true rfl)) dX19_init_128 ⟨Nat.le_of_ble_eq_true rfl, Nat.le_of_ble_eq_true rfl⟩) hS (fun q _ h => hFc q h) hFc (fun r127 u t H locs ht hvm hw hB hz1 hk1 hS => ?_)
  obtain ⟨hP, hD, hK⟩ := JOIN (wr := [(q2, .inl (c3, 1260, .inl f119)), (h0, .inr (16, [.ref h1, .int 0, .ref q1, .ref q2, .ref q4, .ref q6, .int 5, .int 23, .ref q8, .ref q10, .int 0, .int 0, .int 0, .int 0, .int 0, .int 0, .int 0, .int 0, .int 0, .int 0, .int 2147483647, .int 0, .int 2147483647])), (q4, .inl (c5, 610, .inl f123)), (q6, .inl (c7, 610, .inl f124))]) hP hD hK [] [0, 1, 2, 3] [0, 1, 2] rfl rfl (by decide) (by decide) rfl hk1 hFc ht hvm hB
  have hP : va_P (dC, dI) cls [(q2, .inl (c3, 1260, .inl f119)), (h0, .inr (16, [.ref h1, .int 0, .ref q1, .ref q2, .ref q4, .ref q6, .int 5, .int 23, .ref q8, .ref q10, .int 0, .int 0, .int 0, .int 0, .int 0, .int 0, .int 0, .int 0, .int 0, .int 0, .int 2147483647, .int 0, .int 2147483647])), (q4, .inl (c5, 610, .inl f123)), (q6, .inl (c7, 610, .inl f124))] H := hP
  have hD : va_D A [(q2, .inl (c3, 1260, .inl f119)), (h0, .inr (16, [.ref h1, .int 0, .ref q1, .ref q2, .ref q4, .ref q6, .int 5, .int 23, .ref q8, .ref q10, .int 0, .int 0, .int 0, .int 0, .int 0, .int 0, .int 0, .int 0, .int 0, .int 0, .int 2147483647, .int 0, .int 2147483647])), (q4, .inl (c5, 610, .inl f123)), (q6, .inl (c7, 610, .inl f124))] := hD
  have hK : va_K (dC, dI) cls [(c3, .int), (c5, .int), (c7, .int)] s := hK
  refine W.widen (k := 19) (n := 19730) (Nat.le_of_ble_eq_true rfl) (Nat.le_of_ble_eq_true rfl) ?_
  obtain rfl : r127 = (((((kb (Int32.toNatClampNeg 27)) &&& 255)).toUInt32 % 65536).toInt32) := hw
  refine lv_topC (y := 114) (by decide) ?_
  refine va_iast hx hb hK hP hD hS 0 0 rfl rfl (by unfold vp_in; decide +kernel) dX19_init_131 (fun H locs hP hD hS => ?_)
  have hP : va_P (dC, dI) cls [(q2, .inl (c3, 1260, .inl (upd f119 (Int32.toNatClampNeg 22) 114))), (h0, .inr (16, [.ref h1, .int 0, .ref q1, .ref q2, .ref q4, .ref q6, .int 5, .int 23, .ref q8, .ref q10, .int 0, .int 0, .int 0, .int 0, .int 0, .int 0, .int 0, .int 0, .int 0, .int 0, .int 2147483647, .int 0, .int 2147483647])), (q4, .inl (c5, 610, .inl f123)), (q6, .inl (c7, 610, .inl f124))] H := hP
  have hD : va_D A [(q2, .inl (c3, 1260, .inl (upd f119 (Int32.toNatClampNeg 22) 114))), (h0, .inr (16, [.ref h1, .int 0, .ref q1, .ref q2, .ref q4, .ref q6, .int 5, .int 23, .ref q8, .ref q10, .int 0, .int 0, .int 0, .int 0, .int 0, .int 0, .int 0, .int 0, .int 0, .int 0, .int 2147483647, .int 0, .int 2147483647])), (q4, .inl (c5, 610, .inl f123)), (q6, .inl (c7, 610, .inl f124))] := hD
  generalize upd f119 (Int32.toNatClampNeg 22) 114 = f128 at hP hD
  refine lv_goto (tgt := 146) hx hb dX19_init_132 (by decide) ?_
  refine lv_iinc (v := 28) (lv' := [(4, .int 28), (3, .int 22), (0, .ref h0), (1, .ref h1), (2, .int 0)]) hx hb dX19_init_146 hl (k := 0) rfl (by decide) (by decide) rfl (fun ls hl => ?_)
  refine lv_goto (tgt := 87) hx hb dX19_init_149 (by decide) ?_
  refine lv_iload hx hb dX19_init_87 (lv_at hl 0 rfl) ?_
  refine va_ldcS hx hb hown hE.2.2.2.2.2.2.2.2.1 dX19_init_89 ?_
  have hPc := hP.sub (ws' := []) [] rfl
  have hDc := hD.sub (ws' := []) [] (by decide) rfl
  have hKc := hK.sub (tys' := []) [] rfl
  have hFc := va_free (wc := []) hD hS hA [] rfl
  refine va_calli (va_runV (As := []) (rest := [.int 28]) ⟨hx, hb, hml, hown, hts⟩ (kS_length l dC dI  (sz := _)) (cwV 0 hts (gi_V qw414 qw415 qw416 qw324 (gi_z qw413)) rfl rfl rfl (by decide +kernel) ⟨Nat.le_of_ble_eq_true rfl, Nat.le_of_ble_eq_true rfl⟩) ⟨PRE.blind, STC.recv hE.2.2.2.2.2.2.2.2 hS, PRE.of hE hS hFc hPc hKc hDc⟩ rfl rfl hl.1 rfl (lv_room (Nat.le_of_ble_eq_true rfl)) dX19_init_91 ⟨Nat.le_of_ble_eq_true rfl, Nat.le_of_ble_eq_true rfl⟩) hS (fun q _ h => hFc q h) hFc (fun r129 u t H locs ht hvm hw hB hz1 hk1 hS => ?_)
  obtain ⟨hP, hD, hK⟩ := JOIN (wr := [(q2, .inl (c3, 1260, .inl f128)), (h0, .inr (16, [.ref h1, .int 0, .ref q1, .ref q2, .ref q4, .ref q6, .int 5, .int 23, .ref q8, .ref q10, .int 0, .int 0, .int 0, .int 0, .int 0, .int 0, .int 0, .int 0, .int 0, .int 0, .int 2147483647, .int 0, .int 2147483647])), (q4, .inl (c5, 610, .inl f123)), (q6, .inl (c7, 610, .inl f124))]) hP hD hK [] [0, 1, 2, 3] [0, 1, 2] rfl rfl (by decide) (by decide) rfl hk1 hFc ht hvm hB
  have hP : va_P (dC, dI) cls [(q2, .inl (c3, 1260, .inl f128)), (h0, .inr (16, [.ref h1, .int 0, .ref q1, .ref q2, .ref q4, .ref q6, .int 5, .int 23, .ref q8, .ref q10, .int 0, .int 0, .int 0, .int 0, .int 0, .int 0, .int 0, .int 0, .int 0, .int 0, .int 2147483647, .int 0, .int 2147483647])), (q4, .inl (c5, 610, .inl f123)), (q6, .inl (c7, 610, .inl f124))] H := hP
  have hD : va_D A [(q2, .inl (c3, 1260, .inl f128)), (h0, .inr (16, [.ref h1, .int 0, .ref q1, .ref q2, .ref q4, .ref q6, .int 5, .int 23, .ref q8, .ref q10, .int 0, .int 0, .int 0, .int 0, .int 0, .int 0, .int 0, .int 0, .int 0, .int 0, .int 2147483647, .int 0, .int 2147483647])), (q4, .inl (c5, 610, .inl f123)), (q6, .inl (c7, 610, .inl f124))] := hD
  have hK : va_K (dC, dI) cls [(c3, .int), (c5, .int), (c7, .int)] s := hK
  refine W.widen (k := 19) (n := 19730) (Nat.le_of_ble_eq_true rfl) (Nat.le_of_ble_eq_true rfl) ?_
  obtain rfl : r129 = 44 := hw
  refine lv_icmp_ge (tgt := 152) hx hb dX19_init_94 (by decide) (fun c => absurd c (by decide)) (fun _ => ?_)
  refine va_ldcS hx hb hown hE.2.2.2.2.2.2.2.2.1 dX19_init_97 ?_
  refine lv_iload hx hb dX19_init_99 (lv_at hl 0 rfl) ?_
  have hPc := hP.sub (ws' := []) [] rfl
  have hDc := hD.sub (ws' := []) [] (by decide) rfl
  have hKc := hK.sub (tys' := []) [] rfl
  have hFc := va_free (wc := []) hD hS hA [] rfl
  refine va_calli (va_runV (As := [.int 28]) (rest := []) ⟨hx, hb, hml, hown, hts⟩ (kS_charAt l dC dI (p0 := 28) (sz := _) (h1 := (by decide)) (h2 := (by decide))) (cwV 1 hts (gi_V qw418 qw419 qw420 qw324 (gi_z qw417)) rfl rfl rfl (by decide +kernel) ⟨Nat.le_of_ble_eq_true rfl, Nat.le_of_ble_eq_true rfl⟩) ⟨PRE.blind, STC.recv hE.2.2.2.2.2.2.2.2 hS, PRE.of hE hS hFc hPc hKc hDc⟩ rfl rfl hl.1 rfl (lv_room (Nat.le_of_ble_eq_true rfl)) dX19_init_101 ⟨Nat.le_of_ble_eq_true rfl, Nat.le_of_ble_eq_true rfl⟩) hS (fun q _ h => hFc q h) hFc (fun r130 u t H locs ht hvm hw hB hz1 hk1 hS => ?_)
  obtain ⟨hP, hD, hK⟩ := JOIN (wr := [(q2, .inl (c3, 1260, .inl f128)), (h0, .inr (16, [.ref h1, .int 0, .ref q1, .ref q2, .ref q4, .ref q6, .int 5, .int 23, .ref q8, .ref q10, .int 0, .int 0, .int 0, .int 0, .int 0, .int 0, .int 0, .int 0, .int 0, .int 0, .int 2147483647, .int 0, .int 2147483647])), (q4, .inl (c5, 610, .inl f123)), (q6, .inl (c7, 610, .inl f124))]) hP hD hK [] [0, 1, 2, 3] [0, 1, 2] rfl rfl (by decide) (by decide) rfl hk1 hFc ht hvm hB
  have hP : va_P (dC, dI) cls [(q2, .inl (c3, 1260, .inl f128)), (h0, .inr (16, [.ref h1, .int 0, .ref q1, .ref q2, .ref q4, .ref q6, .int 5, .int 23, .ref q8, .ref q10, .int 0, .int 0, .int 0, .int 0, .int 0, .int 0, .int 0, .int 0, .int 0, .int 0, .int 2147483647, .int 0, .int 2147483647])), (q4, .inl (c5, 610, .inl f123)), (q6, .inl (c7, 610, .inl f124))] H := hP
  have hD : va_D A [(q2, .inl (c3, 1260, .inl f128)), (h0, .inr (16, [.ref h1, .int 0, .ref q1, .ref q2, .ref q4, .ref q6, .int 5, .int 23, .ref q8, .ref q10, .int 0, .int 0, .int 0, .int 0, .int 0, .int 0, .int 0, .int 0, .int 0, .int 0, .int 2147483647, .int 0, .int 2147483647])), (q4, .inl (c5, 610, .inl f123)), (q6, .inl (c7, 610, .inl f124))] := hD
  have hK : va_K (dC, dI) cls [(c3, .int), (c5, .int), (c7, .int)] s := hK
  refine W.widen (k := 19) (n := 19730) (Nat.le_of_ble_eq_true rfl) (Nat.le_of_ble_eq_true rfl) ?_
  obtain rfl : r130 = (((((kb (Int32.toNatClampNeg 28)) &&& 255)).toUInt32 % 65536).toInt32) := hw
  refine lv_topC (y := 101) (by decide) ?_
  refine lv_bipush (v := 32) hx hb dX19_init_104 (by decide) ?_
  refine lv_icmp_eq (tgt := 135) hx hb dX19_init_106 (by decide) (fun c => absurd c (by decide)) (fun _ => ?_)
  refine lv_aload_n hx hb dX19_init_109 rfl (lv_at hl 2 rfl) ?_
  refine va_get (D := (dC, dI)) (ci := 16) (v := .ref q2) (C := RX19) (T := TX19) (N := 23) hx hb hts i_X19 hown hK hP 1 rfl rfl 3 (by decide) (hts _ qw403) (fun _ h9 => h9) rfl dX19_init_110 ?_
  refine lv_aload_n hx hb dX19_init_113 rfl (lv_at hl 2 rfl) ?_
  refine lv_dup hx hb dX19_init_114 rfl ?_
  refine va_get (D := (dC, dI)) (ci := 16) (v := .int 23) (C := RX19) (T := TX19) (N := 23) hx hb hts i_X19 hown hK hP 1 rfl rfl 7 (by decide) (hts _ qw421) (fun _ h9 => h9) rfl dX19_init_115 ?_
  refine lv_dup_x1 hx hb dX19_init_118 rfl rfl ?_
  refine lv_iconst (v := 1) hx hb dX19_init_119 (by decide) ?_
  refine lv_iadd hx hb dX19_init_120 ?_
  refine lv_topC (y := 24) (by decide) ?_
  refine va_put (D := (dC, dI)) (ci := 16) (v := .int 24) (ty := .int) (C := RX19) (T := TX19) (N := 23) hx hb hts i_X19 tyX19 tyX19_ok nmX19 hown hK hP hD hS 1 rfl rfl 7 (by decide) (hts _ qw421) (fun _ h9 => h9) rfl (by decide +kernel) rfl rfl (Nat.le_of_ble_eq_true rfl) dX19_init_121 (fun H locs hP hD hS => ?_)
  have hP : va_P (dC, dI) cls [(q2, .inl (c3, 1260, .inl f128)), (h0, .inr (16, [.ref h1, .int 0, .ref q1, .ref q2, .ref q4, .ref q6, .int 5, .int 24, .ref q8, .ref q10, .int 0, .int 0, .int 0, .int 0, .int 0, .int 0, .int 0, .int 0, .int 0, .int 0, .int 2147483647, .int 0, .int 2147483647])), (q4, .inl (c5, 610, .inl f123)), (q6, .inl (c7, 610, .inl f124))] H := hP
  have hD : va_D A [(q2, .inl (c3, 1260, .inl f128)), (h0, .inr (16, [.ref h1, .int 0, .ref q1, .ref q2, .ref q4, .ref q6, .int 5, .int 24, .ref q8, .ref q10, .int 0, .int 0, .int 0, .int 0, .int 0, .int 0, .int 0, .int 0, .int 0, .int 0, .int 2147483647, .int 0, .int 2147483647])), (q4, .inl (c5, 610, .inl f123)), (q6, .inl (c7, 610, .inl f124))] := hD
  refine va_ldcS hx hb hown hE.2.2.2.2.2.2.2.2.1 dX19_init_124 ?_
  refine lv_iload hx hb dX19_init_126 (lv_at hl 0 rfl) ?_
  have hPc := hP.sub (ws' := []) [] rfl
  have hDc := hD.sub (ws' := []) [] (by decide) rfl
  have hKc := hK.sub (tys' := []) [] rfl
  have hFc := va_free (wc := []) hD hS hA [] rfl
  refine va_calli (va_runV (As := [.int 28]) (rest := [.int 23, .ref q2]) ⟨hx, hb, hml, hown, hts⟩ (kS_charAt l dC dI (p0 := 28) (sz := _) (h1 := (by decide)) (h2 := (by decide))) (cwV 1 hts (gi_V qw418 qw419 qw420 qw324 (gi_z qw417)) rfl rfl rfl (by decide +kernel) ⟨Nat.le_of_ble_eq_true rfl, Nat.le_of_ble_eq_true rfl⟩) ⟨PRE.blind, STC.recv hE.2.2.2.2.2.2.2.2 hS, PRE.of hE hS hFc hPc hKc hDc⟩ rfl rfl hl.1 rfl (lv_room (Nat.le_of_ble_eq_true rfl)) dX19_init_128 ⟨Nat.le_of_ble_eq_true rfl, Nat.le_of_ble_eq_true rfl⟩) hS (fun q _ h => hFc q h) hFc (fun r131 u t H locs ht hvm hw hB hz1 hk1 hS => ?_)
  obtain ⟨hP, hD, hK⟩ := JOIN (wr := [(q2, .inl (c3, 1260, .inl f128)), (h0, .inr (16, [.ref h1, .int 0, .ref q1, .ref q2, .ref q4, .ref q6, .int 5, .int 24, .ref q8, .ref q10, .int 0, .int 0, .int 0, .int 0, .int 0, .int 0, .int 0, .int 0, .int 0, .int 0, .int 2147483647, .int 0, .int 2147483647])), (q4, .inl (c5, 610, .inl f123)), (q6, .inl (c7, 610, .inl f124))]) hP hD hK [] [0, 1, 2, 3] [0, 1, 2] rfl rfl (by decide) (by decide) rfl hk1 hFc ht hvm hB
  have hP : va_P (dC, dI) cls [(q2, .inl (c3, 1260, .inl f128)), (h0, .inr (16, [.ref h1, .int 0, .ref q1, .ref q2, .ref q4, .ref q6, .int 5, .int 24, .ref q8, .ref q10, .int 0, .int 0, .int 0, .int 0, .int 0, .int 0, .int 0, .int 0, .int 0, .int 0, .int 2147483647, .int 0, .int 2147483647])), (q4, .inl (c5, 610, .inl f123)), (q6, .inl (c7, 610, .inl f124))] H := hP
  have hD : va_D A [(q2, .inl (c3, 1260, .inl f128)), (h0, .inr (16, [.ref h1, .int 0, .ref q1, .ref q2, .ref q4, .ref q6, .int 5, .int 24, .ref q8, .ref q10, .int 0, .int 0, .int 0, .int 0, .int 0, .int 0, .int 0, .int 0, .int 0, .int 0, .int 2147483647, .int 0, .int 2147483647])), (q4, .inl (c5, 610, .inl f123)), (q6, .inl (c7, 610, .inl f124))] := hD
  have hK : va_K (dC, dI) cls [(c3, .int), (c5, .int), (c7, .int)] s := hK
  refine W.widen (k := 19) (n := 19730) (Nat.le_of_ble_eq_true rfl) (Nat.le_of_ble_eq_true rfl) ?_
  obtain rfl : r131 = (((((kb (Int32.toNatClampNeg 28)) &&& 255)).toUInt32 % 65536).toInt32) := hw
  refine lv_topC (y := 101) (by decide) ?_
  refine va_iast hx hb hK hP hD hS 0 0 rfl rfl (by unfold vp_in; decide +kernel) dX19_init_131 (fun H locs hP hD hS => ?_)
  have hP : va_P (dC, dI) cls [(q2, .inl (c3, 1260, .inl (upd f128 (Int32.toNatClampNeg 23) 101))), (h0, .inr (16, [.ref h1, .int 0, .ref q1, .ref q2, .ref q4, .ref q6, .int 5, .int 24, .ref q8, .ref q10, .int 0, .int 0, .int 0, .int 0, .int 0, .int 0, .int 0, .int 0, .int 0, .int 0, .int 2147483647, .int 0, .int 2147483647])), (q4, .inl (c5, 610, .inl f123)), (q6, .inl (c7, 610, .inl f124))] H := hP
  have hD : va_D A [(q2, .inl (c3, 1260, .inl (upd f128 (Int32.toNatClampNeg 23) 101))), (h0, .inr (16, [.ref h1, .int 0, .ref q1, .ref q2, .ref q4, .ref q6, .int 5, .int 24, .ref q8, .ref q10, .int 0, .int 0, .int 0, .int 0, .int 0, .int 0, .int 0, .int 0, .int 0, .int 0, .int 2147483647, .int 0, .int 2147483647])), (q4, .inl (c5, 610, .inl f123)), (q6, .inl (c7, 610, .inl f124))] := hD
  generalize upd f128 (Int32.toNatClampNeg 23) 101 = f132 at hP hD
  refine lv_goto (tgt := 146) hx hb dX19_init_132 (by decide) ?_
  refine lv_iinc (v := 29) (lv' := [(4, .int 29), (3, .int 22), (0, .ref h0), (1, .ref h1), (2, .int 0)]) hx hb dX19_init_146 hl (k := 0) rfl (by decide) (by decide) rfl (fun ls hl => ?_)
  refine lv_goto (tgt := 87) hx hb dX19_init_149 (by decide) ?_
  refine lv_iload hx hb dX19_init_87 (lv_at hl 0 rfl) ?_
  refine va_ldcS hx hb hown hE.2.2.2.2.2.2.2.2.1 dX19_init_89 ?_
  have hPc := hP.sub (ws' := []) [] rfl
  have hDc := hD.sub (ws' := []) [] (by decide) rfl
  have hKc := hK.sub (tys' := []) [] rfl
  have hFc := va_free (wc := []) hD hS hA [] rfl
  refine va_calli (va_runV (As := []) (rest := [.int 29]) ⟨hx, hb, hml, hown, hts⟩ (kS_length l dC dI  (sz := _)) (cwV 0 hts (gi_V qw414 qw415 qw416 qw324 (gi_z qw413)) rfl rfl rfl (by decide +kernel) ⟨Nat.le_of_ble_eq_true rfl, Nat.le_of_ble_eq_true rfl⟩) ⟨PRE.blind, STC.recv hE.2.2.2.2.2.2.2.2 hS, PRE.of hE hS hFc hPc hKc hDc⟩ rfl rfl hl.1 rfl (lv_room (Nat.le_of_ble_eq_true rfl)) dX19_init_91 ⟨Nat.le_of_ble_eq_true rfl, Nat.le_of_ble_eq_true rfl⟩) hS (fun q _ h => hFc q h) hFc (fun r133 u t H locs ht hvm hw hB hz1 hk1 hS => ?_)
  obtain ⟨hP, hD, hK⟩ := JOIN (wr := [(q2, .inl (c3, 1260, .inl f132)), (h0, .inr (16, [.ref h1, .int 0, .ref q1, .ref q2, .ref q4, .ref q6, .int 5, .int 24, .ref q8, .ref q10, .int 0, .int 0, .int 0, .int 0, .int 0, .int 0, .int 0, .int 0, .int 0, .int 0, .int 2147483647, .int 0, .int 2147483647])), (q4, .inl (c5, 610, .inl f123)), (q6, .inl (c7, 610, .inl f124))]) hP hD hK [] [0, 1, 2, 3] [0, 1, 2] rfl rfl (by decide) (by decide) rfl hk1 hFc ht hvm hB
  have hP : va_P (dC, dI) cls [(q2, .inl (c3, 1260, .inl f132)), (h0, .inr (16, [.ref h1, .int 0, .ref q1, .ref q2, .ref q4, .ref q6, .int 5, .int 24, .ref q8, .ref q10, .int 0, .int 0, .int 0, .int 0, .int 0, .int 0, .int 0, .int 0, .int 0, .int 0, .int 2147483647, .int 0, .int 2147483647])), (q4, .inl (c5, 610, .inl f123)), (q6, .inl (c7, 610, .inl f124))] H := hP
  have hD : va_D A [(q2, .inl (c3, 1260, .inl f132)), (h0, .inr (16, [.ref h1, .int 0, .ref q1, .ref q2, .ref q4, .ref q6, .int 5, .int 24, .ref q8, .ref q10, .int 0, .int 0, .int 0, .int 0, .int 0, .int 0, .int 0, .int 0, .int 0, .int 0, .int 2147483647, .int 0, .int 2147483647])), (q4, .inl (c5, 610, .inl f123)), (q6, .inl (c7, 610, .inl f124))] := hD
  have hK : va_K (dC, dI) cls [(c3, .int), (c5, .int), (c7, .int)] s := hK
  refine W.widen (k := 19) (n := 19730) (Nat.le_of_ble_eq_true rfl) (Nat.le_of_ble_eq_true rfl) ?_
  obtain rfl : r133 = 44 := hw
  refine lv_icmp_ge (tgt := 152) hx hb dX19_init_94 (by decide) (fun c => absurd c (by decide)) (fun _ => ?_)
  refine va_ldcS hx hb hown hE.2.2.2.2.2.2.2.2.1 dX19_init_97 ?_
  refine lv_iload hx hb dX19_init_99 (lv_at hl 0 rfl) ?_
  have hPc := hP.sub (ws' := []) [] rfl
  have hDc := hD.sub (ws' := []) [] (by decide) rfl
  have hKc := hK.sub (tys' := []) [] rfl
  have hFc := va_free (wc := []) hD hS hA [] rfl
  refine va_calli (va_runV (As := [.int 29]) (rest := []) ⟨hx, hb, hml, hown, hts⟩ (kS_charAt l dC dI (p0 := 29) (sz := _) (h1 := (by decide)) (h2 := (by decide))) (cwV 1 hts (gi_V qw418 qw419 qw420 qw324 (gi_z qw417)) rfl rfl rfl (by decide +kernel) ⟨Nat.le_of_ble_eq_true rfl, Nat.le_of_ble_eq_true rfl⟩) ⟨PRE.blind, STC.recv hE.2.2.2.2.2.2.2.2 hS, PRE.of hE hS hFc hPc hKc hDc⟩ rfl rfl hl.1 rfl (lv_room (Nat.le_of_ble_eq_true rfl)) dX19_init_101 ⟨Nat.le_of_ble_eq_true rfl, Nat.le_of_ble_eq_true rfl⟩) hS (fun q _ h => hFc q h) hFc (fun r134 u t H locs ht hvm hw hB hz1 hk1 hS => ?_)
  obtain ⟨hP, hD, hK⟩ := JOIN (wr := [(q2, .inl (c3, 1260, .inl f132)), (h0, .inr (16, [.ref h1, .int 0, .ref q1, .ref q2, .ref q4, .ref q6, .int 5, .int 24, .ref q8, .ref q10, .int 0, .int 0, .int 0, .int 0, .int 0, .int 0, .int 0, .int 0, .int 0, .int 0, .int 2147483647, .int 0, .int 2147483647])), (q4, .inl (c5, 610, .inl f123)), (q6, .inl (c7, 610, .inl f124))]) hP hD hK [] [0, 1, 2, 3] [0, 1, 2] rfl rfl (by decide) (by decide) rfl hk1 hFc ht hvm hB
  have hP : va_P (dC, dI) cls [(q2, .inl (c3, 1260, .inl f132)), (h0, .inr (16, [.ref h1, .int 0, .ref q1, .ref q2, .ref q4, .ref q6, .int 5, .int 24, .ref q8, .ref q10, .int 0, .int 0, .int 0, .int 0, .int 0, .int 0, .int 0, .int 0, .int 0, .int 0, .int 2147483647, .int 0, .int 2147483647])), (q4, .inl (c5, 610, .inl f123)), (q6, .inl (c7, 610, .inl f124))] H := hP
  have hD : va_D A [(q2, .inl (c3, 1260, .inl f132)), (h0, .inr (16, [.ref h1, .int 0, .ref q1, .ref q2, .ref q4, .ref q6, .int 5, .int 24, .ref q8, .ref q10, .int 0, .int 0, .int 0, .int 0, .int 0, .int 0, .int 0, .int 0, .int 0, .int 0, .int 2147483647, .int 0, .int 2147483647])), (q4, .inl (c5, 610, .inl f123)), (q6, .inl (c7, 610, .inl f124))] := hD
  have hK : va_K (dC, dI) cls [(c3, .int), (c5, .int), (c7, .int)] s := hK
  refine W.widen (k := 19) (n := 19730) (Nat.le_of_ble_eq_true rfl) (Nat.le_of_ble_eq_true rfl) ?_
  obtain rfl : r134 = (((((kb (Int32.toNatClampNeg 29)) &&& 255)).toUInt32 % 65536).toInt32) := hw
  refine lv_topC (y := 116) (by decide) ?_
  refine lv_bipush (v := 32) hx hb dX19_init_104 (by decide) ?_
  refine lv_icmp_eq (tgt := 135) hx hb dX19_init_106 (by decide) (fun c => absurd c (by decide)) (fun _ => ?_)
  refine lv_aload_n hx hb dX19_init_109 rfl (lv_at hl 2 rfl) ?_
  refine va_get (D := (dC, dI)) (ci := 16) (v := .ref q2) (C := RX19) (T := TX19) (N := 23) hx hb hts i_X19 hown hK hP 1 rfl rfl 3 (by decide) (hts _ qw403) (fun _ h9 => h9) rfl dX19_init_110 ?_
  refine lv_aload_n hx hb dX19_init_113 rfl (lv_at hl 2 rfl) ?_
  refine lv_dup hx hb dX19_init_114 rfl ?_
  refine va_get (D := (dC, dI)) (ci := 16) (v := .int 24) (C := RX19) (T := TX19) (N := 23) hx hb hts i_X19 hown hK hP 1 rfl rfl 7 (by decide) (hts _ qw421) (fun _ h9 => h9) rfl dX19_init_115 ?_
  refine lv_dup_x1 hx hb dX19_init_118 rfl rfl ?_
  refine lv_iconst (v := 1) hx hb dX19_init_119 (by decide) ?_
  refine lv_iadd hx hb dX19_init_120 ?_
  refine lv_topC (y := 25) (by decide) ?_
  refine va_put (D := (dC, dI)) (ci := 16) (v := .int 25) (ty := .int) (C := RX19) (T := TX19) (N := 23) hx hb hts i_X19 tyX19 tyX19_ok nmX19 hown hK hP hD hS 1 rfl rfl 7 (by decide) (hts _ qw421) (fun _ h9 => h9) rfl (by decide +kernel) rfl rfl (Nat.le_of_ble_eq_true rfl) dX19_init_121 (fun H locs hP hD hS => ?_)
  have hP : va_P (dC, dI) cls [(q2, .inl (c3, 1260, .inl f132)), (h0, .inr (16, [.ref h1, .int 0, .ref q1, .ref q2, .ref q4, .ref q6, .int 5, .int 25, .ref q8, .ref q10, .int 0, .int 0, .int 0, .int 0, .int 0, .int 0, .int 0, .int 0, .int 0, .int 0, .int 2147483647, .int 0, .int 2147483647])), (q4, .inl (c5, 610, .inl f123)), (q6, .inl (c7, 610, .inl f124))] H := hP
  have hD : va_D A [(q2, .inl (c3, 1260, .inl f132)), (h0, .inr (16, [.ref h1, .int 0, .ref q1, .ref q2, .ref q4, .ref q6, .int 5, .int 25, .ref q8, .ref q10, .int 0, .int 0, .int 0, .int 0, .int 0, .int 0, .int 0, .int 0, .int 0, .int 0, .int 2147483647, .int 0, .int 2147483647])), (q4, .inl (c5, 610, .inl f123)), (q6, .inl (c7, 610, .inl f124))] := hD
  refine va_ldcS hx hb hown hE.2.2.2.2.2.2.2.2.1 dX19_init_124 ?_
  refine lv_iload hx hb dX19_init_126 (lv_at hl 0 rfl) ?_
  have hPc := hP.sub (ws' := []) [] rfl
  have hDc := hD.sub (ws' := []) [] (by decide) rfl
  have hKc := hK.sub (tys' := []) [] rfl
  have hFc := va_free (wc := []) hD hS hA [] rfl
  refine va_calli (va_runV (As := [.int 29]) (rest := [.int 24, .ref q2]) ⟨hx, hb, hml, hown, hts⟩ (kS_charAt l dC dI (p0 := 29) (sz := _) (h1 := (by decide)) (h2 := (by decide))) (cwV 1 hts (gi_V qw418 qw419 qw420 qw324 (gi_z qw417)) rfl rfl rfl (by decide +kernel) ⟨Nat.le_of_ble_eq_true rfl, Nat.le_of_ble_eq_true rfl⟩) ⟨PRE.blind, STC.recv hE.2.2.2.2.2.2.2.2 hS, PRE.of hE hS hFc hPc hKc hDc⟩ rfl rfl hl.1 rfl (lv_room (Nat.le_of_ble_eq_true rfl)) dX19_init_128 ⟨Nat.le_of_ble_eq_true rfl, Nat.le_of_ble_eq_true rfl⟩) hS (fun q _ h => hFc q h) hFc (fun r135 u t H locs ht hvm hw hB hz1 hk1 hS => ?_)
  obtain ⟨hP, hD, hK⟩ := JOIN (wr := [(q2, .inl (c3, 1260, .inl f132)), (h0, .inr (16, [.ref h1, .int 0, .ref q1, .ref q2, .ref q4, .ref q6, .int 5, .int 25, .ref q8, .ref q10, .int 0, .int 0, .int 0, .int 0, .int 0, .int 0, .int 0, .int 0, .int 0, .int 0, .int 2147483647, .int 0, .int 2147483647])), (q4, .inl (c5, 610, .inl f123)), (q6, .inl (c7, 610, .inl f124))]) hP hD hK [] [0, 1, 2, 3] [0, 1, 2] rfl rfl (by decide) (by decide) rfl hk1 hFc ht hvm hB
  have hP : va_P (dC, dI) cls [(q2, .inl (c3, 1260, .inl f132)), (h0, .inr (16, [.ref h1, .int 0, .ref q1, .ref q2, .ref q4, .ref q6, .int 5, .int 25, .ref q8, .ref q10, .int 0, .int 0, .int 0, .int 0, .int 0, .int 0, .int 0, .int 0, .int 0, .int 0, .int 2147483647, .int 0, .int 2147483647])), (q4, .inl (c5, 610, .inl f123)), (q6, .inl (c7, 610, .inl f124))] H := hP
  have hD : va_D A [(q2, .inl (c3, 1260, .inl f132)), (h0, .inr (16, [.ref h1, .int 0, .ref q1, .ref q2, .ref q4, .ref q6, .int 5, .int 25, .ref q8, .ref q10, .int 0, .int 0, .int 0, .int 0, .int 0, .int 0, .int 0, .int 0, .int 0, .int 0, .int 2147483647, .int 0, .int 2147483647])), (q4, .inl (c5, 610, .inl f123)), (q6, .inl (c7, 610, .inl f124))] := hD
  have hK : va_K (dC, dI) cls [(c3, .int), (c5, .int), (c7, .int)] s := hK
  refine W.widen (k := 19) (n := 19730) (Nat.le_of_ble_eq_true rfl) (Nat.le_of_ble_eq_true rfl) ?_
  obtain rfl : r135 = (((((kb (Int32.toNatClampNeg 29)) &&& 255)).toUInt32 % 65536).toInt32) := hw
  refine lv_topC (y := 116) (by decide) ?_
  refine va_iast hx hb hK hP hD hS 0 0 rfl rfl (by unfold vp_in; decide +kernel) dX19_init_131 (fun H locs hP hD hS => ?_)
  have hP : va_P (dC, dI) cls [(q2, .inl (c3, 1260, .inl (upd f132 (Int32.toNatClampNeg 24) 116))), (h0, .inr (16, [.ref h1, .int 0, .ref q1, .ref q2, .ref q4, .ref q6, .int 5, .int 25, .ref q8, .ref q10, .int 0, .int 0, .int 0, .int 0, .int 0, .int 0, .int 0, .int 0, .int 0, .int 0, .int 2147483647, .int 0, .int 2147483647])), (q4, .inl (c5, 610, .inl f123)), (q6, .inl (c7, 610, .inl f124))] H := hP
  have hD : va_D A [(q2, .inl (c3, 1260, .inl (upd f132 (Int32.toNatClampNeg 24) 116))), (h0, .inr (16, [.ref h1, .int 0, .ref q1, .ref q2, .ref q4, .ref q6, .int 5, .int 25, .ref q8, .ref q10, .int 0, .int 0, .int 0, .int 0, .int 0, .int 0, .int 0, .int 0, .int 0, .int 0, .int 2147483647, .int 0, .int 2147483647])), (q4, .inl (c5, 610, .inl f123)), (q6, .inl (c7, 610, .inl f124))] := hD
  generalize upd f132 (Int32.toNatClampNeg 24) 116 = f136 at hP hD
  refine lv_goto (tgt := 146) hx hb dX19_init_132 (by decide) ?_
  refine lv_iinc (v := 30) (lv' := [(4, .int 30), (3, .int 22), (0, .ref h0), (1, .ref h1), (2, .int 0)]) hx hb dX19_init_146 hl (k := 0) rfl (by decide) (by decide) rfl (fun ls hl => ?_)
  refine lv_goto (tgt := 87) hx hb dX19_init_149 (by decide) ?_
  refine lv_iload hx hb dX19_init_87 (lv_at hl 0 rfl) ?_
  refine va_ldcS hx hb hown hE.2.2.2.2.2.2.2.2.1 dX19_init_89 ?_
  have hPc := hP.sub (ws' := []) [] rfl
  have hDc := hD.sub (ws' := []) [] (by decide) rfl
  have hKc := hK.sub (tys' := []) [] rfl
  have hFc := va_free (wc := []) hD hS hA [] rfl
  refine va_calli (va_runV (As := []) (rest := [.int 30]) ⟨hx, hb, hml, hown, hts⟩ (kS_length l dC dI  (sz := _)) (cwV 0 hts (gi_V qw414 qw415 qw416 qw324 (gi_z qw413)) rfl rfl rfl (by decide +kernel) ⟨Nat.le_of_ble_eq_true rfl, Nat.le_of_ble_eq_true rfl⟩) ⟨PRE.blind, STC.recv hE.2.2.2.2.2.2.2.2 hS, PRE.of hE hS hFc hPc hKc hDc⟩ rfl rfl hl.1 rfl (lv_room (Nat.le_of_ble_eq_true rfl)) dX19_init_91 ⟨Nat.le_of_ble_eq_true rfl, Nat.le_of_ble_eq_true rfl⟩) hS (fun q _ h => hFc q h) hFc (fun r137 u t H locs ht hvm hw hB hz1 hk1 hS => ?_)
  obtain ⟨hP, hD, hK⟩ := JOIN (wr := [(q2, .inl (c3, 1260, .inl f136)), (h0, .inr (16, [.ref h1, .int 0, .ref q1, .ref q2, .ref q4, .ref q6, .int 5, .int 25, .ref q8, .ref q10, .int 0, .int 0, .int 0, .int 0, .int 0, .int 0, .int 0, .int 0, .int 0, .int 0, .int 2147483647, .int 0, .int 2147483647])), (q4, .inl (c5, 610, .inl f123)), (q6, .inl (c7, 610, .inl f124))]) hP hD hK [] [0, 1, 2, 3] [0, 1, 2] rfl rfl (by decide) (by decide) rfl hk1 hFc ht hvm hB
  have hP : va_P (dC, dI) cls [(q2, .inl (c3, 1260, .inl f136)), (h0, .inr (16, [.ref h1, .int 0, .ref q1, .ref q2, .ref q4, .ref q6, .int 5, .int 25, .ref q8, .ref q10, .int 0, .int 0, .int 0, .int 0, .int 0, .int 0, .int 0, .int 0, .int 0, .int 0, .int 2147483647, .int 0, .int 2147483647])), (q4, .inl (c5, 610, .inl f123)), (q6, .inl (c7, 610, .inl f124))] H := hP
  have hD : va_D A [(q2, .inl (c3, 1260, .inl f136)), (h0, .inr (16, [.ref h1, .int 0, .ref q1, .ref q2, .ref q4, .ref q6, .int 5, .int 25, .ref q8, .ref q10, .int 0, .int 0, .int 0, .int 0, .int 0, .int 0, .int 0, .int 0, .int 0, .int 0, .int 2147483647, .int 0, .int 2147483647])), (q4, .inl (c5, 610, .inl f123)), (q6, .inl (c7, 610, .inl f124))] := hD
  have hK : va_K (dC, dI) cls [(c3, .int), (c5, .int), (c7, .int)] s := hK
  refine W.widen (k := 19) (n := 19730) (Nat.le_of_ble_eq_true rfl) (Nat.le_of_ble_eq_true rfl) ?_
  obtain rfl : r137 = 44 := hw
  refine lv_icmp_ge (tgt := 152) hx hb dX19_init_94 (by decide) (fun c => absurd c (by decide)) (fun _ => ?_)
  refine va_ldcS hx hb hown hE.2.2.2.2.2.2.2.2.1 dX19_init_97 ?_
  refine lv_iload hx hb dX19_init_99 (lv_at hl 0 rfl) ?_
  have hPc := hP.sub (ws' := []) [] rfl
  have hDc := hD.sub (ws' := []) [] (by decide) rfl
  have hKc := hK.sub (tys' := []) [] rfl
  have hFc := va_free (wc := []) hD hS hA [] rfl
  refine va_calli (va_runV (As := [.int 30]) (rest := []) ⟨hx, hb, hml, hown, hts⟩ (kS_charAt l dC dI (p0 := 30) (sz := _) (h1 := (by decide)) (h2 := (by decide))) (cwV 1 hts (gi_V qw418 qw419 qw420 qw324 (gi_z qw417)) rfl rfl rfl (by decide +kernel) ⟨Nat.le_of_ble_eq_true rfl, Nat.le_of_ble_eq_true rfl⟩) ⟨PRE.blind, STC.recv hE.2.2.2.2.2.2.2.2 hS, PRE.of hE hS hFc hPc hKc hDc⟩ rfl rfl hl.1 rfl (lv_room (Nat.le_of_ble_eq_true rfl)) dX19_init_101 ⟨Nat.le_of_ble_eq_true rfl, Nat.le_of_ble_eq_true rfl⟩) hS (fun q _ h => hFc q h) hFc (fun r138 u t H locs ht hvm hw hB hz1 hk1 hS => ?_)
  obtain ⟨hP, hD, hK⟩ := JOIN (wr := [(q2, .inl (c3, 1260, .inl f136)), (h0, .inr (16, [.ref h1, .int 0, .ref q1, .ref q2, .ref q4, .ref q6, .int 5, .int 25, .ref q8, .ref q10, .int 0, .int 0, .int 0, .int 0, .int 0, .int 0, .int 0, .int 0, .int 0, .int 0, .int 2147483647, .int 0, .int 2147483647])), (q4, .inl (c5, 610, .inl f123)), (q6, .inl (c7, 610, .inl f124))]) hP hD hK [] [0, 1, 2, 3] [0, 1, 2] rfl rfl (by decide) (by decide) rfl hk1 hFc ht hvm hB
  have hP : va_P (dC, dI) cls [(q2, .inl (c3, 1260, .inl f136)), (h0, .inr (16, [.ref h1, .int 0, .ref q1, .ref q2, .ref q4, .ref q6, .int 5, .int 25, .ref q8, .ref q10, .int 0, .int 0, .int 0, .int 0, .int 0, .int 0, .int 0, .int 0, .int 0, .int 0, .int 2147483647, .int 0, .int 2147483647])), (q4, .inl (c5, 610, .inl f123)), (q6, .inl (c7, 610, .inl f124))] H := hP
  have hD : va_D A [(q2, .inl (c3, 1260, .inl f136)), (h0, .inr (16, [.ref h1, .int 0, .ref q1, .ref q2, .ref q4, .ref q6, .int 5, .int 25, .ref q8, .ref q10, .int 0, .int 0, .int 0, .int 0, .int 0, .int 0, .int 0, .int 0, .int 0, .int 0, .int 2147483647, .int 0, .int 2147483647])), (q4, .inl (c5, 610, .inl f123)), (q6, .inl (c7, 610, .inl f124))] := hD
  have hK : va_K (dC, dI) cls [(c3, .int), (c5, .int), (c7, .int)] s := hK
  refine W.widen (k := 19) (n := 19730) (Nat.le_of_ble_eq_true rfl) (Nat.le_of_ble_eq_true rfl) ?_
  obtain rfl : r138 = (((((kb (Int32.toNatClampNeg 30)) &&& 255)).toUInt32 % 65536).toInt32) := hw
  refine lv_topC (y := 117) (by decide) ?_
  refine lv_bipush (v := 32) hx hb dX19_init_104 (by decide) ?_
  refine lv_icmp_eq (tgt := 135) hx hb dX19_init_106 (by decide) (fun c => absurd c (by decide)) (fun _ => ?_)
  refine lv_aload_n hx hb dX19_init_109 rfl (lv_at hl 2 rfl) ?_
  refine va_get (D := (dC, dI)) (ci := 16) (v := .ref q2) (C := RX19) (T := TX19) (N := 23) hx hb hts i_X19 hown hK hP 1 rfl rfl 3 (by decide) (hts _ qw403) (fun _ h9 => h9) rfl dX19_init_110 ?_
  refine lv_aload_n hx hb dX19_init_113 rfl (lv_at hl 2 rfl) ?_
  refine lv_dup hx hb dX19_init_114 rfl ?_
  refine va_get (D := (dC, dI)) (ci := 16) (v := .int 25) (C := RX19) (T := TX19) (N := 23) hx hb hts i_X19 hown hK hP 1 rfl rfl 7 (by decide) (hts _ qw421) (fun _ h9 => h9) rfl dX19_init_115 ?_
  refine lv_dup_x1 hx hb dX19_init_118 rfl rfl ?_
  refine lv_iconst (v := 1) hx hb dX19_init_119 (by decide) ?_
  refine lv_iadd hx hb dX19_init_120 ?_
  refine lv_topC (y := 26) (by decide) ?_
  refine va_put (D := (dC, dI)) (ci := 16) (v := .int 26) (ty := .int) (C := RX19) (T := TX19) (N := 23) hx hb hts i_X19 tyX19 tyX19_ok nmX19 hown hK hP hD hS 1 rfl rfl 7 (by decide) (hts _ qw421) (fun _ h9 => h9) rfl (by decide +kernel) rfl rfl (Nat.le_of_ble_eq_true rfl) dX19_init_121 (fun H locs hP hD hS => ?_)
  have hP : va_P (dC, dI) cls [(q2, .inl (c3, 1260, .inl f136)), (h0, .inr (16, [.ref h1, .int 0, .ref q1, .ref q2, .ref q4, .ref q6, .int 5, .int 26, .ref q8, .ref q10, .int 0, .int 0, .int 0, .int 0, .int 0, .int 0, .int 0, .int 0, .int 0, .int 0, .int 2147483647, .int 0, .int 2147483647])), (q4, .inl (c5, 610, .inl f123)), (q6, .inl (c7, 610, .inl f124))] H := hP
  have hD : va_D A [(q2, .inl (c3, 1260, .inl f136)), (h0, .inr (16, [.ref h1, .int 0, .ref q1, .ref q2, .ref q4, .ref q6, .int 5, .int 26, .ref q8, .ref q10, .int 0, .int 0, .int 0, .int 0, .int 0, .int 0, .int 0, .int 0, .int 0, .int 0, .int 2147483647, .int 0, .int 2147483647])), (q4, .inl (c5, 610, .inl f123)), (q6, .inl (c7, 610, .inl f124))] := hD
  refine va_ldcS hx hb hown hE.2.2.2.2.2.2.2.2.1 dX19_init_124 ?_
  refine lv_iload hx hb dX19_init_126 (lv_at hl 0 rfl) ?_
  have hPc := hP.sub (ws' := []) [] rfl
  have hDc := hD.sub (ws' := []) [] (by decide) rfl
  have hKc := hK.sub (tys' := []) [] rfl
  have hFc := va_free (wc := []) hD hS hA [] rfl
  refine va_calli (va_runV (As := [.int 30]) (rest := [.int 25, .ref q2]) ⟨hx, hb, hml, hown, hts⟩ (kS_charAt l dC dI (p0 := 30) (sz := _) (h1 := (by decide)) (h2 := (by decide))) (cwV 1 hts (gi_V qw418 qw419 qw420 qw324 (gi_z qw417)) rfl rfl rfl (by decide +kernel) ⟨Nat.le_of_ble_eq_true rfl, Nat.le_of_ble_eq_true rfl⟩) ⟨PRE.blind, STC.recv hE.2.2.2.2.2.2.2.2 hS, PRE.of hE hS hFc hPc hKc hDc⟩ rfl rfl hl.1 rfl (lv_room (Nat.le_of_ble_eq_true rfl)) dX19_init_128 ⟨Nat.le_of_ble_eq_true rfl, Nat.le_of_ble_eq_true rfl⟩) hS (fun q _ h => hFc q h) hFc (fun r139 u t H locs ht hvm hw hB hz1 hk1 hS => ?_)
  obtain ⟨hP, hD, hK⟩ := JOIN (wr := [(q2, .inl (c3, 1260, .inl f136)), (h0, .inr (16, [.ref h1, .int 0, .ref q1, .ref q2, .ref q4, .ref q6, .int 5, .int 26, .ref q8, .ref q10, .int 0, .int 0, .int 0, .int 0, .int 0, .int 0, .int 0, .int 0, .int 0, .int 0, .int 2147483647, .int 0, .int 2147483647])), (q4, .inl (c5, 610, .inl f123)), (q6, .inl (c7, 610, .inl f124))]) hP hD hK [] [0, 1, 2, 3] [0, 1, 2] rfl rfl (by decide) (by decide) rfl hk1 hFc ht hvm hB
  have hP : va_P (dC, dI) cls [(q2, .inl (c3, 1260, .inl f136)), (h0, .inr (16, [.ref h1, .int 0, .ref q1, .ref q2, .ref q4, .ref q6, .int 5, .int 26, .ref q8, .ref q10, .int 0, .int 0, .int 0, .int 0, .int 0, .int 0, .int 0, .int 0, .int 0, .int 0, .int 2147483647, .int 0, .int 2147483647])), (q4, .inl (c5, 610, .inl f123)), (q6, .inl (c7, 610, .inl f124))] H := hP
  have hD : va_D A [(q2, .inl (c3, 1260, .inl f136)), (h0, .inr (16, [.ref h1, .int 0, .ref q1, .ref q2, .ref q4, .ref q6, .int 5, .int 26, .ref q8, .ref q10, .int 0, .int 0, .int 0, .int 0, .int 0, .int 0, .int 0, .int 0, .int 0, .int 0, .int 2147483647, .int 0, .int 2147483647])), (q4, .inl (c5, 610, .inl f123)), (q6, .inl (c7, 610, .inl f124))] := hD
  have hK : va_K (dC, dI) cls [(c3, .int), (c5, .int), (c7, .int)] s := hK
  refine W.widen (k := 19) (n := 19730) (Nat.le_of_ble_eq_true rfl) (Nat.le_of_ble_eq_true rfl) ?_
  obtain rfl : r139 = (((((kb (Int32.toNatClampNeg 30)) &&& 255)).toUInt32 % 65536).toInt32) := hw
  refine lv_topC (y := 117) (by decide) ?_
  refine va_iast hx hb hK hP hD hS 0 0 rfl rfl (by unfold vp_in; decide +kernel) dX19_init_131 (fun H locs hP hD hS => ?_)
  have hP : va_P (dC, dI) cls [(q2, .inl (c3, 1260, .inl (upd f136 (Int32.toNatClampNeg 25) 117))), (h0, .inr (16, [.ref h1, .int 0, .ref q1, .ref q2, .ref q4, .ref q6, .int 5, .int 26, .ref q8, .ref q10, .int 0, .int 0, .int 0, .int 0, .int 0, .int 0, .int 0, .int 0, .int 0, .int 0, .int 2147483647, .int 0, .int 2147483647])), (q4, .inl (c5, 610, .inl f123)), (q6, .inl (c7, 610, .inl f124))] H := hP
  have hD : va_D A [(q2, .inl (c3, 1260, .inl (upd f136 (Int32.toNatClampNeg 25) 117))), (h0, .inr (16, [.ref h1, .int 0, .ref q1, .ref q2, .ref q4, .ref q6, .int 5, .int 26, .ref q8, .ref q10, .int 0, .int 0, .int 0, .int 0, .int 0, .int 0, .int 0, .int 0, .int 0, .int 0, .int 2147483647, .int 0, .int 2147483647])), (q4, .inl (c5, 610, .inl f123)), (q6, .inl (c7, 610, .inl f124))] := hD
  generalize upd f136 (Int32.toNatClampNeg 25) 117 = f140 at hP hD
  refine lv_goto (tgt := 146) hx hb dX19_init_132 (by decide) ?_
  refine lv_iinc (v := 31) (lv' := [(4, .int 31), (3, .int 22), (0, .ref h0), (1, .ref h1), (2, .int 0)]) hx hb dX19_init_146 hl (k := 0) rfl (by decide) (by decide) rfl (fun ls hl => ?_)
  refine lv_goto (tgt := 87) hx hb dX19_init_149 (by decide) ?_
  refine lv_iload hx hb dX19_init_87 (lv_at hl 0 rfl) ?_
  refine va_ldcS hx hb hown hE.2.2.2.2.2.2.2.2.1 dX19_init_89 ?_
  have hPc := hP.sub (ws' := []) [] rfl
  have hDc := hD.sub (ws' := []) [] (by decide) rfl
  have hKc := hK.sub (tys' := []) [] rfl
  have hFc := va_free (wc := []) hD hS hA [] rfl
  refine va_calli (va_runV (As := []) (rest := [.int 31]) ⟨hx, hb, hml, hown, hts⟩ (kS_length l dC dI  (sz := _)) (cwV 0 hts (gi_V qw414 qw415 qw416 qw324 (gi_z qw413)) rfl rfl rfl (by decide +kernel) ⟨Nat.le_of_ble_eq_true rfl, Nat.le_of_ble_eq_true rfl⟩) ⟨PRE.blind, STC.recv hE.2.2.2.2.2.2.2.2 hS, PRE.of hE hS hFc hPc hKc hDc⟩ rfl rfl hl.1 rfl (lv_room (Nat.le_of_ble_eq_true rfl)) dX19_init_91 ⟨Nat.le_of_ble_eq_true rfl, Nat.le_of_ble_eq_true rfl⟩) hS (fun q _ h => hFc q h) hFc (fun r141 u t H locs ht hvm hw hB hz1 hk1 hS => ?_)
  obtain ⟨hP, hD, hK⟩ := JOIN (wr := [(q2, .inl (c3, 1260, .inl f140)), (h0, .inr (16, [.ref h1, .int 0, .ref q1, .ref q2, .ref q4, .ref q6, .int 5, .int 26, .ref q8, .ref q10, .int 0, .int 0, .int 0, .int 0, .int 0, .int 0, .int 0, .int 0, .int 0, .int 0, .int 2147483647, .int 0, .int 2147483647])), (q4, .inl (c5, 610, .inl f123)), (q6, .inl (c7, 610, .inl f124))]) hP hD hK [] [0, 1, 2, 3] [0, 1, 2] rfl rfl (by decide) (by decide) rfl hk1 hFc ht hvm hB
  have hP : va_P (dC, dI) cls [(q2, .inl (c3, 1260, .inl f140)), (h0, .inr (16, [.ref h1, .int 0, .ref q1, .ref q2, .ref q4, .ref q6, .int 5, .int 26, .ref q8, .ref q10, .int 0, .int 0, .int 0, .int 0, .int 0, .int 0, .int 0, .int 0, .int 0, .int 0, .int 2147483647, .int 0, .int 2147483647])), (q4, .inl (c5, 610, .inl f123)), (q6, .inl (c7, 610, .inl f124))] H := hP
  have hD : va_D A [(q2, .inl (c3, 1260, .inl f140)), (h0, .inr (16, [.ref h1, .int 0, .ref q1, .ref q2, .ref q4, .ref q6, .int 5, .int 26, .ref q8, .ref q10, .int 0, .int 0, .int 0, .int 0, .int 0, .int 0, .int 0, .int 0, .int 0, .int 0, .int 2147483647, .int 0, .int 2147483647])), (q4, .inl (c5, 610, .inl f123)), (q6, .inl (c7, 610, .inl f124))] := hD
  have hK : va_K (dC, dI) cls [(c3, .int), (c5, .int), (c7, .int)] s := hK
  refine W.widen (k := 19) (n := 19730) (Nat.le_of_ble_eq_true rfl) (Nat.le_of_ble_eq_true rfl) ?_
  obtain rfl : r141 = 44 := hw
  refine lv_icmp_ge (tgt := 152) hx hb dX19_init_94 (by decide) (fun c => absurd c (by decide)) (fun _ => ?_)
  refine va_ldcS hx hb hown hE.2.2.2.2.2.2.2.2.1 dX19_init_97 ?_
  refine lv_iload hx hb dX19_init_99 (lv_at hl 0 rfl) ?_
  have hPc := hP.sub (ws' := []) [] rfl
  have hDc := hD.sub (ws' := []) [] (by decide) rfl
  have hKc := hK.sub (tys' := []) [] rfl
  have hFc := va_free (wc := []) hD hS hA [] rfl
  refine va_calli (va_runV (As := [.int 31]) (rest := []) ⟨hx, hb, hml, hown, hts⟩ (kS_charAt l dC dI (p0 := 31) (sz := _) (h1 := (by decide)) (h2 := (by decide))) (cwV 1 hts (gi_V qw418 qw419 qw420 qw324 (gi_z qw417)) rfl rfl rfl (by decide +kernel) ⟨Nat.le_of_ble_eq_true rfl, Nat.le_of_ble_eq_true rfl⟩) ⟨PRE.blind, STC.recv hE.2.2.2.2.2.2.2.2 hS, PRE.of hE hS hFc hPc hKc hDc⟩ rfl rfl hl.1 rfl (lv_room (Nat.le_of_ble_eq_true rfl)) dX19_init_101 ⟨Nat.le_of_ble_eq_true rfl, Nat.le_of_ble_eq_true rfl⟩) hS (fun q _ h => hFc q h) hFc (fun r142 u t H locs ht hvm hw hB hz1 hk1 hS => ?_)
  obtain ⟨hP, hD, hK⟩ := JOIN (wr := [(q2, .inl (c3, 1260, .inl f140)), (h0, .inr (16, [.ref h1, .int 0, .ref q1, .ref q2, .ref q4, .ref q6, .int 5, .int 26, .ref q8, .ref q10, .int 0, .int 0, .int 0, .int 0, .int 0, .int 0, .int 0, .int 0, .int 0, .int 0, .int 2147483647, .int 0, .int 2147483647])), (q4, .inl (c5, 610, .inl f123)), (q6, .inl (c7, 610, .inl f124))]) hP hD hK [] [0, 1, 2, 3] [0, 1, 2] rfl rfl (by decide) (by decide) rfl hk1 hFc ht hvm hB
  have hP : va_P (dC, dI) cls [(q2, .inl (c3, 1260, .inl f140)), (h0, .inr (16, [.ref h1, .int 0, .ref q1, .ref q2, .ref q4, .ref q6, .int 5, .int 26, .ref q8, .ref q10, .int 0, .int 0, .int 0, .int 0, .int 0, .int 0, .int 0, .int 0, .int 0, .int 0, .int 2147483647, .int 0, .int 2147483647])), (q4, .inl (c5, 610, .inl f123)), (q6, .inl (c7, 610, .inl f124))] H := hP
  have hD : va_D A [(q2, .inl (c3, 1260, .inl f140)), (h0, .inr (16, [.ref h1, .int 0, .ref q1, .ref q2, .ref q4, .ref q6, .int 5, .int 26, .ref q8, .ref q10, .int 0, .int 0, .int 0, .int 0, .int 0, .int 0, .int 0, .int 0, .int 0, .int 0, .int 2147483647, .int 0, .int 2147483647])), (q4, .inl (c5, 610, .inl f123)), (q6, .inl (c7, 610, .inl f124))] := hD
  have hK : va_K (dC, dI) cls [(c3, .int), (c5, .int), (c7, .int)] s := hK
  refine W.widen (k := 19) (n := 19730) (Nat.le_of_ble_eq_true rfl) (Nat.le_of_ble_eq_true rfl) ?_
  obtain rfl : r142 = (((((kb (Int32.toNatClampNeg 31)) &&& 255)).toUInt32 % 65536).toInt32) := hw
  refine lv_topC (y := 114) (by decide) ?_
  refine lv_bipush (v := 32) hx hb dX19_init_104 (by decide) ?_
  refine lv_icmp_eq (tgt := 135) hx hb dX19_init_106 (by decide) (fun c => absurd c (by decide)) (fun _ => ?_)
  refine lv_aload_n hx hb dX19_init_109 rfl (lv_at hl 2 rfl) ?_
  refine va_get (D := (dC, dI)) (ci := 16) (v := .ref q2) (C := RX19) (T := TX19) (N := 23) hx hb hts i_X19 hown hK hP 1 rfl rfl 3 (by decide) (hts _ qw403) (fun _ h9 => h9) rfl dX19_init_110 ?_
  refine lv_aload_n hx hb dX19_init_113 rfl (lv_at hl 2 rfl) ?_
  refine lv_dup hx hb dX19_init_114 rfl ?_
  refine va_get (D := (dC, dI)) (ci := 16) (v := .int 26) (C := RX19) (T := TX19) (N := 23) hx hb hts i_X19 hown hK hP 1 rfl rfl 7 (by decide) (hts _ qw421) (fun _ h9 => h9) rfl dX19_init_115 ?_
  refine lv_dup_x1 hx hb dX19_init_118 rfl rfl ?_
  refine lv_iconst (v := 1) hx hb dX19_init_119 (by decide) ?_
  refine lv_iadd hx hb dX19_init_120 ?_
  refine lv_topC (y := 27) (by decide) ?_
  refine va_put (D := (dC, dI)) (ci := 16) (v := .int 27) (ty := .int) (C := RX19) (T := TX19) (N := 23) hx hb hts i_X19 tyX19 tyX19_ok nmX19 hown hK hP hD hS 1 rfl rfl 7 (by decide) (hts _ qw421) (fun _ h9 => h9) rfl (by decide +kernel) rfl rfl (Nat.le_of_ble_eq_true rfl) dX19_init_121 (fun H locs hP hD hS => ?_)
  have hP : va_P (dC, dI) cls [(q2, .inl (c3, 1260, .inl f140)), (h0, .inr (16, [.ref h1, .int 0, .ref q1, .ref q2, .ref q4, .ref q6, .int 5, .int 27, .ref q8, .ref q10, .int 0, .int 0, .int 0, .int 0, .int 0, .int 0, .int 0, .int 0, .int 0, .int 0, .int 2147483647, .int 0, .int 2147483647])), (q4, .inl (c5, 610, .inl f123)), (q6, .inl (c7, 610, .inl f124))] H := hP
  have hD : va_D A [(q2, .inl (c3, 1260, .inl f140)), (h0, .inr (16, [.ref h1, .int 0, .ref q1, .ref q2, .ref q4, .ref q6, .int 5, .int 27, .ref q8, .ref q10, .int 0, .int 0, .int 0, .int 0, .int 0, .int 0, .int 0, .int 0, .int 0, .int 0, .int 2147483647, .int 0, .int 2147483647])), (q4, .inl (c5, 610, .inl f123)), (q6, .inl (c7, 610, .inl f124))] := hD
  refine va_ldcS hx hb hown hE.2.2.2.2.2.2.2.2.1 dX19_init_124 ?_
  refine lv_iload hx hb dX19_init_126 (lv_at hl 0 rfl) ?_
  have hPc := hP.sub (ws' := []) [] rfl
  have hDc := hD.sub (ws' := []) [] (by decide) rfl
  have hKc := hK.sub (tys' := []) [] rfl
  have hFc := va_free (wc := []) hD hS hA [] rfl
  refine va_calli (va_runV (As := [.int 31]) (rest := [.int 26, .ref q2]) ⟨hx, hb, hml, hown, hts⟩ (kS_charAt l dC dI (p0 := 31) (sz := _) (h1 := (by decide)) (h2 := (by decide))) (cwV 1 hts (gi_V qw418 qw419 qw420 qw324 (gi_z qw417)) rfl rfl rfl (by decide +kernel) ⟨Nat.le_of_ble_eq_true rfl, Nat.le_of_ble_eq_true rfl⟩) ⟨PRE.blind, STC.recv hE.2.2.2.2.2.2.2.2 hS, PRE.of hE hS hFc hPc hKc hDc⟩ rfl rfl hl.1 rfl (lv_room (Nat.le_of_ble_eq_true rfl)) dX19_init_128 ⟨Nat.le_of_ble_eq_true rfl, Nat.le_of_ble_eq_true rfl⟩) hS (fun q _ h => hFc q h) hFc (fun r143 u t H locs ht hvm hw hB hz1 hk1 hS => ?_)
  obtain ⟨hP, hD, hK⟩ := JOIN (wr := [(q2, .inl (c3, 1260, .inl f140)), (h0, .inr (16, [.ref h1, .int 0, .ref q1, .ref q2, .ref q4, .ref q6, .int 5, .int 27, .ref q8, .ref q10, .int 0, .int 0, .int 0, .int 0, .int 0, .int 0, .int 0, .int 0, .int 0, .int 0, .int 2147483647, .int 0, .int 2147483647])), (q4, .inl (c5, 610, .inl f123)), (q6, .inl (c7, 610, .inl f124))]) hP hD hK [] [0, 1, 2, 3] [0, 1, 2] rfl rfl (by decide) (by decide) rfl hk1 hFc ht hvm hB
  have hP : va_P (dC, dI) cls [(q2, .inl (c3, 1260, .inl f140)), (h0, .inr (16, [.ref h1, .int 0, .ref q1, .ref q2, .ref q4, .ref q6, .int 5, .int 27, .ref q8, .ref q10, .int 0, .int 0, .int 0, .int 0, .int 0, .int 0, .int 0, .int 0, .int 0, .int 0, .int 2147483647, .int 0, .int 2147483647])), (q4, .inl (c5, 610, .inl f123)), (q6, .inl (c7, 610, .inl f124))] H := hP
  have hD : va_D A [(q2, .inl (c3, 1260, .inl f140)), (h0, .inr (16, [.ref h1, .int 0, .ref q1, .ref q2, .ref q4, .ref q6, .int 5, .int 27, .ref q8, .ref q10, .int 0, .int 0, .int 0, .int 0, .int 0, .int 0, .int 0, .int 0, .int 0, .int 0, .int 2147483647, .int 0, .int 2147483647])), (q4, .inl (c5, 610, .inl f123)), (q6, .inl (c7, 610, .inl f124))] := hD
  have hK : va_K (dC, dI) cls [(c3, .int), (c5, .int), (c7, .int)] s := hK
  refine W.widen (k := 19) (n := 19730) (Nat.le_of_ble_eq_true rfl) (Nat.le_of_ble_eq_true rfl) ?_
  obtain rfl : r143 = (((((kb (Int32.toNatClampNeg 31)) &&& 255)).toUInt32 % 65536).toInt32) := hw
  refine lv_topC (y := 114) (by decide) ?_
  refine va_iast hx hb hK hP hD hS 0 0 rfl rfl (by unfold vp_in; decide +kernel) dX19_init_131 (fun H locs hP hD hS => ?_)
  have hP : va_P (dC, dI) cls [(q2, .inl (c3, 1260, .inl (upd f140 (Int32.toNatClampNeg 26) 114))), (h0, .inr (16, [.ref h1, .int 0, .ref q1, .ref q2, .ref q4, .ref q6, .int 5, .int 27, .ref q8, .ref q10, .int 0, .int 0, .int 0, .int 0, .int 0, .int 0, .int 0, .int 0, .int 0, .int 0, .int 2147483647, .int 0, .int 2147483647])), (q4, .inl (c5, 610, .inl f123)), (q6, .inl (c7, 610, .inl f124))] H := hP
  have hD : va_D A [(q2, .inl (c3, 1260, .inl (upd f140 (Int32.toNatClampNeg 26) 114))), (h0, .inr (16, [.ref h1, .int 0, .ref q1, .ref q2, .ref q4, .ref q6, .int 5, .int 27, .ref q8, .ref q10, .int 0, .int 0, .int 0, .int 0, .int 0, .int 0, .int 0, .int 0, .int 0, .int 0, .int 2147483647, .int 0, .int 2147483647])), (q4, .inl (c5, 610, .inl f123)), (q6, .inl (c7, 610, .inl f124))] := hD
  generalize upd f140 (Int32.toNatClampNeg 26) 114 = f144 at hP hD
  refine lv_goto (tgt := 146) hx hb dX19_init_132 (by decide) ?_
  refine lv_iinc (v := 32) (lv' := [(4, .int 32), (3, .int 22), (0, .ref h0), (1, .ref h1), (2, .int 0)]) hx hb dX19_init_146 hl (k := 0) rfl (by decide) (by decide) rfl (fun ls hl => ?_)
  refine lv_goto (tgt := 87) hx hb dX19_init_149 (by decide) ?_
  refine lv_iload hx hb dX19_init_87 (lv_at hl 0 rfl) ?_
  refine va_ldcS hx hb hown hE.2.2.2.2.2.2.2.2.1 dX19_init_89 ?_
  have hPc := hP.sub (ws' := []) [] rfl
  have hDc := hD.sub (ws' := []) [] (by decide) rfl
  have hKc := hK.sub (tys' := []) [] rfl
  have hFc := va_free (wc := []) hD hS hA [] rfl
  refine va_calli (va_runV (As := []) (rest := [.int 32]) ⟨hx, hb, hml, hown, hts⟩ (kS_length l dC dI  (sz := _)) (cwV 0 hts (gi_V qw414 qw415 qw416 qw324 (gi_z qw413)) rfl rfl rfl (by decide +kernel) ⟨Nat.le_of_ble_eq_true rfl, Nat.le_of_ble_eq_true rfl⟩) ⟨PRE.blind, STC.recv hE.2.2.2.2.2.2.2.2 hS, PRE.of hE hS hFc hPc hKc hDc⟩ rfl rfl hl.1 rfl (lv_room (Nat.le_of_ble_eq_true rfl)) dX19_init_91 ⟨Nat.le_of_ble_eq_true rfl, Nat.le_of_ble_eq_true rfl⟩) hS (fun q _ h => hFc q h) hFc (fun r145 u t H locs ht hvm hw hB hz1 hk1 hS => ?_)
  obtain ⟨hP, hD, hK⟩ := JOIN (wr := [(q2, .inl (c3, 1260, .inl f144)), (h0, .inr (16, [.ref h1, .int 0, .ref q1, .ref q2, .ref q4, .ref q6, .int 5, .int 27, .ref q8, .ref q10, .int 0, .int 0, .int 0, .int 0, .int 0, .int 0, .int 0, .int 0, .int 0, .int 0, .int 2147483647, .int 0, .int 2147483647])), (q4, .inl (c5, 610, .inl f123)), (q6, .inl (c7, 610, .inl f124))]) hP hD hK [] [0, 1, 2, 3] [0, 1, 2] rfl rfl (by decide) (by decide) rfl hk1 hFc ht hvm hB
  have hP : va_P (dC, dI) cls [(q2, .inl (c3, 1260, .inl f144)), (h0, .inr (16, [.ref h1, .int 0, .ref q1, .ref q2, .ref q4, .ref q6, .int 5, .int 27, .ref q8, .ref q10, .int 0, .int 0, .int 0, .int 0, .int 0, .int 0, .int 0, .int 0, .int 0, .int 0, .int 2147483647, .int 0, .int 2147483647])), (q4, .inl (c5, 610, .inl f123)), (q6, .inl (c7, 610, .inl f124))] H := hP
  have hD : va_D A [(q2, .inl (c3, 1260, .inl f144)), (h0, .inr (16, [.ref h1, .int 0, .ref q1, .ref q2, .ref q4, .ref q6, .int 5, .int 27, .ref q8, .ref q10, .int 0, .int 0, .int 0, .int 0, .int 0, .int 0, .int 0, .int 0, .int 0, .int 0, .int 2147483647, .int 0, .int 2147483647])), (q4, .inl (c5, 610, .inl f123)), (q6, .inl (c7, 610, .inl f124))] := hD
  have hK : va_K (dC, dI) cls [(c3, .int), (c5, .int), (c7, .int)] s := hK
  refine W.widen (k := 19) (n := 19730) (Nat.le_of_ble_eq_true rfl) (Nat.le_of_ble_eq_true rfl) ?_
  obtain rfl : r145 = 44 := hw
  refine lv_icmp_ge (tgt := 152) hx hb dX19_init_94 (by decide) (fun c => absurd c (by decide)) (fun _ => ?_)
  refine va_ldcS hx hb hown hE.2.2.2.2.2.2.2.2.1 dX19_init_97 ?_
  refine lv_iload hx hb dX19_init_99 (lv_at hl 0 rfl) ?_
  have hPc := hP.sub (ws' := []) [] rfl
  have hDc := hD.sub (ws' := []) [] (by decide) rfl
  have hKc := hK.sub (tys' := []) [] rfl
  have hFc := va_free (wc := []) hD hS hA [] rfl
  refine va_calli (va_runV (As := [.int 32]) (rest := []) ⟨hx, hb, hml, hown, hts⟩ (kS_charAt l dC dI (p0 := 32) (sz := _) (h1 := (by decide)) (h2 := (by decide))) (cwV 1 hts (gi_V qw418 qw419 qw420 qw324 (gi_z qw417)) rfl rfl rfl (by decide +kernel) ⟨Nat.le_of_ble_eq_true rfl, Nat.le_of_ble_eq_true rfl⟩) ⟨PRE.blind, STC.recv hE.2.2.2.2.2.2.2.2 hS, PRE.of hE hS hFc hPc hKc hDc⟩ rfl rfl hl.1 rfl (lv_room (Nat.le_of_ble_eq_true rfl)) dX19_init_101 ⟨Nat.le_of_ble_eq_true rfl, Nat.le_of_ble_eq_true rfl⟩) hS (fun q _ h => hFc q h) hFc (fun r146 u t H locs ht hvm hw hB hz1 hk1 hS => ?_)
  obtain ⟨hP, hD, hK⟩ := JOIN (wr := [(q2, .inl (c3, 1260, .inl f144)), (h0, .inr (16, [.ref h1, .int 0, .ref q1, .ref q2, .ref q4, .ref q6, .int 5, .int 27, .ref q8, .ref q10, .int 0, .int 0, .int 0, .int 0, .int 0, .int 0, .int 0, .int 0, .int 0, .int 0, .int 2147483647, .int 0, .int 2147483647])), (q4, .inl (c5, 610, .inl f123)), (q6, .inl (c7, 610, .inl f124))]) hP hD hK [] [0, 1, 2, 3] [0, 1, 2] rfl rfl (by decide) (by decide) rfl hk1 hFc ht hvm hB
  have hP : va_P (dC, dI) cls [(q2, .inl (c3, 1260, .inl f144)), (h0, .inr (16, [.ref h1, .int 0, .ref q1, .ref q2, .ref q4, .ref q6, .int 5, .int 27, .ref q8, .ref q10, .int 0, .int 0, .int 0, .int 0, .int 0, .int 0, .int 0, .int 0, .int 0, .int 0, .int 2147483647, .int 0, .int 2147483647])), (q4, .inl (c5, 610, .inl f123)), (q6, .inl (c7, 610, .inl f124))] H := hP
  have hD : va_D A [(q2, .inl (c3, 1260, .inl f144)), (h0, .inr (16, [.ref h1, .int 0, .ref q1, .ref q2, .ref q4, .ref q6, .int 5, .int 27, .ref q8, .ref q10, .int 0, .int 0, .int 0, .int 0, .int 0, .int 0, .int 0, .int 0, .int 0, .int 0, .int 2147483647, .int 0, .int 2147483647])), (q4, .inl (c5, 610, .inl f123)), (q6, .inl (c7, 610, .inl f124))] := hD
  have hK : va_K (dC, dI) cls [(c3, .int), (c5, .int), (c7, .int)] s := hK
  refine W.widen (k := 19) (n := 19730) (Nat.le_of_ble_eq_true rfl) (Nat.le_of_ble_eq_true rfl) ?_
  obtain rfl : r146 = (((((kb (Int32.toNatClampNeg 32)) &&& 255)).toUInt32 % 65536).toInt32) := hw
  refine lv_topC (y := 110) (by decide) ?_
  refine lv_bipush (v := 32) hx hb dX19_init_104 (by decide) ?_
  refine lv_icmp_eq (tgt := 135) hx hb dX19_init_106 (by decide) (fun c => absurd c (by decide)) (fun _ => ?_)
  refine lv_aload_n hx hb dX19_init_109 rfl (lv_at hl 2 rfl) ?_
  refine va_get (D := (dC, dI)) (ci := 16) (v := .ref q2) (C := RX19) (T := TX19) (N := 23) hx hb hts i_X19 hown hK hP 1 rfl rfl 3 (by decide) (hts _ qw403) (fun _ h9 => h9) rfl dX19_init_110 ?_
  refine lv_aload_n hx hb dX19_init_113 rfl (lv_at hl 2 rfl) ?_
  refine lv_dup hx hb dX19_init_114 rfl ?_
  refine va_get (D := (dC, dI)) (ci := 16) (v := .int 27) (C := RX19) (T := TX19) (N := 23) hx hb hts i_X19 hown hK hP 1 rfl rfl 7 (by decide) (hts _ qw421) (fun _ h9 => h9) rfl dX19_init_115 ?_
  refine lv_dup_x1 hx hb dX19_init_118 rfl rfl ?_
  refine lv_iconst (v := 1) hx hb dX19_init_119 (by decide) ?_
  refine lv_iadd hx hb dX19_init_120 ?_
  refine lv_topC (y := 28) (by decide) ?_
  refine va_put (D := (dC, dI)) (ci := 16) (v := .int 28) (ty := .int) (C := RX19) (T := TX19) (N := 23) hx hb hts i_X19 tyX19 tyX19_ok nmX19 hown hK hP hD hS 1 rfl rfl 7 (by decide) (hts _ qw421) (fun _ h9 => h9) rfl (by decide +kernel) rfl rfl (Nat.le_of_ble_eq_true rfl) dX19_init_121 (fun H locs hP hD hS => ?_)
  have hP : va_P (dC, dI) cls [(q2, .inl (c3, 1260, .inl f144)), (h0, .inr (16, [.ref h1, .int 0, .ref q1, .ref q2, .ref q4, .ref q6, .int 5, .int 28, .ref q8, .ref q10, .int 0, .int 0, .int 0, .int 0, .int 0, .int 0, .int 0, .int 0, .int 0, .int 0, .int 2147483647, .int 0, .int 2147483647])), (q4, .inl (c5, 610, .inl f123)), (q6, .inl (c7, 610, .inl f124))] H := hP
  have hD : va_D A [(q2, .inl (c3, 1260, .inl f144)), (h0, .inr (16, [.ref h1, .int 0, .ref q1, .ref q2, .ref q4, .ref q6, .int 5, .int 28, .ref q8, .ref q10, .int 0, .int 0, .int 0, .int 0, .int 0, .int 0, .int 0, .int 0, .int 0, .int 0, .int 2147483647, .int 0, .int 2147483647])), (q4, .inl (c5, 610, .inl f123)), (q6, .inl (c7, 610, .inl f124))] := hD
  refine va_ldcS hx hb hown hE.2.2.2.2.2.2.2.2.1 dX19_init_124 ?_
  refine lv_iload hx hb dX19_init_126 (lv_at hl 0 rfl) ?_
  have hPc := hP.sub (ws' := []) [] rfl
  have hDc := hD.sub (ws' := []) [] (by decide) rfl
  have hKc := hK.sub (tys' := []) [] rfl
  have hFc := va_free (wc := []) hD hS hA [] rfl
  refine va_calli (va_runV (As := [.int 32]) (rest := [.int 27, .ref q2]) ⟨hx, hb, hml, hown, hts⟩ (kS_charAt l dC dI (p0 := 32) (sz := _) (h1 := (by decide)) (h2 := (by decide))) (cwV 1 hts (gi_V qw418 qw419 qw420 qw324 (gi_z qw417)) rfl rfl rfl (by decide +kernel) ⟨Nat.le_of_ble_eq_true rfl, Nat.le_of_ble_eq_true rfl⟩) ⟨PRE.blind, STC.recv hE.2.2.2.2.2.2.2.2 hS, PRE.of hE hS hFc hPc hKc hDc⟩ rfl rfl hl.1 rfl (lv_room (Nat.le_of_ble_eq_true rfl)) dX19_init_128 ⟨Nat.le_of_ble_eq_true rfl, Nat.le_of_ble_eq_true rfl⟩) hS (fun q _ h => hFc q h) hFc (fun r147 u t H locs ht hvm hw hB hz1 hk1 hS => ?_)
  obtain ⟨hP, hD, hK⟩ := JOIN (wr := [(q2, .inl (c3, 1260, .inl f144)), (h0, .inr (16, [.ref h1, .int 0, .ref q1, .ref q2, .ref q4, .ref q6, .int 5, .int 28, .ref q8, .ref q10, .int 0, .int 0, .int 0, .int 0, .int 0, .int 0, .int 0, .int 0, .int 0, .int 0, .int 2147483647, .int 0, .int 2147483647])), (q4, .inl (c5, 610, .inl f123)), (q6, .inl (c7, 610, .inl f124))]) hP hD hK [] [0, 1, 2, 3] [0, 1, 2] rfl rfl (by decide) (by decide) rfl hk1 hFc ht hvm hB
  have hP : va_P (dC, dI) cls [(q2, .inl (c3, 1260, .inl f144)), (h0, .inr (16, [.ref h1, .int 0, .ref q1, .ref q2, .ref q4, .ref q6, .int 5, .int 28, .ref q8, .ref q10, .int 0, .int 0, .int 0, .int 0, .int 0, .int 0, .int 0, .int 0, .int 0, .int 0, .int 2147483647, .int 0, .int 2147483647])), (q4, .inl (c5, 610, .inl f123)), (q6, .inl (c7, 610, .inl f124))] H := hP
  have hD : va_D A [(q2, .inl (c3, 1260, .inl f144)), (h0, .inr (16, [.ref h1, .int 0, .ref q1, .ref q2, .ref q4, .ref q6, .int 5, .int 28, .ref q8, .ref q10, .int 0, .int 0, .int 0, .int 0, .int 0, .int 0, .int 0, .int 0, .int 0, .int 0, .int 2147483647, .int 0, .int 2147483647])), (q4, .inl (c5, 610, .inl f123)), (q6, .inl (c7, 610, .inl f124))] := hD
  have hK : va_K (dC, dI) cls [(c3, .int), (c5, .int), (c7, .int)] s := hK
  refine W.widen (k := 19) (n := 19730) (Nat.le_of_ble_eq_true rfl) (Nat.le_of_ble_eq_true rfl) ?_
  obtain rfl : r147 = (((((kb (Int32.toNatClampNeg 32)) &&& 255)).toUInt32 % 65536).toInt32) := hw
  refine lv_topC (y := 110) (by decide) ?_
  refine va_iast hx hb hK hP hD hS 0 0 rfl rfl (by unfold vp_in; decide +kernel) dX19_init_131 (fun H locs hP hD hS => ?_)
  have hP : va_P (dC, dI) cls [(q2, .inl (c3, 1260, .inl (upd f144 (Int32.toNatClampNeg 27) 110))), (h0, .inr (16, [.ref h1, .int 0, .ref q1, .ref q2, .ref q4, .ref q6, .int 5, .int 28, .ref q8, .ref q10, .int 0, .int 0, .int 0, .int 0, .int 0, .int 0, .int 0, .int 0, .int 0, .int 0, .int 2147483647, .int 0, .int 2147483647])), (q4, .inl (c5, 610, .inl f123)), (q6, .inl (c7, 610, .inl f124))] H := hP
  have hD : va_D A [(q2, .inl (c3, 1260, .inl (upd f144 (Int32.toNatClampNeg 27) 110))), (h0, .inr (16, [.ref h1, .int 0, .ref q1, .ref q2, .ref q4, .ref q6, .int 5, .int 28, .ref q8, .ref q10, .int 0, .int 0, .int 0, .int 0, .int 0, .int 0, .int 0, .int 0, .int 0, .int 0, .int 2147483647, .int 0, .int 2147483647])), (q4, .inl (c5, 610, .inl f123)), (q6, .inl (c7, 610, .inl f124))] := hD
  generalize upd f144 (Int32.toNatClampNeg 27) 110 = f148 at hP hD
  refine lv_goto (tgt := 146) hx hb dX19_init_132 (by decide) ?_
  refine lv_iinc (v := 33) (lv' := [(4, .int 33), (3, .int 22), (0, .ref h0), (1, .ref h1), (2, .int 0)]) hx hb dX19_init_146 hl (k := 0) rfl (by decide) (by decide) rfl (fun ls hl => ?_)
  refine lv_goto (tgt := 87) hx hb dX19_init_149 (by decide) ?_
  refine lv_iload hx hb dX19_init_87 (lv_at hl 0 rfl) ?_
  refine va_ldcS hx hb hown hE.2.2.2.2.2.2.2.2.1 dX19_init_89 ?_
  have hPc := hP.sub (ws' := []) [] rfl
  have hDc := hD.sub (ws' := []) [] (by decide) rfl
  have hKc := hK.sub (tys' := []) [] rfl
  have hFc := va_free (wc := []) hD hS hA [] rfl
  refine va_calli (va_runV (As := []) (rest := [.int 33]) ⟨hx, hb, hml, hown, hts⟩ (kS_length l dC dI  (sz := _)) (cwV 0 hts (gi_V qw414 qw415 qw416 qw324 (gi_z qw413)) rfl rfl rfl (by decide +kernel) ⟨Nat.le_of_ble_eq_true rfl, Nat.le_of_ble_eq_true rfl⟩) ⟨PRE.blind, STC.recv hE.2.2.2.2.2.2.2.2 hS, PRE.of hE hS hFc hPc hKc hDc⟩ rfl rfl hl.1 rfl (lv_room (Nat.le_of_ble_eq_true rfl)) dX19_init_91 ⟨Nat.le_of_ble_eq_true rfl, Nat.le_of_ble_eq_true rfl⟩) hS (fun q _ h => hFc q h) hFc (fun r149 u t H locs ht hvm hw hB hz1 hk1 hS => ?_)
  obtain ⟨hP, hD, hK⟩ := JOIN (wr := [(q2, .inl (c3, 1260, .inl f148)), (h0, .inr (16, [.ref h1, .int 0, .ref q1, .ref q2, .ref q4, .ref q6, .int 5, .int 28, .ref q8, .ref q10, .int 0, .int 0, .int 0, .int 0, .int 0, .int 0, .int 0, .int 0, .int 0, .int 0, .int 2147483647, .int 0, .int 2147483647])), (q4, .inl (c5, 610, .inl f123)), (q6, .inl (c7, 610, .inl f124))]) hP hD hK [] [0, 1, 2, 3] [0, 1, 2] rfl rfl (by decide) (by decide) rfl hk1 hFc ht hvm hB
  have hP : va_P (dC, dI) cls [(q2, .inl (c3, 1260, .inl f148)), (h0, .inr (16, [.ref h1, .int 0, .ref q1, .ref q2, .ref q4, .ref q6, .int 5, .int 28, .ref q8, .ref q10, .int 0, .int 0, .int 0, .int 0, .int 0, .int 0, .int 0, .int 0, .int 0, .int 0, .int 2147483647, .int 0, .int 2147483647])), (q4, .inl (c5, 610, .inl f123)), (q6, .inl (c7, 610, .inl f124))] H := hP
  have hD : va_D A [(q2, .inl (c3, 1260, .inl f148)), (h0, .inr (16, [.ref h1, .int 0, .ref q1, .ref q2, .ref q4, .ref q6, .int 5, .int 28, .ref q8, .ref q10, .int 0, .int 0, .int 0, .int 0, .int 0, .int 0, .int 0, .int 0, .int 0, .int 0, .int 2147483647, .int 0, .int 2147483647])), (q4, .inl (c5, 610, .inl f123)), (q6, .inl (c7, 610, .inl f124))] := hD
  have hK : va_K (dC, dI) cls [(c3, .int), (c5, .int), (c7, .int)] s := hK
  refine W.widen (k := 19) (n := 19730) (Nat.le_of_ble_eq_true rfl) (Nat.le_of_ble_eq_true rfl) ?_
  obtain rfl : r149 = 44 := hw
  refine lv_icmp_ge (tgt := 152) hx hb dX19_init_94 (by decide) (fun c => absurd c (by decide)) (fun _ => ?_)
  refine va_ldcS hx hb hown hE.2.2.2.2.2.2.2.2.1 dX19_init_97 ?_
  refine lv_iload hx hb dX19_init_99 (lv_at hl 0 rfl) ?_
  have hPc := hP.sub (ws' := []) [] rfl
  have hDc := hD.sub (ws' := []) [] (by decide) rfl
  have hKc := hK.sub (tys' := []) [] rfl
  have hFc := va_free (wc := []) hD hS hA [] rfl
  refine va_calli (va_runV (As := [.int 33]) (rest := []) ⟨hx, hb, hml, hown, hts⟩ (kS_charAt l dC dI (p0 := 33) (sz := _) (h1 := (by decide)) (h2 := (by decide))) (cwV 1 hts (gi_V qw418 qw419 qw420 qw324 (gi_z qw417)) rfl rfl rfl (by decide +kernel) ⟨Nat.le_of_ble_eq_true rfl, Nat.le_of_ble_eq_true rfl⟩) ⟨PRE.blind, STC.recv hE.2.2.2.2.2.2.2.2 hS, PRE.of hE hS hFc hPc hKc hDc⟩ rfl rfl hl.1 rfl (lv_room (Nat.le_of_ble_eq_true rfl)) dX19_init_101 ⟨Nat.le_of_ble_eq_true rfl, Nat.le_of_ble_eq_true rfl⟩) hS (fun q _ h => hFc q h) hFc (fun r150 u t H locs ht hvm hw hB hz1 hk1 hS => ?_)
  obtain ⟨hP, hD, hK⟩ := JOIN (wr := [(q2, .inl (c3, 1260, .inl f148)), (h0, .inr (16, [.ref h1, .int 0, .ref q1, .ref q2, .ref q4, .ref q6, .int 5, .int 28, .ref q8, .ref q10, .int 0, .int 0, .int 0, .int 0, .int 0, .int 0, .int 0, .int 0, .int 0, .int 0, .int 2147483647, .int 0, .int 2147483647])), (q4, .inl (c5, 610, .inl f123)), (q6, .inl (c7, 610, .inl f124))]) hP hD hK [] [0, 1, 2, 3] [0, 1, 2] rfl rfl (by decide) (by decide) rfl hk1 hFc ht hvm hB
  have hP : va_P (dC, dI) cls [(q2, .inl (c3, 1260, .inl f148)), (h0, .inr (16, [.ref h1, .int 0, .ref q1, .ref q2, .ref q4, .ref q6, .int 5, .int 28, .ref q8, .ref q10, .int 0, .int 0, .int 0, .int 0, .int 0, .int 0, .int 0, .int 0, .int 0, .int 0, .int 2147483647, .int 0, .int 2147483647])), (q4, .inl (c5, 610, .inl f123)), (q6, .inl (c7, 610, .inl f124))] H := hP
  have hD : va_D A [(q2, .inl (c3, 1260, .inl f148)), (h0, .inr (16, [.ref h1, .int 0, .ref q1, .ref q2, .ref q4, .ref q6, .int 5, .int 28, .ref q8, .ref q10, .int 0, .int 0, .int 0, .int 0, .int 0, .int 0, .int 0, .int 0, .int 0, .int 0, .int 2147483647, .int 0, .int 2147483647])), (q4, .inl (c5, 610, .inl f123)), (q6, .inl (c7, 610, .inl f124))] := hD
  have hK : va_K (dC, dI) cls [(c3, .int), (c5, .int), (c7, .int)] s := hK
  refine W.widen (k := 19) (n := 19730) (Nat.le_of_ble_eq_true rfl) (Nat.le_of_ble_eq_true rfl) ?_
  obtain rfl : r150 = (((((kb (Int32.toNatClampNeg 33)) &&& 255)).toUInt32 % 65536).toInt32) := hw
  refine lv_topC (y := 32) (by decide) ?_
  refine lv_bipush (v := 32) hx hb dX19_init_104 (by decide) ?_
  refine lv_icmp_eq (tgt := 135) hx hb dX19_init_106 (by decide) (fun _ => ?_) (fun c => absurd (by decide) c)
  refine lv_aload_n hx hb dX19_init_135 rfl (lv_at hl 2 rfl) ?_
  refine lv_iload_n hx hb dX19_init_136 rfl (lv_at hl 1 rfl) ?_
  have hPc := hP.sub (ws' := [(h0, .inr (16, [.ref h1, .int 0, .ref q1, .ref q2, .ref q4, .ref q6, .int 5, .int 28, .ref q8, .ref q10, .int 0, .int 0, .int 0, .int 0, .int 0, .int 0, .int 0, .int 0, .int 0, .int 0, .int 2147483647, .int 0, .int 2147483647])), (q4, .inl (c5, 610, .inl f123)), (q6, .inl (c7, 610, .inl f124))]) [1, 2, 3] rfl
  have hDc := hD.sub (ws' := [(h0, .inr (16, [.ref h1, .int 0, .ref q1, .ref q2, .ref q4, .ref q6, .int 5, .int 28, .ref q8, .ref q10, .int 0, .int 0, .int 0, .int 0, .int 0, .int 0, .int 0, .int 0, .int 0, .int 0, .int 2147483647, .int 0, .int 2147483647])), (q4, .inl (c5, 610, .inl f123)), (q6, .inl (c7, 610, .inl f124))]) [1, 2, 3] (by decide) rfl
  have hKc := hK.sub (tys' := [(c5, .int), (c7, .int)]) [1, 2] rfl
  have hFc := va_free (wc := [(h0, .inr (16, [.ref h1, .int 0, .ref q1, .ref q2, .ref q4, .ref q6, .int 5, .int 28, .ref q8, .ref q10, .int 0, .int 0, .int 0, .int 0, .int 0, .int 0, .int 0, .int 0, .int 0, .int 0, .int 2147483647, .int 0, .int 2147483647])), (q4, .inl (c5, 610, .inl f123)), (q6, .inl (c7, 610, .inl f124))]) hD hS hA [1, 2, 3] rfl
  refine va_calli (va_runV (As := [.int 22]) (rest := []) ⟨hx, hb, hml, hown, hts⟩ (kX19_keep_n31 l dC dI (a0 := h0) (a2 := q2) (a4 := h1) (a5 := q1) (a6 := q4) (a7 := q6) (a8 := q8) (a9 := q10) (F10 := f123) (k11 := c5) (F12 := f124) (k13 := c7) (sz := _)) (cwV 1 hts (gi_V qw424 qw425 qw426 qw427 (gi_z qw423)) rfl rfl rfl (by decide +kernel) ⟨Nat.le_of_ble_eq_true rfl, Nat.le_of_ble_eq_true rfl⟩) ⟨PRE.blind, va_recv hKc hPc (ci := 16) (q0 := 0) rfl rfl, PRE.of hE hS hFc hPc hKc hDc⟩ rfl rfl hl.1 rfl (lv_room (Nat.le_of_ble_eq_true rfl)) dX19_init_137 ⟨Nat.le_of_ble_eq_true rfl, Nat.le_of_ble_eq_true rfl⟩) hS (fun q _ h => hFc q h) hFc (fun r151 u t H locs ht hvm hw hB hz1 hk1 hS => ?_)
  obtain ⟨f152, f153, hB⟩ := hB
  obtain ⟨hP, hD, hK⟩ := JOIN (wr := [(q2, .inl (c3, 1260, .inl f148))]) hP hD hK [1, 2, 3] [0] [0] rfl rfl (by decide) (by decide) rfl hk1 hFc ht hvm hB
  have hP : va_P (dC, dI) cls [(q2, .inl (c3, 1260, .inl f148)), (h0, .inr (16, [.ref h1, .int 0, .ref q1, .ref q2, .ref q4, .ref q6, .int 6, .int 28, .ref q8, .ref q10, .int 0, .int 0, .int 0, .int 0, .int 0, .int 0, .int 0, .int 0, .int 0, .int 0, .int 2147483647, .int 0, .int 2147483647])), (q4, .inl (c5, 610, .inl f152)), (q6, .inl (c7, 610, .inl f153))] H := hP
  have hD : va_D A [(q2, .inl (c3, 1260, .inl f148)), (h0, .inr (16, [.ref h1, .int 0, .ref q1, .ref q2, .ref q4, .ref q6, .int 6, .int 28, .ref q8, .ref q10, .int 0, .int 0, .int 0, .int 0, .int 0, .int 0, .int 0, .int 0, .int 0, .int 0, .int 2147483647, .int 0, .int 2147483647])), (q4, .inl (c5, 610, .inl f152)), (q6, .inl (c7, 610, .inl f153))] := hD
  have hK : va_K (dC, dI) cls [(c3, .int), (c5, .int), (c7, .int)] s := hK
  refine W.widen (k := 19) (n := 19730) (Nat.le_of_ble_eq_true rfl) (Nat.le_of_ble_eq_true rfl) ?_
  obtain rfl : r151 = 5 := hw
  refine lv_pop hx hb dX19_init_140 rfl ?_
  refine lv_aload_n hx hb dX19_init_141 rfl (lv_at hl 2 rfl) ?_
  refine va_get (D := (dC, dI)) (ci := 16) (v := .int 28) (C := RX19) (T := TX19) (N := 23) hx hb hts i_X19 hown hK hP 1 rfl rfl 7 (by decide) (hts _ qw421) (fun _ h9 => h9) rfl dX19_init_142 ?_
  refine lv_istore_n (lv' := [(3, .int 28), (4, .int 33), (0, .ref h0), (1, .ref h1), (2, .int 0)]) hx hb dX19_init_145 rfl hl (by decide) rfl (fun ls hl => ?_)
  refine lv_iinc (v := 34) (lv' := [(4, .int 34), (3, .int 28), (0, .ref h0), (1, .ref h1), (2, .int 0)]) hx hb dX19_init_146 hl (k := 1) rfl (by decide) (by decide) rfl (fun ls hl => ?_)
  refine lv_goto (tgt := 87) hx hb dX19_init_149 (by decide) ?_
  refine lv_iload hx hb dX19_init_87 (lv_at hl 0 rfl) ?_
  refine va_ldcS hx hb hown hE.2.2.2.2.2.2.2.2.1 dX19_init_89 ?_
  have hPc := hP.sub (ws' := []) [] rfl
  have hDc := hD.sub (ws' := []) [] (by decide) rfl
  have hKc := hK.sub (tys' := []) [] rfl
  have hFc := va_free (wc := []) hD hS hA [] rfl
  refine va_calli (va_runV (As := []) (rest := [.int 34]) ⟨hx, hb, hml, hown, hts⟩ (kS_length l dC dI  (sz := _)) (cwV 0 hts (gi_V qw414 qw415 qw416 qw324 (gi_z qw413)) rfl rfl rfl (by decide +kernel) ⟨Nat.le_of_ble_eq_true rfl, Nat.le_of_ble_eq_true rfl⟩) ⟨PRE.blind, STC.recv hE.2.2.2.2.2.2.2.2 hS, PRE.of hE hS hFc hPc hKc hDc⟩ rfl rfl hl.1 rfl (lv_room (Nat.le_of_ble_eq_true rfl)) dX19_init_91 ⟨Nat.le_of_ble_eq_true rfl, Nat.le_of_ble_eq_true rfl⟩) hS (fun q _ h => hFc q h) hFc (fun r154 u t H locs ht hvm hw hB hz1 hk1 hS => ?_)
  obtain ⟨hP, hD, hK⟩ := JOIN (wr := [(q2, .inl (c3, 1260, .inl f148)), (h0, .inr (16, [.ref h1, .int 0, .ref q1, .ref q2, .ref q4, .ref q6, .int 6, .int 28, .ref q8, .ref q10, .int 0, .int 0, .int 0, .int 0, .int 0, .int 0, .int 0, .int 0, .int 0, .int 0, .int 2147483647, .int 0, .int 2147483647])), (q4, .inl (c5, 610, .inl f152)), (q6, .inl (c7, 610, .inl f153))]) hP hD hK [] [0, 1, 2, 3] [0, 1, 2] rfl rfl (by decide) (by decide) rfl hk1 hFc ht hvm hB
  have hP : va_P (dC, dI) cls [(q2, .inl (c3, 1260, .inl f148)), (h0, .inr (16, [.ref h1, .int 0, .ref q1, .ref q2, .ref q4, .ref q6, .int 6, .int 28, .ref q8, .ref q10, .int 0, .int 0, .int 0, .int 0, .int 0, .int 0, .int 0, .int 0, .int 0, .int 0, .int 2147483647, .int 0, .int 2147483647])), (q4, .inl (c5, 610, .inl f152)), (q6, .inl (c7, 610, .inl f153))] H := hP
  have hD : va_D A [(q2, .inl (c3, 1260, .inl f148)), (h0, .inr (16, [.ref h1, .int 0, .ref q1, .ref q2, .ref q4, .ref q6, .int 6, .int 28, .ref q8, .ref q10, .int 0, .int 0, .int 0, .int 0, .int 0, .int 0, .int 0, .int 0, .int 0, .int 0, .int 2147483647, .int 0, .int 2147483647])), (q4, .inl (c5, 610, .inl f152)), (q6, .inl (c7, 610, .inl f153))] := hD
  have hK : va_K (dC, dI) cls [(c3, .int), (c5, .int), (c7, .int)] s := hK
  refine W.widen (k := 19) (n := 19730) (Nat.le_of_ble_eq_true rfl) (Nat.le_of_ble_eq_true rfl) ?_
  obtain rfl : r154 = 44 := hw
  refine lv_icmp_ge (tgt := 152) hx hb dX19_init_94 (by decide) (fun c => absurd c (by decide)) (fun _ => ?_)
  refine va_ldcS hx hb hown hE.2.2.2.2.2.2.2.2.1 dX19_init_97 ?_
  refine lv_iload hx hb dX19_init_99 (lv_at hl 0 rfl) ?_
  have hPc := hP.sub (ws' := []) [] rfl
  have hDc := hD.sub (ws' := []) [] (by decide) rfl
  have hKc := hK.sub (tys' := []) [] rfl
  have hFc := va_free (wc := []) hD hS hA [] rfl
  refine va_calli (va_runV (As := [.int 34]) (rest := []) ⟨hx, hb, hml, hown, hts⟩ (kS_charAt l dC dI (p0 := 34) (sz := _) (h1 := (by decide)) (h2 := (by decide))) (cwV 1 hts (gi_V qw418 qw419 qw420 qw324 (gi_z qw417)) rfl rfl rfl (by decide +kernel) ⟨Nat.le_of_ble_eq_true rfl, Nat.le_of_ble_eq_true rfl⟩) ⟨PRE.blind, STC.recv hE.2.2.2.2.2.2.2.2 hS, PRE.of hE hS hFc hPc hKc hDc⟩ rfl rfl hl.1 rfl (lv_room (Nat.le_of_ble_eq_true rfl)) dX19_init_101 ⟨Nat.le_of_ble_eq_true rfl, Nat.le_of_ble_eq_true rfl⟩) hS (fun q _ h => hFc q h) hFc (fun r155 u t H locs ht hvm hw hB hz1 hk1 hS => ?_)
  obtain ⟨hP, hD, hK⟩ := JOIN (wr := [(q2, .inl (c3, 1260, .inl f148)), (h0, .inr (16, [.ref h1, .int 0, .ref q1, .ref q2, .ref q4, .ref q6, .int 6, .int 28, .ref q8, .ref q10, .int 0, .int 0, .int 0, .int 0, .int 0, .int 0, .int 0, .int 0, .int 0, .int 0, .int 2147483647, .int 0, .int 2147483647])), (q4, .inl (c5, 610, .inl f152)), (q6, .inl (c7, 610, .inl f153))]) hP hD hK [] [0, 1, 2, 3] [0, 1, 2] rfl rfl (by decide) (by decide) rfl hk1 hFc ht hvm hB
  have hP : va_P (dC, dI) cls [(q2, .inl (c3, 1260, .inl f148)), (h0, .inr (16, [.ref h1, .int 0, .ref q1, .ref q2, .ref q4, .ref q6, .int 6, .int 28, .ref q8, .ref q10, .int 0, .int 0, .int 0, .int 0, .int 0, .int 0, .int 0, .int 0, .int 0, .int 0, .int 2147483647, .int 0, .int 2147483647])), (q4, .inl (c5, 610, .inl f152)), (q6, .inl (c7, 610, .inl f153))] H := hP
  have hD : va_D A [(q2, .inl (c3, 1260, .inl f148)), (h0, .inr (16, [.ref h1, .int 0, .ref q1, .ref q2, .ref q4, .ref q6, .int 6, .int 28, .ref q8, .ref q10, .int 0, .int 0, .int 0, .int 0, .int 0, .int 0, .int 0, .int 0, .int 0, .int 0, .int 2147483647, .int 0, .int 2147483647])), (q4, .inl (c5, 610, .inl f152)), (q6, .inl (c7, 610, .inl f153))] := hD
  have hK : va_K (dC, dI) cls [(c3, .int), (c5, .int), (c7, .int)] s := hK
  refine W.widen (k := 19) (n := 19730) (Nat.le_of_ble_eq_true rfl) (Nat.le_of_ble_eq_true rfl) ?_
  obtain rfl : r155 = (((((kb (Int32.toNatClampNeg 34)) &&& 255)).toUInt32 % 65536).toInt32) := hw
  refine lv_topC (y := 118) (by decide) ?_
  refine lv_bipush (v := 32) hx hb dX19_init_104 (by decide) ?_
  refine lv_icmp_eq (tgt := 135) hx hb dX19_init_106 (by decide) (fun c => absurd c (by decide)) (fun _ => ?_)
  refine lv_aload_n hx hb dX19_init_109 rfl (lv_at hl 2 rfl) ?_
  refine va_get (D := (dC, dI)) (ci := 16) (v := .ref q2) (C := RX19) (T := TX19) (N := 23) hx hb hts i_X19 hown hK hP 1 rfl rfl 3 (by decide) (hts _ qw403) (fun _ h9 => h9) rfl dX19_init_110 ?_
  refine lv_aload_n hx hb dX19_init_113 rfl (lv_at hl 2 rfl) ?_
  refine lv_dup hx hb dX19_init_114 rfl ?_
  refine va_get (D := (dC, dI)) (ci := 16) (v := .int 28) (C := RX19) (T := TX19) (N := 23) hx hb hts i_X19 hown hK hP 1 rfl rfl 7 (by decide) (hts _ qw421) (fun _ h9 => h9) rfl dX19_init_115 ?_
  refine lv_dup_x1 hx hb dX19_init_118 rfl rfl ?_
  refine lv_iconst (v := 1) hx hb dX19_init_119 (by decide) ?_
  refine lv_iadd hx hb dX19_init_120 ?_
  refine lv_topC (y := 29) (by decide) ?_
  refine va_put (D := (dC, dI)) (ci := 16) (v := .int 29) (ty := .int) (C := RX19) (T := TX19) (N := 23) hx hb hts i_X19 tyX19 tyX19_ok nmX19 hown hK hP hD hS 1 rfl rfl 7 (by decide) (hts _ qw421) (fun _ h9 => h9) rfl (by decide +kernel) rfl rfl (Nat.le_of_ble_eq_true rfl) dX19_init_121 (fun H locs hP hD hS => ?_)
  have hP : va_P (dC, dI) cls [(q2, .inl (c3, 1260, .inl f148)), (h0, .inr (16, [.ref h1, .int 0, .ref q1, .ref q2, .ref q4, .ref q6, .int 6, .int 29, .ref q8, .ref q10, .int 0, .int 0, .int 0, .int 0, .int 0, .int 0, .int 0, .int 0, .int 0, .int 0, .int 2147483647, .int 0, .int 2147483647])), (q4, .inl (c5, 610, .inl f152)), (q6, .inl (c7, 610, .inl f153))] H := hP
  have hD : va_D A [(q2, .inl (c3, 1260, .inl f148)), (h0, .inr (16, [.ref h1, .int 0, .ref q1, .ref q2, .ref q4, .ref q6, .int 6, .int 29, .ref q8, .ref q10, .int 0, .int 0, .int 0, .int 0, .int 0, .int 0, .int 0, .int 0, .int 0, .int 0, .int 2147483647, .int 0, .int 2147483647])), (q4, .inl (c5, 610, .inl f152)), (q6, .inl (c7, 610, .inl f153))] := hD
  refine va_ldcS hx hb hown hE.2.2.2.2.2.2.2.2.1 dX19_init_124 ?_
  refine lv_iload hx hb dX19_init_126 (lv_at hl 0 rfl) ?_
  have hPc := hP.sub (ws' := []) [] rfl
  have hDc := hD.sub (ws' := []) [] (by decide) rfl
  have hKc := hK.sub (tys' := []) [] rfl
  have hFc := va_free (wc := []) hD hS hA [] rfl
  refine va_calli (va_runV (As := [.int 34]) (rest := [.int 28, .ref q2]) ⟨hx, hb, hml, hown, hts⟩ (kS_charAt l dC dI (p0 := 34) (sz := _) (h1 := (by decide)) (h2 := (by decide))) (cwV 1 hts (gi_V qw418 qw419 qw420 qw324 (gi_z qw417)) rfl rfl rfl (by decide +kernel) ⟨Nat.le_of_ble_eq_true rfl, Nat.le_of_ble_eq_true rfl⟩) ⟨PRE.blind, STC.recv hE.2.2.2.2.2.2.2.2 hS, PRE.of hE hS hFc hPc hKc hDc⟩ rfl rfl hl.1 rfl (lv_room (Nat.le_of_ble_eq_true rfl)) dX19_init_128 ⟨Nat.le_of_ble_eq_true rfl, Nat.le_of_ble_eq_true rfl⟩) hS (fun q _ h => hFc q h) hFc (fun r156 u t H locs ht hvm hw hB hz1 hk1 hS => ?_)
  obtain ⟨hP, hD, hK⟩ := JOIN (wr := [(q2, .inl (c3, 1260, .inl f148)), (h0, .inr (16, [.ref h1, .int 0, .ref q1, .ref q2, .ref q4, .ref q6, .int 6, .int 29, .ref q8, .ref q10, .int 0, .int 0, .int 0, .int 0, .int 0, .int 0, .int 0, .int 0, .int 0, .int 0, .int 2147483647, .int 0, .int 2147483647])), (q4, .inl (c5, 610, .inl f152)), (q6, .inl (c7, 610, .inl f153))]) hP hD hK [] [0, 1, 2, 3] [0, 1, 2] rfl rfl (by decide) (by decide) rfl hk1 hFc ht hvm hB
  have hP : va_P (dC, dI) cls [(q2, .inl (c3, 1260, .inl f148)), (h0, .inr (16, [.ref h1, .int 0, .ref q1, .ref q2, .ref q4, .ref q6, .int 6, .int 29, .ref q8, .ref q10, .int 0, .int 0, .int 0, .int 0, .int 0, .int 0, .int 0, .int 0, .int 0, .int 0, .int 2147483647, .int 0, .int 2147483647])), (q4, .inl (c5, 610, .inl f152)), (q6, .inl (c7, 610, .inl f153))] H := hP
  have hD : va_D A [(q2, .inl (c3, 1260, .inl f148)), (h0, .inr (16, [.ref h1, .int 0, .ref q1, .ref q2, .ref q4, .ref q6, .int 6, .int 29, .ref q8, .ref q10, .int 0, .int 0, .int 0, .int 0, .int 0, .int 0, .int 0, .int 0, .int 0, .int 0, .int 2147483647, .int 0, .int 2147483647])), (q4, .inl (c5, 610, .inl f152)), (q6, .inl (c7, 610, .inl f153))] := hD
  have hK : va_K (dC, dI) cls [(c3, .int), (c5, .int), (c7, .int)] s := hK
  refine W.widen (k := 19) (n := 19730) (Nat.le_of_ble_eq_true rfl) (Nat.le_of_ble_eq_true rfl) ?_
  obtain rfl : r156 = (((((kb (Int32.toNatClampNeg 34)) &&& 255)).toUInt32 % 65536).toInt32) := hw
  refine lv_topC (y := 118) (by decide) ?_
  refine va_iast hx hb hK hP hD hS 0 0 rfl rfl (by unfold vp_in; decide +kernel) dX19_init_131 (fun H locs hP hD hS => ?_)
  have hP : va_P (dC, dI) cls [(q2, .inl (c3, 1260, .inl (upd f148 (Int32.toNatClampNeg 28) 118))), (h0, .inr (16, [.ref h1, .int 0, .ref q1, .ref q2, .ref q4, .ref q6, .int 6, .int 29, .ref q8, .ref q10, .int 0, .int 0, .int 0, .int 0, .int 0, .int 0, .int 0, .int 0, .int 0, .int 0, .int 2147483647, .int 0, .int 2147483647])), (q4, .inl (c5, 610, .inl f152)), (q6, .inl (c7, 610, .inl f153))] H := hP
  have hD : va_D A [(q2, .inl (c3, 1260, .inl (upd f148 (Int32.toNatClampNeg 28) 118))), (h0, .inr (16, [.ref h1, .int 0, .ref q1, .ref q2, .ref q4, .ref q6, .int 6, .int 29, .ref q8, .ref q10, .int 0, .int 0, .int 0, .int 0, .int 0, .int 0, .int 0, .int 0, .int 0, .int 0, .int 2147483647, .int 0, .int 2147483647])), (q4, .inl (c5, 610, .inl f152)), (q6, .inl (c7, 610, .inl f153))] := hD
  generalize upd f148 (Int32.toNatClampNeg 28) 118 = f157 at hP hD
  refine lv_goto (tgt := 146) hx hb dX19_init_132 (by decide) ?_
  refine lv_iinc (v := 35) (lv' := [(4, .int 35), (3, .int 28), (0, .ref h0), (1, .ref h1), (2, .int 0)]) hx hb dX19_init_146 hl (k := 0) rfl (by decide) (by decide) rfl (fun ls hl => ?_)
  refine lv_goto (tgt := 87) hx hb dX19_init_149 (by decide) ?_
  refine lv_iload hx hb dX19_init_87 (lv_at hl 0 rfl) ?_
  refine va_ldcS hx hb hown hE.2.2.2.2.2.2.2.2.1 dX19_init_89 ?_
  have hPc := hP.sub (ws' := []) [] rfl
  have hDc := hD.sub (ws' := []) [] (by decide) rfl
  have hKc := hK.sub (tys' := []) [] rfl
  have hFc := va_free (wc := []) hD hS hA [] rfl
  refine va_calli (va_runV (As := []) (rest := [.int 35]) ⟨hx, hb, hml, hown, hts⟩ (kS_length l dC dI  (sz := _)) (cwV 0 hts (gi_V qw414 qw415 qw416 qw324 (gi_z qw413)) rfl rfl rfl (by decide +kernel) ⟨Nat.le_of_ble_eq_true rfl, Nat.le_of_ble_eq_true rfl⟩) ⟨PRE.blind, STC.recv hE.2.2.2.2.2.2.2.2 hS, PRE.of hE hS hFc hPc hKc hDc⟩ rfl rfl hl.1 rfl (lv_room (Nat.le_of_ble_eq_true rfl)) dX19_init_91 ⟨Nat.le_of_ble_eq_true rfl, Nat.le_of_ble_eq_true rfl⟩) hS (fun q _ h => hFc q h) hFc (fun r158 u t H locs ht hvm hw hB hz1 hk1 hS => ?_)
  obtain ⟨hP, hD, hK⟩ := JOIN (wr := [(q2, .inl (c3, 1260, .inl f157)), (h0, .inr (16, [.ref h1, .int 0, .ref q1, .ref q2, .ref q4, .ref q6, .int 6, .int 29, .ref q8, .ref q10, .int 0, .int 0, .int 0, .int 0, .int 0, .int 0, .int 0, .int 0, .int 0, .int 0, .int 2147483647, .int 0, .int 2147483647])), (q4, .inl (c5, 610, .inl f152)), (q6, .inl (c7, 610, .inl f153))]) hP hD hK [] [0, 1, 2, 3] [0, 1, 2] rfl rfl (by decide) (by decide) rfl hk1 hFc ht hvm hB
  have hP : va_P (dC, dI) cls [(q2, .inl (c3, 1260, .inl f157)), (h0, .inr (16, [.ref h1, .int 0, .ref q1, .ref q2, .ref q4, .ref q6, .int 6, .int 29, .ref q8, .ref q10, .int 0, .int 0, .int 0, .int 0, .int 0, .int 0, .int 0, .int 0, .int 0, .int 0, .int 2147483647, .int 0, .int 2147483647])), (q4, .inl (c5, 610, .inl f152)), (q6, .inl (c7, 610, .inl f153))] H := hP
  have hD : va_D A [(q2, .inl (c3, 1260, .inl f157)), (h0, .inr (16, [.ref h1, .int 0, .ref q1, .ref q2, .ref q4, .ref q6, .int 6, .int 29, .ref q8, .ref q10, .int 0, .int 0, .int 0, .int 0, .int 0, .int 0, .int 0, .int 0, .int 0, .int 0, .int 2147483647, .int 0, .int 2147483647])), (q4, .inl (c5, 610, .inl f152)), (q6, .inl (c7, 610, .inl f153))] := hD
  have hK : va_K (dC, dI) cls [(c3, .int), (c5, .int), (c7, .int)] s := hK
  refine W.widen (k := 19) (n := 19730) (Nat.le_of_ble_eq_true rfl) (Nat.le_of_ble_eq_true rfl) ?_
  obtain rfl : r158 = 44 := hw
  refine lv_icmp_ge (tgt := 152) hx hb dX19_init_94 (by decide) (fun c => absurd c (by decide)) (fun _ => ?_)
  refine va_ldcS hx hb hown hE.2.2.2.2.2.2.2.2.1 dX19_init_97 ?_
  refine lv_iload hx hb dX19_init_99 (lv_at hl 0 rfl) ?_
  have hPc := hP.sub (ws' := []) [] rfl
  have hDc := hD.sub (ws' := []) [] (by decide) rfl
  have hKc := hK.sub (tys' := []) [] rfl
  have hFc := va_free (wc := []) hD hS hA [] rfl
  refine va_calli (va_runV (As := [.int 35]) (rest := []) ⟨hx, hb, hml, hown, hts⟩ (kS_charAt l dC dI (p0 := 35) (sz := _) (h1 := (by decide)) (h2 := (by decide))) (cwV 1 hts (gi_V qw418 qw419 qw420 qw324 (gi_z qw417)) rfl rfl rfl (by decide +kernel) ⟨Nat.le_of_ble_eq_true rfl, Nat.le_of_ble_eq_true rfl⟩) ⟨PRE.blind, STC.recv hE.2.2.2.2.2.2.2.2 hS, PRE.of hE hS hFc hPc hKc hDc⟩ rfl rfl hl.1 rfl (lv_room (Nat.le_of_ble_eq_true rfl)) dX19_init_101 ⟨Nat.le_of_ble_eq_true rfl, Nat.le_of_ble_eq_true rfl⟩) hS (fun q _ h => hFc q h) hFc (fun r159 u t H locs ht hvm hw hB hz1 hk1 hS => ?_)
  obtain ⟨hP, hD, hK⟩ := JOIN (wr := [(q2, .inl (c3, 1260, .inl f157)), (h0, .inr (16, [.ref h1, .int 0, .ref q1, .ref q2, .ref q4, .ref q6, .int 6, .int 29, .ref q8, .ref q10, .int 0, .int 0, .int 0, .int 0, .int 0, .int 0, .int 0, .int 0, .int 0, .int 0, .int 2147483647, .int 0, .int 2147483647])), (q4, .inl (c5, 610, .inl f152)), (q6, .inl (c7, 610, .inl f153))]) hP hD hK [] [0, 1, 2, 3] [0, 1, 2] rfl rfl (by decide) (by decide) rfl hk1 hFc ht hvm hB
  have hP : va_P (dC, dI) cls [(q2, .inl (c3, 1260, .inl f157)), (h0, .inr (16, [.ref h1, .int 0, .ref q1, .ref q2, .ref q4, .ref q6, .int 6, .int 29, .ref q8, .ref q10, .int 0, .int 0, .int 0, .int 0, .int 0, .int 0, .int 0, .int 0, .int 0, .int 0, .int 2147483647, .int 0, .int 2147483647])), (q4, .inl (c5, 610, .inl f152)), (q6, .inl (c7, 610, .inl f153))] H := hP
  have hD : va_D A [(q2, .inl (c3, 1260, .inl f157)), (h0, .inr (16, [.ref h1, .int 0, .ref q1, .ref q2, .ref q4, .ref q6, .int 6, .int 29, .ref q8, .ref q10, .int 0, .int 0, .int 0, .int 0, .int 0, .int 0, .int 0, .int 0, .int 0, .int 0, .int 2147483647, .int 0, .int 2147483647])), (q4, .inl (c5, 610, .inl f152)), (q6, .inl (c7, 610, .inl f153))] := hD
  have hK : va_K (dC, dI) cls [(c3, .int), (c5, .int), (c7, .int)] s := hK
  refine W.widen (k := 19) (n := 19730) (Nat.le_of_ble_eq_true rfl) (Nat.le_of_ble_eq_true rfl) ?_
  obtain rfl : r159 = (((((kb (Int32.toNatClampNeg 35)) &&& 255)).toUInt32 % 65536).toInt32) := hw
  refine lv_topC (y := 97) (by decide) ?_
  refine lv_bipush (v := 32) hx hb dX19_init_104 (by decide) ?_
  refine lv_icmp_eq (tgt := 135) hx hb dX19_init_106 (by decide) (fun c => absurd c (by decide)) (fun _ => ?_)
  refine lv_aload_n hx hb dX19_init_109 rfl (lv_at hl 2 rfl) ?_
  refine va_get (D := (dC, dI)) (ci := 16) (v := .ref q2) (C := RX19) (T := TX19) (N := 23) hx hb hts i_X19 hown hK hP 1 rfl rfl 3 (by decide) (hts _ qw403) (fun _ h9 => h9) rfl dX19_init_110 ?_
  refine lv_aload_n hx hb dX19_init_113 rfl (lv_at hl 2 rfl) ?_
  refine lv_dup hx hb dX19_init_114 rfl ?_
  refine va_get (D := (dC, dI)) (ci := 16) (v := .int 29) (C := RX19) (T := TX19) (N := 23) hx hb hts i_X19 hown hK hP 1 rfl rfl 7 (by decide) (hts _ qw421) (fun _ h9 => h9) rfl dX19_init_115 ?_
  refine lv_dup_x1 hx hb dX19_init_118 rfl rfl ?_
  refine lv_iconst (v := 1) hx hb dX19_init_119 (by decide) ?_
  refine lv_iadd hx hb dX19_init_120 ?_
  refine lv_topC (y := 30) (by decide) ?_
  refine va_put (D := (dC, dI)) (ci := 16) (v := .int 30) (ty := .int) (C := RX19) (T := TX19) (N := 23) hx hb hts i_X19 tyX19 tyX19_ok nmX19 hown hK hP hD hS 1 rfl rfl 7 (by decide) (hts _ qw421) (fun _ h9 => h9) rfl (by decide +kernel) rfl rfl (Nat.le_of_ble_eq_true rfl) dX19_init_121 (fun H locs hP hD hS => ?_)
  have hP : va_P (dC, dI) cls [(q2, .inl (c3, 1260, .inl f157)), (h0, .inr (16, [.ref h1, .int 0, .ref q1, .ref q2, .ref q4, .ref q6, .int 6, .int 30, .ref q8, .ref q10, .int 0, .int 0, .int 0, .int 0, .int 0, .int 0, .int 0, .int 0, .int 0, .int 0, .int 2147483647, .int 0, .int 2147483647])), (q4, .inl (c5, 610, .inl f152)), (q6, .inl (c7, 610, .inl f153))] H := hP
  have hD : va_D A [(q2, .inl (c3, 1260, .inl f157)), (h0, .inr (16, [.ref h1, .int 0, .ref q1, .ref q2, .ref q4, .ref q6, .int 6, .int 30, .ref q8, .ref q10, .int 0, .int 0, .int 0, .int 0, .int 0, .int 0, .int 0, .int 0, .int 0, .int 0, .int 2147483647, .int 0, .int 2147483647])), (q4, .inl (c5, 610, .inl f152)), (q6, .inl (c7, 610, .inl f153))] := hD
  refine va_ldcS hx hb hown hE.2.2.2.2.2.2.2.2.1 dX19_init_124 ?_
  refine lv_iload hx hb dX19_init_126 (lv_at hl 0 rfl) ?_
  have hPc := hP.sub (ws' := []) [] rfl
  have hDc := hD.sub (ws' := []) [] (by decide) rfl
  have hKc := hK.sub (tys' := []) [] rfl
  have hFc := va_free (wc := []) hD hS hA [] rfl
  refine va_calli (va_runV (As := [.int 35]) (rest := [.int 29, .ref q2]) ⟨hx, hb, hml, hown, hts⟩ (kS_charAt l dC dI (p0 := 35) (sz := _) (h1 := (by decide)) (h2 := (by decide))) (cwV 1 hts (gi_V qw418 qw419 qw420 qw324 (gi_z qw417)) rfl rfl rfl (by decide +kernel) ⟨Nat.le_of_ble_eq_true rfl, Nat.le_of_ble_eq_true rfl⟩) ⟨PRE.blind, STC.recv hE.2.2.2.2.2.2.2.2 hS, PRE.of hE hS hFc hPc hKc hDc⟩ rfl rfl hl.1 rfl (lv_room (Nat.le_of_ble_eq_true rfl)) dX19_init_128 ⟨Nat.le_of_ble_eq_true rfl, Nat.le_of_ble_eq_true rfl⟩) hS (fun q _ h => hFc q h) hFc (fun r160 u t H locs ht hvm hw hB hz1 hk1 hS => ?_)
  obtain ⟨hP, hD, hK⟩ := JOIN (wr := [(q2, .inl (c3, 1260, .inl f157)), (h0, .inr (16, [.ref h1, .int 0, .ref q1, .ref q2, .ref q4, .ref q6, .int 6, .int 30, .ref q8, .ref q10, .int 0, .int 0, .int 0, .int 0, .int 0, .int 0, .int 0, .int 0, .int 0, .int 0, .int 2147483647, .int 0, .int 2147483647])), (q4, .inl (c5, 610, .inl f152)), (q6, .inl (c7, 610, .inl f153))]) hP hD hK [] [0, 1, 2, 3] [0, 1, 2] rfl rfl (by decide) (by decide) rfl hk1 hFc ht hvm hB
  have hP : va_P (dC, dI) cls [(q2, .inl (c3, 1260, .inl f157)), (h0, .inr (16, [.ref h1, .int 0, .ref q1, .ref q2, .ref q4, .ref q6, .int 6, .int 30, .ref q8, .ref q10, .int 0, .int 0, .int 0, .int 0, .int 0, .int 0, .int 0, .int 0, .int 0, .int 0, .int 2147483647, .int 0, .int 2147483647])), (q4, .inl (c5, 610, .inl f152)), (q6, .inl (c7, 610, .inl f153))] H := hP
  have hD : va_D A [(q2, .inl (c3, 1260, .inl f157)), (h0, .inr (16, [.ref h1, .int 0, .ref q1, .ref q2, .ref q4, .ref q6, .int 6, .int 30, .ref q8, .ref q10, .int 0, .int 0, .int 0, .int 0, .int 0, .int 0, .int 0, .int 0, .int 0, .int 0, .int 2147483647, .int 0, .int 2147483647])), (q4, .inl (c5, 610, .inl f152)), (q6, .inl (c7, 610, .inl f153))] := hD
  have hK : va_K (dC, dI) cls [(c3, .int), (c5, .int), (c7, .int)] s := hK
  refine W.widen (k := 19) (n := 19730) (Nat.le_of_ble_eq_true rfl) (Nat.le_of_ble_eq_true rfl) ?_
  obtain rfl : r160 = (((((kb (Int32.toNatClampNeg 35)) &&& 255)).toUInt32 % 65536).toInt32) := hw
  refine lv_topC (y := 97) (by decide) ?_
  refine va_iast hx hb hK hP hD hS 0 0 rfl rfl (by unfold vp_in; decide +kernel) dX19_init_131 (fun H locs hP hD hS => ?_)
  have hP : va_P (dC, dI) cls [(q2, .inl (c3, 1260, .inl (upd f157 (Int32.toNatClampNeg 29) 97))), (h0, .inr (16, [.ref h1, .int 0, .ref q1, .ref q2, .ref q4, .ref q6, .int 6, .int 30, .ref q8, .ref q10, .int 0, .int 0, .int 0, .int 0, .int 0, .int 0, .int 0, .int 0, .int 0, .int 0, .int 2147483647, .int 0, .int 2147483647])), (q4, .inl (c5, 610, .inl f152)), (q6, .inl (c7, 610, .inl f153))] H := hP
  have hD : va_D A [(q2, .inl (c3, 1260, .inl (upd f157 (Int32.toNatClampNeg 29) 97))), (h0, .inr (16, [.ref h1, .int 0, .ref q1, .ref q2, .ref q4, .ref q6, .int 6, .int 30, .ref q8, .ref q10, .int 0, .int 0, .int 0, .int 0, .int 0, .int 0, .int 0, .int 0, .int 0, .int 0, .int 2147483647, .int 0, .int 2147483647])), (q4, .inl (c5, 610, .inl f152)), (q6, .inl (c7, 610, .inl f153))] := hD
  generalize upd f157 (Int32.toNatClampNeg 29) 97 = f161 at hP hD
  refine lv_goto (tgt := 146) hx hb dX19_init_132 (by decide) ?_
  refine lv_iinc (v := 36) (lv' := [(4, .int 36), (3, .int 28), (0, .ref h0), (1, .ref h1), (2, .int 0)]) hx hb dX19_init_146 hl (k := 0) rfl (by decide) (by decide) rfl (fun ls hl => ?_)
  refine lv_goto (tgt := 87) hx hb dX19_init_149 (by decide) ?_
  refine lv_iload hx hb dX19_init_87 (lv_at hl 0 rfl) ?_
  refine va_ldcS hx hb hown hE.2.2.2.2.2.2.2.2.1 dX19_init_89 ?_
  have hPc := hP.sub (ws' := []) [] rfl
  have hDc := hD.sub (ws' := []) [] (by decide) rfl
  have hKc := hK.sub (tys' := []) [] rfl
  have hFc := va_free (wc := []) hD hS hA [] rfl
  refine va_calli (va_runV (As := []) (rest := [.int 36]) ⟨hx, hb, hml, hown, hts⟩ (kS_length l dC dI  (sz := _)) (cwV 0 hts (gi_V qw414 qw415 qw416 qw324 (gi_z qw413)) rfl rfl rfl (by decide +kernel) ⟨Nat.le_of_ble_eq_true rfl, Nat.le_of_ble_eq_true rfl⟩) ⟨PRE.blind, STC.recv hE.2.2.2.2.2.2.2.2 hS, PRE.of hE hS hFc hPc hKc hDc⟩ rfl rfl hl.1 rfl (lv_room (Nat.le_of_ble_eq_true rfl)) dX19_init_91 ⟨Nat.le_of_ble_eq_true rfl, Nat.le_of_ble_eq_true rfl⟩) hS (fun q _ h => hFc q h) hFc (fun r162 u t H locs ht hvm hw hB hz1 hk1 hS => ?_)
  obtain ⟨hP, hD, hK⟩ := JOIN (wr := [(q2, .inl (c3, 1260, .inl f161)), (h0, .inr (16, [.ref h1, .int 0, .ref q1, .ref q2, .ref q4, .ref q6, .int 6, .int 30, .ref q8, .ref q10, .int 0, .int 0, .int 0, .int 0, .int 0, .int 0, .int 0, .int 0, .int 0, .int 0, .int 2147483647, .int 0, .int 2147483647])), (q4, .inl (c5, 610, .inl f152)), (q6, .inl (c7, 610, .inl f153))]) hP hD hK [] [0, 1, 2, 3] [0, 1, 2] rfl rfl (by decide) (by decide) rfl hk1 hFc ht hvm hB
  have hP : va_P (dC, dI) cls [(q2, .inl (c3, 1260, .inl f161)), (h0, .inr (16, [.ref h1, .int 0, .ref q1, .ref q2, .ref q4, .ref q6, .int 6, .int 30, .ref q8, .ref q10, .int 0, .int 0, .int 0, .int 0, .int 0, .int 0, .int 0, .int 0, .int 0, .int 0, .int 2147483647, .int 0, .int 2147483647])), (q4, .inl (c5, 610, .inl f152)), (q6, .inl (c7, 610, .inl f153))] H := hP
  have hD : va_D A [(q2, .inl (c3, 1260, .inl f161)), (h0, .inr (16, [.ref h1, .int 0, .ref q1, .ref q2, .ref q4, .ref q6, .int 6, .int 30, .ref q8, .ref q10, .int 0, .int 0, .int 0, .int 0, .int 0, .int 0, .int 0, .int 0, .int 0, .int 0, .int 2147483647, .int 0, .int 2147483647])), (q4, .inl (c5, 610, .inl f152)), (q6, .inl (c7, 610, .inl f153))] := hD
  have hK : va_K (dC, dI) cls [(c3, .int), (c5, .int), (c7, .int)] s := hK
  refine W.widen (k := 19) (n := 19730) (Nat.le_of_ble_eq_true rfl) (Nat.le_of_ble_eq_true rfl) ?_
  obtain rfl : r162 = 44 := hw
  refine lv_icmp_ge (tgt := 152) hx hb dX19_init_94 (by decide) (fun c => absurd c (by decide)) (fun _ => ?_)
  refine va_ldcS hx hb hown hE.2.2.2.2.2.2.2.2.1 dX19_init_97 ?_
  refine lv_iload hx hb dX19_init_99 (lv_at hl 0 rfl) ?_
  have hPc := hP.sub (ws' := []) [] rfl
  have hDc := hD.sub (ws' := []) [] (by decide) rfl
  have hKc := hK.sub (tys' := []) [] rfl
  have hFc := va_free (wc := []) hD hS hA [] rfl
  refine va_calli (va_runV (As := [.int 36]) (rest := []) ⟨hx, hb, hml, hown, hts⟩ (kS_charAt l dC dI (p0 := 36) (sz := _) (h1 := (by decide)) (h2 := (by decide))) (cwV 1 hts (gi_V qw418 qw419 qw420 qw324 (gi_z qw417)) rfl rfl rfl (by decide +kernel) ⟨Nat.le_of_ble_eq_true rfl, Nat.le_of_ble_eq_true rfl⟩) ⟨PRE.blind, STC.recv hE.2.2.2.2.2.2.2.2 hS, PRE.of hE hS hFc hPc hKc hDc⟩ rfl rfl hl.1 rfl (lv_room (Nat.le_of_ble_eq_true rfl)) dX19_init_101 ⟨Nat.le_of_ble_eq_true rfl, Nat.le_of_ble_eq_true rfl⟩) hS (fun q _ h => hFc q h) hFc (fun r163 u t H locs ht hvm hw hB hz1 hk1 hS => ?_)
  obtain ⟨hP, hD, hK⟩ := JOIN (wr := [(q2, .inl (c3, 1260, .inl f161)), (h0, .inr (16, [.ref h1, .int 0, .ref q1, .ref q2, .ref q4, .ref q6, .int 6, .int 30, .ref q8, .ref q10, .int 0, .int 0, .int 0, .int 0, .int 0, .int 0, .int 0, .int 0, .int 0, .int 0, .int 2147483647, .int 0, .int 2147483647])), (q4, .inl (c5, 610, .inl f152)), (q6, .inl (c7, 610, .inl f153))]) hP hD hK [] [0, 1, 2, 3] [0, 1, 2] rfl rfl (by decide) (by decide) rfl hk1 hFc ht hvm hB
  have hP : va_P (dC, dI) cls [(q2, .inl (c3, 1260, .inl f161)), (h0, .inr (16, [.ref h1, .int 0, .ref q1, .ref q2, .ref q4, .ref q6, .int 6, .int 30, .ref q8, .ref q10, .int 0, .int 0, .int 0, .int 0, .int 0, .int 0, .int 0, .int 0, .int 0, .int 0, .int 2147483647, .int 0, .int 2147483647])), (q4, .inl (c5, 610, .inl f152)), (q6, .inl (c7, 610, .inl f153))] H := hP
  have hD : va_D A [(q2, .inl (c3, 1260, .inl f161)), (h0, .inr (16, [.ref h1, .int 0, .ref q1, .ref q2, .ref q4, .ref q6, .int 6, .int 30, .ref q8, .ref q10, .int 0, .int 0, .int 0, .int 0, .int 0, .int 0, .int 0, .int 0, .int 0, .int 0, .int 2147483647, .int 0, .int 2147483647])), (q4, .inl (c5, 610, .inl f152)), (q6, .inl (c7, 610, .inl f153))] := hD
  have hK : va_K (dC, dI) cls [(c3, .int), (c5, .int), (c7, .int)] s := hK
  refine W.widen (k := 19) (n := 19730) (Nat.le_of_ble_eq_true rfl) (Nat.le_of_ble_eq_true rfl) ?_
  obtain rfl : r163 = (((((kb (Int32.toNatClampNeg 36)) &&& 255)).toUInt32 % 65536).toInt32) := hw
  refine lv_topC (y := 114) (by decide) ?_
  refine lv_bipush (v := 32) hx hb dX19_init_104 (by decide) ?_
  refine lv_icmp_eq (tgt := 135) hx hb dX19_init_106 (by decide) (fun c => absurd c (by decide)) (fun _ => ?_)
  refine lv_aload_n hx hb dX19_init_109 rfl (lv_at hl 2 rfl) ?_
  refine va_get (D := (dC, dI)) (ci := 16) (v := .ref q2) (C := RX19) (T := TX19) (N := 23) hx hb hts i_X19 hown hK hP 1 rfl rfl 3 (by decide) (hts _ qw403) (fun _ h9 => h9) rfl dX19_init_110 ?_
  refine lv_aload_n hx hb dX19_init_113 rfl (lv_at hl 2 rfl) ?_
  refine lv_dup hx hb dX19_init_114 rfl ?_
  refine va_get (D := (dC, dI)) (ci := 16) (v := .int 30) (C := RX19) (T := TX19) (N := 23) hx hb hts i_X19 hown hK hP 1 rfl rfl 7 (by decide) (hts _ qw421) (fun _ h9 => h9) rfl dX19_init_115 ?_
  refine lv_dup_x1 hx hb dX19_init_118 rfl rfl ?_
  refine lv_iconst (v := 1) hx hb dX19_init_119 (by decide) ?_
  refine lv_iadd hx hb dX19_init_120 ?_
  refine lv_topC (y := 31) (by decide) ?_
  refine va_put (D := (dC, dI)) (ci := 16) (v := .int 31) (ty := .int) (C := RX19) (T := TX19) (N := 23) hx hb hts i_X19 tyX19 tyX19_ok nmX19 hown hK hP hD hS 1 rfl rfl 7 (by decide) (hts _ qw421) (fun _ h9 => h9) rfl (by decide +kernel) rfl rfl (Nat.le_of_ble_eq_true rfl) dX19_init_121 (fun H locs hP hD hS => ?_)
  have hP : va_P (dC, dI) cls [(q2, .inl (c3, 1260, .inl f161)), (h0, .inr (16, [.ref h1, .int 0, .ref q1, .ref q2, .ref q4, .ref q6, .int 6, .int 31, .ref q8, .ref q10, .int 0, .int 0, .int 0, .int 0, .int 0, .int 0, .int 0, .int 0, .int 0, .int 0, .int 2147483647, .int 0, .int 2147483647])), (q4, .inl (c5, 610, .inl f152)), (q6, .inl (c7, 610, .inl f153))] H := hP
  have hD : va_D A [(q2, .inl (c3, 1260, .inl f161)), (h0, .inr (16, [.ref h1, .int 0, .ref q1, .ref q2, .ref q4, .ref q6, .int 6, .int 31, .ref q8, .ref q10, .int 0, .int 0, .int 0, .int 0, .int 0, .int 0, .int 0, .int 0, .int 0, .int 0, .int 2147483647, .int 0, .int 2147483647])), (q4, .inl (c5, 610, .inl f152)), (q6, .inl (c7, 610, .inl f153))] := hD
  refine va_ldcS hx hb hown hE.2.2.2.2.2.2.2.2.1 dX19_init_124 ?_
  refine lv_iload hx hb dX19_init_126 (lv_at hl 0 rfl) ?_
  have hPc := hP.sub (ws' := []) [] rfl
  have hDc := hD.sub (ws' := []) [] (by decide) rfl
  have hKc := hK.sub (tys' := []) [] rfl
  have hFc := va_free (wc := []) hD hS hA [] rfl
  refine va_calli (va_runV (As := [.int 36]) (rest := [.int 30, .ref q2]) ⟨hx, hb, hml, hown, hts⟩ (kS_charAt l dC dI (p0 := 36) (sz := _) (h1 := (by decide)) (h2 := (by decide))) (cwV 1 hts (gi_V qw418 qw419 qw420 qw324 (gi_z qw417)) rfl rfl rfl (by decide +kernel) ⟨Nat.le_of_ble_eq_true rfl, Nat.le_of_ble_eq_true rfl⟩) ⟨PRE.blind, STC.recv hE.2.2.2.2.2.2.2.2 hS, PRE.of hE hS hFc hPc hKc hDc⟩ rfl rfl hl.1 rfl (lv_room (Nat.le_of_ble_eq_true rfl)) dX19_init_128 ⟨Nat.le_of_ble_eq_true rfl, Nat.le_of_ble_eq_true rfl⟩) hS (fun q _ h => hFc q h) hFc (fun r164 u t H locs ht hvm hw hB hz1 hk1 hS => ?_)
  obtain ⟨hP, hD, hK⟩ := JOIN (wr := [(q2, .inl (c3, 1260, .inl f161)), (h0, .inr (16, [.ref h1, .int 0, .ref q1, .ref q2, .ref q4, .ref q6, .int 6, .int 31, .ref q8, .ref q10, .int 0, .int 0, .int 0, .int 0, .int 0, .int 0, .int 0, .int 0, .int 0, .int 0, .int 2147483647, .int 0, .int 2147483647])), (q4, .inl (c5, 610, .inl f152)), (q6, .inl (c7, 610, .inl f153))]) hP hD hK [] [0, 1, 2, 3] [0, 1, 2] rfl rfl (by decide) (by decide) rfl hk1 hFc ht hvm hB
  have hP : va_P (dC, dI) cls [(q2, .inl (c3, 1260, .inl f161)), (h0, .inr (16, [.ref h1, .int 0, .ref q1, .ref q2, .ref q4, .ref q6, .int 6, .int 31, .ref q8, .ref q10, .int 0, .int 0, .int 0, .int 0, .int 0, .int 0, .int 0, .int 0, .int 0, .int 0, .int 2147483647, .int 0, .int 2147483647])), (q4, .inl (c5, 610, .inl f152)), (q6, .inl (c7, 610, .inl f153))] H := hP
  have hD : va_D A [(q2, .inl (c3, 1260, .inl f161)), (h0, .inr (16, [.ref h1, .int 0, .ref q1, .ref q2, .ref q4, .ref q6, .int 6, .int 31, .ref q8, .ref q10, .int 0, .int 0, .int 0, .int 0, .int 0, .int 0, .int 0, .int 0, .int 0, .int 0, .int 2147483647, .int 0, .int 2147483647])), (q4, .inl (c5, 610, .inl f152)), (q6, .inl (c7, 610, .inl f153))] := hD
  have hK : va_K (dC, dI) cls [(c3, .int), (c5, .int), (c7, .int)] s := hK
  refine W.widen (k := 19) (n := 19730) (Nat.le_of_ble_eq_true rfl) (Nat.le_of_ble_eq_true rfl) ?_
  obtain rfl : r164 = (((((kb (Int32.toNatClampNeg 36)) &&& 255)).toUInt32 % 65536).toInt32) := hw
  refine lv_topC (y := 114) (by decide) ?_
  refine va_iast hx hb hK hP hD hS 0 0 rfl rfl (by unfold vp_in; decide +kernel) dX19_init_131 (fun H locs hP hD hS => ?_)
  have hP : va_P (dC, dI) cls [(q2, .inl (c3, 1260, .inl (upd f161 (Int32.toNatClampNeg 30) 114))), (h0, .inr (16, [.ref h1, .int 0, .ref q1, .ref q2, .ref q4, .ref q6, .int 6, .int 31, .ref q8, .ref q10, .int 0, .int 0, .int 0, .int 0, .int 0, .int 0, .int 0, .int 0, .int 0, .int 0, .int 2147483647, .int 0, .int 2147483647])), (q4, .inl (c5, 610, .inl f152)), (q6, .inl (c7, 610, .inl f153))] H := hP
  have hD : va_D A [(q2, .inl (c3, 1260, .inl (upd f161 (Int32.toNatClampNeg 30) 114))), (h0, .inr (16, [.ref h1, .int 0, .ref q1, .ref q2, .ref q4, .ref q6, .int 6, .int 31, .ref q8, .ref q10, .int 0, .int 0, .int 0, .int 0, .int 0, .int 0, .int 0, .int 0, .int 0, .int 0, .int 2147483647, .int 0, .int 2147483647])), (q4, .inl (c5, 610, .inl f152)), (q6, .inl (c7, 610, .inl f153))] := hD
  generalize upd f161 (Int32.toNatClampNeg 30) 114 = f165 at hP hD
  refine lv_goto (tgt := 146) hx hb dX19_init_132 (by decide) ?_
  refine lv_iinc (v := 37) (lv' := [(4, .int 37), (3, .int 28), (0, .ref h0), (1, .ref h1), (2, .int 0)]) hx hb dX19_init_146 hl (k := 0) rfl (by decide) (by decide) rfl (fun ls hl => ?_)
  refine lv_goto (tgt := 87) hx hb dX19_init_149 (by decide) ?_
  refine lv_iload hx hb dX19_init_87 (lv_at hl 0 rfl) ?_
  refine va_ldcS hx hb hown hE.2.2.2.2.2.2.2.2.1 dX19_init_89 ?_
  have hPc := hP.sub (ws' := []) [] rfl
  have hDc := hD.sub (ws' := []) [] (by decide) rfl
  have hKc := hK.sub (tys' := []) [] rfl
  have hFc := va_free (wc := []) hD hS hA [] rfl
  refine va_calli (va_runV (As := []) (rest := [.int 37]) ⟨hx, hb, hml, hown, hts⟩ (kS_length l dC dI  (sz := _)) (cwV 0 hts (gi_V qw414 qw415 qw416 qw324 (gi_z qw413)) rfl rfl rfl (by decide +kernel) ⟨Nat.le_of_ble_eq_true rfl, Nat.le_of_ble_eq_true rfl⟩) ⟨PRE.blind, STC.recv hE.2.2.2.2.2.2.2.2 hS, PRE.of hE hS hFc hPc hKc hDc⟩ rfl rfl hl.1 rfl (lv_room (Nat.le_of_ble_eq_true rfl)) dX19_init_91 ⟨Nat.le_of_ble_eq_true rfl, Nat.le_of_ble_eq_true rfl⟩) hS (fun q _ h => hFc q h) hFc (fun r166 u t H locs ht hvm hw hB hz1 hk1 hS => ?_)
  obtain ⟨hP, hD, hK⟩ := JOIN (wr := [(q2, .inl (c3, 1260, .inl f165)), (h0, .inr (16, [.ref h1, .int 0, .ref q1, .ref q2, .ref q4, .ref q6, .int 6, .int 31, .ref q8, .ref q10, .int 0, .int 0, .int 0, .int 0, .int 0, .int 0, .int 0, .int 0, .int 0, .int 0, .int 2147483647, .int 0, .int 2147483647])), (q4, .inl (c5, 610, .inl f152)), (q6, .inl (c7, 610, .inl f153))]) hP hD hK [] [0, 1, 2, 3] [0, 1, 2] rfl rfl (by decide) (by decide) rfl hk1 hFc ht hvm hB
  have hP : va_P (dC, dI) cls [(q2, .inl (c3, 1260, .inl f165)), (h0, .inr (16, [.ref h1, .int 0, .ref q1, .ref q2, .ref q4, .ref q6, .int 6, .int 31, .ref q8, .ref q10, .int 0, .int 0, .int 0, .int 0, .int 0, .int 0, .int 0, .int 0, .int 0, .int 0, .int 2147483647, .int 0, .int 2147483647])), (q4, .inl (c5, 610, .inl f152)), (q6, .inl (c7, 610, .inl f153))] H := hP
  have hD : va_D A [(q2, .inl (c3, 1260, .inl f165)), (h0, .inr (16, [.ref h1, .int 0, .ref q1, .ref q2, .ref q4, .ref q6, .int 6, .int 31, .ref q8, .ref q10, .int 0, .int 0, .int 0, .int 0, .int 0, .int 0, .int 0, .int 0, .int 0, .int 0, .int 2147483647, .int 0, .int 2147483647])), (q4, .inl (c5, 610, .inl f152)), (q6, .inl (c7, 610, .inl f153))] := hD
  have hK : va_K (dC, dI) cls [(c3, .int), (c5, .int), (c7, .int)] s := hK
  refine W.widen (k := 19) (n := 19730) (Nat.le_of_ble_eq_true rfl) (Nat.le_of_ble_eq_true rfl) ?_
  obtain rfl : r166 = 44 := hw
  refine lv_icmp_ge (tgt := 152) hx hb dX19_init_94 (by decide) (fun c => absurd c (by decide)) (fun _ => ?_)
  refine va_ldcS hx hb hown hE.2.2.2.2.2.2.2.2.1 dX19_init_97 ?_
  refine lv_iload hx hb dX19_init_99 (lv_at hl 0 rfl) ?_
  have hPc := hP.sub (ws' := []) [] rfl
  have hDc := hD.sub (ws' := []) [] (by decide) rfl
  have hKc := hK.sub (tys' := []) [] rfl
  have hFc := va_free (wc := []) hD hS hA [] rfl
  refine va_calli (va_runV (As := [.int 37]) (rest := []) ⟨hx, hb, hml, hown, hts⟩ (kS_charAt l dC dI (p0 := 37) (sz := _) (h1 := (by decide)) (h2 := (by decide))) (cwV 1 hts (gi_V qw418 qw419 qw420 qw324 (gi_z qw417)) rfl rfl rfl (by decide +kernel) ⟨Nat.le_of_ble_eq_true rfl, Nat.le_of_ble_eq_true rfl⟩) ⟨PRE.blind, STC.recv hE.2.2.2.2.2.2.2.2 hS, PRE.of hE hS hFc hPc hKc hDc⟩ rfl rfl hl.1 rfl (lv_room (Nat.le_of_ble_eq_true rfl)) dX19_init_101 ⟨Nat.le_of_ble_eq_true rfl, Nat.le_of_ble_eq_true rfl⟩) hS (fun q _ h => hFc q h) hFc (fun r167 u t H locs ht hvm hw hB hz1 hk1 hS => ?_)
  obtain ⟨hP, hD, hK⟩ := JOIN (wr := [(q2, .inl (c3, 1260, .inl f165)), (h0, .inr (16, [.ref h1, .int 0, .ref q1, .ref q2, .ref q4, .ref q6, .int 6, .int 31, .ref q8, .ref q10, .int 0, .int 0, .int 0, .int 0, .int 0, .int 0, .int 0, .int 0, .int 0, .int 0, .int 2147483647, .int 0, .int 2147483647])), (q4, .inl (c5, 610, .inl f152)), (q6, .inl (c7, 610, .inl f153))]) hP hD hK [] [0, 1, 2, 3] [0, 1, 2] rfl rfl (by decide) (by decide) rfl hk1 hFc ht hvm hB
  have hP : va_P (dC, dI) cls [(q2, .inl (c3, 1260, .inl f165)), (h0, .inr (16, [.ref h1, .int 0, .ref q1, .ref q2, .ref q4, .ref q6, .int 6, .int 31, .ref q8, .ref q10, .int 0, .int 0, .int 0, .int 0, .int 0, .int 0, .int 0, .int 0, .int 0, .int 0, .int 2147483647, .int 0, .int 2147483647])), (q4, .inl (c5, 610, .inl f152)), (q6, .inl (c7, 610, .inl f153))] H := hP
  have hD : va_D A [(q2, .inl (c3, 1260, .inl f165)), (h0, .inr (16, [.ref h1, .int 0, .ref q1, .ref q2, .ref q4, .ref q6, .int 6, .int 31, .ref q8, .ref q10, .int 0, .int 0, .int 0, .int 0, .int 0, .int 0, .int 0, .int 0, .int 0, .int 0, .int 2147483647, .int 0, .int 2147483647])), (q4, .inl (c5, 610, .inl f152)), (q6, .inl (c7, 610, .inl f153))] := hD
  have hK : va_K (dC, dI) cls [(c3, .int), (c5, .int), (c7, .int)] s := hK
  refine W.widen (k := 19) (n := 19730) (Nat.le_of_ble_eq_true rfl) (Nat.le_of_ble_eq_true rfl) ?_
  obtain rfl : r167 = (((((kb (Int32.toNatClampNeg 37)) &&& 255)).toUInt32 % 65536).toInt32) := hw
  refine lv_topC (y := 32) (by decide) ?_
  refine lv_bipush (v := 32) hx hb dX19_init_104 (by decide) ?_
  refine lv_icmp_eq (tgt := 135) hx hb dX19_init_106 (by decide) (fun _ => ?_) (fun c => absurd (by decide) c)
  refine lv_aload_n hx hb dX19_init_135 rfl (lv_at hl 2 rfl) ?_
  refine lv_iload_n hx hb dX19_init_136 rfl (lv_at hl 1 rfl) ?_
  have hPc := hP.sub (ws' := [(h0, .inr (16, [.ref h1, .int 0, .ref q1, .ref q2, .ref q4, .ref q6, .int 6, .int 31, .ref q8, .ref q10, .int 0, .int 0, .int 0, .int 0, .int 0, .int 0, .int 0, .int 0, .int 0, .int 0, .int 2147483647, .int 0, .int 2147483647])), (q4, .inl (c5, 610, .inl f152)), (q6, .inl (c7, 610, .inl f153))]) [1, 2, 3] rfl
  have hDc := hD.sub (ws' := [(h0, .inr (16, [.ref h1, .int 0, .ref q1, .ref q2, .ref q4, .ref q6, .int 6, .int 31, .ref q8, .ref q10, .int 0, .int 0, .int 0, .int 0, .int 0, .int 0, .int 0, .int 0, .int 0, .int 0, .int 2147483647, .int 0, .int 2147483647])), (q4, .inl (c5, 610, .inl f152)), (q6, .inl (c7, 610, .inl f153))]) [1, 2, 3] (by decide) rfl
  have hKc := hK.sub (tys' := [(c5, .int), (c7, .int)]) [1, 2] rfl
  have hFc := va_free (wc := [(h0, .inr (16, [.ref h1, .int 0, .ref q1, .ref q2, .ref q4, .ref q6, .int 6, .int 31, .ref q8, .ref q10, .int 0, .int 0, .int 0, .int 0, .int 0, .int 0, .int 0, .int 0, .int 0, .int 0, .int 2147483647, .int 0, .int 2147483647])), (q4, .inl (c5, 610, .inl f152)), (q6, .inl (c7, 610, .inl f153))]) hD hS hA [1, 2, 3] rfl
  refine va_calli (va_runV (As := [.int 28]) (rest := []) ⟨hx, hb, hml, hown, hts⟩ (kX19_keep_n32 l dC dI (a0 := h0) (a2 := q2) (a4 := h1) (a5 := q1) (a6 := q4) (a7 := q6) (a8 := q8) (a9 := q10) (F10 := f152) (k11 := c5) (F12 := f153) (k13 := c7) (sz := _)) (cwV 1 hts (gi_V qw424 qw425 qw426 qw427 (gi_z qw423)) rfl rfl rfl (by decide +kernel) ⟨Nat.le_of_ble_eq_true rfl, Nat.le_of_ble_eq_true rfl⟩) ⟨PRE.blind, va_recv hKc hPc (ci := 16) (q0 := 0) rfl rfl, PRE.of hE hS hFc hPc hKc hDc⟩ rfl rfl hl.1 rfl (lv_room (Nat.le_of_ble_eq_true rfl)) dX19_init_137 ⟨Nat.le_of_ble_eq_true rfl, Nat.le_of_ble_eq_true rfl⟩) hS (fun q _ h => hFc q h) hFc (fun r168 u t H locs ht hvm hw hB hz1 hk1 hS => ?_)
  obtain ⟨f169, f170, hB⟩ := hB
  obtain ⟨hP, hD, hK⟩ := JOIN (wr := [(q2, .inl (c3, 1260, .inl f165))]) hP hD hK [1, 2, 3] [0] [0] rfl rfl (by decide) (by decide) rfl hk1 hFc ht hvm hB
  have hP : va_P (dC, dI) cls [(q2, .inl (c3, 1260, .inl f165)), (h0, .inr (16, [.ref h1, .int 0, .ref q1, .ref q2, .ref q4, .ref q6, .int 7, .int 31, .ref q8, .ref q10, .int 0, .int 0, .int 0, .int 0, .int 0, .int 0, .int 0, .int 0, .int 0, .int 0, .int 2147483647, .int 0, .int 2147483647])), (q4, .inl (c5, 610, .inl f169)), (q6, .inl (c7, 610, .inl f170))] H := hP
  have hD : va_D A [(q2, .inl (c3, 1260, .inl f165)), (h0, .inr (16, [.ref h1, .int 0, .ref q1, .ref q2, .ref q4, .ref q6, .int 7, .int 31, .ref q8, .ref q10, .int 0, .int 0, .int 0, .int 0, .int 0, .int 0, .int 0, .int 0, .int 0, .int 0, .int 2147483647, .int 0, .int 2147483647])), (q4, .inl (c5, 610, .inl f169)), (q6, .inl (c7, 610, .inl f170))] := hD
  have hK : va_K (dC, dI) cls [(c3, .int), (c5, .int), (c7, .int)] s := hK
  refine W.widen (k := 19) (n := 19730) (Nat.le_of_ble_eq_true rfl) (Nat.le_of_ble_eq_true rfl) ?_
  obtain rfl : r168 = 6 := hw
  refine lv_pop hx hb dX19_init_140 rfl ?_
  refine lv_aload_n hx hb dX19_init_141 rfl (lv_at hl 2 rfl) ?_
  refine va_get (D := (dC, dI)) (ci := 16) (v := .int 31) (C := RX19) (T := TX19) (N := 23) hx hb hts i_X19 hown hK hP 1 rfl rfl 7 (by decide) (hts _ qw421) (fun _ h9 => h9) rfl dX19_init_142 ?_
  refine lv_istore_n (lv' := [(3, .int 31), (4, .int 37), (0, .ref h0), (1, .ref h1), (2, .int 0)]) hx hb dX19_init_145 rfl hl (by decide) rfl (fun ls hl => ?_)
  refine lv_iinc (v := 38) (lv' := [(4, .int 38), (3, .int 31), (0, .ref h0), (1, .ref h1), (2, .int 0)]) hx hb dX19_init_146 hl (k := 1) rfl (by decide) (by decide) rfl (fun ls hl => ?_)
  refine lv_goto (tgt := 87) hx hb dX19_init_149 (by decide) ?_
  refine lv_iload hx hb dX19_init_87 (lv_at hl 0 rfl) ?_
  refine va_ldcS hx hb hown hE.2.2.2.2.2.2.2.2.1 dX19_init_89 ?_
  have hPc := hP.sub (ws' := []) [] rfl
  have hDc := hD.sub (ws' := []) [] (by decide) rfl
  have hKc := hK.sub (tys' := []) [] rfl
  have hFc := va_free (wc := []) hD hS hA [] rfl
  refine va_calli (va_runV (As := []) (rest := [.int 38]) ⟨hx, hb, hml, hown, hts⟩ (kS_length l dC dI  (sz := _)) (cwV 0 hts (gi_V qw414 qw415 qw416 qw324 (gi_z qw413)) rfl rfl rfl (by decide +kernel) ⟨Nat.le_of_ble_eq_true rfl, Nat.le_of_ble_eq_true rfl⟩) ⟨PRE.blind, STC.recv hE.2.2.2.2.2.2.2.2 hS, PRE.of hE hS hFc hPc hKc hDc⟩ rfl rfl hl.1 rfl (lv_room (Nat.le_of_ble_eq_true rfl)) dX19_init_91 ⟨Nat.le_of_ble_eq_true rfl, Nat.le_of_ble_eq_true rfl⟩) hS (fun q _ h => hFc q h) hFc (fun r171 u t H locs ht hvm hw hB hz1 hk1 hS => ?_)
  obtain ⟨hP, hD, hK⟩ := JOIN (wr := [(q2, .inl (c3, 1260, .inl f165)), (h0, .inr (16, [.ref h1, .int 0, .ref q1, .ref q2, .ref q4, .ref q6, .int 7, .int 31, .ref q8, .ref q10, .int 0, .int 0, .int 0, .int 0, .int 0, .int 0, .int 0, .int 0, .int 0, .int 0, .int 2147483647, .int 0, .int 2147483647])), (q4, .inl (c5, 610, .inl f169)), (q6, .inl (c7, 610, .inl f170))]) hP hD hK [] [0, 1, 2, 3] [0, 1, 2] rfl rfl (by decide) (by decide) rfl hk1 hFc ht hvm hB
  have hP : va_P (dC, dI) cls [(q2, .inl (c3, 1260, .inl f165)), (h0, .inr (16, [.ref h1, .int 0, .ref q1, .ref q2, .ref q4, .ref q6, .int 7, .int 31, .ref q8, .ref q10, .int 0, .int 0, .int 0, .int 0, .int 0, .int 0, .int 0, .int 0, .int 0, .int 0, .int 2147483647, .int 0, .int 2147483647])), (q4, .inl (c5, 610, .inl f169)), (q6, .inl (c7, 610, .inl f170))] H := hP
  have hD : va_D A [(q2, .inl (c3, 1260, .inl f165)), (h0, .inr (16, [.ref h1, .int 0, .ref q1, .ref q2, .ref q4, .ref q6, .int 7, .int 31, .ref q8, .ref q10, .int 0, .int 0, .int 0, .int 0, .int 0, .int 0, .int 0, .int 0, .int 0, .int 0, .int 2147483647, .int 0, .int 2147483647])), (q4, .inl (c5, 610, .inl f169)), (q6, .inl (c7, 610, .inl f170))] := hD
  have hK : va_K (dC, dI) cls [(c3, .int), (c5, .int), (c7, .int)] s := hK
  refine W.widen (k := 19) (n := 19730) (Nat.le_of_ble_eq_true rfl) (Nat.le_of_ble_eq_true rfl) ?_
  obtain rfl : r171 = 44 := hw
  refine lv_icmp_ge (tgt := 152) hx hb dX19_init_94 (by decide) (fun c => absurd c (by decide)) (fun _ => ?_)
  refine va_ldcS hx hb hown hE.2.2.2.2.2.2.2.2.1 dX19_init_97 ?_
  refine lv_iload hx hb dX19_init_99 (lv_at hl 0 rfl) ?_
  have hPc := hP.sub (ws' := []) [] rfl
  have hDc := hD.sub (ws' := []) [] (by decide) rfl
  have hKc := hK.sub (tys' := []) [] rfl
  have hFc := va_free (wc := []) hD hS hA [] rfl
  refine va_calli (va_runV (As := [.int 38]) (rest := []) ⟨hx, hb, hml, hown, hts⟩ (kS_charAt l dC dI (p0 := 38) (sz := _) (h1 := (by decide)) (h2 := (by decide))) (cwV 1 hts (gi_V qw418 qw419 qw420 qw324 (gi_z qw417)) rfl rfl rfl (by decide +kernel) ⟨Nat.le_of_ble_eq_true rfl, Nat.le_of_ble_eq_true rfl⟩) ⟨PRE.blind, STC.recv hE.2.2.2.2.2.2.2.2 hS, PRE.of hE hS hFc hPc hKc hDc⟩ rfl rfl hl.1 rfl (lv_room (Nat.le_of_ble_eq_true rfl)) dX19_init_101 ⟨Nat.le_of_ble_eq_true rfl, Nat.le_of_ble_eq_true rfl⟩) hS (fun q _ h => hFc q h) hFc (fun r172 u t H locs ht hvm hw hB hz1 hk1 hS => ?_)
  obtain ⟨hP, hD, hK⟩ := JOIN (wr := [(q2, .inl (c3, 1260, .inl f165)), (h0, .inr (16, [.ref h1, .int 0, .ref q1, .ref q2, .ref q4, .ref q6, .int 7, .int 31, .ref q8, .ref q10, .int 0, .int 0, .int 0, .int 0, .int 0, .int 0, .int 0, .int 0, .int 0, .int 0, .int 2147483647, .int 0, .int 2147483647])), (q4, .inl (c5, 610, .inl f169)), (q6, .inl (c7, 610, .inl f170))]) hP hD hK [] [0, 1, 2, 3] [0, 1, 2] rfl rfl (by decide) (by decide) rfl hk1 hFc ht hvm hB
  have hP : va_P (dC, dI) cls [(q2, .inl (c3, 1260, .inl f165)), (h0, .inr (16, [.ref h1, .int 0, .ref q1, .ref q2, .ref q4, .ref q6, .int 7, .int 31, .ref q8, .ref q10, .int 0, .int 0, .int 0, .int 0, .int 0, .int 0, .int 0, .int 0, .int 0, .int 0, .int 2147483647, .int 0, .int 2147483647])), (q4, .inl (c5, 610, .inl f169)), (q6, .inl (c7, 610, .inl f170))] H := hP
  have hD : va_D A [(q2, .inl (c3, 1260, .inl f165)), (h0, .inr (16, [.ref h1, .int 0, .ref q1, .ref q2, .ref q4, .ref q6, .int 7, .int 31, .ref q8, .ref q10, .int 0, .int 0, .int 0, .int 0, .int 0, .int 0, .int 0, .int 0, .int 0, .int 0, .int 2147483647, .int 0, .int 2147483647])), (q4, .inl (c5, 610, .inl f169)), (q6, .inl (c7, 610, .inl f170))] := hD
  have hK : va_K (dC, dI) cls [(c3, .int), (c5, .int), (c7, .int)] s := hK
  refine W.widen (k := 19) (n := 19730) (Nat.le_of_ble_eq_true rfl) (Nat.le_of_ble_eq_true rfl) ?_
  obtain rfl : r172 = (((((kb (Int32.toNatClampNeg 38)) &&& 255)).toUInt32 % 65536).toInt32) := hw
  refine lv_topC (y := 119) (by decide) ?_
  refine lv_bipush (v := 32) hx hb dX19_init_104 (by decide) ?_
  refine lv_icmp_eq (tgt := 135) hx hb dX19_init_106 (by decide) (fun c => absurd c (by decide)) (fun _ => ?_)
  refine lv_aload_n hx hb dX19_init_109 rfl (lv_at hl 2 rfl) ?_
  refine va_get (D := (dC, dI)) (ci := 16) (v := .ref q2) (C := RX19) (T := TX19) (N := 23) hx hb hts i_X19 hown hK hP 1 rfl rfl 3 (by decide) (hts _ qw403) (fun _ h9 => h9) rfl dX19_init_110 ?_
  refine lv_aload_n hx hb dX19_init_113 rfl (lv_at hl 2 rfl) ?_
  refine lv_dup hx hb dX19_init_114 rfl ?_
  refine va_get (D := (dC, dI)) (ci := 16) (v := .int 31) (C := RX19) (T := TX19) (N := 23) hx hb hts i_X19 hown hK hP 1 rfl rfl 7 (by decide) (hts _ qw421) (fun _ h9 => h9) rfl dX19_init_115 ?_
  refine lv_dup_x1 hx hb dX19_init_118 rfl rfl ?_
  refine lv_iconst (v := 1) hx hb dX19_init_119 (by decide) ?_
  refine lv_iadd hx hb dX19_init_120 ?_
  refine lv_topC (y := 32) (by decide) ?_
  refine va_put (D := (dC, dI)) (ci := 16) (v := .int 32) (ty := .int) (C := RX19) (T := TX19) (N := 23) hx hb hts i_X19 tyX19 tyX19_ok nmX19 hown hK hP hD hS 1 rfl rfl 7 (by decide) (hts _ qw421) (fun _ h9 => h9) rfl (by decide +kernel) rfl rfl (Nat.le_of_ble_eq_true rfl) dX19_init_121 (fun H locs hP hD hS => ?_)
  have hP : va_P (dC, dI) cls [(q2, .inl (c3, 1260, .inl f165)), (h0, .inr (16, [.ref h1, .int 0, .ref q1, .ref q2, .ref q4, .ref q6, .int 7, .int 32, .ref q8, .ref q10, .int 0, .int 0, .int 0, .int 0, .int 0, .int 0, .int 0, .int 0, .int 0, .int 0, .int 2147483647, .int 0, .int 2147483647])), (q4, .inl (c5, 610, .inl f169)), (q6, .inl (c7, 610, .inl f170))] H := hP
  have hD : va_D A [(q2, .inl (c3, 1260, .inl f165)), (h0, .inr (16, [.ref h1, .int 0, .ref q1, .ref q2, .ref q4, .ref q6, .int 7, .int 32, .ref q8, .ref q10, .int 0, .int 0, .int 0, .int 0, .int 0, .int 0, .int 0, .int 0, .int 0, .int 0, .int 2147483647, .int 0, .int 2147483647])), (q4, .inl (c5, 610, .inl f169)), (q6, .inl (c7, 610, .inl f170))] := hD
  refine va_ldcS hx hb hown hE.2.2.2.2.2.2.2.2.1 dX19_init_124 ?_
  refine lv_iload hx hb dX19_init_126 (lv_at hl 0 rfl) ?_
  have hPc := hP.sub (ws' := []) [] rfl
  have hDc := hD.sub (ws' := []) [] (by decide) rfl
  have hKc := hK.sub (tys' := []) [] rfl
  have hFc := va_free (wc := []) hD hS hA [] rfl
  refine va_calli (va_runV (As := [.int 38]) (rest := [.int 31, .ref q2]) ⟨hx, hb, hml, hown, hts⟩ (kS_charAt l dC dI (p0 := 38) (sz := _) (h1 := (by decide)) (h2 := (by decide))) (cwV 1 hts (gi_V qw418 qw419 qw420 qw324 (gi_z qw417)) rfl rfl rfl (by decide +kernel) ⟨Nat.le_of_ble_eq_true rfl, Nat.le_of_ble_eq_true rfl⟩) ⟨PRE.blind, STC.recv hE.2.2.2.2.2.2.2.2 hS, PRE.of hE hS hFc hPc hKc hDc⟩ rfl rfl hl.1 rfl (lv_room (Nat.le_of_ble_eq_true rfl)) dX19_init_128 ⟨Nat.le_of_ble_eq_true rfl, Nat.le_of_ble_eq_true rfl⟩) hS (fun q _ h => hFc q h) hFc (fun r173 u t H locs ht hvm hw hB hz1 hk1 hS => ?_)
  obtain ⟨hP, hD, hK⟩ := JOIN (wr := [(q2, .inl (c3, 1260, .inl f165)), (h0, .inr (16, [.ref h1, .int 0, .ref q1, .ref q2, .ref q4, .ref q6, .int 7, .int 32, .ref q8, .ref q10, .int 0, .int 0, .int 0, .int 0, .int 0, .int 0, .int 0, .int 0, .int 0, .int 0, .int 2147483647, .int 0, .int 2147483647])), (q4, .inl (c5, 610, .inl f169)), (q6, .inl (c7, 610, .inl f170))]) hP hD hK [] [0, 1, 2, 3] [0, 1, 2] rfl rfl (by decide) (by decide) rfl hk1 hFc ht hvm hB
  have hP : va_P (dC, dI) cls [(q2, .inl (c3, 1260, .inl f165)), (h0, .inr (16, [.ref h1, .int 0, .ref q1, .ref q2, .ref q4, .ref q6, .int 7, .int 32, .ref q8, .ref q10, .int 0, .int 0, .int 0, .int 0, .int 0, .int 0, .int 0, .int 0, .int 0, .int 0, .int 2147483647, .int 0, .int 2147483647])), (q4, .inl (c5, 610, .inl f169)), (q6, .inl (c7, 610, .inl f170))] H := hP
  have hD : va_D A [(q2, .inl (c3, 1260, .inl f165)), (h0, .inr (16, [.ref h1, .int 0, .ref q1, .ref q2, .ref q4, .ref q6, .int 7, .int 32, .ref q8, .ref q10, .int 0, .int 0, .int 0, .int 0, .int 0, .int 0, .int 0, .int 0, .int 0, .int 0, .int 2147483647, .int 0, .int 2147483647])), (q4, .inl (c5, 610, .inl f169)), (q6, .inl (c7, 610, .inl f170))] := hD
  have hK : va_K (dC, dI) cls [(c3, .int), (c5, .int), (c7, .int)] s := hK
  refine W.widen (k := 19) (n := 19730) (Nat.le_of_ble_eq_true rfl) (Nat.le_of_ble_eq_true rfl) ?_
  obtain rfl : r173 = (((((kb (Int32.toNatClampNeg 38)) &&& 255)).toUInt32 % 65536).toInt32) := hw
  refine lv_topC (y := 119) (by decide) ?_
  refine va_iast hx hb hK hP hD hS 0 0 rfl rfl (by unfold vp_in; decide +kernel) dX19_init_131 (fun H locs hP hD hS => ?_)
  have hP : va_P (dC, dI) cls [(q2, .inl (c3, 1260, .inl (upd f165 (Int32.toNatClampNeg 31) 119))), (h0, .inr (16, [.ref h1, .int 0, .ref q1, .ref q2, .ref q4, .ref q6, .int 7, .int 32, .ref q8, .ref q10, .int 0, .int 0, .int 0, .int 0, .int 0, .int 0, .int 0, .int 0, .int 0, .int 0, .int 2147483647, .int 0, .int 2147483647])), (q4, .inl (c5, 610, .inl f169)), (q6, .inl (c7, 610, .inl f170))] H := hP
  have hD : va_D A [(q2, .inl (c3, 1260, .inl (upd f165 (Int32.toNatClampNeg 31) 119))), (h0, .inr (16, [.ref h1, .int 0, .ref q1, .ref q2, .ref q4, .ref q6, .int 7, .int 32, .ref q8, .ref q10, .int 0, .int 0, .int 0, .int 0, .int 0, .int 0, .int 0, .int 0, .int 0, .int 0, .int 2147483647, .int 0, .int 2147483647])), (q4, .inl (c5, 610, .inl f169)), (q6, .inl (c7, 610, .inl f170))] := hD
  generalize upd f165 (Int32.toNatClampNeg 31) 119 = f174 at hP hD
  refine lv_goto (tgt := 146) hx hb dX19_init_132 (by decide) ?_
  refine lv_iinc (v := 39) (lv' := [(4, .int 39), (3, .int 31), (0, .ref h0), (1, .ref h1), (2, .int 0)]) hx hb dX19_init_146 hl (k := 0) rfl (by decide) (by decide) rfl (fun ls hl => ?_)
  refine lv_goto (tgt := 87) hx hb dX19_init_149 (by decide) ?_
  refine lv_iload hx hb dX19_init_87 (lv_at hl 0 rfl) ?_
  refine va_ldcS hx hb hown hE.2.2.2.2.2.2.2.2.1 dX19_init_89 ?_
  have hPc := hP.sub (ws' := []) [] rfl
  have hDc := hD.sub (ws' := []) [] (by decide) rfl
  have hKc := hK.sub (tys' := []) [] rfl
  have hFc := va_free (wc := []) hD hS hA [] rfl
  refine va_calli (va_runV (As := []) (rest := [.int 39]) ⟨hx, hb, hml, hown, hts⟩ (kS_length l dC dI  (sz := _)) (cwV 0 hts (gi_V qw414 qw415 qw416 qw324 (gi_z qw413)) rfl rfl rfl (by decide +kernel) ⟨Nat.le_of_ble_eq_true rfl, Nat.le_of_ble_eq_true rfl⟩) ⟨PRE.blind, STC.recv hE.2.2.2.2.2.2.2.2 hS, PRE.of hE hS hFc hPc hKc hDc⟩ rfl rfl hl.1 rfl (lv_room (Nat.le_of_ble_eq_true rfl)) dX19_init_91 ⟨Nat.le_of_ble_eq_true rfl, Nat.le_of_ble_eq_true rfl⟩) hS (fun q _ h => hFc q h) hFc (fun r175 u t H locs ht hvm hw hB hz1 hk1 hS => ?_)
  obtain ⟨hP, hD, hK⟩ := JOIN (wr := [(q2, .inl (c3, 1260, .inl f174)), (h0, .inr (16, [.ref h1, .int 0, .ref q1, .ref q2, .ref q4, .ref q6, .int 7, .int 32, .ref q8, .ref q10, .int 0, .int 0, .int 0, .int 0, .int 0, .int 0, .int 0, .int 0, .int 0, .int 0, .int 2147483647, .int 0, .int 2147483647])), (q4, .inl (c5, 610, .inl f169)), (q6, .inl (c7, 610, .inl f170))]) hP hD hK [] [0, 1, 2, 3] [0, 1, 2] rfl rfl (by decide) (by decide) rfl hk1 hFc ht hvm hB
  have hP : va_P (dC, dI) cls [(q2, .inl (c3, 1260, .inl f174)), (h0, .inr (16, [.ref h1, .int 0, .ref q1, .ref q2, .ref q4, .ref q6, .int 7, .int 32, .ref q8, .ref q10, .int 0, .int 0, .int 0, .int 0, .int 0, .int 0, .int 0, .int 0, .int 0, .int 0, .int 2147483647, .int 0, .int 2147483647])), (q4, .inl (c5, 610, .inl f169)), (q6, .inl (c7, 610, .inl f170))] H := hP
  have hD : va_D A [(q2, .inl (c3, 1260, .inl f174)), (h0, .inr (16, [.ref h1, .int 0, .ref q1, .ref q2, .ref q4, .ref q6, .int 7, .int 32, .ref q8, .ref q10, .int 0, .int 0, .int 0, .int 0, .int 0, .int 0, .int 0, .int 0, .int 0, .int 0, .int 2147483647, .int 0, .int 2147483647])), (q4, .inl (c5, 610, .inl f169)), (q6, .inl (c7, 610, .inl f170))] := hD
  have hK : va_K (dC, dI) cls [(c3, .int), (c5, .int), (c7, .int)] s := hK
  refine W.widen (k := 19) (n := 19730) (Nat.le_of_ble_eq_true rfl) (Nat.le_of_ble_eq_true rfl) ?_
  obtain rfl : r175 = 44 := hw
  refine lv_icmp_ge (tgt := 152) hx hb dX19_init_94 (by decide) (fun c => absurd c (by decide)) (fun _ => ?_)
  refine va_ldcS hx hb hown hE.2.2.2.2.2.2.2.2.1 dX19_init_97 ?_
  refine lv_iload hx hb dX19_init_99 (lv_at hl 0 rfl) ?_
  have hPc := hP.sub (ws' := []) [] rfl
  have hDc := hD.sub (ws' := []) [] (by decide) rfl
  have hKc := hK.sub (tys' := []) [] rfl
  have hFc := va_free (wc := []) hD hS hA [] rfl
  refine va_calli (va_runV (As := [.int 39]) (rest := []) ⟨hx, hb, hml, hown, hts⟩ (kS_charAt l dC dI (p0 := 39) (sz := _) (h1 := (by decide)) (h2 := (by decide))) (cwV 1 hts (gi_V qw418 qw419 qw420 qw324 (gi_z qw417)) rfl rfl rfl (by decide +kernel) ⟨Nat.le_of_ble_eq_true rfl, Nat.le_of_ble_eq_true rfl⟩) ⟨PRE.blind, STC.recv hE.2.2.2.2.2.2.2.2 hS, PRE.of hE hS hFc hPc hKc hDc⟩ rfl rfl hl.1 rfl (lv_room (Nat.le_of_ble_eq_true rfl)) dX19_init_101 ⟨Nat.le_of_ble_eq_true rfl, Nat.le_of_ble_eq_true rfl⟩) hS (fun q _ h => hFc q h) hFc (fun r176 u t H locs ht hvm hw hB hz1 hk1 hS => ?_)
  obtain ⟨hP, hD, hK⟩ := JOIN (wr := [(q2, .inl (c3, 1260, .inl f174)), (h0, .inr (16, [.ref h1, .int 0, .ref q1, .ref q2, .ref q4, .ref q6, .int 7, .int 32, .ref q8, .ref q10, .int 0, .int 0, .int 0, .int 0, .int 0, .int 0, .int 0, .int 0, .int 0, .int 0, .int 2147483647, .int 0, .int 2147483647])), (q4, .inl (c5, 610, .inl f169)), (q6, .inl (c7, 610, .inl f170))]) hP hD hK [] [0, 1, 2, 3] [0, 1, 2] rfl rfl (by decide) (by decide) rfl hk1 hFc ht hvm hB
  have hP : va_P (dC, dI) cls [(q2, .inl (c3, 1260, .inl f174)), (h0, .inr (16, [.ref h1, .int 0, .ref q1, .ref q2, .ref q4, .ref q6, .int 7, .int 32, .ref q8, .ref q10, .int 0, .int 0, .int 0, .int 0, .int 0, .int 0, .int 0, .int 0, .int 0, .int 0, .int 2147483647, .int 0, .int 2147483647])), (q4, .inl (c5, 610, .inl f169)), (q6, .inl (c7, 610, .inl f170))] H := hP
  have hD : va_D A [(q2, .inl (c3, 1260, .inl f174)), (h0, .inr (16, [.ref h1, .int 0, .ref q1, .ref q2, .ref q4, .ref q6, .int 7, .int 32, .ref q8, .ref q10, .int 0, .int 0, .int 0, .int 0, .int 0, .int 0, .int 0, .int 0, .int 0, .int 0, .int 2147483647, .int 0, .int 2147483647])), (q4, .inl (c5, 610, .inl f169)), (q6, .inl (c7, 610, .inl f170))] := hD
  have hK : va_K (dC, dI) cls [(c3, .int), (c5, .int), (c7, .int)] s := hK
  refine W.widen (k := 19) (n := 19730) (Nat.le_of_ble_eq_true rfl) (Nat.le_of_ble_eq_true rfl) ?_
  obtain rfl : r176 = (((((kb (Int32.toNatClampNeg 39)) &&& 255)).toUInt32 % 65536).toInt32) := hw
  refine lv_topC (y := 104) (by decide) ?_
  refine lv_bipush (v := 32) hx hb dX19_init_104 (by decide) ?_
  refine lv_icmp_eq (tgt := 135) hx hb dX19_init_106 (by decide) (fun c => absurd c (by decide)) (fun _ => ?_)
  refine lv_aload_n hx hb dX19_init_109 rfl (lv_at hl 2 rfl) ?_
  refine va_get (D := (dC, dI)) (ci := 16) (v := .ref q2) (C := RX19) (T := TX19) (N := 23) hx hb hts i_X19 hown hK hP 1 rfl rfl 3 (by decide) (hts _ qw403) (fun _ h9 => h9) rfl dX19_init_110 ?_
  refine lv_aload_n hx hb dX19_init_113 rfl (lv_at hl 2 rfl) ?_
  refine lv_dup hx hb dX19_init_114 rfl ?_
  refine va_get (D := (dC, dI)) (ci := 16) (v := .int 32) (C := RX19) (T := TX19) (N := 23) hx hb hts i_X19 hown hK hP 1 rfl rfl 7 (by decide) (hts _ qw421) (fun _ h9 => h9) rfl dX19_init_115 ?_
  refine lv_dup_x1 hx hb dX19_init_118 rfl rfl ?_
  refine lv_iconst (v := 1) hx hb dX19_init_119 (by decide) ?_
  refine lv_iadd hx hb dX19_init_120 ?_
  refine lv_topC (y := 33) (by decide) ?_
  refine va_put (D := (dC, dI)) (ci := 16) (v := .int 33) (ty := .int) (C := RX19) (T := TX19) (N := 23) hx hb hts i_X19 tyX19 tyX19_ok nmX19 hown hK hP hD hS 1 rfl rfl 7 (by decide) (hts _ qw421) (fun _ h9 => h9) rfl (by decide +kernel) rfl rfl (Nat.le_of_ble_eq_true rfl) dX19_init_121 (fun H locs hP hD hS => ?_)
  have hP : va_P (dC, dI) cls [(q2, .inl (c3, 1260, .inl f174)), (h0, .inr (16, [.ref h1, .int 0, .ref q1, .ref q2, .ref q4, .ref q6, .int 7, .int 33, .ref q8, .ref q10, .int 0, .int 0, .int 0, .int 0, .int 0, .int 0, .int 0, .int 0, .int 0, .int 0, .int 2147483647, .int 0, .int 2147483647])), (q4, .inl (c5, 610, .inl f169)), (q6, .inl (c7, 610, .inl f170))] H := hP
  have hD : va_D A [(q2, .inl (c3, 1260, .inl f174)), (h0, .inr (16, [.ref h1, .int 0, .ref q1, .ref q2, .ref q4, .ref q6, .int 7, .int 33, .ref q8, .ref q10, .int 0, .int 0, .int 0, .int 0, .int 0, .int 0, .int 0, .int 0, .int 0, .int 0, .int 2147483647, .int 0, .int 2147483647])), (q4, .inl (c5, 610, .inl f169)), (q6, .inl (c7, 610, .inl f170))] := hD
  refine va_ldcS hx hb hown hE.2.2.2.2.2.2.2.2.1 dX19_init_124 ?_
  refine lv_iload hx hb dX19_init_126 (lv_at hl 0 rfl) ?_
  have hPc := hP.sub (ws' := []) [] rfl
  have hDc := hD.sub (ws' := []) [] (by decide) rfl
  have hKc := hK.sub (tys' := []) [] rfl
  have hFc := va_free (wc := []) hD hS hA [] rfl
  refine va_calli (va_runV (As := [.int 39]) (rest := [.int 32, .ref q2]) ⟨hx, hb, hml, hown, hts⟩ (kS_charAt l dC dI (p0 := 39) (sz := _) (h1 := (by decide)) (h2 := (by decide))) (cwV 1 hts (gi_V qw418 qw419 qw420 qw324 (gi_z qw417)) rfl rfl rfl (by decide +kernel) ⟨Nat.le_of_ble_eq_true rfl, Nat.le_of_ble_eq_true rfl⟩) ⟨PRE.blind, STC.recv hE.2.2.2.2.2.2.2.2 hS, PRE.of hE hS hFc hPc hKc hDc⟩ rfl rfl hl.1 rfl (lv_room (Nat.le_of_ble_eq_true rfl)) dX19_init_128 ⟨Nat.le_of_ble_eq_true rfl, Nat.le_of_ble_eq_true rfl⟩) hS (fun q _ h => hFc q h) hFc (fun r177 u t H locs ht hvm hw hB hz1 hk1 hS => ?_)
  obtain ⟨hP, hD, hK⟩ := JOIN (wr := [(q2, .inl (c3, 1260, .inl f174)), (h0, .inr (16, [.ref h1, .int 0, .ref q1, .ref q2, .ref q4, .ref q6, .int 7, .int 33, .ref q8, .ref q10, .int 0, .int 0, .int 0, .int 0, .int 0, .int 0, .int 0, .int 0, .int 0, .int 0, .int 2147483647, .int 0, .int 2147483647])), (q4, .inl (c5, 610, .inl f169)), (q6, .inl (c7, 610, .inl f170))]) hP hD hK [] [0, 1, 2, 3] [0, 1, 2] rfl rfl (by decide) (by decide) rfl hk1 hFc ht hvm hB
  have hP : va_P (dC, dI) cls [(q2, .inl (c3, 1260, .inl f174)), (h0, .inr (16, [.ref h1, .int 0, .ref q1, .ref q2, .ref q4, .ref q6, .int 7, .int 33, .ref q8, .ref q10, .int 0, .int 0, .int 0, .int 0, .int 0, .int 0, .int 0, .int 0, .int 0, .int 0, .int 2147483647, .int 0, .int 2147483647])), (q4, .inl (c5, 610, .inl f169)), (q6, .inl (c7, 610, .inl f170))] H := hP
  have hD : va_D A [(q2, .inl (c3, 1260, .inl f174)), (h0, .inr (16, [.ref h1, .int 0, .ref q1, .ref q2, .ref q4, .ref q6, .int 7, .int 33, .ref q8, .ref q10, .int 0, .int 0, .int 0, .int 0, .int 0, .int 0, .int 0, .int 0, .int 0, .int 0, .int 2147483647, .int 0, .int 2147483647])), (q4, .inl (c5, 610, .inl f169)), (q6, .inl (c7, 610, .inl f170))] := hD
  have hK : va_K (dC, dI) cls [(c3, .int), (c5, .int), (c7, .int)] s := hK
  refine W.widen (k := 19) (n := 19730) (Nat.le_of_ble_eq_true rfl) (Nat.le_of_ble_eq_true rfl) ?_
  obtain rfl : r177 = (((((kb (Int32.toNatClampNeg 39)) &&& 255)).toUInt32 % 65536).toInt32) := hw
  refine lv_topC (y := 104) (by decide) ?_
  refine va_iast hx hb hK hP hD hS 0 0 rfl rfl (by unfold vp_in; decide +kernel) dX19_init_131 (fun H locs hP hD hS => ?_)
  have hP : va_P (dC, dI) cls [(q2, .inl (c3, 1260, .inl (upd f174 (Int32.toNatClampNeg 32) 104))), (h0, .inr (16, [.ref h1, .int 0, .ref q1, .ref q2, .ref q4, .ref q6, .int 7, .int 33, .ref q8, .ref q10, .int 0, .int 0, .int 0, .int 0, .int 0, .int 0, .int 0, .int 0, .int 0, .int 0, .int 2147483647, .int 0, .int 2147483647])), (q4, .inl (c5, 610, .inl f169)), (q6, .inl (c7, 610, .inl f170))] H := hP
  have hD : va_D A [(q2, .inl (c3, 1260, .inl (upd f174 (Int32.toNatClampNeg 32) 104))), (h0, .inr (16, [.ref h1, .int 0, .ref q1, .ref q2, .ref q4, .ref q6, .int 7, .int 33, .ref q8, .ref q10, .int 0, .int 0, .int 0, .int 0, .int 0, .int 0, .int 0, .int 0, .int 0, .int 0, .int 2147483647, .int 0, .int 2147483647])), (q4, .inl (c5, 610, .inl f169)), (q6, .inl (c7, 610, .inl f170))] := hD
  generalize upd f174 (Int32.toNatClampNeg 32) 104 = f178 at hP hD
  refine lv_goto (tgt := 146) hx hb dX19_init_132 (by decide) ?_
  refine lv_iinc (v := 40) (lv' := [(4, .int 40), (3, .int 31), (0, .ref h0), (1, .ref h1), (2, .int 0)]) hx hb dX19_init_146 hl (k := 0) rfl (by decide) (by decide) rfl (fun ls hl => ?_)
  refine lv_goto (tgt := 87) hx hb dX19_init_149 (by decide) ?_
  refine lv_iload hx hb dX19_init_87 (lv_at hl 0 rfl) ?_
  refine va_ldcS hx hb hown hE.2.2.2.2.2.2.2.2.1 dX19_init_89 ?_
  have hPc := hP.sub (ws' := []) [] rfl
  have hDc := hD.sub (ws' := []) [] (by decide) rfl
  have hKc := hK.sub (tys' := []) [] rfl
  have hFc := va_free (wc := []) hD hS hA [] rfl
  refine va_calli (va_runV (As := []) (rest := [.int 40]) ⟨hx, hb, hml, hown, hts⟩ (kS_length l dC dI  (sz := _)) (cwV 0 hts (gi_V qw414 qw415 qw416 qw324 (gi_z qw413)) rfl rfl rfl (by decide +kernel) ⟨Nat.le_of_ble_eq_true rfl, Nat.le_of_ble_eq_true rfl⟩) ⟨PRE.blind, STC.recv hE.2.2.2.2.2.2.2.2 hS, PRE.of hE hS hFc hPc hKc hDc⟩ rfl rfl hl.1 rfl (lv_room (Nat.le_of_ble_eq_true rfl)) dX19_init_91 ⟨Nat.le_of_ble_eq_true rfl, Nat.le_of_ble_eq_true rfl⟩) hS (fun q _ h => hFc q h) hFc (fun r179 u t H locs ht hvm hw hB hz1 hk1 hS => ?_)
  obtain ⟨hP, hD, hK⟩ := JOIN (wr := [(q2, .inl (c3, 1260, .inl f178)), (h0, .inr (16, [.ref h1, .int 0, .ref q1, .ref q2, .ref q4, .ref q6, .int 7, .int 33, .ref q8, .ref q10, .int 0, .int 0, .int 0, .int 0, .int 0, .int 0, .int 0, .int 0, .int 0, .int 0, .int 2147483647, .int 0, .int 2147483647])), (q4, .inl (c5, 610, .inl f169)), (q6, .inl (c7, 610, .inl f170))]) hP hD hK [] [0, 1, 2, 3] [0, 1, 2] rfl rfl (by decide) (by decide) rfl hk1 hFc ht hvm hB
  have hP : va_P (dC, dI) cls [(q2, .inl (c3, 1260, .inl f178)), (h0, .inr (16, [.ref h1, .int 0, .ref q1, .ref q2, .ref q4, .ref q6, .int 7, .int 33, .ref q8, .ref q10, .int 0, .int 0, .int 0, .int 0, .int 0, .int 0, .int 0, .int 0, .int 0, .int 0, .int 2147483647, .int 0, .int 2147483647])), (q4, .inl (c5, 610, .inl f169)), (q6, .inl (c7, 610, .inl f170))] H := hP
  have hD : va_D A [(q2, .inl (c3, 1260, .inl f178)), (h0, .inr (16, [.ref h1, .int 0, .ref q1, .ref q2, .ref q4, .ref q6, .int 7, .int 33, .ref q8, .ref q10, .int 0, .int 0, .int 0, .int 0, .int 0, .int 0, .int 0, .int 0, .int 0, .int 0, .int 2147483647, .int 0, .int 2147483647])), (q4, .inl (c5, 610, .inl f169)), (q6, .inl (c7, 610, .inl f170))] := hD
  have hK : va_K (dC, dI) cls [(c3, .int), (c5, .int), (c7, .int)] s := hK
  refine W.widen (k := 19) (n := 19730) (Nat.le_of_ble_eq_true rfl) (Nat.le_of_ble_eq_true rfl) ?_
  obtain rfl : r179 = 44 := hw
  refine lv_icmp_ge (tgt := 152) hx hb dX19_init_94 (by decide) (fun c => absurd c (by decide)) (fun _ => ?_)
  refine va_ldcS hx hb hown hE.2.2.2.2.2.2.2.2.1 dX19_init_97 ?_
  refine lv_iload hx hb dX19_init_99 (lv_at hl 0 rfl) ?_
  have hPc := hP.sub (ws' := []) [] rfl
  have hDc := hD.sub (ws' := []) [] (by decide) rfl
  have hKc := hK.sub (tys' := []) [] rfl
  have hFc := va_free (wc := []) hD hS hA [] rfl
  refine va_calli (va_runV (As := [.int 40]) (rest := []) ⟨hx, hb, hml, hown, hts⟩ (kS_charAt l dC dI (p0 := 40) (sz := _) (h1 := (by decide)) (h2 := (by decide))) (cwV 1 hts (gi_V qw418 qw419 qw420 qw324 (gi_z qw417)) rfl rfl rfl (by decide +kernel) ⟨Nat.le_of_ble_eq_true rfl, Nat.le_of_ble_eq_true rfl⟩) ⟨PRE.blind, STC.recv hE.2.2.2.2.2.2.2.2 hS, PRE.of hE hS hFc hPc hKc hDc⟩ rfl rfl hl.1 rfl (lv_room (Nat.le_of_ble_eq_true rfl)) dX19_init_101 ⟨Nat.le_of_ble_eq_true rfl, Nat.le_of_ble_eq_true rfl⟩) hS (fun q _ h => hFc q h) hFc (fun r180 u t H locs ht hvm hw hB hz1 hk1 hS => ?_)
  obtain ⟨hP, hD, hK⟩ := JOIN (wr := [(q2, .inl (c3, 1260, .inl f178)), (h0, .inr (16, [.ref h1, .int 0, .ref q1, .ref q2, .ref q4, .ref q6, .int 7, .int 33, .ref q8, .ref q10, .int 0, .int 0, .int 0, .int 0, .int 0, .int 0, .int 0, .int 0, .int 0, .int 0, .int 2147483647, .int 0, .int 2147483647])), (q4, .inl (c5, 610, .inl f169)), (q6, .inl (c7, 610, .inl f170))]) hP hD hK [] [0, 1, 2, 3] [0, 1, 2] rfl rfl (by decide) (by decide) rfl hk1 hFc ht hvm hB
  have hP : va_P (dC, dI) cls [(q2, .inl (c3, 1260, .inl f178)), (h0, .inr (16, [.ref h1, .int 0, .ref q1, .ref q2, .ref q4, .ref q6, .int 7, .int 33, .ref q8, .ref q10, .int 0, .int 0, .int 0, .int 0, .int 0, .int 0, .int 0, .int 0, .int 0, .int 0, .int 2147483647, .int 0, .int 2147483647])), (q4, .inl (c5, 610, .inl f169)), (q6, .inl (c7, 610, .inl f170))] H := hP
  have hD : va_D A [(q2, .inl (c3, 1260, .inl f178)), (h0, .inr (16, [.ref h1, .int 0, .ref q1, .ref q2, .ref q4, .ref q6, .int 7, .int 33, .ref q8, .ref q10, .int 0, .int 0, .int 0, .int 0, .int 0, .int 0, .int 0, .int 0, .int 0, .int 0, .int 2147483647, .int 0, .int 2147483647])), (q4, .inl (c5, 610, .inl f169)), (q6, .inl (c7, 610, .inl f170))] := hD
  have hK : va_K (dC, dI) cls [(c3, .int), (c5, .int), (c7, .int)] s := hK
  refine W.widen (k := 19) (n := 19730) (Nat.le_of_ble_eq_true rfl) (Nat.le_of_ble_eq_true rfl) ?_
  obtain rfl : r180 = (((((kb (Int32.toNatClampNeg 40)) &&& 255)).toUInt32 % 65536).toInt32) := hw
  refine lv_topC (y := 105) (by decide) ?_
  refine lv_bipush (v := 32) hx hb dX19_init_104 (by decide) ?_
  refine lv_icmp_eq (tgt := 135) hx hb dX19_init_106 (by decide) (fun c => absurd c (by decide)) (fun _ => ?_)
  refine lv_aload_n hx hb dX19_init_109 rfl (lv_at hl 2 rfl) ?_
  refine va_get (D := (dC, dI)) (ci := 16) (v := .ref q2) (C := RX19) (T := TX19) (N := 23) hx hb hts i_X19 hown hK hP 1 rfl rfl 3 (by decide) (hts _ qw403) (fun _ h9 => h9) rfl dX19_init_110 ?_
  refine lv_aload_n hx hb dX19_init_113 rfl (lv_at hl 2 rfl) ?_
  refine lv_dup hx hb dX19_init_114 rfl ?_
  refine va_get (D := (dC, dI)) (ci := 16) (v := .int 33) (C := RX19) (T := TX19) (N := 23) hx hb hts i_X19 hown hK hP 1 rfl rfl 7 (by decide) (hts _ qw421) (fun _ h9 => h9) rfl dX19_init_115 ?_
  refine lv_dup_x1 hx hb dX19_init_118 rfl rfl ?_
  refine lv_iconst (v := 1) hx hb dX19_init_119 (by decide) ?_
  refine lv_iadd hx hb dX19_init_120 ?_
  refine lv_topC (y := 34) (by decide) ?_
  refine va_put (D := (dC, dI)) (ci := 16) (v := .int 34) (ty := .int) (C := RX19) (T := TX19) (N := 23) hx hb hts i_X19 tyX19 tyX19_ok nmX19 hown hK hP hD hS 1 rfl rfl 7 (by decide) (hts _ qw421) (fun _ h9 => h9) rfl (by decide +kernel) rfl rfl (Nat.le_of_ble_eq_true rfl) dX19_init_121 (fun H locs hP hD hS => ?_)
  have hP : va_P (dC, dI) cls [(q2, .inl (c3, 1260, .inl f178)), (h0, .inr (16, [.ref h1, .int 0, .ref q1, .ref q2, .ref q4, .ref q6, .int 7, .int 34, .ref q8, .ref q10, .int 0, .int 0, .int 0, .int 0, .int 0, .int 0, .int 0, .int 0, .int 0, .int 0, .int 2147483647, .int 0, .int 2147483647])), (q4, .inl (c5, 610, .inl f169)), (q6, .inl (c7, 610, .inl f170))] H := hP
  have hD : va_D A [(q2, .inl (c3, 1260, .inl f178)), (h0, .inr (16, [.ref h1, .int 0, .ref q1, .ref q2, .ref q4, .ref q6, .int 7, .int 34, .ref q8, .ref q10, .int 0, .int 0, .int 0, .int 0, .int 0, .int 0, .int 0, .int 0, .int 0, .int 0, .int 2147483647, .int 0, .int 2147483647])), (q4, .inl (c5, 610, .inl f169)), (q6, .inl (c7, 610, .inl f170))] := hD
  refine va_ldcS hx hb hown hE.2.2.2.2.2.2.2.2.1 dX19_init_124 ?_
  refine lv_iload hx hb dX19_init_126 (lv_at hl 0 rfl) ?_
  have hPc := hP.sub (ws' := []) [] rfl
  have hDc := hD.sub (ws' := []) [] (by decide) rfl
  have hKc := hK.sub (tys' := []) [] rfl
  have hFc := va_free (wc := []) hD hS hA [] rfl
  refine va_calli (va_runV (As := [.int 40]) (rest := [.int 33, .ref q2]) ⟨hx, hb, hml, hown, hts⟩ (kS_charAt l dC dI (p0 := 40) (sz := _) (h1 := (by decide)) (h2 := (by decide))) (cwV 1 hts (gi_V qw418 qw419 qw420 qw324 (gi_z qw417)) rfl rfl rfl (by decide +kernel) ⟨Nat.le_of_ble_eq_true rfl, Nat.le_of_ble_eq_true rfl⟩) ⟨PRE.blind, STC.recv hE.2.2.2.2.2.2.2.2 hS, PRE.of hE hS hFc hPc hKc hDc⟩ rfl rfl hl.1 rfl (lv_room (Nat.le_of_ble_eq_true rfl)) dX19_init_128 ⟨Nat.le_of_ble_eq_true rfl, Nat.le_of_ble_eq_true rfl⟩) hS (fun q _ h => hFc q h) hFc (fun r181 u t H locs ht hvm hw hB hz1 hk1 hS => ?_)
  obtain ⟨hP, hD, hK⟩ := JOIN (wr := [(q2, .inl (c3, 1260, .inl f178)), (h0, .inr (16, [.ref h1, .int 0, .ref q1, .ref q2, .ref q4, .ref q6, .int 7, .int 34, .ref q8, .ref q10, .int 0, .int 0, .int 0, .int 0, .int 0, .int 0, .int 0, .int 0, .int 0, .int 0, .int 2147483647, .int 0, .int 2147483647])), (q4, .inl (c5, 610, .inl f169)), (q6, .inl (c7, 610, .inl f170))]) hP hD hK [] [0, 1, 2, 3] [0, 1, 2] rfl rfl (by decide) (by decide) rfl hk1 hFc ht hvm hB
  have hP : va_P (dC, dI) cls [(q2, .inl (c3, 1260, .inl f178)), (h0, .inr (16, [.ref h1, .int 0, .ref q1, .ref q2, .ref q4, .ref q6, .int 7, .int 34, .ref q8, .ref q10, .int 0, .int 0, .int 0, .int 0, .int 0, .int 0, .int 0, .int 0, .int 0, .int 0, .int 2147483647, .int 0, .int 2147483647])), (q4, .inl (c5, 610, .inl f169)), (q6, .inl (c7, 610, .inl f170))] H := hP
  have hD : va_D A [(q2, .inl (c3, 1260, .inl f178)), (h0, .inr (16, [.ref h1, .int 0, .ref q1, .ref q2, .ref q4, .ref q6, .int 7, .int 34, .ref q8, .ref q10, .int 0, .int 0, .int 0, .int 0, .int 0, .int 0, .int 0, .int 0, .int 0, .int 0, .int 2147483647, .int 0, .int 2147483647])), (q4, .inl (c5, 610, .inl f169)), (q6, .inl (c7, 610, .inl f170))] := hD
  have hK : va_K (dC, dI) cls [(c3, .int), (c5, .int), (c7, .int)] s := hK
  refine W.widen (k := 19) (n := 19730) (Nat.le_of_ble_eq_true rfl) (Nat.le_of_ble_eq_true rfl) ?_
  obtain rfl : r181 = (((((kb (Int32.toNatClampNeg 40)) &&& 255)).toUInt32 % 65536).toInt32) := hw
  refine lv_topC (y := 105) (by decide) ?_
  refine va_iast hx hb hK hP hD hS 0 0 rfl rfl (by unfold vp_in; decide +kernel) dX19_init_131 (fun H locs hP hD hS => ?_)
  have hP : va_P (dC, dI) cls [(q2, .inl (c3, 1260, .inl (upd f178 (Int32.toNatClampNeg 33) 105))), (h0, .inr (16, [.ref h1, .int 0, .ref q1, .ref q2, .ref q4, .ref q6, .int 7, .int 34, .ref q8, .ref q10, .int 0, .int 0, .int 0, .int 0, .int 0, .int 0, .int 0, .int 0, .int 0, .int 0, .int 2147483647, .int 0, .int 2147483647])), (q4, .inl (c5, 610, .inl f169)), (q6, .inl (c7, 610, .inl f170))] H := hP
  have hD : va_D A [(q2, .inl (c3, 1260, .inl (upd f178 (Int32.toNatClampNeg 33) 105))), (h0, .inr (16, [.ref h1, .int 0, .ref q1, .ref q2, .ref q4, .ref q6, .int 7, .int 34, .ref q8, .ref q10, .int 0, .int 0, .int 0, .int 0, .int 0, .int 0, .int 0, .int 0, .int 0, .int 0, .int 2147483647, .int 0, .int 2147483647])), (q4, .inl (c5, 610, .inl f169)), (q6, .inl (c7, 610, .inl f170))] := hD
  generalize upd f178 (Int32.toNatClampNeg 33) 105 = f182 at hP hD
  refine lv_goto (tgt := 146) hx hb dX19_init_132 (by decide) ?_
  refine lv_iinc (v := 41) (lv' := [(4, .int 41), (3, .int 31), (0, .ref h0), (1, .ref h1), (2, .int 0)]) hx hb dX19_init_146 hl (k := 0) rfl (by decide) (by decide) rfl (fun ls hl => ?_)
  refine lv_goto (tgt := 87) hx hb dX19_init_149 (by decide) ?_
  refine lv_iload hx hb dX19_init_87 (lv_at hl 0 rfl) ?_
  refine va_ldcS hx hb hown hE.2.2.2.2.2.2.2.2.1 dX19_init_89 ?_
  have hPc := hP.sub (ws' := []) [] rfl
  have hDc := hD.sub (ws' := []) [] (by decide) rfl
  have hKc := hK.sub (tys' := []) [] rfl
  have hFc := va_free (wc := []) hD hS hA [] rfl
  refine va_calli (va_runV (As := []) (rest := [.int 41]) ⟨hx, hb, hml, hown, hts⟩ (kS_length l dC dI  (sz := _)) (cwV 0 hts (gi_V qw414 qw415 qw416 qw324 (gi_z qw413)) rfl rfl rfl (by decide +kernel) ⟨Nat.le_of_ble_eq_true rfl, Nat.le_of_ble_eq_true rfl⟩) ⟨PRE.blind, STC.recv hE.2.2.2.2.2.2.2.2 hS, PRE.of hE hS hFc hPc hKc hDc⟩ rfl rfl hl.1 rfl (lv_room (Nat.le_of_ble_eq_true rfl)) dX19_init_91 ⟨Nat.le_of_ble_eq_true rfl, Nat.le_of_ble_eq_true rfl⟩) hS (fun q _ h => hFc q h) hFc (fun r183 u t H locs ht hvm hw hB hz1 hk1 hS => ?_)
  obtain ⟨hP, hD, hK⟩ := JOIN (wr := [(q2, .inl (c3, 1260, .inl f182)), (h0, .inr (16, [.ref h1, .int 0, .ref q1, .ref q2, .ref q4, .ref q6, .int 7, .int 34, .ref q8, .ref q10, .int 0, .int 0, .int 0, .int 0, .int 0, .int 0, .int 0, .int 0, .int 0, .int 0, .int 2147483647, .int 0, .int 2147483647])), (q4, .inl (c5, 610, .inl f169)), (q6, .inl (c7, 610, .inl f170))]) hP hD hK [] [0, 1, 2, 3] [0, 1, 2] rfl rfl (by decide) (by decide) rfl hk1 hFc ht hvm hB
  have hP : va_P (dC, dI) cls [(q2, .inl (c3, 1260, .inl f182)), (h0, .inr (16, [.ref h1, .int 0, .ref q1, .ref q2, .ref q4, .ref q6, .int 7, .int 34, .ref q8, .ref q10, .int 0, .int 0, .int 0, .int 0, .int 0, .int 0, .int 0, .int 0, .int 0, .int 0, .int 2147483647, .int 0, .int 2147483647])), (q4, .inl (c5, 610, .inl f169)), (q6, .inl (c7, 610, .inl f170))] H := hP
  have hD : va_D A [(q2, .inl (c3, 1260, .inl f182)), (h0, .inr (16, [.ref h1, .int 0, .ref q1, .ref q2, .ref q4, .ref q6, .int 7, .int 34, .ref q8, .ref q10, .int 0, .int 0, .int 0, .int 0, .int 0, .int 0, .int 0, .int 0, .int 0, .int 0, .int 2147483647, .int 0, .int 2147483647])), (q4, .inl (c5, 610, .inl f169)), (q6, .inl (c7, 610, .inl f170))] := hD
  have hK : va_K (dC, dI) cls [(c3, .int), (c5, .int), (c7, .int)] s := hK
  refine W.widen (k := 19) (n := 19730) (Nat.le_of_ble_eq_true rfl) (Nat.le_of_ble_eq_true rfl) ?_
  obtain rfl : r183 = 44 := hw
  refine lv_icmp_ge (tgt := 152) hx hb dX19_init_94 (by decide) (fun c => absurd c (by decide)) (fun _ => ?_)
  refine va_ldcS hx hb hown hE.2.2.2.2.2.2.2.2.1 dX19_init_97 ?_
  refine lv_iload hx hb dX19_init_99 (lv_at hl 0 rfl) ?_
  have hPc := hP.sub (ws' := []) [] rfl
  have hDc := hD.sub (ws' := []) [] (by decide) rfl
  have hKc := hK.sub (tys' := []) [] rfl
  have hFc := va_free (wc := []) hD hS hA [] rfl
  refine va_calli (va_runV (As := [.int 41]) (rest := []) ⟨hx, hb, hml, hown, hts⟩ (kS_charAt l dC dI (p0 := 41) (sz := _) (h1 := (by decide)) (h2 := (by decide))) (cwV 1 hts (gi_V qw418 qw419 qw420 qw324 (gi_z qw417)) rfl rfl rfl (by decide +kernel) ⟨Nat.le_of_ble_eq_true rfl, Nat.le_of_ble_eq_true rfl⟩) ⟨PRE.blind, STC.recv hE.2.2.2.2.2.2.2.2 hS, PRE.of hE hS hFc hPc hKc hDc⟩ rfl rfl hl.1 rfl (lv_room (Nat.le_of_ble_eq_true rfl)) dX19_init_101 ⟨Nat.le_of_ble_eq_true rfl, Nat.le_of_ble_eq_true rfl⟩) hS (fun q _ h => hFc q h) hFc (fun r184 u t H locs ht hvm hw hB hz1 hk1 hS => ?_)
  obtain ⟨hP, hD, hK⟩ := JOIN (wr := [(q2, .inl (c3, 1260, .inl f182)), (h0, .inr (16, [.ref h1, .int 0, .ref q1, .ref q2, .ref q4, .ref q6, .int 7, .int 34, .ref q8, .ref q10, .int 0, .int 0, .int 0, .int 0, .int 0, .int 0, .int 0, .int 0, .int 0, .int 0, .int 2147483647, .int 0, .int 2147483647])), (q4, .inl (c5, 610, .inl f169)), (q6, .inl (c7, 610, .inl f170))]) hP hD hK [] [0, 1, 2, 3] [0, 1, 2] rfl rfl (by decide) (by decide) rfl hk1 hFc ht hvm hB
  have hP : va_P (dC, dI) cls [(q2, .inl (c3, 1260, .inl f182)), (h0, .inr (16, [.ref h1, .int 0, .ref q1, .ref q2, .ref q4, .ref q6, .int 7, .int 34, .ref q8, .ref q10, .int 0, .int 0, .int 0, .int 0, .int 0, .int 0, .int 0, .int 0, .int 0, .int 0, .int 2147483647, .int 0, .int 2147483647])), (q4, .inl (c5, 610, .inl f169)), (q6, .inl (c7, 610, .inl f170))] H := hP
  have hD : va_D A [(q2, .inl (c3, 1260, .inl f182)), (h0, .inr (16, [.ref h1, .int 0, .ref q1, .ref q2, .ref q4, .ref q6, .int 7, .int 34, .ref q8, .ref q10, .int 0, .int 0, .int 0, .int 0, .int 0, .int 0, .int 0, .int 0, .int 0, .int 0, .int 2147483647, .int 0, .int 2147483647])), (q4, .inl (c5, 610, .inl f169)), (q6, .inl (c7, 610, .inl f170))] := hD
  have hK : va_K (dC, dI) cls [(c3, .int), (c5, .int), (c7, .int)] s := hK
  refine W.widen (k := 19) (n := 19730) (Nat.le_of_ble_eq_true rfl) (Nat.le_of_ble_eq_true rfl) ?_
  obtain rfl : r184 = (((((kb (Int32.toNatClampNeg 41)) &&& 255)).toUInt32 % 65536).toInt32) := hw
  refine lv_topC (y := 108) (by decide) ?_
  refine lv_bipush (v := 32) hx hb dX19_init_104 (by decide) ?_
  refine lv_icmp_eq (tgt := 135) hx hb dX19_init_106 (by decide) (fun c => absurd c (by decide)) (fun _ => ?_)
  refine lv_aload_n hx hb dX19_init_109 rfl (lv_at hl 2 rfl) ?_
  refine va_get (D := (dC, dI)) (ci := 16) (v := .ref q2) (C := RX19) (T := TX19) (N := 23) hx hb hts i_X19 hown hK hP 1 rfl rfl 3 (by decide) (hts _ qw403) (fun _ h9 => h9) rfl dX19_init_110 ?_
  refine lv_aload_n hx hb dX19_init_113 rfl (lv_at hl 2 rfl) ?_
  refine lv_dup hx hb dX19_init_114 rfl ?_
  refine va_get (D := (dC, dI)) (ci := 16) (v := .int 34) (C := RX19) (T := TX19) (N := 23) hx hb hts i_X19 hown hK hP 1 rfl rfl 7 (by decide) (hts _ qw421) (fun _ h9 => h9) rfl dX19_init_115 ?_
  refine lv_dup_x1 hx hb dX19_init_118 rfl rfl ?_
  refine lv_iconst (v := 1) hx hb dX19_init_119 (by decide) ?_
  refine lv_iadd hx hb dX19_init_120 ?_
  refine lv_topC (y := 35) (by decide) ?_
  refine va_put (D := (dC, dI)) (ci := 16) (v := .int 35) (ty := .int) (C := RX19) (T := TX19) (N := 23) hx hb hts i_X19 tyX19 tyX19_ok nmX19 hown hK hP hD hS 1 rfl rfl 7 (by decide) (hts _ qw421) (fun _ h9 => h9) rfl (by decide +kernel) rfl rfl (Nat.le_of_ble_eq_true rfl) dX19_init_121 (fun H locs hP hD hS => ?_)
  have hP : va_P (dC, dI) cls [(q2, .inl (c3, 1260, .inl f182)), (h0, .inr (16, [.ref h1, .int 0, .ref q1, .ref q2, .ref q4, .ref q6, .int 7, .int 35, .ref q8, .ref q10, .int 0, .int 0, .int 0, .int 0, .int 0, .int 0, .int 0, .int 0, .int 0, .int 0, .int 2147483647, .int 0, .int 2147483647])), (q4, .inl (c5, 610, .inl f169)), (q6, .inl (c7, 610, .inl f170))] H := hP
  have hD : va_D A [(q2, .inl (c3, 1260, .inl f182)), (h0, .inr (16, [.ref h1, .int 0, .ref q1, .ref q2, .ref q4, .ref q6, .int 7, .int 35, .ref q8, .ref q10, .int 0, .int 0, .int 0, .int 0, .int 0, .int 0, .int 0, .int 0, .int 0, .int 0, .int 2147483647, .int 0, .int 2147483647])), (q4, .inl (c5, 610, .inl f169)), (q6, .inl (c7, 610, .inl f170))] := hD
  refine va_ldcS hx hb hown hE.2.2.2.2.2.2.2.2.1 dX19_init_124 ?_
  refine lv_iload hx hb dX19_init_126 (lv_at hl 0 rfl) ?_
  have hPc := hP.sub (ws' := []) [] rfl
  have hDc := hD.sub (ws' := []) [] (by decide) rfl
  have hKc := hK.sub (tys' := []) [] rfl
  have hFc := va_free (wc := []) hD hS hA [] rfl
  refine va_calli (va_runV (As := [.int 41]) (rest := [.int 34, .ref q2]) ⟨hx, hb, hml, hown, hts⟩ (kS_charAt l dC dI (p0 := 41) (sz := _) (h1 := (by decide)) (h2 := (by decide))) (cwV 1 hts (gi_V qw418 qw419 qw420 qw324 (gi_z qw417)) rfl rfl rfl (by decide +kernel) ⟨Nat.le_of_ble_eq_true rfl, Nat.le_of_ble_eq_true rfl⟩) ⟨PRE.blind, STC.recv hE.2.2.2.2.2.2.2.2 hS, PRE.of hE hS hFc hPc hKc hDc⟩ rfl rfl hl.1 rfl (lv_room (Nat.le_of_ble_eq_true rfl)) dX19_init_128 ⟨Nat.le_of_ble_eq_true rfl, Nat.le_of_ble_eq_true rfl⟩) hS (fun q _ h => hFc q h) hFc (fun r185 u t H locs ht hvm hw hB hz1 hk1 hS => ?_)
  obtain ⟨hP, hD, hK⟩ := JOIN (wr := [(q2, .inl (c3, 1260, .inl f182)), (h0, .inr (16, [.ref h1, .int 0, .ref q1, .ref q2, .ref q4, .ref q6, .int 7, .int 35, .ref q8, .ref q10, .int 0, .int 0, .int 0, .int 0, .int 0, .int 0, .int 0, .int 0, .int 0, .int 0, .int 2147483647, .int 0, .int 2147483647])), (q4, .inl (c5, 610, .inl f169)), (q6, .inl (c7, 610, .inl f170))]) hP hD hK [] [0, 1, 2, 3] [0, 1, 2] rfl rfl (by decide) (by decide) rfl hk1 hFc ht hvm hB
  have hP : va_P (dC, dI) cls [(q2, .inl (c3, 1260, .inl f182)), (h0, .inr (16, [.ref h1, .int 0, .ref q1, .ref q2, .ref q4, .ref q6, .int 7, .int 35, .ref q8, .ref q10, .int 0, .int 0, .int 0, .int 0, .int 0, .int 0, .int 0, .int 0, .int 0, .int 0, .int 2147483647, .int 0, .int 2147483647])), (q4, .inl (c5, 610, .inl f169)), (q6, .inl (c7, 610, .inl f170))] H := hP
  have hD : va_D A [(q2, .inl (c3, 1260, .inl f182)), (h0, .inr (16, [.ref h1, .int 0, .ref q1, .ref q2, .ref q4, .ref q6, .int 7, .int 35, .ref q8, .ref q10, .int 0, .int 0, .int 0, .int 0, .int 0, .int 0, .int 0, .int 0, .int 0, .int 0, .int 2147483647, .int 0, .int 2147483647])), (q4, .inl (c5, 610, .inl f169)), (q6, .inl (c7, 610, .inl f170))] := hD
  have hK : va_K (dC, dI) cls [(c3, .int), (c5, .int), (c7, .int)] s := hK
  refine W.widen (k := 19) (n := 19730) (Nat.le_of_ble_eq_true rfl) (Nat.le_of_ble_eq_true rfl) ?_
  obtain rfl : r185 = (((((kb (Int32.toNatClampNeg 41)) &&& 255)).toUInt32 % 65536).toInt32) := hw
  refine lv_topC (y := 108) (by decide) ?_
  refine va_iast hx hb hK hP hD hS 0 0 rfl rfl (by unfold vp_in; decide +kernel) dX19_init_131 (fun H locs hP hD hS => ?_)
  have hP : va_P (dC, dI) cls [(q2, .inl (c3, 1260, .inl (upd f182 (Int32.toNatClampNeg 34) 108))), (h0, .inr (16, [.ref h1, .int 0, .ref q1, .ref q2, .ref q4, .ref q6, .int 7, .int 35, .ref q8, .ref q10, .int 0, .int 0, .int 0, .int 0, .int 0, .int 0, .int 0, .int 0, .int 0, .int 0, .int 2147483647, .int 0, .int 2147483647])), (q4, .inl (c5, 610, .inl f169)), (q6, .inl (c7, 610, .inl f170))] H := hP
  have hD : va_D A [(q2, .inl (c3, 1260, .inl (upd f182 (Int32.toNatClampNeg 34) 108))), (h0, .inr (16, [.ref h1, .int 0, .ref q1, .ref q2, .ref q4, .ref q6, .int 7, .int 35, .ref q8, .ref q10, .int 0, .int 0, .int 0, .int 0, .int 0, .int 0, .int 0, .int 0, .int 0, .int 0, .int 2147483647, .int 0, .int 2147483647])), (q4, .inl (c5, 610, .inl f169)), (q6, .inl (c7, 610, .inl f170))] := hD
  generalize upd f182 (Int32.toNatClampNeg 34) 108 = f186 at hP hD
  refine lv_goto (tgt := 146) hx hb dX19_init_132 (by decide) ?_
  refine lv_iinc (v := 42) (lv' := [(4, .int 42), (3, .int 31), (0, .ref h0), (1, .ref h1), (2, .int 0)]) hx hb dX19_init_146 hl (k := 0) rfl (by decide) (by decide) rfl (fun ls hl => ?_)
  refine lv_goto (tgt := 87) hx hb dX19_init_149 (by decide) ?_
  refine lv_iload hx hb dX19_init_87 (lv_at hl 0 rfl) ?_
  refine va_ldcS hx hb hown hE.2.2.2.2.2.2.2.2.1 dX19_init_89 ?_
  have hPc := hP.sub (ws' := []) [] rfl
  have hDc := hD.sub (ws' := []) [] (by decide) rfl
  have hKc := hK.sub (tys' := []) [] rfl
  have hFc := va_free (wc := []) hD hS hA [] rfl
  refine va_calli (va_runV (As := []) (rest := [.int 42]) ⟨hx, hb, hml, hown, hts⟩ (kS_length l dC dI  (sz := _)) (cwV 0 hts (gi_V qw414 qw415 qw416 qw324 (gi_z qw413)) rfl rfl rfl (by decide +kernel) ⟨Nat.le_of_ble_eq_true rfl, Nat.le_of_ble_eq_true rfl⟩) ⟨PRE.blind, STC.recv hE.2.2.2.2.2.2.2.2 hS, PRE.of hE hS hFc hPc hKc hDc⟩ rfl rfl hl.1 rfl (lv_room (Nat.le_of_ble_eq_true rfl)) dX19_init_91 ⟨Nat.le_of_ble_eq_true rfl, Nat.le_of_ble_eq_true rfl⟩) hS (fun q _ h => hFc q h) hFc (fun r187 u t H locs ht hvm hw hB hz1 hk1 hS => ?_)
  obtain ⟨hP, hD, hK⟩ := JOIN (wr := [(q2, .inl (c3, 1260, .inl f186)), (h0, .inr (16, [.ref h1, .int 0, .ref q1, .ref q2, .ref q4, .ref q6, .int 7, .int 35, .ref q8, .ref q10, .int 0, .int 0, .int 0, .int 0, .int 0, .int 0, .int 0, .int 0, .int 0, .int 0, .int 2147483647, .int 0, .int 2147483647])), (q4, .inl (c5, 610, .inl f169)), (q6, .inl (c7, 610, .inl f170))]) hP hD hK [] [0, 1, 2, 3] [0, 1, 2] rfl rfl (by decide) (by decide) rfl hk1 hFc ht hvm hB
  have hP : va_P (dC, dI) cls [(q2, .inl (c3, 1260, .inl f186)), (h0, .inr (16, [.ref h1, .int 0, .ref q1, .ref q2, .ref q4, .ref q6, .int 7, .int 35, .ref q8, .ref q10, .int 0, .int 0, .int 0, .int 0, .int 0, .int 0, .int 0, .int 0, .int 0, .int 0, .int 2147483647, .int 0, .int 2147483647])), (q4, .inl (c5, 610, .inl f169)), (q6, .inl (c7, 610, .inl f170))] H := hP
  have hD : va_D A [(q2, .inl (c3, 1260, .inl f186)), (h0, .inr (16, [.ref h1, .int 0, .ref q1, .ref q2, .ref q4, .ref q6, .int 7, .int 35, .ref q8, .ref q10, .int 0, .int 0, .int 0, .int 0, .int 0, .int 0, .int 0, .int 0, .int 0, .int 0, .int 2147483647, .int 0, .int 2147483647])), (q4, .inl (c5, 610, .inl f169)), (q6, .inl (c7, 610, .inl f170))] := hD
  have hK : va_K (dC, dI) cls [(c3, .int), (c5, .int), (c7, .int)] s := hK
  refine W.widen (k := 19) (n := 19730) (Nat.le_of_ble_eq_true rfl) (Nat.le_of_ble_eq_true rfl) ?_
  obtain rfl : r187 = 44 := hw
  refine lv_icmp_ge (tgt := 152) hx hb dX19_init_94 (by decide) (fun c => absurd c (by decide)) (fun _ => ?_)
  refine va_ldcS hx hb hown hE.2.2.2.2.2.2.2.2.1 dX19_init_97 ?_
  refine lv_iload hx hb dX19_init_99 (lv_at hl 0 rfl) ?_
  have hPc := hP.sub (ws' := []) [] rfl
  have hDc := hD.sub (ws' := []) [] (by decide) rfl
  have hKc := hK.sub (tys' := []) [] rfl
  have hFc := va_free (wc := []) hD hS hA [] rfl
  refine va_calli (va_runV (As := [.int 42]) (rest := []) ⟨hx, hb, hml, hown, hts⟩ (kS_charAt l dC dI (p0 := 42) (sz := _) (h1 := (by decide)) (h2 := (by decide))) (cwV 1 hts (gi_V qw418 qw419 qw420 qw324 (gi_z qw417)) rfl rfl rfl (by decide +kernel) ⟨Nat.le_of_ble_eq_true rfl, Nat.le_of_ble_eq_true rfl⟩) ⟨PRE.blind, STC.recv hE.2.2.2.2.2.2.2.2 hS, PRE.of hE hS hFc hPc hKc hDc⟩ rfl rfl hl.1 rfl (lv_room (Nat.le_of_ble_eq_true rfl)) dX19_init_101 ⟨Nat.le_of_ble_eq_true rfl, Nat.le_of_ble_eq_true rfl⟩) hS (fun q _ h => hFc q h) hFc (fun r188 u t H locs ht hvm hw hB hz1 hk1 hS => ?_)
  obtain ⟨hP, hD, hK⟩ := JOIN (wr := [(q2, .inl (c3, 1260, .inl f186)), (h0, .inr (16, [.ref h1, .int 0, .ref q1, .ref q2, .ref q4, .ref q6, .int 7, .int 35, .ref q8, .ref q10, .int 0, .int 0, .int 0, .int 0, .int 0, .int 0, .int 0, .int 0, .int 0, .int 0, .int 2147483647, .int 0, .int 2147483647])), (q4, .inl (c5, 610, .inl f169)), (q6, .inl (c7, 610, .inl f170))]) hP hD hK [] [0, 1, 2, 3] [0, 1, 2] rfl rfl (by decide) (by decide) rfl hk1 hFc ht hvm hB
  have hP : va_P (dC, dI) cls [(q2, .inl (c3, 1260, .inl f186)), (h0, .inr (16, [.ref h1, .int 0, .ref q1, .ref q2, .ref q4, .ref q6, .int 7, .int 35, .ref q8, .ref q10, .int 0, .int 0, .int 0, .int 0, .int 0, .int 0, .int 0, .int 0, .int 0, .int 0, .int 2147483647, .int 0, .int 2147483647])), (q4, .inl (c5, 610, .inl f169)), (q6, .inl (c7, 610, .inl f170))] H := hP
  have hD : va_D A [(q2, .inl (c3, 1260, .inl f186)), (h0, .inr (16, [.ref h1, .int 0, .ref q1, .ref q2, .ref q4, .ref q6, .int 7, .int 35, .ref q8, .ref q10, .int 0, .int 0, .int 0, .int 0, .int 0, .int 0, .int 0, .int 0, .int 0, .int 0, .int 2147483647, .int 0, .int 2147483647])), (q4, .inl (c5, 610, .inl f169)), (q6, .inl (c7, 610, .inl f170))] := hD
  have hK : va_K (dC, dI) cls [(c3, .int), (c5, .int), (c7, .int)] s := hK
  refine W.widen (k := 19) (n := 19730) (Nat.le_of_ble_eq_true rfl) (Nat.le_of_ble_eq_true rfl) ?_
  obtain rfl : r188 = (((((kb (Int32.toNatClampNeg 42)) &&& 255)).toUInt32 % 65536).toInt32) := hw
  refine lv_topC (y := 101) (by decide) ?_
  refine lv_bipush (v := 32) hx hb dX19_init_104 (by decide) ?_
  refine lv_icmp_eq (tgt := 135) hx hb dX19_init_106 (by decide) (fun c => absurd c (by decide)) (fun _ => ?_)
  refine lv_aload_n hx hb dX19_init_109 rfl (lv_at hl 2 rfl) ?_
  refine va_get (D := (dC, dI)) (ci := 16) (v := .ref q2) (C := RX19) (T := TX19) (N := 23) hx hb hts i_X19 hown hK hP 1 rfl rfl 3 (by decide) (hts _ qw403) (fun _ h9 => h9) rfl dX19_init_110 ?_
  refine lv_aload_n hx hb dX19_init_113 rfl (lv_at hl 2 rfl) ?_
  refine lv_dup hx hb dX19_init_114 rfl ?_
  refine va_get (D := (dC, dI)) (ci := 16) (v := .int 35) (C := RX19) (T := TX19) (N := 23) hx hb hts i_X19 hown hK hP 1 rfl rfl 7 (by decide) (hts _ qw421) (fun _ h9 => h9) rfl dX19_init_115 ?_
  refine lv_dup_x1 hx hb dX19_init_118 rfl rfl ?_
  refine lv_iconst (v := 1) hx hb dX19_init_119 (by decide) ?_
  refine lv_iadd hx hb dX19_init_120 ?_
  refine lv_topC (y := 36) (by decide) ?_
  refine va_put (D := (dC, dI)) (ci := 16) (v := .int 36) (ty := .int) (C := RX19) (T := TX19) (N := 23) hx hb hts i_X19 tyX19 tyX19_ok nmX19 hown hK hP hD hS 1 rfl rfl 7 (by decide) (hts _ qw421) (fun _ h9 => h9) rfl (by decide +kernel) rfl rfl (Nat.le_of_ble_eq_true rfl) dX19_init_121 (fun H locs hP hD hS => ?_)
  have hP : va_P (dC, dI) cls [(q2, .inl (c3, 1260, .inl f186)), (h0, .inr (16, [.ref h1, .int 0, .ref q1, .ref q2, .ref q4, .ref q6, .int 7, .int 36, .ref q8, .ref q10, .int 0, .int 0, .int 0, .int 0, .int 0, .int 0, .int 0, .int 0, .int 0, .int 0, .int 2147483647, .int 0, .int 2147483647])), (q4, .inl (c5, 610, .inl f169)), (q6, .inl (c7, 610, .inl f170))] H := hP
  have hD : va_D A [(q2, .inl (c3, 1260, .inl f186)), (h0, .inr (16, [.ref h1, .int 0, .ref q1, .ref q2, .ref q4, .ref q6, .int 7, .int 36, .ref q8, .ref q10, .int 0, .int 0, .int 0, .int 0, .int 0, .int 0, .int 0, .int 0, .int 0, .int 0, .int 2147483647, .int 0, .int 2147483647])), (q4, .inl (c5, 610, .inl f169)), (q6, .inl (c7, 610, .inl f170))] := hD
  refine va_ldcS hx hb hown hE.2.2.2.2.2.2.2.2.1 dX19_init_124 ?_
  refine lv_iload hx hb dX19_init_126 (lv_at hl 0 rfl) ?_
  have hPc := hP.sub (ws' := []) [] rfl
  have hDc := hD.sub (ws' := []) [] (by decide) rfl
  have hKc := hK.sub (tys' := []) [] rfl
  have hFc := va_free (wc := []) hD hS hA [] rfl
  refine va_calli (va_runV (As := [.int 42]) (rest := [.int 35, .ref q2]) ⟨hx, hb, hml, hown, hts⟩ (kS_charAt l dC dI (p0 := 42) (sz := _) (h1 := (by decide)) (h2 := (by decide))) (cwV 1 hts (gi_V qw418 qw419 qw420 qw324 (gi_z qw417)) rfl rfl rfl (by decide +kernel) ⟨Nat.le_of_ble_eq_true rfl, Nat.le_of_ble_eq_true rfl⟩) ⟨PRE.blind, STC.recv hE.2.2.2.2.2.2.2.2 hS, PRE.of hE hS hFc hPc hKc hDc⟩ rfl rfl hl.1 rfl (lv_room (Nat.le_of_ble_eq_true rfl)) dX19_init_128 ⟨Nat.le_of_ble_eq_true rfl, Nat.le_of_ble_eq_true rfl⟩) hS (fun q _ h => hFc q h) hFc (fun r189 u t H locs ht hvm hw hB hz1 hk1 hS => ?_)
  obtain ⟨hP, hD, hK⟩ := JOIN (wr := [(q2, .inl (c3, 1260, .inl f186)), (h0, .inr (16, [.ref h1, .int 0, .ref q1, .ref q2, .ref q4, .ref q6, .int 7, .int 36, .ref q8, .ref q10, .int 0, .int 0, .int 0, .int 0, .int 0, .int 0, .int 0, .int 0, .int 0, .int 0, .int 2147483647, .int 0, .int 2147483647])), (q4, .inl (c5, 610, .inl f169)), (q6, .inl (c7, 610, .inl f170))]) hP hD hK [] [0, 1, 2, 3] [0, 1, 2] rfl rfl (by decide) (by decide) rfl hk1 hFc ht hvm hB
  have hP : va_P (dC, dI) cls [(q2, .inl (c3, 1260, .inl f186)), (h0, .inr (16, [.ref h1, .int 0, .ref q1, .ref q2, .ref q4, .ref q6, .int 7, .int 36, .ref q8, .ref q10, .int 0, .int 0, .int 0, .int 0, .int 0, .int 0, .int 0, .int 0, .int 0, .int 0, .int 2147483647, .int 0, .int 2147483647])), (q4, .inl (c5, 610, .inl f169)), (q6, .inl (c7, 610, .inl f170))] H := hP
  have hD : va_D A [(q2, .inl (c3, 1260, .inl f186)), (h0, .inr (16, [.ref h1, .int 0, .ref q1, .ref q2, .ref q4, .ref q6, .int 7, .int 36, .ref q8, .ref q10, .int 0, .int 0, .int 0, .int 0, .int 0, .int 0, .int 0, .int 0, .int 0, .int 0, .int 2147483647, .int 0, .int 2147483647])), (q4, .inl (c5, 610, .inl f169)), (q6, .inl (c7, 610, .inl f170))] := hD
  have hK : va_K (dC, dI) cls [(c3, .int), (c5, .int), (c7, .int)] s := hK
  refine W.widen (k := 19) (n := 19730) (Nat.le_of_ble_eq_true rfl) (Nat.le_of_ble_eq_true rfl) ?_
  obtain rfl : r189 = (((((kb (Int32.toNatClampNeg 42)) &&& 255)).toUInt32 % 65536).toInt32) := hw
  refine lv_topC (y := 101) (by decide) ?_
  refine va_iast hx hb hK hP hD hS 0 0 rfl rfl (by unfold vp_in; decide +kernel) dX19_init_131 (fun H locs hP hD hS => ?_)
  have hP : va_P (dC, dI) cls [(q2, .inl (c3, 1260, .inl (upd f186 (Int32.toNatClampNeg 35) 101))), (h0, .inr (16, [.ref h1, .int 0, .ref q1, .ref q2, .ref q4, .ref q6, .int 7, .int 36, .ref q8, .ref q10, .int 0, .int 0, .int 0, .int 0, .int 0, .int 0, .int 0, .int 0, .int 0, .int 0, .int 2147483647, .int 0, .int 2147483647])), (q4, .inl (c5, 610, .inl f169)), (q6, .inl (c7, 610, .inl f170))] H := hP
  have hD : va_D A [(q2, .inl (c3, 1260, .inl (upd f186 (Int32.toNatClampNeg 35) 101))), (h0, .inr (16, [.ref h1, .int 0, .ref q1, .ref q2, .ref q4, .ref q6, .int 7, .int 36, .ref q8, .ref q10, .int 0, .int 0, .int 0, .int 0, .int 0, .int 0, .int 0, .int 0, .int 0, .int 0, .int 2147483647, .int 0, .int 2147483647])), (q4, .inl (c5, 610, .inl f169)), (q6, .inl (c7, 610, .inl f170))] := hD
  generalize upd f186 (Int32.toNatClampNeg 35) 101 = f190 at hP hD
  refine lv_goto (tgt := 146) hx hb dX19_init_132 (by decide) ?_
  refine lv_iinc (v := 43) (lv' := [(4, .int 43), (3, .int 31), (0, .ref h0), (1, .ref h1), (2, .int 0)]) hx hb dX19_init_146 hl (k := 0) rfl (by decide) (by decide) rfl (fun ls hl => ?_)
  refine lv_goto (tgt := 87) hx hb dX19_init_149 (by decide) ?_
  refine lv_iload hx hb dX19_init_87 (lv_at hl 0 rfl) ?_
  refine va_ldcS hx hb hown hE.2.2.2.2.2.2.2.2.1 dX19_init_89 ?_
  have hPc := hP.sub (ws' := []) [] rfl
  have hDc := hD.sub (ws' := []) [] (by decide) rfl
  have hKc := hK.sub (tys' := []) [] rfl
  have hFc := va_free (wc := []) hD hS hA [] rfl
  refine va_calli (va_runV (As := []) (rest := [.int 43]) ⟨hx, hb, hml, hown, hts⟩ (kS_length l dC dI  (sz := _)) (cwV 0 hts (gi_V qw414 qw415 qw416 qw324 (gi_z qw413)) rfl rfl rfl (by decide +kernel) ⟨Nat.le_of_ble_eq_true rfl, Nat.le_of_ble_eq_true rfl⟩) ⟨PRE.blind, STC.recv hE.2.2.2.2.2.2.2.2 hS, PRE.of hE hS hFc hPc hKc hDc⟩ rfl rfl hl.1 rfl (lv_room (Nat.le_of_ble_eq_true rfl)) dX19_init_91 ⟨Nat.le_of_ble_eq_true rfl, Nat.le_of_ble_eq_true rfl⟩) hS (fun q _ h => hFc q h) hFc (fun r191 u t H locs ht hvm hw hB hz1 hk1 hS => ?_)
  obtain ⟨hP, hD, hK⟩ := JOIN (wr := [(q2, .inl (c3, 1260, .inl f190)), (h0, .inr (16, [.ref h1, .int 0, .ref q1, .ref q2, .ref q4, .ref q6, .int 7, .int 36, .ref q8, .ref q10, .int 0, .int 0, .int 0, .int 0, .int 0, .int 0, .int 0, .int 0, .int 0, .int 0, .int 2147483647, .int 0, .int 2147483647])), (q4, .inl (c5, 610, .inl f169)), (q6, .inl (c7, 610, .inl f170))]) hP hD hK [] [0, 1, 2, 3] [0, 1, 2] rfl rfl (by decide) (by decide) rfl hk1 hFc ht hvm hB
  have hP : va_P (dC, dI) cls [(q2, .inl (c3, 1260, .inl f190)), (h0, .inr (16, [.ref h1, .int 0, .ref q1, .ref q2, .ref q4, .ref q6, .int 7, .int 36, .ref q8, .ref q10, .int 0, .int 0, .int 0, .int 0, .int 0, .int 0, .int 0, .int 0, .int 0, .int 0, .int 2147483647, .int 0, .int 2147483647])), (q4, .inl (c5, 610, .inl f169)), (q6, .inl (c7, 610, .inl f170))] H := hP
  have hD : va_D A [(q2, .inl (c3, 1260, .inl f190)), (h0, .inr (16, [.ref h1, .int 0, .ref q1, .ref q2, .ref q4, .ref q6, .int 7, .int 36, .ref q8, .ref q10, .int 0, .int 0, .int 0, .int 0, .int 0, .int 0, .int 0, .int 0, .int 0, .int 0, .int 2147483647, .int 0, .int 2147483647])), (q4, .inl (c5, 610, .inl f169)), (q6, .inl (c7, 610, .inl f170))] := hD
  have hK : va_K (dC, dI) cls [(c3, .int), (c5, .int), (c7, .int)] s := hK
  refine W.widen (k := 19) (n := 19730) (Nat.le_of_ble_eq_true rfl) (Nat.le_of_ble_eq_true rfl) ?_
  obtain rfl : r191 = 44 := hw
  refine lv_icmp_ge (tgt := 152) hx hb dX19_init_94 (by decide) (fun c => absurd c (by decide)) (fun _ => ?_)
  refine va_ldcS hx hb hown hE.2.2.2.2.2.2.2.2.1 dX19_init_97 ?_
  refine lv_iload hx hb dX19_init_99 (lv_at hl 0 rfl) ?_
  have hPc := hP.sub (ws' := []) [] rfl
  have hDc := hD.sub (ws' := []) [] (by decide) rfl
  have hKc := hK.sub (tys' := []) [] rfl
  have hFc := va_free (wc := []) hD hS hA [] rfl
  refine va_calli (va_runV (As := [.int 43]) (rest := []) ⟨hx, hb, hml, hown, hts⟩ (kS_charAt l dC dI (p0 := 43) (sz := _) (h1 := (by decide)) (h2 := (by decide))) (cwV 1 hts (gi_V qw418 qw419 qw420 qw324 (gi_z qw417)) rfl rfl rfl (by decide +kernel) ⟨Nat.le_of_ble_eq_true rfl, Nat.le_of_ble_eq_true rfl⟩) ⟨PRE.blind, STC.recv hE.2.2.2.2.2.2.2.2 hS, PRE.of hE hS hFc hPc hKc hDc⟩ rfl rfl hl.1 rfl (lv_room (Nat.le_of_ble_eq_true rfl)) dX19_init_101 ⟨Nat.le_of_ble_eq_true rfl, Nat.le_of_ble_eq_true rfl⟩) hS (fun q _ h => hFc q h) hFc (fun r192 u t H locs ht hvm hw hB hz1 hk1 hS => ?_)
  obtain ⟨hP, hD, hK⟩ := JOIN (wr := [(q2, .inl (c3, 1260, .inl f190)), (h0, .inr (16, [.ref h1, .int 0, .ref q1, .ref q2, .ref q4, .ref q6, .int 7, .int 36, .ref q8, .ref q10, .int 0, .int 0, .int 0, .int 0, .int 0, .int 0, .int 0, .int 0, .int 0, .int 0, .int 2147483647, .int 0, .int 2147483647])), (q4, .inl (c5, 610, .inl f169)), (q6, .inl (c7, 610, .inl f170))]) hP hD hK [] [0, 1, 2, 3] [0, 1, 2] rfl rfl (by decide) (by decide) rfl hk1 hFc ht hvm hB
  have hP : va_P (dC, dI) cls [(q2, .inl (c3, 1260, .inl f190)), (h0, .inr (16, [.ref h1, .int 0, .ref q1, .ref q2, .ref q4, .ref q6, .int 7, .int 36, .ref q8, .ref q10, .int 0, .int 0, .int 0, .int 0, .int 0, .int 0, .int 0, .int 0, .int 0, .int 0, .int 2147483647, .int 0, .int 2147483647])), (q4, .inl (c5, 610, .inl f169)), (q6, .inl (c7, 610, .inl f170))] H := hP
  have hD : va_D A [(q2, .inl (c3, 1260, .inl f190)), (h0, .inr (16, [.ref h1, .int 0, .ref q1, .ref q2, .ref q4, .ref q6, .int 7, .int 36, .ref q8, .ref q10, .int 0, .int 0, .int 0, .int 0, .int 0, .int 0, .int 0, .int 0, .int 0, .int 0, .int 2147483647, .int 0, .int 2147483647])), (q4, .inl (c5, 610, .inl f169)), (q6, .inl (c7, 610, .inl f170))] := hD
  have hK : va_K (dC, dI) cls [(c3, .int), (c5, .int), (c7, .int)] s := hK
  refine W.widen (k := 19) (n := 19730) (Nat.le_of_ble_eq_true rfl) (Nat.le_of_ble_eq_true rfl) ?_
  obtain rfl : r192 = (((((kb (Int32.toNatClampNeg 43)) &&& 255)).toUInt32 % 65536).toInt32) := hw
  refine lv_topC (y := 32) (by decide) ?_
  refine lv_bipush (v := 32) hx hb dX19_init_104 (by decide) ?_
  refine lv_icmp_eq (tgt := 135) hx hb dX19_init_106 (by decide) (fun _ => ?_) (fun c => absurd (by decide) c)
  refine lv_aload_n hx hb dX19_init_135 rfl (lv_at hl 2 rfl) ?_
  refine lv_iload_n hx hb dX19_init_136 rfl (lv_at hl 1 rfl) ?_
  have hPc := hP.sub (ws' := [(h0, .inr (16, [.ref h1, .int 0, .ref q1, .ref q2, .ref q4, .ref q6, .int 7, .int 36, .ref q8, .ref q10, .int 0, .int 0, .int 0, .int 0, .int 0, .int 0, .int 0, .int 0, .int 0, .int 0, .int 2147483647, .int 0, .int 2147483647])), (q4, .inl (c5, 610, .inl f169)), (q6, .inl (c7, 610, .inl f170))]) [1, 2, 3] rfl
  have hDc := hD.sub (ws' := [(h0, .inr (16, [.ref h1, .int 0, .ref q1, .ref q2, .ref q4, .ref q6, .int 7, .int 36, .ref q8, .ref q10, .int 0, .int 0, .int 0, .int 0, .int 0, .int 0, .int 0, .int 0, .int 0, .int 0, .int 2147483647, .int 0, .int 2147483647])), (q4, .inl (c5, 610, .inl f169)), (q6, .inl (c7, 610, .inl f170))]) [1, 2, 3] (by decide) rfl
  have hKc := hK.sub (tys' := [(c5, .int), (c7, .int)]) [1, 2] rfl
  have hFc := va_free (wc := [(h0, .inr (16, [.ref h1, .int 0, .ref q1, .ref q2, .ref q4, .ref q6, .int 7, .int 36, .ref q8, .ref q10, .int 0, .int 0, .int 0, .int 0, .int 0, .int 0, .int 0, .int 0, .int 0, .int 0, .int 2147483647, .int 0, .int 2147483647])), (q4, .inl (c5, 610, .inl f169)), (q6, .inl (c7, 610, .inl f170))]) hD hS hA [1, 2, 3] rfl
  refine va_calli (va_runV (As := [.int 31]) (rest := []) ⟨hx, hb, hml, hown, hts⟩ (kX19_keep_n33 l dC dI (a0 := h0) (a2 := q2) (a4 := h1) (a5 := q1) (a6 := q4) (a7 := q6) (a8 := q8) (a9 := q10) (F10 := f169) (k11 := c5) (F12 := f170) (k13 := c7) (sz := _)) (cwV 1 hts (gi_V qw424 qw425 qw426 qw427 (gi_z qw423)) rfl rfl rfl (by decide +kernel) ⟨Nat.le_of_ble_eq_true rfl, Nat.le_of_ble_eq_true rfl⟩) ⟨PRE.blind, va_recv hKc hPc (ci := 16) (q0 := 0) rfl rfl, PRE.of hE hS hFc hPc hKc hDc⟩ rfl rfl hl.1 rfl (lv_room (Nat.le_of_ble_eq_true rfl)) dX19_init_137 ⟨Nat.le_of_ble_eq_true rfl, Nat.le_of_ble_eq_true rfl⟩) hS (fun q _ h => hFc q h) hFc (fun r193 u t H locs ht hvm hw hB hz1 hk1 hS => ?_)
  obtain ⟨f194, f195, hB⟩ := hB
  obtain ⟨hP, hD, hK⟩ := JOIN (wr := [(q2, .inl (c3, 1260, .inl f190))]) hP hD hK [1, 2, 3] [0] [0] rfl rfl (by decide) (by decide) rfl hk1 hFc ht hvm hB
  have hP : va_P (dC, dI) cls [(q2, .inl (c3, 1260, .inl f190)), (h0, .inr (16, [.ref h1, .int 0, .ref q1, .ref q2, .ref q4, .ref q6, .int 8, .int 36, .ref q8, .ref q10, .int 0, .int 0, .int 0, .int 0, .int 0, .int 0, .int 0, .int 0, .int 0, .int 0, .int 2147483647, .int 0, .int 2147483647])), (q4, .inl (c5, 610, .inl f194)), (q6, .inl (c7, 610, .inl f195))] H := hP
  have hD : va_D A [(q2, .inl (c3, 1260, .inl f190)), (h0, .inr (16, [.ref h1, .int 0, .ref q1, .ref q2, .ref q4, .ref q6, .int 8, .int 36, .ref q8, .ref q10, .int 0, .int 0, .int 0, .int 0, .int 0, .int 0, .int 0, .int 0, .int 0, .int 0, .int 2147483647, .int 0, .int 2147483647])), (q4, .inl (c5, 610, .inl f194)), (q6, .inl (c7, 610, .inl f195))] := hD
  have hK : va_K (dC, dI) cls [(c3, .int), (c5, .int), (c7, .int)] s := hK
  refine W.widen (k := 19) (n := 19730) (Nat.le_of_ble_eq_true rfl) (Nat.le_of_ble_eq_true rfl) ?_
  obtain rfl : r193 = 7 := hw
  refine lv_pop hx hb dX19_init_140 rfl ?_
  refine lv_aload_n hx hb dX19_init_141 rfl (lv_at hl 2 rfl) ?_
  refine va_get (D := (dC, dI)) (ci := 16) (v := .int 36) (C := RX19) (T := TX19) (N := 23) hx hb hts i_X19 hown hK hP 1 rfl rfl 7 (by decide) (hts _ qw421) (fun _ h9 => h9) rfl dX19_init_142 ?_
  refine lv_istore_n (lv' := [(3, .int 36), (4, .int 43), (0, .ref h0), (1, .ref h1), (2, .int 0)]) hx hb dX19_init_145 rfl hl (by decide) rfl (fun ls hl => ?_)
  refine lv_iinc (v := 44) (lv' := [(4, .int 44), (3, .int 36), (0, .ref h0), (1, .ref h1), (2, .int 0)]) hx hb dX19_init_146 hl (k := 1) rfl (by decide) (by decide) rfl (fun ls hl => ?_)
  refine lv_goto (tgt := 87) hx hb dX19_init_149 (by decide) ?_
  refine lv_iload hx hb dX19_init_87 (lv_at hl 0 rfl) ?_
  refine va_ldcS hx hb hown hE.2.2.2.2.2.2.2.2.1 dX19_init_89 ?_
  have hPc := hP.sub (ws' := []) [] rfl
  have hDc := hD.sub (ws' := []) [] (by decide) rfl
  have hKc := hK.sub (tys' := []) [] rfl
  have hFc := va_free (wc := []) hD hS hA [] rfl
  refine va_calli (va_runV (As := []) (rest := [.int 44]) ⟨hx, hb, hml, hown, hts⟩ (kS_length l dC dI  (sz := _)) (cwV 0 hts (gi_V qw414 qw415 qw416 qw324 (gi_z qw413)) rfl rfl rfl (by decide +kernel) ⟨Nat.le_of_ble_eq_true rfl, Nat.le_of_ble_eq_true rfl⟩) ⟨PRE.blind, STC.recv hE.2.2.2.2.2.2.2.2 hS, PRE.of hE hS hFc hPc hKc hDc⟩ rfl rfl hl.1 rfl (lv_room (Nat.le_of_ble_eq_true rfl)) dX19_init_91 ⟨Nat.le_of_ble_eq_true rfl, Nat.le_of_ble_eq_true rfl⟩) hS (fun q _ h => hFc q h) hFc (fun r196 u t H locs ht hvm hw hB hz1 hk1 hS => ?_)
  obtain ⟨hP, hD, hK⟩ := JOIN (wr := [(q2, .inl (c3, 1260, .inl f190)), (h0, .inr (16, [.ref h1, .int 0, .ref q1, .ref q2, .ref q4, .ref q6, .int 8, .int 36, .ref q8, .ref q10, .int 0, .int 0, .int 0, .int 0, .int 0, .int 0, .int 0, .int 0, .int 0, .int 0, .int 2147483647, .int 0, .int 2147483647])), (q4, .inl (c5, 610, .inl f194)), (q6, .inl (c7, 610, .inl f195))]) hP hD hK [] [0, 1, 2, 3] [0, 1, 2] rfl rfl (by decide) (by decide) rfl hk1 hFc ht hvm hB
  have hP : va_P (dC, dI) cls [(q2, .inl (c3, 1260, .inl f190)), (h0, .inr (16, [.ref h1, .int 0, .ref q1, .ref q2, .ref q4, .ref q6, .int 8, .int 36, .ref q8, .ref q10, .int 0, .int 0, .int 0, .int 0, .int 0, .int 0, .int 0, .int 0, .int 0, .int 0, .int 2147483647, .int 0, .int 2147483647])), (q4, .inl (c5, 610, .inl f194)), (q6, .inl (c7, 610, .inl f195))] H := hP
  have hD : va_D A [(q2, .inl (c3, 1260, .inl f190)), (h0, .inr (16, [.ref h1, .int 0, .ref q1, .ref q2, .ref q4, .ref q6, .int 8, .int 36, .ref q8, .ref q10, .int 0, .int 0, .int 0, .int 0, .int 0, .int 0, .int 0, .int 0, .int 0, .int 0, .int 2147483647, .int 0, .int 2147483647])), (q4, .inl (c5, 610, .inl f194)), (q6, .inl (c7, 610, .inl f195))] := hD
  have hK : va_K (dC, dI) cls [(c3, .int), (c5, .int), (c7, .int)] s := hK
  refine W.widen (k := 19) (n := 19730) (Nat.le_of_ble_eq_true rfl) (Nat.le_of_ble_eq_true rfl) ?_
  obtain rfl : r196 = 44 := hw
  refine lv_icmp_ge (tgt := 152) hx hb dX19_init_94 (by decide) (fun _ => ?_) (fun c => absurd (by decide) c)
  have hP9 : va_P (dC, dI) cls [(h0, .inr (16, [.ref h1, .int 0, .ref q1, .ref q2, .ref q4, .ref q6, .int 8, .int 36, .ref q8, .ref q10, .int 0, .int 0, .int 0, .int 0, .int 0, .int 0, .int 0, .int 0, .int 0, .int 0, .int 2147483647, .int 0, .int 2147483647]))] H := hP.sub [1] rfl
  have hD9 : va_D A [(h0, .inr (16, [.ref h1, .int 0, .ref q1, .ref q2, .ref q4, .ref q6, .int 8, .int 36, .ref q8, .ref q10, .int 0, .int 0, .int 0, .int 0, .int 0, .int 0, .int 0, .int 0, .int 0, .int 0, .int 2147483647, .int 0, .int 2147483647]))] := hD.sub [1] (by decide) rfl
  have hK9 : va_K (dC, dI) cls [] s := hK.sub [] rfl
  exact W.vret hx hb hr (fun t ht hW => ⟨⟨(), rfl, trivial, ⟨q1, q2, q4, q6, q8, q10, ⟨by rw [ht]; exact hP9, va_K.moved hW.alike hK9, hD9⟩⟩⟩, hS.F ht⟩) hS.2.2 dX19_init_152
