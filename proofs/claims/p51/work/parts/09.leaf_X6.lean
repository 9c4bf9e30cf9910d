abbrev cX6_clear : ByteArray := prog_8_method_2_code
def yX6_clear : MethodName := ⟨RX6, "clear", "()V"⟩
abbrev cX6_emit : ByteArray := prog_8_method_3_code
def yX6_emit : MethodName := ⟨RX6, "emit", "(III)V"⟩
abbrev cX6_newLabel : ByteArray := prog_8_method_5_code
def yX6_newLabel : MethodName := ⟨RX6, "newLabel", "()I"⟩
abbrev cX6_newVariable : ByteArray := prog_8_method_7_code
def yX6_newVariable : MethodName := ⟨RX6, "newVariable", "(I)I"⟩
abbrev cX6_putLabel : ByteArray := prog_8_method_6_code
def yX6_putLabel : MethodName := ⟨RX6, "putLabel", "(I)V"⟩
abbrev cX6_tick : ByteArray := prog_8_method_4_code
def yX6_tick : MethodName := ⟨RX6, "tick", "(I)V"⟩
theorem dX6_clear_0 : decode cX6_clear 0 = .ok (.aload_n 0, 1) := by decide +kernel
theorem dX6_clear_1 : decode cX6_clear 1 = .ok (.iconst 0, 1) := by decide +kernel
theorem dX6_clear_2 : decode cX6_clear 2 = .ok (.putfield 43, 3) := by decide +kernel
theorem dX6_clear_5 : decode cX6_clear 5 = .ok (.aload_n 0, 1) := by decide +kernel
theorem dX6_clear_6 : decode cX6_clear 6 = .ok (.iconst 0, 1) := by decide +kernel
theorem dX6_clear_7 : decode cX6_clear 7 = .ok (.putfield 47, 3) := by decide +kernel
theorem dX6_clear_10 : decode cX6_clear 10 = .ok (.aload_n 0, 1) := by decide +kernel
theorem dX6_clear_11 : decode cX6_clear 11 = .ok (.iconst 0, 1) := by decide +kernel
theorem dX6_clear_12 : decode cX6_clear 12 = .ok (.putfield 50, 3) := by decide +kernel
theorem dX6_clear_15 : decode cX6_clear 15 = .ok (.return_, 1) := by decide +kernel
theorem dX6_emit_0 : decode cX6_emit 0 = .ok (.aload_n 0, 1) := by decide +kernel
theorem dX6_emit_1 : decode cX6_emit 1 = .ok (.getfield 47, 3) := by decide +kernel
theorem dX6_emit_4 : decode cX6_emit 4 = .ok (.sipush 3200, 3) := by decide +kernel
theorem dX6_emit_7 : decode cX6_emit 7 = .ok (.if_icmp .ge 43, 3) := by decide +kernel
theorem dX6_emit_10 : decode cX6_emit 10 = .ok (.aload_n 0, 1) := by decide +kernel
theorem dX6_emit_11 : decode cX6_emit 11 = .ok (.getfield 31, 3) := by decide +kernel
theorem dX6_emit_14 : decode cX6_emit 14 = .ok (.aload_n 0, 1) := by decide +kernel
theorem dX6_emit_15 : decode cX6_emit 15 = .ok (.getfield 47, 3) := by decide +kernel
theorem dX6_emit_18 : decode cX6_emit 18 = .ok (.iload_n 1, 1) := by decide +kernel
theorem dX6_emit_19 : decode cX6_emit 19 = .ok (.iastore, 1) := by decide +kernel
theorem dX6_emit_20 : decode cX6_emit 20 = .ok (.aload_n 0, 1) := by decide +kernel
theorem dX6_emit_21 : decode cX6_emit 21 = .ok (.getfield 34, 3) := by decide +kernel
theorem dX6_emit_24 : decode cX6_emit 24 = .ok (.aload_n 0, 1) := by decide +kernel
theorem dX6_emit_25 : decode cX6_emit 25 = .ok (.getfield 47, 3) := by decide +kernel
theorem dX6_emit_28 : decode cX6_emit 28 = .ok (.iload_n 2, 1) := by decide +kernel
theorem dX6_emit_29 : decode cX6_emit 29 = .ok (.iastore, 1) := by decide +kernel
theorem dX6_emit_30 : decode cX6_emit 30 = .ok (.aload_n 0, 1) := by decide +kernel
theorem dX6_emit_31 : decode cX6_emit 31 = .ok (.getfield 37, 3) := by decide +kernel
theorem dX6_emit_34 : decode cX6_emit 34 = .ok (.aload_n 0, 1) := by decide +kernel
theorem dX6_emit_35 : decode cX6_emit 35 = .ok (.getfield 47, 3) := by decide +kernel
theorem dX6_emit_38 : decode cX6_emit 38 = .ok (.iload_n 3, 1) := by decide +kernel
theorem dX6_emit_39 : decode cX6_emit 39 = .ok (.iastore, 1) := by decide +kernel
theorem dX6_emit_40 : decode cX6_emit 40 = .ok (.aload_n 0, 1) := by decide +kernel
theorem dX6_emit_41 : decode cX6_emit 41 = .ok (.dup, 1) := by decide +kernel
theorem dX6_emit_42 : decode cX6_emit 42 = .ok (.getfield 47, 3) := by decide +kernel
theorem dX6_emit_45 : decode cX6_emit 45 = .ok (.iconst 1, 1) := by decide +kernel
theorem dX6_emit_46 : decode cX6_emit 46 = .ok (.iadd, 1) := by decide +kernel
theorem dX6_emit_47 : decode cX6_emit 47 = .ok (.putfield 47, 3) := by decide +kernel
theorem dX6_emit_50 : decode cX6_emit 50 = .ok (.return_, 1) := by decide +kernel
theorem dX6_newLabel_0 : decode cX6_newLabel 0 = .ok (.aload_n 0, 1) := by decide +kernel
theorem dX6_newLabel_1 : decode cX6_newLabel 1 = .ok (.getfield 50, 3) := by decide +kernel
theorem dX6_newLabel_4 : decode cX6_newLabel 4 = .ok (.sipush 640, 3) := by decide +kernel
theorem dX6_newLabel_7 : decode cX6_newLabel 7 = .ok (.if_icmp .ge 13, 3) := by decide +kernel
theorem dX6_newLabel_10 : decode cX6_newLabel 10 = .ok (.aload_n 0, 1) := by decide +kernel
theorem dX6_newLabel_11 : decode cX6_newLabel 11 = .ok (.dup, 1) := by decide +kernel
theorem dX6_newLabel_12 : decode cX6_newLabel 12 = .ok (.getfield 50, 3) := by decide +kernel
theorem dX6_newLabel_15 : decode cX6_newLabel 15 = .ok (.iconst 1, 1) := by decide +kernel
theorem dX6_newLabel_16 : decode cX6_newLabel 16 = .ok (.iadd, 1) := by decide +kernel
theorem dX6_newLabel_17 : decode cX6_newLabel 17 = .ok (.putfield 50, 3) := by decide +kernel
theorem dX6_newLabel_20 : decode cX6_newLabel 20 = .ok (.aload_n 0, 1) := by decide +kernel
theorem dX6_newLabel_21 : decode cX6_newLabel 21 = .ok (.getfield 50, 3) := by decide +kernel
theorem dX6_newLabel_24 : decode cX6_newLabel 24 = .ok (.iconst 1, 1) := by decide +kernel
theorem dX6_newLabel_25 : decode cX6_newLabel 25 = .ok (.isub, 1) := by decide +kernel
theorem dX6_newLabel_26 : decode cX6_newLabel 26 = .ok (.ireturn, 1) := by decide +kernel
theorem dX6_newVariable_0 : decode cX6_newVariable 0 = .ok (.aload_n 0, 1) := by decide +kernel
theorem dX6_newVariable_1 : decode cX6_newVariable 1 = .ok (.getfield 22, 3) := by decide +kernel
theorem dX6_newVariable_4 : decode cX6_newVariable 4 = .ok (.iload_n 1, 1) := by decide +kernel
theorem dX6_newVariable_5 : decode cX6_newVariable 5 = .ok (.iaload, 1) := by decide +kernel
theorem dX6_newVariable_6 : decode cX6_newVariable 6 = .ok (.sipush 320, 3) := by decide +kernel
theorem dX6_newVariable_9 : decode cX6_newVariable 9 = .ok (.if_icmp .ge 13, 3) := by decide +kernel
theorem dX6_newVariable_12 : decode cX6_newVariable 12 = .ok (.aload_n 0, 1) := by decide +kernel
theorem dX6_newVariable_13 : decode cX6_newVariable 13 = .ok (.getfield 22, 3) := by decide +kernel
theorem dX6_newVariable_16 : decode cX6_newVariable 16 = .ok (.iload_n 1, 1) := by decide +kernel
theorem dX6_newVariable_17 : decode cX6_newVariable 17 = .ok (.dup2, 1) := by decide +kernel
theorem dX6_newVariable_18 : decode cX6_newVariable 18 = .ok (.iaload, 1) := by decide +kernel
theorem dX6_newVariable_19 : decode cX6_newVariable 19 = .ok (.iconst 1, 1) := by decide +kernel
theorem dX6_newVariable_20 : decode cX6_newVariable 20 = .ok (.iadd, 1) := by decide +kernel
theorem dX6_newVariable_21 : decode cX6_newVariable 21 = .ok (.iastore, 1) := by decide +kernel
theorem dX6_newVariable_22 : decode cX6_newVariable 22 = .ok (.aload_n 0, 1) := by decide +kernel
theorem dX6_newVariable_23 : decode cX6_newVariable 23 = .ok (.getfield 22, 3) := by decide +kernel
theorem dX6_newVariable_26 : decode cX6_newVariable 26 = .ok (.iload_n 1, 1) := by decide +kernel
theorem dX6_newVariable_27 : decode cX6_newVariable 27 = .ok (.iaload, 1) := by decide +kernel
theorem dX6_newVariable_28 : decode cX6_newVariable 28 = .ok (.iconst 1, 1) := by decide +kernel
theorem dX6_newVariable_29 : decode cX6_newVariable 29 = .ok (.isub, 1) := by decide +kernel
theorem dX6_newVariable_30 : decode cX6_newVariable 30 = .ok (.ireturn, 1) := by decide +kernel
theorem dX6_putLabel_0 : decode cX6_putLabel 0 = .ok (.aload_n 0, 1) := by decide +kernel
theorem dX6_putLabel_1 : decode cX6_putLabel 1 = .ok (.getfield 40, 3) := by decide +kernel
theorem dX6_putLabel_4 : decode cX6_putLabel 4 = .ok (.iload_n 1, 1) := by decide +kernel
theorem dX6_putLabel_5 : decode cX6_putLabel 5 = .ok (.aload_n 0, 1) := by decide +kernel
theorem dX6_putLabel_6 : decode cX6_putLabel 6 = .ok (.getfield 47, 3) := by decide +kernel
theorem dX6_putLabel_9 : decode cX6_putLabel 9 = .ok (.iastore, 1) := by decide +kernel
theorem dX6_putLabel_10 : decode cX6_putLabel 10 = .ok (.aload_n 0, 1) := by decide +kernel
theorem dX6_putLabel_11 : decode cX6_putLabel 11 = .ok (.bipush 35, 2) := by decide +kernel
theorem dX6_putLabel_13 : decode cX6_putLabel 13 = .ok (.iload_n 1, 1) := by decide +kernel
theorem dX6_putLabel_14 : decode cX6_putLabel 14 = .ok (.iconst 0, 1) := by decide +kernel
theorem dX6_putLabel_15 : decode cX6_putLabel 15 = .ok (.invokevirtual 53, 3) := by decide +kernel
theorem dX6_putLabel_18 : decode cX6_putLabel 18 = .ok (.return_, 1) := by decide +kernel
theorem dX6_tick_0 : decode cX6_tick 0 = .ok (.iload_n 1, 1) := by decide +kernel
theorem dX6_tick_1 : decode cX6_tick 1 = .ok (.sipush 3200, 3) := by decide +kernel
theorem dX6_tick_4 : decode cX6_tick 4 = .ok (.if_icmp .ge 13, 3) := by decide +kernel
theorem dX6_tick_7 : decode cX6_tick 7 = .ok (.aload_n 0, 1) := by decide +kernel
theorem dX6_tick_8 : decode cX6_tick 8 = .ok (.getfield 37, 3) := by decide +kernel
theorem dX6_tick_11 : decode cX6_tick 11 = .ok (.iload_n 1, 1) := by decide +kernel
theorem dX6_tick_12 : decode cX6_tick 12 = .ok (.dup2, 1) := by decide +kernel
theorem dX6_tick_13 : decode cX6_tick 13 = .ok (.iaload, 1) := by decide +kernel
theorem dX6_tick_14 : decode cX6_tick 14 = .ok (.iconst 1, 1) := by decide +kernel
theorem dX6_tick_15 : decode cX6_tick 15 = .ok (.iadd, 1) := by decide +kernel
theorem dX6_tick_16 : decode cX6_tick 16 = .ok (.iastore, 1) := by decide +kernel
theorem dX6_tick_17 : decode cX6_tick 17 = .ok (.return_, 1) := by decide +kernel
theorem qw166 : Cond.fieldLink RX6 43 "Gearbox$Program" "functions" "I" ∈ gw := mq_3 (i := 151) rfl rfl
theorem qw167 : Cond.fieldLink RX6 47 "Gearbox$Program" "ops" "I" ∈ gw := mq_3 (i := 175) rfl rfl
theorem qw168 : Cond.fieldLink RX6 50 "Gearbox$Program" "labels" "I" ∈ gw := mq_3 (i := 186) rfl rfl
theorem qw173 : Cond.initialized RX6 ∈ gw := mq_1 (i := 26) rfl rfl
theorem qw212 : Cond.code yX6_emit cX6_emit 4 (Option.none : Option Jvm.ClassFile.FieldType) ∈ gw := mq_5 (i := 88) rfl rfl
theorem qw213 : Cond.methodLink RX6 53 yX6_emit ∈ gw := mq_5 (i := 160) rfl rfl
theorem qw214 : Cond.instanceMethod yX6_emit ∈ gw := mq_5 (i := 86) rfl rfl
theorem qw215 : Cond.selects RX6 yX6_emit yX6_emit ∈ gw := mq_5 (i := 87) rfl rfl
set_option maxHeartbeats 4000000 in
set_option maxRecDepth 100000 in
theorem kX6_clear {zs : Nat × Nat} (l : Launch) (dC : Nat → ClassId) (dI : Nat → Nat → Nat) (h0 : Nat) (w_functions : Int32) (w_nameA : Nat) (w_namePlaceA : Nat) (w_parametersA : Nat) (w_variablesA : Nat) (w_fromA : Nat) (w_toA : Nat) (w_ops : Int32) (w_opA : Nat) (w_argumentA : Nat) (w_ticksA : Nat) (w_labels : Int32) (w_labelAtA : Nat) (sz : Nat)  : Met l yX6_clear (wz yX6_clear cX6_clear 1 (Option.none : Option Jvm.ClassFile.FieldType)) ({ frames := 0, cells := 0, slots := 0, locals := 0 }) (va_Pc [.ref h0] (PRE zs dC dI [(h0, .inr (2, [.int w_functions, .ref w_nameA, .ref w_namePlaceA, .ref w_parametersA, .ref w_variablesA, .ref w_fromA, .ref w_toA, .int w_ops, .ref w_opA, .ref w_argumentA, .ref w_ticksA, .int w_labels, .ref w_labelAtA]))] [] sz)) (va_Qv (fun (_ : Unit) => True) (fun _ t => POST dC dI [(h0, .inr (2, [.int 0, .ref w_nameA, .ref w_namePlaceA, .ref w_parametersA, .ref w_variablesA, .ref w_fromA, .ref w_toA, .int 0, .ref w_opA, .ref w_argumentA, .ref w_ticksA, .int 0, .ref w_labelAtA]))] [] (va_A [(h0, .inr (2, [.int w_functions, .ref w_nameA, .ref w_namePlaceA, .ref w_parametersA, .ref w_variablesA, .ref w_fromA, .ref w_toA, .int w_ops, .ref w_opA, .ref w_argumentA, .ref w_ticksA, .int w_labels, .ref w_labelAtA]))] sz) t) (va_A [(h0, .inr (2, [.int w_functions, .ref w_nameA, .ref w_namePlaceA, .ref w_parametersA, .ref w_variablesA, .ref w_fromA, .ref w_toA, .int w_ops, .ref w_opA, .ref w_argumentA, .ref w_ticksA, .int w_labels, .ref w_labelAtA]))] sz)) 0 0 (va_A [(h0, .inr (2, [.int w_functions, .ref w_nameA, .ref w_namePlaceA, .ref w_parametersA, .ref w_variablesA, .ref w_fromA, .ref w_toA, .int w_ops, .ref w_opA, .ref w_argumentA, .ref w_ticksA, .int w_labels, .ref w_labelAtA]))] sz) := by
  refine Met.ofW (cc := cX6_clear) (maxL := 1) (ret := (Option.none : Option Jvm.ClassFile.FieldType)) (by decide) rfl ?_
  intro p e s m args below meth c s₁ B hml hv
  obtain ⟨rfl, hsz, hP, hK, hD0, hE⟩ := hv
  have hx := B.exec
  have hb := B.bytes
  have hr := B.returns
  have hts0 := atoms_spec (ws := wz yX6_clear cX6_clear 1 (Option.none : Option Jvm.ClassFile.FieldType)) B.pre
  have hts : ∀ w ∈ gw, w.before _ s = true := fun w h => hts0 w (List.mem_cons_of_mem _ h)
  have hown : s.vm.findClass RX6 = some m.cls := findClass_of_methodNamed B.named
  have hlocks := B.notSynchronized
  subst hsz
  have hD := hD0.self (sz := s.heap.size)
  generalize hAe : va_A [(h0, .inr (2, [.int w_functions, .ref w_nameA, .ref w_namePlaceA, .ref w_parametersA, .ref w_variablesA, .ref w_fromA, .ref w_toA, .int w_ops, .ref w_opA, .ref w_argumentA, .ref w_ticksA, .int w_labels, .ref w_labelAtA]))] s.heap.size = A at hD hE ⊢
  have hA : ∀ q : Nat, s.heap.size ≤ q → A q := fun q h => by rw [← hAe]; exact Or.inr h
  have hS : va_S A s.heap s.heap [] := va_S.rf
  have hP : va_P (dC, dI) cls [(h0, .inr (2, [.int w_functions, .ref w_nameA, .ref w_namePlaceA, .ref w_parametersA, .ref w_variablesA, .ref w_fromA, .ref w_toA, .int w_ops, .ref w_opA, .ref w_argumentA, .ref w_ticksA, .int w_labels, .ref w_labelAtA]))] s.heap := hP
  have hl := lv_entry ([.ref h0]) (n := 1) (Nat.le_of_ble_eq_true rfl)
  rw [lg_entry_eq]
  generalize (lg_sl ([.ref h0]) ++ List.replicate (1 - (lg_sl ([.ref h0])).length) Slot.unset).toArray = ls at hl ⊢
  have hl : lv_has ls 1 [(0, .ref h0)] := hl
  refine lv_aload_n hx hb dX6_clear_0 rfl (lv_at hl 0 rfl) ?_
  refine lv_iconst (v := 0) hx hb dX6_clear_1 (by decide) ?_
  refine va_put (D := (dC, dI)) (ci := 2) (v := .int 0) (ty := .int) (C := RX6) (T := TX6) (N := 13) hx hb hts i_X6 tyX6 tyX6_ok nmX6 hown hK hP hD hS 0 rfl rfl 0 (by decide) (hts _ qw166) (fun _ h9 => h9) rfl (by decide +kernel) rfl rfl (Nat.le_of_ble_eq_true rfl) dX6_clear_2 (fun H locs hP hD hS => ?_)
  have hP : va_P (dC, dI) cls [(h0, .inr (2, [.int 0, .ref w_nameA, .ref w_namePlaceA, .ref w_parametersA, .ref w_variablesA, .ref w_fromA, .ref w_toA, .int w_ops, .ref w_opA, .ref w_argumentA, .ref w_ticksA, .int w_labels, .ref w_labelAtA]))] H := hP
  have hD : va_D A [(h0, .inr (2, [.int 0, .ref w_nameA, .ref w_namePlaceA, .ref w_parametersA, .ref w_variablesA, .ref w_fromA, .ref w_toA, .int w_ops, .ref w_opA, .ref w_argumentA, .ref w_ticksA, .int w_labels, .ref w_labelAtA]))] := hD
  refine lv_aload_n hx hb dX6_clear_5 rfl (lv_at hl 0 rfl) ?_
  refine lv_iconst (v := 0) hx hb dX6_clear_6 (by decide) ?_
  refine va_put (D := (dC, dI)) (ci := 2) (v := .int 0) (ty := .int) (C := RX6) (T := TX6) (N := 13) hx hb hts i_X6 tyX6 tyX6_ok nmX6 hown hK hP hD hS 0 rfl rfl 7 (by decide) (hts _ qw167) (fun _ h9 => h9) rfl (by decide +kernel) rfl rfl (Nat.le_of_ble_eq_true rfl) dX6_clear_7 (fun H locs hP hD hS => ?_)
  have hP : va_P (dC, dI) cls [(h0, .inr (2, [.int 0, .ref w_nameA, .ref w_namePlaceA, .ref w_parametersA, .ref w_variablesA, .ref w_fromA, .ref w_toA, .int 0, .ref w_opA, .ref w_argumentA, .ref w_ticksA, .int w_labels, .ref w_labelAtA]))] H := hP
  have hD : va_D A [(h0, .inr (2, [.int 0, .ref w_nameA, .ref w_namePlaceA, .ref w_parametersA, .ref w_variablesA, .ref w_fromA, .ref w_toA, .int 0, .ref w_opA, .ref w_argumentA, .ref w_ticksA, .int w_labels, .ref w_labelAtA]))] := hD
  refine lv_aload_n hx hb dX6_clear_10 rfl (lv_at hl 0 rfl) ?_
  refine lv_iconst (v := 0) hx hb dX6_clear_11 (by decide) ?_
  refine va_put (D := (dC, dI)) (ci := 2) (v := .int 0) (ty := .int) (C := RX6) (T := TX6) (N := 13) hx hb hts i_X6 tyX6 tyX6_ok nmX6 hown hK hP hD hS 0 rfl rfl 11 (by decide) (hts _ qw168) (fun _ h9 => h9) rfl (by decide +kernel) rfl rfl (Nat.le_of_ble_eq_true rfl) dX6_clear_12 (fun H locs hP hD hS => ?_)
  have hP : va_P (dC, dI) cls [(h0, .inr (2, [.int 0, .ref w_nameA, .ref w_namePlaceA, .ref w_parametersA, .ref w_variablesA, .ref w_fromA, .ref w_toA, .int 0, .ref w_opA, .ref w_argumentA, .ref w_ticksA, .int 0, .ref w_labelAtA]))] H := hP
  have hD : va_D A [(h0, .inr (2, [.int 0, .ref w_nameA, .ref w_namePlaceA, .ref w_parametersA, .ref w_variablesA, .ref w_fromA, .ref w_toA, .int 0, .ref w_opA, .ref w_argumentA, .ref w_ticksA, .int 0, .ref w_labelAtA]))] := hD
  have hP9 : va_P (dC, dI) cls [(h0, .inr (2, [.int 0, .ref w_nameA, .ref w_namePlaceA, .ref w_parametersA, .ref w_variablesA, .ref w_fromA, .ref w_toA, .int 0, .ref w_opA, .ref w_argumentA, .ref w_ticksA, .int 0, .ref w_labelAtA]))] H := by exact hP.sub [0] rfl
  have hD9 : va_D A [(h0, .inr (2, [.int 0, .ref w_nameA, .ref w_namePlaceA, .ref w_parametersA, .ref w_variablesA, .ref w_fromA, .ref w_toA, .int 0, .ref w_opA, .ref w_argumentA, .ref w_ticksA, .int 0, .ref w_labelAtA]))] := by exact hD.sub [0] (by decide) rfl
  have hK9 : va_K (dC, dI) cls [] s := hK.sub [] rfl
  refine W.widen (k := 0) (n := 0) (Nat.le_of_ble_eq_true rfl) (Nat.le_of_ble_eq_true rfl) ?_
  exact W.vret hx hb hr (fun t ht hW => ⟨⟨(), rfl, trivial, ⟨by rw [ht]; exact hP9, va_K.moved hW.alike hK9, hD9⟩⟩, hS.F ht⟩) hS.2.2 dX6_clear_15
def sX6_emit_0_7 (w_ops : Int32) : Int32 := (if 3200 ≤ w_ops then w_ops else (w_ops + 1))
def sX6_emit_1 (w_ops : Int32) (w_opF : Nat → Int32) (p0 : Int32) : Nat → Int32 := (if 3200 ≤ w_ops then w_opF else (upd w_opF (Int32.toNatClampNeg w_ops) p0))
def sX6_emit_2 (w_ops : Int32) (w_argumentF : Nat → Int32) (p1 : Int32) : Nat → Int32 := (if 3200 ≤ w_ops then w_argumentF else (upd w_argumentF (Int32.toNatClampNeg w_ops) p1))
def sX6_emit_3 (w_ops : Int32) (w_ticksF : Nat → Int32) (p2 : Int32) : Nat → Int32 := (if 3200 ≤ w_ops then w_ticksF else (upd w_ticksF (Int32.toNatClampNeg w_ops) p2))
set_option maxHeartbeats 4000000 in
set_option maxRecDepth 100000 in
theorem kX6_emit {zs : Nat × Nat} (l : Launch) (dC : Nat → ClassId) (dI : Nat → Nat → Nat) (h0 : Nat) (w_functions : Int32) (w_nameA : Nat) (w_namePlaceA : Nat) (w_parametersA : Nat) (w_variablesA : Nat) (w_fromA : Nat) (w_toA : Nat) (w_ops : Int32) (w_opA : Nat) (w_opC : ClassId) (w_opF : Nat → Int32) (w_argumentA : Nat) (w_argumentC : ClassId) (w_argumentF : Nat → Int32) (w_ticksA : Nat) (w_ticksC : ClassId) (w_ticksF : Nat → Int32) (w_labels : Int32) (w_labelAtA : Nat) (p0 : Int32) (p1 : Int32) (p2 : Int32) (sz : Nat) (hq1 : ¬ (3200 ≤ w_ops) → vp_in w_ops 3200) : Met l yX6_emit (wz yX6_emit cX6_emit 4 (Option.none : Option Jvm.ClassFile.FieldType)) ({ frames := 0, cells := 0, slots := 0, locals := 0 }) (va_Pc [.ref h0, .int p0, .int p1, .int p2] (PRE zs dC dI [(h0, .inr (2, [.int w_functions, .ref w_nameA, .ref w_namePlaceA, .ref w_parametersA, .ref w_variablesA, .ref w_fromA, .ref w_toA, .int w_ops, .ref w_opA, .ref w_argumentA, .ref w_ticksA, .int w_labels, .ref w_labelAtA])), (w_opA, .inl (w_opC, 3200, .inl w_opF)), (w_argumentA, .inl (w_argumentC, 3200, .inl w_argumentF)), (w_ticksA, .inl (w_ticksC, 3200, .inl w_ticksF))] [(w_opC, .int), (w_argumentC, .int), (w_ticksC, .int)] sz)) (va_Qv (fun (_ : Unit) => True) (fun _ t => POST dC dI [(h0, .inr (2, [.int w_functions, .ref w_nameA, .ref w_namePlaceA, .ref w_parametersA, .ref w_variablesA, .ref w_fromA, .ref w_toA, .int (sX6_emit_0_7 w_ops), .ref w_opA, .ref w_argumentA, .ref w_ticksA, .int w_labels, .ref w_labelAtA])), (w_opA, .inl (w_opC, 3200, .inl (sX6_emit_1 w_ops w_opF p0))), (w_argumentA, .inl (w_argumentC, 3200, .inl (sX6_emit_2 w_ops w_argumentF p1))), (w_ticksA, .inl (w_ticksC, 3200, .inl (sX6_emit_3 w_ops w_ticksF p2)))] [(w_opC, .int), (w_argumentC, .int), (w_ticksC, .int)] (va_A [(h0, .inr (2, [.int w_functions, .ref w_nameA, .ref w_namePlaceA, .ref w_parametersA, .ref w_variablesA, .ref w_fromA, .ref w_toA, .int w_ops, .ref w_opA, .ref w_argumentA, .ref w_ticksA, .int w_labels, .ref w_labelAtA])), (w_opA, .inl (w_opC, 3200, .inl w_opF)), (w_argumentA, .inl (w_argumentC, 3200, .inl w_argumentF)), (w_ticksA, .inl (w_ticksC, 3200, .inl w_ticksF))] sz) t) (va_A [(h0, .inr (2, [.int w_functions, .ref w_nameA, .ref w_namePlaceA, .ref w_parametersA, .ref w_variablesA, .ref w_fromA, .ref w_toA, .int w_ops, .ref w_opA, .ref w_argumentA, .ref w_ticksA, .int w_labels, .ref w_labelAtA])), (w_opA, .inl (w_opC, 3200, .inl w_opF)), (w_argumentA, .inl (w_argumentC, 3200, .inl w_argumentF)), (w_ticksA, .inl (w_ticksC, 3200, .inl w_ticksF))] sz)) 0 0 (va_A [(h0, .inr (2, [.int w_functions, .ref w_nameA, .ref w_namePlaceA, .ref w_parametersA, .ref w_variablesA, .ref w_fromA, .ref w_toA, .int w_ops, .ref w_opA, .ref w_argumentA, .ref w_ticksA, .int w_labels, .ref w_labelAtA])), (w_opA, .inl (w_opC, 3200, .inl w_opF)), (w_argumentA, .inl (w_argumentC, 3200, .inl w_argumentF)), (w_ticksA, .inl (w_ticksC, 3200, .inl w_ticksF))] sz) := by
  refine Met.ofW (cc := cX6_emit) (maxL := 4) (ret := (Option.none : Option Jvm.ClassFile.FieldType)) (by decide) rfl ?_
  intro p e s m args below meth c s₁ B hml hv
  obtain ⟨rfl, hsz, hP, hK, hD0, hE⟩ := hv
  have hx := B.exec
  have hb := B.bytes
  have hr := B.returns
  have hts0 := atoms_spec (ws := wz yX6_emit cX6_emit 4 (Option.none : Option Jvm.ClassFile.FieldType)) B.pre
  have hts : ∀ w ∈ gw, w.before _ s = true := fun w h => hts0 w (List.mem_cons_of_mem _ h)
  have hown : s.vm.findClass RX6 = some m.cls := findClass_of_methodNamed B.named
  have hlocks := B.notSynchronized
  subst hsz
  have hD := hD0.self (sz := s.heap.size)
  generalize hAe : va_A [(h0, .inr (2, [.int w_functions, .ref w_nameA, .ref w_namePlaceA, .ref w_parametersA, .ref w_variablesA, .ref w_fromA, .ref w_toA, .int w_ops, .ref w_opA, .ref w_argumentA, .ref w_ticksA, .int w_labels, .ref w_labelAtA])), (w_opA, .inl (w_opC, 3200, .inl w_opF)), (w_argumentA, .inl (w_argumentC, 3200, .inl w_argumentF)), (w_ticksA, .inl (w_ticksC, 3200, .inl w_ticksF))] s.heap.size = A at hD hE ⊢
  have hA : ∀ q : Nat, s.heap.size ≤ q → A q := fun q h => by rw [← hAe]; exact Or.inr h
  have hS : va_S A s.heap s.heap [] := va_S.rf
  have hP : va_P (dC, dI) cls [(h0, .inr (2, [.int w_functions, .ref w_nameA, .ref w_namePlaceA, .ref w_parametersA, .ref w_variablesA, .ref w_fromA, .ref w_toA, .int w_ops, .ref w_opA, .ref w_argumentA, .ref w_ticksA, .int w_labels, .ref w_labelAtA])), (w_opA, .inl (w_opC, 3200, .inl w_opF)), (w_argumentA, .inl (w_argumentC, 3200, .inl w_argumentF)), (w_ticksA, .inl (w_ticksC, 3200, .inl w_ticksF))] s.heap := hP
  have hl := lv_entry ([.ref h0, .int p0, .int p1, .int p2]) (n := 4) (Nat.le_of_ble_eq_true rfl)
  rw [lg_entry_eq]
  generalize (lg_sl ([.ref h0, .int p0, .int p1, .int p2]) ++ List.replicate (4 - (lg_sl ([.ref h0, .int p0, .int p1, .int p2])).length) Slot.unset).toArray = ls at hl ⊢
  have hl : lv_has ls 4 [(0, .ref h0), (1, .int p0), (2, .int p1), (3, .int p2)] := hl
  refine lv_aload_n hx hb dX6_emit_0 rfl (lv_at hl 0 rfl) ?_
  refine va_get (D := (dC, dI)) (ci := 2) (v := .int w_ops) (C := RX6) (T := TX6) (N := 13) hx hb hts i_X6 hown hK hP 0 rfl rfl 7 (by decide) (hts _ qw167) (fun _ h9 => h9) rfl dX6_emit_1 ?_
  refine lv_sipush (v := 3200) hx hb dX6_emit_4 (by decide) ?_
  by_cases hc1 : 3200 ≤ w_ops
  · refine lv_icmp_ge (tgt := 50) hx hb dX6_emit_7 (by decide) (fun _ => ?_) (fun c => absurd hc1 c)
    have e_sX6_emit_0_7 : sX6_emit_0_7 w_ops = w_ops := by unfold sX6_emit_0_7; rw [if_pos hc1]
    have e_sX6_emit_1 : sX6_emit_1 w_ops w_opF p0 = w_opF := by unfold sX6_emit_1; rw [if_pos hc1]
    have e_sX6_emit_2 : sX6_emit_2 w_ops w_argumentF p1 = w_argumentF := by unfold sX6_emit_2; rw [if_pos hc1]
    have e_sX6_emit_3 : sX6_emit_3 w_ops w_ticksF p2 = w_ticksF := by unfold sX6_emit_3; rw [if_pos hc1]
    have hP9 : va_P (dC, dI) cls [(h0, .inr (2, [.int w_functions, .ref w_nameA, .ref w_namePlaceA, .ref w_parametersA, .ref w_variablesA, .ref w_fromA, .ref w_toA, .int (sX6_emit_0_7 w_ops), .ref w_opA, .ref w_argumentA, .ref w_ticksA, .int w_labels, .ref w_labelAtA])), (w_opA, .inl (w_opC, 3200, .inl (sX6_emit_1 w_ops w_opF p0))), (w_argumentA, .inl (w_argumentC, 3200, .inl (sX6_emit_2 w_ops w_argumentF p1))), (w_ticksA, .inl (w_ticksC, 3200, .inl (sX6_emit_3 w_ops w_ticksF p2)))] s.heap := by rw [e_sX6_emit_0_7, e_sX6_emit_1, e_sX6_emit_2, e_sX6_emit_3]; exact hP.sub [0, 1, 2, 3] rfl
    have hD9 : va_D A [(h0, .inr (2, [.int w_functions, .ref w_nameA, .ref w_namePlaceA, .ref w_parametersA, .ref w_variablesA, .ref w_fromA, .ref w_toA, .int (sX6_emit_0_7 w_ops), .ref w_opA, .ref w_argumentA, .ref w_ticksA, .int w_labels, .ref w_labelAtA])), (w_opA, .inl (w_opC, 3200, .inl (sX6_emit_1 w_ops w_opF p0))), (w_argumentA, .inl (w_argumentC, 3200, .inl (sX6_emit_2 w_ops w_argumentF p1))), (w_ticksA, .inl (w_ticksC, 3200, .inl (sX6_emit_3 w_ops w_ticksF p2)))] := by rw [e_sX6_emit_0_7, e_sX6_emit_1, e_sX6_emit_2, e_sX6_emit_3]; exact hD.sub [0, 1, 2, 3] (by decide) rfl
    have hK9 : va_K (dC, dI) cls [(w_opC, .int), (w_argumentC, .int), (w_ticksC, .int)] s := hK.sub [0, 1, 2] rfl
    refine W.widen (k := 0) (n := 0) (Nat.le_of_ble_eq_true rfl) (Nat.le_of_ble_eq_true rfl) ?_
    exact W.vret hx hb hr (fun t ht hW => ⟨⟨(), rfl, trivial, ⟨by rw [ht]; exact hP9, va_K.moved hW.alike hK9, hD9⟩⟩, hS.F ht⟩) hS.2.2 dX6_emit_50
  · refine lv_icmp_ge (tgt := 50) hx hb dX6_emit_7 (by decide) (fun c => absurd c hc1) (fun _ => ?_)
    refine lv_aload_n hx hb dX6_emit_10 rfl (lv_at hl 0 rfl) ?_
    refine va_get (D := (dC, dI)) (ci := 2) (v := .ref w_opA) (C := RX6) (T := TX6) (N := 13) hx hb hts i_X6 hown hK hP 0 rfl rfl 8 (by decide) (hts _ qw12) (fun _ h9 => h9) rfl dX6_emit_11 ?_
    refine lv_aload_n hx hb dX6_emit_14 rfl (lv_at hl 0 rfl) ?_
    refine va_get (D := (dC, dI)) (ci := 2) (v := .int w_ops) (C := RX6) (T := TX6) (N := 13) hx hb hts i_X6 hown hK hP 0 rfl rfl 7 (by decide) (hts _ qw167) (fun _ h9 => h9) rfl dX6_emit_15 ?_
    refine lv_iload_n hx hb dX6_emit_18 rfl (lv_at hl 1 rfl) ?_
    refine va_iast hx hb hK hP hD hS 1 0 rfl rfl (hq1 hc1) dX6_emit_19 (fun H locs hP hD hS => ?_)
    have hP : va_P (dC, dI) cls [(h0, .inr (2, [.int w_functions, .ref w_nameA, .ref w_namePlaceA, .ref w_parametersA, .ref w_variablesA, .ref w_fromA, .ref w_toA, .int w_ops, .ref w_opA, .ref w_argumentA, .ref w_ticksA, .int w_labels, .ref w_labelAtA])), (w_opA, .inl (w_opC, 3200, .inl (upd w_opF (Int32.toNatClampNeg w_ops) p0))), (w_argumentA, .inl (w_argumentC, 3200, .inl w_argumentF)), (w_ticksA, .inl (w_ticksC, 3200, .inl w_ticksF))] H := hP
    have hD : va_D A [(h0, .inr (2, [.int w_functions, .ref w_nameA, .ref w_namePlaceA, .ref w_parametersA, .ref w_variablesA, .ref w_fromA, .ref w_toA, .int w_ops, .ref w_opA, .ref w_argumentA, .ref w_ticksA, .int w_labels, .ref w_labelAtA])), (w_opA, .inl (w_opC, 3200, .inl (upd w_opF (Int32.toNatClampNeg w_ops) p0))), (w_argumentA, .inl (w_argumentC, 3200, .inl w_argumentF)), (w_ticksA, .inl (w_ticksC, 3200, .inl w_ticksF))] := hD
    refine lv_aload_n hx hb dX6_emit_20 rfl (lv_at hl 0 rfl) ?_
    refine va_get (D := (dC, dI)) (ci := 2) (v := .ref w_argumentA) (C := RX6) (T := TX6) (N := 13) hx hb hts i_X6 hown hK hP 0 rfl rfl 9 (by decide) (hts _ qw13) (fun _ h9 => h9) rfl dX6_emit_21 ?_
    refine lv_aload_n hx hb dX6_emit_24 rfl (lv_at hl 0 rfl) ?_
    refine va_get (D := (dC, dI)) (ci := 2) (v := .int w_ops) (C := RX6) (T := TX6) (N := 13) hx hb hts i_X6 hown hK hP 0 rfl rfl 7 (by decide) (hts _ qw167) (fun _ h9 => h9) rfl dX6_emit_25 ?_
    refine lv_iload_n hx hb dX6_emit_28 rfl (lv_at hl 2 rfl) ?_
    refine va_iast hx hb hK hP hD hS 2 1 rfl rfl (hq1 hc1) dX6_emit_29 (fun H locs hP hD hS => ?_)
    have hP : va_P (dC, dI) cls [(h0, .inr (2, [.int w_functions, .ref w_nameA, .ref w_namePlaceA, .ref w_parametersA, .ref w_variablesA, .ref w_fromA, .ref w_toA, .int w_ops, .ref w_opA, .ref w_argumentA, .ref w_ticksA, .int w_labels, .ref w_labelAtA])), (w_opA, .inl (w_opC, 3200, .inl (upd w_opF (Int32.toNatClampNeg w_ops) p0))), (w_argumentA, .inl (w_argumentC, 3200, .inl (upd w_argumentF (Int32.toNatClampNeg w_ops) p1))), (w_ticksA, .inl (w_ticksC, 3200, .inl w_ticksF))] H := hP
    have hD : va_D A [(h0, .inr (2, [.int w_functions, .ref w_nameA, .ref w_namePlaceA, .ref w_parametersA, .ref w_variablesA, .ref w_fromA, .ref w_toA, .int w_ops, .ref w_opA, .ref w_argumentA, .ref w_ticksA, .int w_labels, .ref w_labelAtA])), (w_opA, .inl (w_opC, 3200, .inl (upd w_opF (Int32.toNatClampNeg w_ops) p0))), (w_argumentA, .inl (w_argumentC, 3200, .inl (upd w_argumentF (Int32.toNatClampNeg w_ops) p1))), (w_ticksA, .inl (w_ticksC, 3200, .inl w_ticksF))] := hD
    refine lv_aload_n hx hb dX6_emit_30 rfl (lv_at hl 0 rfl) ?_
    refine va_get (D := (dC, dI)) (ci := 2) (v := .ref w_ticksA) (C := RX6) (T := TX6) (N := 13) hx hb hts i_X6 hown hK hP 0 rfl rfl 10 (by decide) (hts _ qw14) (fun _ h9 => h9) rfl dX6_emit_31 ?_
    refine lv_aload_n hx hb dX6_emit_34 rfl (lv_at hl 0 rfl) ?_
    refine va_get (D := (dC, dI)) (ci := 2) (v := .int w_ops) (C := RX6) (T := TX6) (N := 13) hx hb hts i_X6 hown hK hP 0 rfl rfl 7 (by decide) (hts _ qw167) (fun _ h9 => h9) rfl dX6_emit_35 ?_
    refine lv_iload_n hx hb dX6_emit_38 rfl (lv_at hl 3 rfl) ?_
    refine va_iast hx hb hK hP hD hS 3 2 rfl rfl (hq1 hc1) dX6_emit_39 (fun H locs hP hD hS => ?_)
    have hP : va_P (dC, dI) cls [(h0, .inr (2, [.int w_functions, .ref w_nameA, .ref w_namePlaceA, .ref w_parametersA, .ref w_variablesA, .ref w_fromA, .ref w_toA, .int w_ops, .ref w_opA, .ref w_argumentA, .ref w_ticksA, .int w_labels, .ref w_labelAtA])), (w_opA, .inl (w_opC, 3200, .inl (upd w_opF (Int32.toNatClampNeg w_ops) p0))), (w_argumentA, .inl (w_argumentC, 3200, .inl (upd w_argumentF (Int32.toNatClampNeg w_ops) p1))), (w_ticksA, .inl (w_ticksC, 3200, .inl (upd w_ticksF (Int32.toNatClampNeg w_ops) p2)))] H := hP
    have hD : va_D A [(h0, .inr (2, [.int w_functions, .ref w_nameA, .ref w_namePlaceA, .ref w_parametersA, .ref w_variablesA, .ref w_fromA, .ref w_toA, .int w_ops, .ref w_opA, .ref w_argumentA, .ref w_ticksA, .int w_labels, .ref w_labelAtA])), (w_opA, .inl (w_opC, 3200, .inl (upd w_opF (Int32.toNatClampNeg w_ops) p0))), (w_argumentA, .inl (w_argumentC, 3200, .inl (upd w_argumentF (Int32.toNatClampNeg w_ops) p1))), (w_ticksA, .inl (w_ticksC, 3200, .inl (upd w_ticksF (Int32.toNatClampNeg w_ops) p2)))] := hD
    refine lv_aload_n hx hb dX6_emit_40 rfl (lv_at hl 0 rfl) ?_
    refine lv_dup hx hb dX6_emit_41 rfl ?_
    refine va_get (D := (dC, dI)) (ci := 2) (v := .int w_ops) (C := RX6) (T := TX6) (N := 13) hx hb hts i_X6 hown hK hP 0 rfl rfl 7 (by decide) (hts _ qw167) (fun _ h9 => h9) rfl dX6_emit_42 ?_
    refine lv_iconst (v := 1) hx hb dX6_emit_45 (by decide) ?_
    refine lv_iadd hx hb dX6_emit_46 ?_
    refine va_put (D := (dC, dI)) (ci := 2) (v := .int (w_ops + 1)) (ty := .int) (C := RX6) (T := TX6) (N := 13) hx hb hts i_X6 tyX6 tyX6_ok nmX6 hown hK hP hD hS 0 rfl rfl 7 (by decide) (hts _ qw167) (fun _ h9 => h9) rfl (by decide +kernel) rfl rfl (Nat.le_of_ble_eq_true rfl) dX6_emit_47 (fun H locs hP hD hS => ?_)
    have hP : va_P (dC, dI) cls [(h0, .inr (2, [.int w_functions, .ref w_nameA, .ref w_namePlaceA, .ref w_parametersA, .ref w_variablesA, .ref w_fromA, .ref w_toA, .int (w_ops + 1), .ref w_opA, .ref w_argumentA, .ref w_ticksA, .int w_labels, .ref w_labelAtA])), (w_opA, .inl (w_opC, 3200, .inl (upd w_opF (Int32.toNatClampNeg w_ops) p0))), (w_argumentA, .inl (w_argumentC, 3200, .inl (upd w_argumentF (Int32.toNatClampNeg w_ops) p1))), (w_ticksA, .inl (w_ticksC, 3200, .inl (upd w_ticksF (Int32.toNatClampNeg w_ops) p2)))] H := hP
    have hD : va_D A [(h0, .inr (2, [.int w_functions, .ref w_nameA, .ref w_namePlaceA, .ref w_parametersA, .ref w_variablesA, .ref w_fromA, .ref w_toA, .int (w_ops + 1), .ref w_opA, .ref w_argumentA, .ref w_ticksA, .int w_labels, .ref w_labelAtA])), (w_opA, .inl (w_opC, 3200, .inl (upd w_opF (Int32.toNatClampNeg w_ops) p0))), (w_argumentA, .inl (w_argumentC, 3200, .inl (upd w_argumentF (Int32.toNatClampNeg w_ops) p1))), (w_ticksA, .inl (w_ticksC, 3200, .inl (upd w_ticksF (Int32.toNatClampNeg w_ops) p2)))] := hD
    have e_sX6_emit_0_7 : sX6_emit_0_7 w_ops = (w_ops + 1) := by unfold sX6_emit_0_7; rw [if_neg hc1]
    have e_sX6_emit_1 : sX6_emit_1 w_ops w_opF p0 = (upd w_opF (Int32.toNatClampNeg w_ops) p0) := by unfold sX6_emit_1; rw [if_neg hc1]
    have e_sX6_emit_2 : sX6_emit_2 w_ops w_argumentF p1 = (upd w_argumentF (Int32.toNatClampNeg w_ops) p1) := by unfold sX6_emit_2; rw [if_neg hc1]
    have e_sX6_emit_3 : sX6_emit_3 w_ops w_ticksF p2 = (upd w_ticksF (Int32.toNatClampNeg w_ops) p2) := by unfold sX6_emit_3; rw [if_neg hc1]
    have hP9 : va_P (dC, dI) cls [(h0, .inr (2, [.int w_functions, .ref w_nameA, .ref w_namePlaceA, .ref w_parametersA, .ref w_variablesA, .ref w_fromA, .ref w_toA, .int (sX6_emit_0_7 w_ops), .ref w_opA, .ref w_argumentA, .ref w_ticksA, .int w_labels, .ref w_labelAtA])), (w_opA, .inl (w_opC, 3200, .inl (sX6_emit_1 w_ops w_opF p0))), (w_argumentA, .inl (w_argumentC, 3200, .inl (sX6_emit_2 w_ops w_argumentF p1))), (w_ticksA, .inl (w_ticksC, 3200, .inl (sX6_emit_3 w_ops w_ticksF p2)))] H := by rw [e_sX6_emit_0_7, e_sX6_emit_1, e_sX6_emit_2, e_sX6_emit_3]; exact hP.sub [0, 1, 2, 3] rfl
    have hD9 : va_D A [(h0, .inr (2, [.int w_functions, .ref w_nameA, .ref w_namePlaceA, .ref w_parametersA, .ref w_variablesA, .ref w_fromA, .ref w_toA, .int (sX6_emit_0_7 w_ops), .ref w_opA, .ref w_argumentA, .ref w_ticksA, .int w_labels, .ref w_labelAtA])), (w_opA, .inl (w_opC, 3200, .inl (sX6_emit_1 w_ops w_opF p0))), (w_argumentA, .inl (w_argumentC, 3200, .inl (sX6_emit_2 w_ops w_argumentF p1))), (w_ticksA, .inl (w_ticksC, 3200, .inl (sX6_emit_3 w_ops w_ticksF p2)))] := by rw [e_sX6_emit_0_7, e_sX6_emit_1, e_sX6_emit_2, e_sX6_emit_3]; exact hD.sub [0, 1, 2, 3] (by decide) rfl
    have hK9 : va_K (dC, dI) cls [(w_opC, .int), (w_argumentC, .int), (w_ticksC, .int)] s := hK.sub [0, 1, 2] rfl
    refine W.widen (k := 0) (n := 0) (Nat.le_of_ble_eq_true rfl) (Nat.le_of_ble_eq_true rfl) ?_
    exact W.vret hx hb hr (fun t ht hW => ⟨⟨(), rfl, trivial, ⟨by rw [ht]; exact hP9, va_K.moved hW.alike hK9, hD9⟩⟩, hS.F ht⟩) hS.2.2 dX6_emit_50
def sX6_newLabel_0_11 (w_labels : Int32) : Int32 := (if 640 ≤ w_labels then w_labels else (w_labels + 1))
def sX6_newLabel_r (w_labels : Int32) : Int32 := (if 640 ≤ w_labels then (w_labels - 1) else ((w_labels + 1) - 1))
set_option maxHeartbeats 4000000 in
set_option maxRecDepth 100000 in
theorem kX6_newLabel {zs : Nat × Nat} (l : Launch) (dC : Nat → ClassId) (dI : Nat → Nat → Nat) (h0 : Nat) (w_functions : Int32) (w_nameA : Nat) (w_namePlaceA : Nat) (w_parametersA : Nat) (w_variablesA : Nat) (w_fromA : Nat) (w_toA : Nat) (w_ops : Int32) (w_opA : Nat) (w_argumentA : Nat) (w_ticksA : Nat) (w_labels : Int32) (w_labelAtA : Nat) (sz : Nat)  : Met l yX6_newLabel (wz yX6_newLabel cX6_newLabel 1 (Option.some Jvm.ClassFile.FieldType.int)) ({ frames := 0, cells := 0, slots := 0, locals := 0 }) (va_Pc [.ref h0] (PRE zs dC dI [(h0, .inr (2, [.int w_functions, .ref w_nameA, .ref w_namePlaceA, .ref w_parametersA, .ref w_variablesA, .ref w_fromA, .ref w_toA, .int w_ops, .ref w_opA, .ref w_argumentA, .ref w_ticksA, .int w_labels, .ref w_labelAtA]))] [] sz)) (va_Qi (fun (r : Int32) (_ : Unit) => r = (sX6_newLabel_r w_labels)) (fun _ t => POST dC dI [(h0, .inr (2, [.int w_functions, .ref w_nameA, .ref w_namePlaceA, .ref w_parametersA, .ref w_variablesA, .ref w_fromA, .ref w_toA, .int w_ops, .ref w_opA, .ref w_argumentA, .ref w_ticksA, .int (sX6_newLabel_0_11 w_labels), .ref w_labelAtA]))] [] (va_A [(h0, .inr (2, [.int w_functions, .ref w_nameA, .ref w_namePlaceA, .ref w_parametersA, .ref w_variablesA, .ref w_fromA, .ref w_toA, .int w_ops, .ref w_opA, .ref w_argumentA, .ref w_ticksA, .int w_labels, .ref w_labelAtA]))] sz) t) (va_A [(h0, .inr (2, [.int w_functions, .ref w_nameA, .ref w_namePlaceA, .ref w_parametersA, .ref w_variablesA, .ref w_fromA, .ref w_toA, .int w_ops, .ref w_opA, .ref w_argumentA, .ref w_ticksA, .int w_labels, .ref w_labelAtA]))] sz)) 0 0 (va_A [(h0, .inr (2, [.int w_functions, .ref w_nameA, .ref w_namePlaceA, .ref w_parametersA, .ref w_variablesA, .ref w_fromA, .ref w_toA, .int w_ops, .ref w_opA, .ref w_argumentA, .ref w_ticksA, .int w_labels, .ref w_labelAtA]))] sz) := by
  refine Met.ofW (cc := cX6_newLabel) (maxL := 1) (ret := (Option.some Jvm.ClassFile.FieldType.int)) (by decide) rfl ?_
  intro p e s m args below meth c s₁ B hml hv
  obtain ⟨rfl, hsz, hP, hK, hD0, hE⟩ := hv
  have hx := B.exec
  have hb := B.bytes
  have hr := B.returns
  have hts0 := atoms_spec (ws := wz yX6_newLabel cX6_newLabel 1 (Option.some Jvm.ClassFile.FieldType.int)) B.pre
  have hts : ∀ w ∈ gw, w.before _ s = true := fun w h => hts0 w (List.mem_cons_of_mem _ h)
  have hown : s.vm.findClass RX6 = some m.cls := findClass_of_methodNamed B.named
  have hlocks := B.notSynchronized
  subst hsz
  have hD := hD0.self (sz := s.heap.size)
  generalize hAe : va_A [(h0, .inr (2, [.int w_functions, .ref w_nameA, .ref w_namePlaceA, .ref w_parametersA, .ref w_variablesA, .ref w_fromA, .ref w_toA, .int w_ops, .ref w_opA, .ref w_argumentA, .ref w_ticksA, .int w_labels, .ref w_labelAtA]))] s.heap.size = A at hD hE ⊢
  have hA : ∀ q : Nat, s.heap.size ≤ q → A q := fun q h => by rw [← hAe]; exact Or.inr h
  have hS : va_S A s.heap s.heap [] := va_S.rf
  have hP : va_P (dC, dI) cls [(h0, .inr (2, [.int w_functions, .ref w_nameA, .ref w_namePlaceA, .ref w_parametersA, .ref w_variablesA, .ref w_fromA, .ref w_toA, .int w_ops, .ref w_opA, .ref w_argumentA, .ref w_ticksA, .int w_labels, .ref w_labelAtA]))] s.heap := hP
  have hl := lv_entry ([.ref h0]) (n := 1) (Nat.le_of_ble_eq_true rfl)
  rw [lg_entry_eq]
  generalize (lg_sl ([.ref h0]) ++ List.replicate (1 - (lg_sl ([.ref h0])).length) Slot.unset).toArray = ls at hl ⊢
  have hl : lv_has ls 1 [(0, .ref h0)] := hl
  refine lv_aload_n hx hb dX6_newLabel_0 rfl (lv_at hl 0 rfl) ?_
  refine va_get (D := (dC, dI)) (ci := 2) (v := .int w_labels) (C := RX6) (T := TX6) (N := 13) hx hb hts i_X6 hown hK hP 0 rfl rfl 11 (by decide) (hts _ qw168) (fun _ h9 => h9) rfl dX6_newLabel_1 ?_
  refine lv_sipush (v := 640) hx hb dX6_newLabel_4 (by decide) ?_
  by_cases hc1 : 640 ≤ w_labels
  · refine lv_icmp_ge (tgt := 20) hx hb dX6_newLabel_7 (by decide) (fun _ => ?_) (fun c => absurd hc1 c)
    refine lv_aload_n hx hb dX6_newLabel_20 rfl (lv_at hl 0 rfl) ?_
    refine va_get (D := (dC, dI)) (ci := 2) (v := .int w_labels) (C := RX6) (T := TX6) (N := 13) hx hb hts i_X6 hown hK hP 0 rfl rfl 11 (by decide) (hts _ qw168) (fun _ h9 => h9) rfl dX6_newLabel_21 ?_
    refine lv_iconst (v := 1) hx hb dX6_newLabel_24 (by decide) ?_
    refine lv_isub hx hb dX6_newLabel_25 ?_
    have e_sX6_newLabel_0_11 : sX6_newLabel_0_11 w_labels = w_labels := by unfold sX6_newLabel_0_11; rw [if_pos hc1]
    have e_sX6_newLabel_r : sX6_newLabel_r w_labels = (w_labels - 1) := by unfold sX6_newLabel_r; rw [if_pos hc1]
    have hP9 : va_P (dC, dI) cls [(h0, .inr (2, [.int w_functions, .ref w_nameA, .ref w_namePlaceA, .ref w_parametersA, .ref w_variablesA, .ref w_fromA, .ref w_toA, .int w_ops, .ref w_opA, .ref w_argumentA, .ref w_ticksA, .int (sX6_newLabel_0_11 w_labels), .ref w_labelAtA]))] s.heap := by rw [e_sX6_newLabel_0_11]; exact hP.sub [0] rfl
    have hD9 : va_D A [(h0, .inr (2, [.int w_functions, .ref w_nameA, .ref w_namePlaceA, .ref w_parametersA, .ref w_variablesA, .ref w_fromA, .ref w_toA, .int w_ops, .ref w_opA, .ref w_argumentA, .ref w_ticksA, .int (sX6_newLabel_0_11 w_labels), .ref w_labelAtA]))] := by rw [e_sX6_newLabel_0_11]; exact hD.sub [0] (by decide) rfl
    have hK9 : va_K (dC, dI) cls [] s := hK.sub [] rfl
    refine W.widen (k := 0) (n := 0) (Nat.le_of_ble_eq_true rfl) (Nat.le_of_ble_eq_true rfl) ?_
    exact W.iret (v := (w_labels - 1)) hx hb hr (fun t ht hW => ⟨⟨(w_labels - 1), (), rfl, e_sX6_newLabel_r.symm, ⟨by rw [ht]; exact hP9, va_K.moved hW.alike hK9, hD9⟩⟩, hS.F ht⟩) hS.2.2 dX6_newLabel_26
  · refine lv_icmp_ge (tgt := 20) hx hb dX6_newLabel_7 (by decide) (fun c => absurd c hc1) (fun _ => ?_)
    refine lv_aload_n hx hb dX6_newLabel_10 rfl (lv_at hl 0 rfl) ?_
    refine lv_dup hx hb dX6_newLabel_11 rfl ?_
    refine va_get (D := (dC, dI)) (ci := 2) (v := .int w_labels) (C := RX6) (T := TX6) (N := 13) hx hb hts i_X6 hown hK hP 0 rfl rfl 11 (by decide) (hts _ qw168) (fun _ h9 => h9) rfl dX6_newLabel_12 ?_
    refine lv_iconst (v := 1) hx hb dX6_newLabel_15 (by decide) ?_
    refine lv_iadd hx hb dX6_newLabel_16 ?_
    refine va_put (D := (dC, dI)) (ci := 2) (v := .int (w_labels + 1)) (ty := .int) (C := RX6) (T := TX6) (N := 13) hx hb hts i_X6 tyX6 tyX6_ok nmX6 hown hK hP hD hS 0 rfl rfl 11 (by decide) (hts _ qw168) (fun _ h9 => h9) rfl (by decide +kernel) rfl rfl (Nat.le_of_ble_eq_true rfl) dX6_newLabel_17 (fun H locs hP hD hS => ?_)
    have hP : va_P (dC, dI) cls [(h0, .inr (2, [.int w_functions, .ref w_nameA, .ref w_namePlaceA, .ref w_parametersA, .ref w_variablesA, .ref w_fromA, .ref w_toA, .int w_ops, .ref w_opA, .ref w_argumentA, .ref w_ticksA, .int (w_labels + 1), .ref w_labelAtA]))] H := hP
    have hD : va_D A [(h0, .inr (2, [.int w_functions, .ref w_nameA, .ref w_namePlaceA, .ref w_parametersA, .ref w_variablesA, .ref w_fromA, .ref w_toA, .int w_ops, .ref w_opA, .ref w_argumentA, .ref w_ticksA, .int (w_labels + 1), .ref w_labelAtA]))] := hD
    refine lv_aload_n hx hb dX6_newLabel_20 rfl (lv_at hl 0 rfl) ?_
    refine va_get (D := (dC, dI)) (ci := 2) (v := .int (w_labels + 1)) (C := RX6) (T := TX6) (N := 13) hx hb hts i_X6 hown hK hP 0 rfl rfl 11 (by decide) (hts _ qw168) (fun _ h9 => h9) rfl dX6_newLabel_21 ?_
    refine lv_iconst (v := 1) hx hb dX6_newLabel_24 (by decide) ?_
    refine lv_isub hx hb dX6_newLabel_25 ?_
    have e_sX6_newLabel_0_11 : sX6_newLabel_0_11 w_labels = (w_labels + 1) := by unfold sX6_newLabel_0_11; rw [if_neg hc1]
    have e_sX6_newLabel_r : sX6_newLabel_r w_labels = ((w_labels + 1) - 1) := by unfold sX6_newLabel_r; rw [if_neg hc1]
    have hP9 : va_P (dC, dI) cls [(h0, .inr (2, [.int w_functions, .ref w_nameA, .ref w_namePlaceA, .ref w_parametersA, .ref w_variablesA, .ref w_fromA, .ref w_toA, .int w_ops, .ref w_opA, .ref w_argumentA, .ref w_ticksA, .int (sX6_newLabel_0_11 w_labels), .ref w_labelAtA]))] H := by rw [e_sX6_newLabel_0_11]; exact hP.sub [0] rfl
    have hD9 : va_D A [(h0, .inr (2, [.int w_functions, .ref w_nameA, .ref w_namePlaceA, .ref w_parametersA, .ref w_variablesA, .ref w_fromA, .ref w_toA, .int w_ops, .ref w_opA, .ref w_argumentA, .ref w_ticksA, .int (sX6_newLabel_0_11 w_labels), .ref w_labelAtA]))] := by rw [e_sX6_newLabel_0_11]; exact hD.sub [0] (by decide) rfl
    have hK9 : va_K (dC, dI) cls [] s := hK.sub [] rfl
    refine W.widen (k := 0) (n := 0) (Nat.le_of_ble_eq_true rfl) (Nat.le_of_ble_eq_true rfl) ?_
    exact W.iret (v := ((w_labels + 1) - 1)) hx hb hr (fun t ht hW => ⟨⟨((w_labels + 1) - 1), (), rfl, e_sX6_newLabel_r.symm, ⟨by rw [ht]; exact hP9, va_K.moved hW.alike hK9, hD9⟩⟩, hS.F ht⟩) hS.2.2 dX6_newLabel_26
def sX6_newVariable_1 (w_variablesF : Nat → Int32) (p0 : Int32) : Nat → Int32 := (if 320 ≤ (w_variablesF (Int32.toNatClampNeg p0)) then w_variablesF else (upd w_variablesF (Int32.toNatClampNeg p0) ((w_variablesF (Int32.toNatClampNeg p0)) + 1)))
def sX6_newVariable_r (w_variablesF : Nat → Int32) (p0 : Int32) : Int32 := (if 320 ≤ (w_variablesF (Int32.toNatClampNeg p0)) then ((w_variablesF (Int32.toNatClampNeg p0)) - 1) else (((upd w_variablesF (Int32.toNatClampNeg p0) ((w_variablesF (Int32.toNatClampNeg p0)) + 1)) (Int32.toNatClampNeg p0)) - 1))
set_option maxHeartbeats 4000000 in
set_option maxRecDepth 100000 in
theorem kX6_newVariable {zs : Nat × Nat} (l : Launch) (dC : Nat → ClassId) (dI : Nat → Nat → Nat) (h0 : Nat) (w_functions : Int32) (w_nameA : Nat) (w_namePlaceA : Nat) (w_parametersA : Nat) (w_variablesA : Nat) (w_variablesC : ClassId) (w_variablesF : Nat → Int32) (w_fromA : Nat) (w_toA : Nat) (w_ops : Int32) (w_opA : Nat) (w_argumentA : Nat) (w_ticksA : Nat) (w_labels : Int32) (w_labelAtA : Nat) (p0 : Int32) (sz : Nat) (hq1 : vp_in p0 6) : Met l yX6_newVariable (wz yX6_newVariable cX6_newVariable 2 (Option.some Jvm.ClassFile.FieldType.int)) ({ frames := 0, cells := 0, slots := 0, locals := 0 }) (va_Pc [.ref h0, .int p0] (PRE zs dC dI [(h0, .inr (2, [.int w_functions, .ref w_nameA, .ref w_namePlaceA, .ref w_parametersA, .ref w_variablesA, .ref w_fromA, .ref w_toA, .int w_ops, .ref w_opA, .ref w_argumentA, .ref w_ticksA, .int w_labels, .ref w_labelAtA])), (w_variablesA, .inl (w_variablesC, 6, .inl w_variablesF))] [(w_variablesC, .int)] sz)) (va_Qi (fun (r : Int32) (_ : Unit) => r = (sX6_newVariable_r w_variablesF p0)) (fun _ t => POST dC dI [(h0, .inr (2, [.int w_functions, .ref w_nameA, .ref w_namePlaceA, .ref w_parametersA, .ref w_variablesA, .ref w_fromA, .ref w_toA, .int w_ops, .ref w_opA, .ref w_argumentA, .ref w_ticksA, .int w_labels, .ref w_labelAtA])), (w_variablesA, .inl (w_variablesC, 6, .inl (sX6_newVariable_1 w_variablesF p0)))] [(w_variablesC, .int)] (va_A [(h0, .inr (2, [.int w_functions, .ref w_nameA, .ref w_namePlaceA, .ref w_parametersA, .ref w_variablesA, .ref w_fromA, .ref w_toA, .int w_ops, .ref w_opA, .ref w_argumentA, .ref w_ticksA, .int w_labels, .ref w_labelAtA])), (w_variablesA, .inl (w_variablesC, 6, .inl w_variablesF))] sz) t) (va_A [(h0, .inr (2, [.int w_functions, .ref w_nameA, .ref w_namePlaceA, .ref w_parametersA, .ref w_variablesA, .ref w_fromA, .ref w_toA, .int w_ops, .ref w_opA, .ref w_argumentA, .ref w_ticksA, .int w_labels, .ref w_labelAtA])), (w_variablesA, .inl (w_variablesC, 6, .inl w_variablesF))] sz)) 0 0 (va_A [(h0, .inr (2, [.int w_functions, .ref w_nameA, .ref w_namePlaceA, .ref w_parametersA, .ref w_variablesA, .ref w_fromA, .ref w_toA, .int w_ops, .ref w_opA, .ref w_argumentA, .ref w_ticksA, .int w_labels, .ref w_labelAtA])), (w_variablesA, .inl (w_variablesC, 6, .inl w_variablesF))] sz) := by
  refine Met.ofW (cc := cX6_newVariable) (maxL := 2) (ret := (Option.some Jvm.ClassFile.FieldType.int)) (by decide) rfl ?_
  intro p e s m args below meth c s₁ B hml hv
  obtain ⟨rfl, hsz, hP, hK, hD0, hE⟩ := hv
  have hx := B.exec
  have hb := B.bytes
  have hr := B.returns
  have hts0 := atoms_spec (ws := wz yX6_newVariable cX6_newVariable 2 (Option.some Jvm.ClassFile.FieldType.int)) B.pre
  have hts : ∀ w ∈ gw, w.before _ s = true := fun w h => hts0 w (List.mem_cons_of_mem _ h)
  have hown : s.vm.findClass RX6 = some m.cls := findClass_of_methodNamed B.named
  have hlocks := B.notSynchronized
  subst hsz
  have hD := hD0.self (sz := s.heap.size)
  generalize hAe : va_A [(h0, .inr (2, [.int w_functions, .ref w_nameA, .ref w_namePlaceA, .ref w_parametersA, .ref w_variablesA, .ref w_fromA, .ref w_toA, .int w_ops, .ref w_opA, .ref w_argumentA, .ref w_ticksA, .int w_labels, .ref w_labelAtA])), (w_variablesA, .inl (w_variablesC, 6, .inl w_variablesF))] s.heap.size = A at hD hE ⊢
  have hA : ∀ q : Nat, s.heap.size ≤ q → A q := fun q h => by rw [← hAe]; exact Or.inr h
  have hS : va_S A s.heap s.heap [] := va_S.rf
  have hP : va_P (dC, dI) cls [(h0, .inr (2, [.int w_functions, .ref w_nameA, .ref w_namePlaceA, .ref w_parametersA, .ref w_variablesA, .ref w_fromA, .ref w_toA, .int w_ops, .ref w_opA, .ref w_argumentA, .ref w_ticksA, .int w_labels, .ref w_labelAtA])), (w_variablesA, .inl (w_variablesC, 6, .inl w_variablesF))] s.heap := hP
  have hl := lv_entry ([.ref h0, .int p0]) (n := 2) (Nat.le_of_ble_eq_true rfl)
  rw [lg_entry_eq]
  generalize (lg_sl ([.ref h0, .int p0]) ++ List.replicate (2 - (lg_sl ([.ref h0, .int p0])).length) Slot.unset).toArray = ls at hl ⊢
  have hl : lv_has ls 2 [(0, .ref h0), (1, .int p0)] := hl
  refine lv_aload_n hx hb dX6_newVariable_0 rfl (lv_at hl 0 rfl) ?_
  refine va_get (D := (dC, dI)) (ci := 2) (v := .ref w_variablesA) (C := RX6) (T := TX6) (N := 13) hx hb hts i_X6 hown hK hP 0 rfl rfl 4 (by decide) (hts _ qw9) (fun _ h9 => h9) rfl dX6_newVariable_1 ?_
  refine lv_iload_n hx hb dX6_newVariable_4 rfl (lv_at hl 1 rfl) ?_
  refine va_iald hx hb hK hP 1 0 rfl rfl (hq1) dX6_newVariable_5 ?_
  refine lv_sipush (v := 320) hx hb dX6_newVariable_6 (by decide) ?_
  by_cases hc1 : 320 ≤ (w_variablesF (Int32.toNatClampNeg p0))
  · refine lv_icmp_ge (tgt := 22) hx hb dX6_newVariable_9 (by decide) (fun _ => ?_) (fun c => absurd hc1 c)
    refine lv_aload_n hx hb dX6_newVariable_22 rfl (lv_at hl 0 rfl) ?_
    refine va_get (D := (dC, dI)) (ci := 2) (v := .ref w_variablesA) (C := RX6) (T := TX6) (N := 13) hx hb hts i_X6 hown hK hP 0 rfl rfl 4 (by decide) (hts _ qw9) (fun _ h9 => h9) rfl dX6_newVariable_23 ?_
    refine lv_iload_n hx hb dX6_newVariable_26 rfl (lv_at hl 1 rfl) ?_
    refine va_iald hx hb hK hP 1 0 rfl rfl (hq1) dX6_newVariable_27 ?_
    refine lv_iconst (v := 1) hx hb dX6_newVariable_28 (by decide) ?_
    refine lv_isub hx hb dX6_newVariable_29 ?_
    have e_sX6_newVariable_1 : sX6_newVariable_1 w_variablesF p0 = w_variablesF := by unfold sX6_newVariable_1; rw [if_pos hc1]
    have e_sX6_newVariable_r : sX6_newVariable_r w_variablesF p0 = ((w_variablesF (Int32.toNatClampNeg p0)) - 1) := by unfold sX6_newVariable_r; rw [if_pos hc1]
    have hP9 : va_P (dC, dI) cls [(h0, .inr (2, [.int w_functions, .ref w_nameA, .ref w_namePlaceA, .ref w_parametersA, .ref w_variablesA, .ref w_fromA, .ref w_toA, .int w_ops, .ref w_opA, .ref w_argumentA, .ref w_ticksA, .int w_labels, .ref w_labelAtA])), (w_variablesA, .inl (w_variablesC, 6, .inl (sX6_newVariable_1 w_variablesF p0)))] s.heap := by rw [e_sX6_newVariable_1]; exact hP.sub [0, 1] rfl
    have hD9 : va_D A [(h0, .inr (2, [.int w_functions, .ref w_nameA, .ref w_namePlaceA, .ref w_parametersA, .ref w_variablesA, .ref w_fromA, .ref w_toA, .int w_ops, .ref w_opA, .ref w_argumentA, .ref w_ticksA, .int w_labels, .ref w_labelAtA])), (w_variablesA, .inl (w_variablesC, 6, .inl (sX6_newVariable_1 w_variablesF p0)))] := by rw [e_sX6_newVariable_1]; exact hD.sub [0, 1] (by decide) rfl
    have hK9 : va_K (dC, dI) cls [(w_variablesC, .int)] s := hK.sub [0] rfl
    refine W.widen (k := 0) (n := 0) (Nat.le_of_ble_eq_true rfl) (Nat.le_of_ble_eq_true rfl) ?_
    exact W.iret (v := ((w_variablesF (Int32.toNatClampNeg p0)) - 1)) hx hb hr (fun t ht hW => ⟨⟨((w_variablesF (Int32.toNatClampNeg p0)) - 1), (), rfl, e_sX6_newVariable_r.symm, ⟨by rw [ht]; exact hP9, va_K.moved hW.alike hK9, hD9⟩⟩, hS.F ht⟩) hS.2.2 dX6_newVariable_30
  · refine lv_icmp_ge (tgt := 22) hx hb dX6_newVariable_9 (by decide) (fun c => absurd c hc1) (fun _ => ?_)
    refine lv_aload_n hx hb dX6_newVariable_12 rfl (lv_at hl 0 rfl) ?_
    refine va_get (D := (dC, dI)) (ci := 2) (v := .ref w_variablesA) (C := RX6) (T := TX6) (N := 13) hx hb hts i_X6 hown hK hP 0 rfl rfl 4 (by decide) (hts _ qw9) (fun _ h9 => h9) rfl dX6_newVariable_13 ?_
    refine lv_iload_n hx hb dX6_newVariable_16 rfl (lv_at hl 1 rfl) ?_
    refine lv_dup2_11 hx hb dX6_newVariable_17 rfl rfl ?_
    refine va_iald hx hb hK hP 1 0 rfl rfl (hq1) dX6_newVariable_18 ?_
    refine lv_iconst (v := 1) hx hb dX6_newVariable_19 (by decide) ?_
    refine lv_iadd hx hb dX6_newVariable_20 ?_
    refine va_iast hx hb hK hP hD hS 1 0 rfl rfl (hq1) dX6_newVariable_21 (fun H locs hP hD hS => ?_)
    have hP : va_P (dC, dI) cls [(h0, .inr (2, [.int w_functions, .ref w_nameA, .ref w_namePlaceA, .ref w_parametersA, .ref w_variablesA, .ref w_fromA, .ref w_toA, .int w_ops, .ref w_opA, .ref w_argumentA, .ref w_ticksA, .int w_labels, .ref w_labelAtA])), (w_variablesA, .inl (w_variablesC, 6, .inl (upd w_variablesF (Int32.toNatClampNeg p0) ((w_variablesF (Int32.toNatClampNeg p0)) + 1))))] H := hP
    have hD : va_D A [(h0, .inr (2, [.int w_functions, .ref w_nameA, .ref w_namePlaceA, .ref w_parametersA, .ref w_variablesA, .ref w_fromA, .ref w_toA, .int w_ops, .ref w_opA, .ref w_argumentA, .ref w_ticksA, .int w_labels, .ref w_labelAtA])), (w_variablesA, .inl (w_variablesC, 6, .inl (upd w_variablesF (Int32.toNatClampNeg p0) ((w_variablesF (Int32.toNatClampNeg p0)) + 1))))] := hD
    refine lv_aload_n hx hb dX6_newVariable_22 rfl (lv_at hl 0 rfl) ?_
    refine va_get (D := (dC, dI)) (ci := 2) (v := .ref w_variablesA) (C := RX6) (T := TX6) (N := 13) hx hb hts i_X6 hown hK hP 0 rfl rfl 4 (by decide) (hts _ qw9) (fun _ h9 => h9) rfl dX6_newVariable_23 ?_
    refine lv_iload_n hx hb dX6_newVariable_26 rfl (lv_at hl 1 rfl) ?_
    refine va_iald hx hb hK hP 1 0 rfl rfl (hq1) dX6_newVariable_27 ?_
    refine lv_iconst (v := 1) hx hb dX6_newVariable_28 (by decide) ?_
    refine lv_isub hx hb dX6_newVariable_29 ?_
    have e_sX6_newVariable_1 : sX6_newVariable_1 w_variablesF p0 = (upd w_variablesF (Int32.toNatClampNeg p0) ((w_variablesF (Int32.toNatClampNeg p0)) + 1)) := by unfold sX6_newVariable_1; rw [if_neg hc1]
    have e_sX6_newVariable_r : sX6_newVariable_r w_variablesF p0 = (((upd w_variablesF (Int32.toNatClampNeg p0) ((w_variablesF (Int32.toNatClampNeg p0)) + 1)) (Int32.toNatClampNeg p0)) - 1) := by unfold sX6_newVariable_r; rw [if_neg hc1]
    have hP9 : va_P (dC, dI) cls [(h0, .inr (2, [.int w_functions, .ref w_nameA, .ref w_namePlaceA, .ref w_parametersA, .ref w_variablesA, .ref w_fromA, .ref w_toA, .int w_ops, .ref w_opA, .ref w_argumentA, .ref w_ticksA, .int w_labels, .ref w_labelAtA])), (w_variablesA, .inl (w_variablesC, 6, .inl (sX6_newVariable_1 w_variablesF p0)))] H := by rw [e_sX6_newVariable_1]; exact hP.sub [0, 1] rfl
    have hD9 : va_D A [(h0, .inr (2, [.int w_functions, .ref w_nameA, .ref w_namePlaceA, .ref w_parametersA, .ref w_variablesA, .ref w_fromA, .ref w_toA, .int w_ops, .ref w_opA, .ref w_argumentA, .ref w_ticksA, .int w_labels, .ref w_labelAtA])), (w_variablesA, .inl (w_variablesC, 6, .inl (sX6_newVariable_1 w_variablesF p0)))] := by rw [e_sX6_newVariable_1]; exact hD.sub [0, 1] (by decide) rfl
    have hK9 : va_K (dC, dI) cls [(w_variablesC, .int)] s := hK.sub [0] rfl
    refine W.widen (k := 0) (n := 0) (Nat.le_of_ble_eq_true rfl) (Nat.le_of_ble_eq_true rfl) ?_
    exact W.iret (v := (((upd w_variablesF (Int32.toNatClampNeg p0) ((w_variablesF (Int32.toNatClampNeg p0)) + 1)) (Int32.toNatClampNeg p0)) - 1)) hx hb hr (fun t ht hW => ⟨⟨(((upd w_variablesF (Int32.toNatClampNeg p0) ((w_variablesF (Int32.toNatClampNeg p0)) + 1)) (Int32.toNatClampNeg p0)) - 1), (), rfl, e_sX6_newVariable_r.symm, ⟨by rw [ht]; exact hP9, va_K.moved hW.alike hK9, hD9⟩⟩, hS.F ht⟩) hS.2.2 dX6_newVariable_30
set_option maxHeartbeats 4000000 in
set_option maxRecDepth 100000 in
theorem kX6_putLabel {zs : Nat × Nat} (l : Launch) (dC : Nat → ClassId) (dI : Nat → Nat → Nat) (h0 : Nat) (w_functions : Int32) (w_nameA : Nat) (w_namePlaceA : Nat) (w_parametersA : Nat) (w_variablesA : Nat) (w_fromA : Nat) (w_toA : Nat) (w_ops : Int32) (w_opA : Nat) (w_opC : ClassId) (w_opF : Nat → Int32) (w_argumentA : Nat) (w_argumentC : ClassId) (w_argumentF : Nat → Int32) (w_ticksA : Nat) (w_ticksC : ClassId) (w_ticksF : Nat → Int32) (w_labels : Int32) (w_labelAtA : Nat) (w_labelAtC : ClassId) (w_labelAtF : Nat → Int32) (p0 : Int32) (sz : Nat) (hq1 : vp_in p0 640) (hq2 : (¬ (3200 ≤ w_ops) → vp_in w_ops 3200)) : Met l yX6_putLabel (wz yX6_putLabel cX6_putLabel 2 (Option.none : Option Jvm.ClassFile.FieldType)) ({ frames := 1, cells := 0, slots := 0, locals := 23 }) (va_Pc [.ref h0, .int p0] (PRE zs dC dI [(h0, .inr (2, [.int w_functions, .ref w_nameA, .ref w_namePlaceA, .ref w_parametersA, .ref w_variablesA, .ref w_fromA, .ref w_toA, .int w_ops, .ref w_opA, .ref w_argumentA, .ref w_ticksA, .int w_labels, .ref w_labelAtA])), (w_opA, .inl (w_opC, 3200, .inl w_opF)), (w_argumentA, .inl (w_argumentC, 3200, .inl w_argumentF)), (w_ticksA, .inl (w_ticksC, 3200, .inl w_ticksF)), (w_labelAtA, .inl (w_labelAtC, 640, .inl w_labelAtF))] [(w_opC, .int), (w_argumentC, .int), (w_ticksC, .int), (w_labelAtC, .int)] sz)) (va_Qv (fun (_ : Unit) => True) (fun _ t => POST dC dI [(h0, .inr (2, [.int w_functions, .ref w_nameA, .ref w_namePlaceA, .ref w_parametersA, .ref w_variablesA, .ref w_fromA, .ref w_toA, .int (sX6_emit_0_7 w_ops), .ref w_opA, .ref w_argumentA, .ref w_ticksA, .int w_labels, .ref w_labelAtA])), (w_opA, .inl (w_opC, 3200, .inl (sX6_emit_1 w_ops w_opF 35))), (w_argumentA, .inl (w_argumentC, 3200, .inl (sX6_emit_2 w_ops w_argumentF p0))), (w_ticksA, .inl (w_ticksC, 3200, .inl (sX6_emit_3 w_ops w_ticksF 0))), (w_labelAtA, .inl (w_labelAtC, 640, .inl (upd w_labelAtF (Int32.toNatClampNeg p0) w_ops)))] [(w_opC, .int), (w_argumentC, .int), (w_ticksC, .int), (w_labelAtC, .int)] (va_A [(h0, .inr (2, [.int w_functions, .ref w_nameA, .ref w_namePlaceA, .ref w_parametersA, .ref w_variablesA, .ref w_fromA, .ref w_toA, .int w_ops, .ref w_opA, .ref w_argumentA, .ref w_ticksA, .int w_labels, .ref w_labelAtA])), (w_opA, .inl (w_opC, 3200, .inl w_opF)), (w_argumentA, .inl (w_argumentC, 3200, .inl w_argumentF)), (w_ticksA, .inl (w_ticksC, 3200, .inl w_ticksF)), (w_labelAtA, .inl (w_labelAtC, 640, .inl w_labelAtF))] sz) t) (va_A [(h0, .inr (2, [.int w_functions, .ref w_nameA, .ref w_namePlaceA, .ref w_parametersA, .ref w_variablesA, .ref w_fromA, .ref w_toA, .int w_ops, .ref w_opA, .ref w_argumentA, .ref w_ticksA, .int w_labels, .ref w_labelAtA])), (w_opA, .inl (w_opC, 3200, .inl w_opF)), (w_argumentA, .inl (w_argumentC, 3200, .inl w_argumentF)), (w_ticksA, .inl (w_ticksC, 3200, .inl w_ticksF)), (w_labelAtA, .inl (w_labelAtC, 640, .inl w_labelAtF))] sz)) 0 0 (va_A [(h0, .inr (2, [.int w_functions, .ref w_nameA, .ref w_namePlaceA, .ref w_parametersA, .ref w_variablesA, .ref w_fromA, .ref w_toA, .int w_ops, .ref w_opA, .ref w_argumentA, .ref w_ticksA, .int w_labels, .ref w_labelAtA])), (w_opA, .inl (w_opC, 3200, .inl w_opF)), (w_argumentA, .inl (w_argumentC, 3200, .inl w_argumentF)), (w_ticksA, .inl (w_ticksC, 3200, .inl w_ticksF)), (w_labelAtA, .inl (w_labelAtC, 640, .inl w_labelAtF))] sz) := by
  refine Met.ofW (cc := cX6_putLabel) (maxL := 2) (ret := (Option.none : Option Jvm.ClassFile.FieldType)) (by decide) rfl ?_
  intro p e s m args below meth c s₁ B hml hv
  obtain ⟨rfl, hsz, hP, hK, hD0, hE⟩ := hv
  have hx := B.exec
  have hb := B.bytes
  have hr := B.returns
  have hts0 := atoms_spec (ws := wz yX6_putLabel cX6_putLabel 2 (Option.none : Option Jvm.ClassFile.FieldType)) B.pre
  have hts : ∀ w ∈ gw, w.before _ s = true := fun w h => hts0 w (List.mem_cons_of_mem _ h)
  have hown : s.vm.findClass RX6 = some m.cls := findClass_of_methodNamed B.named
  have hlocks := B.notSynchronized
  subst hsz
  have hD := hD0.self (sz := s.heap.size)
  generalize hAe : va_A [(h0, .inr (2, [.int w_functions, .ref w_nameA, .ref w_namePlaceA, .ref w_parametersA, .ref w_variablesA, .ref w_fromA, .ref w_toA, .int w_ops, .ref w_opA, .ref w_argumentA, .ref w_ticksA, .int w_labels, .ref w_labelAtA])), (w_opA, .inl (w_opC, 3200, .inl w_opF)), (w_argumentA, .inl (w_argumentC, 3200, .inl w_argumentF)), (w_ticksA, .inl (w_ticksC, 3200, .inl w_ticksF)), (w_labelAtA, .inl (w_labelAtC, 640, .inl w_labelAtF))] s.heap.size = A at hD hE ⊢
  have hA : ∀ q : Nat, s.heap.size ≤ q → A q := fun q h => by rw [← hAe]; exact Or.inr h
  have hS : va_S A s.heap s.heap [] := va_S.rf
  have hP : va_P (dC, dI) cls [(h0, .inr (2, [.int w_functions, .ref w_nameA, .ref w_namePlaceA, .ref w_parametersA, .ref w_variablesA, .ref w_fromA, .ref w_toA, .int w_ops, .ref w_opA, .ref w_argumentA, .ref w_ticksA, .int w_labels, .ref w_labelAtA])), (w_opA, .inl (w_opC, 3200, .inl w_opF)), (w_argumentA, .inl (w_argumentC, 3200, .inl w_argumentF)), (w_ticksA, .inl (w_ticksC, 3200, .inl w_ticksF)), (w_labelAtA, .inl (w_labelAtC, 640, .inl w_labelAtF))] s.heap := hP
  have hl := lv_entry ([.ref h0, .int p0]) (n := 2) (Nat.le_of_ble_eq_true rfl)
  rw [lg_entry_eq]
  generalize (lg_sl ([.ref h0, .int p0]) ++ List.replicate (2 - (lg_sl ([.ref h0, .int p0])).length) Slot.unset).toArray = ls at hl ⊢
  have hl : lv_has ls 2 [(0, .ref h0), (1, .int p0)] := hl
  refine lv_aload_n hx hb dX6_putLabel_0 rfl (lv_at hl 0 rfl) ?_
  refine va_get (D := (dC, dI)) (ci := 2) (v := .ref w_labelAtA) (C := RX6) (T := TX6) (N := 13) hx hb hts i_X6 hown hK hP 0 rfl rfl 12 (by decide) (hts _ qw15) (fun _ h9 => h9) rfl dX6_putLabel_1 ?_
  refine lv_iload_n hx hb dX6_putLabel_4 rfl (lv_at hl 1 rfl) ?_
  refine lv_aload_n hx hb dX6_putLabel_5 rfl (lv_at hl 0 rfl) ?_
  refine va_get (D := (dC, dI)) (ci := 2) (v := .int w_ops) (C := RX6) (T := TX6) (N := 13) hx hb hts i_X6 hown hK hP 0 rfl rfl 7 (by decide) (hts _ qw167) (fun _ h9 => h9) rfl dX6_putLabel_6 ?_
  refine va_iast hx hb hK hP hD hS 4 3 rfl rfl (hq1) dX6_putLabel_9 (fun H locs hP hD hS => ?_)
  have hP : va_P (dC, dI) cls [(h0, .inr (2, [.int w_functions, .ref w_nameA, .ref w_namePlaceA, .ref w_parametersA, .ref w_variablesA, .ref w_fromA, .ref w_toA, .int w_ops, .ref w_opA, .ref w_argumentA, .ref w_ticksA, .int w_labels, .ref w_labelAtA])), (w_opA, .inl (w_opC, 3200, .inl w_opF)), (w_argumentA, .inl (w_argumentC, 3200, .inl w_argumentF)), (w_ticksA, .inl (w_ticksC, 3200, .inl w_ticksF)), (w_labelAtA, .inl (w_labelAtC, 640, .inl (upd w_labelAtF (Int32.toNatClampNeg p0) w_ops)))] H := hP
  have hD : va_D A [(h0, .inr (2, [.int w_functions, .ref w_nameA, .ref w_namePlaceA, .ref w_parametersA, .ref w_variablesA, .ref w_fromA, .ref w_toA, .int w_ops, .ref w_opA, .ref w_argumentA, .ref w_ticksA, .int w_labels, .ref w_labelAtA])), (w_opA, .inl (w_opC, 3200, .inl w_opF)), (w_argumentA, .inl (w_argumentC, 3200, .inl w_argumentF)), (w_ticksA, .inl (w_ticksC, 3200, .inl w_ticksF)), (w_labelAtA, .inl (w_labelAtC, 640, .inl (upd w_labelAtF (Int32.toNatClampNeg p0) w_ops)))] := hD
  refine lv_aload_n hx hb dX6_putLabel_10 rfl (lv_at hl 0 rfl) ?_
  refine lv_bipush (v := 35) hx hb dX6_putLabel_11 (by decide) ?_
  refine lv_iload_n hx hb dX6_putLabel_13 rfl (lv_at hl 1 rfl) ?_
  refine lv_iconst (v := 0) hx hb dX6_putLabel_14 (by decide) ?_
  have hPc := hP.sub (ws' := [(h0, .inr (2, [.int w_functions, .ref w_nameA, .ref w_namePlaceA, .ref w_parametersA, .ref w_variablesA, .ref w_fromA, .ref w_toA, .int w_ops, .ref w_opA, .ref w_argumentA, .ref w_ticksA, .int w_labels, .ref w_labelAtA])), (w_opA, .inl (w_opC, 3200, .inl w_opF)), (w_argumentA, .inl (w_argumentC, 3200, .inl w_argumentF)), (w_ticksA, .inl (w_ticksC, 3200, .inl w_ticksF))]) [0, 1, 2, 3] rfl
  have hDc := hD.sub (ws' := [(h0, .inr (2, [.int w_functions, .ref w_nameA, .ref w_namePlaceA, .ref w_parametersA, .ref w_variablesA, .ref w_fromA, .ref w_toA, .int w_ops, .ref w_opA, .ref w_argumentA, .ref w_ticksA, .int w_labels, .ref w_labelAtA])), (w_opA, .inl (w_opC, 3200, .inl w_opF)), (w_argumentA, .inl (w_argumentC, 3200, .inl w_argumentF)), (w_ticksA, .inl (w_ticksC, 3200, .inl w_ticksF))]) [0, 1, 2, 3] (by decide) rfl
  have hKc := hK.sub (tys' := [(w_opC, .int), (w_argumentC, .int), (w_ticksC, .int)]) [0, 1, 2] rfl
  have hFc := va_free (wc := [(h0, .inr (2, [.int w_functions, .ref w_nameA, .ref w_namePlaceA, .ref w_parametersA, .ref w_variablesA, .ref w_fromA, .ref w_toA, .int w_ops, .ref w_opA, .ref w_argumentA, .ref w_ticksA, .int w_labels, .ref w_labelAtA])), (w_opA, .inl (w_opC, 3200, .inl w_opF)), (w_argumentA, .inl (w_argumentC, 3200, .inl w_argumentF)), (w_ticksA, .inl (w_ticksC, 3200, .inl w_ticksF))]) hD hS hA [0, 1, 2, 3] rfl
  refine va_callv (va_runV (As := [.int 35, .int p0, .int 0]) (rest := []) ⟨hx, hb, hml, hown, hts⟩ (kX6_emit l dC dI (h0 := h0) (w_functions := w_functions) (w_nameA := w_nameA) (w_namePlaceA := w_namePlaceA) (w_parametersA := w_parametersA) (w_variablesA := w_variablesA) (w_fromA := w_fromA) (w_toA := w_toA) (w_ops := w_ops) (w_opA := w_opA) (w_opC := w_opC) (w_opF := w_opF) (w_argumentA := w_argumentA) (w_argumentC := w_argumentC) (w_argumentF := w_argumentF) (w_ticksA := w_ticksA) (w_ticksC := w_ticksC) (w_ticksF := w_ticksF) (w_labels := w_labels) (w_labelAtA := w_labelAtA) (p0 := 35) (p1 := p0) (p2 := 0) (sz := _) (hq1 := (hq2))) (cwV 3 hts (gi_V qw213 qw214 qw215 qw173 (gi_z qw212)) rfl rfl rfl (by decide +kernel) ⟨Nat.le_of_ble_eq_true rfl, Nat.le_of_ble_eq_true rfl⟩) ⟨PRE.blind, va_recv hKc hPc (ci := 2) (q0 := 0) rfl rfl, PRE.of hE hS hFc hPc hKc hDc⟩ rfl rfl hl.1 rfl (lv_room (Nat.le_of_ble_eq_true rfl)) dX6_putLabel_15 ⟨Nat.le_of_ble_eq_true rfl, Nat.le_of_ble_eq_true rfl⟩) hS (fun q _ h => hFc q h) hFc (fun u t H locs ht hvm hw hB hz1 hk1 hS => ?_)
  obtain ⟨hP, hD, hK⟩ := JOIN (wr := [(w_labelAtA, .inl (w_labelAtC, 640, .inl (upd w_labelAtF (Int32.toNatClampNeg p0) w_ops)))]) hP hD hK [0, 1, 2, 3] [4] [3] rfl rfl (by decide) (by decide) rfl hk1 hFc ht hvm hB
  have hP : va_P (dC, dI) cls [(w_labelAtA, .inl (w_labelAtC, 640, .inl (upd w_labelAtF (Int32.toNatClampNeg p0) w_ops))), (h0, .inr (2, [.int w_functions, .ref w_nameA, .ref w_namePlaceA, .ref w_parametersA, .ref w_variablesA, .ref w_fromA, .ref w_toA, .int (sX6_emit_0_7 w_ops), .ref w_opA, .ref w_argumentA, .ref w_ticksA, .int w_labels, .ref w_labelAtA])), (w_opA, .inl (w_opC, 3200, .inl (sX6_emit_1 w_ops w_opF 35))), (w_argumentA, .inl (w_argumentC, 3200, .inl (sX6_emit_2 w_ops w_argumentF p0))), (w_ticksA, .inl (w_ticksC, 3200, .inl (sX6_emit_3 w_ops w_ticksF 0)))] H := hP
  have hD : va_D A [(w_labelAtA, .inl (w_labelAtC, 640, .inl (upd w_labelAtF (Int32.toNatClampNeg p0) w_ops))), (h0, .inr (2, [.int w_functions, .ref w_nameA, .ref w_namePlaceA, .ref w_parametersA, .ref w_variablesA, .ref w_fromA, .ref w_toA, .int (sX6_emit_0_7 w_ops), .ref w_opA, .ref w_argumentA, .ref w_ticksA, .int w_labels, .ref w_labelAtA])), (w_opA, .inl (w_opC, 3200, .inl (sX6_emit_1 w_ops w_opF 35))), (w_argumentA, .inl (w_argumentC, 3200, .inl (sX6_emit_2 w_ops w_argumentF p0))), (w_ticksA, .inl (w_ticksC, 3200, .inl (sX6_emit_3 w_ops w_ticksF 0)))] := hD
  have hK : va_K (dC, dI) cls [(w_labelAtC, .int), (w_opC, .int), (w_argumentC, .int), (w_ticksC, .int)] s := hK
  refine W.widen (k := 0) (n := 0) (Nat.le_of_ble_eq_true rfl) (Nat.le_of_ble_eq_true rfl) ?_
  have hP9 : va_P (dC, dI) cls [(h0, .inr (2, [.int w_functions, .ref w_nameA, .ref w_namePlaceA, .ref w_parametersA, .ref w_variablesA, .ref w_fromA, .ref w_toA, .int (sX6_emit_0_7 w_ops), .ref w_opA, .ref w_argumentA, .ref w_ticksA, .int w_labels, .ref w_labelAtA])), (w_opA, .inl (w_opC, 3200, .inl (sX6_emit_1 w_ops w_opF 35))), (w_argumentA, .inl (w_argumentC, 3200, .inl (sX6_emit_2 w_ops w_argumentF p0))), (w_ticksA, .inl (w_ticksC, 3200, .inl (sX6_emit_3 w_ops w_ticksF 0))), (w_labelAtA, .inl (w_labelAtC, 640, .inl (upd w_labelAtF (Int32.toNatClampNeg p0) w_ops)))] H := by exact hP.sub [1, 2, 3, 4, 0] rfl
  have hD9 : va_D A [(h0, .inr (2, [.int w_functions, .ref w_nameA, .ref w_namePlaceA, .ref w_parametersA, .ref w_variablesA, .ref w_fromA, .ref w_toA, .int (sX6_emit_0_7 w_ops), .ref w_opA, .ref w_argumentA, .ref w_ticksA, .int w_labels, .ref w_labelAtA])), (w_opA, .inl (w_opC, 3200, .inl (sX6_emit_1 w_ops w_opF 35))), (w_argumentA, .inl (w_argumentC, 3200, .inl (sX6_emit_2 w_ops w_argumentF p0))), (w_ticksA, .inl (w_ticksC, 3200, .inl (sX6_emit_3 w_ops w_ticksF 0))), (w_labelAtA, .inl (w_labelAtC, 640, .inl (upd w_labelAtF (Int32.toNatClampNeg p0) w_ops)))] := by exact hD.sub [1, 2, 3, 4, 0] (by decide) rfl
  have hK9 : va_K (dC, dI) cls [(w_opC, .int), (w_argumentC, .int), (w_ticksC, .int), (w_labelAtC, .int)] s := hK.sub [1, 2, 3, 0] rfl
  refine W.widen (k := 0) (n := 0) (Nat.le_of_ble_eq_true rfl) (Nat.le_of_ble_eq_true rfl) ?_
  exact W.vret hx hb hr (fun t ht hW => ⟨⟨(), rfl, trivial, ⟨by rw [ht]; exact hP9, va_K.moved hW.alike hK9, hD9⟩⟩, hS.F ht⟩) hS.2.2 dX6_putLabel_18
def sX6_tick_1 (w_ticksF : Nat → Int32) (p0 : Int32) : Nat → Int32 := (if 3200 ≤ p0 then w_ticksF else (upd w_ticksF (Int32.toNatClampNeg p0) ((w_ticksF (Int32.toNatClampNeg p0)) + 1)))
set_option maxHeartbeats 4000000 in
set_option maxRecDepth 100000 in
theorem kX6_tick {zs : Nat × Nat} (l : Launch) (dC : Nat → ClassId) (dI : Nat → Nat → Nat) (h0 : Nat) (w_functions : Int32) (w_nameA : Nat) (w_namePlaceA : Nat) (w_parametersA : Nat) (w_variablesA : Nat) (w_fromA : Nat) (w_toA : Nat) (w_ops : Int32) (w_opA : Nat) (w_argumentA : Nat) (w_ticksA : Nat) (w_ticksC : ClassId) (w_ticksF : Nat → Int32) (w_labels : Int32) (w_labelAtA : Nat) (p0 : Int32) (sz : Nat) (hq1 : ¬ (3200 ≤ p0) → vp_in p0 3200) : Met l yX6_tick (wz yX6_tick cX6_tick 2 (Option.none : Option Jvm.ClassFile.FieldType)) ({ frames := 0, cells := 0, slots := 0, locals := 0 }) (va_Pc [.ref h0, .int p0] (PRE zs dC dI [(h0, .inr (2, [.int w_functions, .ref w_nameA, .ref w_namePlaceA, .ref w_parametersA, .ref w_variablesA, .ref w_fromA, .ref w_toA, .int w_ops, .ref w_opA, .ref w_argumentA, .ref w_ticksA, .int w_labels, .ref w_labelAtA])), (w_ticksA, .inl (w_ticksC, 3200, .inl w_ticksF))] [(w_ticksC, .int)] sz)) (va_Qv (fun (_ : Unit) => True) (fun _ t => POST dC dI [(h0, .inr (2, [.int w_functions, .ref w_nameA, .ref w_namePlaceA, .ref w_parametersA, .ref w_variablesA, .ref w_fromA, .ref w_toA, .int w_ops, .ref w_opA, .ref w_argumentA, .ref w_ticksA, .int w_labels, .ref w_labelAtA])), (w_ticksA, .inl (w_ticksC, 3200, .inl (sX6_tick_1 w_ticksF p0)))] [(w_ticksC, .int)] (va_A [(h0, .inr (2, [.int w_functions, .ref w_nameA, .ref w_namePlaceA, .ref w_parametersA, .ref w_variablesA, .ref w_fromA, .ref w_toA, .int w_ops, .ref w_opA, .ref w_argumentA, .ref w_ticksA, .int w_labels, .ref w_labelAtA])), (w_ticksA, .inl (w_ticksC, 3200, .inl w_ticksF))] sz) t) (va_A [(h0, .inr (2, [.int w_functions, .ref w_nameA, .ref w_namePlaceA, .ref w_parametersA, .ref w_variablesA, .ref w_fromA, .ref w_toA, .int w_ops, .ref w_opA, .ref w_argumentA, .ref w_ticksA, .int w_labels, .ref w_labelAtA])), (w_ticksA, .inl (w_ticksC, 3200, .inl w_ticksF))] sz)) 0 0 (va_A [(h0, .inr (2, [.int w_functions, .ref w_nameA, .ref w_namePlaceA, .ref w_parametersA, .ref w_variablesA, .ref w_fromA, .ref w_toA, .int w_ops, .ref w_opA, .ref w_argumentA, .ref w_ticksA, .int w_labels, .ref w_labelAtA])), (w_ticksA, .inl (w_ticksC, 3200, .inl w_ticksF))] sz) := by
  refine Met.ofW (cc := cX6_tick) (maxL := 2) (ret := (Option.none : Option Jvm.ClassFile.FieldType)) (by decide) rfl ?_
  intro p e s m args below meth c s₁ B hml hv
  obtain ⟨rfl, hsz, hP, hK, hD0, hE⟩ := hv
  have hx := B.exec
  have hb := B.bytes
  have hr := B.returns
  have hts0 := atoms_spec (ws := wz yX6_tick cX6_tick 2 (Option.none : Option Jvm.ClassFile.FieldType)) B.pre
  have hts : ∀ w ∈ gw, w.before _ s = true := fun w h => hts0 w (List.mem_cons_of_mem _ h)
  have hown : s.vm.findClass RX6 = some m.cls := findClass_of_methodNamed B.named
  have hlocks := B.notSynchronized
  subst hsz
  have hD := hD0.self (sz := s.heap.size)
  generalize hAe : va_A [(h0, .inr (2, [.int w_functions, .ref w_nameA, .ref w_namePlaceA, .ref w_parametersA, .ref w_variablesA, .ref w_fromA, .ref w_toA, .int w_ops, .ref w_opA, .ref w_argumentA, .ref w_ticksA, .int w_labels, .ref w_labelAtA])), (w_ticksA, .inl (w_ticksC, 3200, .inl w_ticksF))] s.heap.size = A at hD hE ⊢
  have hA : ∀ q : Nat, s.heap.size ≤ q → A q := fun q h => by rw [← hAe]; exact Or.inr h
  have hS : va_S A s.heap s.heap [] := va_S.rf
  have hP : va_P (dC, dI) cls [(h0, .inr (2, [.int w_functions, .ref w_nameA, .ref w_namePlaceA, .ref w_parametersA, .ref w_variablesA, .ref w_fromA, .ref w_toA, .int w_ops, .ref w_opA, .ref w_argumentA, .ref w_ticksA, .int w_labels, .ref w_labelAtA])), (w_ticksA, .inl (w_ticksC, 3200, .inl w_ticksF))] s.heap := hP
  have hl := lv_entry ([.ref h0, .int p0]) (n := 2) (Nat.le_of_ble_eq_true rfl)
  rw [lg_entry_eq]
  generalize (lg_sl ([.ref h0, .int p0]) ++ List.replicate (2 - (lg_sl ([.ref h0, .int p0])).length) Slot.unset).toArray = ls at hl ⊢
  have hl : lv_has ls 2 [(0, .ref h0), (1, .int p0)] := hl
  refine lv_iload_n hx hb dX6_tick_0 rfl (lv_at hl 1 rfl) ?_
  refine lv_sipush (v := 3200) hx hb dX6_tick_1 (by decide) ?_
  by_cases hc1 : 3200 ≤ p0
  · refine lv_icmp_ge (tgt := 17) hx hb dX6_tick_4 (by decide) (fun _ => ?_) (fun c => absurd hc1 c)
    have e_sX6_tick_1 : sX6_tick_1 w_ticksF p0 = w_ticksF := by unfold sX6_tick_1; rw [if_pos hc1]
    have hP9 : va_P (dC, dI) cls [(h0, .inr (2, [.int w_functions, .ref w_nameA, .ref w_namePlaceA, .ref w_parametersA, .ref w_variablesA, .ref w_fromA, .ref w_toA, .int w_ops, .ref w_opA, .ref w_argumentA, .ref w_ticksA, .int w_labels, .ref w_labelAtA])), (w_ticksA, .inl (w_ticksC, 3200, .inl (sX6_tick_1 w_ticksF p0)))] s.heap := by rw [e_sX6_tick_1]; exact hP.sub [0, 1] rfl
    have hD9 : va_D A [(h0, .inr (2, [.int w_functions, .ref w_nameA, .ref w_namePlaceA, .ref w_parametersA, .ref w_variablesA, .ref w_fromA, .ref w_toA, .int w_ops, .ref w_opA, .ref w_argumentA, .ref w_ticksA, .int w_labels, .ref w_labelAtA])), (w_ticksA, .inl (w_ticksC, 3200, .inl (sX6_tick_1 w_ticksF p0)))] := by rw [e_sX6_tick_1]; exact hD.sub [0, 1] (by decide) rfl
    have hK9 : va_K (dC, dI) cls [(w_ticksC, .int)] s := hK.sub [0] rfl
    refine W.widen (k := 0) (n := 0) (Nat.le_of_ble_eq_true rfl) (Nat.le_of_ble_eq_true rfl) ?_
    exact W.vret hx hb hr (fun t ht hW => ⟨⟨(), rfl, trivial, ⟨by rw [ht]; exact hP9, va_K.moved hW.alike hK9, hD9⟩⟩, hS.F ht⟩) hS.2.2 dX6_tick_17
  · refine lv_icmp_ge (tgt := 17) hx hb dX6_tick_4 (by decide) (fun c => absurd c hc1) (fun _ => ?_)
    refine lv_aload_n hx hb dX6_tick_7 rfl (lv_at hl 0 rfl) ?_
    refine va_get (D := (dC, dI)) (ci := 2) (v := .ref w_ticksA) (C := RX6) (T := TX6) (N := 13) hx hb hts i_X6 hown hK hP 0 rfl rfl 10 (by decide) (hts _ qw14) (fun _ h9 => h9) rfl dX6_tick_8 ?_
    refine lv_iload_n hx hb dX6_tick_11 rfl (lv_at hl 1 rfl) ?_
    refine lv_dup2_11 hx hb dX6_tick_12 rfl rfl ?_
    refine va_iald hx hb hK hP 1 0 rfl rfl (hq1 hc1) dX6_tick_13 ?_
    refine lv_iconst (v := 1) hx hb dX6_tick_14 (by decide) ?_
    refine lv_iadd hx hb dX6_tick_15 ?_
    refine va_iast hx hb hK hP hD hS 1 0 rfl rfl (hq1 hc1) dX6_tick_16 (fun H locs hP hD hS => ?_)
    have hP : va_P (dC, dI) cls [(h0, .inr (2, [.int w_functions, .ref w_nameA, .ref w_namePlaceA, .ref w_parametersA, .ref w_variablesA, .ref w_fromA, .ref w_toA, .int w_ops, .ref w_opA, .ref w_argumentA, .ref w_ticksA, .int w_labels, .ref w_labelAtA])), (w_ticksA, .inl (w_ticksC, 3200, .inl (upd w_ticksF (Int32.toNatClampNeg p0) ((w_ticksF (Int32.toNatClampNeg p0)) + 1))))] H := hP
    have hD : va_D A [(h0, .inr (2, [.int w_functions, .ref w_nameA, .ref w_namePlaceA, .ref w_parametersA, .ref w_variablesA, .ref w_fromA, .ref w_toA, .int w_ops, .ref w_opA, .ref w_argumentA, .ref w_ticksA, .int w_labels, .ref w_labelAtA])), (w_ticksA, .inl (w_ticksC, 3200, .inl (upd w_ticksF (Int32.toNatClampNeg p0) ((w_ticksF (Int32.toNatClampNeg p0)) + 1))))] := hD
    have e_sX6_tick_1 : sX6_tick_1 w_ticksF p0 = (upd w_ticksF (Int32.toNatClampNeg p0) ((w_ticksF (Int32.toNatClampNeg p0)) + 1)) := by unfold sX6_tick_1; rw [if_neg hc1]
    have hP9 : va_P (dC, dI) cls [(h0, .inr (2, [.int w_functions, .ref w_nameA, .ref w_namePlaceA, .ref w_parametersA, .ref w_variablesA, .ref w_fromA, .ref w_toA, .int w_ops, .ref w_opA, .ref w_argumentA, .ref w_ticksA, .int w_labels, .ref w_labelAtA])), (w_ticksA, .inl (w_ticksC, 3200, .inl (sX6_tick_1 w_ticksF p0)))] H := by rw [e_sX6_tick_1]; exact hP.sub [0, 1] rfl
    have hD9 : va_D A [(h0, .inr (2, [.int w_functions, .ref w_nameA, .ref w_namePlaceA, .ref w_parametersA, .ref w_variablesA, .ref w_fromA, .ref w_toA, .int w_ops, .ref w_opA, .ref w_argumentA, .ref w_ticksA, .int w_labels, .ref w_labelAtA])), (w_ticksA, .inl (w_ticksC, 3200, .inl (sX6_tick_1 w_ticksF p0)))] := by rw [e_sX6_tick_1]; exact hD.sub [0, 1] (by decide) rfl
    have hK9 : va_K (dC, dI) cls [(w_ticksC, .int)] s := hK.sub [0] rfl
    refine W.widen (k := 0) (n := 0) (Nat.le_of_ble_eq_true rfl) (Nat.le_of_ble_eq_true rfl) ?_
    exact W.vret hx hb hr (fun t ht hW => ⟨⟨(), rfl, trivial, ⟨by rw [ht]; exact hP9, va_K.moved hW.alike hK9, hD9⟩⟩, hS.F ht⟩) hS.2.2 dX6_tick_17
