abbrev cX11_errorAt : ByteArray := prog_1_method_5_code
def yX11_errorAt : MethodName := ⟨RX11, "errorAt", "()I"⟩
abbrev cX11_restore : ByteArray := prog_1_method_6_code
def yX11_restore : MethodName := ⟨RX11, "restore", "()I"⟩
abbrev cX11_functions : ByteArray := prog_1_method_7_code
def yX11_functions : MethodName := ⟨RX11, "functions", "()I"⟩
abbrev cX11_fold : ByteArray := prog_1_method_27_code
def yX11_fold : MethodName := ⟨RX11, "fold", "()I"⟩
abbrev cX11_same : ByteArray := prog_1_method_28_code
def yX11_same : MethodName := ⟨RX11, "same", "()I"⟩
abbrev cX11_drop : ByteArray := prog_1_method_29_code
def yX11_drop : MethodName := ⟨RX11, "drop", "()I"⟩
abbrev cX11_lift : ByteArray := prog_1_method_30_code
def yX11_lift : MethodName := ⟨RX11, "lift", "()I"⟩
abbrev cX11_merge : ByteArray := prog_1_method_31_code
def yX11_merge : MethodName := ⟨RX11, "merge", "()I"⟩
abbrev cX11_settle : ByteArray := prog_1_method_32_code
def yX11_settle : MethodName := ⟨RX11, "settle", "()I"⟩
abbrev cX11_outcome : ByteArray := prog_1_method_43_code
def yX11_outcome : MethodName := ⟨RX11, "outcome", "()I"⟩
abbrev cX11_result : ByteArray := prog_1_method_44_code
def yX11_result : MethodName := ⟨RX11, "result", "()I"⟩
abbrev cX11_stepsRun : ByteArray := prog_1_method_45_code
def yX11_stepsRun : MethodName := ⟨RX11, "stepsRun", "()I"⟩
theorem dX11_drop_0 : decode cX11_drop 0 = .ok (.iconst 0, 1) := by decide +kernel
theorem dX11_drop_1 : decode cX11_drop 1 = .ok (.istore_n 1, 1) := by decide +kernel
theorem dX11_drop_2 : decode cX11_drop 2 = .ok (.iconst 0, 1) := by decide +kernel
theorem dX11_drop_3 : decode cX11_drop 3 = .ok (.istore_n 2, 1) := by decide +kernel
theorem dX11_drop_4 : decode cX11_drop 4 = .ok (.iload_n 2, 1) := by decide +kernel
theorem dX11_drop_5 : decode cX11_drop 5 = .ok (.aload_n 0, 1) := by decide +kernel
theorem dX11_drop_6 : decode cX11_drop 6 = .ok (.getfield 61, 3) := by decide +kernel
theorem dX11_drop_9 : decode cX11_drop 9 = .ok (.getfield 112, 3) := by decide +kernel
theorem dX11_drop_12 : decode cX11_drop 12 = .ok (.if_icmp .ge 25, 3) := by decide +kernel
theorem dX11_drop_37 : decode cX11_drop 37 = .ok (.iload_n 1, 1) := by decide +kernel
theorem dX11_drop_38 : decode cX11_drop 38 = .ok (.ireturn, 1) := by decide +kernel
theorem dX11_errorAt_0 : decode cX11_errorAt 0 = .ok (.aload_n 0, 1) := by decide +kernel
theorem dX11_errorAt_1 : decode cX11_errorAt 1 = .ok (.getfield 82, 3) := by decide +kernel
theorem dX11_errorAt_4 : decode cX11_errorAt 4 = .ok (.ireturn, 1) := by decide +kernel
theorem dX11_fold_0 : decode cX11_fold 0 = .ok (.iconst 0, 1) := by decide +kernel
theorem dX11_fold_1 : decode cX11_fold 1 = .ok (.istore_n 1, 1) := by decide +kernel
theorem dX11_fold_2 : decode cX11_fold 2 = .ok (.iconst 0, 1) := by decide +kernel
theorem dX11_fold_3 : decode cX11_fold 3 = .ok (.istore_n 2, 1) := by decide +kernel
theorem dX11_fold_4 : decode cX11_fold 4 = .ok (.iload_n 2, 1) := by decide +kernel
theorem dX11_fold_5 : decode cX11_fold 5 = .ok (.aload_n 0, 1) := by decide +kernel
theorem dX11_fold_6 : decode cX11_fold 6 = .ok (.getfield 61, 3) := by decide +kernel
theorem dX11_fold_9 : decode cX11_fold 9 = .ok (.getfield 112, 3) := by decide +kernel
theorem dX11_fold_12 : decode cX11_fold 12 = .ok (.if_icmp .ge 25, 3) := by decide +kernel
theorem dX11_fold_37 : decode cX11_fold 37 = .ok (.iload_n 1, 1) := by decide +kernel
theorem dX11_fold_38 : decode cX11_fold 38 = .ok (.ireturn, 1) := by decide +kernel
theorem dX11_functions_0 : decode cX11_functions 0 = .ok (.aload_n 0, 1) := by decide +kernel
theorem dX11_functions_1 : decode cX11_functions 1 = .ok (.getfield 61, 3) := by decide +kernel
theorem dX11_functions_4 : decode cX11_functions 4 = .ok (.getfield 112, 3) := by decide +kernel
theorem dX11_functions_7 : decode cX11_functions 7 = .ok (.ireturn, 1) := by decide +kernel
theorem dX11_lift_0 : decode cX11_lift 0 = .ok (.iconst 0, 1) := by decide +kernel
theorem dX11_lift_1 : decode cX11_lift 1 = .ok (.istore_n 1, 1) := by decide +kernel
theorem dX11_lift_2 : decode cX11_lift 2 = .ok (.iconst 0, 1) := by decide +kernel
theorem dX11_lift_3 : decode cX11_lift 3 = .ok (.istore_n 2, 1) := by decide +kernel
theorem dX11_lift_4 : decode cX11_lift 4 = .ok (.iload_n 2, 1) := by decide +kernel
theorem dX11_lift_5 : decode cX11_lift 5 = .ok (.aload_n 0, 1) := by decide +kernel
theorem dX11_lift_6 : decode cX11_lift 6 = .ok (.getfield 61, 3) := by decide +kernel
theorem dX11_lift_9 : decode cX11_lift 9 = .ok (.getfield 112, 3) := by decide +kernel
theorem dX11_lift_12 : decode cX11_lift 12 = .ok (.if_icmp .ge 25, 3) := by decide +kernel
theorem dX11_lift_37 : decode cX11_lift 37 = .ok (.iload_n 1, 1) := by decide +kernel
theorem dX11_lift_38 : decode cX11_lift 38 = .ok (.ireturn, 1) := by decide +kernel
theorem dX11_merge_0 : decode cX11_merge 0 = .ok (.iconst 0, 1) := by decide +kernel
theorem dX11_merge_1 : decode cX11_merge 1 = .ok (.istore_n 1, 1) := by decide +kernel
theorem dX11_merge_2 : decode cX11_merge 2 = .ok (.iconst 0, 1) := by decide +kernel
theorem dX11_merge_3 : decode cX11_merge 3 = .ok (.istore_n 2, 1) := by decide +kernel
theorem dX11_merge_4 : decode cX11_merge 4 = .ok (.iload_n 2, 1) := by decide +kernel
theorem dX11_merge_5 : decode cX11_merge 5 = .ok (.aload_n 0, 1) := by decide +kernel
theorem dX11_merge_6 : decode cX11_merge 6 = .ok (.getfield 61, 3) := by decide +kernel
theorem dX11_merge_9 : decode cX11_merge 9 = .ok (.getfield 112, 3) := by decide +kernel
theorem dX11_merge_12 : decode cX11_merge 12 = .ok (.if_icmp .ge 25, 3) := by decide +kernel
theorem dX11_merge_37 : decode cX11_merge 37 = .ok (.iload_n 1, 1) := by decide +kernel
theorem dX11_merge_38 : decode cX11_merge 38 = .ok (.ireturn, 1) := by decide +kernel
theorem dX11_outcome_0 : decode cX11_outcome 0 = .ok (.aload_n 0, 1) := by decide +kernel
theorem dX11_outcome_1 : decode cX11_outcome 1 = .ok (.getfield 73, 3) := by decide +kernel
theorem dX11_outcome_4 : decode cX11_outcome 4 = .ok (.getfield 295, 3) := by decide +kernel
theorem dX11_outcome_7 : decode cX11_outcome 7 = .ok (.ireturn, 1) := by decide +kernel
theorem dX11_restore_0 : decode cX11_restore 0 = .ok (.iconst 0, 1) := by decide +kernel
theorem dX11_restore_1 : decode cX11_restore 1 = .ok (.istore_n 1, 1) := by decide +kernel
theorem dX11_restore_2 : decode cX11_restore 2 = .ok (.iconst 0, 1) := by decide +kernel
theorem dX11_restore_3 : decode cX11_restore 3 = .ok (.istore_n 2, 1) := by decide +kernel
theorem dX11_restore_4 : decode cX11_restore 4 = .ok (.iload_n 2, 1) := by decide +kernel
theorem dX11_restore_5 : decode cX11_restore 5 = .ok (.aload_n 0, 1) := by decide +kernel
theorem dX11_restore_6 : decode cX11_restore 6 = .ok (.getfield 61, 3) := by decide +kernel
theorem dX11_restore_9 : decode cX11_restore 9 = .ok (.getfield 112, 3) := by decide +kernel
theorem dX11_restore_12 : decode cX11_restore 12 = .ok (.if_icmp .ge 40, 3) := by decide +kernel
theorem dX11_restore_52 : decode cX11_restore 52 = .ok (.aload_n 0, 1) := by decide +kernel
theorem dX11_restore_53 : decode cX11_restore 53 = .ok (.getfield 54, 3) := by decide +kernel
theorem dX11_restore_56 : decode cX11_restore 56 = .ok (.iconst 0, 1) := by decide +kernel
theorem dX11_restore_57 : decode cX11_restore 57 = .ok (.putfield 138, 3) := by decide +kernel
theorem dX11_restore_60 : decode cX11_restore 60 = .ok (.iload_n 1, 1) := by decide +kernel
theorem dX11_restore_61 : decode cX11_restore 61 = .ok (.ireturn, 1) := by decide +kernel
theorem dX11_result_0 : decode cX11_result 0 = .ok (.aload_n 0, 1) := by decide +kernel
theorem dX11_result_1 : decode cX11_result 1 = .ok (.getfield 73, 3) := by decide +kernel
theorem dX11_result_4 : decode cX11_result 4 = .ok (.getfield 298, 3) := by decide +kernel
theorem dX11_result_7 : decode cX11_result 7 = .ok (.ireturn, 1) := by decide +kernel
theorem dX11_same_0 : decode cX11_same 0 = .ok (.iconst 0, 1) := by decide +kernel
theorem dX11_same_1 : decode cX11_same 1 = .ok (.istore_n 1, 1) := by decide +kernel
theorem dX11_same_2 : decode cX11_same 2 = .ok (.iconst 0, 1) := by decide +kernel
theorem dX11_same_3 : decode cX11_same 3 = .ok (.istore_n 2, 1) := by decide +kernel
theorem dX11_same_4 : decode cX11_same 4 = .ok (.iload_n 2, 1) := by decide +kernel
theorem dX11_same_5 : decode cX11_same 5 = .ok (.aload_n 0, 1) := by decide +kernel
theorem dX11_same_6 : decode cX11_same 6 = .ok (.getfield 61, 3) := by decide +kernel
theorem dX11_same_9 : decode cX11_same 9 = .ok (.getfield 112, 3) := by decide +kernel
theorem dX11_same_12 : decode cX11_same 12 = .ok (.if_icmp .ge 25, 3) := by decide +kernel
theorem dX11_same_37 : decode cX11_same 37 = .ok (.iload_n 1, 1) := by decide +kernel
theorem dX11_same_38 : decode cX11_same 38 = .ok (.ireturn, 1) := by decide +kernel
theorem dX11_settle_0 : decode cX11_settle 0 = .ok (.iconst 0, 1) := by decide +kernel
theorem dX11_settle_1 : decode cX11_settle 1 = .ok (.istore_n 1, 1) := by decide +kernel
theorem dX11_settle_2 : decode cX11_settle 2 = .ok (.iconst 1, 1) := by decide +kernel
theorem dX11_settle_3 : decode cX11_settle 3 = .ok (.istore_n 2, 1) := by decide +kernel
theorem dX11_settle_4 : decode cX11_settle 4 = .ok (.iconst 0, 1) := by decide +kernel
theorem dX11_settle_5 : decode cX11_settle 5 = .ok (.istore_n 3, 1) := by decide +kernel
theorem dX11_settle_6 : decode cX11_settle 6 = .ok (.iload_n 2, 1) := by decide +kernel
theorem dX11_settle_7 : decode cX11_settle 7 = .ok (.ifCond .eq 71, 3) := by decide +kernel
theorem dX11_settle_10 : decode cX11_settle 10 = .ok (.iload_n 3, 1) := by decide +kernel
theorem dX11_settle_11 : decode cX11_settle 11 = .ok (.ldc 244, 2) := by decide +kernel
theorem dX11_settle_13 : decode cX11_settle 13 = .ok (.if_icmp .ge 65, 3) := by decide +kernel
theorem dX11_settle_16 : decode cX11_settle 16 = .ok (.aload_n 0, 1) := by decide +kernel
theorem dX11_settle_17 : decode cX11_settle 17 = .ok (.invokevirtual 245, 3) := by decide +kernel
theorem dX11_settle_20 : decode cX11_settle 20 = .ok (.istore 4, 2) := by decide +kernel
theorem dX11_settle_22 : decode cX11_settle 22 = .ok (.iload 4, 2) := by decide +kernel
theorem dX11_settle_24 : decode cX11_settle 24 = .ok (.aload_n 0, 1) := by decide +kernel
theorem dX11_settle_25 : decode cX11_settle 25 = .ok (.invokevirtual 248, 3) := by decide +kernel
theorem dX11_settle_28 : decode cX11_settle 28 = .ok (.iadd, 1) := by decide +kernel
theorem dX11_settle_29 : decode cX11_settle 29 = .ok (.istore 4, 2) := by decide +kernel
theorem dX11_settle_31 : decode cX11_settle 31 = .ok (.iload 4, 2) := by decide +kernel
theorem dX11_settle_33 : decode cX11_settle 33 = .ok (.aload_n 0, 1) := by decide +kernel
theorem dX11_settle_34 : decode cX11_settle 34 = .ok (.invokevirtual 251, 3) := by decide +kernel
theorem dX11_settle_37 : decode cX11_settle 37 = .ok (.iadd, 1) := by decide +kernel
theorem dX11_settle_38 : decode cX11_settle 38 = .ok (.istore 4, 2) := by decide +kernel
theorem dX11_settle_40 : decode cX11_settle 40 = .ok (.iload 4, 2) := by decide +kernel
theorem dX11_settle_42 : decode cX11_settle 42 = .ok (.aload_n 0, 1) := by decide +kernel
theorem dX11_settle_43 : decode cX11_settle 43 = .ok (.invokevirtual 254, 3) := by decide +kernel
theorem dX11_settle_46 : decode cX11_settle 46 = .ok (.iadd, 1) := by decide +kernel
theorem dX11_settle_47 : decode cX11_settle 47 = .ok (.istore 4, 2) := by decide +kernel
theorem dX11_settle_49 : decode cX11_settle 49 = .ok (.iload 4, 2) := by decide +kernel
theorem dX11_settle_51 : decode cX11_settle 51 = .ok (.aload_n 0, 1) := by decide +kernel
theorem dX11_settle_52 : decode cX11_settle 52 = .ok (.invokevirtual 257, 3) := by decide +kernel
theorem dX11_settle_55 : decode cX11_settle 55 = .ok (.iadd, 1) := by decide +kernel
theorem dX11_settle_56 : decode cX11_settle 56 = .ok (.istore 4, 2) := by decide +kernel
theorem dX11_settle_58 : decode cX11_settle 58 = .ok (.iload 4, 2) := by decide +kernel
theorem dX11_settle_60 : decode cX11_settle 60 = .ok (.ifCond .le 7, 3) := by decide +kernel
theorem dX11_settle_67 : decode cX11_settle 67 = .ok (.iconst 0, 1) := by decide +kernel
theorem dX11_settle_68 : decode cX11_settle 68 = .ok (.istore_n 2, 1) := by decide +kernel
theorem dX11_settle_69 : decode cX11_settle 69 = .ok (.iinc 1 1, 3) := by decide +kernel
theorem dX11_settle_72 : decode cX11_settle 72 = .ok (.iinc 3 1, 3) := by decide +kernel
theorem dX11_settle_75 : decode cX11_settle 75 = .ok (.goto (-69), 3) := by decide +kernel
theorem dX11_settle_78 : decode cX11_settle 78 = .ok (.iload_n 1, 1) := by decide +kernel
theorem dX11_settle_79 : decode cX11_settle 79 = .ok (.ireturn, 1) := by decide +kernel
theorem dX11_stepsRun_0 : decode cX11_stepsRun 0 = .ok (.aload_n 0, 1) := by decide +kernel
theorem dX11_stepsRun_1 : decode cX11_stepsRun 1 = .ok (.getfield 73, 3) := by decide +kernel
theorem dX11_stepsRun_4 : decode cX11_stepsRun 4 = .ok (.getfield 301, 3) := by decide +kernel
theorem dX11_stepsRun_7 : decode cX11_stepsRun 7 = .ok (.ireturn, 1) := by decide +kernel
theorem qw215 : Cond.fieldLink RX11 112 "Gearbox$Program" "functions" "I" ∈ gw := mq_3 (i := 164) rfl rfl
theorem qw216 : Cond.fieldLink RX11 138 "Gearbox$Allocator" "hasCode" "Z" ∈ gw := mq_3 (i := 109) rfl rfl
theorem qw217 : Cond.constant RX11 244 (1000000) ∈ gw := mq_8 (i := 168) rfl rfl
theorem qw218 : Cond.code yX11_fold cX11_fold 3 (Option.some Jvm.ClassFile.FieldType.int) ∈ gw := mq_7 (i := 183) rfl rfl
theorem qw219 : Cond.methodLink RX11 245 yX11_fold ∈ gw := mq_8 (i := 169) rfl rfl
theorem qw220 : Cond.instanceMethod yX11_fold ∈ gw := mq_7 (i := 181) rfl rfl
theorem qw221 : Cond.selects RX11 yX11_fold yX11_fold ∈ gw := mq_7 (i := 182) rfl rfl
theorem qw222 : Cond.initialized RX11 ∈ gw := mq_1 (i := 1) rfl rfl
theorem qw223 : Cond.code yX11_same cX11_same 3 (Option.some Jvm.ClassFile.FieldType.int) ∈ gw := mq_8 (i := 10) rfl rfl
theorem qw224 : Cond.methodLink RX11 248 yX11_same ∈ gw := mq_8 (i := 170) rfl rfl
theorem qw225 : Cond.instanceMethod yX11_same ∈ gw := mq_8 (i := 8) rfl rfl
theorem qw226 : Cond.selects RX11 yX11_same yX11_same ∈ gw := mq_8 (i := 9) rfl rfl
theorem qw227 : Cond.code yX11_drop cX11_drop 3 (Option.some Jvm.ClassFile.FieldType.int) ∈ gw := mq_8 (i := 92) rfl rfl
theorem qw228 : Cond.methodLink RX11 251 yX11_drop ∈ gw := mq_8 (i := 171) rfl rfl
theorem qw229 : Cond.instanceMethod yX11_drop ∈ gw := mq_8 (i := 90) rfl rfl
theorem qw230 : Cond.selects RX11 yX11_drop yX11_drop ∈ gw := mq_8 (i := 91) rfl rfl
theorem qw231 : Cond.code yX11_lift cX11_lift 3 (Option.some Jvm.ClassFile.FieldType.int) ∈ gw := mq_8 (i := 128) rfl rfl
theorem qw232 : Cond.methodLink RX11 254 yX11_lift ∈ gw := mq_8 (i := 172) rfl rfl
theorem qw233 : Cond.instanceMethod yX11_lift ∈ gw := mq_8 (i := 126) rfl rfl
theorem qw234 : Cond.selects RX11 yX11_lift yX11_lift ∈ gw := mq_8 (i := 127) rfl rfl
theorem qw235 : Cond.code yX11_merge cX11_merge 3 (Option.some Jvm.ClassFile.FieldType.int) ∈ gw := mq_8 (i := 147) rfl rfl
theorem qw236 : Cond.methodLink RX11 257 yX11_merge ∈ gw := mq_8 (i := 173) rfl rfl
theorem qw237 : Cond.instanceMethod yX11_merge ∈ gw := mq_8 (i := 145) rfl rfl
theorem qw238 : Cond.selects RX11 yX11_merge yX11_merge ∈ gw := mq_8 (i := 146) rfl rfl
theorem qw239 : Cond.fieldLink RX11 295 "Gearbox$Machine" "outcome" "I" ∈ gw := mq_3 (i := 234) rfl rfl
theorem qw240 : Cond.fieldLink RX11 298 "Gearbox$Machine" "result" "I" ∈ gw := mq_3 (i := 236) rfl rfl
theorem qw241 : Cond.fieldLink RX11 301 "Gearbox$Machine" "steps" "I" ∈ gw := mq_3 (i := 238) rfl rfl
set_option maxHeartbeats 4000000 in
set_option maxRecDepth 100000 in
theorem kX11_errorAt {zs : Nat × Nat} (l : Launch) (dC : Nat → ClassId) (dI : Nat → Nat → Nat) (gx : Nat) (gq1 : Nat) (gq4 : Nat) (gq13 : Nat) (gq136 : Nat) (gq137 : Nat) (gq138 : Nat) (gq150 : Nat) (gq161 : Nat) (gq172 : Nat) (gq184 : Nat) (sz : Nat)  : Met l yX11_errorAt (wz yX11_errorAt cX11_errorAt 1 (Option.some Jvm.ClassFile.FieldType.int)) ({ frames := 0, cells := 0, slots := 0, locals := 0 }) (va_Pc [.ref gx] (PRE zs dC dI [(gx, .inr (11, [.ref gq1, .ref gq4, .ref gq13, .ref gq136, .ref gq137, .ref gq138, .ref gq172, .ref gq184, .ref gq150, .ref gq161, .int (-1)]))] [] sz)) (va_Qi (fun (r : Int32) (_ : Unit) => r = (-1)) (fun _ t => POST dC dI [(gx, .inr (11, [.ref gq1, .ref gq4, .ref gq13, .ref gq136, .ref gq137, .ref gq138, .ref gq172, .ref gq184, .ref gq150, .ref gq161, .int (-1)]))] [] (va_A [(gx, .inr (11, [.ref gq1, .ref gq4, .ref gq13, .ref gq136, .ref gq137, .ref gq138, .ref gq172, .ref gq184, .ref gq150, .ref gq161, .int (-1)]))] sz) t) (va_A [(gx, .inr (11, [.ref gq1, .ref gq4, .ref gq13, .ref gq136, .ref gq137, .ref gq138, .ref gq172, .ref gq184, .ref gq150, .ref gq161, .int (-1)]))] sz)) 0 0 (va_A [(gx, .inr (11, [.ref gq1, .ref gq4, .ref gq13, .ref gq136, .ref gq137, .ref gq138, .ref gq172, .ref gq184, .ref gq150, .ref gq161, .int (-1)]))] sz) := by
  refine Met.ofW (cc := cX11_errorAt) (maxL := 1) (ret := (Option.some Jvm.ClassFile.FieldType.int)) (by decide) rfl ?_
  intro p e s m args below meth c s₁ B hml hv
  obtain ⟨rfl, hsz, hP, hK, hD0, hE⟩ := hv
  have hx := B.exec
  have hb := B.bytes
  have hr := B.returns
  have hts0 := atoms_spec (ws := wz yX11_errorAt cX11_errorAt 1 (Option.some Jvm.ClassFile.FieldType.int)) B.pre
  have hts : ∀ w ∈ gw, w.before _ s = true := fun w h => hts0 w (List.mem_cons_of_mem _ h)
  have hown : s.vm.findClass RX11 = some m.cls := findClass_of_methodNamed B.named
  have hlocks := B.notSynchronized
  subst hsz
  have hD := hD0.self (sz := s.heap.size)
  generalize hAe : va_A [(gx, .inr (11, [.ref gq1, .ref gq4, .ref gq13, .ref gq136, .ref gq137, .ref gq138, .ref gq172, .ref gq184, .ref gq150, .ref gq161, .int (-1)]))] s.heap.size = A at hD hE ⊢
  have hA : ∀ q : Nat, s.heap.size ≤ q → A q := fun q h => by rw [← hAe]; exact Or.inr h
  have hS : va_S A s.heap s.heap [] := va_S.rf
  have hP : va_P (dC, dI) cls [(gx, .inr (11, [.ref gq1, .ref gq4, .ref gq13, .ref gq136, .ref gq137, .ref gq138, .ref gq172, .ref gq184, .ref gq150, .ref gq161, .int (-1)]))] s.heap := hP
  have hl := lv_entry ([.ref gx]) (n := 1) (Nat.le_of_ble_eq_true rfl)
  rw [lg_entry_eq]
  generalize (lg_sl ([.ref gx]) ++ List.replicate (1 - (lg_sl ([.ref gx])).length) Slot.unset).toArray = ls at hl ⊢
  have hl : lv_has ls 1 [(0, .ref gx)] := hl
  refine lv_aload_n hx hb dX11_errorAt_0 rfl (lv_at hl 0 rfl) ?_
  refine va_get (D := (dC, dI)) (ci := 11) (v := .int (-1)) (C := RX11) (T := TX11) (N := 11) hx hb hts i_X11 hown hK hP 0 rfl rfl 10 (by decide) (hts _ qw206) (fun _ h9 => h9) rfl dX11_errorAt_1 ?_
  have hP9 : va_P (dC, dI) cls [(gx, .inr (11, [.ref gq1, .ref gq4, .ref gq13, .ref gq136, .ref gq137, .ref gq138, .ref gq172, .ref gq184, .ref gq150, .ref gq161, .int (-1)]))] s.heap := hP.sub [0] rfl
  have hD9 : va_D A [(gx, .inr (11, [.ref gq1, .ref gq4, .ref gq13, .ref gq136, .ref gq137, .ref gq138, .ref gq172, .ref gq184, .ref gq150, .ref gq161, .int (-1)]))] := hD.sub [0] (by decide) rfl
  have hK9 : va_K (dC, dI) cls [] s := hK.sub [] rfl
  exact W.iret (v := (-1)) hx hb hr (fun t ht hW => ⟨⟨(-1), (), rfl, rfl, ⟨by rw [ht]; exact hP9, va_K.moved hW.alike hK9, hD9⟩⟩, hS.F ht⟩) hS.2.2 dX11_errorAt_4
set_option maxHeartbeats 4000000 in
set_option maxRecDepth 100000 in
theorem kX11_restore {zs : Nat × Nat} (l : Launch) (dC : Nat → ClassId) (dI : Nat → Nat → Nat) (gx : Nat) (gq1 : Nat) (gq4 : Nat) (gq13 : Nat) (gq136 : Nat) (gq137 : Nat) (gq138 : Nat) (gq139 : Nat) (gq140 : Nat) (gq141 : Nat) (gq142 : Nat) (gq143 : Nat) (gq144 : Nat) (gq145 : Nat) (gq146 : Nat) (gq147 : Nat) (gq148 : Nat) (gq149 : Nat) (gq150 : Nat) (gq151 : Nat) (gq152 : Nat) (gq153 : Nat) (gq154 : Nat) (gq155 : Nat) (gq156 : Nat) (gq157 : Nat) (gq158 : Nat) (gq159 : Nat) (gq160 : Nat) (gq161 : Nat) (gq172 : Nat) (gq184 : Nat) (sz : Nat)  : Met l yX11_restore (wz yX11_restore cX11_restore 3 (Option.some Jvm.ClassFile.FieldType.int)) ({ frames := 0, cells := 0, slots := 0, locals := 0 }) (va_Pc [.ref gx] (PRE zs dC dI [(gx, .inr (11, [.ref gq1, .ref gq4, .ref gq13, .ref gq136, .ref gq137, .ref gq138, .ref gq172, .ref gq184, .ref gq150, .ref gq161, .int (-1)])), (gq138, .inr (8, [.ref gq139, .ref gq140, .ref gq141, .ref gq142, .ref gq143, .int 0, .ref gq144, .int 0, .int 0, .int 0, .int 0, .int 0, .ref gq145, .ref gq146, .ref gq147, .ref gq148, .ref gq149])), (gq150, .inr (2, [.int 0, .ref gq151, .ref gq152, .ref gq153, .ref gq154, .ref gq155, .ref gq156, .int 0, .ref gq157, .ref gq158, .ref gq159, .int 0, .ref gq160]))] [] sz)) (va_Qi (fun (r : Int32) (_ : Unit) => r = 0) (fun _ t => POST dC dI [(gx, .inr (11, [.ref gq1, .ref gq4, .ref gq13, .ref gq136, .ref gq137, .ref gq138, .ref gq172, .ref gq184, .ref gq150, .ref gq161, .int (-1)])), (gq138, .inr (8, [.ref gq139, .ref gq140, .ref gq141, .ref gq142, .ref gq143, .int 0, .ref gq144, .int 0, .int 0, .int 0, .int 0, .int 0, .ref gq145, .ref gq146, .ref gq147, .ref gq148, .ref gq149])), (gq150, .inr (2, [.int 0, .ref gq151, .ref gq152, .ref gq153, .ref gq154, .ref gq155, .ref gq156, .int 0, .ref gq157, .ref gq158, .ref gq159, .int 0, .ref gq160]))] [] (va_A [(gx, .inr (11, [.ref gq1, .ref gq4, .ref gq13, .ref gq136, .ref gq137, .ref gq138, .ref gq172, .ref gq184, .ref gq150, .ref gq161, .int (-1)])), (gq138, .inr (8, [.ref gq139, .ref gq140, .ref gq141, .ref gq142, .ref gq143, .int 0, .ref gq144, .int 0, .int 0, .int 0, .int 0, .int 0, .ref gq145, .ref gq146, .ref gq147, .ref gq148, .ref gq149])), (gq150, .inr (2, [.int 0, .ref gq151, .ref gq152, .ref gq153, .ref gq154, .ref gq155, .ref gq156, .int 0, .ref gq157, .ref gq158, .ref gq159, .int 0, .ref gq160]))] sz) t) (va_A [(gx, .inr (11, [.ref gq1, .ref gq4, .ref gq13, .ref gq136, .ref gq137, .ref gq138, .ref gq172, .ref gq184, .ref gq150, .ref gq161, .int (-1)])), (gq138, .inr (8, [.ref gq139, .ref gq140, .ref gq141, .ref gq142, .ref gq143, .int 0, .ref gq144, .int 0, .int 0, .int 0, .int 0, .int 0, .ref gq145, .ref gq146, .ref gq147, .ref gq148, .ref gq149])), (gq150, .inr (2, [.int 0, .ref gq151, .ref gq152, .ref gq153, .ref gq154, .ref gq155, .ref gq156, .int 0, .ref gq157, .ref gq158, .ref gq159, .int 0, .ref gq160]))] sz)) 0 0 (va_A [(gx, .inr (11, [.ref gq1, .ref gq4, .ref gq13, .ref gq136, .ref gq137, .ref gq138, .ref gq172, .ref gq184, .ref gq150, .ref gq161, .int (-1)])), (gq138, .inr (8, [.ref gq139, .ref gq140, .ref gq141, .ref gq142, .ref gq143, .int 0, .ref gq144, .int 0, .int 0, .int 0, .int 0, .int 0, .ref gq145, .ref gq146, .ref gq147, .ref gq148, .ref gq149])), (gq150, .inr (2, [.int 0, .ref gq151, .ref gq152, .ref gq153, .ref gq154, .ref gq155, .ref gq156, .int 0, .ref gq157, .ref gq158, .ref gq159, .int 0, .ref gq160]))] sz) := by
  refine Met.ofW (cc := cX11_restore) (maxL := 3) (ret := (Option.some Jvm.ClassFile.FieldType.int)) (by decide) rfl ?_
  intro p e s m args below meth c s₁ B hml hv
  obtain ⟨rfl, hsz, hP, hK, hD0, hE⟩ := hv
  have hx := B.exec
  have hb := B.bytes
  have hr := B.returns
  have hts0 := atoms_spec (ws := wz yX11_restore cX11_restore 3 (Option.some Jvm.ClassFile.FieldType.int)) B.pre
  have hts : ∀ w ∈ gw, w.before _ s = true := fun w h => hts0 w (List.mem_cons_of_mem _ h)
  have hown : s.vm.findClass RX11 = some m.cls := findClass_of_methodNamed B.named
  have hlocks := B.notSynchronized
  subst hsz
  have hD := hD0.self (sz := s.heap.size)
  generalize hAe : va_A [(gx, .inr (11, [.ref gq1, .ref gq4, .ref gq13, .ref gq136, .ref gq137, .ref gq138, .ref gq172, .ref gq184, .ref gq150, .ref gq161, .int (-1)])), (gq138, .inr (8, [.ref gq139, .ref gq140, .ref gq141, .ref gq142, .ref gq143, .int 0, .ref gq144, .int 0, .int 0, .int 0, .int 0, .int 0, .ref gq145, .ref gq146, .ref gq147, .ref gq148, .ref gq149])), (gq150, .inr (2, [.int 0, .ref gq151, .ref gq152, .ref gq153, .ref gq154, .ref gq155, .ref gq156, .int 0, .ref gq157, .ref gq158, .ref gq159, .int 0, .ref gq160]))] s.heap.size = A at hD hE ⊢
  have hA : ∀ q : Nat, s.heap.size ≤ q → A q := fun q h => by rw [← hAe]; exact Or.inr h
  have hS : va_S A s.heap s.heap [] := va_S.rf
  have hP : va_P (dC, dI) cls [(gx, .inr (11, [.ref gq1, .ref gq4, .ref gq13, .ref gq136, .ref gq137, .ref gq138, .ref gq172, .ref gq184, .ref gq150, .ref gq161, .int (-1)])), (gq138, .inr (8, [.ref gq139, .ref gq140, .ref gq141, .ref gq142, .ref gq143, .int 0, .ref gq144, .int 0, .int 0, .int 0, .int 0, .int 0, .ref gq145, .ref gq146, .ref gq147, .ref gq148, .ref gq149])), (gq150, .inr (2, [.int 0, .ref gq151, .ref gq152, .ref gq153, .ref gq154, .ref gq155, .ref gq156, .int 0, .ref gq157, .ref gq158, .ref gq159, .int 0, .ref gq160]))] s.heap := hP
  have hl := lv_entry ([.ref gx]) (n := 3) (Nat.le_of_ble_eq_true rfl)
  rw [lg_entry_eq]
  generalize (lg_sl ([.ref gx]) ++ List.replicate (3 - (lg_sl ([.ref gx])).length) Slot.unset).toArray = ls at hl ⊢
  have hl : lv_has ls 3 [(0, .ref gx)] := hl
  refine lv_iconst (v := 0) hx hb dX11_restore_0 (by decide) ?_
  refine lv_istore_n (lv' := [(1, .int 0), (0, .ref gx)]) hx hb dX11_restore_1 rfl hl (by decide) rfl (fun ls hl => ?_)
  refine lv_iconst (v := 0) hx hb dX11_restore_2 (by decide) ?_
  refine lv_istore_n (lv' := [(2, .int 0), (1, .int 0), (0, .ref gx)]) hx hb dX11_restore_3 rfl hl (by decide) rfl (fun ls hl => ?_)
  refine lv_iload_n hx hb dX11_restore_4 rfl (lv_at hl 0 rfl) ?_
  refine lv_aload_n hx hb dX11_restore_5 rfl (lv_at hl 2 rfl) ?_
  refine va_get (D := (dC, dI)) (ci := 11) (v := .ref gq150) (C := RX11) (T := TX11) (N := 11) hx hb hts i_X11 hown hK hP 0 rfl rfl 8 (by decide) (hts _ qw195) (fun _ h9 => h9) rfl dX11_restore_6 ?_
  refine va_get (D := (dC, dI)) (ci := 2) (v := .int 0) (C := RX6) (T := TX6) (N := 13) hx hb hts i_X6 hown hK hP 2 rfl rfl 0 (by decide) (hts _ qw215) (fun _ h9 => h9) rfl dX11_restore_9 ?_
  refine lv_icmp_ge (tgt := 52) hx hb dX11_restore_12 (by decide) (fun _ => ?_) (fun c => absurd (by decide) c)
  refine lv_aload_n hx hb dX11_restore_52 rfl (lv_at hl 2 rfl) ?_
  refine va_get (D := (dC, dI)) (ci := 11) (v := .ref gq138) (C := RX11) (T := TX11) (N := 11) hx hb hts i_X11 hown hK hP 0 rfl rfl 5 (by decide) (hts _ qw189) (fun _ h9 => h9) rfl dX11_restore_53 ?_
  refine lv_iconst (v := 0) hx hb dX11_restore_56 (by decide) ?_
  refine va_put (D := (dC, dI)) (ci := 8) (v := .int 0) (ty := .boolean) (C := RX0) (T := TX0) (N := 17) hx hb hts i_X0 tyX0 tyX0_ok nmX0 hown hK hP hD hS 1 rfl rfl 5 (by decide) (hts _ qw216) (fun _ h9 => h9) rfl (by decide +kernel) rfl rfl (Nat.le_of_ble_eq_true rfl) dX11_restore_57 (fun H locs hP hD hS => ?_)
  have hP : va_P (dC, dI) cls [(gx, .inr (11, [.ref gq1, .ref gq4, .ref gq13, .ref gq136, .ref gq137, .ref gq138, .ref gq172, .ref gq184, .ref gq150, .ref gq161, .int (-1)])), (gq138, .inr (8, [.ref gq139, .ref gq140, .ref gq141, .ref gq142, .ref gq143, .int 0, .ref gq144, .int 0, .int 0, .int 0, .int 0, .int 0, .ref gq145, .ref gq146, .ref gq147, .ref gq148, .ref gq149])), (gq150, .inr (2, [.int 0, .ref gq151, .ref gq152, .ref gq153, .ref gq154, .ref gq155, .ref gq156, .int 0, .ref gq157, .ref gq158, .ref gq159, .int 0, .ref gq160]))] H := hP
  have hD : va_D A [(gx, .inr (11, [.ref gq1, .ref gq4, .ref gq13, .ref gq136, .ref gq137, .ref gq138, .ref gq172, .ref gq184, .ref gq150, .ref gq161, .int (-1)])), (gq138, .inr (8, [.ref gq139, .ref gq140, .ref gq141, .ref gq142, .ref gq143, .int 0, .ref gq144, .int 0, .int 0, .int 0, .int 0, .int 0, .ref gq145, .ref gq146, .ref gq147, .ref gq148, .ref gq149])), (gq150, .inr (2, [.int 0, .ref gq151, .ref gq152, .ref gq153, .ref gq154, .ref gq155, .ref gq156, .int 0, .ref gq157, .ref gq158, .ref gq159, .int 0, .ref gq160]))] := hD
  refine lv_iload_n hx hb dX11_restore_60 rfl (lv_at hl 1 rfl) ?_
  have hP9 : va_P (dC, dI) cls [(gx, .inr (11, [.ref gq1, .ref gq4, .ref gq13, .ref gq136, .ref gq137, .ref gq138, .ref gq172, .ref gq184, .ref gq150, .ref gq161, .int (-1)])), (gq138, .inr (8, [.ref gq139, .ref gq140, .ref gq141, .ref gq142, .ref gq143, .int 0, .ref gq144, .int 0, .int 0, .int 0, .int 0, .int 0, .ref gq145, .ref gq146, .ref gq147, .ref gq148, .ref gq149])), (gq150, .inr (2, [.int 0, .ref gq151, .ref gq152, .ref gq153, .ref gq154, .ref gq155, .ref gq156, .int 0, .ref gq157, .ref gq158, .ref gq159, .int 0, .ref gq160]))] H := hP.sub [0, 1, 2] rfl
  have hD9 : va_D A [(gx, .inr (11, [.ref gq1, .ref gq4, .ref gq13, .ref gq136, .ref gq137, .ref gq138, .ref gq172, .ref gq184, .ref gq150, .ref gq161, .int (-1)])), (gq138, .inr (8, [.ref gq139, .ref gq140, .ref gq141, .ref gq142, .ref gq143, .int 0, .ref gq144, .int 0, .int 0, .int 0, .int 0, .int 0, .ref gq145, .ref gq146, .ref gq147, .ref gq148, .ref gq149])), (gq150, .inr (2, [.int 0, .ref gq151, .ref gq152, .ref gq153, .ref gq154, .ref gq155, .ref gq156, .int 0, .ref gq157, .ref gq158, .ref gq159, .int 0, .ref gq160]))] := hD.sub [0, 1, 2] (by decide) rfl
  have hK9 : va_K (dC, dI) cls [] s := hK.sub [] rfl
  exact W.iret (v := 0) hx hb hr (fun t ht hW => ⟨⟨0, (), rfl, rfl, ⟨by rw [ht]; exact hP9, va_K.moved hW.alike hK9, hD9⟩⟩, hS.F ht⟩) hS.2.2 dX11_restore_61
set_option maxHeartbeats 4000000 in
set_option maxRecDepth 100000 in
theorem kX11_functions {zs : Nat × Nat} (l : Launch) (dC : Nat → ClassId) (dI : Nat → Nat → Nat) (gx : Nat) (gq1 : Nat) (gq4 : Nat) (gq13 : Nat) (gq136 : Nat) (gq137 : Nat) (gq138 : Nat) (gq150 : Nat) (gq151 : Nat) (gq152 : Nat) (gq153 : Nat) (gq154 : Nat) (gq155 : Nat) (gq156 : Nat) (gq157 : Nat) (gq158 : Nat) (gq159 : Nat) (gq160 : Nat) (gq161 : Nat) (gq172 : Nat) (gq184 : Nat) (sz : Nat)  : Met l yX11_functions (wz yX11_functions cX11_functions 1 (Option.some Jvm.ClassFile.FieldType.int)) ({ frames := 0, cells := 0, slots := 0, locals := 0 }) (va_Pc [.ref gx] (PRE zs dC dI [(gx, .inr (11, [.ref gq1, .ref gq4, .ref gq13, .ref gq136, .ref gq137, .ref gq138, .ref gq172, .ref gq184, .ref gq150, .ref gq161, .int (-1)])), (gq150, .inr (2, [.int 0, .ref gq151, .ref gq152, .ref gq153, .ref gq154, .ref gq155, .ref gq156, .int 0, .ref gq157, .ref gq158, .ref gq159, .int 0, .ref gq160]))] [] sz)) (va_Qi (fun (r : Int32) (_ : Unit) => r = 0) (fun _ t => POST dC dI [(gx, .inr (11, [.ref gq1, .ref gq4, .ref gq13, .ref gq136, .ref gq137, .ref gq138, .ref gq172, .ref gq184, .ref gq150, .ref gq161, .int (-1)])), (gq150, .inr (2, [.int 0, .ref gq151, .ref gq152, .ref gq153, .ref gq154, .ref gq155, .ref gq156, .int 0, .ref gq157, .ref gq158, .ref gq159, .int 0, .ref gq160]))] [] (va_A [(gx, .inr (11, [.ref gq1, .ref gq4, .ref gq13, .ref gq136, .ref gq137, .ref gq138, .ref gq172, .ref gq184, .ref gq150, .ref gq161, .int (-1)])), (gq150, .inr (2, [.int 0, .ref gq151, .ref gq152, .ref gq153, .ref gq154, .ref gq155, .ref gq156, .int 0, .ref gq157, .ref gq158, .ref gq159, .int 0, .ref gq160]))] sz) t) (va_A [(gx, .inr (11, [.ref gq1, .ref gq4, .ref gq13, .ref gq136, .ref gq137, .ref gq138, .ref gq172, .ref gq184, .ref gq150, .ref gq161, .int (-1)])), (gq150, .inr (2, [.int 0, .ref gq151, .ref gq152, .ref gq153, .ref gq154, .ref gq155, .ref gq156, .int 0, .ref gq157, .ref gq158, .ref gq159, .int 0, .ref gq160]))] sz)) 0 0 (va_A [(gx, .inr (11, [.ref gq1, .ref gq4, .ref gq13, .ref gq136, .ref gq137, .ref gq138, .ref gq172, .ref gq184, .ref gq150, .ref gq161, .int (-1)])), (gq150, .inr (2, [.int 0, .ref gq151, .ref gq152, .ref gq153, .ref gq154, .ref gq155, .ref gq156, .int 0, .ref gq157, .ref gq158, .ref gq159, .int 0, .ref gq160]))] sz) := by
  refine Met.ofW (cc := cX11_functions) (maxL := 1) (ret := (Option.some Jvm.ClassFile.FieldType.int)) (by decide) rfl ?_
  intro p e s m args below meth c s₁ B hml hv
  obtain ⟨rfl, hsz, hP, hK, hD0, hE⟩ := hv
  have hx := B.exec
  have hb := B.bytes
  have hr := B.returns
  have hts0 := atoms_spec (ws := wz yX11_functions cX11_functions 1 (Option.some Jvm.ClassFile.FieldType.int)) B.pre
  have hts : ∀ w ∈ gw, w.before _ s = true := fun w h => hts0 w (List.mem_cons_of_mem _ h)
  have hown : s.vm.findClass RX11 = some m.cls := findClass_of_methodNamed B.named
  have hlocks := B.notSynchronized
  subst hsz
  have hD := hD0.self (sz := s.heap.size)
  generalize hAe : va_A [(gx, .inr (11, [.ref gq1, .ref gq4, .ref gq13, .ref gq136, .ref gq137, .ref gq138, .ref gq172, .ref gq184, .ref gq150, .ref gq161, .int (-1)])), (gq150, .inr (2, [.int 0, .ref gq151, .ref gq152, .ref gq153, .ref gq154, .ref gq155, .ref gq156, .int 0, .ref gq157, .ref gq158, .ref gq159, .int 0, .ref gq160]))] s.heap.size = A at hD hE ⊢
  have hA : ∀ q : Nat, s.heap.size ≤ q → A q := fun q h => by rw [← hAe]; exact Or.inr h
  have hS : va_S A s.heap s.heap [] := va_S.rf
  have hP : va_P (dC, dI) cls [(gx, .inr (11, [.ref gq1, .ref gq4, .ref gq13, .ref gq136, .ref gq137, .ref gq138, .ref gq172, .ref gq184, .ref gq150, .ref gq161, .int (-1)])), (gq150, .inr (2, [.int 0, .ref gq151, .ref gq152, .ref gq153, .ref gq154, .ref gq155, .ref gq156, .int 0, .ref gq157, .ref gq158, .ref gq159, .int 0, .ref gq160]))] s.heap := hP
  have hl := lv_entry ([.ref gx]) (n := 1) (Nat.le_of_ble_eq_true rfl)
  rw [lg_entry_eq]
  generalize (lg_sl ([.ref gx]) ++ List.replicate (1 - (lg_sl ([.ref gx])).length) Slot.unset).toArray = ls at hl ⊢
  have hl : lv_has ls 1 [(0, .ref gx)] := hl
  refine lv_aload_n hx hb dX11_functions_0 rfl (lv_at hl 0 rfl) ?_
  refine va_get (D := (dC, dI)) (ci := 11) (v := .ref gq150) (C := RX11) (T := TX11) (N := 11) hx hb hts i_X11 hown hK hP 0 rfl rfl 8 (by decide) (hts _ qw195) (fun _ h9 => h9) rfl dX11_functions_1 ?_
  refine va_get (D := (dC, dI)) (ci := 2) (v := .int 0) (C := RX6) (T := TX6) (N := 13) hx hb hts i_X6 hown hK hP 1 rfl rfl 0 (by decide) (hts _ qw215) (fun _ h9 => h9) rfl dX11_functions_4 ?_
  have hP9 : va_P (dC, dI) cls [(gx, .inr (11, [.ref gq1, .ref gq4, .ref gq13, .ref gq136, .ref gq137, .ref gq138, .ref gq172, .ref gq184, .ref gq150, .ref gq161, .int (-1)])), (gq150, .inr (2, [.int 0, .ref gq151, .ref gq152, .ref gq153, .ref gq154, .ref gq155, .ref gq156, .int 0, .ref gq157, .ref gq158, .ref gq159, .int 0, .ref gq160]))] s.heap := hP.sub [0, 1] rfl
  have hD9 : va_D A [(gx, .inr (11, [.ref gq1, .ref gq4, .ref gq13, .ref gq136, .ref gq137, .ref gq138, .ref gq172, .ref gq184, .ref gq150, .ref gq161, .int (-1)])), (gq150, .inr (2, [.int 0, .ref gq151, .ref gq152, .ref gq153, .ref gq154, .ref gq155, .ref gq156, .int 0, .ref gq157, .ref gq158, .ref gq159, .int 0, .ref gq160]))] := hD.sub [0, 1] (by decide) rfl
  have hK9 : va_K (dC, dI) cls [] s := hK.sub [] rfl
  exact W.iret (v := 0) hx hb hr (fun t ht hW => ⟨⟨0, (), rfl, rfl, ⟨by rw [ht]; exact hP9, va_K.moved hW.alike hK9, hD9⟩⟩, hS.F ht⟩) hS.2.2 dX11_functions_7
set_option maxHeartbeats 4000000 in
set_option maxRecDepth 100000 in
theorem kX11_fold {zs : Nat × Nat} (l : Launch) (dC : Nat → ClassId) (dI : Nat → Nat → Nat) (gx : Nat) (gq1 : Nat) (gq4 : Nat) (gq13 : Nat) (gq136 : Nat) (gq137 : Nat) (gq138 : Nat) (gq150 : Nat) (gq151 : Nat) (gq152 : Nat) (gq153 : Nat) (gq154 : Nat) (gq155 : Nat) (gq156 : Nat) (gq157 : Nat) (gq158 : Nat) (gq159 : Nat) (gq160 : Nat) (gq161 : Nat) (gq172 : Nat) (gq184 : Nat) (sz : Nat)  : Met l yX11_fold (wz yX11_fold cX11_fold 3 (Option.some Jvm.ClassFile.FieldType.int)) ({ frames := 0, cells := 0, slots := 0, locals := 0 }) (va_Pc [.ref gx] (PRE zs dC dI [(gx, .inr (11, [.ref gq1, .ref gq4, .ref gq13, .ref gq136, .ref gq137, .ref gq138, .ref gq172, .ref gq184, .ref gq150, .ref gq161, .int (-1)])), (gq150, .inr (2, [.int 0, .ref gq151, .ref gq152, .ref gq153, .ref gq154, .ref gq155, .ref gq156, .int 0, .ref gq157, .ref gq158, .ref gq159, .int 0, .ref gq160]))] [] sz)) (va_Qi (fun (r : Int32) (_ : Unit) => r = 0) (fun _ t => POST dC dI [(gx, .inr (11, [.ref gq1, .ref gq4, .ref gq13, .ref gq136, .ref gq137, .ref gq138, .ref gq172, .ref gq184, .ref gq150, .ref gq161, .int (-1)])), (gq150, .inr (2, [.int 0, .ref gq151, .ref gq152, .ref gq153, .ref gq154, .ref gq155, .ref gq156, .int 0, .ref gq157, .ref gq158, .ref gq159, .int 0, .ref gq160]))] [] (va_A [(gx, .inr (11, [.ref gq1, .ref gq4, .ref gq13, .ref gq136, .ref gq137, .ref gq138, .ref gq172, .ref gq184, .ref gq150, .ref gq161, .int (-1)])), (gq150, .inr (2, [.int 0, .ref gq151, .ref gq152, .ref gq153, .ref gq154, .ref gq155, .ref gq156, .int 0, .ref gq157, .ref gq158, .ref gq159, .int 0, .ref gq160]))] sz) t) (va_A [(gx, .inr (11, [.ref gq1, .ref gq4, .ref gq13, .ref gq136, .ref gq137, .ref gq138, .ref gq172, .ref gq184, .ref gq150, .ref gq161, .int (-1)])), (gq150, .inr (2, [.int 0, .ref gq151, .ref gq152, .ref gq153, .ref gq154, .ref gq155, .ref gq156, .int 0, .ref gq157, .ref gq158, .ref gq159, .int 0, .ref gq160]))] sz)) 0 0 (va_A [(gx, .inr (11, [.ref gq1, .ref gq4, .ref gq13, .ref gq136, .ref gq137, .ref gq138, .ref gq172, .ref gq184, .ref gq150, .ref gq161, .int (-1)])), (gq150, .inr (2, [.int 0, .ref gq151, .ref gq152, .ref gq153, .ref gq154, .ref gq155, .ref gq156, .int 0, .ref gq157, .ref gq158, .ref gq159, .int 0, .ref gq160]))] sz) := by
  refine Met.ofW (cc := cX11_fold) (maxL := 3) (ret := (Option.some Jvm.ClassFile.FieldType.int)) (by decide) rfl ?_
  intro p e s m args below meth c s₁ B hml hv
  obtain ⟨rfl, hsz, hP, hK, hD0, hE⟩ := hv
  have hx := B.exec
  have hb := B.bytes
  have hr := B.returns
  have hts0 := atoms_spec (ws := wz yX11_fold cX11_fold 3 (Option.some Jvm.ClassFile.FieldType.int)) B.pre
  have hts : ∀ w ∈ gw, w.before _ s = true := fun w h => hts0 w (List.mem_cons_of_mem _ h)
  have hown : s.vm.findClass RX11 = some m.cls := findClass_of_methodNamed B.named
  have hlocks := B.notSynchronized
  subst hsz
  have hD := hD0.self (sz := s.heap.size)
  generalize hAe : va_A [(gx, .inr (11, [.ref gq1, .ref gq4, .ref gq13, .ref gq136, .ref gq137, .ref gq138, .ref gq172, .ref gq184, .ref gq150, .ref gq161, .int (-1)])), (gq150, .inr (2, [.int 0, .ref gq151, .ref gq152, .ref gq153, .ref gq154, .ref gq155, .ref gq156, .int 0, .ref gq157, .ref gq158, .ref gq159, .int 0, .ref gq160]))] s.heap.size = A at hD hE ⊢
  have hA : ∀ q : Nat, s.heap.size ≤ q → A q := fun q h => by rw [← hAe]; exact Or.inr h
  have hS : va_S A s.heap s.heap [] := va_S.rf
  have hP : va_P (dC, dI) cls [(gx, .inr (11, [.ref gq1, .ref gq4, .ref gq13, .ref gq136, .ref gq137, .ref gq138, .ref gq172, .ref gq184, .ref gq150, .ref gq161, .int (-1)])), (gq150, .inr (2, [.int 0, .ref gq151, .ref gq152, .ref gq153, .ref gq154, .ref gq155, .ref gq156, .int 0, .ref gq157, .ref gq158, .ref gq159, .int 0, .ref gq160]))] s.heap := hP
  have hl := lv_entry ([.ref gx]) (n := 3) (Nat.le_of_ble_eq_true rfl)
  rw [lg_entry_eq]
  generalize (lg_sl ([.ref gx]) ++ List.replicate (3 - (lg_sl ([.ref gx])).length) Slot.unset).toArray = ls at hl ⊢
  have hl : lv_has ls 3 [(0, .ref gx)] := hl
  refine lv_iconst (v := 0) hx hb dX11_fold_0 (by decide) ?_
  refine lv_istore_n (lv' := [(1, .int 0), (0, .ref gx)]) hx hb dX11_fold_1 rfl hl (by decide) rfl (fun ls hl => ?_)
  refine lv_iconst (v := 0) hx hb dX11_fold_2 (by decide) ?_
  refine lv_istore_n (lv' := [(2, .int 0), (1, .int 0), (0, .ref gx)]) hx hb dX11_fold_3 rfl hl (by decide) rfl (fun ls hl => ?_)
  refine lv_iload_n hx hb dX11_fold_4 rfl (lv_at hl 0 rfl) ?_
  refine lv_aload_n hx hb dX11_fold_5 rfl (lv_at hl 2 rfl) ?_
  refine va_get (D := (dC, dI)) (ci := 11) (v := .ref gq150) (C := RX11) (T := TX11) (N := 11) hx hb hts i_X11 hown hK hP 0 rfl rfl 8 (by decide) (hts _ qw195) (fun _ h9 => h9) rfl dX11_fold_6 ?_
  refine va_get (D := (dC, dI)) (ci := 2) (v := .int 0) (C := RX6) (T := TX6) (N := 13) hx hb hts i_X6 hown hK hP 1 rfl rfl 0 (by decide) (hts _ qw215) (fun _ h9 => h9) rfl dX11_fold_9 ?_
  refine lv_icmp_ge (tgt := 37) hx hb dX11_fold_12 (by decide) (fun _ => ?_) (fun c => absurd (by decide) c)
  refine lv_iload_n hx hb dX11_fold_37 rfl (lv_at hl 1 rfl) ?_
  have hP9 : va_P (dC, dI) cls [(gx, .inr (11, [.ref gq1, .ref gq4, .ref gq13, .ref gq136, .ref gq137, .ref gq138, .ref gq172, .ref gq184, .ref gq150, .ref gq161, .int (-1)])), (gq150, .inr (2, [.int 0, .ref gq151, .ref gq152, .ref gq153, .ref gq154, .ref gq155, .ref gq156, .int 0, .ref gq157, .ref gq158, .ref gq159, .int 0, .ref gq160]))] s.heap := hP.sub [0, 1] rfl
  have hD9 : va_D A [(gx, .inr (11, [.ref gq1, .ref gq4, .ref gq13, .ref gq136, .ref gq137, .ref gq138, .ref gq172, .ref gq184, .ref gq150, .ref gq161, .int (-1)])), (gq150, .inr (2, [.int 0, .ref gq151, .ref gq152, .ref gq153, .ref gq154, .ref gq155, .ref gq156, .int 0, .ref gq157, .ref gq158, .ref gq159, .int 0, .ref gq160]))] := hD.sub [0, 1] (by decide) rfl
  have hK9 : va_K (dC, dI) cls [] s := hK.sub [] rfl
  exact W.iret (v := 0) hx hb hr (fun t ht hW => ⟨⟨0, (), rfl, rfl, ⟨by rw [ht]; exact hP9, va_K.moved hW.alike hK9, hD9⟩⟩, hS.F ht⟩) hS.2.2 dX11_fold_38
set_option maxHeartbeats 4000000 in
set_option maxRecDepth 100000 in
theorem kX11_same {zs : Nat × Nat} (l : Launch) (dC : Nat → ClassId) (dI : Nat → Nat → Nat) (gx : Nat) (gq1 : Nat) (gq4 : Nat) (gq13 : Nat) (gq136 : Nat) (gq137 : Nat) (gq138 : Nat) (gq150 : Nat) (gq151 : Nat) (gq152 : Nat) (gq153 : Nat) (gq154 : Nat) (gq155 : Nat) (gq156 : Nat) (gq157 : Nat) (gq158 : Nat) (gq159 : Nat) (gq160 : Nat) (gq161 : Nat) (gq172 : Nat) (gq184 : Nat) (sz : Nat)  : Met l yX11_same (wz yX11_same cX11_same 3 (Option.some Jvm.ClassFile.FieldType.int)) ({ frames := 0, cells := 0, slots := 0, locals := 0 }) (va_Pc [.ref gx] (PRE zs dC dI [(gx, .inr (11, [.ref gq1, .ref gq4, .ref gq13, .ref gq136, .ref gq137, .ref gq138, .ref gq172, .ref gq184, .ref gq150, .ref gq161, .int (-1)])), (gq150, .inr (2, [.int 0, .ref gq151, .ref gq152, .ref gq153, .ref gq154, .ref gq155, .ref gq156, .int 0, .ref gq157, .ref gq158, .ref gq159, .int 0, .ref gq160]))] [] sz)) (va_Qi (fun (r : Int32) (_ : Unit) => r = 0) (fun _ t => POST dC dI [(gx, .inr (11, [.ref gq1, .ref gq4, .ref gq13, .ref gq136, .ref gq137, .ref gq138, .ref gq172, .ref gq184, .ref gq150, .ref gq161, .int (-1)])), (gq150, .inr (2, [.int 0, .ref gq151, .ref gq152, .ref gq153, .ref gq154, .ref gq155, .ref gq156, .int 0, .ref gq157, .ref gq158, .ref gq159, .int 0, .ref gq160]))] [] (va_A [(gx, .inr (11, [.ref gq1, .ref gq4, .ref gq13, .ref gq136, .ref gq137, .ref gq138, .ref gq172, .ref gq184, .ref gq150, .ref gq161, .int (-1)])), (gq150, .inr (2, [.int 0, .ref gq151, .ref gq152, .ref gq153, .ref gq154, .ref gq155, .ref gq156, .int 0, .ref gq157, .ref gq158, .ref gq159, .int 0, .ref gq160]))] sz) t) (va_A [(gx, .inr (11, [.ref gq1, .ref gq4, .ref gq13, .ref gq136, .ref gq137, .ref gq138, .ref gq172, .ref gq184, .ref gq150, .ref gq161, .int (-1)])), (gq150, .inr (2, [.int 0, .ref gq151, .ref gq152, .ref gq153, .ref gq154, .ref gq155, .ref gq156, .int 0, .ref gq157, .ref gq158, .ref gq159, .int 0, .ref gq160]))] sz)) 0 0 (va_A [(gx, .inr (11, [.ref gq1, .ref gq4, .ref gq13, .ref gq136, .ref gq137, .ref gq138, .ref gq172, .ref gq184, .ref gq150, .ref gq161, .int (-1)])), (gq150, .inr (2, [.int 0, .ref gq151, .ref gq152, .ref gq153, .ref gq154, .ref gq155, .ref gq156, .int 0, .ref gq157, .ref gq158, .ref gq159, .int 0, .ref gq160]))] sz) := by
  refine Met.ofW (cc := cX11_same) (maxL := 3) (ret := (Option.some Jvm.ClassFile.FieldType.int)) (by decide) rfl ?_
  intro p e s m args below meth c s₁ B hml hv
  obtain ⟨rfl, hsz, hP, hK, hD0, hE⟩ := hv
  have hx := B.exec
  have hb := B.bytes
  have hr := B.returns
  have hts0 := atoms_spec (ws := wz yX11_same cX11_same 3 (Option.some Jvm.ClassFile.FieldType.int)) B.pre
  have hts : ∀ w ∈ gw, w.before _ s = true := fun w h => hts0 w (List.mem_cons_of_mem _ h)
  have hown : s.vm.findClass RX11 = some m.cls := findClass_of_methodNamed B.named
  have hlocks := B.notSynchronized
  subst hsz
  have hD := hD0.self (sz := s.heap.size)
  generalize hAe : va_A [(gx, .inr (11, [.ref gq1, .ref gq4, .ref gq13, .ref gq136, .ref gq137, .ref gq138, .ref gq172, .ref gq184, .ref gq150, .ref gq161, .int (-1)])), (gq150, .inr (2, [.int 0, .ref gq151, .ref gq152, .ref gq153, .ref gq154, .ref gq155, .ref gq156, .int 0, .ref gq157, .ref gq158, .ref gq159, .int 0, .ref gq160]))] s.heap.size = A at hD hE ⊢
  have hA : ∀ q : Nat, s.heap.size ≤ q → A q := fun q h => by rw [← hAe]; exact Or.inr h
  have hS : va_S A s.heap s.heap [] := va_S.rf
  have hP : va_P (dC, dI) cls [(gx, .inr (11, [.ref gq1, .ref gq4, .ref gq13, .ref gq136, .ref gq137, .ref gq138, .ref gq172, .ref gq184, .ref gq150, .ref gq161, .int (-1)])), (gq150, .inr (2, [.int 0, .ref gq151, .ref gq152, .ref gq153, .ref gq154, .ref gq155, .ref gq156, .int 0, .ref gq157, .ref gq158, .ref gq159, .int 0, .ref gq160]))] s.heap := hP
  have hl := lv_entry ([.ref gx]) (n := 3) (Nat.le_of_ble_eq_true rfl)
  rw [lg_entry_eq]
  generalize (lg_sl ([.ref gx]) ++ List.replicate (3 - (lg_sl ([.ref gx])).length) Slot.unset).toArray = ls at hl ⊢
  have hl : lv_has ls 3 [(0, .ref gx)] := hl
  refine lv_iconst (v := 0) hx hb dX11_same_0 (by decide) ?_
  refine lv_istore_n (lv' := [(1, .int 0), (0, .ref gx)]) hx hb dX11_same_1 rfl hl (by decide) rfl (fun ls hl => ?_)
  refine lv_iconst (v := 0) hx hb dX11_same_2 (by decide) ?_
  refine lv_istore_n (lv' := [(2, .int 0), (1, .int 0), (0, .ref gx)]) hx hb dX11_same_3 rfl hl (by decide) rfl (fun ls hl => ?_)
  refine lv_iload_n hx hb dX11_same_4 rfl (lv_at hl 0 rfl) ?_
  refine lv_aload_n hx hb dX11_same_5 rfl (lv_at hl 2 rfl) ?_
  refine va_get (D := (dC, dI)) (ci := 11) (v := .ref gq150) (C := RX11) (T := TX11) (N := 11) hx hb hts i_X11 hown hK hP 0 rfl rfl 8 (by decide) (hts _ qw195) (fun _ h9 => h9) rfl dX11_same_6 ?_
  refine va_get (D := (dC, dI)) (ci := 2) (v := .int 0) (C := RX6) (T := TX6) (N := 13) hx hb hts i_X6 hown hK hP 1 rfl rfl 0 (by decide) (hts _ qw215) (fun _ h9 => h9) rfl dX11_same_9 ?_
  refine lv_icmp_ge (tgt := 37) hx hb dX11_same_12 (by decide) (fun _ => ?_) (fun c => absurd (by decide) c)
  refine lv_iload_n hx hb dX11_same_37 rfl (lv_at hl 1 rfl) ?_
  have hP9 : va_P (dC, dI) cls [(gx, .inr (11, [.ref gq1, .ref gq4, .ref gq13, .ref gq136, .ref gq137, .ref gq138, .ref gq172, .ref gq184, .ref gq150, .ref gq161, .int (-1)])), (gq150, .inr (2, [.int 0, .ref gq151, .ref gq152, .ref gq153, .ref gq154, .ref gq155, .ref gq156, .int 0, .ref gq157, .ref gq158, .ref gq159, .int 0, .ref gq160]))] s.heap := hP.sub [0, 1] rfl
  have hD9 : va_D A [(gx, .inr (11, [.ref gq1, .ref gq4, .ref gq13, .ref gq136, .ref gq137, .ref gq138, .ref gq172, .ref gq184, .ref gq150, .ref gq161, .int (-1)])), (gq150, .inr (2, [.int 0, .ref gq151, .ref gq152, .ref gq153, .ref gq154, .ref gq155, .ref gq156, .int 0, .ref gq157, .ref gq158, .ref gq159, .int 0, .ref gq160]))] := hD.sub [0, 1] (by decide) rfl
  have hK9 : va_K (dC, dI) cls [] s := hK.sub [] rfl
  exact W.iret (v := 0) hx hb hr (fun t ht hW => ⟨⟨0, (), rfl, rfl, ⟨by rw [ht]; exact hP9, va_K.moved hW.alike hK9, hD9⟩⟩, hS.F ht⟩) hS.2.2 dX11_same_38
set_option maxHeartbeats 4000000 in
set_option maxRecDepth 100000 in
theorem kX11_drop {zs : Nat × Nat} (l : Launch) (dC : Nat → ClassId) (dI : Nat → Nat → Nat) (gx : Nat) (gq1 : Nat) (gq4 : Nat) (gq13 : Nat) (gq136 : Nat) (gq137 : Nat) (gq138 : Nat) (gq150 : Nat) (gq151 : Nat) (gq152 : Nat) (gq153 : Nat) (gq154 : Nat) (gq155 : Nat) (gq156 : Nat) (gq157 : Nat) (gq158 : Nat) (gq159 : Nat) (gq160 : Nat) (gq161 : Nat) (gq172 : Nat) (gq184 : Nat) (sz : Nat)  : Met l yX11_drop (wz yX11_drop cX11_drop 3 (Option.some Jvm.ClassFile.FieldType.int)) ({ frames := 0, cells := 0, slots := 0, locals := 0 }) (va_Pc [.ref gx] (PRE zs dC dI [(gx, .inr (11, [.ref gq1, .ref gq4, .ref gq13, .ref gq136, .ref gq137, .ref gq138, .ref gq172, .ref gq184, .ref gq150, .ref gq161, .int (-1)])), (gq150, .inr (2, [.int 0, .ref gq151, .ref gq152, .ref gq153, .ref gq154, .ref gq155, .ref gq156, .int 0, .ref gq157, .ref gq158, .ref gq159, .int 0, .ref gq160]))] [] sz)) (va_Qi (fun (r : Int32) (_ : Unit) => r = 0) (fun _ t => POST dC dI [(gx, .inr (11, [.ref gq1, .ref gq4, .ref gq13, .ref gq136, .ref gq137, .ref gq138, .ref gq172, .ref gq184, .ref gq150, .ref gq161, .int (-1)])), (gq150, .inr (2, [.int 0, .ref gq151, .ref gq152, .ref gq153, .ref gq154, .ref gq155, .ref gq156, .int 0, .ref gq157, .ref gq158, .ref gq159, .int 0, .ref gq160]))] [] (va_A [(gx, .inr (11, [.ref gq1, .ref gq4, .ref gq13, .ref gq136, .ref gq137, .ref gq138, .ref gq172, .ref gq184, .ref gq150, .ref gq161, .int (-1)])), (gq150, .inr (2, [.int 0, .ref gq151, .ref gq152, .ref gq153, .ref gq154, .ref gq155, .ref gq156, .int 0, .ref gq157, .ref gq158, .ref gq159, .int 0, .ref gq160]))] sz) t) (va_A [(gx, .inr (11, [.ref gq1, .ref gq4, .ref gq13, .ref gq136, .ref gq137, .ref gq138, .ref gq172, .ref gq184, .ref gq150, .ref gq161, .int (-1)])), (gq150, .inr (2, [.int 0, .ref gq151, .ref gq152, .ref gq153, .ref gq154, .ref gq155, .ref gq156, .int 0, .ref gq157, .ref gq158, .ref gq159, .int 0, .ref gq160]))] sz)) 0 0 (va_A [(gx, .inr (11, [.ref gq1, .ref gq4, .ref gq13, .ref gq136, .ref gq137, .ref gq138, .ref gq172, .ref gq184, .ref gq150, .ref gq161, .int (-1)])), (gq150, .inr (2, [.int 0, .ref gq151, .ref gq152, .ref gq153, .ref gq154, .ref gq155, .ref gq156, .int 0, .ref gq157, .ref gq158, .ref gq159, .int 0, .ref gq160]))] sz) := by
  refine Met.ofW (cc := cX11_drop) (maxL := 3) (ret := (Option.some Jvm.ClassFile.FieldType.int)) (by decide) rfl ?_
  intro p e s m args below meth c s₁ B hml hv
  obtain ⟨rfl, hsz, hP, hK, hD0, hE⟩ := hv
  have hx := B.exec
  have hb := B.bytes
  have hr := B.returns
  have hts0 := atoms_spec (ws := wz yX11_drop cX11_drop 3 (Option.some Jvm.ClassFile.FieldType.int)) B.pre
  have hts : ∀ w ∈ gw, w.before _ s = true := fun w h => hts0 w (List.mem_cons_of_mem _ h)
  have hown : s.vm.findClass RX11 = some m.cls := findClass_of_methodNamed B.named
  have hlocks := B.notSynchronized
  subst hsz
  have hD := hD0.self (sz := s.heap.size)
  generalize hAe : va_A [(gx, .inr (11, [.ref gq1, .ref gq4, .ref gq13, .ref gq136, .ref gq137, .ref gq138, .ref gq172, .ref gq184, .ref gq150, .ref gq161, .int (-1)])), (gq150, .inr (2, [.int 0, .ref gq151, .ref gq152, .ref gq153, .ref gq154, .ref gq155, .ref gq156, .int 0, .ref gq157, .ref gq158, .ref gq159, .int 0, .ref gq160]))] s.heap.size = A at hD hE ⊢
  have hA : ∀ q : Nat, s.heap.size ≤ q → A q := fun q h => by rw [← hAe]; exact Or.inr h
  have hS : va_S A s.heap s.heap [] := va_S.rf
  have hP : va_P (dC, dI) cls [(gx, .inr (11, [.ref gq1, .ref gq4, .ref gq13, .ref gq136, .ref gq137, .ref gq138, .ref gq172, .ref gq184, .ref gq150, .ref gq161, .int (-1)])), (gq150, .inr (2, [.int 0, .ref gq151, .ref gq152, .ref gq153, .ref gq154, .ref gq155, .ref gq156, .int 0, .ref gq157, .ref gq158, .ref gq159, .int 0, .ref gq160]))] s.heap := hP
  have hl := lv_entry ([.ref gx]) (n := 3) (Nat.le_of_ble_eq_true rfl)
  rw [lg_entry_eq]
  generalize (lg_sl ([.ref gx]) ++ List.replicate (3 - (lg_sl ([.ref gx])).length) Slot.unset).toArray = ls at hl ⊢
  have hl : lv_has ls 3 [(0, .ref gx)] := hl
  refine lv_iconst (v := 0) hx hb dX11_drop_0 (by decide) ?_
  refine lv_istore_n (lv' := [(1, .int 0), (0, .ref gx)]) hx hb dX11_drop_1 rfl hl (by decide) rfl (fun ls hl => ?_)
  refine lv_iconst (v := 0) hx hb dX11_drop_2 (by decide) ?_
  refine lv_istore_n (lv' := [(2, .int 0), (1, .int 0), (0, .ref gx)]) hx hb dX11_drop_3 rfl hl (by decide) rfl (fun ls hl => ?_)
  refine lv_iload_n hx hb dX11_drop_4 rfl (lv_at hl 0 rfl) ?_
  refine lv_aload_n hx hb dX11_drop_5 rfl (lv_at hl 2 rfl) ?_
  refine va_get (D := (dC, dI)) (ci := 11) (v := .ref gq150) (C := RX11) (T := TX11) (N := 11) hx hb hts i_X11 hown hK hP 0 rfl rfl 8 (by decide) (hts _ qw195) (fun _ h9 => h9) rfl dX11_drop_6 ?_
  refine va_get (D := (dC, dI)) (ci := 2) (v := .int 0) (C := RX6) (T := TX6) (N := 13) hx hb hts i_X6 hown hK hP 1 rfl rfl 0 (by decide) (hts _ qw215) (fun _ h9 => h9) rfl dX11_drop_9 ?_
  refine lv_icmp_ge (tgt := 37) hx hb dX11_drop_12 (by decide) (fun _ => ?_) (fun c => absurd (by decide) c)
  refine lv_iload_n hx hb dX11_drop_37 rfl (lv_at hl 1 rfl) ?_
  have hP9 : va_P (dC, dI) cls [(gx, .inr (11, [.ref gq1, .ref gq4, .ref gq13, .ref gq136, .ref gq137, .ref gq138, .ref gq172, .ref gq184, .ref gq150, .ref gq161, .int (-1)])), (gq150, .inr (2, [.int 0, .ref gq151, .ref gq152, .ref gq153, .ref gq154, .ref gq155, .ref gq156, .int 0, .ref gq157, .ref gq158, .ref gq159, .int 0, .ref gq160]))] s.heap := hP.sub [0, 1] rfl
  have hD9 : va_D A [(gx, .inr (11, [.ref gq1, .ref gq4, .ref gq13, .ref gq136, .ref gq137, .ref gq138, .ref gq172, .ref gq184, .ref gq150, .ref gq161, .int (-1)])), (gq150, .inr (2, [.int 0, .ref gq151, .ref gq152, .ref gq153, .ref gq154, .ref gq155, .ref gq156, .int 0, .ref gq157, .ref gq158, .ref gq159, .int 0, .ref gq160]))] := hD.sub [0, 1] (by decide) rfl
  have hK9 : va_K (dC, dI) cls [] s := hK.sub [] rfl
  exact W.iret (v := 0) hx hb hr (fun t ht hW => ⟨⟨0, (), rfl, rfl, ⟨by rw [ht]; exact hP9, va_K.moved hW.alike hK9, hD9⟩⟩, hS.F ht⟩) hS.2.2 dX11_drop_38
set_option maxHeartbeats 4000000 in
set_option maxRecDepth 100000 in
theorem kX11_lift {zs : Nat × Nat} (l : Launch) (dC : Nat → ClassId) (dI : Nat → Nat → Nat) (gx : Nat) (gq1 : Nat) (gq4 : Nat) (gq13 : Nat) (gq136 : Nat) (gq137 : Nat) (gq138 : Nat) (gq150 : Nat) (gq151 : Nat) (gq152 : Nat) (gq153 : Nat) (gq154 : Nat) (gq155 : Nat) (gq156 : Nat) (gq157 : Nat) (gq158 : Nat) (gq159 : Nat) (gq160 : Nat) (gq161 : Nat) (gq172 : Nat) (gq184 : Nat) (sz : Nat)  : Met l yX11_lift (wz yX11_lift cX11_lift 3 (Option.some Jvm.ClassFile.FieldType.int)) ({ frames := 0, cells := 0, slots := 0, locals := 0 }) (va_Pc [.ref gx] (PRE zs dC dI [(gx, .inr (11, [.ref gq1, .ref gq4, .ref gq13, .ref gq136, .ref gq137, .ref gq138, .ref gq172, .ref gq184, .ref gq150, .ref gq161, .int (-1)])), (gq150, .inr (2, [.int 0, .ref gq151, .ref gq152, .ref gq153, .ref gq154, .ref gq155, .ref gq156, .int 0, .ref gq157, .ref gq158, .ref gq159, .int 0, .ref gq160]))] [] sz)) (va_Qi (fun (r : Int32) (_ : Unit) => r = 0) (fun _ t => POST dC dI [(gx, .inr (11, [.ref gq1, .ref gq4, .ref gq13, .ref gq136, .ref gq137, .ref gq138, .ref gq172, .ref gq184, .ref gq150, .ref gq161, .int (-1)])), (gq150, .inr (2, [.int 0, .ref gq151, .ref gq152, .ref gq153, .ref gq154, .ref gq155, .ref gq156, .int 0, .ref gq157, .ref gq158, .ref gq159, .int 0, .ref gq160]))] [] (va_A [(gx, .inr (11, [.ref gq1, .ref gq4, .ref gq13, .ref gq136, .ref gq137, .ref gq138, .ref gq172, .ref gq184, .ref gq150, .ref gq161, .int (-1)])), (gq150, .inr (2, [.int 0, .ref gq151, .ref gq152, .ref gq153, .ref gq154, .ref gq155, .ref gq156, .int 0, .ref gq157, .ref gq158, .ref gq159, .int 0, .ref gq160]))] sz) t) (va_A [(gx, .inr (11, [.ref gq1, .ref gq4, .ref gq13, .ref gq136, .ref gq137, .ref gq138, .ref gq172, .ref gq184, .ref gq150, .ref gq161, .int (-1)])), (gq150, .inr (2, [.int 0, .ref gq151, .ref gq152, .ref gq153, .ref gq154, .ref gq155, .ref gq156, .int 0, .ref gq157, .ref gq158, .ref gq159, .int 0, .ref gq160]))] sz)) 0 0 (va_A [(gx, .inr (11, [.ref gq1, .ref gq4, .ref gq13, .ref gq136, .ref gq137, .ref gq138, .ref gq172, .ref gq184, .ref gq150, .ref gq161, .int (-1)])), (gq150, .inr (2, [.int 0, .ref gq151, .ref gq152, .ref gq153, .ref gq154, .ref gq155, .ref gq156, .int 0, .ref gq157, .ref gq158, .ref gq159, .int 0, .ref gq160]))] sz) := by
  refine Met.ofW (cc := cX11_lift) (maxL := 3) (ret := (Option.some Jvm.ClassFile.FieldType.int)) (by decide) rfl ?_
  intro p e s m args below meth c s₁ B hml hv
  obtain ⟨rfl, hsz, hP, hK, hD0, hE⟩ := hv
  have hx := B.exec
  have hb := B.bytes
  have hr := B.returns
  have hts0 := atoms_spec (ws := wz yX11_lift cX11_lift 3 (Option.some Jvm.ClassFile.FieldType.int)) B.pre
  have hts : ∀ w ∈ gw, w.before _ s = true := fun w h => hts0 w (List.mem_cons_of_mem _ h)
  have hown : s.vm.findClass RX11 = some m.cls := findClass_of_methodNamed B.named
  have hlocks := B.notSynchronized
  subst hsz
  have hD := hD0.self (sz := s.heap.size)
  generalize hAe : va_A [(gx, .inr (11, [.ref gq1, .ref gq4, .ref gq13, .ref gq136, .ref gq137, .ref gq138, .ref gq172, .ref gq184, .ref gq150, .ref gq161, .int (-1)])), (gq150, .inr (2, [.int 0, .ref gq151, .ref gq152, .ref gq153, .ref gq154, .ref gq155, .ref gq156, .int 0, .ref gq157, .ref gq158, .ref gq159, .int 0, .ref gq160]))] s.heap.size = A at hD hE ⊢
  have hA : ∀ q : Nat, s.heap.size ≤ q → A q := fun q h => by rw [← hAe]; exact Or.inr h
  have hS : va_S A s.heap s.heap [] := va_S.rf
  have hP : va_P (dC, dI) cls [(gx, .inr (11, [.ref gq1, .ref gq4, .ref gq13, .ref gq136, .ref gq137, .ref gq138, .ref gq172, .ref gq184, .ref gq150, .ref gq161, .int (-1)])), (gq150, .inr (2, [.int 0, .ref gq151, .ref gq152, .ref gq153, .ref gq154, .ref gq155, .ref gq156, .int 0, .ref gq157, .ref gq158, .ref gq159, .int 0, .ref gq160]))] s.heap := hP
  have hl := lv_entry ([.ref gx]) (n := 3) (Nat.le_of_ble_eq_true rfl)
  rw [lg_entry_eq]
  generalize (lg_sl ([.ref gx]) ++ List.replicate (3 - (lg_sl ([.ref gx])).length) Slot.unset).toArray = ls at hl ⊢
  have hl : lv_has ls 3 [(0, .ref gx)] := hl
  refine lv_iconst (v := 0) hx hb dX11_lift_0 (by decide) ?_
  refine lv_istore_n (lv' := [(1, .int 0), (0, .ref gx)]) hx hb dX11_lift_1 rfl hl (by decide) rfl (fun ls hl => ?_)
  refine lv_iconst (v := 0) hx hb dX11_lift_2 (by decide) ?_
  refine lv_istore_n (lv' := [(2, .int 0), (1, .int 0), (0, .ref gx)]) hx hb dX11_lift_3 rfl hl (by decide) rfl (fun ls hl => ?_)
  refine lv_iload_n hx hb dX11_lift_4 rfl (lv_at hl 0 rfl) ?_
  refine lv_aload_n hx hb dX11_lift_5 rfl (lv_at hl 2 rfl) ?_
  refine va_get (D := (dC, dI)) (ci := 11) (v := .ref gq150) (C := RX11) (T := TX11) (N := 11) hx hb hts i_X11 hown hK hP 0 rfl rfl 8 (by decide) (hts _ qw195) (fun _ h9 => h9) rfl dX11_lift_6 ?_
  refine va_get (D := (dC, dI)) (ci := 2) (v := .int 0) (C := RX6) (T := TX6) (N := 13) hx hb hts i_X6 hown hK hP 1 rfl rfl 0 (by decide) (hts _ qw215) (fun _ h9 => h9) rfl dX11_lift_9 ?_
  refine lv_icmp_ge (tgt := 37) hx hb dX11_lift_12 (by decide) (fun _ => ?_) (fun c => absurd (by decide) c)
  refine lv_iload_n hx hb dX11_lift_37 rfl (lv_at hl 1 rfl) ?_
  have hP9 : va_P (dC, dI) cls [(gx, .inr (11, [.ref gq1, .ref gq4, .ref gq13, .ref gq136, .ref gq137, .ref gq138, .ref gq172, .ref gq184, .ref gq150, .ref gq161, .int (-1)])), (gq150, .inr (2, [.int 0, .ref gq151, .ref gq152, .ref gq153, .ref gq154, .ref gq155, .ref gq156, .int 0, .ref gq157, .ref gq158, .ref gq159, .int 0, .ref gq160]))] s.heap := hP.sub [0, 1] rfl
  have hD9 : va_D A [(gx, .inr (11, [.ref gq1, .ref gq4, .ref gq13, .ref gq136, .ref gq137, .ref gq138, .ref gq172, .ref gq184, .ref gq150, .ref gq161, .int (-1)])), (gq150, .inr (2, [.int 0, .ref gq151, .ref gq152, .ref gq153, .ref gq154, .ref gq155, .ref gq156, .int 0, .ref gq157, .ref gq158, .ref gq159, .int 0, .ref gq160]))] := hD.sub [0, 1] (by decide) rfl
  have hK9 : va_K (dC, dI) cls [] s := hK.sub [] rfl
  exact W.iret (v := 0) hx hb hr (fun t ht hW => ⟨⟨0, (), rfl, rfl, ⟨by rw [ht]; exact hP9, va_K.moved hW.alike hK9, hD9⟩⟩, hS.F ht⟩) hS.2.2 dX11_lift_38
set_option maxHeartbeats 4000000 in
set_option maxRecDepth 100000 in
theorem kX11_merge {zs : Nat × Nat} (l : Launch) (dC : Nat → ClassId) (dI : Nat → Nat → Nat) (gx : Nat) (gq1 : Nat) (gq4 : Nat) (gq13 : Nat) (gq136 : Nat) (gq137 : Nat) (gq138 : Nat) (gq150 : Nat) (gq151 : Nat) (gq152 : Nat) (gq153 : Nat) (gq154 : Nat) (gq155 : Nat) (gq156 : Nat) (gq157 : Nat) (gq158 : Nat) (gq159 : Nat) (gq160 : Nat) (gq161 : Nat) (gq172 : Nat) (gq184 : Nat) (sz : Nat)  : Met l yX11_merge (wz yX11_merge cX11_merge 3 (Option.some Jvm.ClassFile.FieldType.int)) ({ frames := 0, cells := 0, slots := 0, locals := 0 }) (va_Pc [.ref gx] (PRE zs dC dI [(gx, .inr (11, [.ref gq1, .ref gq4, .ref gq13, .ref gq136, .ref gq137, .ref gq138, .ref gq172, .ref gq184, .ref gq150, .ref gq161, .int (-1)])), (gq150, .inr (2, [.int 0, .ref gq151, .ref gq152, .ref gq153, .ref gq154, .ref gq155, .ref gq156, .int 0, .ref gq157, .ref gq158, .ref gq159, .int 0, .ref gq160]))] [] sz)) (va_Qi (fun (r : Int32) (_ : Unit) => r = 0) (fun _ t => POST dC dI [(gx, .inr (11, [.ref gq1, .ref gq4, .ref gq13, .ref gq136, .ref gq137, .ref gq138, .ref gq172, .ref gq184, .ref gq150, .ref gq161, .int (-1)])), (gq150, .inr (2, [.int 0, .ref gq151, .ref gq152, .ref gq153, .ref gq154, .ref gq155, .ref gq156, .int 0, .ref gq157, .ref gq158, .ref gq159, .int 0, .ref gq160]))] [] (va_A [(gx, .inr (11, [.ref gq1, .ref gq4, .ref gq13, .ref gq136, .ref gq137, .ref gq138, .ref gq172, .ref gq184, .ref gq150, .ref gq161, .int (-1)])), (gq150, .inr (2, [.int 0, .ref gq151, .ref gq152, .ref gq153, .ref gq154, .ref gq155, .ref gq156, .int 0, .ref gq157, .ref gq158, .ref gq159, .int 0, .ref gq160]))] sz) t) (va_A [(gx, .inr (11, [.ref gq1, .ref gq4, .ref gq13, .ref gq136, .ref gq137, .ref gq138, .ref gq172, .ref gq184, .ref gq150, .ref gq161, .int (-1)])), (gq150, .inr (2, [.int 0, .ref gq151, .ref gq152, .ref gq153, .ref gq154, .ref gq155, .ref gq156, .int 0, .ref gq157, .ref gq158, .ref gq159, .int 0, .ref gq160]))] sz)) 0 0 (va_A [(gx, .inr (11, [.ref gq1, .ref gq4, .ref gq13, .ref gq136, .ref gq137, .ref gq138, .ref gq172, .ref gq184, .ref gq150, .ref gq161, .int (-1)])), (gq150, .inr (2, [.int 0, .ref gq151, .ref gq152, .ref gq153, .ref gq154, .ref gq155, .ref gq156, .int 0, .ref gq157, .ref gq158, .ref gq159, .int 0, .ref gq160]))] sz) := by
  refine Met.ofW (cc := cX11_merge) (maxL := 3) (ret := (Option.some Jvm.ClassFile.FieldType.int)) (by decide) rfl ?_
  intro p e s m args below meth c s₁ B hml hv
  obtain ⟨rfl, hsz, hP, hK, hD0, hE⟩ := hv
  have hx := B.exec
  have hb := B.bytes
  have hr := B.returns
  have hts0 := atoms_spec (ws := wz yX11_merge cX11_merge 3 (Option.some Jvm.ClassFile.FieldType.int)) B.pre
  have hts : ∀ w ∈ gw, w.before _ s = true := fun w h => hts0 w (List.mem_cons_of_mem _ h)
  have hown : s.vm.findClass RX11 = some m.cls := findClass_of_methodNamed B.named
  have hlocks := B.notSynchronized
  subst hsz
  have hD := hD0.self (sz := s.heap.size)
  generalize hAe : va_A [(gx, .inr (11, [.ref gq1, .ref gq4, .ref gq13, .ref gq136, .ref gq137, .ref gq138, .ref gq172, .ref gq184, .ref gq150, .ref gq161, .int (-1)])), (gq150, .inr (2, [.int 0, .ref gq151, .ref gq152, .ref gq153, .ref gq154, .ref gq155, .ref gq156, .int 0, .ref gq157, .ref gq158, .ref gq159, .int 0, .ref gq160]))] s.heap.size = A at hD hE ⊢
  have hA : ∀ q : Nat, s.heap.size ≤ q → A q := fun q h => by rw [← hAe]; exact Or.inr h
  have hS : va_S A s.heap s.heap [] := va_S.rf
  have hP : va_P (dC, dI) cls [(gx, .inr (11, [.ref gq1, .ref gq4, .ref gq13, .ref gq136, .ref gq137, .ref gq138, .ref gq172, .ref gq184, .ref gq150, .ref gq161, .int (-1)])), (gq150, .inr (2, [.int 0, .ref gq151, .ref gq152, .ref gq153, .ref gq154, .ref gq155, .ref gq156, .int 0, .ref gq157, .ref gq158, .ref gq159, .int 0, .ref gq160]))] s.heap := hP
  have hl := lv_entry ([.ref gx]) (n := 3) (Nat.le_of_ble_eq_true rfl)
  rw [lg_entry_eq]
  generalize (lg_sl ([.ref gx]) ++ List.replicate (3 - (lg_sl ([.ref gx])).length) Slot.unset).toArray = ls at hl ⊢
  have hl : lv_has ls 3 [(0, .ref gx)] := hl
  refine lv_iconst (v := 0) hx hb dX11_merge_0 (by decide) ?_
  refine lv_istore_n (lv' := [(1, .int 0), (0, .ref gx)]) hx hb dX11_merge_1 rfl hl (by decide) rfl (fun ls hl => ?_)
  refine lv_iconst (v := 0) hx hb dX11_merge_2 (by decide) ?_
  refine lv_istore_n (lv' := [(2, .int 0), (1, .int 0), (0, .ref gx)]) hx hb dX11_merge_3 rfl hl (by decide) rfl (fun ls hl => ?_)
  refine lv_iload_n hx hb dX11_merge_4 rfl (lv_at hl 0 rfl) ?_
  refine lv_aload_n hx hb dX11_merge_5 rfl (lv_at hl 2 rfl) ?_
  refine va_get (D := (dC, dI)) (ci := 11) (v := .ref gq150) (C := RX11) (T := TX11) (N := 11) hx hb hts i_X11 hown hK hP 0 rfl rfl 8 (by decide) (hts _ qw195) (fun _ h9 => h9) rfl dX11_merge_6 ?_
  refine va_get (D := (dC, dI)) (ci := 2) (v := .int 0) (C := RX6) (T := TX6) (N := 13) hx hb hts i_X6 hown hK hP 1 rfl rfl 0 (by decide) (hts _ qw215) (fun _ h9 => h9) rfl dX11_merge_9 ?_
  refine lv_icmp_ge (tgt := 37) hx hb dX11_merge_12 (by decide) (fun _ => ?_) (fun c => absurd (by decide) c)
  refine lv_iload_n hx hb dX11_merge_37 rfl (lv_at hl 1 rfl) ?_
  have hP9 : va_P (dC, dI) cls [(gx, .inr (11, [.ref gq1, .ref gq4, .ref gq13, .ref gq136, .ref gq137, .ref gq138, .ref gq172, .ref gq184, .ref gq150, .ref gq161, .int (-1)])), (gq150, .inr (2, [.int 0, .ref gq151, .ref gq152, .ref gq153, .ref gq154, .ref gq155, .ref gq156, .int 0, .ref gq157, .ref gq158, .ref gq159, .int 0, .ref gq160]))] s.heap := hP.sub [0, 1] rfl
  have hD9 : va_D A [(gx, .inr (11, [.ref gq1, .ref gq4, .ref gq13, .ref gq136, .ref gq137, .ref gq138, .ref gq172, .ref gq184, .ref gq150, .ref gq161, .int (-1)])), (gq150, .inr (2, [.int 0, .ref gq151, .ref gq152, .ref gq153, .ref gq154, .ref gq155, .ref gq156, .int 0, .ref gq157, .ref gq158, .ref gq159, .int 0, .ref gq160]))] := hD.sub [0, 1] (by decide) rfl
  have hK9 : va_K (dC, dI) cls [] s := hK.sub [] rfl
  exact W.iret (v := 0) hx hb hr (fun t ht hW => ⟨⟨0, (), rfl, rfl, ⟨by rw [ht]; exact hP9, va_K.moved hW.alike hK9, hD9⟩⟩, hS.F ht⟩) hS.2.2 dX11_merge_38
set_option maxHeartbeats 4000000 in
set_option maxRecDepth 100000 in
theorem kX11_settle {zs : Nat × Nat} (l : Launch) (dC : Nat → ClassId) (dI : Nat → Nat → Nat) (gx : Nat) (gq1 : Nat) (gq4 : Nat) (gq13 : Nat) (gq136 : Nat) (gq137 : Nat) (gq138 : Nat) (gq150 : Nat) (gq151 : Nat) (gq152 : Nat) (gq153 : Nat) (gq154 : Nat) (gq155 : Nat) (gq156 : Nat) (gq157 : Nat) (gq158 : Nat) (gq159 : Nat) (gq160 : Nat) (gq161 : Nat) (gq172 : Nat) (gq184 : Nat) (sz : Nat)  : Met l yX11_settle (wz yX11_settle cX11_settle 5 (Option.some Jvm.ClassFile.FieldType.int)) ({ frames := 1, cells := 0, slots := 0, locals := 22 }) (va_Pc [.ref gx] (PRE zs dC dI [(gx, .inr (11, [.ref gq1, .ref gq4, .ref gq13, .ref gq136, .ref gq137, .ref gq138, .ref gq172, .ref gq184, .ref gq150, .ref gq161, .int (-1)])), (gq150, .inr (2, [.int 0, .ref gq151, .ref gq152, .ref gq153, .ref gq154, .ref gq155, .ref gq156, .int 0, .ref gq157, .ref gq158, .ref gq159, .int 0, .ref gq160]))] [] sz)) (va_Qi (fun (r : Int32) (_ : Unit) => r = 1) (fun _ t => POST dC dI [(gx, .inr (11, [.ref gq1, .ref gq4, .ref gq13, .ref gq136, .ref gq137, .ref gq138, .ref gq172, .ref gq184, .ref gq150, .ref gq161, .int (-1)])), (gq150, .inr (2, [.int 0, .ref gq151, .ref gq152, .ref gq153, .ref gq154, .ref gq155, .ref gq156, .int 0, .ref gq157, .ref gq158, .ref gq159, .int 0, .ref gq160]))] [] (va_A [(gx, .inr (11, [.ref gq1, .ref gq4, .ref gq13, .ref gq136, .ref gq137, .ref gq138, .ref gq172, .ref gq184, .ref gq150, .ref gq161, .int (-1)])), (gq150, .inr (2, [.int 0, .ref gq151, .ref gq152, .ref gq153, .ref gq154, .ref gq155, .ref gq156, .int 0, .ref gq157, .ref gq158, .ref gq159, .int 0, .ref gq160]))] sz) t) (va_A [(gx, .inr (11, [.ref gq1, .ref gq4, .ref gq13, .ref gq136, .ref gq137, .ref gq138, .ref gq172, .ref gq184, .ref gq150, .ref gq161, .int (-1)])), (gq150, .inr (2, [.int 0, .ref gq151, .ref gq152, .ref gq153, .ref gq154, .ref gq155, .ref gq156, .int 0, .ref gq157, .ref gq158, .ref gq159, .int 0, .ref gq160]))] sz)) 0 0 (va_A [(gx, .inr (11, [.ref gq1, .ref gq4, .ref gq13, .ref gq136, .ref gq137, .ref gq138, .ref gq172, .ref gq184, .ref gq150, .ref gq161, .int (-1)])), (gq150, .inr (2, [.int 0, .ref gq151, .ref gq152, .ref gq153, .ref gq154, .ref gq155, .ref gq156, .int 0, .ref gq157, .ref gq158, .ref gq159, .int 0, .ref gq160]))] sz) := by
  refine Met.ofW (cc := cX11_settle) (maxL := 5) (ret := (Option.some Jvm.ClassFile.FieldType.int)) (by decide) rfl ?_
  intro p e s m args below meth c s₁ B hml hv
  obtain ⟨rfl, hsz, hP, hK, hD0, hE⟩ := hv
  have hx := B.exec
  have hb := B.bytes
  have hr := B.returns
  have hts0 := atoms_spec (ws := wz yX11_settle cX11_settle 5 (Option.some Jvm.ClassFile.FieldType.int)) B.pre
  have hts : ∀ w ∈ gw, w.before _ s = true := fun w h => hts0 w (List.mem_cons_of_mem _ h)
  have hown : s.vm.findClass RX11 = some m.cls := findClass_of_methodNamed B.named
  have hlocks := B.notSynchronized
  subst hsz
  have hD := hD0.self (sz := s.heap.size)
  generalize hAe : va_A [(gx, .inr (11, [.ref gq1, .ref gq4, .ref gq13, .ref gq136, .ref gq137, .ref gq138, .ref gq172, .ref gq184, .ref gq150, .ref gq161, .int (-1)])), (gq150, .inr (2, [.int 0, .ref gq151, .ref gq152, .ref gq153, .ref gq154, .ref gq155, .ref gq156, .int 0, .ref gq157, .ref gq158, .ref gq159, .int 0, .ref gq160]))] s.heap.size = A at hD hE ⊢
  have hA : ∀ q : Nat, s.heap.size ≤ q → A q := fun q h => by rw [← hAe]; exact Or.inr h
  have hS : va_S A s.heap s.heap [] := va_S.rf
  have hP : va_P (dC, dI) cls [(gx, .inr (11, [.ref gq1, .ref gq4, .ref gq13, .ref gq136, .ref gq137, .ref gq138, .ref gq172, .ref gq184, .ref gq150, .ref gq161, .int (-1)])), (gq150, .inr (2, [.int 0, .ref gq151, .ref gq152, .ref gq153, .ref gq154, .ref gq155, .ref gq156, .int 0, .ref gq157, .ref gq158, .ref gq159, .int 0, .ref gq160]))] s.heap := hP
  have hl := lv_entry ([.ref gx]) (n := 5) (Nat.le_of_ble_eq_true rfl)
  rw [lg_entry_eq]
  generalize (lg_sl ([.ref gx]) ++ List.replicate (5 - (lg_sl ([.ref gx])).length) Slot.unset).toArray = ls at hl ⊢
  have hl : lv_has ls 5 [(0, .ref gx)] := hl
  refine lv_iconst (v := 0) hx hb dX11_settle_0 (by decide) ?_
  refine lv_istore_n (lv' := [(1, .int 0), (0, .ref gx)]) hx hb dX11_settle_1 rfl hl (by decide) rfl (fun ls hl => ?_)
  refine lv_iconst (v := 1) hx hb dX11_settle_2 (by decide) ?_
  refine lv_istore_n (lv' := [(2, .int 1), (1, .int 0), (0, .ref gx)]) hx hb dX11_settle_3 rfl hl (by decide) rfl (fun ls hl => ?_)
  refine lv_iconst (v := 0) hx hb dX11_settle_4 (by decide) ?_
  refine lv_istore_n (lv' := [(3, .int 0), (2, .int 1), (1, .int 0), (0, .ref gx)]) hx hb dX11_settle_5 rfl hl (by decide) rfl (fun ls hl => ?_)
  refine lv_iload_n hx hb dX11_settle_6 rfl (lv_at hl 1 rfl) ?_
  refine lv_if_eq (tgt := 78) hx hb dX11_settle_7 (by decide) (fun c => absurd c (by decide)) (fun _ => ?_)
  refine lv_iload_n hx hb dX11_settle_10 rfl (lv_at hl 0 rfl) ?_
  refine lv_ldc (v := 1000000) hx hb hown (hts _ qw217) dX11_settle_11 ?_
  refine lv_icmp_ge (tgt := 78) hx hb dX11_settle_13 (by decide) (fun c => absurd c (by decide)) (fun _ => ?_)
  refine lv_aload_n hx hb dX11_settle_16 rfl (lv_at hl 3 rfl) ?_
  have hPc := hP.sub (ws' := [(gx, .inr (11, [.ref gq1, .ref gq4, .ref gq13, .ref gq136, .ref gq137, .ref gq138, .ref gq172, .ref gq184, .ref gq150, .ref gq161, .int (-1)])), (gq150, .inr (2, [.int 0, .ref gq151, .ref gq152, .ref gq153, .ref gq154, .ref gq155, .ref gq156, .int 0, .ref gq157, .ref gq158, .ref gq159, .int 0, .ref gq160]))]) [0, 1] rfl
  have hDc := hD.sub (ws' := [(gx, .inr (11, [.ref gq1, .ref gq4, .ref gq13, .ref gq136, .ref gq137, .ref gq138, .ref gq172, .ref gq184, .ref gq150, .ref gq161, .int (-1)])), (gq150, .inr (2, [.int 0, .ref gq151, .ref gq152, .ref gq153, .ref gq154, .ref gq155, .ref gq156, .int 0, .ref gq157, .ref gq158, .ref gq159, .int 0, .ref gq160]))]) [0, 1] (by decide) rfl
  have hKc := hK.sub (tys' := []) [] rfl
  have hFc := va_free (wc := [(gx, .inr (11, [.ref gq1, .ref gq4, .ref gq13, .ref gq136, .ref gq137, .ref gq138, .ref gq172, .ref gq184, .ref gq150, .ref gq161, .int (-1)])), (gq150, .inr (2, [.int 0, .ref gq151, .ref gq152, .ref gq153, .ref gq154, .ref gq155, .ref gq156, .int 0, .ref gq157, .ref gq158, .ref gq159, .int 0, .ref gq160]))]) hD hS hA [0, 1] rfl
  refine va_calli (va_runV (As := []) (rest := []) ⟨hx, hb, hml, hown, hts⟩ (kX11_fold l dC dI (gx := gx) (gq1 := gq1) (gq4 := gq4) (gq13 := gq13) (gq136 := gq136) (gq137 := gq137) (gq138 := gq138) (gq150 := gq150) (gq151 := gq151) (gq152 := gq152) (gq153 := gq153) (gq154 := gq154) (gq155 := gq155) (gq156 := gq156) (gq157 := gq157) (gq158 := gq158) (gq159 := gq159) (gq160 := gq160) (gq161 := gq161) (gq172 := gq172) (gq184 := gq184) (sz := _)) (cwV 0 hts (gi_V qw219 qw220 qw221 qw222 (gi_z qw218)) rfl rfl rfl (by decide +kernel) ⟨Nat.le_of_ble_eq_true rfl, Nat.le_of_ble_eq_true rfl⟩) ⟨PRE.blind, va_recv hKc hPc (ci := 11) (q0 := 0) rfl rfl, PRE.of hE hS hFc hPc hKc hDc⟩ rfl rfl hl.1 rfl (lv_room (Nat.le_of_ble_eq_true rfl)) dX11_settle_17 ⟨Nat.le_of_ble_eq_true rfl, Nat.le_of_ble_eq_true rfl⟩) hS (fun q _ h => hFc q h) hFc (fun r1 u t H locs ht hvm hw hB hz1 hk1 hS => ?_)
  obtain ⟨hP, hD, hK⟩ := JOIN (wr := []) hP hD hK [0, 1] [] [] rfl rfl (by decide) (by decide) rfl hk1 hFc ht hvm hB
  have hP : va_P (dC, dI) cls [(gx, .inr (11, [.ref gq1, .ref gq4, .ref gq13, .ref gq136, .ref gq137, .ref gq138, .ref gq172, .ref gq184, .ref gq150, .ref gq161, .int (-1)])), (gq150, .inr (2, [.int 0, .ref gq151, .ref gq152, .ref gq153, .ref gq154, .ref gq155, .ref gq156, .int 0, .ref gq157, .ref gq158, .ref gq159, .int 0, .ref gq160]))] H := hP
  have hD : va_D A [(gx, .inr (11, [.ref gq1, .ref gq4, .ref gq13, .ref gq136, .ref gq137, .ref gq138, .ref gq172, .ref gq184, .ref gq150, .ref gq161, .int (-1)])), (gq150, .inr (2, [.int 0, .ref gq151, .ref gq152, .ref gq153, .ref gq154, .ref gq155, .ref gq156, .int 0, .ref gq157, .ref gq158, .ref gq159, .int 0, .ref gq160]))] := hD
  have hK : va_K (dC, dI) cls [] s := hK
  refine W.widen (k := 0) (n := 0) (Nat.le_of_ble_eq_true rfl) (Nat.le_of_ble_eq_true rfl) ?_
  obtain rfl : r1 = 0 := hw
  refine lv_istore (lv' := [(4, .int 0), (3, .int 0), (2, .int 1), (1, .int 0), (0, .ref gx)]) hx hb dX11_settle_20 hl (by decide) rfl (fun ls hl => ?_)
  refine lv_iload hx hb dX11_settle_22 (lv_at hl 0 rfl) ?_
  refine lv_aload_n hx hb dX11_settle_24 rfl (lv_at hl 4 rfl) ?_
  have hPc := hP.sub (ws' := [(gx, .inr (11, [.ref gq1, .ref gq4, .ref gq13, .ref gq136, .ref gq137, .ref gq138, .ref gq172, .ref gq184, .ref gq150, .ref gq161, .int (-1)])), (gq150, .inr (2, [.int 0, .ref gq151, .ref gq152, .ref gq153, .ref gq154, .ref gq155, .ref gq156, .int 0, .ref gq157, .ref gq158, .ref gq159, .int 0, .ref gq160]))]) [0, 1] rfl
  have hDc := hD.sub (ws' := [(gx, .inr (11, [.ref gq1, .ref gq4, .ref gq13, .ref gq136, .ref gq137, .ref gq138, .ref gq172, .ref gq184, .ref gq150, .ref gq161, .int (-1)])), (gq150, .inr (2, [.int 0, .ref gq151, .ref gq152, .ref gq153, .ref gq154, .ref gq155, .ref gq156, .int 0, .ref gq157, .ref gq158, .ref gq159, .int 0, .ref gq160]))]) [0, 1] (by decide) rfl
  have hKc := hK.sub (tys' := []) [] rfl
  have hFc := va_free (wc := [(gx, .inr (11, [.ref gq1, .ref gq4, .ref gq13, .ref gq136, .ref gq137, .ref gq138, .ref gq172, .ref gq184, .ref gq150, .ref gq161, .int (-1)])), (gq150, .inr (2, [.int 0, .ref gq151, .ref gq152, .ref gq153, .ref gq154, .ref gq155, .ref gq156, .int 0, .ref gq157, .ref gq158, .ref gq159, .int 0, .ref gq160]))]) hD hS hA [0, 1] rfl
  refine va_calli (va_runV (As := []) (rest := [.int 0]) ⟨hx, hb, hml, hown, hts⟩ (kX11_same l dC dI (gx := gx) (gq1 := gq1) (gq4 := gq4) (gq13 := gq13) (gq136 := gq136) (gq137 := gq137) (gq138 := gq138) (gq150 := gq150) (gq151 := gq151) (gq152 := gq152) (gq153 := gq153) (gq154 := gq154) (gq155 := gq155) (gq156 := gq156) (gq157 := gq157) (gq158 := gq158) (gq159 := gq159) (gq160 := gq160) (gq161 := gq161) (gq172 := gq172) (gq184 := gq184) (sz := _)) (cwV 0 hts (gi_V qw224 qw225 qw226 qw222 (gi_z qw223)) rfl rfl rfl (by decide +kernel) ⟨Nat.le_of_ble_eq_true rfl, Nat.le_of_ble_eq_true rfl⟩) ⟨PRE.blind, va_recv hKc hPc (ci := 11) (q0 := 0) rfl rfl, PRE.of hE hS hFc hPc hKc hDc⟩ rfl rfl hl.1 rfl (lv_room (Nat.le_of_ble_eq_true rfl)) dX11_settle_25 ⟨Nat.le_of_ble_eq_true rfl, Nat.le_of_ble_eq_true rfl⟩) hS (fun q _ h => hFc q h) hFc (fun r2 u t H locs ht hvm hw hB hz1 hk1 hS => ?_)
  obtain ⟨hP, hD, hK⟩ := JOIN (wr := []) hP hD hK [0, 1] [] [] rfl rfl (by decide) (by decide) rfl hk1 hFc ht hvm hB
  have hP : va_P (dC, dI) cls [(gx, .inr (11, [.ref gq1, .ref gq4, .ref gq13, .ref gq136, .ref gq137, .ref gq138, .ref gq172, .ref gq184, .ref gq150, .ref gq161, .int (-1)])), (gq150, .inr (2, [.int 0, .ref gq151, .ref gq152, .ref gq153, .ref gq154, .ref gq155, .ref gq156, .int 0, .ref gq157, .ref gq158, .ref gq159, .int 0, .ref gq160]))] H := hP
  have hD : va_D A [(gx, .inr (11, [.ref gq1, .ref gq4, .ref gq13, .ref gq136, .ref gq137, .ref gq138, .ref gq172, .ref gq184, .ref gq150, .ref gq161, .int (-1)])), (gq150, .inr (2, [.int 0, .ref gq151, .ref gq152, .ref gq153, .ref gq154, .ref gq155, .ref gq156, .int 0, .ref gq157, .ref gq158, .ref gq159, .int 0, .ref gq160]))] := hD
  have hK : va_K (dC, dI) cls [] s := hK
  refine W.widen (k := 0) (n := 0) (Nat.le_of_ble_eq_true rfl) (Nat.le_of_ble_eq_true rfl) ?_
  obtain rfl : r2 = 0 := hw
  refine lv_iadd hx hb dX11_settle_28 ?_
  refine lv_topC (y := 0) (by decide) ?_
  refine lv_istore (lv' := [(4, .int 0), (3, .int 0), (2, .int 1), (1, .int 0), (0, .ref gx)]) hx hb dX11_settle_29 hl (by decide) rfl (fun ls hl => ?_)
  refine lv_iload hx hb dX11_settle_31 (lv_at hl 0 rfl) ?_
  refine lv_aload_n hx hb dX11_settle_33 rfl (lv_at hl 4 rfl) ?_
  have hPc := hP.sub (ws' := [(gx, .inr (11, [.ref gq1, .ref gq4, .ref gq13, .ref gq136, .ref gq137, .ref gq138, .ref gq172, .ref gq184, .ref gq150, .ref gq161, .int (-1)])), (gq150, .inr (2, [.int 0, .ref gq151, .ref gq152, .ref gq153, .ref gq154, .ref gq155, .ref gq156, .int 0, .ref gq157, .ref gq158, .ref gq159, .int 0, .ref gq160]))]) [0, 1] rfl
  have hDc := hD.sub (ws' := [(gx, .inr (11, [.ref gq1, .ref gq4, .ref gq13, .ref gq136, .ref gq137, .ref gq138, .ref gq172, .ref gq184, .ref gq150, .ref gq161, .int (-1)])), (gq150, .inr (2, [.int 0, .ref gq151, .ref gq152, .ref gq153, .ref gq154, .ref gq155, .ref gq156, .int 0, .ref gq157, .ref gq158, .ref gq159, .int 0, .ref gq160]))]) [0, 1] (by decide) rfl
  have hKc := hK.sub (tys' := []) [] rfl
  have hFc := va_free (wc := [(gx, .inr (11, [.ref gq1, .ref gq4, .ref gq13, .ref gq136, .ref gq137, .ref gq138, .ref gq172, .ref gq184, .ref gq150, .ref gq161, .int (-1)])), (gq150, .inr (2, [.int 0, .ref gq151, .ref gq152, .ref gq153, .ref gq154, .ref gq155, .ref gq156, .int 0, .ref gq157, .ref gq158, .ref gq159, .int 0, .ref gq160]))]) hD hS hA [0, 1] rfl
  refine va_calli (va_runV (As := []) (rest := [.int 0]) ⟨hx, hb, hml, hown, hts⟩ (kX11_drop l dC dI (gx := gx) (gq1 := gq1) (gq4 := gq4) (gq13 := gq13) (gq136 := gq136) (gq137 := gq137) (gq138 := gq138) (gq150 := gq150) (gq151 := gq151) (gq152 := gq152) (gq153 := gq153) (gq154 := gq154) (gq155 := gq155) (gq156 := gq156) (gq157 := gq157) (gq158 := gq158) (gq159 := gq159) (gq160 := gq160) (gq161 := gq161) (gq172 := gq172) (gq184 := gq184) (sz := _)) (cwV 0 hts (gi_V qw228 qw229 qw230 qw222 (gi_z qw227)) rfl rfl rfl (by decide +kernel) ⟨Nat.le_of_ble_eq_true rfl, Nat.le_of_ble_eq_true rfl⟩) ⟨PRE.blind, va_recv hKc hPc (ci := 11) (q0 := 0) rfl rfl, PRE.of hE hS hFc hPc hKc hDc⟩ rfl rfl hl.1 rfl (lv_room (Nat.le_of_ble_eq_true rfl)) dX11_settle_34 ⟨Nat.le_of_ble_eq_true rfl, Nat.le_of_ble_eq_true rfl⟩) hS (fun q _ h => hFc q h) hFc (fun r3 u t H locs ht hvm hw hB hz1 hk1 hS => ?_)
  obtain ⟨hP, hD, hK⟩ := JOIN (wr := []) hP hD hK [0, 1] [] [] rfl rfl (by decide) (by decide) rfl hk1 hFc ht hvm hB
  have hP : va_P (dC, dI) cls [(gx, .inr (11, [.ref gq1, .ref gq4, .ref gq13, .ref gq136, .ref gq137, .ref gq138, .ref gq172, .ref gq184, .ref gq150, .ref gq161, .int (-1)])), (gq150, .inr (2, [.int 0, .ref gq151, .ref gq152, .ref gq153, .ref gq154, .ref gq155, .ref gq156, .int 0, .ref gq157, .ref gq158, .ref gq159, .int 0, .ref gq160]))] H := hP
  have hD : va_D A [(gx, .inr (11, [.ref gq1, .ref gq4, .ref gq13, .ref gq136, .ref gq137, .ref gq138, .ref gq172, .ref gq184, .ref gq150, .ref gq161, .int (-1)])), (gq150, .inr (2, [.int 0, .ref gq151, .ref gq152, .ref gq153, .ref gq154, .ref gq155, .ref gq156, .int 0, .ref gq157, .ref gq158, .ref gq159, .int 0, .ref gq160]))] := hD
  have hK : va_K (dC, dI) cls [] s := hK
  refine W.widen (k := 0) (n := 0) (Nat.le_of_ble_eq_true rfl) (Nat.le_of_ble_eq_true rfl) ?_
  obtain rfl : r3 = 0 := hw
  refine lv_iadd hx hb dX11_settle_37 ?_
  refine lv_topC (y := 0) (by decide) ?_
  refine lv_istore (lv' := [(4, .int 0), (3, .int 0), (2, .int 1), (1, .int 0), (0, .ref gx)]) hx hb dX11_settle_38 hl (by decide) rfl (fun ls hl => ?_)
  refine lv_iload hx hb dX11_settle_40 (lv_at hl 0 rfl) ?_
  refine lv_aload_n hx hb dX11_settle_42 rfl (lv_at hl 4 rfl) ?_
  have hPc := hP.sub (ws' := [(gx, .inr (11, [.ref gq1, .ref gq4, .ref gq13, .ref gq136, .ref gq137, .ref gq138, .ref gq172, .ref gq184, .ref gq150, .ref gq161, .int (-1)])), (gq150, .inr (2, [.int 0, .ref gq151, .ref gq152, .ref gq153, .ref gq154, .ref gq155, .ref gq156, .int 0, .ref gq157, .ref gq158, .ref gq159, .int 0, .ref gq160]))]) [0, 1] rfl
  have hDc := hD.sub (ws' := [(gx, .inr (11, [.ref gq1, .ref gq4, .ref gq13, .ref gq136, .ref gq137, .ref gq138, .ref gq172, .ref gq184, .ref gq150, .ref gq161, .int (-1)])), (gq150, .inr (2, [.int 0, .ref gq151, .ref gq152, .ref gq153, .ref gq154, .ref gq155, .ref gq156, .int 0, .ref gq157, .ref gq158, .ref gq159, .int 0, .ref gq160]))]) [0, 1] (by decide) rfl
  have hKc := hK.sub (tys' := []) [] rfl
  have hFc := va_free (wc := [(gx, .inr (11, [.ref gq1, .ref gq4, .ref gq13, .ref gq136, .ref gq137, .ref gq138, .ref gq172, .ref gq184, .ref gq150, .ref gq161, .int (-1)])), (gq150, .inr (2, [.int 0, .ref gq151, .ref gq152, .ref gq153, .ref gq154, .ref gq155, .ref gq156, .int 0, .ref gq157, .ref gq158, .ref gq159, .int 0, .ref gq160]))]) hD hS hA [0, 1] rfl
  refine va_calli (va_runV (As := []) (rest := [.int 0]) ⟨hx, hb, hml, hown, hts⟩ (kX11_lift l dC dI (gx := gx) (gq1 := gq1) (gq4 := gq4) (gq13 := gq13) (gq136 := gq136) (gq137 := gq137) (gq138 := gq138) (gq150 := gq150) (gq151 := gq151) (gq152 := gq152) (gq153 := gq153) (gq154 := gq154) (gq155 := gq155) (gq156 := gq156) (gq157 := gq157) (gq158 := gq158) (gq159 := gq159) (gq160 := gq160) (gq161 := gq161) (gq172 := gq172) (gq184 := gq184) (sz := _)) (cwV 0 hts (gi_V qw232 qw233 qw234 qw222 (gi_z qw231)) rfl rfl rfl (by decide +kernel) ⟨Nat.le_of_ble_eq_true rfl, Nat.le_of_ble_eq_true rfl⟩) ⟨PRE.blind, va_recv hKc hPc (ci := 11) (q0 := 0) rfl rfl, PRE.of hE hS hFc hPc hKc hDc⟩ rfl rfl hl.1 rfl (lv_room (Nat.le_of_ble_eq_true rfl)) dX11_settle_43 ⟨Nat.le_of_ble_eq_true rfl, Nat.le_of_ble_eq_true rfl⟩) hS (fun q _ h => hFc q h) hFc (fun r4 u t H locs ht hvm hw hB hz1 hk1 hS => ?_)
  obtain ⟨hP, hD, hK⟩ := JOIN (wr := []) hP hD hK [0, 1] [] [] rfl rfl (by decide) (by decide) rfl hk1 hFc ht hvm hB
  have hP : va_P (dC, dI) cls [(gx, .inr (11, [.ref gq1, .ref gq4, .ref gq13, .ref gq136, .ref gq137, .ref gq138, .ref gq172, .ref gq184, .ref gq150, .ref gq161, .int (-1)])), (gq150, .inr (2, [.int 0, .ref gq151, .ref gq152, .ref gq153, .ref gq154, .ref gq155, .ref gq156, .int 0, .ref gq157, .ref gq158, .ref gq159, .int 0, .ref gq160]))] H := hP
  have hD : va_D A [(gx, .inr (11, [.ref gq1, .ref gq4, .ref gq13, .ref gq136, .ref gq137, .ref gq138, .ref gq172, .ref gq184, .ref gq150, .ref gq161, .int (-1)])), (gq150, .inr (2, [.int 0, .ref gq151, .ref gq152, .ref gq153, .ref gq154, .ref gq155, .ref gq156, .int 0, .ref gq157, .ref gq158, .ref gq159, .int 0, .ref gq160]))] := hD
  have hK : va_K (dC, dI) cls [] s := hK
  refine W.widen (k := 0) (n := 0) (Nat.le_of_ble_eq_true rfl) (Nat.le_of_ble_eq_true rfl) ?_
  obtain rfl : r4 = 0 := hw
  refine lv_iadd hx hb dX11_settle_46 ?_
  refine lv_topC (y := 0) (by decide) ?_
  refine lv_istore (lv' := [(4, .int 0), (3, .int 0), (2, .int 1), (1, .int 0), (0, .ref gx)]) hx hb dX11_settle_47 hl (by decide) rfl (fun ls hl => ?_)
  refine lv_iload hx hb dX11_settle_49 (lv_at hl 0 rfl) ?_
  refine lv_aload_n hx hb dX11_settle_51 rfl (lv_at hl 4 rfl) ?_
  have hPc := hP.sub (ws' := [(gx, .inr (11, [.ref gq1, .ref gq4, .ref gq13, .ref gq136, .ref gq137, .ref gq138, .ref gq172, .ref gq184, .ref gq150, .ref gq161, .int (-1)])), (gq150, .inr (2, [.int 0, .ref gq151, .ref gq152, .ref gq153, .ref gq154, .ref gq155, .ref gq156, .int 0, .ref gq157, .ref gq158, .ref gq159, .int 0, .ref gq160]))]) [0, 1] rfl
  have hDc := hD.sub (ws' := [(gx, .inr (11, [.ref gq1, .ref gq4, .ref gq13, .ref gq136, .ref gq137, .ref gq138, .ref gq172, .ref gq184, .ref gq150, .ref gq161, .int (-1)])), (gq150, .inr (2, [.int 0, .ref gq151, .ref gq152, .ref gq153, .ref gq154, .ref gq155, .ref gq156, .int 0, .ref gq157, .ref gq158, .ref gq159, .int 0, .ref gq160]))]) [0, 1] (by decide) rfl
  have hKc := hK.sub (tys' := []) [] rfl
  have hFc := va_free (wc := [(gx, .inr (11, [.ref gq1, .ref gq4, .ref gq13, .ref gq136, .ref gq137, .ref gq138, .ref gq172, .ref gq184, .ref gq150, .ref gq161, .int (-1)])), (gq150, .inr (2, [.int 0, .ref gq151, .ref gq152, .ref gq153, .ref gq154, .ref gq155, .ref gq156, .int 0, .ref gq157, .ref gq158, .ref gq159, .int 0, .ref gq160]))]) hD hS hA [0, 1] rfl
  refine va_calli (va_runV (As := []) (rest := [.int 0]) ⟨hx, hb, hml, hown, hts⟩ (kX11_merge l dC dI (gx := gx) (gq1 := gq1) (gq4 := gq4) (gq13 := gq13) (gq136 := gq136) (gq137 := gq137) (gq138 := gq138) (gq150 := gq150) (gq151 := gq151) (gq152 := gq152) (gq153 := gq153) (gq154 := gq154) (gq155 := gq155) (gq156 := gq156) (gq157 := gq157) (gq158 := gq158) (gq159 := gq159) (gq160 := gq160) (gq161 := gq161) (gq172 := gq172) (gq184 := gq184) (sz := _)) (cwV 0 hts (gi_V qw236 qw237 qw238 qw222 (gi_z qw235)) rfl rfl rfl (by decide +kernel) ⟨Nat.le_of_ble_eq_true rfl, Nat.le_of_ble_eq_true rfl⟩) ⟨PRE.blind, va_recv hKc hPc (ci := 11) (q0 := 0) rfl rfl, PRE.of hE hS hFc hPc hKc hDc⟩ rfl rfl hl.1 rfl (lv_room (Nat.le_of_ble_eq_true rfl)) dX11_settle_52 ⟨Nat.le_of_ble_eq_true rfl, Nat.le_of_ble_eq_true rfl⟩) hS (fun q _ h => hFc q h) hFc (fun r5 u t H locs ht hvm hw hB hz1 hk1 hS => ?_)
  obtain ⟨hP, hD, hK⟩ := JOIN (wr := []) hP hD hK [0, 1] [] [] rfl rfl (by decide) (by decide) rfl hk1 hFc ht hvm hB
  have hP : va_P (dC, dI) cls [(gx, .inr (11, [.ref gq1, .ref gq4, .ref gq13, .ref gq136, .ref gq137, .ref gq138, .ref gq172, .ref gq184, .ref gq150, .ref gq161, .int (-1)])), (gq150, .inr (2, [.int 0, .ref gq151, .ref gq152, .ref gq153, .ref gq154, .ref gq155, .ref gq156, .int 0, .ref gq157, .ref gq158, .ref gq159, .int 0, .ref gq160]))] H := hP
  have hD : va_D A [(gx, .inr (11, [.ref gq1, .ref gq4, .ref gq13, .ref gq136, .ref gq137, .ref gq138, .ref gq172, .ref gq184, .ref gq150, .ref gq161, .int (-1)])), (gq150, .inr (2, [.int 0, .ref gq151, .ref gq152, .ref gq153, .ref gq154, .ref gq155, .ref gq156, .int 0, .ref gq157, .ref gq158, .ref gq159, .int 0, .ref gq160]))] := hD
  have hK : va_K (dC, dI) cls [] s := hK
  refine W.widen (k := 0) (n := 0) (Nat.le_of_ble_eq_true rfl) (Nat.le_of_ble_eq_true rfl) ?_
  obtain rfl : r5 = 0 := hw
  refine lv_iadd hx hb dX11_settle_55 ?_
  refine lv_topC (y := 0) (by decide) ?_
  refine lv_istore (lv' := [(4, .int 0), (3, .int 0), (2, .int 1), (1, .int 0), (0, .ref gx)]) hx hb dX11_settle_56 hl (by decide) rfl (fun ls hl => ?_)
  refine lv_iload hx hb dX11_settle_58 (lv_at hl 0 rfl) ?_
  refine lv_if_le (tgt := 67) hx hb dX11_settle_60 (by decide) (fun _ => ?_) (fun c => absurd (by decide) c)
  refine lv_iconst (v := 0) hx hb dX11_settle_67 (by decide) ?_
  refine lv_istore_n (lv' := [(2, .int 0), (4, .int 0), (3, .int 0), (1, .int 0), (0, .ref gx)]) hx hb dX11_settle_68 rfl hl (by decide) rfl (fun ls hl => ?_)
  refine lv_iinc (v := 1) (lv' := [(1, .int 1), (2, .int 0), (4, .int 0), (3, .int 0), (0, .ref gx)]) hx hb dX11_settle_69 hl (k := 3) rfl (by decide) (by decide) rfl (fun ls hl => ?_)
  refine lv_iinc (v := 1) (lv' := [(3, .int 1), (1, .int 1), (2, .int 0), (4, .int 0), (0, .ref gx)]) hx hb dX11_settle_72 hl (k := 3) rfl (by decide) (by decide) rfl (fun ls hl => ?_)
  refine lv_goto (tgt := 6) hx hb dX11_settle_75 (by decide) ?_
  refine lv_iload_n hx hb dX11_settle_6 rfl (lv_at hl 2 rfl) ?_
  refine lv_if_eq (tgt := 78) hx hb dX11_settle_7 (by decide) (fun _ => ?_) (fun c => absurd (by decide) c)
  refine lv_iload_n hx hb dX11_settle_78 rfl (lv_at hl 1 rfl) ?_
  have hP9 : va_P (dC, dI) cls [(gx, .inr (11, [.ref gq1, .ref gq4, .ref gq13, .ref gq136, .ref gq137, .ref gq138, .ref gq172, .ref gq184, .ref gq150, .ref gq161, .int (-1)])), (gq150, .inr (2, [.int 0, .ref gq151, .ref gq152, .ref gq153, .ref gq154, .ref gq155, .ref gq156, .int 0, .ref gq157, .ref gq158, .ref gq159, .int 0, .ref gq160]))] H := hP.sub [0, 1] rfl
  have hD9 : va_D A [(gx, .inr (11, [.ref gq1, .ref gq4, .ref gq13, .ref gq136, .ref gq137, .ref gq138, .ref gq172, .ref gq184, .ref gq150, .ref gq161, .int (-1)])), (gq150, .inr (2, [.int 0, .ref gq151, .ref gq152, .ref gq153, .ref gq154, .ref gq155, .ref gq156, .int 0, .ref gq157, .ref gq158, .ref gq159, .int 0, .ref gq160]))] := hD.sub [0, 1] (by decide) rfl
  have hK9 : va_K (dC, dI) cls [] s := hK.sub [] rfl
  exact W.iret (v := 1) hx hb hr (fun t ht hW => ⟨⟨1, (), rfl, rfl, ⟨by rw [ht]; exact hP9, va_K.moved hW.alike hK9, hD9⟩⟩, hS.F ht⟩) hS.2.2 dX11_settle_79
set_option maxHeartbeats 4000000 in
set_option maxRecDepth 100000 in
theorem kX11_outcome {zs : Nat × Nat} (l : Launch) (dC : Nat → ClassId) (dI : Nat → Nat → Nat) (gx : Nat) (gq1 : Nat) (gq4 : Nat) (gq13 : Nat) (gq136 : Nat) (gq137 : Nat) (gq138 : Nat) (gq150 : Nat) (gq161 : Nat) (gq172 : Nat) (gq173 : Nat) (gq175 : Nat) (gq176 : Nat) (gq177 : Nat) (gq178 : Nat) (gq179 : Nat) (gq180 : Nat) (gq181 : Nat) (gq182 : Nat) (gq183 : Nat) (gq184 : Nat) (sz : Nat)  : Met l yX11_outcome (wz yX11_outcome cX11_outcome 1 (Option.some Jvm.ClassFile.FieldType.int)) ({ frames := 0, cells := 0, slots := 0, locals := 0 }) (va_Pc [.ref gx] (PRE zs dC dI [(gx, .inr (11, [.ref gq1, .ref gq4, .ref gq13, .ref gq136, .ref gq137, .ref gq138, .ref gq172, .ref gq184, .ref gq150, .ref gq161, .int (-1)])), (gq172, .inr (10, [.int 0, .int 0, .int 0, .ref gq173, .ref gq150, .ref gq13, .ref gq138, .ref gq175, .int 0, .int 0, .ref gq176, .ref gq177, .ref gq178, .ref gq179, .ref gq180, .ref gq181, .ref gq182, .int 0, .ref gq183, .int 0]))] [] sz)) (va_Qi (fun (r : Int32) (_ : Unit) => r = 0) (fun _ t => POST dC dI [(gx, .inr (11, [.ref gq1, .ref gq4, .ref gq13, .ref gq136, .ref gq137, .ref gq138, .ref gq172, .ref gq184, .ref gq150, .ref gq161, .int (-1)])), (gq172, .inr (10, [.int 0, .int 0, .int 0, .ref gq173, .ref gq150, .ref gq13, .ref gq138, .ref gq175, .int 0, .int 0, .ref gq176, .ref gq177, .ref gq178, .ref gq179, .ref gq180, .ref gq181, .ref gq182, .int 0, .ref gq183, .int 0]))] [] (va_A [(gx, .inr (11, [.ref gq1, .ref gq4, .ref gq13, .ref gq136, .ref gq137, .ref gq138, .ref gq172, .ref gq184, .ref gq150, .ref gq161, .int (-1)])), (gq172, .inr (10, [.int 0, .int 0, .int 0, .ref gq173, .ref gq150, .ref gq13, .ref gq138, .ref gq175, .int 0, .int 0, .ref gq176, .ref gq177, .ref gq178, .ref gq179, .ref gq180, .ref gq181, .ref gq182, .int 0, .ref gq183, .int 0]))] sz) t) (va_A [(gx, .inr (11, [.ref gq1, .ref gq4, .ref gq13, .ref gq136, .ref gq137, .ref gq138, .ref gq172, .ref gq184, .ref gq150, .ref gq161, .int (-1)])), (gq172, .inr (10, [.int 0, .int 0, .int 0, .ref gq173, .ref gq150, .ref gq13, .ref gq138, .ref gq175, .int 0, .int 0, .ref gq176, .ref gq177, .ref gq178, .ref gq179, .ref gq180, .ref gq181, .ref gq182, .int 0, .ref gq183, .int 0]))] sz)) 0 0 (va_A [(gx, .inr (11, [.ref gq1, .ref gq4, .ref gq13, .ref gq136, .ref gq137, .ref gq138, .ref gq172, .ref gq184, .ref gq150, .ref gq161, .int (-1)])), (gq172, .inr (10, [.int 0, .int 0, .int 0, .ref gq173, .ref gq150, .ref gq13, .ref gq138, .ref gq175, .int 0, .int 0, .ref gq176, .ref gq177, .ref gq178, .ref gq179, .ref gq180, .ref gq181, .ref gq182, .int 0, .ref gq183, .int 0]))] sz) := by
  refine Met.ofW (cc := cX11_outcome) (maxL := 1) (ret := (Option.some Jvm.ClassFile.FieldType.int)) (by decide) rfl ?_
  intro p e s m args below meth c s₁ B hml hv
  obtain ⟨rfl, hsz, hP, hK, hD0, hE⟩ := hv
  have hx := B.exec
  have hb := B.bytes
  have hr := B.returns
  have hts0 := atoms_spec (ws := wz yX11_outcome cX11_outcome 1 (Option.some Jvm.ClassFile.FieldType.int)) B.pre
  have hts : ∀ w ∈ gw, w.before _ s = true := fun w h => hts0 w (List.mem_cons_of_mem _ h)
  have hown : s.vm.findClass RX11 = some m.cls := findClass_of_methodNamed B.named
  have hlocks := B.notSynchronized
  subst hsz
  have hD := hD0.self (sz := s.heap.size)
  generalize hAe : va_A [(gx, .inr (11, [.ref gq1, .ref gq4, .ref gq13, .ref gq136, .ref gq137, .ref gq138, .ref gq172, .ref gq184, .ref gq150, .ref gq161, .int (-1)])), (gq172, .inr (10, [.int 0, .int 0, .int 0, .ref gq173, .ref gq150, .ref gq13, .ref gq138, .ref gq175, .int 0, .int 0, .ref gq176, .ref gq177, .ref gq178, .ref gq179, .ref gq180, .ref gq181, .ref gq182, .int 0, .ref gq183, .int 0]))] s.heap.size = A at hD hE ⊢
  have hA : ∀ q : Nat, s.heap.size ≤ q → A q := fun q h => by rw [← hAe]; exact Or.inr h
  have hS : va_S A s.heap s.heap [] := va_S.rf
  have hP : va_P (dC, dI) cls [(gx, .inr (11, [.ref gq1, .ref gq4, .ref gq13, .ref gq136, .ref gq137, .ref gq138, .ref gq172, .ref gq184, .ref gq150, .ref gq161, .int (-1)])), (gq172, .inr (10, [.int 0, .int 0, .int 0, .ref gq173, .ref gq150, .ref gq13, .ref gq138, .ref gq175, .int 0, .int 0, .ref gq176, .ref gq177, .ref gq178, .ref gq179, .ref gq180, .ref gq181, .ref gq182, .int 0, .ref gq183, .int 0]))] s.heap := hP
  have hl := lv_entry ([.ref gx]) (n := 1) (Nat.le_of_ble_eq_true rfl)
  rw [lg_entry_eq]
  generalize (lg_sl ([.ref gx]) ++ List.replicate (1 - (lg_sl ([.ref gx])).length) Slot.unset).toArray = ls at hl ⊢
  have hl : lv_has ls 1 [(0, .ref gx)] := hl
  refine lv_aload_n hx hb dX11_outcome_0 rfl (lv_at hl 0 rfl) ?_
  refine va_get (D := (dC, dI)) (ci := 11) (v := .ref gq172) (C := RX11) (T := TX11) (N := 11) hx hb hts i_X11 hown hK hP 0 rfl rfl 6 (by decide) (hts _ qw203) (fun _ h9 => h9) rfl dX11_outcome_1 ?_
  refine va_get (D := (dC, dI)) (ci := 10) (v := .int 0) (C := RX3) (T := TX3) (N := 20) hx hb hts i_X3 hown hK hP 1 rfl rfl 0 (by decide) (hts _ qw239) (fun _ h9 => h9) rfl dX11_outcome_4 ?_
  have hP9 : va_P (dC, dI) cls [(gx, .inr (11, [.ref gq1, .ref gq4, .ref gq13, .ref gq136, .ref gq137, .ref gq138, .ref gq172, .ref gq184, .ref gq150, .ref gq161, .int (-1)])), (gq172, .inr (10, [.int 0, .int 0, .int 0, .ref gq173, .ref gq150, .ref gq13, .ref gq138, .ref gq175, .int 0, .int 0, .ref gq176, .ref gq177, .ref gq178, .ref gq179, .ref gq180, .ref gq181, .ref gq182, .int 0, .ref gq183, .int 0]))] s.heap := hP.sub [0, 1] rfl
  have hD9 : va_D A [(gx, .inr (11, [.ref gq1, .ref gq4, .ref gq13, .ref gq136, .ref gq137, .ref gq138, .ref gq172, .ref gq184, .ref gq150, .ref gq161, .int (-1)])), (gq172, .inr (10, [.int 0, .int 0, .int 0, .ref gq173, .ref gq150, .ref gq13, .ref gq138, .ref gq175, .int 0, .int 0, .ref gq176, .ref gq177, .ref gq178, .ref gq179, .ref gq180, .ref gq181, .ref gq182, .int 0, .ref gq183, .int 0]))] := hD.sub [0, 1] (by decide) rfl
  have hK9 : va_K (dC, dI) cls [] s := hK.sub [] rfl
  exact W.iret (v := 0) hx hb hr (fun t ht hW => ⟨⟨0, (), rfl, rfl, ⟨by rw [ht]; exact hP9, va_K.moved hW.alike hK9, hD9⟩⟩, hS.F ht⟩) hS.2.2 dX11_outcome_7
set_option maxHeartbeats 4000000 in
set_option maxRecDepth 100000 in
theorem kX11_result {zs : Nat × Nat} (l : Launch) (dC : Nat → ClassId) (dI : Nat → Nat → Nat) (gx : Nat) (gq1 : Nat) (gq4 : Nat) (gq13 : Nat) (gq136 : Nat) (gq137 : Nat) (gq138 : Nat) (gq150 : Nat) (gq161 : Nat) (gq172 : Nat) (gq173 : Nat) (gq175 : Nat) (gq176 : Nat) (gq177 : Nat) (gq178 : Nat) (gq179 : Nat) (gq180 : Nat) (gq181 : Nat) (gq182 : Nat) (gq183 : Nat) (gq184 : Nat) (sz : Nat)  : Met l yX11_result (wz yX11_result cX11_result 1 (Option.some Jvm.ClassFile.FieldType.int)) ({ frames := 0, cells := 0, slots := 0, locals := 0 }) (va_Pc [.ref gx] (PRE zs dC dI [(gx, .inr (11, [.ref gq1, .ref gq4, .ref gq13, .ref gq136, .ref gq137, .ref gq138, .ref gq172, .ref gq184, .ref gq150, .ref gq161, .int (-1)])), (gq172, .inr (10, [.int 0, .int 0, .int 0, .ref gq173, .ref gq150, .ref gq13, .ref gq138, .ref gq175, .int 0, .int 0, .ref gq176, .ref gq177, .ref gq178, .ref gq179, .ref gq180, .ref gq181, .ref gq182, .int 0, .ref gq183, .int 0]))] [] sz)) (va_Qi (fun (r : Int32) (_ : Unit) => r = 0) (fun _ t => POST dC dI [(gx, .inr (11, [.ref gq1, .ref gq4, .ref gq13, .ref gq136, .ref gq137, .ref gq138, .ref gq172, .ref gq184, .ref gq150, .ref gq161, .int (-1)])), (gq172, .inr (10, [.int 0, .int 0, .int 0, .ref gq173, .ref gq150, .ref gq13, .ref gq138, .ref gq175, .int 0, .int 0, .ref gq176, .ref gq177, .ref gq178, .ref gq179, .ref gq180, .ref gq181, .ref gq182, .int 0, .ref gq183, .int 0]))] [] (va_A [(gx, .inr (11, [.ref gq1, .ref gq4, .ref gq13, .ref gq136, .ref gq137, .ref gq138, .ref gq172, .ref gq184, .ref gq150, .ref gq161, .int (-1)])), (gq172, .inr (10, [.int 0, .int 0, .int 0, .ref gq173, .ref gq150, .ref gq13, .ref gq138, .ref gq175, .int 0, .int 0, .ref gq176, .ref gq177, .ref gq178, .ref gq179, .ref gq180, .ref gq181, .ref gq182, .int 0, .ref gq183, .int 0]))] sz) t) (va_A [(gx, .inr (11, [.ref gq1, .ref gq4, .ref gq13, .ref gq136, .ref gq137, .ref gq138, .ref gq172, .ref gq184, .ref gq150, .ref gq161, .int (-1)])), (gq172, .inr (10, [.int 0, .int 0, .int 0, .ref gq173, .ref gq150, .ref gq13, .ref gq138, .ref gq175, .int 0, .int 0, .ref gq176, .ref gq177, .ref gq178, .ref gq179, .ref gq180, .ref gq181, .ref gq182, .int 0, .ref gq183, .int 0]))] sz)) 0 0 (va_A [(gx, .inr (11, [.ref gq1, .ref gq4, .ref gq13, .ref gq136, .ref gq137, .ref gq138, .ref gq172, .ref gq184, .ref gq150, .ref gq161, .int (-1)])), (gq172, .inr (10, [.int 0, .int 0, .int 0, .ref gq173, .ref gq150, .ref gq13, .ref gq138, .ref gq175, .int 0, .int 0, .ref gq176, .ref gq177, .ref gq178, .ref gq179, .ref gq180, .ref gq181, .ref gq182, .int 0, .ref gq183, .int 0]))] sz) := by
  refine Met.ofW (cc := cX11_result) (maxL := 1) (ret := (Option.some Jvm.ClassFile.FieldType.int)) (by decide) rfl ?_
  intro p e s m args below meth c s₁ B hml hv
  obtain ⟨rfl, hsz, hP, hK, hD0, hE⟩ := hv
  have hx := B.exec
  have hb := B.bytes
  have hr := B.returns
  have hts0 := atoms_spec (ws := wz yX11_result cX11_result 1 (Option.some Jvm.ClassFile.FieldType.int)) B.pre
  have hts : ∀ w ∈ gw, w.before _ s = true := fun w h => hts0 w (List.mem_cons_of_mem _ h)
  have hown : s.vm.findClass RX11 = some m.cls := findClass_of_methodNamed B.named
  have hlocks := B.notSynchronized
  subst hsz
  have hD := hD0.self (sz := s.heap.size)
  generalize hAe : va_A [(gx, .inr (11, [.ref gq1, .ref gq4, .ref gq13, .ref gq136, .ref gq137, .ref gq138, .ref gq172, .ref gq184, .ref gq150, .ref gq161, .int (-1)])), (gq172, .inr (10, [.int 0, .int 0, .int 0, .ref gq173, .ref gq150, .ref gq13, .ref gq138, .ref gq175, .int 0, .int 0, .ref gq176, .ref gq177, .ref gq178, .ref gq179, .ref gq180, .ref gq181, .ref gq182, .int 0, .ref gq183, .int 0]))] s.heap.size = A at hD hE ⊢
  have hA : ∀ q : Nat, s.heap.size ≤ q → A q := fun q h => by rw [← hAe]; exact Or.inr h
  have hS : va_S A s.heap s.heap [] := va_S.rf
  have hP : va_P (dC, dI) cls [(gx, .inr (11, [.ref gq1, .ref gq4, .ref gq13, .ref gq136, .ref gq137, .ref gq138, .ref gq172, .ref gq184, .ref gq150, .ref gq161, .int (-1)])), (gq172, .inr (10, [.int 0, .int 0, .int 0, .ref gq173, .ref gq150, .ref gq13, .ref gq138, .ref gq175, .int 0, .int 0, .ref gq176, .ref gq177, .ref gq178, .ref gq179, .ref gq180, .ref gq181, .ref gq182, .int 0, .ref gq183, .int 0]))] s.heap := hP
  have hl := lv_entry ([.ref gx]) (n := 1) (Nat.le_of_ble_eq_true rfl)
  rw [lg_entry_eq]
  generalize (lg_sl ([.ref gx]) ++ List.replicate (1 - (lg_sl ([.ref gx])).length) Slot.unset).toArray = ls at hl ⊢
  have hl : lv_has ls 1 [(0, .ref gx)] := hl
  refine lv_aload_n hx hb dX11_result_0 rfl (lv_at hl 0 rfl) ?_
  refine va_get (D := (dC, dI)) (ci := 11) (v := .ref gq172) (C := RX11) (T := TX11) (N := 11) hx hb hts i_X11 hown hK hP 0 rfl rfl 6 (by decide) (hts _ qw203) (fun _ h9 => h9) rfl dX11_result_1 ?_
  refine va_get (D := (dC, dI)) (ci := 10) (v := .int 0) (C := RX3) (T := TX3) (N := 20) hx hb hts i_X3 hown hK hP 1 rfl rfl 1 (by decide) (hts _ qw240) (fun _ h9 => h9) rfl dX11_result_4 ?_
  have hP9 : va_P (dC, dI) cls [(gx, .inr (11, [.ref gq1, .ref gq4, .ref gq13, .ref gq136, .ref gq137, .ref gq138, .ref gq172, .ref gq184, .ref gq150, .ref gq161, .int (-1)])), (gq172, .inr (10, [.int 0, .int 0, .int 0, .ref gq173, .ref gq150, .ref gq13, .ref gq138, .ref gq175, .int 0, .int 0, .ref gq176, .ref gq177, .ref gq178, .ref gq179, .ref gq180, .ref gq181, .ref gq182, .int 0, .ref gq183, .int 0]))] s.heap := hP.sub [0, 1] rfl
  have hD9 : va_D A [(gx, .inr (11, [.ref gq1, .ref gq4, .ref gq13, .ref gq136, .ref gq137, .ref gq138, .ref gq172, .ref gq184, .ref gq150, .ref gq161, .int (-1)])), (gq172, .inr (10, [.int 0, .int 0, .int 0, .ref gq173, .ref gq150, .ref gq13, .ref gq138, .ref gq175, .int 0, .int 0, .ref gq176, .ref gq177, .ref gq178, .ref gq179, .ref gq180, .ref gq181, .ref gq182, .int 0, .ref gq183, .int 0]))] := hD.sub [0, 1] (by decide) rfl
  have hK9 : va_K (dC, dI) cls [] s := hK.sub [] rfl
  exact W.iret (v := 0) hx hb hr (fun t ht hW => ⟨⟨0, (), rfl, rfl, ⟨by rw [ht]; exact hP9, va_K.moved hW.alike hK9, hD9⟩⟩, hS.F ht⟩) hS.2.2 dX11_result_7
set_option maxHeartbeats 4000000 in
set_option maxRecDepth 100000 in
theorem kX11_stepsRun {zs : Nat × Nat} (l : Launch) (dC : Nat → ClassId) (dI : Nat → Nat → Nat) (gx : Nat) (gq1 : Nat) (gq4 : Nat) (gq13 : Nat) (gq136 : Nat) (gq137 : Nat) (gq138 : Nat) (gq150 : Nat) (gq161 : Nat) (gq172 : Nat) (gq173 : Nat) (gq175 : Nat) (gq176 : Nat) (gq177 : Nat) (gq178 : Nat) (gq179 : Nat) (gq180 : Nat) (gq181 : Nat) (gq182 : Nat) (gq183 : Nat) (gq184 : Nat) (sz : Nat)  : Met l yX11_stepsRun (wz yX11_stepsRun cX11_stepsRun 1 (Option.some Jvm.ClassFile.FieldType.int)) ({ frames := 0, cells := 0, slots := 0, locals := 0 }) (va_Pc [.ref gx] (PRE zs dC dI [(gx, .inr (11, [.ref gq1, .ref gq4, .ref gq13, .ref gq136, .ref gq137, .ref gq138, .ref gq172, .ref gq184, .ref gq150, .ref gq161, .int (-1)])), (gq172, .inr (10, [.int 0, .int 0, .int 0, .ref gq173, .ref gq150, .ref gq13, .ref gq138, .ref gq175, .int 0, .int 0, .ref gq176, .ref gq177, .ref gq178, .ref gq179, .ref gq180, .ref gq181, .ref gq182, .int 0, .ref gq183, .int 0]))] [] sz)) (va_Qi (fun (r : Int32) (_ : Unit) => r = 0) (fun _ t => POST dC dI [(gx, .inr (11, [.ref gq1, .ref gq4, .ref gq13, .ref gq136, .ref gq137, .ref gq138, .ref gq172, .ref gq184, .ref gq150, .ref gq161, .int (-1)])), (gq172, .inr (10, [.int 0, .int 0, .int 0, .ref gq173, .ref gq150, .ref gq13, .ref gq138, .ref gq175, .int 0, .int 0, .ref gq176, .ref gq177, .ref gq178, .ref gq179, .ref gq180, .ref gq181, .ref gq182, .int 0, .ref gq183, .int 0]))] [] (va_A [(gx, .inr (11, [.ref gq1, .ref gq4, .ref gq13, .ref gq136, .ref gq137, .ref gq138, .ref gq172, .ref gq184, .ref gq150, .ref gq161, .int (-1)])), (gq172, .inr (10, [.int 0, .int 0, .int 0, .ref gq173, .ref gq150, .ref gq13, .ref gq138, .ref gq175, .int 0, .int 0, .ref gq176, .ref gq177, .ref gq178, .ref gq179, .ref gq180, .ref gq181, .ref gq182, .int 0, .ref gq183, .int 0]))] sz) t) (va_A [(gx, .inr (11, [.ref gq1, .ref gq4, .ref gq13, .ref gq136, .ref gq137, .ref gq138, .ref gq172, .ref gq184, .ref gq150, .ref gq161, .int (-1)])), (gq172, .inr (10, [.int 0, .int 0, .int 0, .ref gq173, .ref gq150, .ref gq13, .ref gq138, .ref gq175, .int 0, .int 0, .ref gq176, .ref gq177, .ref gq178, .ref gq179, .ref gq180, .ref gq181, .ref gq182, .int 0, .ref gq183, .int 0]))] sz)) 0 0 (va_A [(gx, .inr (11, [.ref gq1, .ref gq4, .ref gq13, .ref gq136, .ref gq137, .ref gq138, .ref gq172, .ref gq184, .ref gq150, .ref gq161, .int (-1)])), (gq172, .inr (10, [.int 0, .int 0, .int 0, .ref gq173, .ref gq150, .ref gq13, .ref gq138, .ref gq175, .int 0, .int 0, .ref gq176, .ref gq177, .ref gq178, .ref gq179, .ref gq180, .ref gq181, .ref gq182, .int 0, .ref gq183, .int 0]))] sz) := by
  refine Met.ofW (cc := cX11_stepsRun) (maxL := 1) (ret := (Option.some Jvm.ClassFile.FieldType.int)) (by decide) rfl ?_
  intro p e s m args below meth c s₁ B hml hv
  obtain ⟨rfl, hsz, hP, hK, hD0, hE⟩ := hv
  have hx := B.exec
  have hb := B.bytes
  have hr := B.returns
  have hts0 := atoms_spec (ws := wz yX11_stepsRun cX11_stepsRun 1 (Option.some Jvm.ClassFile.FieldType.int)) B.pre
  have hts : ∀ w ∈ gw, w.before _ s = true := fun w h => hts0 w (List.mem_cons_of_mem _ h)
  have hown : s.vm.findClass RX11 = some m.cls := findClass_of_methodNamed B.named
  have hlocks := B.notSynchronized
  subst hsz
  have hD := hD0.self (sz := s.heap.size)
  generalize hAe : va_A [(gx, .inr (11, [.ref gq1, .ref gq4, .ref gq13, .ref gq136, .ref gq137, .ref gq138, .ref gq172, .ref gq184, .ref gq150, .ref gq161, .int (-1)])), (gq172, .inr (10, [.int 0, .int 0, .int 0, .ref gq173, .ref gq150, .ref gq13, .ref gq138, .ref gq175, .int 0, .int 0, .ref gq176, .ref gq177, .ref gq178, .ref gq179, .ref gq180, .ref gq181, .ref gq182, .int 0, .ref gq183, .int 0]))] s.heap.size = A at hD hE ⊢
  have hA : ∀ q : Nat, s.heap.size ≤ q → A q := fun q h => by rw [← hAe]; exact Or.inr h
  have hS : va_S A s.heap s.heap [] := va_S.rf
  have hP : va_P (dC, dI) cls [(gx, .inr (11, [.ref gq1, .ref gq4, .ref gq13, .ref gq136, .ref gq137, .ref gq138, .ref gq172, .ref gq184, .ref gq150, .ref gq161, .int (-1)])), (gq172, .inr (10, [.int 0, .int 0, .int 0, .ref gq173, .ref gq150, .ref gq13, .ref gq138, .ref gq175, .int 0, .int 0, .ref gq176, .ref gq177, .ref gq178, .ref gq179, .ref gq180, .ref gq181, .ref gq182, .int 0, .ref gq183, .int 0]))] s.heap := hP
  have hl := lv_entry ([.ref gx]) (n := 1) (Nat.le_of_ble_eq_true rfl)
  rw [lg_entry_eq]
  generalize (lg_sl ([.ref gx]) ++ List.replicate (1 - (lg_sl ([.ref gx])).length) Slot.unset).toArray = ls at hl ⊢
  have hl : lv_has ls 1 [(0, .ref gx)] := hl
  refine lv_aload_n hx hb dX11_stepsRun_0 rfl (lv_at hl 0 rfl) ?_
  refine va_get (D := (dC, dI)) (ci := 11) (v := .ref gq172) (C := RX11) (T := TX11) (N := 11) hx hb hts i_X11 hown hK hP 0 rfl rfl 6 (by decide) (hts _ qw203) (fun _ h9 => h9) rfl dX11_stepsRun_1 ?_
  refine va_get (D := (dC, dI)) (ci := 10) (v := .int 0) (C := RX3) (T := TX3) (N := 20) hx hb hts i_X3 hown hK hP 1 rfl rfl 2 (by decide) (hts _ qw241) (fun _ h9 => h9) rfl dX11_stepsRun_4 ?_
  have hP9 : va_P (dC, dI) cls [(gx, .inr (11, [.ref gq1, .ref gq4, .ref gq13, .ref gq136, .ref gq137, .ref gq138, .ref gq172, .ref gq184, .ref gq150, .ref gq161, .int (-1)])), (gq172, .inr (10, [.int 0, .int 0, .int 0, .ref gq173, .ref gq150, .ref gq13, .ref gq138, .ref gq175, .int 0, .int 0, .ref gq176, .ref gq177, .ref gq178, .ref gq179, .ref gq180, .ref gq181, .ref gq182, .int 0, .ref gq183, .int 0]))] s.heap := hP.sub [0, 1] rfl
  have hD9 : va_D A [(gx, .inr (11, [.ref gq1, .ref gq4, .ref gq13, .ref gq136, .ref gq137, .ref gq138, .ref gq172, .ref gq184, .ref gq150, .ref gq161, .int (-1)])), (gq172, .inr (10, [.int 0, .int 0, .int 0, .ref gq173, .ref gq150, .ref gq13, .ref gq138, .ref gq175, .int 0, .int 0, .ref gq176, .ref gq177, .ref gq178, .ref gq179, .ref gq180, .ref gq181, .ref gq182, .int 0, .ref gq183, .int 0]))] := hD.sub [0, 1] (by decide) rfl
  have hK9 : va_K (dC, dI) cls [] s := hK.sub [] rfl
  exact W.iret (v := 0) hx hb hr (fun t ht hW => ⟨⟨0, (), rfl, rfl, ⟨by rw [ht]; exact hP9, va_K.moved hW.alike hK9, hD9⟩⟩, hS.F ht⟩) hS.2.2 dX11_stepsRun_7
