abbrev cX24_load : ByteArray := prog_14_method_15_code
def yX24_load : MethodName := ⟨RX24, "load", "()I"⟩
abbrev cX19_read : ByteArray := prog_22_method_18_code
def yX19_read : MethodName := ⟨RX19, "read", "()V"⟩
abbrev cX19_advance : ByteArray := prog_22_method_9_code
def yX19_advance : MethodName := ⟨RX19, "advance", "()V"⟩
abbrev cX19_function : ByteArray := prog_22_method_20_code
def yX19_function : MethodName := ⟨RX19, "function", "()V"⟩
abbrev cX19_must : ByteArray := prog_22_method_13_code
def yX19_must : MethodName := ⟨RX19, "must", "(Z)V"⟩
theorem dX19_advance_0 : decode cX19_advance 0 = .ok (.aload_n 0, 1) := by decide +kernel
theorem dX19_advance_1 : decode cX19_advance 1 = .ok (.getfield 78, 3) := by decide +kernel
theorem dX19_advance_4 : decode cX19_advance 4 = .ok (.aload_n 0, 1) := by decide +kernel
theorem dX19_advance_5 : decode cX19_advance 5 = .ok (.getfield 47, 3) := by decide +kernel
theorem dX19_advance_8 : decode cX19_advance 8 = .ok (.if_icmp .ge 44, 3) := by decide +kernel
theorem dX19_advance_52 : decode cX19_advance 52 = .ok (.aload_n 0, 1) := by decide +kernel
theorem dX19_advance_53 : decode cX19_advance 53 = .ok (.aload_n 0, 1) := by decide +kernel
theorem dX19_advance_54 : decode cX19_advance 54 = .ok (.getfield 78, 3) := by decide +kernel
theorem dX19_advance_57 : decode cX19_advance 57 = .ok (.putfield 81, 3) := by decide +kernel
theorem dX19_advance_60 : decode cX19_advance 60 = .ok (.aload_n 0, 1) := by decide +kernel
theorem dX19_advance_61 : decode cX19_advance 61 = .ok (.iconst 0, 1) := by decide +kernel
theorem dX19_advance_62 : decode cX19_advance 62 = .ok (.putfield 84, 3) := by decide +kernel
theorem dX19_advance_65 : decode cX19_advance 65 = .ok (.aload_n 0, 1) := by decide +kernel
theorem dX19_advance_66 : decode cX19_advance 66 = .ok (.getfield 78, 3) := by decide +kernel
theorem dX19_advance_69 : decode cX19_advance 69 = .ok (.aload_n 0, 1) := by decide +kernel
theorem dX19_advance_70 : decode cX19_advance 70 = .ok (.getfield 47, 3) := by decide +kernel
theorem dX19_advance_73 : decode cX19_advance 73 = .ok (.if_icmp .ne 4, 3) := by decide +kernel
theorem dX19_advance_76 : decode cX19_advance 76 = .ok (.return_, 1) := by decide +kernel
theorem dX19_function_0 : decode cX19_function 0 = .ok (.aload_n 0, 1) := by decide +kernel
theorem dX19_function_1 : decode cX19_function 1 = .ok (.aload_n 0, 1) := by decide +kernel
theorem dX19_function_2 : decode cX19_function 2 = .ok (.getfield 84, 3) := by decide +kernel
theorem dX19_function_5 : decode cX19_function 5 = .ok (.bipush 13, 2) := by decide +kernel
theorem dX19_function_7 : decode cX19_function 7 = .ok (.if_icmp .ne 19, 3) := by decide +kernel
theorem dX19_function_26 : decode cX19_function 26 = .ok (.iconst 0, 1) := by decide +kernel
theorem dX19_function_27 : decode cX19_function 27 = .ok (.invokevirtual 133, 3) := by decide +kernel
theorem dX19_must_0 : decode cX19_must 0 = .ok (.iload_n 1, 1) := by decide +kernel
theorem dX19_must_1 : decode cX19_must 1 = .ok (.ifCond .ne 15, 3) := by decide +kernel
theorem dX19_must_4 : decode cX19_must 4 = .ok (.new 90, 3) := by decide +kernel
theorem dX19_must_7 : decode cX19_must 7 = .ok (.dup, 1) := by decide +kernel
theorem dX19_must_8 : decode cX19_must 8 = .ok (.aload_n 0, 1) := by decide +kernel
theorem dX19_must_9 : decode cX19_must 9 = .ok (.getfield 81, 3) := by decide +kernel
theorem dX19_must_12 : decode cX19_must 12 = .ok (.invokespecial 92, 3) := by decide +kernel
theorem dX19_must_15 : decode cX19_must 15 = .ok (.athrow, 1) := by decide +kernel
theorem dX19_read_0 : decode cX19_read 0 = .ok (.aload_n 0, 1) := by decide +kernel
theorem dX19_read_1 : decode cX19_read 1 = .ok (.invokevirtual 137, 3) := by decide +kernel
theorem dX19_read_4 : decode cX19_read 4 = .ok (.aload_n 0, 1) := by decide +kernel
theorem dX19_read_5 : decode cX19_read 5 = .ok (.invokevirtual 143, 3) := by decide +kernel
theorem dX24_load_0 : decode cX24_load 0 = .ok (.aload_n 0, 1) := by decide +kernel
theorem dX24_load_1 : decode cX24_load 1 = .ok (.iconst 0, 1) := by decide +kernel
theorem dX24_load_2 : decode cX24_load 2 = .ok (.putfield 52, 3) := by decide +kernel
theorem dX24_load_5 : decode cX24_load 5 = .ok (.new 85, 3) := by decide +kernel
theorem dX24_load_8 : decode cX24_load 8 = .ok (.dup, 1) := by decide +kernel
theorem dX24_load_9 : decode cX24_load 9 = .ok (.aload_n 0, 1) := by decide +kernel
theorem dX24_load_10 : decode cX24_load 10 = .ok (.getfield 15, 3) := by decide +kernel
theorem dX24_load_13 : decode cX24_load 13 = .ok (.aload_n 0, 1) := by decide +kernel
theorem dX24_load_14 : decode cX24_load 14 = .ok (.getfield 55, 3) := by decide +kernel
theorem dX24_load_17 : decode cX24_load 17 = .ok (.invokespecial 87, 3) := by decide +kernel
theorem dX24_load_20 : decode cX24_load 20 = .ok (.astore_n 1, 1) := by decide +kernel
theorem dX24_load_21 : decode cX24_load 21 = .ok (.aload_n 0, 1) := by decide +kernel
theorem dX24_load_22 : decode cX24_load 22 = .ok (.iconst 0, 1) := by decide +kernel
theorem dX24_load_23 : decode cX24_load 23 = .ok (.putfield 55, 3) := by decide +kernel
theorem dX24_load_26 : decode cX24_load 26 = .ok (.aload_n 0, 1) := by decide +kernel
theorem dX24_load_27 : decode cX24_load 27 = .ok (.iconst (-1), 1) := by decide +kernel
theorem dX24_load_28 : decode cX24_load 28 = .ok (.putfield 19, 3) := by decide +kernel
theorem dX24_load_31 : decode cX24_load 31 = .ok (.aload_n 1, 1) := by decide +kernel
theorem dX24_load_32 : decode cX24_load 32 = .ok (.invokevirtual 90, 3) := by decide +kernel
theorem dX24_load_38 : decode cX24_load 38 = .ok (.astore_n 2, 1) := by decide +kernel
theorem dX24_load_39 : decode cX24_load 39 = .ok (.aload_n 0, 1) := by decide +kernel
theorem dX24_load_40 : decode cX24_load 40 = .ok (.aload_n 2, 1) := by decide +kernel
theorem dX24_load_41 : decode cX24_load 41 = .ok (.getfield 95, 3) := by decide +kernel
theorem dX24_load_44 : decode cX24_load 44 = .ok (.putfield 19, 3) := by decide +kernel
theorem dX24_load_47 : decode cX24_load 47 = .ok (.iconst 1, 1) := by decide +kernel
theorem dX24_load_48 : decode cX24_load 48 = .ok (.ireturn, 1) := by decide +kernel
theorem qw613 : Cond.classLink RX24 85 RX19 ∈ gw := mq_12 (i := 164) rfl rfl
theorem qw614 : Cond.instantiable RX19 23 ∈ gw := mq_12 (i := 165) rfl rfl
theorem qw615 : Cond.code yX19_init cX19_init 5 (Option.none : Option Jvm.ClassFile.FieldType) ∈ gw := mq_12 (i := 168) rfl rfl
theorem qw616 : Cond.methodLink RX24 87 yX19_init ∈ gw := mq_12 (i := 166) rfl rfl
theorem qw617 : Cond.instanceMethod yX19_init ∈ gw := mq_12 (i := 167) rfl rfl
theorem qw618 : Cond.fieldLink RX19 78 "GearboxModel$Reader" "place" "I" ∈ gw := mq_12 (i := 213) rfl rfl
theorem qw619 : Cond.fieldLink RX19 81 "GearboxModel$Reader" "at" "I" ∈ gw := mq_12 (i := 214) rfl rfl
theorem qw620 : Cond.fieldLink RX19 84 "GearboxModel$Reader" "kind" "I" ∈ gw := mq_12 (i := 215) rfl rfl
theorem qw621 : Cond.code yX19_advance cX19_advance 2 (Option.none : Option Jvm.ClassFile.FieldType) ∈ gw := mq_13 (i := 39) rfl rfl
theorem qw622 : Cond.methodLink RX19 137 yX19_advance ∈ gw := mq_13 (i := 36) rfl rfl
theorem qw623 : Cond.instanceMethod yX19_advance ∈ gw := mq_13 (i := 38) rfl rfl
theorem qw624 : Cond.selects RX19 yX19_advance yX19_advance ∈ gw := mk_s (i := 19) rfl rfl
theorem qw625 : Cond.classLink RX19 90 RX23 ∈ gw := mq_13 (i := 40) rfl rfl
theorem qw626 : Cond.instantiable RX23 7 ∈ gw := mq_13 (i := 41) rfl rfl
theorem qw627 : Cond.initialized RX23 ∈ gw := mq_1 (i := 38) rfl rfl
theorem qw628 : Cond.code yX23_init cX23_init 2 (Option.none : Option Jvm.ClassFile.FieldType) ∈ gw := mq_13 (i := 51) rfl rfl
theorem qw629 : Cond.methodLink RX19 92 yX23_init ∈ gw := mq_13 (i := 49) rfl rfl
theorem qw630 : Cond.instanceMethod yX23_init ∈ gw := mq_13 (i := 50) rfl rfl
theorem qw631 : Cond.code yX19_must cX19_must 2 (Option.none : Option Jvm.ClassFile.FieldType) ∈ gw := mq_13 (i := 104) rfl rfl
theorem qw632 : Cond.methodLink RX19 133 yX19_must ∈ gw := mq_13 (i := 101) rfl rfl
theorem qw633 : Cond.instanceMethod yX19_must ∈ gw := mq_13 (i := 103) rfl rfl
theorem qw634 : Cond.selects RX19 yX19_must yX19_must ∈ gw := mk_s (i := 20) rfl rfl
theorem qw635 : Cond.code yX19_function cX19_function 2 (Option.none : Option Jvm.ClassFile.FieldType) ∈ gw := mq_13 (i := 100) rfl rfl
theorem qw636 : Cond.methodLink RX19 143 yX19_function ∈ gw := mq_13 (i := 97) rfl rfl
theorem qw637 : Cond.instanceMethod yX19_function ∈ gw := mq_13 (i := 99) rfl rfl
theorem qw638 : Cond.selects RX19 yX19_function yX19_function ∈ gw := mk_s (i := 21) rfl rfl
theorem qw639 : Cond.code yX19_read cX19_read 2 (Option.none : Option Jvm.ClassFile.FieldType) ∈ gw := mq_13 (i := 35) rfl rfl
theorem qw640 : Cond.methodLink RX24 90 yX19_read ∈ gw := mq_13 (i := 32) rfl rfl
theorem qw641 : Cond.instanceMethod yX19_read ∈ gw := mq_13 (i := 33) rfl rfl
theorem qw642 : Cond.selects RX19 yX19_read yX19_read ∈ gw := mq_13 (i := 34) rfl rfl
theorem qw643 : Cond.classLink RX24 93 RX23 ∈ gw := mq_12 (i := 163) rfl rfl
theorem qw644 : Cond.fieldLink RX24 95 "GearboxModel$Wrong" "at" "I" ∈ gw := mq_13 (i := 60) rfl rfl
set_option maxHeartbeats 4000000 in
set_option maxRecDepth 100000 in
/-- GearboxModel$Reader.advance, from the state that its caller has -/
theorem kX19_advance_n60 {zs : Nat × Nat} (l : Launch) (dC : Nat → ClassId) (dI : Nat → Nat → Nat) (a0 : Nat) (a2 : Nat) (a24 : Nat) (a25 : Nat) (a26 : Nat) (a27 : Nat) (a28 : Nat) (a29 : Nat) (sz : Nat)  : Met l yX19_advance (wz yX19_advance cX19_advance 2 (Option.none : Option Jvm.ClassFile.FieldType)) ({ frames := 0, cells := 0, slots := 0, locals := 0 }) (va_Pc [.ref a0] (PRE zs dC dI [(a0, .inr (16, [.ref a2, .int 0, .ref a24, .ref a25, .ref a26, .ref a27, .int 8, .int 36, .ref a28, .ref a29, .int 0, .int 0, .int 0, .int 0, .int 0, .int 0, .int 0, .int 0, .int 0, .int 0, .int 2147483647, .int 0, .int 2147483647]))] [] sz)) (va_Qv (fun (_ : Unit) => True) (fun _ t => POST dC dI [(a0, .inr (16, [.ref a2, .int 0, .ref a24, .ref a25, .ref a26, .ref a27, .int 8, .int 36, .ref a28, .ref a29, .int 0, .int 0, .int 0, .int 0, .int 0, .int 0, .int 0, .int 0, .int 0, .int 0, .int 2147483647, .int 0, .int 2147483647]))] [] (va_A [(a0, .inr (16, [.ref a2, .int 0, .ref a24, .ref a25, .ref a26, .ref a27, .int 8, .int 36, .ref a28, .ref a29, .int 0, .int 0, .int 0, .int 0, .int 0, .int 0, .int 0, .int 0, .int 0, .int 0, .int 2147483647, .int 0, .int 2147483647]))] sz) t) (va_A [(a0, .inr (16, [.ref a2, .int 0, .ref a24, .ref a25, .ref a26, .ref a27, .int 8, .int 36, .ref a28, .ref a29, .int 0, .int 0, .int 0, .int 0, .int 0, .int 0, .int 0, .int 0, .int 0, .int 0, .int 2147483647, .int 0, .int 2147483647]))] sz)) 0 0 (va_A [(a0, .inr (16, [.ref a2, .int 0, .ref a24, .ref a25, .ref a26, .ref a27, .int 8, .int 36, .ref a28, .ref a29, .int 0, .int 0, .int 0, .int 0, .int 0, .int 0, .int 0, .int 0, .int 0, .int 0, .int 2147483647, .int 0, .int 2147483647]))] sz) := by
  refine Met.ofW (cc := cX19_advance) (maxL := 2) (ret := (Option.none : Option Jvm.ClassFile.FieldType)) (by decide) rfl ?_
  intro p e s m args below meth c s₁ B hml hv
  obtain ⟨rfl, hsz, hP, hK, hD0, hE⟩ := hv
  have hx := B.exec
  have hb := B.bytes
  have hr := B.returns
  have hts0 := atoms_spec (ws := wz yX19_advance cX19_advance 2 (Option.none : Option Jvm.ClassFile.FieldType)) B.pre
  have hts : ∀ w ∈ gw, w.before _ s = true := fun w h => hts0 w (List.mem_cons_of_mem _ h)
  have hown : s.vm.findClass RX19 = some m.cls := findClass_of_methodNamed B.named
  have hlocks := B.notSynchronized
  subst hsz
  have hD := hD0.self (sz := s.heap.size)
  generalize hAe : va_A [(a0, .inr (16, [.ref a2, .int 0, .ref a24, .ref a25, .ref a26, .ref a27, .int 8, .int 36, .ref a28, .ref a29, .int 0, .int 0, .int 0, .int 0, .int 0, .int 0, .int 0, .int 0, .int 0, .int 0, .int 2147483647, .int 0, .int 2147483647]))] s.heap.size = A at hD hE ⊢
  have hA : ∀ q : Nat, s.heap.size ≤ q → A q := fun q h => by rw [← hAe]; exact Or.inr h
  have hS : va_S A s.heap s.heap [] := va_S.rf
  have hP : va_P (dC, dI) cls [(a0, .inr (16, [.ref a2, .int 0, .ref a24, .ref a25, .ref a26, .ref a27, .int 8, .int 36, .ref a28, .ref a29, .int 0, .int 0, .int 0, .int 0, .int 0, .int 0, .int 0, .int 0, .int 0, .int 0, .int 2147483647, .int 0, .int 2147483647]))] s.heap := hP
  have hl := lv_entry ([.ref a0]) (n := 2) (Nat.le_of_ble_eq_true rfl)
  rw [lg_entry_eq]
  generalize (lg_sl ([.ref a0]) ++ List.replicate (2 - (lg_sl ([.ref a0])).length) Slot.unset).toArray = ls at hl ⊢
  have hl : lv_has ls 2 [(0, .ref a0)] := hl
  refine lv_aload_n hx hb dX19_advance_0 rfl (lv_at hl 0 rfl) ?_
  refine va_get (D := (dC, dI)) (ci := 16) (v := .int 0) (C := RX19) (T := TX19) (N := 23) hx hb hts i_X19 hown hK hP 0 rfl rfl 13 (by decide) (hts _ qw618) (fun _ h9 => h9) rfl dX19_advance_1 ?_
  refine lv_aload_n hx hb dX19_advance_4 rfl (lv_at hl 0 rfl) ?_
  refine va_get (D := (dC, dI)) (ci := 16) (v := .int 0) (C := RX19) (T := TX19) (N := 23) hx hb hts i_X19 hown hK hP 0 rfl rfl 1 (by decide) (hts _ qw412) (fun _ h9 => h9) rfl dX19_advance_5 ?_
  refine lv_icmp_ge (tgt := 52) hx hb dX19_advance_8 (by decide) (fun _ => ?_) (fun c => absurd (by decide) c)
  refine lv_aload_n hx hb dX19_advance_52 rfl (lv_at hl 0 rfl) ?_
  refine lv_aload_n hx hb dX19_advance_53 rfl (lv_at hl 0 rfl) ?_
  refine va_get (D := (dC, dI)) (ci := 16) (v := .int 0) (C := RX19) (T := TX19) (N := 23) hx hb hts i_X19 hown hK hP 0 rfl rfl 13 (by decide) (hts _ qw618) (fun _ h9 => h9) rfl dX19_advance_54 ?_
  refine va_put (D := (dC, dI)) (ci := 16) (v := .int 0) (ty := .int) (C := RX19) (T := TX19) (N := 23) hx hb hts i_X19 tyX19 tyX19_ok nmX19 hown hK hP hD hS 0 rfl rfl 14 (by decide) (hts _ qw619) (fun _ h9 => h9) rfl (by decide +kernel) rfl rfl (Nat.le_of_ble_eq_true rfl) dX19_advance_57 (fun H locs hP hD hS => ?_)
  have hP : va_P (dC, dI) cls [(a0, .inr (16, [.ref a2, .int 0, .ref a24, .ref a25, .ref a26, .ref a27, .int 8, .int 36, .ref a28, .ref a29, .int 0, .int 0, .int 0, .int 0, .int 0, .int 0, .int 0, .int 0, .int 0, .int 0, .int 2147483647, .int 0, .int 2147483647]))] H := hP
  have hD : va_D A [(a0, .inr (16, [.ref a2, .int 0, .ref a24, .ref a25, .ref a26, .ref a27, .int 8, .int 36, .ref a28, .ref a29, .int 0, .int 0, .int 0, .int 0, .int 0, .int 0, .int 0, .int 0, .int 0, .int 0, .int 2147483647, .int 0, .int 2147483647]))] := hD
  refine lv_aload_n hx hb dX19_advance_60 rfl (lv_at hl 0 rfl) ?_
  refine lv_iconst (v := 0) hx hb dX19_advance_61 (by decide) ?_
  refine va_put (D := (dC, dI)) (ci := 16) (v := .int 0) (ty := .int) (C := RX19) (T := TX19) (N := 23) hx hb hts i_X19 tyX19 tyX19_ok nmX19 hown hK hP hD hS 0 rfl rfl 15 (by decide) (hts _ qw620) (fun _ h9 => h9) rfl (by decide +kernel) rfl rfl (Nat.le_of_ble_eq_true rfl) dX19_advance_62 (fun H locs hP hD hS => ?_)
  have hP : va_P (dC, dI) cls [(a0, .inr (16, [.ref a2, .int 0, .ref a24, .ref a25, .ref a26, .ref a27, .int 8, .int 36, .ref a28, .ref a29, .int 0, .int 0, .int 0, .int 0, .int 0, .int 0, .int 0, .int 0, .int 0, .int 0, .int 2147483647, .int 0, .int 2147483647]))] H := hP
  have hD : va_D A [(a0, .inr (16, [.ref a2, .int 0, .ref a24, .ref a25, .ref a26, .ref a27, .int 8, .int 36, .ref a28, .ref a29, .int 0, .int 0, .int 0, .int 0, .int 0, .int 0, .int 0, .int 0, .int 0, .int 0, .int 2147483647, .int 0, .int 2147483647]))] := hD
  refine lv_aload_n hx hb dX19_advance_65 rfl (lv_at hl 0 rfl) ?_
  refine va_get (D := (dC, dI)) (ci := 16) (v := .int 0) (C := RX19) (T := TX19) (N := 23) hx hb hts i_X19 hown hK hP 0 rfl rfl 13 (by decide) (hts _ qw618) (fun _ h9 => h9) rfl dX19_advance_66 ?_
  refine lv_aload_n hx hb dX19_advance_69 rfl (lv_at hl 0 rfl) ?_
  refine va_get (D := (dC, dI)) (ci := 16) (v := .int 0) (C := RX19) (T := TX19) (N := 23) hx hb hts i_X19 hown hK hP 0 rfl rfl 1 (by decide) (hts _ qw412) (fun _ h9 => h9) rfl dX19_advance_70 ?_
  refine lv_icmp_ne (tgt := 77) hx hb dX19_advance_73 (by decide) (fun c => absurd (by decide) c) (fun _ => ?_)
  have hP9 : va_P (dC, dI) cls [(a0, .inr (16, [.ref a2, .int 0, .ref a24, .ref a25, .ref a26, .ref a27, .int 8, .int 36, .ref a28, .ref a29, .int 0, .int 0, .int 0, .int 0, .int 0, .int 0, .int 0, .int 0, .int 0, .int 0, .int 2147483647, .int 0, .int 2147483647]))] H := hP.sub [0] rfl
  have hD9 : va_D A [(a0, .inr (16, [.ref a2, .int 0, .ref a24, .ref a25, .ref a26, .ref a27, .int 8, .int 36, .ref a28, .ref a29, .int 0, .int 0, .int 0, .int 0, .int 0, .int 0, .int 0, .int 0, .int 0, .int 0, .int 2147483647, .int 0, .int 2147483647]))] := hD.sub [0] (by decide) rfl
  have hK9 : va_K (dC, dI) cls [] s := hK.sub [] rfl
  exact W.vret hx hb hr (fun t ht hW => ⟨⟨(), rfl, trivial, ⟨by rw [ht]; exact hP9, va_K.moved hW.alike hK9, hD9⟩⟩, hS.F ht⟩) hS.2.2 dX19_advance_76
set_option maxHeartbeats 4000000 in
set_option maxRecDepth 100000 in
/-- GearboxModel$Reader.must, from the state that its caller has -/
theorem kX19_must_n62 {zs : Nat × Nat} (l : Launch) (dC : Nat → ClassId) (dI : Nat → Nat → Nat) (a0 : Nat) (a2 : Nat) (a24 : Nat) (a25 : Nat) (a26 : Nat) (a27 : Nat) (a28 : Nat) (a29 : Nat) (sz : Nat) (hl9 : l.stackTraces = false)  : vy_Met l yX19_must (wz yX19_must cX19_must 2 (Option.none : Option Jvm.ClassFile.FieldType)) ({ frames := 6, cells := 1, slots := 7, locals := 88 }) (va_Pc [.ref a0, .int 0] (PRE zs dC dI [(a0, .inr (16, [.ref a2, .int 0, .ref a24, .ref a25, .ref a26, .ref a27, .int 8, .int 36, .ref a28, .ref a29, .int 0, .int 0, .int 0, .int 0, .int 0, .int 0, .int 0, .int 0, .int 0, .int 0, .int 2147483647, .int 0, .int 2147483647]))] [] sz)) (va_Qv (fun (_ : Unit) => False) (fun _ _ => True) (va_A [(a0, .inr (16, [.ref a2, .int 0, .ref a24, .ref a25, .ref a26, .ref a27, .int 8, .int 36, .ref a28, .ref a29, .int 0, .int 0, .int 0, .int 0, .int 0, .int 0, .int 0, .int 0, .int 0, .int 0, .int 2147483647, .int 0, .int 2147483647]))] sz)) (vy_X (fun (_ : Unit) => True) (fun E q9 _ t => E = "GearboxModel$Wrong" ∧ POST dC dI [(a0, .inr (16, [.ref a2, .int 0, .ref a24, .ref a25, .ref a26, .ref a27, .int 8, .int 36, .ref a28, .ref a29, .int 0, .int 0, .int 0, .int 0, .int 0, .int 0, .int 0, .int 0, .int 0, .int 0, .int 2147483647, .int 0, .int 2147483647])), (q9, .inr (17, [.int 0]))] [] (va_A [(a0, .inr (16, [.ref a2, .int 0, .ref a24, .ref a25, .ref a26, .ref a27, .int 8, .int 36, .ref a28, .ref a29, .int 0, .int 0, .int 0, .int 0, .int 0, .int 0, .int 0, .int 0, .int 0, .int 0, .int 2147483647, .int 0, .int 2147483647]))] sz) t) (va_A [(a0, .inr (16, [.ref a2, .int 0, .ref a24, .ref a25, .ref a26, .ref a27, .int 8, .int 36, .ref a28, .ref a29, .int 0, .int 0, .int 0, .int 0, .int 0, .int 0, .int 0, .int 0, .int 0, .int 0, .int 2147483647, .int 0, .int 2147483647]))] sz)) 1 7 (va_A [(a0, .inr (16, [.ref a2, .int 0, .ref a24, .ref a25, .ref a26, .ref a27, .int 8, .int 36, .ref a28, .ref a29, .int 0, .int 0, .int 0, .int 0, .int 0, .int 0, .int 0, .int 0, .int 0, .int 0, .int 2147483647, .int 0, .int 2147483647]))] sz) := by
  refine vy_ofW (cc := cX19_must) (maxL := 2) (ret := (Option.none : Option Jvm.ClassFile.FieldType)) (by decide) rfl ?_
  intro p e s m args below meth c s₁ B hml hnt hv
  obtain ⟨rfl, hsz, hP, hK, hD0, hE⟩ := hv
  have hx := B.exec
  have hb := B.bytes
  have hr := B.returns
  have hts0 := atoms_spec (ws := wz yX19_must cX19_must 2 (Option.none : Option Jvm.ClassFile.FieldType)) B.pre
  have hts : ∀ w ∈ gw, w.before _ s = true := fun w h => hts0 w (List.mem_cons_of_mem _ h)
  have hown : s.vm.findClass RX19 = some m.cls := findClass_of_methodNamed B.named
  have hlocks := B.notSynchronized
  subst hsz
  have hD := hD0.self (sz := s.heap.size)
  generalize hAe : va_A [(a0, .inr (16, [.ref a2, .int 0, .ref a24, .ref a25, .ref a26, .ref a27, .int 8, .int 36, .ref a28, .ref a29, .int 0, .int 0, .int 0, .int 0, .int 0, .int 0, .int 0, .int 0, .int 0, .int 0, .int 2147483647, .int 0, .int 2147483647]))] s.heap.size = A at hD hE ⊢
  have hA : ∀ q : Nat, s.heap.size ≤ q → A q := fun q h => by rw [← hAe]; exact Or.inr h
  have hS : va_S A s.heap s.heap [] := va_S.rf
  have hP : va_P (dC, dI) cls [(a0, .inr (16, [.ref a2, .int 0, .ref a24, .ref a25, .ref a26, .ref a27, .int 8, .int 36, .ref a28, .ref a29, .int 0, .int 0, .int 0, .int 0, .int 0, .int 0, .int 0, .int 0, .int 0, .int 0, .int 2147483647, .int 0, .int 2147483647]))] s.heap := hP
  have hl := lv_entry ([.ref a0, .int 0]) (n := 2) (Nat.le_of_ble_eq_true rfl)
  rw [lg_entry_eq]
  generalize (lg_sl ([.ref a0, .int 0]) ++ List.replicate (2 - (lg_sl ([.ref a0, .int 0])).length) Slot.unset).toArray = ls at hl ⊢
  have hl : lv_has ls 2 [(0, .ref a0), (1, .int 0)] := hl
  refine lv_iload_n hx hb dX19_must_0 rfl (lv_at hl 1 rfl) ?_
  refine lv_if_ne (tgt := 16) hx hb dX19_must_1 (by decide) (fun c => absurd (by decide) c) (fun _ => ?_)
  refine xw_new (ci := 17) (n := 7) hx hb hts i_X23 hown (hts _ qw625) (hts _ qw626) (hts _ qw627) hK hP hD hS hA rfl (Nat.le_of_ble_eq_true rfl) (Nat.le_of_ble_eq_true rfl) dX19_must_4 (fun q1 H hP hD hS hRaw => ?_)
  have hP : va_P (dC, dI) cls [(a0, .inr (16, [.ref a2, .int 0, .ref a24, .ref a25, .ref a26, .ref a27, .int 8, .int 36, .ref a28, .ref a29, .int 0, .int 0, .int 0, .int 0, .int 0, .int 0, .int 0, .int 0, .int 0, .int 0, .int 2147483647, .int 0, .int 2147483647])), (q1, .inr (17, [.int 0]))] H := hP
  have hD : va_D A [(a0, .inr (16, [.ref a2, .int 0, .ref a24, .ref a25, .ref a26, .ref a27, .int 8, .int 36, .ref a28, .ref a29, .int 0, .int 0, .int 0, .int 0, .int 0, .int 0, .int 0, .int 0, .int 0, .int 0, .int 2147483647, .int 0, .int 2147483647])), (q1, .inr (17, [.int 0]))] := hD
  refine W.widen (k := 1) (n := 7) (Nat.le_of_ble_eq_true rfl) (Nat.le_of_ble_eq_true rfl) ?_
  refine lv_dup hx hb dX19_must_7 rfl ?_
  refine lv_aload_n hx hb dX19_must_8 rfl (lv_at hl 0 rfl) ?_
  refine va_get (D := (dC, dI)) (ci := 16) (v := .int 0) (C := RX19) (T := TX19) (N := 23) hx hb hts i_X19 hown hK hP 0 rfl rfl 14 (by decide) (hts _ qw619) (fun _ h9 => h9) rfl dX19_must_9 ?_
  have hPc := hP.sub (ws' := [(q1, .inr (17, [.int 0]))]) [1] rfl
  have hDc := hD.sub (ws' := [(q1, .inr (17, [.int 0]))]) [1] (by decide) rfl
  have hKc := hK.sub (tys' := []) [] rfl
  have hFc := va_free (wc := [(q1, .inr (17, [.int 0]))]) hD hS hA [1] rfl
  refine va_callv (va_runI (As := [.int 0]) (rest := [.ref q1]) ⟨hx, hb, hml, hown, hts⟩ (kX23_init l dC dI (h0 := q1) (p0 := 0) (sz := _) (hl9 := hl9)) (cwI 1 hts (gi_z qw628) rfl rfl rfl (hts _ qw627) (hts _ qw629) (hts _ qw630) rfl (by decide +kernel) ⟨Nat.le_of_ble_eq_true rfl, Nat.le_of_ble_eq_true rfl⟩) ⟨RPRE.blind, RPRE.of hE hS hFc hPc hKc hDc hRaw⟩ rfl rfl hl.1 rfl (lv_room (Nat.le_of_ble_eq_true rfl)) dX19_must_12 ⟨Nat.le_of_ble_eq_true rfl, Nat.le_of_ble_eq_true rfl⟩) hS (fun q _ h => hFc q h) hFc (fun u t H locs ht hvm hw hB hz1 hk1 hS => ?_)
  obtain ⟨hP, hD, hK⟩ := JOIN (wr := [(a0, .inr (16, [.ref a2, .int 0, .ref a24, .ref a25, .ref a26, .ref a27, .int 8, .int 36, .ref a28, .ref a29, .int 0, .int 0, .int 0, .int 0, .int 0, .int 0, .int 0, .int 0, .int 0, .int 0, .int 2147483647, .int 0, .int 2147483647]))]) hP hD hK [1] [0] [] rfl rfl (by decide) (by decide) rfl hk1 hFc ht hvm hB
  have hP : va_P (dC, dI) cls [(a0, .inr (16, [.ref a2, .int 0, .ref a24, .ref a25, .ref a26, .ref a27, .int 8, .int 36, .ref a28, .ref a29, .int 0, .int 0, .int 0, .int 0, .int 0, .int 0, .int 0, .int 0, .int 0, .int 0, .int 2147483647, .int 0, .int 2147483647])), (q1, .inr (17, [.int 0]))] H := hP
  have hD : va_D A [(a0, .inr (16, [.ref a2, .int 0, .ref a24, .ref a25, .ref a26, .ref a27, .int 8, .int 36, .ref a28, .ref a29, .int 0, .int 0, .int 0, .int 0, .int 0, .int 0, .int 0, .int 0, .int 0, .int 0, .int 2147483647, .int 0, .int 2147483647])), (q1, .inr (17, [.int 0]))] := hD
  have hK : va_K (dC, dI) cls [] s := hK
  refine W.widen (k := 1) (n := 7) (Nat.le_of_ble_eq_true rfl) (Nat.le_of_ble_eq_true rfl) ?_
  refine vx_athrow hx hb dX19_must_15 ?_
  obtain ⟨ce, hce, hcv, hcl⟩ := xw_cell (q0 := 1) hK hP rfl rfl
  have hP9 : va_P (dC, dI) cls [(a0, .inr (16, [.ref a2, .int 0, .ref a24, .ref a25, .ref a26, .ref a27, .int 8, .int 36, .ref a28, .ref a29, .int 0, .int 0, .int 0, .int 0, .int 0, .int 0, .int 0, .int 0, .int 0, .int 0, .int 2147483647, .int 0, .int 2147483647])), (q1, .inr (17, [.int 0]))] H := hP.sub [0, 1] rfl
  have hD9 : va_D A [(a0, .inr (16, [.ref a2, .int 0, .ref a24, .ref a25, .ref a26, .ref a27, .int 8, .int 36, .ref a28, .ref a29, .int 0, .int 0, .int 0, .int 0, .int 0, .int 0, .int 0, .int 0, .int 0, .int 0, .int 2147483647, .int 0, .int 2147483647])), (q1, .inr (17, [.int 0]))] := hD.sub [0, 1] (by decide) rfl
  have hK9 : va_K (dC, dI) cls [] s := hK.sub [] rfl
  exact vy_out (fun x hx9 => (hnt x hx9).elim) hlocks hce hcv hcl (fun t ht hal => ⟨(), trivial, ⟨rfl, ⟨by rw [ht]; exact hP9, va_K.moved hal hK9, hD9⟩⟩, hS.F ht⟩) hS.2.2 (Nat.le_of_ble_eq_true rfl) (Nat.le_of_ble_eq_true rfl)
set_option maxHeartbeats 4000000 in
set_option maxRecDepth 100000 in
/-- GearboxModel$Reader.function, from the state that its caller has -/
theorem kX19_function_n61 {zs : Nat × Nat} (l : Launch) (dC : Nat → ClassId) (dI : Nat → Nat → Nat) (a0 : Nat) (a2 : Nat) (a24 : Nat) (a25 : Nat) (a26 : Nat) (a27 : Nat) (a28 : Nat) (a29 : Nat) (sz : Nat) (hl9 : l.stackTraces = false)  : vy_Met l yX19_function (wz yX19_function cX19_function 2 (Option.none : Option Jvm.ClassFile.FieldType)) ({ frames := 7, cells := 1, slots := 7, locals := 109 }) (va_Pc [.ref a0] (PRE zs dC dI [(a0, .inr (16, [.ref a2, .int 0, .ref a24, .ref a25, .ref a26, .ref a27, .int 8, .int 36, .ref a28, .ref a29, .int 0, .int 0, .int 0, .int 0, .int 0, .int 0, .int 0, .int 0, .int 0, .int 0, .int 2147483647, .int 0, .int 2147483647]))] [] sz)) (va_Qv (fun (_ : Unit) => False) (fun _ _ => True) (va_A [(a0, .inr (16, [.ref a2, .int 0, .ref a24, .ref a25, .ref a26, .ref a27, .int 8, .int 36, .ref a28, .ref a29, .int 0, .int 0, .int 0, .int 0, .int 0, .int 0, .int 0, .int 0, .int 0, .int 0, .int 2147483647, .int 0, .int 2147483647]))] sz)) (vy_X (fun (_ : Unit) => True) (fun E q9 _ t => E = "GearboxModel$Wrong" ∧ POST dC dI [(a0, .inr (16, [.ref a2, .int 0, .ref a24, .ref a25, .ref a26, .ref a27, .int 8, .int 36, .ref a28, .ref a29, .int 0, .int 0, .int 0, .int 0, .int 0, .int 0, .int 0, .int 0, .int 0, .int 0, .int 2147483647, .int 0, .int 2147483647])), (q9, .inr (17, [.int 0]))] [] (va_A [(a0, .inr (16, [.ref a2, .int 0, .ref a24, .ref a25, .ref a26, .ref a27, .int 8, .int 36, .ref a28, .ref a29, .int 0, .int 0, .int 0, .int 0, .int 0, .int 0, .int 0, .int 0, .int 0, .int 0, .int 2147483647, .int 0, .int 2147483647]))] sz) t) (va_A [(a0, .inr (16, [.ref a2, .int 0, .ref a24, .ref a25, .ref a26, .ref a27, .int 8, .int 36, .ref a28, .ref a29, .int 0, .int 0, .int 0, .int 0, .int 0, .int 0, .int 0, .int 0, .int 0, .int 0, .int 2147483647, .int 0, .int 2147483647]))] sz)) 1 7 (va_A [(a0, .inr (16, [.ref a2, .int 0, .ref a24, .ref a25, .ref a26, .ref a27, .int 8, .int 36, .ref a28, .ref a29, .int 0, .int 0, .int 0, .int 0, .int 0, .int 0, .int 0, .int 0, .int 0, .int 0, .int 2147483647, .int 0, .int 2147483647]))] sz) := by
  refine vy_ofW (cc := cX19_function) (maxL := 2) (ret := (Option.none : Option Jvm.ClassFile.FieldType)) (by decide) rfl ?_
  intro p e s m args below meth c s₁ B hml hnt hv
  obtain ⟨rfl, hsz, hP, hK, hD0, hE⟩ := hv
  have hx := B.exec
  have hb := B.bytes
  have hr := B.returns
  have hts0 := atoms_spec (ws := wz yX19_function cX19_function 2 (Option.none : Option Jvm.ClassFile.FieldType)) B.pre
  have hts : ∀ w ∈ gw, w.before _ s = true := fun w h => hts0 w (List.mem_cons_of_mem _ h)
  have hown : s.vm.findClass RX19 = some m.cls := findClass_of_methodNamed B.named
  have hlocks := B.notSynchronized
  subst hsz
  have hD := hD0.self (sz := s.heap.size)
  generalize hAe : va_A [(a0, .inr (16, [.ref a2, .int 0, .ref a24, .ref a25, .ref a26, .ref a27, .int 8, .int 36, .ref a28, .ref a29, .int 0, .int 0, .int 0, .int 0, .int 0, .int 0, .int 0, .int 0, .int 0, .int 0, .int 2147483647, .int 0, .int 2147483647]))] s.heap.size = A at hD hE ⊢
  have hA : ∀ q : Nat, s.heap.size ≤ q → A q := fun q h => by rw [← hAe]; exact Or.inr h
  have hS : va_S A s.heap s.heap [] := va_S.rf
  have hP : va_P (dC, dI) cls [(a0, .inr (16, [.ref a2, .int 0, .ref a24, .ref a25, .ref a26, .ref a27, .int 8, .int 36, .ref a28, .ref a29, .int 0, .int 0, .int 0, .int 0, .int 0, .int 0, .int 0, .int 0, .int 0, .int 0, .int 2147483647, .int 0, .int 2147483647]))] s.heap := hP
  have hl := lv_entry ([.ref a0]) (n := 2) (Nat.le_of_ble_eq_true rfl)
  rw [lg_entry_eq]
  generalize (lg_sl ([.ref a0]) ++ List.replicate (2 - (lg_sl ([.ref a0])).length) Slot.unset).toArray = ls at hl ⊢
  have hl : lv_has ls 2 [(0, .ref a0)] := hl
  refine lv_aload_n hx hb dX19_function_0 rfl (lv_at hl 0 rfl) ?_
  refine lv_aload_n hx hb dX19_function_1 rfl (lv_at hl 0 rfl) ?_
  refine va_get (D := (dC, dI)) (ci := 16) (v := .int 0) (C := RX19) (T := TX19) (N := 23) hx hb hts i_X19 hown hK hP 0 rfl rfl 15 (by decide) (hts _ qw620) (fun _ h9 => h9) rfl dX19_function_2 ?_
  refine lv_bipush (v := 13) hx hb dX19_function_5 (by decide) ?_
  refine lv_icmp_ne (tgt := 26) hx hb dX19_function_7 (by decide) (fun _ => ?_) (fun c => absurd c (by decide))
  refine lv_iconst (v := 0) hx hb dX19_function_26 (by decide) ?_
  have hPc := hP.sub (ws' := [(a0, .inr (16, [.ref a2, .int 0, .ref a24, .ref a25, .ref a26, .ref a27, .int 8, .int 36, .ref a28, .ref a29, .int 0, .int 0, .int 0, .int 0, .int 0, .int 0, .int 0, .int 0, .int 0, .int 0, .int 2147483647, .int 0, .int 2147483647]))]) [0] rfl
  have hDc := hD.sub (ws' := [(a0, .inr (16, [.ref a2, .int 0, .ref a24, .ref a25, .ref a26, .ref a27, .int 8, .int 36, .ref a28, .ref a29, .int 0, .int 0, .int 0, .int 0, .int 0, .int 0, .int 0, .int 0, .int 0, .int 0, .int 2147483647, .int 0, .int 2147483647]))]) [0] (by decide) rfl
  have hKc := hK.sub (tys' := []) [] rfl
  have hFc := va_free (wc := [(a0, .inr (16, [.ref a2, .int 0, .ref a24, .ref a25, .ref a26, .ref a27, .int 8, .int 36, .ref a28, .ref a29, .int 0, .int 0, .int 0, .int 0, .int 0, .int 0, .int 0, .int 0, .int 0, .int 0, .int 2147483647, .int 0, .int 2147483647]))]) hD hS hA [0] rfl
  refine vy_callv (vy_runV (As := [.int 0]) (rest := []) ⟨hx, hb, hml, hown, hts⟩ (kX19_must_n62 l dC dI (a0 := a0) (a2 := a2) (a24 := a24) (a25 := a25) (a26 := a26) (a27 := a27) (a28 := a28) (a29 := a29) (sz := _) (hl9 := hl9)) (cwV 1 hts (gi_V qw632 qw633 qw634 qw427 (gi_z qw631)) rfl rfl rfl (by decide +kernel) ⟨Nat.le_of_ble_eq_true rfl, Nat.le_of_ble_eq_true rfl⟩) ⟨PRE.blind, va_recv hKc hPc (ci := 16) (q0 := 0) rfl rfl, PRE.of hE hS hFc hPc hKc hDc⟩ rfl rfl hl.1 rfl (lv_room (Nat.le_of_ble_eq_true rfl)) dX19_function_27 ⟨Nat.le_of_ble_eq_true rfl, Nat.le_of_ble_eq_true rfl⟩) hS (fun q _ h => hFc q h) hFc (fun q _ h => hFc q h) (fun E ce q9 u t H locs ht hvm hw hB hz1 hk1 hS hce hcv hcl => ?_) (fun u t H locs ht hvm hw hB hz1 hk1 hS => hw.elim)
  obtain ⟨rfl, hB⟩ := hB
  obtain ⟨hP, hD, hK⟩ := JOIN (wr := []) hP hD hK [0] [] [] rfl rfl (by decide) (by decide) rfl hk1 hFc ht hvm hB
  have hP : va_P (dC, dI) cls [(a0, .inr (16, [.ref a2, .int 0, .ref a24, .ref a25, .ref a26, .ref a27, .int 8, .int 36, .ref a28, .ref a29, .int 0, .int 0, .int 0, .int 0, .int 0, .int 0, .int 0, .int 0, .int 0, .int 0, .int 2147483647, .int 0, .int 2147483647])), (q9, .inr (17, [.int 0]))] H := hP
  have hD : va_D A [(a0, .inr (16, [.ref a2, .int 0, .ref a24, .ref a25, .ref a26, .ref a27, .int 8, .int 36, .ref a28, .ref a29, .int 0, .int 0, .int 0, .int 0, .int 0, .int 0, .int 0, .int 0, .int 0, .int 0, .int 2147483647, .int 0, .int 2147483647])), (q9, .inr (17, [.int 0]))] := hD
  have hK : va_K (dC, dI) cls [] s := hK
  refine vx_widen (k := 1) (n := 7) (Nat.le_of_ble_eq_true rfl) (Nat.le_of_ble_eq_true rfl) ?_
  have hP9 : va_P (dC, dI) cls [(a0, .inr (16, [.ref a2, .int 0, .ref a24, .ref a25, .ref a26, .ref a27, .int 8, .int 36, .ref a28, .ref a29, .int 0, .int 0, .int 0, .int 0, .int 0, .int 0, .int 0, .int 0, .int 0, .int 0, .int 2147483647, .int 0, .int 2147483647])), (q9, .inr (17, [.int 0]))] H := hP.sub [0, 1] rfl
  have hD9 : va_D A [(a0, .inr (16, [.ref a2, .int 0, .ref a24, .ref a25, .ref a26, .ref a27, .int 8, .int 36, .ref a28, .ref a29, .int 0, .int 0, .int 0, .int 0, .int 0, .int 0, .int 0, .int 0, .int 0, .int 0, .int 2147483647, .int 0, .int 2147483647])), (q9, .inr (17, [.int 0]))] := hD.sub [0, 1] (by decide) rfl
  have hK9 : va_K (dC, dI) cls [] s := hK.sub [] rfl
  exact vy_out (fun x hx9 => (hnt x hx9).elim) hlocks hce hcv hcl (fun t ht hal => ⟨(), trivial, ⟨rfl, ⟨by rw [ht]; exact hP9, va_K.moved hal hK9, hD9⟩⟩, hS.F ht⟩) hS.2.2 (Nat.le_of_ble_eq_true rfl) (Nat.le_of_ble_eq_true rfl)
set_option maxHeartbeats 4000000 in
set_option maxRecDepth 100000 in
/-- GearboxModel$Reader.read, from the state that its caller has -/
theorem kX19_read_n59 {zs : Nat × Nat} (l : Launch) (dC : Nat → ClassId) (dI : Nat → Nat → Nat) (a0 : Nat) (a2 : Nat) (a24 : Nat) (a25 : Nat) (a26 : Nat) (a27 : Nat) (a28 : Nat) (a29 : Nat) (sz : Nat) (hl9 : l.stackTraces = false)  : vy_Met l yX19_read (wz yX19_read cX19_read 2 (Option.none : Option Jvm.ClassFile.FieldType)) ({ frames := 8, cells := 1, slots := 7, locals := 130 }) (va_Pc [.ref a0] (PRE zs dC dI [(a0, .inr (16, [.ref a2, .int 0, .ref a24, .ref a25, .ref a26, .ref a27, .int 8, .int 36, .ref a28, .ref a29, .int 0, .int 0, .int 0, .int 0, .int 0, .int 0, .int 0, .int 0, .int 0, .int 0, .int 2147483647, .int 0, .int 2147483647]))] [] sz)) (va_Qv (fun (_ : Unit) => False) (fun _ _ => True) (va_A [(a0, .inr (16, [.ref a2, .int 0, .ref a24, .ref a25, .ref a26, .ref a27, .int 8, .int 36, .ref a28, .ref a29, .int 0, .int 0, .int 0, .int 0, .int 0, .int 0, .int 0, .int 0, .int 0, .int 0, .int 2147483647, .int 0, .int 2147483647]))] sz)) (vy_X (fun (_ : Unit) => True) (fun E q9 _ t => E = "GearboxModel$Wrong" ∧ POST dC dI [(a0, .inr (16, [.ref a2, .int 0, .ref a24, .ref a25, .ref a26, .ref a27, .int 8, .int 36, .ref a28, .ref a29, .int 0, .int 0, .int 0, .int 0, .int 0, .int 0, .int 0, .int 0, .int 0, .int 0, .int 2147483647, .int 0, .int 2147483647])), (q9, .inr (17, [.int 0]))] [] (va_A [(a0, .inr (16, [.ref a2, .int 0, .ref a24, .ref a25, .ref a26, .ref a27, .int 8, .int 36, .ref a28, .ref a29, .int 0, .int 0, .int 0, .int 0, .int 0, .int 0, .int 0, .int 0, .int 0, .int 0, .int 2147483647, .int 0, .int 2147483647]))] sz) t) (va_A [(a0, .inr (16, [.ref a2, .int 0, .ref a24, .ref a25, .ref a26, .ref a27, .int 8, .int 36, .ref a28, .ref a29, .int 0, .int 0, .int 0, .int 0, .int 0, .int 0, .int 0, .int 0, .int 0, .int 0, .int 2147483647, .int 0, .int 2147483647]))] sz)) 1 7 (va_A [(a0, .inr (16, [.ref a2, .int 0, .ref a24, .ref a25, .ref a26, .ref a27, .int 8, .int 36, .ref a28, .ref a29, .int 0, .int 0, .int 0, .int 0, .int 0, .int 0, .int 0, .int 0, .int 0, .int 0, .int 2147483647, .int 0, .int 2147483647]))] sz) := by
  refine vy_ofW (cc := cX19_read) (maxL := 2) (ret := (Option.none : Option Jvm.ClassFile.FieldType)) (by decide) rfl ?_
  intro p e s m args below meth c s₁ B hml hnt hv
  obtain ⟨rfl, hsz, hP, hK, hD0, hE⟩ := hv
  have hx := B.exec
  have hb := B.bytes
  have hr := B.returns
  have hts0 := atoms_spec (ws := wz yX19_read cX19_read 2 (Option.none : Option Jvm.ClassFile.FieldType)) B.pre
  have hts : ∀ w ∈ gw, w.before _ s = true := fun w h => hts0 w (List.mem_cons_of_mem _ h)
  have hown : s.vm.findClass RX19 = some m.cls := findClass_of_methodNamed B.named
  have hlocks := B.notSynchronized
  subst hsz
  have hD := hD0.self (sz := s.heap.size)
  generalize hAe : va_A [(a0, .inr (16, [.ref a2, .int 0, .ref a24, .ref a25, .ref a26, .ref a27, .int 8, .int 36, .ref a28, .ref a29, .int 0, .int 0, .int 0, .int 0, .int 0, .int 0, .int 0, .int 0, .int 0, .int 0, .int 2147483647, .int 0, .int 2147483647]))] s.heap.size = A at hD hE ⊢
  have hA : ∀ q : Nat, s.heap.size ≤ q → A q := fun q h => by rw [← hAe]; exact Or.inr h
  have hS : va_S A s.heap s.heap [] := va_S.rf
  have hP : va_P (dC, dI) cls [(a0, .inr (16, [.ref a2, .int 0, .ref a24, .ref a25, .ref a26, .ref a27, .int 8, .int 36, .ref a28, .ref a29, .int 0, .int 0, .int 0, .int 0, .int 0, .int 0, .int 0, .int 0, .int 0, .int 0, .int 2147483647, .int 0, .int 2147483647]))] s.heap := hP
  have hl := lv_entry ([.ref a0]) (n := 2) (Nat.le_of_ble_eq_true rfl)
  rw [lg_entry_eq]
  generalize (lg_sl ([.ref a0]) ++ List.replicate (2 - (lg_sl ([.ref a0])).length) Slot.unset).toArray = ls at hl ⊢
  have hl : lv_has ls 2 [(0, .ref a0)] := hl
  refine lv_aload_n hx hb dX19_read_0 rfl (lv_at hl 0 rfl) ?_
  have hPc := hP.sub (ws' := [(a0, .inr (16, [.ref a2, .int 0, .ref a24, .ref a25, .ref a26, .ref a27, .int 8, .int 36, .ref a28, .ref a29, .int 0, .int 0, .int 0, .int 0, .int 0, .int 0, .int 0, .int 0, .int 0, .int 0, .int 2147483647, .int 0, .int 2147483647]))]) [0] rfl
  have hDc := hD.sub (ws' := [(a0, .inr (16, [.ref a2, .int 0, .ref a24, .ref a25, .ref a26, .ref a27, .int 8, .int 36, .ref a28, .ref a29, .int 0, .int 0, .int 0, .int 0, .int 0, .int 0, .int 0, .int 0, .int 0, .int 0, .int 2147483647, .int 0, .int 2147483647]))]) [0] (by decide) rfl
  have hKc := hK.sub (tys' := []) [] rfl
  have hFc := va_free (wc := [(a0, .inr (16, [.ref a2, .int 0, .ref a24, .ref a25, .ref a26, .ref a27, .int 8, .int 36, .ref a28, .ref a29, .int 0, .int 0, .int 0, .int 0, .int 0, .int 0, .int 0, .int 0, .int 0, .int 0, .int 2147483647, .int 0, .int 2147483647]))]) hD hS hA [0] rfl
  refine va_callv (va_runV (As := []) (rest := []) ⟨hx, hb, hml, hown, hts⟩ (kX19_advance_n60 l dC dI (a0 := a0) (a2 := a2) (a24 := a24) (a25 := a25) (a26 := a26) (a27 := a27) (a28 := a28) (a29 := a29) (sz := _)) (cwV 0 hts (gi_V qw622 qw623 qw624 qw427 (gi_z qw621)) rfl rfl rfl (by decide +kernel) ⟨Nat.le_of_ble_eq_true rfl, Nat.le_of_ble_eq_true rfl⟩) ⟨PRE.blind, va_recv hKc hPc (ci := 16) (q0 := 0) rfl rfl, PRE.of hE hS hFc hPc hKc hDc⟩ rfl rfl hl.1 rfl (lv_room (Nat.le_of_ble_eq_true rfl)) dX19_read_1 ⟨Nat.le_of_ble_eq_true rfl, Nat.le_of_ble_eq_true rfl⟩) hS (fun q _ h => hFc q h) hFc (fun u t H locs ht hvm hw hB hz1 hk1 hS => ?_)
  obtain ⟨hP, hD, hK⟩ := JOIN (wr := []) hP hD hK [0] [] [] rfl rfl (by decide) (by decide) rfl hk1 hFc ht hvm hB
  have hP : va_P (dC, dI) cls [(a0, .inr (16, [.ref a2, .int 0, .ref a24, .ref a25, .ref a26, .ref a27, .int 8, .int 36, .ref a28, .ref a29, .int 0, .int 0, .int 0, .int 0, .int 0, .int 0, .int 0, .int 0, .int 0, .int 0, .int 2147483647, .int 0, .int 2147483647]))] H := hP
  have hD : va_D A [(a0, .inr (16, [.ref a2, .int 0, .ref a24, .ref a25, .ref a26, .ref a27, .int 8, .int 36, .ref a28, .ref a29, .int 0, .int 0, .int 0, .int 0, .int 0, .int 0, .int 0, .int 0, .int 0, .int 0, .int 2147483647, .int 0, .int 2147483647]))] := hD
  have hK : va_K (dC, dI) cls [] s := hK
  refine W.widen (k := 0) (n := 0) (Nat.le_of_ble_eq_true rfl) (Nat.le_of_ble_eq_true rfl) ?_
  refine lv_aload_n hx hb dX19_read_4 rfl (lv_at hl 0 rfl) ?_
  have hPc := hP.sub (ws' := [(a0, .inr (16, [.ref a2, .int 0, .ref a24, .ref a25, .ref a26, .ref a27, .int 8, .int 36, .ref a28, .ref a29, .int 0, .int 0, .int 0, .int 0, .int 0, .int 0, .int 0, .int 0, .int 0, .int 0, .int 2147483647, .int 0, .int 2147483647]))]) [0] rfl
  have hDc := hD.sub (ws' := [(a0, .inr (16, [.ref a2, .int 0, .ref a24, .ref a25, .ref a26, .ref a27, .int 8, .int 36, .ref a28, .ref a29, .int 0, .int 0, .int 0, .int 0, .int 0, .int 0, .int 0, .int 0, .int 0, .int 0, .int 2147483647, .int 0, .int 2147483647]))]) [0] (by decide) rfl
  have hKc := hK.sub (tys' := []) [] rfl
  have hFc := va_free (wc := [(a0, .inr (16, [.ref a2, .int 0, .ref a24, .ref a25, .ref a26, .ref a27, .int 8, .int 36, .ref a28, .ref a29, .int 0, .int 0, .int 0, .int 0, .int 0, .int 0, .int 0, .int 0, .int 0, .int 0, .int 2147483647, .int 0, .int 2147483647]))]) hD hS hA [0] rfl
  refine vy_callv (vy_runV (As := []) (rest := []) ⟨hx, hb, hml, hown, hts⟩ (kX19_function_n61 l dC dI (a0 := a0) (a2 := a2) (a24 := a24) (a25 := a25) (a26 := a26) (a27 := a27) (a28 := a28) (a29 := a29) (sz := _) (hl9 := hl9)) (cwV 0 hts (gi_V qw636 qw637 qw638 qw427 (gi_z qw635)) rfl rfl rfl (by decide +kernel) ⟨Nat.le_of_ble_eq_true rfl, Nat.le_of_ble_eq_true rfl⟩) ⟨PRE.blind, va_recv hKc hPc (ci := 16) (q0 := 0) rfl rfl, PRE.of hE hS hFc hPc hKc hDc⟩ rfl rfl hl.1 rfl (lv_room (Nat.le_of_ble_eq_true rfl)) dX19_read_5 ⟨Nat.le_of_ble_eq_true rfl, Nat.le_of_ble_eq_true rfl⟩) hS (fun q _ h => hFc q h) hFc (fun q _ h => hFc q h) (fun E ce q9 u t H locs ht hvm hw hB hz1 hk1 hS hce hcv hcl => ?_) (fun u t H locs ht hvm hw hB hz1 hk1 hS => hw.elim)
  obtain ⟨rfl, hB⟩ := hB
  obtain ⟨hP, hD, hK⟩ := JOIN (wr := []) hP hD hK [0] [] [] rfl rfl (by decide) (by decide) rfl hk1 hFc ht hvm hB
  have hP : va_P (dC, dI) cls [(a0, .inr (16, [.ref a2, .int 0, .ref a24, .ref a25, .ref a26, .ref a27, .int 8, .int 36, .ref a28, .ref a29, .int 0, .int 0, .int 0, .int 0, .int 0, .int 0, .int 0, .int 0, .int 0, .int 0, .int 2147483647, .int 0, .int 2147483647])), (q9, .inr (17, [.int 0]))] H := hP
  have hD : va_D A [(a0, .inr (16, [.ref a2, .int 0, .ref a24, .ref a25, .ref a26, .ref a27, .int 8, .int 36, .ref a28, .ref a29, .int 0, .int 0, .int 0, .int 0, .int 0, .int 0, .int 0, .int 0, .int 0, .int 0, .int 2147483647, .int 0, .int 2147483647])), (q9, .inr (17, [.int 0]))] := hD
  have hK : va_K (dC, dI) cls [] s := hK
  refine vx_widen (k := 1) (n := 7) (Nat.le_of_ble_eq_true rfl) (Nat.le_of_ble_eq_true rfl) ?_
  have hP9 : va_P (dC, dI) cls [(a0, .inr (16, [.ref a2, .int 0, .ref a24, .ref a25, .ref a26, .ref a27, .int 8, .int 36, .ref a28, .ref a29, .int 0, .int 0, .int 0, .int 0, .int 0, .int 0, .int 0, .int 0, .int 0, .int 0, .int 2147483647, .int 0, .int 2147483647])), (q9, .inr (17, [.int 0]))] H := hP.sub [0, 1] rfl
  have hD9 : va_D A [(a0, .inr (16, [.ref a2, .int 0, .ref a24, .ref a25, .ref a26, .ref a27, .int 8, .int 36, .ref a28, .ref a29, .int 0, .int 0, .int 0, .int 0, .int 0, .int 0, .int 0, .int 0, .int 0, .int 0, .int 2147483647, .int 0, .int 2147483647])), (q9, .inr (17, [.int 0]))] := hD.sub [0, 1] (by decide) rfl
  have hK9 : va_K (dC, dI) cls [] s := hK.sub [] rfl
  exact vy_out (fun x hx9 => (hnt x hx9).elim) hlocks hce hcv hcl (fun t ht hal => ⟨(), trivial, ⟨rfl, ⟨by rw [ht]; exact hP9, va_K.moved hal hK9, hD9⟩⟩, hS.F ht⟩) hS.2.2 (Nat.le_of_ble_eq_true rfl) (Nat.le_of_ble_eq_true rfl)
set_option maxHeartbeats 4000000 in
set_option maxRecDepth 100000 in
theorem kX24_load {zs : Nat × Nat} (l : Launch) (dC : Nat → ClassId) (dI : Nat → Nat → Nat) (mx : Nat) (mq1 : Nat) (mq3 : Nat) (mq4 : Nat) (mq6 : Nat) (mq8 : Nat) (mq22 : Nat) (sz : Nat) (hl9 : l.stackTraces = false)  : Met l yX24_load (wh yX24_load cX24_load 4 (Option.some Jvm.ClassFile.FieldType.int) [(31, 35, 38, 93)]) ({ frames := 9, cells := 21, slots := 19760, locals := 151 }) (va_Pc [.ref mx] (PRE zs dC dI [(mx, .inr (15, [.ref mq1, .int 0, .int (-1), .int 0, .ref mq3, .ref mq4, .ref mq6, .ref mq8, .ref mq22]))] [] sz)) (va_Qi (fun (r : Int32) (_ : Unit) => r = 1) (fun _ t => POST dC dI [(mx, .inr (15, [.ref mq1, .int 0, .int 0, .int 0, .ref mq3, .ref mq4, .ref mq6, .ref mq8, .ref mq22]))] [] (va_A [(mx, .inr (15, [.ref mq1, .int 0, .int (-1), .int 0, .ref mq3, .ref mq4, .ref mq6, .ref mq8, .ref mq22]))] sz) t) (va_A [(mx, .inr (15, [.ref mq1, .int 0, .int (-1), .int 0, .ref mq3, .ref mq4, .ref mq6, .ref mq8, .ref mq22]))] sz)) 21 19760 (va_A [(mx, .inr (15, [.ref mq1, .int 0, .int (-1), .int 0, .ref mq3, .ref mq4, .ref mq6, .ref mq8, .ref mq22]))] sz) := by
  refine va_MetW (cc := cX24_load) (maxL := 4) (ret := (Option.some Jvm.ClassFile.FieldType.int)) (hh := [(31, 35, 38, 93)]) (by decide) rfl ?_
  intro p e s m args below meth c s₁ B hml hv
  obtain ⟨rfl, hsz, hP, hK, hD0, hE⟩ := hv
  have hx := B.exec
  have hb := B.bytes
  have hr := B.returns
  have hts0 := atoms_spec (ws := wh yX24_load cX24_load 4 (Option.some Jvm.ClassFile.FieldType.int) [(31, 35, 38, 93)]) B.pre
  have htab := vx_table (x := yX24_load) B (hts0 _ List.mem_cons_self)
  have hts : ∀ w ∈ gw, w.before _ s = true := fun w h => hts0 w (List.mem_cons_of_mem _ h)
  have hown : s.vm.findClass RX24 = some m.cls := findClass_of_methodNamed B.named
  have hlocks := B.notSynchronized
  subst hsz
  have hD := hD0.self (sz := s.heap.size)
  generalize hAe : va_A [(mx, .inr (15, [.ref mq1, .int 0, .int (-1), .int 0, .ref mq3, .ref mq4, .ref mq6, .ref mq8, .ref mq22]))] s.heap.size = A at hD hE ⊢
  have hA : ∀ q : Nat, s.heap.size ≤ q → A q := fun q h => by rw [← hAe]; exact Or.inr h
  have hS : va_S A s.heap s.heap [] := va_S.rf
  have hP : va_P (dC, dI) cls [(mx, .inr (15, [.ref mq1, .int 0, .int (-1), .int 0, .ref mq3, .ref mq4, .ref mq6, .ref mq8, .ref mq22]))] s.heap := hP
  have hl := lv_entry ([.ref mx]) (n := 4) (Nat.le_of_ble_eq_true rfl)
  rw [lg_entry_eq]
  generalize (lg_sl ([.ref mx]) ++ List.replicate (4 - (lg_sl ([.ref mx])).length) Slot.unset).toArray = ls at hl ⊢
  have hl : lv_has ls 4 [(0, .ref mx)] := hl
  refine lv_aload_n hx hb dX24_load_0 rfl (lv_at hl 0 rfl) ?_
  refine lv_iconst (v := 0) hx hb dX24_load_1 (by decide) ?_
  refine va_put (D := (dC, dI)) (ci := 15) (v := .int 0) (ty := .int) (C := RX24) (T := TX24) (N := 9) hx hb hts i_X24 tyX24 tyX24_ok nmX24 hown hK hP hD hS 0 rfl rfl 3 (by decide) (hts _ qw428) (fun _ h9 => h9) rfl (by decide +kernel) rfl rfl (Nat.le_of_ble_eq_true rfl) dX24_load_2 (fun H locs hP hD hS => ?_)
  have hP : va_P (dC, dI) cls [(mx, .inr (15, [.ref mq1, .int 0, .int (-1), .int 0, .ref mq3, .ref mq4, .ref mq6, .ref mq8, .ref mq22]))] H := hP
  have hD : va_D A [(mx, .inr (15, [.ref mq1, .int 0, .int (-1), .int 0, .ref mq3, .ref mq4, .ref mq6, .ref mq8, .ref mq22]))] := hD
  refine va_new (ci := 16) (fs := [.null, .int 0, .null, .null, .null, .null, .int 0, .int 0, .null, .null, .int 0, .int 0, .int 0, .int 0, .int 0, .int 0, .int 0, .int 0, .int 0, .int 0, .int 0, .int 0, .int 0]) (C := RX19) (T := TX19) (N := 23) hx hb hts i_X19 tyX19 tyX19_ok hown (hts _ qw613) (hts _ qw614) (hts _ qw427) hK hP hD hS hA rfl df_X19 (Nat.le_of_ble_eq_true rfl) (Nat.le_of_ble_eq_true rfl) dX24_load_5 (fun q1 H hP hD hS => ?_)
  have hP : va_P (dC, dI) cls [(mx, .inr (15, [.ref mq1, .int 0, .int (-1), .int 0, .ref mq3, .ref mq4, .ref mq6, .ref mq8, .ref mq22])), (q1, .inr (16, [.null, .int 0, .null, .null, .null, .null, .int 0, .int 0, .null, .null, .int 0, .int 0, .int 0, .int 0, .int 0, .int 0, .int 0, .int 0, .int 0, .int 0, .int 0, .int 0, .int 0]))] H := hP
  have hD : va_D A [(mx, .inr (15, [.ref mq1, .int 0, .int (-1), .int 0, .ref mq3, .ref mq4, .ref mq6, .ref mq8, .ref mq22])), (q1, .inr (16, [.null, .int 0, .null, .null, .null, .null, .int 0, .int 0, .null, .null, .int 0, .int 0, .int 0, .int 0, .int 0, .int 0, .int 0, .int 0, .int 0, .int 0, .int 0, .int 0, .int 0]))] := hD
  refine W.widen (k := 1) (n := 23) (Nat.le_of_ble_eq_true rfl) (Nat.le_of_ble_eq_true rfl) ?_
  refine lv_dup hx hb dX24_load_8 rfl ?_
  refine lv_aload_n hx hb dX24_load_9 rfl (lv_at hl 0 rfl) ?_
  refine va_get (D := (dC, dI)) (ci := 15) (v := .ref mq1) (C := RX24) (T := TX24) (N := 9) hx hb hts i_X24 hown hK hP 0 rfl rfl 0 (by decide) (hts _ qw381) (fun _ h9 => h9) rfl dX24_load_10 ?_
  refine lv_aload_n hx hb dX24_load_13 rfl (lv_at hl 0 rfl) ?_
  refine va_get (D := (dC, dI)) (ci := 15) (v := .int 0) (C := RX24) (T := TX24) (N := 9) hx hb hts i_X24 hown hK hP 0 rfl rfl 1 (by decide) (hts _ qw429) (fun _ h9 => h9) rfl dX24_load_14 ?_
  have hPc := hP.sub (ws' := [(q1, .inr (16, [.null, .int 0, .null, .null, .null, .null, .int 0, .int 0, .null, .null, .int 0, .int 0, .int 0, .int 0, .int 0, .int 0, .int 0, .int 0, .int 0, .int 0, .int 0, .int 0, .int 0]))]) [1] rfl
  have hDc := hD.sub (ws' := [(q1, .inr (16, [.null, .int 0, .null, .null, .null, .null, .int 0, .int 0, .null, .null, .int 0, .int 0, .int 0, .int 0, .int 0, .int 0, .int 0, .int 0, .int 0, .int 0, .int 0, .int 0, .int 0]))]) [1] (by decide) rfl
  have hKc := hK.sub (tys' := []) [] rfl
  have hFc := va_free (wc := [(q1, .inr (16, [.null, .int 0, .null, .null, .null, .null, .int 0, .int 0, .null, .null, .int 0, .int 0, .int 0, .int 0, .int 0, .int 0, .int 0, .int 0, .int 0, .int 0, .int 0, .int 0, .int 0]))]) hD hS hA [1] rfl
  refine va_callv (va_runI (As := [.ref mq1, .int 0]) (rest := [.ref q1]) ⟨hx, hb, hml, hown, hts⟩ (kX19_init l dC dI (h0 := q1) (h1 := mq1) (sz := _)) (cwI 2 hts (gi_z qw615) rfl rfl rfl (hts _ qw427) (hts _ qw616) (hts _ qw617) rfl (by decide +kernel) ⟨Nat.le_of_ble_eq_true rfl, Nat.le_of_ble_eq_true rfl⟩) ⟨PRE.blind, PRE.of hE hS hFc hPc hKc hDc⟩ rfl rfl hl.1 rfl (lv_room (Nat.le_of_ble_eq_true rfl)) dX24_load_17 ⟨Nat.le_of_ble_eq_true rfl, Nat.le_of_ble_eq_true rfl⟩) hS (fun q _ h => hFc q h) hFc (fun u t H locs ht hvm hw hB hz1 hk1 hS => ?_)
  obtain ⟨q2, q3, q4, q5, q6, q7, hB⟩ := hB
  obtain ⟨hP, hD, hK⟩ := JOIN (wr := [(mx, .inr (15, [.ref mq1, .int 0, .int (-1), .int 0, .ref mq3, .ref mq4, .ref mq6, .ref mq8, .ref mq22]))]) hP hD hK [1] [0] [] rfl rfl (by decide) (by decide) rfl hk1 hFc ht hvm hB
  have hP : va_P (dC, dI) cls [(mx, .inr (15, [.ref mq1, .int 0, .int (-1), .int 0, .ref mq3, .ref mq4, .ref mq6, .ref mq8, .ref mq22])), (q1, .inr (16, [.ref mq1, .int 0, .ref q2, .ref q3, .ref q4, .ref q5, .int 8, .int 36, .ref q6, .ref q7, .int 0, .int 0, .int 0, .int 0, .int 0, .int 0, .int 0, .int 0, .int 0, .int 0, .int 2147483647, .int 0, .int 2147483647]))] H := hP
  have hD : va_D A [(mx, .inr (15, [.ref mq1, .int 0, .int (-1), .int 0, .ref mq3, .ref mq4, .ref mq6, .ref mq8, .ref mq22])), (q1, .inr (16, [.ref mq1, .int 0, .ref q2, .ref q3, .ref q4, .ref q5, .int 8, .int 36, .ref q6, .ref q7, .int 0, .int 0, .int 0, .int 0, .int 0, .int 0, .int 0, .int 0, .int 0, .int 0, .int 2147483647, .int 0, .int 2147483647]))] := hD
  have hK : va_K (dC, dI) cls [] s := hK
  refine W.widen (k := 20) (n := 19753) (Nat.le_of_ble_eq_true rfl) (Nat.le_of_ble_eq_true rfl) ?_
  refine lv_astore_n (lv' := [(1, .ref q1), (0, .ref mx)]) hx hb dX24_load_20 rfl hl (by decide) rfl (fun ls hl => ?_)
  refine lv_aload_n hx hb dX24_load_21 rfl (lv_at hl 1 rfl) ?_
  refine lv_iconst (v := 0) hx hb dX24_load_22 (by decide) ?_
  refine va_put (D := (dC, dI)) (ci := 15) (v := .int 0) (ty := .int) (C := RX24) (T := TX24) (N := 9) hx hb hts i_X24 tyX24 tyX24_ok nmX24 hown hK hP hD hS 0 rfl rfl 1 (by decide) (hts _ qw429) (fun _ h9 => h9) rfl (by decide +kernel) rfl rfl (Nat.le_of_ble_eq_true rfl) dX24_load_23 (fun H locs hP hD hS => ?_)
  have hP : va_P (dC, dI) cls [(mx, .inr (15, [.ref mq1, .int 0, .int (-1), .int 0, .ref mq3, .ref mq4, .ref mq6, .ref mq8, .ref mq22])), (q1, .inr (16, [.ref mq1, .int 0, .ref q2, .ref q3, .ref q4, .ref q5, .int 8, .int 36, .ref q6, .ref q7, .int 0, .int 0, .int 0, .int 0, .int 0, .int 0, .int 0, .int 0, .int 0, .int 0, .int 2147483647, .int 0, .int 2147483647]))] H := hP
  have hD : va_D A [(mx, .inr (15, [.ref mq1, .int 0, .int (-1), .int 0, .ref mq3, .ref mq4, .ref mq6, .ref mq8, .ref mq22])), (q1, .inr (16, [.ref mq1, .int 0, .ref q2, .ref q3, .ref q4, .ref q5, .int 8, .int 36, .ref q6, .ref q7, .int 0, .int 0, .int 0, .int 0, .int 0, .int 0, .int 0, .int 0, .int 0, .int 0, .int 2147483647, .int 0, .int 2147483647]))] := hD
  refine lv_aload_n hx hb dX24_load_26 rfl (lv_at hl 1 rfl) ?_
  refine lv_iconst (v := (-1)) hx hb dX24_load_27 (by decide) ?_
  refine va_put (D := (dC, dI)) (ci := 15) (v := .int (-1)) (ty := .int) (C := RX24) (T := TX24) (N := 9) hx hb hts i_X24 tyX24 tyX24_ok nmX24 hown hK hP hD hS 0 rfl rfl 2 (by decide) (hts _ qw382) (fun _ h9 => h9) rfl (by decide +kernel) rfl rfl (Nat.le_of_ble_eq_true rfl) dX24_load_28 (fun H locs hP hD hS => ?_)
  have hP : va_P (dC, dI) cls [(mx, .inr (15, [.ref mq1, .int 0, .int (-1), .int 0, .ref mq3, .ref mq4, .ref mq6, .ref mq8, .ref mq22])), (q1, .inr (16, [.ref mq1, .int 0, .ref q2, .ref q3, .ref q4, .ref q5, .int 8, .int 36, .ref q6, .ref q7, .int 0, .int 0, .int 0, .int 0, .int 0, .int 0, .int 0, .int 0, .int 0, .int 0, .int 2147483647, .int 0, .int 2147483647]))] H := hP
  have hD : va_D A [(mx, .inr (15, [.ref mq1, .int 0, .int (-1), .int 0, .ref mq3, .ref mq4, .ref mq6, .ref mq8, .ref mq22])), (q1, .inr (16, [.ref mq1, .int 0, .ref q2, .ref q3, .ref q4, .ref q5, .int 8, .int 36, .ref q6, .ref q7, .int 0, .int 0, .int 0, .int 0, .int 0, .int 0, .int 0, .int 0, .int 0, .int 0, .int 2147483647, .int 0, .int 2147483647]))] := hD
  refine lv_aload_n hx hb dX24_load_31 rfl (lv_at hl 0 rfl) ?_
  have hPc := hP.sub (ws' := [(q1, .inr (16, [.ref mq1, .int 0, .ref q2, .ref q3, .ref q4, .ref q5, .int 8, .int 36, .ref q6, .ref q7, .int 0, .int 0, .int 0, .int 0, .int 0, .int 0, .int 0, .int 0, .int 0, .int 0, .int 2147483647, .int 0, .int 2147483647]))]) [1] rfl
  have hDc := hD.sub (ws' := [(q1, .inr (16, [.ref mq1, .int 0, .ref q2, .ref q3, .ref q4, .ref q5, .int 8, .int 36, .ref q6, .ref q7, .int 0, .int 0, .int 0, .int 0, .int 0, .int 0, .int 0, .int 0, .int 0, .int 0, .int 2147483647, .int 0, .int 2147483647]))]) [1] (by decide) rfl
  have hKc := hK.sub (tys' := []) [] rfl
  have hFc := va_free (wc := [(q1, .inr (16, [.ref mq1, .int 0, .ref q2, .ref q3, .ref q4, .ref q5, .int 8, .int 36, .ref q6, .ref q7, .int 0, .int 0, .int 0, .int 0, .int 0, .int 0, .int 0, .int 0, .int 0, .int 0, .int 2147483647, .int 0, .int 2147483647]))]) hD hS hA [1] rfl
  refine vy_callv (vy_runV (As := []) (rest := []) ⟨hx, hb, hml, hown, hts⟩ (kX19_read_n59 l dC dI (a0 := q1) (a2 := mq1) (a24 := q2) (a25 := q3) (a26 := q4) (a27 := q5) (a28 := q6) (a29 := q7) (sz := _) (hl9 := hl9)) (cwV 0 hts (gi_V qw640 qw641 qw642 qw427 (gi_z qw639)) rfl rfl rfl (by decide +kernel) ⟨Nat.le_of_ble_eq_true rfl, Nat.le_of_ble_eq_true rfl⟩) ⟨PRE.blind, va_recv hKc hPc (ci := 16) (q0 := 0) rfl rfl, PRE.of hE hS hFc hPc hKc hDc⟩ rfl rfl hl.1 rfl (lv_room (Nat.le_of_ble_eq_true rfl)) dX24_load_32 ⟨Nat.le_of_ble_eq_true rfl, Nat.le_of_ble_eq_true rfl⟩) hS (fun q _ h => hFc q h) hFc (fun q _ h => hFc q h) (fun E ce q9 u t H locs ht hvm hw hB hz1 hk1 hS hce hcv hcl => ?_) (fun u t H locs ht hvm hw hB hz1 hk1 hS => hw.elim)
  obtain ⟨rfl, hB⟩ := hB
  obtain ⟨hP, hD, hK⟩ := JOIN (wr := [(mx, .inr (15, [.ref mq1, .int 0, .int (-1), .int 0, .ref mq3, .ref mq4, .ref mq6, .ref mq8, .ref mq22]))]) hP hD hK [1] [0] [] rfl rfl (by decide) (by decide) rfl hk1 hFc ht hvm hB
  have hP : va_P (dC, dI) cls [(mx, .inr (15, [.ref mq1, .int 0, .int (-1), .int 0, .ref mq3, .ref mq4, .ref mq6, .ref mq8, .ref mq22])), (q1, .inr (16, [.ref mq1, .int 0, .ref q2, .ref q3, .ref q4, .ref q5, .int 8, .int 36, .ref q6, .ref q7, .int 0, .int 0, .int 0, .int 0, .int 0, .int 0, .int 0, .int 0, .int 0, .int 0, .int 2147483647, .int 0, .int 2147483647])), (q9, .inr (17, [.int 0]))] H := hP
  have hD : va_D A [(mx, .inr (15, [.ref mq1, .int 0, .int (-1), .int 0, .ref mq3, .ref mq4, .ref mq6, .ref mq8, .ref mq22])), (q1, .inr (16, [.ref mq1, .int 0, .ref q2, .ref q3, .ref q4, .ref q5, .int 8, .int 36, .ref q6, .ref q7, .int 0, .int 0, .int 0, .int 0, .int 0, .int 0, .int 0, .int 0, .int 0, .int 0, .int 2147483647, .int 0, .int 2147483647])), (q9, .inr (17, [.int 0]))] := hD
  have hK : va_K (dC, dI) cls [] s := hK
  refine vx_widen (k := 21) (n := 19760) (Nat.le_of_ble_eq_true rfl) (Nat.le_of_ble_eq_true rfl) ?_
  refine vx_catch (own := RX24) (name := "GearboxModel$Wrong") hown [] ⟨31, 35, 38, 93⟩ [] (htab.trans rfl) (fun z hz => by cases hz) (by decide) (by decide) (hts _ qw643) (hE.word (List.mem_append_right _ (tbl_13 (i := 42) rfl)) rfl) hce hcv hcl ?_
  refine lv_astore_n (lv' := [(2, .ref q9), (1, .ref q1), (0, .ref mx)]) hx hb dX24_load_38 rfl hl (by decide) rfl (fun ls hl => ?_)
  refine lv_aload_n hx hb dX24_load_39 rfl (lv_at hl 2 rfl) ?_
  refine lv_aload_n hx hb dX24_load_40 rfl (lv_at hl 0 rfl) ?_
  refine va_get (D := (dC, dI)) (ci := 17) (v := .int 0) (C := RX23) (T := TX23) (N := 1) hx hb hts i_X23 hown hK hP 2 rfl rfl 0 (by decide) (hts _ qw644) (fun _ h9 => h9) rfl dX24_load_41 ?_
  refine va_put (D := (dC, dI)) (ci := 15) (v := .int 0) (ty := .int) (C := RX24) (T := TX24) (N := 9) hx hb hts i_X24 tyX24 tyX24_ok nmX24 hown hK hP hD hS 0 rfl rfl 2 (by decide) (hts _ qw382) (fun _ h9 => h9) rfl (by decide +kernel) rfl rfl (Nat.le_of_ble_eq_true rfl) dX24_load_44 (fun H locs hP hD hS => ?_)
  have hP : va_P (dC, dI) cls [(mx, .inr (15, [.ref mq1, .int 0, .int 0, .int 0, .ref mq3, .ref mq4, .ref mq6, .ref mq8, .ref mq22])), (q1, .inr (16, [.ref mq1, .int 0, .ref q2, .ref q3, .ref q4, .ref q5, .int 8, .int 36, .ref q6, .ref q7, .int 0, .int 0, .int 0, .int 0, .int 0, .int 0, .int 0, .int 0, .int 0, .int 0, .int 2147483647, .int 0, .int 2147483647])), (q9, .inr (17, [.int 0]))] H := hP
  have hD : va_D A [(mx, .inr (15, [.ref mq1, .int 0, .int 0, .int 0, .ref mq3, .ref mq4, .ref mq6, .ref mq8, .ref mq22])), (q1, .inr (16, [.ref mq1, .int 0, .ref q2, .ref q3, .ref q4, .ref q5, .int 8, .int 36, .ref q6, .ref q7, .int 0, .int 0, .int 0, .int 0, .int 0, .int 0, .int 0, .int 0, .int 0, .int 0, .int 2147483647, .int 0, .int 2147483647])), (q9, .inr (17, [.int 0]))] := hD
  refine lv_iconst (v := 1) hx hb dX24_load_47 (by decide) ?_
  have hP9 : va_P (dC, dI) cls [(mx, .inr (15, [.ref mq1, .int 0, .int 0, .int 0, .ref mq3, .ref mq4, .ref mq6, .ref mq8, .ref mq22]))] H := hP.sub [0] rfl
  have hD9 : va_D A [(mx, .inr (15, [.ref mq1, .int 0, .int 0, .int 0, .ref mq3, .ref mq4, .ref mq6, .ref mq8, .ref mq22]))] := hD.sub [0] (by decide) rfl
  have hK9 : va_K (dC, dI) cls [] s := hK.sub [] rfl
  exact W.iret (v := 1) hx hb hr (fun t ht hW => ⟨⟨1, (), rfl, rfl, ⟨by rw [ht]; exact hP9, va_K.moved hW.alike hK9, hD9⟩⟩, hS.F ht⟩) hS.2.2 dX24_load_48
