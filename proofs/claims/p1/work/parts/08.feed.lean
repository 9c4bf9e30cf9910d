abbrev cX11_feed : ByteArray := prog_1_method_2_code
def yX11_feed : MethodName := ⟨RX11, "feed", "(IIIII)I"⟩
abbrev cX10_append : ByteArray := prog_12_method_2_code
def yX10_append : MethodName := ⟨RX10, "append", "(I)V"⟩
abbrev cX11_trim : ByteArray := prog_1_method_3_code
def yX11_trim : MethodName := ⟨RX11, "trim", "(I)I"⟩
theorem dX10_append_0 : decode cX10_append 0 = .ok (.bipush 24, 2) := by decide +kernel
theorem dX10_append_2 : decode cX10_append 2 = .ok (.istore_n 2, 1) := by decide +kernel
theorem dX10_append_3 : decode cX10_append 3 = .ok (.iload_n 2, 1) := by decide +kernel
theorem dX10_append_4 : decode cX10_append 4 = .ok (.ifCond .lt 45, 3) := by decide +kernel
theorem dX10_append_7 : decode cX10_append 7 = .ok (.aload_n 0, 1) := by decide +kernel
theorem dX10_append_8 : decode cX10_append 8 = .ok (.getfield 15, 3) := by decide +kernel
theorem dX10_append_11 : decode cX10_append 11 = .ok (.sipush 1200, 3) := by decide +kernel
theorem dX10_append_14 : decode cX10_append 14 = .ok (.if_icmp .ge 35, 3) := by decide +kernel
theorem dX10_append_17 : decode cX10_append 17 = .ok (.aload_n 0, 1) := by decide +kernel
theorem dX10_append_18 : decode cX10_append 18 = .ok (.getfield 9, 3) := by decide +kernel
theorem dX10_append_21 : decode cX10_append 21 = .ok (.aload_n 0, 1) := by decide +kernel
theorem dX10_append_22 : decode cX10_append 22 = .ok (.getfield 15, 3) := by decide +kernel
theorem dX10_append_25 : decode cX10_append 25 = .ok (.iload_n 1, 1) := by decide +kernel
theorem dX10_append_26 : decode cX10_append 26 = .ok (.iload_n 2, 1) := by decide +kernel
theorem dX10_append_27 : decode cX10_append 27 = .ok (.iushr, 1) := by decide +kernel
theorem dX10_append_28 : decode cX10_append 28 = .ok (.sipush 255, 3) := by decide +kernel
theorem dX10_append_31 : decode cX10_append 31 = .ok (.iand, 1) := by decide +kernel
theorem dX10_append_32 : decode cX10_append 32 = .ok (.iastore, 1) := by decide +kernel
theorem dX10_append_33 : decode cX10_append 33 = .ok (.aload_n 0, 1) := by decide +kernel
theorem dX10_append_34 : decode cX10_append 34 = .ok (.dup, 1) := by decide +kernel
theorem dX10_append_35 : decode cX10_append 35 = .ok (.getfield 15, 3) := by decide +kernel
theorem dX10_append_38 : decode cX10_append 38 = .ok (.iconst 1, 1) := by decide +kernel
theorem dX10_append_39 : decode cX10_append 39 = .ok (.iadd, 1) := by decide +kernel
theorem dX10_append_40 : decode cX10_append 40 = .ok (.putfield 15, 3) := by decide +kernel
theorem dX10_append_43 : decode cX10_append 43 = .ok (.iinc 2 (-8), 3) := by decide +kernel
theorem dX10_append_46 : decode cX10_append 46 = .ok (.goto (-43), 3) := by decide +kernel
theorem dX10_append_49 : decode cX10_append 49 = .ok (.return_, 1) := by decide +kernel
theorem dX11_feed_0 : decode cX11_feed 0 = .ok (.aload_n 0, 1) := by decide +kernel
theorem dX11_feed_1 : decode cX11_feed 1 = .ok (.getfield 10, 3) := by decide +kernel
theorem dX11_feed_4 : decode cX11_feed 4 = .ok (.getfield 86, 3) := by decide +kernel
theorem dX11_feed_7 : decode cX11_feed 7 = .ok (.bipush 20, 2) := by decide +kernel
theorem dX11_feed_9 : decode cX11_feed 9 = .ok (.iadd, 1) := by decide +kernel
theorem dX11_feed_10 : decode cX11_feed 10 = .ok (.sipush 1200, 3) := by decide +kernel
theorem dX11_feed_13 : decode cX11_feed 13 = .ok (.if_icmp .le 13, 3) := by decide +kernel
theorem dX11_feed_26 : decode cX11_feed 26 = .ok (.aload_n 0, 1) := by decide +kernel
theorem dX11_feed_27 : decode cX11_feed 27 = .ok (.getfield 10, 3) := by decide +kernel
theorem dX11_feed_30 : decode cX11_feed 30 = .ok (.iload_n 1, 1) := by decide +kernel
theorem dX11_feed_31 : decode cX11_feed 31 = .ok (.invokevirtual 96, 3) := by decide +kernel
theorem dX11_feed_34 : decode cX11_feed 34 = .ok (.aload_n 0, 1) := by decide +kernel
theorem dX11_feed_35 : decode cX11_feed 35 = .ok (.getfield 10, 3) := by decide +kernel
theorem dX11_feed_38 : decode cX11_feed 38 = .ok (.iload_n 2, 1) := by decide +kernel
theorem dX11_feed_39 : decode cX11_feed 39 = .ok (.invokevirtual 96, 3) := by decide +kernel
theorem dX11_feed_42 : decode cX11_feed 42 = .ok (.aload_n 0, 1) := by decide +kernel
theorem dX11_feed_43 : decode cX11_feed 43 = .ok (.getfield 10, 3) := by decide +kernel
theorem dX11_feed_46 : decode cX11_feed 46 = .ok (.iload_n 3, 1) := by decide +kernel
theorem dX11_feed_47 : decode cX11_feed 47 = .ok (.invokevirtual 96, 3) := by decide +kernel
theorem dX11_feed_50 : decode cX11_feed 50 = .ok (.aload_n 0, 1) := by decide +kernel
theorem dX11_feed_51 : decode cX11_feed 51 = .ok (.getfield 10, 3) := by decide +kernel
theorem dX11_feed_54 : decode cX11_feed 54 = .ok (.iload 4, 2) := by decide +kernel
theorem dX11_feed_56 : decode cX11_feed 56 = .ok (.invokevirtual 96, 3) := by decide +kernel
theorem dX11_feed_59 : decode cX11_feed 59 = .ok (.aload_n 0, 1) := by decide +kernel
theorem dX11_feed_60 : decode cX11_feed 60 = .ok (.getfield 10, 3) := by decide +kernel
theorem dX11_feed_63 : decode cX11_feed 63 = .ok (.iload 5, 2) := by decide +kernel
theorem dX11_feed_65 : decode cX11_feed 65 = .ok (.invokevirtual 96, 3) := by decide +kernel
theorem dX11_feed_68 : decode cX11_feed 68 = .ok (.aload_n 0, 1) := by decide +kernel
theorem dX11_feed_69 : decode cX11_feed 69 = .ok (.getfield 10, 3) := by decide +kernel
theorem dX11_feed_72 : decode cX11_feed 72 = .ok (.getfield 86, 3) := by decide +kernel
theorem dX11_feed_75 : decode cX11_feed 75 = .ok (.ireturn, 1) := by decide +kernel
theorem dX11_trim_0 : decode cX11_trim 0 = .ok (.iload_n 1, 1) := by decide +kernel
theorem dX11_trim_1 : decode cX11_trim 1 = .ok (.ifCond .lt 14, 3) := by decide +kernel
theorem dX11_trim_4 : decode cX11_trim 4 = .ok (.iload_n 1, 1) := by decide +kernel
theorem dX11_trim_5 : decode cX11_trim 5 = .ok (.aload_n 0, 1) := by decide +kernel
theorem dX11_trim_6 : decode cX11_trim 6 = .ok (.getfield 10, 3) := by decide +kernel
theorem dX11_trim_9 : decode cX11_trim 9 = .ok (.getfield 86, 3) := by decide +kernel
theorem dX11_trim_12 : decode cX11_trim 12 = .ok (.if_icmp .le 13, 3) := by decide +kernel
theorem dX11_trim_15 : decode cX11_trim 15 = .ok (.new 100, 3) := by decide +kernel
theorem dX11_trim_18 : decode cX11_trim 18 = .ok (.dup, 1) := by decide +kernel
theorem dX11_trim_19 : decode cX11_trim 19 = .ok (.ldc 102, 2) := by decide +kernel
theorem dX11_trim_21 : decode cX11_trim 21 = .ok (.invokespecial 104, 3) := by decide +kernel
theorem dX11_trim_24 : decode cX11_trim 24 = .ok (.athrow, 1) := by decide +kernel
theorem dX11_trim_25 : decode cX11_trim 25 = .ok (.aload_n 0, 1) := by decide +kernel
theorem dX11_trim_26 : decode cX11_trim 26 = .ok (.getfield 10, 3) := by decide +kernel
theorem dX11_trim_29 : decode cX11_trim 29 = .ok (.iload_n 1, 1) := by decide +kernel
theorem dX11_trim_30 : decode cX11_trim 30 = .ok (.putfield 86, 3) := by decide +kernel
theorem dX11_trim_33 : decode cX11_trim 33 = .ok (.iload_n 1, 1) := by decide +kernel
theorem dX11_trim_34 : decode cX11_trim 34 = .ok (.ireturn, 1) := by decide +kernel
theorem qw207 : Cond.fieldLink RX11 86 "Gearbox$Tokens" "length" "I" ∈ gw := mq_1 (i := 62) rfl rfl
theorem qw208 : Cond.fieldLink RX10 15 "Gearbox$Tokens" "length" "I" ∈ gw := mq_1 (i := 63) rfl rfl
theorem qw209 : Cond.code yX10_append cX10_append 3 (Option.none : Option Jvm.ClassFile.FieldType) ∈ gw := mq_9 (i := 12) rfl rfl
theorem qw210 : Cond.methodLink RX11 96 yX10_append ∈ gw := mq_9 (i := 9) rfl rfl
theorem qw211 : Cond.instanceMethod yX10_append ∈ gw := mq_9 (i := 10) rfl rfl
theorem qw212 : Cond.selects RX10 yX10_append yX10_append ∈ gw := mq_9 (i := 11) rfl rfl
theorem qw213 : Cond.classLink RX11 100 "java/lang/IllegalArgumentException" ∈ gw := mq_9 (i := 21) rfl rfl
theorem qw214 : Cond.initialized "java/lang/IllegalArgumentException" ∈ gw := mq_1 (i := 21) rfl rfl
set_option maxRecDepth 20000 in
theorem at_X11_104_a : ∀ w ∈ Bundle.ownAtoms RX11 104 "java/lang/IllegalArgumentException" ["java/lang/RuntimeException", "java/lang/Exception"], vx_no w = true → w ∈ tables_1 ∧ (goodWord w || mvb w) = true := (List.forall_mem_append.mpr ⟨(List.forall_mem_append.mpr ⟨(List.forall_mem_append.mpr ⟨(List.forall_mem_cons.mpr ⟨fun _ => ⟨tbl_1 (i := 17) rfl, rfl⟩, (List.forall_mem_cons.mpr ⟨fun _ => ⟨tbl_5 (i := 21) rfl, rfl⟩, (List.forall_mem_cons.mpr ⟨fun _ => ⟨tbl_5 (i := 30) rfl, rfl⟩, (List.forall_mem_cons.mpr ⟨fun _ => ⟨tbl_5 (i := 36) rfl, rfl⟩, (List.forall_mem_cons.mpr ⟨fun _ => ⟨tbl_5 (i := 39) rfl, rfl⟩, (List.forall_mem_cons.mpr ⟨fun _ => ⟨tbl_5 (i := 41) rfl, rfl⟩, (List.forall_mem_cons.mpr ⟨fun _ => ⟨tbl_5 (i := 22) rfl, rfl⟩, (List.forall_mem_cons.mpr ⟨fun _ => ⟨tbl_5 (i := 23) rfl, rfl⟩, (List.forall_mem_cons.mpr ⟨fun _ => ⟨tbl_1 (i := 53) rfl, rfl⟩, (List.forall_mem_cons.mpr ⟨fun _ => ⟨tbl_1 (i := 54) rfl, rfl⟩, (List.forall_mem_cons.mpr ⟨fun _ => ⟨tbl_5 (i := 24) rfl, rfl⟩, (List.forall_mem_cons.mpr ⟨fun _ => ⟨tbl_5 (i := 29) rfl, rfl⟩, (List.forall_mem_cons.mpr ⟨fun _ => ⟨tbl_5 (i := 37) rfl, rfl⟩, (List.forall_mem_cons.mpr ⟨fun _ => ⟨tbl_5 (i := 57) rfl, rfl⟩, (List.forall_mem_cons.mpr ⟨fun _ => ⟨tbl_5 (i := 11) rfl, rfl⟩, (List.forall_mem_cons.mpr ⟨fun _ => ⟨tbl_5 (i := 58) rfl, rfl⟩, (List.forall_mem_cons.mpr ⟨fun _ => ⟨tbl_5 (i := 13) rfl, rfl⟩, (List.forall_mem_cons.mpr ⟨fun _ => ⟨tbl_5 (i := 59) rfl, rfl⟩, (List.forall_mem_cons.mpr ⟨fun _ => ⟨tbl_5 (i := 15) rfl, rfl⟩, (List.forall_mem_cons.mpr ⟨fun _ => ⟨tbl_5 (i := 25) rfl, rfl⟩, (List.forall_mem_cons.mpr ⟨fun h => absurd h (by decide +kernel), (List.forall_mem_cons.mpr ⟨fun _ => ⟨tbl_5 (i := 27) rfl, rfl⟩, (List.forall_mem_cons.mpr ⟨fun h => absurd h (by decide +kernel), (List.forall_mem_cons.mpr ⟨fun _ => ⟨tbl_5 (i := 17) rfl, rfl⟩, (fun _ h => absurd h List.not_mem_nil)⟩)⟩)⟩)⟩)⟩)⟩)⟩)⟩)⟩)⟩)⟩)⟩)⟩)⟩)⟩)⟩)⟩)⟩)⟩)⟩)⟩)⟩)⟩)⟩), (List.forall_mem_cons.mpr ⟨fun _ => ⟨tbl_5 (i := 53) rfl, rfl⟩, (List.forall_mem_cons.mpr ⟨fun _ => ⟨tbl_5 (i := 54) rfl, rfl⟩, (List.forall_mem_cons.mpr ⟨fun _ => ⟨tbl_5 (i := 56) rfl, rfl⟩, (List.forall_mem_cons.mpr ⟨fun _ => ⟨tbl_5 (i := 17) rfl, rfl⟩, (fun _ h => absurd h List.not_mem_nil)⟩)⟩)⟩)⟩)⟩), (List.forall_mem_append.mpr ⟨(List.forall_mem_cons.mpr ⟨fun _ => ⟨tbl_5 (i := 44) rfl, rfl⟩, (List.forall_mem_cons.mpr ⟨fun _ => ⟨tbl_5 (i := 45) rfl, rfl⟩, (List.forall_mem_cons.mpr ⟨fun _ => ⟨tbl_5 (i := 46) rfl, rfl⟩, (List.forall_mem_cons.mpr ⟨fun _ => ⟨tbl_5 (i := 47) rfl, rfl⟩, (List.forall_mem_cons.mpr ⟨fun _ => ⟨tbl_5 (i := 3) rfl, rfl⟩, (fun _ h => absurd h List.not_mem_nil)⟩)⟩)⟩)⟩)⟩), (List.forall_mem_append.mpr ⟨(List.forall_mem_cons.mpr ⟨fun _ => ⟨tbl_5 (i := 47) rfl, rfl⟩, (List.forall_mem_cons.mpr ⟨fun _ => ⟨tbl_5 (i := 48) rfl, rfl⟩, (List.forall_mem_cons.mpr ⟨fun _ => ⟨tbl_5 (i := 49) rfl, rfl⟩, (List.forall_mem_cons.mpr ⟨fun _ => ⟨tbl_5 (i := 50) rfl, rfl⟩, (List.forall_mem_cons.mpr ⟨fun _ => ⟨tbl_5 (i := 5) rfl, rfl⟩, (fun _ h => absurd h List.not_mem_nil)⟩)⟩)⟩)⟩)⟩), (List.forall_mem_cons.mpr ⟨fun _ => ⟨tbl_5 (i := 50) rfl, rfl⟩, (List.forall_mem_cons.mpr ⟨fun _ => ⟨tbl_5 (i := 51) rfl, rfl⟩, (List.forall_mem_cons.mpr ⟨fun _ => ⟨tbl_5 (i := 52) rfl, rfl⟩, (List.forall_mem_cons.mpr ⟨fun _ => ⟨tbl_5 (i := 53) rfl, rfl⟩, (List.forall_mem_cons.mpr ⟨fun _ => ⟨tbl_5 (i := 7) rfl, rfl⟩, (fun _ h => absurd h List.not_mem_nil)⟩)⟩)⟩)⟩)⟩)⟩)⟩)⟩), (List.forall_mem_cons.mpr ⟨fun _ => ⟨tbl_9 (i := 23) rfl, rfl⟩, (List.forall_mem_cons.mpr ⟨fun _ => ⟨tbl_5 (i := 0) rfl, rfl⟩, (List.forall_mem_cons.mpr ⟨fun _ => ⟨tbl_5 (i := 1) rfl, rfl⟩, (List.forall_mem_cons.mpr ⟨fun _ => ⟨tbl_5 (i := 8) rfl, rfl⟩, (List.forall_mem_cons.mpr ⟨fun _ => ⟨tbl_5 (i := 9) rfl, rfl⟩, (List.forall_mem_cons.mpr ⟨fun _ => ⟨tbl_5 (i := 10) rfl, rfl⟩, (List.forall_mem_cons.mpr ⟨fun _ => ⟨tbl_5 (i := 12) rfl, rfl⟩, (List.forall_mem_cons.mpr ⟨fun _ => ⟨tbl_5 (i := 14) rfl, rfl⟩, (List.forall_mem_cons.mpr ⟨fun _ => ⟨tbl_5 (i := 16) rfl, rfl⟩, (List.forall_mem_cons.mpr ⟨fun h => absurd h (by decide +kernel), (List.forall_mem_cons.mpr ⟨fun h => absurd h (by decide +kernel), (List.forall_mem_cons.mpr ⟨fun _ => ⟨tbl_5 (i := 20) rfl, rfl⟩, (List.forall_mem_cons.mpr ⟨fun _ => ⟨tbl_5 (i := 19) rfl, rfl⟩, (List.forall_mem_cons.mpr ⟨fun _ => ⟨tbl_5 (i := 18) rfl, rfl⟩, (fun _ h => absurd h List.not_mem_nil)⟩)⟩)⟩)⟩)⟩)⟩)⟩)⟩)⟩)⟩)⟩)⟩)⟩)⟩)⟩)
theorem at_X11_104 {zs : Nat × Nat} {args : Array Value} {s : State} {A : Nat → Prop} {H : Heap} (hts : ∀ w ∈ gw, w.before args s = true) (hE : ENV zs A s H) : ∀ w ∈ vx_atS RX11 104 "java/lang/IllegalArgumentException" ["java/lang/RuntimeException", "java/lang/Exception"], w.before args s = true := at_of at_X11_104_a hts hE
theorem at_X11_104_g {ik : Nat} : ∀ w ∈ Cond.classLink RX11 ik "java/lang/IllegalArgumentException" :: Cond.initialized "java/lang/IllegalArgumentException" :: vx_atS RX11 104 "java/lang/IllegalArgumentException" ["java/lang/RuntimeException", "java/lang/Exception"], vx_ot w = true := List.forall_mem_cons.mpr ⟨rfl, List.forall_mem_cons.mpr ⟨rfl, at_ot at_X11_104_a⟩⟩
set_option maxHeartbeats 4000000 in
set_option maxRecDepth 100000 in
/-- Gearbox$Tokens.append, from the state that its caller has -/
theorem kX10_append_n1 {zs : Nat × Nat} (l : Launch) (dC : Nat → ClassId) (dI : Nat → Nat → Nat) (a0 : Nat) (i1 : Int32) (a12 : Nat) (k13 : ClassId) (sz : Nat)  : Met l yX10_append (wz yX10_append cX10_append 3 (Option.none : Option Jvm.ClassFile.FieldType)) ({ frames := 0, cells := 0, slots := 0, locals := 0 }) (va_Pc [.ref a0, .int i1] (PRE zs dC dI [(a0, .inr (0, [.ref a12, .int 0, .int 0, .int 0, .int 0, .long 0, .int 0, .int 0])), (a12, .inl (k13, 1200, .inl (fun _ => 0)))] [(k13, .int)] sz)) (va_Qv (fun (_ : Unit) => True) (fun _ t => ∃ (f12 : Nat → Int32), POST dC dI [(a0, .inr (0, [.ref a12, .int 4, .int 0, .int 0, .int 0, .long 0, .int 0, .int 0])), (a12, .inl (k13, 1200, .inl f12))] [(k13, .int)] (va_A [(a0, .inr (0, [.ref a12, .int 0, .int 0, .int 0, .int 0, .long 0, .int 0, .int 0])), (a12, .inl (k13, 1200, .inl (fun _ => 0)))] sz) t) (va_A [(a0, .inr (0, [.ref a12, .int 0, .int 0, .int 0, .int 0, .long 0, .int 0, .int 0])), (a12, .inl (k13, 1200, .inl (fun _ => 0)))] sz)) 0 0 (va_A [(a0, .inr (0, [.ref a12, .int 0, .int 0, .int 0, .int 0, .long 0, .int 0, .int 0])), (a12, .inl (k13, 1200, .inl (fun _ => 0)))] sz) := by
  refine Met.ofW (cc := cX10_append) (maxL := 3) (ret := (Option.none : Option Jvm.ClassFile.FieldType)) (by decide) rfl ?_
  intro p e s m args below meth c s₁ B hml hv
  obtain ⟨rfl, hsz, hP, hK, hD0, hE⟩ := hv
  have hx := B.exec
  have hb := B.bytes
  have hr := B.returns
  have hts0 := atoms_spec (ws := wz yX10_append cX10_append 3 (Option.none : Option Jvm.ClassFile.FieldType)) B.pre
  have hts : ∀ w ∈ gw, w.before _ s = true := fun w h => hts0 w (List.mem_cons_of_mem _ h)
  have hown : s.vm.findClass RX10 = some m.cls := findClass_of_methodNamed B.named
  have hlocks := B.notSynchronized
  subst hsz
  have hD := hD0.self (sz := s.heap.size)
  generalize hAe : va_A [(a0, .inr (0, [.ref a12, .int 0, .int 0, .int 0, .int 0, .long 0, .int 0, .int 0])), (a12, .inl (k13, 1200, .inl (fun _ => 0)))] s.heap.size = A at hD hE ⊢
  have hA : ∀ q : Nat, s.heap.size ≤ q → A q := fun q h => by rw [← hAe]; exact Or.inr h
  have hS : va_S A s.heap s.heap [] := va_S.rf
  have hP : va_P (dC, dI) cls [(a0, .inr (0, [.ref a12, .int 0, .int 0, .int 0, .int 0, .long 0, .int 0, .int 0])), (a12, .inl (k13, 1200, .inl (fun _ => 0)))] s.heap := hP
  have hl := lv_entry ([.ref a0, .int i1]) (n := 3) (Nat.le_of_ble_eq_true rfl)
  rw [lg_entry_eq]
  generalize (lg_sl ([.ref a0, .int i1]) ++ List.replicate (3 - (lg_sl ([.ref a0, .int i1])).length) Slot.unset).toArray = ls at hl ⊢
  have hl : lv_has ls 3 [(0, .ref a0), (1, .int i1)] := hl
  refine lv_bipush (v := 24) hx hb dX10_append_0 (by decide) ?_
  refine lv_istore_n (lv' := [(2, .int 24), (0, .ref a0), (1, .int i1)]) hx hb dX10_append_2 rfl hl (by decide) rfl (fun ls hl => ?_)
  refine lv_iload_n hx hb dX10_append_3 rfl (lv_at hl 0 rfl) ?_
  refine lv_if_lt (tgt := 49) hx hb dX10_append_4 (by decide) (fun c => absurd c (by decide)) (fun _ => ?_)
  refine lv_aload_n hx hb dX10_append_7 rfl (lv_at hl 1 rfl) ?_
  refine va_get (D := (dC, dI)) (ci := 0) (v := .int 0) (C := RX10) (T := TX10) (N := 8) hx hb hts i_X10 hown hK hP 0 rfl rfl 1 (by decide) (hts _ qw208) (fun _ h9 => h9) rfl dX10_append_8 ?_
  refine lv_sipush (v := 1200) hx hb dX10_append_11 (by decide) ?_
  refine lv_icmp_ge (tgt := 49) hx hb dX10_append_14 (by decide) (fun c => absurd c (by decide)) (fun _ => ?_)
  refine lv_aload_n hx hb dX10_append_17 rfl (lv_at hl 1 rfl) ?_
  refine va_get (D := (dC, dI)) (ci := 0) (v := .ref a12) (C := RX10) (T := TX10) (N := 8) hx hb hts i_X10 hown hK hP 0 rfl rfl 0 (by decide) (hts _ qw3) (fun _ h9 => h9) rfl dX10_append_18 ?_
  refine lv_aload_n hx hb dX10_append_21 rfl (lv_at hl 1 rfl) ?_
  refine va_get (D := (dC, dI)) (ci := 0) (v := .int 0) (C := RX10) (T := TX10) (N := 8) hx hb hts i_X10 hown hK hP 0 rfl rfl 1 (by decide) (hts _ qw208) (fun _ h9 => h9) rfl dX10_append_22 ?_
  refine lv_iload_n hx hb dX10_append_25 rfl (lv_at hl 2 rfl) ?_
  refine lv_iload_n hx hb dX10_append_26 rfl (lv_at hl 0 rfl) ?_
  refine lv_iushr hx hb dX10_append_27 rfl ?_
  refine lv_topi (fun x1 ex1 => ?_)
  refine lv_sipush (v := 255) hx hb dX10_append_28 (by decide) ?_
  refine lv_iand hx hb dX10_append_31 ?_
  refine lv_topi (fun x2 ex2 => ?_)
  refine va_iast hx hb hK hP hD hS 1 0 rfl rfl (by unfold vp_in; decide +kernel) dX10_append_32 (fun H locs hP hD hS => ?_)
  have hP : va_P (dC, dI) cls [(a0, .inr (0, [.ref a12, .int 0, .int 0, .int 0, .int 0, .long 0, .int 0, .int 0])), (a12, .inl (k13, 1200, .inl (upd (fun _ => 0) (Int32.toNatClampNeg 0) x2)))] H := hP
  have hD : va_D A [(a0, .inr (0, [.ref a12, .int 0, .int 0, .int 0, .int 0, .long 0, .int 0, .int 0])), (a12, .inl (k13, 1200, .inl (upd (fun _ => 0) (Int32.toNatClampNeg 0) x2)))] := hD
  generalize upd (fun _ => 0) (Int32.toNatClampNeg 0) x2 = f3 at hP hD
  refine lv_aload_n hx hb dX10_append_33 rfl (lv_at hl 1 rfl) ?_
  refine lv_dup hx hb dX10_append_34 rfl ?_
  refine va_get (D := (dC, dI)) (ci := 0) (v := .int 0) (C := RX10) (T := TX10) (N := 8) hx hb hts i_X10 hown hK hP 0 rfl rfl 1 (by decide) (hts _ qw208) (fun _ h9 => h9) rfl dX10_append_35 ?_
  refine lv_iconst (v := 1) hx hb dX10_append_38 (by decide) ?_
  refine lv_iadd hx hb dX10_append_39 ?_
  refine lv_topC (y := 1) (by decide) ?_
  refine va_put (D := (dC, dI)) (ci := 0) (v := .int 1) (ty := .int) (C := RX10) (T := TX10) (N := 8) hx hb hts i_X10 tyX10 tyX10_ok nmX10 hown hK hP hD hS 0 rfl rfl 1 (by decide) (hts _ qw208) (fun _ h9 => h9) rfl (by decide +kernel) rfl rfl (Nat.le_of_ble_eq_true rfl) dX10_append_40 (fun H locs hP hD hS => ?_)
  have hP : va_P (dC, dI) cls [(a0, .inr (0, [.ref a12, .int 1, .int 0, .int 0, .int 0, .long 0, .int 0, .int 0])), (a12, .inl (k13, 1200, .inl f3))] H := hP
  have hD : va_D A [(a0, .inr (0, [.ref a12, .int 1, .int 0, .int 0, .int 0, .long 0, .int 0, .int 0])), (a12, .inl (k13, 1200, .inl f3))] := hD
  refine lv_iinc (v := 16) (lv' := [(2, .int 16), (0, .ref a0), (1, .int i1)]) hx hb dX10_append_43 hl (k := 0) rfl (by decide) (by decide) rfl (fun ls hl => ?_)
  refine lv_goto (tgt := 3) hx hb dX10_append_46 (by decide) ?_
  refine lv_iload_n hx hb dX10_append_3 rfl (lv_at hl 0 rfl) ?_
  refine lv_if_lt (tgt := 49) hx hb dX10_append_4 (by decide) (fun c => absurd c (by decide)) (fun _ => ?_)
  refine lv_aload_n hx hb dX10_append_7 rfl (lv_at hl 1 rfl) ?_
  refine va_get (D := (dC, dI)) (ci := 0) (v := .int 1) (C := RX10) (T := TX10) (N := 8) hx hb hts i_X10 hown hK hP 0 rfl rfl 1 (by decide) (hts _ qw208) (fun _ h9 => h9) rfl dX10_append_8 ?_
  refine lv_sipush (v := 1200) hx hb dX10_append_11 (by decide) ?_
  refine lv_icmp_ge (tgt := 49) hx hb dX10_append_14 (by decide) (fun c => absurd c (by decide)) (fun _ => ?_)
  refine lv_aload_n hx hb dX10_append_17 rfl (lv_at hl 1 rfl) ?_
  refine va_get (D := (dC, dI)) (ci := 0) (v := .ref a12) (C := RX10) (T := TX10) (N := 8) hx hb hts i_X10 hown hK hP 0 rfl rfl 0 (by decide) (hts _ qw3) (fun _ h9 => h9) rfl dX10_append_18 ?_
  refine lv_aload_n hx hb dX10_append_21 rfl (lv_at hl 1 rfl) ?_
  refine va_get (D := (dC, dI)) (ci := 0) (v := .int 1) (C := RX10) (T := TX10) (N := 8) hx hb hts i_X10 hown hK hP 0 rfl rfl 1 (by decide) (hts _ qw208) (fun _ h9 => h9) rfl dX10_append_22 ?_
  refine lv_iload_n hx hb dX10_append_25 rfl (lv_at hl 2 rfl) ?_
  refine lv_iload_n hx hb dX10_append_26 rfl (lv_at hl 0 rfl) ?_
  refine lv_iushr hx hb dX10_append_27 rfl ?_
  refine lv_topi (fun x4 ex4 => ?_)
  refine lv_sipush (v := 255) hx hb dX10_append_28 (by decide) ?_
  refine lv_iand hx hb dX10_append_31 ?_
  refine lv_topi (fun x5 ex5 => ?_)
  refine va_iast hx hb hK hP hD hS 1 0 rfl rfl (by unfold vp_in; decide +kernel) dX10_append_32 (fun H locs hP hD hS => ?_)
  have hP : va_P (dC, dI) cls [(a0, .inr (0, [.ref a12, .int 1, .int 0, .int 0, .int 0, .long 0, .int 0, .int 0])), (a12, .inl (k13, 1200, .inl (upd f3 (Int32.toNatClampNeg 1) x5)))] H := hP
  have hD : va_D A [(a0, .inr (0, [.ref a12, .int 1, .int 0, .int 0, .int 0, .long 0, .int 0, .int 0])), (a12, .inl (k13, 1200, .inl (upd f3 (Int32.toNatClampNeg 1) x5)))] := hD
  generalize upd f3 (Int32.toNatClampNeg 1) x5 = f6 at hP hD
  refine lv_aload_n hx hb dX10_append_33 rfl (lv_at hl 1 rfl) ?_
  refine lv_dup hx hb dX10_append_34 rfl ?_
  refine va_get (D := (dC, dI)) (ci := 0) (v := .int 1) (C := RX10) (T := TX10) (N := 8) hx hb hts i_X10 hown hK hP 0 rfl rfl 1 (by decide) (hts _ qw208) (fun _ h9 => h9) rfl dX10_append_35 ?_
  refine lv_iconst (v := 1) hx hb dX10_append_38 (by decide) ?_
  refine lv_iadd hx hb dX10_append_39 ?_
  refine lv_topC (y := 2) (by decide) ?_
  refine va_put (D := (dC, dI)) (ci := 0) (v := .int 2) (ty := .int) (C := RX10) (T := TX10) (N := 8) hx hb hts i_X10 tyX10 tyX10_ok nmX10 hown hK hP hD hS 0 rfl rfl 1 (by decide) (hts _ qw208) (fun _ h9 => h9) rfl (by decide +kernel) rfl rfl (Nat.le_of_ble_eq_true rfl) dX10_append_40 (fun H locs hP hD hS => ?_)
  have hP : va_P (dC, dI) cls [(a0, .inr (0, [.ref a12, .int 2, .int 0, .int 0, .int 0, .long 0, .int 0, .int 0])), (a12, .inl (k13, 1200, .inl f6))] H := hP
  have hD : va_D A [(a0, .inr (0, [.ref a12, .int 2, .int 0, .int 0, .int 0, .long 0, .int 0, .int 0])), (a12, .inl (k13, 1200, .inl f6))] := hD
  refine lv_iinc (v := 8) (lv' := [(2, .int 8), (0, .ref a0), (1, .int i1)]) hx hb dX10_append_43 hl (k := 0) rfl (by decide) (by decide) rfl (fun ls hl => ?_)
  refine lv_goto (tgt := 3) hx hb dX10_append_46 (by decide) ?_
  refine lv_iload_n hx hb dX10_append_3 rfl (lv_at hl 0 rfl) ?_
  refine lv_if_lt (tgt := 49) hx hb dX10_append_4 (by decide) (fun c => absurd c (by decide)) (fun _ => ?_)
  refine lv_aload_n hx hb dX10_append_7 rfl (lv_at hl 1 rfl) ?_
  refine va_get (D := (dC, dI)) (ci := 0) (v := .int 2) (C := RX10) (T := TX10) (N := 8) hx hb hts i_X10 hown hK hP 0 rfl rfl 1 (by decide) (hts _ qw208) (fun _ h9 => h9) rfl dX10_append_8 ?_
  refine lv_sipush (v := 1200) hx hb dX10_append_11 (by decide) ?_
  refine lv_icmp_ge (tgt := 49) hx hb dX10_append_14 (by decide) (fun c => absurd c (by decide)) (fun _ => ?_)
  refine lv_aload_n hx hb dX10_append_17 rfl (lv_at hl 1 rfl) ?_
  refine va_get (D := (dC, dI)) (ci := 0) (v := .ref a12) (C := RX10) (T := TX10) (N := 8) hx hb hts i_X10 hown hK hP 0 rfl rfl 0 (by decide) (hts _ qw3) (fun _ h9 => h9) rfl dX10_append_18 ?_
  refine lv_aload_n hx hb dX10_append_21 rfl (lv_at hl 1 rfl) ?_
  refine va_get (D := (dC, dI)) (ci := 0) (v := .int 2) (C := RX10) (T := TX10) (N := 8) hx hb hts i_X10 hown hK hP 0 rfl rfl 1 (by decide) (hts _ qw208) (fun _ h9 => h9) rfl dX10_append_22 ?_
  refine lv_iload_n hx hb dX10_append_25 rfl (lv_at hl 2 rfl) ?_
  refine lv_iload_n hx hb dX10_append_26 rfl (lv_at hl 0 rfl) ?_
  refine lv_iushr hx hb dX10_append_27 rfl ?_
  refine lv_topi (fun x7 ex7 => ?_)
  refine lv_sipush (v := 255) hx hb dX10_append_28 (by decide) ?_
  refine lv_iand hx hb dX10_append_31 ?_
  refine lv_topi (fun x8 ex8 => ?_)
  refine va_iast hx hb hK hP hD hS 1 0 rfl rfl (by unfold vp_in; decide +kernel) dX10_append_32 (fun H locs hP hD hS => ?_)
  have hP : va_P (dC, dI) cls [(a0, .inr (0, [.ref a12, .int 2, .int 0, .int 0, .int 0, .long 0, .int 0, .int 0])), (a12, .inl (k13, 1200, .inl (upd f6 (Int32.toNatClampNeg 2) x8)))] H := hP
  have hD : va_D A [(a0, .inr (0, [.ref a12, .int 2, .int 0, .int 0, .int 0, .long 0, .int 0, .int 0])), (a12, .inl (k13, 1200, .inl (upd f6 (Int32.toNatClampNeg 2) x8)))] := hD
  generalize upd f6 (Int32.toNatClampNeg 2) x8 = f9 at hP hD
  refine lv_aload_n hx hb dX10_append_33 rfl (lv_at hl 1 rfl) ?_
  refine lv_dup hx hb dX10_append_34 rfl ?_
  refine va_get (D := (dC, dI)) (ci := 0) (v := .int 2) (C := RX10) (T := TX10) (N := 8) hx hb hts i_X10 hown hK hP 0 rfl rfl 1 (by decide) (hts _ qw208) (fun _ h9 => h9) rfl dX10_append_35 ?_
  refine lv_iconst (v := 1) hx hb dX10_append_38 (by decide) ?_
  refine lv_iadd hx hb dX10_append_39 ?_
  refine lv_topC (y := 3) (by decide) ?_
  refine va_put (D := (dC, dI)) (ci := 0) (v := .int 3) (ty := .int) (C := RX10) (T := TX10) (N := 8) hx hb hts i_X10 tyX10 tyX10_ok nmX10 hown hK hP hD hS 0 rfl rfl 1 (by decide) (hts _ qw208) (fun _ h9 => h9) rfl (by decide +kernel) rfl rfl (Nat.le_of_ble_eq_true rfl) dX10_append_40 (fun H locs hP hD hS => ?_)
  have hP : va_P (dC, dI) cls [(a0, .inr (0, [.ref a12, .int 3, .int 0, .int 0, .int 0, .long 0, .int 0, .int 0])), (a12, .inl (k13, 1200, .inl f9))] H := hP
  have hD : va_D A [(a0, .inr (0, [.ref a12, .int 3, .int 0, .int 0, .int 0, .long 0, .int 0, .int 0])), (a12, .inl (k13, 1200, .inl f9))] := hD
  refine lv_iinc (v := 0) (lv' := [(2, .int 0), (0, .ref a0), (1, .int i1)]) hx hb dX10_append_43 hl (k := 0) rfl (by decide) (by decide) rfl (fun ls hl => ?_)
  refine lv_goto (tgt := 3) hx hb dX10_append_46 (by decide) ?_
  refine lv_iload_n hx hb dX10_append_3 rfl (lv_at hl 0 rfl) ?_
  refine lv_if_lt (tgt := 49) hx hb dX10_append_4 (by decide) (fun c => absurd c (by decide)) (fun _ => ?_)
  refine lv_aload_n hx hb dX10_append_7 rfl (lv_at hl 1 rfl) ?_
  refine va_get (D := (dC, dI)) (ci := 0) (v := .int 3) (C := RX10) (T := TX10) (N := 8) hx hb hts i_X10 hown hK hP 0 rfl rfl 1 (by decide) (hts _ qw208) (fun _ h9 => h9) rfl dX10_append_8 ?_
  refine lv_sipush (v := 1200) hx hb dX10_append_11 (by decide) ?_
  refine lv_icmp_ge (tgt := 49) hx hb dX10_append_14 (by decide) (fun c => absurd c (by decide)) (fun _ => ?_)
  refine lv_aload_n hx hb dX10_append_17 rfl (lv_at hl 1 rfl) ?_
  refine va_get (D := (dC, dI)) (ci := 0) (v := .ref a12) (C := RX10) (T := TX10) (N := 8) hx hb hts i_X10 hown hK hP 0 rfl rfl 0 (by decide) (hts _ qw3) (fun _ h9 => h9) rfl dX10_append_18 ?_
  refine lv_aload_n hx hb dX10_append_21 rfl (lv_at hl 1 rfl) ?_
  refine va_get (D := (dC, dI)) (ci := 0) (v := .int 3) (C := RX10) (T := TX10) (N := 8) hx hb hts i_X10 hown hK hP 0 rfl rfl 1 (by decide) (hts _ qw208) (fun _ h9 => h9) rfl dX10_append_22 ?_
  refine lv_iload_n hx hb dX10_append_25 rfl (lv_at hl 2 rfl) ?_
  refine lv_iload_n hx hb dX10_append_26 rfl (lv_at hl 0 rfl) ?_
  refine lv_iushr hx hb dX10_append_27 rfl ?_
  refine lv_topi (fun x10 ex10 => ?_)
  refine lv_sipush (v := 255) hx hb dX10_append_28 (by decide) ?_
  refine lv_iand hx hb dX10_append_31 ?_
  refine lv_topi (fun x11 ex11 => ?_)
  refine va_iast hx hb hK hP hD hS 1 0 rfl rfl (by unfold vp_in; decide +kernel) dX10_append_32 (fun H locs hP hD hS => ?_)
  have hP : va_P (dC, dI) cls [(a0, .inr (0, [.ref a12, .int 3, .int 0, .int 0, .int 0, .long 0, .int 0, .int 0])), (a12, .inl (k13, 1200, .inl (upd f9 (Int32.toNatClampNeg 3) x11)))] H := hP
  have hD : va_D A [(a0, .inr (0, [.ref a12, .int 3, .int 0, .int 0, .int 0, .long 0, .int 0, .int 0])), (a12, .inl (k13, 1200, .inl (upd f9 (Int32.toNatClampNeg 3) x11)))] := hD
  generalize upd f9 (Int32.toNatClampNeg 3) x11 = f12 at hP hD
  refine lv_aload_n hx hb dX10_append_33 rfl (lv_at hl 1 rfl) ?_
  refine lv_dup hx hb dX10_append_34 rfl ?_
  refine va_get (D := (dC, dI)) (ci := 0) (v := .int 3) (C := RX10) (T := TX10) (N := 8) hx hb hts i_X10 hown hK hP 0 rfl rfl 1 (by decide) (hts _ qw208) (fun _ h9 => h9) rfl dX10_append_35 ?_
  refine lv_iconst (v := 1) hx hb dX10_append_38 (by decide) ?_
  refine lv_iadd hx hb dX10_append_39 ?_
  refine lv_topC (y := 4) (by decide) ?_
  refine va_put (D := (dC, dI)) (ci := 0) (v := .int 4) (ty := .int) (C := RX10) (T := TX10) (N := 8) hx hb hts i_X10 tyX10 tyX10_ok nmX10 hown hK hP hD hS 0 rfl rfl 1 (by decide) (hts _ qw208) (fun _ h9 => h9) rfl (by decide +kernel) rfl rfl (Nat.le_of_ble_eq_true rfl) dX10_append_40 (fun H locs hP hD hS => ?_)
  have hP : va_P (dC, dI) cls [(a0, .inr (0, [.ref a12, .int 4, .int 0, .int 0, .int 0, .long 0, .int 0, .int 0])), (a12, .inl (k13, 1200, .inl f12))] H := hP
  have hD : va_D A [(a0, .inr (0, [.ref a12, .int 4, .int 0, .int 0, .int 0, .long 0, .int 0, .int 0])), (a12, .inl (k13, 1200, .inl f12))] := hD
  refine lv_iinc (v := (-8)) (lv' := [(2, .int (-8)), (0, .ref a0), (1, .int i1)]) hx hb dX10_append_43 hl (k := 0) rfl (by decide) (by decide) rfl (fun ls hl => ?_)
  refine lv_goto (tgt := 3) hx hb dX10_append_46 (by decide) ?_
  refine lv_iload_n hx hb dX10_append_3 rfl (lv_at hl 0 rfl) ?_
  refine lv_if_lt (tgt := 49) hx hb dX10_append_4 (by decide) (fun _ => ?_) (fun c => absurd (by decide) c)
  have hP9 : va_P (dC, dI) cls [(a0, .inr (0, [.ref a12, .int 4, .int 0, .int 0, .int 0, .long 0, .int 0, .int 0])), (a12, .inl (k13, 1200, .inl f12))] H := hP.sub [0, 1] rfl
  have hD9 : va_D A [(a0, .inr (0, [.ref a12, .int 4, .int 0, .int 0, .int 0, .long 0, .int 0, .int 0])), (a12, .inl (k13, 1200, .inl f12))] := hD.sub [0, 1] (by decide) rfl
  have hK9 : va_K (dC, dI) cls [(k13, .int)] s := hK.sub [0] rfl
  exact W.vret hx hb hr (fun t ht hW => ⟨⟨(), rfl, trivial, ⟨f12, ⟨by rw [ht]; exact hP9, va_K.moved hW.alike hK9, hD9⟩⟩⟩, hS.F ht⟩) hS.2.2 dX10_append_49
set_option maxHeartbeats 4000000 in
set_option maxRecDepth 100000 in
/-- Gearbox$Tokens.append, from the state that its caller has -/
theorem kX10_append_n2 {zs : Nat × Nat} (l : Launch) (dC : Nat → ClassId) (dI : Nat → Nat → Nat) (a0 : Nat) (i1 : Int32) (a62 : Nat) (F63 : Nat → Int32) (k64 : ClassId) (sz : Nat)  : Met l yX10_append (wz yX10_append cX10_append 3 (Option.none : Option Jvm.ClassFile.FieldType)) ({ frames := 0, cells := 0, slots := 0, locals := 0 }) (va_Pc [.ref a0, .int i1] (PRE zs dC dI [(a0, .inr (0, [.ref a62, .int 4, .int 0, .int 0, .int 0, .long 0, .int 0, .int 0])), (a62, .inl (k64, 1200, .inl F63))] [(k64, .int)] sz)) (va_Qv (fun (_ : Unit) => True) (fun _ t => ∃ (f12 : Nat → Int32), POST dC dI [(a0, .inr (0, [.ref a62, .int 8, .int 0, .int 0, .int 0, .long 0, .int 0, .int 0])), (a62, .inl (k64, 1200, .inl f12))] [(k64, .int)] (va_A [(a0, .inr (0, [.ref a62, .int 4, .int 0, .int 0, .int 0, .long 0, .int 0, .int 0])), (a62, .inl (k64, 1200, .inl F63))] sz) t) (va_A [(a0, .inr (0, [.ref a62, .int 4, .int 0, .int 0, .int 0, .long 0, .int 0, .int 0])), (a62, .inl (k64, 1200, .inl F63))] sz)) 0 0 (va_A [(a0, .inr (0, [.ref a62, .int 4, .int 0, .int 0, .int 0, .long 0, .int 0, .int 0])), (a62, .inl (k64, 1200, .inl F63))] sz) := by
  refine Met.ofW (cc := cX10_append) (maxL := 3) (ret := (Option.none : Option Jvm.ClassFile.FieldType)) (by decide) rfl ?_
  intro p e s m args below meth c s₁ B hml hv
  obtain ⟨rfl, hsz, hP, hK, hD0, hE⟩ := hv
  have hx := B.exec
  have hb := B.bytes
  have hr := B.returns
  have hts0 := atoms_spec (ws := wz yX10_append cX10_append 3 (Option.none : Option Jvm.ClassFile.FieldType)) B.pre
  have hts : ∀ w ∈ gw, w.before _ s = true := fun w h => hts0 w (List.mem_cons_of_mem _ h)
  have hown : s.vm.findClass RX10 = some m.cls := findClass_of_methodNamed B.named
  have hlocks := B.notSynchronized
  subst hsz
  have hD := hD0.self (sz := s.heap.size)
  generalize hAe : va_A [(a0, .inr (0, [.ref a62, .int 4, .int 0, .int 0, .int 0, .long 0, .int 0, .int 0])), (a62, .inl (k64, 1200, .inl F63))] s.heap.size = A at hD hE ⊢
  have hA : ∀ q : Nat, s.heap.size ≤ q → A q := fun q h => by rw [← hAe]; exact Or.inr h
  have hS : va_S A s.heap s.heap [] := va_S.rf
  have hP : va_P (dC, dI) cls [(a0, .inr (0, [.ref a62, .int 4, .int 0, .int 0, .int 0, .long 0, .int 0, .int 0])), (a62, .inl (k64, 1200, .inl F63))] s.heap := hP
  have hl := lv_entry ([.ref a0, .int i1]) (n := 3) (Nat.le_of_ble_eq_true rfl)
  rw [lg_entry_eq]
  generalize (lg_sl ([.ref a0, .int i1]) ++ List.replicate (3 - (lg_sl ([.ref a0, .int i1])).length) Slot.unset).toArray = ls at hl ⊢
  have hl : lv_has ls 3 [(0, .ref a0), (1, .int i1)] := hl
  refine lv_bipush (v := 24) hx hb dX10_append_0 (by decide) ?_
  refine lv_istore_n (lv' := [(2, .int 24), (0, .ref a0), (1, .int i1)]) hx hb dX10_append_2 rfl hl (by decide) rfl (fun ls hl => ?_)
  refine lv_iload_n hx hb dX10_append_3 rfl (lv_at hl 0 rfl) ?_
  refine lv_if_lt (tgt := 49) hx hb dX10_append_4 (by decide) (fun c => absurd c (by decide)) (fun _ => ?_)
  refine lv_aload_n hx hb dX10_append_7 rfl (lv_at hl 1 rfl) ?_
  refine va_get (D := (dC, dI)) (ci := 0) (v := .int 4) (C := RX10) (T := TX10) (N := 8) hx hb hts i_X10 hown hK hP 0 rfl rfl 1 (by decide) (hts _ qw208) (fun _ h9 => h9) rfl dX10_append_8 ?_
  refine lv_sipush (v := 1200) hx hb dX10_append_11 (by decide) ?_
  refine lv_icmp_ge (tgt := 49) hx hb dX10_append_14 (by decide) (fun c => absurd c (by decide)) (fun _ => ?_)
  refine lv_aload_n hx hb dX10_append_17 rfl (lv_at hl 1 rfl) ?_
  refine va_get (D := (dC, dI)) (ci := 0) (v := .ref a62) (C := RX10) (T := TX10) (N := 8) hx hb hts i_X10 hown hK hP 0 rfl rfl 0 (by decide) (hts _ qw3) (fun _ h9 => h9) rfl dX10_append_18 ?_
  refine lv_aload_n hx hb dX10_append_21 rfl (lv_at hl 1 rfl) ?_
  refine va_get (D := (dC, dI)) (ci := 0) (v := .int 4) (C := RX10) (T := TX10) (N := 8) hx hb hts i_X10 hown hK hP 0 rfl rfl 1 (by decide) (hts _ qw208) (fun _ h9 => h9) rfl dX10_append_22 ?_
  refine lv_iload_n hx hb dX10_append_25 rfl (lv_at hl 2 rfl) ?_
  refine lv_iload_n hx hb dX10_append_26 rfl (lv_at hl 0 rfl) ?_
  refine lv_iushr hx hb dX10_append_27 rfl ?_
  refine lv_topi (fun x1 ex1 => ?_)
  refine lv_sipush (v := 255) hx hb dX10_append_28 (by decide) ?_
  refine lv_iand hx hb dX10_append_31 ?_
  refine lv_topi (fun x2 ex2 => ?_)
  refine va_iast hx hb hK hP hD hS 1 0 rfl rfl (by unfold vp_in; decide +kernel) dX10_append_32 (fun H locs hP hD hS => ?_)
  have hP : va_P (dC, dI) cls [(a0, .inr (0, [.ref a62, .int 4, .int 0, .int 0, .int 0, .long 0, .int 0, .int 0])), (a62, .inl (k64, 1200, .inl (upd F63 (Int32.toNatClampNeg 4) x2)))] H := hP
  have hD : va_D A [(a0, .inr (0, [.ref a62, .int 4, .int 0, .int 0, .int 0, .long 0, .int 0, .int 0])), (a62, .inl (k64, 1200, .inl (upd F63 (Int32.toNatClampNeg 4) x2)))] := hD
  generalize upd F63 (Int32.toNatClampNeg 4) x2 = f3 at hP hD
  refine lv_aload_n hx hb dX10_append_33 rfl (lv_at hl 1 rfl) ?_
  refine lv_dup hx hb dX10_append_34 rfl ?_
  refine va_get (D := (dC, dI)) (ci := 0) (v := .int 4) (C := RX10) (T := TX10) (N := 8) hx hb hts i_X10 hown hK hP 0 rfl rfl 1 (by decide) (hts _ qw208) (fun _ h9 => h9) rfl dX10_append_35 ?_
  refine lv_iconst (v := 1) hx hb dX10_append_38 (by decide) ?_
  refine lv_iadd hx hb dX10_append_39 ?_
  refine lv_topC (y := 5) (by decide) ?_
  refine va_put (D := (dC, dI)) (ci := 0) (v := .int 5) (ty := .int) (C := RX10) (T := TX10) (N := 8) hx hb hts i_X10 tyX10 tyX10_ok nmX10 hown hK hP hD hS 0 rfl rfl 1 (by decide) (hts _ qw208) (fun _ h9 => h9) rfl (by decide +kernel) rfl rfl (Nat.le_of_ble_eq_true rfl) dX10_append_40 (fun H locs hP hD hS => ?_)
  have hP : va_P (dC, dI) cls [(a0, .inr (0, [.ref a62, .int 5, .int 0, .int 0, .int 0, .long 0, .int 0, .int 0])), (a62, .inl (k64, 1200, .inl f3))] H := hP
  have hD : va_D A [(a0, .inr (0, [.ref a62, .int 5, .int 0, .int 0, .int 0, .long 0, .int 0, .int 0])), (a62, .inl (k64, 1200, .inl f3))] := hD
  refine lv_iinc (v := 16) (lv' := [(2, .int 16), (0, .ref a0), (1, .int i1)]) hx hb dX10_append_43 hl (k := 0) rfl (by decide) (by decide) rfl (fun ls hl => ?_)
  refine lv_goto (tgt := 3) hx hb dX10_append_46 (by decide) ?_
  refine lv_iload_n hx hb dX10_append_3 rfl (lv_at hl 0 rfl) ?_
  refine lv_if_lt (tgt := 49) hx hb dX10_append_4 (by decide) (fun c => absurd c (by decide)) (fun _ => ?_)
  refine lv_aload_n hx hb dX10_append_7 rfl (lv_at hl 1 rfl) ?_
  refine va_get (D := (dC, dI)) (ci := 0) (v := .int 5) (C := RX10) (T := TX10) (N := 8) hx hb hts i_X10 hown hK hP 0 rfl rfl 1 (by decide) (hts _ qw208) (fun _ h9 => h9) rfl dX10_append_8 ?_
  refine lv_sipush (v := 1200) hx hb dX10_append_11 (by decide) ?_
  refine lv_icmp_ge (tgt := 49) hx hb dX10_append_14 (by decide) (fun c => absurd c (by decide)) (fun _ => ?_)
  refine lv_aload_n hx hb dX10_append_17 rfl (lv_at hl 1 rfl) ?_
  refine va_get (D := (dC, dI)) (ci := 0) (v := .ref a62) (C := RX10) (T := TX10) (N := 8) hx hb hts i_X10 hown hK hP 0 rfl rfl 0 (by decide) (hts _ qw3) (fun _ h9 => h9) rfl dX10_append_18 ?_
  refine lv_aload_n hx hb dX10_append_21 rfl (lv_at hl 1 rfl) ?_
  refine va_get (D := (dC, dI)) (ci := 0) (v := .int 5) (C := RX10) (T := TX10) (N := 8) hx hb hts i_X10 hown hK hP 0 rfl rfl 1 (by decide) (hts _ qw208) (fun _ h9 => h9) rfl dX10_append_22 ?_
  refine lv_iload_n hx hb dX10_append_25 rfl (lv_at hl 2 rfl) ?_
  refine lv_iload_n hx hb dX10_append_26 rfl (lv_at hl 0 rfl) ?_
  refine lv_iushr hx hb dX10_append_27 rfl ?_
  refine lv_topi (fun x4 ex4 => ?_)
  refine lv_sipush (v := 255) hx hb dX10_append_28 (by decide) ?_
  refine lv_iand hx hb dX10_append_31 ?_
  refine lv_topi (fun x5 ex5 => ?_)
  refine va_iast hx hb hK hP hD hS 1 0 rfl rfl (by unfold vp_in; decide +kernel) dX10_append_32 (fun H locs hP hD hS => ?_)
  have hP : va_P (dC, dI) cls [(a0, .inr (0, [.ref a62, .int 5, .int 0, .int 0, .int 0, .long 0, .int 0, .int 0])), (a62, .inl (k64, 1200, .inl (upd f3 (Int32.toNatClampNeg 5) x5)))] H := hP
  have hD : va_D A [(a0, .inr (0, [.ref a62, .int 5, .int 0, .int 0, .int 0, .long 0, .int 0, .int 0])), (a62, .inl (k64, 1200, .inl (upd f3 (Int32.toNatClampNeg 5) x5)))] := hD
  generalize upd f3 (Int32.toNatClampNeg 5) x5 = f6 at hP hD
  refine lv_aload_n hx hb dX10_append_33 rfl (lv_at hl 1 rfl) ?_
  refine lv_dup hx hb dX10_append_34 rfl ?_
  refine va_get (D := (dC, dI)) (ci := 0) (v := .int 5) (C := RX10) (T := TX10) (N := 8) hx hb hts i_X10 hown hK hP 0 rfl rfl 1 (by decide) (hts _ qw208) (fun _ h9 => h9) rfl dX10_append_35 ?_
  refine lv_iconst (v := 1) hx hb dX10_append_38 (by decide) ?_
  refine lv_iadd hx hb dX10_append_39 ?_
  refine lv_topC (y := 6) (by decide) ?_
  refine va_put (D := (dC, dI)) (ci := 0) (v := .int 6) (ty := .int) (C := RX10) (T := TX10) (N := 8) hx hb hts i_X10 tyX10 tyX10_ok nmX10 hown hK hP hD hS 0 rfl rfl 1 (by decide) (hts _ qw208) (fun _ h9 => h9) rfl (by decide +kernel) rfl rfl (Nat.le_of_ble_eq_true rfl) dX10_append_40 (fun H locs hP hD hS => ?_)
  have hP : va_P (dC, dI) cls [(a0, .inr (0, [.ref a62, .int 6, .int 0, .int 0, .int 0, .long 0, .int 0, .int 0])), (a62, .inl (k64, 1200, .inl f6))] H := hP
  have hD : va_D A [(a0, .inr (0, [.ref a62, .int 6, .int 0, .int 0, .int 0, .long 0, .int 0, .int 0])), (a62, .inl (k64, 1200, .inl f6))] := hD
  refine lv_iinc (v := 8) (lv' := [(2, .int 8), (0, .ref a0), (1, .int i1)]) hx hb dX10_append_43 hl (k := 0) rfl (by decide) (by decide) rfl (fun ls hl => ?_)
  refine lv_goto (tgt := 3) hx hb dX10_append_46 (by decide) ?_
  refine lv_iload_n hx hb dX10_append_3 rfl (lv_at hl 0 rfl) ?_
  refine lv_if_lt (tgt := 49) hx hb dX10_append_4 (by decide) (fun c => absurd c (by decide)) (fun _ => ?_)
  refine lv_aload_n hx hb dX10_append_7 rfl (lv_at hl 1 rfl) ?_
  refine va_get (D := (dC, dI)) (ci := 0) (v := .int 6) (C := RX10) (T := TX10) (N := 8) hx hb hts i_X10 hown hK hP 0 rfl rfl 1 (by decide) (hts _ qw208) (fun _ h9 => h9) rfl dX10_append_8 ?_
  refine lv_sipush (v := 1200) hx hb dX10_append_11 (by decide) ?_
  refine lv_icmp_ge (tgt := 49) hx hb dX10_append_14 (by decide) (fun c => absurd c (by decide)) (fun _ => ?_)
  refine lv_aload_n hx hb dX10_append_17 rfl (lv_at hl 1 rfl) ?_
  refine va_get (D := (dC, dI)) (ci := 0) (v := .ref a62) (C := RX10) (T := TX10) (N := 8) hx hb hts i_X10 hown hK hP 0 rfl rfl 0 (by decide) (hts _ qw3) (fun _ h9 => h9) rfl dX10_append_18 ?_
  refine lv_aload_n hx hb dX10_append_21 rfl (lv_at hl 1 rfl) ?_
  refine va_get (D := (dC, dI)) (ci := 0) (v := .int 6) (C := RX10) (T := TX10) (N := 8) hx hb hts i_X10 hown hK hP 0 rfl rfl 1 (by decide) (hts _ qw208) (fun _ h9 => h9) rfl dX10_append_22 ?_
  refine lv_iload_n hx hb dX10_append_25 rfl (lv_at hl 2 rfl) ?_
  refine lv_iload_n hx hb dX10_append_26 rfl (lv_at hl 0 rfl) ?_
  refine lv_iushr hx hb dX10_append_27 rfl ?_
  refine lv_topi (fun x7 ex7 => ?_)
  refine lv_sipush (v := 255) hx hb dX10_append_28 (by decide) ?_
  refine lv_iand hx hb dX10_append_31 ?_
  refine lv_topi (fun x8 ex8 => ?_)
  refine va_iast hx hb hK hP hD hS 1 0 rfl rfl (by unfold vp_in; decide +kernel) dX10_append_32 (fun H locs hP hD hS => ?_)
  have hP : va_P (dC, dI) cls [(a0, .inr (0, [.ref a62, .int 6, .int 0, .int 0, .int 0, .long 0, .int 0, .int 0])), (a62, .inl (k64, 1200, .inl (upd f6 (Int32.toNatClampNeg 6) x8)))] H := hP
  have hD : va_D A [(a0, .inr (0, [.ref a62, .int 6, .int 0, .int 0, .int 0, .long 0, .int 0, .int 0])), (a62, .inl (k64, 1200, .inl (upd f6 (Int32.toNatClampNeg 6) x8)))] := hD
  generalize upd f6 (Int32.toNatClampNeg 6) x8 = f9 at hP hD
  refine lv_aload_n hx hb dX10_append_33 rfl (lv_at hl 1 rfl) ?_
  refine lv_dup hx hb dX10_append_34 rfl ?_
  refine va_get (D := (dC, dI)) (ci := 0) (v := .int 6) (C := RX10) (T := TX10) (N := 8) hx hb hts i_X10 hown hK hP 0 rfl rfl 1 (by decide) (hts _ qw208) (fun _ h9 => h9) rfl dX10_append_35 ?_
  refine lv_iconst (v := 1) hx hb dX10_append_38 (by decide) ?_
  refine lv_iadd hx hb dX10_append_39 ?_
  refine lv_topC (y := 7) (by decide) ?_
  refine va_put (D := (dC, dI)) (ci := 0) (v := .int 7) (ty := .int) (C := RX10) (T := TX10) (N := 8) hx hb hts i_X10 tyX10 tyX10_ok nmX10 hown hK hP hD hS 0 rfl rfl 1 (by decide) (hts _ qw208) (fun _ h9 => h9) rfl (by decide +kernel) rfl rfl (Nat.le_of_ble_eq_true rfl) dX10_append_40 (fun H locs hP hD hS => ?_)
  have hP : va_P (dC, dI) cls [(a0, .inr (0, [.ref a62, .int 7, .int 0, .int 0, .int 0, .long 0, .int 0, .int 0])), (a62, .inl (k64, 1200, .inl f9))] H := hP
  have hD : va_D A [(a0, .inr (0, [.ref a62, .int 7, .int 0, .int 0, .int 0, .long 0, .int 0, .int 0])), (a62, .inl (k64, 1200, .inl f9))] := hD
  refine lv_iinc (v := 0) (lv' := [(2, .int 0), (0, .ref a0), (1, .int i1)]) hx hb dX10_append_43 hl (k := 0) rfl (by decide) (by decide) rfl (fun ls hl => ?_)
  refine lv_goto (tgt := 3) hx hb dX10_append_46 (by decide) ?_
  refine lv_iload_n hx hb dX10_append_3 rfl (lv_at hl 0 rfl) ?_
  refine lv_if_lt (tgt := 49) hx hb dX10_append_4 (by decide) (fun c => absurd c (by decide)) (fun _ => ?_)
  refine lv_aload_n hx hb dX10_append_7 rfl (lv_at hl 1 rfl) ?_
  refine va_get (D := (dC, dI)) (ci := 0) (v := .int 7) (C := RX10) (T := TX10) (N := 8) hx hb hts i_X10 hown hK hP 0 rfl rfl 1 (by decide) (hts _ qw208) (fun _ h9 => h9) rfl dX10_append_8 ?_
  refine lv_sipush (v := 1200) hx hb dX10_append_11 (by decide) ?_
  refine lv_icmp_ge (tgt := 49) hx hb dX10_append_14 (by decide) (fun c => absurd c (by decide)) (fun _ => ?_)
  refine lv_aload_n hx hb dX10_append_17 rfl (lv_at hl 1 rfl) ?_
  refine va_get (D := (dC, dI)) (ci := 0) (v := .ref a62) (C := RX10) (T := TX10) (N := 8) hx hb hts i_X10 hown hK hP 0 rfl rfl 0 (by decide) (hts _ qw3) (fun _ h9 => h9) rfl dX10_append_18 ?_
  refine lv_aload_n hx hb dX10_append_21 rfl (lv_at hl 1 rfl) ?_
  refine va_get (D := (dC, dI)) (ci := 0) (v := .int 7) (C := RX10) (T := TX10) (N := 8) hx hb hts i_X10 hown hK hP 0 rfl rfl 1 (by decide) (hts _ qw208) (fun _ h9 => h9) rfl dX10_append_22 ?_
  refine lv_iload_n hx hb dX10_append_25 rfl (lv_at hl 2 rfl) ?_
  refine lv_iload_n hx hb dX10_append_26 rfl (lv_at hl 0 rfl) ?_
  refine lv_iushr hx hb dX10_append_27 rfl ?_
  refine lv_topi (fun x10 ex10 => ?_)
  refine lv_sipush (v := 255) hx hb dX10_append_28 (by decide) ?_
  refine lv_iand hx hb dX10_append_31 ?_
  refine lv_topi (fun x11 ex11 => ?_)
  refine va_iast hx hb hK hP hD hS 1 0 rfl rfl (by unfold vp_in; decide +kernel) dX10_append_32 (fun H locs hP hD hS => ?_)
  have hP : va_P (dC, dI) cls [(a0, .inr (0, [.ref a62, .int 7, .int 0, .int 0, .int 0, .long 0, .int 0, .int 0])), (a62, .inl (k64, 1200, .inl (upd f9 (Int32.toNatClampNeg 7) x11)))] H := hP
  have hD : va_D A [(a0, .inr (0, [.ref a62, .int 7, .int 0, .int 0, .int 0, .long 0, .int 0, .int 0])), (a62, .inl (k64, 1200, .inl (upd f9 (Int32.toNatClampNeg 7) x11)))] := hD
  generalize upd f9 (Int32.toNatClampNeg 7) x11 = f12 at hP hD
  refine lv_aload_n hx hb dX10_append_33 rfl (lv_at hl 1 rfl) ?_
  refine lv_dup hx hb dX10_append_34 rfl ?_
  refine va_get (D := (dC, dI)) (ci := 0) (v := .int 7) (C := RX10) (T := TX10) (N := 8) hx hb hts i_X10 hown hK hP 0 rfl rfl 1 (by decide) (hts _ qw208) (fun _ h9 => h9) rfl dX10_append_35 ?_
  refine lv_iconst (v := 1) hx hb dX10_append_38 (by decide) ?_
  refine lv_iadd hx hb dX10_append_39 ?_
  refine lv_topC (y := 8) (by decide) ?_
  refine va_put (D := (dC, dI)) (ci := 0) (v := .int 8) (ty := .int) (C := RX10) (T := TX10) (N := 8) hx hb hts i_X10 tyX10 tyX10_ok nmX10 hown hK hP hD hS 0 rfl rfl 1 (by decide) (hts _ qw208) (fun _ h9 => h9) rfl (by decide +kernel) rfl rfl (Nat.le_of_ble_eq_true rfl) dX10_append_40 (fun H locs hP hD hS => ?_)
  have hP : va_P (dC, dI) cls [(a0, .inr (0, [.ref a62, .int 8, .int 0, .int 0, .int 0, .long 0, .int 0, .int 0])), (a62, .inl (k64, 1200, .inl f12))] H := hP
  have hD : va_D A [(a0, .inr (0, [.ref a62, .int 8, .int 0, .int 0, .int 0, .long 0, .int 0, .int 0])), (a62, .inl (k64, 1200, .inl f12))] := hD
  refine lv_iinc (v := (-8)) (lv' := [(2, .int (-8)), (0, .ref a0), (1, .int i1)]) hx hb dX10_append_43 hl (k := 0) rfl (by decide) (by decide) rfl (fun ls hl => ?_)
  refine lv_goto (tgt := 3) hx hb dX10_append_46 (by decide) ?_
  refine lv_iload_n hx hb dX10_append_3 rfl (lv_at hl 0 rfl) ?_
  refine lv_if_lt (tgt := 49) hx hb dX10_append_4 (by decide) (fun _ => ?_) (fun c => absurd (by decide) c)
  have hP9 : va_P (dC, dI) cls [(a0, .inr (0, [.ref a62, .int 8, .int 0, .int 0, .int 0, .long 0, .int 0, .int 0])), (a62, .inl (k64, 1200, .inl f12))] H := hP.sub [0, 1] rfl
  have hD9 : va_D A [(a0, .inr (0, [.ref a62, .int 8, .int 0, .int 0, .int 0, .long 0, .int 0, .int 0])), (a62, .inl (k64, 1200, .inl f12))] := hD.sub [0, 1] (by decide) rfl
  have hK9 : va_K (dC, dI) cls [(k64, .int)] s := hK.sub [0] rfl
  exact W.vret hx hb hr (fun t ht hW => ⟨⟨(), rfl, trivial, ⟨f12, ⟨by rw [ht]; exact hP9, va_K.moved hW.alike hK9, hD9⟩⟩⟩, hS.F ht⟩) hS.2.2 dX10_append_49
set_option maxHeartbeats 4000000 in
set_option maxRecDepth 100000 in
/-- Gearbox$Tokens.append, from the state that its caller has -/
theorem kX10_append_n3 {zs : Nat × Nat} (l : Launch) (dC : Nat → ClassId) (dI : Nat → Nat → Nat) (a0 : Nat) (i1 : Int32) (a62 : Nat) (F63 : Nat → Int32) (k64 : ClassId) (sz : Nat)  : Met l yX10_append (wz yX10_append cX10_append 3 (Option.none : Option Jvm.ClassFile.FieldType)) ({ frames := 0, cells := 0, slots := 0, locals := 0 }) (va_Pc [.ref a0, .int i1] (PRE zs dC dI [(a0, .inr (0, [.ref a62, .int 8, .int 0, .int 0, .int 0, .long 0, .int 0, .int 0])), (a62, .inl (k64, 1200, .inl F63))] [(k64, .int)] sz)) (va_Qv (fun (_ : Unit) => True) (fun _ t => ∃ (f12 : Nat → Int32), POST dC dI [(a0, .inr (0, [.ref a62, .int 12, .int 0, .int 0, .int 0, .long 0, .int 0, .int 0])), (a62, .inl (k64, 1200, .inl f12))] [(k64, .int)] (va_A [(a0, .inr (0, [.ref a62, .int 8, .int 0, .int 0, .int 0, .long 0, .int 0, .int 0])), (a62, .inl (k64, 1200, .inl F63))] sz) t) (va_A [(a0, .inr (0, [.ref a62, .int 8, .int 0, .int 0, .int 0, .long 0, .int 0, .int 0])), (a62, .inl (k64, 1200, .inl F63))] sz)) 0 0 (va_A [(a0, .inr (0, [.ref a62, .int 8, .int 0, .int 0, .int 0, .long 0, .int 0, .int 0])), (a62, .inl (k64, 1200, .inl F63))] sz) := by
  refine Met.ofW (cc := cX10_append) (maxL := 3) (ret := (Option.none : Option Jvm.ClassFile.FieldType)) (by decide) rfl ?_
  intro p e s m args below meth c s₁ B hml hv
  obtain ⟨rfl, hsz, hP, hK, hD0, hE⟩ := hv
  have hx := B.exec
  have hb := B.bytes
  have hr := B.returns
  have hts0 := atoms_spec (ws := wz yX10_append cX10_append 3 (Option.none : Option Jvm.ClassFile.FieldType)) B.pre
  have hts : ∀ w ∈ gw, w.before _ s = true := fun w h => hts0 w (List.mem_cons_of_mem _ h)
  have hown : s.vm.findClass RX10 = some m.cls := findClass_of_methodNamed B.named
  have hlocks := B.notSynchronized
  subst hsz
  have hD := hD0.self (sz := s.heap.size)
  generalize hAe : va_A [(a0, .inr (0, [.ref a62, .int 8, .int 0, .int 0, .int 0, .long 0, .int 0, .int 0])), (a62, .inl (k64, 1200, .inl F63))] s.heap.size = A at hD hE ⊢
  have hA : ∀ q : Nat, s.heap.size ≤ q → A q := fun q h => by rw [← hAe]; exact Or.inr h
  have hS : va_S A s.heap s.heap [] := va_S.rf
  have hP : va_P (dC, dI) cls [(a0, .inr (0, [.ref a62, .int 8, .int 0, .int 0, .int 0, .long 0, .int 0, .int 0])), (a62, .inl (k64, 1200, .inl F63))] s.heap := hP
  have hl := lv_entry ([.ref a0, .int i1]) (n := 3) (Nat.le_of_ble_eq_true rfl)
  rw [lg_entry_eq]
  generalize (lg_sl ([.ref a0, .int i1]) ++ List.replicate (3 - (lg_sl ([.ref a0, .int i1])).length) Slot.unset).toArray = ls at hl ⊢
  have hl : lv_has ls 3 [(0, .ref a0), (1, .int i1)] := hl
  refine lv_bipush (v := 24) hx hb dX10_append_0 (by decide) ?_
  refine lv_istore_n (lv' := [(2, .int 24), (0, .ref a0), (1, .int i1)]) hx hb dX10_append_2 rfl hl (by decide) rfl (fun ls hl => ?_)
  refine lv_iload_n hx hb dX10_append_3 rfl (lv_at hl 0 rfl) ?_
  refine lv_if_lt (tgt := 49) hx hb dX10_append_4 (by decide) (fun c => absurd c (by decide)) (fun _ => ?_)
  refine lv_aload_n hx hb dX10_append_7 rfl (lv_at hl 1 rfl) ?_
  refine va_get (D := (dC, dI)) (ci := 0) (v := .int 8) (C := RX10) (T := TX10) (N := 8) hx hb hts i_X10 hown hK hP 0 rfl rfl 1 (by decide) (hts _ qw208) (fun _ h9 => h9) rfl dX10_append_8 ?_
  refine lv_sipush (v := 1200) hx hb dX10_append_11 (by decide) ?_
  refine lv_icmp_ge (tgt := 49) hx hb dX10_append_14 (by decide) (fun c => absurd c (by decide)) (fun _ => ?_)
  refine lv_aload_n hx hb dX10_append_17 rfl (lv_at hl 1 rfl) ?_
  refine va_get (D := (dC, dI)) (ci := 0) (v := .ref a62) (C := RX10) (T := TX10) (N := 8) hx hb hts i_X10 hown hK hP 0 rfl rfl 0 (by decide) (hts _ qw3) (fun _ h9 => h9) rfl dX10_append_18 ?_
  refine lv_aload_n hx hb dX10_append_21 rfl (lv_at hl 1 rfl) ?_
  refine va_get (D := (dC, dI)) (ci := 0) (v := .int 8) (C := RX10) (T := TX10) (N := 8) hx hb hts i_X10 hown hK hP 0 rfl rfl 1 (by decide) (hts _ qw208) (fun _ h9 => h9) rfl dX10_append_22 ?_
  refine lv_iload_n hx hb dX10_append_25 rfl (lv_at hl 2 rfl) ?_
  refine lv_iload_n hx hb dX10_append_26 rfl (lv_at hl 0 rfl) ?_
  refine lv_iushr hx hb dX10_append_27 rfl ?_
  refine lv_topi (fun x1 ex1 => ?_)
  refine lv_sipush (v := 255) hx hb dX10_append_28 (by decide) ?_
  refine lv_iand hx hb dX10_append_31 ?_
  refine lv_topi (fun x2 ex2 => ?_)
  refine va_iast hx hb hK hP hD hS 1 0 rfl rfl (by unfold vp_in; decide +kernel) dX10_append_32 (fun H locs hP hD hS => ?_)
  have hP : va_P (dC, dI) cls [(a0, .inr (0, [.ref a62, .int 8, .int 0, .int 0, .int 0, .long 0, .int 0, .int 0])), (a62, .inl (k64, 1200, .inl (upd F63 (Int32.toNatClampNeg 8) x2)))] H := hP
  have hD : va_D A [(a0, .inr (0, [.ref a62, .int 8, .int 0, .int 0, .int 0, .long 0, .int 0, .int 0])), (a62, .inl (k64, 1200, .inl (upd F63 (Int32.toNatClampNeg 8) x2)))] := hD
  generalize upd F63 (Int32.toNatClampNeg 8) x2 = f3 at hP hD
  refine lv_aload_n hx hb dX10_append_33 rfl (lv_at hl 1 rfl) ?_
  refine lv_dup hx hb dX10_append_34 rfl ?_
  refine va_get (D := (dC, dI)) (ci := 0) (v := .int 8) (C := RX10) (T := TX10) (N := 8) hx hb hts i_X10 hown hK hP 0 rfl rfl 1 (by decide) (hts _ qw208) (fun _ h9 => h9) rfl dX10_append_35 ?_
  refine lv_iconst (v := 1) hx hb dX10_append_38 (by decide) ?_
  refine lv_iadd hx hb dX10_append_39 ?_
  refine lv_topC (y := 9) (by decide) ?_
  refine va_put (D := (dC, dI)) (ci := 0) (v := .int 9) (ty := .int) (C := RX10) (T := TX10) (N := 8) hx hb hts i_X10 tyX10 tyX10_ok nmX10 hown hK hP hD hS 0 rfl rfl 1 (by decide) (hts _ qw208) (fun _ h9 => h9) rfl (by decide +kernel) rfl rfl (Nat.le_of_ble_eq_true rfl) dX10_append_40 (fun H locs hP hD hS => ?_)
  have hP : va_P (dC, dI) cls [(a0, .inr (0, [.ref a62, .int 9, .int 0, .int 0, .int 0, .long 0, .int 0, .int 0])), (a62, .inl (k64, 1200, .inl f3))] H := hP
  have hD : va_D A [(a0, .inr (0, [.ref a62, .int 9, .int 0, .int 0, .int 0, .long 0, .int 0, .int 0])), (a62, .inl (k64, 1200, .inl f3))] := hD
  refine lv_iinc (v := 16) (lv' := [(2, .int 16), (0, .ref a0), (1, .int i1)]) hx hb dX10_append_43 hl (k := 0) rfl (by decide) (by decide) rfl (fun ls hl => ?_)
  refine lv_goto (tgt := 3) hx hb dX10_append_46 (by decide) ?_
  refine lv_iload_n hx hb dX10_append_3 rfl (lv_at hl 0 rfl) ?_
  refine lv_if_lt (tgt := 49) hx hb dX10_append_4 (by decide) (fun c => absurd c (by decide)) (fun _ => ?_)
  refine lv_aload_n hx hb dX10_append_7 rfl (lv_at hl 1 rfl) ?_
  refine va_get (D := (dC, dI)) (ci := 0) (v := .int 9) (C := RX10) (T := TX10) (N := 8) hx hb hts i_X10 hown hK hP 0 rfl rfl 1 (by decide) (hts _ qw208) (fun _ h9 => h9) rfl dX10_append_8 ?_
  refine lv_sipush (v := 1200) hx hb dX10_append_11 (by decide) ?_
  refine lv_icmp_ge (tgt := 49) hx hb dX10_append_14 (by decide) (fun c => absurd c (by decide)) (fun _ => ?_)
  refine lv_aload_n hx hb dX10_append_17 rfl (lv_at hl 1 rfl) ?_
  refine va_get (D := (dC, dI)) (ci := 0) (v := .ref a62) (C := RX10) (T := TX10) (N := 8) hx hb hts i_X10 hown hK hP 0 rfl rfl 0 (by decide) (hts _ qw3) (fun _ h9 => h9) rfl dX10_append_18 ?_
  refine lv_aload_n hx hb dX10_append_21 rfl (lv_at hl 1 rfl) ?_
  refine va_get (D := (dC, dI)) (ci := 0) (v := .int 9) (C := RX10) (T := TX10) (N := 8) hx hb hts i_X10 hown hK hP 0 rfl rfl 1 (by decide) (hts _ qw208) (fun _ h9 => h9) rfl dX10_append_22 ?_
  refine lv_iload_n hx hb dX10_append_25 rfl (lv_at hl 2 rfl) ?_
  refine lv_iload_n hx hb dX10_append_26 rfl (lv_at hl 0 rfl) ?_
  refine lv_iushr hx hb dX10_append_27 rfl ?_
  refine lv_topi (fun x4 ex4 => ?_)
  refine lv_sipush (v := 255) hx hb dX10_append_28 (by decide) ?_
  refine lv_iand hx hb dX10_append_31 ?_
  refine lv_topi (fun x5 ex5 => ?_)
  refine va_iast hx hb hK hP hD hS 1 0 rfl rfl (by unfold vp_in; decide +kernel) dX10_append_32 (fun H locs hP hD hS => ?_)
  have hP : va_P (dC, dI) cls [(a0, .inr (0, [.ref a62, .int 9, .int 0, .int 0, .int 0, .long 0, .int 0, .int 0])), (a62, .inl (k64, 1200, .inl (upd f3 (Int32.toNatClampNeg 9) x5)))] H := hP
  have hD : va_D A [(a0, .inr (0, [.ref a62, .int 9, .int 0, .int 0, .int 0, .long 0, .int 0, .int 0])), (a62, .inl (k64, 1200, .inl (upd f3 (Int32.toNatClampNeg 9) x5)))] := hD
  generalize upd f3 (Int32.toNatClampNeg 9) x5 = f6 at hP hD
  refine lv_aload_n hx hb dX10_append_33 rfl (lv_at hl 1 rfl) ?_
  refine lv_dup hx hb dX10_append_34 rfl ?_
  refine va_get (D := (dC, dI)) (ci := 0) (v := .int 9) (C := RX10) (T := TX10) (N := 8) hx hb hts i_X10 hown hK hP 0 rfl rfl 1 (by decide) (hts _ qw208) (fun _ h9 => h9) rfl dX10_append_35 ?_
  refine lv_iconst (v := 1) hx hb dX10_append_38 (by decide) ?_
  refine lv_iadd hx hb dX10_append_39 ?_
  refine lv_topC (y := 10) (by decide) ?_
  refine va_put (D := (dC, dI)) (ci := 0) (v := .int 10) (ty := .int) (C := RX10) (T := TX10) (N := 8) hx hb hts i_X10 tyX10 tyX10_ok nmX10 hown hK hP hD hS 0 rfl rfl 1 (by decide) (hts _ qw208) (fun _ h9 => h9) rfl (by decide +kernel) rfl rfl (Nat.le_of_ble_eq_true rfl) dX10_append_40 (fun H locs hP hD hS => ?_)
  have hP : va_P (dC, dI) cls [(a0, .inr (0, [.ref a62, .int 10, .int 0, .int 0, .int 0, .long 0, .int 0, .int 0])), (a62, .inl (k64, 1200, .inl f6))] H := hP
  have hD : va_D A [(a0, .inr (0, [.ref a62, .int 10, .int 0, .int 0, .int 0, .long 0, .int 0, .int 0])), (a62, .inl (k64, 1200, .inl f6))] := hD
  refine lv_iinc (v := 8) (lv' := [(2, .int 8), (0, .ref a0), (1, .int i1)]) hx hb dX10_append_43 hl (k := 0) rfl (by decide) (by decide) rfl (fun ls hl => ?_)
  refine lv_goto (tgt := 3) hx hb dX10_append_46 (by decide) ?_
  refine lv_iload_n hx hb dX10_append_3 rfl (lv_at hl 0 rfl) ?_
  refine lv_if_lt (tgt := 49) hx hb dX10_append_4 (by decide) (fun c => absurd c (by decide)) (fun _ => ?_)
  refine lv_aload_n hx hb dX10_append_7 rfl (lv_at hl 1 rfl) ?_
  refine va_get (D := (dC, dI)) (ci := 0) (v := .int 10) (C := RX10) (T := TX10) (N := 8) hx hb hts i_X10 hown hK hP 0 rfl rfl 1 (by decide) (hts _ qw208) (fun _ h9 => h9) rfl dX10_append_8 ?_
  refine lv_sipush (v := 1200) hx hb dX10_append_11 (by decide) ?_
  refine lv_icmp_ge (tgt := 49) hx hb dX10_append_14 (by decide) (fun c => absurd c (by decide)) (fun _ => ?_)
  refine lv_aload_n hx hb dX10_append_17 rfl (lv_at hl 1 rfl) ?_
  refine va_get (D := (dC, dI)) (ci := 0) (v := .ref a62) (C := RX10) (T := TX10) (N := 8) hx hb hts i_X10 hown hK hP 0 rfl rfl 0 (by decide) (hts _ qw3) (fun _ h9 => h9) rfl dX10_append_18 ?_
  refine lv_aload_n hx hb dX10_append_21 rfl (lv_at hl 1 rfl) ?_
  refine va_get (D := (dC, dI)) (ci := 0) (v := .int 10) (C := RX10) (T := TX10) (N := 8) hx hb hts i_X10 hown hK hP 0 rfl rfl 1 (by decide) (hts _ qw208) (fun _ h9 => h9) rfl dX10_append_22 ?_
  refine lv_iload_n hx hb dX10_append_25 rfl (lv_at hl 2 rfl) ?_
  refine lv_iload_n hx hb dX10_append_26 rfl (lv_at hl 0 rfl) ?_
  refine lv_iushr hx hb dX10_append_27 rfl ?_
  refine lv_topi (fun x7 ex7 => ?_)
  refine lv_sipush (v := 255) hx hb dX10_append_28 (by decide) ?_
  refine lv_iand hx hb dX10_append_31 ?_
  refine lv_topi (fun x8 ex8 => ?_)
  refine va_iast hx hb hK hP hD hS 1 0 rfl rfl (by unfold vp_in; decide +kernel) dX10_append_32 (fun H locs hP hD hS => ?_)
  have hP : va_P (dC, dI) cls [(a0, .inr (0, [.ref a62, .int 10, .int 0, .int 0, .int 0, .long 0, .int 0, .int 0])), (a62, .inl (k64, 1200, .inl (upd f6 (Int32.toNatClampNeg 10) x8)))] H := hP
  have hD : va_D A [(a0, .inr (0, [.ref a62, .int 10, .int 0, .int 0, .int 0, .long 0, .int 0, .int 0])), (a62, .inl (k64, 1200, .inl (upd f6 (Int32.toNatClampNeg 10) x8)))] := hD
  generalize upd f6 (Int32.toNatClampNeg 10) x8 = f9 at hP hD
  refine lv_aload_n hx hb dX10_append_33 rfl (lv_at hl 1 rfl) ?_
  refine lv_dup hx hb dX10_append_34 rfl ?_
  refine va_get (D := (dC, dI)) (ci := 0) (v := .int 10) (C := RX10) (T := TX10) (N := 8) hx hb hts i_X10 hown hK hP 0 rfl rfl 1 (by decide) (hts _ qw208) (fun _ h9 => h9) rfl dX10_append_35 ?_
  refine lv_iconst (v := 1) hx hb dX10_append_38 (by decide) ?_
  refine lv_iadd hx hb dX10_append_39 ?_
  refine lv_topC (y := 11) (by decide) ?_
  refine va_put (D := (dC, dI)) (ci := 0) (v := .int 11) (ty := .int) (C := RX10) (T := TX10) (N := 8) hx hb hts i_X10 tyX10 tyX10_ok nmX10 hown hK hP hD hS 0 rfl rfl 1 (by decide) (hts _ qw208) (fun _ h9 => h9) rfl (by decide +kernel) rfl rfl (Nat.le_of_ble_eq_true rfl) dX10_append_40 (fun H locs hP hD hS => ?_)
  have hP : va_P (dC, dI) cls [(a0, .inr (0, [.ref a62, .int 11, .int 0, .int 0, .int 0, .long 0, .int 0, .int 0])), (a62, .inl (k64, 1200, .inl f9))] H := hP
  have hD : va_D A [(a0, .inr (0, [.ref a62, .int 11, .int 0, .int 0, .int 0, .long 0, .int 0, .int 0])), (a62, .inl (k64, 1200, .inl f9))] := hD
  refine lv_iinc (v := 0) (lv' := [(2, .int 0), (0, .ref a0), (1, .int i1)]) hx hb dX10_append_43 hl (k := 0) rfl (by decide) (by decide) rfl (fun ls hl => ?_)
  refine lv_goto (tgt := 3) hx hb dX10_append_46 (by decide) ?_
  refine lv_iload_n hx hb dX10_append_3 rfl (lv_at hl 0 rfl) ?_
  refine lv_if_lt (tgt := 49) hx hb dX10_append_4 (by decide) (fun c => absurd c (by decide)) (fun _ => ?_)
  refine lv_aload_n hx hb dX10_append_7 rfl (lv_at hl 1 rfl) ?_
  refine va_get (D := (dC, dI)) (ci := 0) (v := .int 11) (C := RX10) (T := TX10) (N := 8) hx hb hts i_X10 hown hK hP 0 rfl rfl 1 (by decide) (hts _ qw208) (fun _ h9 => h9) rfl dX10_append_8 ?_
  refine lv_sipush (v := 1200) hx hb dX10_append_11 (by decide) ?_
  refine lv_icmp_ge (tgt := 49) hx hb dX10_append_14 (by decide) (fun c => absurd c (by decide)) (fun _ => ?_)
  refine lv_aload_n hx hb dX10_append_17 rfl (lv_at hl 1 rfl) ?_
  refine va_get (D := (dC, dI)) (ci := 0) (v := .ref a62) (C := RX10) (T := TX10) (N := 8) hx hb hts i_X10 hown hK hP 0 rfl rfl 0 (by decide) (hts _ qw3) (fun _ h9 => h9) rfl dX10_append_18 ?_
  refine lv_aload_n hx hb dX10_append_21 rfl (lv_at hl 1 rfl) ?_
  refine va_get (D := (dC, dI)) (ci := 0) (v := .int 11) (C := RX10) (T := TX10) (N := 8) hx hb hts i_X10 hown hK hP 0 rfl rfl 1 (by decide) (hts _ qw208) (fun _ h9 => h9) rfl dX10_append_22 ?_
  refine lv_iload_n hx hb dX10_append_25 rfl (lv_at hl 2 rfl) ?_
  refine lv_iload_n hx hb dX10_append_26 rfl (lv_at hl 0 rfl) ?_
  refine lv_iushr hx hb dX10_append_27 rfl ?_
  refine lv_topi (fun x10 ex10 => ?_)
  refine lv_sipush (v := 255) hx hb dX10_append_28 (by decide) ?_
  refine lv_iand hx hb dX10_append_31 ?_
  refine lv_topi (fun x11 ex11 => ?_)
  refine va_iast hx hb hK hP hD hS 1 0 rfl rfl (by unfold vp_in; decide +kernel) dX10_append_32 (fun H locs hP hD hS => ?_)
  have hP : va_P (dC, dI) cls [(a0, .inr (0, [.ref a62, .int 11, .int 0, .int 0, .int 0, .long 0, .int 0, .int 0])), (a62, .inl (k64, 1200, .inl (upd f9 (Int32.toNatClampNeg 11) x11)))] H := hP
  have hD : va_D A [(a0, .inr (0, [.ref a62, .int 11, .int 0, .int 0, .int 0, .long 0, .int 0, .int 0])), (a62, .inl (k64, 1200, .inl (upd f9 (Int32.toNatClampNeg 11) x11)))] := hD
  generalize upd f9 (Int32.toNatClampNeg 11) x11 = f12 at hP hD
  refine lv_aload_n hx hb dX10_append_33 rfl (lv_at hl 1 rfl) ?_
  refine lv_dup hx hb dX10_append_34 rfl ?_
  refine va_get (D := (dC, dI)) (ci := 0) (v := .int 11) (C := RX10) (T := TX10) (N := 8) hx hb hts i_X10 hown hK hP 0 rfl rfl 1 (by decide) (hts _ qw208) (fun _ h9 => h9) rfl dX10_append_35 ?_
  refine lv_iconst (v := 1) hx hb dX10_append_38 (by decide) ?_
  refine lv_iadd hx hb dX10_append_39 ?_
  refine lv_topC (y := 12) (by decide) ?_
  refine va_put (D := (dC, dI)) (ci := 0) (v := .int 12) (ty := .int) (C := RX10) (T := TX10) (N := 8) hx hb hts i_X10 tyX10 tyX10_ok nmX10 hown hK hP hD hS 0 rfl rfl 1 (by decide) (hts _ qw208) (fun _ h9 => h9) rfl (by decide +kernel) rfl rfl (Nat.le_of_ble_eq_true rfl) dX10_append_40 (fun H locs hP hD hS => ?_)
  have hP : va_P (dC, dI) cls [(a0, .inr (0, [.ref a62, .int 12, .int 0, .int 0, .int 0, .long 0, .int 0, .int 0])), (a62, .inl (k64, 1200, .inl f12))] H := hP
  have hD : va_D A [(a0, .inr (0, [.ref a62, .int 12, .int 0, .int 0, .int 0, .long 0, .int 0, .int 0])), (a62, .inl (k64, 1200, .inl f12))] := hD
  refine lv_iinc (v := (-8)) (lv' := [(2, .int (-8)), (0, .ref a0), (1, .int i1)]) hx hb dX10_append_43 hl (k := 0) rfl (by decide) (by decide) rfl (fun ls hl => ?_)
  refine lv_goto (tgt := 3) hx hb dX10_append_46 (by decide) ?_
  refine lv_iload_n hx hb dX10_append_3 rfl (lv_at hl 0 rfl) ?_
  refine lv_if_lt (tgt := 49) hx hb dX10_append_4 (by decide) (fun _ => ?_) (fun c => absurd (by decide) c)
  have hP9 : va_P (dC, dI) cls [(a0, .inr (0, [.ref a62, .int 12, .int 0, .int 0, .int 0, .long 0, .int 0, .int 0])), (a62, .inl (k64, 1200, .inl f12))] H := hP.sub [0, 1] rfl
  have hD9 : va_D A [(a0, .inr (0, [.ref a62, .int 12, .int 0, .int 0, .int 0, .long 0, .int 0, .int 0])), (a62, .inl (k64, 1200, .inl f12))] := hD.sub [0, 1] (by decide) rfl
  have hK9 : va_K (dC, dI) cls [(k64, .int)] s := hK.sub [0] rfl
  exact W.vret hx hb hr (fun t ht hW => ⟨⟨(), rfl, trivial, ⟨f12, ⟨by rw [ht]; exact hP9, va_K.moved hW.alike hK9, hD9⟩⟩⟩, hS.F ht⟩) hS.2.2 dX10_append_49
set_option maxHeartbeats 4000000 in
set_option maxRecDepth 100000 in
/-- Gearbox$Tokens.append, from the state that its caller has -/
theorem kX10_append_n4 {zs : Nat × Nat} (l : Launch) (dC : Nat → ClassId) (dI : Nat → Nat → Nat) (a0 : Nat) (i1 : Int32) (a62 : Nat) (F63 : Nat → Int32) (k64 : ClassId) (sz : Nat)  : Met l yX10_append (wz yX10_append cX10_append 3 (Option.none : Option Jvm.ClassFile.FieldType)) ({ frames := 0, cells := 0, slots := 0, locals := 0 }) (va_Pc [.ref a0, .int i1] (PRE zs dC dI [(a0, .inr (0, [.ref a62, .int 12, .int 0, .int 0, .int 0, .long 0, .int 0, .int 0])), (a62, .inl (k64, 1200, .inl F63))] [(k64, .int)] sz)) (va_Qv (fun (_ : Unit) => True) (fun _ t => ∃ (f12 : Nat → Int32), POST dC dI [(a0, .inr (0, [.ref a62, .int 16, .int 0, .int 0, .int 0, .long 0, .int 0, .int 0])), (a62, .inl (k64, 1200, .inl f12))] [(k64, .int)] (va_A [(a0, .inr (0, [.ref a62, .int 12, .int 0, .int 0, .int 0, .long 0, .int 0, .int 0])), (a62, .inl (k64, 1200, .inl F63))] sz) t) (va_A [(a0, .inr (0, [.ref a62, .int 12, .int 0, .int 0, .int 0, .long 0, .int 0, .int 0])), (a62, .inl (k64, 1200, .inl F63))] sz)) 0 0 (va_A [(a0, .inr (0, [.ref a62, .int 12, .int 0, .int 0, .int 0, .long 0, .int 0, .int 0])), (a62, .inl (k64, 1200, .inl F63))] sz) := by
  refine Met.ofW (cc := cX10_append) (maxL := 3) (ret := (Option.none : Option Jvm.ClassFile.FieldType)) (by decide) rfl ?_
  intro p e s m args below meth c s₁ B hml hv
  obtain ⟨rfl, hsz, hP, hK, hD0, hE⟩ := hv
  have hx := B.exec
  have hb := B.bytes
  have hr := B.returns
  have hts0 := atoms_spec (ws := wz yX10_append cX10_append 3 (Option.none : Option Jvm.ClassFile.FieldType)) B.pre
  have hts : ∀ w ∈ gw, w.before _ s = true := fun w h => hts0 w (List.mem_cons_of_mem _ h)
  have hown : s.vm.findClass RX10 = some m.cls := findClass_of_methodNamed B.named
  have hlocks := B.notSynchronized
  subst hsz
  have hD := hD0.self (sz := s.heap.size)
  generalize hAe : va_A [(a0, .inr (0, [.ref a62, .int 12, .int 0, .int 0, .int 0, .long 0, .int 0, .int 0])), (a62, .inl (k64, 1200, .inl F63))] s.heap.size = A at hD hE ⊢
  have hA : ∀ q : Nat, s.heap.size ≤ q → A q := fun q h => by rw [← hAe]; exact Or.inr h
  have hS : va_S A s.heap s.heap [] := va_S.rf
  have hP : va_P (dC, dI) cls [(a0, .inr (0, [.ref a62, .int 12, .int 0, .int 0, .int 0, .long 0, .int 0, .int 0])), (a62, .inl (k64, 1200, .inl F63))] s.heap := hP
  have hl := lv_entry ([.ref a0, .int i1]) (n := 3) (Nat.le_of_ble_eq_true rfl)
  rw [lg_entry_eq]
  generalize (lg_sl ([.ref a0, .int i1]) ++ List.replicate (3 - (lg_sl ([.ref a0, .int i1])).length) Slot.unset).toArray = ls at hl ⊢
  have hl : lv_has ls 3 [(0, .ref a0), (1, .int i1)] := hl
  refine lv_bipush (v := 24) hx hb dX10_append_0 (by decide) ?_
  refine lv_istore_n (lv' := [(2, .int 24), (0, .ref a0), (1, .int i1)]) hx hb dX10_append_2 rfl hl (by decide) rfl (fun ls hl => ?_)
  refine lv_iload_n hx hb dX10_append_3 rfl (lv_at hl 0 rfl) ?_
  refine lv_if_lt (tgt := 49) hx hb dX10_append_4 (by decide) (fun c => absurd c (by decide)) (fun _ => ?_)
  refine lv_aload_n hx hb dX10_append_7 rfl (lv_at hl 1 rfl) ?_
  refine va_get (D := (dC, dI)) (ci := 0) (v := .int 12) (C := RX10) (T := TX10) (N := 8) hx hb hts i_X10 hown hK hP 0 rfl rfl 1 (by decide) (hts _ qw208) (fun _ h9 => h9) rfl dX10_append_8 ?_
  refine lv_sipush (v := 1200) hx hb dX10_append_11 (by decide) ?_
  refine lv_icmp_ge (tgt := 49) hx hb dX10_append_14 (by decide) (fun c => absurd c (by decide)) (fun _ => ?_)
  refine lv_aload_n hx hb dX10_append_17 rfl (lv_at hl 1 rfl) ?_
  refine va_get (D := (dC, dI)) (ci := 0) (v := .ref a62) (C := RX10) (T := TX10) (N := 8) hx hb hts i_X10 hown hK hP 0 rfl rfl 0 (by decide) (hts _ qw3) (fun _ h9 => h9) rfl dX10_append_18 ?_
  refine lv_aload_n hx hb dX10_append_21 rfl (lv_at hl 1 rfl) ?_
  refine va_get (D := (dC, dI)) (ci := 0) (v := .int 12) (C := RX10) (T := TX10) (N := 8) hx hb hts i_X10 hown hK hP 0 rfl rfl 1 (by decide) (hts _ qw208) (fun _ h9 => h9) rfl dX10_append_22 ?_
  refine lv_iload_n hx hb dX10_append_25 rfl (lv_at hl 2 rfl) ?_
  refine lv_iload_n hx hb dX10_append_26 rfl (lv_at hl 0 rfl) ?_
  refine lv_iushr hx hb dX10_append_27 rfl ?_
  refine lv_topi (fun x1 ex1 => ?_)
  refine lv_sipush (v := 255) hx hb dX10_append_28 (by decide) ?_
  refine lv_iand hx hb dX10_append_31 ?_
  refine lv_topi (fun x2 ex2 => ?_)
  refine va_iast hx hb hK hP hD hS 1 0 rfl rfl (by unfold vp_in; decide +kernel) dX10_append_32 (fun H locs hP hD hS => ?_)
  have hP : va_P (dC, dI) cls [(a0, .inr (0, [.ref a62, .int 12, .int 0, .int 0, .int 0, .long 0, .int 0, .int 0])), (a62, .inl (k64, 1200, .inl (upd F63 (Int32.toNatClampNeg 12) x2)))] H := hP
  have hD : va_D A [(a0, .inr (0, [.ref a62, .int 12, .int 0, .int 0, .int 0, .long 0, .int 0, .int 0])), (a62, .inl (k64, 1200, .inl (upd F63 (Int32.toNatClampNeg 12) x2)))] := hD
  generalize upd F63 (Int32.toNatClampNeg 12) x2 = f3 at hP hD
  refine lv_aload_n hx hb dX10_append_33 rfl (lv_at hl 1 rfl) ?_
  refine lv_dup hx hb dX10_append_34 rfl ?_
  refine va_get (D := (dC, dI)) (ci := 0) (v := .int 12) (C := RX10) (T := TX10) (N := 8) hx hb hts i_X10 hown hK hP 0 rfl rfl 1 (by decide) (hts _ qw208) (fun _ h9 => h9) rfl dX10_append_35 ?_
  refine lv_iconst (v := 1) hx hb dX10_append_38 (by decide) ?_
  refine lv_iadd hx hb dX10_append_39 ?_
  refine lv_topC (y := 13) (by decide) ?_
  refine va_put (D := (dC, dI)) (ci := 0) (v := .int 13) (ty := .int) (C := RX10) (T := TX10) (N := 8) hx hb hts i_X10 tyX10 tyX10_ok nmX10 hown hK hP hD hS 0 rfl rfl 1 (by decide) (hts _ qw208) (fun _ h9 => h9) rfl (by decide +kernel) rfl rfl (Nat.le_of_ble_eq_true rfl) dX10_append_40 (fun H locs hP hD hS => ?_)
  have hP : va_P (dC, dI) cls [(a0, .inr (0, [.ref a62, .int 13, .int 0, .int 0, .int 0, .long 0, .int 0, .int 0])), (a62, .inl (k64, 1200, .inl f3))] H := hP
  have hD : va_D A [(a0, .inr (0, [.ref a62, .int 13, .int 0, .int 0, .int 0, .long 0, .int 0, .int 0])), (a62, .inl (k64, 1200, .inl f3))] := hD
  refine lv_iinc (v := 16) (lv' := [(2, .int 16), (0, .ref a0), (1, .int i1)]) hx hb dX10_append_43 hl (k := 0) rfl (by decide) (by decide) rfl (fun ls hl => ?_)
  refine lv_goto (tgt := 3) hx hb dX10_append_46 (by decide) ?_
  refine lv_iload_n hx hb dX10_append_3 rfl (lv_at hl 0 rfl) ?_
  refine lv_if_lt (tgt := 49) hx hb dX10_append_4 (by decide) (fun c => absurd c (by decide)) (fun _ => ?_)
  refine lv_aload_n hx hb dX10_append_7 rfl (lv_at hl 1 rfl) ?_
  refine va_get (D := (dC, dI)) (ci := 0) (v := .int 13) (C := RX10) (T := TX10) (N := 8) hx hb hts i_X10 hown hK hP 0 rfl rfl 1 (by decide) (hts _ qw208) (fun _ h9 => h9) rfl dX10_append_8 ?_
  refine lv_sipush (v := 1200) hx hb dX10_append_11 (by decide) ?_
  refine lv_icmp_ge (tgt := 49) hx hb dX10_append_14 (by decide) (fun c => absurd c (by decide)) (fun _ => ?_)
  refine lv_aload_n hx hb dX10_append_17 rfl (lv_at hl 1 rfl) ?_
  refine va_get (D := (dC, dI)) (ci := 0) (v := .ref a62) (C := RX10) (T := TX10) (N := 8) hx hb hts i_X10 hown hK hP 0 rfl rfl 0 (by decide) (hts _ qw3) (fun _ h9 => h9) rfl dX10_append_18 ?_
  refine lv_aload_n hx hb dX10_append_21 rfl (lv_at hl 1 rfl) ?_
  refine va_get (D := (dC, dI)) (ci := 0) (v := .int 13) (C := RX10) (T := TX10) (N := 8) hx hb hts i_X10 hown hK hP 0 rfl rfl 1 (by decide) (hts _ qw208) (fun _ h9 => h9) rfl dX10_append_22 ?_
  refine lv_iload_n hx hb dX10_append_25 rfl (lv_at hl 2 rfl) ?_
  refine lv_iload_n hx hb dX10_append_26 rfl (lv_at hl 0 rfl) ?_
  refine lv_iushr hx hb dX10_append_27 rfl ?_
  refine lv_topi (fun x4 ex4 => ?_)
  refine lv_sipush (v := 255) hx hb dX10_append_28 (by decide) ?_
  refine lv_iand hx hb dX10_append_31 ?_
  refine lv_topi (fun x5 ex5 => ?_)
  refine va_iast hx hb hK hP hD hS 1 0 rfl rfl (by unfold vp_in; decide +kernel) dX10_append_32 (fun H locs hP hD hS => ?_)
  have hP : va_P (dC, dI) cls [(a0, .inr (0, [.ref a62, .int 13, .int 0, .int 0, .int 0, .long 0, .int 0, .int 0])), (a62, .inl (k64, 1200, .inl (upd f3 (Int32.toNatClampNeg 13) x5)))] H := hP
  have hD : va_D A [(a0, .inr (0, [.ref a62, .int 13, .int 0, .int 0, .int 0, .long 0, .int 0, .int 0])), (a62, .inl (k64, 1200, .inl (upd f3 (Int32.toNatClampNeg 13) x5)))] := hD
  generalize upd f3 (Int32.toNatClampNeg 13) x5 = f6 at hP hD
  refine lv_aload_n hx hb dX10_append_33 rfl (lv_at hl 1 rfl) ?_
  refine lv_dup hx hb dX10_append_34 rfl ?_
  refine va_get (D := (dC, dI)) (ci := 0) (v := .int 13) (C := RX10) (T := TX10) (N := 8) hx hb hts i_X10 hown hK hP 0 rfl rfl 1 (by decide) (hts _ qw208) (fun _ h9 => h9) rfl dX10_append_35 ?_
  refine lv_iconst (v := 1) hx hb dX10_append_38 (by decide) ?_
  refine lv_iadd hx hb dX10_append_39 ?_
  refine lv_topC (y := 14) (by decide) ?_
  refine va_put (D := (dC, dI)) (ci := 0) (v := .int 14) (ty := .int) (C := RX10) (T := TX10) (N := 8) hx hb hts i_X10 tyX10 tyX10_ok nmX10 hown hK hP hD hS 0 rfl rfl 1 (by decide) (hts _ qw208) (fun _ h9 => h9) rfl (by decide +kernel) rfl rfl (Nat.le_of_ble_eq_true rfl) dX10_append_40 (fun H locs hP hD hS => ?_)
  have hP : va_P (dC, dI) cls [(a0, .inr (0, [.ref a62, .int 14, .int 0, .int 0, .int 0, .long 0, .int 0, .int 0])), (a62, .inl (k64, 1200, .inl f6))] H := hP
  have hD : va_D A [(a0, .inr (0, [.ref a62, .int 14, .int 0, .int 0, .int 0, .long 0, .int 0, .int 0])), (a62, .inl (k64, 1200, .inl f6))] := hD
  refine lv_iinc (v := 8) (lv' := [(2, .int 8), (0, .ref a0), (1, .int i1)]) hx hb dX10_append_43 hl (k := 0) rfl (by decide) (by decide) rfl (fun ls hl => ?_)
  refine lv_goto (tgt := 3) hx hb dX10_append_46 (by decide) ?_
  refine lv_iload_n hx hb dX10_append_3 rfl (lv_at hl 0 rfl) ?_
  refine lv_if_lt (tgt := 49) hx hb dX10_append_4 (by decide) (fun c => absurd c (by decide)) (fun _ => ?_)
  refine lv_aload_n hx hb dX10_append_7 rfl (lv_at hl 1 rfl) ?_
  refine va_get (D := (dC, dI)) (ci := 0) (v := .int 14) (C := RX10) (T := TX10) (N := 8) hx hb hts i_X10 hown hK hP 0 rfl rfl 1 (by decide) (hts _ qw208) (fun _ h9 => h9) rfl dX10_append_8 ?_
  refine lv_sipush (v := 1200) hx hb dX10_append_11 (by decide) ?_
  refine lv_icmp_ge (tgt := 49) hx hb dX10_append_14 (by decide) (fun c => absurd c (by decide)) (fun _ => ?_)
  refine lv_aload_n hx hb dX10_append_17 rfl (lv_at hl 1 rfl) ?_
  refine va_get (D := (dC, dI)) (ci := 0) (v := .ref a62) (C := RX10) (T := TX10) (N := 8) hx hb hts i_X10 hown hK hP 0 rfl rfl 0 (by decide) (hts _ qw3) (fun _ h9 => h9) rfl dX10_append_18 ?_
  refine lv_aload_n hx hb dX10_append_21 rfl (lv_at hl 1 rfl) ?_
  refine va_get (D := (dC, dI)) (ci := 0) (v := .int 14) (C := RX10) (T := TX10) (N := 8) hx hb hts i_X10 hown hK hP 0 rfl rfl 1 (by decide) (hts _ qw208) (fun _ h9 => h9) rfl dX10_append_22 ?_
  refine lv_iload_n hx hb dX10_append_25 rfl (lv_at hl 2 rfl) ?_
  refine lv_iload_n hx hb dX10_append_26 rfl (lv_at hl 0 rfl) ?_
  refine lv_iushr hx hb dX10_append_27 rfl ?_
  refine lv_topi (fun x7 ex7 => ?_)
  refine lv_sipush (v := 255) hx hb dX10_append_28 (by decide) ?_
  refine lv_iand hx hb dX10_append_31 ?_
  refine lv_topi (fun x8 ex8 => ?_)
  refine va_iast hx hb hK hP hD hS 1 0 rfl rfl (by unfold vp_in; decide +kernel) dX10_append_32 (fun H locs hP hD hS => ?_)
  have hP : va_P (dC, dI) cls [(a0, .inr (0, [.ref a62, .int 14, .int 0, .int 0, .int 0, .long 0, .int 0, .int 0])), (a62, .inl (k64, 1200, .inl (upd f6 (Int32.toNatClampNeg 14) x8)))] H := hP
  have hD : va_D A [(a0, .inr (0, [.ref a62, .int 14, .int 0, .int 0, .int 0, .long 0, .int 0, .int 0])), (a62, .inl (k64, 1200, .inl (upd f6 (Int32.toNatClampNeg 14) x8)))] := hD
  generalize upd f6 (Int32.toNatClampNeg 14) x8 = f9 at hP hD
  refine lv_aload_n hx hb dX10_append_33 rfl (lv_at hl 1 rfl) ?_
  refine lv_dup hx hb dX10_append_34 rfl ?_
  refine va_get (D := (dC, dI)) (ci := 0) (v := .int 14) (C := RX10) (T := TX10) (N := 8) hx hb hts i_X10 hown hK hP 0 rfl rfl 1 (by decide) (hts _ qw208) (fun _ h9 => h9) rfl dX10_append_35 ?_
  refine lv_iconst (v := 1) hx hb dX10_append_38 (by decide) ?_
  refine lv_iadd hx hb dX10_append_39 ?_
  refine lv_topC (y := 15) (by decide) ?_
  refine va_put (D := (dC, dI)) (ci := 0) (v := .int 15) (ty := .int) (C := RX10) (T := TX10) (N := 8) hx hb hts i_X10 tyX10 tyX10_ok nmX10 hown hK hP hD hS 0 rfl rfl 1 (by decide) (hts _ qw208) (fun _ h9 => h9) rfl (by decide +kernel) rfl rfl (Nat.le_of_ble_eq_true rfl) dX10_append_40 (fun H locs hP hD hS => ?_)
  have hP : va_P (dC, dI) cls [(a0, .inr (0, [.ref a62, .int 15, .int 0, .int 0, .int 0, .long 0, .int 0, .int 0])), (a62, .inl (k64, 1200, .inl f9))] H := hP
  have hD : va_D A [(a0, .inr (0, [.ref a62, .int 15, .int 0, .int 0, .int 0, .long 0, .int 0, .int 0])), (a62, .inl (k64, 1200, .inl f9))] := hD
  refine lv_iinc (v := 0) (lv' := [(2, .int 0), (0, .ref a0), (1, .int i1)]) hx hb dX10_append_43 hl (k := 0) rfl (by decide) (by decide) rfl (fun ls hl => ?_)
  refine lv_goto (tgt := 3) hx hb dX10_append_46 (by decide) ?_
  refine lv_iload_n hx hb dX10_append_3 rfl (lv_at hl 0 rfl) ?_
  refine lv_if_lt (tgt := 49) hx hb dX10_append_4 (by decide) (fun c => absurd c (by decide)) (fun _ => ?_)
  refine lv_aload_n hx hb dX10_append_7 rfl (lv_at hl 1 rfl) ?_
  refine va_get (D := (dC, dI)) (ci := 0) (v := .int 15) (C := RX10) (T := TX10) (N := 8) hx hb hts i_X10 hown hK hP 0 rfl rfl 1 (by decide) (hts _ qw208) (fun _ h9 => h9) rfl dX10_append_8 ?_
  refine lv_sipush (v := 1200) hx hb dX10_append_11 (by decide) ?_
  refine lv_icmp_ge (tgt := 49) hx hb dX10_append_14 (by decide) (fun c => absurd c (by decide)) (fun _ => ?_)
  refine lv_aload_n hx hb dX10_append_17 rfl (lv_at hl 1 rfl) ?_
  refine va_get (D := (dC, dI)) (ci := 0) (v := .ref a62) (C := RX10) (T := TX10) (N := 8) hx hb hts i_X10 hown hK hP 0 rfl rfl 0 (by decide) (hts _ qw3) (fun _ h9 => h9) rfl dX10_append_18 ?_
  refine lv_aload_n hx hb dX10_append_21 rfl (lv_at hl 1 rfl) ?_
  refine va_get (D := (dC, dI)) (ci := 0) (v := .int 15) (C := RX10) (T := TX10) (N := 8) hx hb hts i_X10 hown hK hP 0 rfl rfl 1 (by decide) (hts _ qw208) (fun _ h9 => h9) rfl dX10_append_22 ?_
  refine lv_iload_n hx hb dX10_append_25 rfl (lv_at hl 2 rfl) ?_
  refine lv_iload_n hx hb dX10_append_26 rfl (lv_at hl 0 rfl) ?_
  refine lv_iushr hx hb dX10_append_27 rfl ?_
  refine lv_topi (fun x10 ex10 => ?_)
  refine lv_sipush (v := 255) hx hb dX10_append_28 (by decide) ?_
  refine lv_iand hx hb dX10_append_31 ?_
  refine lv_topi (fun x11 ex11 => ?_)
  refine va_iast hx hb hK hP hD hS 1 0 rfl rfl (by unfold vp_in; decide +kernel) dX10_append_32 (fun H locs hP hD hS => ?_)
  have hP : va_P (dC, dI) cls [(a0, .inr (0, [.ref a62, .int 15, .int 0, .int 0, .int 0, .long 0, .int 0, .int 0])), (a62, .inl (k64, 1200, .inl (upd f9 (Int32.toNatClampNeg 15) x11)))] H := hP
  have hD : va_D A [(a0, .inr (0, [.ref a62, .int 15, .int 0, .int 0, .int 0, .long 0, .int 0, .int 0])), (a62, .inl (k64, 1200, .inl (upd f9 (Int32.toNatClampNeg 15) x11)))] := hD
  generalize upd f9 (Int32.toNatClampNeg 15) x11 = f12 at hP hD
  refine lv_aload_n hx hb dX10_append_33 rfl (lv_at hl 1 rfl) ?_
  refine lv_dup hx hb dX10_append_34 rfl ?_
  refine va_get (D := (dC, dI)) (ci := 0) (v := .int 15) (C := RX10) (T := TX10) (N := 8) hx hb hts i_X10 hown hK hP 0 rfl rfl 1 (by decide) (hts _ qw208) (fun _ h9 => h9) rfl dX10_append_35 ?_
  refine lv_iconst (v := 1) hx hb dX10_append_38 (by decide) ?_
  refine lv_iadd hx hb dX10_append_39 ?_
  refine lv_topC (y := 16) (by decide) ?_
  refine va_put (D := (dC, dI)) (ci := 0) (v := .int 16) (ty := .int) (C := RX10) (T := TX10) (N := 8) hx hb hts i_X10 tyX10 tyX10_ok nmX10 hown hK hP hD hS 0 rfl rfl 1 (by decide) (hts _ qw208) (fun _ h9 => h9) rfl (by decide +kernel) rfl rfl (Nat.le_of_ble_eq_true rfl) dX10_append_40 (fun H locs hP hD hS => ?_)
  have hP : va_P (dC, dI) cls [(a0, .inr (0, [.ref a62, .int 16, .int 0, .int 0, .int 0, .long 0, .int 0, .int 0])), (a62, .inl (k64, 1200, .inl f12))] H := hP
  have hD : va_D A [(a0, .inr (0, [.ref a62, .int 16, .int 0, .int 0, .int 0, .long 0, .int 0, .int 0])), (a62, .inl (k64, 1200, .inl f12))] := hD
  refine lv_iinc (v := (-8)) (lv' := [(2, .int (-8)), (0, .ref a0), (1, .int i1)]) hx hb dX10_append_43 hl (k := 0) rfl (by decide) (by decide) rfl (fun ls hl => ?_)
  refine lv_goto (tgt := 3) hx hb dX10_append_46 (by decide) ?_
  refine lv_iload_n hx hb dX10_append_3 rfl (lv_at hl 0 rfl) ?_
  refine lv_if_lt (tgt := 49) hx hb dX10_append_4 (by decide) (fun _ => ?_) (fun c => absurd (by decide) c)
  have hP9 : va_P (dC, dI) cls [(a0, .inr (0, [.ref a62, .int 16, .int 0, .int 0, .int 0, .long 0, .int 0, .int 0])), (a62, .inl (k64, 1200, .inl f12))] H := hP.sub [0, 1] rfl
  have hD9 : va_D A [(a0, .inr (0, [.ref a62, .int 16, .int 0, .int 0, .int 0, .long 0, .int 0, .int 0])), (a62, .inl (k64, 1200, .inl f12))] := hD.sub [0, 1] (by decide) rfl
  have hK9 : va_K (dC, dI) cls [(k64, .int)] s := hK.sub [0] rfl
  exact W.vret hx hb hr (fun t ht hW => ⟨⟨(), rfl, trivial, ⟨f12, ⟨by rw [ht]; exact hP9, va_K.moved hW.alike hK9, hD9⟩⟩⟩, hS.F ht⟩) hS.2.2 dX10_append_49
set_option maxHeartbeats 4000000 in
set_option maxRecDepth 100000 in
/-- Gearbox$Tokens.append, from the state that its caller has -/
theorem kX10_append_n5 {zs : Nat × Nat} (l : Launch) (dC : Nat → ClassId) (dI : Nat → Nat → Nat) (a0 : Nat) (i1 : Int32) (a62 : Nat) (F63 : Nat → Int32) (k64 : ClassId) (sz : Nat)  : Met l yX10_append (wz yX10_append cX10_append 3 (Option.none : Option Jvm.ClassFile.FieldType)) ({ frames := 0, cells := 0, slots := 0, locals := 0 }) (va_Pc [.ref a0, .int i1] (PRE zs dC dI [(a0, .inr (0, [.ref a62, .int 16, .int 0, .int 0, .int 0, .long 0, .int 0, .int 0])), (a62, .inl (k64, 1200, .inl F63))] [(k64, .int)] sz)) (va_Qv (fun (_ : Unit) => True) (fun _ t => ∃ (f12 : Nat → Int32), POST dC dI [(a0, .inr (0, [.ref a62, .int 20, .int 0, .int 0, .int 0, .long 0, .int 0, .int 0])), (a62, .inl (k64, 1200, .inl f12))] [(k64, .int)] (va_A [(a0, .inr (0, [.ref a62, .int 16, .int 0, .int 0, .int 0, .long 0, .int 0, .int 0])), (a62, .inl (k64, 1200, .inl F63))] sz) t) (va_A [(a0, .inr (0, [.ref a62, .int 16, .int 0, .int 0, .int 0, .long 0, .int 0, .int 0])), (a62, .inl (k64, 1200, .inl F63))] sz)) 0 0 (va_A [(a0, .inr (0, [.ref a62, .int 16, .int 0, .int 0, .int 0, .long 0, .int 0, .int 0])), (a62, .inl (k64, 1200, .inl F63))] sz) := by
  refine Met.ofW (cc := cX10_append) (maxL := 3) (ret := (Option.none : Option Jvm.ClassFile.FieldType)) (by decide) rfl ?_
  intro p e s m args below meth c s₁ B hml hv
  obtain ⟨rfl, hsz, hP, hK, hD0, hE⟩ := hv
  have hx := B.exec
  have hb := B.bytes
  have hr := B.returns
  have hts0 := atoms_spec (ws := wz yX10_append cX10_append 3 (Option.none : Option Jvm.ClassFile.FieldType)) B.pre
  have hts : ∀ w ∈ gw, w.before _ s = true := fun w h => hts0 w (List.mem_cons_of_mem _ h)
  have hown : s.vm.findClass RX10 = some m.cls := findClass_of_methodNamed B.named
  have hlocks := B.notSynchronized
  subst hsz
  have hD := hD0.self (sz := s.heap.size)
  generalize hAe : va_A [(a0, .inr (0, [.ref a62, .int 16, .int 0, .int 0, .int 0, .long 0, .int 0, .int 0])), (a62, .inl (k64, 1200, .inl F63))] s.heap.size = A at hD hE ⊢
  have hA : ∀ q : Nat, s.heap.size ≤ q → A q := fun q h => by rw [← hAe]; exact Or.inr h
  have hS : va_S A s.heap s.heap [] := va_S.rf
  have hP : va_P (dC, dI) cls [(a0, .inr (0, [.ref a62, .int 16, .int 0, .int 0, .int 0, .long 0, .int 0, .int 0])), (a62, .inl (k64, 1200, .inl F63))] s.heap := hP
  have hl := lv_entry ([.ref a0, .int i1]) (n := 3) (Nat.le_of_ble_eq_true rfl)
  rw [lg_entry_eq]
  generalize (lg_sl ([.ref a0, .int i1]) ++ List.replicate (3 - (lg_sl ([.ref a0, .int i1])).length) Slot.unset).toArray = ls at hl ⊢
  have hl : lv_has ls 3 [(0, .ref a0), (1, .int i1)] := hl
  refine lv_bipush (v := 24) hx hb dX10_append_0 (by decide) ?_
  refine lv_istore_n (lv' := [(2, .int 24), (0, .ref a0), (1, .int i1)]) hx hb dX10_append_2 rfl hl (by decide) rfl (fun ls hl => ?_)
  refine lv_iload_n hx hb dX10_append_3 rfl (lv_at hl 0 rfl) ?_
  refine lv_if_lt (tgt := 49) hx hb dX10_append_4 (by decide) (fun c => absurd c (by decide)) (fun _ => ?_)
  refine lv_aload_n hx hb dX10_append_7 rfl (lv_at hl 1 rfl) ?_
  refine va_get (D := (dC, dI)) (ci := 0) (v := .int 16) (C := RX10) (T := TX10) (N := 8) hx hb hts i_X10 hown hK hP 0 rfl rfl 1 (by decide) (hts _ qw208) (fun _ h9 => h9) rfl dX10_append_8 ?_
  refine lv_sipush (v := 1200) hx hb dX10_append_11 (by decide) ?_
  refine lv_icmp_ge (tgt := 49) hx hb dX10_append_14 (by decide) (fun c => absurd c (by decide)) (fun _ => ?_)
  refine lv_aload_n hx hb dX10_append_17 rfl (lv_at hl 1 rfl) ?_
  refine va_get (D := (dC, dI)) (ci := 0) (v := .ref a62) (C := RX10) (T := TX10) (N := 8) hx hb hts i_X10 hown hK hP 0 rfl rfl 0 (by decide) (hts _ qw3) (fun _ h9 => h9) rfl dX10_append_18 ?_
  refine lv_aload_n hx hb dX10_append_21 rfl (lv_at hl 1 rfl) ?_
  refine va_get (D := (dC, dI)) (ci := 0) (v := .int 16) (C := RX10) (T := TX10) (N := 8) hx hb hts i_X10 hown hK hP 0 rfl rfl 1 (by decide) (hts _ qw208) (fun _ h9 => h9) rfl dX10_append_22 ?_
  refine lv_iload_n hx hb dX10_append_25 rfl (lv_at hl 2 rfl) ?_
  refine lv_iload_n hx hb dX10_append_26 rfl (lv_at hl 0 rfl) ?_
  refine lv_iushr hx hb dX10_append_27 rfl ?_
  refine lv_topi (fun x1 ex1 => ?_)
  refine lv_sipush (v := 255) hx hb dX10_append_28 (by decide) ?_
  refine lv_iand hx hb dX10_append_31 ?_
  refine lv_topi (fun x2 ex2 => ?_)
  refine va_iast hx hb hK hP hD hS 1 0 rfl rfl (by unfold vp_in; decide +kernel) dX10_append_32 (fun H locs hP hD hS => ?_)
  have hP : va_P (dC, dI) cls [(a0, .inr (0, [.ref a62, .int 16, .int 0, .int 0, .int 0, .long 0, .int 0, .int 0])), (a62, .inl (k64, 1200, .inl (upd F63 (Int32.toNatClampNeg 16) x2)))] H := hP
  have hD : va_D A [(a0, .inr (0, [.ref a62, .int 16, .int 0, .int 0, .int 0, .long 0, .int 0, .int 0])), (a62, .inl (k64, 1200, .inl (upd F63 (Int32.toNatClampNeg 16) x2)))] := hD
  generalize upd F63 (Int32.toNatClampNeg 16) x2 = f3 at hP hD
  refine lv_aload_n hx hb dX10_append_33 rfl (lv_at hl 1 rfl) ?_
  refine lv_dup hx hb dX10_append_34 rfl ?_
  refine va_get (D := (dC, dI)) (ci := 0) (v := .int 16) (C := RX10) (T := TX10) (N := 8) hx hb hts i_X10 hown hK hP 0 rfl rfl 1 (by decide) (hts _ qw208) (fun _ h9 => h9) rfl dX10_append_35 ?_
  refine lv_iconst (v := 1) hx hb dX10_append_38 (by decide) ?_
  refine lv_iadd hx hb dX10_append_39 ?_
  refine lv_topC (y := 17) (by decide) ?_
  refine va_put (D := (dC, dI)) (ci := 0) (v := .int 17) (ty := .int) (C := RX10) (T := TX10) (N := 8) hx hb hts i_X10 tyX10 tyX10_ok nmX10 hown hK hP hD hS 0 rfl rfl 1 (by decide) (hts _ qw208) (fun _ h9 => h9) rfl (by decide +kernel) rfl rfl (Nat.le_of_ble_eq_true rfl) dX10_append_40 (fun H locs hP hD hS => ?_)
  have hP : va_P (dC, dI) cls [(a0, .inr (0, [.ref a62, .int 17, .int 0, .int 0, .int 0, .long 0, .int 0, .int 0])), (a62, .inl (k64, 1200, .inl f3))] H := hP
  have hD : va_D A [(a0, .inr (0, [.ref a62, .int 17, .int 0, .int 0, .int 0, .long 0, .int 0, .int 0])), (a62, .inl (k64, 1200, .inl f3))] := hD
  refine lv_iinc (v := 16) (lv' := [(2, .int 16), (0, .ref a0), (1, .int i1)]) hx hb dX10_append_43 hl (k := 0) rfl (by decide) (by decide) rfl (fun ls hl => ?_)
  refine lv_goto (tgt := 3) hx hb dX10_append_46 (by decide) ?_
  refine lv_iload_n hx hb dX10_append_3 rfl (lv_at hl 0 rfl) ?_
  refine lv_if_lt (tgt := 49) hx hb dX10_append_4 (by decide) (fun c => absurd c (by decide)) (fun _ => ?_)
  refine lv_aload_n hx hb dX10_append_7 rfl (lv_at hl 1 rfl) ?_
  refine va_get (D := (dC, dI)) (ci := 0) (v := .int 17) (C := RX10) (T := TX10) (N := 8) hx hb hts i_X10 hown hK hP 0 rfl rfl 1 (by decide) (hts _ qw208) (fun _ h9 => h9) rfl dX10_append_8 ?_
  refine lv_sipush (v := 1200) hx hb dX10_append_11 (by decide) ?_
  refine lv_icmp_ge (tgt := 49) hx hb dX10_append_14 (by decide) (fun c => absurd c (by decide)) (fun _ => ?_)
  refine lv_aload_n hx hb dX10_append_17 rfl (lv_at hl 1 rfl) ?_
  refine va_get (D := (dC, dI)) (ci := 0) (v := .ref a62) (C := RX10) (T := TX10) (N := 8) hx hb hts i_X10 hown hK hP 0 rfl rfl 0 (by decide) (hts _ qw3) (fun _ h9 => h9) rfl dX10_append_18 ?_
  refine lv_aload_n hx hb dX10_append_21 rfl (lv_at hl 1 rfl) ?_
  refine va_get (D := (dC, dI)) (ci := 0) (v := .int 17) (C := RX10) (T := TX10) (N := 8) hx hb hts i_X10 hown hK hP 0 rfl rfl 1 (by decide) (hts _ qw208) (fun _ h9 => h9) rfl dX10_append_22 ?_
  refine lv_iload_n hx hb dX10_append_25 rfl (lv_at hl 2 rfl) ?_
  refine lv_iload_n hx hb dX10_append_26 rfl (lv_at hl 0 rfl) ?_
  refine lv_iushr hx hb dX10_append_27 rfl ?_
  refine lv_topi (fun x4 ex4 => ?_)
  refine lv_sipush (v := 255) hx hb dX10_append_28 (by decide) ?_
  refine lv_iand hx hb dX10_append_31 ?_
  refine lv_topi (fun x5 ex5 => ?_)
  refine va_iast hx hb hK hP hD hS 1 0 rfl rfl (by unfold vp_in; decide +kernel) dX10_append_32 (fun H locs hP hD hS => ?_)
  have hP : va_P (dC, dI) cls [(a0, .inr (0, [.ref a62, .int 17, .int 0, .int 0, .int 0, .long 0, .int 0, .int 0])), (a62, .inl (k64, 1200, .inl (upd f3 (Int32.toNatClampNeg 17) x5)))] H := hP
  have hD : va_D A [(a0, .inr (0, [.ref a62, .int 17, .int 0, .int 0, .int 0, .long 0, .int 0, .int 0])), (a62, .inl (k64, 1200, .inl (upd f3 (Int32.toNatClampNeg 17) x5)))] := hD
  generalize upd f3 (Int32.toNatClampNeg 17) x5 = f6 at hP hD
  refine lv_aload_n hx hb dX10_append_33 rfl (lv_at hl 1 rfl) ?_
  refine lv_dup hx hb dX10_append_34 rfl ?_
  refine va_get (D := (dC, dI)) (ci := 0) (v := .int 17) (C := RX10) (T := TX10) (N := 8) hx hb hts i_X10 hown hK hP 0 rfl rfl 1 (by decide) (hts _ qw208) (fun _ h9 => h9) rfl dX10_append_35 ?_
  refine lv_iconst (v := 1) hx hb dX10_append_38 (by decide) ?_
  refine lv_iadd hx hb dX10_append_39 ?_
  refine lv_topC (y := 18) (by decide) ?_
  refine va_put (D := (dC, dI)) (ci := 0) (v := .int 18) (ty := .int) (C := RX10) (T := TX10) (N := 8) hx hb hts i_X10 tyX10 tyX10_ok nmX10 hown hK hP hD hS 0 rfl rfl 1 (by decide) (hts _ qw208) (fun _ h9 => h9) rfl (by decide +kernel) rfl rfl (Nat.le_of_ble_eq_true rfl) dX10_append_40 (fun H locs hP hD hS => ?_)
  have hP : va_P (dC, dI) cls [(a0, .inr (0, [.ref a62, .int 18, .int 0, .int 0, .int 0, .long 0, .int 0, .int 0])), (a62, .inl (k64, 1200, .inl f6))] H := hP
  have hD : va_D A [(a0, .inr (0, [.ref a62, .int 18, .int 0, .int 0, .int 0, .long 0, .int 0, .int 0])), (a62, .inl (k64, 1200, .inl f6))] := hD
  refine lv_iinc (v := 8) (lv' := [(2, .int 8), (0, .ref a0), (1, .int i1)]) hx hb dX10_append_43 hl (k := 0) rfl (by decide) (by decide) rfl (fun ls hl => ?_)
  refine lv_goto (tgt := 3) hx hb dX10_append_46 (by decide) ?_
  refine lv_iload_n hx hb dX10_append_3 rfl (lv_at hl 0 rfl) ?_
  refine lv_if_lt (tgt := 49) hx hb dX10_append_4 (by decide) (fun c => absurd c (by decide)) (fun _ => ?_)
  refine lv_aload_n hx hb dX10_append_7 rfl (lv_at hl 1 rfl) ?_
  refine va_get (D := (dC, dI)) (ci := 0) (v := .int 18) (C := RX10) (T := TX10) (N := 8) hx hb hts i_X10 hown hK hP 0 rfl rfl 1 (by decide) (hts _ qw208) (fun _ h9 => h9) rfl dX10_append_8 ?_
  refine lv_sipush (v := 1200) hx hb dX10_append_11 (by decide) ?_
  refine lv_icmp_ge (tgt := 49) hx hb dX10_append_14 (by decide) (fun c => absurd c (by decide)) (fun _ => ?_)
  refine lv_aload_n hx hb dX10_append_17 rfl (lv_at hl 1 rfl) ?_
  refine va_get (D := (dC, dI)) (ci := 0) (v := .ref a62) (C := RX10) (T := TX10) (N := 8) hx hb hts i_X10 hown hK hP 0 rfl rfl 0 (by decide) (hts _ qw3) (fun _ h9 => h9) rfl dX10_append_18 ?_
  refine lv_aload_n hx hb dX10_append_21 rfl (lv_at hl 1 rfl) ?_
  refine va_get (D := (dC, dI)) (ci := 0) (v := .int 18) (C := RX10) (T := TX10) (N := 8) hx hb hts i_X10 hown hK hP 0 rfl rfl 1 (by decide) (hts _ qw208) (fun _ h9 => h9) rfl dX10_append_22 ?_
  refine lv_iload_n hx hb dX10_append_25 rfl (lv_at hl 2 rfl) ?_
  refine lv_iload_n hx hb dX10_append_26 rfl (lv_at hl 0 rfl) ?_
  refine lv_iushr hx hb dX10_append_27 rfl ?_
  refine lv_topi (fun x7 ex7 => ?_)
  refine lv_sipush (v := 255) hx hb dX10_append_28 (by decide) ?_
  refine lv_iand hx hb dX10_append_31 ?_
  refine lv_topi (fun x8 ex8 => ?_)
  refine va_iast hx hb hK hP hD hS 1 0 rfl rfl (by unfold vp_in; decide +kernel) dX10_append_32 (fun H locs hP hD hS => ?_)
  have hP : va_P (dC, dI) cls [(a0, .inr (0, [.ref a62, .int 18, .int 0, .int 0, .int 0, .long 0, .int 0, .int 0])), (a62, .inl (k64, 1200, .inl (upd f6 (Int32.toNatClampNeg 18) x8)))] H := hP
  have hD : va_D A [(a0, .inr (0, [.ref a62, .int 18, .int 0, .int 0, .int 0, .long 0, .int 0, .int 0])), (a62, .inl (k64, 1200, .inl (upd f6 (Int32.toNatClampNeg 18) x8)))] := hD
  generalize upd f6 (Int32.toNatClampNeg 18) x8 = f9 at hP hD
  refine lv_aload_n hx hb dX10_append_33 rfl (lv_at hl 1 rfl) ?_
  refine lv_dup hx hb dX10_append_34 rfl ?_
  refine va_get (D := (dC, dI)) (ci := 0) (v := .int 18) (C := RX10) (T := TX10) (N := 8) hx hb hts i_X10 hown hK hP 0 rfl rfl 1 (by decide) (hts _ qw208) (fun _ h9 => h9) rfl dX10_append_35 ?_
  refine lv_iconst (v := 1) hx hb dX10_append_38 (by decide) ?_
  refine lv_iadd hx hb dX10_append_39 ?_
  refine lv_topC (y := 19) (by decide) ?_
  refine va_put (D := (dC, dI)) (ci := 0) (v := .int 19) (ty := .int) (C := RX10) (T := TX10) (N := 8) hx hb hts i_X10 tyX10 tyX10_ok nmX10 hown hK hP hD hS 0 rfl rfl 1 (by decide) (hts _ qw208) (fun _ h9 => h9) rfl (by decide +kernel) rfl rfl (Nat.le_of_ble_eq_true rfl) dX10_append_40 (fun H locs hP hD hS => ?_)
  have hP : va_P (dC, dI) cls [(a0, .inr (0, [.ref a62, .int 19, .int 0, .int 0, .int 0, .long 0, .int 0, .int 0])), (a62, .inl (k64, 1200, .inl f9))] H := hP
  have hD : va_D A [(a0, .inr (0, [.ref a62, .int 19, .int 0, .int 0, .int 0, .long 0, .int 0, .int 0])), (a62, .inl (k64, 1200, .inl f9))] := hD
  refine lv_iinc (v := 0) (lv' := [(2, .int 0), (0, .ref a0), (1, .int i1)]) hx hb dX10_append_43 hl (k := 0) rfl (by decide) (by decide) rfl (fun ls hl => ?_)
  refine lv_goto (tgt := 3) hx hb dX10_append_46 (by decide) ?_
  refine lv_iload_n hx hb dX10_append_3 rfl (lv_at hl 0 rfl) ?_
  refine lv_if_lt (tgt := 49) hx hb dX10_append_4 (by decide) (fun c => absurd c (by decide)) (fun _ => ?_)
  refine lv_aload_n hx hb dX10_append_7 rfl (lv_at hl 1 rfl) ?_
  refine va_get (D := (dC, dI)) (ci := 0) (v := .int 19) (C := RX10) (T := TX10) (N := 8) hx hb hts i_X10 hown hK hP 0 rfl rfl 1 (by decide) (hts _ qw208) (fun _ h9 => h9) rfl dX10_append_8 ?_
  refine lv_sipush (v := 1200) hx hb dX10_append_11 (by decide) ?_
  refine lv_icmp_ge (tgt := 49) hx hb dX10_append_14 (by decide) (fun c => absurd c (by decide)) (fun _ => ?_)
  refine lv_aload_n hx hb dX10_append_17 rfl (lv_at hl 1 rfl) ?_
  refine va_get (D := (dC, dI)) (ci := 0) (v := .ref a62) (C := RX10) (T := TX10) (N := 8) hx hb hts i_X10 hown hK hP 0 rfl rfl 0 (by decide) (hts _ qw3) (fun _ h9 => h9) rfl dX10_append_18 ?_
  refine lv_aload_n hx hb dX10_append_21 rfl (lv_at hl 1 rfl) ?_
  refine va_get (D := (dC, dI)) (ci := 0) (v := .int 19) (C := RX10) (T := TX10) (N := 8) hx hb hts i_X10 hown hK hP 0 rfl rfl 1 (by decide) (hts _ qw208) (fun _ h9 => h9) rfl dX10_append_22 ?_
  refine lv_iload_n hx hb dX10_append_25 rfl (lv_at hl 2 rfl) ?_
  refine lv_iload_n hx hb dX10_append_26 rfl (lv_at hl 0 rfl) ?_
  refine lv_iushr hx hb dX10_append_27 rfl ?_
  refine lv_topi (fun x10 ex10 => ?_)
  refine lv_sipush (v := 255) hx hb dX10_append_28 (by decide) ?_
  refine lv_iand hx hb dX10_append_31 ?_
  refine lv_topi (fun x11 ex11 => ?_)
  refine va_iast hx hb hK hP hD hS 1 0 rfl rfl (by unfold vp_in; decide +kernel) dX10_append_32 (fun H locs hP hD hS => ?_)
  have hP : va_P (dC, dI) cls [(a0, .inr (0, [.ref a62, .int 19, .int 0, .int 0, .int 0, .long 0, .int 0, .int 0])), (a62, .inl (k64, 1200, .inl (upd f9 (Int32.toNatClampNeg 19) x11)))] H := hP
  have hD : va_D A [(a0, .inr (0, [.ref a62, .int 19, .int 0, .int 0, .int 0, .long 0, .int 0, .int 0])), (a62, .inl (k64, 1200, .inl (upd f9 (Int32.toNatClampNeg 19) x11)))] := hD
  generalize upd f9 (Int32.toNatClampNeg 19) x11 = f12 at hP hD
  refine lv_aload_n hx hb dX10_append_33 rfl (lv_at hl 1 rfl) ?_
  refine lv_dup hx hb dX10_append_34 rfl ?_
  refine va_get (D := (dC, dI)) (ci := 0) (v := .int 19) (C := RX10) (T := TX10) (N := 8) hx hb hts i_X10 hown hK hP 0 rfl rfl 1 (by decide) (hts _ qw208) (fun _ h9 => h9) rfl dX10_append_35 ?_
  refine lv_iconst (v := 1) hx hb dX10_append_38 (by decide) ?_
  refine lv_iadd hx hb dX10_append_39 ?_
  refine lv_topC (y := 20) (by decide) ?_
  refine va_put (D := (dC, dI)) (ci := 0) (v := .int 20) (ty := .int) (C := RX10) (T := TX10) (N := 8) hx hb hts i_X10 tyX10 tyX10_ok nmX10 hown hK hP hD hS 0 rfl rfl 1 (by decide) (hts _ qw208) (fun _ h9 => h9) rfl (by decide +kernel) rfl rfl (Nat.le_of_ble_eq_true rfl) dX10_append_40 (fun H locs hP hD hS => ?_)
  have hP : va_P (dC, dI) cls [(a0, .inr (0, [.ref a62, .int 20, .int 0, .int 0, .int 0, .long 0, .int 0, .int 0])), (a62, .inl (k64, 1200, .inl f12))] H := hP
  have hD : va_D A [(a0, .inr (0, [.ref a62, .int 20, .int 0, .int 0, .int 0, .long 0, .int 0, .int 0])), (a62, .inl (k64, 1200, .inl f12))] := hD
  refine lv_iinc (v := (-8)) (lv' := [(2, .int (-8)), (0, .ref a0), (1, .int i1)]) hx hb dX10_append_43 hl (k := 0) rfl (by decide) (by decide) rfl (fun ls hl => ?_)
  refine lv_goto (tgt := 3) hx hb dX10_append_46 (by decide) ?_
  refine lv_iload_n hx hb dX10_append_3 rfl (lv_at hl 0 rfl) ?_
  refine lv_if_lt (tgt := 49) hx hb dX10_append_4 (by decide) (fun _ => ?_) (fun c => absurd (by decide) c)
  have hP9 : va_P (dC, dI) cls [(a0, .inr (0, [.ref a62, .int 20, .int 0, .int 0, .int 0, .long 0, .int 0, .int 0])), (a62, .inl (k64, 1200, .inl f12))] H := hP.sub [0, 1] rfl
  have hD9 : va_D A [(a0, .inr (0, [.ref a62, .int 20, .int 0, .int 0, .int 0, .long 0, .int 0, .int 0])), (a62, .inl (k64, 1200, .inl f12))] := hD.sub [0, 1] (by decide) rfl
  have hK9 : va_K (dC, dI) cls [(k64, .int)] s := hK.sub [0] rfl
  exact W.vret hx hb hr (fun t ht hW => ⟨⟨(), rfl, trivial, ⟨f12, ⟨by rw [ht]; exact hP9, va_K.moved hW.alike hK9, hD9⟩⟩⟩, hS.F ht⟩) hS.2.2 dX10_append_49
set_option maxHeartbeats 4000000 in
set_option maxRecDepth 100000 in
theorem kX11_feed {zs : Nat × Nat} (l : Launch) (dC : Nat → ClassId) (dI : Nat → Nat → Nat) (gx : Nat) (gq1 : Nat) (gq2 : Nat) (gc3 : ClassId) (gq4 : Nat) (gq13 : Nat) (gq136 : Nat) (gq137 : Nat) (gq138 : Nat) (gq150 : Nat) (gq161 : Nat) (gq172 : Nat) (gq184 : Nat) (p0 : Int32) (p1 : Int32) (p2 : Int32) (p3 : Int32) (p4 : Int32) (sz : Nat)  : Met l yX11_feed (wz yX11_feed cX11_feed 6 (Option.some Jvm.ClassFile.FieldType.int)) ({ frames := 1, cells := 0, slots := 0, locals := 22 }) (va_Pc [.ref gx, .int p0, .int p1, .int p2, .int p3, .int p4] (PRE zs dC dI [(gx, .inr (11, [.ref gq1, .ref gq4, .ref gq13, .ref gq136, .ref gq137, .ref gq138, .ref gq172, .ref gq184, .ref gq150, .ref gq161, .int (-1)])), (gq1, .inr (0, [.ref gq2, .int 0, .int 0, .int 0, .int 0, .long 0, .int 0, .int 0])), (gq2, .inl (gc3, 1200, .inl (fun _ => 0)))] [(gc3, .int)] sz)) (va_Qi (fun (r : Int32) (_ : Unit) => r = 20) (fun _ t => POST dC dI [] [] (va_A [(gx, .inr (11, [.ref gq1, .ref gq4, .ref gq13, .ref gq136, .ref gq137, .ref gq138, .ref gq172, .ref gq184, .ref gq150, .ref gq161, .int (-1)])), (gq1, .inr (0, [.ref gq2, .int 0, .int 0, .int 0, .int 0, .long 0, .int 0, .int 0])), (gq2, .inl (gc3, 1200, .inl (fun _ => 0)))] sz) t) (va_A [(gx, .inr (11, [.ref gq1, .ref gq4, .ref gq13, .ref gq136, .ref gq137, .ref gq138, .ref gq172, .ref gq184, .ref gq150, .ref gq161, .int (-1)])), (gq1, .inr (0, [.ref gq2, .int 0, .int 0, .int 0, .int 0, .long 0, .int 0, .int 0])), (gq2, .inl (gc3, 1200, .inl (fun _ => 0)))] sz)) 0 0 (va_A [(gx, .inr (11, [.ref gq1, .ref gq4, .ref gq13, .ref gq136, .ref gq137, .ref gq138, .ref gq172, .ref gq184, .ref gq150, .ref gq161, .int (-1)])), (gq1, .inr (0, [.ref gq2, .int 0, .int 0, .int 0, .int 0, .long 0, .int 0, .int 0])), (gq2, .inl (gc3, 1200, .inl (fun _ => 0)))] sz) := by
  refine Met.ofW (cc := cX11_feed) (maxL := 6) (ret := (Option.some Jvm.ClassFile.FieldType.int)) (by decide) rfl ?_
  intro p e s m args below meth c s₁ B hml hv
  obtain ⟨rfl, hsz, hP, hK, hD0, hE⟩ := hv
  have hx := B.exec
  have hb := B.bytes
  have hr := B.returns
  have hts0 := atoms_spec (ws := wz yX11_feed cX11_feed 6 (Option.some Jvm.ClassFile.FieldType.int)) B.pre
  have hts : ∀ w ∈ gw, w.before _ s = true := fun w h => hts0 w (List.mem_cons_of_mem _ h)
  have hown : s.vm.findClass RX11 = some m.cls := findClass_of_methodNamed B.named
  have hlocks := B.notSynchronized
  subst hsz
  have hD := hD0.self (sz := s.heap.size)
  generalize hAe : va_A [(gx, .inr (11, [.ref gq1, .ref gq4, .ref gq13, .ref gq136, .ref gq137, .ref gq138, .ref gq172, .ref gq184, .ref gq150, .ref gq161, .int (-1)])), (gq1, .inr (0, [.ref gq2, .int 0, .int 0, .int 0, .int 0, .long 0, .int 0, .int 0])), (gq2, .inl (gc3, 1200, .inl (fun _ => 0)))] s.heap.size = A at hD hE ⊢
  have hA : ∀ q : Nat, s.heap.size ≤ q → A q := fun q h => by rw [← hAe]; exact Or.inr h
  have hS : va_S A s.heap s.heap [] := va_S.rf
  have hP : va_P (dC, dI) cls [(gx, .inr (11, [.ref gq1, .ref gq4, .ref gq13, .ref gq136, .ref gq137, .ref gq138, .ref gq172, .ref gq184, .ref gq150, .ref gq161, .int (-1)])), (gq1, .inr (0, [.ref gq2, .int 0, .int 0, .int 0, .int 0, .long 0, .int 0, .int 0])), (gq2, .inl (gc3, 1200, .inl (fun _ => 0)))] s.heap := hP
  have hl := lv_entry ([.ref gx, .int p0, .int p1, .int p2, .int p3, .int p4]) (n := 6) (Nat.le_of_ble_eq_true rfl)
  rw [lg_entry_eq]
  generalize (lg_sl ([.ref gx, .int p0, .int p1, .int p2, .int p3, .int p4]) ++ List.replicate (6 - (lg_sl ([.ref gx, .int p0, .int p1, .int p2, .int p3, .int p4])).length) Slot.unset).toArray = ls at hl ⊢
  have hl : lv_has ls 6 [(0, .ref gx), (1, .int p0), (2, .int p1), (3, .int p2), (4, .int p3), (5, .int p4)] := hl
  refine lv_aload_n hx hb dX11_feed_0 rfl (lv_at hl 0 rfl) ?_
  refine va_get (D := (dC, dI)) (ci := 11) (v := .ref gq1) (C := RX11) (T := TX11) (N := 11) hx hb hts i_X11 hown hK hP 0 rfl rfl 0 (by decide) (hts _ qw154) (fun _ h9 => h9) rfl dX11_feed_1 ?_
  refine va_get (D := (dC, dI)) (ci := 0) (v := .int 0) (C := RX10) (T := TX10) (N := 8) hx hb hts i_X10 hown hK hP 1 rfl rfl 1 (by decide) (hts _ qw207) (fun _ h9 => h9) rfl dX11_feed_4 ?_
  refine lv_bipush (v := 20) hx hb dX11_feed_7 (by decide) ?_
  refine lv_iadd hx hb dX11_feed_9 ?_
  refine lv_topC (y := 20) (by decide) ?_
  refine lv_sipush (v := 1200) hx hb dX11_feed_10 (by decide) ?_
  refine lv_icmp_le (tgt := 26) hx hb dX11_feed_13 (by decide) (fun _ => ?_) (fun c => absurd (by decide) c)
  refine lv_aload_n hx hb dX11_feed_26 rfl (lv_at hl 0 rfl) ?_
  refine va_get (D := (dC, dI)) (ci := 11) (v := .ref gq1) (C := RX11) (T := TX11) (N := 11) hx hb hts i_X11 hown hK hP 0 rfl rfl 0 (by decide) (hts _ qw154) (fun _ h9 => h9) rfl dX11_feed_27 ?_
  refine lv_iload_n hx hb dX11_feed_30 rfl (lv_at hl 1 rfl) ?_
  have hPc := hP.sub (ws' := [(gq1, .inr (0, [.ref gq2, .int 0, .int 0, .int 0, .int 0, .long 0, .int 0, .int 0])), (gq2, .inl (gc3, 1200, .inl (fun _ => 0)))]) [1, 2] rfl
  have hDc := hD.sub (ws' := [(gq1, .inr (0, [.ref gq2, .int 0, .int 0, .int 0, .int 0, .long 0, .int 0, .int 0])), (gq2, .inl (gc3, 1200, .inl (fun _ => 0)))]) [1, 2] (by decide) rfl
  have hKc := hK.sub (tys' := [(gc3, .int)]) [0] rfl
  have hFc := va_free (wc := [(gq1, .inr (0, [.ref gq2, .int 0, .int 0, .int 0, .int 0, .long 0, .int 0, .int 0])), (gq2, .inl (gc3, 1200, .inl (fun _ => 0)))]) hD hS hA [1, 2] rfl
  refine va_callv (va_runV (As := [.int p0]) (rest := []) ⟨hx, hb, hml, hown, hts⟩ (kX10_append_n1 l dC dI (a0 := gq1) (i1 := p0) (a12 := gq2) (k13 := gc3) (sz := _)) (cwV 1 hts (gi_V qw210 qw211 qw212 qw151 (gi_z qw209)) rfl rfl rfl (by decide +kernel) ⟨Nat.le_of_ble_eq_true rfl, Nat.le_of_ble_eq_true rfl⟩) ⟨PRE.blind, va_recv hKc hPc (ci := 0) (q0 := 0) rfl rfl, PRE.of hE hS hFc hPc hKc hDc⟩ rfl rfl hl.1 rfl (lv_room (Nat.le_of_ble_eq_true rfl)) dX11_feed_31 ⟨Nat.le_of_ble_eq_true rfl, Nat.le_of_ble_eq_true rfl⟩) hS (fun q _ h => hFc q h) hFc (fun u t H locs ht hvm hw hB hz1 hk1 hS => ?_)
  obtain ⟨f1, hB⟩ := hB
  obtain ⟨hP, hD, hK⟩ := JOIN (wr := [(gx, .inr (11, [.ref gq1, .ref gq4, .ref gq13, .ref gq136, .ref gq137, .ref gq138, .ref gq172, .ref gq184, .ref gq150, .ref gq161, .int (-1)]))]) hP hD hK [1, 2] [0] [] rfl rfl (by decide) (by decide) rfl hk1 hFc ht hvm hB
  have hP : va_P (dC, dI) cls [(gx, .inr (11, [.ref gq1, .ref gq4, .ref gq13, .ref gq136, .ref gq137, .ref gq138, .ref gq172, .ref gq184, .ref gq150, .ref gq161, .int (-1)])), (gq1, .inr (0, [.ref gq2, .int 4, .int 0, .int 0, .int 0, .long 0, .int 0, .int 0])), (gq2, .inl (gc3, 1200, .inl f1))] H := hP
  have hD : va_D A [(gx, .inr (11, [.ref gq1, .ref gq4, .ref gq13, .ref gq136, .ref gq137, .ref gq138, .ref gq172, .ref gq184, .ref gq150, .ref gq161, .int (-1)])), (gq1, .inr (0, [.ref gq2, .int 4, .int 0, .int 0, .int 0, .long 0, .int 0, .int 0])), (gq2, .inl (gc3, 1200, .inl f1))] := hD
  have hK : va_K (dC, dI) cls [(gc3, .int)] s := hK
  refine W.widen (k := 0) (n := 0) (Nat.le_of_ble_eq_true rfl) (Nat.le_of_ble_eq_true rfl) ?_
  refine lv_aload_n hx hb dX11_feed_34 rfl (lv_at hl 0 rfl) ?_
  refine va_get (D := (dC, dI)) (ci := 11) (v := .ref gq1) (C := RX11) (T := TX11) (N := 11) hx hb hts i_X11 hown hK hP 0 rfl rfl 0 (by decide) (hts _ qw154) (fun _ h9 => h9) rfl dX11_feed_35 ?_
  refine lv_iload_n hx hb dX11_feed_38 rfl (lv_at hl 2 rfl) ?_
  have hPc := hP.sub (ws' := [(gq1, .inr (0, [.ref gq2, .int 4, .int 0, .int 0, .int 0, .long 0, .int 0, .int 0])), (gq2, .inl (gc3, 1200, .inl f1))]) [1, 2] rfl
  have hDc := hD.sub (ws' := [(gq1, .inr (0, [.ref gq2, .int 4, .int 0, .int 0, .int 0, .long 0, .int 0, .int 0])), (gq2, .inl (gc3, 1200, .inl f1))]) [1, 2] (by decide) rfl
  have hKc := hK.sub (tys' := [(gc3, .int)]) [0] rfl
  have hFc := va_free (wc := [(gq1, .inr (0, [.ref gq2, .int 4, .int 0, .int 0, .int 0, .long 0, .int 0, .int 0])), (gq2, .inl (gc3, 1200, .inl f1))]) hD hS hA [1, 2] rfl
  refine va_callv (va_runV (As := [.int p1]) (rest := []) ⟨hx, hb, hml, hown, hts⟩ (kX10_append_n2 l dC dI (a0 := gq1) (i1 := p1) (a62 := gq2) (F63 := f1) (k64 := gc3) (sz := _)) (cwV 1 hts (gi_V qw210 qw211 qw212 qw151 (gi_z qw209)) rfl rfl rfl (by decide +kernel) ⟨Nat.le_of_ble_eq_true rfl, Nat.le_of_ble_eq_true rfl⟩) ⟨PRE.blind, va_recv hKc hPc (ci := 0) (q0 := 0) rfl rfl, PRE.of hE hS hFc hPc hKc hDc⟩ rfl rfl hl.1 rfl (lv_room (Nat.le_of_ble_eq_true rfl)) dX11_feed_39 ⟨Nat.le_of_ble_eq_true rfl, Nat.le_of_ble_eq_true rfl⟩) hS (fun q _ h => hFc q h) hFc (fun u t H locs ht hvm hw hB hz1 hk1 hS => ?_)
  obtain ⟨f2, hB⟩ := hB
  obtain ⟨hP, hD, hK⟩ := JOIN (wr := [(gx, .inr (11, [.ref gq1, .ref gq4, .ref gq13, .ref gq136, .ref gq137, .ref gq138, .ref gq172, .ref gq184, .ref gq150, .ref gq161, .int (-1)]))]) hP hD hK [1, 2] [0] [] rfl rfl (by decide) (by decide) rfl hk1 hFc ht hvm hB
  have hP : va_P (dC, dI) cls [(gx, .inr (11, [.ref gq1, .ref gq4, .ref gq13, .ref gq136, .ref gq137, .ref gq138, .ref gq172, .ref gq184, .ref gq150, .ref gq161, .int (-1)])), (gq1, .inr (0, [.ref gq2, .int 8, .int 0, .int 0, .int 0, .long 0, .int 0, .int 0])), (gq2, .inl (gc3, 1200, .inl f2))] H := hP
  have hD : va_D A [(gx, .inr (11, [.ref gq1, .ref gq4, .ref gq13, .ref gq136, .ref gq137, .ref gq138, .ref gq172, .ref gq184, .ref gq150, .ref gq161, .int (-1)])), (gq1, .inr (0, [.ref gq2, .int 8, .int 0, .int 0, .int 0, .long 0, .int 0, .int 0])), (gq2, .inl (gc3, 1200, .inl f2))] := hD
  have hK : va_K (dC, dI) cls [(gc3, .int)] s := hK
  refine W.widen (k := 0) (n := 0) (Nat.le_of_ble_eq_true rfl) (Nat.le_of_ble_eq_true rfl) ?_
  refine lv_aload_n hx hb dX11_feed_42 rfl (lv_at hl 0 rfl) ?_
  refine va_get (D := (dC, dI)) (ci := 11) (v := .ref gq1) (C := RX11) (T := TX11) (N := 11) hx hb hts i_X11 hown hK hP 0 rfl rfl 0 (by decide) (hts _ qw154) (fun _ h9 => h9) rfl dX11_feed_43 ?_
  refine lv_iload_n hx hb dX11_feed_46 rfl (lv_at hl 3 rfl) ?_
  have hPc := hP.sub (ws' := [(gq1, .inr (0, [.ref gq2, .int 8, .int 0, .int 0, .int 0, .long 0, .int 0, .int 0])), (gq2, .inl (gc3, 1200, .inl f2))]) [1, 2] rfl
  have hDc := hD.sub (ws' := [(gq1, .inr (0, [.ref gq2, .int 8, .int 0, .int 0, .int 0, .long 0, .int 0, .int 0])), (gq2, .inl (gc3, 1200, .inl f2))]) [1, 2] (by decide) rfl
  have hKc := hK.sub (tys' := [(gc3, .int)]) [0] rfl
  have hFc := va_free (wc := [(gq1, .inr (0, [.ref gq2, .int 8, .int 0, .int 0, .int 0, .long 0, .int 0, .int 0])), (gq2, .inl (gc3, 1200, .inl f2))]) hD hS hA [1, 2] rfl
  refine va_callv (va_runV (As := [.int p2]) (rest := []) ⟨hx, hb, hml, hown, hts⟩ (kX10_append_n3 l dC dI (a0 := gq1) (i1 := p2) (a62 := gq2) (F63 := f2) (k64 := gc3) (sz := _)) (cwV 1 hts (gi_V qw210 qw211 qw212 qw151 (gi_z qw209)) rfl rfl rfl (by decide +kernel) ⟨Nat.le_of_ble_eq_true rfl, Nat.le_of_ble_eq_true rfl⟩) ⟨PRE.blind, va_recv hKc hPc (ci := 0) (q0 := 0) rfl rfl, PRE.of hE hS hFc hPc hKc hDc⟩ rfl rfl hl.1 rfl (lv_room (Nat.le_of_ble_eq_true rfl)) dX11_feed_47 ⟨Nat.le_of_ble_eq_true rfl, Nat.le_of_ble_eq_true rfl⟩) hS (fun q _ h => hFc q h) hFc (fun u t H locs ht hvm hw hB hz1 hk1 hS => ?_)
  obtain ⟨f3, hB⟩ := hB
  obtain ⟨hP, hD, hK⟩ := JOIN (wr := [(gx, .inr (11, [.ref gq1, .ref gq4, .ref gq13, .ref gq136, .ref gq137, .ref gq138, .ref gq172, .ref gq184, .ref gq150, .ref gq161, .int (-1)]))]) hP hD hK [1, 2] [0] [] rfl rfl (by decide) (by decide) rfl hk1 hFc ht hvm hB
  have hP : va_P (dC, dI) cls [(gx, .inr (11, [.ref gq1, .ref gq4, .ref gq13, .ref gq136, .ref gq137, .ref gq138, .ref gq172, .ref gq184, .ref gq150, .ref gq161, .int (-1)])), (gq1, .inr (0, [.ref gq2, .int 12, .int 0, .int 0, .int 0, .long 0, .int 0, .int 0])), (gq2, .inl (gc3, 1200, .inl f3))] H := hP
  have hD : va_D A [(gx, .inr (11, [.ref gq1, .ref gq4, .ref gq13, .ref gq136, .ref gq137, .ref gq138, .ref gq172, .ref gq184, .ref gq150, .ref gq161, .int (-1)])), (gq1, .inr (0, [.ref gq2, .int 12, .int 0, .int 0, .int 0, .long 0, .int 0, .int 0])), (gq2, .inl (gc3, 1200, .inl f3))] := hD
  have hK : va_K (dC, dI) cls [(gc3, .int)] s := hK
  refine W.widen (k := 0) (n := 0) (Nat.le_of_ble_eq_true rfl) (Nat.le_of_ble_eq_true rfl) ?_
  refine lv_aload_n hx hb dX11_feed_50 rfl (lv_at hl 0 rfl) ?_
  refine va_get (D := (dC, dI)) (ci := 11) (v := .ref gq1) (C := RX11) (T := TX11) (N := 11) hx hb hts i_X11 hown hK hP 0 rfl rfl 0 (by decide) (hts _ qw154) (fun _ h9 => h9) rfl dX11_feed_51 ?_
  refine lv_iload hx hb dX11_feed_54 (lv_at hl 4 rfl) ?_
  have hPc := hP.sub (ws' := [(gq1, .inr (0, [.ref gq2, .int 12, .int 0, .int 0, .int 0, .long 0, .int 0, .int 0])), (gq2, .inl (gc3, 1200, .inl f3))]) [1, 2] rfl
  have hDc := hD.sub (ws' := [(gq1, .inr (0, [.ref gq2, .int 12, .int 0, .int 0, .int 0, .long 0, .int 0, .int 0])), (gq2, .inl (gc3, 1200, .inl f3))]) [1, 2] (by decide) rfl
  have hKc := hK.sub (tys' := [(gc3, .int)]) [0] rfl
  have hFc := va_free (wc := [(gq1, .inr (0, [.ref gq2, .int 12, .int 0, .int 0, .int 0, .long 0, .int 0, .int 0])), (gq2, .inl (gc3, 1200, .inl f3))]) hD hS hA [1, 2] rfl
  refine va_callv (va_runV (As := [.int p3]) (rest := []) ⟨hx, hb, hml, hown, hts⟩ (kX10_append_n4 l dC dI (a0 := gq1) (i1 := p3) (a62 := gq2) (F63 := f3) (k64 := gc3) (sz := _)) (cwV 1 hts (gi_V qw210 qw211 qw212 qw151 (gi_z qw209)) rfl rfl rfl (by decide +kernel) ⟨Nat.le_of_ble_eq_true rfl, Nat.le_of_ble_eq_true rfl⟩) ⟨PRE.blind, va_recv hKc hPc (ci := 0) (q0 := 0) rfl rfl, PRE.of hE hS hFc hPc hKc hDc⟩ rfl rfl hl.1 rfl (lv_room (Nat.le_of_ble_eq_true rfl)) dX11_feed_56 ⟨Nat.le_of_ble_eq_true rfl, Nat.le_of_ble_eq_true rfl⟩) hS (fun q _ h => hFc q h) hFc (fun u t H locs ht hvm hw hB hz1 hk1 hS => ?_)
  obtain ⟨f4, hB⟩ := hB
  obtain ⟨hP, hD, hK⟩ := JOIN (wr := [(gx, .inr (11, [.ref gq1, .ref gq4, .ref gq13, .ref gq136, .ref gq137, .ref gq138, .ref gq172, .ref gq184, .ref gq150, .ref gq161, .int (-1)]))]) hP hD hK [1, 2] [0] [] rfl rfl (by decide) (by decide) rfl hk1 hFc ht hvm hB
  have hP : va_P (dC, dI) cls [(gx, .inr (11, [.ref gq1, .ref gq4, .ref gq13, .ref gq136, .ref gq137, .ref gq138, .ref gq172, .ref gq184, .ref gq150, .ref gq161, .int (-1)])), (gq1, .inr (0, [.ref gq2, .int 16, .int 0, .int 0, .int 0, .long 0, .int 0, .int 0])), (gq2, .inl (gc3, 1200, .inl f4))] H := hP
  have hD : va_D A [(gx, .inr (11, [.ref gq1, .ref gq4, .ref gq13, .ref gq136, .ref gq137, .ref gq138, .ref gq172, .ref gq184, .ref gq150, .ref gq161, .int (-1)])), (gq1, .inr (0, [.ref gq2, .int 16, .int 0, .int 0, .int 0, .long 0, .int 0, .int 0])), (gq2, .inl (gc3, 1200, .inl f4))] := hD
  have hK : va_K (dC, dI) cls [(gc3, .int)] s := hK
  refine W.widen (k := 0) (n := 0) (Nat.le_of_ble_eq_true rfl) (Nat.le_of_ble_eq_true rfl) ?_
  refine lv_aload_n hx hb dX11_feed_59 rfl (lv_at hl 0 rfl) ?_
  refine va_get (D := (dC, dI)) (ci := 11) (v := .ref gq1) (C := RX11) (T := TX11) (N := 11) hx hb hts i_X11 hown hK hP 0 rfl rfl 0 (by decide) (hts _ qw154) (fun _ h9 => h9) rfl dX11_feed_60 ?_
  refine lv_iload hx hb dX11_feed_63 (lv_at hl 5 rfl) ?_
  have hPc := hP.sub (ws' := [(gq1, .inr (0, [.ref gq2, .int 16, .int 0, .int 0, .int 0, .long 0, .int 0, .int 0])), (gq2, .inl (gc3, 1200, .inl f4))]) [1, 2] rfl
  have hDc := hD.sub (ws' := [(gq1, .inr (0, [.ref gq2, .int 16, .int 0, .int 0, .int 0, .long 0, .int 0, .int 0])), (gq2, .inl (gc3, 1200, .inl f4))]) [1, 2] (by decide) rfl
  have hKc := hK.sub (tys' := [(gc3, .int)]) [0] rfl
  have hFc := va_free (wc := [(gq1, .inr (0, [.ref gq2, .int 16, .int 0, .int 0, .int 0, .long 0, .int 0, .int 0])), (gq2, .inl (gc3, 1200, .inl f4))]) hD hS hA [1, 2] rfl
  refine va_callv (va_runV (As := [.int p4]) (rest := []) ⟨hx, hb, hml, hown, hts⟩ (kX10_append_n5 l dC dI (a0 := gq1) (i1 := p4) (a62 := gq2) (F63 := f4) (k64 := gc3) (sz := _)) (cwV 1 hts (gi_V qw210 qw211 qw212 qw151 (gi_z qw209)) rfl rfl rfl (by decide +kernel) ⟨Nat.le_of_ble_eq_true rfl, Nat.le_of_ble_eq_true rfl⟩) ⟨PRE.blind, va_recv hKc hPc (ci := 0) (q0 := 0) rfl rfl, PRE.of hE hS hFc hPc hKc hDc⟩ rfl rfl hl.1 rfl (lv_room (Nat.le_of_ble_eq_true rfl)) dX11_feed_65 ⟨Nat.le_of_ble_eq_true rfl, Nat.le_of_ble_eq_true rfl⟩) hS (fun q _ h => hFc q h) hFc (fun u t H locs ht hvm hw hB hz1 hk1 hS => ?_)
  obtain ⟨f5, hB⟩ := hB
  obtain ⟨hP, hD, hK⟩ := JOIN (wr := [(gx, .inr (11, [.ref gq1, .ref gq4, .ref gq13, .ref gq136, .ref gq137, .ref gq138, .ref gq172, .ref gq184, .ref gq150, .ref gq161, .int (-1)]))]) hP hD hK [1, 2] [0] [] rfl rfl (by decide) (by decide) rfl hk1 hFc ht hvm hB
  have hP : va_P (dC, dI) cls [(gx, .inr (11, [.ref gq1, .ref gq4, .ref gq13, .ref gq136, .ref gq137, .ref gq138, .ref gq172, .ref gq184, .ref gq150, .ref gq161, .int (-1)])), (gq1, .inr (0, [.ref gq2, .int 20, .int 0, .int 0, .int 0, .long 0, .int 0, .int 0])), (gq2, .inl (gc3, 1200, .inl f5))] H := hP
  have hD : va_D A [(gx, .inr (11, [.ref gq1, .ref gq4, .ref gq13, .ref gq136, .ref gq137, .ref gq138, .ref gq172, .ref gq184, .ref gq150, .ref gq161, .int (-1)])), (gq1, .inr (0, [.ref gq2, .int 20, .int 0, .int 0, .int 0, .long 0, .int 0, .int 0])), (gq2, .inl (gc3, 1200, .inl f5))] := hD
  have hK : va_K (dC, dI) cls [(gc3, .int)] s := hK
  refine W.widen (k := 0) (n := 0) (Nat.le_of_ble_eq_true rfl) (Nat.le_of_ble_eq_true rfl) ?_
  refine lv_aload_n hx hb dX11_feed_68 rfl (lv_at hl 0 rfl) ?_
  refine va_get (D := (dC, dI)) (ci := 11) (v := .ref gq1) (C := RX11) (T := TX11) (N := 11) hx hb hts i_X11 hown hK hP 0 rfl rfl 0 (by decide) (hts _ qw154) (fun _ h9 => h9) rfl dX11_feed_69 ?_
  refine va_get (D := (dC, dI)) (ci := 0) (v := .int 20) (C := RX10) (T := TX10) (N := 8) hx hb hts i_X10 hown hK hP 1 rfl rfl 1 (by decide) (hts _ qw207) (fun _ h9 => h9) rfl dX11_feed_72 ?_
  have hP9 : va_P (dC, dI) cls [] H := hP.sub [] rfl
  have hD9 : va_D A [] := hD.sub [] (by decide) rfl
  have hK9 : va_K (dC, dI) cls [] s := hK.sub [] rfl
  exact W.iret (v := 20) hx hb hr (fun t ht hW => ⟨⟨20, (), rfl, rfl, ⟨by rw [ht]; exact hP9, va_K.moved hW.alike hK9, hD9⟩⟩, hS.F ht⟩) hS.2.2 dX11_feed_75
set_option maxHeartbeats 4000000 in
set_option maxRecDepth 100000 in
theorem kX11_trim_a {zs : Nat × Nat} (l : Launch) (dC : Nat → ClassId) (dI : Nat → Nat → Nat) (gx : Nat) (gq1 : Nat) (gq4 : Nat) (gq13 : Nat) (gq136 : Nat) (gq137 : Nat) (gq138 : Nat) (gq150 : Nat) (gq161 : Nat) (gq172 : Nat) (gq184 : Nat) (p0 : Int32) (sz : Nat) (hl9 : l.stackTraces = false) (h1 : p0 < 0) : vx_Met l yX11_trim (wz yX11_trim cX11_trim 2 (Option.some Jvm.ClassFile.FieldType.int)) ({ frames := 6, cells := 1, slots := 6, locals := 100 }) (va_Pc [.ref gx, .int p0] (PRE zs dC dI [(gx, .inr (11, [.ref gq1, .ref gq4, .ref gq13, .ref gq136, .ref gq137, .ref gq138, .ref gq172, .ref gq184, .ref gq150, .ref gq161, .int (-1)]))] [] sz)) (va_Qi (fun (_ : Int32) (_ : Unit) => False) (fun _ _ => True) (va_A [(gx, .inr (11, [.ref gq1, .ref gq4, .ref gq13, .ref gq136, .ref gq137, .ref gq138, .ref gq172, .ref gq184, .ref gq150, .ref gq161, .int (-1)]))] sz)) (vx_X (fun (_ : Unit) => True) (fun E _ t => E = "java/lang/IllegalArgumentException" ∧ POST dC dI [] [] (va_A [(gx, .inr (11, [.ref gq1, .ref gq4, .ref gq13, .ref gq136, .ref gq137, .ref gq138, .ref gq172, .ref gq184, .ref gq150, .ref gq161, .int (-1)]))] sz) t) (va_A [(gx, .inr (11, [.ref gq1, .ref gq4, .ref gq13, .ref gq136, .ref gq137, .ref gq138, .ref gq172, .ref gq184, .ref gq150, .ref gq161, .int (-1)]))] sz)) 1 6 (va_A [(gx, .inr (11, [.ref gq1, .ref gq4, .ref gq13, .ref gq136, .ref gq137, .ref gq138, .ref gq172, .ref gq184, .ref gq150, .ref gq161, .int (-1)]))] sz) := by
  refine vx_ofW (cc := cX11_trim) (maxL := 2) (ret := (Option.some Jvm.ClassFile.FieldType.int)) (by decide) rfl ?_
  intro p e s m args below meth c s₁ B hml hnt hv
  obtain ⟨rfl, hsz, hP, hK, hD0, hE⟩ := hv
  have hx := B.exec
  have hb := B.bytes
  have hr := B.returns
  have hts0 := atoms_spec (ws := wz yX11_trim cX11_trim 2 (Option.some Jvm.ClassFile.FieldType.int)) B.pre
  have hts : ∀ w ∈ gw, w.before _ s = true := fun w h => hts0 w (List.mem_cons_of_mem _ h)
  have hown : s.vm.findClass RX11 = some m.cls := findClass_of_methodNamed B.named
  have hlocks := B.notSynchronized
  subst hsz
  have hD := hD0.self (sz := s.heap.size)
  generalize hAe : va_A [(gx, .inr (11, [.ref gq1, .ref gq4, .ref gq13, .ref gq136, .ref gq137, .ref gq138, .ref gq172, .ref gq184, .ref gq150, .ref gq161, .int (-1)]))] s.heap.size = A at hD hE ⊢
  have hA : ∀ q : Nat, s.heap.size ≤ q → A q := fun q h => by rw [← hAe]; exact Or.inr h
  have hS : va_S A s.heap s.heap [] := va_S.rf
  have hP : va_P (dC, dI) cls [(gx, .inr (11, [.ref gq1, .ref gq4, .ref gq13, .ref gq136, .ref gq137, .ref gq138, .ref gq172, .ref gq184, .ref gq150, .ref gq161, .int (-1)]))] s.heap := hP
  have hl := lv_entry ([.ref gx, .int p0]) (n := 2) (Nat.le_of_ble_eq_true rfl)
  rw [lg_entry_eq]
  generalize (lg_sl ([.ref gx, .int p0]) ++ List.replicate (2 - (lg_sl ([.ref gx, .int p0])).length) Slot.unset).toArray = ls at hl ⊢
  have hl : lv_has ls 2 [(0, .ref gx), (1, .int p0)] := hl
  refine lv_iload_n hx hb dX11_trim_0 rfl (lv_at hl 1 rfl) ?_
  refine lv_if_lt (tgt := 15) hx hb dX11_trim_1 (by decide) (fun _ => ?_) (fun c => absurd h1 c)
  obtain ⟨sa, hsa⟩ := hE.2.2.2.1 RX11 102 "the tape is shorter" (tbl_9 (i := 22) rfl)
  have hP9 : va_P (dC, dI) cls [] s.heap := hP.sub [] rfl
  have hD9 : va_D A [] := hD.sub [] (by decide) rfl
  have hK9 : va_K (dC, dI) cls [] s := hK.sub [] rfl
  exact vx_throwS hx hb hl9 hown rfl (by decide) (hts _ qw213) (hts _ qw214) hsa (at_X11_104 hts hE) at_X11_104_g hE.2.2.2.2.1.1 hE.2.2.2.2.1.2 hS (by rw [hml]; exact hl.1) dX11_trim_15 dX11_trim_18 dX11_trim_19 dX11_trim_21 dX11_trim_24 (fun x hx9 => (hnt x hx9).elim) (by decide) (by decide) (Nat.le_of_ble_eq_true rfl) (Nat.le_of_ble_eq_true rfl) hlocks (fun t hal hz hq => ⟨(), trivial, ⟨rfl, POST.keep hP9 hD9 hK9 hal hq⟩, ⟨Nat.le_trans hS.1 hz, fun q a b => (hq q (Nat.lt_of_lt_of_le a hS.1)).trans (hS.2.1 q a b)⟩⟩) hS.2.2 (Nat.le_of_ble_eq_true rfl) (Nat.le_of_ble_eq_true rfl)
set_option maxHeartbeats 4000000 in
set_option maxRecDepth 100000 in
theorem kX11_trim_b {zs : Nat × Nat} (l : Launch) (dC : Nat → ClassId) (dI : Nat → Nat → Nat) (gx : Nat) (gq1 : Nat) (gq2 : Nat) (gq4 : Nat) (gq13 : Nat) (gq136 : Nat) (gq137 : Nat) (gq138 : Nat) (gq150 : Nat) (gq161 : Nat) (gq172 : Nat) (gq184 : Nat) (p0 : Int32) (sz : Nat) (hl9 : l.stackTraces = false) (h1 : ¬ p0 < 0) (h2 : 0 < p0) : vx_Met l yX11_trim (wz yX11_trim cX11_trim 2 (Option.some Jvm.ClassFile.FieldType.int)) ({ frames := 6, cells := 1, slots := 6, locals := 100 }) (va_Pc [.ref gx, .int p0] (PRE zs dC dI [(gx, .inr (11, [.ref gq1, .ref gq4, .ref gq13, .ref gq136, .ref gq137, .ref gq138, .ref gq172, .ref gq184, .ref gq150, .ref gq161, .int (-1)])), (gq1, .inr (0, [.ref gq2, .int 0, .int 0, .int 0, .int 0, .long 0, .int 0, .int 0]))] [] sz)) (va_Qi (fun (_ : Int32) (_ : Unit) => False) (fun _ _ => True) (va_A [(gx, .inr (11, [.ref gq1, .ref gq4, .ref gq13, .ref gq136, .ref gq137, .ref gq138, .ref gq172, .ref gq184, .ref gq150, .ref gq161, .int (-1)])), (gq1, .inr (0, [.ref gq2, .int 0, .int 0, .int 0, .int 0, .long 0, .int 0, .int 0]))] sz)) (vx_X (fun (_ : Unit) => True) (fun E _ t => E = "java/lang/IllegalArgumentException" ∧ POST dC dI [] [] (va_A [(gx, .inr (11, [.ref gq1, .ref gq4, .ref gq13, .ref gq136, .ref gq137, .ref gq138, .ref gq172, .ref gq184, .ref gq150, .ref gq161, .int (-1)])), (gq1, .inr (0, [.ref gq2, .int 0, .int 0, .int 0, .int 0, .long 0, .int 0, .int 0]))] sz) t) (va_A [(gx, .inr (11, [.ref gq1, .ref gq4, .ref gq13, .ref gq136, .ref gq137, .ref gq138, .ref gq172, .ref gq184, .ref gq150, .ref gq161, .int (-1)])), (gq1, .inr (0, [.ref gq2, .int 0, .int 0, .int 0, .int 0, .long 0, .int 0, .int 0]))] sz)) 1 6 (va_A [(gx, .inr (11, [.ref gq1, .ref gq4, .ref gq13, .ref gq136, .ref gq137, .ref gq138, .ref gq172, .ref gq184, .ref gq150, .ref gq161, .int (-1)])), (gq1, .inr (0, [.ref gq2, .int 0, .int 0, .int 0, .int 0, .long 0, .int 0, .int 0]))] sz) := by
  refine vx_ofW (cc := cX11_trim) (maxL := 2) (ret := (Option.some Jvm.ClassFile.FieldType.int)) (by decide) rfl ?_
  intro p e s m args below meth c s₁ B hml hnt hv
  obtain ⟨rfl, hsz, hP, hK, hD0, hE⟩ := hv
  have hx := B.exec
  have hb := B.bytes
  have hr := B.returns
  have hts0 := atoms_spec (ws := wz yX11_trim cX11_trim 2 (Option.some Jvm.ClassFile.FieldType.int)) B.pre
  have hts : ∀ w ∈ gw, w.before _ s = true := fun w h => hts0 w (List.mem_cons_of_mem _ h)
  have hown : s.vm.findClass RX11 = some m.cls := findClass_of_methodNamed B.named
  have hlocks := B.notSynchronized
  subst hsz
  have hD := hD0.self (sz := s.heap.size)
  generalize hAe : va_A [(gx, .inr (11, [.ref gq1, .ref gq4, .ref gq13, .ref gq136, .ref gq137, .ref gq138, .ref gq172, .ref gq184, .ref gq150, .ref gq161, .int (-1)])), (gq1, .inr (0, [.ref gq2, .int 0, .int 0, .int 0, .int 0, .long 0, .int 0, .int 0]))] s.heap.size = A at hD hE ⊢
  have hA : ∀ q : Nat, s.heap.size ≤ q → A q := fun q h => by rw [← hAe]; exact Or.inr h
  have hS : va_S A s.heap s.heap [] := va_S.rf
  have hP : va_P (dC, dI) cls [(gx, .inr (11, [.ref gq1, .ref gq4, .ref gq13, .ref gq136, .ref gq137, .ref gq138, .ref gq172, .ref gq184, .ref gq150, .ref gq161, .int (-1)])), (gq1, .inr (0, [.ref gq2, .int 0, .int 0, .int 0, .int 0, .long 0, .int 0, .int 0]))] s.heap := hP
  have hl := lv_entry ([.ref gx, .int p0]) (n := 2) (Nat.le_of_ble_eq_true rfl)
  rw [lg_entry_eq]
  generalize (lg_sl ([.ref gx, .int p0]) ++ List.replicate (2 - (lg_sl ([.ref gx, .int p0])).length) Slot.unset).toArray = ls at hl ⊢
  have hl : lv_has ls 2 [(0, .ref gx), (1, .int p0)] := hl
  refine lv_iload_n hx hb dX11_trim_0 rfl (lv_at hl 1 rfl) ?_
  refine lv_if_lt (tgt := 15) hx hb dX11_trim_1 (by decide) (fun c => absurd c h1) (fun _ => ?_)
  refine lv_iload_n hx hb dX11_trim_4 rfl (lv_at hl 1 rfl) ?_
  refine lv_aload_n hx hb dX11_trim_5 rfl (lv_at hl 0 rfl) ?_
  refine va_get (D := (dC, dI)) (ci := 11) (v := .ref gq1) (C := RX11) (T := TX11) (N := 11) hx hb hts i_X11 hown hK hP 0 rfl rfl 0 (by decide) (hts _ qw154) (fun _ h9 => h9) rfl dX11_trim_6 ?_
  refine va_get (D := (dC, dI)) (ci := 0) (v := .int 0) (C := RX10) (T := TX10) (N := 8) hx hb hts i_X10 hown hK hP 1 rfl rfl 1 (by decide) (hts _ qw207) (fun _ h9 => h9) rfl dX11_trim_9 ?_
  refine lv_icmp_le (tgt := 25) hx hb dX11_trim_12 (by decide) (fun c => absurd c (fun c => absurd c (Int32.not_le.mpr h2))) (fun _ => ?_)
  obtain ⟨sa, hsa⟩ := hE.2.2.2.1 RX11 102 "the tape is shorter" (tbl_9 (i := 22) rfl)
  have hP9 : va_P (dC, dI) cls [] s.heap := hP.sub [] rfl
  have hD9 : va_D A [] := hD.sub [] (by decide) rfl
  have hK9 : va_K (dC, dI) cls [] s := hK.sub [] rfl
  exact vx_throwS hx hb hl9 hown rfl (by decide) (hts _ qw213) (hts _ qw214) hsa (at_X11_104 hts hE) at_X11_104_g hE.2.2.2.2.1.1 hE.2.2.2.2.1.2 hS (by rw [hml]; exact hl.1) dX11_trim_15 dX11_trim_18 dX11_trim_19 dX11_trim_21 dX11_trim_24 (fun x hx9 => (hnt x hx9).elim) (by decide) (by decide) (Nat.le_of_ble_eq_true rfl) (Nat.le_of_ble_eq_true rfl) hlocks (fun t hal hz hq => ⟨(), trivial, ⟨rfl, POST.keep hP9 hD9 hK9 hal hq⟩, ⟨Nat.le_trans hS.1 hz, fun q a b => (hq q (Nat.lt_of_lt_of_le a hS.1)).trans (hS.2.1 q a b)⟩⟩) hS.2.2 (Nat.le_of_ble_eq_true rfl) (Nat.le_of_ble_eq_true rfl)
set_option maxHeartbeats 4000000 in
set_option maxRecDepth 100000 in
theorem kX11_trim_c {zs : Nat × Nat} (l : Launch) (dC : Nat → ClassId) (dI : Nat → Nat → Nat) (gx : Nat) (gq1 : Nat) (gq2 : Nat) (gq4 : Nat) (gq13 : Nat) (gq136 : Nat) (gq137 : Nat) (gq138 : Nat) (gq150 : Nat) (gq161 : Nat) (gq172 : Nat) (gq184 : Nat) (p0 : Int32) (sz : Nat) (h1 : ¬ p0 < 0) (h2 : ¬ 0 < p0) : Met l yX11_trim (wz yX11_trim cX11_trim 2 (Option.some Jvm.ClassFile.FieldType.int)) ({ frames := 0, cells := 0, slots := 0, locals := 0 }) (va_Pc [.ref gx, .int p0] (PRE zs dC dI [(gx, .inr (11, [.ref gq1, .ref gq4, .ref gq13, .ref gq136, .ref gq137, .ref gq138, .ref gq172, .ref gq184, .ref gq150, .ref gq161, .int (-1)])), (gq1, .inr (0, [.ref gq2, .int 0, .int 0, .int 0, .int 0, .long 0, .int 0, .int 0]))] [] sz)) (va_Qi (fun (r : Int32) (_ : Unit) => r = p0) (fun _ t => POST dC dI [] [] (va_A [(gx, .inr (11, [.ref gq1, .ref gq4, .ref gq13, .ref gq136, .ref gq137, .ref gq138, .ref gq172, .ref gq184, .ref gq150, .ref gq161, .int (-1)])), (gq1, .inr (0, [.ref gq2, .int 0, .int 0, .int 0, .int 0, .long 0, .int 0, .int 0]))] sz) t) (va_A [(gx, .inr (11, [.ref gq1, .ref gq4, .ref gq13, .ref gq136, .ref gq137, .ref gq138, .ref gq172, .ref gq184, .ref gq150, .ref gq161, .int (-1)])), (gq1, .inr (0, [.ref gq2, .int 0, .int 0, .int 0, .int 0, .long 0, .int 0, .int 0]))] sz)) 0 0 (va_A [(gx, .inr (11, [.ref gq1, .ref gq4, .ref gq13, .ref gq136, .ref gq137, .ref gq138, .ref gq172, .ref gq184, .ref gq150, .ref gq161, .int (-1)])), (gq1, .inr (0, [.ref gq2, .int 0, .int 0, .int 0, .int 0, .long 0, .int 0, .int 0]))] sz) := by
  refine Met.ofW (cc := cX11_trim) (maxL := 2) (ret := (Option.some Jvm.ClassFile.FieldType.int)) (by decide) rfl ?_
  intro p e s m args below meth c s₁ B hml hv
  obtain ⟨rfl, hsz, hP, hK, hD0, hE⟩ := hv
  have hx := B.exec
  have hb := B.bytes
  have hr := B.returns
  have hts0 := atoms_spec (ws := wz yX11_trim cX11_trim 2 (Option.some Jvm.ClassFile.FieldType.int)) B.pre
  have hts : ∀ w ∈ gw, w.before _ s = true := fun w h => hts0 w (List.mem_cons_of_mem _ h)
  have hown : s.vm.findClass RX11 = some m.cls := findClass_of_methodNamed B.named
  have hlocks := B.notSynchronized
  subst hsz
  have hD := hD0.self (sz := s.heap.size)
  generalize hAe : va_A [(gx, .inr (11, [.ref gq1, .ref gq4, .ref gq13, .ref gq136, .ref gq137, .ref gq138, .ref gq172, .ref gq184, .ref gq150, .ref gq161, .int (-1)])), (gq1, .inr (0, [.ref gq2, .int 0, .int 0, .int 0, .int 0, .long 0, .int 0, .int 0]))] s.heap.size = A at hD hE ⊢
  have hA : ∀ q : Nat, s.heap.size ≤ q → A q := fun q h => by rw [← hAe]; exact Or.inr h
  have hS : va_S A s.heap s.heap [] := va_S.rf
  have hP : va_P (dC, dI) cls [(gx, .inr (11, [.ref gq1, .ref gq4, .ref gq13, .ref gq136, .ref gq137, .ref gq138, .ref gq172, .ref gq184, .ref gq150, .ref gq161, .int (-1)])), (gq1, .inr (0, [.ref gq2, .int 0, .int 0, .int 0, .int 0, .long 0, .int 0, .int 0]))] s.heap := hP
  have hl := lv_entry ([.ref gx, .int p0]) (n := 2) (Nat.le_of_ble_eq_true rfl)
  rw [lg_entry_eq]
  generalize (lg_sl ([.ref gx, .int p0]) ++ List.replicate (2 - (lg_sl ([.ref gx, .int p0])).length) Slot.unset).toArray = ls at hl ⊢
  have hl : lv_has ls 2 [(0, .ref gx), (1, .int p0)] := hl
  refine lv_iload_n hx hb dX11_trim_0 rfl (lv_at hl 1 rfl) ?_
  refine lv_if_lt (tgt := 15) hx hb dX11_trim_1 (by decide) (fun c => absurd c h1) (fun _ => ?_)
  refine lv_iload_n hx hb dX11_trim_4 rfl (lv_at hl 1 rfl) ?_
  refine lv_aload_n hx hb dX11_trim_5 rfl (lv_at hl 0 rfl) ?_
  refine va_get (D := (dC, dI)) (ci := 11) (v := .ref gq1) (C := RX11) (T := TX11) (N := 11) hx hb hts i_X11 hown hK hP 0 rfl rfl 0 (by decide) (hts _ qw154) (fun _ h9 => h9) rfl dX11_trim_6 ?_
  refine va_get (D := (dC, dI)) (ci := 0) (v := .int 0) (C := RX10) (T := TX10) (N := 8) hx hb hts i_X10 hown hK hP 1 rfl rfl 1 (by decide) (hts _ qw207) (fun _ h9 => h9) rfl dX11_trim_9 ?_
  refine lv_icmp_le (tgt := 25) hx hb dX11_trim_12 (by decide) (fun _ => ?_) (fun c => absurd (Int32.not_lt.mp h2) c)
  refine lv_aload_n hx hb dX11_trim_25 rfl (lv_at hl 0 rfl) ?_
  refine va_get (D := (dC, dI)) (ci := 11) (v := .ref gq1) (C := RX11) (T := TX11) (N := 11) hx hb hts i_X11 hown hK hP 0 rfl rfl 0 (by decide) (hts _ qw154) (fun _ h9 => h9) rfl dX11_trim_26 ?_
  refine lv_iload_n hx hb dX11_trim_29 rfl (lv_at hl 1 rfl) ?_
  refine va_put (D := (dC, dI)) (ci := 0) (v := .int p0) (ty := .int) (C := RX10) (T := TX10) (N := 8) hx hb hts i_X10 tyX10 tyX10_ok nmX10 hown hK hP hD hS 1 rfl rfl 1 (by decide) (hts _ qw207) (fun _ h9 => h9) rfl (by decide +kernel) rfl rfl (Nat.le_of_ble_eq_true rfl) dX11_trim_30 (fun H locs hP hD hS => ?_)
  have hP : va_P (dC, dI) cls [(gx, .inr (11, [.ref gq1, .ref gq4, .ref gq13, .ref gq136, .ref gq137, .ref gq138, .ref gq172, .ref gq184, .ref gq150, .ref gq161, .int (-1)])), (gq1, .inr (0, [.ref gq2, .int p0, .int 0, .int 0, .int 0, .long 0, .int 0, .int 0]))] H := hP
  have hD : va_D A [(gx, .inr (11, [.ref gq1, .ref gq4, .ref gq13, .ref gq136, .ref gq137, .ref gq138, .ref gq172, .ref gq184, .ref gq150, .ref gq161, .int (-1)])), (gq1, .inr (0, [.ref gq2, .int p0, .int 0, .int 0, .int 0, .long 0, .int 0, .int 0]))] := hD
  refine lv_iload_n hx hb dX11_trim_33 rfl (lv_at hl 1 rfl) ?_
  have hP9 : va_P (dC, dI) cls [] H := hP.sub [] rfl
  have hD9 : va_D A [] := hD.sub [] (by decide) rfl
  have hK9 : va_K (dC, dI) cls [] s := hK.sub [] rfl
  exact W.iret (v := p0) hx hb hr (fun t ht hW => ⟨⟨p0, (), rfl, rfl, ⟨by rw [ht]; exact hP9, va_K.moved hW.alike hK9, hD9⟩⟩, hS.F ht⟩) hS.2.2 dX11_trim_34
