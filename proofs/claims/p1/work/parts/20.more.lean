abbrev cX24_thrown : ByteArray := prog_14_method_8_code
def yX24_thrown : MethodName := ⟨RX24, "thrown", "()I"⟩
theorem dX24_thrown_0 : decode cX24_thrown 0 = .ok (.aload_n 0, 1) := by decide +kernel
theorem dX24_thrown_1 : decode cX24_thrown 1 = .ok (.getfield 52, 3) := by decide +kernel
theorem dX24_thrown_4 : decode cX24_thrown 4 = .ok (.ireturn, 1) := by decide +kernel
set_option maxHeartbeats 4000000 in
set_option maxRecDepth 100000 in
/-- GearboxModel.thrown, from the state that its caller has -/
theorem kX24_thrown_n63 {zs : Nat × Nat} (l : Launch) (dC : Nat → ClassId) (dI : Nat → Nat → Nat) (a0 : Nat) (a58 : Nat) (a60 : Nat) (a62 : Nat) (a79 : Nat) (a80 : Nat) (a81 : Nat) (sz : Nat)  : Met l yX24_thrown (wz yX24_thrown cX24_thrown 1 (Option.some Jvm.ClassFile.FieldType.int)) ({ frames := 0, cells := 0, slots := 0, locals := 0 }) (va_Pc [.ref a0] (PRE zs dC dI [(a0, .inr (15, [.ref a79, .int 20, .int (-1), .int 0, .ref a80, .ref a58, .ref a60, .ref a62, .ref a81]))] [] sz)) (va_Qi (fun (r : Int32) (_ : Unit) => r = 0) (fun _ t => POST dC dI [(a0, .inr (15, [.ref a79, .int 20, .int (-1), .int 0, .ref a80, .ref a58, .ref a60, .ref a62, .ref a81]))] [] (va_A [(a0, .inr (15, [.ref a79, .int 20, .int (-1), .int 0, .ref a80, .ref a58, .ref a60, .ref a62, .ref a81]))] sz) t) (va_A [(a0, .inr (15, [.ref a79, .int 20, .int (-1), .int 0, .ref a80, .ref a58, .ref a60, .ref a62, .ref a81]))] sz)) 0 0 (va_A [(a0, .inr (15, [.ref a79, .int 20, .int (-1), .int 0, .ref a80, .ref a58, .ref a60, .ref a62, .ref a81]))] sz) := by
  refine Met.ofW (cc := cX24_thrown) (maxL := 1) (ret := (Option.some Jvm.ClassFile.FieldType.int)) (by decide) rfl ?_
  intro p e s m args below meth c s₁ B hml hv
  obtain ⟨rfl, hsz, hP, hK, hD0, hE⟩ := hv
  have hx := B.exec
  have hb := B.bytes
  have hr := B.returns
  have hts0 := atoms_spec (ws := wz yX24_thrown cX24_thrown 1 (Option.some Jvm.ClassFile.FieldType.int)) B.pre
  have hts : ∀ w ∈ gw, w.before _ s = true := fun w h => hts0 w (List.mem_cons_of_mem _ h)
  have hown : s.vm.findClass RX24 = some m.cls := findClass_of_methodNamed B.named
  have hlocks := B.notSynchronized
  subst hsz
  have hD := hD0.self (sz := s.heap.size)
  generalize hAe : va_A [(a0, .inr (15, [.ref a79, .int 20, .int (-1), .int 0, .ref a80, .ref a58, .ref a60, .ref a62, .ref a81]))] s.heap.size = A at hD hE ⊢
  have hA : ∀ q : Nat, s.heap.size ≤ q → A q := fun q h => by rw [← hAe]; exact Or.inr h
  have hS : va_S A s.heap s.heap [] := va_S.rf
  have hP : va_P (dC, dI) cls [(a0, .inr (15, [.ref a79, .int 20, .int (-1), .int 0, .ref a80, .ref a58, .ref a60, .ref a62, .ref a81]))] s.heap := hP
  have hl := lv_entry ([.ref a0]) (n := 1) (Nat.le_of_ble_eq_true rfl)
  rw [lg_entry_eq]
  generalize (lg_sl ([.ref a0]) ++ List.replicate (1 - (lg_sl ([.ref a0])).length) Slot.unset).toArray = ls at hl ⊢
  have hl : lv_has ls 1 [(0, .ref a0)] := hl
  refine lv_aload_n hx hb dX24_thrown_0 rfl (lv_at hl 0 rfl) ?_
  refine va_get (D := (dC, dI)) (ci := 15) (v := .int 0) (C := RX24) (T := TX24) (N := 9) hx hb hts i_X24 hown hK hP 0 rfl rfl 3 (by decide) (hts _ qw428) (fun _ h9 => h9) rfl dX24_thrown_1 ?_
  have hP9 : va_P (dC, dI) cls [(a0, .inr (15, [.ref a79, .int 20, .int (-1), .int 0, .ref a80, .ref a58, .ref a60, .ref a62, .ref a81]))] s.heap := hP.sub [0] rfl
  have hD9 : va_D A [(a0, .inr (15, [.ref a79, .int 20, .int (-1), .int 0, .ref a80, .ref a58, .ref a60, .ref a62, .ref a81]))] := hD.sub [0] (by decide) rfl
  have hK9 : va_K (dC, dI) cls [] s := hK.sub [] rfl
  exact W.iret (v := 0) hx hb hr (fun t ht hW => ⟨⟨0, (), rfl, rfl, ⟨by rw [ht]; exact hP9, va_K.moved hW.alike hK9, hD9⟩⟩, hS.F ht⟩) hS.2.2 dX24_thrown_4
set_option maxHeartbeats 4000000 in
set_option maxRecDepth 100000 in
/-- GearboxModel.thrown, from the state that its caller has -/
theorem kX24_thrown_n64 {zs : Nat × Nat} (l : Launch) (dC : Nat → ClassId) (dI : Nat → Nat → Nat) (a0 : Nat) (a60 : Nat) (a62 : Nat) (a64 : Nat) (a66 : Nat) (a82 : Nat) (a83 : Nat) (sz : Nat)  : Met l yX24_thrown (wz yX24_thrown cX24_thrown 1 (Option.some Jvm.ClassFile.FieldType.int)) ({ frames := 0, cells := 0, slots := 0, locals := 0 }) (va_Pc [.ref a0] (PRE zs dC dI [(a0, .inr (15, [.ref a60, .int 0, .int (-1), .int 1, .ref a82, .ref a62, .ref a64, .ref a66, .ref a83]))] [] sz)) (va_Qi (fun (r : Int32) (_ : Unit) => r = 1) (fun _ t => POST dC dI [(a0, .inr (15, [.ref a60, .int 0, .int (-1), .int 1, .ref a82, .ref a62, .ref a64, .ref a66, .ref a83]))] [] (va_A [(a0, .inr (15, [.ref a60, .int 0, .int (-1), .int 1, .ref a82, .ref a62, .ref a64, .ref a66, .ref a83]))] sz) t) (va_A [(a0, .inr (15, [.ref a60, .int 0, .int (-1), .int 1, .ref a82, .ref a62, .ref a64, .ref a66, .ref a83]))] sz)) 0 0 (va_A [(a0, .inr (15, [.ref a60, .int 0, .int (-1), .int 1, .ref a82, .ref a62, .ref a64, .ref a66, .ref a83]))] sz) := by
  refine Met.ofW (cc := cX24_thrown) (maxL := 1) (ret := (Option.some Jvm.ClassFile.FieldType.int)) (by decide) rfl ?_
  intro p e s m args below meth c s₁ B hml hv
  obtain ⟨rfl, hsz, hP, hK, hD0, hE⟩ := hv
  have hx := B.exec
  have hb := B.bytes
  have hr := B.returns
  have hts0 := atoms_spec (ws := wz yX24_thrown cX24_thrown 1 (Option.some Jvm.ClassFile.FieldType.int)) B.pre
  have hts : ∀ w ∈ gw, w.before _ s = true := fun w h => hts0 w (List.mem_cons_of_mem _ h)
  have hown : s.vm.findClass RX24 = some m.cls := findClass_of_methodNamed B.named
  have hlocks := B.notSynchronized
  subst hsz
  have hD := hD0.self (sz := s.heap.size)
  generalize hAe : va_A [(a0, .inr (15, [.ref a60, .int 0, .int (-1), .int 1, .ref a82, .ref a62, .ref a64, .ref a66, .ref a83]))] s.heap.size = A at hD hE ⊢
  have hA : ∀ q : Nat, s.heap.size ≤ q → A q := fun q h => by rw [← hAe]; exact Or.inr h
  have hS : va_S A s.heap s.heap [] := va_S.rf
  have hP : va_P (dC, dI) cls [(a0, .inr (15, [.ref a60, .int 0, .int (-1), .int 1, .ref a82, .ref a62, .ref a64, .ref a66, .ref a83]))] s.heap := hP
  have hl := lv_entry ([.ref a0]) (n := 1) (Nat.le_of_ble_eq_true rfl)
  rw [lg_entry_eq]
  generalize (lg_sl ([.ref a0]) ++ List.replicate (1 - (lg_sl ([.ref a0])).length) Slot.unset).toArray = ls at hl ⊢
  have hl : lv_has ls 1 [(0, .ref a0)] := hl
  refine lv_aload_n hx hb dX24_thrown_0 rfl (lv_at hl 0 rfl) ?_
  refine va_get (D := (dC, dI)) (ci := 15) (v := .int 1) (C := RX24) (T := TX24) (N := 9) hx hb hts i_X24 hown hK hP 0 rfl rfl 3 (by decide) (hts _ qw428) (fun _ h9 => h9) rfl dX24_thrown_1 ?_
  have hP9 : va_P (dC, dI) cls [(a0, .inr (15, [.ref a60, .int 0, .int (-1), .int 1, .ref a82, .ref a62, .ref a64, .ref a66, .ref a83]))] s.heap := hP.sub [0] rfl
  have hD9 : va_D A [(a0, .inr (15, [.ref a60, .int 0, .int (-1), .int 1, .ref a82, .ref a62, .ref a64, .ref a66, .ref a83]))] := hD.sub [0] (by decide) rfl
  have hK9 : va_K (dC, dI) cls [] s := hK.sub [] rfl
  exact W.iret (v := 1) hx hb hr (fun t ht hW => ⟨⟨1, (), rfl, rfl, ⟨by rw [ht]; exact hP9, va_K.moved hW.alike hK9, hD9⟩⟩, hS.F ht⟩) hS.2.2 dX24_thrown_4
set_option maxHeartbeats 4000000 in
set_option maxRecDepth 100000 in
/-- GearboxModel.thrown, from the state that its caller has -/
theorem kX24_thrown_n65 {zs : Nat × Nat} (l : Launch) (dC : Nat → ClassId) (dI : Nat → Nat → Nat) (a0 : Nat) (a60 : Nat) (a62 : Nat) (a64 : Nat) (a66 : Nat) (i83 : Int32) (a84 : Nat) (a85 : Nat) (sz : Nat) (hf0 : ¬ i83 < 0) (hf1 : ¬ 0 < i83) : Met l yX24_thrown (wz yX24_thrown cX24_thrown 1 (Option.some Jvm.ClassFile.FieldType.int)) ({ frames := 0, cells := 0, slots := 0, locals := 0 }) (va_Pc [.ref a0] (PRE zs dC dI [(a0, .inr (15, [.ref a60, .int i83, .int (-1), .int 0, .ref a84, .ref a62, .ref a64, .ref a66, .ref a85]))] [] sz)) (va_Qi (fun (r : Int32) (_ : Unit) => r = 0) (fun _ t => POST dC dI [(a0, .inr (15, [.ref a60, .int i83, .int (-1), .int 0, .ref a84, .ref a62, .ref a64, .ref a66, .ref a85]))] [] (va_A [(a0, .inr (15, [.ref a60, .int i83, .int (-1), .int 0, .ref a84, .ref a62, .ref a64, .ref a66, .ref a85]))] sz) t) (va_A [(a0, .inr (15, [.ref a60, .int i83, .int (-1), .int 0, .ref a84, .ref a62, .ref a64, .ref a66, .ref a85]))] sz)) 0 0 (va_A [(a0, .inr (15, [.ref a60, .int i83, .int (-1), .int 0, .ref a84, .ref a62, .ref a64, .ref a66, .ref a85]))] sz) := by
  refine Met.ofW (cc := cX24_thrown) (maxL := 1) (ret := (Option.some Jvm.ClassFile.FieldType.int)) (by decide) rfl ?_
  intro p e s m args below meth c s₁ B hml hv
  obtain ⟨rfl, hsz, hP, hK, hD0, hE⟩ := hv
  have hx := B.exec
  have hb := B.bytes
  have hr := B.returns
  have hts0 := atoms_spec (ws := wz yX24_thrown cX24_thrown 1 (Option.some Jvm.ClassFile.FieldType.int)) B.pre
  have hts : ∀ w ∈ gw, w.before _ s = true := fun w h => hts0 w (List.mem_cons_of_mem _ h)
  have hown : s.vm.findClass RX24 = some m.cls := findClass_of_methodNamed B.named
  have hlocks := B.notSynchronized
  subst hsz
  have hD := hD0.self (sz := s.heap.size)
  generalize hAe : va_A [(a0, .inr (15, [.ref a60, .int i83, .int (-1), .int 0, .ref a84, .ref a62, .ref a64, .ref a66, .ref a85]))] s.heap.size = A at hD hE ⊢
  have hA : ∀ q : Nat, s.heap.size ≤ q → A q := fun q h => by rw [← hAe]; exact Or.inr h
  have hS : va_S A s.heap s.heap [] := va_S.rf
  have hP : va_P (dC, dI) cls [(a0, .inr (15, [.ref a60, .int i83, .int (-1), .int 0, .ref a84, .ref a62, .ref a64, .ref a66, .ref a85]))] s.heap := hP
  have hl := lv_entry ([.ref a0]) (n := 1) (Nat.le_of_ble_eq_true rfl)
  rw [lg_entry_eq]
  generalize (lg_sl ([.ref a0]) ++ List.replicate (1 - (lg_sl ([.ref a0])).length) Slot.unset).toArray = ls at hl ⊢
  have hl : lv_has ls 1 [(0, .ref a0)] := hl
  refine lv_aload_n hx hb dX24_thrown_0 rfl (lv_at hl 0 rfl) ?_
  refine va_get (D := (dC, dI)) (ci := 15) (v := .int 0) (C := RX24) (T := TX24) (N := 9) hx hb hts i_X24 hown hK hP 0 rfl rfl 3 (by decide) (hts _ qw428) (fun _ h9 => h9) rfl dX24_thrown_1 ?_
  have hP9 : va_P (dC, dI) cls [(a0, .inr (15, [.ref a60, .int i83, .int (-1), .int 0, .ref a84, .ref a62, .ref a64, .ref a66, .ref a85]))] s.heap := hP.sub [0] rfl
  have hD9 : va_D A [(a0, .inr (15, [.ref a60, .int i83, .int (-1), .int 0, .ref a84, .ref a62, .ref a64, .ref a66, .ref a85]))] := hD.sub [0] (by decide) rfl
  have hK9 : va_K (dC, dI) cls [] s := hK.sub [] rfl
  exact W.iret (v := 0) hx hb hr (fun t ht hW => ⟨⟨0, (), rfl, rfl, ⟨by rw [ht]; exact hP9, va_K.moved hW.alike hK9, hD9⟩⟩, hS.F ht⟩) hS.2.2 dX24_thrown_4
set_option maxHeartbeats 4000000 in
set_option maxRecDepth 100000 in
/-- GearboxModel.thrown, from the state that its caller has -/
theorem kX24_thrown_n66 {zs : Nat × Nat} (l : Launch) (dC : Nat → ClassId) (dI : Nat → Nat → Nat) (a0 : Nat) (a50 : Nat) (a52 : Nat) (a54 : Nat) (a70 : Nat) (a71 : Nat) (a72 : Nat) (sz : Nat)  : Met l yX24_thrown (wz yX24_thrown cX24_thrown 1 (Option.some Jvm.ClassFile.FieldType.int)) ({ frames := 0, cells := 0, slots := 0, locals := 0 }) (va_Pc [.ref a0] (PRE zs dC dI [(a0, .inr (15, [.ref a50, .int 0, .int (-1), .int 2, .ref a70, .ref a71, .ref a52, .ref a54, .ref a72]))] [] sz)) (va_Qi (fun (r : Int32) (_ : Unit) => r = 2) (fun _ t => POST dC dI [(a0, .inr (15, [.ref a50, .int 0, .int (-1), .int 2, .ref a70, .ref a71, .ref a52, .ref a54, .ref a72]))] [] (va_A [(a0, .inr (15, [.ref a50, .int 0, .int (-1), .int 2, .ref a70, .ref a71, .ref a52, .ref a54, .ref a72]))] sz) t) (va_A [(a0, .inr (15, [.ref a50, .int 0, .int (-1), .int 2, .ref a70, .ref a71, .ref a52, .ref a54, .ref a72]))] sz)) 0 0 (va_A [(a0, .inr (15, [.ref a50, .int 0, .int (-1), .int 2, .ref a70, .ref a71, .ref a52, .ref a54, .ref a72]))] sz) := by
  refine Met.ofW (cc := cX24_thrown) (maxL := 1) (ret := (Option.some Jvm.ClassFile.FieldType.int)) (by decide) rfl ?_
  intro p e s m args below meth c s₁ B hml hv
  obtain ⟨rfl, hsz, hP, hK, hD0, hE⟩ := hv
  have hx := B.exec
  have hb := B.bytes
  have hr := B.returns
  have hts0 := atoms_spec (ws := wz yX24_thrown cX24_thrown 1 (Option.some Jvm.ClassFile.FieldType.int)) B.pre
  have hts : ∀ w ∈ gw, w.before _ s = true := fun w h => hts0 w (List.mem_cons_of_mem _ h)
  have hown : s.vm.findClass RX24 = some m.cls := findClass_of_methodNamed B.named
  have hlocks := B.notSynchronized
  subst hsz
  have hD := hD0.self (sz := s.heap.size)
  generalize hAe : va_A [(a0, .inr (15, [.ref a50, .int 0, .int (-1), .int 2, .ref a70, .ref a71, .ref a52, .ref a54, .ref a72]))] s.heap.size = A at hD hE ⊢
  have hA : ∀ q : Nat, s.heap.size ≤ q → A q := fun q h => by rw [← hAe]; exact Or.inr h
  have hS : va_S A s.heap s.heap [] := va_S.rf
  have hP : va_P (dC, dI) cls [(a0, .inr (15, [.ref a50, .int 0, .int (-1), .int 2, .ref a70, .ref a71, .ref a52, .ref a54, .ref a72]))] s.heap := hP
  have hl := lv_entry ([.ref a0]) (n := 1) (Nat.le_of_ble_eq_true rfl)
  rw [lg_entry_eq]
  generalize (lg_sl ([.ref a0]) ++ List.replicate (1 - (lg_sl ([.ref a0])).length) Slot.unset).toArray = ls at hl ⊢
  have hl : lv_has ls 1 [(0, .ref a0)] := hl
  refine lv_aload_n hx hb dX24_thrown_0 rfl (lv_at hl 0 rfl) ?_
  refine va_get (D := (dC, dI)) (ci := 15) (v := .int 2) (C := RX24) (T := TX24) (N := 9) hx hb hts i_X24 hown hK hP 0 rfl rfl 3 (by decide) (hts _ qw428) (fun _ h9 => h9) rfl dX24_thrown_1 ?_
  have hP9 : va_P (dC, dI) cls [(a0, .inr (15, [.ref a50, .int 0, .int (-1), .int 2, .ref a70, .ref a71, .ref a52, .ref a54, .ref a72]))] s.heap := hP.sub [0] rfl
  have hD9 : va_D A [(a0, .inr (15, [.ref a50, .int 0, .int (-1), .int 2, .ref a70, .ref a71, .ref a52, .ref a54, .ref a72]))] := hD.sub [0] (by decide) rfl
  have hK9 : va_K (dC, dI) cls [] s := hK.sub [] rfl
  exact W.iret (v := 2) hx hb hr (fun t ht hW => ⟨⟨2, (), rfl, rfl, ⟨by rw [ht]; exact hP9, va_K.moved hW.alike hK9, hD9⟩⟩, hS.F ht⟩) hS.2.2 dX24_thrown_4
