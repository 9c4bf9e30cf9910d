set_option maxHeartbeats 4000000 in
set_option maxRecDepth 100000 in
theorem kX10_init (l : Launch) (dC : Nat → ClassId) (dI : Nat → Nat → Nat) (h0 : Nat) (sz : Nat)  : Met l yX10_init (wz yX10_init cX10_init 1 (Option.none : Option Jvm.ClassFile.FieldType)) ({ frames := 1, cells := 1, slots := 1200, locals := 12 }) (va_Pc [.ref h0] (PRE dC dI [(h0, .inr (0, [.null, .int 0, .int 0, .int 0, .int 0, .long 0, .int 0, .int 0]))] [] sz)) (va_Qv (fun (_ : Unit) => True) (fun _ t => ∃ (q1 : Nat), ∃ (c2 : ClassId), POST dC dI [(h0, .inr (0, [.ref q1, .int 0, .int 0, .int 0, .int 0, .long 0, .int 0, .int 0])), (q1, .inl (c2, 1200, .inl (fun _ => 0)))] [(c2, .int)] (va_A [(h0, .inr (0, [.null, .int 0, .int 0, .int 0, .int 0, .long 0, .int 0, .int 0]))] sz) t) (va_A [(h0, .inr (0, [.null, .int 0, .int 0, .int 0, .int 0, .long 0, .int 0, .int 0]))] sz)) 1 1200 (va_A [(h0, .inr (0, [.null, .int 0, .int 0, .int 0, .int 0, .long 0, .int 0, .int 0]))] sz) := by
  refine Met.ofW (cc := cX10_init) (maxL := 1) (ret := (Option.none : Option Jvm.ClassFile.FieldType)) (by decide) rfl ?_
  intro p e s m args below meth c s₁ B hml hv
  obtain ⟨rfl, hsz, hP, hK, hD0, hE⟩ := hv
  have hx := B.exec
  have hb := B.bytes
  have hr := B.returns
  have hts0 := atoms_spec (ws := wz yX10_init cX10_init 1 (Option.none : Option Jvm.ClassFile.FieldType)) B.pre
  have hts : ∀ w ∈ gw, w.before _ s = true := fun w h => hts0 w (List.mem_cons_of_mem _ h)
  have hown : s.vm.findClass RX10 = some m.cls := findClass_of_methodNamed B.named
  have hlocks := B.notSynchronized
  have hin : meth.name = "<init>" := (name_of_methodNamed B.named B.method).1
  subst hsz
  have hD := hD0.self (sz := s.heap.size)
  generalize hAe : va_A [(h0, .inr (0, [.null, .int 0, .int 0, .int 0, .int 0, .long 0, .int 0, .int 0]))] s.heap.size = A at hD hE ⊢
  have hA : ∀ q : Nat, s.heap.size ≤ q → A q := fun q h => by rw [← hAe]; exact Or.inr h
  have hS : va_S A s.heap s.heap [] := va_S.rf
  have hP : va_P (dC, dI) cls [(h0, .inr (0, [.null, .int 0, .int 0, .int 0, .int 0, .long 0, .int 0, .int 0]))] s.heap := hP
  have hl := lv_entry ([.ref h0]) (n := 1) (Nat.le_of_ble_eq_true rfl)
  rw [lg_entry_eq]
  generalize (lg_sl ([.ref h0]) ++ List.replicate (1 - (lg_sl ([.ref h0])).length) Slot.unset).toArray = ls at hl ⊢
  have hl : lv_has ls 1 [(0, .ref h0)] := hl
  refine lv_aload_n hx hb dX10_init_0 rfl (lv_at hl 0 rfl) ?_
  refine W.objInit hx hb hown (hts _ qw0) (hts _ qw1) (hts _ qw_oi) rfl (by rw [hml]; exact hl.1) rfl dX10_init_1 (Nat.le_of_ble_eq_true rfl) (Nat.le_of_ble_eq_true rfl) ?_
  refine W.eq (g2 := F0 m 4 ls []) rfl ?_
  refine lv_aload_n hx hb dX10_init_4 rfl (lv_at hl 0 rfl) ?_
  refine lv_sipush (v := 1200) hx hb dX10_init_5 (by decide) ?_
  refine va_newa (atype := .int) (ty := .int) hx hb (hts _ qw2) rfl hK hP hD hS hA (a0 := (1200, .inl (fun _ => 0))) (fun _ => rfl) (by decide) (by decide +kernel) (Nat.le_of_ble_eq_true rfl) (Nat.le_of_ble_eq_true rfl) (Nat.le_of_ble_eq_true rfl) dX10_init_8 (fun q1 c2 H hK hP hD hS => ?_)
  have hP : va_P (dC, dI) cls [(h0, .inr (0, [.null, .int 0, .int 0, .int 0, .int 0, .long 0, .int 0, .int 0])), (q1, .inl (c2, 1200, .inl (fun _ => 0)))] H := hP
  have hD : va_D A [(h0, .inr (0, [.null, .int 0, .int 0, .int 0, .int 0, .long 0, .int 0, .int 0])), (q1, .inl (c2, 1200, .inl (fun _ => 0)))] := hD
  have hK : va_K (dC, dI) cls [(c2, .int)] s := hK
  refine W.widen (k := 1) (n := 1200) (Nat.le_of_ble_eq_true rfl) (Nat.le_of_ble_eq_true rfl) ?_
  refine va_putF (D := (dC, dI)) (ci := 0) (v := .ref q1) (ty := .array .int) (C := RX10) (T := TX10) (N := 8) hx hb hts i_X10 tyX10 tyX10_ok nmX10 hown hK hP hD hS 0 rfl rfl 0 (by decide) (hts _ qw3) (fun _ h9 => h9) rfl hin rfl (by decide +kernel) rfl rfl (Nat.le_of_ble_eq_true rfl) dX10_init_10 (fun H locs hP hD hS => ?_)
  have hP : va_P (dC, dI) cls [(h0, .inr (0, [.ref q1, .int 0, .int 0, .int 0, .int 0, .long 0, .int 0, .int 0])), (q1, .inl (c2, 1200, .inl (fun _ => 0)))] H := hP
  have hD : va_D A [(h0, .inr (0, [.ref q1, .int 0, .int 0, .int 0, .int 0, .long 0, .int 0, .int 0])), (q1, .inl (c2, 1200, .inl (fun _ => 0)))] := hD
  have hP9 : va_P (dC, dI) cls [(h0, .inr (0, [.ref q1, .int 0, .int 0, .int 0, .int 0, .long 0, .int 0, .int 0])), (q1, .inl (c2, 1200, .inl (fun _ => 0)))] H := hP.sub [0, 1] rfl
  have hD9 : va_D A [(h0, .inr (0, [.ref q1, .int 0, .int 0, .int 0, .int 0, .long 0, .int 0, .int 0])), (q1, .inl (c2, 1200, .inl (fun _ => 0)))] := hD.sub [0, 1] (by decide) rfl
  have hK9 : va_K (dC, dI) cls [(c2, .int)] s := hK.sub [0] rfl
  exact W.vret hx hb hr (fun t ht hW => ⟨⟨(), rfl, trivial, ⟨q1, c2, ⟨by rw [ht]; exact hP9, va_K.moved hW.alike hK9, hD9⟩⟩⟩, hS.F ht⟩) hS.2.2 dX10_init_13
set_option maxHeartbeats 4000000 in
set_option maxRecDepth 100000 in
theorem kX6_init (l : Launch) (dC : Nat → ClassId) (dI : Nat → Nat → Nat) (h0 : Nat) (sz : Nat)  : Met l yX6_init (wz yX6_init cX6_init 1 (Option.none : Option Jvm.ClassFile.FieldType)) ({ frames := 1, cells := 10, slots := 10276, locals := 12 }) (va_Pc [.ref h0] (PRE dC dI [(h0, .inr (2, [.int 0, .null, .null, .null, .null, .null, .null, .int 0, .null, .null, .null, .int 0, .null]))] [] sz)) (va_Qv (fun (_ : Unit) => True) (fun _ t => ∃ (q1 : Nat), ∃ (q3 : Nat), ∃ (q5 : Nat), ∃ (q7 : Nat), ∃ (q9 : Nat), ∃ (q11 : Nat), ∃ (q13 : Nat), ∃ (q15 : Nat), ∃ (q17 : Nat), ∃ (q19 : Nat), POST dC dI [(h0, .inr (2, [.int 0, .ref q1, .ref q3, .ref q5, .ref q7, .ref q9, .ref q11, .int 0, .ref q13, .ref q15, .ref q17, .int 0, .ref q19]))] [] (va_A [(h0, .inr (2, [.int 0, .null, .null, .null, .null, .null, .null, .int 0, .null, .null, .null, .int 0, .null]))] sz) t) (va_A [(h0, .inr (2, [.int 0, .null, .null, .null, .null, .null, .null, .int 0, .null, .null, .null, .int 0, .null]))] sz)) 10 10276 (va_A [(h0, .inr (2, [.int 0, .null, .null, .null, .null, .null, .null, .int 0, .null, .null, .null, .int 0, .null]))] sz) := by
  refine Met.ofW (cc := cX6_init) (maxL := 1) (ret := (Option.none : Option Jvm.ClassFile.FieldType)) (by decide) rfl ?_
  intro p e s m args below meth c s₁ B hml hv
  obtain ⟨rfl, hsz, hP, hK, hD0, hE⟩ := hv
  have hx := B.exec
  have hb := B.bytes
  have hr := B.returns
  have hts0 := atoms_spec (ws := wz yX6_init cX6_init 1 (Option.none : Option Jvm.ClassFile.FieldType)) B.pre
  have hts : ∀ w ∈ gw, w.before _ s = true := fun w h => hts0 w (List.mem_cons_of_mem _ h)
  have hown : s.vm.findClass RX6 = some m.cls := findClass_of_methodNamed B.named
  have hlocks := B.notSynchronized
  have hin : meth.name = "<init>" := (name_of_methodNamed B.named B.method).1
  subst hsz
  have hD := hD0.self (sz := s.heap.size)
  generalize hAe : va_A [(h0, .inr (2, [.int 0, .null, .null, .null, .null, .null, .null, .int 0, .null, .null, .null, .int 0, .null]))] s.heap.size = A at hD hE ⊢
  have hA : ∀ q : Nat, s.heap.size ≤ q → A q := fun q h => by rw [← hAe]; exact Or.inr h
  have hS : va_S A s.heap s.heap [] := va_S.rf
  have hP : va_P (dC, dI) cls [(h0, .inr (2, [.int 0, .null, .null, .null, .null, .null, .null, .int 0, .null, .null, .null, .int 0, .null]))] s.heap := hP
  have hl := lv_entry ([.ref h0]) (n := 1) (Nat.le_of_ble_eq_true rfl)
  rw [lg_entry_eq]
  generalize (lg_sl ([.ref h0]) ++ List.replicate (1 - (lg_sl ([.ref h0])).length) Slot.unset).toArray = ls at hl ⊢
  have hl : lv_has ls 1 [(0, .ref h0)] := hl
  refine lv_aload_n hx hb dX6_init_0 rfl (lv_at hl 0 rfl) ?_
  refine W.objInit hx hb hown (hts _ qw4) (hts _ qw1) (hts _ qw_oi) rfl (by rw [hml]; exact hl.1) rfl dX6_init_1 (Nat.le_of_ble_eq_true rfl) (Nat.le_of_ble_eq_true rfl) ?_
  refine W.eq (g2 := F0 m 4 ls []) rfl ?_
  refine lv_aload_n hx hb dX6_init_4 rfl (lv_at hl 0 rfl) ?_
  refine lv_bipush (v := 6) hx hb dX6_init_5 (by decide) ?_
  refine va_newa (atype := .long) (ty := .long) hx hb (hts _ qw5) rfl hK hP hD hS hA (a0 := (6, .inr <| .inl (fun _ => 0))) (fun _ => rfl) (by decide) (by decide +kernel) (Nat.le_of_ble_eq_true rfl) (Nat.le_of_ble_eq_true rfl) (Nat.le_of_ble_eq_true rfl) dX6_init_7 (fun q1 c2 H hK hP hD hS => ?_)
  have hP : va_P (dC, dI) cls [(h0, .inr (2, [.int 0, .null, .null, .null, .null, .null, .null, .int 0, .null, .null, .null, .int 0, .null])), (q1, .inl (c2, 6, .inr (.inl (fun _ => 0))))] H := hP
  have hD : va_D A [(h0, .inr (2, [.int 0, .null, .null, .null, .null, .null, .null, .int 0, .null, .null, .null, .int 0, .null])), (q1, .inl (c2, 6, .inr (.inl (fun _ => 0))))] := hD
  have hK : va_K (dC, dI) cls [(c2, .long)] s := hK
  have hP : va_P (dC, dI) cls [(h0, .inr (2, [.int 0, .null, .null, .null, .null, .null, .null, .int 0, .null, .null, .null, .int 0, .null]))] H := hP.sub [0] rfl
  have hD : va_D A [(h0, .inr (2, [.int 0, .null, .null, .null, .null, .null, .null, .int 0, .null, .null, .null, .int 0, .null]))] := hD.sub [0] (by decide) rfl
  have hK : va_K (dC, dI) cls [] s := hK.sub [] rfl
  refine W.widen (k := 1) (n := 6) (Nat.le_of_ble_eq_true rfl) (Nat.le_of_ble_eq_true rfl) ?_
  refine va_putF (D := (dC, dI)) (ci := 2) (v := .ref q1) (ty := .array .long) (C := RX6) (T := TX6) (N := 13) hx hb hts i_X6 tyX6 tyX6_ok nmX6 hown hK hP hD hS 0 rfl rfl 1 (by decide) (hts _ qw6) (fun _ h9 => h9) rfl hin rfl (by decide +kernel) rfl rfl (Nat.le_of_ble_eq_true rfl) dX6_init_9 (fun H locs hP hD hS => ?_)
  have hP : va_P (dC, dI) cls [(h0, .inr (2, [.int 0, .ref q1, .null, .null, .null, .null, .null, .int 0, .null, .null, .null, .int 0, .null]))] H := hP
  have hD : va_D A [(h0, .inr (2, [.int 0, .ref q1, .null, .null, .null, .null, .null, .int 0, .null, .null, .null, .int 0, .null]))] := hD
  refine lv_aload_n hx hb dX6_init_12 rfl (lv_at hl 0 rfl) ?_
  refine lv_bipush (v := 6) hx hb dX6_init_13 (by decide) ?_
  refine va_newa (atype := .int) (ty := .int) hx hb (hts _ qw2) rfl hK hP hD hS hA (a0 := (6, .inl (fun _ => 0))) (fun _ => rfl) (by decide) (by decide +kernel) (Nat.le_of_ble_eq_true rfl) (Nat.le_of_ble_eq_true rfl) (Nat.le_of_ble_eq_true rfl) dX6_init_15 (fun q3 c4 H hK hP hD hS => ?_)
  have hP : va_P (dC, dI) cls [(h0, .inr (2, [.int 0, .ref q1, .null, .null, .null, .null, .null, .int 0, .null, .null, .null, .int 0, .null])), (q3, .inl (c4, 6, .inl (fun _ => 0)))] H := hP
  have hD : va_D A [(h0, .inr (2, [.int 0, .ref q1, .null, .null, .null, .null, .null, .int 0, .null, .null, .null, .int 0, .null])), (q3, .inl (c4, 6, .inl (fun _ => 0)))] := hD
  have hK : va_K (dC, dI) cls [(c4, .int)] s := hK
  have hP : va_P (dC, dI) cls [(h0, .inr (2, [.int 0, .ref q1, .null, .null, .null, .null, .null, .int 0, .null, .null, .null, .int 0, .null]))] H := hP.sub [0] rfl
  have hD : va_D A [(h0, .inr (2, [.int 0, .ref q1, .null, .null, .null, .null, .null, .int 0, .null, .null, .null, .int 0, .null]))] := hD.sub [0] (by decide) rfl
  have hK : va_K (dC, dI) cls [] s := hK.sub [] rfl
  refine W.widen (k := 2) (n := 12) (Nat.le_of_ble_eq_true rfl) (Nat.le_of_ble_eq_true rfl) ?_
  refine va_putF (D := (dC, dI)) (ci := 2) (v := .ref q3) (ty := .array .int) (C := RX6) (T := TX6) (N := 13) hx hb hts i_X6 tyX6 tyX6_ok nmX6 hown hK hP hD hS 0 rfl rfl 2 (by decide) (hts _ qw7) (fun _ h9 => h9) rfl hin rfl (by decide +kernel) rfl rfl (Nat.le_of_ble_eq_true rfl) dX6_init_17 (fun H locs hP hD hS => ?_)
  have hP : va_P (dC, dI) cls [(h0, .inr (2, [.int 0, .ref q1, .ref q3, .null, .null, .null, .null, .int 0, .null, .null, .null, .int 0, .null]))] H := hP
  have hD : va_D A [(h0, .inr (2, [.int 0, .ref q1, .ref q3, .null, .null, .null, .null, .int 0, .null, .null, .null, .int 0, .null]))] := hD
  refine lv_aload_n hx hb dX6_init_20 rfl (lv_at hl 0 rfl) ?_
  refine lv_bipush (v := 6) hx hb dX6_init_21 (by decide) ?_
  refine va_newa (atype := .int) (ty := .int) hx hb (hts _ qw2) rfl hK hP hD hS hA (a0 := (6, .inl (fun _ => 0))) (fun _ => rfl) (by decide) (by decide +kernel) (Nat.le_of_ble_eq_true rfl) (Nat.le_of_ble_eq_true rfl) (Nat.le_of_ble_eq_true rfl) dX6_init_23 (fun q5 c6 H hK hP hD hS => ?_)
  have hP : va_P (dC, dI) cls [(h0, .inr (2, [.int 0, .ref q1, .ref q3, .null, .null, .null, .null, .int 0, .null, .null, .null, .int 0, .null])), (q5, .inl (c6, 6, .inl (fun _ => 0)))] H := hP
  have hD : va_D A [(h0, .inr (2, [.int 0, .ref q1, .ref q3, .null, .null, .null, .null, .int 0, .null, .null, .null, .int 0, .null])), (q5, .inl (c6, 6, .inl (fun _ => 0)))] := hD
  have hK : va_K (dC, dI) cls [(c6, .int)] s := hK
  have hP : va_P (dC, dI) cls [(h0, .inr (2, [.int 0, .ref q1, .ref q3, .null, .null, .null, .null, .int 0, .null, .null, .null, .int 0, .null]))] H := hP.sub [0] rfl
  have hD : va_D A [(h0, .inr (2, [.int 0, .ref q1, .ref q3, .null, .null, .null, .null, .int 0, .null, .null, .null, .int 0, .null]))] := hD.sub [0] (by decide) rfl
  have hK : va_K (dC, dI) cls [] s := hK.sub [] rfl
  refine W.widen (k := 3) (n := 18) (Nat.le_of_ble_eq_true rfl) (Nat.le_of_ble_eq_true rfl) ?_
  refine va_putF (D := (dC, dI)) (ci := 2) (v := .ref q5) (ty := .array .int) (C := RX6) (T := TX6) (N := 13) hx hb hts i_X6 tyX6 tyX6_ok nmX6 hown hK hP hD hS 0 rfl rfl 3 (by decide) (hts _ qw8) (fun _ h9 => h9) rfl hin rfl (by decide +kernel) rfl rfl (Nat.le_of_ble_eq_true rfl) dX6_init_25 (fun H locs hP hD hS => ?_)
  have hP : va_P (dC, dI) cls [(h0, .inr (2, [.int 0, .ref q1, .ref q3, .ref q5, .null, .null, .null, .int 0, .null, .null, .null, .int 0, .null]))] H := hP
  have hD : va_D A [(h0, .inr (2, [.int 0, .ref q1, .ref q3, .ref q5, .null, .null, .null, .int 0, .null, .null, .null, .int 0, .null]))] := hD
  refine lv_aload_n hx hb dX6_init_28 rfl (lv_at hl 0 rfl) ?_
  refine lv_bipush (v := 6) hx hb dX6_init_29 (by decide) ?_
  refine va_newa (atype := .int) (ty := .int) hx hb (hts _ qw2) rfl hK hP hD hS hA (a0 := (6, .inl (fun _ => 0))) (fun _ => rfl) (by decide) (by decide +kernel) (Nat.le_of_ble_eq_true rfl) (Nat.le_of_ble_eq_true rfl) (Nat.le_of_ble_eq_true rfl) dX6_init_31 (fun q7 c8 H hK hP hD hS => ?_)
  have hP : va_P (dC, dI) cls [(h0, .inr (2, [.int 0, .ref q1, .ref q3, .ref q5, .null, .null, .null, .int 0, .null, .null, .null, .int 0, .null])), (q7, .inl (c8, 6, .inl (fun _ => 0)))] H := hP
  have hD : va_D A [(h0, .inr (2, [.int 0, .ref q1, .ref q3, .ref q5, .null, .null, .null, .int 0, .null, .null, .null, .int 0, .null])), (q7, .inl (c8, 6, .inl (fun _ => 0)))] := hD
  have hK : va_K (dC, dI) cls [(c8, .int)] s := hK
  have hP : va_P (dC, dI) cls [(h0, .inr (2, [.int 0, .ref q1, .ref q3, .ref q5, .null, .null, .null, .int 0, .null, .null, .null, .int 0, .null]))] H := hP.sub [0] rfl
  have hD : va_D A [(h0, .inr (2, [.int 0, .ref q1, .ref q3, .ref q5, .null, .null, .null, .int 0, .null, .null, .null, .int 0, .null]))] := hD.sub [0] (by decide) rfl
  have hK : va_K (dC, dI) cls [] s := hK.sub [] rfl
  refine W.widen (k := 4) (n := 24) (Nat.le_of_ble_eq_true rfl) (Nat.le_of_ble_eq_true rfl) ?_
  refine va_putF (D := (dC, dI)) (ci := 2) (v := .ref q7) (ty := .array .int) (C := RX6) (T := TX6) (N := 13) hx hb hts i_X6 tyX6 tyX6_ok nmX6 hown hK hP hD hS 0 rfl rfl 4 (by decide) (hts _ qw9) (fun _ h9 => h9) rfl hin rfl (by decide +kernel) rfl rfl (Nat.le_of_ble_eq_true rfl) dX6_init_33 (fun H locs hP hD hS => ?_)
  have hP : va_P (dC, dI) cls [(h0, .inr (2, [.int 0, .ref q1, .ref q3, .ref q5, .ref q7, .null, .null, .int 0, .null, .null, .null, .int 0, .null]))] H := hP
  have hD : va_D A [(h0, .inr (2, [.int 0, .ref q1, .ref q3, .ref q5, .ref q7, .null, .null, .int 0, .null, .null, .null, .int 0, .null]))] := hD
  refine lv_aload_n hx hb dX6_init_36 rfl (lv_at hl 0 rfl) ?_
  refine lv_bipush (v := 6) hx hb dX6_init_37 (by decide) ?_
  refine va_newa (atype := .int) (ty := .int) hx hb (hts _ qw2) rfl hK hP hD hS hA (a0 := (6, .inl (fun _ => 0))) (fun _ => rfl) (by decide) (by decide +kernel) (Nat.le_of_ble_eq_true rfl) (Nat.le_of_ble_eq_true rfl) (Nat.le_of_ble_eq_true rfl) dX6_init_39 (fun q9 c10 H hK hP hD hS => ?_)
  have hP : va_P (dC, dI) cls [(h0, .inr (2, [.int 0, .ref q1, .ref q3, .ref q5, .ref q7, .null, .null, .int 0, .null, .null, .null, .int 0, .null])), (q9, .inl (c10, 6, .inl (fun _ => 0)))] H := hP
  have hD : va_D A [(h0, .inr (2, [.int 0, .ref q1, .ref q3, .ref q5, .ref q7, .null, .null, .int 0, .null, .null, .null, .int 0, .null])), (q9, .inl (c10, 6, .inl (fun _ => 0)))] := hD
  have hK : va_K (dC, dI) cls [(c10, .int)] s := hK
  have hP : va_P (dC, dI) cls [(h0, .inr (2, [.int 0, .ref q1, .ref q3, .ref q5, .ref q7, .null, .null, .int 0, .null, .null, .null, .int 0, .null]))] H := hP.sub [0] rfl
  have hD : va_D A [(h0, .inr (2, [.int 0, .ref q1, .ref q3, .ref q5, .ref q7, .null, .null, .int 0, .null, .null, .null, .int 0, .null]))] := hD.sub [0] (by decide) rfl
  have hK : va_K (dC, dI) cls [] s := hK.sub [] rfl
  refine W.widen (k := 5) (n := 30) (Nat.le_of_ble_eq_true rfl) (Nat.le_of_ble_eq_true rfl) ?_
  refine va_putF (D := (dC, dI)) (ci := 2) (v := .ref q9) (ty := .array .int) (C := RX6) (T := TX6) (N := 13) hx hb hts i_X6 tyX6 tyX6_ok nmX6 hown hK hP hD hS 0 rfl rfl 5 (by decide) (hts _ qw10) (fun _ h9 => h9) rfl hin rfl (by decide +kernel) rfl rfl (Nat.le_of_ble_eq_true rfl) dX6_init_41 (fun H locs hP hD hS => ?_)
  have hP : va_P (dC, dI) cls [(h0, .inr (2, [.int 0, .ref q1, .ref q3, .ref q5, .ref q7, .ref q9, .null, .int 0, .null, .null, .null, .int 0, .null]))] H := hP
  have hD : va_D A [(h0, .inr (2, [.int 0, .ref q1, .ref q3, .ref q5, .ref q7, .ref q9, .null, .int 0, .null, .null, .null, .int 0, .null]))] := hD
  refine lv_aload_n hx hb dX6_init_44 rfl (lv_at hl 0 rfl) ?_
  refine lv_bipush (v := 6) hx hb dX6_init_45 (by decide) ?_
  refine va_newa (atype := .int) (ty := .int) hx hb (hts _ qw2) rfl hK hP hD hS hA (a0 := (6, .inl (fun _ => 0))) (fun _ => rfl) (by decide) (by decide +kernel) (Nat.le_of_ble_eq_true rfl) (Nat.le_of_ble_eq_true rfl) (Nat.le_of_ble_eq_true rfl) dX6_init_47 (fun q11 c12 H hK hP hD hS => ?_)
  have hP : va_P (dC, dI) cls [(h0, .inr (2, [.int 0, .ref q1, .ref q3, .ref q5, .ref q7, .ref q9, .null, .int 0, .null, .null, .null, .int 0, .null])), (q11, .inl (c12, 6, .inl (fun _ => 0)))] H := hP
  have hD : va_D A [(h0, .inr (2, [.int 0, .ref q1, .ref q3, .ref q5, .ref q7, .ref q9, .null, .int 0, .null, .null, .null, .int 0, .null])), (q11, .inl (c12, 6, .inl (fun _ => 0)))] := hD
  have hK : va_K (dC, dI) cls [(c12, .int)] s := hK
  have hP : va_P (dC, dI) cls [(h0, .inr (2, [.int 0, .ref q1, .ref q3, .ref q5, .ref q7, .ref q9, .null, .int 0, .null, .null, .null, .int 0, .null]))] H := hP.sub [0] rfl
  have hD : va_D A [(h0, .inr (2, [.int 0, .ref q1, .ref q3, .ref q5, .ref q7, .ref q9, .null, .int 0, .null, .null, .null, .int 0, .null]))] := hD.sub [0] (by decide) rfl
  have hK : va_K (dC, dI) cls [] s := hK.sub [] rfl
  refine W.widen (k := 6) (n := 36) (Nat.le_of_ble_eq_true rfl) (Nat.le_of_ble_eq_true rfl) ?_
  refine va_putF (D := (dC, dI)) (ci := 2) (v := .ref q11) (ty := .array .int) (C := RX6) (T := TX6) (N := 13) hx hb hts i_X6 tyX6 tyX6_ok nmX6 hown hK hP hD hS 0 rfl rfl 6 (by decide) (hts _ qw11) (fun _ h9 => h9) rfl hin rfl (by decide +kernel) rfl rfl (Nat.le_of_ble_eq_true rfl) dX6_init_49 (fun H locs hP hD hS => ?_)
  have hP : va_P (dC, dI) cls [(h0, .inr (2, [.int 0, .ref q1, .ref q3, .ref q5, .ref q7, .ref q9, .ref q11, .int 0, .null, .null, .null, .int 0, .null]))] H := hP
  have hD : va_D A [(h0, .inr (2, [.int 0, .ref q1, .ref q3, .ref q5, .ref q7, .ref q9, .ref q11, .int 0, .null, .null, .null, .int 0, .null]))] := hD
  refine lv_aload_n hx hb dX6_init_52 rfl (lv_at hl 0 rfl) ?_
  refine lv_sipush (v := 3200) hx hb dX6_init_53 (by decide) ?_
  refine va_newa (atype := .int) (ty := .int) hx hb (hts _ qw2) rfl hK hP hD hS hA (a0 := (3200, .inl (fun _ => 0))) (fun _ => rfl) (by decide) (by decide +kernel) (Nat.le_of_ble_eq_true rfl) (Nat.le_of_ble_eq_true rfl) (Nat.le_of_ble_eq_true rfl) dX6_init_56 (fun q13 c14 H hK hP hD hS => ?_)
  have hP : va_P (dC, dI) cls [(h0, .inr (2, [.int 0, .ref q1, .ref q3, .ref q5, .ref q7, .ref q9, .ref q11, .int 0, .null, .null, .null, .int 0, .null])), (q13, .inl (c14, 3200, .inl (fun _ => 0)))] H := hP
  have hD : va_D A [(h0, .inr (2, [.int 0, .ref q1, .ref q3, .ref q5, .ref q7, .ref q9, .ref q11, .int 0, .null, .null, .null, .int 0, .null])), (q13, .inl (c14, 3200, .inl (fun _ => 0)))] := hD
  have hK : va_K (dC, dI) cls [(c14, .int)] s := hK
  have hP : va_P (dC, dI) cls [(h0, .inr (2, [.int 0, .ref q1, .ref q3, .ref q5, .ref q7, .ref q9, .ref q11, .int 0, .null, .null, .null, .int 0, .null]))] H := hP.sub [0] rfl
  have hD : va_D A [(h0, .inr (2, [.int 0, .ref q1, .ref q3, .ref q5, .ref q7, .ref q9, .ref q11, .int 0, .null, .null, .null, .int 0, .null]))] := hD.sub [0] (by decide) rfl
  have hK : va_K (dC, dI) cls [] s := hK.sub [] rfl
  refine W.widen (k := 7) (n := 3236) (Nat.le_of_ble_eq_true rfl) (Nat.le_of_ble_eq_true rfl) ?_
  refine va_putF (D := (dC, dI)) (ci := 2) (v := .ref q13) (ty := .array .int) (C := RX6) (T := TX6) (N := 13) hx hb hts i_X6 tyX6 tyX6_ok nmX6 hown hK hP hD hS 0 rfl rfl 8 (by decide) (hts _ qw12) (fun _ h9 => h9) rfl hin rfl (by decide +kernel) rfl rfl (Nat.le_of_ble_eq_true rfl) dX6_init_58 (fun H locs hP hD hS => ?_)
  have hP : va_P (dC, dI) cls [(h0, .inr (2, [.int 0, .ref q1, .ref q3, .ref q5, .ref q7, .ref q9, .ref q11, .int 0, .ref q13, .null, .null, .int 0, .null]))] H := hP
  have hD : va_D A [(h0, .inr (2, [.int 0, .ref q1, .ref q3, .ref q5, .ref q7, .ref q9, .ref q11, .int 0, .ref q13, .null, .null, .int 0, .null]))] := hD
  refine lv_aload_n hx hb dX6_init_61 rfl (lv_at hl 0 rfl) ?_
  refine lv_sipush (v := 3200) hx hb dX6_init_62 (by decide) ?_
  refine va_newa (atype := .int) (ty := .int) hx hb (hts _ qw2) rfl hK hP hD hS hA (a0 := (3200, .inl (fun _ => 0))) (fun _ => rfl) (by decide) (by decide +kernel) (Nat.le_of_ble_eq_true rfl) (Nat.le_of_ble_eq_true rfl) (Nat.le_of_ble_eq_true rfl) dX6_init_65 (fun q15 c16 H hK hP hD hS => ?_)
  have hP : va_P (dC, dI) cls [(h0, .inr (2, [.int 0, .ref q1, .ref q3, .ref q5, .ref q7, .ref q9, .ref q11, .int 0, .ref q13, .null, .null, .int 0, .null])), (q15, .inl (c16, 3200, .inl (fun _ => 0)))] H := hP
  have hD : va_D A [(h0, .inr (2, [.int 0, .ref q1, .ref q3, .ref q5, .ref q7, .ref q9, .ref q11, .int 0, .ref q13, .null, .null, .int 0, .null])), (q15, .inl (c16, 3200, .inl (fun _ => 0)))] := hD
  have hK : va_K (dC, dI) cls [(c16, .int)] s := hK
  have hP : va_P (dC, dI) cls [(h0, .inr (2, [.int 0, .ref q1, .ref q3, .ref q5, .ref q7, .ref q9, .ref q11, .int 0, .ref q13, .null, .null, .int 0, .null]))] H := hP.sub [0] rfl
  have hD : va_D A [(h0, .inr (2, [.int 0, .ref q1, .ref q3, .ref q5, .ref q7, .ref q9, .ref q11, .int 0, .ref q13, .null, .null, .int 0, .null]))] := hD.sub [0] (by decide) rfl
  have hK : va_K (dC, dI) cls [] s := hK.sub [] rfl
  refine W.widen (k := 8) (n := 6436) (Nat.le_of_ble_eq_true rfl) (Nat.le_of_ble_eq_true rfl) ?_
  refine va_putF (D := (dC, dI)) (ci := 2) (v := .ref q15) (ty := .array .int) (C := RX6) (T := TX6) (N := 13) hx hb hts i_X6 tyX6 tyX6_ok nmX6 hown hK hP hD hS 0 rfl rfl 9 (by decide) (hts _ qw13) (fun _ h9 => h9) rfl hin rfl (by decide +kernel) rfl rfl (Nat.le_of_ble_eq_true rfl) dX6_init_67 (fun H locs hP hD hS => ?_)
  have hP : va_P (dC, dI) cls [(h0, .inr (2, [.int 0, .ref q1, .ref q3, .ref q5, .ref q7, .ref q9, .ref q11, .int 0, .ref q13, .ref q15, .null, .int 0, .null]))] H := hP
  have hD : va_D A [(h0, .inr (2, [.int 0, .ref q1, .ref q3, .ref q5, .ref q7, .ref q9, .ref q11, .int 0, .ref q13, .ref q15, .null, .int 0, .null]))] := hD
  refine lv_aload_n hx hb dX6_init_70 rfl (lv_at hl 0 rfl) ?_
  refine lv_sipush (v := 3200) hx hb dX6_init_71 (by decide) ?_
  refine va_newa (atype := .int) (ty := .int) hx hb (hts _ qw2) rfl hK hP hD hS hA (a0 := (3200, .inl (fun _ => 0))) (fun _ => rfl) (by decide) (by decide +kernel) (Nat.le_of_ble_eq_true rfl) (Nat.le_of_ble_eq_true rfl) (Nat.le_of_ble_eq_true rfl) dX6_init_74 (fun q17 c18 H hK hP hD hS => ?_)
  have hP : va_P (dC, dI) cls [(h0, .inr (2, [.int 0, .ref q1, .ref q3, .ref q5, .ref q7, .ref q9, .ref q11, .int 0, .ref q13, .ref q15, .null, .int 0, .null])), (q17, .inl (c18, 3200, .inl (fun _ => 0)))] H := hP
  have hD : va_D A [(h0, .inr (2, [.int 0, .ref q1, .ref q3, .ref q5, .ref q7, .ref q9, .ref q11, .int 0, .ref q13, .ref q15, .null, .int 0, .null])), (q17, .inl (c18, 3200, .inl (fun _ => 0)))] := hD
  have hK : va_K (dC, dI) cls [(c18, .int)] s := hK
  have hP : va_P (dC, dI) cls [(h0, .inr (2, [.int 0, .ref q1, .ref q3, .ref q5, .ref q7, .ref q9, .ref q11, .int 0, .ref q13, .ref q15, .null, .int 0, .null]))] H := hP.sub [0] rfl
  have hD : va_D A [(h0, .inr (2, [.int 0, .ref q1, .ref q3, .ref q5, .ref q7, .ref q9, .ref q11, .int 0, .ref q13, .ref q15, .null, .int 0, .null]))] := hD.sub [0] (by decide) rfl
  have hK : va_K (dC, dI) cls [] s := hK.sub [] rfl
  refine W.widen (k := 9) (n := 9636) (Nat.le_of_ble_eq_true rfl) (Nat.le_of_ble_eq_true rfl) ?_
  refine va_putF (D := (dC, dI)) (ci := 2) (v := .ref q17) (ty := .array .int) (C := RX6) (T := TX6) (N := 13) hx hb hts i_X6 tyX6 tyX6_ok nmX6 hown hK hP hD hS 0 rfl rfl 10 (by decide) (hts _ qw14) (fun _ h9 => h9) rfl hin rfl (by decide +kernel) rfl rfl (Nat.le_of_ble_eq_true rfl) dX6_init_76 (fun H locs hP hD hS => ?_)
  have hP : va_P (dC, dI) cls [(h0, .inr (2, [.int 0, .ref q1, .ref q3, .ref q5, .ref q7, .ref q9, .ref q11, .int 0, .ref q13, .ref q15, .ref q17, .int 0, .null]))] H := hP
  have hD : va_D A [(h0, .inr (2, [.int 0, .ref q1, .ref q3, .ref q5, .ref q7, .ref q9, .ref q11, .int 0, .ref q13, .ref q15, .ref q17, .int 0, .null]))] := hD
  refine lv_aload_n hx hb dX6_init_79 rfl (lv_at hl 0 rfl) ?_
  refine lv_sipush (v := 640) hx hb dX6_init_80 (by decide) ?_
  refine va_newa (atype := .int) (ty := .int) hx hb (hts _ qw2) rfl hK hP hD hS hA (a0 := (640, .inl (fun _ => 0))) (fun _ => rfl) (by decide) (by decide +kernel) (Nat.le_of_ble_eq_true rfl) (Nat.le_of_ble_eq_true rfl) (Nat.le_of_ble_eq_true rfl) dX6_init_83 (fun q19 c20 H hK hP hD hS => ?_)
  have hP : va_P (dC, dI) cls [(h0, .inr (2, [.int 0, .ref q1, .ref q3, .ref q5, .ref q7, .ref q9, .ref q11, .int 0, .ref q13, .ref q15, .ref q17, .int 0, .null])), (q19, .inl (c20, 640, .inl (fun _ => 0)))] H := hP
  have hD : va_D A [(h0, .inr (2, [.int 0, .ref q1, .ref q3, .ref q5, .ref q7, .ref q9, .ref q11, .int 0, .ref q13, .ref q15, .ref q17, .int 0, .null])), (q19, .inl (c20, 640, .inl (fun _ => 0)))] := hD
  have hK : va_K (dC, dI) cls [(c20, .int)] s := hK
  have hP : va_P (dC, dI) cls [(h0, .inr (2, [.int 0, .ref q1, .ref q3, .ref q5, .ref q7, .ref q9, .ref q11, .int 0, .ref q13, .ref q15, .ref q17, .int 0, .null]))] H := hP.sub [0] rfl
  have hD : va_D A [(h0, .inr (2, [.int 0, .ref q1, .ref q3, .ref q5, .ref q7, .ref q9, .ref q11, .int 0, .ref q13, .ref q15, .ref q17, .int 0, .null]))] := hD.sub [0] (by decide) rfl
  have hK : va_K (dC, dI) cls [] s := hK.sub [] rfl
  refine W.widen (k := 10) (n := 10276) (Nat.le_of_ble_eq_true rfl) (Nat.le_of_ble_eq_true rfl) ?_
  refine va_putF (D := (dC, dI)) (ci := 2) (v := .ref q19) (ty := .array .int) (C := RX6) (T := TX6) (N := 13) hx hb hts i_X6 tyX6 tyX6_ok nmX6 hown hK hP hD hS 0 rfl rfl 12 (by decide) (hts _ qw15) (fun _ h9 => h9) rfl hin rfl (by decide +kernel) rfl rfl (Nat.le_of_ble_eq_true rfl) dX6_init_85 (fun H locs hP hD hS => ?_)
  have hP : va_P (dC, dI) cls [(h0, .inr (2, [.int 0, .ref q1, .ref q3, .ref q5, .ref q7, .ref q9, .ref q11, .int 0, .ref q13, .ref q15, .ref q17, .int 0, .ref q19]))] H := hP
  have hD : va_D A [(h0, .inr (2, [.int 0, .ref q1, .ref q3, .ref q5, .ref q7, .ref q9, .ref q11, .int 0, .ref q13, .ref q15, .ref q17, .int 0, .ref q19]))] := hD
  have hP9 : va_P (dC, dI) cls [(h0, .inr (2, [.int 0, .ref q1, .ref q3, .ref q5, .ref q7, .ref q9, .ref q11, .int 0, .ref q13, .ref q15, .ref q17, .int 0, .ref q19]))] H := hP.sub [0] rfl
  have hD9 : va_D A [(h0, .inr (2, [.int 0, .ref q1, .ref q3, .ref q5, .ref q7, .ref q9, .ref q11, .int 0, .ref q13, .ref q15, .ref q17, .int 0, .ref q19]))] := hD.sub [0] (by decide) rfl
  have hK9 : va_K (dC, dI) cls [] s := hK.sub [] rfl
  exact W.vret hx hb hr (fun t ht hW => ⟨⟨(), rfl, trivial, ⟨q1, q3, q5, q7, q9, q11, q13, q15, q17, q19, ⟨by rw [ht]; exact hP9, va_K.moved hW.alike hK9, hD9⟩⟩⟩, hS.F ht⟩) hS.2.2 dX6_init_88
set_option maxHeartbeats 4000000 in
set_option maxRecDepth 100000 in
theorem kX7_init (l : Launch) (dC : Nat → ClassId) (dI : Nat → Nat → Nat) (h0 : Nat) (h1 : Nat) (sz : Nat)  : Met l yX7_init (wz yX7_init cX7_init 2 (Option.none : Option Jvm.ClassFile.FieldType)) ({ frames := 1, cells := 8, slots := 3058, locals := 12 }) (va_Pc [.ref h0, .ref h1] (PRE dC dI [(h0, .inr (1, [.int 0, .null, .null, .int 0, .int 0, .int 0, .int 0, .null, .null, .int 0, .null, .null, .int 0, .null, .null, .null, .null, .int 0]))] [] sz)) (va_Qv (fun (_ : Unit) => True) (fun _ t => ∃ (q1 : Nat), ∃ (q3 : Nat), ∃ (q5 : Nat), ∃ (q7 : Nat), ∃ (q9 : Nat), ∃ (q11 : Nat), ∃ (q13 : Nat), ∃ (q15 : Nat), POST dC dI [(h0, .inr (1, [.int 0, .ref h1, .null, .int 0, .int 0, .int 0, .int 0, .ref q1, .ref q3, .int 0, .ref q5, .ref q7, .int 0, .ref q9, .ref q11, .ref q13, .ref q15, .int 0]))] [] (va_A [(h0, .inr (1, [.int 0, .null, .null, .int 0, .int 0, .int 0, .int 0, .null, .null, .int 0, .null, .null, .int 0, .null, .null, .null, .null, .int 0]))] sz) t) (va_A [(h0, .inr (1, [.int 0, .null, .null, .int 0, .int 0, .int 0, .int 0, .null, .null, .int 0, .null, .null, .int 0, .null, .null, .null, .null, .int 0]))] sz)) 8 3058 (va_A [(h0, .inr (1, [.int 0, .null, .null, .int 0, .int 0, .int 0, .int 0, .null, .null, .int 0, .null, .null, .int 0, .null, .null, .null, .null, .int 0]))] sz) := by
  refine Met.ofW (cc := cX7_init) (maxL := 2) (ret := (Option.none : Option Jvm.ClassFile.FieldType)) (by decide) rfl ?_
  intro p e s m args below meth c s₁ B hml hv
  obtain ⟨rfl, hsz, hP, hK, hD0, hE⟩ := hv
  have hx := B.exec
  have hb := B.bytes
  have hr := B.returns
  have hts0 := atoms_spec (ws := wz yX7_init cX7_init 2 (Option.none : Option Jvm.ClassFile.FieldType)) B.pre
  have hts : ∀ w ∈ gw, w.before _ s = true := fun w h => hts0 w (List.mem_cons_of_mem _ h)
  have hown : s.vm.findClass RX7 = some m.cls := findClass_of_methodNamed B.named
  have hlocks := B.notSynchronized
  have hin : meth.name = "<init>" := (name_of_methodNamed B.named B.method).1
  subst hsz
  have hD := hD0.self (sz := s.heap.size)
  generalize hAe : va_A [(h0, .inr (1, [.int 0, .null, .null, .int 0, .int 0, .int 0, .int 0, .null, .null, .int 0, .null, .null, .int 0, .null, .null, .null, .null, .int 0]))] s.heap.size = A at hD hE ⊢
  have hA : ∀ q : Nat, s.heap.size ≤ q → A q := fun q h => by rw [← hAe]; exact Or.inr h
  have hS : va_S A s.heap s.heap [] := va_S.rf
  have hP : va_P (dC, dI) cls [(h0, .inr (1, [.int 0, .null, .null, .int 0, .int 0, .int 0, .int 0, .null, .null, .int 0, .null, .null, .int 0, .null, .null, .null, .null, .int 0]))] s.heap := hP
  have hl := lv_entry ([.ref h0, .ref h1]) (n := 2) (Nat.le_of_ble_eq_true rfl)
  rw [lg_entry_eq]
  generalize (lg_sl ([.ref h0, .ref h1]) ++ List.replicate (2 - (lg_sl ([.ref h0, .ref h1])).length) Slot.unset).toArray = ls at hl ⊢
  have hl : lv_has ls 2 [(0, .ref h0), (1, .ref h1)] := hl
  refine lv_aload_n hx hb dX7_init_0 rfl (lv_at hl 0 rfl) ?_
  refine W.objInit hx hb hown (hts _ qw16) (hts _ qw1) (hts _ qw_oi) rfl (by rw [hml]; exact hl.1) rfl dX7_init_1 (Nat.le_of_ble_eq_true rfl) (Nat.le_of_ble_eq_true rfl) ?_
  refine W.eq (g2 := F0 m 4 ls []) rfl ?_
  refine lv_aload_n hx hb dX7_init_4 rfl (lv_at hl 0 rfl) ?_
  refine lv_sipush (v := 320) hx hb dX7_init_5 (by decide) ?_
  refine va_newa (atype := .long) (ty := .long) hx hb (hts _ qw5) rfl hK hP hD hS hA (a0 := (320, .inr <| .inl (fun _ => 0))) (fun _ => rfl) (by decide) (by decide +kernel) (Nat.le_of_ble_eq_true rfl) (Nat.le_of_ble_eq_true rfl) (Nat.le_of_ble_eq_true rfl) dX7_init_8 (fun q1 c2 H hK hP hD hS => ?_)
  have hP : va_P (dC, dI) cls [(h0, .inr (1, [.int 0, .null, .null, .int 0, .int 0, .int 0, .int 0, .null, .null, .int 0, .null, .null, .int 0, .null, .null, .null, .null, .int 0])), (q1, .inl (c2, 320, .inr (.inl (fun _ => 0))))] H := hP
  have hD : va_D A [(h0, .inr (1, [.int 0, .null, .null, .int 0, .int 0, .int 0, .int 0, .null, .null, .int 0, .null, .null, .int 0, .null, .null, .null, .null, .int 0])), (q1, .inl (c2, 320, .inr (.inl (fun _ => 0))))] := hD
  have hK : va_K (dC, dI) cls [(c2, .long)] s := hK
  have hP : va_P (dC, dI) cls [(h0, .inr (1, [.int 0, .null, .null, .int 0, .int 0, .int 0, .int 0, .null, .null, .int 0, .null, .null, .int 0, .null, .null, .null, .null, .int 0]))] H := hP.sub [0] rfl
  have hD : va_D A [(h0, .inr (1, [.int 0, .null, .null, .int 0, .int 0, .int 0, .int 0, .null, .null, .int 0, .null, .null, .int 0, .null, .null, .null, .null, .int 0]))] := hD.sub [0] (by decide) rfl
  have hK : va_K (dC, dI) cls [] s := hK.sub [] rfl
  refine W.widen (k := 1) (n := 320) (Nat.le_of_ble_eq_true rfl) (Nat.le_of_ble_eq_true rfl) ?_
  refine va_putF (D := (dC, dI)) (ci := 1) (v := .ref q1) (ty := .array .long) (C := RX7) (T := TX7) (N := 18) hx hb hts i_X7 tyX7 tyX7_ok nmX7 hown hK hP hD hS 0 rfl rfl 7 (by decide) (hts _ qw17) (fun _ h9 => h9) rfl hin rfl (by decide +kernel) rfl rfl (Nat.le_of_ble_eq_true rfl) dX7_init_10 (fun H locs hP hD hS => ?_)
  have hP : va_P (dC, dI) cls [(h0, .inr (1, [.int 0, .null, .null, .int 0, .int 0, .int 0, .int 0, .ref q1, .null, .int 0, .null, .null, .int 0, .null, .null, .null, .null, .int 0]))] H := hP
  have hD : va_D A [(h0, .inr (1, [.int 0, .null, .null, .int 0, .int 0, .int 0, .int 0, .ref q1, .null, .int 0, .null, .null, .int 0, .null, .null, .null, .null, .int 0]))] := hD
  refine lv_aload_n hx hb dX7_init_13 rfl (lv_at hl 0 rfl) ?_
  refine lv_sipush (v := 320) hx hb dX7_init_14 (by decide) ?_
  refine va_newa (atype := .int) (ty := .int) hx hb (hts _ qw2) rfl hK hP hD hS hA (a0 := (320, .inl (fun _ => 0))) (fun _ => rfl) (by decide) (by decide +kernel) (Nat.le_of_ble_eq_true rfl) (Nat.le_of_ble_eq_true rfl) (Nat.le_of_ble_eq_true rfl) dX7_init_17 (fun q3 c4 H hK hP hD hS => ?_)
  have hP : va_P (dC, dI) cls [(h0, .inr (1, [.int 0, .null, .null, .int 0, .int 0, .int 0, .int 0, .ref q1, .null, .int 0, .null, .null, .int 0, .null, .null, .null, .null, .int 0])), (q3, .inl (c4, 320, .inl (fun _ => 0)))] H := hP
  have hD : va_D A [(h0, .inr (1, [.int 0, .null, .null, .int 0, .int 0, .int 0, .int 0, .ref q1, .null, .int 0, .null, .null, .int 0, .null, .null, .null, .null, .int 0])), (q3, .inl (c4, 320, .inl (fun _ => 0)))] := hD
  have hK : va_K (dC, dI) cls [(c4, .int)] s := hK
  have hP : va_P (dC, dI) cls [(h0, .inr (1, [.int 0, .null, .null, .int 0, .int 0, .int 0, .int 0, .ref q1, .null, .int 0, .null, .null, .int 0, .null, .null, .null, .null, .int 0]))] H := hP.sub [0] rfl
  have hD : va_D A [(h0, .inr (1, [.int 0, .null, .null, .int 0, .int 0, .int 0, .int 0, .ref q1, .null, .int 0, .null, .null, .int 0, .null, .null, .null, .null, .int 0]))] := hD.sub [0] (by decide) rfl
  have hK : va_K (dC, dI) cls [] s := hK.sub [] rfl
  refine W.widen (k := 2) (n := 640) (Nat.le_of_ble_eq_true rfl) (Nat.le_of_ble_eq_true rfl) ?_
  refine va_putF (D := (dC, dI)) (ci := 1) (v := .ref q3) (ty := .array .int) (C := RX7) (T := TX7) (N := 18) hx hb hts i_X7 tyX7 tyX7_ok nmX7 hown hK hP hD hS 0 rfl rfl 8 (by decide) (hts _ qw18) (fun _ h9 => h9) rfl hin rfl (by decide +kernel) rfl rfl (Nat.le_of_ble_eq_true rfl) dX7_init_19 (fun H locs hP hD hS => ?_)
  have hP : va_P (dC, dI) cls [(h0, .inr (1, [.int 0, .null, .null, .int 0, .int 0, .int 0, .int 0, .ref q1, .ref q3, .int 0, .null, .null, .int 0, .null, .null, .null, .null, .int 0]))] H := hP
  have hD : va_D A [(h0, .inr (1, [.int 0, .null, .null, .int 0, .int 0, .int 0, .int 0, .ref q1, .ref q3, .int 0, .null, .null, .int 0, .null, .null, .null, .null, .int 0]))] := hD
  refine lv_aload_n hx hb dX7_init_22 rfl (lv_at hl 0 rfl) ?_
  refine lv_bipush (v := 9) hx hb dX7_init_23 (by decide) ?_
  refine va_newa (atype := .int) (ty := .int) hx hb (hts _ qw2) rfl hK hP hD hS hA (a0 := (9, .inl (fun _ => 0))) (fun _ => rfl) (by decide) (by decide +kernel) (Nat.le_of_ble_eq_true rfl) (Nat.le_of_ble_eq_true rfl) (Nat.le_of_ble_eq_true rfl) dX7_init_25 (fun q5 c6 H hK hP hD hS => ?_)
  have hP : va_P (dC, dI) cls [(h0, .inr (1, [.int 0, .null, .null, .int 0, .int 0, .int 0, .int 0, .ref q1, .ref q3, .int 0, .null, .null, .int 0, .null, .null, .null, .null, .int 0])), (q5, .inl (c6, 9, .inl (fun _ => 0)))] H := hP
  have hD : va_D A [(h0, .inr (1, [.int 0, .null, .null, .int 0, .int 0, .int 0, .int 0, .ref q1, .ref q3, .int 0, .null, .null, .int 0, .null, .null, .null, .null, .int 0])), (q5, .inl (c6, 9, .inl (fun _ => 0)))] := hD
  have hK : va_K (dC, dI) cls [(c6, .int)] s := hK
  have hP : va_P (dC, dI) cls [(h0, .inr (1, [.int 0, .null, .null, .int 0, .int 0, .int 0, .int 0, .ref q1, .ref q3, .int 0, .null, .null, .int 0, .null, .null, .null, .null, .int 0]))] H := hP.sub [0] rfl
  have hD : va_D A [(h0, .inr (1, [.int 0, .null, .null, .int 0, .int 0, .int 0, .int 0, .ref q1, .ref q3, .int 0, .null, .null, .int 0, .null, .null, .null, .null, .int 0]))] := hD.sub [0] (by decide) rfl
  have hK : va_K (dC, dI) cls [] s := hK.sub [] rfl
  refine W.widen (k := 3) (n := 649) (Nat.le_of_ble_eq_true rfl) (Nat.le_of_ble_eq_true rfl) ?_
  refine va_putF (D := (dC, dI)) (ci := 1) (v := .ref q5) (ty := .array .int) (C := RX7) (T := TX7) (N := 18) hx hb hts i_X7 tyX7 tyX7_ok nmX7 hown hK hP hD hS 0 rfl rfl 10 (by decide) (hts _ qw19) (fun _ h9 => h9) rfl hin rfl (by decide +kernel) rfl rfl (Nat.le_of_ble_eq_true rfl) dX7_init_27 (fun H locs hP hD hS => ?_)
  have hP : va_P (dC, dI) cls [(h0, .inr (1, [.int 0, .null, .null, .int 0, .int 0, .int 0, .int 0, .ref q1, .ref q3, .int 0, .ref q5, .null, .int 0, .null, .null, .null, .null, .int 0]))] H := hP
  have hD : va_D A [(h0, .inr (1, [.int 0, .null, .null, .int 0, .int 0, .int 0, .int 0, .ref q1, .ref q3, .int 0, .ref q5, .null, .int 0, .null, .null, .null, .null, .int 0]))] := hD
  refine lv_aload_n hx hb dX7_init_30 rfl (lv_at hl 0 rfl) ?_
  refine lv_bipush (v := 9) hx hb dX7_init_31 (by decide) ?_
  refine va_newa (atype := .int) (ty := .int) hx hb (hts _ qw2) rfl hK hP hD hS hA (a0 := (9, .inl (fun _ => 0))) (fun _ => rfl) (by decide) (by decide +kernel) (Nat.le_of_ble_eq_true rfl) (Nat.le_of_ble_eq_true rfl) (Nat.le_of_ble_eq_true rfl) dX7_init_33 (fun q7 c8 H hK hP hD hS => ?_)
  have hP : va_P (dC, dI) cls [(h0, .inr (1, [.int 0, .null, .null, .int 0, .int 0, .int 0, .int 0, .ref q1, .ref q3, .int 0, .ref q5, .null, .int 0, .null, .null, .null, .null, .int 0])), (q7, .inl (c8, 9, .inl (fun _ => 0)))] H := hP
  have hD : va_D A [(h0, .inr (1, [.int 0, .null, .null, .int 0, .int 0, .int 0, .int 0, .ref q1, .ref q3, .int 0, .ref q5, .null, .int 0, .null, .null, .null, .null, .int 0])), (q7, .inl (c8, 9, .inl (fun _ => 0)))] := hD
  have hK : va_K (dC, dI) cls [(c8, .int)] s := hK
  have hP : va_P (dC, dI) cls [(h0, .inr (1, [.int 0, .null, .null, .int 0, .int 0, .int 0, .int 0, .ref q1, .ref q3, .int 0, .ref q5, .null, .int 0, .null, .null, .null, .null, .int 0]))] H := hP.sub [0] rfl
  have hD : va_D A [(h0, .inr (1, [.int 0, .null, .null, .int 0, .int 0, .int 0, .int 0, .ref q1, .ref q3, .int 0, .ref q5, .null, .int 0, .null, .null, .null, .null, .int 0]))] := hD.sub [0] (by decide) rfl
  have hK : va_K (dC, dI) cls [] s := hK.sub [] rfl
  refine W.widen (k := 4) (n := 658) (Nat.le_of_ble_eq_true rfl) (Nat.le_of_ble_eq_true rfl) ?_
  refine va_putF (D := (dC, dI)) (ci := 1) (v := .ref q7) (ty := .array .int) (C := RX7) (T := TX7) (N := 18) hx hb hts i_X7 tyX7 tyX7_ok nmX7 hown hK hP hD hS 0 rfl rfl 11 (by decide) (hts _ qw20) (fun _ h9 => h9) rfl hin rfl (by decide +kernel) rfl rfl (Nat.le_of_ble_eq_true rfl) dX7_init_35 (fun H locs hP hD hS => ?_)
  have hP : va_P (dC, dI) cls [(h0, .inr (1, [.int 0, .null, .null, .int 0, .int 0, .int 0, .int 0, .ref q1, .ref q3, .int 0, .ref q5, .ref q7, .int 0, .null, .null, .null, .null, .int 0]))] H := hP
  have hD : va_D A [(h0, .inr (1, [.int 0, .null, .null, .int 0, .int 0, .int 0, .int 0, .ref q1, .ref q3, .int 0, .ref q5, .ref q7, .int 0, .null, .null, .null, .null, .int 0]))] := hD
  refine lv_aload_n hx hb dX7_init_38 rfl (lv_at hl 0 rfl) ?_
  refine lv_sipush (v := 600) hx hb dX7_init_39 (by decide) ?_
  refine va_newa (atype := .long) (ty := .long) hx hb (hts _ qw5) rfl hK hP hD hS hA (a0 := (600, .inr <| .inl (fun _ => 0))) (fun _ => rfl) (by decide) (by decide +kernel) (Nat.le_of_ble_eq_true rfl) (Nat.le_of_ble_eq_true rfl) (Nat.le_of_ble_eq_true rfl) dX7_init_42 (fun q9 c10 H hK hP hD hS => ?_)
  have hP : va_P (dC, dI) cls [(h0, .inr (1, [.int 0, .null, .null, .int 0, .int 0, .int 0, .int 0, .ref q1, .ref q3, .int 0, .ref q5, .ref q7, .int 0, .null, .null, .null, .null, .int 0])), (q9, .inl (c10, 600, .inr (.inl (fun _ => 0))))] H := hP
  have hD : va_D A [(h0, .inr (1, [.int 0, .null, .null, .int 0, .int 0, .int 0, .int 0, .ref q1, .ref q3, .int 0, .ref q5, .ref q7, .int 0, .null, .null, .null, .null, .int 0])), (q9, .inl (c10, 600, .inr (.inl (fun _ => 0))))] := hD
  have hK : va_K (dC, dI) cls [(c10, .long)] s := hK
  have hP : va_P (dC, dI) cls [(h0, .inr (1, [.int 0, .null, .null, .int 0, .int 0, .int 0, .int 0, .ref q1, .ref q3, .int 0, .ref q5, .ref q7, .int 0, .null, .null, .null, .null, .int 0]))] H := hP.sub [0] rfl
  have hD : va_D A [(h0, .inr (1, [.int 0, .null, .null, .int 0, .int 0, .int 0, .int 0, .ref q1, .ref q3, .int 0, .ref q5, .ref q7, .int 0, .null, .null, .null, .null, .int 0]))] := hD.sub [0] (by decide) rfl
  have hK : va_K (dC, dI) cls [] s := hK.sub [] rfl
  refine W.widen (k := 5) (n := 1258) (Nat.le_of_ble_eq_true rfl) (Nat.le_of_ble_eq_true rfl) ?_
  refine va_putF (D := (dC, dI)) (ci := 1) (v := .ref q9) (ty := .array .long) (C := RX7) (T := TX7) (N := 18) hx hb hts i_X7 tyX7 tyX7_ok nmX7 hown hK hP hD hS 0 rfl rfl 13 (by decide) (hts _ qw21) (fun _ h9 => h9) rfl hin rfl (by decide +kernel) rfl rfl (Nat.le_of_ble_eq_true rfl) dX7_init_44 (fun H locs hP hD hS => ?_)
  have hP : va_P (dC, dI) cls [(h0, .inr (1, [.int 0, .null, .null, .int 0, .int 0, .int 0, .int 0, .ref q1, .ref q3, .int 0, .ref q5, .ref q7, .int 0, .ref q9, .null, .null, .null, .int 0]))] H := hP
  have hD : va_D A [(h0, .inr (1, [.int 0, .null, .null, .int 0, .int 0, .int 0, .int 0, .ref q1, .ref q3, .int 0, .ref q5, .ref q7, .int 0, .ref q9, .null, .null, .null, .int 0]))] := hD
  refine lv_aload_n hx hb dX7_init_47 rfl (lv_at hl 0 rfl) ?_
  refine lv_sipush (v := 600) hx hb dX7_init_48 (by decide) ?_
  refine va_newa (atype := .int) (ty := .int) hx hb (hts _ qw2) rfl hK hP hD hS hA (a0 := (600, .inl (fun _ => 0))) (fun _ => rfl) (by decide) (by decide +kernel) (Nat.le_of_ble_eq_true rfl) (Nat.le_of_ble_eq_true rfl) (Nat.le_of_ble_eq_true rfl) dX7_init_51 (fun q11 c12 H hK hP hD hS => ?_)
  have hP : va_P (dC, dI) cls [(h0, .inr (1, [.int 0, .null, .null, .int 0, .int 0, .int 0, .int 0, .ref q1, .ref q3, .int 0, .ref q5, .ref q7, .int 0, .ref q9, .null, .null, .null, .int 0])), (q11, .inl (c12, 600, .inl (fun _ => 0)))] H := hP
  have hD : va_D A [(h0, .inr (1, [.int 0, .null, .null, .int 0, .int 0, .int 0, .int 0, .ref q1, .ref q3, .int 0, .ref q5, .ref q7, .int 0, .ref q9, .null, .null, .null, .int 0])), (q11, .inl (c12, 600, .inl (fun _ => 0)))] := hD
  have hK : va_K (dC, dI) cls [(c12, .int)] s := hK
  have hP : va_P (dC, dI) cls [(h0, .inr (1, [.int 0, .null, .null, .int 0, .int 0, .int 0, .int 0, .ref q1, .ref q3, .int 0, .ref q5, .ref q7, .int 0, .ref q9, .null, .null, .null, .int 0]))] H := hP.sub [0] rfl
  have hD : va_D A [(h0, .inr (1, [.int 0, .null, .null, .int 0, .int 0, .int 0, .int 0, .ref q1, .ref q3, .int 0, .ref q5, .ref q7, .int 0, .ref q9, .null, .null, .null, .int 0]))] := hD.sub [0] (by decide) rfl
  have hK : va_K (dC, dI) cls [] s := hK.sub [] rfl
  refine W.widen (k := 6) (n := 1858) (Nat.le_of_ble_eq_true rfl) (Nat.le_of_ble_eq_true rfl) ?_
  refine va_putF (D := (dC, dI)) (ci := 1) (v := .ref q11) (ty := .array .int) (C := RX7) (T := TX7) (N := 18) hx hb hts i_X7 tyX7 tyX7_ok nmX7 hown hK hP hD hS 0 rfl rfl 14 (by decide) (hts _ qw22) (fun _ h9 => h9) rfl hin rfl (by decide +kernel) rfl rfl (Nat.le_of_ble_eq_true rfl) dX7_init_53 (fun H locs hP hD hS => ?_)
  have hP : va_P (dC, dI) cls [(h0, .inr (1, [.int 0, .null, .null, .int 0, .int 0, .int 0, .int 0, .ref q1, .ref q3, .int 0, .ref q5, .ref q7, .int 0, .ref q9, .ref q11, .null, .null, .int 0]))] H := hP
  have hD : va_D A [(h0, .inr (1, [.int 0, .null, .null, .int 0, .int 0, .int 0, .int 0, .ref q1, .ref q3, .int 0, .ref q5, .ref q7, .int 0, .ref q9, .ref q11, .null, .null, .int 0]))] := hD
  refine lv_aload_n hx hb dX7_init_56 rfl (lv_at hl 0 rfl) ?_
  refine lv_sipush (v := 600) hx hb dX7_init_57 (by decide) ?_
  refine va_newa (atype := .int) (ty := .int) hx hb (hts _ qw2) rfl hK hP hD hS hA (a0 := (600, .inl (fun _ => 0))) (fun _ => rfl) (by decide) (by decide +kernel) (Nat.le_of_ble_eq_true rfl) (Nat.le_of_ble_eq_true rfl) (Nat.le_of_ble_eq_true rfl) dX7_init_60 (fun q13 c14 H hK hP hD hS => ?_)
  have hP : va_P (dC, dI) cls [(h0, .inr (1, [.int 0, .null, .null, .int 0, .int 0, .int 0, .int 0, .ref q1, .ref q3, .int 0, .ref q5, .ref q7, .int 0, .ref q9, .ref q11, .null, .null, .int 0])), (q13, .inl (c14, 600, .inl (fun _ => 0)))] H := hP
  have hD : va_D A [(h0, .inr (1, [.int 0, .null, .null, .int 0, .int 0, .int 0, .int 0, .ref q1, .ref q3, .int 0, .ref q5, .ref q7, .int 0, .ref q9, .ref q11, .null, .null, .int 0])), (q13, .inl (c14, 600, .inl (fun _ => 0)))] := hD
  have hK : va_K (dC, dI) cls [(c14, .int)] s := hK
  have hP : va_P (dC, dI) cls [(h0, .inr (1, [.int 0, .null, .null, .int 0, .int 0, .int 0, .int 0, .ref q1, .ref q3, .int 0, .ref q5, .ref q7, .int 0, .ref q9, .ref q11, .null, .null, .int 0]))] H := hP.sub [0] rfl
  have hD : va_D A [(h0, .inr (1, [.int 0, .null, .null, .int 0, .int 0, .int 0, .int 0, .ref q1, .ref q3, .int 0, .ref q5, .ref q7, .int 0, .ref q9, .ref q11, .null, .null, .int 0]))] := hD.sub [0] (by decide) rfl
  have hK : va_K (dC, dI) cls [] s := hK.sub [] rfl
  refine W.widen (k := 7) (n := 2458) (Nat.le_of_ble_eq_true rfl) (Nat.le_of_ble_eq_true rfl) ?_
  refine va_putF (D := (dC, dI)) (ci := 1) (v := .ref q13) (ty := .array .int) (C := RX7) (T := TX7) (N := 18) hx hb hts i_X7 tyX7 tyX7_ok nmX7 hown hK hP hD hS 0 rfl rfl 15 (by decide) (hts _ qw23) (fun _ h9 => h9) rfl hin rfl (by decide +kernel) rfl rfl (Nat.le_of_ble_eq_true rfl) dX7_init_62 (fun H locs hP hD hS => ?_)
  have hP : va_P (dC, dI) cls [(h0, .inr (1, [.int 0, .null, .null, .int 0, .int 0, .int 0, .int 0, .ref q1, .ref q3, .int 0, .ref q5, .ref q7, .int 0, .ref q9, .ref q11, .ref q13, .null, .int 0]))] H := hP
  have hD : va_D A [(h0, .inr (1, [.int 0, .null, .null, .int 0, .int 0, .int 0, .int 0, .ref q1, .ref q3, .int 0, .ref q5, .ref q7, .int 0, .ref q9, .ref q11, .ref q13, .null, .int 0]))] := hD
  refine lv_aload_n hx hb dX7_init_65 rfl (lv_at hl 0 rfl) ?_
  refine lv_sipush (v := 600) hx hb dX7_init_66 (by decide) ?_
  refine va_newa (atype := .int) (ty := .int) hx hb (hts _ qw2) rfl hK hP hD hS hA (a0 := (600, .inl (fun _ => 0))) (fun _ => rfl) (by decide) (by decide +kernel) (Nat.le_of_ble_eq_true rfl) (Nat.le_of_ble_eq_true rfl) (Nat.le_of_ble_eq_true rfl) dX7_init_69 (fun q15 c16 H hK hP hD hS => ?_)
  have hP : va_P (dC, dI) cls [(h0, .inr (1, [.int 0, .null, .null, .int 0, .int 0, .int 0, .int 0, .ref q1, .ref q3, .int 0, .ref q5, .ref q7, .int 0, .ref q9, .ref q11, .ref q13, .null, .int 0])), (q15, .inl (c16, 600, .inl (fun _ => 0)))] H := hP
  have hD : va_D A [(h0, .inr (1, [.int 0, .null, .null, .int 0, .int 0, .int 0, .int 0, .ref q1, .ref q3, .int 0, .ref q5, .ref q7, .int 0, .ref q9, .ref q11, .ref q13, .null, .int 0])), (q15, .inl (c16, 600, .inl (fun _ => 0)))] := hD
  have hK : va_K (dC, dI) cls [(c16, .int)] s := hK
  have hP : va_P (dC, dI) cls [(h0, .inr (1, [.int 0, .null, .null, .int 0, .int 0, .int 0, .int 0, .ref q1, .ref q3, .int 0, .ref q5, .ref q7, .int 0, .ref q9, .ref q11, .ref q13, .null, .int 0]))] H := hP.sub [0] rfl
  have hD : va_D A [(h0, .inr (1, [.int 0, .null, .null, .int 0, .int 0, .int 0, .int 0, .ref q1, .ref q3, .int 0, .ref q5, .ref q7, .int 0, .ref q9, .ref q11, .ref q13, .null, .int 0]))] := hD.sub [0] (by decide) rfl
  have hK : va_K (dC, dI) cls [] s := hK.sub [] rfl
  refine W.widen (k := 8) (n := 3058) (Nat.le_of_ble_eq_true rfl) (Nat.le_of_ble_eq_true rfl) ?_
  refine va_putF (D := (dC, dI)) (ci := 1) (v := .ref q15) (ty := .array .int) (C := RX7) (T := TX7) (N := 18) hx hb hts i_X7 tyX7 tyX7_ok nmX7 hown hK hP hD hS 0 rfl rfl 16 (by decide) (hts _ qw24) (fun _ h9 => h9) rfl hin rfl (by decide +kernel) rfl rfl (Nat.le_of_ble_eq_true rfl) dX7_init_71 (fun H locs hP hD hS => ?_)
  have hP : va_P (dC, dI) cls [(h0, .inr (1, [.int 0, .null, .null, .int 0, .int 0, .int 0, .int 0, .ref q1, .ref q3, .int 0, .ref q5, .ref q7, .int 0, .ref q9, .ref q11, .ref q13, .ref q15, .int 0]))] H := hP
  have hD : va_D A [(h0, .inr (1, [.int 0, .null, .null, .int 0, .int 0, .int 0, .int 0, .ref q1, .ref q3, .int 0, .ref q5, .ref q7, .int 0, .ref q9, .ref q11, .ref q13, .ref q15, .int 0]))] := hD
  refine lv_aload_n hx hb dX7_init_74 rfl (lv_at hl 0 rfl) ?_
  refine lv_aload_n hx hb dX7_init_75 rfl (lv_at hl 1 rfl) ?_
  refine va_putF (D := (dC, dI)) (ci := 1) (v := .ref h1) (ty := .object "Gearbox$Tokens") (C := RX7) (T := TX7) (N := 18) hx hb hts i_X7 tyX7 tyX7_ok nmX7 hown hK hP hD hS 0 rfl rfl 1 (by decide) (hts _ qw25) (fun _ h9 => h9) rfl hin rfl (by decide +kernel) rfl rfl (Nat.le_of_ble_eq_true rfl) dX7_init_76 (fun H locs hP hD hS => ?_)
  have hP : va_P (dC, dI) cls [(h0, .inr (1, [.int 0, .ref h1, .null, .int 0, .int 0, .int 0, .int 0, .ref q1, .ref q3, .int 0, .ref q5, .ref q7, .int 0, .ref q9, .ref q11, .ref q13, .ref q15, .int 0]))] H := hP
  have hD : va_D A [(h0, .inr (1, [.int 0, .ref h1, .null, .int 0, .int 0, .int 0, .int 0, .ref q1, .ref q3, .int 0, .ref q5, .ref q7, .int 0, .ref q9, .ref q11, .ref q13, .ref q15, .int 0]))] := hD
  have hP9 : va_P (dC, dI) cls [(h0, .inr (1, [.int 0, .ref h1, .null, .int 0, .int 0, .int 0, .int 0, .ref q1, .ref q3, .int 0, .ref q5, .ref q7, .int 0, .ref q9, .ref q11, .ref q13, .ref q15, .int 0]))] H := hP.sub [0] rfl
  have hD9 : va_D A [(h0, .inr (1, [.int 0, .ref h1, .null, .int 0, .int 0, .int 0, .int 0, .ref q1, .ref q3, .int 0, .ref q5, .ref q7, .int 0, .ref q9, .ref q11, .ref q13, .ref q15, .int 0]))] := hD.sub [0] (by decide) rfl
  have hK9 : va_K (dC, dI) cls [] s := hK.sub [] rfl
  exact W.vret hx hb hr (fun t ht hW => ⟨⟨(), rfl, trivial, ⟨q1, q3, q5, q7, q9, q11, q13, q15, ⟨by rw [ht]; exact hP9, va_K.moved hW.alike hK9, hD9⟩⟩⟩, hS.F ht⟩) hS.2.2 dX7_init_79
