set_option maxHeartbeats 4000000 in
set_option maxRecDepth 100000 in
theorem kX10_init {zs : Nat × Nat} (l : Launch) (dC : Nat → ClassId) (dI : Nat → Nat → Nat) (h0 : Nat) (sz : Nat)  : Met l yX10_init (wz yX10_init cX10_init 1 (Option.none : Option Jvm.ClassFile.FieldType)) ({ frames := 1, cells := 1, slots := 1200, locals := 12 }) (va_Pc [.ref h0] (PRE zs dC dI [(h0, .inr (0, [.null, .int 0, .int 0, .int 0, .int 0, .long 0, .int 0, .int 0]))] [] sz)) (va_Qv (fun (_ : Unit) => True) (fun _ t => ∃ (q1 : Nat), ∃ (c2 : ClassId), POST dC dI [(h0, .inr (0, [.ref q1, .int 0, .int 0, .int 0, .int 0, .long 0, .int 0, .int 0])), (q1, .inl (c2, 1200, .inl (fun _ => 0)))] [(c2, .int)] (va_A [(h0, .inr (0, [.null, .int 0, .int 0, .int 0, .int 0, .long 0, .int 0, .int 0]))] sz) t) (va_A [(h0, .inr (0, [.null, .int 0, .int 0, .int 0, .int 0, .long 0, .int 0, .int 0]))] sz)) 1 1200 (va_A [(h0, .inr (0, [.null, .int 0, .int 0, .int 0, .int 0, .long 0, .int 0, .int 0]))] sz) := by
  refine Met.ofW (cc := cX10_init) (maxL := 1) (ret := (Option.none : Option Jvm.ClassFile.FieldType)) (by decide) rfl ?_
  intro p e s m args below meth c s₁ B hml hv
  obtain ⟨rfl, hsz, hP, hK, hD0, hE⟩ := hv
  have hx := B.exec
  have hb := B.bytes
  have hr := B.returns
  have hts0 := atoms_spec (ws := wz yX10_init cX10_init 1 (Option.none : Option Jvm.ClassFile.FieldType)) B.pre
  have hts : ∀ w ∈ gw, w.before _ s = true := fun w h => hts0 w (List.mem_cons_of_mem _ h)
  have hown : s.vm.findClass RX10 = some m.cls := findClass_of_methodNamed B.named
  have hlocks := B.notSynchronized
  have hin : meth.name = "<init>" := (name_of_methodNamed B.named B.method).1
  subst hsz
  have hD := hD0.self (sz := s.heap.size)
  generalize hAe : va_A [(h0, .inr (0, [.null, .int 0, .int 0, .int 0, .int 0, .long 0, .int 0, .int 0]))] s.heap.size = A at hD hE ⊢
  have hA : ∀ q : Nat, s.heap.size ≤ q → A q := fun q h => by rw [← hAe]; exact Or.inr h
  have hS : va_S A s.heap s.heap [] := va_S.rf
  have hP : va_P (dC, dI) cls [(h0, .inr (0, [.null, .int 0, .int 0, .int 0, .int 0, .long 0, .int 0, .int 0]))] s.heap := hP
  have hl := lv_entry ([.ref h0]) (n := 1) (Nat.le_of_ble_eq_true rfl)
  rw [lg_entry_eq]
  generalize (lg_sl ([.ref h0]) ++ List.replicate (1 - (lg_sl ([.ref h0])).length) Slot.unset).toArray = ls at hl ⊢
  have hl : lv_has ls 1 [(0, .ref h0)] := hl
  refine lv_aload_n hx hb dX10_init_0 rfl (lv_at hl 0 rfl) ?_
  refine W.objInit hx hb hown (hts _ qw0) (hts _ qw1) (hts _ qw_oi) rfl (by rw [hml]; exact hl.1) rfl dX10_init_1 (Nat.le_of_ble_eq_true rfl) (Nat.le_of_ble_eq_true rfl) ?_
  refine W.eq (g2 := F0 m 4 ls []) rfl ?_
  refine lv_aload_n hx hb dX10_init_4 rfl (lv_at hl 0 rfl) ?_
  refine lv_sipush (v := 1200) hx hb dX10_init_5 (by decide) ?_
  refine va_newa (atype := .int) (ty := .int) hx hb (hts _ qw2) rfl hK hP hD hS hA (a0 := (1200, .inl (fun _ => 0))) (fun _ => rfl) (by decide) (by decide +kernel) (Nat.le_of_ble_eq_true rfl) (Nat.le_of_ble_eq_true rfl) (Nat.le_of_ble_eq_true rfl) dX10_init_8 (fun q1 c2 H hK hP hD hS => ?_)
  have hP : va_P (dC, dI) cls [(h0, .inr (0, [.null, .int 0, .int 0, .int 0, .int 0, .long 0, .int 0, .int 0])), (q1, .inl (c2, 1200, .inl (fun _ => 0)))] H := hP
  have hD : va_D A [(h0, .inr (0, [.null, .int 0, .int 0, .int 0, .int 0, .long 0, .int 0, .int 0])), (q1, .inl (c2, 1200, .inl (fun _ => 0)))] := hD
  have hK : va_K (dC, dI) cls [(c2, .int)] s := hK
  refine W.widen (k := 1) (n := 1200) (Nat.le_of_ble_eq_true rfl) (Nat.le_of_ble_eq_true rfl) ?_
  refine va_putF (D := (dC, dI)) (ci := 0) (v := .ref q1) (ty := .array .int) (C := RX10) (T := TX10) (N := 8) hx hb hts i_X10 tyX10 tyX10_ok nmX10 hown hK hP hD hS 0 rfl rfl 0 (by decide) (hts _ qw3) (fun _ h9 => h9) rfl hin rfl (by decide +kernel) rfl rfl (Nat.le_of_ble_eq_true rfl) dX10_init_10 (fun H locs hP hD hS => ?_)
  have hP : va_P (dC, dI) cls [(h0, .inr (0, [.ref q1, .int 0, .int 0, .int 0, .int 0, .long 0, .int 0, .int 0])), (q1, .inl (c2, 1200, .inl (fun _ => 0)))] H := hP
  have hD : va_D A [(h0, .inr (0, [.ref q1, .int 0, .int 0, .int 0, .int 0, .long 0, .int 0, .int 0])), (q1, .inl (c2, 1200, .inl (fun _ => 0)))] := hD
  have hP9 : va_P (dC, dI) cls [(h0, .inr (0, [.ref q1, .int 0, .int 0, .int 0, .int 0, .long 0, .int 0, .int 0])), (q1, .inl (c2, 1200, .inl (fun _ => 0)))] H := hP.sub [0, 1] rfl
  have hD9 : va_D A [(h0, .inr (0, [.ref q1, .int 0, .int 0, .int 0, .int 0, .long 0, .int 0, .int 0])), (q1, .inl (c2, 1200, .inl (fun _ => 0)))] := hD.sub [0, 1] (by decide) rfl
  have hK9 : va_K (dC, dI) cls [(c2, .int)] s := hK.sub [0] rfl
  exact W.vret hx hb hr (fun t ht hW => ⟨⟨(), rfl, trivial, ⟨q1, c2, ⟨by rw [ht]; exact hP9, va_K.moved hW.alike hK9, hD9⟩⟩⟩, hS.F ht⟩) hS.2.2 dX10_init_13
set_option maxHeartbeats 4000000 in
set_option maxRecDepth 100000 in
theorem kX6_init {zs : Nat × Nat} (l : Launch) (dC : Nat → ClassId) (dI : Nat → Nat → Nat) (h0 : Nat) (sz : Nat)  : Met l yX6_init (wz yX6_init cX6_init 1 (Option.none : Option Jvm.ClassFile.FieldType)) ({ frames := 1, cells := 10, slots := 10276, locals := 12 }) (va_Pc [.ref h0] (PRE zs dC dI [(h0, .inr (2, [.int 0, .null, .null, .null, .null, .null, .null, .int 0, .null, .null, .null, .int 0, .null]))] [] sz)) (va_Qv (fun (_ : Unit) => True) (fun _ t => ∃ (q1 : Nat), ∃ (q3 : Nat), ∃ (q5 : Nat), ∃ (q7 : Nat), ∃ (q9 : Nat), ∃ (q11 : Nat), ∃ (q13 : Nat), ∃ (q15 : Nat), ∃ (q17 : Nat), ∃ (q19 : Nat), POST dC dI [(h0, .inr (2, [.int 0, .ref q1, .ref q3, .ref q5, .ref q7, .ref q9, .ref q11, .int 0, .ref q13, .ref q15, .ref q17, .int 0, .ref q19]))] [] (va_A [(h0, .inr (2, [.int 0, .null, .null, .null, .null, .null, .null, .int 0, .null, .null, .null, .int 0, .null]))] sz) t) (va_A [(h0, .inr (2, [.int 0, .null, .null, .null, .null, .null, .null, .int 0, .null, .null, .null, .int 0, .null]))] sz)) 10 10276 (va_A [(h0, .inr (2, [.int 0, .null, .null, .null, .null, .null, .null, .int 0, .null, .null, .null, .int 0, .null]))] sz) := by
  refine Met.ofW (cc := cX6_init) (maxL := 1) (ret := (Option.none : Option Jvm.ClassFile.FieldType)) (by decide) rfl ?_
  intro p e s m args below meth c s₁ B hml hv
  obtain ⟨rfl, hsz, hP, hK, hD0, hE⟩ := hv
  have hx := B.exec
  have hb := B.bytes
  have hr := B.returns
  have hts0 := atoms_spec (ws := wz yX6_init cX6_init 1 (Option.none : Option Jvm.ClassFile.FieldType)) B.pre
  have hts : ∀ w ∈ gw, w.before _ s = true := fun w h => hts0 w (List.mem_cons_of_mem _ h)
  have hown : s.vm.findClass RX6 = some m.cls := findClass_of_methodNamed B.named
  have hlocks := B.notSynchronized
  have hin : meth.name = "<init>" := (name_of_methodNamed B.named B.method).1
  subst hsz
  have hD := hD0.self (sz := s.heap.size)
  generalize hAe : va_A [(h0, .inr (2, [.int 0, .null, .null, .null, .null, .null, .null, .int 0, .null, .null, .null, .int 0, .null]))] s.heap.size = A at hD hE ⊢
  have hA : ∀ q : Nat, s.heap.size ≤ q → A q := fun q h => by rw [← hAe]; exact Or.inr h
  have hS : va_S A s.heap s.heap [] := va_S.rf
  have hP : va_P (dC, dI) cls [(h0, .inr (2, [.int 0, .null, .null, .null, .null, .null, .null, .int 0, .null, .null, .null, .int 0, .null]))] s.heap := hP
  have hl := lv_entry ([.ref h0]) (n := 1) (Nat.le_of_ble_eq_true rfl)
  rw [lg_entry_eq]
  generalize (lg_sl ([.ref h0]) ++ List.replicate (1 - (lg_sl ([.ref h0])).length) Slot.unset).toArray = ls at hl ⊢
  have hl : lv_has ls 1 [(0, .ref h0)] := hl
  refine lv_aload_n hx hb dX6_init_0 rfl (lv_at hl 0 rfl) ?_
  refine W.objInit hx hb hown (hts _ qw4) (hts _ qw1) (hts _ qw_oi) rfl (by rw [hml]; exact hl.1) rfl dX6_init_1 (Nat.le_of_ble_eq_true rfl) (Nat.le_of_ble_eq_true rfl) ?_
  refine W.eq (g2 := F0 m 4 ls []) rfl ?_
  refine lv_aload_n hx hb dX6_init_4 rfl (lv_at hl 0 rfl) ?_
  refine lv_bipush (v := 6) hx hb dX6_init_5 (by decide) ?_
  refine va_newa (atype := .long) (ty := .long) hx hb (hts _ qw5) rfl hK hP hD hS hA (a0 := (6, .inr <| .inl (fun _ => 0))) (fun _ => rfl) (by decide) (by decide +kernel) (Nat.le_of_ble_eq_true rfl) (Nat.le_of_ble_eq_true rfl) (Nat.le_of_ble_eq_true rfl) dX6_init_7 (fun q1 c2 H hK hP hD hS => ?_)
  have hP : va_P (dC, dI) cls [(h0, .inr (2, [.int 0, .null, .null, .null, .null, .null, .null, .int 0, .null, .null, .null, .int 0, .null])), (q1, .inl (c2, 6, .inr (.inl (fun _ => 0))))] H := hP
  have hD : va_D A [(h0, .inr (2, [.int 0, .null, .null, .null, .null, .null, .null, .int 0, .null, .null, .null, .int 0, .null])), (q1, .inl (c2, 6, .inr (.inl (fun _ => 0))))] := hD
  have hK : va_K (dC, dI) cls [(c2, .long)] s := hK
  have hP : va_P (dC, dI) cls [(h0, .inr (2, [.int 0, .null, .null, .null, .null, .null, .null, .int 0, .null, .null, .null, .int 0, .null]))] H := hP.sub [0] rfl
  have hD : va_D A [(h0, .inr (2, [.int 0, .null, .null, .null, .null, .null, .null, .int 0, .null, .null, .null, .int 0, .null]))] := hD.sub [0] (by decide) rfl
  have hK : va_K (dC, dI) cls [] s := hK.sub [] rfl
  refine W.widen (k := 1) (n := 6) (Nat.le_of_ble_eq_true rfl) (Nat.le_of_ble_eq_true rfl) ?_
  refine va_putF (D := (dC, dI)) (ci := 2) (v := .ref q1) (ty := .array .long) (C := RX6) (T := TX6) (N := 13) hx hb hts i_X6 tyX6 tyX6_ok nmX6 hown hK hP hD hS 0 rfl rfl 1 (by decide) (hts _ qw6) (fun _ h9 => h9) rfl hin rfl (by decide +kernel) rfl rfl (Nat.le_of_ble_eq_true rfl) dX6_init_9 (fun H locs hP hD hS => ?_)
  have hP : va_P (dC, dI) cls [(h0, .inr (2, [.int 0, .ref q1, .null, .null, .null, .null, .null, .int 0, .null, .null, .null, .int 0, .null]))] H := hP
  have hD : va_D A [(h0, .inr (2, [.int 0, .ref q1, .null, .null, .null, .null, .null, .int 0, .null, .null, .null, .int 0, .null]))] := hD
  refine lv_aload_n hx hb dX6_init_12 rfl (lv_at hl 0 rfl) ?_
  refine lv_bipush (v := 6) hx hb dX6_init_13 (by decide) ?_
  refine va_newa (atype := .int) (ty := .int) hx hb (hts _ qw2) rfl hK hP hD hS hA (a0 := (6, .inl (fun _ => 0))) (fun _ => rfl) (by decide) (by decide +kernel) (Nat.le_of_ble_eq_true rfl) (Nat.le_of_ble_eq_true rfl) (Nat.le_of_ble_eq_true rfl) dX6_init_15 (fun q3 c4 H hK hP hD hS => ?_)
  have hP : va_P (dC, dI) cls [(h0, .inr (2, [.int 0, .ref q1, .null, .null, .null, .null, .null, .int 0, .null, .null, .null, .int 0, .null])), (q3, .inl (c4, 6, .inl (fun _ => 0)))] H := hP
  have hD : va_D A [(h0, .inr (2, [.int 0, .ref q1, .null, .null, .null, .null, .null, .int 0, .null, .null, .null, .int 0, .null])), (q3, .inl (c4, 6, .inl (fun _ => 0)))] := hD
  have hK : va_K (dC, dI) cls [(c4, .int)] s := hK
  have hP : va_P (dC, dI) cls [(h0, .inr (2, [.int 0, .ref q1, .null, .null, .null, .null, .null, .int 0, .null, .null, .null, .int 0, .null]))] H := hP.sub [0] rfl
  have hD : va_D A [(h0, .inr (2, [.int 0, .ref q1, .null, .null, .null, .null, .null, .int 0, .null, .null, .null, .int 0, .null]))] := hD.sub [0] (by decide) rfl
  have hK : va_K (dC, dI) cls [] s := hK.sub [] rfl
  refine W.widen (k := 2) (n := 12) (Nat.le_of_ble_eq_true rfl) (Nat.le_of_ble_eq_true rfl) ?_
  refine va_putF (D := (dC, dI)) (ci := 2) (v := .ref q3) (ty := .array .int) (C := RX6) (T := TX6) (N := 13) hx hb hts i_X6 tyX6 tyX6_ok nmX6 hown hK hP hD hS 0 rfl rfl 2 (by decide) (hts _ qw7) (fun _ h9 => h9) rfl hin rfl (by decide +kernel) rfl rfl (Nat.le_of_ble_eq_true rfl) dX6_init_17 (fun H locs hP hD hS => ?_)
  have hP : va_P (dC, dI) cls [(h0, .inr (2, [.int 0, .ref q1, .ref q3, .null, .null, .null, .null, .int 0, .null, .null, .null, .int 0, .null]))] H := hP
  have hD : va_D A [(h0, .inr (2, [.int 0, .ref q1, .ref q3, .null, .null, .null, .null, .int 0, .null, .null, .null, .int 0, .null]))] := hD
  refine lv_aload_n hx hb dX6_init_20 rfl (lv_at hl 0 rfl) ?_
  refine lv_bipush (v := 6) hx hb dX6_init_21 (by decide) ?_
  refine va_newa (atype := .int) (ty := .int) hx hb (hts _ qw2) rfl hK hP hD hS hA (a0 := (6, .inl (fun _ => 0))) (fun _ => rfl) (by decide) (by decide +kernel) (Nat.le_of_ble_eq_true rfl) (Nat.le_of_ble_eq_true rfl) (Nat.le_of_ble_eq_true rfl) dX6_init_23 (fun q5 c6 H hK hP hD hS => ?_)
  have hP : va_P (dC, dI) cls [(h0, .inr (2, [.int 0, .ref q1, .ref q3, .null, .null, .null, .null, .int 0, .null, .null, .null, .int 0, .null])), (q5, .inl (c6, 6, .inl (fun _ => 0)))] H := hP
  have hD : va_D A [(h0, .inr (2, [.int 0, .ref q1, .ref q3, .null, .null, .null, .null, .int 0, .null, .null, .null, .int 0, .null])), (q5, .inl (c6, 6, .inl (fun _ => 0)))] := hD
  have hK : va_K (dC, dI) cls [(c6, .int)] s := hK
  have hP : va_P (dC, dI) cls [(h0, .inr (2, [.int 0, .ref q1, .ref q3, .null, .null, .null, .null, .int 0, .null, .null, .null, .int 0, .null]))] H := hP.sub [0] rfl
  have hD : va_D A [(h0, .inr (2, [.int 0, .ref q1, .ref q3, .null, .null, .null, .null, .int 0, .null, .null, .null, .int 0, .null]))] := hD.sub [0] (by decide) rfl
  have hK : va_K (dC, dI) cls [] s := hK.sub [] rfl
  refine W.widen (k := 3) (n := 18) (Nat.le_of_ble_eq_true rfl) (Nat.le_of_ble_eq_true rfl) ?_
  refine va_putF (D := (dC, dI)) (ci := 2) (v := .ref q5) (ty := .array .int) (C := RX6) (T := TX6) (N := 13) hx hb hts i_X6 tyX6 tyX6_ok nmX6 hown hK hP hD hS 0 rfl rfl 3 (by decide) (hts _ qw8) (fun _ h9 => h9) rfl hin rfl (by decide +kernel) rfl rfl (Nat.le_of_ble_eq_true rfl) dX6_init_25 (fun H locs hP hD hS => ?_)
  have hP : va_P (dC, dI) cls [(h0, .inr (2, [.int 0, .ref q1, .ref q3, .ref q5, .null, .null, .null, .int 0, .null, .null, .null, .int 0, .null]))] H := hP
  have hD : va_D A [(h0, .inr (2, [.int 0, .ref q1, .ref q3, .ref q5, .null, .null, .null, .int 0, .null, .null, .null, .int 0, .null]))] := hD
  refine lv_aload_n hx hb dX6_init_28 rfl (lv_at hl 0 rfl) ?_
  refine lv_bipush (v := 6) hx hb dX6_init_29 (by decide) ?_
  refine va_newa (atype := .int) (ty := .int) hx hb (hts _ qw2) rfl hK hP hD hS hA (a0 := (6, .inl (fun _ => 0))) (fun _ => rfl) (by decide) (by decide +kernel) (Nat.le_of_ble_eq_true rfl) (Nat.le_of_ble_eq_true rfl) (Nat.le_of_ble_eq_true rfl) dX6_init_31 (fun q7 c8 H hK hP hD hS => ?_)
  have hP : va_P (dC, dI) cls [(h0, .inr (2, [.int 0, .ref q1, .ref q3, .ref q5, .null, .null, .null, .int 0, .null, .null, .null, .int 0, .null])), (q7, .inl (c8, 6, .inl (fun _ => 0)))] H := hP
  have hD : va_D A [(h0, .inr (2, [.int 0, .ref q1, .ref q3, .ref q5, .null, .null, .null, .int 0, .null, .null, .null, .int 0, .null])), (q7, .inl (c8, 6, .inl (fun _ => 0)))] := hD
  have hK : va_K (dC, dI) cls [(c8, .int)] s := hK
  have hP : va_P (dC, dI) cls [(h0, .inr (2, [.int 0, .ref q1, .ref q3, .ref q5, .null, .null, .null, .int 0, .null, .null, .null, .int 0, .null]))] H := hP.sub [0] rfl
  have hD : va_D A [(h0, .inr (2, [.int 0, .ref q1, .ref q3, .ref q5, .null, .null, .null, .int 0, .null, .null, .null, .int 0, .null]))] := hD.sub [0] (by decide) rfl
  have hK : va_K (dC, dI) cls [] s := hK.sub [] rfl
  refine W.widen (k := 4) (n := 24) (Nat.le_of_ble_eq_true rfl) (Nat.le_of_ble_eq_true rfl) ?_
  refine va_putF (D := (dC, dI)) (ci := 2) (v := .ref q7) (ty := .array .int) (C := RX6) (T := TX6) (N := 13) hx hb hts i_X6 tyX6 tyX6_ok nmX6 hown hK hP hD hS 0 rfl rfl 4 (by decide) (hts _ qw9) (fun _ h9 => h9) rfl hin rfl (by decide +kernel) rfl rfl (Nat.le_of_ble_eq_true rfl) dX6_init_33 (fun H locs hP hD hS => ?_)
  have hP : va_P (dC, dI) cls [(h0, .inr (2, [.int 0, .ref q1, .ref q3, .ref q5, .ref q7, .null, .null, .int 0, .null, .null, .null, .int 0, .null]))] H := hP
  have hD : va_D A [(h0, .inr (2, [.int 0, .ref q1, .ref q3, .ref q5, .ref q7, .null, .null, .int 0, .null, .null, .null, .int 0, .null]))] := hD
  refine lv_aload_n hx hb dX6_init_36 rfl (lv_at hl 0 rfl) ?_
  refine lv_bipush (v := 6) hx hb dX6_init_37 (by decide) ?_
  refine va_newa (atype := .int) (ty := .int) hx hb (hts _ qw2) rfl hK hP hD hS hA (a0 := (6, .inl (fun _ => 0))) (fun _ => rfl) (by decide) (by decide +kernel) (Nat.le_of_ble_eq_true rfl) (Nat.le_of_ble_eq_true rfl) (Nat.le_of_ble_eq_true rfl) dX6_init_39 (fun q9 c10 H hK hP hD hS => ?_)
  have hP : va_P (dC, dI) cls [(h0, .inr (2, [.int 0, .ref q1, .ref q3, .ref q5, .ref q7, .null, .null, .int 0, .null, .null, .null, .int 0, .null])), (q9, .inl (c10, 6, .inl (fun _ => 0)))] H := hP
  have hD : va_D A [(h0, .inr (2, [.int 0, .ref q1, .ref q3, .ref q5, .ref q7, .null, .null, .int 0, .null, .null, .null, .int 0, .null])), (q9, .inl (c10, 6, .inl (fun _ => 0)))] := hD
  have hK : va_K (dC, dI) cls [(c10, .int)] s := hK
  have hP : va_P (dC, dI) cls [(h0, .inr (2, [.int 0, .ref q1, .ref q3, .ref q5, .ref q7, .null, .null, .int 0, .null, .null, .null, .int 0, .null]))] H := hP.sub [0] rfl
  have hD : va_D A [(h0, .inr (2, [.int 0, .ref q1, .ref q3, .ref q5, .ref q7, .null, .null, .int 0, .null, .null, .null, .int 0, .null]))] := hD.sub [0] (by decide) rfl
  have hK : va_K (dC, dI) cls [] s := hK.sub [] rfl
  refine W.widen (k := 5) (n := 30) (Nat.le_of_ble_eq_true rfl) (Nat.le_of_ble_eq_true rfl) ?_
  refine va_putF (D := (dC, dI)) (ci := 2) (v := .ref q9) (ty := .array .int) (C := RX6) (T := TX6) (N := 13) hx hb hts i_X6 tyX6 tyX6_ok nmX6 hown hK hP hD hS 0 rfl rfl 5 (by decide) (hts _ qw10) (fun _ h9 => h9) rfl hin rfl (by decide +kernel) rfl rfl (Nat.le_of_ble_eq_true rfl) dX6_init_41 (fun H locs hP hD hS => ?_)
  have hP : va_P (dC, dI) cls [(h0, .inr (2, [.int 0, .ref q1, .ref q3, .ref q5, .ref q7, .ref q9, .null, .int 0, .null, .null, .null, .int 0, .null]))] H := hP
  have hD : va_D A [(h0, .inr (2, [.int 0, .ref q1, .ref q3, .ref q5, .ref q7, .ref q9, .null, .int 0, .null, .null, .null, .int 0, .null]))] := hD
  refine lv_aload_n hx hb dX6_init_44 rfl (lv_at hl 0 rfl) ?_
  refine lv_bipush (v := 6) hx hb dX6_init_45 (by decide) ?_
  refine va_newa (atype := .int) (ty := .int) hx hb (hts _ qw2) rfl hK hP hD hS hA (a0 := (6, .inl (fun _ => 0))) (fun _ => rfl) (by decide) (by decide +kernel) (Nat.le_of_ble_eq_true rfl) (Nat.le_of_ble_eq_true rfl) (Nat.le_of_ble_eq_true rfl) dX6_init_47 (fun q11 c12 H hK hP hD hS => ?_)
  have hP : va_P (dC, dI) cls [(h0, .inr (2, [.int 0, .ref q1, .ref q3, .ref q5, .ref q7, .ref q9, .null, .int 0, .null, .null, .null, .int 0, .null])), (q11, .inl (c12, 6, .inl (fun _ => 0)))] H := hP
  have hD : va_D A [(h0, .inr (2, [.int 0, .ref q1, .ref q3, .ref q5, .ref q7, .ref q9, .null, .int 0, .null, .null, .null, .int 0, .null])), (q11, .inl (c12, 6, .inl (fun _ => 0)))] := hD
  have hK : va_K (dC, dI) cls [(c12, .int)] s := hK
  have hP : va_P (dC, dI) cls [(h0, .inr (2, [.int 0, .ref q1, .ref q3, .ref q5, .ref q7, .ref q9, .null, .int 0, .null, .null, .null, .int 0, .null]))] H := hP.sub [0] rfl
  have hD : va_D A [(h0, .inr (2, [.int 0, .ref q1, .ref q3, .ref q5, .ref q7, .ref q9, .null, .int 0, .null, .null, .null, .int 0, .null]))] := hD.sub [0] (by decide) rfl
  have hK : va_K (dC, dI) cls [] s := hK.sub [] rfl
  refine W.widen (k := 6) (n := 36) (Nat.le_of_ble_eq_true rfl) (Nat.le_of_ble_eq_true rfl) ?_
  refine va_putF (D := (dC, dI)) (ci := 2) (v := .ref q11) (ty := .array .int) (C := RX6) (T := TX6) (N := 13) hx hb hts i_X6 tyX6 tyX6_ok nmX6 hown hK hP hD hS 0 rfl rfl 6 (by decide) (hts _ qw11) (fun _ h9 => h9) rfl hin rfl (by decide +kernel) rfl rfl (Nat.le_of_ble_eq_true rfl) dX6_init_49 (fun H locs hP hD hS => ?_)
  have hP : va_P (dC, dI) cls [(h0, .inr (2, [.int 0, .ref q1, .ref q3, .ref q5, .ref q7, .ref q9, .ref q11, .int 0, .null, .null, .null, .int 0, .null]))] H := hP
  have hD : va_D A [(h0, .inr (2, [.int 0, .ref q1, .ref q3, .ref q5, .ref q7, .ref q9, .ref q11, .int 0, .null, .null, .null, .int 0, .null]))] := hD
  refine lv_aload_n hx hb dX6_init_52 rfl (lv_at hl 0 rfl) ?_
  refine lv_sipush (v := 3200) hx hb dX6_init_53 (by decide) ?_
  refine va_newa (atype := .int) (ty := .int) hx hb (hts _ qw2) rfl hK hP hD hS hA (a0 := (3200, .inl (fun _ => 0))) (fun _ => rfl) (by decide) (by decide +kernel) (Nat.le_of_ble_eq_true rfl) (Nat.le_of_ble_eq_true rfl) (Nat.le_of_ble_eq_true rfl) dX6_init_56 (fun q13 c14 H hK hP hD hS => ?_)
  have hP : va_P (dC, dI) cls [(h0, .inr (2, [.int 0, .ref q1, .ref q3, .ref q5, .ref q7, .ref q9, .ref q11, .int 0, .null, .null, .null, .int 0, .null])), (q13, .inl (c14, 3200, .inl (fun _ => 0)))] H := hP
  have hD : va_D A [(h0, .inr (2, [.int 0, .ref q1, .ref q3, .ref q5, .ref q7, .ref q9, .ref q11, .int 0, .null, .null, .null, .int 0, .null])), (q13, .inl (c14, 3200, .inl (fun _ => 0)))] := hD
  have hK : va_K (dC, dI) cls [(c14, .int)] s := hK
  have hP : va_P (dC, dI) cls [(h0, .inr (2, [.int 0, .ref q1, .ref q3, .ref q5, .ref q7, .ref q9, .ref q11, .int 0, .null, .null, .null, .int 0, .null]))] H := hP.sub [0] rfl
  have hD : va_D A [(h0, .inr (2, [.int 0, .ref q1, .ref q3, .ref q5, .ref q7, .ref q9, .ref q11, .int 0, .null, .null, .null, .int 0, .null]))] := hD.sub [0] (by decide) rfl
  have hK : va_K (dC, dI) cls [] s := hK.sub [] rfl
  refine W.widen (k := 7) (n := 3236) (Nat.le_of_ble_eq_true rfl) (Nat.le_of_ble_eq_true rfl) ?_
  refine va_putF (D := (dC, dI)) (ci := 2) (v := .ref q13) (ty := .array .int) (C := RX6) (T := TX6) (N := 13) hx hb hts i_X6 tyX6 tyX6_ok nmX6 hown hK hP hD hS 0 rfl rfl 8 (by decide) (hts _ qw12) (fun _ h9 => h9) rfl hin rfl (by decide +kernel) rfl rfl (Nat.le_of_ble_eq_true rfl) dX6_init_58 (fun H locs hP hD hS => ?_)
  have hP : va_P (dC, dI) cls [(h0, .inr (2, [.int 0, .ref q1, .ref q3, .ref q5, .ref q7, .ref q9, .ref q11, .int 0, .ref q13, .null, .null, .int 0, .null]))] H := hP
  have hD : va_D A [(h0, .inr (2, [.int 0, .ref q1, .ref q3, .ref q5, .ref q7, .ref q9, .ref q11, .int 0, .ref q13, .null, .null, .int 0, .null]))] := hD
  refine lv_aload_n hx hb dX6_init_61 rfl (lv_at hl 0 rfl) ?_
  refine lv_sipush (v := 3200) hx hb dX6_init_62 (by decide) ?_
  refine va_newa (atype := .int) (ty := .int) hx hb (hts _ qw2) rfl hK hP hD hS hA (a0 := (3200, .inl (fun _ => 0))) (fun _ => rfl) (by decide) (by decide +kernel) (Nat.le_of_ble_eq_true rfl) (Nat.le_of_ble_eq_true rfl) (Nat.le_of_ble_eq_true rfl) dX6_init_65 (fun q15 c16 H hK hP hD hS => ?_)
  have hP : va_P (dC, dI) cls [(h0, .inr (2, [.int 0, .ref q1, .ref q3, .ref q5, .ref q7, .ref q9, .ref q11, .int 0, .ref q13, .null, .null, .int 0, .null])), (q15, .inl (c16, 3200, .inl (fun _ => 0)))] H := hP
  have hD : va_D A [(h0, .inr (2, [.int 0, .ref q1, .ref q3, .ref q5, .ref q7, .ref q9, .ref q11, .int 0, .ref q13, .null, .null, .int 0, .null])), (q15, .inl (c16, 3200, .inl (fun _ => 0)))] := hD
  have hK : va_K (dC, dI) cls [(c16, .int)] s := hK
  have hP : va_P (dC, dI) cls [(h0, .inr (2, [.int 0, .ref q1, .ref q3, .ref q5, .ref q7, .ref q9, .ref q11, .int 0, .ref q13, .null, .null, .int 0, .null]))] H := hP.sub [0] rfl
  have hD : va_D A [(h0, .inr (2, [.int 0, .ref q1, .ref q3, .ref q5, .ref q7, .ref q9, .ref q11, .int 0, .ref q13, .null, .null, .int 0, .null]))] := hD.sub [0] (by decide) rfl
  have hK : va_K (dC, dI) cls [] s := hK.sub [] rfl
  refine W.widen (k := 8) (n := 6436) (Nat.le_of_ble_eq_true rfl) (Nat.le_of_ble_eq_true rfl) ?_
  refine va_putF (D := (dC, dI)) (ci := 2) (v := .ref q15) (ty := .array .int) (C := RX6) (T := TX6) (N := 13) hx hb hts i_X6 tyX6 tyX6_ok nmX6 hown hK hP hD hS 0 rfl rfl 9 (by decide) (hts _ qw13) (fun _ h9 => h9) rfl hin rfl (by decide +kernel) rfl rfl (Nat.le_of_ble_eq_true rfl) dX6_init_67 (fun H locs hP hD hS => ?_)
  have hP : va_P (dC, dI) cls [(h0, .inr (2, [.int 0, .ref q1, .ref q3, .ref q5, .ref q7, .ref q9, .ref q11, .int 0, .ref q13, .ref q15, .null, .int 0, .null]))] H := hP
  have hD : va_D A [(h0, .inr (2, [.int 0, .ref q1, .ref q3, .ref q5, .ref q7, .ref q9, .ref q11, .int 0, .ref q13, .ref q15, .null, .int 0, .null]))] := hD
  refine lv_aload_n hx hb dX6_init_70 rfl (lv_at hl 0 rfl) ?_
  refine lv_sipush (v := 3200) hx hb dX6_init_71 (by decide) ?_
  refine va_newa (atype := .int) (ty := .int) hx hb (hts _ qw2) rfl hK hP hD hS hA (a0 := (3200, .inl (fun _ => 0))) (fun _ => rfl) (by decide) (by decide +kernel) (Nat.le_of_ble_eq_true rfl) (Nat.le_of_ble_eq_true rfl) (Nat.le_of_ble_eq_true rfl) dX6_init_74 (fun q17 c18 H hK hP hD hS => ?_)
  have hP : va_P (dC, dI) cls [(h0, .inr (2, [.int 0, .ref q1, .ref q3, .ref q5, .ref q7, .ref q9, .ref q11, .int 0, .ref q13, .ref q15, .null, .int 0, .null])), (q17, .inl (c18, 3200, .inl (fun _ => 0)))] H := hP
  have hD : va_D A [(h0, .inr (2, [.int 0, .ref q1, .ref q3, .ref q5, .ref q7, .ref q9, .ref q11, .int 0, .ref q13, .ref q15, .null, .int 0, .null])), (q17, .inl (c18, 3200, .inl (fun _ => 0)))] := hD
  have hK : va_K (dC, dI) cls [(c18, .int)] s := hK
  have hP : va_P (dC, dI) cls [(h0, .inr (2, [.int 0, .ref q1, .ref q3, .ref q5, .ref q7, .ref q9, .ref q11, .int 0, .ref q13, .ref q15, .null, .int 0, .null]))] H := hP.sub [0] rfl
  have hD : va_D A [(h0, .inr (2, [.int 0, .ref q1, .ref q3, .ref q5, .ref q7, .ref q9, .ref q11, .int 0, .ref q13, .ref q15, .null, .int 0, .null]))] := hD.sub [0] (by decide) rfl
  have hK : va_K (dC, dI) cls [] s := hK.sub [] rfl
  refine W.widen (k := 9) (n := 9636) (Nat.le_of_ble_eq_true rfl) (Nat.le_of_ble_eq_true rfl) ?_
  refine va_putF (D := (dC, dI)) (ci := 2) (v := .ref q17) (ty := .array .int) (C := RX6) (T := TX6) (N := 13) hx hb hts i_X6 tyX6 tyX6_ok nmX6 hown hK hP hD hS 0 rfl rfl 10 (by decide) (hts _ qw14) (fun _ h9 => h9) rfl hin rfl (by decide +kernel) rfl rfl (Nat.le_of_ble_eq_true rfl) dX6_init_76 (fun H locs hP hD hS => ?_)
  have hP : va_P (dC, dI) cls [(h0, .inr (2, [.int 0, .ref q1, .ref q3, .ref q5, .ref q7, .ref q9, .ref q11, .int 0, .ref q13, .ref q15, .ref q17, .int 0, .null]))] H := hP
  have hD : va_D A [(h0, .inr (2, [.int 0, .ref q1, .ref q3, .ref q5, .ref q7, .ref q9, .ref q11, .int 0, .ref q13, .ref q15, .ref q17, .int 0, .null]))] := hD
  refine lv_aload_n hx hb dX6_init_79 rfl (lv_at hl 0 rfl) ?_
  refine lv_sipush (v := 640) hx hb dX6_init_80 (by decide) ?_
  refine va_newa (atype := .int) (ty := .int) hx hb (hts _ qw2) rfl hK hP hD hS hA (a0 := (640, .inl (fun _ => 0))) (fun _ => rfl) (by decide) (by decide +kernel) (Nat.le_of_ble_eq_true rfl) (Nat.le_of_ble_eq_true rfl) (Nat.le_of_ble_eq_true rfl) dX6_init_83 (fun q19 c20 H hK hP hD hS => ?_)
  have hP : va_P (dC, dI) cls [(h0, .inr (2, [.int 0, .ref q1, .ref q3, .ref q5, .ref q7, .ref q9, .ref q11, .int 0, .ref q13, .ref q15, .ref q17, .int 0, .null])), (q19, .inl (c20, 640, .inl (fun _ => 0)))] H := hP
  have hD : va_D A [(h0, .inr (2, [.int 0, .ref q1, .ref q3, .ref q5, .ref q7, .ref q9, .ref q11, .int 0, .ref q13, .ref q15, .ref q17, .int 0, .null])), (q19, .inl (c20, 640, .inl (fun _ => 0)))] := hD
  have hK : va_K (dC, dI) cls [(c20, .int)] s := hK
  have hP : va_P (dC, dI) cls [(h0, .inr (2, [.int 0, .ref q1, .ref q3, .ref q5, .ref q7, .ref q9, .ref q11, .int 0, .ref q13, .ref q15, .ref q17, .int 0, .null]))] H := hP.sub [0] rfl
  have hD : va_D A [(h0, .inr (2, [.int 0, .ref q1, .ref q3, .ref q5, .ref q7, .ref q9, .ref q11, .int 0, .ref q13, .ref q15, .ref q17, .int 0, .null]))] := hD.sub [0] (by decide) rfl
  have hK : va_K (dC, dI) cls [] s := hK.sub [] rfl
  refine W.widen (k := 10) (n := 10276) (Nat.le_of_ble_eq_true rfl) (Nat.le_of_ble_eq_true rfl) ?_
  refine va_putF (D := (dC, dI)) (ci := 2) (v := .ref q19) (ty := .array .int) (C := RX6) (T := TX6) (N := 13) hx hb hts i_X6 tyX6 tyX6_ok nmX6 hown hK hP hD hS 0 rfl rfl 12 (by decide) (hts _ qw15) (fun _ h9 => h9) rfl hin rfl (by decide +kernel) rfl rfl (Nat.le_of_ble_eq_true rfl) dX6_init_85 (fun H locs hP hD hS => ?_)
  have hP : va_P (dC, dI) cls [(h0, .inr (2, [.int 0, .ref q1, .ref q3, .ref q5, .ref q7, .ref q9, .ref q11, .int 0, .ref q13, .ref q15, .ref q17, .int 0, .ref q19]))] H := hP
  have hD : va_D A [(h0, .inr (2, [.int 0, .ref q1, .ref q3, .ref q5, .ref q7, .ref q9, .ref q11, .int 0, .ref q13, .ref q15, .ref q17, .int 0, .ref q19]))] := hD
  have hP9 : va_P (dC, dI) cls [(h0, .inr (2, [.int 0, .ref q1, .ref q3, .ref q5, .ref q7, .ref q9, .ref q11, .int 0, .ref q13, .ref q15, .ref q17, .int 0, .ref q19]))] H := hP.sub [0] rfl
  have hD9 : va_D A [(h0, .inr (2, [.int 0, .ref q1, .ref q3, .ref q5, .ref q7, .ref q9, .ref q11, .int 0, .ref q13, .ref q15, .ref q17, .int 0, .ref q19]))] := hD.sub [0] (by decide) rfl
  have hK9 : va_K (dC, dI) cls [] s := hK.sub [] rfl
  exact W.vret hx hb hr (fun t ht hW => ⟨⟨(), rfl, trivial, ⟨q1, q3, q5, q7, q9, q11, q13, q15, q17, q19, ⟨by rw [ht]; exact hP9, va_K.moved hW.alike hK9, hD9⟩⟩⟩, hS.F ht⟩) hS.2.2 dX6_init_88
set_option maxHeartbeats 4000000 in
set_option maxRecDepth 100000 in
theorem kX7_init {zs : Nat × Nat} (l : Launch) (dC : Nat → ClassId) (dI : Nat → Nat → Nat) (h0 : Nat) (h1 : Nat) (sz : Nat)  : Met l yX7_init (wz yX7_init cX7_init 2 (Option.none : Option Jvm.ClassFile.FieldType)) ({ frames := 1, cells := 8, slots := 3058, locals := 12 }) (va_Pc [.ref h0, .ref h1] (PRE zs dC dI [(h0, .inr (1, [.int 0, .null, .null, .int 0, .int 0, .int 0, .int 0, .null, .null, .int 0, .null, .null, .int 0, .null, .null, .null, .null, .int 0]))] [] sz)) (va_Qv (fun (_ : Unit) => True) (fun _ t => ∃ (q1 : Nat), ∃ (q3 : Nat), ∃ (q5 : Nat), ∃ (q7 : Nat), ∃ (q9 : Nat), ∃ (q11 : Nat), ∃ (q13 : Nat), ∃ (q15 : Nat), POST dC dI [(h0, .inr (1, [.int 0, .ref h1, .null, .int 0, .int 0, .int 0, .int 0, .ref q1, .ref q3, .int 0, .ref q5, .ref q7, .int 0, .ref q9, .ref q11, .ref q13, .ref q15, .int 0]))] [] (va_A [(h0, .inr (1, [.int 0, .null, .null, .int 0, .int 0, .int 0, .int 0, .null, .null, .int 0, .null, .null, .int 0, .null, .null, .null, .null, .int 0]))] sz) t) (va_A [(h0, .inr (1, [.int 0, .null, .null, .int 0, .int 0, .int 0, .int 0, .null, .null, .int 0, .null, .null, .int 0, .null, .null, .null, .null, .int 0]))] sz)) 8 3058 (va_A [(h0, .inr (1, [.int 0, .null, .null, .int 0, .int 0, .int 0, .int 0, .null, .null, .int 0, .null, .null, .int 0, .null, .null, .null, .null, .int 0]))] sz) := by
  refine Met.ofW (cc := cX7_init) (maxL := 2) (ret := (Option.none : Option Jvm.ClassFile.FieldType)) (by decide) rfl ?_
  intro p e s m args below meth c s₁ B hml hv
  obtain ⟨rfl, hsz, hP, hK, hD0, hE⟩ := hv
  have hx := B.exec
  have hb := B.bytes
  have hr := B.returns
  have hts0 := atoms_spec (ws := wz yX7_init cX7_init 2 (Option.none : Option Jvm.ClassFile.FieldType)) B.pre
  have hts : ∀ w ∈ gw, w.before _ s = true := fun w h => hts0 w (List.mem_cons_of_mem _ h)
  have hown : s.vm.findClass RX7 = some m.cls := findClass_of_methodNamed B.named
  have hlocks := B.notSynchronized
  have hin : meth.name = "<init>" := (name_of_methodNamed B.named B.method).1
  subst hsz
  have hD := hD0.self (sz := s.heap.size)
  generalize hAe : va_A [(h0, .inr (1, [.int 0, .null, .null, .int 0, .int 0, .int 0, .int 0, .null, .null, .int 0, .null, .null, .int 0, .null, .null, .null, .null, .int 0]))] s.heap.size = A at hD hE ⊢
  have hA : ∀ q : Nat, s.heap.size ≤ q → A q := fun q h => by rw [← hAe]; exact Or.inr h
  have hS : va_S A s.heap s.heap [] := va_S.rf
  have hP : va_P (dC, dI) cls [(h0, .inr (1, [.int 0, .null, .null, .int 0, .int 0, .int 0, .int 0, .null, .null, .int 0, .null, .null, .int 0, .null, .null, .null, .null, .int 0]))] s.heap := hP
  have hl := lv_entry ([.ref h0, .ref h1]) (n := 2) (Nat.le_of_ble_eq_true rfl)
  rw [lg_entry_eq]
  generalize (lg_sl ([.ref h0, .ref h1]) ++ List.replicate (2 - (lg_sl ([.ref h0, .ref h1])).length) Slot.unset).toArray = ls at hl ⊢
  have hl : lv_has ls 2 [(0, .ref h0), (1, .ref h1)] := hl
  refine lv_aload_n hx hb dX7_init_0 rfl (lv_at hl 0 rfl) ?_
  refine W.objInit hx hb hown (hts _ qw16) (hts _ qw1) (hts _ qw_oi) rfl (by rw [hml]; exact hl.1) rfl dX7_init_1 (Nat.le_of_ble_eq_true rfl) (Nat.le_of_ble_eq_true rfl) ?_
  refine W.eq (g2 := F0 m 4 ls []) rfl ?_
  refine lv_aload_n hx hb dX7_init_4 rfl (lv_at hl 0 rfl) ?_
  refine lv_sipush (v := 320) hx hb dX7_init_5 (by decide) ?_
  refine va_newa (atype := .long) (ty := .long) hx hb (hts _ qw5) rfl hK hP hD hS hA (a0 := (320, .inr <| .inl (fun _ => 0))) (fun _ => rfl) (by decide) (by decide +kernel) (Nat.le_of_ble_eq_true rfl) (Nat.le_of_ble_eq_true rfl) (Nat.le_of_ble_eq_true rfl) dX7_init_8 (fun q1 c2 H hK hP hD hS => ?_)
  have hP : va_P (dC, dI) cls [(h0, .inr (1, [.int 0, .null, .null, .int 0, .int 0, .int 0, .int 0, .null, .null, .int 0, .null, .null, .int 0, .null, .null, .null, .null, .int 0])), (q1, .inl (c2, 320, .inr (.inl (fun _ => 0))))] H := hP
  have hD : va_D A [(h0, .inr (1, [.int 0, .null, .null, .int 0, .int 0, .int 0, .int 0, .null, .null, .int 0, .null, .null, .int 0, .null, .null, .null, .null, .int 0])), (q1, .inl (c2, 320, .inr (.inl (fun _ => 0))))] := hD
  have hK : va_K (dC, dI) cls [(c2, .long)] s := hK
  have hP : va_P (dC, dI) cls [(h0, .inr (1, [.int 0, .null, .null, .int 0, .int 0, .int 0, .int 0, .null, .null, .int 0, .null, .null, .int 0, .null, .null, .null, .null, .int 0]))] H := hP.sub [0] rfl
  have hD : va_D A [(h0, .inr (1, [.int 0, .null, .null, .int 0, .int 0, .int 0, .int 0, .null, .null, .int 0, .null, .null, .int 0, .null, .null, .null, .null, .int 0]))] := hD.sub [0] (by decide) rfl
  have hK : va_K (dC, dI) cls [] s := hK.sub [] rfl
  refine W.widen (k := 1) (n := 320) (Nat.le_of_ble_eq_true rfl) (Nat.le_of_ble_eq_true rfl) ?_
  refine va_putF (D := (dC, dI)) (ci := 1) (v := .ref q1) (ty := .array .long) (C := RX7) (T := TX7) (N := 18) hx hb hts i_X7 tyX7 tyX7_ok nmX7 hown hK hP hD hS 0 rfl rfl 7 (by decide) (hts _ qw17) (fun _ h9 => h9) rfl hin rfl (by decide +kernel) rfl rfl (Nat.le_of_ble_eq_true rfl) dX7_init_10 (fun H locs hP hD hS => ?_)
  have hP : va_P (dC, dI) cls [(h0, .inr (1, [.int 0, .null, .null, .int 0, .int 0, .int 0, .int 0, .ref q1, .null, .int 0, .null, .null, .int 0, .null, .null, .null, .null, .int 0]))] H := hP
  have hD : va_D A [(h0, .inr (1, [.int 0, .null, .null, .int 0, .int 0, .int 0, .int 0, .ref q1, .null, .int 0, .null, .null, .int 0, .null, .null, .null, .null, .int 0]))] := hD
  refine lv_aload_n hx hb dX7_init_13 rfl (lv_at hl 0 rfl) ?_
  refine lv_sipush (v := 320) hx hb dX7_init_14 (by decide) ?_
  refine va_newa (atype := .int) (ty := .int) hx hb (hts _ qw2) rfl hK hP hD hS hA (a0 := (320, .inl (fun _ => 0))) (fun _ => rfl) (by decide) (by decide +kernel) (Nat.le_of_ble_eq_true rfl) (Nat.le_of_ble_eq_true rfl) (Nat.le_of_ble_eq_true rfl) dX7_init_17 (fun q3 c4 H hK hP hD hS => ?_)
  have hP : va_P (dC, dI) cls [(h0, .inr (1, [.int 0, .null, .null, .int 0, .int 0, .int 0, .int 0, .ref q1, .null, .int 0, .null, .null, .int 0, .null, .null, .null, .null, .int 0])), (q3, .inl (c4, 320, .inl (fun _ => 0)))] H := hP
  have hD : va_D A [(h0, .inr (1, [.int 0, .null, .null, .int 0, .int 0, .int 0, .int 0, .ref q1, .null, .int 0, .null, .null, .int 0, .null, .null, .null, .null, .int 0])), (q3, .inl (c4, 320, .inl (fun _ => 0)))] := hD
  have hK : va_K (dC, dI) cls [(c4, .int)] s := hK
  have hP : va_P (dC, dI) cls [(h0, .inr (1, [.int 0, .null, .null, .int 0, .int 0, .int 0, .int 0, .ref q1, .null, .int 0, .null, .null, .int 0, .null, .null, .null, .null, .int 0]))] H := hP.sub [0] rfl
  have hD : va_D A [(h0, .inr (1, [.int 0, .null, .null, .int 0, .int 0, .int 0, .int 0, .ref q1, .null, .int 0, .null, .null, .int 0, .null, .null, .null, .null, .int 0]))] := hD.sub [0] (by decide) rfl
  have hK : va_K (dC, dI) cls [] s := hK.sub [] rfl
  refine W.widen (k := 2) (n := 640) (Nat.le_of_ble_eq_true rfl) (Nat.le_of_ble_eq_true rfl) ?_
  refine va_putF (D := (dC, dI)) (ci := 1) (v := .ref q3) (ty := .array .int) (C := RX7) (T := TX7) (N := 18) hx hb hts i_X7 tyX7 tyX7_ok nmX7 hown hK hP hD hS 0 rfl rfl 8 (by decide) (hts _ qw18) (fun _ h9 => h9) rfl hin rfl (by decide +kernel) rfl rfl (Nat.le_of_ble_eq_true rfl) dX7_init_19 (fun H locs hP hD hS => ?_)
  have hP : va_P (dC, dI) cls [(h0, .inr (1, [.int 0, .null, .null, .int 0, .int 0, .int 0, .int 0, .ref q1, .ref q3, .int 0, .null, .null, .int 0, .null, .null, .null, .null, .int 0]))] H := hP
  have hD : va_D A [(h0, .inr (1, [.int 0, .null, .null, .int 0, .int 0, .int 0, .int 0, .ref q1, .ref q3, .int 0, .null, .null, .int 0, .null, .null, .null, .null, .int 0]))] := hD
  refine lv_aload_n hx hb dX7_init_22 rfl (lv_at hl 0 rfl) ?_
  refine lv_bipush (v := 9) hx hb dX7_init_23 (by decide) ?_
  refine va_newa (atype := .int) (ty := .int) hx hb (hts _ qw2) rfl hK hP hD hS hA (a0 := (9, .inl (fun _ => 0))) (fun _ => rfl) (by decide) (by decide +kernel) (Nat.le_of_ble_eq_true rfl) (Nat.le_of_ble_eq_true rfl) (Nat.le_of_ble_eq_true rfl) dX7_init_25 (fun q5 c6 H hK hP hD hS => ?_)
  have hP : va_P (dC, dI) cls [(h0, .inr (1, [.int 0, .null, .null, .int 0, .int 0, .int 0, .int 0, .ref q1, .ref q3, .int 0, .null, .null, .int 0, .null, .null, .null, .null, .int 0])), (q5, .inl (c6, 9, .inl (fun _ => 0)))] H := hP
  have hD : va_D A [(h0, .inr (1, [.int 0, .null, .null, .int 0, .int 0, .int 0, .int 0, .ref q1, .ref q3, .int 0, .null, .null, .int 0, .null, .null, .null, .null, .int 0])), (q5, .inl (c6, 9, .inl (fun _ => 0)))] := hD
  have hK : va_K (dC, dI) cls [(c6, .int)] s := hK
  have hP : va_P (dC, dI) cls [(h0, .inr (1, [.int 0, .null, .null, .int 0, .int 0, .int 0, .int 0, .ref q1, .ref q3, .int 0, .null, .null, .int 0, .null, .null, .null, .null, .int 0]))] H := hP.sub [0] rfl
  have hD : va_D A [(h0, .inr (1, [.int 0, .null, .null, .int 0, .int 0, .int 0, .int 0, .ref q1, .ref q3, .int 0, .null, .null, .int 0, .null, .null, .null, .null, .int 0]))] := hD.sub [0] (by decide) rfl
  have hK : va_K (dC, dI) cls [] s := hK.sub [] rfl
  refine W.widen (k := 3) (n := 649) (Nat.le_of_ble_eq_true rfl) (Nat.le_of_ble_eq_true rfl) ?_
  refine va_putF (D := (dC, dI)) (ci := 1) (v := .ref q5) (ty := .array .int) (C := RX7) (T := TX7) (N := 18) hx hb hts i_X7 tyX7 tyX7_ok nmX7 hown hK hP hD hS 0 rfl rfl 10 (by decide) (hts _ qw19) (fun _ h9 => h9) rfl hin rfl (by decide +kernel) rfl rfl (Nat.le_of_ble_eq_true rfl) dX7_init_27 (fun H locs hP hD hS => ?_)
  have hP : va_P (dC, dI) cls [(h0, .inr (1, [.int 0, .null, .null, .int 0, .int 0, .int 0, .int 0, .ref q1, .ref q3, .int 0, .ref q5, .null, .int 0, .null, .null, .null, .null, .int 0]))] H := hP
  have hD : va_D A [(h0, .inr (1, [.int 0, .null, .null, .int 0, .int 0, .int 0, .int 0, .ref q1, .ref q3, .int 0, .ref q5, .null, .int 0, .null, .null, .null, .null, .int 0]))] := hD
  refine lv_aload_n hx hb dX7_init_30 rfl (lv_at hl 0 rfl) ?_
  refine lv_bipush (v := 9) hx hb dX7_init_31 (by decide) ?_
  refine va_newa (atype := .int) (ty := .int) hx hb (hts _ qw2) rfl hK hP hD hS hA (a0 := (9, .inl (fun _ => 0))) (fun _ => rfl) (by decide) (by decide +kernel) (Nat.le_of_ble_eq_true rfl) (Nat.le_of_ble_eq_true rfl) (Nat.le_of_ble_eq_true rfl) dX7_init_33 (fun q7 c8 H hK hP hD hS => ?_)
  have hP : va_P (dC, dI) cls [(h0, .inr (1, [.int 0, .null, .null, .int 0, .int 0, .int 0, .int 0, .ref q1, .ref q3, .int 0, .ref q5, .null, .int 0, .null, .null, .null, .null, .int 0])), (q7, .inl (c8, 9, .inl (fun _ => 0)))] H := hP
  have hD : va_D A [(h0, .inr (1, [.int 0, .null, .null, .int 0, .int 0, .int 0, .int 0, .ref q1, .ref q3, .int 0, .ref q5, .null, .int 0, .null, .null, .null, .null, .int 0])), (q7, .inl (c8, 9, .inl (fun _ => 0)))] := hD
  have hK : va_K (dC, dI) cls [(c8, .int)] s := hK
  have hP : va_P (dC, dI) cls [(h0, .inr (1, [.int 0, .null, .null, .int 0, .int 0, .int 0, .int 0, .ref q1, .ref q3, .int 0, .ref q5, .null, .int 0, .null, .null, .null, .null, .int 0]))] H := hP.sub [0] rfl
  have hD : va_D A [(h0, .inr (1, [.int 0, .null, .null, .int 0, .int 0, .int 0, .int 0, .ref q1, .ref q3, .int 0, .ref q5, .null, .int 0, .null, .null, .null, .null, .int 0]))] := hD.sub [0] (by decide) rfl
  have hK : va_K (dC, dI) cls [] s := hK.sub [] rfl
  refine W.widen (k := 4) (n := 658) (Nat.le_of_ble_eq_true rfl) (Nat.le_of_ble_eq_true rfl) ?_
  refine va_putF (D := (dC, dI)) (ci := 1) (v := .ref q7) (ty := .array .int) (C := RX7) (T := TX7) (N := 18) hx hb hts i_X7 tyX7 tyX7_ok nmX7 hown hK hP hD hS 0 rfl rfl 11 (by decide) (hts _ qw20) (fun _ h9 => h9) rfl hin rfl (by decide +kernel) rfl rfl (Nat.le_of_ble_eq_true rfl) dX7_init_35 (fun H locs hP hD hS => ?_)
  have hP : va_P (dC, dI) cls [(h0, .inr (1, [.int 0, .null, .null, .int 0, .int 0, .int 0, .int 0, .ref q1, .ref q3, .int 0, .ref q5, .ref q7, .int 0, .null, .null, .null, .null, .int 0]))] H := hP
  have hD : va_D A [(h0, .inr (1, [.int 0, .null, .null, .int 0, .int 0, .int 0, .int 0, .ref q1, .ref q3, .int 0, .ref q5, .ref q7, .int 0, .null, .null, .null, .null, .int 0]))] := hD
  refine lv_aload_n hx hb dX7_init_38 rfl (lv_at hl 0 rfl) ?_
  refine lv_sipush (v := 600) hx hb dX7_init_39 (by decide) ?_
  refine va_newa (atype := .long) (ty := .long) hx hb (hts _ qw5) rfl hK hP hD hS hA (a0 := (600, .inr <| .inl (fun _ => 0))) (fun _ => rfl) (by decide) (by decide +kernel) (Nat.le_of_ble_eq_true rfl) (Nat.le_of_ble_eq_true rfl) (Nat.le_of_ble_eq_true rfl) dX7_init_42 (fun q9 c10 H hK hP hD hS => ?_)
  have hP : va_P (dC, dI) cls [(h0, .inr (1, [.int 0, .null, .null, .int 0, .int 0, .int 0, .int 0, .ref q1, .ref q3, .int 0, .ref q5, .ref q7, .int 0, .null, .null, .null, .null, .int 0])), (q9, .inl (c10, 600, .inr (.inl (fun _ => 0))))] H := hP
  have hD : va_D A [(h0, .inr (1, [.int 0, .null, .null, .int 0, .int 0, .int 0, .int 0, .ref q1, .ref q3, .int 0, .ref q5, .ref q7, .int 0, .null, .null, .null, .null, .int 0])), (q9, .inl (c10, 600, .inr (.inl (fun _ => 0))))] := hD
  have hK : va_K (dC, dI) cls [(c10, .long)] s := hK
  have hP : va_P (dC, dI) cls [(h0, .inr (1, [.int 0, .null, .null, .int 0, .int 0, .int 0, .int 0, .ref q1, .ref q3, .int 0, .ref q5, .ref q7, .int 0, .null, .null, .null, .null, .int 0]))] H := hP.sub [0] rfl
  have hD : va_D A [(h0, .inr (1, [.int 0, .null, .null, .int 0, .int 0, .int 0, .int 0, .ref q1, .ref q3, .int 0, .ref q5, .ref q7, .int 0, .null, .null, .null, .null, .int 0]))] := hD.sub [0] (by decide) rfl
  have hK : va_K (dC, dI) cls [] s := hK.sub [] rfl
  refine W.widen (k := 5) (n := 1258) (Nat.le_of_ble_eq_true rfl) (Nat.le_of_ble_eq_true rfl) ?_
  refine va_putF (D := (dC, dI)) (ci := 1) (v := .ref q9) (ty := .array .long) (C := RX7) (T := TX7) (N := 18) hx hb hts i_X7 tyX7 tyX7_ok nmX7 hown hK hP hD hS 0 rfl rfl 13 (by decide) (hts _ qw21) (fun _ h9 => h9) rfl hin rfl (by decide +kernel) rfl rfl (Nat.le_of_ble_eq_true rfl) dX7_init_44 (fun H locs hP hD hS => ?_)
  have hP : va_P (dC, dI) cls [(h0, .inr (1, [.int 0, .null, .null, .int 0, .int 0, .int 0, .int 0, .ref q1, .ref q3, .int 0, .ref q5, .ref q7, .int 0, .ref q9, .null, .null, .null, .int 0]))] H := hP
  have hD : va_D A [(h0, .inr (1, [.int 0, .null, .null, .int 0, .int 0, .int 0, .int 0, .ref q1, .ref q3, .int 0, .ref q5, .ref q7, .int 0, .ref q9, .null, .null, .null, .int 0]))] := hD
  refine lv_aload_n hx hb dX7_init_47 rfl (lv_at hl 0 rfl) ?_
  refine lv_sipush (v := 600) hx hb dX7_init_48 (by decide) ?_
  refine va_newa (atype := .int) (ty := .int) hx hb (hts _ qw2) rfl hK hP hD hS hA (a0 := (600, .inl (fun _ => 0))) (fun _ => rfl) (by decide) (by decide +kernel) (Nat.le_of_ble_eq_true rfl) (Nat.le_of_ble_eq_true rfl) (Nat.le_of_ble_eq_true rfl) dX7_init_51 (fun q11 c12 H hK hP hD hS => ?_)
  have hP : va_P (dC, dI) cls [(h0, .inr (1, [.int 0, .null, .null, .int 0, .int 0, .int 0, .int 0, .ref q1, .ref q3, .int 0, .ref q5, .ref q7, .int 0, .ref q9, .null, .null, .null, .int 0])), (q11, .inl (c12, 600, .inl (fun _ => 0)))] H := hP
  have hD : va_D A [(h0, .inr (1, [.int 0, .null, .null, .int 0, .int 0, .int 0, .int 0, .ref q1, .ref q3, .int 0, .ref q5, .ref q7, .int 0, .ref q9, .null, .null, .null, .int 0])), (q11, .inl (c12, 600, .inl (fun _ => 0)))] := hD
  have hK : va_K (dC, dI) cls [(c12, .int)] s := hK
  have hP : va_P (dC, dI) cls [(h0, .inr (1, [.int 0, .null, .null, .int 0, .int 0, .int 0, .int 0, .ref q1, .ref q3, .int 0, .ref q5, .ref q7, .int 0, .ref q9, .null, .null, .null, .int 0]))] H := hP.sub [0] rfl
  have hD : va_D A [(h0, .inr (1, [.int 0, .null, .null, .int 0, .int 0, .int 0, .int 0, .ref q1, .ref q3, .int 0, .ref q5, .ref q7, .int 0, .ref q9, .null, .null, .null, .int 0]))] := hD.sub [0] (by decide) rfl
  have hK : va_K (dC, dI) cls [] s := hK.sub [] rfl
  refine W.widen (k := 6) (n := 1858) (Nat.le_of_ble_eq_true rfl) (Nat.le_of_ble_eq_true rfl) ?_
  refine va_putF (D := (dC, dI)) (ci := 1) (v := .ref q11) (ty := .array .int) (C := RX7) (T := TX7) (N := 18) hx hb hts i_X7 tyX7 tyX7_ok nmX7 hown hK hP hD hS 0 rfl rfl 14 (by decide) (hts _ qw22) (fun _ h9 => h9) rfl hin rfl (by decide +kernel) rfl rfl (Nat.le_of_ble_eq_true rfl) dX7_init_53 (fun H locs hP hD hS => ?_)
  have hP : va_P (dC, dI) cls [(h0, .inr (1, [.int 0, .null, .null, .int 0, .int 0, .int 0, .int 0, .ref q1, .ref q3, .int 0, .ref q5, .ref q7, .int 0, .ref q9, .ref q11, .null, .null, .int 0]))] H := hP
  have hD : va_D A [(h0, .inr (1, [.int 0, .null, .null, .int 0, .int 0, .int 0, .int 0, .ref q1, .ref q3, .int 0, .ref q5, .ref q7, .int 0, .ref q9, .ref q11, .null, .null, .int 0]))] := hD
  refine lv_aload_n hx hb dX7_init_56 rfl (lv_at hl 0 rfl) ?_
  refine lv_sipush (v := 600) hx hb dX7_init_57 (by decide) ?_
  refine va_newa (atype := .int) (ty := .int) hx hb (hts _ qw2) rfl hK hP hD hS hA (a0 := (600, .inl (fun _ => 0))) (fun _ => rfl) (by decide) (by decide +kernel) (Nat.le_of_ble_eq_true rfl) (Nat.le_of_ble_eq_true rfl) (Nat.le_of_ble_eq_true rfl) dX7_init_60 (fun q13 c14 H hK hP hD hS => ?_)
  have hP : va_P (dC, dI) cls [(h0, .inr (1, [.int 0, .null, .null, .int 0, .int 0, .int 0, .int 0, .ref q1, .ref q3, .int 0, .ref q5, .ref q7, .int 0, .ref q9, .ref q11, .null, .null, .int 0])), (q13, .inl (c14, 600, .inl (fun _ => 0)))] H := hP
  have hD : va_D A [(h0, .inr (1, [.int 0, .null, .null, .int 0, .int 0, .int 0, .int 0, .ref q1, .ref q3, .int 0, .ref q5, .ref q7, .int 0, .ref q9, .ref q11, .null, .null, .int 0])), (q13, .inl (c14, 600, .inl (fun _ => 0)))] := hD
  have hK : va_K (dC, dI) cls [(c14, .int)] s := hK
  have hP : va_P (dC, dI) cls [(h0, .inr (1, [.int 0, .null, .null, .int 0, .int 0, .int 0, .int 0, .ref q1, .ref q3, .int 0, .ref q5, .ref q7, .int 0, .ref q9, .ref q11, .null, .null, .int 0]))] H := hP.sub [0] rfl
  have hD : va_D A [(h0, .inr (1, [.int 0, .null, .null, .int 0, .int 0, .int 0, .int 0, .ref q1, .ref q3, .int 0, .ref q5, .ref q7, .int 0, .ref q9, .ref q11, .null, .null, .int 0]))] := hD.sub [0] (by decide) rfl
  have hK : va_K (dC, dI) cls [] s := hK.sub [] rfl
  refine W.widen (k := 7) (n := 2458) (Nat.le_of_ble_eq_true rfl) (Nat.le_of_ble_eq_true rfl) ?_
  refine va_putF (D := (dC, dI)) (ci := 1) (v := .ref q13) (ty := .array .int) (C := RX7) (T := TX7) (N := 18) hx hb hts i_X7 tyX7 tyX7_ok nmX7 hown hK hP hD hS 0 rfl rfl 15 (by decide) (hts _ qw23) (fun _ h9 => h9) rfl hin rfl (by decide +kernel) rfl rfl (Nat.le_of_ble_eq_true rfl) dX7_init_62 (fun H locs hP hD hS => ?_)
  have hP : va_P (dC, dI) cls [(h0, .inr (1, [.int 0, .null, .null, .int 0, .int 0, .int 0, .int 0, .ref q1, .ref q3, .int 0, .ref q5, .ref q7, .int 0, .ref q9, .ref q11, .ref q13, .null, .int 0]))] H := hP
  have hD : va_D A [(h0, .inr (1, [.int 0, .null, .null, .int 0, .int 0, .int 0, .int 0, .ref q1, .ref q3, .int 0, .ref q5, .ref q7, .int 0, .ref q9, .ref q11, .ref q13, .null, .int 0]))] := hD
  refine lv_aload_n hx hb dX7_init_65 rfl (lv_at hl 0 rfl) ?_
  refine lv_sipush (v := 600) hx hb dX7_init_66 (by decide) ?_
  refine va_newa (atype := .int) (ty := .int) hx hb (hts _ qw2) rfl hK hP hD hS hA (a0 := (600, .inl (fun _ => 0))) (fun _ => rfl) (by decide) (by decide +kernel) (Nat.le_of_ble_eq_true rfl) (Nat.le_of_ble_eq_true rfl) (Nat.le_of_ble_eq_true rfl) dX7_init_69 (fun q15 c16 H hK hP hD hS => ?_)
  have hP : va_P (dC, dI) cls [(h0, .inr (1, [.int 0, .null, .null, .int 0, .int 0, .int 0, .int 0, .ref q1, .ref q3, .int 0, .ref q5, .ref q7, .int 0, .ref q9, .ref q11, .ref q13, .null, .int 0])), (q15, .inl (c16, 600, .inl (fun _ => 0)))] H := hP
  have hD : va_D A [(h0, .inr (1, [.int 0, .null, .null, .int 0, .int 0, .int 0, .int 0, .ref q1, .ref q3, .int 0, .ref q5, .ref q7, .int 0, .ref q9, .ref q11, .ref q13, .null, .int 0])), (q15, .inl (c16, 600, .inl (fun _ => 0)))] := hD
  have hK : va_K (dC, dI) cls [(c16, .int)] s := hK
  have hP : va_P (dC, dI) cls [(h0, .inr (1, [.int 0, .null, .null, .int 0, .int 0, .int 0, .int 0, .ref q1, .ref q3, .int 0, .ref q5, .ref q7, .int 0, .ref q9, .ref q11, .ref q13, .null, .int 0]))] H := hP.sub [0] rfl
  have hD : va_D A [(h0, .inr (1, [.int 0, .null, .null, .int 0, .int 0, .int 0, .int 0, .ref q1, .ref q3, .int 0, .ref q5, .ref q7, .int 0, .ref q9, .ref q11, .ref q13, .null, .int 0]))] := hD.sub [0] (by decide) rfl
  have hK : va_K (dC, dI) cls [] s := hK.sub [] rfl
  refine W.widen (k := 8) (n := 3058) (Nat.le_of_ble_eq_true rfl) (Nat.le_of_ble_eq_true rfl) ?_
  refine va_putF (D := (dC, dI)) (ci := 1) (v := .ref q15) (ty := .array .int) (C := RX7) (T := TX7) (N := 18) hx hb hts i_X7 tyX7 tyX7_ok nmX7 hown hK hP hD hS 0 rfl rfl 16 (by decide) (hts _ qw24) (fun _ h9 => h9) rfl hin rfl (by decide +kernel) rfl rfl (Nat.le_of_ble_eq_true rfl) dX7_init_71 (fun H locs hP hD hS => ?_)
  have hP : va_P (dC, dI) cls [(h0, .inr (1, [.int 0, .null, .null, .int 0, .int 0, .int 0, .int 0, .ref q1, .ref q3, .int 0, .ref q5, .ref q7, .int 0, .ref q9, .ref q11, .ref q13, .ref q15, .int 0]))] H := hP
  have hD : va_D A [(h0, .inr (1, [.int 0, .null, .null, .int 0, .int 0, .int 0, .int 0, .ref q1, .ref q3, .int 0, .ref q5, .ref q7, .int 0, .ref q9, .ref q11, .ref q13, .ref q15, .int 0]))] := hD
  refine lv_aload_n hx hb dX7_init_74 rfl (lv_at hl 0 rfl) ?_
  refine lv_aload_n hx hb dX7_init_75 rfl (lv_at hl 1 rfl) ?_
  refine va_putF (D := (dC, dI)) (ci := 1) (v := .ref h1) (ty := .object "Gearbox$Tokens") (C := RX7) (T := TX7) (N := 18) hx hb hts i_X7 tyX7 tyX7_ok nmX7 hown hK hP hD hS 0 rfl rfl 1 (by decide) (hts _ qw25) (fun _ h9 => h9) rfl hin rfl (by decide +kernel) rfl rfl (Nat.le_of_ble_eq_true rfl) dX7_init_76 (fun H locs hP hD hS => ?_)
  have hP : va_P (dC, dI) cls [(h0, .inr (1, [.int 0, .ref h1, .null, .int 0, .int 0, .int 0, .int 0, .ref q1, .ref q3, .int 0, .ref q5, .ref q7, .int 0, .ref q9, .ref q11, .ref q13, .ref q15, .int 0]))] H := hP
  have hD : va_D A [(h0, .inr (1, [.int 0, .ref h1, .null, .int 0, .int 0, .int 0, .int 0, .ref q1, .ref q3, .int 0, .ref q5, .ref q7, .int 0, .ref q9, .ref q11, .ref q13, .ref q15, .int 0]))] := hD
  have hP9 : va_P (dC, dI) cls [(h0, .inr (1, [.int 0, .ref h1, .null, .int 0, .int 0, .int 0, .int 0, .ref q1, .ref q3, .int 0, .ref q5, .ref q7, .int 0, .ref q9, .ref q11, .ref q13, .ref q15, .int 0]))] H := hP.sub [0] rfl
  have hD9 : va_D A [(h0, .inr (1, [.int 0, .ref h1, .null, .int 0, .int 0, .int 0, .int 0, .ref q1, .ref q3, .int 0, .ref q5, .ref q7, .int 0, .ref q9, .ref q11, .ref q13, .ref q15, .int 0]))] := hD.sub [0] (by decide) rfl
  have hK9 : va_K (dC, dI) cls [] s := hK.sub [] rfl
  exact W.vret hx hb hr (fun t ht hW => ⟨⟨(), rfl, trivial, ⟨q1, q3, q5, q7, q9, q11, q13, q15, ⟨by rw [ht]; exact hP9, va_K.moved hW.alike hK9, hD9⟩⟩⟩, hS.F ht⟩) hS.2.2 dX7_init_79
set_option maxHeartbeats 4000000 in
set_option maxRecDepth 100000 in
theorem kX9_init {zs : Nat × Nat} (l : Launch) (dC : Nat → ClassId) (dI : Nat → Nat → Nat) (h0 : Nat) (sz : Nat)  : Met l yX9_init (wz yX9_init cX9_init 2 (Option.none : Option Jvm.ClassFile.FieldType)) ({ frames := 1, cells := 5, slots := 1280, locals := 12 }) (va_Pc [.ref h0, .int 256] (PRE zs dC dI [(h0, .inr (3, [.int 0, .null, .null, .null, .null, .null]))] [] sz)) (va_Qv (fun (_ : Unit) => True) (fun _ t => ∃ (q1 : Nat), ∃ (q3 : Nat), ∃ (q5 : Nat), ∃ (q7 : Nat), ∃ (q9 : Nat), POST dC dI [(h0, .inr (3, [.int 0, .ref q1, .ref q3, .ref q5, .ref q7, .ref q9]))] [] (va_A [(h0, .inr (3, [.int 0, .null, .null, .null, .null, .null]))] sz) t) (va_A [(h0, .inr (3, [.int 0, .null, .null, .null, .null, .null]))] sz)) 5 1280 (va_A [(h0, .inr (3, [.int 0, .null, .null, .null, .null, .null]))] sz) := by
  refine Met.ofW (cc := cX9_init) (maxL := 2) (ret := (Option.none : Option Jvm.ClassFile.FieldType)) (by decide) rfl ?_
  intro p e s m args below meth c s₁ B hml hv
  obtain ⟨rfl, hsz, hP, hK, hD0, hE⟩ := hv
  have hx := B.exec
  have hb := B.bytes
  have hr := B.returns
  have hts0 := atoms_spec (ws := wz yX9_init cX9_init 2 (Option.none : Option Jvm.ClassFile.FieldType)) B.pre
  have hts : ∀ w ∈ gw, w.before _ s = true := fun w h => hts0 w (List.mem_cons_of_mem _ h)
  have hown : s.vm.findClass RX9 = some m.cls := findClass_of_methodNamed B.named
  have hlocks := B.notSynchronized
  have hin : meth.name = "<init>" := (name_of_methodNamed B.named B.method).1
  subst hsz
  have hD := hD0.self (sz := s.heap.size)
  generalize hAe : va_A [(h0, .inr (3, [.int 0, .null, .null, .null, .null, .null]))] s.heap.size = A at hD hE ⊢
  have hA : ∀ q : Nat, s.heap.size ≤ q → A q := fun q h => by rw [← hAe]; exact Or.inr h
  have hS : va_S A s.heap s.heap [] := va_S.rf
  have hP : va_P (dC, dI) cls [(h0, .inr (3, [.int 0, .null, .null, .null, .null, .null]))] s.heap := hP
  have hl := lv_entry ([.ref h0, .int 256]) (n := 2) (Nat.le_of_ble_eq_true rfl)
  rw [lg_entry_eq]
  generalize (lg_sl ([.ref h0, .int 256]) ++ List.replicate (2 - (lg_sl ([.ref h0, .int 256])).length) Slot.unset).toArray = ls at hl ⊢
  have hl : lv_has ls 2 [(0, .ref h0), (1, .int 256)] := hl
  refine lv_aload_n hx hb dX9_init_0 rfl (lv_at hl 0 rfl) ?_
  refine W.objInit hx hb hown (hts _ qw26) (hts _ qw1) (hts _ qw_oi) rfl (by rw [hml]; exact hl.1) rfl dX9_init_1 (Nat.le_of_ble_eq_true rfl) (Nat.le_of_ble_eq_true rfl) ?_
  refine W.eq (g2 := F0 m 4 ls []) rfl ?_
  refine lv_aload_n hx hb dX9_init_4 rfl (lv_at hl 0 rfl) ?_
  refine lv_iload_n hx hb dX9_init_5 rfl (lv_at hl 1 rfl) ?_
  refine va_newa (atype := .int) (ty := .int) hx hb (hts _ qw2) rfl hK hP hD hS hA (a0 := (256, .inl (fun _ => 0))) (fun _ => rfl) (by decide) (by decide +kernel) (Nat.le_of_ble_eq_true rfl) (Nat.le_of_ble_eq_true rfl) (Nat.le_of_ble_eq_true rfl) dX9_init_6 (fun q1 c2 H hK hP hD hS => ?_)
  have hP : va_P (dC, dI) cls [(h0, .inr (3, [.int 0, .null, .null, .null, .null, .null])), (q1, .inl (c2, 256, .inl (fun _ => 0)))] H := hP
  have hD : va_D A [(h0, .inr (3, [.int 0, .null, .null, .null, .null, .null])), (q1, .inl (c2, 256, .inl (fun _ => 0)))] := hD
  have hK : va_K (dC, dI) cls [(c2, .int)] s := hK
  have hP : va_P (dC, dI) cls [(h0, .inr (3, [.int 0, .null, .null, .null, .null, .null]))] H := hP.sub [0] rfl
  have hD : va_D A [(h0, .inr (3, [.int 0, .null, .null, .null, .null, .null]))] := hD.sub [0] (by decide) rfl
  have hK : va_K (dC, dI) cls [] s := hK.sub [] rfl
  refine W.widen (k := 1) (n := 256) (Nat.le_of_ble_eq_true rfl) (Nat.le_of_ble_eq_true rfl) ?_
  refine va_put (D := (dC, dI)) (ci := 3) (v := .ref q1) (ty := .array .int) (C := RX9) (T := TX9) (N := 6) hx hb hts i_X9 tyX9 tyX9_ok nmX9 hown hK hP hD hS 0 rfl rfl 1 (by decide) (hts _ qw27) (fun _ h9 => h9) rfl (by decide +kernel) rfl rfl (Nat.le_of_ble_eq_true rfl) dX9_init_8 (fun H locs hP hD hS => ?_)
  have hP : va_P (dC, dI) cls [(h0, .inr (3, [.int 0, .ref q1, .null, .null, .null, .null]))] H := hP
  have hD : va_D A [(h0, .inr (3, [.int 0, .ref q1, .null, .null, .null, .null]))] := hD
  refine lv_aload_n hx hb dX9_init_11 rfl (lv_at hl 0 rfl) ?_
  refine lv_iload_n hx hb dX9_init_12 rfl (lv_at hl 1 rfl) ?_
  refine va_newa (atype := .int) (ty := .int) hx hb (hts _ qw2) rfl hK hP hD hS hA (a0 := (256, .inl (fun _ => 0))) (fun _ => rfl) (by decide) (by decide +kernel) (Nat.le_of_ble_eq_true rfl) (Nat.le_of_ble_eq_true rfl) (Nat.le_of_ble_eq_true rfl) dX9_init_13 (fun q3 c4 H hK hP hD hS => ?_)
  have hP : va_P (dC, dI) cls [(h0, .inr (3, [.int 0, .ref q1, .null, .null, .null, .null])), (q3, .inl (c4, 256, .inl (fun _ => 0)))] H := hP
  have hD : va_D A [(h0, .inr (3, [.int 0, .ref q1, .null, .null, .null, .null])), (q3, .inl (c4, 256, .inl (fun _ => 0)))] := hD
  have hK : va_K (dC, dI) cls [(c4, .int)] s := hK
  have hP : va_P (dC, dI) cls [(h0, .inr (3, [.int 0, .ref q1, .null, .null, .null, .null]))] H := hP.sub [0] rfl
  have hD : va_D A [(h0, .inr (3, [.int 0, .ref q1, .null, .null, .null, .null]))] := hD.sub [0] (by decide) rfl
  have hK : va_K (dC, dI) cls [] s := hK.sub [] rfl
  refine W.widen (k := 2) (n := 512) (Nat.le_of_ble_eq_true rfl) (Nat.le_of_ble_eq_true rfl) ?_
  refine va_put (D := (dC, dI)) (ci := 3) (v := .ref q3) (ty := .array .int) (C := RX9) (T := TX9) (N := 6) hx hb hts i_X9 tyX9 tyX9_ok nmX9 hown hK hP hD hS 0 rfl rfl 2 (by decide) (hts _ qw28) (fun _ h9 => h9) rfl (by decide +kernel) rfl rfl (Nat.le_of_ble_eq_true rfl) dX9_init_15 (fun H locs hP hD hS => ?_)
  have hP : va_P (dC, dI) cls [(h0, .inr (3, [.int 0, .ref q1, .ref q3, .null, .null, .null]))] H := hP
  have hD : va_D A [(h0, .inr (3, [.int 0, .ref q1, .ref q3, .null, .null, .null]))] := hD
  refine lv_aload_n hx hb dX9_init_18 rfl (lv_at hl 0 rfl) ?_
  refine lv_iload_n hx hb dX9_init_19 rfl (lv_at hl 1 rfl) ?_
  refine va_newa (atype := .int) (ty := .int) hx hb (hts _ qw2) rfl hK hP hD hS hA (a0 := (256, .inl (fun _ => 0))) (fun _ => rfl) (by decide) (by decide +kernel) (Nat.le_of_ble_eq_true rfl) (Nat.le_of_ble_eq_true rfl) (Nat.le_of_ble_eq_true rfl) dX9_init_20 (fun q5 c6 H hK hP hD hS => ?_)
  have hP : va_P (dC, dI) cls [(h0, .inr (3, [.int 0, .ref q1, .ref q3, .null, .null, .null])), (q5, .inl (c6, 256, .inl (fun _ => 0)))] H := hP
  have hD : va_D A [(h0, .inr (3, [.int 0, .ref q1, .ref q3, .null, .null, .null])), (q5, .inl (c6, 256, .inl (fun _ => 0)))] := hD
  have hK : va_K (dC, dI) cls [(c6, .int)] s := hK
  have hP : va_P (dC, dI) cls [(h0, .inr (3, [.int 0, .ref q1, .ref q3, .null, .null, .null]))] H := hP.sub [0] rfl
  have hD : va_D A [(h0, .inr (3, [.int 0, .ref q1, .ref q3, .null, .null, .null]))] := hD.sub [0] (by decide) rfl
  have hK : va_K (dC, dI) cls [] s := hK.sub [] rfl
  refine W.widen (k := 3) (n := 768) (Nat.le_of_ble_eq_true rfl) (Nat.le_of_ble_eq_true rfl) ?_
  refine va_put (D := (dC, dI)) (ci := 3) (v := .ref q5) (ty := .array .int) (C := RX9) (T := TX9) (N := 6) hx hb hts i_X9 tyX9 tyX9_ok nmX9 hown hK hP hD hS 0 rfl rfl 3 (by decide) (hts _ qw29) (fun _ h9 => h9) rfl (by decide +kernel) rfl rfl (Nat.le_of_ble_eq_true rfl) dX9_init_22 (fun H locs hP hD hS => ?_)
  have hP : va_P (dC, dI) cls [(h0, .inr (3, [.int 0, .ref q1, .ref q3, .ref q5, .null, .null]))] H := hP
  have hD : va_D A [(h0, .inr (3, [.int 0, .ref q1, .ref q3, .ref q5, .null, .null]))] := hD
  refine lv_aload_n hx hb dX9_init_25 rfl (lv_at hl 0 rfl) ?_
  refine lv_iload_n hx hb dX9_init_26 rfl (lv_at hl 1 rfl) ?_
  refine va_newa (atype := .int) (ty := .int) hx hb (hts _ qw2) rfl hK hP hD hS hA (a0 := (256, .inl (fun _ => 0))) (fun _ => rfl) (by decide) (by decide +kernel) (Nat.le_of_ble_eq_true rfl) (Nat.le_of_ble_eq_true rfl) (Nat.le_of_ble_eq_true rfl) dX9_init_27 (fun q7 c8 H hK hP hD hS => ?_)
  have hP : va_P (dC, dI) cls [(h0, .inr (3, [.int 0, .ref q1, .ref q3, .ref q5, .null, .null])), (q7, .inl (c8, 256, .inl (fun _ => 0)))] H := hP
  have hD : va_D A [(h0, .inr (3, [.int 0, .ref q1, .ref q3, .ref q5, .null, .null])), (q7, .inl (c8, 256, .inl (fun _ => 0)))] := hD
  have hK : va_K (dC, dI) cls [(c8, .int)] s := hK
  have hP : va_P (dC, dI) cls [(h0, .inr (3, [.int 0, .ref q1, .ref q3, .ref q5, .null, .null]))] H := hP.sub [0] rfl
  have hD : va_D A [(h0, .inr (3, [.int 0, .ref q1, .ref q3, .ref q5, .null, .null]))] := hD.sub [0] (by decide) rfl
  have hK : va_K (dC, dI) cls [] s := hK.sub [] rfl
  refine W.widen (k := 4) (n := 1024) (Nat.le_of_ble_eq_true rfl) (Nat.le_of_ble_eq_true rfl) ?_
  refine va_put (D := (dC, dI)) (ci := 3) (v := .ref q7) (ty := .array .int) (C := RX9) (T := TX9) (N := 6) hx hb hts i_X9 tyX9 tyX9_ok nmX9 hown hK hP hD hS 0 rfl rfl 4 (by decide) (hts _ qw30) (fun _ h9 => h9) rfl (by decide +kernel) rfl rfl (Nat.le_of_ble_eq_true rfl) dX9_init_29 (fun H locs hP hD hS => ?_)
  have hP : va_P (dC, dI) cls [(h0, .inr (3, [.int 0, .ref q1, .ref q3, .ref q5, .ref q7, .null]))] H := hP
  have hD : va_D A [(h0, .inr (3, [.int 0, .ref q1, .ref q3, .ref q5, .ref q7, .null]))] := hD
  refine lv_aload_n hx hb dX9_init_32 rfl (lv_at hl 0 rfl) ?_
  refine lv_iload_n hx hb dX9_init_33 rfl (lv_at hl 1 rfl) ?_
  refine va_newa (atype := .int) (ty := .int) hx hb (hts _ qw2) rfl hK hP hD hS hA (a0 := (256, .inl (fun _ => 0))) (fun _ => rfl) (by decide) (by decide +kernel) (Nat.le_of_ble_eq_true rfl) (Nat.le_of_ble_eq_true rfl) (Nat.le_of_ble_eq_true rfl) dX9_init_34 (fun q9 c10 H hK hP hD hS => ?_)
  have hP : va_P (dC, dI) cls [(h0, .inr (3, [.int 0, .ref q1, .ref q3, .ref q5, .ref q7, .null])), (q9, .inl (c10, 256, .inl (fun _ => 0)))] H := hP
  have hD : va_D A [(h0, .inr (3, [.int 0, .ref q1, .ref q3, .ref q5, .ref q7, .null])), (q9, .inl (c10, 256, .inl (fun _ => 0)))] := hD
  have hK : va_K (dC, dI) cls [(c10, .int)] s := hK
  have hP : va_P (dC, dI) cls [(h0, .inr (3, [.int 0, .ref q1, .ref q3, .ref q5, .ref q7, .null]))] H := hP.sub [0] rfl
  have hD : va_D A [(h0, .inr (3, [.int 0, .ref q1, .ref q3, .ref q5, .ref q7, .null]))] := hD.sub [0] (by decide) rfl
  have hK : va_K (dC, dI) cls [] s := hK.sub [] rfl
  refine W.widen (k := 5) (n := 1280) (Nat.le_of_ble_eq_true rfl) (Nat.le_of_ble_eq_true rfl) ?_
  refine va_put (D := (dC, dI)) (ci := 3) (v := .ref q9) (ty := .array .int) (C := RX9) (T := TX9) (N := 6) hx hb hts i_X9 tyX9 tyX9_ok nmX9 hown hK hP hD hS 0 rfl rfl 5 (by decide) (hts _ qw31) (fun _ h9 => h9) rfl (by decide +kernel) rfl rfl (Nat.le_of_ble_eq_true rfl) dX9_init_36 (fun H locs hP hD hS => ?_)
  have hP : va_P (dC, dI) cls [(h0, .inr (3, [.int 0, .ref q1, .ref q3, .ref q5, .ref q7, .ref q9]))] H := hP
  have hD : va_D A [(h0, .inr (3, [.int 0, .ref q1, .ref q3, .ref q5, .ref q7, .ref q9]))] := hD
  have hP9 : va_P (dC, dI) cls [(h0, .inr (3, [.int 0, .ref q1, .ref q3, .ref q5, .ref q7, .ref q9]))] H := hP.sub [0] rfl
  have hD9 : va_D A [(h0, .inr (3, [.int 0, .ref q1, .ref q3, .ref q5, .ref q7, .ref q9]))] := hD.sub [0] (by decide) rfl
  have hK9 : va_K (dC, dI) cls [] s := hK.sub [] rfl
  exact W.vret hx hb hr (fun t ht hW => ⟨⟨(), rfl, trivial, ⟨q1, q3, q5, q7, q9, ⟨by rw [ht]; exact hP9, va_K.moved hW.alike hK9, hD9⟩⟩⟩, hS.F ht⟩) hS.2.2 dX9_init_39
set_option maxHeartbeats 4000000 in
set_option maxRecDepth 100000 in
theorem kX1_init {zs : Nat × Nat} (l : Launch) (dC : Nat → ClassId) (dI : Nat → Nat → Nat) (h0 : Nat) (sz : Nat)  : Met l yX1_init (wz yX1_init cX1_init 1 (Option.none : Option Jvm.ClassFile.FieldType)) ({ frames := 2, cells := 23, slots := 4171, locals := 33 }) (va_Pc [.ref h0] (PRE zs dC dI [(h0, .inr (4, [.int 0, .int 0, .null, .null, .null, .null, .null, .null, .null, .null, .null, .null, .null, .null, .null, .null, .null, .int 0, .null, .null, .null]))] [] sz)) (va_Qv (fun (_ : Unit) => True) (fun _ t => ∃ (q1 : Nat), ∃ (q7 : Nat), ∃ (q9 : Nat), ∃ (q11 : Nat), ∃ (q13 : Nat), ∃ (q15 : Nat), ∃ (q17 : Nat), ∃ (q19 : Nat), ∃ (q21 : Nat), ∃ (q23 : Nat), ∃ (q25 : Nat), ∃ (q27 : Nat), ∃ (q29 : Nat), ∃ (q31 : Nat), ∃ (q33 : Nat), ∃ (q35 : Nat), ∃ (q37 : Nat), ∃ (q39 : Nat), POST dC dI [(h0, .inr (4, [.int 0, .int 0, .ref q1, .ref q7, .ref q9, .ref q11, .ref q13, .ref q15, .ref q17, .ref q19, .ref q21, .ref q23, .ref q25, .ref q27, .ref q29, .ref q31, .ref q33, .int 0, .ref q35, .ref q37, .ref q39]))] [] (va_A [(h0, .inr (4, [.int 0, .int 0, .null, .null, .null, .null, .null, .null, .null, .null, .null, .null, .null, .null, .null, .null, .null, .int 0, .null, .null, .null]))] sz) t) (va_A [(h0, .inr (4, [.int 0, .int 0, .null, .null, .null, .null, .null, .null, .null, .null, .null, .null, .null, .null, .null, .null, .null, .int 0, .null, .null, .null]))] sz)) 23 4171 (va_A [(h0, .inr (4, [.int 0, .int 0, .null, .null, .null, .null, .null, .null, .null, .null, .null, .null, .null, .null, .null, .null, .null, .int 0, .null, .null, .null]))] sz) := by
  refine Met.ofW (cc := cX1_init) (maxL := 1) (ret := (Option.none : Option Jvm.ClassFile.FieldType)) (by decide) rfl ?_
  intro p e s m args below meth c s₁ B hml hv
  obtain ⟨rfl, hsz, hP, hK, hD0, hE⟩ := hv
  have hx := B.exec
  have hb := B.bytes
  have hr := B.returns
  have hts0 := atoms_spec (ws := wz yX1_init cX1_init 1 (Option.none : Option Jvm.ClassFile.FieldType)) B.pre
  have hts : ∀ w ∈ gw, w.before _ s = true := fun w h => hts0 w (List.mem_cons_of_mem _ h)
  have hown : s.vm.findClass RX1 = some m.cls := findClass_of_methodNamed B.named
  have hlocks := B.notSynchronized
  have hin : meth.name = "<init>" := (name_of_methodNamed B.named B.method).1
  subst hsz
  have hD := hD0.self (sz := s.heap.size)
  generalize hAe : va_A [(h0, .inr (4, [.int 0, .int 0, .null, .null, .null, .null, .null, .null, .null, .null, .null, .null, .null, .null, .null, .null, .null, .int 0, .null, .null, .null]))] s.heap.size = A at hD hE ⊢
  have hA : ∀ q : Nat, s.heap.size ≤ q → A q := fun q h => by rw [← hAe]; exact Or.inr h
  have hS : va_S A s.heap s.heap [] := va_S.rf
  have hP : va_P (dC, dI) cls [(h0, .inr (4, [.int 0, .int 0, .null, .null, .null, .null, .null, .null, .null, .null, .null, .null, .null, .null, .null, .null, .null, .int 0, .null, .null, .null]))] s.heap := hP
  have hl := lv_entry ([.ref h0]) (n := 1) (Nat.le_of_ble_eq_true rfl)
  rw [lg_entry_eq]
  generalize (lg_sl ([.ref h0]) ++ List.replicate (1 - (lg_sl ([.ref h0])).length) Slot.unset).toArray = ls at hl ⊢
  have hl : lv_has ls 1 [(0, .ref h0)] := hl
  refine lv_aload_n hx hb dX1_init_0 rfl (lv_at hl 0 rfl) ?_
  refine W.objInit hx hb hown (hts _ qw32) (hts _ qw1) (hts _ qw_oi) rfl (by rw [hml]; exact hl.1) rfl dX1_init_1 (Nat.le_of_ble_eq_true rfl) (Nat.le_of_ble_eq_true rfl) ?_
  refine W.eq (g2 := F0 m 4 ls []) rfl ?_
  refine lv_aload_n hx hb dX1_init_4 rfl (lv_at hl 0 rfl) ?_
  refine va_new (ci := 3) (fs := [.int 0, .null, .null, .null, .null, .null]) (C := RX9) (T := TX9) (N := 6) hx hb hts i_X9 tyX9 tyX9_ok hown (hts _ qw33) (hts _ qw34) (hts _ qw35) hK hP hD hS hA rfl df_X9 (Nat.le_of_ble_eq_true rfl) (Nat.le_of_ble_eq_true rfl) dX1_init_5 (fun q1 H hP hD hS => ?_)
  have hP : va_P (dC, dI) cls [(h0, .inr (4, [.int 0, .int 0, .null, .null, .null, .null, .null, .null, .null, .null, .null, .null, .null, .null, .null, .null, .null, .int 0, .null, .null, .null])), (q1, .inr (3, [.int 0, .null, .null, .null, .null, .null]))] H := hP
  have hD : va_D A [(h0, .inr (4, [.int 0, .int 0, .null, .null, .null, .null, .null, .null, .null, .null, .null, .null, .null, .null, .null, .null, .null, .int 0, .null, .null, .null])), (q1, .inr (3, [.int 0, .null, .null, .null, .null, .null]))] := hD
  refine W.widen (k := 1) (n := 6) (Nat.le_of_ble_eq_true rfl) (Nat.le_of_ble_eq_true rfl) ?_
  refine lv_dup hx hb dX1_init_8 rfl ?_
  refine lv_sipush (v := 256) hx hb dX1_init_9 (by decide) ?_
  have hPc := hP.sub (ws' := [(q1, .inr (3, [.int 0, .null, .null, .null, .null, .null]))]) [1] rfl
  have hDc := hD.sub (ws' := [(q1, .inr (3, [.int 0, .null, .null, .null, .null, .null]))]) [1] (by decide) rfl
  have hKc := hK.sub (tys' := []) [] rfl
  have hFc := va_free (wc := [(q1, .inr (3, [.int 0, .null, .null, .null, .null, .null]))]) hD hS hA [1] rfl
  refine va_callv (va_runI (As := [.int 256]) (rest := [.ref q1, .ref h0]) ⟨hx, hb, hml, hown, hts⟩ (kX9_init l dC dI (h0 := q1) (sz := _)) (cwI 1 hts (gi_z qw36) rfl rfl rfl (hts _ qw35) (hts _ qw37) (hts _ qw38) rfl (by decide +kernel) ⟨Nat.le_of_ble_eq_true rfl, Nat.le_of_ble_eq_true rfl⟩) ⟨PRE.blind, PRE.of hE hS hFc hPc hKc hDc⟩ rfl rfl hl.1 rfl (lv_room (Nat.le_of_ble_eq_true rfl)) dX1_init_12 ⟨Nat.le_of_ble_eq_true rfl, Nat.le_of_ble_eq_true rfl⟩) hS (fun q _ h => hFc q h) hFc (fun u t H locs ht hvm hw hB hz1 hk1 hS => ?_)
  obtain ⟨q2, q3, q4, q5, q6, hB⟩ := hB
  obtain ⟨hP, hD, hK⟩ := JOIN (wr := [(h0, .inr (4, [.int 0, .int 0, .null, .null, .null, .null, .null, .null, .null, .null, .null, .null, .null, .null, .null, .null, .null, .int 0, .null, .null, .null]))]) hP hD hK [1] [0] [] rfl rfl (by decide) (by decide) rfl hk1 hFc ht hvm hB
  have hP : va_P (dC, dI) cls [(h0, .inr (4, [.int 0, .int 0, .null, .null, .null, .null, .null, .null, .null, .null, .null, .null, .null, .null, .null, .null, .null, .int 0, .null, .null, .null])), (q1, .inr (3, [.int 0, .ref q2, .ref q3, .ref q4, .ref q5, .ref q6]))] H := hP
  have hD : va_D A [(h0, .inr (4, [.int 0, .int 0, .null, .null, .null, .null, .null, .null, .null, .null, .null, .null, .null, .null, .null, .null, .null, .int 0, .null, .null, .null])), (q1, .inr (3, [.int 0, .ref q2, .ref q3, .ref q4, .ref q5, .ref q6]))] := hD
  have hK : va_K (dC, dI) cls [] s := hK
  refine W.widen (k := 6) (n := 1286) (Nat.le_of_ble_eq_true rfl) (Nat.le_of_ble_eq_true rfl) ?_
  refine va_putF (D := (dC, dI)) (ci := 4) (v := .ref q1) (ty := .object "Gearbox$Steps") (C := RX1) (T := TX1) (N := 21) hx hb hts i_X1 tyX1 tyX1_ok nmX1 hown hK hP hD hS 0 rfl rfl 2 (by decide) (hts _ qw39) (fun _ h9 => h9) rfl hin rfl (by decide +kernel) rfl rfl (Nat.le_of_ble_eq_true rfl) dX1_init_15 (fun H locs hP hD hS => ?_)
  have hP : va_P (dC, dI) cls [(h0, .inr (4, [.int 0, .int 0, .ref q1, .null, .null, .null, .null, .null, .null, .null, .null, .null, .null, .null, .null, .null, .null, .int 0, .null, .null, .null])), (q1, .inr (3, [.int 0, .ref q2, .ref q3, .ref q4, .ref q5, .ref q6]))] H := hP
  have hD : va_D A [(h0, .inr (4, [.int 0, .int 0, .ref q1, .null, .null, .null, .null, .null, .null, .null, .null, .null, .null, .null, .null, .null, .null, .int 0, .null, .null, .null])), (q1, .inr (3, [.int 0, .ref q2, .ref q3, .ref q4, .ref q5, .ref q6]))] := hD
  refine lv_aload_n hx hb dX1_init_18 rfl (lv_at hl 0 rfl) ?_
  refine lv_bipush (v := 60) hx hb dX1_init_19 (by decide) ?_
  refine va_newa (atype := .int) (ty := .int) hx hb (hts _ qw2) rfl hK hP hD hS hA (a0 := (60, .inl (fun _ => 0))) (fun _ => rfl) (by decide) (by decide +kernel) (Nat.le_of_ble_eq_true rfl) (Nat.le_of_ble_eq_true rfl) (Nat.le_of_ble_eq_true rfl) dX1_init_21 (fun q7 c8 H hK hP hD hS => ?_)
  have hP : va_P (dC, dI) cls [(h0, .inr (4, [.int 0, .int 0, .ref q1, .null, .null, .null, .null, .null, .null, .null, .null, .null, .null, .null, .null, .null, .null, .int 0, .null, .null, .null])), (q1, .inr (3, [.int 0, .ref q2, .ref q3, .ref q4, .ref q5, .ref q6])), (q7, .inl (c8, 60, .inl (fun _ => 0)))] H := hP
  have hD : va_D A [(h0, .inr (4, [.int 0, .int 0, .ref q1, .null, .null, .null, .null, .null, .null, .null, .null, .null, .null, .null, .null, .null, .null, .int 0, .null, .null, .null])), (q1, .inr (3, [.int 0, .ref q2, .ref q3, .ref q4, .ref q5, .ref q6])), (q7, .inl (c8, 60, .inl (fun _ => 0)))] := hD
  have hK : va_K (dC, dI) cls [(c8, .int)] s := hK
  have hP : va_P (dC, dI) cls [(h0, .inr (4, [.int 0, .int 0, .ref q1, .null, .null, .null, .null, .null, .null, .null, .null, .null, .null, .null, .null, .null, .null, .int 0, .null, .null, .null])), (q1, .inr (3, [.int 0, .ref q2, .ref q3, .ref q4, .ref q5, .ref q6]))] H := hP.sub [0, 1] rfl
  have hD : va_D A [(h0, .inr (4, [.int 0, .int 0, .ref q1, .null, .null, .null, .null, .null, .null, .null, .null, .null, .null, .null, .null, .null, .null, .int 0, .null, .null, .null])), (q1, .inr (3, [.int 0, .ref q2, .ref q3, .ref q4, .ref q5, .ref q6]))] := hD.sub [0, 1] (by decide) rfl
  have hK : va_K (dC, dI) cls [] s := hK.sub [] rfl
  refine W.widen (k := 7) (n := 1346) (Nat.le_of_ble_eq_true rfl) (Nat.le_of_ble_eq_true rfl) ?_
  refine va_putF (D := (dC, dI)) (ci := 4) (v := .ref q7) (ty := .array .int) (C := RX1) (T := TX1) (N := 21) hx hb hts i_X1 tyX1 tyX1_ok nmX1 hown hK hP hD hS 0 rfl rfl 3 (by decide) (hts _ qw40) (fun _ h9 => h9) rfl hin rfl (by decide +kernel) rfl rfl (Nat.le_of_ble_eq_true rfl) dX1_init_23 (fun H locs hP hD hS => ?_)
  have hP : va_P (dC, dI) cls [(h0, .inr (4, [.int 0, .int 0, .ref q1, .ref q7, .null, .null, .null, .null, .null, .null, .null, .null, .null, .null, .null, .null, .null, .int 0, .null, .null, .null])), (q1, .inr (3, [.int 0, .ref q2, .ref q3, .ref q4, .ref q5, .ref q6]))] H := hP
  have hD : va_D A [(h0, .inr (4, [.int 0, .int 0, .ref q1, .ref q7, .null, .null, .null, .null, .null, .null, .null, .null, .null, .null, .null, .null, .null, .int 0, .null, .null, .null])), (q1, .inr (3, [.int 0, .ref q2, .ref q3, .ref q4, .ref q5, .ref q6]))] := hD
  refine lv_aload_n hx hb dX1_init_26 rfl (lv_at hl 0 rfl) ?_
  refine lv_bipush (v := 60) hx hb dX1_init_27 (by decide) ?_
  refine va_newa (atype := .int) (ty := .int) hx hb (hts _ qw2) rfl hK hP hD hS hA (a0 := (60, .inl (fun _ => 0))) (fun _ => rfl) (by decide) (by decide +kernel) (Nat.le_of_ble_eq_true rfl) (Nat.le_of_ble_eq_true rfl) (Nat.le_of_ble_eq_true rfl) dX1_init_29 (fun q9 c10 H hK hP hD hS => ?_)
  have hP : va_P (dC, dI) cls [(h0, .inr (4, [.int 0, .int 0, .ref q1, .ref q7, .null, .null, .null, .null, .null, .null, .null, .null, .null, .null, .null, .null, .null, .int 0, .null, .null, .null])), (q1, .inr (3, [.int 0, .ref q2, .ref q3, .ref q4, .ref q5, .ref q6])), (q9, .inl (c10, 60, .inl (fun _ => 0)))] H := hP
  have hD : va_D A [(h0, .inr (4, [.int 0, .int 0, .ref q1, .ref q7, .null, .null, .null, .null, .null, .null, .null, .null, .null, .null, .null, .null, .null, .int 0, .null, .null, .null])), (q1, .inr (3, [.int 0, .ref q2, .ref q3, .ref q4, .ref q5, .ref q6])), (q9, .inl (c10, 60, .inl (fun _ => 0)))] := hD
  have hK : va_K (dC, dI) cls [(c10, .int)] s := hK
  have hP : va_P (dC, dI) cls [(h0, .inr (4, [.int 0, .int 0, .ref q1, .ref q7, .null, .null, .null, .null, .null, .null, .null, .null, .null, .null, .null, .null, .null, .int 0, .null, .null, .null])), (q1, .inr (3, [.int 0, .ref q2, .ref q3, .ref q4, .ref q5, .ref q6]))] H := hP.sub [0, 1] rfl
  have hD : va_D A [(h0, .inr (4, [.int 0, .int 0, .ref q1, .ref q7, .null, .null, .null, .null, .null, .null, .null, .null, .null, .null, .null, .null, .null, .int 0, .null, .null, .null])), (q1, .inr (3, [.int 0, .ref q2, .ref q3, .ref q4, .ref q5, .ref q6]))] := hD.sub [0, 1] (by decide) rfl
  have hK : va_K (dC, dI) cls [] s := hK.sub [] rfl
  refine W.widen (k := 8) (n := 1406) (Nat.le_of_ble_eq_true rfl) (Nat.le_of_ble_eq_true rfl) ?_
  refine va_putF (D := (dC, dI)) (ci := 4) (v := .ref q9) (ty := .array .int) (C := RX1) (T := TX1) (N := 21) hx hb hts i_X1 tyX1 tyX1_ok nmX1 hown hK hP hD hS 0 rfl rfl 4 (by decide) (hts _ qw41) (fun _ h9 => h9) rfl hin rfl (by decide +kernel) rfl rfl (Nat.le_of_ble_eq_true rfl) dX1_init_31 (fun H locs hP hD hS => ?_)
  have hP : va_P (dC, dI) cls [(h0, .inr (4, [.int 0, .int 0, .ref q1, .ref q7, .ref q9, .null, .null, .null, .null, .null, .null, .null, .null, .null, .null, .null, .null, .int 0, .null, .null, .null])), (q1, .inr (3, [.int 0, .ref q2, .ref q3, .ref q4, .ref q5, .ref q6]))] H := hP
  have hD : va_D A [(h0, .inr (4, [.int 0, .int 0, .ref q1, .ref q7, .ref q9, .null, .null, .null, .null, .null, .null, .null, .null, .null, .null, .null, .null, .int 0, .null, .null, .null])), (q1, .inr (3, [.int 0, .ref q2, .ref q3, .ref q4, .ref q5, .ref q6]))] := hD
  refine lv_aload_n hx hb dX1_init_34 rfl (lv_at hl 0 rfl) ?_
  refine lv_bipush (v := 60) hx hb dX1_init_35 (by decide) ?_
  refine va_newa (atype := .int) (ty := .int) hx hb (hts _ qw2) rfl hK hP hD hS hA (a0 := (60, .inl (fun _ => 0))) (fun _ => rfl) (by decide) (by decide +kernel) (Nat.le_of_ble_eq_true rfl) (Nat.le_of_ble_eq_true rfl) (Nat.le_of_ble_eq_true rfl) dX1_init_37 (fun q11 c12 H hK hP hD hS => ?_)
  have hP : va_P (dC, dI) cls [(h0, .inr (4, [.int 0, .int 0, .ref q1, .ref q7, .ref q9, .null, .null, .null, .null, .null, .null, .null, .null, .null, .null, .null, .null, .int 0, .null, .null, .null])), (q1, .inr (3, [.int 0, .ref q2, .ref q3, .ref q4, .ref q5, .ref q6])), (q11, .inl (c12, 60, .inl (fun _ => 0)))] H := hP
  have hD : va_D A [(h0, .inr (4, [.int 0, .int 0, .ref q1, .ref q7, .ref q9, .null, .null, .null, .null, .null, .null, .null, .null, .null, .null, .null, .null, .int 0, .null, .null, .null])), (q1, .inr (3, [.int 0, .ref q2, .ref q3, .ref q4, .ref q5, .ref q6])), (q11, .inl (c12, 60, .inl (fun _ => 0)))] := hD
  have hK : va_K (dC, dI) cls [(c12, .int)] s := hK
  have hP : va_P (dC, dI) cls [(h0, .inr (4, [.int 0, .int 0, .ref q1, .ref q7, .ref q9, .null, .null, .null, .null, .null, .null, .null, .null, .null, .null, .null, .null, .int 0, .null, .null, .null])), (q1, .inr (3, [.int 0, .ref q2, .ref q3, .ref q4, .ref q5, .ref q6]))] H := hP.sub [0, 1] rfl
  have hD : va_D A [(h0, .inr (4, [.int 0, .int 0, .ref q1, .ref q7, .ref q9, .null, .null, .null, .null, .null, .null, .null, .null, .null, .null, .null, .null, .int 0, .null, .null, .null])), (q1, .inr (3, [.int 0, .ref q2, .ref q3, .ref q4, .ref q5, .ref q6]))] := hD.sub [0, 1] (by decide) rfl
  have hK : va_K (dC, dI) cls [] s := hK.sub [] rfl
  refine W.widen (k := 9) (n := 1466) (Nat.le_of_ble_eq_true rfl) (Nat.le_of_ble_eq_true rfl) ?_
  refine va_putF (D := (dC, dI)) (ci := 4) (v := .ref q11) (ty := .array .int) (C := RX1) (T := TX1) (N := 21) hx hb hts i_X1 tyX1 tyX1_ok nmX1 hown hK hP hD hS 0 rfl rfl 5 (by decide) (hts _ qw42) (fun _ h9 => h9) rfl hin rfl (by decide +kernel) rfl rfl (Nat.le_of_ble_eq_true rfl) dX1_init_39 (fun H locs hP hD hS => ?_)
  have hP : va_P (dC, dI) cls [(h0, .inr (4, [.int 0, .int 0, .ref q1, .ref q7, .ref q9, .ref q11, .null, .null, .null, .null, .null, .null, .null, .null, .null, .null, .null, .int 0, .null, .null, .null])), (q1, .inr (3, [.int 0, .ref q2, .ref q3, .ref q4, .ref q5, .ref q6]))] H := hP
  have hD : va_D A [(h0, .inr (4, [.int 0, .int 0, .ref q1, .ref q7, .ref q9, .ref q11, .null, .null, .null, .null, .null, .null, .null, .null, .null, .null, .null, .int 0, .null, .null, .null])), (q1, .inr (3, [.int 0, .ref q2, .ref q3, .ref q4, .ref q5, .ref q6]))] := hD
  refine lv_aload_n hx hb dX1_init_42 rfl (lv_at hl 0 rfl) ?_
  refine lv_bipush (v := 60) hx hb dX1_init_43 (by decide) ?_
  refine va_newa (atype := .int) (ty := .int) hx hb (hts _ qw2) rfl hK hP hD hS hA (a0 := (60, .inl (fun _ => 0))) (fun _ => rfl) (by decide) (by decide +kernel) (Nat.le_of_ble_eq_true rfl) (Nat.le_of_ble_eq_true rfl) (Nat.le_of_ble_eq_true rfl) dX1_init_45 (fun q13 c14 H hK hP hD hS => ?_)
  have hP : va_P (dC, dI) cls [(h0, .inr (4, [.int 0, .int 0, .ref q1, .ref q7, .ref q9, .ref q11, .null, .null, .null, .null, .null, .null, .null, .null, .null, .null, .null, .int 0, .null, .null, .null])), (q1, .inr (3, [.int 0, .ref q2, .ref q3, .ref q4, .ref q5, .ref q6])), (q13, .inl (c14, 60, .inl (fun _ => 0)))] H := hP
  have hD : va_D A [(h0, .inr (4, [.int 0, .int 0, .ref q1, .ref q7, .ref q9, .ref q11, .null, .null, .null, .null, .null, .null, .null, .null, .null, .null, .null, .int 0, .null, .null, .null])), (q1, .inr (3, [.int 0, .ref q2, .ref q3, .ref q4, .ref q5, .ref q6])), (q13, .inl (c14, 60, .inl (fun _ => 0)))] := hD
  have hK : va_K (dC, dI) cls [(c14, .int)] s := hK
  have hP : va_P (dC, dI) cls [(h0, .inr (4, [.int 0, .int 0, .ref q1, .ref q7, .ref q9, .ref q11, .null, .null, .null, .null, .null, .null, .null, .null, .null, .null, .null, .int 0, .null, .null, .null])), (q1, .inr (3, [.int 0, .ref q2, .ref q3, .ref q4, .ref q5, .ref q6]))] H := hP.sub [0, 1] rfl
  have hD : va_D A [(h0, .inr (4, [.int 0, .int 0, .ref q1, .ref q7, .ref q9, .ref q11, .null, .null, .null, .null, .null, .null, .null, .null, .null, .null, .null, .int 0, .null, .null, .null])), (q1, .inr (3, [.int 0, .ref q2, .ref q3, .ref q4, .ref q5, .ref q6]))] := hD.sub [0, 1] (by decide) rfl
  have hK : va_K (dC, dI) cls [] s := hK.sub [] rfl
  refine W.widen (k := 10) (n := 1526) (Nat.le_of_ble_eq_true rfl) (Nat.le_of_ble_eq_true rfl) ?_
  refine va_putF (D := (dC, dI)) (ci := 4) (v := .ref q13) (ty := .array .int) (C := RX1) (T := TX1) (N := 21) hx hb hts i_X1 tyX1 tyX1_ok nmX1 hown hK hP hD hS 0 rfl rfl 6 (by decide) (hts _ qw43) (fun _ h9 => h9) rfl hin rfl (by decide +kernel) rfl rfl (Nat.le_of_ble_eq_true rfl) dX1_init_47 (fun H locs hP hD hS => ?_)
  have hP : va_P (dC, dI) cls [(h0, .inr (4, [.int 0, .int 0, .ref q1, .ref q7, .ref q9, .ref q11, .ref q13, .null, .null, .null, .null, .null, .null, .null, .null, .null, .null, .int 0, .null, .null, .null])), (q1, .inr (3, [.int 0, .ref q2, .ref q3, .ref q4, .ref q5, .ref q6]))] H := hP
  have hD : va_D A [(h0, .inr (4, [.int 0, .int 0, .ref q1, .ref q7, .ref q9, .ref q11, .ref q13, .null, .null, .null, .null, .null, .null, .null, .null, .null, .null, .int 0, .null, .null, .null])), (q1, .inr (3, [.int 0, .ref q2, .ref q3, .ref q4, .ref q5, .ref q6]))] := hD
  refine lv_aload_n hx hb dX1_init_50 rfl (lv_at hl 0 rfl) ?_
  refine lv_bipush (v := 60) hx hb dX1_init_51 (by decide) ?_
  refine va_newa (atype := .int) (ty := .int) hx hb (hts _ qw2) rfl hK hP hD hS hA (a0 := (60, .inl (fun _ => 0))) (fun _ => rfl) (by decide) (by decide +kernel) (Nat.le_of_ble_eq_true rfl) (Nat.le_of_ble_eq_true rfl) (Nat.le_of_ble_eq_true rfl) dX1_init_53 (fun q15 c16 H hK hP hD hS => ?_)
  have hP : va_P (dC, dI) cls [(h0, .inr (4, [.int 0, .int 0, .ref q1, .ref q7, .ref q9, .ref q11, .ref q13, .null, .null, .null, .null, .null, .null, .null, .null, .null, .null, .int 0, .null, .null, .null])), (q1, .inr (3, [.int 0, .ref q2, .ref q3, .ref q4, .ref q5, .ref q6])), (q15, .inl (c16, 60, .inl (fun _ => 0)))] H := hP
  have hD : va_D A [(h0, .inr (4, [.int 0, .int 0, .ref q1, .ref q7, .ref q9, .ref q11, .ref q13, .null, .null, .null, .null, .null, .null, .null, .null, .null, .null, .int 0, .null, .null, .null])), (q1, .inr (3, [.int 0, .ref q2, .ref q3, .ref q4, .ref q5, .ref q6])), (q15, .inl (c16, 60, .inl (fun _ => 0)))] := hD
  have hK : va_K (dC, dI) cls [(c16, .int)] s := hK
  have hP : va_P (dC, dI) cls [(h0, .inr (4, [.int 0, .int 0, .ref q1, .ref q7, .ref q9, .ref q11, .ref q13, .null, .null, .null, .null, .null, .null, .null, .null, .null, .null, .int 0, .null, .null, .null])), (q1, .inr (3, [.int 0, .ref q2, .ref q3, .ref q4, .ref q5, .ref q6]))] H := hP.sub [0, 1] rfl
  have hD : va_D A [(h0, .inr (4, [.int 0, .int 0, .ref q1, .ref q7, .ref q9, .ref q11, .ref q13, .null, .null, .null, .null, .null, .null, .null, .null, .null, .null, .int 0, .null, .null, .null])), (q1, .inr (3, [.int 0, .ref q2, .ref q3, .ref q4, .ref q5, .ref q6]))] := hD.sub [0, 1] (by decide) rfl
  have hK : va_K (dC, dI) cls [] s := hK.sub [] rfl
  refine W.widen (k := 11) (n := 1586) (Nat.le_of_ble_eq_true rfl) (Nat.le_of_ble_eq_true rfl) ?_
  refine va_putF (D := (dC, dI)) (ci := 4) (v := .ref q15) (ty := .array .int) (C := RX1) (T := TX1) (N := 21) hx hb hts i_X1 tyX1 tyX1_ok nmX1 hown hK hP hD hS 0 rfl rfl 7 (by decide) (hts _ qw44) (fun _ h9 => h9) rfl hin rfl (by decide +kernel) rfl rfl (Nat.le_of_ble_eq_true rfl) dX1_init_55 (fun H locs hP hD hS => ?_)
  have hP : va_P (dC, dI) cls [(h0, .inr (4, [.int 0, .int 0, .ref q1, .ref q7, .ref q9, .ref q11, .ref q13, .ref q15, .null, .null, .null, .null, .null, .null, .null, .null, .null, .int 0, .null, .null, .null])), (q1, .inr (3, [.int 0, .ref q2, .ref q3, .ref q4, .ref q5, .ref q6]))] H := hP
  have hD : va_D A [(h0, .inr (4, [.int 0, .int 0, .ref q1, .ref q7, .ref q9, .ref q11, .ref q13, .ref q15, .null, .null, .null, .null, .null, .null, .null, .null, .null, .int 0, .null, .null, .null])), (q1, .inr (3, [.int 0, .ref q2, .ref q3, .ref q4, .ref q5, .ref q6]))] := hD
  refine lv_aload_n hx hb dX1_init_58 rfl (lv_at hl 0 rfl) ?_
  refine lv_bipush (v := 60) hx hb dX1_init_59 (by decide) ?_
  refine va_newa (atype := .int) (ty := .int) hx hb (hts _ qw2) rfl hK hP hD hS hA (a0 := (60, .inl (fun _ => 0))) (fun _ => rfl) (by decide) (by decide +kernel) (Nat.le_of_ble_eq_true rfl) (Nat.le_of_ble_eq_true rfl) (Nat.le_of_ble_eq_true rfl) dX1_init_61 (fun q17 c18 H hK hP hD hS => ?_)
  have hP : va_P (dC, dI) cls [(h0, .inr (4, [.int 0, .int 0, .ref q1, .ref q7, .ref q9, .ref q11, .ref q13, .ref q15, .null, .null, .null, .null, .null, .null, .null, .null, .null, .int 0, .null, .null, .null])), (q1, .inr (3, [.int 0, .ref q2, .ref q3, .ref q4, .ref q5, .ref q6])), (q17, .inl (c18, 60, .inl (fun _ => 0)))] H := hP
  have hD : va_D A [(h0, .inr (4, [.int 0, .int 0, .ref q1, .ref q7, .ref q9, .ref q11, .ref q13, .ref q15, .null, .null, .null, .null, .null, .null, .null, .null, .null, .int 0, .null, .null, .null])), (q1, .inr (3, [.int 0, .ref q2, .ref q3, .ref q4, .ref q5, .ref q6])), (q17, .inl (c18, 60, .inl (fun _ => 0)))] := hD
  have hK : va_K (dC, dI) cls [(c18, .int)] s := hK
  have hP : va_P (dC, dI) cls [(h0, .inr (4, [.int 0, .int 0, .ref q1, .ref q7, .ref q9, .ref q11, .ref q13, .ref q15, .null, .null, .null, .null, .null, .null, .null, .null, .null, .int 0, .null, .null, .null])), (q1, .inr (3, [.int 0, .ref q2, .ref q3, .ref q4, .ref q5, .ref q6]))] H := hP.sub [0, 1] rfl
  have hD : va_D A [(h0, .inr (4, [.int 0, .int 0, .ref q1, .ref q7, .ref q9, .ref q11, .ref q13, .ref q15, .null, .null, .null, .null, .null, .null, .null, .null, .null, .int 0, .null, .null, .null])), (q1, .inr (3, [.int 0, .ref q2, .ref q3, .ref q4, .ref q5, .ref q6]))] := hD.sub [0, 1] (by decide) rfl
  have hK : va_K (dC, dI) cls [] s := hK.sub [] rfl
  refine W.widen (k := 12) (n := 1646) (Nat.le_of_ble_eq_true rfl) (Nat.le_of_ble_eq_true rfl) ?_
  refine va_putF (D := (dC, dI)) (ci := 4) (v := .ref q17) (ty := .array .int) (C := RX1) (T := TX1) (N := 21) hx hb hts i_X1 tyX1 tyX1_ok nmX1 hown hK hP hD hS 0 rfl rfl 8 (by decide) (hts _ qw45) (fun _ h9 => h9) rfl hin rfl (by decide +kernel) rfl rfl (Nat.le_of_ble_eq_true rfl) dX1_init_63 (fun H locs hP hD hS => ?_)
  have hP : va_P (dC, dI) cls [(h0, .inr (4, [.int 0, .int 0, .ref q1, .ref q7, .ref q9, .ref q11, .ref q13, .ref q15, .ref q17, .null, .null, .null, .null, .null, .null, .null, .null, .int 0, .null, .null, .null])), (q1, .inr (3, [.int 0, .ref q2, .ref q3, .ref q4, .ref q5, .ref q6]))] H := hP
  have hD : va_D A [(h0, .inr (4, [.int 0, .int 0, .ref q1, .ref q7, .ref q9, .ref q11, .ref q13, .ref q15, .ref q17, .null, .null, .null, .null, .null, .null, .null, .null, .int 0, .null, .null, .null])), (q1, .inr (3, [.int 0, .ref q2, .ref q3, .ref q4, .ref q5, .ref q6]))] := hD
  refine lv_aload_n hx hb dX1_init_66 rfl (lv_at hl 0 rfl) ?_
  refine lv_bipush (v := 60) hx hb dX1_init_67 (by decide) ?_
  refine va_newa (atype := .int) (ty := .int) hx hb (hts _ qw2) rfl hK hP hD hS hA (a0 := (60, .inl (fun _ => 0))) (fun _ => rfl) (by decide) (by decide +kernel) (Nat.le_of_ble_eq_true rfl) (Nat.le_of_ble_eq_true rfl) (Nat.le_of_ble_eq_true rfl) dX1_init_69 (fun q19 c20 H hK hP hD hS => ?_)
  have hP : va_P (dC, dI) cls [(h0, .inr (4, [.int 0, .int 0, .ref q1, .ref q7, .ref q9, .ref q11, .ref q13, .ref q15, .ref q17, .null, .null, .null, .null, .null, .null, .null, .null, .int 0, .null, .null, .null])), (q1, .inr (3, [.int 0, .ref q2, .ref q3, .ref q4, .ref q5, .ref q6])), (q19, .inl (c20, 60, .inl (fun _ => 0)))] H := hP
  have hD : va_D A [(h0, .inr (4, [.int 0, .int 0, .ref q1, .ref q7, .ref q9, .ref q11, .ref q13, .ref q15, .ref q17, .null, .null, .null, .null, .null, .null, .null, .null, .int 0, .null, .null, .null])), (q1, .inr (3, [.int 0, .ref q2, .ref q3, .ref q4, .ref q5, .ref q6])), (q19, .inl (c20, 60, .inl (fun _ => 0)))] := hD
  have hK : va_K (dC, dI) cls [(c20, .int)] s := hK
  have hP : va_P (dC, dI) cls [(h0, .inr (4, [.int 0, .int 0, .ref q1, .ref q7, .ref q9, .ref q11, .ref q13, .ref q15, .ref q17, .null, .null, .null, .null, .null, .null, .null, .null, .int 0, .null, .null, .null])), (q1, .inr (3, [.int 0, .ref q2, .ref q3, .ref q4, .ref q5, .ref q6]))] H := hP.sub [0, 1] rfl
  have hD : va_D A [(h0, .inr (4, [.int 0, .int 0, .ref q1, .ref q7, .ref q9, .ref q11, .ref q13, .ref q15, .ref q17, .null, .null, .null, .null, .null, .null, .null, .null, .int 0, .null, .null, .null])), (q1, .inr (3, [.int 0, .ref q2, .ref q3, .ref q4, .ref q5, .ref q6]))] := hD.sub [0, 1] (by decide) rfl
  have hK : va_K (dC, dI) cls [] s := hK.sub [] rfl
  refine W.widen (k := 13) (n := 1706) (Nat.le_of_ble_eq_true rfl) (Nat.le_of_ble_eq_true rfl) ?_
  refine va_putF (D := (dC, dI)) (ci := 4) (v := .ref q19) (ty := .array .int) (C := RX1) (T := TX1) (N := 21) hx hb hts i_X1 tyX1 tyX1_ok nmX1 hown hK hP hD hS 0 rfl rfl 9 (by decide) (hts _ qw46) (fun _ h9 => h9) rfl hin rfl (by decide +kernel) rfl rfl (Nat.le_of_ble_eq_true rfl) dX1_init_71 (fun H locs hP hD hS => ?_)
  have hP : va_P (dC, dI) cls [(h0, .inr (4, [.int 0, .int 0, .ref q1, .ref q7, .ref q9, .ref q11, .ref q13, .ref q15, .ref q17, .ref q19, .null, .null, .null, .null, .null, .null, .null, .int 0, .null, .null, .null])), (q1, .inr (3, [.int 0, .ref q2, .ref q3, .ref q4, .ref q5, .ref q6]))] H := hP
  have hD : va_D A [(h0, .inr (4, [.int 0, .int 0, .ref q1, .ref q7, .ref q9, .ref q11, .ref q13, .ref q15, .ref q17, .ref q19, .null, .null, .null, .null, .null, .null, .null, .int 0, .null, .null, .null])), (q1, .inr (3, [.int 0, .ref q2, .ref q3, .ref q4, .ref q5, .ref q6]))] := hD
  refine lv_aload_n hx hb dX1_init_74 rfl (lv_at hl 0 rfl) ?_
  refine lv_bipush (v := 60) hx hb dX1_init_75 (by decide) ?_
  refine va_newa (atype := .int) (ty := .int) hx hb (hts _ qw2) rfl hK hP hD hS hA (a0 := (60, .inl (fun _ => 0))) (fun _ => rfl) (by decide) (by decide +kernel) (Nat.le_of_ble_eq_true rfl) (Nat.le_of_ble_eq_true rfl) (Nat.le_of_ble_eq_true rfl) dX1_init_77 (fun q21 c22 H hK hP hD hS => ?_)
  have hP : va_P (dC, dI) cls [(h0, .inr (4, [.int 0, .int 0, .ref q1, .ref q7, .ref q9, .ref q11, .ref q13, .ref q15, .ref q17, .ref q19, .null, .null, .null, .null, .null, .null, .null, .int 0, .null, .null, .null])), (q1, .inr (3, [.int 0, .ref q2, .ref q3, .ref q4, .ref q5, .ref q6])), (q21, .inl (c22, 60, .inl (fun _ => 0)))] H := hP
  have hD : va_D A [(h0, .inr (4, [.int 0, .int 0, .ref q1, .ref q7, .ref q9, .ref q11, .ref q13, .ref q15, .ref q17, .ref q19, .null, .null, .null, .null, .null, .null, .null, .int 0, .null, .null, .null])), (q1, .inr (3, [.int 0, .ref q2, .ref q3, .ref q4, .ref q5, .ref q6])), (q21, .inl (c22, 60, .inl (fun _ => 0)))] := hD
  have hK : va_K (dC, dI) cls [(c22, .int)] s := hK
  have hP : va_P (dC, dI) cls [(h0, .inr (4, [.int 0, .int 0, .ref q1, .ref q7, .ref q9, .ref q11, .ref q13, .ref q15, .ref q17, .ref q19, .null, .null, .null, .null, .null, .null, .null, .int 0, .null, .null, .null])), (q1, .inr (3, [.int 0, .ref q2, .ref q3, .ref q4, .ref q5, .ref q6]))] H := hP.sub [0, 1] rfl
  have hD : va_D A [(h0, .inr (4, [.int 0, .int 0, .ref q1, .ref q7, .ref q9, .ref q11, .ref q13, .ref q15, .ref q17, .ref q19, .null, .null, .null, .null, .null, .null, .null, .int 0, .null, .null, .null])), (q1, .inr (3, [.int 0, .ref q2, .ref q3, .ref q4, .ref q5, .ref q6]))] := hD.sub [0, 1] (by decide) rfl
  have hK : va_K (dC, dI) cls [] s := hK.sub [] rfl
  refine W.widen (k := 14) (n := 1766) (Nat.le_of_ble_eq_true rfl) (Nat.le_of_ble_eq_true rfl) ?_
  refine va_putF (D := (dC, dI)) (ci := 4) (v := .ref q21) (ty := .array .int) (C := RX1) (T := TX1) (N := 21) hx hb hts i_X1 tyX1 tyX1_ok nmX1 hown hK hP hD hS 0 rfl rfl 10 (by decide) (hts _ qw47) (fun _ h9 => h9) rfl hin rfl (by decide +kernel) rfl rfl (Nat.le_of_ble_eq_true rfl) dX1_init_79 (fun H locs hP hD hS => ?_)
  have hP : va_P (dC, dI) cls [(h0, .inr (4, [.int 0, .int 0, .ref q1, .ref q7, .ref q9, .ref q11, .ref q13, .ref q15, .ref q17, .ref q19, .ref q21, .null, .null, .null, .null, .null, .null, .int 0, .null, .null, .null])), (q1, .inr (3, [.int 0, .ref q2, .ref q3, .ref q4, .ref q5, .ref q6]))] H := hP
  have hD : va_D A [(h0, .inr (4, [.int 0, .int 0, .ref q1, .ref q7, .ref q9, .ref q11, .ref q13, .ref q15, .ref q17, .ref q19, .ref q21, .null, .null, .null, .null, .null, .null, .int 0, .null, .null, .null])), (q1, .inr (3, [.int 0, .ref q2, .ref q3, .ref q4, .ref q5, .ref q6]))] := hD
  refine lv_aload_n hx hb dX1_init_82 rfl (lv_at hl 0 rfl) ?_
  refine lv_bipush (v := 60) hx hb dX1_init_83 (by decide) ?_
  refine va_newa (atype := .int) (ty := .int) hx hb (hts _ qw2) rfl hK hP hD hS hA (a0 := (60, .inl (fun _ => 0))) (fun _ => rfl) (by decide) (by decide +kernel) (Nat.le_of_ble_eq_true rfl) (Nat.le_of_ble_eq_true rfl) (Nat.le_of_ble_eq_true rfl) dX1_init_85 (fun q23 c24 H hK hP hD hS => ?_)
  have hP : va_P (dC, dI) cls [(h0, .inr (4, [.int 0, .int 0, .ref q1, .ref q7, .ref q9, .ref q11, .ref q13, .ref q15, .ref q17, .ref q19, .ref q21, .null, .null, .null, .null, .null, .null, .int 0, .null, .null, .null])), (q1, .inr (3, [.int 0, .ref q2, .ref q3, .ref q4, .ref q5, .ref q6])), (q23, .inl (c24, 60, .inl (fun _ => 0)))] H := hP
  have hD : va_D A [(h0, .inr (4, [.int 0, .int 0, .ref q1, .ref q7, .ref q9, .ref q11, .ref q13, .ref q15, .ref q17, .ref q19, .ref q21, .null, .null, .null, .null, .null, .null, .int 0, .null, .null, .null])), (q1, .inr (3, [.int 0, .ref q2, .ref q3, .ref q4, .ref q5, .ref q6])), (q23, .inl (c24, 60, .inl (fun _ => 0)))] := hD
  have hK : va_K (dC, dI) cls [(c24, .int)] s := hK
  have hP : va_P (dC, dI) cls [(h0, .inr (4, [.int 0, .int 0, .ref q1, .ref q7, .ref q9, .ref q11, .ref q13, .ref q15, .ref q17, .ref q19, .ref q21, .null, .null, .null, .null, .null, .null, .int 0, .null, .null, .null])), (q1, .inr (3, [.int 0, .ref q2, .ref q3, .ref q4, .ref q5, .ref q6]))] H := hP.sub [0, 1] rfl
  have hD : va_D A [(h0, .inr (4, [.int 0, .int 0, .ref q1, .ref q7, .ref q9, .ref q11, .ref q13, .ref q15, .ref q17, .ref q19, .ref q21, .null, .null, .null, .null, .null, .null, .int 0, .null, .null, .null])), (q1, .inr (3, [.int 0, .ref q2, .ref q3, .ref q4, .ref q5, .ref q6]))] := hD.sub [0, 1] (by decide) rfl
  have hK : va_K (dC, dI) cls [] s := hK.sub [] rfl
  refine W.widen (k := 15) (n := 1826) (Nat.le_of_ble_eq_true rfl) (Nat.le_of_ble_eq_true rfl) ?_
  refine va_putF (D := (dC, dI)) (ci := 4) (v := .ref q23) (ty := .array .int) (C := RX1) (T := TX1) (N := 21) hx hb hts i_X1 tyX1 tyX1_ok nmX1 hown hK hP hD hS 0 rfl rfl 11 (by decide) (hts _ qw48) (fun _ h9 => h9) rfl hin rfl (by decide +kernel) rfl rfl (Nat.le_of_ble_eq_true rfl) dX1_init_87 (fun H locs hP hD hS => ?_)
  have hP : va_P (dC, dI) cls [(h0, .inr (4, [.int 0, .int 0, .ref q1, .ref q7, .ref q9, .ref q11, .ref q13, .ref q15, .ref q17, .ref q19, .ref q21, .ref q23, .null, .null, .null, .null, .null, .int 0, .null, .null, .null])), (q1, .inr (3, [.int 0, .ref q2, .ref q3, .ref q4, .ref q5, .ref q6]))] H := hP
  have hD : va_D A [(h0, .inr (4, [.int 0, .int 0, .ref q1, .ref q7, .ref q9, .ref q11, .ref q13, .ref q15, .ref q17, .ref q19, .ref q21, .ref q23, .null, .null, .null, .null, .null, .int 0, .null, .null, .null])), (q1, .inr (3, [.int 0, .ref q2, .ref q3, .ref q4, .ref q5, .ref q6]))] := hD
  refine lv_aload_n hx hb dX1_init_90 rfl (lv_at hl 0 rfl) ?_
  refine lv_bipush (v := 60) hx hb dX1_init_91 (by decide) ?_
  refine va_newa (atype := .int) (ty := .int) hx hb (hts _ qw2) rfl hK hP hD hS hA (a0 := (60, .inl (fun _ => 0))) (fun _ => rfl) (by decide) (by decide +kernel) (Nat.le_of_ble_eq_true rfl) (Nat.le_of_ble_eq_true rfl) (Nat.le_of_ble_eq_true rfl) dX1_init_93 (fun q25 c26 H hK hP hD hS => ?_)
  have hP : va_P (dC, dI) cls [(h0, .inr (4, [.int 0, .int 0, .ref q1, .ref q7, .ref q9, .ref q11, .ref q13, .ref q15, .ref q17, .ref q19, .ref q21, .ref q23, .null, .null, .null, .null, .null, .int 0, .null, .null, .null])), (q1, .inr (3, [.int 0, .ref q2, .ref q3, .ref q4, .ref q5, .ref q6])), (q25, .inl (c26, 60, .inl (fun _ => 0)))] H := hP
  have hD : va_D A [(h0, .inr (4, [.int 0, .int 0, .ref q1, .ref q7, .ref q9, .ref q11, .ref q13, .ref q15, .ref q17, .ref q19, .ref q21, .ref q23, .null, .null, .null, .null, .null, .int 0, .null, .null, .null])), (q1, .inr (3, [.int 0, .ref q2, .ref q3, .ref q4, .ref q5, .ref q6])), (q25, .inl (c26, 60, .inl (fun _ => 0)))] := hD
  have hK : va_K (dC, dI) cls [(c26, .int)] s := hK
  have hP : va_P (dC, dI) cls [(h0, .inr (4, [.int 0, .int 0, .ref q1, .ref q7, .ref q9, .ref q11, .ref q13, .ref q15, .ref q17, .ref q19, .ref q21, .ref q23, .null, .null, .null, .null, .null, .int 0, .null, .null, .null])), (q1, .inr (3, [.int 0, .ref q2, .ref q3, .ref q4, .ref q5, .ref q6]))] H := hP.sub [0, 1] rfl
  have hD : va_D A [(h0, .inr (4, [.int 0, .int 0, .ref q1, .ref q7, .ref q9, .ref q11, .ref q13, .ref q15, .ref q17, .ref q19, .ref q21, .ref q23, .null, .null, .null, .null, .null, .int 0, .null, .null, .null])), (q1, .inr (3, [.int 0, .ref q2, .ref q3, .ref q4, .ref q5, .ref q6]))] := hD.sub [0, 1] (by decide) rfl
  have hK : va_K (dC, dI) cls [] s := hK.sub [] rfl
  refine W.widen (k := 16) (n := 1886) (Nat.le_of_ble_eq_true rfl) (Nat.le_of_ble_eq_true rfl) ?_
  refine va_putF (D := (dC, dI)) (ci := 4) (v := .ref q25) (ty := .array .int) (C := RX1) (T := TX1) (N := 21) hx hb hts i_X1 tyX1 tyX1_ok nmX1 hown hK hP hD hS 0 rfl rfl 12 (by decide) (hts _ qw49) (fun _ h9 => h9) rfl hin rfl (by decide +kernel) rfl rfl (Nat.le_of_ble_eq_true rfl) dX1_init_95 (fun H locs hP hD hS => ?_)
  have hP : va_P (dC, dI) cls [(h0, .inr (4, [.int 0, .int 0, .ref q1, .ref q7, .ref q9, .ref q11, .ref q13, .ref q15, .ref q17, .ref q19, .ref q21, .ref q23, .ref q25, .null, .null, .null, .null, .int 0, .null, .null, .null])), (q1, .inr (3, [.int 0, .ref q2, .ref q3, .ref q4, .ref q5, .ref q6]))] H := hP
  have hD : va_D A [(h0, .inr (4, [.int 0, .int 0, .ref q1, .ref q7, .ref q9, .ref q11, .ref q13, .ref q15, .ref q17, .ref q19, .ref q21, .ref q23, .ref q25, .null, .null, .null, .null, .int 0, .null, .null, .null])), (q1, .inr (3, [.int 0, .ref q2, .ref q3, .ref q4, .ref q5, .ref q6]))] := hD
  refine lv_aload_n hx hb dX1_init_98 rfl (lv_at hl 0 rfl) ?_
  refine lv_bipush (v := 61) hx hb dX1_init_99 (by decide) ?_
  refine va_newa (atype := .int) (ty := .int) hx hb (hts _ qw2) rfl hK hP hD hS hA (a0 := (61, .inl (fun _ => 0))) (fun _ => rfl) (by decide) (by decide +kernel) (Nat.le_of_ble_eq_true rfl) (Nat.le_of_ble_eq_true rfl) (Nat.le_of_ble_eq_true rfl) dX1_init_101 (fun q27 c28 H hK hP hD hS => ?_)
  have hP : va_P (dC, dI) cls [(h0, .inr (4, [.int 0, .int 0, .ref q1, .ref q7, .ref q9, .ref q11, .ref q13, .ref q15, .ref q17, .ref q19, .ref q21, .ref q23, .ref q25, .null, .null, .null, .null, .int 0, .null, .null, .null])), (q1, .inr (3, [.int 0, .ref q2, .ref q3, .ref q4, .ref q5, .ref q6])), (q27, .inl (c28, 61, .inl (fun _ => 0)))] H := hP
  have hD : va_D A [(h0, .inr (4, [.int 0, .int 0, .ref q1, .ref q7, .ref q9, .ref q11, .ref q13, .ref q15, .ref q17, .ref q19, .ref q21, .ref q23, .ref q25, .null, .null, .null, .null, .int 0, .null, .null, .null])), (q1, .inr (3, [.int 0, .ref q2, .ref q3, .ref q4, .ref q5, .ref q6])), (q27, .inl (c28, 61, .inl (fun _ => 0)))] := hD
  have hK : va_K (dC, dI) cls [(c28, .int)] s := hK
  have hP : va_P (dC, dI) cls [(h0, .inr (4, [.int 0, .int 0, .ref q1, .ref q7, .ref q9, .ref q11, .ref q13, .ref q15, .ref q17, .ref q19, .ref q21, .ref q23, .ref q25, .null, .null, .null, .null, .int 0, .null, .null, .null])), (q1, .inr (3, [.int 0, .ref q2, .ref q3, .ref q4, .ref q5, .ref q6]))] H := hP.sub [0, 1] rfl
  have hD : va_D A [(h0, .inr (4, [.int 0, .int 0, .ref q1, .ref q7, .ref q9, .ref q11, .ref q13, .ref q15, .ref q17, .ref q19, .ref q21, .ref q23, .ref q25, .null, .null, .null, .null, .int 0, .null, .null, .null])), (q1, .inr (3, [.int 0, .ref q2, .ref q3, .ref q4, .ref q5, .ref q6]))] := hD.sub [0, 1] (by decide) rfl
  have hK : va_K (dC, dI) cls [] s := hK.sub [] rfl
  refine W.widen (k := 17) (n := 1947) (Nat.le_of_ble_eq_true rfl) (Nat.le_of_ble_eq_true rfl) ?_
  refine va_putF (D := (dC, dI)) (ci := 4) (v := .ref q27) (ty := .array .int) (C := RX1) (T := TX1) (N := 21) hx hb hts i_X1 tyX1 tyX1_ok nmX1 hown hK hP hD hS 0 rfl rfl 13 (by decide) (hts _ qw50) (fun _ h9 => h9) rfl hin rfl (by decide +kernel) rfl rfl (Nat.le_of_ble_eq_true rfl) dX1_init_103 (fun H locs hP hD hS => ?_)
  have hP : va_P (dC, dI) cls [(h0, .inr (4, [.int 0, .int 0, .ref q1, .ref q7, .ref q9, .ref q11, .ref q13, .ref q15, .ref q17, .ref q19, .ref q21, .ref q23, .ref q25, .ref q27, .null, .null, .null, .int 0, .null, .null, .null])), (q1, .inr (3, [.int 0, .ref q2, .ref q3, .ref q4, .ref q5, .ref q6]))] H := hP
  have hD : va_D A [(h0, .inr (4, [.int 0, .int 0, .ref q1, .ref q7, .ref q9, .ref q11, .ref q13, .ref q15, .ref q17, .ref q19, .ref q21, .ref q23, .ref q25, .ref q27, .null, .null, .null, .int 0, .null, .null, .null])), (q1, .inr (3, [.int 0, .ref q2, .ref q3, .ref q4, .ref q5, .ref q6]))] := hD
  refine lv_aload_n hx hb dX1_init_106 rfl (lv_at hl 0 rfl) ?_
  refine lv_bipush (v := 120) hx hb dX1_init_107 (by decide) ?_
  refine va_newa (atype := .int) (ty := .int) hx hb (hts _ qw2) rfl hK hP hD hS hA (a0 := (120, .inl (fun _ => 0))) (fun _ => rfl) (by decide) (by decide +kernel) (Nat.le_of_ble_eq_true rfl) (Nat.le_of_ble_eq_true rfl) (Nat.le_of_ble_eq_true rfl) dX1_init_109 (fun q29 c30 H hK hP hD hS => ?_)
  have hP : va_P (dC, dI) cls [(h0, .inr (4, [.int 0, .int 0, .ref q1, .ref q7, .ref q9, .ref q11, .ref q13, .ref q15, .ref q17, .ref q19, .ref q21, .ref q23, .ref q25, .ref q27, .null, .null, .null, .int 0, .null, .null, .null])), (q1, .inr (3, [.int 0, .ref q2, .ref q3, .ref q4, .ref q5, .ref q6])), (q29, .inl (c30, 120, .inl (fun _ => 0)))] H := hP
  have hD : va_D A [(h0, .inr (4, [.int 0, .int 0, .ref q1, .ref q7, .ref q9, .ref q11, .ref q13, .ref q15, .ref q17, .ref q19, .ref q21, .ref q23, .ref q25, .ref q27, .null, .null, .null, .int 0, .null, .null, .null])), (q1, .inr (3, [.int 0, .ref q2, .ref q3, .ref q4, .ref q5, .ref q6])), (q29, .inl (c30, 120, .inl (fun _ => 0)))] := hD
  have hK : va_K (dC, dI) cls [(c30, .int)] s := hK
  have hP : va_P (dC, dI) cls [(h0, .inr (4, [.int 0, .int 0, .ref q1, .ref q7, .ref q9, .ref q11, .ref q13, .ref q15, .ref q17, .ref q19, .ref q21, .ref q23, .ref q25, .ref q27, .null, .null, .null, .int 0, .null, .null, .null])), (q1, .inr (3, [.int 0, .ref q2, .ref q3, .ref q4, .ref q5, .ref q6]))] H := hP.sub [0, 1] rfl
  have hD : va_D A [(h0, .inr (4, [.int 0, .int 0, .ref q1, .ref q7, .ref q9, .ref q11, .ref q13, .ref q15, .ref q17, .ref q19, .ref q21, .ref q23, .ref q25, .ref q27, .null, .null, .null, .int 0, .null, .null, .null])), (q1, .inr (3, [.int 0, .ref q2, .ref q3, .ref q4, .ref q5, .ref q6]))] := hD.sub [0, 1] (by decide) rfl
  have hK : va_K (dC, dI) cls [] s := hK.sub [] rfl
  refine W.widen (k := 18) (n := 2067) (Nat.le_of_ble_eq_true rfl) (Nat.le_of_ble_eq_true rfl) ?_
  refine va_putF (D := (dC, dI)) (ci := 4) (v := .ref q29) (ty := .array .int) (C := RX1) (T := TX1) (N := 21) hx hb hts i_X1 tyX1 tyX1_ok nmX1 hown hK hP hD hS 0 rfl rfl 14 (by decide) (hts _ qw51) (fun _ h9 => h9) rfl hin rfl (by decide +kernel) rfl rfl (Nat.le_of_ble_eq_true rfl) dX1_init_111 (fun H locs hP hD hS => ?_)
  have hP : va_P (dC, dI) cls [(h0, .inr (4, [.int 0, .int 0, .ref q1, .ref q7, .ref q9, .ref q11, .ref q13, .ref q15, .ref q17, .ref q19, .ref q21, .ref q23, .ref q25, .ref q27, .ref q29, .null, .null, .int 0, .null, .null, .null])), (q1, .inr (3, [.int 0, .ref q2, .ref q3, .ref q4, .ref q5, .ref q6]))] H := hP
  have hD : va_D A [(h0, .inr (4, [.int 0, .int 0, .ref q1, .ref q7, .ref q9, .ref q11, .ref q13, .ref q15, .ref q17, .ref q19, .ref q21, .ref q23, .ref q25, .ref q27, .ref q29, .null, .null, .int 0, .null, .null, .null])), (q1, .inr (3, [.int 0, .ref q2, .ref q3, .ref q4, .ref q5, .ref q6]))] := hD
  refine lv_aload_n hx hb dX1_init_114 rfl (lv_at hl 0 rfl) ?_
  refine lv_bipush (v := 60) hx hb dX1_init_115 (by decide) ?_
  refine va_newa (atype := .long) (ty := .long) hx hb (hts _ qw5) rfl hK hP hD hS hA (a0 := (60, .inr <| .inl (fun _ => 0))) (fun _ => rfl) (by decide) (by decide +kernel) (Nat.le_of_ble_eq_true rfl) (Nat.le_of_ble_eq_true rfl) (Nat.le_of_ble_eq_true rfl) dX1_init_117 (fun q31 c32 H hK hP hD hS => ?_)
  have hP : va_P (dC, dI) cls [(h0, .inr (4, [.int 0, .int 0, .ref q1, .ref q7, .ref q9, .ref q11, .ref q13, .ref q15, .ref q17, .ref q19, .ref q21, .ref q23, .ref q25, .ref q27, .ref q29, .null, .null, .int 0, .null, .null, .null])), (q1, .inr (3, [.int 0, .ref q2, .ref q3, .ref q4, .ref q5, .ref q6])), (q31, .inl (c32, 60, .inr (.inl (fun _ => 0))))] H := hP
  have hD : va_D A [(h0, .inr (4, [.int 0, .int 0, .ref q1, .ref q7, .ref q9, .ref q11, .ref q13, .ref q15, .ref q17, .ref q19, .ref q21, .ref q23, .ref q25, .ref q27, .ref q29, .null, .null, .int 0, .null, .null, .null])), (q1, .inr (3, [.int 0, .ref q2, .ref q3, .ref q4, .ref q5, .ref q6])), (q31, .inl (c32, 60, .inr (.inl (fun _ => 0))))] := hD
  have hK : va_K (dC, dI) cls [(c32, .long)] s := hK
  have hP : va_P (dC, dI) cls [(h0, .inr (4, [.int 0, .int 0, .ref q1, .ref q7, .ref q9, .ref q11, .ref q13, .ref q15, .ref q17, .ref q19, .ref q21, .ref q23, .ref q25, .ref q27, .ref q29, .null, .null, .int 0, .null, .null, .null])), (q1, .inr (3, [.int 0, .ref q2, .ref q3, .ref q4, .ref q5, .ref q6]))] H := hP.sub [0, 1] rfl
  have hD : va_D A [(h0, .inr (4, [.int 0, .int 0, .ref q1, .ref q7, .ref q9, .ref q11, .ref q13, .ref q15, .ref q17, .ref q19, .ref q21, .ref q23, .ref q25, .ref q27, .ref q29, .null, .null, .int 0, .null, .null, .null])), (q1, .inr (3, [.int 0, .ref q2, .ref q3, .ref q4, .ref q5, .ref q6]))] := hD.sub [0, 1] (by decide) rfl
  have hK : va_K (dC, dI) cls [] s := hK.sub [] rfl
  refine W.widen (k := 19) (n := 2127) (Nat.le_of_ble_eq_true rfl) (Nat.le_of_ble_eq_true rfl) ?_
  refine va_putF (D := (dC, dI)) (ci := 4) (v := .ref q31) (ty := .array .long) (C := RX1) (T := TX1) (N := 21) hx hb hts i_X1 tyX1 tyX1_ok nmX1 hown hK hP hD hS 0 rfl rfl 15 (by decide) (hts _ qw52) (fun _ h9 => h9) rfl hin rfl (by decide +kernel) rfl rfl (Nat.le_of_ble_eq_true rfl) dX1_init_119 (fun H locs hP hD hS => ?_)
  have hP : va_P (dC, dI) cls [(h0, .inr (4, [.int 0, .int 0, .ref q1, .ref q7, .ref q9, .ref q11, .ref q13, .ref q15, .ref q17, .ref q19, .ref q21, .ref q23, .ref q25, .ref q27, .ref q29, .ref q31, .null, .int 0, .null, .null, .null])), (q1, .inr (3, [.int 0, .ref q2, .ref q3, .ref q4, .ref q5, .ref q6]))] H := hP
  have hD : va_D A [(h0, .inr (4, [.int 0, .int 0, .ref q1, .ref q7, .ref q9, .ref q11, .ref q13, .ref q15, .ref q17, .ref q19, .ref q21, .ref q23, .ref q25, .ref q27, .ref q29, .ref q31, .null, .int 0, .null, .null, .null])), (q1, .inr (3, [.int 0, .ref q2, .ref q3, .ref q4, .ref q5, .ref q6]))] := hD
  refine lv_aload_n hx hb dX1_init_122 rfl (lv_at hl 0 rfl) ?_
  refine lv_bipush (v := 60) hx hb dX1_init_123 (by decide) ?_
  refine va_newa (atype := .long) (ty := .long) hx hb (hts _ qw5) rfl hK hP hD hS hA (a0 := (60, .inr <| .inl (fun _ => 0))) (fun _ => rfl) (by decide) (by decide +kernel) (Nat.le_of_ble_eq_true rfl) (Nat.le_of_ble_eq_true rfl) (Nat.le_of_ble_eq_true rfl) dX1_init_125 (fun q33 c34 H hK hP hD hS => ?_)
  have hP : va_P (dC, dI) cls [(h0, .inr (4, [.int 0, .int 0, .ref q1, .ref q7, .ref q9, .ref q11, .ref q13, .ref q15, .ref q17, .ref q19, .ref q21, .ref q23, .ref q25, .ref q27, .ref q29, .ref q31, .null, .int 0, .null, .null, .null])), (q1, .inr (3, [.int 0, .ref q2, .ref q3, .ref q4, .ref q5, .ref q6])), (q33, .inl (c34, 60, .inr (.inl (fun _ => 0))))] H := hP
  have hD : va_D A [(h0, .inr (4, [.int 0, .int 0, .ref q1, .ref q7, .ref q9, .ref q11, .ref q13, .ref q15, .ref q17, .ref q19, .ref q21, .ref q23, .ref q25, .ref q27, .ref q29, .ref q31, .null, .int 0, .null, .null, .null])), (q1, .inr (3, [.int 0, .ref q2, .ref q3, .ref q4, .ref q5, .ref q6])), (q33, .inl (c34, 60, .inr (.inl (fun _ => 0))))] := hD
  have hK : va_K (dC, dI) cls [(c34, .long)] s := hK
  have hP : va_P (dC, dI) cls [(h0, .inr (4, [.int 0, .int 0, .ref q1, .ref q7, .ref q9, .ref q11, .ref q13, .ref q15, .ref q17, .ref q19, .ref q21, .ref q23, .ref q25, .ref q27, .ref q29, .ref q31, .null, .int 0, .null, .null, .null])), (q1, .inr (3, [.int 0, .ref q2, .ref q3, .ref q4, .ref q5, .ref q6]))] H := hP.sub [0, 1] rfl
  have hD : va_D A [(h0, .inr (4, [.int 0, .int 0, .ref q1, .ref q7, .ref q9, .ref q11, .ref q13, .ref q15, .ref q17, .ref q19, .ref q21, .ref q23, .ref q25, .ref q27, .ref q29, .ref q31, .null, .int 0, .null, .null, .null])), (q1, .inr (3, [.int 0, .ref q2, .ref q3, .ref q4, .ref q5, .ref q6]))] := hD.sub [0, 1] (by decide) rfl
  have hK : va_K (dC, dI) cls [] s := hK.sub [] rfl
  refine W.widen (k := 20) (n := 2187) (Nat.le_of_ble_eq_true rfl) (Nat.le_of_ble_eq_true rfl) ?_
  refine va_putF (D := (dC, dI)) (ci := 4) (v := .ref q33) (ty := .array .long) (C := RX1) (T := TX1) (N := 21) hx hb hts i_X1 tyX1 tyX1_ok nmX1 hown hK hP hD hS 0 rfl rfl 16 (by decide) (hts _ qw53) (fun _ h9 => h9) rfl hin rfl (by decide +kernel) rfl rfl (Nat.le_of_ble_eq_true rfl) dX1_init_127 (fun H locs hP hD hS => ?_)
  have hP : va_P (dC, dI) cls [(h0, .inr (4, [.int 0, .int 0, .ref q1, .ref q7, .ref q9, .ref q11, .ref q13, .ref q15, .ref q17, .ref q19, .ref q21, .ref q23, .ref q25, .ref q27, .ref q29, .ref q31, .ref q33, .int 0, .null, .null, .null])), (q1, .inr (3, [.int 0, .ref q2, .ref q3, .ref q4, .ref q5, .ref q6]))] H := hP
  have hD : va_D A [(h0, .inr (4, [.int 0, .int 0, .ref q1, .ref q7, .ref q9, .ref q11, .ref q13, .ref q15, .ref q17, .ref q19, .ref q21, .ref q23, .ref q25, .ref q27, .ref q29, .ref q31, .ref q33, .int 0, .null, .null, .null])), (q1, .inr (3, [.int 0, .ref q2, .ref q3, .ref q4, .ref q5, .ref q6]))] := hD
  refine lv_aload_n hx hb dX1_init_130 rfl (lv_at hl 0 rfl) ?_
  refine lv_bipush (v := 32) hx hb dX1_init_131 (by decide) ?_
  refine va_newa (atype := .int) (ty := .int) hx hb (hts _ qw2) rfl hK hP hD hS hA (a0 := (32, .inl (fun _ => 0))) (fun _ => rfl) (by decide) (by decide +kernel) (Nat.le_of_ble_eq_true rfl) (Nat.le_of_ble_eq_true rfl) (Nat.le_of_ble_eq_true rfl) dX1_init_133 (fun q35 c36 H hK hP hD hS => ?_)
  have hP : va_P (dC, dI) cls [(h0, .inr (4, [.int 0, .int 0, .ref q1, .ref q7, .ref q9, .ref q11, .ref q13, .ref q15, .ref q17, .ref q19, .ref q21, .ref q23, .ref q25, .ref q27, .ref q29, .ref q31, .ref q33, .int 0, .null, .null, .null])), (q1, .inr (3, [.int 0, .ref q2, .ref q3, .ref q4, .ref q5, .ref q6])), (q35, .inl (c36, 32, .inl (fun _ => 0)))] H := hP
  have hD : va_D A [(h0, .inr (4, [.int 0, .int 0, .ref q1, .ref q7, .ref q9, .ref q11, .ref q13, .ref q15, .ref q17, .ref q19, .ref q21, .ref q23, .ref q25, .ref q27, .ref q29, .ref q31, .ref q33, .int 0, .null, .null, .null])), (q1, .inr (3, [.int 0, .ref q2, .ref q3, .ref q4, .ref q5, .ref q6])), (q35, .inl (c36, 32, .inl (fun _ => 0)))] := hD
  have hK : va_K (dC, dI) cls [(c36, .int)] s := hK
  have hP : va_P (dC, dI) cls [(h0, .inr (4, [.int 0, .int 0, .ref q1, .ref q7, .ref q9, .ref q11, .ref q13, .ref q15, .ref q17, .ref q19, .ref q21, .ref q23, .ref q25, .ref q27, .ref q29, .ref q31, .ref q33, .int 0, .null, .null, .null])), (q1, .inr (3, [.int 0, .ref q2, .ref q3, .ref q4, .ref q5, .ref q6]))] H := hP.sub [0, 1] rfl
  have hD : va_D A [(h0, .inr (4, [.int 0, .int 0, .ref q1, .ref q7, .ref q9, .ref q11, .ref q13, .ref q15, .ref q17, .ref q19, .ref q21, .ref q23, .ref q25, .ref q27, .ref q29, .ref q31, .ref q33, .int 0, .null, .null, .null])), (q1, .inr (3, [.int 0, .ref q2, .ref q3, .ref q4, .ref q5, .ref q6]))] := hD.sub [0, 1] (by decide) rfl
  have hK : va_K (dC, dI) cls [] s := hK.sub [] rfl
  refine W.widen (k := 21) (n := 2219) (Nat.le_of_ble_eq_true rfl) (Nat.le_of_ble_eq_true rfl) ?_
  refine va_put (D := (dC, dI)) (ci := 4) (v := .ref q35) (ty := .array .int) (C := RX1) (T := TX1) (N := 21) hx hb hts i_X1 tyX1 tyX1_ok nmX1 hown hK hP hD hS 0 rfl rfl 18 (by decide) (hts _ qw54) (fun _ h9 => h9) rfl (by decide +kernel) rfl rfl (Nat.le_of_ble_eq_true rfl) dX1_init_135 (fun H locs hP hD hS => ?_)
  have hP : va_P (dC, dI) cls [(h0, .inr (4, [.int 0, .int 0, .ref q1, .ref q7, .ref q9, .ref q11, .ref q13, .ref q15, .ref q17, .ref q19, .ref q21, .ref q23, .ref q25, .ref q27, .ref q29, .ref q31, .ref q33, .int 0, .ref q35, .null, .null])), (q1, .inr (3, [.int 0, .ref q2, .ref q3, .ref q4, .ref q5, .ref q6]))] H := hP
  have hD : va_D A [(h0, .inr (4, [.int 0, .int 0, .ref q1, .ref q7, .ref q9, .ref q11, .ref q13, .ref q15, .ref q17, .ref q19, .ref q21, .ref q23, .ref q25, .ref q27, .ref q29, .ref q31, .ref q33, .int 0, .ref q35, .null, .null])), (q1, .inr (3, [.int 0, .ref q2, .ref q3, .ref q4, .ref q5, .ref q6]))] := hD
  refine lv_aload_n hx hb dX1_init_138 rfl (lv_at hl 0 rfl) ?_
  refine lv_bipush (v := 32) hx hb dX1_init_139 (by decide) ?_
  refine va_newa (atype := .int) (ty := .int) hx hb (hts _ qw2) rfl hK hP hD hS hA (a0 := (32, .inl (fun _ => 0))) (fun _ => rfl) (by decide) (by decide +kernel) (Nat.le_of_ble_eq_true rfl) (Nat.le_of_ble_eq_true rfl) (Nat.le_of_ble_eq_true rfl) dX1_init_141 (fun q37 c38 H hK hP hD hS => ?_)
  have hP : va_P (dC, dI) cls [(h0, .inr (4, [.int 0, .int 0, .ref q1, .ref q7, .ref q9, .ref q11, .ref q13, .ref q15, .ref q17, .ref q19, .ref q21, .ref q23, .ref q25, .ref q27, .ref q29, .ref q31, .ref q33, .int 0, .ref q35, .null, .null])), (q1, .inr (3, [.int 0, .ref q2, .ref q3, .ref q4, .ref q5, .ref q6])), (q37, .inl (c38, 32, .inl (fun _ => 0)))] H := hP
  have hD : va_D A [(h0, .inr (4, [.int 0, .int 0, .ref q1, .ref q7, .ref q9, .ref q11, .ref q13, .ref q15, .ref q17, .ref q19, .ref q21, .ref q23, .ref q25, .ref q27, .ref q29, .ref q31, .ref q33, .int 0, .ref q35, .null, .null])), (q1, .inr (3, [.int 0, .ref q2, .ref q3, .ref q4, .ref q5, .ref q6])), (q37, .inl (c38, 32, .inl (fun _ => 0)))] := hD
  have hK : va_K (dC, dI) cls [(c38, .int)] s := hK
  have hP : va_P (dC, dI) cls [(h0, .inr (4, [.int 0, .int 0, .ref q1, .ref q7, .ref q9, .ref q11, .ref q13, .ref q15, .ref q17, .ref q19, .ref q21, .ref q23, .ref q25, .ref q27, .ref q29, .ref q31, .ref q33, .int 0, .ref q35, .null, .null])), (q1, .inr (3, [.int 0, .ref q2, .ref q3, .ref q4, .ref q5, .ref q6]))] H := hP.sub [0, 1] rfl
  have hD : va_D A [(h0, .inr (4, [.int 0, .int 0, .ref q1, .ref q7, .ref q9, .ref q11, .ref q13, .ref q15, .ref q17, .ref q19, .ref q21, .ref q23, .ref q25, .ref q27, .ref q29, .ref q31, .ref q33, .int 0, .ref q35, .null, .null])), (q1, .inr (3, [.int 0, .ref q2, .ref q3, .ref q4, .ref q5, .ref q6]))] := hD.sub [0, 1] (by decide) rfl
  have hK : va_K (dC, dI) cls [] s := hK.sub [] rfl
  refine W.widen (k := 22) (n := 2251) (Nat.le_of_ble_eq_true rfl) (Nat.le_of_ble_eq_true rfl) ?_
  refine va_put (D := (dC, dI)) (ci := 4) (v := .ref q37) (ty := .array .int) (C := RX1) (T := TX1) (N := 21) hx hb hts i_X1 tyX1 tyX1_ok nmX1 hown hK hP hD hS 0 rfl rfl 19 (by decide) (hts _ qw55) (fun _ h9 => h9) rfl (by decide +kernel) rfl rfl (Nat.le_of_ble_eq_true rfl) dX1_init_143 (fun H locs hP hD hS => ?_)
  have hP : va_P (dC, dI) cls [(h0, .inr (4, [.int 0, .int 0, .ref q1, .ref q7, .ref q9, .ref q11, .ref q13, .ref q15, .ref q17, .ref q19, .ref q21, .ref q23, .ref q25, .ref q27, .ref q29, .ref q31, .ref q33, .int 0, .ref q35, .ref q37, .null])), (q1, .inr (3, [.int 0, .ref q2, .ref q3, .ref q4, .ref q5, .ref q6]))] H := hP
  have hD : va_D A [(h0, .inr (4, [.int 0, .int 0, .ref q1, .ref q7, .ref q9, .ref q11, .ref q13, .ref q15, .ref q17, .ref q19, .ref q21, .ref q23, .ref q25, .ref q27, .ref q29, .ref q31, .ref q33, .int 0, .ref q35, .ref q37, .null])), (q1, .inr (3, [.int 0, .ref q2, .ref q3, .ref q4, .ref q5, .ref q6]))] := hD
  refine lv_aload_n hx hb dX1_init_146 rfl (lv_at hl 0 rfl) ?_
  refine lv_sipush (v := 1920) hx hb dX1_init_147 (by decide) ?_
  refine va_newa (atype := .int) (ty := .int) hx hb (hts _ qw2) rfl hK hP hD hS hA (a0 := (1920, .inl (fun _ => 0))) (fun _ => rfl) (by decide) (by decide +kernel) (Nat.le_of_ble_eq_true rfl) (Nat.le_of_ble_eq_true rfl) (Nat.le_of_ble_eq_true rfl) dX1_init_150 (fun q39 c40 H hK hP hD hS => ?_)
  have hP : va_P (dC, dI) cls [(h0, .inr (4, [.int 0, .int 0, .ref q1, .ref q7, .ref q9, .ref q11, .ref q13, .ref q15, .ref q17, .ref q19, .ref q21, .ref q23, .ref q25, .ref q27, .ref q29, .ref q31, .ref q33, .int 0, .ref q35, .ref q37, .null])), (q1, .inr (3, [.int 0, .ref q2, .ref q3, .ref q4, .ref q5, .ref q6])), (q39, .inl (c40, 1920, .inl (fun _ => 0)))] H := hP
  have hD : va_D A [(h0, .inr (4, [.int 0, .int 0, .ref q1, .ref q7, .ref q9, .ref q11, .ref q13, .ref q15, .ref q17, .ref q19, .ref q21, .ref q23, .ref q25, .ref q27, .ref q29, .ref q31, .ref q33, .int 0, .ref q35, .ref q37, .null])), (q1, .inr (3, [.int 0, .ref q2, .ref q3, .ref q4, .ref q5, .ref q6])), (q39, .inl (c40, 1920, .inl (fun _ => 0)))] := hD
  have hK : va_K (dC, dI) cls [(c40, .int)] s := hK
  have hP : va_P (dC, dI) cls [(h0, .inr (4, [.int 0, .int 0, .ref q1, .ref q7, .ref q9, .ref q11, .ref q13, .ref q15, .ref q17, .ref q19, .ref q21, .ref q23, .ref q25, .ref q27, .ref q29, .ref q31, .ref q33, .int 0, .ref q35, .ref q37, .null])), (q1, .inr (3, [.int 0, .ref q2, .ref q3, .ref q4, .ref q5, .ref q6]))] H := hP.sub [0, 1] rfl
  have hD : va_D A [(h0, .inr (4, [.int 0, .int 0, .ref q1, .ref q7, .ref q9, .ref q11, .ref q13, .ref q15, .ref q17, .ref q19, .ref q21, .ref q23, .ref q25, .ref q27, .ref q29, .ref q31, .ref q33, .int 0, .ref q35, .ref q37, .null])), (q1, .inr (3, [.int 0, .ref q2, .ref q3, .ref q4, .ref q5, .ref q6]))] := hD.sub [0, 1] (by decide) rfl
  have hK : va_K (dC, dI) cls [] s := hK.sub [] rfl
  refine W.widen (k := 23) (n := 4171) (Nat.le_of_ble_eq_true rfl) (Nat.le_of_ble_eq_true rfl) ?_
  refine va_put (D := (dC, dI)) (ci := 4) (v := .ref q39) (ty := .array .int) (C := RX1) (T := TX1) (N := 21) hx hb hts i_X1 tyX1 tyX1_ok nmX1 hown hK hP hD hS 0 rfl rfl 20 (by decide) (hts _ qw56) (fun _ h9 => h9) rfl (by decide +kernel) rfl rfl (Nat.le_of_ble_eq_true rfl) dX1_init_152 (fun H locs hP hD hS => ?_)
  have hP : va_P (dC, dI) cls [(h0, .inr (4, [.int 0, .int 0, .ref q1, .ref q7, .ref q9, .ref q11, .ref q13, .ref q15, .ref q17, .ref q19, .ref q21, .ref q23, .ref q25, .ref q27, .ref q29, .ref q31, .ref q33, .int 0, .ref q35, .ref q37, .ref q39])), (q1, .inr (3, [.int 0, .ref q2, .ref q3, .ref q4, .ref q5, .ref q6]))] H := hP
  have hD : va_D A [(h0, .inr (4, [.int 0, .int 0, .ref q1, .ref q7, .ref q9, .ref q11, .ref q13, .ref q15, .ref q17, .ref q19, .ref q21, .ref q23, .ref q25, .ref q27, .ref q29, .ref q31, .ref q33, .int 0, .ref q35, .ref q37, .ref q39])), (q1, .inr (3, [.int 0, .ref q2, .ref q3, .ref q4, .ref q5, .ref q6]))] := hD
  have hP9 : va_P (dC, dI) cls [(h0, .inr (4, [.int 0, .int 0, .ref q1, .ref q7, .ref q9, .ref q11, .ref q13, .ref q15, .ref q17, .ref q19, .ref q21, .ref q23, .ref q25, .ref q27, .ref q29, .ref q31, .ref q33, .int 0, .ref q35, .ref q37, .ref q39]))] H := hP.sub [0] rfl
  have hD9 : va_D A [(h0, .inr (4, [.int 0, .int 0, .ref q1, .ref q7, .ref q9, .ref q11, .ref q13, .ref q15, .ref q17, .ref q19, .ref q21, .ref q23, .ref q25, .ref q27, .ref q29, .ref q31, .ref q33, .int 0, .ref q35, .ref q37, .ref q39]))] := hD.sub [0] (by decide) rfl
  have hK9 : va_K (dC, dI) cls [] s := hK.sub [] rfl
  exact W.vret hx hb hr (fun t ht hW => ⟨⟨(), rfl, trivial, ⟨q1, q7, q9, q11, q13, q15, q17, q19, q21, q23, q25, q27, q29, q31, q33, q35, q37, q39, ⟨by rw [ht]; exact hP9, va_K.moved hW.alike hK9, hD9⟩⟩⟩, hS.F ht⟩) hS.2.2 dX1_init_155
set_option maxHeartbeats 4000000 in
set_option maxRecDepth 100000 in
theorem kX8_init {zs : Nat × Nat} (l : Launch) (dC : Nat → ClassId) (dI : Nat → Nat → Nat) (h0 : Nat) (sz : Nat)  : Met l yX8_init (wz yX8_init cX8_init 1 (Option.none : Option Jvm.ClassFile.FieldType)) ({ frames := 1, cells := 5, slots := 300, locals := 12 }) (va_Pc [.ref h0] (PRE zs dC dI [(h0, .inr (5, [.null, .null, .null, .null, .null]))] [] sz)) (va_Qv (fun (_ : Unit) => True) (fun _ t => POST dC dI [] [] (va_A [(h0, .inr (5, [.null, .null, .null, .null, .null]))] sz) t) (va_A [(h0, .inr (5, [.null, .null, .null, .null, .null]))] sz)) 5 300 (va_A [(h0, .inr (5, [.null, .null, .null, .null, .null]))] sz) := by
  refine Met.ofW (cc := cX8_init) (maxL := 1) (ret := (Option.none : Option Jvm.ClassFile.FieldType)) (by decide) rfl ?_
  intro p e s m args below meth c s₁ B hml hv
  obtain ⟨rfl, hsz, hP, hK, hD0, hE⟩ := hv
  have hx := B.exec
  have hb := B.bytes
  have hr := B.returns
  have hts0 := atoms_spec (ws := wz yX8_init cX8_init 1 (Option.none : Option Jvm.ClassFile.FieldType)) B.pre
  have hts : ∀ w ∈ gw, w.before _ s = true := fun w h => hts0 w (List.mem_cons_of_mem _ h)
  have hown : s.vm.findClass RX8 = some m.cls := findClass_of_methodNamed B.named
  have hlocks := B.notSynchronized
  have hin : meth.name = "<init>" := (name_of_methodNamed B.named B.method).1
  subst hsz
  have hD := hD0.self (sz := s.heap.size)
  generalize hAe : va_A [(h0, .inr (5, [.null, .null, .null, .null, .null]))] s.heap.size = A at hD hE ⊢
  have hA : ∀ q : Nat, s.heap.size ≤ q → A q := fun q h => by rw [← hAe]; exact Or.inr h
  have hS : va_S A s.heap s.heap [] := va_S.rf
  have hP : va_P (dC, dI) cls [(h0, .inr (5, [.null, .null, .null, .null, .null]))] s.heap := hP
  have hl := lv_entry ([.ref h0]) (n := 1) (Nat.le_of_ble_eq_true rfl)
  rw [lg_entry_eq]
  generalize (lg_sl ([.ref h0]) ++ List.replicate (1 - (lg_sl ([.ref h0])).length) Slot.unset).toArray = ls at hl ⊢
  have hl : lv_has ls 1 [(0, .ref h0)] := hl
  refine lv_aload_n hx hb dX8_init_0 rfl (lv_at hl 0 rfl) ?_
  refine W.objInit hx hb hown (hts _ qw57) (hts _ qw1) (hts _ qw_oi) rfl (by rw [hml]; exact hl.1) rfl dX8_init_1 (Nat.le_of_ble_eq_true rfl) (Nat.le_of_ble_eq_true rfl) ?_
  refine W.eq (g2 := F0 m 4 ls []) rfl ?_
  refine lv_aload_n hx hb dX8_init_4 rfl (lv_at hl 0 rfl) ?_
  refine lv_bipush (v := 60) hx hb dX8_init_5 (by decide) ?_
  refine va_newa (atype := .int) (ty := .int) hx hb (hts _ qw2) rfl hK hP hD hS hA (a0 := (60, .inl (fun _ => 0))) (fun _ => rfl) (by decide) (by decide +kernel) (Nat.le_of_ble_eq_true rfl) (Nat.le_of_ble_eq_true rfl) (Nat.le_of_ble_eq_true rfl) dX8_init_7 (fun q1 c2 H hK hP hD hS => ?_)
  have hP : va_P (dC, dI) cls [(h0, .inr (5, [.null, .null, .null, .null, .null])), (q1, .inl (c2, 60, .inl (fun _ => 0)))] H := hP
  have hD : va_D A [(h0, .inr (5, [.null, .null, .null, .null, .null])), (q1, .inl (c2, 60, .inl (fun _ => 0)))] := hD
  have hK : va_K (dC, dI) cls [(c2, .int)] s := hK
  have hP : va_P (dC, dI) cls [(h0, .inr (5, [.null, .null, .null, .null, .null]))] H := hP.sub [0] rfl
  have hD : va_D A [(h0, .inr (5, [.null, .null, .null, .null, .null]))] := hD.sub [0] (by decide) rfl
  have hK : va_K (dC, dI) cls [] s := hK.sub [] rfl
  refine W.widen (k := 1) (n := 60) (Nat.le_of_ble_eq_true rfl) (Nat.le_of_ble_eq_true rfl) ?_
  refine va_putF (D := (dC, dI)) (ci := 5) (v := .ref q1) (ty := .array .int) (C := RX8) (T := TX8) (N := 5) hx hb hts i_X8 tyX8 tyX8_ok nmX8 hown hK hP hD hS 0 rfl rfl 0 (by decide) (hts _ qw58) (fun _ h9 => h9) rfl hin rfl (by decide +kernel) rfl rfl (Nat.le_of_ble_eq_true rfl) dX8_init_9 (fun H locs hP hD hS => ?_)
  have hP : va_P (dC, dI) cls [(h0, .inr (5, [.ref q1, .null, .null, .null, .null]))] H := hP
  have hD : va_D A [(h0, .inr (5, [.ref q1, .null, .null, .null, .null]))] := hD
  refine lv_aload_n hx hb dX8_init_12 rfl (lv_at hl 0 rfl) ?_
  refine lv_bipush (v := 60) hx hb dX8_init_13 (by decide) ?_
  refine va_newa (atype := .int) (ty := .int) hx hb (hts _ qw2) rfl hK hP hD hS hA (a0 := (60, .inl (fun _ => 0))) (fun _ => rfl) (by decide) (by decide +kernel) (Nat.le_of_ble_eq_true rfl) (Nat.le_of_ble_eq_true rfl) (Nat.le_of_ble_eq_true rfl) dX8_init_15 (fun q3 c4 H hK hP hD hS => ?_)
  have hP : va_P (dC, dI) cls [(h0, .inr (5, [.ref q1, .null, .null, .null, .null])), (q3, .inl (c4, 60, .inl (fun _ => 0)))] H := hP
  have hD : va_D A [(h0, .inr (5, [.ref q1, .null, .null, .null, .null])), (q3, .inl (c4, 60, .inl (fun _ => 0)))] := hD
  have hK : va_K (dC, dI) cls [(c4, .int)] s := hK
  have hP : va_P (dC, dI) cls [(h0, .inr (5, [.ref q1, .null, .null, .null, .null]))] H := hP.sub [0] rfl
  have hD : va_D A [(h0, .inr (5, [.ref q1, .null, .null, .null, .null]))] := hD.sub [0] (by decide) rfl
  have hK : va_K (dC, dI) cls [] s := hK.sub [] rfl
  refine W.widen (k := 2) (n := 120) (Nat.le_of_ble_eq_true rfl) (Nat.le_of_ble_eq_true rfl) ?_
  refine va_putF (D := (dC, dI)) (ci := 5) (v := .ref q3) (ty := .array .int) (C := RX8) (T := TX8) (N := 5) hx hb hts i_X8 tyX8 tyX8_ok nmX8 hown hK hP hD hS 0 rfl rfl 1 (by decide) (hts _ qw59) (fun _ h9 => h9) rfl hin rfl (by decide +kernel) rfl rfl (Nat.le_of_ble_eq_true rfl) dX8_init_17 (fun H locs hP hD hS => ?_)
  have hP : va_P (dC, dI) cls [(h0, .inr (5, [.ref q1, .ref q3, .null, .null, .null]))] H := hP
  have hD : va_D A [(h0, .inr (5, [.ref q1, .ref q3, .null, .null, .null]))] := hD
  refine lv_aload_n hx hb dX8_init_20 rfl (lv_at hl 0 rfl) ?_
  refine lv_bipush (v := 60) hx hb dX8_init_21 (by decide) ?_
  refine va_newa (atype := .int) (ty := .int) hx hb (hts _ qw2) rfl hK hP hD hS hA (a0 := (60, .inl (fun _ => 0))) (fun _ => rfl) (by decide) (by decide +kernel) (Nat.le_of_ble_eq_true rfl) (Nat.le_of_ble_eq_true rfl) (Nat.le_of_ble_eq_true rfl) dX8_init_23 (fun q5 c6 H hK hP hD hS => ?_)
  have hP : va_P (dC, dI) cls [(h0, .inr (5, [.ref q1, .ref q3, .null, .null, .null])), (q5, .inl (c6, 60, .inl (fun _ => 0)))] H := hP
  have hD : va_D A [(h0, .inr (5, [.ref q1, .ref q3, .null, .null, .null])), (q5, .inl (c6, 60, .inl (fun _ => 0)))] := hD
  have hK : va_K (dC, dI) cls [(c6, .int)] s := hK
  have hP : va_P (dC, dI) cls [(h0, .inr (5, [.ref q1, .ref q3, .null, .null, .null]))] H := hP.sub [0] rfl
  have hD : va_D A [(h0, .inr (5, [.ref q1, .ref q3, .null, .null, .null]))] := hD.sub [0] (by decide) rfl
  have hK : va_K (dC, dI) cls [] s := hK.sub [] rfl
  refine W.widen (k := 3) (n := 180) (Nat.le_of_ble_eq_true rfl) (Nat.le_of_ble_eq_true rfl) ?_
  refine va_putF (D := (dC, dI)) (ci := 5) (v := .ref q5) (ty := .array .int) (C := RX8) (T := TX8) (N := 5) hx hb hts i_X8 tyX8 tyX8_ok nmX8 hown hK hP hD hS 0 rfl rfl 2 (by decide) (hts _ qw60) (fun _ h9 => h9) rfl hin rfl (by decide +kernel) rfl rfl (Nat.le_of_ble_eq_true rfl) dX8_init_25 (fun H locs hP hD hS => ?_)
  have hP : va_P (dC, dI) cls [(h0, .inr (5, [.ref q1, .ref q3, .ref q5, .null, .null]))] H := hP
  have hD : va_D A [(h0, .inr (5, [.ref q1, .ref q3, .ref q5, .null, .null]))] := hD
  refine lv_aload_n hx hb dX8_init_28 rfl (lv_at hl 0 rfl) ?_
  refine lv_bipush (v := 60) hx hb dX8_init_29 (by decide) ?_
  refine va_newa (atype := .int) (ty := .int) hx hb (hts _ qw2) rfl hK hP hD hS hA (a0 := (60, .inl (fun _ => 0))) (fun _ => rfl) (by decide) (by decide +kernel) (Nat.le_of_ble_eq_true rfl) (Nat.le_of_ble_eq_true rfl) (Nat.le_of_ble_eq_true rfl) dX8_init_31 (fun q7 c8 H hK hP hD hS => ?_)
  have hP : va_P (dC, dI) cls [(h0, .inr (5, [.ref q1, .ref q3, .ref q5, .null, .null])), (q7, .inl (c8, 60, .inl (fun _ => 0)))] H := hP
  have hD : va_D A [(h0, .inr (5, [.ref q1, .ref q3, .ref q5, .null, .null])), (q7, .inl (c8, 60, .inl (fun _ => 0)))] := hD
  have hK : va_K (dC, dI) cls [(c8, .int)] s := hK
  have hP : va_P (dC, dI) cls [(h0, .inr (5, [.ref q1, .ref q3, .ref q5, .null, .null]))] H := hP.sub [0] rfl
  have hD : va_D A [(h0, .inr (5, [.ref q1, .ref q3, .ref q5, .null, .null]))] := hD.sub [0] (by decide) rfl
  have hK : va_K (dC, dI) cls [] s := hK.sub [] rfl
  refine W.widen (k := 4) (n := 240) (Nat.le_of_ble_eq_true rfl) (Nat.le_of_ble_eq_true rfl) ?_
  refine va_putF (D := (dC, dI)) (ci := 5) (v := .ref q7) (ty := .array .int) (C := RX8) (T := TX8) (N := 5) hx hb hts i_X8 tyX8 tyX8_ok nmX8 hown hK hP hD hS 0 rfl rfl 3 (by decide) (hts _ qw61) (fun _ h9 => h9) rfl hin rfl (by decide +kernel) rfl rfl (Nat.le_of_ble_eq_true rfl) dX8_init_33 (fun H locs hP hD hS => ?_)
  have hP : va_P (dC, dI) cls [(h0, .inr (5, [.ref q1, .ref q3, .ref q5, .ref q7, .null]))] H := hP
  have hD : va_D A [(h0, .inr (5, [.ref q1, .ref q3, .ref q5, .ref q7, .null]))] := hD
  refine lv_aload_n hx hb dX8_init_36 rfl (lv_at hl 0 rfl) ?_
  refine lv_bipush (v := 60) hx hb dX8_init_37 (by decide) ?_
  refine va_newa (atype := .int) (ty := .int) hx hb (hts _ qw2) rfl hK hP hD hS hA (a0 := (60, .inl (fun _ => 0))) (fun _ => rfl) (by decide) (by decide +kernel) (Nat.le_of_ble_eq_true rfl) (Nat.le_of_ble_eq_true rfl) (Nat.le_of_ble_eq_true rfl) dX8_init_39 (fun q9 c10 H hK hP hD hS => ?_)
  have hP : va_P (dC, dI) cls [(h0, .inr (5, [.ref q1, .ref q3, .ref q5, .ref q7, .null])), (q9, .inl (c10, 60, .inl (fun _ => 0)))] H := hP
  have hD : va_D A [(h0, .inr (5, [.ref q1, .ref q3, .ref q5, .ref q7, .null])), (q9, .inl (c10, 60, .inl (fun _ => 0)))] := hD
  have hK : va_K (dC, dI) cls [(c10, .int)] s := hK
  have hP : va_P (dC, dI) cls [(h0, .inr (5, [.ref q1, .ref q3, .ref q5, .ref q7, .null]))] H := hP.sub [0] rfl
  have hD : va_D A [(h0, .inr (5, [.ref q1, .ref q3, .ref q5, .ref q7, .null]))] := hD.sub [0] (by decide) rfl
  have hK : va_K (dC, dI) cls [] s := hK.sub [] rfl
  refine W.widen (k := 5) (n := 300) (Nat.le_of_ble_eq_true rfl) (Nat.le_of_ble_eq_true rfl) ?_
  refine va_putF (D := (dC, dI)) (ci := 5) (v := .ref q9) (ty := .array .int) (C := RX8) (T := TX8) (N := 5) hx hb hts i_X8 tyX8 tyX8_ok nmX8 hown hK hP hD hS 0 rfl rfl 4 (by decide) (hts _ qw62) (fun _ h9 => h9) rfl hin rfl (by decide +kernel) rfl rfl (Nat.le_of_ble_eq_true rfl) dX8_init_41 (fun H locs hP hD hS => ?_)
  have hP : va_P (dC, dI) cls [(h0, .inr (5, [.ref q1, .ref q3, .ref q5, .ref q7, .ref q9]))] H := hP
  have hD : va_D A [(h0, .inr (5, [.ref q1, .ref q3, .ref q5, .ref q7, .ref q9]))] := hD
  have hP9 : va_P (dC, dI) cls [] H := hP.sub [] rfl
  have hD9 : va_D A [] := hD.sub [] (by decide) rfl
  have hK9 : va_K (dC, dI) cls [] s := hK.sub [] rfl
  exact W.vret hx hb hr (fun t ht hW => ⟨⟨(), rfl, trivial, ⟨by rw [ht]; exact hP9, va_K.moved hW.alike hK9, hD9⟩⟩, hS.F ht⟩) hS.2.2 dX8_init_44
set_option maxHeartbeats 4000000 in
set_option maxRecDepth 100000 in
theorem kX4_init {zs : Nat × Nat} (l : Launch) (dC : Nat → ClassId) (dI : Nat → Nat → Nat) (h0 : Nat) (h1 : Nat) (sz : Nat)  : Met l yX4_init (wz yX4_init cX4_init 2 (Option.none : Option Jvm.ClassFile.FieldType)) ({ frames := 1, cells := 18, slots := 35442, locals := 12 }) (va_Pc [.ref h0, .ref h1] (PRE zs dC dI [(h0, .inr (6, [.null, .null, .null, .null, .null, .int 0, .null, .null, .null, .null, .null, .null, .null, .null, .null, .null, .null, .null, .null, .null]))] [] sz)) (va_Qv (fun (_ : Unit) => True) (fun _ t => POST dC dI [] [] (va_A [(h0, .inr (6, [.null, .null, .null, .null, .null, .int 0, .null, .null, .null, .null, .null, .null, .null, .null, .null, .null, .null, .null, .null, .null]))] sz) t) (va_A [(h0, .inr (6, [.null, .null, .null, .null, .null, .int 0, .null, .null, .null, .null, .null, .null, .null, .null, .null, .null, .null, .null, .null, .null]))] sz)) 18 35442 (va_A [(h0, .inr (6, [.null, .null, .null, .null, .null, .int 0, .null, .null, .null, .null, .null, .null, .null, .null, .null, .null, .null, .null, .null, .null]))] sz) := by
  refine Met.ofW (cc := cX4_init) (maxL := 2) (ret := (Option.none : Option Jvm.ClassFile.FieldType)) (by decide) rfl ?_
  intro p e s m args below meth c s₁ B hml hv
  obtain ⟨rfl, hsz, hP, hK, hD0, hE⟩ := hv
  have hx := B.exec
  have hb := B.bytes
  have hr := B.returns
  have hts0 := atoms_spec (ws := wz yX4_init cX4_init 2 (Option.none : Option Jvm.ClassFile.FieldType)) B.pre
  have hts : ∀ w ∈ gw, w.before _ s = true := fun w h => hts0 w (List.mem_cons_of_mem _ h)
  have hown : s.vm.findClass RX4 = some m.cls := findClass_of_methodNamed B.named
  have hlocks := B.notSynchronized
  have hin : meth.name = "<init>" := (name_of_methodNamed B.named B.method).1
  subst hsz
  have hD := hD0.self (sz := s.heap.size)
  generalize hAe : va_A [(h0, .inr (6, [.null, .null, .null, .null, .null, .int 0, .null, .null, .null, .null, .null, .null, .null, .null, .null, .null, .null, .null, .null, .null]))] s.heap.size = A at hD hE ⊢
  have hA : ∀ q : Nat, s.heap.size ≤ q → A q := fun q h => by rw [← hAe]; exact Or.inr h
  have hS : va_S A s.heap s.heap [] := va_S.rf
  have hP : va_P (dC, dI) cls [(h0, .inr (6, [.null, .null, .null, .null, .null, .int 0, .null, .null, .null, .null, .null, .null, .null, .null, .null, .null, .null, .null, .null, .null]))] s.heap := hP
  have hl := lv_entry ([.ref h0, .ref h1]) (n := 2) (Nat.le_of_ble_eq_true rfl)
  rw [lg_entry_eq]
  generalize (lg_sl ([.ref h0, .ref h1]) ++ List.replicate (2 - (lg_sl ([.ref h0, .ref h1])).length) Slot.unset).toArray = ls at hl ⊢
  have hl : lv_has ls 2 [(0, .ref h0), (1, .ref h1)] := hl
  refine lv_aload_n hx hb dX4_init_0 rfl (lv_at hl 0 rfl) ?_
  refine W.objInit hx hb hown (hts _ qw63) (hts _ qw1) (hts _ qw_oi) rfl (by rw [hml]; exact hl.1) rfl dX4_init_1 (Nat.le_of_ble_eq_true rfl) (Nat.le_of_ble_eq_true rfl) ?_
  refine W.eq (g2 := F0 m 4 ls []) rfl ?_
  refine lv_aload_n hx hb dX4_init_4 rfl (lv_at hl 0 rfl) ?_
  refine lv_sipush (v := 3200) hx hb dX4_init_5 (by decide) ?_
  refine va_newa (atype := .int) (ty := .int) hx hb (hts _ qw2) rfl hK hP hD hS hA (a0 := (3200, .inl (fun _ => 0))) (fun _ => rfl) (by decide) (by decide +kernel) (Nat.le_of_ble_eq_true rfl) (Nat.le_of_ble_eq_true rfl) (Nat.le_of_ble_eq_true rfl) dX4_init_8 (fun q1 c2 H hK hP hD hS => ?_)
  have hP : va_P (dC, dI) cls [(h0, .inr (6, [.null, .null, .null, .null, .null, .int 0, .null, .null, .null, .null, .null, .null, .null, .null, .null, .null, .null, .null, .null, .null])), (q1, .inl (c2, 3200, .inl (fun _ => 0)))] H := hP
  have hD : va_D A [(h0, .inr (6, [.null, .null, .null, .null, .null, .int 0, .null, .null, .null, .null, .null, .null, .null, .null, .null, .null, .null, .null, .null, .null])), (q1, .inl (c2, 3200, .inl (fun _ => 0)))] := hD
  have hK : va_K (dC, dI) cls [(c2, .int)] s := hK
  have hP : va_P (dC, dI) cls [(h0, .inr (6, [.null, .null, .null, .null, .null, .int 0, .null, .null, .null, .null, .null, .null, .null, .null, .null, .null, .null, .null, .null, .null]))] H := hP.sub [0] rfl
  have hD : va_D A [(h0, .inr (6, [.null, .null, .null, .null, .null, .int 0, .null, .null, .null, .null, .null, .null, .null, .null, .null, .null, .null, .null, .null, .null]))] := hD.sub [0] (by decide) rfl
  have hK : va_K (dC, dI) cls [] s := hK.sub [] rfl
  refine W.widen (k := 1) (n := 3200) (Nat.le_of_ble_eq_true rfl) (Nat.le_of_ble_eq_true rfl) ?_
  refine va_putF (D := (dC, dI)) (ci := 6) (v := .ref q1) (ty := .array .int) (C := RX4) (T := TX4) (N := 20) hx hb hts i_X4 tyX4 tyX4_ok nmX4 hown hK hP hD hS 0 rfl rfl 1 (by decide) (hts _ qw64) (fun _ h9 => h9) rfl hin rfl (by decide +kernel) rfl rfl (Nat.le_of_ble_eq_true rfl) dX4_init_10 (fun H locs hP hD hS => ?_)
  have hP : va_P (dC, dI) cls [(h0, .inr (6, [.null, .ref q1, .null, .null, .null, .int 0, .null, .null, .null, .null, .null, .null, .null, .null, .null, .null, .null, .null, .null, .null]))] H := hP
  have hD : va_D A [(h0, .inr (6, [.null, .ref q1, .null, .null, .null, .int 0, .null, .null, .null, .null, .null, .null, .null, .null, .null, .null, .null, .null, .null, .null]))] := hD
  refine lv_aload_n hx hb dX4_init_13 rfl (lv_at hl 0 rfl) ?_
  refine lv_sipush (v := 3200) hx hb dX4_init_14 (by decide) ?_
  refine va_newa (atype := .int) (ty := .int) hx hb (hts _ qw2) rfl hK hP hD hS hA (a0 := (3200, .inl (fun _ => 0))) (fun _ => rfl) (by decide) (by decide +kernel) (Nat.le_of_ble_eq_true rfl) (Nat.le_of_ble_eq_true rfl) (Nat.le_of_ble_eq_true rfl) dX4_init_17 (fun q3 c4 H hK hP hD hS => ?_)
  have hP : va_P (dC, dI) cls [(h0, .inr (6, [.null, .ref q1, .null, .null, .null, .int 0, .null, .null, .null, .null, .null, .null, .null, .null, .null, .null, .null, .null, .null, .null])), (q3, .inl (c4, 3200, .inl (fun _ => 0)))] H := hP
  have hD : va_D A [(h0, .inr (6, [.null, .ref q1, .null, .null, .null, .int 0, .null, .null, .null, .null, .null, .null, .null, .null, .null, .null, .null, .null, .null, .null])), (q3, .inl (c4, 3200, .inl (fun _ => 0)))] := hD
  have hK : va_K (dC, dI) cls [(c4, .int)] s := hK
  have hP : va_P (dC, dI) cls [(h0, .inr (6, [.null, .ref q1, .null, .null, .null, .int 0, .null, .null, .null, .null, .null, .null, .null, .null, .null, .null, .null, .null, .null, .null]))] H := hP.sub [0] rfl
  have hD : va_D A [(h0, .inr (6, [.null, .ref q1, .null, .null, .null, .int 0, .null, .null, .null, .null, .null, .null, .null, .null, .null, .null, .null, .null, .null, .null]))] := hD.sub [0] (by decide) rfl
  have hK : va_K (dC, dI) cls [] s := hK.sub [] rfl
  refine W.widen (k := 2) (n := 6400) (Nat.le_of_ble_eq_true rfl) (Nat.le_of_ble_eq_true rfl) ?_
  refine va_putF (D := (dC, dI)) (ci := 6) (v := .ref q3) (ty := .array .int) (C := RX4) (T := TX4) (N := 20) hx hb hts i_X4 tyX4 tyX4_ok nmX4 hown hK hP hD hS 0 rfl rfl 2 (by decide) (hts _ qw65) (fun _ h9 => h9) rfl hin rfl (by decide +kernel) rfl rfl (Nat.le_of_ble_eq_true rfl) dX4_init_19 (fun H locs hP hD hS => ?_)
  have hP : va_P (dC, dI) cls [(h0, .inr (6, [.null, .ref q1, .ref q3, .null, .null, .int 0, .null, .null, .null, .null, .null, .null, .null, .null, .null, .null, .null, .null, .null, .null]))] H := hP
  have hD : va_D A [(h0, .inr (6, [.null, .ref q1, .ref q3, .null, .null, .int 0, .null, .null, .null, .null, .null, .null, .null, .null, .null, .null, .null, .null, .null, .null]))] := hD
  refine lv_aload_n hx hb dX4_init_22 rfl (lv_at hl 0 rfl) ?_
  refine lv_sipush (v := 3200) hx hb dX4_init_23 (by decide) ?_
  refine va_newa (atype := .int) (ty := .int) hx hb (hts _ qw2) rfl hK hP hD hS hA (a0 := (3200, .inl (fun _ => 0))) (fun _ => rfl) (by decide) (by decide +kernel) (Nat.le_of_ble_eq_true rfl) (Nat.le_of_ble_eq_true rfl) (Nat.le_of_ble_eq_true rfl) dX4_init_26 (fun q5 c6 H hK hP hD hS => ?_)
  have hP : va_P (dC, dI) cls [(h0, .inr (6, [.null, .ref q1, .ref q3, .null, .null, .int 0, .null, .null, .null, .null, .null, .null, .null, .null, .null, .null, .null, .null, .null, .null])), (q5, .inl (c6, 3200, .inl (fun _ => 0)))] H := hP
  have hD : va_D A [(h0, .inr (6, [.null, .ref q1, .ref q3, .null, .null, .int 0, .null, .null, .null, .null, .null, .null, .null, .null, .null, .null, .null, .null, .null, .null])), (q5, .inl (c6, 3200, .inl (fun _ => 0)))] := hD
  have hK : va_K (dC, dI) cls [(c6, .int)] s := hK
  have hP : va_P (dC, dI) cls [(h0, .inr (6, [.null, .ref q1, .ref q3, .null, .null, .int 0, .null, .null, .null, .null, .null, .null, .null, .null, .null, .null, .null, .null, .null, .null]))] H := hP.sub [0] rfl
  have hD : va_D A [(h0, .inr (6, [.null, .ref q1, .ref q3, .null, .null, .int 0, .null, .null, .null, .null, .null, .null, .null, .null, .null, .null, .null, .null, .null, .null]))] := hD.sub [0] (by decide) rfl
  have hK : va_K (dC, dI) cls [] s := hK.sub [] rfl
  refine W.widen (k := 3) (n := 9600) (Nat.le_of_ble_eq_true rfl) (Nat.le_of_ble_eq_true rfl) ?_
  refine va_putF (D := (dC, dI)) (ci := 6) (v := .ref q5) (ty := .array .int) (C := RX4) (T := TX4) (N := 20) hx hb hts i_X4 tyX4 tyX4_ok nmX4 hown hK hP hD hS 0 rfl rfl 3 (by decide) (hts _ qw66) (fun _ h9 => h9) rfl hin rfl (by decide +kernel) rfl rfl (Nat.le_of_ble_eq_true rfl) dX4_init_28 (fun H locs hP hD hS => ?_)
  have hP : va_P (dC, dI) cls [(h0, .inr (6, [.null, .ref q1, .ref q3, .ref q5, .null, .int 0, .null, .null, .null, .null, .null, .null, .null, .null, .null, .null, .null, .null, .null, .null]))] H := hP
  have hD : va_D A [(h0, .inr (6, [.null, .ref q1, .ref q3, .ref q5, .null, .int 0, .null, .null, .null, .null, .null, .null, .null, .null, .null, .null, .null, .null, .null, .null]))] := hD
  refine lv_aload_n hx hb dX4_init_31 rfl (lv_at hl 0 rfl) ?_
  refine lv_sipush (v := 512) hx hb dX4_init_32 (by decide) ?_
  refine va_newa (atype := .int) (ty := .int) hx hb (hts _ qw2) rfl hK hP hD hS hA (a0 := (512, .inl (fun _ => 0))) (fun _ => rfl) (by decide) (by decide +kernel) (Nat.le_of_ble_eq_true rfl) (Nat.le_of_ble_eq_true rfl) (Nat.le_of_ble_eq_true rfl) dX4_init_35 (fun q7 c8 H hK hP hD hS => ?_)
  have hP : va_P (dC, dI) cls [(h0, .inr (6, [.null, .ref q1, .ref q3, .ref q5, .null, .int 0, .null, .null, .null, .null, .null, .null, .null, .null, .null, .null, .null, .null, .null, .null])), (q7, .inl (c8, 512, .inl (fun _ => 0)))] H := hP
  have hD : va_D A [(h0, .inr (6, [.null, .ref q1, .ref q3, .ref q5, .null, .int 0, .null, .null, .null, .null, .null, .null, .null, .null, .null, .null, .null, .null, .null, .null])), (q7, .inl (c8, 512, .inl (fun _ => 0)))] := hD
  have hK : va_K (dC, dI) cls [(c8, .int)] s := hK
  have hP : va_P (dC, dI) cls [(h0, .inr (6, [.null, .ref q1, .ref q3, .ref q5, .null, .int 0, .null, .null, .null, .null, .null, .null, .null, .null, .null, .null, .null, .null, .null, .null]))] H := hP.sub [0] rfl
  have hD : va_D A [(h0, .inr (6, [.null, .ref q1, .ref q3, .ref q5, .null, .int 0, .null, .null, .null, .null, .null, .null, .null, .null, .null, .null, .null, .null, .null, .null]))] := hD.sub [0] (by decide) rfl
  have hK : va_K (dC, dI) cls [] s := hK.sub [] rfl
  refine W.widen (k := 4) (n := 10112) (Nat.le_of_ble_eq_true rfl) (Nat.le_of_ble_eq_true rfl) ?_
  refine va_putF (D := (dC, dI)) (ci := 6) (v := .ref q7) (ty := .array .int) (C := RX4) (T := TX4) (N := 20) hx hb hts i_X4 tyX4 tyX4_ok nmX4 hown hK hP hD hS 0 rfl rfl 4 (by decide) (hts _ qw67) (fun _ h9 => h9) rfl hin rfl (by decide +kernel) rfl rfl (Nat.le_of_ble_eq_true rfl) dX4_init_37 (fun H locs hP hD hS => ?_)
  have hP : va_P (dC, dI) cls [(h0, .inr (6, [.null, .ref q1, .ref q3, .ref q5, .ref q7, .int 0, .null, .null, .null, .null, .null, .null, .null, .null, .null, .null, .null, .null, .null, .null]))] H := hP
  have hD : va_D A [(h0, .inr (6, [.null, .ref q1, .ref q3, .ref q5, .ref q7, .int 0, .null, .null, .null, .null, .null, .null, .null, .null, .null, .null, .null, .null, .null, .null]))] := hD
  refine lv_aload_n hx hb dX4_init_40 rfl (lv_at hl 0 rfl) ?_
  refine lv_sipush (v := 640) hx hb dX4_init_41 (by decide) ?_
  refine va_newa (atype := .int) (ty := .int) hx hb (hts _ qw2) rfl hK hP hD hS hA (a0 := (640, .inl (fun _ => 0))) (fun _ => rfl) (by decide) (by decide +kernel) (Nat.le_of_ble_eq_true rfl) (Nat.le_of_ble_eq_true rfl) (Nat.le_of_ble_eq_true rfl) dX4_init_44 (fun q9 c10 H hK hP hD hS => ?_)
  have hP : va_P (dC, dI) cls [(h0, .inr (6, [.null, .ref q1, .ref q3, .ref q5, .ref q7, .int 0, .null, .null, .null, .null, .null, .null, .null, .null, .null, .null, .null, .null, .null, .null])), (q9, .inl (c10, 640, .inl (fun _ => 0)))] H := hP
  have hD : va_D A [(h0, .inr (6, [.null, .ref q1, .ref q3, .ref q5, .ref q7, .int 0, .null, .null, .null, .null, .null, .null, .null, .null, .null, .null, .null, .null, .null, .null])), (q9, .inl (c10, 640, .inl (fun _ => 0)))] := hD
  have hK : va_K (dC, dI) cls [(c10, .int)] s := hK
  have hP : va_P (dC, dI) cls [(h0, .inr (6, [.null, .ref q1, .ref q3, .ref q5, .ref q7, .int 0, .null, .null, .null, .null, .null, .null, .null, .null, .null, .null, .null, .null, .null, .null]))] H := hP.sub [0] rfl
  have hD : va_D A [(h0, .inr (6, [.null, .ref q1, .ref q3, .ref q5, .ref q7, .int 0, .null, .null, .null, .null, .null, .null, .null, .null, .null, .null, .null, .null, .null, .null]))] := hD.sub [0] (by decide) rfl
  have hK : va_K (dC, dI) cls [] s := hK.sub [] rfl
  refine W.widen (k := 5) (n := 10752) (Nat.le_of_ble_eq_true rfl) (Nat.le_of_ble_eq_true rfl) ?_
  refine va_putF (D := (dC, dI)) (ci := 6) (v := .ref q9) (ty := .array .int) (C := RX4) (T := TX4) (N := 20) hx hb hts i_X4 tyX4 tyX4_ok nmX4 hown hK hP hD hS 0 rfl rfl 6 (by decide) (hts _ qw68) (fun _ h9 => h9) rfl hin rfl (by decide +kernel) rfl rfl (Nat.le_of_ble_eq_true rfl) dX4_init_46 (fun H locs hP hD hS => ?_)
  have hP : va_P (dC, dI) cls [(h0, .inr (6, [.null, .ref q1, .ref q3, .ref q5, .ref q7, .int 0, .ref q9, .null, .null, .null, .null, .null, .null, .null, .null, .null, .null, .null, .null, .null]))] H := hP
  have hD : va_D A [(h0, .inr (6, [.null, .ref q1, .ref q3, .ref q5, .ref q7, .int 0, .ref q9, .null, .null, .null, .null, .null, .null, .null, .null, .null, .null, .null, .null, .null]))] := hD
  refine lv_aload_n hx hb dX4_init_49 rfl (lv_at hl 0 rfl) ?_
  refine lv_sipush (v := 640) hx hb dX4_init_50 (by decide) ?_
  refine va_newa (atype := .int) (ty := .int) hx hb (hts _ qw2) rfl hK hP hD hS hA (a0 := (640, .inl (fun _ => 0))) (fun _ => rfl) (by decide) (by decide +kernel) (Nat.le_of_ble_eq_true rfl) (Nat.le_of_ble_eq_true rfl) (Nat.le_of_ble_eq_true rfl) dX4_init_53 (fun q11 c12 H hK hP hD hS => ?_)
  have hP : va_P (dC, dI) cls [(h0, .inr (6, [.null, .ref q1, .ref q3, .ref q5, .ref q7, .int 0, .ref q9, .null, .null, .null, .null, .null, .null, .null, .null, .null, .null, .null, .null, .null])), (q11, .inl (c12, 640, .inl (fun _ => 0)))] H := hP
  have hD : va_D A [(h0, .inr (6, [.null, .ref q1, .ref q3, .ref q5, .ref q7, .int 0, .ref q9, .null, .null, .null, .null, .null, .null, .null, .null, .null, .null, .null, .null, .null])), (q11, .inl (c12, 640, .inl (fun _ => 0)))] := hD
  have hK : va_K (dC, dI) cls [(c12, .int)] s := hK
  have hP : va_P (dC, dI) cls [(h0, .inr (6, [.null, .ref q1, .ref q3, .ref q5, .ref q7, .int 0, .ref q9, .null, .null, .null, .null, .null, .null, .null, .null, .null, .null, .null, .null, .null]))] H := hP.sub [0] rfl
  have hD : va_D A [(h0, .inr (6, [.null, .ref q1, .ref q3, .ref q5, .ref q7, .int 0, .ref q9, .null, .null, .null, .null, .null, .null, .null, .null, .null, .null, .null, .null, .null]))] := hD.sub [0] (by decide) rfl
  have hK : va_K (dC, dI) cls [] s := hK.sub [] rfl
  refine W.widen (k := 6) (n := 11392) (Nat.le_of_ble_eq_true rfl) (Nat.le_of_ble_eq_true rfl) ?_
  refine va_putF (D := (dC, dI)) (ci := 6) (v := .ref q11) (ty := .array .int) (C := RX4) (T := TX4) (N := 20) hx hb hts i_X4 tyX4 tyX4_ok nmX4 hown hK hP hD hS 0 rfl rfl 7 (by decide) (hts _ qw69) (fun _ h9 => h9) rfl hin rfl (by decide +kernel) rfl rfl (Nat.le_of_ble_eq_true rfl) dX4_init_55 (fun H locs hP hD hS => ?_)
  have hP : va_P (dC, dI) cls [(h0, .inr (6, [.null, .ref q1, .ref q3, .ref q5, .ref q7, .int 0, .ref q9, .ref q11, .null, .null, .null, .null, .null, .null, .null, .null, .null, .null, .null, .null]))] H := hP
  have hD : va_D A [(h0, .inr (6, [.null, .ref q1, .ref q3, .ref q5, .ref q7, .int 0, .ref q9, .ref q11, .null, .null, .null, .null, .null, .null, .null, .null, .null, .null, .null, .null]))] := hD
  refine lv_aload_n hx hb dX4_init_58 rfl (lv_at hl 0 rfl) ?_
  refine lv_sipush (v := 640) hx hb dX4_init_59 (by decide) ?_
  refine va_newa (atype := .int) (ty := .int) hx hb (hts _ qw2) rfl hK hP hD hS hA (a0 := (640, .inl (fun _ => 0))) (fun _ => rfl) (by decide) (by decide +kernel) (Nat.le_of_ble_eq_true rfl) (Nat.le_of_ble_eq_true rfl) (Nat.le_of_ble_eq_true rfl) dX4_init_62 (fun q13 c14 H hK hP hD hS => ?_)
  have hP : va_P (dC, dI) cls [(h0, .inr (6, [.null, .ref q1, .ref q3, .ref q5, .ref q7, .int 0, .ref q9, .ref q11, .null, .null, .null, .null, .null, .null, .null, .null, .null, .null, .null, .null])), (q13, .inl (c14, 640, .inl (fun _ => 0)))] H := hP
  have hD : va_D A [(h0, .inr (6, [.null, .ref q1, .ref q3, .ref q5, .ref q7, .int 0, .ref q9, .ref q11, .null, .null, .null, .null, .null, .null, .null, .null, .null, .null, .null, .null])), (q13, .inl (c14, 640, .inl (fun _ => 0)))] := hD
  have hK : va_K (dC, dI) cls [(c14, .int)] s := hK
  have hP : va_P (dC, dI) cls [(h0, .inr (6, [.null, .ref q1, .ref q3, .ref q5, .ref q7, .int 0, .ref q9, .ref q11, .null, .null, .null, .null, .null, .null, .null, .null, .null, .null, .null, .null]))] H := hP.sub [0] rfl
  have hD : va_D A [(h0, .inr (6, [.null, .ref q1, .ref q3, .ref q5, .ref q7, .int 0, .ref q9, .ref q11, .null, .null, .null, .null, .null, .null, .null, .null, .null, .null, .null, .null]))] := hD.sub [0] (by decide) rfl
  have hK : va_K (dC, dI) cls [] s := hK.sub [] rfl
  refine W.widen (k := 7) (n := 12032) (Nat.le_of_ble_eq_true rfl) (Nat.le_of_ble_eq_true rfl) ?_
  refine va_putF (D := (dC, dI)) (ci := 6) (v := .ref q13) (ty := .array .int) (C := RX4) (T := TX4) (N := 20) hx hb hts i_X4 tyX4 tyX4_ok nmX4 hown hK hP hD hS 0 rfl rfl 8 (by decide) (hts _ qw70) (fun _ h9 => h9) rfl hin rfl (by decide +kernel) rfl rfl (Nat.le_of_ble_eq_true rfl) dX4_init_64 (fun H locs hP hD hS => ?_)
  have hP : va_P (dC, dI) cls [(h0, .inr (6, [.null, .ref q1, .ref q3, .ref q5, .ref q7, .int 0, .ref q9, .ref q11, .ref q13, .null, .null, .null, .null, .null, .null, .null, .null, .null, .null, .null]))] H := hP
  have hD : va_D A [(h0, .inr (6, [.null, .ref q1, .ref q3, .ref q5, .ref q7, .int 0, .ref q9, .ref q11, .ref q13, .null, .null, .null, .null, .null, .null, .null, .null, .null, .null, .null]))] := hD
  refine lv_aload_n hx hb dX4_init_67 rfl (lv_at hl 0 rfl) ?_
  refine lv_sipush (v := 640) hx hb dX4_init_68 (by decide) ?_
  refine va_newa (atype := .int) (ty := .int) hx hb (hts _ qw2) rfl hK hP hD hS hA (a0 := (640, .inl (fun _ => 0))) (fun _ => rfl) (by decide) (by decide +kernel) (Nat.le_of_ble_eq_true rfl) (Nat.le_of_ble_eq_true rfl) (Nat.le_of_ble_eq_true rfl) dX4_init_71 (fun q15 c16 H hK hP hD hS => ?_)
  have hP : va_P (dC, dI) cls [(h0, .inr (6, [.null, .ref q1, .ref q3, .ref q5, .ref q7, .int 0, .ref q9, .ref q11, .ref q13, .null, .null, .null, .null, .null, .null, .null, .null, .null, .null, .null])), (q15, .inl (c16, 640, .inl (fun _ => 0)))] H := hP
  have hD : va_D A [(h0, .inr (6, [.null, .ref q1, .ref q3, .ref q5, .ref q7, .int 0, .ref q9, .ref q11, .ref q13, .null, .null, .null, .null, .null, .null, .null, .null, .null, .null, .null])), (q15, .inl (c16, 640, .inl (fun _ => 0)))] := hD
  have hK : va_K (dC, dI) cls [(c16, .int)] s := hK
  have hP : va_P (dC, dI) cls [(h0, .inr (6, [.null, .ref q1, .ref q3, .ref q5, .ref q7, .int 0, .ref q9, .ref q11, .ref q13, .null, .null, .null, .null, .null, .null, .null, .null, .null, .null, .null]))] H := hP.sub [0] rfl
  have hD : va_D A [(h0, .inr (6, [.null, .ref q1, .ref q3, .ref q5, .ref q7, .int 0, .ref q9, .ref q11, .ref q13, .null, .null, .null, .null, .null, .null, .null, .null, .null, .null, .null]))] := hD.sub [0] (by decide) rfl
  have hK : va_K (dC, dI) cls [] s := hK.sub [] rfl
  refine W.widen (k := 8) (n := 12672) (Nat.le_of_ble_eq_true rfl) (Nat.le_of_ble_eq_true rfl) ?_
  refine va_putF (D := (dC, dI)) (ci := 6) (v := .ref q15) (ty := .array .int) (C := RX4) (T := TX4) (N := 20) hx hb hts i_X4 tyX4 tyX4_ok nmX4 hown hK hP hD hS 0 rfl rfl 9 (by decide) (hts _ qw71) (fun _ h9 => h9) rfl hin rfl (by decide +kernel) rfl rfl (Nat.le_of_ble_eq_true rfl) dX4_init_73 (fun H locs hP hD hS => ?_)
  have hP : va_P (dC, dI) cls [(h0, .inr (6, [.null, .ref q1, .ref q3, .ref q5, .ref q7, .int 0, .ref q9, .ref q11, .ref q13, .ref q15, .null, .null, .null, .null, .null, .null, .null, .null, .null, .null]))] H := hP
  have hD : va_D A [(h0, .inr (6, [.null, .ref q1, .ref q3, .ref q5, .ref q7, .int 0, .ref q9, .ref q11, .ref q13, .ref q15, .null, .null, .null, .null, .null, .null, .null, .null, .null, .null]))] := hD
  refine lv_aload_n hx hb dX4_init_76 rfl (lv_at hl 0 rfl) ?_
  refine lv_sipush (v := 640) hx hb dX4_init_77 (by decide) ?_
  refine va_newa (atype := .int) (ty := .int) hx hb (hts _ qw2) rfl hK hP hD hS hA (a0 := (640, .inl (fun _ => 0))) (fun _ => rfl) (by decide) (by decide +kernel) (Nat.le_of_ble_eq_true rfl) (Nat.le_of_ble_eq_true rfl) (Nat.le_of_ble_eq_true rfl) dX4_init_80 (fun q17 c18 H hK hP hD hS => ?_)
  have hP : va_P (dC, dI) cls [(h0, .inr (6, [.null, .ref q1, .ref q3, .ref q5, .ref q7, .int 0, .ref q9, .ref q11, .ref q13, .ref q15, .null, .null, .null, .null, .null, .null, .null, .null, .null, .null])), (q17, .inl (c18, 640, .inl (fun _ => 0)))] H := hP
  have hD : va_D A [(h0, .inr (6, [.null, .ref q1, .ref q3, .ref q5, .ref q7, .int 0, .ref q9, .ref q11, .ref q13, .ref q15, .null, .null, .null, .null, .null, .null, .null, .null, .null, .null])), (q17, .inl (c18, 640, .inl (fun _ => 0)))] := hD
  have hK : va_K (dC, dI) cls [(c18, .int)] s := hK
  have hP : va_P (dC, dI) cls [(h0, .inr (6, [.null, .ref q1, .ref q3, .ref q5, .ref q7, .int 0, .ref q9, .ref q11, .ref q13, .ref q15, .null, .null, .null, .null, .null, .null, .null, .null, .null, .null]))] H := hP.sub [0] rfl
  have hD : va_D A [(h0, .inr (6, [.null, .ref q1, .ref q3, .ref q5, .ref q7, .int 0, .ref q9, .ref q11, .ref q13, .ref q15, .null, .null, .null, .null, .null, .null, .null, .null, .null, .null]))] := hD.sub [0] (by decide) rfl
  have hK : va_K (dC, dI) cls [] s := hK.sub [] rfl
  refine W.widen (k := 9) (n := 13312) (Nat.le_of_ble_eq_true rfl) (Nat.le_of_ble_eq_true rfl) ?_
  refine va_putF (D := (dC, dI)) (ci := 6) (v := .ref q17) (ty := .array .int) (C := RX4) (T := TX4) (N := 20) hx hb hts i_X4 tyX4 tyX4_ok nmX4 hown hK hP hD hS 0 rfl rfl 10 (by decide) (hts _ qw72) (fun _ h9 => h9) rfl hin rfl (by decide +kernel) rfl rfl (Nat.le_of_ble_eq_true rfl) dX4_init_82 (fun H locs hP hD hS => ?_)
  have hP : va_P (dC, dI) cls [(h0, .inr (6, [.null, .ref q1, .ref q3, .ref q5, .ref q7, .int 0, .ref q9, .ref q11, .ref q13, .ref q15, .ref q17, .null, .null, .null, .null, .null, .null, .null, .null, .null]))] H := hP
  have hD : va_D A [(h0, .inr (6, [.null, .ref q1, .ref q3, .ref q5, .ref q7, .int 0, .ref q9, .ref q11, .ref q13, .ref q15, .ref q17, .null, .null, .null, .null, .null, .null, .null, .null, .null]))] := hD
  refine lv_aload_n hx hb dX4_init_85 rfl (lv_at hl 0 rfl) ?_
  refine lv_sipush (v := 640) hx hb dX4_init_86 (by decide) ?_
  refine va_newa (atype := .int) (ty := .int) hx hb (hts _ qw2) rfl hK hP hD hS hA (a0 := (640, .inl (fun _ => 0))) (fun _ => rfl) (by decide) (by decide +kernel) (Nat.le_of_ble_eq_true rfl) (Nat.le_of_ble_eq_true rfl) (Nat.le_of_ble_eq_true rfl) dX4_init_89 (fun q19 c20 H hK hP hD hS => ?_)
  have hP : va_P (dC, dI) cls [(h0, .inr (6, [.null, .ref q1, .ref q3, .ref q5, .ref q7, .int 0, .ref q9, .ref q11, .ref q13, .ref q15, .ref q17, .null, .null, .null, .null, .null, .null, .null, .null, .null])), (q19, .inl (c20, 640, .inl (fun _ => 0)))] H := hP
  have hD : va_D A [(h0, .inr (6, [.null, .ref q1, .ref q3, .ref q5, .ref q7, .int 0, .ref q9, .ref q11, .ref q13, .ref q15, .ref q17, .null, .null, .null, .null, .null, .null, .null, .null, .null])), (q19, .inl (c20, 640, .inl (fun _ => 0)))] := hD
  have hK : va_K (dC, dI) cls [(c20, .int)] s := hK
  have hP : va_P (dC, dI) cls [(h0, .inr (6, [.null, .ref q1, .ref q3, .ref q5, .ref q7, .int 0, .ref q9, .ref q11, .ref q13, .ref q15, .ref q17, .null, .null, .null, .null, .null, .null, .null, .null, .null]))] H := hP.sub [0] rfl
  have hD : va_D A [(h0, .inr (6, [.null, .ref q1, .ref q3, .ref q5, .ref q7, .int 0, .ref q9, .ref q11, .ref q13, .ref q15, .ref q17, .null, .null, .null, .null, .null, .null, .null, .null, .null]))] := hD.sub [0] (by decide) rfl
  have hK : va_K (dC, dI) cls [] s := hK.sub [] rfl
  refine W.widen (k := 10) (n := 13952) (Nat.le_of_ble_eq_true rfl) (Nat.le_of_ble_eq_true rfl) ?_
  refine va_putF (D := (dC, dI)) (ci := 6) (v := .ref q19) (ty := .array .int) (C := RX4) (T := TX4) (N := 20) hx hb hts i_X4 tyX4 tyX4_ok nmX4 hown hK hP hD hS 0 rfl rfl 11 (by decide) (hts _ qw73) (fun _ h9 => h9) rfl hin rfl (by decide +kernel) rfl rfl (Nat.le_of_ble_eq_true rfl) dX4_init_91 (fun H locs hP hD hS => ?_)
  have hP : va_P (dC, dI) cls [(h0, .inr (6, [.null, .ref q1, .ref q3, .ref q5, .ref q7, .int 0, .ref q9, .ref q11, .ref q13, .ref q15, .ref q17, .ref q19, .null, .null, .null, .null, .null, .null, .null, .null]))] H := hP
  have hD : va_D A [(h0, .inr (6, [.null, .ref q1, .ref q3, .ref q5, .ref q7, .int 0, .ref q9, .ref q11, .ref q13, .ref q15, .ref q17, .ref q19, .null, .null, .null, .null, .null, .null, .null, .null]))] := hD
  refine lv_aload_n hx hb dX4_init_94 rfl (lv_at hl 0 rfl) ?_
  refine lv_sipush (v := 640) hx hb dX4_init_95 (by decide) ?_
  refine va_newa (atype := .int) (ty := .int) hx hb (hts _ qw2) rfl hK hP hD hS hA (a0 := (640, .inl (fun _ => 0))) (fun _ => rfl) (by decide) (by decide +kernel) (Nat.le_of_ble_eq_true rfl) (Nat.le_of_ble_eq_true rfl) (Nat.le_of_ble_eq_true rfl) dX4_init_98 (fun q21 c22 H hK hP hD hS => ?_)
  have hP : va_P (dC, dI) cls [(h0, .inr (6, [.null, .ref q1, .ref q3, .ref q5, .ref q7, .int 0, .ref q9, .ref q11, .ref q13, .ref q15, .ref q17, .ref q19, .null, .null, .null, .null, .null, .null, .null, .null])), (q21, .inl (c22, 640, .inl (fun _ => 0)))] H := hP
  have hD : va_D A [(h0, .inr (6, [.null, .ref q1, .ref q3, .ref q5, .ref q7, .int 0, .ref q9, .ref q11, .ref q13, .ref q15, .ref q17, .ref q19, .null, .null, .null, .null, .null, .null, .null, .null])), (q21, .inl (c22, 640, .inl (fun _ => 0)))] := hD
  have hK : va_K (dC, dI) cls [(c22, .int)] s := hK
  have hP : va_P (dC, dI) cls [(h0, .inr (6, [.null, .ref q1, .ref q3, .ref q5, .ref q7, .int 0, .ref q9, .ref q11, .ref q13, .ref q15, .ref q17, .ref q19, .null, .null, .null, .null, .null, .null, .null, .null]))] H := hP.sub [0] rfl
  have hD : va_D A [(h0, .inr (6, [.null, .ref q1, .ref q3, .ref q5, .ref q7, .int 0, .ref q9, .ref q11, .ref q13, .ref q15, .ref q17, .ref q19, .null, .null, .null, .null, .null, .null, .null, .null]))] := hD.sub [0] (by decide) rfl
  have hK : va_K (dC, dI) cls [] s := hK.sub [] rfl
  refine W.widen (k := 11) (n := 14592) (Nat.le_of_ble_eq_true rfl) (Nat.le_of_ble_eq_true rfl) ?_
  refine va_putF (D := (dC, dI)) (ci := 6) (v := .ref q21) (ty := .array .int) (C := RX4) (T := TX4) (N := 20) hx hb hts i_X4 tyX4 tyX4_ok nmX4 hown hK hP hD hS 0 rfl rfl 12 (by decide) (hts _ qw74) (fun _ h9 => h9) rfl hin rfl (by decide +kernel) rfl rfl (Nat.le_of_ble_eq_true rfl) dX4_init_100 (fun H locs hP hD hS => ?_)
  have hP : va_P (dC, dI) cls [(h0, .inr (6, [.null, .ref q1, .ref q3, .ref q5, .ref q7, .int 0, .ref q9, .ref q11, .ref q13, .ref q15, .ref q17, .ref q19, .ref q21, .null, .null, .null, .null, .null, .null, .null]))] H := hP
  have hD : va_D A [(h0, .inr (6, [.null, .ref q1, .ref q3, .ref q5, .ref q7, .int 0, .ref q9, .ref q11, .ref q13, .ref q15, .ref q17, .ref q19, .ref q21, .null, .null, .null, .null, .null, .null, .null]))] := hD
  refine lv_aload_n hx hb dX4_init_103 rfl (lv_at hl 0 rfl) ?_
  refine lv_sipush (v := 640) hx hb dX4_init_104 (by decide) ?_
  refine va_newa (atype := .int) (ty := .int) hx hb (hts _ qw2) rfl hK hP hD hS hA (a0 := (640, .inl (fun _ => 0))) (fun _ => rfl) (by decide) (by decide +kernel) (Nat.le_of_ble_eq_true rfl) (Nat.le_of_ble_eq_true rfl) (Nat.le_of_ble_eq_true rfl) dX4_init_107 (fun q23 c24 H hK hP hD hS => ?_)
  have hP : va_P (dC, dI) cls [(h0, .inr (6, [.null, .ref q1, .ref q3, .ref q5, .ref q7, .int 0, .ref q9, .ref q11, .ref q13, .ref q15, .ref q17, .ref q19, .ref q21, .null, .null, .null, .null, .null, .null, .null])), (q23, .inl (c24, 640, .inl (fun _ => 0)))] H := hP
  have hD : va_D A [(h0, .inr (6, [.null, .ref q1, .ref q3, .ref q5, .ref q7, .int 0, .ref q9, .ref q11, .ref q13, .ref q15, .ref q17, .ref q19, .ref q21, .null, .null, .null, .null, .null, .null, .null])), (q23, .inl (c24, 640, .inl (fun _ => 0)))] := hD
  have hK : va_K (dC, dI) cls [(c24, .int)] s := hK
  have hP : va_P (dC, dI) cls [(h0, .inr (6, [.null, .ref q1, .ref q3, .ref q5, .ref q7, .int 0, .ref q9, .ref q11, .ref q13, .ref q15, .ref q17, .ref q19, .ref q21, .null, .null, .null, .null, .null, .null, .null]))] H := hP.sub [0] rfl
  have hD : va_D A [(h0, .inr (6, [.null, .ref q1, .ref q3, .ref q5, .ref q7, .int 0, .ref q9, .ref q11, .ref q13, .ref q15, .ref q17, .ref q19, .ref q21, .null, .null, .null, .null, .null, .null, .null]))] := hD.sub [0] (by decide) rfl
  have hK : va_K (dC, dI) cls [] s := hK.sub [] rfl
  refine W.widen (k := 12) (n := 15232) (Nat.le_of_ble_eq_true rfl) (Nat.le_of_ble_eq_true rfl) ?_
  refine va_putF (D := (dC, dI)) (ci := 6) (v := .ref q23) (ty := .array .int) (C := RX4) (T := TX4) (N := 20) hx hb hts i_X4 tyX4 tyX4_ok nmX4 hown hK hP hD hS 0 rfl rfl 13 (by decide) (hts _ qw75) (fun _ h9 => h9) rfl hin rfl (by decide +kernel) rfl rfl (Nat.le_of_ble_eq_true rfl) dX4_init_109 (fun H locs hP hD hS => ?_)
  have hP : va_P (dC, dI) cls [(h0, .inr (6, [.null, .ref q1, .ref q3, .ref q5, .ref q7, .int 0, .ref q9, .ref q11, .ref q13, .ref q15, .ref q17, .ref q19, .ref q21, .ref q23, .null, .null, .null, .null, .null, .null]))] H := hP
  have hD : va_D A [(h0, .inr (6, [.null, .ref q1, .ref q3, .ref q5, .ref q7, .int 0, .ref q9, .ref q11, .ref q13, .ref q15, .ref q17, .ref q19, .ref q21, .ref q23, .null, .null, .null, .null, .null, .null]))] := hD
  refine lv_aload_n hx hb dX4_init_112 rfl (lv_at hl 0 rfl) ?_
  refine lv_bipush (v := 60) hx hb dX4_init_113 (by decide) ?_
  refine va_newa (atype := .int) (ty := .int) hx hb (hts _ qw2) rfl hK hP hD hS hA (a0 := (60, .inl (fun _ => 0))) (fun _ => rfl) (by decide) (by decide +kernel) (Nat.le_of_ble_eq_true rfl) (Nat.le_of_ble_eq_true rfl) (Nat.le_of_ble_eq_true rfl) dX4_init_115 (fun q25 c26 H hK hP hD hS => ?_)
  have hP : va_P (dC, dI) cls [(h0, .inr (6, [.null, .ref q1, .ref q3, .ref q5, .ref q7, .int 0, .ref q9, .ref q11, .ref q13, .ref q15, .ref q17, .ref q19, .ref q21, .ref q23, .null, .null, .null, .null, .null, .null])), (q25, .inl (c26, 60, .inl (fun _ => 0)))] H := hP
  have hD : va_D A [(h0, .inr (6, [.null, .ref q1, .ref q3, .ref q5, .ref q7, .int 0, .ref q9, .ref q11, .ref q13, .ref q15, .ref q17, .ref q19, .ref q21, .ref q23, .null, .null, .null, .null, .null, .null])), (q25, .inl (c26, 60, .inl (fun _ => 0)))] := hD
  have hK : va_K (dC, dI) cls [(c26, .int)] s := hK
  have hP : va_P (dC, dI) cls [(h0, .inr (6, [.null, .ref q1, .ref q3, .ref q5, .ref q7, .int 0, .ref q9, .ref q11, .ref q13, .ref q15, .ref q17, .ref q19, .ref q21, .ref q23, .null, .null, .null, .null, .null, .null]))] H := hP.sub [0] rfl
  have hD : va_D A [(h0, .inr (6, [.null, .ref q1, .ref q3, .ref q5, .ref q7, .int 0, .ref q9, .ref q11, .ref q13, .ref q15, .ref q17, .ref q19, .ref q21, .ref q23, .null, .null, .null, .null, .null, .null]))] := hD.sub [0] (by decide) rfl
  have hK : va_K (dC, dI) cls [] s := hK.sub [] rfl
  refine W.widen (k := 13) (n := 15292) (Nat.le_of_ble_eq_true rfl) (Nat.le_of_ble_eq_true rfl) ?_
  refine va_putF (D := (dC, dI)) (ci := 6) (v := .ref q25) (ty := .array .int) (C := RX4) (T := TX4) (N := 20) hx hb hts i_X4 tyX4 tyX4_ok nmX4 hown hK hP hD hS 0 rfl rfl 14 (by decide) (hts _ qw76) (fun _ h9 => h9) rfl hin rfl (by decide +kernel) rfl rfl (Nat.le_of_ble_eq_true rfl) dX4_init_117 (fun H locs hP hD hS => ?_)
  have hP : va_P (dC, dI) cls [(h0, .inr (6, [.null, .ref q1, .ref q3, .ref q5, .ref q7, .int 0, .ref q9, .ref q11, .ref q13, .ref q15, .ref q17, .ref q19, .ref q21, .ref q23, .ref q25, .null, .null, .null, .null, .null]))] H := hP
  have hD : va_D A [(h0, .inr (6, [.null, .ref q1, .ref q3, .ref q5, .ref q7, .int 0, .ref q9, .ref q11, .ref q13, .ref q15, .ref q17, .ref q19, .ref q21, .ref q23, .ref q25, .null, .null, .null, .null, .null]))] := hD
  refine lv_aload_n hx hb dX4_init_120 rfl (lv_at hl 0 rfl) ?_
  refine lv_sipush (v := 320) hx hb dX4_init_121 (by decide) ?_
  refine va_newa (atype := .long) (ty := .long) hx hb (hts _ qw5) rfl hK hP hD hS hA (a0 := (320, .inr <| .inl (fun _ => 0))) (fun _ => rfl) (by decide) (by decide +kernel) (Nat.le_of_ble_eq_true rfl) (Nat.le_of_ble_eq_true rfl) (Nat.le_of_ble_eq_true rfl) dX4_init_124 (fun q27 c28 H hK hP hD hS => ?_)
  have hP : va_P (dC, dI) cls [(h0, .inr (6, [.null, .ref q1, .ref q3, .ref q5, .ref q7, .int 0, .ref q9, .ref q11, .ref q13, .ref q15, .ref q17, .ref q19, .ref q21, .ref q23, .ref q25, .null, .null, .null, .null, .null])), (q27, .inl (c28, 320, .inr (.inl (fun _ => 0))))] H := hP
  have hD : va_D A [(h0, .inr (6, [.null, .ref q1, .ref q3, .ref q5, .ref q7, .int 0, .ref q9, .ref q11, .ref q13, .ref q15, .ref q17, .ref q19, .ref q21, .ref q23, .ref q25, .null, .null, .null, .null, .null])), (q27, .inl (c28, 320, .inr (.inl (fun _ => 0))))] := hD
  have hK : va_K (dC, dI) cls [(c28, .long)] s := hK
  have hP : va_P (dC, dI) cls [(h0, .inr (6, [.null, .ref q1, .ref q3, .ref q5, .ref q7, .int 0, .ref q9, .ref q11, .ref q13, .ref q15, .ref q17, .ref q19, .ref q21, .ref q23, .ref q25, .null, .null, .null, .null, .null]))] H := hP.sub [0] rfl
  have hD : va_D A [(h0, .inr (6, [.null, .ref q1, .ref q3, .ref q5, .ref q7, .int 0, .ref q9, .ref q11, .ref q13, .ref q15, .ref q17, .ref q19, .ref q21, .ref q23, .ref q25, .null, .null, .null, .null, .null]))] := hD.sub [0] (by decide) rfl
  have hK : va_K (dC, dI) cls [] s := hK.sub [] rfl
  refine W.widen (k := 14) (n := 15612) (Nat.le_of_ble_eq_true rfl) (Nat.le_of_ble_eq_true rfl) ?_
  refine va_putF (D := (dC, dI)) (ci := 6) (v := .ref q27) (ty := .array .long) (C := RX4) (T := TX4) (N := 20) hx hb hts i_X4 tyX4 tyX4_ok nmX4 hown hK hP hD hS 0 rfl rfl 15 (by decide) (hts _ qw77) (fun _ h9 => h9) rfl hin rfl (by decide +kernel) rfl rfl (Nat.le_of_ble_eq_true rfl) dX4_init_126 (fun H locs hP hD hS => ?_)
  have hP : va_P (dC, dI) cls [(h0, .inr (6, [.null, .ref q1, .ref q3, .ref q5, .ref q7, .int 0, .ref q9, .ref q11, .ref q13, .ref q15, .ref q17, .ref q19, .ref q21, .ref q23, .ref q25, .ref q27, .null, .null, .null, .null]))] H := hP
  have hD : va_D A [(h0, .inr (6, [.null, .ref q1, .ref q3, .ref q5, .ref q7, .int 0, .ref q9, .ref q11, .ref q13, .ref q15, .ref q17, .ref q19, .ref q21, .ref q23, .ref q25, .ref q27, .null, .null, .null, .null]))] := hD
  refine lv_aload_n hx hb dX4_init_129 rfl (lv_at hl 0 rfl) ?_
  refine lv_sipush (v := 320) hx hb dX4_init_130 (by decide) ?_
  refine va_newa (atype := .long) (ty := .long) hx hb (hts _ qw5) rfl hK hP hD hS hA (a0 := (320, .inr <| .inl (fun _ => 0))) (fun _ => rfl) (by decide) (by decide +kernel) (Nat.le_of_ble_eq_true rfl) (Nat.le_of_ble_eq_true rfl) (Nat.le_of_ble_eq_true rfl) dX4_init_133 (fun q29 c30 H hK hP hD hS => ?_)
  have hP : va_P (dC, dI) cls [(h0, .inr (6, [.null, .ref q1, .ref q3, .ref q5, .ref q7, .int 0, .ref q9, .ref q11, .ref q13, .ref q15, .ref q17, .ref q19, .ref q21, .ref q23, .ref q25, .ref q27, .null, .null, .null, .null])), (q29, .inl (c30, 320, .inr (.inl (fun _ => 0))))] H := hP
  have hD : va_D A [(h0, .inr (6, [.null, .ref q1, .ref q3, .ref q5, .ref q7, .int 0, .ref q9, .ref q11, .ref q13, .ref q15, .ref q17, .ref q19, .ref q21, .ref q23, .ref q25, .ref q27, .null, .null, .null, .null])), (q29, .inl (c30, 320, .inr (.inl (fun _ => 0))))] := hD
  have hK : va_K (dC, dI) cls [(c30, .long)] s := hK
  have hP : va_P (dC, dI) cls [(h0, .inr (6, [.null, .ref q1, .ref q3, .ref q5, .ref q7, .int 0, .ref q9, .ref q11, .ref q13, .ref q15, .ref q17, .ref q19, .ref q21, .ref q23, .ref q25, .ref q27, .null, .null, .null, .null]))] H := hP.sub [0] rfl
  have hD : va_D A [(h0, .inr (6, [.null, .ref q1, .ref q3, .ref q5, .ref q7, .int 0, .ref q9, .ref q11, .ref q13, .ref q15, .ref q17, .ref q19, .ref q21, .ref q23, .ref q25, .ref q27, .null, .null, .null, .null]))] := hD.sub [0] (by decide) rfl
  have hK : va_K (dC, dI) cls [] s := hK.sub [] rfl
  refine W.widen (k := 15) (n := 15932) (Nat.le_of_ble_eq_true rfl) (Nat.le_of_ble_eq_true rfl) ?_
  refine va_putF (D := (dC, dI)) (ci := 6) (v := .ref q29) (ty := .array .long) (C := RX4) (T := TX4) (N := 20) hx hb hts i_X4 tyX4 tyX4_ok nmX4 hown hK hP hD hS 0 rfl rfl 16 (by decide) (hts _ qw78) (fun _ h9 => h9) rfl hin rfl (by decide +kernel) rfl rfl (Nat.le_of_ble_eq_true rfl) dX4_init_135 (fun H locs hP hD hS => ?_)
  have hP : va_P (dC, dI) cls [(h0, .inr (6, [.null, .ref q1, .ref q3, .ref q5, .ref q7, .int 0, .ref q9, .ref q11, .ref q13, .ref q15, .ref q17, .ref q19, .ref q21, .ref q23, .ref q25, .ref q27, .ref q29, .null, .null, .null]))] H := hP
  have hD : va_D A [(h0, .inr (6, [.null, .ref q1, .ref q3, .ref q5, .ref q7, .int 0, .ref q9, .ref q11, .ref q13, .ref q15, .ref q17, .ref q19, .ref q21, .ref q23, .ref q25, .ref q27, .ref q29, .null, .null, .null]))] := hD
  refine lv_aload_n hx hb dX4_init_138 rfl (lv_at hl 0 rfl) ?_
  refine lv_bipush (v := 60) hx hb dX4_init_139 (by decide) ?_
  refine va_newa (atype := .long) (ty := .long) hx hb (hts _ qw5) rfl hK hP hD hS hA (a0 := (60, .inr <| .inl (fun _ => 0))) (fun _ => rfl) (by decide) (by decide +kernel) (Nat.le_of_ble_eq_true rfl) (Nat.le_of_ble_eq_true rfl) (Nat.le_of_ble_eq_true rfl) dX4_init_141 (fun q31 c32 H hK hP hD hS => ?_)
  have hP : va_P (dC, dI) cls [(h0, .inr (6, [.null, .ref q1, .ref q3, .ref q5, .ref q7, .int 0, .ref q9, .ref q11, .ref q13, .ref q15, .ref q17, .ref q19, .ref q21, .ref q23, .ref q25, .ref q27, .ref q29, .null, .null, .null])), (q31, .inl (c32, 60, .inr (.inl (fun _ => 0))))] H := hP
  have hD : va_D A [(h0, .inr (6, [.null, .ref q1, .ref q3, .ref q5, .ref q7, .int 0, .ref q9, .ref q11, .ref q13, .ref q15, .ref q17, .ref q19, .ref q21, .ref q23, .ref q25, .ref q27, .ref q29, .null, .null, .null])), (q31, .inl (c32, 60, .inr (.inl (fun _ => 0))))] := hD
  have hK : va_K (dC, dI) cls [(c32, .long)] s := hK
  have hP : va_P (dC, dI) cls [(h0, .inr (6, [.null, .ref q1, .ref q3, .ref q5, .ref q7, .int 0, .ref q9, .ref q11, .ref q13, .ref q15, .ref q17, .ref q19, .ref q21, .ref q23, .ref q25, .ref q27, .ref q29, .null, .null, .null]))] H := hP.sub [0] rfl
  have hD : va_D A [(h0, .inr (6, [.null, .ref q1, .ref q3, .ref q5, .ref q7, .int 0, .ref q9, .ref q11, .ref q13, .ref q15, .ref q17, .ref q19, .ref q21, .ref q23, .ref q25, .ref q27, .ref q29, .null, .null, .null]))] := hD.sub [0] (by decide) rfl
  have hK : va_K (dC, dI) cls [] s := hK.sub [] rfl
  refine W.widen (k := 16) (n := 15992) (Nat.le_of_ble_eq_true rfl) (Nat.le_of_ble_eq_true rfl) ?_
  refine va_putF (D := (dC, dI)) (ci := 6) (v := .ref q31) (ty := .array .long) (C := RX4) (T := TX4) (N := 20) hx hb hts i_X4 tyX4 tyX4_ok nmX4 hown hK hP hD hS 0 rfl rfl 17 (by decide) (hts _ qw79) (fun _ h9 => h9) rfl hin rfl (by decide +kernel) rfl rfl (Nat.le_of_ble_eq_true rfl) dX4_init_143 (fun H locs hP hD hS => ?_)
  have hP : va_P (dC, dI) cls [(h0, .inr (6, [.null, .ref q1, .ref q3, .ref q5, .ref q7, .int 0, .ref q9, .ref q11, .ref q13, .ref q15, .ref q17, .ref q19, .ref q21, .ref q23, .ref q25, .ref q27, .ref q29, .ref q31, .null, .null]))] H := hP
  have hD : va_D A [(h0, .inr (6, [.null, .ref q1, .ref q3, .ref q5, .ref q7, .int 0, .ref q9, .ref q11, .ref q13, .ref q15, .ref q17, .ref q19, .ref q21, .ref q23, .ref q25, .ref q27, .ref q29, .ref q31, .null, .null]))] := hD
  refine lv_aload_n hx hb dX4_init_146 rfl (lv_at hl 0 rfl) ?_
  refine lv_sipush (v := 250) hx hb dX4_init_147 (by decide) ?_
  refine va_newa (atype := .int) (ty := .int) hx hb (hts _ qw2) rfl hK hP hD hS hA (a0 := (250, .inl (fun _ => 0))) (fun _ => rfl) (by decide) (by decide +kernel) (Nat.le_of_ble_eq_true rfl) (Nat.le_of_ble_eq_true rfl) (Nat.le_of_ble_eq_true rfl) dX4_init_150 (fun q33 c34 H hK hP hD hS => ?_)
  have hP : va_P (dC, dI) cls [(h0, .inr (6, [.null, .ref q1, .ref q3, .ref q5, .ref q7, .int 0, .ref q9, .ref q11, .ref q13, .ref q15, .ref q17, .ref q19, .ref q21, .ref q23, .ref q25, .ref q27, .ref q29, .ref q31, .null, .null])), (q33, .inl (c34, 250, .inl (fun _ => 0)))] H := hP
  have hD : va_D A [(h0, .inr (6, [.null, .ref q1, .ref q3, .ref q5, .ref q7, .int 0, .ref q9, .ref q11, .ref q13, .ref q15, .ref q17, .ref q19, .ref q21, .ref q23, .ref q25, .ref q27, .ref q29, .ref q31, .null, .null])), (q33, .inl (c34, 250, .inl (fun _ => 0)))] := hD
  have hK : va_K (dC, dI) cls [(c34, .int)] s := hK
  have hP : va_P (dC, dI) cls [(h0, .inr (6, [.null, .ref q1, .ref q3, .ref q5, .ref q7, .int 0, .ref q9, .ref q11, .ref q13, .ref q15, .ref q17, .ref q19, .ref q21, .ref q23, .ref q25, .ref q27, .ref q29, .ref q31, .null, .null]))] H := hP.sub [0] rfl
  have hD : va_D A [(h0, .inr (6, [.null, .ref q1, .ref q3, .ref q5, .ref q7, .int 0, .ref q9, .ref q11, .ref q13, .ref q15, .ref q17, .ref q19, .ref q21, .ref q23, .ref q25, .ref q27, .ref q29, .ref q31, .null, .null]))] := hD.sub [0] (by decide) rfl
  have hK : va_K (dC, dI) cls [] s := hK.sub [] rfl
  refine W.widen (k := 17) (n := 16242) (Nat.le_of_ble_eq_true rfl) (Nat.le_of_ble_eq_true rfl) ?_
  refine va_putF (D := (dC, dI)) (ci := 6) (v := .ref q33) (ty := .array .int) (C := RX4) (T := TX4) (N := 20) hx hb hts i_X4 tyX4 tyX4_ok nmX4 hown hK hP hD hS 0 rfl rfl 18 (by decide) (hts _ qw80) (fun _ h9 => h9) rfl hin rfl (by decide +kernel) rfl rfl (Nat.le_of_ble_eq_true rfl) dX4_init_152 (fun H locs hP hD hS => ?_)
  have hP : va_P (dC, dI) cls [(h0, .inr (6, [.null, .ref q1, .ref q3, .ref q5, .ref q7, .int 0, .ref q9, .ref q11, .ref q13, .ref q15, .ref q17, .ref q19, .ref q21, .ref q23, .ref q25, .ref q27, .ref q29, .ref q31, .ref q33, .null]))] H := hP
  have hD : va_D A [(h0, .inr (6, [.null, .ref q1, .ref q3, .ref q5, .ref q7, .int 0, .ref q9, .ref q11, .ref q13, .ref q15, .ref q17, .ref q19, .ref q21, .ref q23, .ref q25, .ref q27, .ref q29, .ref q31, .ref q33, .null]))] := hD
  refine lv_aload_n hx hb dX4_init_155 rfl (lv_at hl 0 rfl) ?_
  refine lv_sipush (v := 19200) hx hb dX4_init_156 (by decide) ?_
  refine va_newa (atype := .int) (ty := .int) hx hb (hts _ qw2) rfl hK hP hD hS hA (a0 := (19200, .inl (fun _ => 0))) (fun _ => rfl) (by decide) (by decide +kernel) (Nat.le_of_ble_eq_true rfl) (Nat.le_of_ble_eq_true rfl) (Nat.le_of_ble_eq_true rfl) dX4_init_159 (fun q35 c36 H hK hP hD hS => ?_)
  have hP : va_P (dC, dI) cls [(h0, .inr (6, [.null, .ref q1, .ref q3, .ref q5, .ref q7, .int 0, .ref q9, .ref q11, .ref q13, .ref q15, .ref q17, .ref q19, .ref q21, .ref q23, .ref q25, .ref q27, .ref q29, .ref q31, .ref q33, .null])), (q35, .inl (c36, 19200, .inl (fun _ => 0)))] H := hP
  have hD : va_D A [(h0, .inr (6, [.null, .ref q1, .ref q3, .ref q5, .ref q7, .int 0, .ref q9, .ref q11, .ref q13, .ref q15, .ref q17, .ref q19, .ref q21, .ref q23, .ref q25, .ref q27, .ref q29, .ref q31, .ref q33, .null])), (q35, .inl (c36, 19200, .inl (fun _ => 0)))] := hD
  have hK : va_K (dC, dI) cls [(c36, .int)] s := hK
  have hP : va_P (dC, dI) cls [(h0, .inr (6, [.null, .ref q1, .ref q3, .ref q5, .ref q7, .int 0, .ref q9, .ref q11, .ref q13, .ref q15, .ref q17, .ref q19, .ref q21, .ref q23, .ref q25, .ref q27, .ref q29, .ref q31, .ref q33, .null]))] H := hP.sub [0] rfl
  have hD : va_D A [(h0, .inr (6, [.null, .ref q1, .ref q3, .ref q5, .ref q7, .int 0, .ref q9, .ref q11, .ref q13, .ref q15, .ref q17, .ref q19, .ref q21, .ref q23, .ref q25, .ref q27, .ref q29, .ref q31, .ref q33, .null]))] := hD.sub [0] (by decide) rfl
  have hK : va_K (dC, dI) cls [] s := hK.sub [] rfl
  refine W.widen (k := 18) (n := 35442) (Nat.le_of_ble_eq_true rfl) (Nat.le_of_ble_eq_true rfl) ?_
  refine va_putF (D := (dC, dI)) (ci := 6) (v := .ref q35) (ty := .array .int) (C := RX4) (T := TX4) (N := 20) hx hb hts i_X4 tyX4 tyX4_ok nmX4 hown hK hP hD hS 0 rfl rfl 19 (by decide) (hts _ qw81) (fun _ h9 => h9) rfl hin rfl (by decide +kernel) rfl rfl (Nat.le_of_ble_eq_true rfl) dX4_init_161 (fun H locs hP hD hS => ?_)
  have hP : va_P (dC, dI) cls [(h0, .inr (6, [.null, .ref q1, .ref q3, .ref q5, .ref q7, .int 0, .ref q9, .ref q11, .ref q13, .ref q15, .ref q17, .ref q19, .ref q21, .ref q23, .ref q25, .ref q27, .ref q29, .ref q31, .ref q33, .ref q35]))] H := hP
  have hD : va_D A [(h0, .inr (6, [.null, .ref q1, .ref q3, .ref q5, .ref q7, .int 0, .ref q9, .ref q11, .ref q13, .ref q15, .ref q17, .ref q19, .ref q21, .ref q23, .ref q25, .ref q27, .ref q29, .ref q31, .ref q33, .ref q35]))] := hD
  refine lv_aload_n hx hb dX4_init_164 rfl (lv_at hl 0 rfl) ?_
  refine lv_aload_n hx hb dX4_init_165 rfl (lv_at hl 1 rfl) ?_
  refine va_putF (D := (dC, dI)) (ci := 6) (v := .ref h1) (ty := .object "Gearbox$Shape") (C := RX4) (T := TX4) (N := 20) hx hb hts i_X4 tyX4 tyX4_ok nmX4 hown hK hP hD hS 0 rfl rfl 0 (by decide) (hts _ qw82) (fun _ h9 => h9) rfl hin rfl (by decide +kernel) rfl rfl (Nat.le_of_ble_eq_true rfl) dX4_init_166 (fun H locs hP hD hS => ?_)
  have hP : va_P (dC, dI) cls [(h0, .inr (6, [.ref h1, .ref q1, .ref q3, .ref q5, .ref q7, .int 0, .ref q9, .ref q11, .ref q13, .ref q15, .ref q17, .ref q19, .ref q21, .ref q23, .ref q25, .ref q27, .ref q29, .ref q31, .ref q33, .ref q35]))] H := hP
  have hD : va_D A [(h0, .inr (6, [.ref h1, .ref q1, .ref q3, .ref q5, .ref q7, .int 0, .ref q9, .ref q11, .ref q13, .ref q15, .ref q17, .ref q19, .ref q21, .ref q23, .ref q25, .ref q27, .ref q29, .ref q31, .ref q33, .ref q35]))] := hD
  have hP9 : va_P (dC, dI) cls [] H := hP.sub [] rfl
  have hD9 : va_D A [] := hD.sub [] (by decide) rfl
  have hK9 : va_K (dC, dI) cls [] s := hK.sub [] rfl
  exact W.vret hx hb hr (fun t ht hW => ⟨⟨(), rfl, trivial, ⟨by rw [ht]; exact hP9, va_K.moved hW.alike hK9, hD9⟩⟩, hS.F ht⟩) hS.2.2 dX4_init_169
set_option maxHeartbeats 4000000 in
set_option maxRecDepth 100000 in
theorem kX5_init {zs : Nat × Nat} (l : Launch) (dC : Nat → ClassId) (dI : Nat → Nat → Nat) (h0 : Nat) (h1 : Nat) (sz : Nat)  : Met l yX5_init (wz yX5_init cX5_init 2 (Option.none : Option Jvm.ClassFile.FieldType)) ({ frames := 1, cells := 9, slots := 2060, locals := 12 }) (va_Pc [.ref h0, .ref h1] (PRE zs dC dI [(h0, .inr (7, [.null, .null, .null, .null, .null, .null, .null, .long 0, .null, .null, .int 0, .null]))] [] sz)) (va_Qv (fun (_ : Unit) => True) (fun _ t => POST dC dI [] [] (va_A [(h0, .inr (7, [.null, .null, .null, .null, .null, .null, .null, .long 0, .null, .null, .int 0, .null]))] sz) t) (va_A [(h0, .inr (7, [.null, .null, .null, .null, .null, .null, .null, .long 0, .null, .null, .int 0, .null]))] sz)) 9 2060 (va_A [(h0, .inr (7, [.null, .null, .null, .null, .null, .null, .null, .long 0, .null, .null, .int 0, .null]))] sz) := by
  refine Met.ofW (cc := cX5_init) (maxL := 2) (ret := (Option.none : Option Jvm.ClassFile.FieldType)) (by decide) rfl ?_
  intro p e s m args below meth c s₁ B hml hv
  obtain ⟨rfl, hsz, hP, hK, hD0, hE⟩ := hv
  have hx := B.exec
  have hb := B.bytes
  have hr := B.returns
  have hts0 := atoms_spec (ws := wz yX5_init cX5_init 2 (Option.none : Option Jvm.ClassFile.FieldType)) B.pre
  have hts : ∀ w ∈ gw, w.before _ s = true := fun w h => hts0 w (List.mem_cons_of_mem _ h)
  have hown : s.vm.findClass RX5 = some m.cls := findClass_of_methodNamed B.named
  have hlocks := B.notSynchronized
  have hin : meth.name = "<init>" := (name_of_methodNamed B.named B.method).1
  subst hsz
  have hD := hD0.self (sz := s.heap.size)
  generalize hAe : va_A [(h0, .inr (7, [.null, .null, .null, .null, .null, .null, .null, .long 0, .null, .null, .int 0, .null]))] s.heap.size = A at hD hE ⊢
  have hA : ∀ q : Nat, s.heap.size ≤ q → A q := fun q h => by rw [← hAe]; exact Or.inr h
  have hS : va_S A s.heap s.heap [] := va_S.rf
  have hP : va_P (dC, dI) cls [(h0, .inr (7, [.null, .null, .null, .null, .null, .null, .null, .long 0, .null, .null, .int 0, .null]))] s.heap := hP
  have hl := lv_entry ([.ref h0, .ref h1]) (n := 2) (Nat.le_of_ble_eq_true rfl)
  rw [lg_entry_eq]
  generalize (lg_sl ([.ref h0, .ref h1]) ++ List.replicate (2 - (lg_sl ([.ref h0, .ref h1])).length) Slot.unset).toArray = ls at hl ⊢
  have hl : lv_has ls 2 [(0, .ref h0), (1, .ref h1)] := hl
  refine lv_aload_n hx hb dX5_init_0 rfl (lv_at hl 0 rfl) ?_
  refine W.objInit hx hb hown (hts _ qw83) (hts _ qw1) (hts _ qw_oi) rfl (by rw [hml]; exact hl.1) rfl dX5_init_1 (Nat.le_of_ble_eq_true rfl) (Nat.le_of_ble_eq_true rfl) ?_
  refine W.eq (g2 := F0 m 4 ls []) rfl ?_
  refine lv_aload_n hx hb dX5_init_4 rfl (lv_at hl 0 rfl) ?_
  refine lv_sipush (v := 250) hx hb dX5_init_5 (by decide) ?_
  refine va_newa (atype := .int) (ty := .int) hx hb (hts _ qw2) rfl hK hP hD hS hA (a0 := (250, .inl (fun _ => 0))) (fun _ => rfl) (by decide) (by decide +kernel) (Nat.le_of_ble_eq_true rfl) (Nat.le_of_ble_eq_true rfl) (Nat.le_of_ble_eq_true rfl) dX5_init_8 (fun q1 c2 H hK hP hD hS => ?_)
  have hP : va_P (dC, dI) cls [(h0, .inr (7, [.null, .null, .null, .null, .null, .null, .null, .long 0, .null, .null, .int 0, .null])), (q1, .inl (c2, 250, .inl (fun _ => 0)))] H := hP
  have hD : va_D A [(h0, .inr (7, [.null, .null, .null, .null, .null, .null, .null, .long 0, .null, .null, .int 0, .null])), (q1, .inl (c2, 250, .inl (fun _ => 0)))] := hD
  have hK : va_K (dC, dI) cls [(c2, .int)] s := hK
  have hP : va_P (dC, dI) cls [(h0, .inr (7, [.null, .null, .null, .null, .null, .null, .null, .long 0, .null, .null, .int 0, .null]))] H := hP.sub [0] rfl
  have hD : va_D A [(h0, .inr (7, [.null, .null, .null, .null, .null, .null, .null, .long 0, .null, .null, .int 0, .null]))] := hD.sub [0] (by decide) rfl
  have hK : va_K (dC, dI) cls [] s := hK.sub [] rfl
  refine W.widen (k := 1) (n := 250) (Nat.le_of_ble_eq_true rfl) (Nat.le_of_ble_eq_true rfl) ?_
  refine va_putF (D := (dC, dI)) (ci := 7) (v := .ref q1) (ty := .array .int) (C := RX5) (T := TX5) (N := 12) hx hb hts i_X5 tyX5 tyX5_ok nmX5 hown hK hP hD hS 0 rfl rfl 1 (by decide) (hts _ qw84) (fun _ h9 => h9) rfl hin rfl (by decide +kernel) rfl rfl (Nat.le_of_ble_eq_true rfl) dX5_init_10 (fun H locs hP hD hS => ?_)
  have hP : va_P (dC, dI) cls [(h0, .inr (7, [.null, .ref q1, .null, .null, .null, .null, .null, .long 0, .null, .null, .int 0, .null]))] H := hP
  have hD : va_D A [(h0, .inr (7, [.null, .ref q1, .null, .null, .null, .null, .null, .long 0, .null, .null, .int 0, .null]))] := hD
  refine lv_aload_n hx hb dX5_init_13 rfl (lv_at hl 0 rfl) ?_
  refine lv_sipush (v := 250) hx hb dX5_init_14 (by decide) ?_
  refine va_newa (atype := .int) (ty := .int) hx hb (hts _ qw2) rfl hK hP hD hS hA (a0 := (250, .inl (fun _ => 0))) (fun _ => rfl) (by decide) (by decide +kernel) (Nat.le_of_ble_eq_true rfl) (Nat.le_of_ble_eq_true rfl) (Nat.le_of_ble_eq_true rfl) dX5_init_17 (fun q3 c4 H hK hP hD hS => ?_)
  have hP : va_P (dC, dI) cls [(h0, .inr (7, [.null, .ref q1, .null, .null, .null, .null, .null, .long 0, .null, .null, .int 0, .null])), (q3, .inl (c4, 250, .inl (fun _ => 0)))] H := hP
  have hD : va_D A [(h0, .inr (7, [.null, .ref q1, .null, .null, .null, .null, .null, .long 0, .null, .null, .int 0, .null])), (q3, .inl (c4, 250, .inl (fun _ => 0)))] := hD
  have hK : va_K (dC, dI) cls [(c4, .int)] s := hK
  have hP : va_P (dC, dI) cls [(h0, .inr (7, [.null, .ref q1, .null, .null, .null, .null, .null, .long 0, .null, .null, .int 0, .null]))] H := hP.sub [0] rfl
  have hD : va_D A [(h0, .inr (7, [.null, .ref q1, .null, .null, .null, .null, .null, .long 0, .null, .null, .int 0, .null]))] := hD.sub [0] (by decide) rfl
  have hK : va_K (dC, dI) cls [] s := hK.sub [] rfl
  refine W.widen (k := 2) (n := 500) (Nat.le_of_ble_eq_true rfl) (Nat.le_of_ble_eq_true rfl) ?_
  refine va_putF (D := (dC, dI)) (ci := 7) (v := .ref q3) (ty := .array .int) (C := RX5) (T := TX5) (N := 12) hx hb hts i_X5 tyX5 tyX5_ok nmX5 hown hK hP hD hS 0 rfl rfl 2 (by decide) (hts _ qw85) (fun _ h9 => h9) rfl hin rfl (by decide +kernel) rfl rfl (Nat.le_of_ble_eq_true rfl) dX5_init_19 (fun H locs hP hD hS => ?_)
  have hP : va_P (dC, dI) cls [(h0, .inr (7, [.null, .ref q1, .ref q3, .null, .null, .null, .null, .long 0, .null, .null, .int 0, .null]))] H := hP
  have hD : va_D A [(h0, .inr (7, [.null, .ref q1, .ref q3, .null, .null, .null, .null, .long 0, .null, .null, .int 0, .null]))] := hD
  refine lv_aload_n hx hb dX5_init_22 rfl (lv_at hl 0 rfl) ?_
  refine lv_sipush (v := 250) hx hb dX5_init_23 (by decide) ?_
  refine va_newa (atype := .int) (ty := .int) hx hb (hts _ qw2) rfl hK hP hD hS hA (a0 := (250, .inl (fun _ => 0))) (fun _ => rfl) (by decide) (by decide +kernel) (Nat.le_of_ble_eq_true rfl) (Nat.le_of_ble_eq_true rfl) (Nat.le_of_ble_eq_true rfl) dX5_init_26 (fun q5 c6 H hK hP hD hS => ?_)
  have hP : va_P (dC, dI) cls [(h0, .inr (7, [.null, .ref q1, .ref q3, .null, .null, .null, .null, .long 0, .null, .null, .int 0, .null])), (q5, .inl (c6, 250, .inl (fun _ => 0)))] H := hP
  have hD : va_D A [(h0, .inr (7, [.null, .ref q1, .ref q3, .null, .null, .null, .null, .long 0, .null, .null, .int 0, .null])), (q5, .inl (c6, 250, .inl (fun _ => 0)))] := hD
  have hK : va_K (dC, dI) cls [(c6, .int)] s := hK
  have hP : va_P (dC, dI) cls [(h0, .inr (7, [.null, .ref q1, .ref q3, .null, .null, .null, .null, .long 0, .null, .null, .int 0, .null]))] H := hP.sub [0] rfl
  have hD : va_D A [(h0, .inr (7, [.null, .ref q1, .ref q3, .null, .null, .null, .null, .long 0, .null, .null, .int 0, .null]))] := hD.sub [0] (by decide) rfl
  have hK : va_K (dC, dI) cls [] s := hK.sub [] rfl
  refine W.widen (k := 3) (n := 750) (Nat.le_of_ble_eq_true rfl) (Nat.le_of_ble_eq_true rfl) ?_
  refine va_putF (D := (dC, dI)) (ci := 7) (v := .ref q5) (ty := .array .int) (C := RX5) (T := TX5) (N := 12) hx hb hts i_X5 tyX5 tyX5_ok nmX5 hown hK hP hD hS 0 rfl rfl 3 (by decide) (hts _ qw86) (fun _ h9 => h9) rfl hin rfl (by decide +kernel) rfl rfl (Nat.le_of_ble_eq_true rfl) dX5_init_28 (fun H locs hP hD hS => ?_)
  have hP : va_P (dC, dI) cls [(h0, .inr (7, [.null, .ref q1, .ref q3, .ref q5, .null, .null, .null, .long 0, .null, .null, .int 0, .null]))] H := hP
  have hD : va_D A [(h0, .inr (7, [.null, .ref q1, .ref q3, .ref q5, .null, .null, .null, .long 0, .null, .null, .int 0, .null]))] := hD
  refine lv_aload_n hx hb dX5_init_31 rfl (lv_at hl 0 rfl) ?_
  refine lv_sipush (v := 250) hx hb dX5_init_32 (by decide) ?_
  refine va_newa (atype := .int) (ty := .int) hx hb (hts _ qw2) rfl hK hP hD hS hA (a0 := (250, .inl (fun _ => 0))) (fun _ => rfl) (by decide) (by decide +kernel) (Nat.le_of_ble_eq_true rfl) (Nat.le_of_ble_eq_true rfl) (Nat.le_of_ble_eq_true rfl) dX5_init_35 (fun q7 c8 H hK hP hD hS => ?_)
  have hP : va_P (dC, dI) cls [(h0, .inr (7, [.null, .ref q1, .ref q3, .ref q5, .null, .null, .null, .long 0, .null, .null, .int 0, .null])), (q7, .inl (c8, 250, .inl (fun _ => 0)))] H := hP
  have hD : va_D A [(h0, .inr (7, [.null, .ref q1, .ref q3, .ref q5, .null, .null, .null, .long 0, .null, .null, .int 0, .null])), (q7, .inl (c8, 250, .inl (fun _ => 0)))] := hD
  have hK : va_K (dC, dI) cls [(c8, .int)] s := hK
  have hP : va_P (dC, dI) cls [(h0, .inr (7, [.null, .ref q1, .ref q3, .ref q5, .null, .null, .null, .long 0, .null, .null, .int 0, .null]))] H := hP.sub [0] rfl
  have hD : va_D A [(h0, .inr (7, [.null, .ref q1, .ref q3, .ref q5, .null, .null, .null, .long 0, .null, .null, .int 0, .null]))] := hD.sub [0] (by decide) rfl
  have hK : va_K (dC, dI) cls [] s := hK.sub [] rfl
  refine W.widen (k := 4) (n := 1000) (Nat.le_of_ble_eq_true rfl) (Nat.le_of_ble_eq_true rfl) ?_
  refine va_putF (D := (dC, dI)) (ci := 7) (v := .ref q7) (ty := .array .int) (C := RX5) (T := TX5) (N := 12) hx hb hts i_X5 tyX5 tyX5_ok nmX5 hown hK hP hD hS 0 rfl rfl 4 (by decide) (hts _ qw87) (fun _ h9 => h9) rfl hin rfl (by decide +kernel) rfl rfl (Nat.le_of_ble_eq_true rfl) dX5_init_37 (fun H locs hP hD hS => ?_)
  have hP : va_P (dC, dI) cls [(h0, .inr (7, [.null, .ref q1, .ref q3, .ref q5, .ref q7, .null, .null, .long 0, .null, .null, .int 0, .null]))] H := hP
  have hD : va_D A [(h0, .inr (7, [.null, .ref q1, .ref q3, .ref q5, .ref q7, .null, .null, .long 0, .null, .null, .int 0, .null]))] := hD
  refine lv_aload_n hx hb dX5_init_40 rfl (lv_at hl 0 rfl) ?_
  refine lv_sipush (v := 250) hx hb dX5_init_41 (by decide) ?_
  refine va_newa (atype := .int) (ty := .int) hx hb (hts _ qw2) rfl hK hP hD hS hA (a0 := (250, .inl (fun _ => 0))) (fun _ => rfl) (by decide) (by decide +kernel) (Nat.le_of_ble_eq_true rfl) (Nat.le_of_ble_eq_true rfl) (Nat.le_of_ble_eq_true rfl) dX5_init_44 (fun q9 c10 H hK hP hD hS => ?_)
  have hP : va_P (dC, dI) cls [(h0, .inr (7, [.null, .ref q1, .ref q3, .ref q5, .ref q7, .null, .null, .long 0, .null, .null, .int 0, .null])), (q9, .inl (c10, 250, .inl (fun _ => 0)))] H := hP
  have hD : va_D A [(h0, .inr (7, [.null, .ref q1, .ref q3, .ref q5, .ref q7, .null, .null, .long 0, .null, .null, .int 0, .null])), (q9, .inl (c10, 250, .inl (fun _ => 0)))] := hD
  have hK : va_K (dC, dI) cls [(c10, .int)] s := hK
  have hP : va_P (dC, dI) cls [(h0, .inr (7, [.null, .ref q1, .ref q3, .ref q5, .ref q7, .null, .null, .long 0, .null, .null, .int 0, .null]))] H := hP.sub [0] rfl
  have hD : va_D A [(h0, .inr (7, [.null, .ref q1, .ref q3, .ref q5, .ref q7, .null, .null, .long 0, .null, .null, .int 0, .null]))] := hD.sub [0] (by decide) rfl
  have hK : va_K (dC, dI) cls [] s := hK.sub [] rfl
  refine W.widen (k := 5) (n := 1250) (Nat.le_of_ble_eq_true rfl) (Nat.le_of_ble_eq_true rfl) ?_
  refine va_putF (D := (dC, dI)) (ci := 7) (v := .ref q9) (ty := .array .int) (C := RX5) (T := TX5) (N := 12) hx hb hts i_X5 tyX5 tyX5_ok nmX5 hown hK hP hD hS 0 rfl rfl 5 (by decide) (hts _ qw88) (fun _ h9 => h9) rfl hin rfl (by decide +kernel) rfl rfl (Nat.le_of_ble_eq_true rfl) dX5_init_46 (fun H locs hP hD hS => ?_)
  have hP : va_P (dC, dI) cls [(h0, .inr (7, [.null, .ref q1, .ref q3, .ref q5, .ref q7, .ref q9, .null, .long 0, .null, .null, .int 0, .null]))] H := hP
  have hD : va_D A [(h0, .inr (7, [.null, .ref q1, .ref q3, .ref q5, .ref q7, .ref q9, .null, .long 0, .null, .null, .int 0, .null]))] := hD
  refine lv_aload_n hx hb dX5_init_49 rfl (lv_at hl 0 rfl) ?_
  refine lv_sipush (v := 250) hx hb dX5_init_50 (by decide) ?_
  refine va_newa (atype := .int) (ty := .int) hx hb (hts _ qw2) rfl hK hP hD hS hA (a0 := (250, .inl (fun _ => 0))) (fun _ => rfl) (by decide) (by decide +kernel) (Nat.le_of_ble_eq_true rfl) (Nat.le_of_ble_eq_true rfl) (Nat.le_of_ble_eq_true rfl) dX5_init_53 (fun q11 c12 H hK hP hD hS => ?_)
  have hP : va_P (dC, dI) cls [(h0, .inr (7, [.null, .ref q1, .ref q3, .ref q5, .ref q7, .ref q9, .null, .long 0, .null, .null, .int 0, .null])), (q11, .inl (c12, 250, .inl (fun _ => 0)))] H := hP
  have hD : va_D A [(h0, .inr (7, [.null, .ref q1, .ref q3, .ref q5, .ref q7, .ref q9, .null, .long 0, .null, .null, .int 0, .null])), (q11, .inl (c12, 250, .inl (fun _ => 0)))] := hD
  have hK : va_K (dC, dI) cls [(c12, .int)] s := hK
  have hP : va_P (dC, dI) cls [(h0, .inr (7, [.null, .ref q1, .ref q3, .ref q5, .ref q7, .ref q9, .null, .long 0, .null, .null, .int 0, .null]))] H := hP.sub [0] rfl
  have hD : va_D A [(h0, .inr (7, [.null, .ref q1, .ref q3, .ref q5, .ref q7, .ref q9, .null, .long 0, .null, .null, .int 0, .null]))] := hD.sub [0] (by decide) rfl
  have hK : va_K (dC, dI) cls [] s := hK.sub [] rfl
  refine W.widen (k := 6) (n := 1500) (Nat.le_of_ble_eq_true rfl) (Nat.le_of_ble_eq_true rfl) ?_
  refine va_putF (D := (dC, dI)) (ci := 7) (v := .ref q11) (ty := .array .int) (C := RX5) (T := TX5) (N := 12) hx hb hts i_X5 tyX5 tyX5_ok nmX5 hown hK hP hD hS 0 rfl rfl 6 (by decide) (hts _ qw89) (fun _ h9 => h9) rfl hin rfl (by decide +kernel) rfl rfl (Nat.le_of_ble_eq_true rfl) dX5_init_55 (fun H locs hP hD hS => ?_)
  have hP : va_P (dC, dI) cls [(h0, .inr (7, [.null, .ref q1, .ref q3, .ref q5, .ref q7, .ref q9, .ref q11, .long 0, .null, .null, .int 0, .null]))] H := hP
  have hD : va_D A [(h0, .inr (7, [.null, .ref q1, .ref q3, .ref q5, .ref q7, .ref q9, .ref q11, .long 0, .null, .null, .int 0, .null]))] := hD
  refine lv_aload_n hx hb dX5_init_58 rfl (lv_at hl 0 rfl) ?_
  refine lv_sipush (v := 250) hx hb dX5_init_59 (by decide) ?_
  refine va_newa (atype := .int) (ty := .int) hx hb (hts _ qw2) rfl hK hP hD hS hA (a0 := (250, .inl (fun _ => 0))) (fun _ => rfl) (by decide) (by decide +kernel) (Nat.le_of_ble_eq_true rfl) (Nat.le_of_ble_eq_true rfl) (Nat.le_of_ble_eq_true rfl) dX5_init_62 (fun q13 c14 H hK hP hD hS => ?_)
  have hP : va_P (dC, dI) cls [(h0, .inr (7, [.null, .ref q1, .ref q3, .ref q5, .ref q7, .ref q9, .ref q11, .long 0, .null, .null, .int 0, .null])), (q13, .inl (c14, 250, .inl (fun _ => 0)))] H := hP
  have hD : va_D A [(h0, .inr (7, [.null, .ref q1, .ref q3, .ref q5, .ref q7, .ref q9, .ref q11, .long 0, .null, .null, .int 0, .null])), (q13, .inl (c14, 250, .inl (fun _ => 0)))] := hD
  have hK : va_K (dC, dI) cls [(c14, .int)] s := hK
  have hP : va_P (dC, dI) cls [(h0, .inr (7, [.null, .ref q1, .ref q3, .ref q5, .ref q7, .ref q9, .ref q11, .long 0, .null, .null, .int 0, .null]))] H := hP.sub [0] rfl
  have hD : va_D A [(h0, .inr (7, [.null, .ref q1, .ref q3, .ref q5, .ref q7, .ref q9, .ref q11, .long 0, .null, .null, .int 0, .null]))] := hD.sub [0] (by decide) rfl
  have hK : va_K (dC, dI) cls [] s := hK.sub [] rfl
  refine W.widen (k := 7) (n := 1750) (Nat.le_of_ble_eq_true rfl) (Nat.le_of_ble_eq_true rfl) ?_
  refine va_putF (D := (dC, dI)) (ci := 7) (v := .ref q13) (ty := .array .int) (C := RX5) (T := TX5) (N := 12) hx hb hts i_X5 tyX5 tyX5_ok nmX5 hown hK hP hD hS 0 rfl rfl 8 (by decide) (hts _ qw90) (fun _ h9 => h9) rfl hin rfl (by decide +kernel) rfl rfl (Nat.le_of_ble_eq_true rfl) dX5_init_64 (fun H locs hP hD hS => ?_)
  have hP : va_P (dC, dI) cls [(h0, .inr (7, [.null, .ref q1, .ref q3, .ref q5, .ref q7, .ref q9, .ref q11, .long 0, .ref q13, .null, .int 0, .null]))] H := hP
  have hD : va_D A [(h0, .inr (7, [.null, .ref q1, .ref q3, .ref q5, .ref q7, .ref q9, .ref q11, .long 0, .ref q13, .null, .int 0, .null]))] := hD
  refine lv_aload_n hx hb dX5_init_67 rfl (lv_at hl 0 rfl) ?_
  refine lv_sipush (v := 250) hx hb dX5_init_68 (by decide) ?_
  refine va_newa (atype := .int) (ty := .int) hx hb (hts _ qw2) rfl hK hP hD hS hA (a0 := (250, .inl (fun _ => 0))) (fun _ => rfl) (by decide) (by decide +kernel) (Nat.le_of_ble_eq_true rfl) (Nat.le_of_ble_eq_true rfl) (Nat.le_of_ble_eq_true rfl) dX5_init_71 (fun q15 c16 H hK hP hD hS => ?_)
  have hP : va_P (dC, dI) cls [(h0, .inr (7, [.null, .ref q1, .ref q3, .ref q5, .ref q7, .ref q9, .ref q11, .long 0, .ref q13, .null, .int 0, .null])), (q15, .inl (c16, 250, .inl (fun _ => 0)))] H := hP
  have hD : va_D A [(h0, .inr (7, [.null, .ref q1, .ref q3, .ref q5, .ref q7, .ref q9, .ref q11, .long 0, .ref q13, .null, .int 0, .null])), (q15, .inl (c16, 250, .inl (fun _ => 0)))] := hD
  have hK : va_K (dC, dI) cls [(c16, .int)] s := hK
  have hP : va_P (dC, dI) cls [(h0, .inr (7, [.null, .ref q1, .ref q3, .ref q5, .ref q7, .ref q9, .ref q11, .long 0, .ref q13, .null, .int 0, .null]))] H := hP.sub [0] rfl
  have hD : va_D A [(h0, .inr (7, [.null, .ref q1, .ref q3, .ref q5, .ref q7, .ref q9, .ref q11, .long 0, .ref q13, .null, .int 0, .null]))] := hD.sub [0] (by decide) rfl
  have hK : va_K (dC, dI) cls [] s := hK.sub [] rfl
  refine W.widen (k := 8) (n := 2000) (Nat.le_of_ble_eq_true rfl) (Nat.le_of_ble_eq_true rfl) ?_
  refine va_putF (D := (dC, dI)) (ci := 7) (v := .ref q15) (ty := .array .int) (C := RX5) (T := TX5) (N := 12) hx hb hts i_X5 tyX5 tyX5_ok nmX5 hown hK hP hD hS 0 rfl rfl 9 (by decide) (hts _ qw91) (fun _ h9 => h9) rfl hin rfl (by decide +kernel) rfl rfl (Nat.le_of_ble_eq_true rfl) dX5_init_73 (fun H locs hP hD hS => ?_)
  have hP : va_P (dC, dI) cls [(h0, .inr (7, [.null, .ref q1, .ref q3, .ref q5, .ref q7, .ref q9, .ref q11, .long 0, .ref q13, .ref q15, .int 0, .null]))] H := hP
  have hD : va_D A [(h0, .inr (7, [.null, .ref q1, .ref q3, .ref q5, .ref q7, .ref q9, .ref q11, .long 0, .ref q13, .ref q15, .int 0, .null]))] := hD
  refine lv_aload_n hx hb dX5_init_76 rfl (lv_at hl 0 rfl) ?_
  refine lv_bipush (v := 60) hx hb dX5_init_77 (by decide) ?_
  refine va_newa (atype := .int) (ty := .int) hx hb (hts _ qw2) rfl hK hP hD hS hA (a0 := (60, .inl (fun _ => 0))) (fun _ => rfl) (by decide) (by decide +kernel) (Nat.le_of_ble_eq_true rfl) (Nat.le_of_ble_eq_true rfl) (Nat.le_of_ble_eq_true rfl) dX5_init_79 (fun q17 c18 H hK hP hD hS => ?_)
  have hP : va_P (dC, dI) cls [(h0, .inr (7, [.null, .ref q1, .ref q3, .ref q5, .ref q7, .ref q9, .ref q11, .long 0, .ref q13, .ref q15, .int 0, .null])), (q17, .inl (c18, 60, .inl (fun _ => 0)))] H := hP
  have hD : va_D A [(h0, .inr (7, [.null, .ref q1, .ref q3, .ref q5, .ref q7, .ref q9, .ref q11, .long 0, .ref q13, .ref q15, .int 0, .null])), (q17, .inl (c18, 60, .inl (fun _ => 0)))] := hD
  have hK : va_K (dC, dI) cls [(c18, .int)] s := hK
  have hP : va_P (dC, dI) cls [(h0, .inr (7, [.null, .ref q1, .ref q3, .ref q5, .ref q7, .ref q9, .ref q11, .long 0, .ref q13, .ref q15, .int 0, .null]))] H := hP.sub [0] rfl
  have hD : va_D A [(h0, .inr (7, [.null, .ref q1, .ref q3, .ref q5, .ref q7, .ref q9, .ref q11, .long 0, .ref q13, .ref q15, .int 0, .null]))] := hD.sub [0] (by decide) rfl
  have hK : va_K (dC, dI) cls [] s := hK.sub [] rfl
  refine W.widen (k := 9) (n := 2060) (Nat.le_of_ble_eq_true rfl) (Nat.le_of_ble_eq_true rfl) ?_
  refine va_putF (D := (dC, dI)) (ci := 7) (v := .ref q17) (ty := .array .int) (C := RX5) (T := TX5) (N := 12) hx hb hts i_X5 tyX5 tyX5_ok nmX5 hown hK hP hD hS 0 rfl rfl 11 (by decide) (hts _ qw92) (fun _ h9 => h9) rfl hin rfl (by decide +kernel) rfl rfl (Nat.le_of_ble_eq_true rfl) dX5_init_81 (fun H locs hP hD hS => ?_)
  have hP : va_P (dC, dI) cls [(h0, .inr (7, [.null, .ref q1, .ref q3, .ref q5, .ref q7, .ref q9, .ref q11, .long 0, .ref q13, .ref q15, .int 0, .ref q17]))] H := hP
  have hD : va_D A [(h0, .inr (7, [.null, .ref q1, .ref q3, .ref q5, .ref q7, .ref q9, .ref q11, .long 0, .ref q13, .ref q15, .int 0, .ref q17]))] := hD
  refine lv_aload_n hx hb dX5_init_84 rfl (lv_at hl 0 rfl) ?_
  refine lv_aload_n hx hb dX5_init_85 rfl (lv_at hl 1 rfl) ?_
  refine va_putF (D := (dC, dI)) (ci := 7) (v := .ref h1) (ty := .object "Gearbox$Shape") (C := RX5) (T := TX5) (N := 12) hx hb hts i_X5 tyX5 tyX5_ok nmX5 hown hK hP hD hS 0 rfl rfl 0 (by decide) (hts _ qw93) (fun _ h9 => h9) rfl hin rfl (by decide +kernel) rfl rfl (Nat.le_of_ble_eq_true rfl) dX5_init_86 (fun H locs hP hD hS => ?_)
  have hP : va_P (dC, dI) cls [(h0, .inr (7, [.ref h1, .ref q1, .ref q3, .ref q5, .ref q7, .ref q9, .ref q11, .long 0, .ref q13, .ref q15, .int 0, .ref q17]))] H := hP
  have hD : va_D A [(h0, .inr (7, [.ref h1, .ref q1, .ref q3, .ref q5, .ref q7, .ref q9, .ref q11, .long 0, .ref q13, .ref q15, .int 0, .ref q17]))] := hD
  have hP9 : va_P (dC, dI) cls [] H := hP.sub [] rfl
  have hD9 : va_D A [] := hD.sub [] (by decide) rfl
  have hK9 : va_K (dC, dI) cls [] s := hK.sub [] rfl
  exact W.vret hx hb hr (fun t ht hW => ⟨⟨(), rfl, trivial, ⟨by rw [ht]; exact hP9, va_K.moved hW.alike hK9, hD9⟩⟩, hS.F ht⟩) hS.2.2 dX5_init_89
set_option maxHeartbeats 4000000 in
set_option maxRecDepth 100000 in
theorem kX2_init {zs : Nat × Nat} (l : Launch) (dC : Nat → ClassId) (dI : Nat → Nat → Nat) (h0 : Nat) (sz : Nat)  : Met l yX2_init (wz yX2_init cX2_init 1 (Option.none : Option Jvm.ClassFile.FieldType)) ({ frames := 1, cells := 15, slots := 835, locals := 12 }) (va_Pc [.ref h0] (PRE zs dC dI [(h0, .inr (9, [.int 0, .int 0, .int 0, .null, .null, .null, .null, .null, .int 0, .null, .null, .null, .null, .null, .null, .null, .null, .null, .null]))] [] sz)) (va_Qv (fun (_ : Unit) => True) (fun _ t => POST dC dI [] [] (va_A [(h0, .inr (9, [.int 0, .int 0, .int 0, .null, .null, .null, .null, .null, .int 0, .null, .null, .null, .null, .null, .null, .null, .null, .null, .null]))] sz) t) (va_A [(h0, .inr (9, [.int 0, .int 0, .int 0, .null, .null, .null, .null, .null, .int 0, .null, .null, .null, .null, .null, .null, .null, .null, .null, .null]))] sz)) 15 835 (va_A [(h0, .inr (9, [.int 0, .int 0, .int 0, .null, .null, .null, .null, .null, .int 0, .null, .null, .null, .null, .null, .null, .null, .null, .null, .null]))] sz) := by
  refine Met.ofW (cc := cX2_init) (maxL := 1) (ret := (Option.none : Option Jvm.ClassFile.FieldType)) (by decide) rfl ?_
  intro p e s m args below meth c s₁ B hml hv
  obtain ⟨rfl, hsz, hP, hK, hD0, hE⟩ := hv
  have hx := B.exec
  have hb := B.bytes
  have hr := B.returns
  have hts0 := atoms_spec (ws := wz yX2_init cX2_init 1 (Option.none : Option Jvm.ClassFile.FieldType)) B.pre
  have hts : ∀ w ∈ gw, w.before _ s = true := fun w h => hts0 w (List.mem_cons_of_mem _ h)
  have hown : s.vm.findClass RX2 = some m.cls := findClass_of_methodNamed B.named
  have hlocks := B.notSynchronized
  have hin : meth.name = "<init>" := (name_of_methodNamed B.named B.method).1
  subst hsz
  have hD := hD0.self (sz := s.heap.size)
  generalize hAe : va_A [(h0, .inr (9, [.int 0, .int 0, .int 0, .null, .null, .null, .null, .null, .int 0, .null, .null, .null, .null, .null, .null, .null, .null, .null, .null]))] s.heap.size = A at hD hE ⊢
  have hA : ∀ q : Nat, s.heap.size ≤ q → A q := fun q h => by rw [← hAe]; exact Or.inr h
  have hS : va_S A s.heap s.heap [] := va_S.rf
  have hP : va_P (dC, dI) cls [(h0, .inr (9, [.int 0, .int 0, .int 0, .null, .null, .null, .null, .null, .int 0, .null, .null, .null, .null, .null, .null, .null, .null, .null, .null]))] s.heap := hP
  have hl := lv_entry ([.ref h0]) (n := 1) (Nat.le_of_ble_eq_true rfl)
  rw [lg_entry_eq]
  generalize (lg_sl ([.ref h0]) ++ List.replicate (1 - (lg_sl ([.ref h0])).length) Slot.unset).toArray = ls at hl ⊢
  have hl : lv_has ls 1 [(0, .ref h0)] := hl
  refine lv_aload_n hx hb dX2_init_0 rfl (lv_at hl 0 rfl) ?_
  refine W.objInit hx hb hown (hts _ qw94) (hts _ qw1) (hts _ qw_oi) rfl (by rw [hml]; exact hl.1) rfl dX2_init_1 (Nat.le_of_ble_eq_true rfl) (Nat.le_of_ble_eq_true rfl) ?_
  refine W.eq (g2 := F0 m 4 ls []) rfl ?_
  refine lv_aload_n hx hb dX2_init_4 rfl (lv_at hl 0 rfl) ?_
  refine lv_bipush (v := 64) hx hb dX2_init_5 (by decide) ?_
  refine va_newa (atype := .long) (ty := .long) hx hb (hts _ qw5) rfl hK hP hD hS hA (a0 := (64, .inr <| .inl (fun _ => 0))) (fun _ => rfl) (by decide) (by decide +kernel) (Nat.le_of_ble_eq_true rfl) (Nat.le_of_ble_eq_true rfl) (Nat.le_of_ble_eq_true rfl) dX2_init_7 (fun q1 c2 H hK hP hD hS => ?_)
  have hP : va_P (dC, dI) cls [(h0, .inr (9, [.int 0, .int 0, .int 0, .null, .null, .null, .null, .null, .int 0, .null, .null, .null, .null, .null, .null, .null, .null, .null, .null])), (q1, .inl (c2, 64, .inr (.inl (fun _ => 0))))] H := hP
  have hD : va_D A [(h0, .inr (9, [.int 0, .int 0, .int 0, .null, .null, .null, .null, .null, .int 0, .null, .null, .null, .null, .null, .null, .null, .null, .null, .null])), (q1, .inl (c2, 64, .inr (.inl (fun _ => 0))))] := hD
  have hK : va_K (dC, dI) cls [(c2, .long)] s := hK
  have hP : va_P (dC, dI) cls [(h0, .inr (9, [.int 0, .int 0, .int 0, .null, .null, .null, .null, .null, .int 0, .null, .null, .null, .null, .null, .null, .null, .null, .null, .null]))] H := hP.sub [0] rfl
  have hD : va_D A [(h0, .inr (9, [.int 0, .int 0, .int 0, .null, .null, .null, .null, .null, .int 0, .null, .null, .null, .null, .null, .null, .null, .null, .null, .null]))] := hD.sub [0] (by decide) rfl
  have hK : va_K (dC, dI) cls [] s := hK.sub [] rfl
  refine W.widen (k := 1) (n := 64) (Nat.le_of_ble_eq_true rfl) (Nat.le_of_ble_eq_true rfl) ?_
  refine va_put (D := (dC, dI)) (ci := 9) (v := .ref q1) (ty := .array .long) (C := RX2) (T := TX2) (N := 19) hx hb hts i_X2 tyX2 tyX2_ok nmX2 hown hK hP hD hS 0 rfl rfl 3 (by decide) (hts _ qw95) (fun _ h9 => h9) rfl (by decide +kernel) rfl rfl (Nat.le_of_ble_eq_true rfl) dX2_init_9 (fun H locs hP hD hS => ?_)
  have hP : va_P (dC, dI) cls [(h0, .inr (9, [.int 0, .int 0, .int 0, .ref q1, .null, .null, .null, .null, .int 0, .null, .null, .null, .null, .null, .null, .null, .null, .null, .null]))] H := hP
  have hD : va_D A [(h0, .inr (9, [.int 0, .int 0, .int 0, .ref q1, .null, .null, .null, .null, .int 0, .null, .null, .null, .null, .null, .null, .null, .null, .null, .null]))] := hD
  refine lv_aload_n hx hb dX2_init_12 rfl (lv_at hl 0 rfl) ?_
  refine lv_bipush (v := 64) hx hb dX2_init_13 (by decide) ?_
  refine va_newa (atype := .long) (ty := .long) hx hb (hts _ qw5) rfl hK hP hD hS hA (a0 := (64, .inr <| .inl (fun _ => 0))) (fun _ => rfl) (by decide) (by decide +kernel) (Nat.le_of_ble_eq_true rfl) (Nat.le_of_ble_eq_true rfl) (Nat.le_of_ble_eq_true rfl) dX2_init_15 (fun q3 c4 H hK hP hD hS => ?_)
  have hP : va_P (dC, dI) cls [(h0, .inr (9, [.int 0, .int 0, .int 0, .ref q1, .null, .null, .null, .null, .int 0, .null, .null, .null, .null, .null, .null, .null, .null, .null, .null])), (q3, .inl (c4, 64, .inr (.inl (fun _ => 0))))] H := hP
  have hD : va_D A [(h0, .inr (9, [.int 0, .int 0, .int 0, .ref q1, .null, .null, .null, .null, .int 0, .null, .null, .null, .null, .null, .null, .null, .null, .null, .null])), (q3, .inl (c4, 64, .inr (.inl (fun _ => 0))))] := hD
  have hK : va_K (dC, dI) cls [(c4, .long)] s := hK
  have hP : va_P (dC, dI) cls [(h0, .inr (9, [.int 0, .int 0, .int 0, .ref q1, .null, .null, .null, .null, .int 0, .null, .null, .null, .null, .null, .null, .null, .null, .null, .null]))] H := hP.sub [0] rfl
  have hD : va_D A [(h0, .inr (9, [.int 0, .int 0, .int 0, .ref q1, .null, .null, .null, .null, .int 0, .null, .null, .null, .null, .null, .null, .null, .null, .null, .null]))] := hD.sub [0] (by decide) rfl
  have hK : va_K (dC, dI) cls [] s := hK.sub [] rfl
  refine W.widen (k := 2) (n := 128) (Nat.le_of_ble_eq_true rfl) (Nat.le_of_ble_eq_true rfl) ?_
  refine va_put (D := (dC, dI)) (ci := 9) (v := .ref q3) (ty := .array .long) (C := RX2) (T := TX2) (N := 19) hx hb hts i_X2 tyX2 tyX2_ok nmX2 hown hK hP hD hS 0 rfl rfl 4 (by decide) (hts _ qw96) (fun _ h9 => h9) rfl (by decide +kernel) rfl rfl (Nat.le_of_ble_eq_true rfl) dX2_init_17 (fun H locs hP hD hS => ?_)
  have hP : va_P (dC, dI) cls [(h0, .inr (9, [.int 0, .int 0, .int 0, .ref q1, .ref q3, .null, .null, .null, .int 0, .null, .null, .null, .null, .null, .null, .null, .null, .null, .null]))] H := hP
  have hD : va_D A [(h0, .inr (9, [.int 0, .int 0, .int 0, .ref q1, .ref q3, .null, .null, .null, .int 0, .null, .null, .null, .null, .null, .null, .null, .null, .null, .null]))] := hD
  refine lv_aload_n hx hb dX2_init_20 rfl (lv_at hl 0 rfl) ?_
  refine lv_bipush (v := 64) hx hb dX2_init_21 (by decide) ?_
  refine va_newa (atype := .long) (ty := .long) hx hb (hts _ qw5) rfl hK hP hD hS hA (a0 := (64, .inr <| .inl (fun _ => 0))) (fun _ => rfl) (by decide) (by decide +kernel) (Nat.le_of_ble_eq_true rfl) (Nat.le_of_ble_eq_true rfl) (Nat.le_of_ble_eq_true rfl) dX2_init_23 (fun q5 c6 H hK hP hD hS => ?_)
  have hP : va_P (dC, dI) cls [(h0, .inr (9, [.int 0, .int 0, .int 0, .ref q1, .ref q3, .null, .null, .null, .int 0, .null, .null, .null, .null, .null, .null, .null, .null, .null, .null])), (q5, .inl (c6, 64, .inr (.inl (fun _ => 0))))] H := hP
  have hD : va_D A [(h0, .inr (9, [.int 0, .int 0, .int 0, .ref q1, .ref q3, .null, .null, .null, .int 0, .null, .null, .null, .null, .null, .null, .null, .null, .null, .null])), (q5, .inl (c6, 64, .inr (.inl (fun _ => 0))))] := hD
  have hK : va_K (dC, dI) cls [(c6, .long)] s := hK
  have hP : va_P (dC, dI) cls [(h0, .inr (9, [.int 0, .int 0, .int 0, .ref q1, .ref q3, .null, .null, .null, .int 0, .null, .null, .null, .null, .null, .null, .null, .null, .null, .null]))] H := hP.sub [0] rfl
  have hD : va_D A [(h0, .inr (9, [.int 0, .int 0, .int 0, .ref q1, .ref q3, .null, .null, .null, .int 0, .null, .null, .null, .null, .null, .null, .null, .null, .null, .null]))] := hD.sub [0] (by decide) rfl
  have hK : va_K (dC, dI) cls [] s := hK.sub [] rfl
  refine W.widen (k := 3) (n := 192) (Nat.le_of_ble_eq_true rfl) (Nat.le_of_ble_eq_true rfl) ?_
  refine va_put (D := (dC, dI)) (ci := 9) (v := .ref q5) (ty := .array .long) (C := RX2) (T := TX2) (N := 19) hx hb hts i_X2 tyX2 tyX2_ok nmX2 hown hK hP hD hS 0 rfl rfl 5 (by decide) (hts _ qw97) (fun _ h9 => h9) rfl (by decide +kernel) rfl rfl (Nat.le_of_ble_eq_true rfl) dX2_init_25 (fun H locs hP hD hS => ?_)
  have hP : va_P (dC, dI) cls [(h0, .inr (9, [.int 0, .int 0, .int 0, .ref q1, .ref q3, .ref q5, .null, .null, .int 0, .null, .null, .null, .null, .null, .null, .null, .null, .null, .null]))] H := hP
  have hD : va_D A [(h0, .inr (9, [.int 0, .int 0, .int 0, .ref q1, .ref q3, .ref q5, .null, .null, .int 0, .null, .null, .null, .null, .null, .null, .null, .null, .null, .null]))] := hD
  refine lv_aload_n hx hb dX2_init_28 rfl (lv_at hl 0 rfl) ?_
  refine lv_iconst (v := 1) hx hb dX2_init_29 (by decide) ?_
  refine va_newa (atype := .long) (ty := .long) hx hb (hts _ qw5) rfl hK hP hD hS hA (a0 := (1, .inr <| .inl (fun _ => 0))) (fun _ => rfl) (by decide) (by decide +kernel) (Nat.le_of_ble_eq_true rfl) (Nat.le_of_ble_eq_true rfl) (Nat.le_of_ble_eq_true rfl) dX2_init_30 (fun q7 c8 H hK hP hD hS => ?_)
  have hP : va_P (dC, dI) cls [(h0, .inr (9, [.int 0, .int 0, .int 0, .ref q1, .ref q3, .ref q5, .null, .null, .int 0, .null, .null, .null, .null, .null, .null, .null, .null, .null, .null])), (q7, .inl (c8, 1, .inr (.inl (fun _ => 0))))] H := hP
  have hD : va_D A [(h0, .inr (9, [.int 0, .int 0, .int 0, .ref q1, .ref q3, .ref q5, .null, .null, .int 0, .null, .null, .null, .null, .null, .null, .null, .null, .null, .null])), (q7, .inl (c8, 1, .inr (.inl (fun _ => 0))))] := hD
  have hK : va_K (dC, dI) cls [(c8, .long)] s := hK
  have hP : va_P (dC, dI) cls [(h0, .inr (9, [.int 0, .int 0, .int 0, .ref q1, .ref q3, .ref q5, .null, .null, .int 0, .null, .null, .null, .null, .null, .null, .null, .null, .null, .null]))] H := hP.sub [0] rfl
  have hD : va_D A [(h0, .inr (9, [.int 0, .int 0, .int 0, .ref q1, .ref q3, .ref q5, .null, .null, .int 0, .null, .null, .null, .null, .null, .null, .null, .null, .null, .null]))] := hD.sub [0] (by decide) rfl
  have hK : va_K (dC, dI) cls [] s := hK.sub [] rfl
  refine W.widen (k := 4) (n := 193) (Nat.le_of_ble_eq_true rfl) (Nat.le_of_ble_eq_true rfl) ?_
  refine va_put (D := (dC, dI)) (ci := 9) (v := .ref q7) (ty := .array .long) (C := RX2) (T := TX2) (N := 19) hx hb hts i_X2 tyX2 tyX2_ok nmX2 hown hK hP hD hS 0 rfl rfl 6 (by decide) (hts _ qw98) (fun _ h9 => h9) rfl (by decide +kernel) rfl rfl (Nat.le_of_ble_eq_true rfl) dX2_init_32 (fun H locs hP hD hS => ?_)
  have hP : va_P (dC, dI) cls [(h0, .inr (9, [.int 0, .int 0, .int 0, .ref q1, .ref q3, .ref q5, .ref q7, .null, .int 0, .null, .null, .null, .null, .null, .null, .null, .null, .null, .null]))] H := hP
  have hD : va_D A [(h0, .inr (9, [.int 0, .int 0, .int 0, .ref q1, .ref q3, .ref q5, .ref q7, .null, .int 0, .null, .null, .null, .null, .null, .null, .null, .null, .null, .null]))] := hD
  refine lv_aload_n hx hb dX2_init_35 rfl (lv_at hl 0 rfl) ?_
  refine lv_iconst (v := 2) hx hb dX2_init_36 (by decide) ?_
  refine va_newa (atype := .int) (ty := .int) hx hb (hts _ qw2) rfl hK hP hD hS hA (a0 := (2, .inl (fun _ => 0))) (fun _ => rfl) (by decide) (by decide +kernel) (Nat.le_of_ble_eq_true rfl) (Nat.le_of_ble_eq_true rfl) (Nat.le_of_ble_eq_true rfl) dX2_init_37 (fun q9 c10 H hK hP hD hS => ?_)
  have hP : va_P (dC, dI) cls [(h0, .inr (9, [.int 0, .int 0, .int 0, .ref q1, .ref q3, .ref q5, .ref q7, .null, .int 0, .null, .null, .null, .null, .null, .null, .null, .null, .null, .null])), (q9, .inl (c10, 2, .inl (fun _ => 0)))] H := hP
  have hD : va_D A [(h0, .inr (9, [.int 0, .int 0, .int 0, .ref q1, .ref q3, .ref q5, .ref q7, .null, .int 0, .null, .null, .null, .null, .null, .null, .null, .null, .null, .null])), (q9, .inl (c10, 2, .inl (fun _ => 0)))] := hD
  have hK : va_K (dC, dI) cls [(c10, .int)] s := hK
  have hP : va_P (dC, dI) cls [(h0, .inr (9, [.int 0, .int 0, .int 0, .ref q1, .ref q3, .ref q5, .ref q7, .null, .int 0, .null, .null, .null, .null, .null, .null, .null, .null, .null, .null]))] H := hP.sub [0] rfl
  have hD : va_D A [(h0, .inr (9, [.int 0, .int 0, .int 0, .ref q1, .ref q3, .ref q5, .ref q7, .null, .int 0, .null, .null, .null, .null, .null, .null, .null, .null, .null, .null]))] := hD.sub [0] (by decide) rfl
  have hK : va_K (dC, dI) cls [] s := hK.sub [] rfl
  refine W.widen (k := 5) (n := 195) (Nat.le_of_ble_eq_true rfl) (Nat.le_of_ble_eq_true rfl) ?_
  refine va_putF (D := (dC, dI)) (ci := 9) (v := .ref q9) (ty := .array .int) (C := RX2) (T := TX2) (N := 19) hx hb hts i_X2 tyX2 tyX2_ok nmX2 hown hK hP hD hS 0 rfl rfl 7 (by decide) (hts _ qw99) (fun _ h9 => h9) rfl hin rfl (by decide +kernel) rfl rfl (Nat.le_of_ble_eq_true rfl) dX2_init_39 (fun H locs hP hD hS => ?_)
  have hP : va_P (dC, dI) cls [(h0, .inr (9, [.int 0, .int 0, .int 0, .ref q1, .ref q3, .ref q5, .ref q7, .ref q9, .int 0, .null, .null, .null, .null, .null, .null, .null, .null, .null, .null]))] H := hP
  have hD : va_D A [(h0, .inr (9, [.int 0, .int 0, .int 0, .ref q1, .ref q3, .ref q5, .ref q7, .ref q9, .int 0, .null, .null, .null, .null, .null, .null, .null, .null, .null, .null]))] := hD
  refine lv_aload_n hx hb dX2_init_42 rfl (lv_at hl 0 rfl) ?_
  refine lv_bipush (v := 64) hx hb dX2_init_43 (by decide) ?_
  refine va_newa (atype := .int) (ty := .int) hx hb (hts _ qw2) rfl hK hP hD hS hA (a0 := (64, .inl (fun _ => 0))) (fun _ => rfl) (by decide) (by decide +kernel) (Nat.le_of_ble_eq_true rfl) (Nat.le_of_ble_eq_true rfl) (Nat.le_of_ble_eq_true rfl) dX2_init_45 (fun q11 c12 H hK hP hD hS => ?_)
  have hP : va_P (dC, dI) cls [(h0, .inr (9, [.int 0, .int 0, .int 0, .ref q1, .ref q3, .ref q5, .ref q7, .ref q9, .int 0, .null, .null, .null, .null, .null, .null, .null, .null, .null, .null])), (q11, .inl (c12, 64, .inl (fun _ => 0)))] H := hP
  have hD : va_D A [(h0, .inr (9, [.int 0, .int 0, .int 0, .ref q1, .ref q3, .ref q5, .ref q7, .ref q9, .int 0, .null, .null, .null, .null, .null, .null, .null, .null, .null, .null])), (q11, .inl (c12, 64, .inl (fun _ => 0)))] := hD
  have hK : va_K (dC, dI) cls [(c12, .int)] s := hK
  have hP : va_P (dC, dI) cls [(h0, .inr (9, [.int 0, .int 0, .int 0, .ref q1, .ref q3, .ref q5, .ref q7, .ref q9, .int 0, .null, .null, .null, .null, .null, .null, .null, .null, .null, .null]))] H := hP.sub [0] rfl
  have hD : va_D A [(h0, .inr (9, [.int 0, .int 0, .int 0, .ref q1, .ref q3, .ref q5, .ref q7, .ref q9, .int 0, .null, .null, .null, .null, .null, .null, .null, .null, .null, .null]))] := hD.sub [0] (by decide) rfl
  have hK : va_K (dC, dI) cls [] s := hK.sub [] rfl
  refine W.widen (k := 6) (n := 259) (Nat.le_of_ble_eq_true rfl) (Nat.le_of_ble_eq_true rfl) ?_
  refine va_put (D := (dC, dI)) (ci := 9) (v := .ref q11) (ty := .array .int) (C := RX2) (T := TX2) (N := 19) hx hb hts i_X2 tyX2 tyX2_ok nmX2 hown hK hP hD hS 0 rfl rfl 9 (by decide) (hts _ qw100) (fun _ h9 => h9) rfl (by decide +kernel) rfl rfl (Nat.le_of_ble_eq_true rfl) dX2_init_47 (fun H locs hP hD hS => ?_)
  have hP : va_P (dC, dI) cls [(h0, .inr (9, [.int 0, .int 0, .int 0, .ref q1, .ref q3, .ref q5, .ref q7, .ref q9, .int 0, .ref q11, .null, .null, .null, .null, .null, .null, .null, .null, .null]))] H := hP
  have hD : va_D A [(h0, .inr (9, [.int 0, .int 0, .int 0, .ref q1, .ref q3, .ref q5, .ref q7, .ref q9, .int 0, .ref q11, .null, .null, .null, .null, .null, .null, .null, .null, .null]))] := hD
  refine lv_aload_n hx hb dX2_init_50 rfl (lv_at hl 0 rfl) ?_
  refine lv_bipush (v := 64) hx hb dX2_init_51 (by decide) ?_
  refine va_newa (atype := .long) (ty := .long) hx hb (hts _ qw5) rfl hK hP hD hS hA (a0 := (64, .inr <| .inl (fun _ => 0))) (fun _ => rfl) (by decide) (by decide +kernel) (Nat.le_of_ble_eq_true rfl) (Nat.le_of_ble_eq_true rfl) (Nat.le_of_ble_eq_true rfl) dX2_init_53 (fun q13 c14 H hK hP hD hS => ?_)
  have hP : va_P (dC, dI) cls [(h0, .inr (9, [.int 0, .int 0, .int 0, .ref q1, .ref q3, .ref q5, .ref q7, .ref q9, .int 0, .ref q11, .null, .null, .null, .null, .null, .null, .null, .null, .null])), (q13, .inl (c14, 64, .inr (.inl (fun _ => 0))))] H := hP
  have hD : va_D A [(h0, .inr (9, [.int 0, .int 0, .int 0, .ref q1, .ref q3, .ref q5, .ref q7, .ref q9, .int 0, .ref q11, .null, .null, .null, .null, .null, .null, .null, .null, .null])), (q13, .inl (c14, 64, .inr (.inl (fun _ => 0))))] := hD
  have hK : va_K (dC, dI) cls [(c14, .long)] s := hK
  have hP : va_P (dC, dI) cls [(h0, .inr (9, [.int 0, .int 0, .int 0, .ref q1, .ref q3, .ref q5, .ref q7, .ref q9, .int 0, .ref q11, .null, .null, .null, .null, .null, .null, .null, .null, .null]))] H := hP.sub [0] rfl
  have hD : va_D A [(h0, .inr (9, [.int 0, .int 0, .int 0, .ref q1, .ref q3, .ref q5, .ref q7, .ref q9, .int 0, .ref q11, .null, .null, .null, .null, .null, .null, .null, .null, .null]))] := hD.sub [0] (by decide) rfl
  have hK : va_K (dC, dI) cls [] s := hK.sub [] rfl
  refine W.widen (k := 7) (n := 323) (Nat.le_of_ble_eq_true rfl) (Nat.le_of_ble_eq_true rfl) ?_
  refine va_put (D := (dC, dI)) (ci := 9) (v := .ref q13) (ty := .array .long) (C := RX2) (T := TX2) (N := 19) hx hb hts i_X2 tyX2 tyX2_ok nmX2 hown hK hP hD hS 0 rfl rfl 10 (by decide) (hts _ qw101) (fun _ h9 => h9) rfl (by decide +kernel) rfl rfl (Nat.le_of_ble_eq_true rfl) dX2_init_55 (fun H locs hP hD hS => ?_)
  have hP : va_P (dC, dI) cls [(h0, .inr (9, [.int 0, .int 0, .int 0, .ref q1, .ref q3, .ref q5, .ref q7, .ref q9, .int 0, .ref q11, .ref q13, .null, .null, .null, .null, .null, .null, .null, .null]))] H := hP
  have hD : va_D A [(h0, .inr (9, [.int 0, .int 0, .int 0, .ref q1, .ref q3, .ref q5, .ref q7, .ref q9, .int 0, .ref q11, .ref q13, .null, .null, .null, .null, .null, .null, .null, .null]))] := hD
  refine lv_aload_n hx hb dX2_init_58 rfl (lv_at hl 0 rfl) ?_
  refine lv_bipush (v := 64) hx hb dX2_init_59 (by decide) ?_
  refine va_newa (atype := .int) (ty := .int) hx hb (hts _ qw2) rfl hK hP hD hS hA (a0 := (64, .inl (fun _ => 0))) (fun _ => rfl) (by decide) (by decide +kernel) (Nat.le_of_ble_eq_true rfl) (Nat.le_of_ble_eq_true rfl) (Nat.le_of_ble_eq_true rfl) dX2_init_61 (fun q15 c16 H hK hP hD hS => ?_)
  have hP : va_P (dC, dI) cls [(h0, .inr (9, [.int 0, .int 0, .int 0, .ref q1, .ref q3, .ref q5, .ref q7, .ref q9, .int 0, .ref q11, .ref q13, .null, .null, .null, .null, .null, .null, .null, .null])), (q15, .inl (c16, 64, .inl (fun _ => 0)))] H := hP
  have hD : va_D A [(h0, .inr (9, [.int 0, .int 0, .int 0, .ref q1, .ref q3, .ref q5, .ref q7, .ref q9, .int 0, .ref q11, .ref q13, .null, .null, .null, .null, .null, .null, .null, .null])), (q15, .inl (c16, 64, .inl (fun _ => 0)))] := hD
  have hK : va_K (dC, dI) cls [(c16, .int)] s := hK
  have hP : va_P (dC, dI) cls [(h0, .inr (9, [.int 0, .int 0, .int 0, .ref q1, .ref q3, .ref q5, .ref q7, .ref q9, .int 0, .ref q11, .ref q13, .null, .null, .null, .null, .null, .null, .null, .null]))] H := hP.sub [0] rfl
  have hD : va_D A [(h0, .inr (9, [.int 0, .int 0, .int 0, .ref q1, .ref q3, .ref q5, .ref q7, .ref q9, .int 0, .ref q11, .ref q13, .null, .null, .null, .null, .null, .null, .null, .null]))] := hD.sub [0] (by decide) rfl
  have hK : va_K (dC, dI) cls [] s := hK.sub [] rfl
  refine W.widen (k := 8) (n := 387) (Nat.le_of_ble_eq_true rfl) (Nat.le_of_ble_eq_true rfl) ?_
  refine va_put (D := (dC, dI)) (ci := 9) (v := .ref q15) (ty := .array .int) (C := RX2) (T := TX2) (N := 19) hx hb hts i_X2 tyX2 tyX2_ok nmX2 hown hK hP hD hS 0 rfl rfl 11 (by decide) (hts _ qw102) (fun _ h9 => h9) rfl (by decide +kernel) rfl rfl (Nat.le_of_ble_eq_true rfl) dX2_init_63 (fun H locs hP hD hS => ?_)
  have hP : va_P (dC, dI) cls [(h0, .inr (9, [.int 0, .int 0, .int 0, .ref q1, .ref q3, .ref q5, .ref q7, .ref q9, .int 0, .ref q11, .ref q13, .ref q15, .null, .null, .null, .null, .null, .null, .null]))] H := hP
  have hD : va_D A [(h0, .inr (9, [.int 0, .int 0, .int 0, .ref q1, .ref q3, .ref q5, .ref q7, .ref q9, .int 0, .ref q11, .ref q13, .ref q15, .null, .null, .null, .null, .null, .null, .null]))] := hD
  refine lv_aload_n hx hb dX2_init_66 rfl (lv_at hl 0 rfl) ?_
  refine lv_bipush (v := 64) hx hb dX2_init_67 (by decide) ?_
  refine va_newa (atype := .int) (ty := .int) hx hb (hts _ qw2) rfl hK hP hD hS hA (a0 := (64, .inl (fun _ => 0))) (fun _ => rfl) (by decide) (by decide +kernel) (Nat.le_of_ble_eq_true rfl) (Nat.le_of_ble_eq_true rfl) (Nat.le_of_ble_eq_true rfl) dX2_init_69 (fun q17 c18 H hK hP hD hS => ?_)
  have hP : va_P (dC, dI) cls [(h0, .inr (9, [.int 0, .int 0, .int 0, .ref q1, .ref q3, .ref q5, .ref q7, .ref q9, .int 0, .ref q11, .ref q13, .ref q15, .null, .null, .null, .null, .null, .null, .null])), (q17, .inl (c18, 64, .inl (fun _ => 0)))] H := hP
  have hD : va_D A [(h0, .inr (9, [.int 0, .int 0, .int 0, .ref q1, .ref q3, .ref q5, .ref q7, .ref q9, .int 0, .ref q11, .ref q13, .ref q15, .null, .null, .null, .null, .null, .null, .null])), (q17, .inl (c18, 64, .inl (fun _ => 0)))] := hD
  have hK : va_K (dC, dI) cls [(c18, .int)] s := hK
  have hP : va_P (dC, dI) cls [(h0, .inr (9, [.int 0, .int 0, .int 0, .ref q1, .ref q3, .ref q5, .ref q7, .ref q9, .int 0, .ref q11, .ref q13, .ref q15, .null, .null, .null, .null, .null, .null, .null]))] H := hP.sub [0] rfl
  have hD : va_D A [(h0, .inr (9, [.int 0, .int 0, .int 0, .ref q1, .ref q3, .ref q5, .ref q7, .ref q9, .int 0, .ref q11, .ref q13, .ref q15, .null, .null, .null, .null, .null, .null, .null]))] := hD.sub [0] (by decide) rfl
  have hK : va_K (dC, dI) cls [] s := hK.sub [] rfl
  refine W.widen (k := 9) (n := 451) (Nat.le_of_ble_eq_true rfl) (Nat.le_of_ble_eq_true rfl) ?_
  refine va_put (D := (dC, dI)) (ci := 9) (v := .ref q17) (ty := .array .int) (C := RX2) (T := TX2) (N := 19) hx hb hts i_X2 tyX2 tyX2_ok nmX2 hown hK hP hD hS 0 rfl rfl 12 (by decide) (hts _ qw103) (fun _ h9 => h9) rfl (by decide +kernel) rfl rfl (Nat.le_of_ble_eq_true rfl) dX2_init_71 (fun H locs hP hD hS => ?_)
  have hP : va_P (dC, dI) cls [(h0, .inr (9, [.int 0, .int 0, .int 0, .ref q1, .ref q3, .ref q5, .ref q7, .ref q9, .int 0, .ref q11, .ref q13, .ref q15, .ref q17, .null, .null, .null, .null, .null, .null]))] H := hP
  have hD : va_D A [(h0, .inr (9, [.int 0, .int 0, .int 0, .ref q1, .ref q3, .ref q5, .ref q7, .ref q9, .int 0, .ref q11, .ref q13, .ref q15, .ref q17, .null, .null, .null, .null, .null, .null]))] := hD
  refine lv_aload_n hx hb dX2_init_74 rfl (lv_at hl 0 rfl) ?_
  refine lv_bipush (v := 64) hx hb dX2_init_75 (by decide) ?_
  refine va_newa (atype := .long) (ty := .long) hx hb (hts _ qw5) rfl hK hP hD hS hA (a0 := (64, .inr <| .inl (fun _ => 0))) (fun _ => rfl) (by decide) (by decide +kernel) (Nat.le_of_ble_eq_true rfl) (Nat.le_of_ble_eq_true rfl) (Nat.le_of_ble_eq_true rfl) dX2_init_77 (fun q19 c20 H hK hP hD hS => ?_)
  have hP : va_P (dC, dI) cls [(h0, .inr (9, [.int 0, .int 0, .int 0, .ref q1, .ref q3, .ref q5, .ref q7, .ref q9, .int 0, .ref q11, .ref q13, .ref q15, .ref q17, .null, .null, .null, .null, .null, .null])), (q19, .inl (c20, 64, .inr (.inl (fun _ => 0))))] H := hP
  have hD : va_D A [(h0, .inr (9, [.int 0, .int 0, .int 0, .ref q1, .ref q3, .ref q5, .ref q7, .ref q9, .int 0, .ref q11, .ref q13, .ref q15, .ref q17, .null, .null, .null, .null, .null, .null])), (q19, .inl (c20, 64, .inr (.inl (fun _ => 0))))] := hD
  have hK : va_K (dC, dI) cls [(c20, .long)] s := hK
  have hP : va_P (dC, dI) cls [(h0, .inr (9, [.int 0, .int 0, .int 0, .ref q1, .ref q3, .ref q5, .ref q7, .ref q9, .int 0, .ref q11, .ref q13, .ref q15, .ref q17, .null, .null, .null, .null, .null, .null]))] H := hP.sub [0] rfl
  have hD : va_D A [(h0, .inr (9, [.int 0, .int 0, .int 0, .ref q1, .ref q3, .ref q5, .ref q7, .ref q9, .int 0, .ref q11, .ref q13, .ref q15, .ref q17, .null, .null, .null, .null, .null, .null]))] := hD.sub [0] (by decide) rfl
  have hK : va_K (dC, dI) cls [] s := hK.sub [] rfl
  refine W.widen (k := 10) (n := 515) (Nat.le_of_ble_eq_true rfl) (Nat.le_of_ble_eq_true rfl) ?_
  refine va_put (D := (dC, dI)) (ci := 9) (v := .ref q19) (ty := .array .long) (C := RX2) (T := TX2) (N := 19) hx hb hts i_X2 tyX2 tyX2_ok nmX2 hown hK hP hD hS 0 rfl rfl 13 (by decide) (hts _ qw104) (fun _ h9 => h9) rfl (by decide +kernel) rfl rfl (Nat.le_of_ble_eq_true rfl) dX2_init_79 (fun H locs hP hD hS => ?_)
  have hP : va_P (dC, dI) cls [(h0, .inr (9, [.int 0, .int 0, .int 0, .ref q1, .ref q3, .ref q5, .ref q7, .ref q9, .int 0, .ref q11, .ref q13, .ref q15, .ref q17, .ref q19, .null, .null, .null, .null, .null]))] H := hP
  have hD : va_D A [(h0, .inr (9, [.int 0, .int 0, .int 0, .ref q1, .ref q3, .ref q5, .ref q7, .ref q9, .int 0, .ref q11, .ref q13, .ref q15, .ref q17, .ref q19, .null, .null, .null, .null, .null]))] := hD
  refine lv_aload_n hx hb dX2_init_82 rfl (lv_at hl 0 rfl) ?_
  refine lv_bipush (v := 64) hx hb dX2_init_83 (by decide) ?_
  refine va_newa (atype := .int) (ty := .int) hx hb (hts _ qw2) rfl hK hP hD hS hA (a0 := (64, .inl (fun _ => 0))) (fun _ => rfl) (by decide) (by decide +kernel) (Nat.le_of_ble_eq_true rfl) (Nat.le_of_ble_eq_true rfl) (Nat.le_of_ble_eq_true rfl) dX2_init_85 (fun q21 c22 H hK hP hD hS => ?_)
  have hP : va_P (dC, dI) cls [(h0, .inr (9, [.int 0, .int 0, .int 0, .ref q1, .ref q3, .ref q5, .ref q7, .ref q9, .int 0, .ref q11, .ref q13, .ref q15, .ref q17, .ref q19, .null, .null, .null, .null, .null])), (q21, .inl (c22, 64, .inl (fun _ => 0)))] H := hP
  have hD : va_D A [(h0, .inr (9, [.int 0, .int 0, .int 0, .ref q1, .ref q3, .ref q5, .ref q7, .ref q9, .int 0, .ref q11, .ref q13, .ref q15, .ref q17, .ref q19, .null, .null, .null, .null, .null])), (q21, .inl (c22, 64, .inl (fun _ => 0)))] := hD
  have hK : va_K (dC, dI) cls [(c22, .int)] s := hK
  have hP : va_P (dC, dI) cls [(h0, .inr (9, [.int 0, .int 0, .int 0, .ref q1, .ref q3, .ref q5, .ref q7, .ref q9, .int 0, .ref q11, .ref q13, .ref q15, .ref q17, .ref q19, .null, .null, .null, .null, .null]))] H := hP.sub [0] rfl
  have hD : va_D A [(h0, .inr (9, [.int 0, .int 0, .int 0, .ref q1, .ref q3, .ref q5, .ref q7, .ref q9, .int 0, .ref q11, .ref q13, .ref q15, .ref q17, .ref q19, .null, .null, .null, .null, .null]))] := hD.sub [0] (by decide) rfl
  have hK : va_K (dC, dI) cls [] s := hK.sub [] rfl
  refine W.widen (k := 11) (n := 579) (Nat.le_of_ble_eq_true rfl) (Nat.le_of_ble_eq_true rfl) ?_
  refine va_put (D := (dC, dI)) (ci := 9) (v := .ref q21) (ty := .array .int) (C := RX2) (T := TX2) (N := 19) hx hb hts i_X2 tyX2 tyX2_ok nmX2 hown hK hP hD hS 0 rfl rfl 14 (by decide) (hts _ qw105) (fun _ h9 => h9) rfl (by decide +kernel) rfl rfl (Nat.le_of_ble_eq_true rfl) dX2_init_87 (fun H locs hP hD hS => ?_)
  have hP : va_P (dC, dI) cls [(h0, .inr (9, [.int 0, .int 0, .int 0, .ref q1, .ref q3, .ref q5, .ref q7, .ref q9, .int 0, .ref q11, .ref q13, .ref q15, .ref q17, .ref q19, .ref q21, .null, .null, .null, .null]))] H := hP
  have hD : va_D A [(h0, .inr (9, [.int 0, .int 0, .int 0, .ref q1, .ref q3, .ref q5, .ref q7, .ref q9, .int 0, .ref q11, .ref q13, .ref q15, .ref q17, .ref q19, .ref q21, .null, .null, .null, .null]))] := hD
  refine lv_aload_n hx hb dX2_init_90 rfl (lv_at hl 0 rfl) ?_
  refine lv_bipush (v := 64) hx hb dX2_init_91 (by decide) ?_
  refine va_newa (atype := .int) (ty := .int) hx hb (hts _ qw2) rfl hK hP hD hS hA (a0 := (64, .inl (fun _ => 0))) (fun _ => rfl) (by decide) (by decide +kernel) (Nat.le_of_ble_eq_true rfl) (Nat.le_of_ble_eq_true rfl) (Nat.le_of_ble_eq_true rfl) dX2_init_93 (fun q23 c24 H hK hP hD hS => ?_)
  have hP : va_P (dC, dI) cls [(h0, .inr (9, [.int 0, .int 0, .int 0, .ref q1, .ref q3, .ref q5, .ref q7, .ref q9, .int 0, .ref q11, .ref q13, .ref q15, .ref q17, .ref q19, .ref q21, .null, .null, .null, .null])), (q23, .inl (c24, 64, .inl (fun _ => 0)))] H := hP
  have hD : va_D A [(h0, .inr (9, [.int 0, .int 0, .int 0, .ref q1, .ref q3, .ref q5, .ref q7, .ref q9, .int 0, .ref q11, .ref q13, .ref q15, .ref q17, .ref q19, .ref q21, .null, .null, .null, .null])), (q23, .inl (c24, 64, .inl (fun _ => 0)))] := hD
  have hK : va_K (dC, dI) cls [(c24, .int)] s := hK
  have hP : va_P (dC, dI) cls [(h0, .inr (9, [.int 0, .int 0, .int 0, .ref q1, .ref q3, .ref q5, .ref q7, .ref q9, .int 0, .ref q11, .ref q13, .ref q15, .ref q17, .ref q19, .ref q21, .null, .null, .null, .null]))] H := hP.sub [0] rfl
  have hD : va_D A [(h0, .inr (9, [.int 0, .int 0, .int 0, .ref q1, .ref q3, .ref q5, .ref q7, .ref q9, .int 0, .ref q11, .ref q13, .ref q15, .ref q17, .ref q19, .ref q21, .null, .null, .null, .null]))] := hD.sub [0] (by decide) rfl
  have hK : va_K (dC, dI) cls [] s := hK.sub [] rfl
  refine W.widen (k := 12) (n := 643) (Nat.le_of_ble_eq_true rfl) (Nat.le_of_ble_eq_true rfl) ?_
  refine va_put (D := (dC, dI)) (ci := 9) (v := .ref q23) (ty := .array .int) (C := RX2) (T := TX2) (N := 19) hx hb hts i_X2 tyX2 tyX2_ok nmX2 hown hK hP hD hS 0 rfl rfl 15 (by decide) (hts _ qw106) (fun _ h9 => h9) rfl (by decide +kernel) rfl rfl (Nat.le_of_ble_eq_true rfl) dX2_init_95 (fun H locs hP hD hS => ?_)
  have hP : va_P (dC, dI) cls [(h0, .inr (9, [.int 0, .int 0, .int 0, .ref q1, .ref q3, .ref q5, .ref q7, .ref q9, .int 0, .ref q11, .ref q13, .ref q15, .ref q17, .ref q19, .ref q21, .ref q23, .null, .null, .null]))] H := hP
  have hD : va_D A [(h0, .inr (9, [.int 0, .int 0, .int 0, .ref q1, .ref q3, .ref q5, .ref q7, .ref q9, .int 0, .ref q11, .ref q13, .ref q15, .ref q17, .ref q19, .ref q21, .ref q23, .null, .null, .null]))] := hD
  refine lv_aload_n hx hb dX2_init_98 rfl (lv_at hl 0 rfl) ?_
  refine lv_bipush (v := 64) hx hb dX2_init_99 (by decide) ?_
  refine va_newa (atype := .int) (ty := .int) hx hb (hts _ qw2) rfl hK hP hD hS hA (a0 := (64, .inl (fun _ => 0))) (fun _ => rfl) (by decide) (by decide +kernel) (Nat.le_of_ble_eq_true rfl) (Nat.le_of_ble_eq_true rfl) (Nat.le_of_ble_eq_true rfl) dX2_init_101 (fun q25 c26 H hK hP hD hS => ?_)
  have hP : va_P (dC, dI) cls [(h0, .inr (9, [.int 0, .int 0, .int 0, .ref q1, .ref q3, .ref q5, .ref q7, .ref q9, .int 0, .ref q11, .ref q13, .ref q15, .ref q17, .ref q19, .ref q21, .ref q23, .null, .null, .null])), (q25, .inl (c26, 64, .inl (fun _ => 0)))] H := hP
  have hD : va_D A [(h0, .inr (9, [.int 0, .int 0, .int 0, .ref q1, .ref q3, .ref q5, .ref q7, .ref q9, .int 0, .ref q11, .ref q13, .ref q15, .ref q17, .ref q19, .ref q21, .ref q23, .null, .null, .null])), (q25, .inl (c26, 64, .inl (fun _ => 0)))] := hD
  have hK : va_K (dC, dI) cls [(c26, .int)] s := hK
  have hP : va_P (dC, dI) cls [(h0, .inr (9, [.int 0, .int 0, .int 0, .ref q1, .ref q3, .ref q5, .ref q7, .ref q9, .int 0, .ref q11, .ref q13, .ref q15, .ref q17, .ref q19, .ref q21, .ref q23, .null, .null, .null]))] H := hP.sub [0] rfl
  have hD : va_D A [(h0, .inr (9, [.int 0, .int 0, .int 0, .ref q1, .ref q3, .ref q5, .ref q7, .ref q9, .int 0, .ref q11, .ref q13, .ref q15, .ref q17, .ref q19, .ref q21, .ref q23, .null, .null, .null]))] := hD.sub [0] (by decide) rfl
  have hK : va_K (dC, dI) cls [] s := hK.sub [] rfl
  refine W.widen (k := 13) (n := 707) (Nat.le_of_ble_eq_true rfl) (Nat.le_of_ble_eq_true rfl) ?_
  refine va_put (D := (dC, dI)) (ci := 9) (v := .ref q25) (ty := .array .int) (C := RX2) (T := TX2) (N := 19) hx hb hts i_X2 tyX2 tyX2_ok nmX2 hown hK hP hD hS 0 rfl rfl 16 (by decide) (hts _ qw107) (fun _ h9 => h9) rfl (by decide +kernel) rfl rfl (Nat.le_of_ble_eq_true rfl) dX2_init_103 (fun H locs hP hD hS => ?_)
  have hP : va_P (dC, dI) cls [(h0, .inr (9, [.int 0, .int 0, .int 0, .ref q1, .ref q3, .ref q5, .ref q7, .ref q9, .int 0, .ref q11, .ref q13, .ref q15, .ref q17, .ref q19, .ref q21, .ref q23, .ref q25, .null, .null]))] H := hP
  have hD : va_D A [(h0, .inr (9, [.int 0, .int 0, .int 0, .ref q1, .ref q3, .ref q5, .ref q7, .ref q9, .int 0, .ref q11, .ref q13, .ref q15, .ref q17, .ref q19, .ref q21, .ref q23, .ref q25, .null, .null]))] := hD
  refine lv_aload_n hx hb dX2_init_106 rfl (lv_at hl 0 rfl) ?_
  refine lv_bipush (v := 64) hx hb dX2_init_107 (by decide) ?_
  refine va_newa (atype := .int) (ty := .int) hx hb (hts _ qw2) rfl hK hP hD hS hA (a0 := (64, .inl (fun _ => 0))) (fun _ => rfl) (by decide) (by decide +kernel) (Nat.le_of_ble_eq_true rfl) (Nat.le_of_ble_eq_true rfl) (Nat.le_of_ble_eq_true rfl) dX2_init_109 (fun q27 c28 H hK hP hD hS => ?_)
  have hP : va_P (dC, dI) cls [(h0, .inr (9, [.int 0, .int 0, .int 0, .ref q1, .ref q3, .ref q5, .ref q7, .ref q9, .int 0, .ref q11, .ref q13, .ref q15, .ref q17, .ref q19, .ref q21, .ref q23, .ref q25, .null, .null])), (q27, .inl (c28, 64, .inl (fun _ => 0)))] H := hP
  have hD : va_D A [(h0, .inr (9, [.int 0, .int 0, .int 0, .ref q1, .ref q3, .ref q5, .ref q7, .ref q9, .int 0, .ref q11, .ref q13, .ref q15, .ref q17, .ref q19, .ref q21, .ref q23, .ref q25, .null, .null])), (q27, .inl (c28, 64, .inl (fun _ => 0)))] := hD
  have hK : va_K (dC, dI) cls [(c28, .int)] s := hK
  have hP : va_P (dC, dI) cls [(h0, .inr (9, [.int 0, .int 0, .int 0, .ref q1, .ref q3, .ref q5, .ref q7, .ref q9, .int 0, .ref q11, .ref q13, .ref q15, .ref q17, .ref q19, .ref q21, .ref q23, .ref q25, .null, .null]))] H := hP.sub [0] rfl
  have hD : va_D A [(h0, .inr (9, [.int 0, .int 0, .int 0, .ref q1, .ref q3, .ref q5, .ref q7, .ref q9, .int 0, .ref q11, .ref q13, .ref q15, .ref q17, .ref q19, .ref q21, .ref q23, .ref q25, .null, .null]))] := hD.sub [0] (by decide) rfl
  have hK : va_K (dC, dI) cls [] s := hK.sub [] rfl
  refine W.widen (k := 14) (n := 771) (Nat.le_of_ble_eq_true rfl) (Nat.le_of_ble_eq_true rfl) ?_
  refine va_put (D := (dC, dI)) (ci := 9) (v := .ref q27) (ty := .array .int) (C := RX2) (T := TX2) (N := 19) hx hb hts i_X2 tyX2 tyX2_ok nmX2 hown hK hP hD hS 0 rfl rfl 17 (by decide) (hts _ qw108) (fun _ h9 => h9) rfl (by decide +kernel) rfl rfl (Nat.le_of_ble_eq_true rfl) dX2_init_111 (fun H locs hP hD hS => ?_)
  have hP : va_P (dC, dI) cls [(h0, .inr (9, [.int 0, .int 0, .int 0, .ref q1, .ref q3, .ref q5, .ref q7, .ref q9, .int 0, .ref q11, .ref q13, .ref q15, .ref q17, .ref q19, .ref q21, .ref q23, .ref q25, .ref q27, .null]))] H := hP
  have hD : va_D A [(h0, .inr (9, [.int 0, .int 0, .int 0, .ref q1, .ref q3, .ref q5, .ref q7, .ref q9, .int 0, .ref q11, .ref q13, .ref q15, .ref q17, .ref q19, .ref q21, .ref q23, .ref q25, .ref q27, .null]))] := hD
  refine lv_aload_n hx hb dX2_init_114 rfl (lv_at hl 0 rfl) ?_
  refine lv_bipush (v := 64) hx hb dX2_init_115 (by decide) ?_
  refine va_newa (atype := .int) (ty := .int) hx hb (hts _ qw2) rfl hK hP hD hS hA (a0 := (64, .inl (fun _ => 0))) (fun _ => rfl) (by decide) (by decide +kernel) (Nat.le_of_ble_eq_true rfl) (Nat.le_of_ble_eq_true rfl) (Nat.le_of_ble_eq_true rfl) dX2_init_117 (fun q29 c30 H hK hP hD hS => ?_)
  have hP : va_P (dC, dI) cls [(h0, .inr (9, [.int 0, .int 0, .int 0, .ref q1, .ref q3, .ref q5, .ref q7, .ref q9, .int 0, .ref q11, .ref q13, .ref q15, .ref q17, .ref q19, .ref q21, .ref q23, .ref q25, .ref q27, .null])), (q29, .inl (c30, 64, .inl (fun _ => 0)))] H := hP
  have hD : va_D A [(h0, .inr (9, [.int 0, .int 0, .int 0, .ref q1, .ref q3, .ref q5, .ref q7, .ref q9, .int 0, .ref q11, .ref q13, .ref q15, .ref q17, .ref q19, .ref q21, .ref q23, .ref q25, .ref q27, .null])), (q29, .inl (c30, 64, .inl (fun _ => 0)))] := hD
  have hK : va_K (dC, dI) cls [(c30, .int)] s := hK
  have hP : va_P (dC, dI) cls [(h0, .inr (9, [.int 0, .int 0, .int 0, .ref q1, .ref q3, .ref q5, .ref q7, .ref q9, .int 0, .ref q11, .ref q13, .ref q15, .ref q17, .ref q19, .ref q21, .ref q23, .ref q25, .ref q27, .null]))] H := hP.sub [0] rfl
  have hD : va_D A [(h0, .inr (9, [.int 0, .int 0, .int 0, .ref q1, .ref q3, .ref q5, .ref q7, .ref q9, .int 0, .ref q11, .ref q13, .ref q15, .ref q17, .ref q19, .ref q21, .ref q23, .ref q25, .ref q27, .null]))] := hD.sub [0] (by decide) rfl
  have hK : va_K (dC, dI) cls [] s := hK.sub [] rfl
  refine W.widen (k := 15) (n := 835) (Nat.le_of_ble_eq_true rfl) (Nat.le_of_ble_eq_true rfl) ?_
  refine va_put (D := (dC, dI)) (ci := 9) (v := .ref q29) (ty := .array .int) (C := RX2) (T := TX2) (N := 19) hx hb hts i_X2 tyX2 tyX2_ok nmX2 hown hK hP hD hS 0 rfl rfl 18 (by decide) (hts _ qw109) (fun _ h9 => h9) rfl (by decide +kernel) rfl rfl (Nat.le_of_ble_eq_true rfl) dX2_init_119 (fun H locs hP hD hS => ?_)
  have hP : va_P (dC, dI) cls [(h0, .inr (9, [.int 0, .int 0, .int 0, .ref q1, .ref q3, .ref q5, .ref q7, .ref q9, .int 0, .ref q11, .ref q13, .ref q15, .ref q17, .ref q19, .ref q21, .ref q23, .ref q25, .ref q27, .ref q29]))] H := hP
  have hD : va_D A [(h0, .inr (9, [.int 0, .int 0, .int 0, .ref q1, .ref q3, .ref q5, .ref q7, .ref q9, .int 0, .ref q11, .ref q13, .ref q15, .ref q17, .ref q19, .ref q21, .ref q23, .ref q25, .ref q27, .ref q29]))] := hD
  have hP9 : va_P (dC, dI) cls [] H := hP.sub [] rfl
  have hD9 : va_D A [] := hD.sub [] (by decide) rfl
  have hK9 : va_K (dC, dI) cls [] s := hK.sub [] rfl
  exact W.vret hx hb hr (fun t ht hW => ⟨⟨(), rfl, trivial, ⟨by rw [ht]; exact hP9, va_K.moved hW.alike hK9, hD9⟩⟩, hS.F ht⟩) hS.2.2 dX2_init_122
