abbrev cJ5_init_d00df : ByteArray := prog_30_method_2_code
def yJ5_init_d00df : MethodName := ⟨RJ5, "<init>", "(I)V"⟩
abbrev cJ4_init_da8c8 : ByteArray := prog_43_method_1_code
def yJ4_init_da8c8 : MethodName := ⟨RJ4, "<init>", "()V"⟩
abbrev cX13_init : ByteArray := prog_15_method_1_code
def yX13_init : MethodName := ⟨RX13, "<init>", "([II)V"⟩
theorem dJ4_init_da8c8_0 : decode cJ4_init_da8c8 0 = .ok (.aload_n 0, 1) := by decide +kernel
theorem dJ4_init_da8c8_1 : decode cJ4_init_da8c8 1 = .ok (.bipush 16, 2) := by decide +kernel
theorem dJ4_init_da8c8_3 : decode cJ4_init_da8c8 3 = .ok (.invokespecial 1, 3) := by decide +kernel
theorem dJ4_init_da8c8_6 : decode cJ4_init_da8c8 6 = .ok (.return_, 1) := by decide +kernel
theorem dJ5_init_d00df_0 : decode cJ5_init_d00df 0 = .ok (.aload_n 0, 1) := by decide +kernel
theorem dJ5_init_d00df_1 : decode cJ5_init_d00df 1 = .ok (.invokespecial 3, 3) := by decide +kernel
theorem dJ5_init_d00df_4 : decode cJ5_init_d00df 4 = .ok (.getstatic 18, 3) := by decide +kernel
theorem dJ5_init_d00df_7 : decode cJ5_init_d00df 7 = .ok (.ifCond .eq 18, 3) := by decide +kernel
theorem dJ5_init_d00df_10 : decode cJ5_init_d00df 10 = .ok (.aload_n 0, 1) := by decide +kernel
theorem dJ5_init_d00df_11 : decode cJ5_init_d00df 11 = .ok (.iload_n 1, 1) := by decide +kernel
theorem dJ5_init_d00df_12 : decode cJ5_init_d00df 12 = .ok (.newarray .byte, 2) := by decide +kernel
theorem dJ5_init_d00df_14 : decode cJ5_init_d00df 14 = .ok (.putfield 15, 3) := by decide +kernel
theorem dJ5_init_d00df_17 : decode cJ5_init_d00df 17 = .ok (.aload_n 0, 1) := by decide +kernel
theorem dJ5_init_d00df_18 : decode cJ5_init_d00df 18 = .ok (.iconst 0, 1) := by decide +kernel
theorem dJ5_init_d00df_19 : decode cJ5_init_d00df 19 = .ok (.putfield 22, 3) := by decide +kernel
theorem dJ5_init_d00df_22 : decode cJ5_init_d00df 22 = .ok (.goto 16, 3) := by decide +kernel
theorem dJ5_init_d00df_38 : decode cJ5_init_d00df 38 = .ok (.return_, 1) := by decide +kernel
theorem dX13_init_0 : decode cX13_init 0 = .ok (.aload_n 0, 1) := by decide +kernel
theorem dX13_init_1 : decode cX13_init 1 = .ok (.invokespecial 1, 3) := by decide +kernel
theorem dX13_init_4 : decode cX13_init 4 = .ok (.aload_n 0, 1) := by decide +kernel
theorem dX13_init_5 : decode cX13_init 5 = .ok (.bipush 46, 2) := by decide +kernel
theorem dX13_init_7 : decode cX13_init 7 = .ok (.putfield 7, 3) := by decide +kernel
theorem dX13_init_10 : decode cX13_init 10 = .ok (.aload_n 0, 1) := by decide +kernel
theorem dX13_init_11 : decode cX13_init 11 = .ok (.new 13, 3) := by decide +kernel
theorem dX13_init_14 : decode cX13_init 14 = .ok (.dup, 1) := by decide +kernel
theorem dX13_init_15 : decode cX13_init 15 = .ok (.invokespecial 15, 3) := by decide +kernel
theorem dX13_init_18 : decode cX13_init 18 = .ok (.putfield 16, 3) := by decide +kernel
theorem dX13_init_21 : decode cX13_init 21 = .ok (.aload_n 0, 1) := by decide +kernel
theorem dX13_init_22 : decode cX13_init 22 = .ok (.bipush 40, 2) := by decide +kernel
theorem dX13_init_24 : decode cX13_init 24 = .ok (.newarray .int, 2) := by decide +kernel
theorem dX13_init_26 : decode cX13_init 26 = .ok (.putfield 20, 3) := by decide +kernel
theorem dX13_init_29 : decode cX13_init 29 = .ok (.aload_n 0, 1) := by decide +kernel
theorem dX13_init_30 : decode cX13_init 30 = .ok (.bipush 16, 2) := by decide +kernel
theorem dX13_init_32 : decode cX13_init 32 = .ok (.newarray .int, 2) := by decide +kernel
theorem dX13_init_34 : decode cX13_init 34 = .ok (.putfield 24, 3) := by decide +kernel
theorem dX13_init_37 : decode cX13_init 37 = .ok (.aload_n 0, 1) := by decide +kernel
theorem dX13_init_38 : decode cX13_init 38 = .ok (.aload_n 1, 1) := by decide +kernel
theorem dX13_init_39 : decode cX13_init 39 = .ok (.putfield 27, 3) := by decide +kernel
theorem dX13_init_42 : decode cX13_init 42 = .ok (.aload_n 0, 1) := by decide +kernel
theorem dX13_init_43 : decode cX13_init 43 = .ok (.iload_n 2, 1) := by decide +kernel
theorem dX13_init_44 : decode cX13_init 44 = .ok (.putfield 30, 3) := by decide +kernel
theorem dX13_init_47 : decode cX13_init 47 = .ok (.aload_n 0, 1) := by decide +kernel
theorem dX13_init_48 : decode cX13_init 48 = .ok (.aload_n 0, 1) := by decide +kernel
theorem dX13_init_49 : decode cX13_init 49 = .ok (.iconst 0, 1) := by decide +kernel
theorem dX13_init_50 : decode cX13_init 50 = .ok (.iconst 3, 1) := by decide +kernel
theorem dX13_init_51 : decode cX13_init 51 = .ok (.aload_n 0, 1) := by decide +kernel
theorem dX13_init_52 : decode cX13_init 52 = .ok (.iconst 4, 1) := by decide +kernel
theorem dX13_init_53 : decode cX13_init 53 = .ok (.invokevirtual 33, 3) := by decide +kernel
theorem dX13_init_56 : decode cX13_init 56 = .ok (.iadd, 1) := by decide +kernel
theorem dX13_init_57 : decode cX13_init 57 = .ok (.invokevirtual 37, 3) := by decide +kernel
theorem dX13_init_60 : decode cX13_init 60 = .ok (.putfield 41, 3) := by decide +kernel
theorem dX13_init_63 : decode cX13_init 63 = .ok (.aload_n 0, 1) := by decide +kernel
theorem dX13_init_64 : decode cX13_init 64 = .ok (.getfield 16, 3) := by decide +kernel
theorem dX13_init_67 : decode cX13_init 67 = .ok (.ldc 45, 2) := by decide +kernel
theorem dX13_init_69 : decode cX13_init 69 = .ok (.invokevirtual 47, 3) := by decide +kernel
theorem dX13_init_72 : decode cX13_init 72 = .ok (.pop, 1) := by decide +kernel
theorem dX13_init_73 : decode cX13_init 73 = .ok (.aload_n 0, 1) := by decide +kernel
theorem dX13_init_74 : decode cX13_init 74 = .ok (.aload_n 0, 1) := by decide +kernel
theorem dX13_init_75 : decode cX13_init 75 = .ok (.getfield 41, 3) := by decide +kernel
theorem dX13_init_78 : decode cX13_init 78 = .ok (.invokevirtual 51, 3) := by decide +kernel
theorem dX13_init_81 : decode cX13_init 81 = .ok (.aload_n 0, 1) := by decide +kernel
theorem dX13_init_82 : decode cX13_init 82 = .ok (.getfield 16, 3) := by decide +kernel
theorem dX13_init_85 : decode cX13_init 85 = .ok (.ldc 55, 2) := by decide +kernel
theorem dX13_init_87 : decode cX13_init 87 = .ok (.invokevirtual 47, 3) := by decide +kernel
theorem dX13_init_90 : decode cX13_init 90 = .ok (.pop, 1) := by decide +kernel
theorem dX13_init_91 : decode cX13_init 91 = .ok (.return_, 1) := by decide +kernel
theorem qw1674 : Cond.methodLink RJ5 3 objectInit ∈ gw := mq_6 (i := 142) rfl rfl
theorem qw1675 : Cond.code yJ5_init_d00df cJ5_init_d00df 2 (Option.none : Option Jvm.ClassFile.FieldType) ∈ gw := mq_6 (i := 141) rfl rfl
theorem qw1676 : Cond.methodLink RJ4 1 yJ5_init_d00df ∈ gw := mq_6 (i := 139) rfl rfl
theorem qw1677 : Cond.instanceMethod yJ5_init_d00df ∈ gw := mq_6 (i := 140) rfl rfl
theorem qw1678 : Cond.methodLink RX13 1 objectInit ∈ gw := mq_10 (i := 101) rfl rfl
theorem qw1679 : Cond.classLink RX13 13 RJ4 ∈ gw := mq_10 (i := 102) rfl rfl
theorem qw1680 : Cond.instantiable RJ4 4 ∈ gw := mq_6 (i := 135) rfl rfl
theorem qw1681 : Cond.code yJ4_init_da8c8 cJ4_init_da8c8 1 (Option.none : Option Jvm.ClassFile.FieldType) ∈ gw := mq_6 (i := 138) rfl rfl
theorem qw1682 : Cond.methodLink RX13 15 yJ4_init_da8c8 ∈ gw := mq_10 (i := 103) rfl rfl
theorem qw1683 : Cond.instanceMethod yJ4_init_da8c8 ∈ gw := mq_6 (i := 137) rfl rfl
theorem qw1684 : Cond.fieldLink RX13 20 "GearboxLaw$Made" "variables" "[I" ∈ gw := mq_10 (i := 229) rfl rfl
theorem qw1685 : Cond.fieldLink RX13 24 "GearboxLaw$Made" "words" "[I" ∈ gw := mq_10 (i := 230) rfl rfl
theorem qw1686 : Cond.fieldLink RX13 41 "GearboxLaw$Made" "body" "[LGearboxLaw$Line;" ∈ gw := mq_10 (i := 228) rfl rfl
set_option maxHeartbeats 16000000 in
set_option maxRecDepth 100000 in
theorem kJ5_abi {zs : ZS} (l : Launch) (dC : Nat → ClassId) (dI : Nat → Nat → Nat) (q0 : Nat) (sz : Nat) : Met l yJ5_init_d00df (wz yJ5_init_d00df cJ5_init_d00df 2 (Option.none : Option Jvm.ClassFile.FieldType)) ({ frames := 1, cells := 1, slots := 16, locals := 40 } : Room) (va_Pc [.ref q0, .int 16] (PRE zs dC dI (List.flatten ([[(q0, .inr (12, [.null, .int 0, .int 0, .int 0]))]] : List va_W)) (List.flatten ([[]] : List (List (ClassId × FieldType)))) sz)) (va_Qv (fun (_ : Unit) => True) (fun _ t => ∃ (A9 : Nat → Nat) (K9 : Nat → ClassId), POST dC dI (List.flatten ([(oJ4 q0 A9 K9 (fun _ => 16) (fun _ _ => 0))] : List va_W)) (List.flatten ([(tJ4 K9)] : List (List (ClassId × FieldType)))) (va_A (List.flatten ([[(q0, .inr (12, [.null, .int 0, .int 0, .int 0]))]] : List va_W)) sz) t) (va_A (List.flatten ([[(q0, .inr (12, [.null, .int 0, .int 0, .int 0]))]] : List va_W)) sz)) 1 16 (va_A (List.flatten ([[(q0, .inr (12, [.null, .int 0, .int 0, .int 0]))]] : List va_W)) sz) := by
  refine Met.ofW (cc := cJ5_init_d00df) (maxL := 2) (ret := (Option.none : Option Jvm.ClassFile.FieldType)) (by decide) rfl ?_
  intro p e s m args below meth c s₁ B hml hv
  obtain ⟨rfl, hsz, hP, hK, hD0, hE⟩ := hv
  have hx := B.exec
  have hb := B.bytes
  have hr := B.returns
  have hin : meth.name = "<init>" := (name_of_methodNamed B.named B.method).1
  have hts0 := atoms_spec (ws := wz yJ5_init_d00df cJ5_init_d00df 2 (Option.none : Option Jvm.ClassFile.FieldType)) B.pre
  have hts : ∀ w ∈ gw, w.before _ s = true := fun w h => hts0 w (List.mem_cons_of_mem _ h)
  have hown : s.vm.findClass RJ5 = some m.cls := findClass_of_methodNamed B.named
  subst hsz
  have hD := hD0.self (sz := s.heap.size)
  refine gQ9 ?_
  intro Q hQ
  generalize hAe : va_A (List.flatten ([[(q0, .inr (12, [.null, .int 0, .int 0, .int 0]))]] : List va_W)) s.heap.size = A at hD hE hQ
  have hA : ∀ q : Nat, s.heap.size ≤ q → A q := fun q h => by rw [← hAe]; exact Or.inr h
  have hS : va_S A s.heap s.heap [] := va_S.rf
  have hP : va_P (dC, dI) cls (List.flatten ([[(q0, .inr (12, [.null, .int 0, .int 0, .int 0]))]] : List va_W)) s.heap := hP
  have hl := lv_entry ([.ref q0, .int 16]) (n := 2) (Nat.le_of_ble_eq_true rfl)
  rw [lg_entry_eq]
  generalize (lg_sl ([.ref q0, .int 16]) ++ List.replicate (2 - (lg_sl ([.ref q0, .int 16])).length) Slot.unset).toArray = ls at hl ⊢
  have hl : lv_has ls 2 [(0, .ref q0), (1, .int 16)] := hl
  obtain ⟨H, hHe⟩ : ∃ H, H = s.heap := ⟨_, rfl⟩
  obtain ⟨locs, hle⟩ : ∃ locs : List Loc, locs = [] := ⟨_, rfl⟩
  rw [← hHe] at hP
  have hS : va_S A s.heap H locs := by rw [hHe, hle]; exact hS
  show W p l e ({ frames := 1, cells := 1, slots := 16, locals := 40 } : Room) s m ([.ref q0, .int 16] : List Value).toArray below meth c s.heap [] 0 0 Q (F0 m 0 ls [])
  rw [← hle]
  refine wH9 hHe ?_
  refine lv_aload_n hx hb dJ5_init_d00df_0 rfl (lv_at hl 0 rfl) ?_
  refine W.objInit hx hb hown (hts _ qw1674) (hts _ qw1286) (hts _ qw_oi) rfl (by rw [hml]; exact hl.1) rfl dJ5_init_d00df_1 (Nat.le_of_ble_eq_true rfl) (Nat.le_of_ble_eq_true rfl) ?_
  refine W.eq (g2 := F0 m 4 ls []) rfl ?_
  refine va_gets hx hb (ENV.cs hE) hS hown (hts _ qw1202) (fun _ h9 => h9) dJ5_init_d00df_4 ?_
  refine lv_if_eq (tgt := 25) hx hb dJ5_init_d00df_7 (by decide) (fun c => absurd c (by decide)) (fun _ => ?_)
  refine lv_aload_n hx hb dJ5_init_d00df_10 rfl (lv_at hl 0 rfl) ?_
  refine lv_iload_n hx hb dJ5_init_d00df_11 rfl (lv_at hl 1 rfl) ?_
  refine va_newa (atype := .byte) (ty := .byte) hx hb (hts _ qw1220) rfl hK hP hD hS hA (N' := 16) (a0 := (16, .inl (fun _ => 0))) (fun _ => rfl) (by decide) (by decide +kernel) (Nat.le_of_ble_eq_true rfl) (Nat.le_of_ble_eq_true rfl) (Nat.le_of_ble_eq_true rfl) dJ5_init_d00df_12 (fun q1 c1 H hK hP hD hS => ?_)
  have hP : va_P (dC, dI) cls (List.flatten ([[(q0, .inr (12, [.null, .int 0, .int 0, .int 0]))], [(q1, .inl (c1, 16, .inl (fun _ => 0)))]] : List va_W)) H := hP
  have hD : va_D A (List.flatten ([[(q0, .inr (12, [.null, .int 0, .int 0, .int 0]))], [(q1, .inl (c1, 16, .inl (fun _ => 0)))]] : List va_W)) := hD
  have hK : va_K (dC, dI) cls (List.flatten ([[], [(c1, .byte)]] : List (List (ClassId × FieldType)))) s := hK
  refine va_put (D := (dC, dI)) (ci := 12) (v := .ref q1) (ty := .array .byte) (C := RJ4) (T := TJ4) (N := 4) hx hb hts i_J4 tyJ4 tyJ4_ok nmJ4 hown hK hP hD hS 0 rfl rfl 0 (by decide) (hts _ qw1210) (fun _ h9 => h9) rfl (by decide +kernel) rfl rfl (Nat.le_of_ble_eq_true rfl) dJ5_init_d00df_14 (fun H locs hP hD hS => ?_)
  have hP : va_P (dC, dI) cls (List.flatten ([[(q0, .inr (12, [.ref q1, .int 0, .int 0, .int 0]))], [(q1, .inl (c1, 16, .inl (fun _ => 0)))]] : List va_W)) H := hP
  have hD : va_D A (List.flatten ([[(q0, .inr (12, [.ref q1, .int 0, .int 0, .int 0]))], [(q1, .inl (c1, 16, .inl (fun _ => 0)))]] : List va_W)) := hD
  refine lv_aload_n hx hb dJ5_init_d00df_17 rfl (lv_at hl 0 rfl) ?_
  refine lv_iconst (v := 0) hx hb dJ5_init_d00df_18 (by decide) ?_
  refine va_put (D := (dC, dI)) (ci := 12) (v := .int 0) (ty := .byte) (C := RJ4) (T := TJ4) (N := 4) hx hb hts i_J4 tyJ4 tyJ4_ok nmJ4 hown hK hP hD hS 0 rfl rfl 1 (by decide) (hts _ qw1203) (fun _ h9 => h9) rfl (by decide +kernel) rfl rfl (Nat.le_of_ble_eq_true rfl) dJ5_init_d00df_19 (fun H locs hP hD hS => ?_)
  have hP : va_P (dC, dI) cls (List.flatten ([[(q0, .inr (12, [.ref q1, .int 0, .int 0, .int 0]))], [(q1, .inl (c1, 16, .inl (fun _ => 0)))]] : List va_W)) H := hP
  have hD : va_D A (List.flatten ([[(q0, .inr (12, [.ref q1, .int 0, .int 0, .int 0]))], [(q1, .inl (c1, 16, .inl (fun _ => 0)))]] : List va_W)) := hD
  refine lv_goto (tgt := 38) hx hb dJ5_init_d00df_22 (by decide) ?_
  subst hQ
  exact W.vret hx hb hr (fun t ht hW => ⟨⟨(), rfl, trivial, (fun _ => q1), (fun _ => c1), by rw [ht]; exact hP, va_K.moved hW.alike hK, hD⟩, hS.F ht⟩) hS.2.2 dJ5_init_d00df_38
set_option maxHeartbeats 16000000 in
set_option maxRecDepth 100000 in
theorem kJ4_sbi {zs : ZS} (l : Launch) (dC : Nat → ClassId) (dI : Nat → Nat → Nat) (q0 : Nat) (sz : Nat) : Met l yJ4_init_da8c8 (wz yJ4_init_da8c8 cJ4_init_da8c8 1 (Option.none : Option Jvm.ClassFile.FieldType)) ({ frames := 2, cells := 1, slots := 16, locals := 80 } : Room) (va_Pc [.ref q0] (PRE zs dC dI (List.flatten ([[(q0, .inr (12, [.null, .int 0, .int 0, .int 0]))]] : List va_W)) (List.flatten ([[]] : List (List (ClassId × FieldType)))) sz)) (va_Qv (fun (_ : Unit) => True) (fun _ t => ∃ (A9 : Nat → Nat) (K9 : Nat → ClassId), POST dC dI (List.flatten ([(oJ4 q0 A9 K9 (fun _ => 16) (fun _ _ => 0))] : List va_W)) (List.flatten ([(tJ4 K9)] : List (List (ClassId × FieldType)))) (va_A (List.flatten ([[(q0, .inr (12, [.null, .int 0, .int 0, .int 0]))]] : List va_W)) sz) t) (va_A (List.flatten ([[(q0, .inr (12, [.null, .int 0, .int 0, .int 0]))]] : List va_W)) sz)) 1 16 (va_A (List.flatten ([[(q0, .inr (12, [.null, .int 0, .int 0, .int 0]))]] : List va_W)) sz) := by
  refine Met.ofW (cc := cJ4_init_da8c8) (maxL := 1) (ret := (Option.none : Option Jvm.ClassFile.FieldType)) (by decide) rfl ?_
  intro p e s m args below meth c s₁ B hml hv
  obtain ⟨rfl, hsz, hP, hK, hD0, hE⟩ := hv
  have hx := B.exec
  have hb := B.bytes
  have hr := B.returns
  have hin : meth.name = "<init>" := (name_of_methodNamed B.named B.method).1
  have hts0 := atoms_spec (ws := wz yJ4_init_da8c8 cJ4_init_da8c8 1 (Option.none : Option Jvm.ClassFile.FieldType)) B.pre
  have hts : ∀ w ∈ gw, w.before _ s = true := fun w h => hts0 w (List.mem_cons_of_mem _ h)
  have hown : s.vm.findClass RJ4 = some m.cls := findClass_of_methodNamed B.named
  subst hsz
  have hD := hD0.self (sz := s.heap.size)
  refine gQ9 ?_
  intro Q hQ
  generalize hAe : va_A (List.flatten ([[(q0, .inr (12, [.null, .int 0, .int 0, .int 0]))]] : List va_W)) s.heap.size = A at hD hE hQ
  have hA : ∀ q : Nat, s.heap.size ≤ q → A q := fun q h => by rw [← hAe]; exact Or.inr h
  have hS : va_S A s.heap s.heap [] := va_S.rf
  have hP : va_P (dC, dI) cls (List.flatten ([[(q0, .inr (12, [.null, .int 0, .int 0, .int 0]))]] : List va_W)) s.heap := hP
  have hl := lv_entry ([.ref q0]) (n := 1) (Nat.le_of_ble_eq_true rfl)
  rw [lg_entry_eq]
  generalize (lg_sl ([.ref q0]) ++ List.replicate (1 - (lg_sl ([.ref q0])).length) Slot.unset).toArray = ls at hl ⊢
  have hl : lv_has ls 1 [(0, .ref q0)] := hl
  obtain ⟨H, hHe⟩ : ∃ H, H = s.heap := ⟨_, rfl⟩
  obtain ⟨locs, hle⟩ : ∃ locs : List Loc, locs = [] := ⟨_, rfl⟩
  rw [← hHe] at hP
  have hS : va_S A s.heap H locs := by rw [hHe, hle]; exact hS
  show W p l e ({ frames := 2, cells := 1, slots := 16, locals := 80 } : Room) s m ([.ref q0] : List Value).toArray below meth c s.heap [] 0 0 Q (F0 m 0 ls [])
  rw [← hle]
  refine wH9 hHe ?_
  refine lv_aload_n hx hb dJ4_init_da8c8_0 rfl (lv_at hl 0 rfl) ?_
  refine lv_bipush (v := 16) hx hb dJ4_init_da8c8_1 (by decide) ?_
  have hPx : va_P (dC, dI) cls ((List.flatten ([[(q0, .inr (12, [.null, .int 0, .int 0, .int 0]))]] : List va_W)) ++ (List.flatten ([] : List va_W))) H := vP_fa (vP_perm hP (bP (List.Perm.refl _)))
  have hDx : va_D A ((List.flatten ([[(q0, .inr (12, [.null, .int 0, .int 0, .int 0]))]] : List va_W)) ++ (List.flatten ([] : List va_W))) := vD_fa (vD_perm hD (bP (List.Perm.refl _)))
  have hKx : va_K (dC, dI) cls ((List.flatten ([[]] : List (List (ClassId × FieldType)))) ++ (List.flatten ([] : List (List (ClassId × FieldType))))) s := vK_fa (vK_perm hK (bP (List.Perm.refl _)))
  have hPc := vP_l hPx
  have hDc := vD_l hDx
  have hKc := vK_l hKx
  have hFc := vfree hDx hS hA
  refine va_callv (va_runI (As := [.int 16]) (rest := []) ⟨hx, hb, hml, hown, hts⟩ (kJ5_abi l dC dI q0 _) (cwI 1 hts (gi_z qw1675) rfl rfl rfl (hts _ qw1219) (hts _ qw1676) (hts _ qw1677) rfl (by decide +kernel) ⟨Nat.le_of_ble_eq_true rfl, Nat.le_of_ble_eq_true rfl⟩) ⟨PRE.blind, PRE.of hE hS hFc hPc hKc hDc⟩ rfl rfl hl.1 rfl (lv_room (Nat.le_of_ble_eq_true rfl)) dJ4_init_da8c8_3 ⟨Nat.le_of_ble_eq_true rfl, Nat.le_of_ble_eq_true rfl⟩) hS (fun q _ h => hFc q h) hFc (fun u t H locs ht hvm hw hB hz1 hk1 hS => ?_)
  obtain ⟨A9, K9, b1, b2, b3⟩ := hB
  rw [ht] at b1
  obtain ⟨hP, hD, hK⟩ := JOINC (wc := (List.flatten ([[(q0, .inr (12, [.null, .int 0, .int 0, .int 0]))]] : List va_W))) (wr := (List.flatten ([] : List va_W))) (w1 := (List.flatten ([(oJ4 q0 A9 K9 (fun _ => 16) (fun _ _ => 0))] : List va_W))) (t1 := (List.flatten ([(tJ4 K9)] : List (List (ClassId × FieldType))))) hPx hDx hKx hk1 hFc b1 (va_K.moved hvm.symm b2) b3
  have hP : va_P (dC, dI) cls (List.flatten ([(oJ4 q0 A9 K9 (fun _ => 16) (fun _ _ => 0))] : List va_W)) H := vP_fb hP
  have hD : va_D A (List.flatten ([(oJ4 q0 A9 K9 (fun _ => 16) (fun _ _ => 0))] : List va_W)) := vD_fb hD
  have hK : va_K (dC, dI) cls (List.flatten ([(tJ4 K9)] : List (List (ClassId × FieldType)))) s := vK_fb hK
  subst hQ
  exact W.vret hx hb hr (fun t ht hW => ⟨⟨(), rfl, trivial, A9, K9, by rw [ht]; exact hP, va_K.moved hW.alike hK, hD⟩, hS.F ht⟩) hS.2.2 dJ4_init_da8c8_6
theorem zp_xq {aK aV : Nat → Nat} {aN aO dOv dTv xv xm : Nat} {xf : RI} {zs : ZS} {A : Nat → Prop} {s : State} {H : Heap} (h : ENV (ZP aK aV aN aO dOv dTv (zA zs (xq9 xv xm xf))) A s H) : xq9 xv xm xf A s H := (ENV.ex h).1.1.1.1.2
theorem pcl_b {t b : Nat} (h : t + b ≤ 1150) : pcl t b ≤ 12 ∧ psl t b ≤ 3402 := by
  have h1 := capf_b t
  have h2 := capf_b (t + b)
  have h3 := lgP_mono h2.2
  have h4 := lgP_mono h1.1
  have h5 : lgP 1150 = 21 := by decide +kernel
  have h6 : lgP 16 = 9 := by decide +kernel
  unfold pcl psl
  omega
/-- where Made's rows and the like stand -/
def mA (q0 xv q1 rb q2 q3 : Nat) : Nat → Nat := fun j => if j = 0 then q0 else if j = 1 then xv else if j = 6 then q1 else if j = 7 then rb else if j = 8 then q2 else if j = 9 then q3 else 0
def mw0 (d : Int32) : ST := upw (upw (fun _ _ => 0) 0 2 46) 0 1 d
/-- the text that Made makes -/
def fMade (xm : Nat) (xf : RI) (d : Int32) : Option (List Int32) := (fX13_draw (mw0 d) 4 xm xf).bind fun (o1 : Int32 × ST) => (if ixb (3 + o1.1) 7 = true then ((fLs (rN xm xf 3) (nn (3 + o1.1)) o1.2 0).bind fun (o2 : List Int32 × ST) => (if o2.1.length ≤ 1100 then some (([102, 117, 110, 32, 102, 40, 97, 44, 98, 41, 123, 118, 97, 114, 32, 99, 61, 98, 59, 118, 97, 114, 32, 100, 61, 51, 59] : List Int32) ++ (o2.1 ++ ([125] : List Int32))) else none)) else none)
set_option maxHeartbeats 16000000 in
set_option maxRecDepth 100000 in
theorem kX13_init {zs : ZS} (l : Launch) (dC : Nat → ClassId) (dI : Nat → Nat → Nat) (aK aV : Nat → Nat) (aN aO dOv dTv : Nat) (q0 xv xm : Nat) (xf : RI) (p2 : Int32) (o : List Int32) (hrun : fMade xm xf p2 = some o) (sz : Nat) : Met l yX13_init (wz yX13_init cX13_init 3 (Option.none : Option Jvm.ClassFile.FieldType)) ({ frames := 250, cells := 2450, slots := 13200, locals := 10000 } : Room) (va_Pc [.ref q0, .ref xv, .int p2] (PRE (ZP aK aV aN aO dOv dTv (zA zs (xq9 xv xm xf))) dC dI (List.flatten ([[(q0, .inr (14, [.null, .int 0, .int 0, .int 0, .int 0, .null, .null, .null, .null, .int 0, .int 0, .int 0, .int 0]))]] : List va_W)) (List.flatten ([[]] : List (List (ClassId × FieldType)))) sz)) (va_Qv (fun (_ : Unit) => True) (fun _ t => ∃ (a : Nat → Nat) (w : ST) (ta : Nat → Nat) (tk : Nat → ClassId) (tn : Nat → Nat) (tw : ST), a 0 = q0 ∧ sp9 tn tw o ∧ POST dC dI (List.flatten ([mdO a w, oJ4 (a 6) ta tk tn tw] : List va_W)) (List.flatten ([[], tJ4 tk] : List (List (ClassId × FieldType)))) (va_A (List.flatten ([[(q0, .inr (14, [.null, .int 0, .int 0, .int 0, .int 0, .null, .null, .null, .null, .int 0, .int 0, .int 0, .int 0]))]] : List va_W)) sz) t) (va_A (List.flatten ([[(q0, .inr (14, [.null, .int 0, .int 0, .int 0, .int 0, .null, .null, .null, .null, .int 0, .int 0, .int 0, .int 0]))]] : List va_W)) sz)) 2450 13200 (va_A (List.flatten ([[(q0, .inr (14, [.null, .int 0, .int 0, .int 0, .int 0, .null, .null, .null, .null, .int 0, .int 0, .int 0, .int 0]))]] : List va_W)) sz) := by
  refine Met.ofW (cc := cX13_init) (maxL := 3) (ret := (Option.none : Option Jvm.ClassFile.FieldType)) (by decide) rfl ?_
  intro p e s m args below meth c s₁ B hml hv
  obtain ⟨rfl, hsz, hP, hK, hD0, hE⟩ := hv
  have hx := B.exec
  have hb := B.bytes
  have hr := B.returns
  have hin : meth.name = "<init>" := (name_of_methodNamed B.named B.method).1
  have hts0 := atoms_spec (ws := wz yX13_init cX13_init 3 (Option.none : Option Jvm.ClassFile.FieldType)) B.pre
  have hts : ∀ w ∈ gw, w.before _ s = true := fun w h => hts0 w (List.mem_cons_of_mem _ h)
  have hown : s.vm.findClass RX13 = some m.cls := findClass_of_methodNamed B.named
  subst hsz
  have hD := hD0.self (sz := s.heap.size)
  refine gQ9 ?_
  intro Q hQ
  generalize hAe : va_A (List.flatten ([[(q0, .inr (14, [.null, .int 0, .int 0, .int 0, .int 0, .null, .null, .null, .null, .int 0, .int 0, .int 0, .int 0]))]] : List va_W)) s.heap.size = A at hD hE hQ
  have hA : ∀ q : Nat, s.heap.size ≤ q → A q := fun q h => by rw [← hAe]; exact Or.inr h
  have hS : va_S A s.heap s.heap [] := va_S.rf
  have hP : va_P (dC, dI) cls (List.flatten ([[(q0, .inr (14, [.null, .int 0, .int 0, .int 0, .int 0, .null, .null, .null, .null, .int 0, .int 0, .int 0, .int 0]))]] : List va_W)) s.heap := hP
  have hl := lv_entry ([.ref q0, .ref xv, .int p2]) (n := 3) (Nat.le_of_ble_eq_true rfl)
  rw [lg_entry_eq]
  generalize (lg_sl ([.ref q0, .ref xv, .int p2]) ++ List.replicate (3 - (lg_sl ([.ref q0, .ref xv, .int p2])).length) Slot.unset).toArray = ls at hl ⊢
  have hl : lv_has ls 3 [(0, .ref q0), (1, .ref xv), (2, .int p2)] := hl
  obtain ⟨H, hHe⟩ : ∃ H, H = s.heap := ⟨_, rfl⟩
  obtain ⟨locs, hle⟩ : ∃ locs : List Loc, locs = [] := ⟨_, rfl⟩
  rw [← hHe] at hP
  have hS : va_S A s.heap H locs := by rw [hHe, hle]; exact hS
  show W p l e ({ frames := 250, cells := 2450, slots := 13200, locals := 10000 } : Room) s m ([.ref q0, .ref xv, .int p2] : List Value).toArray below meth c s.heap [] 0 0 Q (F0 m 0 ls [])
  rw [← hle]
  refine wH9 hHe ?_
  refine lv_aload_n hx hb dX13_init_0 rfl (lv_at hl 0 rfl) ?_
  refine W.objInit hx hb hown (hts _ qw1678) (hts _ qw1286) (hts _ qw_oi) rfl (by rw [hml]; exact hl.1) rfl dX13_init_1 (Nat.le_of_ble_eq_true rfl) (Nat.le_of_ble_eq_true rfl) ?_
  refine W.eq (g2 := F0 m 4 ls []) rfl ?_
  refine lv_aload_n hx hb dX13_init_4 rfl (lv_at hl 0 rfl) ?_
  refine lv_bipush (v := 46) hx hb dX13_init_5 (by decide) ?_
  refine va_put (D := (dC, dI)) (ci := 14) (v := .int 46) (ty := .int) (C := RX13) (T := TX13) (N := 13) hx hb hts i_X13 tyX13 tyX13_ok nmX13 hown hK hP hD hS 0 rfl rfl 2 (by decide) (hts _ qw1567) (fun _ h9 => h9) rfl (by decide +kernel) rfl rfl (Nat.le_of_ble_eq_true rfl) dX13_init_7 (fun H locs hP hD hS => ?_)
  have hP : va_P (dC, dI) cls (List.flatten ([[(q0, .inr (14, [.null, .int 0, .int 46, .int 0, .int 0, .null, .null, .null, .null, .int 0, .int 0, .int 0, .int 0]))]] : List va_W)) H := hP
  have hD : va_D A (List.flatten ([[(q0, .inr (14, [.null, .int 0, .int 46, .int 0, .int 0, .null, .null, .null, .null, .int 0, .int 0, .int 0, .int 0]))]] : List va_W)) := hD
  refine lv_aload_n hx hb dX13_init_10 rfl (lv_at hl 0 rfl) ?_
  refine va_new (ci := 12) (fs := [.null, .int 0, .int 0, .int 0]) (C := RJ4) (T := TJ4) (N := 4) hx hb hts i_J4 tyJ4 tyJ4_ok hown (hts _ qw1679) (hts _ qw1680) (hts _ qw1610) hK hP hD hS hA rfl df_J4 (show 0 + 1 ≤ 2450 from by omega) (show 0 + 4 ≤ 13200 from by omega) dX13_init_11 (fun q1 H hP hD hS => ?_)
  have hP : va_P (dC, dI) cls (List.flatten ([[(q0, .inr (14, [.null, .int 0, .int 46, .int 0, .int 0, .null, .null, .null, .null, .int 0, .int 0, .int 0, .int 0]))], [(q1, .inr (12, [.null, .int 0, .int 0, .int 0]))]] : List va_W)) H := hP
  have hD : va_D A (List.flatten ([[(q0, .inr (14, [.null, .int 0, .int 46, .int 0, .int 0, .null, .null, .null, .null, .int 0, .int 0, .int 0, .int 0]))], [(q1, .inr (12, [.null, .int 0, .int 0, .int 0]))]] : List va_W)) := hD
  have hK : va_K (dC, dI) cls (List.flatten ([[], []] : List (List (ClassId × FieldType)))) s := hK
  refine W.widen (k := 1) (n := 4) (Nat.le_of_ble_eq_true rfl) (Nat.le_of_ble_eq_true rfl) ?_
  refine lv_dup hx hb dX13_init_14 rfl ?_
  have hPx : va_P (dC, dI) cls ((List.flatten ([[(q1, .inr (12, [.null, .int 0, .int 0, .int 0]))]] : List va_W)) ++ (List.flatten ([[(q0, .inr (14, [.null, .int 0, .int 46, .int 0, .int 0, .null, .null, .null, .null, .int 0, .int 0, .int 0, .int 0]))]] : List va_W))) H := vP_fa (vP_perm hP (bP ((((List.Perm.refl _)).cons _).trans (List.Perm.swap _ _ _))))
  have hDx : va_D A ((List.flatten ([[(q1, .inr (12, [.null, .int 0, .int 0, .int 0]))]] : List va_W)) ++ (List.flatten ([[(q0, .inr (14, [.null, .int 0, .int 46, .int 0, .int 0, .null, .null, .null, .null, .int 0, .int 0, .int 0, .int 0]))]] : List va_W))) := vD_fa (vD_perm hD (bP ((((List.Perm.refl _)).cons _).trans (List.Perm.swap _ _ _))))
  have hKx : va_K (dC, dI) cls ((List.flatten ([[]] : List (List (ClassId × FieldType)))) ++ (List.flatten ([[]] : List (List (ClassId × FieldType))))) s := vK_fa (vK_perm hK (bP ((((List.Perm.refl _)).cons _).trans (List.Perm.swap _ _ _))))
  have hPc := vP_l hPx
  have hDc := vD_l hDx
  have hKc := vK_l hKx
  have hFc := vfree hDx hS hA
  refine va_callv (va_runI (As := []) (rest := [.ref q1, .ref q0]) ⟨hx, hb, hml, hown, hts⟩ (kJ4_sbi l dC dI q1 _) (cwI 0 hts (gi_z qw1681) rfl rfl rfl (hts _ qw1610) (hts _ qw1682) (hts _ qw1683) rfl (by decide +kernel) ⟨Nat.le_of_ble_eq_true rfl, Nat.le_of_ble_eq_true rfl⟩) ⟨PRE.blind, PRE.of hE hS hFc hPc hKc hDc⟩ rfl rfl hl.1 rfl (lv_room (Nat.le_of_ble_eq_true rfl)) dX13_init_15 ⟨(show 1 + 1 ≤ 2450 from by omega), (show 4 + 16 ≤ 13200 from by omega)⟩) hS (fun q _ h => hFc q h) hFc (fun u t H locs ht hvm hw hB hz1 hk1 hS => ?_)
  obtain ⟨A9, K9, b1, b2, b3⟩ := hB
  rw [ht] at b1
  obtain ⟨hP, hD, hK⟩ := JOINC (wc := (List.flatten ([[(q1, .inr (12, [.null, .int 0, .int 0, .int 0]))]] : List va_W))) (wr := (List.flatten ([[(q0, .inr (14, [.null, .int 0, .int 46, .int 0, .int 0, .null, .null, .null, .null, .int 0, .int 0, .int 0, .int 0]))]] : List va_W))) (w1 := (List.flatten ([(oJ4 q1 A9 K9 (fun _ => 16) (fun _ _ => 0))] : List va_W))) (t1 := (List.flatten ([(tJ4 K9)] : List (List (ClassId × FieldType))))) hPx hDx hKx hk1 hFc b1 (va_K.moved hvm.symm b2) b3
  have hP : va_P (dC, dI) cls (List.flatten ([(oJ4 q1 A9 K9 (fun _ => 16) (fun _ _ => 0)), [(q0, .inr (14, [.null, .int 0, .int 46, .int 0, .int 0, .null, .null, .null, .null, .int 0, .int 0, .int 0, .int 0]))]] : List va_W)) H := vP_fb hP
  have hD : va_D A (List.flatten ([(oJ4 q1 A9 K9 (fun _ => 16) (fun _ _ => 0)), [(q0, .inr (14, [.null, .int 0, .int 46, .int 0, .int 0, .null, .null, .null, .null, .int 0, .int 0, .int 0, .int 0]))]] : List va_W)) := vD_fb hD
  have hK : va_K (dC, dI) cls (List.flatten ([(tJ4 K9), []] : List (List (ClassId × FieldType)))) s := vK_fb hK
  refine W.widen (k := 2) (n := 20) (Nat.le_of_ble_eq_true rfl) (Nat.le_of_ble_eq_true rfl) ?_
  have hP : va_P (dC, dI) cls (List.flatten ([[(q0, .inr (14, [.null, .int 0, .int 46, .int 0, .int 0, .null, .null, .null, .null, .int 0, .int 0, .int 0, .int 0]))], (oJ4 q1 A9 K9 (fun _ => 16) (fun _ _ => 0))] : List va_W)) H := vP_perm hP (bP ((((List.Perm.refl _)).cons _).trans (List.Perm.swap _ _ _)))
  have hD : va_D A (List.flatten ([[(q0, .inr (14, [.null, .int 0, .int 46, .int 0, .int 0, .null, .null, .null, .null, .int 0, .int 0, .int 0, .int 0]))], (oJ4 q1 A9 K9 (fun _ => 16) (fun _ _ => 0))] : List va_W)) := vD_perm hD (bP ((((List.Perm.refl _)).cons _).trans (List.Perm.swap _ _ _)))
  have hK : va_K (dC, dI) cls (List.flatten ([[], (tJ4 K9)] : List (List (ClassId × FieldType)))) s := vK_perm hK (bP ((((List.Perm.refl _)).cons _).trans (List.Perm.swap _ _ _)))
  refine va_putF (D := (dC, dI)) (ci := 14) (v := .ref q1) (ty := .object "java/lang/StringBuilder") (C := RX13) (T := TX13) (N := 13) hx hb hts i_X13 tyX13 tyX13_ok nmX13 hown hK hP hD hS 0 rfl rfl 5 (by decide) (hts _ qw1618) (fun _ h9 => h9) rfl hin rfl (by decide +kernel) rfl rfl (Nat.le_of_ble_eq_true rfl) dX13_init_18 (fun H locs hP hD hS => ?_)
  have hP : va_P (dC, dI) cls (List.flatten ([[(q0, .inr (14, [.null, .int 0, .int 46, .int 0, .int 0, .ref q1, .null, .null, .null, .int 0, .int 0, .int 0, .int 0]))], (oJ4 q1 A9 K9 (fun _ => 16) (fun _ _ => 0))] : List va_W)) H := hP
  have hD : va_D A (List.flatten ([[(q0, .inr (14, [.null, .int 0, .int 46, .int 0, .int 0, .ref q1, .null, .null, .null, .int 0, .int 0, .int 0, .int 0]))], (oJ4 q1 A9 K9 (fun _ => 16) (fun _ _ => 0))] : List va_W)) := hD
  refine lv_aload_n hx hb dX13_init_21 rfl (lv_at hl 0 rfl) ?_
  refine lv_bipush (v := 40) hx hb dX13_init_22 (by decide) ?_
  refine va_newa (atype := .int) (ty := .int) hx hb (hts _ qw97) rfl hK hP hD hS hA (N' := 40) (a0 := (40, .inl (fun _ => 0))) (fun _ => rfl) (by decide) (by decide +kernel) (Nat.le_of_ble_eq_true rfl) (show 2 + 1 ≤ 2450 from by omega) (show 20 + 40 ≤ 13200 from by omega) dX13_init_24 (fun q2 cq2 H hK hP hD hS => ?_)
  have hP : va_P (dC, dI) cls (List.flatten ([[(q0, .inr (14, [.null, .int 0, .int 46, .int 0, .int 0, .ref q1, .null, .null, .null, .int 0, .int 0, .int 0, .int 0]))], (oJ4 q1 A9 K9 (fun _ => 16) (fun _ _ => 0)), [(q2, .inl (cq2, 40, .inl (fun _ => 0)))]] : List va_W)) H := hP
  have hD : va_D A (List.flatten ([[(q0, .inr (14, [.null, .int 0, .int 46, .int 0, .int 0, .ref q1, .null, .null, .null, .int 0, .int 0, .int 0, .int 0]))], (oJ4 q1 A9 K9 (fun _ => 16) (fun _ _ => 0)), [(q2, .inl (cq2, 40, .inl (fun _ => 0)))]] : List va_W)) := hD
  have hK : va_K (dC, dI) cls (List.flatten ([[], (tJ4 K9), [(cq2, .int)]] : List (List (ClassId × FieldType)))) s := hK
  refine W.widen (k := 3) (n := 60) (Nat.le_of_ble_eq_true rfl) (Nat.le_of_ble_eq_true rfl) ?_
  refine va_putF (D := (dC, dI)) (ci := 14) (v := .ref q2) (ty := .array .int) (C := RX13) (T := TX13) (N := 13) hx hb hts i_X13 tyX13 tyX13_ok nmX13 hown hK hP hD hS 0 rfl rfl 7 (by decide) (hts _ qw1684) (fun _ h9 => h9) rfl hin rfl (by decide +kernel) rfl rfl (Nat.le_of_ble_eq_true rfl) dX13_init_26 (fun H locs hP hD hS => ?_)
  have hP : va_P (dC, dI) cls (List.flatten ([[(q0, .inr (14, [.null, .int 0, .int 46, .int 0, .int 0, .ref q1, .null, .ref q2, .null, .int 0, .int 0, .int 0, .int 0]))], (oJ4 q1 A9 K9 (fun _ => 16) (fun _ _ => 0)), [(q2, .inl (cq2, 40, .inl (fun _ => 0)))]] : List va_W)) H := hP
  have hD : va_D A (List.flatten ([[(q0, .inr (14, [.null, .int 0, .int 46, .int 0, .int 0, .ref q1, .null, .ref q2, .null, .int 0, .int 0, .int 0, .int 0]))], (oJ4 q1 A9 K9 (fun _ => 16) (fun _ _ => 0)), [(q2, .inl (cq2, 40, .inl (fun _ => 0)))]] : List va_W)) := hD
  refine lv_aload_n hx hb dX13_init_29 rfl (lv_at hl 0 rfl) ?_
  refine lv_bipush (v := 16) hx hb dX13_init_30 (by decide) ?_
  refine va_newa (atype := .int) (ty := .int) hx hb (hts _ qw97) rfl hK hP hD hS hA (N' := 16) (a0 := (16, .inl (fun _ => 0))) (fun _ => rfl) (by decide) (by decide +kernel) (Nat.le_of_ble_eq_true rfl) (show 3 + 1 ≤ 2450 from by omega) (show 60 + 16 ≤ 13200 from by omega) dX13_init_32 (fun q3 cq3 H hK hP hD hS => ?_)
  have hP : va_P (dC, dI) cls (List.flatten ([[(q0, .inr (14, [.null, .int 0, .int 46, .int 0, .int 0, .ref q1, .null, .ref q2, .null, .int 0, .int 0, .int 0, .int 0]))], (oJ4 q1 A9 K9 (fun _ => 16) (fun _ _ => 0)), [(q2, .inl (cq2, 40, .inl (fun _ => 0)))], [(q3, .inl (cq3, 16, .inl (fun _ => 0)))]] : List va_W)) H := hP
  have hD : va_D A (List.flatten ([[(q0, .inr (14, [.null, .int 0, .int 46, .int 0, .int 0, .ref q1, .null, .ref q2, .null, .int 0, .int 0, .int 0, .int 0]))], (oJ4 q1 A9 K9 (fun _ => 16) (fun _ _ => 0)), [(q2, .inl (cq2, 40, .inl (fun _ => 0)))], [(q3, .inl (cq3, 16, .inl (fun _ => 0)))]] : List va_W)) := hD
  have hK : va_K (dC, dI) cls (List.flatten ([[], (tJ4 K9), [(cq2, .int)], [(cq3, .int)]] : List (List (ClassId × FieldType)))) s := hK
  refine W.widen (k := 4) (n := 76) (Nat.le_of_ble_eq_true rfl) (Nat.le_of_ble_eq_true rfl) ?_
  refine va_putF (D := (dC, dI)) (ci := 14) (v := .ref q3) (ty := .array .int) (C := RX13) (T := TX13) (N := 13) hx hb hts i_X13 tyX13 tyX13_ok nmX13 hown hK hP hD hS 0 rfl rfl 8 (by decide) (hts _ qw1685) (fun _ h9 => h9) rfl hin rfl (by decide +kernel) rfl rfl (Nat.le_of_ble_eq_true rfl) dX13_init_34 (fun H locs hP hD hS => ?_)
  have hP : va_P (dC, dI) cls (List.flatten ([[(q0, .inr (14, [.null, .int 0, .int 46, .int 0, .int 0, .ref q1, .null, .ref q2, .ref q3, .int 0, .int 0, .int 0, .int 0]))], (oJ4 q1 A9 K9 (fun _ => 16) (fun _ _ => 0)), [(q2, .inl (cq2, 40, .inl (fun _ => 0)))], [(q3, .inl (cq3, 16, .inl (fun _ => 0)))]] : List va_W)) H := hP
  have hD : va_D A (List.flatten ([[(q0, .inr (14, [.null, .int 0, .int 46, .int 0, .int 0, .ref q1, .null, .ref q2, .ref q3, .int 0, .int 0, .int 0, .int 0]))], (oJ4 q1 A9 K9 (fun _ => 16) (fun _ _ => 0)), [(q2, .inl (cq2, 40, .inl (fun _ => 0)))], [(q3, .inl (cq3, 16, .inl (fun _ => 0)))]] : List va_W)) := hD
  refine lv_aload_n hx hb dX13_init_37 rfl (lv_at hl 0 rfl) ?_
  refine lv_aload_n hx hb dX13_init_38 rfl (lv_at hl 1 rfl) ?_
  refine va_putF (D := (dC, dI)) (ci := 14) (v := .ref xv) (ty := .array .int) (C := RX13) (T := TX13) (N := 13) hx hb hts i_X13 tyX13 tyX13_ok nmX13 hown hK hP hD hS 0 rfl rfl 0 (by decide) (hts _ qw1556) (fun _ h9 => h9) rfl hin rfl (by decide +kernel) rfl rfl (Nat.le_of_ble_eq_true rfl) dX13_init_39 (fun H locs hP hD hS => ?_)
  have hP : va_P (dC, dI) cls (List.flatten ([[(q0, .inr (14, [.ref xv, .int 0, .int 46, .int 0, .int 0, .ref q1, .null, .ref q2, .ref q3, .int 0, .int 0, .int 0, .int 0]))], (oJ4 q1 A9 K9 (fun _ => 16) (fun _ _ => 0)), [(q2, .inl (cq2, 40, .inl (fun _ => 0)))], [(q3, .inl (cq3, 16, .inl (fun _ => 0)))]] : List va_W)) H := hP
  have hD : va_D A (List.flatten ([[(q0, .inr (14, [.ref xv, .int 0, .int 46, .int 0, .int 0, .ref q1, .null, .ref q2, .ref q3, .int 0, .int 0, .int 0, .int 0]))], (oJ4 q1 A9 K9 (fun _ => 16) (fun _ _ => 0)), [(q2, .inl (cq2, 40, .inl (fun _ => 0)))], [(q3, .inl (cq3, 16, .inl (fun _ => 0)))]] : List va_W)) := hD
  refine lv_aload_n hx hb dX13_init_42 rfl (lv_at hl 0 rfl) ?_
  refine lv_iload_n hx hb dX13_init_43 rfl (lv_at hl 2 rfl) ?_
  refine va_put (D := (dC, dI)) (ci := 14) (v := .int p2) (ty := .int) (C := RX13) (T := TX13) (N := 13) hx hb hts i_X13 tyX13 tyX13_ok nmX13 hown hK hP hD hS 0 rfl rfl 1 (by decide) (hts _ qw1557) (fun _ h9 => h9) rfl (by decide +kernel) rfl rfl (Nat.le_of_ble_eq_true rfl) dX13_init_44 (fun H locs hP hD hS => ?_)
  have hP : va_P (dC, dI) cls (List.flatten ([[(q0, .inr (14, [.ref xv, .int p2, .int 46, .int 0, .int 0, .ref q1, .null, .ref q2, .ref q3, .int 0, .int 0, .int 0, .int 0]))], (oJ4 q1 A9 K9 (fun _ => 16) (fun _ _ => 0)), [(q2, .inl (cq2, 40, .inl (fun _ => 0)))], [(q3, .inl (cq3, 16, .inl (fun _ => 0)))]] : List va_W)) H := hP
  have hD : va_D A (List.flatten ([[(q0, .inr (14, [.ref xv, .int p2, .int 46, .int 0, .int 0, .ref q1, .null, .ref q2, .ref q3, .int 0, .int 0, .int 0, .int 0]))], (oJ4 q1 A9 K9 (fun _ => 16) (fun _ _ => 0)), [(q2, .inl (cq2, 40, .inl (fun _ => 0)))], [(q3, .inl (cq3, 16, .inl (fun _ => 0)))]] : List va_W)) := hD
  have hP : va_P (dC, dI) cls (List.flatten ([[(q0, .inr (14, [.ref xv, .int p2, .int 46, .int 0, .int 0, .ref q1, .null, .ref q2, .ref q3, .int 0, .int 0, .int 0, .int 0]))], (oJ4 q1 A9 K9 (fun _ => 16) (fun _ _ => 0)), [(q2, .inl (cq2, 40, .inl (fun _ => 0)))], [(q3, .inl (cq3, 16, .inl (fun _ => 0)))]] : List va_W)) H := vP_perm hP (bP (List.Perm.refl _))
  have hD : va_D A (List.flatten ([[(q0, .inr (14, [.ref xv, .int p2, .int 46, .int 0, .int 0, .ref q1, .null, .ref q2, .ref q3, .int 0, .int 0, .int 0, .int 0]))], (oJ4 q1 A9 K9 (fun _ => 16) (fun _ _ => 0)), [(q2, .inl (cq2, 40, .inl (fun _ => 0)))], [(q3, .inl (cq3, 16, .inl (fun _ => 0)))]] : List va_W)) := vD_perm hD (bP (List.Perm.refl _))
  have hK : va_K (dC, dI) cls (List.flatten ([[], (tJ4 K9), [(cq2, .int)], [(cq3, .int)]] : List (List (ClassId × FieldType)))) s := vK_perm hK (bP (List.Perm.refl _))
  have hP : va_P (dC, dI) cls (List.flatten ([[(q0, .inr (14, [.ref xv, .int p2, .int 46, .int 0, .int 0, .ref q1, .null, .ref q2, .ref q3, .int 0, .int 0, .int 0, .int 0]))], (oJ4 q1 A9 K9 (fun _ => 16) (fun _ _ => 0))] : List va_W)) H := vP_l (vP_fa (a := [[(q0, .inr (14, [.ref xv, .int p2, .int 46, .int 0, .int 0, .ref q1, .null, .ref q2, .ref q3, .int 0, .int 0, .int 0, .int 0]))], (oJ4 q1 A9 K9 (fun _ => 16) (fun _ _ => 0))]) hP)
  have hD : va_D A (List.flatten ([[(q0, .inr (14, [.ref xv, .int p2, .int 46, .int 0, .int 0, .ref q1, .null, .ref q2, .ref q3, .int 0, .int 0, .int 0, .int 0]))], (oJ4 q1 A9 K9 (fun _ => 16) (fun _ _ => 0))] : List va_W)) := vD_l (vD_fa (a := [[(q0, .inr (14, [.ref xv, .int p2, .int 46, .int 0, .int 0, .ref q1, .null, .ref q2, .ref q3, .int 0, .int 0, .int 0, .int 0]))], (oJ4 q1 A9 K9 (fun _ => 16) (fun _ _ => 0))]) hD)
  have hK : va_K (dC, dI) cls (List.flatten ([[], (tJ4 K9)] : List (List (ClassId × FieldType)))) s := vK_l (vK_fa (a := [[], (tJ4 K9)]) hK)
  have hP : va_P (dC, dI) cls (List.flatten ([[((mA q0 xv q1 0 q2 q3) 0, .inr (14, [.ref xv, .int ((mw0 p2) 0 1), .int ((mw0 p2) 0 2), .int ((mw0 p2) 0 3), .int ((mw0 p2) 0 4), .ref ((mA q0 xv q1 0 q2 q3) 6), .null, .ref ((mA q0 xv q1 0 q2 q3) 8), .ref ((mA q0 xv q1 0 q2 q3) 9), .int ((mw0 p2) 0 9), .int ((mw0 p2) 0 10), .int ((mw0 p2) 0 11), .int ((mw0 p2) 0 12)]))], (oJ4 ((mA q0 xv q1 0 q2 q3) 6) A9 K9 (fun _ => 16) (fun _ _ => 0))] : List va_W)) H := hP
  have hD : va_D A (List.flatten ([[((mA q0 xv q1 0 q2 q3) 0, .inr (14, [.ref xv, .int ((mw0 p2) 0 1), .int ((mw0 p2) 0 2), .int ((mw0 p2) 0 3), .int ((mw0 p2) 0 4), .ref ((mA q0 xv q1 0 q2 q3) 6), .null, .ref ((mA q0 xv q1 0 q2 q3) 8), .ref ((mA q0 xv q1 0 q2 q3) 9), .int ((mw0 p2) 0 9), .int ((mw0 p2) 0 10), .int ((mw0 p2) 0 11), .int ((mw0 p2) 0 12)]))], (oJ4 ((mA q0 xv q1 0 q2 q3) 6) A9 K9 (fun _ => 16) (fun _ _ => 0))] : List va_W)) := hD
  have hK : va_K (dC, dI) cls (List.flatten ([[], (tJ4 K9)] : List (List (ClassId × FieldType)))) s := hK
  refine lv_aload_n hx hb dX13_init_47 rfl (lv_at hl 0 rfl) ?_
  refine lv_aload_n hx hb dX13_init_48 rfl (lv_at hl 0 rfl) ?_
  refine lv_iconst (v := 0) hx hb dX13_init_49 (by decide) ?_
  refine lv_iconst (v := 3) hx hb dX13_init_50 (by decide) ?_
  refine lv_aload_n hx hb dX13_init_51 rfl (lv_at hl 0 rfl) ?_
  refine lv_iconst (v := 4) hx hb dX13_init_52 (by decide) ?_
  unfold fMade at hrun
  obtain ⟨o1, hc1, hrun⟩ := bnd9 hrun
  have hPx : va_P (dC, dI) cls ((List.flatten ([[((mA q0 xv q1 0 q2 q3) 0, .inr (14, [.ref xv, .int ((mw0 p2) 0 1), .int ((mw0 p2) 0 2), .int ((mw0 p2) 0 3), .int ((mw0 p2) 0 4), .ref ((mA q0 xv q1 0 q2 q3) 6), .null, .ref ((mA q0 xv q1 0 q2 q3) 8), .ref ((mA q0 xv q1 0 q2 q3) 9), .int ((mw0 p2) 0 9), .int ((mw0 p2) 0 10), .int ((mw0 p2) 0 11), .int ((mw0 p2) 0 12)]))]] : List va_W)) ++ (List.flatten ([(oJ4 ((mA q0 xv q1 0 q2 q3) 6) A9 K9 (fun _ => 16) (fun _ _ => 0))] : List va_W))) H := vP_fa (vP_perm hP (bP (List.Perm.refl _)))
  have hDx : va_D A ((List.flatten ([[((mA q0 xv q1 0 q2 q3) 0, .inr (14, [.ref xv, .int ((mw0 p2) 0 1), .int ((mw0 p2) 0 2), .int ((mw0 p2) 0 3), .int ((mw0 p2) 0 4), .ref ((mA q0 xv q1 0 q2 q3) 6), .null, .ref ((mA q0 xv q1 0 q2 q3) 8), .ref ((mA q0 xv q1 0 q2 q3) 9), .int ((mw0 p2) 0 9), .int ((mw0 p2) 0 10), .int ((mw0 p2) 0 11), .int ((mw0 p2) 0 12)]))]] : List va_W)) ++ (List.flatten ([(oJ4 ((mA q0 xv q1 0 q2 q3) 6) A9 K9 (fun _ => 16) (fun _ _ => 0))] : List va_W))) := vD_fa (vD_perm hD (bP (List.Perm.refl _)))
  have hKx : va_K (dC, dI) cls ((List.flatten ([[]] : List (List (ClassId × FieldType)))) ++ (List.flatten ([(tJ4 K9)] : List (List (ClassId × FieldType))))) s := vK_fa (vK_perm hK (bP (List.Perm.refl _)))
  have hPc := vP_l hPx
  have hDc := vD_l hDx
  have hKc := vK_l hKx
  have hFc := vfree hDx hS hA
  refine va_calli (va_runV (As := [.int 4]) (rest := [.int 3, .int 0, .ref q0, .ref q0]) ⟨hx, hb, hml, hown, hts⟩ (kX13_draw l dC dI (p0a := (mA q0 xv q1 0 q2 q3)) (p0w := (mw0 p2)) (p1 := 4) (xv := xv) (xm := xm) (xf := xf) (sz := _) (o := o1) (hrun := hc1)) (cwV 1 hts (gi_V qw1563 qw1564 qw1565 qw1566 (gi_z qw1562)) rfl rfl rfl (by decide +kernel) ⟨Nat.le_of_ble_eq_true rfl, Nat.le_of_ble_eq_true rfl⟩) ⟨PRE.blind, va_recv hKc hPc (ci := 14) (q0 := 0) rfl rfl, PRE.of (ENV.add hE xq9_m (zp_xq hE)) hS hFc hPc hKc hDc⟩ rfl rfl hl.1 rfl (lv_room (Nat.le_of_ble_eq_true rfl)) dX13_init_53 ⟨(show 4 + 0 ≤ 2450 from by omega), (show 76 + 0 ≤ 13200 from by omega)⟩) hS (fun q _ h => hFc q h) hFc (fun ra u t H locs ht hvm hw hB hz1 hk1 hS => ?_)
  obtain ⟨b1, b2, b3⟩ := hB
  obtain rfl : ra = o1.1 := hw
  rw [ht] at b1
  obtain ⟨hP, hD, hK⟩ := JOINC (wc := (List.flatten ([[((mA q0 xv q1 0 q2 q3) 0, .inr (14, [.ref xv, .int ((mw0 p2) 0 1), .int ((mw0 p2) 0 2), .int ((mw0 p2) 0 3), .int ((mw0 p2) 0 4), .ref ((mA q0 xv q1 0 q2 q3) 6), .null, .ref ((mA q0 xv q1 0 q2 q3) 8), .ref ((mA q0 xv q1 0 q2 q3) 9), .int ((mw0 p2) 0 9), .int ((mw0 p2) 0 10), .int ((mw0 p2) 0 11), .int ((mw0 p2) 0 12)]))]] : List va_W))) (wr := (List.flatten ([(oJ4 ((mA q0 xv q1 0 q2 q3) 6) A9 K9 (fun _ => 16) (fun _ _ => 0))] : List va_W))) (w1 := (List.flatten ([[((mA q0 xv q1 0 q2 q3) 0, .inr (14, [.ref xv, .int (o1.2 0 1), .int (o1.2 0 2), .int (o1.2 0 3), .int (o1.2 0 4), .ref ((mA q0 xv q1 0 q2 q3) 6), .null, .ref ((mA q0 xv q1 0 q2 q3) 8), .ref ((mA q0 xv q1 0 q2 q3) 9), .int (o1.2 0 9), .int (o1.2 0 10), .int (o1.2 0 11), .int (o1.2 0 12)]))]] : List va_W))) (t1 := (List.flatten ([[]] : List (List (ClassId × FieldType))))) hPx hDx hKx hk1 hFc b1 (va_K.moved hvm.symm b2) b3
  have hP : va_P (dC, dI) cls (List.flatten ([[((mA q0 xv q1 0 q2 q3) 0, .inr (14, [.ref xv, .int (o1.2 0 1), .int (o1.2 0 2), .int (o1.2 0 3), .int (o1.2 0 4), .ref ((mA q0 xv q1 0 q2 q3) 6), .null, .ref ((mA q0 xv q1 0 q2 q3) 8), .ref ((mA q0 xv q1 0 q2 q3) 9), .int (o1.2 0 9), .int (o1.2 0 10), .int (o1.2 0 11), .int (o1.2 0 12)]))], (oJ4 ((mA q0 xv q1 0 q2 q3) 6) A9 K9 (fun _ => 16) (fun _ _ => 0))] : List va_W)) H := vP_fb hP
  have hD : va_D A (List.flatten ([[((mA q0 xv q1 0 q2 q3) 0, .inr (14, [.ref xv, .int (o1.2 0 1), .int (o1.2 0 2), .int (o1.2 0 3), .int (o1.2 0 4), .ref ((mA q0 xv q1 0 q2 q3) 6), .null, .ref ((mA q0 xv q1 0 q2 q3) 8), .ref ((mA q0 xv q1 0 q2 q3) 9), .int (o1.2 0 9), .int (o1.2 0 10), .int (o1.2 0 11), .int (o1.2 0 12)]))], (oJ4 ((mA q0 xv q1 0 q2 q3) 6) A9 K9 (fun _ => 16) (fun _ _ => 0))] : List va_W)) := vD_fb hD
  have hK : va_K (dC, dI) cls (List.flatten ([[], (tJ4 K9)] : List (List (ClassId × FieldType)))) s := vK_fb hK
  refine lv_iadd hx hb dX13_init_56 ?_
  obtain ⟨hm, hrun⟩ := chk9 hrun
  obtain ⟨o2, hc2, hrun⟩ := bnd9 hrun
  obtain ⟨hlen, hrun⟩ := chk9 hrun
  have hbs9 := Option.some.inj hrun
  have hPx : va_P (dC, dI) cls ((List.flatten ([[((mA q0 xv q1 0 q2 q3) 0, .inr (14, [.ref xv, .int (o1.2 0 1), .int (o1.2 0 2), .int (o1.2 0 3), .int (o1.2 0 4), .ref ((mA q0 xv q1 0 q2 q3) 6), .null, .ref ((mA q0 xv q1 0 q2 q3) 8), .ref ((mA q0 xv q1 0 q2 q3) 9), .int (o1.2 0 9), .int (o1.2 0 10), .int (o1.2 0 11), .int (o1.2 0 12)]))]] : List va_W)) ++ (List.flatten ([(oJ4 ((mA q0 xv q1 0 q2 q3) 6) A9 K9 (fun _ => 16) (fun _ _ => 0))] : List va_W))) H := vP_fa (vP_perm hP (bP (List.Perm.refl _)))
  have hDx : va_D A ((List.flatten ([[((mA q0 xv q1 0 q2 q3) 0, .inr (14, [.ref xv, .int (o1.2 0 1), .int (o1.2 0 2), .int (o1.2 0 3), .int (o1.2 0 4), .ref ((mA q0 xv q1 0 q2 q3) 6), .null, .ref ((mA q0 xv q1 0 q2 q3) 8), .ref ((mA q0 xv q1 0 q2 q3) 9), .int (o1.2 0 9), .int (o1.2 0 10), .int (o1.2 0 11), .int (o1.2 0 12)]))]] : List va_W)) ++ (List.flatten ([(oJ4 ((mA q0 xv q1 0 q2 q3) 6) A9 K9 (fun _ => 16) (fun _ _ => 0))] : List va_W))) := vD_fa (vD_perm hD (bP (List.Perm.refl _)))
  have hKx : va_K (dC, dI) cls ((List.flatten ([[]] : List (List (ClassId × FieldType)))) ++ (List.flatten ([(tJ4 K9)] : List (List (ClassId × FieldType))))) s := vK_fa (vK_perm hK (bP (List.Perm.refl _)))
  have hPc := vP_l hPx
  have hDc := vD_l hDx
  have hKc := vK_l hKx
  have hFc := vfree hDx hS hA
  refine va_callr (va_runV (As := [.int 0, .int (3 + o1.1)]) (rest := [.ref q0]) ⟨hx, hb, hml, hown, hts⟩ (kX13_lines l (rN xm xf 3) (rNf 3) (rNl 3) (cN 3) 3 xv xm xf (rN_ok l xv xm xf 3) dC dI (mA q0 xv q1 0 q2 q3) o1.2 0 (3 + o1.1) 6 (Nat.le_refl 6) hm _ o2 hc2) (cwV 2 hts (gi_V qw1599 qw1600 qw1601 qw1566 (gi_z qw1598)) rfl rfl rfl (by decide +kernel) ⟨Nat.le_of_ble_eq_true rfl, Nat.le_of_ble_eq_true rfl⟩) ⟨PRE.blind, va_recv hKc hPc (ci := 14) (q0 := 0) rfl rfl, PRE.of (ENV.add hE xq9_m (zp_xq hE)) hS hFc hPc hKc hDc⟩ rfl rfl hl.1 rfl (lv_room (Nat.le_of_ble_eq_true rfl)) dX13_init_57 ⟨(show 4 + (1 + 6 * (cN 3 + 1)) ≤ 2450 from Nat.le_of_ble_eq_true rfl), (show 76 + 4 * (1 + 6 * (cN 3 + 1)) ≤ 13200 from Nat.le_of_ble_eq_true rfl)⟩) hS (fun q _ h => hFc q h) hFc (fun u ra t H locs ht hvm hw hB hz1 hk1 hS => ?_)
  obtain ⟨wt, tt, har, b1, b2, b3⟩ := hB
  rw [ht] at b1
  obtain ⟨hP, hD, hK⟩ := JOINC (wc := (List.flatten ([[((mA q0 xv q1 0 q2 q3) 0, .inr (14, [.ref xv, .int (o1.2 0 1), .int (o1.2 0 2), .int (o1.2 0 3), .int (o1.2 0 4), .ref ((mA q0 xv q1 0 q2 q3) 6), .null, .ref ((mA q0 xv q1 0 q2 q3) 8), .ref ((mA q0 xv q1 0 q2 q3) 9), .int (o1.2 0 9), .int (o1.2 0 10), .int (o1.2 0 11), .int (o1.2 0 12)]))]] : List va_W))) (wr := (List.flatten ([(oJ4 ((mA q0 xv q1 0 q2 q3) 6) A9 K9 (fun _ => 16) (fun _ _ => 0))] : List va_W))) (w1 := (List.flatten ([[((mA q0 xv q1 0 q2 q3) 0, .inr (14, [.ref xv, .int (o2.2 0 1), .int (o2.2 0 2), .int (o2.2 0 3), .int (o2.2 0 4), .ref ((mA q0 xv q1 0 q2 q3) 6), .null, .ref ((mA q0 xv q1 0 q2 q3) 8), .ref ((mA q0 xv q1 0 q2 q3) 9), .int (o2.2 0 9), .int (o2.2 0 10), .int (o2.2 0 11), .int (o2.2 0 12)]))], wt] : List va_W))) (t1 := (List.flatten ([[], tt] : List (List (ClassId × FieldType))))) hPx hDx hKx hk1 hFc b1 (va_K.moved hvm.symm b2) b3
  have hP : va_P (dC, dI) cls (List.flatten ([[((mA q0 xv q1 0 q2 q3) 0, .inr (14, [.ref xv, .int (o2.2 0 1), .int (o2.2 0 2), .int (o2.2 0 3), .int (o2.2 0 4), .ref ((mA q0 xv q1 0 q2 q3) 6), .null, .ref ((mA q0 xv q1 0 q2 q3) 8), .ref ((mA q0 xv q1 0 q2 q3) 9), .int (o2.2 0 9), .int (o2.2 0 10), .int (o2.2 0 11), .int (o2.2 0 12)]))], wt, (oJ4 ((mA q0 xv q1 0 q2 q3) 6) A9 K9 (fun _ => 16) (fun _ _ => 0))] : List va_W)) H := vP_fb hP
  have hD : va_D A (List.flatten ([[((mA q0 xv q1 0 q2 q3) 0, .inr (14, [.ref xv, .int (o2.2 0 1), .int (o2.2 0 2), .int (o2.2 0 3), .int (o2.2 0 4), .ref ((mA q0 xv q1 0 q2 q3) 6), .null, .ref ((mA q0 xv q1 0 q2 q3) 8), .ref ((mA q0 xv q1 0 q2 q3) 9), .int (o2.2 0 9), .int (o2.2 0 10), .int (o2.2 0 11), .int (o2.2 0 12)]))], wt, (oJ4 ((mA q0 xv q1 0 q2 q3) 6) A9 K9 (fun _ => 16) (fun _ _ => 0))] : List va_W)) := vD_fb hD
  have hK : va_K (dC, dI) cls (List.flatten ([[], tt, (tJ4 K9)] : List (List (ClassId × FieldType)))) s := vK_fb hK
  refine W.widen (k := 2429) (n := 9776) (Nat.le_of_ble_eq_true rfl) (Nat.le_of_ble_eq_true rfl) ?_
  have hP : va_P (dC, dI) cls (List.flatten ([[((mA q0 xv q1 0 q2 q3) 0, .inr (14, [.ref xv, .int (o2.2 0 1), .int (o2.2 0 2), .int (o2.2 0 3), .int (o2.2 0 4), .ref ((mA q0 xv q1 0 q2 q3) 6), .null, .ref ((mA q0 xv q1 0 q2 q3) 8), .ref ((mA q0 xv q1 0 q2 q3) 9), .int (o2.2 0 9), .int (o2.2 0 10), .int (o2.2 0 11), .int (o2.2 0 12)]))], (oJ4 ((mA q0 xv q1 0 q2 q3) 6) A9 K9 (fun _ => 16) (fun _ _ => 0)), wt] : List va_W)) H := vP_perm hP (bP (((List.Perm.refl _)).trans ((((((List.Perm.refl _)).cons _).trans (List.Perm.swap _ _ _))).cons _)))
  have hD : va_D A (List.flatten ([[((mA q0 xv q1 0 q2 q3) 0, .inr (14, [.ref xv, .int (o2.2 0 1), .int (o2.2 0 2), .int (o2.2 0 3), .int (o2.2 0 4), .ref ((mA q0 xv q1 0 q2 q3) 6), .null, .ref ((mA q0 xv q1 0 q2 q3) 8), .ref ((mA q0 xv q1 0 q2 q3) 9), .int (o2.2 0 9), .int (o2.2 0 10), .int (o2.2 0 11), .int (o2.2 0 12)]))], (oJ4 ((mA q0 xv q1 0 q2 q3) 6) A9 K9 (fun _ => 16) (fun _ _ => 0)), wt] : List va_W)) := vD_perm hD (bP (((List.Perm.refl _)).trans ((((((List.Perm.refl _)).cons _).trans (List.Perm.swap _ _ _))).cons _)))
  have hK : va_K (dC, dI) cls (List.flatten ([[], (tJ4 K9), tt] : List (List (ClassId × FieldType)))) s := vK_perm hK (bP (((List.Perm.refl _)).trans ((((((List.Perm.refl _)).cons _).trans (List.Perm.swap _ _ _))).cons _)))
  have hP : va_P (dC, dI) cls (List.flatten ([[(q0, .inr (14, [.ref xv, .int (o2.2 0 1), .int (o2.2 0 2), .int (o2.2 0 3), .int (o2.2 0 4), .ref q1, .null, .ref q2, .ref q3, .int (o2.2 0 9), .int (o2.2 0 10), .int (o2.2 0 11), .int (o2.2 0 12)]))], (oJ4 q1 A9 K9 (fun _ => 16) (fun _ _ => 0)), wt] : List va_W)) H := hP
  have hD : va_D A (List.flatten ([[(q0, .inr (14, [.ref xv, .int (o2.2 0 1), .int (o2.2 0 2), .int (o2.2 0 3), .int (o2.2 0 4), .ref q1, .null, .ref q2, .ref q3, .int (o2.2 0 9), .int (o2.2 0 10), .int (o2.2 0 11), .int (o2.2 0 12)]))], (oJ4 q1 A9 K9 (fun _ => 16) (fun _ _ => 0)), wt] : List va_W)) := hD
  have hK : va_K (dC, dI) cls (List.flatten ([[], (tJ4 K9), tt] : List (List (ClassId × FieldType)))) s := hK
  refine va_putF (D := (dC, dI)) (ci := 14) (v := .ref ra) (ty := .array (.object "GearboxLaw$Line")) (C := RX13) (T := TX13) (N := 13) hx hb hts i_X13 tyX13 tyX13_ok nmX13 hown hK hP hD hS 0 rfl rfl 6 (by decide) (hts _ qw1686) (fun _ h9 => h9) rfl hin rfl (by decide +kernel) rfl rfl (Nat.le_of_ble_eq_true rfl) dX13_init_60 (fun H locs hP hD hS => ?_)
  have hP : va_P (dC, dI) cls (List.flatten ([[(q0, .inr (14, [.ref xv, .int (o2.2 0 1), .int (o2.2 0 2), .int (o2.2 0 3), .int (o2.2 0 4), .ref q1, .ref ra, .ref q2, .ref q3, .int (o2.2 0 9), .int (o2.2 0 10), .int (o2.2 0 11), .int (o2.2 0 12)]))], (oJ4 q1 A9 K9 (fun _ => 16) (fun _ _ => 0)), wt] : List va_W)) H := hP
  have hD : va_D A (List.flatten ([[(q0, .inr (14, [.ref xv, .int (o2.2 0 1), .int (o2.2 0 2), .int (o2.2 0 3), .int (o2.2 0 4), .ref q1, .ref ra, .ref q2, .ref q3, .int (o2.2 0 9), .int (o2.2 0 10), .int (o2.2 0 11), .int (o2.2 0 12)]))], (oJ4 q1 A9 K9 (fun _ => 16) (fun _ _ => 0)), wt] : List va_W)) := hD
  have hT : TXS dC dI A (mA q0 xv q1 ra q2 q3) o2.2 wt tt [] s H locs := ⟨A9, K9, (fun _ => 16), (fun _ _ => 0), hP, hD, hK, hS, ⟨rfl, by decide, by decide⟩, ⟨rfl, rfl⟩, fun j hj => absurd hj (Nat.not_lt_zero _), fun _ => fb_1 0, asc_nil⟩
  clear hP hD hK hS
  have hR9 : 6 ≤ 250 ∧ 140 ≤ 10000 ∧ 2429 + pcl 0 (27 + (o2.1.length + 1)) ≤ 2450 ∧ 9776 + psl 0 (27 + (o2.1.length + 1)) ≤ 13200 := ⟨by decide, by decide, by have h1 := pcl_b (t := 0) (b := (27 + (o2.1.length + 1))) (by omega); omega, by have h1 := pcl_b (t := 0) (b := (27 + (o2.1.length + 1))) (by omega); omega⟩
  refine W.widen (k := 2429 + pcl 0 0) (n := 9776 + psl 0 0) (Nat.le_add_right _ _) (Nat.le_add_right _ _) ?_
  refine lv_aload_n hx hb dX13_init_63 rfl (lv_at hl 0 rfl) ?_
  have hT9 := hT
  obtain ⟨ta1, tk1, tn1, tw1, hP, hD, hK, hS, hsb1⟩ := hT9
  refine va_get (D := (dC, dI)) (ci := 14) (v := .ref q1) (C := RX13) (T := TX13) (N := 13) hx hb hts i_X13 hown hK hP 0 rfl rfl 5 (by decide) (hts _ qw1618) (fun _ h9 => h9) rfl dX13_init_64 ?_
  refine va_ldcS hx hb hown (zp_st hE 3 _ rfl).2 dX13_init_67 ?_
  refine tx_apS (l := l) (t0 := 0) (N := (27 + (o2.1.length + 1))) (c0 := 2429) (s0 := 9776) (x := ([102, 117, 110, 32, 102, 40, 97, 44, 98, 41, 123, 118, 97, 114, 32, 99, 61, 98, 59, 118, 97, 114, 32, 100, 61, 51, 59] : List Int32)) (b := 0) ⟨hx, hb, hml, hown, hts⟩ hE hA hT (st9_q (zp_st hE) 3 _ rfl) rfl (fun j _ => rfl) (asc_of (by decide)) (Or.inr ⟨rfl, by decide⟩) rfl (show 0 + 27 ≤ (27 + (o2.1.length + 1)) from by omega) (show 0 + (27 + (o2.1.length + 1)) ≤ 1150 from by omega) hR9 dX13_init_69 hl.1 (Nat.le_of_ble_eq_true rfl) (fun H locs hT => ?_)
  refine lv_pop hx hb dX13_init_72 rfl ?_
  refine lv_aload_n hx hb dX13_init_73 rfl (lv_at hl 0 rfl) ?_
  refine lv_aload_n hx hb dX13_init_74 rfl (lv_at hl 0 rfl) ?_
  have hT9 := hT
  obtain ⟨ta1, tk1, tn1, tw1, hP, hD, hK, hS, hsb1⟩ := hT9
  refine va_get (D := (dC, dI)) (ci := 14) (v := .ref ra) (C := RX13) (T := TX13) (N := 13) hx hb hts i_X13 hown hK hP 0 rfl rfl 6 (by decide) (hts _ qw1686) (fun _ h9 => h9) rfl dX13_init_75 ?_
  refine tx_pr (l := l) (t0 := 0) (N := (27 + (o2.1.length + 1))) (c0 := 2429) (s0 := 9776) (b := 27) ⟨hx, hb, hml, hown, hts⟩ hE hA hT (kX13_pa_s l aK aV aN aO dOv dTv wt tt (pLf 3) (pLl 3) 3 (kX13_pl l aK aV aN aO dOv dTv wt tt 3) ra _ _ har) (fun _ _ => cwV 1 hts (gi_V qw1631 qw1628 qw1629 qw1566 (gi_z qw1630)) rfl rfl rfl (by decide +kernel) ⟨Nat.le_of_ble_eq_true rfl, Nat.le_of_ble_eq_true rfl⟩) rfl (show 27 + o2.1.length ≤ (27 + (o2.1.length + 1)) from by omega) (show 0 + (27 + (o2.1.length + 1)) ≤ 1150 from by omega) hR9.2.2 dX13_init_78 hl.1 (Nat.le_of_ble_eq_true rfl) (fun H locs hT => ?_)
  refine lv_aload_n hx hb dX13_init_81 rfl (lv_at hl 0 rfl) ?_
  have hT9 := hT
  obtain ⟨ta1, tk1, tn1, tw1, hP, hD, hK, hS, hsb1⟩ := hT9
  refine va_get (D := (dC, dI)) (ci := 14) (v := .ref q1) (C := RX13) (T := TX13) (N := 13) hx hb hts i_X13 hown hK hP 0 rfl rfl 5 (by decide) (hts _ qw1618) (fun _ h9 => h9) rfl dX13_init_82 ?_
  refine va_ldcS hx hb hown (zp_st hE 4 _ rfl).2 dX13_init_85 ?_
  refine tx_apS (l := l) (t0 := 0) (N := (27 + (o2.1.length + 1))) (c0 := 2429) (s0 := 9776) (x := ([125] : List Int32)) (b := 27 + o2.1.length) ⟨hx, hb, hml, hown, hts⟩ hE hA hT (st9_q (zp_st hE) 4 _ rfl) rfl (fun j _ => rfl) (asc_of (by decide)) (Or.inl (by decide)) (by rw [List.length_append, List.nil_append]; show 27 + o2.1.length = _; omega) (show 27 + o2.1.length + 1 ≤ (27 + (o2.1.length + 1)) from by omega) (show 0 + (27 + (o2.1.length + 1)) ≤ 1150 from by omega) hR9 dX13_init_87 hl.1 (Nat.le_of_ble_eq_true rfl) (fun H locs hT => ?_)
  refine lv_pop hx hb dX13_init_90 rfl ?_
  obtain ⟨ta1, tk1, tn1, tw1, hP, hD, hK, hS, hsb1⟩ := hT
  have hP : va_P (dC, dI) cls (List.flatten ([(mdO (mA q0 xv q1 ra q2 q3) o2.2), (oJ4 ((mA q0 xv q1 ra q2 q3) 6) ta1 tk1 tn1 tw1), wt] : List va_W)) H := vP_perm hP (bP (List.Perm.refl _))
  have hD : va_D A (List.flatten ([(mdO (mA q0 xv q1 ra q2 q3) o2.2), (oJ4 ((mA q0 xv q1 ra q2 q3) 6) ta1 tk1 tn1 tw1), wt] : List va_W)) := vD_perm hD (bP (List.Perm.refl _))
  have hK : va_K (dC, dI) cls (List.flatten ([[], (tJ4 tk1), tt] : List (List (ClassId × FieldType)))) s := vK_perm hK (bP (List.Perm.refl _))
  have hP : va_P (dC, dI) cls (List.flatten ([(mdO (mA q0 xv q1 ra q2 q3) o2.2), (oJ4 ((mA q0 xv q1 ra q2 q3) 6) ta1 tk1 tn1 tw1)] : List va_W)) H := vP_l (vP_fa (a := [(mdO (mA q0 xv q1 ra q2 q3) o2.2), (oJ4 ((mA q0 xv q1 ra q2 q3) 6) ta1 tk1 tn1 tw1)]) hP)
  have hD : va_D A (List.flatten ([(mdO (mA q0 xv q1 ra q2 q3) o2.2), (oJ4 ((mA q0 xv q1 ra q2 q3) 6) ta1 tk1 tn1 tw1)] : List va_W)) := vD_l (vD_fa (a := [(mdO (mA q0 xv q1 ra q2 q3) o2.2), (oJ4 ((mA q0 xv q1 ra q2 q3) 6) ta1 tk1 tn1 tw1)]) hD)
  have hK : va_K (dC, dI) cls (List.flatten ([[], (tJ4 tk1)] : List (List (ClassId × FieldType)))) s := vK_l (vK_fa (a := [[], (tJ4 tk1)]) hK)
  have e9 : ([] : List Int32) ++ ([102, 117, 110, 32, 102, 40, 97, 44, 98, 41, 123, 118, 97, 114, 32, 99, 61, 98, 59, 118, 97, 114, 32, 100, 61, 51, 59] : List Int32) ++ o2.1 ++ ([125] : List Int32) = o := by rw [← hbs9, List.nil_append, List.append_assoc]
  rw [e9] at hsb1
  refine W.widen (k := 2450) (n := 13200) (by have h1 := pcl_b (t := 0) (b := 27 + o2.1.length + 1) (by omega); show 2429 + pcl 0 (27 + o2.1.length + 1) ≤ 2450; omega) (by have h1 := pcl_b (t := 0) (b := 27 + o2.1.length + 1) (by omega); show 9776 + psl 0 (27 + o2.1.length + 1) ≤ 13200; omega) ?_
  subst hQ
  exact W.vret hx hb hr (fun t ht hW => ⟨⟨(), rfl, trivial, (mA q0 xv q1 ra q2 q3), o2.2, ta1, tk1, tn1, tw1, rfl, hsb1, by rw [ht]; exact hP, va_K.moved hW.alike hK, hD⟩, hS.F ht⟩) hS.2.2 dX13_init_91
