abbrev cX2_bitIn : ByteArray := prog_4_method_16_code
def yX2_bitIn : MethodName := ⟨RX2, "bitIn", "(II)J"⟩
abbrev cX2_isIn : ByteArray := prog_4_method_7_code
def yX2_isIn : MethodName := ⟨RX2, "isIn", "([JII)Z"⟩
abbrev cX2_lowerLeft : ByteArray := prog_4_method_24_code
def yX2_lowerLeft : MethodName := ⟨RX2, "lowerLeft", "(I)V"⟩
abbrev cX2_noteUse : ByteArray := prog_4_method_5_code
def yX2_noteUse : MethodName := ⟨RX2, "noteUse", "(II)V"⟩
abbrev cX2_put : ByteArray := prog_4_method_6_code
def yX2_put : MethodName := ⟨RX2, "put", "([JII)V"⟩
abbrev cX2_registerBit : ByteArray := prog_4_method_26_code
def yX2_registerBit : MethodName := ⟨RX2, "registerBit", "(I)I"⟩
theorem dX2_bitIn_0 : decode cX2_bitIn 0 = .ok (.iload_n 2, 1) := by decide +kernel
theorem dX2_bitIn_1 : decode cX2_bitIn 1 = .ok (.ifCond .lt 28, 3) := by decide +kernel
theorem dX2_bitIn_4 : decode cX2_bitIn 4 = .ok (.iload_n 2, 1) := by decide +kernel
theorem dX2_bitIn_5 : decode cX2_bitIn 5 = .ok (.aload_n 0, 1) := by decide +kernel
theorem dX2_bitIn_6 : decode cX2_bitIn 6 = .ok (.getfield 58, 3) := by decide +kernel
theorem dX2_bitIn_9 : decode cX2_bitIn 9 = .ok (.if_icmp .ge 20, 3) := by decide +kernel
theorem dX2_bitIn_12 : decode cX2_bitIn 12 = .ok (.iload_n 2, 1) := by decide +kernel
theorem dX2_bitIn_13 : decode cX2_bitIn 13 = .ok (.bipush 6, 2) := by decide +kernel
theorem dX2_bitIn_15 : decode cX2_bitIn 15 = .ok (.ishr, 1) := by decide +kernel
theorem dX2_bitIn_16 : decode cX2_bitIn 16 = .ok (.iload_n 1, 1) := by decide +kernel
theorem dX2_bitIn_17 : decode cX2_bitIn 17 = .ok (.if_icmp .ne 12, 3) := by decide +kernel
theorem dX2_bitIn_20 : decode cX2_bitIn 20 = .ok (.lconst 1, 1) := by decide +kernel
theorem dX2_bitIn_21 : decode cX2_bitIn 21 = .ok (.iload_n 2, 1) := by decide +kernel
theorem dX2_bitIn_22 : decode cX2_bitIn 22 = .ok (.bipush 63, 2) := by decide +kernel
theorem dX2_bitIn_24 : decode cX2_bitIn 24 = .ok (.iand, 1) := by decide +kernel
theorem dX2_bitIn_25 : decode cX2_bitIn 25 = .ok (.lshl, 1) := by decide +kernel
theorem dX2_bitIn_26 : decode cX2_bitIn 26 = .ok (.goto 4, 3) := by decide +kernel
theorem dX2_bitIn_29 : decode cX2_bitIn 29 = .ok (.lconst 0, 1) := by decide +kernel
theorem dX2_bitIn_30 : decode cX2_bitIn 30 = .ok (.lreturn, 1) := by decide +kernel
theorem dX2_isIn_0 : decode cX2_isIn 0 = .ok (.aload_n 1, 1) := by decide +kernel
theorem dX2_isIn_1 : decode cX2_isIn 1 = .ok (.iload_n 2, 1) := by decide +kernel
theorem dX2_isIn_2 : decode cX2_isIn 2 = .ok (.aload_n 0, 1) := by decide +kernel
theorem dX2_isIn_3 : decode cX2_isIn 3 = .ok (.getfield 65, 3) := by decide +kernel
theorem dX2_isIn_6 : decode cX2_isIn 6 = .ok (.imul, 1) := by decide +kernel
theorem dX2_isIn_7 : decode cX2_isIn 7 = .ok (.iload_n 3, 1) := by decide +kernel
theorem dX2_isIn_8 : decode cX2_isIn 8 = .ok (.bipush 6, 2) := by decide +kernel
theorem dX2_isIn_10 : decode cX2_isIn 10 = .ok (.ishr, 1) := by decide +kernel
theorem dX2_isIn_11 : decode cX2_isIn 11 = .ok (.iadd, 1) := by decide +kernel
theorem dX2_isIn_12 : decode cX2_isIn 12 = .ok (.laload, 1) := by decide +kernel
theorem dX2_isIn_13 : decode cX2_isIn 13 = .ok (.iload_n 3, 1) := by decide +kernel
theorem dX2_isIn_14 : decode cX2_isIn 14 = .ok (.bipush 63, 2) := by decide +kernel
theorem dX2_isIn_16 : decode cX2_isIn 16 = .ok (.iand, 1) := by decide +kernel
theorem dX2_isIn_17 : decode cX2_isIn 17 = .ok (.invokestatic 154, 3) := by decide +kernel
theorem dX2_isIn_20 : decode cX2_isIn 20 = .ok (.ireturn, 1) := by decide +kernel
theorem dX2_lowerLeft_0 : decode cX2_lowerLeft 0 = .ok (.aload_n 0, 1) := by decide +kernel
theorem dX2_lowerLeft_1 : decode cX2_lowerLeft 1 = .ok (.getfield 52, 3) := by decide +kernel
theorem dX2_lowerLeft_4 : decode cX2_lowerLeft 4 = .ok (.iload_n 1, 1) := by decide +kernel
theorem dX2_lowerLeft_5 : decode cX2_lowerLeft 5 = .ok (.iaload, 1) := by decide +kernel
theorem dX2_lowerLeft_6 : decode cX2_lowerLeft 6 = .ok (.iconst (-1), 1) := by decide +kernel
theorem dX2_lowerLeft_7 : decode cX2_lowerLeft 7 = .ok (.if_icmp .eq 13, 3) := by decide +kernel
theorem dX2_lowerLeft_10 : decode cX2_lowerLeft 10 = .ok (.aload_n 0, 1) := by decide +kernel
theorem dX2_lowerLeft_11 : decode cX2_lowerLeft 11 = .ok (.getfield 52, 3) := by decide +kernel
theorem dX2_lowerLeft_14 : decode cX2_lowerLeft 14 = .ok (.iload_n 1, 1) := by decide +kernel
theorem dX2_lowerLeft_15 : decode cX2_lowerLeft 15 = .ok (.dup2, 1) := by decide +kernel
theorem dX2_lowerLeft_16 : decode cX2_lowerLeft 16 = .ok (.iaload, 1) := by decide +kernel
theorem dX2_lowerLeft_17 : decode cX2_lowerLeft 17 = .ok (.iconst 1, 1) := by decide +kernel
theorem dX2_lowerLeft_18 : decode cX2_lowerLeft 18 = .ok (.isub, 1) := by decide +kernel
theorem dX2_lowerLeft_19 : decode cX2_lowerLeft 19 = .ok (.iastore, 1) := by decide +kernel
theorem dX2_lowerLeft_20 : decode cX2_lowerLeft 20 = .ok (.return_, 1) := by decide +kernel
theorem dX2_noteUse_0 : decode cX2_noteUse 0 = .ok (.iload_n 2, 1) := by decide +kernel
theorem dX2_noteUse_1 : decode cX2_noteUse 1 = .ok (.aload_n 0, 1) := by decide +kernel
theorem dX2_noteUse_2 : decode cX2_noteUse 2 = .ok (.getfield 58, 3) := by decide +kernel
theorem dX2_noteUse_5 : decode cX2_noteUse 5 = .ok (.if_icmp .ge 26, 3) := by decide +kernel
theorem dX2_noteUse_8 : decode cX2_noteUse 8 = .ok (.aload_n 0, 1) := by decide +kernel
theorem dX2_noteUse_9 : decode cX2_noteUse 9 = .ok (.aload_n 0, 1) := by decide +kernel
theorem dX2_noteUse_10 : decode cX2_noteUse 10 = .ok (.getfield 15, 3) := by decide +kernel
theorem dX2_noteUse_13 : decode cX2_noteUse 13 = .ok (.iload_n 1, 1) := by decide +kernel
theorem dX2_noteUse_14 : decode cX2_noteUse 14 = .ok (.iload_n 2, 1) := by decide +kernel
theorem dX2_noteUse_15 : decode cX2_noteUse 15 = .ok (.invokevirtual 150, 3) := by decide +kernel
theorem dX2_noteUse_18 : decode cX2_noteUse 18 = .ok (.ifCond .ne 13, 3) := by decide +kernel
theorem dX2_noteUse_21 : decode cX2_noteUse 21 = .ok (.aload_n 0, 1) := by decide +kernel
theorem dX2_noteUse_22 : decode cX2_noteUse 22 = .ok (.aload_n 0, 1) := by decide +kernel
theorem dX2_noteUse_23 : decode cX2_noteUse 23 = .ok (.getfield 11, 3) := by decide +kernel
theorem dX2_noteUse_26 : decode cX2_noteUse 26 = .ok (.iload_n 1, 1) := by decide +kernel
theorem dX2_noteUse_27 : decode cX2_noteUse 27 = .ok (.iload_n 2, 1) := by decide +kernel
theorem dX2_noteUse_28 : decode cX2_noteUse 28 = .ok (.invokevirtual 140, 3) := by decide +kernel
theorem dX2_noteUse_31 : decode cX2_noteUse 31 = .ok (.return_, 1) := by decide +kernel
theorem dX2_put_0 : decode cX2_put 0 = .ok (.aload_n 1, 1) := by decide +kernel
theorem dX2_put_1 : decode cX2_put 1 = .ok (.iload_n 2, 1) := by decide +kernel
theorem dX2_put_2 : decode cX2_put 2 = .ok (.aload_n 0, 1) := by decide +kernel
theorem dX2_put_3 : decode cX2_put 3 = .ok (.getfield 65, 3) := by decide +kernel
theorem dX2_put_6 : decode cX2_put 6 = .ok (.imul, 1) := by decide +kernel
theorem dX2_put_7 : decode cX2_put 7 = .ok (.iload_n 3, 1) := by decide +kernel
theorem dX2_put_8 : decode cX2_put 8 = .ok (.bipush 6, 2) := by decide +kernel
theorem dX2_put_10 : decode cX2_put 10 = .ok (.ishr, 1) := by decide +kernel
theorem dX2_put_11 : decode cX2_put 11 = .ok (.iadd, 1) := by decide +kernel
theorem dX2_put_12 : decode cX2_put 12 = .ok (.dup2, 1) := by decide +kernel
theorem dX2_put_13 : decode cX2_put 13 = .ok (.laload, 1) := by decide +kernel
theorem dX2_put_14 : decode cX2_put 14 = .ok (.lconst 1, 1) := by decide +kernel
theorem dX2_put_15 : decode cX2_put 15 = .ok (.iload_n 3, 1) := by decide +kernel
theorem dX2_put_16 : decode cX2_put 16 = .ok (.bipush 63, 2) := by decide +kernel
theorem dX2_put_18 : decode cX2_put 18 = .ok (.iand, 1) := by decide +kernel
theorem dX2_put_19 : decode cX2_put 19 = .ok (.lshl, 1) := by decide +kernel
theorem dX2_put_20 : decode cX2_put 20 = .ok (.lor, 1) := by decide +kernel
theorem dX2_put_21 : decode cX2_put 21 = .ok (.lastore, 1) := by decide +kernel
theorem dX2_put_22 : decode cX2_put 22 = .ok (.return_, 1) := by decide +kernel
theorem dX2_registerBit_0 : decode cX2_registerBit 0 = .ok (.aload_n 0, 1) := by decide +kernel
theorem dX2_registerBit_1 : decode cX2_registerBit 1 = .ok (.getfield 49, 3) := by decide +kernel
theorem dX2_registerBit_4 : decode cX2_registerBit 4 = .ok (.iload_n 1, 1) := by decide +kernel
theorem dX2_registerBit_5 : decode cX2_registerBit 5 = .ok (.iaload, 1) := by decide +kernel
theorem dX2_registerBit_6 : decode cX2_registerBit 6 = .ok (.ifCond .ge 7, 3) := by decide +kernel
theorem dX2_registerBit_9 : decode cX2_registerBit 9 = .ok (.iconst 0, 1) := by decide +kernel
theorem dX2_registerBit_10 : decode cX2_registerBit 10 = .ok (.goto 11, 3) := by decide +kernel
theorem dX2_registerBit_13 : decode cX2_registerBit 13 = .ok (.iconst 1, 1) := by decide +kernel
theorem dX2_registerBit_14 : decode cX2_registerBit 14 = .ok (.aload_n 0, 1) := by decide +kernel
theorem dX2_registerBit_15 : decode cX2_registerBit 15 = .ok (.getfield 49, 3) := by decide +kernel
theorem dX2_registerBit_18 : decode cX2_registerBit 18 = .ok (.iload_n 1, 1) := by decide +kernel
theorem dX2_registerBit_19 : decode cX2_registerBit 19 = .ok (.iaload, 1) := by decide +kernel
theorem dX2_registerBit_20 : decode cX2_registerBit 20 = .ok (.ishl, 1) := by decide +kernel
theorem dX2_registerBit_21 : decode cX2_registerBit 21 = .ok (.ireturn, 1) := by decide +kernel
theorem qw375 : Cond.fieldLink RX2 58 "Gearbox$Graph" "homes" "I" ∈ gw := mq_3 (i := 23) rfl rfl
theorem qw377 : Cond.fieldLink RX2 65 "Gearbox$Graph" "width" "I" ∈ gw := mq_3 (i := 25) rfl rfl
theorem qw379 : Cond.code yX2_isIn cX2_isIn 4 (Option.some Jvm.ClassFile.FieldType.boolean) ∈ gw := mq_8 (i := 222) rfl rfl
theorem qw380 : Cond.methodLink RX2 150 yX2_isIn ∈ gw := mq_8 (i := 219) rfl rfl
theorem qw381 : Cond.instanceMethod yX2_isIn ∈ gw := mq_8 (i := 221) rfl rfl
theorem qw382 : Cond.selects RX2 yX2_isIn yX2_isIn ∈ gw := mk_s (i := 13) rfl rfl
theorem qw383 : Cond.initialized RX2 ∈ gw := mq_1 (i := 25) rfl rfl
theorem qw385 : Cond.code yX2_put cX2_put 4 (Option.none : Option Jvm.ClassFile.FieldType) ∈ gw := mq_8 (i := 227) rfl rfl
theorem qw386 : Cond.methodLink RX2 140 yX2_put ∈ gw := mq_8 (i := 224) rfl rfl
theorem qw387 : Cond.instanceMethod yX2_put ∈ gw := mq_8 (i := 226) rfl rfl
theorem qw388 : Cond.selects RX2 yX2_put yX2_put ∈ gw := mk_s (i := 14) rfl rfl
def sX2_bitIn_r (w_homes : Int32) (p0 : Int32) (p1 : Int32) : Int64 := (if p1 < 0 then 0 else (if w_homes ≤ p1 then 0 else (if (p1 >>> (6 &&& 31)) = p0 then (((1 : Int64) <<< (((p1 &&& 63) : Int32).toInt64 &&& 63))) else 0)))
set_option maxHeartbeats 4000000 in
set_option maxRecDepth 100000 in
theorem kX2_bitIn {zs : Nat × Nat} (l : Launch) (dC : Nat → ClassId) (dI : Nat → Nat → Nat) (h0 : Nat) (w_homes : Int32) (w_values : Int32) (w_width : Int32) (w_usesA : Nat) (w_givenInA : Nat) (w_liveInA : Nat) (w_liveA : Nat) (w_liveGuestsA : Nat) (w_guests : Int32) (w_chainA : Nat) (w_nearA : Nat) (w_mateA : Nat) (w_degreeA : Nat) (w_costA : Nat) (w_giversA : Nat) (w_giverA : Nat) (w_registerA : Nat) (w_leftA : Nat) (w_orderA : Nat) (p0 : Int32) (p1 : Int32) (sz : Nat)  : Met l yX2_bitIn (wz yX2_bitIn cX2_bitIn 3 (Option.some Jvm.ClassFile.FieldType.long)) ({ frames := 0, cells := 0, slots := 0, locals := 0 }) (va_Pc [.ref h0, .int p0, .int p1] (PRE zs dC dI [(h0, .inr (9, [.int w_homes, .int w_values, .int w_width, .ref w_usesA, .ref w_givenInA, .ref w_liveInA, .ref w_liveA, .ref w_liveGuestsA, .int w_guests, .ref w_chainA, .ref w_nearA, .ref w_mateA, .ref w_degreeA, .ref w_costA, .ref w_giversA, .ref w_giverA, .ref w_registerA, .ref w_leftA, .ref w_orderA]))] [] sz)) (va_Ql (fun (r : Int64) (_ : Unit) => r = (sX2_bitIn_r w_homes p0 p1)) (fun _ t => POST dC dI [(h0, .inr (9, [.int w_homes, .int w_values, .int w_width, .ref w_usesA, .ref w_givenInA, .ref w_liveInA, .ref w_liveA, .ref w_liveGuestsA, .int w_guests, .ref w_chainA, .ref w_nearA, .ref w_mateA, .ref w_degreeA, .ref w_costA, .ref w_giversA, .ref w_giverA, .ref w_registerA, .ref w_leftA, .ref w_orderA]))] [] (va_A [(h0, .inr (9, [.int w_homes, .int w_values, .int w_width, .ref w_usesA, .ref w_givenInA, .ref w_liveInA, .ref w_liveA, .ref w_liveGuestsA, .int w_guests, .ref w_chainA, .ref w_nearA, .ref w_mateA, .ref w_degreeA, .ref w_costA, .ref w_giversA, .ref w_giverA, .ref w_registerA, .ref w_leftA, .ref w_orderA]))] sz) t) (va_A [(h0, .inr (9, [.int w_homes, .int w_values, .int w_width, .ref w_usesA, .ref w_givenInA, .ref w_liveInA, .ref w_liveA, .ref w_liveGuestsA, .int w_guests, .ref w_chainA, .ref w_nearA, .ref w_mateA, .ref w_degreeA, .ref w_costA, .ref w_giversA, .ref w_giverA, .ref w_registerA, .ref w_leftA, .ref w_orderA]))] sz)) 0 0 (va_A [(h0, .inr (9, [.int w_homes, .int w_values, .int w_width, .ref w_usesA, .ref w_givenInA, .ref w_liveInA, .ref w_liveA, .ref w_liveGuestsA, .int w_guests, .ref w_chainA, .ref w_nearA, .ref w_mateA, .ref w_degreeA, .ref w_costA, .ref w_giversA, .ref w_giverA, .ref w_registerA, .ref w_leftA, .ref w_orderA]))] sz) := by
  refine Met.ofW (cc := cX2_bitIn) (maxL := 3) (ret := (Option.some Jvm.ClassFile.FieldType.long)) (by decide) rfl ?_
  intro p e s m args below meth c s₁ B hml hv
  obtain ⟨rfl, hsz, hP, hK, hD0, hE⟩ := hv
  have hx := B.exec
  have hb := B.bytes
  have hr := B.returns
  have hts0 := atoms_spec (ws := wz yX2_bitIn cX2_bitIn 3 (Option.some Jvm.ClassFile.FieldType.long)) B.pre
  have hts : ∀ w ∈ gw, w.before _ s = true := fun w h => hts0 w (List.mem_cons_of_mem _ h)
  have hown : s.vm.findClass RX2 = some m.cls := findClass_of_methodNamed B.named
  have hlocks := B.notSynchronized
  subst hsz
  have hD := hD0.self (sz := s.heap.size)
  generalize hAe : va_A [(h0, .inr (9, [.int w_homes, .int w_values, .int w_width, .ref w_usesA, .ref w_givenInA, .ref w_liveInA, .ref w_liveA, .ref w_liveGuestsA, .int w_guests, .ref w_chainA, .ref w_nearA, .ref w_mateA, .ref w_degreeA, .ref w_costA, .ref w_giversA, .ref w_giverA, .ref w_registerA, .ref w_leftA, .ref w_orderA]))] s.heap.size = A at hD hE ⊢
  have hA : ∀ q : Nat, s.heap.size ≤ q → A q := fun q h => by rw [← hAe]; exact Or.inr h
  have hS : va_S A s.heap s.heap [] := va_S.rf
  have hP : va_P (dC, dI) cls [(h0, .inr (9, [.int w_homes, .int w_values, .int w_width, .ref w_usesA, .ref w_givenInA, .ref w_liveInA, .ref w_liveA, .ref w_liveGuestsA, .int w_guests, .ref w_chainA, .ref w_nearA, .ref w_mateA, .ref w_degreeA, .ref w_costA, .ref w_giversA, .ref w_giverA, .ref w_registerA, .ref w_leftA, .ref w_orderA]))] s.heap := hP
  have hl := lv_entry ([.ref h0, .int p0, .int p1]) (n := 3) (Nat.le_of_ble_eq_true rfl)
  rw [lg_entry_eq]
  generalize (lg_sl ([.ref h0, .int p0, .int p1]) ++ List.replicate (3 - (lg_sl ([.ref h0, .int p0, .int p1])).length) Slot.unset).toArray = ls at hl ⊢
  have hl : lv_has ls 3 [(0, .ref h0), (1, .int p0), (2, .int p1)] := hl
  refine lv_iload_n hx hb dX2_bitIn_0 rfl (lv_at hl 2 rfl) ?_
  by_cases hc1 : p1 < 0
  · refine lv_if_lt (tgt := 29) hx hb dX2_bitIn_1 (by decide) (fun _ => ?_) (fun c => absurd hc1 c)
    refine lv_lconst (v := 0) hx hb dX2_bitIn_29 (by decide) ?_
    have e_sX2_bitIn_r : sX2_bitIn_r w_homes p0 p1 = 0 := by unfold sX2_bitIn_r; rw [if_pos hc1]
    have hP9 : va_P (dC, dI) cls [(h0, .inr (9, [.int w_homes, .int w_values, .int w_width, .ref w_usesA, .ref w_givenInA, .ref w_liveInA, .ref w_liveA, .ref w_liveGuestsA, .int w_guests, .ref w_chainA, .ref w_nearA, .ref w_mateA, .ref w_degreeA, .ref w_costA, .ref w_giversA, .ref w_giverA, .ref w_registerA, .ref w_leftA, .ref w_orderA]))] s.heap := by exact hP.sub [0] rfl
    have hD9 : va_D A [(h0, .inr (9, [.int w_homes, .int w_values, .int w_width, .ref w_usesA, .ref w_givenInA, .ref w_liveInA, .ref w_liveA, .ref w_liveGuestsA, .int w_guests, .ref w_chainA, .ref w_nearA, .ref w_mateA, .ref w_degreeA, .ref w_costA, .ref w_giversA, .ref w_giverA, .ref w_registerA, .ref w_leftA, .ref w_orderA]))] := by exact hD.sub [0] (by decide) rfl
    have hK9 : va_K (dC, dI) cls [] s := hK.sub [] rfl
    refine W.widen (k := 0) (n := 0) (Nat.le_of_ble_eq_true rfl) (Nat.le_of_ble_eq_true rfl) ?_
    exact W.lret (v := 0) hx hb hr (fun t ht hW => ⟨⟨0, (), rfl, e_sX2_bitIn_r.symm, ⟨by rw [ht]; exact hP9, va_K.moved hW.alike hK9, hD9⟩⟩, hS.F ht⟩) hS.2.2 dX2_bitIn_30
  · refine lv_if_lt (tgt := 29) hx hb dX2_bitIn_1 (by decide) (fun c => absurd c hc1) (fun _ => ?_)
    refine lv_iload_n hx hb dX2_bitIn_4 rfl (lv_at hl 2 rfl) ?_
    refine lv_aload_n hx hb dX2_bitIn_5 rfl (lv_at hl 0 rfl) ?_
    refine va_get (D := (dC, dI)) (ci := 9) (v := .int w_homes) (C := RX2) (T := TX2) (N := 19) hx hb hts i_X2 hown hK hP 0 rfl rfl 0 (by decide) (hts _ qw375) (fun _ h9 => h9) rfl dX2_bitIn_6 ?_
    by_cases hc2 : w_homes ≤ p1
    · refine lv_icmp_ge (tgt := 29) hx hb dX2_bitIn_9 (by decide) (fun _ => ?_) (fun c => absurd hc2 c)
      refine lv_lconst (v := 0) hx hb dX2_bitIn_29 (by decide) ?_
      have e_sX2_bitIn_r : sX2_bitIn_r w_homes p0 p1 = 0 := by unfold sX2_bitIn_r; rw [if_neg hc1, if_pos hc2]
      have hP9 : va_P (dC, dI) cls [(h0, .inr (9, [.int w_homes, .int w_values, .int w_width, .ref w_usesA, .ref w_givenInA, .ref w_liveInA, .ref w_liveA, .ref w_liveGuestsA, .int w_guests, .ref w_chainA, .ref w_nearA, .ref w_mateA, .ref w_degreeA, .ref w_costA, .ref w_giversA, .ref w_giverA, .ref w_registerA, .ref w_leftA, .ref w_orderA]))] s.heap := by exact hP.sub [0] rfl
      have hD9 : va_D A [(h0, .inr (9, [.int w_homes, .int w_values, .int w_width, .ref w_usesA, .ref w_givenInA, .ref w_liveInA, .ref w_liveA, .ref w_liveGuestsA, .int w_guests, .ref w_chainA, .ref w_nearA, .ref w_mateA, .ref w_degreeA, .ref w_costA, .ref w_giversA, .ref w_giverA, .ref w_registerA, .ref w_leftA, .ref w_orderA]))] := by exact hD.sub [0] (by decide) rfl
      have hK9 : va_K (dC, dI) cls [] s := hK.sub [] rfl
      refine W.widen (k := 0) (n := 0) (Nat.le_of_ble_eq_true rfl) (Nat.le_of_ble_eq_true rfl) ?_
      exact W.lret (v := 0) hx hb hr (fun t ht hW => ⟨⟨0, (), rfl, e_sX2_bitIn_r.symm, ⟨by rw [ht]; exact hP9, va_K.moved hW.alike hK9, hD9⟩⟩, hS.F ht⟩) hS.2.2 dX2_bitIn_30
    · refine lv_icmp_ge (tgt := 29) hx hb dX2_bitIn_9 (by decide) (fun c => absurd c hc2) (fun _ => ?_)
      refine lv_iload_n hx hb dX2_bitIn_12 rfl (lv_at hl 2 rfl) ?_
      refine lv_bipush (v := 6) hx hb dX2_bitIn_13 (by decide) ?_
      refine lv_ishr hx hb dX2_bitIn_15 ?_
      refine lv_iload_n hx hb dX2_bitIn_16 rfl (lv_at hl 1 rfl) ?_
      by_cases hc3 : (p1 >>> (6 &&& 31)) = p0
      · refine lv_icmp_ne (tgt := 29) hx hb dX2_bitIn_17 (by decide) (fun c => absurd hc3 c) (fun _ => ?_)
        refine lv_lconst (v := 1) hx hb dX2_bitIn_20 (by decide) ?_
        refine lv_iload_n hx hb dX2_bitIn_21 rfl (lv_at hl 2 rfl) ?_
        refine lv_bipush (v := 63) hx hb dX2_bitIn_22 (by decide) ?_
        refine lv_iand hx hb dX2_bitIn_24 ?_
        refine lv_lshl (v := (((1 : Int64) <<< (((p1 &&& 63) : Int32).toInt64 &&& 63)))) hx hb dX2_bitIn_25 rfl ?_
        refine lv_goto (tgt := 30) hx hb dX2_bitIn_26 (by decide) ?_
        have e_sX2_bitIn_r : sX2_bitIn_r w_homes p0 p1 = (((1 : Int64) <<< (((p1 &&& 63) : Int32).toInt64 &&& 63))) := by unfold sX2_bitIn_r; rw [if_neg hc1, if_neg hc2, if_pos hc3]
        have hP9 : va_P (dC, dI) cls [(h0, .inr (9, [.int w_homes, .int w_values, .int w_width, .ref w_usesA, .ref w_givenInA, .ref w_liveInA, .ref w_liveA, .ref w_liveGuestsA, .int w_guests, .ref w_chainA, .ref w_nearA, .ref w_mateA, .ref w_degreeA, .ref w_costA, .ref w_giversA, .ref w_giverA, .ref w_registerA, .ref w_leftA, .ref w_orderA]))] s.heap := by exact hP.sub [0] rfl
        have hD9 : va_D A [(h0, .inr (9, [.int w_homes, .int w_values, .int w_width, .ref w_usesA, .ref w_givenInA, .ref w_liveInA, .ref w_liveA, .ref w_liveGuestsA, .int w_guests, .ref w_chainA, .ref w_nearA, .ref w_mateA, .ref w_degreeA, .ref w_costA, .ref w_giversA, .ref w_giverA, .ref w_registerA, .ref w_leftA, .ref w_orderA]))] := by exact hD.sub [0] (by decide) rfl
        have hK9 : va_K (dC, dI) cls [] s := hK.sub [] rfl
        refine W.widen (k := 0) (n := 0) (Nat.le_of_ble_eq_true rfl) (Nat.le_of_ble_eq_true rfl) ?_
        exact W.lret (v := (((1 : Int64) <<< (((p1 &&& 63) : Int32).toInt64 &&& 63)))) hx hb hr (fun t ht hW => ⟨⟨(((1 : Int64) <<< (((p1 &&& 63) : Int32).toInt64 &&& 63))), (), rfl, e_sX2_bitIn_r.symm, ⟨by rw [ht]; exact hP9, va_K.moved hW.alike hK9, hD9⟩⟩, hS.F ht⟩) hS.2.2 dX2_bitIn_30
      · refine lv_icmp_ne (tgt := 29) hx hb dX2_bitIn_17 (by decide) (fun _ => ?_) (fun c => absurd c hc3)
        refine lv_lconst (v := 0) hx hb dX2_bitIn_29 (by decide) ?_
        have e_sX2_bitIn_r : sX2_bitIn_r w_homes p0 p1 = 0 := by unfold sX2_bitIn_r; rw [if_neg hc1, if_neg hc2, if_neg hc3]
        have hP9 : va_P (dC, dI) cls [(h0, .inr (9, [.int w_homes, .int w_values, .int w_width, .ref w_usesA, .ref w_givenInA, .ref w_liveInA, .ref w_liveA, .ref w_liveGuestsA, .int w_guests, .ref w_chainA, .ref w_nearA, .ref w_mateA, .ref w_degreeA, .ref w_costA, .ref w_giversA, .ref w_giverA, .ref w_registerA, .ref w_leftA, .ref w_orderA]))] s.heap := by exact hP.sub [0] rfl
        have hD9 : va_D A [(h0, .inr (9, [.int w_homes, .int w_values, .int w_width, .ref w_usesA, .ref w_givenInA, .ref w_liveInA, .ref w_liveA, .ref w_liveGuestsA, .int w_guests, .ref w_chainA, .ref w_nearA, .ref w_mateA, .ref w_degreeA, .ref w_costA, .ref w_giversA, .ref w_giverA, .ref w_registerA, .ref w_leftA, .ref w_orderA]))] := by exact hD.sub [0] (by decide) rfl
        have hK9 : va_K (dC, dI) cls [] s := hK.sub [] rfl
        refine W.widen (k := 0) (n := 0) (Nat.le_of_ble_eq_true rfl) (Nat.le_of_ble_eq_true rfl) ?_
        exact W.lret (v := 0) hx hb hr (fun t ht hW => ⟨⟨0, (), rfl, e_sX2_bitIn_r.symm, ⟨by rw [ht]; exact hP9, va_K.moved hW.alike hK9, hD9⟩⟩, hS.F ht⟩) hS.2.2 dX2_bitIn_30
set_option maxHeartbeats 4000000 in
set_option maxRecDepth 100000 in
theorem kX2_isIn {zs : Nat × Nat} (l : Launch) (dC : Nat → ClassId) (dI : Nat → Nat → Nat) (h0 : Nat) (w_homes : Int32) (w_values : Int32) (w_width : Int32) (w_usesA : Nat) (w_givenInA : Nat) (w_liveInA : Nat) (w_liveA : Nat) (w_liveGuestsA : Nat) (w_guests : Int32) (w_chainA : Nat) (w_nearA : Nat) (w_mateA : Nat) (w_degreeA : Nat) (w_costA : Nat) (w_giversA : Nat) (w_giverA : Nat) (w_registerA : Nat) (w_leftA : Nat) (w_orderA : Nat) (p0A : Nat) (p0C : ClassId) (p0N : Nat) (p0F : Nat → Int64) (p1 : Int32) (p2 : Int32) (sz : Nat) (hq1 : vp_in ((p1 * w_width) + (p2 >>> (6 &&& 31))) p0N) : Met l yX2_isIn (wz yX2_isIn cX2_isIn 4 (Option.some Jvm.ClassFile.FieldType.boolean)) ({ frames := 1, cells := 0, slots := 0, locals := 22 }) (va_Pc [.ref h0, .ref p0A, .int p1, .int p2] (PRE zs dC dI [(h0, .inr (9, [.int w_homes, .int w_values, .int w_width, .ref w_usesA, .ref w_givenInA, .ref w_liveInA, .ref w_liveA, .ref w_liveGuestsA, .int w_guests, .ref w_chainA, .ref w_nearA, .ref w_mateA, .ref w_degreeA, .ref w_costA, .ref w_giversA, .ref w_giverA, .ref w_registerA, .ref w_leftA, .ref w_orderA])), (p0A, .inl (p0C, p0N, .inr (.inl p0F)))] [(p0C, .long)] sz)) (va_Qi (fun (r : Int32) (_ : Unit) => r = (sX11_holds_r (p0F (Int32.toNatClampNeg ((p1 * w_width) + (p2 >>> (6 &&& 31))))) (p2 &&& 63))) (fun _ t => POST dC dI [(h0, .inr (9, [.int w_homes, .int w_values, .int w_width, .ref w_usesA, .ref w_givenInA, .ref w_liveInA, .ref w_liveA, .ref w_liveGuestsA, .int w_guests, .ref w_chainA, .ref w_nearA, .ref w_mateA, .ref w_degreeA, .ref w_costA, .ref w_giversA, .ref w_giverA, .ref w_registerA, .ref w_leftA, .ref w_orderA])), (p0A, .inl (p0C, p0N, .inr (.inl p0F)))] [(p0C, .long)] (va_A [(h0, .inr (9, [.int w_homes, .int w_values, .int w_width, .ref w_usesA, .ref w_givenInA, .ref w_liveInA, .ref w_liveA, .ref w_liveGuestsA, .int w_guests, .ref w_chainA, .ref w_nearA, .ref w_mateA, .ref w_degreeA, .ref w_costA, .ref w_giversA, .ref w_giverA, .ref w_registerA, .ref w_leftA, .ref w_orderA])), (p0A, .inl (p0C, p0N, .inr (.inl p0F)))] sz) t) (va_A [(h0, .inr (9, [.int w_homes, .int w_values, .int w_width, .ref w_usesA, .ref w_givenInA, .ref w_liveInA, .ref w_liveA, .ref w_liveGuestsA, .int w_guests, .ref w_chainA, .ref w_nearA, .ref w_mateA, .ref w_degreeA, .ref w_costA, .ref w_giversA, .ref w_giverA, .ref w_registerA, .ref w_leftA, .ref w_orderA])), (p0A, .inl (p0C, p0N, .inr (.inl p0F)))] sz)) 0 0 (va_A [(h0, .inr (9, [.int w_homes, .int w_values, .int w_width, .ref w_usesA, .ref w_givenInA, .ref w_liveInA, .ref w_liveA, .ref w_liveGuestsA, .int w_guests, .ref w_chainA, .ref w_nearA, .ref w_mateA, .ref w_degreeA, .ref w_costA, .ref w_giversA, .ref w_giverA, .ref w_registerA, .ref w_leftA, .ref w_orderA])), (p0A, .inl (p0C, p0N, .inr (.inl p0F)))] sz) := by
  refine Met.ofW (cc := cX2_isIn) (maxL := 4) (ret := (Option.some Jvm.ClassFile.FieldType.boolean)) (by decide) rfl ?_
  intro p e s m args below meth c s₁ B hml hv
  obtain ⟨rfl, hsz, hP, hK, hD0, hE⟩ := hv
  have hx := B.exec
  have hb := B.bytes
  have hr := B.returns
  have hts0 := atoms_spec (ws := wz yX2_isIn cX2_isIn 4 (Option.some Jvm.ClassFile.FieldType.boolean)) B.pre
  have hts : ∀ w ∈ gw, w.before _ s = true := fun w h => hts0 w (List.mem_cons_of_mem _ h)
  have hown : s.vm.findClass RX2 = some m.cls := findClass_of_methodNamed B.named
  have hlocks := B.notSynchronized
  subst hsz
  have hD := hD0.self (sz := s.heap.size)
  generalize hAe : va_A [(h0, .inr (9, [.int w_homes, .int w_values, .int w_width, .ref w_usesA, .ref w_givenInA, .ref w_liveInA, .ref w_liveA, .ref w_liveGuestsA, .int w_guests, .ref w_chainA, .ref w_nearA, .ref w_mateA, .ref w_degreeA, .ref w_costA, .ref w_giversA, .ref w_giverA, .ref w_registerA, .ref w_leftA, .ref w_orderA])), (p0A, .inl (p0C, p0N, .inr (.inl p0F)))] s.heap.size = A at hD hE ⊢
  have hA : ∀ q : Nat, s.heap.size ≤ q → A q := fun q h => by rw [← hAe]; exact Or.inr h
  have hS : va_S A s.heap s.heap [] := va_S.rf
  have hP : va_P (dC, dI) cls [(h0, .inr (9, [.int w_homes, .int w_values, .int w_width, .ref w_usesA, .ref w_givenInA, .ref w_liveInA, .ref w_liveA, .ref w_liveGuestsA, .int w_guests, .ref w_chainA, .ref w_nearA, .ref w_mateA, .ref w_degreeA, .ref w_costA, .ref w_giversA, .ref w_giverA, .ref w_registerA, .ref w_leftA, .ref w_orderA])), (p0A, .inl (p0C, p0N, .inr (.inl p0F)))] s.heap := hP
  have hl := lv_entry ([.ref h0, .ref p0A, .int p1, .int p2]) (n := 4) (Nat.le_of_ble_eq_true rfl)
  rw [lg_entry_eq]
  generalize (lg_sl ([.ref h0, .ref p0A, .int p1, .int p2]) ++ List.replicate (4 - (lg_sl ([.ref h0, .ref p0A, .int p1, .int p2])).length) Slot.unset).toArray = ls at hl ⊢
  have hl : lv_has ls 4 [(0, .ref h0), (1, .ref p0A), (2, .int p1), (3, .int p2)] := hl
  refine lv_aload_n hx hb dX2_isIn_0 rfl (lv_at hl 1 rfl) ?_
  refine lv_iload_n hx hb dX2_isIn_1 rfl (lv_at hl 2 rfl) ?_
  refine lv_aload_n hx hb dX2_isIn_2 rfl (lv_at hl 0 rfl) ?_
  refine va_get (D := (dC, dI)) (ci := 9) (v := .int w_width) (C := RX2) (T := TX2) (N := 19) hx hb hts i_X2 hown hK hP 0 rfl rfl 2 (by decide) (hts _ qw377) (fun _ h9 => h9) rfl dX2_isIn_3 ?_
  refine lv_imul hx hb dX2_isIn_6 ?_
  refine lv_iload_n hx hb dX2_isIn_7 rfl (lv_at hl 3 rfl) ?_
  refine lv_bipush (v := 6) hx hb dX2_isIn_8 (by decide) ?_
  refine lv_ishr hx hb dX2_isIn_10 ?_
  refine lv_iadd hx hb dX2_isIn_11 ?_
  refine va_lald hx hb hK hP 1 0 rfl rfl (hq1) dX2_isIn_12 ?_
  refine lv_iload_n hx hb dX2_isIn_13 rfl (lv_at hl 3 rfl) ?_
  refine lv_bipush (v := 63) hx hb dX2_isIn_14 (by decide) ?_
  refine lv_iand hx hb dX2_isIn_16 ?_
  have hPc := hP.sub (ws' := []) [] rfl
  have hDc := hD.sub (ws' := []) [] (by decide) rfl
  have hKc := hK.sub (tys' := []) [] rfl
  have hFc := va_free (wc := []) hD hS hA [] rfl
  refine va_calli (va_runSN (As := [.long (p0F (Int32.toNatClampNeg ((p1 * w_width) + (p2 >>> (6 &&& 31))))), .int (p2 &&& 63)]) (rest := []) ⟨hx, hb, hml, hown, hts⟩ (kX11_holds l dC dI (p0 := (p0F (Int32.toNatClampNeg ((p1 * w_width) + (p2 >>> (6 &&& 31)))))) (p1 := (p2 &&& 63)) (sz := _)) ⟨(va_cnB 2 hts (gi_z qw245) rfl rfl rfl (hE.nw (List.mem_append_right _ (tbl_8 (i := 223) rfl)) rfl) (hts _ qw120) (by decide +kernel) ⟨Nat.le_of_ble_eq_true rfl, Nat.le_of_ble_eq_true rfl⟩), (hts _ qw246), trivial⟩ ⟨PRE.blind, PRE.of hE hS hFc hPc hKc hDc⟩ rfl rfl hl.1 rfl (lv_room (Nat.le_of_ble_eq_true rfl)) dX2_isIn_17 ⟨Nat.le_of_ble_eq_true rfl, Nat.le_of_ble_eq_true rfl⟩) hS (fun q _ h => hFc q h) hFc (fun r1 u t H locs ht hvm hw hB hz1 hk1 hS => ?_)
  obtain ⟨hP, hD, hK⟩ := JOIN (wr := [(h0, .inr (9, [.int w_homes, .int w_values, .int w_width, .ref w_usesA, .ref w_givenInA, .ref w_liveInA, .ref w_liveA, .ref w_liveGuestsA, .int w_guests, .ref w_chainA, .ref w_nearA, .ref w_mateA, .ref w_degreeA, .ref w_costA, .ref w_giversA, .ref w_giverA, .ref w_registerA, .ref w_leftA, .ref w_orderA])), (p0A, .inl (p0C, p0N, .inr (.inl p0F)))]) hP hD hK [] [0, 1] [0] rfl rfl (by decide) (by decide) rfl hk1 hFc ht hvm hB
  have hP : va_P (dC, dI) cls [(h0, .inr (9, [.int w_homes, .int w_values, .int w_width, .ref w_usesA, .ref w_givenInA, .ref w_liveInA, .ref w_liveA, .ref w_liveGuestsA, .int w_guests, .ref w_chainA, .ref w_nearA, .ref w_mateA, .ref w_degreeA, .ref w_costA, .ref w_giversA, .ref w_giverA, .ref w_registerA, .ref w_leftA, .ref w_orderA])), (p0A, .inl (p0C, p0N, .inr (.inl p0F)))] H := hP
  have hD : va_D A [(h0, .inr (9, [.int w_homes, .int w_values, .int w_width, .ref w_usesA, .ref w_givenInA, .ref w_liveInA, .ref w_liveA, .ref w_liveGuestsA, .int w_guests, .ref w_chainA, .ref w_nearA, .ref w_mateA, .ref w_degreeA, .ref w_costA, .ref w_giversA, .ref w_giverA, .ref w_registerA, .ref w_leftA, .ref w_orderA])), (p0A, .inl (p0C, p0N, .inr (.inl p0F)))] := hD
  have hK : va_K (dC, dI) cls [(p0C, .long)] s := hK
  refine W.widen (k := 0) (n := 0) (Nat.le_of_ble_eq_true rfl) (Nat.le_of_ble_eq_true rfl) ?_
  obtain rfl : r1 = (sX11_holds_r (p0F (Int32.toNatClampNeg ((p1 * w_width) + (p2 >>> (6 &&& 31))))) (p2 &&& 63)) := hw
  have hP9 : va_P (dC, dI) cls [(h0, .inr (9, [.int w_homes, .int w_values, .int w_width, .ref w_usesA, .ref w_givenInA, .ref w_liveInA, .ref w_liveA, .ref w_liveGuestsA, .int w_guests, .ref w_chainA, .ref w_nearA, .ref w_mateA, .ref w_degreeA, .ref w_costA, .ref w_giversA, .ref w_giverA, .ref w_registerA, .ref w_leftA, .ref w_orderA])), (p0A, .inl (p0C, p0N, .inr (.inl p0F)))] H := by exact hP.sub [0, 1] rfl
  have hD9 : va_D A [(h0, .inr (9, [.int w_homes, .int w_values, .int w_width, .ref w_usesA, .ref w_givenInA, .ref w_liveInA, .ref w_liveA, .ref w_liveGuestsA, .int w_guests, .ref w_chainA, .ref w_nearA, .ref w_mateA, .ref w_degreeA, .ref w_costA, .ref w_giversA, .ref w_giverA, .ref w_registerA, .ref w_leftA, .ref w_orderA])), (p0A, .inl (p0C, p0N, .inr (.inl p0F)))] := by exact hD.sub [0, 1] (by decide) rfl
  have hK9 : va_K (dC, dI) cls [(p0C, .long)] s := hK.sub [0] rfl
  refine W.widen (k := 0) (n := 0) (Nat.le_of_ble_eq_true rfl) (Nat.le_of_ble_eq_true rfl) ?_
  exact W.zret (v := (sX11_holds_r (p0F (Int32.toNatClampNeg ((p1 * w_width) + (p2 >>> (6 &&& 31))))) (p2 &&& 63))) hx hb hr (nz_sX11_holds_r _ _) (fun t ht hW => ⟨⟨(sX11_holds_r (p0F (Int32.toNatClampNeg ((p1 * w_width) + (p2 >>> (6 &&& 31))))) (p2 &&& 63)), (), rfl, rfl, ⟨by rw [ht]; exact hP9, va_K.moved hW.alike hK9, hD9⟩⟩, hS.F ht⟩) hS.2.2 dX2_isIn_20
def sX2_lowerLeft_1 (w_leftF : Nat → Int32) (p0 : Int32) : Nat → Int32 := (if (w_leftF (Int32.toNatClampNeg p0)) = (-1) then w_leftF else (upd w_leftF (Int32.toNatClampNeg p0) ((w_leftF (Int32.toNatClampNeg p0)) - 1)))
set_option maxHeartbeats 4000000 in
set_option maxRecDepth 100000 in
theorem kX2_lowerLeft {zs : Nat × Nat} (l : Launch) (dC : Nat → ClassId) (dI : Nat → Nat → Nat) (h0 : Nat) (w_homes : Int32) (w_values : Int32) (w_width : Int32) (w_usesA : Nat) (w_givenInA : Nat) (w_liveInA : Nat) (w_liveA : Nat) (w_liveGuestsA : Nat) (w_guests : Int32) (w_chainA : Nat) (w_nearA : Nat) (w_mateA : Nat) (w_degreeA : Nat) (w_costA : Nat) (w_giversA : Nat) (w_giverA : Nat) (w_registerA : Nat) (w_leftA : Nat) (w_leftN : Nat) (w_leftC : ClassId) (w_leftF : Nat → Int32) (w_orderA : Nat) (p0 : Int32) (sz : Nat) (hq1 : vp_in p0 w_leftN) : Met l yX2_lowerLeft (wz yX2_lowerLeft cX2_lowerLeft 2 (Option.none : Option Jvm.ClassFile.FieldType)) ({ frames := 0, cells := 0, slots := 0, locals := 0 }) (va_Pc [.ref h0, .int p0] (PRE zs dC dI [(h0, .inr (9, [.int w_homes, .int w_values, .int w_width, .ref w_usesA, .ref w_givenInA, .ref w_liveInA, .ref w_liveA, .ref w_liveGuestsA, .int w_guests, .ref w_chainA, .ref w_nearA, .ref w_mateA, .ref w_degreeA, .ref w_costA, .ref w_giversA, .ref w_giverA, .ref w_registerA, .ref w_leftA, .ref w_orderA])), (w_leftA, .inl (w_leftC, w_leftN, .inl w_leftF))] [(w_leftC, .int)] sz)) (va_Qv (fun (_ : Unit) => True) (fun _ t => POST dC dI [(h0, .inr (9, [.int w_homes, .int w_values, .int w_width, .ref w_usesA, .ref w_givenInA, .ref w_liveInA, .ref w_liveA, .ref w_liveGuestsA, .int w_guests, .ref w_chainA, .ref w_nearA, .ref w_mateA, .ref w_degreeA, .ref w_costA, .ref w_giversA, .ref w_giverA, .ref w_registerA, .ref w_leftA, .ref w_orderA])), (w_leftA, .inl (w_leftC, w_leftN, .inl (sX2_lowerLeft_1 w_leftF p0)))] [(w_leftC, .int)] (va_A [(h0, .inr (9, [.int w_homes, .int w_values, .int w_width, .ref w_usesA, .ref w_givenInA, .ref w_liveInA, .ref w_liveA, .ref w_liveGuestsA, .int w_guests, .ref w_chainA, .ref w_nearA, .ref w_mateA, .ref w_degreeA, .ref w_costA, .ref w_giversA, .ref w_giverA, .ref w_registerA, .ref w_leftA, .ref w_orderA])), (w_leftA, .inl (w_leftC, w_leftN, .inl w_leftF))] sz) t) (va_A [(h0, .inr (9, [.int w_homes, .int w_values, .int w_width, .ref w_usesA, .ref w_givenInA, .ref w_liveInA, .ref w_liveA, .ref w_liveGuestsA, .int w_guests, .ref w_chainA, .ref w_nearA, .ref w_mateA, .ref w_degreeA, .ref w_costA, .ref w_giversA, .ref w_giverA, .ref w_registerA, .ref w_leftA, .ref w_orderA])), (w_leftA, .inl (w_leftC, w_leftN, .inl w_leftF))] sz)) 0 0 (va_A [(h0, .inr (9, [.int w_homes, .int w_values, .int w_width, .ref w_usesA, .ref w_givenInA, .ref w_liveInA, .ref w_liveA, .ref w_liveGuestsA, .int w_guests, .ref w_chainA, .ref w_nearA, .ref w_mateA, .ref w_degreeA, .ref w_costA, .ref w_giversA, .ref w_giverA, .ref w_registerA, .ref w_leftA, .ref w_orderA])), (w_leftA, .inl (w_leftC, w_leftN, .inl w_leftF))] sz) := by
  refine Met.ofW (cc := cX2_lowerLeft) (maxL := 2) (ret := (Option.none : Option Jvm.ClassFile.FieldType)) (by decide) rfl ?_
  intro p e s m args below meth c s₁ B hml hv
  obtain ⟨rfl, hsz, hP, hK, hD0, hE⟩ := hv
  have hx := B.exec
  have hb := B.bytes
  have hr := B.returns
  have hts0 := atoms_spec (ws := wz yX2_lowerLeft cX2_lowerLeft 2 (Option.none : Option Jvm.ClassFile.FieldType)) B.pre
  have hts : ∀ w ∈ gw, w.before _ s = true := fun w h => hts0 w (List.mem_cons_of_mem _ h)
  have hown : s.vm.findClass RX2 = some m.cls := findClass_of_methodNamed B.named
  have hlocks := B.notSynchronized
  subst hsz
  have hD := hD0.self (sz := s.heap.size)
  generalize hAe : va_A [(h0, .inr (9, [.int w_homes, .int w_values, .int w_width, .ref w_usesA, .ref w_givenInA, .ref w_liveInA, .ref w_liveA, .ref w_liveGuestsA, .int w_guests, .ref w_chainA, .ref w_nearA, .ref w_mateA, .ref w_degreeA, .ref w_costA, .ref w_giversA, .ref w_giverA, .ref w_registerA, .ref w_leftA, .ref w_orderA])), (w_leftA, .inl (w_leftC, w_leftN, .inl w_leftF))] s.heap.size = A at hD hE ⊢
  have hA : ∀ q : Nat, s.heap.size ≤ q → A q := fun q h => by rw [← hAe]; exact Or.inr h
  have hS : va_S A s.heap s.heap [] := va_S.rf
  have hP : va_P (dC, dI) cls [(h0, .inr (9, [.int w_homes, .int w_values, .int w_width, .ref w_usesA, .ref w_givenInA, .ref w_liveInA, .ref w_liveA, .ref w_liveGuestsA, .int w_guests, .ref w_chainA, .ref w_nearA, .ref w_mateA, .ref w_degreeA, .ref w_costA, .ref w_giversA, .ref w_giverA, .ref w_registerA, .ref w_leftA, .ref w_orderA])), (w_leftA, .inl (w_leftC, w_leftN, .inl w_leftF))] s.heap := hP
  have hl := lv_entry ([.ref h0, .int p0]) (n := 2) (Nat.le_of_ble_eq_true rfl)
  rw [lg_entry_eq]
  generalize (lg_sl ([.ref h0, .int p0]) ++ List.replicate (2 - (lg_sl ([.ref h0, .int p0])).length) Slot.unset).toArray = ls at hl ⊢
  have hl : lv_has ls 2 [(0, .ref h0), (1, .int p0)] := hl
  refine lv_aload_n hx hb dX2_lowerLeft_0 rfl (lv_at hl 0 rfl) ?_
  refine va_get (D := (dC, dI)) (ci := 9) (v := .ref w_leftA) (C := RX2) (T := TX2) (N := 19) hx hb hts i_X2 hown hK hP 0 rfl rfl 17 (by decide) (hts _ qw108) (fun _ h9 => h9) rfl dX2_lowerLeft_1 ?_
  refine lv_iload_n hx hb dX2_lowerLeft_4 rfl (lv_at hl 1 rfl) ?_
  refine va_iald hx hb hK hP 1 0 rfl rfl (hq1) dX2_lowerLeft_5 ?_
  refine lv_iconst (v := (-1)) hx hb dX2_lowerLeft_6 (by decide) ?_
  by_cases hc1 : (w_leftF (Int32.toNatClampNeg p0)) = (-1)
  · refine lv_icmp_eq (tgt := 20) hx hb dX2_lowerLeft_7 (by decide) (fun _ => ?_) (fun c => absurd hc1 c)
    have e_sX2_lowerLeft_1 : sX2_lowerLeft_1 w_leftF p0 = w_leftF := by unfold sX2_lowerLeft_1; rw [if_pos hc1]
    have hP9 : va_P (dC, dI) cls [(h0, .inr (9, [.int w_homes, .int w_values, .int w_width, .ref w_usesA, .ref w_givenInA, .ref w_liveInA, .ref w_liveA, .ref w_liveGuestsA, .int w_guests, .ref w_chainA, .ref w_nearA, .ref w_mateA, .ref w_degreeA, .ref w_costA, .ref w_giversA, .ref w_giverA, .ref w_registerA, .ref w_leftA, .ref w_orderA])), (w_leftA, .inl (w_leftC, w_leftN, .inl (sX2_lowerLeft_1 w_leftF p0)))] s.heap := by rw [e_sX2_lowerLeft_1]; exact hP.sub [0, 1] rfl
    have hD9 : va_D A [(h0, .inr (9, [.int w_homes, .int w_values, .int w_width, .ref w_usesA, .ref w_givenInA, .ref w_liveInA, .ref w_liveA, .ref w_liveGuestsA, .int w_guests, .ref w_chainA, .ref w_nearA, .ref w_mateA, .ref w_degreeA, .ref w_costA, .ref w_giversA, .ref w_giverA, .ref w_registerA, .ref w_leftA, .ref w_orderA])), (w_leftA, .inl (w_leftC, w_leftN, .inl (sX2_lowerLeft_1 w_leftF p0)))] := by rw [e_sX2_lowerLeft_1]; exact hD.sub [0, 1] (by decide) rfl
    have hK9 : va_K (dC, dI) cls [(w_leftC, .int)] s := hK.sub [0] rfl
    refine W.widen (k := 0) (n := 0) (Nat.le_of_ble_eq_true rfl) (Nat.le_of_ble_eq_true rfl) ?_
    exact W.vret hx hb hr (fun t ht hW => ⟨⟨(), rfl, trivial, ⟨by rw [ht]; exact hP9, va_K.moved hW.alike hK9, hD9⟩⟩, hS.F ht⟩) hS.2.2 dX2_lowerLeft_20
  · refine lv_icmp_eq (tgt := 20) hx hb dX2_lowerLeft_7 (by decide) (fun c => absurd c hc1) (fun _ => ?_)
    refine lv_aload_n hx hb dX2_lowerLeft_10 rfl (lv_at hl 0 rfl) ?_
    refine va_get (D := (dC, dI)) (ci := 9) (v := .ref w_leftA) (C := RX2) (T := TX2) (N := 19) hx hb hts i_X2 hown hK hP 0 rfl rfl 17 (by decide) (hts _ qw108) (fun _ h9 => h9) rfl dX2_lowerLeft_11 ?_
    refine lv_iload_n hx hb dX2_lowerLeft_14 rfl (lv_at hl 1 rfl) ?_
    refine lv_dup2_11 hx hb dX2_lowerLeft_15 rfl rfl ?_
    refine va_iald hx hb hK hP 1 0 rfl rfl (hq1) dX2_lowerLeft_16 ?_
    refine lv_iconst (v := 1) hx hb dX2_lowerLeft_17 (by decide) ?_
    refine lv_isub hx hb dX2_lowerLeft_18 ?_
    refine va_iast hx hb hK hP hD hS 1 0 rfl rfl (hq1) dX2_lowerLeft_19 (fun H locs hP hD hS => ?_)
    have hP : va_P (dC, dI) cls [(h0, .inr (9, [.int w_homes, .int w_values, .int w_width, .ref w_usesA, .ref w_givenInA, .ref w_liveInA, .ref w_liveA, .ref w_liveGuestsA, .int w_guests, .ref w_chainA, .ref w_nearA, .ref w_mateA, .ref w_degreeA, .ref w_costA, .ref w_giversA, .ref w_giverA, .ref w_registerA, .ref w_leftA, .ref w_orderA])), (w_leftA, .inl (w_leftC, w_leftN, .inl (upd w_leftF (Int32.toNatClampNeg p0) ((w_leftF (Int32.toNatClampNeg p0)) - 1))))] H := hP
    have hD : va_D A [(h0, .inr (9, [.int w_homes, .int w_values, .int w_width, .ref w_usesA, .ref w_givenInA, .ref w_liveInA, .ref w_liveA, .ref w_liveGuestsA, .int w_guests, .ref w_chainA, .ref w_nearA, .ref w_mateA, .ref w_degreeA, .ref w_costA, .ref w_giversA, .ref w_giverA, .ref w_registerA, .ref w_leftA, .ref w_orderA])), (w_leftA, .inl (w_leftC, w_leftN, .inl (upd w_leftF (Int32.toNatClampNeg p0) ((w_leftF (Int32.toNatClampNeg p0)) - 1))))] := hD
    have e_sX2_lowerLeft_1 : sX2_lowerLeft_1 w_leftF p0 = (upd w_leftF (Int32.toNatClampNeg p0) ((w_leftF (Int32.toNatClampNeg p0)) - 1)) := by unfold sX2_lowerLeft_1; rw [if_neg hc1]
    have hP9 : va_P (dC, dI) cls [(h0, .inr (9, [.int w_homes, .int w_values, .int w_width, .ref w_usesA, .ref w_givenInA, .ref w_liveInA, .ref w_liveA, .ref w_liveGuestsA, .int w_guests, .ref w_chainA, .ref w_nearA, .ref w_mateA, .ref w_degreeA, .ref w_costA, .ref w_giversA, .ref w_giverA, .ref w_registerA, .ref w_leftA, .ref w_orderA])), (w_leftA, .inl (w_leftC, w_leftN, .inl (sX2_lowerLeft_1 w_leftF p0)))] H := by rw [e_sX2_lowerLeft_1]; exact hP.sub [0, 1] rfl
    have hD9 : va_D A [(h0, .inr (9, [.int w_homes, .int w_values, .int w_width, .ref w_usesA, .ref w_givenInA, .ref w_liveInA, .ref w_liveA, .ref w_liveGuestsA, .int w_guests, .ref w_chainA, .ref w_nearA, .ref w_mateA, .ref w_degreeA, .ref w_costA, .ref w_giversA, .ref w_giverA, .ref w_registerA, .ref w_leftA, .ref w_orderA])), (w_leftA, .inl (w_leftC, w_leftN, .inl (sX2_lowerLeft_1 w_leftF p0)))] := by rw [e_sX2_lowerLeft_1]; exact hD.sub [0, 1] (by decide) rfl
    have hK9 : va_K (dC, dI) cls [(w_leftC, .int)] s := hK.sub [0] rfl
    refine W.widen (k := 0) (n := 0) (Nat.le_of_ble_eq_true rfl) (Nat.le_of_ble_eq_true rfl) ?_
    exact W.vret hx hb hr (fun t ht hW => ⟨⟨(), rfl, trivial, ⟨by rw [ht]; exact hP9, va_K.moved hW.alike hK9, hD9⟩⟩, hS.F ht⟩) hS.2.2 dX2_lowerLeft_20
set_option maxHeartbeats 4000000 in
set_option maxRecDepth 100000 in
theorem kX2_put_n130 {zs : Nat × Nat} (l : Launch) (dC : Nat → ClassId) (dI : Nat → Nat → Nat) (a0 : Nat) (a1 : Nat) (i2 : Int32) (i3 : Int32) (k4 : ClassId) (a5 : Nat) (G6 : Nat → Int64) (a7 : Nat) (a11 : Nat) (a15 : Nat) (a18 : Nat) (a22 : Nat) (a26 : Nat) (a30 : Nat) (a34 : Nat) (a38 : Nat) (a42 : Nat) (a46 : Nat) (a50 : Nat) (a54 : Nat) (i58 : Int32) (i59 : Int32) (i60 : Int32) (a61 : Nat) (i62 : Int32) (sz : Nat) (hf0 : ¬ i58 ≤ i3) (hq1 : vp_in ((i2 * i60) + (i3 >>> (6 &&& 31))) a5) : Met l yX2_put (wz yX2_put cX2_put 4 (Option.none : Option Jvm.ClassFile.FieldType)) ({ frames := 0, cells := 0, slots := 0, locals := 0 }) (va_Pc [.ref a0, .ref a1, .int i2, .int i3] (PRE zs dC dI [(a1, .inl (k4, a5, .inr (.inl G6))), (a0, .inr (9, [.int i58, .int i59, .int i60, .ref a1, .ref a61, .ref a7, .ref a11, .ref a15, .int i62, .ref a18, .ref a22, .ref a26, .ref a30, .ref a34, .ref a38, .ref a42, .ref a46, .ref a50, .ref a54]))] [(k4, .long)] sz)) (va_Qv (fun (_ : Unit) => True) (fun _ t => POST dC dI [(a1, .inl (k4, a5, .inr (.inl (vp_updL G6 (Int32.toNatClampNeg ((i2 * i60) + (i3 >>> (6 &&& 31)))) ((G6 (Int32.toNatClampNeg ((i2 * i60) + (i3 >>> (6 &&& 31))))) ||| (((1 : Int64) <<< (((i3 &&& 63) : Int32).toInt64 &&& 63)))))))), (a0, .inr (9, [.int i58, .int i59, .int i60, .ref a1, .ref a61, .ref a7, .ref a11, .ref a15, .int i62, .ref a18, .ref a22, .ref a26, .ref a30, .ref a34, .ref a38, .ref a42, .ref a46, .ref a50, .ref a54]))] [(k4, .long)] (va_A [(a1, .inl (k4, a5, .inr (.inl G6))), (a0, .inr (9, [.int i58, .int i59, .int i60, .ref a1, .ref a61, .ref a7, .ref a11, .ref a15, .int i62, .ref a18, .ref a22, .ref a26, .ref a30, .ref a34, .ref a38, .ref a42, .ref a46, .ref a50, .ref a54]))] sz) t) (va_A [(a1, .inl (k4, a5, .inr (.inl G6))), (a0, .inr (9, [.int i58, .int i59, .int i60, .ref a1, .ref a61, .ref a7, .ref a11, .ref a15, .int i62, .ref a18, .ref a22, .ref a26, .ref a30, .ref a34, .ref a38, .ref a42, .ref a46, .ref a50, .ref a54]))] sz)) 0 0 (va_A [(a1, .inl (k4, a5, .inr (.inl G6))), (a0, .inr (9, [.int i58, .int i59, .int i60, .ref a1, .ref a61, .ref a7, .ref a11, .ref a15, .int i62, .ref a18, .ref a22, .ref a26, .ref a30, .ref a34, .ref a38, .ref a42, .ref a46, .ref a50, .ref a54]))] sz) := by
  refine Met.ofW (cc := cX2_put) (maxL := 4) (ret := (Option.none : Option Jvm.ClassFile.FieldType)) (by decide) rfl ?_
  intro p e s m args below meth c s₁ B hml hv
  obtain ⟨rfl, hsz, hP, hK, hD0, hE⟩ := hv
  have hx := B.exec
  have hb := B.bytes
  have hr := B.returns
  have hts0 := atoms_spec (ws := wz yX2_put cX2_put 4 (Option.none : Option Jvm.ClassFile.FieldType)) B.pre
  have hts : ∀ w ∈ gw, w.before _ s = true := fun w h => hts0 w (List.mem_cons_of_mem _ h)
  have hown : s.vm.findClass RX2 = some m.cls := findClass_of_methodNamed B.named
  have hlocks := B.notSynchronized
  subst hsz
  have hD := hD0.self (sz := s.heap.size)
  generalize hAe : va_A [(a1, .inl (k4, a5, .inr (.inl G6))), (a0, .inr (9, [.int i58, .int i59, .int i60, .ref a1, .ref a61, .ref a7, .ref a11, .ref a15, .int i62, .ref a18, .ref a22, .ref a26, .ref a30, .ref a34, .ref a38, .ref a42, .ref a46, .ref a50, .ref a54]))] s.heap.size = A at hD hE ⊢
  have hA : ∀ q : Nat, s.heap.size ≤ q → A q := fun q h => by rw [← hAe]; exact Or.inr h
  have hS : va_S A s.heap s.heap [] := va_S.rf
  have hP : va_P (dC, dI) cls [(a1, .inl (k4, a5, .inr (.inl G6))), (a0, .inr (9, [.int i58, .int i59, .int i60, .ref a1, .ref a61, .ref a7, .ref a11, .ref a15, .int i62, .ref a18, .ref a22, .ref a26, .ref a30, .ref a34, .ref a38, .ref a42, .ref a46, .ref a50, .ref a54]))] s.heap := hP
  have hl := lv_entry ([.ref a0, .ref a1, .int i2, .int i3]) (n := 4) (Nat.le_of_ble_eq_true rfl)
  rw [lg_entry_eq]
  generalize (lg_sl ([.ref a0, .ref a1, .int i2, .int i3]) ++ List.replicate (4 - (lg_sl ([.ref a0, .ref a1, .int i2, .int i3])).length) Slot.unset).toArray = ls at hl ⊢
  have hl : lv_has ls 4 [(0, .ref a0), (1, .ref a1), (2, .int i2), (3, .int i3)] := hl
  refine lv_aload_n hx hb dX2_put_0 rfl (lv_at hl 1 rfl) ?_
  refine lv_iload_n hx hb dX2_put_1 rfl (lv_at hl 2 rfl) ?_
  refine lv_aload_n hx hb dX2_put_2 rfl (lv_at hl 0 rfl) ?_
  refine va_get (D := (dC, dI)) (ci := 9) (v := .int i60) (C := RX2) (T := TX2) (N := 19) hx hb hts i_X2 hown hK hP 1 rfl rfl 2 (by decide) (hts _ qw377) (fun _ h9 => h9) rfl dX2_put_3 ?_
  refine lv_imul hx hb dX2_put_6 ?_
  refine lv_iload_n hx hb dX2_put_7 rfl (lv_at hl 3 rfl) ?_
  refine lv_bipush (v := 6) hx hb dX2_put_8 (by decide) ?_
  refine lv_ishr hx hb dX2_put_10 ?_
  refine lv_iadd hx hb dX2_put_11 ?_
  refine lv_dup2_11 hx hb dX2_put_12 rfl rfl ?_
  refine va_lald hx hb hK hP 0 0 rfl rfl (hq1) dX2_put_13 ?_
  refine lv_lconst (v := 1) hx hb dX2_put_14 (by decide) ?_
  refine lv_iload_n hx hb dX2_put_15 rfl (lv_at hl 3 rfl) ?_
  refine lv_bipush (v := 63) hx hb dX2_put_16 (by decide) ?_
  refine lv_iand hx hb dX2_put_18 ?_
  refine lv_lshl (v := (((1 : Int64) <<< (((i3 &&& 63) : Int32).toInt64 &&& 63)))) hx hb dX2_put_19 rfl ?_
  refine lv_lor hx hb dX2_put_20 ?_
  refine va_last hx hb hK hP hD hS 0 0 rfl rfl (hq1) dX2_put_21 (fun H locs hP hD hS => ?_)
  have hP : va_P (dC, dI) cls [(a1, .inl (k4, a5, .inr (.inl (vp_updL G6 (Int32.toNatClampNeg ((i2 * i60) + (i3 >>> (6 &&& 31)))) ((G6 (Int32.toNatClampNeg ((i2 * i60) + (i3 >>> (6 &&& 31))))) ||| (((1 : Int64) <<< (((i3 &&& 63) : Int32).toInt64 &&& 63)))))))), (a0, .inr (9, [.int i58, .int i59, .int i60, .ref a1, .ref a61, .ref a7, .ref a11, .ref a15, .int i62, .ref a18, .ref a22, .ref a26, .ref a30, .ref a34, .ref a38, .ref a42, .ref a46, .ref a50, .ref a54]))] H := hP
  have hD : va_D A [(a1, .inl (k4, a5, .inr (.inl (vp_updL G6 (Int32.toNatClampNeg ((i2 * i60) + (i3 >>> (6 &&& 31)))) ((G6 (Int32.toNatClampNeg ((i2 * i60) + (i3 >>> (6 &&& 31))))) ||| (((1 : Int64) <<< (((i3 &&& 63) : Int32).toInt64 &&& 63)))))))), (a0, .inr (9, [.int i58, .int i59, .int i60, .ref a1, .ref a61, .ref a7, .ref a11, .ref a15, .int i62, .ref a18, .ref a22, .ref a26, .ref a30, .ref a34, .ref a38, .ref a42, .ref a46, .ref a50, .ref a54]))] := hD
  have hP9 : va_P (dC, dI) cls [(a1, .inl (k4, a5, .inr (.inl (vp_updL G6 (Int32.toNatClampNeg ((i2 * i60) + (i3 >>> (6 &&& 31)))) ((G6 (Int32.toNatClampNeg ((i2 * i60) + (i3 >>> (6 &&& 31))))) ||| (((1 : Int64) <<< (((i3 &&& 63) : Int32).toInt64 &&& 63)))))))), (a0, .inr (9, [.int i58, .int i59, .int i60, .ref a1, .ref a61, .ref a7, .ref a11, .ref a15, .int i62, .ref a18, .ref a22, .ref a26, .ref a30, .ref a34, .ref a38, .ref a42, .ref a46, .ref a50, .ref a54]))] H := by exact hP.sub [0, 1] rfl
  have hD9 : va_D A [(a1, .inl (k4, a5, .inr (.inl (vp_updL G6 (Int32.toNatClampNeg ((i2 * i60) + (i3 >>> (6 &&& 31)))) ((G6 (Int32.toNatClampNeg ((i2 * i60) + (i3 >>> (6 &&& 31))))) ||| (((1 : Int64) <<< (((i3 &&& 63) : Int32).toInt64 &&& 63)))))))), (a0, .inr (9, [.int i58, .int i59, .int i60, .ref a1, .ref a61, .ref a7, .ref a11, .ref a15, .int i62, .ref a18, .ref a22, .ref a26, .ref a30, .ref a34, .ref a38, .ref a42, .ref a46, .ref a50, .ref a54]))] := by exact hD.sub [0, 1] (by decide) rfl
  have hK9 : va_K (dC, dI) cls [(k4, .long)] s := hK.sub [0] rfl
  refine W.widen (k := 0) (n := 0) (Nat.le_of_ble_eq_true rfl) (Nat.le_of_ble_eq_true rfl) ?_
  exact W.vret hx hb hr (fun t ht hW => ⟨⟨(), rfl, trivial, ⟨by rw [ht]; exact hP9, va_K.moved hW.alike hK9, hD9⟩⟩, hS.F ht⟩) hS.2.2 dX2_put_22
def sX2_noteUse_1 (w_homes : Int32) (w_width : Int32) (w_usesF : Nat → Int64) (w_givenInF : Nat → Int64) (p0 : Int32) (p1 : Int32) : Nat → Int64 := (if w_homes ≤ p1 then w_usesF else (if (sX11_holds_r (w_givenInF (Int32.toNatClampNeg ((p0 * w_width) + (p1 >>> (6 &&& 31))))) (p1 &&& 63)) = 0 then (vp_updL w_usesF (Int32.toNatClampNeg ((p0 * w_width) + (p1 >>> (6 &&& 31)))) ((w_usesF (Int32.toNatClampNeg ((p0 * w_width) + (p1 >>> (6 &&& 31))))) ||| (((1 : Int64) <<< (((p1 &&& 63) : Int32).toInt64 &&& 63))))) else w_usesF))
set_option maxHeartbeats 4000000 in
set_option maxRecDepth 100000 in
theorem kX2_noteUse {zs : Nat × Nat} (l : Launch) (dC : Nat → ClassId) (dI : Nat → Nat → Nat) (h0 : Nat) (w_homes : Int32) (w_values : Int32) (w_width : Int32) (w_usesA : Nat) (w_usesN : Nat) (w_usesC : ClassId) (w_usesF : Nat → Int64) (w_givenInA : Nat) (w_givenInN : Nat) (w_givenInC : ClassId) (w_givenInF : Nat → Int64) (w_liveInA : Nat) (w_liveA : Nat) (w_liveGuestsA : Nat) (w_guests : Int32) (w_chainA : Nat) (w_nearA : Nat) (w_mateA : Nat) (w_degreeA : Nat) (w_costA : Nat) (w_giversA : Nat) (w_giverA : Nat) (w_registerA : Nat) (w_leftA : Nat) (w_orderA : Nat) (p0 : Int32) (p1 : Int32) (sz : Nat) (hq1 : ¬ (w_homes ≤ p1) → vp_in ((p0 * w_width) + (p1 >>> (6 &&& 31))) w_givenInN) (hq2 : ¬ (w_homes ≤ p1) → (sX11_holds_r (w_givenInF (Int32.toNatClampNeg ((p0 * w_width) + (p1 >>> (6 &&& 31))))) (p1 &&& 63)) = 0 → vp_in ((p0 * w_width) + (p1 >>> (6 &&& 31))) w_usesN) : Met l yX2_noteUse (wz yX2_noteUse cX2_noteUse 3 (Option.none : Option Jvm.ClassFile.FieldType)) ({ frames := 2, cells := 0, slots := 0, locals := 45 }) (va_Pc [.ref h0, .int p0, .int p1] (PRE zs dC dI [(h0, .inr (9, [.int w_homes, .int w_values, .int w_width, .ref w_usesA, .ref w_givenInA, .ref w_liveInA, .ref w_liveA, .ref w_liveGuestsA, .int w_guests, .ref w_chainA, .ref w_nearA, .ref w_mateA, .ref w_degreeA, .ref w_costA, .ref w_giversA, .ref w_giverA, .ref w_registerA, .ref w_leftA, .ref w_orderA])), (w_usesA, .inl (w_usesC, w_usesN, .inr (.inl w_usesF))), (w_givenInA, .inl (w_givenInC, w_givenInN, .inr (.inl w_givenInF)))] [(w_usesC, .long), (w_givenInC, .long)] sz)) (va_Qv (fun (_ : Unit) => True) (fun _ t => POST dC dI [(h0, .inr (9, [.int w_homes, .int w_values, .int w_width, .ref w_usesA, .ref w_givenInA, .ref w_liveInA, .ref w_liveA, .ref w_liveGuestsA, .int w_guests, .ref w_chainA, .ref w_nearA, .ref w_mateA, .ref w_degreeA, .ref w_costA, .ref w_giversA, .ref w_giverA, .ref w_registerA, .ref w_leftA, .ref w_orderA])), (w_usesA, .inl (w_usesC, w_usesN, .inr (.inl (sX2_noteUse_1 w_homes w_width w_usesF w_givenInF p0 p1)))), (w_givenInA, .inl (w_givenInC, w_givenInN, .inr (.inl w_givenInF)))] [(w_usesC, .long), (w_givenInC, .long)] (va_A [(h0, .inr (9, [.int w_homes, .int w_values, .int w_width, .ref w_usesA, .ref w_givenInA, .ref w_liveInA, .ref w_liveA, .ref w_liveGuestsA, .int w_guests, .ref w_chainA, .ref w_nearA, .ref w_mateA, .ref w_degreeA, .ref w_costA, .ref w_giversA, .ref w_giverA, .ref w_registerA, .ref w_leftA, .ref w_orderA])), (w_usesA, .inl (w_usesC, w_usesN, .inr (.inl w_usesF))), (w_givenInA, .inl (w_givenInC, w_givenInN, .inr (.inl w_givenInF)))] sz) t) (va_A [(h0, .inr (9, [.int w_homes, .int w_values, .int w_width, .ref w_usesA, .ref w_givenInA, .ref w_liveInA, .ref w_liveA, .ref w_liveGuestsA, .int w_guests, .ref w_chainA, .ref w_nearA, .ref w_mateA, .ref w_degreeA, .ref w_costA, .ref w_giversA, .ref w_giverA, .ref w_registerA, .ref w_leftA, .ref w_orderA])), (w_usesA, .inl (w_usesC, w_usesN, .inr (.inl w_usesF))), (w_givenInA, .inl (w_givenInC, w_givenInN, .inr (.inl w_givenInF)))] sz)) 0 0 (va_A [(h0, .inr (9, [.int w_homes, .int w_values, .int w_width, .ref w_usesA, .ref w_givenInA, .ref w_liveInA, .ref w_liveA, .ref w_liveGuestsA, .int w_guests, .ref w_chainA, .ref w_nearA, .ref w_mateA, .ref w_degreeA, .ref w_costA, .ref w_giversA, .ref w_giverA, .ref w_registerA, .ref w_leftA, .ref w_orderA])), (w_usesA, .inl (w_usesC, w_usesN, .inr (.inl w_usesF))), (w_givenInA, .inl (w_givenInC, w_givenInN, .inr (.inl w_givenInF)))] sz) := by
  refine Met.ofW (cc := cX2_noteUse) (maxL := 3) (ret := (Option.none : Option Jvm.ClassFile.FieldType)) (by decide) rfl ?_
  intro p e s m args below meth c s₁ B hml hv
  obtain ⟨rfl, hsz, hP, hK, hD0, hE⟩ := hv
  have hx := B.exec
  have hb := B.bytes
  have hr := B.returns
  have hts0 := atoms_spec (ws := wz yX2_noteUse cX2_noteUse 3 (Option.none : Option Jvm.ClassFile.FieldType)) B.pre
  have hts : ∀ w ∈ gw, w.before _ s = true := fun w h => hts0 w (List.mem_cons_of_mem _ h)
  have hown : s.vm.findClass RX2 = some m.cls := findClass_of_methodNamed B.named
  have hlocks := B.notSynchronized
  subst hsz
  have hD := hD0.self (sz := s.heap.size)
  generalize hAe : va_A [(h0, .inr (9, [.int w_homes, .int w_values, .int w_width, .ref w_usesA, .ref w_givenInA, .ref w_liveInA, .ref w_liveA, .ref w_liveGuestsA, .int w_guests, .ref w_chainA, .ref w_nearA, .ref w_mateA, .ref w_degreeA, .ref w_costA, .ref w_giversA, .ref w_giverA, .ref w_registerA, .ref w_leftA, .ref w_orderA])), (w_usesA, .inl (w_usesC, w_usesN, .inr (.inl w_usesF))), (w_givenInA, .inl (w_givenInC, w_givenInN, .inr (.inl w_givenInF)))] s.heap.size = A at hD hE ⊢
  have hA : ∀ q : Nat, s.heap.size ≤ q → A q := fun q h => by rw [← hAe]; exact Or.inr h
  have hS : va_S A s.heap s.heap [] := va_S.rf
  have hP : va_P (dC, dI) cls [(h0, .inr (9, [.int w_homes, .int w_values, .int w_width, .ref w_usesA, .ref w_givenInA, .ref w_liveInA, .ref w_liveA, .ref w_liveGuestsA, .int w_guests, .ref w_chainA, .ref w_nearA, .ref w_mateA, .ref w_degreeA, .ref w_costA, .ref w_giversA, .ref w_giverA, .ref w_registerA, .ref w_leftA, .ref w_orderA])), (w_usesA, .inl (w_usesC, w_usesN, .inr (.inl w_usesF))), (w_givenInA, .inl (w_givenInC, w_givenInN, .inr (.inl w_givenInF)))] s.heap := hP
  have hl := lv_entry ([.ref h0, .int p0, .int p1]) (n := 3) (Nat.le_of_ble_eq_true rfl)
  rw [lg_entry_eq]
  generalize (lg_sl ([.ref h0, .int p0, .int p1]) ++ List.replicate (3 - (lg_sl ([.ref h0, .int p0, .int p1])).length) Slot.unset).toArray = ls at hl ⊢
  have hl : lv_has ls 3 [(0, .ref h0), (1, .int p0), (2, .int p1)] := hl
  refine lv_iload_n hx hb dX2_noteUse_0 rfl (lv_at hl 2 rfl) ?_
  refine lv_aload_n hx hb dX2_noteUse_1 rfl (lv_at hl 0 rfl) ?_
  refine va_get (D := (dC, dI)) (ci := 9) (v := .int w_homes) (C := RX2) (T := TX2) (N := 19) hx hb hts i_X2 hown hK hP 0 rfl rfl 0 (by decide) (hts _ qw375) (fun _ h9 => h9) rfl dX2_noteUse_2 ?_
  by_cases hc1 : w_homes ≤ p1
  · refine lv_icmp_ge (tgt := 31) hx hb dX2_noteUse_5 (by decide) (fun _ => ?_) (fun c => absurd hc1 c)
    have e_sX2_noteUse_1 : sX2_noteUse_1 w_homes w_width w_usesF w_givenInF p0 p1 = w_usesF := by unfold sX2_noteUse_1; rw [if_pos hc1]
    have hP9 : va_P (dC, dI) cls [(h0, .inr (9, [.int w_homes, .int w_values, .int w_width, .ref w_usesA, .ref w_givenInA, .ref w_liveInA, .ref w_liveA, .ref w_liveGuestsA, .int w_guests, .ref w_chainA, .ref w_nearA, .ref w_mateA, .ref w_degreeA, .ref w_costA, .ref w_giversA, .ref w_giverA, .ref w_registerA, .ref w_leftA, .ref w_orderA])), (w_usesA, .inl (w_usesC, w_usesN, .inr (.inl (sX2_noteUse_1 w_homes w_width w_usesF w_givenInF p0 p1)))), (w_givenInA, .inl (w_givenInC, w_givenInN, .inr (.inl w_givenInF)))] s.heap := by rw [e_sX2_noteUse_1]; exact hP.sub [0, 1, 2] rfl
    have hD9 : va_D A [(h0, .inr (9, [.int w_homes, .int w_values, .int w_width, .ref w_usesA, .ref w_givenInA, .ref w_liveInA, .ref w_liveA, .ref w_liveGuestsA, .int w_guests, .ref w_chainA, .ref w_nearA, .ref w_mateA, .ref w_degreeA, .ref w_costA, .ref w_giversA, .ref w_giverA, .ref w_registerA, .ref w_leftA, .ref w_orderA])), (w_usesA, .inl (w_usesC, w_usesN, .inr (.inl (sX2_noteUse_1 w_homes w_width w_usesF w_givenInF p0 p1)))), (w_givenInA, .inl (w_givenInC, w_givenInN, .inr (.inl w_givenInF)))] := by rw [e_sX2_noteUse_1]; exact hD.sub [0, 1, 2] (by decide) rfl
    have hK9 : va_K (dC, dI) cls [(w_usesC, .long), (w_givenInC, .long)] s := hK.sub [0, 1] rfl
    refine W.widen (k := 0) (n := 0) (Nat.le_of_ble_eq_true rfl) (Nat.le_of_ble_eq_true rfl) ?_
    exact W.vret hx hb hr (fun t ht hW => ⟨⟨(), rfl, trivial, ⟨by rw [ht]; exact hP9, va_K.moved hW.alike hK9, hD9⟩⟩, hS.F ht⟩) hS.2.2 dX2_noteUse_31
  · refine lv_icmp_ge (tgt := 31) hx hb dX2_noteUse_5 (by decide) (fun c => absurd c hc1) (fun _ => ?_)
    refine lv_aload_n hx hb dX2_noteUse_8 rfl (lv_at hl 0 rfl) ?_
    refine lv_aload_n hx hb dX2_noteUse_9 rfl (lv_at hl 0 rfl) ?_
    refine va_get (D := (dC, dI)) (ci := 9) (v := .ref w_givenInA) (C := RX2) (T := TX2) (N := 19) hx hb hts i_X2 hown hK hP 0 rfl rfl 4 (by decide) (hts _ qw96) (fun _ h9 => h9) rfl dX2_noteUse_10 ?_
    refine lv_iload_n hx hb dX2_noteUse_13 rfl (lv_at hl 1 rfl) ?_
    refine lv_iload_n hx hb dX2_noteUse_14 rfl (lv_at hl 2 rfl) ?_
    have hPc := hP.sub (ws' := [(h0, .inr (9, [.int w_homes, .int w_values, .int w_width, .ref w_usesA, .ref w_givenInA, .ref w_liveInA, .ref w_liveA, .ref w_liveGuestsA, .int w_guests, .ref w_chainA, .ref w_nearA, .ref w_mateA, .ref w_degreeA, .ref w_costA, .ref w_giversA, .ref w_giverA, .ref w_registerA, .ref w_leftA, .ref w_orderA])), (w_givenInA, .inl (w_givenInC, w_givenInN, .inr (.inl w_givenInF)))]) [0, 2] rfl
    have hDc := hD.sub (ws' := [(h0, .inr (9, [.int w_homes, .int w_values, .int w_width, .ref w_usesA, .ref w_givenInA, .ref w_liveInA, .ref w_liveA, .ref w_liveGuestsA, .int w_guests, .ref w_chainA, .ref w_nearA, .ref w_mateA, .ref w_degreeA, .ref w_costA, .ref w_giversA, .ref w_giverA, .ref w_registerA, .ref w_leftA, .ref w_orderA])), (w_givenInA, .inl (w_givenInC, w_givenInN, .inr (.inl w_givenInF)))]) [0, 2] (by decide) rfl
    have hKc := hK.sub (tys' := [(w_givenInC, .long)]) [1] rfl
    have hFc := va_free (wc := [(h0, .inr (9, [.int w_homes, .int w_values, .int w_width, .ref w_usesA, .ref w_givenInA, .ref w_liveInA, .ref w_liveA, .ref w_liveGuestsA, .int w_guests, .ref w_chainA, .ref w_nearA, .ref w_mateA, .ref w_degreeA, .ref w_costA, .ref w_giversA, .ref w_giverA, .ref w_registerA, .ref w_leftA, .ref w_orderA])), (w_givenInA, .inl (w_givenInC, w_givenInN, .inr (.inl w_givenInF)))]) hD hS hA [0, 2] rfl
    refine va_calli (va_runV (As := [.ref w_givenInA, .int p0, .int p1]) (rest := []) ⟨hx, hb, hml, hown, hts⟩ (kX2_isIn l dC dI (h0 := h0) (w_homes := w_homes) (w_values := w_values) (w_width := w_width) (w_usesA := w_usesA) (w_givenInA := w_givenInA) (w_liveInA := w_liveInA) (w_liveA := w_liveA) (w_liveGuestsA := w_liveGuestsA) (w_guests := w_guests) (w_chainA := w_chainA) (w_nearA := w_nearA) (w_mateA := w_mateA) (w_degreeA := w_degreeA) (w_costA := w_costA) (w_giversA := w_giversA) (w_giverA := w_giverA) (w_registerA := w_registerA) (w_leftA := w_leftA) (w_orderA := w_orderA) (p0A := w_givenInA) (p0C := w_givenInC) (p0N := w_givenInN) (p0F := w_givenInF) (p1 := p0) (p2 := p1) (sz := _) (hq1 := (hq1 hc1))) (cwV 3 hts (gi_V qw380 qw381 qw382 qw383 (gi_z qw379)) rfl rfl rfl (by decide +kernel) ⟨Nat.le_of_ble_eq_true rfl, Nat.le_of_ble_eq_true rfl⟩) ⟨PRE.blind, va_recv hKc hPc (ci := 9) (q0 := 0) rfl rfl, PRE.of hE hS hFc hPc hKc hDc⟩ rfl rfl hl.1 rfl (lv_room (Nat.le_of_ble_eq_true rfl)) dX2_noteUse_15 ⟨Nat.le_of_ble_eq_true rfl, Nat.le_of_ble_eq_true rfl⟩) hS (fun q _ h => hFc q h) hFc (fun r1 u t H locs ht hvm hw hB hz1 hk1 hS => ?_)
    obtain ⟨hP, hD, hK⟩ := JOIN (wr := [(w_usesA, .inl (w_usesC, w_usesN, .inr (.inl w_usesF)))]) hP hD hK [0, 2] [1] [0] rfl rfl (by decide) (by decide) rfl hk1 hFc ht hvm hB
    have hP : va_P (dC, dI) cls [(w_usesA, .inl (w_usesC, w_usesN, .inr (.inl w_usesF))), (h0, .inr (9, [.int w_homes, .int w_values, .int w_width, .ref w_usesA, .ref w_givenInA, .ref w_liveInA, .ref w_liveA, .ref w_liveGuestsA, .int w_guests, .ref w_chainA, .ref w_nearA, .ref w_mateA, .ref w_degreeA, .ref w_costA, .ref w_giversA, .ref w_giverA, .ref w_registerA, .ref w_leftA, .ref w_orderA])), (w_givenInA, .inl (w_givenInC, w_givenInN, .inr (.inl w_givenInF)))] H := hP
    have hD : va_D A [(w_usesA, .inl (w_usesC, w_usesN, .inr (.inl w_usesF))), (h0, .inr (9, [.int w_homes, .int w_values, .int w_width, .ref w_usesA, .ref w_givenInA, .ref w_liveInA, .ref w_liveA, .ref w_liveGuestsA, .int w_guests, .ref w_chainA, .ref w_nearA, .ref w_mateA, .ref w_degreeA, .ref w_costA, .ref w_giversA, .ref w_giverA, .ref w_registerA, .ref w_leftA, .ref w_orderA])), (w_givenInA, .inl (w_givenInC, w_givenInN, .inr (.inl w_givenInF)))] := hD
    have hK : va_K (dC, dI) cls [(w_usesC, .long), (w_givenInC, .long)] s := hK
    refine W.widen (k := 0) (n := 0) (Nat.le_of_ble_eq_true rfl) (Nat.le_of_ble_eq_true rfl) ?_
    obtain rfl : r1 = (sX11_holds_r (w_givenInF (Int32.toNatClampNeg ((p0 * w_width) + (p1 >>> (6 &&& 31))))) (p1 &&& 63)) := hw
    by_cases hc2 : (sX11_holds_r (w_givenInF (Int32.toNatClampNeg ((p0 * w_width) + (p1 >>> (6 &&& 31))))) (p1 &&& 63)) = 0
    · refine lv_if_ne (tgt := 31) hx hb dX2_noteUse_18 (by decide) (fun c => absurd hc2 c) (fun _ => ?_)
      refine lv_aload_n hx hb dX2_noteUse_21 rfl (lv_at hl 0 rfl) ?_
      refine lv_aload_n hx hb dX2_noteUse_22 rfl (lv_at hl 0 rfl) ?_
      refine va_get (D := (dC, dI)) (ci := 9) (v := .ref w_usesA) (C := RX2) (T := TX2) (N := 19) hx hb hts i_X2 hown hK hP 1 rfl rfl 3 (by decide) (hts _ qw95) (fun _ h9 => h9) rfl dX2_noteUse_23 ?_
      refine lv_iload_n hx hb dX2_noteUse_26 rfl (lv_at hl 1 rfl) ?_
      refine lv_iload_n hx hb dX2_noteUse_27 rfl (lv_at hl 2 rfl) ?_
      have hPc := hP.sub (ws' := [(w_usesA, .inl (w_usesC, w_usesN, .inr (.inl w_usesF))), (h0, .inr (9, [.int w_homes, .int w_values, .int w_width, .ref w_usesA, .ref w_givenInA, .ref w_liveInA, .ref w_liveA, .ref w_liveGuestsA, .int w_guests, .ref w_chainA, .ref w_nearA, .ref w_mateA, .ref w_degreeA, .ref w_costA, .ref w_giversA, .ref w_giverA, .ref w_registerA, .ref w_leftA, .ref w_orderA]))]) [0, 1] rfl
      have hDc := hD.sub (ws' := [(w_usesA, .inl (w_usesC, w_usesN, .inr (.inl w_usesF))), (h0, .inr (9, [.int w_homes, .int w_values, .int w_width, .ref w_usesA, .ref w_givenInA, .ref w_liveInA, .ref w_liveA, .ref w_liveGuestsA, .int w_guests, .ref w_chainA, .ref w_nearA, .ref w_mateA, .ref w_degreeA, .ref w_costA, .ref w_giversA, .ref w_giverA, .ref w_registerA, .ref w_leftA, .ref w_orderA]))]) [0, 1] (by decide) rfl
      have hKc := hK.sub (tys' := [(w_usesC, .long)]) [0] rfl
      have hFc := va_free (wc := [(w_usesA, .inl (w_usesC, w_usesN, .inr (.inl w_usesF))), (h0, .inr (9, [.int w_homes, .int w_values, .int w_width, .ref w_usesA, .ref w_givenInA, .ref w_liveInA, .ref w_liveA, .ref w_liveGuestsA, .int w_guests, .ref w_chainA, .ref w_nearA, .ref w_mateA, .ref w_degreeA, .ref w_costA, .ref w_giversA, .ref w_giverA, .ref w_registerA, .ref w_leftA, .ref w_orderA]))]) hD hS hA [0, 1] rfl
      refine va_callv (va_runV (As := [.ref w_usesA, .int p0, .int p1]) (rest := []) ⟨hx, hb, hml, hown, hts⟩ (kX2_put_n130 l dC dI (a0 := h0) (a1 := w_usesA) (i2 := p0) (i3 := p1) (k4 := w_usesC) (a5 := w_usesN) (G6 := w_usesF) (a7 := w_liveInA) (a11 := w_liveA) (a15 := w_liveGuestsA) (a18 := w_chainA) (a22 := w_nearA) (a26 := w_mateA) (a30 := w_degreeA) (a34 := w_costA) (a38 := w_giversA) (a42 := w_giverA) (a46 := w_registerA) (a50 := w_leftA) (a54 := w_orderA) (i58 := w_homes) (i59 := w_values) (i60 := w_width) (a61 := w_givenInA) (i62 := w_guests) (sz := _) (hf0 := hc1) (hq1 := (hq2 hc1 hc2))) (cwV 3 hts (gi_V qw386 qw387 qw388 qw383 (gi_z qw385)) rfl rfl rfl (by decide +kernel) ⟨Nat.le_of_ble_eq_true rfl, Nat.le_of_ble_eq_true rfl⟩) ⟨PRE.blind, va_recv hKc hPc (ci := 9) (q0 := 1) rfl rfl, PRE.of hE hS hFc hPc hKc hDc⟩ rfl rfl hl.1 rfl (lv_room (Nat.le_of_ble_eq_true rfl)) dX2_noteUse_28 ⟨Nat.le_of_ble_eq_true rfl, Nat.le_of_ble_eq_true rfl⟩) hS (fun q _ h => hFc q h) hFc (fun u t H locs ht hvm hw hB hz1 hk1 hS => ?_)
      obtain ⟨hP, hD, hK⟩ := JOIN (wr := [(w_givenInA, .inl (w_givenInC, w_givenInN, .inr (.inl w_givenInF)))]) hP hD hK [0, 1] [2] [1] rfl rfl (by decide) (by decide) rfl hk1 hFc ht hvm hB
      have hP : va_P (dC, dI) cls [(w_givenInA, .inl (w_givenInC, w_givenInN, .inr (.inl w_givenInF))), (w_usesA, .inl (w_usesC, w_usesN, .inr (.inl (vp_updL w_usesF (Int32.toNatClampNeg ((p0 * w_width) + (p1 >>> (6 &&& 31)))) ((w_usesF (Int32.toNatClampNeg ((p0 * w_width) + (p1 >>> (6 &&& 31))))) ||| (((1 : Int64) <<< (((p1 &&& 63) : Int32).toInt64 &&& 63)))))))), (h0, .inr (9, [.int w_homes, .int w_values, .int w_width, .ref w_usesA, .ref w_givenInA, .ref w_liveInA, .ref w_liveA, .ref w_liveGuestsA, .int w_guests, .ref w_chainA, .ref w_nearA, .ref w_mateA, .ref w_degreeA, .ref w_costA, .ref w_giversA, .ref w_giverA, .ref w_registerA, .ref w_leftA, .ref w_orderA]))] H := hP
      have hD : va_D A [(w_givenInA, .inl (w_givenInC, w_givenInN, .inr (.inl w_givenInF))), (w_usesA, .inl (w_usesC, w_usesN, .inr (.inl (vp_updL w_usesF (Int32.toNatClampNeg ((p0 * w_width) + (p1 >>> (6 &&& 31)))) ((w_usesF (Int32.toNatClampNeg ((p0 * w_width) + (p1 >>> (6 &&& 31))))) ||| (((1 : Int64) <<< (((p1 &&& 63) : Int32).toInt64 &&& 63)))))))), (h0, .inr (9, [.int w_homes, .int w_values, .int w_width, .ref w_usesA, .ref w_givenInA, .ref w_liveInA, .ref w_liveA, .ref w_liveGuestsA, .int w_guests, .ref w_chainA, .ref w_nearA, .ref w_mateA, .ref w_degreeA, .ref w_costA, .ref w_giversA, .ref w_giverA, .ref w_registerA, .ref w_leftA, .ref w_orderA]))] := hD
      have hK : va_K (dC, dI) cls [(w_givenInC, .long), (w_usesC, .long)] s := hK
      refine W.widen (k := 0) (n := 0) (Nat.le_of_ble_eq_true rfl) (Nat.le_of_ble_eq_true rfl) ?_
      have e_sX2_noteUse_1 : sX2_noteUse_1 w_homes w_width w_usesF w_givenInF p0 p1 = (vp_updL w_usesF (Int32.toNatClampNeg ((p0 * w_width) + (p1 >>> (6 &&& 31)))) ((w_usesF (Int32.toNatClampNeg ((p0 * w_width) + (p1 >>> (6 &&& 31))))) ||| (((1 : Int64) <<< (((p1 &&& 63) : Int32).toInt64 &&& 63))))) := by unfold sX2_noteUse_1; rw [if_neg hc1, if_pos hc2]
      have hP9 : va_P (dC, dI) cls [(h0, .inr (9, [.int w_homes, .int w_values, .int w_width, .ref w_usesA, .ref w_givenInA, .ref w_liveInA, .ref w_liveA, .ref w_liveGuestsA, .int w_guests, .ref w_chainA, .ref w_nearA, .ref w_mateA, .ref w_degreeA, .ref w_costA, .ref w_giversA, .ref w_giverA, .ref w_registerA, .ref w_leftA, .ref w_orderA])), (w_usesA, .inl (w_usesC, w_usesN, .inr (.inl (sX2_noteUse_1 w_homes w_width w_usesF w_givenInF p0 p1)))), (w_givenInA, .inl (w_givenInC, w_givenInN, .inr (.inl w_givenInF)))] H := by rw [e_sX2_noteUse_1]; exact hP.sub [2, 1, 0] rfl
      have hD9 : va_D A [(h0, .inr (9, [.int w_homes, .int w_values, .int w_width, .ref w_usesA, .ref w_givenInA, .ref w_liveInA, .ref w_liveA, .ref w_liveGuestsA, .int w_guests, .ref w_chainA, .ref w_nearA, .ref w_mateA, .ref w_degreeA, .ref w_costA, .ref w_giversA, .ref w_giverA, .ref w_registerA, .ref w_leftA, .ref w_orderA])), (w_usesA, .inl (w_usesC, w_usesN, .inr (.inl (sX2_noteUse_1 w_homes w_width w_usesF w_givenInF p0 p1)))), (w_givenInA, .inl (w_givenInC, w_givenInN, .inr (.inl w_givenInF)))] := by rw [e_sX2_noteUse_1]; exact hD.sub [2, 1, 0] (by decide) rfl
      have hK9 : va_K (dC, dI) cls [(w_usesC, .long), (w_givenInC, .long)] s := hK.sub [1, 0] rfl
      refine W.widen (k := 0) (n := 0) (Nat.le_of_ble_eq_true rfl) (Nat.le_of_ble_eq_true rfl) ?_
      exact W.vret hx hb hr (fun t ht hW => ⟨⟨(), rfl, trivial, ⟨by rw [ht]; exact hP9, va_K.moved hW.alike hK9, hD9⟩⟩, hS.F ht⟩) hS.2.2 dX2_noteUse_31
    · refine lv_if_ne (tgt := 31) hx hb dX2_noteUse_18 (by decide) (fun _ => ?_) (fun c => absurd c hc2)
      have e_sX2_noteUse_1 : sX2_noteUse_1 w_homes w_width w_usesF w_givenInF p0 p1 = w_usesF := by unfold sX2_noteUse_1; rw [if_neg hc1, if_neg hc2]
      have hP9 : va_P (dC, dI) cls [(h0, .inr (9, [.int w_homes, .int w_values, .int w_width, .ref w_usesA, .ref w_givenInA, .ref w_liveInA, .ref w_liveA, .ref w_liveGuestsA, .int w_guests, .ref w_chainA, .ref w_nearA, .ref w_mateA, .ref w_degreeA, .ref w_costA, .ref w_giversA, .ref w_giverA, .ref w_registerA, .ref w_leftA, .ref w_orderA])), (w_usesA, .inl (w_usesC, w_usesN, .inr (.inl (sX2_noteUse_1 w_homes w_width w_usesF w_givenInF p0 p1)))), (w_givenInA, .inl (w_givenInC, w_givenInN, .inr (.inl w_givenInF)))] H := by rw [e_sX2_noteUse_1]; exact hP.sub [1, 0, 2] rfl
      have hD9 : va_D A [(h0, .inr (9, [.int w_homes, .int w_values, .int w_width, .ref w_usesA, .ref w_givenInA, .ref w_liveInA, .ref w_liveA, .ref w_liveGuestsA, .int w_guests, .ref w_chainA, .ref w_nearA, .ref w_mateA, .ref w_degreeA, .ref w_costA, .ref w_giversA, .ref w_giverA, .ref w_registerA, .ref w_leftA, .ref w_orderA])), (w_usesA, .inl (w_usesC, w_usesN, .inr (.inl (sX2_noteUse_1 w_homes w_width w_usesF w_givenInF p0 p1)))), (w_givenInA, .inl (w_givenInC, w_givenInN, .inr (.inl w_givenInF)))] := by rw [e_sX2_noteUse_1]; exact hD.sub [1, 0, 2] (by decide) rfl
      have hK9 : va_K (dC, dI) cls [(w_usesC, .long), (w_givenInC, .long)] s := hK.sub [0, 1] rfl
      refine W.widen (k := 0) (n := 0) (Nat.le_of_ble_eq_true rfl) (Nat.le_of_ble_eq_true rfl) ?_
      exact W.vret hx hb hr (fun t ht hW => ⟨⟨(), rfl, trivial, ⟨by rw [ht]; exact hP9, va_K.moved hW.alike hK9, hD9⟩⟩, hS.F ht⟩) hS.2.2 dX2_noteUse_31
def sX2_registerBit_r (w_registerF : Nat → Int32) (p0 : Int32) : Int32 := (if 0 ≤ (w_registerF (Int32.toNatClampNeg p0)) then (1 <<< ((w_registerF (Int32.toNatClampNeg p0)) &&& 31)) else 0)
set_option maxHeartbeats 4000000 in
set_option maxRecDepth 100000 in
theorem kX2_registerBit {zs : Nat × Nat} (l : Launch) (dC : Nat → ClassId) (dI : Nat → Nat → Nat) (h0 : Nat) (w_homes : Int32) (w_values : Int32) (w_width : Int32) (w_usesA : Nat) (w_givenInA : Nat) (w_liveInA : Nat) (w_liveA : Nat) (w_liveGuestsA : Nat) (w_guests : Int32) (w_chainA : Nat) (w_nearA : Nat) (w_mateA : Nat) (w_degreeA : Nat) (w_costA : Nat) (w_giversA : Nat) (w_giverA : Nat) (w_registerA : Nat) (w_registerN : Nat) (w_registerC : ClassId) (w_registerF : Nat → Int32) (w_leftA : Nat) (w_orderA : Nat) (p0 : Int32) (sz : Nat) (hq1 : vp_in p0 w_registerN) : Met l yX2_registerBit (wz yX2_registerBit cX2_registerBit 2 (Option.some Jvm.ClassFile.FieldType.int)) ({ frames := 0, cells := 0, slots := 0, locals := 0 }) (va_Pc [.ref h0, .int p0] (PRE zs dC dI [(h0, .inr (9, [.int w_homes, .int w_values, .int w_width, .ref w_usesA, .ref w_givenInA, .ref w_liveInA, .ref w_liveA, .ref w_liveGuestsA, .int w_guests, .ref w_chainA, .ref w_nearA, .ref w_mateA, .ref w_degreeA, .ref w_costA, .ref w_giversA, .ref w_giverA, .ref w_registerA, .ref w_leftA, .ref w_orderA])), (w_registerA, .inl (w_registerC, w_registerN, .inl w_registerF))] [(w_registerC, .int)] sz)) (va_Qi (fun (r : Int32) (_ : Unit) => r = (sX2_registerBit_r w_registerF p0)) (fun _ t => POST dC dI [(h0, .inr (9, [.int w_homes, .int w_values, .int w_width, .ref w_usesA, .ref w_givenInA, .ref w_liveInA, .ref w_liveA, .ref w_liveGuestsA, .int w_guests, .ref w_chainA, .ref w_nearA, .ref w_mateA, .ref w_degreeA, .ref w_costA, .ref w_giversA, .ref w_giverA, .ref w_registerA, .ref w_leftA, .ref w_orderA])), (w_registerA, .inl (w_registerC, w_registerN, .inl w_registerF))] [(w_registerC, .int)] (va_A [(h0, .inr (9, [.int w_homes, .int w_values, .int w_width, .ref w_usesA, .ref w_givenInA, .ref w_liveInA, .ref w_liveA, .ref w_liveGuestsA, .int w_guests, .ref w_chainA, .ref w_nearA, .ref w_mateA, .ref w_degreeA, .ref w_costA, .ref w_giversA, .ref w_giverA, .ref w_registerA, .ref w_leftA, .ref w_orderA])), (w_registerA, .inl (w_registerC, w_registerN, .inl w_registerF))] sz) t) (va_A [(h0, .inr (9, [.int w_homes, .int w_values, .int w_width, .ref w_usesA, .ref w_givenInA, .ref w_liveInA, .ref w_liveA, .ref w_liveGuestsA, .int w_guests, .ref w_chainA, .ref w_nearA, .ref w_mateA, .ref w_degreeA, .ref w_costA, .ref w_giversA, .ref w_giverA, .ref w_registerA, .ref w_leftA, .ref w_orderA])), (w_registerA, .inl (w_registerC, w_registerN, .inl w_registerF))] sz)) 0 0 (va_A [(h0, .inr (9, [.int w_homes, .int w_values, .int w_width, .ref w_usesA, .ref w_givenInA, .ref w_liveInA, .ref w_liveA, .ref w_liveGuestsA, .int w_guests, .ref w_chainA, .ref w_nearA, .ref w_mateA, .ref w_degreeA, .ref w_costA, .ref w_giversA, .ref w_giverA, .ref w_registerA, .ref w_leftA, .ref w_orderA])), (w_registerA, .inl (w_registerC, w_registerN, .inl w_registerF))] sz) := by
  refine Met.ofW (cc := cX2_registerBit) (maxL := 2) (ret := (Option.some Jvm.ClassFile.FieldType.int)) (by decide) rfl ?_
  intro p e s m args below meth c s₁ B hml hv
  obtain ⟨rfl, hsz, hP, hK, hD0, hE⟩ := hv
  have hx := B.exec
  have hb := B.bytes
  have hr := B.returns
  have hts0 := atoms_spec (ws := wz yX2_registerBit cX2_registerBit 2 (Option.some Jvm.ClassFile.FieldType.int)) B.pre
  have hts : ∀ w ∈ gw, w.before _ s = true := fun w h => hts0 w (List.mem_cons_of_mem _ h)
  have hown : s.vm.findClass RX2 = some m.cls := findClass_of_methodNamed B.named
  have hlocks := B.notSynchronized
  subst hsz
  have hD := hD0.self (sz := s.heap.size)
  generalize hAe : va_A [(h0, .inr (9, [.int w_homes, .int w_values, .int w_width, .ref w_usesA, .ref w_givenInA, .ref w_liveInA, .ref w_liveA, .ref w_liveGuestsA, .int w_guests, .ref w_chainA, .ref w_nearA, .ref w_mateA, .ref w_degreeA, .ref w_costA, .ref w_giversA, .ref w_giverA, .ref w_registerA, .ref w_leftA, .ref w_orderA])), (w_registerA, .inl (w_registerC, w_registerN, .inl w_registerF))] s.heap.size = A at hD hE ⊢
  have hA : ∀ q : Nat, s.heap.size ≤ q → A q := fun q h => by rw [← hAe]; exact Or.inr h
  have hS : va_S A s.heap s.heap [] := va_S.rf
  have hP : va_P (dC, dI) cls [(h0, .inr (9, [.int w_homes, .int w_values, .int w_width, .ref w_usesA, .ref w_givenInA, .ref w_liveInA, .ref w_liveA, .ref w_liveGuestsA, .int w_guests, .ref w_chainA, .ref w_nearA, .ref w_mateA, .ref w_degreeA, .ref w_costA, .ref w_giversA, .ref w_giverA, .ref w_registerA, .ref w_leftA, .ref w_orderA])), (w_registerA, .inl (w_registerC, w_registerN, .inl w_registerF))] s.heap := hP
  have hl := lv_entry ([.ref h0, .int p0]) (n := 2) (Nat.le_of_ble_eq_true rfl)
  rw [lg_entry_eq]
  generalize (lg_sl ([.ref h0, .int p0]) ++ List.replicate (2 - (lg_sl ([.ref h0, .int p0])).length) Slot.unset).toArray = ls at hl ⊢
  have hl : lv_has ls 2 [(0, .ref h0), (1, .int p0)] := hl
  refine lv_aload_n hx hb dX2_registerBit_0 rfl (lv_at hl 0 rfl) ?_
  refine va_get (D := (dC, dI)) (ci := 9) (v := .ref w_registerA) (C := RX2) (T := TX2) (N := 19) hx hb hts i_X2 hown hK hP 0 rfl rfl 16 (by decide) (hts _ qw107) (fun _ h9 => h9) rfl dX2_registerBit_1 ?_
  refine lv_iload_n hx hb dX2_registerBit_4 rfl (lv_at hl 1 rfl) ?_
  refine va_iald hx hb hK hP 1 0 rfl rfl (hq1) dX2_registerBit_5 ?_
  by_cases hc1 : 0 ≤ (w_registerF (Int32.toNatClampNeg p0))
  · refine lv_if_ge (tgt := 13) hx hb dX2_registerBit_6 (by decide) (fun _ => ?_) (fun c => absurd hc1 c)
    refine lv_iconst (v := 1) hx hb dX2_registerBit_13 (by decide) ?_
    refine lv_aload_n hx hb dX2_registerBit_14 rfl (lv_at hl 0 rfl) ?_
    refine va_get (D := (dC, dI)) (ci := 9) (v := .ref w_registerA) (C := RX2) (T := TX2) (N := 19) hx hb hts i_X2 hown hK hP 0 rfl rfl 16 (by decide) (hts _ qw107) (fun _ h9 => h9) rfl dX2_registerBit_15 ?_
    refine lv_iload_n hx hb dX2_registerBit_18 rfl (lv_at hl 1 rfl) ?_
    refine va_iald hx hb hK hP 1 0 rfl rfl (hq1) dX2_registerBit_19 ?_
    refine lv_ishl hx hb dX2_registerBit_20 ?_
    have e_sX2_registerBit_r : sX2_registerBit_r w_registerF p0 = (1 <<< ((w_registerF (Int32.toNatClampNeg p0)) &&& 31)) := by unfold sX2_registerBit_r; rw [if_pos hc1]
    have hP9 : va_P (dC, dI) cls [(h0, .inr (9, [.int w_homes, .int w_values, .int w_width, .ref w_usesA, .ref w_givenInA, .ref w_liveInA, .ref w_liveA, .ref w_liveGuestsA, .int w_guests, .ref w_chainA, .ref w_nearA, .ref w_mateA, .ref w_degreeA, .ref w_costA, .ref w_giversA, .ref w_giverA, .ref w_registerA, .ref w_leftA, .ref w_orderA])), (w_registerA, .inl (w_registerC, w_registerN, .inl w_registerF))] s.heap := by exact hP.sub [0, 1] rfl
    have hD9 : va_D A [(h0, .inr (9, [.int w_homes, .int w_values, .int w_width, .ref w_usesA, .ref w_givenInA, .ref w_liveInA, .ref w_liveA, .ref w_liveGuestsA, .int w_guests, .ref w_chainA, .ref w_nearA, .ref w_mateA, .ref w_degreeA, .ref w_costA, .ref w_giversA, .ref w_giverA, .ref w_registerA, .ref w_leftA, .ref w_orderA])), (w_registerA, .inl (w_registerC, w_registerN, .inl w_registerF))] := by exact hD.sub [0, 1] (by decide) rfl
    have hK9 : va_K (dC, dI) cls [(w_registerC, .int)] s := hK.sub [0] rfl
    refine W.widen (k := 0) (n := 0) (Nat.le_of_ble_eq_true rfl) (Nat.le_of_ble_eq_true rfl) ?_
    exact W.iret (v := (1 <<< ((w_registerF (Int32.toNatClampNeg p0)) &&& 31))) hx hb hr (fun t ht hW => ⟨⟨(1 <<< ((w_registerF (Int32.toNatClampNeg p0)) &&& 31)), (), rfl, e_sX2_registerBit_r.symm, ⟨by rw [ht]; exact hP9, va_K.moved hW.alike hK9, hD9⟩⟩, hS.F ht⟩) hS.2.2 dX2_registerBit_21
  · refine lv_if_ge (tgt := 13) hx hb dX2_registerBit_6 (by decide) (fun c => absurd c hc1) (fun _ => ?_)
    refine lv_iconst (v := 0) hx hb dX2_registerBit_9 (by decide) ?_
    refine lv_goto (tgt := 21) hx hb dX2_registerBit_10 (by decide) ?_
    have e_sX2_registerBit_r : sX2_registerBit_r w_registerF p0 = 0 := by unfold sX2_registerBit_r; rw [if_neg hc1]
    have hP9 : va_P (dC, dI) cls [(h0, .inr (9, [.int w_homes, .int w_values, .int w_width, .ref w_usesA, .ref w_givenInA, .ref w_liveInA, .ref w_liveA, .ref w_liveGuestsA, .int w_guests, .ref w_chainA, .ref w_nearA, .ref w_mateA, .ref w_degreeA, .ref w_costA, .ref w_giversA, .ref w_giverA, .ref w_registerA, .ref w_leftA, .ref w_orderA])), (w_registerA, .inl (w_registerC, w_registerN, .inl w_registerF))] s.heap := by exact hP.sub [0, 1] rfl
    have hD9 : va_D A [(h0, .inr (9, [.int w_homes, .int w_values, .int w_width, .ref w_usesA, .ref w_givenInA, .ref w_liveInA, .ref w_liveA, .ref w_liveGuestsA, .int w_guests, .ref w_chainA, .ref w_nearA, .ref w_mateA, .ref w_degreeA, .ref w_costA, .ref w_giversA, .ref w_giverA, .ref w_registerA, .ref w_leftA, .ref w_orderA])), (w_registerA, .inl (w_registerC, w_registerN, .inl w_registerF))] := by exact hD.sub [0, 1] (by decide) rfl
    have hK9 : va_K (dC, dI) cls [(w_registerC, .int)] s := hK.sub [0] rfl
    refine W.widen (k := 0) (n := 0) (Nat.le_of_ble_eq_true rfl) (Nat.le_of_ble_eq_true rfl) ?_
    exact W.iret (v := 0) hx hb hr (fun t ht hW => ⟨⟨0, (), rfl, e_sX2_registerBit_r.symm, ⟨by rw [ht]; exact hP9, va_K.moved hW.alike hK9, hD9⟩⟩, hS.F ht⟩) hS.2.2 dX2_registerBit_21
